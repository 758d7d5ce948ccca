
set_option maxRecDepth 100000 in
theorem c_Mo_pull {l : Launch} {D : va_G} {kA : Nat → ClassId} (h_Mo_between : ct_ok PRD l D kA GG y_Mo_between z_Mo_between e_Mo_between) (h_Mo_rootOf : ct_ok PRD l D kA GG y_Mo_rootOf z_Mo_rootOf e_Mo_rootOf) (h_Mo_weight : ct_ok PRD l D kA GG y_Mo_weight z_Mo_weight e_Mo_weight) : ct_ok PRD l D kA GG y_Mo_pull z_Mo_pull e_Mo_pull := chk_all_ok (FT := [(305, 13, 135), (308, 13, 136), (311, 13, 137), (314, 13, 138)]) (PT := []) (CT := t_Mo_pull_ct) (KT := [(2, 1007, .long (-1), (1, -1, -1, [])), (2, 1009, .long (65536), (1, 65536, 65536, [])), (2, 1015, .long (1024), (1, 1024, 1024, []))]) (NT := []) (AN := n_Mo_pull_an) (OT := [o_Mo_pull_0, o_Mo_pull_1, o_Mo_pull_2, o_Mo_pull_3]) 3 1520 (List.forall_mem_cons.mpr ⟨oo_Mo_pull_0, List.forall_mem_cons.mpr ⟨oo_Mo_pull_1, List.forall_mem_cons.mpr ⟨oo_Mo_pull_2, List.forall_mem_cons.mpr ⟨oo_Mo_pull_3, List.forall_mem_nil _⟩⟩⟩⟩) (by decide +kernel) ⟨List.forall_mem_cons.mpr ⟨gf_Mo_305, List.forall_mem_cons.mpr ⟨gf_Mo_308, List.forall_mem_cons.mpr ⟨gf_Mo_311, List.forall_mem_cons.mpr ⟨gf_Mo_314, List.forall_mem_nil _⟩⟩⟩⟩, List.forall_mem_nil _, List.forall_mem_cons.mpr ⟨cl_static (y := y_Mo_rootOf) h_Mo_rootOf wm_3629 wm_9 wm_3627 wm_3628 ⟨by decide, by decide, by decide +kernel⟩ (by decide), List.forall_mem_cons.mpr ⟨cl_virtual (y := y_Mo_between) (ci := 13) rfl rfl ⟨_, _, rfl⟩ (by decide +kernel) h_Mo_between wm_3033 wm_9 wm_3030 wm_3032 wv_13_5 ⟨by decide, by decide, by decide +kernel⟩ (by decide), List.forall_mem_cons.mpr ⟨cl_virtual (y := y_Mo_weight) (ci := 13) rfl rfl ⟨_, _, rfl⟩ (by decide +kernel) h_Mo_weight wm_3339 wm_9 wm_3336 wm_3338 wv_17_7 ⟨by decide, by decide, by decide +kernel⟩ (by decide), List.forall_mem_nil _⟩⟩⟩, List.forall_mem_cons.mpr ⟨⟨kt_mk2 wm_3625, fun _ => Or.inr (Or.inl ⟨rfl, _, rfl, by decide, by decide⟩)⟩, List.forall_mem_cons.mpr ⟨⟨kt_mk2 wm_3626, fun _ => Or.inr (Or.inl ⟨rfl, _, rfl, by decide, by decide⟩)⟩, List.forall_mem_cons.mpr ⟨⟨kt_mk2 wm_3631, fun _ => Or.inr (Or.inl ⟨rfl, _, rfl, by decide, by decide⟩)⟩, List.forall_mem_nil _⟩⟩⟩, List.forall_mem_nil _, GG_pl⟩ (by decide +kernel)

set_option maxHeartbeats 4000000 in
theorem vc_Mo_stOrder_0_0 (x1 : Int) (x2 : Int) (x4 : Int) (x6 : Int) (x7 : Int) (x8 : Int) (x10 : Int) (x11 : Int) (pt_0 : Int → Int) (ph_0 : Int → Int) (alive_0 : Int → Int) (pn_0 : Int) (pm_0 : Int) (ph_1 : Int → Int) (pt_1 : Int → Int) (alive_1 : Int → Int) (pn_1 : Int) (pm_1 : Int) (pt_2 : Int → Int) (ph_2 : Int → Int) (alive_2 : Int → Int) (pn_2 : Int) (pm_2 : Int) (pt_3 : Int → Int) (ph_3 : Int → Int) (alive_3 : Int → Int) (pn_3 : Int) (pm_3 : Int) (pt_4 : Int → Int) (ph_4 : Int → Int) (alive_4 : Int → Int) (pn_4 : Int) (pm_4 : Int) (onlyPiece_0 : Int) (onlyPiece_1 : Int) (rowMany_0 : Int) (rowMany_1 : Int) (onlyPiece_2 : Int) (rowMany_2 : Int) (onlyPiece_3 : Int) (rowMany_3 : Int) (rowMany_4 : Int) (row_0 : Int → Int) (row_1 : Int → Int) (row_2 : Int → Int) (row_3 : Int → Int) (row_4 : Int → Int) (gx : Int) (k1 : (-1) ≤ x1 ∧ x1 ≤ (-1)) (k2 : 2 ≤ x2 ∧ x2 ≤ 2) (k4 : 0 ≤ x4 ∧ x4 ≤ 0) (k6 : 0 ≤ x6 ∧ x6 ≤ 0) (k7 : 0 ≤ x7 ∧ x7 ≤ 24) (k8 : 1 ≤ x8 ∧ x8 ≤ 1) (k10 : 0 ≤ x10 ∧ x10 ≤ 0) (k11 : 0 ≤ x11 ∧ x11 ≤ 24) (f0 : STB (pn_0) (pm_0) (pt_0) (ph_0) (alive_0)) (f1 : GOK (pn_0) (pm_0) (pt_0) (ph_0)) (h3 : x11 = ph_1 (x10)) (f6 : STB (pn_1) (pm_1) (pt_1) (ph_1) (alive_1)) (f7 : GOK (pn_1) (pm_1) (pt_1) (ph_1)) (h9 : x7 = pt_2 (x6)) (f11 : STB (pn_2) (pm_2) (pt_2) (ph_2) (alive_2)) (f12 : GOK (pn_2) (pm_2) (pt_2) (ph_2)) (f14 : STB (pn_3) (pm_3) (pt_3) (ph_3) (alive_3)) (f15 : GOK (pn_3) (pm_3) (pt_3) (ph_3)) (f17 : STB (pn_4) (pm_4) (pt_4) (ph_4) (alive_4)) (f18 : GOK (pn_4) (pm_4) (pt_4) (ph_4)) (fe_0_31_1 : pn_0 = pn_1) (fe_0_32_1 : pm_0 = pm_1) (fe_0_49_1 : onlyPiece_0 = onlyPiece_1) (fe_0_125_1 : rowMany_0 = rowMany_1) (fe_0_31_2 : pn_1 = pn_2) (fe_0_32_2 : pm_1 = pm_2) (fe_0_49_2 : onlyPiece_1 = onlyPiece_2) (fe_0_125_2 : rowMany_1 = rowMany_2) (fe_0_31_3 : pn_2 = pn_3) (fe_0_32_3 : pm_2 = pm_3) (fe_0_49_3 : onlyPiece_2 = onlyPiece_3) (fe_0_125_3 : rowMany_2 = x2) (fe_0_31_4 : pn_3 = pn_4) (fe_0_32_4 : pm_3 = pm_4) (fe_0_49_4 : onlyPiece_3 = x1) (fe_0_125_4 : rowMany_3 = rowMany_4) (hE_0_33_1 : ∀ j : Int, pt_0 j = pt_1 j) (hE_0_33_2 : ∀ j : Int, pt_1 j = pt_2 j) (hE_0_33_3 : ∀ j : Int, pt_2 j = pt_3 j) (hE_0_33_4 : ∀ j : Int, pt_3 j = pt_4 j) (hK_0_33 : ∀ j : Int, 0 ≤ j → j < 80 → 0 ≤ pt_0 j ∧ pt_0 j ≤ 24) (hE_0_34_1 : ∀ j : Int, ph_0 j = ph_1 j) (hE_0_34_2 : ∀ j : Int, ph_1 j = ph_2 j) (hE_0_34_3 : ∀ j : Int, ph_2 j = ph_3 j) (hE_0_34_4 : ∀ j : Int, ph_3 j = ph_4 j) (hK_0_34 : ∀ j : Int, 0 ≤ j → j < 80 → 0 ≤ ph_0 j ∧ ph_0 j ≤ 24) (hE_0_35_1 : ∀ j : Int, alive_0 j = alive_1 j) (hE_0_35_2 : ∀ j : Int, alive_1 j = alive_2 j) (hE_0_35_3 : ∀ j : Int, alive_2 j = alive_3 j) (hE_0_35_4 : ∀ j : Int, alive_3 j = alive_4 j) (hK_0_35 : ∀ j : Int, 0 ≤ j → j < 80 → 0 ≤ alive_0 j ∧ alive_0 j ≤ 1) (hE_0_117_1 : ∀ j : Int, 0 ≤ j → (j = x8 → row_0 j = x11) ∧ (j ≠ x8 → row_0 j = row_1 j)) (hE_0_117_2 : ∀ j : Int, 0 ≤ j → (j = x4 → row_1 j = x7) ∧ (j ≠ x4 → row_1 j = row_2 j)) (hE_0_117_3 : ∀ j : Int, row_2 j = row_3 j) (hE_0_117_4 : ∀ j : Int, row_3 j = row_4 j) (hK_0_117 : ∀ j : Int, 0 ≤ j → j < 100 → 0 ≤ row_0 j ∧ row_0 j ≤ 75) (kz_0_31 : 0 ≤ pn_0 ∧ pn_0 ≤ 25) (kz_0_32 : 0 ≤ pm_0 ∧ pm_0 ≤ 80) (kz_0_49 : (-1) ≤ onlyPiece_0 ∧ onlyPiece_0 ≤ 79) (kz_0_125 : 0 ≤ rowMany_0 ∧ rowMany_0 ≤ 100) (ex2 : gx = 26) (ex3 : (-2) ≤ gx ∧ gx ≤ 26) : GOK (pn_0) (pm_0) (pt_0) (ph_0) := by
  subst fe_0_31_1
  subst fe_0_32_1
  subst fe_0_49_1
  subst fe_0_125_1
  subst fe_0_31_2
  subst fe_0_32_2
  subst fe_0_49_2
  subst fe_0_125_2
  subst fe_0_31_3
  subst fe_0_32_3
  subst fe_0_49_3
  subst fe_0_31_4
  subst fe_0_32_4
  subst fe_0_125_4
  have e_hE_0_33_1 := funext hE_0_33_1; subst e_hE_0_33_1
  have e_hE_0_33_2 := funext hE_0_33_2; subst e_hE_0_33_2
  have e_hE_0_33_3 := funext hE_0_33_3; subst e_hE_0_33_3
  have e_hE_0_33_4 := funext hE_0_33_4; subst e_hE_0_33_4
  have e_hE_0_34_1 := funext hE_0_34_1; subst e_hE_0_34_1
  have e_hE_0_34_2 := funext hE_0_34_2; subst e_hE_0_34_2
  have e_hE_0_34_3 := funext hE_0_34_3; subst e_hE_0_34_3
  have e_hE_0_34_4 := funext hE_0_34_4; subst e_hE_0_34_4
  have e_hE_0_35_1 := funext hE_0_35_1; subst e_hE_0_35_1
  have e_hE_0_35_2 := funext hE_0_35_2; subst e_hE_0_35_2
  have e_hE_0_35_3 := funext hE_0_35_3; subst e_hE_0_35_3
  have e_hE_0_35_4 := funext hE_0_35_4; subst e_hE_0_35_4
  have e_hE_0_117_3 := funext hE_0_117_3; subst e_hE_0_117_3
  have e_hE_0_117_4 := funext hE_0_117_4; subst e_hE_0_117_4
  first
    | assumption
    | exact ‹STB _ _ _ _ _›.1.1
set_option maxHeartbeats 4000000 in
theorem vc_Mo_stOrder_0_1 (x1 : Int) (x2 : Int) (x4 : Int) (x6 : Int) (x7 : Int) (x8 : Int) (x10 : Int) (x11 : Int) (pt_0 : Int → Int) (ph_0 : Int → Int) (alive_0 : Int → Int) (pn_0 : Int) (pm_0 : Int) (ph_1 : Int → Int) (pt_1 : Int → Int) (alive_1 : Int → Int) (pn_1 : Int) (pm_1 : Int) (pt_2 : Int → Int) (ph_2 : Int → Int) (alive_2 : Int → Int) (pn_2 : Int) (pm_2 : Int) (pt_3 : Int → Int) (ph_3 : Int → Int) (alive_3 : Int → Int) (pn_3 : Int) (pm_3 : Int) (pt_4 : Int → Int) (ph_4 : Int → Int) (alive_4 : Int → Int) (pn_4 : Int) (pm_4 : Int) (onlyPiece_0 : Int) (onlyPiece_1 : Int) (rowMany_0 : Int) (rowMany_1 : Int) (onlyPiece_2 : Int) (rowMany_2 : Int) (onlyPiece_3 : Int) (rowMany_3 : Int) (rowMany_4 : Int) (row_0 : Int → Int) (row_1 : Int → Int) (row_2 : Int → Int) (row_3 : Int → Int) (row_4 : Int → Int) (gx : Int) (k1 : (-1) ≤ x1 ∧ x1 ≤ (-1)) (k2 : 2 ≤ x2 ∧ x2 ≤ 2) (k4 : 0 ≤ x4 ∧ x4 ≤ 0) (k6 : 0 ≤ x6 ∧ x6 ≤ 0) (k7 : 0 ≤ x7 ∧ x7 ≤ 24) (k8 : 1 ≤ x8 ∧ x8 ≤ 1) (k10 : 0 ≤ x10 ∧ x10 ≤ 0) (k11 : 0 ≤ x11 ∧ x11 ≤ 24) (f0 : STB (pn_0) (pm_0) (pt_0) (ph_0) (alive_0)) (f1 : GOK (pn_0) (pm_0) (pt_0) (ph_0)) (h3 : x11 = ph_1 (x10)) (f6 : STB (pn_1) (pm_1) (pt_1) (ph_1) (alive_1)) (f7 : GOK (pn_1) (pm_1) (pt_1) (ph_1)) (h9 : x7 = pt_2 (x6)) (f11 : STB (pn_2) (pm_2) (pt_2) (ph_2) (alive_2)) (f12 : GOK (pn_2) (pm_2) (pt_2) (ph_2)) (f14 : STB (pn_3) (pm_3) (pt_3) (ph_3) (alive_3)) (f15 : GOK (pn_3) (pm_3) (pt_3) (ph_3)) (f17 : STB (pn_4) (pm_4) (pt_4) (ph_4) (alive_4)) (f18 : GOK (pn_4) (pm_4) (pt_4) (ph_4)) (fe_0_31_1 : pn_0 = pn_1) (fe_0_32_1 : pm_0 = pm_1) (fe_0_49_1 : onlyPiece_0 = onlyPiece_1) (fe_0_125_1 : rowMany_0 = rowMany_1) (fe_0_31_2 : pn_1 = pn_2) (fe_0_32_2 : pm_1 = pm_2) (fe_0_49_2 : onlyPiece_1 = onlyPiece_2) (fe_0_125_2 : rowMany_1 = rowMany_2) (fe_0_31_3 : pn_2 = pn_3) (fe_0_32_3 : pm_2 = pm_3) (fe_0_49_3 : onlyPiece_2 = onlyPiece_3) (fe_0_125_3 : rowMany_2 = x2) (fe_0_31_4 : pn_3 = pn_4) (fe_0_32_4 : pm_3 = pm_4) (fe_0_49_4 : onlyPiece_3 = x1) (fe_0_125_4 : rowMany_3 = rowMany_4) (hE_0_33_1 : ∀ j : Int, pt_0 j = pt_1 j) (hE_0_33_2 : ∀ j : Int, pt_1 j = pt_2 j) (hE_0_33_3 : ∀ j : Int, pt_2 j = pt_3 j) (hE_0_33_4 : ∀ j : Int, pt_3 j = pt_4 j) (hK_0_33 : ∀ j : Int, 0 ≤ j → j < 80 → 0 ≤ pt_0 j ∧ pt_0 j ≤ 24) (hE_0_34_1 : ∀ j : Int, ph_0 j = ph_1 j) (hE_0_34_2 : ∀ j : Int, ph_1 j = ph_2 j) (hE_0_34_3 : ∀ j : Int, ph_2 j = ph_3 j) (hE_0_34_4 : ∀ j : Int, ph_3 j = ph_4 j) (hK_0_34 : ∀ j : Int, 0 ≤ j → j < 80 → 0 ≤ ph_0 j ∧ ph_0 j ≤ 24) (hE_0_35_1 : ∀ j : Int, alive_0 j = alive_1 j) (hE_0_35_2 : ∀ j : Int, alive_1 j = alive_2 j) (hE_0_35_3 : ∀ j : Int, alive_2 j = alive_3 j) (hE_0_35_4 : ∀ j : Int, alive_3 j = alive_4 j) (hK_0_35 : ∀ j : Int, 0 ≤ j → j < 80 → 0 ≤ alive_0 j ∧ alive_0 j ≤ 1) (hE_0_117_1 : ∀ j : Int, 0 ≤ j → (j = x8 → row_0 j = x11) ∧ (j ≠ x8 → row_0 j = row_1 j)) (hE_0_117_2 : ∀ j : Int, 0 ≤ j → (j = x4 → row_1 j = x7) ∧ (j ≠ x4 → row_1 j = row_2 j)) (hE_0_117_3 : ∀ j : Int, row_2 j = row_3 j) (hE_0_117_4 : ∀ j : Int, row_3 j = row_4 j) (hK_0_117 : ∀ j : Int, 0 ≤ j → j < 100 → 0 ≤ row_0 j ∧ row_0 j ≤ 75) (kz_0_31 : 0 ≤ pn_0 ∧ pn_0 ≤ 25) (kz_0_32 : 0 ≤ pm_0 ∧ pm_0 ≤ 80) (kz_0_49 : (-1) ≤ onlyPiece_0 ∧ onlyPiece_0 ≤ 79) (kz_0_125 : 0 ≤ rowMany_0 ∧ rowMany_0 ≤ 100) (ex2 : gx = 26) (ex3 : (-2) ≤ gx ∧ gx ≤ 26) : STB (pn_0) (pm_0) (pt_0) (ph_0) (alive_0) := by
  subst fe_0_31_1
  subst fe_0_32_1
  subst fe_0_49_1
  subst fe_0_125_1
  subst fe_0_31_2
  subst fe_0_32_2
  subst fe_0_49_2
  subst fe_0_125_2
  subst fe_0_31_3
  subst fe_0_32_3
  subst fe_0_49_3
  subst fe_0_31_4
  subst fe_0_32_4
  subst fe_0_125_4
  have e_hE_0_33_1 := funext hE_0_33_1; subst e_hE_0_33_1
  have e_hE_0_33_2 := funext hE_0_33_2; subst e_hE_0_33_2
  have e_hE_0_33_3 := funext hE_0_33_3; subst e_hE_0_33_3
  have e_hE_0_33_4 := funext hE_0_33_4; subst e_hE_0_33_4
  have e_hE_0_34_1 := funext hE_0_34_1; subst e_hE_0_34_1
  have e_hE_0_34_2 := funext hE_0_34_2; subst e_hE_0_34_2
  have e_hE_0_34_3 := funext hE_0_34_3; subst e_hE_0_34_3
  have e_hE_0_34_4 := funext hE_0_34_4; subst e_hE_0_34_4
  have e_hE_0_35_1 := funext hE_0_35_1; subst e_hE_0_35_1
  have e_hE_0_35_2 := funext hE_0_35_2; subst e_hE_0_35_2
  have e_hE_0_35_3 := funext hE_0_35_3; subst e_hE_0_35_3
  have e_hE_0_35_4 := funext hE_0_35_4; subst e_hE_0_35_4
  have e_hE_0_117_3 := funext hE_0_117_3; subst e_hE_0_117_3
  have e_hE_0_117_4 := funext hE_0_117_4; subst e_hE_0_117_4
  first | assumption
set_option maxHeartbeats 4000000 in
theorem vc_Mo_stOrder_0_2 (x1 : Int) (x2 : Int) (x4 : Int) (x6 : Int) (x7 : Int) (x8 : Int) (x10 : Int) (x11 : Int) (pt_0 : Int → Int) (ph_0 : Int → Int) (alive_0 : Int → Int) (pn_0 : Int) (pm_0 : Int) (ph_1 : Int → Int) (pt_1 : Int → Int) (alive_1 : Int → Int) (pn_1 : Int) (pm_1 : Int) (pt_2 : Int → Int) (ph_2 : Int → Int) (alive_2 : Int → Int) (pn_2 : Int) (pm_2 : Int) (pt_3 : Int → Int) (ph_3 : Int → Int) (alive_3 : Int → Int) (pn_3 : Int) (pm_3 : Int) (pt_4 : Int → Int) (ph_4 : Int → Int) (alive_4 : Int → Int) (pn_4 : Int) (pm_4 : Int) (onlyPiece_0 : Int) (onlyPiece_1 : Int) (rowMany_0 : Int) (rowMany_1 : Int) (onlyPiece_2 : Int) (rowMany_2 : Int) (onlyPiece_3 : Int) (rowMany_3 : Int) (rowMany_4 : Int) (row_0 : Int → Int) (row_1 : Int → Int) (row_2 : Int → Int) (row_3 : Int → Int) (row_4 : Int → Int) (gx : Int) (k1 : (-1) ≤ x1 ∧ x1 ≤ (-1)) (k2 : 2 ≤ x2 ∧ x2 ≤ 2) (k4 : 0 ≤ x4 ∧ x4 ≤ 0) (k6 : 0 ≤ x6 ∧ x6 ≤ 0) (k7 : 0 ≤ x7 ∧ x7 ≤ 24) (k8 : 1 ≤ x8 ∧ x8 ≤ 1) (k10 : 0 ≤ x10 ∧ x10 ≤ 0) (k11 : 0 ≤ x11 ∧ x11 ≤ 24) (f0 : STB (pn_0) (pm_0) (pt_0) (ph_0) (alive_0)) (f1 : GOK (pn_0) (pm_0) (pt_0) (ph_0)) (h3 : x11 = ph_1 (x10)) (f6 : STB (pn_1) (pm_1) (pt_1) (ph_1) (alive_1)) (f7 : GOK (pn_1) (pm_1) (pt_1) (ph_1)) (h9 : x7 = pt_2 (x6)) (f11 : STB (pn_2) (pm_2) (pt_2) (ph_2) (alive_2)) (f12 : GOK (pn_2) (pm_2) (pt_2) (ph_2)) (f14 : STB (pn_3) (pm_3) (pt_3) (ph_3) (alive_3)) (f15 : GOK (pn_3) (pm_3) (pt_3) (ph_3)) (f17 : STB (pn_4) (pm_4) (pt_4) (ph_4) (alive_4)) (f18 : GOK (pn_4) (pm_4) (pt_4) (ph_4)) (fe_0_31_1 : pn_0 = pn_1) (fe_0_32_1 : pm_0 = pm_1) (fe_0_49_1 : onlyPiece_0 = onlyPiece_1) (fe_0_125_1 : rowMany_0 = rowMany_1) (fe_0_31_2 : pn_1 = pn_2) (fe_0_32_2 : pm_1 = pm_2) (fe_0_49_2 : onlyPiece_1 = onlyPiece_2) (fe_0_125_2 : rowMany_1 = rowMany_2) (fe_0_31_3 : pn_2 = pn_3) (fe_0_32_3 : pm_2 = pm_3) (fe_0_49_3 : onlyPiece_2 = onlyPiece_3) (fe_0_125_3 : rowMany_2 = x2) (fe_0_31_4 : pn_3 = pn_4) (fe_0_32_4 : pm_3 = pm_4) (fe_0_49_4 : onlyPiece_3 = x1) (fe_0_125_4 : rowMany_3 = rowMany_4) (hE_0_33_1 : ∀ j : Int, pt_0 j = pt_1 j) (hE_0_33_2 : ∀ j : Int, pt_1 j = pt_2 j) (hE_0_33_3 : ∀ j : Int, pt_2 j = pt_3 j) (hE_0_33_4 : ∀ j : Int, pt_3 j = pt_4 j) (hK_0_33 : ∀ j : Int, 0 ≤ j → j < 80 → 0 ≤ pt_0 j ∧ pt_0 j ≤ 24) (hE_0_34_1 : ∀ j : Int, ph_0 j = ph_1 j) (hE_0_34_2 : ∀ j : Int, ph_1 j = ph_2 j) (hE_0_34_3 : ∀ j : Int, ph_2 j = ph_3 j) (hE_0_34_4 : ∀ j : Int, ph_3 j = ph_4 j) (hK_0_34 : ∀ j : Int, 0 ≤ j → j < 80 → 0 ≤ ph_0 j ∧ ph_0 j ≤ 24) (hE_0_35_1 : ∀ j : Int, alive_0 j = alive_1 j) (hE_0_35_2 : ∀ j : Int, alive_1 j = alive_2 j) (hE_0_35_3 : ∀ j : Int, alive_2 j = alive_3 j) (hE_0_35_4 : ∀ j : Int, alive_3 j = alive_4 j) (hK_0_35 : ∀ j : Int, 0 ≤ j → j < 80 → 0 ≤ alive_0 j ∧ alive_0 j ≤ 1) (hE_0_117_1 : ∀ j : Int, 0 ≤ j → (j = x8 → row_0 j = x11) ∧ (j ≠ x8 → row_0 j = row_1 j)) (hE_0_117_2 : ∀ j : Int, 0 ≤ j → (j = x4 → row_1 j = x7) ∧ (j ≠ x4 → row_1 j = row_2 j)) (hE_0_117_3 : ∀ j : Int, row_2 j = row_3 j) (hE_0_117_4 : ∀ j : Int, row_3 j = row_4 j) (hK_0_117 : ∀ j : Int, 0 ≤ j → j < 100 → 0 ≤ row_0 j ∧ row_0 j ≤ 75) (kz_0_31 : 0 ≤ pn_0 ∧ pn_0 ≤ 25) (kz_0_32 : 0 ≤ pm_0 ∧ pm_0 ≤ 80) (kz_0_49 : (-1) ≤ onlyPiece_0 ∧ onlyPiece_0 ≤ 79) (kz_0_125 : 0 ≤ rowMany_0 ∧ rowMany_0 ≤ 100) (ex2 : gx = 26) (ex3 : (-2) ≤ gx ∧ gx ≤ 26) : STR (pn_0) (rowMany_0) (pt_0) (ph_0) (row_0) := by
  subst fe_0_31_1
  subst fe_0_32_1
  subst fe_0_49_1
  subst fe_0_125_1
  subst fe_0_31_2
  subst fe_0_32_2
  subst fe_0_49_2
  subst fe_0_125_2
  subst fe_0_31_3
  subst fe_0_32_3
  subst fe_0_49_3
  subst fe_0_31_4
  subst fe_0_32_4
  subst fe_0_125_4
  have e_hE_0_33_1 := funext hE_0_33_1; subst e_hE_0_33_1
  have e_hE_0_33_2 := funext hE_0_33_2; subst e_hE_0_33_2
  have e_hE_0_33_3 := funext hE_0_33_3; subst e_hE_0_33_3
  have e_hE_0_33_4 := funext hE_0_33_4; subst e_hE_0_33_4
  have e_hE_0_34_1 := funext hE_0_34_1; subst e_hE_0_34_1
  have e_hE_0_34_2 := funext hE_0_34_2; subst e_hE_0_34_2
  have e_hE_0_34_3 := funext hE_0_34_3; subst e_hE_0_34_3
  have e_hE_0_34_4 := funext hE_0_34_4; subst e_hE_0_34_4
  have e_hE_0_35_1 := funext hE_0_35_1; subst e_hE_0_35_1
  have e_hE_0_35_2 := funext hE_0_35_2; subst e_hE_0_35_2
  have e_hE_0_35_3 := funext hE_0_35_3; subst e_hE_0_35_3
  have e_hE_0_35_4 := funext hE_0_35_4; subst e_hE_0_35_4
  have e_hE_0_117_3 := funext hE_0_117_3; subst e_hE_0_117_3
  have e_hE_0_117_4 := funext hE_0_117_4; subst e_hE_0_117_4
  first
    | assumption
    | exact str_start ‹STB _ _ _ _ _› (by omega) hE_0_117_2 (by omega) (by rw [← (by omega : x6 = 0)]; assumption) hE_0_117_1 (by omega) (by rw [← (by omega : x10 = 0)]; assumption)
set_option maxHeartbeats 4000000 in
theorem vc_Mo_stOrder_0_3 (x1 : Int) (x2 : Int) (x4 : Int) (x6 : Int) (x7 : Int) (x8 : Int) (x10 : Int) (x11 : Int) (pt_0 : Int → Int) (ph_0 : Int → Int) (alive_0 : Int → Int) (pn_0 : Int) (pm_0 : Int) (ph_1 : Int → Int) (pt_1 : Int → Int) (alive_1 : Int → Int) (pn_1 : Int) (pm_1 : Int) (pt_2 : Int → Int) (ph_2 : Int → Int) (alive_2 : Int → Int) (pn_2 : Int) (pm_2 : Int) (pt_3 : Int → Int) (ph_3 : Int → Int) (alive_3 : Int → Int) (pn_3 : Int) (pm_3 : Int) (pt_4 : Int → Int) (ph_4 : Int → Int) (alive_4 : Int → Int) (pn_4 : Int) (pm_4 : Int) (onlyPiece_0 : Int) (onlyPiece_1 : Int) (rowMany_0 : Int) (rowMany_1 : Int) (onlyPiece_2 : Int) (rowMany_2 : Int) (onlyPiece_3 : Int) (rowMany_3 : Int) (rowMany_4 : Int) (row_0 : Int → Int) (row_1 : Int → Int) (row_2 : Int → Int) (row_3 : Int → Int) (row_4 : Int → Int) (gx : Int) (k1 : (-1) ≤ x1 ∧ x1 ≤ (-1)) (k2 : 2 ≤ x2 ∧ x2 ≤ 2) (k4 : 0 ≤ x4 ∧ x4 ≤ 0) (k6 : 0 ≤ x6 ∧ x6 ≤ 0) (k7 : 0 ≤ x7 ∧ x7 ≤ 24) (k8 : 1 ≤ x8 ∧ x8 ≤ 1) (k10 : 0 ≤ x10 ∧ x10 ≤ 0) (k11 : 0 ≤ x11 ∧ x11 ≤ 24) (f0 : STB (pn_0) (pm_0) (pt_0) (ph_0) (alive_0)) (f1 : GOK (pn_0) (pm_0) (pt_0) (ph_0)) (h3 : x11 = ph_1 (x10)) (f6 : STB (pn_1) (pm_1) (pt_1) (ph_1) (alive_1)) (f7 : GOK (pn_1) (pm_1) (pt_1) (ph_1)) (h9 : x7 = pt_2 (x6)) (f11 : STB (pn_2) (pm_2) (pt_2) (ph_2) (alive_2)) (f12 : GOK (pn_2) (pm_2) (pt_2) (ph_2)) (f14 : STB (pn_3) (pm_3) (pt_3) (ph_3) (alive_3)) (f15 : GOK (pn_3) (pm_3) (pt_3) (ph_3)) (f17 : STB (pn_4) (pm_4) (pt_4) (ph_4) (alive_4)) (f18 : GOK (pn_4) (pm_4) (pt_4) (ph_4)) (fe_0_31_1 : pn_0 = pn_1) (fe_0_32_1 : pm_0 = pm_1) (fe_0_49_1 : onlyPiece_0 = onlyPiece_1) (fe_0_125_1 : rowMany_0 = rowMany_1) (fe_0_31_2 : pn_1 = pn_2) (fe_0_32_2 : pm_1 = pm_2) (fe_0_49_2 : onlyPiece_1 = onlyPiece_2) (fe_0_125_2 : rowMany_1 = rowMany_2) (fe_0_31_3 : pn_2 = pn_3) (fe_0_32_3 : pm_2 = pm_3) (fe_0_49_3 : onlyPiece_2 = onlyPiece_3) (fe_0_125_3 : rowMany_2 = x2) (fe_0_31_4 : pn_3 = pn_4) (fe_0_32_4 : pm_3 = pm_4) (fe_0_49_4 : onlyPiece_3 = x1) (fe_0_125_4 : rowMany_3 = rowMany_4) (hE_0_33_1 : ∀ j : Int, pt_0 j = pt_1 j) (hE_0_33_2 : ∀ j : Int, pt_1 j = pt_2 j) (hE_0_33_3 : ∀ j : Int, pt_2 j = pt_3 j) (hE_0_33_4 : ∀ j : Int, pt_3 j = pt_4 j) (hK_0_33 : ∀ j : Int, 0 ≤ j → j < 80 → 0 ≤ pt_0 j ∧ pt_0 j ≤ 24) (hE_0_34_1 : ∀ j : Int, ph_0 j = ph_1 j) (hE_0_34_2 : ∀ j : Int, ph_1 j = ph_2 j) (hE_0_34_3 : ∀ j : Int, ph_2 j = ph_3 j) (hE_0_34_4 : ∀ j : Int, ph_3 j = ph_4 j) (hK_0_34 : ∀ j : Int, 0 ≤ j → j < 80 → 0 ≤ ph_0 j ∧ ph_0 j ≤ 24) (hE_0_35_1 : ∀ j : Int, alive_0 j = alive_1 j) (hE_0_35_2 : ∀ j : Int, alive_1 j = alive_2 j) (hE_0_35_3 : ∀ j : Int, alive_2 j = alive_3 j) (hE_0_35_4 : ∀ j : Int, alive_3 j = alive_4 j) (hK_0_35 : ∀ j : Int, 0 ≤ j → j < 80 → 0 ≤ alive_0 j ∧ alive_0 j ≤ 1) (hE_0_117_1 : ∀ j : Int, 0 ≤ j → (j = x8 → row_0 j = x11) ∧ (j ≠ x8 → row_0 j = row_1 j)) (hE_0_117_2 : ∀ j : Int, 0 ≤ j → (j = x4 → row_1 j = x7) ∧ (j ≠ x4 → row_1 j = row_2 j)) (hE_0_117_3 : ∀ j : Int, row_2 j = row_3 j) (hE_0_117_4 : ∀ j : Int, row_3 j = row_4 j) (hK_0_117 : ∀ j : Int, 0 ≤ j → j < 100 → 0 ≤ row_0 j ∧ row_0 j ≤ 75) (kz_0_31 : 0 ≤ pn_0 ∧ pn_0 ≤ 25) (kz_0_32 : 0 ≤ pm_0 ∧ pm_0 ≤ 80) (kz_0_49 : (-1) ≤ onlyPiece_0 ∧ onlyPiece_0 ≤ 79) (kz_0_125 : 0 ≤ rowMany_0 ∧ rowMany_0 ≤ 100) (ex2 : gx = 26) (ex3 : (-2) ≤ gx ∧ gx ≤ 26) : onlyPiece_0 = (-1) := by
  subst fe_0_31_1
  subst fe_0_32_1
  subst fe_0_49_1
  subst fe_0_125_1
  subst fe_0_31_2
  subst fe_0_32_2
  subst fe_0_49_2
  subst fe_0_125_2
  subst fe_0_31_3
  subst fe_0_32_3
  subst fe_0_49_3
  subst fe_0_31_4
  subst fe_0_32_4
  subst fe_0_125_4
  have e_hE_0_33_1 := funext hE_0_33_1; subst e_hE_0_33_1
  have e_hE_0_33_2 := funext hE_0_33_2; subst e_hE_0_33_2
  have e_hE_0_33_3 := funext hE_0_33_3; subst e_hE_0_33_3
  have e_hE_0_33_4 := funext hE_0_33_4; subst e_hE_0_33_4
  have e_hE_0_34_1 := funext hE_0_34_1; subst e_hE_0_34_1
  have e_hE_0_34_2 := funext hE_0_34_2; subst e_hE_0_34_2
  have e_hE_0_34_3 := funext hE_0_34_3; subst e_hE_0_34_3
  have e_hE_0_34_4 := funext hE_0_34_4; subst e_hE_0_34_4
  have e_hE_0_35_1 := funext hE_0_35_1; subst e_hE_0_35_1
  have e_hE_0_35_2 := funext hE_0_35_2; subst e_hE_0_35_2
  have e_hE_0_35_3 := funext hE_0_35_3; subst e_hE_0_35_3
  have e_hE_0_35_4 := funext hE_0_35_4; subst e_hE_0_35_4
  have e_hE_0_117_3 := funext hE_0_117_3; subst e_hE_0_117_3
  have e_hE_0_117_4 := funext hE_0_117_4; subst e_hE_0_117_4
  first
    | omega
    | (have h := ‹STB _ _ _ _ _›.1.2.2; omega)
    | (have h := ‹STR _ _ _ _ _›.1; omega)
    | (have h := ‹STR _ _ _ _ _›.1
       have w := ‹STR _ _ _ _ _›.2.1 x1 (by omega) (by omega)
       omega)
    | (have h := bc_len ‹BC1 _ _ _ _ _ _ _›
       have h2 := ‹STR _ _ _ _ _›.1
       omega)
    | (have h := (sb_way ‹SB1 _ _ _ _ _ _ _ _ _ _ _ _› (by omega)).1
       have h2 := ‹STR _ _ _ _ _›.1
       omega)
    | (have h := ‹WYM _ _ _ _›.1
       have h2 := ‹STR _ _ _ _ _›.1
       omega)
set_option maxHeartbeats 4000000 in
theorem vc_Mo_stOrder_0_4 (x1 : Int) (x2 : Int) (x4 : Int) (x6 : Int) (x7 : Int) (x8 : Int) (x10 : Int) (x11 : Int) (pt_0 : Int → Int) (ph_0 : Int → Int) (alive_0 : Int → Int) (pn_0 : Int) (pm_0 : Int) (ph_1 : Int → Int) (pt_1 : Int → Int) (alive_1 : Int → Int) (pn_1 : Int) (pm_1 : Int) (pt_2 : Int → Int) (ph_2 : Int → Int) (alive_2 : Int → Int) (pn_2 : Int) (pm_2 : Int) (pt_3 : Int → Int) (ph_3 : Int → Int) (alive_3 : Int → Int) (pn_3 : Int) (pm_3 : Int) (pt_4 : Int → Int) (ph_4 : Int → Int) (alive_4 : Int → Int) (pn_4 : Int) (pm_4 : Int) (onlyPiece_0 : Int) (onlyPiece_1 : Int) (rowMany_0 : Int) (rowMany_1 : Int) (onlyPiece_2 : Int) (rowMany_2 : Int) (onlyPiece_3 : Int) (rowMany_3 : Int) (rowMany_4 : Int) (row_0 : Int → Int) (row_1 : Int → Int) (row_2 : Int → Int) (row_3 : Int → Int) (row_4 : Int → Int) (gx : Int) (k1 : (-1) ≤ x1 ∧ x1 ≤ (-1)) (k2 : 2 ≤ x2 ∧ x2 ≤ 2) (k4 : 0 ≤ x4 ∧ x4 ≤ 0) (k6 : 0 ≤ x6 ∧ x6 ≤ 0) (k7 : 0 ≤ x7 ∧ x7 ≤ 24) (k8 : 1 ≤ x8 ∧ x8 ≤ 1) (k10 : 0 ≤ x10 ∧ x10 ≤ 0) (k11 : 0 ≤ x11 ∧ x11 ≤ 24) (f0 : STB (pn_0) (pm_0) (pt_0) (ph_0) (alive_0)) (f1 : GOK (pn_0) (pm_0) (pt_0) (ph_0)) (h3 : x11 = ph_1 (x10)) (f6 : STB (pn_1) (pm_1) (pt_1) (ph_1) (alive_1)) (f7 : GOK (pn_1) (pm_1) (pt_1) (ph_1)) (h9 : x7 = pt_2 (x6)) (f11 : STB (pn_2) (pm_2) (pt_2) (ph_2) (alive_2)) (f12 : GOK (pn_2) (pm_2) (pt_2) (ph_2)) (f14 : STB (pn_3) (pm_3) (pt_3) (ph_3) (alive_3)) (f15 : GOK (pn_3) (pm_3) (pt_3) (ph_3)) (f17 : STB (pn_4) (pm_4) (pt_4) (ph_4) (alive_4)) (f18 : GOK (pn_4) (pm_4) (pt_4) (ph_4)) (fe_0_31_1 : pn_0 = pn_1) (fe_0_32_1 : pm_0 = pm_1) (fe_0_49_1 : onlyPiece_0 = onlyPiece_1) (fe_0_125_1 : rowMany_0 = rowMany_1) (fe_0_31_2 : pn_1 = pn_2) (fe_0_32_2 : pm_1 = pm_2) (fe_0_49_2 : onlyPiece_1 = onlyPiece_2) (fe_0_125_2 : rowMany_1 = rowMany_2) (fe_0_31_3 : pn_2 = pn_3) (fe_0_32_3 : pm_2 = pm_3) (fe_0_49_3 : onlyPiece_2 = onlyPiece_3) (fe_0_125_3 : rowMany_2 = x2) (fe_0_31_4 : pn_3 = pn_4) (fe_0_32_4 : pm_3 = pm_4) (fe_0_49_4 : onlyPiece_3 = x1) (fe_0_125_4 : rowMany_3 = rowMany_4) (hE_0_33_1 : ∀ j : Int, pt_0 j = pt_1 j) (hE_0_33_2 : ∀ j : Int, pt_1 j = pt_2 j) (hE_0_33_3 : ∀ j : Int, pt_2 j = pt_3 j) (hE_0_33_4 : ∀ j : Int, pt_3 j = pt_4 j) (hK_0_33 : ∀ j : Int, 0 ≤ j → j < 80 → 0 ≤ pt_0 j ∧ pt_0 j ≤ 24) (hE_0_34_1 : ∀ j : Int, ph_0 j = ph_1 j) (hE_0_34_2 : ∀ j : Int, ph_1 j = ph_2 j) (hE_0_34_3 : ∀ j : Int, ph_2 j = ph_3 j) (hE_0_34_4 : ∀ j : Int, ph_3 j = ph_4 j) (hK_0_34 : ∀ j : Int, 0 ≤ j → j < 80 → 0 ≤ ph_0 j ∧ ph_0 j ≤ 24) (hE_0_35_1 : ∀ j : Int, alive_0 j = alive_1 j) (hE_0_35_2 : ∀ j : Int, alive_1 j = alive_2 j) (hE_0_35_3 : ∀ j : Int, alive_2 j = alive_3 j) (hE_0_35_4 : ∀ j : Int, alive_3 j = alive_4 j) (hK_0_35 : ∀ j : Int, 0 ≤ j → j < 80 → 0 ≤ alive_0 j ∧ alive_0 j ≤ 1) (hE_0_117_1 : ∀ j : Int, 0 ≤ j → (j = x8 → row_0 j = x11) ∧ (j ≠ x8 → row_0 j = row_1 j)) (hE_0_117_2 : ∀ j : Int, 0 ≤ j → (j = x4 → row_1 j = x7) ∧ (j ≠ x4 → row_1 j = row_2 j)) (hE_0_117_3 : ∀ j : Int, row_2 j = row_3 j) (hE_0_117_4 : ∀ j : Int, row_3 j = row_4 j) (hK_0_117 : ∀ j : Int, 0 ≤ j → j < 100 → 0 ≤ row_0 j ∧ row_0 j ≤ 75) (kz_0_31 : 0 ≤ pn_0 ∧ pn_0 ≤ 25) (kz_0_32 : 0 ≤ pm_0 ∧ pm_0 ≤ 80) (kz_0_49 : (-1) ≤ onlyPiece_0 ∧ onlyPiece_0 ≤ 79) (kz_0_125 : 0 ≤ rowMany_0 ∧ rowMany_0 ≤ 100) (ex2 : gx = 26) (ex3 : (-2) ≤ gx ∧ gx ≤ 26) : (-1) * rowMany_0 + ((-1) * gx + 0) ≤ (-26) := by
  subst fe_0_31_1
  subst fe_0_32_1
  subst fe_0_49_1
  subst fe_0_125_1
  subst fe_0_31_2
  subst fe_0_32_2
  subst fe_0_49_2
  subst fe_0_125_2
  subst fe_0_31_3
  subst fe_0_32_3
  subst fe_0_49_3
  subst fe_0_31_4
  subst fe_0_32_4
  subst fe_0_125_4
  have e_hE_0_33_1 := funext hE_0_33_1; subst e_hE_0_33_1
  have e_hE_0_33_2 := funext hE_0_33_2; subst e_hE_0_33_2
  have e_hE_0_33_3 := funext hE_0_33_3; subst e_hE_0_33_3
  have e_hE_0_33_4 := funext hE_0_33_4; subst e_hE_0_33_4
  have e_hE_0_34_1 := funext hE_0_34_1; subst e_hE_0_34_1
  have e_hE_0_34_2 := funext hE_0_34_2; subst e_hE_0_34_2
  have e_hE_0_34_3 := funext hE_0_34_3; subst e_hE_0_34_3
  have e_hE_0_34_4 := funext hE_0_34_4; subst e_hE_0_34_4
  have e_hE_0_35_1 := funext hE_0_35_1; subst e_hE_0_35_1
  have e_hE_0_35_2 := funext hE_0_35_2; subst e_hE_0_35_2
  have e_hE_0_35_3 := funext hE_0_35_3; subst e_hE_0_35_3
  have e_hE_0_35_4 := funext hE_0_35_4; subst e_hE_0_35_4
  have e_hE_0_117_3 := funext hE_0_117_3; subst e_hE_0_117_3
  have e_hE_0_117_4 := funext hE_0_117_4; subst e_hE_0_117_4
  first
    | omega
    | (have h := ‹STB _ _ _ _ _›.1.2.2; omega)
    | (have h := ‹STR _ _ _ _ _›.1; omega)
    | (have h := ‹STR _ _ _ _ _›.1
       have w := ‹STR _ _ _ _ _›.2.1 x1 (by omega) (by omega)
       omega)
    | (have h := bc_len ‹BC1 _ _ _ _ _ _ _›
       have h2 := ‹STR _ _ _ _ _›.1
       omega)
    | (have h := (sb_way ‹SB1 _ _ _ _ _ _ _ _ _ _ _ _› (by omega)).1
       have h2 := ‹STR _ _ _ _ _›.1
       omega)
    | (have h := ‹WYM _ _ _ _›.1
       have h2 := ‹STR _ _ _ _ _›.1
       omega)
def o_Mo_stOrder_0 : or_T := (34, 12, [(0, (2, 0, 0, [165])), (1, (0, -1, -1, [])), (2, (0, 2, 2, [])), (3, (2, 0, 0, [249])), (4, (0, 0, 0, [])), (6, (0, 0, 0, [])), (7, (0, 0, 24, [])), (8, (0, 1, 1, [])), (10, (0, 0, 0, [])), (11, (0, 0, 24, []))], [(20, [0], [60, 2, 3, 297, 31, 32, 33, 34, 35]), (20, [0], [60, 2, 2, 75, 31, 32, 33, 34]), (100, [3, 8, 11], []), (10, [11, 9, 10], []), (9, [9, 0], [34]), (9, [3, 0], [117]), (20, [0], [60, 2, 3, 297, 31, 32, 33, 34, 35]), (20, [0], [60, 2, 2, 75, 31, 32, 33, 34]), (100, [3, 4, 7], []), (10, [7, 5, 6], []), (9, [5, 0], [33]), (20, [0], [60, 2, 3, 297, 31, 32, 33, 34, 35]), (20, [0], [60, 2, 2, 75, 31, 32, 33, 34]), (101, [0, 2], [125]), (20, [0], [60, 2, 3, 297, 31, 32, 33, 34, 35]), (20, [0], [60, 2, 2, 75, 31, 32, 33, 34]), (101, [0, 1], [49]), (20, [0], [60, 2, 3, 297, 31, 32, 33, 34, 35]), (20, [0], [60, 2, 2, 75, 31, 32, 33, 34])], [], [(0, -2, 26, [])], [(20, [0], [60, 2, 2, 75, 31, 32, 33, 34]), (20, [0], [60, 2, 3, 297, 31, 32, 33, 34, 35]), (20, [0], [60, 2, 3, 298, 31, 125, 33, 34, 117]), (20, [0], [50, 1, 0, 49, 1, 3, 2, 0, 49, 0, -1]), (20, [0, 12], [30, -26, -1, 1, 125, -1, 0, 0])], [], [])
theorem oo_Mo_stOrder_0 {kA : Nat → ClassId} : or_ok PRD kA GG o_Mo_stOrder_0 := by
  refine or_mk fun A ta ws vs hD hth hl => ?_
  intro t0 r0 t1 k1 t2 k2 t3 r3 t4 k4 t6 k6 t7 k7 t8 k8 t10 k10 t11 k11 f0 f1 ta1 w1 le1 s1 f3 f4 f5 f6 f7 ta2 w2 le2 s2 f9 f10 f11 f12 ta3 w3 le3 s3 f14 f15 ta4 w4 le4 s4 f17 f18
  replace f0 := shm_1749 f0
  replace f1 := shm_575 f1
  have s1 : (∀ b j, w_el ws b j = if b = v_ad (n_v vs 3) ∧ j = (v_iv (n_v vs 8)).toNat then v_iv (n_v vs 11) else w_el w1 b j) ∧ ∀ b k, w_fd ws b k = w_fd w1 b k := s1.2
  replace f3 := shm_107 f3
  replace f4 := shm_496 f4
  replace f5 := shm_713 f5
  replace f6 := shm_1749 f6
  replace f7 := shm_575 f7
  have s2 : (∀ b j, w_el w1 b j = if b = v_ad (n_v vs 3) ∧ j = (v_iv (n_v vs 4)).toNat then v_iv (n_v vs 7) else w_el w2 b j) ∧ ∀ b k, w_fd w1 b k = w_fd w2 b k := s2.2
  replace f9 := shm_107 f9
  replace f10 := shm_494 f10
  replace f11 := shm_1749 f11
  replace f12 := shm_575 f12
  have s3 : (∀ b j, w_el w2 b j = w_el w3 b j) ∧ ∀ b j, w_fd w2 b j = if b = v_ad (n_v vs 0) ∧ j = 125 then n_v vs 2 else w_fd w3 b j := s3.2
  replace f14 := shm_1749 f14
  replace f15 := shm_575 f15
  have s4 : (∀ b j, w_el w3 b j = w_el w4 b j) ∧ ∀ b j, w_fd w3 b j = if b = v_ad (n_v vs 0) ∧ j = 49 then n_v vs 1 else w_fd w4 b j := s4.2
  replace f17 := shm_1749 f17
  replace f18 := shm_575 f18
  have ar_0_33_1 : w_ar w1 (n_v vs 0) 33 = w_ar ws (n_v vs 0) 33 := congrArg v_ad (s1.2 _ _).symm
  have ar_0_33_2 : w_ar w2 (n_v vs 0) 33 = w_ar ws (n_v vs 0) 33 := by rw [← ar_0_33_1]; show v_ad (w_fd w2 _ _) = v_ad (w_fd w1 _ _); rw [s2.2]
  have ar_0_33_3 : w_ar w3 (n_v vs 0) 33 = w_ar ws (n_v vs 0) 33 := by rw [← ar_0_33_2]; show v_ad (w_fd w3 _ _) = v_ad (w_fd w2 _ _); rw [s3.2, if_neg (fun e => absurd e.2 (by decide))]
  have ar_0_33_4 : w_ar w4 (n_v vs 0) 33 = w_ar ws (n_v vs 0) 33 := by rw [← ar_0_33_3]; show v_ad (w_fd w4 _ _) = v_ad (w_fd w3 _ _); rw [s4.2, if_neg (fun e => absurd e.2 (by decide))]
  have cr_0_33 := fdq_117 hD hth r0
  have ar_0_34_1 : w_ar w1 (n_v vs 0) 34 = w_ar ws (n_v vs 0) 34 := congrArg v_ad (s1.2 _ _).symm
  have ar_0_34_2 : w_ar w2 (n_v vs 0) 34 = w_ar ws (n_v vs 0) 34 := by rw [← ar_0_34_1]; show v_ad (w_fd w2 _ _) = v_ad (w_fd w1 _ _); rw [s2.2]
  have ar_0_34_3 : w_ar w3 (n_v vs 0) 34 = w_ar ws (n_v vs 0) 34 := by rw [← ar_0_34_2]; show v_ad (w_fd w3 _ _) = v_ad (w_fd w2 _ _); rw [s3.2, if_neg (fun e => absurd e.2 (by decide))]
  have ar_0_34_4 : w_ar w4 (n_v vs 0) 34 = w_ar ws (n_v vs 0) 34 := by rw [← ar_0_34_3]; show v_ad (w_fd w4 _ _) = v_ad (w_fd w3 _ _); rw [s4.2, if_neg (fun e => absurd e.2 (by decide))]
  have cr_0_34 := fdq_118 hD hth r0
  have ar_0_35_1 : w_ar w1 (n_v vs 0) 35 = w_ar ws (n_v vs 0) 35 := congrArg v_ad (s1.2 _ _).symm
  have ar_0_35_2 : w_ar w2 (n_v vs 0) 35 = w_ar ws (n_v vs 0) 35 := by rw [← ar_0_35_1]; show v_ad (w_fd w2 _ _) = v_ad (w_fd w1 _ _); rw [s2.2]
  have ar_0_35_3 : w_ar w3 (n_v vs 0) 35 = w_ar ws (n_v vs 0) 35 := by rw [← ar_0_35_2]; show v_ad (w_fd w3 _ _) = v_ad (w_fd w2 _ _); rw [s3.2, if_neg (fun e => absurd e.2 (by decide))]
  have ar_0_35_4 : w_ar w4 (n_v vs 0) 35 = w_ar ws (n_v vs 0) 35 := by rw [← ar_0_35_3]; show v_ad (w_fd w4 _ _) = v_ad (w_fd w3 _ _); rw [s4.2, if_neg (fun e => absurd e.2 (by decide))]
  have cr_0_35 := fdq_132 hD hth r0
  have ar_0_117_1 : w_ar w1 (n_v vs 0) 117 = w_ar ws (n_v vs 0) 117 := congrArg v_ad (s1.2 _ _).symm
  have cr_0_117 := fdq_181 hD hth r0
  have ad_9 : v_ad (n_v vs 9) = w_ar ws (n_v vs 0) 34 := (congrArg v_ad f4).trans ar_0_34_1
  have ad_3 : v_ad (n_v vs 3) = w_ar ws (n_v vs 0) 117 := (congrArg v_ad f5).trans ar_0_117_1
  have ad_5 : v_ad (n_v vs 5) = w_ar ws (n_v vs 0) 33 := (congrArg v_ad f10).trans ar_0_33_2
  simp only [ad_9] at f3
  have h3 : v_iv (n_v vs 11) = w_ei w1 (w_ar ws (n_v vs 0) 34) (v_iv (n_v vs 10)) := f3
  simp only [ar_0_33_1, ar_0_34_1, ar_0_35_1, ad_5] at f6 f7 f9
  have h9 : v_iv (n_v vs 7) = w_ei w2 (w_ar ws (n_v vs 0) 33) (v_iv (n_v vs 6)) := f9
  simp only [ar_0_33_2, ar_0_34_2, ar_0_35_2, ar_0_33_3, ar_0_34_3, ar_0_35_3, ar_0_33_4, ar_0_34_4, ar_0_35_4] at f11 f12 f14 f15 f17 f18
  have fe_0_31_1 : w_fi ws (n_v vs 0) 31 = w_fi w1 (n_v vs 0) 31 := congrArg v_iv (s1.2 _ _)
  have fe_0_32_1 : w_fi ws (n_v vs 0) 32 = w_fi w1 (n_v vs 0) 32 := congrArg v_iv (s1.2 _ _)
  have fe_0_49_1 : w_fi ws (n_v vs 0) 49 = w_fi w1 (n_v vs 0) 49 := congrArg v_iv (s1.2 _ _)
  have fe_0_125_1 : w_fi ws (n_v vs 0) 125 = w_fi w1 (n_v vs 0) 125 := congrArg v_iv (s1.2 _ _)
  have fe_0_31_2 : w_fi w1 (n_v vs 0) 31 = w_fi w2 (n_v vs 0) 31 := congrArg v_iv (s2.2 _ _)
  have fe_0_32_2 : w_fi w1 (n_v vs 0) 32 = w_fi w2 (n_v vs 0) 32 := congrArg v_iv (s2.2 _ _)
  have fe_0_49_2 : w_fi w1 (n_v vs 0) 49 = w_fi w2 (n_v vs 0) 49 := congrArg v_iv (s2.2 _ _)
  have fe_0_125_2 : w_fi w1 (n_v vs 0) 125 = w_fi w2 (n_v vs 0) 125 := congrArg v_iv (s2.2 _ _)
  have fe_0_31_3 : w_fi w2 (n_v vs 0) 31 = w_fi w3 (n_v vs 0) 31 := by show v_iv (w_fd _ _ _) = v_iv (w_fd _ _ _); rw [s3.2, if_neg (fun e => absurd e.2 (by decide))]
  have fe_0_32_3 : w_fi w2 (n_v vs 0) 32 = w_fi w3 (n_v vs 0) 32 := by show v_iv (w_fd _ _ _) = v_iv (w_fd _ _ _); rw [s3.2, if_neg (fun e => absurd e.2 (by decide))]
  have fe_0_49_3 : w_fi w2 (n_v vs 0) 49 = w_fi w3 (n_v vs 0) 49 := by show v_iv (w_fd _ _ _) = v_iv (w_fd _ _ _); rw [s3.2, if_neg (fun e => absurd e.2 (by decide))]
  have fe_0_125_3 : w_fi w2 (n_v vs 0) 125 = v_iv (n_v vs 2) := by show v_iv (w_fd _ _ _) = _; rw [s3.2, if_pos ⟨rfl, rfl⟩]
  have fe_0_31_4 : w_fi w3 (n_v vs 0) 31 = w_fi w4 (n_v vs 0) 31 := by show v_iv (w_fd _ _ _) = v_iv (w_fd _ _ _); rw [s4.2, if_neg (fun e => absurd e.2 (by decide))]
  have fe_0_32_4 : w_fi w3 (n_v vs 0) 32 = w_fi w4 (n_v vs 0) 32 := by show v_iv (w_fd _ _ _) = v_iv (w_fd _ _ _); rw [s4.2, if_neg (fun e => absurd e.2 (by decide))]
  have fe_0_49_4 : w_fi w3 (n_v vs 0) 49 = v_iv (n_v vs 1) := by show v_iv (w_fd _ _ _) = _; rw [s4.2, if_pos ⟨rfl, rfl⟩]
  have fe_0_125_4 : w_fi w3 (n_v vs 0) 125 = w_fi w4 (n_v vs 0) 125 := by show v_iv (w_fd _ _ _) = v_iv (w_fd _ _ _); rw [s4.2, if_neg (fun e => absurd e.2 (by decide))]
  have hE_0_33_1 : ∀ j : Int, w_ei ws (w_ar ws (n_v vs 0) 33) j = w_ei w1 (w_ar ws (n_v vs 0) 33) j := el_kp s1.1 r3 cr_0_33 (by decide)
  have hE_0_33_2 : ∀ j : Int, w_ei w1 (w_ar ws (n_v vs 0) 33) j = w_ei w2 (w_ar ws (n_v vs 0) 33) j := el_kp s2.1 r3 cr_0_33 (by decide)
  have hE_0_33_3 : ∀ j : Int, w_ei w2 (w_ar ws (n_v vs 0) 33) j = w_ei w3 (w_ar ws (n_v vs 0) 33) j := fun j => s3.1 _ _
  have hE_0_33_4 : ∀ j : Int, w_ei w3 (w_ar ws (n_v vs 0) 33) j = w_ei w4 (w_ar ws (n_v vs 0) 33) j := fun j => s4.1 _ _
  have hK_0_33 := elq_60 hD hth cr_0_33
  have hE_0_34_1 : ∀ j : Int, w_ei ws (w_ar ws (n_v vs 0) 34) j = w_ei w1 (w_ar ws (n_v vs 0) 34) j := el_kp s1.1 r3 cr_0_34 (by decide)
  have hE_0_34_2 : ∀ j : Int, w_ei w1 (w_ar ws (n_v vs 0) 34) j = w_ei w2 (w_ar ws (n_v vs 0) 34) j := el_kp s2.1 r3 cr_0_34 (by decide)
  have hE_0_34_3 : ∀ j : Int, w_ei w2 (w_ar ws (n_v vs 0) 34) j = w_ei w3 (w_ar ws (n_v vs 0) 34) j := fun j => s3.1 _ _
  have hE_0_34_4 : ∀ j : Int, w_ei w3 (w_ar ws (n_v vs 0) 34) j = w_ei w4 (w_ar ws (n_v vs 0) 34) j := fun j => s4.1 _ _
  have hK_0_34 := elq_61 hD hth cr_0_34
  have hE_0_35_1 : ∀ j : Int, w_ei ws (w_ar ws (n_v vs 0) 35) j = w_ei w1 (w_ar ws (n_v vs 0) 35) j := el_kp s1.1 r3 cr_0_35 (by decide)
  have hE_0_35_2 : ∀ j : Int, w_ei w1 (w_ar ws (n_v vs 0) 35) j = w_ei w2 (w_ar ws (n_v vs 0) 35) j := el_kp s2.1 r3 cr_0_35 (by decide)
  have hE_0_35_3 : ∀ j : Int, w_ei w2 (w_ar ws (n_v vs 0) 35) j = w_ei w3 (w_ar ws (n_v vs 0) 35) j := fun j => s3.1 _ _
  have hE_0_35_4 : ∀ j : Int, w_ei w3 (w_ar ws (n_v vs 0) 35) j = w_ei w4 (w_ar ws (n_v vs 0) 35) j := fun j => s4.1 _ _
  have hK_0_35 := elq_72 hD hth cr_0_35
  have hE_0_117_1 : ∀ j : Int, 0 ≤ j → (j = v_iv (n_v vs 8) → w_ei ws (w_ar ws (n_v vs 0) 117) j = v_iv (n_v vs 11)) ∧ (j ≠ v_iv (n_v vs 8) → w_ei ws (w_ar ws (n_v vs 0) 117) j = w_ei w1 (w_ar ws (n_v vs 0) 117) j) := fun j hj => ⟨fun h => by unfold w_ei; rw [s1.1, if_pos ⟨ad_3.symm, by rw [h]⟩], fun h => by unfold w_ei; rw [s1.1, if_neg (fun e => h (by have := e.2; omega))]⟩
  have hE_0_117_2 : ∀ j : Int, 0 ≤ j → (j = v_iv (n_v vs 4) → w_ei w1 (w_ar ws (n_v vs 0) 117) j = v_iv (n_v vs 7)) ∧ (j ≠ v_iv (n_v vs 4) → w_ei w1 (w_ar ws (n_v vs 0) 117) j = w_ei w2 (w_ar ws (n_v vs 0) 117) j) := fun j hj => ⟨fun h => by unfold w_ei; rw [s2.1, if_pos ⟨ad_3.symm, by rw [h]⟩], fun h => by unfold w_ei; rw [s2.1, if_neg (fun e => h (by have := e.2; omega))]⟩
  have hE_0_117_3 : ∀ j : Int, w_ei w2 (w_ar ws (n_v vs 0) 117) j = w_ei w3 (w_ar ws (n_v vs 0) 117) j := fun j => s3.1 _ _
  have hE_0_117_4 : ∀ j : Int, w_ei w3 (w_ar ws (n_v vs 0) 117) j = w_ei w4 (w_ar ws (n_v vs 0) 117) j := fun j => s4.1 _ _
  have hK_0_117 := elq_108 hD hth cr_0_117
  have kz_0_31 := fdq_145 hD hth r0
  have kz_0_32 := fdq_140 hD hth r0
  have kz_0_49 := fdq_146 hD hth r0
  have kz_0_125 := fdq_182 hD hth r0
  obtain ⟨x, ex, hx⟩ := iv_ex (ta := ta) (lo := (-2)) (hi := 26) (z := 26) (by omega) (by omega) (by omega) (by omega)
  have ex2 : v_iv (Value.int x) = 26 := ex
  have ex3 : (-2) ≤ v_iv (Value.int x) ∧ v_iv (Value.int x) ≤ 26 := tv_rng hx
  have e_0 : n_v (vs ++ [Value.int x]) 0 = n_v vs 0 := n_v_old (by rw [hl]; decide)
  have e_12 : n_v (vs ++ [Value.int x]) 12 = Value.int x := n_v_new hl
  have nf0 : fc_1 PRD (20, [0], [60, 2, 2, 75, 31, 32, 33, 34]) ws (vs ++ [Value.int x]) := by
    refine ⟨nf_inA hl rfl, sgq_575 ?_⟩
    · show GOK (w_fi ws (n_v (vs ++ [Value.int x]) 0) 31) (w_fi ws (n_v (vs ++ [Value.int x]) 0) 32) (w_ei ws (w_ar ws (n_v (vs ++ [Value.int x]) 0) 33)) (w_ei ws (w_ar ws (n_v (vs ++ [Value.int x]) 0) 34))
      rw [e_0]
      exact vc_Mo_stOrder_0_0 (v_iv (n_v vs 1)) (v_iv (n_v vs 2)) (v_iv (n_v vs 4)) (v_iv (n_v vs 6)) (v_iv (n_v vs 7)) (v_iv (n_v vs 8)) (v_iv (n_v vs 10)) (v_iv (n_v vs 11)) (w_ei ws (w_ar ws (n_v vs 0) 33)) (w_ei ws (w_ar ws (n_v vs 0) 34)) (w_ei ws (w_ar ws (n_v vs 0) 35)) (w_fi ws (n_v vs 0) 31) (w_fi ws (n_v vs 0) 32) (w_ei w1 (w_ar ws (n_v vs 0) 34)) (w_ei w1 (w_ar ws (n_v vs 0) 33)) (w_ei w1 (w_ar ws (n_v vs 0) 35)) (w_fi w1 (n_v vs 0) 31) (w_fi w1 (n_v vs 0) 32) (w_ei w2 (w_ar ws (n_v vs 0) 33)) (w_ei w2 (w_ar ws (n_v vs 0) 34)) (w_ei w2 (w_ar ws (n_v vs 0) 35)) (w_fi w2 (n_v vs 0) 31) (w_fi w2 (n_v vs 0) 32) (w_ei w3 (w_ar ws (n_v vs 0) 33)) (w_ei w3 (w_ar ws (n_v vs 0) 34)) (w_ei w3 (w_ar ws (n_v vs 0) 35)) (w_fi w3 (n_v vs 0) 31) (w_fi w3 (n_v vs 0) 32) (w_ei w4 (w_ar ws (n_v vs 0) 33)) (w_ei w4 (w_ar ws (n_v vs 0) 34)) (w_ei w4 (w_ar ws (n_v vs 0) 35)) (w_fi w4 (n_v vs 0) 31) (w_fi w4 (n_v vs 0) 32) (w_fi ws (n_v vs 0) 49) (w_fi w1 (n_v vs 0) 49) (w_fi ws (n_v vs 0) 125) (w_fi w1 (n_v vs 0) 125) (w_fi w2 (n_v vs 0) 49) (w_fi w2 (n_v vs 0) 125) (w_fi w3 (n_v vs 0) 49) (w_fi w3 (n_v vs 0) 125) (w_fi w4 (n_v vs 0) 125) (w_ei ws (w_ar ws (n_v vs 0) 117)) (w_ei w1 (w_ar ws (n_v vs 0) 117)) (w_ei w2 (w_ar ws (n_v vs 0) 117)) (w_ei w3 (w_ar ws (n_v vs 0) 117)) (w_ei w4 (w_ar ws (n_v vs 0) 117)) (v_iv (Value.int x)) k1 k2 k4 k6 k7 k8 k10 k11 f0 f1 h3 f6 f7 h9 f11 f12 f14 f15 f17 f18 fe_0_31_1 fe_0_32_1 fe_0_49_1 fe_0_125_1 fe_0_31_2 fe_0_32_2 fe_0_49_2 fe_0_125_2 fe_0_31_3 fe_0_32_3 fe_0_49_3 fe_0_125_3 fe_0_31_4 fe_0_32_4 fe_0_49_4 fe_0_125_4 hE_0_33_1 hE_0_33_2 hE_0_33_3 hE_0_33_4 hK_0_33 hE_0_34_1 hE_0_34_2 hE_0_34_3 hE_0_34_4 hK_0_34 hE_0_35_1 hE_0_35_2 hE_0_35_3 hE_0_35_4 hK_0_35 hE_0_117_1 hE_0_117_2 hE_0_117_3 hE_0_117_4 hK_0_117 kz_0_31 kz_0_32 kz_0_49 kz_0_125 ex2 ex3
  have nf1 : fc_1 PRD (20, [0], [60, 2, 3, 297, 31, 32, 33, 34, 35]) ws (vs ++ [Value.int x]) := by
    refine ⟨nf_inA hl rfl, sgq_1749 ?_⟩
    · show STB (w_fi ws (n_v (vs ++ [Value.int x]) 0) 31) (w_fi ws (n_v (vs ++ [Value.int x]) 0) 32) (w_ei ws (w_ar ws (n_v (vs ++ [Value.int x]) 0) 33)) (w_ei ws (w_ar ws (n_v (vs ++ [Value.int x]) 0) 34)) (w_ei ws (w_ar ws (n_v (vs ++ [Value.int x]) 0) 35))
      rw [e_0]
      exact vc_Mo_stOrder_0_1 (v_iv (n_v vs 1)) (v_iv (n_v vs 2)) (v_iv (n_v vs 4)) (v_iv (n_v vs 6)) (v_iv (n_v vs 7)) (v_iv (n_v vs 8)) (v_iv (n_v vs 10)) (v_iv (n_v vs 11)) (w_ei ws (w_ar ws (n_v vs 0) 33)) (w_ei ws (w_ar ws (n_v vs 0) 34)) (w_ei ws (w_ar ws (n_v vs 0) 35)) (w_fi ws (n_v vs 0) 31) (w_fi ws (n_v vs 0) 32) (w_ei w1 (w_ar ws (n_v vs 0) 34)) (w_ei w1 (w_ar ws (n_v vs 0) 33)) (w_ei w1 (w_ar ws (n_v vs 0) 35)) (w_fi w1 (n_v vs 0) 31) (w_fi w1 (n_v vs 0) 32) (w_ei w2 (w_ar ws (n_v vs 0) 33)) (w_ei w2 (w_ar ws (n_v vs 0) 34)) (w_ei w2 (w_ar ws (n_v vs 0) 35)) (w_fi w2 (n_v vs 0) 31) (w_fi w2 (n_v vs 0) 32) (w_ei w3 (w_ar ws (n_v vs 0) 33)) (w_ei w3 (w_ar ws (n_v vs 0) 34)) (w_ei w3 (w_ar ws (n_v vs 0) 35)) (w_fi w3 (n_v vs 0) 31) (w_fi w3 (n_v vs 0) 32) (w_ei w4 (w_ar ws (n_v vs 0) 33)) (w_ei w4 (w_ar ws (n_v vs 0) 34)) (w_ei w4 (w_ar ws (n_v vs 0) 35)) (w_fi w4 (n_v vs 0) 31) (w_fi w4 (n_v vs 0) 32) (w_fi ws (n_v vs 0) 49) (w_fi w1 (n_v vs 0) 49) (w_fi ws (n_v vs 0) 125) (w_fi w1 (n_v vs 0) 125) (w_fi w2 (n_v vs 0) 49) (w_fi w2 (n_v vs 0) 125) (w_fi w3 (n_v vs 0) 49) (w_fi w3 (n_v vs 0) 125) (w_fi w4 (n_v vs 0) 125) (w_ei ws (w_ar ws (n_v vs 0) 117)) (w_ei w1 (w_ar ws (n_v vs 0) 117)) (w_ei w2 (w_ar ws (n_v vs 0) 117)) (w_ei w3 (w_ar ws (n_v vs 0) 117)) (w_ei w4 (w_ar ws (n_v vs 0) 117)) (v_iv (Value.int x)) k1 k2 k4 k6 k7 k8 k10 k11 f0 f1 h3 f6 f7 h9 f11 f12 f14 f15 f17 f18 fe_0_31_1 fe_0_32_1 fe_0_49_1 fe_0_125_1 fe_0_31_2 fe_0_32_2 fe_0_49_2 fe_0_125_2 fe_0_31_3 fe_0_32_3 fe_0_49_3 fe_0_125_3 fe_0_31_4 fe_0_32_4 fe_0_49_4 fe_0_125_4 hE_0_33_1 hE_0_33_2 hE_0_33_3 hE_0_33_4 hK_0_33 hE_0_34_1 hE_0_34_2 hE_0_34_3 hE_0_34_4 hK_0_34 hE_0_35_1 hE_0_35_2 hE_0_35_3 hE_0_35_4 hK_0_35 hE_0_117_1 hE_0_117_2 hE_0_117_3 hE_0_117_4 hK_0_117 kz_0_31 kz_0_32 kz_0_49 kz_0_125 ex2 ex3
  have nf2 : fc_1 PRD (20, [0], [60, 2, 3, 298, 31, 125, 33, 34, 117]) ws (vs ++ [Value.int x]) := by
    refine ⟨nf_inA hl rfl, sgq_1001 ?_⟩
    · show STR (w_fi ws (n_v (vs ++ [Value.int x]) 0) 31) (w_fi ws (n_v (vs ++ [Value.int x]) 0) 125) (w_ei ws (w_ar ws (n_v (vs ++ [Value.int x]) 0) 33)) (w_ei ws (w_ar ws (n_v (vs ++ [Value.int x]) 0) 34)) (w_ei ws (w_ar ws (n_v (vs ++ [Value.int x]) 0) 117))
      rw [e_0]
      exact vc_Mo_stOrder_0_2 (v_iv (n_v vs 1)) (v_iv (n_v vs 2)) (v_iv (n_v vs 4)) (v_iv (n_v vs 6)) (v_iv (n_v vs 7)) (v_iv (n_v vs 8)) (v_iv (n_v vs 10)) (v_iv (n_v vs 11)) (w_ei ws (w_ar ws (n_v vs 0) 33)) (w_ei ws (w_ar ws (n_v vs 0) 34)) (w_ei ws (w_ar ws (n_v vs 0) 35)) (w_fi ws (n_v vs 0) 31) (w_fi ws (n_v vs 0) 32) (w_ei w1 (w_ar ws (n_v vs 0) 34)) (w_ei w1 (w_ar ws (n_v vs 0) 33)) (w_ei w1 (w_ar ws (n_v vs 0) 35)) (w_fi w1 (n_v vs 0) 31) (w_fi w1 (n_v vs 0) 32) (w_ei w2 (w_ar ws (n_v vs 0) 33)) (w_ei w2 (w_ar ws (n_v vs 0) 34)) (w_ei w2 (w_ar ws (n_v vs 0) 35)) (w_fi w2 (n_v vs 0) 31) (w_fi w2 (n_v vs 0) 32) (w_ei w3 (w_ar ws (n_v vs 0) 33)) (w_ei w3 (w_ar ws (n_v vs 0) 34)) (w_ei w3 (w_ar ws (n_v vs 0) 35)) (w_fi w3 (n_v vs 0) 31) (w_fi w3 (n_v vs 0) 32) (w_ei w4 (w_ar ws (n_v vs 0) 33)) (w_ei w4 (w_ar ws (n_v vs 0) 34)) (w_ei w4 (w_ar ws (n_v vs 0) 35)) (w_fi w4 (n_v vs 0) 31) (w_fi w4 (n_v vs 0) 32) (w_fi ws (n_v vs 0) 49) (w_fi w1 (n_v vs 0) 49) (w_fi ws (n_v vs 0) 125) (w_fi w1 (n_v vs 0) 125) (w_fi w2 (n_v vs 0) 49) (w_fi w2 (n_v vs 0) 125) (w_fi w3 (n_v vs 0) 49) (w_fi w3 (n_v vs 0) 125) (w_fi w4 (n_v vs 0) 125) (w_ei ws (w_ar ws (n_v vs 0) 117)) (w_ei w1 (w_ar ws (n_v vs 0) 117)) (w_ei w2 (w_ar ws (n_v vs 0) 117)) (w_ei w3 (w_ar ws (n_v vs 0) 117)) (w_ei w4 (w_ar ws (n_v vs 0) 117)) (v_iv (Value.int x)) k1 k2 k4 k6 k7 k8 k10 k11 f0 f1 h3 f6 f7 h9 f11 f12 f14 f15 f17 f18 fe_0_31_1 fe_0_32_1 fe_0_49_1 fe_0_125_1 fe_0_31_2 fe_0_32_2 fe_0_49_2 fe_0_125_2 fe_0_31_3 fe_0_32_3 fe_0_49_3 fe_0_125_3 fe_0_31_4 fe_0_32_4 fe_0_49_4 fe_0_125_4 hE_0_33_1 hE_0_33_2 hE_0_33_3 hE_0_33_4 hK_0_33 hE_0_34_1 hE_0_34_2 hE_0_34_3 hE_0_34_4 hK_0_34 hE_0_35_1 hE_0_35_2 hE_0_35_3 hE_0_35_4 hK_0_35 hE_0_117_1 hE_0_117_2 hE_0_117_3 hE_0_117_4 hK_0_117 kz_0_31 kz_0_32 kz_0_49 kz_0_125 ex2 ex3
  have nf3 : fc_1 PRD (20, [0], [50, 1, 0, 49, 1, 3, 2, 0, 49, 0, -1]) ws (vs ++ [Value.int x]) := by
    refine ⟨nf_inA hl rfl, sgq_1675 ?_⟩
    · show w_fi ws (n_v (vs ++ [Value.int x]) 0) 49 = (-1)
      rw [e_0]
      exact vc_Mo_stOrder_0_3 (v_iv (n_v vs 1)) (v_iv (n_v vs 2)) (v_iv (n_v vs 4)) (v_iv (n_v vs 6)) (v_iv (n_v vs 7)) (v_iv (n_v vs 8)) (v_iv (n_v vs 10)) (v_iv (n_v vs 11)) (w_ei ws (w_ar ws (n_v vs 0) 33)) (w_ei ws (w_ar ws (n_v vs 0) 34)) (w_ei ws (w_ar ws (n_v vs 0) 35)) (w_fi ws (n_v vs 0) 31) (w_fi ws (n_v vs 0) 32) (w_ei w1 (w_ar ws (n_v vs 0) 34)) (w_ei w1 (w_ar ws (n_v vs 0) 33)) (w_ei w1 (w_ar ws (n_v vs 0) 35)) (w_fi w1 (n_v vs 0) 31) (w_fi w1 (n_v vs 0) 32) (w_ei w2 (w_ar ws (n_v vs 0) 33)) (w_ei w2 (w_ar ws (n_v vs 0) 34)) (w_ei w2 (w_ar ws (n_v vs 0) 35)) (w_fi w2 (n_v vs 0) 31) (w_fi w2 (n_v vs 0) 32) (w_ei w3 (w_ar ws (n_v vs 0) 33)) (w_ei w3 (w_ar ws (n_v vs 0) 34)) (w_ei w3 (w_ar ws (n_v vs 0) 35)) (w_fi w3 (n_v vs 0) 31) (w_fi w3 (n_v vs 0) 32) (w_ei w4 (w_ar ws (n_v vs 0) 33)) (w_ei w4 (w_ar ws (n_v vs 0) 34)) (w_ei w4 (w_ar ws (n_v vs 0) 35)) (w_fi w4 (n_v vs 0) 31) (w_fi w4 (n_v vs 0) 32) (w_fi ws (n_v vs 0) 49) (w_fi w1 (n_v vs 0) 49) (w_fi ws (n_v vs 0) 125) (w_fi w1 (n_v vs 0) 125) (w_fi w2 (n_v vs 0) 49) (w_fi w2 (n_v vs 0) 125) (w_fi w3 (n_v vs 0) 49) (w_fi w3 (n_v vs 0) 125) (w_fi w4 (n_v vs 0) 125) (w_ei ws (w_ar ws (n_v vs 0) 117)) (w_ei w1 (w_ar ws (n_v vs 0) 117)) (w_ei w2 (w_ar ws (n_v vs 0) 117)) (w_ei w3 (w_ar ws (n_v vs 0) 117)) (w_ei w4 (w_ar ws (n_v vs 0) 117)) (v_iv (Value.int x)) k1 k2 k4 k6 k7 k8 k10 k11 f0 f1 h3 f6 f7 h9 f11 f12 f14 f15 f17 f18 fe_0_31_1 fe_0_32_1 fe_0_49_1 fe_0_125_1 fe_0_31_2 fe_0_32_2 fe_0_49_2 fe_0_125_2 fe_0_31_3 fe_0_32_3 fe_0_49_3 fe_0_125_3 fe_0_31_4 fe_0_32_4 fe_0_49_4 fe_0_125_4 hE_0_33_1 hE_0_33_2 hE_0_33_3 hE_0_33_4 hK_0_33 hE_0_34_1 hE_0_34_2 hE_0_34_3 hE_0_34_4 hK_0_34 hE_0_35_1 hE_0_35_2 hE_0_35_3 hE_0_35_4 hK_0_35 hE_0_117_1 hE_0_117_2 hE_0_117_3 hE_0_117_4 hK_0_117 kz_0_31 kz_0_32 kz_0_49 kz_0_125 ex2 ex3
  have nf4 : fc_1 PRD (20, [0, 12], [30, -26, -1, 1, 125, -1, 0, 0]) ws (vs ++ [Value.int x]) := by
    refine ⟨nf_inA hl rfl, sgq_1750 ?_⟩
    · show (-1) * w_fi ws (n_v (vs ++ [Value.int x]) 0) 125 + ((-1) * v_iv (n_v (vs ++ [Value.int x]) 12) + 0) ≤ (-26)
      simp only [e_0, e_12]
      exact vc_Mo_stOrder_0_4 (v_iv (n_v vs 1)) (v_iv (n_v vs 2)) (v_iv (n_v vs 4)) (v_iv (n_v vs 6)) (v_iv (n_v vs 7)) (v_iv (n_v vs 8)) (v_iv (n_v vs 10)) (v_iv (n_v vs 11)) (w_ei ws (w_ar ws (n_v vs 0) 33)) (w_ei ws (w_ar ws (n_v vs 0) 34)) (w_ei ws (w_ar ws (n_v vs 0) 35)) (w_fi ws (n_v vs 0) 31) (w_fi ws (n_v vs 0) 32) (w_ei w1 (w_ar ws (n_v vs 0) 34)) (w_ei w1 (w_ar ws (n_v vs 0) 33)) (w_ei w1 (w_ar ws (n_v vs 0) 35)) (w_fi w1 (n_v vs 0) 31) (w_fi w1 (n_v vs 0) 32) (w_ei w2 (w_ar ws (n_v vs 0) 33)) (w_ei w2 (w_ar ws (n_v vs 0) 34)) (w_ei w2 (w_ar ws (n_v vs 0) 35)) (w_fi w2 (n_v vs 0) 31) (w_fi w2 (n_v vs 0) 32) (w_ei w3 (w_ar ws (n_v vs 0) 33)) (w_ei w3 (w_ar ws (n_v vs 0) 34)) (w_ei w3 (w_ar ws (n_v vs 0) 35)) (w_fi w3 (n_v vs 0) 31) (w_fi w3 (n_v vs 0) 32) (w_ei w4 (w_ar ws (n_v vs 0) 33)) (w_ei w4 (w_ar ws (n_v vs 0) 34)) (w_ei w4 (w_ar ws (n_v vs 0) 35)) (w_fi w4 (n_v vs 0) 31) (w_fi w4 (n_v vs 0) 32) (w_fi ws (n_v vs 0) 49) (w_fi w1 (n_v vs 0) 49) (w_fi ws (n_v vs 0) 125) (w_fi w1 (n_v vs 0) 125) (w_fi w2 (n_v vs 0) 49) (w_fi w2 (n_v vs 0) 125) (w_fi w3 (n_v vs 0) 49) (w_fi w3 (n_v vs 0) 125) (w_fi w4 (n_v vs 0) 125) (w_ei ws (w_ar ws (n_v vs 0) 117)) (w_ei w1 (w_ar ws (n_v vs 0) 117)) (w_ei w2 (w_ar ws (n_v vs 0) 117)) (w_ei w3 (w_ar ws (n_v vs 0) 117)) (w_ei w4 (w_ar ws (n_v vs 0) 117)) (v_iv (Value.int x)) k1 k2 k4 k6 k7 k8 k10 k11 f0 f1 h3 f6 f7 h9 f11 f12 f14 f15 f17 f18 fe_0_31_1 fe_0_32_1 fe_0_49_1 fe_0_125_1 fe_0_31_2 fe_0_32_2 fe_0_49_2 fe_0_125_2 fe_0_31_3 fe_0_32_3 fe_0_49_3 fe_0_125_3 fe_0_31_4 fe_0_32_4 fe_0_49_4 fe_0_125_4 hE_0_33_1 hE_0_33_2 hE_0_33_3 hE_0_33_4 hK_0_33 hE_0_34_1 hE_0_34_2 hE_0_34_3 hE_0_34_4 hK_0_34 hE_0_35_1 hE_0_35_2 hE_0_35_3 hE_0_35_4 hK_0_35 hE_0_117_1 hE_0_117_2 hE_0_117_3 hE_0_117_4 hK_0_117 kz_0_31 kz_0_32 kz_0_49 kz_0_125 ex2 ex3
  exact ⟨(fun _ h => (by cases h)), [Value.int x], ag_one hx, List.forall_mem_cons.mpr ⟨⟨show (20 : Nat) < 100 from by decide, nf0⟩, List.forall_mem_cons.mpr ⟨⟨show (20 : Nat) < 100 from by decide, nf1⟩, List.forall_mem_cons.mpr ⟨⟨show (20 : Nat) < 100 from by decide, nf2⟩, List.forall_mem_cons.mpr ⟨⟨show (20 : Nat) < 100 from by decide, nf3⟩, List.forall_mem_cons.mpr ⟨⟨show (20 : Nat) < 100 from by decide, nf4⟩, (fun _ h => (by cases h))⟩⟩⟩⟩⟩, (fun _ h => (by cases h))⟩
set_option maxHeartbeats 4000000 in
theorem vc_Mo_stOrder_1_0 (x1 : Int) (x2 : Int) (x3 : Int) (x4 : Int) (pn_0 : Int) (rowMany_0 : Int) (pt_0 : Int → Int) (ph_0 : Int → Int) (pm_0 : Int) (alive_0 : Int → Int) (row_0 : Int → Int) (onlyPiece_0 : Int) (drawnNode_0 : Int → Int) (gx : Int) (k1 : (-2) ≤ x1 ∧ x1 ≤ 26) (k2 : 0 ≤ x2 ∧ x2 ≤ 24) (k3 : 1 ≤ x3 ∧ x3 ≤ 25) (k4 : 0 ≤ x4 ∧ x4 ≤ 0) (d0 : x3 + (-4294967296) ≤ x2 ∧ x2 ≤ x3 + (-1)) (f0 : x2 < x3) (g1 : x3 = pn_0) (g2 : x2 = rowMany_0) (f3 : GOK (pn_0) (pm_0) (pt_0) (ph_0)) (f4 : STB (pn_0) (pm_0) (pt_0) (ph_0) (alive_0)) (f5 : STR (pn_0) (rowMany_0) (pt_0) (ph_0) (row_0)) (f6 : onlyPiece_0 = (-1)) (f7 : (-1) * rowMany_0 + ((-1) * x1 + 0) ≤ (-26)) (hK_0_33 : ∀ j : Int, 0 ≤ j → j < 80 → 0 ≤ pt_0 j ∧ pt_0 j ≤ 24) (hK_0_34 : ∀ j : Int, 0 ≤ j → j < 80 → 0 ≤ ph_0 j ∧ ph_0 j ≤ 24) (hK_0_35 : ∀ j : Int, 0 ≤ j → j < 80 → 0 ≤ alive_0 j ∧ alive_0 j ≤ 1) (hK_0_42 : ∀ j : Int, 0 ≤ j → j < 26 → 0 ≤ drawnNode_0 j ∧ drawnNode_0 j ≤ 1) (hK_0_117 : ∀ j : Int, 0 ≤ j → j < 100 → 0 ≤ row_0 j ∧ row_0 j ≤ 75) (kz_0_31 : 0 ≤ pn_0 ∧ pn_0 ≤ 25) (kz_0_32 : 0 ≤ pm_0 ∧ pm_0 ≤ 80) (kz_0_49 : (-1) ≤ onlyPiece_0 ∧ onlyPiece_0 ≤ 79) (kz_0_125 : 0 ≤ rowMany_0 ∧ rowMany_0 ≤ 100) (ex2 : gx = 0 + (1 * x1 + 0)) (ex3 : (-2) ≤ gx ∧ gx ≤ 26) : GOK (pn_0) (pm_0) (pt_0) (ph_0) := by
  first
    | assumption
    | exact ‹STB _ _ _ _ _›.1.1
set_option maxHeartbeats 4000000 in
theorem vc_Mo_stOrder_1_1 (x1 : Int) (x2 : Int) (x3 : Int) (x4 : Int) (pn_0 : Int) (rowMany_0 : Int) (pt_0 : Int → Int) (ph_0 : Int → Int) (pm_0 : Int) (alive_0 : Int → Int) (row_0 : Int → Int) (onlyPiece_0 : Int) (drawnNode_0 : Int → Int) (gx : Int) (k1 : (-2) ≤ x1 ∧ x1 ≤ 26) (k2 : 0 ≤ x2 ∧ x2 ≤ 24) (k3 : 1 ≤ x3 ∧ x3 ≤ 25) (k4 : 0 ≤ x4 ∧ x4 ≤ 0) (d0 : x3 + (-4294967296) ≤ x2 ∧ x2 ≤ x3 + (-1)) (f0 : x2 < x3) (g1 : x3 = pn_0) (g2 : x2 = rowMany_0) (f3 : GOK (pn_0) (pm_0) (pt_0) (ph_0)) (f4 : STB (pn_0) (pm_0) (pt_0) (ph_0) (alive_0)) (f5 : STR (pn_0) (rowMany_0) (pt_0) (ph_0) (row_0)) (f6 : onlyPiece_0 = (-1)) (f7 : (-1) * rowMany_0 + ((-1) * x1 + 0) ≤ (-26)) (hK_0_33 : ∀ j : Int, 0 ≤ j → j < 80 → 0 ≤ pt_0 j ∧ pt_0 j ≤ 24) (hK_0_34 : ∀ j : Int, 0 ≤ j → j < 80 → 0 ≤ ph_0 j ∧ ph_0 j ≤ 24) (hK_0_35 : ∀ j : Int, 0 ≤ j → j < 80 → 0 ≤ alive_0 j ∧ alive_0 j ≤ 1) (hK_0_42 : ∀ j : Int, 0 ≤ j → j < 26 → 0 ≤ drawnNode_0 j ∧ drawnNode_0 j ≤ 1) (hK_0_117 : ∀ j : Int, 0 ≤ j → j < 100 → 0 ≤ row_0 j ∧ row_0 j ≤ 75) (kz_0_31 : 0 ≤ pn_0 ∧ pn_0 ≤ 25) (kz_0_32 : 0 ≤ pm_0 ∧ pm_0 ≤ 80) (kz_0_49 : (-1) ≤ onlyPiece_0 ∧ onlyPiece_0 ≤ 79) (kz_0_125 : 0 ≤ rowMany_0 ∧ rowMany_0 ≤ 100) (ex2 : gx = 0 + (1 * x1 + 0)) (ex3 : (-2) ≤ gx ∧ gx ≤ 26) : STB (pn_0) (pm_0) (pt_0) (ph_0) (alive_0) := by
  first | assumption
set_option maxHeartbeats 4000000 in
theorem vc_Mo_stOrder_1_2 (x1 : Int) (x2 : Int) (x3 : Int) (x4 : Int) (pn_0 : Int) (rowMany_0 : Int) (pt_0 : Int → Int) (ph_0 : Int → Int) (pm_0 : Int) (alive_0 : Int → Int) (row_0 : Int → Int) (onlyPiece_0 : Int) (drawnNode_0 : Int → Int) (gx : Int) (k1 : (-2) ≤ x1 ∧ x1 ≤ 26) (k2 : 0 ≤ x2 ∧ x2 ≤ 24) (k3 : 1 ≤ x3 ∧ x3 ≤ 25) (k4 : 0 ≤ x4 ∧ x4 ≤ 0) (d0 : x3 + (-4294967296) ≤ x2 ∧ x2 ≤ x3 + (-1)) (f0 : x2 < x3) (g1 : x3 = pn_0) (g2 : x2 = rowMany_0) (f3 : GOK (pn_0) (pm_0) (pt_0) (ph_0)) (f4 : STB (pn_0) (pm_0) (pt_0) (ph_0) (alive_0)) (f5 : STR (pn_0) (rowMany_0) (pt_0) (ph_0) (row_0)) (f6 : onlyPiece_0 = (-1)) (f7 : (-1) * rowMany_0 + ((-1) * x1 + 0) ≤ (-26)) (hK_0_33 : ∀ j : Int, 0 ≤ j → j < 80 → 0 ≤ pt_0 j ∧ pt_0 j ≤ 24) (hK_0_34 : ∀ j : Int, 0 ≤ j → j < 80 → 0 ≤ ph_0 j ∧ ph_0 j ≤ 24) (hK_0_35 : ∀ j : Int, 0 ≤ j → j < 80 → 0 ≤ alive_0 j ∧ alive_0 j ≤ 1) (hK_0_42 : ∀ j : Int, 0 ≤ j → j < 26 → 0 ≤ drawnNode_0 j ∧ drawnNode_0 j ≤ 1) (hK_0_117 : ∀ j : Int, 0 ≤ j → j < 100 → 0 ≤ row_0 j ∧ row_0 j ≤ 75) (kz_0_31 : 0 ≤ pn_0 ∧ pn_0 ≤ 25) (kz_0_32 : 0 ≤ pm_0 ∧ pm_0 ≤ 80) (kz_0_49 : (-1) ≤ onlyPiece_0 ∧ onlyPiece_0 ≤ 79) (kz_0_125 : 0 ≤ rowMany_0 ∧ rowMany_0 ≤ 100) (ex2 : gx = 0 + (1 * x1 + 0)) (ex3 : (-2) ≤ gx ∧ gx ≤ 26) : STR (pn_0) (rowMany_0) (pt_0) (ph_0) (row_0) := by
  first | assumption
set_option maxHeartbeats 4000000 in
theorem vc_Mo_stOrder_1_3 (x1 : Int) (x2 : Int) (x3 : Int) (x4 : Int) (pn_0 : Int) (rowMany_0 : Int) (pt_0 : Int → Int) (ph_0 : Int → Int) (pm_0 : Int) (alive_0 : Int → Int) (row_0 : Int → Int) (onlyPiece_0 : Int) (drawnNode_0 : Int → Int) (gx : Int) (k1 : (-2) ≤ x1 ∧ x1 ≤ 26) (k2 : 0 ≤ x2 ∧ x2 ≤ 24) (k3 : 1 ≤ x3 ∧ x3 ≤ 25) (k4 : 0 ≤ x4 ∧ x4 ≤ 0) (d0 : x3 + (-4294967296) ≤ x2 ∧ x2 ≤ x3 + (-1)) (f0 : x2 < x3) (g1 : x3 = pn_0) (g2 : x2 = rowMany_0) (f3 : GOK (pn_0) (pm_0) (pt_0) (ph_0)) (f4 : STB (pn_0) (pm_0) (pt_0) (ph_0) (alive_0)) (f5 : STR (pn_0) (rowMany_0) (pt_0) (ph_0) (row_0)) (f6 : onlyPiece_0 = (-1)) (f7 : (-1) * rowMany_0 + ((-1) * x1 + 0) ≤ (-26)) (hK_0_33 : ∀ j : Int, 0 ≤ j → j < 80 → 0 ≤ pt_0 j ∧ pt_0 j ≤ 24) (hK_0_34 : ∀ j : Int, 0 ≤ j → j < 80 → 0 ≤ ph_0 j ∧ ph_0 j ≤ 24) (hK_0_35 : ∀ j : Int, 0 ≤ j → j < 80 → 0 ≤ alive_0 j ∧ alive_0 j ≤ 1) (hK_0_42 : ∀ j : Int, 0 ≤ j → j < 26 → 0 ≤ drawnNode_0 j ∧ drawnNode_0 j ≤ 1) (hK_0_117 : ∀ j : Int, 0 ≤ j → j < 100 → 0 ≤ row_0 j ∧ row_0 j ≤ 75) (kz_0_31 : 0 ≤ pn_0 ∧ pn_0 ≤ 25) (kz_0_32 : 0 ≤ pm_0 ∧ pm_0 ≤ 80) (kz_0_49 : (-1) ≤ onlyPiece_0 ∧ onlyPiece_0 ≤ 79) (kz_0_125 : 0 ≤ rowMany_0 ∧ rowMany_0 ≤ 100) (ex2 : gx = 0 + (1 * x1 + 0)) (ex3 : (-2) ≤ gx ∧ gx ≤ 26) : onlyPiece_0 = (-1) := by
  first
    | omega
    | (have h := ‹STB _ _ _ _ _›.1.2.2; omega)
    | (have h := ‹STR _ _ _ _ _›.1; omega)
    | (have h := ‹STR _ _ _ _ _›.1
       have w := ‹STR _ _ _ _ _›.2.1 x1 (by omega) (by omega)
       omega)
    | (have h := bc_len ‹BC1 _ _ _ _ _ _ _›
       have h2 := ‹STR _ _ _ _ _›.1
       omega)
    | (have h := (sb_way ‹SB1 _ _ _ _ _ _ _ _ _ _ _ _› (by omega)).1
       have h2 := ‹STR _ _ _ _ _›.1
       omega)
    | (have h := ‹WYM _ _ _ _›.1
       have h2 := ‹STR _ _ _ _ _›.1
       omega)
set_option maxHeartbeats 4000000 in
theorem vc_Mo_stOrder_1_4 (x1 : Int) (x2 : Int) (x3 : Int) (x4 : Int) (pn_0 : Int) (rowMany_0 : Int) (pt_0 : Int → Int) (ph_0 : Int → Int) (pm_0 : Int) (alive_0 : Int → Int) (row_0 : Int → Int) (onlyPiece_0 : Int) (drawnNode_0 : Int → Int) (gx : Int) (k1 : (-2) ≤ x1 ∧ x1 ≤ 26) (k2 : 0 ≤ x2 ∧ x2 ≤ 24) (k3 : 1 ≤ x3 ∧ x3 ≤ 25) (k4 : 0 ≤ x4 ∧ x4 ≤ 0) (d0 : x3 + (-4294967296) ≤ x2 ∧ x2 ≤ x3 + (-1)) (f0 : x2 < x3) (g1 : x3 = pn_0) (g2 : x2 = rowMany_0) (f3 : GOK (pn_0) (pm_0) (pt_0) (ph_0)) (f4 : STB (pn_0) (pm_0) (pt_0) (ph_0) (alive_0)) (f5 : STR (pn_0) (rowMany_0) (pt_0) (ph_0) (row_0)) (f6 : onlyPiece_0 = (-1)) (f7 : (-1) * rowMany_0 + ((-1) * x1 + 0) ≤ (-26)) (hK_0_33 : ∀ j : Int, 0 ≤ j → j < 80 → 0 ≤ pt_0 j ∧ pt_0 j ≤ 24) (hK_0_34 : ∀ j : Int, 0 ≤ j → j < 80 → 0 ≤ ph_0 j ∧ ph_0 j ≤ 24) (hK_0_35 : ∀ j : Int, 0 ≤ j → j < 80 → 0 ≤ alive_0 j ∧ alive_0 j ≤ 1) (hK_0_42 : ∀ j : Int, 0 ≤ j → j < 26 → 0 ≤ drawnNode_0 j ∧ drawnNode_0 j ≤ 1) (hK_0_117 : ∀ j : Int, 0 ≤ j → j < 100 → 0 ≤ row_0 j ∧ row_0 j ≤ 75) (kz_0_31 : 0 ≤ pn_0 ∧ pn_0 ≤ 25) (kz_0_32 : 0 ≤ pm_0 ∧ pm_0 ≤ 80) (kz_0_49 : (-1) ≤ onlyPiece_0 ∧ onlyPiece_0 ≤ 79) (kz_0_125 : 0 ≤ rowMany_0 ∧ rowMany_0 ≤ 100) (ex2 : gx = 0 + (1 * x1 + 0)) (ex3 : (-2) ≤ gx ∧ gx ≤ 26) : (-1) * rowMany_0 + ((-1) * gx + 0) ≤ (-26) := by
  first
    | omega
    | (have h := ‹STB _ _ _ _ _›.1.2.2; omega)
    | (have h := ‹STR _ _ _ _ _›.1; omega)
    | (have h := ‹STR _ _ _ _ _›.1
       have w := ‹STR _ _ _ _ _›.2.1 x1 (by omega) (by omega)
       omega)
    | (have h := bc_len ‹BC1 _ _ _ _ _ _ _›
       have h2 := ‹STR _ _ _ _ _›.1
       omega)
    | (have h := (sb_way ‹SB1 _ _ _ _ _ _ _ _ _ _ _ _› (by omega)).1
       have h2 := ‹STR _ _ _ _ _›.1
       omega)
    | (have h := ‹WYM _ _ _ _›.1
       have h2 := ‹STR _ _ _ _ _›.1
       omega)
set_option maxHeartbeats 4000000 in
theorem vc_Mo_stOrder_1_5 (x1 : Int) (x2 : Int) (x3 : Int) (x4 : Int) (pn_0 : Int) (rowMany_0 : Int) (pt_0 : Int → Int) (ph_0 : Int → Int) (pm_0 : Int) (alive_0 : Int → Int) (row_0 : Int → Int) (onlyPiece_0 : Int) (drawnNode_0 : Int → Int) (gx : Int) (k1 : (-2) ≤ x1 ∧ x1 ≤ 26) (k2 : 0 ≤ x2 ∧ x2 ≤ 24) (k3 : 1 ≤ x3 ∧ x3 ≤ 25) (k4 : 0 ≤ x4 ∧ x4 ≤ 0) (d0 : x3 + (-4294967296) ≤ x2 ∧ x2 ≤ x3 + (-1)) (f0 : x2 < x3) (g1 : x3 = pn_0) (g2 : x2 = rowMany_0) (f3 : GOK (pn_0) (pm_0) (pt_0) (ph_0)) (f4 : STB (pn_0) (pm_0) (pt_0) (ph_0) (alive_0)) (f5 : STR (pn_0) (rowMany_0) (pt_0) (ph_0) (row_0)) (f6 : onlyPiece_0 = (-1)) (f7 : (-1) * rowMany_0 + ((-1) * x1 + 0) ≤ (-26)) (hK_0_33 : ∀ j : Int, 0 ≤ j → j < 80 → 0 ≤ pt_0 j ∧ pt_0 j ≤ 24) (hK_0_34 : ∀ j : Int, 0 ≤ j → j < 80 → 0 ≤ ph_0 j ∧ ph_0 j ≤ 24) (hK_0_35 : ∀ j : Int, 0 ≤ j → j < 80 → 0 ≤ alive_0 j ∧ alive_0 j ≤ 1) (hK_0_42 : ∀ j : Int, 0 ≤ j → j < 26 → 0 ≤ drawnNode_0 j ∧ drawnNode_0 j ≤ 1) (hK_0_117 : ∀ j : Int, 0 ≤ j → j < 100 → 0 ≤ row_0 j ∧ row_0 j ≤ 75) (kz_0_31 : 0 ≤ pn_0 ∧ pn_0 ≤ 25) (kz_0_32 : 0 ≤ pm_0 ∧ pm_0 ≤ 80) (kz_0_49 : (-1) ≤ onlyPiece_0 ∧ onlyPiece_0 ≤ 79) (kz_0_125 : 0 ≤ rowMany_0 ∧ rowMany_0 ≤ 100) (ex2 : gx = 0 + (1 * x1 + 0)) (ex3 : (-2) ≤ gx ∧ gx ≤ 26) : ZN (drawnNode_0) (x4) := by
  first
    | (intro j a b; exfalso; omega)
    | (have h := ‹ZN _ _›
       intro j a b
       by_cases q : j = x1
       · rw [(hE_0_42_1 j a).1 q]; omega
       · rw [(hE_0_42_1 j a).2 q]; exact h j a (by omega))
set_option maxHeartbeats 4000000 in
theorem vc_Mo_stOrder_1_6 (x1 : Int) (x2 : Int) (x3 : Int) (x4 : Int) (pn_0 : Int) (rowMany_0 : Int) (pt_0 : Int → Int) (ph_0 : Int → Int) (pm_0 : Int) (alive_0 : Int → Int) (row_0 : Int → Int) (onlyPiece_0 : Int) (drawnNode_0 : Int → Int) (gx : Int) (k1 : (-2) ≤ x1 ∧ x1 ≤ 26) (k2 : 0 ≤ x2 ∧ x2 ≤ 24) (k3 : 1 ≤ x3 ∧ x3 ≤ 25) (k4 : 0 ≤ x4 ∧ x4 ≤ 0) (d0 : x3 + (-4294967296) ≤ x2 ∧ x2 ≤ x3 + (-1)) (f0 : x2 < x3) (g1 : x3 = pn_0) (g2 : x2 = rowMany_0) (f3 : GOK (pn_0) (pm_0) (pt_0) (ph_0)) (f4 : STB (pn_0) (pm_0) (pt_0) (ph_0) (alive_0)) (f5 : STR (pn_0) (rowMany_0) (pt_0) (ph_0) (row_0)) (f6 : onlyPiece_0 = (-1)) (f7 : (-1) * rowMany_0 + ((-1) * x1 + 0) ≤ (-26)) (hK_0_33 : ∀ j : Int, 0 ≤ j → j < 80 → 0 ≤ pt_0 j ∧ pt_0 j ≤ 24) (hK_0_34 : ∀ j : Int, 0 ≤ j → j < 80 → 0 ≤ ph_0 j ∧ ph_0 j ≤ 24) (hK_0_35 : ∀ j : Int, 0 ≤ j → j < 80 → 0 ≤ alive_0 j ∧ alive_0 j ≤ 1) (hK_0_42 : ∀ j : Int, 0 ≤ j → j < 26 → 0 ≤ drawnNode_0 j ∧ drawnNode_0 j ≤ 1) (hK_0_117 : ∀ j : Int, 0 ≤ j → j < 100 → 0 ≤ row_0 j ∧ row_0 j ≤ 75) (kz_0_31 : 0 ≤ pn_0 ∧ pn_0 ≤ 25) (kz_0_32 : 0 ≤ pm_0 ∧ pm_0 ≤ 80) (kz_0_49 : (-1) ≤ onlyPiece_0 ∧ onlyPiece_0 ≤ 79) (kz_0_125 : 0 ≤ rowMany_0 ∧ rowMany_0 ≤ 100) (ex2 : gx = 0 + (1 * x1 + 0)) (ex3 : (-2) ≤ gx ∧ gx ≤ 26) : (rowMany_0 + 1) ≤ pn_0 := by
  first
    | omega
    | (have h := ‹STB _ _ _ _ _›.1.2.2; omega)
    | (have h := ‹STR _ _ _ _ _›.1; omega)
    | (have h := ‹STR _ _ _ _ _›.1
       have w := ‹STR _ _ _ _ _›.2.1 x1 (by omega) (by omega)
       omega)
    | (have h := bc_len ‹BC1 _ _ _ _ _ _ _›
       have h2 := ‹STR _ _ _ _ _›.1
       omega)
    | (have h := (sb_way ‹SB1 _ _ _ _ _ _ _ _ _ _ _ _› (by omega)).1
       have h2 := ‹STR _ _ _ _ _›.1
       omega)
    | (have h := ‹WYM _ _ _ _›.1
       have h2 := ‹STR _ _ _ _ _›.1
       omega)
def o_Mo_stOrder_1 : or_T := (47, 5, [(0, (2, 0, 0, [165])), (1, (0, -2, 26, [])), (2, (0, 0, 24, [])), (3, (0, 1, 25, [])), (4, (0, 0, 0, []))], [(7, [2, 3], [2]), (9, [3, 0], [31]), (9, [2, 0], [125]), (20, [0], [60, 2, 2, 75, 31, 32, 33, 34]), (20, [0], [60, 2, 3, 297, 31, 32, 33, 34, 35]), (20, [0], [60, 2, 3, 298, 31, 125, 33, 34, 117]), (20, [0], [50, 1, 0, 49, 1, 3, 2, 0, 49, 0, -1]), (20, [0, 1], [30, -26, -1, 1, 125, -1, 0, 0])], [], [(0, -2, 26, [])], [(20, [0], [60, 2, 2, 75, 31, 32, 33, 34]), (20, [0], [60, 2, 3, 297, 31, 32, 33, 34, 35]), (20, [0], [60, 2, 3, 298, 31, 125, 33, 34, 117]), (20, [0], [50, 1, 0, 49, 1, 3, 2, 0, 49, 0, -1]), (20, [0, 5], [30, -26, -1, 1, 125, -1, 0, 0]), (20, [0, 4], [60, 0, 1, 299, 42]), (20, [0], [50, 2, 0, 125, 31, 0, 7, 4, 3, 2, 0, 125, 0, 1, 2, 0, 31])], [(5, 1, 0, 0)], [(2, 3, -4294967296, -1)])
theorem oo_Mo_stOrder_1 {kA : Nat → ClassId} : or_ok PRD kA GG o_Mo_stOrder_1 := by
  refine or_mk fun A ta ws vs hD hth hl => ?_
  intro t0 r0 t1 k1 t2 k2 t3 k3 t4 k4 d0 f0 f1 f2 f3 f4 f5 f6 f7
  replace f0 := shm_6 f0
  replace f1 := shm_577 f1
  replace f2 := shm_996 f2
  replace f3 := shm_575 f3
  replace f4 := shm_1749 f4
  replace f5 := shm_1001 f5
  replace f6 := shm_1675 f6
  replace f7 := shm_1750 f7
  have cr_0_33 := fdq_117 hD hth r0
  have cr_0_34 := fdq_118 hD hth r0
  have cr_0_35 := fdq_132 hD hth r0
  have cr_0_42 := fdq_136 hD hth r0
  have cr_0_117 := fdq_181 hD hth r0
  have g1 : v_iv (n_v vs 3) = w_fi ws (n_v vs 0) 31 := congrArg v_iv f1
  have g2 : v_iv (n_v vs 2) = w_fi ws (n_v vs 0) 125 := congrArg v_iv f2
  have hK_0_33 := elq_60 hD hth cr_0_33
  have hK_0_34 := elq_61 hD hth cr_0_34
  have hK_0_35 := elq_72 hD hth cr_0_35
  have hK_0_42 := elq_75 hD hth cr_0_42
  have hK_0_117 := elq_108 hD hth cr_0_117
  have kz_0_31 := fdq_145 hD hth r0
  have kz_0_32 := fdq_140 hD hth r0
  have kz_0_49 := fdq_146 hD hth r0
  have kz_0_125 := fdq_182 hD hth r0
  obtain ⟨x, ex, hx⟩ := iv_ex (ta := ta) (lo := (-2)) (hi := 26) (z := 0 + (1 * v_iv (n_v vs 1) + 0)) (by omega) (by omega) (by omega) (by omega)
  have ex2 : v_iv (Value.int x) = 0 + (1 * v_iv (n_v vs 1) + 0) := ex
  have ex3 : (-2) ≤ v_iv (Value.int x) ∧ v_iv (Value.int x) ≤ 26 := tv_rng hx
  have e_0 : n_v (vs ++ [Value.int x]) 0 = n_v vs 0 := n_v_old (by rw [hl]; decide)
  have e_4 : n_v (vs ++ [Value.int x]) 4 = n_v vs 4 := n_v_old (by rw [hl]; decide)
  have e_5 : n_v (vs ++ [Value.int x]) 5 = Value.int x := n_v_new hl
  have nf0 : fc_1 PRD (20, [0], [60, 2, 2, 75, 31, 32, 33, 34]) ws (vs ++ [Value.int x]) := by
    refine ⟨nf_inA hl rfl, sgq_575 ?_⟩
    · show GOK (w_fi ws (n_v (vs ++ [Value.int x]) 0) 31) (w_fi ws (n_v (vs ++ [Value.int x]) 0) 32) (w_ei ws (w_ar ws (n_v (vs ++ [Value.int x]) 0) 33)) (w_ei ws (w_ar ws (n_v (vs ++ [Value.int x]) 0) 34))
      rw [e_0]
      exact vc_Mo_stOrder_1_0 (v_iv (n_v vs 1)) (v_iv (n_v vs 2)) (v_iv (n_v vs 3)) (v_iv (n_v vs 4)) (w_fi ws (n_v vs 0) 31) (w_fi ws (n_v vs 0) 125) (w_ei ws (w_ar ws (n_v vs 0) 33)) (w_ei ws (w_ar ws (n_v vs 0) 34)) (w_fi ws (n_v vs 0) 32) (w_ei ws (w_ar ws (n_v vs 0) 35)) (w_ei ws (w_ar ws (n_v vs 0) 117)) (w_fi ws (n_v vs 0) 49) (w_ei ws (w_ar ws (n_v vs 0) 42)) (v_iv (Value.int x)) k1 k2 k3 k4 d0 f0 g1 g2 f3 f4 f5 f6 f7 hK_0_33 hK_0_34 hK_0_35 hK_0_42 hK_0_117 kz_0_31 kz_0_32 kz_0_49 kz_0_125 ex2 ex3
  have nf1 : fc_1 PRD (20, [0], [60, 2, 3, 297, 31, 32, 33, 34, 35]) ws (vs ++ [Value.int x]) := by
    refine ⟨nf_inA hl rfl, sgq_1749 ?_⟩
    · show STB (w_fi ws (n_v (vs ++ [Value.int x]) 0) 31) (w_fi ws (n_v (vs ++ [Value.int x]) 0) 32) (w_ei ws (w_ar ws (n_v (vs ++ [Value.int x]) 0) 33)) (w_ei ws (w_ar ws (n_v (vs ++ [Value.int x]) 0) 34)) (w_ei ws (w_ar ws (n_v (vs ++ [Value.int x]) 0) 35))
      rw [e_0]
      exact vc_Mo_stOrder_1_1 (v_iv (n_v vs 1)) (v_iv (n_v vs 2)) (v_iv (n_v vs 3)) (v_iv (n_v vs 4)) (w_fi ws (n_v vs 0) 31) (w_fi ws (n_v vs 0) 125) (w_ei ws (w_ar ws (n_v vs 0) 33)) (w_ei ws (w_ar ws (n_v vs 0) 34)) (w_fi ws (n_v vs 0) 32) (w_ei ws (w_ar ws (n_v vs 0) 35)) (w_ei ws (w_ar ws (n_v vs 0) 117)) (w_fi ws (n_v vs 0) 49) (w_ei ws (w_ar ws (n_v vs 0) 42)) (v_iv (Value.int x)) k1 k2 k3 k4 d0 f0 g1 g2 f3 f4 f5 f6 f7 hK_0_33 hK_0_34 hK_0_35 hK_0_42 hK_0_117 kz_0_31 kz_0_32 kz_0_49 kz_0_125 ex2 ex3
  have nf2 : fc_1 PRD (20, [0], [60, 2, 3, 298, 31, 125, 33, 34, 117]) ws (vs ++ [Value.int x]) := by
    refine ⟨nf_inA hl rfl, sgq_1001 ?_⟩
    · show STR (w_fi ws (n_v (vs ++ [Value.int x]) 0) 31) (w_fi ws (n_v (vs ++ [Value.int x]) 0) 125) (w_ei ws (w_ar ws (n_v (vs ++ [Value.int x]) 0) 33)) (w_ei ws (w_ar ws (n_v (vs ++ [Value.int x]) 0) 34)) (w_ei ws (w_ar ws (n_v (vs ++ [Value.int x]) 0) 117))
      rw [e_0]
      exact vc_Mo_stOrder_1_2 (v_iv (n_v vs 1)) (v_iv (n_v vs 2)) (v_iv (n_v vs 3)) (v_iv (n_v vs 4)) (w_fi ws (n_v vs 0) 31) (w_fi ws (n_v vs 0) 125) (w_ei ws (w_ar ws (n_v vs 0) 33)) (w_ei ws (w_ar ws (n_v vs 0) 34)) (w_fi ws (n_v vs 0) 32) (w_ei ws (w_ar ws (n_v vs 0) 35)) (w_ei ws (w_ar ws (n_v vs 0) 117)) (w_fi ws (n_v vs 0) 49) (w_ei ws (w_ar ws (n_v vs 0) 42)) (v_iv (Value.int x)) k1 k2 k3 k4 d0 f0 g1 g2 f3 f4 f5 f6 f7 hK_0_33 hK_0_34 hK_0_35 hK_0_42 hK_0_117 kz_0_31 kz_0_32 kz_0_49 kz_0_125 ex2 ex3
  have nf3 : fc_1 PRD (20, [0], [50, 1, 0, 49, 1, 3, 2, 0, 49, 0, -1]) ws (vs ++ [Value.int x]) := by
    refine ⟨nf_inA hl rfl, sgq_1675 ?_⟩
    · show w_fi ws (n_v (vs ++ [Value.int x]) 0) 49 = (-1)
      rw [e_0]
      exact vc_Mo_stOrder_1_3 (v_iv (n_v vs 1)) (v_iv (n_v vs 2)) (v_iv (n_v vs 3)) (v_iv (n_v vs 4)) (w_fi ws (n_v vs 0) 31) (w_fi ws (n_v vs 0) 125) (w_ei ws (w_ar ws (n_v vs 0) 33)) (w_ei ws (w_ar ws (n_v vs 0) 34)) (w_fi ws (n_v vs 0) 32) (w_ei ws (w_ar ws (n_v vs 0) 35)) (w_ei ws (w_ar ws (n_v vs 0) 117)) (w_fi ws (n_v vs 0) 49) (w_ei ws (w_ar ws (n_v vs 0) 42)) (v_iv (Value.int x)) k1 k2 k3 k4 d0 f0 g1 g2 f3 f4 f5 f6 f7 hK_0_33 hK_0_34 hK_0_35 hK_0_42 hK_0_117 kz_0_31 kz_0_32 kz_0_49 kz_0_125 ex2 ex3
  have nf4 : fc_1 PRD (20, [0, 5], [30, -26, -1, 1, 125, -1, 0, 0]) ws (vs ++ [Value.int x]) := by
    refine ⟨nf_inA hl rfl, sgq_1750 ?_⟩
    · show (-1) * w_fi ws (n_v (vs ++ [Value.int x]) 0) 125 + ((-1) * v_iv (n_v (vs ++ [Value.int x]) 5) + 0) ≤ (-26)
      simp only [e_0, e_5]
      exact vc_Mo_stOrder_1_4 (v_iv (n_v vs 1)) (v_iv (n_v vs 2)) (v_iv (n_v vs 3)) (v_iv (n_v vs 4)) (w_fi ws (n_v vs 0) 31) (w_fi ws (n_v vs 0) 125) (w_ei ws (w_ar ws (n_v vs 0) 33)) (w_ei ws (w_ar ws (n_v vs 0) 34)) (w_fi ws (n_v vs 0) 32) (w_ei ws (w_ar ws (n_v vs 0) 35)) (w_ei ws (w_ar ws (n_v vs 0) 117)) (w_fi ws (n_v vs 0) 49) (w_ei ws (w_ar ws (n_v vs 0) 42)) (v_iv (Value.int x)) k1 k2 k3 k4 d0 f0 g1 g2 f3 f4 f5 f6 f7 hK_0_33 hK_0_34 hK_0_35 hK_0_42 hK_0_117 kz_0_31 kz_0_32 kz_0_49 kz_0_125 ex2 ex3
  have nf5 : fc_1 PRD (20, [0, 4], [60, 0, 1, 299, 42]) ws (vs ++ [Value.int x]) := by
    refine ⟨nf_inA hl rfl, sgq_1751 ?_⟩
    · show ZN (w_ei ws (w_ar ws (n_v (vs ++ [Value.int x]) 0) 42)) (v_iv (n_v (vs ++ [Value.int x]) 4))
      simp only [e_0, e_4]
      exact vc_Mo_stOrder_1_5 (v_iv (n_v vs 1)) (v_iv (n_v vs 2)) (v_iv (n_v vs 3)) (v_iv (n_v vs 4)) (w_fi ws (n_v vs 0) 31) (w_fi ws (n_v vs 0) 125) (w_ei ws (w_ar ws (n_v vs 0) 33)) (w_ei ws (w_ar ws (n_v vs 0) 34)) (w_fi ws (n_v vs 0) 32) (w_ei ws (w_ar ws (n_v vs 0) 35)) (w_ei ws (w_ar ws (n_v vs 0) 117)) (w_fi ws (n_v vs 0) 49) (w_ei ws (w_ar ws (n_v vs 0) 42)) (v_iv (Value.int x)) k1 k2 k3 k4 d0 f0 g1 g2 f3 f4 f5 f6 f7 hK_0_33 hK_0_34 hK_0_35 hK_0_42 hK_0_117 kz_0_31 kz_0_32 kz_0_49 kz_0_125 ex2 ex3
  have nf6 : fc_1 PRD (20, [0], [50, 2, 0, 125, 31, 0, 7, 4, 3, 2, 0, 125, 0, 1, 2, 0, 31]) ws (vs ++ [Value.int x]) := by
    refine ⟨nf_inA hl rfl, sgq_1752 ?_⟩
    · show (w_fi ws (n_v (vs ++ [Value.int x]) 0) 125 + 1) ≤ w_fi ws (n_v (vs ++ [Value.int x]) 0) 31
      rw [e_0]
      exact vc_Mo_stOrder_1_6 (v_iv (n_v vs 1)) (v_iv (n_v vs 2)) (v_iv (n_v vs 3)) (v_iv (n_v vs 4)) (w_fi ws (n_v vs 0) 31) (w_fi ws (n_v vs 0) 125) (w_ei ws (w_ar ws (n_v vs 0) 33)) (w_ei ws (w_ar ws (n_v vs 0) 34)) (w_fi ws (n_v vs 0) 32) (w_ei ws (w_ar ws (n_v vs 0) 35)) (w_ei ws (w_ar ws (n_v vs 0) 117)) (w_fi ws (n_v vs 0) 49) (w_ei ws (w_ar ws (n_v vs 0) 42)) (v_iv (Value.int x)) k1 k2 k3 k4 d0 f0 g1 g2 f3 f4 f5 f6 f7 hK_0_33 hK_0_34 hK_0_35 hK_0_42 hK_0_117 kz_0_31 kz_0_32 kz_0_49 kz_0_125 ex2 ex3
  obtain ⟨x0, e0, _, _⟩ := tv_int t1 rfl
  have e1 : v_iv (n_v vs 1) = x0.toInt := by rw [e0]; rfl
  have ho : sy_ofs (vs ++ [Value.int x]) (5, 1, 0, 0) := by
    refine ⟨x, x0, by rw [List.getElem?_append_right (by rw [hl]; decide), hl]; rfl, ?_, ?_, ?_⟩
    · rw [List.getElem?_append_left (by rw [hl]; decide)]; exact n_v_some (by rw [hl]; decide) e0
    · show x0.toInt + 0 ≤ x.toInt; omega
    · show x.toInt ≤ x0.toInt + 0; omega
  exact ⟨(fun _ h => (by cases h)), [Value.int x], ag_one hx, List.forall_mem_cons.mpr ⟨⟨show (20 : Nat) < 100 from by decide, nf0⟩, List.forall_mem_cons.mpr ⟨⟨show (20 : Nat) < 100 from by decide, nf1⟩, List.forall_mem_cons.mpr ⟨⟨show (20 : Nat) < 100 from by decide, nf2⟩, List.forall_mem_cons.mpr ⟨⟨show (20 : Nat) < 100 from by decide, nf3⟩, List.forall_mem_cons.mpr ⟨⟨show (20 : Nat) < 100 from by decide, nf4⟩, List.forall_mem_cons.mpr ⟨⟨show (20 : Nat) < 100 from by decide, nf5⟩, List.forall_mem_cons.mpr ⟨⟨show (20 : Nat) < 100 from by decide, nf6⟩, (fun _ h => (by cases h))⟩⟩⟩⟩⟩⟩⟩, List.forall_mem_cons.mpr ⟨ho, (fun _ h => (by cases h))⟩⟩
set_option maxHeartbeats 4000000 in
theorem vc_Mo_stOrder_2_0 (x1 : Int) (x2 : Int) (x3 : Int) (x4 : Int) (pn_0 : Int) (pt_0 : Int → Int) (ph_0 : Int → Int) (pm_0 : Int) (alive_0 : Int → Int) (row_0 : Int → Int) (rowMany_0 : Int) (onlyPiece_0 : Int) (drawnNode_0 : Int → Int) (gx : Int) (k1 : 0 ≤ x1 ∧ x1 ≤ 25) (k2 : (-2) ≤ x2 ∧ x2 ≤ 26) (k3 : 0 ≤ x3 ∧ x3 ≤ 25) (k4 : 0 ≤ x4 ∧ x4 ≤ 0) (d0 : x3 + 0 ≤ x1 ∧ x1 ≤ x3 + 4294967296) (f0 : x3 ≤ x1) (g1 : x3 = pn_0) (f2 : GOK (pn_0) (pm_0) (pt_0) (ph_0)) (f3 : STB (pn_0) (pm_0) (pt_0) (ph_0) (alive_0)) (f4 : STR (pn_0) (rowMany_0) (pt_0) (ph_0) (row_0)) (f5 : onlyPiece_0 = (-1)) (f6 : (-1) * rowMany_0 + ((-1) * x2 + 0) ≤ (-26)) (f7 : ZN (drawnNode_0) (x1)) (f8 : (rowMany_0 + 1) ≤ pn_0) (hK_0_33 : ∀ j : Int, 0 ≤ j → j < 80 → 0 ≤ pt_0 j ∧ pt_0 j ≤ 24) (hK_0_34 : ∀ j : Int, 0 ≤ j → j < 80 → 0 ≤ ph_0 j ∧ ph_0 j ≤ 24) (hK_0_35 : ∀ j : Int, 0 ≤ j → j < 80 → 0 ≤ alive_0 j ∧ alive_0 j ≤ 1) (hK_0_42 : ∀ j : Int, 0 ≤ j → j < 26 → 0 ≤ drawnNode_0 j ∧ drawnNode_0 j ≤ 1) (hK_0_117 : ∀ j : Int, 0 ≤ j → j < 100 → 0 ≤ row_0 j ∧ row_0 j ≤ 75) (kz_0_31 : 0 ≤ pn_0 ∧ pn_0 ≤ 25) (kz_0_32 : 0 ≤ pm_0 ∧ pm_0 ≤ 80) (kz_0_49 : (-1) ≤ onlyPiece_0 ∧ onlyPiece_0 ≤ 79) (kz_0_125 : 0 ≤ rowMany_0 ∧ rowMany_0 ≤ 100) (ex2 : gx = 0 + (1 * x2 + 0)) (ex3 : (-2) ≤ gx ∧ gx ≤ 26) : GOK (pn_0) (pm_0) (pt_0) (ph_0) := by
  first
    | assumption
    | exact ‹STB _ _ _ _ _›.1.1
set_option maxHeartbeats 4000000 in
theorem vc_Mo_stOrder_2_1 (x1 : Int) (x2 : Int) (x3 : Int) (x4 : Int) (pn_0 : Int) (pt_0 : Int → Int) (ph_0 : Int → Int) (pm_0 : Int) (alive_0 : Int → Int) (row_0 : Int → Int) (rowMany_0 : Int) (onlyPiece_0 : Int) (drawnNode_0 : Int → Int) (gx : Int) (k1 : 0 ≤ x1 ∧ x1 ≤ 25) (k2 : (-2) ≤ x2 ∧ x2 ≤ 26) (k3 : 0 ≤ x3 ∧ x3 ≤ 25) (k4 : 0 ≤ x4 ∧ x4 ≤ 0) (d0 : x3 + 0 ≤ x1 ∧ x1 ≤ x3 + 4294967296) (f0 : x3 ≤ x1) (g1 : x3 = pn_0) (f2 : GOK (pn_0) (pm_0) (pt_0) (ph_0)) (f3 : STB (pn_0) (pm_0) (pt_0) (ph_0) (alive_0)) (f4 : STR (pn_0) (rowMany_0) (pt_0) (ph_0) (row_0)) (f5 : onlyPiece_0 = (-1)) (f6 : (-1) * rowMany_0 + ((-1) * x2 + 0) ≤ (-26)) (f7 : ZN (drawnNode_0) (x1)) (f8 : (rowMany_0 + 1) ≤ pn_0) (hK_0_33 : ∀ j : Int, 0 ≤ j → j < 80 → 0 ≤ pt_0 j ∧ pt_0 j ≤ 24) (hK_0_34 : ∀ j : Int, 0 ≤ j → j < 80 → 0 ≤ ph_0 j ∧ ph_0 j ≤ 24) (hK_0_35 : ∀ j : Int, 0 ≤ j → j < 80 → 0 ≤ alive_0 j ∧ alive_0 j ≤ 1) (hK_0_42 : ∀ j : Int, 0 ≤ j → j < 26 → 0 ≤ drawnNode_0 j ∧ drawnNode_0 j ≤ 1) (hK_0_117 : ∀ j : Int, 0 ≤ j → j < 100 → 0 ≤ row_0 j ∧ row_0 j ≤ 75) (kz_0_31 : 0 ≤ pn_0 ∧ pn_0 ≤ 25) (kz_0_32 : 0 ≤ pm_0 ∧ pm_0 ≤ 80) (kz_0_49 : (-1) ≤ onlyPiece_0 ∧ onlyPiece_0 ≤ 79) (kz_0_125 : 0 ≤ rowMany_0 ∧ rowMany_0 ≤ 100) (ex2 : gx = 0 + (1 * x2 + 0)) (ex3 : (-2) ≤ gx ∧ gx ≤ 26) : STB (pn_0) (pm_0) (pt_0) (ph_0) (alive_0) := by
  first | assumption
set_option maxHeartbeats 4000000 in
theorem vc_Mo_stOrder_2_2 (x1 : Int) (x2 : Int) (x3 : Int) (x4 : Int) (pn_0 : Int) (pt_0 : Int → Int) (ph_0 : Int → Int) (pm_0 : Int) (alive_0 : Int → Int) (row_0 : Int → Int) (rowMany_0 : Int) (onlyPiece_0 : Int) (drawnNode_0 : Int → Int) (gx : Int) (k1 : 0 ≤ x1 ∧ x1 ≤ 25) (k2 : (-2) ≤ x2 ∧ x2 ≤ 26) (k3 : 0 ≤ x3 ∧ x3 ≤ 25) (k4 : 0 ≤ x4 ∧ x4 ≤ 0) (d0 : x3 + 0 ≤ x1 ∧ x1 ≤ x3 + 4294967296) (f0 : x3 ≤ x1) (g1 : x3 = pn_0) (f2 : GOK (pn_0) (pm_0) (pt_0) (ph_0)) (f3 : STB (pn_0) (pm_0) (pt_0) (ph_0) (alive_0)) (f4 : STR (pn_0) (rowMany_0) (pt_0) (ph_0) (row_0)) (f5 : onlyPiece_0 = (-1)) (f6 : (-1) * rowMany_0 + ((-1) * x2 + 0) ≤ (-26)) (f7 : ZN (drawnNode_0) (x1)) (f8 : (rowMany_0 + 1) ≤ pn_0) (hK_0_33 : ∀ j : Int, 0 ≤ j → j < 80 → 0 ≤ pt_0 j ∧ pt_0 j ≤ 24) (hK_0_34 : ∀ j : Int, 0 ≤ j → j < 80 → 0 ≤ ph_0 j ∧ ph_0 j ≤ 24) (hK_0_35 : ∀ j : Int, 0 ≤ j → j < 80 → 0 ≤ alive_0 j ∧ alive_0 j ≤ 1) (hK_0_42 : ∀ j : Int, 0 ≤ j → j < 26 → 0 ≤ drawnNode_0 j ∧ drawnNode_0 j ≤ 1) (hK_0_117 : ∀ j : Int, 0 ≤ j → j < 100 → 0 ≤ row_0 j ∧ row_0 j ≤ 75) (kz_0_31 : 0 ≤ pn_0 ∧ pn_0 ≤ 25) (kz_0_32 : 0 ≤ pm_0 ∧ pm_0 ≤ 80) (kz_0_49 : (-1) ≤ onlyPiece_0 ∧ onlyPiece_0 ≤ 79) (kz_0_125 : 0 ≤ rowMany_0 ∧ rowMany_0 ≤ 100) (ex2 : gx = 0 + (1 * x2 + 0)) (ex3 : (-2) ≤ gx ∧ gx ≤ 26) : STR (pn_0) (rowMany_0) (pt_0) (ph_0) (row_0) := by
  first | assumption
set_option maxHeartbeats 4000000 in
theorem vc_Mo_stOrder_2_3 (x1 : Int) (x2 : Int) (x3 : Int) (x4 : Int) (pn_0 : Int) (pt_0 : Int → Int) (ph_0 : Int → Int) (pm_0 : Int) (alive_0 : Int → Int) (row_0 : Int → Int) (rowMany_0 : Int) (onlyPiece_0 : Int) (drawnNode_0 : Int → Int) (gx : Int) (k1 : 0 ≤ x1 ∧ x1 ≤ 25) (k2 : (-2) ≤ x2 ∧ x2 ≤ 26) (k3 : 0 ≤ x3 ∧ x3 ≤ 25) (k4 : 0 ≤ x4 ∧ x4 ≤ 0) (d0 : x3 + 0 ≤ x1 ∧ x1 ≤ x3 + 4294967296) (f0 : x3 ≤ x1) (g1 : x3 = pn_0) (f2 : GOK (pn_0) (pm_0) (pt_0) (ph_0)) (f3 : STB (pn_0) (pm_0) (pt_0) (ph_0) (alive_0)) (f4 : STR (pn_0) (rowMany_0) (pt_0) (ph_0) (row_0)) (f5 : onlyPiece_0 = (-1)) (f6 : (-1) * rowMany_0 + ((-1) * x2 + 0) ≤ (-26)) (f7 : ZN (drawnNode_0) (x1)) (f8 : (rowMany_0 + 1) ≤ pn_0) (hK_0_33 : ∀ j : Int, 0 ≤ j → j < 80 → 0 ≤ pt_0 j ∧ pt_0 j ≤ 24) (hK_0_34 : ∀ j : Int, 0 ≤ j → j < 80 → 0 ≤ ph_0 j ∧ ph_0 j ≤ 24) (hK_0_35 : ∀ j : Int, 0 ≤ j → j < 80 → 0 ≤ alive_0 j ∧ alive_0 j ≤ 1) (hK_0_42 : ∀ j : Int, 0 ≤ j → j < 26 → 0 ≤ drawnNode_0 j ∧ drawnNode_0 j ≤ 1) (hK_0_117 : ∀ j : Int, 0 ≤ j → j < 100 → 0 ≤ row_0 j ∧ row_0 j ≤ 75) (kz_0_31 : 0 ≤ pn_0 ∧ pn_0 ≤ 25) (kz_0_32 : 0 ≤ pm_0 ∧ pm_0 ≤ 80) (kz_0_49 : (-1) ≤ onlyPiece_0 ∧ onlyPiece_0 ≤ 79) (kz_0_125 : 0 ≤ rowMany_0 ∧ rowMany_0 ≤ 100) (ex2 : gx = 0 + (1 * x2 + 0)) (ex3 : (-2) ≤ gx ∧ gx ≤ 26) : onlyPiece_0 = (-1) := by
  first
    | omega
    | (have h := ‹STB _ _ _ _ _›.1.2.2; omega)
    | (have h := ‹STR _ _ _ _ _›.1; omega)
    | (have h := ‹STR _ _ _ _ _›.1
       have w := ‹STR _ _ _ _ _›.2.1 x1 (by omega) (by omega)
       omega)
    | (have h := bc_len ‹BC1 _ _ _ _ _ _ _›
       have h2 := ‹STR _ _ _ _ _›.1
       omega)
    | (have h := (sb_way ‹SB1 _ _ _ _ _ _ _ _ _ _ _ _› (by omega)).1
       have h2 := ‹STR _ _ _ _ _›.1
       omega)
    | (have h := ‹WYM _ _ _ _›.1
       have h2 := ‹STR _ _ _ _ _›.1
       omega)
set_option maxHeartbeats 4000000 in
theorem vc_Mo_stOrder_2_4 (x1 : Int) (x2 : Int) (x3 : Int) (x4 : Int) (pn_0 : Int) (pt_0 : Int → Int) (ph_0 : Int → Int) (pm_0 : Int) (alive_0 : Int → Int) (row_0 : Int → Int) (rowMany_0 : Int) (onlyPiece_0 : Int) (drawnNode_0 : Int → Int) (gx : Int) (k1 : 0 ≤ x1 ∧ x1 ≤ 25) (k2 : (-2) ≤ x2 ∧ x2 ≤ 26) (k3 : 0 ≤ x3 ∧ x3 ≤ 25) (k4 : 0 ≤ x4 ∧ x4 ≤ 0) (d0 : x3 + 0 ≤ x1 ∧ x1 ≤ x3 + 4294967296) (f0 : x3 ≤ x1) (g1 : x3 = pn_0) (f2 : GOK (pn_0) (pm_0) (pt_0) (ph_0)) (f3 : STB (pn_0) (pm_0) (pt_0) (ph_0) (alive_0)) (f4 : STR (pn_0) (rowMany_0) (pt_0) (ph_0) (row_0)) (f5 : onlyPiece_0 = (-1)) (f6 : (-1) * rowMany_0 + ((-1) * x2 + 0) ≤ (-26)) (f7 : ZN (drawnNode_0) (x1)) (f8 : (rowMany_0 + 1) ≤ pn_0) (hK_0_33 : ∀ j : Int, 0 ≤ j → j < 80 → 0 ≤ pt_0 j ∧ pt_0 j ≤ 24) (hK_0_34 : ∀ j : Int, 0 ≤ j → j < 80 → 0 ≤ ph_0 j ∧ ph_0 j ≤ 24) (hK_0_35 : ∀ j : Int, 0 ≤ j → j < 80 → 0 ≤ alive_0 j ∧ alive_0 j ≤ 1) (hK_0_42 : ∀ j : Int, 0 ≤ j → j < 26 → 0 ≤ drawnNode_0 j ∧ drawnNode_0 j ≤ 1) (hK_0_117 : ∀ j : Int, 0 ≤ j → j < 100 → 0 ≤ row_0 j ∧ row_0 j ≤ 75) (kz_0_31 : 0 ≤ pn_0 ∧ pn_0 ≤ 25) (kz_0_32 : 0 ≤ pm_0 ∧ pm_0 ≤ 80) (kz_0_49 : (-1) ≤ onlyPiece_0 ∧ onlyPiece_0 ≤ 79) (kz_0_125 : 0 ≤ rowMany_0 ∧ rowMany_0 ≤ 100) (ex2 : gx = 0 + (1 * x2 + 0)) (ex3 : (-2) ≤ gx ∧ gx ≤ 26) : (-1) * rowMany_0 + ((-1) * gx + 0) ≤ (-26) := by
  first
    | omega
    | (have h := ‹STB _ _ _ _ _›.1.2.2; omega)
    | (have h := ‹STR _ _ _ _ _›.1; omega)
    | (have h := ‹STR _ _ _ _ _›.1
       have w := ‹STR _ _ _ _ _›.2.1 x1 (by omega) (by omega)
       omega)
    | (have h := bc_len ‹BC1 _ _ _ _ _ _ _›
       have h2 := ‹STR _ _ _ _ _›.1
       omega)
    | (have h := (sb_way ‹SB1 _ _ _ _ _ _ _ _ _ _ _ _› (by omega)).1
       have h2 := ‹STR _ _ _ _ _›.1
       omega)
    | (have h := ‹WYM _ _ _ _›.1
       have h2 := ‹STR _ _ _ _ _›.1
       omega)
set_option maxHeartbeats 4000000 in
theorem vc_Mo_stOrder_2_5 (x1 : Int) (x2 : Int) (x3 : Int) (x4 : Int) (pn_0 : Int) (pt_0 : Int → Int) (ph_0 : Int → Int) (pm_0 : Int) (alive_0 : Int → Int) (row_0 : Int → Int) (rowMany_0 : Int) (onlyPiece_0 : Int) (drawnNode_0 : Int → Int) (gx : Int) (k1 : 0 ≤ x1 ∧ x1 ≤ 25) (k2 : (-2) ≤ x2 ∧ x2 ≤ 26) (k3 : 0 ≤ x3 ∧ x3 ≤ 25) (k4 : 0 ≤ x4 ∧ x4 ≤ 0) (d0 : x3 + 0 ≤ x1 ∧ x1 ≤ x3 + 4294967296) (f0 : x3 ≤ x1) (g1 : x3 = pn_0) (f2 : GOK (pn_0) (pm_0) (pt_0) (ph_0)) (f3 : STB (pn_0) (pm_0) (pt_0) (ph_0) (alive_0)) (f4 : STR (pn_0) (rowMany_0) (pt_0) (ph_0) (row_0)) (f5 : onlyPiece_0 = (-1)) (f6 : (-1) * rowMany_0 + ((-1) * x2 + 0) ≤ (-26)) (f7 : ZN (drawnNode_0) (x1)) (f8 : (rowMany_0 + 1) ≤ pn_0) (hK_0_33 : ∀ j : Int, 0 ≤ j → j < 80 → 0 ≤ pt_0 j ∧ pt_0 j ≤ 24) (hK_0_34 : ∀ j : Int, 0 ≤ j → j < 80 → 0 ≤ ph_0 j ∧ ph_0 j ≤ 24) (hK_0_35 : ∀ j : Int, 0 ≤ j → j < 80 → 0 ≤ alive_0 j ∧ alive_0 j ≤ 1) (hK_0_42 : ∀ j : Int, 0 ≤ j → j < 26 → 0 ≤ drawnNode_0 j ∧ drawnNode_0 j ≤ 1) (hK_0_117 : ∀ j : Int, 0 ≤ j → j < 100 → 0 ≤ row_0 j ∧ row_0 j ≤ 75) (kz_0_31 : 0 ≤ pn_0 ∧ pn_0 ≤ 25) (kz_0_32 : 0 ≤ pm_0 ∧ pm_0 ≤ 80) (kz_0_49 : (-1) ≤ onlyPiece_0 ∧ onlyPiece_0 ≤ 79) (kz_0_125 : 0 ≤ rowMany_0 ∧ rowMany_0 ≤ 100) (ex2 : gx = 0 + (1 * x2 + 0)) (ex3 : (-2) ≤ gx ∧ gx ≤ 26) : DNK (pn_0) (drawnNode_0) (row_0) (x4) := by
  first
    | exact dnk_start ‹ZN _ _› (by omega) (by omega)
    | exact dnk_step ‹DNK _ _ _ _› (by omega) (by omega) (by assumption) (by omega) (by omega)
set_option maxHeartbeats 4000000 in
theorem vc_Mo_stOrder_2_6 (x1 : Int) (x2 : Int) (x3 : Int) (x4 : Int) (pn_0 : Int) (pt_0 : Int → Int) (ph_0 : Int → Int) (pm_0 : Int) (alive_0 : Int → Int) (row_0 : Int → Int) (rowMany_0 : Int) (onlyPiece_0 : Int) (drawnNode_0 : Int → Int) (gx : Int) (k1 : 0 ≤ x1 ∧ x1 ≤ 25) (k2 : (-2) ≤ x2 ∧ x2 ≤ 26) (k3 : 0 ≤ x3 ∧ x3 ≤ 25) (k4 : 0 ≤ x4 ∧ x4 ≤ 0) (d0 : x3 + 0 ≤ x1 ∧ x1 ≤ x3 + 4294967296) (f0 : x3 ≤ x1) (g1 : x3 = pn_0) (f2 : GOK (pn_0) (pm_0) (pt_0) (ph_0)) (f3 : STB (pn_0) (pm_0) (pt_0) (ph_0) (alive_0)) (f4 : STR (pn_0) (rowMany_0) (pt_0) (ph_0) (row_0)) (f5 : onlyPiece_0 = (-1)) (f6 : (-1) * rowMany_0 + ((-1) * x2 + 0) ≤ (-26)) (f7 : ZN (drawnNode_0) (x1)) (f8 : (rowMany_0 + 1) ≤ pn_0) (hK_0_33 : ∀ j : Int, 0 ≤ j → j < 80 → 0 ≤ pt_0 j ∧ pt_0 j ≤ 24) (hK_0_34 : ∀ j : Int, 0 ≤ j → j < 80 → 0 ≤ ph_0 j ∧ ph_0 j ≤ 24) (hK_0_35 : ∀ j : Int, 0 ≤ j → j < 80 → 0 ≤ alive_0 j ∧ alive_0 j ≤ 1) (hK_0_42 : ∀ j : Int, 0 ≤ j → j < 26 → 0 ≤ drawnNode_0 j ∧ drawnNode_0 j ≤ 1) (hK_0_117 : ∀ j : Int, 0 ≤ j → j < 100 → 0 ≤ row_0 j ∧ row_0 j ≤ 75) (kz_0_31 : 0 ≤ pn_0 ∧ pn_0 ≤ 25) (kz_0_32 : 0 ≤ pm_0 ∧ pm_0 ≤ 80) (kz_0_49 : (-1) ≤ onlyPiece_0 ∧ onlyPiece_0 ≤ 79) (kz_0_125 : 0 ≤ rowMany_0 ∧ rowMany_0 ≤ 100) (ex2 : gx = 0 + (1 * x2 + 0)) (ex3 : (-2) ≤ gx ∧ gx ≤ 26) : 1 * x4 + ((-1) * rowMany_0 + 0) ≤ 0 := by
  first
    | omega
    | (have h := ‹STB _ _ _ _ _›.1.2.2; omega)
    | (have h := ‹STR _ _ _ _ _›.1; omega)
    | (have h := ‹STR _ _ _ _ _›.1
       have w := ‹STR _ _ _ _ _›.2.1 x1 (by omega) (by omega)
       omega)
    | (have h := bc_len ‹BC1 _ _ _ _ _ _ _›
       have h2 := ‹STR _ _ _ _ _›.1
       omega)
    | (have h := (sb_way ‹SB1 _ _ _ _ _ _ _ _ _ _ _ _› (by omega)).1
       have h2 := ‹STR _ _ _ _ _›.1
       omega)
    | (have h := ‹WYM _ _ _ _›.1
       have h2 := ‹STR _ _ _ _ _›.1
       omega)
set_option maxHeartbeats 4000000 in
theorem vc_Mo_stOrder_2_7 (x1 : Int) (x2 : Int) (x3 : Int) (x4 : Int) (pn_0 : Int) (pt_0 : Int → Int) (ph_0 : Int → Int) (pm_0 : Int) (alive_0 : Int → Int) (row_0 : Int → Int) (rowMany_0 : Int) (onlyPiece_0 : Int) (drawnNode_0 : Int → Int) (gx : Int) (k1 : 0 ≤ x1 ∧ x1 ≤ 25) (k2 : (-2) ≤ x2 ∧ x2 ≤ 26) (k3 : 0 ≤ x3 ∧ x3 ≤ 25) (k4 : 0 ≤ x4 ∧ x4 ≤ 0) (d0 : x3 + 0 ≤ x1 ∧ x1 ≤ x3 + 4294967296) (f0 : x3 ≤ x1) (g1 : x3 = pn_0) (f2 : GOK (pn_0) (pm_0) (pt_0) (ph_0)) (f3 : STB (pn_0) (pm_0) (pt_0) (ph_0) (alive_0)) (f4 : STR (pn_0) (rowMany_0) (pt_0) (ph_0) (row_0)) (f5 : onlyPiece_0 = (-1)) (f6 : (-1) * rowMany_0 + ((-1) * x2 + 0) ≤ (-26)) (f7 : ZN (drawnNode_0) (x1)) (f8 : (rowMany_0 + 1) ≤ pn_0) (hK_0_33 : ∀ j : Int, 0 ≤ j → j < 80 → 0 ≤ pt_0 j ∧ pt_0 j ≤ 24) (hK_0_34 : ∀ j : Int, 0 ≤ j → j < 80 → 0 ≤ ph_0 j ∧ ph_0 j ≤ 24) (hK_0_35 : ∀ j : Int, 0 ≤ j → j < 80 → 0 ≤ alive_0 j ∧ alive_0 j ≤ 1) (hK_0_42 : ∀ j : Int, 0 ≤ j → j < 26 → 0 ≤ drawnNode_0 j ∧ drawnNode_0 j ≤ 1) (hK_0_117 : ∀ j : Int, 0 ≤ j → j < 100 → 0 ≤ row_0 j ∧ row_0 j ≤ 75) (kz_0_31 : 0 ≤ pn_0 ∧ pn_0 ≤ 25) (kz_0_32 : 0 ≤ pm_0 ∧ pm_0 ≤ 80) (kz_0_49 : (-1) ≤ onlyPiece_0 ∧ onlyPiece_0 ≤ 79) (kz_0_125 : 0 ≤ rowMany_0 ∧ rowMany_0 ≤ 100) (ex2 : gx = 0 + (1 * x2 + 0)) (ex3 : (-2) ≤ gx ∧ gx ≤ 26) : (rowMany_0 + 1) ≤ pn_0 := by
  first
    | omega
    | (have h := ‹STB _ _ _ _ _›.1.2.2; omega)
    | (have h := ‹STR _ _ _ _ _›.1; omega)
    | (have h := ‹STR _ _ _ _ _›.1
       have w := ‹STR _ _ _ _ _›.2.1 x1 (by omega) (by omega)
       omega)
    | (have h := bc_len ‹BC1 _ _ _ _ _ _ _›
       have h2 := ‹STR _ _ _ _ _›.1
       omega)
    | (have h := (sb_way ‹SB1 _ _ _ _ _ _ _ _ _ _ _ _› (by omega)).1
       have h2 := ‹STR _ _ _ _ _›.1
       omega)
    | (have h := ‹WYM _ _ _ _›.1
       have h2 := ‹STR _ _ _ _ _›.1
       omega)
def o_Mo_stOrder_2 : or_T := (70, 5, [(0, (2, 0, 0, [165])), (1, (0, 0, 25, [])), (2, (0, -2, 26, [])), (3, (0, 0, 25, [])), (4, (0, 0, 0, []))], [(7, [1, 3], [3]), (9, [3, 0], [31]), (20, [0], [60, 2, 2, 75, 31, 32, 33, 34]), (20, [0], [60, 2, 3, 297, 31, 32, 33, 34, 35]), (20, [0], [60, 2, 3, 298, 31, 125, 33, 34, 117]), (20, [0], [50, 1, 0, 49, 1, 3, 2, 0, 49, 0, -1]), (20, [0, 2], [30, -26, -1, 1, 125, -1, 0, 0]), (20, [0, 1], [60, 0, 1, 299, 42]), (20, [0], [50, 2, 0, 125, 31, 0, 7, 4, 3, 2, 0, 125, 0, 1, 2, 0, 31])], [], [(0, -2, 26, [])], [(20, [0], [60, 2, 2, 75, 31, 32, 33, 34]), (20, [0], [60, 2, 3, 297, 31, 32, 33, 34, 35]), (20, [0], [60, 2, 3, 298, 31, 125, 33, 34, 117]), (20, [0], [50, 1, 0, 49, 1, 3, 2, 0, 49, 0, -1]), (20, [0, 5], [30, -26, -1, 1, 125, -1, 0, 0]), (20, [0, 4], [60, 1, 2, 300, 31, 42, 117]), (20, [4, 0], [30, 0, 1, 0, 0, -1, 1, 125]), (20, [0], [50, 2, 0, 125, 31, 0, 7, 4, 3, 2, 0, 125, 0, 1, 2, 0, 31])], [(5, 2, 0, 0)], [(1, 3, 0, 4294967296)])
theorem oo_Mo_stOrder_2 {kA : Nat → ClassId} : or_ok PRD kA GG o_Mo_stOrder_2 := by
  refine or_mk fun A ta ws vs hD hth hl => ?_
  intro t0 r0 t1 k1 t2 k2 t3 k3 t4 k4 d0 f0 f1 f2 f3 f4 f5 f6 f7 f8
  replace f0 := shm_2 f0
  replace f1 := shm_577 f1
  replace f2 := shm_575 f2
  replace f3 := shm_1749 f3
  replace f4 := shm_1001 f4
  replace f5 := shm_1675 f5
  replace f6 := shm_1750 f6
  replace f7 := shm_1751 f7
  replace f8 := shm_1752 f8
  have cr_0_33 := fdq_117 hD hth r0
  have cr_0_34 := fdq_118 hD hth r0
  have cr_0_35 := fdq_132 hD hth r0
  have cr_0_42 := fdq_136 hD hth r0
  have cr_0_117 := fdq_181 hD hth r0
  have g1 : v_iv (n_v vs 3) = w_fi ws (n_v vs 0) 31 := congrArg v_iv f1
  have hK_0_33 := elq_60 hD hth cr_0_33
  have hK_0_34 := elq_61 hD hth cr_0_34
  have hK_0_35 := elq_72 hD hth cr_0_35
  have hK_0_42 := elq_75 hD hth cr_0_42
  have hK_0_117 := elq_108 hD hth cr_0_117
  have kz_0_31 := fdq_145 hD hth r0
  have kz_0_32 := fdq_140 hD hth r0
  have kz_0_49 := fdq_146 hD hth r0
  have kz_0_125 := fdq_182 hD hth r0
  obtain ⟨x, ex, hx⟩ := iv_ex (ta := ta) (lo := (-2)) (hi := 26) (z := 0 + (1 * v_iv (n_v vs 2) + 0)) (by omega) (by omega) (by omega) (by omega)
  have ex2 : v_iv (Value.int x) = 0 + (1 * v_iv (n_v vs 2) + 0) := ex
  have ex3 : (-2) ≤ v_iv (Value.int x) ∧ v_iv (Value.int x) ≤ 26 := tv_rng hx
  have e_0 : n_v (vs ++ [Value.int x]) 0 = n_v vs 0 := n_v_old (by rw [hl]; decide)
  have e_4 : n_v (vs ++ [Value.int x]) 4 = n_v vs 4 := n_v_old (by rw [hl]; decide)
  have e_5 : n_v (vs ++ [Value.int x]) 5 = Value.int x := n_v_new hl
  have nf0 : fc_1 PRD (20, [0], [60, 2, 2, 75, 31, 32, 33, 34]) ws (vs ++ [Value.int x]) := by
    refine ⟨nf_inA hl rfl, sgq_575 ?_⟩
    · show GOK (w_fi ws (n_v (vs ++ [Value.int x]) 0) 31) (w_fi ws (n_v (vs ++ [Value.int x]) 0) 32) (w_ei ws (w_ar ws (n_v (vs ++ [Value.int x]) 0) 33)) (w_ei ws (w_ar ws (n_v (vs ++ [Value.int x]) 0) 34))
      rw [e_0]
      exact vc_Mo_stOrder_2_0 (v_iv (n_v vs 1)) (v_iv (n_v vs 2)) (v_iv (n_v vs 3)) (v_iv (n_v vs 4)) (w_fi ws (n_v vs 0) 31) (w_ei ws (w_ar ws (n_v vs 0) 33)) (w_ei ws (w_ar ws (n_v vs 0) 34)) (w_fi ws (n_v vs 0) 32) (w_ei ws (w_ar ws (n_v vs 0) 35)) (w_ei ws (w_ar ws (n_v vs 0) 117)) (w_fi ws (n_v vs 0) 125) (w_fi ws (n_v vs 0) 49) (w_ei ws (w_ar ws (n_v vs 0) 42)) (v_iv (Value.int x)) k1 k2 k3 k4 d0 f0 g1 f2 f3 f4 f5 f6 f7 f8 hK_0_33 hK_0_34 hK_0_35 hK_0_42 hK_0_117 kz_0_31 kz_0_32 kz_0_49 kz_0_125 ex2 ex3
  have nf1 : fc_1 PRD (20, [0], [60, 2, 3, 297, 31, 32, 33, 34, 35]) ws (vs ++ [Value.int x]) := by
    refine ⟨nf_inA hl rfl, sgq_1749 ?_⟩
    · show STB (w_fi ws (n_v (vs ++ [Value.int x]) 0) 31) (w_fi ws (n_v (vs ++ [Value.int x]) 0) 32) (w_ei ws (w_ar ws (n_v (vs ++ [Value.int x]) 0) 33)) (w_ei ws (w_ar ws (n_v (vs ++ [Value.int x]) 0) 34)) (w_ei ws (w_ar ws (n_v (vs ++ [Value.int x]) 0) 35))
      rw [e_0]
      exact vc_Mo_stOrder_2_1 (v_iv (n_v vs 1)) (v_iv (n_v vs 2)) (v_iv (n_v vs 3)) (v_iv (n_v vs 4)) (w_fi ws (n_v vs 0) 31) (w_ei ws (w_ar ws (n_v vs 0) 33)) (w_ei ws (w_ar ws (n_v vs 0) 34)) (w_fi ws (n_v vs 0) 32) (w_ei ws (w_ar ws (n_v vs 0) 35)) (w_ei ws (w_ar ws (n_v vs 0) 117)) (w_fi ws (n_v vs 0) 125) (w_fi ws (n_v vs 0) 49) (w_ei ws (w_ar ws (n_v vs 0) 42)) (v_iv (Value.int x)) k1 k2 k3 k4 d0 f0 g1 f2 f3 f4 f5 f6 f7 f8 hK_0_33 hK_0_34 hK_0_35 hK_0_42 hK_0_117 kz_0_31 kz_0_32 kz_0_49 kz_0_125 ex2 ex3
  have nf2 : fc_1 PRD (20, [0], [60, 2, 3, 298, 31, 125, 33, 34, 117]) ws (vs ++ [Value.int x]) := by
    refine ⟨nf_inA hl rfl, sgq_1001 ?_⟩
    · show STR (w_fi ws (n_v (vs ++ [Value.int x]) 0) 31) (w_fi ws (n_v (vs ++ [Value.int x]) 0) 125) (w_ei ws (w_ar ws (n_v (vs ++ [Value.int x]) 0) 33)) (w_ei ws (w_ar ws (n_v (vs ++ [Value.int x]) 0) 34)) (w_ei ws (w_ar ws (n_v (vs ++ [Value.int x]) 0) 117))
      rw [e_0]
      exact vc_Mo_stOrder_2_2 (v_iv (n_v vs 1)) (v_iv (n_v vs 2)) (v_iv (n_v vs 3)) (v_iv (n_v vs 4)) (w_fi ws (n_v vs 0) 31) (w_ei ws (w_ar ws (n_v vs 0) 33)) (w_ei ws (w_ar ws (n_v vs 0) 34)) (w_fi ws (n_v vs 0) 32) (w_ei ws (w_ar ws (n_v vs 0) 35)) (w_ei ws (w_ar ws (n_v vs 0) 117)) (w_fi ws (n_v vs 0) 125) (w_fi ws (n_v vs 0) 49) (w_ei ws (w_ar ws (n_v vs 0) 42)) (v_iv (Value.int x)) k1 k2 k3 k4 d0 f0 g1 f2 f3 f4 f5 f6 f7 f8 hK_0_33 hK_0_34 hK_0_35 hK_0_42 hK_0_117 kz_0_31 kz_0_32 kz_0_49 kz_0_125 ex2 ex3
  have nf3 : fc_1 PRD (20, [0], [50, 1, 0, 49, 1, 3, 2, 0, 49, 0, -1]) ws (vs ++ [Value.int x]) := by
    refine ⟨nf_inA hl rfl, sgq_1675 ?_⟩
    · show w_fi ws (n_v (vs ++ [Value.int x]) 0) 49 = (-1)
      rw [e_0]
      exact vc_Mo_stOrder_2_3 (v_iv (n_v vs 1)) (v_iv (n_v vs 2)) (v_iv (n_v vs 3)) (v_iv (n_v vs 4)) (w_fi ws (n_v vs 0) 31) (w_ei ws (w_ar ws (n_v vs 0) 33)) (w_ei ws (w_ar ws (n_v vs 0) 34)) (w_fi ws (n_v vs 0) 32) (w_ei ws (w_ar ws (n_v vs 0) 35)) (w_ei ws (w_ar ws (n_v vs 0) 117)) (w_fi ws (n_v vs 0) 125) (w_fi ws (n_v vs 0) 49) (w_ei ws (w_ar ws (n_v vs 0) 42)) (v_iv (Value.int x)) k1 k2 k3 k4 d0 f0 g1 f2 f3 f4 f5 f6 f7 f8 hK_0_33 hK_0_34 hK_0_35 hK_0_42 hK_0_117 kz_0_31 kz_0_32 kz_0_49 kz_0_125 ex2 ex3
  have nf4 : fc_1 PRD (20, [0, 5], [30, -26, -1, 1, 125, -1, 0, 0]) ws (vs ++ [Value.int x]) := by
    refine ⟨nf_inA hl rfl, sgq_1750 ?_⟩
    · show (-1) * w_fi ws (n_v (vs ++ [Value.int x]) 0) 125 + ((-1) * v_iv (n_v (vs ++ [Value.int x]) 5) + 0) ≤ (-26)
      simp only [e_0, e_5]
      exact vc_Mo_stOrder_2_4 (v_iv (n_v vs 1)) (v_iv (n_v vs 2)) (v_iv (n_v vs 3)) (v_iv (n_v vs 4)) (w_fi ws (n_v vs 0) 31) (w_ei ws (w_ar ws (n_v vs 0) 33)) (w_ei ws (w_ar ws (n_v vs 0) 34)) (w_fi ws (n_v vs 0) 32) (w_ei ws (w_ar ws (n_v vs 0) 35)) (w_ei ws (w_ar ws (n_v vs 0) 117)) (w_fi ws (n_v vs 0) 125) (w_fi ws (n_v vs 0) 49) (w_ei ws (w_ar ws (n_v vs 0) 42)) (v_iv (Value.int x)) k1 k2 k3 k4 d0 f0 g1 f2 f3 f4 f5 f6 f7 f8 hK_0_33 hK_0_34 hK_0_35 hK_0_42 hK_0_117 kz_0_31 kz_0_32 kz_0_49 kz_0_125 ex2 ex3
  have nf5 : fc_1 PRD (20, [0, 4], [60, 1, 2, 300, 31, 42, 117]) ws (vs ++ [Value.int x]) := by
    refine ⟨nf_inA hl rfl, sgq_1753 ?_⟩
    · show DNK (w_fi ws (n_v (vs ++ [Value.int x]) 0) 31) (w_ei ws (w_ar ws (n_v (vs ++ [Value.int x]) 0) 42)) (w_ei ws (w_ar ws (n_v (vs ++ [Value.int x]) 0) 117)) (v_iv (n_v (vs ++ [Value.int x]) 4))
      simp only [e_0, e_4]
      exact vc_Mo_stOrder_2_5 (v_iv (n_v vs 1)) (v_iv (n_v vs 2)) (v_iv (n_v vs 3)) (v_iv (n_v vs 4)) (w_fi ws (n_v vs 0) 31) (w_ei ws (w_ar ws (n_v vs 0) 33)) (w_ei ws (w_ar ws (n_v vs 0) 34)) (w_fi ws (n_v vs 0) 32) (w_ei ws (w_ar ws (n_v vs 0) 35)) (w_ei ws (w_ar ws (n_v vs 0) 117)) (w_fi ws (n_v vs 0) 125) (w_fi ws (n_v vs 0) 49) (w_ei ws (w_ar ws (n_v vs 0) 42)) (v_iv (Value.int x)) k1 k2 k3 k4 d0 f0 g1 f2 f3 f4 f5 f6 f7 f8 hK_0_33 hK_0_34 hK_0_35 hK_0_42 hK_0_117 kz_0_31 kz_0_32 kz_0_49 kz_0_125 ex2 ex3
  have nf6 : fc_1 PRD (20, [4, 0], [30, 0, 1, 0, 0, -1, 1, 125]) ws (vs ++ [Value.int x]) := by
    refine ⟨nf_inA hl rfl, sgq_1754 ?_⟩
    · show 1 * v_iv (n_v (vs ++ [Value.int x]) 4) + ((-1) * w_fi ws (n_v (vs ++ [Value.int x]) 0) 125 + 0) ≤ 0
      simp only [e_0, e_4]
      exact vc_Mo_stOrder_2_6 (v_iv (n_v vs 1)) (v_iv (n_v vs 2)) (v_iv (n_v vs 3)) (v_iv (n_v vs 4)) (w_fi ws (n_v vs 0) 31) (w_ei ws (w_ar ws (n_v vs 0) 33)) (w_ei ws (w_ar ws (n_v vs 0) 34)) (w_fi ws (n_v vs 0) 32) (w_ei ws (w_ar ws (n_v vs 0) 35)) (w_ei ws (w_ar ws (n_v vs 0) 117)) (w_fi ws (n_v vs 0) 125) (w_fi ws (n_v vs 0) 49) (w_ei ws (w_ar ws (n_v vs 0) 42)) (v_iv (Value.int x)) k1 k2 k3 k4 d0 f0 g1 f2 f3 f4 f5 f6 f7 f8 hK_0_33 hK_0_34 hK_0_35 hK_0_42 hK_0_117 kz_0_31 kz_0_32 kz_0_49 kz_0_125 ex2 ex3
  have nf7 : fc_1 PRD (20, [0], [50, 2, 0, 125, 31, 0, 7, 4, 3, 2, 0, 125, 0, 1, 2, 0, 31]) ws (vs ++ [Value.int x]) := by
    refine ⟨nf_inA hl rfl, sgq_1752 ?_⟩
    · show (w_fi ws (n_v (vs ++ [Value.int x]) 0) 125 + 1) ≤ w_fi ws (n_v (vs ++ [Value.int x]) 0) 31
      rw [e_0]
      exact vc_Mo_stOrder_2_7 (v_iv (n_v vs 1)) (v_iv (n_v vs 2)) (v_iv (n_v vs 3)) (v_iv (n_v vs 4)) (w_fi ws (n_v vs 0) 31) (w_ei ws (w_ar ws (n_v vs 0) 33)) (w_ei ws (w_ar ws (n_v vs 0) 34)) (w_fi ws (n_v vs 0) 32) (w_ei ws (w_ar ws (n_v vs 0) 35)) (w_ei ws (w_ar ws (n_v vs 0) 117)) (w_fi ws (n_v vs 0) 125) (w_fi ws (n_v vs 0) 49) (w_ei ws (w_ar ws (n_v vs 0) 42)) (v_iv (Value.int x)) k1 k2 k3 k4 d0 f0 g1 f2 f3 f4 f5 f6 f7 f8 hK_0_33 hK_0_34 hK_0_35 hK_0_42 hK_0_117 kz_0_31 kz_0_32 kz_0_49 kz_0_125 ex2 ex3
  obtain ⟨x0, e0, _, _⟩ := tv_int t2 rfl
  have e1 : v_iv (n_v vs 2) = x0.toInt := by rw [e0]; rfl
  have ho : sy_ofs (vs ++ [Value.int x]) (5, 2, 0, 0) := by
    refine ⟨x, x0, by rw [List.getElem?_append_right (by rw [hl]; decide), hl]; rfl, ?_, ?_, ?_⟩
    · rw [List.getElem?_append_left (by rw [hl]; decide)]; exact n_v_some (by rw [hl]; decide) e0
    · show x0.toInt + 0 ≤ x.toInt; omega
    · show x.toInt ≤ x0.toInt + 0; omega
  exact ⟨(fun _ h => (by cases h)), [Value.int x], ag_one hx, List.forall_mem_cons.mpr ⟨⟨show (20 : Nat) < 100 from by decide, nf0⟩, List.forall_mem_cons.mpr ⟨⟨show (20 : Nat) < 100 from by decide, nf1⟩, List.forall_mem_cons.mpr ⟨⟨show (20 : Nat) < 100 from by decide, nf2⟩, List.forall_mem_cons.mpr ⟨⟨show (20 : Nat) < 100 from by decide, nf3⟩, List.forall_mem_cons.mpr ⟨⟨show (20 : Nat) < 100 from by decide, nf4⟩, List.forall_mem_cons.mpr ⟨⟨show (20 : Nat) < 100 from by decide, nf5⟩, List.forall_mem_cons.mpr ⟨⟨show (20 : Nat) < 100 from by decide, nf6⟩, List.forall_mem_cons.mpr ⟨⟨show (20 : Nat) < 100 from by decide, nf7⟩, (fun _ h => (by cases h))⟩⟩⟩⟩⟩⟩⟩⟩, List.forall_mem_cons.mpr ⟨ho, (fun _ h => (by cases h))⟩⟩
set_option maxHeartbeats 4000000 in
theorem vc_Mo_stOrder_3_0 (x1 : Int) (x2 : Int) (x3 : Int) (x5 : Int) (x6 : Int) (pt_0 : Int → Int) (ph_0 : Int → Int) (pn_0 : Int) (pm_0 : Int) (alive_0 : Int → Int) (row_0 : Int → Int) (rowMany_0 : Int) (onlyPiece_0 : Int) (pn_1 : Int) (pt_1 : Int → Int) (ph_1 : Int → Int) (pm_1 : Int) (alive_1 : Int → Int) (row_1 : Int → Int) (rowMany_1 : Int) (onlyPiece_1 : Int) (drawnNode_1 : Int → Int) (drawnNode_0 : Int → Int) (k1 : 0 ≤ x1 ∧ x1 ≤ 24) (k2 : (-2) ≤ x2 ∧ x2 ≤ 26) (k3 : 1 ≤ x3 ∧ x3 ≤ 25) (k5 : 0 ≤ x5 ∧ x5 ≤ 0) (k6 : 1 ≤ x6 ∧ x6 ≤ 25) (d0 : x1 + 1 ≤ x6 ∧ x6 ≤ x1 + 1) (d1 : x3 + (-4294967296) ≤ x6 ∧ x6 ≤ x3 + 0) (d2 : x3 + (-4294967296) ≤ x1 ∧ x1 ≤ x3 + (-1)) (f0 : x6 = x1 + 1) (f1 : GOK (pn_0) (pm_0) (pt_0) (ph_0)) (f2 : STB (pn_0) (pm_0) (pt_0) (ph_0) (alive_0)) (f3 : STR (pn_0) (rowMany_0) (pt_0) (ph_0) (row_0)) (f4 : onlyPiece_0 = (-1)) (f5 : (-1) * rowMany_0 + ((-1) * x2 + 0) ≤ (-26)) (f6 : (rowMany_0 + 1) ≤ pn_0) (f9 : x1 < x3) (g10 : x3 = pn_1) (f11 : GOK (pn_1) (pm_1) (pt_1) (ph_1)) (f12 : STB (pn_1) (pm_1) (pt_1) (ph_1) (alive_1)) (f13 : STR (pn_1) (rowMany_1) (pt_1) (ph_1) (row_1)) (f14 : onlyPiece_1 = (-1)) (f15 : (-1) * rowMany_1 + ((-1) * x2 + 0) ≤ (-26)) (f16 : ZN (drawnNode_1) (x1)) (f17 : (rowMany_1 + 1) ≤ pn_1) (fe_0_31_1 : pn_0 = pn_1) (fe_0_32_1 : pm_0 = pm_1) (fe_0_49_1 : onlyPiece_0 = onlyPiece_1) (fe_0_125_1 : rowMany_0 = rowMany_1) (hE_0_33_1 : ∀ j : Int, pt_0 j = pt_1 j) (hK_0_33 : ∀ j : Int, 0 ≤ j → j < 80 → 0 ≤ pt_0 j ∧ pt_0 j ≤ 24) (hE_0_34_1 : ∀ j : Int, ph_0 j = ph_1 j) (hK_0_34 : ∀ j : Int, 0 ≤ j → j < 80 → 0 ≤ ph_0 j ∧ ph_0 j ≤ 24) (hE_0_35_1 : ∀ j : Int, alive_0 j = alive_1 j) (hK_0_35 : ∀ j : Int, 0 ≤ j → j < 80 → 0 ≤ alive_0 j ∧ alive_0 j ≤ 1) (hE_0_42_1 : ∀ j : Int, 0 ≤ j → (j = x1 → drawnNode_0 j = x5) ∧ (j ≠ x1 → drawnNode_0 j = drawnNode_1 j)) (hK_0_42 : ∀ j : Int, 0 ≤ j → j < 26 → 0 ≤ drawnNode_0 j ∧ drawnNode_0 j ≤ 1) (hE_0_117_1 : ∀ j : Int, row_0 j = row_1 j) (hK_0_117 : ∀ j : Int, 0 ≤ j → j < 100 → 0 ≤ row_0 j ∧ row_0 j ≤ 75) (kz_0_31 : 0 ≤ pn_0 ∧ pn_0 ≤ 25) (kz_0_32 : 0 ≤ pm_0 ∧ pm_0 ≤ 80) (kz_0_49 : (-1) ≤ onlyPiece_0 ∧ onlyPiece_0 ≤ 79) (kz_0_125 : 0 ≤ rowMany_0 ∧ rowMany_0 ≤ 100) : ZN (drawnNode_0) (x6) := by
  subst fe_0_31_1
  subst fe_0_32_1
  subst fe_0_49_1
  subst fe_0_125_1
  have e_hE_0_33_1 := funext hE_0_33_1; subst e_hE_0_33_1
  have e_hE_0_34_1 := funext hE_0_34_1; subst e_hE_0_34_1
  have e_hE_0_35_1 := funext hE_0_35_1; subst e_hE_0_35_1
  have e_hE_0_117_1 := funext hE_0_117_1; subst e_hE_0_117_1
  first
    | (intro j a b; exfalso; omega)
    | (have h := ‹ZN _ _›
       intro j a b
       by_cases q : j = x1
       · rw [(hE_0_42_1 j a).1 q]; omega
       · rw [(hE_0_42_1 j a).2 q]; exact h j a (by omega))
def o_Mo_stOrder_3 : or_T := (47, 7, [(0, (2, 0, 0, [165])), (1, (0, 0, 24, [])), (2, (0, -2, 26, [])), (3, (0, 1, 25, [])), (4, (2, 0, 0, [188])), (5, (0, 0, 0, [])), (6, (0, 1, 25, []))], [(6, [6, 1], [1]), (20, [0], [60, 2, 2, 75, 31, 32, 33, 34]), (20, [0], [60, 2, 3, 297, 31, 32, 33, 34, 35]), (20, [0], [60, 2, 3, 298, 31, 125, 33, 34, 117]), (20, [0], [50, 1, 0, 49, 1, 3, 2, 0, 49, 0, -1]), (20, [0, 2], [30, -26, -1, 1, 125, -1, 0, 0]), (20, [0], [50, 2, 0, 125, 31, 0, 7, 4, 3, 2, 0, 125, 0, 1, 2, 0, 31]), (100, [4, 1, 5], []), (9, [4, 0], [42]), (7, [1, 3], [2]), (9, [3, 0], [31]), (20, [0], [60, 2, 2, 75, 31, 32, 33, 34]), (20, [0], [60, 2, 3, 297, 31, 32, 33, 34, 35]), (20, [0], [60, 2, 3, 298, 31, 125, 33, 34, 117]), (20, [0], [50, 1, 0, 49, 1, 3, 2, 0, 49, 0, -1]), (20, [0, 2], [30, -26, -1, 1, 125, -1, 0, 0]), (20, [0, 1], [60, 0, 1, 299, 42]), (20, [0], [50, 2, 0, 125, 31, 0, 7, 4, 3, 2, 0, 125, 0, 1, 2, 0, 31])], [], [], [(20, [0, 6], [60, 0, 1, 299, 42])], [], [(6, 1, 1, 1), (6, 3, -4294967296, 0), (1, 3, -4294967296, -1)])
theorem oo_Mo_stOrder_3 {kA : Nat → ClassId} : or_ok PRD kA GG o_Mo_stOrder_3 := by
  refine or_mk fun A ta ws vs hD hth hl => ?_
  intro t0 r0 t1 k1 t2 k2 t3 k3 t4 r4 t5 k5 t6 k6 d0 d1 d2 f0 f1 f2 f3 f4 f5 f6 ta1 w1 le1 s1 f8 f9 f10 f11 f12 f13 f14 f15 f16 f17
  have s1 : (∀ b j, w_el ws b j = if b = v_ad (n_v vs 4) ∧ j = (v_iv (n_v vs 1)).toNat then v_iv (n_v vs 5) else w_el w1 b j) ∧ ∀ b k, w_fd ws b k = w_fd w1 b k := s1.2
  replace f8 := shm_531 f8
  replace f10 := shm_577 f10
  replace f11 := shm_575 f11
  replace f12 := shm_1749 f12
  replace f13 := shm_1001 f13
  replace f16 := shm_1751 f16
  have ar_0_33_1 : w_ar w1 (n_v vs 0) 33 = w_ar ws (n_v vs 0) 33 := congrArg v_ad (s1.2 _ _).symm
  have cr_0_33 := fdq_117 hD hth r0
  have ar_0_34_1 : w_ar w1 (n_v vs 0) 34 = w_ar ws (n_v vs 0) 34 := congrArg v_ad (s1.2 _ _).symm
  have cr_0_34 := fdq_118 hD hth r0
  have ar_0_35_1 : w_ar w1 (n_v vs 0) 35 = w_ar ws (n_v vs 0) 35 := congrArg v_ad (s1.2 _ _).symm
  have cr_0_35 := fdq_132 hD hth r0
  have ar_0_42_1 : w_ar w1 (n_v vs 0) 42 = w_ar ws (n_v vs 0) 42 := congrArg v_ad (s1.2 _ _).symm
  have cr_0_42 := fdq_136 hD hth r0
  have ar_0_117_1 : w_ar w1 (n_v vs 0) 117 = w_ar ws (n_v vs 0) 117 := congrArg v_ad (s1.2 _ _).symm
  have cr_0_117 := fdq_181 hD hth r0
  have ad_4 : v_ad (n_v vs 4) = w_ar ws (n_v vs 0) 42 := (congrArg v_ad f8).trans ar_0_42_1
  have g10 : v_iv (n_v vs 3) = w_fi w1 (n_v vs 0) 31 := congrArg v_iv f10
  simp only [ar_0_33_1, ar_0_34_1, ar_0_35_1, ar_0_117_1, ar_0_42_1] at f11 f12 f13 f16
  have fe_0_31_1 : w_fi ws (n_v vs 0) 31 = w_fi w1 (n_v vs 0) 31 := congrArg v_iv (s1.2 _ _)
  have fe_0_32_1 : w_fi ws (n_v vs 0) 32 = w_fi w1 (n_v vs 0) 32 := congrArg v_iv (s1.2 _ _)
  have fe_0_49_1 : w_fi ws (n_v vs 0) 49 = w_fi w1 (n_v vs 0) 49 := congrArg v_iv (s1.2 _ _)
  have fe_0_125_1 : w_fi ws (n_v vs 0) 125 = w_fi w1 (n_v vs 0) 125 := congrArg v_iv (s1.2 _ _)
  have hE_0_33_1 : ∀ j : Int, w_ei ws (w_ar ws (n_v vs 0) 33) j = w_ei w1 (w_ar ws (n_v vs 0) 33) j := el_kp s1.1 r4 cr_0_33 (by decide)
  have hK_0_33 := elq_60 hD hth cr_0_33
  have hE_0_34_1 : ∀ j : Int, w_ei ws (w_ar ws (n_v vs 0) 34) j = w_ei w1 (w_ar ws (n_v vs 0) 34) j := el_kp s1.1 r4 cr_0_34 (by decide)
  have hK_0_34 := elq_61 hD hth cr_0_34
  have hE_0_35_1 : ∀ j : Int, w_ei ws (w_ar ws (n_v vs 0) 35) j = w_ei w1 (w_ar ws (n_v vs 0) 35) j := el_kp s1.1 r4 cr_0_35 (by decide)
  have hK_0_35 := elq_72 hD hth cr_0_35
  have hE_0_42_1 : ∀ j : Int, 0 ≤ j → (j = v_iv (n_v vs 1) → w_ei ws (w_ar ws (n_v vs 0) 42) j = v_iv (n_v vs 5)) ∧ (j ≠ v_iv (n_v vs 1) → w_ei ws (w_ar ws (n_v vs 0) 42) j = w_ei w1 (w_ar ws (n_v vs 0) 42) j) := fun j hj => ⟨fun h => by unfold w_ei; rw [s1.1, if_pos ⟨ad_4.symm, by rw [h]⟩], fun h => by unfold w_ei; rw [s1.1, if_neg (fun e => h (by have := e.2; omega))]⟩
  have hK_0_42 := elq_75 hD hth cr_0_42
  have hE_0_117_1 : ∀ j : Int, w_ei ws (w_ar ws (n_v vs 0) 117) j = w_ei w1 (w_ar ws (n_v vs 0) 117) j := el_kp s1.1 r4 cr_0_117 (by decide)
  have hK_0_117 := elq_108 hD hth cr_0_117
  have kz_0_31 := fdq_145 hD hth r0
  have kz_0_32 := fdq_140 hD hth r0
  have kz_0_49 := fdq_146 hD hth r0
  have kz_0_125 := fdq_182 hD hth r0
  have nf0 : fc_1 PRD (20, [0, 6], [60, 0, 1, 299, 42]) ws (vs) := ⟨nf_in hl rfl, sgq_1751 (vc_Mo_stOrder_3_0 (v_iv (n_v vs 1)) (v_iv (n_v vs 2)) (v_iv (n_v vs 3)) (v_iv (n_v vs 5)) (v_iv (n_v vs 6)) (w_ei ws (w_ar ws (n_v vs 0) 33)) (w_ei ws (w_ar ws (n_v vs 0) 34)) (w_fi ws (n_v vs 0) 31) (w_fi ws (n_v vs 0) 32) (w_ei ws (w_ar ws (n_v vs 0) 35)) (w_ei ws (w_ar ws (n_v vs 0) 117)) (w_fi ws (n_v vs 0) 125) (w_fi ws (n_v vs 0) 49) (w_fi w1 (n_v vs 0) 31) (w_ei w1 (w_ar ws (n_v vs 0) 33)) (w_ei w1 (w_ar ws (n_v vs 0) 34)) (w_fi w1 (n_v vs 0) 32) (w_ei w1 (w_ar ws (n_v vs 0) 35)) (w_ei w1 (w_ar ws (n_v vs 0) 117)) (w_fi w1 (n_v vs 0) 125) (w_fi w1 (n_v vs 0) 49) (w_ei w1 (w_ar ws (n_v vs 0) 42)) (w_ei ws (w_ar ws (n_v vs 0) 42)) k1 k2 k3 k5 k6 d0 d1 d2 (shm_4 f0) (shm_575 f1) (shm_1749 f2) (shm_1001 f3) (shm_1675 f4) (shm_1750 f5) (shm_1752 f6) (shm_6 f9) g10 f11 f12 f13 (shm_1675 f14) (shm_1750 f15) f16 (shm_1752 f17) fe_0_31_1 fe_0_32_1 fe_0_49_1 fe_0_125_1 hE_0_33_1 hK_0_33 hE_0_34_1 hK_0_34 hE_0_35_1 hK_0_35 hE_0_42_1 hK_0_42 hE_0_117_1 hK_0_117 kz_0_31 kz_0_32 kz_0_49 kz_0_125)⟩
  refine ⟨(fun _ h => (by cases h)), [], trivial, ?_, (fun _ h => (by cases h))⟩
  rw [List.append_nil]
  exact List.forall_mem_cons.mpr ⟨⟨show (20 : Nat) < 100 from by decide, nf0⟩, (fun _ h => (by cases h))⟩
set_option maxHeartbeats 4000000 in
theorem vc_Mo_stOrder_4_0 (x1 : Int) (x2 : Int) (x3 : Int) (x4 : Int) (rowMany_0 : Int) (pt_0 : Int → Int) (ph_0 : Int → Int) (pn_0 : Int) (pm_0 : Int) (alive_0 : Int → Int) (row_0 : Int → Int) (onlyPiece_0 : Int) (drawnNode_0 : Int → Int) (drawnEdge_0 : Int → Int) (gx : Int) (k1 : 0 ≤ x1 ∧ x1 ≤ 100) (k2 : (-2) ≤ x2 ∧ x2 ≤ 26) (k3 : 0 ≤ x3 ∧ x3 ≤ 100) (k4 : 0 ≤ x4 ∧ x4 ≤ 0) (d0 : x3 + 0 ≤ x1 ∧ x1 ≤ x3 + 4294967296) (f0 : x3 ≤ x1) (g1 : x3 = rowMany_0) (f2 : GOK (pn_0) (pm_0) (pt_0) (ph_0)) (f3 : STB (pn_0) (pm_0) (pt_0) (ph_0) (alive_0)) (f4 : STR (pn_0) (rowMany_0) (pt_0) (ph_0) (row_0)) (f5 : onlyPiece_0 = (-1)) (f6 : (-1) * rowMany_0 + ((-1) * x2 + 0) ≤ (-26)) (f7 : DNK (pn_0) (drawnNode_0) (row_0) (x1)) (f8 : 1 * x1 + ((-1) * rowMany_0 + 0) ≤ 0) (f9 : (rowMany_0 + 1) ≤ pn_0) (hK_0_33 : ∀ j : Int, 0 ≤ j → j < 80 → 0 ≤ pt_0 j ∧ pt_0 j ≤ 24) (hK_0_34 : ∀ j : Int, 0 ≤ j → j < 80 → 0 ≤ ph_0 j ∧ ph_0 j ≤ 24) (hK_0_35 : ∀ j : Int, 0 ≤ j → j < 80 → 0 ≤ alive_0 j ∧ alive_0 j ≤ 1) (hK_0_42 : ∀ j : Int, 0 ≤ j → j < 26 → 0 ≤ drawnNode_0 j ∧ drawnNode_0 j ≤ 1) (hK_0_43 : ∀ j : Int, 0 ≤ j → j < 80 → 0 ≤ drawnEdge_0 j ∧ drawnEdge_0 j ≤ 1) (hK_0_117 : ∀ j : Int, 0 ≤ j → j < 100 → 0 ≤ row_0 j ∧ row_0 j ≤ 75) (kz_0_31 : 0 ≤ pn_0 ∧ pn_0 ≤ 25) (kz_0_32 : 0 ≤ pm_0 ∧ pm_0 ≤ 80) (kz_0_49 : (-1) ≤ onlyPiece_0 ∧ onlyPiece_0 ≤ 79) (kz_0_125 : 0 ≤ rowMany_0 ∧ rowMany_0 ≤ 100) (ex2 : gx = 0 + (1 * x2 + 0)) (ex3 : (-2) ≤ gx ∧ gx ≤ 26) : GOK (pn_0) (pm_0) (pt_0) (ph_0) := by
  first
    | assumption
    | exact ‹STB _ _ _ _ _›.1.1
set_option maxHeartbeats 4000000 in
theorem vc_Mo_stOrder_4_1 (x1 : Int) (x2 : Int) (x3 : Int) (x4 : Int) (rowMany_0 : Int) (pt_0 : Int → Int) (ph_0 : Int → Int) (pn_0 : Int) (pm_0 : Int) (alive_0 : Int → Int) (row_0 : Int → Int) (onlyPiece_0 : Int) (drawnNode_0 : Int → Int) (drawnEdge_0 : Int → Int) (gx : Int) (k1 : 0 ≤ x1 ∧ x1 ≤ 100) (k2 : (-2) ≤ x2 ∧ x2 ≤ 26) (k3 : 0 ≤ x3 ∧ x3 ≤ 100) (k4 : 0 ≤ x4 ∧ x4 ≤ 0) (d0 : x3 + 0 ≤ x1 ∧ x1 ≤ x3 + 4294967296) (f0 : x3 ≤ x1) (g1 : x3 = rowMany_0) (f2 : GOK (pn_0) (pm_0) (pt_0) (ph_0)) (f3 : STB (pn_0) (pm_0) (pt_0) (ph_0) (alive_0)) (f4 : STR (pn_0) (rowMany_0) (pt_0) (ph_0) (row_0)) (f5 : onlyPiece_0 = (-1)) (f6 : (-1) * rowMany_0 + ((-1) * x2 + 0) ≤ (-26)) (f7 : DNK (pn_0) (drawnNode_0) (row_0) (x1)) (f8 : 1 * x1 + ((-1) * rowMany_0 + 0) ≤ 0) (f9 : (rowMany_0 + 1) ≤ pn_0) (hK_0_33 : ∀ j : Int, 0 ≤ j → j < 80 → 0 ≤ pt_0 j ∧ pt_0 j ≤ 24) (hK_0_34 : ∀ j : Int, 0 ≤ j → j < 80 → 0 ≤ ph_0 j ∧ ph_0 j ≤ 24) (hK_0_35 : ∀ j : Int, 0 ≤ j → j < 80 → 0 ≤ alive_0 j ∧ alive_0 j ≤ 1) (hK_0_42 : ∀ j : Int, 0 ≤ j → j < 26 → 0 ≤ drawnNode_0 j ∧ drawnNode_0 j ≤ 1) (hK_0_43 : ∀ j : Int, 0 ≤ j → j < 80 → 0 ≤ drawnEdge_0 j ∧ drawnEdge_0 j ≤ 1) (hK_0_117 : ∀ j : Int, 0 ≤ j → j < 100 → 0 ≤ row_0 j ∧ row_0 j ≤ 75) (kz_0_31 : 0 ≤ pn_0 ∧ pn_0 ≤ 25) (kz_0_32 : 0 ≤ pm_0 ∧ pm_0 ≤ 80) (kz_0_49 : (-1) ≤ onlyPiece_0 ∧ onlyPiece_0 ≤ 79) (kz_0_125 : 0 ≤ rowMany_0 ∧ rowMany_0 ≤ 100) (ex2 : gx = 0 + (1 * x2 + 0)) (ex3 : (-2) ≤ gx ∧ gx ≤ 26) : STB (pn_0) (pm_0) (pt_0) (ph_0) (alive_0) := by
  first | assumption
set_option maxHeartbeats 4000000 in
theorem vc_Mo_stOrder_4_2 (x1 : Int) (x2 : Int) (x3 : Int) (x4 : Int) (rowMany_0 : Int) (pt_0 : Int → Int) (ph_0 : Int → Int) (pn_0 : Int) (pm_0 : Int) (alive_0 : Int → Int) (row_0 : Int → Int) (onlyPiece_0 : Int) (drawnNode_0 : Int → Int) (drawnEdge_0 : Int → Int) (gx : Int) (k1 : 0 ≤ x1 ∧ x1 ≤ 100) (k2 : (-2) ≤ x2 ∧ x2 ≤ 26) (k3 : 0 ≤ x3 ∧ x3 ≤ 100) (k4 : 0 ≤ x4 ∧ x4 ≤ 0) (d0 : x3 + 0 ≤ x1 ∧ x1 ≤ x3 + 4294967296) (f0 : x3 ≤ x1) (g1 : x3 = rowMany_0) (f2 : GOK (pn_0) (pm_0) (pt_0) (ph_0)) (f3 : STB (pn_0) (pm_0) (pt_0) (ph_0) (alive_0)) (f4 : STR (pn_0) (rowMany_0) (pt_0) (ph_0) (row_0)) (f5 : onlyPiece_0 = (-1)) (f6 : (-1) * rowMany_0 + ((-1) * x2 + 0) ≤ (-26)) (f7 : DNK (pn_0) (drawnNode_0) (row_0) (x1)) (f8 : 1 * x1 + ((-1) * rowMany_0 + 0) ≤ 0) (f9 : (rowMany_0 + 1) ≤ pn_0) (hK_0_33 : ∀ j : Int, 0 ≤ j → j < 80 → 0 ≤ pt_0 j ∧ pt_0 j ≤ 24) (hK_0_34 : ∀ j : Int, 0 ≤ j → j < 80 → 0 ≤ ph_0 j ∧ ph_0 j ≤ 24) (hK_0_35 : ∀ j : Int, 0 ≤ j → j < 80 → 0 ≤ alive_0 j ∧ alive_0 j ≤ 1) (hK_0_42 : ∀ j : Int, 0 ≤ j → j < 26 → 0 ≤ drawnNode_0 j ∧ drawnNode_0 j ≤ 1) (hK_0_43 : ∀ j : Int, 0 ≤ j → j < 80 → 0 ≤ drawnEdge_0 j ∧ drawnEdge_0 j ≤ 1) (hK_0_117 : ∀ j : Int, 0 ≤ j → j < 100 → 0 ≤ row_0 j ∧ row_0 j ≤ 75) (kz_0_31 : 0 ≤ pn_0 ∧ pn_0 ≤ 25) (kz_0_32 : 0 ≤ pm_0 ∧ pm_0 ≤ 80) (kz_0_49 : (-1) ≤ onlyPiece_0 ∧ onlyPiece_0 ≤ 79) (kz_0_125 : 0 ≤ rowMany_0 ∧ rowMany_0 ≤ 100) (ex2 : gx = 0 + (1 * x2 + 0)) (ex3 : (-2) ≤ gx ∧ gx ≤ 26) : STR (pn_0) (rowMany_0) (pt_0) (ph_0) (row_0) := by
  first | assumption
set_option maxHeartbeats 4000000 in
theorem vc_Mo_stOrder_4_3 (x1 : Int) (x2 : Int) (x3 : Int) (x4 : Int) (rowMany_0 : Int) (pt_0 : Int → Int) (ph_0 : Int → Int) (pn_0 : Int) (pm_0 : Int) (alive_0 : Int → Int) (row_0 : Int → Int) (onlyPiece_0 : Int) (drawnNode_0 : Int → Int) (drawnEdge_0 : Int → Int) (gx : Int) (k1 : 0 ≤ x1 ∧ x1 ≤ 100) (k2 : (-2) ≤ x2 ∧ x2 ≤ 26) (k3 : 0 ≤ x3 ∧ x3 ≤ 100) (k4 : 0 ≤ x4 ∧ x4 ≤ 0) (d0 : x3 + 0 ≤ x1 ∧ x1 ≤ x3 + 4294967296) (f0 : x3 ≤ x1) (g1 : x3 = rowMany_0) (f2 : GOK (pn_0) (pm_0) (pt_0) (ph_0)) (f3 : STB (pn_0) (pm_0) (pt_0) (ph_0) (alive_0)) (f4 : STR (pn_0) (rowMany_0) (pt_0) (ph_0) (row_0)) (f5 : onlyPiece_0 = (-1)) (f6 : (-1) * rowMany_0 + ((-1) * x2 + 0) ≤ (-26)) (f7 : DNK (pn_0) (drawnNode_0) (row_0) (x1)) (f8 : 1 * x1 + ((-1) * rowMany_0 + 0) ≤ 0) (f9 : (rowMany_0 + 1) ≤ pn_0) (hK_0_33 : ∀ j : Int, 0 ≤ j → j < 80 → 0 ≤ pt_0 j ∧ pt_0 j ≤ 24) (hK_0_34 : ∀ j : Int, 0 ≤ j → j < 80 → 0 ≤ ph_0 j ∧ ph_0 j ≤ 24) (hK_0_35 : ∀ j : Int, 0 ≤ j → j < 80 → 0 ≤ alive_0 j ∧ alive_0 j ≤ 1) (hK_0_42 : ∀ j : Int, 0 ≤ j → j < 26 → 0 ≤ drawnNode_0 j ∧ drawnNode_0 j ≤ 1) (hK_0_43 : ∀ j : Int, 0 ≤ j → j < 80 → 0 ≤ drawnEdge_0 j ∧ drawnEdge_0 j ≤ 1) (hK_0_117 : ∀ j : Int, 0 ≤ j → j < 100 → 0 ≤ row_0 j ∧ row_0 j ≤ 75) (kz_0_31 : 0 ≤ pn_0 ∧ pn_0 ≤ 25) (kz_0_32 : 0 ≤ pm_0 ∧ pm_0 ≤ 80) (kz_0_49 : (-1) ≤ onlyPiece_0 ∧ onlyPiece_0 ≤ 79) (kz_0_125 : 0 ≤ rowMany_0 ∧ rowMany_0 ≤ 100) (ex2 : gx = 0 + (1 * x2 + 0)) (ex3 : (-2) ≤ gx ∧ gx ≤ 26) : onlyPiece_0 = (-1) := by
  first
    | omega
    | (have h := ‹STB _ _ _ _ _›.1.2.2; omega)
    | (have h := ‹STR _ _ _ _ _›.1; omega)
    | (have h := ‹STR _ _ _ _ _›.1
       have w := ‹STR _ _ _ _ _›.2.1 x1 (by omega) (by omega)
       omega)
    | (have h := bc_len ‹BC1 _ _ _ _ _ _ _›
       have h2 := ‹STR _ _ _ _ _›.1
       omega)
    | (have h := (sb_way ‹SB1 _ _ _ _ _ _ _ _ _ _ _ _› (by omega)).1
       have h2 := ‹STR _ _ _ _ _›.1
       omega)
    | (have h := ‹WYM _ _ _ _›.1
       have h2 := ‹STR _ _ _ _ _›.1
       omega)
set_option maxHeartbeats 4000000 in
theorem vc_Mo_stOrder_4_4 (x1 : Int) (x2 : Int) (x3 : Int) (x4 : Int) (rowMany_0 : Int) (pt_0 : Int → Int) (ph_0 : Int → Int) (pn_0 : Int) (pm_0 : Int) (alive_0 : Int → Int) (row_0 : Int → Int) (onlyPiece_0 : Int) (drawnNode_0 : Int → Int) (drawnEdge_0 : Int → Int) (gx : Int) (k1 : 0 ≤ x1 ∧ x1 ≤ 100) (k2 : (-2) ≤ x2 ∧ x2 ≤ 26) (k3 : 0 ≤ x3 ∧ x3 ≤ 100) (k4 : 0 ≤ x4 ∧ x4 ≤ 0) (d0 : x3 + 0 ≤ x1 ∧ x1 ≤ x3 + 4294967296) (f0 : x3 ≤ x1) (g1 : x3 = rowMany_0) (f2 : GOK (pn_0) (pm_0) (pt_0) (ph_0)) (f3 : STB (pn_0) (pm_0) (pt_0) (ph_0) (alive_0)) (f4 : STR (pn_0) (rowMany_0) (pt_0) (ph_0) (row_0)) (f5 : onlyPiece_0 = (-1)) (f6 : (-1) * rowMany_0 + ((-1) * x2 + 0) ≤ (-26)) (f7 : DNK (pn_0) (drawnNode_0) (row_0) (x1)) (f8 : 1 * x1 + ((-1) * rowMany_0 + 0) ≤ 0) (f9 : (rowMany_0 + 1) ≤ pn_0) (hK_0_33 : ∀ j : Int, 0 ≤ j → j < 80 → 0 ≤ pt_0 j ∧ pt_0 j ≤ 24) (hK_0_34 : ∀ j : Int, 0 ≤ j → j < 80 → 0 ≤ ph_0 j ∧ ph_0 j ≤ 24) (hK_0_35 : ∀ j : Int, 0 ≤ j → j < 80 → 0 ≤ alive_0 j ∧ alive_0 j ≤ 1) (hK_0_42 : ∀ j : Int, 0 ≤ j → j < 26 → 0 ≤ drawnNode_0 j ∧ drawnNode_0 j ≤ 1) (hK_0_43 : ∀ j : Int, 0 ≤ j → j < 80 → 0 ≤ drawnEdge_0 j ∧ drawnEdge_0 j ≤ 1) (hK_0_117 : ∀ j : Int, 0 ≤ j → j < 100 → 0 ≤ row_0 j ∧ row_0 j ≤ 75) (kz_0_31 : 0 ≤ pn_0 ∧ pn_0 ≤ 25) (kz_0_32 : 0 ≤ pm_0 ∧ pm_0 ≤ 80) (kz_0_49 : (-1) ≤ onlyPiece_0 ∧ onlyPiece_0 ≤ 79) (kz_0_125 : 0 ≤ rowMany_0 ∧ rowMany_0 ≤ 100) (ex2 : gx = 0 + (1 * x2 + 0)) (ex3 : (-2) ≤ gx ∧ gx ≤ 26) : (-1) * rowMany_0 + ((-1) * gx + 0) ≤ (-26) := by
  first
    | omega
    | (have h := ‹STB _ _ _ _ _›.1.2.2; omega)
    | (have h := ‹STR _ _ _ _ _›.1; omega)
    | (have h := ‹STR _ _ _ _ _›.1
       have w := ‹STR _ _ _ _ _›.2.1 x1 (by omega) (by omega)
       omega)
    | (have h := bc_len ‹BC1 _ _ _ _ _ _ _›
       have h2 := ‹STR _ _ _ _ _›.1
       omega)
    | (have h := (sb_way ‹SB1 _ _ _ _ _ _ _ _ _ _ _ _› (by omega)).1
       have h2 := ‹STR _ _ _ _ _›.1
       omega)
    | (have h := ‹WYM _ _ _ _›.1
       have h2 := ‹STR _ _ _ _ _›.1
       omega)
set_option maxHeartbeats 4000000 in
theorem vc_Mo_stOrder_4_5 (x1 : Int) (x2 : Int) (x3 : Int) (x4 : Int) (rowMany_0 : Int) (pt_0 : Int → Int) (ph_0 : Int → Int) (pn_0 : Int) (pm_0 : Int) (alive_0 : Int → Int) (row_0 : Int → Int) (onlyPiece_0 : Int) (drawnNode_0 : Int → Int) (drawnEdge_0 : Int → Int) (gx : Int) (k1 : 0 ≤ x1 ∧ x1 ≤ 100) (k2 : (-2) ≤ x2 ∧ x2 ≤ 26) (k3 : 0 ≤ x3 ∧ x3 ≤ 100) (k4 : 0 ≤ x4 ∧ x4 ≤ 0) (d0 : x3 + 0 ≤ x1 ∧ x1 ≤ x3 + 4294967296) (f0 : x3 ≤ x1) (g1 : x3 = rowMany_0) (f2 : GOK (pn_0) (pm_0) (pt_0) (ph_0)) (f3 : STB (pn_0) (pm_0) (pt_0) (ph_0) (alive_0)) (f4 : STR (pn_0) (rowMany_0) (pt_0) (ph_0) (row_0)) (f5 : onlyPiece_0 = (-1)) (f6 : (-1) * rowMany_0 + ((-1) * x2 + 0) ≤ (-26)) (f7 : DNK (pn_0) (drawnNode_0) (row_0) (x1)) (f8 : 1 * x1 + ((-1) * rowMany_0 + 0) ≤ 0) (f9 : (rowMany_0 + 1) ≤ pn_0) (hK_0_33 : ∀ j : Int, 0 ≤ j → j < 80 → 0 ≤ pt_0 j ∧ pt_0 j ≤ 24) (hK_0_34 : ∀ j : Int, 0 ≤ j → j < 80 → 0 ≤ ph_0 j ∧ ph_0 j ≤ 24) (hK_0_35 : ∀ j : Int, 0 ≤ j → j < 80 → 0 ≤ alive_0 j ∧ alive_0 j ≤ 1) (hK_0_42 : ∀ j : Int, 0 ≤ j → j < 26 → 0 ≤ drawnNode_0 j ∧ drawnNode_0 j ≤ 1) (hK_0_43 : ∀ j : Int, 0 ≤ j → j < 80 → 0 ≤ drawnEdge_0 j ∧ drawnEdge_0 j ≤ 1) (hK_0_117 : ∀ j : Int, 0 ≤ j → j < 100 → 0 ≤ row_0 j ∧ row_0 j ≤ 75) (kz_0_31 : 0 ≤ pn_0 ∧ pn_0 ≤ 25) (kz_0_32 : 0 ≤ pm_0 ∧ pm_0 ≤ 80) (kz_0_49 : (-1) ≤ onlyPiece_0 ∧ onlyPiece_0 ≤ 79) (kz_0_125 : 0 ≤ rowMany_0 ∧ rowMany_0 ≤ 100) (ex2 : gx = 0 + (1 * x2 + 0)) (ex3 : (-2) ≤ gx ∧ gx ≤ 26) : DRR (pn_0) (rowMany_0) (drawnNode_0) (row_0) := by
  first
    | assumption
    | (have h := ‹DNK _ _ _ _›
       intro z a b
       rw [h z a b]
       exact ⟨fun ⟨t, t0, t1, t2⟩ => ⟨t, t0, by have := ‹STR _ _ _ _ _›.1; omega, t2⟩, fun ⟨t, t0, t1, t2⟩ => ⟨t, t0, by omega, t2⟩⟩)
set_option maxHeartbeats 4000000 in
theorem vc_Mo_stOrder_4_6 (x1 : Int) (x2 : Int) (x3 : Int) (x4 : Int) (rowMany_0 : Int) (pt_0 : Int → Int) (ph_0 : Int → Int) (pn_0 : Int) (pm_0 : Int) (alive_0 : Int → Int) (row_0 : Int → Int) (onlyPiece_0 : Int) (drawnNode_0 : Int → Int) (drawnEdge_0 : Int → Int) (gx : Int) (k1 : 0 ≤ x1 ∧ x1 ≤ 100) (k2 : (-2) ≤ x2 ∧ x2 ≤ 26) (k3 : 0 ≤ x3 ∧ x3 ≤ 100) (k4 : 0 ≤ x4 ∧ x4 ≤ 0) (d0 : x3 + 0 ≤ x1 ∧ x1 ≤ x3 + 4294967296) (f0 : x3 ≤ x1) (g1 : x3 = rowMany_0) (f2 : GOK (pn_0) (pm_0) (pt_0) (ph_0)) (f3 : STB (pn_0) (pm_0) (pt_0) (ph_0) (alive_0)) (f4 : STR (pn_0) (rowMany_0) (pt_0) (ph_0) (row_0)) (f5 : onlyPiece_0 = (-1)) (f6 : (-1) * rowMany_0 + ((-1) * x2 + 0) ≤ (-26)) (f7 : DNK (pn_0) (drawnNode_0) (row_0) (x1)) (f8 : 1 * x1 + ((-1) * rowMany_0 + 0) ≤ 0) (f9 : (rowMany_0 + 1) ≤ pn_0) (hK_0_33 : ∀ j : Int, 0 ≤ j → j < 80 → 0 ≤ pt_0 j ∧ pt_0 j ≤ 24) (hK_0_34 : ∀ j : Int, 0 ≤ j → j < 80 → 0 ≤ ph_0 j ∧ ph_0 j ≤ 24) (hK_0_35 : ∀ j : Int, 0 ≤ j → j < 80 → 0 ≤ alive_0 j ∧ alive_0 j ≤ 1) (hK_0_42 : ∀ j : Int, 0 ≤ j → j < 26 → 0 ≤ drawnNode_0 j ∧ drawnNode_0 j ≤ 1) (hK_0_43 : ∀ j : Int, 0 ≤ j → j < 80 → 0 ≤ drawnEdge_0 j ∧ drawnEdge_0 j ≤ 1) (hK_0_117 : ∀ j : Int, 0 ≤ j → j < 100 → 0 ≤ row_0 j ∧ row_0 j ≤ 75) (kz_0_31 : 0 ≤ pn_0 ∧ pn_0 ≤ 25) (kz_0_32 : 0 ≤ pm_0 ∧ pm_0 ≤ 80) (kz_0_49 : (-1) ≤ onlyPiece_0 ∧ onlyPiece_0 ≤ 79) (kz_0_125 : 0 ≤ rowMany_0 ∧ rowMany_0 ≤ 100) (ex2 : gx = 0 + (1 * x2 + 0)) (ex3 : (-2) ≤ gx ∧ gx ≤ 26) : DEK (pt_0) (ph_0) (drawnNode_0) (drawnEdge_0) (x4) := by
  first
    | (intro j a b; exfalso; omega)
    | exact dek_step ‹DEK _ _ _ _ _› (by omega) (by assumption) (by omega) (Or.inl ⟨by omega, fun w => w.1 (by skip; omega)⟩)
    | exact dek_step ‹DEK _ _ _ _ _› (by omega) (by assumption) (by omega) (Or.inl ⟨by omega, fun w => w.2 (by skip; omega)⟩)
    | exact dek_step ‹DEK _ _ _ _ _› (by omega) (by assumption) (by omega) (Or.inr ⟨by omega, by skip; omega, by skip; omega⟩)
set_option maxHeartbeats 4000000 in
theorem vc_Mo_stOrder_4_7 (x1 : Int) (x2 : Int) (x3 : Int) (x4 : Int) (rowMany_0 : Int) (pt_0 : Int → Int) (ph_0 : Int → Int) (pn_0 : Int) (pm_0 : Int) (alive_0 : Int → Int) (row_0 : Int → Int) (onlyPiece_0 : Int) (drawnNode_0 : Int → Int) (drawnEdge_0 : Int → Int) (gx : Int) (k1 : 0 ≤ x1 ∧ x1 ≤ 100) (k2 : (-2) ≤ x2 ∧ x2 ≤ 26) (k3 : 0 ≤ x3 ∧ x3 ≤ 100) (k4 : 0 ≤ x4 ∧ x4 ≤ 0) (d0 : x3 + 0 ≤ x1 ∧ x1 ≤ x3 + 4294967296) (f0 : x3 ≤ x1) (g1 : x3 = rowMany_0) (f2 : GOK (pn_0) (pm_0) (pt_0) (ph_0)) (f3 : STB (pn_0) (pm_0) (pt_0) (ph_0) (alive_0)) (f4 : STR (pn_0) (rowMany_0) (pt_0) (ph_0) (row_0)) (f5 : onlyPiece_0 = (-1)) (f6 : (-1) * rowMany_0 + ((-1) * x2 + 0) ≤ (-26)) (f7 : DNK (pn_0) (drawnNode_0) (row_0) (x1)) (f8 : 1 * x1 + ((-1) * rowMany_0 + 0) ≤ 0) (f9 : (rowMany_0 + 1) ≤ pn_0) (hK_0_33 : ∀ j : Int, 0 ≤ j → j < 80 → 0 ≤ pt_0 j ∧ pt_0 j ≤ 24) (hK_0_34 : ∀ j : Int, 0 ≤ j → j < 80 → 0 ≤ ph_0 j ∧ ph_0 j ≤ 24) (hK_0_35 : ∀ j : Int, 0 ≤ j → j < 80 → 0 ≤ alive_0 j ∧ alive_0 j ≤ 1) (hK_0_42 : ∀ j : Int, 0 ≤ j → j < 26 → 0 ≤ drawnNode_0 j ∧ drawnNode_0 j ≤ 1) (hK_0_43 : ∀ j : Int, 0 ≤ j → j < 80 → 0 ≤ drawnEdge_0 j ∧ drawnEdge_0 j ≤ 1) (hK_0_117 : ∀ j : Int, 0 ≤ j → j < 100 → 0 ≤ row_0 j ∧ row_0 j ≤ 75) (kz_0_31 : 0 ≤ pn_0 ∧ pn_0 ≤ 25) (kz_0_32 : 0 ≤ pm_0 ∧ pm_0 ≤ 80) (kz_0_49 : (-1) ≤ onlyPiece_0 ∧ onlyPiece_0 ≤ 79) (kz_0_125 : 0 ≤ rowMany_0 ∧ rowMany_0 ≤ 100) (ex2 : gx = 0 + (1 * x2 + 0)) (ex3 : (-2) ≤ gx ∧ gx ≤ 26) : (rowMany_0 + 1) ≤ pn_0 := by
  first
    | omega
    | (have h := ‹STB _ _ _ _ _›.1.2.2; omega)
    | (have h := ‹STR _ _ _ _ _›.1; omega)
    | (have h := ‹STR _ _ _ _ _›.1
       have w := ‹STR _ _ _ _ _›.2.1 x1 (by omega) (by omega)
       omega)
    | (have h := bc_len ‹BC1 _ _ _ _ _ _ _›
       have h2 := ‹STR _ _ _ _ _›.1
       omega)
    | (have h := (sb_way ‹SB1 _ _ _ _ _ _ _ _ _ _ _ _› (by omega)).1
       have h2 := ‹STR _ _ _ _ _›.1
       omega)
    | (have h := ‹WYM _ _ _ _›.1
       have h2 := ‹STR _ _ _ _ _›.1
       omega)
def o_Mo_stOrder_4 : or_T := (98, 5, [(0, (2, 0, 0, [165])), (1, (0, 0, 100, [])), (2, (0, -2, 26, [])), (3, (0, 0, 100, [])), (4, (0, 0, 0, []))], [(7, [1, 3], [3]), (9, [3, 0], [125]), (20, [0], [60, 2, 2, 75, 31, 32, 33, 34]), (20, [0], [60, 2, 3, 297, 31, 32, 33, 34, 35]), (20, [0], [60, 2, 3, 298, 31, 125, 33, 34, 117]), (20, [0], [50, 1, 0, 49, 1, 3, 2, 0, 49, 0, -1]), (20, [0, 2], [30, -26, -1, 1, 125, -1, 0, 0]), (20, [0, 1], [60, 1, 2, 300, 31, 42, 117]), (20, [1, 0], [30, 0, 1, 0, 0, -1, 1, 125]), (20, [0], [50, 2, 0, 125, 31, 0, 7, 4, 3, 2, 0, 125, 0, 1, 2, 0, 31])], [], [(0, -2, 26, [])], [(20, [0], [60, 2, 2, 75, 31, 32, 33, 34]), (20, [0], [60, 2, 3, 297, 31, 32, 33, 34, 35]), (20, [0], [60, 2, 3, 298, 31, 125, 33, 34, 117]), (20, [0], [50, 1, 0, 49, 1, 3, 2, 0, 49, 0, -1]), (20, [0, 5], [30, -26, -1, 1, 125, -1, 0, 0]), (20, [0], [60, 2, 2, 301, 31, 125, 42, 117]), (20, [0, 4], [60, 0, 4, 302, 33, 34, 42, 43]), (20, [0], [50, 2, 0, 125, 31, 0, 7, 4, 3, 2, 0, 125, 0, 1, 2, 0, 31])], [(5, 2, 0, 0)], [(1, 3, 0, 4294967296)])
theorem oo_Mo_stOrder_4 {kA : Nat → ClassId} : or_ok PRD kA GG o_Mo_stOrder_4 := by
  refine or_mk fun A ta ws vs hD hth hl => ?_
  intro t0 r0 t1 k1 t2 k2 t3 k3 t4 k4 d0 f0 f1 f2 f3 f4 f5 f6 f7 f8 f9
  replace f0 := shm_2 f0
  replace f1 := shm_996 f1
  replace f2 := shm_575 f2
  replace f3 := shm_1749 f3
  replace f4 := shm_1001 f4
  replace f5 := shm_1675 f5
  replace f6 := shm_1750 f6
  replace f7 := shm_1753 f7
  replace f8 := shm_1754 f8
  replace f9 := shm_1752 f9
  have cr_0_33 := fdq_117 hD hth r0
  have cr_0_34 := fdq_118 hD hth r0
  have cr_0_35 := fdq_132 hD hth r0
  have cr_0_42 := fdq_136 hD hth r0
  have cr_0_43 := fdq_137 hD hth r0
  have cr_0_117 := fdq_181 hD hth r0
  have g1 : v_iv (n_v vs 3) = w_fi ws (n_v vs 0) 125 := congrArg v_iv f1
  have hK_0_33 := elq_60 hD hth cr_0_33
  have hK_0_34 := elq_61 hD hth cr_0_34
  have hK_0_35 := elq_72 hD hth cr_0_35
  have hK_0_42 := elq_75 hD hth cr_0_42
  have hK_0_43 := elq_76 hD hth cr_0_43
  have hK_0_117 := elq_108 hD hth cr_0_117
  have kz_0_31 := fdq_145 hD hth r0
  have kz_0_32 := fdq_140 hD hth r0
  have kz_0_49 := fdq_146 hD hth r0
  have kz_0_125 := fdq_182 hD hth r0
  obtain ⟨x, ex, hx⟩ := iv_ex (ta := ta) (lo := (-2)) (hi := 26) (z := 0 + (1 * v_iv (n_v vs 2) + 0)) (by omega) (by omega) (by omega) (by omega)
  have ex2 : v_iv (Value.int x) = 0 + (1 * v_iv (n_v vs 2) + 0) := ex
  have ex3 : (-2) ≤ v_iv (Value.int x) ∧ v_iv (Value.int x) ≤ 26 := tv_rng hx
  have e_0 : n_v (vs ++ [Value.int x]) 0 = n_v vs 0 := n_v_old (by rw [hl]; decide)
  have e_4 : n_v (vs ++ [Value.int x]) 4 = n_v vs 4 := n_v_old (by rw [hl]; decide)
  have e_5 : n_v (vs ++ [Value.int x]) 5 = Value.int x := n_v_new hl
  have nf0 : fc_1 PRD (20, [0], [60, 2, 2, 75, 31, 32, 33, 34]) ws (vs ++ [Value.int x]) := by
    refine ⟨nf_inA hl rfl, sgq_575 ?_⟩
    · show GOK (w_fi ws (n_v (vs ++ [Value.int x]) 0) 31) (w_fi ws (n_v (vs ++ [Value.int x]) 0) 32) (w_ei ws (w_ar ws (n_v (vs ++ [Value.int x]) 0) 33)) (w_ei ws (w_ar ws (n_v (vs ++ [Value.int x]) 0) 34))
      rw [e_0]
      exact vc_Mo_stOrder_4_0 (v_iv (n_v vs 1)) (v_iv (n_v vs 2)) (v_iv (n_v vs 3)) (v_iv (n_v vs 4)) (w_fi ws (n_v vs 0) 125) (w_ei ws (w_ar ws (n_v vs 0) 33)) (w_ei ws (w_ar ws (n_v vs 0) 34)) (w_fi ws (n_v vs 0) 31) (w_fi ws (n_v vs 0) 32) (w_ei ws (w_ar ws (n_v vs 0) 35)) (w_ei ws (w_ar ws (n_v vs 0) 117)) (w_fi ws (n_v vs 0) 49) (w_ei ws (w_ar ws (n_v vs 0) 42)) (w_ei ws (w_ar ws (n_v vs 0) 43)) (v_iv (Value.int x)) k1 k2 k3 k4 d0 f0 g1 f2 f3 f4 f5 f6 f7 f8 f9 hK_0_33 hK_0_34 hK_0_35 hK_0_42 hK_0_43 hK_0_117 kz_0_31 kz_0_32 kz_0_49 kz_0_125 ex2 ex3
  have nf1 : fc_1 PRD (20, [0], [60, 2, 3, 297, 31, 32, 33, 34, 35]) ws (vs ++ [Value.int x]) := by
    refine ⟨nf_inA hl rfl, sgq_1749 ?_⟩
    · show STB (w_fi ws (n_v (vs ++ [Value.int x]) 0) 31) (w_fi ws (n_v (vs ++ [Value.int x]) 0) 32) (w_ei ws (w_ar ws (n_v (vs ++ [Value.int x]) 0) 33)) (w_ei ws (w_ar ws (n_v (vs ++ [Value.int x]) 0) 34)) (w_ei ws (w_ar ws (n_v (vs ++ [Value.int x]) 0) 35))
      rw [e_0]
      exact vc_Mo_stOrder_4_1 (v_iv (n_v vs 1)) (v_iv (n_v vs 2)) (v_iv (n_v vs 3)) (v_iv (n_v vs 4)) (w_fi ws (n_v vs 0) 125) (w_ei ws (w_ar ws (n_v vs 0) 33)) (w_ei ws (w_ar ws (n_v vs 0) 34)) (w_fi ws (n_v vs 0) 31) (w_fi ws (n_v vs 0) 32) (w_ei ws (w_ar ws (n_v vs 0) 35)) (w_ei ws (w_ar ws (n_v vs 0) 117)) (w_fi ws (n_v vs 0) 49) (w_ei ws (w_ar ws (n_v vs 0) 42)) (w_ei ws (w_ar ws (n_v vs 0) 43)) (v_iv (Value.int x)) k1 k2 k3 k4 d0 f0 g1 f2 f3 f4 f5 f6 f7 f8 f9 hK_0_33 hK_0_34 hK_0_35 hK_0_42 hK_0_43 hK_0_117 kz_0_31 kz_0_32 kz_0_49 kz_0_125 ex2 ex3
  have nf2 : fc_1 PRD (20, [0], [60, 2, 3, 298, 31, 125, 33, 34, 117]) ws (vs ++ [Value.int x]) := by
    refine ⟨nf_inA hl rfl, sgq_1001 ?_⟩
    · show STR (w_fi ws (n_v (vs ++ [Value.int x]) 0) 31) (w_fi ws (n_v (vs ++ [Value.int x]) 0) 125) (w_ei ws (w_ar ws (n_v (vs ++ [Value.int x]) 0) 33)) (w_ei ws (w_ar ws (n_v (vs ++ [Value.int x]) 0) 34)) (w_ei ws (w_ar ws (n_v (vs ++ [Value.int x]) 0) 117))
      rw [e_0]
      exact vc_Mo_stOrder_4_2 (v_iv (n_v vs 1)) (v_iv (n_v vs 2)) (v_iv (n_v vs 3)) (v_iv (n_v vs 4)) (w_fi ws (n_v vs 0) 125) (w_ei ws (w_ar ws (n_v vs 0) 33)) (w_ei ws (w_ar ws (n_v vs 0) 34)) (w_fi ws (n_v vs 0) 31) (w_fi ws (n_v vs 0) 32) (w_ei ws (w_ar ws (n_v vs 0) 35)) (w_ei ws (w_ar ws (n_v vs 0) 117)) (w_fi ws (n_v vs 0) 49) (w_ei ws (w_ar ws (n_v vs 0) 42)) (w_ei ws (w_ar ws (n_v vs 0) 43)) (v_iv (Value.int x)) k1 k2 k3 k4 d0 f0 g1 f2 f3 f4 f5 f6 f7 f8 f9 hK_0_33 hK_0_34 hK_0_35 hK_0_42 hK_0_43 hK_0_117 kz_0_31 kz_0_32 kz_0_49 kz_0_125 ex2 ex3
  have nf3 : fc_1 PRD (20, [0], [50, 1, 0, 49, 1, 3, 2, 0, 49, 0, -1]) ws (vs ++ [Value.int x]) := by
    refine ⟨nf_inA hl rfl, sgq_1675 ?_⟩
    · show w_fi ws (n_v (vs ++ [Value.int x]) 0) 49 = (-1)
      rw [e_0]
      exact vc_Mo_stOrder_4_3 (v_iv (n_v vs 1)) (v_iv (n_v vs 2)) (v_iv (n_v vs 3)) (v_iv (n_v vs 4)) (w_fi ws (n_v vs 0) 125) (w_ei ws (w_ar ws (n_v vs 0) 33)) (w_ei ws (w_ar ws (n_v vs 0) 34)) (w_fi ws (n_v vs 0) 31) (w_fi ws (n_v vs 0) 32) (w_ei ws (w_ar ws (n_v vs 0) 35)) (w_ei ws (w_ar ws (n_v vs 0) 117)) (w_fi ws (n_v vs 0) 49) (w_ei ws (w_ar ws (n_v vs 0) 42)) (w_ei ws (w_ar ws (n_v vs 0) 43)) (v_iv (Value.int x)) k1 k2 k3 k4 d0 f0 g1 f2 f3 f4 f5 f6 f7 f8 f9 hK_0_33 hK_0_34 hK_0_35 hK_0_42 hK_0_43 hK_0_117 kz_0_31 kz_0_32 kz_0_49 kz_0_125 ex2 ex3
  have nf4 : fc_1 PRD (20, [0, 5], [30, -26, -1, 1, 125, -1, 0, 0]) ws (vs ++ [Value.int x]) := by
    refine ⟨nf_inA hl rfl, sgq_1750 ?_⟩
    · show (-1) * w_fi ws (n_v (vs ++ [Value.int x]) 0) 125 + ((-1) * v_iv (n_v (vs ++ [Value.int x]) 5) + 0) ≤ (-26)
      simp only [e_0, e_5]
      exact vc_Mo_stOrder_4_4 (v_iv (n_v vs 1)) (v_iv (n_v vs 2)) (v_iv (n_v vs 3)) (v_iv (n_v vs 4)) (w_fi ws (n_v vs 0) 125) (w_ei ws (w_ar ws (n_v vs 0) 33)) (w_ei ws (w_ar ws (n_v vs 0) 34)) (w_fi ws (n_v vs 0) 31) (w_fi ws (n_v vs 0) 32) (w_ei ws (w_ar ws (n_v vs 0) 35)) (w_ei ws (w_ar ws (n_v vs 0) 117)) (w_fi ws (n_v vs 0) 49) (w_ei ws (w_ar ws (n_v vs 0) 42)) (w_ei ws (w_ar ws (n_v vs 0) 43)) (v_iv (Value.int x)) k1 k2 k3 k4 d0 f0 g1 f2 f3 f4 f5 f6 f7 f8 f9 hK_0_33 hK_0_34 hK_0_35 hK_0_42 hK_0_43 hK_0_117 kz_0_31 kz_0_32 kz_0_49 kz_0_125 ex2 ex3
  have nf5 : fc_1 PRD (20, [0], [60, 2, 2, 301, 31, 125, 42, 117]) ws (vs ++ [Value.int x]) := by
    refine ⟨nf_inA hl rfl, sgq_1755 ?_⟩
    · show DRR (w_fi ws (n_v (vs ++ [Value.int x]) 0) 31) (w_fi ws (n_v (vs ++ [Value.int x]) 0) 125) (w_ei ws (w_ar ws (n_v (vs ++ [Value.int x]) 0) 42)) (w_ei ws (w_ar ws (n_v (vs ++ [Value.int x]) 0) 117))
      rw [e_0]
      exact vc_Mo_stOrder_4_5 (v_iv (n_v vs 1)) (v_iv (n_v vs 2)) (v_iv (n_v vs 3)) (v_iv (n_v vs 4)) (w_fi ws (n_v vs 0) 125) (w_ei ws (w_ar ws (n_v vs 0) 33)) (w_ei ws (w_ar ws (n_v vs 0) 34)) (w_fi ws (n_v vs 0) 31) (w_fi ws (n_v vs 0) 32) (w_ei ws (w_ar ws (n_v vs 0) 35)) (w_ei ws (w_ar ws (n_v vs 0) 117)) (w_fi ws (n_v vs 0) 49) (w_ei ws (w_ar ws (n_v vs 0) 42)) (w_ei ws (w_ar ws (n_v vs 0) 43)) (v_iv (Value.int x)) k1 k2 k3 k4 d0 f0 g1 f2 f3 f4 f5 f6 f7 f8 f9 hK_0_33 hK_0_34 hK_0_35 hK_0_42 hK_0_43 hK_0_117 kz_0_31 kz_0_32 kz_0_49 kz_0_125 ex2 ex3
  have nf6 : fc_1 PRD (20, [0, 4], [60, 0, 4, 302, 33, 34, 42, 43]) ws (vs ++ [Value.int x]) := by
    refine ⟨nf_inA hl rfl, sgq_1756 ?_⟩
    · show DEK (w_ei ws (w_ar ws (n_v (vs ++ [Value.int x]) 0) 33)) (w_ei ws (w_ar ws (n_v (vs ++ [Value.int x]) 0) 34)) (w_ei ws (w_ar ws (n_v (vs ++ [Value.int x]) 0) 42)) (w_ei ws (w_ar ws (n_v (vs ++ [Value.int x]) 0) 43)) (v_iv (n_v (vs ++ [Value.int x]) 4))
      simp only [e_0, e_4]
      exact vc_Mo_stOrder_4_6 (v_iv (n_v vs 1)) (v_iv (n_v vs 2)) (v_iv (n_v vs 3)) (v_iv (n_v vs 4)) (w_fi ws (n_v vs 0) 125) (w_ei ws (w_ar ws (n_v vs 0) 33)) (w_ei ws (w_ar ws (n_v vs 0) 34)) (w_fi ws (n_v vs 0) 31) (w_fi ws (n_v vs 0) 32) (w_ei ws (w_ar ws (n_v vs 0) 35)) (w_ei ws (w_ar ws (n_v vs 0) 117)) (w_fi ws (n_v vs 0) 49) (w_ei ws (w_ar ws (n_v vs 0) 42)) (w_ei ws (w_ar ws (n_v vs 0) 43)) (v_iv (Value.int x)) k1 k2 k3 k4 d0 f0 g1 f2 f3 f4 f5 f6 f7 f8 f9 hK_0_33 hK_0_34 hK_0_35 hK_0_42 hK_0_43 hK_0_117 kz_0_31 kz_0_32 kz_0_49 kz_0_125 ex2 ex3
  have nf7 : fc_1 PRD (20, [0], [50, 2, 0, 125, 31, 0, 7, 4, 3, 2, 0, 125, 0, 1, 2, 0, 31]) ws (vs ++ [Value.int x]) := by
    refine ⟨nf_inA hl rfl, sgq_1752 ?_⟩
    · show (w_fi ws (n_v (vs ++ [Value.int x]) 0) 125 + 1) ≤ w_fi ws (n_v (vs ++ [Value.int x]) 0) 31
      rw [e_0]
      exact vc_Mo_stOrder_4_7 (v_iv (n_v vs 1)) (v_iv (n_v vs 2)) (v_iv (n_v vs 3)) (v_iv (n_v vs 4)) (w_fi ws (n_v vs 0) 125) (w_ei ws (w_ar ws (n_v vs 0) 33)) (w_ei ws (w_ar ws (n_v vs 0) 34)) (w_fi ws (n_v vs 0) 31) (w_fi ws (n_v vs 0) 32) (w_ei ws (w_ar ws (n_v vs 0) 35)) (w_ei ws (w_ar ws (n_v vs 0) 117)) (w_fi ws (n_v vs 0) 49) (w_ei ws (w_ar ws (n_v vs 0) 42)) (w_ei ws (w_ar ws (n_v vs 0) 43)) (v_iv (Value.int x)) k1 k2 k3 k4 d0 f0 g1 f2 f3 f4 f5 f6 f7 f8 f9 hK_0_33 hK_0_34 hK_0_35 hK_0_42 hK_0_43 hK_0_117 kz_0_31 kz_0_32 kz_0_49 kz_0_125 ex2 ex3
  obtain ⟨x0, e0, _, _⟩ := tv_int t2 rfl
  have e1 : v_iv (n_v vs 2) = x0.toInt := by rw [e0]; rfl
  have ho : sy_ofs (vs ++ [Value.int x]) (5, 2, 0, 0) := by
    refine ⟨x, x0, by rw [List.getElem?_append_right (by rw [hl]; decide), hl]; rfl, ?_, ?_, ?_⟩
    · rw [List.getElem?_append_left (by rw [hl]; decide)]; exact n_v_some (by rw [hl]; decide) e0
    · show x0.toInt + 0 ≤ x.toInt; omega
    · show x.toInt ≤ x0.toInt + 0; omega
  exact ⟨(fun _ h => (by cases h)), [Value.int x], ag_one hx, List.forall_mem_cons.mpr ⟨⟨show (20 : Nat) < 100 from by decide, nf0⟩, List.forall_mem_cons.mpr ⟨⟨show (20 : Nat) < 100 from by decide, nf1⟩, List.forall_mem_cons.mpr ⟨⟨show (20 : Nat) < 100 from by decide, nf2⟩, List.forall_mem_cons.mpr ⟨⟨show (20 : Nat) < 100 from by decide, nf3⟩, List.forall_mem_cons.mpr ⟨⟨show (20 : Nat) < 100 from by decide, nf4⟩, List.forall_mem_cons.mpr ⟨⟨show (20 : Nat) < 100 from by decide, nf5⟩, List.forall_mem_cons.mpr ⟨⟨show (20 : Nat) < 100 from by decide, nf6⟩, List.forall_mem_cons.mpr ⟨⟨show (20 : Nat) < 100 from by decide, nf7⟩, (fun _ h => (by cases h))⟩⟩⟩⟩⟩⟩⟩⟩, List.forall_mem_cons.mpr ⟨ho, (fun _ h => (by cases h))⟩⟩
set_option maxHeartbeats 4000000 in
theorem vc_Mo_stOrder_5_r0 (x1 : Int) (x2 : Int) (x3 : Int) (x6 : Int) (row_0 : Int → Int) (rowMany_0 : Int) (pt_0 : Int → Int) (ph_0 : Int → Int) (pn_0 : Int) (pm_0 : Int) (alive_0 : Int → Int) (onlyPiece_0 : Int) (drawnNode_0 : Int → Int) (k1 : 0 ≤ x1 ∧ x1 ≤ 99) (k2 : (-2) ≤ x2 ∧ x2 ≤ 26) (k3 : 1 ≤ x3 ∧ x3 ≤ 100) (k6 : 0 ≤ x6 ∧ x6 ≤ 75) (d0 : x3 + (-4294967296) ≤ x1 ∧ x1 ≤ x3 + (-1)) (h0 : x6 = row_0 (x1)) (f3 : x1 < x3) (g4 : x3 = rowMany_0) (f5 : GOK (pn_0) (pm_0) (pt_0) (ph_0)) (f6 : STB (pn_0) (pm_0) (pt_0) (ph_0) (alive_0)) (f7 : STR (pn_0) (rowMany_0) (pt_0) (ph_0) (row_0)) (f8 : onlyPiece_0 = (-1)) (f9 : (-1) * rowMany_0 + ((-1) * x2 + 0) ≤ (-26)) (f10 : DNK (pn_0) (drawnNode_0) (row_0) (x1)) (f11 : 1 * x1 + ((-1) * rowMany_0 + 0) ≤ 0) (f12 : (rowMany_0 + 1) ≤ pn_0) (hK_0_33 : ∀ j : Int, 0 ≤ j → j < 80 → 0 ≤ pt_0 j ∧ pt_0 j ≤ 24) (hK_0_34 : ∀ j : Int, 0 ≤ j → j < 80 → 0 ≤ ph_0 j ∧ ph_0 j ≤ 24) (hK_0_35 : ∀ j : Int, 0 ≤ j → j < 80 → 0 ≤ alive_0 j ∧ alive_0 j ≤ 1) (hK_0_42 : ∀ j : Int, 0 ≤ j → j < 26 → 0 ≤ drawnNode_0 j ∧ drawnNode_0 j ≤ 1) (hK_0_117 : ∀ j : Int, 0 ≤ j → j < 100 → 0 ≤ row_0 j ∧ row_0 j ≤ 75) (kz_0_31 : 0 ≤ pn_0 ∧ pn_0 ≤ 25) (kz_0_32 : 0 ≤ pm_0 ∧ pm_0 ≤ 80) (kz_0_49 : (-1) ≤ onlyPiece_0 ∧ onlyPiece_0 ≤ 79) (kz_0_125 : 0 ≤ rowMany_0 ∧ rowMany_0 ≤ 100) : 0 ≤ x6 ∧ x6 ≤ 24 := by
  first
    | omega
    | (have h := ‹STB _ _ _ _ _›.1.2.2; omega)
    | (have h := ‹STR _ _ _ _ _›.1; omega)
    | (have h := ‹STR _ _ _ _ _›.1
       have w := ‹STR _ _ _ _ _›.2.1 x1 (by omega) (by omega)
       omega)
    | (have h := bc_len ‹BC1 _ _ _ _ _ _ _›
       have h2 := ‹STR _ _ _ _ _›.1
       omega)
    | (have h := (sb_way ‹SB1 _ _ _ _ _ _ _ _ _ _ _ _› (by omega)).1
       have h2 := ‹STR _ _ _ _ _›.1
       omega)
    | (have h := ‹WYM _ _ _ _›.1
       have h2 := ‹STR _ _ _ _ _›.1
       omega)
def o_Mo_stOrder_5 : or_T := (89, 8, [(0, (2, 0, 0, [165])), (1, (0, 0, 99, [])), (2, (0, -2, 26, [])), (3, (0, 1, 100, [])), (4, (2, 0, 0, [188])), (5, (2, 0, 0, [249])), (6, (0, 0, 75, []))], [(10, [6, 5, 1], []), (9, [5, 0], [117]), (9, [4, 0], [42]), (7, [1, 3], [2]), (9, [3, 0], [125]), (20, [0], [60, 2, 2, 75, 31, 32, 33, 34]), (20, [0], [60, 2, 3, 297, 31, 32, 33, 34, 35]), (20, [0], [60, 2, 3, 298, 31, 125, 33, 34, 117]), (20, [0], [50, 1, 0, 49, 1, 3, 2, 0, 49, 0, -1]), (20, [0, 2], [30, -26, -1, 1, 125, -1, 0, 0]), (20, [0, 1], [60, 1, 2, 300, 31, 42, 117]), (20, [1, 0], [30, 0, 1, 0, 0, -1, 1, 125]), (20, [0], [50, 2, 0, 125, 31, 0, 7, 4, 3, 2, 0, 125, 0, 1, 2, 0, 31])], [(6, (0, 0, 24, []))], [], [], [], [(1, 3, -4294967296, -1)])
theorem oo_Mo_stOrder_5 {kA : Nat → ClassId} : or_ok PRD kA GG o_Mo_stOrder_5 := by
  refine or_mk fun A ta ws vs hD hth hl => ?_
  intro t0 r0 t1 k1 t2 k2 t3 k3 t4 r4 t5 r5 t6 k6 d0 f0 f1 f2 f3 f4 f5 f6 f7 f8 f9 f10 f11 f12
  replace f0 := shm_107 f0
  replace f1 := shm_713 f1
  replace f4 := shm_996 f4
  have cr_0_33 := fdq_117 hD hth r0
  have cr_0_34 := fdq_118 hD hth r0
  have cr_0_35 := fdq_132 hD hth r0
  have cr_0_42 := fdq_136 hD hth r0
  have cr_0_117 := fdq_181 hD hth r0
  have ad_5 : v_ad (n_v vs 5) = w_ar ws (n_v vs 0) 117 := congrArg v_ad f1
  simp only [ad_5] at f0
  have h0 : v_iv (n_v vs 6) = w_ei ws (w_ar ws (n_v vs 0) 117) (v_iv (n_v vs 1)) := f0
  have g4 : v_iv (n_v vs 3) = w_fi ws (n_v vs 0) 125 := congrArg v_iv f4
  have hK_0_33 := elq_60 hD hth cr_0_33
  have hK_0_34 := elq_61 hD hth cr_0_34
  have hK_0_35 := elq_72 hD hth cr_0_35
  have hK_0_42 := elq_75 hD hth cr_0_42
  have hK_0_117 := elq_108 hD hth cr_0_117
  have kz_0_31 := fdq_145 hD hth r0
  have kz_0_32 := fdq_140 hD hth r0
  have kz_0_49 := fdq_146 hD hth r0
  have kz_0_125 := fdq_182 hD hth r0
  have hrf0 : 0 ≤ v_iv (n_v vs 6) ∧ v_iv (n_v vs 6) ≤ 24 := vc_Mo_stOrder_5_r0 (v_iv (n_v vs 1)) (v_iv (n_v vs 2)) (v_iv (n_v vs 3)) (v_iv (n_v vs 6)) (w_ei ws (w_ar ws (n_v vs 0) 117)) (w_fi ws (n_v vs 0) 125) (w_ei ws (w_ar ws (n_v vs 0) 33)) (w_ei ws (w_ar ws (n_v vs 0) 34)) (w_fi ws (n_v vs 0) 31) (w_fi ws (n_v vs 0) 32) (w_ei ws (w_ar ws (n_v vs 0) 35)) (w_fi ws (n_v vs 0) 49) (w_ei ws (w_ar ws (n_v vs 0) 42)) k1 k2 k3 k6 d0 h0 (shm_6 f3) g4 (shm_575 f5) (shm_1749 f6) (shm_1001 f7) (shm_1675 f8) (shm_1750 f9) (shm_1753 f10) (shm_1754 f11) (shm_1752 f12) hK_0_33 hK_0_34 hK_0_35 hK_0_42 hK_0_117 kz_0_31 kz_0_32 kz_0_49 kz_0_125
  have rf6 : tv_ok ta (0, 0, 24, []) (n_v vs 6) := tv_in t6 (by first | omega | grind) (by first | omega | grind)
  refine ⟨List.forall_mem_cons.mpr ⟨rf6, (fun _ h => (by cases h))⟩, [], trivial, ?_, (fun _ h => (by cases h))⟩
  rw [List.append_nil]
  exact (fun _ h => (by cases h))
set_option maxHeartbeats 4000000 in
theorem vc_Mo_stOrder_6_0 (x1 : Int) (x2 : Int) (x3 : Int) (x6 : Int) (x7 : Int) (x8 : Int) (pt_0 : Int → Int) (ph_0 : Int → Int) (pn_0 : Int) (pm_0 : Int) (alive_0 : Int → Int) (row_0 : Int → Int) (rowMany_0 : Int) (onlyPiece_0 : Int) (row_1 : Int → Int) (rowMany_1 : Int) (pt_1 : Int → Int) (ph_1 : Int → Int) (pn_1 : Int) (pm_1 : Int) (alive_1 : Int → Int) (onlyPiece_1 : Int) (drawnNode_1 : Int → Int) (drawnNode_0 : Int → Int) (k1 : 0 ≤ x1 ∧ x1 ≤ 99) (k2 : (-2) ≤ x2 ∧ x2 ≤ 26) (k3 : 1 ≤ x3 ∧ x3 ≤ 100) (k6 : 0 ≤ x6 ∧ x6 ≤ 24) (k7 : 1 ≤ x7 ∧ x7 ≤ 1) (k8 : 1 ≤ x8 ∧ x8 ≤ 100) (d0 : x1 + 1 ≤ x8 ∧ x8 ≤ x1 + 1) (d1 : x3 + (-4294967296) ≤ x8 ∧ x8 ≤ x3 + 0) (d2 : x3 + (-4294967296) ≤ x1 ∧ x1 ≤ x3 + (-1)) (f0 : x8 = x1 + 1) (f1 : GOK (pn_0) (pm_0) (pt_0) (ph_0)) (f2 : STB (pn_0) (pm_0) (pt_0) (ph_0) (alive_0)) (f3 : STR (pn_0) (rowMany_0) (pt_0) (ph_0) (row_0)) (f4 : onlyPiece_0 = (-1)) (f5 : (-1) * rowMany_0 + ((-1) * x2 + 0) ≤ (-26)) (f6 : 1 * x1 + ((-1) * rowMany_0 + 0) ≤ 0) (f7 : (rowMany_0 + 1) ≤ pn_0) (h9 : x6 = row_1 (x1)) (f12 : x1 < x3) (g13 : x3 = rowMany_1) (f14 : GOK (pn_1) (pm_1) (pt_1) (ph_1)) (f15 : STB (pn_1) (pm_1) (pt_1) (ph_1) (alive_1)) (f16 : STR (pn_1) (rowMany_1) (pt_1) (ph_1) (row_1)) (f17 : onlyPiece_1 = (-1)) (f18 : (-1) * rowMany_1 + ((-1) * x2 + 0) ≤ (-26)) (f19 : DNK (pn_1) (drawnNode_1) (row_1) (x1)) (f20 : 1 * x1 + ((-1) * rowMany_1 + 0) ≤ 0) (f21 : (rowMany_1 + 1) ≤ pn_1) (fe_0_31_1 : pn_0 = pn_1) (fe_0_32_1 : pm_0 = pm_1) (fe_0_49_1 : onlyPiece_0 = onlyPiece_1) (fe_0_125_1 : rowMany_0 = rowMany_1) (hE_0_33_1 : ∀ j : Int, pt_0 j = pt_1 j) (hK_0_33 : ∀ j : Int, 0 ≤ j → j < 80 → 0 ≤ pt_0 j ∧ pt_0 j ≤ 24) (hE_0_34_1 : ∀ j : Int, ph_0 j = ph_1 j) (hK_0_34 : ∀ j : Int, 0 ≤ j → j < 80 → 0 ≤ ph_0 j ∧ ph_0 j ≤ 24) (hE_0_35_1 : ∀ j : Int, alive_0 j = alive_1 j) (hK_0_35 : ∀ j : Int, 0 ≤ j → j < 80 → 0 ≤ alive_0 j ∧ alive_0 j ≤ 1) (hE_0_42_1 : ∀ j : Int, 0 ≤ j → (j = x6 → drawnNode_0 j = x7) ∧ (j ≠ x6 → drawnNode_0 j = drawnNode_1 j)) (hK_0_42 : ∀ j : Int, 0 ≤ j → j < 26 → 0 ≤ drawnNode_0 j ∧ drawnNode_0 j ≤ 1) (hE_0_117_1 : ∀ j : Int, row_0 j = row_1 j) (hK_0_117 : ∀ j : Int, 0 ≤ j → j < 100 → 0 ≤ row_0 j ∧ row_0 j ≤ 75) (kz_0_31 : 0 ≤ pn_0 ∧ pn_0 ≤ 25) (kz_0_32 : 0 ≤ pm_0 ∧ pm_0 ≤ 80) (kz_0_49 : (-1) ≤ onlyPiece_0 ∧ onlyPiece_0 ≤ 79) (kz_0_125 : 0 ≤ rowMany_0 ∧ rowMany_0 ≤ 100) : DNK (pn_0) (drawnNode_0) (row_0) (x8) := by
  subst fe_0_31_1
  subst fe_0_32_1
  subst fe_0_49_1
  subst fe_0_125_1
  have e_hE_0_33_1 := funext hE_0_33_1; subst e_hE_0_33_1
  have e_hE_0_34_1 := funext hE_0_34_1; subst e_hE_0_34_1
  have e_hE_0_35_1 := funext hE_0_35_1; subst e_hE_0_35_1
  have e_hE_0_117_1 := funext hE_0_117_1; subst e_hE_0_117_1
  first
    | exact dnk_start ‹ZN _ _› (by omega) (by omega)
    | exact dnk_step ‹DNK _ _ _ _› (by omega) (by omega) (by assumption) (by omega) (by omega)
set_option maxHeartbeats 4000000 in
theorem vc_Mo_stOrder_6_1 (x1 : Int) (x2 : Int) (x3 : Int) (x6 : Int) (x7 : Int) (x8 : Int) (pt_0 : Int → Int) (ph_0 : Int → Int) (pn_0 : Int) (pm_0 : Int) (alive_0 : Int → Int) (row_0 : Int → Int) (rowMany_0 : Int) (onlyPiece_0 : Int) (row_1 : Int → Int) (rowMany_1 : Int) (pt_1 : Int → Int) (ph_1 : Int → Int) (pn_1 : Int) (pm_1 : Int) (alive_1 : Int → Int) (onlyPiece_1 : Int) (drawnNode_1 : Int → Int) (drawnNode_0 : Int → Int) (k1 : 0 ≤ x1 ∧ x1 ≤ 99) (k2 : (-2) ≤ x2 ∧ x2 ≤ 26) (k3 : 1 ≤ x3 ∧ x3 ≤ 100) (k6 : 0 ≤ x6 ∧ x6 ≤ 24) (k7 : 1 ≤ x7 ∧ x7 ≤ 1) (k8 : 1 ≤ x8 ∧ x8 ≤ 100) (d0 : x1 + 1 ≤ x8 ∧ x8 ≤ x1 + 1) (d1 : x3 + (-4294967296) ≤ x8 ∧ x8 ≤ x3 + 0) (d2 : x3 + (-4294967296) ≤ x1 ∧ x1 ≤ x3 + (-1)) (f0 : x8 = x1 + 1) (f1 : GOK (pn_0) (pm_0) (pt_0) (ph_0)) (f2 : STB (pn_0) (pm_0) (pt_0) (ph_0) (alive_0)) (f3 : STR (pn_0) (rowMany_0) (pt_0) (ph_0) (row_0)) (f4 : onlyPiece_0 = (-1)) (f5 : (-1) * rowMany_0 + ((-1) * x2 + 0) ≤ (-26)) (f6 : 1 * x1 + ((-1) * rowMany_0 + 0) ≤ 0) (f7 : (rowMany_0 + 1) ≤ pn_0) (h9 : x6 = row_1 (x1)) (f12 : x1 < x3) (g13 : x3 = rowMany_1) (f14 : GOK (pn_1) (pm_1) (pt_1) (ph_1)) (f15 : STB (pn_1) (pm_1) (pt_1) (ph_1) (alive_1)) (f16 : STR (pn_1) (rowMany_1) (pt_1) (ph_1) (row_1)) (f17 : onlyPiece_1 = (-1)) (f18 : (-1) * rowMany_1 + ((-1) * x2 + 0) ≤ (-26)) (f19 : DNK (pn_1) (drawnNode_1) (row_1) (x1)) (f20 : 1 * x1 + ((-1) * rowMany_1 + 0) ≤ 0) (f21 : (rowMany_1 + 1) ≤ pn_1) (fe_0_31_1 : pn_0 = pn_1) (fe_0_32_1 : pm_0 = pm_1) (fe_0_49_1 : onlyPiece_0 = onlyPiece_1) (fe_0_125_1 : rowMany_0 = rowMany_1) (hE_0_33_1 : ∀ j : Int, pt_0 j = pt_1 j) (hK_0_33 : ∀ j : Int, 0 ≤ j → j < 80 → 0 ≤ pt_0 j ∧ pt_0 j ≤ 24) (hE_0_34_1 : ∀ j : Int, ph_0 j = ph_1 j) (hK_0_34 : ∀ j : Int, 0 ≤ j → j < 80 → 0 ≤ ph_0 j ∧ ph_0 j ≤ 24) (hE_0_35_1 : ∀ j : Int, alive_0 j = alive_1 j) (hK_0_35 : ∀ j : Int, 0 ≤ j → j < 80 → 0 ≤ alive_0 j ∧ alive_0 j ≤ 1) (hE_0_42_1 : ∀ j : Int, 0 ≤ j → (j = x6 → drawnNode_0 j = x7) ∧ (j ≠ x6 → drawnNode_0 j = drawnNode_1 j)) (hK_0_42 : ∀ j : Int, 0 ≤ j → j < 26 → 0 ≤ drawnNode_0 j ∧ drawnNode_0 j ≤ 1) (hE_0_117_1 : ∀ j : Int, row_0 j = row_1 j) (hK_0_117 : ∀ j : Int, 0 ≤ j → j < 100 → 0 ≤ row_0 j ∧ row_0 j ≤ 75) (kz_0_31 : 0 ≤ pn_0 ∧ pn_0 ≤ 25) (kz_0_32 : 0 ≤ pm_0 ∧ pm_0 ≤ 80) (kz_0_49 : (-1) ≤ onlyPiece_0 ∧ onlyPiece_0 ≤ 79) (kz_0_125 : 0 ≤ rowMany_0 ∧ rowMany_0 ≤ 100) : 1 * x8 + ((-1) * rowMany_0 + 0) ≤ 0 := by
  subst fe_0_31_1
  subst fe_0_32_1
  subst fe_0_49_1
  subst fe_0_125_1
  have e_hE_0_33_1 := funext hE_0_33_1; subst e_hE_0_33_1
  have e_hE_0_34_1 := funext hE_0_34_1; subst e_hE_0_34_1
  have e_hE_0_35_1 := funext hE_0_35_1; subst e_hE_0_35_1
  have e_hE_0_117_1 := funext hE_0_117_1; subst e_hE_0_117_1
  first
    | omega
    | (have h := ‹STB _ _ _ _ _›.1.2.2; omega)
    | (have h := ‹STR _ _ _ _ _›.1; omega)
    | (have h := ‹STR _ _ _ _ _›.1
       have w := ‹STR _ _ _ _ _›.2.1 x1 (by omega) (by omega)
       omega)
    | (have h := bc_len ‹BC1 _ _ _ _ _ _ _›
       have h2 := ‹STR _ _ _ _ _›.1
       omega)
    | (have h := (sb_way ‹SB1 _ _ _ _ _ _ _ _ _ _ _ _› (by omega)).1
       have h2 := ‹STR _ _ _ _ _›.1
       omega)
    | (have h := ‹WYM _ _ _ _›.1
       have h2 := ‹STR _ _ _ _ _›.1
       omega)
def o_Mo_stOrder_6 : or_T := (70, 9, [(0, (2, 0, 0, [165])), (1, (0, 0, 99, [])), (2, (0, -2, 26, [])), (3, (0, 1, 100, [])), (4, (2, 0, 0, [188])), (6, (0, 0, 24, [])), (7, (0, 1, 1, [])), (8, (0, 1, 100, []))], [(6, [8, 1], [1]), (20, [0], [60, 2, 2, 75, 31, 32, 33, 34]), (20, [0], [60, 2, 3, 297, 31, 32, 33, 34, 35]), (20, [0], [60, 2, 3, 298, 31, 125, 33, 34, 117]), (20, [0], [50, 1, 0, 49, 1, 3, 2, 0, 49, 0, -1]), (20, [0, 2], [30, -26, -1, 1, 125, -1, 0, 0]), (20, [1, 0], [30, 0, 1, 0, 0, -1, 1, 125]), (20, [0], [50, 2, 0, 125, 31, 0, 7, 4, 3, 2, 0, 125, 0, 1, 2, 0, 31]), (100, [4, 6, 7], []), (10, [6, 5, 1], []), (9, [5, 0], [117]), (9, [4, 0], [42]), (7, [1, 3], [2]), (9, [3, 0], [125]), (20, [0], [60, 2, 2, 75, 31, 32, 33, 34]), (20, [0], [60, 2, 3, 297, 31, 32, 33, 34, 35]), (20, [0], [60, 2, 3, 298, 31, 125, 33, 34, 117]), (20, [0], [50, 1, 0, 49, 1, 3, 2, 0, 49, 0, -1]), (20, [0, 2], [30, -26, -1, 1, 125, -1, 0, 0]), (20, [0, 1], [60, 1, 2, 300, 31, 42, 117]), (20, [1, 0], [30, 0, 1, 0, 0, -1, 1, 125]), (20, [0], [50, 2, 0, 125, 31, 0, 7, 4, 3, 2, 0, 125, 0, 1, 2, 0, 31])], [], [], [(20, [0, 8], [60, 1, 2, 300, 31, 42, 117]), (20, [8, 0], [30, 0, 1, 0, 0, -1, 1, 125])], [], [(8, 1, 1, 1), (8, 3, -4294967296, 0), (1, 3, -4294967296, -1)])
theorem oo_Mo_stOrder_6 {kA : Nat → ClassId} : or_ok PRD kA GG o_Mo_stOrder_6 := by
  refine or_mk fun A ta ws vs hD hth hl => ?_
  intro t0 r0 t1 k1 t2 k2 t3 k3 t4 r4 t6 k6 t7 k7 t8 k8 d0 d1 d2 f0 f1 f2 f3 f4 f5 f6 f7 ta1 w1 le1 s1 f9 f10 f11 f12 f13 f14 f15 f16 f17 f18 f19 f20 f21
  have s1 : (∀ b j, w_el ws b j = if b = v_ad (n_v vs 4) ∧ j = (v_iv (n_v vs 6)).toNat then v_iv (n_v vs 7) else w_el w1 b j) ∧ ∀ b k, w_fd ws b k = w_fd w1 b k := s1.2
  replace f9 := shm_107 f9
  replace f10 := shm_713 f10
  replace f11 := shm_531 f11
  replace f13 := shm_996 f13
  replace f14 := shm_575 f14
  replace f15 := shm_1749 f15
  replace f16 := shm_1001 f16
  replace f19 := shm_1753 f19
  have ar_0_33_1 : w_ar w1 (n_v vs 0) 33 = w_ar ws (n_v vs 0) 33 := congrArg v_ad (s1.2 _ _).symm
  have cr_0_33 := fdq_117 hD hth r0
  have ar_0_34_1 : w_ar w1 (n_v vs 0) 34 = w_ar ws (n_v vs 0) 34 := congrArg v_ad (s1.2 _ _).symm
  have cr_0_34 := fdq_118 hD hth r0
  have ar_0_35_1 : w_ar w1 (n_v vs 0) 35 = w_ar ws (n_v vs 0) 35 := congrArg v_ad (s1.2 _ _).symm
  have cr_0_35 := fdq_132 hD hth r0
  have ar_0_42_1 : w_ar w1 (n_v vs 0) 42 = w_ar ws (n_v vs 0) 42 := congrArg v_ad (s1.2 _ _).symm
  have cr_0_42 := fdq_136 hD hth r0
  have ar_0_117_1 : w_ar w1 (n_v vs 0) 117 = w_ar ws (n_v vs 0) 117 := congrArg v_ad (s1.2 _ _).symm
  have cr_0_117 := fdq_181 hD hth r0
  have ad_5 : v_ad (n_v vs 5) = w_ar ws (n_v vs 0) 117 := (congrArg v_ad f10).trans ar_0_117_1
  have ad_4 : v_ad (n_v vs 4) = w_ar ws (n_v vs 0) 42 := (congrArg v_ad f11).trans ar_0_42_1
  simp only [ad_5] at f9
  have h9 : v_iv (n_v vs 6) = w_ei w1 (w_ar ws (n_v vs 0) 117) (v_iv (n_v vs 1)) := f9
  have g13 : v_iv (n_v vs 3) = w_fi w1 (n_v vs 0) 125 := congrArg v_iv f13
  simp only [ar_0_33_1, ar_0_34_1, ar_0_35_1, ar_0_117_1, ar_0_42_1] at f14 f15 f16 f19
  have fe_0_31_1 : w_fi ws (n_v vs 0) 31 = w_fi w1 (n_v vs 0) 31 := congrArg v_iv (s1.2 _ _)
  have fe_0_32_1 : w_fi ws (n_v vs 0) 32 = w_fi w1 (n_v vs 0) 32 := congrArg v_iv (s1.2 _ _)
  have fe_0_49_1 : w_fi ws (n_v vs 0) 49 = w_fi w1 (n_v vs 0) 49 := congrArg v_iv (s1.2 _ _)
  have fe_0_125_1 : w_fi ws (n_v vs 0) 125 = w_fi w1 (n_v vs 0) 125 := congrArg v_iv (s1.2 _ _)
  have hE_0_33_1 : ∀ j : Int, w_ei ws (w_ar ws (n_v vs 0) 33) j = w_ei w1 (w_ar ws (n_v vs 0) 33) j := el_kp s1.1 r4 cr_0_33 (by decide)
  have hK_0_33 := elq_60 hD hth cr_0_33
  have hE_0_34_1 : ∀ j : Int, w_ei ws (w_ar ws (n_v vs 0) 34) j = w_ei w1 (w_ar ws (n_v vs 0) 34) j := el_kp s1.1 r4 cr_0_34 (by decide)
  have hK_0_34 := elq_61 hD hth cr_0_34
  have hE_0_35_1 : ∀ j : Int, w_ei ws (w_ar ws (n_v vs 0) 35) j = w_ei w1 (w_ar ws (n_v vs 0) 35) j := el_kp s1.1 r4 cr_0_35 (by decide)
  have hK_0_35 := elq_72 hD hth cr_0_35
  have hE_0_42_1 : ∀ j : Int, 0 ≤ j → (j = v_iv (n_v vs 6) → w_ei ws (w_ar ws (n_v vs 0) 42) j = v_iv (n_v vs 7)) ∧ (j ≠ v_iv (n_v vs 6) → w_ei ws (w_ar ws (n_v vs 0) 42) j = w_ei w1 (w_ar ws (n_v vs 0) 42) j) := fun j hj => ⟨fun h => by unfold w_ei; rw [s1.1, if_pos ⟨ad_4.symm, by rw [h]⟩], fun h => by unfold w_ei; rw [s1.1, if_neg (fun e => h (by have := e.2; omega))]⟩
  have hK_0_42 := elq_75 hD hth cr_0_42
  have hE_0_117_1 : ∀ j : Int, w_ei ws (w_ar ws (n_v vs 0) 117) j = w_ei w1 (w_ar ws (n_v vs 0) 117) j := el_kp s1.1 r4 cr_0_117 (by decide)
  have hK_0_117 := elq_108 hD hth cr_0_117
  have kz_0_31 := fdq_145 hD hth r0
  have kz_0_32 := fdq_140 hD hth r0
  have kz_0_49 := fdq_146 hD hth r0
  have kz_0_125 := fdq_182 hD hth r0
  have nf0 : fc_1 PRD (20, [0, 8], [60, 1, 2, 300, 31, 42, 117]) ws (vs) := ⟨nf_in hl rfl, sgq_1753 (vc_Mo_stOrder_6_0 (v_iv (n_v vs 1)) (v_iv (n_v vs 2)) (v_iv (n_v vs 3)) (v_iv (n_v vs 6)) (v_iv (n_v vs 7)) (v_iv (n_v vs 8)) (w_ei ws (w_ar ws (n_v vs 0) 33)) (w_ei ws (w_ar ws (n_v vs 0) 34)) (w_fi ws (n_v vs 0) 31) (w_fi ws (n_v vs 0) 32) (w_ei ws (w_ar ws (n_v vs 0) 35)) (w_ei ws (w_ar ws (n_v vs 0) 117)) (w_fi ws (n_v vs 0) 125) (w_fi ws (n_v vs 0) 49) (w_ei w1 (w_ar ws (n_v vs 0) 117)) (w_fi w1 (n_v vs 0) 125) (w_ei w1 (w_ar ws (n_v vs 0) 33)) (w_ei w1 (w_ar ws (n_v vs 0) 34)) (w_fi w1 (n_v vs 0) 31) (w_fi w1 (n_v vs 0) 32) (w_ei w1 (w_ar ws (n_v vs 0) 35)) (w_fi w1 (n_v vs 0) 49) (w_ei w1 (w_ar ws (n_v vs 0) 42)) (w_ei ws (w_ar ws (n_v vs 0) 42)) k1 k2 k3 k6 k7 k8 d0 d1 d2 (shm_4 f0) (shm_575 f1) (shm_1749 f2) (shm_1001 f3) (shm_1675 f4) (shm_1750 f5) (shm_1754 f6) (shm_1752 f7) h9 (shm_6 f12) g13 f14 f15 f16 (shm_1675 f17) (shm_1750 f18) f19 (shm_1754 f20) (shm_1752 f21) fe_0_31_1 fe_0_32_1 fe_0_49_1 fe_0_125_1 hE_0_33_1 hK_0_33 hE_0_34_1 hK_0_34 hE_0_35_1 hK_0_35 hE_0_42_1 hK_0_42 hE_0_117_1 hK_0_117 kz_0_31 kz_0_32 kz_0_49 kz_0_125)⟩
  have nf1 : fc_1 PRD (20, [8, 0], [30, 0, 1, 0, 0, -1, 1, 125]) ws (vs) := ⟨nf_in hl rfl, sgq_1754 (vc_Mo_stOrder_6_1 (v_iv (n_v vs 1)) (v_iv (n_v vs 2)) (v_iv (n_v vs 3)) (v_iv (n_v vs 6)) (v_iv (n_v vs 7)) (v_iv (n_v vs 8)) (w_ei ws (w_ar ws (n_v vs 0) 33)) (w_ei ws (w_ar ws (n_v vs 0) 34)) (w_fi ws (n_v vs 0) 31) (w_fi ws (n_v vs 0) 32) (w_ei ws (w_ar ws (n_v vs 0) 35)) (w_ei ws (w_ar ws (n_v vs 0) 117)) (w_fi ws (n_v vs 0) 125) (w_fi ws (n_v vs 0) 49) (w_ei w1 (w_ar ws (n_v vs 0) 117)) (w_fi w1 (n_v vs 0) 125) (w_ei w1 (w_ar ws (n_v vs 0) 33)) (w_ei w1 (w_ar ws (n_v vs 0) 34)) (w_fi w1 (n_v vs 0) 31) (w_fi w1 (n_v vs 0) 32) (w_ei w1 (w_ar ws (n_v vs 0) 35)) (w_fi w1 (n_v vs 0) 49) (w_ei w1 (w_ar ws (n_v vs 0) 42)) (w_ei ws (w_ar ws (n_v vs 0) 42)) k1 k2 k3 k6 k7 k8 d0 d1 d2 (shm_4 f0) (shm_575 f1) (shm_1749 f2) (shm_1001 f3) (shm_1675 f4) (shm_1750 f5) (shm_1754 f6) (shm_1752 f7) h9 (shm_6 f12) g13 f14 f15 f16 (shm_1675 f17) (shm_1750 f18) f19 (shm_1754 f20) (shm_1752 f21) fe_0_31_1 fe_0_32_1 fe_0_49_1 fe_0_125_1 hE_0_33_1 hK_0_33 hE_0_34_1 hK_0_34 hE_0_35_1 hK_0_35 hE_0_42_1 hK_0_42 hE_0_117_1 hK_0_117 kz_0_31 kz_0_32 kz_0_49 kz_0_125)⟩
  refine ⟨(fun _ h => (by cases h)), [], trivial, ?_, (fun _ h => (by cases h))⟩
  rw [List.append_nil]
  exact List.forall_mem_cons.mpr ⟨⟨show (20 : Nat) < 100 from by decide, nf0⟩, List.forall_mem_cons.mpr ⟨⟨show (20 : Nat) < 100 from by decide, nf1⟩, (fun _ h => (by cases h))⟩⟩
set_option maxHeartbeats 4000000 in
theorem vc_Mo_stOrder_7_0 (x1 : Int) (x2 : Int) (x3 : Int) (x4 : Int) (x5 : Int) (pm_0 : Int) (pt_0 : Int → Int) (ph_0 : Int → Int) (pn_0 : Int) (alive_0 : Int → Int) (row_0 : Int → Int) (rowMany_0 : Int) (onlyPiece_0 : Int) (drawnNode_0 : Int → Int) (drawnEdge_0 : Int → Int) (pieceOf_0 : Int → Int) (bestWay_0 : Int → Int) (gx : Int) (k1 : 0 ≤ x1 ∧ x1 ≤ 80) (k2 : (-2) ≤ x2 ∧ x2 ≤ 26) (k3 : 0 ≤ x3 ∧ x3 ≤ 80) (k4 : 0 ≤ x4 ∧ x4 ≤ 0) (k5 : 0 ≤ x5 ∧ x5 ≤ 0) (d0 : x3 + 0 ≤ x1 ∧ x1 ≤ x3 + 4294967296) (f0 : x3 ≤ x1) (g1 : x3 = pm_0) (f2 : GOK (pn_0) (pm_0) (pt_0) (ph_0)) (f3 : STB (pn_0) (pm_0) (pt_0) (ph_0) (alive_0)) (f4 : STR (pn_0) (rowMany_0) (pt_0) (ph_0) (row_0)) (f5 : onlyPiece_0 = (-1)) (f6 : (-1) * rowMany_0 + ((-1) * x2 + 0) ≤ (-26)) (f7 : DRR (pn_0) (rowMany_0) (drawnNode_0) (row_0)) (f8 : DEK (pt_0) (ph_0) (drawnNode_0) (drawnEdge_0) (x1)) (f9 : (rowMany_0 + 1) ≤ pn_0) (hK_0_33 : ∀ j : Int, 0 ≤ j → j < 80 → 0 ≤ pt_0 j ∧ pt_0 j ≤ 24) (hK_0_34 : ∀ j : Int, 0 ≤ j → j < 80 → 0 ≤ ph_0 j ∧ ph_0 j ≤ 24) (hK_0_35 : ∀ j : Int, 0 ≤ j → j < 80 → 0 ≤ alive_0 j ∧ alive_0 j ≤ 1) (hK_0_42 : ∀ j : Int, 0 ≤ j → j < 26 → 0 ≤ drawnNode_0 j ∧ drawnNode_0 j ≤ 1) (hK_0_43 : ∀ j : Int, 0 ≤ j → j < 80 → 0 ≤ drawnEdge_0 j ∧ drawnEdge_0 j ≤ 1) (hK_0_44 : ∀ j : Int, 0 ≤ j → j < 80 → (-1) ≤ pieceOf_0 j ∧ pieceOf_0 j ≤ 79) (hK_0_52 : ∀ j : Int, 0 ≤ j → j < 30 → 0 ≤ bestWay_0 j ∧ bestWay_0 j ≤ 24) (hK_0_117 : ∀ j : Int, 0 ≤ j → j < 100 → 0 ≤ row_0 j ∧ row_0 j ≤ 75) (kz_0_31 : 0 ≤ pn_0 ∧ pn_0 ≤ 25) (kz_0_32 : 0 ≤ pm_0 ∧ pm_0 ≤ 80) (kz_0_49 : (-1) ≤ onlyPiece_0 ∧ onlyPiece_0 ≤ 79) (kz_0_125 : 0 ≤ rowMany_0 ∧ rowMany_0 ≤ 100) (ex2 : gx = 0 + (1 * x2 + 0)) (ex3 : (-2) ≤ gx ∧ gx ≤ 26) : GOK (pn_0) (pm_0) (pt_0) (ph_0) := by
  first
    | assumption
    | exact ‹STB _ _ _ _ _›.1.1
set_option maxHeartbeats 4000000 in
theorem vc_Mo_stOrder_7_1 (x1 : Int) (x2 : Int) (x3 : Int) (x4 : Int) (x5 : Int) (pm_0 : Int) (pt_0 : Int → Int) (ph_0 : Int → Int) (pn_0 : Int) (alive_0 : Int → Int) (row_0 : Int → Int) (rowMany_0 : Int) (onlyPiece_0 : Int) (drawnNode_0 : Int → Int) (drawnEdge_0 : Int → Int) (pieceOf_0 : Int → Int) (bestWay_0 : Int → Int) (gx : Int) (k1 : 0 ≤ x1 ∧ x1 ≤ 80) (k2 : (-2) ≤ x2 ∧ x2 ≤ 26) (k3 : 0 ≤ x3 ∧ x3 ≤ 80) (k4 : 0 ≤ x4 ∧ x4 ≤ 0) (k5 : 0 ≤ x5 ∧ x5 ≤ 0) (d0 : x3 + 0 ≤ x1 ∧ x1 ≤ x3 + 4294967296) (f0 : x3 ≤ x1) (g1 : x3 = pm_0) (f2 : GOK (pn_0) (pm_0) (pt_0) (ph_0)) (f3 : STB (pn_0) (pm_0) (pt_0) (ph_0) (alive_0)) (f4 : STR (pn_0) (rowMany_0) (pt_0) (ph_0) (row_0)) (f5 : onlyPiece_0 = (-1)) (f6 : (-1) * rowMany_0 + ((-1) * x2 + 0) ≤ (-26)) (f7 : DRR (pn_0) (rowMany_0) (drawnNode_0) (row_0)) (f8 : DEK (pt_0) (ph_0) (drawnNode_0) (drawnEdge_0) (x1)) (f9 : (rowMany_0 + 1) ≤ pn_0) (hK_0_33 : ∀ j : Int, 0 ≤ j → j < 80 → 0 ≤ pt_0 j ∧ pt_0 j ≤ 24) (hK_0_34 : ∀ j : Int, 0 ≤ j → j < 80 → 0 ≤ ph_0 j ∧ ph_0 j ≤ 24) (hK_0_35 : ∀ j : Int, 0 ≤ j → j < 80 → 0 ≤ alive_0 j ∧ alive_0 j ≤ 1) (hK_0_42 : ∀ j : Int, 0 ≤ j → j < 26 → 0 ≤ drawnNode_0 j ∧ drawnNode_0 j ≤ 1) (hK_0_43 : ∀ j : Int, 0 ≤ j → j < 80 → 0 ≤ drawnEdge_0 j ∧ drawnEdge_0 j ≤ 1) (hK_0_44 : ∀ j : Int, 0 ≤ j → j < 80 → (-1) ≤ pieceOf_0 j ∧ pieceOf_0 j ≤ 79) (hK_0_52 : ∀ j : Int, 0 ≤ j → j < 30 → 0 ≤ bestWay_0 j ∧ bestWay_0 j ≤ 24) (hK_0_117 : ∀ j : Int, 0 ≤ j → j < 100 → 0 ≤ row_0 j ∧ row_0 j ≤ 75) (kz_0_31 : 0 ≤ pn_0 ∧ pn_0 ≤ 25) (kz_0_32 : 0 ≤ pm_0 ∧ pm_0 ≤ 80) (kz_0_49 : (-1) ≤ onlyPiece_0 ∧ onlyPiece_0 ≤ 79) (kz_0_125 : 0 ≤ rowMany_0 ∧ rowMany_0 ≤ 100) (ex2 : gx = 0 + (1 * x2 + 0)) (ex3 : (-2) ≤ gx ∧ gx ≤ 26) : STB (pn_0) (pm_0) (pt_0) (ph_0) (alive_0) := by
  first | assumption
set_option maxHeartbeats 4000000 in
theorem vc_Mo_stOrder_7_2 (x1 : Int) (x2 : Int) (x3 : Int) (x4 : Int) (x5 : Int) (pm_0 : Int) (pt_0 : Int → Int) (ph_0 : Int → Int) (pn_0 : Int) (alive_0 : Int → Int) (row_0 : Int → Int) (rowMany_0 : Int) (onlyPiece_0 : Int) (drawnNode_0 : Int → Int) (drawnEdge_0 : Int → Int) (pieceOf_0 : Int → Int) (bestWay_0 : Int → Int) (gx : Int) (k1 : 0 ≤ x1 ∧ x1 ≤ 80) (k2 : (-2) ≤ x2 ∧ x2 ≤ 26) (k3 : 0 ≤ x3 ∧ x3 ≤ 80) (k4 : 0 ≤ x4 ∧ x4 ≤ 0) (k5 : 0 ≤ x5 ∧ x5 ≤ 0) (d0 : x3 + 0 ≤ x1 ∧ x1 ≤ x3 + 4294967296) (f0 : x3 ≤ x1) (g1 : x3 = pm_0) (f2 : GOK (pn_0) (pm_0) (pt_0) (ph_0)) (f3 : STB (pn_0) (pm_0) (pt_0) (ph_0) (alive_0)) (f4 : STR (pn_0) (rowMany_0) (pt_0) (ph_0) (row_0)) (f5 : onlyPiece_0 = (-1)) (f6 : (-1) * rowMany_0 + ((-1) * x2 + 0) ≤ (-26)) (f7 : DRR (pn_0) (rowMany_0) (drawnNode_0) (row_0)) (f8 : DEK (pt_0) (ph_0) (drawnNode_0) (drawnEdge_0) (x1)) (f9 : (rowMany_0 + 1) ≤ pn_0) (hK_0_33 : ∀ j : Int, 0 ≤ j → j < 80 → 0 ≤ pt_0 j ∧ pt_0 j ≤ 24) (hK_0_34 : ∀ j : Int, 0 ≤ j → j < 80 → 0 ≤ ph_0 j ∧ ph_0 j ≤ 24) (hK_0_35 : ∀ j : Int, 0 ≤ j → j < 80 → 0 ≤ alive_0 j ∧ alive_0 j ≤ 1) (hK_0_42 : ∀ j : Int, 0 ≤ j → j < 26 → 0 ≤ drawnNode_0 j ∧ drawnNode_0 j ≤ 1) (hK_0_43 : ∀ j : Int, 0 ≤ j → j < 80 → 0 ≤ drawnEdge_0 j ∧ drawnEdge_0 j ≤ 1) (hK_0_44 : ∀ j : Int, 0 ≤ j → j < 80 → (-1) ≤ pieceOf_0 j ∧ pieceOf_0 j ≤ 79) (hK_0_52 : ∀ j : Int, 0 ≤ j → j < 30 → 0 ≤ bestWay_0 j ∧ bestWay_0 j ≤ 24) (hK_0_117 : ∀ j : Int, 0 ≤ j → j < 100 → 0 ≤ row_0 j ∧ row_0 j ≤ 75) (kz_0_31 : 0 ≤ pn_0 ∧ pn_0 ≤ 25) (kz_0_32 : 0 ≤ pm_0 ∧ pm_0 ≤ 80) (kz_0_49 : (-1) ≤ onlyPiece_0 ∧ onlyPiece_0 ≤ 79) (kz_0_125 : 0 ≤ rowMany_0 ∧ rowMany_0 ≤ 100) (ex2 : gx = 0 + (1 * x2 + 0)) (ex3 : (-2) ≤ gx ∧ gx ≤ 26) : STR (pn_0) (rowMany_0) (pt_0) (ph_0) (row_0) := by
  first | assumption
set_option maxHeartbeats 4000000 in
theorem vc_Mo_stOrder_7_3 (x1 : Int) (x2 : Int) (x3 : Int) (x4 : Int) (x5 : Int) (pm_0 : Int) (pt_0 : Int → Int) (ph_0 : Int → Int) (pn_0 : Int) (alive_0 : Int → Int) (row_0 : Int → Int) (rowMany_0 : Int) (onlyPiece_0 : Int) (drawnNode_0 : Int → Int) (drawnEdge_0 : Int → Int) (pieceOf_0 : Int → Int) (bestWay_0 : Int → Int) (gx : Int) (k1 : 0 ≤ x1 ∧ x1 ≤ 80) (k2 : (-2) ≤ x2 ∧ x2 ≤ 26) (k3 : 0 ≤ x3 ∧ x3 ≤ 80) (k4 : 0 ≤ x4 ∧ x4 ≤ 0) (k5 : 0 ≤ x5 ∧ x5 ≤ 0) (d0 : x3 + 0 ≤ x1 ∧ x1 ≤ x3 + 4294967296) (f0 : x3 ≤ x1) (g1 : x3 = pm_0) (f2 : GOK (pn_0) (pm_0) (pt_0) (ph_0)) (f3 : STB (pn_0) (pm_0) (pt_0) (ph_0) (alive_0)) (f4 : STR (pn_0) (rowMany_0) (pt_0) (ph_0) (row_0)) (f5 : onlyPiece_0 = (-1)) (f6 : (-1) * rowMany_0 + ((-1) * x2 + 0) ≤ (-26)) (f7 : DRR (pn_0) (rowMany_0) (drawnNode_0) (row_0)) (f8 : DEK (pt_0) (ph_0) (drawnNode_0) (drawnEdge_0) (x1)) (f9 : (rowMany_0 + 1) ≤ pn_0) (hK_0_33 : ∀ j : Int, 0 ≤ j → j < 80 → 0 ≤ pt_0 j ∧ pt_0 j ≤ 24) (hK_0_34 : ∀ j : Int, 0 ≤ j → j < 80 → 0 ≤ ph_0 j ∧ ph_0 j ≤ 24) (hK_0_35 : ∀ j : Int, 0 ≤ j → j < 80 → 0 ≤ alive_0 j ∧ alive_0 j ≤ 1) (hK_0_42 : ∀ j : Int, 0 ≤ j → j < 26 → 0 ≤ drawnNode_0 j ∧ drawnNode_0 j ≤ 1) (hK_0_43 : ∀ j : Int, 0 ≤ j → j < 80 → 0 ≤ drawnEdge_0 j ∧ drawnEdge_0 j ≤ 1) (hK_0_44 : ∀ j : Int, 0 ≤ j → j < 80 → (-1) ≤ pieceOf_0 j ∧ pieceOf_0 j ≤ 79) (hK_0_52 : ∀ j : Int, 0 ≤ j → j < 30 → 0 ≤ bestWay_0 j ∧ bestWay_0 j ≤ 24) (hK_0_117 : ∀ j : Int, 0 ≤ j → j < 100 → 0 ≤ row_0 j ∧ row_0 j ≤ 75) (kz_0_31 : 0 ≤ pn_0 ∧ pn_0 ≤ 25) (kz_0_32 : 0 ≤ pm_0 ∧ pm_0 ≤ 80) (kz_0_49 : (-1) ≤ onlyPiece_0 ∧ onlyPiece_0 ≤ 79) (kz_0_125 : 0 ≤ rowMany_0 ∧ rowMany_0 ≤ 100) (ex2 : gx = 0 + (1 * x2 + 0)) (ex3 : (-2) ≤ gx ∧ gx ≤ 26) : onlyPiece_0 = (-1) := by
  first
    | omega
    | (have h := ‹STB _ _ _ _ _›.1.2.2; omega)
    | (have h := ‹STR _ _ _ _ _›.1; omega)
    | (have h := ‹STR _ _ _ _ _›.1
       have w := ‹STR _ _ _ _ _›.2.1 x1 (by omega) (by omega)
       omega)
    | (have h := bc_len ‹BC1 _ _ _ _ _ _ _›
       have h2 := ‹STR _ _ _ _ _›.1
       omega)
    | (have h := (sb_way ‹SB1 _ _ _ _ _ _ _ _ _ _ _ _› (by omega)).1
       have h2 := ‹STR _ _ _ _ _›.1
       omega)
    | (have h := ‹WYM _ _ _ _›.1
       have h2 := ‹STR _ _ _ _ _›.1
       omega)
set_option maxHeartbeats 4000000 in
theorem vc_Mo_stOrder_7_4 (x1 : Int) (x2 : Int) (x3 : Int) (x4 : Int) (x5 : Int) (pm_0 : Int) (pt_0 : Int → Int) (ph_0 : Int → Int) (pn_0 : Int) (alive_0 : Int → Int) (row_0 : Int → Int) (rowMany_0 : Int) (onlyPiece_0 : Int) (drawnNode_0 : Int → Int) (drawnEdge_0 : Int → Int) (pieceOf_0 : Int → Int) (bestWay_0 : Int → Int) (gx : Int) (k1 : 0 ≤ x1 ∧ x1 ≤ 80) (k2 : (-2) ≤ x2 ∧ x2 ≤ 26) (k3 : 0 ≤ x3 ∧ x3 ≤ 80) (k4 : 0 ≤ x4 ∧ x4 ≤ 0) (k5 : 0 ≤ x5 ∧ x5 ≤ 0) (d0 : x3 + 0 ≤ x1 ∧ x1 ≤ x3 + 4294967296) (f0 : x3 ≤ x1) (g1 : x3 = pm_0) (f2 : GOK (pn_0) (pm_0) (pt_0) (ph_0)) (f3 : STB (pn_0) (pm_0) (pt_0) (ph_0) (alive_0)) (f4 : STR (pn_0) (rowMany_0) (pt_0) (ph_0) (row_0)) (f5 : onlyPiece_0 = (-1)) (f6 : (-1) * rowMany_0 + ((-1) * x2 + 0) ≤ (-26)) (f7 : DRR (pn_0) (rowMany_0) (drawnNode_0) (row_0)) (f8 : DEK (pt_0) (ph_0) (drawnNode_0) (drawnEdge_0) (x1)) (f9 : (rowMany_0 + 1) ≤ pn_0) (hK_0_33 : ∀ j : Int, 0 ≤ j → j < 80 → 0 ≤ pt_0 j ∧ pt_0 j ≤ 24) (hK_0_34 : ∀ j : Int, 0 ≤ j → j < 80 → 0 ≤ ph_0 j ∧ ph_0 j ≤ 24) (hK_0_35 : ∀ j : Int, 0 ≤ j → j < 80 → 0 ≤ alive_0 j ∧ alive_0 j ≤ 1) (hK_0_42 : ∀ j : Int, 0 ≤ j → j < 26 → 0 ≤ drawnNode_0 j ∧ drawnNode_0 j ≤ 1) (hK_0_43 : ∀ j : Int, 0 ≤ j → j < 80 → 0 ≤ drawnEdge_0 j ∧ drawnEdge_0 j ≤ 1) (hK_0_44 : ∀ j : Int, 0 ≤ j → j < 80 → (-1) ≤ pieceOf_0 j ∧ pieceOf_0 j ≤ 79) (hK_0_52 : ∀ j : Int, 0 ≤ j → j < 30 → 0 ≤ bestWay_0 j ∧ bestWay_0 j ≤ 24) (hK_0_117 : ∀ j : Int, 0 ≤ j → j < 100 → 0 ≤ row_0 j ∧ row_0 j ≤ 75) (kz_0_31 : 0 ≤ pn_0 ∧ pn_0 ≤ 25) (kz_0_32 : 0 ≤ pm_0 ∧ pm_0 ≤ 80) (kz_0_49 : (-1) ≤ onlyPiece_0 ∧ onlyPiece_0 ≤ 79) (kz_0_125 : 0 ≤ rowMany_0 ∧ rowMany_0 ≤ 100) (ex2 : gx = 0 + (1 * x2 + 0)) (ex3 : (-2) ≤ gx ∧ gx ≤ 26) : (-1) * rowMany_0 + ((-1) * gx + 0) ≤ (-26) := by
  first
    | omega
    | (have h := ‹STB _ _ _ _ _›.1.2.2; omega)
    | (have h := ‹STR _ _ _ _ _›.1; omega)
    | (have h := ‹STR _ _ _ _ _›.1
       have w := ‹STR _ _ _ _ _›.2.1 x1 (by omega) (by omega)
       omega)
    | (have h := bc_len ‹BC1 _ _ _ _ _ _ _›
       have h2 := ‹STR _ _ _ _ _›.1
       omega)
    | (have h := (sb_way ‹SB1 _ _ _ _ _ _ _ _ _ _ _ _› (by omega)).1
       have h2 := ‹STR _ _ _ _ _›.1
       omega)
    | (have h := ‹WYM _ _ _ _›.1
       have h2 := ‹STR _ _ _ _ _›.1
       omega)
set_option maxHeartbeats 4000000 in
theorem vc_Mo_stOrder_7_5 (x1 : Int) (x2 : Int) (x3 : Int) (x4 : Int) (x5 : Int) (pm_0 : Int) (pt_0 : Int → Int) (ph_0 : Int → Int) (pn_0 : Int) (alive_0 : Int → Int) (row_0 : Int → Int) (rowMany_0 : Int) (onlyPiece_0 : Int) (drawnNode_0 : Int → Int) (drawnEdge_0 : Int → Int) (pieceOf_0 : Int → Int) (bestWay_0 : Int → Int) (gx : Int) (k1 : 0 ≤ x1 ∧ x1 ≤ 80) (k2 : (-2) ≤ x2 ∧ x2 ≤ 26) (k3 : 0 ≤ x3 ∧ x3 ≤ 80) (k4 : 0 ≤ x4 ∧ x4 ≤ 0) (k5 : 0 ≤ x5 ∧ x5 ≤ 0) (d0 : x3 + 0 ≤ x1 ∧ x1 ≤ x3 + 4294967296) (f0 : x3 ≤ x1) (g1 : x3 = pm_0) (f2 : GOK (pn_0) (pm_0) (pt_0) (ph_0)) (f3 : STB (pn_0) (pm_0) (pt_0) (ph_0) (alive_0)) (f4 : STR (pn_0) (rowMany_0) (pt_0) (ph_0) (row_0)) (f5 : onlyPiece_0 = (-1)) (f6 : (-1) * rowMany_0 + ((-1) * x2 + 0) ≤ (-26)) (f7 : DRR (pn_0) (rowMany_0) (drawnNode_0) (row_0)) (f8 : DEK (pt_0) (ph_0) (drawnNode_0) (drawnEdge_0) (x1)) (f9 : (rowMany_0 + 1) ≤ pn_0) (hK_0_33 : ∀ j : Int, 0 ≤ j → j < 80 → 0 ≤ pt_0 j ∧ pt_0 j ≤ 24) (hK_0_34 : ∀ j : Int, 0 ≤ j → j < 80 → 0 ≤ ph_0 j ∧ ph_0 j ≤ 24) (hK_0_35 : ∀ j : Int, 0 ≤ j → j < 80 → 0 ≤ alive_0 j ∧ alive_0 j ≤ 1) (hK_0_42 : ∀ j : Int, 0 ≤ j → j < 26 → 0 ≤ drawnNode_0 j ∧ drawnNode_0 j ≤ 1) (hK_0_43 : ∀ j : Int, 0 ≤ j → j < 80 → 0 ≤ drawnEdge_0 j ∧ drawnEdge_0 j ≤ 1) (hK_0_44 : ∀ j : Int, 0 ≤ j → j < 80 → (-1) ≤ pieceOf_0 j ∧ pieceOf_0 j ≤ 79) (hK_0_52 : ∀ j : Int, 0 ≤ j → j < 30 → 0 ≤ bestWay_0 j ∧ bestWay_0 j ≤ 24) (hK_0_117 : ∀ j : Int, 0 ≤ j → j < 100 → 0 ≤ row_0 j ∧ row_0 j ≤ 75) (kz_0_31 : 0 ≤ pn_0 ∧ pn_0 ≤ 25) (kz_0_32 : 0 ≤ pm_0 ∧ pm_0 ≤ 80) (kz_0_49 : (-1) ≤ onlyPiece_0 ∧ onlyPiece_0 ≤ 79) (kz_0_125 : 0 ≤ rowMany_0 ∧ rowMany_0 ≤ 100) (ex2 : gx = 0 + (1 * x2 + 0)) (ex3 : (-2) ≤ gx ∧ gx ≤ 26) : DRR (pn_0) (rowMany_0) (drawnNode_0) (row_0) := by
  first | assumption
set_option maxHeartbeats 4000000 in
theorem vc_Mo_stOrder_7_6 (x1 : Int) (x2 : Int) (x3 : Int) (x4 : Int) (x5 : Int) (pm_0 : Int) (pt_0 : Int → Int) (ph_0 : Int → Int) (pn_0 : Int) (alive_0 : Int → Int) (row_0 : Int → Int) (rowMany_0 : Int) (onlyPiece_0 : Int) (drawnNode_0 : Int → Int) (drawnEdge_0 : Int → Int) (pieceOf_0 : Int → Int) (bestWay_0 : Int → Int) (gx : Int) (k1 : 0 ≤ x1 ∧ x1 ≤ 80) (k2 : (-2) ≤ x2 ∧ x2 ≤ 26) (k3 : 0 ≤ x3 ∧ x3 ≤ 80) (k4 : 0 ≤ x4 ∧ x4 ≤ 0) (k5 : 0 ≤ x5 ∧ x5 ≤ 0) (d0 : x3 + 0 ≤ x1 ∧ x1 ≤ x3 + 4294967296) (f0 : x3 ≤ x1) (g1 : x3 = pm_0) (f2 : GOK (pn_0) (pm_0) (pt_0) (ph_0)) (f3 : STB (pn_0) (pm_0) (pt_0) (ph_0) (alive_0)) (f4 : STR (pn_0) (rowMany_0) (pt_0) (ph_0) (row_0)) (f5 : onlyPiece_0 = (-1)) (f6 : (-1) * rowMany_0 + ((-1) * x2 + 0) ≤ (-26)) (f7 : DRR (pn_0) (rowMany_0) (drawnNode_0) (row_0)) (f8 : DEK (pt_0) (ph_0) (drawnNode_0) (drawnEdge_0) (x1)) (f9 : (rowMany_0 + 1) ≤ pn_0) (hK_0_33 : ∀ j : Int, 0 ≤ j → j < 80 → 0 ≤ pt_0 j ∧ pt_0 j ≤ 24) (hK_0_34 : ∀ j : Int, 0 ≤ j → j < 80 → 0 ≤ ph_0 j ∧ ph_0 j ≤ 24) (hK_0_35 : ∀ j : Int, 0 ≤ j → j < 80 → 0 ≤ alive_0 j ∧ alive_0 j ≤ 1) (hK_0_42 : ∀ j : Int, 0 ≤ j → j < 26 → 0 ≤ drawnNode_0 j ∧ drawnNode_0 j ≤ 1) (hK_0_43 : ∀ j : Int, 0 ≤ j → j < 80 → 0 ≤ drawnEdge_0 j ∧ drawnEdge_0 j ≤ 1) (hK_0_44 : ∀ j : Int, 0 ≤ j → j < 80 → (-1) ≤ pieceOf_0 j ∧ pieceOf_0 j ≤ 79) (hK_0_52 : ∀ j : Int, 0 ≤ j → j < 30 → 0 ≤ bestWay_0 j ∧ bestWay_0 j ≤ 24) (hK_0_117 : ∀ j : Int, 0 ≤ j → j < 100 → 0 ≤ row_0 j ∧ row_0 j ≤ 75) (kz_0_31 : 0 ≤ pn_0 ∧ pn_0 ≤ 25) (kz_0_32 : 0 ≤ pm_0 ∧ pm_0 ≤ 80) (kz_0_49 : (-1) ≤ onlyPiece_0 ∧ onlyPiece_0 ≤ 79) (kz_0_125 : 0 ≤ rowMany_0 ∧ rowMany_0 ≤ 100) (ex2 : gx = 0 + (1 * x2 + 0)) (ex3 : (-2) ≤ gx ∧ gx ≤ 26) : DEM (pm_0) (pt_0) (ph_0) (drawnNode_0) (drawnEdge_0) := by
  first
    | assumption
    | (have h := ‹DEK _ _ _ _ _›
       intro e a b
       exact h e a (by omega))
set_option maxHeartbeats 4000000 in
theorem vc_Mo_stOrder_7_7 (x1 : Int) (x2 : Int) (x3 : Int) (x4 : Int) (x5 : Int) (pm_0 : Int) (pt_0 : Int → Int) (ph_0 : Int → Int) (pn_0 : Int) (alive_0 : Int → Int) (row_0 : Int → Int) (rowMany_0 : Int) (onlyPiece_0 : Int) (drawnNode_0 : Int → Int) (drawnEdge_0 : Int → Int) (pieceOf_0 : Int → Int) (bestWay_0 : Int → Int) (gx : Int) (k1 : 0 ≤ x1 ∧ x1 ≤ 80) (k2 : (-2) ≤ x2 ∧ x2 ≤ 26) (k3 : 0 ≤ x3 ∧ x3 ≤ 80) (k4 : 0 ≤ x4 ∧ x4 ≤ 0) (k5 : 0 ≤ x5 ∧ x5 ≤ 0) (d0 : x3 + 0 ≤ x1 ∧ x1 ≤ x3 + 4294967296) (f0 : x3 ≤ x1) (g1 : x3 = pm_0) (f2 : GOK (pn_0) (pm_0) (pt_0) (ph_0)) (f3 : STB (pn_0) (pm_0) (pt_0) (ph_0) (alive_0)) (f4 : STR (pn_0) (rowMany_0) (pt_0) (ph_0) (row_0)) (f5 : onlyPiece_0 = (-1)) (f6 : (-1) * rowMany_0 + ((-1) * x2 + 0) ≤ (-26)) (f7 : DRR (pn_0) (rowMany_0) (drawnNode_0) (row_0)) (f8 : DEK (pt_0) (ph_0) (drawnNode_0) (drawnEdge_0) (x1)) (f9 : (rowMany_0 + 1) ≤ pn_0) (hK_0_33 : ∀ j : Int, 0 ≤ j → j < 80 → 0 ≤ pt_0 j ∧ pt_0 j ≤ 24) (hK_0_34 : ∀ j : Int, 0 ≤ j → j < 80 → 0 ≤ ph_0 j ∧ ph_0 j ≤ 24) (hK_0_35 : ∀ j : Int, 0 ≤ j → j < 80 → 0 ≤ alive_0 j ∧ alive_0 j ≤ 1) (hK_0_42 : ∀ j : Int, 0 ≤ j → j < 26 → 0 ≤ drawnNode_0 j ∧ drawnNode_0 j ≤ 1) (hK_0_43 : ∀ j : Int, 0 ≤ j → j < 80 → 0 ≤ drawnEdge_0 j ∧ drawnEdge_0 j ≤ 1) (hK_0_44 : ∀ j : Int, 0 ≤ j → j < 80 → (-1) ≤ pieceOf_0 j ∧ pieceOf_0 j ≤ 79) (hK_0_52 : ∀ j : Int, 0 ≤ j → j < 30 → 0 ≤ bestWay_0 j ∧ bestWay_0 j ≤ 24) (hK_0_117 : ∀ j : Int, 0 ≤ j → j < 100 → 0 ≤ row_0 j ∧ row_0 j ≤ 75) (kz_0_31 : 0 ≤ pn_0 ∧ pn_0 ≤ 25) (kz_0_32 : 0 ≤ pm_0 ∧ pm_0 ≤ 80) (kz_0_49 : (-1) ≤ onlyPiece_0 ∧ onlyPiece_0 ≤ 79) (kz_0_125 : 0 ≤ rowMany_0 ∧ rowMany_0 ≤ 100) (ex2 : gx = 0 + (1 * x2 + 0)) (ex3 : (-2) ≤ gx ∧ gx ≤ 26) : UA (pm_0) (alive_0) (drawnEdge_0) := by
  first
    | assumption
    | exact dem_ua (n := pn_0) (pt := pt_0) (ph := ph_0) (dn := drawnNode_0) ‹STB _ _ _ _ _›
set_option maxHeartbeats 4000000 in
theorem vc_Mo_stOrder_7_8 (x1 : Int) (x2 : Int) (x3 : Int) (x4 : Int) (x5 : Int) (pm_0 : Int) (pt_0 : Int → Int) (ph_0 : Int → Int) (pn_0 : Int) (alive_0 : Int → Int) (row_0 : Int → Int) (rowMany_0 : Int) (onlyPiece_0 : Int) (drawnNode_0 : Int → Int) (drawnEdge_0 : Int → Int) (pieceOf_0 : Int → Int) (bestWay_0 : Int → Int) (gx : Int) (k1 : 0 ≤ x1 ∧ x1 ≤ 80) (k2 : (-2) ≤ x2 ∧ x2 ≤ 26) (k3 : 0 ≤ x3 ∧ x3 ≤ 80) (k4 : 0 ≤ x4 ∧ x4 ≤ 0) (k5 : 0 ≤ x5 ∧ x5 ≤ 0) (d0 : x3 + 0 ≤ x1 ∧ x1 ≤ x3 + 4294967296) (f0 : x3 ≤ x1) (g1 : x3 = pm_0) (f2 : GOK (pn_0) (pm_0) (pt_0) (ph_0)) (f3 : STB (pn_0) (pm_0) (pt_0) (ph_0) (alive_0)) (f4 : STR (pn_0) (rowMany_0) (pt_0) (ph_0) (row_0)) (f5 : onlyPiece_0 = (-1)) (f6 : (-1) * rowMany_0 + ((-1) * x2 + 0) ≤ (-26)) (f7 : DRR (pn_0) (rowMany_0) (drawnNode_0) (row_0)) (f8 : DEK (pt_0) (ph_0) (drawnNode_0) (drawnEdge_0) (x1)) (f9 : (rowMany_0 + 1) ≤ pn_0) (hK_0_33 : ∀ j : Int, 0 ≤ j → j < 80 → 0 ≤ pt_0 j ∧ pt_0 j ≤ 24) (hK_0_34 : ∀ j : Int, 0 ≤ j → j < 80 → 0 ≤ ph_0 j ∧ ph_0 j ≤ 24) (hK_0_35 : ∀ j : Int, 0 ≤ j → j < 80 → 0 ≤ alive_0 j ∧ alive_0 j ≤ 1) (hK_0_42 : ∀ j : Int, 0 ≤ j → j < 26 → 0 ≤ drawnNode_0 j ∧ drawnNode_0 j ≤ 1) (hK_0_43 : ∀ j : Int, 0 ≤ j → j < 80 → 0 ≤ drawnEdge_0 j ∧ drawnEdge_0 j ≤ 1) (hK_0_44 : ∀ j : Int, 0 ≤ j → j < 80 → (-1) ≤ pieceOf_0 j ∧ pieceOf_0 j ≤ 79) (hK_0_52 : ∀ j : Int, 0 ≤ j → j < 30 → 0 ≤ bestWay_0 j ∧ bestWay_0 j ≤ 24) (hK_0_117 : ∀ j : Int, 0 ≤ j → j < 100 → 0 ≤ row_0 j ∧ row_0 j ≤ 75) (kz_0_31 : 0 ≤ pn_0 ∧ pn_0 ≤ 25) (kz_0_32 : 0 ≤ pm_0 ∧ pm_0 ≤ 80) (kz_0_49 : (-1) ≤ onlyPiece_0 ∧ onlyPiece_0 ≤ 79) (kz_0_125 : 0 ≤ rowMany_0 ∧ rowMany_0 ≤ 100) (ex2 : gx = 0 + (1 * x2 + 0)) (ex3 : (-2) ≤ gx ∧ gx ≤ 26) : (rowMany_0 + 1) ≤ pn_0 := by
  first
    | omega
    | (have h := ‹STB _ _ _ _ _›.1.2.2; omega)
    | (have h := ‹STR _ _ _ _ _›.1; omega)
    | (have h := ‹STR _ _ _ _ _›.1
       have w := ‹STR _ _ _ _ _›.2.1 x1 (by omega) (by omega)
       omega)
    | (have h := bc_len ‹BC1 _ _ _ _ _ _ _›
       have h2 := ‹STR _ _ _ _ _›.1
       omega)
    | (have h := (sb_way ‹SB1 _ _ _ _ _ _ _ _ _ _ _ _› (by omega)).1
       have h2 := ‹STR _ _ _ _ _›.1
       omega)
    | (have h := ‹WYM _ _ _ _›.1
       have h2 := ‹STR _ _ _ _ _›.1
       omega)
set_option maxHeartbeats 4000000 in
theorem vc_Mo_stOrder_7_9 (x1 : Int) (x2 : Int) (x3 : Int) (x4 : Int) (x5 : Int) (pm_0 : Int) (pt_0 : Int → Int) (ph_0 : Int → Int) (pn_0 : Int) (alive_0 : Int → Int) (row_0 : Int → Int) (rowMany_0 : Int) (onlyPiece_0 : Int) (drawnNode_0 : Int → Int) (drawnEdge_0 : Int → Int) (pieceOf_0 : Int → Int) (bestWay_0 : Int → Int) (gx : Int) (k1 : 0 ≤ x1 ∧ x1 ≤ 80) (k2 : (-2) ≤ x2 ∧ x2 ≤ 26) (k3 : 0 ≤ x3 ∧ x3 ≤ 80) (k4 : 0 ≤ x4 ∧ x4 ≤ 0) (k5 : 0 ≤ x5 ∧ x5 ≤ 0) (d0 : x3 + 0 ≤ x1 ∧ x1 ≤ x3 + 4294967296) (f0 : x3 ≤ x1) (g1 : x3 = pm_0) (f2 : GOK (pn_0) (pm_0) (pt_0) (ph_0)) (f3 : STB (pn_0) (pm_0) (pt_0) (ph_0) (alive_0)) (f4 : STR (pn_0) (rowMany_0) (pt_0) (ph_0) (row_0)) (f5 : onlyPiece_0 = (-1)) (f6 : (-1) * rowMany_0 + ((-1) * x2 + 0) ≤ (-26)) (f7 : DRR (pn_0) (rowMany_0) (drawnNode_0) (row_0)) (f8 : DEK (pt_0) (ph_0) (drawnNode_0) (drawnEdge_0) (x1)) (f9 : (rowMany_0 + 1) ≤ pn_0) (hK_0_33 : ∀ j : Int, 0 ≤ j → j < 80 → 0 ≤ pt_0 j ∧ pt_0 j ≤ 24) (hK_0_34 : ∀ j : Int, 0 ≤ j → j < 80 → 0 ≤ ph_0 j ∧ ph_0 j ≤ 24) (hK_0_35 : ∀ j : Int, 0 ≤ j → j < 80 → 0 ≤ alive_0 j ∧ alive_0 j ≤ 1) (hK_0_42 : ∀ j : Int, 0 ≤ j → j < 26 → 0 ≤ drawnNode_0 j ∧ drawnNode_0 j ≤ 1) (hK_0_43 : ∀ j : Int, 0 ≤ j → j < 80 → 0 ≤ drawnEdge_0 j ∧ drawnEdge_0 j ≤ 1) (hK_0_44 : ∀ j : Int, 0 ≤ j → j < 80 → (-1) ≤ pieceOf_0 j ∧ pieceOf_0 j ≤ 79) (hK_0_52 : ∀ j : Int, 0 ≤ j → j < 30 → 0 ≤ bestWay_0 j ∧ bestWay_0 j ≤ 24) (hK_0_117 : ∀ j : Int, 0 ≤ j → j < 100 → 0 ≤ row_0 j ∧ row_0 j ≤ 75) (kz_0_31 : 0 ≤ pn_0 ∧ pn_0 ≤ 25) (kz_0_32 : 0 ≤ pm_0 ∧ pm_0 ≤ 80) (kz_0_49 : (-1) ≤ onlyPiece_0 ∧ onlyPiece_0 ≤ 79) (kz_0_125 : 0 ≤ rowMany_0 ∧ rowMany_0 ≤ 100) (ex2 : gx = 0 + (1 * x2 + 0)) (ex3 : (-2) ≤ gx ∧ gx ≤ 26) : SA1 (pn_0) (pm_0) (onlyPiece_0) (pt_0) (ph_0) (drawnEdge_0) (pieceOf_0) (drawnNode_0) (bestWay_0) (x4) (x5) := by
  first
    | exact sa_0 (by omega) (by omega) (by omega)
    | exact sa_skip ‹SA1 _ _ _ _ _ _ _ _ _ _ _› (by omega) (by omega)
    | exact sa_next ‹SB1 _ _ _ _ _ _ _ _ _ _ _ _› (by omega) (by omega)
def o_Mo_stOrder_7 : or_T := (155, 6, [(0, (2, 0, 0, [165])), (1, (0, 0, 80, [])), (2, (0, -2, 26, [])), (3, (0, 0, 80, [])), (4, (0, 0, 0, [])), (5, (0, 0, 0, []))], [(7, [1, 3], [3]), (9, [3, 0], [32]), (20, [0], [60, 2, 2, 75, 31, 32, 33, 34]), (20, [0], [60, 2, 3, 297, 31, 32, 33, 34, 35]), (20, [0], [60, 2, 3, 298, 31, 125, 33, 34, 117]), (20, [0], [50, 1, 0, 49, 1, 3, 2, 0, 49, 0, -1]), (20, [0, 2], [30, -26, -1, 1, 125, -1, 0, 0]), (20, [0], [60, 2, 2, 301, 31, 125, 42, 117]), (20, [0, 1], [60, 0, 4, 302, 33, 34, 42, 43]), (20, [0], [50, 2, 0, 125, 31, 0, 7, 4, 3, 2, 0, 125, 0, 1, 2, 0, 31])], [], [(0, -2, 26, [])], [(20, [0], [60, 2, 2, 75, 31, 32, 33, 34]), (20, [0], [60, 2, 3, 297, 31, 32, 33, 34, 35]), (20, [0], [60, 2, 3, 298, 31, 125, 33, 34, 117]), (20, [0], [50, 1, 0, 49, 1, 3, 2, 0, 49, 0, -1]), (20, [0, 6], [30, -26, -1, 1, 125, -1, 0, 0]), (20, [0], [60, 2, 2, 301, 31, 125, 42, 117]), (20, [0], [60, 1, 4, 303, 32, 33, 34, 42, 43]), (20, [0], [60, 1, 2, 122, 32, 35, 43]), (20, [0], [50, 2, 0, 125, 31, 0, 7, 4, 3, 2, 0, 125, 0, 1, 2, 0, 31]), (20, [0, 4, 5], [60, 3, 6, 305, 31, 32, 49, 33, 34, 43, 44, 42, 52])], [(6, 2, 0, 0)], [(1, 3, 0, 4294967296)])
theorem oo_Mo_stOrder_7 {kA : Nat → ClassId} : or_ok PRD kA GG o_Mo_stOrder_7 := by
  refine or_mk fun A ta ws vs hD hth hl => ?_
  intro t0 r0 t1 k1 t2 k2 t3 k3 t4 k4 t5 k5 d0 f0 f1 f2 f3 f4 f5 f6 f7 f8 f9
  replace f0 := shm_2 f0
  replace f1 := shm_525 f1
  replace f2 := shm_575 f2
  replace f3 := shm_1749 f3
  replace f4 := shm_1001 f4
  replace f5 := shm_1675 f5
  replace f6 := shm_1750 f6
  replace f7 := shm_1755 f7
  replace f8 := shm_1756 f8
  replace f9 := shm_1752 f9
  have cr_0_33 := fdq_117 hD hth r0
  have cr_0_34 := fdq_118 hD hth r0
  have cr_0_35 := fdq_132 hD hth r0
  have cr_0_42 := fdq_136 hD hth r0
  have cr_0_43 := fdq_137 hD hth r0
  have cr_0_44 := fdq_138 hD hth r0
  have cr_0_52 := fdq_236 hD hth r0
  have cr_0_117 := fdq_181 hD hth r0
  have g1 : v_iv (n_v vs 3) = w_fi ws (n_v vs 0) 32 := congrArg v_iv f1
  have hK_0_33 := elq_60 hD hth cr_0_33
  have hK_0_34 := elq_61 hD hth cr_0_34
  have hK_0_35 := elq_72 hD hth cr_0_35
  have hK_0_42 := elq_75 hD hth cr_0_42
  have hK_0_43 := elq_76 hD hth cr_0_43
  have hK_0_44 := elq_77 hD hth cr_0_44
  have hK_0_52 := elq_147 hD hth cr_0_52
  have hK_0_117 := elq_108 hD hth cr_0_117
  have kz_0_31 := fdq_145 hD hth r0
  have kz_0_32 := fdq_140 hD hth r0
  have kz_0_49 := fdq_146 hD hth r0
  have kz_0_125 := fdq_182 hD hth r0
  obtain ⟨x, ex, hx⟩ := iv_ex (ta := ta) (lo := (-2)) (hi := 26) (z := 0 + (1 * v_iv (n_v vs 2) + 0)) (by omega) (by omega) (by omega) (by omega)
  have ex2 : v_iv (Value.int x) = 0 + (1 * v_iv (n_v vs 2) + 0) := ex
  have ex3 : (-2) ≤ v_iv (Value.int x) ∧ v_iv (Value.int x) ≤ 26 := tv_rng hx
  have e_0 : n_v (vs ++ [Value.int x]) 0 = n_v vs 0 := n_v_old (by rw [hl]; decide)
  have e_4 : n_v (vs ++ [Value.int x]) 4 = n_v vs 4 := n_v_old (by rw [hl]; decide)
  have e_5 : n_v (vs ++ [Value.int x]) 5 = n_v vs 5 := n_v_old (by rw [hl]; decide)
  have e_6 : n_v (vs ++ [Value.int x]) 6 = Value.int x := n_v_new hl
  have nf0 : fc_1 PRD (20, [0], [60, 2, 2, 75, 31, 32, 33, 34]) ws (vs ++ [Value.int x]) := by
    refine ⟨nf_inA hl rfl, sgq_575 ?_⟩
    · show GOK (w_fi ws (n_v (vs ++ [Value.int x]) 0) 31) (w_fi ws (n_v (vs ++ [Value.int x]) 0) 32) (w_ei ws (w_ar ws (n_v (vs ++ [Value.int x]) 0) 33)) (w_ei ws (w_ar ws (n_v (vs ++ [Value.int x]) 0) 34))
      rw [e_0]
      exact vc_Mo_stOrder_7_0 (v_iv (n_v vs 1)) (v_iv (n_v vs 2)) (v_iv (n_v vs 3)) (v_iv (n_v vs 4)) (v_iv (n_v vs 5)) (w_fi ws (n_v vs 0) 32) (w_ei ws (w_ar ws (n_v vs 0) 33)) (w_ei ws (w_ar ws (n_v vs 0) 34)) (w_fi ws (n_v vs 0) 31) (w_ei ws (w_ar ws (n_v vs 0) 35)) (w_ei ws (w_ar ws (n_v vs 0) 117)) (w_fi ws (n_v vs 0) 125) (w_fi ws (n_v vs 0) 49) (w_ei ws (w_ar ws (n_v vs 0) 42)) (w_ei ws (w_ar ws (n_v vs 0) 43)) (w_ei ws (w_ar ws (n_v vs 0) 44)) (w_ei ws (w_ar ws (n_v vs 0) 52)) (v_iv (Value.int x)) k1 k2 k3 k4 k5 d0 f0 g1 f2 f3 f4 f5 f6 f7 f8 f9 hK_0_33 hK_0_34 hK_0_35 hK_0_42 hK_0_43 hK_0_44 hK_0_52 hK_0_117 kz_0_31 kz_0_32 kz_0_49 kz_0_125 ex2 ex3
  have nf1 : fc_1 PRD (20, [0], [60, 2, 3, 297, 31, 32, 33, 34, 35]) ws (vs ++ [Value.int x]) := by
    refine ⟨nf_inA hl rfl, sgq_1749 ?_⟩
    · show STB (w_fi ws (n_v (vs ++ [Value.int x]) 0) 31) (w_fi ws (n_v (vs ++ [Value.int x]) 0) 32) (w_ei ws (w_ar ws (n_v (vs ++ [Value.int x]) 0) 33)) (w_ei ws (w_ar ws (n_v (vs ++ [Value.int x]) 0) 34)) (w_ei ws (w_ar ws (n_v (vs ++ [Value.int x]) 0) 35))
      rw [e_0]
      exact vc_Mo_stOrder_7_1 (v_iv (n_v vs 1)) (v_iv (n_v vs 2)) (v_iv (n_v vs 3)) (v_iv (n_v vs 4)) (v_iv (n_v vs 5)) (w_fi ws (n_v vs 0) 32) (w_ei ws (w_ar ws (n_v vs 0) 33)) (w_ei ws (w_ar ws (n_v vs 0) 34)) (w_fi ws (n_v vs 0) 31) (w_ei ws (w_ar ws (n_v vs 0) 35)) (w_ei ws (w_ar ws (n_v vs 0) 117)) (w_fi ws (n_v vs 0) 125) (w_fi ws (n_v vs 0) 49) (w_ei ws (w_ar ws (n_v vs 0) 42)) (w_ei ws (w_ar ws (n_v vs 0) 43)) (w_ei ws (w_ar ws (n_v vs 0) 44)) (w_ei ws (w_ar ws (n_v vs 0) 52)) (v_iv (Value.int x)) k1 k2 k3 k4 k5 d0 f0 g1 f2 f3 f4 f5 f6 f7 f8 f9 hK_0_33 hK_0_34 hK_0_35 hK_0_42 hK_0_43 hK_0_44 hK_0_52 hK_0_117 kz_0_31 kz_0_32 kz_0_49 kz_0_125 ex2 ex3
  have nf2 : fc_1 PRD (20, [0], [60, 2, 3, 298, 31, 125, 33, 34, 117]) ws (vs ++ [Value.int x]) := by
    refine ⟨nf_inA hl rfl, sgq_1001 ?_⟩
    · show STR (w_fi ws (n_v (vs ++ [Value.int x]) 0) 31) (w_fi ws (n_v (vs ++ [Value.int x]) 0) 125) (w_ei ws (w_ar ws (n_v (vs ++ [Value.int x]) 0) 33)) (w_ei ws (w_ar ws (n_v (vs ++ [Value.int x]) 0) 34)) (w_ei ws (w_ar ws (n_v (vs ++ [Value.int x]) 0) 117))
      rw [e_0]
      exact vc_Mo_stOrder_7_2 (v_iv (n_v vs 1)) (v_iv (n_v vs 2)) (v_iv (n_v vs 3)) (v_iv (n_v vs 4)) (v_iv (n_v vs 5)) (w_fi ws (n_v vs 0) 32) (w_ei ws (w_ar ws (n_v vs 0) 33)) (w_ei ws (w_ar ws (n_v vs 0) 34)) (w_fi ws (n_v vs 0) 31) (w_ei ws (w_ar ws (n_v vs 0) 35)) (w_ei ws (w_ar ws (n_v vs 0) 117)) (w_fi ws (n_v vs 0) 125) (w_fi ws (n_v vs 0) 49) (w_ei ws (w_ar ws (n_v vs 0) 42)) (w_ei ws (w_ar ws (n_v vs 0) 43)) (w_ei ws (w_ar ws (n_v vs 0) 44)) (w_ei ws (w_ar ws (n_v vs 0) 52)) (v_iv (Value.int x)) k1 k2 k3 k4 k5 d0 f0 g1 f2 f3 f4 f5 f6 f7 f8 f9 hK_0_33 hK_0_34 hK_0_35 hK_0_42 hK_0_43 hK_0_44 hK_0_52 hK_0_117 kz_0_31 kz_0_32 kz_0_49 kz_0_125 ex2 ex3
  have nf3 : fc_1 PRD (20, [0], [50, 1, 0, 49, 1, 3, 2, 0, 49, 0, -1]) ws (vs ++ [Value.int x]) := by
    refine ⟨nf_inA hl rfl, sgq_1675 ?_⟩
    · show w_fi ws (n_v (vs ++ [Value.int x]) 0) 49 = (-1)
      rw [e_0]
      exact vc_Mo_stOrder_7_3 (v_iv (n_v vs 1)) (v_iv (n_v vs 2)) (v_iv (n_v vs 3)) (v_iv (n_v vs 4)) (v_iv (n_v vs 5)) (w_fi ws (n_v vs 0) 32) (w_ei ws (w_ar ws (n_v vs 0) 33)) (w_ei ws (w_ar ws (n_v vs 0) 34)) (w_fi ws (n_v vs 0) 31) (w_ei ws (w_ar ws (n_v vs 0) 35)) (w_ei ws (w_ar ws (n_v vs 0) 117)) (w_fi ws (n_v vs 0) 125) (w_fi ws (n_v vs 0) 49) (w_ei ws (w_ar ws (n_v vs 0) 42)) (w_ei ws (w_ar ws (n_v vs 0) 43)) (w_ei ws (w_ar ws (n_v vs 0) 44)) (w_ei ws (w_ar ws (n_v vs 0) 52)) (v_iv (Value.int x)) k1 k2 k3 k4 k5 d0 f0 g1 f2 f3 f4 f5 f6 f7 f8 f9 hK_0_33 hK_0_34 hK_0_35 hK_0_42 hK_0_43 hK_0_44 hK_0_52 hK_0_117 kz_0_31 kz_0_32 kz_0_49 kz_0_125 ex2 ex3
  have nf4 : fc_1 PRD (20, [0, 6], [30, -26, -1, 1, 125, -1, 0, 0]) ws (vs ++ [Value.int x]) := by
    refine ⟨nf_inA hl rfl, sgq_1750 ?_⟩
    · show (-1) * w_fi ws (n_v (vs ++ [Value.int x]) 0) 125 + ((-1) * v_iv (n_v (vs ++ [Value.int x]) 6) + 0) ≤ (-26)
      simp only [e_0, e_6]
      exact vc_Mo_stOrder_7_4 (v_iv (n_v vs 1)) (v_iv (n_v vs 2)) (v_iv (n_v vs 3)) (v_iv (n_v vs 4)) (v_iv (n_v vs 5)) (w_fi ws (n_v vs 0) 32) (w_ei ws (w_ar ws (n_v vs 0) 33)) (w_ei ws (w_ar ws (n_v vs 0) 34)) (w_fi ws (n_v vs 0) 31) (w_ei ws (w_ar ws (n_v vs 0) 35)) (w_ei ws (w_ar ws (n_v vs 0) 117)) (w_fi ws (n_v vs 0) 125) (w_fi ws (n_v vs 0) 49) (w_ei ws (w_ar ws (n_v vs 0) 42)) (w_ei ws (w_ar ws (n_v vs 0) 43)) (w_ei ws (w_ar ws (n_v vs 0) 44)) (w_ei ws (w_ar ws (n_v vs 0) 52)) (v_iv (Value.int x)) k1 k2 k3 k4 k5 d0 f0 g1 f2 f3 f4 f5 f6 f7 f8 f9 hK_0_33 hK_0_34 hK_0_35 hK_0_42 hK_0_43 hK_0_44 hK_0_52 hK_0_117 kz_0_31 kz_0_32 kz_0_49 kz_0_125 ex2 ex3
  have nf5 : fc_1 PRD (20, [0], [60, 2, 2, 301, 31, 125, 42, 117]) ws (vs ++ [Value.int x]) := by
    refine ⟨nf_inA hl rfl, sgq_1755 ?_⟩
    · show DRR (w_fi ws (n_v (vs ++ [Value.int x]) 0) 31) (w_fi ws (n_v (vs ++ [Value.int x]) 0) 125) (w_ei ws (w_ar ws (n_v (vs ++ [Value.int x]) 0) 42)) (w_ei ws (w_ar ws (n_v (vs ++ [Value.int x]) 0) 117))
      rw [e_0]
      exact vc_Mo_stOrder_7_5 (v_iv (n_v vs 1)) (v_iv (n_v vs 2)) (v_iv (n_v vs 3)) (v_iv (n_v vs 4)) (v_iv (n_v vs 5)) (w_fi ws (n_v vs 0) 32) (w_ei ws (w_ar ws (n_v vs 0) 33)) (w_ei ws (w_ar ws (n_v vs 0) 34)) (w_fi ws (n_v vs 0) 31) (w_ei ws (w_ar ws (n_v vs 0) 35)) (w_ei ws (w_ar ws (n_v vs 0) 117)) (w_fi ws (n_v vs 0) 125) (w_fi ws (n_v vs 0) 49) (w_ei ws (w_ar ws (n_v vs 0) 42)) (w_ei ws (w_ar ws (n_v vs 0) 43)) (w_ei ws (w_ar ws (n_v vs 0) 44)) (w_ei ws (w_ar ws (n_v vs 0) 52)) (v_iv (Value.int x)) k1 k2 k3 k4 k5 d0 f0 g1 f2 f3 f4 f5 f6 f7 f8 f9 hK_0_33 hK_0_34 hK_0_35 hK_0_42 hK_0_43 hK_0_44 hK_0_52 hK_0_117 kz_0_31 kz_0_32 kz_0_49 kz_0_125 ex2 ex3
  have nf6 : fc_1 PRD (20, [0], [60, 1, 4, 303, 32, 33, 34, 42, 43]) ws (vs ++ [Value.int x]) := by
    refine ⟨nf_inA hl rfl, sgq_1757 ?_⟩
    · show DEM (w_fi ws (n_v (vs ++ [Value.int x]) 0) 32) (w_ei ws (w_ar ws (n_v (vs ++ [Value.int x]) 0) 33)) (w_ei ws (w_ar ws (n_v (vs ++ [Value.int x]) 0) 34)) (w_ei ws (w_ar ws (n_v (vs ++ [Value.int x]) 0) 42)) (w_ei ws (w_ar ws (n_v (vs ++ [Value.int x]) 0) 43))
      rw [e_0]
      exact vc_Mo_stOrder_7_6 (v_iv (n_v vs 1)) (v_iv (n_v vs 2)) (v_iv (n_v vs 3)) (v_iv (n_v vs 4)) (v_iv (n_v vs 5)) (w_fi ws (n_v vs 0) 32) (w_ei ws (w_ar ws (n_v vs 0) 33)) (w_ei ws (w_ar ws (n_v vs 0) 34)) (w_fi ws (n_v vs 0) 31) (w_ei ws (w_ar ws (n_v vs 0) 35)) (w_ei ws (w_ar ws (n_v vs 0) 117)) (w_fi ws (n_v vs 0) 125) (w_fi ws (n_v vs 0) 49) (w_ei ws (w_ar ws (n_v vs 0) 42)) (w_ei ws (w_ar ws (n_v vs 0) 43)) (w_ei ws (w_ar ws (n_v vs 0) 44)) (w_ei ws (w_ar ws (n_v vs 0) 52)) (v_iv (Value.int x)) k1 k2 k3 k4 k5 d0 f0 g1 f2 f3 f4 f5 f6 f7 f8 f9 hK_0_33 hK_0_34 hK_0_35 hK_0_42 hK_0_43 hK_0_44 hK_0_52 hK_0_117 kz_0_31 kz_0_32 kz_0_49 kz_0_125 ex2 ex3
  have nf7 : fc_1 PRD (20, [0], [60, 1, 2, 122, 32, 35, 43]) ws (vs ++ [Value.int x]) := by
    refine ⟨nf_inA hl rfl, sgq_1455 ?_⟩
    · show UA (w_fi ws (n_v (vs ++ [Value.int x]) 0) 32) (w_ei ws (w_ar ws (n_v (vs ++ [Value.int x]) 0) 35)) (w_ei ws (w_ar ws (n_v (vs ++ [Value.int x]) 0) 43))
      rw [e_0]
      exact vc_Mo_stOrder_7_7 (v_iv (n_v vs 1)) (v_iv (n_v vs 2)) (v_iv (n_v vs 3)) (v_iv (n_v vs 4)) (v_iv (n_v vs 5)) (w_fi ws (n_v vs 0) 32) (w_ei ws (w_ar ws (n_v vs 0) 33)) (w_ei ws (w_ar ws (n_v vs 0) 34)) (w_fi ws (n_v vs 0) 31) (w_ei ws (w_ar ws (n_v vs 0) 35)) (w_ei ws (w_ar ws (n_v vs 0) 117)) (w_fi ws (n_v vs 0) 125) (w_fi ws (n_v vs 0) 49) (w_ei ws (w_ar ws (n_v vs 0) 42)) (w_ei ws (w_ar ws (n_v vs 0) 43)) (w_ei ws (w_ar ws (n_v vs 0) 44)) (w_ei ws (w_ar ws (n_v vs 0) 52)) (v_iv (Value.int x)) k1 k2 k3 k4 k5 d0 f0 g1 f2 f3 f4 f5 f6 f7 f8 f9 hK_0_33 hK_0_34 hK_0_35 hK_0_42 hK_0_43 hK_0_44 hK_0_52 hK_0_117 kz_0_31 kz_0_32 kz_0_49 kz_0_125 ex2 ex3
  have nf8 : fc_1 PRD (20, [0], [50, 2, 0, 125, 31, 0, 7, 4, 3, 2, 0, 125, 0, 1, 2, 0, 31]) ws (vs ++ [Value.int x]) := by
    refine ⟨nf_inA hl rfl, sgq_1752 ?_⟩
    · show (w_fi ws (n_v (vs ++ [Value.int x]) 0) 125 + 1) ≤ w_fi ws (n_v (vs ++ [Value.int x]) 0) 31
      rw [e_0]
      exact vc_Mo_stOrder_7_8 (v_iv (n_v vs 1)) (v_iv (n_v vs 2)) (v_iv (n_v vs 3)) (v_iv (n_v vs 4)) (v_iv (n_v vs 5)) (w_fi ws (n_v vs 0) 32) (w_ei ws (w_ar ws (n_v vs 0) 33)) (w_ei ws (w_ar ws (n_v vs 0) 34)) (w_fi ws (n_v vs 0) 31) (w_ei ws (w_ar ws (n_v vs 0) 35)) (w_ei ws (w_ar ws (n_v vs 0) 117)) (w_fi ws (n_v vs 0) 125) (w_fi ws (n_v vs 0) 49) (w_ei ws (w_ar ws (n_v vs 0) 42)) (w_ei ws (w_ar ws (n_v vs 0) 43)) (w_ei ws (w_ar ws (n_v vs 0) 44)) (w_ei ws (w_ar ws (n_v vs 0) 52)) (v_iv (Value.int x)) k1 k2 k3 k4 k5 d0 f0 g1 f2 f3 f4 f5 f6 f7 f8 f9 hK_0_33 hK_0_34 hK_0_35 hK_0_42 hK_0_43 hK_0_44 hK_0_52 hK_0_117 kz_0_31 kz_0_32 kz_0_49 kz_0_125 ex2 ex3
  have nf9 : fc_1 PRD (20, [0, 4, 5], [60, 3, 6, 305, 31, 32, 49, 33, 34, 43, 44, 42, 52]) ws (vs ++ [Value.int x]) := by
    refine ⟨nf_inA hl rfl, sgq_1758 ?_⟩
    · show SA1 (w_fi ws (n_v (vs ++ [Value.int x]) 0) 31) (w_fi ws (n_v (vs ++ [Value.int x]) 0) 32) (w_fi ws (n_v (vs ++ [Value.int x]) 0) 49) (w_ei ws (w_ar ws (n_v (vs ++ [Value.int x]) 0) 33)) (w_ei ws (w_ar ws (n_v (vs ++ [Value.int x]) 0) 34)) (w_ei ws (w_ar ws (n_v (vs ++ [Value.int x]) 0) 43)) (w_ei ws (w_ar ws (n_v (vs ++ [Value.int x]) 0) 44)) (w_ei ws (w_ar ws (n_v (vs ++ [Value.int x]) 0) 42)) (w_ei ws (w_ar ws (n_v (vs ++ [Value.int x]) 0) 52)) (v_iv (n_v (vs ++ [Value.int x]) 4)) (v_iv (n_v (vs ++ [Value.int x]) 5))
      simp only [e_0, e_4, e_5]
      exact vc_Mo_stOrder_7_9 (v_iv (n_v vs 1)) (v_iv (n_v vs 2)) (v_iv (n_v vs 3)) (v_iv (n_v vs 4)) (v_iv (n_v vs 5)) (w_fi ws (n_v vs 0) 32) (w_ei ws (w_ar ws (n_v vs 0) 33)) (w_ei ws (w_ar ws (n_v vs 0) 34)) (w_fi ws (n_v vs 0) 31) (w_ei ws (w_ar ws (n_v vs 0) 35)) (w_ei ws (w_ar ws (n_v vs 0) 117)) (w_fi ws (n_v vs 0) 125) (w_fi ws (n_v vs 0) 49) (w_ei ws (w_ar ws (n_v vs 0) 42)) (w_ei ws (w_ar ws (n_v vs 0) 43)) (w_ei ws (w_ar ws (n_v vs 0) 44)) (w_ei ws (w_ar ws (n_v vs 0) 52)) (v_iv (Value.int x)) k1 k2 k3 k4 k5 d0 f0 g1 f2 f3 f4 f5 f6 f7 f8 f9 hK_0_33 hK_0_34 hK_0_35 hK_0_42 hK_0_43 hK_0_44 hK_0_52 hK_0_117 kz_0_31 kz_0_32 kz_0_49 kz_0_125 ex2 ex3
  obtain ⟨x0, e0, _, _⟩ := tv_int t2 rfl
  have e1 : v_iv (n_v vs 2) = x0.toInt := by rw [e0]; rfl
  have ho : sy_ofs (vs ++ [Value.int x]) (6, 2, 0, 0) := by
    refine ⟨x, x0, by rw [List.getElem?_append_right (by rw [hl]; decide), hl]; rfl, ?_, ?_, ?_⟩
    · rw [List.getElem?_append_left (by rw [hl]; decide)]; exact n_v_some (by rw [hl]; decide) e0
    · show x0.toInt + 0 ≤ x.toInt; omega
    · show x.toInt ≤ x0.toInt + 0; omega
  exact ⟨(fun _ h => (by cases h)), [Value.int x], ag_one hx, List.forall_mem_cons.mpr ⟨⟨show (20 : Nat) < 100 from by decide, nf0⟩, List.forall_mem_cons.mpr ⟨⟨show (20 : Nat) < 100 from by decide, nf1⟩, List.forall_mem_cons.mpr ⟨⟨show (20 : Nat) < 100 from by decide, nf2⟩, List.forall_mem_cons.mpr ⟨⟨show (20 : Nat) < 100 from by decide, nf3⟩, List.forall_mem_cons.mpr ⟨⟨show (20 : Nat) < 100 from by decide, nf4⟩, List.forall_mem_cons.mpr ⟨⟨show (20 : Nat) < 100 from by decide, nf5⟩, List.forall_mem_cons.mpr ⟨⟨show (20 : Nat) < 100 from by decide, nf6⟩, List.forall_mem_cons.mpr ⟨⟨show (20 : Nat) < 100 from by decide, nf7⟩, List.forall_mem_cons.mpr ⟨⟨show (20 : Nat) < 100 from by decide, nf8⟩, List.forall_mem_cons.mpr ⟨⟨show (20 : Nat) < 100 from by decide, nf9⟩, (fun _ h => (by cases h))⟩⟩⟩⟩⟩⟩⟩⟩⟩⟩, List.forall_mem_cons.mpr ⟨ho, (fun _ h => (by cases h))⟩⟩
set_option maxHeartbeats 4000000 in
theorem vc_Mo_stOrder_8_0 (x1 : Int) (x2 : Int) (x3 : Int) (x7 : Int) (x8 : Int) (x9 : Int) (x10 : Int) (pt_0 : Int → Int) (ph_0 : Int → Int) (pn_0 : Int) (pm_0 : Int) (alive_0 : Int → Int) (row_0 : Int → Int) (rowMany_0 : Int) (onlyPiece_0 : Int) (drawnNode_0 : Int → Int) (drawnNode_1 : Int → Int) (pt_1 : Int → Int) (pm_1 : Int) (ph_1 : Int → Int) (pn_1 : Int) (alive_1 : Int → Int) (row_1 : Int → Int) (rowMany_1 : Int) (onlyPiece_1 : Int) (drawnEdge_1 : Int → Int) (drawnEdge_0 : Int → Int) (k1 : 0 ≤ x1 ∧ x1 ≤ 79) (k2 : (-2) ≤ x2 ∧ x2 ≤ 26) (k3 : 1 ≤ x3 ∧ x3 ≤ 80) (k7 : 0 ≤ x7 ∧ x7 ≤ 24) (k8 : 0 ≤ x8 ∧ x8 ≤ 0) (k9 : 0 ≤ x9 ∧ x9 ≤ 0) (k10 : 1 ≤ x10 ∧ x10 ≤ 80) (d0 : x1 + 1 ≤ x10 ∧ x10 ≤ x1 + 1) (d1 : x3 + (-4294967296) ≤ x10 ∧ x10 ≤ x3 + 0) (d2 : x3 + (-4294967296) ≤ x1 ∧ x1 ≤ x3 + (-1)) (f0 : x10 = x1 + 1) (f1 : GOK (pn_0) (pm_0) (pt_0) (ph_0)) (f2 : STB (pn_0) (pm_0) (pt_0) (ph_0) (alive_0)) (f3 : STR (pn_0) (rowMany_0) (pt_0) (ph_0) (row_0)) (f4 : onlyPiece_0 = (-1)) (f5 : (-1) * rowMany_0 + ((-1) * x2 + 0) ≤ (-26)) (f6 : DRR (pn_0) (rowMany_0) (drawnNode_0) (row_0)) (f7 : (rowMany_0 + 1) ≤ pn_0) (f9 : x8 = 0) (h10 : x8 = drawnNode_1 (x7)) (h11 : x7 = pt_1 (x1)) (f15 : x1 < x3) (g16 : x3 = pm_1) (f17 : GOK (pn_1) (pm_1) (pt_1) (ph_1)) (f18 : STB (pn_1) (pm_1) (pt_1) (ph_1) (alive_1)) (f19 : STR (pn_1) (rowMany_1) (pt_1) (ph_1) (row_1)) (f20 : onlyPiece_1 = (-1)) (f21 : (-1) * rowMany_1 + ((-1) * x2 + 0) ≤ (-26)) (f22 : DRR (pn_1) (rowMany_1) (drawnNode_1) (row_1)) (f23 : DEK (pt_1) (ph_1) (drawnNode_1) (drawnEdge_1) (x1)) (f24 : (rowMany_1 + 1) ≤ pn_1) (fe_0_31_1 : pn_0 = pn_1) (fe_0_32_1 : pm_0 = pm_1) (fe_0_49_1 : onlyPiece_0 = onlyPiece_1) (fe_0_125_1 : rowMany_0 = rowMany_1) (hE_0_33_1 : ∀ j : Int, pt_0 j = pt_1 j) (hK_0_33 : ∀ j : Int, 0 ≤ j → j < 80 → 0 ≤ pt_0 j ∧ pt_0 j ≤ 24) (hE_0_34_1 : ∀ j : Int, ph_0 j = ph_1 j) (hK_0_34 : ∀ j : Int, 0 ≤ j → j < 80 → 0 ≤ ph_0 j ∧ ph_0 j ≤ 24) (hE_0_35_1 : ∀ j : Int, alive_0 j = alive_1 j) (hK_0_35 : ∀ j : Int, 0 ≤ j → j < 80 → 0 ≤ alive_0 j ∧ alive_0 j ≤ 1) (hE_0_42_1 : ∀ j : Int, drawnNode_0 j = drawnNode_1 j) (hK_0_42 : ∀ j : Int, 0 ≤ j → j < 26 → 0 ≤ drawnNode_0 j ∧ drawnNode_0 j ≤ 1) (hE_0_43_1 : ∀ j : Int, 0 ≤ j → (j = x1 → drawnEdge_0 j = x9) ∧ (j ≠ x1 → drawnEdge_0 j = drawnEdge_1 j)) (hK_0_43 : ∀ j : Int, 0 ≤ j → j < 80 → 0 ≤ drawnEdge_0 j ∧ drawnEdge_0 j ≤ 1) (hE_0_117_1 : ∀ j : Int, row_0 j = row_1 j) (hK_0_117 : ∀ j : Int, 0 ≤ j → j < 100 → 0 ≤ row_0 j ∧ row_0 j ≤ 75) (kz_0_31 : 0 ≤ pn_0 ∧ pn_0 ≤ 25) (kz_0_32 : 0 ≤ pm_0 ∧ pm_0 ≤ 80) (kz_0_49 : (-1) ≤ onlyPiece_0 ∧ onlyPiece_0 ≤ 79) (kz_0_125 : 0 ≤ rowMany_0 ∧ rowMany_0 ≤ 100) : DEK (pt_0) (ph_0) (drawnNode_0) (drawnEdge_0) (x10) := by
  subst fe_0_31_1
  subst fe_0_32_1
  subst fe_0_49_1
  subst fe_0_125_1
  have e_hE_0_33_1 := funext hE_0_33_1; subst e_hE_0_33_1
  have e_hE_0_34_1 := funext hE_0_34_1; subst e_hE_0_34_1
  have e_hE_0_35_1 := funext hE_0_35_1; subst e_hE_0_35_1
  have e_hE_0_42_1 := funext hE_0_42_1; subst e_hE_0_42_1
  have e_hE_0_117_1 := funext hE_0_117_1; subst e_hE_0_117_1
  first
    | (intro j a b; exfalso; omega)
    | exact dek_step ‹DEK _ _ _ _ _› (by omega) (by assumption) (by omega) (Or.inl ⟨by omega, fun w => w.1 (by skip; (first | subst h10 | skip); (first | subst h11 | skip); omega)⟩)
    | exact dek_step ‹DEK _ _ _ _ _› (by omega) (by assumption) (by omega) (Or.inl ⟨by omega, fun w => w.2 (by skip; (first | subst h10 | skip); (first | subst h11 | skip); omega)⟩)
    | exact dek_step ‹DEK _ _ _ _ _› (by omega) (by assumption) (by omega) (Or.inr ⟨by omega, by skip; (first | subst h10 | skip); (first | subst h11 | skip); omega, by skip; (first | subst h10 | skip); (first | subst h11 | skip); omega⟩)
def o_Mo_stOrder_8 : or_T := (98, 11, [(0, (2, 0, 0, [165])), (1, (0, 0, 79, [])), (2, (0, -2, 26, [])), (3, (0, 1, 80, [])), (4, (2, 0, 0, [189])), (7, (0, 0, 24, [])), (8, (0, 0, 0, [])), (9, (0, 0, 0, [])), (10, (0, 1, 80, []))], [(6, [10, 1], [1]), (20, [0], [60, 2, 2, 75, 31, 32, 33, 34]), (20, [0], [60, 2, 3, 297, 31, 32, 33, 34, 35]), (20, [0], [60, 2, 3, 298, 31, 125, 33, 34, 117]), (20, [0], [50, 1, 0, 49, 1, 3, 2, 0, 49, 0, -1]), (20, [0, 2], [30, -26, -1, 1, 125, -1, 0, 0]), (20, [0], [60, 2, 2, 301, 31, 125, 42, 117]), (20, [0], [50, 2, 0, 125, 31, 0, 7, 4, 3, 2, 0, 125, 0, 1, 2, 0, 31]), (100, [4, 1, 9], []), (8, [8], [0]), (10, [8, 5, 7], []), (10, [7, 6, 1], []), (9, [6, 0], [33]), (9, [5, 0], [42]), (9, [4, 0], [43]), (7, [1, 3], [2]), (9, [3, 0], [32]), (20, [0], [60, 2, 2, 75, 31, 32, 33, 34]), (20, [0], [60, 2, 3, 297, 31, 32, 33, 34, 35]), (20, [0], [60, 2, 3, 298, 31, 125, 33, 34, 117]), (20, [0], [50, 1, 0, 49, 1, 3, 2, 0, 49, 0, -1]), (20, [0, 2], [30, -26, -1, 1, 125, -1, 0, 0]), (20, [0], [60, 2, 2, 301, 31, 125, 42, 117]), (20, [0, 1], [60, 0, 4, 302, 33, 34, 42, 43]), (20, [0], [50, 2, 0, 125, 31, 0, 7, 4, 3, 2, 0, 125, 0, 1, 2, 0, 31])], [], [], [(20, [0, 10], [60, 0, 4, 302, 33, 34, 42, 43])], [], [(10, 1, 1, 1), (10, 3, -4294967296, 0), (1, 3, -4294967296, -1)])
theorem oo_Mo_stOrder_8 {kA : Nat → ClassId} : or_ok PRD kA GG o_Mo_stOrder_8 := by
  refine or_mk fun A ta ws vs hD hth hl => ?_
  intro t0 r0 t1 k1 t2 k2 t3 k3 t4 r4 t7 k7 t8 k8 t9 k9 t10 k10 d0 d1 d2 f0 f1 f2 f3 f4 f5 f6 f7 ta1 w1 le1 s1 f9 f10 f11 f12 f13 f14 f15 f16 f17 f18 f19 f20 f21 f22 f23 f24
  have s1 : (∀ b j, w_el ws b j = if b = v_ad (n_v vs 4) ∧ j = (v_iv (n_v vs 1)).toNat then v_iv (n_v vs 9) else w_el w1 b j) ∧ ∀ b k, w_fd ws b k = w_fd w1 b k := s1.2
  replace f10 := shm_107 f10
  replace f11 := shm_107 f11
  replace f12 := shm_494 f12
  replace f13 := shm_531 f13
  replace f14 := shm_532 f14
  replace f16 := shm_525 f16
  replace f17 := shm_575 f17
  replace f18 := shm_1749 f18
  replace f19 := shm_1001 f19
  replace f22 := shm_1755 f22
  replace f23 := shm_1756 f23
  have ar_0_33_1 : w_ar w1 (n_v vs 0) 33 = w_ar ws (n_v vs 0) 33 := congrArg v_ad (s1.2 _ _).symm
  have cr_0_33 := fdq_117 hD hth r0
  have ar_0_34_1 : w_ar w1 (n_v vs 0) 34 = w_ar ws (n_v vs 0) 34 := congrArg v_ad (s1.2 _ _).symm
  have cr_0_34 := fdq_118 hD hth r0
  have ar_0_35_1 : w_ar w1 (n_v vs 0) 35 = w_ar ws (n_v vs 0) 35 := congrArg v_ad (s1.2 _ _).symm
  have cr_0_35 := fdq_132 hD hth r0
  have ar_0_42_1 : w_ar w1 (n_v vs 0) 42 = w_ar ws (n_v vs 0) 42 := congrArg v_ad (s1.2 _ _).symm
  have cr_0_42 := fdq_136 hD hth r0
  have ar_0_43_1 : w_ar w1 (n_v vs 0) 43 = w_ar ws (n_v vs 0) 43 := congrArg v_ad (s1.2 _ _).symm
  have cr_0_43 := fdq_137 hD hth r0
  have ar_0_117_1 : w_ar w1 (n_v vs 0) 117 = w_ar ws (n_v vs 0) 117 := congrArg v_ad (s1.2 _ _).symm
  have cr_0_117 := fdq_181 hD hth r0
  have ad_6 : v_ad (n_v vs 6) = w_ar ws (n_v vs 0) 33 := (congrArg v_ad f12).trans ar_0_33_1
  have ad_5 : v_ad (n_v vs 5) = w_ar ws (n_v vs 0) 42 := (congrArg v_ad f13).trans ar_0_42_1
  have ad_4 : v_ad (n_v vs 4) = w_ar ws (n_v vs 0) 43 := (congrArg v_ad f14).trans ar_0_43_1
  simp only [ad_5] at f10
  have h10 : v_iv (n_v vs 8) = w_ei w1 (w_ar ws (n_v vs 0) 42) (v_iv (n_v vs 7)) := f10
  simp only [ad_6] at f11
  have h11 : v_iv (n_v vs 7) = w_ei w1 (w_ar ws (n_v vs 0) 33) (v_iv (n_v vs 1)) := f11
  have g16 : v_iv (n_v vs 3) = w_fi w1 (n_v vs 0) 32 := congrArg v_iv f16
  simp only [ar_0_33_1, ar_0_34_1, ar_0_35_1, ar_0_117_1, ar_0_42_1, ar_0_43_1] at f17 f18 f19 f22 f23
  have fe_0_31_1 : w_fi ws (n_v vs 0) 31 = w_fi w1 (n_v vs 0) 31 := congrArg v_iv (s1.2 _ _)
  have fe_0_32_1 : w_fi ws (n_v vs 0) 32 = w_fi w1 (n_v vs 0) 32 := congrArg v_iv (s1.2 _ _)
  have fe_0_49_1 : w_fi ws (n_v vs 0) 49 = w_fi w1 (n_v vs 0) 49 := congrArg v_iv (s1.2 _ _)
  have fe_0_125_1 : w_fi ws (n_v vs 0) 125 = w_fi w1 (n_v vs 0) 125 := congrArg v_iv (s1.2 _ _)
  have hE_0_33_1 : ∀ j : Int, w_ei ws (w_ar ws (n_v vs 0) 33) j = w_ei w1 (w_ar ws (n_v vs 0) 33) j := el_kp s1.1 r4 cr_0_33 (by decide)
  have hK_0_33 := elq_60 hD hth cr_0_33
  have hE_0_34_1 : ∀ j : Int, w_ei ws (w_ar ws (n_v vs 0) 34) j = w_ei w1 (w_ar ws (n_v vs 0) 34) j := el_kp s1.1 r4 cr_0_34 (by decide)
  have hK_0_34 := elq_61 hD hth cr_0_34
  have hE_0_35_1 : ∀ j : Int, w_ei ws (w_ar ws (n_v vs 0) 35) j = w_ei w1 (w_ar ws (n_v vs 0) 35) j := el_kp s1.1 r4 cr_0_35 (by decide)
  have hK_0_35 := elq_72 hD hth cr_0_35
  have hE_0_42_1 : ∀ j : Int, w_ei ws (w_ar ws (n_v vs 0) 42) j = w_ei w1 (w_ar ws (n_v vs 0) 42) j := el_kp s1.1 r4 cr_0_42 (by decide)
  have hK_0_42 := elq_75 hD hth cr_0_42
  have hE_0_43_1 : ∀ j : Int, 0 ≤ j → (j = v_iv (n_v vs 1) → w_ei ws (w_ar ws (n_v vs 0) 43) j = v_iv (n_v vs 9)) ∧ (j ≠ v_iv (n_v vs 1) → w_ei ws (w_ar ws (n_v vs 0) 43) j = w_ei w1 (w_ar ws (n_v vs 0) 43) j) := fun j hj => ⟨fun h => by unfold w_ei; rw [s1.1, if_pos ⟨ad_4.symm, by rw [h]⟩], fun h => by unfold w_ei; rw [s1.1, if_neg (fun e => h (by have := e.2; omega))]⟩
  have hK_0_43 := elq_76 hD hth cr_0_43
  have hE_0_117_1 : ∀ j : Int, w_ei ws (w_ar ws (n_v vs 0) 117) j = w_ei w1 (w_ar ws (n_v vs 0) 117) j := el_kp s1.1 r4 cr_0_117 (by decide)
  have hK_0_117 := elq_108 hD hth cr_0_117
  have kz_0_31 := fdq_145 hD hth r0
  have kz_0_32 := fdq_140 hD hth r0
  have kz_0_49 := fdq_146 hD hth r0
  have kz_0_125 := fdq_182 hD hth r0
  have nf0 : fc_1 PRD (20, [0, 10], [60, 0, 4, 302, 33, 34, 42, 43]) ws (vs) := ⟨nf_in hl rfl, sgq_1756 (vc_Mo_stOrder_8_0 (v_iv (n_v vs 1)) (v_iv (n_v vs 2)) (v_iv (n_v vs 3)) (v_iv (n_v vs 7)) (v_iv (n_v vs 8)) (v_iv (n_v vs 9)) (v_iv (n_v vs 10)) (w_ei ws (w_ar ws (n_v vs 0) 33)) (w_ei ws (w_ar ws (n_v vs 0) 34)) (w_fi ws (n_v vs 0) 31) (w_fi ws (n_v vs 0) 32) (w_ei ws (w_ar ws (n_v vs 0) 35)) (w_ei ws (w_ar ws (n_v vs 0) 117)) (w_fi ws (n_v vs 0) 125) (w_fi ws (n_v vs 0) 49) (w_ei ws (w_ar ws (n_v vs 0) 42)) (w_ei w1 (w_ar ws (n_v vs 0) 42)) (w_ei w1 (w_ar ws (n_v vs 0) 33)) (w_fi w1 (n_v vs 0) 32) (w_ei w1 (w_ar ws (n_v vs 0) 34)) (w_fi w1 (n_v vs 0) 31) (w_ei w1 (w_ar ws (n_v vs 0) 35)) (w_ei w1 (w_ar ws (n_v vs 0) 117)) (w_fi w1 (n_v vs 0) 125) (w_fi w1 (n_v vs 0) 49) (w_ei w1 (w_ar ws (n_v vs 0) 43)) (w_ei ws (w_ar ws (n_v vs 0) 43)) k1 k2 k3 k7 k8 k9 k10 d0 d1 d2 (shm_4 f0) (shm_575 f1) (shm_1749 f2) (shm_1001 f3) (shm_1675 f4) (shm_1750 f5) (shm_1755 f6) (shm_1752 f7) (shm_192 f9) h10 h11 (shm_6 f15) g16 f17 f18 f19 (shm_1675 f20) (shm_1750 f21) f22 f23 (shm_1752 f24) fe_0_31_1 fe_0_32_1 fe_0_49_1 fe_0_125_1 hE_0_33_1 hK_0_33 hE_0_34_1 hK_0_34 hE_0_35_1 hK_0_35 hE_0_42_1 hK_0_42 hE_0_43_1 hK_0_43 hE_0_117_1 hK_0_117 kz_0_31 kz_0_32 kz_0_49 kz_0_125)⟩
  refine ⟨(fun _ h => (by cases h)), [], trivial, ?_, (fun _ h => (by cases h))⟩
  rw [List.append_nil]
  exact List.forall_mem_cons.mpr ⟨⟨show (20 : Nat) < 100 from by decide, nf0⟩, (fun _ h => (by cases h))⟩
set_option maxHeartbeats 4000000 in
theorem vc_Mo_stOrder_9_0 (x1 : Int) (x2 : Int) (x3 : Int) (x7 : Int) (x8 : Int) (x10 : Int) (x11 : Int) (x12 : Int) (x13 : Int) (pt_0 : Int → Int) (ph_0 : Int → Int) (pn_0 : Int) (pm_0 : Int) (alive_0 : Int → Int) (row_0 : Int → Int) (rowMany_0 : Int) (onlyPiece_0 : Int) (drawnNode_0 : Int → Int) (drawnNode_1 : Int → Int) (ph_1 : Int → Int) (pt_1 : Int → Int) (pm_1 : Int) (pn_1 : Int) (alive_1 : Int → Int) (row_1 : Int → Int) (rowMany_1 : Int) (onlyPiece_1 : Int) (drawnEdge_1 : Int → Int) (drawnEdge_0 : Int → Int) (k1 : 0 ≤ x1 ∧ x1 ≤ 79) (k2 : (-2) ≤ x2 ∧ x2 ≤ 26) (k3 : 1 ≤ x3 ∧ x3 ≤ 80) (k7 : 0 ≤ x7 ∧ x7 ≤ 24) (k8 : 1 ≤ x8 ∧ x8 ≤ 1) (k10 : 0 ≤ x10 ∧ x10 ≤ 24) (k11 : 0 ≤ x11 ∧ x11 ≤ 0) (k12 : 0 ≤ x12 ∧ x12 ≤ 0) (k13 : 1 ≤ x13 ∧ x13 ≤ 80) (d0 : x1 + 1 ≤ x13 ∧ x13 ≤ x1 + 1) (d1 : x3 + (-4294967296) ≤ x13 ∧ x13 ≤ x3 + 0) (d2 : x3 + (-4294967296) ≤ x1 ∧ x1 ≤ x3 + (-1)) (f0 : x13 = x1 + 1) (f1 : GOK (pn_0) (pm_0) (pt_0) (ph_0)) (f2 : STB (pn_0) (pm_0) (pt_0) (ph_0) (alive_0)) (f3 : STR (pn_0) (rowMany_0) (pt_0) (ph_0) (row_0)) (f4 : onlyPiece_0 = (-1)) (f5 : (-1) * rowMany_0 + ((-1) * x2 + 0) ≤ (-26)) (f6 : DRR (pn_0) (rowMany_0) (drawnNode_0) (row_0)) (f7 : (rowMany_0 + 1) ≤ pn_0) (f9 : x11 = 0) (h10 : x11 = drawnNode_1 (x10)) (h11 : x10 = ph_1 (x1)) (f14 : x8 ≠ 0) (h15 : x8 = drawnNode_1 (x7)) (h16 : x7 = pt_1 (x1)) (f19 : x1 < x3) (g20 : x3 = pm_1) (f21 : GOK (pn_1) (pm_1) (pt_1) (ph_1)) (f22 : STB (pn_1) (pm_1) (pt_1) (ph_1) (alive_1)) (f23 : STR (pn_1) (rowMany_1) (pt_1) (ph_1) (row_1)) (f24 : onlyPiece_1 = (-1)) (f25 : (-1) * rowMany_1 + ((-1) * x2 + 0) ≤ (-26)) (f26 : DRR (pn_1) (rowMany_1) (drawnNode_1) (row_1)) (f27 : DEK (pt_1) (ph_1) (drawnNode_1) (drawnEdge_1) (x1)) (f28 : (rowMany_1 + 1) ≤ pn_1) (fe_0_31_1 : pn_0 = pn_1) (fe_0_32_1 : pm_0 = pm_1) (fe_0_49_1 : onlyPiece_0 = onlyPiece_1) (fe_0_125_1 : rowMany_0 = rowMany_1) (hE_0_33_1 : ∀ j : Int, pt_0 j = pt_1 j) (hK_0_33 : ∀ j : Int, 0 ≤ j → j < 80 → 0 ≤ pt_0 j ∧ pt_0 j ≤ 24) (hE_0_34_1 : ∀ j : Int, ph_0 j = ph_1 j) (hK_0_34 : ∀ j : Int, 0 ≤ j → j < 80 → 0 ≤ ph_0 j ∧ ph_0 j ≤ 24) (hE_0_35_1 : ∀ j : Int, alive_0 j = alive_1 j) (hK_0_35 : ∀ j : Int, 0 ≤ j → j < 80 → 0 ≤ alive_0 j ∧ alive_0 j ≤ 1) (hE_0_42_1 : ∀ j : Int, drawnNode_0 j = drawnNode_1 j) (hK_0_42 : ∀ j : Int, 0 ≤ j → j < 26 → 0 ≤ drawnNode_0 j ∧ drawnNode_0 j ≤ 1) (hE_0_43_1 : ∀ j : Int, 0 ≤ j → (j = x1 → drawnEdge_0 j = x12) ∧ (j ≠ x1 → drawnEdge_0 j = drawnEdge_1 j)) (hK_0_43 : ∀ j : Int, 0 ≤ j → j < 80 → 0 ≤ drawnEdge_0 j ∧ drawnEdge_0 j ≤ 1) (hE_0_117_1 : ∀ j : Int, row_0 j = row_1 j) (hK_0_117 : ∀ j : Int, 0 ≤ j → j < 100 → 0 ≤ row_0 j ∧ row_0 j ≤ 75) (kz_0_31 : 0 ≤ pn_0 ∧ pn_0 ≤ 25) (kz_0_32 : 0 ≤ pm_0 ∧ pm_0 ≤ 80) (kz_0_49 : (-1) ≤ onlyPiece_0 ∧ onlyPiece_0 ≤ 79) (kz_0_125 : 0 ≤ rowMany_0 ∧ rowMany_0 ≤ 100) : DEK (pt_0) (ph_0) (drawnNode_0) (drawnEdge_0) (x13) := by
  subst fe_0_31_1
  subst fe_0_32_1
  subst fe_0_49_1
  subst fe_0_125_1
  have e_hE_0_33_1 := funext hE_0_33_1; subst e_hE_0_33_1
  have e_hE_0_34_1 := funext hE_0_34_1; subst e_hE_0_34_1
  have e_hE_0_35_1 := funext hE_0_35_1; subst e_hE_0_35_1
  have e_hE_0_42_1 := funext hE_0_42_1; subst e_hE_0_42_1
  have e_hE_0_117_1 := funext hE_0_117_1; subst e_hE_0_117_1
  first
    | (intro j a b; exfalso; omega)
    | exact dek_step ‹DEK _ _ _ _ _› (by omega) (by assumption) (by omega) (Or.inl ⟨by omega, fun w => w.1 (by skip; (first | subst h10 | skip); (first | subst h11 | skip); (first | subst h15 | skip); (first | subst h16 | skip); omega)⟩)
    | exact dek_step ‹DEK _ _ _ _ _› (by omega) (by assumption) (by omega) (Or.inl ⟨by omega, fun w => w.2 (by skip; (first | subst h10 | skip); (first | subst h11 | skip); (first | subst h15 | skip); (first | subst h16 | skip); omega)⟩)
    | exact dek_step ‹DEK _ _ _ _ _› (by omega) (by assumption) (by omega) (Or.inr ⟨by omega, by skip; (first | subst h10 | skip); (first | subst h11 | skip); (first | subst h15 | skip); (first | subst h16 | skip); omega, by skip; (first | subst h10 | skip); (first | subst h11 | skip); (first | subst h15 | skip); (first | subst h16 | skip); omega⟩)
def o_Mo_stOrder_9 : or_T := (98, 14, [(0, (2, 0, 0, [165])), (1, (0, 0, 79, [])), (2, (0, -2, 26, [])), (3, (0, 1, 80, [])), (4, (2, 0, 0, [189])), (5, (2, 0, 0, [188])), (6, (2, 0, 0, [180])), (7, (0, 0, 24, [])), (8, (0, 1, 1, [])), (9, (2, 0, 0, [181])), (10, (0, 0, 24, [])), (11, (0, 0, 0, [])), (12, (0, 0, 0, [])), (13, (0, 1, 80, []))], [(6, [13, 1], [1]), (20, [0], [60, 2, 2, 75, 31, 32, 33, 34]), (20, [0], [60, 2, 3, 297, 31, 32, 33, 34, 35]), (20, [0], [60, 2, 3, 298, 31, 125, 33, 34, 117]), (20, [0], [50, 1, 0, 49, 1, 3, 2, 0, 49, 0, -1]), (20, [0, 2], [30, -26, -1, 1, 125, -1, 0, 0]), (20, [0], [60, 2, 2, 301, 31, 125, 42, 117]), (20, [0], [50, 2, 0, 125, 31, 0, 7, 4, 3, 2, 0, 125, 0, 1, 2, 0, 31]), (100, [4, 1, 12], []), (8, [11], [0]), (10, [11, 5, 10], []), (10, [10, 9, 1], []), (9, [9, 0], [34]), (9, [5, 0], [42]), (8, [8], [1]), (10, [8, 5, 7], []), (10, [7, 6, 1], []), (9, [6, 0], [33]), (9, [4, 0], [43]), (7, [1, 3], [2]), (9, [3, 0], [32]), (20, [0], [60, 2, 2, 75, 31, 32, 33, 34]), (20, [0], [60, 2, 3, 297, 31, 32, 33, 34, 35]), (20, [0], [60, 2, 3, 298, 31, 125, 33, 34, 117]), (20, [0], [50, 1, 0, 49, 1, 3, 2, 0, 49, 0, -1]), (20, [0, 2], [30, -26, -1, 1, 125, -1, 0, 0]), (20, [0], [60, 2, 2, 301, 31, 125, 42, 117]), (20, [0, 1], [60, 0, 4, 302, 33, 34, 42, 43]), (20, [0], [50, 2, 0, 125, 31, 0, 7, 4, 3, 2, 0, 125, 0, 1, 2, 0, 31])], [], [], [(20, [0, 13], [60, 0, 4, 302, 33, 34, 42, 43])], [], [(13, 1, 1, 1), (13, 3, -4294967296, 0), (1, 3, -4294967296, -1)])
theorem oo_Mo_stOrder_9 {kA : Nat → ClassId} : or_ok PRD kA GG o_Mo_stOrder_9 := by
  refine or_mk fun A ta ws vs hD hth hl => ?_
  intro t0 r0 t1 k1 t2 k2 t3 k3 t4 r4 t5 r5 t6 r6 t7 k7 t8 k8 t9 r9 t10 k10 t11 k11 t12 k12 t13 k13 d0 d1 d2 f0 f1 f2 f3 f4 f5 f6 f7 ta1 w1 le1 s1 f9 f10 f11 f12 f13 f14 f15 f16 f17 f18 f19 f20 f21 f22 f23 f24 f25 f26 f27 f28
  have s1 : (∀ b j, w_el ws b j = if b = v_ad (n_v vs 4) ∧ j = (v_iv (n_v vs 1)).toNat then v_iv (n_v vs 12) else w_el w1 b j) ∧ ∀ b k, w_fd ws b k = w_fd w1 b k := s1.2
  replace f10 := shm_107 f10
  replace f11 := shm_107 f11
  replace f12 := shm_496 f12
  replace f13 := shm_531 f13
  replace f15 := shm_107 f15
  replace f16 := shm_107 f16
  replace f17 := shm_494 f17
  replace f18 := shm_532 f18
  replace f20 := shm_525 f20
  replace f21 := shm_575 f21
  replace f22 := shm_1749 f22
  replace f23 := shm_1001 f23
  replace f26 := shm_1755 f26
  replace f27 := shm_1756 f27
  have ar_0_33_1 : w_ar w1 (n_v vs 0) 33 = w_ar ws (n_v vs 0) 33 := congrArg v_ad (s1.2 _ _).symm
  have cr_0_33 := fdq_117 hD hth r0
  have ar_0_34_1 : w_ar w1 (n_v vs 0) 34 = w_ar ws (n_v vs 0) 34 := congrArg v_ad (s1.2 _ _).symm
  have cr_0_34 := fdq_118 hD hth r0
  have ar_0_35_1 : w_ar w1 (n_v vs 0) 35 = w_ar ws (n_v vs 0) 35 := congrArg v_ad (s1.2 _ _).symm
  have cr_0_35 := fdq_132 hD hth r0
  have ar_0_42_1 : w_ar w1 (n_v vs 0) 42 = w_ar ws (n_v vs 0) 42 := congrArg v_ad (s1.2 _ _).symm
  have cr_0_42 := fdq_136 hD hth r0
  have ar_0_43_1 : w_ar w1 (n_v vs 0) 43 = w_ar ws (n_v vs 0) 43 := congrArg v_ad (s1.2 _ _).symm
  have cr_0_43 := fdq_137 hD hth r0
  have ar_0_117_1 : w_ar w1 (n_v vs 0) 117 = w_ar ws (n_v vs 0) 117 := congrArg v_ad (s1.2 _ _).symm
  have cr_0_117 := fdq_181 hD hth r0
  have ad_9 : v_ad (n_v vs 9) = w_ar ws (n_v vs 0) 34 := (congrArg v_ad f12).trans ar_0_34_1
  have ad_5 : v_ad (n_v vs 5) = w_ar ws (n_v vs 0) 42 := (congrArg v_ad f13).trans ar_0_42_1
  have ad_6 : v_ad (n_v vs 6) = w_ar ws (n_v vs 0) 33 := (congrArg v_ad f17).trans ar_0_33_1
  have ad_4 : v_ad (n_v vs 4) = w_ar ws (n_v vs 0) 43 := (congrArg v_ad f18).trans ar_0_43_1
  simp only [ad_5] at f10
  have h10 : v_iv (n_v vs 11) = w_ei w1 (w_ar ws (n_v vs 0) 42) (v_iv (n_v vs 10)) := f10
  simp only [ad_9] at f11
  have h11 : v_iv (n_v vs 10) = w_ei w1 (w_ar ws (n_v vs 0) 34) (v_iv (n_v vs 1)) := f11
  simp only [ad_5] at f15
  have h15 : v_iv (n_v vs 8) = w_ei w1 (w_ar ws (n_v vs 0) 42) (v_iv (n_v vs 7)) := f15
  simp only [ad_6] at f16
  have h16 : v_iv (n_v vs 7) = w_ei w1 (w_ar ws (n_v vs 0) 33) (v_iv (n_v vs 1)) := f16
  have g20 : v_iv (n_v vs 3) = w_fi w1 (n_v vs 0) 32 := congrArg v_iv f20
  simp only [ar_0_33_1, ar_0_34_1, ar_0_35_1, ar_0_117_1, ar_0_42_1, ar_0_43_1] at f21 f22 f23 f26 f27
  have fe_0_31_1 : w_fi ws (n_v vs 0) 31 = w_fi w1 (n_v vs 0) 31 := congrArg v_iv (s1.2 _ _)
  have fe_0_32_1 : w_fi ws (n_v vs 0) 32 = w_fi w1 (n_v vs 0) 32 := congrArg v_iv (s1.2 _ _)
  have fe_0_49_1 : w_fi ws (n_v vs 0) 49 = w_fi w1 (n_v vs 0) 49 := congrArg v_iv (s1.2 _ _)
  have fe_0_125_1 : w_fi ws (n_v vs 0) 125 = w_fi w1 (n_v vs 0) 125 := congrArg v_iv (s1.2 _ _)
  have hE_0_33_1 : ∀ j : Int, w_ei ws (w_ar ws (n_v vs 0) 33) j = w_ei w1 (w_ar ws (n_v vs 0) 33) j := el_kp s1.1 r4 cr_0_33 (by decide)
  have hK_0_33 := elq_60 hD hth cr_0_33
  have hE_0_34_1 : ∀ j : Int, w_ei ws (w_ar ws (n_v vs 0) 34) j = w_ei w1 (w_ar ws (n_v vs 0) 34) j := el_kp s1.1 r4 cr_0_34 (by decide)
  have hK_0_34 := elq_61 hD hth cr_0_34
  have hE_0_35_1 : ∀ j : Int, w_ei ws (w_ar ws (n_v vs 0) 35) j = w_ei w1 (w_ar ws (n_v vs 0) 35) j := el_kp s1.1 r4 cr_0_35 (by decide)
  have hK_0_35 := elq_72 hD hth cr_0_35
  have hE_0_42_1 : ∀ j : Int, w_ei ws (w_ar ws (n_v vs 0) 42) j = w_ei w1 (w_ar ws (n_v vs 0) 42) j := el_kp s1.1 r4 cr_0_42 (by decide)
  have hK_0_42 := elq_75 hD hth cr_0_42
  have hE_0_43_1 : ∀ j : Int, 0 ≤ j → (j = v_iv (n_v vs 1) → w_ei ws (w_ar ws (n_v vs 0) 43) j = v_iv (n_v vs 12)) ∧ (j ≠ v_iv (n_v vs 1) → w_ei ws (w_ar ws (n_v vs 0) 43) j = w_ei w1 (w_ar ws (n_v vs 0) 43) j) := fun j hj => ⟨fun h => by unfold w_ei; rw [s1.1, if_pos ⟨ad_4.symm, by rw [h]⟩], fun h => by unfold w_ei; rw [s1.1, if_neg (fun e => h (by have := e.2; omega))]⟩
  have hK_0_43 := elq_76 hD hth cr_0_43
  have hE_0_117_1 : ∀ j : Int, w_ei ws (w_ar ws (n_v vs 0) 117) j = w_ei w1 (w_ar ws (n_v vs 0) 117) j := el_kp s1.1 r4 cr_0_117 (by decide)
  have hK_0_117 := elq_108 hD hth cr_0_117
  have kz_0_31 := fdq_145 hD hth r0
  have kz_0_32 := fdq_140 hD hth r0
  have kz_0_49 := fdq_146 hD hth r0
  have kz_0_125 := fdq_182 hD hth r0
  have nf0 : fc_1 PRD (20, [0, 13], [60, 0, 4, 302, 33, 34, 42, 43]) ws (vs) := ⟨nf_in hl rfl, sgq_1756 (vc_Mo_stOrder_9_0 (v_iv (n_v vs 1)) (v_iv (n_v vs 2)) (v_iv (n_v vs 3)) (v_iv (n_v vs 7)) (v_iv (n_v vs 8)) (v_iv (n_v vs 10)) (v_iv (n_v vs 11)) (v_iv (n_v vs 12)) (v_iv (n_v vs 13)) (w_ei ws (w_ar ws (n_v vs 0) 33)) (w_ei ws (w_ar ws (n_v vs 0) 34)) (w_fi ws (n_v vs 0) 31) (w_fi ws (n_v vs 0) 32) (w_ei ws (w_ar ws (n_v vs 0) 35)) (w_ei ws (w_ar ws (n_v vs 0) 117)) (w_fi ws (n_v vs 0) 125) (w_fi ws (n_v vs 0) 49) (w_ei ws (w_ar ws (n_v vs 0) 42)) (w_ei w1 (w_ar ws (n_v vs 0) 42)) (w_ei w1 (w_ar ws (n_v vs 0) 34)) (w_ei w1 (w_ar ws (n_v vs 0) 33)) (w_fi w1 (n_v vs 0) 32) (w_fi w1 (n_v vs 0) 31) (w_ei w1 (w_ar ws (n_v vs 0) 35)) (w_ei w1 (w_ar ws (n_v vs 0) 117)) (w_fi w1 (n_v vs 0) 125) (w_fi w1 (n_v vs 0) 49) (w_ei w1 (w_ar ws (n_v vs 0) 43)) (w_ei ws (w_ar ws (n_v vs 0) 43)) k1 k2 k3 k7 k8 k10 k11 k12 k13 d0 d1 d2 (shm_4 f0) (shm_575 f1) (shm_1749 f2) (shm_1001 f3) (shm_1675 f4) (shm_1750 f5) (shm_1755 f6) (shm_1752 f7) (shm_192 f9) h10 h11 (shm_142 f14) h15 h16 (shm_6 f19) g20 f21 f22 f23 (shm_1675 f24) (shm_1750 f25) f26 f27 (shm_1752 f28) fe_0_31_1 fe_0_32_1 fe_0_49_1 fe_0_125_1 hE_0_33_1 hK_0_33 hE_0_34_1 hK_0_34 hE_0_35_1 hK_0_35 hE_0_42_1 hK_0_42 hE_0_43_1 hK_0_43 hE_0_117_1 hK_0_117 kz_0_31 kz_0_32 kz_0_49 kz_0_125)⟩
  refine ⟨(fun _ h => (by cases h)), [], trivial, ?_, (fun _ h => (by cases h))⟩
  rw [List.append_nil]
  exact List.forall_mem_cons.mpr ⟨⟨show (20 : Nat) < 100 from by decide, nf0⟩, (fun _ h => (by cases h))⟩
set_option maxHeartbeats 4000000 in
theorem vc_Mo_stOrder_10_0 (x1 : Int) (x2 : Int) (x3 : Int) (x7 : Int) (x8 : Int) (x10 : Int) (x11 : Int) (x12 : Int) (x13 : Int) (pt_0 : Int → Int) (ph_0 : Int → Int) (pn_0 : Int) (pm_0 : Int) (alive_0 : Int → Int) (row_0 : Int → Int) (rowMany_0 : Int) (onlyPiece_0 : Int) (drawnNode_0 : Int → Int) (drawnNode_1 : Int → Int) (ph_1 : Int → Int) (pt_1 : Int → Int) (pm_1 : Int) (pn_1 : Int) (alive_1 : Int → Int) (row_1 : Int → Int) (rowMany_1 : Int) (onlyPiece_1 : Int) (drawnEdge_1 : Int → Int) (drawnEdge_0 : Int → Int) (k1 : 0 ≤ x1 ∧ x1 ≤ 79) (k2 : (-2) ≤ x2 ∧ x2 ≤ 26) (k3 : 1 ≤ x3 ∧ x3 ≤ 80) (k7 : 0 ≤ x7 ∧ x7 ≤ 24) (k8 : 1 ≤ x8 ∧ x8 ≤ 1) (k10 : 0 ≤ x10 ∧ x10 ≤ 24) (k11 : 1 ≤ x11 ∧ x11 ≤ 1) (k12 : 1 ≤ x12 ∧ x12 ≤ 1) (k13 : 1 ≤ x13 ∧ x13 ≤ 80) (d0 : x1 + 1 ≤ x13 ∧ x13 ≤ x1 + 1) (d1 : x3 + (-4294967296) ≤ x13 ∧ x13 ≤ x3 + 0) (d2 : x3 + (-4294967296) ≤ x1 ∧ x1 ≤ x3 + (-1)) (f0 : x13 = x1 + 1) (f1 : GOK (pn_0) (pm_0) (pt_0) (ph_0)) (f2 : STB (pn_0) (pm_0) (pt_0) (ph_0) (alive_0)) (f3 : STR (pn_0) (rowMany_0) (pt_0) (ph_0) (row_0)) (f4 : onlyPiece_0 = (-1)) (f5 : (-1) * rowMany_0 + ((-1) * x2 + 0) ≤ (-26)) (f6 : DRR (pn_0) (rowMany_0) (drawnNode_0) (row_0)) (f7 : (rowMany_0 + 1) ≤ pn_0) (f9 : x11 ≠ 0) (h10 : x11 = drawnNode_1 (x10)) (h11 : x10 = ph_1 (x1)) (f14 : x8 ≠ 0) (h15 : x8 = drawnNode_1 (x7)) (h16 : x7 = pt_1 (x1)) (f19 : x1 < x3) (g20 : x3 = pm_1) (f21 : GOK (pn_1) (pm_1) (pt_1) (ph_1)) (f22 : STB (pn_1) (pm_1) (pt_1) (ph_1) (alive_1)) (f23 : STR (pn_1) (rowMany_1) (pt_1) (ph_1) (row_1)) (f24 : onlyPiece_1 = (-1)) (f25 : (-1) * rowMany_1 + ((-1) * x2 + 0) ≤ (-26)) (f26 : DRR (pn_1) (rowMany_1) (drawnNode_1) (row_1)) (f27 : DEK (pt_1) (ph_1) (drawnNode_1) (drawnEdge_1) (x1)) (f28 : (rowMany_1 + 1) ≤ pn_1) (fe_0_31_1 : pn_0 = pn_1) (fe_0_32_1 : pm_0 = pm_1) (fe_0_49_1 : onlyPiece_0 = onlyPiece_1) (fe_0_125_1 : rowMany_0 = rowMany_1) (hE_0_33_1 : ∀ j : Int, pt_0 j = pt_1 j) (hK_0_33 : ∀ j : Int, 0 ≤ j → j < 80 → 0 ≤ pt_0 j ∧ pt_0 j ≤ 24) (hE_0_34_1 : ∀ j : Int, ph_0 j = ph_1 j) (hK_0_34 : ∀ j : Int, 0 ≤ j → j < 80 → 0 ≤ ph_0 j ∧ ph_0 j ≤ 24) (hE_0_35_1 : ∀ j : Int, alive_0 j = alive_1 j) (hK_0_35 : ∀ j : Int, 0 ≤ j → j < 80 → 0 ≤ alive_0 j ∧ alive_0 j ≤ 1) (hE_0_42_1 : ∀ j : Int, drawnNode_0 j = drawnNode_1 j) (hK_0_42 : ∀ j : Int, 0 ≤ j → j < 26 → 0 ≤ drawnNode_0 j ∧ drawnNode_0 j ≤ 1) (hE_0_43_1 : ∀ j : Int, 0 ≤ j → (j = x1 → drawnEdge_0 j = x12) ∧ (j ≠ x1 → drawnEdge_0 j = drawnEdge_1 j)) (hK_0_43 : ∀ j : Int, 0 ≤ j → j < 80 → 0 ≤ drawnEdge_0 j ∧ drawnEdge_0 j ≤ 1) (hE_0_117_1 : ∀ j : Int, row_0 j = row_1 j) (hK_0_117 : ∀ j : Int, 0 ≤ j → j < 100 → 0 ≤ row_0 j ∧ row_0 j ≤ 75) (kz_0_31 : 0 ≤ pn_0 ∧ pn_0 ≤ 25) (kz_0_32 : 0 ≤ pm_0 ∧ pm_0 ≤ 80) (kz_0_49 : (-1) ≤ onlyPiece_0 ∧ onlyPiece_0 ≤ 79) (kz_0_125 : 0 ≤ rowMany_0 ∧ rowMany_0 ≤ 100) : DEK (pt_0) (ph_0) (drawnNode_0) (drawnEdge_0) (x13) := by
  subst fe_0_31_1
  subst fe_0_32_1
  subst fe_0_49_1
  subst fe_0_125_1
  have e_hE_0_33_1 := funext hE_0_33_1; subst e_hE_0_33_1
  have e_hE_0_34_1 := funext hE_0_34_1; subst e_hE_0_34_1
  have e_hE_0_35_1 := funext hE_0_35_1; subst e_hE_0_35_1
  have e_hE_0_42_1 := funext hE_0_42_1; subst e_hE_0_42_1
  have e_hE_0_117_1 := funext hE_0_117_1; subst e_hE_0_117_1
  first
    | (intro j a b; exfalso; omega)
    | exact dek_step ‹DEK _ _ _ _ _› (by omega) (by assumption) (by omega) (Or.inl ⟨by omega, fun w => w.1 (by skip; (first | subst h10 | skip); (first | subst h11 | skip); (first | subst h15 | skip); (first | subst h16 | skip); omega)⟩)
    | exact dek_step ‹DEK _ _ _ _ _› (by omega) (by assumption) (by omega) (Or.inl ⟨by omega, fun w => w.2 (by skip; (first | subst h10 | skip); (first | subst h11 | skip); (first | subst h15 | skip); (first | subst h16 | skip); omega)⟩)
    | exact dek_step ‹DEK _ _ _ _ _› (by omega) (by assumption) (by omega) (Or.inr ⟨by omega, by skip; (first | subst h10 | skip); (first | subst h11 | skip); (first | subst h15 | skip); (first | subst h16 | skip); omega, by skip; (first | subst h10 | skip); (first | subst h11 | skip); (first | subst h15 | skip); (first | subst h16 | skip); omega⟩)
def o_Mo_stOrder_10 : or_T := (98, 14, [(0, (2, 0, 0, [165])), (1, (0, 0, 79, [])), (2, (0, -2, 26, [])), (3, (0, 1, 80, [])), (4, (2, 0, 0, [189])), (5, (2, 0, 0, [188])), (6, (2, 0, 0, [180])), (7, (0, 0, 24, [])), (8, (0, 1, 1, [])), (9, (2, 0, 0, [181])), (10, (0, 0, 24, [])), (11, (0, 1, 1, [])), (12, (0, 1, 1, [])), (13, (0, 1, 80, []))], [(6, [13, 1], [1]), (20, [0], [60, 2, 2, 75, 31, 32, 33, 34]), (20, [0], [60, 2, 3, 297, 31, 32, 33, 34, 35]), (20, [0], [60, 2, 3, 298, 31, 125, 33, 34, 117]), (20, [0], [50, 1, 0, 49, 1, 3, 2, 0, 49, 0, -1]), (20, [0, 2], [30, -26, -1, 1, 125, -1, 0, 0]), (20, [0], [60, 2, 2, 301, 31, 125, 42, 117]), (20, [0], [50, 2, 0, 125, 31, 0, 7, 4, 3, 2, 0, 125, 0, 1, 2, 0, 31]), (100, [4, 1, 12], []), (8, [11], [1]), (10, [11, 5, 10], []), (10, [10, 9, 1], []), (9, [9, 0], [34]), (9, [5, 0], [42]), (8, [8], [1]), (10, [8, 5, 7], []), (10, [7, 6, 1], []), (9, [6, 0], [33]), (9, [4, 0], [43]), (7, [1, 3], [2]), (9, [3, 0], [32]), (20, [0], [60, 2, 2, 75, 31, 32, 33, 34]), (20, [0], [60, 2, 3, 297, 31, 32, 33, 34, 35]), (20, [0], [60, 2, 3, 298, 31, 125, 33, 34, 117]), (20, [0], [50, 1, 0, 49, 1, 3, 2, 0, 49, 0, -1]), (20, [0, 2], [30, -26, -1, 1, 125, -1, 0, 0]), (20, [0], [60, 2, 2, 301, 31, 125, 42, 117]), (20, [0, 1], [60, 0, 4, 302, 33, 34, 42, 43]), (20, [0], [50, 2, 0, 125, 31, 0, 7, 4, 3, 2, 0, 125, 0, 1, 2, 0, 31])], [], [], [(20, [0, 13], [60, 0, 4, 302, 33, 34, 42, 43])], [], [(13, 1, 1, 1), (13, 3, -4294967296, 0), (1, 3, -4294967296, -1)])
theorem oo_Mo_stOrder_10 {kA : Nat → ClassId} : or_ok PRD kA GG o_Mo_stOrder_10 := by
  refine or_mk fun A ta ws vs hD hth hl => ?_
  intro t0 r0 t1 k1 t2 k2 t3 k3 t4 r4 t5 r5 t6 r6 t7 k7 t8 k8 t9 r9 t10 k10 t11 k11 t12 k12 t13 k13 d0 d1 d2 f0 f1 f2 f3 f4 f5 f6 f7 ta1 w1 le1 s1 f9 f10 f11 f12 f13 f14 f15 f16 f17 f18 f19 f20 f21 f22 f23 f24 f25 f26 f27 f28
  have s1 : (∀ b j, w_el ws b j = if b = v_ad (n_v vs 4) ∧ j = (v_iv (n_v vs 1)).toNat then v_iv (n_v vs 12) else w_el w1 b j) ∧ ∀ b k, w_fd ws b k = w_fd w1 b k := s1.2
  replace f10 := shm_107 f10
  replace f11 := shm_107 f11
  replace f12 := shm_496 f12
  replace f13 := shm_531 f13
  replace f15 := shm_107 f15
  replace f16 := shm_107 f16
  replace f17 := shm_494 f17
  replace f18 := shm_532 f18
  replace f20 := shm_525 f20
  replace f21 := shm_575 f21
  replace f22 := shm_1749 f22
  replace f23 := shm_1001 f23
  replace f26 := shm_1755 f26
  replace f27 := shm_1756 f27
  have ar_0_33_1 : w_ar w1 (n_v vs 0) 33 = w_ar ws (n_v vs 0) 33 := congrArg v_ad (s1.2 _ _).symm
  have cr_0_33 := fdq_117 hD hth r0
  have ar_0_34_1 : w_ar w1 (n_v vs 0) 34 = w_ar ws (n_v vs 0) 34 := congrArg v_ad (s1.2 _ _).symm
  have cr_0_34 := fdq_118 hD hth r0
  have ar_0_35_1 : w_ar w1 (n_v vs 0) 35 = w_ar ws (n_v vs 0) 35 := congrArg v_ad (s1.2 _ _).symm
  have cr_0_35 := fdq_132 hD hth r0
  have ar_0_42_1 : w_ar w1 (n_v vs 0) 42 = w_ar ws (n_v vs 0) 42 := congrArg v_ad (s1.2 _ _).symm
  have cr_0_42 := fdq_136 hD hth r0
  have ar_0_43_1 : w_ar w1 (n_v vs 0) 43 = w_ar ws (n_v vs 0) 43 := congrArg v_ad (s1.2 _ _).symm
  have cr_0_43 := fdq_137 hD hth r0
  have ar_0_117_1 : w_ar w1 (n_v vs 0) 117 = w_ar ws (n_v vs 0) 117 := congrArg v_ad (s1.2 _ _).symm
  have cr_0_117 := fdq_181 hD hth r0
  have ad_9 : v_ad (n_v vs 9) = w_ar ws (n_v vs 0) 34 := (congrArg v_ad f12).trans ar_0_34_1
  have ad_5 : v_ad (n_v vs 5) = w_ar ws (n_v vs 0) 42 := (congrArg v_ad f13).trans ar_0_42_1
  have ad_6 : v_ad (n_v vs 6) = w_ar ws (n_v vs 0) 33 := (congrArg v_ad f17).trans ar_0_33_1
  have ad_4 : v_ad (n_v vs 4) = w_ar ws (n_v vs 0) 43 := (congrArg v_ad f18).trans ar_0_43_1
  simp only [ad_5] at f10
  have h10 : v_iv (n_v vs 11) = w_ei w1 (w_ar ws (n_v vs 0) 42) (v_iv (n_v vs 10)) := f10
  simp only [ad_9] at f11
  have h11 : v_iv (n_v vs 10) = w_ei w1 (w_ar ws (n_v vs 0) 34) (v_iv (n_v vs 1)) := f11
  simp only [ad_5] at f15
  have h15 : v_iv (n_v vs 8) = w_ei w1 (w_ar ws (n_v vs 0) 42) (v_iv (n_v vs 7)) := f15
  simp only [ad_6] at f16
  have h16 : v_iv (n_v vs 7) = w_ei w1 (w_ar ws (n_v vs 0) 33) (v_iv (n_v vs 1)) := f16
  have g20 : v_iv (n_v vs 3) = w_fi w1 (n_v vs 0) 32 := congrArg v_iv f20
  simp only [ar_0_33_1, ar_0_34_1, ar_0_35_1, ar_0_117_1, ar_0_42_1, ar_0_43_1] at f21 f22 f23 f26 f27
  have fe_0_31_1 : w_fi ws (n_v vs 0) 31 = w_fi w1 (n_v vs 0) 31 := congrArg v_iv (s1.2 _ _)
  have fe_0_32_1 : w_fi ws (n_v vs 0) 32 = w_fi w1 (n_v vs 0) 32 := congrArg v_iv (s1.2 _ _)
  have fe_0_49_1 : w_fi ws (n_v vs 0) 49 = w_fi w1 (n_v vs 0) 49 := congrArg v_iv (s1.2 _ _)
  have fe_0_125_1 : w_fi ws (n_v vs 0) 125 = w_fi w1 (n_v vs 0) 125 := congrArg v_iv (s1.2 _ _)
  have hE_0_33_1 : ∀ j : Int, w_ei ws (w_ar ws (n_v vs 0) 33) j = w_ei w1 (w_ar ws (n_v vs 0) 33) j := el_kp s1.1 r4 cr_0_33 (by decide)
  have hK_0_33 := elq_60 hD hth cr_0_33
  have hE_0_34_1 : ∀ j : Int, w_ei ws (w_ar ws (n_v vs 0) 34) j = w_ei w1 (w_ar ws (n_v vs 0) 34) j := el_kp s1.1 r4 cr_0_34 (by decide)
  have hK_0_34 := elq_61 hD hth cr_0_34
  have hE_0_35_1 : ∀ j : Int, w_ei ws (w_ar ws (n_v vs 0) 35) j = w_ei w1 (w_ar ws (n_v vs 0) 35) j := el_kp s1.1 r4 cr_0_35 (by decide)
  have hK_0_35 := elq_72 hD hth cr_0_35
  have hE_0_42_1 : ∀ j : Int, w_ei ws (w_ar ws (n_v vs 0) 42) j = w_ei w1 (w_ar ws (n_v vs 0) 42) j := el_kp s1.1 r4 cr_0_42 (by decide)
  have hK_0_42 := elq_75 hD hth cr_0_42
  have hE_0_43_1 : ∀ j : Int, 0 ≤ j → (j = v_iv (n_v vs 1) → w_ei ws (w_ar ws (n_v vs 0) 43) j = v_iv (n_v vs 12)) ∧ (j ≠ v_iv (n_v vs 1) → w_ei ws (w_ar ws (n_v vs 0) 43) j = w_ei w1 (w_ar ws (n_v vs 0) 43) j) := fun j hj => ⟨fun h => by unfold w_ei; rw [s1.1, if_pos ⟨ad_4.symm, by rw [h]⟩], fun h => by unfold w_ei; rw [s1.1, if_neg (fun e => h (by have := e.2; omega))]⟩
  have hK_0_43 := elq_76 hD hth cr_0_43
  have hE_0_117_1 : ∀ j : Int, w_ei ws (w_ar ws (n_v vs 0) 117) j = w_ei w1 (w_ar ws (n_v vs 0) 117) j := el_kp s1.1 r4 cr_0_117 (by decide)
  have hK_0_117 := elq_108 hD hth cr_0_117
  have kz_0_31 := fdq_145 hD hth r0
  have kz_0_32 := fdq_140 hD hth r0
  have kz_0_49 := fdq_146 hD hth r0
  have kz_0_125 := fdq_182 hD hth r0
  have nf0 : fc_1 PRD (20, [0, 13], [60, 0, 4, 302, 33, 34, 42, 43]) ws (vs) := ⟨nf_in hl rfl, sgq_1756 (vc_Mo_stOrder_10_0 (v_iv (n_v vs 1)) (v_iv (n_v vs 2)) (v_iv (n_v vs 3)) (v_iv (n_v vs 7)) (v_iv (n_v vs 8)) (v_iv (n_v vs 10)) (v_iv (n_v vs 11)) (v_iv (n_v vs 12)) (v_iv (n_v vs 13)) (w_ei ws (w_ar ws (n_v vs 0) 33)) (w_ei ws (w_ar ws (n_v vs 0) 34)) (w_fi ws (n_v vs 0) 31) (w_fi ws (n_v vs 0) 32) (w_ei ws (w_ar ws (n_v vs 0) 35)) (w_ei ws (w_ar ws (n_v vs 0) 117)) (w_fi ws (n_v vs 0) 125) (w_fi ws (n_v vs 0) 49) (w_ei ws (w_ar ws (n_v vs 0) 42)) (w_ei w1 (w_ar ws (n_v vs 0) 42)) (w_ei w1 (w_ar ws (n_v vs 0) 34)) (w_ei w1 (w_ar ws (n_v vs 0) 33)) (w_fi w1 (n_v vs 0) 32) (w_fi w1 (n_v vs 0) 31) (w_ei w1 (w_ar ws (n_v vs 0) 35)) (w_ei w1 (w_ar ws (n_v vs 0) 117)) (w_fi w1 (n_v vs 0) 125) (w_fi w1 (n_v vs 0) 49) (w_ei w1 (w_ar ws (n_v vs 0) 43)) (w_ei ws (w_ar ws (n_v vs 0) 43)) k1 k2 k3 k7 k8 k10 k11 k12 k13 d0 d1 d2 (shm_4 f0) (shm_575 f1) (shm_1749 f2) (shm_1001 f3) (shm_1675 f4) (shm_1750 f5) (shm_1755 f6) (shm_1752 f7) (shm_142 f9) h10 h11 (shm_142 f14) h15 h16 (shm_6 f19) g20 f21 f22 f23 (shm_1675 f24) (shm_1750 f25) f26 f27 (shm_1752 f28) fe_0_31_1 fe_0_32_1 fe_0_49_1 fe_0_125_1 hE_0_33_1 hK_0_33 hE_0_34_1 hK_0_34 hE_0_35_1 hK_0_35 hE_0_42_1 hK_0_42 hE_0_43_1 hK_0_43 hE_0_117_1 hK_0_117 kz_0_31 kz_0_32 kz_0_49 kz_0_125)⟩
  refine ⟨(fun _ h => (by cases h)), [], trivial, ?_, (fun _ h => (by cases h))⟩
  rw [List.append_nil]
  exact List.forall_mem_cons.mpr ⟨⟨show (20 : Nat) < 100 from by decide, nf0⟩, (fun _ h => (by cases h))⟩
set_option maxHeartbeats 4000000 in
theorem vc_Mo_stOrder_11_0 (x1 : Int) (x2 : Int) (x3 : Int) (x4 : Int) (pn_0 : Int) (pt_0 : Int → Int) (ph_0 : Int → Int) (pm_0 : Int) (alive_0 : Int → Int) (row_0 : Int → Int) (rowMany_0 : Int) (onlyPiece_0 : Int) (drawnNode_0 : Int → Int) (drawnEdge_0 : Int → Int) (pieceOf_0 : Int → Int) (bestWay_0 : Int → Int) (gx : Int) (k1 : 0 ≤ x1 ∧ x1 ≤ 30) (k2 : 0 ≤ x2 ∧ x2 ≤ 25) (k3 : (-2) ≤ x3 ∧ x3 ≤ 26) (k4 : 0 ≤ x4 ∧ x4 ≤ 25) (d0 : x4 + 0 ≤ x2 ∧ x2 ≤ x4 + 4294967296) (f0 : x4 ≤ x2) (g1 : x4 = pn_0) (f2 : GOK (pn_0) (pm_0) (pt_0) (ph_0)) (f3 : STB (pn_0) (pm_0) (pt_0) (ph_0) (alive_0)) (f4 : STR (pn_0) (rowMany_0) (pt_0) (ph_0) (row_0)) (f5 : onlyPiece_0 = (-1)) (f6 : (-1) * rowMany_0 + ((-1) * x3 + 0) ≤ (-26)) (f7 : DRR (pn_0) (rowMany_0) (drawnNode_0) (row_0)) (f8 : DEM (pm_0) (pt_0) (ph_0) (drawnNode_0) (drawnEdge_0)) (f9 : UA (pm_0) (alive_0) (drawnEdge_0)) (f10 : (rowMany_0 + 1) ≤ pn_0) (f11 : SA1 (pn_0) (pm_0) (onlyPiece_0) (pt_0) (ph_0) (drawnEdge_0) (pieceOf_0) (drawnNode_0) (bestWay_0) (x1) (x2)) (hK_0_33 : ∀ j : Int, 0 ≤ j → j < 80 → 0 ≤ pt_0 j ∧ pt_0 j ≤ 24) (hK_0_34 : ∀ j : Int, 0 ≤ j → j < 80 → 0 ≤ ph_0 j ∧ ph_0 j ≤ 24) (hK_0_35 : ∀ j : Int, 0 ≤ j → j < 80 → 0 ≤ alive_0 j ∧ alive_0 j ≤ 1) (hK_0_42 : ∀ j : Int, 0 ≤ j → j < 26 → 0 ≤ drawnNode_0 j ∧ drawnNode_0 j ≤ 1) (hK_0_43 : ∀ j : Int, 0 ≤ j → j < 80 → 0 ≤ drawnEdge_0 j ∧ drawnEdge_0 j ≤ 1) (hK_0_44 : ∀ j : Int, 0 ≤ j → j < 80 → (-1) ≤ pieceOf_0 j ∧ pieceOf_0 j ≤ 79) (hK_0_52 : ∀ j : Int, 0 ≤ j → j < 30 → 0 ≤ bestWay_0 j ∧ bestWay_0 j ≤ 24) (hK_0_117 : ∀ j : Int, 0 ≤ j → j < 100 → 0 ≤ row_0 j ∧ row_0 j ≤ 75) (kz_0_31 : 0 ≤ pn_0 ∧ pn_0 ≤ 25) (kz_0_32 : 0 ≤ pm_0 ∧ pm_0 ≤ 80) (kz_0_49 : (-1) ≤ onlyPiece_0 ∧ onlyPiece_0 ≤ 79) (kz_0_125 : 0 ≤ rowMany_0 ∧ rowMany_0 ≤ 100) (ex2 : gx = rowMany_0) (ex3 : 0 ≤ gx ∧ gx ≤ 100) : INP (pn_0) (rowMany_0) (pt_0) (ph_0) (drawnNode_0) (row_0) (bestWay_0) (x1) := by
  first
    | exact inp_of ‹STB _ _ _ _ _› ‹STR _ _ _ _ _› ‹DRR _ _ _ _› ‹DEM _ _ _ _ _› (by omega) ‹SA1 _ _ _ _ _ _ _ _ _ _ _› (Or.inl (by omega))
    | exact inp_of ‹STB _ _ _ _ _› ‹STR _ _ _ _ _› ‹DRR _ _ _ _› ‹DEM _ _ _ _ _› (by omega) ‹SA1 _ _ _ _ _ _ _ _ _ _ _› (Or.inr (by omega))
set_option maxHeartbeats 4000000 in
theorem vc_Mo_stOrder_11_1 (x1 : Int) (x2 : Int) (x3 : Int) (x4 : Int) (pn_0 : Int) (pt_0 : Int → Int) (ph_0 : Int → Int) (pm_0 : Int) (alive_0 : Int → Int) (row_0 : Int → Int) (rowMany_0 : Int) (onlyPiece_0 : Int) (drawnNode_0 : Int → Int) (drawnEdge_0 : Int → Int) (pieceOf_0 : Int → Int) (bestWay_0 : Int → Int) (gx : Int) (k1 : 0 ≤ x1 ∧ x1 ≤ 30) (k2 : 0 ≤ x2 ∧ x2 ≤ 25) (k3 : (-2) ≤ x3 ∧ x3 ≤ 26) (k4 : 0 ≤ x4 ∧ x4 ≤ 25) (d0 : x4 + 0 ≤ x2 ∧ x2 ≤ x4 + 4294967296) (f0 : x4 ≤ x2) (g1 : x4 = pn_0) (f2 : GOK (pn_0) (pm_0) (pt_0) (ph_0)) (f3 : STB (pn_0) (pm_0) (pt_0) (ph_0) (alive_0)) (f4 : STR (pn_0) (rowMany_0) (pt_0) (ph_0) (row_0)) (f5 : onlyPiece_0 = (-1)) (f6 : (-1) * rowMany_0 + ((-1) * x3 + 0) ≤ (-26)) (f7 : DRR (pn_0) (rowMany_0) (drawnNode_0) (row_0)) (f8 : DEM (pm_0) (pt_0) (ph_0) (drawnNode_0) (drawnEdge_0)) (f9 : UA (pm_0) (alive_0) (drawnEdge_0)) (f10 : (rowMany_0 + 1) ≤ pn_0) (f11 : SA1 (pn_0) (pm_0) (onlyPiece_0) (pt_0) (ph_0) (drawnEdge_0) (pieceOf_0) (drawnNode_0) (bestWay_0) (x1) (x2)) (hK_0_33 : ∀ j : Int, 0 ≤ j → j < 80 → 0 ≤ pt_0 j ∧ pt_0 j ≤ 24) (hK_0_34 : ∀ j : Int, 0 ≤ j → j < 80 → 0 ≤ ph_0 j ∧ ph_0 j ≤ 24) (hK_0_35 : ∀ j : Int, 0 ≤ j → j < 80 → 0 ≤ alive_0 j ∧ alive_0 j ≤ 1) (hK_0_42 : ∀ j : Int, 0 ≤ j → j < 26 → 0 ≤ drawnNode_0 j ∧ drawnNode_0 j ≤ 1) (hK_0_43 : ∀ j : Int, 0 ≤ j → j < 80 → 0 ≤ drawnEdge_0 j ∧ drawnEdge_0 j ≤ 1) (hK_0_44 : ∀ j : Int, 0 ≤ j → j < 80 → (-1) ≤ pieceOf_0 j ∧ pieceOf_0 j ≤ 79) (hK_0_52 : ∀ j : Int, 0 ≤ j → j < 30 → 0 ≤ bestWay_0 j ∧ bestWay_0 j ≤ 24) (hK_0_117 : ∀ j : Int, 0 ≤ j → j < 100 → 0 ≤ row_0 j ∧ row_0 j ≤ 75) (kz_0_31 : 0 ≤ pn_0 ∧ pn_0 ≤ 25) (kz_0_32 : 0 ≤ pm_0 ∧ pm_0 ≤ 80) (kz_0_49 : (-1) ≤ onlyPiece_0 ∧ onlyPiece_0 ≤ 79) (kz_0_125 : 0 ≤ rowMany_0 ∧ rowMany_0 ≤ 100) (ex2 : gx = rowMany_0) (ex3 : 0 ≤ gx ∧ gx ≤ 100) : rowMany_0 = gx := by
  first
    | omega
    | (have h := ‹STB _ _ _ _ _›.1.2.2; omega)
    | (have h := ‹STR _ _ _ _ _›.1; omega)
    | (have h := ‹STR _ _ _ _ _›.1
       have w := ‹STR _ _ _ _ _›.2.1 x1 (by omega) (by omega)
       omega)
    | (have h := bc_len ‹BC1 _ _ _ _ _ _ _›
       have h2 := ‹STR _ _ _ _ _›.1
       omega)
    | (have h := (sb_way ‹SB1 _ _ _ _ _ _ _ _ _ _ _ _› (by omega)).1
       have h2 := ‹STR _ _ _ _ _›.1
       omega)
    | (have h := ‹WYM _ _ _ _›.1
       have h2 := ‹STR _ _ _ _ _›.1
       omega)
set_option maxHeartbeats 4000000 in
theorem vc_Mo_stOrder_11_2 (x1 : Int) (x2 : Int) (x3 : Int) (x4 : Int) (pn_0 : Int) (pt_0 : Int → Int) (ph_0 : Int → Int) (pm_0 : Int) (alive_0 : Int → Int) (row_0 : Int → Int) (rowMany_0 : Int) (onlyPiece_0 : Int) (drawnNode_0 : Int → Int) (drawnEdge_0 : Int → Int) (pieceOf_0 : Int → Int) (bestWay_0 : Int → Int) (gx : Int) (k1 : 0 ≤ x1 ∧ x1 ≤ 30) (k2 : 0 ≤ x2 ∧ x2 ≤ 25) (k3 : (-2) ≤ x3 ∧ x3 ≤ 26) (k4 : 0 ≤ x4 ∧ x4 ≤ 25) (d0 : x4 + 0 ≤ x2 ∧ x2 ≤ x4 + 4294967296) (f0 : x4 ≤ x2) (g1 : x4 = pn_0) (f2 : GOK (pn_0) (pm_0) (pt_0) (ph_0)) (f3 : STB (pn_0) (pm_0) (pt_0) (ph_0) (alive_0)) (f4 : STR (pn_0) (rowMany_0) (pt_0) (ph_0) (row_0)) (f5 : onlyPiece_0 = (-1)) (f6 : (-1) * rowMany_0 + ((-1) * x3 + 0) ≤ (-26)) (f7 : DRR (pn_0) (rowMany_0) (drawnNode_0) (row_0)) (f8 : DEM (pm_0) (pt_0) (ph_0) (drawnNode_0) (drawnEdge_0)) (f9 : UA (pm_0) (alive_0) (drawnEdge_0)) (f10 : (rowMany_0 + 1) ≤ pn_0) (f11 : SA1 (pn_0) (pm_0) (onlyPiece_0) (pt_0) (ph_0) (drawnEdge_0) (pieceOf_0) (drawnNode_0) (bestWay_0) (x1) (x2)) (hK_0_33 : ∀ j : Int, 0 ≤ j → j < 80 → 0 ≤ pt_0 j ∧ pt_0 j ≤ 24) (hK_0_34 : ∀ j : Int, 0 ≤ j → j < 80 → 0 ≤ ph_0 j ∧ ph_0 j ≤ 24) (hK_0_35 : ∀ j : Int, 0 ≤ j → j < 80 → 0 ≤ alive_0 j ∧ alive_0 j ≤ 1) (hK_0_42 : ∀ j : Int, 0 ≤ j → j < 26 → 0 ≤ drawnNode_0 j ∧ drawnNode_0 j ≤ 1) (hK_0_43 : ∀ j : Int, 0 ≤ j → j < 80 → 0 ≤ drawnEdge_0 j ∧ drawnEdge_0 j ≤ 1) (hK_0_44 : ∀ j : Int, 0 ≤ j → j < 80 → (-1) ≤ pieceOf_0 j ∧ pieceOf_0 j ≤ 79) (hK_0_52 : ∀ j : Int, 0 ≤ j → j < 30 → 0 ≤ bestWay_0 j ∧ bestWay_0 j ≤ 24) (hK_0_117 : ∀ j : Int, 0 ≤ j → j < 100 → 0 ≤ row_0 j ∧ row_0 j ≤ 75) (kz_0_31 : 0 ≤ pn_0 ∧ pn_0 ≤ 25) (kz_0_32 : 0 ≤ pm_0 ∧ pm_0 ≤ 80) (kz_0_49 : (-1) ≤ onlyPiece_0 ∧ onlyPiece_0 ≤ 79) (kz_0_125 : 0 ≤ rowMany_0 ∧ rowMany_0 ≤ 100) (ex2 : gx = rowMany_0) (ex3 : 0 ≤ gx ∧ gx ≤ 100) : (-1) * x3 + 0 ≤ (-1) := by
  first
    | omega
    | (have h := ‹STB _ _ _ _ _›.1.2.2; omega)
    | (have h := ‹STR _ _ _ _ _›.1; omega)
    | (have h := ‹STR _ _ _ _ _›.1
       have w := ‹STR _ _ _ _ _›.2.1 x1 (by omega) (by omega)
       omega)
    | (have h := bc_len ‹BC1 _ _ _ _ _ _ _›
       have h2 := ‹STR _ _ _ _ _›.1
       omega)
    | (have h := (sb_way ‹SB1 _ _ _ _ _ _ _ _ _ _ _ _› (by omega)).1
       have h2 := ‹STR _ _ _ _ _›.1
       omega)
    | (have h := ‹WYM _ _ _ _›.1
       have h2 := ‹STR _ _ _ _ _›.1
       omega)
set_option maxHeartbeats 4000000 in
theorem vc_Mo_stOrder_11_3 (x1 : Int) (x2 : Int) (x3 : Int) (x4 : Int) (pn_0 : Int) (pt_0 : Int → Int) (ph_0 : Int → Int) (pm_0 : Int) (alive_0 : Int → Int) (row_0 : Int → Int) (rowMany_0 : Int) (onlyPiece_0 : Int) (drawnNode_0 : Int → Int) (drawnEdge_0 : Int → Int) (pieceOf_0 : Int → Int) (bestWay_0 : Int → Int) (gx : Int) (k1 : 0 ≤ x1 ∧ x1 ≤ 30) (k2 : 0 ≤ x2 ∧ x2 ≤ 25) (k3 : (-2) ≤ x3 ∧ x3 ≤ 26) (k4 : 0 ≤ x4 ∧ x4 ≤ 25) (d0 : x4 + 0 ≤ x2 ∧ x2 ≤ x4 + 4294967296) (f0 : x4 ≤ x2) (g1 : x4 = pn_0) (f2 : GOK (pn_0) (pm_0) (pt_0) (ph_0)) (f3 : STB (pn_0) (pm_0) (pt_0) (ph_0) (alive_0)) (f4 : STR (pn_0) (rowMany_0) (pt_0) (ph_0) (row_0)) (f5 : onlyPiece_0 = (-1)) (f6 : (-1) * rowMany_0 + ((-1) * x3 + 0) ≤ (-26)) (f7 : DRR (pn_0) (rowMany_0) (drawnNode_0) (row_0)) (f8 : DEM (pm_0) (pt_0) (ph_0) (drawnNode_0) (drawnEdge_0)) (f9 : UA (pm_0) (alive_0) (drawnEdge_0)) (f10 : (rowMany_0 + 1) ≤ pn_0) (f11 : SA1 (pn_0) (pm_0) (onlyPiece_0) (pt_0) (ph_0) (drawnEdge_0) (pieceOf_0) (drawnNode_0) (bestWay_0) (x1) (x2)) (hK_0_33 : ∀ j : Int, 0 ≤ j → j < 80 → 0 ≤ pt_0 j ∧ pt_0 j ≤ 24) (hK_0_34 : ∀ j : Int, 0 ≤ j → j < 80 → 0 ≤ ph_0 j ∧ ph_0 j ≤ 24) (hK_0_35 : ∀ j : Int, 0 ≤ j → j < 80 → 0 ≤ alive_0 j ∧ alive_0 j ≤ 1) (hK_0_42 : ∀ j : Int, 0 ≤ j → j < 26 → 0 ≤ drawnNode_0 j ∧ drawnNode_0 j ≤ 1) (hK_0_43 : ∀ j : Int, 0 ≤ j → j < 80 → 0 ≤ drawnEdge_0 j ∧ drawnEdge_0 j ≤ 1) (hK_0_44 : ∀ j : Int, 0 ≤ j → j < 80 → (-1) ≤ pieceOf_0 j ∧ pieceOf_0 j ≤ 79) (hK_0_52 : ∀ j : Int, 0 ≤ j → j < 30 → 0 ≤ bestWay_0 j ∧ bestWay_0 j ≤ 24) (hK_0_117 : ∀ j : Int, 0 ≤ j → j < 100 → 0 ≤ row_0 j ∧ row_0 j ≤ 75) (kz_0_31 : 0 ≤ pn_0 ∧ pn_0 ≤ 25) (kz_0_32 : 0 ≤ pm_0 ∧ pm_0 ≤ 80) (kz_0_49 : (-1) ≤ onlyPiece_0 ∧ onlyPiece_0 ≤ 79) (kz_0_125 : 0 ≤ rowMany_0 ∧ rowMany_0 ≤ 100) (ex2 : gx = rowMany_0) (ex3 : 0 ≤ gx ∧ gx ≤ 100) : (-1) * x3 + ((-1) * gx + 0) ≤ (-26) := by
  first
    | omega
    | (have h := ‹STB _ _ _ _ _›.1.2.2; omega)
    | (have h := ‹STR _ _ _ _ _›.1; omega)
    | (have h := ‹STR _ _ _ _ _›.1
       have w := ‹STR _ _ _ _ _›.2.1 x1 (by omega) (by omega)
       omega)
    | (have h := bc_len ‹BC1 _ _ _ _ _ _ _›
       have h2 := ‹STR _ _ _ _ _›.1
       omega)
    | (have h := (sb_way ‹SB1 _ _ _ _ _ _ _ _ _ _ _ _› (by omega)).1
       have h2 := ‹STR _ _ _ _ _›.1
       omega)
    | (have h := ‹WYM _ _ _ _›.1
       have h2 := ‹STR _ _ _ _ _›.1
       omega)
set_option maxHeartbeats 4000000 in
theorem vc_Mo_stOrder_11_4 (x1 : Int) (x2 : Int) (x3 : Int) (x4 : Int) (pn_0 : Int) (pt_0 : Int → Int) (ph_0 : Int → Int) (pm_0 : Int) (alive_0 : Int → Int) (row_0 : Int → Int) (rowMany_0 : Int) (onlyPiece_0 : Int) (drawnNode_0 : Int → Int) (drawnEdge_0 : Int → Int) (pieceOf_0 : Int → Int) (bestWay_0 : Int → Int) (gx : Int) (k1 : 0 ≤ x1 ∧ x1 ≤ 30) (k2 : 0 ≤ x2 ∧ x2 ≤ 25) (k3 : (-2) ≤ x3 ∧ x3 ≤ 26) (k4 : 0 ≤ x4 ∧ x4 ≤ 25) (d0 : x4 + 0 ≤ x2 ∧ x2 ≤ x4 + 4294967296) (f0 : x4 ≤ x2) (g1 : x4 = pn_0) (f2 : GOK (pn_0) (pm_0) (pt_0) (ph_0)) (f3 : STB (pn_0) (pm_0) (pt_0) (ph_0) (alive_0)) (f4 : STR (pn_0) (rowMany_0) (pt_0) (ph_0) (row_0)) (f5 : onlyPiece_0 = (-1)) (f6 : (-1) * rowMany_0 + ((-1) * x3 + 0) ≤ (-26)) (f7 : DRR (pn_0) (rowMany_0) (drawnNode_0) (row_0)) (f8 : DEM (pm_0) (pt_0) (ph_0) (drawnNode_0) (drawnEdge_0)) (f9 : UA (pm_0) (alive_0) (drawnEdge_0)) (f10 : (rowMany_0 + 1) ≤ pn_0) (f11 : SA1 (pn_0) (pm_0) (onlyPiece_0) (pt_0) (ph_0) (drawnEdge_0) (pieceOf_0) (drawnNode_0) (bestWay_0) (x1) (x2)) (hK_0_33 : ∀ j : Int, 0 ≤ j → j < 80 → 0 ≤ pt_0 j ∧ pt_0 j ≤ 24) (hK_0_34 : ∀ j : Int, 0 ≤ j → j < 80 → 0 ≤ ph_0 j ∧ ph_0 j ≤ 24) (hK_0_35 : ∀ j : Int, 0 ≤ j → j < 80 → 0 ≤ alive_0 j ∧ alive_0 j ≤ 1) (hK_0_42 : ∀ j : Int, 0 ≤ j → j < 26 → 0 ≤ drawnNode_0 j ∧ drawnNode_0 j ≤ 1) (hK_0_43 : ∀ j : Int, 0 ≤ j → j < 80 → 0 ≤ drawnEdge_0 j ∧ drawnEdge_0 j ≤ 1) (hK_0_44 : ∀ j : Int, 0 ≤ j → j < 80 → (-1) ≤ pieceOf_0 j ∧ pieceOf_0 j ≤ 79) (hK_0_52 : ∀ j : Int, 0 ≤ j → j < 30 → 0 ≤ bestWay_0 j ∧ bestWay_0 j ≤ 24) (hK_0_117 : ∀ j : Int, 0 ≤ j → j < 100 → 0 ≤ row_0 j ∧ row_0 j ≤ 75) (kz_0_31 : 0 ≤ pn_0 ∧ pn_0 ≤ 25) (kz_0_32 : 0 ≤ pm_0 ∧ pm_0 ≤ 80) (kz_0_49 : (-1) ≤ onlyPiece_0 ∧ onlyPiece_0 ≤ 79) (kz_0_125 : 0 ≤ rowMany_0 ∧ rowMany_0 ≤ 100) (ex2 : gx = rowMany_0) (ex3 : 0 ≤ gx ∧ gx ≤ 100) : onlyPiece_0 = (-1) := by
  first
    | omega
    | (have h := ‹STB _ _ _ _ _›.1.2.2; omega)
    | (have h := ‹STR _ _ _ _ _›.1; omega)
    | (have h := ‹STR _ _ _ _ _›.1
       have w := ‹STR _ _ _ _ _›.2.1 x1 (by omega) (by omega)
       omega)
    | (have h := bc_len ‹BC1 _ _ _ _ _ _ _›
       have h2 := ‹STR _ _ _ _ _›.1
       omega)
    | (have h := (sb_way ‹SB1 _ _ _ _ _ _ _ _ _ _ _ _› (by omega)).1
       have h2 := ‹STR _ _ _ _ _›.1
       omega)
    | (have h := ‹WYM _ _ _ _›.1
       have h2 := ‹STR _ _ _ _ _›.1
       omega)
def o_Mo_stOrder_11 : or_T := (368, 5, [(0, (2, 0, 0, [165])), (1, (0, 0, 30, [])), (2, (0, 0, 25, [])), (3, (0, -2, 26, [])), (4, (0, 0, 25, []))], [(7, [2, 4], [3]), (9, [4, 0], [31]), (20, [0], [60, 2, 2, 75, 31, 32, 33, 34]), (20, [0], [60, 2, 3, 297, 31, 32, 33, 34, 35]), (20, [0], [60, 2, 3, 298, 31, 125, 33, 34, 117]), (20, [0], [50, 1, 0, 49, 1, 3, 2, 0, 49, 0, -1]), (20, [0, 3], [30, -26, -1, 1, 125, -1, 0, 0]), (20, [0], [60, 2, 2, 301, 31, 125, 42, 117]), (20, [0], [60, 1, 4, 303, 32, 33, 34, 42, 43]), (20, [0], [60, 1, 2, 122, 32, 35, 43]), (20, [0], [50, 2, 0, 125, 31, 0, 7, 4, 3, 2, 0, 125, 0, 1, 2, 0, 31]), (20, [0, 1, 2], [60, 3, 6, 305, 31, 32, 49, 33, 34, 43, 44, 42, 52])], [], [(0, 0, 100, [])], [(20, [0, 1], [60, 2, 5, 311, 31, 125, 33, 34, 42, 117, 52]), (20, [0, 5], [50, 1, 0, 125, 1, 3, 2, 0, 125, 1, 1]), (23, [3], [-1, -1]), (23, [3, 5], [-26, -1, -1]), (20, [0], [50, 1, 0, 49, 1, 3, 2, 0, 49, 0, -1])], [], [(2, 4, 0, 4294967296)])
theorem oo_Mo_stOrder_11 {kA : Nat → ClassId} : or_ok PRD kA GG o_Mo_stOrder_11 := by
  refine or_mk fun A ta ws vs hD hth hl => ?_
  intro t0 r0 t1 k1 t2 k2 t3 k3 t4 k4 d0 f0 f1 f2 f3 f4 f5 f6 f7 f8 f9 f10 f11
  replace f0 := shm_2 f0
  replace f1 := shm_577 f1
  replace f2 := shm_575 f2
  replace f3 := shm_1749 f3
  replace f4 := shm_1001 f4
  replace f5 := shm_1675 f5
  replace f6 := shm_1750 f6
  replace f7 := shm_1755 f7
  replace f8 := shm_1757 f8
  replace f9 := shm_1455 f9
  replace f10 := shm_1752 f10
  replace f11 := shm_1758 f11
  have cr_0_33 := fdq_117 hD hth r0
  have cr_0_34 := fdq_118 hD hth r0
  have cr_0_35 := fdq_132 hD hth r0
  have cr_0_42 := fdq_136 hD hth r0
  have cr_0_43 := fdq_137 hD hth r0
  have cr_0_44 := fdq_138 hD hth r0
  have cr_0_52 := fdq_236 hD hth r0
  have cr_0_117 := fdq_181 hD hth r0
  have g1 : v_iv (n_v vs 4) = w_fi ws (n_v vs 0) 31 := congrArg v_iv f1
  have hK_0_33 := elq_60 hD hth cr_0_33
  have hK_0_34 := elq_61 hD hth cr_0_34
  have hK_0_35 := elq_72 hD hth cr_0_35
  have hK_0_42 := elq_75 hD hth cr_0_42
  have hK_0_43 := elq_76 hD hth cr_0_43
  have hK_0_44 := elq_77 hD hth cr_0_44
  have hK_0_52 := elq_147 hD hth cr_0_52
  have hK_0_117 := elq_108 hD hth cr_0_117
  have kz_0_31 := fdq_145 hD hth r0
  have kz_0_32 := fdq_140 hD hth r0
  have kz_0_49 := fdq_146 hD hth r0
  have kz_0_125 := fdq_182 hD hth r0
  obtain ⟨x, ex, hx⟩ := iv_ex (ta := ta) (lo := 0) (hi := 100) (z := w_fi ws (n_v vs 0) 125) (by omega) (by omega) (by omega) (by omega)
  have ex2 : v_iv (Value.int x) = w_fi ws (n_v vs 0) 125 := ex
  have ex3 : 0 ≤ v_iv (Value.int x) ∧ v_iv (Value.int x) ≤ 100 := tv_rng hx
  have e_0 : n_v (vs ++ [Value.int x]) 0 = n_v vs 0 := n_v_old (by rw [hl]; decide)
  have e_1 : n_v (vs ++ [Value.int x]) 1 = n_v vs 1 := n_v_old (by rw [hl]; decide)
  have e_3 : n_v (vs ++ [Value.int x]) 3 = n_v vs 3 := n_v_old (by rw [hl]; decide)
  have e_5 : n_v (vs ++ [Value.int x]) 5 = Value.int x := n_v_new hl
  have nf0 : fc_1 PRD (20, [0, 1], [60, 2, 5, 311, 31, 125, 33, 34, 42, 117, 52]) ws (vs ++ [Value.int x]) := by
    refine ⟨nf_inA hl rfl, sgq_994 ?_⟩
    · show INP (w_fi ws (n_v (vs ++ [Value.int x]) 0) 31) (w_fi ws (n_v (vs ++ [Value.int x]) 0) 125) (w_ei ws (w_ar ws (n_v (vs ++ [Value.int x]) 0) 33)) (w_ei ws (w_ar ws (n_v (vs ++ [Value.int x]) 0) 34)) (w_ei ws (w_ar ws (n_v (vs ++ [Value.int x]) 0) 42)) (w_ei ws (w_ar ws (n_v (vs ++ [Value.int x]) 0) 117)) (w_ei ws (w_ar ws (n_v (vs ++ [Value.int x]) 0) 52)) (v_iv (n_v (vs ++ [Value.int x]) 1))
      simp only [e_0, e_1]
      exact vc_Mo_stOrder_11_0 (v_iv (n_v vs 1)) (v_iv (n_v vs 2)) (v_iv (n_v vs 3)) (v_iv (n_v vs 4)) (w_fi ws (n_v vs 0) 31) (w_ei ws (w_ar ws (n_v vs 0) 33)) (w_ei ws (w_ar ws (n_v vs 0) 34)) (w_fi ws (n_v vs 0) 32) (w_ei ws (w_ar ws (n_v vs 0) 35)) (w_ei ws (w_ar ws (n_v vs 0) 117)) (w_fi ws (n_v vs 0) 125) (w_fi ws (n_v vs 0) 49) (w_ei ws (w_ar ws (n_v vs 0) 42)) (w_ei ws (w_ar ws (n_v vs 0) 43)) (w_ei ws (w_ar ws (n_v vs 0) 44)) (w_ei ws (w_ar ws (n_v vs 0) 52)) (v_iv (Value.int x)) k1 k2 k3 k4 d0 f0 g1 f2 f3 f4 f5 f6 f7 f8 f9 f10 f11 hK_0_33 hK_0_34 hK_0_35 hK_0_42 hK_0_43 hK_0_44 hK_0_52 hK_0_117 kz_0_31 kz_0_32 kz_0_49 kz_0_125 ex2 ex3
  have nf1 : fc_1 PRD (20, [0, 5], [50, 1, 0, 125, 1, 3, 2, 0, 125, 1, 1]) ws (vs ++ [Value.int x]) := by
    refine ⟨nf_inA hl rfl, sgq_995 ?_⟩
    · show w_fi ws (n_v (vs ++ [Value.int x]) 0) 125 = v_iv (n_v (vs ++ [Value.int x]) 5)
      simp only [e_0, e_5]
      exact vc_Mo_stOrder_11_1 (v_iv (n_v vs 1)) (v_iv (n_v vs 2)) (v_iv (n_v vs 3)) (v_iv (n_v vs 4)) (w_fi ws (n_v vs 0) 31) (w_ei ws (w_ar ws (n_v vs 0) 33)) (w_ei ws (w_ar ws (n_v vs 0) 34)) (w_fi ws (n_v vs 0) 32) (w_ei ws (w_ar ws (n_v vs 0) 35)) (w_ei ws (w_ar ws (n_v vs 0) 117)) (w_fi ws (n_v vs 0) 125) (w_fi ws (n_v vs 0) 49) (w_ei ws (w_ar ws (n_v vs 0) 42)) (w_ei ws (w_ar ws (n_v vs 0) 43)) (w_ei ws (w_ar ws (n_v vs 0) 44)) (w_ei ws (w_ar ws (n_v vs 0) 52)) (v_iv (Value.int x)) k1 k2 k3 k4 d0 f0 g1 f2 f3 f4 f5 f6 f7 f8 f9 f10 f11 hK_0_33 hK_0_34 hK_0_35 hK_0_42 hK_0_43 hK_0_44 hK_0_52 hK_0_117 kz_0_31 kz_0_32 kz_0_49 kz_0_125 ex2 ex3
  have nf2 : fc_1 PRD (23, [3], [-1, -1]) ws (vs ++ [Value.int x]) := by
    refine ⟨nf_inA hl rfl, sgq_626 ?_⟩
    · show (-1) * v_iv (n_v (vs ++ [Value.int x]) 3) + 0 ≤ (-1)
      rw [e_3]
      exact vc_Mo_stOrder_11_2 (v_iv (n_v vs 1)) (v_iv (n_v vs 2)) (v_iv (n_v vs 3)) (v_iv (n_v vs 4)) (w_fi ws (n_v vs 0) 31) (w_ei ws (w_ar ws (n_v vs 0) 33)) (w_ei ws (w_ar ws (n_v vs 0) 34)) (w_fi ws (n_v vs 0) 32) (w_ei ws (w_ar ws (n_v vs 0) 35)) (w_ei ws (w_ar ws (n_v vs 0) 117)) (w_fi ws (n_v vs 0) 125) (w_fi ws (n_v vs 0) 49) (w_ei ws (w_ar ws (n_v vs 0) 42)) (w_ei ws (w_ar ws (n_v vs 0) 43)) (w_ei ws (w_ar ws (n_v vs 0) 44)) (w_ei ws (w_ar ws (n_v vs 0) 52)) (v_iv (Value.int x)) k1 k2 k3 k4 d0 f0 g1 f2 f3 f4 f5 f6 f7 f8 f9 f10 f11 hK_0_33 hK_0_34 hK_0_35 hK_0_42 hK_0_43 hK_0_44 hK_0_52 hK_0_117 kz_0_31 kz_0_32 kz_0_49 kz_0_125 ex2 ex3
  have nf3 : fc_1 PRD (23, [3, 5], [-26, -1, -1]) ws (vs ++ [Value.int x]) := by
    refine ⟨nf_inA hl rfl, sgq_1759 ?_⟩
    · show (-1) * v_iv (n_v (vs ++ [Value.int x]) 3) + ((-1) * v_iv (n_v (vs ++ [Value.int x]) 5) + 0) ≤ (-26)
      simp only [e_3, e_5]
      exact vc_Mo_stOrder_11_3 (v_iv (n_v vs 1)) (v_iv (n_v vs 2)) (v_iv (n_v vs 3)) (v_iv (n_v vs 4)) (w_fi ws (n_v vs 0) 31) (w_ei ws (w_ar ws (n_v vs 0) 33)) (w_ei ws (w_ar ws (n_v vs 0) 34)) (w_fi ws (n_v vs 0) 32) (w_ei ws (w_ar ws (n_v vs 0) 35)) (w_ei ws (w_ar ws (n_v vs 0) 117)) (w_fi ws (n_v vs 0) 125) (w_fi ws (n_v vs 0) 49) (w_ei ws (w_ar ws (n_v vs 0) 42)) (w_ei ws (w_ar ws (n_v vs 0) 43)) (w_ei ws (w_ar ws (n_v vs 0) 44)) (w_ei ws (w_ar ws (n_v vs 0) 52)) (v_iv (Value.int x)) k1 k2 k3 k4 d0 f0 g1 f2 f3 f4 f5 f6 f7 f8 f9 f10 f11 hK_0_33 hK_0_34 hK_0_35 hK_0_42 hK_0_43 hK_0_44 hK_0_52 hK_0_117 kz_0_31 kz_0_32 kz_0_49 kz_0_125 ex2 ex3
  have nf4 : fc_1 PRD (20, [0], [50, 1, 0, 49, 1, 3, 2, 0, 49, 0, -1]) ws (vs ++ [Value.int x]) := by
    refine ⟨nf_inA hl rfl, sgq_1675 ?_⟩
    · show w_fi ws (n_v (vs ++ [Value.int x]) 0) 49 = (-1)
      rw [e_0]
      exact vc_Mo_stOrder_11_4 (v_iv (n_v vs 1)) (v_iv (n_v vs 2)) (v_iv (n_v vs 3)) (v_iv (n_v vs 4)) (w_fi ws (n_v vs 0) 31) (w_ei ws (w_ar ws (n_v vs 0) 33)) (w_ei ws (w_ar ws (n_v vs 0) 34)) (w_fi ws (n_v vs 0) 32) (w_ei ws (w_ar ws (n_v vs 0) 35)) (w_ei ws (w_ar ws (n_v vs 0) 117)) (w_fi ws (n_v vs 0) 125) (w_fi ws (n_v vs 0) 49) (w_ei ws (w_ar ws (n_v vs 0) 42)) (w_ei ws (w_ar ws (n_v vs 0) 43)) (w_ei ws (w_ar ws (n_v vs 0) 44)) (w_ei ws (w_ar ws (n_v vs 0) 52)) (v_iv (Value.int x)) k1 k2 k3 k4 d0 f0 g1 f2 f3 f4 f5 f6 f7 f8 f9 f10 f11 hK_0_33 hK_0_34 hK_0_35 hK_0_42 hK_0_43 hK_0_44 hK_0_52 hK_0_117 kz_0_31 kz_0_32 kz_0_49 kz_0_125 ex2 ex3
  exact ⟨(fun _ h => (by cases h)), [Value.int x], ag_one hx, List.forall_mem_cons.mpr ⟨⟨show (20 : Nat) < 100 from by decide, nf0⟩, List.forall_mem_cons.mpr ⟨⟨show (20 : Nat) < 100 from by decide, nf1⟩, List.forall_mem_cons.mpr ⟨⟨show (23 : Nat) < 100 from by decide, nf2⟩, List.forall_mem_cons.mpr ⟨⟨show (23 : Nat) < 100 from by decide, nf3⟩, List.forall_mem_cons.mpr ⟨⟨show (20 : Nat) < 100 from by decide, nf4⟩, (fun _ h => (by cases h))⟩⟩⟩⟩⟩, (fun _ h => (by cases h))⟩
set_option maxHeartbeats 4000000 in
theorem vc_Mo_stOrder_12_0 (x1 : Int) (x2 : Int) (x3 : Int) (x4 : Int) (x5 : Int) (onlyPiece_0 : Int) (pt_0 : Int → Int) (ph_0 : Int → Int) (pn_0 : Int) (pm_0 : Int) (alive_0 : Int → Int) (drawnNode_0 : Int → Int) (drawnEdge_0 : Int → Int) (pieceOf_0 : Int → Int) (bestWay_0 : Int → Int) (row_0 : Int → Int) (rowMany_0 : Int) (gx : Int) (k1 : 0 ≤ x1 ∧ x1 ≤ 30) (k2 : 0 ≤ x2 ∧ x2 ≤ 25) (k3 : (-2) ≤ x3 ∧ x3 ≤ 26) (k4 : 0 ≤ x4 ∧ x4 ≤ 25) (k5 : 0 ≤ x5 ∧ x5 ≤ 100) (d0 : x4 + 0 ≤ x2 ∧ x2 ≤ x4 + 4294967296) (f0 : (-1) * x3 + 0 ≤ (-1)) (f1 : (-1) * x3 + ((-1) * x5 + 0) ≤ (-26)) (f2 : onlyPiece_0 = (-1)) (f3 : GOK (pn_0) (pm_0) (pt_0) (ph_0)) (f4 : STB (pn_0) (pm_0) (pt_0) (ph_0) (alive_0)) (f5 : onlyPiece_0 = (-1)) (f6 : DEM (pm_0) (pt_0) (ph_0) (drawnNode_0) (drawnEdge_0)) (f7 : UA (pm_0) (alive_0) (drawnEdge_0)) (f8 : SA1 (pn_0) (pm_0) (onlyPiece_0) (pt_0) (ph_0) (drawnEdge_0) (pieceOf_0) (drawnNode_0) (bestWay_0) (x1) (x2)) (f9 : STR (pn_0) (rowMany_0) (pt_0) (ph_0) (row_0)) (f10 : (x5 + 1) ≤ rowMany_0) (f12 : (-1) * x3 + 0 ≤ (-1)) (f13 : (-1) * x3 + ((-1) * x5 + 0) ≤ (-26)) (f14 : x4 ≤ x2) (hK_0_33 : ∀ j : Int, 0 ≤ j → j < 80 → 0 ≤ pt_0 j ∧ pt_0 j ≤ 24) (hK_0_34 : ∀ j : Int, 0 ≤ j → j < 80 → 0 ≤ ph_0 j ∧ ph_0 j ≤ 24) (hK_0_35 : ∀ j : Int, 0 ≤ j → j < 80 → 0 ≤ alive_0 j ∧ alive_0 j ≤ 1) (hK_0_42 : ∀ j : Int, 0 ≤ j → j < 26 → 0 ≤ drawnNode_0 j ∧ drawnNode_0 j ≤ 1) (hK_0_43 : ∀ j : Int, 0 ≤ j → j < 80 → 0 ≤ drawnEdge_0 j ∧ drawnEdge_0 j ≤ 1) (hK_0_44 : ∀ j : Int, 0 ≤ j → j < 80 → (-1) ≤ pieceOf_0 j ∧ pieceOf_0 j ≤ 79) (hK_0_52 : ∀ j : Int, 0 ≤ j → j < 30 → 0 ≤ bestWay_0 j ∧ bestWay_0 j ≤ 24) (hK_0_117 : ∀ j : Int, 0 ≤ j → j < 100 → 0 ≤ row_0 j ∧ row_0 j ≤ 75) (kz_0_31 : 0 ≤ pn_0 ∧ pn_0 ≤ 25) (kz_0_32 : 0 ≤ pm_0 ∧ pm_0 ≤ 80) (kz_0_49 : (-1) ≤ onlyPiece_0 ∧ onlyPiece_0 ≤ 79) (kz_0_125 : 0 ≤ rowMany_0 ∧ rowMany_0 ≤ 100) (ex2 : gx = 0 + (1 * x3 + 0)) (ex3 : (-2) ≤ gx ∧ gx ≤ 26) : GOK (pn_0) (pm_0) (pt_0) (ph_0) := by
  first
    | assumption
    | exact ‹STB _ _ _ _ _›.1.1
set_option maxHeartbeats 4000000 in
theorem vc_Mo_stOrder_12_1 (x1 : Int) (x2 : Int) (x3 : Int) (x4 : Int) (x5 : Int) (onlyPiece_0 : Int) (pt_0 : Int → Int) (ph_0 : Int → Int) (pn_0 : Int) (pm_0 : Int) (alive_0 : Int → Int) (drawnNode_0 : Int → Int) (drawnEdge_0 : Int → Int) (pieceOf_0 : Int → Int) (bestWay_0 : Int → Int) (row_0 : Int → Int) (rowMany_0 : Int) (gx : Int) (k1 : 0 ≤ x1 ∧ x1 ≤ 30) (k2 : 0 ≤ x2 ∧ x2 ≤ 25) (k3 : (-2) ≤ x3 ∧ x3 ≤ 26) (k4 : 0 ≤ x4 ∧ x4 ≤ 25) (k5 : 0 ≤ x5 ∧ x5 ≤ 100) (d0 : x4 + 0 ≤ x2 ∧ x2 ≤ x4 + 4294967296) (f0 : (-1) * x3 + 0 ≤ (-1)) (f1 : (-1) * x3 + ((-1) * x5 + 0) ≤ (-26)) (f2 : onlyPiece_0 = (-1)) (f3 : GOK (pn_0) (pm_0) (pt_0) (ph_0)) (f4 : STB (pn_0) (pm_0) (pt_0) (ph_0) (alive_0)) (f5 : onlyPiece_0 = (-1)) (f6 : DEM (pm_0) (pt_0) (ph_0) (drawnNode_0) (drawnEdge_0)) (f7 : UA (pm_0) (alive_0) (drawnEdge_0)) (f8 : SA1 (pn_0) (pm_0) (onlyPiece_0) (pt_0) (ph_0) (drawnEdge_0) (pieceOf_0) (drawnNode_0) (bestWay_0) (x1) (x2)) (f9 : STR (pn_0) (rowMany_0) (pt_0) (ph_0) (row_0)) (f10 : (x5 + 1) ≤ rowMany_0) (f12 : (-1) * x3 + 0 ≤ (-1)) (f13 : (-1) * x3 + ((-1) * x5 + 0) ≤ (-26)) (f14 : x4 ≤ x2) (hK_0_33 : ∀ j : Int, 0 ≤ j → j < 80 → 0 ≤ pt_0 j ∧ pt_0 j ≤ 24) (hK_0_34 : ∀ j : Int, 0 ≤ j → j < 80 → 0 ≤ ph_0 j ∧ ph_0 j ≤ 24) (hK_0_35 : ∀ j : Int, 0 ≤ j → j < 80 → 0 ≤ alive_0 j ∧ alive_0 j ≤ 1) (hK_0_42 : ∀ j : Int, 0 ≤ j → j < 26 → 0 ≤ drawnNode_0 j ∧ drawnNode_0 j ≤ 1) (hK_0_43 : ∀ j : Int, 0 ≤ j → j < 80 → 0 ≤ drawnEdge_0 j ∧ drawnEdge_0 j ≤ 1) (hK_0_44 : ∀ j : Int, 0 ≤ j → j < 80 → (-1) ≤ pieceOf_0 j ∧ pieceOf_0 j ≤ 79) (hK_0_52 : ∀ j : Int, 0 ≤ j → j < 30 → 0 ≤ bestWay_0 j ∧ bestWay_0 j ≤ 24) (hK_0_117 : ∀ j : Int, 0 ≤ j → j < 100 → 0 ≤ row_0 j ∧ row_0 j ≤ 75) (kz_0_31 : 0 ≤ pn_0 ∧ pn_0 ≤ 25) (kz_0_32 : 0 ≤ pm_0 ∧ pm_0 ≤ 80) (kz_0_49 : (-1) ≤ onlyPiece_0 ∧ onlyPiece_0 ≤ 79) (kz_0_125 : 0 ≤ rowMany_0 ∧ rowMany_0 ≤ 100) (ex2 : gx = 0 + (1 * x3 + 0)) (ex3 : (-2) ≤ gx ∧ gx ≤ 26) : STB (pn_0) (pm_0) (pt_0) (ph_0) (alive_0) := by
  first | assumption
set_option maxHeartbeats 4000000 in
theorem vc_Mo_stOrder_12_2 (x1 : Int) (x2 : Int) (x3 : Int) (x4 : Int) (x5 : Int) (onlyPiece_0 : Int) (pt_0 : Int → Int) (ph_0 : Int → Int) (pn_0 : Int) (pm_0 : Int) (alive_0 : Int → Int) (drawnNode_0 : Int → Int) (drawnEdge_0 : Int → Int) (pieceOf_0 : Int → Int) (bestWay_0 : Int → Int) (row_0 : Int → Int) (rowMany_0 : Int) (gx : Int) (k1 : 0 ≤ x1 ∧ x1 ≤ 30) (k2 : 0 ≤ x2 ∧ x2 ≤ 25) (k3 : (-2) ≤ x3 ∧ x3 ≤ 26) (k4 : 0 ≤ x4 ∧ x4 ≤ 25) (k5 : 0 ≤ x5 ∧ x5 ≤ 100) (d0 : x4 + 0 ≤ x2 ∧ x2 ≤ x4 + 4294967296) (f0 : (-1) * x3 + 0 ≤ (-1)) (f1 : (-1) * x3 + ((-1) * x5 + 0) ≤ (-26)) (f2 : onlyPiece_0 = (-1)) (f3 : GOK (pn_0) (pm_0) (pt_0) (ph_0)) (f4 : STB (pn_0) (pm_0) (pt_0) (ph_0) (alive_0)) (f5 : onlyPiece_0 = (-1)) (f6 : DEM (pm_0) (pt_0) (ph_0) (drawnNode_0) (drawnEdge_0)) (f7 : UA (pm_0) (alive_0) (drawnEdge_0)) (f8 : SA1 (pn_0) (pm_0) (onlyPiece_0) (pt_0) (ph_0) (drawnEdge_0) (pieceOf_0) (drawnNode_0) (bestWay_0) (x1) (x2)) (f9 : STR (pn_0) (rowMany_0) (pt_0) (ph_0) (row_0)) (f10 : (x5 + 1) ≤ rowMany_0) (f12 : (-1) * x3 + 0 ≤ (-1)) (f13 : (-1) * x3 + ((-1) * x5 + 0) ≤ (-26)) (f14 : x4 ≤ x2) (hK_0_33 : ∀ j : Int, 0 ≤ j → j < 80 → 0 ≤ pt_0 j ∧ pt_0 j ≤ 24) (hK_0_34 : ∀ j : Int, 0 ≤ j → j < 80 → 0 ≤ ph_0 j ∧ ph_0 j ≤ 24) (hK_0_35 : ∀ j : Int, 0 ≤ j → j < 80 → 0 ≤ alive_0 j ∧ alive_0 j ≤ 1) (hK_0_42 : ∀ j : Int, 0 ≤ j → j < 26 → 0 ≤ drawnNode_0 j ∧ drawnNode_0 j ≤ 1) (hK_0_43 : ∀ j : Int, 0 ≤ j → j < 80 → 0 ≤ drawnEdge_0 j ∧ drawnEdge_0 j ≤ 1) (hK_0_44 : ∀ j : Int, 0 ≤ j → j < 80 → (-1) ≤ pieceOf_0 j ∧ pieceOf_0 j ≤ 79) (hK_0_52 : ∀ j : Int, 0 ≤ j → j < 30 → 0 ≤ bestWay_0 j ∧ bestWay_0 j ≤ 24) (hK_0_117 : ∀ j : Int, 0 ≤ j → j < 100 → 0 ≤ row_0 j ∧ row_0 j ≤ 75) (kz_0_31 : 0 ≤ pn_0 ∧ pn_0 ≤ 25) (kz_0_32 : 0 ≤ pm_0 ∧ pm_0 ≤ 80) (kz_0_49 : (-1) ≤ onlyPiece_0 ∧ onlyPiece_0 ≤ 79) (kz_0_125 : 0 ≤ rowMany_0 ∧ rowMany_0 ≤ 100) (ex2 : gx = 0 + (1 * x3 + 0)) (ex3 : (-2) ≤ gx ∧ gx ≤ 26) : STR (pn_0) (rowMany_0) (pt_0) (ph_0) (row_0) := by
  first | assumption
set_option maxHeartbeats 4000000 in
theorem vc_Mo_stOrder_12_3 (x1 : Int) (x2 : Int) (x3 : Int) (x4 : Int) (x5 : Int) (onlyPiece_0 : Int) (pt_0 : Int → Int) (ph_0 : Int → Int) (pn_0 : Int) (pm_0 : Int) (alive_0 : Int → Int) (drawnNode_0 : Int → Int) (drawnEdge_0 : Int → Int) (pieceOf_0 : Int → Int) (bestWay_0 : Int → Int) (row_0 : Int → Int) (rowMany_0 : Int) (gx : Int) (k1 : 0 ≤ x1 ∧ x1 ≤ 30) (k2 : 0 ≤ x2 ∧ x2 ≤ 25) (k3 : (-2) ≤ x3 ∧ x3 ≤ 26) (k4 : 0 ≤ x4 ∧ x4 ≤ 25) (k5 : 0 ≤ x5 ∧ x5 ≤ 100) (d0 : x4 + 0 ≤ x2 ∧ x2 ≤ x4 + 4294967296) (f0 : (-1) * x3 + 0 ≤ (-1)) (f1 : (-1) * x3 + ((-1) * x5 + 0) ≤ (-26)) (f2 : onlyPiece_0 = (-1)) (f3 : GOK (pn_0) (pm_0) (pt_0) (ph_0)) (f4 : STB (pn_0) (pm_0) (pt_0) (ph_0) (alive_0)) (f5 : onlyPiece_0 = (-1)) (f6 : DEM (pm_0) (pt_0) (ph_0) (drawnNode_0) (drawnEdge_0)) (f7 : UA (pm_0) (alive_0) (drawnEdge_0)) (f8 : SA1 (pn_0) (pm_0) (onlyPiece_0) (pt_0) (ph_0) (drawnEdge_0) (pieceOf_0) (drawnNode_0) (bestWay_0) (x1) (x2)) (f9 : STR (pn_0) (rowMany_0) (pt_0) (ph_0) (row_0)) (f10 : (x5 + 1) ≤ rowMany_0) (f12 : (-1) * x3 + 0 ≤ (-1)) (f13 : (-1) * x3 + ((-1) * x5 + 0) ≤ (-26)) (f14 : x4 ≤ x2) (hK_0_33 : ∀ j : Int, 0 ≤ j → j < 80 → 0 ≤ pt_0 j ∧ pt_0 j ≤ 24) (hK_0_34 : ∀ j : Int, 0 ≤ j → j < 80 → 0 ≤ ph_0 j ∧ ph_0 j ≤ 24) (hK_0_35 : ∀ j : Int, 0 ≤ j → j < 80 → 0 ≤ alive_0 j ∧ alive_0 j ≤ 1) (hK_0_42 : ∀ j : Int, 0 ≤ j → j < 26 → 0 ≤ drawnNode_0 j ∧ drawnNode_0 j ≤ 1) (hK_0_43 : ∀ j : Int, 0 ≤ j → j < 80 → 0 ≤ drawnEdge_0 j ∧ drawnEdge_0 j ≤ 1) (hK_0_44 : ∀ j : Int, 0 ≤ j → j < 80 → (-1) ≤ pieceOf_0 j ∧ pieceOf_0 j ≤ 79) (hK_0_52 : ∀ j : Int, 0 ≤ j → j < 30 → 0 ≤ bestWay_0 j ∧ bestWay_0 j ≤ 24) (hK_0_117 : ∀ j : Int, 0 ≤ j → j < 100 → 0 ≤ row_0 j ∧ row_0 j ≤ 75) (kz_0_31 : 0 ≤ pn_0 ∧ pn_0 ≤ 25) (kz_0_32 : 0 ≤ pm_0 ∧ pm_0 ≤ 80) (kz_0_49 : (-1) ≤ onlyPiece_0 ∧ onlyPiece_0 ≤ 79) (kz_0_125 : 0 ≤ rowMany_0 ∧ rowMany_0 ≤ 100) (ex2 : gx = 0 + (1 * x3 + 0)) (ex3 : (-2) ≤ gx ∧ gx ≤ 26) : onlyPiece_0 = (-1) := by
  first
    | omega
    | (have h := ‹STB _ _ _ _ _›.1.2.2; omega)
    | (have h := ‹STR _ _ _ _ _›.1; omega)
    | (have h := ‹STR _ _ _ _ _›.1
       have w := ‹STR _ _ _ _ _›.2.1 x1 (by omega) (by omega)
       omega)
    | (have h := bc_len ‹BC1 _ _ _ _ _ _ _›
       have h2 := ‹STR _ _ _ _ _›.1
       omega)
    | (have h := (sb_way ‹SB1 _ _ _ _ _ _ _ _ _ _ _ _› (by omega)).1
       have h2 := ‹STR _ _ _ _ _›.1
       omega)
    | (have h := ‹WYM _ _ _ _›.1
       have h2 := ‹STR _ _ _ _ _›.1
       omega)
set_option maxHeartbeats 4000000 in
theorem vc_Mo_stOrder_12_4 (x1 : Int) (x2 : Int) (x3 : Int) (x4 : Int) (x5 : Int) (onlyPiece_0 : Int) (pt_0 : Int → Int) (ph_0 : Int → Int) (pn_0 : Int) (pm_0 : Int) (alive_0 : Int → Int) (drawnNode_0 : Int → Int) (drawnEdge_0 : Int → Int) (pieceOf_0 : Int → Int) (bestWay_0 : Int → Int) (row_0 : Int → Int) (rowMany_0 : Int) (gx : Int) (k1 : 0 ≤ x1 ∧ x1 ≤ 30) (k2 : 0 ≤ x2 ∧ x2 ≤ 25) (k3 : (-2) ≤ x3 ∧ x3 ≤ 26) (k4 : 0 ≤ x4 ∧ x4 ≤ 25) (k5 : 0 ≤ x5 ∧ x5 ≤ 100) (d0 : x4 + 0 ≤ x2 ∧ x2 ≤ x4 + 4294967296) (f0 : (-1) * x3 + 0 ≤ (-1)) (f1 : (-1) * x3 + ((-1) * x5 + 0) ≤ (-26)) (f2 : onlyPiece_0 = (-1)) (f3 : GOK (pn_0) (pm_0) (pt_0) (ph_0)) (f4 : STB (pn_0) (pm_0) (pt_0) (ph_0) (alive_0)) (f5 : onlyPiece_0 = (-1)) (f6 : DEM (pm_0) (pt_0) (ph_0) (drawnNode_0) (drawnEdge_0)) (f7 : UA (pm_0) (alive_0) (drawnEdge_0)) (f8 : SA1 (pn_0) (pm_0) (onlyPiece_0) (pt_0) (ph_0) (drawnEdge_0) (pieceOf_0) (drawnNode_0) (bestWay_0) (x1) (x2)) (f9 : STR (pn_0) (rowMany_0) (pt_0) (ph_0) (row_0)) (f10 : (x5 + 1) ≤ rowMany_0) (f12 : (-1) * x3 + 0 ≤ (-1)) (f13 : (-1) * x3 + ((-1) * x5 + 0) ≤ (-26)) (f14 : x4 ≤ x2) (hK_0_33 : ∀ j : Int, 0 ≤ j → j < 80 → 0 ≤ pt_0 j ∧ pt_0 j ≤ 24) (hK_0_34 : ∀ j : Int, 0 ≤ j → j < 80 → 0 ≤ ph_0 j ∧ ph_0 j ≤ 24) (hK_0_35 : ∀ j : Int, 0 ≤ j → j < 80 → 0 ≤ alive_0 j ∧ alive_0 j ≤ 1) (hK_0_42 : ∀ j : Int, 0 ≤ j → j < 26 → 0 ≤ drawnNode_0 j ∧ drawnNode_0 j ≤ 1) (hK_0_43 : ∀ j : Int, 0 ≤ j → j < 80 → 0 ≤ drawnEdge_0 j ∧ drawnEdge_0 j ≤ 1) (hK_0_44 : ∀ j : Int, 0 ≤ j → j < 80 → (-1) ≤ pieceOf_0 j ∧ pieceOf_0 j ≤ 79) (hK_0_52 : ∀ j : Int, 0 ≤ j → j < 30 → 0 ≤ bestWay_0 j ∧ bestWay_0 j ≤ 24) (hK_0_117 : ∀ j : Int, 0 ≤ j → j < 100 → 0 ≤ row_0 j ∧ row_0 j ≤ 75) (kz_0_31 : 0 ≤ pn_0 ∧ pn_0 ≤ 25) (kz_0_32 : 0 ≤ pm_0 ∧ pm_0 ≤ 80) (kz_0_49 : (-1) ≤ onlyPiece_0 ∧ onlyPiece_0 ≤ 79) (kz_0_125 : 0 ≤ rowMany_0 ∧ rowMany_0 ≤ 100) (ex2 : gx = 0 + (1 * x3 + 0)) (ex3 : (-2) ≤ gx ∧ gx ≤ 26) : (-1) * rowMany_0 + ((-1) * gx + 0) ≤ (-27) := by
  first
    | omega
    | (have h := ‹STB _ _ _ _ _›.1.2.2; omega)
    | (have h := ‹STR _ _ _ _ _›.1; omega)
    | (have h := ‹STR _ _ _ _ _›.1
       have w := ‹STR _ _ _ _ _›.2.1 x1 (by omega) (by omega)
       omega)
    | (have h := bc_len ‹BC1 _ _ _ _ _ _ _›
       have h2 := ‹STR _ _ _ _ _›.1
       omega)
    | (have h := (sb_way ‹SB1 _ _ _ _ _ _ _ _ _ _ _ _› (by omega)).1
       have h2 := ‹STR _ _ _ _ _›.1
       omega)
    | (have h := ‹WYM _ _ _ _›.1
       have h2 := ‹STR _ _ _ _ _›.1
       omega)
set_option maxHeartbeats 4000000 in
theorem vc_Mo_stOrder_12_5 (x1 : Int) (x2 : Int) (x3 : Int) (x4 : Int) (x5 : Int) (onlyPiece_0 : Int) (pt_0 : Int → Int) (ph_0 : Int → Int) (pn_0 : Int) (pm_0 : Int) (alive_0 : Int → Int) (drawnNode_0 : Int → Int) (drawnEdge_0 : Int → Int) (pieceOf_0 : Int → Int) (bestWay_0 : Int → Int) (row_0 : Int → Int) (rowMany_0 : Int) (gx : Int) (k1 : 0 ≤ x1 ∧ x1 ≤ 30) (k2 : 0 ≤ x2 ∧ x2 ≤ 25) (k3 : (-2) ≤ x3 ∧ x3 ≤ 26) (k4 : 0 ≤ x4 ∧ x4 ≤ 25) (k5 : 0 ≤ x5 ∧ x5 ≤ 100) (d0 : x4 + 0 ≤ x2 ∧ x2 ≤ x4 + 4294967296) (f0 : (-1) * x3 + 0 ≤ (-1)) (f1 : (-1) * x3 + ((-1) * x5 + 0) ≤ (-26)) (f2 : onlyPiece_0 = (-1)) (f3 : GOK (pn_0) (pm_0) (pt_0) (ph_0)) (f4 : STB (pn_0) (pm_0) (pt_0) (ph_0) (alive_0)) (f5 : onlyPiece_0 = (-1)) (f6 : DEM (pm_0) (pt_0) (ph_0) (drawnNode_0) (drawnEdge_0)) (f7 : UA (pm_0) (alive_0) (drawnEdge_0)) (f8 : SA1 (pn_0) (pm_0) (onlyPiece_0) (pt_0) (ph_0) (drawnEdge_0) (pieceOf_0) (drawnNode_0) (bestWay_0) (x1) (x2)) (f9 : STR (pn_0) (rowMany_0) (pt_0) (ph_0) (row_0)) (f10 : (x5 + 1) ≤ rowMany_0) (f12 : (-1) * x3 + 0 ≤ (-1)) (f13 : (-1) * x3 + ((-1) * x5 + 0) ≤ (-26)) (f14 : x4 ≤ x2) (hK_0_33 : ∀ j : Int, 0 ≤ j → j < 80 → 0 ≤ pt_0 j ∧ pt_0 j ≤ 24) (hK_0_34 : ∀ j : Int, 0 ≤ j → j < 80 → 0 ≤ ph_0 j ∧ ph_0 j ≤ 24) (hK_0_35 : ∀ j : Int, 0 ≤ j → j < 80 → 0 ≤ alive_0 j ∧ alive_0 j ≤ 1) (hK_0_42 : ∀ j : Int, 0 ≤ j → j < 26 → 0 ≤ drawnNode_0 j ∧ drawnNode_0 j ≤ 1) (hK_0_43 : ∀ j : Int, 0 ≤ j → j < 80 → 0 ≤ drawnEdge_0 j ∧ drawnEdge_0 j ≤ 1) (hK_0_44 : ∀ j : Int, 0 ≤ j → j < 80 → (-1) ≤ pieceOf_0 j ∧ pieceOf_0 j ≤ 79) (hK_0_52 : ∀ j : Int, 0 ≤ j → j < 30 → 0 ≤ bestWay_0 j ∧ bestWay_0 j ≤ 24) (hK_0_117 : ∀ j : Int, 0 ≤ j → j < 100 → 0 ≤ row_0 j ∧ row_0 j ≤ 75) (kz_0_31 : 0 ≤ pn_0 ∧ pn_0 ≤ 25) (kz_0_32 : 0 ≤ pm_0 ∧ pm_0 ≤ 80) (kz_0_49 : (-1) ≤ onlyPiece_0 ∧ onlyPiece_0 ≤ 79) (kz_0_125 : 0 ≤ rowMany_0 ∧ rowMany_0 ≤ 100) (ex2 : gx = 0 + (1 * x3 + 0)) (ex3 : (-2) ≤ gx ∧ gx ≤ 26) : (-1) * gx + 0 ≤ (-1) := by
  first
    | omega
    | (have h := ‹STB _ _ _ _ _›.1.2.2; omega)
    | (have h := ‹STR _ _ _ _ _›.1; omega)
    | (have h := ‹STR _ _ _ _ _›.1
       have w := ‹STR _ _ _ _ _›.2.1 x1 (by omega) (by omega)
       omega)
    | (have h := bc_len ‹BC1 _ _ _ _ _ _ _›
       have h2 := ‹STR _ _ _ _ _›.1
       omega)
    | (have h := (sb_way ‹SB1 _ _ _ _ _ _ _ _ _ _ _ _› (by omega)).1
       have h2 := ‹STR _ _ _ _ _›.1
       omega)
    | (have h := ‹WYM _ _ _ _›.1
       have h2 := ‹STR _ _ _ _ _›.1
       omega)
def o_Mo_stOrder_12 : or_T := (371, 6, [(0, (2, 0, 0, [165])), (1, (0, 0, 30, [])), (2, (0, 0, 25, [])), (3, (0, -2, 26, [])), (4, (0, 0, 25, [])), (5, (0, 0, 100, []))], [(23, [3], [-1, -1]), (23, [3, 5], [-26, -1, -1]), (20, [0], [50, 1, 0, 49, 1, 3, 2, 0, 49, 0, -1]), (20, [0], [60, 2, 2, 75, 31, 32, 33, 34]), (20, [0], [60, 2, 3, 297, 31, 32, 33, 34, 35]), (20, [0], [50, 1, 0, 49, 1, 3, 2, 0, 49, 0, -1]), (20, [0], [60, 1, 4, 303, 32, 33, 34, 42, 43]), (20, [0], [60, 1, 2, 122, 32, 35, 43]), (20, [0, 1, 2], [60, 3, 6, 305, 31, 32, 49, 33, 34, 43, 44, 42, 52]), (20, [0], [60, 2, 3, 298, 31, 125, 33, 34, 117]), (20, [5, 0], [50, 1, 0, 1125, 0, 6, 4, 2, 1, 0, 0, 1, 2, 1, 125]), (102, [5], [904625697166532776746648320380374280103671755200316906558262375061821325312, 165125]), (23, [3], [-1, -1]), (23, [3, 5], [-26, -1, -1]), (7, [2, 4], [3])], [], [(0, -2, 26, [])], [(20, [0], [60, 2, 2, 75, 31, 32, 33, 34]), (20, [0], [60, 2, 3, 297, 31, 32, 33, 34, 35]), (20, [0], [60, 2, 3, 298, 31, 125, 33, 34, 117]), (20, [0], [50, 1, 0, 49, 1, 3, 2, 0, 49, 0, -1]), (20, [0, 6], [30, -27, -1, 1, 125, -1, 0, 0]), (23, [6], [-1, -1])], [(6, 3, 0, 0)], [(2, 4, 0, 4294967296)])
theorem oo_Mo_stOrder_12 {kA : Nat → ClassId} : or_ok PRD kA GG o_Mo_stOrder_12 := by
  refine or_mk fun A ta ws vs hD hth hl => ?_
  intro t0 r0 t1 k1 t2 k2 t3 k3 t4 k4 t5 k5 d0 f0 f1 f2 f3 f4 f5 f6 f7 f8 f9 f10 ta1 w1 le1 s1 f12 f13 f14
  replace f0 := shm_626 f0
  replace f1 := shm_1759 f1
  replace f2 := shm_1675 f2
  replace f3 := shm_575 f3
  replace f4 := shm_1749 f4
  replace f5 := shm_1675 f5
  replace f6 := shm_1757 f6
  replace f7 := shm_1455 f7
  replace f8 := shm_1758 f8
  replace f9 := shm_1001 f9
  replace f10 := shm_1002 f10
  replace f12 := shm_626 f12
  replace f13 := shm_1759 f13
  replace f14 := shm_2 f14
  have cr_0_33 := fdq_117 hD hth r0
  have cr_0_34 := fdq_118 hD hth r0
  have cr_0_35 := fdq_132 hD hth r0
  have cr_0_42 := fdq_136 hD hth r0
  have cr_0_43 := fdq_137 hD hth r0
  have cr_0_44 := fdq_138 hD hth r0
  have cr_0_52 := fdq_236 hD hth r0
  have cr_0_117 := fdq_181 hD hth r0
  have hK_0_33 := elq_60 hD hth cr_0_33
  have hK_0_34 := elq_61 hD hth cr_0_34
  have hK_0_35 := elq_72 hD hth cr_0_35
  have hK_0_42 := elq_75 hD hth cr_0_42
  have hK_0_43 := elq_76 hD hth cr_0_43
  have hK_0_44 := elq_77 hD hth cr_0_44
  have hK_0_52 := elq_147 hD hth cr_0_52
  have hK_0_117 := elq_108 hD hth cr_0_117
  have kz_0_31 := fdq_145 hD hth r0
  have kz_0_32 := fdq_140 hD hth r0
  have kz_0_49 := fdq_146 hD hth r0
  have kz_0_125 := fdq_182 hD hth r0
  obtain ⟨x, ex, hx⟩ := iv_ex (ta := ta) (lo := (-2)) (hi := 26) (z := 0 + (1 * v_iv (n_v vs 3) + 0)) (by omega) (by omega) (by omega) (by omega)
  have ex2 : v_iv (Value.int x) = 0 + (1 * v_iv (n_v vs 3) + 0) := ex
  have ex3 : (-2) ≤ v_iv (Value.int x) ∧ v_iv (Value.int x) ≤ 26 := tv_rng hx
  have e_0 : n_v (vs ++ [Value.int x]) 0 = n_v vs 0 := n_v_old (by rw [hl]; decide)
  have e_6 : n_v (vs ++ [Value.int x]) 6 = Value.int x := n_v_new hl
  have nf0 : fc_1 PRD (20, [0], [60, 2, 2, 75, 31, 32, 33, 34]) ws (vs ++ [Value.int x]) := by
    refine ⟨nf_inA hl rfl, sgq_575 ?_⟩
    · show GOK (w_fi ws (n_v (vs ++ [Value.int x]) 0) 31) (w_fi ws (n_v (vs ++ [Value.int x]) 0) 32) (w_ei ws (w_ar ws (n_v (vs ++ [Value.int x]) 0) 33)) (w_ei ws (w_ar ws (n_v (vs ++ [Value.int x]) 0) 34))
      rw [e_0]
      exact vc_Mo_stOrder_12_0 (v_iv (n_v vs 1)) (v_iv (n_v vs 2)) (v_iv (n_v vs 3)) (v_iv (n_v vs 4)) (v_iv (n_v vs 5)) (w_fi ws (n_v vs 0) 49) (w_ei ws (w_ar ws (n_v vs 0) 33)) (w_ei ws (w_ar ws (n_v vs 0) 34)) (w_fi ws (n_v vs 0) 31) (w_fi ws (n_v vs 0) 32) (w_ei ws (w_ar ws (n_v vs 0) 35)) (w_ei ws (w_ar ws (n_v vs 0) 42)) (w_ei ws (w_ar ws (n_v vs 0) 43)) (w_ei ws (w_ar ws (n_v vs 0) 44)) (w_ei ws (w_ar ws (n_v vs 0) 52)) (w_ei ws (w_ar ws (n_v vs 0) 117)) (w_fi ws (n_v vs 0) 125) (v_iv (Value.int x)) k1 k2 k3 k4 k5 d0 f0 f1 f2 f3 f4 f5 f6 f7 f8 f9 f10 f12 f13 f14 hK_0_33 hK_0_34 hK_0_35 hK_0_42 hK_0_43 hK_0_44 hK_0_52 hK_0_117 kz_0_31 kz_0_32 kz_0_49 kz_0_125 ex2 ex3
  have nf1 : fc_1 PRD (20, [0], [60, 2, 3, 297, 31, 32, 33, 34, 35]) ws (vs ++ [Value.int x]) := by
    refine ⟨nf_inA hl rfl, sgq_1749 ?_⟩
    · show STB (w_fi ws (n_v (vs ++ [Value.int x]) 0) 31) (w_fi ws (n_v (vs ++ [Value.int x]) 0) 32) (w_ei ws (w_ar ws (n_v (vs ++ [Value.int x]) 0) 33)) (w_ei ws (w_ar ws (n_v (vs ++ [Value.int x]) 0) 34)) (w_ei ws (w_ar ws (n_v (vs ++ [Value.int x]) 0) 35))
      rw [e_0]
      exact vc_Mo_stOrder_12_1 (v_iv (n_v vs 1)) (v_iv (n_v vs 2)) (v_iv (n_v vs 3)) (v_iv (n_v vs 4)) (v_iv (n_v vs 5)) (w_fi ws (n_v vs 0) 49) (w_ei ws (w_ar ws (n_v vs 0) 33)) (w_ei ws (w_ar ws (n_v vs 0) 34)) (w_fi ws (n_v vs 0) 31) (w_fi ws (n_v vs 0) 32) (w_ei ws (w_ar ws (n_v vs 0) 35)) (w_ei ws (w_ar ws (n_v vs 0) 42)) (w_ei ws (w_ar ws (n_v vs 0) 43)) (w_ei ws (w_ar ws (n_v vs 0) 44)) (w_ei ws (w_ar ws (n_v vs 0) 52)) (w_ei ws (w_ar ws (n_v vs 0) 117)) (w_fi ws (n_v vs 0) 125) (v_iv (Value.int x)) k1 k2 k3 k4 k5 d0 f0 f1 f2 f3 f4 f5 f6 f7 f8 f9 f10 f12 f13 f14 hK_0_33 hK_0_34 hK_0_35 hK_0_42 hK_0_43 hK_0_44 hK_0_52 hK_0_117 kz_0_31 kz_0_32 kz_0_49 kz_0_125 ex2 ex3
  have nf2 : fc_1 PRD (20, [0], [60, 2, 3, 298, 31, 125, 33, 34, 117]) ws (vs ++ [Value.int x]) := by
    refine ⟨nf_inA hl rfl, sgq_1001 ?_⟩
    · show STR (w_fi ws (n_v (vs ++ [Value.int x]) 0) 31) (w_fi ws (n_v (vs ++ [Value.int x]) 0) 125) (w_ei ws (w_ar ws (n_v (vs ++ [Value.int x]) 0) 33)) (w_ei ws (w_ar ws (n_v (vs ++ [Value.int x]) 0) 34)) (w_ei ws (w_ar ws (n_v (vs ++ [Value.int x]) 0) 117))
      rw [e_0]
      exact vc_Mo_stOrder_12_2 (v_iv (n_v vs 1)) (v_iv (n_v vs 2)) (v_iv (n_v vs 3)) (v_iv (n_v vs 4)) (v_iv (n_v vs 5)) (w_fi ws (n_v vs 0) 49) (w_ei ws (w_ar ws (n_v vs 0) 33)) (w_ei ws (w_ar ws (n_v vs 0) 34)) (w_fi ws (n_v vs 0) 31) (w_fi ws (n_v vs 0) 32) (w_ei ws (w_ar ws (n_v vs 0) 35)) (w_ei ws (w_ar ws (n_v vs 0) 42)) (w_ei ws (w_ar ws (n_v vs 0) 43)) (w_ei ws (w_ar ws (n_v vs 0) 44)) (w_ei ws (w_ar ws (n_v vs 0) 52)) (w_ei ws (w_ar ws (n_v vs 0) 117)) (w_fi ws (n_v vs 0) 125) (v_iv (Value.int x)) k1 k2 k3 k4 k5 d0 f0 f1 f2 f3 f4 f5 f6 f7 f8 f9 f10 f12 f13 f14 hK_0_33 hK_0_34 hK_0_35 hK_0_42 hK_0_43 hK_0_44 hK_0_52 hK_0_117 kz_0_31 kz_0_32 kz_0_49 kz_0_125 ex2 ex3
  have nf3 : fc_1 PRD (20, [0], [50, 1, 0, 49, 1, 3, 2, 0, 49, 0, -1]) ws (vs ++ [Value.int x]) := by
    refine ⟨nf_inA hl rfl, sgq_1675 ?_⟩
    · show w_fi ws (n_v (vs ++ [Value.int x]) 0) 49 = (-1)
      rw [e_0]
      exact vc_Mo_stOrder_12_3 (v_iv (n_v vs 1)) (v_iv (n_v vs 2)) (v_iv (n_v vs 3)) (v_iv (n_v vs 4)) (v_iv (n_v vs 5)) (w_fi ws (n_v vs 0) 49) (w_ei ws (w_ar ws (n_v vs 0) 33)) (w_ei ws (w_ar ws (n_v vs 0) 34)) (w_fi ws (n_v vs 0) 31) (w_fi ws (n_v vs 0) 32) (w_ei ws (w_ar ws (n_v vs 0) 35)) (w_ei ws (w_ar ws (n_v vs 0) 42)) (w_ei ws (w_ar ws (n_v vs 0) 43)) (w_ei ws (w_ar ws (n_v vs 0) 44)) (w_ei ws (w_ar ws (n_v vs 0) 52)) (w_ei ws (w_ar ws (n_v vs 0) 117)) (w_fi ws (n_v vs 0) 125) (v_iv (Value.int x)) k1 k2 k3 k4 k5 d0 f0 f1 f2 f3 f4 f5 f6 f7 f8 f9 f10 f12 f13 f14 hK_0_33 hK_0_34 hK_0_35 hK_0_42 hK_0_43 hK_0_44 hK_0_52 hK_0_117 kz_0_31 kz_0_32 kz_0_49 kz_0_125 ex2 ex3
  have nf4 : fc_1 PRD (20, [0, 6], [30, -27, -1, 1, 125, -1, 0, 0]) ws (vs ++ [Value.int x]) := by
    refine ⟨nf_inA hl rfl, sgq_1760 ?_⟩
    · show (-1) * w_fi ws (n_v (vs ++ [Value.int x]) 0) 125 + ((-1) * v_iv (n_v (vs ++ [Value.int x]) 6) + 0) ≤ (-27)
      simp only [e_0, e_6]
      exact vc_Mo_stOrder_12_4 (v_iv (n_v vs 1)) (v_iv (n_v vs 2)) (v_iv (n_v vs 3)) (v_iv (n_v vs 4)) (v_iv (n_v vs 5)) (w_fi ws (n_v vs 0) 49) (w_ei ws (w_ar ws (n_v vs 0) 33)) (w_ei ws (w_ar ws (n_v vs 0) 34)) (w_fi ws (n_v vs 0) 31) (w_fi ws (n_v vs 0) 32) (w_ei ws (w_ar ws (n_v vs 0) 35)) (w_ei ws (w_ar ws (n_v vs 0) 42)) (w_ei ws (w_ar ws (n_v vs 0) 43)) (w_ei ws (w_ar ws (n_v vs 0) 44)) (w_ei ws (w_ar ws (n_v vs 0) 52)) (w_ei ws (w_ar ws (n_v vs 0) 117)) (w_fi ws (n_v vs 0) 125) (v_iv (Value.int x)) k1 k2 k3 k4 k5 d0 f0 f1 f2 f3 f4 f5 f6 f7 f8 f9 f10 f12 f13 f14 hK_0_33 hK_0_34 hK_0_35 hK_0_42 hK_0_43 hK_0_44 hK_0_52 hK_0_117 kz_0_31 kz_0_32 kz_0_49 kz_0_125 ex2 ex3
  have nf5 : fc_1 PRD (23, [6], [-1, -1]) ws (vs ++ [Value.int x]) := by
    refine ⟨nf_inA hl rfl, sgq_626 ?_⟩
    · show (-1) * v_iv (n_v (vs ++ [Value.int x]) 6) + 0 ≤ (-1)
      rw [e_6]
      exact vc_Mo_stOrder_12_5 (v_iv (n_v vs 1)) (v_iv (n_v vs 2)) (v_iv (n_v vs 3)) (v_iv (n_v vs 4)) (v_iv (n_v vs 5)) (w_fi ws (n_v vs 0) 49) (w_ei ws (w_ar ws (n_v vs 0) 33)) (w_ei ws (w_ar ws (n_v vs 0) 34)) (w_fi ws (n_v vs 0) 31) (w_fi ws (n_v vs 0) 32) (w_ei ws (w_ar ws (n_v vs 0) 35)) (w_ei ws (w_ar ws (n_v vs 0) 42)) (w_ei ws (w_ar ws (n_v vs 0) 43)) (w_ei ws (w_ar ws (n_v vs 0) 44)) (w_ei ws (w_ar ws (n_v vs 0) 52)) (w_ei ws (w_ar ws (n_v vs 0) 117)) (w_fi ws (n_v vs 0) 125) (v_iv (Value.int x)) k1 k2 k3 k4 k5 d0 f0 f1 f2 f3 f4 f5 f6 f7 f8 f9 f10 f12 f13 f14 hK_0_33 hK_0_34 hK_0_35 hK_0_42 hK_0_43 hK_0_44 hK_0_52 hK_0_117 kz_0_31 kz_0_32 kz_0_49 kz_0_125 ex2 ex3
  obtain ⟨x0, e0, _, _⟩ := tv_int t3 rfl
  have e1 : v_iv (n_v vs 3) = x0.toInt := by rw [e0]; rfl
  have ho : sy_ofs (vs ++ [Value.int x]) (6, 3, 0, 0) := by
    refine ⟨x, x0, by rw [List.getElem?_append_right (by rw [hl]; decide), hl]; rfl, ?_, ?_, ?_⟩
    · rw [List.getElem?_append_left (by rw [hl]; decide)]; exact n_v_some (by rw [hl]; decide) e0
    · show x0.toInt + 0 ≤ x.toInt; omega
    · show x.toInt ≤ x0.toInt + 0; omega
  exact ⟨(fun _ h => (by cases h)), [Value.int x], ag_one hx, List.forall_mem_cons.mpr ⟨⟨show (20 : Nat) < 100 from by decide, nf0⟩, List.forall_mem_cons.mpr ⟨⟨show (20 : Nat) < 100 from by decide, nf1⟩, List.forall_mem_cons.mpr ⟨⟨show (20 : Nat) < 100 from by decide, nf2⟩, List.forall_mem_cons.mpr ⟨⟨show (20 : Nat) < 100 from by decide, nf3⟩, List.forall_mem_cons.mpr ⟨⟨show (20 : Nat) < 100 from by decide, nf4⟩, List.forall_mem_cons.mpr ⟨⟨show (23 : Nat) < 100 from by decide, nf5⟩, (fun _ h => (by cases h))⟩⟩⟩⟩⟩⟩, List.forall_mem_cons.mpr ⟨ho, (fun _ h => (by cases h))⟩⟩
set_option maxHeartbeats 4000000 in
theorem vc_Mo_stOrder_13_0 (x1 : Int) (x2 : Int) (x3 : Int) (x4 : Int) (pn_0 : Int) (pt_0 : Int → Int) (ph_0 : Int → Int) (pm_0 : Int) (alive_0 : Int → Int) (row_0 : Int → Int) (rowMany_0 : Int) (onlyPiece_0 : Int) (drawnNode_0 : Int → Int) (drawnEdge_0 : Int → Int) (pieceOf_0 : Int → Int) (bestWay_0 : Int → Int) (gx : Int) (k1 : 1 ≤ x1 ∧ x1 ≤ 30) (k2 : 0 ≤ x2 ∧ x2 ≤ 24) (k3 : (-2) ≤ x3 ∧ x3 ≤ 26) (k4 : 1 ≤ x4 ∧ x4 ≤ 25) (d0 : x4 + (-4294967296) ≤ x2 ∧ x2 ≤ x4 + (-1)) (f0 : x1 ≠ 0) (f1 : x2 < x4) (g2 : x4 = pn_0) (f3 : GOK (pn_0) (pm_0) (pt_0) (ph_0)) (f4 : STB (pn_0) (pm_0) (pt_0) (ph_0) (alive_0)) (f5 : STR (pn_0) (rowMany_0) (pt_0) (ph_0) (row_0)) (f6 : onlyPiece_0 = (-1)) (f7 : (-1) * rowMany_0 + ((-1) * x3 + 0) ≤ (-26)) (f8 : DRR (pn_0) (rowMany_0) (drawnNode_0) (row_0)) (f9 : DEM (pm_0) (pt_0) (ph_0) (drawnNode_0) (drawnEdge_0)) (f10 : UA (pm_0) (alive_0) (drawnEdge_0)) (f11 : (rowMany_0 + 1) ≤ pn_0) (f12 : SA1 (pn_0) (pm_0) (onlyPiece_0) (pt_0) (ph_0) (drawnEdge_0) (pieceOf_0) (drawnNode_0) (bestWay_0) (x1) (x2)) (hK_0_33 : ∀ j : Int, 0 ≤ j → j < 80 → 0 ≤ pt_0 j ∧ pt_0 j ≤ 24) (hK_0_34 : ∀ j : Int, 0 ≤ j → j < 80 → 0 ≤ ph_0 j ∧ ph_0 j ≤ 24) (hK_0_35 : ∀ j : Int, 0 ≤ j → j < 80 → 0 ≤ alive_0 j ∧ alive_0 j ≤ 1) (hK_0_42 : ∀ j : Int, 0 ≤ j → j < 26 → 0 ≤ drawnNode_0 j ∧ drawnNode_0 j ≤ 1) (hK_0_43 : ∀ j : Int, 0 ≤ j → j < 80 → 0 ≤ drawnEdge_0 j ∧ drawnEdge_0 j ≤ 1) (hK_0_44 : ∀ j : Int, 0 ≤ j → j < 80 → (-1) ≤ pieceOf_0 j ∧ pieceOf_0 j ≤ 79) (hK_0_52 : ∀ j : Int, 0 ≤ j → j < 30 → 0 ≤ bestWay_0 j ∧ bestWay_0 j ≤ 24) (hK_0_117 : ∀ j : Int, 0 ≤ j → j < 100 → 0 ≤ row_0 j ∧ row_0 j ≤ 75) (kz_0_31 : 0 ≤ pn_0 ∧ pn_0 ≤ 25) (kz_0_32 : 0 ≤ pm_0 ∧ pm_0 ≤ 80) (kz_0_49 : (-1) ≤ onlyPiece_0 ∧ onlyPiece_0 ≤ 79) (kz_0_125 : 0 ≤ rowMany_0 ∧ rowMany_0 ≤ 100) (ex2 : gx = rowMany_0) (ex3 : 0 ≤ gx ∧ gx ≤ 100) : INP (pn_0) (rowMany_0) (pt_0) (ph_0) (drawnNode_0) (row_0) (bestWay_0) (x1) := by
  first
    | exact inp_of ‹STB _ _ _ _ _› ‹STR _ _ _ _ _› ‹DRR _ _ _ _› ‹DEM _ _ _ _ _› (by omega) ‹SA1 _ _ _ _ _ _ _ _ _ _ _› (Or.inl (by omega))
    | exact inp_of ‹STB _ _ _ _ _› ‹STR _ _ _ _ _› ‹DRR _ _ _ _› ‹DEM _ _ _ _ _› (by omega) ‹SA1 _ _ _ _ _ _ _ _ _ _ _› (Or.inr (by omega))
set_option maxHeartbeats 4000000 in
theorem vc_Mo_stOrder_13_1 (x1 : Int) (x2 : Int) (x3 : Int) (x4 : Int) (pn_0 : Int) (pt_0 : Int → Int) (ph_0 : Int → Int) (pm_0 : Int) (alive_0 : Int → Int) (row_0 : Int → Int) (rowMany_0 : Int) (onlyPiece_0 : Int) (drawnNode_0 : Int → Int) (drawnEdge_0 : Int → Int) (pieceOf_0 : Int → Int) (bestWay_0 : Int → Int) (gx : Int) (k1 : 1 ≤ x1 ∧ x1 ≤ 30) (k2 : 0 ≤ x2 ∧ x2 ≤ 24) (k3 : (-2) ≤ x3 ∧ x3 ≤ 26) (k4 : 1 ≤ x4 ∧ x4 ≤ 25) (d0 : x4 + (-4294967296) ≤ x2 ∧ x2 ≤ x4 + (-1)) (f0 : x1 ≠ 0) (f1 : x2 < x4) (g2 : x4 = pn_0) (f3 : GOK (pn_0) (pm_0) (pt_0) (ph_0)) (f4 : STB (pn_0) (pm_0) (pt_0) (ph_0) (alive_0)) (f5 : STR (pn_0) (rowMany_0) (pt_0) (ph_0) (row_0)) (f6 : onlyPiece_0 = (-1)) (f7 : (-1) * rowMany_0 + ((-1) * x3 + 0) ≤ (-26)) (f8 : DRR (pn_0) (rowMany_0) (drawnNode_0) (row_0)) (f9 : DEM (pm_0) (pt_0) (ph_0) (drawnNode_0) (drawnEdge_0)) (f10 : UA (pm_0) (alive_0) (drawnEdge_0)) (f11 : (rowMany_0 + 1) ≤ pn_0) (f12 : SA1 (pn_0) (pm_0) (onlyPiece_0) (pt_0) (ph_0) (drawnEdge_0) (pieceOf_0) (drawnNode_0) (bestWay_0) (x1) (x2)) (hK_0_33 : ∀ j : Int, 0 ≤ j → j < 80 → 0 ≤ pt_0 j ∧ pt_0 j ≤ 24) (hK_0_34 : ∀ j : Int, 0 ≤ j → j < 80 → 0 ≤ ph_0 j ∧ ph_0 j ≤ 24) (hK_0_35 : ∀ j : Int, 0 ≤ j → j < 80 → 0 ≤ alive_0 j ∧ alive_0 j ≤ 1) (hK_0_42 : ∀ j : Int, 0 ≤ j → j < 26 → 0 ≤ drawnNode_0 j ∧ drawnNode_0 j ≤ 1) (hK_0_43 : ∀ j : Int, 0 ≤ j → j < 80 → 0 ≤ drawnEdge_0 j ∧ drawnEdge_0 j ≤ 1) (hK_0_44 : ∀ j : Int, 0 ≤ j → j < 80 → (-1) ≤ pieceOf_0 j ∧ pieceOf_0 j ≤ 79) (hK_0_52 : ∀ j : Int, 0 ≤ j → j < 30 → 0 ≤ bestWay_0 j ∧ bestWay_0 j ≤ 24) (hK_0_117 : ∀ j : Int, 0 ≤ j → j < 100 → 0 ≤ row_0 j ∧ row_0 j ≤ 75) (kz_0_31 : 0 ≤ pn_0 ∧ pn_0 ≤ 25) (kz_0_32 : 0 ≤ pm_0 ∧ pm_0 ≤ 80) (kz_0_49 : (-1) ≤ onlyPiece_0 ∧ onlyPiece_0 ≤ 79) (kz_0_125 : 0 ≤ rowMany_0 ∧ rowMany_0 ≤ 100) (ex2 : gx = rowMany_0) (ex3 : 0 ≤ gx ∧ gx ≤ 100) : rowMany_0 = gx := by
  first
    | omega
    | (have h := ‹STB _ _ _ _ _›.1.2.2; omega)
    | (have h := ‹STR _ _ _ _ _›.1; omega)
    | (have h := ‹STR _ _ _ _ _›.1
       have w := ‹STR _ _ _ _ _›.2.1 x1 (by omega) (by omega)
       omega)
    | (have h := bc_len ‹BC1 _ _ _ _ _ _ _›
       have h2 := ‹STR _ _ _ _ _›.1
       omega)
    | (have h := (sb_way ‹SB1 _ _ _ _ _ _ _ _ _ _ _ _› (by omega)).1
       have h2 := ‹STR _ _ _ _ _›.1
       omega)
    | (have h := ‹WYM _ _ _ _›.1
       have h2 := ‹STR _ _ _ _ _›.1
       omega)
set_option maxHeartbeats 4000000 in
theorem vc_Mo_stOrder_13_2 (x1 : Int) (x2 : Int) (x3 : Int) (x4 : Int) (pn_0 : Int) (pt_0 : Int → Int) (ph_0 : Int → Int) (pm_0 : Int) (alive_0 : Int → Int) (row_0 : Int → Int) (rowMany_0 : Int) (onlyPiece_0 : Int) (drawnNode_0 : Int → Int) (drawnEdge_0 : Int → Int) (pieceOf_0 : Int → Int) (bestWay_0 : Int → Int) (gx : Int) (k1 : 1 ≤ x1 ∧ x1 ≤ 30) (k2 : 0 ≤ x2 ∧ x2 ≤ 24) (k3 : (-2) ≤ x3 ∧ x3 ≤ 26) (k4 : 1 ≤ x4 ∧ x4 ≤ 25) (d0 : x4 + (-4294967296) ≤ x2 ∧ x2 ≤ x4 + (-1)) (f0 : x1 ≠ 0) (f1 : x2 < x4) (g2 : x4 = pn_0) (f3 : GOK (pn_0) (pm_0) (pt_0) (ph_0)) (f4 : STB (pn_0) (pm_0) (pt_0) (ph_0) (alive_0)) (f5 : STR (pn_0) (rowMany_0) (pt_0) (ph_0) (row_0)) (f6 : onlyPiece_0 = (-1)) (f7 : (-1) * rowMany_0 + ((-1) * x3 + 0) ≤ (-26)) (f8 : DRR (pn_0) (rowMany_0) (drawnNode_0) (row_0)) (f9 : DEM (pm_0) (pt_0) (ph_0) (drawnNode_0) (drawnEdge_0)) (f10 : UA (pm_0) (alive_0) (drawnEdge_0)) (f11 : (rowMany_0 + 1) ≤ pn_0) (f12 : SA1 (pn_0) (pm_0) (onlyPiece_0) (pt_0) (ph_0) (drawnEdge_0) (pieceOf_0) (drawnNode_0) (bestWay_0) (x1) (x2)) (hK_0_33 : ∀ j : Int, 0 ≤ j → j < 80 → 0 ≤ pt_0 j ∧ pt_0 j ≤ 24) (hK_0_34 : ∀ j : Int, 0 ≤ j → j < 80 → 0 ≤ ph_0 j ∧ ph_0 j ≤ 24) (hK_0_35 : ∀ j : Int, 0 ≤ j → j < 80 → 0 ≤ alive_0 j ∧ alive_0 j ≤ 1) (hK_0_42 : ∀ j : Int, 0 ≤ j → j < 26 → 0 ≤ drawnNode_0 j ∧ drawnNode_0 j ≤ 1) (hK_0_43 : ∀ j : Int, 0 ≤ j → j < 80 → 0 ≤ drawnEdge_0 j ∧ drawnEdge_0 j ≤ 1) (hK_0_44 : ∀ j : Int, 0 ≤ j → j < 80 → (-1) ≤ pieceOf_0 j ∧ pieceOf_0 j ≤ 79) (hK_0_52 : ∀ j : Int, 0 ≤ j → j < 30 → 0 ≤ bestWay_0 j ∧ bestWay_0 j ≤ 24) (hK_0_117 : ∀ j : Int, 0 ≤ j → j < 100 → 0 ≤ row_0 j ∧ row_0 j ≤ 75) (kz_0_31 : 0 ≤ pn_0 ∧ pn_0 ≤ 25) (kz_0_32 : 0 ≤ pm_0 ∧ pm_0 ≤ 80) (kz_0_49 : (-1) ≤ onlyPiece_0 ∧ onlyPiece_0 ≤ 79) (kz_0_125 : 0 ≤ rowMany_0 ∧ rowMany_0 ≤ 100) (ex2 : gx = rowMany_0) (ex3 : 0 ≤ gx ∧ gx ≤ 100) : (-1) * x3 + 0 ≤ (-1) := by
  first
    | omega
    | (have h := ‹STB _ _ _ _ _›.1.2.2; omega)
    | (have h := ‹STR _ _ _ _ _›.1; omega)
    | (have h := ‹STR _ _ _ _ _›.1
       have w := ‹STR _ _ _ _ _›.2.1 x1 (by omega) (by omega)
       omega)
    | (have h := bc_len ‹BC1 _ _ _ _ _ _ _›
       have h2 := ‹STR _ _ _ _ _›.1
       omega)
    | (have h := (sb_way ‹SB1 _ _ _ _ _ _ _ _ _ _ _ _› (by omega)).1
       have h2 := ‹STR _ _ _ _ _›.1
       omega)
    | (have h := ‹WYM _ _ _ _›.1
       have h2 := ‹STR _ _ _ _ _›.1
       omega)
set_option maxHeartbeats 4000000 in
theorem vc_Mo_stOrder_13_3 (x1 : Int) (x2 : Int) (x3 : Int) (x4 : Int) (pn_0 : Int) (pt_0 : Int → Int) (ph_0 : Int → Int) (pm_0 : Int) (alive_0 : Int → Int) (row_0 : Int → Int) (rowMany_0 : Int) (onlyPiece_0 : Int) (drawnNode_0 : Int → Int) (drawnEdge_0 : Int → Int) (pieceOf_0 : Int → Int) (bestWay_0 : Int → Int) (gx : Int) (k1 : 1 ≤ x1 ∧ x1 ≤ 30) (k2 : 0 ≤ x2 ∧ x2 ≤ 24) (k3 : (-2) ≤ x3 ∧ x3 ≤ 26) (k4 : 1 ≤ x4 ∧ x4 ≤ 25) (d0 : x4 + (-4294967296) ≤ x2 ∧ x2 ≤ x4 + (-1)) (f0 : x1 ≠ 0) (f1 : x2 < x4) (g2 : x4 = pn_0) (f3 : GOK (pn_0) (pm_0) (pt_0) (ph_0)) (f4 : STB (pn_0) (pm_0) (pt_0) (ph_0) (alive_0)) (f5 : STR (pn_0) (rowMany_0) (pt_0) (ph_0) (row_0)) (f6 : onlyPiece_0 = (-1)) (f7 : (-1) * rowMany_0 + ((-1) * x3 + 0) ≤ (-26)) (f8 : DRR (pn_0) (rowMany_0) (drawnNode_0) (row_0)) (f9 : DEM (pm_0) (pt_0) (ph_0) (drawnNode_0) (drawnEdge_0)) (f10 : UA (pm_0) (alive_0) (drawnEdge_0)) (f11 : (rowMany_0 + 1) ≤ pn_0) (f12 : SA1 (pn_0) (pm_0) (onlyPiece_0) (pt_0) (ph_0) (drawnEdge_0) (pieceOf_0) (drawnNode_0) (bestWay_0) (x1) (x2)) (hK_0_33 : ∀ j : Int, 0 ≤ j → j < 80 → 0 ≤ pt_0 j ∧ pt_0 j ≤ 24) (hK_0_34 : ∀ j : Int, 0 ≤ j → j < 80 → 0 ≤ ph_0 j ∧ ph_0 j ≤ 24) (hK_0_35 : ∀ j : Int, 0 ≤ j → j < 80 → 0 ≤ alive_0 j ∧ alive_0 j ≤ 1) (hK_0_42 : ∀ j : Int, 0 ≤ j → j < 26 → 0 ≤ drawnNode_0 j ∧ drawnNode_0 j ≤ 1) (hK_0_43 : ∀ j : Int, 0 ≤ j → j < 80 → 0 ≤ drawnEdge_0 j ∧ drawnEdge_0 j ≤ 1) (hK_0_44 : ∀ j : Int, 0 ≤ j → j < 80 → (-1) ≤ pieceOf_0 j ∧ pieceOf_0 j ≤ 79) (hK_0_52 : ∀ j : Int, 0 ≤ j → j < 30 → 0 ≤ bestWay_0 j ∧ bestWay_0 j ≤ 24) (hK_0_117 : ∀ j : Int, 0 ≤ j → j < 100 → 0 ≤ row_0 j ∧ row_0 j ≤ 75) (kz_0_31 : 0 ≤ pn_0 ∧ pn_0 ≤ 25) (kz_0_32 : 0 ≤ pm_0 ∧ pm_0 ≤ 80) (kz_0_49 : (-1) ≤ onlyPiece_0 ∧ onlyPiece_0 ≤ 79) (kz_0_125 : 0 ≤ rowMany_0 ∧ rowMany_0 ≤ 100) (ex2 : gx = rowMany_0) (ex3 : 0 ≤ gx ∧ gx ≤ 100) : (-1) * x3 + ((-1) * gx + 0) ≤ (-26) := by
  first
    | omega
    | (have h := ‹STB _ _ _ _ _›.1.2.2; omega)
    | (have h := ‹STR _ _ _ _ _›.1; omega)
    | (have h := ‹STR _ _ _ _ _›.1
       have w := ‹STR _ _ _ _ _›.2.1 x1 (by omega) (by omega)
       omega)
    | (have h := bc_len ‹BC1 _ _ _ _ _ _ _›
       have h2 := ‹STR _ _ _ _ _›.1
       omega)
    | (have h := (sb_way ‹SB1 _ _ _ _ _ _ _ _ _ _ _ _› (by omega)).1
       have h2 := ‹STR _ _ _ _ _›.1
       omega)
    | (have h := ‹WYM _ _ _ _›.1
       have h2 := ‹STR _ _ _ _ _›.1
       omega)
set_option maxHeartbeats 4000000 in
theorem vc_Mo_stOrder_13_4 (x1 : Int) (x2 : Int) (x3 : Int) (x4 : Int) (pn_0 : Int) (pt_0 : Int → Int) (ph_0 : Int → Int) (pm_0 : Int) (alive_0 : Int → Int) (row_0 : Int → Int) (rowMany_0 : Int) (onlyPiece_0 : Int) (drawnNode_0 : Int → Int) (drawnEdge_0 : Int → Int) (pieceOf_0 : Int → Int) (bestWay_0 : Int → Int) (gx : Int) (k1 : 1 ≤ x1 ∧ x1 ≤ 30) (k2 : 0 ≤ x2 ∧ x2 ≤ 24) (k3 : (-2) ≤ x3 ∧ x3 ≤ 26) (k4 : 1 ≤ x4 ∧ x4 ≤ 25) (d0 : x4 + (-4294967296) ≤ x2 ∧ x2 ≤ x4 + (-1)) (f0 : x1 ≠ 0) (f1 : x2 < x4) (g2 : x4 = pn_0) (f3 : GOK (pn_0) (pm_0) (pt_0) (ph_0)) (f4 : STB (pn_0) (pm_0) (pt_0) (ph_0) (alive_0)) (f5 : STR (pn_0) (rowMany_0) (pt_0) (ph_0) (row_0)) (f6 : onlyPiece_0 = (-1)) (f7 : (-1) * rowMany_0 + ((-1) * x3 + 0) ≤ (-26)) (f8 : DRR (pn_0) (rowMany_0) (drawnNode_0) (row_0)) (f9 : DEM (pm_0) (pt_0) (ph_0) (drawnNode_0) (drawnEdge_0)) (f10 : UA (pm_0) (alive_0) (drawnEdge_0)) (f11 : (rowMany_0 + 1) ≤ pn_0) (f12 : SA1 (pn_0) (pm_0) (onlyPiece_0) (pt_0) (ph_0) (drawnEdge_0) (pieceOf_0) (drawnNode_0) (bestWay_0) (x1) (x2)) (hK_0_33 : ∀ j : Int, 0 ≤ j → j < 80 → 0 ≤ pt_0 j ∧ pt_0 j ≤ 24) (hK_0_34 : ∀ j : Int, 0 ≤ j → j < 80 → 0 ≤ ph_0 j ∧ ph_0 j ≤ 24) (hK_0_35 : ∀ j : Int, 0 ≤ j → j < 80 → 0 ≤ alive_0 j ∧ alive_0 j ≤ 1) (hK_0_42 : ∀ j : Int, 0 ≤ j → j < 26 → 0 ≤ drawnNode_0 j ∧ drawnNode_0 j ≤ 1) (hK_0_43 : ∀ j : Int, 0 ≤ j → j < 80 → 0 ≤ drawnEdge_0 j ∧ drawnEdge_0 j ≤ 1) (hK_0_44 : ∀ j : Int, 0 ≤ j → j < 80 → (-1) ≤ pieceOf_0 j ∧ pieceOf_0 j ≤ 79) (hK_0_52 : ∀ j : Int, 0 ≤ j → j < 30 → 0 ≤ bestWay_0 j ∧ bestWay_0 j ≤ 24) (hK_0_117 : ∀ j : Int, 0 ≤ j → j < 100 → 0 ≤ row_0 j ∧ row_0 j ≤ 75) (kz_0_31 : 0 ≤ pn_0 ∧ pn_0 ≤ 25) (kz_0_32 : 0 ≤ pm_0 ∧ pm_0 ≤ 80) (kz_0_49 : (-1) ≤ onlyPiece_0 ∧ onlyPiece_0 ≤ 79) (kz_0_125 : 0 ≤ rowMany_0 ∧ rowMany_0 ≤ 100) (ex2 : gx = rowMany_0) (ex3 : 0 ≤ gx ∧ gx ≤ 100) : onlyPiece_0 = (-1) := by
  first
    | omega
    | (have h := ‹STB _ _ _ _ _›.1.2.2; omega)
    | (have h := ‹STR _ _ _ _ _›.1; omega)
    | (have h := ‹STR _ _ _ _ _›.1
       have w := ‹STR _ _ _ _ _›.2.1 x1 (by omega) (by omega)
       omega)
    | (have h := bc_len ‹BC1 _ _ _ _ _ _ _›
       have h2 := ‹STR _ _ _ _ _›.1
       omega)
    | (have h := (sb_way ‹SB1 _ _ _ _ _ _ _ _ _ _ _ _› (by omega)).1
       have h2 := ‹STR _ _ _ _ _›.1
       omega)
    | (have h := ‹WYM _ _ _ _›.1
       have h2 := ‹STR _ _ _ _ _›.1
       omega)
def o_Mo_stOrder_13 : or_T := (368, 5, [(0, (2, 0, 0, [165])), (1, (0, 1, 30, [])), (2, (0, 0, 24, [])), (3, (0, -2, 26, [])), (4, (0, 1, 25, []))], [(8, [1], [1]), (7, [2, 4], [2]), (9, [4, 0], [31]), (20, [0], [60, 2, 2, 75, 31, 32, 33, 34]), (20, [0], [60, 2, 3, 297, 31, 32, 33, 34, 35]), (20, [0], [60, 2, 3, 298, 31, 125, 33, 34, 117]), (20, [0], [50, 1, 0, 49, 1, 3, 2, 0, 49, 0, -1]), (20, [0, 3], [30, -26, -1, 1, 125, -1, 0, 0]), (20, [0], [60, 2, 2, 301, 31, 125, 42, 117]), (20, [0], [60, 1, 4, 303, 32, 33, 34, 42, 43]), (20, [0], [60, 1, 2, 122, 32, 35, 43]), (20, [0], [50, 2, 0, 125, 31, 0, 7, 4, 3, 2, 0, 125, 0, 1, 2, 0, 31]), (20, [0, 1, 2], [60, 3, 6, 305, 31, 32, 49, 33, 34, 43, 44, 42, 52])], [], [(0, 0, 100, [])], [(20, [0, 1], [60, 2, 5, 311, 31, 125, 33, 34, 42, 117, 52]), (20, [0, 5], [50, 1, 0, 125, 1, 3, 2, 0, 125, 1, 1]), (23, [3], [-1, -1]), (23, [3, 5], [-26, -1, -1]), (20, [0], [50, 1, 0, 49, 1, 3, 2, 0, 49, 0, -1])], [], [(2, 4, -4294967296, -1)])
theorem oo_Mo_stOrder_13 {kA : Nat → ClassId} : or_ok PRD kA GG o_Mo_stOrder_13 := by
  refine or_mk fun A ta ws vs hD hth hl => ?_
  intro t0 r0 t1 k1 t2 k2 t3 k3 t4 k4 d0 f0 f1 f2 f3 f4 f5 f6 f7 f8 f9 f10 f11 f12
  replace f0 := shm_142 f0
  replace f1 := shm_6 f1
  replace f2 := shm_577 f2
  replace f3 := shm_575 f3
  replace f4 := shm_1749 f4
  replace f5 := shm_1001 f5
  replace f6 := shm_1675 f6
  replace f7 := shm_1750 f7
  replace f8 := shm_1755 f8
  replace f9 := shm_1757 f9
  replace f10 := shm_1455 f10
  replace f11 := shm_1752 f11
  replace f12 := shm_1758 f12
  have cr_0_33 := fdq_117 hD hth r0
  have cr_0_34 := fdq_118 hD hth r0
  have cr_0_35 := fdq_132 hD hth r0
  have cr_0_42 := fdq_136 hD hth r0
  have cr_0_43 := fdq_137 hD hth r0
  have cr_0_44 := fdq_138 hD hth r0
  have cr_0_52 := fdq_236 hD hth r0
  have cr_0_117 := fdq_181 hD hth r0
  have g2 : v_iv (n_v vs 4) = w_fi ws (n_v vs 0) 31 := congrArg v_iv f2
  have hK_0_33 := elq_60 hD hth cr_0_33
  have hK_0_34 := elq_61 hD hth cr_0_34
  have hK_0_35 := elq_72 hD hth cr_0_35
  have hK_0_42 := elq_75 hD hth cr_0_42
  have hK_0_43 := elq_76 hD hth cr_0_43
  have hK_0_44 := elq_77 hD hth cr_0_44
  have hK_0_52 := elq_147 hD hth cr_0_52
  have hK_0_117 := elq_108 hD hth cr_0_117
  have kz_0_31 := fdq_145 hD hth r0
  have kz_0_32 := fdq_140 hD hth r0
  have kz_0_49 := fdq_146 hD hth r0
  have kz_0_125 := fdq_182 hD hth r0
  obtain ⟨x, ex, hx⟩ := iv_ex (ta := ta) (lo := 0) (hi := 100) (z := w_fi ws (n_v vs 0) 125) (by omega) (by omega) (by omega) (by omega)
  have ex2 : v_iv (Value.int x) = w_fi ws (n_v vs 0) 125 := ex
  have ex3 : 0 ≤ v_iv (Value.int x) ∧ v_iv (Value.int x) ≤ 100 := tv_rng hx
  have e_0 : n_v (vs ++ [Value.int x]) 0 = n_v vs 0 := n_v_old (by rw [hl]; decide)
  have e_1 : n_v (vs ++ [Value.int x]) 1 = n_v vs 1 := n_v_old (by rw [hl]; decide)
  have e_3 : n_v (vs ++ [Value.int x]) 3 = n_v vs 3 := n_v_old (by rw [hl]; decide)
  have e_5 : n_v (vs ++ [Value.int x]) 5 = Value.int x := n_v_new hl
  have nf0 : fc_1 PRD (20, [0, 1], [60, 2, 5, 311, 31, 125, 33, 34, 42, 117, 52]) ws (vs ++ [Value.int x]) := by
    refine ⟨nf_inA hl rfl, sgq_994 ?_⟩
    · show INP (w_fi ws (n_v (vs ++ [Value.int x]) 0) 31) (w_fi ws (n_v (vs ++ [Value.int x]) 0) 125) (w_ei ws (w_ar ws (n_v (vs ++ [Value.int x]) 0) 33)) (w_ei ws (w_ar ws (n_v (vs ++ [Value.int x]) 0) 34)) (w_ei ws (w_ar ws (n_v (vs ++ [Value.int x]) 0) 42)) (w_ei ws (w_ar ws (n_v (vs ++ [Value.int x]) 0) 117)) (w_ei ws (w_ar ws (n_v (vs ++ [Value.int x]) 0) 52)) (v_iv (n_v (vs ++ [Value.int x]) 1))
      simp only [e_0, e_1]
      exact vc_Mo_stOrder_13_0 (v_iv (n_v vs 1)) (v_iv (n_v vs 2)) (v_iv (n_v vs 3)) (v_iv (n_v vs 4)) (w_fi ws (n_v vs 0) 31) (w_ei ws (w_ar ws (n_v vs 0) 33)) (w_ei ws (w_ar ws (n_v vs 0) 34)) (w_fi ws (n_v vs 0) 32) (w_ei ws (w_ar ws (n_v vs 0) 35)) (w_ei ws (w_ar ws (n_v vs 0) 117)) (w_fi ws (n_v vs 0) 125) (w_fi ws (n_v vs 0) 49) (w_ei ws (w_ar ws (n_v vs 0) 42)) (w_ei ws (w_ar ws (n_v vs 0) 43)) (w_ei ws (w_ar ws (n_v vs 0) 44)) (w_ei ws (w_ar ws (n_v vs 0) 52)) (v_iv (Value.int x)) k1 k2 k3 k4 d0 f0 f1 g2 f3 f4 f5 f6 f7 f8 f9 f10 f11 f12 hK_0_33 hK_0_34 hK_0_35 hK_0_42 hK_0_43 hK_0_44 hK_0_52 hK_0_117 kz_0_31 kz_0_32 kz_0_49 kz_0_125 ex2 ex3
  have nf1 : fc_1 PRD (20, [0, 5], [50, 1, 0, 125, 1, 3, 2, 0, 125, 1, 1]) ws (vs ++ [Value.int x]) := by
    refine ⟨nf_inA hl rfl, sgq_995 ?_⟩
    · show w_fi ws (n_v (vs ++ [Value.int x]) 0) 125 = v_iv (n_v (vs ++ [Value.int x]) 5)
      simp only [e_0, e_5]
      exact vc_Mo_stOrder_13_1 (v_iv (n_v vs 1)) (v_iv (n_v vs 2)) (v_iv (n_v vs 3)) (v_iv (n_v vs 4)) (w_fi ws (n_v vs 0) 31) (w_ei ws (w_ar ws (n_v vs 0) 33)) (w_ei ws (w_ar ws (n_v vs 0) 34)) (w_fi ws (n_v vs 0) 32) (w_ei ws (w_ar ws (n_v vs 0) 35)) (w_ei ws (w_ar ws (n_v vs 0) 117)) (w_fi ws (n_v vs 0) 125) (w_fi ws (n_v vs 0) 49) (w_ei ws (w_ar ws (n_v vs 0) 42)) (w_ei ws (w_ar ws (n_v vs 0) 43)) (w_ei ws (w_ar ws (n_v vs 0) 44)) (w_ei ws (w_ar ws (n_v vs 0) 52)) (v_iv (Value.int x)) k1 k2 k3 k4 d0 f0 f1 g2 f3 f4 f5 f6 f7 f8 f9 f10 f11 f12 hK_0_33 hK_0_34 hK_0_35 hK_0_42 hK_0_43 hK_0_44 hK_0_52 hK_0_117 kz_0_31 kz_0_32 kz_0_49 kz_0_125 ex2 ex3
  have nf2 : fc_1 PRD (23, [3], [-1, -1]) ws (vs ++ [Value.int x]) := by
    refine ⟨nf_inA hl rfl, sgq_626 ?_⟩
    · show (-1) * v_iv (n_v (vs ++ [Value.int x]) 3) + 0 ≤ (-1)
      rw [e_3]
      exact vc_Mo_stOrder_13_2 (v_iv (n_v vs 1)) (v_iv (n_v vs 2)) (v_iv (n_v vs 3)) (v_iv (n_v vs 4)) (w_fi ws (n_v vs 0) 31) (w_ei ws (w_ar ws (n_v vs 0) 33)) (w_ei ws (w_ar ws (n_v vs 0) 34)) (w_fi ws (n_v vs 0) 32) (w_ei ws (w_ar ws (n_v vs 0) 35)) (w_ei ws (w_ar ws (n_v vs 0) 117)) (w_fi ws (n_v vs 0) 125) (w_fi ws (n_v vs 0) 49) (w_ei ws (w_ar ws (n_v vs 0) 42)) (w_ei ws (w_ar ws (n_v vs 0) 43)) (w_ei ws (w_ar ws (n_v vs 0) 44)) (w_ei ws (w_ar ws (n_v vs 0) 52)) (v_iv (Value.int x)) k1 k2 k3 k4 d0 f0 f1 g2 f3 f4 f5 f6 f7 f8 f9 f10 f11 f12 hK_0_33 hK_0_34 hK_0_35 hK_0_42 hK_0_43 hK_0_44 hK_0_52 hK_0_117 kz_0_31 kz_0_32 kz_0_49 kz_0_125 ex2 ex3
  have nf3 : fc_1 PRD (23, [3, 5], [-26, -1, -1]) ws (vs ++ [Value.int x]) := by
    refine ⟨nf_inA hl rfl, sgq_1759 ?_⟩
    · show (-1) * v_iv (n_v (vs ++ [Value.int x]) 3) + ((-1) * v_iv (n_v (vs ++ [Value.int x]) 5) + 0) ≤ (-26)
      simp only [e_3, e_5]
      exact vc_Mo_stOrder_13_3 (v_iv (n_v vs 1)) (v_iv (n_v vs 2)) (v_iv (n_v vs 3)) (v_iv (n_v vs 4)) (w_fi ws (n_v vs 0) 31) (w_ei ws (w_ar ws (n_v vs 0) 33)) (w_ei ws (w_ar ws (n_v vs 0) 34)) (w_fi ws (n_v vs 0) 32) (w_ei ws (w_ar ws (n_v vs 0) 35)) (w_ei ws (w_ar ws (n_v vs 0) 117)) (w_fi ws (n_v vs 0) 125) (w_fi ws (n_v vs 0) 49) (w_ei ws (w_ar ws (n_v vs 0) 42)) (w_ei ws (w_ar ws (n_v vs 0) 43)) (w_ei ws (w_ar ws (n_v vs 0) 44)) (w_ei ws (w_ar ws (n_v vs 0) 52)) (v_iv (Value.int x)) k1 k2 k3 k4 d0 f0 f1 g2 f3 f4 f5 f6 f7 f8 f9 f10 f11 f12 hK_0_33 hK_0_34 hK_0_35 hK_0_42 hK_0_43 hK_0_44 hK_0_52 hK_0_117 kz_0_31 kz_0_32 kz_0_49 kz_0_125 ex2 ex3
  have nf4 : fc_1 PRD (20, [0], [50, 1, 0, 49, 1, 3, 2, 0, 49, 0, -1]) ws (vs ++ [Value.int x]) := by
    refine ⟨nf_inA hl rfl, sgq_1675 ?_⟩
    · show w_fi ws (n_v (vs ++ [Value.int x]) 0) 49 = (-1)
      rw [e_0]
      exact vc_Mo_stOrder_13_4 (v_iv (n_v vs 1)) (v_iv (n_v vs 2)) (v_iv (n_v vs 3)) (v_iv (n_v vs 4)) (w_fi ws (n_v vs 0) 31) (w_ei ws (w_ar ws (n_v vs 0) 33)) (w_ei ws (w_ar ws (n_v vs 0) 34)) (w_fi ws (n_v vs 0) 32) (w_ei ws (w_ar ws (n_v vs 0) 35)) (w_ei ws (w_ar ws (n_v vs 0) 117)) (w_fi ws (n_v vs 0) 125) (w_fi ws (n_v vs 0) 49) (w_ei ws (w_ar ws (n_v vs 0) 42)) (w_ei ws (w_ar ws (n_v vs 0) 43)) (w_ei ws (w_ar ws (n_v vs 0) 44)) (w_ei ws (w_ar ws (n_v vs 0) 52)) (v_iv (Value.int x)) k1 k2 k3 k4 d0 f0 f1 g2 f3 f4 f5 f6 f7 f8 f9 f10 f11 f12 hK_0_33 hK_0_34 hK_0_35 hK_0_42 hK_0_43 hK_0_44 hK_0_52 hK_0_117 kz_0_31 kz_0_32 kz_0_49 kz_0_125 ex2 ex3
  exact ⟨(fun _ h => (by cases h)), [Value.int x], ag_one hx, List.forall_mem_cons.mpr ⟨⟨show (20 : Nat) < 100 from by decide, nf0⟩, List.forall_mem_cons.mpr ⟨⟨show (20 : Nat) < 100 from by decide, nf1⟩, List.forall_mem_cons.mpr ⟨⟨show (23 : Nat) < 100 from by decide, nf2⟩, List.forall_mem_cons.mpr ⟨⟨show (23 : Nat) < 100 from by decide, nf3⟩, List.forall_mem_cons.mpr ⟨⟨show (20 : Nat) < 100 from by decide, nf4⟩, (fun _ h => (by cases h))⟩⟩⟩⟩⟩, (fun _ h => (by cases h))⟩
set_option maxHeartbeats 4000000 in
theorem vc_Mo_stOrder_14_0 (x1 : Int) (x2 : Int) (x3 : Int) (x4 : Int) (x5 : Int) (onlyPiece_0 : Int) (pt_0 : Int → Int) (ph_0 : Int → Int) (pn_0 : Int) (pm_0 : Int) (alive_0 : Int → Int) (drawnNode_0 : Int → Int) (drawnEdge_0 : Int → Int) (pieceOf_0 : Int → Int) (bestWay_0 : Int → Int) (row_0 : Int → Int) (rowMany_0 : Int) (gx : Int) (k1 : 1 ≤ x1 ∧ x1 ≤ 30) (k2 : 0 ≤ x2 ∧ x2 ≤ 24) (k3 : (-2) ≤ x3 ∧ x3 ≤ 26) (k4 : 1 ≤ x4 ∧ x4 ≤ 25) (k5 : 0 ≤ x5 ∧ x5 ≤ 100) (d0 : x4 + (-4294967296) ≤ x2 ∧ x2 ≤ x4 + (-1)) (f0 : (-1) * x3 + 0 ≤ (-1)) (f1 : (-1) * x3 + ((-1) * x5 + 0) ≤ (-26)) (f2 : onlyPiece_0 = (-1)) (f3 : GOK (pn_0) (pm_0) (pt_0) (ph_0)) (f4 : STB (pn_0) (pm_0) (pt_0) (ph_0) (alive_0)) (f5 : onlyPiece_0 = (-1)) (f6 : DEM (pm_0) (pt_0) (ph_0) (drawnNode_0) (drawnEdge_0)) (f7 : UA (pm_0) (alive_0) (drawnEdge_0)) (f8 : SA1 (pn_0) (pm_0) (onlyPiece_0) (pt_0) (ph_0) (drawnEdge_0) (pieceOf_0) (drawnNode_0) (bestWay_0) (x1) (x2)) (f9 : STR (pn_0) (rowMany_0) (pt_0) (ph_0) (row_0)) (f10 : (x5 + 1) ≤ rowMany_0) (f12 : (-1) * x3 + 0 ≤ (-1)) (f13 : (-1) * x3 + ((-1) * x5 + 0) ≤ (-26)) (f14 : x1 ≠ 0) (f15 : x2 < x4) (hK_0_33 : ∀ j : Int, 0 ≤ j → j < 80 → 0 ≤ pt_0 j ∧ pt_0 j ≤ 24) (hK_0_34 : ∀ j : Int, 0 ≤ j → j < 80 → 0 ≤ ph_0 j ∧ ph_0 j ≤ 24) (hK_0_35 : ∀ j : Int, 0 ≤ j → j < 80 → 0 ≤ alive_0 j ∧ alive_0 j ≤ 1) (hK_0_42 : ∀ j : Int, 0 ≤ j → j < 26 → 0 ≤ drawnNode_0 j ∧ drawnNode_0 j ≤ 1) (hK_0_43 : ∀ j : Int, 0 ≤ j → j < 80 → 0 ≤ drawnEdge_0 j ∧ drawnEdge_0 j ≤ 1) (hK_0_44 : ∀ j : Int, 0 ≤ j → j < 80 → (-1) ≤ pieceOf_0 j ∧ pieceOf_0 j ≤ 79) (hK_0_52 : ∀ j : Int, 0 ≤ j → j < 30 → 0 ≤ bestWay_0 j ∧ bestWay_0 j ≤ 24) (hK_0_117 : ∀ j : Int, 0 ≤ j → j < 100 → 0 ≤ row_0 j ∧ row_0 j ≤ 75) (kz_0_31 : 0 ≤ pn_0 ∧ pn_0 ≤ 25) (kz_0_32 : 0 ≤ pm_0 ∧ pm_0 ≤ 80) (kz_0_49 : (-1) ≤ onlyPiece_0 ∧ onlyPiece_0 ≤ 79) (kz_0_125 : 0 ≤ rowMany_0 ∧ rowMany_0 ≤ 100) (ex2 : gx = 0 + (1 * x3 + 0)) (ex3 : (-2) ≤ gx ∧ gx ≤ 26) : GOK (pn_0) (pm_0) (pt_0) (ph_0) := by
  first
    | assumption
    | exact ‹STB _ _ _ _ _›.1.1
set_option maxHeartbeats 4000000 in
theorem vc_Mo_stOrder_14_1 (x1 : Int) (x2 : Int) (x3 : Int) (x4 : Int) (x5 : Int) (onlyPiece_0 : Int) (pt_0 : Int → Int) (ph_0 : Int → Int) (pn_0 : Int) (pm_0 : Int) (alive_0 : Int → Int) (drawnNode_0 : Int → Int) (drawnEdge_0 : Int → Int) (pieceOf_0 : Int → Int) (bestWay_0 : Int → Int) (row_0 : Int → Int) (rowMany_0 : Int) (gx : Int) (k1 : 1 ≤ x1 ∧ x1 ≤ 30) (k2 : 0 ≤ x2 ∧ x2 ≤ 24) (k3 : (-2) ≤ x3 ∧ x3 ≤ 26) (k4 : 1 ≤ x4 ∧ x4 ≤ 25) (k5 : 0 ≤ x5 ∧ x5 ≤ 100) (d0 : x4 + (-4294967296) ≤ x2 ∧ x2 ≤ x4 + (-1)) (f0 : (-1) * x3 + 0 ≤ (-1)) (f1 : (-1) * x3 + ((-1) * x5 + 0) ≤ (-26)) (f2 : onlyPiece_0 = (-1)) (f3 : GOK (pn_0) (pm_0) (pt_0) (ph_0)) (f4 : STB (pn_0) (pm_0) (pt_0) (ph_0) (alive_0)) (f5 : onlyPiece_0 = (-1)) (f6 : DEM (pm_0) (pt_0) (ph_0) (drawnNode_0) (drawnEdge_0)) (f7 : UA (pm_0) (alive_0) (drawnEdge_0)) (f8 : SA1 (pn_0) (pm_0) (onlyPiece_0) (pt_0) (ph_0) (drawnEdge_0) (pieceOf_0) (drawnNode_0) (bestWay_0) (x1) (x2)) (f9 : STR (pn_0) (rowMany_0) (pt_0) (ph_0) (row_0)) (f10 : (x5 + 1) ≤ rowMany_0) (f12 : (-1) * x3 + 0 ≤ (-1)) (f13 : (-1) * x3 + ((-1) * x5 + 0) ≤ (-26)) (f14 : x1 ≠ 0) (f15 : x2 < x4) (hK_0_33 : ∀ j : Int, 0 ≤ j → j < 80 → 0 ≤ pt_0 j ∧ pt_0 j ≤ 24) (hK_0_34 : ∀ j : Int, 0 ≤ j → j < 80 → 0 ≤ ph_0 j ∧ ph_0 j ≤ 24) (hK_0_35 : ∀ j : Int, 0 ≤ j → j < 80 → 0 ≤ alive_0 j ∧ alive_0 j ≤ 1) (hK_0_42 : ∀ j : Int, 0 ≤ j → j < 26 → 0 ≤ drawnNode_0 j ∧ drawnNode_0 j ≤ 1) (hK_0_43 : ∀ j : Int, 0 ≤ j → j < 80 → 0 ≤ drawnEdge_0 j ∧ drawnEdge_0 j ≤ 1) (hK_0_44 : ∀ j : Int, 0 ≤ j → j < 80 → (-1) ≤ pieceOf_0 j ∧ pieceOf_0 j ≤ 79) (hK_0_52 : ∀ j : Int, 0 ≤ j → j < 30 → 0 ≤ bestWay_0 j ∧ bestWay_0 j ≤ 24) (hK_0_117 : ∀ j : Int, 0 ≤ j → j < 100 → 0 ≤ row_0 j ∧ row_0 j ≤ 75) (kz_0_31 : 0 ≤ pn_0 ∧ pn_0 ≤ 25) (kz_0_32 : 0 ≤ pm_0 ∧ pm_0 ≤ 80) (kz_0_49 : (-1) ≤ onlyPiece_0 ∧ onlyPiece_0 ≤ 79) (kz_0_125 : 0 ≤ rowMany_0 ∧ rowMany_0 ≤ 100) (ex2 : gx = 0 + (1 * x3 + 0)) (ex3 : (-2) ≤ gx ∧ gx ≤ 26) : STB (pn_0) (pm_0) (pt_0) (ph_0) (alive_0) := by
  first | assumption
set_option maxHeartbeats 4000000 in
theorem vc_Mo_stOrder_14_2 (x1 : Int) (x2 : Int) (x3 : Int) (x4 : Int) (x5 : Int) (onlyPiece_0 : Int) (pt_0 : Int → Int) (ph_0 : Int → Int) (pn_0 : Int) (pm_0 : Int) (alive_0 : Int → Int) (drawnNode_0 : Int → Int) (drawnEdge_0 : Int → Int) (pieceOf_0 : Int → Int) (bestWay_0 : Int → Int) (row_0 : Int → Int) (rowMany_0 : Int) (gx : Int) (k1 : 1 ≤ x1 ∧ x1 ≤ 30) (k2 : 0 ≤ x2 ∧ x2 ≤ 24) (k3 : (-2) ≤ x3 ∧ x3 ≤ 26) (k4 : 1 ≤ x4 ∧ x4 ≤ 25) (k5 : 0 ≤ x5 ∧ x5 ≤ 100) (d0 : x4 + (-4294967296) ≤ x2 ∧ x2 ≤ x4 + (-1)) (f0 : (-1) * x3 + 0 ≤ (-1)) (f1 : (-1) * x3 + ((-1) * x5 + 0) ≤ (-26)) (f2 : onlyPiece_0 = (-1)) (f3 : GOK (pn_0) (pm_0) (pt_0) (ph_0)) (f4 : STB (pn_0) (pm_0) (pt_0) (ph_0) (alive_0)) (f5 : onlyPiece_0 = (-1)) (f6 : DEM (pm_0) (pt_0) (ph_0) (drawnNode_0) (drawnEdge_0)) (f7 : UA (pm_0) (alive_0) (drawnEdge_0)) (f8 : SA1 (pn_0) (pm_0) (onlyPiece_0) (pt_0) (ph_0) (drawnEdge_0) (pieceOf_0) (drawnNode_0) (bestWay_0) (x1) (x2)) (f9 : STR (pn_0) (rowMany_0) (pt_0) (ph_0) (row_0)) (f10 : (x5 + 1) ≤ rowMany_0) (f12 : (-1) * x3 + 0 ≤ (-1)) (f13 : (-1) * x3 + ((-1) * x5 + 0) ≤ (-26)) (f14 : x1 ≠ 0) (f15 : x2 < x4) (hK_0_33 : ∀ j : Int, 0 ≤ j → j < 80 → 0 ≤ pt_0 j ∧ pt_0 j ≤ 24) (hK_0_34 : ∀ j : Int, 0 ≤ j → j < 80 → 0 ≤ ph_0 j ∧ ph_0 j ≤ 24) (hK_0_35 : ∀ j : Int, 0 ≤ j → j < 80 → 0 ≤ alive_0 j ∧ alive_0 j ≤ 1) (hK_0_42 : ∀ j : Int, 0 ≤ j → j < 26 → 0 ≤ drawnNode_0 j ∧ drawnNode_0 j ≤ 1) (hK_0_43 : ∀ j : Int, 0 ≤ j → j < 80 → 0 ≤ drawnEdge_0 j ∧ drawnEdge_0 j ≤ 1) (hK_0_44 : ∀ j : Int, 0 ≤ j → j < 80 → (-1) ≤ pieceOf_0 j ∧ pieceOf_0 j ≤ 79) (hK_0_52 : ∀ j : Int, 0 ≤ j → j < 30 → 0 ≤ bestWay_0 j ∧ bestWay_0 j ≤ 24) (hK_0_117 : ∀ j : Int, 0 ≤ j → j < 100 → 0 ≤ row_0 j ∧ row_0 j ≤ 75) (kz_0_31 : 0 ≤ pn_0 ∧ pn_0 ≤ 25) (kz_0_32 : 0 ≤ pm_0 ∧ pm_0 ≤ 80) (kz_0_49 : (-1) ≤ onlyPiece_0 ∧ onlyPiece_0 ≤ 79) (kz_0_125 : 0 ≤ rowMany_0 ∧ rowMany_0 ≤ 100) (ex2 : gx = 0 + (1 * x3 + 0)) (ex3 : (-2) ≤ gx ∧ gx ≤ 26) : STR (pn_0) (rowMany_0) (pt_0) (ph_0) (row_0) := by
  first | assumption
set_option maxHeartbeats 4000000 in
theorem vc_Mo_stOrder_14_3 (x1 : Int) (x2 : Int) (x3 : Int) (x4 : Int) (x5 : Int) (onlyPiece_0 : Int) (pt_0 : Int → Int) (ph_0 : Int → Int) (pn_0 : Int) (pm_0 : Int) (alive_0 : Int → Int) (drawnNode_0 : Int → Int) (drawnEdge_0 : Int → Int) (pieceOf_0 : Int → Int) (bestWay_0 : Int → Int) (row_0 : Int → Int) (rowMany_0 : Int) (gx : Int) (k1 : 1 ≤ x1 ∧ x1 ≤ 30) (k2 : 0 ≤ x2 ∧ x2 ≤ 24) (k3 : (-2) ≤ x3 ∧ x3 ≤ 26) (k4 : 1 ≤ x4 ∧ x4 ≤ 25) (k5 : 0 ≤ x5 ∧ x5 ≤ 100) (d0 : x4 + (-4294967296) ≤ x2 ∧ x2 ≤ x4 + (-1)) (f0 : (-1) * x3 + 0 ≤ (-1)) (f1 : (-1) * x3 + ((-1) * x5 + 0) ≤ (-26)) (f2 : onlyPiece_0 = (-1)) (f3 : GOK (pn_0) (pm_0) (pt_0) (ph_0)) (f4 : STB (pn_0) (pm_0) (pt_0) (ph_0) (alive_0)) (f5 : onlyPiece_0 = (-1)) (f6 : DEM (pm_0) (pt_0) (ph_0) (drawnNode_0) (drawnEdge_0)) (f7 : UA (pm_0) (alive_0) (drawnEdge_0)) (f8 : SA1 (pn_0) (pm_0) (onlyPiece_0) (pt_0) (ph_0) (drawnEdge_0) (pieceOf_0) (drawnNode_0) (bestWay_0) (x1) (x2)) (f9 : STR (pn_0) (rowMany_0) (pt_0) (ph_0) (row_0)) (f10 : (x5 + 1) ≤ rowMany_0) (f12 : (-1) * x3 + 0 ≤ (-1)) (f13 : (-1) * x3 + ((-1) * x5 + 0) ≤ (-26)) (f14 : x1 ≠ 0) (f15 : x2 < x4) (hK_0_33 : ∀ j : Int, 0 ≤ j → j < 80 → 0 ≤ pt_0 j ∧ pt_0 j ≤ 24) (hK_0_34 : ∀ j : Int, 0 ≤ j → j < 80 → 0 ≤ ph_0 j ∧ ph_0 j ≤ 24) (hK_0_35 : ∀ j : Int, 0 ≤ j → j < 80 → 0 ≤ alive_0 j ∧ alive_0 j ≤ 1) (hK_0_42 : ∀ j : Int, 0 ≤ j → j < 26 → 0 ≤ drawnNode_0 j ∧ drawnNode_0 j ≤ 1) (hK_0_43 : ∀ j : Int, 0 ≤ j → j < 80 → 0 ≤ drawnEdge_0 j ∧ drawnEdge_0 j ≤ 1) (hK_0_44 : ∀ j : Int, 0 ≤ j → j < 80 → (-1) ≤ pieceOf_0 j ∧ pieceOf_0 j ≤ 79) (hK_0_52 : ∀ j : Int, 0 ≤ j → j < 30 → 0 ≤ bestWay_0 j ∧ bestWay_0 j ≤ 24) (hK_0_117 : ∀ j : Int, 0 ≤ j → j < 100 → 0 ≤ row_0 j ∧ row_0 j ≤ 75) (kz_0_31 : 0 ≤ pn_0 ∧ pn_0 ≤ 25) (kz_0_32 : 0 ≤ pm_0 ∧ pm_0 ≤ 80) (kz_0_49 : (-1) ≤ onlyPiece_0 ∧ onlyPiece_0 ≤ 79) (kz_0_125 : 0 ≤ rowMany_0 ∧ rowMany_0 ≤ 100) (ex2 : gx = 0 + (1 * x3 + 0)) (ex3 : (-2) ≤ gx ∧ gx ≤ 26) : onlyPiece_0 = (-1) := by
  first
    | omega
    | (have h := ‹STB _ _ _ _ _›.1.2.2; omega)
    | (have h := ‹STR _ _ _ _ _›.1; omega)
    | (have h := ‹STR _ _ _ _ _›.1
       have w := ‹STR _ _ _ _ _›.2.1 x1 (by omega) (by omega)
       omega)
    | (have h := bc_len ‹BC1 _ _ _ _ _ _ _›
       have h2 := ‹STR _ _ _ _ _›.1
       omega)
    | (have h := (sb_way ‹SB1 _ _ _ _ _ _ _ _ _ _ _ _› (by omega)).1
       have h2 := ‹STR _ _ _ _ _›.1
       omega)
    | (have h := ‹WYM _ _ _ _›.1
       have h2 := ‹STR _ _ _ _ _›.1
       omega)
set_option maxHeartbeats 4000000 in
theorem vc_Mo_stOrder_14_4 (x1 : Int) (x2 : Int) (x3 : Int) (x4 : Int) (x5 : Int) (onlyPiece_0 : Int) (pt_0 : Int → Int) (ph_0 : Int → Int) (pn_0 : Int) (pm_0 : Int) (alive_0 : Int → Int) (drawnNode_0 : Int → Int) (drawnEdge_0 : Int → Int) (pieceOf_0 : Int → Int) (bestWay_0 : Int → Int) (row_0 : Int → Int) (rowMany_0 : Int) (gx : Int) (k1 : 1 ≤ x1 ∧ x1 ≤ 30) (k2 : 0 ≤ x2 ∧ x2 ≤ 24) (k3 : (-2) ≤ x3 ∧ x3 ≤ 26) (k4 : 1 ≤ x4 ∧ x4 ≤ 25) (k5 : 0 ≤ x5 ∧ x5 ≤ 100) (d0 : x4 + (-4294967296) ≤ x2 ∧ x2 ≤ x4 + (-1)) (f0 : (-1) * x3 + 0 ≤ (-1)) (f1 : (-1) * x3 + ((-1) * x5 + 0) ≤ (-26)) (f2 : onlyPiece_0 = (-1)) (f3 : GOK (pn_0) (pm_0) (pt_0) (ph_0)) (f4 : STB (pn_0) (pm_0) (pt_0) (ph_0) (alive_0)) (f5 : onlyPiece_0 = (-1)) (f6 : DEM (pm_0) (pt_0) (ph_0) (drawnNode_0) (drawnEdge_0)) (f7 : UA (pm_0) (alive_0) (drawnEdge_0)) (f8 : SA1 (pn_0) (pm_0) (onlyPiece_0) (pt_0) (ph_0) (drawnEdge_0) (pieceOf_0) (drawnNode_0) (bestWay_0) (x1) (x2)) (f9 : STR (pn_0) (rowMany_0) (pt_0) (ph_0) (row_0)) (f10 : (x5 + 1) ≤ rowMany_0) (f12 : (-1) * x3 + 0 ≤ (-1)) (f13 : (-1) * x3 + ((-1) * x5 + 0) ≤ (-26)) (f14 : x1 ≠ 0) (f15 : x2 < x4) (hK_0_33 : ∀ j : Int, 0 ≤ j → j < 80 → 0 ≤ pt_0 j ∧ pt_0 j ≤ 24) (hK_0_34 : ∀ j : Int, 0 ≤ j → j < 80 → 0 ≤ ph_0 j ∧ ph_0 j ≤ 24) (hK_0_35 : ∀ j : Int, 0 ≤ j → j < 80 → 0 ≤ alive_0 j ∧ alive_0 j ≤ 1) (hK_0_42 : ∀ j : Int, 0 ≤ j → j < 26 → 0 ≤ drawnNode_0 j ∧ drawnNode_0 j ≤ 1) (hK_0_43 : ∀ j : Int, 0 ≤ j → j < 80 → 0 ≤ drawnEdge_0 j ∧ drawnEdge_0 j ≤ 1) (hK_0_44 : ∀ j : Int, 0 ≤ j → j < 80 → (-1) ≤ pieceOf_0 j ∧ pieceOf_0 j ≤ 79) (hK_0_52 : ∀ j : Int, 0 ≤ j → j < 30 → 0 ≤ bestWay_0 j ∧ bestWay_0 j ≤ 24) (hK_0_117 : ∀ j : Int, 0 ≤ j → j < 100 → 0 ≤ row_0 j ∧ row_0 j ≤ 75) (kz_0_31 : 0 ≤ pn_0 ∧ pn_0 ≤ 25) (kz_0_32 : 0 ≤ pm_0 ∧ pm_0 ≤ 80) (kz_0_49 : (-1) ≤ onlyPiece_0 ∧ onlyPiece_0 ≤ 79) (kz_0_125 : 0 ≤ rowMany_0 ∧ rowMany_0 ≤ 100) (ex2 : gx = 0 + (1 * x3 + 0)) (ex3 : (-2) ≤ gx ∧ gx ≤ 26) : (-1) * rowMany_0 + ((-1) * gx + 0) ≤ (-27) := by
  first
    | omega
    | (have h := ‹STB _ _ _ _ _›.1.2.2; omega)
    | (have h := ‹STR _ _ _ _ _›.1; omega)
    | (have h := ‹STR _ _ _ _ _›.1
       have w := ‹STR _ _ _ _ _›.2.1 x1 (by omega) (by omega)
       omega)
    | (have h := bc_len ‹BC1 _ _ _ _ _ _ _›
       have h2 := ‹STR _ _ _ _ _›.1
       omega)
    | (have h := (sb_way ‹SB1 _ _ _ _ _ _ _ _ _ _ _ _› (by omega)).1
       have h2 := ‹STR _ _ _ _ _›.1
       omega)
    | (have h := ‹WYM _ _ _ _›.1
       have h2 := ‹STR _ _ _ _ _›.1
       omega)
set_option maxHeartbeats 4000000 in
theorem vc_Mo_stOrder_14_5 (x1 : Int) (x2 : Int) (x3 : Int) (x4 : Int) (x5 : Int) (onlyPiece_0 : Int) (pt_0 : Int → Int) (ph_0 : Int → Int) (pn_0 : Int) (pm_0 : Int) (alive_0 : Int → Int) (drawnNode_0 : Int → Int) (drawnEdge_0 : Int → Int) (pieceOf_0 : Int → Int) (bestWay_0 : Int → Int) (row_0 : Int → Int) (rowMany_0 : Int) (gx : Int) (k1 : 1 ≤ x1 ∧ x1 ≤ 30) (k2 : 0 ≤ x2 ∧ x2 ≤ 24) (k3 : (-2) ≤ x3 ∧ x3 ≤ 26) (k4 : 1 ≤ x4 ∧ x4 ≤ 25) (k5 : 0 ≤ x5 ∧ x5 ≤ 100) (d0 : x4 + (-4294967296) ≤ x2 ∧ x2 ≤ x4 + (-1)) (f0 : (-1) * x3 + 0 ≤ (-1)) (f1 : (-1) * x3 + ((-1) * x5 + 0) ≤ (-26)) (f2 : onlyPiece_0 = (-1)) (f3 : GOK (pn_0) (pm_0) (pt_0) (ph_0)) (f4 : STB (pn_0) (pm_0) (pt_0) (ph_0) (alive_0)) (f5 : onlyPiece_0 = (-1)) (f6 : DEM (pm_0) (pt_0) (ph_0) (drawnNode_0) (drawnEdge_0)) (f7 : UA (pm_0) (alive_0) (drawnEdge_0)) (f8 : SA1 (pn_0) (pm_0) (onlyPiece_0) (pt_0) (ph_0) (drawnEdge_0) (pieceOf_0) (drawnNode_0) (bestWay_0) (x1) (x2)) (f9 : STR (pn_0) (rowMany_0) (pt_0) (ph_0) (row_0)) (f10 : (x5 + 1) ≤ rowMany_0) (f12 : (-1) * x3 + 0 ≤ (-1)) (f13 : (-1) * x3 + ((-1) * x5 + 0) ≤ (-26)) (f14 : x1 ≠ 0) (f15 : x2 < x4) (hK_0_33 : ∀ j : Int, 0 ≤ j → j < 80 → 0 ≤ pt_0 j ∧ pt_0 j ≤ 24) (hK_0_34 : ∀ j : Int, 0 ≤ j → j < 80 → 0 ≤ ph_0 j ∧ ph_0 j ≤ 24) (hK_0_35 : ∀ j : Int, 0 ≤ j → j < 80 → 0 ≤ alive_0 j ∧ alive_0 j ≤ 1) (hK_0_42 : ∀ j : Int, 0 ≤ j → j < 26 → 0 ≤ drawnNode_0 j ∧ drawnNode_0 j ≤ 1) (hK_0_43 : ∀ j : Int, 0 ≤ j → j < 80 → 0 ≤ drawnEdge_0 j ∧ drawnEdge_0 j ≤ 1) (hK_0_44 : ∀ j : Int, 0 ≤ j → j < 80 → (-1) ≤ pieceOf_0 j ∧ pieceOf_0 j ≤ 79) (hK_0_52 : ∀ j : Int, 0 ≤ j → j < 30 → 0 ≤ bestWay_0 j ∧ bestWay_0 j ≤ 24) (hK_0_117 : ∀ j : Int, 0 ≤ j → j < 100 → 0 ≤ row_0 j ∧ row_0 j ≤ 75) (kz_0_31 : 0 ≤ pn_0 ∧ pn_0 ≤ 25) (kz_0_32 : 0 ≤ pm_0 ∧ pm_0 ≤ 80) (kz_0_49 : (-1) ≤ onlyPiece_0 ∧ onlyPiece_0 ≤ 79) (kz_0_125 : 0 ≤ rowMany_0 ∧ rowMany_0 ≤ 100) (ex2 : gx = 0 + (1 * x3 + 0)) (ex3 : (-2) ≤ gx ∧ gx ≤ 26) : (-1) * gx + 0 ≤ (-1) := by
  first
    | omega
    | (have h := ‹STB _ _ _ _ _›.1.2.2; omega)
    | (have h := ‹STR _ _ _ _ _›.1; omega)
    | (have h := ‹STR _ _ _ _ _›.1
       have w := ‹STR _ _ _ _ _›.2.1 x1 (by omega) (by omega)
       omega)
    | (have h := bc_len ‹BC1 _ _ _ _ _ _ _›
       have h2 := ‹STR _ _ _ _ _›.1
       omega)
    | (have h := (sb_way ‹SB1 _ _ _ _ _ _ _ _ _ _ _ _› (by omega)).1
       have h2 := ‹STR _ _ _ _ _›.1
       omega)
    | (have h := ‹WYM _ _ _ _›.1
       have h2 := ‹STR _ _ _ _ _›.1
       omega)
def o_Mo_stOrder_14 : or_T := (371, 6, [(0, (2, 0, 0, [165])), (1, (0, 1, 30, [])), (2, (0, 0, 24, [])), (3, (0, -2, 26, [])), (4, (0, 1, 25, [])), (5, (0, 0, 100, []))], [(23, [3], [-1, -1]), (23, [3, 5], [-26, -1, -1]), (20, [0], [50, 1, 0, 49, 1, 3, 2, 0, 49, 0, -1]), (20, [0], [60, 2, 2, 75, 31, 32, 33, 34]), (20, [0], [60, 2, 3, 297, 31, 32, 33, 34, 35]), (20, [0], [50, 1, 0, 49, 1, 3, 2, 0, 49, 0, -1]), (20, [0], [60, 1, 4, 303, 32, 33, 34, 42, 43]), (20, [0], [60, 1, 2, 122, 32, 35, 43]), (20, [0, 1, 2], [60, 3, 6, 305, 31, 32, 49, 33, 34, 43, 44, 42, 52]), (20, [0], [60, 2, 3, 298, 31, 125, 33, 34, 117]), (20, [5, 0], [50, 1, 0, 1125, 0, 6, 4, 2, 1, 0, 0, 1, 2, 1, 125]), (102, [5], [904625697166532776746648320380374280103671755200316906558262375061821325312, 165125]), (23, [3], [-1, -1]), (23, [3, 5], [-26, -1, -1]), (8, [1], [1]), (7, [2, 4], [2])], [], [(0, -2, 26, [])], [(20, [0], [60, 2, 2, 75, 31, 32, 33, 34]), (20, [0], [60, 2, 3, 297, 31, 32, 33, 34, 35]), (20, [0], [60, 2, 3, 298, 31, 125, 33, 34, 117]), (20, [0], [50, 1, 0, 49, 1, 3, 2, 0, 49, 0, -1]), (20, [0, 6], [30, -27, -1, 1, 125, -1, 0, 0]), (23, [6], [-1, -1])], [(6, 3, 0, 0)], [(2, 4, -4294967296, -1)])
theorem oo_Mo_stOrder_14 {kA : Nat → ClassId} : or_ok PRD kA GG o_Mo_stOrder_14 := by
  refine or_mk fun A ta ws vs hD hth hl => ?_
  intro t0 r0 t1 k1 t2 k2 t3 k3 t4 k4 t5 k5 d0 f0 f1 f2 f3 f4 f5 f6 f7 f8 f9 f10 ta1 w1 le1 s1 f12 f13 f14 f15
  replace f0 := shm_626 f0
  replace f1 := shm_1759 f1
  replace f2 := shm_1675 f2
  replace f3 := shm_575 f3
  replace f4 := shm_1749 f4
  replace f5 := shm_1675 f5
  replace f6 := shm_1757 f6
  replace f7 := shm_1455 f7
  replace f8 := shm_1758 f8
  replace f9 := shm_1001 f9
  replace f10 := shm_1002 f10
  replace f12 := shm_626 f12
  replace f13 := shm_1759 f13
  replace f14 := shm_142 f14
  replace f15 := shm_6 f15
  have cr_0_33 := fdq_117 hD hth r0
  have cr_0_34 := fdq_118 hD hth r0
  have cr_0_35 := fdq_132 hD hth r0
  have cr_0_42 := fdq_136 hD hth r0
  have cr_0_43 := fdq_137 hD hth r0
  have cr_0_44 := fdq_138 hD hth r0
  have cr_0_52 := fdq_236 hD hth r0
  have cr_0_117 := fdq_181 hD hth r0
  have hK_0_33 := elq_60 hD hth cr_0_33
  have hK_0_34 := elq_61 hD hth cr_0_34
  have hK_0_35 := elq_72 hD hth cr_0_35
  have hK_0_42 := elq_75 hD hth cr_0_42
  have hK_0_43 := elq_76 hD hth cr_0_43
  have hK_0_44 := elq_77 hD hth cr_0_44
  have hK_0_52 := elq_147 hD hth cr_0_52
  have hK_0_117 := elq_108 hD hth cr_0_117
  have kz_0_31 := fdq_145 hD hth r0
  have kz_0_32 := fdq_140 hD hth r0
  have kz_0_49 := fdq_146 hD hth r0
  have kz_0_125 := fdq_182 hD hth r0
  obtain ⟨x, ex, hx⟩ := iv_ex (ta := ta) (lo := (-2)) (hi := 26) (z := 0 + (1 * v_iv (n_v vs 3) + 0)) (by omega) (by omega) (by omega) (by omega)
  have ex2 : v_iv (Value.int x) = 0 + (1 * v_iv (n_v vs 3) + 0) := ex
  have ex3 : (-2) ≤ v_iv (Value.int x) ∧ v_iv (Value.int x) ≤ 26 := tv_rng hx
  have e_0 : n_v (vs ++ [Value.int x]) 0 = n_v vs 0 := n_v_old (by rw [hl]; decide)
  have e_6 : n_v (vs ++ [Value.int x]) 6 = Value.int x := n_v_new hl
  have nf0 : fc_1 PRD (20, [0], [60, 2, 2, 75, 31, 32, 33, 34]) ws (vs ++ [Value.int x]) := by
    refine ⟨nf_inA hl rfl, sgq_575 ?_⟩
    · show GOK (w_fi ws (n_v (vs ++ [Value.int x]) 0) 31) (w_fi ws (n_v (vs ++ [Value.int x]) 0) 32) (w_ei ws (w_ar ws (n_v (vs ++ [Value.int x]) 0) 33)) (w_ei ws (w_ar ws (n_v (vs ++ [Value.int x]) 0) 34))
      rw [e_0]
      exact vc_Mo_stOrder_14_0 (v_iv (n_v vs 1)) (v_iv (n_v vs 2)) (v_iv (n_v vs 3)) (v_iv (n_v vs 4)) (v_iv (n_v vs 5)) (w_fi ws (n_v vs 0) 49) (w_ei ws (w_ar ws (n_v vs 0) 33)) (w_ei ws (w_ar ws (n_v vs 0) 34)) (w_fi ws (n_v vs 0) 31) (w_fi ws (n_v vs 0) 32) (w_ei ws (w_ar ws (n_v vs 0) 35)) (w_ei ws (w_ar ws (n_v vs 0) 42)) (w_ei ws (w_ar ws (n_v vs 0) 43)) (w_ei ws (w_ar ws (n_v vs 0) 44)) (w_ei ws (w_ar ws (n_v vs 0) 52)) (w_ei ws (w_ar ws (n_v vs 0) 117)) (w_fi ws (n_v vs 0) 125) (v_iv (Value.int x)) k1 k2 k3 k4 k5 d0 f0 f1 f2 f3 f4 f5 f6 f7 f8 f9 f10 f12 f13 f14 f15 hK_0_33 hK_0_34 hK_0_35 hK_0_42 hK_0_43 hK_0_44 hK_0_52 hK_0_117 kz_0_31 kz_0_32 kz_0_49 kz_0_125 ex2 ex3
  have nf1 : fc_1 PRD (20, [0], [60, 2, 3, 297, 31, 32, 33, 34, 35]) ws (vs ++ [Value.int x]) := by
    refine ⟨nf_inA hl rfl, sgq_1749 ?_⟩
    · show STB (w_fi ws (n_v (vs ++ [Value.int x]) 0) 31) (w_fi ws (n_v (vs ++ [Value.int x]) 0) 32) (w_ei ws (w_ar ws (n_v (vs ++ [Value.int x]) 0) 33)) (w_ei ws (w_ar ws (n_v (vs ++ [Value.int x]) 0) 34)) (w_ei ws (w_ar ws (n_v (vs ++ [Value.int x]) 0) 35))
      rw [e_0]
      exact vc_Mo_stOrder_14_1 (v_iv (n_v vs 1)) (v_iv (n_v vs 2)) (v_iv (n_v vs 3)) (v_iv (n_v vs 4)) (v_iv (n_v vs 5)) (w_fi ws (n_v vs 0) 49) (w_ei ws (w_ar ws (n_v vs 0) 33)) (w_ei ws (w_ar ws (n_v vs 0) 34)) (w_fi ws (n_v vs 0) 31) (w_fi ws (n_v vs 0) 32) (w_ei ws (w_ar ws (n_v vs 0) 35)) (w_ei ws (w_ar ws (n_v vs 0) 42)) (w_ei ws (w_ar ws (n_v vs 0) 43)) (w_ei ws (w_ar ws (n_v vs 0) 44)) (w_ei ws (w_ar ws (n_v vs 0) 52)) (w_ei ws (w_ar ws (n_v vs 0) 117)) (w_fi ws (n_v vs 0) 125) (v_iv (Value.int x)) k1 k2 k3 k4 k5 d0 f0 f1 f2 f3 f4 f5 f6 f7 f8 f9 f10 f12 f13 f14 f15 hK_0_33 hK_0_34 hK_0_35 hK_0_42 hK_0_43 hK_0_44 hK_0_52 hK_0_117 kz_0_31 kz_0_32 kz_0_49 kz_0_125 ex2 ex3
  have nf2 : fc_1 PRD (20, [0], [60, 2, 3, 298, 31, 125, 33, 34, 117]) ws (vs ++ [Value.int x]) := by
    refine ⟨nf_inA hl rfl, sgq_1001 ?_⟩
    · show STR (w_fi ws (n_v (vs ++ [Value.int x]) 0) 31) (w_fi ws (n_v (vs ++ [Value.int x]) 0) 125) (w_ei ws (w_ar ws (n_v (vs ++ [Value.int x]) 0) 33)) (w_ei ws (w_ar ws (n_v (vs ++ [Value.int x]) 0) 34)) (w_ei ws (w_ar ws (n_v (vs ++ [Value.int x]) 0) 117))
      rw [e_0]
      exact vc_Mo_stOrder_14_2 (v_iv (n_v vs 1)) (v_iv (n_v vs 2)) (v_iv (n_v vs 3)) (v_iv (n_v vs 4)) (v_iv (n_v vs 5)) (w_fi ws (n_v vs 0) 49) (w_ei ws (w_ar ws (n_v vs 0) 33)) (w_ei ws (w_ar ws (n_v vs 0) 34)) (w_fi ws (n_v vs 0) 31) (w_fi ws (n_v vs 0) 32) (w_ei ws (w_ar ws (n_v vs 0) 35)) (w_ei ws (w_ar ws (n_v vs 0) 42)) (w_ei ws (w_ar ws (n_v vs 0) 43)) (w_ei ws (w_ar ws (n_v vs 0) 44)) (w_ei ws (w_ar ws (n_v vs 0) 52)) (w_ei ws (w_ar ws (n_v vs 0) 117)) (w_fi ws (n_v vs 0) 125) (v_iv (Value.int x)) k1 k2 k3 k4 k5 d0 f0 f1 f2 f3 f4 f5 f6 f7 f8 f9 f10 f12 f13 f14 f15 hK_0_33 hK_0_34 hK_0_35 hK_0_42 hK_0_43 hK_0_44 hK_0_52 hK_0_117 kz_0_31 kz_0_32 kz_0_49 kz_0_125 ex2 ex3
  have nf3 : fc_1 PRD (20, [0], [50, 1, 0, 49, 1, 3, 2, 0, 49, 0, -1]) ws (vs ++ [Value.int x]) := by
    refine ⟨nf_inA hl rfl, sgq_1675 ?_⟩
    · show w_fi ws (n_v (vs ++ [Value.int x]) 0) 49 = (-1)
      rw [e_0]
      exact vc_Mo_stOrder_14_3 (v_iv (n_v vs 1)) (v_iv (n_v vs 2)) (v_iv (n_v vs 3)) (v_iv (n_v vs 4)) (v_iv (n_v vs 5)) (w_fi ws (n_v vs 0) 49) (w_ei ws (w_ar ws (n_v vs 0) 33)) (w_ei ws (w_ar ws (n_v vs 0) 34)) (w_fi ws (n_v vs 0) 31) (w_fi ws (n_v vs 0) 32) (w_ei ws (w_ar ws (n_v vs 0) 35)) (w_ei ws (w_ar ws (n_v vs 0) 42)) (w_ei ws (w_ar ws (n_v vs 0) 43)) (w_ei ws (w_ar ws (n_v vs 0) 44)) (w_ei ws (w_ar ws (n_v vs 0) 52)) (w_ei ws (w_ar ws (n_v vs 0) 117)) (w_fi ws (n_v vs 0) 125) (v_iv (Value.int x)) k1 k2 k3 k4 k5 d0 f0 f1 f2 f3 f4 f5 f6 f7 f8 f9 f10 f12 f13 f14 f15 hK_0_33 hK_0_34 hK_0_35 hK_0_42 hK_0_43 hK_0_44 hK_0_52 hK_0_117 kz_0_31 kz_0_32 kz_0_49 kz_0_125 ex2 ex3
  have nf4 : fc_1 PRD (20, [0, 6], [30, -27, -1, 1, 125, -1, 0, 0]) ws (vs ++ [Value.int x]) := by
    refine ⟨nf_inA hl rfl, sgq_1760 ?_⟩
    · show (-1) * w_fi ws (n_v (vs ++ [Value.int x]) 0) 125 + ((-1) * v_iv (n_v (vs ++ [Value.int x]) 6) + 0) ≤ (-27)
      simp only [e_0, e_6]
      exact vc_Mo_stOrder_14_4 (v_iv (n_v vs 1)) (v_iv (n_v vs 2)) (v_iv (n_v vs 3)) (v_iv (n_v vs 4)) (v_iv (n_v vs 5)) (w_fi ws (n_v vs 0) 49) (w_ei ws (w_ar ws (n_v vs 0) 33)) (w_ei ws (w_ar ws (n_v vs 0) 34)) (w_fi ws (n_v vs 0) 31) (w_fi ws (n_v vs 0) 32) (w_ei ws (w_ar ws (n_v vs 0) 35)) (w_ei ws (w_ar ws (n_v vs 0) 42)) (w_ei ws (w_ar ws (n_v vs 0) 43)) (w_ei ws (w_ar ws (n_v vs 0) 44)) (w_ei ws (w_ar ws (n_v vs 0) 52)) (w_ei ws (w_ar ws (n_v vs 0) 117)) (w_fi ws (n_v vs 0) 125) (v_iv (Value.int x)) k1 k2 k3 k4 k5 d0 f0 f1 f2 f3 f4 f5 f6 f7 f8 f9 f10 f12 f13 f14 f15 hK_0_33 hK_0_34 hK_0_35 hK_0_42 hK_0_43 hK_0_44 hK_0_52 hK_0_117 kz_0_31 kz_0_32 kz_0_49 kz_0_125 ex2 ex3
  have nf5 : fc_1 PRD (23, [6], [-1, -1]) ws (vs ++ [Value.int x]) := by
    refine ⟨nf_inA hl rfl, sgq_626 ?_⟩
    · show (-1) * v_iv (n_v (vs ++ [Value.int x]) 6) + 0 ≤ (-1)
      rw [e_6]
      exact vc_Mo_stOrder_14_5 (v_iv (n_v vs 1)) (v_iv (n_v vs 2)) (v_iv (n_v vs 3)) (v_iv (n_v vs 4)) (v_iv (n_v vs 5)) (w_fi ws (n_v vs 0) 49) (w_ei ws (w_ar ws (n_v vs 0) 33)) (w_ei ws (w_ar ws (n_v vs 0) 34)) (w_fi ws (n_v vs 0) 31) (w_fi ws (n_v vs 0) 32) (w_ei ws (w_ar ws (n_v vs 0) 35)) (w_ei ws (w_ar ws (n_v vs 0) 42)) (w_ei ws (w_ar ws (n_v vs 0) 43)) (w_ei ws (w_ar ws (n_v vs 0) 44)) (w_ei ws (w_ar ws (n_v vs 0) 52)) (w_ei ws (w_ar ws (n_v vs 0) 117)) (w_fi ws (n_v vs 0) 125) (v_iv (Value.int x)) k1 k2 k3 k4 k5 d0 f0 f1 f2 f3 f4 f5 f6 f7 f8 f9 f10 f12 f13 f14 f15 hK_0_33 hK_0_34 hK_0_35 hK_0_42 hK_0_43 hK_0_44 hK_0_52 hK_0_117 kz_0_31 kz_0_32 kz_0_49 kz_0_125 ex2 ex3
  obtain ⟨x0, e0, _, _⟩ := tv_int t3 rfl
  have e1 : v_iv (n_v vs 3) = x0.toInt := by rw [e0]; rfl
  have ho : sy_ofs (vs ++ [Value.int x]) (6, 3, 0, 0) := by
    refine ⟨x, x0, by rw [List.getElem?_append_right (by rw [hl]; decide), hl]; rfl, ?_, ?_, ?_⟩
    · rw [List.getElem?_append_left (by rw [hl]; decide)]; exact n_v_some (by rw [hl]; decide) e0
    · show x0.toInt + 0 ≤ x.toInt; omega
    · show x.toInt ≤ x0.toInt + 0; omega
  exact ⟨(fun _ h => (by cases h)), [Value.int x], ag_one hx, List.forall_mem_cons.mpr ⟨⟨show (20 : Nat) < 100 from by decide, nf0⟩, List.forall_mem_cons.mpr ⟨⟨show (20 : Nat) < 100 from by decide, nf1⟩, List.forall_mem_cons.mpr ⟨⟨show (20 : Nat) < 100 from by decide, nf2⟩, List.forall_mem_cons.mpr ⟨⟨show (20 : Nat) < 100 from by decide, nf3⟩, List.forall_mem_cons.mpr ⟨⟨show (20 : Nat) < 100 from by decide, nf4⟩, List.forall_mem_cons.mpr ⟨⟨show (23 : Nat) < 100 from by decide, nf5⟩, (fun _ h => (by cases h))⟩⟩⟩⟩⟩⟩, List.forall_mem_cons.mpr ⟨ho, (fun _ h => (by cases h))⟩⟩
set_option maxHeartbeats 4000000 in
theorem vc_Mo_stOrder_15_0 (x1 : Int) (x2 : Int) (x3 : Int) (x4 : Int) (x6 : Int) (x7 : Int) (drawnNode_0 : Int → Int) (pn_0 : Int) (pt_0 : Int → Int) (ph_0 : Int → Int) (pm_0 : Int) (alive_0 : Int → Int) (row_0 : Int → Int) (rowMany_0 : Int) (onlyPiece_0 : Int) (drawnEdge_0 : Int → Int) (pieceOf_0 : Int → Int) (bestWay_0 : Int → Int) (gx : Int) (k1 : 0 ≤ x1 ∧ x1 ≤ 0) (k2 : 0 ≤ x2 ∧ x2 ≤ 24) (k3 : (-2) ≤ x3 ∧ x3 ≤ 26) (k4 : 1 ≤ x4 ∧ x4 ≤ 25) (k6 : 1 ≤ x6 ∧ x6 ≤ 1) (k7 : 0 ≤ x7 ∧ x7 ≤ 0) (d0 : x4 + (-4294967296) ≤ x2 ∧ x2 ≤ x4 + (-1)) (f0 : x6 ≠ 0) (h1 : x6 = drawnNode_0 (x2)) (f3 : x1 = 0) (f4 : x2 < x4) (g5 : x4 = pn_0) (f6 : GOK (pn_0) (pm_0) (pt_0) (ph_0)) (f7 : STB (pn_0) (pm_0) (pt_0) (ph_0) (alive_0)) (f8 : STR (pn_0) (rowMany_0) (pt_0) (ph_0) (row_0)) (f9 : onlyPiece_0 = (-1)) (f10 : (-1) * rowMany_0 + ((-1) * x3 + 0) ≤ (-26)) (f11 : DRR (pn_0) (rowMany_0) (drawnNode_0) (row_0)) (f12 : DEM (pm_0) (pt_0) (ph_0) (drawnNode_0) (drawnEdge_0)) (f13 : UA (pm_0) (alive_0) (drawnEdge_0)) (f14 : (rowMany_0 + 1) ≤ pn_0) (f15 : SA1 (pn_0) (pm_0) (onlyPiece_0) (pt_0) (ph_0) (drawnEdge_0) (pieceOf_0) (drawnNode_0) (bestWay_0) (x1) (x2)) (hK_0_33 : ∀ j : Int, 0 ≤ j → j < 80 → 0 ≤ pt_0 j ∧ pt_0 j ≤ 24) (hK_0_34 : ∀ j : Int, 0 ≤ j → j < 80 → 0 ≤ ph_0 j ∧ ph_0 j ≤ 24) (hK_0_35 : ∀ j : Int, 0 ≤ j → j < 80 → 0 ≤ alive_0 j ∧ alive_0 j ≤ 1) (hK_0_42 : ∀ j : Int, 0 ≤ j → j < 26 → 0 ≤ drawnNode_0 j ∧ drawnNode_0 j ≤ 1) (hK_0_43 : ∀ j : Int, 0 ≤ j → j < 80 → 0 ≤ drawnEdge_0 j ∧ drawnEdge_0 j ≤ 1) (hK_0_44 : ∀ j : Int, 0 ≤ j → j < 80 → (-1) ≤ pieceOf_0 j ∧ pieceOf_0 j ≤ 79) (hK_0_52 : ∀ j : Int, 0 ≤ j → j < 30 → 0 ≤ bestWay_0 j ∧ bestWay_0 j ≤ 24) (hK_0_117 : ∀ j : Int, 0 ≤ j → j < 100 → 0 ≤ row_0 j ∧ row_0 j ≤ 75) (kz_0_31 : 0 ≤ pn_0 ∧ pn_0 ≤ 25) (kz_0_32 : 0 ≤ pm_0 ∧ pm_0 ≤ 80) (kz_0_49 : (-1) ≤ onlyPiece_0 ∧ onlyPiece_0 ≤ 79) (kz_0_125 : 0 ≤ rowMany_0 ∧ rowMany_0 ≤ 100) (ex2 : gx = 0 + (1 * x3 + 0)) (ex3 : (-2) ≤ gx ∧ gx ≤ 26) : GOK (pn_0) (pm_0) (pt_0) (ph_0) := by
  first
    | assumption
    | exact ‹STB _ _ _ _ _›.1.1
set_option maxHeartbeats 4000000 in
theorem vc_Mo_stOrder_15_1 (x1 : Int) (x2 : Int) (x3 : Int) (x4 : Int) (x6 : Int) (x7 : Int) (drawnNode_0 : Int → Int) (pn_0 : Int) (pt_0 : Int → Int) (ph_0 : Int → Int) (pm_0 : Int) (alive_0 : Int → Int) (row_0 : Int → Int) (rowMany_0 : Int) (onlyPiece_0 : Int) (drawnEdge_0 : Int → Int) (pieceOf_0 : Int → Int) (bestWay_0 : Int → Int) (gx : Int) (k1 : 0 ≤ x1 ∧ x1 ≤ 0) (k2 : 0 ≤ x2 ∧ x2 ≤ 24) (k3 : (-2) ≤ x3 ∧ x3 ≤ 26) (k4 : 1 ≤ x4 ∧ x4 ≤ 25) (k6 : 1 ≤ x6 ∧ x6 ≤ 1) (k7 : 0 ≤ x7 ∧ x7 ≤ 0) (d0 : x4 + (-4294967296) ≤ x2 ∧ x2 ≤ x4 + (-1)) (f0 : x6 ≠ 0) (h1 : x6 = drawnNode_0 (x2)) (f3 : x1 = 0) (f4 : x2 < x4) (g5 : x4 = pn_0) (f6 : GOK (pn_0) (pm_0) (pt_0) (ph_0)) (f7 : STB (pn_0) (pm_0) (pt_0) (ph_0) (alive_0)) (f8 : STR (pn_0) (rowMany_0) (pt_0) (ph_0) (row_0)) (f9 : onlyPiece_0 = (-1)) (f10 : (-1) * rowMany_0 + ((-1) * x3 + 0) ≤ (-26)) (f11 : DRR (pn_0) (rowMany_0) (drawnNode_0) (row_0)) (f12 : DEM (pm_0) (pt_0) (ph_0) (drawnNode_0) (drawnEdge_0)) (f13 : UA (pm_0) (alive_0) (drawnEdge_0)) (f14 : (rowMany_0 + 1) ≤ pn_0) (f15 : SA1 (pn_0) (pm_0) (onlyPiece_0) (pt_0) (ph_0) (drawnEdge_0) (pieceOf_0) (drawnNode_0) (bestWay_0) (x1) (x2)) (hK_0_33 : ∀ j : Int, 0 ≤ j → j < 80 → 0 ≤ pt_0 j ∧ pt_0 j ≤ 24) (hK_0_34 : ∀ j : Int, 0 ≤ j → j < 80 → 0 ≤ ph_0 j ∧ ph_0 j ≤ 24) (hK_0_35 : ∀ j : Int, 0 ≤ j → j < 80 → 0 ≤ alive_0 j ∧ alive_0 j ≤ 1) (hK_0_42 : ∀ j : Int, 0 ≤ j → j < 26 → 0 ≤ drawnNode_0 j ∧ drawnNode_0 j ≤ 1) (hK_0_43 : ∀ j : Int, 0 ≤ j → j < 80 → 0 ≤ drawnEdge_0 j ∧ drawnEdge_0 j ≤ 1) (hK_0_44 : ∀ j : Int, 0 ≤ j → j < 80 → (-1) ≤ pieceOf_0 j ∧ pieceOf_0 j ≤ 79) (hK_0_52 : ∀ j : Int, 0 ≤ j → j < 30 → 0 ≤ bestWay_0 j ∧ bestWay_0 j ≤ 24) (hK_0_117 : ∀ j : Int, 0 ≤ j → j < 100 → 0 ≤ row_0 j ∧ row_0 j ≤ 75) (kz_0_31 : 0 ≤ pn_0 ∧ pn_0 ≤ 25) (kz_0_32 : 0 ≤ pm_0 ∧ pm_0 ≤ 80) (kz_0_49 : (-1) ≤ onlyPiece_0 ∧ onlyPiece_0 ≤ 79) (kz_0_125 : 0 ≤ rowMany_0 ∧ rowMany_0 ≤ 100) (ex2 : gx = 0 + (1 * x3 + 0)) (ex3 : (-2) ≤ gx ∧ gx ≤ 26) : STB (pn_0) (pm_0) (pt_0) (ph_0) (alive_0) := by
  first | assumption
set_option maxHeartbeats 4000000 in
theorem vc_Mo_stOrder_15_2 (x1 : Int) (x2 : Int) (x3 : Int) (x4 : Int) (x6 : Int) (x7 : Int) (drawnNode_0 : Int → Int) (pn_0 : Int) (pt_0 : Int → Int) (ph_0 : Int → Int) (pm_0 : Int) (alive_0 : Int → Int) (row_0 : Int → Int) (rowMany_0 : Int) (onlyPiece_0 : Int) (drawnEdge_0 : Int → Int) (pieceOf_0 : Int → Int) (bestWay_0 : Int → Int) (gx : Int) (k1 : 0 ≤ x1 ∧ x1 ≤ 0) (k2 : 0 ≤ x2 ∧ x2 ≤ 24) (k3 : (-2) ≤ x3 ∧ x3 ≤ 26) (k4 : 1 ≤ x4 ∧ x4 ≤ 25) (k6 : 1 ≤ x6 ∧ x6 ≤ 1) (k7 : 0 ≤ x7 ∧ x7 ≤ 0) (d0 : x4 + (-4294967296) ≤ x2 ∧ x2 ≤ x4 + (-1)) (f0 : x6 ≠ 0) (h1 : x6 = drawnNode_0 (x2)) (f3 : x1 = 0) (f4 : x2 < x4) (g5 : x4 = pn_0) (f6 : GOK (pn_0) (pm_0) (pt_0) (ph_0)) (f7 : STB (pn_0) (pm_0) (pt_0) (ph_0) (alive_0)) (f8 : STR (pn_0) (rowMany_0) (pt_0) (ph_0) (row_0)) (f9 : onlyPiece_0 = (-1)) (f10 : (-1) * rowMany_0 + ((-1) * x3 + 0) ≤ (-26)) (f11 : DRR (pn_0) (rowMany_0) (drawnNode_0) (row_0)) (f12 : DEM (pm_0) (pt_0) (ph_0) (drawnNode_0) (drawnEdge_0)) (f13 : UA (pm_0) (alive_0) (drawnEdge_0)) (f14 : (rowMany_0 + 1) ≤ pn_0) (f15 : SA1 (pn_0) (pm_0) (onlyPiece_0) (pt_0) (ph_0) (drawnEdge_0) (pieceOf_0) (drawnNode_0) (bestWay_0) (x1) (x2)) (hK_0_33 : ∀ j : Int, 0 ≤ j → j < 80 → 0 ≤ pt_0 j ∧ pt_0 j ≤ 24) (hK_0_34 : ∀ j : Int, 0 ≤ j → j < 80 → 0 ≤ ph_0 j ∧ ph_0 j ≤ 24) (hK_0_35 : ∀ j : Int, 0 ≤ j → j < 80 → 0 ≤ alive_0 j ∧ alive_0 j ≤ 1) (hK_0_42 : ∀ j : Int, 0 ≤ j → j < 26 → 0 ≤ drawnNode_0 j ∧ drawnNode_0 j ≤ 1) (hK_0_43 : ∀ j : Int, 0 ≤ j → j < 80 → 0 ≤ drawnEdge_0 j ∧ drawnEdge_0 j ≤ 1) (hK_0_44 : ∀ j : Int, 0 ≤ j → j < 80 → (-1) ≤ pieceOf_0 j ∧ pieceOf_0 j ≤ 79) (hK_0_52 : ∀ j : Int, 0 ≤ j → j < 30 → 0 ≤ bestWay_0 j ∧ bestWay_0 j ≤ 24) (hK_0_117 : ∀ j : Int, 0 ≤ j → j < 100 → 0 ≤ row_0 j ∧ row_0 j ≤ 75) (kz_0_31 : 0 ≤ pn_0 ∧ pn_0 ≤ 25) (kz_0_32 : 0 ≤ pm_0 ∧ pm_0 ≤ 80) (kz_0_49 : (-1) ≤ onlyPiece_0 ∧ onlyPiece_0 ≤ 79) (kz_0_125 : 0 ≤ rowMany_0 ∧ rowMany_0 ≤ 100) (ex2 : gx = 0 + (1 * x3 + 0)) (ex3 : (-2) ≤ gx ∧ gx ≤ 26) : STR (pn_0) (rowMany_0) (pt_0) (ph_0) (row_0) := by
  first | assumption
set_option maxHeartbeats 4000000 in
theorem vc_Mo_stOrder_15_3 (x1 : Int) (x2 : Int) (x3 : Int) (x4 : Int) (x6 : Int) (x7 : Int) (drawnNode_0 : Int → Int) (pn_0 : Int) (pt_0 : Int → Int) (ph_0 : Int → Int) (pm_0 : Int) (alive_0 : Int → Int) (row_0 : Int → Int) (rowMany_0 : Int) (onlyPiece_0 : Int) (drawnEdge_0 : Int → Int) (pieceOf_0 : Int → Int) (bestWay_0 : Int → Int) (gx : Int) (k1 : 0 ≤ x1 ∧ x1 ≤ 0) (k2 : 0 ≤ x2 ∧ x2 ≤ 24) (k3 : (-2) ≤ x3 ∧ x3 ≤ 26) (k4 : 1 ≤ x4 ∧ x4 ≤ 25) (k6 : 1 ≤ x6 ∧ x6 ≤ 1) (k7 : 0 ≤ x7 ∧ x7 ≤ 0) (d0 : x4 + (-4294967296) ≤ x2 ∧ x2 ≤ x4 + (-1)) (f0 : x6 ≠ 0) (h1 : x6 = drawnNode_0 (x2)) (f3 : x1 = 0) (f4 : x2 < x4) (g5 : x4 = pn_0) (f6 : GOK (pn_0) (pm_0) (pt_0) (ph_0)) (f7 : STB (pn_0) (pm_0) (pt_0) (ph_0) (alive_0)) (f8 : STR (pn_0) (rowMany_0) (pt_0) (ph_0) (row_0)) (f9 : onlyPiece_0 = (-1)) (f10 : (-1) * rowMany_0 + ((-1) * x3 + 0) ≤ (-26)) (f11 : DRR (pn_0) (rowMany_0) (drawnNode_0) (row_0)) (f12 : DEM (pm_0) (pt_0) (ph_0) (drawnNode_0) (drawnEdge_0)) (f13 : UA (pm_0) (alive_0) (drawnEdge_0)) (f14 : (rowMany_0 + 1) ≤ pn_0) (f15 : SA1 (pn_0) (pm_0) (onlyPiece_0) (pt_0) (ph_0) (drawnEdge_0) (pieceOf_0) (drawnNode_0) (bestWay_0) (x1) (x2)) (hK_0_33 : ∀ j : Int, 0 ≤ j → j < 80 → 0 ≤ pt_0 j ∧ pt_0 j ≤ 24) (hK_0_34 : ∀ j : Int, 0 ≤ j → j < 80 → 0 ≤ ph_0 j ∧ ph_0 j ≤ 24) (hK_0_35 : ∀ j : Int, 0 ≤ j → j < 80 → 0 ≤ alive_0 j ∧ alive_0 j ≤ 1) (hK_0_42 : ∀ j : Int, 0 ≤ j → j < 26 → 0 ≤ drawnNode_0 j ∧ drawnNode_0 j ≤ 1) (hK_0_43 : ∀ j : Int, 0 ≤ j → j < 80 → 0 ≤ drawnEdge_0 j ∧ drawnEdge_0 j ≤ 1) (hK_0_44 : ∀ j : Int, 0 ≤ j → j < 80 → (-1) ≤ pieceOf_0 j ∧ pieceOf_0 j ≤ 79) (hK_0_52 : ∀ j : Int, 0 ≤ j → j < 30 → 0 ≤ bestWay_0 j ∧ bestWay_0 j ≤ 24) (hK_0_117 : ∀ j : Int, 0 ≤ j → j < 100 → 0 ≤ row_0 j ∧ row_0 j ≤ 75) (kz_0_31 : 0 ≤ pn_0 ∧ pn_0 ≤ 25) (kz_0_32 : 0 ≤ pm_0 ∧ pm_0 ≤ 80) (kz_0_49 : (-1) ≤ onlyPiece_0 ∧ onlyPiece_0 ≤ 79) (kz_0_125 : 0 ≤ rowMany_0 ∧ rowMany_0 ≤ 100) (ex2 : gx = 0 + (1 * x3 + 0)) (ex3 : (-2) ≤ gx ∧ gx ≤ 26) : onlyPiece_0 = (-1) := by
  first
    | omega
    | (have h := ‹STB _ _ _ _ _›.1.2.2; omega)
    | (have h := ‹STR _ _ _ _ _›.1; omega)
    | (have h := ‹STR _ _ _ _ _›.1
       have w := ‹STR _ _ _ _ _›.2.1 x1 (by omega) (by omega)
       omega)
    | (have h := bc_len ‹BC1 _ _ _ _ _ _ _›
       have h2 := ‹STR _ _ _ _ _›.1
       omega)
    | (have h := (sb_way ‹SB1 _ _ _ _ _ _ _ _ _ _ _ _› (by omega)).1
       have h2 := ‹STR _ _ _ _ _›.1
       omega)
    | (have h := ‹WYM _ _ _ _›.1
       have h2 := ‹STR _ _ _ _ _›.1
       omega)
set_option maxHeartbeats 4000000 in
theorem vc_Mo_stOrder_15_4 (x1 : Int) (x2 : Int) (x3 : Int) (x4 : Int) (x6 : Int) (x7 : Int) (drawnNode_0 : Int → Int) (pn_0 : Int) (pt_0 : Int → Int) (ph_0 : Int → Int) (pm_0 : Int) (alive_0 : Int → Int) (row_0 : Int → Int) (rowMany_0 : Int) (onlyPiece_0 : Int) (drawnEdge_0 : Int → Int) (pieceOf_0 : Int → Int) (bestWay_0 : Int → Int) (gx : Int) (k1 : 0 ≤ x1 ∧ x1 ≤ 0) (k2 : 0 ≤ x2 ∧ x2 ≤ 24) (k3 : (-2) ≤ x3 ∧ x3 ≤ 26) (k4 : 1 ≤ x4 ∧ x4 ≤ 25) (k6 : 1 ≤ x6 ∧ x6 ≤ 1) (k7 : 0 ≤ x7 ∧ x7 ≤ 0) (d0 : x4 + (-4294967296) ≤ x2 ∧ x2 ≤ x4 + (-1)) (f0 : x6 ≠ 0) (h1 : x6 = drawnNode_0 (x2)) (f3 : x1 = 0) (f4 : x2 < x4) (g5 : x4 = pn_0) (f6 : GOK (pn_0) (pm_0) (pt_0) (ph_0)) (f7 : STB (pn_0) (pm_0) (pt_0) (ph_0) (alive_0)) (f8 : STR (pn_0) (rowMany_0) (pt_0) (ph_0) (row_0)) (f9 : onlyPiece_0 = (-1)) (f10 : (-1) * rowMany_0 + ((-1) * x3 + 0) ≤ (-26)) (f11 : DRR (pn_0) (rowMany_0) (drawnNode_0) (row_0)) (f12 : DEM (pm_0) (pt_0) (ph_0) (drawnNode_0) (drawnEdge_0)) (f13 : UA (pm_0) (alive_0) (drawnEdge_0)) (f14 : (rowMany_0 + 1) ≤ pn_0) (f15 : SA1 (pn_0) (pm_0) (onlyPiece_0) (pt_0) (ph_0) (drawnEdge_0) (pieceOf_0) (drawnNode_0) (bestWay_0) (x1) (x2)) (hK_0_33 : ∀ j : Int, 0 ≤ j → j < 80 → 0 ≤ pt_0 j ∧ pt_0 j ≤ 24) (hK_0_34 : ∀ j : Int, 0 ≤ j → j < 80 → 0 ≤ ph_0 j ∧ ph_0 j ≤ 24) (hK_0_35 : ∀ j : Int, 0 ≤ j → j < 80 → 0 ≤ alive_0 j ∧ alive_0 j ≤ 1) (hK_0_42 : ∀ j : Int, 0 ≤ j → j < 26 → 0 ≤ drawnNode_0 j ∧ drawnNode_0 j ≤ 1) (hK_0_43 : ∀ j : Int, 0 ≤ j → j < 80 → 0 ≤ drawnEdge_0 j ∧ drawnEdge_0 j ≤ 1) (hK_0_44 : ∀ j : Int, 0 ≤ j → j < 80 → (-1) ≤ pieceOf_0 j ∧ pieceOf_0 j ≤ 79) (hK_0_52 : ∀ j : Int, 0 ≤ j → j < 30 → 0 ≤ bestWay_0 j ∧ bestWay_0 j ≤ 24) (hK_0_117 : ∀ j : Int, 0 ≤ j → j < 100 → 0 ≤ row_0 j ∧ row_0 j ≤ 75) (kz_0_31 : 0 ≤ pn_0 ∧ pn_0 ≤ 25) (kz_0_32 : 0 ≤ pm_0 ∧ pm_0 ≤ 80) (kz_0_49 : (-1) ≤ onlyPiece_0 ∧ onlyPiece_0 ≤ 79) (kz_0_125 : 0 ≤ rowMany_0 ∧ rowMany_0 ≤ 100) (ex2 : gx = 0 + (1 * x3 + 0)) (ex3 : (-2) ≤ gx ∧ gx ≤ 26) : (-1) * rowMany_0 + ((-1) * gx + 0) ≤ (-26) := by
  first
    | omega
    | (have h := ‹STB _ _ _ _ _›.1.2.2; omega)
    | (have h := ‹STR _ _ _ _ _›.1; omega)
    | (have h := ‹STR _ _ _ _ _›.1
       have w := ‹STR _ _ _ _ _›.2.1 x1 (by omega) (by omega)
       omega)
    | (have h := bc_len ‹BC1 _ _ _ _ _ _ _›
       have h2 := ‹STR _ _ _ _ _›.1
       omega)
    | (have h := (sb_way ‹SB1 _ _ _ _ _ _ _ _ _ _ _ _› (by omega)).1
       have h2 := ‹STR _ _ _ _ _›.1
       omega)
    | (have h := ‹WYM _ _ _ _›.1
       have h2 := ‹STR _ _ _ _ _›.1
       omega)
set_option maxHeartbeats 4000000 in
theorem vc_Mo_stOrder_15_5 (x1 : Int) (x2 : Int) (x3 : Int) (x4 : Int) (x6 : Int) (x7 : Int) (drawnNode_0 : Int → Int) (pn_0 : Int) (pt_0 : Int → Int) (ph_0 : Int → Int) (pm_0 : Int) (alive_0 : Int → Int) (row_0 : Int → Int) (rowMany_0 : Int) (onlyPiece_0 : Int) (drawnEdge_0 : Int → Int) (pieceOf_0 : Int → Int) (bestWay_0 : Int → Int) (gx : Int) (k1 : 0 ≤ x1 ∧ x1 ≤ 0) (k2 : 0 ≤ x2 ∧ x2 ≤ 24) (k3 : (-2) ≤ x3 ∧ x3 ≤ 26) (k4 : 1 ≤ x4 ∧ x4 ≤ 25) (k6 : 1 ≤ x6 ∧ x6 ≤ 1) (k7 : 0 ≤ x7 ∧ x7 ≤ 0) (d0 : x4 + (-4294967296) ≤ x2 ∧ x2 ≤ x4 + (-1)) (f0 : x6 ≠ 0) (h1 : x6 = drawnNode_0 (x2)) (f3 : x1 = 0) (f4 : x2 < x4) (g5 : x4 = pn_0) (f6 : GOK (pn_0) (pm_0) (pt_0) (ph_0)) (f7 : STB (pn_0) (pm_0) (pt_0) (ph_0) (alive_0)) (f8 : STR (pn_0) (rowMany_0) (pt_0) (ph_0) (row_0)) (f9 : onlyPiece_0 = (-1)) (f10 : (-1) * rowMany_0 + ((-1) * x3 + 0) ≤ (-26)) (f11 : DRR (pn_0) (rowMany_0) (drawnNode_0) (row_0)) (f12 : DEM (pm_0) (pt_0) (ph_0) (drawnNode_0) (drawnEdge_0)) (f13 : UA (pm_0) (alive_0) (drawnEdge_0)) (f14 : (rowMany_0 + 1) ≤ pn_0) (f15 : SA1 (pn_0) (pm_0) (onlyPiece_0) (pt_0) (ph_0) (drawnEdge_0) (pieceOf_0) (drawnNode_0) (bestWay_0) (x1) (x2)) (hK_0_33 : ∀ j : Int, 0 ≤ j → j < 80 → 0 ≤ pt_0 j ∧ pt_0 j ≤ 24) (hK_0_34 : ∀ j : Int, 0 ≤ j → j < 80 → 0 ≤ ph_0 j ∧ ph_0 j ≤ 24) (hK_0_35 : ∀ j : Int, 0 ≤ j → j < 80 → 0 ≤ alive_0 j ∧ alive_0 j ≤ 1) (hK_0_42 : ∀ j : Int, 0 ≤ j → j < 26 → 0 ≤ drawnNode_0 j ∧ drawnNode_0 j ≤ 1) (hK_0_43 : ∀ j : Int, 0 ≤ j → j < 80 → 0 ≤ drawnEdge_0 j ∧ drawnEdge_0 j ≤ 1) (hK_0_44 : ∀ j : Int, 0 ≤ j → j < 80 → (-1) ≤ pieceOf_0 j ∧ pieceOf_0 j ≤ 79) (hK_0_52 : ∀ j : Int, 0 ≤ j → j < 30 → 0 ≤ bestWay_0 j ∧ bestWay_0 j ≤ 24) (hK_0_117 : ∀ j : Int, 0 ≤ j → j < 100 → 0 ≤ row_0 j ∧ row_0 j ≤ 75) (kz_0_31 : 0 ≤ pn_0 ∧ pn_0 ≤ 25) (kz_0_32 : 0 ≤ pm_0 ∧ pm_0 ≤ 80) (kz_0_49 : (-1) ≤ onlyPiece_0 ∧ onlyPiece_0 ≤ 79) (kz_0_125 : 0 ≤ rowMany_0 ∧ rowMany_0 ≤ 100) (ex2 : gx = 0 + (1 * x3 + 0)) (ex3 : (-2) ≤ gx ∧ gx ≤ 26) : DRR (pn_0) (rowMany_0) (drawnNode_0) (row_0) := by
  first | assumption
set_option maxHeartbeats 4000000 in
theorem vc_Mo_stOrder_15_6 (x1 : Int) (x2 : Int) (x3 : Int) (x4 : Int) (x6 : Int) (x7 : Int) (drawnNode_0 : Int → Int) (pn_0 : Int) (pt_0 : Int → Int) (ph_0 : Int → Int) (pm_0 : Int) (alive_0 : Int → Int) (row_0 : Int → Int) (rowMany_0 : Int) (onlyPiece_0 : Int) (drawnEdge_0 : Int → Int) (pieceOf_0 : Int → Int) (bestWay_0 : Int → Int) (gx : Int) (k1 : 0 ≤ x1 ∧ x1 ≤ 0) (k2 : 0 ≤ x2 ∧ x2 ≤ 24) (k3 : (-2) ≤ x3 ∧ x3 ≤ 26) (k4 : 1 ≤ x4 ∧ x4 ≤ 25) (k6 : 1 ≤ x6 ∧ x6 ≤ 1) (k7 : 0 ≤ x7 ∧ x7 ≤ 0) (d0 : x4 + (-4294967296) ≤ x2 ∧ x2 ≤ x4 + (-1)) (f0 : x6 ≠ 0) (h1 : x6 = drawnNode_0 (x2)) (f3 : x1 = 0) (f4 : x2 < x4) (g5 : x4 = pn_0) (f6 : GOK (pn_0) (pm_0) (pt_0) (ph_0)) (f7 : STB (pn_0) (pm_0) (pt_0) (ph_0) (alive_0)) (f8 : STR (pn_0) (rowMany_0) (pt_0) (ph_0) (row_0)) (f9 : onlyPiece_0 = (-1)) (f10 : (-1) * rowMany_0 + ((-1) * x3 + 0) ≤ (-26)) (f11 : DRR (pn_0) (rowMany_0) (drawnNode_0) (row_0)) (f12 : DEM (pm_0) (pt_0) (ph_0) (drawnNode_0) (drawnEdge_0)) (f13 : UA (pm_0) (alive_0) (drawnEdge_0)) (f14 : (rowMany_0 + 1) ≤ pn_0) (f15 : SA1 (pn_0) (pm_0) (onlyPiece_0) (pt_0) (ph_0) (drawnEdge_0) (pieceOf_0) (drawnNode_0) (bestWay_0) (x1) (x2)) (hK_0_33 : ∀ j : Int, 0 ≤ j → j < 80 → 0 ≤ pt_0 j ∧ pt_0 j ≤ 24) (hK_0_34 : ∀ j : Int, 0 ≤ j → j < 80 → 0 ≤ ph_0 j ∧ ph_0 j ≤ 24) (hK_0_35 : ∀ j : Int, 0 ≤ j → j < 80 → 0 ≤ alive_0 j ∧ alive_0 j ≤ 1) (hK_0_42 : ∀ j : Int, 0 ≤ j → j < 26 → 0 ≤ drawnNode_0 j ∧ drawnNode_0 j ≤ 1) (hK_0_43 : ∀ j : Int, 0 ≤ j → j < 80 → 0 ≤ drawnEdge_0 j ∧ drawnEdge_0 j ≤ 1) (hK_0_44 : ∀ j : Int, 0 ≤ j → j < 80 → (-1) ≤ pieceOf_0 j ∧ pieceOf_0 j ≤ 79) (hK_0_52 : ∀ j : Int, 0 ≤ j → j < 30 → 0 ≤ bestWay_0 j ∧ bestWay_0 j ≤ 24) (hK_0_117 : ∀ j : Int, 0 ≤ j → j < 100 → 0 ≤ row_0 j ∧ row_0 j ≤ 75) (kz_0_31 : 0 ≤ pn_0 ∧ pn_0 ≤ 25) (kz_0_32 : 0 ≤ pm_0 ∧ pm_0 ≤ 80) (kz_0_49 : (-1) ≤ onlyPiece_0 ∧ onlyPiece_0 ≤ 79) (kz_0_125 : 0 ≤ rowMany_0 ∧ rowMany_0 ≤ 100) (ex2 : gx = 0 + (1 * x3 + 0)) (ex3 : (-2) ≤ gx ∧ gx ≤ 26) : DEM (pm_0) (pt_0) (ph_0) (drawnNode_0) (drawnEdge_0) := by
  first | assumption
set_option maxHeartbeats 4000000 in
theorem vc_Mo_stOrder_15_7 (x1 : Int) (x2 : Int) (x3 : Int) (x4 : Int) (x6 : Int) (x7 : Int) (drawnNode_0 : Int → Int) (pn_0 : Int) (pt_0 : Int → Int) (ph_0 : Int → Int) (pm_0 : Int) (alive_0 : Int → Int) (row_0 : Int → Int) (rowMany_0 : Int) (onlyPiece_0 : Int) (drawnEdge_0 : Int → Int) (pieceOf_0 : Int → Int) (bestWay_0 : Int → Int) (gx : Int) (k1 : 0 ≤ x1 ∧ x1 ≤ 0) (k2 : 0 ≤ x2 ∧ x2 ≤ 24) (k3 : (-2) ≤ x3 ∧ x3 ≤ 26) (k4 : 1 ≤ x4 ∧ x4 ≤ 25) (k6 : 1 ≤ x6 ∧ x6 ≤ 1) (k7 : 0 ≤ x7 ∧ x7 ≤ 0) (d0 : x4 + (-4294967296) ≤ x2 ∧ x2 ≤ x4 + (-1)) (f0 : x6 ≠ 0) (h1 : x6 = drawnNode_0 (x2)) (f3 : x1 = 0) (f4 : x2 < x4) (g5 : x4 = pn_0) (f6 : GOK (pn_0) (pm_0) (pt_0) (ph_0)) (f7 : STB (pn_0) (pm_0) (pt_0) (ph_0) (alive_0)) (f8 : STR (pn_0) (rowMany_0) (pt_0) (ph_0) (row_0)) (f9 : onlyPiece_0 = (-1)) (f10 : (-1) * rowMany_0 + ((-1) * x3 + 0) ≤ (-26)) (f11 : DRR (pn_0) (rowMany_0) (drawnNode_0) (row_0)) (f12 : DEM (pm_0) (pt_0) (ph_0) (drawnNode_0) (drawnEdge_0)) (f13 : UA (pm_0) (alive_0) (drawnEdge_0)) (f14 : (rowMany_0 + 1) ≤ pn_0) (f15 : SA1 (pn_0) (pm_0) (onlyPiece_0) (pt_0) (ph_0) (drawnEdge_0) (pieceOf_0) (drawnNode_0) (bestWay_0) (x1) (x2)) (hK_0_33 : ∀ j : Int, 0 ≤ j → j < 80 → 0 ≤ pt_0 j ∧ pt_0 j ≤ 24) (hK_0_34 : ∀ j : Int, 0 ≤ j → j < 80 → 0 ≤ ph_0 j ∧ ph_0 j ≤ 24) (hK_0_35 : ∀ j : Int, 0 ≤ j → j < 80 → 0 ≤ alive_0 j ∧ alive_0 j ≤ 1) (hK_0_42 : ∀ j : Int, 0 ≤ j → j < 26 → 0 ≤ drawnNode_0 j ∧ drawnNode_0 j ≤ 1) (hK_0_43 : ∀ j : Int, 0 ≤ j → j < 80 → 0 ≤ drawnEdge_0 j ∧ drawnEdge_0 j ≤ 1) (hK_0_44 : ∀ j : Int, 0 ≤ j → j < 80 → (-1) ≤ pieceOf_0 j ∧ pieceOf_0 j ≤ 79) (hK_0_52 : ∀ j : Int, 0 ≤ j → j < 30 → 0 ≤ bestWay_0 j ∧ bestWay_0 j ≤ 24) (hK_0_117 : ∀ j : Int, 0 ≤ j → j < 100 → 0 ≤ row_0 j ∧ row_0 j ≤ 75) (kz_0_31 : 0 ≤ pn_0 ∧ pn_0 ≤ 25) (kz_0_32 : 0 ≤ pm_0 ∧ pm_0 ≤ 80) (kz_0_49 : (-1) ≤ onlyPiece_0 ∧ onlyPiece_0 ≤ 79) (kz_0_125 : 0 ≤ rowMany_0 ∧ rowMany_0 ≤ 100) (ex2 : gx = 0 + (1 * x3 + 0)) (ex3 : (-2) ≤ gx ∧ gx ≤ 26) : UA (pm_0) (alive_0) (drawnEdge_0) := by
  first | assumption
set_option maxHeartbeats 4000000 in
theorem vc_Mo_stOrder_15_8 (x1 : Int) (x2 : Int) (x3 : Int) (x4 : Int) (x6 : Int) (x7 : Int) (drawnNode_0 : Int → Int) (pn_0 : Int) (pt_0 : Int → Int) (ph_0 : Int → Int) (pm_0 : Int) (alive_0 : Int → Int) (row_0 : Int → Int) (rowMany_0 : Int) (onlyPiece_0 : Int) (drawnEdge_0 : Int → Int) (pieceOf_0 : Int → Int) (bestWay_0 : Int → Int) (gx : Int) (k1 : 0 ≤ x1 ∧ x1 ≤ 0) (k2 : 0 ≤ x2 ∧ x2 ≤ 24) (k3 : (-2) ≤ x3 ∧ x3 ≤ 26) (k4 : 1 ≤ x4 ∧ x4 ≤ 25) (k6 : 1 ≤ x6 ∧ x6 ≤ 1) (k7 : 0 ≤ x7 ∧ x7 ≤ 0) (d0 : x4 + (-4294967296) ≤ x2 ∧ x2 ≤ x4 + (-1)) (f0 : x6 ≠ 0) (h1 : x6 = drawnNode_0 (x2)) (f3 : x1 = 0) (f4 : x2 < x4) (g5 : x4 = pn_0) (f6 : GOK (pn_0) (pm_0) (pt_0) (ph_0)) (f7 : STB (pn_0) (pm_0) (pt_0) (ph_0) (alive_0)) (f8 : STR (pn_0) (rowMany_0) (pt_0) (ph_0) (row_0)) (f9 : onlyPiece_0 = (-1)) (f10 : (-1) * rowMany_0 + ((-1) * x3 + 0) ≤ (-26)) (f11 : DRR (pn_0) (rowMany_0) (drawnNode_0) (row_0)) (f12 : DEM (pm_0) (pt_0) (ph_0) (drawnNode_0) (drawnEdge_0)) (f13 : UA (pm_0) (alive_0) (drawnEdge_0)) (f14 : (rowMany_0 + 1) ≤ pn_0) (f15 : SA1 (pn_0) (pm_0) (onlyPiece_0) (pt_0) (ph_0) (drawnEdge_0) (pieceOf_0) (drawnNode_0) (bestWay_0) (x1) (x2)) (hK_0_33 : ∀ j : Int, 0 ≤ j → j < 80 → 0 ≤ pt_0 j ∧ pt_0 j ≤ 24) (hK_0_34 : ∀ j : Int, 0 ≤ j → j < 80 → 0 ≤ ph_0 j ∧ ph_0 j ≤ 24) (hK_0_35 : ∀ j : Int, 0 ≤ j → j < 80 → 0 ≤ alive_0 j ∧ alive_0 j ≤ 1) (hK_0_42 : ∀ j : Int, 0 ≤ j → j < 26 → 0 ≤ drawnNode_0 j ∧ drawnNode_0 j ≤ 1) (hK_0_43 : ∀ j : Int, 0 ≤ j → j < 80 → 0 ≤ drawnEdge_0 j ∧ drawnEdge_0 j ≤ 1) (hK_0_44 : ∀ j : Int, 0 ≤ j → j < 80 → (-1) ≤ pieceOf_0 j ∧ pieceOf_0 j ≤ 79) (hK_0_52 : ∀ j : Int, 0 ≤ j → j < 30 → 0 ≤ bestWay_0 j ∧ bestWay_0 j ≤ 24) (hK_0_117 : ∀ j : Int, 0 ≤ j → j < 100 → 0 ≤ row_0 j ∧ row_0 j ≤ 75) (kz_0_31 : 0 ≤ pn_0 ∧ pn_0 ≤ 25) (kz_0_32 : 0 ≤ pm_0 ∧ pm_0 ≤ 80) (kz_0_49 : (-1) ≤ onlyPiece_0 ∧ onlyPiece_0 ≤ 79) (kz_0_125 : 0 ≤ rowMany_0 ∧ rowMany_0 ≤ 100) (ex2 : gx = 0 + (1 * x3 + 0)) (ex3 : (-2) ≤ gx ∧ gx ≤ 26) : (rowMany_0 + 1) ≤ pn_0 := by
  first
    | omega
    | (have h := ‹STB _ _ _ _ _›.1.2.2; omega)
    | (have h := ‹STR _ _ _ _ _›.1; omega)
    | (have h := ‹STR _ _ _ _ _›.1
       have w := ‹STR _ _ _ _ _›.2.1 x1 (by omega) (by omega)
       omega)
    | (have h := bc_len ‹BC1 _ _ _ _ _ _ _›
       have h2 := ‹STR _ _ _ _ _›.1
       omega)
    | (have h := (sb_way ‹SB1 _ _ _ _ _ _ _ _ _ _ _ _› (by omega)).1
       have h2 := ‹STR _ _ _ _ _›.1
       omega)
    | (have h := ‹WYM _ _ _ _›.1
       have h2 := ‹STR _ _ _ _ _›.1
       omega)
set_option maxHeartbeats 4000000 in
theorem vc_Mo_stOrder_15_9 (x1 : Int) (x2 : Int) (x3 : Int) (x4 : Int) (x6 : Int) (x7 : Int) (drawnNode_0 : Int → Int) (pn_0 : Int) (pt_0 : Int → Int) (ph_0 : Int → Int) (pm_0 : Int) (alive_0 : Int → Int) (row_0 : Int → Int) (rowMany_0 : Int) (onlyPiece_0 : Int) (drawnEdge_0 : Int → Int) (pieceOf_0 : Int → Int) (bestWay_0 : Int → Int) (gx : Int) (k1 : 0 ≤ x1 ∧ x1 ≤ 0) (k2 : 0 ≤ x2 ∧ x2 ≤ 24) (k3 : (-2) ≤ x3 ∧ x3 ≤ 26) (k4 : 1 ≤ x4 ∧ x4 ≤ 25) (k6 : 1 ≤ x6 ∧ x6 ≤ 1) (k7 : 0 ≤ x7 ∧ x7 ≤ 0) (d0 : x4 + (-4294967296) ≤ x2 ∧ x2 ≤ x4 + (-1)) (f0 : x6 ≠ 0) (h1 : x6 = drawnNode_0 (x2)) (f3 : x1 = 0) (f4 : x2 < x4) (g5 : x4 = pn_0) (f6 : GOK (pn_0) (pm_0) (pt_0) (ph_0)) (f7 : STB (pn_0) (pm_0) (pt_0) (ph_0) (alive_0)) (f8 : STR (pn_0) (rowMany_0) (pt_0) (ph_0) (row_0)) (f9 : onlyPiece_0 = (-1)) (f10 : (-1) * rowMany_0 + ((-1) * x3 + 0) ≤ (-26)) (f11 : DRR (pn_0) (rowMany_0) (drawnNode_0) (row_0)) (f12 : DEM (pm_0) (pt_0) (ph_0) (drawnNode_0) (drawnEdge_0)) (f13 : UA (pm_0) (alive_0) (drawnEdge_0)) (f14 : (rowMany_0 + 1) ≤ pn_0) (f15 : SA1 (pn_0) (pm_0) (onlyPiece_0) (pt_0) (ph_0) (drawnEdge_0) (pieceOf_0) (drawnNode_0) (bestWay_0) (x1) (x2)) (hK_0_33 : ∀ j : Int, 0 ≤ j → j < 80 → 0 ≤ pt_0 j ∧ pt_0 j ≤ 24) (hK_0_34 : ∀ j : Int, 0 ≤ j → j < 80 → 0 ≤ ph_0 j ∧ ph_0 j ≤ 24) (hK_0_35 : ∀ j : Int, 0 ≤ j → j < 80 → 0 ≤ alive_0 j ∧ alive_0 j ≤ 1) (hK_0_42 : ∀ j : Int, 0 ≤ j → j < 26 → 0 ≤ drawnNode_0 j ∧ drawnNode_0 j ≤ 1) (hK_0_43 : ∀ j : Int, 0 ≤ j → j < 80 → 0 ≤ drawnEdge_0 j ∧ drawnEdge_0 j ≤ 1) (hK_0_44 : ∀ j : Int, 0 ≤ j → j < 80 → (-1) ≤ pieceOf_0 j ∧ pieceOf_0 j ≤ 79) (hK_0_52 : ∀ j : Int, 0 ≤ j → j < 30 → 0 ≤ bestWay_0 j ∧ bestWay_0 j ≤ 24) (hK_0_117 : ∀ j : Int, 0 ≤ j → j < 100 → 0 ≤ row_0 j ∧ row_0 j ≤ 75) (kz_0_31 : 0 ≤ pn_0 ∧ pn_0 ≤ 25) (kz_0_32 : 0 ≤ pm_0 ∧ pm_0 ≤ 80) (kz_0_49 : (-1) ≤ onlyPiece_0 ∧ onlyPiece_0 ≤ 79) (kz_0_125 : 0 ≤ rowMany_0 ∧ rowMany_0 ≤ 100) (ex2 : gx = 0 + (1 * x3 + 0)) (ex3 : (-2) ≤ gx ∧ gx ≤ 26) : SB1 (pn_0) (pm_0) (onlyPiece_0) (pt_0) (ph_0) (drawnEdge_0) (pieceOf_0) (drawnNode_0) (bestWay_0) (x1) (x2) (x7) := by
  first
    | exact sb_0 ‹SA1 _ _ _ _ _ _ _ _ _ _ _› (by omega)
    | exact sb_skip ‹SB1 _ _ _ _ _ _ _ _ _ _ _ _› (by omega) (Or.inl (by omega))
    | exact sb_skip ‹SB1 _ _ _ _ _ _ _ _ _ _ _ _› (by omega) (Or.inr (by omega))
    | exact sb_now ‹SB1 _ _ _ _ _ _ _ _ _ _ _ _› (by omega) ‹SHP _ _ _ _ _ _ _ _ _ _ _ _ _ _› (by omega) (by omega)
    | exact sb_any ‹SB1 _ _ _ _ _ _ _ _ _ _ _ _› (by omega)
    | exact Or.inr (bc_way ‹BC1 _ _ _ _ _ _ _› (by omega))
set_option maxHeartbeats 4000000 in
theorem vc_Mo_stOrder_15_10 (x1 : Int) (x2 : Int) (x3 : Int) (x4 : Int) (x6 : Int) (x7 : Int) (drawnNode_0 : Int → Int) (pn_0 : Int) (pt_0 : Int → Int) (ph_0 : Int → Int) (pm_0 : Int) (alive_0 : Int → Int) (row_0 : Int → Int) (rowMany_0 : Int) (onlyPiece_0 : Int) (drawnEdge_0 : Int → Int) (pieceOf_0 : Int → Int) (bestWay_0 : Int → Int) (gx : Int) (k1 : 0 ≤ x1 ∧ x1 ≤ 0) (k2 : 0 ≤ x2 ∧ x2 ≤ 24) (k3 : (-2) ≤ x3 ∧ x3 ≤ 26) (k4 : 1 ≤ x4 ∧ x4 ≤ 25) (k6 : 1 ≤ x6 ∧ x6 ≤ 1) (k7 : 0 ≤ x7 ∧ x7 ≤ 0) (d0 : x4 + (-4294967296) ≤ x2 ∧ x2 ≤ x4 + (-1)) (f0 : x6 ≠ 0) (h1 : x6 = drawnNode_0 (x2)) (f3 : x1 = 0) (f4 : x2 < x4) (g5 : x4 = pn_0) (f6 : GOK (pn_0) (pm_0) (pt_0) (ph_0)) (f7 : STB (pn_0) (pm_0) (pt_0) (ph_0) (alive_0)) (f8 : STR (pn_0) (rowMany_0) (pt_0) (ph_0) (row_0)) (f9 : onlyPiece_0 = (-1)) (f10 : (-1) * rowMany_0 + ((-1) * x3 + 0) ≤ (-26)) (f11 : DRR (pn_0) (rowMany_0) (drawnNode_0) (row_0)) (f12 : DEM (pm_0) (pt_0) (ph_0) (drawnNode_0) (drawnEdge_0)) (f13 : UA (pm_0) (alive_0) (drawnEdge_0)) (f14 : (rowMany_0 + 1) ≤ pn_0) (f15 : SA1 (pn_0) (pm_0) (onlyPiece_0) (pt_0) (ph_0) (drawnEdge_0) (pieceOf_0) (drawnNode_0) (bestWay_0) (x1) (x2)) (hK_0_33 : ∀ j : Int, 0 ≤ j → j < 80 → 0 ≤ pt_0 j ∧ pt_0 j ≤ 24) (hK_0_34 : ∀ j : Int, 0 ≤ j → j < 80 → 0 ≤ ph_0 j ∧ ph_0 j ≤ 24) (hK_0_35 : ∀ j : Int, 0 ≤ j → j < 80 → 0 ≤ alive_0 j ∧ alive_0 j ≤ 1) (hK_0_42 : ∀ j : Int, 0 ≤ j → j < 26 → 0 ≤ drawnNode_0 j ∧ drawnNode_0 j ≤ 1) (hK_0_43 : ∀ j : Int, 0 ≤ j → j < 80 → 0 ≤ drawnEdge_0 j ∧ drawnEdge_0 j ≤ 1) (hK_0_44 : ∀ j : Int, 0 ≤ j → j < 80 → (-1) ≤ pieceOf_0 j ∧ pieceOf_0 j ≤ 79) (hK_0_52 : ∀ j : Int, 0 ≤ j → j < 30 → 0 ≤ bestWay_0 j ∧ bestWay_0 j ≤ 24) (hK_0_117 : ∀ j : Int, 0 ≤ j → j < 100 → 0 ≤ row_0 j ∧ row_0 j ≤ 75) (kz_0_31 : 0 ≤ pn_0 ∧ pn_0 ≤ 25) (kz_0_32 : 0 ≤ pm_0 ∧ pm_0 ≤ 80) (kz_0_49 : (-1) ≤ onlyPiece_0 ∧ onlyPiece_0 ≤ 79) (kz_0_125 : 0 ≤ rowMany_0 ∧ rowMany_0 ≤ 100) (ex2 : gx = 0 + (1 * x3 + 0)) (ex3 : (-2) ≤ gx ∧ gx ≤ 26) : 1 * x2 + ((-1) * pn_0 + 0) ≤ (-1) := by
  first
    | omega
    | (have h := ‹STB _ _ _ _ _›.1.2.2; omega)
    | (have h := ‹STR _ _ _ _ _›.1; omega)
    | (have h := ‹STR _ _ _ _ _›.1
       have w := ‹STR _ _ _ _ _›.2.1 x1 (by omega) (by omega)
       omega)
    | (have h := bc_len ‹BC1 _ _ _ _ _ _ _›
       have h2 := ‹STR _ _ _ _ _›.1
       omega)
    | (have h := (sb_way ‹SB1 _ _ _ _ _ _ _ _ _ _ _ _› (by omega)).1
       have h2 := ‹STR _ _ _ _ _›.1
       omega)
    | (have h := ‹WYM _ _ _ _›.1
       have h2 := ‹STR _ _ _ _ _›.1
       omega)
set_option maxHeartbeats 4000000 in
theorem vc_Mo_stOrder_15_11 (x1 : Int) (x2 : Int) (x3 : Int) (x4 : Int) (x6 : Int) (x7 : Int) (drawnNode_0 : Int → Int) (pn_0 : Int) (pt_0 : Int → Int) (ph_0 : Int → Int) (pm_0 : Int) (alive_0 : Int → Int) (row_0 : Int → Int) (rowMany_0 : Int) (onlyPiece_0 : Int) (drawnEdge_0 : Int → Int) (pieceOf_0 : Int → Int) (bestWay_0 : Int → Int) (gx : Int) (k1 : 0 ≤ x1 ∧ x1 ≤ 0) (k2 : 0 ≤ x2 ∧ x2 ≤ 24) (k3 : (-2) ≤ x3 ∧ x3 ≤ 26) (k4 : 1 ≤ x4 ∧ x4 ≤ 25) (k6 : 1 ≤ x6 ∧ x6 ≤ 1) (k7 : 0 ≤ x7 ∧ x7 ≤ 0) (d0 : x4 + (-4294967296) ≤ x2 ∧ x2 ≤ x4 + (-1)) (f0 : x6 ≠ 0) (h1 : x6 = drawnNode_0 (x2)) (f3 : x1 = 0) (f4 : x2 < x4) (g5 : x4 = pn_0) (f6 : GOK (pn_0) (pm_0) (pt_0) (ph_0)) (f7 : STB (pn_0) (pm_0) (pt_0) (ph_0) (alive_0)) (f8 : STR (pn_0) (rowMany_0) (pt_0) (ph_0) (row_0)) (f9 : onlyPiece_0 = (-1)) (f10 : (-1) * rowMany_0 + ((-1) * x3 + 0) ≤ (-26)) (f11 : DRR (pn_0) (rowMany_0) (drawnNode_0) (row_0)) (f12 : DEM (pm_0) (pt_0) (ph_0) (drawnNode_0) (drawnEdge_0)) (f13 : UA (pm_0) (alive_0) (drawnEdge_0)) (f14 : (rowMany_0 + 1) ≤ pn_0) (f15 : SA1 (pn_0) (pm_0) (onlyPiece_0) (pt_0) (ph_0) (drawnEdge_0) (pieceOf_0) (drawnNode_0) (bestWay_0) (x1) (x2)) (hK_0_33 : ∀ j : Int, 0 ≤ j → j < 80 → 0 ≤ pt_0 j ∧ pt_0 j ≤ 24) (hK_0_34 : ∀ j : Int, 0 ≤ j → j < 80 → 0 ≤ ph_0 j ∧ ph_0 j ≤ 24) (hK_0_35 : ∀ j : Int, 0 ≤ j → j < 80 → 0 ≤ alive_0 j ∧ alive_0 j ≤ 1) (hK_0_42 : ∀ j : Int, 0 ≤ j → j < 26 → 0 ≤ drawnNode_0 j ∧ drawnNode_0 j ≤ 1) (hK_0_43 : ∀ j : Int, 0 ≤ j → j < 80 → 0 ≤ drawnEdge_0 j ∧ drawnEdge_0 j ≤ 1) (hK_0_44 : ∀ j : Int, 0 ≤ j → j < 80 → (-1) ≤ pieceOf_0 j ∧ pieceOf_0 j ≤ 79) (hK_0_52 : ∀ j : Int, 0 ≤ j → j < 30 → 0 ≤ bestWay_0 j ∧ bestWay_0 j ≤ 24) (hK_0_117 : ∀ j : Int, 0 ≤ j → j < 100 → 0 ≤ row_0 j ∧ row_0 j ≤ 75) (kz_0_31 : 0 ≤ pn_0 ∧ pn_0 ≤ 25) (kz_0_32 : 0 ≤ pm_0 ∧ pm_0 ≤ 80) (kz_0_49 : (-1) ≤ onlyPiece_0 ∧ onlyPiece_0 ≤ 79) (kz_0_125 : 0 ≤ rowMany_0 ∧ rowMany_0 ≤ 100) (ex2 : gx = 0 + (1 * x3 + 0)) (ex3 : (-2) ≤ gx ∧ gx ≤ 26) : drawnNode_0 (x2) ≠ 0 := by
  first
    | omega
    | (have h := ‹STB _ _ _ _ _›.1.2.2; omega)
    | (have h := ‹STR _ _ _ _ _›.1; omega)
    | (have h := ‹STR _ _ _ _ _›.1
       have w := ‹STR _ _ _ _ _›.2.1 x1 (by omega) (by omega)
       omega)
    | (have h := bc_len ‹BC1 _ _ _ _ _ _ _›
       have h2 := ‹STR _ _ _ _ _›.1
       omega)
    | (have h := (sb_way ‹SB1 _ _ _ _ _ _ _ _ _ _ _ _› (by omega)).1
       have h2 := ‹STR _ _ _ _ _›.1
       omega)
    | (have h := ‹WYM _ _ _ _›.1
       have h2 := ‹STR _ _ _ _ _›.1
       omega)
def o_Mo_stOrder_15 : or_T := (181, 8, [(0, (2, 0, 0, [165])), (1, (0, 0, 0, [])), (2, (0, 0, 24, [])), (3, (0, -2, 26, [])), (4, (0, 1, 25, [])), (5, (2, 0, 0, [188])), (6, (0, 1, 1, [])), (7, (0, 0, 0, []))], [(8, [6], [1]), (10, [6, 5, 2], []), (9, [5, 0], [42]), (8, [1], [0]), (7, [2, 4], [2]), (9, [4, 0], [31]), (20, [0], [60, 2, 2, 75, 31, 32, 33, 34]), (20, [0], [60, 2, 3, 297, 31, 32, 33, 34, 35]), (20, [0], [60, 2, 3, 298, 31, 125, 33, 34, 117]), (20, [0], [50, 1, 0, 49, 1, 3, 2, 0, 49, 0, -1]), (20, [0, 3], [30, -26, -1, 1, 125, -1, 0, 0]), (20, [0], [60, 2, 2, 301, 31, 125, 42, 117]), (20, [0], [60, 1, 4, 303, 32, 33, 34, 42, 43]), (20, [0], [60, 1, 2, 122, 32, 35, 43]), (20, [0], [50, 2, 0, 125, 31, 0, 7, 4, 3, 2, 0, 125, 0, 1, 2, 0, 31]), (20, [0, 1, 2], [60, 3, 6, 305, 31, 32, 49, 33, 34, 43, 44, 42, 52])], [], [(0, -2, 26, [])], [(20, [0], [60, 2, 2, 75, 31, 32, 33, 34]), (20, [0], [60, 2, 3, 297, 31, 32, 33, 34, 35]), (20, [0], [60, 2, 3, 298, 31, 125, 33, 34, 117]), (20, [0], [50, 1, 0, 49, 1, 3, 2, 0, 49, 0, -1]), (20, [0, 8], [30, -26, -1, 1, 125, -1, 0, 0]), (20, [0], [60, 2, 2, 301, 31, 125, 42, 117]), (20, [0], [60, 1, 4, 303, 32, 33, 34, 42, 43]), (20, [0], [60, 1, 2, 122, 32, 35, 43]), (20, [0], [50, 2, 0, 125, 31, 0, 7, 4, 3, 2, 0, 125, 0, 1, 2, 0, 31]), (20, [0, 1, 2, 7], [60, 3, 6, 306, 31, 32, 49, 33, 34, 43, 44, 42, 52]), (20, [2, 0], [30, -1, 1, 0, 0, -1, 1, 31]), (20, [0, 2], [50, 0, 1, 42, 7, 5, 3, 0, 42, 1, 1, 0, 0])], [(8, 3, 0, 0)], [(2, 4, -4294967296, -1)])
theorem oo_Mo_stOrder_15 {kA : Nat → ClassId} : or_ok PRD kA GG o_Mo_stOrder_15 := by
  refine or_mk fun A ta ws vs hD hth hl => ?_
  intro t0 r0 t1 k1 t2 k2 t3 k3 t4 k4 t5 r5 t6 k6 t7 k7 d0 f0 f1 f2 f3 f4 f5 f6 f7 f8 f9 f10 f11 f12 f13 f14 f15
  replace f0 := shm_142 f0
  replace f1 := shm_107 f1
  replace f2 := shm_531 f2
  replace f3 := shm_192 f3
  replace f4 := shm_6 f4
  replace f5 := shm_577 f5
  replace f6 := shm_575 f6
  replace f7 := shm_1749 f7
  replace f8 := shm_1001 f8
  replace f9 := shm_1675 f9
  replace f10 := shm_1750 f10
  replace f11 := shm_1755 f11
  replace f12 := shm_1757 f12
  replace f13 := shm_1455 f13
  replace f14 := shm_1752 f14
  replace f15 := shm_1758 f15
  have cr_0_33 := fdq_117 hD hth r0
  have cr_0_34 := fdq_118 hD hth r0
  have cr_0_35 := fdq_132 hD hth r0
  have cr_0_42 := fdq_136 hD hth r0
  have cr_0_43 := fdq_137 hD hth r0
  have cr_0_44 := fdq_138 hD hth r0
  have cr_0_52 := fdq_236 hD hth r0
  have cr_0_117 := fdq_181 hD hth r0
  have ad_5 : v_ad (n_v vs 5) = w_ar ws (n_v vs 0) 42 := congrArg v_ad f2
  simp only [ad_5] at f1
  have h1 : v_iv (n_v vs 6) = w_ei ws (w_ar ws (n_v vs 0) 42) (v_iv (n_v vs 2)) := f1
  have g5 : v_iv (n_v vs 4) = w_fi ws (n_v vs 0) 31 := congrArg v_iv f5
  have hK_0_33 := elq_60 hD hth cr_0_33
  have hK_0_34 := elq_61 hD hth cr_0_34
  have hK_0_35 := elq_72 hD hth cr_0_35
  have hK_0_42 := elq_75 hD hth cr_0_42
  have hK_0_43 := elq_76 hD hth cr_0_43
  have hK_0_44 := elq_77 hD hth cr_0_44
  have hK_0_52 := elq_147 hD hth cr_0_52
  have hK_0_117 := elq_108 hD hth cr_0_117
  have kz_0_31 := fdq_145 hD hth r0
  have kz_0_32 := fdq_140 hD hth r0
  have kz_0_49 := fdq_146 hD hth r0
  have kz_0_125 := fdq_182 hD hth r0
  obtain ⟨x, ex, hx⟩ := iv_ex (ta := ta) (lo := (-2)) (hi := 26) (z := 0 + (1 * v_iv (n_v vs 3) + 0)) (by omega) (by omega) (by omega) (by omega)
  have ex2 : v_iv (Value.int x) = 0 + (1 * v_iv (n_v vs 3) + 0) := ex
  have ex3 : (-2) ≤ v_iv (Value.int x) ∧ v_iv (Value.int x) ≤ 26 := tv_rng hx
  have e_0 : n_v (vs ++ [Value.int x]) 0 = n_v vs 0 := n_v_old (by rw [hl]; decide)
  have e_1 : n_v (vs ++ [Value.int x]) 1 = n_v vs 1 := n_v_old (by rw [hl]; decide)
  have e_2 : n_v (vs ++ [Value.int x]) 2 = n_v vs 2 := n_v_old (by rw [hl]; decide)
  have e_7 : n_v (vs ++ [Value.int x]) 7 = n_v vs 7 := n_v_old (by rw [hl]; decide)
  have e_8 : n_v (vs ++ [Value.int x]) 8 = Value.int x := n_v_new hl
  have nf0 : fc_1 PRD (20, [0], [60, 2, 2, 75, 31, 32, 33, 34]) ws (vs ++ [Value.int x]) := by
    refine ⟨nf_inA hl rfl, sgq_575 ?_⟩
    · show GOK (w_fi ws (n_v (vs ++ [Value.int x]) 0) 31) (w_fi ws (n_v (vs ++ [Value.int x]) 0) 32) (w_ei ws (w_ar ws (n_v (vs ++ [Value.int x]) 0) 33)) (w_ei ws (w_ar ws (n_v (vs ++ [Value.int x]) 0) 34))
      rw [e_0]
      exact vc_Mo_stOrder_15_0 (v_iv (n_v vs 1)) (v_iv (n_v vs 2)) (v_iv (n_v vs 3)) (v_iv (n_v vs 4)) (v_iv (n_v vs 6)) (v_iv (n_v vs 7)) (w_ei ws (w_ar ws (n_v vs 0) 42)) (w_fi ws (n_v vs 0) 31) (w_ei ws (w_ar ws (n_v vs 0) 33)) (w_ei ws (w_ar ws (n_v vs 0) 34)) (w_fi ws (n_v vs 0) 32) (w_ei ws (w_ar ws (n_v vs 0) 35)) (w_ei ws (w_ar ws (n_v vs 0) 117)) (w_fi ws (n_v vs 0) 125) (w_fi ws (n_v vs 0) 49) (w_ei ws (w_ar ws (n_v vs 0) 43)) (w_ei ws (w_ar ws (n_v vs 0) 44)) (w_ei ws (w_ar ws (n_v vs 0) 52)) (v_iv (Value.int x)) k1 k2 k3 k4 k6 k7 d0 f0 h1 f3 f4 g5 f6 f7 f8 f9 f10 f11 f12 f13 f14 f15 hK_0_33 hK_0_34 hK_0_35 hK_0_42 hK_0_43 hK_0_44 hK_0_52 hK_0_117 kz_0_31 kz_0_32 kz_0_49 kz_0_125 ex2 ex3
  have nf1 : fc_1 PRD (20, [0], [60, 2, 3, 297, 31, 32, 33, 34, 35]) ws (vs ++ [Value.int x]) := by
    refine ⟨nf_inA hl rfl, sgq_1749 ?_⟩
    · show STB (w_fi ws (n_v (vs ++ [Value.int x]) 0) 31) (w_fi ws (n_v (vs ++ [Value.int x]) 0) 32) (w_ei ws (w_ar ws (n_v (vs ++ [Value.int x]) 0) 33)) (w_ei ws (w_ar ws (n_v (vs ++ [Value.int x]) 0) 34)) (w_ei ws (w_ar ws (n_v (vs ++ [Value.int x]) 0) 35))
      rw [e_0]
      exact vc_Mo_stOrder_15_1 (v_iv (n_v vs 1)) (v_iv (n_v vs 2)) (v_iv (n_v vs 3)) (v_iv (n_v vs 4)) (v_iv (n_v vs 6)) (v_iv (n_v vs 7)) (w_ei ws (w_ar ws (n_v vs 0) 42)) (w_fi ws (n_v vs 0) 31) (w_ei ws (w_ar ws (n_v vs 0) 33)) (w_ei ws (w_ar ws (n_v vs 0) 34)) (w_fi ws (n_v vs 0) 32) (w_ei ws (w_ar ws (n_v vs 0) 35)) (w_ei ws (w_ar ws (n_v vs 0) 117)) (w_fi ws (n_v vs 0) 125) (w_fi ws (n_v vs 0) 49) (w_ei ws (w_ar ws (n_v vs 0) 43)) (w_ei ws (w_ar ws (n_v vs 0) 44)) (w_ei ws (w_ar ws (n_v vs 0) 52)) (v_iv (Value.int x)) k1 k2 k3 k4 k6 k7 d0 f0 h1 f3 f4 g5 f6 f7 f8 f9 f10 f11 f12 f13 f14 f15 hK_0_33 hK_0_34 hK_0_35 hK_0_42 hK_0_43 hK_0_44 hK_0_52 hK_0_117 kz_0_31 kz_0_32 kz_0_49 kz_0_125 ex2 ex3
  have nf2 : fc_1 PRD (20, [0], [60, 2, 3, 298, 31, 125, 33, 34, 117]) ws (vs ++ [Value.int x]) := by
    refine ⟨nf_inA hl rfl, sgq_1001 ?_⟩
    · show STR (w_fi ws (n_v (vs ++ [Value.int x]) 0) 31) (w_fi ws (n_v (vs ++ [Value.int x]) 0) 125) (w_ei ws (w_ar ws (n_v (vs ++ [Value.int x]) 0) 33)) (w_ei ws (w_ar ws (n_v (vs ++ [Value.int x]) 0) 34)) (w_ei ws (w_ar ws (n_v (vs ++ [Value.int x]) 0) 117))
      rw [e_0]
      exact vc_Mo_stOrder_15_2 (v_iv (n_v vs 1)) (v_iv (n_v vs 2)) (v_iv (n_v vs 3)) (v_iv (n_v vs 4)) (v_iv (n_v vs 6)) (v_iv (n_v vs 7)) (w_ei ws (w_ar ws (n_v vs 0) 42)) (w_fi ws (n_v vs 0) 31) (w_ei ws (w_ar ws (n_v vs 0) 33)) (w_ei ws (w_ar ws (n_v vs 0) 34)) (w_fi ws (n_v vs 0) 32) (w_ei ws (w_ar ws (n_v vs 0) 35)) (w_ei ws (w_ar ws (n_v vs 0) 117)) (w_fi ws (n_v vs 0) 125) (w_fi ws (n_v vs 0) 49) (w_ei ws (w_ar ws (n_v vs 0) 43)) (w_ei ws (w_ar ws (n_v vs 0) 44)) (w_ei ws (w_ar ws (n_v vs 0) 52)) (v_iv (Value.int x)) k1 k2 k3 k4 k6 k7 d0 f0 h1 f3 f4 g5 f6 f7 f8 f9 f10 f11 f12 f13 f14 f15 hK_0_33 hK_0_34 hK_0_35 hK_0_42 hK_0_43 hK_0_44 hK_0_52 hK_0_117 kz_0_31 kz_0_32 kz_0_49 kz_0_125 ex2 ex3
  have nf3 : fc_1 PRD (20, [0], [50, 1, 0, 49, 1, 3, 2, 0, 49, 0, -1]) ws (vs ++ [Value.int x]) := by
    refine ⟨nf_inA hl rfl, sgq_1675 ?_⟩
    · show w_fi ws (n_v (vs ++ [Value.int x]) 0) 49 = (-1)
      rw [e_0]
      exact vc_Mo_stOrder_15_3 (v_iv (n_v vs 1)) (v_iv (n_v vs 2)) (v_iv (n_v vs 3)) (v_iv (n_v vs 4)) (v_iv (n_v vs 6)) (v_iv (n_v vs 7)) (w_ei ws (w_ar ws (n_v vs 0) 42)) (w_fi ws (n_v vs 0) 31) (w_ei ws (w_ar ws (n_v vs 0) 33)) (w_ei ws (w_ar ws (n_v vs 0) 34)) (w_fi ws (n_v vs 0) 32) (w_ei ws (w_ar ws (n_v vs 0) 35)) (w_ei ws (w_ar ws (n_v vs 0) 117)) (w_fi ws (n_v vs 0) 125) (w_fi ws (n_v vs 0) 49) (w_ei ws (w_ar ws (n_v vs 0) 43)) (w_ei ws (w_ar ws (n_v vs 0) 44)) (w_ei ws (w_ar ws (n_v vs 0) 52)) (v_iv (Value.int x)) k1 k2 k3 k4 k6 k7 d0 f0 h1 f3 f4 g5 f6 f7 f8 f9 f10 f11 f12 f13 f14 f15 hK_0_33 hK_0_34 hK_0_35 hK_0_42 hK_0_43 hK_0_44 hK_0_52 hK_0_117 kz_0_31 kz_0_32 kz_0_49 kz_0_125 ex2 ex3
  have nf4 : fc_1 PRD (20, [0, 8], [30, -26, -1, 1, 125, -1, 0, 0]) ws (vs ++ [Value.int x]) := by
    refine ⟨nf_inA hl rfl, sgq_1750 ?_⟩
    · show (-1) * w_fi ws (n_v (vs ++ [Value.int x]) 0) 125 + ((-1) * v_iv (n_v (vs ++ [Value.int x]) 8) + 0) ≤ (-26)
      simp only [e_0, e_8]
      exact vc_Mo_stOrder_15_4 (v_iv (n_v vs 1)) (v_iv (n_v vs 2)) (v_iv (n_v vs 3)) (v_iv (n_v vs 4)) (v_iv (n_v vs 6)) (v_iv (n_v vs 7)) (w_ei ws (w_ar ws (n_v vs 0) 42)) (w_fi ws (n_v vs 0) 31) (w_ei ws (w_ar ws (n_v vs 0) 33)) (w_ei ws (w_ar ws (n_v vs 0) 34)) (w_fi ws (n_v vs 0) 32) (w_ei ws (w_ar ws (n_v vs 0) 35)) (w_ei ws (w_ar ws (n_v vs 0) 117)) (w_fi ws (n_v vs 0) 125) (w_fi ws (n_v vs 0) 49) (w_ei ws (w_ar ws (n_v vs 0) 43)) (w_ei ws (w_ar ws (n_v vs 0) 44)) (w_ei ws (w_ar ws (n_v vs 0) 52)) (v_iv (Value.int x)) k1 k2 k3 k4 k6 k7 d0 f0 h1 f3 f4 g5 f6 f7 f8 f9 f10 f11 f12 f13 f14 f15 hK_0_33 hK_0_34 hK_0_35 hK_0_42 hK_0_43 hK_0_44 hK_0_52 hK_0_117 kz_0_31 kz_0_32 kz_0_49 kz_0_125 ex2 ex3
  have nf5 : fc_1 PRD (20, [0], [60, 2, 2, 301, 31, 125, 42, 117]) ws (vs ++ [Value.int x]) := by
    refine ⟨nf_inA hl rfl, sgq_1755 ?_⟩
    · show DRR (w_fi ws (n_v (vs ++ [Value.int x]) 0) 31) (w_fi ws (n_v (vs ++ [Value.int x]) 0) 125) (w_ei ws (w_ar ws (n_v (vs ++ [Value.int x]) 0) 42)) (w_ei ws (w_ar ws (n_v (vs ++ [Value.int x]) 0) 117))
      rw [e_0]
      exact vc_Mo_stOrder_15_5 (v_iv (n_v vs 1)) (v_iv (n_v vs 2)) (v_iv (n_v vs 3)) (v_iv (n_v vs 4)) (v_iv (n_v vs 6)) (v_iv (n_v vs 7)) (w_ei ws (w_ar ws (n_v vs 0) 42)) (w_fi ws (n_v vs 0) 31) (w_ei ws (w_ar ws (n_v vs 0) 33)) (w_ei ws (w_ar ws (n_v vs 0) 34)) (w_fi ws (n_v vs 0) 32) (w_ei ws (w_ar ws (n_v vs 0) 35)) (w_ei ws (w_ar ws (n_v vs 0) 117)) (w_fi ws (n_v vs 0) 125) (w_fi ws (n_v vs 0) 49) (w_ei ws (w_ar ws (n_v vs 0) 43)) (w_ei ws (w_ar ws (n_v vs 0) 44)) (w_ei ws (w_ar ws (n_v vs 0) 52)) (v_iv (Value.int x)) k1 k2 k3 k4 k6 k7 d0 f0 h1 f3 f4 g5 f6 f7 f8 f9 f10 f11 f12 f13 f14 f15 hK_0_33 hK_0_34 hK_0_35 hK_0_42 hK_0_43 hK_0_44 hK_0_52 hK_0_117 kz_0_31 kz_0_32 kz_0_49 kz_0_125 ex2 ex3
  have nf6 : fc_1 PRD (20, [0], [60, 1, 4, 303, 32, 33, 34, 42, 43]) ws (vs ++ [Value.int x]) := by
    refine ⟨nf_inA hl rfl, sgq_1757 ?_⟩
    · show DEM (w_fi ws (n_v (vs ++ [Value.int x]) 0) 32) (w_ei ws (w_ar ws (n_v (vs ++ [Value.int x]) 0) 33)) (w_ei ws (w_ar ws (n_v (vs ++ [Value.int x]) 0) 34)) (w_ei ws (w_ar ws (n_v (vs ++ [Value.int x]) 0) 42)) (w_ei ws (w_ar ws (n_v (vs ++ [Value.int x]) 0) 43))
      rw [e_0]
      exact vc_Mo_stOrder_15_6 (v_iv (n_v vs 1)) (v_iv (n_v vs 2)) (v_iv (n_v vs 3)) (v_iv (n_v vs 4)) (v_iv (n_v vs 6)) (v_iv (n_v vs 7)) (w_ei ws (w_ar ws (n_v vs 0) 42)) (w_fi ws (n_v vs 0) 31) (w_ei ws (w_ar ws (n_v vs 0) 33)) (w_ei ws (w_ar ws (n_v vs 0) 34)) (w_fi ws (n_v vs 0) 32) (w_ei ws (w_ar ws (n_v vs 0) 35)) (w_ei ws (w_ar ws (n_v vs 0) 117)) (w_fi ws (n_v vs 0) 125) (w_fi ws (n_v vs 0) 49) (w_ei ws (w_ar ws (n_v vs 0) 43)) (w_ei ws (w_ar ws (n_v vs 0) 44)) (w_ei ws (w_ar ws (n_v vs 0) 52)) (v_iv (Value.int x)) k1 k2 k3 k4 k6 k7 d0 f0 h1 f3 f4 g5 f6 f7 f8 f9 f10 f11 f12 f13 f14 f15 hK_0_33 hK_0_34 hK_0_35 hK_0_42 hK_0_43 hK_0_44 hK_0_52 hK_0_117 kz_0_31 kz_0_32 kz_0_49 kz_0_125 ex2 ex3
  have nf7 : fc_1 PRD (20, [0], [60, 1, 2, 122, 32, 35, 43]) ws (vs ++ [Value.int x]) := by
    refine ⟨nf_inA hl rfl, sgq_1455 ?_⟩
    · show UA (w_fi ws (n_v (vs ++ [Value.int x]) 0) 32) (w_ei ws (w_ar ws (n_v (vs ++ [Value.int x]) 0) 35)) (w_ei ws (w_ar ws (n_v (vs ++ [Value.int x]) 0) 43))
      rw [e_0]
      exact vc_Mo_stOrder_15_7 (v_iv (n_v vs 1)) (v_iv (n_v vs 2)) (v_iv (n_v vs 3)) (v_iv (n_v vs 4)) (v_iv (n_v vs 6)) (v_iv (n_v vs 7)) (w_ei ws (w_ar ws (n_v vs 0) 42)) (w_fi ws (n_v vs 0) 31) (w_ei ws (w_ar ws (n_v vs 0) 33)) (w_ei ws (w_ar ws (n_v vs 0) 34)) (w_fi ws (n_v vs 0) 32) (w_ei ws (w_ar ws (n_v vs 0) 35)) (w_ei ws (w_ar ws (n_v vs 0) 117)) (w_fi ws (n_v vs 0) 125) (w_fi ws (n_v vs 0) 49) (w_ei ws (w_ar ws (n_v vs 0) 43)) (w_ei ws (w_ar ws (n_v vs 0) 44)) (w_ei ws (w_ar ws (n_v vs 0) 52)) (v_iv (Value.int x)) k1 k2 k3 k4 k6 k7 d0 f0 h1 f3 f4 g5 f6 f7 f8 f9 f10 f11 f12 f13 f14 f15 hK_0_33 hK_0_34 hK_0_35 hK_0_42 hK_0_43 hK_0_44 hK_0_52 hK_0_117 kz_0_31 kz_0_32 kz_0_49 kz_0_125 ex2 ex3
  have nf8 : fc_1 PRD (20, [0], [50, 2, 0, 125, 31, 0, 7, 4, 3, 2, 0, 125, 0, 1, 2, 0, 31]) ws (vs ++ [Value.int x]) := by
    refine ⟨nf_inA hl rfl, sgq_1752 ?_⟩
    · show (w_fi ws (n_v (vs ++ [Value.int x]) 0) 125 + 1) ≤ w_fi ws (n_v (vs ++ [Value.int x]) 0) 31
      rw [e_0]
      exact vc_Mo_stOrder_15_8 (v_iv (n_v vs 1)) (v_iv (n_v vs 2)) (v_iv (n_v vs 3)) (v_iv (n_v vs 4)) (v_iv (n_v vs 6)) (v_iv (n_v vs 7)) (w_ei ws (w_ar ws (n_v vs 0) 42)) (w_fi ws (n_v vs 0) 31) (w_ei ws (w_ar ws (n_v vs 0) 33)) (w_ei ws (w_ar ws (n_v vs 0) 34)) (w_fi ws (n_v vs 0) 32) (w_ei ws (w_ar ws (n_v vs 0) 35)) (w_ei ws (w_ar ws (n_v vs 0) 117)) (w_fi ws (n_v vs 0) 125) (w_fi ws (n_v vs 0) 49) (w_ei ws (w_ar ws (n_v vs 0) 43)) (w_ei ws (w_ar ws (n_v vs 0) 44)) (w_ei ws (w_ar ws (n_v vs 0) 52)) (v_iv (Value.int x)) k1 k2 k3 k4 k6 k7 d0 f0 h1 f3 f4 g5 f6 f7 f8 f9 f10 f11 f12 f13 f14 f15 hK_0_33 hK_0_34 hK_0_35 hK_0_42 hK_0_43 hK_0_44 hK_0_52 hK_0_117 kz_0_31 kz_0_32 kz_0_49 kz_0_125 ex2 ex3
  have nf9 : fc_1 PRD (20, [0, 1, 2, 7], [60, 3, 6, 306, 31, 32, 49, 33, 34, 43, 44, 42, 52]) ws (vs ++ [Value.int x]) := by
    refine ⟨nf_inA hl rfl, sgq_1761 ?_⟩
    · show SB1 (w_fi ws (n_v (vs ++ [Value.int x]) 0) 31) (w_fi ws (n_v (vs ++ [Value.int x]) 0) 32) (w_fi ws (n_v (vs ++ [Value.int x]) 0) 49) (w_ei ws (w_ar ws (n_v (vs ++ [Value.int x]) 0) 33)) (w_ei ws (w_ar ws (n_v (vs ++ [Value.int x]) 0) 34)) (w_ei ws (w_ar ws (n_v (vs ++ [Value.int x]) 0) 43)) (w_ei ws (w_ar ws (n_v (vs ++ [Value.int x]) 0) 44)) (w_ei ws (w_ar ws (n_v (vs ++ [Value.int x]) 0) 42)) (w_ei ws (w_ar ws (n_v (vs ++ [Value.int x]) 0) 52)) (v_iv (n_v (vs ++ [Value.int x]) 1)) (v_iv (n_v (vs ++ [Value.int x]) 2)) (v_iv (n_v (vs ++ [Value.int x]) 7))
      simp only [e_0, e_1, e_2, e_7]
      exact vc_Mo_stOrder_15_9 (v_iv (n_v vs 1)) (v_iv (n_v vs 2)) (v_iv (n_v vs 3)) (v_iv (n_v vs 4)) (v_iv (n_v vs 6)) (v_iv (n_v vs 7)) (w_ei ws (w_ar ws (n_v vs 0) 42)) (w_fi ws (n_v vs 0) 31) (w_ei ws (w_ar ws (n_v vs 0) 33)) (w_ei ws (w_ar ws (n_v vs 0) 34)) (w_fi ws (n_v vs 0) 32) (w_ei ws (w_ar ws (n_v vs 0) 35)) (w_ei ws (w_ar ws (n_v vs 0) 117)) (w_fi ws (n_v vs 0) 125) (w_fi ws (n_v vs 0) 49) (w_ei ws (w_ar ws (n_v vs 0) 43)) (w_ei ws (w_ar ws (n_v vs 0) 44)) (w_ei ws (w_ar ws (n_v vs 0) 52)) (v_iv (Value.int x)) k1 k2 k3 k4 k6 k7 d0 f0 h1 f3 f4 g5 f6 f7 f8 f9 f10 f11 f12 f13 f14 f15 hK_0_33 hK_0_34 hK_0_35 hK_0_42 hK_0_43 hK_0_44 hK_0_52 hK_0_117 kz_0_31 kz_0_32 kz_0_49 kz_0_125 ex2 ex3
  have nf10 : fc_1 PRD (20, [2, 0], [30, -1, 1, 0, 0, -1, 1, 31]) ws (vs ++ [Value.int x]) := by
    refine ⟨nf_inA hl rfl, sgq_553 ?_⟩
    · show 1 * v_iv (n_v (vs ++ [Value.int x]) 2) + ((-1) * w_fi ws (n_v (vs ++ [Value.int x]) 0) 31 + 0) ≤ (-1)
      simp only [e_0, e_2]
      exact vc_Mo_stOrder_15_10 (v_iv (n_v vs 1)) (v_iv (n_v vs 2)) (v_iv (n_v vs 3)) (v_iv (n_v vs 4)) (v_iv (n_v vs 6)) (v_iv (n_v vs 7)) (w_ei ws (w_ar ws (n_v vs 0) 42)) (w_fi ws (n_v vs 0) 31) (w_ei ws (w_ar ws (n_v vs 0) 33)) (w_ei ws (w_ar ws (n_v vs 0) 34)) (w_fi ws (n_v vs 0) 32) (w_ei ws (w_ar ws (n_v vs 0) 35)) (w_ei ws (w_ar ws (n_v vs 0) 117)) (w_fi ws (n_v vs 0) 125) (w_fi ws (n_v vs 0) 49) (w_ei ws (w_ar ws (n_v vs 0) 43)) (w_ei ws (w_ar ws (n_v vs 0) 44)) (w_ei ws (w_ar ws (n_v vs 0) 52)) (v_iv (Value.int x)) k1 k2 k3 k4 k6 k7 d0 f0 h1 f3 f4 g5 f6 f7 f8 f9 f10 f11 f12 f13 f14 f15 hK_0_33 hK_0_34 hK_0_35 hK_0_42 hK_0_43 hK_0_44 hK_0_52 hK_0_117 kz_0_31 kz_0_32 kz_0_49 kz_0_125 ex2 ex3
  have nf11 : fc_1 PRD (20, [0, 2], [50, 0, 1, 42, 7, 5, 3, 0, 42, 1, 1, 0, 0]) ws (vs ++ [Value.int x]) := by
    refine ⟨nf_inA hl rfl, sgq_1762 ?_⟩
    · show w_ei ws (w_ar ws (n_v (vs ++ [Value.int x]) 0) 42) (v_iv (n_v (vs ++ [Value.int x]) 2)) ≠ 0
      simp only [e_0, e_2]
      exact vc_Mo_stOrder_15_11 (v_iv (n_v vs 1)) (v_iv (n_v vs 2)) (v_iv (n_v vs 3)) (v_iv (n_v vs 4)) (v_iv (n_v vs 6)) (v_iv (n_v vs 7)) (w_ei ws (w_ar ws (n_v vs 0) 42)) (w_fi ws (n_v vs 0) 31) (w_ei ws (w_ar ws (n_v vs 0) 33)) (w_ei ws (w_ar ws (n_v vs 0) 34)) (w_fi ws (n_v vs 0) 32) (w_ei ws (w_ar ws (n_v vs 0) 35)) (w_ei ws (w_ar ws (n_v vs 0) 117)) (w_fi ws (n_v vs 0) 125) (w_fi ws (n_v vs 0) 49) (w_ei ws (w_ar ws (n_v vs 0) 43)) (w_ei ws (w_ar ws (n_v vs 0) 44)) (w_ei ws (w_ar ws (n_v vs 0) 52)) (v_iv (Value.int x)) k1 k2 k3 k4 k6 k7 d0 f0 h1 f3 f4 g5 f6 f7 f8 f9 f10 f11 f12 f13 f14 f15 hK_0_33 hK_0_34 hK_0_35 hK_0_42 hK_0_43 hK_0_44 hK_0_52 hK_0_117 kz_0_31 kz_0_32 kz_0_49 kz_0_125 ex2 ex3
  obtain ⟨x0, e0, _, _⟩ := tv_int t3 rfl
  have e1 : v_iv (n_v vs 3) = x0.toInt := by rw [e0]; rfl
  have ho : sy_ofs (vs ++ [Value.int x]) (8, 3, 0, 0) := by
    refine ⟨x, x0, by rw [List.getElem?_append_right (by rw [hl]; decide), hl]; rfl, ?_, ?_, ?_⟩
    · rw [List.getElem?_append_left (by rw [hl]; decide)]; exact n_v_some (by rw [hl]; decide) e0
    · show x0.toInt + 0 ≤ x.toInt; omega
    · show x.toInt ≤ x0.toInt + 0; omega
  exact ⟨(fun _ h => (by cases h)), [Value.int x], ag_one hx, List.forall_mem_cons.mpr ⟨⟨show (20 : Nat) < 100 from by decide, nf0⟩, List.forall_mem_cons.mpr ⟨⟨show (20 : Nat) < 100 from by decide, nf1⟩, List.forall_mem_cons.mpr ⟨⟨show (20 : Nat) < 100 from by decide, nf2⟩, List.forall_mem_cons.mpr ⟨⟨show (20 : Nat) < 100 from by decide, nf3⟩, List.forall_mem_cons.mpr ⟨⟨show (20 : Nat) < 100 from by decide, nf4⟩, List.forall_mem_cons.mpr ⟨⟨show (20 : Nat) < 100 from by decide, nf5⟩, List.forall_mem_cons.mpr ⟨⟨show (20 : Nat) < 100 from by decide, nf6⟩, List.forall_mem_cons.mpr ⟨⟨show (20 : Nat) < 100 from by decide, nf7⟩, List.forall_mem_cons.mpr ⟨⟨show (20 : Nat) < 100 from by decide, nf8⟩, List.forall_mem_cons.mpr ⟨⟨show (20 : Nat) < 100 from by decide, nf9⟩, List.forall_mem_cons.mpr ⟨⟨show (20 : Nat) < 100 from by decide, nf10⟩, List.forall_mem_cons.mpr ⟨⟨show (20 : Nat) < 100 from by decide, nf11⟩, (fun _ h => (by cases h))⟩⟩⟩⟩⟩⟩⟩⟩⟩⟩⟩⟩, List.forall_mem_cons.mpr ⟨ho, (fun _ h => (by cases h))⟩⟩
set_option maxHeartbeats 4000000 in
theorem vc_Mo_stOrder_16_0 (x1 : Int) (x2 : Int) (x3 : Int) (x4 : Int) (x6 : Int) (x7 : Int) (drawnNode_0 : Int → Int) (pn_0 : Int) (pt_0 : Int → Int) (ph_0 : Int → Int) (pm_0 : Int) (alive_0 : Int → Int) (row_0 : Int → Int) (rowMany_0 : Int) (onlyPiece_0 : Int) (drawnEdge_0 : Int → Int) (pieceOf_0 : Int → Int) (bestWay_0 : Int → Int) (k1 : 0 ≤ x1 ∧ x1 ≤ 0) (k2 : 0 ≤ x2 ∧ x2 ≤ 24) (k3 : (-2) ≤ x3 ∧ x3 ≤ 26) (k4 : 1 ≤ x4 ∧ x4 ≤ 25) (k6 : 0 ≤ x6 ∧ x6 ≤ 0) (k7 : 1 ≤ x7 ∧ x7 ≤ 25) (d0 : x2 + 1 ≤ x7 ∧ x7 ≤ x2 + 1) (d1 : x4 + (-4294967296) ≤ x7 ∧ x7 ≤ x4 + 0) (d2 : x4 + (-4294967296) ≤ x2 ∧ x2 ≤ x4 + (-1)) (f0 : x7 = x2 + 1) (f1 : x6 = 0) (h2 : x6 = drawnNode_0 (x2)) (f4 : x1 = 0) (f5 : x2 < x4) (g6 : x4 = pn_0) (f7 : GOK (pn_0) (pm_0) (pt_0) (ph_0)) (f8 : STB (pn_0) (pm_0) (pt_0) (ph_0) (alive_0)) (f9 : STR (pn_0) (rowMany_0) (pt_0) (ph_0) (row_0)) (f10 : onlyPiece_0 = (-1)) (f11 : (-1) * rowMany_0 + ((-1) * x3 + 0) ≤ (-26)) (f12 : DRR (pn_0) (rowMany_0) (drawnNode_0) (row_0)) (f13 : DEM (pm_0) (pt_0) (ph_0) (drawnNode_0) (drawnEdge_0)) (f14 : UA (pm_0) (alive_0) (drawnEdge_0)) (f15 : (rowMany_0 + 1) ≤ pn_0) (f16 : SA1 (pn_0) (pm_0) (onlyPiece_0) (pt_0) (ph_0) (drawnEdge_0) (pieceOf_0) (drawnNode_0) (bestWay_0) (x1) (x2)) (hK_0_33 : ∀ j : Int, 0 ≤ j → j < 80 → 0 ≤ pt_0 j ∧ pt_0 j ≤ 24) (hK_0_34 : ∀ j : Int, 0 ≤ j → j < 80 → 0 ≤ ph_0 j ∧ ph_0 j ≤ 24) (hK_0_35 : ∀ j : Int, 0 ≤ j → j < 80 → 0 ≤ alive_0 j ∧ alive_0 j ≤ 1) (hK_0_42 : ∀ j : Int, 0 ≤ j → j < 26 → 0 ≤ drawnNode_0 j ∧ drawnNode_0 j ≤ 1) (hK_0_43 : ∀ j : Int, 0 ≤ j → j < 80 → 0 ≤ drawnEdge_0 j ∧ drawnEdge_0 j ≤ 1) (hK_0_44 : ∀ j : Int, 0 ≤ j → j < 80 → (-1) ≤ pieceOf_0 j ∧ pieceOf_0 j ≤ 79) (hK_0_52 : ∀ j : Int, 0 ≤ j → j < 30 → 0 ≤ bestWay_0 j ∧ bestWay_0 j ≤ 24) (hK_0_117 : ∀ j : Int, 0 ≤ j → j < 100 → 0 ≤ row_0 j ∧ row_0 j ≤ 75) (kz_0_31 : 0 ≤ pn_0 ∧ pn_0 ≤ 25) (kz_0_32 : 0 ≤ pm_0 ∧ pm_0 ≤ 80) (kz_0_49 : (-1) ≤ onlyPiece_0 ∧ onlyPiece_0 ≤ 79) (kz_0_125 : 0 ≤ rowMany_0 ∧ rowMany_0 ≤ 100) : SA1 (pn_0) (pm_0) (onlyPiece_0) (pt_0) (ph_0) (drawnEdge_0) (pieceOf_0) (drawnNode_0) (bestWay_0) (x1) (x7) := by
  first
    | exact sa_0 (by omega) (by omega) (by omega)
    | exact sa_skip ‹SA1 _ _ _ _ _ _ _ _ _ _ _› (by omega) (by omega)
    | exact sa_next ‹SB1 _ _ _ _ _ _ _ _ _ _ _ _› (by omega) (by omega)
def o_Mo_stOrder_16 : or_T := (155, 8, [(0, (2, 0, 0, [165])), (1, (0, 0, 0, [])), (2, (0, 0, 24, [])), (3, (0, -2, 26, [])), (4, (0, 1, 25, [])), (6, (0, 0, 0, [])), (7, (0, 1, 25, []))], [(6, [7, 2], [1]), (8, [6], [0]), (10, [6, 5, 2], []), (9, [5, 0], [42]), (8, [1], [0]), (7, [2, 4], [2]), (9, [4, 0], [31]), (20, [0], [60, 2, 2, 75, 31, 32, 33, 34]), (20, [0], [60, 2, 3, 297, 31, 32, 33, 34, 35]), (20, [0], [60, 2, 3, 298, 31, 125, 33, 34, 117]), (20, [0], [50, 1, 0, 49, 1, 3, 2, 0, 49, 0, -1]), (20, [0, 3], [30, -26, -1, 1, 125, -1, 0, 0]), (20, [0], [60, 2, 2, 301, 31, 125, 42, 117]), (20, [0], [60, 1, 4, 303, 32, 33, 34, 42, 43]), (20, [0], [60, 1, 2, 122, 32, 35, 43]), (20, [0], [50, 2, 0, 125, 31, 0, 7, 4, 3, 2, 0, 125, 0, 1, 2, 0, 31]), (20, [0, 1, 2], [60, 3, 6, 305, 31, 32, 49, 33, 34, 43, 44, 42, 52])], [], [], [(20, [0, 1, 7], [60, 3, 6, 305, 31, 32, 49, 33, 34, 43, 44, 42, 52])], [], [(7, 2, 1, 1), (7, 4, -4294967296, 0), (2, 4, -4294967296, -1)])
theorem oo_Mo_stOrder_16 {kA : Nat → ClassId} : or_ok PRD kA GG o_Mo_stOrder_16 := by
  refine or_mk fun A ta ws vs hD hth hl => ?_
  intro t0 r0 t1 k1 t2 k2 t3 k3 t4 k4 t6 k6 t7 k7 d0 d1 d2 f0 f1 f2 f3 f4 f5 f6 f7 f8 f9 f10 f11 f12 f13 f14 f15 f16
  replace f2 := shm_107 f2
  replace f3 := shm_531 f3
  replace f6 := shm_577 f6
  have cr_0_33 := fdq_117 hD hth r0
  have cr_0_34 := fdq_118 hD hth r0
  have cr_0_35 := fdq_132 hD hth r0
  have cr_0_42 := fdq_136 hD hth r0
  have cr_0_43 := fdq_137 hD hth r0
  have cr_0_44 := fdq_138 hD hth r0
  have cr_0_52 := fdq_236 hD hth r0
  have cr_0_117 := fdq_181 hD hth r0
  have ad_5 : v_ad (n_v vs 5) = w_ar ws (n_v vs 0) 42 := congrArg v_ad f3
  simp only [ad_5] at f2
  have h2 : v_iv (n_v vs 6) = w_ei ws (w_ar ws (n_v vs 0) 42) (v_iv (n_v vs 2)) := f2
  have g6 : v_iv (n_v vs 4) = w_fi ws (n_v vs 0) 31 := congrArg v_iv f6
  have hK_0_33 := elq_60 hD hth cr_0_33
  have hK_0_34 := elq_61 hD hth cr_0_34
  have hK_0_35 := elq_72 hD hth cr_0_35
  have hK_0_42 := elq_75 hD hth cr_0_42
  have hK_0_43 := elq_76 hD hth cr_0_43
  have hK_0_44 := elq_77 hD hth cr_0_44
  have hK_0_52 := elq_147 hD hth cr_0_52
  have hK_0_117 := elq_108 hD hth cr_0_117
  have kz_0_31 := fdq_145 hD hth r0
  have kz_0_32 := fdq_140 hD hth r0
  have kz_0_49 := fdq_146 hD hth r0
  have kz_0_125 := fdq_182 hD hth r0
  have nf0 : fc_1 PRD (20, [0, 1, 7], [60, 3, 6, 305, 31, 32, 49, 33, 34, 43, 44, 42, 52]) ws (vs) := ⟨nf_in hl rfl, sgq_1758 (vc_Mo_stOrder_16_0 (v_iv (n_v vs 1)) (v_iv (n_v vs 2)) (v_iv (n_v vs 3)) (v_iv (n_v vs 4)) (v_iv (n_v vs 6)) (v_iv (n_v vs 7)) (w_ei ws (w_ar ws (n_v vs 0) 42)) (w_fi ws (n_v vs 0) 31) (w_ei ws (w_ar ws (n_v vs 0) 33)) (w_ei ws (w_ar ws (n_v vs 0) 34)) (w_fi ws (n_v vs 0) 32) (w_ei ws (w_ar ws (n_v vs 0) 35)) (w_ei ws (w_ar ws (n_v vs 0) 117)) (w_fi ws (n_v vs 0) 125) (w_fi ws (n_v vs 0) 49) (w_ei ws (w_ar ws (n_v vs 0) 43)) (w_ei ws (w_ar ws (n_v vs 0) 44)) (w_ei ws (w_ar ws (n_v vs 0) 52)) k1 k2 k3 k4 k6 k7 d0 d1 d2 (shm_4 f0) (shm_192 f1) h2 (shm_192 f4) (shm_6 f5) g6 (shm_575 f7) (shm_1749 f8) (shm_1001 f9) (shm_1675 f10) (shm_1750 f11) (shm_1755 f12) (shm_1757 f13) (shm_1455 f14) (shm_1752 f15) (shm_1758 f16) hK_0_33 hK_0_34 hK_0_35 hK_0_42 hK_0_43 hK_0_44 hK_0_52 hK_0_117 kz_0_31 kz_0_32 kz_0_49 kz_0_125)⟩
  refine ⟨(fun _ h => (by cases h)), [], trivial, ?_, (fun _ h => (by cases h))⟩
  rw [List.append_nil]
  exact List.forall_mem_cons.mpr ⟨⟨show (20 : Nat) < 100 from by decide, nf0⟩, (fun _ h => (by cases h))⟩
set_option maxHeartbeats 4000000 in
theorem vc_Mo_stOrder_17_0 (x1 : Int) (x2 : Int) (x3 : Int) (x4 : Int) (x5 : Int) (x6 : Int) (pn_0 : Int) (pt_0 : Int → Int) (ph_0 : Int → Int) (pm_0 : Int) (alive_0 : Int → Int) (row_0 : Int → Int) (rowMany_0 : Int) (onlyPiece_0 : Int) (drawnNode_0 : Int → Int) (drawnEdge_0 : Int → Int) (pieceOf_0 : Int → Int) (bestWay_0 : Int → Int) (gx : Int) (k1 : 0 ≤ x1 ∧ x1 ≤ 30) (k2 : 0 ≤ x2 ∧ x2 ≤ 24) (k3 : 0 ≤ x3 ∧ x3 ≤ 25) (k4 : (-2) ≤ x4 ∧ x4 ≤ 26) (k5 : 0 ≤ x5 ∧ x5 ≤ 25) (k6 : 1 ≤ x6 ∧ x6 ≤ 25) (d0 : x2 + 1 ≤ x6 ∧ x6 ≤ x2 + 1) (d1 : x5 + 0 ≤ x3 ∧ x3 ≤ x5 + 4294967296) (f0 : x6 = x2 + 1) (f1 : x5 ≤ x3) (g2 : x5 = pn_0) (f3 : GOK (pn_0) (pm_0) (pt_0) (ph_0)) (f4 : STB (pn_0) (pm_0) (pt_0) (ph_0) (alive_0)) (f5 : STR (pn_0) (rowMany_0) (pt_0) (ph_0) (row_0)) (f6 : onlyPiece_0 = (-1)) (f7 : (-1) * rowMany_0 + ((-1) * x4 + 0) ≤ (-26)) (f8 : DRR (pn_0) (rowMany_0) (drawnNode_0) (row_0)) (f9 : DEM (pm_0) (pt_0) (ph_0) (drawnNode_0) (drawnEdge_0)) (f10 : UA (pm_0) (alive_0) (drawnEdge_0)) (f11 : (rowMany_0 + 1) ≤ pn_0) (f12 : SB1 (pn_0) (pm_0) (onlyPiece_0) (pt_0) (ph_0) (drawnEdge_0) (pieceOf_0) (drawnNode_0) (bestWay_0) (x1) (x2) (x3)) (f13 : 1 * x2 + ((-1) * pn_0 + 0) ≤ (-1)) (f14 : drawnNode_0 (x2) ≠ 0) (hK_0_33 : ∀ j : Int, 0 ≤ j → j < 80 → 0 ≤ pt_0 j ∧ pt_0 j ≤ 24) (hK_0_34 : ∀ j : Int, 0 ≤ j → j < 80 → 0 ≤ ph_0 j ∧ ph_0 j ≤ 24) (hK_0_35 : ∀ j : Int, 0 ≤ j → j < 80 → 0 ≤ alive_0 j ∧ alive_0 j ≤ 1) (hK_0_42 : ∀ j : Int, 0 ≤ j → j < 26 → 0 ≤ drawnNode_0 j ∧ drawnNode_0 j ≤ 1) (hK_0_43 : ∀ j : Int, 0 ≤ j → j < 80 → 0 ≤ drawnEdge_0 j ∧ drawnEdge_0 j ≤ 1) (hK_0_44 : ∀ j : Int, 0 ≤ j → j < 80 → (-1) ≤ pieceOf_0 j ∧ pieceOf_0 j ≤ 79) (hK_0_52 : ∀ j : Int, 0 ≤ j → j < 30 → 0 ≤ bestWay_0 j ∧ bestWay_0 j ≤ 24) (hK_0_117 : ∀ j : Int, 0 ≤ j → j < 100 → 0 ≤ row_0 j ∧ row_0 j ≤ 75) (kz_0_31 : 0 ≤ pn_0 ∧ pn_0 ≤ 25) (kz_0_32 : 0 ≤ pm_0 ∧ pm_0 ≤ 80) (kz_0_49 : (-1) ≤ onlyPiece_0 ∧ onlyPiece_0 ≤ 79) (kz_0_125 : 0 ≤ rowMany_0 ∧ rowMany_0 ≤ 100) (ex2 : gx = 0 + (1 * x4 + 0)) (ex3 : (-2) ≤ gx ∧ gx ≤ 26) : GOK (pn_0) (pm_0) (pt_0) (ph_0) := by
  first
    | assumption
    | exact ‹STB _ _ _ _ _›.1.1
set_option maxHeartbeats 4000000 in
theorem vc_Mo_stOrder_17_1 (x1 : Int) (x2 : Int) (x3 : Int) (x4 : Int) (x5 : Int) (x6 : Int) (pn_0 : Int) (pt_0 : Int → Int) (ph_0 : Int → Int) (pm_0 : Int) (alive_0 : Int → Int) (row_0 : Int → Int) (rowMany_0 : Int) (onlyPiece_0 : Int) (drawnNode_0 : Int → Int) (drawnEdge_0 : Int → Int) (pieceOf_0 : Int → Int) (bestWay_0 : Int → Int) (gx : Int) (k1 : 0 ≤ x1 ∧ x1 ≤ 30) (k2 : 0 ≤ x2 ∧ x2 ≤ 24) (k3 : 0 ≤ x3 ∧ x3 ≤ 25) (k4 : (-2) ≤ x4 ∧ x4 ≤ 26) (k5 : 0 ≤ x5 ∧ x5 ≤ 25) (k6 : 1 ≤ x6 ∧ x6 ≤ 25) (d0 : x2 + 1 ≤ x6 ∧ x6 ≤ x2 + 1) (d1 : x5 + 0 ≤ x3 ∧ x3 ≤ x5 + 4294967296) (f0 : x6 = x2 + 1) (f1 : x5 ≤ x3) (g2 : x5 = pn_0) (f3 : GOK (pn_0) (pm_0) (pt_0) (ph_0)) (f4 : STB (pn_0) (pm_0) (pt_0) (ph_0) (alive_0)) (f5 : STR (pn_0) (rowMany_0) (pt_0) (ph_0) (row_0)) (f6 : onlyPiece_0 = (-1)) (f7 : (-1) * rowMany_0 + ((-1) * x4 + 0) ≤ (-26)) (f8 : DRR (pn_0) (rowMany_0) (drawnNode_0) (row_0)) (f9 : DEM (pm_0) (pt_0) (ph_0) (drawnNode_0) (drawnEdge_0)) (f10 : UA (pm_0) (alive_0) (drawnEdge_0)) (f11 : (rowMany_0 + 1) ≤ pn_0) (f12 : SB1 (pn_0) (pm_0) (onlyPiece_0) (pt_0) (ph_0) (drawnEdge_0) (pieceOf_0) (drawnNode_0) (bestWay_0) (x1) (x2) (x3)) (f13 : 1 * x2 + ((-1) * pn_0 + 0) ≤ (-1)) (f14 : drawnNode_0 (x2) ≠ 0) (hK_0_33 : ∀ j : Int, 0 ≤ j → j < 80 → 0 ≤ pt_0 j ∧ pt_0 j ≤ 24) (hK_0_34 : ∀ j : Int, 0 ≤ j → j < 80 → 0 ≤ ph_0 j ∧ ph_0 j ≤ 24) (hK_0_35 : ∀ j : Int, 0 ≤ j → j < 80 → 0 ≤ alive_0 j ∧ alive_0 j ≤ 1) (hK_0_42 : ∀ j : Int, 0 ≤ j → j < 26 → 0 ≤ drawnNode_0 j ∧ drawnNode_0 j ≤ 1) (hK_0_43 : ∀ j : Int, 0 ≤ j → j < 80 → 0 ≤ drawnEdge_0 j ∧ drawnEdge_0 j ≤ 1) (hK_0_44 : ∀ j : Int, 0 ≤ j → j < 80 → (-1) ≤ pieceOf_0 j ∧ pieceOf_0 j ≤ 79) (hK_0_52 : ∀ j : Int, 0 ≤ j → j < 30 → 0 ≤ bestWay_0 j ∧ bestWay_0 j ≤ 24) (hK_0_117 : ∀ j : Int, 0 ≤ j → j < 100 → 0 ≤ row_0 j ∧ row_0 j ≤ 75) (kz_0_31 : 0 ≤ pn_0 ∧ pn_0 ≤ 25) (kz_0_32 : 0 ≤ pm_0 ∧ pm_0 ≤ 80) (kz_0_49 : (-1) ≤ onlyPiece_0 ∧ onlyPiece_0 ≤ 79) (kz_0_125 : 0 ≤ rowMany_0 ∧ rowMany_0 ≤ 100) (ex2 : gx = 0 + (1 * x4 + 0)) (ex3 : (-2) ≤ gx ∧ gx ≤ 26) : STB (pn_0) (pm_0) (pt_0) (ph_0) (alive_0) := by
  first | assumption
set_option maxHeartbeats 4000000 in
theorem vc_Mo_stOrder_17_2 (x1 : Int) (x2 : Int) (x3 : Int) (x4 : Int) (x5 : Int) (x6 : Int) (pn_0 : Int) (pt_0 : Int → Int) (ph_0 : Int → Int) (pm_0 : Int) (alive_0 : Int → Int) (row_0 : Int → Int) (rowMany_0 : Int) (onlyPiece_0 : Int) (drawnNode_0 : Int → Int) (drawnEdge_0 : Int → Int) (pieceOf_0 : Int → Int) (bestWay_0 : Int → Int) (gx : Int) (k1 : 0 ≤ x1 ∧ x1 ≤ 30) (k2 : 0 ≤ x2 ∧ x2 ≤ 24) (k3 : 0 ≤ x3 ∧ x3 ≤ 25) (k4 : (-2) ≤ x4 ∧ x4 ≤ 26) (k5 : 0 ≤ x5 ∧ x5 ≤ 25) (k6 : 1 ≤ x6 ∧ x6 ≤ 25) (d0 : x2 + 1 ≤ x6 ∧ x6 ≤ x2 + 1) (d1 : x5 + 0 ≤ x3 ∧ x3 ≤ x5 + 4294967296) (f0 : x6 = x2 + 1) (f1 : x5 ≤ x3) (g2 : x5 = pn_0) (f3 : GOK (pn_0) (pm_0) (pt_0) (ph_0)) (f4 : STB (pn_0) (pm_0) (pt_0) (ph_0) (alive_0)) (f5 : STR (pn_0) (rowMany_0) (pt_0) (ph_0) (row_0)) (f6 : onlyPiece_0 = (-1)) (f7 : (-1) * rowMany_0 + ((-1) * x4 + 0) ≤ (-26)) (f8 : DRR (pn_0) (rowMany_0) (drawnNode_0) (row_0)) (f9 : DEM (pm_0) (pt_0) (ph_0) (drawnNode_0) (drawnEdge_0)) (f10 : UA (pm_0) (alive_0) (drawnEdge_0)) (f11 : (rowMany_0 + 1) ≤ pn_0) (f12 : SB1 (pn_0) (pm_0) (onlyPiece_0) (pt_0) (ph_0) (drawnEdge_0) (pieceOf_0) (drawnNode_0) (bestWay_0) (x1) (x2) (x3)) (f13 : 1 * x2 + ((-1) * pn_0 + 0) ≤ (-1)) (f14 : drawnNode_0 (x2) ≠ 0) (hK_0_33 : ∀ j : Int, 0 ≤ j → j < 80 → 0 ≤ pt_0 j ∧ pt_0 j ≤ 24) (hK_0_34 : ∀ j : Int, 0 ≤ j → j < 80 → 0 ≤ ph_0 j ∧ ph_0 j ≤ 24) (hK_0_35 : ∀ j : Int, 0 ≤ j → j < 80 → 0 ≤ alive_0 j ∧ alive_0 j ≤ 1) (hK_0_42 : ∀ j : Int, 0 ≤ j → j < 26 → 0 ≤ drawnNode_0 j ∧ drawnNode_0 j ≤ 1) (hK_0_43 : ∀ j : Int, 0 ≤ j → j < 80 → 0 ≤ drawnEdge_0 j ∧ drawnEdge_0 j ≤ 1) (hK_0_44 : ∀ j : Int, 0 ≤ j → j < 80 → (-1) ≤ pieceOf_0 j ∧ pieceOf_0 j ≤ 79) (hK_0_52 : ∀ j : Int, 0 ≤ j → j < 30 → 0 ≤ bestWay_0 j ∧ bestWay_0 j ≤ 24) (hK_0_117 : ∀ j : Int, 0 ≤ j → j < 100 → 0 ≤ row_0 j ∧ row_0 j ≤ 75) (kz_0_31 : 0 ≤ pn_0 ∧ pn_0 ≤ 25) (kz_0_32 : 0 ≤ pm_0 ∧ pm_0 ≤ 80) (kz_0_49 : (-1) ≤ onlyPiece_0 ∧ onlyPiece_0 ≤ 79) (kz_0_125 : 0 ≤ rowMany_0 ∧ rowMany_0 ≤ 100) (ex2 : gx = 0 + (1 * x4 + 0)) (ex3 : (-2) ≤ gx ∧ gx ≤ 26) : STR (pn_0) (rowMany_0) (pt_0) (ph_0) (row_0) := by
  first | assumption
set_option maxHeartbeats 4000000 in
theorem vc_Mo_stOrder_17_3 (x1 : Int) (x2 : Int) (x3 : Int) (x4 : Int) (x5 : Int) (x6 : Int) (pn_0 : Int) (pt_0 : Int → Int) (ph_0 : Int → Int) (pm_0 : Int) (alive_0 : Int → Int) (row_0 : Int → Int) (rowMany_0 : Int) (onlyPiece_0 : Int) (drawnNode_0 : Int → Int) (drawnEdge_0 : Int → Int) (pieceOf_0 : Int → Int) (bestWay_0 : Int → Int) (gx : Int) (k1 : 0 ≤ x1 ∧ x1 ≤ 30) (k2 : 0 ≤ x2 ∧ x2 ≤ 24) (k3 : 0 ≤ x3 ∧ x3 ≤ 25) (k4 : (-2) ≤ x4 ∧ x4 ≤ 26) (k5 : 0 ≤ x5 ∧ x5 ≤ 25) (k6 : 1 ≤ x6 ∧ x6 ≤ 25) (d0 : x2 + 1 ≤ x6 ∧ x6 ≤ x2 + 1) (d1 : x5 + 0 ≤ x3 ∧ x3 ≤ x5 + 4294967296) (f0 : x6 = x2 + 1) (f1 : x5 ≤ x3) (g2 : x5 = pn_0) (f3 : GOK (pn_0) (pm_0) (pt_0) (ph_0)) (f4 : STB (pn_0) (pm_0) (pt_0) (ph_0) (alive_0)) (f5 : STR (pn_0) (rowMany_0) (pt_0) (ph_0) (row_0)) (f6 : onlyPiece_0 = (-1)) (f7 : (-1) * rowMany_0 + ((-1) * x4 + 0) ≤ (-26)) (f8 : DRR (pn_0) (rowMany_0) (drawnNode_0) (row_0)) (f9 : DEM (pm_0) (pt_0) (ph_0) (drawnNode_0) (drawnEdge_0)) (f10 : UA (pm_0) (alive_0) (drawnEdge_0)) (f11 : (rowMany_0 + 1) ≤ pn_0) (f12 : SB1 (pn_0) (pm_0) (onlyPiece_0) (pt_0) (ph_0) (drawnEdge_0) (pieceOf_0) (drawnNode_0) (bestWay_0) (x1) (x2) (x3)) (f13 : 1 * x2 + ((-1) * pn_0 + 0) ≤ (-1)) (f14 : drawnNode_0 (x2) ≠ 0) (hK_0_33 : ∀ j : Int, 0 ≤ j → j < 80 → 0 ≤ pt_0 j ∧ pt_0 j ≤ 24) (hK_0_34 : ∀ j : Int, 0 ≤ j → j < 80 → 0 ≤ ph_0 j ∧ ph_0 j ≤ 24) (hK_0_35 : ∀ j : Int, 0 ≤ j → j < 80 → 0 ≤ alive_0 j ∧ alive_0 j ≤ 1) (hK_0_42 : ∀ j : Int, 0 ≤ j → j < 26 → 0 ≤ drawnNode_0 j ∧ drawnNode_0 j ≤ 1) (hK_0_43 : ∀ j : Int, 0 ≤ j → j < 80 → 0 ≤ drawnEdge_0 j ∧ drawnEdge_0 j ≤ 1) (hK_0_44 : ∀ j : Int, 0 ≤ j → j < 80 → (-1) ≤ pieceOf_0 j ∧ pieceOf_0 j ≤ 79) (hK_0_52 : ∀ j : Int, 0 ≤ j → j < 30 → 0 ≤ bestWay_0 j ∧ bestWay_0 j ≤ 24) (hK_0_117 : ∀ j : Int, 0 ≤ j → j < 100 → 0 ≤ row_0 j ∧ row_0 j ≤ 75) (kz_0_31 : 0 ≤ pn_0 ∧ pn_0 ≤ 25) (kz_0_32 : 0 ≤ pm_0 ∧ pm_0 ≤ 80) (kz_0_49 : (-1) ≤ onlyPiece_0 ∧ onlyPiece_0 ≤ 79) (kz_0_125 : 0 ≤ rowMany_0 ∧ rowMany_0 ≤ 100) (ex2 : gx = 0 + (1 * x4 + 0)) (ex3 : (-2) ≤ gx ∧ gx ≤ 26) : onlyPiece_0 = (-1) := by
  first
    | omega
    | (have h := ‹STB _ _ _ _ _›.1.2.2; omega)
    | (have h := ‹STR _ _ _ _ _›.1; omega)
    | (have h := ‹STR _ _ _ _ _›.1
       have w := ‹STR _ _ _ _ _›.2.1 x1 (by omega) (by omega)
       omega)
    | (have h := bc_len ‹BC1 _ _ _ _ _ _ _›
       have h2 := ‹STR _ _ _ _ _›.1
       omega)
    | (have h := (sb_way ‹SB1 _ _ _ _ _ _ _ _ _ _ _ _› (by omega)).1
       have h2 := ‹STR _ _ _ _ _›.1
       omega)
    | (have h := ‹WYM _ _ _ _›.1
       have h2 := ‹STR _ _ _ _ _›.1
       omega)
set_option maxHeartbeats 4000000 in
theorem vc_Mo_stOrder_17_4 (x1 : Int) (x2 : Int) (x3 : Int) (x4 : Int) (x5 : Int) (x6 : Int) (pn_0 : Int) (pt_0 : Int → Int) (ph_0 : Int → Int) (pm_0 : Int) (alive_0 : Int → Int) (row_0 : Int → Int) (rowMany_0 : Int) (onlyPiece_0 : Int) (drawnNode_0 : Int → Int) (drawnEdge_0 : Int → Int) (pieceOf_0 : Int → Int) (bestWay_0 : Int → Int) (gx : Int) (k1 : 0 ≤ x1 ∧ x1 ≤ 30) (k2 : 0 ≤ x2 ∧ x2 ≤ 24) (k3 : 0 ≤ x3 ∧ x3 ≤ 25) (k4 : (-2) ≤ x4 ∧ x4 ≤ 26) (k5 : 0 ≤ x5 ∧ x5 ≤ 25) (k6 : 1 ≤ x6 ∧ x6 ≤ 25) (d0 : x2 + 1 ≤ x6 ∧ x6 ≤ x2 + 1) (d1 : x5 + 0 ≤ x3 ∧ x3 ≤ x5 + 4294967296) (f0 : x6 = x2 + 1) (f1 : x5 ≤ x3) (g2 : x5 = pn_0) (f3 : GOK (pn_0) (pm_0) (pt_0) (ph_0)) (f4 : STB (pn_0) (pm_0) (pt_0) (ph_0) (alive_0)) (f5 : STR (pn_0) (rowMany_0) (pt_0) (ph_0) (row_0)) (f6 : onlyPiece_0 = (-1)) (f7 : (-1) * rowMany_0 + ((-1) * x4 + 0) ≤ (-26)) (f8 : DRR (pn_0) (rowMany_0) (drawnNode_0) (row_0)) (f9 : DEM (pm_0) (pt_0) (ph_0) (drawnNode_0) (drawnEdge_0)) (f10 : UA (pm_0) (alive_0) (drawnEdge_0)) (f11 : (rowMany_0 + 1) ≤ pn_0) (f12 : SB1 (pn_0) (pm_0) (onlyPiece_0) (pt_0) (ph_0) (drawnEdge_0) (pieceOf_0) (drawnNode_0) (bestWay_0) (x1) (x2) (x3)) (f13 : 1 * x2 + ((-1) * pn_0 + 0) ≤ (-1)) (f14 : drawnNode_0 (x2) ≠ 0) (hK_0_33 : ∀ j : Int, 0 ≤ j → j < 80 → 0 ≤ pt_0 j ∧ pt_0 j ≤ 24) (hK_0_34 : ∀ j : Int, 0 ≤ j → j < 80 → 0 ≤ ph_0 j ∧ ph_0 j ≤ 24) (hK_0_35 : ∀ j : Int, 0 ≤ j → j < 80 → 0 ≤ alive_0 j ∧ alive_0 j ≤ 1) (hK_0_42 : ∀ j : Int, 0 ≤ j → j < 26 → 0 ≤ drawnNode_0 j ∧ drawnNode_0 j ≤ 1) (hK_0_43 : ∀ j : Int, 0 ≤ j → j < 80 → 0 ≤ drawnEdge_0 j ∧ drawnEdge_0 j ≤ 1) (hK_0_44 : ∀ j : Int, 0 ≤ j → j < 80 → (-1) ≤ pieceOf_0 j ∧ pieceOf_0 j ≤ 79) (hK_0_52 : ∀ j : Int, 0 ≤ j → j < 30 → 0 ≤ bestWay_0 j ∧ bestWay_0 j ≤ 24) (hK_0_117 : ∀ j : Int, 0 ≤ j → j < 100 → 0 ≤ row_0 j ∧ row_0 j ≤ 75) (kz_0_31 : 0 ≤ pn_0 ∧ pn_0 ≤ 25) (kz_0_32 : 0 ≤ pm_0 ∧ pm_0 ≤ 80) (kz_0_49 : (-1) ≤ onlyPiece_0 ∧ onlyPiece_0 ≤ 79) (kz_0_125 : 0 ≤ rowMany_0 ∧ rowMany_0 ≤ 100) (ex2 : gx = 0 + (1 * x4 + 0)) (ex3 : (-2) ≤ gx ∧ gx ≤ 26) : (-1) * rowMany_0 + ((-1) * gx + 0) ≤ (-26) := by
  first
    | omega
    | (have h := ‹STB _ _ _ _ _›.1.2.2; omega)
    | (have h := ‹STR _ _ _ _ _›.1; omega)
    | (have h := ‹STR _ _ _ _ _›.1
       have w := ‹STR _ _ _ _ _›.2.1 x1 (by omega) (by omega)
       omega)
    | (have h := bc_len ‹BC1 _ _ _ _ _ _ _›
       have h2 := ‹STR _ _ _ _ _›.1
       omega)
    | (have h := (sb_way ‹SB1 _ _ _ _ _ _ _ _ _ _ _ _› (by omega)).1
       have h2 := ‹STR _ _ _ _ _›.1
       omega)
    | (have h := ‹WYM _ _ _ _›.1
       have h2 := ‹STR _ _ _ _ _›.1
       omega)
set_option maxHeartbeats 4000000 in
theorem vc_Mo_stOrder_17_5 (x1 : Int) (x2 : Int) (x3 : Int) (x4 : Int) (x5 : Int) (x6 : Int) (pn_0 : Int) (pt_0 : Int → Int) (ph_0 : Int → Int) (pm_0 : Int) (alive_0 : Int → Int) (row_0 : Int → Int) (rowMany_0 : Int) (onlyPiece_0 : Int) (drawnNode_0 : Int → Int) (drawnEdge_0 : Int → Int) (pieceOf_0 : Int → Int) (bestWay_0 : Int → Int) (gx : Int) (k1 : 0 ≤ x1 ∧ x1 ≤ 30) (k2 : 0 ≤ x2 ∧ x2 ≤ 24) (k3 : 0 ≤ x3 ∧ x3 ≤ 25) (k4 : (-2) ≤ x4 ∧ x4 ≤ 26) (k5 : 0 ≤ x5 ∧ x5 ≤ 25) (k6 : 1 ≤ x6 ∧ x6 ≤ 25) (d0 : x2 + 1 ≤ x6 ∧ x6 ≤ x2 + 1) (d1 : x5 + 0 ≤ x3 ∧ x3 ≤ x5 + 4294967296) (f0 : x6 = x2 + 1) (f1 : x5 ≤ x3) (g2 : x5 = pn_0) (f3 : GOK (pn_0) (pm_0) (pt_0) (ph_0)) (f4 : STB (pn_0) (pm_0) (pt_0) (ph_0) (alive_0)) (f5 : STR (pn_0) (rowMany_0) (pt_0) (ph_0) (row_0)) (f6 : onlyPiece_0 = (-1)) (f7 : (-1) * rowMany_0 + ((-1) * x4 + 0) ≤ (-26)) (f8 : DRR (pn_0) (rowMany_0) (drawnNode_0) (row_0)) (f9 : DEM (pm_0) (pt_0) (ph_0) (drawnNode_0) (drawnEdge_0)) (f10 : UA (pm_0) (alive_0) (drawnEdge_0)) (f11 : (rowMany_0 + 1) ≤ pn_0) (f12 : SB1 (pn_0) (pm_0) (onlyPiece_0) (pt_0) (ph_0) (drawnEdge_0) (pieceOf_0) (drawnNode_0) (bestWay_0) (x1) (x2) (x3)) (f13 : 1 * x2 + ((-1) * pn_0 + 0) ≤ (-1)) (f14 : drawnNode_0 (x2) ≠ 0) (hK_0_33 : ∀ j : Int, 0 ≤ j → j < 80 → 0 ≤ pt_0 j ∧ pt_0 j ≤ 24) (hK_0_34 : ∀ j : Int, 0 ≤ j → j < 80 → 0 ≤ ph_0 j ∧ ph_0 j ≤ 24) (hK_0_35 : ∀ j : Int, 0 ≤ j → j < 80 → 0 ≤ alive_0 j ∧ alive_0 j ≤ 1) (hK_0_42 : ∀ j : Int, 0 ≤ j → j < 26 → 0 ≤ drawnNode_0 j ∧ drawnNode_0 j ≤ 1) (hK_0_43 : ∀ j : Int, 0 ≤ j → j < 80 → 0 ≤ drawnEdge_0 j ∧ drawnEdge_0 j ≤ 1) (hK_0_44 : ∀ j : Int, 0 ≤ j → j < 80 → (-1) ≤ pieceOf_0 j ∧ pieceOf_0 j ≤ 79) (hK_0_52 : ∀ j : Int, 0 ≤ j → j < 30 → 0 ≤ bestWay_0 j ∧ bestWay_0 j ≤ 24) (hK_0_117 : ∀ j : Int, 0 ≤ j → j < 100 → 0 ≤ row_0 j ∧ row_0 j ≤ 75) (kz_0_31 : 0 ≤ pn_0 ∧ pn_0 ≤ 25) (kz_0_32 : 0 ≤ pm_0 ∧ pm_0 ≤ 80) (kz_0_49 : (-1) ≤ onlyPiece_0 ∧ onlyPiece_0 ≤ 79) (kz_0_125 : 0 ≤ rowMany_0 ∧ rowMany_0 ≤ 100) (ex2 : gx = 0 + (1 * x4 + 0)) (ex3 : (-2) ≤ gx ∧ gx ≤ 26) : DRR (pn_0) (rowMany_0) (drawnNode_0) (row_0) := by
  first | assumption
set_option maxHeartbeats 4000000 in
theorem vc_Mo_stOrder_17_6 (x1 : Int) (x2 : Int) (x3 : Int) (x4 : Int) (x5 : Int) (x6 : Int) (pn_0 : Int) (pt_0 : Int → Int) (ph_0 : Int → Int) (pm_0 : Int) (alive_0 : Int → Int) (row_0 : Int → Int) (rowMany_0 : Int) (onlyPiece_0 : Int) (drawnNode_0 : Int → Int) (drawnEdge_0 : Int → Int) (pieceOf_0 : Int → Int) (bestWay_0 : Int → Int) (gx : Int) (k1 : 0 ≤ x1 ∧ x1 ≤ 30) (k2 : 0 ≤ x2 ∧ x2 ≤ 24) (k3 : 0 ≤ x3 ∧ x3 ≤ 25) (k4 : (-2) ≤ x4 ∧ x4 ≤ 26) (k5 : 0 ≤ x5 ∧ x5 ≤ 25) (k6 : 1 ≤ x6 ∧ x6 ≤ 25) (d0 : x2 + 1 ≤ x6 ∧ x6 ≤ x2 + 1) (d1 : x5 + 0 ≤ x3 ∧ x3 ≤ x5 + 4294967296) (f0 : x6 = x2 + 1) (f1 : x5 ≤ x3) (g2 : x5 = pn_0) (f3 : GOK (pn_0) (pm_0) (pt_0) (ph_0)) (f4 : STB (pn_0) (pm_0) (pt_0) (ph_0) (alive_0)) (f5 : STR (pn_0) (rowMany_0) (pt_0) (ph_0) (row_0)) (f6 : onlyPiece_0 = (-1)) (f7 : (-1) * rowMany_0 + ((-1) * x4 + 0) ≤ (-26)) (f8 : DRR (pn_0) (rowMany_0) (drawnNode_0) (row_0)) (f9 : DEM (pm_0) (pt_0) (ph_0) (drawnNode_0) (drawnEdge_0)) (f10 : UA (pm_0) (alive_0) (drawnEdge_0)) (f11 : (rowMany_0 + 1) ≤ pn_0) (f12 : SB1 (pn_0) (pm_0) (onlyPiece_0) (pt_0) (ph_0) (drawnEdge_0) (pieceOf_0) (drawnNode_0) (bestWay_0) (x1) (x2) (x3)) (f13 : 1 * x2 + ((-1) * pn_0 + 0) ≤ (-1)) (f14 : drawnNode_0 (x2) ≠ 0) (hK_0_33 : ∀ j : Int, 0 ≤ j → j < 80 → 0 ≤ pt_0 j ∧ pt_0 j ≤ 24) (hK_0_34 : ∀ j : Int, 0 ≤ j → j < 80 → 0 ≤ ph_0 j ∧ ph_0 j ≤ 24) (hK_0_35 : ∀ j : Int, 0 ≤ j → j < 80 → 0 ≤ alive_0 j ∧ alive_0 j ≤ 1) (hK_0_42 : ∀ j : Int, 0 ≤ j → j < 26 → 0 ≤ drawnNode_0 j ∧ drawnNode_0 j ≤ 1) (hK_0_43 : ∀ j : Int, 0 ≤ j → j < 80 → 0 ≤ drawnEdge_0 j ∧ drawnEdge_0 j ≤ 1) (hK_0_44 : ∀ j : Int, 0 ≤ j → j < 80 → (-1) ≤ pieceOf_0 j ∧ pieceOf_0 j ≤ 79) (hK_0_52 : ∀ j : Int, 0 ≤ j → j < 30 → 0 ≤ bestWay_0 j ∧ bestWay_0 j ≤ 24) (hK_0_117 : ∀ j : Int, 0 ≤ j → j < 100 → 0 ≤ row_0 j ∧ row_0 j ≤ 75) (kz_0_31 : 0 ≤ pn_0 ∧ pn_0 ≤ 25) (kz_0_32 : 0 ≤ pm_0 ∧ pm_0 ≤ 80) (kz_0_49 : (-1) ≤ onlyPiece_0 ∧ onlyPiece_0 ≤ 79) (kz_0_125 : 0 ≤ rowMany_0 ∧ rowMany_0 ≤ 100) (ex2 : gx = 0 + (1 * x4 + 0)) (ex3 : (-2) ≤ gx ∧ gx ≤ 26) : DEM (pm_0) (pt_0) (ph_0) (drawnNode_0) (drawnEdge_0) := by
  first
    | assumption
    | (have h := ‹DEK _ _ _ _ _›
       intro e a b
       exact h e a (by omega))
set_option maxHeartbeats 4000000 in
theorem vc_Mo_stOrder_17_7 (x1 : Int) (x2 : Int) (x3 : Int) (x4 : Int) (x5 : Int) (x6 : Int) (pn_0 : Int) (pt_0 : Int → Int) (ph_0 : Int → Int) (pm_0 : Int) (alive_0 : Int → Int) (row_0 : Int → Int) (rowMany_0 : Int) (onlyPiece_0 : Int) (drawnNode_0 : Int → Int) (drawnEdge_0 : Int → Int) (pieceOf_0 : Int → Int) (bestWay_0 : Int → Int) (gx : Int) (k1 : 0 ≤ x1 ∧ x1 ≤ 30) (k2 : 0 ≤ x2 ∧ x2 ≤ 24) (k3 : 0 ≤ x3 ∧ x3 ≤ 25) (k4 : (-2) ≤ x4 ∧ x4 ≤ 26) (k5 : 0 ≤ x5 ∧ x5 ≤ 25) (k6 : 1 ≤ x6 ∧ x6 ≤ 25) (d0 : x2 + 1 ≤ x6 ∧ x6 ≤ x2 + 1) (d1 : x5 + 0 ≤ x3 ∧ x3 ≤ x5 + 4294967296) (f0 : x6 = x2 + 1) (f1 : x5 ≤ x3) (g2 : x5 = pn_0) (f3 : GOK (pn_0) (pm_0) (pt_0) (ph_0)) (f4 : STB (pn_0) (pm_0) (pt_0) (ph_0) (alive_0)) (f5 : STR (pn_0) (rowMany_0) (pt_0) (ph_0) (row_0)) (f6 : onlyPiece_0 = (-1)) (f7 : (-1) * rowMany_0 + ((-1) * x4 + 0) ≤ (-26)) (f8 : DRR (pn_0) (rowMany_0) (drawnNode_0) (row_0)) (f9 : DEM (pm_0) (pt_0) (ph_0) (drawnNode_0) (drawnEdge_0)) (f10 : UA (pm_0) (alive_0) (drawnEdge_0)) (f11 : (rowMany_0 + 1) ≤ pn_0) (f12 : SB1 (pn_0) (pm_0) (onlyPiece_0) (pt_0) (ph_0) (drawnEdge_0) (pieceOf_0) (drawnNode_0) (bestWay_0) (x1) (x2) (x3)) (f13 : 1 * x2 + ((-1) * pn_0 + 0) ≤ (-1)) (f14 : drawnNode_0 (x2) ≠ 0) (hK_0_33 : ∀ j : Int, 0 ≤ j → j < 80 → 0 ≤ pt_0 j ∧ pt_0 j ≤ 24) (hK_0_34 : ∀ j : Int, 0 ≤ j → j < 80 → 0 ≤ ph_0 j ∧ ph_0 j ≤ 24) (hK_0_35 : ∀ j : Int, 0 ≤ j → j < 80 → 0 ≤ alive_0 j ∧ alive_0 j ≤ 1) (hK_0_42 : ∀ j : Int, 0 ≤ j → j < 26 → 0 ≤ drawnNode_0 j ∧ drawnNode_0 j ≤ 1) (hK_0_43 : ∀ j : Int, 0 ≤ j → j < 80 → 0 ≤ drawnEdge_0 j ∧ drawnEdge_0 j ≤ 1) (hK_0_44 : ∀ j : Int, 0 ≤ j → j < 80 → (-1) ≤ pieceOf_0 j ∧ pieceOf_0 j ≤ 79) (hK_0_52 : ∀ j : Int, 0 ≤ j → j < 30 → 0 ≤ bestWay_0 j ∧ bestWay_0 j ≤ 24) (hK_0_117 : ∀ j : Int, 0 ≤ j → j < 100 → 0 ≤ row_0 j ∧ row_0 j ≤ 75) (kz_0_31 : 0 ≤ pn_0 ∧ pn_0 ≤ 25) (kz_0_32 : 0 ≤ pm_0 ∧ pm_0 ≤ 80) (kz_0_49 : (-1) ≤ onlyPiece_0 ∧ onlyPiece_0 ≤ 79) (kz_0_125 : 0 ≤ rowMany_0 ∧ rowMany_0 ≤ 100) (ex2 : gx = 0 + (1 * x4 + 0)) (ex3 : (-2) ≤ gx ∧ gx ≤ 26) : UA (pm_0) (alive_0) (drawnEdge_0) := by
  first
    | assumption
    | exact dem_ua (n := pn_0) (pt := pt_0) (ph := ph_0) (dn := drawnNode_0) ‹STB _ _ _ _ _›
set_option maxHeartbeats 4000000 in
theorem vc_Mo_stOrder_17_8 (x1 : Int) (x2 : Int) (x3 : Int) (x4 : Int) (x5 : Int) (x6 : Int) (pn_0 : Int) (pt_0 : Int → Int) (ph_0 : Int → Int) (pm_0 : Int) (alive_0 : Int → Int) (row_0 : Int → Int) (rowMany_0 : Int) (onlyPiece_0 : Int) (drawnNode_0 : Int → Int) (drawnEdge_0 : Int → Int) (pieceOf_0 : Int → Int) (bestWay_0 : Int → Int) (gx : Int) (k1 : 0 ≤ x1 ∧ x1 ≤ 30) (k2 : 0 ≤ x2 ∧ x2 ≤ 24) (k3 : 0 ≤ x3 ∧ x3 ≤ 25) (k4 : (-2) ≤ x4 ∧ x4 ≤ 26) (k5 : 0 ≤ x5 ∧ x5 ≤ 25) (k6 : 1 ≤ x6 ∧ x6 ≤ 25) (d0 : x2 + 1 ≤ x6 ∧ x6 ≤ x2 + 1) (d1 : x5 + 0 ≤ x3 ∧ x3 ≤ x5 + 4294967296) (f0 : x6 = x2 + 1) (f1 : x5 ≤ x3) (g2 : x5 = pn_0) (f3 : GOK (pn_0) (pm_0) (pt_0) (ph_0)) (f4 : STB (pn_0) (pm_0) (pt_0) (ph_0) (alive_0)) (f5 : STR (pn_0) (rowMany_0) (pt_0) (ph_0) (row_0)) (f6 : onlyPiece_0 = (-1)) (f7 : (-1) * rowMany_0 + ((-1) * x4 + 0) ≤ (-26)) (f8 : DRR (pn_0) (rowMany_0) (drawnNode_0) (row_0)) (f9 : DEM (pm_0) (pt_0) (ph_0) (drawnNode_0) (drawnEdge_0)) (f10 : UA (pm_0) (alive_0) (drawnEdge_0)) (f11 : (rowMany_0 + 1) ≤ pn_0) (f12 : SB1 (pn_0) (pm_0) (onlyPiece_0) (pt_0) (ph_0) (drawnEdge_0) (pieceOf_0) (drawnNode_0) (bestWay_0) (x1) (x2) (x3)) (f13 : 1 * x2 + ((-1) * pn_0 + 0) ≤ (-1)) (f14 : drawnNode_0 (x2) ≠ 0) (hK_0_33 : ∀ j : Int, 0 ≤ j → j < 80 → 0 ≤ pt_0 j ∧ pt_0 j ≤ 24) (hK_0_34 : ∀ j : Int, 0 ≤ j → j < 80 → 0 ≤ ph_0 j ∧ ph_0 j ≤ 24) (hK_0_35 : ∀ j : Int, 0 ≤ j → j < 80 → 0 ≤ alive_0 j ∧ alive_0 j ≤ 1) (hK_0_42 : ∀ j : Int, 0 ≤ j → j < 26 → 0 ≤ drawnNode_0 j ∧ drawnNode_0 j ≤ 1) (hK_0_43 : ∀ j : Int, 0 ≤ j → j < 80 → 0 ≤ drawnEdge_0 j ∧ drawnEdge_0 j ≤ 1) (hK_0_44 : ∀ j : Int, 0 ≤ j → j < 80 → (-1) ≤ pieceOf_0 j ∧ pieceOf_0 j ≤ 79) (hK_0_52 : ∀ j : Int, 0 ≤ j → j < 30 → 0 ≤ bestWay_0 j ∧ bestWay_0 j ≤ 24) (hK_0_117 : ∀ j : Int, 0 ≤ j → j < 100 → 0 ≤ row_0 j ∧ row_0 j ≤ 75) (kz_0_31 : 0 ≤ pn_0 ∧ pn_0 ≤ 25) (kz_0_32 : 0 ≤ pm_0 ∧ pm_0 ≤ 80) (kz_0_49 : (-1) ≤ onlyPiece_0 ∧ onlyPiece_0 ≤ 79) (kz_0_125 : 0 ≤ rowMany_0 ∧ rowMany_0 ≤ 100) (ex2 : gx = 0 + (1 * x4 + 0)) (ex3 : (-2) ≤ gx ∧ gx ≤ 26) : (rowMany_0 + 1) ≤ pn_0 := by
  first
    | omega
    | (have h := ‹STB _ _ _ _ _›.1.2.2; omega)
    | (have h := ‹STR _ _ _ _ _›.1; omega)
    | (have h := ‹STR _ _ _ _ _›.1
       have w := ‹STR _ _ _ _ _›.2.1 x1 (by omega) (by omega)
       omega)
    | (have h := bc_len ‹BC1 _ _ _ _ _ _ _›
       have h2 := ‹STR _ _ _ _ _›.1
       omega)
    | (have h := (sb_way ‹SB1 _ _ _ _ _ _ _ _ _ _ _ _› (by omega)).1
       have h2 := ‹STR _ _ _ _ _›.1
       omega)
    | (have h := ‹WYM _ _ _ _›.1
       have h2 := ‹STR _ _ _ _ _›.1
       omega)
set_option maxHeartbeats 4000000 in
theorem vc_Mo_stOrder_17_9 (x1 : Int) (x2 : Int) (x3 : Int) (x4 : Int) (x5 : Int) (x6 : Int) (pn_0 : Int) (pt_0 : Int → Int) (ph_0 : Int → Int) (pm_0 : Int) (alive_0 : Int → Int) (row_0 : Int → Int) (rowMany_0 : Int) (onlyPiece_0 : Int) (drawnNode_0 : Int → Int) (drawnEdge_0 : Int → Int) (pieceOf_0 : Int → Int) (bestWay_0 : Int → Int) (gx : Int) (k1 : 0 ≤ x1 ∧ x1 ≤ 30) (k2 : 0 ≤ x2 ∧ x2 ≤ 24) (k3 : 0 ≤ x3 ∧ x3 ≤ 25) (k4 : (-2) ≤ x4 ∧ x4 ≤ 26) (k5 : 0 ≤ x5 ∧ x5 ≤ 25) (k6 : 1 ≤ x6 ∧ x6 ≤ 25) (d0 : x2 + 1 ≤ x6 ∧ x6 ≤ x2 + 1) (d1 : x5 + 0 ≤ x3 ∧ x3 ≤ x5 + 4294967296) (f0 : x6 = x2 + 1) (f1 : x5 ≤ x3) (g2 : x5 = pn_0) (f3 : GOK (pn_0) (pm_0) (pt_0) (ph_0)) (f4 : STB (pn_0) (pm_0) (pt_0) (ph_0) (alive_0)) (f5 : STR (pn_0) (rowMany_0) (pt_0) (ph_0) (row_0)) (f6 : onlyPiece_0 = (-1)) (f7 : (-1) * rowMany_0 + ((-1) * x4 + 0) ≤ (-26)) (f8 : DRR (pn_0) (rowMany_0) (drawnNode_0) (row_0)) (f9 : DEM (pm_0) (pt_0) (ph_0) (drawnNode_0) (drawnEdge_0)) (f10 : UA (pm_0) (alive_0) (drawnEdge_0)) (f11 : (rowMany_0 + 1) ≤ pn_0) (f12 : SB1 (pn_0) (pm_0) (onlyPiece_0) (pt_0) (ph_0) (drawnEdge_0) (pieceOf_0) (drawnNode_0) (bestWay_0) (x1) (x2) (x3)) (f13 : 1 * x2 + ((-1) * pn_0 + 0) ≤ (-1)) (f14 : drawnNode_0 (x2) ≠ 0) (hK_0_33 : ∀ j : Int, 0 ≤ j → j < 80 → 0 ≤ pt_0 j ∧ pt_0 j ≤ 24) (hK_0_34 : ∀ j : Int, 0 ≤ j → j < 80 → 0 ≤ ph_0 j ∧ ph_0 j ≤ 24) (hK_0_35 : ∀ j : Int, 0 ≤ j → j < 80 → 0 ≤ alive_0 j ∧ alive_0 j ≤ 1) (hK_0_42 : ∀ j : Int, 0 ≤ j → j < 26 → 0 ≤ drawnNode_0 j ∧ drawnNode_0 j ≤ 1) (hK_0_43 : ∀ j : Int, 0 ≤ j → j < 80 → 0 ≤ drawnEdge_0 j ∧ drawnEdge_0 j ≤ 1) (hK_0_44 : ∀ j : Int, 0 ≤ j → j < 80 → (-1) ≤ pieceOf_0 j ∧ pieceOf_0 j ≤ 79) (hK_0_52 : ∀ j : Int, 0 ≤ j → j < 30 → 0 ≤ bestWay_0 j ∧ bestWay_0 j ≤ 24) (hK_0_117 : ∀ j : Int, 0 ≤ j → j < 100 → 0 ≤ row_0 j ∧ row_0 j ≤ 75) (kz_0_31 : 0 ≤ pn_0 ∧ pn_0 ≤ 25) (kz_0_32 : 0 ≤ pm_0 ∧ pm_0 ≤ 80) (kz_0_49 : (-1) ≤ onlyPiece_0 ∧ onlyPiece_0 ≤ 79) (kz_0_125 : 0 ≤ rowMany_0 ∧ rowMany_0 ≤ 100) (ex2 : gx = 0 + (1 * x4 + 0)) (ex3 : (-2) ≤ gx ∧ gx ≤ 26) : SA1 (pn_0) (pm_0) (onlyPiece_0) (pt_0) (ph_0) (drawnEdge_0) (pieceOf_0) (drawnNode_0) (bestWay_0) (x1) (x6) := by
  first
    | exact sa_0 (by omega) (by omega) (by omega)
    | exact sa_skip ‹SA1 _ _ _ _ _ _ _ _ _ _ _› (by omega) (by omega)
    | exact sa_next ‹SB1 _ _ _ _ _ _ _ _ _ _ _ _› (by omega) (by omega)
def o_Mo_stOrder_17 : or_T := (155, 7, [(0, (2, 0, 0, [165])), (1, (0, 0, 30, [])), (2, (0, 0, 24, [])), (3, (0, 0, 25, [])), (4, (0, -2, 26, [])), (5, (0, 0, 25, [])), (6, (0, 1, 25, []))], [(6, [6, 2], [1]), (7, [3, 5], [3]), (9, [5, 0], [31]), (20, [0], [60, 2, 2, 75, 31, 32, 33, 34]), (20, [0], [60, 2, 3, 297, 31, 32, 33, 34, 35]), (20, [0], [60, 2, 3, 298, 31, 125, 33, 34, 117]), (20, [0], [50, 1, 0, 49, 1, 3, 2, 0, 49, 0, -1]), (20, [0, 4], [30, -26, -1, 1, 125, -1, 0, 0]), (20, [0], [60, 2, 2, 301, 31, 125, 42, 117]), (20, [0], [60, 1, 4, 303, 32, 33, 34, 42, 43]), (20, [0], [60, 1, 2, 122, 32, 35, 43]), (20, [0], [50, 2, 0, 125, 31, 0, 7, 4, 3, 2, 0, 125, 0, 1, 2, 0, 31]), (20, [0, 1, 2, 3], [60, 3, 6, 306, 31, 32, 49, 33, 34, 43, 44, 42, 52]), (20, [2, 0], [30, -1, 1, 0, 0, -1, 1, 31]), (20, [0, 2], [50, 0, 1, 42, 7, 5, 3, 0, 42, 1, 1, 0, 0])], [], [(0, -2, 26, [])], [(20, [0], [60, 2, 2, 75, 31, 32, 33, 34]), (20, [0], [60, 2, 3, 297, 31, 32, 33, 34, 35]), (20, [0], [60, 2, 3, 298, 31, 125, 33, 34, 117]), (20, [0], [50, 1, 0, 49, 1, 3, 2, 0, 49, 0, -1]), (20, [0, 7], [30, -26, -1, 1, 125, -1, 0, 0]), (20, [0], [60, 2, 2, 301, 31, 125, 42, 117]), (20, [0], [60, 1, 4, 303, 32, 33, 34, 42, 43]), (20, [0], [60, 1, 2, 122, 32, 35, 43]), (20, [0], [50, 2, 0, 125, 31, 0, 7, 4, 3, 2, 0, 125, 0, 1, 2, 0, 31]), (20, [0, 1, 6], [60, 3, 6, 305, 31, 32, 49, 33, 34, 43, 44, 42, 52])], [(7, 4, 0, 0)], [(6, 2, 1, 1), (3, 5, 0, 4294967296)])
theorem oo_Mo_stOrder_17 {kA : Nat → ClassId} : or_ok PRD kA GG o_Mo_stOrder_17 := by
  refine or_mk fun A ta ws vs hD hth hl => ?_
  intro t0 r0 t1 k1 t2 k2 t3 k3 t4 k4 t5 k5 t6 k6 d0 d1 f0 f1 f2 f3 f4 f5 f6 f7 f8 f9 f10 f11 f12 f13 f14
  replace f0 := shm_4 f0
  replace f1 := shm_2 f1
  replace f2 := shm_577 f2
  replace f3 := shm_575 f3
  replace f4 := shm_1749 f4
  replace f5 := shm_1001 f5
  replace f6 := shm_1675 f6
  replace f7 := shm_1750 f7
  replace f8 := shm_1755 f8
  replace f9 := shm_1757 f9
  replace f10 := shm_1455 f10
  replace f11 := shm_1752 f11
  replace f12 := shm_1761 f12
  replace f13 := shm_553 f13
  replace f14 := shm_1762 f14
  have cr_0_33 := fdq_117 hD hth r0
  have cr_0_34 := fdq_118 hD hth r0
  have cr_0_35 := fdq_132 hD hth r0
  have cr_0_42 := fdq_136 hD hth r0
  have cr_0_43 := fdq_137 hD hth r0
  have cr_0_44 := fdq_138 hD hth r0
  have cr_0_52 := fdq_236 hD hth r0
  have cr_0_117 := fdq_181 hD hth r0
  have g2 : v_iv (n_v vs 5) = w_fi ws (n_v vs 0) 31 := congrArg v_iv f2
  have hK_0_33 := elq_60 hD hth cr_0_33
  have hK_0_34 := elq_61 hD hth cr_0_34
  have hK_0_35 := elq_72 hD hth cr_0_35
  have hK_0_42 := elq_75 hD hth cr_0_42
  have hK_0_43 := elq_76 hD hth cr_0_43
  have hK_0_44 := elq_77 hD hth cr_0_44
  have hK_0_52 := elq_147 hD hth cr_0_52
  have hK_0_117 := elq_108 hD hth cr_0_117
  have kz_0_31 := fdq_145 hD hth r0
  have kz_0_32 := fdq_140 hD hth r0
  have kz_0_49 := fdq_146 hD hth r0
  have kz_0_125 := fdq_182 hD hth r0
  obtain ⟨x, ex, hx⟩ := iv_ex (ta := ta) (lo := (-2)) (hi := 26) (z := 0 + (1 * v_iv (n_v vs 4) + 0)) (by omega) (by omega) (by omega) (by omega)
  have ex2 : v_iv (Value.int x) = 0 + (1 * v_iv (n_v vs 4) + 0) := ex
  have ex3 : (-2) ≤ v_iv (Value.int x) ∧ v_iv (Value.int x) ≤ 26 := tv_rng hx
  have e_0 : n_v (vs ++ [Value.int x]) 0 = n_v vs 0 := n_v_old (by rw [hl]; decide)
  have e_1 : n_v (vs ++ [Value.int x]) 1 = n_v vs 1 := n_v_old (by rw [hl]; decide)
  have e_6 : n_v (vs ++ [Value.int x]) 6 = n_v vs 6 := n_v_old (by rw [hl]; decide)
  have e_7 : n_v (vs ++ [Value.int x]) 7 = Value.int x := n_v_new hl
  have nf0 : fc_1 PRD (20, [0], [60, 2, 2, 75, 31, 32, 33, 34]) ws (vs ++ [Value.int x]) := by
    refine ⟨nf_inA hl rfl, sgq_575 ?_⟩
    · show GOK (w_fi ws (n_v (vs ++ [Value.int x]) 0) 31) (w_fi ws (n_v (vs ++ [Value.int x]) 0) 32) (w_ei ws (w_ar ws (n_v (vs ++ [Value.int x]) 0) 33)) (w_ei ws (w_ar ws (n_v (vs ++ [Value.int x]) 0) 34))
      rw [e_0]
      exact vc_Mo_stOrder_17_0 (v_iv (n_v vs 1)) (v_iv (n_v vs 2)) (v_iv (n_v vs 3)) (v_iv (n_v vs 4)) (v_iv (n_v vs 5)) (v_iv (n_v vs 6)) (w_fi ws (n_v vs 0) 31) (w_ei ws (w_ar ws (n_v vs 0) 33)) (w_ei ws (w_ar ws (n_v vs 0) 34)) (w_fi ws (n_v vs 0) 32) (w_ei ws (w_ar ws (n_v vs 0) 35)) (w_ei ws (w_ar ws (n_v vs 0) 117)) (w_fi ws (n_v vs 0) 125) (w_fi ws (n_v vs 0) 49) (w_ei ws (w_ar ws (n_v vs 0) 42)) (w_ei ws (w_ar ws (n_v vs 0) 43)) (w_ei ws (w_ar ws (n_v vs 0) 44)) (w_ei ws (w_ar ws (n_v vs 0) 52)) (v_iv (Value.int x)) k1 k2 k3 k4 k5 k6 d0 d1 f0 f1 g2 f3 f4 f5 f6 f7 f8 f9 f10 f11 f12 f13 f14 hK_0_33 hK_0_34 hK_0_35 hK_0_42 hK_0_43 hK_0_44 hK_0_52 hK_0_117 kz_0_31 kz_0_32 kz_0_49 kz_0_125 ex2 ex3
  have nf1 : fc_1 PRD (20, [0], [60, 2, 3, 297, 31, 32, 33, 34, 35]) ws (vs ++ [Value.int x]) := by
    refine ⟨nf_inA hl rfl, sgq_1749 ?_⟩
    · show STB (w_fi ws (n_v (vs ++ [Value.int x]) 0) 31) (w_fi ws (n_v (vs ++ [Value.int x]) 0) 32) (w_ei ws (w_ar ws (n_v (vs ++ [Value.int x]) 0) 33)) (w_ei ws (w_ar ws (n_v (vs ++ [Value.int x]) 0) 34)) (w_ei ws (w_ar ws (n_v (vs ++ [Value.int x]) 0) 35))
      rw [e_0]
      exact vc_Mo_stOrder_17_1 (v_iv (n_v vs 1)) (v_iv (n_v vs 2)) (v_iv (n_v vs 3)) (v_iv (n_v vs 4)) (v_iv (n_v vs 5)) (v_iv (n_v vs 6)) (w_fi ws (n_v vs 0) 31) (w_ei ws (w_ar ws (n_v vs 0) 33)) (w_ei ws (w_ar ws (n_v vs 0) 34)) (w_fi ws (n_v vs 0) 32) (w_ei ws (w_ar ws (n_v vs 0) 35)) (w_ei ws (w_ar ws (n_v vs 0) 117)) (w_fi ws (n_v vs 0) 125) (w_fi ws (n_v vs 0) 49) (w_ei ws (w_ar ws (n_v vs 0) 42)) (w_ei ws (w_ar ws (n_v vs 0) 43)) (w_ei ws (w_ar ws (n_v vs 0) 44)) (w_ei ws (w_ar ws (n_v vs 0) 52)) (v_iv (Value.int x)) k1 k2 k3 k4 k5 k6 d0 d1 f0 f1 g2 f3 f4 f5 f6 f7 f8 f9 f10 f11 f12 f13 f14 hK_0_33 hK_0_34 hK_0_35 hK_0_42 hK_0_43 hK_0_44 hK_0_52 hK_0_117 kz_0_31 kz_0_32 kz_0_49 kz_0_125 ex2 ex3
  have nf2 : fc_1 PRD (20, [0], [60, 2, 3, 298, 31, 125, 33, 34, 117]) ws (vs ++ [Value.int x]) := by
    refine ⟨nf_inA hl rfl, sgq_1001 ?_⟩
    · show STR (w_fi ws (n_v (vs ++ [Value.int x]) 0) 31) (w_fi ws (n_v (vs ++ [Value.int x]) 0) 125) (w_ei ws (w_ar ws (n_v (vs ++ [Value.int x]) 0) 33)) (w_ei ws (w_ar ws (n_v (vs ++ [Value.int x]) 0) 34)) (w_ei ws (w_ar ws (n_v (vs ++ [Value.int x]) 0) 117))
      rw [e_0]
      exact vc_Mo_stOrder_17_2 (v_iv (n_v vs 1)) (v_iv (n_v vs 2)) (v_iv (n_v vs 3)) (v_iv (n_v vs 4)) (v_iv (n_v vs 5)) (v_iv (n_v vs 6)) (w_fi ws (n_v vs 0) 31) (w_ei ws (w_ar ws (n_v vs 0) 33)) (w_ei ws (w_ar ws (n_v vs 0) 34)) (w_fi ws (n_v vs 0) 32) (w_ei ws (w_ar ws (n_v vs 0) 35)) (w_ei ws (w_ar ws (n_v vs 0) 117)) (w_fi ws (n_v vs 0) 125) (w_fi ws (n_v vs 0) 49) (w_ei ws (w_ar ws (n_v vs 0) 42)) (w_ei ws (w_ar ws (n_v vs 0) 43)) (w_ei ws (w_ar ws (n_v vs 0) 44)) (w_ei ws (w_ar ws (n_v vs 0) 52)) (v_iv (Value.int x)) k1 k2 k3 k4 k5 k6 d0 d1 f0 f1 g2 f3 f4 f5 f6 f7 f8 f9 f10 f11 f12 f13 f14 hK_0_33 hK_0_34 hK_0_35 hK_0_42 hK_0_43 hK_0_44 hK_0_52 hK_0_117 kz_0_31 kz_0_32 kz_0_49 kz_0_125 ex2 ex3
  have nf3 : fc_1 PRD (20, [0], [50, 1, 0, 49, 1, 3, 2, 0, 49, 0, -1]) ws (vs ++ [Value.int x]) := by
    refine ⟨nf_inA hl rfl, sgq_1675 ?_⟩
    · show w_fi ws (n_v (vs ++ [Value.int x]) 0) 49 = (-1)
      rw [e_0]
      exact vc_Mo_stOrder_17_3 (v_iv (n_v vs 1)) (v_iv (n_v vs 2)) (v_iv (n_v vs 3)) (v_iv (n_v vs 4)) (v_iv (n_v vs 5)) (v_iv (n_v vs 6)) (w_fi ws (n_v vs 0) 31) (w_ei ws (w_ar ws (n_v vs 0) 33)) (w_ei ws (w_ar ws (n_v vs 0) 34)) (w_fi ws (n_v vs 0) 32) (w_ei ws (w_ar ws (n_v vs 0) 35)) (w_ei ws (w_ar ws (n_v vs 0) 117)) (w_fi ws (n_v vs 0) 125) (w_fi ws (n_v vs 0) 49) (w_ei ws (w_ar ws (n_v vs 0) 42)) (w_ei ws (w_ar ws (n_v vs 0) 43)) (w_ei ws (w_ar ws (n_v vs 0) 44)) (w_ei ws (w_ar ws (n_v vs 0) 52)) (v_iv (Value.int x)) k1 k2 k3 k4 k5 k6 d0 d1 f0 f1 g2 f3 f4 f5 f6 f7 f8 f9 f10 f11 f12 f13 f14 hK_0_33 hK_0_34 hK_0_35 hK_0_42 hK_0_43 hK_0_44 hK_0_52 hK_0_117 kz_0_31 kz_0_32 kz_0_49 kz_0_125 ex2 ex3
  have nf4 : fc_1 PRD (20, [0, 7], [30, -26, -1, 1, 125, -1, 0, 0]) ws (vs ++ [Value.int x]) := by
    refine ⟨nf_inA hl rfl, sgq_1750 ?_⟩
    · show (-1) * w_fi ws (n_v (vs ++ [Value.int x]) 0) 125 + ((-1) * v_iv (n_v (vs ++ [Value.int x]) 7) + 0) ≤ (-26)
      simp only [e_0, e_7]
      exact vc_Mo_stOrder_17_4 (v_iv (n_v vs 1)) (v_iv (n_v vs 2)) (v_iv (n_v vs 3)) (v_iv (n_v vs 4)) (v_iv (n_v vs 5)) (v_iv (n_v vs 6)) (w_fi ws (n_v vs 0) 31) (w_ei ws (w_ar ws (n_v vs 0) 33)) (w_ei ws (w_ar ws (n_v vs 0) 34)) (w_fi ws (n_v vs 0) 32) (w_ei ws (w_ar ws (n_v vs 0) 35)) (w_ei ws (w_ar ws (n_v vs 0) 117)) (w_fi ws (n_v vs 0) 125) (w_fi ws (n_v vs 0) 49) (w_ei ws (w_ar ws (n_v vs 0) 42)) (w_ei ws (w_ar ws (n_v vs 0) 43)) (w_ei ws (w_ar ws (n_v vs 0) 44)) (w_ei ws (w_ar ws (n_v vs 0) 52)) (v_iv (Value.int x)) k1 k2 k3 k4 k5 k6 d0 d1 f0 f1 g2 f3 f4 f5 f6 f7 f8 f9 f10 f11 f12 f13 f14 hK_0_33 hK_0_34 hK_0_35 hK_0_42 hK_0_43 hK_0_44 hK_0_52 hK_0_117 kz_0_31 kz_0_32 kz_0_49 kz_0_125 ex2 ex3
  have nf5 : fc_1 PRD (20, [0], [60, 2, 2, 301, 31, 125, 42, 117]) ws (vs ++ [Value.int x]) := by
    refine ⟨nf_inA hl rfl, sgq_1755 ?_⟩
    · show DRR (w_fi ws (n_v (vs ++ [Value.int x]) 0) 31) (w_fi ws (n_v (vs ++ [Value.int x]) 0) 125) (w_ei ws (w_ar ws (n_v (vs ++ [Value.int x]) 0) 42)) (w_ei ws (w_ar ws (n_v (vs ++ [Value.int x]) 0) 117))
      rw [e_0]
      exact vc_Mo_stOrder_17_5 (v_iv (n_v vs 1)) (v_iv (n_v vs 2)) (v_iv (n_v vs 3)) (v_iv (n_v vs 4)) (v_iv (n_v vs 5)) (v_iv (n_v vs 6)) (w_fi ws (n_v vs 0) 31) (w_ei ws (w_ar ws (n_v vs 0) 33)) (w_ei ws (w_ar ws (n_v vs 0) 34)) (w_fi ws (n_v vs 0) 32) (w_ei ws (w_ar ws (n_v vs 0) 35)) (w_ei ws (w_ar ws (n_v vs 0) 117)) (w_fi ws (n_v vs 0) 125) (w_fi ws (n_v vs 0) 49) (w_ei ws (w_ar ws (n_v vs 0) 42)) (w_ei ws (w_ar ws (n_v vs 0) 43)) (w_ei ws (w_ar ws (n_v vs 0) 44)) (w_ei ws (w_ar ws (n_v vs 0) 52)) (v_iv (Value.int x)) k1 k2 k3 k4 k5 k6 d0 d1 f0 f1 g2 f3 f4 f5 f6 f7 f8 f9 f10 f11 f12 f13 f14 hK_0_33 hK_0_34 hK_0_35 hK_0_42 hK_0_43 hK_0_44 hK_0_52 hK_0_117 kz_0_31 kz_0_32 kz_0_49 kz_0_125 ex2 ex3
  have nf6 : fc_1 PRD (20, [0], [60, 1, 4, 303, 32, 33, 34, 42, 43]) ws (vs ++ [Value.int x]) := by
    refine ⟨nf_inA hl rfl, sgq_1757 ?_⟩
    · show DEM (w_fi ws (n_v (vs ++ [Value.int x]) 0) 32) (w_ei ws (w_ar ws (n_v (vs ++ [Value.int x]) 0) 33)) (w_ei ws (w_ar ws (n_v (vs ++ [Value.int x]) 0) 34)) (w_ei ws (w_ar ws (n_v (vs ++ [Value.int x]) 0) 42)) (w_ei ws (w_ar ws (n_v (vs ++ [Value.int x]) 0) 43))
      rw [e_0]
      exact vc_Mo_stOrder_17_6 (v_iv (n_v vs 1)) (v_iv (n_v vs 2)) (v_iv (n_v vs 3)) (v_iv (n_v vs 4)) (v_iv (n_v vs 5)) (v_iv (n_v vs 6)) (w_fi ws (n_v vs 0) 31) (w_ei ws (w_ar ws (n_v vs 0) 33)) (w_ei ws (w_ar ws (n_v vs 0) 34)) (w_fi ws (n_v vs 0) 32) (w_ei ws (w_ar ws (n_v vs 0) 35)) (w_ei ws (w_ar ws (n_v vs 0) 117)) (w_fi ws (n_v vs 0) 125) (w_fi ws (n_v vs 0) 49) (w_ei ws (w_ar ws (n_v vs 0) 42)) (w_ei ws (w_ar ws (n_v vs 0) 43)) (w_ei ws (w_ar ws (n_v vs 0) 44)) (w_ei ws (w_ar ws (n_v vs 0) 52)) (v_iv (Value.int x)) k1 k2 k3 k4 k5 k6 d0 d1 f0 f1 g2 f3 f4 f5 f6 f7 f8 f9 f10 f11 f12 f13 f14 hK_0_33 hK_0_34 hK_0_35 hK_0_42 hK_0_43 hK_0_44 hK_0_52 hK_0_117 kz_0_31 kz_0_32 kz_0_49 kz_0_125 ex2 ex3
  have nf7 : fc_1 PRD (20, [0], [60, 1, 2, 122, 32, 35, 43]) ws (vs ++ [Value.int x]) := by
    refine ⟨nf_inA hl rfl, sgq_1455 ?_⟩
    · show UA (w_fi ws (n_v (vs ++ [Value.int x]) 0) 32) (w_ei ws (w_ar ws (n_v (vs ++ [Value.int x]) 0) 35)) (w_ei ws (w_ar ws (n_v (vs ++ [Value.int x]) 0) 43))
      rw [e_0]
      exact vc_Mo_stOrder_17_7 (v_iv (n_v vs 1)) (v_iv (n_v vs 2)) (v_iv (n_v vs 3)) (v_iv (n_v vs 4)) (v_iv (n_v vs 5)) (v_iv (n_v vs 6)) (w_fi ws (n_v vs 0) 31) (w_ei ws (w_ar ws (n_v vs 0) 33)) (w_ei ws (w_ar ws (n_v vs 0) 34)) (w_fi ws (n_v vs 0) 32) (w_ei ws (w_ar ws (n_v vs 0) 35)) (w_ei ws (w_ar ws (n_v vs 0) 117)) (w_fi ws (n_v vs 0) 125) (w_fi ws (n_v vs 0) 49) (w_ei ws (w_ar ws (n_v vs 0) 42)) (w_ei ws (w_ar ws (n_v vs 0) 43)) (w_ei ws (w_ar ws (n_v vs 0) 44)) (w_ei ws (w_ar ws (n_v vs 0) 52)) (v_iv (Value.int x)) k1 k2 k3 k4 k5 k6 d0 d1 f0 f1 g2 f3 f4 f5 f6 f7 f8 f9 f10 f11 f12 f13 f14 hK_0_33 hK_0_34 hK_0_35 hK_0_42 hK_0_43 hK_0_44 hK_0_52 hK_0_117 kz_0_31 kz_0_32 kz_0_49 kz_0_125 ex2 ex3
  have nf8 : fc_1 PRD (20, [0], [50, 2, 0, 125, 31, 0, 7, 4, 3, 2, 0, 125, 0, 1, 2, 0, 31]) ws (vs ++ [Value.int x]) := by
    refine ⟨nf_inA hl rfl, sgq_1752 ?_⟩
    · show (w_fi ws (n_v (vs ++ [Value.int x]) 0) 125 + 1) ≤ w_fi ws (n_v (vs ++ [Value.int x]) 0) 31
      rw [e_0]
      exact vc_Mo_stOrder_17_8 (v_iv (n_v vs 1)) (v_iv (n_v vs 2)) (v_iv (n_v vs 3)) (v_iv (n_v vs 4)) (v_iv (n_v vs 5)) (v_iv (n_v vs 6)) (w_fi ws (n_v vs 0) 31) (w_ei ws (w_ar ws (n_v vs 0) 33)) (w_ei ws (w_ar ws (n_v vs 0) 34)) (w_fi ws (n_v vs 0) 32) (w_ei ws (w_ar ws (n_v vs 0) 35)) (w_ei ws (w_ar ws (n_v vs 0) 117)) (w_fi ws (n_v vs 0) 125) (w_fi ws (n_v vs 0) 49) (w_ei ws (w_ar ws (n_v vs 0) 42)) (w_ei ws (w_ar ws (n_v vs 0) 43)) (w_ei ws (w_ar ws (n_v vs 0) 44)) (w_ei ws (w_ar ws (n_v vs 0) 52)) (v_iv (Value.int x)) k1 k2 k3 k4 k5 k6 d0 d1 f0 f1 g2 f3 f4 f5 f6 f7 f8 f9 f10 f11 f12 f13 f14 hK_0_33 hK_0_34 hK_0_35 hK_0_42 hK_0_43 hK_0_44 hK_0_52 hK_0_117 kz_0_31 kz_0_32 kz_0_49 kz_0_125 ex2 ex3
  have nf9 : fc_1 PRD (20, [0, 1, 6], [60, 3, 6, 305, 31, 32, 49, 33, 34, 43, 44, 42, 52]) ws (vs ++ [Value.int x]) := by
    refine ⟨nf_inA hl rfl, sgq_1758 ?_⟩
    · show SA1 (w_fi ws (n_v (vs ++ [Value.int x]) 0) 31) (w_fi ws (n_v (vs ++ [Value.int x]) 0) 32) (w_fi ws (n_v (vs ++ [Value.int x]) 0) 49) (w_ei ws (w_ar ws (n_v (vs ++ [Value.int x]) 0) 33)) (w_ei ws (w_ar ws (n_v (vs ++ [Value.int x]) 0) 34)) (w_ei ws (w_ar ws (n_v (vs ++ [Value.int x]) 0) 43)) (w_ei ws (w_ar ws (n_v (vs ++ [Value.int x]) 0) 44)) (w_ei ws (w_ar ws (n_v (vs ++ [Value.int x]) 0) 42)) (w_ei ws (w_ar ws (n_v (vs ++ [Value.int x]) 0) 52)) (v_iv (n_v (vs ++ [Value.int x]) 1)) (v_iv (n_v (vs ++ [Value.int x]) 6))
      simp only [e_0, e_1, e_6]
      exact vc_Mo_stOrder_17_9 (v_iv (n_v vs 1)) (v_iv (n_v vs 2)) (v_iv (n_v vs 3)) (v_iv (n_v vs 4)) (v_iv (n_v vs 5)) (v_iv (n_v vs 6)) (w_fi ws (n_v vs 0) 31) (w_ei ws (w_ar ws (n_v vs 0) 33)) (w_ei ws (w_ar ws (n_v vs 0) 34)) (w_fi ws (n_v vs 0) 32) (w_ei ws (w_ar ws (n_v vs 0) 35)) (w_ei ws (w_ar ws (n_v vs 0) 117)) (w_fi ws (n_v vs 0) 125) (w_fi ws (n_v vs 0) 49) (w_ei ws (w_ar ws (n_v vs 0) 42)) (w_ei ws (w_ar ws (n_v vs 0) 43)) (w_ei ws (w_ar ws (n_v vs 0) 44)) (w_ei ws (w_ar ws (n_v vs 0) 52)) (v_iv (Value.int x)) k1 k2 k3 k4 k5 k6 d0 d1 f0 f1 g2 f3 f4 f5 f6 f7 f8 f9 f10 f11 f12 f13 f14 hK_0_33 hK_0_34 hK_0_35 hK_0_42 hK_0_43 hK_0_44 hK_0_52 hK_0_117 kz_0_31 kz_0_32 kz_0_49 kz_0_125 ex2 ex3
  obtain ⟨x0, e0, _, _⟩ := tv_int t4 rfl
  have e1 : v_iv (n_v vs 4) = x0.toInt := by rw [e0]; rfl
  have ho : sy_ofs (vs ++ [Value.int x]) (7, 4, 0, 0) := by
    refine ⟨x, x0, by rw [List.getElem?_append_right (by rw [hl]; decide), hl]; rfl, ?_, ?_, ?_⟩
    · rw [List.getElem?_append_left (by rw [hl]; decide)]; exact n_v_some (by rw [hl]; decide) e0
    · show x0.toInt + 0 ≤ x.toInt; omega
    · show x.toInt ≤ x0.toInt + 0; omega
  exact ⟨(fun _ h => (by cases h)), [Value.int x], ag_one hx, List.forall_mem_cons.mpr ⟨⟨show (20 : Nat) < 100 from by decide, nf0⟩, List.forall_mem_cons.mpr ⟨⟨show (20 : Nat) < 100 from by decide, nf1⟩, List.forall_mem_cons.mpr ⟨⟨show (20 : Nat) < 100 from by decide, nf2⟩, List.forall_mem_cons.mpr ⟨⟨show (20 : Nat) < 100 from by decide, nf3⟩, List.forall_mem_cons.mpr ⟨⟨show (20 : Nat) < 100 from by decide, nf4⟩, List.forall_mem_cons.mpr ⟨⟨show (20 : Nat) < 100 from by decide, nf5⟩, List.forall_mem_cons.mpr ⟨⟨show (20 : Nat) < 100 from by decide, nf6⟩, List.forall_mem_cons.mpr ⟨⟨show (20 : Nat) < 100 from by decide, nf7⟩, List.forall_mem_cons.mpr ⟨⟨show (20 : Nat) < 100 from by decide, nf8⟩, List.forall_mem_cons.mpr ⟨⟨show (20 : Nat) < 100 from by decide, nf9⟩, (fun _ h => (by cases h))⟩⟩⟩⟩⟩⟩⟩⟩⟩⟩, List.forall_mem_cons.mpr ⟨ho, (fun _ h => (by cases h))⟩⟩
set_option maxHeartbeats 4000000 in
theorem vc_Mo_stOrder_18_0 (x1 : Int) (x2 : Int) (x3 : Int) (x4 : Int) (x5 : Int) (x6 : Int) (pn_0 : Int) (pt_0 : Int → Int) (ph_0 : Int → Int) (pm_0 : Int) (alive_0 : Int → Int) (row_0 : Int → Int) (rowMany_0 : Int) (onlyPiece_0 : Int) (drawnNode_0 : Int → Int) (drawnEdge_0 : Int → Int) (pieceOf_0 : Int → Int) (bestWay_0 : Int → Int) (k1 : 0 ≤ x1 ∧ x1 ≤ 30) (k2 : 0 ≤ x2 ∧ x2 ≤ 24) (k3 : 0 ≤ x3 ∧ x3 ≤ 24) (k4 : (-2) ≤ x4 ∧ x4 ≤ 26) (k5 : 1 ≤ x5 ∧ x5 ≤ 25) (k6 : 1 ≤ x6 ∧ x6 ≤ 25) (d0 : x3 + 1 ≤ x6 ∧ x6 ≤ x3 + 1) (d1 : x2 + 1 ≤ x6 ∧ x6 ≤ x2 + 1) (d2 : x5 + (-4294967296) ≤ x6 ∧ x6 ≤ x5 + 0) (d3 : x2 + 0 ≤ x3 ∧ x3 ≤ x2 + 0) (d4 : x5 + (-4294967296) ≤ x3 ∧ x3 ≤ x5 + (-1)) (f0 : x6 = x3 + 1) (f1 : x3 = x2) (f2 : x3 < x5) (g3 : x5 = pn_0) (f4 : GOK (pn_0) (pm_0) (pt_0) (ph_0)) (f5 : STB (pn_0) (pm_0) (pt_0) (ph_0) (alive_0)) (f6 : STR (pn_0) (rowMany_0) (pt_0) (ph_0) (row_0)) (f7 : onlyPiece_0 = (-1)) (f8 : (-1) * rowMany_0 + ((-1) * x4 + 0) ≤ (-26)) (f9 : DRR (pn_0) (rowMany_0) (drawnNode_0) (row_0)) (f10 : DEM (pm_0) (pt_0) (ph_0) (drawnNode_0) (drawnEdge_0)) (f11 : UA (pm_0) (alive_0) (drawnEdge_0)) (f12 : (rowMany_0 + 1) ≤ pn_0) (f13 : SB1 (pn_0) (pm_0) (onlyPiece_0) (pt_0) (ph_0) (drawnEdge_0) (pieceOf_0) (drawnNode_0) (bestWay_0) (x1) (x2) (x3)) (f14 : 1 * x2 + ((-1) * pn_0 + 0) ≤ (-1)) (f15 : drawnNode_0 (x2) ≠ 0) (hK_0_33 : ∀ j : Int, 0 ≤ j → j < 80 → 0 ≤ pt_0 j ∧ pt_0 j ≤ 24) (hK_0_34 : ∀ j : Int, 0 ≤ j → j < 80 → 0 ≤ ph_0 j ∧ ph_0 j ≤ 24) (hK_0_35 : ∀ j : Int, 0 ≤ j → j < 80 → 0 ≤ alive_0 j ∧ alive_0 j ≤ 1) (hK_0_42 : ∀ j : Int, 0 ≤ j → j < 26 → 0 ≤ drawnNode_0 j ∧ drawnNode_0 j ≤ 1) (hK_0_43 : ∀ j : Int, 0 ≤ j → j < 80 → 0 ≤ drawnEdge_0 j ∧ drawnEdge_0 j ≤ 1) (hK_0_44 : ∀ j : Int, 0 ≤ j → j < 80 → (-1) ≤ pieceOf_0 j ∧ pieceOf_0 j ≤ 79) (hK_0_52 : ∀ j : Int, 0 ≤ j → j < 30 → 0 ≤ bestWay_0 j ∧ bestWay_0 j ≤ 24) (hK_0_117 : ∀ j : Int, 0 ≤ j → j < 100 → 0 ≤ row_0 j ∧ row_0 j ≤ 75) (kz_0_31 : 0 ≤ pn_0 ∧ pn_0 ≤ 25) (kz_0_32 : 0 ≤ pm_0 ∧ pm_0 ≤ 80) (kz_0_49 : (-1) ≤ onlyPiece_0 ∧ onlyPiece_0 ≤ 79) (kz_0_125 : 0 ≤ rowMany_0 ∧ rowMany_0 ≤ 100) : SB1 (pn_0) (pm_0) (onlyPiece_0) (pt_0) (ph_0) (drawnEdge_0) (pieceOf_0) (drawnNode_0) (bestWay_0) (x1) (x2) (x6) := by
  first
    | exact sb_0 ‹SA1 _ _ _ _ _ _ _ _ _ _ _› (by omega)
    | exact sb_skip ‹SB1 _ _ _ _ _ _ _ _ _ _ _ _› (by omega) (Or.inl (by omega))
    | exact sb_skip ‹SB1 _ _ _ _ _ _ _ _ _ _ _ _› (by omega) (Or.inr (by omega))
    | exact sb_now ‹SB1 _ _ _ _ _ _ _ _ _ _ _ _› (by omega) ‹SHP _ _ _ _ _ _ _ _ _ _ _ _ _ _› (by omega) (by omega)
    | exact sb_any ‹SB1 _ _ _ _ _ _ _ _ _ _ _ _› (by omega)
    | exact Or.inr (bc_way ‹BC1 _ _ _ _ _ _ _› (by omega))
def o_Mo_stOrder_18 : or_T := (181, 7, [(0, (2, 0, 0, [165])), (1, (0, 0, 30, [])), (2, (0, 0, 24, [])), (3, (0, 0, 24, [])), (4, (0, -2, 26, [])), (5, (0, 1, 25, [])), (6, (0, 1, 25, []))], [(6, [6, 3], [1]), (7, [3, 2], [0]), (7, [3, 5], [2]), (9, [5, 0], [31]), (20, [0], [60, 2, 2, 75, 31, 32, 33, 34]), (20, [0], [60, 2, 3, 297, 31, 32, 33, 34, 35]), (20, [0], [60, 2, 3, 298, 31, 125, 33, 34, 117]), (20, [0], [50, 1, 0, 49, 1, 3, 2, 0, 49, 0, -1]), (20, [0, 4], [30, -26, -1, 1, 125, -1, 0, 0]), (20, [0], [60, 2, 2, 301, 31, 125, 42, 117]), (20, [0], [60, 1, 4, 303, 32, 33, 34, 42, 43]), (20, [0], [60, 1, 2, 122, 32, 35, 43]), (20, [0], [50, 2, 0, 125, 31, 0, 7, 4, 3, 2, 0, 125, 0, 1, 2, 0, 31]), (20, [0, 1, 2, 3], [60, 3, 6, 306, 31, 32, 49, 33, 34, 43, 44, 42, 52]), (20, [2, 0], [30, -1, 1, 0, 0, -1, 1, 31]), (20, [0, 2], [50, 0, 1, 42, 7, 5, 3, 0, 42, 1, 1, 0, 0])], [], [], [(20, [0, 1, 2, 6], [60, 3, 6, 306, 31, 32, 49, 33, 34, 43, 44, 42, 52])], [], [(6, 3, 1, 1), (6, 2, 1, 1), (6, 5, -4294967296, 0), (3, 2, 0, 0), (3, 5, -4294967296, -1)])
theorem oo_Mo_stOrder_18 {kA : Nat → ClassId} : or_ok PRD kA GG o_Mo_stOrder_18 := by
  refine or_mk fun A ta ws vs hD hth hl => ?_
  intro t0 r0 t1 k1 t2 k2 t3 k3 t4 k4 t5 k5 t6 k6 d0 d1 d2 d3 d4 f0 f1 f2 f3 f4 f5 f6 f7 f8 f9 f10 f11 f12 f13 f14 f15
  replace f3 := shm_577 f3
  have cr_0_33 := fdq_117 hD hth r0
  have cr_0_34 := fdq_118 hD hth r0
  have cr_0_35 := fdq_132 hD hth r0
  have cr_0_42 := fdq_136 hD hth r0
  have cr_0_43 := fdq_137 hD hth r0
  have cr_0_44 := fdq_138 hD hth r0
  have cr_0_52 := fdq_236 hD hth r0
  have cr_0_117 := fdq_181 hD hth r0
  have g3 : v_iv (n_v vs 5) = w_fi ws (n_v vs 0) 31 := congrArg v_iv f3
  have hK_0_33 := elq_60 hD hth cr_0_33
  have hK_0_34 := elq_61 hD hth cr_0_34
  have hK_0_35 := elq_72 hD hth cr_0_35
  have hK_0_42 := elq_75 hD hth cr_0_42
  have hK_0_43 := elq_76 hD hth cr_0_43
  have hK_0_44 := elq_77 hD hth cr_0_44
  have hK_0_52 := elq_147 hD hth cr_0_52
  have hK_0_117 := elq_108 hD hth cr_0_117
  have kz_0_31 := fdq_145 hD hth r0
  have kz_0_32 := fdq_140 hD hth r0
  have kz_0_49 := fdq_146 hD hth r0
  have kz_0_125 := fdq_182 hD hth r0
  have nf0 : fc_1 PRD (20, [0, 1, 2, 6], [60, 3, 6, 306, 31, 32, 49, 33, 34, 43, 44, 42, 52]) ws (vs) := ⟨nf_in hl rfl, sgq_1761 (vc_Mo_stOrder_18_0 (v_iv (n_v vs 1)) (v_iv (n_v vs 2)) (v_iv (n_v vs 3)) (v_iv (n_v vs 4)) (v_iv (n_v vs 5)) (v_iv (n_v vs 6)) (w_fi ws (n_v vs 0) 31) (w_ei ws (w_ar ws (n_v vs 0) 33)) (w_ei ws (w_ar ws (n_v vs 0) 34)) (w_fi ws (n_v vs 0) 32) (w_ei ws (w_ar ws (n_v vs 0) 35)) (w_ei ws (w_ar ws (n_v vs 0) 117)) (w_fi ws (n_v vs 0) 125) (w_fi ws (n_v vs 0) 49) (w_ei ws (w_ar ws (n_v vs 0) 42)) (w_ei ws (w_ar ws (n_v vs 0) 43)) (w_ei ws (w_ar ws (n_v vs 0) 44)) (w_ei ws (w_ar ws (n_v vs 0) 52)) k1 k2 k3 k4 k5 k6 d0 d1 d2 d3 d4 (shm_4 f0) (shm_37 f1) (shm_6 f2) g3 (shm_575 f4) (shm_1749 f5) (shm_1001 f6) (shm_1675 f7) (shm_1750 f8) (shm_1755 f9) (shm_1757 f10) (shm_1455 f11) (shm_1752 f12) (shm_1761 f13) (shm_553 f14) (shm_1762 f15) hK_0_33 hK_0_34 hK_0_35 hK_0_42 hK_0_43 hK_0_44 hK_0_52 hK_0_117 kz_0_31 kz_0_32 kz_0_49 kz_0_125)⟩
  refine ⟨(fun _ h => (by cases h)), [], trivial, ?_, (fun _ h => (by cases h))⟩
  rw [List.append_nil]
  exact List.forall_mem_cons.mpr ⟨⟨show (20 : Nat) < 100 from by decide, nf0⟩, (fun _ h => (by cases h))⟩

set_option maxHeartbeats 4000000 in
theorem vc_Mo_stOrder_19_0 (x1 : Int) (x2 : Int) (x3 : Int) (x4 : Int) (x5 : Int) (x7 : Int) (drawnNode_0 : Int → Int) (pn_0 : Int) (pt_0 : Int → Int) (ph_0 : Int → Int) (pm_0 : Int) (alive_0 : Int → Int) (row_0 : Int → Int) (rowMany_0 : Int) (onlyPiece_0 : Int) (drawnEdge_0 : Int → Int) (pieceOf_0 : Int → Int) (bestWay_0 : Int → Int) (k1 : 0 ≤ x1 ∧ x1 ≤ 30) (k2 : 0 ≤ x2 ∧ x2 ≤ 24) (k3 : 0 ≤ x3 ∧ x3 ≤ 24) (k4 : (-2) ≤ x4 ∧ x4 ≤ 26) (k5 : 1 ≤ x5 ∧ x5 ≤ 25) (k7 : 1 ≤ x7 ∧ x7 ≤ 1) (d0 : x5 + (-4294967296) ≤ x3 ∧ x3 ≤ x5 + (-1)) (f0 : x7 ≠ 0) (h1 : x7 = drawnNode_0 (x3)) (f3 : x3 ≠ x2) (f4 : x3 < x5) (g5 : x5 = pn_0) (f6 : GOK (pn_0) (pm_0) (pt_0) (ph_0)) (f7 : STB (pn_0) (pm_0) (pt_0) (ph_0) (alive_0)) (f8 : STR (pn_0) (rowMany_0) (pt_0) (ph_0) (row_0)) (f9 : onlyPiece_0 = (-1)) (f10 : (-1) * rowMany_0 + ((-1) * x4 + 0) ≤ (-26)) (f11 : DRR (pn_0) (rowMany_0) (drawnNode_0) (row_0)) (f12 : DEM (pm_0) (pt_0) (ph_0) (drawnNode_0) (drawnEdge_0)) (f13 : UA (pm_0) (alive_0) (drawnEdge_0)) (f14 : (rowMany_0 + 1) ≤ pn_0) (f15 : SB1 (pn_0) (pm_0) (onlyPiece_0) (pt_0) (ph_0) (drawnEdge_0) (pieceOf_0) (drawnNode_0) (bestWay_0) (x1) (x2) (x3)) (f16 : 1 * x2 + ((-1) * pn_0 + 0) ≤ (-1)) (f17 : drawnNode_0 (x2) ≠ 0) (hK_0_33 : ∀ j : Int, 0 ≤ j → j < 80 → 0 ≤ pt_0 j ∧ pt_0 j ≤ 24) (hK_0_34 : ∀ j : Int, 0 ≤ j → j < 80 → 0 ≤ ph_0 j ∧ ph_0 j ≤ 24) (hK_0_35 : ∀ j : Int, 0 ≤ j → j < 80 → 0 ≤ alive_0 j ∧ alive_0 j ≤ 1) (hK_0_42 : ∀ j : Int, 0 ≤ j → j < 26 → 0 ≤ drawnNode_0 j ∧ drawnNode_0 j ≤ 1) (hK_0_43 : ∀ j : Int, 0 ≤ j → j < 80 → 0 ≤ drawnEdge_0 j ∧ drawnEdge_0 j ≤ 1) (hK_0_44 : ∀ j : Int, 0 ≤ j → j < 80 → (-1) ≤ pieceOf_0 j ∧ pieceOf_0 j ≤ 79) (hK_0_52 : ∀ j : Int, 0 ≤ j → j < 30 → 0 ≤ bestWay_0 j ∧ bestWay_0 j ≤ 24) (hK_0_117 : ∀ j : Int, 0 ≤ j → j < 100 → 0 ≤ row_0 j ∧ row_0 j ≤ 75) (kz_0_31 : 0 ≤ pn_0 ∧ pn_0 ≤ 25) (kz_0_32 : 0 ≤ pm_0 ∧ pm_0 ≤ 80) (kz_0_49 : (-1) ≤ onlyPiece_0 ∧ onlyPiece_0 ≤ 79) (kz_0_125 : 0 ≤ rowMany_0 ∧ rowMany_0 ≤ 100) : drawnNode_0 (x3) ≠ 0 := by
  first
    | omega
    | (have h := ‹STB _ _ _ _ _›.1.2.2; omega)
    | (have h := ‹STR _ _ _ _ _›.1; omega)
    | (have h := ‹STR _ _ _ _ _›.1
       have w := ‹STR _ _ _ _ _›.2.1 x1 (by omega) (by omega)
       omega)
    | (have h := bc_len ‹BC1 _ _ _ _ _ _ _›
       have h2 := ‹STR _ _ _ _ _›.1
       omega)
    | (have h := (sb_way ‹SB1 _ _ _ _ _ _ _ _ _ _ _ _› (by omega)).1
       have h2 := ‹STR _ _ _ _ _›.1
       omega)
    | (have h := ‹WYM _ _ _ _›.1
       have h2 := ‹STR _ _ _ _ _›.1
       omega)
set_option maxHeartbeats 4000000 in
theorem vc_Mo_stOrder_19_1 (x1 : Int) (x2 : Int) (x3 : Int) (x4 : Int) (x5 : Int) (x7 : Int) (drawnNode_0 : Int → Int) (pn_0 : Int) (pt_0 : Int → Int) (ph_0 : Int → Int) (pm_0 : Int) (alive_0 : Int → Int) (row_0 : Int → Int) (rowMany_0 : Int) (onlyPiece_0 : Int) (drawnEdge_0 : Int → Int) (pieceOf_0 : Int → Int) (bestWay_0 : Int → Int) (k1 : 0 ≤ x1 ∧ x1 ≤ 30) (k2 : 0 ≤ x2 ∧ x2 ≤ 24) (k3 : 0 ≤ x3 ∧ x3 ≤ 24) (k4 : (-2) ≤ x4 ∧ x4 ≤ 26) (k5 : 1 ≤ x5 ∧ x5 ≤ 25) (k7 : 1 ≤ x7 ∧ x7 ≤ 1) (d0 : x5 + (-4294967296) ≤ x3 ∧ x3 ≤ x5 + (-1)) (f0 : x7 ≠ 0) (h1 : x7 = drawnNode_0 (x3)) (f3 : x3 ≠ x2) (f4 : x3 < x5) (g5 : x5 = pn_0) (f6 : GOK (pn_0) (pm_0) (pt_0) (ph_0)) (f7 : STB (pn_0) (pm_0) (pt_0) (ph_0) (alive_0)) (f8 : STR (pn_0) (rowMany_0) (pt_0) (ph_0) (row_0)) (f9 : onlyPiece_0 = (-1)) (f10 : (-1) * rowMany_0 + ((-1) * x4 + 0) ≤ (-26)) (f11 : DRR (pn_0) (rowMany_0) (drawnNode_0) (row_0)) (f12 : DEM (pm_0) (pt_0) (ph_0) (drawnNode_0) (drawnEdge_0)) (f13 : UA (pm_0) (alive_0) (drawnEdge_0)) (f14 : (rowMany_0 + 1) ≤ pn_0) (f15 : SB1 (pn_0) (pm_0) (onlyPiece_0) (pt_0) (ph_0) (drawnEdge_0) (pieceOf_0) (drawnNode_0) (bestWay_0) (x1) (x2) (x3)) (f16 : 1 * x2 + ((-1) * pn_0 + 0) ≤ (-1)) (f17 : drawnNode_0 (x2) ≠ 0) (hK_0_33 : ∀ j : Int, 0 ≤ j → j < 80 → 0 ≤ pt_0 j ∧ pt_0 j ≤ 24) (hK_0_34 : ∀ j : Int, 0 ≤ j → j < 80 → 0 ≤ ph_0 j ∧ ph_0 j ≤ 24) (hK_0_35 : ∀ j : Int, 0 ≤ j → j < 80 → 0 ≤ alive_0 j ∧ alive_0 j ≤ 1) (hK_0_42 : ∀ j : Int, 0 ≤ j → j < 26 → 0 ≤ drawnNode_0 j ∧ drawnNode_0 j ≤ 1) (hK_0_43 : ∀ j : Int, 0 ≤ j → j < 80 → 0 ≤ drawnEdge_0 j ∧ drawnEdge_0 j ≤ 1) (hK_0_44 : ∀ j : Int, 0 ≤ j → j < 80 → (-1) ≤ pieceOf_0 j ∧ pieceOf_0 j ≤ 79) (hK_0_52 : ∀ j : Int, 0 ≤ j → j < 30 → 0 ≤ bestWay_0 j ∧ bestWay_0 j ≤ 24) (hK_0_117 : ∀ j : Int, 0 ≤ j → j < 100 → 0 ≤ row_0 j ∧ row_0 j ≤ 75) (kz_0_31 : 0 ≤ pn_0 ∧ pn_0 ≤ 25) (kz_0_32 : 0 ≤ pm_0 ∧ pm_0 ≤ 80) (kz_0_49 : (-1) ≤ onlyPiece_0 ∧ onlyPiece_0 ≤ 79) (kz_0_125 : 0 ≤ rowMany_0 ∧ rowMany_0 ≤ 100) : 1 * x3 + ((-1) * pn_0 + 0) ≤ (-1) := by
  first
    | omega
    | (have h := ‹STB _ _ _ _ _›.1.2.2; omega)
    | (have h := ‹STR _ _ _ _ _›.1; omega)
    | (have h := ‹STR _ _ _ _ _›.1
       have w := ‹STR _ _ _ _ _›.2.1 x1 (by omega) (by omega)
       omega)
    | (have h := bc_len ‹BC1 _ _ _ _ _ _ _›
       have h2 := ‹STR _ _ _ _ _›.1
       omega)
    | (have h := (sb_way ‹SB1 _ _ _ _ _ _ _ _ _ _ _ _› (by omega)).1
       have h2 := ‹STR _ _ _ _ _›.1
       omega)
    | (have h := ‹WYM _ _ _ _›.1
       have h2 := ‹STR _ _ _ _ _›.1
       omega)
def o_Mo_stOrder_19 : or_T := (210, 9, [(0, (2, 0, 0, [165])), (1, (0, 0, 30, [])), (2, (0, 0, 24, [])), (3, (0, 0, 24, [])), (4, (0, -2, 26, [])), (5, (0, 1, 25, [])), (7, (0, 1, 1, []))], [(8, [7], [1]), (10, [7, 6, 3], []), (9, [6, 0], [42]), (7, [3, 2], [1]), (7, [3, 5], [2]), (9, [5, 0], [31]), (20, [0], [60, 2, 2, 75, 31, 32, 33, 34]), (20, [0], [60, 2, 3, 297, 31, 32, 33, 34, 35]), (20, [0], [60, 2, 3, 298, 31, 125, 33, 34, 117]), (20, [0], [50, 1, 0, 49, 1, 3, 2, 0, 49, 0, -1]), (20, [0, 4], [30, -26, -1, 1, 125, -1, 0, 0]), (20, [0], [60, 2, 2, 301, 31, 125, 42, 117]), (20, [0], [60, 1, 4, 303, 32, 33, 34, 42, 43]), (20, [0], [60, 1, 2, 122, 32, 35, 43]), (20, [0], [50, 2, 0, 125, 31, 0, 7, 4, 3, 2, 0, 125, 0, 1, 2, 0, 31]), (20, [0, 1, 2, 3], [60, 3, 6, 306, 31, 32, 49, 33, 34, 43, 44, 42, 52]), (20, [2, 0], [30, -1, 1, 0, 0, -1, 1, 31]), (20, [0, 2], [50, 0, 1, 42, 7, 5, 3, 0, 42, 1, 1, 0, 0])], [], [], [(20, [0, 3], [50, 0, 1, 42, 7, 5, 3, 0, 42, 1, 1, 0, 0]), (20, [3, 0], [30, -1, 1, 0, 0, -1, 1, 31])], [], [(3, 5, -4294967296, -1)])
theorem oo_Mo_stOrder_19 {kA : Nat → ClassId} : or_ok PRD kA GG o_Mo_stOrder_19 := by
  refine or_mk fun A ta ws vs hD hth hl => ?_
  intro t0 r0 t1 k1 t2 k2 t3 k3 t4 k4 t5 k5 t7 k7 d0 f0 f1 f2 f3 f4 f5 f6 f7 f8 f9 f10 f11 f12 f13 f14 f15 f16 f17
  replace f1 := shm_107 f1
  replace f2 := shm_531 f2
  replace f5 := shm_577 f5
  have cr_0_33 := fdq_117 hD hth r0
  have cr_0_34 := fdq_118 hD hth r0
  have cr_0_35 := fdq_132 hD hth r0
  have cr_0_42 := fdq_136 hD hth r0
  have cr_0_43 := fdq_137 hD hth r0
  have cr_0_44 := fdq_138 hD hth r0
  have cr_0_52 := fdq_236 hD hth r0
  have cr_0_117 := fdq_181 hD hth r0
  have ad_6 : v_ad (n_v vs 6) = w_ar ws (n_v vs 0) 42 := congrArg v_ad f2
  simp only [ad_6] at f1
  have h1 : v_iv (n_v vs 7) = w_ei ws (w_ar ws (n_v vs 0) 42) (v_iv (n_v vs 3)) := f1
  have g5 : v_iv (n_v vs 5) = w_fi ws (n_v vs 0) 31 := congrArg v_iv f5
  have hK_0_33 := elq_60 hD hth cr_0_33
  have hK_0_34 := elq_61 hD hth cr_0_34
  have hK_0_35 := elq_72 hD hth cr_0_35
  have hK_0_42 := elq_75 hD hth cr_0_42
  have hK_0_43 := elq_76 hD hth cr_0_43
  have hK_0_44 := elq_77 hD hth cr_0_44
  have hK_0_52 := elq_147 hD hth cr_0_52
  have hK_0_117 := elq_108 hD hth cr_0_117
  have kz_0_31 := fdq_145 hD hth r0
  have kz_0_32 := fdq_140 hD hth r0
  have kz_0_49 := fdq_146 hD hth r0
  have kz_0_125 := fdq_182 hD hth r0
  have nf0 : fc_1 PRD (20, [0, 3], [50, 0, 1, 42, 7, 5, 3, 0, 42, 1, 1, 0, 0]) ws (vs) := ⟨nf_in hl rfl, sgq_1762 (vc_Mo_stOrder_19_0 (v_iv (n_v vs 1)) (v_iv (n_v vs 2)) (v_iv (n_v vs 3)) (v_iv (n_v vs 4)) (v_iv (n_v vs 5)) (v_iv (n_v vs 7)) (w_ei ws (w_ar ws (n_v vs 0) 42)) (w_fi ws (n_v vs 0) 31) (w_ei ws (w_ar ws (n_v vs 0) 33)) (w_ei ws (w_ar ws (n_v vs 0) 34)) (w_fi ws (n_v vs 0) 32) (w_ei ws (w_ar ws (n_v vs 0) 35)) (w_ei ws (w_ar ws (n_v vs 0) 117)) (w_fi ws (n_v vs 0) 125) (w_fi ws (n_v vs 0) 49) (w_ei ws (w_ar ws (n_v vs 0) 43)) (w_ei ws (w_ar ws (n_v vs 0) 44)) (w_ei ws (w_ar ws (n_v vs 0) 52)) k1 k2 k3 k4 k5 k7 d0 (shm_142 f0) h1 (shm_40 f3) (shm_6 f4) g5 (shm_575 f6) (shm_1749 f7) (shm_1001 f8) (shm_1675 f9) (shm_1750 f10) (shm_1755 f11) (shm_1757 f12) (shm_1455 f13) (shm_1752 f14) (shm_1761 f15) (shm_553 f16) (shm_1762 f17) hK_0_33 hK_0_34 hK_0_35 hK_0_42 hK_0_43 hK_0_44 hK_0_52 hK_0_117 kz_0_31 kz_0_32 kz_0_49 kz_0_125)⟩
  have nf1 : fc_1 PRD (20, [3, 0], [30, -1, 1, 0, 0, -1, 1, 31]) ws (vs) := ⟨nf_in hl rfl, sgq_553 (vc_Mo_stOrder_19_1 (v_iv (n_v vs 1)) (v_iv (n_v vs 2)) (v_iv (n_v vs 3)) (v_iv (n_v vs 4)) (v_iv (n_v vs 5)) (v_iv (n_v vs 7)) (w_ei ws (w_ar ws (n_v vs 0) 42)) (w_fi ws (n_v vs 0) 31) (w_ei ws (w_ar ws (n_v vs 0) 33)) (w_ei ws (w_ar ws (n_v vs 0) 34)) (w_fi ws (n_v vs 0) 32) (w_ei ws (w_ar ws (n_v vs 0) 35)) (w_ei ws (w_ar ws (n_v vs 0) 117)) (w_fi ws (n_v vs 0) 125) (w_fi ws (n_v vs 0) 49) (w_ei ws (w_ar ws (n_v vs 0) 43)) (w_ei ws (w_ar ws (n_v vs 0) 44)) (w_ei ws (w_ar ws (n_v vs 0) 52)) k1 k2 k3 k4 k5 k7 d0 (shm_142 f0) h1 (shm_40 f3) (shm_6 f4) g5 (shm_575 f6) (shm_1749 f7) (shm_1001 f8) (shm_1675 f9) (shm_1750 f10) (shm_1755 f11) (shm_1757 f12) (shm_1455 f13) (shm_1752 f14) (shm_1761 f15) (shm_553 f16) (shm_1762 f17) hK_0_33 hK_0_34 hK_0_35 hK_0_42 hK_0_43 hK_0_44 hK_0_52 hK_0_117 kz_0_31 kz_0_32 kz_0_49 kz_0_125)⟩
  refine ⟨(fun _ h => (by cases h)), [], trivial, ?_, (fun _ h => (by cases h))⟩
  rw [List.append_nil]
  exact List.forall_mem_cons.mpr ⟨⟨show (20 : Nat) < 100 from by decide, nf0⟩, List.forall_mem_cons.mpr ⟨⟨show (20 : Nat) < 100 from by decide, nf1⟩, (fun _ h => (by cases h))⟩⟩
set_option maxHeartbeats 4000000 in
theorem vc_Mo_stOrder_20_0 (x1 : Int) (x2 : Int) (x3 : Int) (x4 : Int) (x5 : Int) (x8 : Int) (x9 : Int) (x11 : Int) (wayMany_0 : Int) (drawnNode_0 : Int → Int) (pn_0 : Int) (pt_0 : Int → Int) (ph_0 : Int → Int) (pm_0 : Int) (alive_0 : Int → Int) (row_0 : Int → Int) (rowMany_0 : Int) (onlyPiece_0 : Int) (drawnEdge_0 : Int → Int) (pieceOf_0 : Int → Int) (bestWay_0 : Int → Int) (way_0 : Int → Int) (gx : Int) (k1 : 0 ≤ x1 ∧ x1 ≤ 0) (k2 : 0 ≤ x2 ∧ x2 ≤ 24) (k3 : 0 ≤ x3 ∧ x3 ≤ 24) (k4 : (-2) ≤ x4 ∧ x4 ≤ 26) (k5 : 1 ≤ x5 ∧ x5 ≤ 25) (k8 : 1 ≤ x8 ∧ x8 ≤ 1) (k9 : 1 ≤ x9 ∧ x9 ≤ 30) (k11 : 0 ≤ x11 ∧ x11 ≤ 0) (d0 : x5 + (-4294967296) ≤ x3 ∧ x3 ≤ x5 + (-1)) (g0 : x9 = wayMany_0) (f1 : x1 ≠ x9) (f2 : x1 = 0) (f3 : x9 ≠ 0) (f4 : drawnNode_0 (x3) ≠ 0) (f5 : 1 * x3 + ((-1) * pn_0 + 0) ≤ (-1)) (f6 : GOK (pn_0) (pm_0) (pt_0) (ph_0)) (f7 : STB (pn_0) (pm_0) (pt_0) (ph_0) (alive_0)) (f8 : STR (pn_0) (rowMany_0) (pt_0) (ph_0) (row_0)) (f9 : onlyPiece_0 = (-1)) (f10 : (-1) * rowMany_0 + ((-1) * x4 + 0) ≤ (-26)) (f11 : DRR (pn_0) (rowMany_0) (drawnNode_0) (row_0)) (f12 : DEM (pm_0) (pt_0) (ph_0) (drawnNode_0) (drawnEdge_0)) (f13 : UA (pm_0) (alive_0) (drawnEdge_0)) (f14 : (rowMany_0 + 1) ≤ pn_0) (f15 : SB1 (pn_0) (pm_0) (onlyPiece_0) (pt_0) (ph_0) (drawnEdge_0) (pieceOf_0) (drawnNode_0) (bestWay_0) (x1) (x2) (x3)) (f16 : 1 * x2 + ((-1) * pn_0 + 0) ≤ (-1)) (f17 : drawnNode_0 (x2) ≠ 0) (f18 : SHP (pn_0) (pm_0) (onlyPiece_0) (wayMany_0) (pt_0) (ph_0) (alive_0) (drawnEdge_0) (pieceOf_0) (drawnNode_0) (way_0) (x2) (x3) (x8)) (f20 : x3 ≠ x2) (f21 : x3 < x5) (hK_0_33 : ∀ j : Int, 0 ≤ j → j < 80 → 0 ≤ pt_0 j ∧ pt_0 j ≤ 24) (hK_0_34 : ∀ j : Int, 0 ≤ j → j < 80 → 0 ≤ ph_0 j ∧ ph_0 j ≤ 24) (hK_0_35 : ∀ j : Int, 0 ≤ j → j < 80 → 0 ≤ alive_0 j ∧ alive_0 j ≤ 1) (hK_0_42 : ∀ j : Int, 0 ≤ j → j < 26 → 0 ≤ drawnNode_0 j ∧ drawnNode_0 j ≤ 1) (hK_0_43 : ∀ j : Int, 0 ≤ j → j < 80 → 0 ≤ drawnEdge_0 j ∧ drawnEdge_0 j ≤ 1) (hK_0_44 : ∀ j : Int, 0 ≤ j → j < 80 → (-1) ≤ pieceOf_0 j ∧ pieceOf_0 j ≤ 79) (hK_0_46 : ∀ j : Int, 0 ≤ j → j < 30 → 0 ≤ way_0 j ∧ way_0 j ≤ 24) (hK_0_52 : ∀ j : Int, 0 ≤ j → j < 30 → 0 ≤ bestWay_0 j ∧ bestWay_0 j ≤ 24) (hK_0_117 : ∀ j : Int, 0 ≤ j → j < 100 → 0 ≤ row_0 j ∧ row_0 j ≤ 75) (kz_0_31 : 0 ≤ pn_0 ∧ pn_0 ≤ 25) (kz_0_32 : 0 ≤ pm_0 ∧ pm_0 ≤ 80) (kz_0_45 : 0 ≤ wayMany_0 ∧ wayMany_0 ≤ 30) (kz_0_49 : (-1) ≤ onlyPiece_0 ∧ onlyPiece_0 ≤ 79) (kz_0_125 : 0 ≤ rowMany_0 ∧ rowMany_0 ≤ 100) (ex2 : gx = 0 + (1 * x4 + 0)) (ex3 : (-2) ≤ gx ∧ gx ≤ 26) : GOK (pn_0) (pm_0) (pt_0) (ph_0) := by
  first
    | assumption
    | exact ‹STB _ _ _ _ _›.1.1
set_option maxHeartbeats 4000000 in
theorem vc_Mo_stOrder_20_1 (x1 : Int) (x2 : Int) (x3 : Int) (x4 : Int) (x5 : Int) (x8 : Int) (x9 : Int) (x11 : Int) (wayMany_0 : Int) (drawnNode_0 : Int → Int) (pn_0 : Int) (pt_0 : Int → Int) (ph_0 : Int → Int) (pm_0 : Int) (alive_0 : Int → Int) (row_0 : Int → Int) (rowMany_0 : Int) (onlyPiece_0 : Int) (drawnEdge_0 : Int → Int) (pieceOf_0 : Int → Int) (bestWay_0 : Int → Int) (way_0 : Int → Int) (gx : Int) (k1 : 0 ≤ x1 ∧ x1 ≤ 0) (k2 : 0 ≤ x2 ∧ x2 ≤ 24) (k3 : 0 ≤ x3 ∧ x3 ≤ 24) (k4 : (-2) ≤ x4 ∧ x4 ≤ 26) (k5 : 1 ≤ x5 ∧ x5 ≤ 25) (k8 : 1 ≤ x8 ∧ x8 ≤ 1) (k9 : 1 ≤ x9 ∧ x9 ≤ 30) (k11 : 0 ≤ x11 ∧ x11 ≤ 0) (d0 : x5 + (-4294967296) ≤ x3 ∧ x3 ≤ x5 + (-1)) (g0 : x9 = wayMany_0) (f1 : x1 ≠ x9) (f2 : x1 = 0) (f3 : x9 ≠ 0) (f4 : drawnNode_0 (x3) ≠ 0) (f5 : 1 * x3 + ((-1) * pn_0 + 0) ≤ (-1)) (f6 : GOK (pn_0) (pm_0) (pt_0) (ph_0)) (f7 : STB (pn_0) (pm_0) (pt_0) (ph_0) (alive_0)) (f8 : STR (pn_0) (rowMany_0) (pt_0) (ph_0) (row_0)) (f9 : onlyPiece_0 = (-1)) (f10 : (-1) * rowMany_0 + ((-1) * x4 + 0) ≤ (-26)) (f11 : DRR (pn_0) (rowMany_0) (drawnNode_0) (row_0)) (f12 : DEM (pm_0) (pt_0) (ph_0) (drawnNode_0) (drawnEdge_0)) (f13 : UA (pm_0) (alive_0) (drawnEdge_0)) (f14 : (rowMany_0 + 1) ≤ pn_0) (f15 : SB1 (pn_0) (pm_0) (onlyPiece_0) (pt_0) (ph_0) (drawnEdge_0) (pieceOf_0) (drawnNode_0) (bestWay_0) (x1) (x2) (x3)) (f16 : 1 * x2 + ((-1) * pn_0 + 0) ≤ (-1)) (f17 : drawnNode_0 (x2) ≠ 0) (f18 : SHP (pn_0) (pm_0) (onlyPiece_0) (wayMany_0) (pt_0) (ph_0) (alive_0) (drawnEdge_0) (pieceOf_0) (drawnNode_0) (way_0) (x2) (x3) (x8)) (f20 : x3 ≠ x2) (f21 : x3 < x5) (hK_0_33 : ∀ j : Int, 0 ≤ j → j < 80 → 0 ≤ pt_0 j ∧ pt_0 j ≤ 24) (hK_0_34 : ∀ j : Int, 0 ≤ j → j < 80 → 0 ≤ ph_0 j ∧ ph_0 j ≤ 24) (hK_0_35 : ∀ j : Int, 0 ≤ j → j < 80 → 0 ≤ alive_0 j ∧ alive_0 j ≤ 1) (hK_0_42 : ∀ j : Int, 0 ≤ j → j < 26 → 0 ≤ drawnNode_0 j ∧ drawnNode_0 j ≤ 1) (hK_0_43 : ∀ j : Int, 0 ≤ j → j < 80 → 0 ≤ drawnEdge_0 j ∧ drawnEdge_0 j ≤ 1) (hK_0_44 : ∀ j : Int, 0 ≤ j → j < 80 → (-1) ≤ pieceOf_0 j ∧ pieceOf_0 j ≤ 79) (hK_0_46 : ∀ j : Int, 0 ≤ j → j < 30 → 0 ≤ way_0 j ∧ way_0 j ≤ 24) (hK_0_52 : ∀ j : Int, 0 ≤ j → j < 30 → 0 ≤ bestWay_0 j ∧ bestWay_0 j ≤ 24) (hK_0_117 : ∀ j : Int, 0 ≤ j → j < 100 → 0 ≤ row_0 j ∧ row_0 j ≤ 75) (kz_0_31 : 0 ≤ pn_0 ∧ pn_0 ≤ 25) (kz_0_32 : 0 ≤ pm_0 ∧ pm_0 ≤ 80) (kz_0_45 : 0 ≤ wayMany_0 ∧ wayMany_0 ≤ 30) (kz_0_49 : (-1) ≤ onlyPiece_0 ∧ onlyPiece_0 ≤ 79) (kz_0_125 : 0 ≤ rowMany_0 ∧ rowMany_0 ≤ 100) (ex2 : gx = 0 + (1 * x4 + 0)) (ex3 : (-2) ≤ gx ∧ gx ≤ 26) : STB (pn_0) (pm_0) (pt_0) (ph_0) (alive_0) := by
  first | assumption
set_option maxHeartbeats 4000000 in
theorem vc_Mo_stOrder_20_2 (x1 : Int) (x2 : Int) (x3 : Int) (x4 : Int) (x5 : Int) (x8 : Int) (x9 : Int) (x11 : Int) (wayMany_0 : Int) (drawnNode_0 : Int → Int) (pn_0 : Int) (pt_0 : Int → Int) (ph_0 : Int → Int) (pm_0 : Int) (alive_0 : Int → Int) (row_0 : Int → Int) (rowMany_0 : Int) (onlyPiece_0 : Int) (drawnEdge_0 : Int → Int) (pieceOf_0 : Int → Int) (bestWay_0 : Int → Int) (way_0 : Int → Int) (gx : Int) (k1 : 0 ≤ x1 ∧ x1 ≤ 0) (k2 : 0 ≤ x2 ∧ x2 ≤ 24) (k3 : 0 ≤ x3 ∧ x3 ≤ 24) (k4 : (-2) ≤ x4 ∧ x4 ≤ 26) (k5 : 1 ≤ x5 ∧ x5 ≤ 25) (k8 : 1 ≤ x8 ∧ x8 ≤ 1) (k9 : 1 ≤ x9 ∧ x9 ≤ 30) (k11 : 0 ≤ x11 ∧ x11 ≤ 0) (d0 : x5 + (-4294967296) ≤ x3 ∧ x3 ≤ x5 + (-1)) (g0 : x9 = wayMany_0) (f1 : x1 ≠ x9) (f2 : x1 = 0) (f3 : x9 ≠ 0) (f4 : drawnNode_0 (x3) ≠ 0) (f5 : 1 * x3 + ((-1) * pn_0 + 0) ≤ (-1)) (f6 : GOK (pn_0) (pm_0) (pt_0) (ph_0)) (f7 : STB (pn_0) (pm_0) (pt_0) (ph_0) (alive_0)) (f8 : STR (pn_0) (rowMany_0) (pt_0) (ph_0) (row_0)) (f9 : onlyPiece_0 = (-1)) (f10 : (-1) * rowMany_0 + ((-1) * x4 + 0) ≤ (-26)) (f11 : DRR (pn_0) (rowMany_0) (drawnNode_0) (row_0)) (f12 : DEM (pm_0) (pt_0) (ph_0) (drawnNode_0) (drawnEdge_0)) (f13 : UA (pm_0) (alive_0) (drawnEdge_0)) (f14 : (rowMany_0 + 1) ≤ pn_0) (f15 : SB1 (pn_0) (pm_0) (onlyPiece_0) (pt_0) (ph_0) (drawnEdge_0) (pieceOf_0) (drawnNode_0) (bestWay_0) (x1) (x2) (x3)) (f16 : 1 * x2 + ((-1) * pn_0 + 0) ≤ (-1)) (f17 : drawnNode_0 (x2) ≠ 0) (f18 : SHP (pn_0) (pm_0) (onlyPiece_0) (wayMany_0) (pt_0) (ph_0) (alive_0) (drawnEdge_0) (pieceOf_0) (drawnNode_0) (way_0) (x2) (x3) (x8)) (f20 : x3 ≠ x2) (f21 : x3 < x5) (hK_0_33 : ∀ j : Int, 0 ≤ j → j < 80 → 0 ≤ pt_0 j ∧ pt_0 j ≤ 24) (hK_0_34 : ∀ j : Int, 0 ≤ j → j < 80 → 0 ≤ ph_0 j ∧ ph_0 j ≤ 24) (hK_0_35 : ∀ j : Int, 0 ≤ j → j < 80 → 0 ≤ alive_0 j ∧ alive_0 j ≤ 1) (hK_0_42 : ∀ j : Int, 0 ≤ j → j < 26 → 0 ≤ drawnNode_0 j ∧ drawnNode_0 j ≤ 1) (hK_0_43 : ∀ j : Int, 0 ≤ j → j < 80 → 0 ≤ drawnEdge_0 j ∧ drawnEdge_0 j ≤ 1) (hK_0_44 : ∀ j : Int, 0 ≤ j → j < 80 → (-1) ≤ pieceOf_0 j ∧ pieceOf_0 j ≤ 79) (hK_0_46 : ∀ j : Int, 0 ≤ j → j < 30 → 0 ≤ way_0 j ∧ way_0 j ≤ 24) (hK_0_52 : ∀ j : Int, 0 ≤ j → j < 30 → 0 ≤ bestWay_0 j ∧ bestWay_0 j ≤ 24) (hK_0_117 : ∀ j : Int, 0 ≤ j → j < 100 → 0 ≤ row_0 j ∧ row_0 j ≤ 75) (kz_0_31 : 0 ≤ pn_0 ∧ pn_0 ≤ 25) (kz_0_32 : 0 ≤ pm_0 ∧ pm_0 ≤ 80) (kz_0_45 : 0 ≤ wayMany_0 ∧ wayMany_0 ≤ 30) (kz_0_49 : (-1) ≤ onlyPiece_0 ∧ onlyPiece_0 ≤ 79) (kz_0_125 : 0 ≤ rowMany_0 ∧ rowMany_0 ≤ 100) (ex2 : gx = 0 + (1 * x4 + 0)) (ex3 : (-2) ≤ gx ∧ gx ≤ 26) : STR (pn_0) (rowMany_0) (pt_0) (ph_0) (row_0) := by
  first | assumption
set_option maxHeartbeats 4000000 in
theorem vc_Mo_stOrder_20_3 (x1 : Int) (x2 : Int) (x3 : Int) (x4 : Int) (x5 : Int) (x8 : Int) (x9 : Int) (x11 : Int) (wayMany_0 : Int) (drawnNode_0 : Int → Int) (pn_0 : Int) (pt_0 : Int → Int) (ph_0 : Int → Int) (pm_0 : Int) (alive_0 : Int → Int) (row_0 : Int → Int) (rowMany_0 : Int) (onlyPiece_0 : Int) (drawnEdge_0 : Int → Int) (pieceOf_0 : Int → Int) (bestWay_0 : Int → Int) (way_0 : Int → Int) (gx : Int) (k1 : 0 ≤ x1 ∧ x1 ≤ 0) (k2 : 0 ≤ x2 ∧ x2 ≤ 24) (k3 : 0 ≤ x3 ∧ x3 ≤ 24) (k4 : (-2) ≤ x4 ∧ x4 ≤ 26) (k5 : 1 ≤ x5 ∧ x5 ≤ 25) (k8 : 1 ≤ x8 ∧ x8 ≤ 1) (k9 : 1 ≤ x9 ∧ x9 ≤ 30) (k11 : 0 ≤ x11 ∧ x11 ≤ 0) (d0 : x5 + (-4294967296) ≤ x3 ∧ x3 ≤ x5 + (-1)) (g0 : x9 = wayMany_0) (f1 : x1 ≠ x9) (f2 : x1 = 0) (f3 : x9 ≠ 0) (f4 : drawnNode_0 (x3) ≠ 0) (f5 : 1 * x3 + ((-1) * pn_0 + 0) ≤ (-1)) (f6 : GOK (pn_0) (pm_0) (pt_0) (ph_0)) (f7 : STB (pn_0) (pm_0) (pt_0) (ph_0) (alive_0)) (f8 : STR (pn_0) (rowMany_0) (pt_0) (ph_0) (row_0)) (f9 : onlyPiece_0 = (-1)) (f10 : (-1) * rowMany_0 + ((-1) * x4 + 0) ≤ (-26)) (f11 : DRR (pn_0) (rowMany_0) (drawnNode_0) (row_0)) (f12 : DEM (pm_0) (pt_0) (ph_0) (drawnNode_0) (drawnEdge_0)) (f13 : UA (pm_0) (alive_0) (drawnEdge_0)) (f14 : (rowMany_0 + 1) ≤ pn_0) (f15 : SB1 (pn_0) (pm_0) (onlyPiece_0) (pt_0) (ph_0) (drawnEdge_0) (pieceOf_0) (drawnNode_0) (bestWay_0) (x1) (x2) (x3)) (f16 : 1 * x2 + ((-1) * pn_0 + 0) ≤ (-1)) (f17 : drawnNode_0 (x2) ≠ 0) (f18 : SHP (pn_0) (pm_0) (onlyPiece_0) (wayMany_0) (pt_0) (ph_0) (alive_0) (drawnEdge_0) (pieceOf_0) (drawnNode_0) (way_0) (x2) (x3) (x8)) (f20 : x3 ≠ x2) (f21 : x3 < x5) (hK_0_33 : ∀ j : Int, 0 ≤ j → j < 80 → 0 ≤ pt_0 j ∧ pt_0 j ≤ 24) (hK_0_34 : ∀ j : Int, 0 ≤ j → j < 80 → 0 ≤ ph_0 j ∧ ph_0 j ≤ 24) (hK_0_35 : ∀ j : Int, 0 ≤ j → j < 80 → 0 ≤ alive_0 j ∧ alive_0 j ≤ 1) (hK_0_42 : ∀ j : Int, 0 ≤ j → j < 26 → 0 ≤ drawnNode_0 j ∧ drawnNode_0 j ≤ 1) (hK_0_43 : ∀ j : Int, 0 ≤ j → j < 80 → 0 ≤ drawnEdge_0 j ∧ drawnEdge_0 j ≤ 1) (hK_0_44 : ∀ j : Int, 0 ≤ j → j < 80 → (-1) ≤ pieceOf_0 j ∧ pieceOf_0 j ≤ 79) (hK_0_46 : ∀ j : Int, 0 ≤ j → j < 30 → 0 ≤ way_0 j ∧ way_0 j ≤ 24) (hK_0_52 : ∀ j : Int, 0 ≤ j → j < 30 → 0 ≤ bestWay_0 j ∧ bestWay_0 j ≤ 24) (hK_0_117 : ∀ j : Int, 0 ≤ j → j < 100 → 0 ≤ row_0 j ∧ row_0 j ≤ 75) (kz_0_31 : 0 ≤ pn_0 ∧ pn_0 ≤ 25) (kz_0_32 : 0 ≤ pm_0 ∧ pm_0 ≤ 80) (kz_0_45 : 0 ≤ wayMany_0 ∧ wayMany_0 ≤ 30) (kz_0_49 : (-1) ≤ onlyPiece_0 ∧ onlyPiece_0 ≤ 79) (kz_0_125 : 0 ≤ rowMany_0 ∧ rowMany_0 ≤ 100) (ex2 : gx = 0 + (1 * x4 + 0)) (ex3 : (-2) ≤ gx ∧ gx ≤ 26) : onlyPiece_0 = (-1) := by
  first
    | omega
    | (have h := ‹STB _ _ _ _ _›.1.2.2; omega)
    | (have h := ‹STR _ _ _ _ _›.1; omega)
    | (have h := ‹STR _ _ _ _ _›.1
       have w := ‹STR _ _ _ _ _›.2.1 x1 (by omega) (by omega)
       omega)
    | (have h := bc_len ‹BC1 _ _ _ _ _ _ _›
       have h2 := ‹STR _ _ _ _ _›.1
       omega)
    | (have h := (sb_way ‹SB1 _ _ _ _ _ _ _ _ _ _ _ _› (by omega)).1
       have h2 := ‹STR _ _ _ _ _›.1
       omega)
    | (have h := ‹WYM _ _ _ _›.1
       have h2 := ‹STR _ _ _ _ _›.1
       omega)
set_option maxHeartbeats 4000000 in
theorem vc_Mo_stOrder_20_4 (x1 : Int) (x2 : Int) (x3 : Int) (x4 : Int) (x5 : Int) (x8 : Int) (x9 : Int) (x11 : Int) (wayMany_0 : Int) (drawnNode_0 : Int → Int) (pn_0 : Int) (pt_0 : Int → Int) (ph_0 : Int → Int) (pm_0 : Int) (alive_0 : Int → Int) (row_0 : Int → Int) (rowMany_0 : Int) (onlyPiece_0 : Int) (drawnEdge_0 : Int → Int) (pieceOf_0 : Int → Int) (bestWay_0 : Int → Int) (way_0 : Int → Int) (gx : Int) (k1 : 0 ≤ x1 ∧ x1 ≤ 0) (k2 : 0 ≤ x2 ∧ x2 ≤ 24) (k3 : 0 ≤ x3 ∧ x3 ≤ 24) (k4 : (-2) ≤ x4 ∧ x4 ≤ 26) (k5 : 1 ≤ x5 ∧ x5 ≤ 25) (k8 : 1 ≤ x8 ∧ x8 ≤ 1) (k9 : 1 ≤ x9 ∧ x9 ≤ 30) (k11 : 0 ≤ x11 ∧ x11 ≤ 0) (d0 : x5 + (-4294967296) ≤ x3 ∧ x3 ≤ x5 + (-1)) (g0 : x9 = wayMany_0) (f1 : x1 ≠ x9) (f2 : x1 = 0) (f3 : x9 ≠ 0) (f4 : drawnNode_0 (x3) ≠ 0) (f5 : 1 * x3 + ((-1) * pn_0 + 0) ≤ (-1)) (f6 : GOK (pn_0) (pm_0) (pt_0) (ph_0)) (f7 : STB (pn_0) (pm_0) (pt_0) (ph_0) (alive_0)) (f8 : STR (pn_0) (rowMany_0) (pt_0) (ph_0) (row_0)) (f9 : onlyPiece_0 = (-1)) (f10 : (-1) * rowMany_0 + ((-1) * x4 + 0) ≤ (-26)) (f11 : DRR (pn_0) (rowMany_0) (drawnNode_0) (row_0)) (f12 : DEM (pm_0) (pt_0) (ph_0) (drawnNode_0) (drawnEdge_0)) (f13 : UA (pm_0) (alive_0) (drawnEdge_0)) (f14 : (rowMany_0 + 1) ≤ pn_0) (f15 : SB1 (pn_0) (pm_0) (onlyPiece_0) (pt_0) (ph_0) (drawnEdge_0) (pieceOf_0) (drawnNode_0) (bestWay_0) (x1) (x2) (x3)) (f16 : 1 * x2 + ((-1) * pn_0 + 0) ≤ (-1)) (f17 : drawnNode_0 (x2) ≠ 0) (f18 : SHP (pn_0) (pm_0) (onlyPiece_0) (wayMany_0) (pt_0) (ph_0) (alive_0) (drawnEdge_0) (pieceOf_0) (drawnNode_0) (way_0) (x2) (x3) (x8)) (f20 : x3 ≠ x2) (f21 : x3 < x5) (hK_0_33 : ∀ j : Int, 0 ≤ j → j < 80 → 0 ≤ pt_0 j ∧ pt_0 j ≤ 24) (hK_0_34 : ∀ j : Int, 0 ≤ j → j < 80 → 0 ≤ ph_0 j ∧ ph_0 j ≤ 24) (hK_0_35 : ∀ j : Int, 0 ≤ j → j < 80 → 0 ≤ alive_0 j ∧ alive_0 j ≤ 1) (hK_0_42 : ∀ j : Int, 0 ≤ j → j < 26 → 0 ≤ drawnNode_0 j ∧ drawnNode_0 j ≤ 1) (hK_0_43 : ∀ j : Int, 0 ≤ j → j < 80 → 0 ≤ drawnEdge_0 j ∧ drawnEdge_0 j ≤ 1) (hK_0_44 : ∀ j : Int, 0 ≤ j → j < 80 → (-1) ≤ pieceOf_0 j ∧ pieceOf_0 j ≤ 79) (hK_0_46 : ∀ j : Int, 0 ≤ j → j < 30 → 0 ≤ way_0 j ∧ way_0 j ≤ 24) (hK_0_52 : ∀ j : Int, 0 ≤ j → j < 30 → 0 ≤ bestWay_0 j ∧ bestWay_0 j ≤ 24) (hK_0_117 : ∀ j : Int, 0 ≤ j → j < 100 → 0 ≤ row_0 j ∧ row_0 j ≤ 75) (kz_0_31 : 0 ≤ pn_0 ∧ pn_0 ≤ 25) (kz_0_32 : 0 ≤ pm_0 ∧ pm_0 ≤ 80) (kz_0_45 : 0 ≤ wayMany_0 ∧ wayMany_0 ≤ 30) (kz_0_49 : (-1) ≤ onlyPiece_0 ∧ onlyPiece_0 ≤ 79) (kz_0_125 : 0 ≤ rowMany_0 ∧ rowMany_0 ≤ 100) (ex2 : gx = 0 + (1 * x4 + 0)) (ex3 : (-2) ≤ gx ∧ gx ≤ 26) : (-1) * rowMany_0 + ((-1) * gx + 0) ≤ (-26) := by
  first
    | omega
    | (have h := ‹STB _ _ _ _ _›.1.2.2; omega)
    | (have h := ‹STR _ _ _ _ _›.1; omega)
    | (have h := ‹STR _ _ _ _ _›.1
       have w := ‹STR _ _ _ _ _›.2.1 x1 (by omega) (by omega)
       omega)
    | (have h := bc_len ‹BC1 _ _ _ _ _ _ _›
       have h2 := ‹STR _ _ _ _ _›.1
       omega)
    | (have h := (sb_way ‹SB1 _ _ _ _ _ _ _ _ _ _ _ _› (by omega)).1
       have h2 := ‹STR _ _ _ _ _›.1
       omega)
    | (have h := ‹WYM _ _ _ _›.1
       have h2 := ‹STR _ _ _ _ _›.1
       omega)
set_option maxHeartbeats 4000000 in
theorem vc_Mo_stOrder_20_5 (x1 : Int) (x2 : Int) (x3 : Int) (x4 : Int) (x5 : Int) (x8 : Int) (x9 : Int) (x11 : Int) (wayMany_0 : Int) (drawnNode_0 : Int → Int) (pn_0 : Int) (pt_0 : Int → Int) (ph_0 : Int → Int) (pm_0 : Int) (alive_0 : Int → Int) (row_0 : Int → Int) (rowMany_0 : Int) (onlyPiece_0 : Int) (drawnEdge_0 : Int → Int) (pieceOf_0 : Int → Int) (bestWay_0 : Int → Int) (way_0 : Int → Int) (gx : Int) (k1 : 0 ≤ x1 ∧ x1 ≤ 0) (k2 : 0 ≤ x2 ∧ x2 ≤ 24) (k3 : 0 ≤ x3 ∧ x3 ≤ 24) (k4 : (-2) ≤ x4 ∧ x4 ≤ 26) (k5 : 1 ≤ x5 ∧ x5 ≤ 25) (k8 : 1 ≤ x8 ∧ x8 ≤ 1) (k9 : 1 ≤ x9 ∧ x9 ≤ 30) (k11 : 0 ≤ x11 ∧ x11 ≤ 0) (d0 : x5 + (-4294967296) ≤ x3 ∧ x3 ≤ x5 + (-1)) (g0 : x9 = wayMany_0) (f1 : x1 ≠ x9) (f2 : x1 = 0) (f3 : x9 ≠ 0) (f4 : drawnNode_0 (x3) ≠ 0) (f5 : 1 * x3 + ((-1) * pn_0 + 0) ≤ (-1)) (f6 : GOK (pn_0) (pm_0) (pt_0) (ph_0)) (f7 : STB (pn_0) (pm_0) (pt_0) (ph_0) (alive_0)) (f8 : STR (pn_0) (rowMany_0) (pt_0) (ph_0) (row_0)) (f9 : onlyPiece_0 = (-1)) (f10 : (-1) * rowMany_0 + ((-1) * x4 + 0) ≤ (-26)) (f11 : DRR (pn_0) (rowMany_0) (drawnNode_0) (row_0)) (f12 : DEM (pm_0) (pt_0) (ph_0) (drawnNode_0) (drawnEdge_0)) (f13 : UA (pm_0) (alive_0) (drawnEdge_0)) (f14 : (rowMany_0 + 1) ≤ pn_0) (f15 : SB1 (pn_0) (pm_0) (onlyPiece_0) (pt_0) (ph_0) (drawnEdge_0) (pieceOf_0) (drawnNode_0) (bestWay_0) (x1) (x2) (x3)) (f16 : 1 * x2 + ((-1) * pn_0 + 0) ≤ (-1)) (f17 : drawnNode_0 (x2) ≠ 0) (f18 : SHP (pn_0) (pm_0) (onlyPiece_0) (wayMany_0) (pt_0) (ph_0) (alive_0) (drawnEdge_0) (pieceOf_0) (drawnNode_0) (way_0) (x2) (x3) (x8)) (f20 : x3 ≠ x2) (f21 : x3 < x5) (hK_0_33 : ∀ j : Int, 0 ≤ j → j < 80 → 0 ≤ pt_0 j ∧ pt_0 j ≤ 24) (hK_0_34 : ∀ j : Int, 0 ≤ j → j < 80 → 0 ≤ ph_0 j ∧ ph_0 j ≤ 24) (hK_0_35 : ∀ j : Int, 0 ≤ j → j < 80 → 0 ≤ alive_0 j ∧ alive_0 j ≤ 1) (hK_0_42 : ∀ j : Int, 0 ≤ j → j < 26 → 0 ≤ drawnNode_0 j ∧ drawnNode_0 j ≤ 1) (hK_0_43 : ∀ j : Int, 0 ≤ j → j < 80 → 0 ≤ drawnEdge_0 j ∧ drawnEdge_0 j ≤ 1) (hK_0_44 : ∀ j : Int, 0 ≤ j → j < 80 → (-1) ≤ pieceOf_0 j ∧ pieceOf_0 j ≤ 79) (hK_0_46 : ∀ j : Int, 0 ≤ j → j < 30 → 0 ≤ way_0 j ∧ way_0 j ≤ 24) (hK_0_52 : ∀ j : Int, 0 ≤ j → j < 30 → 0 ≤ bestWay_0 j ∧ bestWay_0 j ≤ 24) (hK_0_117 : ∀ j : Int, 0 ≤ j → j < 100 → 0 ≤ row_0 j ∧ row_0 j ≤ 75) (kz_0_31 : 0 ≤ pn_0 ∧ pn_0 ≤ 25) (kz_0_32 : 0 ≤ pm_0 ∧ pm_0 ≤ 80) (kz_0_45 : 0 ≤ wayMany_0 ∧ wayMany_0 ≤ 30) (kz_0_49 : (-1) ≤ onlyPiece_0 ∧ onlyPiece_0 ≤ 79) (kz_0_125 : 0 ≤ rowMany_0 ∧ rowMany_0 ≤ 100) (ex2 : gx = 0 + (1 * x4 + 0)) (ex3 : (-2) ≤ gx ∧ gx ≤ 26) : DRR (pn_0) (rowMany_0) (drawnNode_0) (row_0) := by
  first | assumption
set_option maxHeartbeats 4000000 in
theorem vc_Mo_stOrder_20_6 (x1 : Int) (x2 : Int) (x3 : Int) (x4 : Int) (x5 : Int) (x8 : Int) (x9 : Int) (x11 : Int) (wayMany_0 : Int) (drawnNode_0 : Int → Int) (pn_0 : Int) (pt_0 : Int → Int) (ph_0 : Int → Int) (pm_0 : Int) (alive_0 : Int → Int) (row_0 : Int → Int) (rowMany_0 : Int) (onlyPiece_0 : Int) (drawnEdge_0 : Int → Int) (pieceOf_0 : Int → Int) (bestWay_0 : Int → Int) (way_0 : Int → Int) (gx : Int) (k1 : 0 ≤ x1 ∧ x1 ≤ 0) (k2 : 0 ≤ x2 ∧ x2 ≤ 24) (k3 : 0 ≤ x3 ∧ x3 ≤ 24) (k4 : (-2) ≤ x4 ∧ x4 ≤ 26) (k5 : 1 ≤ x5 ∧ x5 ≤ 25) (k8 : 1 ≤ x8 ∧ x8 ≤ 1) (k9 : 1 ≤ x9 ∧ x9 ≤ 30) (k11 : 0 ≤ x11 ∧ x11 ≤ 0) (d0 : x5 + (-4294967296) ≤ x3 ∧ x3 ≤ x5 + (-1)) (g0 : x9 = wayMany_0) (f1 : x1 ≠ x9) (f2 : x1 = 0) (f3 : x9 ≠ 0) (f4 : drawnNode_0 (x3) ≠ 0) (f5 : 1 * x3 + ((-1) * pn_0 + 0) ≤ (-1)) (f6 : GOK (pn_0) (pm_0) (pt_0) (ph_0)) (f7 : STB (pn_0) (pm_0) (pt_0) (ph_0) (alive_0)) (f8 : STR (pn_0) (rowMany_0) (pt_0) (ph_0) (row_0)) (f9 : onlyPiece_0 = (-1)) (f10 : (-1) * rowMany_0 + ((-1) * x4 + 0) ≤ (-26)) (f11 : DRR (pn_0) (rowMany_0) (drawnNode_0) (row_0)) (f12 : DEM (pm_0) (pt_0) (ph_0) (drawnNode_0) (drawnEdge_0)) (f13 : UA (pm_0) (alive_0) (drawnEdge_0)) (f14 : (rowMany_0 + 1) ≤ pn_0) (f15 : SB1 (pn_0) (pm_0) (onlyPiece_0) (pt_0) (ph_0) (drawnEdge_0) (pieceOf_0) (drawnNode_0) (bestWay_0) (x1) (x2) (x3)) (f16 : 1 * x2 + ((-1) * pn_0 + 0) ≤ (-1)) (f17 : drawnNode_0 (x2) ≠ 0) (f18 : SHP (pn_0) (pm_0) (onlyPiece_0) (wayMany_0) (pt_0) (ph_0) (alive_0) (drawnEdge_0) (pieceOf_0) (drawnNode_0) (way_0) (x2) (x3) (x8)) (f20 : x3 ≠ x2) (f21 : x3 < x5) (hK_0_33 : ∀ j : Int, 0 ≤ j → j < 80 → 0 ≤ pt_0 j ∧ pt_0 j ≤ 24) (hK_0_34 : ∀ j : Int, 0 ≤ j → j < 80 → 0 ≤ ph_0 j ∧ ph_0 j ≤ 24) (hK_0_35 : ∀ j : Int, 0 ≤ j → j < 80 → 0 ≤ alive_0 j ∧ alive_0 j ≤ 1) (hK_0_42 : ∀ j : Int, 0 ≤ j → j < 26 → 0 ≤ drawnNode_0 j ∧ drawnNode_0 j ≤ 1) (hK_0_43 : ∀ j : Int, 0 ≤ j → j < 80 → 0 ≤ drawnEdge_0 j ∧ drawnEdge_0 j ≤ 1) (hK_0_44 : ∀ j : Int, 0 ≤ j → j < 80 → (-1) ≤ pieceOf_0 j ∧ pieceOf_0 j ≤ 79) (hK_0_46 : ∀ j : Int, 0 ≤ j → j < 30 → 0 ≤ way_0 j ∧ way_0 j ≤ 24) (hK_0_52 : ∀ j : Int, 0 ≤ j → j < 30 → 0 ≤ bestWay_0 j ∧ bestWay_0 j ≤ 24) (hK_0_117 : ∀ j : Int, 0 ≤ j → j < 100 → 0 ≤ row_0 j ∧ row_0 j ≤ 75) (kz_0_31 : 0 ≤ pn_0 ∧ pn_0 ≤ 25) (kz_0_32 : 0 ≤ pm_0 ∧ pm_0 ≤ 80) (kz_0_45 : 0 ≤ wayMany_0 ∧ wayMany_0 ≤ 30) (kz_0_49 : (-1) ≤ onlyPiece_0 ∧ onlyPiece_0 ≤ 79) (kz_0_125 : 0 ≤ rowMany_0 ∧ rowMany_0 ≤ 100) (ex2 : gx = 0 + (1 * x4 + 0)) (ex3 : (-2) ≤ gx ∧ gx ≤ 26) : DEM (pm_0) (pt_0) (ph_0) (drawnNode_0) (drawnEdge_0) := by
  first | assumption
set_option maxHeartbeats 4000000 in
theorem vc_Mo_stOrder_20_7 (x1 : Int) (x2 : Int) (x3 : Int) (x4 : Int) (x5 : Int) (x8 : Int) (x9 : Int) (x11 : Int) (wayMany_0 : Int) (drawnNode_0 : Int → Int) (pn_0 : Int) (pt_0 : Int → Int) (ph_0 : Int → Int) (pm_0 : Int) (alive_0 : Int → Int) (row_0 : Int → Int) (rowMany_0 : Int) (onlyPiece_0 : Int) (drawnEdge_0 : Int → Int) (pieceOf_0 : Int → Int) (bestWay_0 : Int → Int) (way_0 : Int → Int) (gx : Int) (k1 : 0 ≤ x1 ∧ x1 ≤ 0) (k2 : 0 ≤ x2 ∧ x2 ≤ 24) (k3 : 0 ≤ x3 ∧ x3 ≤ 24) (k4 : (-2) ≤ x4 ∧ x4 ≤ 26) (k5 : 1 ≤ x5 ∧ x5 ≤ 25) (k8 : 1 ≤ x8 ∧ x8 ≤ 1) (k9 : 1 ≤ x9 ∧ x9 ≤ 30) (k11 : 0 ≤ x11 ∧ x11 ≤ 0) (d0 : x5 + (-4294967296) ≤ x3 ∧ x3 ≤ x5 + (-1)) (g0 : x9 = wayMany_0) (f1 : x1 ≠ x9) (f2 : x1 = 0) (f3 : x9 ≠ 0) (f4 : drawnNode_0 (x3) ≠ 0) (f5 : 1 * x3 + ((-1) * pn_0 + 0) ≤ (-1)) (f6 : GOK (pn_0) (pm_0) (pt_0) (ph_0)) (f7 : STB (pn_0) (pm_0) (pt_0) (ph_0) (alive_0)) (f8 : STR (pn_0) (rowMany_0) (pt_0) (ph_0) (row_0)) (f9 : onlyPiece_0 = (-1)) (f10 : (-1) * rowMany_0 + ((-1) * x4 + 0) ≤ (-26)) (f11 : DRR (pn_0) (rowMany_0) (drawnNode_0) (row_0)) (f12 : DEM (pm_0) (pt_0) (ph_0) (drawnNode_0) (drawnEdge_0)) (f13 : UA (pm_0) (alive_0) (drawnEdge_0)) (f14 : (rowMany_0 + 1) ≤ pn_0) (f15 : SB1 (pn_0) (pm_0) (onlyPiece_0) (pt_0) (ph_0) (drawnEdge_0) (pieceOf_0) (drawnNode_0) (bestWay_0) (x1) (x2) (x3)) (f16 : 1 * x2 + ((-1) * pn_0 + 0) ≤ (-1)) (f17 : drawnNode_0 (x2) ≠ 0) (f18 : SHP (pn_0) (pm_0) (onlyPiece_0) (wayMany_0) (pt_0) (ph_0) (alive_0) (drawnEdge_0) (pieceOf_0) (drawnNode_0) (way_0) (x2) (x3) (x8)) (f20 : x3 ≠ x2) (f21 : x3 < x5) (hK_0_33 : ∀ j : Int, 0 ≤ j → j < 80 → 0 ≤ pt_0 j ∧ pt_0 j ≤ 24) (hK_0_34 : ∀ j : Int, 0 ≤ j → j < 80 → 0 ≤ ph_0 j ∧ ph_0 j ≤ 24) (hK_0_35 : ∀ j : Int, 0 ≤ j → j < 80 → 0 ≤ alive_0 j ∧ alive_0 j ≤ 1) (hK_0_42 : ∀ j : Int, 0 ≤ j → j < 26 → 0 ≤ drawnNode_0 j ∧ drawnNode_0 j ≤ 1) (hK_0_43 : ∀ j : Int, 0 ≤ j → j < 80 → 0 ≤ drawnEdge_0 j ∧ drawnEdge_0 j ≤ 1) (hK_0_44 : ∀ j : Int, 0 ≤ j → j < 80 → (-1) ≤ pieceOf_0 j ∧ pieceOf_0 j ≤ 79) (hK_0_46 : ∀ j : Int, 0 ≤ j → j < 30 → 0 ≤ way_0 j ∧ way_0 j ≤ 24) (hK_0_52 : ∀ j : Int, 0 ≤ j → j < 30 → 0 ≤ bestWay_0 j ∧ bestWay_0 j ≤ 24) (hK_0_117 : ∀ j : Int, 0 ≤ j → j < 100 → 0 ≤ row_0 j ∧ row_0 j ≤ 75) (kz_0_31 : 0 ≤ pn_0 ∧ pn_0 ≤ 25) (kz_0_32 : 0 ≤ pm_0 ∧ pm_0 ≤ 80) (kz_0_45 : 0 ≤ wayMany_0 ∧ wayMany_0 ≤ 30) (kz_0_49 : (-1) ≤ onlyPiece_0 ∧ onlyPiece_0 ≤ 79) (kz_0_125 : 0 ≤ rowMany_0 ∧ rowMany_0 ≤ 100) (ex2 : gx = 0 + (1 * x4 + 0)) (ex3 : (-2) ≤ gx ∧ gx ≤ 26) : UA (pm_0) (alive_0) (drawnEdge_0) := by
  first | assumption
set_option maxHeartbeats 4000000 in
theorem vc_Mo_stOrder_20_8 (x1 : Int) (x2 : Int) (x3 : Int) (x4 : Int) (x5 : Int) (x8 : Int) (x9 : Int) (x11 : Int) (wayMany_0 : Int) (drawnNode_0 : Int → Int) (pn_0 : Int) (pt_0 : Int → Int) (ph_0 : Int → Int) (pm_0 : Int) (alive_0 : Int → Int) (row_0 : Int → Int) (rowMany_0 : Int) (onlyPiece_0 : Int) (drawnEdge_0 : Int → Int) (pieceOf_0 : Int → Int) (bestWay_0 : Int → Int) (way_0 : Int → Int) (gx : Int) (k1 : 0 ≤ x1 ∧ x1 ≤ 0) (k2 : 0 ≤ x2 ∧ x2 ≤ 24) (k3 : 0 ≤ x3 ∧ x3 ≤ 24) (k4 : (-2) ≤ x4 ∧ x4 ≤ 26) (k5 : 1 ≤ x5 ∧ x5 ≤ 25) (k8 : 1 ≤ x8 ∧ x8 ≤ 1) (k9 : 1 ≤ x9 ∧ x9 ≤ 30) (k11 : 0 ≤ x11 ∧ x11 ≤ 0) (d0 : x5 + (-4294967296) ≤ x3 ∧ x3 ≤ x5 + (-1)) (g0 : x9 = wayMany_0) (f1 : x1 ≠ x9) (f2 : x1 = 0) (f3 : x9 ≠ 0) (f4 : drawnNode_0 (x3) ≠ 0) (f5 : 1 * x3 + ((-1) * pn_0 + 0) ≤ (-1)) (f6 : GOK (pn_0) (pm_0) (pt_0) (ph_0)) (f7 : STB (pn_0) (pm_0) (pt_0) (ph_0) (alive_0)) (f8 : STR (pn_0) (rowMany_0) (pt_0) (ph_0) (row_0)) (f9 : onlyPiece_0 = (-1)) (f10 : (-1) * rowMany_0 + ((-1) * x4 + 0) ≤ (-26)) (f11 : DRR (pn_0) (rowMany_0) (drawnNode_0) (row_0)) (f12 : DEM (pm_0) (pt_0) (ph_0) (drawnNode_0) (drawnEdge_0)) (f13 : UA (pm_0) (alive_0) (drawnEdge_0)) (f14 : (rowMany_0 + 1) ≤ pn_0) (f15 : SB1 (pn_0) (pm_0) (onlyPiece_0) (pt_0) (ph_0) (drawnEdge_0) (pieceOf_0) (drawnNode_0) (bestWay_0) (x1) (x2) (x3)) (f16 : 1 * x2 + ((-1) * pn_0 + 0) ≤ (-1)) (f17 : drawnNode_0 (x2) ≠ 0) (f18 : SHP (pn_0) (pm_0) (onlyPiece_0) (wayMany_0) (pt_0) (ph_0) (alive_0) (drawnEdge_0) (pieceOf_0) (drawnNode_0) (way_0) (x2) (x3) (x8)) (f20 : x3 ≠ x2) (f21 : x3 < x5) (hK_0_33 : ∀ j : Int, 0 ≤ j → j < 80 → 0 ≤ pt_0 j ∧ pt_0 j ≤ 24) (hK_0_34 : ∀ j : Int, 0 ≤ j → j < 80 → 0 ≤ ph_0 j ∧ ph_0 j ≤ 24) (hK_0_35 : ∀ j : Int, 0 ≤ j → j < 80 → 0 ≤ alive_0 j ∧ alive_0 j ≤ 1) (hK_0_42 : ∀ j : Int, 0 ≤ j → j < 26 → 0 ≤ drawnNode_0 j ∧ drawnNode_0 j ≤ 1) (hK_0_43 : ∀ j : Int, 0 ≤ j → j < 80 → 0 ≤ drawnEdge_0 j ∧ drawnEdge_0 j ≤ 1) (hK_0_44 : ∀ j : Int, 0 ≤ j → j < 80 → (-1) ≤ pieceOf_0 j ∧ pieceOf_0 j ≤ 79) (hK_0_46 : ∀ j : Int, 0 ≤ j → j < 30 → 0 ≤ way_0 j ∧ way_0 j ≤ 24) (hK_0_52 : ∀ j : Int, 0 ≤ j → j < 30 → 0 ≤ bestWay_0 j ∧ bestWay_0 j ≤ 24) (hK_0_117 : ∀ j : Int, 0 ≤ j → j < 100 → 0 ≤ row_0 j ∧ row_0 j ≤ 75) (kz_0_31 : 0 ≤ pn_0 ∧ pn_0 ≤ 25) (kz_0_32 : 0 ≤ pm_0 ∧ pm_0 ≤ 80) (kz_0_45 : 0 ≤ wayMany_0 ∧ wayMany_0 ≤ 30) (kz_0_49 : (-1) ≤ onlyPiece_0 ∧ onlyPiece_0 ≤ 79) (kz_0_125 : 0 ≤ rowMany_0 ∧ rowMany_0 ≤ 100) (ex2 : gx = 0 + (1 * x4 + 0)) (ex3 : (-2) ≤ gx ∧ gx ≤ 26) : (rowMany_0 + 1) ≤ pn_0 := by
  first
    | omega
    | (have h := ‹STB _ _ _ _ _›.1.2.2; omega)
    | (have h := ‹STR _ _ _ _ _›.1; omega)
    | (have h := ‹STR _ _ _ _ _›.1
       have w := ‹STR _ _ _ _ _›.2.1 x1 (by omega) (by omega)
       omega)
    | (have h := bc_len ‹BC1 _ _ _ _ _ _ _›
       have h2 := ‹STR _ _ _ _ _›.1
       omega)
    | (have h := (sb_way ‹SB1 _ _ _ _ _ _ _ _ _ _ _ _› (by omega)).1
       have h2 := ‹STR _ _ _ _ _›.1
       omega)
    | (have h := ‹WYM _ _ _ _›.1
       have h2 := ‹STR _ _ _ _ _›.1
       omega)
set_option maxHeartbeats 4000000 in
theorem vc_Mo_stOrder_20_9 (x1 : Int) (x2 : Int) (x3 : Int) (x4 : Int) (x5 : Int) (x8 : Int) (x9 : Int) (x11 : Int) (wayMany_0 : Int) (drawnNode_0 : Int → Int) (pn_0 : Int) (pt_0 : Int → Int) (ph_0 : Int → Int) (pm_0 : Int) (alive_0 : Int → Int) (row_0 : Int → Int) (rowMany_0 : Int) (onlyPiece_0 : Int) (drawnEdge_0 : Int → Int) (pieceOf_0 : Int → Int) (bestWay_0 : Int → Int) (way_0 : Int → Int) (gx : Int) (k1 : 0 ≤ x1 ∧ x1 ≤ 0) (k2 : 0 ≤ x2 ∧ x2 ≤ 24) (k3 : 0 ≤ x3 ∧ x3 ≤ 24) (k4 : (-2) ≤ x4 ∧ x4 ≤ 26) (k5 : 1 ≤ x5 ∧ x5 ≤ 25) (k8 : 1 ≤ x8 ∧ x8 ≤ 1) (k9 : 1 ≤ x9 ∧ x9 ≤ 30) (k11 : 0 ≤ x11 ∧ x11 ≤ 0) (d0 : x5 + (-4294967296) ≤ x3 ∧ x3 ≤ x5 + (-1)) (g0 : x9 = wayMany_0) (f1 : x1 ≠ x9) (f2 : x1 = 0) (f3 : x9 ≠ 0) (f4 : drawnNode_0 (x3) ≠ 0) (f5 : 1 * x3 + ((-1) * pn_0 + 0) ≤ (-1)) (f6 : GOK (pn_0) (pm_0) (pt_0) (ph_0)) (f7 : STB (pn_0) (pm_0) (pt_0) (ph_0) (alive_0)) (f8 : STR (pn_0) (rowMany_0) (pt_0) (ph_0) (row_0)) (f9 : onlyPiece_0 = (-1)) (f10 : (-1) * rowMany_0 + ((-1) * x4 + 0) ≤ (-26)) (f11 : DRR (pn_0) (rowMany_0) (drawnNode_0) (row_0)) (f12 : DEM (pm_0) (pt_0) (ph_0) (drawnNode_0) (drawnEdge_0)) (f13 : UA (pm_0) (alive_0) (drawnEdge_0)) (f14 : (rowMany_0 + 1) ≤ pn_0) (f15 : SB1 (pn_0) (pm_0) (onlyPiece_0) (pt_0) (ph_0) (drawnEdge_0) (pieceOf_0) (drawnNode_0) (bestWay_0) (x1) (x2) (x3)) (f16 : 1 * x2 + ((-1) * pn_0 + 0) ≤ (-1)) (f17 : drawnNode_0 (x2) ≠ 0) (f18 : SHP (pn_0) (pm_0) (onlyPiece_0) (wayMany_0) (pt_0) (ph_0) (alive_0) (drawnEdge_0) (pieceOf_0) (drawnNode_0) (way_0) (x2) (x3) (x8)) (f20 : x3 ≠ x2) (f21 : x3 < x5) (hK_0_33 : ∀ j : Int, 0 ≤ j → j < 80 → 0 ≤ pt_0 j ∧ pt_0 j ≤ 24) (hK_0_34 : ∀ j : Int, 0 ≤ j → j < 80 → 0 ≤ ph_0 j ∧ ph_0 j ≤ 24) (hK_0_35 : ∀ j : Int, 0 ≤ j → j < 80 → 0 ≤ alive_0 j ∧ alive_0 j ≤ 1) (hK_0_42 : ∀ j : Int, 0 ≤ j → j < 26 → 0 ≤ drawnNode_0 j ∧ drawnNode_0 j ≤ 1) (hK_0_43 : ∀ j : Int, 0 ≤ j → j < 80 → 0 ≤ drawnEdge_0 j ∧ drawnEdge_0 j ≤ 1) (hK_0_44 : ∀ j : Int, 0 ≤ j → j < 80 → (-1) ≤ pieceOf_0 j ∧ pieceOf_0 j ≤ 79) (hK_0_46 : ∀ j : Int, 0 ≤ j → j < 30 → 0 ≤ way_0 j ∧ way_0 j ≤ 24) (hK_0_52 : ∀ j : Int, 0 ≤ j → j < 30 → 0 ≤ bestWay_0 j ∧ bestWay_0 j ≤ 24) (hK_0_117 : ∀ j : Int, 0 ≤ j → j < 100 → 0 ≤ row_0 j ∧ row_0 j ≤ 75) (kz_0_31 : 0 ≤ pn_0 ∧ pn_0 ≤ 25) (kz_0_32 : 0 ≤ pm_0 ∧ pm_0 ≤ 80) (kz_0_45 : 0 ≤ wayMany_0 ∧ wayMany_0 ≤ 30) (kz_0_49 : (-1) ≤ onlyPiece_0 ∧ onlyPiece_0 ≤ 79) (kz_0_125 : 0 ≤ rowMany_0 ∧ rowMany_0 ≤ 100) (ex2 : gx = 0 + (1 * x4 + 0)) (ex3 : (-2) ≤ gx ∧ gx ≤ 26) : BC1 (pn_0) (wayMany_0) (drawnNode_0) (way_0) (bestWay_0) (x9) (x11) := by
  first
    | exact bc_step ‹BC1 _ _ _ _ _ _ _› (by omega) (by assumption) (by omega) (by assumption) (by omega)
    | exact ⟨‹WYM _ _ _ _›, by omega, fun t a b => by exfalso; omega⟩
    | exact ⟨wyg_of ‹DEM _ _ _ _ _› ‹SHP _ _ _ _ _ _ _ _ _ _ _ _ _ _› (by omega) (by omega) (by omega) (by omega) (by omega), by omega, fun t a b => by exfalso; omega⟩
set_option maxHeartbeats 4000000 in
theorem vc_Mo_stOrder_20_10 (x1 : Int) (x2 : Int) (x3 : Int) (x4 : Int) (x5 : Int) (x8 : Int) (x9 : Int) (x11 : Int) (wayMany_0 : Int) (drawnNode_0 : Int → Int) (pn_0 : Int) (pt_0 : Int → Int) (ph_0 : Int → Int) (pm_0 : Int) (alive_0 : Int → Int) (row_0 : Int → Int) (rowMany_0 : Int) (onlyPiece_0 : Int) (drawnEdge_0 : Int → Int) (pieceOf_0 : Int → Int) (bestWay_0 : Int → Int) (way_0 : Int → Int) (gx : Int) (k1 : 0 ≤ x1 ∧ x1 ≤ 0) (k2 : 0 ≤ x2 ∧ x2 ≤ 24) (k3 : 0 ≤ x3 ∧ x3 ≤ 24) (k4 : (-2) ≤ x4 ∧ x4 ≤ 26) (k5 : 1 ≤ x5 ∧ x5 ≤ 25) (k8 : 1 ≤ x8 ∧ x8 ≤ 1) (k9 : 1 ≤ x9 ∧ x9 ≤ 30) (k11 : 0 ≤ x11 ∧ x11 ≤ 0) (d0 : x5 + (-4294967296) ≤ x3 ∧ x3 ≤ x5 + (-1)) (g0 : x9 = wayMany_0) (f1 : x1 ≠ x9) (f2 : x1 = 0) (f3 : x9 ≠ 0) (f4 : drawnNode_0 (x3) ≠ 0) (f5 : 1 * x3 + ((-1) * pn_0 + 0) ≤ (-1)) (f6 : GOK (pn_0) (pm_0) (pt_0) (ph_0)) (f7 : STB (pn_0) (pm_0) (pt_0) (ph_0) (alive_0)) (f8 : STR (pn_0) (rowMany_0) (pt_0) (ph_0) (row_0)) (f9 : onlyPiece_0 = (-1)) (f10 : (-1) * rowMany_0 + ((-1) * x4 + 0) ≤ (-26)) (f11 : DRR (pn_0) (rowMany_0) (drawnNode_0) (row_0)) (f12 : DEM (pm_0) (pt_0) (ph_0) (drawnNode_0) (drawnEdge_0)) (f13 : UA (pm_0) (alive_0) (drawnEdge_0)) (f14 : (rowMany_0 + 1) ≤ pn_0) (f15 : SB1 (pn_0) (pm_0) (onlyPiece_0) (pt_0) (ph_0) (drawnEdge_0) (pieceOf_0) (drawnNode_0) (bestWay_0) (x1) (x2) (x3)) (f16 : 1 * x2 + ((-1) * pn_0 + 0) ≤ (-1)) (f17 : drawnNode_0 (x2) ≠ 0) (f18 : SHP (pn_0) (pm_0) (onlyPiece_0) (wayMany_0) (pt_0) (ph_0) (alive_0) (drawnEdge_0) (pieceOf_0) (drawnNode_0) (way_0) (x2) (x3) (x8)) (f20 : x3 ≠ x2) (f21 : x3 < x5) (hK_0_33 : ∀ j : Int, 0 ≤ j → j < 80 → 0 ≤ pt_0 j ∧ pt_0 j ≤ 24) (hK_0_34 : ∀ j : Int, 0 ≤ j → j < 80 → 0 ≤ ph_0 j ∧ ph_0 j ≤ 24) (hK_0_35 : ∀ j : Int, 0 ≤ j → j < 80 → 0 ≤ alive_0 j ∧ alive_0 j ≤ 1) (hK_0_42 : ∀ j : Int, 0 ≤ j → j < 26 → 0 ≤ drawnNode_0 j ∧ drawnNode_0 j ≤ 1) (hK_0_43 : ∀ j : Int, 0 ≤ j → j < 80 → 0 ≤ drawnEdge_0 j ∧ drawnEdge_0 j ≤ 1) (hK_0_44 : ∀ j : Int, 0 ≤ j → j < 80 → (-1) ≤ pieceOf_0 j ∧ pieceOf_0 j ≤ 79) (hK_0_46 : ∀ j : Int, 0 ≤ j → j < 30 → 0 ≤ way_0 j ∧ way_0 j ≤ 24) (hK_0_52 : ∀ j : Int, 0 ≤ j → j < 30 → 0 ≤ bestWay_0 j ∧ bestWay_0 j ≤ 24) (hK_0_117 : ∀ j : Int, 0 ≤ j → j < 100 → 0 ≤ row_0 j ∧ row_0 j ≤ 75) (kz_0_31 : 0 ≤ pn_0 ∧ pn_0 ≤ 25) (kz_0_32 : 0 ≤ pm_0 ∧ pm_0 ≤ 80) (kz_0_45 : 0 ≤ wayMany_0 ∧ wayMany_0 ≤ 30) (kz_0_49 : (-1) ≤ onlyPiece_0 ∧ onlyPiece_0 ≤ 79) (kz_0_125 : 0 ≤ rowMany_0 ∧ rowMany_0 ≤ 100) (ex2 : gx = 0 + (1 * x4 + 0)) (ex3 : (-2) ≤ gx ∧ gx ≤ 26) : 1 * x2 + ((-1) * pn_0 + 0) ≤ (-1) := by
  first
    | omega
    | (have h := ‹STB _ _ _ _ _›.1.2.2; omega)
    | (have h := ‹STR _ _ _ _ _›.1; omega)
    | (have h := ‹STR _ _ _ _ _›.1
       have w := ‹STR _ _ _ _ _›.2.1 x1 (by omega) (by omega)
       omega)
    | (have h := bc_len ‹BC1 _ _ _ _ _ _ _›
       have h2 := ‹STR _ _ _ _ _›.1
       omega)
    | (have h := (sb_way ‹SB1 _ _ _ _ _ _ _ _ _ _ _ _› (by omega)).1
       have h2 := ‹STR _ _ _ _ _›.1
       omega)
    | (have h := ‹WYM _ _ _ _›.1
       have h2 := ‹STR _ _ _ _ _›.1
       omega)
set_option maxHeartbeats 4000000 in
theorem vc_Mo_stOrder_20_11 (x1 : Int) (x2 : Int) (x3 : Int) (x4 : Int) (x5 : Int) (x8 : Int) (x9 : Int) (x11 : Int) (wayMany_0 : Int) (drawnNode_0 : Int → Int) (pn_0 : Int) (pt_0 : Int → Int) (ph_0 : Int → Int) (pm_0 : Int) (alive_0 : Int → Int) (row_0 : Int → Int) (rowMany_0 : Int) (onlyPiece_0 : Int) (drawnEdge_0 : Int → Int) (pieceOf_0 : Int → Int) (bestWay_0 : Int → Int) (way_0 : Int → Int) (gx : Int) (k1 : 0 ≤ x1 ∧ x1 ≤ 0) (k2 : 0 ≤ x2 ∧ x2 ≤ 24) (k3 : 0 ≤ x3 ∧ x3 ≤ 24) (k4 : (-2) ≤ x4 ∧ x4 ≤ 26) (k5 : 1 ≤ x5 ∧ x5 ≤ 25) (k8 : 1 ≤ x8 ∧ x8 ≤ 1) (k9 : 1 ≤ x9 ∧ x9 ≤ 30) (k11 : 0 ≤ x11 ∧ x11 ≤ 0) (d0 : x5 + (-4294967296) ≤ x3 ∧ x3 ≤ x5 + (-1)) (g0 : x9 = wayMany_0) (f1 : x1 ≠ x9) (f2 : x1 = 0) (f3 : x9 ≠ 0) (f4 : drawnNode_0 (x3) ≠ 0) (f5 : 1 * x3 + ((-1) * pn_0 + 0) ≤ (-1)) (f6 : GOK (pn_0) (pm_0) (pt_0) (ph_0)) (f7 : STB (pn_0) (pm_0) (pt_0) (ph_0) (alive_0)) (f8 : STR (pn_0) (rowMany_0) (pt_0) (ph_0) (row_0)) (f9 : onlyPiece_0 = (-1)) (f10 : (-1) * rowMany_0 + ((-1) * x4 + 0) ≤ (-26)) (f11 : DRR (pn_0) (rowMany_0) (drawnNode_0) (row_0)) (f12 : DEM (pm_0) (pt_0) (ph_0) (drawnNode_0) (drawnEdge_0)) (f13 : UA (pm_0) (alive_0) (drawnEdge_0)) (f14 : (rowMany_0 + 1) ≤ pn_0) (f15 : SB1 (pn_0) (pm_0) (onlyPiece_0) (pt_0) (ph_0) (drawnEdge_0) (pieceOf_0) (drawnNode_0) (bestWay_0) (x1) (x2) (x3)) (f16 : 1 * x2 + ((-1) * pn_0 + 0) ≤ (-1)) (f17 : drawnNode_0 (x2) ≠ 0) (f18 : SHP (pn_0) (pm_0) (onlyPiece_0) (wayMany_0) (pt_0) (ph_0) (alive_0) (drawnEdge_0) (pieceOf_0) (drawnNode_0) (way_0) (x2) (x3) (x8)) (f20 : x3 ≠ x2) (f21 : x3 < x5) (hK_0_33 : ∀ j : Int, 0 ≤ j → j < 80 → 0 ≤ pt_0 j ∧ pt_0 j ≤ 24) (hK_0_34 : ∀ j : Int, 0 ≤ j → j < 80 → 0 ≤ ph_0 j ∧ ph_0 j ≤ 24) (hK_0_35 : ∀ j : Int, 0 ≤ j → j < 80 → 0 ≤ alive_0 j ∧ alive_0 j ≤ 1) (hK_0_42 : ∀ j : Int, 0 ≤ j → j < 26 → 0 ≤ drawnNode_0 j ∧ drawnNode_0 j ≤ 1) (hK_0_43 : ∀ j : Int, 0 ≤ j → j < 80 → 0 ≤ drawnEdge_0 j ∧ drawnEdge_0 j ≤ 1) (hK_0_44 : ∀ j : Int, 0 ≤ j → j < 80 → (-1) ≤ pieceOf_0 j ∧ pieceOf_0 j ≤ 79) (hK_0_46 : ∀ j : Int, 0 ≤ j → j < 30 → 0 ≤ way_0 j ∧ way_0 j ≤ 24) (hK_0_52 : ∀ j : Int, 0 ≤ j → j < 30 → 0 ≤ bestWay_0 j ∧ bestWay_0 j ≤ 24) (hK_0_117 : ∀ j : Int, 0 ≤ j → j < 100 → 0 ≤ row_0 j ∧ row_0 j ≤ 75) (kz_0_31 : 0 ≤ pn_0 ∧ pn_0 ≤ 25) (kz_0_32 : 0 ≤ pm_0 ∧ pm_0 ≤ 80) (kz_0_45 : 0 ≤ wayMany_0 ∧ wayMany_0 ≤ 30) (kz_0_49 : (-1) ≤ onlyPiece_0 ∧ onlyPiece_0 ≤ 79) (kz_0_125 : 0 ≤ rowMany_0 ∧ rowMany_0 ≤ 100) (ex2 : gx = 0 + (1 * x4 + 0)) (ex3 : (-2) ≤ gx ∧ gx ≤ 26) : 1 * x3 + ((-1) * pn_0 + 0) ≤ (-1) := by
  first
    | omega
    | (have h := ‹STB _ _ _ _ _›.1.2.2; omega)
    | (have h := ‹STR _ _ _ _ _›.1; omega)
    | (have h := ‹STR _ _ _ _ _›.1
       have w := ‹STR _ _ _ _ _›.2.1 x1 (by omega) (by omega)
       omega)
    | (have h := bc_len ‹BC1 _ _ _ _ _ _ _›
       have h2 := ‹STR _ _ _ _ _›.1
       omega)
    | (have h := (sb_way ‹SB1 _ _ _ _ _ _ _ _ _ _ _ _› (by omega)).1
       have h2 := ‹STR _ _ _ _ _›.1
       omega)
    | (have h := ‹WYM _ _ _ _›.1
       have h2 := ‹STR _ _ _ _ _›.1
       omega)
set_option maxHeartbeats 4000000 in
theorem vc_Mo_stOrder_20_12 (x1 : Int) (x2 : Int) (x3 : Int) (x4 : Int) (x5 : Int) (x8 : Int) (x9 : Int) (x11 : Int) (wayMany_0 : Int) (drawnNode_0 : Int → Int) (pn_0 : Int) (pt_0 : Int → Int) (ph_0 : Int → Int) (pm_0 : Int) (alive_0 : Int → Int) (row_0 : Int → Int) (rowMany_0 : Int) (onlyPiece_0 : Int) (drawnEdge_0 : Int → Int) (pieceOf_0 : Int → Int) (bestWay_0 : Int → Int) (way_0 : Int → Int) (gx : Int) (k1 : 0 ≤ x1 ∧ x1 ≤ 0) (k2 : 0 ≤ x2 ∧ x2 ≤ 24) (k3 : 0 ≤ x3 ∧ x3 ≤ 24) (k4 : (-2) ≤ x4 ∧ x4 ≤ 26) (k5 : 1 ≤ x5 ∧ x5 ≤ 25) (k8 : 1 ≤ x8 ∧ x8 ≤ 1) (k9 : 1 ≤ x9 ∧ x9 ≤ 30) (k11 : 0 ≤ x11 ∧ x11 ≤ 0) (d0 : x5 + (-4294967296) ≤ x3 ∧ x3 ≤ x5 + (-1)) (g0 : x9 = wayMany_0) (f1 : x1 ≠ x9) (f2 : x1 = 0) (f3 : x9 ≠ 0) (f4 : drawnNode_0 (x3) ≠ 0) (f5 : 1 * x3 + ((-1) * pn_0 + 0) ≤ (-1)) (f6 : GOK (pn_0) (pm_0) (pt_0) (ph_0)) (f7 : STB (pn_0) (pm_0) (pt_0) (ph_0) (alive_0)) (f8 : STR (pn_0) (rowMany_0) (pt_0) (ph_0) (row_0)) (f9 : onlyPiece_0 = (-1)) (f10 : (-1) * rowMany_0 + ((-1) * x4 + 0) ≤ (-26)) (f11 : DRR (pn_0) (rowMany_0) (drawnNode_0) (row_0)) (f12 : DEM (pm_0) (pt_0) (ph_0) (drawnNode_0) (drawnEdge_0)) (f13 : UA (pm_0) (alive_0) (drawnEdge_0)) (f14 : (rowMany_0 + 1) ≤ pn_0) (f15 : SB1 (pn_0) (pm_0) (onlyPiece_0) (pt_0) (ph_0) (drawnEdge_0) (pieceOf_0) (drawnNode_0) (bestWay_0) (x1) (x2) (x3)) (f16 : 1 * x2 + ((-1) * pn_0 + 0) ≤ (-1)) (f17 : drawnNode_0 (x2) ≠ 0) (f18 : SHP (pn_0) (pm_0) (onlyPiece_0) (wayMany_0) (pt_0) (ph_0) (alive_0) (drawnEdge_0) (pieceOf_0) (drawnNode_0) (way_0) (x2) (x3) (x8)) (f20 : x3 ≠ x2) (f21 : x3 < x5) (hK_0_33 : ∀ j : Int, 0 ≤ j → j < 80 → 0 ≤ pt_0 j ∧ pt_0 j ≤ 24) (hK_0_34 : ∀ j : Int, 0 ≤ j → j < 80 → 0 ≤ ph_0 j ∧ ph_0 j ≤ 24) (hK_0_35 : ∀ j : Int, 0 ≤ j → j < 80 → 0 ≤ alive_0 j ∧ alive_0 j ≤ 1) (hK_0_42 : ∀ j : Int, 0 ≤ j → j < 26 → 0 ≤ drawnNode_0 j ∧ drawnNode_0 j ≤ 1) (hK_0_43 : ∀ j : Int, 0 ≤ j → j < 80 → 0 ≤ drawnEdge_0 j ∧ drawnEdge_0 j ≤ 1) (hK_0_44 : ∀ j : Int, 0 ≤ j → j < 80 → (-1) ≤ pieceOf_0 j ∧ pieceOf_0 j ≤ 79) (hK_0_46 : ∀ j : Int, 0 ≤ j → j < 30 → 0 ≤ way_0 j ∧ way_0 j ≤ 24) (hK_0_52 : ∀ j : Int, 0 ≤ j → j < 30 → 0 ≤ bestWay_0 j ∧ bestWay_0 j ≤ 24) (hK_0_117 : ∀ j : Int, 0 ≤ j → j < 100 → 0 ≤ row_0 j ∧ row_0 j ≤ 75) (kz_0_31 : 0 ≤ pn_0 ∧ pn_0 ≤ 25) (kz_0_32 : 0 ≤ pm_0 ∧ pm_0 ≤ 80) (kz_0_45 : 0 ≤ wayMany_0 ∧ wayMany_0 ≤ 30) (kz_0_49 : (-1) ≤ onlyPiece_0 ∧ onlyPiece_0 ≤ 79) (kz_0_125 : 0 ≤ rowMany_0 ∧ rowMany_0 ≤ 100) (ex2 : gx = 0 + (1 * x4 + 0)) (ex3 : (-2) ≤ gx ∧ gx ≤ 26) : drawnNode_0 (x2) ≠ 0 := by
  first
    | omega
    | (have h := ‹STB _ _ _ _ _›.1.2.2; omega)
    | (have h := ‹STR _ _ _ _ _›.1; omega)
    | (have h := ‹STR _ _ _ _ _›.1
       have w := ‹STR _ _ _ _ _›.2.1 x1 (by omega) (by omega)
       omega)
    | (have h := bc_len ‹BC1 _ _ _ _ _ _ _›
       have h2 := ‹STR _ _ _ _ _›.1
       omega)
    | (have h := (sb_way ‹SB1 _ _ _ _ _ _ _ _ _ _ _ _› (by omega)).1
       have h2 := ‹STR _ _ _ _ _›.1
       omega)
    | (have h := ‹WYM _ _ _ _›.1
       have h2 := ‹STR _ _ _ _ _›.1
       omega)
def o_Mo_stOrder_20 : or_T := (328, 12, [(0, (2, 0, 0, [165])), (1, (0, 0, 0, [])), (2, (0, 0, 24, [])), (3, (0, 0, 24, [])), (4, (0, -2, 26, [])), (5, (0, 1, 25, [])), (8, (0, 1, 1, [])), (9, (0, 1, 30, [])), (11, (0, 0, 0, []))], [(9, [9, 0], [45]), (7, [1, 9], [1]), (8, [1], [0]), (8, [9], [1]), (20, [0, 3], [50, 0, 1, 42, 7, 5, 3, 0, 42, 1, 1, 0, 0]), (20, [3, 0], [30, -1, 1, 0, 0, -1, 1, 31]), (20, [0], [60, 2, 2, 75, 31, 32, 33, 34]), (20, [0], [60, 2, 3, 297, 31, 32, 33, 34, 35]), (20, [0], [60, 2, 3, 298, 31, 125, 33, 34, 117]), (20, [0], [50, 1, 0, 49, 1, 3, 2, 0, 49, 0, -1]), (20, [0, 4], [30, -26, -1, 1, 125, -1, 0, 0]), (20, [0], [60, 2, 2, 301, 31, 125, 42, 117]), (20, [0], [60, 1, 4, 303, 32, 33, 34, 42, 43]), (20, [0], [60, 1, 2, 122, 32, 35, 43]), (20, [0], [50, 2, 0, 125, 31, 0, 7, 4, 3, 2, 0, 125, 0, 1, 2, 0, 31]), (20, [0, 1, 2, 3], [60, 3, 6, 306, 31, 32, 49, 33, 34, 43, 44, 42, 52]), (20, [2, 0], [30, -1, 1, 0, 0, -1, 1, 31]), (20, [0, 2], [50, 0, 1, 42, 7, 5, 3, 0, 42, 1, 1, 0, 0]), (20, [0, 2, 3, 8], [60, 4, 7, 130, 31, 32, 49, 45, 33, 34, 35, 43, 44, 42, 46]), (102, [8], [9415652603080021145753684134811499624153533166696051769344, 165045]), (7, [3, 2], [1]), (7, [3, 5], [2])], [], [(0, -2, 26, [])], [(20, [0], [60, 2, 2, 75, 31, 32, 33, 34]), (20, [0], [60, 2, 3, 297, 31, 32, 33, 34, 35]), (20, [0], [60, 2, 3, 298, 31, 125, 33, 34, 117]), (20, [0], [50, 1, 0, 49, 1, 3, 2, 0, 49, 0, -1]), (20, [0, 12], [30, -26, -1, 1, 125, -1, 0, 0]), (20, [0], [60, 2, 2, 301, 31, 125, 42, 117]), (20, [0], [60, 1, 4, 303, 32, 33, 34, 42, 43]), (20, [0], [60, 1, 2, 122, 32, 35, 43]), (20, [0], [50, 2, 0, 125, 31, 0, 7, 4, 3, 2, 0, 125, 0, 1, 2, 0, 31]), (20, [0, 9, 11], [60, 2, 3, 307, 31, 45, 42, 46, 52]), (20, [2, 0], [30, -1, 1, 0, 0, -1, 1, 31]), (20, [3, 0], [30, -1, 1, 0, 0, -1, 1, 31]), (20, [0, 2], [50, 0, 1, 42, 7, 5, 3, 0, 42, 1, 1, 0, 0])], [(12, 4, 0, 0)], [(3, 5, -4294967296, -1)])
theorem oo_Mo_stOrder_20 {kA : Nat → ClassId} : or_ok PRD kA GG o_Mo_stOrder_20 := by
  refine or_mk fun A ta ws vs hD hth hl => ?_
  intro t0 r0 t1 k1 t2 k2 t3 k3 t4 k4 t5 k5 t8 k8 t9 k9 t11 k11 d0 f0 f1 f2 f3 f4 f5 f6 f7 f8 f9 f10 f11 f12 f13 f14 f15 f16 f17 f18 ta1 w1 le1 s1 f20 f21
  replace f0 := shm_741 f0
  replace f1 := shm_40 f1
  replace f2 := shm_192 f2
  replace f3 := shm_142 f3
  replace f4 := shm_1762 f4
  replace f5 := shm_553 f5
  replace f6 := shm_575 f6
  replace f7 := shm_1749 f7
  replace f8 := shm_1001 f8
  replace f9 := shm_1675 f9
  replace f10 := shm_1750 f10
  replace f11 := shm_1755 f11
  replace f12 := shm_1757 f12
  replace f13 := shm_1455 f13
  replace f14 := shm_1752 f14
  replace f15 := shm_1761 f15
  replace f16 := shm_553 f16
  replace f17 := shm_1762 f17
  replace f18 := shm_1463 f18
  replace f20 := shm_40 f20
  replace f21 := shm_6 f21
  have cr_0_33 := fdq_117 hD hth r0
  have cr_0_34 := fdq_118 hD hth r0
  have cr_0_35 := fdq_132 hD hth r0
  have cr_0_42 := fdq_136 hD hth r0
  have cr_0_43 := fdq_137 hD hth r0
  have cr_0_44 := fdq_138 hD hth r0
  have cr_0_46 := fdq_190 hD hth r0
  have cr_0_52 := fdq_236 hD hth r0
  have cr_0_117 := fdq_181 hD hth r0
  have g0 : v_iv (n_v vs 9) = w_fi ws (n_v vs 0) 45 := congrArg v_iv f0
  have hK_0_33 := elq_60 hD hth cr_0_33
  have hK_0_34 := elq_61 hD hth cr_0_34
  have hK_0_35 := elq_72 hD hth cr_0_35
  have hK_0_42 := elq_75 hD hth cr_0_42
  have hK_0_43 := elq_76 hD hth cr_0_43
  have hK_0_44 := elq_77 hD hth cr_0_44
  have hK_0_46 := elq_114 hD hth cr_0_46
  have hK_0_52 := elq_147 hD hth cr_0_52
  have hK_0_117 := elq_108 hD hth cr_0_117
  have kz_0_31 := fdq_145 hD hth r0
  have kz_0_32 := fdq_140 hD hth r0
  have kz_0_45 := fdq_191 hD hth r0
  have kz_0_49 := fdq_146 hD hth r0
  have kz_0_125 := fdq_182 hD hth r0
  obtain ⟨x, ex, hx⟩ := iv_ex (ta := ta) (lo := (-2)) (hi := 26) (z := 0 + (1 * v_iv (n_v vs 4) + 0)) (by omega) (by omega) (by omega) (by omega)
  have ex2 : v_iv (Value.int x) = 0 + (1 * v_iv (n_v vs 4) + 0) := ex
  have ex3 : (-2) ≤ v_iv (Value.int x) ∧ v_iv (Value.int x) ≤ 26 := tv_rng hx
  have e_0 : n_v (vs ++ [Value.int x]) 0 = n_v vs 0 := n_v_old (by rw [hl]; decide)
  have e_2 : n_v (vs ++ [Value.int x]) 2 = n_v vs 2 := n_v_old (by rw [hl]; decide)
  have e_3 : n_v (vs ++ [Value.int x]) 3 = n_v vs 3 := n_v_old (by rw [hl]; decide)
  have e_9 : n_v (vs ++ [Value.int x]) 9 = n_v vs 9 := n_v_old (by rw [hl]; decide)
  have e_11 : n_v (vs ++ [Value.int x]) 11 = n_v vs 11 := n_v_old (by rw [hl]; decide)
  have e_12 : n_v (vs ++ [Value.int x]) 12 = Value.int x := n_v_new hl
  have nf0 : fc_1 PRD (20, [0], [60, 2, 2, 75, 31, 32, 33, 34]) ws (vs ++ [Value.int x]) := by
    refine ⟨nf_inA hl rfl, sgq_575 ?_⟩
    · show GOK (w_fi ws (n_v (vs ++ [Value.int x]) 0) 31) (w_fi ws (n_v (vs ++ [Value.int x]) 0) 32) (w_ei ws (w_ar ws (n_v (vs ++ [Value.int x]) 0) 33)) (w_ei ws (w_ar ws (n_v (vs ++ [Value.int x]) 0) 34))
      rw [e_0]
      exact vc_Mo_stOrder_20_0 (v_iv (n_v vs 1)) (v_iv (n_v vs 2)) (v_iv (n_v vs 3)) (v_iv (n_v vs 4)) (v_iv (n_v vs 5)) (v_iv (n_v vs 8)) (v_iv (n_v vs 9)) (v_iv (n_v vs 11)) (w_fi ws (n_v vs 0) 45) (w_ei ws (w_ar ws (n_v vs 0) 42)) (w_fi ws (n_v vs 0) 31) (w_ei ws (w_ar ws (n_v vs 0) 33)) (w_ei ws (w_ar ws (n_v vs 0) 34)) (w_fi ws (n_v vs 0) 32) (w_ei ws (w_ar ws (n_v vs 0) 35)) (w_ei ws (w_ar ws (n_v vs 0) 117)) (w_fi ws (n_v vs 0) 125) (w_fi ws (n_v vs 0) 49) (w_ei ws (w_ar ws (n_v vs 0) 43)) (w_ei ws (w_ar ws (n_v vs 0) 44)) (w_ei ws (w_ar ws (n_v vs 0) 52)) (w_ei ws (w_ar ws (n_v vs 0) 46)) (v_iv (Value.int x)) k1 k2 k3 k4 k5 k8 k9 k11 d0 g0 f1 f2 f3 f4 f5 f6 f7 f8 f9 f10 f11 f12 f13 f14 f15 f16 f17 f18 f20 f21 hK_0_33 hK_0_34 hK_0_35 hK_0_42 hK_0_43 hK_0_44 hK_0_46 hK_0_52 hK_0_117 kz_0_31 kz_0_32 kz_0_45 kz_0_49 kz_0_125 ex2 ex3
  have nf1 : fc_1 PRD (20, [0], [60, 2, 3, 297, 31, 32, 33, 34, 35]) ws (vs ++ [Value.int x]) := by
    refine ⟨nf_inA hl rfl, sgq_1749 ?_⟩
    · show STB (w_fi ws (n_v (vs ++ [Value.int x]) 0) 31) (w_fi ws (n_v (vs ++ [Value.int x]) 0) 32) (w_ei ws (w_ar ws (n_v (vs ++ [Value.int x]) 0) 33)) (w_ei ws (w_ar ws (n_v (vs ++ [Value.int x]) 0) 34)) (w_ei ws (w_ar ws (n_v (vs ++ [Value.int x]) 0) 35))
      rw [e_0]
      exact vc_Mo_stOrder_20_1 (v_iv (n_v vs 1)) (v_iv (n_v vs 2)) (v_iv (n_v vs 3)) (v_iv (n_v vs 4)) (v_iv (n_v vs 5)) (v_iv (n_v vs 8)) (v_iv (n_v vs 9)) (v_iv (n_v vs 11)) (w_fi ws (n_v vs 0) 45) (w_ei ws (w_ar ws (n_v vs 0) 42)) (w_fi ws (n_v vs 0) 31) (w_ei ws (w_ar ws (n_v vs 0) 33)) (w_ei ws (w_ar ws (n_v vs 0) 34)) (w_fi ws (n_v vs 0) 32) (w_ei ws (w_ar ws (n_v vs 0) 35)) (w_ei ws (w_ar ws (n_v vs 0) 117)) (w_fi ws (n_v vs 0) 125) (w_fi ws (n_v vs 0) 49) (w_ei ws (w_ar ws (n_v vs 0) 43)) (w_ei ws (w_ar ws (n_v vs 0) 44)) (w_ei ws (w_ar ws (n_v vs 0) 52)) (w_ei ws (w_ar ws (n_v vs 0) 46)) (v_iv (Value.int x)) k1 k2 k3 k4 k5 k8 k9 k11 d0 g0 f1 f2 f3 f4 f5 f6 f7 f8 f9 f10 f11 f12 f13 f14 f15 f16 f17 f18 f20 f21 hK_0_33 hK_0_34 hK_0_35 hK_0_42 hK_0_43 hK_0_44 hK_0_46 hK_0_52 hK_0_117 kz_0_31 kz_0_32 kz_0_45 kz_0_49 kz_0_125 ex2 ex3
  have nf2 : fc_1 PRD (20, [0], [60, 2, 3, 298, 31, 125, 33, 34, 117]) ws (vs ++ [Value.int x]) := by
    refine ⟨nf_inA hl rfl, sgq_1001 ?_⟩
    · show STR (w_fi ws (n_v (vs ++ [Value.int x]) 0) 31) (w_fi ws (n_v (vs ++ [Value.int x]) 0) 125) (w_ei ws (w_ar ws (n_v (vs ++ [Value.int x]) 0) 33)) (w_ei ws (w_ar ws (n_v (vs ++ [Value.int x]) 0) 34)) (w_ei ws (w_ar ws (n_v (vs ++ [Value.int x]) 0) 117))
      rw [e_0]
      exact vc_Mo_stOrder_20_2 (v_iv (n_v vs 1)) (v_iv (n_v vs 2)) (v_iv (n_v vs 3)) (v_iv (n_v vs 4)) (v_iv (n_v vs 5)) (v_iv (n_v vs 8)) (v_iv (n_v vs 9)) (v_iv (n_v vs 11)) (w_fi ws (n_v vs 0) 45) (w_ei ws (w_ar ws (n_v vs 0) 42)) (w_fi ws (n_v vs 0) 31) (w_ei ws (w_ar ws (n_v vs 0) 33)) (w_ei ws (w_ar ws (n_v vs 0) 34)) (w_fi ws (n_v vs 0) 32) (w_ei ws (w_ar ws (n_v vs 0) 35)) (w_ei ws (w_ar ws (n_v vs 0) 117)) (w_fi ws (n_v vs 0) 125) (w_fi ws (n_v vs 0) 49) (w_ei ws (w_ar ws (n_v vs 0) 43)) (w_ei ws (w_ar ws (n_v vs 0) 44)) (w_ei ws (w_ar ws (n_v vs 0) 52)) (w_ei ws (w_ar ws (n_v vs 0) 46)) (v_iv (Value.int x)) k1 k2 k3 k4 k5 k8 k9 k11 d0 g0 f1 f2 f3 f4 f5 f6 f7 f8 f9 f10 f11 f12 f13 f14 f15 f16 f17 f18 f20 f21 hK_0_33 hK_0_34 hK_0_35 hK_0_42 hK_0_43 hK_0_44 hK_0_46 hK_0_52 hK_0_117 kz_0_31 kz_0_32 kz_0_45 kz_0_49 kz_0_125 ex2 ex3
  have nf3 : fc_1 PRD (20, [0], [50, 1, 0, 49, 1, 3, 2, 0, 49, 0, -1]) ws (vs ++ [Value.int x]) := by
    refine ⟨nf_inA hl rfl, sgq_1675 ?_⟩
    · show w_fi ws (n_v (vs ++ [Value.int x]) 0) 49 = (-1)
      rw [e_0]
      exact vc_Mo_stOrder_20_3 (v_iv (n_v vs 1)) (v_iv (n_v vs 2)) (v_iv (n_v vs 3)) (v_iv (n_v vs 4)) (v_iv (n_v vs 5)) (v_iv (n_v vs 8)) (v_iv (n_v vs 9)) (v_iv (n_v vs 11)) (w_fi ws (n_v vs 0) 45) (w_ei ws (w_ar ws (n_v vs 0) 42)) (w_fi ws (n_v vs 0) 31) (w_ei ws (w_ar ws (n_v vs 0) 33)) (w_ei ws (w_ar ws (n_v vs 0) 34)) (w_fi ws (n_v vs 0) 32) (w_ei ws (w_ar ws (n_v vs 0) 35)) (w_ei ws (w_ar ws (n_v vs 0) 117)) (w_fi ws (n_v vs 0) 125) (w_fi ws (n_v vs 0) 49) (w_ei ws (w_ar ws (n_v vs 0) 43)) (w_ei ws (w_ar ws (n_v vs 0) 44)) (w_ei ws (w_ar ws (n_v vs 0) 52)) (w_ei ws (w_ar ws (n_v vs 0) 46)) (v_iv (Value.int x)) k1 k2 k3 k4 k5 k8 k9 k11 d0 g0 f1 f2 f3 f4 f5 f6 f7 f8 f9 f10 f11 f12 f13 f14 f15 f16 f17 f18 f20 f21 hK_0_33 hK_0_34 hK_0_35 hK_0_42 hK_0_43 hK_0_44 hK_0_46 hK_0_52 hK_0_117 kz_0_31 kz_0_32 kz_0_45 kz_0_49 kz_0_125 ex2 ex3
  have nf4 : fc_1 PRD (20, [0, 12], [30, -26, -1, 1, 125, -1, 0, 0]) ws (vs ++ [Value.int x]) := by
    refine ⟨nf_inA hl rfl, sgq_1750 ?_⟩
    · show (-1) * w_fi ws (n_v (vs ++ [Value.int x]) 0) 125 + ((-1) * v_iv (n_v (vs ++ [Value.int x]) 12) + 0) ≤ (-26)
      simp only [e_0, e_12]
      exact vc_Mo_stOrder_20_4 (v_iv (n_v vs 1)) (v_iv (n_v vs 2)) (v_iv (n_v vs 3)) (v_iv (n_v vs 4)) (v_iv (n_v vs 5)) (v_iv (n_v vs 8)) (v_iv (n_v vs 9)) (v_iv (n_v vs 11)) (w_fi ws (n_v vs 0) 45) (w_ei ws (w_ar ws (n_v vs 0) 42)) (w_fi ws (n_v vs 0) 31) (w_ei ws (w_ar ws (n_v vs 0) 33)) (w_ei ws (w_ar ws (n_v vs 0) 34)) (w_fi ws (n_v vs 0) 32) (w_ei ws (w_ar ws (n_v vs 0) 35)) (w_ei ws (w_ar ws (n_v vs 0) 117)) (w_fi ws (n_v vs 0) 125) (w_fi ws (n_v vs 0) 49) (w_ei ws (w_ar ws (n_v vs 0) 43)) (w_ei ws (w_ar ws (n_v vs 0) 44)) (w_ei ws (w_ar ws (n_v vs 0) 52)) (w_ei ws (w_ar ws (n_v vs 0) 46)) (v_iv (Value.int x)) k1 k2 k3 k4 k5 k8 k9 k11 d0 g0 f1 f2 f3 f4 f5 f6 f7 f8 f9 f10 f11 f12 f13 f14 f15 f16 f17 f18 f20 f21 hK_0_33 hK_0_34 hK_0_35 hK_0_42 hK_0_43 hK_0_44 hK_0_46 hK_0_52 hK_0_117 kz_0_31 kz_0_32 kz_0_45 kz_0_49 kz_0_125 ex2 ex3
  have nf5 : fc_1 PRD (20, [0], [60, 2, 2, 301, 31, 125, 42, 117]) ws (vs ++ [Value.int x]) := by
    refine ⟨nf_inA hl rfl, sgq_1755 ?_⟩
    · show DRR (w_fi ws (n_v (vs ++ [Value.int x]) 0) 31) (w_fi ws (n_v (vs ++ [Value.int x]) 0) 125) (w_ei ws (w_ar ws (n_v (vs ++ [Value.int x]) 0) 42)) (w_ei ws (w_ar ws (n_v (vs ++ [Value.int x]) 0) 117))
      rw [e_0]
      exact vc_Mo_stOrder_20_5 (v_iv (n_v vs 1)) (v_iv (n_v vs 2)) (v_iv (n_v vs 3)) (v_iv (n_v vs 4)) (v_iv (n_v vs 5)) (v_iv (n_v vs 8)) (v_iv (n_v vs 9)) (v_iv (n_v vs 11)) (w_fi ws (n_v vs 0) 45) (w_ei ws (w_ar ws (n_v vs 0) 42)) (w_fi ws (n_v vs 0) 31) (w_ei ws (w_ar ws (n_v vs 0) 33)) (w_ei ws (w_ar ws (n_v vs 0) 34)) (w_fi ws (n_v vs 0) 32) (w_ei ws (w_ar ws (n_v vs 0) 35)) (w_ei ws (w_ar ws (n_v vs 0) 117)) (w_fi ws (n_v vs 0) 125) (w_fi ws (n_v vs 0) 49) (w_ei ws (w_ar ws (n_v vs 0) 43)) (w_ei ws (w_ar ws (n_v vs 0) 44)) (w_ei ws (w_ar ws (n_v vs 0) 52)) (w_ei ws (w_ar ws (n_v vs 0) 46)) (v_iv (Value.int x)) k1 k2 k3 k4 k5 k8 k9 k11 d0 g0 f1 f2 f3 f4 f5 f6 f7 f8 f9 f10 f11 f12 f13 f14 f15 f16 f17 f18 f20 f21 hK_0_33 hK_0_34 hK_0_35 hK_0_42 hK_0_43 hK_0_44 hK_0_46 hK_0_52 hK_0_117 kz_0_31 kz_0_32 kz_0_45 kz_0_49 kz_0_125 ex2 ex3
  have nf6 : fc_1 PRD (20, [0], [60, 1, 4, 303, 32, 33, 34, 42, 43]) ws (vs ++ [Value.int x]) := by
    refine ⟨nf_inA hl rfl, sgq_1757 ?_⟩
    · show DEM (w_fi ws (n_v (vs ++ [Value.int x]) 0) 32) (w_ei ws (w_ar ws (n_v (vs ++ [Value.int x]) 0) 33)) (w_ei ws (w_ar ws (n_v (vs ++ [Value.int x]) 0) 34)) (w_ei ws (w_ar ws (n_v (vs ++ [Value.int x]) 0) 42)) (w_ei ws (w_ar ws (n_v (vs ++ [Value.int x]) 0) 43))
      rw [e_0]
      exact vc_Mo_stOrder_20_6 (v_iv (n_v vs 1)) (v_iv (n_v vs 2)) (v_iv (n_v vs 3)) (v_iv (n_v vs 4)) (v_iv (n_v vs 5)) (v_iv (n_v vs 8)) (v_iv (n_v vs 9)) (v_iv (n_v vs 11)) (w_fi ws (n_v vs 0) 45) (w_ei ws (w_ar ws (n_v vs 0) 42)) (w_fi ws (n_v vs 0) 31) (w_ei ws (w_ar ws (n_v vs 0) 33)) (w_ei ws (w_ar ws (n_v vs 0) 34)) (w_fi ws (n_v vs 0) 32) (w_ei ws (w_ar ws (n_v vs 0) 35)) (w_ei ws (w_ar ws (n_v vs 0) 117)) (w_fi ws (n_v vs 0) 125) (w_fi ws (n_v vs 0) 49) (w_ei ws (w_ar ws (n_v vs 0) 43)) (w_ei ws (w_ar ws (n_v vs 0) 44)) (w_ei ws (w_ar ws (n_v vs 0) 52)) (w_ei ws (w_ar ws (n_v vs 0) 46)) (v_iv (Value.int x)) k1 k2 k3 k4 k5 k8 k9 k11 d0 g0 f1 f2 f3 f4 f5 f6 f7 f8 f9 f10 f11 f12 f13 f14 f15 f16 f17 f18 f20 f21 hK_0_33 hK_0_34 hK_0_35 hK_0_42 hK_0_43 hK_0_44 hK_0_46 hK_0_52 hK_0_117 kz_0_31 kz_0_32 kz_0_45 kz_0_49 kz_0_125 ex2 ex3
  have nf7 : fc_1 PRD (20, [0], [60, 1, 2, 122, 32, 35, 43]) ws (vs ++ [Value.int x]) := by
    refine ⟨nf_inA hl rfl, sgq_1455 ?_⟩
    · show UA (w_fi ws (n_v (vs ++ [Value.int x]) 0) 32) (w_ei ws (w_ar ws (n_v (vs ++ [Value.int x]) 0) 35)) (w_ei ws (w_ar ws (n_v (vs ++ [Value.int x]) 0) 43))
      rw [e_0]
      exact vc_Mo_stOrder_20_7 (v_iv (n_v vs 1)) (v_iv (n_v vs 2)) (v_iv (n_v vs 3)) (v_iv (n_v vs 4)) (v_iv (n_v vs 5)) (v_iv (n_v vs 8)) (v_iv (n_v vs 9)) (v_iv (n_v vs 11)) (w_fi ws (n_v vs 0) 45) (w_ei ws (w_ar ws (n_v vs 0) 42)) (w_fi ws (n_v vs 0) 31) (w_ei ws (w_ar ws (n_v vs 0) 33)) (w_ei ws (w_ar ws (n_v vs 0) 34)) (w_fi ws (n_v vs 0) 32) (w_ei ws (w_ar ws (n_v vs 0) 35)) (w_ei ws (w_ar ws (n_v vs 0) 117)) (w_fi ws (n_v vs 0) 125) (w_fi ws (n_v vs 0) 49) (w_ei ws (w_ar ws (n_v vs 0) 43)) (w_ei ws (w_ar ws (n_v vs 0) 44)) (w_ei ws (w_ar ws (n_v vs 0) 52)) (w_ei ws (w_ar ws (n_v vs 0) 46)) (v_iv (Value.int x)) k1 k2 k3 k4 k5 k8 k9 k11 d0 g0 f1 f2 f3 f4 f5 f6 f7 f8 f9 f10 f11 f12 f13 f14 f15 f16 f17 f18 f20 f21 hK_0_33 hK_0_34 hK_0_35 hK_0_42 hK_0_43 hK_0_44 hK_0_46 hK_0_52 hK_0_117 kz_0_31 kz_0_32 kz_0_45 kz_0_49 kz_0_125 ex2 ex3
  have nf8 : fc_1 PRD (20, [0], [50, 2, 0, 125, 31, 0, 7, 4, 3, 2, 0, 125, 0, 1, 2, 0, 31]) ws (vs ++ [Value.int x]) := by
    refine ⟨nf_inA hl rfl, sgq_1752 ?_⟩
    · show (w_fi ws (n_v (vs ++ [Value.int x]) 0) 125 + 1) ≤ w_fi ws (n_v (vs ++ [Value.int x]) 0) 31
      rw [e_0]
      exact vc_Mo_stOrder_20_8 (v_iv (n_v vs 1)) (v_iv (n_v vs 2)) (v_iv (n_v vs 3)) (v_iv (n_v vs 4)) (v_iv (n_v vs 5)) (v_iv (n_v vs 8)) (v_iv (n_v vs 9)) (v_iv (n_v vs 11)) (w_fi ws (n_v vs 0) 45) (w_ei ws (w_ar ws (n_v vs 0) 42)) (w_fi ws (n_v vs 0) 31) (w_ei ws (w_ar ws (n_v vs 0) 33)) (w_ei ws (w_ar ws (n_v vs 0) 34)) (w_fi ws (n_v vs 0) 32) (w_ei ws (w_ar ws (n_v vs 0) 35)) (w_ei ws (w_ar ws (n_v vs 0) 117)) (w_fi ws (n_v vs 0) 125) (w_fi ws (n_v vs 0) 49) (w_ei ws (w_ar ws (n_v vs 0) 43)) (w_ei ws (w_ar ws (n_v vs 0) 44)) (w_ei ws (w_ar ws (n_v vs 0) 52)) (w_ei ws (w_ar ws (n_v vs 0) 46)) (v_iv (Value.int x)) k1 k2 k3 k4 k5 k8 k9 k11 d0 g0 f1 f2 f3 f4 f5 f6 f7 f8 f9 f10 f11 f12 f13 f14 f15 f16 f17 f18 f20 f21 hK_0_33 hK_0_34 hK_0_35 hK_0_42 hK_0_43 hK_0_44 hK_0_46 hK_0_52 hK_0_117 kz_0_31 kz_0_32 kz_0_45 kz_0_49 kz_0_125 ex2 ex3
  have nf9 : fc_1 PRD (20, [0, 9, 11], [60, 2, 3, 307, 31, 45, 42, 46, 52]) ws (vs ++ [Value.int x]) := by
    refine ⟨nf_inA hl rfl, sgq_1763 ?_⟩
    · show BC1 (w_fi ws (n_v (vs ++ [Value.int x]) 0) 31) (w_fi ws (n_v (vs ++ [Value.int x]) 0) 45) (w_ei ws (w_ar ws (n_v (vs ++ [Value.int x]) 0) 42)) (w_ei ws (w_ar ws (n_v (vs ++ [Value.int x]) 0) 46)) (w_ei ws (w_ar ws (n_v (vs ++ [Value.int x]) 0) 52)) (v_iv (n_v (vs ++ [Value.int x]) 9)) (v_iv (n_v (vs ++ [Value.int x]) 11))
      simp only [e_0, e_9, e_11]
      exact vc_Mo_stOrder_20_9 (v_iv (n_v vs 1)) (v_iv (n_v vs 2)) (v_iv (n_v vs 3)) (v_iv (n_v vs 4)) (v_iv (n_v vs 5)) (v_iv (n_v vs 8)) (v_iv (n_v vs 9)) (v_iv (n_v vs 11)) (w_fi ws (n_v vs 0) 45) (w_ei ws (w_ar ws (n_v vs 0) 42)) (w_fi ws (n_v vs 0) 31) (w_ei ws (w_ar ws (n_v vs 0) 33)) (w_ei ws (w_ar ws (n_v vs 0) 34)) (w_fi ws (n_v vs 0) 32) (w_ei ws (w_ar ws (n_v vs 0) 35)) (w_ei ws (w_ar ws (n_v vs 0) 117)) (w_fi ws (n_v vs 0) 125) (w_fi ws (n_v vs 0) 49) (w_ei ws (w_ar ws (n_v vs 0) 43)) (w_ei ws (w_ar ws (n_v vs 0) 44)) (w_ei ws (w_ar ws (n_v vs 0) 52)) (w_ei ws (w_ar ws (n_v vs 0) 46)) (v_iv (Value.int x)) k1 k2 k3 k4 k5 k8 k9 k11 d0 g0 f1 f2 f3 f4 f5 f6 f7 f8 f9 f10 f11 f12 f13 f14 f15 f16 f17 f18 f20 f21 hK_0_33 hK_0_34 hK_0_35 hK_0_42 hK_0_43 hK_0_44 hK_0_46 hK_0_52 hK_0_117 kz_0_31 kz_0_32 kz_0_45 kz_0_49 kz_0_125 ex2 ex3
  have nf10 : fc_1 PRD (20, [2, 0], [30, -1, 1, 0, 0, -1, 1, 31]) ws (vs ++ [Value.int x]) := by
    refine ⟨nf_inA hl rfl, sgq_553 ?_⟩
    · show 1 * v_iv (n_v (vs ++ [Value.int x]) 2) + ((-1) * w_fi ws (n_v (vs ++ [Value.int x]) 0) 31 + 0) ≤ (-1)
      simp only [e_0, e_2]
      exact vc_Mo_stOrder_20_10 (v_iv (n_v vs 1)) (v_iv (n_v vs 2)) (v_iv (n_v vs 3)) (v_iv (n_v vs 4)) (v_iv (n_v vs 5)) (v_iv (n_v vs 8)) (v_iv (n_v vs 9)) (v_iv (n_v vs 11)) (w_fi ws (n_v vs 0) 45) (w_ei ws (w_ar ws (n_v vs 0) 42)) (w_fi ws (n_v vs 0) 31) (w_ei ws (w_ar ws (n_v vs 0) 33)) (w_ei ws (w_ar ws (n_v vs 0) 34)) (w_fi ws (n_v vs 0) 32) (w_ei ws (w_ar ws (n_v vs 0) 35)) (w_ei ws (w_ar ws (n_v vs 0) 117)) (w_fi ws (n_v vs 0) 125) (w_fi ws (n_v vs 0) 49) (w_ei ws (w_ar ws (n_v vs 0) 43)) (w_ei ws (w_ar ws (n_v vs 0) 44)) (w_ei ws (w_ar ws (n_v vs 0) 52)) (w_ei ws (w_ar ws (n_v vs 0) 46)) (v_iv (Value.int x)) k1 k2 k3 k4 k5 k8 k9 k11 d0 g0 f1 f2 f3 f4 f5 f6 f7 f8 f9 f10 f11 f12 f13 f14 f15 f16 f17 f18 f20 f21 hK_0_33 hK_0_34 hK_0_35 hK_0_42 hK_0_43 hK_0_44 hK_0_46 hK_0_52 hK_0_117 kz_0_31 kz_0_32 kz_0_45 kz_0_49 kz_0_125 ex2 ex3
  have nf11 : fc_1 PRD (20, [3, 0], [30, -1, 1, 0, 0, -1, 1, 31]) ws (vs ++ [Value.int x]) := by
    refine ⟨nf_inA hl rfl, sgq_553 ?_⟩
    · show 1 * v_iv (n_v (vs ++ [Value.int x]) 3) + ((-1) * w_fi ws (n_v (vs ++ [Value.int x]) 0) 31 + 0) ≤ (-1)
      simp only [e_0, e_3]
      exact vc_Mo_stOrder_20_11 (v_iv (n_v vs 1)) (v_iv (n_v vs 2)) (v_iv (n_v vs 3)) (v_iv (n_v vs 4)) (v_iv (n_v vs 5)) (v_iv (n_v vs 8)) (v_iv (n_v vs 9)) (v_iv (n_v vs 11)) (w_fi ws (n_v vs 0) 45) (w_ei ws (w_ar ws (n_v vs 0) 42)) (w_fi ws (n_v vs 0) 31) (w_ei ws (w_ar ws (n_v vs 0) 33)) (w_ei ws (w_ar ws (n_v vs 0) 34)) (w_fi ws (n_v vs 0) 32) (w_ei ws (w_ar ws (n_v vs 0) 35)) (w_ei ws (w_ar ws (n_v vs 0) 117)) (w_fi ws (n_v vs 0) 125) (w_fi ws (n_v vs 0) 49) (w_ei ws (w_ar ws (n_v vs 0) 43)) (w_ei ws (w_ar ws (n_v vs 0) 44)) (w_ei ws (w_ar ws (n_v vs 0) 52)) (w_ei ws (w_ar ws (n_v vs 0) 46)) (v_iv (Value.int x)) k1 k2 k3 k4 k5 k8 k9 k11 d0 g0 f1 f2 f3 f4 f5 f6 f7 f8 f9 f10 f11 f12 f13 f14 f15 f16 f17 f18 f20 f21 hK_0_33 hK_0_34 hK_0_35 hK_0_42 hK_0_43 hK_0_44 hK_0_46 hK_0_52 hK_0_117 kz_0_31 kz_0_32 kz_0_45 kz_0_49 kz_0_125 ex2 ex3
  have nf12 : fc_1 PRD (20, [0, 2], [50, 0, 1, 42, 7, 5, 3, 0, 42, 1, 1, 0, 0]) ws (vs ++ [Value.int x]) := by
    refine ⟨nf_inA hl rfl, sgq_1762 ?_⟩
    · show w_ei ws (w_ar ws (n_v (vs ++ [Value.int x]) 0) 42) (v_iv (n_v (vs ++ [Value.int x]) 2)) ≠ 0
      simp only [e_0, e_2]
      exact vc_Mo_stOrder_20_12 (v_iv (n_v vs 1)) (v_iv (n_v vs 2)) (v_iv (n_v vs 3)) (v_iv (n_v vs 4)) (v_iv (n_v vs 5)) (v_iv (n_v vs 8)) (v_iv (n_v vs 9)) (v_iv (n_v vs 11)) (w_fi ws (n_v vs 0) 45) (w_ei ws (w_ar ws (n_v vs 0) 42)) (w_fi ws (n_v vs 0) 31) (w_ei ws (w_ar ws (n_v vs 0) 33)) (w_ei ws (w_ar ws (n_v vs 0) 34)) (w_fi ws (n_v vs 0) 32) (w_ei ws (w_ar ws (n_v vs 0) 35)) (w_ei ws (w_ar ws (n_v vs 0) 117)) (w_fi ws (n_v vs 0) 125) (w_fi ws (n_v vs 0) 49) (w_ei ws (w_ar ws (n_v vs 0) 43)) (w_ei ws (w_ar ws (n_v vs 0) 44)) (w_ei ws (w_ar ws (n_v vs 0) 52)) (w_ei ws (w_ar ws (n_v vs 0) 46)) (v_iv (Value.int x)) k1 k2 k3 k4 k5 k8 k9 k11 d0 g0 f1 f2 f3 f4 f5 f6 f7 f8 f9 f10 f11 f12 f13 f14 f15 f16 f17 f18 f20 f21 hK_0_33 hK_0_34 hK_0_35 hK_0_42 hK_0_43 hK_0_44 hK_0_46 hK_0_52 hK_0_117 kz_0_31 kz_0_32 kz_0_45 kz_0_49 kz_0_125 ex2 ex3
  obtain ⟨x0, e0, _, _⟩ := tv_int t4 rfl
  have e1 : v_iv (n_v vs 4) = x0.toInt := by rw [e0]; rfl
  have ho : sy_ofs (vs ++ [Value.int x]) (12, 4, 0, 0) := by
    refine ⟨x, x0, by rw [List.getElem?_append_right (by rw [hl]; decide), hl]; rfl, ?_, ?_, ?_⟩
    · rw [List.getElem?_append_left (by rw [hl]; decide)]; exact n_v_some (by rw [hl]; decide) e0
    · show x0.toInt + 0 ≤ x.toInt; omega
    · show x.toInt ≤ x0.toInt + 0; omega
  exact ⟨(fun _ h => (by cases h)), [Value.int x], ag_one hx, List.forall_mem_cons.mpr ⟨⟨show (20 : Nat) < 100 from by decide, nf0⟩, List.forall_mem_cons.mpr ⟨⟨show (20 : Nat) < 100 from by decide, nf1⟩, List.forall_mem_cons.mpr ⟨⟨show (20 : Nat) < 100 from by decide, nf2⟩, List.forall_mem_cons.mpr ⟨⟨show (20 : Nat) < 100 from by decide, nf3⟩, List.forall_mem_cons.mpr ⟨⟨show (20 : Nat) < 100 from by decide, nf4⟩, List.forall_mem_cons.mpr ⟨⟨show (20 : Nat) < 100 from by decide, nf5⟩, List.forall_mem_cons.mpr ⟨⟨show (20 : Nat) < 100 from by decide, nf6⟩, List.forall_mem_cons.mpr ⟨⟨show (20 : Nat) < 100 from by decide, nf7⟩, List.forall_mem_cons.mpr ⟨⟨show (20 : Nat) < 100 from by decide, nf8⟩, List.forall_mem_cons.mpr ⟨⟨show (20 : Nat) < 100 from by decide, nf9⟩, List.forall_mem_cons.mpr ⟨⟨show (20 : Nat) < 100 from by decide, nf10⟩, List.forall_mem_cons.mpr ⟨⟨show (20 : Nat) < 100 from by decide, nf11⟩, List.forall_mem_cons.mpr ⟨⟨show (20 : Nat) < 100 from by decide, nf12⟩, (fun _ h => (by cases h))⟩⟩⟩⟩⟩⟩⟩⟩⟩⟩⟩⟩⟩, List.forall_mem_cons.mpr ⟨ho, (fun _ h => (by cases h))⟩⟩
set_option maxHeartbeats 4000000 in
theorem vc_Mo_stOrder_21_0 (x1 : Int) (x2 : Int) (x3 : Int) (x4 : Int) (x5 : Int) (x8 : Int) (x9 : Int) (x11 : Int) (wayMany_0 : Int) (drawnNode_0 : Int → Int) (pn_0 : Int) (pt_0 : Int → Int) (ph_0 : Int → Int) (pm_0 : Int) (alive_0 : Int → Int) (row_0 : Int → Int) (rowMany_0 : Int) (onlyPiece_0 : Int) (drawnEdge_0 : Int → Int) (pieceOf_0 : Int → Int) (bestWay_0 : Int → Int) (way_0 : Int → Int) (k1 : 1 ≤ x1 ∧ x1 ≤ 30) (k2 : 0 ≤ x2 ∧ x2 ≤ 24) (k3 : 0 ≤ x3 ∧ x3 ≤ 24) (k4 : (-2) ≤ x4 ∧ x4 ≤ 26) (k5 : 1 ≤ x5 ∧ x5 ≤ 25) (k8 : 1 ≤ x8 ∧ x8 ≤ 1) (k9 : 1 ≤ x9 ∧ x9 ≤ 30) (k11 : 1 ≤ x11 ∧ x11 ≤ 25) (d0 : x3 + 1 ≤ x11 ∧ x11 ≤ x3 + 1) (d1 : x5 + (-4294967296) ≤ x11 ∧ x11 ≤ x5 + 0) (d2 : x1 + 0 ≤ x9 ∧ x9 ≤ x1 + 4294967296) (d3 : x5 + (-4294967296) ≤ x3 ∧ x3 ≤ x5 + (-1)) (f0 : x11 = x3 + 1) (f1 : x1 ≠ x9) (g2 : x9 = wayMany_0) (f3 : x1 ≤ x9) (f4 : x1 ≠ 0) (f5 : x9 ≠ 0) (f6 : drawnNode_0 (x3) ≠ 0) (f7 : 1 * x3 + ((-1) * pn_0 + 0) ≤ (-1)) (f8 : GOK (pn_0) (pm_0) (pt_0) (ph_0)) (f9 : STB (pn_0) (pm_0) (pt_0) (ph_0) (alive_0)) (f10 : STR (pn_0) (rowMany_0) (pt_0) (ph_0) (row_0)) (f11 : onlyPiece_0 = (-1)) (f12 : (-1) * rowMany_0 + ((-1) * x4 + 0) ≤ (-26)) (f13 : DRR (pn_0) (rowMany_0) (drawnNode_0) (row_0)) (f14 : DEM (pm_0) (pt_0) (ph_0) (drawnNode_0) (drawnEdge_0)) (f15 : UA (pm_0) (alive_0) (drawnEdge_0)) (f16 : (rowMany_0 + 1) ≤ pn_0) (f17 : SB1 (pn_0) (pm_0) (onlyPiece_0) (pt_0) (ph_0) (drawnEdge_0) (pieceOf_0) (drawnNode_0) (bestWay_0) (x1) (x2) (x3)) (f18 : 1 * x2 + ((-1) * pn_0 + 0) ≤ (-1)) (f19 : drawnNode_0 (x2) ≠ 0) (f20 : SHP (pn_0) (pm_0) (onlyPiece_0) (wayMany_0) (pt_0) (ph_0) (alive_0) (drawnEdge_0) (pieceOf_0) (drawnNode_0) (way_0) (x2) (x3) (x8)) (f22 : x3 ≠ x2) (f23 : x3 < x5) (hK_0_33 : ∀ j : Int, 0 ≤ j → j < 80 → 0 ≤ pt_0 j ∧ pt_0 j ≤ 24) (hK_0_34 : ∀ j : Int, 0 ≤ j → j < 80 → 0 ≤ ph_0 j ∧ ph_0 j ≤ 24) (hK_0_35 : ∀ j : Int, 0 ≤ j → j < 80 → 0 ≤ alive_0 j ∧ alive_0 j ≤ 1) (hK_0_42 : ∀ j : Int, 0 ≤ j → j < 26 → 0 ≤ drawnNode_0 j ∧ drawnNode_0 j ≤ 1) (hK_0_43 : ∀ j : Int, 0 ≤ j → j < 80 → 0 ≤ drawnEdge_0 j ∧ drawnEdge_0 j ≤ 1) (hK_0_44 : ∀ j : Int, 0 ≤ j → j < 80 → (-1) ≤ pieceOf_0 j ∧ pieceOf_0 j ≤ 79) (hK_0_46 : ∀ j : Int, 0 ≤ j → j < 30 → 0 ≤ way_0 j ∧ way_0 j ≤ 24) (hK_0_52 : ∀ j : Int, 0 ≤ j → j < 30 → 0 ≤ bestWay_0 j ∧ bestWay_0 j ≤ 24) (hK_0_117 : ∀ j : Int, 0 ≤ j → j < 100 → 0 ≤ row_0 j ∧ row_0 j ≤ 75) (kz_0_31 : 0 ≤ pn_0 ∧ pn_0 ≤ 25) (kz_0_32 : 0 ≤ pm_0 ∧ pm_0 ≤ 80) (kz_0_45 : 0 ≤ wayMany_0 ∧ wayMany_0 ≤ 30) (kz_0_49 : (-1) ≤ onlyPiece_0 ∧ onlyPiece_0 ≤ 79) (kz_0_125 : 0 ≤ rowMany_0 ∧ rowMany_0 ≤ 100) : SB1 (pn_0) (pm_0) (onlyPiece_0) (pt_0) (ph_0) (drawnEdge_0) (pieceOf_0) (drawnNode_0) (bestWay_0) (x1) (x2) (x11) := by
  first
    | exact sb_0 ‹SA1 _ _ _ _ _ _ _ _ _ _ _› (by omega)
    | exact sb_skip ‹SB1 _ _ _ _ _ _ _ _ _ _ _ _› (by omega) (Or.inl (by omega))
    | exact sb_skip ‹SB1 _ _ _ _ _ _ _ _ _ _ _ _› (by omega) (Or.inr (by omega))
    | exact sb_now ‹SB1 _ _ _ _ _ _ _ _ _ _ _ _› (by omega) ‹SHP _ _ _ _ _ _ _ _ _ _ _ _ _ _› (by omega) (by omega)
    | exact sb_any ‹SB1 _ _ _ _ _ _ _ _ _ _ _ _› (by omega)
    | exact Or.inr (bc_way ‹BC1 _ _ _ _ _ _ _› (by omega))
def o_Mo_stOrder_21 : or_T := (181, 12, [(0, (2, 0, 0, [165])), (1, (0, 1, 30, [])), (2, (0, 0, 24, [])), (3, (0, 0, 24, [])), (4, (0, -2, 26, [])), (5, (0, 1, 25, [])), (8, (0, 1, 1, [])), (9, (0, 1, 30, [])), (11, (0, 1, 25, []))], [(6, [11, 3], [1]), (7, [1, 9], [1]), (9, [9, 0], [45]), (7, [9, 1], [3]), (8, [1], [1]), (8, [9], [1]), (20, [0, 3], [50, 0, 1, 42, 7, 5, 3, 0, 42, 1, 1, 0, 0]), (20, [3, 0], [30, -1, 1, 0, 0, -1, 1, 31]), (20, [0], [60, 2, 2, 75, 31, 32, 33, 34]), (20, [0], [60, 2, 3, 297, 31, 32, 33, 34, 35]), (20, [0], [60, 2, 3, 298, 31, 125, 33, 34, 117]), (20, [0], [50, 1, 0, 49, 1, 3, 2, 0, 49, 0, -1]), (20, [0, 4], [30, -26, -1, 1, 125, -1, 0, 0]), (20, [0], [60, 2, 2, 301, 31, 125, 42, 117]), (20, [0], [60, 1, 4, 303, 32, 33, 34, 42, 43]), (20, [0], [60, 1, 2, 122, 32, 35, 43]), (20, [0], [50, 2, 0, 125, 31, 0, 7, 4, 3, 2, 0, 125, 0, 1, 2, 0, 31]), (20, [0, 1, 2, 3], [60, 3, 6, 306, 31, 32, 49, 33, 34, 43, 44, 42, 52]), (20, [2, 0], [30, -1, 1, 0, 0, -1, 1, 31]), (20, [0, 2], [50, 0, 1, 42, 7, 5, 3, 0, 42, 1, 1, 0, 0]), (20, [0, 2, 3, 8], [60, 4, 7, 130, 31, 32, 49, 45, 33, 34, 35, 43, 44, 42, 46]), (102, [8], [9415652603080021145753684134811499624153533166696051769344, 165045]), (7, [3, 2], [1]), (7, [3, 5], [2])], [], [], [(20, [0, 1, 2, 11], [60, 3, 6, 306, 31, 32, 49, 33, 34, 43, 44, 42, 52])], [], [(11, 3, 1, 1), (11, 5, -4294967296, 0), (9, 1, 0, 4294967296), (3, 5, -4294967296, -1)])
theorem oo_Mo_stOrder_21 {kA : Nat → ClassId} : or_ok PRD kA GG o_Mo_stOrder_21 := by
  refine or_mk fun A ta ws vs hD hth hl => ?_
  intro t0 r0 t1 k1 t2 k2 t3 k3 t4 k4 t5 k5 t8 k8 t9 k9 t11 k11 d0 d1 d2 d3 f0 f1 f2 f3 f4 f5 f6 f7 f8 f9 f10 f11 f12 f13 f14 f15 f16 f17 f18 f19 f20 ta1 w1 le1 s1 f22 f23
  replace f2 := shm_741 f2
  have cr_0_33 := fdq_117 hD hth r0
  have cr_0_34 := fdq_118 hD hth r0
  have cr_0_35 := fdq_132 hD hth r0
  have cr_0_42 := fdq_136 hD hth r0
  have cr_0_43 := fdq_137 hD hth r0
  have cr_0_44 := fdq_138 hD hth r0
  have cr_0_46 := fdq_190 hD hth r0
  have cr_0_52 := fdq_236 hD hth r0
  have cr_0_117 := fdq_181 hD hth r0
  have g2 : v_iv (n_v vs 9) = w_fi ws (n_v vs 0) 45 := congrArg v_iv f2
  have hK_0_33 := elq_60 hD hth cr_0_33
  have hK_0_34 := elq_61 hD hth cr_0_34
  have hK_0_35 := elq_72 hD hth cr_0_35
  have hK_0_42 := elq_75 hD hth cr_0_42
  have hK_0_43 := elq_76 hD hth cr_0_43
  have hK_0_44 := elq_77 hD hth cr_0_44
  have hK_0_46 := elq_114 hD hth cr_0_46
  have hK_0_52 := elq_147 hD hth cr_0_52
  have hK_0_117 := elq_108 hD hth cr_0_117
  have kz_0_31 := fdq_145 hD hth r0
  have kz_0_32 := fdq_140 hD hth r0
  have kz_0_45 := fdq_191 hD hth r0
  have kz_0_49 := fdq_146 hD hth r0
  have kz_0_125 := fdq_182 hD hth r0
  have nf0 : fc_1 PRD (20, [0, 1, 2, 11], [60, 3, 6, 306, 31, 32, 49, 33, 34, 43, 44, 42, 52]) ws (vs) := ⟨nf_in hl rfl, sgq_1761 (vc_Mo_stOrder_21_0 (v_iv (n_v vs 1)) (v_iv (n_v vs 2)) (v_iv (n_v vs 3)) (v_iv (n_v vs 4)) (v_iv (n_v vs 5)) (v_iv (n_v vs 8)) (v_iv (n_v vs 9)) (v_iv (n_v vs 11)) (w_fi ws (n_v vs 0) 45) (w_ei ws (w_ar ws (n_v vs 0) 42)) (w_fi ws (n_v vs 0) 31) (w_ei ws (w_ar ws (n_v vs 0) 33)) (w_ei ws (w_ar ws (n_v vs 0) 34)) (w_fi ws (n_v vs 0) 32) (w_ei ws (w_ar ws (n_v vs 0) 35)) (w_ei ws (w_ar ws (n_v vs 0) 117)) (w_fi ws (n_v vs 0) 125) (w_fi ws (n_v vs 0) 49) (w_ei ws (w_ar ws (n_v vs 0) 43)) (w_ei ws (w_ar ws (n_v vs 0) 44)) (w_ei ws (w_ar ws (n_v vs 0) 52)) (w_ei ws (w_ar ws (n_v vs 0) 46)) k1 k2 k3 k4 k5 k8 k9 k11 d0 d1 d2 d3 (shm_4 f0) (shm_40 f1) g2 (shm_2 f3) (shm_142 f4) (shm_142 f5) (shm_1762 f6) (shm_553 f7) (shm_575 f8) (shm_1749 f9) (shm_1001 f10) (shm_1675 f11) (shm_1750 f12) (shm_1755 f13) (shm_1757 f14) (shm_1455 f15) (shm_1752 f16) (shm_1761 f17) (shm_553 f18) (shm_1762 f19) (shm_1463 f20) (shm_40 f22) (shm_6 f23) hK_0_33 hK_0_34 hK_0_35 hK_0_42 hK_0_43 hK_0_44 hK_0_46 hK_0_52 hK_0_117 kz_0_31 kz_0_32 kz_0_45 kz_0_49 kz_0_125)⟩
  refine ⟨(fun _ h => (by cases h)), [], trivial, ?_, (fun _ h => (by cases h))⟩
  rw [List.append_nil]
  exact List.forall_mem_cons.mpr ⟨⟨show (20 : Nat) < 100 from by decide, nf0⟩, (fun _ h => (by cases h))⟩
set_option maxHeartbeats 4000000 in
theorem vc_Mo_stOrder_22_0 (x1 : Int) (x2 : Int) (x3 : Int) (x4 : Int) (x5 : Int) (x8 : Int) (x9 : Int) (wayMany_0 : Int) (drawnNode_0 : Int → Int) (pn_0 : Int) (pt_0 : Int → Int) (ph_0 : Int → Int) (pm_0 : Int) (alive_0 : Int → Int) (row_0 : Int → Int) (rowMany_0 : Int) (onlyPiece_0 : Int) (drawnEdge_0 : Int → Int) (pieceOf_0 : Int → Int) (bestWay_0 : Int → Int) (way_0 : Int → Int) (gx : Int) (k1 : 1 ≤ x1 ∧ x1 ≤ 30) (k2 : 0 ≤ x2 ∧ x2 ≤ 24) (k3 : 0 ≤ x3 ∧ x3 ≤ 24) (k4 : (-2) ≤ x4 ∧ x4 ≤ 26) (k5 : 1 ≤ x5 ∧ x5 ≤ 25) (k8 : 1 ≤ x8 ∧ x8 ≤ 1) (k9 : 1 ≤ x9 ∧ x9 ≤ 30) (d0 : x9 + 0 ≤ x1 ∧ x1 ≤ x9 + 0) (d1 : x1 + 0 ≤ x9 ∧ x9 ≤ x1 + 4294967296) (d2 : x5 + (-4294967296) ≤ x3 ∧ x3 ≤ x5 + (-1)) (f0 : x1 = x9) (g1 : x9 = wayMany_0) (f2 : x1 ≤ x9) (f3 : x1 ≠ 0) (f4 : x9 ≠ 0) (f5 : drawnNode_0 (x3) ≠ 0) (f6 : 1 * x3 + ((-1) * pn_0 + 0) ≤ (-1)) (f7 : GOK (pn_0) (pm_0) (pt_0) (ph_0)) (f8 : STB (pn_0) (pm_0) (pt_0) (ph_0) (alive_0)) (f9 : STR (pn_0) (rowMany_0) (pt_0) (ph_0) (row_0)) (f10 : onlyPiece_0 = (-1)) (f11 : (-1) * rowMany_0 + ((-1) * x4 + 0) ≤ (-26)) (f12 : DRR (pn_0) (rowMany_0) (drawnNode_0) (row_0)) (f13 : DEM (pm_0) (pt_0) (ph_0) (drawnNode_0) (drawnEdge_0)) (f14 : UA (pm_0) (alive_0) (drawnEdge_0)) (f15 : (rowMany_0 + 1) ≤ pn_0) (f16 : SB1 (pn_0) (pm_0) (onlyPiece_0) (pt_0) (ph_0) (drawnEdge_0) (pieceOf_0) (drawnNode_0) (bestWay_0) (x1) (x2) (x3)) (f17 : 1 * x2 + ((-1) * pn_0 + 0) ≤ (-1)) (f18 : drawnNode_0 (x2) ≠ 0) (f19 : SHP (pn_0) (pm_0) (onlyPiece_0) (wayMany_0) (pt_0) (ph_0) (alive_0) (drawnEdge_0) (pieceOf_0) (drawnNode_0) (way_0) (x2) (x3) (x8)) (f21 : x3 ≠ x2) (f22 : x3 < x5) (hK_0_33 : ∀ j : Int, 0 ≤ j → j < 80 → 0 ≤ pt_0 j ∧ pt_0 j ≤ 24) (hK_0_34 : ∀ j : Int, 0 ≤ j → j < 80 → 0 ≤ ph_0 j ∧ ph_0 j ≤ 24) (hK_0_35 : ∀ j : Int, 0 ≤ j → j < 80 → 0 ≤ alive_0 j ∧ alive_0 j ≤ 1) (hK_0_42 : ∀ j : Int, 0 ≤ j → j < 26 → 0 ≤ drawnNode_0 j ∧ drawnNode_0 j ≤ 1) (hK_0_43 : ∀ j : Int, 0 ≤ j → j < 80 → 0 ≤ drawnEdge_0 j ∧ drawnEdge_0 j ≤ 1) (hK_0_44 : ∀ j : Int, 0 ≤ j → j < 80 → (-1) ≤ pieceOf_0 j ∧ pieceOf_0 j ≤ 79) (hK_0_46 : ∀ j : Int, 0 ≤ j → j < 30 → 0 ≤ way_0 j ∧ way_0 j ≤ 24) (hK_0_52 : ∀ j : Int, 0 ≤ j → j < 30 → 0 ≤ bestWay_0 j ∧ bestWay_0 j ≤ 24) (hK_0_117 : ∀ j : Int, 0 ≤ j → j < 100 → 0 ≤ row_0 j ∧ row_0 j ≤ 75) (kz_0_31 : 0 ≤ pn_0 ∧ pn_0 ≤ 25) (kz_0_32 : 0 ≤ pm_0 ∧ pm_0 ≤ 80) (kz_0_45 : 0 ≤ wayMany_0 ∧ wayMany_0 ≤ 30) (kz_0_49 : (-1) ≤ onlyPiece_0 ∧ onlyPiece_0 ≤ 79) (kz_0_125 : 0 ≤ rowMany_0 ∧ rowMany_0 ≤ 100) (ex2 : gx = 0 + (1 * x4 + 0)) (ex3 : (-2) ≤ gx ∧ gx ≤ 26) : GOK (pn_0) (pm_0) (pt_0) (ph_0) := by
  first
    | assumption
    | exact ‹STB _ _ _ _ _›.1.1
set_option maxHeartbeats 4000000 in
theorem vc_Mo_stOrder_22_1 (x1 : Int) (x2 : Int) (x3 : Int) (x4 : Int) (x5 : Int) (x8 : Int) (x9 : Int) (wayMany_0 : Int) (drawnNode_0 : Int → Int) (pn_0 : Int) (pt_0 : Int → Int) (ph_0 : Int → Int) (pm_0 : Int) (alive_0 : Int → Int) (row_0 : Int → Int) (rowMany_0 : Int) (onlyPiece_0 : Int) (drawnEdge_0 : Int → Int) (pieceOf_0 : Int → Int) (bestWay_0 : Int → Int) (way_0 : Int → Int) (gx : Int) (k1 : 1 ≤ x1 ∧ x1 ≤ 30) (k2 : 0 ≤ x2 ∧ x2 ≤ 24) (k3 : 0 ≤ x3 ∧ x3 ≤ 24) (k4 : (-2) ≤ x4 ∧ x4 ≤ 26) (k5 : 1 ≤ x5 ∧ x5 ≤ 25) (k8 : 1 ≤ x8 ∧ x8 ≤ 1) (k9 : 1 ≤ x9 ∧ x9 ≤ 30) (d0 : x9 + 0 ≤ x1 ∧ x1 ≤ x9 + 0) (d1 : x1 + 0 ≤ x9 ∧ x9 ≤ x1 + 4294967296) (d2 : x5 + (-4294967296) ≤ x3 ∧ x3 ≤ x5 + (-1)) (f0 : x1 = x9) (g1 : x9 = wayMany_0) (f2 : x1 ≤ x9) (f3 : x1 ≠ 0) (f4 : x9 ≠ 0) (f5 : drawnNode_0 (x3) ≠ 0) (f6 : 1 * x3 + ((-1) * pn_0 + 0) ≤ (-1)) (f7 : GOK (pn_0) (pm_0) (pt_0) (ph_0)) (f8 : STB (pn_0) (pm_0) (pt_0) (ph_0) (alive_0)) (f9 : STR (pn_0) (rowMany_0) (pt_0) (ph_0) (row_0)) (f10 : onlyPiece_0 = (-1)) (f11 : (-1) * rowMany_0 + ((-1) * x4 + 0) ≤ (-26)) (f12 : DRR (pn_0) (rowMany_0) (drawnNode_0) (row_0)) (f13 : DEM (pm_0) (pt_0) (ph_0) (drawnNode_0) (drawnEdge_0)) (f14 : UA (pm_0) (alive_0) (drawnEdge_0)) (f15 : (rowMany_0 + 1) ≤ pn_0) (f16 : SB1 (pn_0) (pm_0) (onlyPiece_0) (pt_0) (ph_0) (drawnEdge_0) (pieceOf_0) (drawnNode_0) (bestWay_0) (x1) (x2) (x3)) (f17 : 1 * x2 + ((-1) * pn_0 + 0) ≤ (-1)) (f18 : drawnNode_0 (x2) ≠ 0) (f19 : SHP (pn_0) (pm_0) (onlyPiece_0) (wayMany_0) (pt_0) (ph_0) (alive_0) (drawnEdge_0) (pieceOf_0) (drawnNode_0) (way_0) (x2) (x3) (x8)) (f21 : x3 ≠ x2) (f22 : x3 < x5) (hK_0_33 : ∀ j : Int, 0 ≤ j → j < 80 → 0 ≤ pt_0 j ∧ pt_0 j ≤ 24) (hK_0_34 : ∀ j : Int, 0 ≤ j → j < 80 → 0 ≤ ph_0 j ∧ ph_0 j ≤ 24) (hK_0_35 : ∀ j : Int, 0 ≤ j → j < 80 → 0 ≤ alive_0 j ∧ alive_0 j ≤ 1) (hK_0_42 : ∀ j : Int, 0 ≤ j → j < 26 → 0 ≤ drawnNode_0 j ∧ drawnNode_0 j ≤ 1) (hK_0_43 : ∀ j : Int, 0 ≤ j → j < 80 → 0 ≤ drawnEdge_0 j ∧ drawnEdge_0 j ≤ 1) (hK_0_44 : ∀ j : Int, 0 ≤ j → j < 80 → (-1) ≤ pieceOf_0 j ∧ pieceOf_0 j ≤ 79) (hK_0_46 : ∀ j : Int, 0 ≤ j → j < 30 → 0 ≤ way_0 j ∧ way_0 j ≤ 24) (hK_0_52 : ∀ j : Int, 0 ≤ j → j < 30 → 0 ≤ bestWay_0 j ∧ bestWay_0 j ≤ 24) (hK_0_117 : ∀ j : Int, 0 ≤ j → j < 100 → 0 ≤ row_0 j ∧ row_0 j ≤ 75) (kz_0_31 : 0 ≤ pn_0 ∧ pn_0 ≤ 25) (kz_0_32 : 0 ≤ pm_0 ∧ pm_0 ≤ 80) (kz_0_45 : 0 ≤ wayMany_0 ∧ wayMany_0 ≤ 30) (kz_0_49 : (-1) ≤ onlyPiece_0 ∧ onlyPiece_0 ≤ 79) (kz_0_125 : 0 ≤ rowMany_0 ∧ rowMany_0 ≤ 100) (ex2 : gx = 0 + (1 * x4 + 0)) (ex3 : (-2) ≤ gx ∧ gx ≤ 26) : STB (pn_0) (pm_0) (pt_0) (ph_0) (alive_0) := by
  first | assumption
set_option maxHeartbeats 4000000 in
theorem vc_Mo_stOrder_22_2 (x1 : Int) (x2 : Int) (x3 : Int) (x4 : Int) (x5 : Int) (x8 : Int) (x9 : Int) (wayMany_0 : Int) (drawnNode_0 : Int → Int) (pn_0 : Int) (pt_0 : Int → Int) (ph_0 : Int → Int) (pm_0 : Int) (alive_0 : Int → Int) (row_0 : Int → Int) (rowMany_0 : Int) (onlyPiece_0 : Int) (drawnEdge_0 : Int → Int) (pieceOf_0 : Int → Int) (bestWay_0 : Int → Int) (way_0 : Int → Int) (gx : Int) (k1 : 1 ≤ x1 ∧ x1 ≤ 30) (k2 : 0 ≤ x2 ∧ x2 ≤ 24) (k3 : 0 ≤ x3 ∧ x3 ≤ 24) (k4 : (-2) ≤ x4 ∧ x4 ≤ 26) (k5 : 1 ≤ x5 ∧ x5 ≤ 25) (k8 : 1 ≤ x8 ∧ x8 ≤ 1) (k9 : 1 ≤ x9 ∧ x9 ≤ 30) (d0 : x9 + 0 ≤ x1 ∧ x1 ≤ x9 + 0) (d1 : x1 + 0 ≤ x9 ∧ x9 ≤ x1 + 4294967296) (d2 : x5 + (-4294967296) ≤ x3 ∧ x3 ≤ x5 + (-1)) (f0 : x1 = x9) (g1 : x9 = wayMany_0) (f2 : x1 ≤ x9) (f3 : x1 ≠ 0) (f4 : x9 ≠ 0) (f5 : drawnNode_0 (x3) ≠ 0) (f6 : 1 * x3 + ((-1) * pn_0 + 0) ≤ (-1)) (f7 : GOK (pn_0) (pm_0) (pt_0) (ph_0)) (f8 : STB (pn_0) (pm_0) (pt_0) (ph_0) (alive_0)) (f9 : STR (pn_0) (rowMany_0) (pt_0) (ph_0) (row_0)) (f10 : onlyPiece_0 = (-1)) (f11 : (-1) * rowMany_0 + ((-1) * x4 + 0) ≤ (-26)) (f12 : DRR (pn_0) (rowMany_0) (drawnNode_0) (row_0)) (f13 : DEM (pm_0) (pt_0) (ph_0) (drawnNode_0) (drawnEdge_0)) (f14 : UA (pm_0) (alive_0) (drawnEdge_0)) (f15 : (rowMany_0 + 1) ≤ pn_0) (f16 : SB1 (pn_0) (pm_0) (onlyPiece_0) (pt_0) (ph_0) (drawnEdge_0) (pieceOf_0) (drawnNode_0) (bestWay_0) (x1) (x2) (x3)) (f17 : 1 * x2 + ((-1) * pn_0 + 0) ≤ (-1)) (f18 : drawnNode_0 (x2) ≠ 0) (f19 : SHP (pn_0) (pm_0) (onlyPiece_0) (wayMany_0) (pt_0) (ph_0) (alive_0) (drawnEdge_0) (pieceOf_0) (drawnNode_0) (way_0) (x2) (x3) (x8)) (f21 : x3 ≠ x2) (f22 : x3 < x5) (hK_0_33 : ∀ j : Int, 0 ≤ j → j < 80 → 0 ≤ pt_0 j ∧ pt_0 j ≤ 24) (hK_0_34 : ∀ j : Int, 0 ≤ j → j < 80 → 0 ≤ ph_0 j ∧ ph_0 j ≤ 24) (hK_0_35 : ∀ j : Int, 0 ≤ j → j < 80 → 0 ≤ alive_0 j ∧ alive_0 j ≤ 1) (hK_0_42 : ∀ j : Int, 0 ≤ j → j < 26 → 0 ≤ drawnNode_0 j ∧ drawnNode_0 j ≤ 1) (hK_0_43 : ∀ j : Int, 0 ≤ j → j < 80 → 0 ≤ drawnEdge_0 j ∧ drawnEdge_0 j ≤ 1) (hK_0_44 : ∀ j : Int, 0 ≤ j → j < 80 → (-1) ≤ pieceOf_0 j ∧ pieceOf_0 j ≤ 79) (hK_0_46 : ∀ j : Int, 0 ≤ j → j < 30 → 0 ≤ way_0 j ∧ way_0 j ≤ 24) (hK_0_52 : ∀ j : Int, 0 ≤ j → j < 30 → 0 ≤ bestWay_0 j ∧ bestWay_0 j ≤ 24) (hK_0_117 : ∀ j : Int, 0 ≤ j → j < 100 → 0 ≤ row_0 j ∧ row_0 j ≤ 75) (kz_0_31 : 0 ≤ pn_0 ∧ pn_0 ≤ 25) (kz_0_32 : 0 ≤ pm_0 ∧ pm_0 ≤ 80) (kz_0_45 : 0 ≤ wayMany_0 ∧ wayMany_0 ≤ 30) (kz_0_49 : (-1) ≤ onlyPiece_0 ∧ onlyPiece_0 ≤ 79) (kz_0_125 : 0 ≤ rowMany_0 ∧ rowMany_0 ≤ 100) (ex2 : gx = 0 + (1 * x4 + 0)) (ex3 : (-2) ≤ gx ∧ gx ≤ 26) : STR (pn_0) (rowMany_0) (pt_0) (ph_0) (row_0) := by
  first | assumption
set_option maxHeartbeats 4000000 in
theorem vc_Mo_stOrder_22_3 (x1 : Int) (x2 : Int) (x3 : Int) (x4 : Int) (x5 : Int) (x8 : Int) (x9 : Int) (wayMany_0 : Int) (drawnNode_0 : Int → Int) (pn_0 : Int) (pt_0 : Int → Int) (ph_0 : Int → Int) (pm_0 : Int) (alive_0 : Int → Int) (row_0 : Int → Int) (rowMany_0 : Int) (onlyPiece_0 : Int) (drawnEdge_0 : Int → Int) (pieceOf_0 : Int → Int) (bestWay_0 : Int → Int) (way_0 : Int → Int) (gx : Int) (k1 : 1 ≤ x1 ∧ x1 ≤ 30) (k2 : 0 ≤ x2 ∧ x2 ≤ 24) (k3 : 0 ≤ x3 ∧ x3 ≤ 24) (k4 : (-2) ≤ x4 ∧ x4 ≤ 26) (k5 : 1 ≤ x5 ∧ x5 ≤ 25) (k8 : 1 ≤ x8 ∧ x8 ≤ 1) (k9 : 1 ≤ x9 ∧ x9 ≤ 30) (d0 : x9 + 0 ≤ x1 ∧ x1 ≤ x9 + 0) (d1 : x1 + 0 ≤ x9 ∧ x9 ≤ x1 + 4294967296) (d2 : x5 + (-4294967296) ≤ x3 ∧ x3 ≤ x5 + (-1)) (f0 : x1 = x9) (g1 : x9 = wayMany_0) (f2 : x1 ≤ x9) (f3 : x1 ≠ 0) (f4 : x9 ≠ 0) (f5 : drawnNode_0 (x3) ≠ 0) (f6 : 1 * x3 + ((-1) * pn_0 + 0) ≤ (-1)) (f7 : GOK (pn_0) (pm_0) (pt_0) (ph_0)) (f8 : STB (pn_0) (pm_0) (pt_0) (ph_0) (alive_0)) (f9 : STR (pn_0) (rowMany_0) (pt_0) (ph_0) (row_0)) (f10 : onlyPiece_0 = (-1)) (f11 : (-1) * rowMany_0 + ((-1) * x4 + 0) ≤ (-26)) (f12 : DRR (pn_0) (rowMany_0) (drawnNode_0) (row_0)) (f13 : DEM (pm_0) (pt_0) (ph_0) (drawnNode_0) (drawnEdge_0)) (f14 : UA (pm_0) (alive_0) (drawnEdge_0)) (f15 : (rowMany_0 + 1) ≤ pn_0) (f16 : SB1 (pn_0) (pm_0) (onlyPiece_0) (pt_0) (ph_0) (drawnEdge_0) (pieceOf_0) (drawnNode_0) (bestWay_0) (x1) (x2) (x3)) (f17 : 1 * x2 + ((-1) * pn_0 + 0) ≤ (-1)) (f18 : drawnNode_0 (x2) ≠ 0) (f19 : SHP (pn_0) (pm_0) (onlyPiece_0) (wayMany_0) (pt_0) (ph_0) (alive_0) (drawnEdge_0) (pieceOf_0) (drawnNode_0) (way_0) (x2) (x3) (x8)) (f21 : x3 ≠ x2) (f22 : x3 < x5) (hK_0_33 : ∀ j : Int, 0 ≤ j → j < 80 → 0 ≤ pt_0 j ∧ pt_0 j ≤ 24) (hK_0_34 : ∀ j : Int, 0 ≤ j → j < 80 → 0 ≤ ph_0 j ∧ ph_0 j ≤ 24) (hK_0_35 : ∀ j : Int, 0 ≤ j → j < 80 → 0 ≤ alive_0 j ∧ alive_0 j ≤ 1) (hK_0_42 : ∀ j : Int, 0 ≤ j → j < 26 → 0 ≤ drawnNode_0 j ∧ drawnNode_0 j ≤ 1) (hK_0_43 : ∀ j : Int, 0 ≤ j → j < 80 → 0 ≤ drawnEdge_0 j ∧ drawnEdge_0 j ≤ 1) (hK_0_44 : ∀ j : Int, 0 ≤ j → j < 80 → (-1) ≤ pieceOf_0 j ∧ pieceOf_0 j ≤ 79) (hK_0_46 : ∀ j : Int, 0 ≤ j → j < 30 → 0 ≤ way_0 j ∧ way_0 j ≤ 24) (hK_0_52 : ∀ j : Int, 0 ≤ j → j < 30 → 0 ≤ bestWay_0 j ∧ bestWay_0 j ≤ 24) (hK_0_117 : ∀ j : Int, 0 ≤ j → j < 100 → 0 ≤ row_0 j ∧ row_0 j ≤ 75) (kz_0_31 : 0 ≤ pn_0 ∧ pn_0 ≤ 25) (kz_0_32 : 0 ≤ pm_0 ∧ pm_0 ≤ 80) (kz_0_45 : 0 ≤ wayMany_0 ∧ wayMany_0 ≤ 30) (kz_0_49 : (-1) ≤ onlyPiece_0 ∧ onlyPiece_0 ≤ 79) (kz_0_125 : 0 ≤ rowMany_0 ∧ rowMany_0 ≤ 100) (ex2 : gx = 0 + (1 * x4 + 0)) (ex3 : (-2) ≤ gx ∧ gx ≤ 26) : onlyPiece_0 = (-1) := by
  first
    | omega
    | (have h := ‹STB _ _ _ _ _›.1.2.2; omega)
    | (have h := ‹STR _ _ _ _ _›.1; omega)
    | (have h := ‹STR _ _ _ _ _›.1
       have w := ‹STR _ _ _ _ _›.2.1 x1 (by omega) (by omega)
       omega)
    | (have h := bc_len ‹BC1 _ _ _ _ _ _ _›
       have h2 := ‹STR _ _ _ _ _›.1
       omega)
    | (have h := (sb_way ‹SB1 _ _ _ _ _ _ _ _ _ _ _ _› (by omega)).1
       have h2 := ‹STR _ _ _ _ _›.1
       omega)
    | (have h := ‹WYM _ _ _ _›.1
       have h2 := ‹STR _ _ _ _ _›.1
       omega)
set_option maxHeartbeats 4000000 in
theorem vc_Mo_stOrder_22_4 (x1 : Int) (x2 : Int) (x3 : Int) (x4 : Int) (x5 : Int) (x8 : Int) (x9 : Int) (wayMany_0 : Int) (drawnNode_0 : Int → Int) (pn_0 : Int) (pt_0 : Int → Int) (ph_0 : Int → Int) (pm_0 : Int) (alive_0 : Int → Int) (row_0 : Int → Int) (rowMany_0 : Int) (onlyPiece_0 : Int) (drawnEdge_0 : Int → Int) (pieceOf_0 : Int → Int) (bestWay_0 : Int → Int) (way_0 : Int → Int) (gx : Int) (k1 : 1 ≤ x1 ∧ x1 ≤ 30) (k2 : 0 ≤ x2 ∧ x2 ≤ 24) (k3 : 0 ≤ x3 ∧ x3 ≤ 24) (k4 : (-2) ≤ x4 ∧ x4 ≤ 26) (k5 : 1 ≤ x5 ∧ x5 ≤ 25) (k8 : 1 ≤ x8 ∧ x8 ≤ 1) (k9 : 1 ≤ x9 ∧ x9 ≤ 30) (d0 : x9 + 0 ≤ x1 ∧ x1 ≤ x9 + 0) (d1 : x1 + 0 ≤ x9 ∧ x9 ≤ x1 + 4294967296) (d2 : x5 + (-4294967296) ≤ x3 ∧ x3 ≤ x5 + (-1)) (f0 : x1 = x9) (g1 : x9 = wayMany_0) (f2 : x1 ≤ x9) (f3 : x1 ≠ 0) (f4 : x9 ≠ 0) (f5 : drawnNode_0 (x3) ≠ 0) (f6 : 1 * x3 + ((-1) * pn_0 + 0) ≤ (-1)) (f7 : GOK (pn_0) (pm_0) (pt_0) (ph_0)) (f8 : STB (pn_0) (pm_0) (pt_0) (ph_0) (alive_0)) (f9 : STR (pn_0) (rowMany_0) (pt_0) (ph_0) (row_0)) (f10 : onlyPiece_0 = (-1)) (f11 : (-1) * rowMany_0 + ((-1) * x4 + 0) ≤ (-26)) (f12 : DRR (pn_0) (rowMany_0) (drawnNode_0) (row_0)) (f13 : DEM (pm_0) (pt_0) (ph_0) (drawnNode_0) (drawnEdge_0)) (f14 : UA (pm_0) (alive_0) (drawnEdge_0)) (f15 : (rowMany_0 + 1) ≤ pn_0) (f16 : SB1 (pn_0) (pm_0) (onlyPiece_0) (pt_0) (ph_0) (drawnEdge_0) (pieceOf_0) (drawnNode_0) (bestWay_0) (x1) (x2) (x3)) (f17 : 1 * x2 + ((-1) * pn_0 + 0) ≤ (-1)) (f18 : drawnNode_0 (x2) ≠ 0) (f19 : SHP (pn_0) (pm_0) (onlyPiece_0) (wayMany_0) (pt_0) (ph_0) (alive_0) (drawnEdge_0) (pieceOf_0) (drawnNode_0) (way_0) (x2) (x3) (x8)) (f21 : x3 ≠ x2) (f22 : x3 < x5) (hK_0_33 : ∀ j : Int, 0 ≤ j → j < 80 → 0 ≤ pt_0 j ∧ pt_0 j ≤ 24) (hK_0_34 : ∀ j : Int, 0 ≤ j → j < 80 → 0 ≤ ph_0 j ∧ ph_0 j ≤ 24) (hK_0_35 : ∀ j : Int, 0 ≤ j → j < 80 → 0 ≤ alive_0 j ∧ alive_0 j ≤ 1) (hK_0_42 : ∀ j : Int, 0 ≤ j → j < 26 → 0 ≤ drawnNode_0 j ∧ drawnNode_0 j ≤ 1) (hK_0_43 : ∀ j : Int, 0 ≤ j → j < 80 → 0 ≤ drawnEdge_0 j ∧ drawnEdge_0 j ≤ 1) (hK_0_44 : ∀ j : Int, 0 ≤ j → j < 80 → (-1) ≤ pieceOf_0 j ∧ pieceOf_0 j ≤ 79) (hK_0_46 : ∀ j : Int, 0 ≤ j → j < 30 → 0 ≤ way_0 j ∧ way_0 j ≤ 24) (hK_0_52 : ∀ j : Int, 0 ≤ j → j < 30 → 0 ≤ bestWay_0 j ∧ bestWay_0 j ≤ 24) (hK_0_117 : ∀ j : Int, 0 ≤ j → j < 100 → 0 ≤ row_0 j ∧ row_0 j ≤ 75) (kz_0_31 : 0 ≤ pn_0 ∧ pn_0 ≤ 25) (kz_0_32 : 0 ≤ pm_0 ∧ pm_0 ≤ 80) (kz_0_45 : 0 ≤ wayMany_0 ∧ wayMany_0 ≤ 30) (kz_0_49 : (-1) ≤ onlyPiece_0 ∧ onlyPiece_0 ≤ 79) (kz_0_125 : 0 ≤ rowMany_0 ∧ rowMany_0 ≤ 100) (ex2 : gx = 0 + (1 * x4 + 0)) (ex3 : (-2) ≤ gx ∧ gx ≤ 26) : (-1) * rowMany_0 + ((-1) * gx + 0) ≤ (-26) := by
  first
    | omega
    | (have h := ‹STB _ _ _ _ _›.1.2.2; omega)
    | (have h := ‹STR _ _ _ _ _›.1; omega)
    | (have h := ‹STR _ _ _ _ _›.1
       have w := ‹STR _ _ _ _ _›.2.1 x1 (by omega) (by omega)
       omega)
    | (have h := bc_len ‹BC1 _ _ _ _ _ _ _›
       have h2 := ‹STR _ _ _ _ _›.1
       omega)
    | (have h := (sb_way ‹SB1 _ _ _ _ _ _ _ _ _ _ _ _› (by omega)).1
       have h2 := ‹STR _ _ _ _ _›.1
       omega)
    | (have h := ‹WYM _ _ _ _›.1
       have h2 := ‹STR _ _ _ _ _›.1
       omega)
set_option maxHeartbeats 4000000 in
theorem vc_Mo_stOrder_22_5 (x1 : Int) (x2 : Int) (x3 : Int) (x4 : Int) (x5 : Int) (x8 : Int) (x9 : Int) (wayMany_0 : Int) (drawnNode_0 : Int → Int) (pn_0 : Int) (pt_0 : Int → Int) (ph_0 : Int → Int) (pm_0 : Int) (alive_0 : Int → Int) (row_0 : Int → Int) (rowMany_0 : Int) (onlyPiece_0 : Int) (drawnEdge_0 : Int → Int) (pieceOf_0 : Int → Int) (bestWay_0 : Int → Int) (way_0 : Int → Int) (gx : Int) (k1 : 1 ≤ x1 ∧ x1 ≤ 30) (k2 : 0 ≤ x2 ∧ x2 ≤ 24) (k3 : 0 ≤ x3 ∧ x3 ≤ 24) (k4 : (-2) ≤ x4 ∧ x4 ≤ 26) (k5 : 1 ≤ x5 ∧ x5 ≤ 25) (k8 : 1 ≤ x8 ∧ x8 ≤ 1) (k9 : 1 ≤ x9 ∧ x9 ≤ 30) (d0 : x9 + 0 ≤ x1 ∧ x1 ≤ x9 + 0) (d1 : x1 + 0 ≤ x9 ∧ x9 ≤ x1 + 4294967296) (d2 : x5 + (-4294967296) ≤ x3 ∧ x3 ≤ x5 + (-1)) (f0 : x1 = x9) (g1 : x9 = wayMany_0) (f2 : x1 ≤ x9) (f3 : x1 ≠ 0) (f4 : x9 ≠ 0) (f5 : drawnNode_0 (x3) ≠ 0) (f6 : 1 * x3 + ((-1) * pn_0 + 0) ≤ (-1)) (f7 : GOK (pn_0) (pm_0) (pt_0) (ph_0)) (f8 : STB (pn_0) (pm_0) (pt_0) (ph_0) (alive_0)) (f9 : STR (pn_0) (rowMany_0) (pt_0) (ph_0) (row_0)) (f10 : onlyPiece_0 = (-1)) (f11 : (-1) * rowMany_0 + ((-1) * x4 + 0) ≤ (-26)) (f12 : DRR (pn_0) (rowMany_0) (drawnNode_0) (row_0)) (f13 : DEM (pm_0) (pt_0) (ph_0) (drawnNode_0) (drawnEdge_0)) (f14 : UA (pm_0) (alive_0) (drawnEdge_0)) (f15 : (rowMany_0 + 1) ≤ pn_0) (f16 : SB1 (pn_0) (pm_0) (onlyPiece_0) (pt_0) (ph_0) (drawnEdge_0) (pieceOf_0) (drawnNode_0) (bestWay_0) (x1) (x2) (x3)) (f17 : 1 * x2 + ((-1) * pn_0 + 0) ≤ (-1)) (f18 : drawnNode_0 (x2) ≠ 0) (f19 : SHP (pn_0) (pm_0) (onlyPiece_0) (wayMany_0) (pt_0) (ph_0) (alive_0) (drawnEdge_0) (pieceOf_0) (drawnNode_0) (way_0) (x2) (x3) (x8)) (f21 : x3 ≠ x2) (f22 : x3 < x5) (hK_0_33 : ∀ j : Int, 0 ≤ j → j < 80 → 0 ≤ pt_0 j ∧ pt_0 j ≤ 24) (hK_0_34 : ∀ j : Int, 0 ≤ j → j < 80 → 0 ≤ ph_0 j ∧ ph_0 j ≤ 24) (hK_0_35 : ∀ j : Int, 0 ≤ j → j < 80 → 0 ≤ alive_0 j ∧ alive_0 j ≤ 1) (hK_0_42 : ∀ j : Int, 0 ≤ j → j < 26 → 0 ≤ drawnNode_0 j ∧ drawnNode_0 j ≤ 1) (hK_0_43 : ∀ j : Int, 0 ≤ j → j < 80 → 0 ≤ drawnEdge_0 j ∧ drawnEdge_0 j ≤ 1) (hK_0_44 : ∀ j : Int, 0 ≤ j → j < 80 → (-1) ≤ pieceOf_0 j ∧ pieceOf_0 j ≤ 79) (hK_0_46 : ∀ j : Int, 0 ≤ j → j < 30 → 0 ≤ way_0 j ∧ way_0 j ≤ 24) (hK_0_52 : ∀ j : Int, 0 ≤ j → j < 30 → 0 ≤ bestWay_0 j ∧ bestWay_0 j ≤ 24) (hK_0_117 : ∀ j : Int, 0 ≤ j → j < 100 → 0 ≤ row_0 j ∧ row_0 j ≤ 75) (kz_0_31 : 0 ≤ pn_0 ∧ pn_0 ≤ 25) (kz_0_32 : 0 ≤ pm_0 ∧ pm_0 ≤ 80) (kz_0_45 : 0 ≤ wayMany_0 ∧ wayMany_0 ≤ 30) (kz_0_49 : (-1) ≤ onlyPiece_0 ∧ onlyPiece_0 ≤ 79) (kz_0_125 : 0 ≤ rowMany_0 ∧ rowMany_0 ≤ 100) (ex2 : gx = 0 + (1 * x4 + 0)) (ex3 : (-2) ≤ gx ∧ gx ≤ 26) : DRR (pn_0) (rowMany_0) (drawnNode_0) (row_0) := by
  first | assumption
set_option maxHeartbeats 4000000 in
theorem vc_Mo_stOrder_22_6 (x1 : Int) (x2 : Int) (x3 : Int) (x4 : Int) (x5 : Int) (x8 : Int) (x9 : Int) (wayMany_0 : Int) (drawnNode_0 : Int → Int) (pn_0 : Int) (pt_0 : Int → Int) (ph_0 : Int → Int) (pm_0 : Int) (alive_0 : Int → Int) (row_0 : Int → Int) (rowMany_0 : Int) (onlyPiece_0 : Int) (drawnEdge_0 : Int → Int) (pieceOf_0 : Int → Int) (bestWay_0 : Int → Int) (way_0 : Int → Int) (gx : Int) (k1 : 1 ≤ x1 ∧ x1 ≤ 30) (k2 : 0 ≤ x2 ∧ x2 ≤ 24) (k3 : 0 ≤ x3 ∧ x3 ≤ 24) (k4 : (-2) ≤ x4 ∧ x4 ≤ 26) (k5 : 1 ≤ x5 ∧ x5 ≤ 25) (k8 : 1 ≤ x8 ∧ x8 ≤ 1) (k9 : 1 ≤ x9 ∧ x9 ≤ 30) (d0 : x9 + 0 ≤ x1 ∧ x1 ≤ x9 + 0) (d1 : x1 + 0 ≤ x9 ∧ x9 ≤ x1 + 4294967296) (d2 : x5 + (-4294967296) ≤ x3 ∧ x3 ≤ x5 + (-1)) (f0 : x1 = x9) (g1 : x9 = wayMany_0) (f2 : x1 ≤ x9) (f3 : x1 ≠ 0) (f4 : x9 ≠ 0) (f5 : drawnNode_0 (x3) ≠ 0) (f6 : 1 * x3 + ((-1) * pn_0 + 0) ≤ (-1)) (f7 : GOK (pn_0) (pm_0) (pt_0) (ph_0)) (f8 : STB (pn_0) (pm_0) (pt_0) (ph_0) (alive_0)) (f9 : STR (pn_0) (rowMany_0) (pt_0) (ph_0) (row_0)) (f10 : onlyPiece_0 = (-1)) (f11 : (-1) * rowMany_0 + ((-1) * x4 + 0) ≤ (-26)) (f12 : DRR (pn_0) (rowMany_0) (drawnNode_0) (row_0)) (f13 : DEM (pm_0) (pt_0) (ph_0) (drawnNode_0) (drawnEdge_0)) (f14 : UA (pm_0) (alive_0) (drawnEdge_0)) (f15 : (rowMany_0 + 1) ≤ pn_0) (f16 : SB1 (pn_0) (pm_0) (onlyPiece_0) (pt_0) (ph_0) (drawnEdge_0) (pieceOf_0) (drawnNode_0) (bestWay_0) (x1) (x2) (x3)) (f17 : 1 * x2 + ((-1) * pn_0 + 0) ≤ (-1)) (f18 : drawnNode_0 (x2) ≠ 0) (f19 : SHP (pn_0) (pm_0) (onlyPiece_0) (wayMany_0) (pt_0) (ph_0) (alive_0) (drawnEdge_0) (pieceOf_0) (drawnNode_0) (way_0) (x2) (x3) (x8)) (f21 : x3 ≠ x2) (f22 : x3 < x5) (hK_0_33 : ∀ j : Int, 0 ≤ j → j < 80 → 0 ≤ pt_0 j ∧ pt_0 j ≤ 24) (hK_0_34 : ∀ j : Int, 0 ≤ j → j < 80 → 0 ≤ ph_0 j ∧ ph_0 j ≤ 24) (hK_0_35 : ∀ j : Int, 0 ≤ j → j < 80 → 0 ≤ alive_0 j ∧ alive_0 j ≤ 1) (hK_0_42 : ∀ j : Int, 0 ≤ j → j < 26 → 0 ≤ drawnNode_0 j ∧ drawnNode_0 j ≤ 1) (hK_0_43 : ∀ j : Int, 0 ≤ j → j < 80 → 0 ≤ drawnEdge_0 j ∧ drawnEdge_0 j ≤ 1) (hK_0_44 : ∀ j : Int, 0 ≤ j → j < 80 → (-1) ≤ pieceOf_0 j ∧ pieceOf_0 j ≤ 79) (hK_0_46 : ∀ j : Int, 0 ≤ j → j < 30 → 0 ≤ way_0 j ∧ way_0 j ≤ 24) (hK_0_52 : ∀ j : Int, 0 ≤ j → j < 30 → 0 ≤ bestWay_0 j ∧ bestWay_0 j ≤ 24) (hK_0_117 : ∀ j : Int, 0 ≤ j → j < 100 → 0 ≤ row_0 j ∧ row_0 j ≤ 75) (kz_0_31 : 0 ≤ pn_0 ∧ pn_0 ≤ 25) (kz_0_32 : 0 ≤ pm_0 ∧ pm_0 ≤ 80) (kz_0_45 : 0 ≤ wayMany_0 ∧ wayMany_0 ≤ 30) (kz_0_49 : (-1) ≤ onlyPiece_0 ∧ onlyPiece_0 ≤ 79) (kz_0_125 : 0 ≤ rowMany_0 ∧ rowMany_0 ≤ 100) (ex2 : gx = 0 + (1 * x4 + 0)) (ex3 : (-2) ≤ gx ∧ gx ≤ 26) : DEM (pm_0) (pt_0) (ph_0) (drawnNode_0) (drawnEdge_0) := by
  first | assumption
set_option maxHeartbeats 4000000 in
theorem vc_Mo_stOrder_22_7 (x1 : Int) (x2 : Int) (x3 : Int) (x4 : Int) (x5 : Int) (x8 : Int) (x9 : Int) (wayMany_0 : Int) (drawnNode_0 : Int → Int) (pn_0 : Int) (pt_0 : Int → Int) (ph_0 : Int → Int) (pm_0 : Int) (alive_0 : Int → Int) (row_0 : Int → Int) (rowMany_0 : Int) (onlyPiece_0 : Int) (drawnEdge_0 : Int → Int) (pieceOf_0 : Int → Int) (bestWay_0 : Int → Int) (way_0 : Int → Int) (gx : Int) (k1 : 1 ≤ x1 ∧ x1 ≤ 30) (k2 : 0 ≤ x2 ∧ x2 ≤ 24) (k3 : 0 ≤ x3 ∧ x3 ≤ 24) (k4 : (-2) ≤ x4 ∧ x4 ≤ 26) (k5 : 1 ≤ x5 ∧ x5 ≤ 25) (k8 : 1 ≤ x8 ∧ x8 ≤ 1) (k9 : 1 ≤ x9 ∧ x9 ≤ 30) (d0 : x9 + 0 ≤ x1 ∧ x1 ≤ x9 + 0) (d1 : x1 + 0 ≤ x9 ∧ x9 ≤ x1 + 4294967296) (d2 : x5 + (-4294967296) ≤ x3 ∧ x3 ≤ x5 + (-1)) (f0 : x1 = x9) (g1 : x9 = wayMany_0) (f2 : x1 ≤ x9) (f3 : x1 ≠ 0) (f4 : x9 ≠ 0) (f5 : drawnNode_0 (x3) ≠ 0) (f6 : 1 * x3 + ((-1) * pn_0 + 0) ≤ (-1)) (f7 : GOK (pn_0) (pm_0) (pt_0) (ph_0)) (f8 : STB (pn_0) (pm_0) (pt_0) (ph_0) (alive_0)) (f9 : STR (pn_0) (rowMany_0) (pt_0) (ph_0) (row_0)) (f10 : onlyPiece_0 = (-1)) (f11 : (-1) * rowMany_0 + ((-1) * x4 + 0) ≤ (-26)) (f12 : DRR (pn_0) (rowMany_0) (drawnNode_0) (row_0)) (f13 : DEM (pm_0) (pt_0) (ph_0) (drawnNode_0) (drawnEdge_0)) (f14 : UA (pm_0) (alive_0) (drawnEdge_0)) (f15 : (rowMany_0 + 1) ≤ pn_0) (f16 : SB1 (pn_0) (pm_0) (onlyPiece_0) (pt_0) (ph_0) (drawnEdge_0) (pieceOf_0) (drawnNode_0) (bestWay_0) (x1) (x2) (x3)) (f17 : 1 * x2 + ((-1) * pn_0 + 0) ≤ (-1)) (f18 : drawnNode_0 (x2) ≠ 0) (f19 : SHP (pn_0) (pm_0) (onlyPiece_0) (wayMany_0) (pt_0) (ph_0) (alive_0) (drawnEdge_0) (pieceOf_0) (drawnNode_0) (way_0) (x2) (x3) (x8)) (f21 : x3 ≠ x2) (f22 : x3 < x5) (hK_0_33 : ∀ j : Int, 0 ≤ j → j < 80 → 0 ≤ pt_0 j ∧ pt_0 j ≤ 24) (hK_0_34 : ∀ j : Int, 0 ≤ j → j < 80 → 0 ≤ ph_0 j ∧ ph_0 j ≤ 24) (hK_0_35 : ∀ j : Int, 0 ≤ j → j < 80 → 0 ≤ alive_0 j ∧ alive_0 j ≤ 1) (hK_0_42 : ∀ j : Int, 0 ≤ j → j < 26 → 0 ≤ drawnNode_0 j ∧ drawnNode_0 j ≤ 1) (hK_0_43 : ∀ j : Int, 0 ≤ j → j < 80 → 0 ≤ drawnEdge_0 j ∧ drawnEdge_0 j ≤ 1) (hK_0_44 : ∀ j : Int, 0 ≤ j → j < 80 → (-1) ≤ pieceOf_0 j ∧ pieceOf_0 j ≤ 79) (hK_0_46 : ∀ j : Int, 0 ≤ j → j < 30 → 0 ≤ way_0 j ∧ way_0 j ≤ 24) (hK_0_52 : ∀ j : Int, 0 ≤ j → j < 30 → 0 ≤ bestWay_0 j ∧ bestWay_0 j ≤ 24) (hK_0_117 : ∀ j : Int, 0 ≤ j → j < 100 → 0 ≤ row_0 j ∧ row_0 j ≤ 75) (kz_0_31 : 0 ≤ pn_0 ∧ pn_0 ≤ 25) (kz_0_32 : 0 ≤ pm_0 ∧ pm_0 ≤ 80) (kz_0_45 : 0 ≤ wayMany_0 ∧ wayMany_0 ≤ 30) (kz_0_49 : (-1) ≤ onlyPiece_0 ∧ onlyPiece_0 ≤ 79) (kz_0_125 : 0 ≤ rowMany_0 ∧ rowMany_0 ≤ 100) (ex2 : gx = 0 + (1 * x4 + 0)) (ex3 : (-2) ≤ gx ∧ gx ≤ 26) : UA (pm_0) (alive_0) (drawnEdge_0) := by
  first | assumption
set_option maxHeartbeats 4000000 in
theorem vc_Mo_stOrder_22_8 (x1 : Int) (x2 : Int) (x3 : Int) (x4 : Int) (x5 : Int) (x8 : Int) (x9 : Int) (wayMany_0 : Int) (drawnNode_0 : Int → Int) (pn_0 : Int) (pt_0 : Int → Int) (ph_0 : Int → Int) (pm_0 : Int) (alive_0 : Int → Int) (row_0 : Int → Int) (rowMany_0 : Int) (onlyPiece_0 : Int) (drawnEdge_0 : Int → Int) (pieceOf_0 : Int → Int) (bestWay_0 : Int → Int) (way_0 : Int → Int) (gx : Int) (k1 : 1 ≤ x1 ∧ x1 ≤ 30) (k2 : 0 ≤ x2 ∧ x2 ≤ 24) (k3 : 0 ≤ x3 ∧ x3 ≤ 24) (k4 : (-2) ≤ x4 ∧ x4 ≤ 26) (k5 : 1 ≤ x5 ∧ x5 ≤ 25) (k8 : 1 ≤ x8 ∧ x8 ≤ 1) (k9 : 1 ≤ x9 ∧ x9 ≤ 30) (d0 : x9 + 0 ≤ x1 ∧ x1 ≤ x9 + 0) (d1 : x1 + 0 ≤ x9 ∧ x9 ≤ x1 + 4294967296) (d2 : x5 + (-4294967296) ≤ x3 ∧ x3 ≤ x5 + (-1)) (f0 : x1 = x9) (g1 : x9 = wayMany_0) (f2 : x1 ≤ x9) (f3 : x1 ≠ 0) (f4 : x9 ≠ 0) (f5 : drawnNode_0 (x3) ≠ 0) (f6 : 1 * x3 + ((-1) * pn_0 + 0) ≤ (-1)) (f7 : GOK (pn_0) (pm_0) (pt_0) (ph_0)) (f8 : STB (pn_0) (pm_0) (pt_0) (ph_0) (alive_0)) (f9 : STR (pn_0) (rowMany_0) (pt_0) (ph_0) (row_0)) (f10 : onlyPiece_0 = (-1)) (f11 : (-1) * rowMany_0 + ((-1) * x4 + 0) ≤ (-26)) (f12 : DRR (pn_0) (rowMany_0) (drawnNode_0) (row_0)) (f13 : DEM (pm_0) (pt_0) (ph_0) (drawnNode_0) (drawnEdge_0)) (f14 : UA (pm_0) (alive_0) (drawnEdge_0)) (f15 : (rowMany_0 + 1) ≤ pn_0) (f16 : SB1 (pn_0) (pm_0) (onlyPiece_0) (pt_0) (ph_0) (drawnEdge_0) (pieceOf_0) (drawnNode_0) (bestWay_0) (x1) (x2) (x3)) (f17 : 1 * x2 + ((-1) * pn_0 + 0) ≤ (-1)) (f18 : drawnNode_0 (x2) ≠ 0) (f19 : SHP (pn_0) (pm_0) (onlyPiece_0) (wayMany_0) (pt_0) (ph_0) (alive_0) (drawnEdge_0) (pieceOf_0) (drawnNode_0) (way_0) (x2) (x3) (x8)) (f21 : x3 ≠ x2) (f22 : x3 < x5) (hK_0_33 : ∀ j : Int, 0 ≤ j → j < 80 → 0 ≤ pt_0 j ∧ pt_0 j ≤ 24) (hK_0_34 : ∀ j : Int, 0 ≤ j → j < 80 → 0 ≤ ph_0 j ∧ ph_0 j ≤ 24) (hK_0_35 : ∀ j : Int, 0 ≤ j → j < 80 → 0 ≤ alive_0 j ∧ alive_0 j ≤ 1) (hK_0_42 : ∀ j : Int, 0 ≤ j → j < 26 → 0 ≤ drawnNode_0 j ∧ drawnNode_0 j ≤ 1) (hK_0_43 : ∀ j : Int, 0 ≤ j → j < 80 → 0 ≤ drawnEdge_0 j ∧ drawnEdge_0 j ≤ 1) (hK_0_44 : ∀ j : Int, 0 ≤ j → j < 80 → (-1) ≤ pieceOf_0 j ∧ pieceOf_0 j ≤ 79) (hK_0_46 : ∀ j : Int, 0 ≤ j → j < 30 → 0 ≤ way_0 j ∧ way_0 j ≤ 24) (hK_0_52 : ∀ j : Int, 0 ≤ j → j < 30 → 0 ≤ bestWay_0 j ∧ bestWay_0 j ≤ 24) (hK_0_117 : ∀ j : Int, 0 ≤ j → j < 100 → 0 ≤ row_0 j ∧ row_0 j ≤ 75) (kz_0_31 : 0 ≤ pn_0 ∧ pn_0 ≤ 25) (kz_0_32 : 0 ≤ pm_0 ∧ pm_0 ≤ 80) (kz_0_45 : 0 ≤ wayMany_0 ∧ wayMany_0 ≤ 30) (kz_0_49 : (-1) ≤ onlyPiece_0 ∧ onlyPiece_0 ≤ 79) (kz_0_125 : 0 ≤ rowMany_0 ∧ rowMany_0 ≤ 100) (ex2 : gx = 0 + (1 * x4 + 0)) (ex3 : (-2) ≤ gx ∧ gx ≤ 26) : (rowMany_0 + 1) ≤ pn_0 := by
  first
    | omega
    | (have h := ‹STB _ _ _ _ _›.1.2.2; omega)
    | (have h := ‹STR _ _ _ _ _›.1; omega)
    | (have h := ‹STR _ _ _ _ _›.1
       have w := ‹STR _ _ _ _ _›.2.1 x1 (by omega) (by omega)
       omega)
    | (have h := bc_len ‹BC1 _ _ _ _ _ _ _›
       have h2 := ‹STR _ _ _ _ _›.1
       omega)
    | (have h := (sb_way ‹SB1 _ _ _ _ _ _ _ _ _ _ _ _› (by omega)).1
       have h2 := ‹STR _ _ _ _ _›.1
       omega)
    | (have h := ‹WYM _ _ _ _›.1
       have h2 := ‹STR _ _ _ _ _›.1
       omega)
set_option maxHeartbeats 4000000 in
theorem vc_Mo_stOrder_22_9 (x1 : Int) (x2 : Int) (x3 : Int) (x4 : Int) (x5 : Int) (x8 : Int) (x9 : Int) (wayMany_0 : Int) (drawnNode_0 : Int → Int) (pn_0 : Int) (pt_0 : Int → Int) (ph_0 : Int → Int) (pm_0 : Int) (alive_0 : Int → Int) (row_0 : Int → Int) (rowMany_0 : Int) (onlyPiece_0 : Int) (drawnEdge_0 : Int → Int) (pieceOf_0 : Int → Int) (bestWay_0 : Int → Int) (way_0 : Int → Int) (gx : Int) (k1 : 1 ≤ x1 ∧ x1 ≤ 30) (k2 : 0 ≤ x2 ∧ x2 ≤ 24) (k3 : 0 ≤ x3 ∧ x3 ≤ 24) (k4 : (-2) ≤ x4 ∧ x4 ≤ 26) (k5 : 1 ≤ x5 ∧ x5 ≤ 25) (k8 : 1 ≤ x8 ∧ x8 ≤ 1) (k9 : 1 ≤ x9 ∧ x9 ≤ 30) (d0 : x9 + 0 ≤ x1 ∧ x1 ≤ x9 + 0) (d1 : x1 + 0 ≤ x9 ∧ x9 ≤ x1 + 4294967296) (d2 : x5 + (-4294967296) ≤ x3 ∧ x3 ≤ x5 + (-1)) (f0 : x1 = x9) (g1 : x9 = wayMany_0) (f2 : x1 ≤ x9) (f3 : x1 ≠ 0) (f4 : x9 ≠ 0) (f5 : drawnNode_0 (x3) ≠ 0) (f6 : 1 * x3 + ((-1) * pn_0 + 0) ≤ (-1)) (f7 : GOK (pn_0) (pm_0) (pt_0) (ph_0)) (f8 : STB (pn_0) (pm_0) (pt_0) (ph_0) (alive_0)) (f9 : STR (pn_0) (rowMany_0) (pt_0) (ph_0) (row_0)) (f10 : onlyPiece_0 = (-1)) (f11 : (-1) * rowMany_0 + ((-1) * x4 + 0) ≤ (-26)) (f12 : DRR (pn_0) (rowMany_0) (drawnNode_0) (row_0)) (f13 : DEM (pm_0) (pt_0) (ph_0) (drawnNode_0) (drawnEdge_0)) (f14 : UA (pm_0) (alive_0) (drawnEdge_0)) (f15 : (rowMany_0 + 1) ≤ pn_0) (f16 : SB1 (pn_0) (pm_0) (onlyPiece_0) (pt_0) (ph_0) (drawnEdge_0) (pieceOf_0) (drawnNode_0) (bestWay_0) (x1) (x2) (x3)) (f17 : 1 * x2 + ((-1) * pn_0 + 0) ≤ (-1)) (f18 : drawnNode_0 (x2) ≠ 0) (f19 : SHP (pn_0) (pm_0) (onlyPiece_0) (wayMany_0) (pt_0) (ph_0) (alive_0) (drawnEdge_0) (pieceOf_0) (drawnNode_0) (way_0) (x2) (x3) (x8)) (f21 : x3 ≠ x2) (f22 : x3 < x5) (hK_0_33 : ∀ j : Int, 0 ≤ j → j < 80 → 0 ≤ pt_0 j ∧ pt_0 j ≤ 24) (hK_0_34 : ∀ j : Int, 0 ≤ j → j < 80 → 0 ≤ ph_0 j ∧ ph_0 j ≤ 24) (hK_0_35 : ∀ j : Int, 0 ≤ j → j < 80 → 0 ≤ alive_0 j ∧ alive_0 j ≤ 1) (hK_0_42 : ∀ j : Int, 0 ≤ j → j < 26 → 0 ≤ drawnNode_0 j ∧ drawnNode_0 j ≤ 1) (hK_0_43 : ∀ j : Int, 0 ≤ j → j < 80 → 0 ≤ drawnEdge_0 j ∧ drawnEdge_0 j ≤ 1) (hK_0_44 : ∀ j : Int, 0 ≤ j → j < 80 → (-1) ≤ pieceOf_0 j ∧ pieceOf_0 j ≤ 79) (hK_0_46 : ∀ j : Int, 0 ≤ j → j < 30 → 0 ≤ way_0 j ∧ way_0 j ≤ 24) (hK_0_52 : ∀ j : Int, 0 ≤ j → j < 30 → 0 ≤ bestWay_0 j ∧ bestWay_0 j ≤ 24) (hK_0_117 : ∀ j : Int, 0 ≤ j → j < 100 → 0 ≤ row_0 j ∧ row_0 j ≤ 75) (kz_0_31 : 0 ≤ pn_0 ∧ pn_0 ≤ 25) (kz_0_32 : 0 ≤ pm_0 ∧ pm_0 ≤ 80) (kz_0_45 : 0 ≤ wayMany_0 ∧ wayMany_0 ≤ 30) (kz_0_49 : (-1) ≤ onlyPiece_0 ∧ onlyPiece_0 ≤ 79) (kz_0_125 : 0 ≤ rowMany_0 ∧ rowMany_0 ≤ 100) (ex2 : gx = 0 + (1 * x4 + 0)) (ex3 : (-2) ≤ gx ∧ gx ≤ 26) : SB1 (pn_0) (pm_0) (onlyPiece_0) (pt_0) (ph_0) (drawnEdge_0) (pieceOf_0) (drawnNode_0) (bestWay_0) (x1) (x2) (x3) := by
  assumption
set_option maxHeartbeats 4000000 in
theorem vc_Mo_stOrder_22_10 (x1 : Int) (x2 : Int) (x3 : Int) (x4 : Int) (x5 : Int) (x8 : Int) (x9 : Int) (wayMany_0 : Int) (drawnNode_0 : Int → Int) (pn_0 : Int) (pt_0 : Int → Int) (ph_0 : Int → Int) (pm_0 : Int) (alive_0 : Int → Int) (row_0 : Int → Int) (rowMany_0 : Int) (onlyPiece_0 : Int) (drawnEdge_0 : Int → Int) (pieceOf_0 : Int → Int) (bestWay_0 : Int → Int) (way_0 : Int → Int) (gx : Int) (k1 : 1 ≤ x1 ∧ x1 ≤ 30) (k2 : 0 ≤ x2 ∧ x2 ≤ 24) (k3 : 0 ≤ x3 ∧ x3 ≤ 24) (k4 : (-2) ≤ x4 ∧ x4 ≤ 26) (k5 : 1 ≤ x5 ∧ x5 ≤ 25) (k8 : 1 ≤ x8 ∧ x8 ≤ 1) (k9 : 1 ≤ x9 ∧ x9 ≤ 30) (d0 : x9 + 0 ≤ x1 ∧ x1 ≤ x9 + 0) (d1 : x1 + 0 ≤ x9 ∧ x9 ≤ x1 + 4294967296) (d2 : x5 + (-4294967296) ≤ x3 ∧ x3 ≤ x5 + (-1)) (f0 : x1 = x9) (g1 : x9 = wayMany_0) (f2 : x1 ≤ x9) (f3 : x1 ≠ 0) (f4 : x9 ≠ 0) (f5 : drawnNode_0 (x3) ≠ 0) (f6 : 1 * x3 + ((-1) * pn_0 + 0) ≤ (-1)) (f7 : GOK (pn_0) (pm_0) (pt_0) (ph_0)) (f8 : STB (pn_0) (pm_0) (pt_0) (ph_0) (alive_0)) (f9 : STR (pn_0) (rowMany_0) (pt_0) (ph_0) (row_0)) (f10 : onlyPiece_0 = (-1)) (f11 : (-1) * rowMany_0 + ((-1) * x4 + 0) ≤ (-26)) (f12 : DRR (pn_0) (rowMany_0) (drawnNode_0) (row_0)) (f13 : DEM (pm_0) (pt_0) (ph_0) (drawnNode_0) (drawnEdge_0)) (f14 : UA (pm_0) (alive_0) (drawnEdge_0)) (f15 : (rowMany_0 + 1) ≤ pn_0) (f16 : SB1 (pn_0) (pm_0) (onlyPiece_0) (pt_0) (ph_0) (drawnEdge_0) (pieceOf_0) (drawnNode_0) (bestWay_0) (x1) (x2) (x3)) (f17 : 1 * x2 + ((-1) * pn_0 + 0) ≤ (-1)) (f18 : drawnNode_0 (x2) ≠ 0) (f19 : SHP (pn_0) (pm_0) (onlyPiece_0) (wayMany_0) (pt_0) (ph_0) (alive_0) (drawnEdge_0) (pieceOf_0) (drawnNode_0) (way_0) (x2) (x3) (x8)) (f21 : x3 ≠ x2) (f22 : x3 < x5) (hK_0_33 : ∀ j : Int, 0 ≤ j → j < 80 → 0 ≤ pt_0 j ∧ pt_0 j ≤ 24) (hK_0_34 : ∀ j : Int, 0 ≤ j → j < 80 → 0 ≤ ph_0 j ∧ ph_0 j ≤ 24) (hK_0_35 : ∀ j : Int, 0 ≤ j → j < 80 → 0 ≤ alive_0 j ∧ alive_0 j ≤ 1) (hK_0_42 : ∀ j : Int, 0 ≤ j → j < 26 → 0 ≤ drawnNode_0 j ∧ drawnNode_0 j ≤ 1) (hK_0_43 : ∀ j : Int, 0 ≤ j → j < 80 → 0 ≤ drawnEdge_0 j ∧ drawnEdge_0 j ≤ 1) (hK_0_44 : ∀ j : Int, 0 ≤ j → j < 80 → (-1) ≤ pieceOf_0 j ∧ pieceOf_0 j ≤ 79) (hK_0_46 : ∀ j : Int, 0 ≤ j → j < 30 → 0 ≤ way_0 j ∧ way_0 j ≤ 24) (hK_0_52 : ∀ j : Int, 0 ≤ j → j < 30 → 0 ≤ bestWay_0 j ∧ bestWay_0 j ≤ 24) (hK_0_117 : ∀ j : Int, 0 ≤ j → j < 100 → 0 ≤ row_0 j ∧ row_0 j ≤ 75) (kz_0_31 : 0 ≤ pn_0 ∧ pn_0 ≤ 25) (kz_0_32 : 0 ≤ pm_0 ∧ pm_0 ≤ 80) (kz_0_45 : 0 ≤ wayMany_0 ∧ wayMany_0 ≤ 30) (kz_0_49 : (-1) ≤ onlyPiece_0 ∧ onlyPiece_0 ≤ 79) (kz_0_125 : 0 ≤ rowMany_0 ∧ rowMany_0 ≤ 100) (ex2 : gx = 0 + (1 * x4 + 0)) (ex3 : (-2) ≤ gx ∧ gx ≤ 26) : WYM (pn_0) (wayMany_0) (drawnNode_0) (way_0) := by
  first
    | assumption
    | exact wyg_of ‹DEM _ _ _ _ _› ‹SHP _ _ _ _ _ _ _ _ _ _ _ _ _ _› (by omega) (by omega) (by omega) (by omega) (by omega)
set_option maxHeartbeats 4000000 in
theorem vc_Mo_stOrder_22_11 (x1 : Int) (x2 : Int) (x3 : Int) (x4 : Int) (x5 : Int) (x8 : Int) (x9 : Int) (wayMany_0 : Int) (drawnNode_0 : Int → Int) (pn_0 : Int) (pt_0 : Int → Int) (ph_0 : Int → Int) (pm_0 : Int) (alive_0 : Int → Int) (row_0 : Int → Int) (rowMany_0 : Int) (onlyPiece_0 : Int) (drawnEdge_0 : Int → Int) (pieceOf_0 : Int → Int) (bestWay_0 : Int → Int) (way_0 : Int → Int) (gx : Int) (k1 : 1 ≤ x1 ∧ x1 ≤ 30) (k2 : 0 ≤ x2 ∧ x2 ≤ 24) (k3 : 0 ≤ x3 ∧ x3 ≤ 24) (k4 : (-2) ≤ x4 ∧ x4 ≤ 26) (k5 : 1 ≤ x5 ∧ x5 ≤ 25) (k8 : 1 ≤ x8 ∧ x8 ≤ 1) (k9 : 1 ≤ x9 ∧ x9 ≤ 30) (d0 : x9 + 0 ≤ x1 ∧ x1 ≤ x9 + 0) (d1 : x1 + 0 ≤ x9 ∧ x9 ≤ x1 + 4294967296) (d2 : x5 + (-4294967296) ≤ x3 ∧ x3 ≤ x5 + (-1)) (f0 : x1 = x9) (g1 : x9 = wayMany_0) (f2 : x1 ≤ x9) (f3 : x1 ≠ 0) (f4 : x9 ≠ 0) (f5 : drawnNode_0 (x3) ≠ 0) (f6 : 1 * x3 + ((-1) * pn_0 + 0) ≤ (-1)) (f7 : GOK (pn_0) (pm_0) (pt_0) (ph_0)) (f8 : STB (pn_0) (pm_0) (pt_0) (ph_0) (alive_0)) (f9 : STR (pn_0) (rowMany_0) (pt_0) (ph_0) (row_0)) (f10 : onlyPiece_0 = (-1)) (f11 : (-1) * rowMany_0 + ((-1) * x4 + 0) ≤ (-26)) (f12 : DRR (pn_0) (rowMany_0) (drawnNode_0) (row_0)) (f13 : DEM (pm_0) (pt_0) (ph_0) (drawnNode_0) (drawnEdge_0)) (f14 : UA (pm_0) (alive_0) (drawnEdge_0)) (f15 : (rowMany_0 + 1) ≤ pn_0) (f16 : SB1 (pn_0) (pm_0) (onlyPiece_0) (pt_0) (ph_0) (drawnEdge_0) (pieceOf_0) (drawnNode_0) (bestWay_0) (x1) (x2) (x3)) (f17 : 1 * x2 + ((-1) * pn_0 + 0) ≤ (-1)) (f18 : drawnNode_0 (x2) ≠ 0) (f19 : SHP (pn_0) (pm_0) (onlyPiece_0) (wayMany_0) (pt_0) (ph_0) (alive_0) (drawnEdge_0) (pieceOf_0) (drawnNode_0) (way_0) (x2) (x3) (x8)) (f21 : x3 ≠ x2) (f22 : x3 < x5) (hK_0_33 : ∀ j : Int, 0 ≤ j → j < 80 → 0 ≤ pt_0 j ∧ pt_0 j ≤ 24) (hK_0_34 : ∀ j : Int, 0 ≤ j → j < 80 → 0 ≤ ph_0 j ∧ ph_0 j ≤ 24) (hK_0_35 : ∀ j : Int, 0 ≤ j → j < 80 → 0 ≤ alive_0 j ∧ alive_0 j ≤ 1) (hK_0_42 : ∀ j : Int, 0 ≤ j → j < 26 → 0 ≤ drawnNode_0 j ∧ drawnNode_0 j ≤ 1) (hK_0_43 : ∀ j : Int, 0 ≤ j → j < 80 → 0 ≤ drawnEdge_0 j ∧ drawnEdge_0 j ≤ 1) (hK_0_44 : ∀ j : Int, 0 ≤ j → j < 80 → (-1) ≤ pieceOf_0 j ∧ pieceOf_0 j ≤ 79) (hK_0_46 : ∀ j : Int, 0 ≤ j → j < 30 → 0 ≤ way_0 j ∧ way_0 j ≤ 24) (hK_0_52 : ∀ j : Int, 0 ≤ j → j < 30 → 0 ≤ bestWay_0 j ∧ bestWay_0 j ≤ 24) (hK_0_117 : ∀ j : Int, 0 ≤ j → j < 100 → 0 ≤ row_0 j ∧ row_0 j ≤ 75) (kz_0_31 : 0 ≤ pn_0 ∧ pn_0 ≤ 25) (kz_0_32 : 0 ≤ pm_0 ∧ pm_0 ≤ 80) (kz_0_45 : 0 ≤ wayMany_0 ∧ wayMany_0 ≤ 30) (kz_0_49 : (-1) ≤ onlyPiece_0 ∧ onlyPiece_0 ≤ 79) (kz_0_125 : 0 ≤ rowMany_0 ∧ rowMany_0 ≤ 100) (ex2 : gx = 0 + (1 * x4 + 0)) (ex3 : (-2) ≤ gx ∧ gx ≤ 26) : 1 * x2 + ((-1) * pn_0 + 0) ≤ (-1) := by
  first
    | omega
    | (have h := ‹STB _ _ _ _ _›.1.2.2; omega)
    | (have h := ‹STR _ _ _ _ _›.1; omega)
    | (have h := ‹STR _ _ _ _ _›.1
       have w := ‹STR _ _ _ _ _›.2.1 x1 (by omega) (by omega)
       omega)
    | (have h := bc_len ‹BC1 _ _ _ _ _ _ _›
       have h2 := ‹STR _ _ _ _ _›.1
       omega)
    | (have h := (sb_way ‹SB1 _ _ _ _ _ _ _ _ _ _ _ _› (by omega)).1
       have h2 := ‹STR _ _ _ _ _›.1
       omega)
    | (have h := ‹WYM _ _ _ _›.1
       have h2 := ‹STR _ _ _ _ _›.1
       omega)
set_option maxHeartbeats 4000000 in
theorem vc_Mo_stOrder_22_12 (x1 : Int) (x2 : Int) (x3 : Int) (x4 : Int) (x5 : Int) (x8 : Int) (x9 : Int) (wayMany_0 : Int) (drawnNode_0 : Int → Int) (pn_0 : Int) (pt_0 : Int → Int) (ph_0 : Int → Int) (pm_0 : Int) (alive_0 : Int → Int) (row_0 : Int → Int) (rowMany_0 : Int) (onlyPiece_0 : Int) (drawnEdge_0 : Int → Int) (pieceOf_0 : Int → Int) (bestWay_0 : Int → Int) (way_0 : Int → Int) (gx : Int) (k1 : 1 ≤ x1 ∧ x1 ≤ 30) (k2 : 0 ≤ x2 ∧ x2 ≤ 24) (k3 : 0 ≤ x3 ∧ x3 ≤ 24) (k4 : (-2) ≤ x4 ∧ x4 ≤ 26) (k5 : 1 ≤ x5 ∧ x5 ≤ 25) (k8 : 1 ≤ x8 ∧ x8 ≤ 1) (k9 : 1 ≤ x9 ∧ x9 ≤ 30) (d0 : x9 + 0 ≤ x1 ∧ x1 ≤ x9 + 0) (d1 : x1 + 0 ≤ x9 ∧ x9 ≤ x1 + 4294967296) (d2 : x5 + (-4294967296) ≤ x3 ∧ x3 ≤ x5 + (-1)) (f0 : x1 = x9) (g1 : x9 = wayMany_0) (f2 : x1 ≤ x9) (f3 : x1 ≠ 0) (f4 : x9 ≠ 0) (f5 : drawnNode_0 (x3) ≠ 0) (f6 : 1 * x3 + ((-1) * pn_0 + 0) ≤ (-1)) (f7 : GOK (pn_0) (pm_0) (pt_0) (ph_0)) (f8 : STB (pn_0) (pm_0) (pt_0) (ph_0) (alive_0)) (f9 : STR (pn_0) (rowMany_0) (pt_0) (ph_0) (row_0)) (f10 : onlyPiece_0 = (-1)) (f11 : (-1) * rowMany_0 + ((-1) * x4 + 0) ≤ (-26)) (f12 : DRR (pn_0) (rowMany_0) (drawnNode_0) (row_0)) (f13 : DEM (pm_0) (pt_0) (ph_0) (drawnNode_0) (drawnEdge_0)) (f14 : UA (pm_0) (alive_0) (drawnEdge_0)) (f15 : (rowMany_0 + 1) ≤ pn_0) (f16 : SB1 (pn_0) (pm_0) (onlyPiece_0) (pt_0) (ph_0) (drawnEdge_0) (pieceOf_0) (drawnNode_0) (bestWay_0) (x1) (x2) (x3)) (f17 : 1 * x2 + ((-1) * pn_0 + 0) ≤ (-1)) (f18 : drawnNode_0 (x2) ≠ 0) (f19 : SHP (pn_0) (pm_0) (onlyPiece_0) (wayMany_0) (pt_0) (ph_0) (alive_0) (drawnEdge_0) (pieceOf_0) (drawnNode_0) (way_0) (x2) (x3) (x8)) (f21 : x3 ≠ x2) (f22 : x3 < x5) (hK_0_33 : ∀ j : Int, 0 ≤ j → j < 80 → 0 ≤ pt_0 j ∧ pt_0 j ≤ 24) (hK_0_34 : ∀ j : Int, 0 ≤ j → j < 80 → 0 ≤ ph_0 j ∧ ph_0 j ≤ 24) (hK_0_35 : ∀ j : Int, 0 ≤ j → j < 80 → 0 ≤ alive_0 j ∧ alive_0 j ≤ 1) (hK_0_42 : ∀ j : Int, 0 ≤ j → j < 26 → 0 ≤ drawnNode_0 j ∧ drawnNode_0 j ≤ 1) (hK_0_43 : ∀ j : Int, 0 ≤ j → j < 80 → 0 ≤ drawnEdge_0 j ∧ drawnEdge_0 j ≤ 1) (hK_0_44 : ∀ j : Int, 0 ≤ j → j < 80 → (-1) ≤ pieceOf_0 j ∧ pieceOf_0 j ≤ 79) (hK_0_46 : ∀ j : Int, 0 ≤ j → j < 30 → 0 ≤ way_0 j ∧ way_0 j ≤ 24) (hK_0_52 : ∀ j : Int, 0 ≤ j → j < 30 → 0 ≤ bestWay_0 j ∧ bestWay_0 j ≤ 24) (hK_0_117 : ∀ j : Int, 0 ≤ j → j < 100 → 0 ≤ row_0 j ∧ row_0 j ≤ 75) (kz_0_31 : 0 ≤ pn_0 ∧ pn_0 ≤ 25) (kz_0_32 : 0 ≤ pm_0 ∧ pm_0 ≤ 80) (kz_0_45 : 0 ≤ wayMany_0 ∧ wayMany_0 ≤ 30) (kz_0_49 : (-1) ≤ onlyPiece_0 ∧ onlyPiece_0 ≤ 79) (kz_0_125 : 0 ≤ rowMany_0 ∧ rowMany_0 ≤ 100) (ex2 : gx = 0 + (1 * x4 + 0)) (ex3 : (-2) ≤ gx ∧ gx ≤ 26) : 1 * x3 + ((-1) * pn_0 + 0) ≤ (-1) := by
  first
    | omega
    | (have h := ‹STB _ _ _ _ _›.1.2.2; omega)
    | (have h := ‹STR _ _ _ _ _›.1; omega)
    | (have h := ‹STR _ _ _ _ _›.1
       have w := ‹STR _ _ _ _ _›.2.1 x1 (by omega) (by omega)
       omega)
    | (have h := bc_len ‹BC1 _ _ _ _ _ _ _›
       have h2 := ‹STR _ _ _ _ _›.1
       omega)
    | (have h := (sb_way ‹SB1 _ _ _ _ _ _ _ _ _ _ _ _› (by omega)).1
       have h2 := ‹STR _ _ _ _ _›.1
       omega)
    | (have h := ‹WYM _ _ _ _›.1
       have h2 := ‹STR _ _ _ _ _›.1
       omega)
set_option maxHeartbeats 4000000 in
theorem vc_Mo_stOrder_22_13 (x1 : Int) (x2 : Int) (x3 : Int) (x4 : Int) (x5 : Int) (x8 : Int) (x9 : Int) (wayMany_0 : Int) (drawnNode_0 : Int → Int) (pn_0 : Int) (pt_0 : Int → Int) (ph_0 : Int → Int) (pm_0 : Int) (alive_0 : Int → Int) (row_0 : Int → Int) (rowMany_0 : Int) (onlyPiece_0 : Int) (drawnEdge_0 : Int → Int) (pieceOf_0 : Int → Int) (bestWay_0 : Int → Int) (way_0 : Int → Int) (gx : Int) (k1 : 1 ≤ x1 ∧ x1 ≤ 30) (k2 : 0 ≤ x2 ∧ x2 ≤ 24) (k3 : 0 ≤ x3 ∧ x3 ≤ 24) (k4 : (-2) ≤ x4 ∧ x4 ≤ 26) (k5 : 1 ≤ x5 ∧ x5 ≤ 25) (k8 : 1 ≤ x8 ∧ x8 ≤ 1) (k9 : 1 ≤ x9 ∧ x9 ≤ 30) (d0 : x9 + 0 ≤ x1 ∧ x1 ≤ x9 + 0) (d1 : x1 + 0 ≤ x9 ∧ x9 ≤ x1 + 4294967296) (d2 : x5 + (-4294967296) ≤ x3 ∧ x3 ≤ x5 + (-1)) (f0 : x1 = x9) (g1 : x9 = wayMany_0) (f2 : x1 ≤ x9) (f3 : x1 ≠ 0) (f4 : x9 ≠ 0) (f5 : drawnNode_0 (x3) ≠ 0) (f6 : 1 * x3 + ((-1) * pn_0 + 0) ≤ (-1)) (f7 : GOK (pn_0) (pm_0) (pt_0) (ph_0)) (f8 : STB (pn_0) (pm_0) (pt_0) (ph_0) (alive_0)) (f9 : STR (pn_0) (rowMany_0) (pt_0) (ph_0) (row_0)) (f10 : onlyPiece_0 = (-1)) (f11 : (-1) * rowMany_0 + ((-1) * x4 + 0) ≤ (-26)) (f12 : DRR (pn_0) (rowMany_0) (drawnNode_0) (row_0)) (f13 : DEM (pm_0) (pt_0) (ph_0) (drawnNode_0) (drawnEdge_0)) (f14 : UA (pm_0) (alive_0) (drawnEdge_0)) (f15 : (rowMany_0 + 1) ≤ pn_0) (f16 : SB1 (pn_0) (pm_0) (onlyPiece_0) (pt_0) (ph_0) (drawnEdge_0) (pieceOf_0) (drawnNode_0) (bestWay_0) (x1) (x2) (x3)) (f17 : 1 * x2 + ((-1) * pn_0 + 0) ≤ (-1)) (f18 : drawnNode_0 (x2) ≠ 0) (f19 : SHP (pn_0) (pm_0) (onlyPiece_0) (wayMany_0) (pt_0) (ph_0) (alive_0) (drawnEdge_0) (pieceOf_0) (drawnNode_0) (way_0) (x2) (x3) (x8)) (f21 : x3 ≠ x2) (f22 : x3 < x5) (hK_0_33 : ∀ j : Int, 0 ≤ j → j < 80 → 0 ≤ pt_0 j ∧ pt_0 j ≤ 24) (hK_0_34 : ∀ j : Int, 0 ≤ j → j < 80 → 0 ≤ ph_0 j ∧ ph_0 j ≤ 24) (hK_0_35 : ∀ j : Int, 0 ≤ j → j < 80 → 0 ≤ alive_0 j ∧ alive_0 j ≤ 1) (hK_0_42 : ∀ j : Int, 0 ≤ j → j < 26 → 0 ≤ drawnNode_0 j ∧ drawnNode_0 j ≤ 1) (hK_0_43 : ∀ j : Int, 0 ≤ j → j < 80 → 0 ≤ drawnEdge_0 j ∧ drawnEdge_0 j ≤ 1) (hK_0_44 : ∀ j : Int, 0 ≤ j → j < 80 → (-1) ≤ pieceOf_0 j ∧ pieceOf_0 j ≤ 79) (hK_0_46 : ∀ j : Int, 0 ≤ j → j < 30 → 0 ≤ way_0 j ∧ way_0 j ≤ 24) (hK_0_52 : ∀ j : Int, 0 ≤ j → j < 30 → 0 ≤ bestWay_0 j ∧ bestWay_0 j ≤ 24) (hK_0_117 : ∀ j : Int, 0 ≤ j → j < 100 → 0 ≤ row_0 j ∧ row_0 j ≤ 75) (kz_0_31 : 0 ≤ pn_0 ∧ pn_0 ≤ 25) (kz_0_32 : 0 ≤ pm_0 ∧ pm_0 ≤ 80) (kz_0_45 : 0 ≤ wayMany_0 ∧ wayMany_0 ≤ 30) (kz_0_49 : (-1) ≤ onlyPiece_0 ∧ onlyPiece_0 ≤ 79) (kz_0_125 : 0 ≤ rowMany_0 ∧ rowMany_0 ≤ 100) (ex2 : gx = 0 + (1 * x4 + 0)) (ex3 : (-2) ≤ gx ∧ gx ≤ 26) : drawnNode_0 (x2) ≠ 0 := by
  first
    | omega
    | (have h := ‹STB _ _ _ _ _›.1.2.2; omega)
    | (have h := ‹STR _ _ _ _ _›.1; omega)
    | (have h := ‹STR _ _ _ _ _›.1
       have w := ‹STR _ _ _ _ _›.2.1 x1 (by omega) (by omega)
       omega)
    | (have h := bc_len ‹BC1 _ _ _ _ _ _ _›
       have h2 := ‹STR _ _ _ _ _›.1
       omega)
    | (have h := (sb_way ‹SB1 _ _ _ _ _ _ _ _ _ _ _ _› (by omega)).1
       have h2 := ‹STR _ _ _ _ _›.1
       omega)
    | (have h := ‹WYM _ _ _ _›.1
       have h2 := ‹STR _ _ _ _ _›.1
       omega)
set_option maxHeartbeats 4000000 in
theorem vc_Mo_stOrder_22_14 (x1 : Int) (x2 : Int) (x3 : Int) (x4 : Int) (x5 : Int) (x8 : Int) (x9 : Int) (wayMany_0 : Int) (drawnNode_0 : Int → Int) (pn_0 : Int) (pt_0 : Int → Int) (ph_0 : Int → Int) (pm_0 : Int) (alive_0 : Int → Int) (row_0 : Int → Int) (rowMany_0 : Int) (onlyPiece_0 : Int) (drawnEdge_0 : Int → Int) (pieceOf_0 : Int → Int) (bestWay_0 : Int → Int) (way_0 : Int → Int) (gx : Int) (k1 : 1 ≤ x1 ∧ x1 ≤ 30) (k2 : 0 ≤ x2 ∧ x2 ≤ 24) (k3 : 0 ≤ x3 ∧ x3 ≤ 24) (k4 : (-2) ≤ x4 ∧ x4 ≤ 26) (k5 : 1 ≤ x5 ∧ x5 ≤ 25) (k8 : 1 ≤ x8 ∧ x8 ≤ 1) (k9 : 1 ≤ x9 ∧ x9 ≤ 30) (d0 : x9 + 0 ≤ x1 ∧ x1 ≤ x9 + 0) (d1 : x1 + 0 ≤ x9 ∧ x9 ≤ x1 + 4294967296) (d2 : x5 + (-4294967296) ≤ x3 ∧ x3 ≤ x5 + (-1)) (f0 : x1 = x9) (g1 : x9 = wayMany_0) (f2 : x1 ≤ x9) (f3 : x1 ≠ 0) (f4 : x9 ≠ 0) (f5 : drawnNode_0 (x3) ≠ 0) (f6 : 1 * x3 + ((-1) * pn_0 + 0) ≤ (-1)) (f7 : GOK (pn_0) (pm_0) (pt_0) (ph_0)) (f8 : STB (pn_0) (pm_0) (pt_0) (ph_0) (alive_0)) (f9 : STR (pn_0) (rowMany_0) (pt_0) (ph_0) (row_0)) (f10 : onlyPiece_0 = (-1)) (f11 : (-1) * rowMany_0 + ((-1) * x4 + 0) ≤ (-26)) (f12 : DRR (pn_0) (rowMany_0) (drawnNode_0) (row_0)) (f13 : DEM (pm_0) (pt_0) (ph_0) (drawnNode_0) (drawnEdge_0)) (f14 : UA (pm_0) (alive_0) (drawnEdge_0)) (f15 : (rowMany_0 + 1) ≤ pn_0) (f16 : SB1 (pn_0) (pm_0) (onlyPiece_0) (pt_0) (ph_0) (drawnEdge_0) (pieceOf_0) (drawnNode_0) (bestWay_0) (x1) (x2) (x3)) (f17 : 1 * x2 + ((-1) * pn_0 + 0) ≤ (-1)) (f18 : drawnNode_0 (x2) ≠ 0) (f19 : SHP (pn_0) (pm_0) (onlyPiece_0) (wayMany_0) (pt_0) (ph_0) (alive_0) (drawnEdge_0) (pieceOf_0) (drawnNode_0) (way_0) (x2) (x3) (x8)) (f21 : x3 ≠ x2) (f22 : x3 < x5) (hK_0_33 : ∀ j : Int, 0 ≤ j → j < 80 → 0 ≤ pt_0 j ∧ pt_0 j ≤ 24) (hK_0_34 : ∀ j : Int, 0 ≤ j → j < 80 → 0 ≤ ph_0 j ∧ ph_0 j ≤ 24) (hK_0_35 : ∀ j : Int, 0 ≤ j → j < 80 → 0 ≤ alive_0 j ∧ alive_0 j ≤ 1) (hK_0_42 : ∀ j : Int, 0 ≤ j → j < 26 → 0 ≤ drawnNode_0 j ∧ drawnNode_0 j ≤ 1) (hK_0_43 : ∀ j : Int, 0 ≤ j → j < 80 → 0 ≤ drawnEdge_0 j ∧ drawnEdge_0 j ≤ 1) (hK_0_44 : ∀ j : Int, 0 ≤ j → j < 80 → (-1) ≤ pieceOf_0 j ∧ pieceOf_0 j ≤ 79) (hK_0_46 : ∀ j : Int, 0 ≤ j → j < 30 → 0 ≤ way_0 j ∧ way_0 j ≤ 24) (hK_0_52 : ∀ j : Int, 0 ≤ j → j < 30 → 0 ≤ bestWay_0 j ∧ bestWay_0 j ≤ 24) (hK_0_117 : ∀ j : Int, 0 ≤ j → j < 100 → 0 ≤ row_0 j ∧ row_0 j ≤ 75) (kz_0_31 : 0 ≤ pn_0 ∧ pn_0 ≤ 25) (kz_0_32 : 0 ≤ pm_0 ∧ pm_0 ≤ 80) (kz_0_45 : 0 ≤ wayMany_0 ∧ wayMany_0 ≤ 30) (kz_0_49 : (-1) ≤ onlyPiece_0 ∧ onlyPiece_0 ≤ 79) (kz_0_125 : 0 ≤ rowMany_0 ∧ rowMany_0 ≤ 100) (ex2 : gx = 0 + (1 * x4 + 0)) (ex3 : (-2) ≤ gx ∧ gx ≤ 26) : x1 = wayMany_0 := by
  first
    | omega
    | (have h := ‹STB _ _ _ _ _›.1.2.2; omega)
    | (have h := ‹STR _ _ _ _ _›.1; omega)
    | (have h := ‹STR _ _ _ _ _›.1
       have w := ‹STR _ _ _ _ _›.2.1 x1 (by omega) (by omega)
       omega)
    | (have h := bc_len ‹BC1 _ _ _ _ _ _ _›
       have h2 := ‹STR _ _ _ _ _›.1
       omega)
    | (have h := (sb_way ‹SB1 _ _ _ _ _ _ _ _ _ _ _ _› (by omega)).1
       have h2 := ‹STR _ _ _ _ _›.1
       omega)
    | (have h := ‹WYM _ _ _ _›.1
       have h2 := ‹STR _ _ _ _ _›.1
       omega)
def o_Mo_stOrder_22 : or_T := (253, 12, [(0, (2, 0, 0, [165])), (1, (0, 1, 30, [])), (2, (0, 0, 24, [])), (3, (0, 0, 24, [])), (4, (0, -2, 26, [])), (5, (0, 1, 25, [])), (8, (0, 1, 1, [])), (9, (0, 1, 30, []))], [(7, [1, 9], [0]), (9, [9, 0], [45]), (7, [9, 1], [3]), (8, [1], [1]), (8, [9], [1]), (20, [0, 3], [50, 0, 1, 42, 7, 5, 3, 0, 42, 1, 1, 0, 0]), (20, [3, 0], [30, -1, 1, 0, 0, -1, 1, 31]), (20, [0], [60, 2, 2, 75, 31, 32, 33, 34]), (20, [0], [60, 2, 3, 297, 31, 32, 33, 34, 35]), (20, [0], [60, 2, 3, 298, 31, 125, 33, 34, 117]), (20, [0], [50, 1, 0, 49, 1, 3, 2, 0, 49, 0, -1]), (20, [0, 4], [30, -26, -1, 1, 125, -1, 0, 0]), (20, [0], [60, 2, 2, 301, 31, 125, 42, 117]), (20, [0], [60, 1, 4, 303, 32, 33, 34, 42, 43]), (20, [0], [60, 1, 2, 122, 32, 35, 43]), (20, [0], [50, 2, 0, 125, 31, 0, 7, 4, 3, 2, 0, 125, 0, 1, 2, 0, 31]), (20, [0, 1, 2, 3], [60, 3, 6, 306, 31, 32, 49, 33, 34, 43, 44, 42, 52]), (20, [2, 0], [30, -1, 1, 0, 0, -1, 1, 31]), (20, [0, 2], [50, 0, 1, 42, 7, 5, 3, 0, 42, 1, 1, 0, 0]), (20, [0, 2, 3, 8], [60, 4, 7, 130, 31, 32, 49, 45, 33, 34, 35, 43, 44, 42, 46]), (102, [8], [9415652603080021145753684134811499624153533166696051769344, 165045]), (7, [3, 2], [1]), (7, [3, 5], [2])], [], [(0, -2, 26, [])], [(20, [0], [60, 2, 2, 75, 31, 32, 33, 34]), (20, [0], [60, 2, 3, 297, 31, 32, 33, 34, 35]), (20, [0], [60, 2, 3, 298, 31, 125, 33, 34, 117]), (20, [0], [50, 1, 0, 49, 1, 3, 2, 0, 49, 0, -1]), (20, [0, 12], [30, -26, -1, 1, 125, -1, 0, 0]), (20, [0], [60, 2, 2, 301, 31, 125, 42, 117]), (20, [0], [60, 1, 4, 303, 32, 33, 34, 42, 43]), (20, [0], [60, 1, 2, 122, 32, 35, 43]), (20, [0], [50, 2, 0, 125, 31, 0, 7, 4, 3, 2, 0, 125, 0, 1, 2, 0, 31]), (20, [0, 1, 2, 3], [60, 3, 6, 306, 31, 32, 49, 33, 34, 43, 44, 42, 52]), (20, [0], [60, 2, 2, 304, 31, 45, 42, 46]), (20, [2, 0], [30, -1, 1, 0, 0, -1, 1, 31]), (20, [3, 0], [30, -1, 1, 0, 0, -1, 1, 31]), (20, [0, 2], [50, 0, 1, 42, 7, 5, 3, 0, 42, 1, 1, 0, 0]), (20, [1, 0], [50, 1, 0, 1045, 1, 2, 1, 0, 2, 1, 45])], [(12, 4, 0, 0)], [(1, 9, 0, 0), (9, 1, 0, 4294967296), (3, 5, -4294967296, -1)])
theorem oo_Mo_stOrder_22 {kA : Nat → ClassId} : or_ok PRD kA GG o_Mo_stOrder_22 := by
  refine or_mk fun A ta ws vs hD hth hl => ?_
  intro t0 r0 t1 k1 t2 k2 t3 k3 t4 k4 t5 k5 t8 k8 t9 k9 d0 d1 d2 f0 f1 f2 f3 f4 f5 f6 f7 f8 f9 f10 f11 f12 f13 f14 f15 f16 f17 f18 f19 ta1 w1 le1 s1 f21 f22
  replace f0 := shm_37 f0
  replace f1 := shm_741 f1
  replace f2 := shm_2 f2
  replace f3 := shm_142 f3
  replace f4 := shm_142 f4
  replace f5 := shm_1762 f5
  replace f6 := shm_553 f6
  replace f7 := shm_575 f7
  replace f8 := shm_1749 f8
  replace f9 := shm_1001 f9
  replace f10 := shm_1675 f10
  replace f11 := shm_1750 f11
  replace f12 := shm_1755 f12
  replace f13 := shm_1757 f13
  replace f14 := shm_1455 f14
  replace f15 := shm_1752 f15
  replace f16 := shm_1761 f16
  replace f17 := shm_553 f17
  replace f18 := shm_1762 f18
  replace f19 := shm_1463 f19
  replace f21 := shm_40 f21
  replace f22 := shm_6 f22
  have cr_0_33 := fdq_117 hD hth r0
  have cr_0_34 := fdq_118 hD hth r0
  have cr_0_35 := fdq_132 hD hth r0
  have cr_0_42 := fdq_136 hD hth r0
  have cr_0_43 := fdq_137 hD hth r0
  have cr_0_44 := fdq_138 hD hth r0
  have cr_0_46 := fdq_190 hD hth r0
  have cr_0_52 := fdq_236 hD hth r0
  have cr_0_117 := fdq_181 hD hth r0
  have g1 : v_iv (n_v vs 9) = w_fi ws (n_v vs 0) 45 := congrArg v_iv f1
  have hK_0_33 := elq_60 hD hth cr_0_33
  have hK_0_34 := elq_61 hD hth cr_0_34
  have hK_0_35 := elq_72 hD hth cr_0_35
  have hK_0_42 := elq_75 hD hth cr_0_42
  have hK_0_43 := elq_76 hD hth cr_0_43
  have hK_0_44 := elq_77 hD hth cr_0_44
  have hK_0_46 := elq_114 hD hth cr_0_46
  have hK_0_52 := elq_147 hD hth cr_0_52
  have hK_0_117 := elq_108 hD hth cr_0_117
  have kz_0_31 := fdq_145 hD hth r0
  have kz_0_32 := fdq_140 hD hth r0
  have kz_0_45 := fdq_191 hD hth r0
  have kz_0_49 := fdq_146 hD hth r0
  have kz_0_125 := fdq_182 hD hth r0
  obtain ⟨x, ex, hx⟩ := iv_ex (ta := ta) (lo := (-2)) (hi := 26) (z := 0 + (1 * v_iv (n_v vs 4) + 0)) (by omega) (by omega) (by omega) (by omega)
  have ex2 : v_iv (Value.int x) = 0 + (1 * v_iv (n_v vs 4) + 0) := ex
  have ex3 : (-2) ≤ v_iv (Value.int x) ∧ v_iv (Value.int x) ≤ 26 := tv_rng hx
  have e_0 : n_v (vs ++ [Value.int x]) 0 = n_v vs 0 := n_v_old (by rw [hl]; decide)
  have e_1 : n_v (vs ++ [Value.int x]) 1 = n_v vs 1 := n_v_old (by rw [hl]; decide)
  have e_2 : n_v (vs ++ [Value.int x]) 2 = n_v vs 2 := n_v_old (by rw [hl]; decide)
  have e_3 : n_v (vs ++ [Value.int x]) 3 = n_v vs 3 := n_v_old (by rw [hl]; decide)
  have e_12 : n_v (vs ++ [Value.int x]) 12 = Value.int x := n_v_new hl
  have nf0 : fc_1 PRD (20, [0], [60, 2, 2, 75, 31, 32, 33, 34]) ws (vs ++ [Value.int x]) := by
    refine ⟨nf_inA hl rfl, sgq_575 ?_⟩
    · show GOK (w_fi ws (n_v (vs ++ [Value.int x]) 0) 31) (w_fi ws (n_v (vs ++ [Value.int x]) 0) 32) (w_ei ws (w_ar ws (n_v (vs ++ [Value.int x]) 0) 33)) (w_ei ws (w_ar ws (n_v (vs ++ [Value.int x]) 0) 34))
      rw [e_0]
      exact vc_Mo_stOrder_22_0 (v_iv (n_v vs 1)) (v_iv (n_v vs 2)) (v_iv (n_v vs 3)) (v_iv (n_v vs 4)) (v_iv (n_v vs 5)) (v_iv (n_v vs 8)) (v_iv (n_v vs 9)) (w_fi ws (n_v vs 0) 45) (w_ei ws (w_ar ws (n_v vs 0) 42)) (w_fi ws (n_v vs 0) 31) (w_ei ws (w_ar ws (n_v vs 0) 33)) (w_ei ws (w_ar ws (n_v vs 0) 34)) (w_fi ws (n_v vs 0) 32) (w_ei ws (w_ar ws (n_v vs 0) 35)) (w_ei ws (w_ar ws (n_v vs 0) 117)) (w_fi ws (n_v vs 0) 125) (w_fi ws (n_v vs 0) 49) (w_ei ws (w_ar ws (n_v vs 0) 43)) (w_ei ws (w_ar ws (n_v vs 0) 44)) (w_ei ws (w_ar ws (n_v vs 0) 52)) (w_ei ws (w_ar ws (n_v vs 0) 46)) (v_iv (Value.int x)) k1 k2 k3 k4 k5 k8 k9 d0 d1 d2 f0 g1 f2 f3 f4 f5 f6 f7 f8 f9 f10 f11 f12 f13 f14 f15 f16 f17 f18 f19 f21 f22 hK_0_33 hK_0_34 hK_0_35 hK_0_42 hK_0_43 hK_0_44 hK_0_46 hK_0_52 hK_0_117 kz_0_31 kz_0_32 kz_0_45 kz_0_49 kz_0_125 ex2 ex3
  have nf1 : fc_1 PRD (20, [0], [60, 2, 3, 297, 31, 32, 33, 34, 35]) ws (vs ++ [Value.int x]) := by
    refine ⟨nf_inA hl rfl, sgq_1749 ?_⟩
    · show STB (w_fi ws (n_v (vs ++ [Value.int x]) 0) 31) (w_fi ws (n_v (vs ++ [Value.int x]) 0) 32) (w_ei ws (w_ar ws (n_v (vs ++ [Value.int x]) 0) 33)) (w_ei ws (w_ar ws (n_v (vs ++ [Value.int x]) 0) 34)) (w_ei ws (w_ar ws (n_v (vs ++ [Value.int x]) 0) 35))
      rw [e_0]
      exact vc_Mo_stOrder_22_1 (v_iv (n_v vs 1)) (v_iv (n_v vs 2)) (v_iv (n_v vs 3)) (v_iv (n_v vs 4)) (v_iv (n_v vs 5)) (v_iv (n_v vs 8)) (v_iv (n_v vs 9)) (w_fi ws (n_v vs 0) 45) (w_ei ws (w_ar ws (n_v vs 0) 42)) (w_fi ws (n_v vs 0) 31) (w_ei ws (w_ar ws (n_v vs 0) 33)) (w_ei ws (w_ar ws (n_v vs 0) 34)) (w_fi ws (n_v vs 0) 32) (w_ei ws (w_ar ws (n_v vs 0) 35)) (w_ei ws (w_ar ws (n_v vs 0) 117)) (w_fi ws (n_v vs 0) 125) (w_fi ws (n_v vs 0) 49) (w_ei ws (w_ar ws (n_v vs 0) 43)) (w_ei ws (w_ar ws (n_v vs 0) 44)) (w_ei ws (w_ar ws (n_v vs 0) 52)) (w_ei ws (w_ar ws (n_v vs 0) 46)) (v_iv (Value.int x)) k1 k2 k3 k4 k5 k8 k9 d0 d1 d2 f0 g1 f2 f3 f4 f5 f6 f7 f8 f9 f10 f11 f12 f13 f14 f15 f16 f17 f18 f19 f21 f22 hK_0_33 hK_0_34 hK_0_35 hK_0_42 hK_0_43 hK_0_44 hK_0_46 hK_0_52 hK_0_117 kz_0_31 kz_0_32 kz_0_45 kz_0_49 kz_0_125 ex2 ex3
  have nf2 : fc_1 PRD (20, [0], [60, 2, 3, 298, 31, 125, 33, 34, 117]) ws (vs ++ [Value.int x]) := by
    refine ⟨nf_inA hl rfl, sgq_1001 ?_⟩
    · show STR (w_fi ws (n_v (vs ++ [Value.int x]) 0) 31) (w_fi ws (n_v (vs ++ [Value.int x]) 0) 125) (w_ei ws (w_ar ws (n_v (vs ++ [Value.int x]) 0) 33)) (w_ei ws (w_ar ws (n_v (vs ++ [Value.int x]) 0) 34)) (w_ei ws (w_ar ws (n_v (vs ++ [Value.int x]) 0) 117))
      rw [e_0]
      exact vc_Mo_stOrder_22_2 (v_iv (n_v vs 1)) (v_iv (n_v vs 2)) (v_iv (n_v vs 3)) (v_iv (n_v vs 4)) (v_iv (n_v vs 5)) (v_iv (n_v vs 8)) (v_iv (n_v vs 9)) (w_fi ws (n_v vs 0) 45) (w_ei ws (w_ar ws (n_v vs 0) 42)) (w_fi ws (n_v vs 0) 31) (w_ei ws (w_ar ws (n_v vs 0) 33)) (w_ei ws (w_ar ws (n_v vs 0) 34)) (w_fi ws (n_v vs 0) 32) (w_ei ws (w_ar ws (n_v vs 0) 35)) (w_ei ws (w_ar ws (n_v vs 0) 117)) (w_fi ws (n_v vs 0) 125) (w_fi ws (n_v vs 0) 49) (w_ei ws (w_ar ws (n_v vs 0) 43)) (w_ei ws (w_ar ws (n_v vs 0) 44)) (w_ei ws (w_ar ws (n_v vs 0) 52)) (w_ei ws (w_ar ws (n_v vs 0) 46)) (v_iv (Value.int x)) k1 k2 k3 k4 k5 k8 k9 d0 d1 d2 f0 g1 f2 f3 f4 f5 f6 f7 f8 f9 f10 f11 f12 f13 f14 f15 f16 f17 f18 f19 f21 f22 hK_0_33 hK_0_34 hK_0_35 hK_0_42 hK_0_43 hK_0_44 hK_0_46 hK_0_52 hK_0_117 kz_0_31 kz_0_32 kz_0_45 kz_0_49 kz_0_125 ex2 ex3
  have nf3 : fc_1 PRD (20, [0], [50, 1, 0, 49, 1, 3, 2, 0, 49, 0, -1]) ws (vs ++ [Value.int x]) := by
    refine ⟨nf_inA hl rfl, sgq_1675 ?_⟩
    · show w_fi ws (n_v (vs ++ [Value.int x]) 0) 49 = (-1)
      rw [e_0]
      exact vc_Mo_stOrder_22_3 (v_iv (n_v vs 1)) (v_iv (n_v vs 2)) (v_iv (n_v vs 3)) (v_iv (n_v vs 4)) (v_iv (n_v vs 5)) (v_iv (n_v vs 8)) (v_iv (n_v vs 9)) (w_fi ws (n_v vs 0) 45) (w_ei ws (w_ar ws (n_v vs 0) 42)) (w_fi ws (n_v vs 0) 31) (w_ei ws (w_ar ws (n_v vs 0) 33)) (w_ei ws (w_ar ws (n_v vs 0) 34)) (w_fi ws (n_v vs 0) 32) (w_ei ws (w_ar ws (n_v vs 0) 35)) (w_ei ws (w_ar ws (n_v vs 0) 117)) (w_fi ws (n_v vs 0) 125) (w_fi ws (n_v vs 0) 49) (w_ei ws (w_ar ws (n_v vs 0) 43)) (w_ei ws (w_ar ws (n_v vs 0) 44)) (w_ei ws (w_ar ws (n_v vs 0) 52)) (w_ei ws (w_ar ws (n_v vs 0) 46)) (v_iv (Value.int x)) k1 k2 k3 k4 k5 k8 k9 d0 d1 d2 f0 g1 f2 f3 f4 f5 f6 f7 f8 f9 f10 f11 f12 f13 f14 f15 f16 f17 f18 f19 f21 f22 hK_0_33 hK_0_34 hK_0_35 hK_0_42 hK_0_43 hK_0_44 hK_0_46 hK_0_52 hK_0_117 kz_0_31 kz_0_32 kz_0_45 kz_0_49 kz_0_125 ex2 ex3
  have nf4 : fc_1 PRD (20, [0, 12], [30, -26, -1, 1, 125, -1, 0, 0]) ws (vs ++ [Value.int x]) := by
    refine ⟨nf_inA hl rfl, sgq_1750 ?_⟩
    · show (-1) * w_fi ws (n_v (vs ++ [Value.int x]) 0) 125 + ((-1) * v_iv (n_v (vs ++ [Value.int x]) 12) + 0) ≤ (-26)
      simp only [e_0, e_12]
      exact vc_Mo_stOrder_22_4 (v_iv (n_v vs 1)) (v_iv (n_v vs 2)) (v_iv (n_v vs 3)) (v_iv (n_v vs 4)) (v_iv (n_v vs 5)) (v_iv (n_v vs 8)) (v_iv (n_v vs 9)) (w_fi ws (n_v vs 0) 45) (w_ei ws (w_ar ws (n_v vs 0) 42)) (w_fi ws (n_v vs 0) 31) (w_ei ws (w_ar ws (n_v vs 0) 33)) (w_ei ws (w_ar ws (n_v vs 0) 34)) (w_fi ws (n_v vs 0) 32) (w_ei ws (w_ar ws (n_v vs 0) 35)) (w_ei ws (w_ar ws (n_v vs 0) 117)) (w_fi ws (n_v vs 0) 125) (w_fi ws (n_v vs 0) 49) (w_ei ws (w_ar ws (n_v vs 0) 43)) (w_ei ws (w_ar ws (n_v vs 0) 44)) (w_ei ws (w_ar ws (n_v vs 0) 52)) (w_ei ws (w_ar ws (n_v vs 0) 46)) (v_iv (Value.int x)) k1 k2 k3 k4 k5 k8 k9 d0 d1 d2 f0 g1 f2 f3 f4 f5 f6 f7 f8 f9 f10 f11 f12 f13 f14 f15 f16 f17 f18 f19 f21 f22 hK_0_33 hK_0_34 hK_0_35 hK_0_42 hK_0_43 hK_0_44 hK_0_46 hK_0_52 hK_0_117 kz_0_31 kz_0_32 kz_0_45 kz_0_49 kz_0_125 ex2 ex3
  have nf5 : fc_1 PRD (20, [0], [60, 2, 2, 301, 31, 125, 42, 117]) ws (vs ++ [Value.int x]) := by
    refine ⟨nf_inA hl rfl, sgq_1755 ?_⟩
    · show DRR (w_fi ws (n_v (vs ++ [Value.int x]) 0) 31) (w_fi ws (n_v (vs ++ [Value.int x]) 0) 125) (w_ei ws (w_ar ws (n_v (vs ++ [Value.int x]) 0) 42)) (w_ei ws (w_ar ws (n_v (vs ++ [Value.int x]) 0) 117))
      rw [e_0]
      exact vc_Mo_stOrder_22_5 (v_iv (n_v vs 1)) (v_iv (n_v vs 2)) (v_iv (n_v vs 3)) (v_iv (n_v vs 4)) (v_iv (n_v vs 5)) (v_iv (n_v vs 8)) (v_iv (n_v vs 9)) (w_fi ws (n_v vs 0) 45) (w_ei ws (w_ar ws (n_v vs 0) 42)) (w_fi ws (n_v vs 0) 31) (w_ei ws (w_ar ws (n_v vs 0) 33)) (w_ei ws (w_ar ws (n_v vs 0) 34)) (w_fi ws (n_v vs 0) 32) (w_ei ws (w_ar ws (n_v vs 0) 35)) (w_ei ws (w_ar ws (n_v vs 0) 117)) (w_fi ws (n_v vs 0) 125) (w_fi ws (n_v vs 0) 49) (w_ei ws (w_ar ws (n_v vs 0) 43)) (w_ei ws (w_ar ws (n_v vs 0) 44)) (w_ei ws (w_ar ws (n_v vs 0) 52)) (w_ei ws (w_ar ws (n_v vs 0) 46)) (v_iv (Value.int x)) k1 k2 k3 k4 k5 k8 k9 d0 d1 d2 f0 g1 f2 f3 f4 f5 f6 f7 f8 f9 f10 f11 f12 f13 f14 f15 f16 f17 f18 f19 f21 f22 hK_0_33 hK_0_34 hK_0_35 hK_0_42 hK_0_43 hK_0_44 hK_0_46 hK_0_52 hK_0_117 kz_0_31 kz_0_32 kz_0_45 kz_0_49 kz_0_125 ex2 ex3
  have nf6 : fc_1 PRD (20, [0], [60, 1, 4, 303, 32, 33, 34, 42, 43]) ws (vs ++ [Value.int x]) := by
    refine ⟨nf_inA hl rfl, sgq_1757 ?_⟩
    · show DEM (w_fi ws (n_v (vs ++ [Value.int x]) 0) 32) (w_ei ws (w_ar ws (n_v (vs ++ [Value.int x]) 0) 33)) (w_ei ws (w_ar ws (n_v (vs ++ [Value.int x]) 0) 34)) (w_ei ws (w_ar ws (n_v (vs ++ [Value.int x]) 0) 42)) (w_ei ws (w_ar ws (n_v (vs ++ [Value.int x]) 0) 43))
      rw [e_0]
      exact vc_Mo_stOrder_22_6 (v_iv (n_v vs 1)) (v_iv (n_v vs 2)) (v_iv (n_v vs 3)) (v_iv (n_v vs 4)) (v_iv (n_v vs 5)) (v_iv (n_v vs 8)) (v_iv (n_v vs 9)) (w_fi ws (n_v vs 0) 45) (w_ei ws (w_ar ws (n_v vs 0) 42)) (w_fi ws (n_v vs 0) 31) (w_ei ws (w_ar ws (n_v vs 0) 33)) (w_ei ws (w_ar ws (n_v vs 0) 34)) (w_fi ws (n_v vs 0) 32) (w_ei ws (w_ar ws (n_v vs 0) 35)) (w_ei ws (w_ar ws (n_v vs 0) 117)) (w_fi ws (n_v vs 0) 125) (w_fi ws (n_v vs 0) 49) (w_ei ws (w_ar ws (n_v vs 0) 43)) (w_ei ws (w_ar ws (n_v vs 0) 44)) (w_ei ws (w_ar ws (n_v vs 0) 52)) (w_ei ws (w_ar ws (n_v vs 0) 46)) (v_iv (Value.int x)) k1 k2 k3 k4 k5 k8 k9 d0 d1 d2 f0 g1 f2 f3 f4 f5 f6 f7 f8 f9 f10 f11 f12 f13 f14 f15 f16 f17 f18 f19 f21 f22 hK_0_33 hK_0_34 hK_0_35 hK_0_42 hK_0_43 hK_0_44 hK_0_46 hK_0_52 hK_0_117 kz_0_31 kz_0_32 kz_0_45 kz_0_49 kz_0_125 ex2 ex3
  have nf7 : fc_1 PRD (20, [0], [60, 1, 2, 122, 32, 35, 43]) ws (vs ++ [Value.int x]) := by
    refine ⟨nf_inA hl rfl, sgq_1455 ?_⟩
    · show UA (w_fi ws (n_v (vs ++ [Value.int x]) 0) 32) (w_ei ws (w_ar ws (n_v (vs ++ [Value.int x]) 0) 35)) (w_ei ws (w_ar ws (n_v (vs ++ [Value.int x]) 0) 43))
      rw [e_0]
      exact vc_Mo_stOrder_22_7 (v_iv (n_v vs 1)) (v_iv (n_v vs 2)) (v_iv (n_v vs 3)) (v_iv (n_v vs 4)) (v_iv (n_v vs 5)) (v_iv (n_v vs 8)) (v_iv (n_v vs 9)) (w_fi ws (n_v vs 0) 45) (w_ei ws (w_ar ws (n_v vs 0) 42)) (w_fi ws (n_v vs 0) 31) (w_ei ws (w_ar ws (n_v vs 0) 33)) (w_ei ws (w_ar ws (n_v vs 0) 34)) (w_fi ws (n_v vs 0) 32) (w_ei ws (w_ar ws (n_v vs 0) 35)) (w_ei ws (w_ar ws (n_v vs 0) 117)) (w_fi ws (n_v vs 0) 125) (w_fi ws (n_v vs 0) 49) (w_ei ws (w_ar ws (n_v vs 0) 43)) (w_ei ws (w_ar ws (n_v vs 0) 44)) (w_ei ws (w_ar ws (n_v vs 0) 52)) (w_ei ws (w_ar ws (n_v vs 0) 46)) (v_iv (Value.int x)) k1 k2 k3 k4 k5 k8 k9 d0 d1 d2 f0 g1 f2 f3 f4 f5 f6 f7 f8 f9 f10 f11 f12 f13 f14 f15 f16 f17 f18 f19 f21 f22 hK_0_33 hK_0_34 hK_0_35 hK_0_42 hK_0_43 hK_0_44 hK_0_46 hK_0_52 hK_0_117 kz_0_31 kz_0_32 kz_0_45 kz_0_49 kz_0_125 ex2 ex3
  have nf8 : fc_1 PRD (20, [0], [50, 2, 0, 125, 31, 0, 7, 4, 3, 2, 0, 125, 0, 1, 2, 0, 31]) ws (vs ++ [Value.int x]) := by
    refine ⟨nf_inA hl rfl, sgq_1752 ?_⟩
    · show (w_fi ws (n_v (vs ++ [Value.int x]) 0) 125 + 1) ≤ w_fi ws (n_v (vs ++ [Value.int x]) 0) 31
      rw [e_0]
      exact vc_Mo_stOrder_22_8 (v_iv (n_v vs 1)) (v_iv (n_v vs 2)) (v_iv (n_v vs 3)) (v_iv (n_v vs 4)) (v_iv (n_v vs 5)) (v_iv (n_v vs 8)) (v_iv (n_v vs 9)) (w_fi ws (n_v vs 0) 45) (w_ei ws (w_ar ws (n_v vs 0) 42)) (w_fi ws (n_v vs 0) 31) (w_ei ws (w_ar ws (n_v vs 0) 33)) (w_ei ws (w_ar ws (n_v vs 0) 34)) (w_fi ws (n_v vs 0) 32) (w_ei ws (w_ar ws (n_v vs 0) 35)) (w_ei ws (w_ar ws (n_v vs 0) 117)) (w_fi ws (n_v vs 0) 125) (w_fi ws (n_v vs 0) 49) (w_ei ws (w_ar ws (n_v vs 0) 43)) (w_ei ws (w_ar ws (n_v vs 0) 44)) (w_ei ws (w_ar ws (n_v vs 0) 52)) (w_ei ws (w_ar ws (n_v vs 0) 46)) (v_iv (Value.int x)) k1 k2 k3 k4 k5 k8 k9 d0 d1 d2 f0 g1 f2 f3 f4 f5 f6 f7 f8 f9 f10 f11 f12 f13 f14 f15 f16 f17 f18 f19 f21 f22 hK_0_33 hK_0_34 hK_0_35 hK_0_42 hK_0_43 hK_0_44 hK_0_46 hK_0_52 hK_0_117 kz_0_31 kz_0_32 kz_0_45 kz_0_49 kz_0_125 ex2 ex3
  have nf9 : fc_1 PRD (20, [0, 1, 2, 3], [60, 3, 6, 306, 31, 32, 49, 33, 34, 43, 44, 42, 52]) ws (vs ++ [Value.int x]) := by
    refine ⟨nf_inA hl rfl, sgq_1761 ?_⟩
    · show SB1 (w_fi ws (n_v (vs ++ [Value.int x]) 0) 31) (w_fi ws (n_v (vs ++ [Value.int x]) 0) 32) (w_fi ws (n_v (vs ++ [Value.int x]) 0) 49) (w_ei ws (w_ar ws (n_v (vs ++ [Value.int x]) 0) 33)) (w_ei ws (w_ar ws (n_v (vs ++ [Value.int x]) 0) 34)) (w_ei ws (w_ar ws (n_v (vs ++ [Value.int x]) 0) 43)) (w_ei ws (w_ar ws (n_v (vs ++ [Value.int x]) 0) 44)) (w_ei ws (w_ar ws (n_v (vs ++ [Value.int x]) 0) 42)) (w_ei ws (w_ar ws (n_v (vs ++ [Value.int x]) 0) 52)) (v_iv (n_v (vs ++ [Value.int x]) 1)) (v_iv (n_v (vs ++ [Value.int x]) 2)) (v_iv (n_v (vs ++ [Value.int x]) 3))
      simp only [e_0, e_1, e_2, e_3]
      exact vc_Mo_stOrder_22_9 (v_iv (n_v vs 1)) (v_iv (n_v vs 2)) (v_iv (n_v vs 3)) (v_iv (n_v vs 4)) (v_iv (n_v vs 5)) (v_iv (n_v vs 8)) (v_iv (n_v vs 9)) (w_fi ws (n_v vs 0) 45) (w_ei ws (w_ar ws (n_v vs 0) 42)) (w_fi ws (n_v vs 0) 31) (w_ei ws (w_ar ws (n_v vs 0) 33)) (w_ei ws (w_ar ws (n_v vs 0) 34)) (w_fi ws (n_v vs 0) 32) (w_ei ws (w_ar ws (n_v vs 0) 35)) (w_ei ws (w_ar ws (n_v vs 0) 117)) (w_fi ws (n_v vs 0) 125) (w_fi ws (n_v vs 0) 49) (w_ei ws (w_ar ws (n_v vs 0) 43)) (w_ei ws (w_ar ws (n_v vs 0) 44)) (w_ei ws (w_ar ws (n_v vs 0) 52)) (w_ei ws (w_ar ws (n_v vs 0) 46)) (v_iv (Value.int x)) k1 k2 k3 k4 k5 k8 k9 d0 d1 d2 f0 g1 f2 f3 f4 f5 f6 f7 f8 f9 f10 f11 f12 f13 f14 f15 f16 f17 f18 f19 f21 f22 hK_0_33 hK_0_34 hK_0_35 hK_0_42 hK_0_43 hK_0_44 hK_0_46 hK_0_52 hK_0_117 kz_0_31 kz_0_32 kz_0_45 kz_0_49 kz_0_125 ex2 ex3
  have nf10 : fc_1 PRD (20, [0], [60, 2, 2, 304, 31, 45, 42, 46]) ws (vs ++ [Value.int x]) := by
    refine ⟨nf_inA hl rfl, sgq_1764 ?_⟩
    · show WYM (w_fi ws (n_v (vs ++ [Value.int x]) 0) 31) (w_fi ws (n_v (vs ++ [Value.int x]) 0) 45) (w_ei ws (w_ar ws (n_v (vs ++ [Value.int x]) 0) 42)) (w_ei ws (w_ar ws (n_v (vs ++ [Value.int x]) 0) 46))
      rw [e_0]
      exact vc_Mo_stOrder_22_10 (v_iv (n_v vs 1)) (v_iv (n_v vs 2)) (v_iv (n_v vs 3)) (v_iv (n_v vs 4)) (v_iv (n_v vs 5)) (v_iv (n_v vs 8)) (v_iv (n_v vs 9)) (w_fi ws (n_v vs 0) 45) (w_ei ws (w_ar ws (n_v vs 0) 42)) (w_fi ws (n_v vs 0) 31) (w_ei ws (w_ar ws (n_v vs 0) 33)) (w_ei ws (w_ar ws (n_v vs 0) 34)) (w_fi ws (n_v vs 0) 32) (w_ei ws (w_ar ws (n_v vs 0) 35)) (w_ei ws (w_ar ws (n_v vs 0) 117)) (w_fi ws (n_v vs 0) 125) (w_fi ws (n_v vs 0) 49) (w_ei ws (w_ar ws (n_v vs 0) 43)) (w_ei ws (w_ar ws (n_v vs 0) 44)) (w_ei ws (w_ar ws (n_v vs 0) 52)) (w_ei ws (w_ar ws (n_v vs 0) 46)) (v_iv (Value.int x)) k1 k2 k3 k4 k5 k8 k9 d0 d1 d2 f0 g1 f2 f3 f4 f5 f6 f7 f8 f9 f10 f11 f12 f13 f14 f15 f16 f17 f18 f19 f21 f22 hK_0_33 hK_0_34 hK_0_35 hK_0_42 hK_0_43 hK_0_44 hK_0_46 hK_0_52 hK_0_117 kz_0_31 kz_0_32 kz_0_45 kz_0_49 kz_0_125 ex2 ex3
  have nf11 : fc_1 PRD (20, [2, 0], [30, -1, 1, 0, 0, -1, 1, 31]) ws (vs ++ [Value.int x]) := by
    refine ⟨nf_inA hl rfl, sgq_553 ?_⟩
    · show 1 * v_iv (n_v (vs ++ [Value.int x]) 2) + ((-1) * w_fi ws (n_v (vs ++ [Value.int x]) 0) 31 + 0) ≤ (-1)
      simp only [e_0, e_2]
      exact vc_Mo_stOrder_22_11 (v_iv (n_v vs 1)) (v_iv (n_v vs 2)) (v_iv (n_v vs 3)) (v_iv (n_v vs 4)) (v_iv (n_v vs 5)) (v_iv (n_v vs 8)) (v_iv (n_v vs 9)) (w_fi ws (n_v vs 0) 45) (w_ei ws (w_ar ws (n_v vs 0) 42)) (w_fi ws (n_v vs 0) 31) (w_ei ws (w_ar ws (n_v vs 0) 33)) (w_ei ws (w_ar ws (n_v vs 0) 34)) (w_fi ws (n_v vs 0) 32) (w_ei ws (w_ar ws (n_v vs 0) 35)) (w_ei ws (w_ar ws (n_v vs 0) 117)) (w_fi ws (n_v vs 0) 125) (w_fi ws (n_v vs 0) 49) (w_ei ws (w_ar ws (n_v vs 0) 43)) (w_ei ws (w_ar ws (n_v vs 0) 44)) (w_ei ws (w_ar ws (n_v vs 0) 52)) (w_ei ws (w_ar ws (n_v vs 0) 46)) (v_iv (Value.int x)) k1 k2 k3 k4 k5 k8 k9 d0 d1 d2 f0 g1 f2 f3 f4 f5 f6 f7 f8 f9 f10 f11 f12 f13 f14 f15 f16 f17 f18 f19 f21 f22 hK_0_33 hK_0_34 hK_0_35 hK_0_42 hK_0_43 hK_0_44 hK_0_46 hK_0_52 hK_0_117 kz_0_31 kz_0_32 kz_0_45 kz_0_49 kz_0_125 ex2 ex3
  have nf12 : fc_1 PRD (20, [3, 0], [30, -1, 1, 0, 0, -1, 1, 31]) ws (vs ++ [Value.int x]) := by
    refine ⟨nf_inA hl rfl, sgq_553 ?_⟩
    · show 1 * v_iv (n_v (vs ++ [Value.int x]) 3) + ((-1) * w_fi ws (n_v (vs ++ [Value.int x]) 0) 31 + 0) ≤ (-1)
      simp only [e_0, e_3]
      exact vc_Mo_stOrder_22_12 (v_iv (n_v vs 1)) (v_iv (n_v vs 2)) (v_iv (n_v vs 3)) (v_iv (n_v vs 4)) (v_iv (n_v vs 5)) (v_iv (n_v vs 8)) (v_iv (n_v vs 9)) (w_fi ws (n_v vs 0) 45) (w_ei ws (w_ar ws (n_v vs 0) 42)) (w_fi ws (n_v vs 0) 31) (w_ei ws (w_ar ws (n_v vs 0) 33)) (w_ei ws (w_ar ws (n_v vs 0) 34)) (w_fi ws (n_v vs 0) 32) (w_ei ws (w_ar ws (n_v vs 0) 35)) (w_ei ws (w_ar ws (n_v vs 0) 117)) (w_fi ws (n_v vs 0) 125) (w_fi ws (n_v vs 0) 49) (w_ei ws (w_ar ws (n_v vs 0) 43)) (w_ei ws (w_ar ws (n_v vs 0) 44)) (w_ei ws (w_ar ws (n_v vs 0) 52)) (w_ei ws (w_ar ws (n_v vs 0) 46)) (v_iv (Value.int x)) k1 k2 k3 k4 k5 k8 k9 d0 d1 d2 f0 g1 f2 f3 f4 f5 f6 f7 f8 f9 f10 f11 f12 f13 f14 f15 f16 f17 f18 f19 f21 f22 hK_0_33 hK_0_34 hK_0_35 hK_0_42 hK_0_43 hK_0_44 hK_0_46 hK_0_52 hK_0_117 kz_0_31 kz_0_32 kz_0_45 kz_0_49 kz_0_125 ex2 ex3
  have nf13 : fc_1 PRD (20, [0, 2], [50, 0, 1, 42, 7, 5, 3, 0, 42, 1, 1, 0, 0]) ws (vs ++ [Value.int x]) := by
    refine ⟨nf_inA hl rfl, sgq_1762 ?_⟩
    · show w_ei ws (w_ar ws (n_v (vs ++ [Value.int x]) 0) 42) (v_iv (n_v (vs ++ [Value.int x]) 2)) ≠ 0
      simp only [e_0, e_2]
      exact vc_Mo_stOrder_22_13 (v_iv (n_v vs 1)) (v_iv (n_v vs 2)) (v_iv (n_v vs 3)) (v_iv (n_v vs 4)) (v_iv (n_v vs 5)) (v_iv (n_v vs 8)) (v_iv (n_v vs 9)) (w_fi ws (n_v vs 0) 45) (w_ei ws (w_ar ws (n_v vs 0) 42)) (w_fi ws (n_v vs 0) 31) (w_ei ws (w_ar ws (n_v vs 0) 33)) (w_ei ws (w_ar ws (n_v vs 0) 34)) (w_fi ws (n_v vs 0) 32) (w_ei ws (w_ar ws (n_v vs 0) 35)) (w_ei ws (w_ar ws (n_v vs 0) 117)) (w_fi ws (n_v vs 0) 125) (w_fi ws (n_v vs 0) 49) (w_ei ws (w_ar ws (n_v vs 0) 43)) (w_ei ws (w_ar ws (n_v vs 0) 44)) (w_ei ws (w_ar ws (n_v vs 0) 52)) (w_ei ws (w_ar ws (n_v vs 0) 46)) (v_iv (Value.int x)) k1 k2 k3 k4 k5 k8 k9 d0 d1 d2 f0 g1 f2 f3 f4 f5 f6 f7 f8 f9 f10 f11 f12 f13 f14 f15 f16 f17 f18 f19 f21 f22 hK_0_33 hK_0_34 hK_0_35 hK_0_42 hK_0_43 hK_0_44 hK_0_46 hK_0_52 hK_0_117 kz_0_31 kz_0_32 kz_0_45 kz_0_49 kz_0_125 ex2 ex3
  have nf14 : fc_1 PRD (20, [1, 0], [50, 1, 0, 1045, 1, 2, 1, 0, 2, 1, 45]) ws (vs ++ [Value.int x]) := by
    refine ⟨nf_inA hl rfl, sgq_1765 ?_⟩
    · show v_iv (n_v (vs ++ [Value.int x]) 1) = w_fi ws (n_v (vs ++ [Value.int x]) 0) 45
      simp only [e_0, e_1]
      exact vc_Mo_stOrder_22_14 (v_iv (n_v vs 1)) (v_iv (n_v vs 2)) (v_iv (n_v vs 3)) (v_iv (n_v vs 4)) (v_iv (n_v vs 5)) (v_iv (n_v vs 8)) (v_iv (n_v vs 9)) (w_fi ws (n_v vs 0) 45) (w_ei ws (w_ar ws (n_v vs 0) 42)) (w_fi ws (n_v vs 0) 31) (w_ei ws (w_ar ws (n_v vs 0) 33)) (w_ei ws (w_ar ws (n_v vs 0) 34)) (w_fi ws (n_v vs 0) 32) (w_ei ws (w_ar ws (n_v vs 0) 35)) (w_ei ws (w_ar ws (n_v vs 0) 117)) (w_fi ws (n_v vs 0) 125) (w_fi ws (n_v vs 0) 49) (w_ei ws (w_ar ws (n_v vs 0) 43)) (w_ei ws (w_ar ws (n_v vs 0) 44)) (w_ei ws (w_ar ws (n_v vs 0) 52)) (w_ei ws (w_ar ws (n_v vs 0) 46)) (v_iv (Value.int x)) k1 k2 k3 k4 k5 k8 k9 d0 d1 d2 f0 g1 f2 f3 f4 f5 f6 f7 f8 f9 f10 f11 f12 f13 f14 f15 f16 f17 f18 f19 f21 f22 hK_0_33 hK_0_34 hK_0_35 hK_0_42 hK_0_43 hK_0_44 hK_0_46 hK_0_52 hK_0_117 kz_0_31 kz_0_32 kz_0_45 kz_0_49 kz_0_125 ex2 ex3
  obtain ⟨x0, e0, _, _⟩ := tv_int t4 rfl
  have e1 : v_iv (n_v vs 4) = x0.toInt := by rw [e0]; rfl
  have ho : sy_ofs (vs ++ [Value.int x]) (12, 4, 0, 0) := by
    refine ⟨x, x0, by rw [List.getElem?_append_right (by rw [hl]; decide), hl]; rfl, ?_, ?_, ?_⟩
    · rw [List.getElem?_append_left (by rw [hl]; decide)]; exact n_v_some (by rw [hl]; decide) e0
    · show x0.toInt + 0 ≤ x.toInt; omega
    · show x.toInt ≤ x0.toInt + 0; omega
  exact ⟨(fun _ h => (by cases h)), [Value.int x], ag_one hx, List.forall_mem_cons.mpr ⟨⟨show (20 : Nat) < 100 from by decide, nf0⟩, List.forall_mem_cons.mpr ⟨⟨show (20 : Nat) < 100 from by decide, nf1⟩, List.forall_mem_cons.mpr ⟨⟨show (20 : Nat) < 100 from by decide, nf2⟩, List.forall_mem_cons.mpr ⟨⟨show (20 : Nat) < 100 from by decide, nf3⟩, List.forall_mem_cons.mpr ⟨⟨show (20 : Nat) < 100 from by decide, nf4⟩, List.forall_mem_cons.mpr ⟨⟨show (20 : Nat) < 100 from by decide, nf5⟩, List.forall_mem_cons.mpr ⟨⟨show (20 : Nat) < 100 from by decide, nf6⟩, List.forall_mem_cons.mpr ⟨⟨show (20 : Nat) < 100 from by decide, nf7⟩, List.forall_mem_cons.mpr ⟨⟨show (20 : Nat) < 100 from by decide, nf8⟩, List.forall_mem_cons.mpr ⟨⟨show (20 : Nat) < 100 from by decide, nf9⟩, List.forall_mem_cons.mpr ⟨⟨show (20 : Nat) < 100 from by decide, nf10⟩, List.forall_mem_cons.mpr ⟨⟨show (20 : Nat) < 100 from by decide, nf11⟩, List.forall_mem_cons.mpr ⟨⟨show (20 : Nat) < 100 from by decide, nf12⟩, List.forall_mem_cons.mpr ⟨⟨show (20 : Nat) < 100 from by decide, nf13⟩, List.forall_mem_cons.mpr ⟨⟨show (20 : Nat) < 100 from by decide, nf14⟩, (fun _ h => (by cases h))⟩⟩⟩⟩⟩⟩⟩⟩⟩⟩⟩⟩⟩⟩⟩, List.forall_mem_cons.mpr ⟨ho, (fun _ h => (by cases h))⟩⟩
set_option maxHeartbeats 4000000 in
theorem vc_Mo_stOrder_23_0 (x1 : Int) (x2 : Int) (x3 : Int) (x4 : Int) (x5 : Int) (x8 : Int) (x9 : Int) (x11 : Int) (wayMany_0 : Int) (drawnNode_0 : Int → Int) (pn_0 : Int) (pt_0 : Int → Int) (ph_0 : Int → Int) (pm_0 : Int) (alive_0 : Int → Int) (row_0 : Int → Int) (rowMany_0 : Int) (onlyPiece_0 : Int) (drawnEdge_0 : Int → Int) (pieceOf_0 : Int → Int) (bestWay_0 : Int → Int) (way_0 : Int → Int) (gx : Int) (k1 : 2 ≤ x1 ∧ x1 ≤ 30) (k2 : 0 ≤ x2 ∧ x2 ≤ 24) (k3 : 0 ≤ x3 ∧ x3 ≤ 24) (k4 : (-2) ≤ x4 ∧ x4 ≤ 26) (k5 : 1 ≤ x5 ∧ x5 ≤ 25) (k8 : 1 ≤ x8 ∧ x8 ≤ 1) (k9 : 1 ≤ x9 ∧ x9 ≤ 29) (k11 : 0 ≤ x11 ∧ x11 ≤ 0) (d0 : x1 + (-4294967296) ≤ x9 ∧ x9 ≤ x1 + (-1)) (d1 : x5 + (-4294967296) ≤ x3 ∧ x3 ≤ x5 + (-1)) (g0 : x9 = wayMany_0) (f1 : x1 ≠ x9) (f2 : x9 < x1) (f3 : x1 ≠ 0) (f4 : x9 ≠ 0) (f5 : drawnNode_0 (x3) ≠ 0) (f6 : 1 * x3 + ((-1) * pn_0 + 0) ≤ (-1)) (f7 : GOK (pn_0) (pm_0) (pt_0) (ph_0)) (f8 : STB (pn_0) (pm_0) (pt_0) (ph_0) (alive_0)) (f9 : STR (pn_0) (rowMany_0) (pt_0) (ph_0) (row_0)) (f10 : onlyPiece_0 = (-1)) (f11 : (-1) * rowMany_0 + ((-1) * x4 + 0) ≤ (-26)) (f12 : DRR (pn_0) (rowMany_0) (drawnNode_0) (row_0)) (f13 : DEM (pm_0) (pt_0) (ph_0) (drawnNode_0) (drawnEdge_0)) (f14 : UA (pm_0) (alive_0) (drawnEdge_0)) (f15 : (rowMany_0 + 1) ≤ pn_0) (f16 : SB1 (pn_0) (pm_0) (onlyPiece_0) (pt_0) (ph_0) (drawnEdge_0) (pieceOf_0) (drawnNode_0) (bestWay_0) (x1) (x2) (x3)) (f17 : 1 * x2 + ((-1) * pn_0 + 0) ≤ (-1)) (f18 : drawnNode_0 (x2) ≠ 0) (f19 : SHP (pn_0) (pm_0) (onlyPiece_0) (wayMany_0) (pt_0) (ph_0) (alive_0) (drawnEdge_0) (pieceOf_0) (drawnNode_0) (way_0) (x2) (x3) (x8)) (f21 : x3 ≠ x2) (f22 : x3 < x5) (hK_0_33 : ∀ j : Int, 0 ≤ j → j < 80 → 0 ≤ pt_0 j ∧ pt_0 j ≤ 24) (hK_0_34 : ∀ j : Int, 0 ≤ j → j < 80 → 0 ≤ ph_0 j ∧ ph_0 j ≤ 24) (hK_0_35 : ∀ j : Int, 0 ≤ j → j < 80 → 0 ≤ alive_0 j ∧ alive_0 j ≤ 1) (hK_0_42 : ∀ j : Int, 0 ≤ j → j < 26 → 0 ≤ drawnNode_0 j ∧ drawnNode_0 j ≤ 1) (hK_0_43 : ∀ j : Int, 0 ≤ j → j < 80 → 0 ≤ drawnEdge_0 j ∧ drawnEdge_0 j ≤ 1) (hK_0_44 : ∀ j : Int, 0 ≤ j → j < 80 → (-1) ≤ pieceOf_0 j ∧ pieceOf_0 j ≤ 79) (hK_0_46 : ∀ j : Int, 0 ≤ j → j < 30 → 0 ≤ way_0 j ∧ way_0 j ≤ 24) (hK_0_52 : ∀ j : Int, 0 ≤ j → j < 30 → 0 ≤ bestWay_0 j ∧ bestWay_0 j ≤ 24) (hK_0_117 : ∀ j : Int, 0 ≤ j → j < 100 → 0 ≤ row_0 j ∧ row_0 j ≤ 75) (kz_0_31 : 0 ≤ pn_0 ∧ pn_0 ≤ 25) (kz_0_32 : 0 ≤ pm_0 ∧ pm_0 ≤ 80) (kz_0_45 : 0 ≤ wayMany_0 ∧ wayMany_0 ≤ 30) (kz_0_49 : (-1) ≤ onlyPiece_0 ∧ onlyPiece_0 ≤ 79) (kz_0_125 : 0 ≤ rowMany_0 ∧ rowMany_0 ≤ 100) (ex2 : gx = 0 + (1 * x4 + 0)) (ex3 : (-2) ≤ gx ∧ gx ≤ 26) : GOK (pn_0) (pm_0) (pt_0) (ph_0) := by
  first
    | assumption
    | exact ‹STB _ _ _ _ _›.1.1
set_option maxHeartbeats 4000000 in
theorem vc_Mo_stOrder_23_1 (x1 : Int) (x2 : Int) (x3 : Int) (x4 : Int) (x5 : Int) (x8 : Int) (x9 : Int) (x11 : Int) (wayMany_0 : Int) (drawnNode_0 : Int → Int) (pn_0 : Int) (pt_0 : Int → Int) (ph_0 : Int → Int) (pm_0 : Int) (alive_0 : Int → Int) (row_0 : Int → Int) (rowMany_0 : Int) (onlyPiece_0 : Int) (drawnEdge_0 : Int → Int) (pieceOf_0 : Int → Int) (bestWay_0 : Int → Int) (way_0 : Int → Int) (gx : Int) (k1 : 2 ≤ x1 ∧ x1 ≤ 30) (k2 : 0 ≤ x2 ∧ x2 ≤ 24) (k3 : 0 ≤ x3 ∧ x3 ≤ 24) (k4 : (-2) ≤ x4 ∧ x4 ≤ 26) (k5 : 1 ≤ x5 ∧ x5 ≤ 25) (k8 : 1 ≤ x8 ∧ x8 ≤ 1) (k9 : 1 ≤ x9 ∧ x9 ≤ 29) (k11 : 0 ≤ x11 ∧ x11 ≤ 0) (d0 : x1 + (-4294967296) ≤ x9 ∧ x9 ≤ x1 + (-1)) (d1 : x5 + (-4294967296) ≤ x3 ∧ x3 ≤ x5 + (-1)) (g0 : x9 = wayMany_0) (f1 : x1 ≠ x9) (f2 : x9 < x1) (f3 : x1 ≠ 0) (f4 : x9 ≠ 0) (f5 : drawnNode_0 (x3) ≠ 0) (f6 : 1 * x3 + ((-1) * pn_0 + 0) ≤ (-1)) (f7 : GOK (pn_0) (pm_0) (pt_0) (ph_0)) (f8 : STB (pn_0) (pm_0) (pt_0) (ph_0) (alive_0)) (f9 : STR (pn_0) (rowMany_0) (pt_0) (ph_0) (row_0)) (f10 : onlyPiece_0 = (-1)) (f11 : (-1) * rowMany_0 + ((-1) * x4 + 0) ≤ (-26)) (f12 : DRR (pn_0) (rowMany_0) (drawnNode_0) (row_0)) (f13 : DEM (pm_0) (pt_0) (ph_0) (drawnNode_0) (drawnEdge_0)) (f14 : UA (pm_0) (alive_0) (drawnEdge_0)) (f15 : (rowMany_0 + 1) ≤ pn_0) (f16 : SB1 (pn_0) (pm_0) (onlyPiece_0) (pt_0) (ph_0) (drawnEdge_0) (pieceOf_0) (drawnNode_0) (bestWay_0) (x1) (x2) (x3)) (f17 : 1 * x2 + ((-1) * pn_0 + 0) ≤ (-1)) (f18 : drawnNode_0 (x2) ≠ 0) (f19 : SHP (pn_0) (pm_0) (onlyPiece_0) (wayMany_0) (pt_0) (ph_0) (alive_0) (drawnEdge_0) (pieceOf_0) (drawnNode_0) (way_0) (x2) (x3) (x8)) (f21 : x3 ≠ x2) (f22 : x3 < x5) (hK_0_33 : ∀ j : Int, 0 ≤ j → j < 80 → 0 ≤ pt_0 j ∧ pt_0 j ≤ 24) (hK_0_34 : ∀ j : Int, 0 ≤ j → j < 80 → 0 ≤ ph_0 j ∧ ph_0 j ≤ 24) (hK_0_35 : ∀ j : Int, 0 ≤ j → j < 80 → 0 ≤ alive_0 j ∧ alive_0 j ≤ 1) (hK_0_42 : ∀ j : Int, 0 ≤ j → j < 26 → 0 ≤ drawnNode_0 j ∧ drawnNode_0 j ≤ 1) (hK_0_43 : ∀ j : Int, 0 ≤ j → j < 80 → 0 ≤ drawnEdge_0 j ∧ drawnEdge_0 j ≤ 1) (hK_0_44 : ∀ j : Int, 0 ≤ j → j < 80 → (-1) ≤ pieceOf_0 j ∧ pieceOf_0 j ≤ 79) (hK_0_46 : ∀ j : Int, 0 ≤ j → j < 30 → 0 ≤ way_0 j ∧ way_0 j ≤ 24) (hK_0_52 : ∀ j : Int, 0 ≤ j → j < 30 → 0 ≤ bestWay_0 j ∧ bestWay_0 j ≤ 24) (hK_0_117 : ∀ j : Int, 0 ≤ j → j < 100 → 0 ≤ row_0 j ∧ row_0 j ≤ 75) (kz_0_31 : 0 ≤ pn_0 ∧ pn_0 ≤ 25) (kz_0_32 : 0 ≤ pm_0 ∧ pm_0 ≤ 80) (kz_0_45 : 0 ≤ wayMany_0 ∧ wayMany_0 ≤ 30) (kz_0_49 : (-1) ≤ onlyPiece_0 ∧ onlyPiece_0 ≤ 79) (kz_0_125 : 0 ≤ rowMany_0 ∧ rowMany_0 ≤ 100) (ex2 : gx = 0 + (1 * x4 + 0)) (ex3 : (-2) ≤ gx ∧ gx ≤ 26) : STB (pn_0) (pm_0) (pt_0) (ph_0) (alive_0) := by
  first | assumption
set_option maxHeartbeats 4000000 in
theorem vc_Mo_stOrder_23_2 (x1 : Int) (x2 : Int) (x3 : Int) (x4 : Int) (x5 : Int) (x8 : Int) (x9 : Int) (x11 : Int) (wayMany_0 : Int) (drawnNode_0 : Int → Int) (pn_0 : Int) (pt_0 : Int → Int) (ph_0 : Int → Int) (pm_0 : Int) (alive_0 : Int → Int) (row_0 : Int → Int) (rowMany_0 : Int) (onlyPiece_0 : Int) (drawnEdge_0 : Int → Int) (pieceOf_0 : Int → Int) (bestWay_0 : Int → Int) (way_0 : Int → Int) (gx : Int) (k1 : 2 ≤ x1 ∧ x1 ≤ 30) (k2 : 0 ≤ x2 ∧ x2 ≤ 24) (k3 : 0 ≤ x3 ∧ x3 ≤ 24) (k4 : (-2) ≤ x4 ∧ x4 ≤ 26) (k5 : 1 ≤ x5 ∧ x5 ≤ 25) (k8 : 1 ≤ x8 ∧ x8 ≤ 1) (k9 : 1 ≤ x9 ∧ x9 ≤ 29) (k11 : 0 ≤ x11 ∧ x11 ≤ 0) (d0 : x1 + (-4294967296) ≤ x9 ∧ x9 ≤ x1 + (-1)) (d1 : x5 + (-4294967296) ≤ x3 ∧ x3 ≤ x5 + (-1)) (g0 : x9 = wayMany_0) (f1 : x1 ≠ x9) (f2 : x9 < x1) (f3 : x1 ≠ 0) (f4 : x9 ≠ 0) (f5 : drawnNode_0 (x3) ≠ 0) (f6 : 1 * x3 + ((-1) * pn_0 + 0) ≤ (-1)) (f7 : GOK (pn_0) (pm_0) (pt_0) (ph_0)) (f8 : STB (pn_0) (pm_0) (pt_0) (ph_0) (alive_0)) (f9 : STR (pn_0) (rowMany_0) (pt_0) (ph_0) (row_0)) (f10 : onlyPiece_0 = (-1)) (f11 : (-1) * rowMany_0 + ((-1) * x4 + 0) ≤ (-26)) (f12 : DRR (pn_0) (rowMany_0) (drawnNode_0) (row_0)) (f13 : DEM (pm_0) (pt_0) (ph_0) (drawnNode_0) (drawnEdge_0)) (f14 : UA (pm_0) (alive_0) (drawnEdge_0)) (f15 : (rowMany_0 + 1) ≤ pn_0) (f16 : SB1 (pn_0) (pm_0) (onlyPiece_0) (pt_0) (ph_0) (drawnEdge_0) (pieceOf_0) (drawnNode_0) (bestWay_0) (x1) (x2) (x3)) (f17 : 1 * x2 + ((-1) * pn_0 + 0) ≤ (-1)) (f18 : drawnNode_0 (x2) ≠ 0) (f19 : SHP (pn_0) (pm_0) (onlyPiece_0) (wayMany_0) (pt_0) (ph_0) (alive_0) (drawnEdge_0) (pieceOf_0) (drawnNode_0) (way_0) (x2) (x3) (x8)) (f21 : x3 ≠ x2) (f22 : x3 < x5) (hK_0_33 : ∀ j : Int, 0 ≤ j → j < 80 → 0 ≤ pt_0 j ∧ pt_0 j ≤ 24) (hK_0_34 : ∀ j : Int, 0 ≤ j → j < 80 → 0 ≤ ph_0 j ∧ ph_0 j ≤ 24) (hK_0_35 : ∀ j : Int, 0 ≤ j → j < 80 → 0 ≤ alive_0 j ∧ alive_0 j ≤ 1) (hK_0_42 : ∀ j : Int, 0 ≤ j → j < 26 → 0 ≤ drawnNode_0 j ∧ drawnNode_0 j ≤ 1) (hK_0_43 : ∀ j : Int, 0 ≤ j → j < 80 → 0 ≤ drawnEdge_0 j ∧ drawnEdge_0 j ≤ 1) (hK_0_44 : ∀ j : Int, 0 ≤ j → j < 80 → (-1) ≤ pieceOf_0 j ∧ pieceOf_0 j ≤ 79) (hK_0_46 : ∀ j : Int, 0 ≤ j → j < 30 → 0 ≤ way_0 j ∧ way_0 j ≤ 24) (hK_0_52 : ∀ j : Int, 0 ≤ j → j < 30 → 0 ≤ bestWay_0 j ∧ bestWay_0 j ≤ 24) (hK_0_117 : ∀ j : Int, 0 ≤ j → j < 100 → 0 ≤ row_0 j ∧ row_0 j ≤ 75) (kz_0_31 : 0 ≤ pn_0 ∧ pn_0 ≤ 25) (kz_0_32 : 0 ≤ pm_0 ∧ pm_0 ≤ 80) (kz_0_45 : 0 ≤ wayMany_0 ∧ wayMany_0 ≤ 30) (kz_0_49 : (-1) ≤ onlyPiece_0 ∧ onlyPiece_0 ≤ 79) (kz_0_125 : 0 ≤ rowMany_0 ∧ rowMany_0 ≤ 100) (ex2 : gx = 0 + (1 * x4 + 0)) (ex3 : (-2) ≤ gx ∧ gx ≤ 26) : STR (pn_0) (rowMany_0) (pt_0) (ph_0) (row_0) := by
  first | assumption
set_option maxHeartbeats 4000000 in
theorem vc_Mo_stOrder_23_3 (x1 : Int) (x2 : Int) (x3 : Int) (x4 : Int) (x5 : Int) (x8 : Int) (x9 : Int) (x11 : Int) (wayMany_0 : Int) (drawnNode_0 : Int → Int) (pn_0 : Int) (pt_0 : Int → Int) (ph_0 : Int → Int) (pm_0 : Int) (alive_0 : Int → Int) (row_0 : Int → Int) (rowMany_0 : Int) (onlyPiece_0 : Int) (drawnEdge_0 : Int → Int) (pieceOf_0 : Int → Int) (bestWay_0 : Int → Int) (way_0 : Int → Int) (gx : Int) (k1 : 2 ≤ x1 ∧ x1 ≤ 30) (k2 : 0 ≤ x2 ∧ x2 ≤ 24) (k3 : 0 ≤ x3 ∧ x3 ≤ 24) (k4 : (-2) ≤ x4 ∧ x4 ≤ 26) (k5 : 1 ≤ x5 ∧ x5 ≤ 25) (k8 : 1 ≤ x8 ∧ x8 ≤ 1) (k9 : 1 ≤ x9 ∧ x9 ≤ 29) (k11 : 0 ≤ x11 ∧ x11 ≤ 0) (d0 : x1 + (-4294967296) ≤ x9 ∧ x9 ≤ x1 + (-1)) (d1 : x5 + (-4294967296) ≤ x3 ∧ x3 ≤ x5 + (-1)) (g0 : x9 = wayMany_0) (f1 : x1 ≠ x9) (f2 : x9 < x1) (f3 : x1 ≠ 0) (f4 : x9 ≠ 0) (f5 : drawnNode_0 (x3) ≠ 0) (f6 : 1 * x3 + ((-1) * pn_0 + 0) ≤ (-1)) (f7 : GOK (pn_0) (pm_0) (pt_0) (ph_0)) (f8 : STB (pn_0) (pm_0) (pt_0) (ph_0) (alive_0)) (f9 : STR (pn_0) (rowMany_0) (pt_0) (ph_0) (row_0)) (f10 : onlyPiece_0 = (-1)) (f11 : (-1) * rowMany_0 + ((-1) * x4 + 0) ≤ (-26)) (f12 : DRR (pn_0) (rowMany_0) (drawnNode_0) (row_0)) (f13 : DEM (pm_0) (pt_0) (ph_0) (drawnNode_0) (drawnEdge_0)) (f14 : UA (pm_0) (alive_0) (drawnEdge_0)) (f15 : (rowMany_0 + 1) ≤ pn_0) (f16 : SB1 (pn_0) (pm_0) (onlyPiece_0) (pt_0) (ph_0) (drawnEdge_0) (pieceOf_0) (drawnNode_0) (bestWay_0) (x1) (x2) (x3)) (f17 : 1 * x2 + ((-1) * pn_0 + 0) ≤ (-1)) (f18 : drawnNode_0 (x2) ≠ 0) (f19 : SHP (pn_0) (pm_0) (onlyPiece_0) (wayMany_0) (pt_0) (ph_0) (alive_0) (drawnEdge_0) (pieceOf_0) (drawnNode_0) (way_0) (x2) (x3) (x8)) (f21 : x3 ≠ x2) (f22 : x3 < x5) (hK_0_33 : ∀ j : Int, 0 ≤ j → j < 80 → 0 ≤ pt_0 j ∧ pt_0 j ≤ 24) (hK_0_34 : ∀ j : Int, 0 ≤ j → j < 80 → 0 ≤ ph_0 j ∧ ph_0 j ≤ 24) (hK_0_35 : ∀ j : Int, 0 ≤ j → j < 80 → 0 ≤ alive_0 j ∧ alive_0 j ≤ 1) (hK_0_42 : ∀ j : Int, 0 ≤ j → j < 26 → 0 ≤ drawnNode_0 j ∧ drawnNode_0 j ≤ 1) (hK_0_43 : ∀ j : Int, 0 ≤ j → j < 80 → 0 ≤ drawnEdge_0 j ∧ drawnEdge_0 j ≤ 1) (hK_0_44 : ∀ j : Int, 0 ≤ j → j < 80 → (-1) ≤ pieceOf_0 j ∧ pieceOf_0 j ≤ 79) (hK_0_46 : ∀ j : Int, 0 ≤ j → j < 30 → 0 ≤ way_0 j ∧ way_0 j ≤ 24) (hK_0_52 : ∀ j : Int, 0 ≤ j → j < 30 → 0 ≤ bestWay_0 j ∧ bestWay_0 j ≤ 24) (hK_0_117 : ∀ j : Int, 0 ≤ j → j < 100 → 0 ≤ row_0 j ∧ row_0 j ≤ 75) (kz_0_31 : 0 ≤ pn_0 ∧ pn_0 ≤ 25) (kz_0_32 : 0 ≤ pm_0 ∧ pm_0 ≤ 80) (kz_0_45 : 0 ≤ wayMany_0 ∧ wayMany_0 ≤ 30) (kz_0_49 : (-1) ≤ onlyPiece_0 ∧ onlyPiece_0 ≤ 79) (kz_0_125 : 0 ≤ rowMany_0 ∧ rowMany_0 ≤ 100) (ex2 : gx = 0 + (1 * x4 + 0)) (ex3 : (-2) ≤ gx ∧ gx ≤ 26) : onlyPiece_0 = (-1) := by
  first
    | omega
    | (have h := ‹STB _ _ _ _ _›.1.2.2; omega)
    | (have h := ‹STR _ _ _ _ _›.1; omega)
    | (have h := ‹STR _ _ _ _ _›.1
       have w := ‹STR _ _ _ _ _›.2.1 x1 (by omega) (by omega)
       omega)
    | (have h := bc_len ‹BC1 _ _ _ _ _ _ _›
       have h2 := ‹STR _ _ _ _ _›.1
       omega)
    | (have h := (sb_way ‹SB1 _ _ _ _ _ _ _ _ _ _ _ _› (by omega)).1
       have h2 := ‹STR _ _ _ _ _›.1
       omega)
    | (have h := ‹WYM _ _ _ _›.1
       have h2 := ‹STR _ _ _ _ _›.1
       omega)
set_option maxHeartbeats 4000000 in
theorem vc_Mo_stOrder_23_4 (x1 : Int) (x2 : Int) (x3 : Int) (x4 : Int) (x5 : Int) (x8 : Int) (x9 : Int) (x11 : Int) (wayMany_0 : Int) (drawnNode_0 : Int → Int) (pn_0 : Int) (pt_0 : Int → Int) (ph_0 : Int → Int) (pm_0 : Int) (alive_0 : Int → Int) (row_0 : Int → Int) (rowMany_0 : Int) (onlyPiece_0 : Int) (drawnEdge_0 : Int → Int) (pieceOf_0 : Int → Int) (bestWay_0 : Int → Int) (way_0 : Int → Int) (gx : Int) (k1 : 2 ≤ x1 ∧ x1 ≤ 30) (k2 : 0 ≤ x2 ∧ x2 ≤ 24) (k3 : 0 ≤ x3 ∧ x3 ≤ 24) (k4 : (-2) ≤ x4 ∧ x4 ≤ 26) (k5 : 1 ≤ x5 ∧ x5 ≤ 25) (k8 : 1 ≤ x8 ∧ x8 ≤ 1) (k9 : 1 ≤ x9 ∧ x9 ≤ 29) (k11 : 0 ≤ x11 ∧ x11 ≤ 0) (d0 : x1 + (-4294967296) ≤ x9 ∧ x9 ≤ x1 + (-1)) (d1 : x5 + (-4294967296) ≤ x3 ∧ x3 ≤ x5 + (-1)) (g0 : x9 = wayMany_0) (f1 : x1 ≠ x9) (f2 : x9 < x1) (f3 : x1 ≠ 0) (f4 : x9 ≠ 0) (f5 : drawnNode_0 (x3) ≠ 0) (f6 : 1 * x3 + ((-1) * pn_0 + 0) ≤ (-1)) (f7 : GOK (pn_0) (pm_0) (pt_0) (ph_0)) (f8 : STB (pn_0) (pm_0) (pt_0) (ph_0) (alive_0)) (f9 : STR (pn_0) (rowMany_0) (pt_0) (ph_0) (row_0)) (f10 : onlyPiece_0 = (-1)) (f11 : (-1) * rowMany_0 + ((-1) * x4 + 0) ≤ (-26)) (f12 : DRR (pn_0) (rowMany_0) (drawnNode_0) (row_0)) (f13 : DEM (pm_0) (pt_0) (ph_0) (drawnNode_0) (drawnEdge_0)) (f14 : UA (pm_0) (alive_0) (drawnEdge_0)) (f15 : (rowMany_0 + 1) ≤ pn_0) (f16 : SB1 (pn_0) (pm_0) (onlyPiece_0) (pt_0) (ph_0) (drawnEdge_0) (pieceOf_0) (drawnNode_0) (bestWay_0) (x1) (x2) (x3)) (f17 : 1 * x2 + ((-1) * pn_0 + 0) ≤ (-1)) (f18 : drawnNode_0 (x2) ≠ 0) (f19 : SHP (pn_0) (pm_0) (onlyPiece_0) (wayMany_0) (pt_0) (ph_0) (alive_0) (drawnEdge_0) (pieceOf_0) (drawnNode_0) (way_0) (x2) (x3) (x8)) (f21 : x3 ≠ x2) (f22 : x3 < x5) (hK_0_33 : ∀ j : Int, 0 ≤ j → j < 80 → 0 ≤ pt_0 j ∧ pt_0 j ≤ 24) (hK_0_34 : ∀ j : Int, 0 ≤ j → j < 80 → 0 ≤ ph_0 j ∧ ph_0 j ≤ 24) (hK_0_35 : ∀ j : Int, 0 ≤ j → j < 80 → 0 ≤ alive_0 j ∧ alive_0 j ≤ 1) (hK_0_42 : ∀ j : Int, 0 ≤ j → j < 26 → 0 ≤ drawnNode_0 j ∧ drawnNode_0 j ≤ 1) (hK_0_43 : ∀ j : Int, 0 ≤ j → j < 80 → 0 ≤ drawnEdge_0 j ∧ drawnEdge_0 j ≤ 1) (hK_0_44 : ∀ j : Int, 0 ≤ j → j < 80 → (-1) ≤ pieceOf_0 j ∧ pieceOf_0 j ≤ 79) (hK_0_46 : ∀ j : Int, 0 ≤ j → j < 30 → 0 ≤ way_0 j ∧ way_0 j ≤ 24) (hK_0_52 : ∀ j : Int, 0 ≤ j → j < 30 → 0 ≤ bestWay_0 j ∧ bestWay_0 j ≤ 24) (hK_0_117 : ∀ j : Int, 0 ≤ j → j < 100 → 0 ≤ row_0 j ∧ row_0 j ≤ 75) (kz_0_31 : 0 ≤ pn_0 ∧ pn_0 ≤ 25) (kz_0_32 : 0 ≤ pm_0 ∧ pm_0 ≤ 80) (kz_0_45 : 0 ≤ wayMany_0 ∧ wayMany_0 ≤ 30) (kz_0_49 : (-1) ≤ onlyPiece_0 ∧ onlyPiece_0 ≤ 79) (kz_0_125 : 0 ≤ rowMany_0 ∧ rowMany_0 ≤ 100) (ex2 : gx = 0 + (1 * x4 + 0)) (ex3 : (-2) ≤ gx ∧ gx ≤ 26) : (-1) * rowMany_0 + ((-1) * gx + 0) ≤ (-26) := by
  first
    | omega
    | (have h := ‹STB _ _ _ _ _›.1.2.2; omega)
    | (have h := ‹STR _ _ _ _ _›.1; omega)
    | (have h := ‹STR _ _ _ _ _›.1
       have w := ‹STR _ _ _ _ _›.2.1 x1 (by omega) (by omega)
       omega)
    | (have h := bc_len ‹BC1 _ _ _ _ _ _ _›
       have h2 := ‹STR _ _ _ _ _›.1
       omega)
    | (have h := (sb_way ‹SB1 _ _ _ _ _ _ _ _ _ _ _ _› (by omega)).1
       have h2 := ‹STR _ _ _ _ _›.1
       omega)
    | (have h := ‹WYM _ _ _ _›.1
       have h2 := ‹STR _ _ _ _ _›.1
       omega)
set_option maxHeartbeats 4000000 in
theorem vc_Mo_stOrder_23_5 (x1 : Int) (x2 : Int) (x3 : Int) (x4 : Int) (x5 : Int) (x8 : Int) (x9 : Int) (x11 : Int) (wayMany_0 : Int) (drawnNode_0 : Int → Int) (pn_0 : Int) (pt_0 : Int → Int) (ph_0 : Int → Int) (pm_0 : Int) (alive_0 : Int → Int) (row_0 : Int → Int) (rowMany_0 : Int) (onlyPiece_0 : Int) (drawnEdge_0 : Int → Int) (pieceOf_0 : Int → Int) (bestWay_0 : Int → Int) (way_0 : Int → Int) (gx : Int) (k1 : 2 ≤ x1 ∧ x1 ≤ 30) (k2 : 0 ≤ x2 ∧ x2 ≤ 24) (k3 : 0 ≤ x3 ∧ x3 ≤ 24) (k4 : (-2) ≤ x4 ∧ x4 ≤ 26) (k5 : 1 ≤ x5 ∧ x5 ≤ 25) (k8 : 1 ≤ x8 ∧ x8 ≤ 1) (k9 : 1 ≤ x9 ∧ x9 ≤ 29) (k11 : 0 ≤ x11 ∧ x11 ≤ 0) (d0 : x1 + (-4294967296) ≤ x9 ∧ x9 ≤ x1 + (-1)) (d1 : x5 + (-4294967296) ≤ x3 ∧ x3 ≤ x5 + (-1)) (g0 : x9 = wayMany_0) (f1 : x1 ≠ x9) (f2 : x9 < x1) (f3 : x1 ≠ 0) (f4 : x9 ≠ 0) (f5 : drawnNode_0 (x3) ≠ 0) (f6 : 1 * x3 + ((-1) * pn_0 + 0) ≤ (-1)) (f7 : GOK (pn_0) (pm_0) (pt_0) (ph_0)) (f8 : STB (pn_0) (pm_0) (pt_0) (ph_0) (alive_0)) (f9 : STR (pn_0) (rowMany_0) (pt_0) (ph_0) (row_0)) (f10 : onlyPiece_0 = (-1)) (f11 : (-1) * rowMany_0 + ((-1) * x4 + 0) ≤ (-26)) (f12 : DRR (pn_0) (rowMany_0) (drawnNode_0) (row_0)) (f13 : DEM (pm_0) (pt_0) (ph_0) (drawnNode_0) (drawnEdge_0)) (f14 : UA (pm_0) (alive_0) (drawnEdge_0)) (f15 : (rowMany_0 + 1) ≤ pn_0) (f16 : SB1 (pn_0) (pm_0) (onlyPiece_0) (pt_0) (ph_0) (drawnEdge_0) (pieceOf_0) (drawnNode_0) (bestWay_0) (x1) (x2) (x3)) (f17 : 1 * x2 + ((-1) * pn_0 + 0) ≤ (-1)) (f18 : drawnNode_0 (x2) ≠ 0) (f19 : SHP (pn_0) (pm_0) (onlyPiece_0) (wayMany_0) (pt_0) (ph_0) (alive_0) (drawnEdge_0) (pieceOf_0) (drawnNode_0) (way_0) (x2) (x3) (x8)) (f21 : x3 ≠ x2) (f22 : x3 < x5) (hK_0_33 : ∀ j : Int, 0 ≤ j → j < 80 → 0 ≤ pt_0 j ∧ pt_0 j ≤ 24) (hK_0_34 : ∀ j : Int, 0 ≤ j → j < 80 → 0 ≤ ph_0 j ∧ ph_0 j ≤ 24) (hK_0_35 : ∀ j : Int, 0 ≤ j → j < 80 → 0 ≤ alive_0 j ∧ alive_0 j ≤ 1) (hK_0_42 : ∀ j : Int, 0 ≤ j → j < 26 → 0 ≤ drawnNode_0 j ∧ drawnNode_0 j ≤ 1) (hK_0_43 : ∀ j : Int, 0 ≤ j → j < 80 → 0 ≤ drawnEdge_0 j ∧ drawnEdge_0 j ≤ 1) (hK_0_44 : ∀ j : Int, 0 ≤ j → j < 80 → (-1) ≤ pieceOf_0 j ∧ pieceOf_0 j ≤ 79) (hK_0_46 : ∀ j : Int, 0 ≤ j → j < 30 → 0 ≤ way_0 j ∧ way_0 j ≤ 24) (hK_0_52 : ∀ j : Int, 0 ≤ j → j < 30 → 0 ≤ bestWay_0 j ∧ bestWay_0 j ≤ 24) (hK_0_117 : ∀ j : Int, 0 ≤ j → j < 100 → 0 ≤ row_0 j ∧ row_0 j ≤ 75) (kz_0_31 : 0 ≤ pn_0 ∧ pn_0 ≤ 25) (kz_0_32 : 0 ≤ pm_0 ∧ pm_0 ≤ 80) (kz_0_45 : 0 ≤ wayMany_0 ∧ wayMany_0 ≤ 30) (kz_0_49 : (-1) ≤ onlyPiece_0 ∧ onlyPiece_0 ≤ 79) (kz_0_125 : 0 ≤ rowMany_0 ∧ rowMany_0 ≤ 100) (ex2 : gx = 0 + (1 * x4 + 0)) (ex3 : (-2) ≤ gx ∧ gx ≤ 26) : DRR (pn_0) (rowMany_0) (drawnNode_0) (row_0) := by
  first | assumption
set_option maxHeartbeats 4000000 in
theorem vc_Mo_stOrder_23_6 (x1 : Int) (x2 : Int) (x3 : Int) (x4 : Int) (x5 : Int) (x8 : Int) (x9 : Int) (x11 : Int) (wayMany_0 : Int) (drawnNode_0 : Int → Int) (pn_0 : Int) (pt_0 : Int → Int) (ph_0 : Int → Int) (pm_0 : Int) (alive_0 : Int → Int) (row_0 : Int → Int) (rowMany_0 : Int) (onlyPiece_0 : Int) (drawnEdge_0 : Int → Int) (pieceOf_0 : Int → Int) (bestWay_0 : Int → Int) (way_0 : Int → Int) (gx : Int) (k1 : 2 ≤ x1 ∧ x1 ≤ 30) (k2 : 0 ≤ x2 ∧ x2 ≤ 24) (k3 : 0 ≤ x3 ∧ x3 ≤ 24) (k4 : (-2) ≤ x4 ∧ x4 ≤ 26) (k5 : 1 ≤ x5 ∧ x5 ≤ 25) (k8 : 1 ≤ x8 ∧ x8 ≤ 1) (k9 : 1 ≤ x9 ∧ x9 ≤ 29) (k11 : 0 ≤ x11 ∧ x11 ≤ 0) (d0 : x1 + (-4294967296) ≤ x9 ∧ x9 ≤ x1 + (-1)) (d1 : x5 + (-4294967296) ≤ x3 ∧ x3 ≤ x5 + (-1)) (g0 : x9 = wayMany_0) (f1 : x1 ≠ x9) (f2 : x9 < x1) (f3 : x1 ≠ 0) (f4 : x9 ≠ 0) (f5 : drawnNode_0 (x3) ≠ 0) (f6 : 1 * x3 + ((-1) * pn_0 + 0) ≤ (-1)) (f7 : GOK (pn_0) (pm_0) (pt_0) (ph_0)) (f8 : STB (pn_0) (pm_0) (pt_0) (ph_0) (alive_0)) (f9 : STR (pn_0) (rowMany_0) (pt_0) (ph_0) (row_0)) (f10 : onlyPiece_0 = (-1)) (f11 : (-1) * rowMany_0 + ((-1) * x4 + 0) ≤ (-26)) (f12 : DRR (pn_0) (rowMany_0) (drawnNode_0) (row_0)) (f13 : DEM (pm_0) (pt_0) (ph_0) (drawnNode_0) (drawnEdge_0)) (f14 : UA (pm_0) (alive_0) (drawnEdge_0)) (f15 : (rowMany_0 + 1) ≤ pn_0) (f16 : SB1 (pn_0) (pm_0) (onlyPiece_0) (pt_0) (ph_0) (drawnEdge_0) (pieceOf_0) (drawnNode_0) (bestWay_0) (x1) (x2) (x3)) (f17 : 1 * x2 + ((-1) * pn_0 + 0) ≤ (-1)) (f18 : drawnNode_0 (x2) ≠ 0) (f19 : SHP (pn_0) (pm_0) (onlyPiece_0) (wayMany_0) (pt_0) (ph_0) (alive_0) (drawnEdge_0) (pieceOf_0) (drawnNode_0) (way_0) (x2) (x3) (x8)) (f21 : x3 ≠ x2) (f22 : x3 < x5) (hK_0_33 : ∀ j : Int, 0 ≤ j → j < 80 → 0 ≤ pt_0 j ∧ pt_0 j ≤ 24) (hK_0_34 : ∀ j : Int, 0 ≤ j → j < 80 → 0 ≤ ph_0 j ∧ ph_0 j ≤ 24) (hK_0_35 : ∀ j : Int, 0 ≤ j → j < 80 → 0 ≤ alive_0 j ∧ alive_0 j ≤ 1) (hK_0_42 : ∀ j : Int, 0 ≤ j → j < 26 → 0 ≤ drawnNode_0 j ∧ drawnNode_0 j ≤ 1) (hK_0_43 : ∀ j : Int, 0 ≤ j → j < 80 → 0 ≤ drawnEdge_0 j ∧ drawnEdge_0 j ≤ 1) (hK_0_44 : ∀ j : Int, 0 ≤ j → j < 80 → (-1) ≤ pieceOf_0 j ∧ pieceOf_0 j ≤ 79) (hK_0_46 : ∀ j : Int, 0 ≤ j → j < 30 → 0 ≤ way_0 j ∧ way_0 j ≤ 24) (hK_0_52 : ∀ j : Int, 0 ≤ j → j < 30 → 0 ≤ bestWay_0 j ∧ bestWay_0 j ≤ 24) (hK_0_117 : ∀ j : Int, 0 ≤ j → j < 100 → 0 ≤ row_0 j ∧ row_0 j ≤ 75) (kz_0_31 : 0 ≤ pn_0 ∧ pn_0 ≤ 25) (kz_0_32 : 0 ≤ pm_0 ∧ pm_0 ≤ 80) (kz_0_45 : 0 ≤ wayMany_0 ∧ wayMany_0 ≤ 30) (kz_0_49 : (-1) ≤ onlyPiece_0 ∧ onlyPiece_0 ≤ 79) (kz_0_125 : 0 ≤ rowMany_0 ∧ rowMany_0 ≤ 100) (ex2 : gx = 0 + (1 * x4 + 0)) (ex3 : (-2) ≤ gx ∧ gx ≤ 26) : DEM (pm_0) (pt_0) (ph_0) (drawnNode_0) (drawnEdge_0) := by
  first | assumption
set_option maxHeartbeats 4000000 in
theorem vc_Mo_stOrder_23_7 (x1 : Int) (x2 : Int) (x3 : Int) (x4 : Int) (x5 : Int) (x8 : Int) (x9 : Int) (x11 : Int) (wayMany_0 : Int) (drawnNode_0 : Int → Int) (pn_0 : Int) (pt_0 : Int → Int) (ph_0 : Int → Int) (pm_0 : Int) (alive_0 : Int → Int) (row_0 : Int → Int) (rowMany_0 : Int) (onlyPiece_0 : Int) (drawnEdge_0 : Int → Int) (pieceOf_0 : Int → Int) (bestWay_0 : Int → Int) (way_0 : Int → Int) (gx : Int) (k1 : 2 ≤ x1 ∧ x1 ≤ 30) (k2 : 0 ≤ x2 ∧ x2 ≤ 24) (k3 : 0 ≤ x3 ∧ x3 ≤ 24) (k4 : (-2) ≤ x4 ∧ x4 ≤ 26) (k5 : 1 ≤ x5 ∧ x5 ≤ 25) (k8 : 1 ≤ x8 ∧ x8 ≤ 1) (k9 : 1 ≤ x9 ∧ x9 ≤ 29) (k11 : 0 ≤ x11 ∧ x11 ≤ 0) (d0 : x1 + (-4294967296) ≤ x9 ∧ x9 ≤ x1 + (-1)) (d1 : x5 + (-4294967296) ≤ x3 ∧ x3 ≤ x5 + (-1)) (g0 : x9 = wayMany_0) (f1 : x1 ≠ x9) (f2 : x9 < x1) (f3 : x1 ≠ 0) (f4 : x9 ≠ 0) (f5 : drawnNode_0 (x3) ≠ 0) (f6 : 1 * x3 + ((-1) * pn_0 + 0) ≤ (-1)) (f7 : GOK (pn_0) (pm_0) (pt_0) (ph_0)) (f8 : STB (pn_0) (pm_0) (pt_0) (ph_0) (alive_0)) (f9 : STR (pn_0) (rowMany_0) (pt_0) (ph_0) (row_0)) (f10 : onlyPiece_0 = (-1)) (f11 : (-1) * rowMany_0 + ((-1) * x4 + 0) ≤ (-26)) (f12 : DRR (pn_0) (rowMany_0) (drawnNode_0) (row_0)) (f13 : DEM (pm_0) (pt_0) (ph_0) (drawnNode_0) (drawnEdge_0)) (f14 : UA (pm_0) (alive_0) (drawnEdge_0)) (f15 : (rowMany_0 + 1) ≤ pn_0) (f16 : SB1 (pn_0) (pm_0) (onlyPiece_0) (pt_0) (ph_0) (drawnEdge_0) (pieceOf_0) (drawnNode_0) (bestWay_0) (x1) (x2) (x3)) (f17 : 1 * x2 + ((-1) * pn_0 + 0) ≤ (-1)) (f18 : drawnNode_0 (x2) ≠ 0) (f19 : SHP (pn_0) (pm_0) (onlyPiece_0) (wayMany_0) (pt_0) (ph_0) (alive_0) (drawnEdge_0) (pieceOf_0) (drawnNode_0) (way_0) (x2) (x3) (x8)) (f21 : x3 ≠ x2) (f22 : x3 < x5) (hK_0_33 : ∀ j : Int, 0 ≤ j → j < 80 → 0 ≤ pt_0 j ∧ pt_0 j ≤ 24) (hK_0_34 : ∀ j : Int, 0 ≤ j → j < 80 → 0 ≤ ph_0 j ∧ ph_0 j ≤ 24) (hK_0_35 : ∀ j : Int, 0 ≤ j → j < 80 → 0 ≤ alive_0 j ∧ alive_0 j ≤ 1) (hK_0_42 : ∀ j : Int, 0 ≤ j → j < 26 → 0 ≤ drawnNode_0 j ∧ drawnNode_0 j ≤ 1) (hK_0_43 : ∀ j : Int, 0 ≤ j → j < 80 → 0 ≤ drawnEdge_0 j ∧ drawnEdge_0 j ≤ 1) (hK_0_44 : ∀ j : Int, 0 ≤ j → j < 80 → (-1) ≤ pieceOf_0 j ∧ pieceOf_0 j ≤ 79) (hK_0_46 : ∀ j : Int, 0 ≤ j → j < 30 → 0 ≤ way_0 j ∧ way_0 j ≤ 24) (hK_0_52 : ∀ j : Int, 0 ≤ j → j < 30 → 0 ≤ bestWay_0 j ∧ bestWay_0 j ≤ 24) (hK_0_117 : ∀ j : Int, 0 ≤ j → j < 100 → 0 ≤ row_0 j ∧ row_0 j ≤ 75) (kz_0_31 : 0 ≤ pn_0 ∧ pn_0 ≤ 25) (kz_0_32 : 0 ≤ pm_0 ∧ pm_0 ≤ 80) (kz_0_45 : 0 ≤ wayMany_0 ∧ wayMany_0 ≤ 30) (kz_0_49 : (-1) ≤ onlyPiece_0 ∧ onlyPiece_0 ≤ 79) (kz_0_125 : 0 ≤ rowMany_0 ∧ rowMany_0 ≤ 100) (ex2 : gx = 0 + (1 * x4 + 0)) (ex3 : (-2) ≤ gx ∧ gx ≤ 26) : UA (pm_0) (alive_0) (drawnEdge_0) := by
  first | assumption
set_option maxHeartbeats 4000000 in
theorem vc_Mo_stOrder_23_8 (x1 : Int) (x2 : Int) (x3 : Int) (x4 : Int) (x5 : Int) (x8 : Int) (x9 : Int) (x11 : Int) (wayMany_0 : Int) (drawnNode_0 : Int → Int) (pn_0 : Int) (pt_0 : Int → Int) (ph_0 : Int → Int) (pm_0 : Int) (alive_0 : Int → Int) (row_0 : Int → Int) (rowMany_0 : Int) (onlyPiece_0 : Int) (drawnEdge_0 : Int → Int) (pieceOf_0 : Int → Int) (bestWay_0 : Int → Int) (way_0 : Int → Int) (gx : Int) (k1 : 2 ≤ x1 ∧ x1 ≤ 30) (k2 : 0 ≤ x2 ∧ x2 ≤ 24) (k3 : 0 ≤ x3 ∧ x3 ≤ 24) (k4 : (-2) ≤ x4 ∧ x4 ≤ 26) (k5 : 1 ≤ x5 ∧ x5 ≤ 25) (k8 : 1 ≤ x8 ∧ x8 ≤ 1) (k9 : 1 ≤ x9 ∧ x9 ≤ 29) (k11 : 0 ≤ x11 ∧ x11 ≤ 0) (d0 : x1 + (-4294967296) ≤ x9 ∧ x9 ≤ x1 + (-1)) (d1 : x5 + (-4294967296) ≤ x3 ∧ x3 ≤ x5 + (-1)) (g0 : x9 = wayMany_0) (f1 : x1 ≠ x9) (f2 : x9 < x1) (f3 : x1 ≠ 0) (f4 : x9 ≠ 0) (f5 : drawnNode_0 (x3) ≠ 0) (f6 : 1 * x3 + ((-1) * pn_0 + 0) ≤ (-1)) (f7 : GOK (pn_0) (pm_0) (pt_0) (ph_0)) (f8 : STB (pn_0) (pm_0) (pt_0) (ph_0) (alive_0)) (f9 : STR (pn_0) (rowMany_0) (pt_0) (ph_0) (row_0)) (f10 : onlyPiece_0 = (-1)) (f11 : (-1) * rowMany_0 + ((-1) * x4 + 0) ≤ (-26)) (f12 : DRR (pn_0) (rowMany_0) (drawnNode_0) (row_0)) (f13 : DEM (pm_0) (pt_0) (ph_0) (drawnNode_0) (drawnEdge_0)) (f14 : UA (pm_0) (alive_0) (drawnEdge_0)) (f15 : (rowMany_0 + 1) ≤ pn_0) (f16 : SB1 (pn_0) (pm_0) (onlyPiece_0) (pt_0) (ph_0) (drawnEdge_0) (pieceOf_0) (drawnNode_0) (bestWay_0) (x1) (x2) (x3)) (f17 : 1 * x2 + ((-1) * pn_0 + 0) ≤ (-1)) (f18 : drawnNode_0 (x2) ≠ 0) (f19 : SHP (pn_0) (pm_0) (onlyPiece_0) (wayMany_0) (pt_0) (ph_0) (alive_0) (drawnEdge_0) (pieceOf_0) (drawnNode_0) (way_0) (x2) (x3) (x8)) (f21 : x3 ≠ x2) (f22 : x3 < x5) (hK_0_33 : ∀ j : Int, 0 ≤ j → j < 80 → 0 ≤ pt_0 j ∧ pt_0 j ≤ 24) (hK_0_34 : ∀ j : Int, 0 ≤ j → j < 80 → 0 ≤ ph_0 j ∧ ph_0 j ≤ 24) (hK_0_35 : ∀ j : Int, 0 ≤ j → j < 80 → 0 ≤ alive_0 j ∧ alive_0 j ≤ 1) (hK_0_42 : ∀ j : Int, 0 ≤ j → j < 26 → 0 ≤ drawnNode_0 j ∧ drawnNode_0 j ≤ 1) (hK_0_43 : ∀ j : Int, 0 ≤ j → j < 80 → 0 ≤ drawnEdge_0 j ∧ drawnEdge_0 j ≤ 1) (hK_0_44 : ∀ j : Int, 0 ≤ j → j < 80 → (-1) ≤ pieceOf_0 j ∧ pieceOf_0 j ≤ 79) (hK_0_46 : ∀ j : Int, 0 ≤ j → j < 30 → 0 ≤ way_0 j ∧ way_0 j ≤ 24) (hK_0_52 : ∀ j : Int, 0 ≤ j → j < 30 → 0 ≤ bestWay_0 j ∧ bestWay_0 j ≤ 24) (hK_0_117 : ∀ j : Int, 0 ≤ j → j < 100 → 0 ≤ row_0 j ∧ row_0 j ≤ 75) (kz_0_31 : 0 ≤ pn_0 ∧ pn_0 ≤ 25) (kz_0_32 : 0 ≤ pm_0 ∧ pm_0 ≤ 80) (kz_0_45 : 0 ≤ wayMany_0 ∧ wayMany_0 ≤ 30) (kz_0_49 : (-1) ≤ onlyPiece_0 ∧ onlyPiece_0 ≤ 79) (kz_0_125 : 0 ≤ rowMany_0 ∧ rowMany_0 ≤ 100) (ex2 : gx = 0 + (1 * x4 + 0)) (ex3 : (-2) ≤ gx ∧ gx ≤ 26) : (rowMany_0 + 1) ≤ pn_0 := by
  first
    | omega
    | (have h := ‹STB _ _ _ _ _›.1.2.2; omega)
    | (have h := ‹STR _ _ _ _ _›.1; omega)
    | (have h := ‹STR _ _ _ _ _›.1
       have w := ‹STR _ _ _ _ _›.2.1 x1 (by omega) (by omega)
       omega)
    | (have h := bc_len ‹BC1 _ _ _ _ _ _ _›
       have h2 := ‹STR _ _ _ _ _›.1
       omega)
    | (have h := (sb_way ‹SB1 _ _ _ _ _ _ _ _ _ _ _ _› (by omega)).1
       have h2 := ‹STR _ _ _ _ _›.1
       omega)
    | (have h := ‹WYM _ _ _ _›.1
       have h2 := ‹STR _ _ _ _ _›.1
       omega)
set_option maxHeartbeats 4000000 in
theorem vc_Mo_stOrder_23_9 (x1 : Int) (x2 : Int) (x3 : Int) (x4 : Int) (x5 : Int) (x8 : Int) (x9 : Int) (x11 : Int) (wayMany_0 : Int) (drawnNode_0 : Int → Int) (pn_0 : Int) (pt_0 : Int → Int) (ph_0 : Int → Int) (pm_0 : Int) (alive_0 : Int → Int) (row_0 : Int → Int) (rowMany_0 : Int) (onlyPiece_0 : Int) (drawnEdge_0 : Int → Int) (pieceOf_0 : Int → Int) (bestWay_0 : Int → Int) (way_0 : Int → Int) (gx : Int) (k1 : 2 ≤ x1 ∧ x1 ≤ 30) (k2 : 0 ≤ x2 ∧ x2 ≤ 24) (k3 : 0 ≤ x3 ∧ x3 ≤ 24) (k4 : (-2) ≤ x4 ∧ x4 ≤ 26) (k5 : 1 ≤ x5 ∧ x5 ≤ 25) (k8 : 1 ≤ x8 ∧ x8 ≤ 1) (k9 : 1 ≤ x9 ∧ x9 ≤ 29) (k11 : 0 ≤ x11 ∧ x11 ≤ 0) (d0 : x1 + (-4294967296) ≤ x9 ∧ x9 ≤ x1 + (-1)) (d1 : x5 + (-4294967296) ≤ x3 ∧ x3 ≤ x5 + (-1)) (g0 : x9 = wayMany_0) (f1 : x1 ≠ x9) (f2 : x9 < x1) (f3 : x1 ≠ 0) (f4 : x9 ≠ 0) (f5 : drawnNode_0 (x3) ≠ 0) (f6 : 1 * x3 + ((-1) * pn_0 + 0) ≤ (-1)) (f7 : GOK (pn_0) (pm_0) (pt_0) (ph_0)) (f8 : STB (pn_0) (pm_0) (pt_0) (ph_0) (alive_0)) (f9 : STR (pn_0) (rowMany_0) (pt_0) (ph_0) (row_0)) (f10 : onlyPiece_0 = (-1)) (f11 : (-1) * rowMany_0 + ((-1) * x4 + 0) ≤ (-26)) (f12 : DRR (pn_0) (rowMany_0) (drawnNode_0) (row_0)) (f13 : DEM (pm_0) (pt_0) (ph_0) (drawnNode_0) (drawnEdge_0)) (f14 : UA (pm_0) (alive_0) (drawnEdge_0)) (f15 : (rowMany_0 + 1) ≤ pn_0) (f16 : SB1 (pn_0) (pm_0) (onlyPiece_0) (pt_0) (ph_0) (drawnEdge_0) (pieceOf_0) (drawnNode_0) (bestWay_0) (x1) (x2) (x3)) (f17 : 1 * x2 + ((-1) * pn_0 + 0) ≤ (-1)) (f18 : drawnNode_0 (x2) ≠ 0) (f19 : SHP (pn_0) (pm_0) (onlyPiece_0) (wayMany_0) (pt_0) (ph_0) (alive_0) (drawnEdge_0) (pieceOf_0) (drawnNode_0) (way_0) (x2) (x3) (x8)) (f21 : x3 ≠ x2) (f22 : x3 < x5) (hK_0_33 : ∀ j : Int, 0 ≤ j → j < 80 → 0 ≤ pt_0 j ∧ pt_0 j ≤ 24) (hK_0_34 : ∀ j : Int, 0 ≤ j → j < 80 → 0 ≤ ph_0 j ∧ ph_0 j ≤ 24) (hK_0_35 : ∀ j : Int, 0 ≤ j → j < 80 → 0 ≤ alive_0 j ∧ alive_0 j ≤ 1) (hK_0_42 : ∀ j : Int, 0 ≤ j → j < 26 → 0 ≤ drawnNode_0 j ∧ drawnNode_0 j ≤ 1) (hK_0_43 : ∀ j : Int, 0 ≤ j → j < 80 → 0 ≤ drawnEdge_0 j ∧ drawnEdge_0 j ≤ 1) (hK_0_44 : ∀ j : Int, 0 ≤ j → j < 80 → (-1) ≤ pieceOf_0 j ∧ pieceOf_0 j ≤ 79) (hK_0_46 : ∀ j : Int, 0 ≤ j → j < 30 → 0 ≤ way_0 j ∧ way_0 j ≤ 24) (hK_0_52 : ∀ j : Int, 0 ≤ j → j < 30 → 0 ≤ bestWay_0 j ∧ bestWay_0 j ≤ 24) (hK_0_117 : ∀ j : Int, 0 ≤ j → j < 100 → 0 ≤ row_0 j ∧ row_0 j ≤ 75) (kz_0_31 : 0 ≤ pn_0 ∧ pn_0 ≤ 25) (kz_0_32 : 0 ≤ pm_0 ∧ pm_0 ≤ 80) (kz_0_45 : 0 ≤ wayMany_0 ∧ wayMany_0 ≤ 30) (kz_0_49 : (-1) ≤ onlyPiece_0 ∧ onlyPiece_0 ≤ 79) (kz_0_125 : 0 ≤ rowMany_0 ∧ rowMany_0 ≤ 100) (ex2 : gx = 0 + (1 * x4 + 0)) (ex3 : (-2) ≤ gx ∧ gx ≤ 26) : BC1 (pn_0) (wayMany_0) (drawnNode_0) (way_0) (bestWay_0) (x9) (x11) := by
  first
    | exact bc_step ‹BC1 _ _ _ _ _ _ _› (by omega) (by assumption) (by omega) (by assumption) (by omega)
    | exact ⟨‹WYM _ _ _ _›, by omega, fun t a b => by exfalso; omega⟩
    | exact ⟨wyg_of ‹DEM _ _ _ _ _› ‹SHP _ _ _ _ _ _ _ _ _ _ _ _ _ _› (by omega) (by omega) (by omega) (by omega) (by omega), by omega, fun t a b => by exfalso; omega⟩
set_option maxHeartbeats 4000000 in
theorem vc_Mo_stOrder_23_10 (x1 : Int) (x2 : Int) (x3 : Int) (x4 : Int) (x5 : Int) (x8 : Int) (x9 : Int) (x11 : Int) (wayMany_0 : Int) (drawnNode_0 : Int → Int) (pn_0 : Int) (pt_0 : Int → Int) (ph_0 : Int → Int) (pm_0 : Int) (alive_0 : Int → Int) (row_0 : Int → Int) (rowMany_0 : Int) (onlyPiece_0 : Int) (drawnEdge_0 : Int → Int) (pieceOf_0 : Int → Int) (bestWay_0 : Int → Int) (way_0 : Int → Int) (gx : Int) (k1 : 2 ≤ x1 ∧ x1 ≤ 30) (k2 : 0 ≤ x2 ∧ x2 ≤ 24) (k3 : 0 ≤ x3 ∧ x3 ≤ 24) (k4 : (-2) ≤ x4 ∧ x4 ≤ 26) (k5 : 1 ≤ x5 ∧ x5 ≤ 25) (k8 : 1 ≤ x8 ∧ x8 ≤ 1) (k9 : 1 ≤ x9 ∧ x9 ≤ 29) (k11 : 0 ≤ x11 ∧ x11 ≤ 0) (d0 : x1 + (-4294967296) ≤ x9 ∧ x9 ≤ x1 + (-1)) (d1 : x5 + (-4294967296) ≤ x3 ∧ x3 ≤ x5 + (-1)) (g0 : x9 = wayMany_0) (f1 : x1 ≠ x9) (f2 : x9 < x1) (f3 : x1 ≠ 0) (f4 : x9 ≠ 0) (f5 : drawnNode_0 (x3) ≠ 0) (f6 : 1 * x3 + ((-1) * pn_0 + 0) ≤ (-1)) (f7 : GOK (pn_0) (pm_0) (pt_0) (ph_0)) (f8 : STB (pn_0) (pm_0) (pt_0) (ph_0) (alive_0)) (f9 : STR (pn_0) (rowMany_0) (pt_0) (ph_0) (row_0)) (f10 : onlyPiece_0 = (-1)) (f11 : (-1) * rowMany_0 + ((-1) * x4 + 0) ≤ (-26)) (f12 : DRR (pn_0) (rowMany_0) (drawnNode_0) (row_0)) (f13 : DEM (pm_0) (pt_0) (ph_0) (drawnNode_0) (drawnEdge_0)) (f14 : UA (pm_0) (alive_0) (drawnEdge_0)) (f15 : (rowMany_0 + 1) ≤ pn_0) (f16 : SB1 (pn_0) (pm_0) (onlyPiece_0) (pt_0) (ph_0) (drawnEdge_0) (pieceOf_0) (drawnNode_0) (bestWay_0) (x1) (x2) (x3)) (f17 : 1 * x2 + ((-1) * pn_0 + 0) ≤ (-1)) (f18 : drawnNode_0 (x2) ≠ 0) (f19 : SHP (pn_0) (pm_0) (onlyPiece_0) (wayMany_0) (pt_0) (ph_0) (alive_0) (drawnEdge_0) (pieceOf_0) (drawnNode_0) (way_0) (x2) (x3) (x8)) (f21 : x3 ≠ x2) (f22 : x3 < x5) (hK_0_33 : ∀ j : Int, 0 ≤ j → j < 80 → 0 ≤ pt_0 j ∧ pt_0 j ≤ 24) (hK_0_34 : ∀ j : Int, 0 ≤ j → j < 80 → 0 ≤ ph_0 j ∧ ph_0 j ≤ 24) (hK_0_35 : ∀ j : Int, 0 ≤ j → j < 80 → 0 ≤ alive_0 j ∧ alive_0 j ≤ 1) (hK_0_42 : ∀ j : Int, 0 ≤ j → j < 26 → 0 ≤ drawnNode_0 j ∧ drawnNode_0 j ≤ 1) (hK_0_43 : ∀ j : Int, 0 ≤ j → j < 80 → 0 ≤ drawnEdge_0 j ∧ drawnEdge_0 j ≤ 1) (hK_0_44 : ∀ j : Int, 0 ≤ j → j < 80 → (-1) ≤ pieceOf_0 j ∧ pieceOf_0 j ≤ 79) (hK_0_46 : ∀ j : Int, 0 ≤ j → j < 30 → 0 ≤ way_0 j ∧ way_0 j ≤ 24) (hK_0_52 : ∀ j : Int, 0 ≤ j → j < 30 → 0 ≤ bestWay_0 j ∧ bestWay_0 j ≤ 24) (hK_0_117 : ∀ j : Int, 0 ≤ j → j < 100 → 0 ≤ row_0 j ∧ row_0 j ≤ 75) (kz_0_31 : 0 ≤ pn_0 ∧ pn_0 ≤ 25) (kz_0_32 : 0 ≤ pm_0 ∧ pm_0 ≤ 80) (kz_0_45 : 0 ≤ wayMany_0 ∧ wayMany_0 ≤ 30) (kz_0_49 : (-1) ≤ onlyPiece_0 ∧ onlyPiece_0 ≤ 79) (kz_0_125 : 0 ≤ rowMany_0 ∧ rowMany_0 ≤ 100) (ex2 : gx = 0 + (1 * x4 + 0)) (ex3 : (-2) ≤ gx ∧ gx ≤ 26) : 1 * x2 + ((-1) * pn_0 + 0) ≤ (-1) := by
  first
    | omega
    | (have h := ‹STB _ _ _ _ _›.1.2.2; omega)
    | (have h := ‹STR _ _ _ _ _›.1; omega)
    | (have h := ‹STR _ _ _ _ _›.1
       have w := ‹STR _ _ _ _ _›.2.1 x1 (by omega) (by omega)
       omega)
    | (have h := bc_len ‹BC1 _ _ _ _ _ _ _›
       have h2 := ‹STR _ _ _ _ _›.1
       omega)
    | (have h := (sb_way ‹SB1 _ _ _ _ _ _ _ _ _ _ _ _› (by omega)).1
       have h2 := ‹STR _ _ _ _ _›.1
       omega)
    | (have h := ‹WYM _ _ _ _›.1
       have h2 := ‹STR _ _ _ _ _›.1
       omega)
set_option maxHeartbeats 4000000 in
theorem vc_Mo_stOrder_23_11 (x1 : Int) (x2 : Int) (x3 : Int) (x4 : Int) (x5 : Int) (x8 : Int) (x9 : Int) (x11 : Int) (wayMany_0 : Int) (drawnNode_0 : Int → Int) (pn_0 : Int) (pt_0 : Int → Int) (ph_0 : Int → Int) (pm_0 : Int) (alive_0 : Int → Int) (row_0 : Int → Int) (rowMany_0 : Int) (onlyPiece_0 : Int) (drawnEdge_0 : Int → Int) (pieceOf_0 : Int → Int) (bestWay_0 : Int → Int) (way_0 : Int → Int) (gx : Int) (k1 : 2 ≤ x1 ∧ x1 ≤ 30) (k2 : 0 ≤ x2 ∧ x2 ≤ 24) (k3 : 0 ≤ x3 ∧ x3 ≤ 24) (k4 : (-2) ≤ x4 ∧ x4 ≤ 26) (k5 : 1 ≤ x5 ∧ x5 ≤ 25) (k8 : 1 ≤ x8 ∧ x8 ≤ 1) (k9 : 1 ≤ x9 ∧ x9 ≤ 29) (k11 : 0 ≤ x11 ∧ x11 ≤ 0) (d0 : x1 + (-4294967296) ≤ x9 ∧ x9 ≤ x1 + (-1)) (d1 : x5 + (-4294967296) ≤ x3 ∧ x3 ≤ x5 + (-1)) (g0 : x9 = wayMany_0) (f1 : x1 ≠ x9) (f2 : x9 < x1) (f3 : x1 ≠ 0) (f4 : x9 ≠ 0) (f5 : drawnNode_0 (x3) ≠ 0) (f6 : 1 * x3 + ((-1) * pn_0 + 0) ≤ (-1)) (f7 : GOK (pn_0) (pm_0) (pt_0) (ph_0)) (f8 : STB (pn_0) (pm_0) (pt_0) (ph_0) (alive_0)) (f9 : STR (pn_0) (rowMany_0) (pt_0) (ph_0) (row_0)) (f10 : onlyPiece_0 = (-1)) (f11 : (-1) * rowMany_0 + ((-1) * x4 + 0) ≤ (-26)) (f12 : DRR (pn_0) (rowMany_0) (drawnNode_0) (row_0)) (f13 : DEM (pm_0) (pt_0) (ph_0) (drawnNode_0) (drawnEdge_0)) (f14 : UA (pm_0) (alive_0) (drawnEdge_0)) (f15 : (rowMany_0 + 1) ≤ pn_0) (f16 : SB1 (pn_0) (pm_0) (onlyPiece_0) (pt_0) (ph_0) (drawnEdge_0) (pieceOf_0) (drawnNode_0) (bestWay_0) (x1) (x2) (x3)) (f17 : 1 * x2 + ((-1) * pn_0 + 0) ≤ (-1)) (f18 : drawnNode_0 (x2) ≠ 0) (f19 : SHP (pn_0) (pm_0) (onlyPiece_0) (wayMany_0) (pt_0) (ph_0) (alive_0) (drawnEdge_0) (pieceOf_0) (drawnNode_0) (way_0) (x2) (x3) (x8)) (f21 : x3 ≠ x2) (f22 : x3 < x5) (hK_0_33 : ∀ j : Int, 0 ≤ j → j < 80 → 0 ≤ pt_0 j ∧ pt_0 j ≤ 24) (hK_0_34 : ∀ j : Int, 0 ≤ j → j < 80 → 0 ≤ ph_0 j ∧ ph_0 j ≤ 24) (hK_0_35 : ∀ j : Int, 0 ≤ j → j < 80 → 0 ≤ alive_0 j ∧ alive_0 j ≤ 1) (hK_0_42 : ∀ j : Int, 0 ≤ j → j < 26 → 0 ≤ drawnNode_0 j ∧ drawnNode_0 j ≤ 1) (hK_0_43 : ∀ j : Int, 0 ≤ j → j < 80 → 0 ≤ drawnEdge_0 j ∧ drawnEdge_0 j ≤ 1) (hK_0_44 : ∀ j : Int, 0 ≤ j → j < 80 → (-1) ≤ pieceOf_0 j ∧ pieceOf_0 j ≤ 79) (hK_0_46 : ∀ j : Int, 0 ≤ j → j < 30 → 0 ≤ way_0 j ∧ way_0 j ≤ 24) (hK_0_52 : ∀ j : Int, 0 ≤ j → j < 30 → 0 ≤ bestWay_0 j ∧ bestWay_0 j ≤ 24) (hK_0_117 : ∀ j : Int, 0 ≤ j → j < 100 → 0 ≤ row_0 j ∧ row_0 j ≤ 75) (kz_0_31 : 0 ≤ pn_0 ∧ pn_0 ≤ 25) (kz_0_32 : 0 ≤ pm_0 ∧ pm_0 ≤ 80) (kz_0_45 : 0 ≤ wayMany_0 ∧ wayMany_0 ≤ 30) (kz_0_49 : (-1) ≤ onlyPiece_0 ∧ onlyPiece_0 ≤ 79) (kz_0_125 : 0 ≤ rowMany_0 ∧ rowMany_0 ≤ 100) (ex2 : gx = 0 + (1 * x4 + 0)) (ex3 : (-2) ≤ gx ∧ gx ≤ 26) : 1 * x3 + ((-1) * pn_0 + 0) ≤ (-1) := by
  first
    | omega
    | (have h := ‹STB _ _ _ _ _›.1.2.2; omega)
    | (have h := ‹STR _ _ _ _ _›.1; omega)
    | (have h := ‹STR _ _ _ _ _›.1
       have w := ‹STR _ _ _ _ _›.2.1 x1 (by omega) (by omega)
       omega)
    | (have h := bc_len ‹BC1 _ _ _ _ _ _ _›
       have h2 := ‹STR _ _ _ _ _›.1
       omega)
    | (have h := (sb_way ‹SB1 _ _ _ _ _ _ _ _ _ _ _ _› (by omega)).1
       have h2 := ‹STR _ _ _ _ _›.1
       omega)
    | (have h := ‹WYM _ _ _ _›.1
       have h2 := ‹STR _ _ _ _ _›.1
       omega)
set_option maxHeartbeats 4000000 in
theorem vc_Mo_stOrder_23_12 (x1 : Int) (x2 : Int) (x3 : Int) (x4 : Int) (x5 : Int) (x8 : Int) (x9 : Int) (x11 : Int) (wayMany_0 : Int) (drawnNode_0 : Int → Int) (pn_0 : Int) (pt_0 : Int → Int) (ph_0 : Int → Int) (pm_0 : Int) (alive_0 : Int → Int) (row_0 : Int → Int) (rowMany_0 : Int) (onlyPiece_0 : Int) (drawnEdge_0 : Int → Int) (pieceOf_0 : Int → Int) (bestWay_0 : Int → Int) (way_0 : Int → Int) (gx : Int) (k1 : 2 ≤ x1 ∧ x1 ≤ 30) (k2 : 0 ≤ x2 ∧ x2 ≤ 24) (k3 : 0 ≤ x3 ∧ x3 ≤ 24) (k4 : (-2) ≤ x4 ∧ x4 ≤ 26) (k5 : 1 ≤ x5 ∧ x5 ≤ 25) (k8 : 1 ≤ x8 ∧ x8 ≤ 1) (k9 : 1 ≤ x9 ∧ x9 ≤ 29) (k11 : 0 ≤ x11 ∧ x11 ≤ 0) (d0 : x1 + (-4294967296) ≤ x9 ∧ x9 ≤ x1 + (-1)) (d1 : x5 + (-4294967296) ≤ x3 ∧ x3 ≤ x5 + (-1)) (g0 : x9 = wayMany_0) (f1 : x1 ≠ x9) (f2 : x9 < x1) (f3 : x1 ≠ 0) (f4 : x9 ≠ 0) (f5 : drawnNode_0 (x3) ≠ 0) (f6 : 1 * x3 + ((-1) * pn_0 + 0) ≤ (-1)) (f7 : GOK (pn_0) (pm_0) (pt_0) (ph_0)) (f8 : STB (pn_0) (pm_0) (pt_0) (ph_0) (alive_0)) (f9 : STR (pn_0) (rowMany_0) (pt_0) (ph_0) (row_0)) (f10 : onlyPiece_0 = (-1)) (f11 : (-1) * rowMany_0 + ((-1) * x4 + 0) ≤ (-26)) (f12 : DRR (pn_0) (rowMany_0) (drawnNode_0) (row_0)) (f13 : DEM (pm_0) (pt_0) (ph_0) (drawnNode_0) (drawnEdge_0)) (f14 : UA (pm_0) (alive_0) (drawnEdge_0)) (f15 : (rowMany_0 + 1) ≤ pn_0) (f16 : SB1 (pn_0) (pm_0) (onlyPiece_0) (pt_0) (ph_0) (drawnEdge_0) (pieceOf_0) (drawnNode_0) (bestWay_0) (x1) (x2) (x3)) (f17 : 1 * x2 + ((-1) * pn_0 + 0) ≤ (-1)) (f18 : drawnNode_0 (x2) ≠ 0) (f19 : SHP (pn_0) (pm_0) (onlyPiece_0) (wayMany_0) (pt_0) (ph_0) (alive_0) (drawnEdge_0) (pieceOf_0) (drawnNode_0) (way_0) (x2) (x3) (x8)) (f21 : x3 ≠ x2) (f22 : x3 < x5) (hK_0_33 : ∀ j : Int, 0 ≤ j → j < 80 → 0 ≤ pt_0 j ∧ pt_0 j ≤ 24) (hK_0_34 : ∀ j : Int, 0 ≤ j → j < 80 → 0 ≤ ph_0 j ∧ ph_0 j ≤ 24) (hK_0_35 : ∀ j : Int, 0 ≤ j → j < 80 → 0 ≤ alive_0 j ∧ alive_0 j ≤ 1) (hK_0_42 : ∀ j : Int, 0 ≤ j → j < 26 → 0 ≤ drawnNode_0 j ∧ drawnNode_0 j ≤ 1) (hK_0_43 : ∀ j : Int, 0 ≤ j → j < 80 → 0 ≤ drawnEdge_0 j ∧ drawnEdge_0 j ≤ 1) (hK_0_44 : ∀ j : Int, 0 ≤ j → j < 80 → (-1) ≤ pieceOf_0 j ∧ pieceOf_0 j ≤ 79) (hK_0_46 : ∀ j : Int, 0 ≤ j → j < 30 → 0 ≤ way_0 j ∧ way_0 j ≤ 24) (hK_0_52 : ∀ j : Int, 0 ≤ j → j < 30 → 0 ≤ bestWay_0 j ∧ bestWay_0 j ≤ 24) (hK_0_117 : ∀ j : Int, 0 ≤ j → j < 100 → 0 ≤ row_0 j ∧ row_0 j ≤ 75) (kz_0_31 : 0 ≤ pn_0 ∧ pn_0 ≤ 25) (kz_0_32 : 0 ≤ pm_0 ∧ pm_0 ≤ 80) (kz_0_45 : 0 ≤ wayMany_0 ∧ wayMany_0 ≤ 30) (kz_0_49 : (-1) ≤ onlyPiece_0 ∧ onlyPiece_0 ≤ 79) (kz_0_125 : 0 ≤ rowMany_0 ∧ rowMany_0 ≤ 100) (ex2 : gx = 0 + (1 * x4 + 0)) (ex3 : (-2) ≤ gx ∧ gx ≤ 26) : drawnNode_0 (x2) ≠ 0 := by
  first
    | omega
    | (have h := ‹STB _ _ _ _ _›.1.2.2; omega)
    | (have h := ‹STR _ _ _ _ _›.1; omega)
    | (have h := ‹STR _ _ _ _ _›.1
       have w := ‹STR _ _ _ _ _›.2.1 x1 (by omega) (by omega)
       omega)
    | (have h := bc_len ‹BC1 _ _ _ _ _ _ _›
       have h2 := ‹STR _ _ _ _ _›.1
       omega)
    | (have h := (sb_way ‹SB1 _ _ _ _ _ _ _ _ _ _ _ _› (by omega)).1
       have h2 := ‹STR _ _ _ _ _›.1
       omega)
    | (have h := ‹WYM _ _ _ _›.1
       have h2 := ‹STR _ _ _ _ _›.1
       omega)
def o_Mo_stOrder_23 : or_T := (328, 12, [(0, (2, 0, 0, [165])), (1, (0, 2, 30, [])), (2, (0, 0, 24, [])), (3, (0, 0, 24, [])), (4, (0, -2, 26, [])), (5, (0, 1, 25, [])), (8, (0, 1, 1, [])), (9, (0, 1, 29, [])), (11, (0, 0, 0, []))], [(9, [9, 0], [45]), (7, [1, 9], [1]), (7, [9, 1], [2]), (8, [1], [1]), (8, [9], [1]), (20, [0, 3], [50, 0, 1, 42, 7, 5, 3, 0, 42, 1, 1, 0, 0]), (20, [3, 0], [30, -1, 1, 0, 0, -1, 1, 31]), (20, [0], [60, 2, 2, 75, 31, 32, 33, 34]), (20, [0], [60, 2, 3, 297, 31, 32, 33, 34, 35]), (20, [0], [60, 2, 3, 298, 31, 125, 33, 34, 117]), (20, [0], [50, 1, 0, 49, 1, 3, 2, 0, 49, 0, -1]), (20, [0, 4], [30, -26, -1, 1, 125, -1, 0, 0]), (20, [0], [60, 2, 2, 301, 31, 125, 42, 117]), (20, [0], [60, 1, 4, 303, 32, 33, 34, 42, 43]), (20, [0], [60, 1, 2, 122, 32, 35, 43]), (20, [0], [50, 2, 0, 125, 31, 0, 7, 4, 3, 2, 0, 125, 0, 1, 2, 0, 31]), (20, [0, 1, 2, 3], [60, 3, 6, 306, 31, 32, 49, 33, 34, 43, 44, 42, 52]), (20, [2, 0], [30, -1, 1, 0, 0, -1, 1, 31]), (20, [0, 2], [50, 0, 1, 42, 7, 5, 3, 0, 42, 1, 1, 0, 0]), (20, [0, 2, 3, 8], [60, 4, 7, 130, 31, 32, 49, 45, 33, 34, 35, 43, 44, 42, 46]), (102, [8], [9415652603080021145753684134811499624153533166696051769344, 165045]), (7, [3, 2], [1]), (7, [3, 5], [2])], [], [(0, -2, 26, [])], [(20, [0], [60, 2, 2, 75, 31, 32, 33, 34]), (20, [0], [60, 2, 3, 297, 31, 32, 33, 34, 35]), (20, [0], [60, 2, 3, 298, 31, 125, 33, 34, 117]), (20, [0], [50, 1, 0, 49, 1, 3, 2, 0, 49, 0, -1]), (20, [0, 12], [30, -26, -1, 1, 125, -1, 0, 0]), (20, [0], [60, 2, 2, 301, 31, 125, 42, 117]), (20, [0], [60, 1, 4, 303, 32, 33, 34, 42, 43]), (20, [0], [60, 1, 2, 122, 32, 35, 43]), (20, [0], [50, 2, 0, 125, 31, 0, 7, 4, 3, 2, 0, 125, 0, 1, 2, 0, 31]), (20, [0, 9, 11], [60, 2, 3, 307, 31, 45, 42, 46, 52]), (20, [2, 0], [30, -1, 1, 0, 0, -1, 1, 31]), (20, [3, 0], [30, -1, 1, 0, 0, -1, 1, 31]), (20, [0, 2], [50, 0, 1, 42, 7, 5, 3, 0, 42, 1, 1, 0, 0])], [(12, 4, 0, 0)], [(9, 1, -4294967296, -1), (3, 5, -4294967296, -1)])
theorem oo_Mo_stOrder_23 {kA : Nat → ClassId} : or_ok PRD kA GG o_Mo_stOrder_23 := by
  refine or_mk fun A ta ws vs hD hth hl => ?_
  intro t0 r0 t1 k1 t2 k2 t3 k3 t4 k4 t5 k5 t8 k8 t9 k9 t11 k11 d0 d1 f0 f1 f2 f3 f4 f5 f6 f7 f8 f9 f10 f11 f12 f13 f14 f15 f16 f17 f18 f19 ta1 w1 le1 s1 f21 f22
  replace f0 := shm_741 f0
  replace f1 := shm_40 f1
  replace f2 := shm_6 f2
  replace f3 := shm_142 f3
  replace f4 := shm_142 f4
  replace f5 := shm_1762 f5
  replace f6 := shm_553 f6
  replace f7 := shm_575 f7
  replace f8 := shm_1749 f8
  replace f9 := shm_1001 f9
  replace f10 := shm_1675 f10
  replace f11 := shm_1750 f11
  replace f12 := shm_1755 f12
  replace f13 := shm_1757 f13
  replace f14 := shm_1455 f14
  replace f15 := shm_1752 f15
  replace f16 := shm_1761 f16
  replace f17 := shm_553 f17
  replace f18 := shm_1762 f18
  replace f19 := shm_1463 f19
  replace f21 := shm_40 f21
  replace f22 := shm_6 f22
  have cr_0_33 := fdq_117 hD hth r0
  have cr_0_34 := fdq_118 hD hth r0
  have cr_0_35 := fdq_132 hD hth r0
  have cr_0_42 := fdq_136 hD hth r0
  have cr_0_43 := fdq_137 hD hth r0
  have cr_0_44 := fdq_138 hD hth r0
  have cr_0_46 := fdq_190 hD hth r0
  have cr_0_52 := fdq_236 hD hth r0
  have cr_0_117 := fdq_181 hD hth r0
  have g0 : v_iv (n_v vs 9) = w_fi ws (n_v vs 0) 45 := congrArg v_iv f0
  have hK_0_33 := elq_60 hD hth cr_0_33
  have hK_0_34 := elq_61 hD hth cr_0_34
  have hK_0_35 := elq_72 hD hth cr_0_35
  have hK_0_42 := elq_75 hD hth cr_0_42
  have hK_0_43 := elq_76 hD hth cr_0_43
  have hK_0_44 := elq_77 hD hth cr_0_44
  have hK_0_46 := elq_114 hD hth cr_0_46
  have hK_0_52 := elq_147 hD hth cr_0_52
  have hK_0_117 := elq_108 hD hth cr_0_117
  have kz_0_31 := fdq_145 hD hth r0
  have kz_0_32 := fdq_140 hD hth r0
  have kz_0_45 := fdq_191 hD hth r0
  have kz_0_49 := fdq_146 hD hth r0
  have kz_0_125 := fdq_182 hD hth r0
  obtain ⟨x, ex, hx⟩ := iv_ex (ta := ta) (lo := (-2)) (hi := 26) (z := 0 + (1 * v_iv (n_v vs 4) + 0)) (by omega) (by omega) (by omega) (by omega)
  have ex2 : v_iv (Value.int x) = 0 + (1 * v_iv (n_v vs 4) + 0) := ex
  have ex3 : (-2) ≤ v_iv (Value.int x) ∧ v_iv (Value.int x) ≤ 26 := tv_rng hx
  have e_0 : n_v (vs ++ [Value.int x]) 0 = n_v vs 0 := n_v_old (by rw [hl]; decide)
  have e_2 : n_v (vs ++ [Value.int x]) 2 = n_v vs 2 := n_v_old (by rw [hl]; decide)
  have e_3 : n_v (vs ++ [Value.int x]) 3 = n_v vs 3 := n_v_old (by rw [hl]; decide)
  have e_9 : n_v (vs ++ [Value.int x]) 9 = n_v vs 9 := n_v_old (by rw [hl]; decide)
  have e_11 : n_v (vs ++ [Value.int x]) 11 = n_v vs 11 := n_v_old (by rw [hl]; decide)
  have e_12 : n_v (vs ++ [Value.int x]) 12 = Value.int x := n_v_new hl
  have nf0 : fc_1 PRD (20, [0], [60, 2, 2, 75, 31, 32, 33, 34]) ws (vs ++ [Value.int x]) := by
    refine ⟨nf_inA hl rfl, sgq_575 ?_⟩
    · show GOK (w_fi ws (n_v (vs ++ [Value.int x]) 0) 31) (w_fi ws (n_v (vs ++ [Value.int x]) 0) 32) (w_ei ws (w_ar ws (n_v (vs ++ [Value.int x]) 0) 33)) (w_ei ws (w_ar ws (n_v (vs ++ [Value.int x]) 0) 34))
      rw [e_0]
      exact vc_Mo_stOrder_23_0 (v_iv (n_v vs 1)) (v_iv (n_v vs 2)) (v_iv (n_v vs 3)) (v_iv (n_v vs 4)) (v_iv (n_v vs 5)) (v_iv (n_v vs 8)) (v_iv (n_v vs 9)) (v_iv (n_v vs 11)) (w_fi ws (n_v vs 0) 45) (w_ei ws (w_ar ws (n_v vs 0) 42)) (w_fi ws (n_v vs 0) 31) (w_ei ws (w_ar ws (n_v vs 0) 33)) (w_ei ws (w_ar ws (n_v vs 0) 34)) (w_fi ws (n_v vs 0) 32) (w_ei ws (w_ar ws (n_v vs 0) 35)) (w_ei ws (w_ar ws (n_v vs 0) 117)) (w_fi ws (n_v vs 0) 125) (w_fi ws (n_v vs 0) 49) (w_ei ws (w_ar ws (n_v vs 0) 43)) (w_ei ws (w_ar ws (n_v vs 0) 44)) (w_ei ws (w_ar ws (n_v vs 0) 52)) (w_ei ws (w_ar ws (n_v vs 0) 46)) (v_iv (Value.int x)) k1 k2 k3 k4 k5 k8 k9 k11 d0 d1 g0 f1 f2 f3 f4 f5 f6 f7 f8 f9 f10 f11 f12 f13 f14 f15 f16 f17 f18 f19 f21 f22 hK_0_33 hK_0_34 hK_0_35 hK_0_42 hK_0_43 hK_0_44 hK_0_46 hK_0_52 hK_0_117 kz_0_31 kz_0_32 kz_0_45 kz_0_49 kz_0_125 ex2 ex3
  have nf1 : fc_1 PRD (20, [0], [60, 2, 3, 297, 31, 32, 33, 34, 35]) ws (vs ++ [Value.int x]) := by
    refine ⟨nf_inA hl rfl, sgq_1749 ?_⟩
    · show STB (w_fi ws (n_v (vs ++ [Value.int x]) 0) 31) (w_fi ws (n_v (vs ++ [Value.int x]) 0) 32) (w_ei ws (w_ar ws (n_v (vs ++ [Value.int x]) 0) 33)) (w_ei ws (w_ar ws (n_v (vs ++ [Value.int x]) 0) 34)) (w_ei ws (w_ar ws (n_v (vs ++ [Value.int x]) 0) 35))
      rw [e_0]
      exact vc_Mo_stOrder_23_1 (v_iv (n_v vs 1)) (v_iv (n_v vs 2)) (v_iv (n_v vs 3)) (v_iv (n_v vs 4)) (v_iv (n_v vs 5)) (v_iv (n_v vs 8)) (v_iv (n_v vs 9)) (v_iv (n_v vs 11)) (w_fi ws (n_v vs 0) 45) (w_ei ws (w_ar ws (n_v vs 0) 42)) (w_fi ws (n_v vs 0) 31) (w_ei ws (w_ar ws (n_v vs 0) 33)) (w_ei ws (w_ar ws (n_v vs 0) 34)) (w_fi ws (n_v vs 0) 32) (w_ei ws (w_ar ws (n_v vs 0) 35)) (w_ei ws (w_ar ws (n_v vs 0) 117)) (w_fi ws (n_v vs 0) 125) (w_fi ws (n_v vs 0) 49) (w_ei ws (w_ar ws (n_v vs 0) 43)) (w_ei ws (w_ar ws (n_v vs 0) 44)) (w_ei ws (w_ar ws (n_v vs 0) 52)) (w_ei ws (w_ar ws (n_v vs 0) 46)) (v_iv (Value.int x)) k1 k2 k3 k4 k5 k8 k9 k11 d0 d1 g0 f1 f2 f3 f4 f5 f6 f7 f8 f9 f10 f11 f12 f13 f14 f15 f16 f17 f18 f19 f21 f22 hK_0_33 hK_0_34 hK_0_35 hK_0_42 hK_0_43 hK_0_44 hK_0_46 hK_0_52 hK_0_117 kz_0_31 kz_0_32 kz_0_45 kz_0_49 kz_0_125 ex2 ex3
  have nf2 : fc_1 PRD (20, [0], [60, 2, 3, 298, 31, 125, 33, 34, 117]) ws (vs ++ [Value.int x]) := by
    refine ⟨nf_inA hl rfl, sgq_1001 ?_⟩
    · show STR (w_fi ws (n_v (vs ++ [Value.int x]) 0) 31) (w_fi ws (n_v (vs ++ [Value.int x]) 0) 125) (w_ei ws (w_ar ws (n_v (vs ++ [Value.int x]) 0) 33)) (w_ei ws (w_ar ws (n_v (vs ++ [Value.int x]) 0) 34)) (w_ei ws (w_ar ws (n_v (vs ++ [Value.int x]) 0) 117))
      rw [e_0]
      exact vc_Mo_stOrder_23_2 (v_iv (n_v vs 1)) (v_iv (n_v vs 2)) (v_iv (n_v vs 3)) (v_iv (n_v vs 4)) (v_iv (n_v vs 5)) (v_iv (n_v vs 8)) (v_iv (n_v vs 9)) (v_iv (n_v vs 11)) (w_fi ws (n_v vs 0) 45) (w_ei ws (w_ar ws (n_v vs 0) 42)) (w_fi ws (n_v vs 0) 31) (w_ei ws (w_ar ws (n_v vs 0) 33)) (w_ei ws (w_ar ws (n_v vs 0) 34)) (w_fi ws (n_v vs 0) 32) (w_ei ws (w_ar ws (n_v vs 0) 35)) (w_ei ws (w_ar ws (n_v vs 0) 117)) (w_fi ws (n_v vs 0) 125) (w_fi ws (n_v vs 0) 49) (w_ei ws (w_ar ws (n_v vs 0) 43)) (w_ei ws (w_ar ws (n_v vs 0) 44)) (w_ei ws (w_ar ws (n_v vs 0) 52)) (w_ei ws (w_ar ws (n_v vs 0) 46)) (v_iv (Value.int x)) k1 k2 k3 k4 k5 k8 k9 k11 d0 d1 g0 f1 f2 f3 f4 f5 f6 f7 f8 f9 f10 f11 f12 f13 f14 f15 f16 f17 f18 f19 f21 f22 hK_0_33 hK_0_34 hK_0_35 hK_0_42 hK_0_43 hK_0_44 hK_0_46 hK_0_52 hK_0_117 kz_0_31 kz_0_32 kz_0_45 kz_0_49 kz_0_125 ex2 ex3
  have nf3 : fc_1 PRD (20, [0], [50, 1, 0, 49, 1, 3, 2, 0, 49, 0, -1]) ws (vs ++ [Value.int x]) := by
    refine ⟨nf_inA hl rfl, sgq_1675 ?_⟩
    · show w_fi ws (n_v (vs ++ [Value.int x]) 0) 49 = (-1)
      rw [e_0]
      exact vc_Mo_stOrder_23_3 (v_iv (n_v vs 1)) (v_iv (n_v vs 2)) (v_iv (n_v vs 3)) (v_iv (n_v vs 4)) (v_iv (n_v vs 5)) (v_iv (n_v vs 8)) (v_iv (n_v vs 9)) (v_iv (n_v vs 11)) (w_fi ws (n_v vs 0) 45) (w_ei ws (w_ar ws (n_v vs 0) 42)) (w_fi ws (n_v vs 0) 31) (w_ei ws (w_ar ws (n_v vs 0) 33)) (w_ei ws (w_ar ws (n_v vs 0) 34)) (w_fi ws (n_v vs 0) 32) (w_ei ws (w_ar ws (n_v vs 0) 35)) (w_ei ws (w_ar ws (n_v vs 0) 117)) (w_fi ws (n_v vs 0) 125) (w_fi ws (n_v vs 0) 49) (w_ei ws (w_ar ws (n_v vs 0) 43)) (w_ei ws (w_ar ws (n_v vs 0) 44)) (w_ei ws (w_ar ws (n_v vs 0) 52)) (w_ei ws (w_ar ws (n_v vs 0) 46)) (v_iv (Value.int x)) k1 k2 k3 k4 k5 k8 k9 k11 d0 d1 g0 f1 f2 f3 f4 f5 f6 f7 f8 f9 f10 f11 f12 f13 f14 f15 f16 f17 f18 f19 f21 f22 hK_0_33 hK_0_34 hK_0_35 hK_0_42 hK_0_43 hK_0_44 hK_0_46 hK_0_52 hK_0_117 kz_0_31 kz_0_32 kz_0_45 kz_0_49 kz_0_125 ex2 ex3
  have nf4 : fc_1 PRD (20, [0, 12], [30, -26, -1, 1, 125, -1, 0, 0]) ws (vs ++ [Value.int x]) := by
    refine ⟨nf_inA hl rfl, sgq_1750 ?_⟩
    · show (-1) * w_fi ws (n_v (vs ++ [Value.int x]) 0) 125 + ((-1) * v_iv (n_v (vs ++ [Value.int x]) 12) + 0) ≤ (-26)
      simp only [e_0, e_12]
      exact vc_Mo_stOrder_23_4 (v_iv (n_v vs 1)) (v_iv (n_v vs 2)) (v_iv (n_v vs 3)) (v_iv (n_v vs 4)) (v_iv (n_v vs 5)) (v_iv (n_v vs 8)) (v_iv (n_v vs 9)) (v_iv (n_v vs 11)) (w_fi ws (n_v vs 0) 45) (w_ei ws (w_ar ws (n_v vs 0) 42)) (w_fi ws (n_v vs 0) 31) (w_ei ws (w_ar ws (n_v vs 0) 33)) (w_ei ws (w_ar ws (n_v vs 0) 34)) (w_fi ws (n_v vs 0) 32) (w_ei ws (w_ar ws (n_v vs 0) 35)) (w_ei ws (w_ar ws (n_v vs 0) 117)) (w_fi ws (n_v vs 0) 125) (w_fi ws (n_v vs 0) 49) (w_ei ws (w_ar ws (n_v vs 0) 43)) (w_ei ws (w_ar ws (n_v vs 0) 44)) (w_ei ws (w_ar ws (n_v vs 0) 52)) (w_ei ws (w_ar ws (n_v vs 0) 46)) (v_iv (Value.int x)) k1 k2 k3 k4 k5 k8 k9 k11 d0 d1 g0 f1 f2 f3 f4 f5 f6 f7 f8 f9 f10 f11 f12 f13 f14 f15 f16 f17 f18 f19 f21 f22 hK_0_33 hK_0_34 hK_0_35 hK_0_42 hK_0_43 hK_0_44 hK_0_46 hK_0_52 hK_0_117 kz_0_31 kz_0_32 kz_0_45 kz_0_49 kz_0_125 ex2 ex3
  have nf5 : fc_1 PRD (20, [0], [60, 2, 2, 301, 31, 125, 42, 117]) ws (vs ++ [Value.int x]) := by
    refine ⟨nf_inA hl rfl, sgq_1755 ?_⟩
    · show DRR (w_fi ws (n_v (vs ++ [Value.int x]) 0) 31) (w_fi ws (n_v (vs ++ [Value.int x]) 0) 125) (w_ei ws (w_ar ws (n_v (vs ++ [Value.int x]) 0) 42)) (w_ei ws (w_ar ws (n_v (vs ++ [Value.int x]) 0) 117))
      rw [e_0]
      exact vc_Mo_stOrder_23_5 (v_iv (n_v vs 1)) (v_iv (n_v vs 2)) (v_iv (n_v vs 3)) (v_iv (n_v vs 4)) (v_iv (n_v vs 5)) (v_iv (n_v vs 8)) (v_iv (n_v vs 9)) (v_iv (n_v vs 11)) (w_fi ws (n_v vs 0) 45) (w_ei ws (w_ar ws (n_v vs 0) 42)) (w_fi ws (n_v vs 0) 31) (w_ei ws (w_ar ws (n_v vs 0) 33)) (w_ei ws (w_ar ws (n_v vs 0) 34)) (w_fi ws (n_v vs 0) 32) (w_ei ws (w_ar ws (n_v vs 0) 35)) (w_ei ws (w_ar ws (n_v vs 0) 117)) (w_fi ws (n_v vs 0) 125) (w_fi ws (n_v vs 0) 49) (w_ei ws (w_ar ws (n_v vs 0) 43)) (w_ei ws (w_ar ws (n_v vs 0) 44)) (w_ei ws (w_ar ws (n_v vs 0) 52)) (w_ei ws (w_ar ws (n_v vs 0) 46)) (v_iv (Value.int x)) k1 k2 k3 k4 k5 k8 k9 k11 d0 d1 g0 f1 f2 f3 f4 f5 f6 f7 f8 f9 f10 f11 f12 f13 f14 f15 f16 f17 f18 f19 f21 f22 hK_0_33 hK_0_34 hK_0_35 hK_0_42 hK_0_43 hK_0_44 hK_0_46 hK_0_52 hK_0_117 kz_0_31 kz_0_32 kz_0_45 kz_0_49 kz_0_125 ex2 ex3
  have nf6 : fc_1 PRD (20, [0], [60, 1, 4, 303, 32, 33, 34, 42, 43]) ws (vs ++ [Value.int x]) := by
    refine ⟨nf_inA hl rfl, sgq_1757 ?_⟩
    · show DEM (w_fi ws (n_v (vs ++ [Value.int x]) 0) 32) (w_ei ws (w_ar ws (n_v (vs ++ [Value.int x]) 0) 33)) (w_ei ws (w_ar ws (n_v (vs ++ [Value.int x]) 0) 34)) (w_ei ws (w_ar ws (n_v (vs ++ [Value.int x]) 0) 42)) (w_ei ws (w_ar ws (n_v (vs ++ [Value.int x]) 0) 43))
      rw [e_0]
      exact vc_Mo_stOrder_23_6 (v_iv (n_v vs 1)) (v_iv (n_v vs 2)) (v_iv (n_v vs 3)) (v_iv (n_v vs 4)) (v_iv (n_v vs 5)) (v_iv (n_v vs 8)) (v_iv (n_v vs 9)) (v_iv (n_v vs 11)) (w_fi ws (n_v vs 0) 45) (w_ei ws (w_ar ws (n_v vs 0) 42)) (w_fi ws (n_v vs 0) 31) (w_ei ws (w_ar ws (n_v vs 0) 33)) (w_ei ws (w_ar ws (n_v vs 0) 34)) (w_fi ws (n_v vs 0) 32) (w_ei ws (w_ar ws (n_v vs 0) 35)) (w_ei ws (w_ar ws (n_v vs 0) 117)) (w_fi ws (n_v vs 0) 125) (w_fi ws (n_v vs 0) 49) (w_ei ws (w_ar ws (n_v vs 0) 43)) (w_ei ws (w_ar ws (n_v vs 0) 44)) (w_ei ws (w_ar ws (n_v vs 0) 52)) (w_ei ws (w_ar ws (n_v vs 0) 46)) (v_iv (Value.int x)) k1 k2 k3 k4 k5 k8 k9 k11 d0 d1 g0 f1 f2 f3 f4 f5 f6 f7 f8 f9 f10 f11 f12 f13 f14 f15 f16 f17 f18 f19 f21 f22 hK_0_33 hK_0_34 hK_0_35 hK_0_42 hK_0_43 hK_0_44 hK_0_46 hK_0_52 hK_0_117 kz_0_31 kz_0_32 kz_0_45 kz_0_49 kz_0_125 ex2 ex3
  have nf7 : fc_1 PRD (20, [0], [60, 1, 2, 122, 32, 35, 43]) ws (vs ++ [Value.int x]) := by
    refine ⟨nf_inA hl rfl, sgq_1455 ?_⟩
    · show UA (w_fi ws (n_v (vs ++ [Value.int x]) 0) 32) (w_ei ws (w_ar ws (n_v (vs ++ [Value.int x]) 0) 35)) (w_ei ws (w_ar ws (n_v (vs ++ [Value.int x]) 0) 43))
      rw [e_0]
      exact vc_Mo_stOrder_23_7 (v_iv (n_v vs 1)) (v_iv (n_v vs 2)) (v_iv (n_v vs 3)) (v_iv (n_v vs 4)) (v_iv (n_v vs 5)) (v_iv (n_v vs 8)) (v_iv (n_v vs 9)) (v_iv (n_v vs 11)) (w_fi ws (n_v vs 0) 45) (w_ei ws (w_ar ws (n_v vs 0) 42)) (w_fi ws (n_v vs 0) 31) (w_ei ws (w_ar ws (n_v vs 0) 33)) (w_ei ws (w_ar ws (n_v vs 0) 34)) (w_fi ws (n_v vs 0) 32) (w_ei ws (w_ar ws (n_v vs 0) 35)) (w_ei ws (w_ar ws (n_v vs 0) 117)) (w_fi ws (n_v vs 0) 125) (w_fi ws (n_v vs 0) 49) (w_ei ws (w_ar ws (n_v vs 0) 43)) (w_ei ws (w_ar ws (n_v vs 0) 44)) (w_ei ws (w_ar ws (n_v vs 0) 52)) (w_ei ws (w_ar ws (n_v vs 0) 46)) (v_iv (Value.int x)) k1 k2 k3 k4 k5 k8 k9 k11 d0 d1 g0 f1 f2 f3 f4 f5 f6 f7 f8 f9 f10 f11 f12 f13 f14 f15 f16 f17 f18 f19 f21 f22 hK_0_33 hK_0_34 hK_0_35 hK_0_42 hK_0_43 hK_0_44 hK_0_46 hK_0_52 hK_0_117 kz_0_31 kz_0_32 kz_0_45 kz_0_49 kz_0_125 ex2 ex3
  have nf8 : fc_1 PRD (20, [0], [50, 2, 0, 125, 31, 0, 7, 4, 3, 2, 0, 125, 0, 1, 2, 0, 31]) ws (vs ++ [Value.int x]) := by
    refine ⟨nf_inA hl rfl, sgq_1752 ?_⟩
    · show (w_fi ws (n_v (vs ++ [Value.int x]) 0) 125 + 1) ≤ w_fi ws (n_v (vs ++ [Value.int x]) 0) 31
      rw [e_0]
      exact vc_Mo_stOrder_23_8 (v_iv (n_v vs 1)) (v_iv (n_v vs 2)) (v_iv (n_v vs 3)) (v_iv (n_v vs 4)) (v_iv (n_v vs 5)) (v_iv (n_v vs 8)) (v_iv (n_v vs 9)) (v_iv (n_v vs 11)) (w_fi ws (n_v vs 0) 45) (w_ei ws (w_ar ws (n_v vs 0) 42)) (w_fi ws (n_v vs 0) 31) (w_ei ws (w_ar ws (n_v vs 0) 33)) (w_ei ws (w_ar ws (n_v vs 0) 34)) (w_fi ws (n_v vs 0) 32) (w_ei ws (w_ar ws (n_v vs 0) 35)) (w_ei ws (w_ar ws (n_v vs 0) 117)) (w_fi ws (n_v vs 0) 125) (w_fi ws (n_v vs 0) 49) (w_ei ws (w_ar ws (n_v vs 0) 43)) (w_ei ws (w_ar ws (n_v vs 0) 44)) (w_ei ws (w_ar ws (n_v vs 0) 52)) (w_ei ws (w_ar ws (n_v vs 0) 46)) (v_iv (Value.int x)) k1 k2 k3 k4 k5 k8 k9 k11 d0 d1 g0 f1 f2 f3 f4 f5 f6 f7 f8 f9 f10 f11 f12 f13 f14 f15 f16 f17 f18 f19 f21 f22 hK_0_33 hK_0_34 hK_0_35 hK_0_42 hK_0_43 hK_0_44 hK_0_46 hK_0_52 hK_0_117 kz_0_31 kz_0_32 kz_0_45 kz_0_49 kz_0_125 ex2 ex3
  have nf9 : fc_1 PRD (20, [0, 9, 11], [60, 2, 3, 307, 31, 45, 42, 46, 52]) ws (vs ++ [Value.int x]) := by
    refine ⟨nf_inA hl rfl, sgq_1763 ?_⟩
    · show BC1 (w_fi ws (n_v (vs ++ [Value.int x]) 0) 31) (w_fi ws (n_v (vs ++ [Value.int x]) 0) 45) (w_ei ws (w_ar ws (n_v (vs ++ [Value.int x]) 0) 42)) (w_ei ws (w_ar ws (n_v (vs ++ [Value.int x]) 0) 46)) (w_ei ws (w_ar ws (n_v (vs ++ [Value.int x]) 0) 52)) (v_iv (n_v (vs ++ [Value.int x]) 9)) (v_iv (n_v (vs ++ [Value.int x]) 11))
      simp only [e_0, e_9, e_11]
      exact vc_Mo_stOrder_23_9 (v_iv (n_v vs 1)) (v_iv (n_v vs 2)) (v_iv (n_v vs 3)) (v_iv (n_v vs 4)) (v_iv (n_v vs 5)) (v_iv (n_v vs 8)) (v_iv (n_v vs 9)) (v_iv (n_v vs 11)) (w_fi ws (n_v vs 0) 45) (w_ei ws (w_ar ws (n_v vs 0) 42)) (w_fi ws (n_v vs 0) 31) (w_ei ws (w_ar ws (n_v vs 0) 33)) (w_ei ws (w_ar ws (n_v vs 0) 34)) (w_fi ws (n_v vs 0) 32) (w_ei ws (w_ar ws (n_v vs 0) 35)) (w_ei ws (w_ar ws (n_v vs 0) 117)) (w_fi ws (n_v vs 0) 125) (w_fi ws (n_v vs 0) 49) (w_ei ws (w_ar ws (n_v vs 0) 43)) (w_ei ws (w_ar ws (n_v vs 0) 44)) (w_ei ws (w_ar ws (n_v vs 0) 52)) (w_ei ws (w_ar ws (n_v vs 0) 46)) (v_iv (Value.int x)) k1 k2 k3 k4 k5 k8 k9 k11 d0 d1 g0 f1 f2 f3 f4 f5 f6 f7 f8 f9 f10 f11 f12 f13 f14 f15 f16 f17 f18 f19 f21 f22 hK_0_33 hK_0_34 hK_0_35 hK_0_42 hK_0_43 hK_0_44 hK_0_46 hK_0_52 hK_0_117 kz_0_31 kz_0_32 kz_0_45 kz_0_49 kz_0_125 ex2 ex3
  have nf10 : fc_1 PRD (20, [2, 0], [30, -1, 1, 0, 0, -1, 1, 31]) ws (vs ++ [Value.int x]) := by
    refine ⟨nf_inA hl rfl, sgq_553 ?_⟩
    · show 1 * v_iv (n_v (vs ++ [Value.int x]) 2) + ((-1) * w_fi ws (n_v (vs ++ [Value.int x]) 0) 31 + 0) ≤ (-1)
      simp only [e_0, e_2]
      exact vc_Mo_stOrder_23_10 (v_iv (n_v vs 1)) (v_iv (n_v vs 2)) (v_iv (n_v vs 3)) (v_iv (n_v vs 4)) (v_iv (n_v vs 5)) (v_iv (n_v vs 8)) (v_iv (n_v vs 9)) (v_iv (n_v vs 11)) (w_fi ws (n_v vs 0) 45) (w_ei ws (w_ar ws (n_v vs 0) 42)) (w_fi ws (n_v vs 0) 31) (w_ei ws (w_ar ws (n_v vs 0) 33)) (w_ei ws (w_ar ws (n_v vs 0) 34)) (w_fi ws (n_v vs 0) 32) (w_ei ws (w_ar ws (n_v vs 0) 35)) (w_ei ws (w_ar ws (n_v vs 0) 117)) (w_fi ws (n_v vs 0) 125) (w_fi ws (n_v vs 0) 49) (w_ei ws (w_ar ws (n_v vs 0) 43)) (w_ei ws (w_ar ws (n_v vs 0) 44)) (w_ei ws (w_ar ws (n_v vs 0) 52)) (w_ei ws (w_ar ws (n_v vs 0) 46)) (v_iv (Value.int x)) k1 k2 k3 k4 k5 k8 k9 k11 d0 d1 g0 f1 f2 f3 f4 f5 f6 f7 f8 f9 f10 f11 f12 f13 f14 f15 f16 f17 f18 f19 f21 f22 hK_0_33 hK_0_34 hK_0_35 hK_0_42 hK_0_43 hK_0_44 hK_0_46 hK_0_52 hK_0_117 kz_0_31 kz_0_32 kz_0_45 kz_0_49 kz_0_125 ex2 ex3
  have nf11 : fc_1 PRD (20, [3, 0], [30, -1, 1, 0, 0, -1, 1, 31]) ws (vs ++ [Value.int x]) := by
    refine ⟨nf_inA hl rfl, sgq_553 ?_⟩
    · show 1 * v_iv (n_v (vs ++ [Value.int x]) 3) + ((-1) * w_fi ws (n_v (vs ++ [Value.int x]) 0) 31 + 0) ≤ (-1)
      simp only [e_0, e_3]
      exact vc_Mo_stOrder_23_11 (v_iv (n_v vs 1)) (v_iv (n_v vs 2)) (v_iv (n_v vs 3)) (v_iv (n_v vs 4)) (v_iv (n_v vs 5)) (v_iv (n_v vs 8)) (v_iv (n_v vs 9)) (v_iv (n_v vs 11)) (w_fi ws (n_v vs 0) 45) (w_ei ws (w_ar ws (n_v vs 0) 42)) (w_fi ws (n_v vs 0) 31) (w_ei ws (w_ar ws (n_v vs 0) 33)) (w_ei ws (w_ar ws (n_v vs 0) 34)) (w_fi ws (n_v vs 0) 32) (w_ei ws (w_ar ws (n_v vs 0) 35)) (w_ei ws (w_ar ws (n_v vs 0) 117)) (w_fi ws (n_v vs 0) 125) (w_fi ws (n_v vs 0) 49) (w_ei ws (w_ar ws (n_v vs 0) 43)) (w_ei ws (w_ar ws (n_v vs 0) 44)) (w_ei ws (w_ar ws (n_v vs 0) 52)) (w_ei ws (w_ar ws (n_v vs 0) 46)) (v_iv (Value.int x)) k1 k2 k3 k4 k5 k8 k9 k11 d0 d1 g0 f1 f2 f3 f4 f5 f6 f7 f8 f9 f10 f11 f12 f13 f14 f15 f16 f17 f18 f19 f21 f22 hK_0_33 hK_0_34 hK_0_35 hK_0_42 hK_0_43 hK_0_44 hK_0_46 hK_0_52 hK_0_117 kz_0_31 kz_0_32 kz_0_45 kz_0_49 kz_0_125 ex2 ex3
  have nf12 : fc_1 PRD (20, [0, 2], [50, 0, 1, 42, 7, 5, 3, 0, 42, 1, 1, 0, 0]) ws (vs ++ [Value.int x]) := by
    refine ⟨nf_inA hl rfl, sgq_1762 ?_⟩
    · show w_ei ws (w_ar ws (n_v (vs ++ [Value.int x]) 0) 42) (v_iv (n_v (vs ++ [Value.int x]) 2)) ≠ 0
      simp only [e_0, e_2]
      exact vc_Mo_stOrder_23_12 (v_iv (n_v vs 1)) (v_iv (n_v vs 2)) (v_iv (n_v vs 3)) (v_iv (n_v vs 4)) (v_iv (n_v vs 5)) (v_iv (n_v vs 8)) (v_iv (n_v vs 9)) (v_iv (n_v vs 11)) (w_fi ws (n_v vs 0) 45) (w_ei ws (w_ar ws (n_v vs 0) 42)) (w_fi ws (n_v vs 0) 31) (w_ei ws (w_ar ws (n_v vs 0) 33)) (w_ei ws (w_ar ws (n_v vs 0) 34)) (w_fi ws (n_v vs 0) 32) (w_ei ws (w_ar ws (n_v vs 0) 35)) (w_ei ws (w_ar ws (n_v vs 0) 117)) (w_fi ws (n_v vs 0) 125) (w_fi ws (n_v vs 0) 49) (w_ei ws (w_ar ws (n_v vs 0) 43)) (w_ei ws (w_ar ws (n_v vs 0) 44)) (w_ei ws (w_ar ws (n_v vs 0) 52)) (w_ei ws (w_ar ws (n_v vs 0) 46)) (v_iv (Value.int x)) k1 k2 k3 k4 k5 k8 k9 k11 d0 d1 g0 f1 f2 f3 f4 f5 f6 f7 f8 f9 f10 f11 f12 f13 f14 f15 f16 f17 f18 f19 f21 f22 hK_0_33 hK_0_34 hK_0_35 hK_0_42 hK_0_43 hK_0_44 hK_0_46 hK_0_52 hK_0_117 kz_0_31 kz_0_32 kz_0_45 kz_0_49 kz_0_125 ex2 ex3
  obtain ⟨x0, e0, _, _⟩ := tv_int t4 rfl
  have e1 : v_iv (n_v vs 4) = x0.toInt := by rw [e0]; rfl
  have ho : sy_ofs (vs ++ [Value.int x]) (12, 4, 0, 0) := by
    refine ⟨x, x0, by rw [List.getElem?_append_right (by rw [hl]; decide), hl]; rfl, ?_, ?_, ?_⟩
    · rw [List.getElem?_append_left (by rw [hl]; decide)]; exact n_v_some (by rw [hl]; decide) e0
    · show x0.toInt + 0 ≤ x.toInt; omega
    · show x.toInt ≤ x0.toInt + 0; omega
  exact ⟨(fun _ h => (by cases h)), [Value.int x], ag_one hx, List.forall_mem_cons.mpr ⟨⟨show (20 : Nat) < 100 from by decide, nf0⟩, List.forall_mem_cons.mpr ⟨⟨show (20 : Nat) < 100 from by decide, nf1⟩, List.forall_mem_cons.mpr ⟨⟨show (20 : Nat) < 100 from by decide, nf2⟩, List.forall_mem_cons.mpr ⟨⟨show (20 : Nat) < 100 from by decide, nf3⟩, List.forall_mem_cons.mpr ⟨⟨show (20 : Nat) < 100 from by decide, nf4⟩, List.forall_mem_cons.mpr ⟨⟨show (20 : Nat) < 100 from by decide, nf5⟩, List.forall_mem_cons.mpr ⟨⟨show (20 : Nat) < 100 from by decide, nf6⟩, List.forall_mem_cons.mpr ⟨⟨show (20 : Nat) < 100 from by decide, nf7⟩, List.forall_mem_cons.mpr ⟨⟨show (20 : Nat) < 100 from by decide, nf8⟩, List.forall_mem_cons.mpr ⟨⟨show (20 : Nat) < 100 from by decide, nf9⟩, List.forall_mem_cons.mpr ⟨⟨show (20 : Nat) < 100 from by decide, nf10⟩, List.forall_mem_cons.mpr ⟨⟨show (20 : Nat) < 100 from by decide, nf11⟩, List.forall_mem_cons.mpr ⟨⟨show (20 : Nat) < 100 from by decide, nf12⟩, (fun _ h => (by cases h))⟩⟩⟩⟩⟩⟩⟩⟩⟩⟩⟩⟩⟩, List.forall_mem_cons.mpr ⟨ho, (fun _ h => (by cases h))⟩⟩
set_option maxHeartbeats 4000000 in
theorem vc_Mo_stOrder_24_0 (x1 : Int) (x2 : Int) (x3 : Int) (x4 : Int) (x5 : Int) (x8 : Int) (x9 : Int) (wayMany_0 : Int) (drawnNode_0 : Int → Int) (pn_0 : Int) (pt_0 : Int → Int) (ph_0 : Int → Int) (pm_0 : Int) (alive_0 : Int → Int) (row_0 : Int → Int) (rowMany_0 : Int) (onlyPiece_0 : Int) (drawnEdge_0 : Int → Int) (pieceOf_0 : Int → Int) (bestWay_0 : Int → Int) (way_0 : Int → Int) (gx : Int) (k1 : 3 ≤ x1 ∧ x1 ≤ 29) (k2 : 0 ≤ x2 ∧ x2 ≤ 24) (k3 : 0 ≤ x3 ∧ x3 ≤ 24) (k4 : (-2) ≤ x4 ∧ x4 ≤ 26) (k5 : 1 ≤ x5 ∧ x5 ≤ 25) (k8 : 1 ≤ x8 ∧ x8 ≤ 1) (k9 : 2 ≤ x9 ∧ x9 ≤ 28) (d0 : x9 + 0 ≤ x1 ∧ x1 ≤ x9 + 0) (d1 : x1 + (-4294967296) ≤ x9 ∧ x9 ≤ x1 + (-1)) (d2 : x5 + (-4294967296) ≤ x3 ∧ x3 ≤ x5 + (-1)) (f0 : x1 = x9) (g1 : x9 = wayMany_0) (f2 : x9 < x1) (f3 : x1 ≠ 0) (f4 : x9 ≠ 0) (f5 : drawnNode_0 (x3) ≠ 0) (f6 : 1 * x3 + ((-1) * pn_0 + 0) ≤ (-1)) (f7 : GOK (pn_0) (pm_0) (pt_0) (ph_0)) (f8 : STB (pn_0) (pm_0) (pt_0) (ph_0) (alive_0)) (f9 : STR (pn_0) (rowMany_0) (pt_0) (ph_0) (row_0)) (f10 : onlyPiece_0 = (-1)) (f11 : (-1) * rowMany_0 + ((-1) * x4 + 0) ≤ (-26)) (f12 : DRR (pn_0) (rowMany_0) (drawnNode_0) (row_0)) (f13 : DEM (pm_0) (pt_0) (ph_0) (drawnNode_0) (drawnEdge_0)) (f14 : UA (pm_0) (alive_0) (drawnEdge_0)) (f15 : (rowMany_0 + 1) ≤ pn_0) (f16 : SB1 (pn_0) (pm_0) (onlyPiece_0) (pt_0) (ph_0) (drawnEdge_0) (pieceOf_0) (drawnNode_0) (bestWay_0) (x1) (x2) (x3)) (f17 : 1 * x2 + ((-1) * pn_0 + 0) ≤ (-1)) (f18 : drawnNode_0 (x2) ≠ 0) (f19 : SHP (pn_0) (pm_0) (onlyPiece_0) (wayMany_0) (pt_0) (ph_0) (alive_0) (drawnEdge_0) (pieceOf_0) (drawnNode_0) (way_0) (x2) (x3) (x8)) (f21 : x3 ≠ x2) (f22 : x3 < x5) (hK_0_33 : ∀ j : Int, 0 ≤ j → j < 80 → 0 ≤ pt_0 j ∧ pt_0 j ≤ 24) (hK_0_34 : ∀ j : Int, 0 ≤ j → j < 80 → 0 ≤ ph_0 j ∧ ph_0 j ≤ 24) (hK_0_35 : ∀ j : Int, 0 ≤ j → j < 80 → 0 ≤ alive_0 j ∧ alive_0 j ≤ 1) (hK_0_42 : ∀ j : Int, 0 ≤ j → j < 26 → 0 ≤ drawnNode_0 j ∧ drawnNode_0 j ≤ 1) (hK_0_43 : ∀ j : Int, 0 ≤ j → j < 80 → 0 ≤ drawnEdge_0 j ∧ drawnEdge_0 j ≤ 1) (hK_0_44 : ∀ j : Int, 0 ≤ j → j < 80 → (-1) ≤ pieceOf_0 j ∧ pieceOf_0 j ≤ 79) (hK_0_46 : ∀ j : Int, 0 ≤ j → j < 30 → 0 ≤ way_0 j ∧ way_0 j ≤ 24) (hK_0_52 : ∀ j : Int, 0 ≤ j → j < 30 → 0 ≤ bestWay_0 j ∧ bestWay_0 j ≤ 24) (hK_0_117 : ∀ j : Int, 0 ≤ j → j < 100 → 0 ≤ row_0 j ∧ row_0 j ≤ 75) (kz_0_31 : 0 ≤ pn_0 ∧ pn_0 ≤ 25) (kz_0_32 : 0 ≤ pm_0 ∧ pm_0 ≤ 80) (kz_0_45 : 0 ≤ wayMany_0 ∧ wayMany_0 ≤ 30) (kz_0_49 : (-1) ≤ onlyPiece_0 ∧ onlyPiece_0 ≤ 79) (kz_0_125 : 0 ≤ rowMany_0 ∧ rowMany_0 ≤ 100) (ex2 : gx = 0 + (1 * x4 + 0)) (ex3 : (-2) ≤ gx ∧ gx ≤ 26) : GOK (pn_0) (pm_0) (pt_0) (ph_0) := by
  first
    | assumption
    | exact ‹STB _ _ _ _ _›.1.1
set_option maxHeartbeats 4000000 in
theorem vc_Mo_stOrder_24_1 (x1 : Int) (x2 : Int) (x3 : Int) (x4 : Int) (x5 : Int) (x8 : Int) (x9 : Int) (wayMany_0 : Int) (drawnNode_0 : Int → Int) (pn_0 : Int) (pt_0 : Int → Int) (ph_0 : Int → Int) (pm_0 : Int) (alive_0 : Int → Int) (row_0 : Int → Int) (rowMany_0 : Int) (onlyPiece_0 : Int) (drawnEdge_0 : Int → Int) (pieceOf_0 : Int → Int) (bestWay_0 : Int → Int) (way_0 : Int → Int) (gx : Int) (k1 : 3 ≤ x1 ∧ x1 ≤ 29) (k2 : 0 ≤ x2 ∧ x2 ≤ 24) (k3 : 0 ≤ x3 ∧ x3 ≤ 24) (k4 : (-2) ≤ x4 ∧ x4 ≤ 26) (k5 : 1 ≤ x5 ∧ x5 ≤ 25) (k8 : 1 ≤ x8 ∧ x8 ≤ 1) (k9 : 2 ≤ x9 ∧ x9 ≤ 28) (d0 : x9 + 0 ≤ x1 ∧ x1 ≤ x9 + 0) (d1 : x1 + (-4294967296) ≤ x9 ∧ x9 ≤ x1 + (-1)) (d2 : x5 + (-4294967296) ≤ x3 ∧ x3 ≤ x5 + (-1)) (f0 : x1 = x9) (g1 : x9 = wayMany_0) (f2 : x9 < x1) (f3 : x1 ≠ 0) (f4 : x9 ≠ 0) (f5 : drawnNode_0 (x3) ≠ 0) (f6 : 1 * x3 + ((-1) * pn_0 + 0) ≤ (-1)) (f7 : GOK (pn_0) (pm_0) (pt_0) (ph_0)) (f8 : STB (pn_0) (pm_0) (pt_0) (ph_0) (alive_0)) (f9 : STR (pn_0) (rowMany_0) (pt_0) (ph_0) (row_0)) (f10 : onlyPiece_0 = (-1)) (f11 : (-1) * rowMany_0 + ((-1) * x4 + 0) ≤ (-26)) (f12 : DRR (pn_0) (rowMany_0) (drawnNode_0) (row_0)) (f13 : DEM (pm_0) (pt_0) (ph_0) (drawnNode_0) (drawnEdge_0)) (f14 : UA (pm_0) (alive_0) (drawnEdge_0)) (f15 : (rowMany_0 + 1) ≤ pn_0) (f16 : SB1 (pn_0) (pm_0) (onlyPiece_0) (pt_0) (ph_0) (drawnEdge_0) (pieceOf_0) (drawnNode_0) (bestWay_0) (x1) (x2) (x3)) (f17 : 1 * x2 + ((-1) * pn_0 + 0) ≤ (-1)) (f18 : drawnNode_0 (x2) ≠ 0) (f19 : SHP (pn_0) (pm_0) (onlyPiece_0) (wayMany_0) (pt_0) (ph_0) (alive_0) (drawnEdge_0) (pieceOf_0) (drawnNode_0) (way_0) (x2) (x3) (x8)) (f21 : x3 ≠ x2) (f22 : x3 < x5) (hK_0_33 : ∀ j : Int, 0 ≤ j → j < 80 → 0 ≤ pt_0 j ∧ pt_0 j ≤ 24) (hK_0_34 : ∀ j : Int, 0 ≤ j → j < 80 → 0 ≤ ph_0 j ∧ ph_0 j ≤ 24) (hK_0_35 : ∀ j : Int, 0 ≤ j → j < 80 → 0 ≤ alive_0 j ∧ alive_0 j ≤ 1) (hK_0_42 : ∀ j : Int, 0 ≤ j → j < 26 → 0 ≤ drawnNode_0 j ∧ drawnNode_0 j ≤ 1) (hK_0_43 : ∀ j : Int, 0 ≤ j → j < 80 → 0 ≤ drawnEdge_0 j ∧ drawnEdge_0 j ≤ 1) (hK_0_44 : ∀ j : Int, 0 ≤ j → j < 80 → (-1) ≤ pieceOf_0 j ∧ pieceOf_0 j ≤ 79) (hK_0_46 : ∀ j : Int, 0 ≤ j → j < 30 → 0 ≤ way_0 j ∧ way_0 j ≤ 24) (hK_0_52 : ∀ j : Int, 0 ≤ j → j < 30 → 0 ≤ bestWay_0 j ∧ bestWay_0 j ≤ 24) (hK_0_117 : ∀ j : Int, 0 ≤ j → j < 100 → 0 ≤ row_0 j ∧ row_0 j ≤ 75) (kz_0_31 : 0 ≤ pn_0 ∧ pn_0 ≤ 25) (kz_0_32 : 0 ≤ pm_0 ∧ pm_0 ≤ 80) (kz_0_45 : 0 ≤ wayMany_0 ∧ wayMany_0 ≤ 30) (kz_0_49 : (-1) ≤ onlyPiece_0 ∧ onlyPiece_0 ≤ 79) (kz_0_125 : 0 ≤ rowMany_0 ∧ rowMany_0 ≤ 100) (ex2 : gx = 0 + (1 * x4 + 0)) (ex3 : (-2) ≤ gx ∧ gx ≤ 26) : STB (pn_0) (pm_0) (pt_0) (ph_0) (alive_0) := by
  first | assumption
set_option maxHeartbeats 4000000 in
theorem vc_Mo_stOrder_24_2 (x1 : Int) (x2 : Int) (x3 : Int) (x4 : Int) (x5 : Int) (x8 : Int) (x9 : Int) (wayMany_0 : Int) (drawnNode_0 : Int → Int) (pn_0 : Int) (pt_0 : Int → Int) (ph_0 : Int → Int) (pm_0 : Int) (alive_0 : Int → Int) (row_0 : Int → Int) (rowMany_0 : Int) (onlyPiece_0 : Int) (drawnEdge_0 : Int → Int) (pieceOf_0 : Int → Int) (bestWay_0 : Int → Int) (way_0 : Int → Int) (gx : Int) (k1 : 3 ≤ x1 ∧ x1 ≤ 29) (k2 : 0 ≤ x2 ∧ x2 ≤ 24) (k3 : 0 ≤ x3 ∧ x3 ≤ 24) (k4 : (-2) ≤ x4 ∧ x4 ≤ 26) (k5 : 1 ≤ x5 ∧ x5 ≤ 25) (k8 : 1 ≤ x8 ∧ x8 ≤ 1) (k9 : 2 ≤ x9 ∧ x9 ≤ 28) (d0 : x9 + 0 ≤ x1 ∧ x1 ≤ x9 + 0) (d1 : x1 + (-4294967296) ≤ x9 ∧ x9 ≤ x1 + (-1)) (d2 : x5 + (-4294967296) ≤ x3 ∧ x3 ≤ x5 + (-1)) (f0 : x1 = x9) (g1 : x9 = wayMany_0) (f2 : x9 < x1) (f3 : x1 ≠ 0) (f4 : x9 ≠ 0) (f5 : drawnNode_0 (x3) ≠ 0) (f6 : 1 * x3 + ((-1) * pn_0 + 0) ≤ (-1)) (f7 : GOK (pn_0) (pm_0) (pt_0) (ph_0)) (f8 : STB (pn_0) (pm_0) (pt_0) (ph_0) (alive_0)) (f9 : STR (pn_0) (rowMany_0) (pt_0) (ph_0) (row_0)) (f10 : onlyPiece_0 = (-1)) (f11 : (-1) * rowMany_0 + ((-1) * x4 + 0) ≤ (-26)) (f12 : DRR (pn_0) (rowMany_0) (drawnNode_0) (row_0)) (f13 : DEM (pm_0) (pt_0) (ph_0) (drawnNode_0) (drawnEdge_0)) (f14 : UA (pm_0) (alive_0) (drawnEdge_0)) (f15 : (rowMany_0 + 1) ≤ pn_0) (f16 : SB1 (pn_0) (pm_0) (onlyPiece_0) (pt_0) (ph_0) (drawnEdge_0) (pieceOf_0) (drawnNode_0) (bestWay_0) (x1) (x2) (x3)) (f17 : 1 * x2 + ((-1) * pn_0 + 0) ≤ (-1)) (f18 : drawnNode_0 (x2) ≠ 0) (f19 : SHP (pn_0) (pm_0) (onlyPiece_0) (wayMany_0) (pt_0) (ph_0) (alive_0) (drawnEdge_0) (pieceOf_0) (drawnNode_0) (way_0) (x2) (x3) (x8)) (f21 : x3 ≠ x2) (f22 : x3 < x5) (hK_0_33 : ∀ j : Int, 0 ≤ j → j < 80 → 0 ≤ pt_0 j ∧ pt_0 j ≤ 24) (hK_0_34 : ∀ j : Int, 0 ≤ j → j < 80 → 0 ≤ ph_0 j ∧ ph_0 j ≤ 24) (hK_0_35 : ∀ j : Int, 0 ≤ j → j < 80 → 0 ≤ alive_0 j ∧ alive_0 j ≤ 1) (hK_0_42 : ∀ j : Int, 0 ≤ j → j < 26 → 0 ≤ drawnNode_0 j ∧ drawnNode_0 j ≤ 1) (hK_0_43 : ∀ j : Int, 0 ≤ j → j < 80 → 0 ≤ drawnEdge_0 j ∧ drawnEdge_0 j ≤ 1) (hK_0_44 : ∀ j : Int, 0 ≤ j → j < 80 → (-1) ≤ pieceOf_0 j ∧ pieceOf_0 j ≤ 79) (hK_0_46 : ∀ j : Int, 0 ≤ j → j < 30 → 0 ≤ way_0 j ∧ way_0 j ≤ 24) (hK_0_52 : ∀ j : Int, 0 ≤ j → j < 30 → 0 ≤ bestWay_0 j ∧ bestWay_0 j ≤ 24) (hK_0_117 : ∀ j : Int, 0 ≤ j → j < 100 → 0 ≤ row_0 j ∧ row_0 j ≤ 75) (kz_0_31 : 0 ≤ pn_0 ∧ pn_0 ≤ 25) (kz_0_32 : 0 ≤ pm_0 ∧ pm_0 ≤ 80) (kz_0_45 : 0 ≤ wayMany_0 ∧ wayMany_0 ≤ 30) (kz_0_49 : (-1) ≤ onlyPiece_0 ∧ onlyPiece_0 ≤ 79) (kz_0_125 : 0 ≤ rowMany_0 ∧ rowMany_0 ≤ 100) (ex2 : gx = 0 + (1 * x4 + 0)) (ex3 : (-2) ≤ gx ∧ gx ≤ 26) : STR (pn_0) (rowMany_0) (pt_0) (ph_0) (row_0) := by
  first | assumption
set_option maxHeartbeats 4000000 in
theorem vc_Mo_stOrder_24_3 (x1 : Int) (x2 : Int) (x3 : Int) (x4 : Int) (x5 : Int) (x8 : Int) (x9 : Int) (wayMany_0 : Int) (drawnNode_0 : Int → Int) (pn_0 : Int) (pt_0 : Int → Int) (ph_0 : Int → Int) (pm_0 : Int) (alive_0 : Int → Int) (row_0 : Int → Int) (rowMany_0 : Int) (onlyPiece_0 : Int) (drawnEdge_0 : Int → Int) (pieceOf_0 : Int → Int) (bestWay_0 : Int → Int) (way_0 : Int → Int) (gx : Int) (k1 : 3 ≤ x1 ∧ x1 ≤ 29) (k2 : 0 ≤ x2 ∧ x2 ≤ 24) (k3 : 0 ≤ x3 ∧ x3 ≤ 24) (k4 : (-2) ≤ x4 ∧ x4 ≤ 26) (k5 : 1 ≤ x5 ∧ x5 ≤ 25) (k8 : 1 ≤ x8 ∧ x8 ≤ 1) (k9 : 2 ≤ x9 ∧ x9 ≤ 28) (d0 : x9 + 0 ≤ x1 ∧ x1 ≤ x9 + 0) (d1 : x1 + (-4294967296) ≤ x9 ∧ x9 ≤ x1 + (-1)) (d2 : x5 + (-4294967296) ≤ x3 ∧ x3 ≤ x5 + (-1)) (f0 : x1 = x9) (g1 : x9 = wayMany_0) (f2 : x9 < x1) (f3 : x1 ≠ 0) (f4 : x9 ≠ 0) (f5 : drawnNode_0 (x3) ≠ 0) (f6 : 1 * x3 + ((-1) * pn_0 + 0) ≤ (-1)) (f7 : GOK (pn_0) (pm_0) (pt_0) (ph_0)) (f8 : STB (pn_0) (pm_0) (pt_0) (ph_0) (alive_0)) (f9 : STR (pn_0) (rowMany_0) (pt_0) (ph_0) (row_0)) (f10 : onlyPiece_0 = (-1)) (f11 : (-1) * rowMany_0 + ((-1) * x4 + 0) ≤ (-26)) (f12 : DRR (pn_0) (rowMany_0) (drawnNode_0) (row_0)) (f13 : DEM (pm_0) (pt_0) (ph_0) (drawnNode_0) (drawnEdge_0)) (f14 : UA (pm_0) (alive_0) (drawnEdge_0)) (f15 : (rowMany_0 + 1) ≤ pn_0) (f16 : SB1 (pn_0) (pm_0) (onlyPiece_0) (pt_0) (ph_0) (drawnEdge_0) (pieceOf_0) (drawnNode_0) (bestWay_0) (x1) (x2) (x3)) (f17 : 1 * x2 + ((-1) * pn_0 + 0) ≤ (-1)) (f18 : drawnNode_0 (x2) ≠ 0) (f19 : SHP (pn_0) (pm_0) (onlyPiece_0) (wayMany_0) (pt_0) (ph_0) (alive_0) (drawnEdge_0) (pieceOf_0) (drawnNode_0) (way_0) (x2) (x3) (x8)) (f21 : x3 ≠ x2) (f22 : x3 < x5) (hK_0_33 : ∀ j : Int, 0 ≤ j → j < 80 → 0 ≤ pt_0 j ∧ pt_0 j ≤ 24) (hK_0_34 : ∀ j : Int, 0 ≤ j → j < 80 → 0 ≤ ph_0 j ∧ ph_0 j ≤ 24) (hK_0_35 : ∀ j : Int, 0 ≤ j → j < 80 → 0 ≤ alive_0 j ∧ alive_0 j ≤ 1) (hK_0_42 : ∀ j : Int, 0 ≤ j → j < 26 → 0 ≤ drawnNode_0 j ∧ drawnNode_0 j ≤ 1) (hK_0_43 : ∀ j : Int, 0 ≤ j → j < 80 → 0 ≤ drawnEdge_0 j ∧ drawnEdge_0 j ≤ 1) (hK_0_44 : ∀ j : Int, 0 ≤ j → j < 80 → (-1) ≤ pieceOf_0 j ∧ pieceOf_0 j ≤ 79) (hK_0_46 : ∀ j : Int, 0 ≤ j → j < 30 → 0 ≤ way_0 j ∧ way_0 j ≤ 24) (hK_0_52 : ∀ j : Int, 0 ≤ j → j < 30 → 0 ≤ bestWay_0 j ∧ bestWay_0 j ≤ 24) (hK_0_117 : ∀ j : Int, 0 ≤ j → j < 100 → 0 ≤ row_0 j ∧ row_0 j ≤ 75) (kz_0_31 : 0 ≤ pn_0 ∧ pn_0 ≤ 25) (kz_0_32 : 0 ≤ pm_0 ∧ pm_0 ≤ 80) (kz_0_45 : 0 ≤ wayMany_0 ∧ wayMany_0 ≤ 30) (kz_0_49 : (-1) ≤ onlyPiece_0 ∧ onlyPiece_0 ≤ 79) (kz_0_125 : 0 ≤ rowMany_0 ∧ rowMany_0 ≤ 100) (ex2 : gx = 0 + (1 * x4 + 0)) (ex3 : (-2) ≤ gx ∧ gx ≤ 26) : onlyPiece_0 = (-1) := by
  first
    | omega
    | (have h := ‹STB _ _ _ _ _›.1.2.2; omega)
    | (have h := ‹STR _ _ _ _ _›.1; omega)
    | (have h := ‹STR _ _ _ _ _›.1
       have w := ‹STR _ _ _ _ _›.2.1 x1 (by omega) (by omega)
       omega)
    | (have h := bc_len ‹BC1 _ _ _ _ _ _ _›
       have h2 := ‹STR _ _ _ _ _›.1
       omega)
    | (have h := (sb_way ‹SB1 _ _ _ _ _ _ _ _ _ _ _ _› (by omega)).1
       have h2 := ‹STR _ _ _ _ _›.1
       omega)
    | (have h := ‹WYM _ _ _ _›.1
       have h2 := ‹STR _ _ _ _ _›.1
       omega)
set_option maxHeartbeats 4000000 in
theorem vc_Mo_stOrder_24_4 (x1 : Int) (x2 : Int) (x3 : Int) (x4 : Int) (x5 : Int) (x8 : Int) (x9 : Int) (wayMany_0 : Int) (drawnNode_0 : Int → Int) (pn_0 : Int) (pt_0 : Int → Int) (ph_0 : Int → Int) (pm_0 : Int) (alive_0 : Int → Int) (row_0 : Int → Int) (rowMany_0 : Int) (onlyPiece_0 : Int) (drawnEdge_0 : Int → Int) (pieceOf_0 : Int → Int) (bestWay_0 : Int → Int) (way_0 : Int → Int) (gx : Int) (k1 : 3 ≤ x1 ∧ x1 ≤ 29) (k2 : 0 ≤ x2 ∧ x2 ≤ 24) (k3 : 0 ≤ x3 ∧ x3 ≤ 24) (k4 : (-2) ≤ x4 ∧ x4 ≤ 26) (k5 : 1 ≤ x5 ∧ x5 ≤ 25) (k8 : 1 ≤ x8 ∧ x8 ≤ 1) (k9 : 2 ≤ x9 ∧ x9 ≤ 28) (d0 : x9 + 0 ≤ x1 ∧ x1 ≤ x9 + 0) (d1 : x1 + (-4294967296) ≤ x9 ∧ x9 ≤ x1 + (-1)) (d2 : x5 + (-4294967296) ≤ x3 ∧ x3 ≤ x5 + (-1)) (f0 : x1 = x9) (g1 : x9 = wayMany_0) (f2 : x9 < x1) (f3 : x1 ≠ 0) (f4 : x9 ≠ 0) (f5 : drawnNode_0 (x3) ≠ 0) (f6 : 1 * x3 + ((-1) * pn_0 + 0) ≤ (-1)) (f7 : GOK (pn_0) (pm_0) (pt_0) (ph_0)) (f8 : STB (pn_0) (pm_0) (pt_0) (ph_0) (alive_0)) (f9 : STR (pn_0) (rowMany_0) (pt_0) (ph_0) (row_0)) (f10 : onlyPiece_0 = (-1)) (f11 : (-1) * rowMany_0 + ((-1) * x4 + 0) ≤ (-26)) (f12 : DRR (pn_0) (rowMany_0) (drawnNode_0) (row_0)) (f13 : DEM (pm_0) (pt_0) (ph_0) (drawnNode_0) (drawnEdge_0)) (f14 : UA (pm_0) (alive_0) (drawnEdge_0)) (f15 : (rowMany_0 + 1) ≤ pn_0) (f16 : SB1 (pn_0) (pm_0) (onlyPiece_0) (pt_0) (ph_0) (drawnEdge_0) (pieceOf_0) (drawnNode_0) (bestWay_0) (x1) (x2) (x3)) (f17 : 1 * x2 + ((-1) * pn_0 + 0) ≤ (-1)) (f18 : drawnNode_0 (x2) ≠ 0) (f19 : SHP (pn_0) (pm_0) (onlyPiece_0) (wayMany_0) (pt_0) (ph_0) (alive_0) (drawnEdge_0) (pieceOf_0) (drawnNode_0) (way_0) (x2) (x3) (x8)) (f21 : x3 ≠ x2) (f22 : x3 < x5) (hK_0_33 : ∀ j : Int, 0 ≤ j → j < 80 → 0 ≤ pt_0 j ∧ pt_0 j ≤ 24) (hK_0_34 : ∀ j : Int, 0 ≤ j → j < 80 → 0 ≤ ph_0 j ∧ ph_0 j ≤ 24) (hK_0_35 : ∀ j : Int, 0 ≤ j → j < 80 → 0 ≤ alive_0 j ∧ alive_0 j ≤ 1) (hK_0_42 : ∀ j : Int, 0 ≤ j → j < 26 → 0 ≤ drawnNode_0 j ∧ drawnNode_0 j ≤ 1) (hK_0_43 : ∀ j : Int, 0 ≤ j → j < 80 → 0 ≤ drawnEdge_0 j ∧ drawnEdge_0 j ≤ 1) (hK_0_44 : ∀ j : Int, 0 ≤ j → j < 80 → (-1) ≤ pieceOf_0 j ∧ pieceOf_0 j ≤ 79) (hK_0_46 : ∀ j : Int, 0 ≤ j → j < 30 → 0 ≤ way_0 j ∧ way_0 j ≤ 24) (hK_0_52 : ∀ j : Int, 0 ≤ j → j < 30 → 0 ≤ bestWay_0 j ∧ bestWay_0 j ≤ 24) (hK_0_117 : ∀ j : Int, 0 ≤ j → j < 100 → 0 ≤ row_0 j ∧ row_0 j ≤ 75) (kz_0_31 : 0 ≤ pn_0 ∧ pn_0 ≤ 25) (kz_0_32 : 0 ≤ pm_0 ∧ pm_0 ≤ 80) (kz_0_45 : 0 ≤ wayMany_0 ∧ wayMany_0 ≤ 30) (kz_0_49 : (-1) ≤ onlyPiece_0 ∧ onlyPiece_0 ≤ 79) (kz_0_125 : 0 ≤ rowMany_0 ∧ rowMany_0 ≤ 100) (ex2 : gx = 0 + (1 * x4 + 0)) (ex3 : (-2) ≤ gx ∧ gx ≤ 26) : (-1) * rowMany_0 + ((-1) * gx + 0) ≤ (-26) := by
  first
    | omega
    | (have h := ‹STB _ _ _ _ _›.1.2.2; omega)
    | (have h := ‹STR _ _ _ _ _›.1; omega)
    | (have h := ‹STR _ _ _ _ _›.1
       have w := ‹STR _ _ _ _ _›.2.1 x1 (by omega) (by omega)
       omega)
    | (have h := bc_len ‹BC1 _ _ _ _ _ _ _›
       have h2 := ‹STR _ _ _ _ _›.1
       omega)
    | (have h := (sb_way ‹SB1 _ _ _ _ _ _ _ _ _ _ _ _› (by omega)).1
       have h2 := ‹STR _ _ _ _ _›.1
       omega)
    | (have h := ‹WYM _ _ _ _›.1
       have h2 := ‹STR _ _ _ _ _›.1
       omega)
set_option maxHeartbeats 4000000 in
theorem vc_Mo_stOrder_24_5 (x1 : Int) (x2 : Int) (x3 : Int) (x4 : Int) (x5 : Int) (x8 : Int) (x9 : Int) (wayMany_0 : Int) (drawnNode_0 : Int → Int) (pn_0 : Int) (pt_0 : Int → Int) (ph_0 : Int → Int) (pm_0 : Int) (alive_0 : Int → Int) (row_0 : Int → Int) (rowMany_0 : Int) (onlyPiece_0 : Int) (drawnEdge_0 : Int → Int) (pieceOf_0 : Int → Int) (bestWay_0 : Int → Int) (way_0 : Int → Int) (gx : Int) (k1 : 3 ≤ x1 ∧ x1 ≤ 29) (k2 : 0 ≤ x2 ∧ x2 ≤ 24) (k3 : 0 ≤ x3 ∧ x3 ≤ 24) (k4 : (-2) ≤ x4 ∧ x4 ≤ 26) (k5 : 1 ≤ x5 ∧ x5 ≤ 25) (k8 : 1 ≤ x8 ∧ x8 ≤ 1) (k9 : 2 ≤ x9 ∧ x9 ≤ 28) (d0 : x9 + 0 ≤ x1 ∧ x1 ≤ x9 + 0) (d1 : x1 + (-4294967296) ≤ x9 ∧ x9 ≤ x1 + (-1)) (d2 : x5 + (-4294967296) ≤ x3 ∧ x3 ≤ x5 + (-1)) (f0 : x1 = x9) (g1 : x9 = wayMany_0) (f2 : x9 < x1) (f3 : x1 ≠ 0) (f4 : x9 ≠ 0) (f5 : drawnNode_0 (x3) ≠ 0) (f6 : 1 * x3 + ((-1) * pn_0 + 0) ≤ (-1)) (f7 : GOK (pn_0) (pm_0) (pt_0) (ph_0)) (f8 : STB (pn_0) (pm_0) (pt_0) (ph_0) (alive_0)) (f9 : STR (pn_0) (rowMany_0) (pt_0) (ph_0) (row_0)) (f10 : onlyPiece_0 = (-1)) (f11 : (-1) * rowMany_0 + ((-1) * x4 + 0) ≤ (-26)) (f12 : DRR (pn_0) (rowMany_0) (drawnNode_0) (row_0)) (f13 : DEM (pm_0) (pt_0) (ph_0) (drawnNode_0) (drawnEdge_0)) (f14 : UA (pm_0) (alive_0) (drawnEdge_0)) (f15 : (rowMany_0 + 1) ≤ pn_0) (f16 : SB1 (pn_0) (pm_0) (onlyPiece_0) (pt_0) (ph_0) (drawnEdge_0) (pieceOf_0) (drawnNode_0) (bestWay_0) (x1) (x2) (x3)) (f17 : 1 * x2 + ((-1) * pn_0 + 0) ≤ (-1)) (f18 : drawnNode_0 (x2) ≠ 0) (f19 : SHP (pn_0) (pm_0) (onlyPiece_0) (wayMany_0) (pt_0) (ph_0) (alive_0) (drawnEdge_0) (pieceOf_0) (drawnNode_0) (way_0) (x2) (x3) (x8)) (f21 : x3 ≠ x2) (f22 : x3 < x5) (hK_0_33 : ∀ j : Int, 0 ≤ j → j < 80 → 0 ≤ pt_0 j ∧ pt_0 j ≤ 24) (hK_0_34 : ∀ j : Int, 0 ≤ j → j < 80 → 0 ≤ ph_0 j ∧ ph_0 j ≤ 24) (hK_0_35 : ∀ j : Int, 0 ≤ j → j < 80 → 0 ≤ alive_0 j ∧ alive_0 j ≤ 1) (hK_0_42 : ∀ j : Int, 0 ≤ j → j < 26 → 0 ≤ drawnNode_0 j ∧ drawnNode_0 j ≤ 1) (hK_0_43 : ∀ j : Int, 0 ≤ j → j < 80 → 0 ≤ drawnEdge_0 j ∧ drawnEdge_0 j ≤ 1) (hK_0_44 : ∀ j : Int, 0 ≤ j → j < 80 → (-1) ≤ pieceOf_0 j ∧ pieceOf_0 j ≤ 79) (hK_0_46 : ∀ j : Int, 0 ≤ j → j < 30 → 0 ≤ way_0 j ∧ way_0 j ≤ 24) (hK_0_52 : ∀ j : Int, 0 ≤ j → j < 30 → 0 ≤ bestWay_0 j ∧ bestWay_0 j ≤ 24) (hK_0_117 : ∀ j : Int, 0 ≤ j → j < 100 → 0 ≤ row_0 j ∧ row_0 j ≤ 75) (kz_0_31 : 0 ≤ pn_0 ∧ pn_0 ≤ 25) (kz_0_32 : 0 ≤ pm_0 ∧ pm_0 ≤ 80) (kz_0_45 : 0 ≤ wayMany_0 ∧ wayMany_0 ≤ 30) (kz_0_49 : (-1) ≤ onlyPiece_0 ∧ onlyPiece_0 ≤ 79) (kz_0_125 : 0 ≤ rowMany_0 ∧ rowMany_0 ≤ 100) (ex2 : gx = 0 + (1 * x4 + 0)) (ex3 : (-2) ≤ gx ∧ gx ≤ 26) : DRR (pn_0) (rowMany_0) (drawnNode_0) (row_0) := by
  first | assumption
set_option maxHeartbeats 4000000 in
theorem vc_Mo_stOrder_24_6 (x1 : Int) (x2 : Int) (x3 : Int) (x4 : Int) (x5 : Int) (x8 : Int) (x9 : Int) (wayMany_0 : Int) (drawnNode_0 : Int → Int) (pn_0 : Int) (pt_0 : Int → Int) (ph_0 : Int → Int) (pm_0 : Int) (alive_0 : Int → Int) (row_0 : Int → Int) (rowMany_0 : Int) (onlyPiece_0 : Int) (drawnEdge_0 : Int → Int) (pieceOf_0 : Int → Int) (bestWay_0 : Int → Int) (way_0 : Int → Int) (gx : Int) (k1 : 3 ≤ x1 ∧ x1 ≤ 29) (k2 : 0 ≤ x2 ∧ x2 ≤ 24) (k3 : 0 ≤ x3 ∧ x3 ≤ 24) (k4 : (-2) ≤ x4 ∧ x4 ≤ 26) (k5 : 1 ≤ x5 ∧ x5 ≤ 25) (k8 : 1 ≤ x8 ∧ x8 ≤ 1) (k9 : 2 ≤ x9 ∧ x9 ≤ 28) (d0 : x9 + 0 ≤ x1 ∧ x1 ≤ x9 + 0) (d1 : x1 + (-4294967296) ≤ x9 ∧ x9 ≤ x1 + (-1)) (d2 : x5 + (-4294967296) ≤ x3 ∧ x3 ≤ x5 + (-1)) (f0 : x1 = x9) (g1 : x9 = wayMany_0) (f2 : x9 < x1) (f3 : x1 ≠ 0) (f4 : x9 ≠ 0) (f5 : drawnNode_0 (x3) ≠ 0) (f6 : 1 * x3 + ((-1) * pn_0 + 0) ≤ (-1)) (f7 : GOK (pn_0) (pm_0) (pt_0) (ph_0)) (f8 : STB (pn_0) (pm_0) (pt_0) (ph_0) (alive_0)) (f9 : STR (pn_0) (rowMany_0) (pt_0) (ph_0) (row_0)) (f10 : onlyPiece_0 = (-1)) (f11 : (-1) * rowMany_0 + ((-1) * x4 + 0) ≤ (-26)) (f12 : DRR (pn_0) (rowMany_0) (drawnNode_0) (row_0)) (f13 : DEM (pm_0) (pt_0) (ph_0) (drawnNode_0) (drawnEdge_0)) (f14 : UA (pm_0) (alive_0) (drawnEdge_0)) (f15 : (rowMany_0 + 1) ≤ pn_0) (f16 : SB1 (pn_0) (pm_0) (onlyPiece_0) (pt_0) (ph_0) (drawnEdge_0) (pieceOf_0) (drawnNode_0) (bestWay_0) (x1) (x2) (x3)) (f17 : 1 * x2 + ((-1) * pn_0 + 0) ≤ (-1)) (f18 : drawnNode_0 (x2) ≠ 0) (f19 : SHP (pn_0) (pm_0) (onlyPiece_0) (wayMany_0) (pt_0) (ph_0) (alive_0) (drawnEdge_0) (pieceOf_0) (drawnNode_0) (way_0) (x2) (x3) (x8)) (f21 : x3 ≠ x2) (f22 : x3 < x5) (hK_0_33 : ∀ j : Int, 0 ≤ j → j < 80 → 0 ≤ pt_0 j ∧ pt_0 j ≤ 24) (hK_0_34 : ∀ j : Int, 0 ≤ j → j < 80 → 0 ≤ ph_0 j ∧ ph_0 j ≤ 24) (hK_0_35 : ∀ j : Int, 0 ≤ j → j < 80 → 0 ≤ alive_0 j ∧ alive_0 j ≤ 1) (hK_0_42 : ∀ j : Int, 0 ≤ j → j < 26 → 0 ≤ drawnNode_0 j ∧ drawnNode_0 j ≤ 1) (hK_0_43 : ∀ j : Int, 0 ≤ j → j < 80 → 0 ≤ drawnEdge_0 j ∧ drawnEdge_0 j ≤ 1) (hK_0_44 : ∀ j : Int, 0 ≤ j → j < 80 → (-1) ≤ pieceOf_0 j ∧ pieceOf_0 j ≤ 79) (hK_0_46 : ∀ j : Int, 0 ≤ j → j < 30 → 0 ≤ way_0 j ∧ way_0 j ≤ 24) (hK_0_52 : ∀ j : Int, 0 ≤ j → j < 30 → 0 ≤ bestWay_0 j ∧ bestWay_0 j ≤ 24) (hK_0_117 : ∀ j : Int, 0 ≤ j → j < 100 → 0 ≤ row_0 j ∧ row_0 j ≤ 75) (kz_0_31 : 0 ≤ pn_0 ∧ pn_0 ≤ 25) (kz_0_32 : 0 ≤ pm_0 ∧ pm_0 ≤ 80) (kz_0_45 : 0 ≤ wayMany_0 ∧ wayMany_0 ≤ 30) (kz_0_49 : (-1) ≤ onlyPiece_0 ∧ onlyPiece_0 ≤ 79) (kz_0_125 : 0 ≤ rowMany_0 ∧ rowMany_0 ≤ 100) (ex2 : gx = 0 + (1 * x4 + 0)) (ex3 : (-2) ≤ gx ∧ gx ≤ 26) : DEM (pm_0) (pt_0) (ph_0) (drawnNode_0) (drawnEdge_0) := by
  first | assumption
set_option maxHeartbeats 4000000 in
theorem vc_Mo_stOrder_24_7 (x1 : Int) (x2 : Int) (x3 : Int) (x4 : Int) (x5 : Int) (x8 : Int) (x9 : Int) (wayMany_0 : Int) (drawnNode_0 : Int → Int) (pn_0 : Int) (pt_0 : Int → Int) (ph_0 : Int → Int) (pm_0 : Int) (alive_0 : Int → Int) (row_0 : Int → Int) (rowMany_0 : Int) (onlyPiece_0 : Int) (drawnEdge_0 : Int → Int) (pieceOf_0 : Int → Int) (bestWay_0 : Int → Int) (way_0 : Int → Int) (gx : Int) (k1 : 3 ≤ x1 ∧ x1 ≤ 29) (k2 : 0 ≤ x2 ∧ x2 ≤ 24) (k3 : 0 ≤ x3 ∧ x3 ≤ 24) (k4 : (-2) ≤ x4 ∧ x4 ≤ 26) (k5 : 1 ≤ x5 ∧ x5 ≤ 25) (k8 : 1 ≤ x8 ∧ x8 ≤ 1) (k9 : 2 ≤ x9 ∧ x9 ≤ 28) (d0 : x9 + 0 ≤ x1 ∧ x1 ≤ x9 + 0) (d1 : x1 + (-4294967296) ≤ x9 ∧ x9 ≤ x1 + (-1)) (d2 : x5 + (-4294967296) ≤ x3 ∧ x3 ≤ x5 + (-1)) (f0 : x1 = x9) (g1 : x9 = wayMany_0) (f2 : x9 < x1) (f3 : x1 ≠ 0) (f4 : x9 ≠ 0) (f5 : drawnNode_0 (x3) ≠ 0) (f6 : 1 * x3 + ((-1) * pn_0 + 0) ≤ (-1)) (f7 : GOK (pn_0) (pm_0) (pt_0) (ph_0)) (f8 : STB (pn_0) (pm_0) (pt_0) (ph_0) (alive_0)) (f9 : STR (pn_0) (rowMany_0) (pt_0) (ph_0) (row_0)) (f10 : onlyPiece_0 = (-1)) (f11 : (-1) * rowMany_0 + ((-1) * x4 + 0) ≤ (-26)) (f12 : DRR (pn_0) (rowMany_0) (drawnNode_0) (row_0)) (f13 : DEM (pm_0) (pt_0) (ph_0) (drawnNode_0) (drawnEdge_0)) (f14 : UA (pm_0) (alive_0) (drawnEdge_0)) (f15 : (rowMany_0 + 1) ≤ pn_0) (f16 : SB1 (pn_0) (pm_0) (onlyPiece_0) (pt_0) (ph_0) (drawnEdge_0) (pieceOf_0) (drawnNode_0) (bestWay_0) (x1) (x2) (x3)) (f17 : 1 * x2 + ((-1) * pn_0 + 0) ≤ (-1)) (f18 : drawnNode_0 (x2) ≠ 0) (f19 : SHP (pn_0) (pm_0) (onlyPiece_0) (wayMany_0) (pt_0) (ph_0) (alive_0) (drawnEdge_0) (pieceOf_0) (drawnNode_0) (way_0) (x2) (x3) (x8)) (f21 : x3 ≠ x2) (f22 : x3 < x5) (hK_0_33 : ∀ j : Int, 0 ≤ j → j < 80 → 0 ≤ pt_0 j ∧ pt_0 j ≤ 24) (hK_0_34 : ∀ j : Int, 0 ≤ j → j < 80 → 0 ≤ ph_0 j ∧ ph_0 j ≤ 24) (hK_0_35 : ∀ j : Int, 0 ≤ j → j < 80 → 0 ≤ alive_0 j ∧ alive_0 j ≤ 1) (hK_0_42 : ∀ j : Int, 0 ≤ j → j < 26 → 0 ≤ drawnNode_0 j ∧ drawnNode_0 j ≤ 1) (hK_0_43 : ∀ j : Int, 0 ≤ j → j < 80 → 0 ≤ drawnEdge_0 j ∧ drawnEdge_0 j ≤ 1) (hK_0_44 : ∀ j : Int, 0 ≤ j → j < 80 → (-1) ≤ pieceOf_0 j ∧ pieceOf_0 j ≤ 79) (hK_0_46 : ∀ j : Int, 0 ≤ j → j < 30 → 0 ≤ way_0 j ∧ way_0 j ≤ 24) (hK_0_52 : ∀ j : Int, 0 ≤ j → j < 30 → 0 ≤ bestWay_0 j ∧ bestWay_0 j ≤ 24) (hK_0_117 : ∀ j : Int, 0 ≤ j → j < 100 → 0 ≤ row_0 j ∧ row_0 j ≤ 75) (kz_0_31 : 0 ≤ pn_0 ∧ pn_0 ≤ 25) (kz_0_32 : 0 ≤ pm_0 ∧ pm_0 ≤ 80) (kz_0_45 : 0 ≤ wayMany_0 ∧ wayMany_0 ≤ 30) (kz_0_49 : (-1) ≤ onlyPiece_0 ∧ onlyPiece_0 ≤ 79) (kz_0_125 : 0 ≤ rowMany_0 ∧ rowMany_0 ≤ 100) (ex2 : gx = 0 + (1 * x4 + 0)) (ex3 : (-2) ≤ gx ∧ gx ≤ 26) : UA (pm_0) (alive_0) (drawnEdge_0) := by
  first | assumption
set_option maxHeartbeats 4000000 in
theorem vc_Mo_stOrder_24_8 (x1 : Int) (x2 : Int) (x3 : Int) (x4 : Int) (x5 : Int) (x8 : Int) (x9 : Int) (wayMany_0 : Int) (drawnNode_0 : Int → Int) (pn_0 : Int) (pt_0 : Int → Int) (ph_0 : Int → Int) (pm_0 : Int) (alive_0 : Int → Int) (row_0 : Int → Int) (rowMany_0 : Int) (onlyPiece_0 : Int) (drawnEdge_0 : Int → Int) (pieceOf_0 : Int → Int) (bestWay_0 : Int → Int) (way_0 : Int → Int) (gx : Int) (k1 : 3 ≤ x1 ∧ x1 ≤ 29) (k2 : 0 ≤ x2 ∧ x2 ≤ 24) (k3 : 0 ≤ x3 ∧ x3 ≤ 24) (k4 : (-2) ≤ x4 ∧ x4 ≤ 26) (k5 : 1 ≤ x5 ∧ x5 ≤ 25) (k8 : 1 ≤ x8 ∧ x8 ≤ 1) (k9 : 2 ≤ x9 ∧ x9 ≤ 28) (d0 : x9 + 0 ≤ x1 ∧ x1 ≤ x9 + 0) (d1 : x1 + (-4294967296) ≤ x9 ∧ x9 ≤ x1 + (-1)) (d2 : x5 + (-4294967296) ≤ x3 ∧ x3 ≤ x5 + (-1)) (f0 : x1 = x9) (g1 : x9 = wayMany_0) (f2 : x9 < x1) (f3 : x1 ≠ 0) (f4 : x9 ≠ 0) (f5 : drawnNode_0 (x3) ≠ 0) (f6 : 1 * x3 + ((-1) * pn_0 + 0) ≤ (-1)) (f7 : GOK (pn_0) (pm_0) (pt_0) (ph_0)) (f8 : STB (pn_0) (pm_0) (pt_0) (ph_0) (alive_0)) (f9 : STR (pn_0) (rowMany_0) (pt_0) (ph_0) (row_0)) (f10 : onlyPiece_0 = (-1)) (f11 : (-1) * rowMany_0 + ((-1) * x4 + 0) ≤ (-26)) (f12 : DRR (pn_0) (rowMany_0) (drawnNode_0) (row_0)) (f13 : DEM (pm_0) (pt_0) (ph_0) (drawnNode_0) (drawnEdge_0)) (f14 : UA (pm_0) (alive_0) (drawnEdge_0)) (f15 : (rowMany_0 + 1) ≤ pn_0) (f16 : SB1 (pn_0) (pm_0) (onlyPiece_0) (pt_0) (ph_0) (drawnEdge_0) (pieceOf_0) (drawnNode_0) (bestWay_0) (x1) (x2) (x3)) (f17 : 1 * x2 + ((-1) * pn_0 + 0) ≤ (-1)) (f18 : drawnNode_0 (x2) ≠ 0) (f19 : SHP (pn_0) (pm_0) (onlyPiece_0) (wayMany_0) (pt_0) (ph_0) (alive_0) (drawnEdge_0) (pieceOf_0) (drawnNode_0) (way_0) (x2) (x3) (x8)) (f21 : x3 ≠ x2) (f22 : x3 < x5) (hK_0_33 : ∀ j : Int, 0 ≤ j → j < 80 → 0 ≤ pt_0 j ∧ pt_0 j ≤ 24) (hK_0_34 : ∀ j : Int, 0 ≤ j → j < 80 → 0 ≤ ph_0 j ∧ ph_0 j ≤ 24) (hK_0_35 : ∀ j : Int, 0 ≤ j → j < 80 → 0 ≤ alive_0 j ∧ alive_0 j ≤ 1) (hK_0_42 : ∀ j : Int, 0 ≤ j → j < 26 → 0 ≤ drawnNode_0 j ∧ drawnNode_0 j ≤ 1) (hK_0_43 : ∀ j : Int, 0 ≤ j → j < 80 → 0 ≤ drawnEdge_0 j ∧ drawnEdge_0 j ≤ 1) (hK_0_44 : ∀ j : Int, 0 ≤ j → j < 80 → (-1) ≤ pieceOf_0 j ∧ pieceOf_0 j ≤ 79) (hK_0_46 : ∀ j : Int, 0 ≤ j → j < 30 → 0 ≤ way_0 j ∧ way_0 j ≤ 24) (hK_0_52 : ∀ j : Int, 0 ≤ j → j < 30 → 0 ≤ bestWay_0 j ∧ bestWay_0 j ≤ 24) (hK_0_117 : ∀ j : Int, 0 ≤ j → j < 100 → 0 ≤ row_0 j ∧ row_0 j ≤ 75) (kz_0_31 : 0 ≤ pn_0 ∧ pn_0 ≤ 25) (kz_0_32 : 0 ≤ pm_0 ∧ pm_0 ≤ 80) (kz_0_45 : 0 ≤ wayMany_0 ∧ wayMany_0 ≤ 30) (kz_0_49 : (-1) ≤ onlyPiece_0 ∧ onlyPiece_0 ≤ 79) (kz_0_125 : 0 ≤ rowMany_0 ∧ rowMany_0 ≤ 100) (ex2 : gx = 0 + (1 * x4 + 0)) (ex3 : (-2) ≤ gx ∧ gx ≤ 26) : (rowMany_0 + 1) ≤ pn_0 := by
  first
    | omega
    | (have h := ‹STB _ _ _ _ _›.1.2.2; omega)
    | (have h := ‹STR _ _ _ _ _›.1; omega)
    | (have h := ‹STR _ _ _ _ _›.1
       have w := ‹STR _ _ _ _ _›.2.1 x1 (by omega) (by omega)
       omega)
    | (have h := bc_len ‹BC1 _ _ _ _ _ _ _›
       have h2 := ‹STR _ _ _ _ _›.1
       omega)
    | (have h := (sb_way ‹SB1 _ _ _ _ _ _ _ _ _ _ _ _› (by omega)).1
       have h2 := ‹STR _ _ _ _ _›.1
       omega)
    | (have h := ‹WYM _ _ _ _›.1
       have h2 := ‹STR _ _ _ _ _›.1
       omega)
set_option maxHeartbeats 4000000 in
theorem vc_Mo_stOrder_24_9 (x1 : Int) (x2 : Int) (x3 : Int) (x4 : Int) (x5 : Int) (x8 : Int) (x9 : Int) (wayMany_0 : Int) (drawnNode_0 : Int → Int) (pn_0 : Int) (pt_0 : Int → Int) (ph_0 : Int → Int) (pm_0 : Int) (alive_0 : Int → Int) (row_0 : Int → Int) (rowMany_0 : Int) (onlyPiece_0 : Int) (drawnEdge_0 : Int → Int) (pieceOf_0 : Int → Int) (bestWay_0 : Int → Int) (way_0 : Int → Int) (gx : Int) (k1 : 3 ≤ x1 ∧ x1 ≤ 29) (k2 : 0 ≤ x2 ∧ x2 ≤ 24) (k3 : 0 ≤ x3 ∧ x3 ≤ 24) (k4 : (-2) ≤ x4 ∧ x4 ≤ 26) (k5 : 1 ≤ x5 ∧ x5 ≤ 25) (k8 : 1 ≤ x8 ∧ x8 ≤ 1) (k9 : 2 ≤ x9 ∧ x9 ≤ 28) (d0 : x9 + 0 ≤ x1 ∧ x1 ≤ x9 + 0) (d1 : x1 + (-4294967296) ≤ x9 ∧ x9 ≤ x1 + (-1)) (d2 : x5 + (-4294967296) ≤ x3 ∧ x3 ≤ x5 + (-1)) (f0 : x1 = x9) (g1 : x9 = wayMany_0) (f2 : x9 < x1) (f3 : x1 ≠ 0) (f4 : x9 ≠ 0) (f5 : drawnNode_0 (x3) ≠ 0) (f6 : 1 * x3 + ((-1) * pn_0 + 0) ≤ (-1)) (f7 : GOK (pn_0) (pm_0) (pt_0) (ph_0)) (f8 : STB (pn_0) (pm_0) (pt_0) (ph_0) (alive_0)) (f9 : STR (pn_0) (rowMany_0) (pt_0) (ph_0) (row_0)) (f10 : onlyPiece_0 = (-1)) (f11 : (-1) * rowMany_0 + ((-1) * x4 + 0) ≤ (-26)) (f12 : DRR (pn_0) (rowMany_0) (drawnNode_0) (row_0)) (f13 : DEM (pm_0) (pt_0) (ph_0) (drawnNode_0) (drawnEdge_0)) (f14 : UA (pm_0) (alive_0) (drawnEdge_0)) (f15 : (rowMany_0 + 1) ≤ pn_0) (f16 : SB1 (pn_0) (pm_0) (onlyPiece_0) (pt_0) (ph_0) (drawnEdge_0) (pieceOf_0) (drawnNode_0) (bestWay_0) (x1) (x2) (x3)) (f17 : 1 * x2 + ((-1) * pn_0 + 0) ≤ (-1)) (f18 : drawnNode_0 (x2) ≠ 0) (f19 : SHP (pn_0) (pm_0) (onlyPiece_0) (wayMany_0) (pt_0) (ph_0) (alive_0) (drawnEdge_0) (pieceOf_0) (drawnNode_0) (way_0) (x2) (x3) (x8)) (f21 : x3 ≠ x2) (f22 : x3 < x5) (hK_0_33 : ∀ j : Int, 0 ≤ j → j < 80 → 0 ≤ pt_0 j ∧ pt_0 j ≤ 24) (hK_0_34 : ∀ j : Int, 0 ≤ j → j < 80 → 0 ≤ ph_0 j ∧ ph_0 j ≤ 24) (hK_0_35 : ∀ j : Int, 0 ≤ j → j < 80 → 0 ≤ alive_0 j ∧ alive_0 j ≤ 1) (hK_0_42 : ∀ j : Int, 0 ≤ j → j < 26 → 0 ≤ drawnNode_0 j ∧ drawnNode_0 j ≤ 1) (hK_0_43 : ∀ j : Int, 0 ≤ j → j < 80 → 0 ≤ drawnEdge_0 j ∧ drawnEdge_0 j ≤ 1) (hK_0_44 : ∀ j : Int, 0 ≤ j → j < 80 → (-1) ≤ pieceOf_0 j ∧ pieceOf_0 j ≤ 79) (hK_0_46 : ∀ j : Int, 0 ≤ j → j < 30 → 0 ≤ way_0 j ∧ way_0 j ≤ 24) (hK_0_52 : ∀ j : Int, 0 ≤ j → j < 30 → 0 ≤ bestWay_0 j ∧ bestWay_0 j ≤ 24) (hK_0_117 : ∀ j : Int, 0 ≤ j → j < 100 → 0 ≤ row_0 j ∧ row_0 j ≤ 75) (kz_0_31 : 0 ≤ pn_0 ∧ pn_0 ≤ 25) (kz_0_32 : 0 ≤ pm_0 ∧ pm_0 ≤ 80) (kz_0_45 : 0 ≤ wayMany_0 ∧ wayMany_0 ≤ 30) (kz_0_49 : (-1) ≤ onlyPiece_0 ∧ onlyPiece_0 ≤ 79) (kz_0_125 : 0 ≤ rowMany_0 ∧ rowMany_0 ≤ 100) (ex2 : gx = 0 + (1 * x4 + 0)) (ex3 : (-2) ≤ gx ∧ gx ≤ 26) : SB1 (pn_0) (pm_0) (onlyPiece_0) (pt_0) (ph_0) (drawnEdge_0) (pieceOf_0) (drawnNode_0) (bestWay_0) (x1) (x2) (x3) := by
  assumption
set_option maxHeartbeats 4000000 in
theorem vc_Mo_stOrder_24_10 (x1 : Int) (x2 : Int) (x3 : Int) (x4 : Int) (x5 : Int) (x8 : Int) (x9 : Int) (wayMany_0 : Int) (drawnNode_0 : Int → Int) (pn_0 : Int) (pt_0 : Int → Int) (ph_0 : Int → Int) (pm_0 : Int) (alive_0 : Int → Int) (row_0 : Int → Int) (rowMany_0 : Int) (onlyPiece_0 : Int) (drawnEdge_0 : Int → Int) (pieceOf_0 : Int → Int) (bestWay_0 : Int → Int) (way_0 : Int → Int) (gx : Int) (k1 : 3 ≤ x1 ∧ x1 ≤ 29) (k2 : 0 ≤ x2 ∧ x2 ≤ 24) (k3 : 0 ≤ x3 ∧ x3 ≤ 24) (k4 : (-2) ≤ x4 ∧ x4 ≤ 26) (k5 : 1 ≤ x5 ∧ x5 ≤ 25) (k8 : 1 ≤ x8 ∧ x8 ≤ 1) (k9 : 2 ≤ x9 ∧ x9 ≤ 28) (d0 : x9 + 0 ≤ x1 ∧ x1 ≤ x9 + 0) (d1 : x1 + (-4294967296) ≤ x9 ∧ x9 ≤ x1 + (-1)) (d2 : x5 + (-4294967296) ≤ x3 ∧ x3 ≤ x5 + (-1)) (f0 : x1 = x9) (g1 : x9 = wayMany_0) (f2 : x9 < x1) (f3 : x1 ≠ 0) (f4 : x9 ≠ 0) (f5 : drawnNode_0 (x3) ≠ 0) (f6 : 1 * x3 + ((-1) * pn_0 + 0) ≤ (-1)) (f7 : GOK (pn_0) (pm_0) (pt_0) (ph_0)) (f8 : STB (pn_0) (pm_0) (pt_0) (ph_0) (alive_0)) (f9 : STR (pn_0) (rowMany_0) (pt_0) (ph_0) (row_0)) (f10 : onlyPiece_0 = (-1)) (f11 : (-1) * rowMany_0 + ((-1) * x4 + 0) ≤ (-26)) (f12 : DRR (pn_0) (rowMany_0) (drawnNode_0) (row_0)) (f13 : DEM (pm_0) (pt_0) (ph_0) (drawnNode_0) (drawnEdge_0)) (f14 : UA (pm_0) (alive_0) (drawnEdge_0)) (f15 : (rowMany_0 + 1) ≤ pn_0) (f16 : SB1 (pn_0) (pm_0) (onlyPiece_0) (pt_0) (ph_0) (drawnEdge_0) (pieceOf_0) (drawnNode_0) (bestWay_0) (x1) (x2) (x3)) (f17 : 1 * x2 + ((-1) * pn_0 + 0) ≤ (-1)) (f18 : drawnNode_0 (x2) ≠ 0) (f19 : SHP (pn_0) (pm_0) (onlyPiece_0) (wayMany_0) (pt_0) (ph_0) (alive_0) (drawnEdge_0) (pieceOf_0) (drawnNode_0) (way_0) (x2) (x3) (x8)) (f21 : x3 ≠ x2) (f22 : x3 < x5) (hK_0_33 : ∀ j : Int, 0 ≤ j → j < 80 → 0 ≤ pt_0 j ∧ pt_0 j ≤ 24) (hK_0_34 : ∀ j : Int, 0 ≤ j → j < 80 → 0 ≤ ph_0 j ∧ ph_0 j ≤ 24) (hK_0_35 : ∀ j : Int, 0 ≤ j → j < 80 → 0 ≤ alive_0 j ∧ alive_0 j ≤ 1) (hK_0_42 : ∀ j : Int, 0 ≤ j → j < 26 → 0 ≤ drawnNode_0 j ∧ drawnNode_0 j ≤ 1) (hK_0_43 : ∀ j : Int, 0 ≤ j → j < 80 → 0 ≤ drawnEdge_0 j ∧ drawnEdge_0 j ≤ 1) (hK_0_44 : ∀ j : Int, 0 ≤ j → j < 80 → (-1) ≤ pieceOf_0 j ∧ pieceOf_0 j ≤ 79) (hK_0_46 : ∀ j : Int, 0 ≤ j → j < 30 → 0 ≤ way_0 j ∧ way_0 j ≤ 24) (hK_0_52 : ∀ j : Int, 0 ≤ j → j < 30 → 0 ≤ bestWay_0 j ∧ bestWay_0 j ≤ 24) (hK_0_117 : ∀ j : Int, 0 ≤ j → j < 100 → 0 ≤ row_0 j ∧ row_0 j ≤ 75) (kz_0_31 : 0 ≤ pn_0 ∧ pn_0 ≤ 25) (kz_0_32 : 0 ≤ pm_0 ∧ pm_0 ≤ 80) (kz_0_45 : 0 ≤ wayMany_0 ∧ wayMany_0 ≤ 30) (kz_0_49 : (-1) ≤ onlyPiece_0 ∧ onlyPiece_0 ≤ 79) (kz_0_125 : 0 ≤ rowMany_0 ∧ rowMany_0 ≤ 100) (ex2 : gx = 0 + (1 * x4 + 0)) (ex3 : (-2) ≤ gx ∧ gx ≤ 26) : WYM (pn_0) (wayMany_0) (drawnNode_0) (way_0) := by
  first
    | assumption
    | exact wyg_of ‹DEM _ _ _ _ _› ‹SHP _ _ _ _ _ _ _ _ _ _ _ _ _ _› (by omega) (by omega) (by omega) (by omega) (by omega)
set_option maxHeartbeats 4000000 in
theorem vc_Mo_stOrder_24_11 (x1 : Int) (x2 : Int) (x3 : Int) (x4 : Int) (x5 : Int) (x8 : Int) (x9 : Int) (wayMany_0 : Int) (drawnNode_0 : Int → Int) (pn_0 : Int) (pt_0 : Int → Int) (ph_0 : Int → Int) (pm_0 : Int) (alive_0 : Int → Int) (row_0 : Int → Int) (rowMany_0 : Int) (onlyPiece_0 : Int) (drawnEdge_0 : Int → Int) (pieceOf_0 : Int → Int) (bestWay_0 : Int → Int) (way_0 : Int → Int) (gx : Int) (k1 : 3 ≤ x1 ∧ x1 ≤ 29) (k2 : 0 ≤ x2 ∧ x2 ≤ 24) (k3 : 0 ≤ x3 ∧ x3 ≤ 24) (k4 : (-2) ≤ x4 ∧ x4 ≤ 26) (k5 : 1 ≤ x5 ∧ x5 ≤ 25) (k8 : 1 ≤ x8 ∧ x8 ≤ 1) (k9 : 2 ≤ x9 ∧ x9 ≤ 28) (d0 : x9 + 0 ≤ x1 ∧ x1 ≤ x9 + 0) (d1 : x1 + (-4294967296) ≤ x9 ∧ x9 ≤ x1 + (-1)) (d2 : x5 + (-4294967296) ≤ x3 ∧ x3 ≤ x5 + (-1)) (f0 : x1 = x9) (g1 : x9 = wayMany_0) (f2 : x9 < x1) (f3 : x1 ≠ 0) (f4 : x9 ≠ 0) (f5 : drawnNode_0 (x3) ≠ 0) (f6 : 1 * x3 + ((-1) * pn_0 + 0) ≤ (-1)) (f7 : GOK (pn_0) (pm_0) (pt_0) (ph_0)) (f8 : STB (pn_0) (pm_0) (pt_0) (ph_0) (alive_0)) (f9 : STR (pn_0) (rowMany_0) (pt_0) (ph_0) (row_0)) (f10 : onlyPiece_0 = (-1)) (f11 : (-1) * rowMany_0 + ((-1) * x4 + 0) ≤ (-26)) (f12 : DRR (pn_0) (rowMany_0) (drawnNode_0) (row_0)) (f13 : DEM (pm_0) (pt_0) (ph_0) (drawnNode_0) (drawnEdge_0)) (f14 : UA (pm_0) (alive_0) (drawnEdge_0)) (f15 : (rowMany_0 + 1) ≤ pn_0) (f16 : SB1 (pn_0) (pm_0) (onlyPiece_0) (pt_0) (ph_0) (drawnEdge_0) (pieceOf_0) (drawnNode_0) (bestWay_0) (x1) (x2) (x3)) (f17 : 1 * x2 + ((-1) * pn_0 + 0) ≤ (-1)) (f18 : drawnNode_0 (x2) ≠ 0) (f19 : SHP (pn_0) (pm_0) (onlyPiece_0) (wayMany_0) (pt_0) (ph_0) (alive_0) (drawnEdge_0) (pieceOf_0) (drawnNode_0) (way_0) (x2) (x3) (x8)) (f21 : x3 ≠ x2) (f22 : x3 < x5) (hK_0_33 : ∀ j : Int, 0 ≤ j → j < 80 → 0 ≤ pt_0 j ∧ pt_0 j ≤ 24) (hK_0_34 : ∀ j : Int, 0 ≤ j → j < 80 → 0 ≤ ph_0 j ∧ ph_0 j ≤ 24) (hK_0_35 : ∀ j : Int, 0 ≤ j → j < 80 → 0 ≤ alive_0 j ∧ alive_0 j ≤ 1) (hK_0_42 : ∀ j : Int, 0 ≤ j → j < 26 → 0 ≤ drawnNode_0 j ∧ drawnNode_0 j ≤ 1) (hK_0_43 : ∀ j : Int, 0 ≤ j → j < 80 → 0 ≤ drawnEdge_0 j ∧ drawnEdge_0 j ≤ 1) (hK_0_44 : ∀ j : Int, 0 ≤ j → j < 80 → (-1) ≤ pieceOf_0 j ∧ pieceOf_0 j ≤ 79) (hK_0_46 : ∀ j : Int, 0 ≤ j → j < 30 → 0 ≤ way_0 j ∧ way_0 j ≤ 24) (hK_0_52 : ∀ j : Int, 0 ≤ j → j < 30 → 0 ≤ bestWay_0 j ∧ bestWay_0 j ≤ 24) (hK_0_117 : ∀ j : Int, 0 ≤ j → j < 100 → 0 ≤ row_0 j ∧ row_0 j ≤ 75) (kz_0_31 : 0 ≤ pn_0 ∧ pn_0 ≤ 25) (kz_0_32 : 0 ≤ pm_0 ∧ pm_0 ≤ 80) (kz_0_45 : 0 ≤ wayMany_0 ∧ wayMany_0 ≤ 30) (kz_0_49 : (-1) ≤ onlyPiece_0 ∧ onlyPiece_0 ≤ 79) (kz_0_125 : 0 ≤ rowMany_0 ∧ rowMany_0 ≤ 100) (ex2 : gx = 0 + (1 * x4 + 0)) (ex3 : (-2) ≤ gx ∧ gx ≤ 26) : 1 * x2 + ((-1) * pn_0 + 0) ≤ (-1) := by
  first
    | omega
    | (have h := ‹STB _ _ _ _ _›.1.2.2; omega)
    | (have h := ‹STR _ _ _ _ _›.1; omega)
    | (have h := ‹STR _ _ _ _ _›.1
       have w := ‹STR _ _ _ _ _›.2.1 x1 (by omega) (by omega)
       omega)
    | (have h := bc_len ‹BC1 _ _ _ _ _ _ _›
       have h2 := ‹STR _ _ _ _ _›.1
       omega)
    | (have h := (sb_way ‹SB1 _ _ _ _ _ _ _ _ _ _ _ _› (by omega)).1
       have h2 := ‹STR _ _ _ _ _›.1
       omega)
    | (have h := ‹WYM _ _ _ _›.1
       have h2 := ‹STR _ _ _ _ _›.1
       omega)
set_option maxHeartbeats 4000000 in
theorem vc_Mo_stOrder_24_12 (x1 : Int) (x2 : Int) (x3 : Int) (x4 : Int) (x5 : Int) (x8 : Int) (x9 : Int) (wayMany_0 : Int) (drawnNode_0 : Int → Int) (pn_0 : Int) (pt_0 : Int → Int) (ph_0 : Int → Int) (pm_0 : Int) (alive_0 : Int → Int) (row_0 : Int → Int) (rowMany_0 : Int) (onlyPiece_0 : Int) (drawnEdge_0 : Int → Int) (pieceOf_0 : Int → Int) (bestWay_0 : Int → Int) (way_0 : Int → Int) (gx : Int) (k1 : 3 ≤ x1 ∧ x1 ≤ 29) (k2 : 0 ≤ x2 ∧ x2 ≤ 24) (k3 : 0 ≤ x3 ∧ x3 ≤ 24) (k4 : (-2) ≤ x4 ∧ x4 ≤ 26) (k5 : 1 ≤ x5 ∧ x5 ≤ 25) (k8 : 1 ≤ x8 ∧ x8 ≤ 1) (k9 : 2 ≤ x9 ∧ x9 ≤ 28) (d0 : x9 + 0 ≤ x1 ∧ x1 ≤ x9 + 0) (d1 : x1 + (-4294967296) ≤ x9 ∧ x9 ≤ x1 + (-1)) (d2 : x5 + (-4294967296) ≤ x3 ∧ x3 ≤ x5 + (-1)) (f0 : x1 = x9) (g1 : x9 = wayMany_0) (f2 : x9 < x1) (f3 : x1 ≠ 0) (f4 : x9 ≠ 0) (f5 : drawnNode_0 (x3) ≠ 0) (f6 : 1 * x3 + ((-1) * pn_0 + 0) ≤ (-1)) (f7 : GOK (pn_0) (pm_0) (pt_0) (ph_0)) (f8 : STB (pn_0) (pm_0) (pt_0) (ph_0) (alive_0)) (f9 : STR (pn_0) (rowMany_0) (pt_0) (ph_0) (row_0)) (f10 : onlyPiece_0 = (-1)) (f11 : (-1) * rowMany_0 + ((-1) * x4 + 0) ≤ (-26)) (f12 : DRR (pn_0) (rowMany_0) (drawnNode_0) (row_0)) (f13 : DEM (pm_0) (pt_0) (ph_0) (drawnNode_0) (drawnEdge_0)) (f14 : UA (pm_0) (alive_0) (drawnEdge_0)) (f15 : (rowMany_0 + 1) ≤ pn_0) (f16 : SB1 (pn_0) (pm_0) (onlyPiece_0) (pt_0) (ph_0) (drawnEdge_0) (pieceOf_0) (drawnNode_0) (bestWay_0) (x1) (x2) (x3)) (f17 : 1 * x2 + ((-1) * pn_0 + 0) ≤ (-1)) (f18 : drawnNode_0 (x2) ≠ 0) (f19 : SHP (pn_0) (pm_0) (onlyPiece_0) (wayMany_0) (pt_0) (ph_0) (alive_0) (drawnEdge_0) (pieceOf_0) (drawnNode_0) (way_0) (x2) (x3) (x8)) (f21 : x3 ≠ x2) (f22 : x3 < x5) (hK_0_33 : ∀ j : Int, 0 ≤ j → j < 80 → 0 ≤ pt_0 j ∧ pt_0 j ≤ 24) (hK_0_34 : ∀ j : Int, 0 ≤ j → j < 80 → 0 ≤ ph_0 j ∧ ph_0 j ≤ 24) (hK_0_35 : ∀ j : Int, 0 ≤ j → j < 80 → 0 ≤ alive_0 j ∧ alive_0 j ≤ 1) (hK_0_42 : ∀ j : Int, 0 ≤ j → j < 26 → 0 ≤ drawnNode_0 j ∧ drawnNode_0 j ≤ 1) (hK_0_43 : ∀ j : Int, 0 ≤ j → j < 80 → 0 ≤ drawnEdge_0 j ∧ drawnEdge_0 j ≤ 1) (hK_0_44 : ∀ j : Int, 0 ≤ j → j < 80 → (-1) ≤ pieceOf_0 j ∧ pieceOf_0 j ≤ 79) (hK_0_46 : ∀ j : Int, 0 ≤ j → j < 30 → 0 ≤ way_0 j ∧ way_0 j ≤ 24) (hK_0_52 : ∀ j : Int, 0 ≤ j → j < 30 → 0 ≤ bestWay_0 j ∧ bestWay_0 j ≤ 24) (hK_0_117 : ∀ j : Int, 0 ≤ j → j < 100 → 0 ≤ row_0 j ∧ row_0 j ≤ 75) (kz_0_31 : 0 ≤ pn_0 ∧ pn_0 ≤ 25) (kz_0_32 : 0 ≤ pm_0 ∧ pm_0 ≤ 80) (kz_0_45 : 0 ≤ wayMany_0 ∧ wayMany_0 ≤ 30) (kz_0_49 : (-1) ≤ onlyPiece_0 ∧ onlyPiece_0 ≤ 79) (kz_0_125 : 0 ≤ rowMany_0 ∧ rowMany_0 ≤ 100) (ex2 : gx = 0 + (1 * x4 + 0)) (ex3 : (-2) ≤ gx ∧ gx ≤ 26) : 1 * x3 + ((-1) * pn_0 + 0) ≤ (-1) := by
  first
    | omega
    | (have h := ‹STB _ _ _ _ _›.1.2.2; omega)
    | (have h := ‹STR _ _ _ _ _›.1; omega)
    | (have h := ‹STR _ _ _ _ _›.1
       have w := ‹STR _ _ _ _ _›.2.1 x1 (by omega) (by omega)
       omega)
    | (have h := bc_len ‹BC1 _ _ _ _ _ _ _›
       have h2 := ‹STR _ _ _ _ _›.1
       omega)
    | (have h := (sb_way ‹SB1 _ _ _ _ _ _ _ _ _ _ _ _› (by omega)).1
       have h2 := ‹STR _ _ _ _ _›.1
       omega)
    | (have h := ‹WYM _ _ _ _›.1
       have h2 := ‹STR _ _ _ _ _›.1
       omega)
set_option maxHeartbeats 4000000 in
theorem vc_Mo_stOrder_24_13 (x1 : Int) (x2 : Int) (x3 : Int) (x4 : Int) (x5 : Int) (x8 : Int) (x9 : Int) (wayMany_0 : Int) (drawnNode_0 : Int → Int) (pn_0 : Int) (pt_0 : Int → Int) (ph_0 : Int → Int) (pm_0 : Int) (alive_0 : Int → Int) (row_0 : Int → Int) (rowMany_0 : Int) (onlyPiece_0 : Int) (drawnEdge_0 : Int → Int) (pieceOf_0 : Int → Int) (bestWay_0 : Int → Int) (way_0 : Int → Int) (gx : Int) (k1 : 3 ≤ x1 ∧ x1 ≤ 29) (k2 : 0 ≤ x2 ∧ x2 ≤ 24) (k3 : 0 ≤ x3 ∧ x3 ≤ 24) (k4 : (-2) ≤ x4 ∧ x4 ≤ 26) (k5 : 1 ≤ x5 ∧ x5 ≤ 25) (k8 : 1 ≤ x8 ∧ x8 ≤ 1) (k9 : 2 ≤ x9 ∧ x9 ≤ 28) (d0 : x9 + 0 ≤ x1 ∧ x1 ≤ x9 + 0) (d1 : x1 + (-4294967296) ≤ x9 ∧ x9 ≤ x1 + (-1)) (d2 : x5 + (-4294967296) ≤ x3 ∧ x3 ≤ x5 + (-1)) (f0 : x1 = x9) (g1 : x9 = wayMany_0) (f2 : x9 < x1) (f3 : x1 ≠ 0) (f4 : x9 ≠ 0) (f5 : drawnNode_0 (x3) ≠ 0) (f6 : 1 * x3 + ((-1) * pn_0 + 0) ≤ (-1)) (f7 : GOK (pn_0) (pm_0) (pt_0) (ph_0)) (f8 : STB (pn_0) (pm_0) (pt_0) (ph_0) (alive_0)) (f9 : STR (pn_0) (rowMany_0) (pt_0) (ph_0) (row_0)) (f10 : onlyPiece_0 = (-1)) (f11 : (-1) * rowMany_0 + ((-1) * x4 + 0) ≤ (-26)) (f12 : DRR (pn_0) (rowMany_0) (drawnNode_0) (row_0)) (f13 : DEM (pm_0) (pt_0) (ph_0) (drawnNode_0) (drawnEdge_0)) (f14 : UA (pm_0) (alive_0) (drawnEdge_0)) (f15 : (rowMany_0 + 1) ≤ pn_0) (f16 : SB1 (pn_0) (pm_0) (onlyPiece_0) (pt_0) (ph_0) (drawnEdge_0) (pieceOf_0) (drawnNode_0) (bestWay_0) (x1) (x2) (x3)) (f17 : 1 * x2 + ((-1) * pn_0 + 0) ≤ (-1)) (f18 : drawnNode_0 (x2) ≠ 0) (f19 : SHP (pn_0) (pm_0) (onlyPiece_0) (wayMany_0) (pt_0) (ph_0) (alive_0) (drawnEdge_0) (pieceOf_0) (drawnNode_0) (way_0) (x2) (x3) (x8)) (f21 : x3 ≠ x2) (f22 : x3 < x5) (hK_0_33 : ∀ j : Int, 0 ≤ j → j < 80 → 0 ≤ pt_0 j ∧ pt_0 j ≤ 24) (hK_0_34 : ∀ j : Int, 0 ≤ j → j < 80 → 0 ≤ ph_0 j ∧ ph_0 j ≤ 24) (hK_0_35 : ∀ j : Int, 0 ≤ j → j < 80 → 0 ≤ alive_0 j ∧ alive_0 j ≤ 1) (hK_0_42 : ∀ j : Int, 0 ≤ j → j < 26 → 0 ≤ drawnNode_0 j ∧ drawnNode_0 j ≤ 1) (hK_0_43 : ∀ j : Int, 0 ≤ j → j < 80 → 0 ≤ drawnEdge_0 j ∧ drawnEdge_0 j ≤ 1) (hK_0_44 : ∀ j : Int, 0 ≤ j → j < 80 → (-1) ≤ pieceOf_0 j ∧ pieceOf_0 j ≤ 79) (hK_0_46 : ∀ j : Int, 0 ≤ j → j < 30 → 0 ≤ way_0 j ∧ way_0 j ≤ 24) (hK_0_52 : ∀ j : Int, 0 ≤ j → j < 30 → 0 ≤ bestWay_0 j ∧ bestWay_0 j ≤ 24) (hK_0_117 : ∀ j : Int, 0 ≤ j → j < 100 → 0 ≤ row_0 j ∧ row_0 j ≤ 75) (kz_0_31 : 0 ≤ pn_0 ∧ pn_0 ≤ 25) (kz_0_32 : 0 ≤ pm_0 ∧ pm_0 ≤ 80) (kz_0_45 : 0 ≤ wayMany_0 ∧ wayMany_0 ≤ 30) (kz_0_49 : (-1) ≤ onlyPiece_0 ∧ onlyPiece_0 ≤ 79) (kz_0_125 : 0 ≤ rowMany_0 ∧ rowMany_0 ≤ 100) (ex2 : gx = 0 + (1 * x4 + 0)) (ex3 : (-2) ≤ gx ∧ gx ≤ 26) : drawnNode_0 (x2) ≠ 0 := by
  first
    | omega
    | (have h := ‹STB _ _ _ _ _›.1.2.2; omega)
    | (have h := ‹STR _ _ _ _ _›.1; omega)
    | (have h := ‹STR _ _ _ _ _›.1
       have w := ‹STR _ _ _ _ _›.2.1 x1 (by omega) (by omega)
       omega)
    | (have h := bc_len ‹BC1 _ _ _ _ _ _ _›
       have h2 := ‹STR _ _ _ _ _›.1
       omega)
    | (have h := (sb_way ‹SB1 _ _ _ _ _ _ _ _ _ _ _ _› (by omega)).1
       have h2 := ‹STR _ _ _ _ _›.1
       omega)
    | (have h := ‹WYM _ _ _ _›.1
       have h2 := ‹STR _ _ _ _ _›.1
       omega)
set_option maxHeartbeats 4000000 in
theorem vc_Mo_stOrder_24_14 (x1 : Int) (x2 : Int) (x3 : Int) (x4 : Int) (x5 : Int) (x8 : Int) (x9 : Int) (wayMany_0 : Int) (drawnNode_0 : Int → Int) (pn_0 : Int) (pt_0 : Int → Int) (ph_0 : Int → Int) (pm_0 : Int) (alive_0 : Int → Int) (row_0 : Int → Int) (rowMany_0 : Int) (onlyPiece_0 : Int) (drawnEdge_0 : Int → Int) (pieceOf_0 : Int → Int) (bestWay_0 : Int → Int) (way_0 : Int → Int) (gx : Int) (k1 : 3 ≤ x1 ∧ x1 ≤ 29) (k2 : 0 ≤ x2 ∧ x2 ≤ 24) (k3 : 0 ≤ x3 ∧ x3 ≤ 24) (k4 : (-2) ≤ x4 ∧ x4 ≤ 26) (k5 : 1 ≤ x5 ∧ x5 ≤ 25) (k8 : 1 ≤ x8 ∧ x8 ≤ 1) (k9 : 2 ≤ x9 ∧ x9 ≤ 28) (d0 : x9 + 0 ≤ x1 ∧ x1 ≤ x9 + 0) (d1 : x1 + (-4294967296) ≤ x9 ∧ x9 ≤ x1 + (-1)) (d2 : x5 + (-4294967296) ≤ x3 ∧ x3 ≤ x5 + (-1)) (f0 : x1 = x9) (g1 : x9 = wayMany_0) (f2 : x9 < x1) (f3 : x1 ≠ 0) (f4 : x9 ≠ 0) (f5 : drawnNode_0 (x3) ≠ 0) (f6 : 1 * x3 + ((-1) * pn_0 + 0) ≤ (-1)) (f7 : GOK (pn_0) (pm_0) (pt_0) (ph_0)) (f8 : STB (pn_0) (pm_0) (pt_0) (ph_0) (alive_0)) (f9 : STR (pn_0) (rowMany_0) (pt_0) (ph_0) (row_0)) (f10 : onlyPiece_0 = (-1)) (f11 : (-1) * rowMany_0 + ((-1) * x4 + 0) ≤ (-26)) (f12 : DRR (pn_0) (rowMany_0) (drawnNode_0) (row_0)) (f13 : DEM (pm_0) (pt_0) (ph_0) (drawnNode_0) (drawnEdge_0)) (f14 : UA (pm_0) (alive_0) (drawnEdge_0)) (f15 : (rowMany_0 + 1) ≤ pn_0) (f16 : SB1 (pn_0) (pm_0) (onlyPiece_0) (pt_0) (ph_0) (drawnEdge_0) (pieceOf_0) (drawnNode_0) (bestWay_0) (x1) (x2) (x3)) (f17 : 1 * x2 + ((-1) * pn_0 + 0) ≤ (-1)) (f18 : drawnNode_0 (x2) ≠ 0) (f19 : SHP (pn_0) (pm_0) (onlyPiece_0) (wayMany_0) (pt_0) (ph_0) (alive_0) (drawnEdge_0) (pieceOf_0) (drawnNode_0) (way_0) (x2) (x3) (x8)) (f21 : x3 ≠ x2) (f22 : x3 < x5) (hK_0_33 : ∀ j : Int, 0 ≤ j → j < 80 → 0 ≤ pt_0 j ∧ pt_0 j ≤ 24) (hK_0_34 : ∀ j : Int, 0 ≤ j → j < 80 → 0 ≤ ph_0 j ∧ ph_0 j ≤ 24) (hK_0_35 : ∀ j : Int, 0 ≤ j → j < 80 → 0 ≤ alive_0 j ∧ alive_0 j ≤ 1) (hK_0_42 : ∀ j : Int, 0 ≤ j → j < 26 → 0 ≤ drawnNode_0 j ∧ drawnNode_0 j ≤ 1) (hK_0_43 : ∀ j : Int, 0 ≤ j → j < 80 → 0 ≤ drawnEdge_0 j ∧ drawnEdge_0 j ≤ 1) (hK_0_44 : ∀ j : Int, 0 ≤ j → j < 80 → (-1) ≤ pieceOf_0 j ∧ pieceOf_0 j ≤ 79) (hK_0_46 : ∀ j : Int, 0 ≤ j → j < 30 → 0 ≤ way_0 j ∧ way_0 j ≤ 24) (hK_0_52 : ∀ j : Int, 0 ≤ j → j < 30 → 0 ≤ bestWay_0 j ∧ bestWay_0 j ≤ 24) (hK_0_117 : ∀ j : Int, 0 ≤ j → j < 100 → 0 ≤ row_0 j ∧ row_0 j ≤ 75) (kz_0_31 : 0 ≤ pn_0 ∧ pn_0 ≤ 25) (kz_0_32 : 0 ≤ pm_0 ∧ pm_0 ≤ 80) (kz_0_45 : 0 ≤ wayMany_0 ∧ wayMany_0 ≤ 30) (kz_0_49 : (-1) ≤ onlyPiece_0 ∧ onlyPiece_0 ≤ 79) (kz_0_125 : 0 ≤ rowMany_0 ∧ rowMany_0 ≤ 100) (ex2 : gx = 0 + (1 * x4 + 0)) (ex3 : (-2) ≤ gx ∧ gx ≤ 26) : x1 = wayMany_0 := by
  first
    | omega
    | (have h := ‹STB _ _ _ _ _›.1.2.2; omega)
    | (have h := ‹STR _ _ _ _ _›.1; omega)
    | (have h := ‹STR _ _ _ _ _›.1
       have w := ‹STR _ _ _ _ _›.2.1 x1 (by omega) (by omega)
       omega)
    | (have h := bc_len ‹BC1 _ _ _ _ _ _ _›
       have h2 := ‹STR _ _ _ _ _›.1
       omega)
    | (have h := (sb_way ‹SB1 _ _ _ _ _ _ _ _ _ _ _ _› (by omega)).1
       have h2 := ‹STR _ _ _ _ _›.1
       omega)
    | (have h := ‹WYM _ _ _ _›.1
       have h2 := ‹STR _ _ _ _ _›.1
       omega)
def o_Mo_stOrder_24 : or_T := (253, 12, [(0, (2, 0, 0, [165])), (1, (0, 3, 29, [])), (2, (0, 0, 24, [])), (3, (0, 0, 24, [])), (4, (0, -2, 26, [])), (5, (0, 1, 25, [])), (8, (0, 1, 1, [])), (9, (0, 2, 28, []))], [(7, [1, 9], [0]), (9, [9, 0], [45]), (7, [9, 1], [2]), (8, [1], [1]), (8, [9], [1]), (20, [0, 3], [50, 0, 1, 42, 7, 5, 3, 0, 42, 1, 1, 0, 0]), (20, [3, 0], [30, -1, 1, 0, 0, -1, 1, 31]), (20, [0], [60, 2, 2, 75, 31, 32, 33, 34]), (20, [0], [60, 2, 3, 297, 31, 32, 33, 34, 35]), (20, [0], [60, 2, 3, 298, 31, 125, 33, 34, 117]), (20, [0], [50, 1, 0, 49, 1, 3, 2, 0, 49, 0, -1]), (20, [0, 4], [30, -26, -1, 1, 125, -1, 0, 0]), (20, [0], [60, 2, 2, 301, 31, 125, 42, 117]), (20, [0], [60, 1, 4, 303, 32, 33, 34, 42, 43]), (20, [0], [60, 1, 2, 122, 32, 35, 43]), (20, [0], [50, 2, 0, 125, 31, 0, 7, 4, 3, 2, 0, 125, 0, 1, 2, 0, 31]), (20, [0, 1, 2, 3], [60, 3, 6, 306, 31, 32, 49, 33, 34, 43, 44, 42, 52]), (20, [2, 0], [30, -1, 1, 0, 0, -1, 1, 31]), (20, [0, 2], [50, 0, 1, 42, 7, 5, 3, 0, 42, 1, 1, 0, 0]), (20, [0, 2, 3, 8], [60, 4, 7, 130, 31, 32, 49, 45, 33, 34, 35, 43, 44, 42, 46]), (102, [8], [9415652603080021145753684134811499624153533166696051769344, 165045]), (7, [3, 2], [1]), (7, [3, 5], [2])], [], [(0, -2, 26, [])], [(20, [0], [60, 2, 2, 75, 31, 32, 33, 34]), (20, [0], [60, 2, 3, 297, 31, 32, 33, 34, 35]), (20, [0], [60, 2, 3, 298, 31, 125, 33, 34, 117]), (20, [0], [50, 1, 0, 49, 1, 3, 2, 0, 49, 0, -1]), (20, [0, 12], [30, -26, -1, 1, 125, -1, 0, 0]), (20, [0], [60, 2, 2, 301, 31, 125, 42, 117]), (20, [0], [60, 1, 4, 303, 32, 33, 34, 42, 43]), (20, [0], [60, 1, 2, 122, 32, 35, 43]), (20, [0], [50, 2, 0, 125, 31, 0, 7, 4, 3, 2, 0, 125, 0, 1, 2, 0, 31]), (20, [0, 1, 2, 3], [60, 3, 6, 306, 31, 32, 49, 33, 34, 43, 44, 42, 52]), (20, [0], [60, 2, 2, 304, 31, 45, 42, 46]), (20, [2, 0], [30, -1, 1, 0, 0, -1, 1, 31]), (20, [3, 0], [30, -1, 1, 0, 0, -1, 1, 31]), (20, [0, 2], [50, 0, 1, 42, 7, 5, 3, 0, 42, 1, 1, 0, 0]), (20, [1, 0], [50, 1, 0, 1045, 1, 2, 1, 0, 2, 1, 45])], [(12, 4, 0, 0)], [(1, 9, 0, 0), (9, 1, -4294967296, -1), (3, 5, -4294967296, -1)])
theorem oo_Mo_stOrder_24 {kA : Nat → ClassId} : or_ok PRD kA GG o_Mo_stOrder_24 := by
  refine or_mk fun A ta ws vs hD hth hl => ?_
  intro t0 r0 t1 k1 t2 k2 t3 k3 t4 k4 t5 k5 t8 k8 t9 k9 d0 d1 d2 f0 f1 f2 f3 f4 f5 f6 f7 f8 f9 f10 f11 f12 f13 f14 f15 f16 f17 f18 f19 ta1 w1 le1 s1 f21 f22
  replace f0 := shm_37 f0
  replace f1 := shm_741 f1
  replace f2 := shm_6 f2
  replace f3 := shm_142 f3
  replace f4 := shm_142 f4
  replace f5 := shm_1762 f5
  replace f6 := shm_553 f6
  replace f7 := shm_575 f7
  replace f8 := shm_1749 f8
  replace f9 := shm_1001 f9
  replace f10 := shm_1675 f10
  replace f11 := shm_1750 f11
  replace f12 := shm_1755 f12
  replace f13 := shm_1757 f13
  replace f14 := shm_1455 f14
  replace f15 := shm_1752 f15
  replace f16 := shm_1761 f16
  replace f17 := shm_553 f17
  replace f18 := shm_1762 f18
  replace f19 := shm_1463 f19
  replace f21 := shm_40 f21
  replace f22 := shm_6 f22
  have cr_0_33 := fdq_117 hD hth r0
  have cr_0_34 := fdq_118 hD hth r0
  have cr_0_35 := fdq_132 hD hth r0
  have cr_0_42 := fdq_136 hD hth r0
  have cr_0_43 := fdq_137 hD hth r0
  have cr_0_44 := fdq_138 hD hth r0
  have cr_0_46 := fdq_190 hD hth r0
  have cr_0_52 := fdq_236 hD hth r0
  have cr_0_117 := fdq_181 hD hth r0
  have g1 : v_iv (n_v vs 9) = w_fi ws (n_v vs 0) 45 := congrArg v_iv f1
  have hK_0_33 := elq_60 hD hth cr_0_33
  have hK_0_34 := elq_61 hD hth cr_0_34
  have hK_0_35 := elq_72 hD hth cr_0_35
  have hK_0_42 := elq_75 hD hth cr_0_42
  have hK_0_43 := elq_76 hD hth cr_0_43
  have hK_0_44 := elq_77 hD hth cr_0_44
  have hK_0_46 := elq_114 hD hth cr_0_46
  have hK_0_52 := elq_147 hD hth cr_0_52
  have hK_0_117 := elq_108 hD hth cr_0_117
  have kz_0_31 := fdq_145 hD hth r0
  have kz_0_32 := fdq_140 hD hth r0
  have kz_0_45 := fdq_191 hD hth r0
  have kz_0_49 := fdq_146 hD hth r0
  have kz_0_125 := fdq_182 hD hth r0
  obtain ⟨x, ex, hx⟩ := iv_ex (ta := ta) (lo := (-2)) (hi := 26) (z := 0 + (1 * v_iv (n_v vs 4) + 0)) (by omega) (by omega) (by omega) (by omega)
  have ex2 : v_iv (Value.int x) = 0 + (1 * v_iv (n_v vs 4) + 0) := ex
  have ex3 : (-2) ≤ v_iv (Value.int x) ∧ v_iv (Value.int x) ≤ 26 := tv_rng hx
  have e_0 : n_v (vs ++ [Value.int x]) 0 = n_v vs 0 := n_v_old (by rw [hl]; decide)
  have e_1 : n_v (vs ++ [Value.int x]) 1 = n_v vs 1 := n_v_old (by rw [hl]; decide)
  have e_2 : n_v (vs ++ [Value.int x]) 2 = n_v vs 2 := n_v_old (by rw [hl]; decide)
  have e_3 : n_v (vs ++ [Value.int x]) 3 = n_v vs 3 := n_v_old (by rw [hl]; decide)
  have e_12 : n_v (vs ++ [Value.int x]) 12 = Value.int x := n_v_new hl
  have nf0 : fc_1 PRD (20, [0], [60, 2, 2, 75, 31, 32, 33, 34]) ws (vs ++ [Value.int x]) := by
    refine ⟨nf_inA hl rfl, sgq_575 ?_⟩
    · show GOK (w_fi ws (n_v (vs ++ [Value.int x]) 0) 31) (w_fi ws (n_v (vs ++ [Value.int x]) 0) 32) (w_ei ws (w_ar ws (n_v (vs ++ [Value.int x]) 0) 33)) (w_ei ws (w_ar ws (n_v (vs ++ [Value.int x]) 0) 34))
      rw [e_0]
      exact vc_Mo_stOrder_24_0 (v_iv (n_v vs 1)) (v_iv (n_v vs 2)) (v_iv (n_v vs 3)) (v_iv (n_v vs 4)) (v_iv (n_v vs 5)) (v_iv (n_v vs 8)) (v_iv (n_v vs 9)) (w_fi ws (n_v vs 0) 45) (w_ei ws (w_ar ws (n_v vs 0) 42)) (w_fi ws (n_v vs 0) 31) (w_ei ws (w_ar ws (n_v vs 0) 33)) (w_ei ws (w_ar ws (n_v vs 0) 34)) (w_fi ws (n_v vs 0) 32) (w_ei ws (w_ar ws (n_v vs 0) 35)) (w_ei ws (w_ar ws (n_v vs 0) 117)) (w_fi ws (n_v vs 0) 125) (w_fi ws (n_v vs 0) 49) (w_ei ws (w_ar ws (n_v vs 0) 43)) (w_ei ws (w_ar ws (n_v vs 0) 44)) (w_ei ws (w_ar ws (n_v vs 0) 52)) (w_ei ws (w_ar ws (n_v vs 0) 46)) (v_iv (Value.int x)) k1 k2 k3 k4 k5 k8 k9 d0 d1 d2 f0 g1 f2 f3 f4 f5 f6 f7 f8 f9 f10 f11 f12 f13 f14 f15 f16 f17 f18 f19 f21 f22 hK_0_33 hK_0_34 hK_0_35 hK_0_42 hK_0_43 hK_0_44 hK_0_46 hK_0_52 hK_0_117 kz_0_31 kz_0_32 kz_0_45 kz_0_49 kz_0_125 ex2 ex3
  have nf1 : fc_1 PRD (20, [0], [60, 2, 3, 297, 31, 32, 33, 34, 35]) ws (vs ++ [Value.int x]) := by
    refine ⟨nf_inA hl rfl, sgq_1749 ?_⟩
    · show STB (w_fi ws (n_v (vs ++ [Value.int x]) 0) 31) (w_fi ws (n_v (vs ++ [Value.int x]) 0) 32) (w_ei ws (w_ar ws (n_v (vs ++ [Value.int x]) 0) 33)) (w_ei ws (w_ar ws (n_v (vs ++ [Value.int x]) 0) 34)) (w_ei ws (w_ar ws (n_v (vs ++ [Value.int x]) 0) 35))
      rw [e_0]
      exact vc_Mo_stOrder_24_1 (v_iv (n_v vs 1)) (v_iv (n_v vs 2)) (v_iv (n_v vs 3)) (v_iv (n_v vs 4)) (v_iv (n_v vs 5)) (v_iv (n_v vs 8)) (v_iv (n_v vs 9)) (w_fi ws (n_v vs 0) 45) (w_ei ws (w_ar ws (n_v vs 0) 42)) (w_fi ws (n_v vs 0) 31) (w_ei ws (w_ar ws (n_v vs 0) 33)) (w_ei ws (w_ar ws (n_v vs 0) 34)) (w_fi ws (n_v vs 0) 32) (w_ei ws (w_ar ws (n_v vs 0) 35)) (w_ei ws (w_ar ws (n_v vs 0) 117)) (w_fi ws (n_v vs 0) 125) (w_fi ws (n_v vs 0) 49) (w_ei ws (w_ar ws (n_v vs 0) 43)) (w_ei ws (w_ar ws (n_v vs 0) 44)) (w_ei ws (w_ar ws (n_v vs 0) 52)) (w_ei ws (w_ar ws (n_v vs 0) 46)) (v_iv (Value.int x)) k1 k2 k3 k4 k5 k8 k9 d0 d1 d2 f0 g1 f2 f3 f4 f5 f6 f7 f8 f9 f10 f11 f12 f13 f14 f15 f16 f17 f18 f19 f21 f22 hK_0_33 hK_0_34 hK_0_35 hK_0_42 hK_0_43 hK_0_44 hK_0_46 hK_0_52 hK_0_117 kz_0_31 kz_0_32 kz_0_45 kz_0_49 kz_0_125 ex2 ex3
  have nf2 : fc_1 PRD (20, [0], [60, 2, 3, 298, 31, 125, 33, 34, 117]) ws (vs ++ [Value.int x]) := by
    refine ⟨nf_inA hl rfl, sgq_1001 ?_⟩
    · show STR (w_fi ws (n_v (vs ++ [Value.int x]) 0) 31) (w_fi ws (n_v (vs ++ [Value.int x]) 0) 125) (w_ei ws (w_ar ws (n_v (vs ++ [Value.int x]) 0) 33)) (w_ei ws (w_ar ws (n_v (vs ++ [Value.int x]) 0) 34)) (w_ei ws (w_ar ws (n_v (vs ++ [Value.int x]) 0) 117))
      rw [e_0]
      exact vc_Mo_stOrder_24_2 (v_iv (n_v vs 1)) (v_iv (n_v vs 2)) (v_iv (n_v vs 3)) (v_iv (n_v vs 4)) (v_iv (n_v vs 5)) (v_iv (n_v vs 8)) (v_iv (n_v vs 9)) (w_fi ws (n_v vs 0) 45) (w_ei ws (w_ar ws (n_v vs 0) 42)) (w_fi ws (n_v vs 0) 31) (w_ei ws (w_ar ws (n_v vs 0) 33)) (w_ei ws (w_ar ws (n_v vs 0) 34)) (w_fi ws (n_v vs 0) 32) (w_ei ws (w_ar ws (n_v vs 0) 35)) (w_ei ws (w_ar ws (n_v vs 0) 117)) (w_fi ws (n_v vs 0) 125) (w_fi ws (n_v vs 0) 49) (w_ei ws (w_ar ws (n_v vs 0) 43)) (w_ei ws (w_ar ws (n_v vs 0) 44)) (w_ei ws (w_ar ws (n_v vs 0) 52)) (w_ei ws (w_ar ws (n_v vs 0) 46)) (v_iv (Value.int x)) k1 k2 k3 k4 k5 k8 k9 d0 d1 d2 f0 g1 f2 f3 f4 f5 f6 f7 f8 f9 f10 f11 f12 f13 f14 f15 f16 f17 f18 f19 f21 f22 hK_0_33 hK_0_34 hK_0_35 hK_0_42 hK_0_43 hK_0_44 hK_0_46 hK_0_52 hK_0_117 kz_0_31 kz_0_32 kz_0_45 kz_0_49 kz_0_125 ex2 ex3
  have nf3 : fc_1 PRD (20, [0], [50, 1, 0, 49, 1, 3, 2, 0, 49, 0, -1]) ws (vs ++ [Value.int x]) := by
    refine ⟨nf_inA hl rfl, sgq_1675 ?_⟩
    · show w_fi ws (n_v (vs ++ [Value.int x]) 0) 49 = (-1)
      rw [e_0]
      exact vc_Mo_stOrder_24_3 (v_iv (n_v vs 1)) (v_iv (n_v vs 2)) (v_iv (n_v vs 3)) (v_iv (n_v vs 4)) (v_iv (n_v vs 5)) (v_iv (n_v vs 8)) (v_iv (n_v vs 9)) (w_fi ws (n_v vs 0) 45) (w_ei ws (w_ar ws (n_v vs 0) 42)) (w_fi ws (n_v vs 0) 31) (w_ei ws (w_ar ws (n_v vs 0) 33)) (w_ei ws (w_ar ws (n_v vs 0) 34)) (w_fi ws (n_v vs 0) 32) (w_ei ws (w_ar ws (n_v vs 0) 35)) (w_ei ws (w_ar ws (n_v vs 0) 117)) (w_fi ws (n_v vs 0) 125) (w_fi ws (n_v vs 0) 49) (w_ei ws (w_ar ws (n_v vs 0) 43)) (w_ei ws (w_ar ws (n_v vs 0) 44)) (w_ei ws (w_ar ws (n_v vs 0) 52)) (w_ei ws (w_ar ws (n_v vs 0) 46)) (v_iv (Value.int x)) k1 k2 k3 k4 k5 k8 k9 d0 d1 d2 f0 g1 f2 f3 f4 f5 f6 f7 f8 f9 f10 f11 f12 f13 f14 f15 f16 f17 f18 f19 f21 f22 hK_0_33 hK_0_34 hK_0_35 hK_0_42 hK_0_43 hK_0_44 hK_0_46 hK_0_52 hK_0_117 kz_0_31 kz_0_32 kz_0_45 kz_0_49 kz_0_125 ex2 ex3
  have nf4 : fc_1 PRD (20, [0, 12], [30, -26, -1, 1, 125, -1, 0, 0]) ws (vs ++ [Value.int x]) := by
    refine ⟨nf_inA hl rfl, sgq_1750 ?_⟩
    · show (-1) * w_fi ws (n_v (vs ++ [Value.int x]) 0) 125 + ((-1) * v_iv (n_v (vs ++ [Value.int x]) 12) + 0) ≤ (-26)
      simp only [e_0, e_12]
      exact vc_Mo_stOrder_24_4 (v_iv (n_v vs 1)) (v_iv (n_v vs 2)) (v_iv (n_v vs 3)) (v_iv (n_v vs 4)) (v_iv (n_v vs 5)) (v_iv (n_v vs 8)) (v_iv (n_v vs 9)) (w_fi ws (n_v vs 0) 45) (w_ei ws (w_ar ws (n_v vs 0) 42)) (w_fi ws (n_v vs 0) 31) (w_ei ws (w_ar ws (n_v vs 0) 33)) (w_ei ws (w_ar ws (n_v vs 0) 34)) (w_fi ws (n_v vs 0) 32) (w_ei ws (w_ar ws (n_v vs 0) 35)) (w_ei ws (w_ar ws (n_v vs 0) 117)) (w_fi ws (n_v vs 0) 125) (w_fi ws (n_v vs 0) 49) (w_ei ws (w_ar ws (n_v vs 0) 43)) (w_ei ws (w_ar ws (n_v vs 0) 44)) (w_ei ws (w_ar ws (n_v vs 0) 52)) (w_ei ws (w_ar ws (n_v vs 0) 46)) (v_iv (Value.int x)) k1 k2 k3 k4 k5 k8 k9 d0 d1 d2 f0 g1 f2 f3 f4 f5 f6 f7 f8 f9 f10 f11 f12 f13 f14 f15 f16 f17 f18 f19 f21 f22 hK_0_33 hK_0_34 hK_0_35 hK_0_42 hK_0_43 hK_0_44 hK_0_46 hK_0_52 hK_0_117 kz_0_31 kz_0_32 kz_0_45 kz_0_49 kz_0_125 ex2 ex3
  have nf5 : fc_1 PRD (20, [0], [60, 2, 2, 301, 31, 125, 42, 117]) ws (vs ++ [Value.int x]) := by
    refine ⟨nf_inA hl rfl, sgq_1755 ?_⟩
    · show DRR (w_fi ws (n_v (vs ++ [Value.int x]) 0) 31) (w_fi ws (n_v (vs ++ [Value.int x]) 0) 125) (w_ei ws (w_ar ws (n_v (vs ++ [Value.int x]) 0) 42)) (w_ei ws (w_ar ws (n_v (vs ++ [Value.int x]) 0) 117))
      rw [e_0]
      exact vc_Mo_stOrder_24_5 (v_iv (n_v vs 1)) (v_iv (n_v vs 2)) (v_iv (n_v vs 3)) (v_iv (n_v vs 4)) (v_iv (n_v vs 5)) (v_iv (n_v vs 8)) (v_iv (n_v vs 9)) (w_fi ws (n_v vs 0) 45) (w_ei ws (w_ar ws (n_v vs 0) 42)) (w_fi ws (n_v vs 0) 31) (w_ei ws (w_ar ws (n_v vs 0) 33)) (w_ei ws (w_ar ws (n_v vs 0) 34)) (w_fi ws (n_v vs 0) 32) (w_ei ws (w_ar ws (n_v vs 0) 35)) (w_ei ws (w_ar ws (n_v vs 0) 117)) (w_fi ws (n_v vs 0) 125) (w_fi ws (n_v vs 0) 49) (w_ei ws (w_ar ws (n_v vs 0) 43)) (w_ei ws (w_ar ws (n_v vs 0) 44)) (w_ei ws (w_ar ws (n_v vs 0) 52)) (w_ei ws (w_ar ws (n_v vs 0) 46)) (v_iv (Value.int x)) k1 k2 k3 k4 k5 k8 k9 d0 d1 d2 f0 g1 f2 f3 f4 f5 f6 f7 f8 f9 f10 f11 f12 f13 f14 f15 f16 f17 f18 f19 f21 f22 hK_0_33 hK_0_34 hK_0_35 hK_0_42 hK_0_43 hK_0_44 hK_0_46 hK_0_52 hK_0_117 kz_0_31 kz_0_32 kz_0_45 kz_0_49 kz_0_125 ex2 ex3
  have nf6 : fc_1 PRD (20, [0], [60, 1, 4, 303, 32, 33, 34, 42, 43]) ws (vs ++ [Value.int x]) := by
    refine ⟨nf_inA hl rfl, sgq_1757 ?_⟩
    · show DEM (w_fi ws (n_v (vs ++ [Value.int x]) 0) 32) (w_ei ws (w_ar ws (n_v (vs ++ [Value.int x]) 0) 33)) (w_ei ws (w_ar ws (n_v (vs ++ [Value.int x]) 0) 34)) (w_ei ws (w_ar ws (n_v (vs ++ [Value.int x]) 0) 42)) (w_ei ws (w_ar ws (n_v (vs ++ [Value.int x]) 0) 43))
      rw [e_0]
      exact vc_Mo_stOrder_24_6 (v_iv (n_v vs 1)) (v_iv (n_v vs 2)) (v_iv (n_v vs 3)) (v_iv (n_v vs 4)) (v_iv (n_v vs 5)) (v_iv (n_v vs 8)) (v_iv (n_v vs 9)) (w_fi ws (n_v vs 0) 45) (w_ei ws (w_ar ws (n_v vs 0) 42)) (w_fi ws (n_v vs 0) 31) (w_ei ws (w_ar ws (n_v vs 0) 33)) (w_ei ws (w_ar ws (n_v vs 0) 34)) (w_fi ws (n_v vs 0) 32) (w_ei ws (w_ar ws (n_v vs 0) 35)) (w_ei ws (w_ar ws (n_v vs 0) 117)) (w_fi ws (n_v vs 0) 125) (w_fi ws (n_v vs 0) 49) (w_ei ws (w_ar ws (n_v vs 0) 43)) (w_ei ws (w_ar ws (n_v vs 0) 44)) (w_ei ws (w_ar ws (n_v vs 0) 52)) (w_ei ws (w_ar ws (n_v vs 0) 46)) (v_iv (Value.int x)) k1 k2 k3 k4 k5 k8 k9 d0 d1 d2 f0 g1 f2 f3 f4 f5 f6 f7 f8 f9 f10 f11 f12 f13 f14 f15 f16 f17 f18 f19 f21 f22 hK_0_33 hK_0_34 hK_0_35 hK_0_42 hK_0_43 hK_0_44 hK_0_46 hK_0_52 hK_0_117 kz_0_31 kz_0_32 kz_0_45 kz_0_49 kz_0_125 ex2 ex3
  have nf7 : fc_1 PRD (20, [0], [60, 1, 2, 122, 32, 35, 43]) ws (vs ++ [Value.int x]) := by
    refine ⟨nf_inA hl rfl, sgq_1455 ?_⟩
    · show UA (w_fi ws (n_v (vs ++ [Value.int x]) 0) 32) (w_ei ws (w_ar ws (n_v (vs ++ [Value.int x]) 0) 35)) (w_ei ws (w_ar ws (n_v (vs ++ [Value.int x]) 0) 43))
      rw [e_0]
      exact vc_Mo_stOrder_24_7 (v_iv (n_v vs 1)) (v_iv (n_v vs 2)) (v_iv (n_v vs 3)) (v_iv (n_v vs 4)) (v_iv (n_v vs 5)) (v_iv (n_v vs 8)) (v_iv (n_v vs 9)) (w_fi ws (n_v vs 0) 45) (w_ei ws (w_ar ws (n_v vs 0) 42)) (w_fi ws (n_v vs 0) 31) (w_ei ws (w_ar ws (n_v vs 0) 33)) (w_ei ws (w_ar ws (n_v vs 0) 34)) (w_fi ws (n_v vs 0) 32) (w_ei ws (w_ar ws (n_v vs 0) 35)) (w_ei ws (w_ar ws (n_v vs 0) 117)) (w_fi ws (n_v vs 0) 125) (w_fi ws (n_v vs 0) 49) (w_ei ws (w_ar ws (n_v vs 0) 43)) (w_ei ws (w_ar ws (n_v vs 0) 44)) (w_ei ws (w_ar ws (n_v vs 0) 52)) (w_ei ws (w_ar ws (n_v vs 0) 46)) (v_iv (Value.int x)) k1 k2 k3 k4 k5 k8 k9 d0 d1 d2 f0 g1 f2 f3 f4 f5 f6 f7 f8 f9 f10 f11 f12 f13 f14 f15 f16 f17 f18 f19 f21 f22 hK_0_33 hK_0_34 hK_0_35 hK_0_42 hK_0_43 hK_0_44 hK_0_46 hK_0_52 hK_0_117 kz_0_31 kz_0_32 kz_0_45 kz_0_49 kz_0_125 ex2 ex3
  have nf8 : fc_1 PRD (20, [0], [50, 2, 0, 125, 31, 0, 7, 4, 3, 2, 0, 125, 0, 1, 2, 0, 31]) ws (vs ++ [Value.int x]) := by
    refine ⟨nf_inA hl rfl, sgq_1752 ?_⟩
    · show (w_fi ws (n_v (vs ++ [Value.int x]) 0) 125 + 1) ≤ w_fi ws (n_v (vs ++ [Value.int x]) 0) 31
      rw [e_0]
      exact vc_Mo_stOrder_24_8 (v_iv (n_v vs 1)) (v_iv (n_v vs 2)) (v_iv (n_v vs 3)) (v_iv (n_v vs 4)) (v_iv (n_v vs 5)) (v_iv (n_v vs 8)) (v_iv (n_v vs 9)) (w_fi ws (n_v vs 0) 45) (w_ei ws (w_ar ws (n_v vs 0) 42)) (w_fi ws (n_v vs 0) 31) (w_ei ws (w_ar ws (n_v vs 0) 33)) (w_ei ws (w_ar ws (n_v vs 0) 34)) (w_fi ws (n_v vs 0) 32) (w_ei ws (w_ar ws (n_v vs 0) 35)) (w_ei ws (w_ar ws (n_v vs 0) 117)) (w_fi ws (n_v vs 0) 125) (w_fi ws (n_v vs 0) 49) (w_ei ws (w_ar ws (n_v vs 0) 43)) (w_ei ws (w_ar ws (n_v vs 0) 44)) (w_ei ws (w_ar ws (n_v vs 0) 52)) (w_ei ws (w_ar ws (n_v vs 0) 46)) (v_iv (Value.int x)) k1 k2 k3 k4 k5 k8 k9 d0 d1 d2 f0 g1 f2 f3 f4 f5 f6 f7 f8 f9 f10 f11 f12 f13 f14 f15 f16 f17 f18 f19 f21 f22 hK_0_33 hK_0_34 hK_0_35 hK_0_42 hK_0_43 hK_0_44 hK_0_46 hK_0_52 hK_0_117 kz_0_31 kz_0_32 kz_0_45 kz_0_49 kz_0_125 ex2 ex3
  have nf9 : fc_1 PRD (20, [0, 1, 2, 3], [60, 3, 6, 306, 31, 32, 49, 33, 34, 43, 44, 42, 52]) ws (vs ++ [Value.int x]) := by
    refine ⟨nf_inA hl rfl, sgq_1761 ?_⟩
    · show SB1 (w_fi ws (n_v (vs ++ [Value.int x]) 0) 31) (w_fi ws (n_v (vs ++ [Value.int x]) 0) 32) (w_fi ws (n_v (vs ++ [Value.int x]) 0) 49) (w_ei ws (w_ar ws (n_v (vs ++ [Value.int x]) 0) 33)) (w_ei ws (w_ar ws (n_v (vs ++ [Value.int x]) 0) 34)) (w_ei ws (w_ar ws (n_v (vs ++ [Value.int x]) 0) 43)) (w_ei ws (w_ar ws (n_v (vs ++ [Value.int x]) 0) 44)) (w_ei ws (w_ar ws (n_v (vs ++ [Value.int x]) 0) 42)) (w_ei ws (w_ar ws (n_v (vs ++ [Value.int x]) 0) 52)) (v_iv (n_v (vs ++ [Value.int x]) 1)) (v_iv (n_v (vs ++ [Value.int x]) 2)) (v_iv (n_v (vs ++ [Value.int x]) 3))
      simp only [e_0, e_1, e_2, e_3]
      exact vc_Mo_stOrder_24_9 (v_iv (n_v vs 1)) (v_iv (n_v vs 2)) (v_iv (n_v vs 3)) (v_iv (n_v vs 4)) (v_iv (n_v vs 5)) (v_iv (n_v vs 8)) (v_iv (n_v vs 9)) (w_fi ws (n_v vs 0) 45) (w_ei ws (w_ar ws (n_v vs 0) 42)) (w_fi ws (n_v vs 0) 31) (w_ei ws (w_ar ws (n_v vs 0) 33)) (w_ei ws (w_ar ws (n_v vs 0) 34)) (w_fi ws (n_v vs 0) 32) (w_ei ws (w_ar ws (n_v vs 0) 35)) (w_ei ws (w_ar ws (n_v vs 0) 117)) (w_fi ws (n_v vs 0) 125) (w_fi ws (n_v vs 0) 49) (w_ei ws (w_ar ws (n_v vs 0) 43)) (w_ei ws (w_ar ws (n_v vs 0) 44)) (w_ei ws (w_ar ws (n_v vs 0) 52)) (w_ei ws (w_ar ws (n_v vs 0) 46)) (v_iv (Value.int x)) k1 k2 k3 k4 k5 k8 k9 d0 d1 d2 f0 g1 f2 f3 f4 f5 f6 f7 f8 f9 f10 f11 f12 f13 f14 f15 f16 f17 f18 f19 f21 f22 hK_0_33 hK_0_34 hK_0_35 hK_0_42 hK_0_43 hK_0_44 hK_0_46 hK_0_52 hK_0_117 kz_0_31 kz_0_32 kz_0_45 kz_0_49 kz_0_125 ex2 ex3
  have nf10 : fc_1 PRD (20, [0], [60, 2, 2, 304, 31, 45, 42, 46]) ws (vs ++ [Value.int x]) := by
    refine ⟨nf_inA hl rfl, sgq_1764 ?_⟩
    · show WYM (w_fi ws (n_v (vs ++ [Value.int x]) 0) 31) (w_fi ws (n_v (vs ++ [Value.int x]) 0) 45) (w_ei ws (w_ar ws (n_v (vs ++ [Value.int x]) 0) 42)) (w_ei ws (w_ar ws (n_v (vs ++ [Value.int x]) 0) 46))
      rw [e_0]
      exact vc_Mo_stOrder_24_10 (v_iv (n_v vs 1)) (v_iv (n_v vs 2)) (v_iv (n_v vs 3)) (v_iv (n_v vs 4)) (v_iv (n_v vs 5)) (v_iv (n_v vs 8)) (v_iv (n_v vs 9)) (w_fi ws (n_v vs 0) 45) (w_ei ws (w_ar ws (n_v vs 0) 42)) (w_fi ws (n_v vs 0) 31) (w_ei ws (w_ar ws (n_v vs 0) 33)) (w_ei ws (w_ar ws (n_v vs 0) 34)) (w_fi ws (n_v vs 0) 32) (w_ei ws (w_ar ws (n_v vs 0) 35)) (w_ei ws (w_ar ws (n_v vs 0) 117)) (w_fi ws (n_v vs 0) 125) (w_fi ws (n_v vs 0) 49) (w_ei ws (w_ar ws (n_v vs 0) 43)) (w_ei ws (w_ar ws (n_v vs 0) 44)) (w_ei ws (w_ar ws (n_v vs 0) 52)) (w_ei ws (w_ar ws (n_v vs 0) 46)) (v_iv (Value.int x)) k1 k2 k3 k4 k5 k8 k9 d0 d1 d2 f0 g1 f2 f3 f4 f5 f6 f7 f8 f9 f10 f11 f12 f13 f14 f15 f16 f17 f18 f19 f21 f22 hK_0_33 hK_0_34 hK_0_35 hK_0_42 hK_0_43 hK_0_44 hK_0_46 hK_0_52 hK_0_117 kz_0_31 kz_0_32 kz_0_45 kz_0_49 kz_0_125 ex2 ex3
  have nf11 : fc_1 PRD (20, [2, 0], [30, -1, 1, 0, 0, -1, 1, 31]) ws (vs ++ [Value.int x]) := by
    refine ⟨nf_inA hl rfl, sgq_553 ?_⟩
    · show 1 * v_iv (n_v (vs ++ [Value.int x]) 2) + ((-1) * w_fi ws (n_v (vs ++ [Value.int x]) 0) 31 + 0) ≤ (-1)
      simp only [e_0, e_2]
      exact vc_Mo_stOrder_24_11 (v_iv (n_v vs 1)) (v_iv (n_v vs 2)) (v_iv (n_v vs 3)) (v_iv (n_v vs 4)) (v_iv (n_v vs 5)) (v_iv (n_v vs 8)) (v_iv (n_v vs 9)) (w_fi ws (n_v vs 0) 45) (w_ei ws (w_ar ws (n_v vs 0) 42)) (w_fi ws (n_v vs 0) 31) (w_ei ws (w_ar ws (n_v vs 0) 33)) (w_ei ws (w_ar ws (n_v vs 0) 34)) (w_fi ws (n_v vs 0) 32) (w_ei ws (w_ar ws (n_v vs 0) 35)) (w_ei ws (w_ar ws (n_v vs 0) 117)) (w_fi ws (n_v vs 0) 125) (w_fi ws (n_v vs 0) 49) (w_ei ws (w_ar ws (n_v vs 0) 43)) (w_ei ws (w_ar ws (n_v vs 0) 44)) (w_ei ws (w_ar ws (n_v vs 0) 52)) (w_ei ws (w_ar ws (n_v vs 0) 46)) (v_iv (Value.int x)) k1 k2 k3 k4 k5 k8 k9 d0 d1 d2 f0 g1 f2 f3 f4 f5 f6 f7 f8 f9 f10 f11 f12 f13 f14 f15 f16 f17 f18 f19 f21 f22 hK_0_33 hK_0_34 hK_0_35 hK_0_42 hK_0_43 hK_0_44 hK_0_46 hK_0_52 hK_0_117 kz_0_31 kz_0_32 kz_0_45 kz_0_49 kz_0_125 ex2 ex3
  have nf12 : fc_1 PRD (20, [3, 0], [30, -1, 1, 0, 0, -1, 1, 31]) ws (vs ++ [Value.int x]) := by
    refine ⟨nf_inA hl rfl, sgq_553 ?_⟩
    · show 1 * v_iv (n_v (vs ++ [Value.int x]) 3) + ((-1) * w_fi ws (n_v (vs ++ [Value.int x]) 0) 31 + 0) ≤ (-1)
      simp only [e_0, e_3]
      exact vc_Mo_stOrder_24_12 (v_iv (n_v vs 1)) (v_iv (n_v vs 2)) (v_iv (n_v vs 3)) (v_iv (n_v vs 4)) (v_iv (n_v vs 5)) (v_iv (n_v vs 8)) (v_iv (n_v vs 9)) (w_fi ws (n_v vs 0) 45) (w_ei ws (w_ar ws (n_v vs 0) 42)) (w_fi ws (n_v vs 0) 31) (w_ei ws (w_ar ws (n_v vs 0) 33)) (w_ei ws (w_ar ws (n_v vs 0) 34)) (w_fi ws (n_v vs 0) 32) (w_ei ws (w_ar ws (n_v vs 0) 35)) (w_ei ws (w_ar ws (n_v vs 0) 117)) (w_fi ws (n_v vs 0) 125) (w_fi ws (n_v vs 0) 49) (w_ei ws (w_ar ws (n_v vs 0) 43)) (w_ei ws (w_ar ws (n_v vs 0) 44)) (w_ei ws (w_ar ws (n_v vs 0) 52)) (w_ei ws (w_ar ws (n_v vs 0) 46)) (v_iv (Value.int x)) k1 k2 k3 k4 k5 k8 k9 d0 d1 d2 f0 g1 f2 f3 f4 f5 f6 f7 f8 f9 f10 f11 f12 f13 f14 f15 f16 f17 f18 f19 f21 f22 hK_0_33 hK_0_34 hK_0_35 hK_0_42 hK_0_43 hK_0_44 hK_0_46 hK_0_52 hK_0_117 kz_0_31 kz_0_32 kz_0_45 kz_0_49 kz_0_125 ex2 ex3
  have nf13 : fc_1 PRD (20, [0, 2], [50, 0, 1, 42, 7, 5, 3, 0, 42, 1, 1, 0, 0]) ws (vs ++ [Value.int x]) := by
    refine ⟨nf_inA hl rfl, sgq_1762 ?_⟩
    · show w_ei ws (w_ar ws (n_v (vs ++ [Value.int x]) 0) 42) (v_iv (n_v (vs ++ [Value.int x]) 2)) ≠ 0
      simp only [e_0, e_2]
      exact vc_Mo_stOrder_24_13 (v_iv (n_v vs 1)) (v_iv (n_v vs 2)) (v_iv (n_v vs 3)) (v_iv (n_v vs 4)) (v_iv (n_v vs 5)) (v_iv (n_v vs 8)) (v_iv (n_v vs 9)) (w_fi ws (n_v vs 0) 45) (w_ei ws (w_ar ws (n_v vs 0) 42)) (w_fi ws (n_v vs 0) 31) (w_ei ws (w_ar ws (n_v vs 0) 33)) (w_ei ws (w_ar ws (n_v vs 0) 34)) (w_fi ws (n_v vs 0) 32) (w_ei ws (w_ar ws (n_v vs 0) 35)) (w_ei ws (w_ar ws (n_v vs 0) 117)) (w_fi ws (n_v vs 0) 125) (w_fi ws (n_v vs 0) 49) (w_ei ws (w_ar ws (n_v vs 0) 43)) (w_ei ws (w_ar ws (n_v vs 0) 44)) (w_ei ws (w_ar ws (n_v vs 0) 52)) (w_ei ws (w_ar ws (n_v vs 0) 46)) (v_iv (Value.int x)) k1 k2 k3 k4 k5 k8 k9 d0 d1 d2 f0 g1 f2 f3 f4 f5 f6 f7 f8 f9 f10 f11 f12 f13 f14 f15 f16 f17 f18 f19 f21 f22 hK_0_33 hK_0_34 hK_0_35 hK_0_42 hK_0_43 hK_0_44 hK_0_46 hK_0_52 hK_0_117 kz_0_31 kz_0_32 kz_0_45 kz_0_49 kz_0_125 ex2 ex3
  have nf14 : fc_1 PRD (20, [1, 0], [50, 1, 0, 1045, 1, 2, 1, 0, 2, 1, 45]) ws (vs ++ [Value.int x]) := by
    refine ⟨nf_inA hl rfl, sgq_1765 ?_⟩
    · show v_iv (n_v (vs ++ [Value.int x]) 1) = w_fi ws (n_v (vs ++ [Value.int x]) 0) 45
      simp only [e_0, e_1]
      exact vc_Mo_stOrder_24_14 (v_iv (n_v vs 1)) (v_iv (n_v vs 2)) (v_iv (n_v vs 3)) (v_iv (n_v vs 4)) (v_iv (n_v vs 5)) (v_iv (n_v vs 8)) (v_iv (n_v vs 9)) (w_fi ws (n_v vs 0) 45) (w_ei ws (w_ar ws (n_v vs 0) 42)) (w_fi ws (n_v vs 0) 31) (w_ei ws (w_ar ws (n_v vs 0) 33)) (w_ei ws (w_ar ws (n_v vs 0) 34)) (w_fi ws (n_v vs 0) 32) (w_ei ws (w_ar ws (n_v vs 0) 35)) (w_ei ws (w_ar ws (n_v vs 0) 117)) (w_fi ws (n_v vs 0) 125) (w_fi ws (n_v vs 0) 49) (w_ei ws (w_ar ws (n_v vs 0) 43)) (w_ei ws (w_ar ws (n_v vs 0) 44)) (w_ei ws (w_ar ws (n_v vs 0) 52)) (w_ei ws (w_ar ws (n_v vs 0) 46)) (v_iv (Value.int x)) k1 k2 k3 k4 k5 k8 k9 d0 d1 d2 f0 g1 f2 f3 f4 f5 f6 f7 f8 f9 f10 f11 f12 f13 f14 f15 f16 f17 f18 f19 f21 f22 hK_0_33 hK_0_34 hK_0_35 hK_0_42 hK_0_43 hK_0_44 hK_0_46 hK_0_52 hK_0_117 kz_0_31 kz_0_32 kz_0_45 kz_0_49 kz_0_125 ex2 ex3
  obtain ⟨x0, e0, _, _⟩ := tv_int t4 rfl
  have e1 : v_iv (n_v vs 4) = x0.toInt := by rw [e0]; rfl
  have ho : sy_ofs (vs ++ [Value.int x]) (12, 4, 0, 0) := by
    refine ⟨x, x0, by rw [List.getElem?_append_right (by rw [hl]; decide), hl]; rfl, ?_, ?_, ?_⟩
    · rw [List.getElem?_append_left (by rw [hl]; decide)]; exact n_v_some (by rw [hl]; decide) e0
    · show x0.toInt + 0 ≤ x.toInt; omega
    · show x.toInt ≤ x0.toInt + 0; omega
  exact ⟨(fun _ h => (by cases h)), [Value.int x], ag_one hx, List.forall_mem_cons.mpr ⟨⟨show (20 : Nat) < 100 from by decide, nf0⟩, List.forall_mem_cons.mpr ⟨⟨show (20 : Nat) < 100 from by decide, nf1⟩, List.forall_mem_cons.mpr ⟨⟨show (20 : Nat) < 100 from by decide, nf2⟩, List.forall_mem_cons.mpr ⟨⟨show (20 : Nat) < 100 from by decide, nf3⟩, List.forall_mem_cons.mpr ⟨⟨show (20 : Nat) < 100 from by decide, nf4⟩, List.forall_mem_cons.mpr ⟨⟨show (20 : Nat) < 100 from by decide, nf5⟩, List.forall_mem_cons.mpr ⟨⟨show (20 : Nat) < 100 from by decide, nf6⟩, List.forall_mem_cons.mpr ⟨⟨show (20 : Nat) < 100 from by decide, nf7⟩, List.forall_mem_cons.mpr ⟨⟨show (20 : Nat) < 100 from by decide, nf8⟩, List.forall_mem_cons.mpr ⟨⟨show (20 : Nat) < 100 from by decide, nf9⟩, List.forall_mem_cons.mpr ⟨⟨show (20 : Nat) < 100 from by decide, nf10⟩, List.forall_mem_cons.mpr ⟨⟨show (20 : Nat) < 100 from by decide, nf11⟩, List.forall_mem_cons.mpr ⟨⟨show (20 : Nat) < 100 from by decide, nf12⟩, List.forall_mem_cons.mpr ⟨⟨show (20 : Nat) < 100 from by decide, nf13⟩, List.forall_mem_cons.mpr ⟨⟨show (20 : Nat) < 100 from by decide, nf14⟩, (fun _ h => (by cases h))⟩⟩⟩⟩⟩⟩⟩⟩⟩⟩⟩⟩⟩⟩⟩, List.forall_mem_cons.mpr ⟨ho, (fun _ h => (by cases h))⟩⟩
set_option maxHeartbeats 4000000 in
theorem vc_Mo_stOrder_25_0 (x1 : Int) (x2 : Int) (x3 : Int) (x4 : Int) (x5 : Int) (x8 : Int) (x9 : Int) (x10 : Int) (wayMany_0 : Int) (drawnNode_0 : Int → Int) (pn_0 : Int) (pt_0 : Int → Int) (ph_0 : Int → Int) (pm_0 : Int) (alive_0 : Int → Int) (row_0 : Int → Int) (rowMany_0 : Int) (onlyPiece_0 : Int) (drawnEdge_0 : Int → Int) (pieceOf_0 : Int → Int) (bestWay_0 : Int → Int) (way_0 : Int → Int) (k1 : 0 ≤ x1 ∧ x1 ≤ 30) (k2 : 0 ≤ x2 ∧ x2 ≤ 24) (k3 : 0 ≤ x3 ∧ x3 ≤ 24) (k4 : (-2) ≤ x4 ∧ x4 ≤ 26) (k5 : 1 ≤ x5 ∧ x5 ≤ 25) (k8 : 1 ≤ x8 ∧ x8 ≤ 1) (k9 : 0 ≤ x9 ∧ x9 ≤ 0) (k10 : 1 ≤ x10 ∧ x10 ≤ 25) (d0 : x3 + 1 ≤ x10 ∧ x10 ≤ x3 + 1) (d1 : x5 + (-4294967296) ≤ x10 ∧ x10 ≤ x5 + 0) (d2 : x5 + (-4294967296) ≤ x3 ∧ x3 ≤ x5 + (-1)) (f0 : x10 = x3 + 1) (f1 : x9 = 0) (g2 : x9 = wayMany_0) (f3 : drawnNode_0 (x3) ≠ 0) (f4 : 1 * x3 + ((-1) * pn_0 + 0) ≤ (-1)) (f5 : GOK (pn_0) (pm_0) (pt_0) (ph_0)) (f6 : STB (pn_0) (pm_0) (pt_0) (ph_0) (alive_0)) (f7 : STR (pn_0) (rowMany_0) (pt_0) (ph_0) (row_0)) (f8 : onlyPiece_0 = (-1)) (f9 : (-1) * rowMany_0 + ((-1) * x4 + 0) ≤ (-26)) (f10 : DRR (pn_0) (rowMany_0) (drawnNode_0) (row_0)) (f11 : DEM (pm_0) (pt_0) (ph_0) (drawnNode_0) (drawnEdge_0)) (f12 : UA (pm_0) (alive_0) (drawnEdge_0)) (f13 : (rowMany_0 + 1) ≤ pn_0) (f14 : SB1 (pn_0) (pm_0) (onlyPiece_0) (pt_0) (ph_0) (drawnEdge_0) (pieceOf_0) (drawnNode_0) (bestWay_0) (x1) (x2) (x3)) (f15 : 1 * x2 + ((-1) * pn_0 + 0) ≤ (-1)) (f16 : drawnNode_0 (x2) ≠ 0) (f17 : SHP (pn_0) (pm_0) (onlyPiece_0) (wayMany_0) (pt_0) (ph_0) (alive_0) (drawnEdge_0) (pieceOf_0) (drawnNode_0) (way_0) (x2) (x3) (x8)) (f19 : x3 ≠ x2) (f20 : x3 < x5) (hK_0_33 : ∀ j : Int, 0 ≤ j → j < 80 → 0 ≤ pt_0 j ∧ pt_0 j ≤ 24) (hK_0_34 : ∀ j : Int, 0 ≤ j → j < 80 → 0 ≤ ph_0 j ∧ ph_0 j ≤ 24) (hK_0_35 : ∀ j : Int, 0 ≤ j → j < 80 → 0 ≤ alive_0 j ∧ alive_0 j ≤ 1) (hK_0_42 : ∀ j : Int, 0 ≤ j → j < 26 → 0 ≤ drawnNode_0 j ∧ drawnNode_0 j ≤ 1) (hK_0_43 : ∀ j : Int, 0 ≤ j → j < 80 → 0 ≤ drawnEdge_0 j ∧ drawnEdge_0 j ≤ 1) (hK_0_44 : ∀ j : Int, 0 ≤ j → j < 80 → (-1) ≤ pieceOf_0 j ∧ pieceOf_0 j ≤ 79) (hK_0_46 : ∀ j : Int, 0 ≤ j → j < 30 → 0 ≤ way_0 j ∧ way_0 j ≤ 24) (hK_0_52 : ∀ j : Int, 0 ≤ j → j < 30 → 0 ≤ bestWay_0 j ∧ bestWay_0 j ≤ 24) (hK_0_117 : ∀ j : Int, 0 ≤ j → j < 100 → 0 ≤ row_0 j ∧ row_0 j ≤ 75) (kz_0_31 : 0 ≤ pn_0 ∧ pn_0 ≤ 25) (kz_0_32 : 0 ≤ pm_0 ∧ pm_0 ≤ 80) (kz_0_45 : 0 ≤ wayMany_0 ∧ wayMany_0 ≤ 30) (kz_0_49 : (-1) ≤ onlyPiece_0 ∧ onlyPiece_0 ≤ 79) (kz_0_125 : 0 ≤ rowMany_0 ∧ rowMany_0 ≤ 100) : SB1 (pn_0) (pm_0) (onlyPiece_0) (pt_0) (ph_0) (drawnEdge_0) (pieceOf_0) (drawnNode_0) (bestWay_0) (x1) (x2) (x10) := by
  first
    | exact sb_0 ‹SA1 _ _ _ _ _ _ _ _ _ _ _› (by omega)
    | exact sb_skip ‹SB1 _ _ _ _ _ _ _ _ _ _ _ _› (by omega) (Or.inl (by omega))
    | exact sb_skip ‹SB1 _ _ _ _ _ _ _ _ _ _ _ _› (by omega) (Or.inr (by omega))
    | exact sb_now ‹SB1 _ _ _ _ _ _ _ _ _ _ _ _› (by omega) ‹SHP _ _ _ _ _ _ _ _ _ _ _ _ _ _› (by omega) (by omega)
    | exact sb_any ‹SB1 _ _ _ _ _ _ _ _ _ _ _ _› (by omega)
    | exact Or.inr (bc_way ‹BC1 _ _ _ _ _ _ _› (by omega))
def o_Mo_stOrder_25 : or_T := (181, 11, [(0, (2, 0, 0, [165])), (1, (0, 0, 30, [])), (2, (0, 0, 24, [])), (3, (0, 0, 24, [])), (4, (0, -2, 26, [])), (5, (0, 1, 25, [])), (8, (0, 1, 1, [])), (9, (0, 0, 0, [])), (10, (0, 1, 25, []))], [(6, [10, 3], [1]), (8, [9], [0]), (9, [9, 0], [45]), (20, [0, 3], [50, 0, 1, 42, 7, 5, 3, 0, 42, 1, 1, 0, 0]), (20, [3, 0], [30, -1, 1, 0, 0, -1, 1, 31]), (20, [0], [60, 2, 2, 75, 31, 32, 33, 34]), (20, [0], [60, 2, 3, 297, 31, 32, 33, 34, 35]), (20, [0], [60, 2, 3, 298, 31, 125, 33, 34, 117]), (20, [0], [50, 1, 0, 49, 1, 3, 2, 0, 49, 0, -1]), (20, [0, 4], [30, -26, -1, 1, 125, -1, 0, 0]), (20, [0], [60, 2, 2, 301, 31, 125, 42, 117]), (20, [0], [60, 1, 4, 303, 32, 33, 34, 42, 43]), (20, [0], [60, 1, 2, 122, 32, 35, 43]), (20, [0], [50, 2, 0, 125, 31, 0, 7, 4, 3, 2, 0, 125, 0, 1, 2, 0, 31]), (20, [0, 1, 2, 3], [60, 3, 6, 306, 31, 32, 49, 33, 34, 43, 44, 42, 52]), (20, [2, 0], [30, -1, 1, 0, 0, -1, 1, 31]), (20, [0, 2], [50, 0, 1, 42, 7, 5, 3, 0, 42, 1, 1, 0, 0]), (20, [0, 2, 3, 8], [60, 4, 7, 130, 31, 32, 49, 45, 33, 34, 35, 43, 44, 42, 46]), (102, [8], [9415652603080021145753684134811499624153533166696051769344, 165045]), (7, [3, 2], [1]), (7, [3, 5], [2])], [], [], [(20, [0, 1, 2, 10], [60, 3, 6, 306, 31, 32, 49, 33, 34, 43, 44, 42, 52])], [], [(10, 3, 1, 1), (10, 5, -4294967296, 0), (3, 5, -4294967296, -1)])
theorem oo_Mo_stOrder_25 {kA : Nat → ClassId} : or_ok PRD kA GG o_Mo_stOrder_25 := by
  refine or_mk fun A ta ws vs hD hth hl => ?_
  intro t0 r0 t1 k1 t2 k2 t3 k3 t4 k4 t5 k5 t8 k8 t9 k9 t10 k10 d0 d1 d2 f0 f1 f2 f3 f4 f5 f6 f7 f8 f9 f10 f11 f12 f13 f14 f15 f16 f17 ta1 w1 le1 s1 f19 f20
  replace f2 := shm_741 f2
  have cr_0_33 := fdq_117 hD hth r0
  have cr_0_34 := fdq_118 hD hth r0
  have cr_0_35 := fdq_132 hD hth r0
  have cr_0_42 := fdq_136 hD hth r0
  have cr_0_43 := fdq_137 hD hth r0
  have cr_0_44 := fdq_138 hD hth r0
  have cr_0_46 := fdq_190 hD hth r0
  have cr_0_52 := fdq_236 hD hth r0
  have cr_0_117 := fdq_181 hD hth r0
  have g2 : v_iv (n_v vs 9) = w_fi ws (n_v vs 0) 45 := congrArg v_iv f2
  have hK_0_33 := elq_60 hD hth cr_0_33
  have hK_0_34 := elq_61 hD hth cr_0_34
  have hK_0_35 := elq_72 hD hth cr_0_35
  have hK_0_42 := elq_75 hD hth cr_0_42
  have hK_0_43 := elq_76 hD hth cr_0_43
  have hK_0_44 := elq_77 hD hth cr_0_44
  have hK_0_46 := elq_114 hD hth cr_0_46
  have hK_0_52 := elq_147 hD hth cr_0_52
  have hK_0_117 := elq_108 hD hth cr_0_117
  have kz_0_31 := fdq_145 hD hth r0
  have kz_0_32 := fdq_140 hD hth r0
  have kz_0_45 := fdq_191 hD hth r0
  have kz_0_49 := fdq_146 hD hth r0
  have kz_0_125 := fdq_182 hD hth r0
  have nf0 : fc_1 PRD (20, [0, 1, 2, 10], [60, 3, 6, 306, 31, 32, 49, 33, 34, 43, 44, 42, 52]) ws (vs) := ⟨nf_in hl rfl, sgq_1761 (vc_Mo_stOrder_25_0 (v_iv (n_v vs 1)) (v_iv (n_v vs 2)) (v_iv (n_v vs 3)) (v_iv (n_v vs 4)) (v_iv (n_v vs 5)) (v_iv (n_v vs 8)) (v_iv (n_v vs 9)) (v_iv (n_v vs 10)) (w_fi ws (n_v vs 0) 45) (w_ei ws (w_ar ws (n_v vs 0) 42)) (w_fi ws (n_v vs 0) 31) (w_ei ws (w_ar ws (n_v vs 0) 33)) (w_ei ws (w_ar ws (n_v vs 0) 34)) (w_fi ws (n_v vs 0) 32) (w_ei ws (w_ar ws (n_v vs 0) 35)) (w_ei ws (w_ar ws (n_v vs 0) 117)) (w_fi ws (n_v vs 0) 125) (w_fi ws (n_v vs 0) 49) (w_ei ws (w_ar ws (n_v vs 0) 43)) (w_ei ws (w_ar ws (n_v vs 0) 44)) (w_ei ws (w_ar ws (n_v vs 0) 52)) (w_ei ws (w_ar ws (n_v vs 0) 46)) k1 k2 k3 k4 k5 k8 k9 k10 d0 d1 d2 (shm_4 f0) (shm_192 f1) g2 (shm_1762 f3) (shm_553 f4) (shm_575 f5) (shm_1749 f6) (shm_1001 f7) (shm_1675 f8) (shm_1750 f9) (shm_1755 f10) (shm_1757 f11) (shm_1455 f12) (shm_1752 f13) (shm_1761 f14) (shm_553 f15) (shm_1762 f16) (shm_1463 f17) (shm_40 f19) (shm_6 f20) hK_0_33 hK_0_34 hK_0_35 hK_0_42 hK_0_43 hK_0_44 hK_0_46 hK_0_52 hK_0_117 kz_0_31 kz_0_32 kz_0_45 kz_0_49 kz_0_125)⟩
  refine ⟨(fun _ h => (by cases h)), [], trivial, ?_, (fun _ h => (by cases h))⟩
  rw [List.append_nil]
  exact List.forall_mem_cons.mpr ⟨⟨show (20 : Nat) < 100 from by decide, nf0⟩, (fun _ h => (by cases h))⟩
set_option maxHeartbeats 4000000 in
theorem vc_Mo_stOrder_26_0 (x1 : Int) (x2 : Int) (x3 : Int) (x4 : Int) (x5 : Int) (x7 : Int) (x8 : Int) (drawnNode_0 : Int → Int) (pn_0 : Int) (pt_0 : Int → Int) (ph_0 : Int → Int) (pm_0 : Int) (alive_0 : Int → Int) (row_0 : Int → Int) (rowMany_0 : Int) (onlyPiece_0 : Int) (drawnEdge_0 : Int → Int) (pieceOf_0 : Int → Int) (bestWay_0 : Int → Int) (k1 : 0 ≤ x1 ∧ x1 ≤ 30) (k2 : 0 ≤ x2 ∧ x2 ≤ 24) (k3 : 0 ≤ x3 ∧ x3 ≤ 24) (k4 : (-2) ≤ x4 ∧ x4 ≤ 26) (k5 : 1 ≤ x5 ∧ x5 ≤ 25) (k7 : 0 ≤ x7 ∧ x7 ≤ 0) (k8 : 1 ≤ x8 ∧ x8 ≤ 25) (d0 : x3 + 1 ≤ x8 ∧ x8 ≤ x3 + 1) (d1 : x5 + (-4294967296) ≤ x8 ∧ x8 ≤ x5 + 0) (d2 : x5 + (-4294967296) ≤ x3 ∧ x3 ≤ x5 + (-1)) (f0 : x8 = x3 + 1) (f1 : x7 = 0) (h2 : x7 = drawnNode_0 (x3)) (f4 : x3 ≠ x2) (f5 : x3 < x5) (g6 : x5 = pn_0) (f7 : GOK (pn_0) (pm_0) (pt_0) (ph_0)) (f8 : STB (pn_0) (pm_0) (pt_0) (ph_0) (alive_0)) (f9 : STR (pn_0) (rowMany_0) (pt_0) (ph_0) (row_0)) (f10 : onlyPiece_0 = (-1)) (f11 : (-1) * rowMany_0 + ((-1) * x4 + 0) ≤ (-26)) (f12 : DRR (pn_0) (rowMany_0) (drawnNode_0) (row_0)) (f13 : DEM (pm_0) (pt_0) (ph_0) (drawnNode_0) (drawnEdge_0)) (f14 : UA (pm_0) (alive_0) (drawnEdge_0)) (f15 : (rowMany_0 + 1) ≤ pn_0) (f16 : SB1 (pn_0) (pm_0) (onlyPiece_0) (pt_0) (ph_0) (drawnEdge_0) (pieceOf_0) (drawnNode_0) (bestWay_0) (x1) (x2) (x3)) (f17 : 1 * x2 + ((-1) * pn_0 + 0) ≤ (-1)) (f18 : drawnNode_0 (x2) ≠ 0) (hK_0_33 : ∀ j : Int, 0 ≤ j → j < 80 → 0 ≤ pt_0 j ∧ pt_0 j ≤ 24) (hK_0_34 : ∀ j : Int, 0 ≤ j → j < 80 → 0 ≤ ph_0 j ∧ ph_0 j ≤ 24) (hK_0_35 : ∀ j : Int, 0 ≤ j → j < 80 → 0 ≤ alive_0 j ∧ alive_0 j ≤ 1) (hK_0_42 : ∀ j : Int, 0 ≤ j → j < 26 → 0 ≤ drawnNode_0 j ∧ drawnNode_0 j ≤ 1) (hK_0_43 : ∀ j : Int, 0 ≤ j → j < 80 → 0 ≤ drawnEdge_0 j ∧ drawnEdge_0 j ≤ 1) (hK_0_44 : ∀ j : Int, 0 ≤ j → j < 80 → (-1) ≤ pieceOf_0 j ∧ pieceOf_0 j ≤ 79) (hK_0_52 : ∀ j : Int, 0 ≤ j → j < 30 → 0 ≤ bestWay_0 j ∧ bestWay_0 j ≤ 24) (hK_0_117 : ∀ j : Int, 0 ≤ j → j < 100 → 0 ≤ row_0 j ∧ row_0 j ≤ 75) (kz_0_31 : 0 ≤ pn_0 ∧ pn_0 ≤ 25) (kz_0_32 : 0 ≤ pm_0 ∧ pm_0 ≤ 80) (kz_0_49 : (-1) ≤ onlyPiece_0 ∧ onlyPiece_0 ≤ 79) (kz_0_125 : 0 ≤ rowMany_0 ∧ rowMany_0 ≤ 100) : SB1 (pn_0) (pm_0) (onlyPiece_0) (pt_0) (ph_0) (drawnEdge_0) (pieceOf_0) (drawnNode_0) (bestWay_0) (x1) (x2) (x8) := by
  first
    | exact sb_0 ‹SA1 _ _ _ _ _ _ _ _ _ _ _› (by omega)
    | exact sb_skip ‹SB1 _ _ _ _ _ _ _ _ _ _ _ _› (by omega) (Or.inl (by omega))
    | exact sb_skip ‹SB1 _ _ _ _ _ _ _ _ _ _ _ _› (by omega) (Or.inr (by omega))
    | exact sb_now ‹SB1 _ _ _ _ _ _ _ _ _ _ _ _› (by omega) ‹SHP _ _ _ _ _ _ _ _ _ _ _ _ _ _› (by omega) (by omega)
    | exact sb_any ‹SB1 _ _ _ _ _ _ _ _ _ _ _ _› (by omega)
    | exact Or.inr (bc_way ‹BC1 _ _ _ _ _ _ _› (by omega))
def o_Mo_stOrder_26 : or_T := (181, 9, [(0, (2, 0, 0, [165])), (1, (0, 0, 30, [])), (2, (0, 0, 24, [])), (3, (0, 0, 24, [])), (4, (0, -2, 26, [])), (5, (0, 1, 25, [])), (6, (2, 0, 0, [188])), (7, (0, 0, 0, [])), (8, (0, 1, 25, []))], [(6, [8, 3], [1]), (8, [7], [0]), (10, [7, 6, 3], []), (9, [6, 0], [42]), (7, [3, 2], [1]), (7, [3, 5], [2]), (9, [5, 0], [31]), (20, [0], [60, 2, 2, 75, 31, 32, 33, 34]), (20, [0], [60, 2, 3, 297, 31, 32, 33, 34, 35]), (20, [0], [60, 2, 3, 298, 31, 125, 33, 34, 117]), (20, [0], [50, 1, 0, 49, 1, 3, 2, 0, 49, 0, -1]), (20, [0, 4], [30, -26, -1, 1, 125, -1, 0, 0]), (20, [0], [60, 2, 2, 301, 31, 125, 42, 117]), (20, [0], [60, 1, 4, 303, 32, 33, 34, 42, 43]), (20, [0], [60, 1, 2, 122, 32, 35, 43]), (20, [0], [50, 2, 0, 125, 31, 0, 7, 4, 3, 2, 0, 125, 0, 1, 2, 0, 31]), (20, [0, 1, 2, 3], [60, 3, 6, 306, 31, 32, 49, 33, 34, 43, 44, 42, 52]), (20, [2, 0], [30, -1, 1, 0, 0, -1, 1, 31]), (20, [0, 2], [50, 0, 1, 42, 7, 5, 3, 0, 42, 1, 1, 0, 0])], [], [], [(20, [0, 1, 2, 8], [60, 3, 6, 306, 31, 32, 49, 33, 34, 43, 44, 42, 52])], [], [(8, 3, 1, 1), (8, 5, -4294967296, 0), (3, 5, -4294967296, -1)])
theorem oo_Mo_stOrder_26 {kA : Nat → ClassId} : or_ok PRD kA GG o_Mo_stOrder_26 := by
  refine or_mk fun A ta ws vs hD hth hl => ?_
  intro t0 r0 t1 k1 t2 k2 t3 k3 t4 k4 t5 k5 t6 r6 t7 k7 t8 k8 d0 d1 d2 f0 f1 f2 f3 f4 f5 f6 f7 f8 f9 f10 f11 f12 f13 f14 f15 f16 f17 f18
  replace f2 := shm_107 f2
  replace f3 := shm_531 f3
  replace f6 := shm_577 f6
  have cr_0_33 := fdq_117 hD hth r0
  have cr_0_34 := fdq_118 hD hth r0
  have cr_0_35 := fdq_132 hD hth r0
  have cr_0_42 := fdq_136 hD hth r0
  have cr_0_43 := fdq_137 hD hth r0
  have cr_0_44 := fdq_138 hD hth r0
  have cr_0_52 := fdq_236 hD hth r0
  have cr_0_117 := fdq_181 hD hth r0
  have ad_6 : v_ad (n_v vs 6) = w_ar ws (n_v vs 0) 42 := congrArg v_ad f3
  simp only [ad_6] at f2
  have h2 : v_iv (n_v vs 7) = w_ei ws (w_ar ws (n_v vs 0) 42) (v_iv (n_v vs 3)) := f2
  have g6 : v_iv (n_v vs 5) = w_fi ws (n_v vs 0) 31 := congrArg v_iv f6
  have hK_0_33 := elq_60 hD hth cr_0_33
  have hK_0_34 := elq_61 hD hth cr_0_34
  have hK_0_35 := elq_72 hD hth cr_0_35
  have hK_0_42 := elq_75 hD hth cr_0_42
  have hK_0_43 := elq_76 hD hth cr_0_43
  have hK_0_44 := elq_77 hD hth cr_0_44
  have hK_0_52 := elq_147 hD hth cr_0_52
  have hK_0_117 := elq_108 hD hth cr_0_117
  have kz_0_31 := fdq_145 hD hth r0
  have kz_0_32 := fdq_140 hD hth r0
  have kz_0_49 := fdq_146 hD hth r0
  have kz_0_125 := fdq_182 hD hth r0
  have nf0 : fc_1 PRD (20, [0, 1, 2, 8], [60, 3, 6, 306, 31, 32, 49, 33, 34, 43, 44, 42, 52]) ws (vs) := ⟨nf_in hl rfl, sgq_1761 (vc_Mo_stOrder_26_0 (v_iv (n_v vs 1)) (v_iv (n_v vs 2)) (v_iv (n_v vs 3)) (v_iv (n_v vs 4)) (v_iv (n_v vs 5)) (v_iv (n_v vs 7)) (v_iv (n_v vs 8)) (w_ei ws (w_ar ws (n_v vs 0) 42)) (w_fi ws (n_v vs 0) 31) (w_ei ws (w_ar ws (n_v vs 0) 33)) (w_ei ws (w_ar ws (n_v vs 0) 34)) (w_fi ws (n_v vs 0) 32) (w_ei ws (w_ar ws (n_v vs 0) 35)) (w_ei ws (w_ar ws (n_v vs 0) 117)) (w_fi ws (n_v vs 0) 125) (w_fi ws (n_v vs 0) 49) (w_ei ws (w_ar ws (n_v vs 0) 43)) (w_ei ws (w_ar ws (n_v vs 0) 44)) (w_ei ws (w_ar ws (n_v vs 0) 52)) k1 k2 k3 k4 k5 k7 k8 d0 d1 d2 (shm_4 f0) (shm_192 f1) h2 (shm_40 f4) (shm_6 f5) g6 (shm_575 f7) (shm_1749 f8) (shm_1001 f9) (shm_1675 f10) (shm_1750 f11) (shm_1755 f12) (shm_1757 f13) (shm_1455 f14) (shm_1752 f15) (shm_1761 f16) (shm_553 f17) (shm_1762 f18) hK_0_33 hK_0_34 hK_0_35 hK_0_42 hK_0_43 hK_0_44 hK_0_52 hK_0_117 kz_0_31 kz_0_32 kz_0_49 kz_0_125)⟩
  refine ⟨(fun _ h => (by cases h)), [], trivial, ?_, (fun _ h => (by cases h))⟩
  rw [List.append_nil]
  exact List.forall_mem_cons.mpr ⟨⟨show (20 : Nat) < 100 from by decide, nf0⟩, (fun _ h => (by cases h))⟩
set_option maxHeartbeats 4000000 in
theorem vc_Mo_stOrder_27_0 (x1 : Int) (x2 : Int) (x3 : Int) (x5 : Int) (x6 : Int) (x8 : Int) (pt_0 : Int → Int) (ph_0 : Int → Int) (pn_0 : Int) (pm_0 : Int) (alive_0 : Int → Int) (row_0 : Int → Int) (rowMany_0 : Int) (onlyPiece_0 : Int) (drawnNode_0 : Int → Int) (drawnEdge_0 : Int → Int) (pieceOf_0 : Int → Int) (bestWay_0 : Int → Int) (way_0 : Int → Int) (wayMany_0 : Int) (gx : Int) (k1 : 1 ≤ x1 ∧ x1 ≤ 30) (k2 : 0 ≤ x2 ∧ x2 ≤ 24) (k3 : 0 ≤ x3 ∧ x3 ≤ 24) (k5 : 1 ≤ x5 ∧ x5 ≤ 30) (k6 : (-2) ≤ x6 ∧ x6 ≤ 26) (k8 : 1 ≤ x8 ∧ x8 ≤ 25) (d0 : x3 + 1 ≤ x8 ∧ x8 ≤ x3 + 1) (d1 : x1 + 0 ≤ x5 ∧ x5 ≤ x1 + 4294967296) (d2 : x1 + (-4294967296) ≤ x5 ∧ x5 ≤ x1 + 0) (f0 : x8 = x3 + 1) (f1 : x1 ≤ x5) (f2 : x1 ≤ x5) (f3 : GOK (pn_0) (pm_0) (pt_0) (ph_0)) (f4 : STB (pn_0) (pm_0) (pt_0) (ph_0) (alive_0)) (f5 : STR (pn_0) (rowMany_0) (pt_0) (ph_0) (row_0)) (f6 : onlyPiece_0 = (-1)) (f7 : (-1) * rowMany_0 + ((-1) * x6 + 0) ≤ (-26)) (f8 : DRR (pn_0) (rowMany_0) (drawnNode_0) (row_0)) (f9 : DEM (pm_0) (pt_0) (ph_0) (drawnNode_0) (drawnEdge_0)) (f10 : UA (pm_0) (alive_0) (drawnEdge_0)) (f11 : (rowMany_0 + 1) ≤ pn_0) (f12 : SB1 (pn_0) (pm_0) (onlyPiece_0) (pt_0) (ph_0) (drawnEdge_0) (pieceOf_0) (drawnNode_0) (bestWay_0) (x1) (x2) (x3)) (f13 : WYM (pn_0) (wayMany_0) (drawnNode_0) (way_0)) (f14 : 1 * x2 + ((-1) * pn_0 + 0) ≤ (-1)) (f15 : 1 * x3 + ((-1) * pn_0 + 0) ≤ (-1)) (f16 : drawnNode_0 (x2) ≠ 0) (f17 : x1 = wayMany_0) (hK_0_33 : ∀ j : Int, 0 ≤ j → j < 80 → 0 ≤ pt_0 j ∧ pt_0 j ≤ 24) (hK_0_34 : ∀ j : Int, 0 ≤ j → j < 80 → 0 ≤ ph_0 j ∧ ph_0 j ≤ 24) (hK_0_35 : ∀ j : Int, 0 ≤ j → j < 80 → 0 ≤ alive_0 j ∧ alive_0 j ≤ 1) (hK_0_42 : ∀ j : Int, 0 ≤ j → j < 26 → 0 ≤ drawnNode_0 j ∧ drawnNode_0 j ≤ 1) (hK_0_43 : ∀ j : Int, 0 ≤ j → j < 80 → 0 ≤ drawnEdge_0 j ∧ drawnEdge_0 j ≤ 1) (hK_0_44 : ∀ j : Int, 0 ≤ j → j < 80 → (-1) ≤ pieceOf_0 j ∧ pieceOf_0 j ≤ 79) (hK_0_46 : ∀ j : Int, 0 ≤ j → j < 30 → 0 ≤ way_0 j ∧ way_0 j ≤ 24) (hK_0_52 : ∀ j : Int, 0 ≤ j → j < 30 → 0 ≤ bestWay_0 j ∧ bestWay_0 j ≤ 24) (hK_0_117 : ∀ j : Int, 0 ≤ j → j < 100 → 0 ≤ row_0 j ∧ row_0 j ≤ 75) (kz_0_31 : 0 ≤ pn_0 ∧ pn_0 ≤ 25) (kz_0_32 : 0 ≤ pm_0 ∧ pm_0 ≤ 80) (kz_0_45 : 0 ≤ wayMany_0 ∧ wayMany_0 ≤ 30) (kz_0_49 : (-1) ≤ onlyPiece_0 ∧ onlyPiece_0 ≤ 79) (kz_0_125 : 0 ≤ rowMany_0 ∧ rowMany_0 ≤ 100) (ex2 : gx = 0 + (1 * x6 + 0)) (ex3 : (-2) ≤ gx ∧ gx ≤ 26) : GOK (pn_0) (pm_0) (pt_0) (ph_0) := by
  first
    | assumption
    | exact ‹STB _ _ _ _ _›.1.1
set_option maxHeartbeats 4000000 in
theorem vc_Mo_stOrder_27_1 (x1 : Int) (x2 : Int) (x3 : Int) (x5 : Int) (x6 : Int) (x8 : Int) (pt_0 : Int → Int) (ph_0 : Int → Int) (pn_0 : Int) (pm_0 : Int) (alive_0 : Int → Int) (row_0 : Int → Int) (rowMany_0 : Int) (onlyPiece_0 : Int) (drawnNode_0 : Int → Int) (drawnEdge_0 : Int → Int) (pieceOf_0 : Int → Int) (bestWay_0 : Int → Int) (way_0 : Int → Int) (wayMany_0 : Int) (gx : Int) (k1 : 1 ≤ x1 ∧ x1 ≤ 30) (k2 : 0 ≤ x2 ∧ x2 ≤ 24) (k3 : 0 ≤ x3 ∧ x3 ≤ 24) (k5 : 1 ≤ x5 ∧ x5 ≤ 30) (k6 : (-2) ≤ x6 ∧ x6 ≤ 26) (k8 : 1 ≤ x8 ∧ x8 ≤ 25) (d0 : x3 + 1 ≤ x8 ∧ x8 ≤ x3 + 1) (d1 : x1 + 0 ≤ x5 ∧ x5 ≤ x1 + 4294967296) (d2 : x1 + (-4294967296) ≤ x5 ∧ x5 ≤ x1 + 0) (f0 : x8 = x3 + 1) (f1 : x1 ≤ x5) (f2 : x1 ≤ x5) (f3 : GOK (pn_0) (pm_0) (pt_0) (ph_0)) (f4 : STB (pn_0) (pm_0) (pt_0) (ph_0) (alive_0)) (f5 : STR (pn_0) (rowMany_0) (pt_0) (ph_0) (row_0)) (f6 : onlyPiece_0 = (-1)) (f7 : (-1) * rowMany_0 + ((-1) * x6 + 0) ≤ (-26)) (f8 : DRR (pn_0) (rowMany_0) (drawnNode_0) (row_0)) (f9 : DEM (pm_0) (pt_0) (ph_0) (drawnNode_0) (drawnEdge_0)) (f10 : UA (pm_0) (alive_0) (drawnEdge_0)) (f11 : (rowMany_0 + 1) ≤ pn_0) (f12 : SB1 (pn_0) (pm_0) (onlyPiece_0) (pt_0) (ph_0) (drawnEdge_0) (pieceOf_0) (drawnNode_0) (bestWay_0) (x1) (x2) (x3)) (f13 : WYM (pn_0) (wayMany_0) (drawnNode_0) (way_0)) (f14 : 1 * x2 + ((-1) * pn_0 + 0) ≤ (-1)) (f15 : 1 * x3 + ((-1) * pn_0 + 0) ≤ (-1)) (f16 : drawnNode_0 (x2) ≠ 0) (f17 : x1 = wayMany_0) (hK_0_33 : ∀ j : Int, 0 ≤ j → j < 80 → 0 ≤ pt_0 j ∧ pt_0 j ≤ 24) (hK_0_34 : ∀ j : Int, 0 ≤ j → j < 80 → 0 ≤ ph_0 j ∧ ph_0 j ≤ 24) (hK_0_35 : ∀ j : Int, 0 ≤ j → j < 80 → 0 ≤ alive_0 j ∧ alive_0 j ≤ 1) (hK_0_42 : ∀ j : Int, 0 ≤ j → j < 26 → 0 ≤ drawnNode_0 j ∧ drawnNode_0 j ≤ 1) (hK_0_43 : ∀ j : Int, 0 ≤ j → j < 80 → 0 ≤ drawnEdge_0 j ∧ drawnEdge_0 j ≤ 1) (hK_0_44 : ∀ j : Int, 0 ≤ j → j < 80 → (-1) ≤ pieceOf_0 j ∧ pieceOf_0 j ≤ 79) (hK_0_46 : ∀ j : Int, 0 ≤ j → j < 30 → 0 ≤ way_0 j ∧ way_0 j ≤ 24) (hK_0_52 : ∀ j : Int, 0 ≤ j → j < 30 → 0 ≤ bestWay_0 j ∧ bestWay_0 j ≤ 24) (hK_0_117 : ∀ j : Int, 0 ≤ j → j < 100 → 0 ≤ row_0 j ∧ row_0 j ≤ 75) (kz_0_31 : 0 ≤ pn_0 ∧ pn_0 ≤ 25) (kz_0_32 : 0 ≤ pm_0 ∧ pm_0 ≤ 80) (kz_0_45 : 0 ≤ wayMany_0 ∧ wayMany_0 ≤ 30) (kz_0_49 : (-1) ≤ onlyPiece_0 ∧ onlyPiece_0 ≤ 79) (kz_0_125 : 0 ≤ rowMany_0 ∧ rowMany_0 ≤ 100) (ex2 : gx = 0 + (1 * x6 + 0)) (ex3 : (-2) ≤ gx ∧ gx ≤ 26) : STB (pn_0) (pm_0) (pt_0) (ph_0) (alive_0) := by
  first | assumption
set_option maxHeartbeats 4000000 in
theorem vc_Mo_stOrder_27_2 (x1 : Int) (x2 : Int) (x3 : Int) (x5 : Int) (x6 : Int) (x8 : Int) (pt_0 : Int → Int) (ph_0 : Int → Int) (pn_0 : Int) (pm_0 : Int) (alive_0 : Int → Int) (row_0 : Int → Int) (rowMany_0 : Int) (onlyPiece_0 : Int) (drawnNode_0 : Int → Int) (drawnEdge_0 : Int → Int) (pieceOf_0 : Int → Int) (bestWay_0 : Int → Int) (way_0 : Int → Int) (wayMany_0 : Int) (gx : Int) (k1 : 1 ≤ x1 ∧ x1 ≤ 30) (k2 : 0 ≤ x2 ∧ x2 ≤ 24) (k3 : 0 ≤ x3 ∧ x3 ≤ 24) (k5 : 1 ≤ x5 ∧ x5 ≤ 30) (k6 : (-2) ≤ x6 ∧ x6 ≤ 26) (k8 : 1 ≤ x8 ∧ x8 ≤ 25) (d0 : x3 + 1 ≤ x8 ∧ x8 ≤ x3 + 1) (d1 : x1 + 0 ≤ x5 ∧ x5 ≤ x1 + 4294967296) (d2 : x1 + (-4294967296) ≤ x5 ∧ x5 ≤ x1 + 0) (f0 : x8 = x3 + 1) (f1 : x1 ≤ x5) (f2 : x1 ≤ x5) (f3 : GOK (pn_0) (pm_0) (pt_0) (ph_0)) (f4 : STB (pn_0) (pm_0) (pt_0) (ph_0) (alive_0)) (f5 : STR (pn_0) (rowMany_0) (pt_0) (ph_0) (row_0)) (f6 : onlyPiece_0 = (-1)) (f7 : (-1) * rowMany_0 + ((-1) * x6 + 0) ≤ (-26)) (f8 : DRR (pn_0) (rowMany_0) (drawnNode_0) (row_0)) (f9 : DEM (pm_0) (pt_0) (ph_0) (drawnNode_0) (drawnEdge_0)) (f10 : UA (pm_0) (alive_0) (drawnEdge_0)) (f11 : (rowMany_0 + 1) ≤ pn_0) (f12 : SB1 (pn_0) (pm_0) (onlyPiece_0) (pt_0) (ph_0) (drawnEdge_0) (pieceOf_0) (drawnNode_0) (bestWay_0) (x1) (x2) (x3)) (f13 : WYM (pn_0) (wayMany_0) (drawnNode_0) (way_0)) (f14 : 1 * x2 + ((-1) * pn_0 + 0) ≤ (-1)) (f15 : 1 * x3 + ((-1) * pn_0 + 0) ≤ (-1)) (f16 : drawnNode_0 (x2) ≠ 0) (f17 : x1 = wayMany_0) (hK_0_33 : ∀ j : Int, 0 ≤ j → j < 80 → 0 ≤ pt_0 j ∧ pt_0 j ≤ 24) (hK_0_34 : ∀ j : Int, 0 ≤ j → j < 80 → 0 ≤ ph_0 j ∧ ph_0 j ≤ 24) (hK_0_35 : ∀ j : Int, 0 ≤ j → j < 80 → 0 ≤ alive_0 j ∧ alive_0 j ≤ 1) (hK_0_42 : ∀ j : Int, 0 ≤ j → j < 26 → 0 ≤ drawnNode_0 j ∧ drawnNode_0 j ≤ 1) (hK_0_43 : ∀ j : Int, 0 ≤ j → j < 80 → 0 ≤ drawnEdge_0 j ∧ drawnEdge_0 j ≤ 1) (hK_0_44 : ∀ j : Int, 0 ≤ j → j < 80 → (-1) ≤ pieceOf_0 j ∧ pieceOf_0 j ≤ 79) (hK_0_46 : ∀ j : Int, 0 ≤ j → j < 30 → 0 ≤ way_0 j ∧ way_0 j ≤ 24) (hK_0_52 : ∀ j : Int, 0 ≤ j → j < 30 → 0 ≤ bestWay_0 j ∧ bestWay_0 j ≤ 24) (hK_0_117 : ∀ j : Int, 0 ≤ j → j < 100 → 0 ≤ row_0 j ∧ row_0 j ≤ 75) (kz_0_31 : 0 ≤ pn_0 ∧ pn_0 ≤ 25) (kz_0_32 : 0 ≤ pm_0 ∧ pm_0 ≤ 80) (kz_0_45 : 0 ≤ wayMany_0 ∧ wayMany_0 ≤ 30) (kz_0_49 : (-1) ≤ onlyPiece_0 ∧ onlyPiece_0 ≤ 79) (kz_0_125 : 0 ≤ rowMany_0 ∧ rowMany_0 ≤ 100) (ex2 : gx = 0 + (1 * x6 + 0)) (ex3 : (-2) ≤ gx ∧ gx ≤ 26) : STR (pn_0) (rowMany_0) (pt_0) (ph_0) (row_0) := by
  first | assumption
set_option maxHeartbeats 4000000 in
theorem vc_Mo_stOrder_27_3 (x1 : Int) (x2 : Int) (x3 : Int) (x5 : Int) (x6 : Int) (x8 : Int) (pt_0 : Int → Int) (ph_0 : Int → Int) (pn_0 : Int) (pm_0 : Int) (alive_0 : Int → Int) (row_0 : Int → Int) (rowMany_0 : Int) (onlyPiece_0 : Int) (drawnNode_0 : Int → Int) (drawnEdge_0 : Int → Int) (pieceOf_0 : Int → Int) (bestWay_0 : Int → Int) (way_0 : Int → Int) (wayMany_0 : Int) (gx : Int) (k1 : 1 ≤ x1 ∧ x1 ≤ 30) (k2 : 0 ≤ x2 ∧ x2 ≤ 24) (k3 : 0 ≤ x3 ∧ x3 ≤ 24) (k5 : 1 ≤ x5 ∧ x5 ≤ 30) (k6 : (-2) ≤ x6 ∧ x6 ≤ 26) (k8 : 1 ≤ x8 ∧ x8 ≤ 25) (d0 : x3 + 1 ≤ x8 ∧ x8 ≤ x3 + 1) (d1 : x1 + 0 ≤ x5 ∧ x5 ≤ x1 + 4294967296) (d2 : x1 + (-4294967296) ≤ x5 ∧ x5 ≤ x1 + 0) (f0 : x8 = x3 + 1) (f1 : x1 ≤ x5) (f2 : x1 ≤ x5) (f3 : GOK (pn_0) (pm_0) (pt_0) (ph_0)) (f4 : STB (pn_0) (pm_0) (pt_0) (ph_0) (alive_0)) (f5 : STR (pn_0) (rowMany_0) (pt_0) (ph_0) (row_0)) (f6 : onlyPiece_0 = (-1)) (f7 : (-1) * rowMany_0 + ((-1) * x6 + 0) ≤ (-26)) (f8 : DRR (pn_0) (rowMany_0) (drawnNode_0) (row_0)) (f9 : DEM (pm_0) (pt_0) (ph_0) (drawnNode_0) (drawnEdge_0)) (f10 : UA (pm_0) (alive_0) (drawnEdge_0)) (f11 : (rowMany_0 + 1) ≤ pn_0) (f12 : SB1 (pn_0) (pm_0) (onlyPiece_0) (pt_0) (ph_0) (drawnEdge_0) (pieceOf_0) (drawnNode_0) (bestWay_0) (x1) (x2) (x3)) (f13 : WYM (pn_0) (wayMany_0) (drawnNode_0) (way_0)) (f14 : 1 * x2 + ((-1) * pn_0 + 0) ≤ (-1)) (f15 : 1 * x3 + ((-1) * pn_0 + 0) ≤ (-1)) (f16 : drawnNode_0 (x2) ≠ 0) (f17 : x1 = wayMany_0) (hK_0_33 : ∀ j : Int, 0 ≤ j → j < 80 → 0 ≤ pt_0 j ∧ pt_0 j ≤ 24) (hK_0_34 : ∀ j : Int, 0 ≤ j → j < 80 → 0 ≤ ph_0 j ∧ ph_0 j ≤ 24) (hK_0_35 : ∀ j : Int, 0 ≤ j → j < 80 → 0 ≤ alive_0 j ∧ alive_0 j ≤ 1) (hK_0_42 : ∀ j : Int, 0 ≤ j → j < 26 → 0 ≤ drawnNode_0 j ∧ drawnNode_0 j ≤ 1) (hK_0_43 : ∀ j : Int, 0 ≤ j → j < 80 → 0 ≤ drawnEdge_0 j ∧ drawnEdge_0 j ≤ 1) (hK_0_44 : ∀ j : Int, 0 ≤ j → j < 80 → (-1) ≤ pieceOf_0 j ∧ pieceOf_0 j ≤ 79) (hK_0_46 : ∀ j : Int, 0 ≤ j → j < 30 → 0 ≤ way_0 j ∧ way_0 j ≤ 24) (hK_0_52 : ∀ j : Int, 0 ≤ j → j < 30 → 0 ≤ bestWay_0 j ∧ bestWay_0 j ≤ 24) (hK_0_117 : ∀ j : Int, 0 ≤ j → j < 100 → 0 ≤ row_0 j ∧ row_0 j ≤ 75) (kz_0_31 : 0 ≤ pn_0 ∧ pn_0 ≤ 25) (kz_0_32 : 0 ≤ pm_0 ∧ pm_0 ≤ 80) (kz_0_45 : 0 ≤ wayMany_0 ∧ wayMany_0 ≤ 30) (kz_0_49 : (-1) ≤ onlyPiece_0 ∧ onlyPiece_0 ≤ 79) (kz_0_125 : 0 ≤ rowMany_0 ∧ rowMany_0 ≤ 100) (ex2 : gx = 0 + (1 * x6 + 0)) (ex3 : (-2) ≤ gx ∧ gx ≤ 26) : onlyPiece_0 = (-1) := by
  first
    | omega
    | (have h := ‹STB _ _ _ _ _›.1.2.2; omega)
    | (have h := ‹STR _ _ _ _ _›.1; omega)
    | (have h := ‹STR _ _ _ _ _›.1
       have w := ‹STR _ _ _ _ _›.2.1 x1 (by omega) (by omega)
       omega)
    | (have h := bc_len ‹BC1 _ _ _ _ _ _ _›
       have h2 := ‹STR _ _ _ _ _›.1
       omega)
    | (have h := (sb_way ‹SB1 _ _ _ _ _ _ _ _ _ _ _ _› (by omega)).1
       have h2 := ‹STR _ _ _ _ _›.1
       omega)
    | (have h := ‹WYM _ _ _ _›.1
       have h2 := ‹STR _ _ _ _ _›.1
       omega)
set_option maxHeartbeats 4000000 in
theorem vc_Mo_stOrder_27_4 (x1 : Int) (x2 : Int) (x3 : Int) (x5 : Int) (x6 : Int) (x8 : Int) (pt_0 : Int → Int) (ph_0 : Int → Int) (pn_0 : Int) (pm_0 : Int) (alive_0 : Int → Int) (row_0 : Int → Int) (rowMany_0 : Int) (onlyPiece_0 : Int) (drawnNode_0 : Int → Int) (drawnEdge_0 : Int → Int) (pieceOf_0 : Int → Int) (bestWay_0 : Int → Int) (way_0 : Int → Int) (wayMany_0 : Int) (gx : Int) (k1 : 1 ≤ x1 ∧ x1 ≤ 30) (k2 : 0 ≤ x2 ∧ x2 ≤ 24) (k3 : 0 ≤ x3 ∧ x3 ≤ 24) (k5 : 1 ≤ x5 ∧ x5 ≤ 30) (k6 : (-2) ≤ x6 ∧ x6 ≤ 26) (k8 : 1 ≤ x8 ∧ x8 ≤ 25) (d0 : x3 + 1 ≤ x8 ∧ x8 ≤ x3 + 1) (d1 : x1 + 0 ≤ x5 ∧ x5 ≤ x1 + 4294967296) (d2 : x1 + (-4294967296) ≤ x5 ∧ x5 ≤ x1 + 0) (f0 : x8 = x3 + 1) (f1 : x1 ≤ x5) (f2 : x1 ≤ x5) (f3 : GOK (pn_0) (pm_0) (pt_0) (ph_0)) (f4 : STB (pn_0) (pm_0) (pt_0) (ph_0) (alive_0)) (f5 : STR (pn_0) (rowMany_0) (pt_0) (ph_0) (row_0)) (f6 : onlyPiece_0 = (-1)) (f7 : (-1) * rowMany_0 + ((-1) * x6 + 0) ≤ (-26)) (f8 : DRR (pn_0) (rowMany_0) (drawnNode_0) (row_0)) (f9 : DEM (pm_0) (pt_0) (ph_0) (drawnNode_0) (drawnEdge_0)) (f10 : UA (pm_0) (alive_0) (drawnEdge_0)) (f11 : (rowMany_0 + 1) ≤ pn_0) (f12 : SB1 (pn_0) (pm_0) (onlyPiece_0) (pt_0) (ph_0) (drawnEdge_0) (pieceOf_0) (drawnNode_0) (bestWay_0) (x1) (x2) (x3)) (f13 : WYM (pn_0) (wayMany_0) (drawnNode_0) (way_0)) (f14 : 1 * x2 + ((-1) * pn_0 + 0) ≤ (-1)) (f15 : 1 * x3 + ((-1) * pn_0 + 0) ≤ (-1)) (f16 : drawnNode_0 (x2) ≠ 0) (f17 : x1 = wayMany_0) (hK_0_33 : ∀ j : Int, 0 ≤ j → j < 80 → 0 ≤ pt_0 j ∧ pt_0 j ≤ 24) (hK_0_34 : ∀ j : Int, 0 ≤ j → j < 80 → 0 ≤ ph_0 j ∧ ph_0 j ≤ 24) (hK_0_35 : ∀ j : Int, 0 ≤ j → j < 80 → 0 ≤ alive_0 j ∧ alive_0 j ≤ 1) (hK_0_42 : ∀ j : Int, 0 ≤ j → j < 26 → 0 ≤ drawnNode_0 j ∧ drawnNode_0 j ≤ 1) (hK_0_43 : ∀ j : Int, 0 ≤ j → j < 80 → 0 ≤ drawnEdge_0 j ∧ drawnEdge_0 j ≤ 1) (hK_0_44 : ∀ j : Int, 0 ≤ j → j < 80 → (-1) ≤ pieceOf_0 j ∧ pieceOf_0 j ≤ 79) (hK_0_46 : ∀ j : Int, 0 ≤ j → j < 30 → 0 ≤ way_0 j ∧ way_0 j ≤ 24) (hK_0_52 : ∀ j : Int, 0 ≤ j → j < 30 → 0 ≤ bestWay_0 j ∧ bestWay_0 j ≤ 24) (hK_0_117 : ∀ j : Int, 0 ≤ j → j < 100 → 0 ≤ row_0 j ∧ row_0 j ≤ 75) (kz_0_31 : 0 ≤ pn_0 ∧ pn_0 ≤ 25) (kz_0_32 : 0 ≤ pm_0 ∧ pm_0 ≤ 80) (kz_0_45 : 0 ≤ wayMany_0 ∧ wayMany_0 ≤ 30) (kz_0_49 : (-1) ≤ onlyPiece_0 ∧ onlyPiece_0 ≤ 79) (kz_0_125 : 0 ≤ rowMany_0 ∧ rowMany_0 ≤ 100) (ex2 : gx = 0 + (1 * x6 + 0)) (ex3 : (-2) ≤ gx ∧ gx ≤ 26) : (-1) * rowMany_0 + ((-1) * gx + 0) ≤ (-26) := by
  first
    | omega
    | (have h := ‹STB _ _ _ _ _›.1.2.2; omega)
    | (have h := ‹STR _ _ _ _ _›.1; omega)
    | (have h := ‹STR _ _ _ _ _›.1
       have w := ‹STR _ _ _ _ _›.2.1 x1 (by omega) (by omega)
       omega)
    | (have h := bc_len ‹BC1 _ _ _ _ _ _ _›
       have h2 := ‹STR _ _ _ _ _›.1
       omega)
    | (have h := (sb_way ‹SB1 _ _ _ _ _ _ _ _ _ _ _ _› (by omega)).1
       have h2 := ‹STR _ _ _ _ _›.1
       omega)
    | (have h := ‹WYM _ _ _ _›.1
       have h2 := ‹STR _ _ _ _ _›.1
       omega)
set_option maxHeartbeats 4000000 in
theorem vc_Mo_stOrder_27_5 (x1 : Int) (x2 : Int) (x3 : Int) (x5 : Int) (x6 : Int) (x8 : Int) (pt_0 : Int → Int) (ph_0 : Int → Int) (pn_0 : Int) (pm_0 : Int) (alive_0 : Int → Int) (row_0 : Int → Int) (rowMany_0 : Int) (onlyPiece_0 : Int) (drawnNode_0 : Int → Int) (drawnEdge_0 : Int → Int) (pieceOf_0 : Int → Int) (bestWay_0 : Int → Int) (way_0 : Int → Int) (wayMany_0 : Int) (gx : Int) (k1 : 1 ≤ x1 ∧ x1 ≤ 30) (k2 : 0 ≤ x2 ∧ x2 ≤ 24) (k3 : 0 ≤ x3 ∧ x3 ≤ 24) (k5 : 1 ≤ x5 ∧ x5 ≤ 30) (k6 : (-2) ≤ x6 ∧ x6 ≤ 26) (k8 : 1 ≤ x8 ∧ x8 ≤ 25) (d0 : x3 + 1 ≤ x8 ∧ x8 ≤ x3 + 1) (d1 : x1 + 0 ≤ x5 ∧ x5 ≤ x1 + 4294967296) (d2 : x1 + (-4294967296) ≤ x5 ∧ x5 ≤ x1 + 0) (f0 : x8 = x3 + 1) (f1 : x1 ≤ x5) (f2 : x1 ≤ x5) (f3 : GOK (pn_0) (pm_0) (pt_0) (ph_0)) (f4 : STB (pn_0) (pm_0) (pt_0) (ph_0) (alive_0)) (f5 : STR (pn_0) (rowMany_0) (pt_0) (ph_0) (row_0)) (f6 : onlyPiece_0 = (-1)) (f7 : (-1) * rowMany_0 + ((-1) * x6 + 0) ≤ (-26)) (f8 : DRR (pn_0) (rowMany_0) (drawnNode_0) (row_0)) (f9 : DEM (pm_0) (pt_0) (ph_0) (drawnNode_0) (drawnEdge_0)) (f10 : UA (pm_0) (alive_0) (drawnEdge_0)) (f11 : (rowMany_0 + 1) ≤ pn_0) (f12 : SB1 (pn_0) (pm_0) (onlyPiece_0) (pt_0) (ph_0) (drawnEdge_0) (pieceOf_0) (drawnNode_0) (bestWay_0) (x1) (x2) (x3)) (f13 : WYM (pn_0) (wayMany_0) (drawnNode_0) (way_0)) (f14 : 1 * x2 + ((-1) * pn_0 + 0) ≤ (-1)) (f15 : 1 * x3 + ((-1) * pn_0 + 0) ≤ (-1)) (f16 : drawnNode_0 (x2) ≠ 0) (f17 : x1 = wayMany_0) (hK_0_33 : ∀ j : Int, 0 ≤ j → j < 80 → 0 ≤ pt_0 j ∧ pt_0 j ≤ 24) (hK_0_34 : ∀ j : Int, 0 ≤ j → j < 80 → 0 ≤ ph_0 j ∧ ph_0 j ≤ 24) (hK_0_35 : ∀ j : Int, 0 ≤ j → j < 80 → 0 ≤ alive_0 j ∧ alive_0 j ≤ 1) (hK_0_42 : ∀ j : Int, 0 ≤ j → j < 26 → 0 ≤ drawnNode_0 j ∧ drawnNode_0 j ≤ 1) (hK_0_43 : ∀ j : Int, 0 ≤ j → j < 80 → 0 ≤ drawnEdge_0 j ∧ drawnEdge_0 j ≤ 1) (hK_0_44 : ∀ j : Int, 0 ≤ j → j < 80 → (-1) ≤ pieceOf_0 j ∧ pieceOf_0 j ≤ 79) (hK_0_46 : ∀ j : Int, 0 ≤ j → j < 30 → 0 ≤ way_0 j ∧ way_0 j ≤ 24) (hK_0_52 : ∀ j : Int, 0 ≤ j → j < 30 → 0 ≤ bestWay_0 j ∧ bestWay_0 j ≤ 24) (hK_0_117 : ∀ j : Int, 0 ≤ j → j < 100 → 0 ≤ row_0 j ∧ row_0 j ≤ 75) (kz_0_31 : 0 ≤ pn_0 ∧ pn_0 ≤ 25) (kz_0_32 : 0 ≤ pm_0 ∧ pm_0 ≤ 80) (kz_0_45 : 0 ≤ wayMany_0 ∧ wayMany_0 ≤ 30) (kz_0_49 : (-1) ≤ onlyPiece_0 ∧ onlyPiece_0 ≤ 79) (kz_0_125 : 0 ≤ rowMany_0 ∧ rowMany_0 ≤ 100) (ex2 : gx = 0 + (1 * x6 + 0)) (ex3 : (-2) ≤ gx ∧ gx ≤ 26) : DRR (pn_0) (rowMany_0) (drawnNode_0) (row_0) := by
  first | assumption
set_option maxHeartbeats 4000000 in
theorem vc_Mo_stOrder_27_6 (x1 : Int) (x2 : Int) (x3 : Int) (x5 : Int) (x6 : Int) (x8 : Int) (pt_0 : Int → Int) (ph_0 : Int → Int) (pn_0 : Int) (pm_0 : Int) (alive_0 : Int → Int) (row_0 : Int → Int) (rowMany_0 : Int) (onlyPiece_0 : Int) (drawnNode_0 : Int → Int) (drawnEdge_0 : Int → Int) (pieceOf_0 : Int → Int) (bestWay_0 : Int → Int) (way_0 : Int → Int) (wayMany_0 : Int) (gx : Int) (k1 : 1 ≤ x1 ∧ x1 ≤ 30) (k2 : 0 ≤ x2 ∧ x2 ≤ 24) (k3 : 0 ≤ x3 ∧ x3 ≤ 24) (k5 : 1 ≤ x5 ∧ x5 ≤ 30) (k6 : (-2) ≤ x6 ∧ x6 ≤ 26) (k8 : 1 ≤ x8 ∧ x8 ≤ 25) (d0 : x3 + 1 ≤ x8 ∧ x8 ≤ x3 + 1) (d1 : x1 + 0 ≤ x5 ∧ x5 ≤ x1 + 4294967296) (d2 : x1 + (-4294967296) ≤ x5 ∧ x5 ≤ x1 + 0) (f0 : x8 = x3 + 1) (f1 : x1 ≤ x5) (f2 : x1 ≤ x5) (f3 : GOK (pn_0) (pm_0) (pt_0) (ph_0)) (f4 : STB (pn_0) (pm_0) (pt_0) (ph_0) (alive_0)) (f5 : STR (pn_0) (rowMany_0) (pt_0) (ph_0) (row_0)) (f6 : onlyPiece_0 = (-1)) (f7 : (-1) * rowMany_0 + ((-1) * x6 + 0) ≤ (-26)) (f8 : DRR (pn_0) (rowMany_0) (drawnNode_0) (row_0)) (f9 : DEM (pm_0) (pt_0) (ph_0) (drawnNode_0) (drawnEdge_0)) (f10 : UA (pm_0) (alive_0) (drawnEdge_0)) (f11 : (rowMany_0 + 1) ≤ pn_0) (f12 : SB1 (pn_0) (pm_0) (onlyPiece_0) (pt_0) (ph_0) (drawnEdge_0) (pieceOf_0) (drawnNode_0) (bestWay_0) (x1) (x2) (x3)) (f13 : WYM (pn_0) (wayMany_0) (drawnNode_0) (way_0)) (f14 : 1 * x2 + ((-1) * pn_0 + 0) ≤ (-1)) (f15 : 1 * x3 + ((-1) * pn_0 + 0) ≤ (-1)) (f16 : drawnNode_0 (x2) ≠ 0) (f17 : x1 = wayMany_0) (hK_0_33 : ∀ j : Int, 0 ≤ j → j < 80 → 0 ≤ pt_0 j ∧ pt_0 j ≤ 24) (hK_0_34 : ∀ j : Int, 0 ≤ j → j < 80 → 0 ≤ ph_0 j ∧ ph_0 j ≤ 24) (hK_0_35 : ∀ j : Int, 0 ≤ j → j < 80 → 0 ≤ alive_0 j ∧ alive_0 j ≤ 1) (hK_0_42 : ∀ j : Int, 0 ≤ j → j < 26 → 0 ≤ drawnNode_0 j ∧ drawnNode_0 j ≤ 1) (hK_0_43 : ∀ j : Int, 0 ≤ j → j < 80 → 0 ≤ drawnEdge_0 j ∧ drawnEdge_0 j ≤ 1) (hK_0_44 : ∀ j : Int, 0 ≤ j → j < 80 → (-1) ≤ pieceOf_0 j ∧ pieceOf_0 j ≤ 79) (hK_0_46 : ∀ j : Int, 0 ≤ j → j < 30 → 0 ≤ way_0 j ∧ way_0 j ≤ 24) (hK_0_52 : ∀ j : Int, 0 ≤ j → j < 30 → 0 ≤ bestWay_0 j ∧ bestWay_0 j ≤ 24) (hK_0_117 : ∀ j : Int, 0 ≤ j → j < 100 → 0 ≤ row_0 j ∧ row_0 j ≤ 75) (kz_0_31 : 0 ≤ pn_0 ∧ pn_0 ≤ 25) (kz_0_32 : 0 ≤ pm_0 ∧ pm_0 ≤ 80) (kz_0_45 : 0 ≤ wayMany_0 ∧ wayMany_0 ≤ 30) (kz_0_49 : (-1) ≤ onlyPiece_0 ∧ onlyPiece_0 ≤ 79) (kz_0_125 : 0 ≤ rowMany_0 ∧ rowMany_0 ≤ 100) (ex2 : gx = 0 + (1 * x6 + 0)) (ex3 : (-2) ≤ gx ∧ gx ≤ 26) : DEM (pm_0) (pt_0) (ph_0) (drawnNode_0) (drawnEdge_0) := by
  first | assumption
set_option maxHeartbeats 4000000 in
theorem vc_Mo_stOrder_27_7 (x1 : Int) (x2 : Int) (x3 : Int) (x5 : Int) (x6 : Int) (x8 : Int) (pt_0 : Int → Int) (ph_0 : Int → Int) (pn_0 : Int) (pm_0 : Int) (alive_0 : Int → Int) (row_0 : Int → Int) (rowMany_0 : Int) (onlyPiece_0 : Int) (drawnNode_0 : Int → Int) (drawnEdge_0 : Int → Int) (pieceOf_0 : Int → Int) (bestWay_0 : Int → Int) (way_0 : Int → Int) (wayMany_0 : Int) (gx : Int) (k1 : 1 ≤ x1 ∧ x1 ≤ 30) (k2 : 0 ≤ x2 ∧ x2 ≤ 24) (k3 : 0 ≤ x3 ∧ x3 ≤ 24) (k5 : 1 ≤ x5 ∧ x5 ≤ 30) (k6 : (-2) ≤ x6 ∧ x6 ≤ 26) (k8 : 1 ≤ x8 ∧ x8 ≤ 25) (d0 : x3 + 1 ≤ x8 ∧ x8 ≤ x3 + 1) (d1 : x1 + 0 ≤ x5 ∧ x5 ≤ x1 + 4294967296) (d2 : x1 + (-4294967296) ≤ x5 ∧ x5 ≤ x1 + 0) (f0 : x8 = x3 + 1) (f1 : x1 ≤ x5) (f2 : x1 ≤ x5) (f3 : GOK (pn_0) (pm_0) (pt_0) (ph_0)) (f4 : STB (pn_0) (pm_0) (pt_0) (ph_0) (alive_0)) (f5 : STR (pn_0) (rowMany_0) (pt_0) (ph_0) (row_0)) (f6 : onlyPiece_0 = (-1)) (f7 : (-1) * rowMany_0 + ((-1) * x6 + 0) ≤ (-26)) (f8 : DRR (pn_0) (rowMany_0) (drawnNode_0) (row_0)) (f9 : DEM (pm_0) (pt_0) (ph_0) (drawnNode_0) (drawnEdge_0)) (f10 : UA (pm_0) (alive_0) (drawnEdge_0)) (f11 : (rowMany_0 + 1) ≤ pn_0) (f12 : SB1 (pn_0) (pm_0) (onlyPiece_0) (pt_0) (ph_0) (drawnEdge_0) (pieceOf_0) (drawnNode_0) (bestWay_0) (x1) (x2) (x3)) (f13 : WYM (pn_0) (wayMany_0) (drawnNode_0) (way_0)) (f14 : 1 * x2 + ((-1) * pn_0 + 0) ≤ (-1)) (f15 : 1 * x3 + ((-1) * pn_0 + 0) ≤ (-1)) (f16 : drawnNode_0 (x2) ≠ 0) (f17 : x1 = wayMany_0) (hK_0_33 : ∀ j : Int, 0 ≤ j → j < 80 → 0 ≤ pt_0 j ∧ pt_0 j ≤ 24) (hK_0_34 : ∀ j : Int, 0 ≤ j → j < 80 → 0 ≤ ph_0 j ∧ ph_0 j ≤ 24) (hK_0_35 : ∀ j : Int, 0 ≤ j → j < 80 → 0 ≤ alive_0 j ∧ alive_0 j ≤ 1) (hK_0_42 : ∀ j : Int, 0 ≤ j → j < 26 → 0 ≤ drawnNode_0 j ∧ drawnNode_0 j ≤ 1) (hK_0_43 : ∀ j : Int, 0 ≤ j → j < 80 → 0 ≤ drawnEdge_0 j ∧ drawnEdge_0 j ≤ 1) (hK_0_44 : ∀ j : Int, 0 ≤ j → j < 80 → (-1) ≤ pieceOf_0 j ∧ pieceOf_0 j ≤ 79) (hK_0_46 : ∀ j : Int, 0 ≤ j → j < 30 → 0 ≤ way_0 j ∧ way_0 j ≤ 24) (hK_0_52 : ∀ j : Int, 0 ≤ j → j < 30 → 0 ≤ bestWay_0 j ∧ bestWay_0 j ≤ 24) (hK_0_117 : ∀ j : Int, 0 ≤ j → j < 100 → 0 ≤ row_0 j ∧ row_0 j ≤ 75) (kz_0_31 : 0 ≤ pn_0 ∧ pn_0 ≤ 25) (kz_0_32 : 0 ≤ pm_0 ∧ pm_0 ≤ 80) (kz_0_45 : 0 ≤ wayMany_0 ∧ wayMany_0 ≤ 30) (kz_0_49 : (-1) ≤ onlyPiece_0 ∧ onlyPiece_0 ≤ 79) (kz_0_125 : 0 ≤ rowMany_0 ∧ rowMany_0 ≤ 100) (ex2 : gx = 0 + (1 * x6 + 0)) (ex3 : (-2) ≤ gx ∧ gx ≤ 26) : UA (pm_0) (alive_0) (drawnEdge_0) := by
  first | assumption
set_option maxHeartbeats 4000000 in
theorem vc_Mo_stOrder_27_8 (x1 : Int) (x2 : Int) (x3 : Int) (x5 : Int) (x6 : Int) (x8 : Int) (pt_0 : Int → Int) (ph_0 : Int → Int) (pn_0 : Int) (pm_0 : Int) (alive_0 : Int → Int) (row_0 : Int → Int) (rowMany_0 : Int) (onlyPiece_0 : Int) (drawnNode_0 : Int → Int) (drawnEdge_0 : Int → Int) (pieceOf_0 : Int → Int) (bestWay_0 : Int → Int) (way_0 : Int → Int) (wayMany_0 : Int) (gx : Int) (k1 : 1 ≤ x1 ∧ x1 ≤ 30) (k2 : 0 ≤ x2 ∧ x2 ≤ 24) (k3 : 0 ≤ x3 ∧ x3 ≤ 24) (k5 : 1 ≤ x5 ∧ x5 ≤ 30) (k6 : (-2) ≤ x6 ∧ x6 ≤ 26) (k8 : 1 ≤ x8 ∧ x8 ≤ 25) (d0 : x3 + 1 ≤ x8 ∧ x8 ≤ x3 + 1) (d1 : x1 + 0 ≤ x5 ∧ x5 ≤ x1 + 4294967296) (d2 : x1 + (-4294967296) ≤ x5 ∧ x5 ≤ x1 + 0) (f0 : x8 = x3 + 1) (f1 : x1 ≤ x5) (f2 : x1 ≤ x5) (f3 : GOK (pn_0) (pm_0) (pt_0) (ph_0)) (f4 : STB (pn_0) (pm_0) (pt_0) (ph_0) (alive_0)) (f5 : STR (pn_0) (rowMany_0) (pt_0) (ph_0) (row_0)) (f6 : onlyPiece_0 = (-1)) (f7 : (-1) * rowMany_0 + ((-1) * x6 + 0) ≤ (-26)) (f8 : DRR (pn_0) (rowMany_0) (drawnNode_0) (row_0)) (f9 : DEM (pm_0) (pt_0) (ph_0) (drawnNode_0) (drawnEdge_0)) (f10 : UA (pm_0) (alive_0) (drawnEdge_0)) (f11 : (rowMany_0 + 1) ≤ pn_0) (f12 : SB1 (pn_0) (pm_0) (onlyPiece_0) (pt_0) (ph_0) (drawnEdge_0) (pieceOf_0) (drawnNode_0) (bestWay_0) (x1) (x2) (x3)) (f13 : WYM (pn_0) (wayMany_0) (drawnNode_0) (way_0)) (f14 : 1 * x2 + ((-1) * pn_0 + 0) ≤ (-1)) (f15 : 1 * x3 + ((-1) * pn_0 + 0) ≤ (-1)) (f16 : drawnNode_0 (x2) ≠ 0) (f17 : x1 = wayMany_0) (hK_0_33 : ∀ j : Int, 0 ≤ j → j < 80 → 0 ≤ pt_0 j ∧ pt_0 j ≤ 24) (hK_0_34 : ∀ j : Int, 0 ≤ j → j < 80 → 0 ≤ ph_0 j ∧ ph_0 j ≤ 24) (hK_0_35 : ∀ j : Int, 0 ≤ j → j < 80 → 0 ≤ alive_0 j ∧ alive_0 j ≤ 1) (hK_0_42 : ∀ j : Int, 0 ≤ j → j < 26 → 0 ≤ drawnNode_0 j ∧ drawnNode_0 j ≤ 1) (hK_0_43 : ∀ j : Int, 0 ≤ j → j < 80 → 0 ≤ drawnEdge_0 j ∧ drawnEdge_0 j ≤ 1) (hK_0_44 : ∀ j : Int, 0 ≤ j → j < 80 → (-1) ≤ pieceOf_0 j ∧ pieceOf_0 j ≤ 79) (hK_0_46 : ∀ j : Int, 0 ≤ j → j < 30 → 0 ≤ way_0 j ∧ way_0 j ≤ 24) (hK_0_52 : ∀ j : Int, 0 ≤ j → j < 30 → 0 ≤ bestWay_0 j ∧ bestWay_0 j ≤ 24) (hK_0_117 : ∀ j : Int, 0 ≤ j → j < 100 → 0 ≤ row_0 j ∧ row_0 j ≤ 75) (kz_0_31 : 0 ≤ pn_0 ∧ pn_0 ≤ 25) (kz_0_32 : 0 ≤ pm_0 ∧ pm_0 ≤ 80) (kz_0_45 : 0 ≤ wayMany_0 ∧ wayMany_0 ≤ 30) (kz_0_49 : (-1) ≤ onlyPiece_0 ∧ onlyPiece_0 ≤ 79) (kz_0_125 : 0 ≤ rowMany_0 ∧ rowMany_0 ≤ 100) (ex2 : gx = 0 + (1 * x6 + 0)) (ex3 : (-2) ≤ gx ∧ gx ≤ 26) : (rowMany_0 + 1) ≤ pn_0 := by
  first
    | omega
    | (have h := ‹STB _ _ _ _ _›.1.2.2; omega)
    | (have h := ‹STR _ _ _ _ _›.1; omega)
    | (have h := ‹STR _ _ _ _ _›.1
       have w := ‹STR _ _ _ _ _›.2.1 x1 (by omega) (by omega)
       omega)
    | (have h := bc_len ‹BC1 _ _ _ _ _ _ _›
       have h2 := ‹STR _ _ _ _ _›.1
       omega)
    | (have h := (sb_way ‹SB1 _ _ _ _ _ _ _ _ _ _ _ _› (by omega)).1
       have h2 := ‹STR _ _ _ _ _›.1
       omega)
    | (have h := ‹WYM _ _ _ _›.1
       have h2 := ‹STR _ _ _ _ _›.1
       omega)
set_option maxHeartbeats 4000000 in
theorem vc_Mo_stOrder_27_9 (x1 : Int) (x2 : Int) (x3 : Int) (x5 : Int) (x6 : Int) (x8 : Int) (pt_0 : Int → Int) (ph_0 : Int → Int) (pn_0 : Int) (pm_0 : Int) (alive_0 : Int → Int) (row_0 : Int → Int) (rowMany_0 : Int) (onlyPiece_0 : Int) (drawnNode_0 : Int → Int) (drawnEdge_0 : Int → Int) (pieceOf_0 : Int → Int) (bestWay_0 : Int → Int) (way_0 : Int → Int) (wayMany_0 : Int) (gx : Int) (k1 : 1 ≤ x1 ∧ x1 ≤ 30) (k2 : 0 ≤ x2 ∧ x2 ≤ 24) (k3 : 0 ≤ x3 ∧ x3 ≤ 24) (k5 : 1 ≤ x5 ∧ x5 ≤ 30) (k6 : (-2) ≤ x6 ∧ x6 ≤ 26) (k8 : 1 ≤ x8 ∧ x8 ≤ 25) (d0 : x3 + 1 ≤ x8 ∧ x8 ≤ x3 + 1) (d1 : x1 + 0 ≤ x5 ∧ x5 ≤ x1 + 4294967296) (d2 : x1 + (-4294967296) ≤ x5 ∧ x5 ≤ x1 + 0) (f0 : x8 = x3 + 1) (f1 : x1 ≤ x5) (f2 : x1 ≤ x5) (f3 : GOK (pn_0) (pm_0) (pt_0) (ph_0)) (f4 : STB (pn_0) (pm_0) (pt_0) (ph_0) (alive_0)) (f5 : STR (pn_0) (rowMany_0) (pt_0) (ph_0) (row_0)) (f6 : onlyPiece_0 = (-1)) (f7 : (-1) * rowMany_0 + ((-1) * x6 + 0) ≤ (-26)) (f8 : DRR (pn_0) (rowMany_0) (drawnNode_0) (row_0)) (f9 : DEM (pm_0) (pt_0) (ph_0) (drawnNode_0) (drawnEdge_0)) (f10 : UA (pm_0) (alive_0) (drawnEdge_0)) (f11 : (rowMany_0 + 1) ≤ pn_0) (f12 : SB1 (pn_0) (pm_0) (onlyPiece_0) (pt_0) (ph_0) (drawnEdge_0) (pieceOf_0) (drawnNode_0) (bestWay_0) (x1) (x2) (x3)) (f13 : WYM (pn_0) (wayMany_0) (drawnNode_0) (way_0)) (f14 : 1 * x2 + ((-1) * pn_0 + 0) ≤ (-1)) (f15 : 1 * x3 + ((-1) * pn_0 + 0) ≤ (-1)) (f16 : drawnNode_0 (x2) ≠ 0) (f17 : x1 = wayMany_0) (hK_0_33 : ∀ j : Int, 0 ≤ j → j < 80 → 0 ≤ pt_0 j ∧ pt_0 j ≤ 24) (hK_0_34 : ∀ j : Int, 0 ≤ j → j < 80 → 0 ≤ ph_0 j ∧ ph_0 j ≤ 24) (hK_0_35 : ∀ j : Int, 0 ≤ j → j < 80 → 0 ≤ alive_0 j ∧ alive_0 j ≤ 1) (hK_0_42 : ∀ j : Int, 0 ≤ j → j < 26 → 0 ≤ drawnNode_0 j ∧ drawnNode_0 j ≤ 1) (hK_0_43 : ∀ j : Int, 0 ≤ j → j < 80 → 0 ≤ drawnEdge_0 j ∧ drawnEdge_0 j ≤ 1) (hK_0_44 : ∀ j : Int, 0 ≤ j → j < 80 → (-1) ≤ pieceOf_0 j ∧ pieceOf_0 j ≤ 79) (hK_0_46 : ∀ j : Int, 0 ≤ j → j < 30 → 0 ≤ way_0 j ∧ way_0 j ≤ 24) (hK_0_52 : ∀ j : Int, 0 ≤ j → j < 30 → 0 ≤ bestWay_0 j ∧ bestWay_0 j ≤ 24) (hK_0_117 : ∀ j : Int, 0 ≤ j → j < 100 → 0 ≤ row_0 j ∧ row_0 j ≤ 75) (kz_0_31 : 0 ≤ pn_0 ∧ pn_0 ≤ 25) (kz_0_32 : 0 ≤ pm_0 ∧ pm_0 ≤ 80) (kz_0_45 : 0 ≤ wayMany_0 ∧ wayMany_0 ≤ 30) (kz_0_49 : (-1) ≤ onlyPiece_0 ∧ onlyPiece_0 ≤ 79) (kz_0_125 : 0 ≤ rowMany_0 ∧ rowMany_0 ≤ 100) (ex2 : gx = 0 + (1 * x6 + 0)) (ex3 : (-2) ≤ gx ∧ gx ≤ 26) : SB1 (pn_0) (pm_0) (onlyPiece_0) (pt_0) (ph_0) (drawnEdge_0) (pieceOf_0) (drawnNode_0) (bestWay_0) (x1) (x2) (x8) := by
  first
    | exact sb_0 ‹SA1 _ _ _ _ _ _ _ _ _ _ _› (by omega)
    | exact sb_skip ‹SB1 _ _ _ _ _ _ _ _ _ _ _ _› (by omega) (Or.inl (by omega))
    | exact sb_skip ‹SB1 _ _ _ _ _ _ _ _ _ _ _ _› (by omega) (Or.inr (by omega))
    | exact sb_now ‹SB1 _ _ _ _ _ _ _ _ _ _ _ _› (by omega) ‹SHP _ _ _ _ _ _ _ _ _ _ _ _ _ _› (by omega) (by omega)
    | exact sb_any ‹SB1 _ _ _ _ _ _ _ _ _ _ _ _› (by omega)
    | exact Or.inr (bc_way ‹BC1 _ _ _ _ _ _ _› (by omega))
set_option maxHeartbeats 4000000 in
theorem vc_Mo_stOrder_27_10 (x1 : Int) (x2 : Int) (x3 : Int) (x5 : Int) (x6 : Int) (x8 : Int) (pt_0 : Int → Int) (ph_0 : Int → Int) (pn_0 : Int) (pm_0 : Int) (alive_0 : Int → Int) (row_0 : Int → Int) (rowMany_0 : Int) (onlyPiece_0 : Int) (drawnNode_0 : Int → Int) (drawnEdge_0 : Int → Int) (pieceOf_0 : Int → Int) (bestWay_0 : Int → Int) (way_0 : Int → Int) (wayMany_0 : Int) (gx : Int) (k1 : 1 ≤ x1 ∧ x1 ≤ 30) (k2 : 0 ≤ x2 ∧ x2 ≤ 24) (k3 : 0 ≤ x3 ∧ x3 ≤ 24) (k5 : 1 ≤ x5 ∧ x5 ≤ 30) (k6 : (-2) ≤ x6 ∧ x6 ≤ 26) (k8 : 1 ≤ x8 ∧ x8 ≤ 25) (d0 : x3 + 1 ≤ x8 ∧ x8 ≤ x3 + 1) (d1 : x1 + 0 ≤ x5 ∧ x5 ≤ x1 + 4294967296) (d2 : x1 + (-4294967296) ≤ x5 ∧ x5 ≤ x1 + 0) (f0 : x8 = x3 + 1) (f1 : x1 ≤ x5) (f2 : x1 ≤ x5) (f3 : GOK (pn_0) (pm_0) (pt_0) (ph_0)) (f4 : STB (pn_0) (pm_0) (pt_0) (ph_0) (alive_0)) (f5 : STR (pn_0) (rowMany_0) (pt_0) (ph_0) (row_0)) (f6 : onlyPiece_0 = (-1)) (f7 : (-1) * rowMany_0 + ((-1) * x6 + 0) ≤ (-26)) (f8 : DRR (pn_0) (rowMany_0) (drawnNode_0) (row_0)) (f9 : DEM (pm_0) (pt_0) (ph_0) (drawnNode_0) (drawnEdge_0)) (f10 : UA (pm_0) (alive_0) (drawnEdge_0)) (f11 : (rowMany_0 + 1) ≤ pn_0) (f12 : SB1 (pn_0) (pm_0) (onlyPiece_0) (pt_0) (ph_0) (drawnEdge_0) (pieceOf_0) (drawnNode_0) (bestWay_0) (x1) (x2) (x3)) (f13 : WYM (pn_0) (wayMany_0) (drawnNode_0) (way_0)) (f14 : 1 * x2 + ((-1) * pn_0 + 0) ≤ (-1)) (f15 : 1 * x3 + ((-1) * pn_0 + 0) ≤ (-1)) (f16 : drawnNode_0 (x2) ≠ 0) (f17 : x1 = wayMany_0) (hK_0_33 : ∀ j : Int, 0 ≤ j → j < 80 → 0 ≤ pt_0 j ∧ pt_0 j ≤ 24) (hK_0_34 : ∀ j : Int, 0 ≤ j → j < 80 → 0 ≤ ph_0 j ∧ ph_0 j ≤ 24) (hK_0_35 : ∀ j : Int, 0 ≤ j → j < 80 → 0 ≤ alive_0 j ∧ alive_0 j ≤ 1) (hK_0_42 : ∀ j : Int, 0 ≤ j → j < 26 → 0 ≤ drawnNode_0 j ∧ drawnNode_0 j ≤ 1) (hK_0_43 : ∀ j : Int, 0 ≤ j → j < 80 → 0 ≤ drawnEdge_0 j ∧ drawnEdge_0 j ≤ 1) (hK_0_44 : ∀ j : Int, 0 ≤ j → j < 80 → (-1) ≤ pieceOf_0 j ∧ pieceOf_0 j ≤ 79) (hK_0_46 : ∀ j : Int, 0 ≤ j → j < 30 → 0 ≤ way_0 j ∧ way_0 j ≤ 24) (hK_0_52 : ∀ j : Int, 0 ≤ j → j < 30 → 0 ≤ bestWay_0 j ∧ bestWay_0 j ≤ 24) (hK_0_117 : ∀ j : Int, 0 ≤ j → j < 100 → 0 ≤ row_0 j ∧ row_0 j ≤ 75) (kz_0_31 : 0 ≤ pn_0 ∧ pn_0 ≤ 25) (kz_0_32 : 0 ≤ pm_0 ∧ pm_0 ≤ 80) (kz_0_45 : 0 ≤ wayMany_0 ∧ wayMany_0 ≤ 30) (kz_0_49 : (-1) ≤ onlyPiece_0 ∧ onlyPiece_0 ≤ 79) (kz_0_125 : 0 ≤ rowMany_0 ∧ rowMany_0 ≤ 100) (ex2 : gx = 0 + (1 * x6 + 0)) (ex3 : (-2) ≤ gx ∧ gx ≤ 26) : 1 * x2 + ((-1) * pn_0 + 0) ≤ (-1) := by
  first
    | omega
    | (have h := ‹STB _ _ _ _ _›.1.2.2; omega)
    | (have h := ‹STR _ _ _ _ _›.1; omega)
    | (have h := ‹STR _ _ _ _ _›.1
       have w := ‹STR _ _ _ _ _›.2.1 x1 (by omega) (by omega)
       omega)
    | (have h := bc_len ‹BC1 _ _ _ _ _ _ _›
       have h2 := ‹STR _ _ _ _ _›.1
       omega)
    | (have h := (sb_way ‹SB1 _ _ _ _ _ _ _ _ _ _ _ _› (by omega)).1
       have h2 := ‹STR _ _ _ _ _›.1
       omega)
    | (have h := ‹WYM _ _ _ _›.1
       have h2 := ‹STR _ _ _ _ _›.1
       omega)
set_option maxHeartbeats 4000000 in
theorem vc_Mo_stOrder_27_11 (x1 : Int) (x2 : Int) (x3 : Int) (x5 : Int) (x6 : Int) (x8 : Int) (pt_0 : Int → Int) (ph_0 : Int → Int) (pn_0 : Int) (pm_0 : Int) (alive_0 : Int → Int) (row_0 : Int → Int) (rowMany_0 : Int) (onlyPiece_0 : Int) (drawnNode_0 : Int → Int) (drawnEdge_0 : Int → Int) (pieceOf_0 : Int → Int) (bestWay_0 : Int → Int) (way_0 : Int → Int) (wayMany_0 : Int) (gx : Int) (k1 : 1 ≤ x1 ∧ x1 ≤ 30) (k2 : 0 ≤ x2 ∧ x2 ≤ 24) (k3 : 0 ≤ x3 ∧ x3 ≤ 24) (k5 : 1 ≤ x5 ∧ x5 ≤ 30) (k6 : (-2) ≤ x6 ∧ x6 ≤ 26) (k8 : 1 ≤ x8 ∧ x8 ≤ 25) (d0 : x3 + 1 ≤ x8 ∧ x8 ≤ x3 + 1) (d1 : x1 + 0 ≤ x5 ∧ x5 ≤ x1 + 4294967296) (d2 : x1 + (-4294967296) ≤ x5 ∧ x5 ≤ x1 + 0) (f0 : x8 = x3 + 1) (f1 : x1 ≤ x5) (f2 : x1 ≤ x5) (f3 : GOK (pn_0) (pm_0) (pt_0) (ph_0)) (f4 : STB (pn_0) (pm_0) (pt_0) (ph_0) (alive_0)) (f5 : STR (pn_0) (rowMany_0) (pt_0) (ph_0) (row_0)) (f6 : onlyPiece_0 = (-1)) (f7 : (-1) * rowMany_0 + ((-1) * x6 + 0) ≤ (-26)) (f8 : DRR (pn_0) (rowMany_0) (drawnNode_0) (row_0)) (f9 : DEM (pm_0) (pt_0) (ph_0) (drawnNode_0) (drawnEdge_0)) (f10 : UA (pm_0) (alive_0) (drawnEdge_0)) (f11 : (rowMany_0 + 1) ≤ pn_0) (f12 : SB1 (pn_0) (pm_0) (onlyPiece_0) (pt_0) (ph_0) (drawnEdge_0) (pieceOf_0) (drawnNode_0) (bestWay_0) (x1) (x2) (x3)) (f13 : WYM (pn_0) (wayMany_0) (drawnNode_0) (way_0)) (f14 : 1 * x2 + ((-1) * pn_0 + 0) ≤ (-1)) (f15 : 1 * x3 + ((-1) * pn_0 + 0) ≤ (-1)) (f16 : drawnNode_0 (x2) ≠ 0) (f17 : x1 = wayMany_0) (hK_0_33 : ∀ j : Int, 0 ≤ j → j < 80 → 0 ≤ pt_0 j ∧ pt_0 j ≤ 24) (hK_0_34 : ∀ j : Int, 0 ≤ j → j < 80 → 0 ≤ ph_0 j ∧ ph_0 j ≤ 24) (hK_0_35 : ∀ j : Int, 0 ≤ j → j < 80 → 0 ≤ alive_0 j ∧ alive_0 j ≤ 1) (hK_0_42 : ∀ j : Int, 0 ≤ j → j < 26 → 0 ≤ drawnNode_0 j ∧ drawnNode_0 j ≤ 1) (hK_0_43 : ∀ j : Int, 0 ≤ j → j < 80 → 0 ≤ drawnEdge_0 j ∧ drawnEdge_0 j ≤ 1) (hK_0_44 : ∀ j : Int, 0 ≤ j → j < 80 → (-1) ≤ pieceOf_0 j ∧ pieceOf_0 j ≤ 79) (hK_0_46 : ∀ j : Int, 0 ≤ j → j < 30 → 0 ≤ way_0 j ∧ way_0 j ≤ 24) (hK_0_52 : ∀ j : Int, 0 ≤ j → j < 30 → 0 ≤ bestWay_0 j ∧ bestWay_0 j ≤ 24) (hK_0_117 : ∀ j : Int, 0 ≤ j → j < 100 → 0 ≤ row_0 j ∧ row_0 j ≤ 75) (kz_0_31 : 0 ≤ pn_0 ∧ pn_0 ≤ 25) (kz_0_32 : 0 ≤ pm_0 ∧ pm_0 ≤ 80) (kz_0_45 : 0 ≤ wayMany_0 ∧ wayMany_0 ≤ 30) (kz_0_49 : (-1) ≤ onlyPiece_0 ∧ onlyPiece_0 ≤ 79) (kz_0_125 : 0 ≤ rowMany_0 ∧ rowMany_0 ≤ 100) (ex2 : gx = 0 + (1 * x6 + 0)) (ex3 : (-2) ≤ gx ∧ gx ≤ 26) : drawnNode_0 (x2) ≠ 0 := by
  first
    | omega
    | (have h := ‹STB _ _ _ _ _›.1.2.2; omega)
    | (have h := ‹STR _ _ _ _ _›.1; omega)
    | (have h := ‹STR _ _ _ _ _›.1
       have w := ‹STR _ _ _ _ _›.2.1 x1 (by omega) (by omega)
       omega)
    | (have h := bc_len ‹BC1 _ _ _ _ _ _ _›
       have h2 := ‹STR _ _ _ _ _›.1
       omega)
    | (have h := (sb_way ‹SB1 _ _ _ _ _ _ _ _ _ _ _ _› (by omega)).1
       have h2 := ‹STR _ _ _ _ _›.1
       omega)
    | (have h := ‹WYM _ _ _ _›.1
       have h2 := ‹STR _ _ _ _ _›.1
       omega)
def o_Mo_stOrder_27 : or_T := (181, 9, [(0, (2, 0, 0, [165])), (1, (0, 1, 30, [])), (2, (0, 0, 24, [])), (3, (0, 0, 24, [])), (5, (0, 1, 30, [])), (6, (0, -2, 26, [])), (8, (0, 1, 25, []))], [(6, [8, 3], [1]), (7, [5, 1], [3]), (7, [5, 1], [3]), (20, [0], [60, 2, 2, 75, 31, 32, 33, 34]), (20, [0], [60, 2, 3, 297, 31, 32, 33, 34, 35]), (20, [0], [60, 2, 3, 298, 31, 125, 33, 34, 117]), (20, [0], [50, 1, 0, 49, 1, 3, 2, 0, 49, 0, -1]), (20, [0, 6], [30, -26, -1, 1, 125, -1, 0, 0]), (20, [0], [60, 2, 2, 301, 31, 125, 42, 117]), (20, [0], [60, 1, 4, 303, 32, 33, 34, 42, 43]), (20, [0], [60, 1, 2, 122, 32, 35, 43]), (20, [0], [50, 2, 0, 125, 31, 0, 7, 4, 3, 2, 0, 125, 0, 1, 2, 0, 31]), (20, [0, 1, 2, 3], [60, 3, 6, 306, 31, 32, 49, 33, 34, 43, 44, 42, 52]), (20, [0], [60, 2, 2, 304, 31, 45, 42, 46]), (20, [2, 0], [30, -1, 1, 0, 0, -1, 1, 31]), (20, [3, 0], [30, -1, 1, 0, 0, -1, 1, 31]), (20, [0, 2], [50, 0, 1, 42, 7, 5, 3, 0, 42, 1, 1, 0, 0]), (20, [1, 0], [50, 1, 0, 1045, 1, 2, 1, 0, 2, 1, 45])], [], [(0, -2, 26, [])], [(20, [0], [60, 2, 2, 75, 31, 32, 33, 34]), (20, [0], [60, 2, 3, 297, 31, 32, 33, 34, 35]), (20, [0], [60, 2, 3, 298, 31, 125, 33, 34, 117]), (20, [0], [50, 1, 0, 49, 1, 3, 2, 0, 49, 0, -1]), (20, [0, 9], [30, -26, -1, 1, 125, -1, 0, 0]), (20, [0], [60, 2, 2, 301, 31, 125, 42, 117]), (20, [0], [60, 1, 4, 303, 32, 33, 34, 42, 43]), (20, [0], [60, 1, 2, 122, 32, 35, 43]), (20, [0], [50, 2, 0, 125, 31, 0, 7, 4, 3, 2, 0, 125, 0, 1, 2, 0, 31]), (20, [0, 1, 2, 8], [60, 3, 6, 306, 31, 32, 49, 33, 34, 43, 44, 42, 52]), (20, [2, 0], [30, -1, 1, 0, 0, -1, 1, 31]), (20, [0, 2], [50, 0, 1, 42, 7, 5, 3, 0, 42, 1, 1, 0, 0])], [(9, 6, 0, 0)], [(8, 3, 1, 1), (5, 1, 0, 4294967296), (5, 1, -4294967296, 0)])
theorem oo_Mo_stOrder_27 {kA : Nat → ClassId} : or_ok PRD kA GG o_Mo_stOrder_27 := by
  refine or_mk fun A ta ws vs hD hth hl => ?_
  intro t0 r0 t1 k1 t2 k2 t3 k3 t5 k5 t6 k6 t8 k8 d0 d1 d2 f0 f1 f2 f3 f4 f5 f6 f7 f8 f9 f10 f11 f12 f13 f14 f15 f16 f17
  replace f0 := shm_4 f0
  replace f1 := shm_2 f1
  replace f2 := shm_2 f2
  replace f3 := shm_575 f3
  replace f4 := shm_1749 f4
  replace f5 := shm_1001 f5
  replace f6 := shm_1675 f6
  replace f7 := shm_1750 f7
  replace f8 := shm_1755 f8
  replace f9 := shm_1757 f9
  replace f10 := shm_1455 f10
  replace f11 := shm_1752 f11
  replace f12 := shm_1761 f12
  replace f13 := shm_1764 f13
  replace f14 := shm_553 f14
  replace f15 := shm_553 f15
  replace f16 := shm_1762 f16
  replace f17 := shm_1765 f17
  have cr_0_33 := fdq_117 hD hth r0
  have cr_0_34 := fdq_118 hD hth r0
  have cr_0_35 := fdq_132 hD hth r0
  have cr_0_42 := fdq_136 hD hth r0
  have cr_0_43 := fdq_137 hD hth r0
  have cr_0_44 := fdq_138 hD hth r0
  have cr_0_46 := fdq_190 hD hth r0
  have cr_0_52 := fdq_236 hD hth r0
  have cr_0_117 := fdq_181 hD hth r0
  have hK_0_33 := elq_60 hD hth cr_0_33
  have hK_0_34 := elq_61 hD hth cr_0_34
  have hK_0_35 := elq_72 hD hth cr_0_35
  have hK_0_42 := elq_75 hD hth cr_0_42
  have hK_0_43 := elq_76 hD hth cr_0_43
  have hK_0_44 := elq_77 hD hth cr_0_44
  have hK_0_46 := elq_114 hD hth cr_0_46
  have hK_0_52 := elq_147 hD hth cr_0_52
  have hK_0_117 := elq_108 hD hth cr_0_117
  have kz_0_31 := fdq_145 hD hth r0
  have kz_0_32 := fdq_140 hD hth r0
  have kz_0_45 := fdq_191 hD hth r0
  have kz_0_49 := fdq_146 hD hth r0
  have kz_0_125 := fdq_182 hD hth r0
  obtain ⟨x, ex, hx⟩ := iv_ex (ta := ta) (lo := (-2)) (hi := 26) (z := 0 + (1 * v_iv (n_v vs 6) + 0)) (by omega) (by omega) (by omega) (by omega)
  have ex2 : v_iv (Value.int x) = 0 + (1 * v_iv (n_v vs 6) + 0) := ex
  have ex3 : (-2) ≤ v_iv (Value.int x) ∧ v_iv (Value.int x) ≤ 26 := tv_rng hx
  have e_0 : n_v (vs ++ [Value.int x]) 0 = n_v vs 0 := n_v_old (by rw [hl]; decide)
  have e_1 : n_v (vs ++ [Value.int x]) 1 = n_v vs 1 := n_v_old (by rw [hl]; decide)
  have e_2 : n_v (vs ++ [Value.int x]) 2 = n_v vs 2 := n_v_old (by rw [hl]; decide)
  have e_8 : n_v (vs ++ [Value.int x]) 8 = n_v vs 8 := n_v_old (by rw [hl]; decide)
  have e_9 : n_v (vs ++ [Value.int x]) 9 = Value.int x := n_v_new hl
  have nf0 : fc_1 PRD (20, [0], [60, 2, 2, 75, 31, 32, 33, 34]) ws (vs ++ [Value.int x]) := by
    refine ⟨nf_inA hl rfl, sgq_575 ?_⟩
    · show GOK (w_fi ws (n_v (vs ++ [Value.int x]) 0) 31) (w_fi ws (n_v (vs ++ [Value.int x]) 0) 32) (w_ei ws (w_ar ws (n_v (vs ++ [Value.int x]) 0) 33)) (w_ei ws (w_ar ws (n_v (vs ++ [Value.int x]) 0) 34))
      rw [e_0]
      exact vc_Mo_stOrder_27_0 (v_iv (n_v vs 1)) (v_iv (n_v vs 2)) (v_iv (n_v vs 3)) (v_iv (n_v vs 5)) (v_iv (n_v vs 6)) (v_iv (n_v vs 8)) (w_ei ws (w_ar ws (n_v vs 0) 33)) (w_ei ws (w_ar ws (n_v vs 0) 34)) (w_fi ws (n_v vs 0) 31) (w_fi ws (n_v vs 0) 32) (w_ei ws (w_ar ws (n_v vs 0) 35)) (w_ei ws (w_ar ws (n_v vs 0) 117)) (w_fi ws (n_v vs 0) 125) (w_fi ws (n_v vs 0) 49) (w_ei ws (w_ar ws (n_v vs 0) 42)) (w_ei ws (w_ar ws (n_v vs 0) 43)) (w_ei ws (w_ar ws (n_v vs 0) 44)) (w_ei ws (w_ar ws (n_v vs 0) 52)) (w_ei ws (w_ar ws (n_v vs 0) 46)) (w_fi ws (n_v vs 0) 45) (v_iv (Value.int x)) k1 k2 k3 k5 k6 k8 d0 d1 d2 f0 f1 f2 f3 f4 f5 f6 f7 f8 f9 f10 f11 f12 f13 f14 f15 f16 f17 hK_0_33 hK_0_34 hK_0_35 hK_0_42 hK_0_43 hK_0_44 hK_0_46 hK_0_52 hK_0_117 kz_0_31 kz_0_32 kz_0_45 kz_0_49 kz_0_125 ex2 ex3
  have nf1 : fc_1 PRD (20, [0], [60, 2, 3, 297, 31, 32, 33, 34, 35]) ws (vs ++ [Value.int x]) := by
    refine ⟨nf_inA hl rfl, sgq_1749 ?_⟩
    · show STB (w_fi ws (n_v (vs ++ [Value.int x]) 0) 31) (w_fi ws (n_v (vs ++ [Value.int x]) 0) 32) (w_ei ws (w_ar ws (n_v (vs ++ [Value.int x]) 0) 33)) (w_ei ws (w_ar ws (n_v (vs ++ [Value.int x]) 0) 34)) (w_ei ws (w_ar ws (n_v (vs ++ [Value.int x]) 0) 35))
      rw [e_0]
      exact vc_Mo_stOrder_27_1 (v_iv (n_v vs 1)) (v_iv (n_v vs 2)) (v_iv (n_v vs 3)) (v_iv (n_v vs 5)) (v_iv (n_v vs 6)) (v_iv (n_v vs 8)) (w_ei ws (w_ar ws (n_v vs 0) 33)) (w_ei ws (w_ar ws (n_v vs 0) 34)) (w_fi ws (n_v vs 0) 31) (w_fi ws (n_v vs 0) 32) (w_ei ws (w_ar ws (n_v vs 0) 35)) (w_ei ws (w_ar ws (n_v vs 0) 117)) (w_fi ws (n_v vs 0) 125) (w_fi ws (n_v vs 0) 49) (w_ei ws (w_ar ws (n_v vs 0) 42)) (w_ei ws (w_ar ws (n_v vs 0) 43)) (w_ei ws (w_ar ws (n_v vs 0) 44)) (w_ei ws (w_ar ws (n_v vs 0) 52)) (w_ei ws (w_ar ws (n_v vs 0) 46)) (w_fi ws (n_v vs 0) 45) (v_iv (Value.int x)) k1 k2 k3 k5 k6 k8 d0 d1 d2 f0 f1 f2 f3 f4 f5 f6 f7 f8 f9 f10 f11 f12 f13 f14 f15 f16 f17 hK_0_33 hK_0_34 hK_0_35 hK_0_42 hK_0_43 hK_0_44 hK_0_46 hK_0_52 hK_0_117 kz_0_31 kz_0_32 kz_0_45 kz_0_49 kz_0_125 ex2 ex3
  have nf2 : fc_1 PRD (20, [0], [60, 2, 3, 298, 31, 125, 33, 34, 117]) ws (vs ++ [Value.int x]) := by
    refine ⟨nf_inA hl rfl, sgq_1001 ?_⟩
    · show STR (w_fi ws (n_v (vs ++ [Value.int x]) 0) 31) (w_fi ws (n_v (vs ++ [Value.int x]) 0) 125) (w_ei ws (w_ar ws (n_v (vs ++ [Value.int x]) 0) 33)) (w_ei ws (w_ar ws (n_v (vs ++ [Value.int x]) 0) 34)) (w_ei ws (w_ar ws (n_v (vs ++ [Value.int x]) 0) 117))
      rw [e_0]
      exact vc_Mo_stOrder_27_2 (v_iv (n_v vs 1)) (v_iv (n_v vs 2)) (v_iv (n_v vs 3)) (v_iv (n_v vs 5)) (v_iv (n_v vs 6)) (v_iv (n_v vs 8)) (w_ei ws (w_ar ws (n_v vs 0) 33)) (w_ei ws (w_ar ws (n_v vs 0) 34)) (w_fi ws (n_v vs 0) 31) (w_fi ws (n_v vs 0) 32) (w_ei ws (w_ar ws (n_v vs 0) 35)) (w_ei ws (w_ar ws (n_v vs 0) 117)) (w_fi ws (n_v vs 0) 125) (w_fi ws (n_v vs 0) 49) (w_ei ws (w_ar ws (n_v vs 0) 42)) (w_ei ws (w_ar ws (n_v vs 0) 43)) (w_ei ws (w_ar ws (n_v vs 0) 44)) (w_ei ws (w_ar ws (n_v vs 0) 52)) (w_ei ws (w_ar ws (n_v vs 0) 46)) (w_fi ws (n_v vs 0) 45) (v_iv (Value.int x)) k1 k2 k3 k5 k6 k8 d0 d1 d2 f0 f1 f2 f3 f4 f5 f6 f7 f8 f9 f10 f11 f12 f13 f14 f15 f16 f17 hK_0_33 hK_0_34 hK_0_35 hK_0_42 hK_0_43 hK_0_44 hK_0_46 hK_0_52 hK_0_117 kz_0_31 kz_0_32 kz_0_45 kz_0_49 kz_0_125 ex2 ex3
  have nf3 : fc_1 PRD (20, [0], [50, 1, 0, 49, 1, 3, 2, 0, 49, 0, -1]) ws (vs ++ [Value.int x]) := by
    refine ⟨nf_inA hl rfl, sgq_1675 ?_⟩
    · show w_fi ws (n_v (vs ++ [Value.int x]) 0) 49 = (-1)
      rw [e_0]
      exact vc_Mo_stOrder_27_3 (v_iv (n_v vs 1)) (v_iv (n_v vs 2)) (v_iv (n_v vs 3)) (v_iv (n_v vs 5)) (v_iv (n_v vs 6)) (v_iv (n_v vs 8)) (w_ei ws (w_ar ws (n_v vs 0) 33)) (w_ei ws (w_ar ws (n_v vs 0) 34)) (w_fi ws (n_v vs 0) 31) (w_fi ws (n_v vs 0) 32) (w_ei ws (w_ar ws (n_v vs 0) 35)) (w_ei ws (w_ar ws (n_v vs 0) 117)) (w_fi ws (n_v vs 0) 125) (w_fi ws (n_v vs 0) 49) (w_ei ws (w_ar ws (n_v vs 0) 42)) (w_ei ws (w_ar ws (n_v vs 0) 43)) (w_ei ws (w_ar ws (n_v vs 0) 44)) (w_ei ws (w_ar ws (n_v vs 0) 52)) (w_ei ws (w_ar ws (n_v vs 0) 46)) (w_fi ws (n_v vs 0) 45) (v_iv (Value.int x)) k1 k2 k3 k5 k6 k8 d0 d1 d2 f0 f1 f2 f3 f4 f5 f6 f7 f8 f9 f10 f11 f12 f13 f14 f15 f16 f17 hK_0_33 hK_0_34 hK_0_35 hK_0_42 hK_0_43 hK_0_44 hK_0_46 hK_0_52 hK_0_117 kz_0_31 kz_0_32 kz_0_45 kz_0_49 kz_0_125 ex2 ex3
  have nf4 : fc_1 PRD (20, [0, 9], [30, -26, -1, 1, 125, -1, 0, 0]) ws (vs ++ [Value.int x]) := by
    refine ⟨nf_inA hl rfl, sgq_1750 ?_⟩
    · show (-1) * w_fi ws (n_v (vs ++ [Value.int x]) 0) 125 + ((-1) * v_iv (n_v (vs ++ [Value.int x]) 9) + 0) ≤ (-26)
      simp only [e_0, e_9]
      exact vc_Mo_stOrder_27_4 (v_iv (n_v vs 1)) (v_iv (n_v vs 2)) (v_iv (n_v vs 3)) (v_iv (n_v vs 5)) (v_iv (n_v vs 6)) (v_iv (n_v vs 8)) (w_ei ws (w_ar ws (n_v vs 0) 33)) (w_ei ws (w_ar ws (n_v vs 0) 34)) (w_fi ws (n_v vs 0) 31) (w_fi ws (n_v vs 0) 32) (w_ei ws (w_ar ws (n_v vs 0) 35)) (w_ei ws (w_ar ws (n_v vs 0) 117)) (w_fi ws (n_v vs 0) 125) (w_fi ws (n_v vs 0) 49) (w_ei ws (w_ar ws (n_v vs 0) 42)) (w_ei ws (w_ar ws (n_v vs 0) 43)) (w_ei ws (w_ar ws (n_v vs 0) 44)) (w_ei ws (w_ar ws (n_v vs 0) 52)) (w_ei ws (w_ar ws (n_v vs 0) 46)) (w_fi ws (n_v vs 0) 45) (v_iv (Value.int x)) k1 k2 k3 k5 k6 k8 d0 d1 d2 f0 f1 f2 f3 f4 f5 f6 f7 f8 f9 f10 f11 f12 f13 f14 f15 f16 f17 hK_0_33 hK_0_34 hK_0_35 hK_0_42 hK_0_43 hK_0_44 hK_0_46 hK_0_52 hK_0_117 kz_0_31 kz_0_32 kz_0_45 kz_0_49 kz_0_125 ex2 ex3
  have nf5 : fc_1 PRD (20, [0], [60, 2, 2, 301, 31, 125, 42, 117]) ws (vs ++ [Value.int x]) := by
    refine ⟨nf_inA hl rfl, sgq_1755 ?_⟩
    · show DRR (w_fi ws (n_v (vs ++ [Value.int x]) 0) 31) (w_fi ws (n_v (vs ++ [Value.int x]) 0) 125) (w_ei ws (w_ar ws (n_v (vs ++ [Value.int x]) 0) 42)) (w_ei ws (w_ar ws (n_v (vs ++ [Value.int x]) 0) 117))
      rw [e_0]
      exact vc_Mo_stOrder_27_5 (v_iv (n_v vs 1)) (v_iv (n_v vs 2)) (v_iv (n_v vs 3)) (v_iv (n_v vs 5)) (v_iv (n_v vs 6)) (v_iv (n_v vs 8)) (w_ei ws (w_ar ws (n_v vs 0) 33)) (w_ei ws (w_ar ws (n_v vs 0) 34)) (w_fi ws (n_v vs 0) 31) (w_fi ws (n_v vs 0) 32) (w_ei ws (w_ar ws (n_v vs 0) 35)) (w_ei ws (w_ar ws (n_v vs 0) 117)) (w_fi ws (n_v vs 0) 125) (w_fi ws (n_v vs 0) 49) (w_ei ws (w_ar ws (n_v vs 0) 42)) (w_ei ws (w_ar ws (n_v vs 0) 43)) (w_ei ws (w_ar ws (n_v vs 0) 44)) (w_ei ws (w_ar ws (n_v vs 0) 52)) (w_ei ws (w_ar ws (n_v vs 0) 46)) (w_fi ws (n_v vs 0) 45) (v_iv (Value.int x)) k1 k2 k3 k5 k6 k8 d0 d1 d2 f0 f1 f2 f3 f4 f5 f6 f7 f8 f9 f10 f11 f12 f13 f14 f15 f16 f17 hK_0_33 hK_0_34 hK_0_35 hK_0_42 hK_0_43 hK_0_44 hK_0_46 hK_0_52 hK_0_117 kz_0_31 kz_0_32 kz_0_45 kz_0_49 kz_0_125 ex2 ex3
  have nf6 : fc_1 PRD (20, [0], [60, 1, 4, 303, 32, 33, 34, 42, 43]) ws (vs ++ [Value.int x]) := by
    refine ⟨nf_inA hl rfl, sgq_1757 ?_⟩
    · show DEM (w_fi ws (n_v (vs ++ [Value.int x]) 0) 32) (w_ei ws (w_ar ws (n_v (vs ++ [Value.int x]) 0) 33)) (w_ei ws (w_ar ws (n_v (vs ++ [Value.int x]) 0) 34)) (w_ei ws (w_ar ws (n_v (vs ++ [Value.int x]) 0) 42)) (w_ei ws (w_ar ws (n_v (vs ++ [Value.int x]) 0) 43))
      rw [e_0]
      exact vc_Mo_stOrder_27_6 (v_iv (n_v vs 1)) (v_iv (n_v vs 2)) (v_iv (n_v vs 3)) (v_iv (n_v vs 5)) (v_iv (n_v vs 6)) (v_iv (n_v vs 8)) (w_ei ws (w_ar ws (n_v vs 0) 33)) (w_ei ws (w_ar ws (n_v vs 0) 34)) (w_fi ws (n_v vs 0) 31) (w_fi ws (n_v vs 0) 32) (w_ei ws (w_ar ws (n_v vs 0) 35)) (w_ei ws (w_ar ws (n_v vs 0) 117)) (w_fi ws (n_v vs 0) 125) (w_fi ws (n_v vs 0) 49) (w_ei ws (w_ar ws (n_v vs 0) 42)) (w_ei ws (w_ar ws (n_v vs 0) 43)) (w_ei ws (w_ar ws (n_v vs 0) 44)) (w_ei ws (w_ar ws (n_v vs 0) 52)) (w_ei ws (w_ar ws (n_v vs 0) 46)) (w_fi ws (n_v vs 0) 45) (v_iv (Value.int x)) k1 k2 k3 k5 k6 k8 d0 d1 d2 f0 f1 f2 f3 f4 f5 f6 f7 f8 f9 f10 f11 f12 f13 f14 f15 f16 f17 hK_0_33 hK_0_34 hK_0_35 hK_0_42 hK_0_43 hK_0_44 hK_0_46 hK_0_52 hK_0_117 kz_0_31 kz_0_32 kz_0_45 kz_0_49 kz_0_125 ex2 ex3
  have nf7 : fc_1 PRD (20, [0], [60, 1, 2, 122, 32, 35, 43]) ws (vs ++ [Value.int x]) := by
    refine ⟨nf_inA hl rfl, sgq_1455 ?_⟩
    · show UA (w_fi ws (n_v (vs ++ [Value.int x]) 0) 32) (w_ei ws (w_ar ws (n_v (vs ++ [Value.int x]) 0) 35)) (w_ei ws (w_ar ws (n_v (vs ++ [Value.int x]) 0) 43))
      rw [e_0]
      exact vc_Mo_stOrder_27_7 (v_iv (n_v vs 1)) (v_iv (n_v vs 2)) (v_iv (n_v vs 3)) (v_iv (n_v vs 5)) (v_iv (n_v vs 6)) (v_iv (n_v vs 8)) (w_ei ws (w_ar ws (n_v vs 0) 33)) (w_ei ws (w_ar ws (n_v vs 0) 34)) (w_fi ws (n_v vs 0) 31) (w_fi ws (n_v vs 0) 32) (w_ei ws (w_ar ws (n_v vs 0) 35)) (w_ei ws (w_ar ws (n_v vs 0) 117)) (w_fi ws (n_v vs 0) 125) (w_fi ws (n_v vs 0) 49) (w_ei ws (w_ar ws (n_v vs 0) 42)) (w_ei ws (w_ar ws (n_v vs 0) 43)) (w_ei ws (w_ar ws (n_v vs 0) 44)) (w_ei ws (w_ar ws (n_v vs 0) 52)) (w_ei ws (w_ar ws (n_v vs 0) 46)) (w_fi ws (n_v vs 0) 45) (v_iv (Value.int x)) k1 k2 k3 k5 k6 k8 d0 d1 d2 f0 f1 f2 f3 f4 f5 f6 f7 f8 f9 f10 f11 f12 f13 f14 f15 f16 f17 hK_0_33 hK_0_34 hK_0_35 hK_0_42 hK_0_43 hK_0_44 hK_0_46 hK_0_52 hK_0_117 kz_0_31 kz_0_32 kz_0_45 kz_0_49 kz_0_125 ex2 ex3
  have nf8 : fc_1 PRD (20, [0], [50, 2, 0, 125, 31, 0, 7, 4, 3, 2, 0, 125, 0, 1, 2, 0, 31]) ws (vs ++ [Value.int x]) := by
    refine ⟨nf_inA hl rfl, sgq_1752 ?_⟩
    · show (w_fi ws (n_v (vs ++ [Value.int x]) 0) 125 + 1) ≤ w_fi ws (n_v (vs ++ [Value.int x]) 0) 31
      rw [e_0]
      exact vc_Mo_stOrder_27_8 (v_iv (n_v vs 1)) (v_iv (n_v vs 2)) (v_iv (n_v vs 3)) (v_iv (n_v vs 5)) (v_iv (n_v vs 6)) (v_iv (n_v vs 8)) (w_ei ws (w_ar ws (n_v vs 0) 33)) (w_ei ws (w_ar ws (n_v vs 0) 34)) (w_fi ws (n_v vs 0) 31) (w_fi ws (n_v vs 0) 32) (w_ei ws (w_ar ws (n_v vs 0) 35)) (w_ei ws (w_ar ws (n_v vs 0) 117)) (w_fi ws (n_v vs 0) 125) (w_fi ws (n_v vs 0) 49) (w_ei ws (w_ar ws (n_v vs 0) 42)) (w_ei ws (w_ar ws (n_v vs 0) 43)) (w_ei ws (w_ar ws (n_v vs 0) 44)) (w_ei ws (w_ar ws (n_v vs 0) 52)) (w_ei ws (w_ar ws (n_v vs 0) 46)) (w_fi ws (n_v vs 0) 45) (v_iv (Value.int x)) k1 k2 k3 k5 k6 k8 d0 d1 d2 f0 f1 f2 f3 f4 f5 f6 f7 f8 f9 f10 f11 f12 f13 f14 f15 f16 f17 hK_0_33 hK_0_34 hK_0_35 hK_0_42 hK_0_43 hK_0_44 hK_0_46 hK_0_52 hK_0_117 kz_0_31 kz_0_32 kz_0_45 kz_0_49 kz_0_125 ex2 ex3
  have nf9 : fc_1 PRD (20, [0, 1, 2, 8], [60, 3, 6, 306, 31, 32, 49, 33, 34, 43, 44, 42, 52]) ws (vs ++ [Value.int x]) := by
    refine ⟨nf_inA hl rfl, sgq_1761 ?_⟩
    · show SB1 (w_fi ws (n_v (vs ++ [Value.int x]) 0) 31) (w_fi ws (n_v (vs ++ [Value.int x]) 0) 32) (w_fi ws (n_v (vs ++ [Value.int x]) 0) 49) (w_ei ws (w_ar ws (n_v (vs ++ [Value.int x]) 0) 33)) (w_ei ws (w_ar ws (n_v (vs ++ [Value.int x]) 0) 34)) (w_ei ws (w_ar ws (n_v (vs ++ [Value.int x]) 0) 43)) (w_ei ws (w_ar ws (n_v (vs ++ [Value.int x]) 0) 44)) (w_ei ws (w_ar ws (n_v (vs ++ [Value.int x]) 0) 42)) (w_ei ws (w_ar ws (n_v (vs ++ [Value.int x]) 0) 52)) (v_iv (n_v (vs ++ [Value.int x]) 1)) (v_iv (n_v (vs ++ [Value.int x]) 2)) (v_iv (n_v (vs ++ [Value.int x]) 8))
      simp only [e_0, e_1, e_2, e_8]
      exact vc_Mo_stOrder_27_9 (v_iv (n_v vs 1)) (v_iv (n_v vs 2)) (v_iv (n_v vs 3)) (v_iv (n_v vs 5)) (v_iv (n_v vs 6)) (v_iv (n_v vs 8)) (w_ei ws (w_ar ws (n_v vs 0) 33)) (w_ei ws (w_ar ws (n_v vs 0) 34)) (w_fi ws (n_v vs 0) 31) (w_fi ws (n_v vs 0) 32) (w_ei ws (w_ar ws (n_v vs 0) 35)) (w_ei ws (w_ar ws (n_v vs 0) 117)) (w_fi ws (n_v vs 0) 125) (w_fi ws (n_v vs 0) 49) (w_ei ws (w_ar ws (n_v vs 0) 42)) (w_ei ws (w_ar ws (n_v vs 0) 43)) (w_ei ws (w_ar ws (n_v vs 0) 44)) (w_ei ws (w_ar ws (n_v vs 0) 52)) (w_ei ws (w_ar ws (n_v vs 0) 46)) (w_fi ws (n_v vs 0) 45) (v_iv (Value.int x)) k1 k2 k3 k5 k6 k8 d0 d1 d2 f0 f1 f2 f3 f4 f5 f6 f7 f8 f9 f10 f11 f12 f13 f14 f15 f16 f17 hK_0_33 hK_0_34 hK_0_35 hK_0_42 hK_0_43 hK_0_44 hK_0_46 hK_0_52 hK_0_117 kz_0_31 kz_0_32 kz_0_45 kz_0_49 kz_0_125 ex2 ex3
  have nf10 : fc_1 PRD (20, [2, 0], [30, -1, 1, 0, 0, -1, 1, 31]) ws (vs ++ [Value.int x]) := by
    refine ⟨nf_inA hl rfl, sgq_553 ?_⟩
    · show 1 * v_iv (n_v (vs ++ [Value.int x]) 2) + ((-1) * w_fi ws (n_v (vs ++ [Value.int x]) 0) 31 + 0) ≤ (-1)
      simp only [e_0, e_2]
      exact vc_Mo_stOrder_27_10 (v_iv (n_v vs 1)) (v_iv (n_v vs 2)) (v_iv (n_v vs 3)) (v_iv (n_v vs 5)) (v_iv (n_v vs 6)) (v_iv (n_v vs 8)) (w_ei ws (w_ar ws (n_v vs 0) 33)) (w_ei ws (w_ar ws (n_v vs 0) 34)) (w_fi ws (n_v vs 0) 31) (w_fi ws (n_v vs 0) 32) (w_ei ws (w_ar ws (n_v vs 0) 35)) (w_ei ws (w_ar ws (n_v vs 0) 117)) (w_fi ws (n_v vs 0) 125) (w_fi ws (n_v vs 0) 49) (w_ei ws (w_ar ws (n_v vs 0) 42)) (w_ei ws (w_ar ws (n_v vs 0) 43)) (w_ei ws (w_ar ws (n_v vs 0) 44)) (w_ei ws (w_ar ws (n_v vs 0) 52)) (w_ei ws (w_ar ws (n_v vs 0) 46)) (w_fi ws (n_v vs 0) 45) (v_iv (Value.int x)) k1 k2 k3 k5 k6 k8 d0 d1 d2 f0 f1 f2 f3 f4 f5 f6 f7 f8 f9 f10 f11 f12 f13 f14 f15 f16 f17 hK_0_33 hK_0_34 hK_0_35 hK_0_42 hK_0_43 hK_0_44 hK_0_46 hK_0_52 hK_0_117 kz_0_31 kz_0_32 kz_0_45 kz_0_49 kz_0_125 ex2 ex3
  have nf11 : fc_1 PRD (20, [0, 2], [50, 0, 1, 42, 7, 5, 3, 0, 42, 1, 1, 0, 0]) ws (vs ++ [Value.int x]) := by
    refine ⟨nf_inA hl rfl, sgq_1762 ?_⟩
    · show w_ei ws (w_ar ws (n_v (vs ++ [Value.int x]) 0) 42) (v_iv (n_v (vs ++ [Value.int x]) 2)) ≠ 0
      simp only [e_0, e_2]
      exact vc_Mo_stOrder_27_11 (v_iv (n_v vs 1)) (v_iv (n_v vs 2)) (v_iv (n_v vs 3)) (v_iv (n_v vs 5)) (v_iv (n_v vs 6)) (v_iv (n_v vs 8)) (w_ei ws (w_ar ws (n_v vs 0) 33)) (w_ei ws (w_ar ws (n_v vs 0) 34)) (w_fi ws (n_v vs 0) 31) (w_fi ws (n_v vs 0) 32) (w_ei ws (w_ar ws (n_v vs 0) 35)) (w_ei ws (w_ar ws (n_v vs 0) 117)) (w_fi ws (n_v vs 0) 125) (w_fi ws (n_v vs 0) 49) (w_ei ws (w_ar ws (n_v vs 0) 42)) (w_ei ws (w_ar ws (n_v vs 0) 43)) (w_ei ws (w_ar ws (n_v vs 0) 44)) (w_ei ws (w_ar ws (n_v vs 0) 52)) (w_ei ws (w_ar ws (n_v vs 0) 46)) (w_fi ws (n_v vs 0) 45) (v_iv (Value.int x)) k1 k2 k3 k5 k6 k8 d0 d1 d2 f0 f1 f2 f3 f4 f5 f6 f7 f8 f9 f10 f11 f12 f13 f14 f15 f16 f17 hK_0_33 hK_0_34 hK_0_35 hK_0_42 hK_0_43 hK_0_44 hK_0_46 hK_0_52 hK_0_117 kz_0_31 kz_0_32 kz_0_45 kz_0_49 kz_0_125 ex2 ex3
  obtain ⟨x0, e0, _, _⟩ := tv_int t6 rfl
  have e1 : v_iv (n_v vs 6) = x0.toInt := by rw [e0]; rfl
  have ho : sy_ofs (vs ++ [Value.int x]) (9, 6, 0, 0) := by
    refine ⟨x, x0, by rw [List.getElem?_append_right (by rw [hl]; decide), hl]; rfl, ?_, ?_, ?_⟩
    · rw [List.getElem?_append_left (by rw [hl]; decide)]; exact n_v_some (by rw [hl]; decide) e0
    · show x0.toInt + 0 ≤ x.toInt; omega
    · show x.toInt ≤ x0.toInt + 0; omega
  exact ⟨(fun _ h => (by cases h)), [Value.int x], ag_one hx, List.forall_mem_cons.mpr ⟨⟨show (20 : Nat) < 100 from by decide, nf0⟩, List.forall_mem_cons.mpr ⟨⟨show (20 : Nat) < 100 from by decide, nf1⟩, List.forall_mem_cons.mpr ⟨⟨show (20 : Nat) < 100 from by decide, nf2⟩, List.forall_mem_cons.mpr ⟨⟨show (20 : Nat) < 100 from by decide, nf3⟩, List.forall_mem_cons.mpr ⟨⟨show (20 : Nat) < 100 from by decide, nf4⟩, List.forall_mem_cons.mpr ⟨⟨show (20 : Nat) < 100 from by decide, nf5⟩, List.forall_mem_cons.mpr ⟨⟨show (20 : Nat) < 100 from by decide, nf6⟩, List.forall_mem_cons.mpr ⟨⟨show (20 : Nat) < 100 from by decide, nf7⟩, List.forall_mem_cons.mpr ⟨⟨show (20 : Nat) < 100 from by decide, nf8⟩, List.forall_mem_cons.mpr ⟨⟨show (20 : Nat) < 100 from by decide, nf9⟩, List.forall_mem_cons.mpr ⟨⟨show (20 : Nat) < 100 from by decide, nf10⟩, List.forall_mem_cons.mpr ⟨⟨show (20 : Nat) < 100 from by decide, nf11⟩, (fun _ h => (by cases h))⟩⟩⟩⟩⟩⟩⟩⟩⟩⟩⟩⟩, List.forall_mem_cons.mpr ⟨ho, (fun _ h => (by cases h))⟩⟩
set_option maxHeartbeats 4000000 in
theorem vc_Mo_stOrder_28_0 (x1 : Int) (x2 : Int) (x3 : Int) (x5 : Int) (x6 : Int) (x8 : Int) (x10 : Int) (x12 : Int) (bestWay_0 : Int → Int) (way_0 : Int → Int) (pt_0 : Int → Int) (ph_0 : Int → Int) (pn_0 : Int) (pm_0 : Int) (alive_0 : Int → Int) (row_0 : Int → Int) (rowMany_0 : Int) (onlyPiece_0 : Int) (drawnNode_0 : Int → Int) (drawnEdge_0 : Int → Int) (pieceOf_0 : Int → Int) (wayMany_0 : Int) (gx : Int) (k1 : 2 ≤ x1 ∧ x1 ≤ 29) (k2 : 0 ≤ x2 ∧ x2 ≤ 24) (k3 : 0 ≤ x3 ∧ x3 ≤ 24) (k5 : 2 ≤ x5 ∧ x5 ≤ 29) (k6 : (-2) ≤ x6 ∧ x6 ≤ 26) (k8 : 0 ≤ x8 ∧ x8 ≤ 24) (k10 : 0 ≤ x10 ∧ x10 ≤ 24) (k12 : 1 ≤ x12 ∧ x12 ≤ 25) (d0 : x3 + 1 ≤ x12 ∧ x12 ≤ x3 + 1) (d1 : x10 + 0 ≤ x8 ∧ x8 ≤ x10 + 4294967296) (d2 : x1 + (-4294967296) ≤ x5 ∧ x5 ≤ x1 + (-1)) (d3 : x1 + 0 ≤ x5 ∧ x5 ≤ x1 + 4294967296) (d4 : x1 + (-4294967296) ≤ x5 ∧ x5 ≤ x1 + 0) (f0 : x12 = x3 + 1) (f1 : x10 ≤ x8) (h2 : x10 = bestWay_0 (x5)) (h4 : x8 = way_0 (x5)) (f6 : x5 < x1) (f7 : x1 ≤ x5) (f8 : GOK (pn_0) (pm_0) (pt_0) (ph_0)) (f9 : STB (pn_0) (pm_0) (pt_0) (ph_0) (alive_0)) (f10 : STR (pn_0) (rowMany_0) (pt_0) (ph_0) (row_0)) (f11 : onlyPiece_0 = (-1)) (f12 : (-1) * rowMany_0 + ((-1) * x6 + 0) ≤ (-26)) (f13 : DRR (pn_0) (rowMany_0) (drawnNode_0) (row_0)) (f14 : DEM (pm_0) (pt_0) (ph_0) (drawnNode_0) (drawnEdge_0)) (f15 : UA (pm_0) (alive_0) (drawnEdge_0)) (f16 : (rowMany_0 + 1) ≤ pn_0) (f17 : SB1 (pn_0) (pm_0) (onlyPiece_0) (pt_0) (ph_0) (drawnEdge_0) (pieceOf_0) (drawnNode_0) (bestWay_0) (x1) (x2) (x3)) (f18 : WYM (pn_0) (wayMany_0) (drawnNode_0) (way_0)) (f19 : 1 * x2 + ((-1) * pn_0 + 0) ≤ (-1)) (f20 : 1 * x3 + ((-1) * pn_0 + 0) ≤ (-1)) (f21 : drawnNode_0 (x2) ≠ 0) (f22 : x1 = wayMany_0) (hK_0_33 : ∀ j : Int, 0 ≤ j → j < 80 → 0 ≤ pt_0 j ∧ pt_0 j ≤ 24) (hK_0_34 : ∀ j : Int, 0 ≤ j → j < 80 → 0 ≤ ph_0 j ∧ ph_0 j ≤ 24) (hK_0_35 : ∀ j : Int, 0 ≤ j → j < 80 → 0 ≤ alive_0 j ∧ alive_0 j ≤ 1) (hK_0_42 : ∀ j : Int, 0 ≤ j → j < 26 → 0 ≤ drawnNode_0 j ∧ drawnNode_0 j ≤ 1) (hK_0_43 : ∀ j : Int, 0 ≤ j → j < 80 → 0 ≤ drawnEdge_0 j ∧ drawnEdge_0 j ≤ 1) (hK_0_44 : ∀ j : Int, 0 ≤ j → j < 80 → (-1) ≤ pieceOf_0 j ∧ pieceOf_0 j ≤ 79) (hK_0_46 : ∀ j : Int, 0 ≤ j → j < 30 → 0 ≤ way_0 j ∧ way_0 j ≤ 24) (hK_0_52 : ∀ j : Int, 0 ≤ j → j < 30 → 0 ≤ bestWay_0 j ∧ bestWay_0 j ≤ 24) (hK_0_117 : ∀ j : Int, 0 ≤ j → j < 100 → 0 ≤ row_0 j ∧ row_0 j ≤ 75) (kz_0_31 : 0 ≤ pn_0 ∧ pn_0 ≤ 25) (kz_0_32 : 0 ≤ pm_0 ∧ pm_0 ≤ 80) (kz_0_45 : 0 ≤ wayMany_0 ∧ wayMany_0 ≤ 30) (kz_0_49 : (-1) ≤ onlyPiece_0 ∧ onlyPiece_0 ≤ 79) (kz_0_125 : 0 ≤ rowMany_0 ∧ rowMany_0 ≤ 100) (ex2 : gx = 0 + (1 * x6 + 0)) (ex3 : (-2) ≤ gx ∧ gx ≤ 26) : GOK (pn_0) (pm_0) (pt_0) (ph_0) := by
  first
    | assumption
    | exact ‹STB _ _ _ _ _›.1.1
set_option maxHeartbeats 4000000 in
theorem vc_Mo_stOrder_28_1 (x1 : Int) (x2 : Int) (x3 : Int) (x5 : Int) (x6 : Int) (x8 : Int) (x10 : Int) (x12 : Int) (bestWay_0 : Int → Int) (way_0 : Int → Int) (pt_0 : Int → Int) (ph_0 : Int → Int) (pn_0 : Int) (pm_0 : Int) (alive_0 : Int → Int) (row_0 : Int → Int) (rowMany_0 : Int) (onlyPiece_0 : Int) (drawnNode_0 : Int → Int) (drawnEdge_0 : Int → Int) (pieceOf_0 : Int → Int) (wayMany_0 : Int) (gx : Int) (k1 : 2 ≤ x1 ∧ x1 ≤ 29) (k2 : 0 ≤ x2 ∧ x2 ≤ 24) (k3 : 0 ≤ x3 ∧ x3 ≤ 24) (k5 : 2 ≤ x5 ∧ x5 ≤ 29) (k6 : (-2) ≤ x6 ∧ x6 ≤ 26) (k8 : 0 ≤ x8 ∧ x8 ≤ 24) (k10 : 0 ≤ x10 ∧ x10 ≤ 24) (k12 : 1 ≤ x12 ∧ x12 ≤ 25) (d0 : x3 + 1 ≤ x12 ∧ x12 ≤ x3 + 1) (d1 : x10 + 0 ≤ x8 ∧ x8 ≤ x10 + 4294967296) (d2 : x1 + (-4294967296) ≤ x5 ∧ x5 ≤ x1 + (-1)) (d3 : x1 + 0 ≤ x5 ∧ x5 ≤ x1 + 4294967296) (d4 : x1 + (-4294967296) ≤ x5 ∧ x5 ≤ x1 + 0) (f0 : x12 = x3 + 1) (f1 : x10 ≤ x8) (h2 : x10 = bestWay_0 (x5)) (h4 : x8 = way_0 (x5)) (f6 : x5 < x1) (f7 : x1 ≤ x5) (f8 : GOK (pn_0) (pm_0) (pt_0) (ph_0)) (f9 : STB (pn_0) (pm_0) (pt_0) (ph_0) (alive_0)) (f10 : STR (pn_0) (rowMany_0) (pt_0) (ph_0) (row_0)) (f11 : onlyPiece_0 = (-1)) (f12 : (-1) * rowMany_0 + ((-1) * x6 + 0) ≤ (-26)) (f13 : DRR (pn_0) (rowMany_0) (drawnNode_0) (row_0)) (f14 : DEM (pm_0) (pt_0) (ph_0) (drawnNode_0) (drawnEdge_0)) (f15 : UA (pm_0) (alive_0) (drawnEdge_0)) (f16 : (rowMany_0 + 1) ≤ pn_0) (f17 : SB1 (pn_0) (pm_0) (onlyPiece_0) (pt_0) (ph_0) (drawnEdge_0) (pieceOf_0) (drawnNode_0) (bestWay_0) (x1) (x2) (x3)) (f18 : WYM (pn_0) (wayMany_0) (drawnNode_0) (way_0)) (f19 : 1 * x2 + ((-1) * pn_0 + 0) ≤ (-1)) (f20 : 1 * x3 + ((-1) * pn_0 + 0) ≤ (-1)) (f21 : drawnNode_0 (x2) ≠ 0) (f22 : x1 = wayMany_0) (hK_0_33 : ∀ j : Int, 0 ≤ j → j < 80 → 0 ≤ pt_0 j ∧ pt_0 j ≤ 24) (hK_0_34 : ∀ j : Int, 0 ≤ j → j < 80 → 0 ≤ ph_0 j ∧ ph_0 j ≤ 24) (hK_0_35 : ∀ j : Int, 0 ≤ j → j < 80 → 0 ≤ alive_0 j ∧ alive_0 j ≤ 1) (hK_0_42 : ∀ j : Int, 0 ≤ j → j < 26 → 0 ≤ drawnNode_0 j ∧ drawnNode_0 j ≤ 1) (hK_0_43 : ∀ j : Int, 0 ≤ j → j < 80 → 0 ≤ drawnEdge_0 j ∧ drawnEdge_0 j ≤ 1) (hK_0_44 : ∀ j : Int, 0 ≤ j → j < 80 → (-1) ≤ pieceOf_0 j ∧ pieceOf_0 j ≤ 79) (hK_0_46 : ∀ j : Int, 0 ≤ j → j < 30 → 0 ≤ way_0 j ∧ way_0 j ≤ 24) (hK_0_52 : ∀ j : Int, 0 ≤ j → j < 30 → 0 ≤ bestWay_0 j ∧ bestWay_0 j ≤ 24) (hK_0_117 : ∀ j : Int, 0 ≤ j → j < 100 → 0 ≤ row_0 j ∧ row_0 j ≤ 75) (kz_0_31 : 0 ≤ pn_0 ∧ pn_0 ≤ 25) (kz_0_32 : 0 ≤ pm_0 ∧ pm_0 ≤ 80) (kz_0_45 : 0 ≤ wayMany_0 ∧ wayMany_0 ≤ 30) (kz_0_49 : (-1) ≤ onlyPiece_0 ∧ onlyPiece_0 ≤ 79) (kz_0_125 : 0 ≤ rowMany_0 ∧ rowMany_0 ≤ 100) (ex2 : gx = 0 + (1 * x6 + 0)) (ex3 : (-2) ≤ gx ∧ gx ≤ 26) : STB (pn_0) (pm_0) (pt_0) (ph_0) (alive_0) := by
  first | assumption
set_option maxHeartbeats 4000000 in
theorem vc_Mo_stOrder_28_2 (x1 : Int) (x2 : Int) (x3 : Int) (x5 : Int) (x6 : Int) (x8 : Int) (x10 : Int) (x12 : Int) (bestWay_0 : Int → Int) (way_0 : Int → Int) (pt_0 : Int → Int) (ph_0 : Int → Int) (pn_0 : Int) (pm_0 : Int) (alive_0 : Int → Int) (row_0 : Int → Int) (rowMany_0 : Int) (onlyPiece_0 : Int) (drawnNode_0 : Int → Int) (drawnEdge_0 : Int → Int) (pieceOf_0 : Int → Int) (wayMany_0 : Int) (gx : Int) (k1 : 2 ≤ x1 ∧ x1 ≤ 29) (k2 : 0 ≤ x2 ∧ x2 ≤ 24) (k3 : 0 ≤ x3 ∧ x3 ≤ 24) (k5 : 2 ≤ x5 ∧ x5 ≤ 29) (k6 : (-2) ≤ x6 ∧ x6 ≤ 26) (k8 : 0 ≤ x8 ∧ x8 ≤ 24) (k10 : 0 ≤ x10 ∧ x10 ≤ 24) (k12 : 1 ≤ x12 ∧ x12 ≤ 25) (d0 : x3 + 1 ≤ x12 ∧ x12 ≤ x3 + 1) (d1 : x10 + 0 ≤ x8 ∧ x8 ≤ x10 + 4294967296) (d2 : x1 + (-4294967296) ≤ x5 ∧ x5 ≤ x1 + (-1)) (d3 : x1 + 0 ≤ x5 ∧ x5 ≤ x1 + 4294967296) (d4 : x1 + (-4294967296) ≤ x5 ∧ x5 ≤ x1 + 0) (f0 : x12 = x3 + 1) (f1 : x10 ≤ x8) (h2 : x10 = bestWay_0 (x5)) (h4 : x8 = way_0 (x5)) (f6 : x5 < x1) (f7 : x1 ≤ x5) (f8 : GOK (pn_0) (pm_0) (pt_0) (ph_0)) (f9 : STB (pn_0) (pm_0) (pt_0) (ph_0) (alive_0)) (f10 : STR (pn_0) (rowMany_0) (pt_0) (ph_0) (row_0)) (f11 : onlyPiece_0 = (-1)) (f12 : (-1) * rowMany_0 + ((-1) * x6 + 0) ≤ (-26)) (f13 : DRR (pn_0) (rowMany_0) (drawnNode_0) (row_0)) (f14 : DEM (pm_0) (pt_0) (ph_0) (drawnNode_0) (drawnEdge_0)) (f15 : UA (pm_0) (alive_0) (drawnEdge_0)) (f16 : (rowMany_0 + 1) ≤ pn_0) (f17 : SB1 (pn_0) (pm_0) (onlyPiece_0) (pt_0) (ph_0) (drawnEdge_0) (pieceOf_0) (drawnNode_0) (bestWay_0) (x1) (x2) (x3)) (f18 : WYM (pn_0) (wayMany_0) (drawnNode_0) (way_0)) (f19 : 1 * x2 + ((-1) * pn_0 + 0) ≤ (-1)) (f20 : 1 * x3 + ((-1) * pn_0 + 0) ≤ (-1)) (f21 : drawnNode_0 (x2) ≠ 0) (f22 : x1 = wayMany_0) (hK_0_33 : ∀ j : Int, 0 ≤ j → j < 80 → 0 ≤ pt_0 j ∧ pt_0 j ≤ 24) (hK_0_34 : ∀ j : Int, 0 ≤ j → j < 80 → 0 ≤ ph_0 j ∧ ph_0 j ≤ 24) (hK_0_35 : ∀ j : Int, 0 ≤ j → j < 80 → 0 ≤ alive_0 j ∧ alive_0 j ≤ 1) (hK_0_42 : ∀ j : Int, 0 ≤ j → j < 26 → 0 ≤ drawnNode_0 j ∧ drawnNode_0 j ≤ 1) (hK_0_43 : ∀ j : Int, 0 ≤ j → j < 80 → 0 ≤ drawnEdge_0 j ∧ drawnEdge_0 j ≤ 1) (hK_0_44 : ∀ j : Int, 0 ≤ j → j < 80 → (-1) ≤ pieceOf_0 j ∧ pieceOf_0 j ≤ 79) (hK_0_46 : ∀ j : Int, 0 ≤ j → j < 30 → 0 ≤ way_0 j ∧ way_0 j ≤ 24) (hK_0_52 : ∀ j : Int, 0 ≤ j → j < 30 → 0 ≤ bestWay_0 j ∧ bestWay_0 j ≤ 24) (hK_0_117 : ∀ j : Int, 0 ≤ j → j < 100 → 0 ≤ row_0 j ∧ row_0 j ≤ 75) (kz_0_31 : 0 ≤ pn_0 ∧ pn_0 ≤ 25) (kz_0_32 : 0 ≤ pm_0 ∧ pm_0 ≤ 80) (kz_0_45 : 0 ≤ wayMany_0 ∧ wayMany_0 ≤ 30) (kz_0_49 : (-1) ≤ onlyPiece_0 ∧ onlyPiece_0 ≤ 79) (kz_0_125 : 0 ≤ rowMany_0 ∧ rowMany_0 ≤ 100) (ex2 : gx = 0 + (1 * x6 + 0)) (ex3 : (-2) ≤ gx ∧ gx ≤ 26) : STR (pn_0) (rowMany_0) (pt_0) (ph_0) (row_0) := by
  first | assumption
set_option maxHeartbeats 4000000 in
theorem vc_Mo_stOrder_28_3 (x1 : Int) (x2 : Int) (x3 : Int) (x5 : Int) (x6 : Int) (x8 : Int) (x10 : Int) (x12 : Int) (bestWay_0 : Int → Int) (way_0 : Int → Int) (pt_0 : Int → Int) (ph_0 : Int → Int) (pn_0 : Int) (pm_0 : Int) (alive_0 : Int → Int) (row_0 : Int → Int) (rowMany_0 : Int) (onlyPiece_0 : Int) (drawnNode_0 : Int → Int) (drawnEdge_0 : Int → Int) (pieceOf_0 : Int → Int) (wayMany_0 : Int) (gx : Int) (k1 : 2 ≤ x1 ∧ x1 ≤ 29) (k2 : 0 ≤ x2 ∧ x2 ≤ 24) (k3 : 0 ≤ x3 ∧ x3 ≤ 24) (k5 : 2 ≤ x5 ∧ x5 ≤ 29) (k6 : (-2) ≤ x6 ∧ x6 ≤ 26) (k8 : 0 ≤ x8 ∧ x8 ≤ 24) (k10 : 0 ≤ x10 ∧ x10 ≤ 24) (k12 : 1 ≤ x12 ∧ x12 ≤ 25) (d0 : x3 + 1 ≤ x12 ∧ x12 ≤ x3 + 1) (d1 : x10 + 0 ≤ x8 ∧ x8 ≤ x10 + 4294967296) (d2 : x1 + (-4294967296) ≤ x5 ∧ x5 ≤ x1 + (-1)) (d3 : x1 + 0 ≤ x5 ∧ x5 ≤ x1 + 4294967296) (d4 : x1 + (-4294967296) ≤ x5 ∧ x5 ≤ x1 + 0) (f0 : x12 = x3 + 1) (f1 : x10 ≤ x8) (h2 : x10 = bestWay_0 (x5)) (h4 : x8 = way_0 (x5)) (f6 : x5 < x1) (f7 : x1 ≤ x5) (f8 : GOK (pn_0) (pm_0) (pt_0) (ph_0)) (f9 : STB (pn_0) (pm_0) (pt_0) (ph_0) (alive_0)) (f10 : STR (pn_0) (rowMany_0) (pt_0) (ph_0) (row_0)) (f11 : onlyPiece_0 = (-1)) (f12 : (-1) * rowMany_0 + ((-1) * x6 + 0) ≤ (-26)) (f13 : DRR (pn_0) (rowMany_0) (drawnNode_0) (row_0)) (f14 : DEM (pm_0) (pt_0) (ph_0) (drawnNode_0) (drawnEdge_0)) (f15 : UA (pm_0) (alive_0) (drawnEdge_0)) (f16 : (rowMany_0 + 1) ≤ pn_0) (f17 : SB1 (pn_0) (pm_0) (onlyPiece_0) (pt_0) (ph_0) (drawnEdge_0) (pieceOf_0) (drawnNode_0) (bestWay_0) (x1) (x2) (x3)) (f18 : WYM (pn_0) (wayMany_0) (drawnNode_0) (way_0)) (f19 : 1 * x2 + ((-1) * pn_0 + 0) ≤ (-1)) (f20 : 1 * x3 + ((-1) * pn_0 + 0) ≤ (-1)) (f21 : drawnNode_0 (x2) ≠ 0) (f22 : x1 = wayMany_0) (hK_0_33 : ∀ j : Int, 0 ≤ j → j < 80 → 0 ≤ pt_0 j ∧ pt_0 j ≤ 24) (hK_0_34 : ∀ j : Int, 0 ≤ j → j < 80 → 0 ≤ ph_0 j ∧ ph_0 j ≤ 24) (hK_0_35 : ∀ j : Int, 0 ≤ j → j < 80 → 0 ≤ alive_0 j ∧ alive_0 j ≤ 1) (hK_0_42 : ∀ j : Int, 0 ≤ j → j < 26 → 0 ≤ drawnNode_0 j ∧ drawnNode_0 j ≤ 1) (hK_0_43 : ∀ j : Int, 0 ≤ j → j < 80 → 0 ≤ drawnEdge_0 j ∧ drawnEdge_0 j ≤ 1) (hK_0_44 : ∀ j : Int, 0 ≤ j → j < 80 → (-1) ≤ pieceOf_0 j ∧ pieceOf_0 j ≤ 79) (hK_0_46 : ∀ j : Int, 0 ≤ j → j < 30 → 0 ≤ way_0 j ∧ way_0 j ≤ 24) (hK_0_52 : ∀ j : Int, 0 ≤ j → j < 30 → 0 ≤ bestWay_0 j ∧ bestWay_0 j ≤ 24) (hK_0_117 : ∀ j : Int, 0 ≤ j → j < 100 → 0 ≤ row_0 j ∧ row_0 j ≤ 75) (kz_0_31 : 0 ≤ pn_0 ∧ pn_0 ≤ 25) (kz_0_32 : 0 ≤ pm_0 ∧ pm_0 ≤ 80) (kz_0_45 : 0 ≤ wayMany_0 ∧ wayMany_0 ≤ 30) (kz_0_49 : (-1) ≤ onlyPiece_0 ∧ onlyPiece_0 ≤ 79) (kz_0_125 : 0 ≤ rowMany_0 ∧ rowMany_0 ≤ 100) (ex2 : gx = 0 + (1 * x6 + 0)) (ex3 : (-2) ≤ gx ∧ gx ≤ 26) : onlyPiece_0 = (-1) := by
  first
    | omega
    | (have h := ‹STB _ _ _ _ _›.1.2.2; omega)
    | (have h := ‹STR _ _ _ _ _›.1; omega)
    | (have h := ‹STR _ _ _ _ _›.1
       have w := ‹STR _ _ _ _ _›.2.1 x1 (by omega) (by omega)
       omega)
    | (have h := bc_len ‹BC1 _ _ _ _ _ _ _›
       have h2 := ‹STR _ _ _ _ _›.1
       omega)
    | (have h := (sb_way ‹SB1 _ _ _ _ _ _ _ _ _ _ _ _› (by omega)).1
       have h2 := ‹STR _ _ _ _ _›.1
       omega)
    | (have h := ‹WYM _ _ _ _›.1
       have h2 := ‹STR _ _ _ _ _›.1
       omega)
set_option maxHeartbeats 4000000 in
theorem vc_Mo_stOrder_28_4 (x1 : Int) (x2 : Int) (x3 : Int) (x5 : Int) (x6 : Int) (x8 : Int) (x10 : Int) (x12 : Int) (bestWay_0 : Int → Int) (way_0 : Int → Int) (pt_0 : Int → Int) (ph_0 : Int → Int) (pn_0 : Int) (pm_0 : Int) (alive_0 : Int → Int) (row_0 : Int → Int) (rowMany_0 : Int) (onlyPiece_0 : Int) (drawnNode_0 : Int → Int) (drawnEdge_0 : Int → Int) (pieceOf_0 : Int → Int) (wayMany_0 : Int) (gx : Int) (k1 : 2 ≤ x1 ∧ x1 ≤ 29) (k2 : 0 ≤ x2 ∧ x2 ≤ 24) (k3 : 0 ≤ x3 ∧ x3 ≤ 24) (k5 : 2 ≤ x5 ∧ x5 ≤ 29) (k6 : (-2) ≤ x6 ∧ x6 ≤ 26) (k8 : 0 ≤ x8 ∧ x8 ≤ 24) (k10 : 0 ≤ x10 ∧ x10 ≤ 24) (k12 : 1 ≤ x12 ∧ x12 ≤ 25) (d0 : x3 + 1 ≤ x12 ∧ x12 ≤ x3 + 1) (d1 : x10 + 0 ≤ x8 ∧ x8 ≤ x10 + 4294967296) (d2 : x1 + (-4294967296) ≤ x5 ∧ x5 ≤ x1 + (-1)) (d3 : x1 + 0 ≤ x5 ∧ x5 ≤ x1 + 4294967296) (d4 : x1 + (-4294967296) ≤ x5 ∧ x5 ≤ x1 + 0) (f0 : x12 = x3 + 1) (f1 : x10 ≤ x8) (h2 : x10 = bestWay_0 (x5)) (h4 : x8 = way_0 (x5)) (f6 : x5 < x1) (f7 : x1 ≤ x5) (f8 : GOK (pn_0) (pm_0) (pt_0) (ph_0)) (f9 : STB (pn_0) (pm_0) (pt_0) (ph_0) (alive_0)) (f10 : STR (pn_0) (rowMany_0) (pt_0) (ph_0) (row_0)) (f11 : onlyPiece_0 = (-1)) (f12 : (-1) * rowMany_0 + ((-1) * x6 + 0) ≤ (-26)) (f13 : DRR (pn_0) (rowMany_0) (drawnNode_0) (row_0)) (f14 : DEM (pm_0) (pt_0) (ph_0) (drawnNode_0) (drawnEdge_0)) (f15 : UA (pm_0) (alive_0) (drawnEdge_0)) (f16 : (rowMany_0 + 1) ≤ pn_0) (f17 : SB1 (pn_0) (pm_0) (onlyPiece_0) (pt_0) (ph_0) (drawnEdge_0) (pieceOf_0) (drawnNode_0) (bestWay_0) (x1) (x2) (x3)) (f18 : WYM (pn_0) (wayMany_0) (drawnNode_0) (way_0)) (f19 : 1 * x2 + ((-1) * pn_0 + 0) ≤ (-1)) (f20 : 1 * x3 + ((-1) * pn_0 + 0) ≤ (-1)) (f21 : drawnNode_0 (x2) ≠ 0) (f22 : x1 = wayMany_0) (hK_0_33 : ∀ j : Int, 0 ≤ j → j < 80 → 0 ≤ pt_0 j ∧ pt_0 j ≤ 24) (hK_0_34 : ∀ j : Int, 0 ≤ j → j < 80 → 0 ≤ ph_0 j ∧ ph_0 j ≤ 24) (hK_0_35 : ∀ j : Int, 0 ≤ j → j < 80 → 0 ≤ alive_0 j ∧ alive_0 j ≤ 1) (hK_0_42 : ∀ j : Int, 0 ≤ j → j < 26 → 0 ≤ drawnNode_0 j ∧ drawnNode_0 j ≤ 1) (hK_0_43 : ∀ j : Int, 0 ≤ j → j < 80 → 0 ≤ drawnEdge_0 j ∧ drawnEdge_0 j ≤ 1) (hK_0_44 : ∀ j : Int, 0 ≤ j → j < 80 → (-1) ≤ pieceOf_0 j ∧ pieceOf_0 j ≤ 79) (hK_0_46 : ∀ j : Int, 0 ≤ j → j < 30 → 0 ≤ way_0 j ∧ way_0 j ≤ 24) (hK_0_52 : ∀ j : Int, 0 ≤ j → j < 30 → 0 ≤ bestWay_0 j ∧ bestWay_0 j ≤ 24) (hK_0_117 : ∀ j : Int, 0 ≤ j → j < 100 → 0 ≤ row_0 j ∧ row_0 j ≤ 75) (kz_0_31 : 0 ≤ pn_0 ∧ pn_0 ≤ 25) (kz_0_32 : 0 ≤ pm_0 ∧ pm_0 ≤ 80) (kz_0_45 : 0 ≤ wayMany_0 ∧ wayMany_0 ≤ 30) (kz_0_49 : (-1) ≤ onlyPiece_0 ∧ onlyPiece_0 ≤ 79) (kz_0_125 : 0 ≤ rowMany_0 ∧ rowMany_0 ≤ 100) (ex2 : gx = 0 + (1 * x6 + 0)) (ex3 : (-2) ≤ gx ∧ gx ≤ 26) : (-1) * rowMany_0 + ((-1) * gx + 0) ≤ (-26) := by
  first
    | omega
    | (have h := ‹STB _ _ _ _ _›.1.2.2; omega)
    | (have h := ‹STR _ _ _ _ _›.1; omega)
    | (have h := ‹STR _ _ _ _ _›.1
       have w := ‹STR _ _ _ _ _›.2.1 x1 (by omega) (by omega)
       omega)
    | (have h := bc_len ‹BC1 _ _ _ _ _ _ _›
       have h2 := ‹STR _ _ _ _ _›.1
       omega)
    | (have h := (sb_way ‹SB1 _ _ _ _ _ _ _ _ _ _ _ _› (by omega)).1
       have h2 := ‹STR _ _ _ _ _›.1
       omega)
    | (have h := ‹WYM _ _ _ _›.1
       have h2 := ‹STR _ _ _ _ _›.1
       omega)
set_option maxHeartbeats 4000000 in
theorem vc_Mo_stOrder_28_5 (x1 : Int) (x2 : Int) (x3 : Int) (x5 : Int) (x6 : Int) (x8 : Int) (x10 : Int) (x12 : Int) (bestWay_0 : Int → Int) (way_0 : Int → Int) (pt_0 : Int → Int) (ph_0 : Int → Int) (pn_0 : Int) (pm_0 : Int) (alive_0 : Int → Int) (row_0 : Int → Int) (rowMany_0 : Int) (onlyPiece_0 : Int) (drawnNode_0 : Int → Int) (drawnEdge_0 : Int → Int) (pieceOf_0 : Int → Int) (wayMany_0 : Int) (gx : Int) (k1 : 2 ≤ x1 ∧ x1 ≤ 29) (k2 : 0 ≤ x2 ∧ x2 ≤ 24) (k3 : 0 ≤ x3 ∧ x3 ≤ 24) (k5 : 2 ≤ x5 ∧ x5 ≤ 29) (k6 : (-2) ≤ x6 ∧ x6 ≤ 26) (k8 : 0 ≤ x8 ∧ x8 ≤ 24) (k10 : 0 ≤ x10 ∧ x10 ≤ 24) (k12 : 1 ≤ x12 ∧ x12 ≤ 25) (d0 : x3 + 1 ≤ x12 ∧ x12 ≤ x3 + 1) (d1 : x10 + 0 ≤ x8 ∧ x8 ≤ x10 + 4294967296) (d2 : x1 + (-4294967296) ≤ x5 ∧ x5 ≤ x1 + (-1)) (d3 : x1 + 0 ≤ x5 ∧ x5 ≤ x1 + 4294967296) (d4 : x1 + (-4294967296) ≤ x5 ∧ x5 ≤ x1 + 0) (f0 : x12 = x3 + 1) (f1 : x10 ≤ x8) (h2 : x10 = bestWay_0 (x5)) (h4 : x8 = way_0 (x5)) (f6 : x5 < x1) (f7 : x1 ≤ x5) (f8 : GOK (pn_0) (pm_0) (pt_0) (ph_0)) (f9 : STB (pn_0) (pm_0) (pt_0) (ph_0) (alive_0)) (f10 : STR (pn_0) (rowMany_0) (pt_0) (ph_0) (row_0)) (f11 : onlyPiece_0 = (-1)) (f12 : (-1) * rowMany_0 + ((-1) * x6 + 0) ≤ (-26)) (f13 : DRR (pn_0) (rowMany_0) (drawnNode_0) (row_0)) (f14 : DEM (pm_0) (pt_0) (ph_0) (drawnNode_0) (drawnEdge_0)) (f15 : UA (pm_0) (alive_0) (drawnEdge_0)) (f16 : (rowMany_0 + 1) ≤ pn_0) (f17 : SB1 (pn_0) (pm_0) (onlyPiece_0) (pt_0) (ph_0) (drawnEdge_0) (pieceOf_0) (drawnNode_0) (bestWay_0) (x1) (x2) (x3)) (f18 : WYM (pn_0) (wayMany_0) (drawnNode_0) (way_0)) (f19 : 1 * x2 + ((-1) * pn_0 + 0) ≤ (-1)) (f20 : 1 * x3 + ((-1) * pn_0 + 0) ≤ (-1)) (f21 : drawnNode_0 (x2) ≠ 0) (f22 : x1 = wayMany_0) (hK_0_33 : ∀ j : Int, 0 ≤ j → j < 80 → 0 ≤ pt_0 j ∧ pt_0 j ≤ 24) (hK_0_34 : ∀ j : Int, 0 ≤ j → j < 80 → 0 ≤ ph_0 j ∧ ph_0 j ≤ 24) (hK_0_35 : ∀ j : Int, 0 ≤ j → j < 80 → 0 ≤ alive_0 j ∧ alive_0 j ≤ 1) (hK_0_42 : ∀ j : Int, 0 ≤ j → j < 26 → 0 ≤ drawnNode_0 j ∧ drawnNode_0 j ≤ 1) (hK_0_43 : ∀ j : Int, 0 ≤ j → j < 80 → 0 ≤ drawnEdge_0 j ∧ drawnEdge_0 j ≤ 1) (hK_0_44 : ∀ j : Int, 0 ≤ j → j < 80 → (-1) ≤ pieceOf_0 j ∧ pieceOf_0 j ≤ 79) (hK_0_46 : ∀ j : Int, 0 ≤ j → j < 30 → 0 ≤ way_0 j ∧ way_0 j ≤ 24) (hK_0_52 : ∀ j : Int, 0 ≤ j → j < 30 → 0 ≤ bestWay_0 j ∧ bestWay_0 j ≤ 24) (hK_0_117 : ∀ j : Int, 0 ≤ j → j < 100 → 0 ≤ row_0 j ∧ row_0 j ≤ 75) (kz_0_31 : 0 ≤ pn_0 ∧ pn_0 ≤ 25) (kz_0_32 : 0 ≤ pm_0 ∧ pm_0 ≤ 80) (kz_0_45 : 0 ≤ wayMany_0 ∧ wayMany_0 ≤ 30) (kz_0_49 : (-1) ≤ onlyPiece_0 ∧ onlyPiece_0 ≤ 79) (kz_0_125 : 0 ≤ rowMany_0 ∧ rowMany_0 ≤ 100) (ex2 : gx = 0 + (1 * x6 + 0)) (ex3 : (-2) ≤ gx ∧ gx ≤ 26) : DRR (pn_0) (rowMany_0) (drawnNode_0) (row_0) := by
  first | assumption
set_option maxHeartbeats 4000000 in
theorem vc_Mo_stOrder_28_6 (x1 : Int) (x2 : Int) (x3 : Int) (x5 : Int) (x6 : Int) (x8 : Int) (x10 : Int) (x12 : Int) (bestWay_0 : Int → Int) (way_0 : Int → Int) (pt_0 : Int → Int) (ph_0 : Int → Int) (pn_0 : Int) (pm_0 : Int) (alive_0 : Int → Int) (row_0 : Int → Int) (rowMany_0 : Int) (onlyPiece_0 : Int) (drawnNode_0 : Int → Int) (drawnEdge_0 : Int → Int) (pieceOf_0 : Int → Int) (wayMany_0 : Int) (gx : Int) (k1 : 2 ≤ x1 ∧ x1 ≤ 29) (k2 : 0 ≤ x2 ∧ x2 ≤ 24) (k3 : 0 ≤ x3 ∧ x3 ≤ 24) (k5 : 2 ≤ x5 ∧ x5 ≤ 29) (k6 : (-2) ≤ x6 ∧ x6 ≤ 26) (k8 : 0 ≤ x8 ∧ x8 ≤ 24) (k10 : 0 ≤ x10 ∧ x10 ≤ 24) (k12 : 1 ≤ x12 ∧ x12 ≤ 25) (d0 : x3 + 1 ≤ x12 ∧ x12 ≤ x3 + 1) (d1 : x10 + 0 ≤ x8 ∧ x8 ≤ x10 + 4294967296) (d2 : x1 + (-4294967296) ≤ x5 ∧ x5 ≤ x1 + (-1)) (d3 : x1 + 0 ≤ x5 ∧ x5 ≤ x1 + 4294967296) (d4 : x1 + (-4294967296) ≤ x5 ∧ x5 ≤ x1 + 0) (f0 : x12 = x3 + 1) (f1 : x10 ≤ x8) (h2 : x10 = bestWay_0 (x5)) (h4 : x8 = way_0 (x5)) (f6 : x5 < x1) (f7 : x1 ≤ x5) (f8 : GOK (pn_0) (pm_0) (pt_0) (ph_0)) (f9 : STB (pn_0) (pm_0) (pt_0) (ph_0) (alive_0)) (f10 : STR (pn_0) (rowMany_0) (pt_0) (ph_0) (row_0)) (f11 : onlyPiece_0 = (-1)) (f12 : (-1) * rowMany_0 + ((-1) * x6 + 0) ≤ (-26)) (f13 : DRR (pn_0) (rowMany_0) (drawnNode_0) (row_0)) (f14 : DEM (pm_0) (pt_0) (ph_0) (drawnNode_0) (drawnEdge_0)) (f15 : UA (pm_0) (alive_0) (drawnEdge_0)) (f16 : (rowMany_0 + 1) ≤ pn_0) (f17 : SB1 (pn_0) (pm_0) (onlyPiece_0) (pt_0) (ph_0) (drawnEdge_0) (pieceOf_0) (drawnNode_0) (bestWay_0) (x1) (x2) (x3)) (f18 : WYM (pn_0) (wayMany_0) (drawnNode_0) (way_0)) (f19 : 1 * x2 + ((-1) * pn_0 + 0) ≤ (-1)) (f20 : 1 * x3 + ((-1) * pn_0 + 0) ≤ (-1)) (f21 : drawnNode_0 (x2) ≠ 0) (f22 : x1 = wayMany_0) (hK_0_33 : ∀ j : Int, 0 ≤ j → j < 80 → 0 ≤ pt_0 j ∧ pt_0 j ≤ 24) (hK_0_34 : ∀ j : Int, 0 ≤ j → j < 80 → 0 ≤ ph_0 j ∧ ph_0 j ≤ 24) (hK_0_35 : ∀ j : Int, 0 ≤ j → j < 80 → 0 ≤ alive_0 j ∧ alive_0 j ≤ 1) (hK_0_42 : ∀ j : Int, 0 ≤ j → j < 26 → 0 ≤ drawnNode_0 j ∧ drawnNode_0 j ≤ 1) (hK_0_43 : ∀ j : Int, 0 ≤ j → j < 80 → 0 ≤ drawnEdge_0 j ∧ drawnEdge_0 j ≤ 1) (hK_0_44 : ∀ j : Int, 0 ≤ j → j < 80 → (-1) ≤ pieceOf_0 j ∧ pieceOf_0 j ≤ 79) (hK_0_46 : ∀ j : Int, 0 ≤ j → j < 30 → 0 ≤ way_0 j ∧ way_0 j ≤ 24) (hK_0_52 : ∀ j : Int, 0 ≤ j → j < 30 → 0 ≤ bestWay_0 j ∧ bestWay_0 j ≤ 24) (hK_0_117 : ∀ j : Int, 0 ≤ j → j < 100 → 0 ≤ row_0 j ∧ row_0 j ≤ 75) (kz_0_31 : 0 ≤ pn_0 ∧ pn_0 ≤ 25) (kz_0_32 : 0 ≤ pm_0 ∧ pm_0 ≤ 80) (kz_0_45 : 0 ≤ wayMany_0 ∧ wayMany_0 ≤ 30) (kz_0_49 : (-1) ≤ onlyPiece_0 ∧ onlyPiece_0 ≤ 79) (kz_0_125 : 0 ≤ rowMany_0 ∧ rowMany_0 ≤ 100) (ex2 : gx = 0 + (1 * x6 + 0)) (ex3 : (-2) ≤ gx ∧ gx ≤ 26) : DEM (pm_0) (pt_0) (ph_0) (drawnNode_0) (drawnEdge_0) := by
  first | assumption
set_option maxHeartbeats 4000000 in
theorem vc_Mo_stOrder_28_7 (x1 : Int) (x2 : Int) (x3 : Int) (x5 : Int) (x6 : Int) (x8 : Int) (x10 : Int) (x12 : Int) (bestWay_0 : Int → Int) (way_0 : Int → Int) (pt_0 : Int → Int) (ph_0 : Int → Int) (pn_0 : Int) (pm_0 : Int) (alive_0 : Int → Int) (row_0 : Int → Int) (rowMany_0 : Int) (onlyPiece_0 : Int) (drawnNode_0 : Int → Int) (drawnEdge_0 : Int → Int) (pieceOf_0 : Int → Int) (wayMany_0 : Int) (gx : Int) (k1 : 2 ≤ x1 ∧ x1 ≤ 29) (k2 : 0 ≤ x2 ∧ x2 ≤ 24) (k3 : 0 ≤ x3 ∧ x3 ≤ 24) (k5 : 2 ≤ x5 ∧ x5 ≤ 29) (k6 : (-2) ≤ x6 ∧ x6 ≤ 26) (k8 : 0 ≤ x8 ∧ x8 ≤ 24) (k10 : 0 ≤ x10 ∧ x10 ≤ 24) (k12 : 1 ≤ x12 ∧ x12 ≤ 25) (d0 : x3 + 1 ≤ x12 ∧ x12 ≤ x3 + 1) (d1 : x10 + 0 ≤ x8 ∧ x8 ≤ x10 + 4294967296) (d2 : x1 + (-4294967296) ≤ x5 ∧ x5 ≤ x1 + (-1)) (d3 : x1 + 0 ≤ x5 ∧ x5 ≤ x1 + 4294967296) (d4 : x1 + (-4294967296) ≤ x5 ∧ x5 ≤ x1 + 0) (f0 : x12 = x3 + 1) (f1 : x10 ≤ x8) (h2 : x10 = bestWay_0 (x5)) (h4 : x8 = way_0 (x5)) (f6 : x5 < x1) (f7 : x1 ≤ x5) (f8 : GOK (pn_0) (pm_0) (pt_0) (ph_0)) (f9 : STB (pn_0) (pm_0) (pt_0) (ph_0) (alive_0)) (f10 : STR (pn_0) (rowMany_0) (pt_0) (ph_0) (row_0)) (f11 : onlyPiece_0 = (-1)) (f12 : (-1) * rowMany_0 + ((-1) * x6 + 0) ≤ (-26)) (f13 : DRR (pn_0) (rowMany_0) (drawnNode_0) (row_0)) (f14 : DEM (pm_0) (pt_0) (ph_0) (drawnNode_0) (drawnEdge_0)) (f15 : UA (pm_0) (alive_0) (drawnEdge_0)) (f16 : (rowMany_0 + 1) ≤ pn_0) (f17 : SB1 (pn_0) (pm_0) (onlyPiece_0) (pt_0) (ph_0) (drawnEdge_0) (pieceOf_0) (drawnNode_0) (bestWay_0) (x1) (x2) (x3)) (f18 : WYM (pn_0) (wayMany_0) (drawnNode_0) (way_0)) (f19 : 1 * x2 + ((-1) * pn_0 + 0) ≤ (-1)) (f20 : 1 * x3 + ((-1) * pn_0 + 0) ≤ (-1)) (f21 : drawnNode_0 (x2) ≠ 0) (f22 : x1 = wayMany_0) (hK_0_33 : ∀ j : Int, 0 ≤ j → j < 80 → 0 ≤ pt_0 j ∧ pt_0 j ≤ 24) (hK_0_34 : ∀ j : Int, 0 ≤ j → j < 80 → 0 ≤ ph_0 j ∧ ph_0 j ≤ 24) (hK_0_35 : ∀ j : Int, 0 ≤ j → j < 80 → 0 ≤ alive_0 j ∧ alive_0 j ≤ 1) (hK_0_42 : ∀ j : Int, 0 ≤ j → j < 26 → 0 ≤ drawnNode_0 j ∧ drawnNode_0 j ≤ 1) (hK_0_43 : ∀ j : Int, 0 ≤ j → j < 80 → 0 ≤ drawnEdge_0 j ∧ drawnEdge_0 j ≤ 1) (hK_0_44 : ∀ j : Int, 0 ≤ j → j < 80 → (-1) ≤ pieceOf_0 j ∧ pieceOf_0 j ≤ 79) (hK_0_46 : ∀ j : Int, 0 ≤ j → j < 30 → 0 ≤ way_0 j ∧ way_0 j ≤ 24) (hK_0_52 : ∀ j : Int, 0 ≤ j → j < 30 → 0 ≤ bestWay_0 j ∧ bestWay_0 j ≤ 24) (hK_0_117 : ∀ j : Int, 0 ≤ j → j < 100 → 0 ≤ row_0 j ∧ row_0 j ≤ 75) (kz_0_31 : 0 ≤ pn_0 ∧ pn_0 ≤ 25) (kz_0_32 : 0 ≤ pm_0 ∧ pm_0 ≤ 80) (kz_0_45 : 0 ≤ wayMany_0 ∧ wayMany_0 ≤ 30) (kz_0_49 : (-1) ≤ onlyPiece_0 ∧ onlyPiece_0 ≤ 79) (kz_0_125 : 0 ≤ rowMany_0 ∧ rowMany_0 ≤ 100) (ex2 : gx = 0 + (1 * x6 + 0)) (ex3 : (-2) ≤ gx ∧ gx ≤ 26) : UA (pm_0) (alive_0) (drawnEdge_0) := by
  first | assumption
set_option maxHeartbeats 4000000 in
theorem vc_Mo_stOrder_28_8 (x1 : Int) (x2 : Int) (x3 : Int) (x5 : Int) (x6 : Int) (x8 : Int) (x10 : Int) (x12 : Int) (bestWay_0 : Int → Int) (way_0 : Int → Int) (pt_0 : Int → Int) (ph_0 : Int → Int) (pn_0 : Int) (pm_0 : Int) (alive_0 : Int → Int) (row_0 : Int → Int) (rowMany_0 : Int) (onlyPiece_0 : Int) (drawnNode_0 : Int → Int) (drawnEdge_0 : Int → Int) (pieceOf_0 : Int → Int) (wayMany_0 : Int) (gx : Int) (k1 : 2 ≤ x1 ∧ x1 ≤ 29) (k2 : 0 ≤ x2 ∧ x2 ≤ 24) (k3 : 0 ≤ x3 ∧ x3 ≤ 24) (k5 : 2 ≤ x5 ∧ x5 ≤ 29) (k6 : (-2) ≤ x6 ∧ x6 ≤ 26) (k8 : 0 ≤ x8 ∧ x8 ≤ 24) (k10 : 0 ≤ x10 ∧ x10 ≤ 24) (k12 : 1 ≤ x12 ∧ x12 ≤ 25) (d0 : x3 + 1 ≤ x12 ∧ x12 ≤ x3 + 1) (d1 : x10 + 0 ≤ x8 ∧ x8 ≤ x10 + 4294967296) (d2 : x1 + (-4294967296) ≤ x5 ∧ x5 ≤ x1 + (-1)) (d3 : x1 + 0 ≤ x5 ∧ x5 ≤ x1 + 4294967296) (d4 : x1 + (-4294967296) ≤ x5 ∧ x5 ≤ x1 + 0) (f0 : x12 = x3 + 1) (f1 : x10 ≤ x8) (h2 : x10 = bestWay_0 (x5)) (h4 : x8 = way_0 (x5)) (f6 : x5 < x1) (f7 : x1 ≤ x5) (f8 : GOK (pn_0) (pm_0) (pt_0) (ph_0)) (f9 : STB (pn_0) (pm_0) (pt_0) (ph_0) (alive_0)) (f10 : STR (pn_0) (rowMany_0) (pt_0) (ph_0) (row_0)) (f11 : onlyPiece_0 = (-1)) (f12 : (-1) * rowMany_0 + ((-1) * x6 + 0) ≤ (-26)) (f13 : DRR (pn_0) (rowMany_0) (drawnNode_0) (row_0)) (f14 : DEM (pm_0) (pt_0) (ph_0) (drawnNode_0) (drawnEdge_0)) (f15 : UA (pm_0) (alive_0) (drawnEdge_0)) (f16 : (rowMany_0 + 1) ≤ pn_0) (f17 : SB1 (pn_0) (pm_0) (onlyPiece_0) (pt_0) (ph_0) (drawnEdge_0) (pieceOf_0) (drawnNode_0) (bestWay_0) (x1) (x2) (x3)) (f18 : WYM (pn_0) (wayMany_0) (drawnNode_0) (way_0)) (f19 : 1 * x2 + ((-1) * pn_0 + 0) ≤ (-1)) (f20 : 1 * x3 + ((-1) * pn_0 + 0) ≤ (-1)) (f21 : drawnNode_0 (x2) ≠ 0) (f22 : x1 = wayMany_0) (hK_0_33 : ∀ j : Int, 0 ≤ j → j < 80 → 0 ≤ pt_0 j ∧ pt_0 j ≤ 24) (hK_0_34 : ∀ j : Int, 0 ≤ j → j < 80 → 0 ≤ ph_0 j ∧ ph_0 j ≤ 24) (hK_0_35 : ∀ j : Int, 0 ≤ j → j < 80 → 0 ≤ alive_0 j ∧ alive_0 j ≤ 1) (hK_0_42 : ∀ j : Int, 0 ≤ j → j < 26 → 0 ≤ drawnNode_0 j ∧ drawnNode_0 j ≤ 1) (hK_0_43 : ∀ j : Int, 0 ≤ j → j < 80 → 0 ≤ drawnEdge_0 j ∧ drawnEdge_0 j ≤ 1) (hK_0_44 : ∀ j : Int, 0 ≤ j → j < 80 → (-1) ≤ pieceOf_0 j ∧ pieceOf_0 j ≤ 79) (hK_0_46 : ∀ j : Int, 0 ≤ j → j < 30 → 0 ≤ way_0 j ∧ way_0 j ≤ 24) (hK_0_52 : ∀ j : Int, 0 ≤ j → j < 30 → 0 ≤ bestWay_0 j ∧ bestWay_0 j ≤ 24) (hK_0_117 : ∀ j : Int, 0 ≤ j → j < 100 → 0 ≤ row_0 j ∧ row_0 j ≤ 75) (kz_0_31 : 0 ≤ pn_0 ∧ pn_0 ≤ 25) (kz_0_32 : 0 ≤ pm_0 ∧ pm_0 ≤ 80) (kz_0_45 : 0 ≤ wayMany_0 ∧ wayMany_0 ≤ 30) (kz_0_49 : (-1) ≤ onlyPiece_0 ∧ onlyPiece_0 ≤ 79) (kz_0_125 : 0 ≤ rowMany_0 ∧ rowMany_0 ≤ 100) (ex2 : gx = 0 + (1 * x6 + 0)) (ex3 : (-2) ≤ gx ∧ gx ≤ 26) : (rowMany_0 + 1) ≤ pn_0 := by
  first
    | omega
    | (have h := ‹STB _ _ _ _ _›.1.2.2; omega)
    | (have h := ‹STR _ _ _ _ _›.1; omega)
    | (have h := ‹STR _ _ _ _ _›.1
       have w := ‹STR _ _ _ _ _›.2.1 x1 (by omega) (by omega)
       omega)
    | (have h := bc_len ‹BC1 _ _ _ _ _ _ _›
       have h2 := ‹STR _ _ _ _ _›.1
       omega)
    | (have h := (sb_way ‹SB1 _ _ _ _ _ _ _ _ _ _ _ _› (by omega)).1
       have h2 := ‹STR _ _ _ _ _›.1
       omega)
    | (have h := ‹WYM _ _ _ _›.1
       have h2 := ‹STR _ _ _ _ _›.1
       omega)
set_option maxHeartbeats 4000000 in
theorem vc_Mo_stOrder_28_9 (x1 : Int) (x2 : Int) (x3 : Int) (x5 : Int) (x6 : Int) (x8 : Int) (x10 : Int) (x12 : Int) (bestWay_0 : Int → Int) (way_0 : Int → Int) (pt_0 : Int → Int) (ph_0 : Int → Int) (pn_0 : Int) (pm_0 : Int) (alive_0 : Int → Int) (row_0 : Int → Int) (rowMany_0 : Int) (onlyPiece_0 : Int) (drawnNode_0 : Int → Int) (drawnEdge_0 : Int → Int) (pieceOf_0 : Int → Int) (wayMany_0 : Int) (gx : Int) (k1 : 2 ≤ x1 ∧ x1 ≤ 29) (k2 : 0 ≤ x2 ∧ x2 ≤ 24) (k3 : 0 ≤ x3 ∧ x3 ≤ 24) (k5 : 2 ≤ x5 ∧ x5 ≤ 29) (k6 : (-2) ≤ x6 ∧ x6 ≤ 26) (k8 : 0 ≤ x8 ∧ x8 ≤ 24) (k10 : 0 ≤ x10 ∧ x10 ≤ 24) (k12 : 1 ≤ x12 ∧ x12 ≤ 25) (d0 : x3 + 1 ≤ x12 ∧ x12 ≤ x3 + 1) (d1 : x10 + 0 ≤ x8 ∧ x8 ≤ x10 + 4294967296) (d2 : x1 + (-4294967296) ≤ x5 ∧ x5 ≤ x1 + (-1)) (d3 : x1 + 0 ≤ x5 ∧ x5 ≤ x1 + 4294967296) (d4 : x1 + (-4294967296) ≤ x5 ∧ x5 ≤ x1 + 0) (f0 : x12 = x3 + 1) (f1 : x10 ≤ x8) (h2 : x10 = bestWay_0 (x5)) (h4 : x8 = way_0 (x5)) (f6 : x5 < x1) (f7 : x1 ≤ x5) (f8 : GOK (pn_0) (pm_0) (pt_0) (ph_0)) (f9 : STB (pn_0) (pm_0) (pt_0) (ph_0) (alive_0)) (f10 : STR (pn_0) (rowMany_0) (pt_0) (ph_0) (row_0)) (f11 : onlyPiece_0 = (-1)) (f12 : (-1) * rowMany_0 + ((-1) * x6 + 0) ≤ (-26)) (f13 : DRR (pn_0) (rowMany_0) (drawnNode_0) (row_0)) (f14 : DEM (pm_0) (pt_0) (ph_0) (drawnNode_0) (drawnEdge_0)) (f15 : UA (pm_0) (alive_0) (drawnEdge_0)) (f16 : (rowMany_0 + 1) ≤ pn_0) (f17 : SB1 (pn_0) (pm_0) (onlyPiece_0) (pt_0) (ph_0) (drawnEdge_0) (pieceOf_0) (drawnNode_0) (bestWay_0) (x1) (x2) (x3)) (f18 : WYM (pn_0) (wayMany_0) (drawnNode_0) (way_0)) (f19 : 1 * x2 + ((-1) * pn_0 + 0) ≤ (-1)) (f20 : 1 * x3 + ((-1) * pn_0 + 0) ≤ (-1)) (f21 : drawnNode_0 (x2) ≠ 0) (f22 : x1 = wayMany_0) (hK_0_33 : ∀ j : Int, 0 ≤ j → j < 80 → 0 ≤ pt_0 j ∧ pt_0 j ≤ 24) (hK_0_34 : ∀ j : Int, 0 ≤ j → j < 80 → 0 ≤ ph_0 j ∧ ph_0 j ≤ 24) (hK_0_35 : ∀ j : Int, 0 ≤ j → j < 80 → 0 ≤ alive_0 j ∧ alive_0 j ≤ 1) (hK_0_42 : ∀ j : Int, 0 ≤ j → j < 26 → 0 ≤ drawnNode_0 j ∧ drawnNode_0 j ≤ 1) (hK_0_43 : ∀ j : Int, 0 ≤ j → j < 80 → 0 ≤ drawnEdge_0 j ∧ drawnEdge_0 j ≤ 1) (hK_0_44 : ∀ j : Int, 0 ≤ j → j < 80 → (-1) ≤ pieceOf_0 j ∧ pieceOf_0 j ≤ 79) (hK_0_46 : ∀ j : Int, 0 ≤ j → j < 30 → 0 ≤ way_0 j ∧ way_0 j ≤ 24) (hK_0_52 : ∀ j : Int, 0 ≤ j → j < 30 → 0 ≤ bestWay_0 j ∧ bestWay_0 j ≤ 24) (hK_0_117 : ∀ j : Int, 0 ≤ j → j < 100 → 0 ≤ row_0 j ∧ row_0 j ≤ 75) (kz_0_31 : 0 ≤ pn_0 ∧ pn_0 ≤ 25) (kz_0_32 : 0 ≤ pm_0 ∧ pm_0 ≤ 80) (kz_0_45 : 0 ≤ wayMany_0 ∧ wayMany_0 ≤ 30) (kz_0_49 : (-1) ≤ onlyPiece_0 ∧ onlyPiece_0 ≤ 79) (kz_0_125 : 0 ≤ rowMany_0 ∧ rowMany_0 ≤ 100) (ex2 : gx = 0 + (1 * x6 + 0)) (ex3 : (-2) ≤ gx ∧ gx ≤ 26) : SB1 (pn_0) (pm_0) (onlyPiece_0) (pt_0) (ph_0) (drawnEdge_0) (pieceOf_0) (drawnNode_0) (bestWay_0) (x1) (x2) (x12) := by
  first
    | exact sb_0 ‹SA1 _ _ _ _ _ _ _ _ _ _ _› (by omega)
    | exact sb_skip ‹SB1 _ _ _ _ _ _ _ _ _ _ _ _› (by omega) (Or.inl (by omega))
    | exact sb_skip ‹SB1 _ _ _ _ _ _ _ _ _ _ _ _› (by omega) (Or.inr (by omega))
    | exact sb_now ‹SB1 _ _ _ _ _ _ _ _ _ _ _ _› (by omega) ‹SHP _ _ _ _ _ _ _ _ _ _ _ _ _ _› (by omega) (by omega)
    | exact sb_any ‹SB1 _ _ _ _ _ _ _ _ _ _ _ _› (by omega)
    | exact Or.inr (bc_way ‹BC1 _ _ _ _ _ _ _› (by omega))
set_option maxHeartbeats 4000000 in
theorem vc_Mo_stOrder_28_10 (x1 : Int) (x2 : Int) (x3 : Int) (x5 : Int) (x6 : Int) (x8 : Int) (x10 : Int) (x12 : Int) (bestWay_0 : Int → Int) (way_0 : Int → Int) (pt_0 : Int → Int) (ph_0 : Int → Int) (pn_0 : Int) (pm_0 : Int) (alive_0 : Int → Int) (row_0 : Int → Int) (rowMany_0 : Int) (onlyPiece_0 : Int) (drawnNode_0 : Int → Int) (drawnEdge_0 : Int → Int) (pieceOf_0 : Int → Int) (wayMany_0 : Int) (gx : Int) (k1 : 2 ≤ x1 ∧ x1 ≤ 29) (k2 : 0 ≤ x2 ∧ x2 ≤ 24) (k3 : 0 ≤ x3 ∧ x3 ≤ 24) (k5 : 2 ≤ x5 ∧ x5 ≤ 29) (k6 : (-2) ≤ x6 ∧ x6 ≤ 26) (k8 : 0 ≤ x8 ∧ x8 ≤ 24) (k10 : 0 ≤ x10 ∧ x10 ≤ 24) (k12 : 1 ≤ x12 ∧ x12 ≤ 25) (d0 : x3 + 1 ≤ x12 ∧ x12 ≤ x3 + 1) (d1 : x10 + 0 ≤ x8 ∧ x8 ≤ x10 + 4294967296) (d2 : x1 + (-4294967296) ≤ x5 ∧ x5 ≤ x1 + (-1)) (d3 : x1 + 0 ≤ x5 ∧ x5 ≤ x1 + 4294967296) (d4 : x1 + (-4294967296) ≤ x5 ∧ x5 ≤ x1 + 0) (f0 : x12 = x3 + 1) (f1 : x10 ≤ x8) (h2 : x10 = bestWay_0 (x5)) (h4 : x8 = way_0 (x5)) (f6 : x5 < x1) (f7 : x1 ≤ x5) (f8 : GOK (pn_0) (pm_0) (pt_0) (ph_0)) (f9 : STB (pn_0) (pm_0) (pt_0) (ph_0) (alive_0)) (f10 : STR (pn_0) (rowMany_0) (pt_0) (ph_0) (row_0)) (f11 : onlyPiece_0 = (-1)) (f12 : (-1) * rowMany_0 + ((-1) * x6 + 0) ≤ (-26)) (f13 : DRR (pn_0) (rowMany_0) (drawnNode_0) (row_0)) (f14 : DEM (pm_0) (pt_0) (ph_0) (drawnNode_0) (drawnEdge_0)) (f15 : UA (pm_0) (alive_0) (drawnEdge_0)) (f16 : (rowMany_0 + 1) ≤ pn_0) (f17 : SB1 (pn_0) (pm_0) (onlyPiece_0) (pt_0) (ph_0) (drawnEdge_0) (pieceOf_0) (drawnNode_0) (bestWay_0) (x1) (x2) (x3)) (f18 : WYM (pn_0) (wayMany_0) (drawnNode_0) (way_0)) (f19 : 1 * x2 + ((-1) * pn_0 + 0) ≤ (-1)) (f20 : 1 * x3 + ((-1) * pn_0 + 0) ≤ (-1)) (f21 : drawnNode_0 (x2) ≠ 0) (f22 : x1 = wayMany_0) (hK_0_33 : ∀ j : Int, 0 ≤ j → j < 80 → 0 ≤ pt_0 j ∧ pt_0 j ≤ 24) (hK_0_34 : ∀ j : Int, 0 ≤ j → j < 80 → 0 ≤ ph_0 j ∧ ph_0 j ≤ 24) (hK_0_35 : ∀ j : Int, 0 ≤ j → j < 80 → 0 ≤ alive_0 j ∧ alive_0 j ≤ 1) (hK_0_42 : ∀ j : Int, 0 ≤ j → j < 26 → 0 ≤ drawnNode_0 j ∧ drawnNode_0 j ≤ 1) (hK_0_43 : ∀ j : Int, 0 ≤ j → j < 80 → 0 ≤ drawnEdge_0 j ∧ drawnEdge_0 j ≤ 1) (hK_0_44 : ∀ j : Int, 0 ≤ j → j < 80 → (-1) ≤ pieceOf_0 j ∧ pieceOf_0 j ≤ 79) (hK_0_46 : ∀ j : Int, 0 ≤ j → j < 30 → 0 ≤ way_0 j ∧ way_0 j ≤ 24) (hK_0_52 : ∀ j : Int, 0 ≤ j → j < 30 → 0 ≤ bestWay_0 j ∧ bestWay_0 j ≤ 24) (hK_0_117 : ∀ j : Int, 0 ≤ j → j < 100 → 0 ≤ row_0 j ∧ row_0 j ≤ 75) (kz_0_31 : 0 ≤ pn_0 ∧ pn_0 ≤ 25) (kz_0_32 : 0 ≤ pm_0 ∧ pm_0 ≤ 80) (kz_0_45 : 0 ≤ wayMany_0 ∧ wayMany_0 ≤ 30) (kz_0_49 : (-1) ≤ onlyPiece_0 ∧ onlyPiece_0 ≤ 79) (kz_0_125 : 0 ≤ rowMany_0 ∧ rowMany_0 ≤ 100) (ex2 : gx = 0 + (1 * x6 + 0)) (ex3 : (-2) ≤ gx ∧ gx ≤ 26) : 1 * x2 + ((-1) * pn_0 + 0) ≤ (-1) := by
  first
    | omega
    | (have h := ‹STB _ _ _ _ _›.1.2.2; omega)
    | (have h := ‹STR _ _ _ _ _›.1; omega)
    | (have h := ‹STR _ _ _ _ _›.1
       have w := ‹STR _ _ _ _ _›.2.1 x1 (by omega) (by omega)
       omega)
    | (have h := bc_len ‹BC1 _ _ _ _ _ _ _›
       have h2 := ‹STR _ _ _ _ _›.1
       omega)
    | (have h := (sb_way ‹SB1 _ _ _ _ _ _ _ _ _ _ _ _› (by omega)).1
       have h2 := ‹STR _ _ _ _ _›.1
       omega)
    | (have h := ‹WYM _ _ _ _›.1
       have h2 := ‹STR _ _ _ _ _›.1
       omega)
set_option maxHeartbeats 4000000 in
theorem vc_Mo_stOrder_28_11 (x1 : Int) (x2 : Int) (x3 : Int) (x5 : Int) (x6 : Int) (x8 : Int) (x10 : Int) (x12 : Int) (bestWay_0 : Int → Int) (way_0 : Int → Int) (pt_0 : Int → Int) (ph_0 : Int → Int) (pn_0 : Int) (pm_0 : Int) (alive_0 : Int → Int) (row_0 : Int → Int) (rowMany_0 : Int) (onlyPiece_0 : Int) (drawnNode_0 : Int → Int) (drawnEdge_0 : Int → Int) (pieceOf_0 : Int → Int) (wayMany_0 : Int) (gx : Int) (k1 : 2 ≤ x1 ∧ x1 ≤ 29) (k2 : 0 ≤ x2 ∧ x2 ≤ 24) (k3 : 0 ≤ x3 ∧ x3 ≤ 24) (k5 : 2 ≤ x5 ∧ x5 ≤ 29) (k6 : (-2) ≤ x6 ∧ x6 ≤ 26) (k8 : 0 ≤ x8 ∧ x8 ≤ 24) (k10 : 0 ≤ x10 ∧ x10 ≤ 24) (k12 : 1 ≤ x12 ∧ x12 ≤ 25) (d0 : x3 + 1 ≤ x12 ∧ x12 ≤ x3 + 1) (d1 : x10 + 0 ≤ x8 ∧ x8 ≤ x10 + 4294967296) (d2 : x1 + (-4294967296) ≤ x5 ∧ x5 ≤ x1 + (-1)) (d3 : x1 + 0 ≤ x5 ∧ x5 ≤ x1 + 4294967296) (d4 : x1 + (-4294967296) ≤ x5 ∧ x5 ≤ x1 + 0) (f0 : x12 = x3 + 1) (f1 : x10 ≤ x8) (h2 : x10 = bestWay_0 (x5)) (h4 : x8 = way_0 (x5)) (f6 : x5 < x1) (f7 : x1 ≤ x5) (f8 : GOK (pn_0) (pm_0) (pt_0) (ph_0)) (f9 : STB (pn_0) (pm_0) (pt_0) (ph_0) (alive_0)) (f10 : STR (pn_0) (rowMany_0) (pt_0) (ph_0) (row_0)) (f11 : onlyPiece_0 = (-1)) (f12 : (-1) * rowMany_0 + ((-1) * x6 + 0) ≤ (-26)) (f13 : DRR (pn_0) (rowMany_0) (drawnNode_0) (row_0)) (f14 : DEM (pm_0) (pt_0) (ph_0) (drawnNode_0) (drawnEdge_0)) (f15 : UA (pm_0) (alive_0) (drawnEdge_0)) (f16 : (rowMany_0 + 1) ≤ pn_0) (f17 : SB1 (pn_0) (pm_0) (onlyPiece_0) (pt_0) (ph_0) (drawnEdge_0) (pieceOf_0) (drawnNode_0) (bestWay_0) (x1) (x2) (x3)) (f18 : WYM (pn_0) (wayMany_0) (drawnNode_0) (way_0)) (f19 : 1 * x2 + ((-1) * pn_0 + 0) ≤ (-1)) (f20 : 1 * x3 + ((-1) * pn_0 + 0) ≤ (-1)) (f21 : drawnNode_0 (x2) ≠ 0) (f22 : x1 = wayMany_0) (hK_0_33 : ∀ j : Int, 0 ≤ j → j < 80 → 0 ≤ pt_0 j ∧ pt_0 j ≤ 24) (hK_0_34 : ∀ j : Int, 0 ≤ j → j < 80 → 0 ≤ ph_0 j ∧ ph_0 j ≤ 24) (hK_0_35 : ∀ j : Int, 0 ≤ j → j < 80 → 0 ≤ alive_0 j ∧ alive_0 j ≤ 1) (hK_0_42 : ∀ j : Int, 0 ≤ j → j < 26 → 0 ≤ drawnNode_0 j ∧ drawnNode_0 j ≤ 1) (hK_0_43 : ∀ j : Int, 0 ≤ j → j < 80 → 0 ≤ drawnEdge_0 j ∧ drawnEdge_0 j ≤ 1) (hK_0_44 : ∀ j : Int, 0 ≤ j → j < 80 → (-1) ≤ pieceOf_0 j ∧ pieceOf_0 j ≤ 79) (hK_0_46 : ∀ j : Int, 0 ≤ j → j < 30 → 0 ≤ way_0 j ∧ way_0 j ≤ 24) (hK_0_52 : ∀ j : Int, 0 ≤ j → j < 30 → 0 ≤ bestWay_0 j ∧ bestWay_0 j ≤ 24) (hK_0_117 : ∀ j : Int, 0 ≤ j → j < 100 → 0 ≤ row_0 j ∧ row_0 j ≤ 75) (kz_0_31 : 0 ≤ pn_0 ∧ pn_0 ≤ 25) (kz_0_32 : 0 ≤ pm_0 ∧ pm_0 ≤ 80) (kz_0_45 : 0 ≤ wayMany_0 ∧ wayMany_0 ≤ 30) (kz_0_49 : (-1) ≤ onlyPiece_0 ∧ onlyPiece_0 ≤ 79) (kz_0_125 : 0 ≤ rowMany_0 ∧ rowMany_0 ≤ 100) (ex2 : gx = 0 + (1 * x6 + 0)) (ex3 : (-2) ≤ gx ∧ gx ≤ 26) : drawnNode_0 (x2) ≠ 0 := by
  first
    | omega
    | (have h := ‹STB _ _ _ _ _›.1.2.2; omega)
    | (have h := ‹STR _ _ _ _ _›.1; omega)
    | (have h := ‹STR _ _ _ _ _›.1
       have w := ‹STR _ _ _ _ _›.2.1 x1 (by omega) (by omega)
       omega)
    | (have h := bc_len ‹BC1 _ _ _ _ _ _ _›
       have h2 := ‹STR _ _ _ _ _›.1
       omega)
    | (have h := (sb_way ‹SB1 _ _ _ _ _ _ _ _ _ _ _ _› (by omega)).1
       have h2 := ‹STR _ _ _ _ _›.1
       omega)
    | (have h := ‹WYM _ _ _ _›.1
       have h2 := ‹STR _ _ _ _ _›.1
       omega)
def o_Mo_stOrder_28 : or_T := (181, 13, [(0, (2, 0, 0, [165])), (1, (0, 2, 29, [])), (2, (0, 0, 24, [])), (3, (0, 0, 24, [])), (5, (0, 2, 29, [])), (6, (0, -2, 26, [])), (7, (2, 0, 0, [191])), (8, (0, 0, 24, [])), (9, (2, 0, 0, [195])), (10, (0, 0, 24, [])), (12, (0, 1, 25, []))], [(6, [12, 3], [1]), (7, [8, 10], [3]), (10, [10, 9, 5], []), (9, [9, 0], [52]), (10, [8, 7, 5], []), (9, [7, 0], [46]), (7, [5, 1], [2]), (7, [5, 1], [3]), (20, [0], [60, 2, 2, 75, 31, 32, 33, 34]), (20, [0], [60, 2, 3, 297, 31, 32, 33, 34, 35]), (20, [0], [60, 2, 3, 298, 31, 125, 33, 34, 117]), (20, [0], [50, 1, 0, 49, 1, 3, 2, 0, 49, 0, -1]), (20, [0, 6], [30, -26, -1, 1, 125, -1, 0, 0]), (20, [0], [60, 2, 2, 301, 31, 125, 42, 117]), (20, [0], [60, 1, 4, 303, 32, 33, 34, 42, 43]), (20, [0], [60, 1, 2, 122, 32, 35, 43]), (20, [0], [50, 2, 0, 125, 31, 0, 7, 4, 3, 2, 0, 125, 0, 1, 2, 0, 31]), (20, [0, 1, 2, 3], [60, 3, 6, 306, 31, 32, 49, 33, 34, 43, 44, 42, 52]), (20, [0], [60, 2, 2, 304, 31, 45, 42, 46]), (20, [2, 0], [30, -1, 1, 0, 0, -1, 1, 31]), (20, [3, 0], [30, -1, 1, 0, 0, -1, 1, 31]), (20, [0, 2], [50, 0, 1, 42, 7, 5, 3, 0, 42, 1, 1, 0, 0]), (20, [1, 0], [50, 1, 0, 1045, 1, 2, 1, 0, 2, 1, 45])], [], [(0, -2, 26, [])], [(20, [0], [60, 2, 2, 75, 31, 32, 33, 34]), (20, [0], [60, 2, 3, 297, 31, 32, 33, 34, 35]), (20, [0], [60, 2, 3, 298, 31, 125, 33, 34, 117]), (20, [0], [50, 1, 0, 49, 1, 3, 2, 0, 49, 0, -1]), (20, [0, 13], [30, -26, -1, 1, 125, -1, 0, 0]), (20, [0], [60, 2, 2, 301, 31, 125, 42, 117]), (20, [0], [60, 1, 4, 303, 32, 33, 34, 42, 43]), (20, [0], [60, 1, 2, 122, 32, 35, 43]), (20, [0], [50, 2, 0, 125, 31, 0, 7, 4, 3, 2, 0, 125, 0, 1, 2, 0, 31]), (20, [0, 1, 2, 12], [60, 3, 6, 306, 31, 32, 49, 33, 34, 43, 44, 42, 52]), (20, [2, 0], [30, -1, 1, 0, 0, -1, 1, 31]), (20, [0, 2], [50, 0, 1, 42, 7, 5, 3, 0, 42, 1, 1, 0, 0])], [(13, 6, 0, 0)], [(12, 3, 1, 1), (8, 10, 0, 4294967296), (5, 1, -4294967296, -1), (5, 1, 0, 4294967296), (5, 1, -4294967296, 0)])
theorem oo_Mo_stOrder_28 {kA : Nat → ClassId} : or_ok PRD kA GG o_Mo_stOrder_28 := by
  refine or_mk fun A ta ws vs hD hth hl => ?_
  intro t0 r0 t1 k1 t2 k2 t3 k3 t5 k5 t6 k6 t7 r7 t8 k8 t9 r9 t10 k10 t12 k12 d0 d1 d2 d3 d4 f0 f1 f2 f3 f4 f5 f6 f7 f8 f9 f10 f11 f12 f13 f14 f15 f16 f17 f18 f19 f20 f21 f22
  replace f0 := shm_4 f0
  replace f1 := shm_2 f1
  replace f2 := shm_107 f2
  replace f3 := shm_993 f3
  replace f4 := shm_107 f4
  replace f5 := shm_737 f5
  replace f6 := shm_6 f6
  replace f7 := shm_2 f7
  replace f8 := shm_575 f8
  replace f9 := shm_1749 f9
  replace f10 := shm_1001 f10
  replace f11 := shm_1675 f11
  replace f12 := shm_1750 f12
  replace f13 := shm_1755 f13
  replace f14 := shm_1757 f14
  replace f15 := shm_1455 f15
  replace f16 := shm_1752 f16
  replace f17 := shm_1761 f17
  replace f18 := shm_1764 f18
  replace f19 := shm_553 f19
  replace f20 := shm_553 f20
  replace f21 := shm_1762 f21
  replace f22 := shm_1765 f22
  have cr_0_33 := fdq_117 hD hth r0
  have cr_0_34 := fdq_118 hD hth r0
  have cr_0_35 := fdq_132 hD hth r0
  have cr_0_42 := fdq_136 hD hth r0
  have cr_0_43 := fdq_137 hD hth r0
  have cr_0_44 := fdq_138 hD hth r0
  have cr_0_46 := fdq_190 hD hth r0
  have cr_0_52 := fdq_236 hD hth r0
  have cr_0_117 := fdq_181 hD hth r0
  have ad_9 : v_ad (n_v vs 9) = w_ar ws (n_v vs 0) 52 := congrArg v_ad f3
  have ad_7 : v_ad (n_v vs 7) = w_ar ws (n_v vs 0) 46 := congrArg v_ad f5
  simp only [ad_9] at f2
  have h2 : v_iv (n_v vs 10) = w_ei ws (w_ar ws (n_v vs 0) 52) (v_iv (n_v vs 5)) := f2
  simp only [ad_7] at f4
  have h4 : v_iv (n_v vs 8) = w_ei ws (w_ar ws (n_v vs 0) 46) (v_iv (n_v vs 5)) := f4
  have hK_0_33 := elq_60 hD hth cr_0_33
  have hK_0_34 := elq_61 hD hth cr_0_34
  have hK_0_35 := elq_72 hD hth cr_0_35
  have hK_0_42 := elq_75 hD hth cr_0_42
  have hK_0_43 := elq_76 hD hth cr_0_43
  have hK_0_44 := elq_77 hD hth cr_0_44
  have hK_0_46 := elq_114 hD hth cr_0_46
  have hK_0_52 := elq_147 hD hth cr_0_52
  have hK_0_117 := elq_108 hD hth cr_0_117
  have kz_0_31 := fdq_145 hD hth r0
  have kz_0_32 := fdq_140 hD hth r0
  have kz_0_45 := fdq_191 hD hth r0
  have kz_0_49 := fdq_146 hD hth r0
  have kz_0_125 := fdq_182 hD hth r0
  obtain ⟨x, ex, hx⟩ := iv_ex (ta := ta) (lo := (-2)) (hi := 26) (z := 0 + (1 * v_iv (n_v vs 6) + 0)) (by omega) (by omega) (by omega) (by omega)
  have ex2 : v_iv (Value.int x) = 0 + (1 * v_iv (n_v vs 6) + 0) := ex
  have ex3 : (-2) ≤ v_iv (Value.int x) ∧ v_iv (Value.int x) ≤ 26 := tv_rng hx
  have e_0 : n_v (vs ++ [Value.int x]) 0 = n_v vs 0 := n_v_old (by rw [hl]; decide)
  have e_1 : n_v (vs ++ [Value.int x]) 1 = n_v vs 1 := n_v_old (by rw [hl]; decide)
  have e_2 : n_v (vs ++ [Value.int x]) 2 = n_v vs 2 := n_v_old (by rw [hl]; decide)
  have e_12 : n_v (vs ++ [Value.int x]) 12 = n_v vs 12 := n_v_old (by rw [hl]; decide)
  have e_13 : n_v (vs ++ [Value.int x]) 13 = Value.int x := n_v_new hl
  have nf0 : fc_1 PRD (20, [0], [60, 2, 2, 75, 31, 32, 33, 34]) ws (vs ++ [Value.int x]) := by
    refine ⟨nf_inA hl rfl, sgq_575 ?_⟩
    · show GOK (w_fi ws (n_v (vs ++ [Value.int x]) 0) 31) (w_fi ws (n_v (vs ++ [Value.int x]) 0) 32) (w_ei ws (w_ar ws (n_v (vs ++ [Value.int x]) 0) 33)) (w_ei ws (w_ar ws (n_v (vs ++ [Value.int x]) 0) 34))
      rw [e_0]
      exact vc_Mo_stOrder_28_0 (v_iv (n_v vs 1)) (v_iv (n_v vs 2)) (v_iv (n_v vs 3)) (v_iv (n_v vs 5)) (v_iv (n_v vs 6)) (v_iv (n_v vs 8)) (v_iv (n_v vs 10)) (v_iv (n_v vs 12)) (w_ei ws (w_ar ws (n_v vs 0) 52)) (w_ei ws (w_ar ws (n_v vs 0) 46)) (w_ei ws (w_ar ws (n_v vs 0) 33)) (w_ei ws (w_ar ws (n_v vs 0) 34)) (w_fi ws (n_v vs 0) 31) (w_fi ws (n_v vs 0) 32) (w_ei ws (w_ar ws (n_v vs 0) 35)) (w_ei ws (w_ar ws (n_v vs 0) 117)) (w_fi ws (n_v vs 0) 125) (w_fi ws (n_v vs 0) 49) (w_ei ws (w_ar ws (n_v vs 0) 42)) (w_ei ws (w_ar ws (n_v vs 0) 43)) (w_ei ws (w_ar ws (n_v vs 0) 44)) (w_fi ws (n_v vs 0) 45) (v_iv (Value.int x)) k1 k2 k3 k5 k6 k8 k10 k12 d0 d1 d2 d3 d4 f0 f1 h2 h4 f6 f7 f8 f9 f10 f11 f12 f13 f14 f15 f16 f17 f18 f19 f20 f21 f22 hK_0_33 hK_0_34 hK_0_35 hK_0_42 hK_0_43 hK_0_44 hK_0_46 hK_0_52 hK_0_117 kz_0_31 kz_0_32 kz_0_45 kz_0_49 kz_0_125 ex2 ex3
  have nf1 : fc_1 PRD (20, [0], [60, 2, 3, 297, 31, 32, 33, 34, 35]) ws (vs ++ [Value.int x]) := by
    refine ⟨nf_inA hl rfl, sgq_1749 ?_⟩
    · show STB (w_fi ws (n_v (vs ++ [Value.int x]) 0) 31) (w_fi ws (n_v (vs ++ [Value.int x]) 0) 32) (w_ei ws (w_ar ws (n_v (vs ++ [Value.int x]) 0) 33)) (w_ei ws (w_ar ws (n_v (vs ++ [Value.int x]) 0) 34)) (w_ei ws (w_ar ws (n_v (vs ++ [Value.int x]) 0) 35))
      rw [e_0]
      exact vc_Mo_stOrder_28_1 (v_iv (n_v vs 1)) (v_iv (n_v vs 2)) (v_iv (n_v vs 3)) (v_iv (n_v vs 5)) (v_iv (n_v vs 6)) (v_iv (n_v vs 8)) (v_iv (n_v vs 10)) (v_iv (n_v vs 12)) (w_ei ws (w_ar ws (n_v vs 0) 52)) (w_ei ws (w_ar ws (n_v vs 0) 46)) (w_ei ws (w_ar ws (n_v vs 0) 33)) (w_ei ws (w_ar ws (n_v vs 0) 34)) (w_fi ws (n_v vs 0) 31) (w_fi ws (n_v vs 0) 32) (w_ei ws (w_ar ws (n_v vs 0) 35)) (w_ei ws (w_ar ws (n_v vs 0) 117)) (w_fi ws (n_v vs 0) 125) (w_fi ws (n_v vs 0) 49) (w_ei ws (w_ar ws (n_v vs 0) 42)) (w_ei ws (w_ar ws (n_v vs 0) 43)) (w_ei ws (w_ar ws (n_v vs 0) 44)) (w_fi ws (n_v vs 0) 45) (v_iv (Value.int x)) k1 k2 k3 k5 k6 k8 k10 k12 d0 d1 d2 d3 d4 f0 f1 h2 h4 f6 f7 f8 f9 f10 f11 f12 f13 f14 f15 f16 f17 f18 f19 f20 f21 f22 hK_0_33 hK_0_34 hK_0_35 hK_0_42 hK_0_43 hK_0_44 hK_0_46 hK_0_52 hK_0_117 kz_0_31 kz_0_32 kz_0_45 kz_0_49 kz_0_125 ex2 ex3
  have nf2 : fc_1 PRD (20, [0], [60, 2, 3, 298, 31, 125, 33, 34, 117]) ws (vs ++ [Value.int x]) := by
    refine ⟨nf_inA hl rfl, sgq_1001 ?_⟩
    · show STR (w_fi ws (n_v (vs ++ [Value.int x]) 0) 31) (w_fi ws (n_v (vs ++ [Value.int x]) 0) 125) (w_ei ws (w_ar ws (n_v (vs ++ [Value.int x]) 0) 33)) (w_ei ws (w_ar ws (n_v (vs ++ [Value.int x]) 0) 34)) (w_ei ws (w_ar ws (n_v (vs ++ [Value.int x]) 0) 117))
      rw [e_0]
      exact vc_Mo_stOrder_28_2 (v_iv (n_v vs 1)) (v_iv (n_v vs 2)) (v_iv (n_v vs 3)) (v_iv (n_v vs 5)) (v_iv (n_v vs 6)) (v_iv (n_v vs 8)) (v_iv (n_v vs 10)) (v_iv (n_v vs 12)) (w_ei ws (w_ar ws (n_v vs 0) 52)) (w_ei ws (w_ar ws (n_v vs 0) 46)) (w_ei ws (w_ar ws (n_v vs 0) 33)) (w_ei ws (w_ar ws (n_v vs 0) 34)) (w_fi ws (n_v vs 0) 31) (w_fi ws (n_v vs 0) 32) (w_ei ws (w_ar ws (n_v vs 0) 35)) (w_ei ws (w_ar ws (n_v vs 0) 117)) (w_fi ws (n_v vs 0) 125) (w_fi ws (n_v vs 0) 49) (w_ei ws (w_ar ws (n_v vs 0) 42)) (w_ei ws (w_ar ws (n_v vs 0) 43)) (w_ei ws (w_ar ws (n_v vs 0) 44)) (w_fi ws (n_v vs 0) 45) (v_iv (Value.int x)) k1 k2 k3 k5 k6 k8 k10 k12 d0 d1 d2 d3 d4 f0 f1 h2 h4 f6 f7 f8 f9 f10 f11 f12 f13 f14 f15 f16 f17 f18 f19 f20 f21 f22 hK_0_33 hK_0_34 hK_0_35 hK_0_42 hK_0_43 hK_0_44 hK_0_46 hK_0_52 hK_0_117 kz_0_31 kz_0_32 kz_0_45 kz_0_49 kz_0_125 ex2 ex3
  have nf3 : fc_1 PRD (20, [0], [50, 1, 0, 49, 1, 3, 2, 0, 49, 0, -1]) ws (vs ++ [Value.int x]) := by
    refine ⟨nf_inA hl rfl, sgq_1675 ?_⟩
    · show w_fi ws (n_v (vs ++ [Value.int x]) 0) 49 = (-1)
      rw [e_0]
      exact vc_Mo_stOrder_28_3 (v_iv (n_v vs 1)) (v_iv (n_v vs 2)) (v_iv (n_v vs 3)) (v_iv (n_v vs 5)) (v_iv (n_v vs 6)) (v_iv (n_v vs 8)) (v_iv (n_v vs 10)) (v_iv (n_v vs 12)) (w_ei ws (w_ar ws (n_v vs 0) 52)) (w_ei ws (w_ar ws (n_v vs 0) 46)) (w_ei ws (w_ar ws (n_v vs 0) 33)) (w_ei ws (w_ar ws (n_v vs 0) 34)) (w_fi ws (n_v vs 0) 31) (w_fi ws (n_v vs 0) 32) (w_ei ws (w_ar ws (n_v vs 0) 35)) (w_ei ws (w_ar ws (n_v vs 0) 117)) (w_fi ws (n_v vs 0) 125) (w_fi ws (n_v vs 0) 49) (w_ei ws (w_ar ws (n_v vs 0) 42)) (w_ei ws (w_ar ws (n_v vs 0) 43)) (w_ei ws (w_ar ws (n_v vs 0) 44)) (w_fi ws (n_v vs 0) 45) (v_iv (Value.int x)) k1 k2 k3 k5 k6 k8 k10 k12 d0 d1 d2 d3 d4 f0 f1 h2 h4 f6 f7 f8 f9 f10 f11 f12 f13 f14 f15 f16 f17 f18 f19 f20 f21 f22 hK_0_33 hK_0_34 hK_0_35 hK_0_42 hK_0_43 hK_0_44 hK_0_46 hK_0_52 hK_0_117 kz_0_31 kz_0_32 kz_0_45 kz_0_49 kz_0_125 ex2 ex3
  have nf4 : fc_1 PRD (20, [0, 13], [30, -26, -1, 1, 125, -1, 0, 0]) ws (vs ++ [Value.int x]) := by
    refine ⟨nf_inA hl rfl, sgq_1750 ?_⟩
    · show (-1) * w_fi ws (n_v (vs ++ [Value.int x]) 0) 125 + ((-1) * v_iv (n_v (vs ++ [Value.int x]) 13) + 0) ≤ (-26)
      simp only [e_0, e_13]
      exact vc_Mo_stOrder_28_4 (v_iv (n_v vs 1)) (v_iv (n_v vs 2)) (v_iv (n_v vs 3)) (v_iv (n_v vs 5)) (v_iv (n_v vs 6)) (v_iv (n_v vs 8)) (v_iv (n_v vs 10)) (v_iv (n_v vs 12)) (w_ei ws (w_ar ws (n_v vs 0) 52)) (w_ei ws (w_ar ws (n_v vs 0) 46)) (w_ei ws (w_ar ws (n_v vs 0) 33)) (w_ei ws (w_ar ws (n_v vs 0) 34)) (w_fi ws (n_v vs 0) 31) (w_fi ws (n_v vs 0) 32) (w_ei ws (w_ar ws (n_v vs 0) 35)) (w_ei ws (w_ar ws (n_v vs 0) 117)) (w_fi ws (n_v vs 0) 125) (w_fi ws (n_v vs 0) 49) (w_ei ws (w_ar ws (n_v vs 0) 42)) (w_ei ws (w_ar ws (n_v vs 0) 43)) (w_ei ws (w_ar ws (n_v vs 0) 44)) (w_fi ws (n_v vs 0) 45) (v_iv (Value.int x)) k1 k2 k3 k5 k6 k8 k10 k12 d0 d1 d2 d3 d4 f0 f1 h2 h4 f6 f7 f8 f9 f10 f11 f12 f13 f14 f15 f16 f17 f18 f19 f20 f21 f22 hK_0_33 hK_0_34 hK_0_35 hK_0_42 hK_0_43 hK_0_44 hK_0_46 hK_0_52 hK_0_117 kz_0_31 kz_0_32 kz_0_45 kz_0_49 kz_0_125 ex2 ex3
  have nf5 : fc_1 PRD (20, [0], [60, 2, 2, 301, 31, 125, 42, 117]) ws (vs ++ [Value.int x]) := by
    refine ⟨nf_inA hl rfl, sgq_1755 ?_⟩
    · show DRR (w_fi ws (n_v (vs ++ [Value.int x]) 0) 31) (w_fi ws (n_v (vs ++ [Value.int x]) 0) 125) (w_ei ws (w_ar ws (n_v (vs ++ [Value.int x]) 0) 42)) (w_ei ws (w_ar ws (n_v (vs ++ [Value.int x]) 0) 117))
      rw [e_0]
      exact vc_Mo_stOrder_28_5 (v_iv (n_v vs 1)) (v_iv (n_v vs 2)) (v_iv (n_v vs 3)) (v_iv (n_v vs 5)) (v_iv (n_v vs 6)) (v_iv (n_v vs 8)) (v_iv (n_v vs 10)) (v_iv (n_v vs 12)) (w_ei ws (w_ar ws (n_v vs 0) 52)) (w_ei ws (w_ar ws (n_v vs 0) 46)) (w_ei ws (w_ar ws (n_v vs 0) 33)) (w_ei ws (w_ar ws (n_v vs 0) 34)) (w_fi ws (n_v vs 0) 31) (w_fi ws (n_v vs 0) 32) (w_ei ws (w_ar ws (n_v vs 0) 35)) (w_ei ws (w_ar ws (n_v vs 0) 117)) (w_fi ws (n_v vs 0) 125) (w_fi ws (n_v vs 0) 49) (w_ei ws (w_ar ws (n_v vs 0) 42)) (w_ei ws (w_ar ws (n_v vs 0) 43)) (w_ei ws (w_ar ws (n_v vs 0) 44)) (w_fi ws (n_v vs 0) 45) (v_iv (Value.int x)) k1 k2 k3 k5 k6 k8 k10 k12 d0 d1 d2 d3 d4 f0 f1 h2 h4 f6 f7 f8 f9 f10 f11 f12 f13 f14 f15 f16 f17 f18 f19 f20 f21 f22 hK_0_33 hK_0_34 hK_0_35 hK_0_42 hK_0_43 hK_0_44 hK_0_46 hK_0_52 hK_0_117 kz_0_31 kz_0_32 kz_0_45 kz_0_49 kz_0_125 ex2 ex3
  have nf6 : fc_1 PRD (20, [0], [60, 1, 4, 303, 32, 33, 34, 42, 43]) ws (vs ++ [Value.int x]) := by
    refine ⟨nf_inA hl rfl, sgq_1757 ?_⟩
    · show DEM (w_fi ws (n_v (vs ++ [Value.int x]) 0) 32) (w_ei ws (w_ar ws (n_v (vs ++ [Value.int x]) 0) 33)) (w_ei ws (w_ar ws (n_v (vs ++ [Value.int x]) 0) 34)) (w_ei ws (w_ar ws (n_v (vs ++ [Value.int x]) 0) 42)) (w_ei ws (w_ar ws (n_v (vs ++ [Value.int x]) 0) 43))
      rw [e_0]
      exact vc_Mo_stOrder_28_6 (v_iv (n_v vs 1)) (v_iv (n_v vs 2)) (v_iv (n_v vs 3)) (v_iv (n_v vs 5)) (v_iv (n_v vs 6)) (v_iv (n_v vs 8)) (v_iv (n_v vs 10)) (v_iv (n_v vs 12)) (w_ei ws (w_ar ws (n_v vs 0) 52)) (w_ei ws (w_ar ws (n_v vs 0) 46)) (w_ei ws (w_ar ws (n_v vs 0) 33)) (w_ei ws (w_ar ws (n_v vs 0) 34)) (w_fi ws (n_v vs 0) 31) (w_fi ws (n_v vs 0) 32) (w_ei ws (w_ar ws (n_v vs 0) 35)) (w_ei ws (w_ar ws (n_v vs 0) 117)) (w_fi ws (n_v vs 0) 125) (w_fi ws (n_v vs 0) 49) (w_ei ws (w_ar ws (n_v vs 0) 42)) (w_ei ws (w_ar ws (n_v vs 0) 43)) (w_ei ws (w_ar ws (n_v vs 0) 44)) (w_fi ws (n_v vs 0) 45) (v_iv (Value.int x)) k1 k2 k3 k5 k6 k8 k10 k12 d0 d1 d2 d3 d4 f0 f1 h2 h4 f6 f7 f8 f9 f10 f11 f12 f13 f14 f15 f16 f17 f18 f19 f20 f21 f22 hK_0_33 hK_0_34 hK_0_35 hK_0_42 hK_0_43 hK_0_44 hK_0_46 hK_0_52 hK_0_117 kz_0_31 kz_0_32 kz_0_45 kz_0_49 kz_0_125 ex2 ex3
  have nf7 : fc_1 PRD (20, [0], [60, 1, 2, 122, 32, 35, 43]) ws (vs ++ [Value.int x]) := by
    refine ⟨nf_inA hl rfl, sgq_1455 ?_⟩
    · show UA (w_fi ws (n_v (vs ++ [Value.int x]) 0) 32) (w_ei ws (w_ar ws (n_v (vs ++ [Value.int x]) 0) 35)) (w_ei ws (w_ar ws (n_v (vs ++ [Value.int x]) 0) 43))
      rw [e_0]
      exact vc_Mo_stOrder_28_7 (v_iv (n_v vs 1)) (v_iv (n_v vs 2)) (v_iv (n_v vs 3)) (v_iv (n_v vs 5)) (v_iv (n_v vs 6)) (v_iv (n_v vs 8)) (v_iv (n_v vs 10)) (v_iv (n_v vs 12)) (w_ei ws (w_ar ws (n_v vs 0) 52)) (w_ei ws (w_ar ws (n_v vs 0) 46)) (w_ei ws (w_ar ws (n_v vs 0) 33)) (w_ei ws (w_ar ws (n_v vs 0) 34)) (w_fi ws (n_v vs 0) 31) (w_fi ws (n_v vs 0) 32) (w_ei ws (w_ar ws (n_v vs 0) 35)) (w_ei ws (w_ar ws (n_v vs 0) 117)) (w_fi ws (n_v vs 0) 125) (w_fi ws (n_v vs 0) 49) (w_ei ws (w_ar ws (n_v vs 0) 42)) (w_ei ws (w_ar ws (n_v vs 0) 43)) (w_ei ws (w_ar ws (n_v vs 0) 44)) (w_fi ws (n_v vs 0) 45) (v_iv (Value.int x)) k1 k2 k3 k5 k6 k8 k10 k12 d0 d1 d2 d3 d4 f0 f1 h2 h4 f6 f7 f8 f9 f10 f11 f12 f13 f14 f15 f16 f17 f18 f19 f20 f21 f22 hK_0_33 hK_0_34 hK_0_35 hK_0_42 hK_0_43 hK_0_44 hK_0_46 hK_0_52 hK_0_117 kz_0_31 kz_0_32 kz_0_45 kz_0_49 kz_0_125 ex2 ex3
  have nf8 : fc_1 PRD (20, [0], [50, 2, 0, 125, 31, 0, 7, 4, 3, 2, 0, 125, 0, 1, 2, 0, 31]) ws (vs ++ [Value.int x]) := by
    refine ⟨nf_inA hl rfl, sgq_1752 ?_⟩
    · show (w_fi ws (n_v (vs ++ [Value.int x]) 0) 125 + 1) ≤ w_fi ws (n_v (vs ++ [Value.int x]) 0) 31
      rw [e_0]
      exact vc_Mo_stOrder_28_8 (v_iv (n_v vs 1)) (v_iv (n_v vs 2)) (v_iv (n_v vs 3)) (v_iv (n_v vs 5)) (v_iv (n_v vs 6)) (v_iv (n_v vs 8)) (v_iv (n_v vs 10)) (v_iv (n_v vs 12)) (w_ei ws (w_ar ws (n_v vs 0) 52)) (w_ei ws (w_ar ws (n_v vs 0) 46)) (w_ei ws (w_ar ws (n_v vs 0) 33)) (w_ei ws (w_ar ws (n_v vs 0) 34)) (w_fi ws (n_v vs 0) 31) (w_fi ws (n_v vs 0) 32) (w_ei ws (w_ar ws (n_v vs 0) 35)) (w_ei ws (w_ar ws (n_v vs 0) 117)) (w_fi ws (n_v vs 0) 125) (w_fi ws (n_v vs 0) 49) (w_ei ws (w_ar ws (n_v vs 0) 42)) (w_ei ws (w_ar ws (n_v vs 0) 43)) (w_ei ws (w_ar ws (n_v vs 0) 44)) (w_fi ws (n_v vs 0) 45) (v_iv (Value.int x)) k1 k2 k3 k5 k6 k8 k10 k12 d0 d1 d2 d3 d4 f0 f1 h2 h4 f6 f7 f8 f9 f10 f11 f12 f13 f14 f15 f16 f17 f18 f19 f20 f21 f22 hK_0_33 hK_0_34 hK_0_35 hK_0_42 hK_0_43 hK_0_44 hK_0_46 hK_0_52 hK_0_117 kz_0_31 kz_0_32 kz_0_45 kz_0_49 kz_0_125 ex2 ex3
  have nf9 : fc_1 PRD (20, [0, 1, 2, 12], [60, 3, 6, 306, 31, 32, 49, 33, 34, 43, 44, 42, 52]) ws (vs ++ [Value.int x]) := by
    refine ⟨nf_inA hl rfl, sgq_1761 ?_⟩
    · show SB1 (w_fi ws (n_v (vs ++ [Value.int x]) 0) 31) (w_fi ws (n_v (vs ++ [Value.int x]) 0) 32) (w_fi ws (n_v (vs ++ [Value.int x]) 0) 49) (w_ei ws (w_ar ws (n_v (vs ++ [Value.int x]) 0) 33)) (w_ei ws (w_ar ws (n_v (vs ++ [Value.int x]) 0) 34)) (w_ei ws (w_ar ws (n_v (vs ++ [Value.int x]) 0) 43)) (w_ei ws (w_ar ws (n_v (vs ++ [Value.int x]) 0) 44)) (w_ei ws (w_ar ws (n_v (vs ++ [Value.int x]) 0) 42)) (w_ei ws (w_ar ws (n_v (vs ++ [Value.int x]) 0) 52)) (v_iv (n_v (vs ++ [Value.int x]) 1)) (v_iv (n_v (vs ++ [Value.int x]) 2)) (v_iv (n_v (vs ++ [Value.int x]) 12))
      simp only [e_0, e_1, e_2, e_12]
      exact vc_Mo_stOrder_28_9 (v_iv (n_v vs 1)) (v_iv (n_v vs 2)) (v_iv (n_v vs 3)) (v_iv (n_v vs 5)) (v_iv (n_v vs 6)) (v_iv (n_v vs 8)) (v_iv (n_v vs 10)) (v_iv (n_v vs 12)) (w_ei ws (w_ar ws (n_v vs 0) 52)) (w_ei ws (w_ar ws (n_v vs 0) 46)) (w_ei ws (w_ar ws (n_v vs 0) 33)) (w_ei ws (w_ar ws (n_v vs 0) 34)) (w_fi ws (n_v vs 0) 31) (w_fi ws (n_v vs 0) 32) (w_ei ws (w_ar ws (n_v vs 0) 35)) (w_ei ws (w_ar ws (n_v vs 0) 117)) (w_fi ws (n_v vs 0) 125) (w_fi ws (n_v vs 0) 49) (w_ei ws (w_ar ws (n_v vs 0) 42)) (w_ei ws (w_ar ws (n_v vs 0) 43)) (w_ei ws (w_ar ws (n_v vs 0) 44)) (w_fi ws (n_v vs 0) 45) (v_iv (Value.int x)) k1 k2 k3 k5 k6 k8 k10 k12 d0 d1 d2 d3 d4 f0 f1 h2 h4 f6 f7 f8 f9 f10 f11 f12 f13 f14 f15 f16 f17 f18 f19 f20 f21 f22 hK_0_33 hK_0_34 hK_0_35 hK_0_42 hK_0_43 hK_0_44 hK_0_46 hK_0_52 hK_0_117 kz_0_31 kz_0_32 kz_0_45 kz_0_49 kz_0_125 ex2 ex3
  have nf10 : fc_1 PRD (20, [2, 0], [30, -1, 1, 0, 0, -1, 1, 31]) ws (vs ++ [Value.int x]) := by
    refine ⟨nf_inA hl rfl, sgq_553 ?_⟩
    · show 1 * v_iv (n_v (vs ++ [Value.int x]) 2) + ((-1) * w_fi ws (n_v (vs ++ [Value.int x]) 0) 31 + 0) ≤ (-1)
      simp only [e_0, e_2]
      exact vc_Mo_stOrder_28_10 (v_iv (n_v vs 1)) (v_iv (n_v vs 2)) (v_iv (n_v vs 3)) (v_iv (n_v vs 5)) (v_iv (n_v vs 6)) (v_iv (n_v vs 8)) (v_iv (n_v vs 10)) (v_iv (n_v vs 12)) (w_ei ws (w_ar ws (n_v vs 0) 52)) (w_ei ws (w_ar ws (n_v vs 0) 46)) (w_ei ws (w_ar ws (n_v vs 0) 33)) (w_ei ws (w_ar ws (n_v vs 0) 34)) (w_fi ws (n_v vs 0) 31) (w_fi ws (n_v vs 0) 32) (w_ei ws (w_ar ws (n_v vs 0) 35)) (w_ei ws (w_ar ws (n_v vs 0) 117)) (w_fi ws (n_v vs 0) 125) (w_fi ws (n_v vs 0) 49) (w_ei ws (w_ar ws (n_v vs 0) 42)) (w_ei ws (w_ar ws (n_v vs 0) 43)) (w_ei ws (w_ar ws (n_v vs 0) 44)) (w_fi ws (n_v vs 0) 45) (v_iv (Value.int x)) k1 k2 k3 k5 k6 k8 k10 k12 d0 d1 d2 d3 d4 f0 f1 h2 h4 f6 f7 f8 f9 f10 f11 f12 f13 f14 f15 f16 f17 f18 f19 f20 f21 f22 hK_0_33 hK_0_34 hK_0_35 hK_0_42 hK_0_43 hK_0_44 hK_0_46 hK_0_52 hK_0_117 kz_0_31 kz_0_32 kz_0_45 kz_0_49 kz_0_125 ex2 ex3
  have nf11 : fc_1 PRD (20, [0, 2], [50, 0, 1, 42, 7, 5, 3, 0, 42, 1, 1, 0, 0]) ws (vs ++ [Value.int x]) := by
    refine ⟨nf_inA hl rfl, sgq_1762 ?_⟩
    · show w_ei ws (w_ar ws (n_v (vs ++ [Value.int x]) 0) 42) (v_iv (n_v (vs ++ [Value.int x]) 2)) ≠ 0
      simp only [e_0, e_2]
      exact vc_Mo_stOrder_28_11 (v_iv (n_v vs 1)) (v_iv (n_v vs 2)) (v_iv (n_v vs 3)) (v_iv (n_v vs 5)) (v_iv (n_v vs 6)) (v_iv (n_v vs 8)) (v_iv (n_v vs 10)) (v_iv (n_v vs 12)) (w_ei ws (w_ar ws (n_v vs 0) 52)) (w_ei ws (w_ar ws (n_v vs 0) 46)) (w_ei ws (w_ar ws (n_v vs 0) 33)) (w_ei ws (w_ar ws (n_v vs 0) 34)) (w_fi ws (n_v vs 0) 31) (w_fi ws (n_v vs 0) 32) (w_ei ws (w_ar ws (n_v vs 0) 35)) (w_ei ws (w_ar ws (n_v vs 0) 117)) (w_fi ws (n_v vs 0) 125) (w_fi ws (n_v vs 0) 49) (w_ei ws (w_ar ws (n_v vs 0) 42)) (w_ei ws (w_ar ws (n_v vs 0) 43)) (w_ei ws (w_ar ws (n_v vs 0) 44)) (w_fi ws (n_v vs 0) 45) (v_iv (Value.int x)) k1 k2 k3 k5 k6 k8 k10 k12 d0 d1 d2 d3 d4 f0 f1 h2 h4 f6 f7 f8 f9 f10 f11 f12 f13 f14 f15 f16 f17 f18 f19 f20 f21 f22 hK_0_33 hK_0_34 hK_0_35 hK_0_42 hK_0_43 hK_0_44 hK_0_46 hK_0_52 hK_0_117 kz_0_31 kz_0_32 kz_0_45 kz_0_49 kz_0_125 ex2 ex3
  obtain ⟨x0, e0, _, _⟩ := tv_int t6 rfl
  have e1 : v_iv (n_v vs 6) = x0.toInt := by rw [e0]; rfl
  have ho : sy_ofs (vs ++ [Value.int x]) (13, 6, 0, 0) := by
    refine ⟨x, x0, by rw [List.getElem?_append_right (by rw [hl]; decide), hl]; rfl, ?_, ?_, ?_⟩
    · rw [List.getElem?_append_left (by rw [hl]; decide)]; exact n_v_some (by rw [hl]; decide) e0
    · show x0.toInt + 0 ≤ x.toInt; omega
    · show x.toInt ≤ x0.toInt + 0; omega
  exact ⟨(fun _ h => (by cases h)), [Value.int x], ag_one hx, List.forall_mem_cons.mpr ⟨⟨show (20 : Nat) < 100 from by decide, nf0⟩, List.forall_mem_cons.mpr ⟨⟨show (20 : Nat) < 100 from by decide, nf1⟩, List.forall_mem_cons.mpr ⟨⟨show (20 : Nat) < 100 from by decide, nf2⟩, List.forall_mem_cons.mpr ⟨⟨show (20 : Nat) < 100 from by decide, nf3⟩, List.forall_mem_cons.mpr ⟨⟨show (20 : Nat) < 100 from by decide, nf4⟩, List.forall_mem_cons.mpr ⟨⟨show (20 : Nat) < 100 from by decide, nf5⟩, List.forall_mem_cons.mpr ⟨⟨show (20 : Nat) < 100 from by decide, nf6⟩, List.forall_mem_cons.mpr ⟨⟨show (20 : Nat) < 100 from by decide, nf7⟩, List.forall_mem_cons.mpr ⟨⟨show (20 : Nat) < 100 from by decide, nf8⟩, List.forall_mem_cons.mpr ⟨⟨show (20 : Nat) < 100 from by decide, nf9⟩, List.forall_mem_cons.mpr ⟨⟨show (20 : Nat) < 100 from by decide, nf10⟩, List.forall_mem_cons.mpr ⟨⟨show (20 : Nat) < 100 from by decide, nf11⟩, (fun _ h => (by cases h))⟩⟩⟩⟩⟩⟩⟩⟩⟩⟩⟩⟩, List.forall_mem_cons.mpr ⟨ho, (fun _ h => (by cases h))⟩⟩
set_option maxHeartbeats 4000000 in
theorem vc_Mo_stOrder_29_0 (x1 : Int) (x2 : Int) (x3 : Int) (x5 : Int) (x6 : Int) (x8 : Int) (x10 : Int) (x12 : Int) (x13 : Int) (wayMany_0 : Int) (bestWay_0 : Int → Int) (way_0 : Int → Int) (pt_0 : Int → Int) (ph_0 : Int → Int) (pn_0 : Int) (pm_0 : Int) (alive_0 : Int → Int) (row_0 : Int → Int) (rowMany_0 : Int) (onlyPiece_0 : Int) (drawnNode_0 : Int → Int) (drawnEdge_0 : Int → Int) (pieceOf_0 : Int → Int) (gx : Int) (k1 : 2 ≤ x1 ∧ x1 ≤ 29) (k2 : 0 ≤ x2 ∧ x2 ≤ 24) (k3 : 0 ≤ x3 ∧ x3 ≤ 24) (k5 : 2 ≤ x5 ∧ x5 ≤ 29) (k6 : (-2) ≤ x6 ∧ x6 ≤ 26) (k8 : 0 ≤ x8 ∧ x8 ≤ 23) (k10 : 1 ≤ x10 ∧ x10 ≤ 24) (k12 : 0 ≤ x12 ∧ x12 ≤ 30) (k13 : 0 ≤ x13 ∧ x13 ≤ 0) (d0 : x10 + (-4294967296) ≤ x8 ∧ x8 ≤ x10 + (-1)) (d1 : x1 + (-4294967296) ≤ x5 ∧ x5 ≤ x1 + (-1)) (d2 : x1 + 0 ≤ x5 ∧ x5 ≤ x1 + 4294967296) (d3 : x1 + (-4294967296) ≤ x5 ∧ x5 ≤ x1 + 0) (g0 : x12 = wayMany_0) (f1 : x8 < x10) (h2 : x10 = bestWay_0 (x5)) (h4 : x8 = way_0 (x5)) (f6 : x5 < x1) (f7 : x1 ≤ x5) (f8 : GOK (pn_0) (pm_0) (pt_0) (ph_0)) (f9 : STB (pn_0) (pm_0) (pt_0) (ph_0) (alive_0)) (f10 : STR (pn_0) (rowMany_0) (pt_0) (ph_0) (row_0)) (f11 : onlyPiece_0 = (-1)) (f12 : (-1) * rowMany_0 + ((-1) * x6 + 0) ≤ (-26)) (f13 : DRR (pn_0) (rowMany_0) (drawnNode_0) (row_0)) (f14 : DEM (pm_0) (pt_0) (ph_0) (drawnNode_0) (drawnEdge_0)) (f15 : UA (pm_0) (alive_0) (drawnEdge_0)) (f16 : (rowMany_0 + 1) ≤ pn_0) (f17 : SB1 (pn_0) (pm_0) (onlyPiece_0) (pt_0) (ph_0) (drawnEdge_0) (pieceOf_0) (drawnNode_0) (bestWay_0) (x1) (x2) (x3)) (f18 : WYM (pn_0) (wayMany_0) (drawnNode_0) (way_0)) (f19 : 1 * x2 + ((-1) * pn_0 + 0) ≤ (-1)) (f20 : 1 * x3 + ((-1) * pn_0 + 0) ≤ (-1)) (f21 : drawnNode_0 (x2) ≠ 0) (f22 : x1 = wayMany_0) (hK_0_33 : ∀ j : Int, 0 ≤ j → j < 80 → 0 ≤ pt_0 j ∧ pt_0 j ≤ 24) (hK_0_34 : ∀ j : Int, 0 ≤ j → j < 80 → 0 ≤ ph_0 j ∧ ph_0 j ≤ 24) (hK_0_35 : ∀ j : Int, 0 ≤ j → j < 80 → 0 ≤ alive_0 j ∧ alive_0 j ≤ 1) (hK_0_42 : ∀ j : Int, 0 ≤ j → j < 26 → 0 ≤ drawnNode_0 j ∧ drawnNode_0 j ≤ 1) (hK_0_43 : ∀ j : Int, 0 ≤ j → j < 80 → 0 ≤ drawnEdge_0 j ∧ drawnEdge_0 j ≤ 1) (hK_0_44 : ∀ j : Int, 0 ≤ j → j < 80 → (-1) ≤ pieceOf_0 j ∧ pieceOf_0 j ≤ 79) (hK_0_46 : ∀ j : Int, 0 ≤ j → j < 30 → 0 ≤ way_0 j ∧ way_0 j ≤ 24) (hK_0_52 : ∀ j : Int, 0 ≤ j → j < 30 → 0 ≤ bestWay_0 j ∧ bestWay_0 j ≤ 24) (hK_0_117 : ∀ j : Int, 0 ≤ j → j < 100 → 0 ≤ row_0 j ∧ row_0 j ≤ 75) (kz_0_31 : 0 ≤ pn_0 ∧ pn_0 ≤ 25) (kz_0_32 : 0 ≤ pm_0 ∧ pm_0 ≤ 80) (kz_0_45 : 0 ≤ wayMany_0 ∧ wayMany_0 ≤ 30) (kz_0_49 : (-1) ≤ onlyPiece_0 ∧ onlyPiece_0 ≤ 79) (kz_0_125 : 0 ≤ rowMany_0 ∧ rowMany_0 ≤ 100) (ex2 : gx = 0 + (1 * x6 + 0)) (ex3 : (-2) ≤ gx ∧ gx ≤ 26) : GOK (pn_0) (pm_0) (pt_0) (ph_0) := by
  first
    | assumption
    | exact ‹STB _ _ _ _ _›.1.1
set_option maxHeartbeats 4000000 in
theorem vc_Mo_stOrder_29_1 (x1 : Int) (x2 : Int) (x3 : Int) (x5 : Int) (x6 : Int) (x8 : Int) (x10 : Int) (x12 : Int) (x13 : Int) (wayMany_0 : Int) (bestWay_0 : Int → Int) (way_0 : Int → Int) (pt_0 : Int → Int) (ph_0 : Int → Int) (pn_0 : Int) (pm_0 : Int) (alive_0 : Int → Int) (row_0 : Int → Int) (rowMany_0 : Int) (onlyPiece_0 : Int) (drawnNode_0 : Int → Int) (drawnEdge_0 : Int → Int) (pieceOf_0 : Int → Int) (gx : Int) (k1 : 2 ≤ x1 ∧ x1 ≤ 29) (k2 : 0 ≤ x2 ∧ x2 ≤ 24) (k3 : 0 ≤ x3 ∧ x3 ≤ 24) (k5 : 2 ≤ x5 ∧ x5 ≤ 29) (k6 : (-2) ≤ x6 ∧ x6 ≤ 26) (k8 : 0 ≤ x8 ∧ x8 ≤ 23) (k10 : 1 ≤ x10 ∧ x10 ≤ 24) (k12 : 0 ≤ x12 ∧ x12 ≤ 30) (k13 : 0 ≤ x13 ∧ x13 ≤ 0) (d0 : x10 + (-4294967296) ≤ x8 ∧ x8 ≤ x10 + (-1)) (d1 : x1 + (-4294967296) ≤ x5 ∧ x5 ≤ x1 + (-1)) (d2 : x1 + 0 ≤ x5 ∧ x5 ≤ x1 + 4294967296) (d3 : x1 + (-4294967296) ≤ x5 ∧ x5 ≤ x1 + 0) (g0 : x12 = wayMany_0) (f1 : x8 < x10) (h2 : x10 = bestWay_0 (x5)) (h4 : x8 = way_0 (x5)) (f6 : x5 < x1) (f7 : x1 ≤ x5) (f8 : GOK (pn_0) (pm_0) (pt_0) (ph_0)) (f9 : STB (pn_0) (pm_0) (pt_0) (ph_0) (alive_0)) (f10 : STR (pn_0) (rowMany_0) (pt_0) (ph_0) (row_0)) (f11 : onlyPiece_0 = (-1)) (f12 : (-1) * rowMany_0 + ((-1) * x6 + 0) ≤ (-26)) (f13 : DRR (pn_0) (rowMany_0) (drawnNode_0) (row_0)) (f14 : DEM (pm_0) (pt_0) (ph_0) (drawnNode_0) (drawnEdge_0)) (f15 : UA (pm_0) (alive_0) (drawnEdge_0)) (f16 : (rowMany_0 + 1) ≤ pn_0) (f17 : SB1 (pn_0) (pm_0) (onlyPiece_0) (pt_0) (ph_0) (drawnEdge_0) (pieceOf_0) (drawnNode_0) (bestWay_0) (x1) (x2) (x3)) (f18 : WYM (pn_0) (wayMany_0) (drawnNode_0) (way_0)) (f19 : 1 * x2 + ((-1) * pn_0 + 0) ≤ (-1)) (f20 : 1 * x3 + ((-1) * pn_0 + 0) ≤ (-1)) (f21 : drawnNode_0 (x2) ≠ 0) (f22 : x1 = wayMany_0) (hK_0_33 : ∀ j : Int, 0 ≤ j → j < 80 → 0 ≤ pt_0 j ∧ pt_0 j ≤ 24) (hK_0_34 : ∀ j : Int, 0 ≤ j → j < 80 → 0 ≤ ph_0 j ∧ ph_0 j ≤ 24) (hK_0_35 : ∀ j : Int, 0 ≤ j → j < 80 → 0 ≤ alive_0 j ∧ alive_0 j ≤ 1) (hK_0_42 : ∀ j : Int, 0 ≤ j → j < 26 → 0 ≤ drawnNode_0 j ∧ drawnNode_0 j ≤ 1) (hK_0_43 : ∀ j : Int, 0 ≤ j → j < 80 → 0 ≤ drawnEdge_0 j ∧ drawnEdge_0 j ≤ 1) (hK_0_44 : ∀ j : Int, 0 ≤ j → j < 80 → (-1) ≤ pieceOf_0 j ∧ pieceOf_0 j ≤ 79) (hK_0_46 : ∀ j : Int, 0 ≤ j → j < 30 → 0 ≤ way_0 j ∧ way_0 j ≤ 24) (hK_0_52 : ∀ j : Int, 0 ≤ j → j < 30 → 0 ≤ bestWay_0 j ∧ bestWay_0 j ≤ 24) (hK_0_117 : ∀ j : Int, 0 ≤ j → j < 100 → 0 ≤ row_0 j ∧ row_0 j ≤ 75) (kz_0_31 : 0 ≤ pn_0 ∧ pn_0 ≤ 25) (kz_0_32 : 0 ≤ pm_0 ∧ pm_0 ≤ 80) (kz_0_45 : 0 ≤ wayMany_0 ∧ wayMany_0 ≤ 30) (kz_0_49 : (-1) ≤ onlyPiece_0 ∧ onlyPiece_0 ≤ 79) (kz_0_125 : 0 ≤ rowMany_0 ∧ rowMany_0 ≤ 100) (ex2 : gx = 0 + (1 * x6 + 0)) (ex3 : (-2) ≤ gx ∧ gx ≤ 26) : STB (pn_0) (pm_0) (pt_0) (ph_0) (alive_0) := by
  first | assumption
set_option maxHeartbeats 4000000 in
theorem vc_Mo_stOrder_29_2 (x1 : Int) (x2 : Int) (x3 : Int) (x5 : Int) (x6 : Int) (x8 : Int) (x10 : Int) (x12 : Int) (x13 : Int) (wayMany_0 : Int) (bestWay_0 : Int → Int) (way_0 : Int → Int) (pt_0 : Int → Int) (ph_0 : Int → Int) (pn_0 : Int) (pm_0 : Int) (alive_0 : Int → Int) (row_0 : Int → Int) (rowMany_0 : Int) (onlyPiece_0 : Int) (drawnNode_0 : Int → Int) (drawnEdge_0 : Int → Int) (pieceOf_0 : Int → Int) (gx : Int) (k1 : 2 ≤ x1 ∧ x1 ≤ 29) (k2 : 0 ≤ x2 ∧ x2 ≤ 24) (k3 : 0 ≤ x3 ∧ x3 ≤ 24) (k5 : 2 ≤ x5 ∧ x5 ≤ 29) (k6 : (-2) ≤ x6 ∧ x6 ≤ 26) (k8 : 0 ≤ x8 ∧ x8 ≤ 23) (k10 : 1 ≤ x10 ∧ x10 ≤ 24) (k12 : 0 ≤ x12 ∧ x12 ≤ 30) (k13 : 0 ≤ x13 ∧ x13 ≤ 0) (d0 : x10 + (-4294967296) ≤ x8 ∧ x8 ≤ x10 + (-1)) (d1 : x1 + (-4294967296) ≤ x5 ∧ x5 ≤ x1 + (-1)) (d2 : x1 + 0 ≤ x5 ∧ x5 ≤ x1 + 4294967296) (d3 : x1 + (-4294967296) ≤ x5 ∧ x5 ≤ x1 + 0) (g0 : x12 = wayMany_0) (f1 : x8 < x10) (h2 : x10 = bestWay_0 (x5)) (h4 : x8 = way_0 (x5)) (f6 : x5 < x1) (f7 : x1 ≤ x5) (f8 : GOK (pn_0) (pm_0) (pt_0) (ph_0)) (f9 : STB (pn_0) (pm_0) (pt_0) (ph_0) (alive_0)) (f10 : STR (pn_0) (rowMany_0) (pt_0) (ph_0) (row_0)) (f11 : onlyPiece_0 = (-1)) (f12 : (-1) * rowMany_0 + ((-1) * x6 + 0) ≤ (-26)) (f13 : DRR (pn_0) (rowMany_0) (drawnNode_0) (row_0)) (f14 : DEM (pm_0) (pt_0) (ph_0) (drawnNode_0) (drawnEdge_0)) (f15 : UA (pm_0) (alive_0) (drawnEdge_0)) (f16 : (rowMany_0 + 1) ≤ pn_0) (f17 : SB1 (pn_0) (pm_0) (onlyPiece_0) (pt_0) (ph_0) (drawnEdge_0) (pieceOf_0) (drawnNode_0) (bestWay_0) (x1) (x2) (x3)) (f18 : WYM (pn_0) (wayMany_0) (drawnNode_0) (way_0)) (f19 : 1 * x2 + ((-1) * pn_0 + 0) ≤ (-1)) (f20 : 1 * x3 + ((-1) * pn_0 + 0) ≤ (-1)) (f21 : drawnNode_0 (x2) ≠ 0) (f22 : x1 = wayMany_0) (hK_0_33 : ∀ j : Int, 0 ≤ j → j < 80 → 0 ≤ pt_0 j ∧ pt_0 j ≤ 24) (hK_0_34 : ∀ j : Int, 0 ≤ j → j < 80 → 0 ≤ ph_0 j ∧ ph_0 j ≤ 24) (hK_0_35 : ∀ j : Int, 0 ≤ j → j < 80 → 0 ≤ alive_0 j ∧ alive_0 j ≤ 1) (hK_0_42 : ∀ j : Int, 0 ≤ j → j < 26 → 0 ≤ drawnNode_0 j ∧ drawnNode_0 j ≤ 1) (hK_0_43 : ∀ j : Int, 0 ≤ j → j < 80 → 0 ≤ drawnEdge_0 j ∧ drawnEdge_0 j ≤ 1) (hK_0_44 : ∀ j : Int, 0 ≤ j → j < 80 → (-1) ≤ pieceOf_0 j ∧ pieceOf_0 j ≤ 79) (hK_0_46 : ∀ j : Int, 0 ≤ j → j < 30 → 0 ≤ way_0 j ∧ way_0 j ≤ 24) (hK_0_52 : ∀ j : Int, 0 ≤ j → j < 30 → 0 ≤ bestWay_0 j ∧ bestWay_0 j ≤ 24) (hK_0_117 : ∀ j : Int, 0 ≤ j → j < 100 → 0 ≤ row_0 j ∧ row_0 j ≤ 75) (kz_0_31 : 0 ≤ pn_0 ∧ pn_0 ≤ 25) (kz_0_32 : 0 ≤ pm_0 ∧ pm_0 ≤ 80) (kz_0_45 : 0 ≤ wayMany_0 ∧ wayMany_0 ≤ 30) (kz_0_49 : (-1) ≤ onlyPiece_0 ∧ onlyPiece_0 ≤ 79) (kz_0_125 : 0 ≤ rowMany_0 ∧ rowMany_0 ≤ 100) (ex2 : gx = 0 + (1 * x6 + 0)) (ex3 : (-2) ≤ gx ∧ gx ≤ 26) : STR (pn_0) (rowMany_0) (pt_0) (ph_0) (row_0) := by
  first | assumption
set_option maxHeartbeats 4000000 in
theorem vc_Mo_stOrder_29_3 (x1 : Int) (x2 : Int) (x3 : Int) (x5 : Int) (x6 : Int) (x8 : Int) (x10 : Int) (x12 : Int) (x13 : Int) (wayMany_0 : Int) (bestWay_0 : Int → Int) (way_0 : Int → Int) (pt_0 : Int → Int) (ph_0 : Int → Int) (pn_0 : Int) (pm_0 : Int) (alive_0 : Int → Int) (row_0 : Int → Int) (rowMany_0 : Int) (onlyPiece_0 : Int) (drawnNode_0 : Int → Int) (drawnEdge_0 : Int → Int) (pieceOf_0 : Int → Int) (gx : Int) (k1 : 2 ≤ x1 ∧ x1 ≤ 29) (k2 : 0 ≤ x2 ∧ x2 ≤ 24) (k3 : 0 ≤ x3 ∧ x3 ≤ 24) (k5 : 2 ≤ x5 ∧ x5 ≤ 29) (k6 : (-2) ≤ x6 ∧ x6 ≤ 26) (k8 : 0 ≤ x8 ∧ x8 ≤ 23) (k10 : 1 ≤ x10 ∧ x10 ≤ 24) (k12 : 0 ≤ x12 ∧ x12 ≤ 30) (k13 : 0 ≤ x13 ∧ x13 ≤ 0) (d0 : x10 + (-4294967296) ≤ x8 ∧ x8 ≤ x10 + (-1)) (d1 : x1 + (-4294967296) ≤ x5 ∧ x5 ≤ x1 + (-1)) (d2 : x1 + 0 ≤ x5 ∧ x5 ≤ x1 + 4294967296) (d3 : x1 + (-4294967296) ≤ x5 ∧ x5 ≤ x1 + 0) (g0 : x12 = wayMany_0) (f1 : x8 < x10) (h2 : x10 = bestWay_0 (x5)) (h4 : x8 = way_0 (x5)) (f6 : x5 < x1) (f7 : x1 ≤ x5) (f8 : GOK (pn_0) (pm_0) (pt_0) (ph_0)) (f9 : STB (pn_0) (pm_0) (pt_0) (ph_0) (alive_0)) (f10 : STR (pn_0) (rowMany_0) (pt_0) (ph_0) (row_0)) (f11 : onlyPiece_0 = (-1)) (f12 : (-1) * rowMany_0 + ((-1) * x6 + 0) ≤ (-26)) (f13 : DRR (pn_0) (rowMany_0) (drawnNode_0) (row_0)) (f14 : DEM (pm_0) (pt_0) (ph_0) (drawnNode_0) (drawnEdge_0)) (f15 : UA (pm_0) (alive_0) (drawnEdge_0)) (f16 : (rowMany_0 + 1) ≤ pn_0) (f17 : SB1 (pn_0) (pm_0) (onlyPiece_0) (pt_0) (ph_0) (drawnEdge_0) (pieceOf_0) (drawnNode_0) (bestWay_0) (x1) (x2) (x3)) (f18 : WYM (pn_0) (wayMany_0) (drawnNode_0) (way_0)) (f19 : 1 * x2 + ((-1) * pn_0 + 0) ≤ (-1)) (f20 : 1 * x3 + ((-1) * pn_0 + 0) ≤ (-1)) (f21 : drawnNode_0 (x2) ≠ 0) (f22 : x1 = wayMany_0) (hK_0_33 : ∀ j : Int, 0 ≤ j → j < 80 → 0 ≤ pt_0 j ∧ pt_0 j ≤ 24) (hK_0_34 : ∀ j : Int, 0 ≤ j → j < 80 → 0 ≤ ph_0 j ∧ ph_0 j ≤ 24) (hK_0_35 : ∀ j : Int, 0 ≤ j → j < 80 → 0 ≤ alive_0 j ∧ alive_0 j ≤ 1) (hK_0_42 : ∀ j : Int, 0 ≤ j → j < 26 → 0 ≤ drawnNode_0 j ∧ drawnNode_0 j ≤ 1) (hK_0_43 : ∀ j : Int, 0 ≤ j → j < 80 → 0 ≤ drawnEdge_0 j ∧ drawnEdge_0 j ≤ 1) (hK_0_44 : ∀ j : Int, 0 ≤ j → j < 80 → (-1) ≤ pieceOf_0 j ∧ pieceOf_0 j ≤ 79) (hK_0_46 : ∀ j : Int, 0 ≤ j → j < 30 → 0 ≤ way_0 j ∧ way_0 j ≤ 24) (hK_0_52 : ∀ j : Int, 0 ≤ j → j < 30 → 0 ≤ bestWay_0 j ∧ bestWay_0 j ≤ 24) (hK_0_117 : ∀ j : Int, 0 ≤ j → j < 100 → 0 ≤ row_0 j ∧ row_0 j ≤ 75) (kz_0_31 : 0 ≤ pn_0 ∧ pn_0 ≤ 25) (kz_0_32 : 0 ≤ pm_0 ∧ pm_0 ≤ 80) (kz_0_45 : 0 ≤ wayMany_0 ∧ wayMany_0 ≤ 30) (kz_0_49 : (-1) ≤ onlyPiece_0 ∧ onlyPiece_0 ≤ 79) (kz_0_125 : 0 ≤ rowMany_0 ∧ rowMany_0 ≤ 100) (ex2 : gx = 0 + (1 * x6 + 0)) (ex3 : (-2) ≤ gx ∧ gx ≤ 26) : onlyPiece_0 = (-1) := by
  first
    | omega
    | (have h := ‹STB _ _ _ _ _›.1.2.2; omega)
    | (have h := ‹STR _ _ _ _ _›.1; omega)
    | (have h := ‹STR _ _ _ _ _›.1
       have w := ‹STR _ _ _ _ _›.2.1 x1 (by omega) (by omega)
       omega)
    | (have h := bc_len ‹BC1 _ _ _ _ _ _ _›
       have h2 := ‹STR _ _ _ _ _›.1
       omega)
    | (have h := (sb_way ‹SB1 _ _ _ _ _ _ _ _ _ _ _ _› (by omega)).1
       have h2 := ‹STR _ _ _ _ _›.1
       omega)
    | (have h := ‹WYM _ _ _ _›.1
       have h2 := ‹STR _ _ _ _ _›.1
       omega)
set_option maxHeartbeats 4000000 in
theorem vc_Mo_stOrder_29_4 (x1 : Int) (x2 : Int) (x3 : Int) (x5 : Int) (x6 : Int) (x8 : Int) (x10 : Int) (x12 : Int) (x13 : Int) (wayMany_0 : Int) (bestWay_0 : Int → Int) (way_0 : Int → Int) (pt_0 : Int → Int) (ph_0 : Int → Int) (pn_0 : Int) (pm_0 : Int) (alive_0 : Int → Int) (row_0 : Int → Int) (rowMany_0 : Int) (onlyPiece_0 : Int) (drawnNode_0 : Int → Int) (drawnEdge_0 : Int → Int) (pieceOf_0 : Int → Int) (gx : Int) (k1 : 2 ≤ x1 ∧ x1 ≤ 29) (k2 : 0 ≤ x2 ∧ x2 ≤ 24) (k3 : 0 ≤ x3 ∧ x3 ≤ 24) (k5 : 2 ≤ x5 ∧ x5 ≤ 29) (k6 : (-2) ≤ x6 ∧ x6 ≤ 26) (k8 : 0 ≤ x8 ∧ x8 ≤ 23) (k10 : 1 ≤ x10 ∧ x10 ≤ 24) (k12 : 0 ≤ x12 ∧ x12 ≤ 30) (k13 : 0 ≤ x13 ∧ x13 ≤ 0) (d0 : x10 + (-4294967296) ≤ x8 ∧ x8 ≤ x10 + (-1)) (d1 : x1 + (-4294967296) ≤ x5 ∧ x5 ≤ x1 + (-1)) (d2 : x1 + 0 ≤ x5 ∧ x5 ≤ x1 + 4294967296) (d3 : x1 + (-4294967296) ≤ x5 ∧ x5 ≤ x1 + 0) (g0 : x12 = wayMany_0) (f1 : x8 < x10) (h2 : x10 = bestWay_0 (x5)) (h4 : x8 = way_0 (x5)) (f6 : x5 < x1) (f7 : x1 ≤ x5) (f8 : GOK (pn_0) (pm_0) (pt_0) (ph_0)) (f9 : STB (pn_0) (pm_0) (pt_0) (ph_0) (alive_0)) (f10 : STR (pn_0) (rowMany_0) (pt_0) (ph_0) (row_0)) (f11 : onlyPiece_0 = (-1)) (f12 : (-1) * rowMany_0 + ((-1) * x6 + 0) ≤ (-26)) (f13 : DRR (pn_0) (rowMany_0) (drawnNode_0) (row_0)) (f14 : DEM (pm_0) (pt_0) (ph_0) (drawnNode_0) (drawnEdge_0)) (f15 : UA (pm_0) (alive_0) (drawnEdge_0)) (f16 : (rowMany_0 + 1) ≤ pn_0) (f17 : SB1 (pn_0) (pm_0) (onlyPiece_0) (pt_0) (ph_0) (drawnEdge_0) (pieceOf_0) (drawnNode_0) (bestWay_0) (x1) (x2) (x3)) (f18 : WYM (pn_0) (wayMany_0) (drawnNode_0) (way_0)) (f19 : 1 * x2 + ((-1) * pn_0 + 0) ≤ (-1)) (f20 : 1 * x3 + ((-1) * pn_0 + 0) ≤ (-1)) (f21 : drawnNode_0 (x2) ≠ 0) (f22 : x1 = wayMany_0) (hK_0_33 : ∀ j : Int, 0 ≤ j → j < 80 → 0 ≤ pt_0 j ∧ pt_0 j ≤ 24) (hK_0_34 : ∀ j : Int, 0 ≤ j → j < 80 → 0 ≤ ph_0 j ∧ ph_0 j ≤ 24) (hK_0_35 : ∀ j : Int, 0 ≤ j → j < 80 → 0 ≤ alive_0 j ∧ alive_0 j ≤ 1) (hK_0_42 : ∀ j : Int, 0 ≤ j → j < 26 → 0 ≤ drawnNode_0 j ∧ drawnNode_0 j ≤ 1) (hK_0_43 : ∀ j : Int, 0 ≤ j → j < 80 → 0 ≤ drawnEdge_0 j ∧ drawnEdge_0 j ≤ 1) (hK_0_44 : ∀ j : Int, 0 ≤ j → j < 80 → (-1) ≤ pieceOf_0 j ∧ pieceOf_0 j ≤ 79) (hK_0_46 : ∀ j : Int, 0 ≤ j → j < 30 → 0 ≤ way_0 j ∧ way_0 j ≤ 24) (hK_0_52 : ∀ j : Int, 0 ≤ j → j < 30 → 0 ≤ bestWay_0 j ∧ bestWay_0 j ≤ 24) (hK_0_117 : ∀ j : Int, 0 ≤ j → j < 100 → 0 ≤ row_0 j ∧ row_0 j ≤ 75) (kz_0_31 : 0 ≤ pn_0 ∧ pn_0 ≤ 25) (kz_0_32 : 0 ≤ pm_0 ∧ pm_0 ≤ 80) (kz_0_45 : 0 ≤ wayMany_0 ∧ wayMany_0 ≤ 30) (kz_0_49 : (-1) ≤ onlyPiece_0 ∧ onlyPiece_0 ≤ 79) (kz_0_125 : 0 ≤ rowMany_0 ∧ rowMany_0 ≤ 100) (ex2 : gx = 0 + (1 * x6 + 0)) (ex3 : (-2) ≤ gx ∧ gx ≤ 26) : (-1) * rowMany_0 + ((-1) * gx + 0) ≤ (-26) := by
  first
    | omega
    | (have h := ‹STB _ _ _ _ _›.1.2.2; omega)
    | (have h := ‹STR _ _ _ _ _›.1; omega)
    | (have h := ‹STR _ _ _ _ _›.1
       have w := ‹STR _ _ _ _ _›.2.1 x1 (by omega) (by omega)
       omega)
    | (have h := bc_len ‹BC1 _ _ _ _ _ _ _›
       have h2 := ‹STR _ _ _ _ _›.1
       omega)
    | (have h := (sb_way ‹SB1 _ _ _ _ _ _ _ _ _ _ _ _› (by omega)).1
       have h2 := ‹STR _ _ _ _ _›.1
       omega)
    | (have h := ‹WYM _ _ _ _›.1
       have h2 := ‹STR _ _ _ _ _›.1
       omega)
set_option maxHeartbeats 4000000 in
theorem vc_Mo_stOrder_29_5 (x1 : Int) (x2 : Int) (x3 : Int) (x5 : Int) (x6 : Int) (x8 : Int) (x10 : Int) (x12 : Int) (x13 : Int) (wayMany_0 : Int) (bestWay_0 : Int → Int) (way_0 : Int → Int) (pt_0 : Int → Int) (ph_0 : Int → Int) (pn_0 : Int) (pm_0 : Int) (alive_0 : Int → Int) (row_0 : Int → Int) (rowMany_0 : Int) (onlyPiece_0 : Int) (drawnNode_0 : Int → Int) (drawnEdge_0 : Int → Int) (pieceOf_0 : Int → Int) (gx : Int) (k1 : 2 ≤ x1 ∧ x1 ≤ 29) (k2 : 0 ≤ x2 ∧ x2 ≤ 24) (k3 : 0 ≤ x3 ∧ x3 ≤ 24) (k5 : 2 ≤ x5 ∧ x5 ≤ 29) (k6 : (-2) ≤ x6 ∧ x6 ≤ 26) (k8 : 0 ≤ x8 ∧ x8 ≤ 23) (k10 : 1 ≤ x10 ∧ x10 ≤ 24) (k12 : 0 ≤ x12 ∧ x12 ≤ 30) (k13 : 0 ≤ x13 ∧ x13 ≤ 0) (d0 : x10 + (-4294967296) ≤ x8 ∧ x8 ≤ x10 + (-1)) (d1 : x1 + (-4294967296) ≤ x5 ∧ x5 ≤ x1 + (-1)) (d2 : x1 + 0 ≤ x5 ∧ x5 ≤ x1 + 4294967296) (d3 : x1 + (-4294967296) ≤ x5 ∧ x5 ≤ x1 + 0) (g0 : x12 = wayMany_0) (f1 : x8 < x10) (h2 : x10 = bestWay_0 (x5)) (h4 : x8 = way_0 (x5)) (f6 : x5 < x1) (f7 : x1 ≤ x5) (f8 : GOK (pn_0) (pm_0) (pt_0) (ph_0)) (f9 : STB (pn_0) (pm_0) (pt_0) (ph_0) (alive_0)) (f10 : STR (pn_0) (rowMany_0) (pt_0) (ph_0) (row_0)) (f11 : onlyPiece_0 = (-1)) (f12 : (-1) * rowMany_0 + ((-1) * x6 + 0) ≤ (-26)) (f13 : DRR (pn_0) (rowMany_0) (drawnNode_0) (row_0)) (f14 : DEM (pm_0) (pt_0) (ph_0) (drawnNode_0) (drawnEdge_0)) (f15 : UA (pm_0) (alive_0) (drawnEdge_0)) (f16 : (rowMany_0 + 1) ≤ pn_0) (f17 : SB1 (pn_0) (pm_0) (onlyPiece_0) (pt_0) (ph_0) (drawnEdge_0) (pieceOf_0) (drawnNode_0) (bestWay_0) (x1) (x2) (x3)) (f18 : WYM (pn_0) (wayMany_0) (drawnNode_0) (way_0)) (f19 : 1 * x2 + ((-1) * pn_0 + 0) ≤ (-1)) (f20 : 1 * x3 + ((-1) * pn_0 + 0) ≤ (-1)) (f21 : drawnNode_0 (x2) ≠ 0) (f22 : x1 = wayMany_0) (hK_0_33 : ∀ j : Int, 0 ≤ j → j < 80 → 0 ≤ pt_0 j ∧ pt_0 j ≤ 24) (hK_0_34 : ∀ j : Int, 0 ≤ j → j < 80 → 0 ≤ ph_0 j ∧ ph_0 j ≤ 24) (hK_0_35 : ∀ j : Int, 0 ≤ j → j < 80 → 0 ≤ alive_0 j ∧ alive_0 j ≤ 1) (hK_0_42 : ∀ j : Int, 0 ≤ j → j < 26 → 0 ≤ drawnNode_0 j ∧ drawnNode_0 j ≤ 1) (hK_0_43 : ∀ j : Int, 0 ≤ j → j < 80 → 0 ≤ drawnEdge_0 j ∧ drawnEdge_0 j ≤ 1) (hK_0_44 : ∀ j : Int, 0 ≤ j → j < 80 → (-1) ≤ pieceOf_0 j ∧ pieceOf_0 j ≤ 79) (hK_0_46 : ∀ j : Int, 0 ≤ j → j < 30 → 0 ≤ way_0 j ∧ way_0 j ≤ 24) (hK_0_52 : ∀ j : Int, 0 ≤ j → j < 30 → 0 ≤ bestWay_0 j ∧ bestWay_0 j ≤ 24) (hK_0_117 : ∀ j : Int, 0 ≤ j → j < 100 → 0 ≤ row_0 j ∧ row_0 j ≤ 75) (kz_0_31 : 0 ≤ pn_0 ∧ pn_0 ≤ 25) (kz_0_32 : 0 ≤ pm_0 ∧ pm_0 ≤ 80) (kz_0_45 : 0 ≤ wayMany_0 ∧ wayMany_0 ≤ 30) (kz_0_49 : (-1) ≤ onlyPiece_0 ∧ onlyPiece_0 ≤ 79) (kz_0_125 : 0 ≤ rowMany_0 ∧ rowMany_0 ≤ 100) (ex2 : gx = 0 + (1 * x6 + 0)) (ex3 : (-2) ≤ gx ∧ gx ≤ 26) : DRR (pn_0) (rowMany_0) (drawnNode_0) (row_0) := by
  first | assumption
set_option maxHeartbeats 4000000 in
theorem vc_Mo_stOrder_29_6 (x1 : Int) (x2 : Int) (x3 : Int) (x5 : Int) (x6 : Int) (x8 : Int) (x10 : Int) (x12 : Int) (x13 : Int) (wayMany_0 : Int) (bestWay_0 : Int → Int) (way_0 : Int → Int) (pt_0 : Int → Int) (ph_0 : Int → Int) (pn_0 : Int) (pm_0 : Int) (alive_0 : Int → Int) (row_0 : Int → Int) (rowMany_0 : Int) (onlyPiece_0 : Int) (drawnNode_0 : Int → Int) (drawnEdge_0 : Int → Int) (pieceOf_0 : Int → Int) (gx : Int) (k1 : 2 ≤ x1 ∧ x1 ≤ 29) (k2 : 0 ≤ x2 ∧ x2 ≤ 24) (k3 : 0 ≤ x3 ∧ x3 ≤ 24) (k5 : 2 ≤ x5 ∧ x5 ≤ 29) (k6 : (-2) ≤ x6 ∧ x6 ≤ 26) (k8 : 0 ≤ x8 ∧ x8 ≤ 23) (k10 : 1 ≤ x10 ∧ x10 ≤ 24) (k12 : 0 ≤ x12 ∧ x12 ≤ 30) (k13 : 0 ≤ x13 ∧ x13 ≤ 0) (d0 : x10 + (-4294967296) ≤ x8 ∧ x8 ≤ x10 + (-1)) (d1 : x1 + (-4294967296) ≤ x5 ∧ x5 ≤ x1 + (-1)) (d2 : x1 + 0 ≤ x5 ∧ x5 ≤ x1 + 4294967296) (d3 : x1 + (-4294967296) ≤ x5 ∧ x5 ≤ x1 + 0) (g0 : x12 = wayMany_0) (f1 : x8 < x10) (h2 : x10 = bestWay_0 (x5)) (h4 : x8 = way_0 (x5)) (f6 : x5 < x1) (f7 : x1 ≤ x5) (f8 : GOK (pn_0) (pm_0) (pt_0) (ph_0)) (f9 : STB (pn_0) (pm_0) (pt_0) (ph_0) (alive_0)) (f10 : STR (pn_0) (rowMany_0) (pt_0) (ph_0) (row_0)) (f11 : onlyPiece_0 = (-1)) (f12 : (-1) * rowMany_0 + ((-1) * x6 + 0) ≤ (-26)) (f13 : DRR (pn_0) (rowMany_0) (drawnNode_0) (row_0)) (f14 : DEM (pm_0) (pt_0) (ph_0) (drawnNode_0) (drawnEdge_0)) (f15 : UA (pm_0) (alive_0) (drawnEdge_0)) (f16 : (rowMany_0 + 1) ≤ pn_0) (f17 : SB1 (pn_0) (pm_0) (onlyPiece_0) (pt_0) (ph_0) (drawnEdge_0) (pieceOf_0) (drawnNode_0) (bestWay_0) (x1) (x2) (x3)) (f18 : WYM (pn_0) (wayMany_0) (drawnNode_0) (way_0)) (f19 : 1 * x2 + ((-1) * pn_0 + 0) ≤ (-1)) (f20 : 1 * x3 + ((-1) * pn_0 + 0) ≤ (-1)) (f21 : drawnNode_0 (x2) ≠ 0) (f22 : x1 = wayMany_0) (hK_0_33 : ∀ j : Int, 0 ≤ j → j < 80 → 0 ≤ pt_0 j ∧ pt_0 j ≤ 24) (hK_0_34 : ∀ j : Int, 0 ≤ j → j < 80 → 0 ≤ ph_0 j ∧ ph_0 j ≤ 24) (hK_0_35 : ∀ j : Int, 0 ≤ j → j < 80 → 0 ≤ alive_0 j ∧ alive_0 j ≤ 1) (hK_0_42 : ∀ j : Int, 0 ≤ j → j < 26 → 0 ≤ drawnNode_0 j ∧ drawnNode_0 j ≤ 1) (hK_0_43 : ∀ j : Int, 0 ≤ j → j < 80 → 0 ≤ drawnEdge_0 j ∧ drawnEdge_0 j ≤ 1) (hK_0_44 : ∀ j : Int, 0 ≤ j → j < 80 → (-1) ≤ pieceOf_0 j ∧ pieceOf_0 j ≤ 79) (hK_0_46 : ∀ j : Int, 0 ≤ j → j < 30 → 0 ≤ way_0 j ∧ way_0 j ≤ 24) (hK_0_52 : ∀ j : Int, 0 ≤ j → j < 30 → 0 ≤ bestWay_0 j ∧ bestWay_0 j ≤ 24) (hK_0_117 : ∀ j : Int, 0 ≤ j → j < 100 → 0 ≤ row_0 j ∧ row_0 j ≤ 75) (kz_0_31 : 0 ≤ pn_0 ∧ pn_0 ≤ 25) (kz_0_32 : 0 ≤ pm_0 ∧ pm_0 ≤ 80) (kz_0_45 : 0 ≤ wayMany_0 ∧ wayMany_0 ≤ 30) (kz_0_49 : (-1) ≤ onlyPiece_0 ∧ onlyPiece_0 ≤ 79) (kz_0_125 : 0 ≤ rowMany_0 ∧ rowMany_0 ≤ 100) (ex2 : gx = 0 + (1 * x6 + 0)) (ex3 : (-2) ≤ gx ∧ gx ≤ 26) : DEM (pm_0) (pt_0) (ph_0) (drawnNode_0) (drawnEdge_0) := by
  first | assumption
set_option maxHeartbeats 4000000 in
theorem vc_Mo_stOrder_29_7 (x1 : Int) (x2 : Int) (x3 : Int) (x5 : Int) (x6 : Int) (x8 : Int) (x10 : Int) (x12 : Int) (x13 : Int) (wayMany_0 : Int) (bestWay_0 : Int → Int) (way_0 : Int → Int) (pt_0 : Int → Int) (ph_0 : Int → Int) (pn_0 : Int) (pm_0 : Int) (alive_0 : Int → Int) (row_0 : Int → Int) (rowMany_0 : Int) (onlyPiece_0 : Int) (drawnNode_0 : Int → Int) (drawnEdge_0 : Int → Int) (pieceOf_0 : Int → Int) (gx : Int) (k1 : 2 ≤ x1 ∧ x1 ≤ 29) (k2 : 0 ≤ x2 ∧ x2 ≤ 24) (k3 : 0 ≤ x3 ∧ x3 ≤ 24) (k5 : 2 ≤ x5 ∧ x5 ≤ 29) (k6 : (-2) ≤ x6 ∧ x6 ≤ 26) (k8 : 0 ≤ x8 ∧ x8 ≤ 23) (k10 : 1 ≤ x10 ∧ x10 ≤ 24) (k12 : 0 ≤ x12 ∧ x12 ≤ 30) (k13 : 0 ≤ x13 ∧ x13 ≤ 0) (d0 : x10 + (-4294967296) ≤ x8 ∧ x8 ≤ x10 + (-1)) (d1 : x1 + (-4294967296) ≤ x5 ∧ x5 ≤ x1 + (-1)) (d2 : x1 + 0 ≤ x5 ∧ x5 ≤ x1 + 4294967296) (d3 : x1 + (-4294967296) ≤ x5 ∧ x5 ≤ x1 + 0) (g0 : x12 = wayMany_0) (f1 : x8 < x10) (h2 : x10 = bestWay_0 (x5)) (h4 : x8 = way_0 (x5)) (f6 : x5 < x1) (f7 : x1 ≤ x5) (f8 : GOK (pn_0) (pm_0) (pt_0) (ph_0)) (f9 : STB (pn_0) (pm_0) (pt_0) (ph_0) (alive_0)) (f10 : STR (pn_0) (rowMany_0) (pt_0) (ph_0) (row_0)) (f11 : onlyPiece_0 = (-1)) (f12 : (-1) * rowMany_0 + ((-1) * x6 + 0) ≤ (-26)) (f13 : DRR (pn_0) (rowMany_0) (drawnNode_0) (row_0)) (f14 : DEM (pm_0) (pt_0) (ph_0) (drawnNode_0) (drawnEdge_0)) (f15 : UA (pm_0) (alive_0) (drawnEdge_0)) (f16 : (rowMany_0 + 1) ≤ pn_0) (f17 : SB1 (pn_0) (pm_0) (onlyPiece_0) (pt_0) (ph_0) (drawnEdge_0) (pieceOf_0) (drawnNode_0) (bestWay_0) (x1) (x2) (x3)) (f18 : WYM (pn_0) (wayMany_0) (drawnNode_0) (way_0)) (f19 : 1 * x2 + ((-1) * pn_0 + 0) ≤ (-1)) (f20 : 1 * x3 + ((-1) * pn_0 + 0) ≤ (-1)) (f21 : drawnNode_0 (x2) ≠ 0) (f22 : x1 = wayMany_0) (hK_0_33 : ∀ j : Int, 0 ≤ j → j < 80 → 0 ≤ pt_0 j ∧ pt_0 j ≤ 24) (hK_0_34 : ∀ j : Int, 0 ≤ j → j < 80 → 0 ≤ ph_0 j ∧ ph_0 j ≤ 24) (hK_0_35 : ∀ j : Int, 0 ≤ j → j < 80 → 0 ≤ alive_0 j ∧ alive_0 j ≤ 1) (hK_0_42 : ∀ j : Int, 0 ≤ j → j < 26 → 0 ≤ drawnNode_0 j ∧ drawnNode_0 j ≤ 1) (hK_0_43 : ∀ j : Int, 0 ≤ j → j < 80 → 0 ≤ drawnEdge_0 j ∧ drawnEdge_0 j ≤ 1) (hK_0_44 : ∀ j : Int, 0 ≤ j → j < 80 → (-1) ≤ pieceOf_0 j ∧ pieceOf_0 j ≤ 79) (hK_0_46 : ∀ j : Int, 0 ≤ j → j < 30 → 0 ≤ way_0 j ∧ way_0 j ≤ 24) (hK_0_52 : ∀ j : Int, 0 ≤ j → j < 30 → 0 ≤ bestWay_0 j ∧ bestWay_0 j ≤ 24) (hK_0_117 : ∀ j : Int, 0 ≤ j → j < 100 → 0 ≤ row_0 j ∧ row_0 j ≤ 75) (kz_0_31 : 0 ≤ pn_0 ∧ pn_0 ≤ 25) (kz_0_32 : 0 ≤ pm_0 ∧ pm_0 ≤ 80) (kz_0_45 : 0 ≤ wayMany_0 ∧ wayMany_0 ≤ 30) (kz_0_49 : (-1) ≤ onlyPiece_0 ∧ onlyPiece_0 ≤ 79) (kz_0_125 : 0 ≤ rowMany_0 ∧ rowMany_0 ≤ 100) (ex2 : gx = 0 + (1 * x6 + 0)) (ex3 : (-2) ≤ gx ∧ gx ≤ 26) : UA (pm_0) (alive_0) (drawnEdge_0) := by
  first | assumption
set_option maxHeartbeats 4000000 in
theorem vc_Mo_stOrder_29_8 (x1 : Int) (x2 : Int) (x3 : Int) (x5 : Int) (x6 : Int) (x8 : Int) (x10 : Int) (x12 : Int) (x13 : Int) (wayMany_0 : Int) (bestWay_0 : Int → Int) (way_0 : Int → Int) (pt_0 : Int → Int) (ph_0 : Int → Int) (pn_0 : Int) (pm_0 : Int) (alive_0 : Int → Int) (row_0 : Int → Int) (rowMany_0 : Int) (onlyPiece_0 : Int) (drawnNode_0 : Int → Int) (drawnEdge_0 : Int → Int) (pieceOf_0 : Int → Int) (gx : Int) (k1 : 2 ≤ x1 ∧ x1 ≤ 29) (k2 : 0 ≤ x2 ∧ x2 ≤ 24) (k3 : 0 ≤ x3 ∧ x3 ≤ 24) (k5 : 2 ≤ x5 ∧ x5 ≤ 29) (k6 : (-2) ≤ x6 ∧ x6 ≤ 26) (k8 : 0 ≤ x8 ∧ x8 ≤ 23) (k10 : 1 ≤ x10 ∧ x10 ≤ 24) (k12 : 0 ≤ x12 ∧ x12 ≤ 30) (k13 : 0 ≤ x13 ∧ x13 ≤ 0) (d0 : x10 + (-4294967296) ≤ x8 ∧ x8 ≤ x10 + (-1)) (d1 : x1 + (-4294967296) ≤ x5 ∧ x5 ≤ x1 + (-1)) (d2 : x1 + 0 ≤ x5 ∧ x5 ≤ x1 + 4294967296) (d3 : x1 + (-4294967296) ≤ x5 ∧ x5 ≤ x1 + 0) (g0 : x12 = wayMany_0) (f1 : x8 < x10) (h2 : x10 = bestWay_0 (x5)) (h4 : x8 = way_0 (x5)) (f6 : x5 < x1) (f7 : x1 ≤ x5) (f8 : GOK (pn_0) (pm_0) (pt_0) (ph_0)) (f9 : STB (pn_0) (pm_0) (pt_0) (ph_0) (alive_0)) (f10 : STR (pn_0) (rowMany_0) (pt_0) (ph_0) (row_0)) (f11 : onlyPiece_0 = (-1)) (f12 : (-1) * rowMany_0 + ((-1) * x6 + 0) ≤ (-26)) (f13 : DRR (pn_0) (rowMany_0) (drawnNode_0) (row_0)) (f14 : DEM (pm_0) (pt_0) (ph_0) (drawnNode_0) (drawnEdge_0)) (f15 : UA (pm_0) (alive_0) (drawnEdge_0)) (f16 : (rowMany_0 + 1) ≤ pn_0) (f17 : SB1 (pn_0) (pm_0) (onlyPiece_0) (pt_0) (ph_0) (drawnEdge_0) (pieceOf_0) (drawnNode_0) (bestWay_0) (x1) (x2) (x3)) (f18 : WYM (pn_0) (wayMany_0) (drawnNode_0) (way_0)) (f19 : 1 * x2 + ((-1) * pn_0 + 0) ≤ (-1)) (f20 : 1 * x3 + ((-1) * pn_0 + 0) ≤ (-1)) (f21 : drawnNode_0 (x2) ≠ 0) (f22 : x1 = wayMany_0) (hK_0_33 : ∀ j : Int, 0 ≤ j → j < 80 → 0 ≤ pt_0 j ∧ pt_0 j ≤ 24) (hK_0_34 : ∀ j : Int, 0 ≤ j → j < 80 → 0 ≤ ph_0 j ∧ ph_0 j ≤ 24) (hK_0_35 : ∀ j : Int, 0 ≤ j → j < 80 → 0 ≤ alive_0 j ∧ alive_0 j ≤ 1) (hK_0_42 : ∀ j : Int, 0 ≤ j → j < 26 → 0 ≤ drawnNode_0 j ∧ drawnNode_0 j ≤ 1) (hK_0_43 : ∀ j : Int, 0 ≤ j → j < 80 → 0 ≤ drawnEdge_0 j ∧ drawnEdge_0 j ≤ 1) (hK_0_44 : ∀ j : Int, 0 ≤ j → j < 80 → (-1) ≤ pieceOf_0 j ∧ pieceOf_0 j ≤ 79) (hK_0_46 : ∀ j : Int, 0 ≤ j → j < 30 → 0 ≤ way_0 j ∧ way_0 j ≤ 24) (hK_0_52 : ∀ j : Int, 0 ≤ j → j < 30 → 0 ≤ bestWay_0 j ∧ bestWay_0 j ≤ 24) (hK_0_117 : ∀ j : Int, 0 ≤ j → j < 100 → 0 ≤ row_0 j ∧ row_0 j ≤ 75) (kz_0_31 : 0 ≤ pn_0 ∧ pn_0 ≤ 25) (kz_0_32 : 0 ≤ pm_0 ∧ pm_0 ≤ 80) (kz_0_45 : 0 ≤ wayMany_0 ∧ wayMany_0 ≤ 30) (kz_0_49 : (-1) ≤ onlyPiece_0 ∧ onlyPiece_0 ≤ 79) (kz_0_125 : 0 ≤ rowMany_0 ∧ rowMany_0 ≤ 100) (ex2 : gx = 0 + (1 * x6 + 0)) (ex3 : (-2) ≤ gx ∧ gx ≤ 26) : (rowMany_0 + 1) ≤ pn_0 := by
  first
    | omega
    | (have h := ‹STB _ _ _ _ _›.1.2.2; omega)
    | (have h := ‹STR _ _ _ _ _›.1; omega)
    | (have h := ‹STR _ _ _ _ _›.1
       have w := ‹STR _ _ _ _ _›.2.1 x1 (by omega) (by omega)
       omega)
    | (have h := bc_len ‹BC1 _ _ _ _ _ _ _›
       have h2 := ‹STR _ _ _ _ _›.1
       omega)
    | (have h := (sb_way ‹SB1 _ _ _ _ _ _ _ _ _ _ _ _› (by omega)).1
       have h2 := ‹STR _ _ _ _ _›.1
       omega)
    | (have h := ‹WYM _ _ _ _›.1
       have h2 := ‹STR _ _ _ _ _›.1
       omega)
set_option maxHeartbeats 4000000 in
theorem vc_Mo_stOrder_29_9 (x1 : Int) (x2 : Int) (x3 : Int) (x5 : Int) (x6 : Int) (x8 : Int) (x10 : Int) (x12 : Int) (x13 : Int) (wayMany_0 : Int) (bestWay_0 : Int → Int) (way_0 : Int → Int) (pt_0 : Int → Int) (ph_0 : Int → Int) (pn_0 : Int) (pm_0 : Int) (alive_0 : Int → Int) (row_0 : Int → Int) (rowMany_0 : Int) (onlyPiece_0 : Int) (drawnNode_0 : Int → Int) (drawnEdge_0 : Int → Int) (pieceOf_0 : Int → Int) (gx : Int) (k1 : 2 ≤ x1 ∧ x1 ≤ 29) (k2 : 0 ≤ x2 ∧ x2 ≤ 24) (k3 : 0 ≤ x3 ∧ x3 ≤ 24) (k5 : 2 ≤ x5 ∧ x5 ≤ 29) (k6 : (-2) ≤ x6 ∧ x6 ≤ 26) (k8 : 0 ≤ x8 ∧ x8 ≤ 23) (k10 : 1 ≤ x10 ∧ x10 ≤ 24) (k12 : 0 ≤ x12 ∧ x12 ≤ 30) (k13 : 0 ≤ x13 ∧ x13 ≤ 0) (d0 : x10 + (-4294967296) ≤ x8 ∧ x8 ≤ x10 + (-1)) (d1 : x1 + (-4294967296) ≤ x5 ∧ x5 ≤ x1 + (-1)) (d2 : x1 + 0 ≤ x5 ∧ x5 ≤ x1 + 4294967296) (d3 : x1 + (-4294967296) ≤ x5 ∧ x5 ≤ x1 + 0) (g0 : x12 = wayMany_0) (f1 : x8 < x10) (h2 : x10 = bestWay_0 (x5)) (h4 : x8 = way_0 (x5)) (f6 : x5 < x1) (f7 : x1 ≤ x5) (f8 : GOK (pn_0) (pm_0) (pt_0) (ph_0)) (f9 : STB (pn_0) (pm_0) (pt_0) (ph_0) (alive_0)) (f10 : STR (pn_0) (rowMany_0) (pt_0) (ph_0) (row_0)) (f11 : onlyPiece_0 = (-1)) (f12 : (-1) * rowMany_0 + ((-1) * x6 + 0) ≤ (-26)) (f13 : DRR (pn_0) (rowMany_0) (drawnNode_0) (row_0)) (f14 : DEM (pm_0) (pt_0) (ph_0) (drawnNode_0) (drawnEdge_0)) (f15 : UA (pm_0) (alive_0) (drawnEdge_0)) (f16 : (rowMany_0 + 1) ≤ pn_0) (f17 : SB1 (pn_0) (pm_0) (onlyPiece_0) (pt_0) (ph_0) (drawnEdge_0) (pieceOf_0) (drawnNode_0) (bestWay_0) (x1) (x2) (x3)) (f18 : WYM (pn_0) (wayMany_0) (drawnNode_0) (way_0)) (f19 : 1 * x2 + ((-1) * pn_0 + 0) ≤ (-1)) (f20 : 1 * x3 + ((-1) * pn_0 + 0) ≤ (-1)) (f21 : drawnNode_0 (x2) ≠ 0) (f22 : x1 = wayMany_0) (hK_0_33 : ∀ j : Int, 0 ≤ j → j < 80 → 0 ≤ pt_0 j ∧ pt_0 j ≤ 24) (hK_0_34 : ∀ j : Int, 0 ≤ j → j < 80 → 0 ≤ ph_0 j ∧ ph_0 j ≤ 24) (hK_0_35 : ∀ j : Int, 0 ≤ j → j < 80 → 0 ≤ alive_0 j ∧ alive_0 j ≤ 1) (hK_0_42 : ∀ j : Int, 0 ≤ j → j < 26 → 0 ≤ drawnNode_0 j ∧ drawnNode_0 j ≤ 1) (hK_0_43 : ∀ j : Int, 0 ≤ j → j < 80 → 0 ≤ drawnEdge_0 j ∧ drawnEdge_0 j ≤ 1) (hK_0_44 : ∀ j : Int, 0 ≤ j → j < 80 → (-1) ≤ pieceOf_0 j ∧ pieceOf_0 j ≤ 79) (hK_0_46 : ∀ j : Int, 0 ≤ j → j < 30 → 0 ≤ way_0 j ∧ way_0 j ≤ 24) (hK_0_52 : ∀ j : Int, 0 ≤ j → j < 30 → 0 ≤ bestWay_0 j ∧ bestWay_0 j ≤ 24) (hK_0_117 : ∀ j : Int, 0 ≤ j → j < 100 → 0 ≤ row_0 j ∧ row_0 j ≤ 75) (kz_0_31 : 0 ≤ pn_0 ∧ pn_0 ≤ 25) (kz_0_32 : 0 ≤ pm_0 ∧ pm_0 ≤ 80) (kz_0_45 : 0 ≤ wayMany_0 ∧ wayMany_0 ≤ 30) (kz_0_49 : (-1) ≤ onlyPiece_0 ∧ onlyPiece_0 ≤ 79) (kz_0_125 : 0 ≤ rowMany_0 ∧ rowMany_0 ≤ 100) (ex2 : gx = 0 + (1 * x6 + 0)) (ex3 : (-2) ≤ gx ∧ gx ≤ 26) : BC1 (pn_0) (wayMany_0) (drawnNode_0) (way_0) (bestWay_0) (x12) (x13) := by
  first
    | exact bc_step ‹BC1 _ _ _ _ _ _ _› (by omega) (by assumption) (by omega) (by assumption) (by omega)
    | exact ⟨‹WYM _ _ _ _›, by omega, fun t a b => by exfalso; omega⟩
    | exact ⟨wyg_of ‹DEM _ _ _ _ _› ‹SHP _ _ _ _ _ _ _ _ _ _ _ _ _ _› (by omega) (by omega) (by omega) (by omega) (by omega), by omega, fun t a b => by exfalso; omega⟩
set_option maxHeartbeats 4000000 in
theorem vc_Mo_stOrder_29_10 (x1 : Int) (x2 : Int) (x3 : Int) (x5 : Int) (x6 : Int) (x8 : Int) (x10 : Int) (x12 : Int) (x13 : Int) (wayMany_0 : Int) (bestWay_0 : Int → Int) (way_0 : Int → Int) (pt_0 : Int → Int) (ph_0 : Int → Int) (pn_0 : Int) (pm_0 : Int) (alive_0 : Int → Int) (row_0 : Int → Int) (rowMany_0 : Int) (onlyPiece_0 : Int) (drawnNode_0 : Int → Int) (drawnEdge_0 : Int → Int) (pieceOf_0 : Int → Int) (gx : Int) (k1 : 2 ≤ x1 ∧ x1 ≤ 29) (k2 : 0 ≤ x2 ∧ x2 ≤ 24) (k3 : 0 ≤ x3 ∧ x3 ≤ 24) (k5 : 2 ≤ x5 ∧ x5 ≤ 29) (k6 : (-2) ≤ x6 ∧ x6 ≤ 26) (k8 : 0 ≤ x8 ∧ x8 ≤ 23) (k10 : 1 ≤ x10 ∧ x10 ≤ 24) (k12 : 0 ≤ x12 ∧ x12 ≤ 30) (k13 : 0 ≤ x13 ∧ x13 ≤ 0) (d0 : x10 + (-4294967296) ≤ x8 ∧ x8 ≤ x10 + (-1)) (d1 : x1 + (-4294967296) ≤ x5 ∧ x5 ≤ x1 + (-1)) (d2 : x1 + 0 ≤ x5 ∧ x5 ≤ x1 + 4294967296) (d3 : x1 + (-4294967296) ≤ x5 ∧ x5 ≤ x1 + 0) (g0 : x12 = wayMany_0) (f1 : x8 < x10) (h2 : x10 = bestWay_0 (x5)) (h4 : x8 = way_0 (x5)) (f6 : x5 < x1) (f7 : x1 ≤ x5) (f8 : GOK (pn_0) (pm_0) (pt_0) (ph_0)) (f9 : STB (pn_0) (pm_0) (pt_0) (ph_0) (alive_0)) (f10 : STR (pn_0) (rowMany_0) (pt_0) (ph_0) (row_0)) (f11 : onlyPiece_0 = (-1)) (f12 : (-1) * rowMany_0 + ((-1) * x6 + 0) ≤ (-26)) (f13 : DRR (pn_0) (rowMany_0) (drawnNode_0) (row_0)) (f14 : DEM (pm_0) (pt_0) (ph_0) (drawnNode_0) (drawnEdge_0)) (f15 : UA (pm_0) (alive_0) (drawnEdge_0)) (f16 : (rowMany_0 + 1) ≤ pn_0) (f17 : SB1 (pn_0) (pm_0) (onlyPiece_0) (pt_0) (ph_0) (drawnEdge_0) (pieceOf_0) (drawnNode_0) (bestWay_0) (x1) (x2) (x3)) (f18 : WYM (pn_0) (wayMany_0) (drawnNode_0) (way_0)) (f19 : 1 * x2 + ((-1) * pn_0 + 0) ≤ (-1)) (f20 : 1 * x3 + ((-1) * pn_0 + 0) ≤ (-1)) (f21 : drawnNode_0 (x2) ≠ 0) (f22 : x1 = wayMany_0) (hK_0_33 : ∀ j : Int, 0 ≤ j → j < 80 → 0 ≤ pt_0 j ∧ pt_0 j ≤ 24) (hK_0_34 : ∀ j : Int, 0 ≤ j → j < 80 → 0 ≤ ph_0 j ∧ ph_0 j ≤ 24) (hK_0_35 : ∀ j : Int, 0 ≤ j → j < 80 → 0 ≤ alive_0 j ∧ alive_0 j ≤ 1) (hK_0_42 : ∀ j : Int, 0 ≤ j → j < 26 → 0 ≤ drawnNode_0 j ∧ drawnNode_0 j ≤ 1) (hK_0_43 : ∀ j : Int, 0 ≤ j → j < 80 → 0 ≤ drawnEdge_0 j ∧ drawnEdge_0 j ≤ 1) (hK_0_44 : ∀ j : Int, 0 ≤ j → j < 80 → (-1) ≤ pieceOf_0 j ∧ pieceOf_0 j ≤ 79) (hK_0_46 : ∀ j : Int, 0 ≤ j → j < 30 → 0 ≤ way_0 j ∧ way_0 j ≤ 24) (hK_0_52 : ∀ j : Int, 0 ≤ j → j < 30 → 0 ≤ bestWay_0 j ∧ bestWay_0 j ≤ 24) (hK_0_117 : ∀ j : Int, 0 ≤ j → j < 100 → 0 ≤ row_0 j ∧ row_0 j ≤ 75) (kz_0_31 : 0 ≤ pn_0 ∧ pn_0 ≤ 25) (kz_0_32 : 0 ≤ pm_0 ∧ pm_0 ≤ 80) (kz_0_45 : 0 ≤ wayMany_0 ∧ wayMany_0 ≤ 30) (kz_0_49 : (-1) ≤ onlyPiece_0 ∧ onlyPiece_0 ≤ 79) (kz_0_125 : 0 ≤ rowMany_0 ∧ rowMany_0 ≤ 100) (ex2 : gx = 0 + (1 * x6 + 0)) (ex3 : (-2) ≤ gx ∧ gx ≤ 26) : 1 * x2 + ((-1) * pn_0 + 0) ≤ (-1) := by
  first
    | omega
    | (have h := ‹STB _ _ _ _ _›.1.2.2; omega)
    | (have h := ‹STR _ _ _ _ _›.1; omega)
    | (have h := ‹STR _ _ _ _ _›.1
       have w := ‹STR _ _ _ _ _›.2.1 x1 (by omega) (by omega)
       omega)
    | (have h := bc_len ‹BC1 _ _ _ _ _ _ _›
       have h2 := ‹STR _ _ _ _ _›.1
       omega)
    | (have h := (sb_way ‹SB1 _ _ _ _ _ _ _ _ _ _ _ _› (by omega)).1
       have h2 := ‹STR _ _ _ _ _›.1
       omega)
    | (have h := ‹WYM _ _ _ _›.1
       have h2 := ‹STR _ _ _ _ _›.1
       omega)
set_option maxHeartbeats 4000000 in
theorem vc_Mo_stOrder_29_11 (x1 : Int) (x2 : Int) (x3 : Int) (x5 : Int) (x6 : Int) (x8 : Int) (x10 : Int) (x12 : Int) (x13 : Int) (wayMany_0 : Int) (bestWay_0 : Int → Int) (way_0 : Int → Int) (pt_0 : Int → Int) (ph_0 : Int → Int) (pn_0 : Int) (pm_0 : Int) (alive_0 : Int → Int) (row_0 : Int → Int) (rowMany_0 : Int) (onlyPiece_0 : Int) (drawnNode_0 : Int → Int) (drawnEdge_0 : Int → Int) (pieceOf_0 : Int → Int) (gx : Int) (k1 : 2 ≤ x1 ∧ x1 ≤ 29) (k2 : 0 ≤ x2 ∧ x2 ≤ 24) (k3 : 0 ≤ x3 ∧ x3 ≤ 24) (k5 : 2 ≤ x5 ∧ x5 ≤ 29) (k6 : (-2) ≤ x6 ∧ x6 ≤ 26) (k8 : 0 ≤ x8 ∧ x8 ≤ 23) (k10 : 1 ≤ x10 ∧ x10 ≤ 24) (k12 : 0 ≤ x12 ∧ x12 ≤ 30) (k13 : 0 ≤ x13 ∧ x13 ≤ 0) (d0 : x10 + (-4294967296) ≤ x8 ∧ x8 ≤ x10 + (-1)) (d1 : x1 + (-4294967296) ≤ x5 ∧ x5 ≤ x1 + (-1)) (d2 : x1 + 0 ≤ x5 ∧ x5 ≤ x1 + 4294967296) (d3 : x1 + (-4294967296) ≤ x5 ∧ x5 ≤ x1 + 0) (g0 : x12 = wayMany_0) (f1 : x8 < x10) (h2 : x10 = bestWay_0 (x5)) (h4 : x8 = way_0 (x5)) (f6 : x5 < x1) (f7 : x1 ≤ x5) (f8 : GOK (pn_0) (pm_0) (pt_0) (ph_0)) (f9 : STB (pn_0) (pm_0) (pt_0) (ph_0) (alive_0)) (f10 : STR (pn_0) (rowMany_0) (pt_0) (ph_0) (row_0)) (f11 : onlyPiece_0 = (-1)) (f12 : (-1) * rowMany_0 + ((-1) * x6 + 0) ≤ (-26)) (f13 : DRR (pn_0) (rowMany_0) (drawnNode_0) (row_0)) (f14 : DEM (pm_0) (pt_0) (ph_0) (drawnNode_0) (drawnEdge_0)) (f15 : UA (pm_0) (alive_0) (drawnEdge_0)) (f16 : (rowMany_0 + 1) ≤ pn_0) (f17 : SB1 (pn_0) (pm_0) (onlyPiece_0) (pt_0) (ph_0) (drawnEdge_0) (pieceOf_0) (drawnNode_0) (bestWay_0) (x1) (x2) (x3)) (f18 : WYM (pn_0) (wayMany_0) (drawnNode_0) (way_0)) (f19 : 1 * x2 + ((-1) * pn_0 + 0) ≤ (-1)) (f20 : 1 * x3 + ((-1) * pn_0 + 0) ≤ (-1)) (f21 : drawnNode_0 (x2) ≠ 0) (f22 : x1 = wayMany_0) (hK_0_33 : ∀ j : Int, 0 ≤ j → j < 80 → 0 ≤ pt_0 j ∧ pt_0 j ≤ 24) (hK_0_34 : ∀ j : Int, 0 ≤ j → j < 80 → 0 ≤ ph_0 j ∧ ph_0 j ≤ 24) (hK_0_35 : ∀ j : Int, 0 ≤ j → j < 80 → 0 ≤ alive_0 j ∧ alive_0 j ≤ 1) (hK_0_42 : ∀ j : Int, 0 ≤ j → j < 26 → 0 ≤ drawnNode_0 j ∧ drawnNode_0 j ≤ 1) (hK_0_43 : ∀ j : Int, 0 ≤ j → j < 80 → 0 ≤ drawnEdge_0 j ∧ drawnEdge_0 j ≤ 1) (hK_0_44 : ∀ j : Int, 0 ≤ j → j < 80 → (-1) ≤ pieceOf_0 j ∧ pieceOf_0 j ≤ 79) (hK_0_46 : ∀ j : Int, 0 ≤ j → j < 30 → 0 ≤ way_0 j ∧ way_0 j ≤ 24) (hK_0_52 : ∀ j : Int, 0 ≤ j → j < 30 → 0 ≤ bestWay_0 j ∧ bestWay_0 j ≤ 24) (hK_0_117 : ∀ j : Int, 0 ≤ j → j < 100 → 0 ≤ row_0 j ∧ row_0 j ≤ 75) (kz_0_31 : 0 ≤ pn_0 ∧ pn_0 ≤ 25) (kz_0_32 : 0 ≤ pm_0 ∧ pm_0 ≤ 80) (kz_0_45 : 0 ≤ wayMany_0 ∧ wayMany_0 ≤ 30) (kz_0_49 : (-1) ≤ onlyPiece_0 ∧ onlyPiece_0 ≤ 79) (kz_0_125 : 0 ≤ rowMany_0 ∧ rowMany_0 ≤ 100) (ex2 : gx = 0 + (1 * x6 + 0)) (ex3 : (-2) ≤ gx ∧ gx ≤ 26) : 1 * x3 + ((-1) * pn_0 + 0) ≤ (-1) := by
  first
    | omega
    | (have h := ‹STB _ _ _ _ _›.1.2.2; omega)
    | (have h := ‹STR _ _ _ _ _›.1; omega)
    | (have h := ‹STR _ _ _ _ _›.1
       have w := ‹STR _ _ _ _ _›.2.1 x1 (by omega) (by omega)
       omega)
    | (have h := bc_len ‹BC1 _ _ _ _ _ _ _›
       have h2 := ‹STR _ _ _ _ _›.1
       omega)
    | (have h := (sb_way ‹SB1 _ _ _ _ _ _ _ _ _ _ _ _› (by omega)).1
       have h2 := ‹STR _ _ _ _ _›.1
       omega)
    | (have h := ‹WYM _ _ _ _›.1
       have h2 := ‹STR _ _ _ _ _›.1
       omega)
set_option maxHeartbeats 4000000 in
theorem vc_Mo_stOrder_29_12 (x1 : Int) (x2 : Int) (x3 : Int) (x5 : Int) (x6 : Int) (x8 : Int) (x10 : Int) (x12 : Int) (x13 : Int) (wayMany_0 : Int) (bestWay_0 : Int → Int) (way_0 : Int → Int) (pt_0 : Int → Int) (ph_0 : Int → Int) (pn_0 : Int) (pm_0 : Int) (alive_0 : Int → Int) (row_0 : Int → Int) (rowMany_0 : Int) (onlyPiece_0 : Int) (drawnNode_0 : Int → Int) (drawnEdge_0 : Int → Int) (pieceOf_0 : Int → Int) (gx : Int) (k1 : 2 ≤ x1 ∧ x1 ≤ 29) (k2 : 0 ≤ x2 ∧ x2 ≤ 24) (k3 : 0 ≤ x3 ∧ x3 ≤ 24) (k5 : 2 ≤ x5 ∧ x5 ≤ 29) (k6 : (-2) ≤ x6 ∧ x6 ≤ 26) (k8 : 0 ≤ x8 ∧ x8 ≤ 23) (k10 : 1 ≤ x10 ∧ x10 ≤ 24) (k12 : 0 ≤ x12 ∧ x12 ≤ 30) (k13 : 0 ≤ x13 ∧ x13 ≤ 0) (d0 : x10 + (-4294967296) ≤ x8 ∧ x8 ≤ x10 + (-1)) (d1 : x1 + (-4294967296) ≤ x5 ∧ x5 ≤ x1 + (-1)) (d2 : x1 + 0 ≤ x5 ∧ x5 ≤ x1 + 4294967296) (d3 : x1 + (-4294967296) ≤ x5 ∧ x5 ≤ x1 + 0) (g0 : x12 = wayMany_0) (f1 : x8 < x10) (h2 : x10 = bestWay_0 (x5)) (h4 : x8 = way_0 (x5)) (f6 : x5 < x1) (f7 : x1 ≤ x5) (f8 : GOK (pn_0) (pm_0) (pt_0) (ph_0)) (f9 : STB (pn_0) (pm_0) (pt_0) (ph_0) (alive_0)) (f10 : STR (pn_0) (rowMany_0) (pt_0) (ph_0) (row_0)) (f11 : onlyPiece_0 = (-1)) (f12 : (-1) * rowMany_0 + ((-1) * x6 + 0) ≤ (-26)) (f13 : DRR (pn_0) (rowMany_0) (drawnNode_0) (row_0)) (f14 : DEM (pm_0) (pt_0) (ph_0) (drawnNode_0) (drawnEdge_0)) (f15 : UA (pm_0) (alive_0) (drawnEdge_0)) (f16 : (rowMany_0 + 1) ≤ pn_0) (f17 : SB1 (pn_0) (pm_0) (onlyPiece_0) (pt_0) (ph_0) (drawnEdge_0) (pieceOf_0) (drawnNode_0) (bestWay_0) (x1) (x2) (x3)) (f18 : WYM (pn_0) (wayMany_0) (drawnNode_0) (way_0)) (f19 : 1 * x2 + ((-1) * pn_0 + 0) ≤ (-1)) (f20 : 1 * x3 + ((-1) * pn_0 + 0) ≤ (-1)) (f21 : drawnNode_0 (x2) ≠ 0) (f22 : x1 = wayMany_0) (hK_0_33 : ∀ j : Int, 0 ≤ j → j < 80 → 0 ≤ pt_0 j ∧ pt_0 j ≤ 24) (hK_0_34 : ∀ j : Int, 0 ≤ j → j < 80 → 0 ≤ ph_0 j ∧ ph_0 j ≤ 24) (hK_0_35 : ∀ j : Int, 0 ≤ j → j < 80 → 0 ≤ alive_0 j ∧ alive_0 j ≤ 1) (hK_0_42 : ∀ j : Int, 0 ≤ j → j < 26 → 0 ≤ drawnNode_0 j ∧ drawnNode_0 j ≤ 1) (hK_0_43 : ∀ j : Int, 0 ≤ j → j < 80 → 0 ≤ drawnEdge_0 j ∧ drawnEdge_0 j ≤ 1) (hK_0_44 : ∀ j : Int, 0 ≤ j → j < 80 → (-1) ≤ pieceOf_0 j ∧ pieceOf_0 j ≤ 79) (hK_0_46 : ∀ j : Int, 0 ≤ j → j < 30 → 0 ≤ way_0 j ∧ way_0 j ≤ 24) (hK_0_52 : ∀ j : Int, 0 ≤ j → j < 30 → 0 ≤ bestWay_0 j ∧ bestWay_0 j ≤ 24) (hK_0_117 : ∀ j : Int, 0 ≤ j → j < 100 → 0 ≤ row_0 j ∧ row_0 j ≤ 75) (kz_0_31 : 0 ≤ pn_0 ∧ pn_0 ≤ 25) (kz_0_32 : 0 ≤ pm_0 ∧ pm_0 ≤ 80) (kz_0_45 : 0 ≤ wayMany_0 ∧ wayMany_0 ≤ 30) (kz_0_49 : (-1) ≤ onlyPiece_0 ∧ onlyPiece_0 ≤ 79) (kz_0_125 : 0 ≤ rowMany_0 ∧ rowMany_0 ≤ 100) (ex2 : gx = 0 + (1 * x6 + 0)) (ex3 : (-2) ≤ gx ∧ gx ≤ 26) : drawnNode_0 (x2) ≠ 0 := by
  first
    | omega
    | (have h := ‹STB _ _ _ _ _›.1.2.2; omega)
    | (have h := ‹STR _ _ _ _ _›.1; omega)
    | (have h := ‹STR _ _ _ _ _›.1
       have w := ‹STR _ _ _ _ _›.2.1 x1 (by omega) (by omega)
       omega)
    | (have h := bc_len ‹BC1 _ _ _ _ _ _ _›
       have h2 := ‹STR _ _ _ _ _›.1
       omega)
    | (have h := (sb_way ‹SB1 _ _ _ _ _ _ _ _ _ _ _ _› (by omega)).1
       have h2 := ‹STR _ _ _ _ _›.1
       omega)
    | (have h := ‹WYM _ _ _ _›.1
       have h2 := ‹STR _ _ _ _ _›.1
       omega)
def o_Mo_stOrder_29 : or_T := (328, 14, [(0, (2, 0, 0, [165])), (1, (0, 2, 29, [])), (2, (0, 0, 24, [])), (3, (0, 0, 24, [])), (5, (0, 2, 29, [])), (6, (0, -2, 26, [])), (7, (2, 0, 0, [191])), (8, (0, 0, 23, [])), (9, (2, 0, 0, [195])), (10, (0, 1, 24, [])), (12, (0, 0, 30, [])), (13, (0, 0, 0, []))], [(9, [12, 0], [45]), (7, [8, 10], [2]), (10, [10, 9, 5], []), (9, [9, 0], [52]), (10, [8, 7, 5], []), (9, [7, 0], [46]), (7, [5, 1], [2]), (7, [5, 1], [3]), (20, [0], [60, 2, 2, 75, 31, 32, 33, 34]), (20, [0], [60, 2, 3, 297, 31, 32, 33, 34, 35]), (20, [0], [60, 2, 3, 298, 31, 125, 33, 34, 117]), (20, [0], [50, 1, 0, 49, 1, 3, 2, 0, 49, 0, -1]), (20, [0, 6], [30, -26, -1, 1, 125, -1, 0, 0]), (20, [0], [60, 2, 2, 301, 31, 125, 42, 117]), (20, [0], [60, 1, 4, 303, 32, 33, 34, 42, 43]), (20, [0], [60, 1, 2, 122, 32, 35, 43]), (20, [0], [50, 2, 0, 125, 31, 0, 7, 4, 3, 2, 0, 125, 0, 1, 2, 0, 31]), (20, [0, 1, 2, 3], [60, 3, 6, 306, 31, 32, 49, 33, 34, 43, 44, 42, 52]), (20, [0], [60, 2, 2, 304, 31, 45, 42, 46]), (20, [2, 0], [30, -1, 1, 0, 0, -1, 1, 31]), (20, [3, 0], [30, -1, 1, 0, 0, -1, 1, 31]), (20, [0, 2], [50, 0, 1, 42, 7, 5, 3, 0, 42, 1, 1, 0, 0]), (20, [1, 0], [50, 1, 0, 1045, 1, 2, 1, 0, 2, 1, 45])], [], [(0, -2, 26, [])], [(20, [0], [60, 2, 2, 75, 31, 32, 33, 34]), (20, [0], [60, 2, 3, 297, 31, 32, 33, 34, 35]), (20, [0], [60, 2, 3, 298, 31, 125, 33, 34, 117]), (20, [0], [50, 1, 0, 49, 1, 3, 2, 0, 49, 0, -1]), (20, [0, 14], [30, -26, -1, 1, 125, -1, 0, 0]), (20, [0], [60, 2, 2, 301, 31, 125, 42, 117]), (20, [0], [60, 1, 4, 303, 32, 33, 34, 42, 43]), (20, [0], [60, 1, 2, 122, 32, 35, 43]), (20, [0], [50, 2, 0, 125, 31, 0, 7, 4, 3, 2, 0, 125, 0, 1, 2, 0, 31]), (20, [0, 12, 13], [60, 2, 3, 307, 31, 45, 42, 46, 52]), (20, [2, 0], [30, -1, 1, 0, 0, -1, 1, 31]), (20, [3, 0], [30, -1, 1, 0, 0, -1, 1, 31]), (20, [0, 2], [50, 0, 1, 42, 7, 5, 3, 0, 42, 1, 1, 0, 0])], [(14, 6, 0, 0)], [(8, 10, -4294967296, -1), (5, 1, -4294967296, -1), (5, 1, 0, 4294967296), (5, 1, -4294967296, 0)])
theorem oo_Mo_stOrder_29 {kA : Nat → ClassId} : or_ok PRD kA GG o_Mo_stOrder_29 := by
  refine or_mk fun A ta ws vs hD hth hl => ?_
  intro t0 r0 t1 k1 t2 k2 t3 k3 t5 k5 t6 k6 t7 r7 t8 k8 t9 r9 t10 k10 t12 k12 t13 k13 d0 d1 d2 d3 f0 f1 f2 f3 f4 f5 f6 f7 f8 f9 f10 f11 f12 f13 f14 f15 f16 f17 f18 f19 f20 f21 f22
  replace f0 := shm_741 f0
  replace f1 := shm_6 f1
  replace f2 := shm_107 f2
  replace f3 := shm_993 f3
  replace f4 := shm_107 f4
  replace f5 := shm_737 f5
  replace f6 := shm_6 f6
  replace f7 := shm_2 f7
  replace f8 := shm_575 f8
  replace f9 := shm_1749 f9
  replace f10 := shm_1001 f10
  replace f11 := shm_1675 f11
  replace f12 := shm_1750 f12
  replace f13 := shm_1755 f13
  replace f14 := shm_1757 f14
  replace f15 := shm_1455 f15
  replace f16 := shm_1752 f16
  replace f17 := shm_1761 f17
  replace f18 := shm_1764 f18
  replace f19 := shm_553 f19
  replace f20 := shm_553 f20
  replace f21 := shm_1762 f21
  replace f22 := shm_1765 f22
  have cr_0_33 := fdq_117 hD hth r0
  have cr_0_34 := fdq_118 hD hth r0
  have cr_0_35 := fdq_132 hD hth r0
  have cr_0_42 := fdq_136 hD hth r0
  have cr_0_43 := fdq_137 hD hth r0
  have cr_0_44 := fdq_138 hD hth r0
  have cr_0_46 := fdq_190 hD hth r0
  have cr_0_52 := fdq_236 hD hth r0
  have cr_0_117 := fdq_181 hD hth r0
  have ad_9 : v_ad (n_v vs 9) = w_ar ws (n_v vs 0) 52 := congrArg v_ad f3
  have ad_7 : v_ad (n_v vs 7) = w_ar ws (n_v vs 0) 46 := congrArg v_ad f5
  have g0 : v_iv (n_v vs 12) = w_fi ws (n_v vs 0) 45 := congrArg v_iv f0
  simp only [ad_9] at f2
  have h2 : v_iv (n_v vs 10) = w_ei ws (w_ar ws (n_v vs 0) 52) (v_iv (n_v vs 5)) := f2
  simp only [ad_7] at f4
  have h4 : v_iv (n_v vs 8) = w_ei ws (w_ar ws (n_v vs 0) 46) (v_iv (n_v vs 5)) := f4
  have hK_0_33 := elq_60 hD hth cr_0_33
  have hK_0_34 := elq_61 hD hth cr_0_34
  have hK_0_35 := elq_72 hD hth cr_0_35
  have hK_0_42 := elq_75 hD hth cr_0_42
  have hK_0_43 := elq_76 hD hth cr_0_43
  have hK_0_44 := elq_77 hD hth cr_0_44
  have hK_0_46 := elq_114 hD hth cr_0_46
  have hK_0_52 := elq_147 hD hth cr_0_52
  have hK_0_117 := elq_108 hD hth cr_0_117
  have kz_0_31 := fdq_145 hD hth r0
  have kz_0_32 := fdq_140 hD hth r0
  have kz_0_45 := fdq_191 hD hth r0
  have kz_0_49 := fdq_146 hD hth r0
  have kz_0_125 := fdq_182 hD hth r0
  obtain ⟨x, ex, hx⟩ := iv_ex (ta := ta) (lo := (-2)) (hi := 26) (z := 0 + (1 * v_iv (n_v vs 6) + 0)) (by omega) (by omega) (by omega) (by omega)
  have ex2 : v_iv (Value.int x) = 0 + (1 * v_iv (n_v vs 6) + 0) := ex
  have ex3 : (-2) ≤ v_iv (Value.int x) ∧ v_iv (Value.int x) ≤ 26 := tv_rng hx
  have e_0 : n_v (vs ++ [Value.int x]) 0 = n_v vs 0 := n_v_old (by rw [hl]; decide)
  have e_2 : n_v (vs ++ [Value.int x]) 2 = n_v vs 2 := n_v_old (by rw [hl]; decide)
  have e_3 : n_v (vs ++ [Value.int x]) 3 = n_v vs 3 := n_v_old (by rw [hl]; decide)
  have e_12 : n_v (vs ++ [Value.int x]) 12 = n_v vs 12 := n_v_old (by rw [hl]; decide)
  have e_13 : n_v (vs ++ [Value.int x]) 13 = n_v vs 13 := n_v_old (by rw [hl]; decide)
  have e_14 : n_v (vs ++ [Value.int x]) 14 = Value.int x := n_v_new hl
  have nf0 : fc_1 PRD (20, [0], [60, 2, 2, 75, 31, 32, 33, 34]) ws (vs ++ [Value.int x]) := by
    refine ⟨nf_inA hl rfl, sgq_575 ?_⟩
    · show GOK (w_fi ws (n_v (vs ++ [Value.int x]) 0) 31) (w_fi ws (n_v (vs ++ [Value.int x]) 0) 32) (w_ei ws (w_ar ws (n_v (vs ++ [Value.int x]) 0) 33)) (w_ei ws (w_ar ws (n_v (vs ++ [Value.int x]) 0) 34))
      rw [e_0]
      exact vc_Mo_stOrder_29_0 (v_iv (n_v vs 1)) (v_iv (n_v vs 2)) (v_iv (n_v vs 3)) (v_iv (n_v vs 5)) (v_iv (n_v vs 6)) (v_iv (n_v vs 8)) (v_iv (n_v vs 10)) (v_iv (n_v vs 12)) (v_iv (n_v vs 13)) (w_fi ws (n_v vs 0) 45) (w_ei ws (w_ar ws (n_v vs 0) 52)) (w_ei ws (w_ar ws (n_v vs 0) 46)) (w_ei ws (w_ar ws (n_v vs 0) 33)) (w_ei ws (w_ar ws (n_v vs 0) 34)) (w_fi ws (n_v vs 0) 31) (w_fi ws (n_v vs 0) 32) (w_ei ws (w_ar ws (n_v vs 0) 35)) (w_ei ws (w_ar ws (n_v vs 0) 117)) (w_fi ws (n_v vs 0) 125) (w_fi ws (n_v vs 0) 49) (w_ei ws (w_ar ws (n_v vs 0) 42)) (w_ei ws (w_ar ws (n_v vs 0) 43)) (w_ei ws (w_ar ws (n_v vs 0) 44)) (v_iv (Value.int x)) k1 k2 k3 k5 k6 k8 k10 k12 k13 d0 d1 d2 d3 g0 f1 h2 h4 f6 f7 f8 f9 f10 f11 f12 f13 f14 f15 f16 f17 f18 f19 f20 f21 f22 hK_0_33 hK_0_34 hK_0_35 hK_0_42 hK_0_43 hK_0_44 hK_0_46 hK_0_52 hK_0_117 kz_0_31 kz_0_32 kz_0_45 kz_0_49 kz_0_125 ex2 ex3
  have nf1 : fc_1 PRD (20, [0], [60, 2, 3, 297, 31, 32, 33, 34, 35]) ws (vs ++ [Value.int x]) := by
    refine ⟨nf_inA hl rfl, sgq_1749 ?_⟩
    · show STB (w_fi ws (n_v (vs ++ [Value.int x]) 0) 31) (w_fi ws (n_v (vs ++ [Value.int x]) 0) 32) (w_ei ws (w_ar ws (n_v (vs ++ [Value.int x]) 0) 33)) (w_ei ws (w_ar ws (n_v (vs ++ [Value.int x]) 0) 34)) (w_ei ws (w_ar ws (n_v (vs ++ [Value.int x]) 0) 35))
      rw [e_0]
      exact vc_Mo_stOrder_29_1 (v_iv (n_v vs 1)) (v_iv (n_v vs 2)) (v_iv (n_v vs 3)) (v_iv (n_v vs 5)) (v_iv (n_v vs 6)) (v_iv (n_v vs 8)) (v_iv (n_v vs 10)) (v_iv (n_v vs 12)) (v_iv (n_v vs 13)) (w_fi ws (n_v vs 0) 45) (w_ei ws (w_ar ws (n_v vs 0) 52)) (w_ei ws (w_ar ws (n_v vs 0) 46)) (w_ei ws (w_ar ws (n_v vs 0) 33)) (w_ei ws (w_ar ws (n_v vs 0) 34)) (w_fi ws (n_v vs 0) 31) (w_fi ws (n_v vs 0) 32) (w_ei ws (w_ar ws (n_v vs 0) 35)) (w_ei ws (w_ar ws (n_v vs 0) 117)) (w_fi ws (n_v vs 0) 125) (w_fi ws (n_v vs 0) 49) (w_ei ws (w_ar ws (n_v vs 0) 42)) (w_ei ws (w_ar ws (n_v vs 0) 43)) (w_ei ws (w_ar ws (n_v vs 0) 44)) (v_iv (Value.int x)) k1 k2 k3 k5 k6 k8 k10 k12 k13 d0 d1 d2 d3 g0 f1 h2 h4 f6 f7 f8 f9 f10 f11 f12 f13 f14 f15 f16 f17 f18 f19 f20 f21 f22 hK_0_33 hK_0_34 hK_0_35 hK_0_42 hK_0_43 hK_0_44 hK_0_46 hK_0_52 hK_0_117 kz_0_31 kz_0_32 kz_0_45 kz_0_49 kz_0_125 ex2 ex3
  have nf2 : fc_1 PRD (20, [0], [60, 2, 3, 298, 31, 125, 33, 34, 117]) ws (vs ++ [Value.int x]) := by
    refine ⟨nf_inA hl rfl, sgq_1001 ?_⟩
    · show STR (w_fi ws (n_v (vs ++ [Value.int x]) 0) 31) (w_fi ws (n_v (vs ++ [Value.int x]) 0) 125) (w_ei ws (w_ar ws (n_v (vs ++ [Value.int x]) 0) 33)) (w_ei ws (w_ar ws (n_v (vs ++ [Value.int x]) 0) 34)) (w_ei ws (w_ar ws (n_v (vs ++ [Value.int x]) 0) 117))
      rw [e_0]
      exact vc_Mo_stOrder_29_2 (v_iv (n_v vs 1)) (v_iv (n_v vs 2)) (v_iv (n_v vs 3)) (v_iv (n_v vs 5)) (v_iv (n_v vs 6)) (v_iv (n_v vs 8)) (v_iv (n_v vs 10)) (v_iv (n_v vs 12)) (v_iv (n_v vs 13)) (w_fi ws (n_v vs 0) 45) (w_ei ws (w_ar ws (n_v vs 0) 52)) (w_ei ws (w_ar ws (n_v vs 0) 46)) (w_ei ws (w_ar ws (n_v vs 0) 33)) (w_ei ws (w_ar ws (n_v vs 0) 34)) (w_fi ws (n_v vs 0) 31) (w_fi ws (n_v vs 0) 32) (w_ei ws (w_ar ws (n_v vs 0) 35)) (w_ei ws (w_ar ws (n_v vs 0) 117)) (w_fi ws (n_v vs 0) 125) (w_fi ws (n_v vs 0) 49) (w_ei ws (w_ar ws (n_v vs 0) 42)) (w_ei ws (w_ar ws (n_v vs 0) 43)) (w_ei ws (w_ar ws (n_v vs 0) 44)) (v_iv (Value.int x)) k1 k2 k3 k5 k6 k8 k10 k12 k13 d0 d1 d2 d3 g0 f1 h2 h4 f6 f7 f8 f9 f10 f11 f12 f13 f14 f15 f16 f17 f18 f19 f20 f21 f22 hK_0_33 hK_0_34 hK_0_35 hK_0_42 hK_0_43 hK_0_44 hK_0_46 hK_0_52 hK_0_117 kz_0_31 kz_0_32 kz_0_45 kz_0_49 kz_0_125 ex2 ex3
  have nf3 : fc_1 PRD (20, [0], [50, 1, 0, 49, 1, 3, 2, 0, 49, 0, -1]) ws (vs ++ [Value.int x]) := by
    refine ⟨nf_inA hl rfl, sgq_1675 ?_⟩
    · show w_fi ws (n_v (vs ++ [Value.int x]) 0) 49 = (-1)
      rw [e_0]
      exact vc_Mo_stOrder_29_3 (v_iv (n_v vs 1)) (v_iv (n_v vs 2)) (v_iv (n_v vs 3)) (v_iv (n_v vs 5)) (v_iv (n_v vs 6)) (v_iv (n_v vs 8)) (v_iv (n_v vs 10)) (v_iv (n_v vs 12)) (v_iv (n_v vs 13)) (w_fi ws (n_v vs 0) 45) (w_ei ws (w_ar ws (n_v vs 0) 52)) (w_ei ws (w_ar ws (n_v vs 0) 46)) (w_ei ws (w_ar ws (n_v vs 0) 33)) (w_ei ws (w_ar ws (n_v vs 0) 34)) (w_fi ws (n_v vs 0) 31) (w_fi ws (n_v vs 0) 32) (w_ei ws (w_ar ws (n_v vs 0) 35)) (w_ei ws (w_ar ws (n_v vs 0) 117)) (w_fi ws (n_v vs 0) 125) (w_fi ws (n_v vs 0) 49) (w_ei ws (w_ar ws (n_v vs 0) 42)) (w_ei ws (w_ar ws (n_v vs 0) 43)) (w_ei ws (w_ar ws (n_v vs 0) 44)) (v_iv (Value.int x)) k1 k2 k3 k5 k6 k8 k10 k12 k13 d0 d1 d2 d3 g0 f1 h2 h4 f6 f7 f8 f9 f10 f11 f12 f13 f14 f15 f16 f17 f18 f19 f20 f21 f22 hK_0_33 hK_0_34 hK_0_35 hK_0_42 hK_0_43 hK_0_44 hK_0_46 hK_0_52 hK_0_117 kz_0_31 kz_0_32 kz_0_45 kz_0_49 kz_0_125 ex2 ex3
  have nf4 : fc_1 PRD (20, [0, 14], [30, -26, -1, 1, 125, -1, 0, 0]) ws (vs ++ [Value.int x]) := by
    refine ⟨nf_inA hl rfl, sgq_1750 ?_⟩
    · show (-1) * w_fi ws (n_v (vs ++ [Value.int x]) 0) 125 + ((-1) * v_iv (n_v (vs ++ [Value.int x]) 14) + 0) ≤ (-26)
      simp only [e_0, e_14]
      exact vc_Mo_stOrder_29_4 (v_iv (n_v vs 1)) (v_iv (n_v vs 2)) (v_iv (n_v vs 3)) (v_iv (n_v vs 5)) (v_iv (n_v vs 6)) (v_iv (n_v vs 8)) (v_iv (n_v vs 10)) (v_iv (n_v vs 12)) (v_iv (n_v vs 13)) (w_fi ws (n_v vs 0) 45) (w_ei ws (w_ar ws (n_v vs 0) 52)) (w_ei ws (w_ar ws (n_v vs 0) 46)) (w_ei ws (w_ar ws (n_v vs 0) 33)) (w_ei ws (w_ar ws (n_v vs 0) 34)) (w_fi ws (n_v vs 0) 31) (w_fi ws (n_v vs 0) 32) (w_ei ws (w_ar ws (n_v vs 0) 35)) (w_ei ws (w_ar ws (n_v vs 0) 117)) (w_fi ws (n_v vs 0) 125) (w_fi ws (n_v vs 0) 49) (w_ei ws (w_ar ws (n_v vs 0) 42)) (w_ei ws (w_ar ws (n_v vs 0) 43)) (w_ei ws (w_ar ws (n_v vs 0) 44)) (v_iv (Value.int x)) k1 k2 k3 k5 k6 k8 k10 k12 k13 d0 d1 d2 d3 g0 f1 h2 h4 f6 f7 f8 f9 f10 f11 f12 f13 f14 f15 f16 f17 f18 f19 f20 f21 f22 hK_0_33 hK_0_34 hK_0_35 hK_0_42 hK_0_43 hK_0_44 hK_0_46 hK_0_52 hK_0_117 kz_0_31 kz_0_32 kz_0_45 kz_0_49 kz_0_125 ex2 ex3
  have nf5 : fc_1 PRD (20, [0], [60, 2, 2, 301, 31, 125, 42, 117]) ws (vs ++ [Value.int x]) := by
    refine ⟨nf_inA hl rfl, sgq_1755 ?_⟩
    · show DRR (w_fi ws (n_v (vs ++ [Value.int x]) 0) 31) (w_fi ws (n_v (vs ++ [Value.int x]) 0) 125) (w_ei ws (w_ar ws (n_v (vs ++ [Value.int x]) 0) 42)) (w_ei ws (w_ar ws (n_v (vs ++ [Value.int x]) 0) 117))
      rw [e_0]
      exact vc_Mo_stOrder_29_5 (v_iv (n_v vs 1)) (v_iv (n_v vs 2)) (v_iv (n_v vs 3)) (v_iv (n_v vs 5)) (v_iv (n_v vs 6)) (v_iv (n_v vs 8)) (v_iv (n_v vs 10)) (v_iv (n_v vs 12)) (v_iv (n_v vs 13)) (w_fi ws (n_v vs 0) 45) (w_ei ws (w_ar ws (n_v vs 0) 52)) (w_ei ws (w_ar ws (n_v vs 0) 46)) (w_ei ws (w_ar ws (n_v vs 0) 33)) (w_ei ws (w_ar ws (n_v vs 0) 34)) (w_fi ws (n_v vs 0) 31) (w_fi ws (n_v vs 0) 32) (w_ei ws (w_ar ws (n_v vs 0) 35)) (w_ei ws (w_ar ws (n_v vs 0) 117)) (w_fi ws (n_v vs 0) 125) (w_fi ws (n_v vs 0) 49) (w_ei ws (w_ar ws (n_v vs 0) 42)) (w_ei ws (w_ar ws (n_v vs 0) 43)) (w_ei ws (w_ar ws (n_v vs 0) 44)) (v_iv (Value.int x)) k1 k2 k3 k5 k6 k8 k10 k12 k13 d0 d1 d2 d3 g0 f1 h2 h4 f6 f7 f8 f9 f10 f11 f12 f13 f14 f15 f16 f17 f18 f19 f20 f21 f22 hK_0_33 hK_0_34 hK_0_35 hK_0_42 hK_0_43 hK_0_44 hK_0_46 hK_0_52 hK_0_117 kz_0_31 kz_0_32 kz_0_45 kz_0_49 kz_0_125 ex2 ex3
  have nf6 : fc_1 PRD (20, [0], [60, 1, 4, 303, 32, 33, 34, 42, 43]) ws (vs ++ [Value.int x]) := by
    refine ⟨nf_inA hl rfl, sgq_1757 ?_⟩
    · show DEM (w_fi ws (n_v (vs ++ [Value.int x]) 0) 32) (w_ei ws (w_ar ws (n_v (vs ++ [Value.int x]) 0) 33)) (w_ei ws (w_ar ws (n_v (vs ++ [Value.int x]) 0) 34)) (w_ei ws (w_ar ws (n_v (vs ++ [Value.int x]) 0) 42)) (w_ei ws (w_ar ws (n_v (vs ++ [Value.int x]) 0) 43))
      rw [e_0]
      exact vc_Mo_stOrder_29_6 (v_iv (n_v vs 1)) (v_iv (n_v vs 2)) (v_iv (n_v vs 3)) (v_iv (n_v vs 5)) (v_iv (n_v vs 6)) (v_iv (n_v vs 8)) (v_iv (n_v vs 10)) (v_iv (n_v vs 12)) (v_iv (n_v vs 13)) (w_fi ws (n_v vs 0) 45) (w_ei ws (w_ar ws (n_v vs 0) 52)) (w_ei ws (w_ar ws (n_v vs 0) 46)) (w_ei ws (w_ar ws (n_v vs 0) 33)) (w_ei ws (w_ar ws (n_v vs 0) 34)) (w_fi ws (n_v vs 0) 31) (w_fi ws (n_v vs 0) 32) (w_ei ws (w_ar ws (n_v vs 0) 35)) (w_ei ws (w_ar ws (n_v vs 0) 117)) (w_fi ws (n_v vs 0) 125) (w_fi ws (n_v vs 0) 49) (w_ei ws (w_ar ws (n_v vs 0) 42)) (w_ei ws (w_ar ws (n_v vs 0) 43)) (w_ei ws (w_ar ws (n_v vs 0) 44)) (v_iv (Value.int x)) k1 k2 k3 k5 k6 k8 k10 k12 k13 d0 d1 d2 d3 g0 f1 h2 h4 f6 f7 f8 f9 f10 f11 f12 f13 f14 f15 f16 f17 f18 f19 f20 f21 f22 hK_0_33 hK_0_34 hK_0_35 hK_0_42 hK_0_43 hK_0_44 hK_0_46 hK_0_52 hK_0_117 kz_0_31 kz_0_32 kz_0_45 kz_0_49 kz_0_125 ex2 ex3
  have nf7 : fc_1 PRD (20, [0], [60, 1, 2, 122, 32, 35, 43]) ws (vs ++ [Value.int x]) := by
    refine ⟨nf_inA hl rfl, sgq_1455 ?_⟩
    · show UA (w_fi ws (n_v (vs ++ [Value.int x]) 0) 32) (w_ei ws (w_ar ws (n_v (vs ++ [Value.int x]) 0) 35)) (w_ei ws (w_ar ws (n_v (vs ++ [Value.int x]) 0) 43))
      rw [e_0]
      exact vc_Mo_stOrder_29_7 (v_iv (n_v vs 1)) (v_iv (n_v vs 2)) (v_iv (n_v vs 3)) (v_iv (n_v vs 5)) (v_iv (n_v vs 6)) (v_iv (n_v vs 8)) (v_iv (n_v vs 10)) (v_iv (n_v vs 12)) (v_iv (n_v vs 13)) (w_fi ws (n_v vs 0) 45) (w_ei ws (w_ar ws (n_v vs 0) 52)) (w_ei ws (w_ar ws (n_v vs 0) 46)) (w_ei ws (w_ar ws (n_v vs 0) 33)) (w_ei ws (w_ar ws (n_v vs 0) 34)) (w_fi ws (n_v vs 0) 31) (w_fi ws (n_v vs 0) 32) (w_ei ws (w_ar ws (n_v vs 0) 35)) (w_ei ws (w_ar ws (n_v vs 0) 117)) (w_fi ws (n_v vs 0) 125) (w_fi ws (n_v vs 0) 49) (w_ei ws (w_ar ws (n_v vs 0) 42)) (w_ei ws (w_ar ws (n_v vs 0) 43)) (w_ei ws (w_ar ws (n_v vs 0) 44)) (v_iv (Value.int x)) k1 k2 k3 k5 k6 k8 k10 k12 k13 d0 d1 d2 d3 g0 f1 h2 h4 f6 f7 f8 f9 f10 f11 f12 f13 f14 f15 f16 f17 f18 f19 f20 f21 f22 hK_0_33 hK_0_34 hK_0_35 hK_0_42 hK_0_43 hK_0_44 hK_0_46 hK_0_52 hK_0_117 kz_0_31 kz_0_32 kz_0_45 kz_0_49 kz_0_125 ex2 ex3
  have nf8 : fc_1 PRD (20, [0], [50, 2, 0, 125, 31, 0, 7, 4, 3, 2, 0, 125, 0, 1, 2, 0, 31]) ws (vs ++ [Value.int x]) := by
    refine ⟨nf_inA hl rfl, sgq_1752 ?_⟩
    · show (w_fi ws (n_v (vs ++ [Value.int x]) 0) 125 + 1) ≤ w_fi ws (n_v (vs ++ [Value.int x]) 0) 31
      rw [e_0]
      exact vc_Mo_stOrder_29_8 (v_iv (n_v vs 1)) (v_iv (n_v vs 2)) (v_iv (n_v vs 3)) (v_iv (n_v vs 5)) (v_iv (n_v vs 6)) (v_iv (n_v vs 8)) (v_iv (n_v vs 10)) (v_iv (n_v vs 12)) (v_iv (n_v vs 13)) (w_fi ws (n_v vs 0) 45) (w_ei ws (w_ar ws (n_v vs 0) 52)) (w_ei ws (w_ar ws (n_v vs 0) 46)) (w_ei ws (w_ar ws (n_v vs 0) 33)) (w_ei ws (w_ar ws (n_v vs 0) 34)) (w_fi ws (n_v vs 0) 31) (w_fi ws (n_v vs 0) 32) (w_ei ws (w_ar ws (n_v vs 0) 35)) (w_ei ws (w_ar ws (n_v vs 0) 117)) (w_fi ws (n_v vs 0) 125) (w_fi ws (n_v vs 0) 49) (w_ei ws (w_ar ws (n_v vs 0) 42)) (w_ei ws (w_ar ws (n_v vs 0) 43)) (w_ei ws (w_ar ws (n_v vs 0) 44)) (v_iv (Value.int x)) k1 k2 k3 k5 k6 k8 k10 k12 k13 d0 d1 d2 d3 g0 f1 h2 h4 f6 f7 f8 f9 f10 f11 f12 f13 f14 f15 f16 f17 f18 f19 f20 f21 f22 hK_0_33 hK_0_34 hK_0_35 hK_0_42 hK_0_43 hK_0_44 hK_0_46 hK_0_52 hK_0_117 kz_0_31 kz_0_32 kz_0_45 kz_0_49 kz_0_125 ex2 ex3
  have nf9 : fc_1 PRD (20, [0, 12, 13], [60, 2, 3, 307, 31, 45, 42, 46, 52]) ws (vs ++ [Value.int x]) := by
    refine ⟨nf_inA hl rfl, sgq_1763 ?_⟩
    · show BC1 (w_fi ws (n_v (vs ++ [Value.int x]) 0) 31) (w_fi ws (n_v (vs ++ [Value.int x]) 0) 45) (w_ei ws (w_ar ws (n_v (vs ++ [Value.int x]) 0) 42)) (w_ei ws (w_ar ws (n_v (vs ++ [Value.int x]) 0) 46)) (w_ei ws (w_ar ws (n_v (vs ++ [Value.int x]) 0) 52)) (v_iv (n_v (vs ++ [Value.int x]) 12)) (v_iv (n_v (vs ++ [Value.int x]) 13))
      simp only [e_0, e_12, e_13]
      exact vc_Mo_stOrder_29_9 (v_iv (n_v vs 1)) (v_iv (n_v vs 2)) (v_iv (n_v vs 3)) (v_iv (n_v vs 5)) (v_iv (n_v vs 6)) (v_iv (n_v vs 8)) (v_iv (n_v vs 10)) (v_iv (n_v vs 12)) (v_iv (n_v vs 13)) (w_fi ws (n_v vs 0) 45) (w_ei ws (w_ar ws (n_v vs 0) 52)) (w_ei ws (w_ar ws (n_v vs 0) 46)) (w_ei ws (w_ar ws (n_v vs 0) 33)) (w_ei ws (w_ar ws (n_v vs 0) 34)) (w_fi ws (n_v vs 0) 31) (w_fi ws (n_v vs 0) 32) (w_ei ws (w_ar ws (n_v vs 0) 35)) (w_ei ws (w_ar ws (n_v vs 0) 117)) (w_fi ws (n_v vs 0) 125) (w_fi ws (n_v vs 0) 49) (w_ei ws (w_ar ws (n_v vs 0) 42)) (w_ei ws (w_ar ws (n_v vs 0) 43)) (w_ei ws (w_ar ws (n_v vs 0) 44)) (v_iv (Value.int x)) k1 k2 k3 k5 k6 k8 k10 k12 k13 d0 d1 d2 d3 g0 f1 h2 h4 f6 f7 f8 f9 f10 f11 f12 f13 f14 f15 f16 f17 f18 f19 f20 f21 f22 hK_0_33 hK_0_34 hK_0_35 hK_0_42 hK_0_43 hK_0_44 hK_0_46 hK_0_52 hK_0_117 kz_0_31 kz_0_32 kz_0_45 kz_0_49 kz_0_125 ex2 ex3
  have nf10 : fc_1 PRD (20, [2, 0], [30, -1, 1, 0, 0, -1, 1, 31]) ws (vs ++ [Value.int x]) := by
    refine ⟨nf_inA hl rfl, sgq_553 ?_⟩
    · show 1 * v_iv (n_v (vs ++ [Value.int x]) 2) + ((-1) * w_fi ws (n_v (vs ++ [Value.int x]) 0) 31 + 0) ≤ (-1)
      simp only [e_0, e_2]
      exact vc_Mo_stOrder_29_10 (v_iv (n_v vs 1)) (v_iv (n_v vs 2)) (v_iv (n_v vs 3)) (v_iv (n_v vs 5)) (v_iv (n_v vs 6)) (v_iv (n_v vs 8)) (v_iv (n_v vs 10)) (v_iv (n_v vs 12)) (v_iv (n_v vs 13)) (w_fi ws (n_v vs 0) 45) (w_ei ws (w_ar ws (n_v vs 0) 52)) (w_ei ws (w_ar ws (n_v vs 0) 46)) (w_ei ws (w_ar ws (n_v vs 0) 33)) (w_ei ws (w_ar ws (n_v vs 0) 34)) (w_fi ws (n_v vs 0) 31) (w_fi ws (n_v vs 0) 32) (w_ei ws (w_ar ws (n_v vs 0) 35)) (w_ei ws (w_ar ws (n_v vs 0) 117)) (w_fi ws (n_v vs 0) 125) (w_fi ws (n_v vs 0) 49) (w_ei ws (w_ar ws (n_v vs 0) 42)) (w_ei ws (w_ar ws (n_v vs 0) 43)) (w_ei ws (w_ar ws (n_v vs 0) 44)) (v_iv (Value.int x)) k1 k2 k3 k5 k6 k8 k10 k12 k13 d0 d1 d2 d3 g0 f1 h2 h4 f6 f7 f8 f9 f10 f11 f12 f13 f14 f15 f16 f17 f18 f19 f20 f21 f22 hK_0_33 hK_0_34 hK_0_35 hK_0_42 hK_0_43 hK_0_44 hK_0_46 hK_0_52 hK_0_117 kz_0_31 kz_0_32 kz_0_45 kz_0_49 kz_0_125 ex2 ex3
  have nf11 : fc_1 PRD (20, [3, 0], [30, -1, 1, 0, 0, -1, 1, 31]) ws (vs ++ [Value.int x]) := by
    refine ⟨nf_inA hl rfl, sgq_553 ?_⟩
    · show 1 * v_iv (n_v (vs ++ [Value.int x]) 3) + ((-1) * w_fi ws (n_v (vs ++ [Value.int x]) 0) 31 + 0) ≤ (-1)
      simp only [e_0, e_3]
      exact vc_Mo_stOrder_29_11 (v_iv (n_v vs 1)) (v_iv (n_v vs 2)) (v_iv (n_v vs 3)) (v_iv (n_v vs 5)) (v_iv (n_v vs 6)) (v_iv (n_v vs 8)) (v_iv (n_v vs 10)) (v_iv (n_v vs 12)) (v_iv (n_v vs 13)) (w_fi ws (n_v vs 0) 45) (w_ei ws (w_ar ws (n_v vs 0) 52)) (w_ei ws (w_ar ws (n_v vs 0) 46)) (w_ei ws (w_ar ws (n_v vs 0) 33)) (w_ei ws (w_ar ws (n_v vs 0) 34)) (w_fi ws (n_v vs 0) 31) (w_fi ws (n_v vs 0) 32) (w_ei ws (w_ar ws (n_v vs 0) 35)) (w_ei ws (w_ar ws (n_v vs 0) 117)) (w_fi ws (n_v vs 0) 125) (w_fi ws (n_v vs 0) 49) (w_ei ws (w_ar ws (n_v vs 0) 42)) (w_ei ws (w_ar ws (n_v vs 0) 43)) (w_ei ws (w_ar ws (n_v vs 0) 44)) (v_iv (Value.int x)) k1 k2 k3 k5 k6 k8 k10 k12 k13 d0 d1 d2 d3 g0 f1 h2 h4 f6 f7 f8 f9 f10 f11 f12 f13 f14 f15 f16 f17 f18 f19 f20 f21 f22 hK_0_33 hK_0_34 hK_0_35 hK_0_42 hK_0_43 hK_0_44 hK_0_46 hK_0_52 hK_0_117 kz_0_31 kz_0_32 kz_0_45 kz_0_49 kz_0_125 ex2 ex3
  have nf12 : fc_1 PRD (20, [0, 2], [50, 0, 1, 42, 7, 5, 3, 0, 42, 1, 1, 0, 0]) ws (vs ++ [Value.int x]) := by
    refine ⟨nf_inA hl rfl, sgq_1762 ?_⟩
    · show w_ei ws (w_ar ws (n_v (vs ++ [Value.int x]) 0) 42) (v_iv (n_v (vs ++ [Value.int x]) 2)) ≠ 0
      simp only [e_0, e_2]
      exact vc_Mo_stOrder_29_12 (v_iv (n_v vs 1)) (v_iv (n_v vs 2)) (v_iv (n_v vs 3)) (v_iv (n_v vs 5)) (v_iv (n_v vs 6)) (v_iv (n_v vs 8)) (v_iv (n_v vs 10)) (v_iv (n_v vs 12)) (v_iv (n_v vs 13)) (w_fi ws (n_v vs 0) 45) (w_ei ws (w_ar ws (n_v vs 0) 52)) (w_ei ws (w_ar ws (n_v vs 0) 46)) (w_ei ws (w_ar ws (n_v vs 0) 33)) (w_ei ws (w_ar ws (n_v vs 0) 34)) (w_fi ws (n_v vs 0) 31) (w_fi ws (n_v vs 0) 32) (w_ei ws (w_ar ws (n_v vs 0) 35)) (w_ei ws (w_ar ws (n_v vs 0) 117)) (w_fi ws (n_v vs 0) 125) (w_fi ws (n_v vs 0) 49) (w_ei ws (w_ar ws (n_v vs 0) 42)) (w_ei ws (w_ar ws (n_v vs 0) 43)) (w_ei ws (w_ar ws (n_v vs 0) 44)) (v_iv (Value.int x)) k1 k2 k3 k5 k6 k8 k10 k12 k13 d0 d1 d2 d3 g0 f1 h2 h4 f6 f7 f8 f9 f10 f11 f12 f13 f14 f15 f16 f17 f18 f19 f20 f21 f22 hK_0_33 hK_0_34 hK_0_35 hK_0_42 hK_0_43 hK_0_44 hK_0_46 hK_0_52 hK_0_117 kz_0_31 kz_0_32 kz_0_45 kz_0_49 kz_0_125 ex2 ex3
  obtain ⟨x0, e0, _, _⟩ := tv_int t6 rfl
  have e1 : v_iv (n_v vs 6) = x0.toInt := by rw [e0]; rfl
  have ho : sy_ofs (vs ++ [Value.int x]) (14, 6, 0, 0) := by
    refine ⟨x, x0, by rw [List.getElem?_append_right (by rw [hl]; decide), hl]; rfl, ?_, ?_, ?_⟩
    · rw [List.getElem?_append_left (by rw [hl]; decide)]; exact n_v_some (by rw [hl]; decide) e0
    · show x0.toInt + 0 ≤ x.toInt; omega
    · show x.toInt ≤ x0.toInt + 0; omega
  exact ⟨(fun _ h => (by cases h)), [Value.int x], ag_one hx, List.forall_mem_cons.mpr ⟨⟨show (20 : Nat) < 100 from by decide, nf0⟩, List.forall_mem_cons.mpr ⟨⟨show (20 : Nat) < 100 from by decide, nf1⟩, List.forall_mem_cons.mpr ⟨⟨show (20 : Nat) < 100 from by decide, nf2⟩, List.forall_mem_cons.mpr ⟨⟨show (20 : Nat) < 100 from by decide, nf3⟩, List.forall_mem_cons.mpr ⟨⟨show (20 : Nat) < 100 from by decide, nf4⟩, List.forall_mem_cons.mpr ⟨⟨show (20 : Nat) < 100 from by decide, nf5⟩, List.forall_mem_cons.mpr ⟨⟨show (20 : Nat) < 100 from by decide, nf6⟩, List.forall_mem_cons.mpr ⟨⟨show (20 : Nat) < 100 from by decide, nf7⟩, List.forall_mem_cons.mpr ⟨⟨show (20 : Nat) < 100 from by decide, nf8⟩, List.forall_mem_cons.mpr ⟨⟨show (20 : Nat) < 100 from by decide, nf9⟩, List.forall_mem_cons.mpr ⟨⟨show (20 : Nat) < 100 from by decide, nf10⟩, List.forall_mem_cons.mpr ⟨⟨show (20 : Nat) < 100 from by decide, nf11⟩, List.forall_mem_cons.mpr ⟨⟨show (20 : Nat) < 100 from by decide, nf12⟩, (fun _ h => (by cases h))⟩⟩⟩⟩⟩⟩⟩⟩⟩⟩⟩⟩⟩, List.forall_mem_cons.mpr ⟨ho, (fun _ h => (by cases h))⟩⟩
set_option maxHeartbeats 4000000 in
theorem vc_Mo_stOrder_30_0 (x1 : Int) (x2 : Int) (x3 : Int) (x5 : Int) (x6 : Int) (x8 : Int) (x10 : Int) (x12 : Int) (bestWay_0 : Int → Int) (way_0 : Int → Int) (pt_0 : Int → Int) (ph_0 : Int → Int) (pn_0 : Int) (pm_0 : Int) (alive_0 : Int → Int) (row_0 : Int → Int) (rowMany_0 : Int) (onlyPiece_0 : Int) (drawnNode_0 : Int → Int) (drawnEdge_0 : Int → Int) (pieceOf_0 : Int → Int) (wayMany_0 : Int) (gx : Int) (k1 : 2 ≤ x1 ∧ x1 ≤ 29) (k2 : 0 ≤ x2 ∧ x2 ≤ 24) (k3 : 0 ≤ x3 ∧ x3 ≤ 24) (k5 : 1 ≤ x5 ∧ x5 ≤ 28) (k6 : (-2) ≤ x6 ∧ x6 ≤ 26) (k8 : 0 ≤ x8 ∧ x8 ≤ 24) (k10 : 0 ≤ x10 ∧ x10 ≤ 24) (k12 : 1 ≤ x12 ∧ x12 ≤ 25) (d0 : x3 + 1 ≤ x12 ∧ x12 ≤ x3 + 1) (d1 : x1 + 0 ≤ x5 ∧ x5 ≤ x1 + 4294967296) (d2 : x1 + (-4294967296) ≤ x5 ∧ x5 ≤ x1 + (-1)) (d3 : x1 + (-4294967296) ≤ x5 ∧ x5 ≤ x1 + 0) (f0 : x12 = x3 + 1) (f1 : x1 ≤ x5) (f2 : x8 ≠ x10) (h3 : x10 = bestWay_0 (x5)) (h5 : x8 = way_0 (x5)) (f7 : x5 < x1) (f8 : GOK (pn_0) (pm_0) (pt_0) (ph_0)) (f9 : STB (pn_0) (pm_0) (pt_0) (ph_0) (alive_0)) (f10 : STR (pn_0) (rowMany_0) (pt_0) (ph_0) (row_0)) (f11 : onlyPiece_0 = (-1)) (f12 : (-1) * rowMany_0 + ((-1) * x6 + 0) ≤ (-26)) (f13 : DRR (pn_0) (rowMany_0) (drawnNode_0) (row_0)) (f14 : DEM (pm_0) (pt_0) (ph_0) (drawnNode_0) (drawnEdge_0)) (f15 : UA (pm_0) (alive_0) (drawnEdge_0)) (f16 : (rowMany_0 + 1) ≤ pn_0) (f17 : SB1 (pn_0) (pm_0) (onlyPiece_0) (pt_0) (ph_0) (drawnEdge_0) (pieceOf_0) (drawnNode_0) (bestWay_0) (x1) (x2) (x3)) (f18 : WYM (pn_0) (wayMany_0) (drawnNode_0) (way_0)) (f19 : 1 * x2 + ((-1) * pn_0 + 0) ≤ (-1)) (f20 : 1 * x3 + ((-1) * pn_0 + 0) ≤ (-1)) (f21 : drawnNode_0 (x2) ≠ 0) (f22 : x1 = wayMany_0) (hK_0_33 : ∀ j : Int, 0 ≤ j → j < 80 → 0 ≤ pt_0 j ∧ pt_0 j ≤ 24) (hK_0_34 : ∀ j : Int, 0 ≤ j → j < 80 → 0 ≤ ph_0 j ∧ ph_0 j ≤ 24) (hK_0_35 : ∀ j : Int, 0 ≤ j → j < 80 → 0 ≤ alive_0 j ∧ alive_0 j ≤ 1) (hK_0_42 : ∀ j : Int, 0 ≤ j → j < 26 → 0 ≤ drawnNode_0 j ∧ drawnNode_0 j ≤ 1) (hK_0_43 : ∀ j : Int, 0 ≤ j → j < 80 → 0 ≤ drawnEdge_0 j ∧ drawnEdge_0 j ≤ 1) (hK_0_44 : ∀ j : Int, 0 ≤ j → j < 80 → (-1) ≤ pieceOf_0 j ∧ pieceOf_0 j ≤ 79) (hK_0_46 : ∀ j : Int, 0 ≤ j → j < 30 → 0 ≤ way_0 j ∧ way_0 j ≤ 24) (hK_0_52 : ∀ j : Int, 0 ≤ j → j < 30 → 0 ≤ bestWay_0 j ∧ bestWay_0 j ≤ 24) (hK_0_117 : ∀ j : Int, 0 ≤ j → j < 100 → 0 ≤ row_0 j ∧ row_0 j ≤ 75) (kz_0_31 : 0 ≤ pn_0 ∧ pn_0 ≤ 25) (kz_0_32 : 0 ≤ pm_0 ∧ pm_0 ≤ 80) (kz_0_45 : 0 ≤ wayMany_0 ∧ wayMany_0 ≤ 30) (kz_0_49 : (-1) ≤ onlyPiece_0 ∧ onlyPiece_0 ≤ 79) (kz_0_125 : 0 ≤ rowMany_0 ∧ rowMany_0 ≤ 100) (ex2 : gx = 0 + (1 * x6 + 0)) (ex3 : (-2) ≤ gx ∧ gx ≤ 26) : GOK (pn_0) (pm_0) (pt_0) (ph_0) := by
  first
    | assumption
    | exact ‹STB _ _ _ _ _›.1.1
set_option maxHeartbeats 4000000 in
theorem vc_Mo_stOrder_30_1 (x1 : Int) (x2 : Int) (x3 : Int) (x5 : Int) (x6 : Int) (x8 : Int) (x10 : Int) (x12 : Int) (bestWay_0 : Int → Int) (way_0 : Int → Int) (pt_0 : Int → Int) (ph_0 : Int → Int) (pn_0 : Int) (pm_0 : Int) (alive_0 : Int → Int) (row_0 : Int → Int) (rowMany_0 : Int) (onlyPiece_0 : Int) (drawnNode_0 : Int → Int) (drawnEdge_0 : Int → Int) (pieceOf_0 : Int → Int) (wayMany_0 : Int) (gx : Int) (k1 : 2 ≤ x1 ∧ x1 ≤ 29) (k2 : 0 ≤ x2 ∧ x2 ≤ 24) (k3 : 0 ≤ x3 ∧ x3 ≤ 24) (k5 : 1 ≤ x5 ∧ x5 ≤ 28) (k6 : (-2) ≤ x6 ∧ x6 ≤ 26) (k8 : 0 ≤ x8 ∧ x8 ≤ 24) (k10 : 0 ≤ x10 ∧ x10 ≤ 24) (k12 : 1 ≤ x12 ∧ x12 ≤ 25) (d0 : x3 + 1 ≤ x12 ∧ x12 ≤ x3 + 1) (d1 : x1 + 0 ≤ x5 ∧ x5 ≤ x1 + 4294967296) (d2 : x1 + (-4294967296) ≤ x5 ∧ x5 ≤ x1 + (-1)) (d3 : x1 + (-4294967296) ≤ x5 ∧ x5 ≤ x1 + 0) (f0 : x12 = x3 + 1) (f1 : x1 ≤ x5) (f2 : x8 ≠ x10) (h3 : x10 = bestWay_0 (x5)) (h5 : x8 = way_0 (x5)) (f7 : x5 < x1) (f8 : GOK (pn_0) (pm_0) (pt_0) (ph_0)) (f9 : STB (pn_0) (pm_0) (pt_0) (ph_0) (alive_0)) (f10 : STR (pn_0) (rowMany_0) (pt_0) (ph_0) (row_0)) (f11 : onlyPiece_0 = (-1)) (f12 : (-1) * rowMany_0 + ((-1) * x6 + 0) ≤ (-26)) (f13 : DRR (pn_0) (rowMany_0) (drawnNode_0) (row_0)) (f14 : DEM (pm_0) (pt_0) (ph_0) (drawnNode_0) (drawnEdge_0)) (f15 : UA (pm_0) (alive_0) (drawnEdge_0)) (f16 : (rowMany_0 + 1) ≤ pn_0) (f17 : SB1 (pn_0) (pm_0) (onlyPiece_0) (pt_0) (ph_0) (drawnEdge_0) (pieceOf_0) (drawnNode_0) (bestWay_0) (x1) (x2) (x3)) (f18 : WYM (pn_0) (wayMany_0) (drawnNode_0) (way_0)) (f19 : 1 * x2 + ((-1) * pn_0 + 0) ≤ (-1)) (f20 : 1 * x3 + ((-1) * pn_0 + 0) ≤ (-1)) (f21 : drawnNode_0 (x2) ≠ 0) (f22 : x1 = wayMany_0) (hK_0_33 : ∀ j : Int, 0 ≤ j → j < 80 → 0 ≤ pt_0 j ∧ pt_0 j ≤ 24) (hK_0_34 : ∀ j : Int, 0 ≤ j → j < 80 → 0 ≤ ph_0 j ∧ ph_0 j ≤ 24) (hK_0_35 : ∀ j : Int, 0 ≤ j → j < 80 → 0 ≤ alive_0 j ∧ alive_0 j ≤ 1) (hK_0_42 : ∀ j : Int, 0 ≤ j → j < 26 → 0 ≤ drawnNode_0 j ∧ drawnNode_0 j ≤ 1) (hK_0_43 : ∀ j : Int, 0 ≤ j → j < 80 → 0 ≤ drawnEdge_0 j ∧ drawnEdge_0 j ≤ 1) (hK_0_44 : ∀ j : Int, 0 ≤ j → j < 80 → (-1) ≤ pieceOf_0 j ∧ pieceOf_0 j ≤ 79) (hK_0_46 : ∀ j : Int, 0 ≤ j → j < 30 → 0 ≤ way_0 j ∧ way_0 j ≤ 24) (hK_0_52 : ∀ j : Int, 0 ≤ j → j < 30 → 0 ≤ bestWay_0 j ∧ bestWay_0 j ≤ 24) (hK_0_117 : ∀ j : Int, 0 ≤ j → j < 100 → 0 ≤ row_0 j ∧ row_0 j ≤ 75) (kz_0_31 : 0 ≤ pn_0 ∧ pn_0 ≤ 25) (kz_0_32 : 0 ≤ pm_0 ∧ pm_0 ≤ 80) (kz_0_45 : 0 ≤ wayMany_0 ∧ wayMany_0 ≤ 30) (kz_0_49 : (-1) ≤ onlyPiece_0 ∧ onlyPiece_0 ≤ 79) (kz_0_125 : 0 ≤ rowMany_0 ∧ rowMany_0 ≤ 100) (ex2 : gx = 0 + (1 * x6 + 0)) (ex3 : (-2) ≤ gx ∧ gx ≤ 26) : STB (pn_0) (pm_0) (pt_0) (ph_0) (alive_0) := by
  first | assumption
set_option maxHeartbeats 4000000 in
theorem vc_Mo_stOrder_30_2 (x1 : Int) (x2 : Int) (x3 : Int) (x5 : Int) (x6 : Int) (x8 : Int) (x10 : Int) (x12 : Int) (bestWay_0 : Int → Int) (way_0 : Int → Int) (pt_0 : Int → Int) (ph_0 : Int → Int) (pn_0 : Int) (pm_0 : Int) (alive_0 : Int → Int) (row_0 : Int → Int) (rowMany_0 : Int) (onlyPiece_0 : Int) (drawnNode_0 : Int → Int) (drawnEdge_0 : Int → Int) (pieceOf_0 : Int → Int) (wayMany_0 : Int) (gx : Int) (k1 : 2 ≤ x1 ∧ x1 ≤ 29) (k2 : 0 ≤ x2 ∧ x2 ≤ 24) (k3 : 0 ≤ x3 ∧ x3 ≤ 24) (k5 : 1 ≤ x5 ∧ x5 ≤ 28) (k6 : (-2) ≤ x6 ∧ x6 ≤ 26) (k8 : 0 ≤ x8 ∧ x8 ≤ 24) (k10 : 0 ≤ x10 ∧ x10 ≤ 24) (k12 : 1 ≤ x12 ∧ x12 ≤ 25) (d0 : x3 + 1 ≤ x12 ∧ x12 ≤ x3 + 1) (d1 : x1 + 0 ≤ x5 ∧ x5 ≤ x1 + 4294967296) (d2 : x1 + (-4294967296) ≤ x5 ∧ x5 ≤ x1 + (-1)) (d3 : x1 + (-4294967296) ≤ x5 ∧ x5 ≤ x1 + 0) (f0 : x12 = x3 + 1) (f1 : x1 ≤ x5) (f2 : x8 ≠ x10) (h3 : x10 = bestWay_0 (x5)) (h5 : x8 = way_0 (x5)) (f7 : x5 < x1) (f8 : GOK (pn_0) (pm_0) (pt_0) (ph_0)) (f9 : STB (pn_0) (pm_0) (pt_0) (ph_0) (alive_0)) (f10 : STR (pn_0) (rowMany_0) (pt_0) (ph_0) (row_0)) (f11 : onlyPiece_0 = (-1)) (f12 : (-1) * rowMany_0 + ((-1) * x6 + 0) ≤ (-26)) (f13 : DRR (pn_0) (rowMany_0) (drawnNode_0) (row_0)) (f14 : DEM (pm_0) (pt_0) (ph_0) (drawnNode_0) (drawnEdge_0)) (f15 : UA (pm_0) (alive_0) (drawnEdge_0)) (f16 : (rowMany_0 + 1) ≤ pn_0) (f17 : SB1 (pn_0) (pm_0) (onlyPiece_0) (pt_0) (ph_0) (drawnEdge_0) (pieceOf_0) (drawnNode_0) (bestWay_0) (x1) (x2) (x3)) (f18 : WYM (pn_0) (wayMany_0) (drawnNode_0) (way_0)) (f19 : 1 * x2 + ((-1) * pn_0 + 0) ≤ (-1)) (f20 : 1 * x3 + ((-1) * pn_0 + 0) ≤ (-1)) (f21 : drawnNode_0 (x2) ≠ 0) (f22 : x1 = wayMany_0) (hK_0_33 : ∀ j : Int, 0 ≤ j → j < 80 → 0 ≤ pt_0 j ∧ pt_0 j ≤ 24) (hK_0_34 : ∀ j : Int, 0 ≤ j → j < 80 → 0 ≤ ph_0 j ∧ ph_0 j ≤ 24) (hK_0_35 : ∀ j : Int, 0 ≤ j → j < 80 → 0 ≤ alive_0 j ∧ alive_0 j ≤ 1) (hK_0_42 : ∀ j : Int, 0 ≤ j → j < 26 → 0 ≤ drawnNode_0 j ∧ drawnNode_0 j ≤ 1) (hK_0_43 : ∀ j : Int, 0 ≤ j → j < 80 → 0 ≤ drawnEdge_0 j ∧ drawnEdge_0 j ≤ 1) (hK_0_44 : ∀ j : Int, 0 ≤ j → j < 80 → (-1) ≤ pieceOf_0 j ∧ pieceOf_0 j ≤ 79) (hK_0_46 : ∀ j : Int, 0 ≤ j → j < 30 → 0 ≤ way_0 j ∧ way_0 j ≤ 24) (hK_0_52 : ∀ j : Int, 0 ≤ j → j < 30 → 0 ≤ bestWay_0 j ∧ bestWay_0 j ≤ 24) (hK_0_117 : ∀ j : Int, 0 ≤ j → j < 100 → 0 ≤ row_0 j ∧ row_0 j ≤ 75) (kz_0_31 : 0 ≤ pn_0 ∧ pn_0 ≤ 25) (kz_0_32 : 0 ≤ pm_0 ∧ pm_0 ≤ 80) (kz_0_45 : 0 ≤ wayMany_0 ∧ wayMany_0 ≤ 30) (kz_0_49 : (-1) ≤ onlyPiece_0 ∧ onlyPiece_0 ≤ 79) (kz_0_125 : 0 ≤ rowMany_0 ∧ rowMany_0 ≤ 100) (ex2 : gx = 0 + (1 * x6 + 0)) (ex3 : (-2) ≤ gx ∧ gx ≤ 26) : STR (pn_0) (rowMany_0) (pt_0) (ph_0) (row_0) := by
  first | assumption
set_option maxHeartbeats 4000000 in
theorem vc_Mo_stOrder_30_3 (x1 : Int) (x2 : Int) (x3 : Int) (x5 : Int) (x6 : Int) (x8 : Int) (x10 : Int) (x12 : Int) (bestWay_0 : Int → Int) (way_0 : Int → Int) (pt_0 : Int → Int) (ph_0 : Int → Int) (pn_0 : Int) (pm_0 : Int) (alive_0 : Int → Int) (row_0 : Int → Int) (rowMany_0 : Int) (onlyPiece_0 : Int) (drawnNode_0 : Int → Int) (drawnEdge_0 : Int → Int) (pieceOf_0 : Int → Int) (wayMany_0 : Int) (gx : Int) (k1 : 2 ≤ x1 ∧ x1 ≤ 29) (k2 : 0 ≤ x2 ∧ x2 ≤ 24) (k3 : 0 ≤ x3 ∧ x3 ≤ 24) (k5 : 1 ≤ x5 ∧ x5 ≤ 28) (k6 : (-2) ≤ x6 ∧ x6 ≤ 26) (k8 : 0 ≤ x8 ∧ x8 ≤ 24) (k10 : 0 ≤ x10 ∧ x10 ≤ 24) (k12 : 1 ≤ x12 ∧ x12 ≤ 25) (d0 : x3 + 1 ≤ x12 ∧ x12 ≤ x3 + 1) (d1 : x1 + 0 ≤ x5 ∧ x5 ≤ x1 + 4294967296) (d2 : x1 + (-4294967296) ≤ x5 ∧ x5 ≤ x1 + (-1)) (d3 : x1 + (-4294967296) ≤ x5 ∧ x5 ≤ x1 + 0) (f0 : x12 = x3 + 1) (f1 : x1 ≤ x5) (f2 : x8 ≠ x10) (h3 : x10 = bestWay_0 (x5)) (h5 : x8 = way_0 (x5)) (f7 : x5 < x1) (f8 : GOK (pn_0) (pm_0) (pt_0) (ph_0)) (f9 : STB (pn_0) (pm_0) (pt_0) (ph_0) (alive_0)) (f10 : STR (pn_0) (rowMany_0) (pt_0) (ph_0) (row_0)) (f11 : onlyPiece_0 = (-1)) (f12 : (-1) * rowMany_0 + ((-1) * x6 + 0) ≤ (-26)) (f13 : DRR (pn_0) (rowMany_0) (drawnNode_0) (row_0)) (f14 : DEM (pm_0) (pt_0) (ph_0) (drawnNode_0) (drawnEdge_0)) (f15 : UA (pm_0) (alive_0) (drawnEdge_0)) (f16 : (rowMany_0 + 1) ≤ pn_0) (f17 : SB1 (pn_0) (pm_0) (onlyPiece_0) (pt_0) (ph_0) (drawnEdge_0) (pieceOf_0) (drawnNode_0) (bestWay_0) (x1) (x2) (x3)) (f18 : WYM (pn_0) (wayMany_0) (drawnNode_0) (way_0)) (f19 : 1 * x2 + ((-1) * pn_0 + 0) ≤ (-1)) (f20 : 1 * x3 + ((-1) * pn_0 + 0) ≤ (-1)) (f21 : drawnNode_0 (x2) ≠ 0) (f22 : x1 = wayMany_0) (hK_0_33 : ∀ j : Int, 0 ≤ j → j < 80 → 0 ≤ pt_0 j ∧ pt_0 j ≤ 24) (hK_0_34 : ∀ j : Int, 0 ≤ j → j < 80 → 0 ≤ ph_0 j ∧ ph_0 j ≤ 24) (hK_0_35 : ∀ j : Int, 0 ≤ j → j < 80 → 0 ≤ alive_0 j ∧ alive_0 j ≤ 1) (hK_0_42 : ∀ j : Int, 0 ≤ j → j < 26 → 0 ≤ drawnNode_0 j ∧ drawnNode_0 j ≤ 1) (hK_0_43 : ∀ j : Int, 0 ≤ j → j < 80 → 0 ≤ drawnEdge_0 j ∧ drawnEdge_0 j ≤ 1) (hK_0_44 : ∀ j : Int, 0 ≤ j → j < 80 → (-1) ≤ pieceOf_0 j ∧ pieceOf_0 j ≤ 79) (hK_0_46 : ∀ j : Int, 0 ≤ j → j < 30 → 0 ≤ way_0 j ∧ way_0 j ≤ 24) (hK_0_52 : ∀ j : Int, 0 ≤ j → j < 30 → 0 ≤ bestWay_0 j ∧ bestWay_0 j ≤ 24) (hK_0_117 : ∀ j : Int, 0 ≤ j → j < 100 → 0 ≤ row_0 j ∧ row_0 j ≤ 75) (kz_0_31 : 0 ≤ pn_0 ∧ pn_0 ≤ 25) (kz_0_32 : 0 ≤ pm_0 ∧ pm_0 ≤ 80) (kz_0_45 : 0 ≤ wayMany_0 ∧ wayMany_0 ≤ 30) (kz_0_49 : (-1) ≤ onlyPiece_0 ∧ onlyPiece_0 ≤ 79) (kz_0_125 : 0 ≤ rowMany_0 ∧ rowMany_0 ≤ 100) (ex2 : gx = 0 + (1 * x6 + 0)) (ex3 : (-2) ≤ gx ∧ gx ≤ 26) : onlyPiece_0 = (-1) := by
  first
    | omega
    | (have h := ‹STB _ _ _ _ _›.1.2.2; omega)
    | (have h := ‹STR _ _ _ _ _›.1; omega)
    | (have h := ‹STR _ _ _ _ _›.1
       have w := ‹STR _ _ _ _ _›.2.1 x1 (by omega) (by omega)
       omega)
    | (have h := bc_len ‹BC1 _ _ _ _ _ _ _›
       have h2 := ‹STR _ _ _ _ _›.1
       omega)
    | (have h := (sb_way ‹SB1 _ _ _ _ _ _ _ _ _ _ _ _› (by omega)).1
       have h2 := ‹STR _ _ _ _ _›.1
       omega)
    | (have h := ‹WYM _ _ _ _›.1
       have h2 := ‹STR _ _ _ _ _›.1
       omega)
