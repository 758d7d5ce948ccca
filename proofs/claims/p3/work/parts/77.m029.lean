
set_option maxRecDepth 100000 in
theorem c_Mo_next {l : Launch} {D : va_G} {kA : Nat → ClassId} (h_Mo_byteAt : ct_ok PRD l D kA GG y_Mo_byteAt z_Mo_byteAt e_Mo_byteAt) (h_Mo_isDigit : ct_ok PRD l D kA GG y_Mo_isDigit z_Mo_isDigit e_Mo_isDigit) (h_Mo_isLetter : ct_ok PRD l D kA GG y_Mo_isLetter z_Mo_isLetter e_Mo_isLetter) : ct_ok PRD l D kA GG y_Mo_next z_Mo_next e_Mo_next := chk_all_ok (FT := [(422, 13, 11), (431, 13, 15), (437, 13, 14)]) (PT := [(422, 13, 11, .int), (428, 13, 13, .int), (431, 13, 15, .int), (434, 13, 12, .int), (437, 13, 14, .int)]) (CT := t_Mo_next_ct) (KT := [(1, 447, .int (99999), (0, 99999, 99999, []))]) (NT := []) (AN := n_Mo_next_an) (OT := [o_Mo_next_0, o_Mo_next_1, o_Mo_next_2, o_Mo_next_3, o_Mo_next_4, o_Mo_next_5, o_Mo_next_6, o_Mo_next_7, o_Mo_next_8, o_Mo_next_9, o_Mo_next_10, o_Mo_next_11, o_Mo_next_12, o_Mo_next_13, o_Mo_next_14, o_Mo_next_15, o_Mo_next_16, o_Mo_next_17, o_Mo_next_18, o_Mo_next_19, o_Mo_next_20, o_Mo_next_21, o_Mo_next_22, o_Mo_next_23, o_Mo_next_24, o_Mo_next_25, o_Mo_next_26, o_Mo_next_27, o_Mo_next_28, o_Mo_next_29, o_Mo_next_30, o_Mo_next_31, o_Mo_next_32, o_Mo_next_33, o_Mo_next_34, o_Mo_next_35, o_Mo_next_36, o_Mo_next_37, o_Mo_next_38, o_Mo_next_39, o_Mo_next_40, o_Mo_next_41, o_Mo_next_42, o_Mo_next_43, o_Mo_next_44, o_Mo_next_45, o_Mo_next_46, o_Mo_next_47, o_Mo_next_48, o_Mo_next_49, o_Mo_next_50, o_Mo_next_51, o_Mo_next_52, o_Mo_next_53, o_Mo_next_54, o_Mo_next_55, o_Mo_next_56, o_Mo_next_57, o_Mo_next_58, o_Mo_next_59, o_Mo_next_60, o_Mo_next_61, o_Mo_next_62, o_Mo_next_63, o_Mo_next_64, o_Mo_next_65, o_Mo_next_66, o_Mo_next_67, o_Mo_next_68, o_Mo_next_69, o_Mo_next_70, o_Mo_next_71, o_Mo_next_72, o_Mo_next_73, o_Mo_next_74, o_Mo_next_75, o_Mo_next_76, o_Mo_next_77, o_Mo_next_78, o_Mo_next_79, o_Mo_next_80, o_Mo_next_81]) 3 1576 (List.forall_mem_cons.mpr ⟨oo_Mo_next_0, List.forall_mem_cons.mpr ⟨oo_Mo_next_1, List.forall_mem_cons.mpr ⟨oo_Mo_next_2, List.forall_mem_cons.mpr ⟨oo_Mo_next_3, List.forall_mem_cons.mpr ⟨oo_Mo_next_4, List.forall_mem_cons.mpr ⟨oo_Mo_next_5, List.forall_mem_cons.mpr ⟨oo_Mo_next_6, List.forall_mem_cons.mpr ⟨oo_Mo_next_7, List.forall_mem_cons.mpr ⟨oo_Mo_next_8, List.forall_mem_cons.mpr ⟨oo_Mo_next_9, List.forall_mem_cons.mpr ⟨oo_Mo_next_10, List.forall_mem_cons.mpr ⟨oo_Mo_next_11, List.forall_mem_cons.mpr ⟨oo_Mo_next_12, List.forall_mem_cons.mpr ⟨oo_Mo_next_13, List.forall_mem_cons.mpr ⟨oo_Mo_next_14, List.forall_mem_cons.mpr ⟨oo_Mo_next_15, List.forall_mem_cons.mpr ⟨oo_Mo_next_16, List.forall_mem_cons.mpr ⟨oo_Mo_next_17, List.forall_mem_cons.mpr ⟨oo_Mo_next_18, List.forall_mem_cons.mpr ⟨oo_Mo_next_19, List.forall_mem_cons.mpr ⟨oo_Mo_next_20, List.forall_mem_cons.mpr ⟨oo_Mo_next_21, List.forall_mem_cons.mpr ⟨oo_Mo_next_22, List.forall_mem_cons.mpr ⟨oo_Mo_next_23, List.forall_mem_cons.mpr ⟨oo_Mo_next_24, List.forall_mem_cons.mpr ⟨oo_Mo_next_25, List.forall_mem_cons.mpr ⟨oo_Mo_next_26, List.forall_mem_cons.mpr ⟨oo_Mo_next_27, List.forall_mem_cons.mpr ⟨oo_Mo_next_28, List.forall_mem_cons.mpr ⟨oo_Mo_next_29, List.forall_mem_cons.mpr ⟨oo_Mo_next_30, List.forall_mem_cons.mpr ⟨oo_Mo_next_31, List.forall_mem_cons.mpr ⟨oo_Mo_next_32, List.forall_mem_cons.mpr ⟨oo_Mo_next_33, List.forall_mem_cons.mpr ⟨oo_Mo_next_34, List.forall_mem_cons.mpr ⟨oo_Mo_next_35, List.forall_mem_cons.mpr ⟨oo_Mo_next_36, List.forall_mem_cons.mpr ⟨oo_Mo_next_37, List.forall_mem_cons.mpr ⟨oo_Mo_next_38, List.forall_mem_cons.mpr ⟨oo_Mo_next_39, List.forall_mem_cons.mpr ⟨oo_Mo_next_40, List.forall_mem_cons.mpr ⟨oo_Mo_next_41, List.forall_mem_cons.mpr ⟨oo_Mo_next_42, List.forall_mem_cons.mpr ⟨oo_Mo_next_43, List.forall_mem_cons.mpr ⟨oo_Mo_next_44, List.forall_mem_cons.mpr ⟨oo_Mo_next_45, List.forall_mem_cons.mpr ⟨oo_Mo_next_46, List.forall_mem_cons.mpr ⟨oo_Mo_next_47, List.forall_mem_cons.mpr ⟨oo_Mo_next_48, List.forall_mem_cons.mpr ⟨oo_Mo_next_49, List.forall_mem_cons.mpr ⟨oo_Mo_next_50, List.forall_mem_cons.mpr ⟨oo_Mo_next_51, List.forall_mem_cons.mpr ⟨oo_Mo_next_52, List.forall_mem_cons.mpr ⟨oo_Mo_next_53, List.forall_mem_cons.mpr ⟨oo_Mo_next_54, List.forall_mem_cons.mpr ⟨oo_Mo_next_55, List.forall_mem_cons.mpr ⟨oo_Mo_next_56, List.forall_mem_cons.mpr ⟨oo_Mo_next_57, List.forall_mem_cons.mpr ⟨oo_Mo_next_58, List.forall_mem_cons.mpr ⟨oo_Mo_next_59, List.forall_mem_cons.mpr ⟨oo_Mo_next_60, List.forall_mem_cons.mpr ⟨oo_Mo_next_61, List.forall_mem_cons.mpr ⟨oo_Mo_next_62, List.forall_mem_cons.mpr ⟨oo_Mo_next_63, List.forall_mem_cons.mpr ⟨oo_Mo_next_64, List.forall_mem_cons.mpr ⟨oo_Mo_next_65, List.forall_mem_cons.mpr ⟨oo_Mo_next_66, List.forall_mem_cons.mpr ⟨oo_Mo_next_67, List.forall_mem_cons.mpr ⟨oo_Mo_next_68, List.forall_mem_cons.mpr ⟨oo_Mo_next_69, List.forall_mem_cons.mpr ⟨oo_Mo_next_70, List.forall_mem_cons.mpr ⟨oo_Mo_next_71, List.forall_mem_cons.mpr ⟨oo_Mo_next_72, List.forall_mem_cons.mpr ⟨oo_Mo_next_73, List.forall_mem_cons.mpr ⟨oo_Mo_next_74, List.forall_mem_cons.mpr ⟨oo_Mo_next_75, List.forall_mem_cons.mpr ⟨oo_Mo_next_76, List.forall_mem_cons.mpr ⟨oo_Mo_next_77, List.forall_mem_cons.mpr ⟨oo_Mo_next_78, List.forall_mem_cons.mpr ⟨oo_Mo_next_79, List.forall_mem_cons.mpr ⟨oo_Mo_next_80, List.forall_mem_cons.mpr ⟨oo_Mo_next_81, List.forall_mem_nil _⟩⟩⟩⟩⟩⟩⟩⟩⟩⟩⟩⟩⟩⟩⟩⟩⟩⟩⟩⟩⟩⟩⟩⟩⟩⟩⟩⟩⟩⟩⟩⟩⟩⟩⟩⟩⟩⟩⟩⟩⟩⟩⟩⟩⟩⟩⟩⟩⟩⟩⟩⟩⟩⟩⟩⟩⟩⟩⟩⟩⟩⟩⟩⟩⟩⟩⟩⟩⟩⟩⟩⟩⟩⟩⟩⟩⟩⟩⟩⟩⟩⟩) (by decide +kernel) ⟨List.forall_mem_cons.mpr ⟨gf_Mo_422, List.forall_mem_cons.mpr ⟨gf_Mo_431, List.forall_mem_cons.mpr ⟨gf_Mo_437, List.forall_mem_nil _⟩⟩⟩, List.forall_mem_cons.mpr ⟨pf_Mo_422, List.forall_mem_cons.mpr ⟨pf_Mo_428, List.forall_mem_cons.mpr ⟨pf_Mo_431, List.forall_mem_cons.mpr ⟨pf_Mo_434, List.forall_mem_cons.mpr ⟨pf_Mo_437, List.forall_mem_nil _⟩⟩⟩⟩⟩, List.forall_mem_cons.mpr ⟨cl_static (y := y_Mo_isLetter) h_Mo_isLetter wm_2989 wm_9 wm_2987 wm_2988 ⟨by decide, by decide, by decide +kernel⟩ (by decide), List.forall_mem_cons.mpr ⟨cl_static (y := y_Mo_isDigit) h_Mo_isDigit wm_2992 wm_9 wm_2990 wm_2991 ⟨by decide, by decide, by decide +kernel⟩ (by decide), List.forall_mem_cons.mpr ⟨cl_virtual (y := y_Mo_byteAt) (ci := 13) rfl rfl ⟨_, _, rfl⟩ (by decide +kernel) h_Mo_byteAt wm_2986 wm_9 wm_2983 wm_2985 wv_12_12 ⟨by decide, by decide, by decide +kernel⟩ (by decide), List.forall_mem_nil _⟩⟩⟩, List.forall_mem_cons.mpr ⟨kx_Mo_1_447, List.forall_mem_nil _⟩, List.forall_mem_nil _, GG_pl⟩ (by decide +kernel)
set_option maxHeartbeats 4000000 in
theorem vc_Mo_plane_0_0 (x1 : Int) (x2 : Int) (x3 : Int) (all_0 : Int → Int) (r_0 : Int) (all_1 : Int → Int) (r_1 : Int) (all_2 : Int → Int) (r_2 : Int) (pn_0 : Int) (pn_1 : Int) (pm_0 : Int) (pt_0 : Int → Int) (pt_1 : Int → Int) (pt_2 : Int → Int) (ph_0 : Int → Int) (ph_1 : Int → Int) (ph_2 : Int → Int) (alive_0 : Int → Int) (alive_1 : Int → Int) (alive_2 : Int → Int) (k1 : 0 ≤ x1 ∧ x1 ≤ 24) (k2 : 0 ≤ x2 ∧ x2 ≤ 48) (k3 : 0 ≤ x3 ∧ x3 ≤ 0) (f0 : 1 * x2 + ((-1) * all_0 (r_0 + 1) + 0) ≤ 0) (f1 : (-1) * x2 + (1 * all_0 (r_0 + 1) + 0) ≤ 0) (f2 : 1 * x1 + ((-1) * all_0 (r_0 + 0) + 0) ≤ 0) (f3 : (-1) * x1 + (1 * all_0 (r_0 + 0) + 0) ≤ 0) (f14 : SGR (r_2) (all_2)) (fe_0_5_1 : r_0 = r_1) (fe_0_31_1 : pn_0 = pn_1) (fe_0_32_1 : pm_0 = x2) (fe_0_5_2 : r_1 = r_2) (fe_0_31_2 : pn_1 = x1) (hE_0_2_1 : ∀ j : Int, all_0 j = all_1 j) (hE_0_2_2 : ∀ j : Int, all_1 j = all_2 j) (hE_0_33_1 : ∀ j : Int, pt_0 j = pt_1 j) (hE_0_33_2 : ∀ j : Int, pt_1 j = pt_2 j) (hE_0_34_1 : ∀ j : Int, ph_0 j = ph_1 j) (hE_0_34_2 : ∀ j : Int, ph_1 j = ph_2 j) (hE_0_35_1 : ∀ j : Int, alive_0 j = alive_1 j) (hE_0_35_2 : ∀ j : Int, alive_1 j = alive_2 j) (kz_0_31 : 0 ≤ pn_0 ∧ pn_0 ≤ 25) (kz_0_32 : 0 ≤ pm_0 ∧ pm_0 ≤ 80) : PL1 (r_0) (pn_0) (pm_0) (all_0) (pt_0) (ph_0) (alive_0) (x3) := by
  subst fe_0_5_1
  subst fe_0_31_1
  subst fe_0_5_2
  have e_hE_0_2_1 := funext hE_0_2_1; subst e_hE_0_2_1
  have e_hE_0_2_2 := funext hE_0_2_2; subst e_hE_0_2_2
  have e_hE_0_33_1 := funext hE_0_33_1; subst e_hE_0_33_1
  have e_hE_0_33_2 := funext hE_0_33_2; subst e_hE_0_33_2
  have e_hE_0_34_1 := funext hE_0_34_1; subst e_hE_0_34_1
  have e_hE_0_34_2 := funext hE_0_34_2; subst e_hE_0_34_2
  have e_hE_0_35_1 := funext hE_0_35_1; subst e_hE_0_35_1
  have e_hE_0_35_2 := funext hE_0_35_2; subst e_hE_0_35_2
  try simp only [Int.add_zero] at *
  first
    | exact ⟨‹SGR _ _›, by omega, by omega, fun e a b => by exfalso; omega⟩
def o_Mo_plane_0 : or_T := (18, 4, [(0, (2, 0, 0, [165])), (1, (0, 0, 24, [])), (2, (0, 0, 48, [])), (3, (0, 0, 0, []))], [(20, [2, 0], [30, 0, 1, 0, 0, -1, 3, 2005001]), (20, [2, 0], [30, 0, -1, 0, 0, 1, 3, 2005001]), (20, [1, 0], [30, 0, 1, 0, 0, -1, 3, 2005000]), (20, [1, 0], [30, 0, -1, 0, 0, 1, 3, 2005000]), (101, [0, 2], [32]), (101, [0, 1], [31]), (20, [0], [60, 1, 1, 197, 5, 2])], [], [], [(20, [0, 3], [60, 3, 4, 202, 5, 31, 32, 2, 33, 34, 35]), (24, [0, 0], [])], [], [])
theorem oo_Mo_plane_0 {kA : Nat → ClassId} : or_ok PRD kA GG o_Mo_plane_0 := by
  refine or_mk fun A ta ws vs hD hth hl => ?_
  intro t0 r0 t1 k1 t2 k2 t3 k3 f0 f1 f2 f3 ta1 w1 le1 s1 ta2 w2 le2 s2 f14
  have s1 : (∀ b j, w_el ws b j = w_el w1 b j) ∧ ∀ b j, w_fd ws b j = if b = v_ad (n_v vs 0) ∧ j = 32 then n_v vs 2 else w_fd w1 b j := s1.2
  have s2 : (∀ b j, w_el w1 b j = w_el w2 b j) ∧ ∀ b j, w_fd w1 b j = if b = v_ad (n_v vs 0) ∧ j = 31 then n_v vs 1 else w_fd w2 b j := s2.2
  replace f14 := shm_1452 f14
  have ar_0_2_1 : w_ar w1 (n_v vs 0) 2 = w_ar ws (n_v vs 0) 2 := by show v_ad (w_fd w1 _ _) = v_ad (w_fd ws _ _); rw [s1.2, if_neg (fun e => absurd e.2 (by decide))]
  have ar_0_2_2 : w_ar w2 (n_v vs 0) 2 = w_ar ws (n_v vs 0) 2 := by rw [← ar_0_2_1]; show v_ad (w_fd w2 _ _) = v_ad (w_fd w1 _ _); rw [s2.2, if_neg (fun e => absurd e.2 (by decide))]
  simp only [ar_0_2_1, ar_0_2_2] at f14
  have fe_0_5_1 : w_fi ws (n_v vs 0) 5 = w_fi w1 (n_v vs 0) 5 := by show v_iv (w_fd _ _ _) = v_iv (w_fd _ _ _); rw [s1.2, if_neg (fun e => absurd e.2 (by decide))]
  have fe_0_31_1 : w_fi ws (n_v vs 0) 31 = w_fi w1 (n_v vs 0) 31 := by show v_iv (w_fd _ _ _) = v_iv (w_fd _ _ _); rw [s1.2, if_neg (fun e => absurd e.2 (by decide))]
  have fe_0_32_1 : w_fi ws (n_v vs 0) 32 = v_iv (n_v vs 2) := by show v_iv (w_fd _ _ _) = _; rw [s1.2, if_pos ⟨rfl, rfl⟩]
  have fe_0_5_2 : w_fi w1 (n_v vs 0) 5 = w_fi w2 (n_v vs 0) 5 := by show v_iv (w_fd _ _ _) = v_iv (w_fd _ _ _); rw [s2.2, if_neg (fun e => absurd e.2 (by decide))]
  have fe_0_31_2 : w_fi w1 (n_v vs 0) 31 = v_iv (n_v vs 1) := by show v_iv (w_fd _ _ _) = _; rw [s2.2, if_pos ⟨rfl, rfl⟩]
  have hE_0_2_1 : ∀ j : Int, w_ei ws (w_ar ws (n_v vs 0) 2) j = w_ei w1 (w_ar ws (n_v vs 0) 2) j := fun j => s1.1 _ _
  have hE_0_2_2 : ∀ j : Int, w_ei w1 (w_ar ws (n_v vs 0) 2) j = w_ei w2 (w_ar ws (n_v vs 0) 2) j := fun j => s2.1 _ _
  have hE_0_33_1 : ∀ j : Int, w_ei ws (w_ar ws (n_v vs 0) 33) j = w_ei w1 (w_ar ws (n_v vs 0) 33) j := fun j => s1.1 _ _
  have hE_0_33_2 : ∀ j : Int, w_ei w1 (w_ar ws (n_v vs 0) 33) j = w_ei w2 (w_ar ws (n_v vs 0) 33) j := fun j => s2.1 _ _
  have hE_0_34_1 : ∀ j : Int, w_ei ws (w_ar ws (n_v vs 0) 34) j = w_ei w1 (w_ar ws (n_v vs 0) 34) j := fun j => s1.1 _ _
  have hE_0_34_2 : ∀ j : Int, w_ei w1 (w_ar ws (n_v vs 0) 34) j = w_ei w2 (w_ar ws (n_v vs 0) 34) j := fun j => s2.1 _ _
  have hE_0_35_1 : ∀ j : Int, w_ei ws (w_ar ws (n_v vs 0) 35) j = w_ei w1 (w_ar ws (n_v vs 0) 35) j := fun j => s1.1 _ _
  have hE_0_35_2 : ∀ j : Int, w_ei w1 (w_ar ws (n_v vs 0) 35) j = w_ei w2 (w_ar ws (n_v vs 0) 35) j := fun j => s2.1 _ _
  have kz_0_31 := fdq_145 hD hth r0
  have kz_0_32 := fdq_140 hD hth r0
  have nf0 : fc_1 PRD (20, [0, 3], [60, 3, 4, 202, 5, 31, 32, 2, 33, 34, 35]) ws (vs) := ⟨nf_in hl rfl, sgq_1453 (vc_Mo_plane_0_0 (v_iv (n_v vs 1)) (v_iv (n_v vs 2)) (v_iv (n_v vs 3)) (w_ei ws (w_ar ws (n_v vs 0) 2)) (w_fi ws (n_v vs 0) 5) (w_ei w1 (w_ar ws (n_v vs 0) 2)) (w_fi w1 (n_v vs 0) 5) (w_ei w2 (w_ar ws (n_v vs 0) 2)) (w_fi w2 (n_v vs 0) 5) (w_fi ws (n_v vs 0) 31) (w_fi w1 (n_v vs 0) 31) (w_fi ws (n_v vs 0) 32) (w_ei ws (w_ar ws (n_v vs 0) 33)) (w_ei w1 (w_ar ws (n_v vs 0) 33)) (w_ei w2 (w_ar ws (n_v vs 0) 33)) (w_ei ws (w_ar ws (n_v vs 0) 34)) (w_ei w1 (w_ar ws (n_v vs 0) 34)) (w_ei w2 (w_ar ws (n_v vs 0) 34)) (w_ei ws (w_ar ws (n_v vs 0) 35)) (w_ei w1 (w_ar ws (n_v vs 0) 35)) (w_ei w2 (w_ar ws (n_v vs 0) 35)) k1 k2 k3 (shm_121 f0) (shm_122 f1) (shm_126 f2) (shm_127 f3) f14 fe_0_5_1 fe_0_31_1 fe_0_32_1 fe_0_5_2 fe_0_31_2 hE_0_2_1 hE_0_2_2 hE_0_33_1 hE_0_33_2 hE_0_34_1 hE_0_34_2 hE_0_35_1 hE_0_35_2 kz_0_31 kz_0_32)⟩
  have nf1 : fc_1 PRD (24, [0, 0], []) ws (vs) := by
    refine ⟨nf_in hl rfl, sgq_1 ?_⟩
    · show n_v vs 0 = n_v vs 0
      first | rfl | simp only [true_and]
  refine ⟨(fun _ h => (by cases h)), [], trivial, ?_, (fun _ h => (by cases h))⟩
  rw [List.append_nil]
  exact List.forall_mem_cons.mpr ⟨⟨show (20 : Nat) < 100 from by decide, nf0⟩, List.forall_mem_cons.mpr ⟨⟨show (24 : Nat) < 100 from by decide, nf1⟩, (fun _ h => (by cases h))⟩⟩
set_option maxHeartbeats 4000000 in
theorem vc_Mo_plane_1_0 (x2 : Int) (x3 : Int) (pm_0 : Int) (all_0 : Int → Int) (pt_0 : Int → Int) (ph_0 : Int → Int) (alive_0 : Int → Int) (r_0 : Int) (pn_0 : Int) (k2 : 0 ≤ x2 ∧ x2 ≤ 48) (k3 : 0 ≤ x3 ∧ x3 ≤ 48) (d0 : x3 + 0 ≤ x2 ∧ x2 ≤ x3 + 4294967296) (g1 : x3 = pm_0) (f2 : PL1 (r_0) (pn_0) (pm_0) (all_0) (pt_0) (ph_0) (alive_0) (x2)) (kz_0_31 : 0 ≤ pn_0 ∧ pn_0 ≤ 25) (kz_0_32 : 0 ≤ pm_0 ∧ pm_0 ≤ 80) : GOK (pn_0) (pm_0) (pt_0) (ph_0) := by
  have h := ‹PL1 _ _ _ _ _ _ _ _›
  exact pln_gok ⟨h.1, h.2.1, h.2.2.1, fun e a b => h.2.2.2 e a (by omega)⟩
set_option maxHeartbeats 4000000 in
theorem vc_Mo_plane_1_1 (x2 : Int) (x3 : Int) (pm_0 : Int) (all_0 : Int → Int) (pt_0 : Int → Int) (ph_0 : Int → Int) (alive_0 : Int → Int) (r_0 : Int) (pn_0 : Int) (k2 : 0 ≤ x2 ∧ x2 ≤ 48) (k3 : 0 ≤ x3 ∧ x3 ≤ 48) (d0 : x3 + 0 ≤ x2 ∧ x2 ≤ x3 + 4294967296) (g1 : x3 = pm_0) (f2 : PL1 (r_0) (pn_0) (pm_0) (all_0) (pt_0) (ph_0) (alive_0) (x2)) (kz_0_31 : 0 ≤ pn_0 ∧ pn_0 ≤ 25) (kz_0_32 : 0 ≤ pm_0 ∧ pm_0 ≤ 80) : PLN (r_0) (pn_0) (pm_0) (all_0) (pt_0) (ph_0) (alive_0) := by
  have h := ‹PL1 _ _ _ _ _ _ _ _›
  exact ⟨h.1, h.2.1, h.2.2.1, fun e a b => h.2.2.2 e a (by omega)⟩
def o_Mo_plane_1 : or_T := (61, 4, [(0, (2, 0, 0, [165])), (2, (0, 0, 48, [])), (3, (0, 0, 48, []))], [(9, [3, 1], [32]), (20, [1, 2], [60, 3, 4, 202, 5, 31, 32, 2, 33, 34, 35]), (24, [0, 1], [])], [], [], [(20, [0], [60, 2, 2, 75, 31, 32, 33, 34]), (20, [0], [60, 3, 4, 201, 5, 31, 32, 2, 33, 34, 35])], [], [(2, 3, 0, 4294967296)])
theorem oo_Mo_plane_1 {kA : Nat → ClassId} : or_ok PRD kA GG o_Mo_plane_1 := by
  refine or_mk fun A ta ws vs hD hth hl => ?_
  intro t0 r0 t2 k2 t3 k3 d0 f1 f2 f3
  replace f1 := shm_525 f1
  replace f2 := shm_1453 f2
  replace f3 := shm_5 f3
  have q1 : n_v vs 1 = n_v vs 0 := f3.symm
  simp only [q1] at f1 f2
  have g1 : v_iv (n_v vs 3) = w_fi ws (n_v vs 0) 32 := congrArg v_iv f1
  have kz_0_31 := fdq_145 hD hth r0
  have kz_0_32 := fdq_140 hD hth r0
  have nf0 : fc_1 PRD (20, [0], [60, 2, 2, 75, 31, 32, 33, 34]) ws (vs) := ⟨nf_in hl rfl, sgq_575 (vc_Mo_plane_1_0 (v_iv (n_v vs 2)) (v_iv (n_v vs 3)) (w_fi ws (n_v vs 0) 32) (w_ei ws (w_ar ws (n_v vs 0) 2)) (w_ei ws (w_ar ws (n_v vs 0) 33)) (w_ei ws (w_ar ws (n_v vs 0) 34)) (w_ei ws (w_ar ws (n_v vs 0) 35)) (w_fi ws (n_v vs 0) 5) (w_fi ws (n_v vs 0) 31) k2 k3 d0 g1 f2 kz_0_31 kz_0_32)⟩
  have nf1 : fc_1 PRD (20, [0], [60, 3, 4, 201, 5, 31, 32, 2, 33, 34, 35]) ws (vs) := ⟨nf_in hl rfl, sgq_1454 (vc_Mo_plane_1_1 (v_iv (n_v vs 2)) (v_iv (n_v vs 3)) (w_fi ws (n_v vs 0) 32) (w_ei ws (w_ar ws (n_v vs 0) 2)) (w_ei ws (w_ar ws (n_v vs 0) 33)) (w_ei ws (w_ar ws (n_v vs 0) 34)) (w_ei ws (w_ar ws (n_v vs 0) 35)) (w_fi ws (n_v vs 0) 5) (w_fi ws (n_v vs 0) 31) k2 k3 d0 g1 f2 kz_0_31 kz_0_32)⟩
  refine ⟨(fun _ h => (by cases h)), [], trivial, ?_, (fun _ h => (by cases h))⟩
  rw [List.append_nil]
  exact List.forall_mem_cons.mpr ⟨⟨show (20 : Nat) < 100 from by decide, nf0⟩, List.forall_mem_cons.mpr ⟨⟨show (20 : Nat) < 100 from by decide, nf1⟩, (fun _ h => (by cases h))⟩⟩
set_option maxHeartbeats 4000000 in
theorem vc_Mo_plane_2_r0 (x2 : Int) (x3 : Int) (pm_0 : Int) (all_0 : Int → Int) (pt_0 : Int → Int) (ph_0 : Int → Int) (alive_0 : Int → Int) (r_0 : Int) (pn_0 : Int) (k2 : 0 ≤ x2 ∧ x2 ≤ 48) (k3 : 1 ≤ x3 ∧ x3 ≤ 80) (d0 : x3 + (-4294967296) ≤ x2 ∧ x2 ≤ x3 + (-1)) (g2 : x3 = pm_0) (f3 : PL1 (r_0) (pn_0) (pm_0) (all_0) (pt_0) (ph_0) (alive_0) (x2)) (kz_0_31 : 0 ≤ pn_0 ∧ pn_0 ≤ 25) (kz_0_32 : 0 ≤ pm_0 ∧ pm_0 ≤ 80) : 0 ≤ x2 ∧ x2 ≤ 47 := by
  have h := ‹PL1 _ _ _ _ _ _ _ _›.1.1
  have h2 := ‹PL1 _ _ _ _ _ _ _ _›.2.2.1
  omega
def o_Mo_plane_2 : or_T := (33, 5, [(0, (2, 0, 0, [165])), (1, (2, 0, 0, [165])), (2, (0, 0, 48, [])), (3, (0, 1, 80, [])), (4, (2, 0, 0, [180]))], [(9, [4, 1], [33]), (7, [2, 3], [2]), (9, [3, 1], [32]), (20, [1, 2], [60, 3, 4, 202, 5, 31, 32, 2, 33, 34, 35]), (24, [0, 1], [])], [(2, (0, 0, 47, []))], [], [], [], [(2, 3, -4294967296, -1)])
theorem oo_Mo_plane_2 {kA : Nat → ClassId} : or_ok PRD kA GG o_Mo_plane_2 := by
  refine or_mk fun A ta ws vs hD hth hl => ?_
  intro t0 r0 t1 r1 t2 k2 t3 k3 t4 r4 d0 f0 f1 f2 f3 f4
  replace f2 := shm_525 f2
  replace f3 := shm_1453 f3
  replace f4 := shm_5 f4
  have q1 : n_v vs 1 = n_v vs 0 := f4.symm
  simp only [q1] at f2 f3
  have g2 : v_iv (n_v vs 3) = w_fi ws (n_v vs 0) 32 := congrArg v_iv f2
  have kz_0_31 := fdq_145 hD hth r0
  have kz_0_32 := fdq_140 hD hth r0
  have hrf0 : 0 ≤ v_iv (n_v vs 2) ∧ v_iv (n_v vs 2) ≤ 47 := vc_Mo_plane_2_r0 (v_iv (n_v vs 2)) (v_iv (n_v vs 3)) (w_fi ws (n_v vs 0) 32) (w_ei ws (w_ar ws (n_v vs 0) 2)) (w_ei ws (w_ar ws (n_v vs 0) 33)) (w_ei ws (w_ar ws (n_v vs 0) 34)) (w_ei ws (w_ar ws (n_v vs 0) 35)) (w_fi ws (n_v vs 0) 5) (w_fi ws (n_v vs 0) 31) k2 k3 d0 g2 f3 kz_0_31 kz_0_32
  have rf2 : tv_ok ta (0, 0, 47, []) (n_v vs 2) := tv_in t2 (by first | omega | grind) (by first | omega | grind)
  refine ⟨List.forall_mem_cons.mpr ⟨rf2, (fun _ h => (by cases h))⟩, [], trivial, ?_, (fun _ h => (by cases h))⟩
  rw [List.append_nil]
  exact (fun _ h => (by cases h))
set_option maxHeartbeats 4000000 in
theorem vc_Mo_plane_3_0 (x2 : Int) (x5 : Int) (x7 : Int) (x9 : Int) (x10 : Int) (all_0 : Int → Int) (r_0 : Int) (all_1 : Int → Int) (r_1 : Int) (all_2 : Int → Int) (r_2 : Int) (all_3 : Int → Int) (r_3 : Int) (pm_3 : Int) (pt_3 : Int → Int) (ph_3 : Int → Int) (alive_3 : Int → Int) (pn_3 : Int) (pn_0 : Int) (pn_1 : Int) (pm_0 : Int) (pm_1 : Int) (pn_2 : Int) (pm_2 : Int) (pt_0 : Int → Int) (pt_1 : Int → Int) (pt_2 : Int → Int) (ph_0 : Int → Int) (ph_1 : Int → Int) (ph_2 : Int → Int) (alive_0 : Int → Int) (alive_1 : Int → Int) (alive_2 : Int → Int) (k2 : 0 ≤ x2 ∧ x2 ≤ 47) (k5 : 0 ≤ x5 ∧ x5 ≤ 23) (k7 : 0 ≤ x7 ∧ x7 ≤ 23) (k9 : 1 ≤ x9 ∧ x9 ≤ 1) (k10 : 1 ≤ x10 ∧ x10 ≤ 48) (f0 : x10 = x2 + 1) (f9 : x7 = all_2 (((r_2 + 315) + x2))) (f13 : x5 = all_3 (((r_3 + 267) + x2))) (f17 : PL1 (r_3) (pn_3) (pm_3) (all_3) (pt_3) (ph_3) (alive_3) (x2)) (fe_0_5_1 : r_0 = r_1) (fe_0_31_1 : pn_0 = pn_1) (fe_0_32_1 : pm_0 = pm_1) (fe_0_5_2 : r_1 = r_2) (fe_0_31_2 : pn_1 = pn_2) (fe_0_32_2 : pm_1 = pm_2) (fe_0_5_3 : r_2 = r_3) (fe_0_31_3 : pn_2 = pn_3) (fe_0_32_3 : pm_2 = pm_3) (hE_0_2_1 : ∀ j : Int, all_0 j = all_1 j) (hE_0_2_2 : ∀ j : Int, all_1 j = all_2 j) (hE_0_2_3 : ∀ j : Int, all_2 j = all_3 j) (hE_0_33_1 : ∀ j : Int, pt_0 j = pt_1 j) (hE_0_33_2 : ∀ j : Int, pt_1 j = pt_2 j) (hE_0_33_3 : ∀ j : Int, 0 ≤ j → (j = x2 → pt_2 j = x5) ∧ (j ≠ x2 → pt_2 j = pt_3 j)) (hE_0_34_1 : ∀ j : Int, ph_0 j = ph_1 j) (hE_0_34_2 : ∀ j : Int, 0 ≤ j → (j = x2 → ph_1 j = x7) ∧ (j ≠ x2 → ph_1 j = ph_2 j)) (hE_0_34_3 : ∀ j : Int, ph_2 j = ph_3 j) (hE_0_35_1 : ∀ j : Int, 0 ≤ j → (j = x2 → alive_0 j = x9) ∧ (j ≠ x2 → alive_0 j = alive_1 j)) (hE_0_35_2 : ∀ j : Int, alive_1 j = alive_2 j) (hE_0_35_3 : ∀ j : Int, alive_2 j = alive_3 j) (kz_0_31 : 0 ≤ pn_0 ∧ pn_0 ≤ 25) (kz_0_32 : 0 ≤ pm_0 ∧ pm_0 ≤ 80) : PL1 (r_0) (pn_0) (pm_0) (all_0) (pt_0) (ph_0) (alive_0) (x10) := by
  subst fe_0_5_1
  subst fe_0_31_1
  subst fe_0_32_1
  subst fe_0_5_2
  subst fe_0_31_2
  subst fe_0_32_2
  subst fe_0_5_3
  subst fe_0_31_3
  subst fe_0_32_3
  have e_hE_0_2_1 := funext hE_0_2_1; subst e_hE_0_2_1
  have e_hE_0_2_2 := funext hE_0_2_2; subst e_hE_0_2_2
  have e_hE_0_2_3 := funext hE_0_2_3; subst e_hE_0_2_3
  have e_hE_0_33_1 := funext hE_0_33_1; subst e_hE_0_33_1
  have e_hE_0_33_2 := funext hE_0_33_2; subst e_hE_0_33_2
  have e_hE_0_34_1 := funext hE_0_34_1; subst e_hE_0_34_1
  have e_hE_0_34_3 := funext hE_0_34_3; subst e_hE_0_34_3
  have e_hE_0_35_2 := funext hE_0_35_2; subst e_hE_0_35_2
  have e_hE_0_35_3 := funext hE_0_35_3; subst e_hE_0_35_3
  try simp only [Int.add_zero] at *
  first
    | exact pl1_step ‹PL1 _ _ _ _ _ _ _ _› (by omega) (by assumption) (by assumption) (by assumption) (by omega) (by omega) (by omega) (by omega) (by omega) (by omega)
def o_Mo_plane_3 : or_T := (18, 11, [(0, (2, 0, 0, [165])), (2, (0, 0, 47, [])), (4, (2, 0, 0, [180])), (5, (0, 0, 23, [])), (6, (2, 0, 0, [181])), (7, (0, 0, 23, [])), (8, (2, 0, 0, [182])), (9, (0, 1, 1, [])), (10, (0, 1, 48, []))], [(6, [10, 2], [1]), (24, [0, 1], []), (100, [8, 2, 9], []), (9, [8, 1], [35]), (100, [6, 2, 7], []), (20, [7, 1, 2], [50, 1, 1, 1005, 1002, 1, 2, 1, 0, 3, 1, 2, 4, 7, 4, 3, 2, 1, 5, 0, 315, 1, 2]), (9, [6, 1], [34]), (100, [4, 2, 5], []), (20, [5, 1, 2], [50, 1, 1, 1005, 1002, 1, 2, 1, 0, 3, 1, 2, 4, 7, 4, 3, 2, 1, 5, 0, 267, 1, 2]), (9, [4, 1], [33]), (20, [1, 2], [60, 3, 4, 202, 5, 31, 32, 2, 33, 34, 35])], [], [], [(20, [1, 10], [60, 3, 4, 202, 5, 31, 32, 2, 33, 34, 35])], [], [(10, 2, 1, 1), (2, 3, -4294967296, -1)])
theorem oo_Mo_plane_3 {kA : Nat → ClassId} : or_ok PRD kA GG o_Mo_plane_3 := by
  refine or_mk fun A ta ws vs hD hth hl => ?_
  intro t0 r0 t2 k2 t4 r4 t5 k5 t6 r6 t7 k7 t8 r8 t9 k9 t10 k10 d0 d2 f0 f3 ta1 w1 le1 s1 f5 ta2 w2 le2 s2 f9 f10 ta3 w3 le3 s3 f13 f14 f17
  replace f0 := shm_4 f0
  replace f3 := shm_5 f3
  have s1 : (∀ b j, w_el ws b j = if b = v_ad (n_v vs 8) ∧ j = (v_iv (n_v vs 2)).toNat then v_iv (n_v vs 9) else w_el w1 b j) ∧ ∀ b k, w_fd ws b k = w_fd w1 b k := s1.2
  replace f5 := shm_511 f5
  have s2 : (∀ b j, w_el w1 b j = if b = v_ad (n_v vs 6) ∧ j = (v_iv (n_v vs 2)).toNat then v_iv (n_v vs 7) else w_el w2 b j) ∧ ∀ b k, w_fd w1 b k = w_fd w2 b k := s2.2
  replace f9 := shm_603 f9
  replace f10 := shm_496 f10
  have s3 : (∀ b j, w_el w2 b j = if b = v_ad (n_v vs 4) ∧ j = (v_iv (n_v vs 2)).toNat then v_iv (n_v vs 5) else w_el w3 b j) ∧ ∀ b k, w_fd w2 b k = w_fd w3 b k := s3.2
  replace f13 := shm_749 f13
  replace f14 := shm_494 f14
  replace f17 := shm_1453 f17
  have q1 : n_v vs 1 = n_v vs 0 := f3.symm
  simp only [q1] at f5 f9 f10 f13 f14 f17
  have ar_0_2_1 : w_ar w1 (n_v vs 0) 2 = w_ar ws (n_v vs 0) 2 := congrArg v_ad (s1.2 _ _).symm
  have ar_0_2_2 : w_ar w2 (n_v vs 0) 2 = w_ar ws (n_v vs 0) 2 := by rw [← ar_0_2_1]; show v_ad (w_fd w2 _ _) = v_ad (w_fd w1 _ _); rw [s2.2]
  have ar_0_2_3 : w_ar w3 (n_v vs 0) 2 = w_ar ws (n_v vs 0) 2 := by rw [← ar_0_2_2]; show v_ad (w_fd w3 _ _) = v_ad (w_fd w2 _ _); rw [s3.2]
  have cr_0_2 := fdq_10 hD hth r0
  have ar_0_33_1 : w_ar w1 (n_v vs 0) 33 = w_ar ws (n_v vs 0) 33 := congrArg v_ad (s1.2 _ _).symm
  have ar_0_33_2 : w_ar w2 (n_v vs 0) 33 = w_ar ws (n_v vs 0) 33 := by rw [← ar_0_33_1]; show v_ad (w_fd w2 _ _) = v_ad (w_fd w1 _ _); rw [s2.2]
  have ar_0_33_3 : w_ar w3 (n_v vs 0) 33 = w_ar ws (n_v vs 0) 33 := by rw [← ar_0_33_2]; show v_ad (w_fd w3 _ _) = v_ad (w_fd w2 _ _); rw [s3.2]
  have cr_0_33 := fdq_117 hD hth r0
  have ar_0_34_1 : w_ar w1 (n_v vs 0) 34 = w_ar ws (n_v vs 0) 34 := congrArg v_ad (s1.2 _ _).symm
  have ar_0_34_2 : w_ar w2 (n_v vs 0) 34 = w_ar ws (n_v vs 0) 34 := by rw [← ar_0_34_1]; show v_ad (w_fd w2 _ _) = v_ad (w_fd w1 _ _); rw [s2.2]
  have ar_0_34_3 : w_ar w3 (n_v vs 0) 34 = w_ar ws (n_v vs 0) 34 := by rw [← ar_0_34_2]; show v_ad (w_fd w3 _ _) = v_ad (w_fd w2 _ _); rw [s3.2]
  have cr_0_34 := fdq_118 hD hth r0
  have ar_0_35_1 : w_ar w1 (n_v vs 0) 35 = w_ar ws (n_v vs 0) 35 := congrArg v_ad (s1.2 _ _).symm
  have ar_0_35_2 : w_ar w2 (n_v vs 0) 35 = w_ar ws (n_v vs 0) 35 := by rw [← ar_0_35_1]; show v_ad (w_fd w2 _ _) = v_ad (w_fd w1 _ _); rw [s2.2]
  have ar_0_35_3 : w_ar w3 (n_v vs 0) 35 = w_ar ws (n_v vs 0) 35 := by rw [← ar_0_35_2]; show v_ad (w_fd w3 _ _) = v_ad (w_fd w2 _ _); rw [s3.2]
  have cr_0_35 := fdq_132 hD hth r0
  have ad_8 : v_ad (n_v vs 8) = w_ar ws (n_v vs 0) 35 := (congrArg v_ad f5).trans ar_0_35_1
  have ad_6 : v_ad (n_v vs 6) = w_ar ws (n_v vs 0) 34 := (congrArg v_ad f10).trans ar_0_34_2
  have ad_4 : v_ad (n_v vs 4) = w_ar ws (n_v vs 0) 33 := (congrArg v_ad f14).trans ar_0_33_3
  simp only [ar_0_2_1, ar_0_2_2, ar_0_2_3] at f9 f13
  simp only [ar_0_2_3, ar_0_33_3, ar_0_34_3, ar_0_35_3] at f17
  have fe_0_5_1 : w_fi ws (n_v vs 0) 5 = w_fi w1 (n_v vs 0) 5 := congrArg v_iv (s1.2 _ _)
  have fe_0_31_1 : w_fi ws (n_v vs 0) 31 = w_fi w1 (n_v vs 0) 31 := congrArg v_iv (s1.2 _ _)
  have fe_0_32_1 : w_fi ws (n_v vs 0) 32 = w_fi w1 (n_v vs 0) 32 := congrArg v_iv (s1.2 _ _)
  have fe_0_5_2 : w_fi w1 (n_v vs 0) 5 = w_fi w2 (n_v vs 0) 5 := congrArg v_iv (s2.2 _ _)
  have fe_0_31_2 : w_fi w1 (n_v vs 0) 31 = w_fi w2 (n_v vs 0) 31 := congrArg v_iv (s2.2 _ _)
  have fe_0_32_2 : w_fi w1 (n_v vs 0) 32 = w_fi w2 (n_v vs 0) 32 := congrArg v_iv (s2.2 _ _)
  have fe_0_5_3 : w_fi w2 (n_v vs 0) 5 = w_fi w3 (n_v vs 0) 5 := congrArg v_iv (s3.2 _ _)
  have fe_0_31_3 : w_fi w2 (n_v vs 0) 31 = w_fi w3 (n_v vs 0) 31 := congrArg v_iv (s3.2 _ _)
  have fe_0_32_3 : w_fi w2 (n_v vs 0) 32 = w_fi w3 (n_v vs 0) 32 := congrArg v_iv (s3.2 _ _)
  have hE_0_2_1 : ∀ j : Int, w_ei ws (w_ar ws (n_v vs 0) 2) j = w_ei w1 (w_ar ws (n_v vs 0) 2) j := el_kp s1.1 r8 cr_0_2 (by decide)
  have hE_0_2_2 : ∀ j : Int, w_ei w1 (w_ar ws (n_v vs 0) 2) j = w_ei w2 (w_ar ws (n_v vs 0) 2) j := el_kp s2.1 r6 cr_0_2 (by decide)
  have hE_0_2_3 : ∀ j : Int, w_ei w2 (w_ar ws (n_v vs 0) 2) j = w_ei w3 (w_ar ws (n_v vs 0) 2) j := el_kp s3.1 r4 cr_0_2 (by decide)
  have hE_0_33_1 : ∀ j : Int, w_ei ws (w_ar ws (n_v vs 0) 33) j = w_ei w1 (w_ar ws (n_v vs 0) 33) j := el_kp s1.1 r8 cr_0_33 (by decide)
  have hE_0_33_2 : ∀ j : Int, w_ei w1 (w_ar ws (n_v vs 0) 33) j = w_ei w2 (w_ar ws (n_v vs 0) 33) j := el_kp s2.1 r6 cr_0_33 (by decide)
  have hE_0_33_3 : ∀ j : Int, 0 ≤ j → (j = v_iv (n_v vs 2) → w_ei w2 (w_ar ws (n_v vs 0) 33) j = v_iv (n_v vs 5)) ∧ (j ≠ v_iv (n_v vs 2) → w_ei w2 (w_ar ws (n_v vs 0) 33) j = w_ei w3 (w_ar ws (n_v vs 0) 33) j) := fun j hj => ⟨fun h => by unfold w_ei; rw [s3.1, if_pos ⟨ad_4.symm, by rw [h]⟩], fun h => by unfold w_ei; rw [s3.1, if_neg (fun e => h (by have := e.2; omega))]⟩
  have hE_0_34_1 : ∀ j : Int, w_ei ws (w_ar ws (n_v vs 0) 34) j = w_ei w1 (w_ar ws (n_v vs 0) 34) j := el_kp s1.1 r8 cr_0_34 (by decide)
  have hE_0_34_2 : ∀ j : Int, 0 ≤ j → (j = v_iv (n_v vs 2) → w_ei w1 (w_ar ws (n_v vs 0) 34) j = v_iv (n_v vs 7)) ∧ (j ≠ v_iv (n_v vs 2) → w_ei w1 (w_ar ws (n_v vs 0) 34) j = w_ei w2 (w_ar ws (n_v vs 0) 34) j) := fun j hj => ⟨fun h => by unfold w_ei; rw [s2.1, if_pos ⟨ad_6.symm, by rw [h]⟩], fun h => by unfold w_ei; rw [s2.1, if_neg (fun e => h (by have := e.2; omega))]⟩
  have hE_0_34_3 : ∀ j : Int, w_ei w2 (w_ar ws (n_v vs 0) 34) j = w_ei w3 (w_ar ws (n_v vs 0) 34) j := el_kp s3.1 r4 cr_0_34 (by decide)
  have hE_0_35_1 : ∀ j : Int, 0 ≤ j → (j = v_iv (n_v vs 2) → w_ei ws (w_ar ws (n_v vs 0) 35) j = v_iv (n_v vs 9)) ∧ (j ≠ v_iv (n_v vs 2) → w_ei ws (w_ar ws (n_v vs 0) 35) j = w_ei w1 (w_ar ws (n_v vs 0) 35) j) := fun j hj => ⟨fun h => by unfold w_ei; rw [s1.1, if_pos ⟨ad_8.symm, by rw [h]⟩], fun h => by unfold w_ei; rw [s1.1, if_neg (fun e => h (by have := e.2; omega))]⟩
  have hE_0_35_2 : ∀ j : Int, w_ei w1 (w_ar ws (n_v vs 0) 35) j = w_ei w2 (w_ar ws (n_v vs 0) 35) j := el_kp s2.1 r6 cr_0_35 (by decide)
  have hE_0_35_3 : ∀ j : Int, w_ei w2 (w_ar ws (n_v vs 0) 35) j = w_ei w3 (w_ar ws (n_v vs 0) 35) j := el_kp s3.1 r4 cr_0_35 (by decide)
  have kz_0_31 := fdq_145 hD hth r0
  have kz_0_32 := fdq_140 hD hth r0
  have nf0 : fc_1 PRD (20, [1, 10], [60, 3, 4, 202, 5, 31, 32, 2, 33, 34, 35]) ws (vs) := by
    refine ⟨nf_in hl rfl, sgq_1453 ?_⟩
    · show PL1 (w_fi ws (n_v vs 1) 5) (w_fi ws (n_v vs 1) 31) (w_fi ws (n_v vs 1) 32) (w_ei ws (w_ar ws (n_v vs 1) 2)) (w_ei ws (w_ar ws (n_v vs 1) 33)) (w_ei ws (w_ar ws (n_v vs 1) 34)) (w_ei ws (w_ar ws (n_v vs 1) 35)) (v_iv (n_v vs 10))
      rw [q1]
      exact vc_Mo_plane_3_0 (v_iv (n_v vs 2)) (v_iv (n_v vs 5)) (v_iv (n_v vs 7)) (v_iv (n_v vs 9)) (v_iv (n_v vs 10)) (w_ei ws (w_ar ws (n_v vs 0) 2)) (w_fi ws (n_v vs 0) 5) (w_ei w1 (w_ar ws (n_v vs 0) 2)) (w_fi w1 (n_v vs 0) 5) (w_ei w2 (w_ar ws (n_v vs 0) 2)) (w_fi w2 (n_v vs 0) 5) (w_ei w3 (w_ar ws (n_v vs 0) 2)) (w_fi w3 (n_v vs 0) 5) (w_fi w3 (n_v vs 0) 32) (w_ei w3 (w_ar ws (n_v vs 0) 33)) (w_ei w3 (w_ar ws (n_v vs 0) 34)) (w_ei w3 (w_ar ws (n_v vs 0) 35)) (w_fi w3 (n_v vs 0) 31) (w_fi ws (n_v vs 0) 31) (w_fi w1 (n_v vs 0) 31) (w_fi ws (n_v vs 0) 32) (w_fi w1 (n_v vs 0) 32) (w_fi w2 (n_v vs 0) 31) (w_fi w2 (n_v vs 0) 32) (w_ei ws (w_ar ws (n_v vs 0) 33)) (w_ei w1 (w_ar ws (n_v vs 0) 33)) (w_ei w2 (w_ar ws (n_v vs 0) 33)) (w_ei ws (w_ar ws (n_v vs 0) 34)) (w_ei w1 (w_ar ws (n_v vs 0) 34)) (w_ei w2 (w_ar ws (n_v vs 0) 34)) (w_ei ws (w_ar ws (n_v vs 0) 35)) (w_ei w1 (w_ar ws (n_v vs 0) 35)) (w_ei w2 (w_ar ws (n_v vs 0) 35)) k2 k5 k7 k9 k10 f0 f9 f13 f17 fe_0_5_1 fe_0_31_1 fe_0_32_1 fe_0_5_2 fe_0_31_2 fe_0_32_2 fe_0_5_3 fe_0_31_3 fe_0_32_3 hE_0_2_1 hE_0_2_2 hE_0_2_3 hE_0_33_1 hE_0_33_2 hE_0_33_3 hE_0_34_1 hE_0_34_2 hE_0_34_3 hE_0_35_1 hE_0_35_2 hE_0_35_3 kz_0_31 kz_0_32
  refine ⟨(fun _ h => (by cases h)), [], trivial, ?_, (fun _ h => (by cases h))⟩
  rw [List.append_nil]
  exact List.forall_mem_cons.mpr ⟨⟨show (20 : Nat) < 100 from by decide, nf0⟩, (fun _ h => (by cases h))⟩
def n_Mo_plane_an : List an_T := [(18, [(0, (2, 0, 0, [165])), (1, (0, 0, 48, []))], [], (0, 0), [(0, 0, 99982), (1, 2, 48), (0, 0, 100000)], [], [], [(2, 0, 0, [165])], 0, [], [(20, [1, 2], [60, 3, 4, 202, 5, 31, 32, 2, 33, 34, 35]), (24, [0, 1], [])])]
def t_Mo_plane_ct : ct_L := [(1, 394, e_Mo_tail), (1, 398, e_Mo_head), (1, 401, e_Mo_edges), (1, 475, e_Mo_nodes)]
set_option maxRecDepth 100000 in
theorem c_Mo_plane {l : Launch} {D : va_G} {kA : Nat → ClassId} (h_Mo_edges : ct_ok PRD l D kA GG y_Mo_edges z_Mo_edges e_Mo_edges) (h_Mo_head : ct_ok PRD l D kA GG y_Mo_head z_Mo_head e_Mo_head) (h_Mo_nodes : ct_ok PRD l D kA GG y_Mo_nodes z_Mo_nodes e_Mo_nodes) (h_Mo_tail : ct_ok PRD l D kA GG y_Mo_tail z_Mo_tail e_Mo_tail) : ct_ok PRD l D kA GG y_Mo_plane z_Mo_plane e_Mo_plane := chk_all_ok (FT := [(57, 13, 33), (60, 13, 34), (63, 13, 35), (597, 13, 32)]) (PT := [(594, 13, 31, .int), (597, 13, 32, .int)]) (CT := t_Mo_plane_ct) (KT := []) (NT := []) (AN := n_Mo_plane_an) (OT := [o_Mo_plane_0, o_Mo_plane_1, o_Mo_plane_2, o_Mo_plane_3]) 3 200 (List.forall_mem_cons.mpr ⟨oo_Mo_plane_0, List.forall_mem_cons.mpr ⟨oo_Mo_plane_1, List.forall_mem_cons.mpr ⟨oo_Mo_plane_2, List.forall_mem_cons.mpr ⟨oo_Mo_plane_3, List.forall_mem_nil _⟩⟩⟩⟩) (by decide +kernel) ⟨List.forall_mem_cons.mpr ⟨gf_Mo_57, List.forall_mem_cons.mpr ⟨gf_Mo_60, List.forall_mem_cons.mpr ⟨gf_Mo_63, List.forall_mem_cons.mpr ⟨gf_Mo_597, List.forall_mem_nil _⟩⟩⟩⟩, List.forall_mem_cons.mpr ⟨pf_Mo_594, List.forall_mem_cons.mpr ⟨pf_Mo_597, List.forall_mem_nil _⟩⟩, List.forall_mem_cons.mpr ⟨cl_virtual (y := y_Mo_tail) (ci := 13) rfl rfl ⟨_, _, rfl⟩ (by decide +kernel) h_Mo_tail wm_3045 wm_9 wm_3042 wm_3044 wv_13_8 ⟨by decide, by decide, by decide +kernel⟩ (by decide), List.forall_mem_cons.mpr ⟨cl_virtual (y := y_Mo_head) (ci := 13) rfl rfl ⟨_, _, rfl⟩ (by decide +kernel) h_Mo_head wm_3049 wm_9 wm_3046 wm_3048 wv_13_9 ⟨by decide, by decide, by decide +kernel⟩ (by decide), List.forall_mem_cons.mpr ⟨cl_virtual (y := y_Mo_edges) (ci := 13) rfl rfl ⟨_, _, rfl⟩ (by decide +kernel) h_Mo_edges wm_3037 wm_9 wm_3034 wm_3036 wv_13_6 ⟨by decide, by decide, by decide +kernel⟩ (by decide), List.forall_mem_cons.mpr ⟨cl_virtual (y := y_Mo_nodes) (ci := 13) rfl rfl ⟨_, _, rfl⟩ (by decide +kernel) h_Mo_nodes wm_3025 wm_9 wm_3022 wm_3024 wv_13_3 ⟨by decide, by decide, by decide +kernel⟩ (by decide), List.forall_mem_nil _⟩⟩⟩⟩, List.forall_mem_nil _, List.forall_mem_nil _, GG_pl⟩ (by decide +kernel)

set_option maxHeartbeats 4000000 in
theorem vc_Mo_shortest_0_0 (x2 : Int) (x4 : Int) (toGoal_0 : Int → Int) (k2 : 0 ≤ x2 ∧ x2 ≤ 24) (k4 : 0 ≤ x4 ∧ x4 ≤ 0) : TG0 (toGoal_0) (x2) (x4) := by
  first
    | (intro j a b; exfalso; omega)
    | (have h := ‹TG0 _ _ _›
       intro j a b
       by_cases q : j = x8
       · rw [q, (hE_0_48_1 x8 (by omega)).1 rfl]; split <;> omega
       · rw [(hE_0_48_1 j a).2 q]; exact h j a (by omega))
def o_Mo_shortest_0 : or_T := (3, 5, [(2, (0, 0, 24, [])), (4, (0, 0, 0, []))], [], [], [], [(20, [0, 2, 4], [60, 0, 1, 123, 48]), (24, [0, 0], []), (24, [1, 1], []), (24, [2, 2], []), (24, [3, 3], [])], [], [])
theorem oo_Mo_shortest_0 {kA : Nat → ClassId} : or_ok PRD kA GG o_Mo_shortest_0 := by
  refine or_mk fun A ta ws vs hD hth hl => ?_
  intro t2 k2 t4 k4
  have nf0 : fc_1 PRD (20, [0, 2, 4], [60, 0, 1, 123, 48]) ws (vs) := ⟨nf_in hl rfl, sgq_1456 (vc_Mo_shortest_0_0 (v_iv (n_v vs 2)) (v_iv (n_v vs 4)) (w_ei ws (w_ar ws (n_v vs 0) 48)) k2 k4)⟩
  have nf1 : fc_1 PRD (24, [0, 0], []) ws (vs) := by
    refine ⟨nf_in hl rfl, sgq_1 ?_⟩
    · show n_v vs 0 = n_v vs 0
      first | rfl | simp only [true_and]
  have nf2 : fc_1 PRD (24, [1, 1], []) ws (vs) := by
    refine ⟨nf_in hl rfl, sgq_1 ?_⟩
    · show n_v vs 1 = n_v vs 1
      first | rfl | simp only [true_and]
  have nf3 : fc_1 PRD (24, [2, 2], []) ws (vs) := by
    refine ⟨nf_in hl rfl, sgq_1 ?_⟩
    · show n_v vs 2 = n_v vs 2
      first | rfl | simp only [true_and]
  have nf4 : fc_1 PRD (24, [3, 3], []) ws (vs) := by
    refine ⟨nf_in hl rfl, sgq_1 ?_⟩
    · show n_v vs 3 = n_v vs 3
      first | rfl | simp only [true_and]
  refine ⟨(fun _ h => (by cases h)), [], trivial, ?_, (fun _ h => (by cases h))⟩
  rw [List.append_nil]
  exact List.forall_mem_cons.mpr ⟨⟨show (20 : Nat) < 100 from by decide, nf0⟩, List.forall_mem_cons.mpr ⟨⟨show (24 : Nat) < 100 from by decide, nf1⟩, List.forall_mem_cons.mpr ⟨⟨show (24 : Nat) < 100 from by decide, nf2⟩, List.forall_mem_cons.mpr ⟨⟨show (24 : Nat) < 100 from by decide, nf3⟩, List.forall_mem_cons.mpr ⟨⟨show (24 : Nat) < 100 from by decide, nf4⟩, (fun _ h => (by cases h))⟩⟩⟩⟩⟩
set_option maxHeartbeats 4000000 in
theorem vc_Mo_shortest_1_0 (pn_0 : Int) (pt_0 : Int → Int) (ph_0 : Int → Int) (pm_0 : Int) (f2 : GOK (pn_0) (pm_0) (pt_0) (ph_0)) (kz_0_31 : 0 ≤ pn_0 ∧ pn_0 ≤ 25) (kz_0_32 : 0 ≤ pm_0 ∧ pm_0 ≤ 80) : GOK (pn_0) (pm_0) (pt_0) (ph_0) := by
  first | assumption
set_option maxHeartbeats 4000000 in
theorem vc_Mo_shortest_1_1 (pm_0 : Int) (alive_0 : Int → Int) (drawnEdge_0 : Int → Int) (f3 : UA (pm_0) (alive_0) (drawnEdge_0)) (kz_0_32 : 0 ≤ pm_0 ∧ pm_0 ≤ 80) : UA (pm_0) (alive_0) (drawnEdge_0) := by
  first | assumption
set_option maxHeartbeats 4000000 in
theorem vc_Mo_shortest_1_2 (x1 : Int) (pn_0 : Int) (k1 : 0 ≤ x1 ∧ x1 ≤ 24) (f4 : 1 * x1 + ((-1) * pn_0 + 0) ≤ (-1)) (kz_0_31 : 0 ≤ pn_0 ∧ pn_0 ≤ 25) : 1 * x1 + ((-1) * pn_0 + 0) ≤ (-1) := by
  first | omega
set_option maxHeartbeats 4000000 in
theorem vc_Mo_shortest_1_3 (x2 : Int) (pn_0 : Int) (k2 : 0 ≤ x2 ∧ x2 ≤ 24) (f5 : 1 * x2 + ((-1) * pn_0 + 0) ≤ (-1)) (kz_0_31 : 0 ≤ pn_0 ∧ pn_0 ≤ 25) : 1 * x2 + ((-1) * pn_0 + 0) ≤ (-1) := by
  first | omega
set_option maxHeartbeats 4000000 in
theorem vc_Mo_shortest_1_4 (x1 : Int) (x2 : Int) (x3 : Int) (x6 : Int) (x8 : Int) (x9 : Int) (pn_0 : Int) (pt_0 : Int → Int) (ph_0 : Int → Int) (pm_0 : Int) (drawnEdge_0 : Int → Int) (toGoal_0 : Int → Int) (drawnNode_0 : Int → Int) (pieceOf_0 : Int → Int) (onlyPiece_0 : Int) (k1 : 0 ≤ x1 ∧ x1 ≤ 24) (k2 : 0 ≤ x2 ∧ x2 ≤ 24) (k3 : 0 ≤ x3 ∧ x3 ≤ 1) (k6 : 0 ≤ x6 ∧ x6 ≤ 24) (k8 : 0 ≤ x8 ∧ x8 ≤ 25) (k9 : 0 ≤ x9 ∧ x9 ≤ 25) (d0 : x9 + 0 ≤ x8 ∧ x8 ≤ x9 + 4294967296) (d2 : x6 + (-4294967296) ≤ x2 ∧ x2 ≤ x6 + 0) (d5 : x2 + (-4294967296) ≤ x6 ∧ x6 ≤ x2 + 0) (g1 : x9 = pn_0) (f5 : 1 * x2 + ((-1) * pn_0 + 0) ≤ (-1)) (f6 : TG0 (toGoal_0) (x2) (x8)) (kz_0_31 : 0 ≤ pn_0 ∧ pn_0 ≤ 25) (kz_0_32 : 0 ≤ pm_0 ∧ pm_0 ≤ 80) (kz_0_49 : (-1) ≤ onlyPiece_0 ∧ onlyPiece_0 ≤ 79) : TGI (pn_0) (pm_0) (onlyPiece_0) (pt_0) (ph_0) (drawnEdge_0) (pieceOf_0) (drawnNode_0) (toGoal_0) (x1) (x2) (x3) := by
  first
    | exact tg_start ‹TG0 _ _ _› (by omega) (by omega) (by omega)
set_option maxHeartbeats 4000000 in
theorem vc_Mo_shortest_1_5 (x1 : Int) (x2 : Int) (x3 : Int) (x10 : Int) (pt_0 : Int → Int) (ph_0 : Int → Int) (pm_0 : Int) (drawnEdge_0 : Int → Int) (toGoal_0 : Int → Int) (drawnNode_0 : Int → Int) (pieceOf_0 : Int → Int) (onlyPiece_0 : Int) (k1 : 0 ≤ x1 ∧ x1 ≤ 24) (k2 : 0 ≤ x2 ∧ x2 ≤ 24) (k3 : 0 ≤ x3 ∧ x3 ≤ 1) (k10 : 1 ≤ x10 ∧ x10 ≤ 1) (kz_0_32 : 0 ≤ pm_0 ∧ pm_0 ≤ 80) (kz_0_49 : (-1) ≤ onlyPiece_0 ∧ onlyPiece_0 ≤ 79) : TG4 (pm_0) (onlyPiece_0) (pt_0) (ph_0) (drawnEdge_0) (pieceOf_0) (drawnNode_0) (toGoal_0) (x1) (x2) (x3) (x10) := by
  first
    | (intro h; exfalso; omega)
    | (have h := ‹TG3 _ _ _ _ _ _ _ _ _ _ _ _ _ _›
       intro h0
       have h1 := h h0
       exact ⟨fun e a b => h1.1 e a (by omega), h1.2⟩)
set_option maxHeartbeats 4000000 in
theorem vc_Mo_shortest_1_6 (x1 : Int) (x2 : Int) (x5 : Int) (x8 : Int) (x9 : Int) (x10 : Int) (pn_0 : Int) (toGoal_0 : Int → Int) (gx : Int) (k1 : 0 ≤ x1 ∧ x1 ≤ 24) (k2 : 0 ≤ x2 ∧ x2 ≤ 24) (k5 : 0 ≤ x5 ∧ x5 ≤ 24) (k8 : 0 ≤ x8 ∧ x8 ≤ 25) (k9 : 0 ≤ x9 ∧ x9 ≤ 25) (k10 : 1 ≤ x10 ∧ x10 ≤ 1) (d0 : x9 + 0 ≤ x8 ∧ x8 ≤ x9 + 4294967296) (d1 : x5 + (-4294967296) ≤ x1 ∧ x1 ≤ x5 + 0) (d4 : x1 + (-4294967296) ≤ x5 ∧ x5 ≤ x1 + 0) (g1 : x9 = pn_0) (f4 : 1 * x1 + ((-1) * pn_0 + 0) ≤ (-1)) (f6 : TG0 (toGoal_0) (x2) (x8)) (kz_0_31 : 0 ≤ pn_0 ∧ pn_0 ≤ 25) (ex2 : gx = 26000060) : SMM (pn_0) (toGoal_0) (x10) (gx) := by
  first
    | (have h := ‹TG0 _ _ _›
       have := smrg (f := toGoal_0) (n := pn_0) (lo := 0) (hi := 1000000) (by omega) (fun j a b => by rw [h j a (by omega)]; split <;> omega)
       unfold SMM; omega)
def o_Mo_shortest_1 : or_T := (41, 11, [(0, (2, 0, 0, [165])), (1, (0, 0, 24, [])), (2, (0, 0, 24, [])), (3, (0, 0, 1, [])), (4, (2, 0, 0, [165])), (5, (0, 0, 24, [])), (6, (0, 0, 24, [])), (7, (0, 0, 1, [])), (8, (0, 0, 25, [])), (9, (0, 0, 25, [])), (10, (0, 1, 1, []))], [(7, [8, 9], [3]), (9, [9, 4], [31]), (20, [4], [60, 2, 2, 75, 31, 32, 33, 34]), (20, [4], [60, 1, 2, 122, 32, 35, 43]), (20, [5, 4], [30, -1, 1, 0, 0, -1, 1, 31]), (20, [6, 4], [30, -1, 1, 0, 0, -1, 1, 31]), (20, [4, 6, 8], [60, 0, 1, 123, 48]), (24, [0, 4], []), (24, [1, 5], []), (24, [2, 6], []), (24, [3, 7], [])], [], [(0, -2, 26000060, [])], [(20, [4], [60, 2, 2, 75, 31, 32, 33, 34]), (20, [4], [60, 1, 2, 122, 32, 35, 43]), (20, [5, 4], [30, -1, 1, 0, 0, -1, 1, 31]), (20, [6, 4], [30, -1, 1, 0, 0, -1, 1, 31]), (20, [4, 5, 6, 7], [60, 3, 6, 124, 31, 32, 49, 33, 34, 43, 44, 42, 48]), (20, [4, 5, 6, 7, 10], [60, 2, 6, 126, 32, 49, 33, 34, 43, 44, 42, 48]), (20, [4, 10, 11], [60, 1, 1, 127, 31, 48]), (24, [0, 4], []), (24, [1, 5], []), (24, [2, 6], []), (24, [3, 7], [])], [], [(8, 9, 0, 4294967296), (1, 5, -4294967296, 0), (2, 6, -4294967296, 0), (3, 7, -4294967296, 0), (5, 1, -4294967296, 0), (6, 2, -4294967296, 0), (7, 3, -4294967296, 0)])
theorem oo_Mo_shortest_1 {kA : Nat → ClassId} : or_ok PRD kA GG o_Mo_shortest_1 := by
  refine or_mk fun A ta ws vs hD hth hl => ?_
  intro t0 r0 t1 k1 t2 k2 t3 k3 t4 r4 t5 k5 t6 k6 t7 k7 t8 k8 t9 k9 t10 k10 d0 d1 d2 d3 d4 d5 d6 f0 f1 f2 f3 f4 f5 f6 f7 f8 f9 f10
  replace f0 := shm_2 f0
  replace f1 := shm_577 f1
  replace f2 := shm_575 f2
  replace f3 := shm_1455 f3
  replace f4 := shm_553 f4
  replace f5 := shm_553 f5
  replace f6 := shm_1456 f6
  replace f7 := shm_5 f7
  replace f8 := shm_5 f8
  replace f9 := shm_5 f9
  replace f10 := shm_5 f10
  have q4 : n_v vs 4 = n_v vs 0 := f7.symm
  have q5 : n_v vs 5 = n_v vs 1 := f8.symm
  have q6 : n_v vs 6 = n_v vs 2 := f9.symm
  have q7 : n_v vs 7 = n_v vs 3 := f10.symm
  simp only [q4, q5, q6] at f1 f2 f3 f4 f5 f6
  have cr_0_33 := fdq_117 hD hth r0
  have cr_0_34 := fdq_118 hD hth r0
  have cr_0_35 := fdq_132 hD hth r0
  have cr_0_42 := fdq_136 hD hth r0
  have cr_0_43 := fdq_137 hD hth r0
  have cr_0_44 := fdq_138 hD hth r0
  have cr_0_48 := fdq_144 hD hth r0
  have g1 : v_iv (n_v vs 9) = w_fi ws (n_v vs 0) 31 := congrArg v_iv f1
  have hK_0_33 := elq_60 hD hth cr_0_33
  have hK_0_34 := elq_61 hD hth cr_0_34
  have hK_0_35 := elq_72 hD hth cr_0_35
  have hK_0_42 := elq_75 hD hth cr_0_42
  have hK_0_43 := elq_76 hD hth cr_0_43
  have hK_0_44 := elq_77 hD hth cr_0_44
  have hK_0_48 := elq_82 hD hth cr_0_48
  have kz_0_31 := fdq_145 hD hth r0
  have kz_0_32 := fdq_140 hD hth r0
  have kz_0_49 := fdq_146 hD hth r0
  first | have hN := smn_pos ‹SMN _ _ _ _› (by omega) ‹TGI _ _ _ _ _ _ _ _ _ _ _ _› (by omega) | skip
  obtain ⟨x, ex, hx⟩ := iv_ex (ta := ta) (lo := (-2)) (hi := 26000060) (z := 26000060) (by omega) (by omega) (by omega) (by omega)
  have ex2 : v_iv (Value.int x) = 26000060 := ex
  have ex3 : (-2) ≤ v_iv (Value.int x) ∧ v_iv (Value.int x) ≤ 26000060 := tv_rng hx
  have e_0 : n_v (vs ++ [Value.int x]) 0 = n_v vs 0 := n_v_old (by rw [hl]; decide)
  have e_1 : n_v (vs ++ [Value.int x]) 1 = n_v vs 1 := n_v_old (by rw [hl]; decide)
  have e_2 : n_v (vs ++ [Value.int x]) 2 = n_v vs 2 := n_v_old (by rw [hl]; decide)
  have e_3 : n_v (vs ++ [Value.int x]) 3 = n_v vs 3 := n_v_old (by rw [hl]; decide)
  have e_4 : n_v (vs ++ [Value.int x]) 4 = n_v vs 4 := n_v_old (by rw [hl]; decide)
  have e_5 : n_v (vs ++ [Value.int x]) 5 = n_v vs 5 := n_v_old (by rw [hl]; decide)
  have e_6 : n_v (vs ++ [Value.int x]) 6 = n_v vs 6 := n_v_old (by rw [hl]; decide)
  have e_7 : n_v (vs ++ [Value.int x]) 7 = n_v vs 7 := n_v_old (by rw [hl]; decide)
  have e_10 : n_v (vs ++ [Value.int x]) 10 = n_v vs 10 := n_v_old (by rw [hl]; decide)
  have e_11 : n_v (vs ++ [Value.int x]) 11 = Value.int x := n_v_new hl
  have nf0 : fc_1 PRD (20, [4], [60, 2, 2, 75, 31, 32, 33, 34]) ws (vs ++ [Value.int x]) := by
    refine ⟨nf_inA hl rfl, sgq_575 ?_⟩
    · show GOK (w_fi ws (n_v (vs ++ [Value.int x]) 4) 31) (w_fi ws (n_v (vs ++ [Value.int x]) 4) 32) (w_ei ws (w_ar ws (n_v (vs ++ [Value.int x]) 4) 33)) (w_ei ws (w_ar ws (n_v (vs ++ [Value.int x]) 4) 34))
      simp only [e_4, q4]
      exact vc_Mo_shortest_1_0 (w_fi ws (n_v vs 0) 31) (w_ei ws (w_ar ws (n_v vs 0) 33)) (w_ei ws (w_ar ws (n_v vs 0) 34)) (w_fi ws (n_v vs 0) 32) f2 kz_0_31 kz_0_32
  have nf1 : fc_1 PRD (20, [4], [60, 1, 2, 122, 32, 35, 43]) ws (vs ++ [Value.int x]) := by
    refine ⟨nf_inA hl rfl, sgq_1455 ?_⟩
    · show UA (w_fi ws (n_v (vs ++ [Value.int x]) 4) 32) (w_ei ws (w_ar ws (n_v (vs ++ [Value.int x]) 4) 35)) (w_ei ws (w_ar ws (n_v (vs ++ [Value.int x]) 4) 43))
      simp only [e_4, q4]
      exact vc_Mo_shortest_1_1 (w_fi ws (n_v vs 0) 32) (w_ei ws (w_ar ws (n_v vs 0) 35)) (w_ei ws (w_ar ws (n_v vs 0) 43)) f3 kz_0_32
  have nf2 : fc_1 PRD (20, [5, 4], [30, -1, 1, 0, 0, -1, 1, 31]) ws (vs ++ [Value.int x]) := by
    refine ⟨nf_inA hl rfl, sgq_553 ?_⟩
    · show 1 * v_iv (n_v (vs ++ [Value.int x]) 5) + ((-1) * w_fi ws (n_v (vs ++ [Value.int x]) 4) 31 + 0) ≤ (-1)
      simp only [e_4, e_5, q4, q5]
      exact vc_Mo_shortest_1_2 (v_iv (n_v vs 1)) (w_fi ws (n_v vs 0) 31) k1 f4 kz_0_31
  have nf3 : fc_1 PRD (20, [6, 4], [30, -1, 1, 0, 0, -1, 1, 31]) ws (vs ++ [Value.int x]) := by
    refine ⟨nf_inA hl rfl, sgq_553 ?_⟩
    · show 1 * v_iv (n_v (vs ++ [Value.int x]) 6) + ((-1) * w_fi ws (n_v (vs ++ [Value.int x]) 4) 31 + 0) ≤ (-1)
      simp only [e_4, e_6, q4, q6]
      exact vc_Mo_shortest_1_3 (v_iv (n_v vs 2)) (w_fi ws (n_v vs 0) 31) k2 f5 kz_0_31
  have nf4 : fc_1 PRD (20, [4, 5, 6, 7], [60, 3, 6, 124, 31, 32, 49, 33, 34, 43, 44, 42, 48]) ws (vs ++ [Value.int x]) := by
    refine ⟨nf_inA hl rfl, sgq_549 ?_⟩
    · show TGI (w_fi ws (n_v (vs ++ [Value.int x]) 4) 31) (w_fi ws (n_v (vs ++ [Value.int x]) 4) 32) (w_fi ws (n_v (vs ++ [Value.int x]) 4) 49) (w_ei ws (w_ar ws (n_v (vs ++ [Value.int x]) 4) 33)) (w_ei ws (w_ar ws (n_v (vs ++ [Value.int x]) 4) 34)) (w_ei ws (w_ar ws (n_v (vs ++ [Value.int x]) 4) 43)) (w_ei ws (w_ar ws (n_v (vs ++ [Value.int x]) 4) 44)) (w_ei ws (w_ar ws (n_v (vs ++ [Value.int x]) 4) 42)) (w_ei ws (w_ar ws (n_v (vs ++ [Value.int x]) 4) 48)) (v_iv (n_v (vs ++ [Value.int x]) 5)) (v_iv (n_v (vs ++ [Value.int x]) 6)) (v_iv (n_v (vs ++ [Value.int x]) 7))
      simp only [e_4, e_5, e_6, e_7, q4, q5, q6, q7]
      exact vc_Mo_shortest_1_4 (v_iv (n_v vs 1)) (v_iv (n_v vs 2)) (v_iv (n_v vs 3)) (v_iv (n_v vs 6)) (v_iv (n_v vs 8)) (v_iv (n_v vs 9)) (w_fi ws (n_v vs 0) 31) (w_ei ws (w_ar ws (n_v vs 0) 33)) (w_ei ws (w_ar ws (n_v vs 0) 34)) (w_fi ws (n_v vs 0) 32) (w_ei ws (w_ar ws (n_v vs 0) 43)) (w_ei ws (w_ar ws (n_v vs 0) 48)) (w_ei ws (w_ar ws (n_v vs 0) 42)) (w_ei ws (w_ar ws (n_v vs 0) 44)) (w_fi ws (n_v vs 0) 49) k1 k2 k3 k6 k8 k9 d0 d2 d5 g1 f5 f6 kz_0_31 kz_0_32 kz_0_49
  have nf5 : fc_1 PRD (20, [4, 5, 6, 7, 10], [60, 2, 6, 126, 32, 49, 33, 34, 43, 44, 42, 48]) ws (vs ++ [Value.int x]) := by
    refine ⟨nf_inA hl rfl, sgq_1457 ?_⟩
    · show TG4 (w_fi ws (n_v (vs ++ [Value.int x]) 4) 32) (w_fi ws (n_v (vs ++ [Value.int x]) 4) 49) (w_ei ws (w_ar ws (n_v (vs ++ [Value.int x]) 4) 33)) (w_ei ws (w_ar ws (n_v (vs ++ [Value.int x]) 4) 34)) (w_ei ws (w_ar ws (n_v (vs ++ [Value.int x]) 4) 43)) (w_ei ws (w_ar ws (n_v (vs ++ [Value.int x]) 4) 44)) (w_ei ws (w_ar ws (n_v (vs ++ [Value.int x]) 4) 42)) (w_ei ws (w_ar ws (n_v (vs ++ [Value.int x]) 4) 48)) (v_iv (n_v (vs ++ [Value.int x]) 5)) (v_iv (n_v (vs ++ [Value.int x]) 6)) (v_iv (n_v (vs ++ [Value.int x]) 7)) (v_iv (n_v (vs ++ [Value.int x]) 10))
      simp only [e_4, e_5, e_6, e_7, e_10, q4, q5, q6, q7]
      exact vc_Mo_shortest_1_5 (v_iv (n_v vs 1)) (v_iv (n_v vs 2)) (v_iv (n_v vs 3)) (v_iv (n_v vs 10)) (w_ei ws (w_ar ws (n_v vs 0) 33)) (w_ei ws (w_ar ws (n_v vs 0) 34)) (w_fi ws (n_v vs 0) 32) (w_ei ws (w_ar ws (n_v vs 0) 43)) (w_ei ws (w_ar ws (n_v vs 0) 48)) (w_ei ws (w_ar ws (n_v vs 0) 42)) (w_ei ws (w_ar ws (n_v vs 0) 44)) (w_fi ws (n_v vs 0) 49) k1 k2 k3 k10 kz_0_32 kz_0_49
  have nf6 : fc_1 PRD (20, [4, 10, 11], [60, 1, 1, 127, 31, 48]) ws (vs ++ [Value.int x]) := by
    refine ⟨nf_inA hl rfl, sgq_1458 ?_⟩
    · show SMM (w_fi ws (n_v (vs ++ [Value.int x]) 4) 31) (w_ei ws (w_ar ws (n_v (vs ++ [Value.int x]) 4) 48)) (v_iv (n_v (vs ++ [Value.int x]) 10)) (v_iv (n_v (vs ++ [Value.int x]) 11))
      simp only [e_4, e_10, e_11, q4]
      exact vc_Mo_shortest_1_6 (v_iv (n_v vs 1)) (v_iv (n_v vs 2)) (v_iv (n_v vs 5)) (v_iv (n_v vs 8)) (v_iv (n_v vs 9)) (v_iv (n_v vs 10)) (w_fi ws (n_v vs 0) 31) (w_ei ws (w_ar ws (n_v vs 0) 48)) (v_iv (Value.int x)) k1 k2 k5 k8 k9 k10 d0 d1 d4 g1 f4 f6 kz_0_31 ex2
  have nf7 : fc_1 PRD (24, [0, 4], []) ws (vs ++ [Value.int x]) := by
    refine ⟨nf_inA hl rfl, sgq_5 ?_⟩
    · show n_v (vs ++ [Value.int x]) 0 = n_v (vs ++ [Value.int x]) 4
      first | rfl | simp only [e_0, e_4, q4, q5, q6, q7]
  have nf8 : fc_1 PRD (24, [1, 5], []) ws (vs ++ [Value.int x]) := by
    refine ⟨nf_inA hl rfl, sgq_5 ?_⟩
    · show n_v (vs ++ [Value.int x]) 1 = n_v (vs ++ [Value.int x]) 5
      first | rfl | simp only [e_1, e_5, q4, q5, q6, q7]
  have nf9 : fc_1 PRD (24, [2, 6], []) ws (vs ++ [Value.int x]) := by
    refine ⟨nf_inA hl rfl, sgq_5 ?_⟩
    · show n_v (vs ++ [Value.int x]) 2 = n_v (vs ++ [Value.int x]) 6
      first | rfl | simp only [e_2, e_6, q4, q5, q6, q7]
  have nf10 : fc_1 PRD (24, [3, 7], []) ws (vs ++ [Value.int x]) := by
    refine ⟨nf_inA hl rfl, sgq_5 ?_⟩
    · show n_v (vs ++ [Value.int x]) 3 = n_v (vs ++ [Value.int x]) 7
      first | rfl | simp only [e_3, e_7, q4, q5, q6, q7]
  exact ⟨(fun _ h => (by cases h)), [Value.int x], ag_one hx, List.forall_mem_cons.mpr ⟨⟨show (20 : Nat) < 100 from by decide, nf0⟩, List.forall_mem_cons.mpr ⟨⟨show (20 : Nat) < 100 from by decide, nf1⟩, List.forall_mem_cons.mpr ⟨⟨show (20 : Nat) < 100 from by decide, nf2⟩, List.forall_mem_cons.mpr ⟨⟨show (20 : Nat) < 100 from by decide, nf3⟩, List.forall_mem_cons.mpr ⟨⟨show (20 : Nat) < 100 from by decide, nf4⟩, List.forall_mem_cons.mpr ⟨⟨show (20 : Nat) < 100 from by decide, nf5⟩, List.forall_mem_cons.mpr ⟨⟨show (20 : Nat) < 100 from by decide, nf6⟩, List.forall_mem_cons.mpr ⟨⟨show (24 : Nat) < 100 from by decide, nf7⟩, List.forall_mem_cons.mpr ⟨⟨show (24 : Nat) < 100 from by decide, nf8⟩, List.forall_mem_cons.mpr ⟨⟨show (24 : Nat) < 100 from by decide, nf9⟩, List.forall_mem_cons.mpr ⟨⟨show (24 : Nat) < 100 from by decide, nf10⟩, (fun _ h => (by cases h))⟩⟩⟩⟩⟩⟩⟩⟩⟩⟩⟩, (fun _ h => (by cases h))⟩
set_option maxHeartbeats 4000000 in
theorem vc_Mo_shortest_2_0 (x2 : Int) (x6 : Int) (x8 : Int) (x11 : Int) (x12 : Int) (pt_0 : Int → Int) (ph_0 : Int → Int) (pn_0 : Int) (pm_0 : Int) (alive_0 : Int → Int) (drawnEdge_0 : Int → Int) (pn_1 : Int) (pt_1 : Int → Int) (ph_1 : Int → Int) (pm_1 : Int) (alive_1 : Int → Int) (drawnEdge_1 : Int → Int) (toGoal_1 : Int → Int) (toGoal_0 : Int → Int) (k2 : 0 ≤ x2 ∧ x2 ≤ 24) (k6 : 0 ≤ x6 ∧ x6 ≤ 24) (k8 : 0 ≤ x8 ∧ x8 ≤ 24) (k11 : 1000000 ≤ x11 ∧ x11 ≤ 1000000) (k12 : 1 ≤ x12 ∧ x12 ≤ 25) (d0 : x8 + 1 ≤ x12 ∧ x12 ≤ x8 + 1) (d4 : x6 + (-4294967296) ≤ x2 ∧ x2 ≤ x6 + 0) (d7 : x2 + (-4294967296) ≤ x6 ∧ x6 ≤ x2 + 0) (f10 : x8 ≠ x2) (f18 : TG0 (toGoal_1) (x2) (x8)) (fe_0_31_1 : pn_0 = pn_1) (fe_0_32_1 : pm_0 = pm_1) (hE_0_33_1 : ∀ j : Int, pt_0 j = pt_1 j) (hE_0_34_1 : ∀ j : Int, ph_0 j = ph_1 j) (hE_0_35_1 : ∀ j : Int, alive_0 j = alive_1 j) (hE_0_43_1 : ∀ j : Int, drawnEdge_0 j = drawnEdge_1 j) (hE_0_48_1 : ∀ j : Int, 0 ≤ j → (j = x8 → toGoal_0 j = x11) ∧ (j ≠ x8 → toGoal_0 j = toGoal_1 j)) (kz_0_31 : 0 ≤ pn_0 ∧ pn_0 ≤ 25) (kz_0_32 : 0 ≤ pm_0 ∧ pm_0 ≤ 80) : TG0 (toGoal_0) (x2) (x12) := by
  subst fe_0_31_1
  subst fe_0_32_1
  have e_hE_0_33_1 := funext hE_0_33_1; subst e_hE_0_33_1
  have e_hE_0_34_1 := funext hE_0_34_1; subst e_hE_0_34_1
  have e_hE_0_35_1 := funext hE_0_35_1; subst e_hE_0_35_1
  have e_hE_0_43_1 := funext hE_0_43_1; subst e_hE_0_43_1
  first
    | (intro j a b; exfalso; omega)
    | (have h := ‹TG0 _ _ _›
       intro j a b
       by_cases q : j = x8
       · rw [q, (hE_0_48_1 x8 (by omega)).1 rfl]; split <;> omega
       · rw [(hE_0_48_1 j a).2 q]; exact h j a (by omega))
def o_Mo_shortest_2 : or_T := (3, 13, [(0, (2, 0, 0, [165])), (1, (0, 0, 24, [])), (2, (0, 0, 24, [])), (3, (0, 0, 1, [])), (4, (2, 0, 0, [165])), (5, (0, 0, 24, [])), (6, (0, 0, 24, [])), (7, (0, 0, 1, [])), (8, (0, 0, 24, [])), (9, (0, 1, 25, [])), (10, (2, 0, 0, [192])), (11, (0, 1000000, 1000000, [])), (12, (0, 1, 25, []))], [(6, [12, 8], [1]), (20, [4], [60, 2, 2, 75, 31, 32, 33, 34]), (20, [4], [60, 1, 2, 122, 32, 35, 43]), (20, [5, 4], [30, -1, 1, 0, 0, -1, 1, 31]), (20, [6, 4], [30, -1, 1, 0, 0, -1, 1, 31]), (24, [0, 4], []), (24, [1, 5], []), (24, [2, 6], []), (24, [3, 7], []), (100, [10, 8, 11], []), (7, [8, 6], [1]), (9, [10, 4], [48]), (7, [8, 9], [2]), (9, [9, 4], [31]), (20, [4], [60, 2, 2, 75, 31, 32, 33, 34]), (20, [4], [60, 1, 2, 122, 32, 35, 43]), (20, [5, 4], [30, -1, 1, 0, 0, -1, 1, 31]), (20, [6, 4], [30, -1, 1, 0, 0, -1, 1, 31]), (20, [4, 6, 8], [60, 0, 1, 123, 48])], [], [], [(20, [4, 6, 12], [60, 0, 1, 123, 48])], [], [(12, 8, 1, 1), (12, 9, -4294967296, 0), (8, 9, -4294967296, -1), (1, 5, -4294967296, 0), (2, 6, -4294967296, 0), (3, 7, -4294967296, 0), (5, 1, -4294967296, 0), (6, 2, -4294967296, 0), (7, 3, -4294967296, 0)])
theorem oo_Mo_shortest_2 {kA : Nat → ClassId} : or_ok PRD kA GG o_Mo_shortest_2 := by
  refine or_mk fun A ta ws vs hD hth hl => ?_
  intro t0 r0 t1 k1 t2 k2 t3 k3 t4 r4 t5 k5 t6 k6 t7 k7 t8 k8 t9 k9 t10 r10 t11 k11 t12 k12 d0 d1 d2 d3 d4 d5 d6 d7 d8 f0 f1 f2 f3 f4 f5 f6 f7 f8 ta1 w1 le1 s1 f10 f11 f12 f13 f14 f15 f16 f17 f18
  replace f5 := shm_5 f5
  replace f7 := shm_5 f7
  have s1 : (∀ b j, w_el ws b j = if b = v_ad (n_v vs 10) ∧ j = (v_iv (n_v vs 8)).toNat then v_iv (n_v vs 11) else w_el w1 b j) ∧ ∀ b k, w_fd ws b k = w_fd w1 b k := s1.2
  replace f10 := shm_40 f10
  replace f11 := shm_548 f11
  replace f18 := shm_1456 f18
  have q4 : n_v vs 4 = n_v vs 0 := f5.symm
  have q6 : n_v vs 6 = n_v vs 2 := f7.symm
  simp only [q4, q6] at f10 f11 f18
  have ar_0_33_1 : w_ar w1 (n_v vs 0) 33 = w_ar ws (n_v vs 0) 33 := congrArg v_ad (s1.2 _ _).symm
  have cr_0_33 := fdq_117 hD hth r0
  have ar_0_34_1 : w_ar w1 (n_v vs 0) 34 = w_ar ws (n_v vs 0) 34 := congrArg v_ad (s1.2 _ _).symm
  have cr_0_34 := fdq_118 hD hth r0
  have ar_0_35_1 : w_ar w1 (n_v vs 0) 35 = w_ar ws (n_v vs 0) 35 := congrArg v_ad (s1.2 _ _).symm
  have cr_0_35 := fdq_132 hD hth r0
  have ar_0_43_1 : w_ar w1 (n_v vs 0) 43 = w_ar ws (n_v vs 0) 43 := congrArg v_ad (s1.2 _ _).symm
  have cr_0_43 := fdq_137 hD hth r0
  have ar_0_48_1 : w_ar w1 (n_v vs 0) 48 = w_ar ws (n_v vs 0) 48 := congrArg v_ad (s1.2 _ _).symm
  have ad_10 : v_ad (n_v vs 10) = w_ar ws (n_v vs 0) 48 := (congrArg v_ad f11).trans ar_0_48_1
  simp only [ar_0_33_1, ar_0_34_1, ar_0_35_1, ar_0_43_1, ar_0_48_1] at f18
  have fe_0_31_1 : w_fi ws (n_v vs 0) 31 = w_fi w1 (n_v vs 0) 31 := congrArg v_iv (s1.2 _ _)
  have fe_0_32_1 : w_fi ws (n_v vs 0) 32 = w_fi w1 (n_v vs 0) 32 := congrArg v_iv (s1.2 _ _)
  have hE_0_33_1 : ∀ j : Int, w_ei ws (w_ar ws (n_v vs 0) 33) j = w_ei w1 (w_ar ws (n_v vs 0) 33) j := el_kp s1.1 r10 cr_0_33 (by decide)
  have hE_0_34_1 : ∀ j : Int, w_ei ws (w_ar ws (n_v vs 0) 34) j = w_ei w1 (w_ar ws (n_v vs 0) 34) j := el_kp s1.1 r10 cr_0_34 (by decide)
  have hE_0_35_1 : ∀ j : Int, w_ei ws (w_ar ws (n_v vs 0) 35) j = w_ei w1 (w_ar ws (n_v vs 0) 35) j := el_kp s1.1 r10 cr_0_35 (by decide)
  have hE_0_43_1 : ∀ j : Int, w_ei ws (w_ar ws (n_v vs 0) 43) j = w_ei w1 (w_ar ws (n_v vs 0) 43) j := el_kp s1.1 r10 cr_0_43 (by decide)
  have hE_0_48_1 : ∀ j : Int, 0 ≤ j → (j = v_iv (n_v vs 8) → w_ei ws (w_ar ws (n_v vs 0) 48) j = v_iv (n_v vs 11)) ∧ (j ≠ v_iv (n_v vs 8) → w_ei ws (w_ar ws (n_v vs 0) 48) j = w_ei w1 (w_ar ws (n_v vs 0) 48) j) := fun j hj => ⟨fun h => by unfold w_ei; rw [s1.1, if_pos ⟨ad_10.symm, by rw [h]⟩], fun h => by unfold w_ei; rw [s1.1, if_neg (fun e => h (by have := e.2; omega))]⟩
  have kz_0_31 := fdq_145 hD hth r0
  have kz_0_32 := fdq_140 hD hth r0
  have nf0 : fc_1 PRD (20, [4, 6, 12], [60, 0, 1, 123, 48]) ws (vs) := by
    refine ⟨nf_in hl rfl, sgq_1456 ?_⟩
    · show TG0 (w_ei ws (w_ar ws (n_v vs 4) 48)) (v_iv (n_v vs 6)) (v_iv (n_v vs 12))
      simp only [q4, q6]
      exact vc_Mo_shortest_2_0 (v_iv (n_v vs 2)) (v_iv (n_v vs 6)) (v_iv (n_v vs 8)) (v_iv (n_v vs 11)) (v_iv (n_v vs 12)) (w_ei ws (w_ar ws (n_v vs 0) 33)) (w_ei ws (w_ar ws (n_v vs 0) 34)) (w_fi ws (n_v vs 0) 31) (w_fi ws (n_v vs 0) 32) (w_ei ws (w_ar ws (n_v vs 0) 35)) (w_ei ws (w_ar ws (n_v vs 0) 43)) (w_fi w1 (n_v vs 0) 31) (w_ei w1 (w_ar ws (n_v vs 0) 33)) (w_ei w1 (w_ar ws (n_v vs 0) 34)) (w_fi w1 (n_v vs 0) 32) (w_ei w1 (w_ar ws (n_v vs 0) 35)) (w_ei w1 (w_ar ws (n_v vs 0) 43)) (w_ei w1 (w_ar ws (n_v vs 0) 48)) (w_ei ws (w_ar ws (n_v vs 0) 48)) k2 k6 k8 k11 k12 d0 d4 d7 f10 f18 fe_0_31_1 fe_0_32_1 hE_0_33_1 hE_0_34_1 hE_0_35_1 hE_0_43_1 hE_0_48_1 kz_0_31 kz_0_32
  refine ⟨(fun _ h => (by cases h)), [], trivial, ?_, (fun _ h => (by cases h))⟩
  rw [List.append_nil]
  exact List.forall_mem_cons.mpr ⟨⟨show (20 : Nat) < 100 from by decide, nf0⟩, (fun _ h => (by cases h))⟩
set_option maxHeartbeats 4000000 in
theorem vc_Mo_shortest_3_0 (x2 : Int) (x8 : Int) (x11 : Int) (x12 : Int) (pt_0 : Int → Int) (ph_0 : Int → Int) (pn_0 : Int) (pm_0 : Int) (alive_0 : Int → Int) (drawnEdge_0 : Int → Int) (pn_1 : Int) (pt_1 : Int → Int) (ph_1 : Int → Int) (pm_1 : Int) (alive_1 : Int → Int) (drawnEdge_1 : Int → Int) (toGoal_1 : Int → Int) (toGoal_0 : Int → Int) (k2 : 0 ≤ x2 ∧ x2 ≤ 24) (k8 : 0 ≤ x8 ∧ x8 ≤ 24) (k11 : 0 ≤ x11 ∧ x11 ≤ 0) (k12 : 1 ≤ x12 ∧ x12 ≤ 25) (d0 : x8 + 1 ≤ x12 ∧ x12 ≤ x8 + 1) (f10 : x8 = x2) (f18 : TG0 (toGoal_1) (x2) (x8)) (fe_0_31_1 : pn_0 = pn_1) (fe_0_32_1 : pm_0 = pm_1) (hE_0_33_1 : ∀ j : Int, pt_0 j = pt_1 j) (hE_0_34_1 : ∀ j : Int, ph_0 j = ph_1 j) (hE_0_35_1 : ∀ j : Int, alive_0 j = alive_1 j) (hE_0_43_1 : ∀ j : Int, drawnEdge_0 j = drawnEdge_1 j) (hE_0_48_1 : ∀ j : Int, 0 ≤ j → (j = x8 → toGoal_0 j = x11) ∧ (j ≠ x8 → toGoal_0 j = toGoal_1 j)) (kz_0_31 : 0 ≤ pn_0 ∧ pn_0 ≤ 25) (kz_0_32 : 0 ≤ pm_0 ∧ pm_0 ≤ 80) : TG0 (toGoal_0) (x2) (x12) := by
  subst fe_0_31_1
  subst fe_0_32_1
  have e_hE_0_33_1 := funext hE_0_33_1; subst e_hE_0_33_1
  have e_hE_0_34_1 := funext hE_0_34_1; subst e_hE_0_34_1
  have e_hE_0_35_1 := funext hE_0_35_1; subst e_hE_0_35_1
  have e_hE_0_43_1 := funext hE_0_43_1; subst e_hE_0_43_1
  first
    | (intro j a b; exfalso; omega)
    | (have h := ‹TG0 _ _ _›
       intro j a b
       by_cases q : j = x8
       · rw [q, (hE_0_48_1 x8 (by omega)).1 rfl]; split <;> omega
       · rw [(hE_0_48_1 j a).2 q]; exact h j a (by omega))
def o_Mo_shortest_3 : or_T := (3, 13, [(0, (2, 0, 0, [165])), (1, (0, 0, 24, [])), (2, (0, 0, 24, [])), (3, (0, 0, 1, [])), (4, (2, 0, 0, [165])), (5, (0, 0, 24, [])), (6, (0, 0, 24, [])), (7, (0, 0, 1, [])), (8, (0, 0, 24, [])), (9, (0, 1, 25, [])), (10, (2, 0, 0, [192])), (11, (0, 0, 0, [])), (12, (0, 1, 25, []))], [(6, [12, 8], [1]), (20, [4], [60, 2, 2, 75, 31, 32, 33, 34]), (20, [4], [60, 1, 2, 122, 32, 35, 43]), (20, [5, 4], [30, -1, 1, 0, 0, -1, 1, 31]), (20, [6, 4], [30, -1, 1, 0, 0, -1, 1, 31]), (24, [0, 4], []), (24, [1, 5], []), (24, [2, 6], []), (24, [3, 7], []), (100, [10, 8, 11], []), (7, [8, 6], [0]), (9, [10, 4], [48]), (7, [8, 9], [2]), (9, [9, 4], [31]), (20, [4], [60, 2, 2, 75, 31, 32, 33, 34]), (20, [4], [60, 1, 2, 122, 32, 35, 43]), (20, [5, 4], [30, -1, 1, 0, 0, -1, 1, 31]), (20, [6, 4], [30, -1, 1, 0, 0, -1, 1, 31]), (20, [4, 6, 8], [60, 0, 1, 123, 48])], [], [], [(20, [4, 6, 12], [60, 0, 1, 123, 48])], [], [(12, 8, 1, 1), (12, 6, 1, 1), (12, 9, -4294967296, 0), (8, 6, 0, 0), (8, 9, -4294967296, -1), (1, 5, -4294967296, 0), (2, 6, -4294967296, 0), (3, 7, -4294967296, 0), (5, 1, -4294967296, 0), (6, 2, -4294967296, 0), (7, 3, -4294967296, 0)])
theorem oo_Mo_shortest_3 {kA : Nat → ClassId} : or_ok PRD kA GG o_Mo_shortest_3 := by
  refine or_mk fun A ta ws vs hD hth hl => ?_
  intro t0 r0 t1 k1 t2 k2 t3 k3 t4 r4 t5 k5 t6 k6 t7 k7 t8 k8 t9 k9 t10 r10 t11 k11 t12 k12 d0 d1 d2 d3 d4 d5 d6 d7 d8 d9 d10 f0 f1 f2 f3 f4 f5 f6 f7 f8 ta1 w1 le1 s1 f10 f11 f12 f13 f14 f15 f16 f17 f18
  replace f5 := shm_5 f5
  replace f7 := shm_5 f7
  have s1 : (∀ b j, w_el ws b j = if b = v_ad (n_v vs 10) ∧ j = (v_iv (n_v vs 8)).toNat then v_iv (n_v vs 11) else w_el w1 b j) ∧ ∀ b k, w_fd ws b k = w_fd w1 b k := s1.2
  replace f10 := shm_37 f10
  replace f11 := shm_548 f11
  replace f18 := shm_1456 f18
  have q4 : n_v vs 4 = n_v vs 0 := f5.symm
  have q6 : n_v vs 6 = n_v vs 2 := f7.symm
  simp only [q4, q6] at f10 f11 f18
  have ar_0_33_1 : w_ar w1 (n_v vs 0) 33 = w_ar ws (n_v vs 0) 33 := congrArg v_ad (s1.2 _ _).symm
  have cr_0_33 := fdq_117 hD hth r0
  have ar_0_34_1 : w_ar w1 (n_v vs 0) 34 = w_ar ws (n_v vs 0) 34 := congrArg v_ad (s1.2 _ _).symm
  have cr_0_34 := fdq_118 hD hth r0
  have ar_0_35_1 : w_ar w1 (n_v vs 0) 35 = w_ar ws (n_v vs 0) 35 := congrArg v_ad (s1.2 _ _).symm
  have cr_0_35 := fdq_132 hD hth r0
  have ar_0_43_1 : w_ar w1 (n_v vs 0) 43 = w_ar ws (n_v vs 0) 43 := congrArg v_ad (s1.2 _ _).symm
  have cr_0_43 := fdq_137 hD hth r0
  have ar_0_48_1 : w_ar w1 (n_v vs 0) 48 = w_ar ws (n_v vs 0) 48 := congrArg v_ad (s1.2 _ _).symm
  have ad_10 : v_ad (n_v vs 10) = w_ar ws (n_v vs 0) 48 := (congrArg v_ad f11).trans ar_0_48_1
  simp only [ar_0_33_1, ar_0_34_1, ar_0_35_1, ar_0_43_1, ar_0_48_1] at f18
  have fe_0_31_1 : w_fi ws (n_v vs 0) 31 = w_fi w1 (n_v vs 0) 31 := congrArg v_iv (s1.2 _ _)
  have fe_0_32_1 : w_fi ws (n_v vs 0) 32 = w_fi w1 (n_v vs 0) 32 := congrArg v_iv (s1.2 _ _)
  have hE_0_33_1 : ∀ j : Int, w_ei ws (w_ar ws (n_v vs 0) 33) j = w_ei w1 (w_ar ws (n_v vs 0) 33) j := el_kp s1.1 r10 cr_0_33 (by decide)
  have hE_0_34_1 : ∀ j : Int, w_ei ws (w_ar ws (n_v vs 0) 34) j = w_ei w1 (w_ar ws (n_v vs 0) 34) j := el_kp s1.1 r10 cr_0_34 (by decide)
  have hE_0_35_1 : ∀ j : Int, w_ei ws (w_ar ws (n_v vs 0) 35) j = w_ei w1 (w_ar ws (n_v vs 0) 35) j := el_kp s1.1 r10 cr_0_35 (by decide)
  have hE_0_43_1 : ∀ j : Int, w_ei ws (w_ar ws (n_v vs 0) 43) j = w_ei w1 (w_ar ws (n_v vs 0) 43) j := el_kp s1.1 r10 cr_0_43 (by decide)
  have hE_0_48_1 : ∀ j : Int, 0 ≤ j → (j = v_iv (n_v vs 8) → w_ei ws (w_ar ws (n_v vs 0) 48) j = v_iv (n_v vs 11)) ∧ (j ≠ v_iv (n_v vs 8) → w_ei ws (w_ar ws (n_v vs 0) 48) j = w_ei w1 (w_ar ws (n_v vs 0) 48) j) := fun j hj => ⟨fun h => by unfold w_ei; rw [s1.1, if_pos ⟨ad_10.symm, by rw [h]⟩], fun h => by unfold w_ei; rw [s1.1, if_neg (fun e => h (by have := e.2; omega))]⟩
  have kz_0_31 := fdq_145 hD hth r0
  have kz_0_32 := fdq_140 hD hth r0
  have nf0 : fc_1 PRD (20, [4, 6, 12], [60, 0, 1, 123, 48]) ws (vs) := by
    refine ⟨nf_in hl rfl, sgq_1456 ?_⟩
    · show TG0 (w_ei ws (w_ar ws (n_v vs 4) 48)) (v_iv (n_v vs 6)) (v_iv (n_v vs 12))
      simp only [q4, q6]
      exact vc_Mo_shortest_3_0 (v_iv (n_v vs 2)) (v_iv (n_v vs 8)) (v_iv (n_v vs 11)) (v_iv (n_v vs 12)) (w_ei ws (w_ar ws (n_v vs 0) 33)) (w_ei ws (w_ar ws (n_v vs 0) 34)) (w_fi ws (n_v vs 0) 31) (w_fi ws (n_v vs 0) 32) (w_ei ws (w_ar ws (n_v vs 0) 35)) (w_ei ws (w_ar ws (n_v vs 0) 43)) (w_fi w1 (n_v vs 0) 31) (w_ei w1 (w_ar ws (n_v vs 0) 33)) (w_ei w1 (w_ar ws (n_v vs 0) 34)) (w_fi w1 (n_v vs 0) 32) (w_ei w1 (w_ar ws (n_v vs 0) 35)) (w_ei w1 (w_ar ws (n_v vs 0) 43)) (w_ei w1 (w_ar ws (n_v vs 0) 48)) (w_ei ws (w_ar ws (n_v vs 0) 48)) k2 k8 k11 k12 d0 f10 f18 fe_0_31_1 fe_0_32_1 hE_0_33_1 hE_0_34_1 hE_0_35_1 hE_0_43_1 hE_0_48_1 kz_0_31 kz_0_32
  refine ⟨(fun _ h => (by cases h)), [], trivial, ?_, (fun _ h => (by cases h))⟩
  rw [List.append_nil]
  exact List.forall_mem_cons.mpr ⟨⟨show (20 : Nat) < 100 from by decide, nf0⟩, (fun _ h => (by cases h))⟩
set_option maxHeartbeats 4000000 in
theorem vc_Mo_shortest_4_0 (pt_0 : Int → Int) (ph_0 : Int → Int) (pn_0 : Int) (pm_0 : Int) (alive_0 : Int → Int) (drawnEdge_0 : Int → Int) (pieceOf_0 : Int → Int) (drawnNode_0 : Int → Int) (toGoal_0 : Int → Int) (onlyPiece_0 : Int) (pt_1 : Int → Int) (ph_1 : Int → Int) (pn_1 : Int) (pm_1 : Int) (alive_1 : Int → Int) (drawnEdge_1 : Int → Int) (pieceOf_1 : Int → Int) (drawnNode_1 : Int → Int) (toGoal_1 : Int → Int) (onlyPiece_1 : Int) (toGoal_2 : Int → Int) (pt_2 : Int → Int) (ph_2 : Int → Int) (pn_2 : Int) (pm_2 : Int) (alive_2 : Int → Int) (drawnEdge_2 : Int → Int) (pieceOf_2 : Int → Int) (drawnNode_2 : Int → Int) (onlyPiece_2 : Int) (pt_3 : Int → Int) (ph_3 : Int → Int) (pn_3 : Int) (pm_3 : Int) (alive_3 : Int → Int) (drawnEdge_3 : Int → Int) (pieceOf_3 : Int → Int) (drawnNode_3 : Int → Int) (toGoal_3 : Int → Int) (onlyPiece_3 : Int) (wayMany_1 : Int) (wayMany_2 : Int) (way_0 : Int → Int) (way_1 : Int → Int) (way_2 : Int → Int) (way_3 : Int → Int) (f33 : GOK (pn_3) (pm_3) (pt_3) (ph_3)) (fe_0_31_1 : pn_0 = pn_1) (fe_0_32_1 : pm_0 = pm_1) (fe_0_49_1 : onlyPiece_0 = onlyPiece_1) (fe_0_31_2 : pn_1 = pn_2) (fe_0_32_2 : pm_1 = pm_2) (fe_0_45_2 : wayMany_1 = wayMany_2) (fe_0_49_2 : onlyPiece_1 = onlyPiece_2) (fe_0_31_3 : pn_2 = pn_3) (fe_0_32_3 : pm_2 = pm_3) (fe_0_49_3 : onlyPiece_2 = onlyPiece_3) (hE_0_33_1 : ∀ j : Int, pt_0 j = pt_1 j) (hE_0_33_2 : ∀ j : Int, pt_1 j = pt_2 j) (hE_0_33_3 : ∀ j : Int, pt_2 j = pt_3 j) (hE_0_34_1 : ∀ j : Int, ph_0 j = ph_1 j) (hE_0_34_2 : ∀ j : Int, ph_1 j = ph_2 j) (hE_0_34_3 : ∀ j : Int, ph_2 j = ph_3 j) (hE_0_35_1 : ∀ j : Int, alive_0 j = alive_1 j) (hE_0_35_2 : ∀ j : Int, alive_1 j = alive_2 j) (hE_0_35_3 : ∀ j : Int, alive_2 j = alive_3 j) (hE_0_42_1 : ∀ j : Int, drawnNode_0 j = drawnNode_1 j) (hE_0_42_2 : ∀ j : Int, drawnNode_1 j = drawnNode_2 j) (hE_0_42_3 : ∀ j : Int, drawnNode_2 j = drawnNode_3 j) (hE_0_43_1 : ∀ j : Int, drawnEdge_0 j = drawnEdge_1 j) (hE_0_43_2 : ∀ j : Int, drawnEdge_1 j = drawnEdge_2 j) (hE_0_43_3 : ∀ j : Int, drawnEdge_2 j = drawnEdge_3 j) (hE_0_44_1 : ∀ j : Int, pieceOf_0 j = pieceOf_1 j) (hE_0_44_2 : ∀ j : Int, pieceOf_1 j = pieceOf_2 j) (hE_0_44_3 : ∀ j : Int, pieceOf_2 j = pieceOf_3 j) (hE_0_46_1 : ∀ j : Int, way_0 j = way_1 j) (hE_0_46_3 : ∀ j : Int, way_2 j = way_3 j) (hE_0_48_1 : ∀ j : Int, toGoal_0 j = toGoal_1 j) (hE_0_48_2 : ∀ j : Int, toGoal_1 j = toGoal_2 j) (hE_0_48_3 : ∀ j : Int, toGoal_2 j = toGoal_3 j) (kz_0_31 : 0 ≤ pn_0 ∧ pn_0 ≤ 25) (kz_0_32 : 0 ≤ pm_0 ∧ pm_0 ≤ 80) (kz_0_49 : (-1) ≤ onlyPiece_0 ∧ onlyPiece_0 ≤ 79) : GOK (pn_0) (pm_0) (pt_0) (ph_0) := by
  subst fe_0_31_1
  subst fe_0_32_1
  subst fe_0_49_1
  subst fe_0_31_2
  subst fe_0_32_2
  subst fe_0_45_2
  subst fe_0_49_2
  subst fe_0_31_3
  subst fe_0_32_3
  subst fe_0_49_3
  have e_hE_0_33_1 := funext hE_0_33_1; subst e_hE_0_33_1
  have e_hE_0_33_2 := funext hE_0_33_2; subst e_hE_0_33_2
  have e_hE_0_33_3 := funext hE_0_33_3; subst e_hE_0_33_3
  have e_hE_0_34_1 := funext hE_0_34_1; subst e_hE_0_34_1
  have e_hE_0_34_2 := funext hE_0_34_2; subst e_hE_0_34_2
  have e_hE_0_34_3 := funext hE_0_34_3; subst e_hE_0_34_3
  have e_hE_0_35_1 := funext hE_0_35_1; subst e_hE_0_35_1
  have e_hE_0_35_2 := funext hE_0_35_2; subst e_hE_0_35_2
  have e_hE_0_35_3 := funext hE_0_35_3; subst e_hE_0_35_3
  have e_hE_0_42_1 := funext hE_0_42_1; subst e_hE_0_42_1
  have e_hE_0_42_2 := funext hE_0_42_2; subst e_hE_0_42_2
  have e_hE_0_42_3 := funext hE_0_42_3; subst e_hE_0_42_3
  have e_hE_0_43_1 := funext hE_0_43_1; subst e_hE_0_43_1
  have e_hE_0_43_2 := funext hE_0_43_2; subst e_hE_0_43_2
  have e_hE_0_43_3 := funext hE_0_43_3; subst e_hE_0_43_3
  have e_hE_0_44_1 := funext hE_0_44_1; subst e_hE_0_44_1
  have e_hE_0_44_2 := funext hE_0_44_2; subst e_hE_0_44_2
  have e_hE_0_44_3 := funext hE_0_44_3; subst e_hE_0_44_3
  have e_hE_0_46_1 := funext hE_0_46_1; subst e_hE_0_46_1
  have e_hE_0_46_3 := funext hE_0_46_3; subst e_hE_0_46_3
  have e_hE_0_48_1 := funext hE_0_48_1; subst e_hE_0_48_1
  have e_hE_0_48_2 := funext hE_0_48_2; subst e_hE_0_48_2
  have e_hE_0_48_3 := funext hE_0_48_3; subst e_hE_0_48_3
  first | assumption
set_option maxHeartbeats 4000000 in
theorem vc_Mo_shortest_4_1 (pt_0 : Int → Int) (ph_0 : Int → Int) (pn_0 : Int) (pm_0 : Int) (alive_0 : Int → Int) (drawnEdge_0 : Int → Int) (pieceOf_0 : Int → Int) (drawnNode_0 : Int → Int) (toGoal_0 : Int → Int) (onlyPiece_0 : Int) (pt_1 : Int → Int) (ph_1 : Int → Int) (pn_1 : Int) (pm_1 : Int) (alive_1 : Int → Int) (drawnEdge_1 : Int → Int) (pieceOf_1 : Int → Int) (drawnNode_1 : Int → Int) (toGoal_1 : Int → Int) (onlyPiece_1 : Int) (toGoal_2 : Int → Int) (pt_2 : Int → Int) (ph_2 : Int → Int) (pn_2 : Int) (pm_2 : Int) (alive_2 : Int → Int) (drawnEdge_2 : Int → Int) (pieceOf_2 : Int → Int) (drawnNode_2 : Int → Int) (onlyPiece_2 : Int) (pt_3 : Int → Int) (ph_3 : Int → Int) (pn_3 : Int) (pm_3 : Int) (alive_3 : Int → Int) (drawnEdge_3 : Int → Int) (pieceOf_3 : Int → Int) (drawnNode_3 : Int → Int) (toGoal_3 : Int → Int) (onlyPiece_3 : Int) (wayMany_1 : Int) (wayMany_2 : Int) (way_0 : Int → Int) (way_1 : Int → Int) (way_2 : Int → Int) (way_3 : Int → Int) (f34 : UA (pm_3) (alive_3) (drawnEdge_3)) (fe_0_31_1 : pn_0 = pn_1) (fe_0_32_1 : pm_0 = pm_1) (fe_0_49_1 : onlyPiece_0 = onlyPiece_1) (fe_0_31_2 : pn_1 = pn_2) (fe_0_32_2 : pm_1 = pm_2) (fe_0_45_2 : wayMany_1 = wayMany_2) (fe_0_49_2 : onlyPiece_1 = onlyPiece_2) (fe_0_31_3 : pn_2 = pn_3) (fe_0_32_3 : pm_2 = pm_3) (fe_0_49_3 : onlyPiece_2 = onlyPiece_3) (hE_0_33_1 : ∀ j : Int, pt_0 j = pt_1 j) (hE_0_33_2 : ∀ j : Int, pt_1 j = pt_2 j) (hE_0_33_3 : ∀ j : Int, pt_2 j = pt_3 j) (hE_0_34_1 : ∀ j : Int, ph_0 j = ph_1 j) (hE_0_34_2 : ∀ j : Int, ph_1 j = ph_2 j) (hE_0_34_3 : ∀ j : Int, ph_2 j = ph_3 j) (hE_0_35_1 : ∀ j : Int, alive_0 j = alive_1 j) (hE_0_35_2 : ∀ j : Int, alive_1 j = alive_2 j) (hE_0_35_3 : ∀ j : Int, alive_2 j = alive_3 j) (hE_0_42_1 : ∀ j : Int, drawnNode_0 j = drawnNode_1 j) (hE_0_42_2 : ∀ j : Int, drawnNode_1 j = drawnNode_2 j) (hE_0_42_3 : ∀ j : Int, drawnNode_2 j = drawnNode_3 j) (hE_0_43_1 : ∀ j : Int, drawnEdge_0 j = drawnEdge_1 j) (hE_0_43_2 : ∀ j : Int, drawnEdge_1 j = drawnEdge_2 j) (hE_0_43_3 : ∀ j : Int, drawnEdge_2 j = drawnEdge_3 j) (hE_0_44_1 : ∀ j : Int, pieceOf_0 j = pieceOf_1 j) (hE_0_44_2 : ∀ j : Int, pieceOf_1 j = pieceOf_2 j) (hE_0_44_3 : ∀ j : Int, pieceOf_2 j = pieceOf_3 j) (hE_0_46_1 : ∀ j : Int, way_0 j = way_1 j) (hE_0_46_3 : ∀ j : Int, way_2 j = way_3 j) (hE_0_48_1 : ∀ j : Int, toGoal_0 j = toGoal_1 j) (hE_0_48_2 : ∀ j : Int, toGoal_1 j = toGoal_2 j) (hE_0_48_3 : ∀ j : Int, toGoal_2 j = toGoal_3 j) (kz_0_31 : 0 ≤ pn_0 ∧ pn_0 ≤ 25) (kz_0_32 : 0 ≤ pm_0 ∧ pm_0 ≤ 80) (kz_0_49 : (-1) ≤ onlyPiece_0 ∧ onlyPiece_0 ≤ 79) : UA (pm_0) (alive_0) (drawnEdge_0) := by
  subst fe_0_31_1
  subst fe_0_32_1
  subst fe_0_49_1
  subst fe_0_31_2
  subst fe_0_32_2
  subst fe_0_45_2
  subst fe_0_49_2
  subst fe_0_31_3
  subst fe_0_32_3
  subst fe_0_49_3
  have e_hE_0_33_1 := funext hE_0_33_1; subst e_hE_0_33_1
  have e_hE_0_33_2 := funext hE_0_33_2; subst e_hE_0_33_2
  have e_hE_0_33_3 := funext hE_0_33_3; subst e_hE_0_33_3
  have e_hE_0_34_1 := funext hE_0_34_1; subst e_hE_0_34_1
  have e_hE_0_34_2 := funext hE_0_34_2; subst e_hE_0_34_2
  have e_hE_0_34_3 := funext hE_0_34_3; subst e_hE_0_34_3
  have e_hE_0_35_1 := funext hE_0_35_1; subst e_hE_0_35_1
  have e_hE_0_35_2 := funext hE_0_35_2; subst e_hE_0_35_2
  have e_hE_0_35_3 := funext hE_0_35_3; subst e_hE_0_35_3
  have e_hE_0_42_1 := funext hE_0_42_1; subst e_hE_0_42_1
  have e_hE_0_42_2 := funext hE_0_42_2; subst e_hE_0_42_2
  have e_hE_0_42_3 := funext hE_0_42_3; subst e_hE_0_42_3
  have e_hE_0_43_1 := funext hE_0_43_1; subst e_hE_0_43_1
  have e_hE_0_43_2 := funext hE_0_43_2; subst e_hE_0_43_2
  have e_hE_0_43_3 := funext hE_0_43_3; subst e_hE_0_43_3
  have e_hE_0_44_1 := funext hE_0_44_1; subst e_hE_0_44_1
  have e_hE_0_44_2 := funext hE_0_44_2; subst e_hE_0_44_2
  have e_hE_0_44_3 := funext hE_0_44_3; subst e_hE_0_44_3
  have e_hE_0_46_1 := funext hE_0_46_1; subst e_hE_0_46_1
  have e_hE_0_46_3 := funext hE_0_46_3; subst e_hE_0_46_3
  have e_hE_0_48_1 := funext hE_0_48_1; subst e_hE_0_48_1
  have e_hE_0_48_2 := funext hE_0_48_2; subst e_hE_0_48_2
  have e_hE_0_48_3 := funext hE_0_48_3; subst e_hE_0_48_3
  first | assumption
set_option maxHeartbeats 4000000 in
theorem vc_Mo_shortest_4_2 (x1 : Int) (pt_0 : Int → Int) (ph_0 : Int → Int) (pn_0 : Int) (pm_0 : Int) (alive_0 : Int → Int) (drawnEdge_0 : Int → Int) (pieceOf_0 : Int → Int) (drawnNode_0 : Int → Int) (toGoal_0 : Int → Int) (onlyPiece_0 : Int) (pt_1 : Int → Int) (ph_1 : Int → Int) (pn_1 : Int) (pm_1 : Int) (alive_1 : Int → Int) (drawnEdge_1 : Int → Int) (pieceOf_1 : Int → Int) (drawnNode_1 : Int → Int) (toGoal_1 : Int → Int) (onlyPiece_1 : Int) (toGoal_2 : Int → Int) (pt_2 : Int → Int) (ph_2 : Int → Int) (pn_2 : Int) (pm_2 : Int) (alive_2 : Int → Int) (drawnEdge_2 : Int → Int) (pieceOf_2 : Int → Int) (drawnNode_2 : Int → Int) (onlyPiece_2 : Int) (pt_3 : Int → Int) (ph_3 : Int → Int) (pn_3 : Int) (pm_3 : Int) (alive_3 : Int → Int) (drawnEdge_3 : Int → Int) (pieceOf_3 : Int → Int) (drawnNode_3 : Int → Int) (toGoal_3 : Int → Int) (onlyPiece_3 : Int) (wayMany_1 : Int) (wayMany_2 : Int) (way_0 : Int → Int) (way_1 : Int → Int) (way_2 : Int → Int) (way_3 : Int → Int) (k1 : 0 ≤ x1 ∧ x1 ≤ 24) (f35 : 1 * x1 + ((-1) * pn_3 + 0) ≤ (-1)) (fe_0_31_1 : pn_0 = pn_1) (fe_0_32_1 : pm_0 = pm_1) (fe_0_49_1 : onlyPiece_0 = onlyPiece_1) (fe_0_31_2 : pn_1 = pn_2) (fe_0_32_2 : pm_1 = pm_2) (fe_0_45_2 : wayMany_1 = wayMany_2) (fe_0_49_2 : onlyPiece_1 = onlyPiece_2) (fe_0_31_3 : pn_2 = pn_3) (fe_0_32_3 : pm_2 = pm_3) (fe_0_49_3 : onlyPiece_2 = onlyPiece_3) (hE_0_33_1 : ∀ j : Int, pt_0 j = pt_1 j) (hE_0_33_2 : ∀ j : Int, pt_1 j = pt_2 j) (hE_0_33_3 : ∀ j : Int, pt_2 j = pt_3 j) (hE_0_34_1 : ∀ j : Int, ph_0 j = ph_1 j) (hE_0_34_2 : ∀ j : Int, ph_1 j = ph_2 j) (hE_0_34_3 : ∀ j : Int, ph_2 j = ph_3 j) (hE_0_35_1 : ∀ j : Int, alive_0 j = alive_1 j) (hE_0_35_2 : ∀ j : Int, alive_1 j = alive_2 j) (hE_0_35_3 : ∀ j : Int, alive_2 j = alive_3 j) (hE_0_42_1 : ∀ j : Int, drawnNode_0 j = drawnNode_1 j) (hE_0_42_2 : ∀ j : Int, drawnNode_1 j = drawnNode_2 j) (hE_0_42_3 : ∀ j : Int, drawnNode_2 j = drawnNode_3 j) (hE_0_43_1 : ∀ j : Int, drawnEdge_0 j = drawnEdge_1 j) (hE_0_43_2 : ∀ j : Int, drawnEdge_1 j = drawnEdge_2 j) (hE_0_43_3 : ∀ j : Int, drawnEdge_2 j = drawnEdge_3 j) (hE_0_44_1 : ∀ j : Int, pieceOf_0 j = pieceOf_1 j) (hE_0_44_2 : ∀ j : Int, pieceOf_1 j = pieceOf_2 j) (hE_0_44_3 : ∀ j : Int, pieceOf_2 j = pieceOf_3 j) (hE_0_46_1 : ∀ j : Int, way_0 j = way_1 j) (hE_0_46_3 : ∀ j : Int, way_2 j = way_3 j) (hE_0_48_1 : ∀ j : Int, toGoal_0 j = toGoal_1 j) (hE_0_48_2 : ∀ j : Int, toGoal_1 j = toGoal_2 j) (hE_0_48_3 : ∀ j : Int, toGoal_2 j = toGoal_3 j) (kz_0_31 : 0 ≤ pn_0 ∧ pn_0 ≤ 25) (kz_0_32 : 0 ≤ pm_0 ∧ pm_0 ≤ 80) (kz_0_49 : (-1) ≤ onlyPiece_0 ∧ onlyPiece_0 ≤ 79) : 1 * x1 + ((-1) * pn_0 + 0) ≤ (-1) := by
  subst fe_0_31_1
  subst fe_0_32_1
  subst fe_0_49_1
  subst fe_0_31_2
  subst fe_0_32_2
  subst fe_0_45_2
  subst fe_0_49_2
  subst fe_0_31_3
  subst fe_0_32_3
  subst fe_0_49_3
  have e_hE_0_33_1 := funext hE_0_33_1; subst e_hE_0_33_1
  have e_hE_0_33_2 := funext hE_0_33_2; subst e_hE_0_33_2
  have e_hE_0_33_3 := funext hE_0_33_3; subst e_hE_0_33_3
  have e_hE_0_34_1 := funext hE_0_34_1; subst e_hE_0_34_1
  have e_hE_0_34_2 := funext hE_0_34_2; subst e_hE_0_34_2
  have e_hE_0_34_3 := funext hE_0_34_3; subst e_hE_0_34_3
  have e_hE_0_35_1 := funext hE_0_35_1; subst e_hE_0_35_1
  have e_hE_0_35_2 := funext hE_0_35_2; subst e_hE_0_35_2
  have e_hE_0_35_3 := funext hE_0_35_3; subst e_hE_0_35_3
  have e_hE_0_42_1 := funext hE_0_42_1; subst e_hE_0_42_1
  have e_hE_0_42_2 := funext hE_0_42_2; subst e_hE_0_42_2
  have e_hE_0_42_3 := funext hE_0_42_3; subst e_hE_0_42_3
  have e_hE_0_43_1 := funext hE_0_43_1; subst e_hE_0_43_1
  have e_hE_0_43_2 := funext hE_0_43_2; subst e_hE_0_43_2
  have e_hE_0_43_3 := funext hE_0_43_3; subst e_hE_0_43_3
  have e_hE_0_44_1 := funext hE_0_44_1; subst e_hE_0_44_1
  have e_hE_0_44_2 := funext hE_0_44_2; subst e_hE_0_44_2
  have e_hE_0_44_3 := funext hE_0_44_3; subst e_hE_0_44_3
  have e_hE_0_46_1 := funext hE_0_46_1; subst e_hE_0_46_1
  have e_hE_0_46_3 := funext hE_0_46_3; subst e_hE_0_46_3
  have e_hE_0_48_1 := funext hE_0_48_1; subst e_hE_0_48_1
  have e_hE_0_48_2 := funext hE_0_48_2; subst e_hE_0_48_2
  have e_hE_0_48_3 := funext hE_0_48_3; subst e_hE_0_48_3
  first | omega
set_option maxHeartbeats 4000000 in
theorem vc_Mo_shortest_4_3 (x2 : Int) (pt_0 : Int → Int) (ph_0 : Int → Int) (pn_0 : Int) (pm_0 : Int) (alive_0 : Int → Int) (drawnEdge_0 : Int → Int) (pieceOf_0 : Int → Int) (drawnNode_0 : Int → Int) (toGoal_0 : Int → Int) (onlyPiece_0 : Int) (pt_1 : Int → Int) (ph_1 : Int → Int) (pn_1 : Int) (pm_1 : Int) (alive_1 : Int → Int) (drawnEdge_1 : Int → Int) (pieceOf_1 : Int → Int) (drawnNode_1 : Int → Int) (toGoal_1 : Int → Int) (onlyPiece_1 : Int) (toGoal_2 : Int → Int) (pt_2 : Int → Int) (ph_2 : Int → Int) (pn_2 : Int) (pm_2 : Int) (alive_2 : Int → Int) (drawnEdge_2 : Int → Int) (pieceOf_2 : Int → Int) (drawnNode_2 : Int → Int) (onlyPiece_2 : Int) (pt_3 : Int → Int) (ph_3 : Int → Int) (pn_3 : Int) (pm_3 : Int) (alive_3 : Int → Int) (drawnEdge_3 : Int → Int) (pieceOf_3 : Int → Int) (drawnNode_3 : Int → Int) (toGoal_3 : Int → Int) (onlyPiece_3 : Int) (wayMany_1 : Int) (wayMany_2 : Int) (way_0 : Int → Int) (way_1 : Int → Int) (way_2 : Int → Int) (way_3 : Int → Int) (k2 : 0 ≤ x2 ∧ x2 ≤ 24) (f36 : 1 * x2 + ((-1) * pn_3 + 0) ≤ (-1)) (fe_0_31_1 : pn_0 = pn_1) (fe_0_32_1 : pm_0 = pm_1) (fe_0_49_1 : onlyPiece_0 = onlyPiece_1) (fe_0_31_2 : pn_1 = pn_2) (fe_0_32_2 : pm_1 = pm_2) (fe_0_45_2 : wayMany_1 = wayMany_2) (fe_0_49_2 : onlyPiece_1 = onlyPiece_2) (fe_0_31_3 : pn_2 = pn_3) (fe_0_32_3 : pm_2 = pm_3) (fe_0_49_3 : onlyPiece_2 = onlyPiece_3) (hE_0_33_1 : ∀ j : Int, pt_0 j = pt_1 j) (hE_0_33_2 : ∀ j : Int, pt_1 j = pt_2 j) (hE_0_33_3 : ∀ j : Int, pt_2 j = pt_3 j) (hE_0_34_1 : ∀ j : Int, ph_0 j = ph_1 j) (hE_0_34_2 : ∀ j : Int, ph_1 j = ph_2 j) (hE_0_34_3 : ∀ j : Int, ph_2 j = ph_3 j) (hE_0_35_1 : ∀ j : Int, alive_0 j = alive_1 j) (hE_0_35_2 : ∀ j : Int, alive_1 j = alive_2 j) (hE_0_35_3 : ∀ j : Int, alive_2 j = alive_3 j) (hE_0_42_1 : ∀ j : Int, drawnNode_0 j = drawnNode_1 j) (hE_0_42_2 : ∀ j : Int, drawnNode_1 j = drawnNode_2 j) (hE_0_42_3 : ∀ j : Int, drawnNode_2 j = drawnNode_3 j) (hE_0_43_1 : ∀ j : Int, drawnEdge_0 j = drawnEdge_1 j) (hE_0_43_2 : ∀ j : Int, drawnEdge_1 j = drawnEdge_2 j) (hE_0_43_3 : ∀ j : Int, drawnEdge_2 j = drawnEdge_3 j) (hE_0_44_1 : ∀ j : Int, pieceOf_0 j = pieceOf_1 j) (hE_0_44_2 : ∀ j : Int, pieceOf_1 j = pieceOf_2 j) (hE_0_44_3 : ∀ j : Int, pieceOf_2 j = pieceOf_3 j) (hE_0_46_1 : ∀ j : Int, way_0 j = way_1 j) (hE_0_46_3 : ∀ j : Int, way_2 j = way_3 j) (hE_0_48_1 : ∀ j : Int, toGoal_0 j = toGoal_1 j) (hE_0_48_2 : ∀ j : Int, toGoal_1 j = toGoal_2 j) (hE_0_48_3 : ∀ j : Int, toGoal_2 j = toGoal_3 j) (kz_0_31 : 0 ≤ pn_0 ∧ pn_0 ≤ 25) (kz_0_32 : 0 ≤ pm_0 ∧ pm_0 ≤ 80) (kz_0_49 : (-1) ≤ onlyPiece_0 ∧ onlyPiece_0 ≤ 79) : 1 * x2 + ((-1) * pn_0 + 0) ≤ (-1) := by
  subst fe_0_31_1
  subst fe_0_32_1
  subst fe_0_49_1
  subst fe_0_31_2
  subst fe_0_32_2
  subst fe_0_45_2
  subst fe_0_49_2
  subst fe_0_31_3
  subst fe_0_32_3
  subst fe_0_49_3
  have e_hE_0_33_1 := funext hE_0_33_1; subst e_hE_0_33_1
  have e_hE_0_33_2 := funext hE_0_33_2; subst e_hE_0_33_2
  have e_hE_0_33_3 := funext hE_0_33_3; subst e_hE_0_33_3
  have e_hE_0_34_1 := funext hE_0_34_1; subst e_hE_0_34_1
  have e_hE_0_34_2 := funext hE_0_34_2; subst e_hE_0_34_2
  have e_hE_0_34_3 := funext hE_0_34_3; subst e_hE_0_34_3
  have e_hE_0_35_1 := funext hE_0_35_1; subst e_hE_0_35_1
  have e_hE_0_35_2 := funext hE_0_35_2; subst e_hE_0_35_2
  have e_hE_0_35_3 := funext hE_0_35_3; subst e_hE_0_35_3
  have e_hE_0_42_1 := funext hE_0_42_1; subst e_hE_0_42_1
  have e_hE_0_42_2 := funext hE_0_42_2; subst e_hE_0_42_2
  have e_hE_0_42_3 := funext hE_0_42_3; subst e_hE_0_42_3
  have e_hE_0_43_1 := funext hE_0_43_1; subst e_hE_0_43_1
  have e_hE_0_43_2 := funext hE_0_43_2; subst e_hE_0_43_2
  have e_hE_0_43_3 := funext hE_0_43_3; subst e_hE_0_43_3
  have e_hE_0_44_1 := funext hE_0_44_1; subst e_hE_0_44_1
  have e_hE_0_44_2 := funext hE_0_44_2; subst e_hE_0_44_2
  have e_hE_0_44_3 := funext hE_0_44_3; subst e_hE_0_44_3
  have e_hE_0_46_1 := funext hE_0_46_1; subst e_hE_0_46_1
  have e_hE_0_46_3 := funext hE_0_46_3; subst e_hE_0_46_3
  have e_hE_0_48_1 := funext hE_0_48_1; subst e_hE_0_48_1
  have e_hE_0_48_2 := funext hE_0_48_2; subst e_hE_0_48_2
  have e_hE_0_48_3 := funext hE_0_48_3; subst e_hE_0_48_3
  first | omega
set_option maxHeartbeats 4000000 in
theorem vc_Mo_shortest_4_4 (x1 : Int) (x2 : Int) (x3 : Int) (pt_0 : Int → Int) (ph_0 : Int → Int) (pn_0 : Int) (pm_0 : Int) (alive_0 : Int → Int) (drawnEdge_0 : Int → Int) (pieceOf_0 : Int → Int) (drawnNode_0 : Int → Int) (toGoal_0 : Int → Int) (onlyPiece_0 : Int) (pt_1 : Int → Int) (ph_1 : Int → Int) (pn_1 : Int) (pm_1 : Int) (alive_1 : Int → Int) (drawnEdge_1 : Int → Int) (pieceOf_1 : Int → Int) (drawnNode_1 : Int → Int) (toGoal_1 : Int → Int) (onlyPiece_1 : Int) (toGoal_2 : Int → Int) (pt_2 : Int → Int) (ph_2 : Int → Int) (pn_2 : Int) (pm_2 : Int) (alive_2 : Int → Int) (drawnEdge_2 : Int → Int) (pieceOf_2 : Int → Int) (drawnNode_2 : Int → Int) (onlyPiece_2 : Int) (pt_3 : Int → Int) (ph_3 : Int → Int) (pn_3 : Int) (pm_3 : Int) (alive_3 : Int → Int) (drawnEdge_3 : Int → Int) (pieceOf_3 : Int → Int) (drawnNode_3 : Int → Int) (toGoal_3 : Int → Int) (onlyPiece_3 : Int) (wayMany_1 : Int) (wayMany_2 : Int) (way_0 : Int → Int) (way_1 : Int → Int) (way_2 : Int → Int) (way_3 : Int → Int) (k1 : 0 ≤ x1 ∧ x1 ≤ 24) (k2 : 0 ≤ x2 ∧ x2 ≤ 24) (k3 : 0 ≤ x3 ∧ x3 ≤ 1) (f37 : TGI (pn_3) (pm_3) (onlyPiece_3) (pt_3) (ph_3) (drawnEdge_3) (pieceOf_3) (drawnNode_3) (toGoal_3) (x1) (x2) (x3)) (fe_0_31_1 : pn_0 = pn_1) (fe_0_32_1 : pm_0 = pm_1) (fe_0_49_1 : onlyPiece_0 = onlyPiece_1) (fe_0_31_2 : pn_1 = pn_2) (fe_0_32_2 : pm_1 = pm_2) (fe_0_45_2 : wayMany_1 = wayMany_2) (fe_0_49_2 : onlyPiece_1 = onlyPiece_2) (fe_0_31_3 : pn_2 = pn_3) (fe_0_32_3 : pm_2 = pm_3) (fe_0_49_3 : onlyPiece_2 = onlyPiece_3) (hE_0_33_1 : ∀ j : Int, pt_0 j = pt_1 j) (hE_0_33_2 : ∀ j : Int, pt_1 j = pt_2 j) (hE_0_33_3 : ∀ j : Int, pt_2 j = pt_3 j) (hE_0_34_1 : ∀ j : Int, ph_0 j = ph_1 j) (hE_0_34_2 : ∀ j : Int, ph_1 j = ph_2 j) (hE_0_34_3 : ∀ j : Int, ph_2 j = ph_3 j) (hE_0_35_1 : ∀ j : Int, alive_0 j = alive_1 j) (hE_0_35_2 : ∀ j : Int, alive_1 j = alive_2 j) (hE_0_35_3 : ∀ j : Int, alive_2 j = alive_3 j) (hE_0_42_1 : ∀ j : Int, drawnNode_0 j = drawnNode_1 j) (hE_0_42_2 : ∀ j : Int, drawnNode_1 j = drawnNode_2 j) (hE_0_42_3 : ∀ j : Int, drawnNode_2 j = drawnNode_3 j) (hE_0_43_1 : ∀ j : Int, drawnEdge_0 j = drawnEdge_1 j) (hE_0_43_2 : ∀ j : Int, drawnEdge_1 j = drawnEdge_2 j) (hE_0_43_3 : ∀ j : Int, drawnEdge_2 j = drawnEdge_3 j) (hE_0_44_1 : ∀ j : Int, pieceOf_0 j = pieceOf_1 j) (hE_0_44_2 : ∀ j : Int, pieceOf_1 j = pieceOf_2 j) (hE_0_44_3 : ∀ j : Int, pieceOf_2 j = pieceOf_3 j) (hE_0_46_1 : ∀ j : Int, way_0 j = way_1 j) (hE_0_46_3 : ∀ j : Int, way_2 j = way_3 j) (hE_0_48_1 : ∀ j : Int, toGoal_0 j = toGoal_1 j) (hE_0_48_2 : ∀ j : Int, toGoal_1 j = toGoal_2 j) (hE_0_48_3 : ∀ j : Int, toGoal_2 j = toGoal_3 j) (kz_0_31 : 0 ≤ pn_0 ∧ pn_0 ≤ 25) (kz_0_32 : 0 ≤ pm_0 ∧ pm_0 ≤ 80) (kz_0_49 : (-1) ≤ onlyPiece_0 ∧ onlyPiece_0 ≤ 79) : TGI (pn_0) (pm_0) (onlyPiece_0) (pt_0) (ph_0) (drawnEdge_0) (pieceOf_0) (drawnNode_0) (toGoal_0) (x1) (x2) (x3) := by
  subst fe_0_31_1
  subst fe_0_32_1
  subst fe_0_49_1
  subst fe_0_31_2
  subst fe_0_32_2
  subst fe_0_45_2
  subst fe_0_49_2
  subst fe_0_31_3
  subst fe_0_32_3
  subst fe_0_49_3
  have e_hE_0_33_1 := funext hE_0_33_1; subst e_hE_0_33_1
  have e_hE_0_33_2 := funext hE_0_33_2; subst e_hE_0_33_2
  have e_hE_0_33_3 := funext hE_0_33_3; subst e_hE_0_33_3
  have e_hE_0_34_1 := funext hE_0_34_1; subst e_hE_0_34_1
  have e_hE_0_34_2 := funext hE_0_34_2; subst e_hE_0_34_2
  have e_hE_0_34_3 := funext hE_0_34_3; subst e_hE_0_34_3
  have e_hE_0_35_1 := funext hE_0_35_1; subst e_hE_0_35_1
  have e_hE_0_35_2 := funext hE_0_35_2; subst e_hE_0_35_2
  have e_hE_0_35_3 := funext hE_0_35_3; subst e_hE_0_35_3
  have e_hE_0_42_1 := funext hE_0_42_1; subst e_hE_0_42_1
  have e_hE_0_42_2 := funext hE_0_42_2; subst e_hE_0_42_2
  have e_hE_0_42_3 := funext hE_0_42_3; subst e_hE_0_42_3
  have e_hE_0_43_1 := funext hE_0_43_1; subst e_hE_0_43_1
  have e_hE_0_43_2 := funext hE_0_43_2; subst e_hE_0_43_2
  have e_hE_0_43_3 := funext hE_0_43_3; subst e_hE_0_43_3
  have e_hE_0_44_1 := funext hE_0_44_1; subst e_hE_0_44_1
  have e_hE_0_44_2 := funext hE_0_44_2; subst e_hE_0_44_2
  have e_hE_0_44_3 := funext hE_0_44_3; subst e_hE_0_44_3
  have e_hE_0_46_1 := funext hE_0_46_1; subst e_hE_0_46_1
  have e_hE_0_46_3 := funext hE_0_46_3; subst e_hE_0_46_3
  have e_hE_0_48_1 := funext hE_0_48_1; subst e_hE_0_48_1
  have e_hE_0_48_2 := funext hE_0_48_2; subst e_hE_0_48_2
  have e_hE_0_48_3 := funext hE_0_48_3; subst e_hE_0_48_3
  first | assumption
set_option maxHeartbeats 4000000 in
theorem vc_Mo_shortest_4_5 (x1 : Int) (x2 : Int) (x3 : Int) (x8 : Int) (pt_0 : Int → Int) (ph_0 : Int → Int) (pn_0 : Int) (pm_0 : Int) (alive_0 : Int → Int) (drawnEdge_0 : Int → Int) (pieceOf_0 : Int → Int) (drawnNode_0 : Int → Int) (toGoal_0 : Int → Int) (onlyPiece_0 : Int) (pt_1 : Int → Int) (ph_1 : Int → Int) (pn_1 : Int) (pm_1 : Int) (alive_1 : Int → Int) (drawnEdge_1 : Int → Int) (pieceOf_1 : Int → Int) (drawnNode_1 : Int → Int) (toGoal_1 : Int → Int) (onlyPiece_1 : Int) (toGoal_2 : Int → Int) (pt_2 : Int → Int) (ph_2 : Int → Int) (pn_2 : Int) (pm_2 : Int) (alive_2 : Int → Int) (drawnEdge_2 : Int → Int) (pieceOf_2 : Int → Int) (drawnNode_2 : Int → Int) (onlyPiece_2 : Int) (pt_3 : Int → Int) (ph_3 : Int → Int) (pn_3 : Int) (pm_3 : Int) (alive_3 : Int → Int) (drawnEdge_3 : Int → Int) (pieceOf_3 : Int → Int) (drawnNode_3 : Int → Int) (toGoal_3 : Int → Int) (onlyPiece_3 : Int) (wayMany_1 : Int) (wayMany_2 : Int) (way_0 : Int → Int) (way_1 : Int → Int) (way_2 : Int → Int) (way_3 : Int → Int) (k1 : 0 ≤ x1 ∧ x1 ≤ 24) (k2 : 0 ≤ x2 ∧ x2 ≤ 24) (k3 : 0 ≤ x3 ∧ x3 ≤ 1) (k8 : 0 ≤ x8 ∧ x8 ≤ 0) (f32 : x8 = 0) (f38 : TG4 (pm_3) (onlyPiece_3) (pt_3) (ph_3) (drawnEdge_3) (pieceOf_3) (drawnNode_3) (toGoal_3) (x1) (x2) (x3) (x8)) (fe_0_31_1 : pn_0 = pn_1) (fe_0_32_1 : pm_0 = pm_1) (fe_0_49_1 : onlyPiece_0 = onlyPiece_1) (fe_0_31_2 : pn_1 = pn_2) (fe_0_32_2 : pm_1 = pm_2) (fe_0_45_2 : wayMany_1 = wayMany_2) (fe_0_49_2 : onlyPiece_1 = onlyPiece_2) (fe_0_31_3 : pn_2 = pn_3) (fe_0_32_3 : pm_2 = pm_3) (fe_0_49_3 : onlyPiece_2 = onlyPiece_3) (hE_0_33_1 : ∀ j : Int, pt_0 j = pt_1 j) (hE_0_33_2 : ∀ j : Int, pt_1 j = pt_2 j) (hE_0_33_3 : ∀ j : Int, pt_2 j = pt_3 j) (hE_0_34_1 : ∀ j : Int, ph_0 j = ph_1 j) (hE_0_34_2 : ∀ j : Int, ph_1 j = ph_2 j) (hE_0_34_3 : ∀ j : Int, ph_2 j = ph_3 j) (hE_0_35_1 : ∀ j : Int, alive_0 j = alive_1 j) (hE_0_35_2 : ∀ j : Int, alive_1 j = alive_2 j) (hE_0_35_3 : ∀ j : Int, alive_2 j = alive_3 j) (hE_0_42_1 : ∀ j : Int, drawnNode_0 j = drawnNode_1 j) (hE_0_42_2 : ∀ j : Int, drawnNode_1 j = drawnNode_2 j) (hE_0_42_3 : ∀ j : Int, drawnNode_2 j = drawnNode_3 j) (hE_0_43_1 : ∀ j : Int, drawnEdge_0 j = drawnEdge_1 j) (hE_0_43_2 : ∀ j : Int, drawnEdge_1 j = drawnEdge_2 j) (hE_0_43_3 : ∀ j : Int, drawnEdge_2 j = drawnEdge_3 j) (hE_0_44_1 : ∀ j : Int, pieceOf_0 j = pieceOf_1 j) (hE_0_44_2 : ∀ j : Int, pieceOf_1 j = pieceOf_2 j) (hE_0_44_3 : ∀ j : Int, pieceOf_2 j = pieceOf_3 j) (hE_0_46_1 : ∀ j : Int, way_0 j = way_1 j) (hE_0_46_3 : ∀ j : Int, way_2 j = way_3 j) (hE_0_48_1 : ∀ j : Int, toGoal_0 j = toGoal_1 j) (hE_0_48_2 : ∀ j : Int, toGoal_1 j = toGoal_2 j) (hE_0_48_3 : ∀ j : Int, toGoal_2 j = toGoal_3 j) (kz_0_31 : 0 ≤ pn_0 ∧ pn_0 ≤ 25) (kz_0_32 : 0 ≤ pm_0 ∧ pm_0 ≤ 80) (kz_0_49 : (-1) ≤ onlyPiece_0 ∧ onlyPiece_0 ≤ 79) : TG5 (pm_0) (onlyPiece_0) (pt_0) (ph_0) (drawnEdge_0) (pieceOf_0) (drawnNode_0) (toGoal_0) (x1) (x2) (x3) := by
  subst fe_0_31_1
  subst fe_0_32_1
  subst fe_0_49_1
  subst fe_0_31_2
  subst fe_0_32_2
  subst fe_0_45_2
  subst fe_0_49_2
  subst fe_0_31_3
  subst fe_0_32_3
  subst fe_0_49_3
  have e_hE_0_33_1 := funext hE_0_33_1; subst e_hE_0_33_1
  have e_hE_0_33_2 := funext hE_0_33_2; subst e_hE_0_33_2
  have e_hE_0_33_3 := funext hE_0_33_3; subst e_hE_0_33_3
  have e_hE_0_34_1 := funext hE_0_34_1; subst e_hE_0_34_1
  have e_hE_0_34_2 := funext hE_0_34_2; subst e_hE_0_34_2
  have e_hE_0_34_3 := funext hE_0_34_3; subst e_hE_0_34_3
  have e_hE_0_35_1 := funext hE_0_35_1; subst e_hE_0_35_1
  have e_hE_0_35_2 := funext hE_0_35_2; subst e_hE_0_35_2
  have e_hE_0_35_3 := funext hE_0_35_3; subst e_hE_0_35_3
  have e_hE_0_42_1 := funext hE_0_42_1; subst e_hE_0_42_1
  have e_hE_0_42_2 := funext hE_0_42_2; subst e_hE_0_42_2
  have e_hE_0_42_3 := funext hE_0_42_3; subst e_hE_0_42_3
  have e_hE_0_43_1 := funext hE_0_43_1; subst e_hE_0_43_1
  have e_hE_0_43_2 := funext hE_0_43_2; subst e_hE_0_43_2
  have e_hE_0_43_3 := funext hE_0_43_3; subst e_hE_0_43_3
  have e_hE_0_44_1 := funext hE_0_44_1; subst e_hE_0_44_1
  have e_hE_0_44_2 := funext hE_0_44_2; subst e_hE_0_44_2
  have e_hE_0_44_3 := funext hE_0_44_3; subst e_hE_0_44_3
  have e_hE_0_46_1 := funext hE_0_46_1; subst e_hE_0_46_1
  have e_hE_0_46_3 := funext hE_0_46_3; subst e_hE_0_46_3
  have e_hE_0_48_1 := funext hE_0_48_1; subst e_hE_0_48_1
  have e_hE_0_48_2 := funext hE_0_48_2; subst e_hE_0_48_2
  have e_hE_0_48_3 := funext hE_0_48_3; subst e_hE_0_48_3
  first
    | assumption
    | (have h := ‹TG4 _ _ _ _ _ _ _ _ _ _ _ _›; rw [show x8 = 0 by omega] at h; exact h)
set_option maxHeartbeats 4000000 in
theorem vc_Mo_shortest_4_6 (x1 : Int) (x2 : Int) (x3 : Int) (x5 : Int) (x12 : Int) (x15 : Int) (x16 : Int) (pt_0 : Int → Int) (ph_0 : Int → Int) (pn_0 : Int) (pm_0 : Int) (alive_0 : Int → Int) (drawnEdge_0 : Int → Int) (pieceOf_0 : Int → Int) (drawnNode_0 : Int → Int) (toGoal_0 : Int → Int) (onlyPiece_0 : Int) (pt_1 : Int → Int) (ph_1 : Int → Int) (pn_1 : Int) (pm_1 : Int) (alive_1 : Int → Int) (drawnEdge_1 : Int → Int) (pieceOf_1 : Int → Int) (drawnNode_1 : Int → Int) (toGoal_1 : Int → Int) (onlyPiece_1 : Int) (toGoal_2 : Int → Int) (pt_2 : Int → Int) (ph_2 : Int → Int) (pn_2 : Int) (pm_2 : Int) (alive_2 : Int → Int) (drawnEdge_2 : Int → Int) (pieceOf_2 : Int → Int) (drawnNode_2 : Int → Int) (onlyPiece_2 : Int) (pt_3 : Int → Int) (ph_3 : Int → Int) (pn_3 : Int) (pm_3 : Int) (alive_3 : Int → Int) (drawnEdge_3 : Int → Int) (pieceOf_3 : Int → Int) (drawnNode_3 : Int → Int) (toGoal_3 : Int → Int) (onlyPiece_3 : Int) (wayMany_0 : Int) (wayMany_1 : Int) (wayMany_2 : Int) (way_0 : Int → Int) (way_1 : Int → Int) (way_2 : Int → Int) (way_3 : Int → Int) (k1 : 0 ≤ x1 ∧ x1 ≤ 24) (k2 : 0 ≤ x2 ∧ x2 ≤ 24) (k3 : 0 ≤ x3 ∧ x3 ≤ 1) (k5 : 0 ≤ x5 ∧ x5 ≤ 24) (k12 : 0 ≤ x12 ∧ x12 ≤ 999999) (k15 : 0 ≤ x15 ∧ x15 ≤ 0) (k16 : 1 ≤ x16 ∧ x16 ≤ 1) (d0 : x5 + (-4294967296) ≤ x1 ∧ x1 ≤ x5 + 0) (d3 : x1 + (-4294967296) ≤ x5 ∧ x5 ≤ x1 + 0) (f2 : 1 * x1 + ((-1) * pn_0 + 0) ≤ (-1)) (h22 : x12 = toGoal_2 (x1)) (fe_0_31_1 : pn_0 = pn_1) (fe_0_32_1 : pm_0 = pm_1) (fe_0_45_1 : wayMany_0 = x16) (fe_0_49_1 : onlyPiece_0 = onlyPiece_1) (fe_0_31_2 : pn_1 = pn_2) (fe_0_32_2 : pm_1 = pm_2) (fe_0_45_2 : wayMany_1 = wayMany_2) (fe_0_49_2 : onlyPiece_1 = onlyPiece_2) (fe_0_31_3 : pn_2 = pn_3) (fe_0_32_3 : pm_2 = pm_3) (fe_0_49_3 : onlyPiece_2 = onlyPiece_3) (hE_0_33_1 : ∀ j : Int, pt_0 j = pt_1 j) (hE_0_33_2 : ∀ j : Int, pt_1 j = pt_2 j) (hE_0_33_3 : ∀ j : Int, pt_2 j = pt_3 j) (hE_0_34_1 : ∀ j : Int, ph_0 j = ph_1 j) (hE_0_34_2 : ∀ j : Int, ph_1 j = ph_2 j) (hE_0_34_3 : ∀ j : Int, ph_2 j = ph_3 j) (hE_0_35_1 : ∀ j : Int, alive_0 j = alive_1 j) (hE_0_35_2 : ∀ j : Int, alive_1 j = alive_2 j) (hE_0_35_3 : ∀ j : Int, alive_2 j = alive_3 j) (hE_0_42_1 : ∀ j : Int, drawnNode_0 j = drawnNode_1 j) (hE_0_42_2 : ∀ j : Int, drawnNode_1 j = drawnNode_2 j) (hE_0_42_3 : ∀ j : Int, drawnNode_2 j = drawnNode_3 j) (hE_0_43_1 : ∀ j : Int, drawnEdge_0 j = drawnEdge_1 j) (hE_0_43_2 : ∀ j : Int, drawnEdge_1 j = drawnEdge_2 j) (hE_0_43_3 : ∀ j : Int, drawnEdge_2 j = drawnEdge_3 j) (hE_0_44_1 : ∀ j : Int, pieceOf_0 j = pieceOf_1 j) (hE_0_44_2 : ∀ j : Int, pieceOf_1 j = pieceOf_2 j) (hE_0_44_3 : ∀ j : Int, pieceOf_2 j = pieceOf_3 j) (hE_0_46_1 : ∀ j : Int, way_0 j = way_1 j) (hE_0_46_2 : ∀ j : Int, 0 ≤ j → (j = x15 → way_1 j = x1) ∧ (j ≠ x15 → way_1 j = way_2 j)) (hE_0_46_3 : ∀ j : Int, way_2 j = way_3 j) (hE_0_48_1 : ∀ j : Int, toGoal_0 j = toGoal_1 j) (hE_0_48_2 : ∀ j : Int, toGoal_1 j = toGoal_2 j) (hE_0_48_3 : ∀ j : Int, toGoal_2 j = toGoal_3 j) (kz_0_31 : 0 ≤ pn_0 ∧ pn_0 ≤ 25) (kz_0_32 : 0 ≤ pm_0 ∧ pm_0 ≤ 80) (kz_0_45 : 0 ≤ wayMany_0 ∧ wayMany_0 ≤ 30) (kz_0_49 : (-1) ≤ onlyPiece_0 ∧ onlyPiece_0 ≤ 79) : WLK (pn_0) (pm_0) (onlyPiece_0) (wayMany_0) (pt_0) (ph_0) (alive_0) (drawnEdge_0) (pieceOf_0) (drawnNode_0) (toGoal_0) (way_0) (x1) (x2) (x3) (x1) := by
  subst fe_0_31_1
  subst fe_0_32_1
  subst fe_0_49_1
  subst fe_0_31_2
  subst fe_0_32_2
  subst fe_0_45_2
  subst fe_0_49_2
  subst fe_0_31_3
  subst fe_0_32_3
  subst fe_0_49_3
  have e_hE_0_33_1 := funext hE_0_33_1; subst e_hE_0_33_1
  have e_hE_0_33_2 := funext hE_0_33_2; subst e_hE_0_33_2
  have e_hE_0_33_3 := funext hE_0_33_3; subst e_hE_0_33_3
  have e_hE_0_34_1 := funext hE_0_34_1; subst e_hE_0_34_1
  have e_hE_0_34_2 := funext hE_0_34_2; subst e_hE_0_34_2
  have e_hE_0_34_3 := funext hE_0_34_3; subst e_hE_0_34_3
  have e_hE_0_35_1 := funext hE_0_35_1; subst e_hE_0_35_1
  have e_hE_0_35_2 := funext hE_0_35_2; subst e_hE_0_35_2
  have e_hE_0_35_3 := funext hE_0_35_3; subst e_hE_0_35_3
  have e_hE_0_42_1 := funext hE_0_42_1; subst e_hE_0_42_1
  have e_hE_0_42_2 := funext hE_0_42_2; subst e_hE_0_42_2
  have e_hE_0_42_3 := funext hE_0_42_3; subst e_hE_0_42_3
  have e_hE_0_43_1 := funext hE_0_43_1; subst e_hE_0_43_1
  have e_hE_0_43_2 := funext hE_0_43_2; subst e_hE_0_43_2
  have e_hE_0_43_3 := funext hE_0_43_3; subst e_hE_0_43_3
  have e_hE_0_44_1 := funext hE_0_44_1; subst e_hE_0_44_1
  have e_hE_0_44_2 := funext hE_0_44_2; subst e_hE_0_44_2
  have e_hE_0_44_3 := funext hE_0_44_3; subst e_hE_0_44_3
  have e_hE_0_46_1 := funext hE_0_46_1; subst e_hE_0_46_1
  have e_hE_0_46_3 := funext hE_0_46_3; subst e_hE_0_46_3
  have e_hE_0_48_1 := funext hE_0_48_1; subst e_hE_0_48_1
  have e_hE_0_48_2 := funext hE_0_48_2; subst e_hE_0_48_2
  have e_hE_0_48_3 := funext hE_0_48_3; subst e_hE_0_48_3
  first
    | (rw [show wayMany_0 = 1 by omega]
       exact wlk_start (by omega) (by omega) (by omega) (by rw [show (0 : Int) = x15 by omega]; exact (hE_0_46_2 x15 (by omega)).1 rfl))
set_option maxHeartbeats 4000000 in
theorem vc_Mo_shortest_4_7 (x16 : Int) (pt_0 : Int → Int) (ph_0 : Int → Int) (pn_0 : Int) (pm_0 : Int) (alive_0 : Int → Int) (drawnEdge_0 : Int → Int) (pieceOf_0 : Int → Int) (drawnNode_0 : Int → Int) (toGoal_0 : Int → Int) (onlyPiece_0 : Int) (pt_1 : Int → Int) (ph_1 : Int → Int) (pn_1 : Int) (pm_1 : Int) (alive_1 : Int → Int) (drawnEdge_1 : Int → Int) (pieceOf_1 : Int → Int) (drawnNode_1 : Int → Int) (toGoal_1 : Int → Int) (onlyPiece_1 : Int) (toGoal_2 : Int → Int) (pt_2 : Int → Int) (ph_2 : Int → Int) (pn_2 : Int) (pm_2 : Int) (alive_2 : Int → Int) (drawnEdge_2 : Int → Int) (pieceOf_2 : Int → Int) (drawnNode_2 : Int → Int) (onlyPiece_2 : Int) (pt_3 : Int → Int) (ph_3 : Int → Int) (pn_3 : Int) (pm_3 : Int) (alive_3 : Int → Int) (drawnEdge_3 : Int → Int) (pieceOf_3 : Int → Int) (drawnNode_3 : Int → Int) (toGoal_3 : Int → Int) (onlyPiece_3 : Int) (wayMany_0 : Int) (wayMany_1 : Int) (wayMany_2 : Int) (way_0 : Int → Int) (way_1 : Int → Int) (way_2 : Int → Int) (way_3 : Int → Int) (gx : Int) (k16 : 1 ≤ x16 ∧ x16 ≤ 1) (fe_0_31_1 : pn_0 = pn_1) (fe_0_32_1 : pm_0 = pm_1) (fe_0_45_1 : wayMany_0 = x16) (fe_0_49_1 : onlyPiece_0 = onlyPiece_1) (fe_0_31_2 : pn_1 = pn_2) (fe_0_32_2 : pm_1 = pm_2) (fe_0_45_2 : wayMany_1 = wayMany_2) (fe_0_49_2 : onlyPiece_1 = onlyPiece_2) (fe_0_31_3 : pn_2 = pn_3) (fe_0_32_3 : pm_2 = pm_3) (fe_0_49_3 : onlyPiece_2 = onlyPiece_3) (hE_0_33_1 : ∀ j : Int, pt_0 j = pt_1 j) (hE_0_33_2 : ∀ j : Int, pt_1 j = pt_2 j) (hE_0_33_3 : ∀ j : Int, pt_2 j = pt_3 j) (hE_0_34_1 : ∀ j : Int, ph_0 j = ph_1 j) (hE_0_34_2 : ∀ j : Int, ph_1 j = ph_2 j) (hE_0_34_3 : ∀ j : Int, ph_2 j = ph_3 j) (hE_0_35_1 : ∀ j : Int, alive_0 j = alive_1 j) (hE_0_35_2 : ∀ j : Int, alive_1 j = alive_2 j) (hE_0_35_3 : ∀ j : Int, alive_2 j = alive_3 j) (hE_0_42_1 : ∀ j : Int, drawnNode_0 j = drawnNode_1 j) (hE_0_42_2 : ∀ j : Int, drawnNode_1 j = drawnNode_2 j) (hE_0_42_3 : ∀ j : Int, drawnNode_2 j = drawnNode_3 j) (hE_0_43_1 : ∀ j : Int, drawnEdge_0 j = drawnEdge_1 j) (hE_0_43_2 : ∀ j : Int, drawnEdge_1 j = drawnEdge_2 j) (hE_0_43_3 : ∀ j : Int, drawnEdge_2 j = drawnEdge_3 j) (hE_0_44_1 : ∀ j : Int, pieceOf_0 j = pieceOf_1 j) (hE_0_44_2 : ∀ j : Int, pieceOf_1 j = pieceOf_2 j) (hE_0_44_3 : ∀ j : Int, pieceOf_2 j = pieceOf_3 j) (hE_0_46_1 : ∀ j : Int, way_0 j = way_1 j) (hE_0_46_3 : ∀ j : Int, way_2 j = way_3 j) (hE_0_48_1 : ∀ j : Int, toGoal_0 j = toGoal_1 j) (hE_0_48_2 : ∀ j : Int, toGoal_1 j = toGoal_2 j) (hE_0_48_3 : ∀ j : Int, toGoal_2 j = toGoal_3 j) (kz_0_31 : 0 ≤ pn_0 ∧ pn_0 ≤ 25) (kz_0_32 : 0 ≤ pm_0 ∧ pm_0 ≤ 80) (kz_0_45 : 0 ≤ wayMany_0 ∧ wayMany_0 ≤ 30) (kz_0_49 : (-1) ≤ onlyPiece_0 ∧ onlyPiece_0 ≤ 79) (ex2 : gx = 61) : 1 * wayMany_0 + (1 * gx + 0) ≤ 62 := by
  subst fe_0_31_1
  subst fe_0_32_1
  subst fe_0_49_1
  subst fe_0_31_2
  subst fe_0_32_2
  subst fe_0_45_2
  subst fe_0_49_2
  subst fe_0_31_3
  subst fe_0_32_3
  subst fe_0_49_3
  have e_hE_0_33_1 := funext hE_0_33_1; subst e_hE_0_33_1
  have e_hE_0_33_2 := funext hE_0_33_2; subst e_hE_0_33_2
  have e_hE_0_33_3 := funext hE_0_33_3; subst e_hE_0_33_3
  have e_hE_0_34_1 := funext hE_0_34_1; subst e_hE_0_34_1
  have e_hE_0_34_2 := funext hE_0_34_2; subst e_hE_0_34_2
  have e_hE_0_34_3 := funext hE_0_34_3; subst e_hE_0_34_3
  have e_hE_0_35_1 := funext hE_0_35_1; subst e_hE_0_35_1
  have e_hE_0_35_2 := funext hE_0_35_2; subst e_hE_0_35_2
  have e_hE_0_35_3 := funext hE_0_35_3; subst e_hE_0_35_3
  have e_hE_0_42_1 := funext hE_0_42_1; subst e_hE_0_42_1
  have e_hE_0_42_2 := funext hE_0_42_2; subst e_hE_0_42_2
  have e_hE_0_42_3 := funext hE_0_42_3; subst e_hE_0_42_3
  have e_hE_0_43_1 := funext hE_0_43_1; subst e_hE_0_43_1
  have e_hE_0_43_2 := funext hE_0_43_2; subst e_hE_0_43_2
  have e_hE_0_43_3 := funext hE_0_43_3; subst e_hE_0_43_3
  have e_hE_0_44_1 := funext hE_0_44_1; subst e_hE_0_44_1
  have e_hE_0_44_2 := funext hE_0_44_2; subst e_hE_0_44_2
  have e_hE_0_44_3 := funext hE_0_44_3; subst e_hE_0_44_3
  have e_hE_0_46_1 := funext hE_0_46_1; subst e_hE_0_46_1
  have e_hE_0_46_3 := funext hE_0_46_3; subst e_hE_0_46_3
  have e_hE_0_48_1 := funext hE_0_48_1; subst e_hE_0_48_1
  have e_hE_0_48_2 := funext hE_0_48_2; subst e_hE_0_48_2
  have e_hE_0_48_3 := funext hE_0_48_3; subst e_hE_0_48_3
  first | omega
set_option maxHeartbeats 4000000 in
theorem vc_Mo_shortest_4_8 (x16 : Int) (pt_0 : Int → Int) (ph_0 : Int → Int) (pn_0 : Int) (pm_0 : Int) (alive_0 : Int → Int) (drawnEdge_0 : Int → Int) (pieceOf_0 : Int → Int) (drawnNode_0 : Int → Int) (toGoal_0 : Int → Int) (onlyPiece_0 : Int) (pt_1 : Int → Int) (ph_1 : Int → Int) (pn_1 : Int) (pm_1 : Int) (alive_1 : Int → Int) (drawnEdge_1 : Int → Int) (pieceOf_1 : Int → Int) (drawnNode_1 : Int → Int) (toGoal_1 : Int → Int) (onlyPiece_1 : Int) (toGoal_2 : Int → Int) (pt_2 : Int → Int) (ph_2 : Int → Int) (pn_2 : Int) (pm_2 : Int) (alive_2 : Int → Int) (drawnEdge_2 : Int → Int) (pieceOf_2 : Int → Int) (drawnNode_2 : Int → Int) (onlyPiece_2 : Int) (pt_3 : Int → Int) (ph_3 : Int → Int) (pn_3 : Int) (pm_3 : Int) (alive_3 : Int → Int) (drawnEdge_3 : Int → Int) (pieceOf_3 : Int → Int) (drawnNode_3 : Int → Int) (toGoal_3 : Int → Int) (onlyPiece_3 : Int) (wayMany_0 : Int) (wayMany_1 : Int) (wayMany_2 : Int) (way_0 : Int → Int) (way_1 : Int → Int) (way_2 : Int → Int) (way_3 : Int → Int) (gx : Int) (k16 : 1 ≤ x16 ∧ x16 ≤ 1) (fe_0_31_1 : pn_0 = pn_1) (fe_0_32_1 : pm_0 = pm_1) (fe_0_45_1 : wayMany_0 = x16) (fe_0_49_1 : onlyPiece_0 = onlyPiece_1) (fe_0_31_2 : pn_1 = pn_2) (fe_0_32_2 : pm_1 = pm_2) (fe_0_45_2 : wayMany_1 = wayMany_2) (fe_0_49_2 : onlyPiece_1 = onlyPiece_2) (fe_0_31_3 : pn_2 = pn_3) (fe_0_32_3 : pm_2 = pm_3) (fe_0_49_3 : onlyPiece_2 = onlyPiece_3) (hE_0_33_1 : ∀ j : Int, pt_0 j = pt_1 j) (hE_0_33_2 : ∀ j : Int, pt_1 j = pt_2 j) (hE_0_33_3 : ∀ j : Int, pt_2 j = pt_3 j) (hE_0_34_1 : ∀ j : Int, ph_0 j = ph_1 j) (hE_0_34_2 : ∀ j : Int, ph_1 j = ph_2 j) (hE_0_34_3 : ∀ j : Int, ph_2 j = ph_3 j) (hE_0_35_1 : ∀ j : Int, alive_0 j = alive_1 j) (hE_0_35_2 : ∀ j : Int, alive_1 j = alive_2 j) (hE_0_35_3 : ∀ j : Int, alive_2 j = alive_3 j) (hE_0_42_1 : ∀ j : Int, drawnNode_0 j = drawnNode_1 j) (hE_0_42_2 : ∀ j : Int, drawnNode_1 j = drawnNode_2 j) (hE_0_42_3 : ∀ j : Int, drawnNode_2 j = drawnNode_3 j) (hE_0_43_1 : ∀ j : Int, drawnEdge_0 j = drawnEdge_1 j) (hE_0_43_2 : ∀ j : Int, drawnEdge_1 j = drawnEdge_2 j) (hE_0_43_3 : ∀ j : Int, drawnEdge_2 j = drawnEdge_3 j) (hE_0_44_1 : ∀ j : Int, pieceOf_0 j = pieceOf_1 j) (hE_0_44_2 : ∀ j : Int, pieceOf_1 j = pieceOf_2 j) (hE_0_44_3 : ∀ j : Int, pieceOf_2 j = pieceOf_3 j) (hE_0_46_1 : ∀ j : Int, way_0 j = way_1 j) (hE_0_46_3 : ∀ j : Int, way_2 j = way_3 j) (hE_0_48_1 : ∀ j : Int, toGoal_0 j = toGoal_1 j) (hE_0_48_2 : ∀ j : Int, toGoal_1 j = toGoal_2 j) (hE_0_48_3 : ∀ j : Int, toGoal_2 j = toGoal_3 j) (kz_0_31 : 0 ≤ pn_0 ∧ pn_0 ≤ 25) (kz_0_32 : 0 ≤ pm_0 ∧ pm_0 ≤ 80) (kz_0_45 : 0 ≤ wayMany_0 ∧ wayMany_0 ≤ 30) (kz_0_49 : (-1) ≤ onlyPiece_0 ∧ onlyPiece_0 ≤ 79) (ex2 : gx = 61) : (-1) * wayMany_0 + ((-1) * gx + 0) ≤ (-62) := by
  subst fe_0_31_1
  subst fe_0_32_1
  subst fe_0_49_1
  subst fe_0_31_2
  subst fe_0_32_2
  subst fe_0_45_2
  subst fe_0_49_2
  subst fe_0_31_3
  subst fe_0_32_3
  subst fe_0_49_3
  have e_hE_0_33_1 := funext hE_0_33_1; subst e_hE_0_33_1
  have e_hE_0_33_2 := funext hE_0_33_2; subst e_hE_0_33_2
  have e_hE_0_33_3 := funext hE_0_33_3; subst e_hE_0_33_3
  have e_hE_0_34_1 := funext hE_0_34_1; subst e_hE_0_34_1
  have e_hE_0_34_2 := funext hE_0_34_2; subst e_hE_0_34_2
  have e_hE_0_34_3 := funext hE_0_34_3; subst e_hE_0_34_3
  have e_hE_0_35_1 := funext hE_0_35_1; subst e_hE_0_35_1
  have e_hE_0_35_2 := funext hE_0_35_2; subst e_hE_0_35_2
  have e_hE_0_35_3 := funext hE_0_35_3; subst e_hE_0_35_3
  have e_hE_0_42_1 := funext hE_0_42_1; subst e_hE_0_42_1
  have e_hE_0_42_2 := funext hE_0_42_2; subst e_hE_0_42_2
  have e_hE_0_42_3 := funext hE_0_42_3; subst e_hE_0_42_3
  have e_hE_0_43_1 := funext hE_0_43_1; subst e_hE_0_43_1
  have e_hE_0_43_2 := funext hE_0_43_2; subst e_hE_0_43_2
  have e_hE_0_43_3 := funext hE_0_43_3; subst e_hE_0_43_3
  have e_hE_0_44_1 := funext hE_0_44_1; subst e_hE_0_44_1
  have e_hE_0_44_2 := funext hE_0_44_2; subst e_hE_0_44_2
  have e_hE_0_44_3 := funext hE_0_44_3; subst e_hE_0_44_3
  have e_hE_0_46_1 := funext hE_0_46_1; subst e_hE_0_46_1
  have e_hE_0_46_3 := funext hE_0_46_3; subst e_hE_0_46_3
  have e_hE_0_48_1 := funext hE_0_48_1; subst e_hE_0_48_1
  have e_hE_0_48_2 := funext hE_0_48_2; subst e_hE_0_48_2
  have e_hE_0_48_3 := funext hE_0_48_3; subst e_hE_0_48_3
  first | omega
def o_Mo_shortest_4 : or_T := (187, 17, [(0, (2, 0, 0, [165])), (1, (0, 0, 24, [])), (2, (0, 0, 24, [])), (3, (0, 0, 1, [])), (4, (2, 0, 0, [165])), (5, (0, 0, 24, [])), (6, (0, 0, 24, [])), (7, (0, 0, 1, [])), (8, (0, 0, 0, [])), (9, (0, -2, 26000060, [])), (10, (0, 0, 0, [])), (11, (2, 0, 0, [192])), (12, (0, 0, 999999, [])), (13, (0, 1000000, 1000000, [])), (14, (2, 0, 0, [191])), (15, (0, 0, 0, [])), (16, (0, 1, 1, []))], [(20, [4], [60, 2, 2, 75, 31, 32, 33, 34]), (20, [4], [60, 1, 2, 122, 32, 35, 43]), (20, [5, 4], [30, -1, 1, 0, 0, -1, 1, 31]), (20, [6, 4], [30, -1, 1, 0, 0, -1, 1, 31]), (20, [4, 5, 6, 7], [60, 3, 6, 124, 31, 32, 49, 33, 34, 43, 44, 42, 48]), (20, [4, 5, 6, 7, 8], [60, 2, 6, 126, 32, 49, 33, 34, 43, 44, 42, 48]), (20, [4, 8, 9], [60, 1, 1, 127, 31, 48]), (24, [0, 4], []), (24, [1, 5], []), (24, [2, 6], []), (24, [3, 7], []), (101, [4, 16], [45]), (20, [4], [60, 2, 2, 75, 31, 32, 33, 34]), (20, [4], [60, 1, 2, 122, 32, 35, 43]), (20, [5, 4], [30, -1, 1, 0, 0, -1, 1, 31]), (20, [6, 4], [30, -1, 1, 0, 0, -1, 1, 31]), (20, [4, 5, 6, 7], [60, 3, 6, 124, 31, 32, 49, 33, 34, 43, 44, 42, 48]), (20, [4, 5, 6, 7, 8], [60, 2, 6, 126, 32, 49, 33, 34, 43, 44, 42, 48]), (20, [4, 8, 9], [60, 1, 1, 127, 31, 48]), (100, [14, 15, 5], []), (9, [14, 4], [46]), (7, [12, 13], [2]), (10, [12, 11, 5], []), (9, [11, 4], [48]), (20, [4], [60, 2, 2, 75, 31, 32, 33, 34]), (20, [4], [60, 1, 2, 122, 32, 35, 43]), (20, [5, 4], [30, -1, 1, 0, 0, -1, 1, 31]), (20, [6, 4], [30, -1, 1, 0, 0, -1, 1, 31]), (20, [4, 5, 6, 7], [60, 3, 6, 124, 31, 32, 49, 33, 34, 43, 44, 42, 48]), (20, [4, 5, 6, 7, 8], [60, 2, 6, 126, 32, 49, 33, 34, 43, 44, 42, 48]), (20, [4, 8, 9], [60, 1, 1, 127, 31, 48]), (101, [4, 10], [45]), (8, [8], [0]), (20, [4], [60, 2, 2, 75, 31, 32, 33, 34]), (20, [4], [60, 1, 2, 122, 32, 35, 43]), (20, [5, 4], [30, -1, 1, 0, 0, -1, 1, 31]), (20, [6, 4], [30, -1, 1, 0, 0, -1, 1, 31]), (20, [4, 5, 6, 7], [60, 3, 6, 124, 31, 32, 49, 33, 34, 43, 44, 42, 48]), (20, [4, 5, 6, 7, 8], [60, 2, 6, 126, 32, 49, 33, 34, 43, 44, 42, 48]), (20, [4, 8, 9], [60, 1, 1, 127, 31, 48])], [], [(0, -2, 61, [])], [(20, [4], [60, 2, 2, 75, 31, 32, 33, 34]), (20, [4], [60, 1, 2, 122, 32, 35, 43]), (20, [5, 4], [30, -1, 1, 0, 0, -1, 1, 31]), (20, [6, 4], [30, -1, 1, 0, 0, -1, 1, 31]), (20, [4, 5, 6, 7], [60, 3, 6, 124, 31, 32, 49, 33, 34, 43, 44, 42, 48]), (20, [4, 5, 6, 7], [60, 2, 6, 134, 32, 49, 33, 34, 43, 44, 42, 48]), (20, [4, 5, 6, 7, 5], [60, 4, 8, 131, 31, 32, 49, 45, 33, 34, 35, 43, 44, 42, 48, 46]), (20, [4, 17], [30, 62, 1, 1, 45, 1, 0, 0]), (20, [4, 17], [30, -62, -1, 1, 45, -1, 0, 0]), (24, [0, 4], []), (24, [1, 5], []), (24, [2, 6], []), (24, [3, 7], [])], [], [(1, 5, -4294967296, 0), (2, 6, -4294967296, 0), (3, 7, -4294967296, 0), (5, 1, -4294967296, 0), (6, 2, -4294967296, 0), (7, 3, -4294967296, 0)])
theorem oo_Mo_shortest_4 {kA : Nat → ClassId} : or_ok PRD kA GG o_Mo_shortest_4 := by
  refine or_mk fun A ta ws vs hD hth hl => ?_
  intro t0 r0 t1 k1 t2 k2 t3 k3 t4 r4 t5 k5 t6 k6 t7 k7 t8 k8 t9 k9 t10 k10 t11 r11 t12 k12 t13 k13 t14 r14 t15 k15 t16 k16 d0 d1 d2 d3 d4 d5 f0 f1 f2 f3 f4 f5 f6 f7 f8 f9 f10 ta1 w1 le1 s1 f12 f13 f14 f15 f16 f17 f18 ta2 w2 le2 s2 f20 f21 f22 f23 f24 f25 f26 f27 f28 f29 f30 ta3 w3 le3 s3 f32 f33 f34 f35 f36 f37 f38 f39
  replace f0 := shm_575 f0
  replace f1 := shm_1455 f1
  replace f2 := shm_553 f2
  replace f3 := shm_553 f3
  replace f4 := shm_549 f4
  replace f5 := shm_1457 f5
  replace f6 := shm_1458 f6
  replace f7 := shm_5 f7
  replace f8 := shm_5 f8
  replace f9 := shm_5 f9
  replace f10 := shm_5 f10
  have s1 : (∀ b j, w_el ws b j = w_el w1 b j) ∧ ∀ b j, w_fd ws b j = if b = v_ad (n_v vs 4) ∧ j = 45 then n_v vs 16 else w_fd w1 b j := s1.2
  replace f12 := shm_575 f12
  replace f13 := shm_1455 f13
  replace f14 := shm_553 f14
  replace f15 := shm_553 f15
  replace f16 := shm_549 f16
  replace f17 := shm_1457 f17
  replace f18 := shm_1458 f18
  have s2 : (∀ b j, w_el w1 b j = if b = v_ad (n_v vs 14) ∧ j = (v_iv (n_v vs 15)).toNat then v_iv (n_v vs 5) else w_el w2 b j) ∧ ∀ b k, w_fd w1 b k = w_fd w2 b k := s2.2
  replace f20 := shm_737 f20
  replace f21 := shm_6 f21
  replace f22 := shm_107 f22
  replace f23 := shm_548 f23
  replace f24 := shm_575 f24
  replace f25 := shm_1455 f25
  replace f26 := shm_553 f26
  replace f27 := shm_553 f27
  replace f28 := shm_549 f28
  replace f29 := shm_1457 f29
  replace f30 := shm_1458 f30
  have s3 : (∀ b j, w_el w2 b j = w_el w3 b j) ∧ ∀ b j, w_fd w2 b j = if b = v_ad (n_v vs 4) ∧ j = 45 then n_v vs 10 else w_fd w3 b j := s3.2
  replace f32 := shm_192 f32
  replace f33 := shm_575 f33
  replace f34 := shm_1455 f34
  replace f35 := shm_553 f35
  replace f36 := shm_553 f36
  replace f37 := shm_549 f37
  replace f38 := shm_1457 f38
  replace f39 := shm_1458 f39
  have q4 : n_v vs 4 = n_v vs 0 := f7.symm
  have q5 : n_v vs 5 = n_v vs 1 := f8.symm
  have q6 : n_v vs 6 = n_v vs 2 := f9.symm
  have q7 : n_v vs 7 = n_v vs 3 := f10.symm
  simp only [q4, q5, q6, q7] at f0 f1 f2 f3 f4 f5 f6
  rw [q4] at s1
  simp only [q4, q5, q6, q7] at f12 f13 f14 f15 f16 f17 f18
  rw [q5] at s2
  simp only [q4, q5, q6, q7] at f20 f22 f23 f24 f25 f26 f27 f28 f29 f30
  rw [q4] at s3
  simp only [q4, q5, q6, q7] at f33 f34 f35 f36 f37 f38 f39
  have ar_0_33_1 : w_ar w1 (n_v vs 0) 33 = w_ar ws (n_v vs 0) 33 := by show v_ad (w_fd w1 _ _) = v_ad (w_fd ws _ _); rw [s1.2, if_neg (fun e => absurd e.2 (by decide))]
  have ar_0_33_2 : w_ar w2 (n_v vs 0) 33 = w_ar ws (n_v vs 0) 33 := by rw [← ar_0_33_1]; show v_ad (w_fd w2 _ _) = v_ad (w_fd w1 _ _); rw [s2.2]
  have ar_0_33_3 : w_ar w3 (n_v vs 0) 33 = w_ar ws (n_v vs 0) 33 := by rw [← ar_0_33_2]; show v_ad (w_fd w3 _ _) = v_ad (w_fd w2 _ _); rw [s3.2, if_neg (fun e => absurd e.2 (by decide))]
  have cr_0_33 := fdq_117 hD hth r0
  have ar_0_34_1 : w_ar w1 (n_v vs 0) 34 = w_ar ws (n_v vs 0) 34 := by show v_ad (w_fd w1 _ _) = v_ad (w_fd ws _ _); rw [s1.2, if_neg (fun e => absurd e.2 (by decide))]
  have ar_0_34_2 : w_ar w2 (n_v vs 0) 34 = w_ar ws (n_v vs 0) 34 := by rw [← ar_0_34_1]; show v_ad (w_fd w2 _ _) = v_ad (w_fd w1 _ _); rw [s2.2]
  have ar_0_34_3 : w_ar w3 (n_v vs 0) 34 = w_ar ws (n_v vs 0) 34 := by rw [← ar_0_34_2]; show v_ad (w_fd w3 _ _) = v_ad (w_fd w2 _ _); rw [s3.2, if_neg (fun e => absurd e.2 (by decide))]
  have cr_0_34 := fdq_118 hD hth r0
  have ar_0_35_1 : w_ar w1 (n_v vs 0) 35 = w_ar ws (n_v vs 0) 35 := by show v_ad (w_fd w1 _ _) = v_ad (w_fd ws _ _); rw [s1.2, if_neg (fun e => absurd e.2 (by decide))]
  have ar_0_35_2 : w_ar w2 (n_v vs 0) 35 = w_ar ws (n_v vs 0) 35 := by rw [← ar_0_35_1]; show v_ad (w_fd w2 _ _) = v_ad (w_fd w1 _ _); rw [s2.2]
  have ar_0_35_3 : w_ar w3 (n_v vs 0) 35 = w_ar ws (n_v vs 0) 35 := by rw [← ar_0_35_2]; show v_ad (w_fd w3 _ _) = v_ad (w_fd w2 _ _); rw [s3.2, if_neg (fun e => absurd e.2 (by decide))]
  have cr_0_35 := fdq_132 hD hth r0
  have ar_0_42_1 : w_ar w1 (n_v vs 0) 42 = w_ar ws (n_v vs 0) 42 := by show v_ad (w_fd w1 _ _) = v_ad (w_fd ws _ _); rw [s1.2, if_neg (fun e => absurd e.2 (by decide))]
  have ar_0_42_2 : w_ar w2 (n_v vs 0) 42 = w_ar ws (n_v vs 0) 42 := by rw [← ar_0_42_1]; show v_ad (w_fd w2 _ _) = v_ad (w_fd w1 _ _); rw [s2.2]
  have ar_0_42_3 : w_ar w3 (n_v vs 0) 42 = w_ar ws (n_v vs 0) 42 := by rw [← ar_0_42_2]; show v_ad (w_fd w3 _ _) = v_ad (w_fd w2 _ _); rw [s3.2, if_neg (fun e => absurd e.2 (by decide))]
  have cr_0_42 := fdq_136 hD hth r0
  have ar_0_43_1 : w_ar w1 (n_v vs 0) 43 = w_ar ws (n_v vs 0) 43 := by show v_ad (w_fd w1 _ _) = v_ad (w_fd ws _ _); rw [s1.2, if_neg (fun e => absurd e.2 (by decide))]
  have ar_0_43_2 : w_ar w2 (n_v vs 0) 43 = w_ar ws (n_v vs 0) 43 := by rw [← ar_0_43_1]; show v_ad (w_fd w2 _ _) = v_ad (w_fd w1 _ _); rw [s2.2]
  have ar_0_43_3 : w_ar w3 (n_v vs 0) 43 = w_ar ws (n_v vs 0) 43 := by rw [← ar_0_43_2]; show v_ad (w_fd w3 _ _) = v_ad (w_fd w2 _ _); rw [s3.2, if_neg (fun e => absurd e.2 (by decide))]
  have cr_0_43 := fdq_137 hD hth r0
  have ar_0_44_1 : w_ar w1 (n_v vs 0) 44 = w_ar ws (n_v vs 0) 44 := by show v_ad (w_fd w1 _ _) = v_ad (w_fd ws _ _); rw [s1.2, if_neg (fun e => absurd e.2 (by decide))]
  have ar_0_44_2 : w_ar w2 (n_v vs 0) 44 = w_ar ws (n_v vs 0) 44 := by rw [← ar_0_44_1]; show v_ad (w_fd w2 _ _) = v_ad (w_fd w1 _ _); rw [s2.2]
  have ar_0_44_3 : w_ar w3 (n_v vs 0) 44 = w_ar ws (n_v vs 0) 44 := by rw [← ar_0_44_2]; show v_ad (w_fd w3 _ _) = v_ad (w_fd w2 _ _); rw [s3.2, if_neg (fun e => absurd e.2 (by decide))]
  have cr_0_44 := fdq_138 hD hth r0
  have ar_0_46_1 : w_ar w1 (n_v vs 0) 46 = w_ar ws (n_v vs 0) 46 := by show v_ad (w_fd w1 _ _) = v_ad (w_fd ws _ _); rw [s1.2, if_neg (fun e => absurd e.2 (by decide))]
  have ar_0_46_2 : w_ar w2 (n_v vs 0) 46 = w_ar ws (n_v vs 0) 46 := by rw [← ar_0_46_1]; show v_ad (w_fd w2 _ _) = v_ad (w_fd w1 _ _); rw [s2.2]
  have ar_0_46_3 : w_ar w3 (n_v vs 0) 46 = w_ar ws (n_v vs 0) 46 := by rw [← ar_0_46_2]; show v_ad (w_fd w3 _ _) = v_ad (w_fd w2 _ _); rw [s3.2, if_neg (fun e => absurd e.2 (by decide))]
  have cr_0_46 := fdq_190 hD hth r0
  have ar_0_48_1 : w_ar w1 (n_v vs 0) 48 = w_ar ws (n_v vs 0) 48 := by show v_ad (w_fd w1 _ _) = v_ad (w_fd ws _ _); rw [s1.2, if_neg (fun e => absurd e.2 (by decide))]
  have ar_0_48_2 : w_ar w2 (n_v vs 0) 48 = w_ar ws (n_v vs 0) 48 := by rw [← ar_0_48_1]; show v_ad (w_fd w2 _ _) = v_ad (w_fd w1 _ _); rw [s2.2]
  have ar_0_48_3 : w_ar w3 (n_v vs 0) 48 = w_ar ws (n_v vs 0) 48 := by rw [← ar_0_48_2]; show v_ad (w_fd w3 _ _) = v_ad (w_fd w2 _ _); rw [s3.2, if_neg (fun e => absurd e.2 (by decide))]
  have cr_0_48 := fdq_144 hD hth r0
  have ad_14 : v_ad (n_v vs 14) = w_ar ws (n_v vs 0) 46 := (congrArg v_ad f20).trans ar_0_46_2
  have ad_11 : v_ad (n_v vs 11) = w_ar ws (n_v vs 0) 48 := (congrArg v_ad f23).trans ar_0_48_2
  simp only [ar_0_33_1, ar_0_34_1, ar_0_35_1, ar_0_43_1, ar_0_42_1, ar_0_44_1, ar_0_48_1, ad_11] at f12 f13 f16 f17 f18 f22
  have h22 : v_iv (n_v vs 12) = w_ei w2 (w_ar ws (n_v vs 0) 48) (v_iv (n_v vs 1)) := f22
  simp only [ar_0_33_2, ar_0_34_2, ar_0_35_2, ar_0_43_2, ar_0_42_2, ar_0_44_2, ar_0_48_2, ar_0_33_3, ar_0_34_3, ar_0_35_3, ar_0_43_3, ar_0_42_3, ar_0_44_3, ar_0_48_3] at f24 f25 f28 f29 f30 f33 f34 f37 f38 f39
  have fe_0_31_1 : w_fi ws (n_v vs 0) 31 = w_fi w1 (n_v vs 0) 31 := by show v_iv (w_fd _ _ _) = v_iv (w_fd _ _ _); rw [s1.2, if_neg (fun e => absurd e.2 (by decide))]
  have fe_0_32_1 : w_fi ws (n_v vs 0) 32 = w_fi w1 (n_v vs 0) 32 := by show v_iv (w_fd _ _ _) = v_iv (w_fd _ _ _); rw [s1.2, if_neg (fun e => absurd e.2 (by decide))]
  have fe_0_45_1 : w_fi ws (n_v vs 0) 45 = v_iv (n_v vs 16) := by show v_iv (w_fd _ _ _) = _; rw [s1.2, if_pos ⟨rfl, rfl⟩]
  have fe_0_49_1 : w_fi ws (n_v vs 0) 49 = w_fi w1 (n_v vs 0) 49 := by show v_iv (w_fd _ _ _) = v_iv (w_fd _ _ _); rw [s1.2, if_neg (fun e => absurd e.2 (by decide))]
  have fe_0_31_2 : w_fi w1 (n_v vs 0) 31 = w_fi w2 (n_v vs 0) 31 := congrArg v_iv (s2.2 _ _)
  have fe_0_32_2 : w_fi w1 (n_v vs 0) 32 = w_fi w2 (n_v vs 0) 32 := congrArg v_iv (s2.2 _ _)
  have fe_0_45_2 : w_fi w1 (n_v vs 0) 45 = w_fi w2 (n_v vs 0) 45 := congrArg v_iv (s2.2 _ _)
  have fe_0_49_2 : w_fi w1 (n_v vs 0) 49 = w_fi w2 (n_v vs 0) 49 := congrArg v_iv (s2.2 _ _)
  have fe_0_31_3 : w_fi w2 (n_v vs 0) 31 = w_fi w3 (n_v vs 0) 31 := by show v_iv (w_fd _ _ _) = v_iv (w_fd _ _ _); rw [s3.2, if_neg (fun e => absurd e.2 (by decide))]
  have fe_0_32_3 : w_fi w2 (n_v vs 0) 32 = w_fi w3 (n_v vs 0) 32 := by show v_iv (w_fd _ _ _) = v_iv (w_fd _ _ _); rw [s3.2, if_neg (fun e => absurd e.2 (by decide))]
  have fe_0_45_3 : w_fi w2 (n_v vs 0) 45 = v_iv (n_v vs 10) := by show v_iv (w_fd _ _ _) = _; rw [s3.2, if_pos ⟨rfl, rfl⟩]
  have fe_0_49_3 : w_fi w2 (n_v vs 0) 49 = w_fi w3 (n_v vs 0) 49 := by show v_iv (w_fd _ _ _) = v_iv (w_fd _ _ _); rw [s3.2, if_neg (fun e => absurd e.2 (by decide))]
  have hE_0_33_1 : ∀ j : Int, w_ei ws (w_ar ws (n_v vs 0) 33) j = w_ei w1 (w_ar ws (n_v vs 0) 33) j := fun j => s1.1 _ _
  have hE_0_33_2 : ∀ j : Int, w_ei w1 (w_ar ws (n_v vs 0) 33) j = w_ei w2 (w_ar ws (n_v vs 0) 33) j := el_kp s2.1 r14 cr_0_33 (by decide)
  have hE_0_33_3 : ∀ j : Int, w_ei w2 (w_ar ws (n_v vs 0) 33) j = w_ei w3 (w_ar ws (n_v vs 0) 33) j := fun j => s3.1 _ _
  have hK_0_33 := elq_60 hD hth cr_0_33
  have hE_0_34_1 : ∀ j : Int, w_ei ws (w_ar ws (n_v vs 0) 34) j = w_ei w1 (w_ar ws (n_v vs 0) 34) j := fun j => s1.1 _ _
  have hE_0_34_2 : ∀ j : Int, w_ei w1 (w_ar ws (n_v vs 0) 34) j = w_ei w2 (w_ar ws (n_v vs 0) 34) j := el_kp s2.1 r14 cr_0_34 (by decide)
  have hE_0_34_3 : ∀ j : Int, w_ei w2 (w_ar ws (n_v vs 0) 34) j = w_ei w3 (w_ar ws (n_v vs 0) 34) j := fun j => s3.1 _ _
  have hK_0_34 := elq_61 hD hth cr_0_34
  have hE_0_35_1 : ∀ j : Int, w_ei ws (w_ar ws (n_v vs 0) 35) j = w_ei w1 (w_ar ws (n_v vs 0) 35) j := fun j => s1.1 _ _
  have hE_0_35_2 : ∀ j : Int, w_ei w1 (w_ar ws (n_v vs 0) 35) j = w_ei w2 (w_ar ws (n_v vs 0) 35) j := el_kp s2.1 r14 cr_0_35 (by decide)
  have hE_0_35_3 : ∀ j : Int, w_ei w2 (w_ar ws (n_v vs 0) 35) j = w_ei w3 (w_ar ws (n_v vs 0) 35) j := fun j => s3.1 _ _
  have hK_0_35 := elq_72 hD hth cr_0_35
  have hE_0_42_1 : ∀ j : Int, w_ei ws (w_ar ws (n_v vs 0) 42) j = w_ei w1 (w_ar ws (n_v vs 0) 42) j := fun j => s1.1 _ _
  have hE_0_42_2 : ∀ j : Int, w_ei w1 (w_ar ws (n_v vs 0) 42) j = w_ei w2 (w_ar ws (n_v vs 0) 42) j := el_kp s2.1 r14 cr_0_42 (by decide)
  have hE_0_42_3 : ∀ j : Int, w_ei w2 (w_ar ws (n_v vs 0) 42) j = w_ei w3 (w_ar ws (n_v vs 0) 42) j := fun j => s3.1 _ _
  have hK_0_42 := elq_75 hD hth cr_0_42
  have hE_0_43_1 : ∀ j : Int, w_ei ws (w_ar ws (n_v vs 0) 43) j = w_ei w1 (w_ar ws (n_v vs 0) 43) j := fun j => s1.1 _ _
  have hE_0_43_2 : ∀ j : Int, w_ei w1 (w_ar ws (n_v vs 0) 43) j = w_ei w2 (w_ar ws (n_v vs 0) 43) j := el_kp s2.1 r14 cr_0_43 (by decide)
  have hE_0_43_3 : ∀ j : Int, w_ei w2 (w_ar ws (n_v vs 0) 43) j = w_ei w3 (w_ar ws (n_v vs 0) 43) j := fun j => s3.1 _ _
  have hK_0_43 := elq_76 hD hth cr_0_43
  have hE_0_44_1 : ∀ j : Int, w_ei ws (w_ar ws (n_v vs 0) 44) j = w_ei w1 (w_ar ws (n_v vs 0) 44) j := fun j => s1.1 _ _
  have hE_0_44_2 : ∀ j : Int, w_ei w1 (w_ar ws (n_v vs 0) 44) j = w_ei w2 (w_ar ws (n_v vs 0) 44) j := el_kp s2.1 r14 cr_0_44 (by decide)
  have hE_0_44_3 : ∀ j : Int, w_ei w2 (w_ar ws (n_v vs 0) 44) j = w_ei w3 (w_ar ws (n_v vs 0) 44) j := fun j => s3.1 _ _
  have hK_0_44 := elq_77 hD hth cr_0_44
  have hE_0_46_1 : ∀ j : Int, w_ei ws (w_ar ws (n_v vs 0) 46) j = w_ei w1 (w_ar ws (n_v vs 0) 46) j := fun j => s1.1 _ _
  have hE_0_46_2 : ∀ j : Int, 0 ≤ j → (j = v_iv (n_v vs 15) → w_ei w1 (w_ar ws (n_v vs 0) 46) j = v_iv (n_v vs 1)) ∧ (j ≠ v_iv (n_v vs 15) → w_ei w1 (w_ar ws (n_v vs 0) 46) j = w_ei w2 (w_ar ws (n_v vs 0) 46) j) := fun j hj => ⟨fun h => by unfold w_ei; rw [s2.1, if_pos ⟨ad_14.symm, by rw [h]⟩], fun h => by unfold w_ei; rw [s2.1, if_neg (fun e => h (by have := e.2; omega))]⟩
  have hE_0_46_3 : ∀ j : Int, w_ei w2 (w_ar ws (n_v vs 0) 46) j = w_ei w3 (w_ar ws (n_v vs 0) 46) j := fun j => s3.1 _ _
  have hK_0_46 := elq_114 hD hth cr_0_46
  have hE_0_48_1 : ∀ j : Int, w_ei ws (w_ar ws (n_v vs 0) 48) j = w_ei w1 (w_ar ws (n_v vs 0) 48) j := fun j => s1.1 _ _
  have hE_0_48_2 : ∀ j : Int, w_ei w1 (w_ar ws (n_v vs 0) 48) j = w_ei w2 (w_ar ws (n_v vs 0) 48) j := el_kp s2.1 r14 cr_0_48 (by decide)
  have hE_0_48_3 : ∀ j : Int, w_ei w2 (w_ar ws (n_v vs 0) 48) j = w_ei w3 (w_ar ws (n_v vs 0) 48) j := fun j => s3.1 _ _
  have hK_0_48 := elq_82 hD hth cr_0_48
  have kz_0_31 := fdq_145 hD hth r0
  have kz_0_32 := fdq_140 hD hth r0
  have kz_0_45 := fdq_191 hD hth r0
  have kz_0_49 := fdq_146 hD hth r0
  first | have hW := wlk_bd ‹TGI _ _ _ _ _ _ _ _ _ _ _ _› ‹TG5 _ _ _ _ _ _ _ _ _ _ _› ‹WLK _ _ _ _ _ _ _ _ _ _ _ _ _ _ _ _› | skip
  first | have hX := nxt_some ‹UA _ _ _› ‹TGI _ _ _ _ _ _ _ _ _ _ _ _› ‹TG5 _ _ _ _ _ _ _ _ _ _ _› ‹WLK _ _ _ _ _ _ _ _ _ _ _ _ _ _ _ _› (by assumption) ‹NXT _ _ _ _ _ _ _ _ _ _ _ _ _ _ _› (by omega) | skip
  first | have hX1 := hX.1 | skip
  first | have hX2 := hX.2.1 | skip
  obtain ⟨x, ex, hx⟩ := iv_ex (ta := ta) (lo := (-2)) (hi := 61) (z := 61) (by omega) (by omega) (by omega) (by omega)
  have ex2 : v_iv (Value.int x) = 61 := ex
  have ex3 : (-2) ≤ v_iv (Value.int x) ∧ v_iv (Value.int x) ≤ 61 := tv_rng hx
  have e_0 : n_v (vs ++ [Value.int x]) 0 = n_v vs 0 := n_v_old (by rw [hl]; decide)
  have e_1 : n_v (vs ++ [Value.int x]) 1 = n_v vs 1 := n_v_old (by rw [hl]; decide)
  have e_2 : n_v (vs ++ [Value.int x]) 2 = n_v vs 2 := n_v_old (by rw [hl]; decide)
  have e_3 : n_v (vs ++ [Value.int x]) 3 = n_v vs 3 := n_v_old (by rw [hl]; decide)
  have e_4 : n_v (vs ++ [Value.int x]) 4 = n_v vs 4 := n_v_old (by rw [hl]; decide)
  have e_5 : n_v (vs ++ [Value.int x]) 5 = n_v vs 5 := n_v_old (by rw [hl]; decide)
  have e_6 : n_v (vs ++ [Value.int x]) 6 = n_v vs 6 := n_v_old (by rw [hl]; decide)
  have e_7 : n_v (vs ++ [Value.int x]) 7 = n_v vs 7 := n_v_old (by rw [hl]; decide)
  have e_17 : n_v (vs ++ [Value.int x]) 17 = Value.int x := n_v_new hl
  have nf0 : fc_1 PRD (20, [4], [60, 2, 2, 75, 31, 32, 33, 34]) ws (vs ++ [Value.int x]) := by
    refine ⟨nf_inA hl rfl, sgq_575 ?_⟩
    · show GOK (w_fi ws (n_v (vs ++ [Value.int x]) 4) 31) (w_fi ws (n_v (vs ++ [Value.int x]) 4) 32) (w_ei ws (w_ar ws (n_v (vs ++ [Value.int x]) 4) 33)) (w_ei ws (w_ar ws (n_v (vs ++ [Value.int x]) 4) 34))
      simp only [e_4, q4]
      exact vc_Mo_shortest_4_0 (w_ei ws (w_ar ws (n_v vs 0) 33)) (w_ei ws (w_ar ws (n_v vs 0) 34)) (w_fi ws (n_v vs 0) 31) (w_fi ws (n_v vs 0) 32) (w_ei ws (w_ar ws (n_v vs 0) 35)) (w_ei ws (w_ar ws (n_v vs 0) 43)) (w_ei ws (w_ar ws (n_v vs 0) 44)) (w_ei ws (w_ar ws (n_v vs 0) 42)) (w_ei ws (w_ar ws (n_v vs 0) 48)) (w_fi ws (n_v vs 0) 49) (w_ei w1 (w_ar ws (n_v vs 0) 33)) (w_ei w1 (w_ar ws (n_v vs 0) 34)) (w_fi w1 (n_v vs 0) 31) (w_fi w1 (n_v vs 0) 32) (w_ei w1 (w_ar ws (n_v vs 0) 35)) (w_ei w1 (w_ar ws (n_v vs 0) 43)) (w_ei w1 (w_ar ws (n_v vs 0) 44)) (w_ei w1 (w_ar ws (n_v vs 0) 42)) (w_ei w1 (w_ar ws (n_v vs 0) 48)) (w_fi w1 (n_v vs 0) 49) (w_ei w2 (w_ar ws (n_v vs 0) 48)) (w_ei w2 (w_ar ws (n_v vs 0) 33)) (w_ei w2 (w_ar ws (n_v vs 0) 34)) (w_fi w2 (n_v vs 0) 31) (w_fi w2 (n_v vs 0) 32) (w_ei w2 (w_ar ws (n_v vs 0) 35)) (w_ei w2 (w_ar ws (n_v vs 0) 43)) (w_ei w2 (w_ar ws (n_v vs 0) 44)) (w_ei w2 (w_ar ws (n_v vs 0) 42)) (w_fi w2 (n_v vs 0) 49) (w_ei w3 (w_ar ws (n_v vs 0) 33)) (w_ei w3 (w_ar ws (n_v vs 0) 34)) (w_fi w3 (n_v vs 0) 31) (w_fi w3 (n_v vs 0) 32) (w_ei w3 (w_ar ws (n_v vs 0) 35)) (w_ei w3 (w_ar ws (n_v vs 0) 43)) (w_ei w3 (w_ar ws (n_v vs 0) 44)) (w_ei w3 (w_ar ws (n_v vs 0) 42)) (w_ei w3 (w_ar ws (n_v vs 0) 48)) (w_fi w3 (n_v vs 0) 49) (w_fi w1 (n_v vs 0) 45) (w_fi w2 (n_v vs 0) 45) (w_ei ws (w_ar ws (n_v vs 0) 46)) (w_ei w1 (w_ar ws (n_v vs 0) 46)) (w_ei w2 (w_ar ws (n_v vs 0) 46)) (w_ei w3 (w_ar ws (n_v vs 0) 46)) f33 fe_0_31_1 fe_0_32_1 fe_0_49_1 fe_0_31_2 fe_0_32_2 fe_0_45_2 fe_0_49_2 fe_0_31_3 fe_0_32_3 fe_0_49_3 hE_0_33_1 hE_0_33_2 hE_0_33_3 hE_0_34_1 hE_0_34_2 hE_0_34_3 hE_0_35_1 hE_0_35_2 hE_0_35_3 hE_0_42_1 hE_0_42_2 hE_0_42_3 hE_0_43_1 hE_0_43_2 hE_0_43_3 hE_0_44_1 hE_0_44_2 hE_0_44_3 hE_0_46_1 hE_0_46_3 hE_0_48_1 hE_0_48_2 hE_0_48_3 kz_0_31 kz_0_32 kz_0_49
  have nf1 : fc_1 PRD (20, [4], [60, 1, 2, 122, 32, 35, 43]) ws (vs ++ [Value.int x]) := by
    refine ⟨nf_inA hl rfl, sgq_1455 ?_⟩
    · show UA (w_fi ws (n_v (vs ++ [Value.int x]) 4) 32) (w_ei ws (w_ar ws (n_v (vs ++ [Value.int x]) 4) 35)) (w_ei ws (w_ar ws (n_v (vs ++ [Value.int x]) 4) 43))
      simp only [e_4, q4]
      exact vc_Mo_shortest_4_1 (w_ei ws (w_ar ws (n_v vs 0) 33)) (w_ei ws (w_ar ws (n_v vs 0) 34)) (w_fi ws (n_v vs 0) 31) (w_fi ws (n_v vs 0) 32) (w_ei ws (w_ar ws (n_v vs 0) 35)) (w_ei ws (w_ar ws (n_v vs 0) 43)) (w_ei ws (w_ar ws (n_v vs 0) 44)) (w_ei ws (w_ar ws (n_v vs 0) 42)) (w_ei ws (w_ar ws (n_v vs 0) 48)) (w_fi ws (n_v vs 0) 49) (w_ei w1 (w_ar ws (n_v vs 0) 33)) (w_ei w1 (w_ar ws (n_v vs 0) 34)) (w_fi w1 (n_v vs 0) 31) (w_fi w1 (n_v vs 0) 32) (w_ei w1 (w_ar ws (n_v vs 0) 35)) (w_ei w1 (w_ar ws (n_v vs 0) 43)) (w_ei w1 (w_ar ws (n_v vs 0) 44)) (w_ei w1 (w_ar ws (n_v vs 0) 42)) (w_ei w1 (w_ar ws (n_v vs 0) 48)) (w_fi w1 (n_v vs 0) 49) (w_ei w2 (w_ar ws (n_v vs 0) 48)) (w_ei w2 (w_ar ws (n_v vs 0) 33)) (w_ei w2 (w_ar ws (n_v vs 0) 34)) (w_fi w2 (n_v vs 0) 31) (w_fi w2 (n_v vs 0) 32) (w_ei w2 (w_ar ws (n_v vs 0) 35)) (w_ei w2 (w_ar ws (n_v vs 0) 43)) (w_ei w2 (w_ar ws (n_v vs 0) 44)) (w_ei w2 (w_ar ws (n_v vs 0) 42)) (w_fi w2 (n_v vs 0) 49) (w_ei w3 (w_ar ws (n_v vs 0) 33)) (w_ei w3 (w_ar ws (n_v vs 0) 34)) (w_fi w3 (n_v vs 0) 31) (w_fi w3 (n_v vs 0) 32) (w_ei w3 (w_ar ws (n_v vs 0) 35)) (w_ei w3 (w_ar ws (n_v vs 0) 43)) (w_ei w3 (w_ar ws (n_v vs 0) 44)) (w_ei w3 (w_ar ws (n_v vs 0) 42)) (w_ei w3 (w_ar ws (n_v vs 0) 48)) (w_fi w3 (n_v vs 0) 49) (w_fi w1 (n_v vs 0) 45) (w_fi w2 (n_v vs 0) 45) (w_ei ws (w_ar ws (n_v vs 0) 46)) (w_ei w1 (w_ar ws (n_v vs 0) 46)) (w_ei w2 (w_ar ws (n_v vs 0) 46)) (w_ei w3 (w_ar ws (n_v vs 0) 46)) f34 fe_0_31_1 fe_0_32_1 fe_0_49_1 fe_0_31_2 fe_0_32_2 fe_0_45_2 fe_0_49_2 fe_0_31_3 fe_0_32_3 fe_0_49_3 hE_0_33_1 hE_0_33_2 hE_0_33_3 hE_0_34_1 hE_0_34_2 hE_0_34_3 hE_0_35_1 hE_0_35_2 hE_0_35_3 hE_0_42_1 hE_0_42_2 hE_0_42_3 hE_0_43_1 hE_0_43_2 hE_0_43_3 hE_0_44_1 hE_0_44_2 hE_0_44_3 hE_0_46_1 hE_0_46_3 hE_0_48_1 hE_0_48_2 hE_0_48_3 kz_0_31 kz_0_32 kz_0_49
  have nf2 : fc_1 PRD (20, [5, 4], [30, -1, 1, 0, 0, -1, 1, 31]) ws (vs ++ [Value.int x]) := by
    refine ⟨nf_inA hl rfl, sgq_553 ?_⟩
    · show 1 * v_iv (n_v (vs ++ [Value.int x]) 5) + ((-1) * w_fi ws (n_v (vs ++ [Value.int x]) 4) 31 + 0) ≤ (-1)
      simp only [e_4, e_5, q4, q5]
      exact vc_Mo_shortest_4_2 (v_iv (n_v vs 1)) (w_ei ws (w_ar ws (n_v vs 0) 33)) (w_ei ws (w_ar ws (n_v vs 0) 34)) (w_fi ws (n_v vs 0) 31) (w_fi ws (n_v vs 0) 32) (w_ei ws (w_ar ws (n_v vs 0) 35)) (w_ei ws (w_ar ws (n_v vs 0) 43)) (w_ei ws (w_ar ws (n_v vs 0) 44)) (w_ei ws (w_ar ws (n_v vs 0) 42)) (w_ei ws (w_ar ws (n_v vs 0) 48)) (w_fi ws (n_v vs 0) 49) (w_ei w1 (w_ar ws (n_v vs 0) 33)) (w_ei w1 (w_ar ws (n_v vs 0) 34)) (w_fi w1 (n_v vs 0) 31) (w_fi w1 (n_v vs 0) 32) (w_ei w1 (w_ar ws (n_v vs 0) 35)) (w_ei w1 (w_ar ws (n_v vs 0) 43)) (w_ei w1 (w_ar ws (n_v vs 0) 44)) (w_ei w1 (w_ar ws (n_v vs 0) 42)) (w_ei w1 (w_ar ws (n_v vs 0) 48)) (w_fi w1 (n_v vs 0) 49) (w_ei w2 (w_ar ws (n_v vs 0) 48)) (w_ei w2 (w_ar ws (n_v vs 0) 33)) (w_ei w2 (w_ar ws (n_v vs 0) 34)) (w_fi w2 (n_v vs 0) 31) (w_fi w2 (n_v vs 0) 32) (w_ei w2 (w_ar ws (n_v vs 0) 35)) (w_ei w2 (w_ar ws (n_v vs 0) 43)) (w_ei w2 (w_ar ws (n_v vs 0) 44)) (w_ei w2 (w_ar ws (n_v vs 0) 42)) (w_fi w2 (n_v vs 0) 49) (w_ei w3 (w_ar ws (n_v vs 0) 33)) (w_ei w3 (w_ar ws (n_v vs 0) 34)) (w_fi w3 (n_v vs 0) 31) (w_fi w3 (n_v vs 0) 32) (w_ei w3 (w_ar ws (n_v vs 0) 35)) (w_ei w3 (w_ar ws (n_v vs 0) 43)) (w_ei w3 (w_ar ws (n_v vs 0) 44)) (w_ei w3 (w_ar ws (n_v vs 0) 42)) (w_ei w3 (w_ar ws (n_v vs 0) 48)) (w_fi w3 (n_v vs 0) 49) (w_fi w1 (n_v vs 0) 45) (w_fi w2 (n_v vs 0) 45) (w_ei ws (w_ar ws (n_v vs 0) 46)) (w_ei w1 (w_ar ws (n_v vs 0) 46)) (w_ei w2 (w_ar ws (n_v vs 0) 46)) (w_ei w3 (w_ar ws (n_v vs 0) 46)) k1 f35 fe_0_31_1 fe_0_32_1 fe_0_49_1 fe_0_31_2 fe_0_32_2 fe_0_45_2 fe_0_49_2 fe_0_31_3 fe_0_32_3 fe_0_49_3 hE_0_33_1 hE_0_33_2 hE_0_33_3 hE_0_34_1 hE_0_34_2 hE_0_34_3 hE_0_35_1 hE_0_35_2 hE_0_35_3 hE_0_42_1 hE_0_42_2 hE_0_42_3 hE_0_43_1 hE_0_43_2 hE_0_43_3 hE_0_44_1 hE_0_44_2 hE_0_44_3 hE_0_46_1 hE_0_46_3 hE_0_48_1 hE_0_48_2 hE_0_48_3 kz_0_31 kz_0_32 kz_0_49
  have nf3 : fc_1 PRD (20, [6, 4], [30, -1, 1, 0, 0, -1, 1, 31]) ws (vs ++ [Value.int x]) := by
    refine ⟨nf_inA hl rfl, sgq_553 ?_⟩
    · show 1 * v_iv (n_v (vs ++ [Value.int x]) 6) + ((-1) * w_fi ws (n_v (vs ++ [Value.int x]) 4) 31 + 0) ≤ (-1)
      simp only [e_4, e_6, q4, q6]
      exact vc_Mo_shortest_4_3 (v_iv (n_v vs 2)) (w_ei ws (w_ar ws (n_v vs 0) 33)) (w_ei ws (w_ar ws (n_v vs 0) 34)) (w_fi ws (n_v vs 0) 31) (w_fi ws (n_v vs 0) 32) (w_ei ws (w_ar ws (n_v vs 0) 35)) (w_ei ws (w_ar ws (n_v vs 0) 43)) (w_ei ws (w_ar ws (n_v vs 0) 44)) (w_ei ws (w_ar ws (n_v vs 0) 42)) (w_ei ws (w_ar ws (n_v vs 0) 48)) (w_fi ws (n_v vs 0) 49) (w_ei w1 (w_ar ws (n_v vs 0) 33)) (w_ei w1 (w_ar ws (n_v vs 0) 34)) (w_fi w1 (n_v vs 0) 31) (w_fi w1 (n_v vs 0) 32) (w_ei w1 (w_ar ws (n_v vs 0) 35)) (w_ei w1 (w_ar ws (n_v vs 0) 43)) (w_ei w1 (w_ar ws (n_v vs 0) 44)) (w_ei w1 (w_ar ws (n_v vs 0) 42)) (w_ei w1 (w_ar ws (n_v vs 0) 48)) (w_fi w1 (n_v vs 0) 49) (w_ei w2 (w_ar ws (n_v vs 0) 48)) (w_ei w2 (w_ar ws (n_v vs 0) 33)) (w_ei w2 (w_ar ws (n_v vs 0) 34)) (w_fi w2 (n_v vs 0) 31) (w_fi w2 (n_v vs 0) 32) (w_ei w2 (w_ar ws (n_v vs 0) 35)) (w_ei w2 (w_ar ws (n_v vs 0) 43)) (w_ei w2 (w_ar ws (n_v vs 0) 44)) (w_ei w2 (w_ar ws (n_v vs 0) 42)) (w_fi w2 (n_v vs 0) 49) (w_ei w3 (w_ar ws (n_v vs 0) 33)) (w_ei w3 (w_ar ws (n_v vs 0) 34)) (w_fi w3 (n_v vs 0) 31) (w_fi w3 (n_v vs 0) 32) (w_ei w3 (w_ar ws (n_v vs 0) 35)) (w_ei w3 (w_ar ws (n_v vs 0) 43)) (w_ei w3 (w_ar ws (n_v vs 0) 44)) (w_ei w3 (w_ar ws (n_v vs 0) 42)) (w_ei w3 (w_ar ws (n_v vs 0) 48)) (w_fi w3 (n_v vs 0) 49) (w_fi w1 (n_v vs 0) 45) (w_fi w2 (n_v vs 0) 45) (w_ei ws (w_ar ws (n_v vs 0) 46)) (w_ei w1 (w_ar ws (n_v vs 0) 46)) (w_ei w2 (w_ar ws (n_v vs 0) 46)) (w_ei w3 (w_ar ws (n_v vs 0) 46)) k2 f36 fe_0_31_1 fe_0_32_1 fe_0_49_1 fe_0_31_2 fe_0_32_2 fe_0_45_2 fe_0_49_2 fe_0_31_3 fe_0_32_3 fe_0_49_3 hE_0_33_1 hE_0_33_2 hE_0_33_3 hE_0_34_1 hE_0_34_2 hE_0_34_3 hE_0_35_1 hE_0_35_2 hE_0_35_3 hE_0_42_1 hE_0_42_2 hE_0_42_3 hE_0_43_1 hE_0_43_2 hE_0_43_3 hE_0_44_1 hE_0_44_2 hE_0_44_3 hE_0_46_1 hE_0_46_3 hE_0_48_1 hE_0_48_2 hE_0_48_3 kz_0_31 kz_0_32 kz_0_49
  have nf4 : fc_1 PRD (20, [4, 5, 6, 7], [60, 3, 6, 124, 31, 32, 49, 33, 34, 43, 44, 42, 48]) ws (vs ++ [Value.int x]) := by
    refine ⟨nf_inA hl rfl, sgq_549 ?_⟩
    · show TGI (w_fi ws (n_v (vs ++ [Value.int x]) 4) 31) (w_fi ws (n_v (vs ++ [Value.int x]) 4) 32) (w_fi ws (n_v (vs ++ [Value.int x]) 4) 49) (w_ei ws (w_ar ws (n_v (vs ++ [Value.int x]) 4) 33)) (w_ei ws (w_ar ws (n_v (vs ++ [Value.int x]) 4) 34)) (w_ei ws (w_ar ws (n_v (vs ++ [Value.int x]) 4) 43)) (w_ei ws (w_ar ws (n_v (vs ++ [Value.int x]) 4) 44)) (w_ei ws (w_ar ws (n_v (vs ++ [Value.int x]) 4) 42)) (w_ei ws (w_ar ws (n_v (vs ++ [Value.int x]) 4) 48)) (v_iv (n_v (vs ++ [Value.int x]) 5)) (v_iv (n_v (vs ++ [Value.int x]) 6)) (v_iv (n_v (vs ++ [Value.int x]) 7))
      simp only [e_4, e_5, e_6, e_7, q4, q5, q6, q7]
      exact vc_Mo_shortest_4_4 (v_iv (n_v vs 1)) (v_iv (n_v vs 2)) (v_iv (n_v vs 3)) (w_ei ws (w_ar ws (n_v vs 0) 33)) (w_ei ws (w_ar ws (n_v vs 0) 34)) (w_fi ws (n_v vs 0) 31) (w_fi ws (n_v vs 0) 32) (w_ei ws (w_ar ws (n_v vs 0) 35)) (w_ei ws (w_ar ws (n_v vs 0) 43)) (w_ei ws (w_ar ws (n_v vs 0) 44)) (w_ei ws (w_ar ws (n_v vs 0) 42)) (w_ei ws (w_ar ws (n_v vs 0) 48)) (w_fi ws (n_v vs 0) 49) (w_ei w1 (w_ar ws (n_v vs 0) 33)) (w_ei w1 (w_ar ws (n_v vs 0) 34)) (w_fi w1 (n_v vs 0) 31) (w_fi w1 (n_v vs 0) 32) (w_ei w1 (w_ar ws (n_v vs 0) 35)) (w_ei w1 (w_ar ws (n_v vs 0) 43)) (w_ei w1 (w_ar ws (n_v vs 0) 44)) (w_ei w1 (w_ar ws (n_v vs 0) 42)) (w_ei w1 (w_ar ws (n_v vs 0) 48)) (w_fi w1 (n_v vs 0) 49) (w_ei w2 (w_ar ws (n_v vs 0) 48)) (w_ei w2 (w_ar ws (n_v vs 0) 33)) (w_ei w2 (w_ar ws (n_v vs 0) 34)) (w_fi w2 (n_v vs 0) 31) (w_fi w2 (n_v vs 0) 32) (w_ei w2 (w_ar ws (n_v vs 0) 35)) (w_ei w2 (w_ar ws (n_v vs 0) 43)) (w_ei w2 (w_ar ws (n_v vs 0) 44)) (w_ei w2 (w_ar ws (n_v vs 0) 42)) (w_fi w2 (n_v vs 0) 49) (w_ei w3 (w_ar ws (n_v vs 0) 33)) (w_ei w3 (w_ar ws (n_v vs 0) 34)) (w_fi w3 (n_v vs 0) 31) (w_fi w3 (n_v vs 0) 32) (w_ei w3 (w_ar ws (n_v vs 0) 35)) (w_ei w3 (w_ar ws (n_v vs 0) 43)) (w_ei w3 (w_ar ws (n_v vs 0) 44)) (w_ei w3 (w_ar ws (n_v vs 0) 42)) (w_ei w3 (w_ar ws (n_v vs 0) 48)) (w_fi w3 (n_v vs 0) 49) (w_fi w1 (n_v vs 0) 45) (w_fi w2 (n_v vs 0) 45) (w_ei ws (w_ar ws (n_v vs 0) 46)) (w_ei w1 (w_ar ws (n_v vs 0) 46)) (w_ei w2 (w_ar ws (n_v vs 0) 46)) (w_ei w3 (w_ar ws (n_v vs 0) 46)) k1 k2 k3 f37 fe_0_31_1 fe_0_32_1 fe_0_49_1 fe_0_31_2 fe_0_32_2 fe_0_45_2 fe_0_49_2 fe_0_31_3 fe_0_32_3 fe_0_49_3 hE_0_33_1 hE_0_33_2 hE_0_33_3 hE_0_34_1 hE_0_34_2 hE_0_34_3 hE_0_35_1 hE_0_35_2 hE_0_35_3 hE_0_42_1 hE_0_42_2 hE_0_42_3 hE_0_43_1 hE_0_43_2 hE_0_43_3 hE_0_44_1 hE_0_44_2 hE_0_44_3 hE_0_46_1 hE_0_46_3 hE_0_48_1 hE_0_48_2 hE_0_48_3 kz_0_31 kz_0_32 kz_0_49
  have nf5 : fc_1 PRD (20, [4, 5, 6, 7], [60, 2, 6, 134, 32, 49, 33, 34, 43, 44, 42, 48]) ws (vs ++ [Value.int x]) := by
    refine ⟨nf_inA hl rfl, sgq_1459 ?_⟩
    · show TG5 (w_fi ws (n_v (vs ++ [Value.int x]) 4) 32) (w_fi ws (n_v (vs ++ [Value.int x]) 4) 49) (w_ei ws (w_ar ws (n_v (vs ++ [Value.int x]) 4) 33)) (w_ei ws (w_ar ws (n_v (vs ++ [Value.int x]) 4) 34)) (w_ei ws (w_ar ws (n_v (vs ++ [Value.int x]) 4) 43)) (w_ei ws (w_ar ws (n_v (vs ++ [Value.int x]) 4) 44)) (w_ei ws (w_ar ws (n_v (vs ++ [Value.int x]) 4) 42)) (w_ei ws (w_ar ws (n_v (vs ++ [Value.int x]) 4) 48)) (v_iv (n_v (vs ++ [Value.int x]) 5)) (v_iv (n_v (vs ++ [Value.int x]) 6)) (v_iv (n_v (vs ++ [Value.int x]) 7))
      simp only [e_4, e_5, e_6, e_7, q4, q5, q6, q7]
      exact vc_Mo_shortest_4_5 (v_iv (n_v vs 1)) (v_iv (n_v vs 2)) (v_iv (n_v vs 3)) (v_iv (n_v vs 8)) (w_ei ws (w_ar ws (n_v vs 0) 33)) (w_ei ws (w_ar ws (n_v vs 0) 34)) (w_fi ws (n_v vs 0) 31) (w_fi ws (n_v vs 0) 32) (w_ei ws (w_ar ws (n_v vs 0) 35)) (w_ei ws (w_ar ws (n_v vs 0) 43)) (w_ei ws (w_ar ws (n_v vs 0) 44)) (w_ei ws (w_ar ws (n_v vs 0) 42)) (w_ei ws (w_ar ws (n_v vs 0) 48)) (w_fi ws (n_v vs 0) 49) (w_ei w1 (w_ar ws (n_v vs 0) 33)) (w_ei w1 (w_ar ws (n_v vs 0) 34)) (w_fi w1 (n_v vs 0) 31) (w_fi w1 (n_v vs 0) 32) (w_ei w1 (w_ar ws (n_v vs 0) 35)) (w_ei w1 (w_ar ws (n_v vs 0) 43)) (w_ei w1 (w_ar ws (n_v vs 0) 44)) (w_ei w1 (w_ar ws (n_v vs 0) 42)) (w_ei w1 (w_ar ws (n_v vs 0) 48)) (w_fi w1 (n_v vs 0) 49) (w_ei w2 (w_ar ws (n_v vs 0) 48)) (w_ei w2 (w_ar ws (n_v vs 0) 33)) (w_ei w2 (w_ar ws (n_v vs 0) 34)) (w_fi w2 (n_v vs 0) 31) (w_fi w2 (n_v vs 0) 32) (w_ei w2 (w_ar ws (n_v vs 0) 35)) (w_ei w2 (w_ar ws (n_v vs 0) 43)) (w_ei w2 (w_ar ws (n_v vs 0) 44)) (w_ei w2 (w_ar ws (n_v vs 0) 42)) (w_fi w2 (n_v vs 0) 49) (w_ei w3 (w_ar ws (n_v vs 0) 33)) (w_ei w3 (w_ar ws (n_v vs 0) 34)) (w_fi w3 (n_v vs 0) 31) (w_fi w3 (n_v vs 0) 32) (w_ei w3 (w_ar ws (n_v vs 0) 35)) (w_ei w3 (w_ar ws (n_v vs 0) 43)) (w_ei w3 (w_ar ws (n_v vs 0) 44)) (w_ei w3 (w_ar ws (n_v vs 0) 42)) (w_ei w3 (w_ar ws (n_v vs 0) 48)) (w_fi w3 (n_v vs 0) 49) (w_fi w1 (n_v vs 0) 45) (w_fi w2 (n_v vs 0) 45) (w_ei ws (w_ar ws (n_v vs 0) 46)) (w_ei w1 (w_ar ws (n_v vs 0) 46)) (w_ei w2 (w_ar ws (n_v vs 0) 46)) (w_ei w3 (w_ar ws (n_v vs 0) 46)) k1 k2 k3 k8 f32 f38 fe_0_31_1 fe_0_32_1 fe_0_49_1 fe_0_31_2 fe_0_32_2 fe_0_45_2 fe_0_49_2 fe_0_31_3 fe_0_32_3 fe_0_49_3 hE_0_33_1 hE_0_33_2 hE_0_33_3 hE_0_34_1 hE_0_34_2 hE_0_34_3 hE_0_35_1 hE_0_35_2 hE_0_35_3 hE_0_42_1 hE_0_42_2 hE_0_42_3 hE_0_43_1 hE_0_43_2 hE_0_43_3 hE_0_44_1 hE_0_44_2 hE_0_44_3 hE_0_46_1 hE_0_46_3 hE_0_48_1 hE_0_48_2 hE_0_48_3 kz_0_31 kz_0_32 kz_0_49
  have nf6 : fc_1 PRD (20, [4, 5, 6, 7, 5], [60, 4, 8, 131, 31, 32, 49, 45, 33, 34, 35, 43, 44, 42, 48, 46]) ws (vs ++ [Value.int x]) := by
    refine ⟨nf_inA hl rfl, sgq_1460 ?_⟩
    · show WLK (w_fi ws (n_v (vs ++ [Value.int x]) 4) 31) (w_fi ws (n_v (vs ++ [Value.int x]) 4) 32) (w_fi ws (n_v (vs ++ [Value.int x]) 4) 49) (w_fi ws (n_v (vs ++ [Value.int x]) 4) 45) (w_ei ws (w_ar ws (n_v (vs ++ [Value.int x]) 4) 33)) (w_ei ws (w_ar ws (n_v (vs ++ [Value.int x]) 4) 34)) (w_ei ws (w_ar ws (n_v (vs ++ [Value.int x]) 4) 35)) (w_ei ws (w_ar ws (n_v (vs ++ [Value.int x]) 4) 43)) (w_ei ws (w_ar ws (n_v (vs ++ [Value.int x]) 4) 44)) (w_ei ws (w_ar ws (n_v (vs ++ [Value.int x]) 4) 42)) (w_ei ws (w_ar ws (n_v (vs ++ [Value.int x]) 4) 48)) (w_ei ws (w_ar ws (n_v (vs ++ [Value.int x]) 4) 46)) (v_iv (n_v (vs ++ [Value.int x]) 5)) (v_iv (n_v (vs ++ [Value.int x]) 6)) (v_iv (n_v (vs ++ [Value.int x]) 7)) (v_iv (n_v (vs ++ [Value.int x]) 5))
      simp only [e_4, e_5, e_6, e_7, q4, q5, q6, q7]
      exact vc_Mo_shortest_4_6 (v_iv (n_v vs 1)) (v_iv (n_v vs 2)) (v_iv (n_v vs 3)) (v_iv (n_v vs 5)) (v_iv (n_v vs 12)) (v_iv (n_v vs 15)) (v_iv (n_v vs 16)) (w_ei ws (w_ar ws (n_v vs 0) 33)) (w_ei ws (w_ar ws (n_v vs 0) 34)) (w_fi ws (n_v vs 0) 31) (w_fi ws (n_v vs 0) 32) (w_ei ws (w_ar ws (n_v vs 0) 35)) (w_ei ws (w_ar ws (n_v vs 0) 43)) (w_ei ws (w_ar ws (n_v vs 0) 44)) (w_ei ws (w_ar ws (n_v vs 0) 42)) (w_ei ws (w_ar ws (n_v vs 0) 48)) (w_fi ws (n_v vs 0) 49) (w_ei w1 (w_ar ws (n_v vs 0) 33)) (w_ei w1 (w_ar ws (n_v vs 0) 34)) (w_fi w1 (n_v vs 0) 31) (w_fi w1 (n_v vs 0) 32) (w_ei w1 (w_ar ws (n_v vs 0) 35)) (w_ei w1 (w_ar ws (n_v vs 0) 43)) (w_ei w1 (w_ar ws (n_v vs 0) 44)) (w_ei w1 (w_ar ws (n_v vs 0) 42)) (w_ei w1 (w_ar ws (n_v vs 0) 48)) (w_fi w1 (n_v vs 0) 49) (w_ei w2 (w_ar ws (n_v vs 0) 48)) (w_ei w2 (w_ar ws (n_v vs 0) 33)) (w_ei w2 (w_ar ws (n_v vs 0) 34)) (w_fi w2 (n_v vs 0) 31) (w_fi w2 (n_v vs 0) 32) (w_ei w2 (w_ar ws (n_v vs 0) 35)) (w_ei w2 (w_ar ws (n_v vs 0) 43)) (w_ei w2 (w_ar ws (n_v vs 0) 44)) (w_ei w2 (w_ar ws (n_v vs 0) 42)) (w_fi w2 (n_v vs 0) 49) (w_ei w3 (w_ar ws (n_v vs 0) 33)) (w_ei w3 (w_ar ws (n_v vs 0) 34)) (w_fi w3 (n_v vs 0) 31) (w_fi w3 (n_v vs 0) 32) (w_ei w3 (w_ar ws (n_v vs 0) 35)) (w_ei w3 (w_ar ws (n_v vs 0) 43)) (w_ei w3 (w_ar ws (n_v vs 0) 44)) (w_ei w3 (w_ar ws (n_v vs 0) 42)) (w_ei w3 (w_ar ws (n_v vs 0) 48)) (w_fi w3 (n_v vs 0) 49) (w_fi ws (n_v vs 0) 45) (w_fi w1 (n_v vs 0) 45) (w_fi w2 (n_v vs 0) 45) (w_ei ws (w_ar ws (n_v vs 0) 46)) (w_ei w1 (w_ar ws (n_v vs 0) 46)) (w_ei w2 (w_ar ws (n_v vs 0) 46)) (w_ei w3 (w_ar ws (n_v vs 0) 46)) k1 k2 k3 k5 k12 k15 k16 d0 d3 f2 h22 fe_0_31_1 fe_0_32_1 fe_0_45_1 fe_0_49_1 fe_0_31_2 fe_0_32_2 fe_0_45_2 fe_0_49_2 fe_0_31_3 fe_0_32_3 fe_0_49_3 hE_0_33_1 hE_0_33_2 hE_0_33_3 hE_0_34_1 hE_0_34_2 hE_0_34_3 hE_0_35_1 hE_0_35_2 hE_0_35_3 hE_0_42_1 hE_0_42_2 hE_0_42_3 hE_0_43_1 hE_0_43_2 hE_0_43_3 hE_0_44_1 hE_0_44_2 hE_0_44_3 hE_0_46_1 hE_0_46_2 hE_0_46_3 hE_0_48_1 hE_0_48_2 hE_0_48_3 kz_0_31 kz_0_32 kz_0_45 kz_0_49
  have nf7 : fc_1 PRD (20, [4, 17], [30, 62, 1, 1, 45, 1, 0, 0]) ws (vs ++ [Value.int x]) := by
    refine ⟨nf_inA hl rfl, sgq_1461 ?_⟩
    · show 1 * w_fi ws (n_v (vs ++ [Value.int x]) 4) 45 + (1 * v_iv (n_v (vs ++ [Value.int x]) 17) + 0) ≤ 62
      simp only [e_4, e_17, q4]
      exact vc_Mo_shortest_4_7 (v_iv (n_v vs 16)) (w_ei ws (w_ar ws (n_v vs 0) 33)) (w_ei ws (w_ar ws (n_v vs 0) 34)) (w_fi ws (n_v vs 0) 31) (w_fi ws (n_v vs 0) 32) (w_ei ws (w_ar ws (n_v vs 0) 35)) (w_ei ws (w_ar ws (n_v vs 0) 43)) (w_ei ws (w_ar ws (n_v vs 0) 44)) (w_ei ws (w_ar ws (n_v vs 0) 42)) (w_ei ws (w_ar ws (n_v vs 0) 48)) (w_fi ws (n_v vs 0) 49) (w_ei w1 (w_ar ws (n_v vs 0) 33)) (w_ei w1 (w_ar ws (n_v vs 0) 34)) (w_fi w1 (n_v vs 0) 31) (w_fi w1 (n_v vs 0) 32) (w_ei w1 (w_ar ws (n_v vs 0) 35)) (w_ei w1 (w_ar ws (n_v vs 0) 43)) (w_ei w1 (w_ar ws (n_v vs 0) 44)) (w_ei w1 (w_ar ws (n_v vs 0) 42)) (w_ei w1 (w_ar ws (n_v vs 0) 48)) (w_fi w1 (n_v vs 0) 49) (w_ei w2 (w_ar ws (n_v vs 0) 48)) (w_ei w2 (w_ar ws (n_v vs 0) 33)) (w_ei w2 (w_ar ws (n_v vs 0) 34)) (w_fi w2 (n_v vs 0) 31) (w_fi w2 (n_v vs 0) 32) (w_ei w2 (w_ar ws (n_v vs 0) 35)) (w_ei w2 (w_ar ws (n_v vs 0) 43)) (w_ei w2 (w_ar ws (n_v vs 0) 44)) (w_ei w2 (w_ar ws (n_v vs 0) 42)) (w_fi w2 (n_v vs 0) 49) (w_ei w3 (w_ar ws (n_v vs 0) 33)) (w_ei w3 (w_ar ws (n_v vs 0) 34)) (w_fi w3 (n_v vs 0) 31) (w_fi w3 (n_v vs 0) 32) (w_ei w3 (w_ar ws (n_v vs 0) 35)) (w_ei w3 (w_ar ws (n_v vs 0) 43)) (w_ei w3 (w_ar ws (n_v vs 0) 44)) (w_ei w3 (w_ar ws (n_v vs 0) 42)) (w_ei w3 (w_ar ws (n_v vs 0) 48)) (w_fi w3 (n_v vs 0) 49) (w_fi ws (n_v vs 0) 45) (w_fi w1 (n_v vs 0) 45) (w_fi w2 (n_v vs 0) 45) (w_ei ws (w_ar ws (n_v vs 0) 46)) (w_ei w1 (w_ar ws (n_v vs 0) 46)) (w_ei w2 (w_ar ws (n_v vs 0) 46)) (w_ei w3 (w_ar ws (n_v vs 0) 46)) (v_iv (Value.int x)) k16 fe_0_31_1 fe_0_32_1 fe_0_45_1 fe_0_49_1 fe_0_31_2 fe_0_32_2 fe_0_45_2 fe_0_49_2 fe_0_31_3 fe_0_32_3 fe_0_49_3 hE_0_33_1 hE_0_33_2 hE_0_33_3 hE_0_34_1 hE_0_34_2 hE_0_34_3 hE_0_35_1 hE_0_35_2 hE_0_35_3 hE_0_42_1 hE_0_42_2 hE_0_42_3 hE_0_43_1 hE_0_43_2 hE_0_43_3 hE_0_44_1 hE_0_44_2 hE_0_44_3 hE_0_46_1 hE_0_46_3 hE_0_48_1 hE_0_48_2 hE_0_48_3 kz_0_31 kz_0_32 kz_0_45 kz_0_49 ex2
  have nf8 : fc_1 PRD (20, [4, 17], [30, -62, -1, 1, 45, -1, 0, 0]) ws (vs ++ [Value.int x]) := by
    refine ⟨nf_inA hl rfl, sgq_1462 ?_⟩
    · show (-1) * w_fi ws (n_v (vs ++ [Value.int x]) 4) 45 + ((-1) * v_iv (n_v (vs ++ [Value.int x]) 17) + 0) ≤ (-62)
      simp only [e_4, e_17, q4]
      exact vc_Mo_shortest_4_8 (v_iv (n_v vs 16)) (w_ei ws (w_ar ws (n_v vs 0) 33)) (w_ei ws (w_ar ws (n_v vs 0) 34)) (w_fi ws (n_v vs 0) 31) (w_fi ws (n_v vs 0) 32) (w_ei ws (w_ar ws (n_v vs 0) 35)) (w_ei ws (w_ar ws (n_v vs 0) 43)) (w_ei ws (w_ar ws (n_v vs 0) 44)) (w_ei ws (w_ar ws (n_v vs 0) 42)) (w_ei ws (w_ar ws (n_v vs 0) 48)) (w_fi ws (n_v vs 0) 49) (w_ei w1 (w_ar ws (n_v vs 0) 33)) (w_ei w1 (w_ar ws (n_v vs 0) 34)) (w_fi w1 (n_v vs 0) 31) (w_fi w1 (n_v vs 0) 32) (w_ei w1 (w_ar ws (n_v vs 0) 35)) (w_ei w1 (w_ar ws (n_v vs 0) 43)) (w_ei w1 (w_ar ws (n_v vs 0) 44)) (w_ei w1 (w_ar ws (n_v vs 0) 42)) (w_ei w1 (w_ar ws (n_v vs 0) 48)) (w_fi w1 (n_v vs 0) 49) (w_ei w2 (w_ar ws (n_v vs 0) 48)) (w_ei w2 (w_ar ws (n_v vs 0) 33)) (w_ei w2 (w_ar ws (n_v vs 0) 34)) (w_fi w2 (n_v vs 0) 31) (w_fi w2 (n_v vs 0) 32) (w_ei w2 (w_ar ws (n_v vs 0) 35)) (w_ei w2 (w_ar ws (n_v vs 0) 43)) (w_ei w2 (w_ar ws (n_v vs 0) 44)) (w_ei w2 (w_ar ws (n_v vs 0) 42)) (w_fi w2 (n_v vs 0) 49) (w_ei w3 (w_ar ws (n_v vs 0) 33)) (w_ei w3 (w_ar ws (n_v vs 0) 34)) (w_fi w3 (n_v vs 0) 31) (w_fi w3 (n_v vs 0) 32) (w_ei w3 (w_ar ws (n_v vs 0) 35)) (w_ei w3 (w_ar ws (n_v vs 0) 43)) (w_ei w3 (w_ar ws (n_v vs 0) 44)) (w_ei w3 (w_ar ws (n_v vs 0) 42)) (w_ei w3 (w_ar ws (n_v vs 0) 48)) (w_fi w3 (n_v vs 0) 49) (w_fi ws (n_v vs 0) 45) (w_fi w1 (n_v vs 0) 45) (w_fi w2 (n_v vs 0) 45) (w_ei ws (w_ar ws (n_v vs 0) 46)) (w_ei w1 (w_ar ws (n_v vs 0) 46)) (w_ei w2 (w_ar ws (n_v vs 0) 46)) (w_ei w3 (w_ar ws (n_v vs 0) 46)) (v_iv (Value.int x)) k16 fe_0_31_1 fe_0_32_1 fe_0_45_1 fe_0_49_1 fe_0_31_2 fe_0_32_2 fe_0_45_2 fe_0_49_2 fe_0_31_3 fe_0_32_3 fe_0_49_3 hE_0_33_1 hE_0_33_2 hE_0_33_3 hE_0_34_1 hE_0_34_2 hE_0_34_3 hE_0_35_1 hE_0_35_2 hE_0_35_3 hE_0_42_1 hE_0_42_2 hE_0_42_3 hE_0_43_1 hE_0_43_2 hE_0_43_3 hE_0_44_1 hE_0_44_2 hE_0_44_3 hE_0_46_1 hE_0_46_3 hE_0_48_1 hE_0_48_2 hE_0_48_3 kz_0_31 kz_0_32 kz_0_45 kz_0_49 ex2
  have nf9 : fc_1 PRD (24, [0, 4], []) ws (vs ++ [Value.int x]) := by
    refine ⟨nf_inA hl rfl, sgq_5 ?_⟩
    · show n_v (vs ++ [Value.int x]) 0 = n_v (vs ++ [Value.int x]) 4
      first | rfl | simp only [e_0, e_4, q4, q5, q6, q7]
  have nf10 : fc_1 PRD (24, [1, 5], []) ws (vs ++ [Value.int x]) := by
    refine ⟨nf_inA hl rfl, sgq_5 ?_⟩
    · show n_v (vs ++ [Value.int x]) 1 = n_v (vs ++ [Value.int x]) 5
      first | rfl | simp only [e_1, e_5, q4, q5, q6, q7]
  have nf11 : fc_1 PRD (24, [2, 6], []) ws (vs ++ [Value.int x]) := by
    refine ⟨nf_inA hl rfl, sgq_5 ?_⟩
    · show n_v (vs ++ [Value.int x]) 2 = n_v (vs ++ [Value.int x]) 6
      first | rfl | simp only [e_2, e_6, q4, q5, q6, q7]
  have nf12 : fc_1 PRD (24, [3, 7], []) ws (vs ++ [Value.int x]) := by
    refine ⟨nf_inA hl rfl, sgq_5 ?_⟩
    · show n_v (vs ++ [Value.int x]) 3 = n_v (vs ++ [Value.int x]) 7
      first | rfl | simp only [e_3, e_7, q4, q5, q6, q7]
  exact ⟨(fun _ h => (by cases h)), [Value.int x], ag_one hx, List.forall_mem_cons.mpr ⟨⟨show (20 : Nat) < 100 from by decide, nf0⟩, List.forall_mem_cons.mpr ⟨⟨show (20 : Nat) < 100 from by decide, nf1⟩, List.forall_mem_cons.mpr ⟨⟨show (20 : Nat) < 100 from by decide, nf2⟩, List.forall_mem_cons.mpr ⟨⟨show (20 : Nat) < 100 from by decide, nf3⟩, List.forall_mem_cons.mpr ⟨⟨show (20 : Nat) < 100 from by decide, nf4⟩, List.forall_mem_cons.mpr ⟨⟨show (20 : Nat) < 100 from by decide, nf5⟩, List.forall_mem_cons.mpr ⟨⟨show (20 : Nat) < 100 from by decide, nf6⟩, List.forall_mem_cons.mpr ⟨⟨show (20 : Nat) < 100 from by decide, nf7⟩, List.forall_mem_cons.mpr ⟨⟨show (20 : Nat) < 100 from by decide, nf8⟩, List.forall_mem_cons.mpr ⟨⟨show (24 : Nat) < 100 from by decide, nf9⟩, List.forall_mem_cons.mpr ⟨⟨show (24 : Nat) < 100 from by decide, nf10⟩, List.forall_mem_cons.mpr ⟨⟨show (24 : Nat) < 100 from by decide, nf11⟩, List.forall_mem_cons.mpr ⟨⟨show (24 : Nat) < 100 from by decide, nf12⟩, (fun _ h => (by cases h))⟩⟩⟩⟩⟩⟩⟩⟩⟩⟩⟩⟩⟩, (fun _ h => (by cases h))⟩
set_option maxHeartbeats 4000000 in
theorem vc_Mo_shortest_5_0 (x1 : Int) (x2 : Int) (x3 : Int) (x8 : Int) (x10 : Int) (x12 : Int) (toGoal_0 : Int → Int) (pt_0 : Int → Int) (ph_0 : Int → Int) (pn_0 : Int) (pm_0 : Int) (alive_0 : Int → Int) (drawnEdge_0 : Int → Int) (pieceOf_0 : Int → Int) (drawnNode_0 : Int → Int) (onlyPiece_0 : Int) (pt_1 : Int → Int) (ph_1 : Int → Int) (pn_1 : Int) (pm_1 : Int) (alive_1 : Int → Int) (drawnEdge_1 : Int → Int) (pieceOf_1 : Int → Int) (drawnNode_1 : Int → Int) (toGoal_1 : Int → Int) (onlyPiece_1 : Int) (wayMany_0 : Int) (way_0 : Int → Int) (way_1 : Int → Int) (k1 : 0 ≤ x1 ∧ x1 ≤ 24) (k2 : 0 ≤ x2 ∧ x2 ≤ 24) (k3 : 0 ≤ x3 ∧ x3 ≤ 1) (k8 : 0 ≤ x8 ∧ x8 ≤ 0) (k10 : 0 ≤ x10 ∧ x10 ≤ 0) (k12 : 1000000 ≤ x12 ∧ x12 ≤ 1000001) (h1 : x12 = toGoal_0 (x1)) (f15 : x8 = 0) (f20 : TGI (pn_1) (pm_1) (onlyPiece_1) (pt_1) (ph_1) (drawnEdge_1) (pieceOf_1) (drawnNode_1) (toGoal_1) (x1) (x2) (x3)) (f21 : TG4 (pm_1) (onlyPiece_1) (pt_1) (ph_1) (drawnEdge_1) (pieceOf_1) (drawnNode_1) (toGoal_1) (x1) (x2) (x3) (x8)) (fe_0_31_1 : pn_0 = pn_1) (fe_0_32_1 : pm_0 = pm_1) (fe_0_45_1 : wayMany_0 = x10) (fe_0_49_1 : onlyPiece_0 = onlyPiece_1) (hE_0_33_1 : ∀ j : Int, pt_0 j = pt_1 j) (hE_0_34_1 : ∀ j : Int, ph_0 j = ph_1 j) (hE_0_35_1 : ∀ j : Int, alive_0 j = alive_1 j) (hE_0_42_1 : ∀ j : Int, drawnNode_0 j = drawnNode_1 j) (hE_0_43_1 : ∀ j : Int, drawnEdge_0 j = drawnEdge_1 j) (hE_0_44_1 : ∀ j : Int, pieceOf_0 j = pieceOf_1 j) (hE_0_46_1 : ∀ j : Int, way_0 j = way_1 j) (hE_0_48_1 : ∀ j : Int, toGoal_0 j = toGoal_1 j) (kz_0_31 : 0 ≤ pn_0 ∧ pn_0 ≤ 25) (kz_0_32 : 0 ≤ pm_0 ∧ pm_0 ≤ 80) (kz_0_45 : 0 ≤ wayMany_0 ∧ wayMany_0 ≤ 30) (kz_0_49 : (-1) ≤ onlyPiece_0 ∧ onlyPiece_0 ≤ 79) : SHP (pn_0) (pm_0) (onlyPiece_0) (wayMany_0) (pt_0) (ph_0) (alive_0) (drawnEdge_0) (pieceOf_0) (drawnNode_0) (way_0) (x1) (x2) (x3) := by
  subst fe_0_31_1
  subst fe_0_32_1
  subst fe_0_49_1
  have e_hE_0_33_1 := funext hE_0_33_1; subst e_hE_0_33_1
  have e_hE_0_34_1 := funext hE_0_34_1; subst e_hE_0_34_1
  have e_hE_0_35_1 := funext hE_0_35_1; subst e_hE_0_35_1
  have e_hE_0_42_1 := funext hE_0_42_1; subst e_hE_0_42_1
  have e_hE_0_43_1 := funext hE_0_43_1; subst e_hE_0_43_1
  have e_hE_0_44_1 := funext hE_0_44_1; subst e_hE_0_44_1
  have e_hE_0_46_1 := funext hE_0_46_1; subst e_hE_0_46_1
  have e_hE_0_48_1 := funext hE_0_48_1; subst e_hE_0_48_1
  have h := sh_no (al := alive_0) (way := way_0) ‹TGI _ _ _ _ _ _ _ _ _ _ _ _› (by have h := ‹TG4 _ _ _ _ _ _ _ _ _ _ _ _›; rw [show x8 = 0 by omega] at h; exact h) (by omega) (by omega)
  rw [show wayMany_0 = 0 by omega]
  exact h
def o_Mo_shortest_5 : or_T := (171, 14, [(0, (2, 0, 0, [165])), (1, (0, 0, 24, [])), (2, (0, 0, 24, [])), (3, (0, 0, 1, [])), (8, (0, 0, 0, [])), (10, (0, 0, 0, [])), (12, (0, 1000000, 1000001, []))], [(10, [12, 11, 5], []), (9, [11, 4], [48]), (24, [0, 4], []), (24, [1, 5], []), (24, [2, 6], []), (24, [3, 7], []), (101, [4, 10], [45]), (8, [8], [0]), (20, [4, 5, 6, 7], [60, 3, 6, 124, 31, 32, 49, 33, 34, 43, 44, 42, 48]), (20, [4, 5, 6, 7, 8], [60, 2, 6, 126, 32, 49, 33, 34, 43, 44, 42, 48])], [], [], [(20, [0, 1, 2, 3], [60, 4, 7, 130, 31, 32, 49, 45, 33, 34, 35, 43, 44, 42, 46])], [], [])
theorem oo_Mo_shortest_5 {kA : Nat → ClassId} : or_ok PRD kA GG o_Mo_shortest_5 := by
  refine or_mk fun A ta ws vs hD hth hl => ?_
  intro t0 r0 t1 k1 t2 k2 t3 k3 t8 k8 t10 k10 t12 k12 f1 f2 f10 f11 f12 f13 ta1 w1 le1 s1 f15 f20 f21
  replace f1 := shm_107 f1
  replace f2 := shm_548 f2
  replace f10 := shm_5 f10
  replace f11 := shm_5 f11
  replace f12 := shm_5 f12
  replace f13 := shm_5 f13
  have s1 : (∀ b j, w_el ws b j = w_el w1 b j) ∧ ∀ b j, w_fd ws b j = if b = v_ad (n_v vs 4) ∧ j = 45 then n_v vs 10 else w_fd w1 b j := s1.2
  replace f20 := shm_549 f20
  replace f21 := shm_1457 f21
  have q4 : n_v vs 4 = n_v vs 0 := f10.symm
  have q5 : n_v vs 5 = n_v vs 1 := f11.symm
  have q6 : n_v vs 6 = n_v vs 2 := f12.symm
  have q7 : n_v vs 7 = n_v vs 3 := f13.symm
  simp only [q5, q4] at f1 f2
  rw [q4] at s1
  simp only [q4, q5, q6, q7] at f20 f21
  have ar_0_33_1 : w_ar w1 (n_v vs 0) 33 = w_ar ws (n_v vs 0) 33 := by show v_ad (w_fd w1 _ _) = v_ad (w_fd ws _ _); rw [s1.2, if_neg (fun e => absurd e.2 (by decide))]
  have ar_0_34_1 : w_ar w1 (n_v vs 0) 34 = w_ar ws (n_v vs 0) 34 := by show v_ad (w_fd w1 _ _) = v_ad (w_fd ws _ _); rw [s1.2, if_neg (fun e => absurd e.2 (by decide))]
  have ar_0_35_1 : w_ar w1 (n_v vs 0) 35 = w_ar ws (n_v vs 0) 35 := by show v_ad (w_fd w1 _ _) = v_ad (w_fd ws _ _); rw [s1.2, if_neg (fun e => absurd e.2 (by decide))]
  have ar_0_42_1 : w_ar w1 (n_v vs 0) 42 = w_ar ws (n_v vs 0) 42 := by show v_ad (w_fd w1 _ _) = v_ad (w_fd ws _ _); rw [s1.2, if_neg (fun e => absurd e.2 (by decide))]
  have ar_0_43_1 : w_ar w1 (n_v vs 0) 43 = w_ar ws (n_v vs 0) 43 := by show v_ad (w_fd w1 _ _) = v_ad (w_fd ws _ _); rw [s1.2, if_neg (fun e => absurd e.2 (by decide))]
  have ar_0_44_1 : w_ar w1 (n_v vs 0) 44 = w_ar ws (n_v vs 0) 44 := by show v_ad (w_fd w1 _ _) = v_ad (w_fd ws _ _); rw [s1.2, if_neg (fun e => absurd e.2 (by decide))]
  have ar_0_48_1 : w_ar w1 (n_v vs 0) 48 = w_ar ws (n_v vs 0) 48 := by show v_ad (w_fd w1 _ _) = v_ad (w_fd ws _ _); rw [s1.2, if_neg (fun e => absurd e.2 (by decide))]
  have ad_11 : v_ad (n_v vs 11) = w_ar ws (n_v vs 0) 48 := congrArg v_ad f2
  simp only [ad_11] at f1
  have h1 : v_iv (n_v vs 12) = w_ei ws (w_ar ws (n_v vs 0) 48) (v_iv (n_v vs 1)) := f1
  simp only [ar_0_33_1, ar_0_34_1, ar_0_35_1, ar_0_43_1, ar_0_42_1, ar_0_44_1, ar_0_48_1] at f20 f21
  have fe_0_31_1 : w_fi ws (n_v vs 0) 31 = w_fi w1 (n_v vs 0) 31 := by show v_iv (w_fd _ _ _) = v_iv (w_fd _ _ _); rw [s1.2, if_neg (fun e => absurd e.2 (by decide))]
  have fe_0_32_1 : w_fi ws (n_v vs 0) 32 = w_fi w1 (n_v vs 0) 32 := by show v_iv (w_fd _ _ _) = v_iv (w_fd _ _ _); rw [s1.2, if_neg (fun e => absurd e.2 (by decide))]
  have fe_0_45_1 : w_fi ws (n_v vs 0) 45 = v_iv (n_v vs 10) := by show v_iv (w_fd _ _ _) = _; rw [s1.2, if_pos ⟨rfl, rfl⟩]
  have fe_0_49_1 : w_fi ws (n_v vs 0) 49 = w_fi w1 (n_v vs 0) 49 := by show v_iv (w_fd _ _ _) = v_iv (w_fd _ _ _); rw [s1.2, if_neg (fun e => absurd e.2 (by decide))]
  have hE_0_33_1 : ∀ j : Int, w_ei ws (w_ar ws (n_v vs 0) 33) j = w_ei w1 (w_ar ws (n_v vs 0) 33) j := fun j => s1.1 _ _
  have hE_0_34_1 : ∀ j : Int, w_ei ws (w_ar ws (n_v vs 0) 34) j = w_ei w1 (w_ar ws (n_v vs 0) 34) j := fun j => s1.1 _ _
  have hE_0_35_1 : ∀ j : Int, w_ei ws (w_ar ws (n_v vs 0) 35) j = w_ei w1 (w_ar ws (n_v vs 0) 35) j := fun j => s1.1 _ _
  have hE_0_42_1 : ∀ j : Int, w_ei ws (w_ar ws (n_v vs 0) 42) j = w_ei w1 (w_ar ws (n_v vs 0) 42) j := fun j => s1.1 _ _
  have hE_0_43_1 : ∀ j : Int, w_ei ws (w_ar ws (n_v vs 0) 43) j = w_ei w1 (w_ar ws (n_v vs 0) 43) j := fun j => s1.1 _ _
  have hE_0_44_1 : ∀ j : Int, w_ei ws (w_ar ws (n_v vs 0) 44) j = w_ei w1 (w_ar ws (n_v vs 0) 44) j := fun j => s1.1 _ _
  have hE_0_46_1 : ∀ j : Int, w_ei ws (w_ar ws (n_v vs 0) 46) j = w_ei w1 (w_ar ws (n_v vs 0) 46) j := fun j => s1.1 _ _
  have hE_0_48_1 : ∀ j : Int, w_ei ws (w_ar ws (n_v vs 0) 48) j = w_ei w1 (w_ar ws (n_v vs 0) 48) j := fun j => s1.1 _ _
  have kz_0_31 := fdq_145 hD hth r0
  have kz_0_32 := fdq_140 hD hth r0
  have kz_0_45 := fdq_191 hD hth r0
  have kz_0_49 := fdq_146 hD hth r0
  have nf0 : fc_1 PRD (20, [0, 1, 2, 3], [60, 4, 7, 130, 31, 32, 49, 45, 33, 34, 35, 43, 44, 42, 46]) ws (vs) := ⟨nf_in hl rfl, sgq_1463 (vc_Mo_shortest_5_0 (v_iv (n_v vs 1)) (v_iv (n_v vs 2)) (v_iv (n_v vs 3)) (v_iv (n_v vs 8)) (v_iv (n_v vs 10)) (v_iv (n_v vs 12)) (w_ei ws (w_ar ws (n_v vs 0) 48)) (w_ei ws (w_ar ws (n_v vs 0) 33)) (w_ei ws (w_ar ws (n_v vs 0) 34)) (w_fi ws (n_v vs 0) 31) (w_fi ws (n_v vs 0) 32) (w_ei ws (w_ar ws (n_v vs 0) 35)) (w_ei ws (w_ar ws (n_v vs 0) 43)) (w_ei ws (w_ar ws (n_v vs 0) 44)) (w_ei ws (w_ar ws (n_v vs 0) 42)) (w_fi ws (n_v vs 0) 49) (w_ei w1 (w_ar ws (n_v vs 0) 33)) (w_ei w1 (w_ar ws (n_v vs 0) 34)) (w_fi w1 (n_v vs 0) 31) (w_fi w1 (n_v vs 0) 32) (w_ei w1 (w_ar ws (n_v vs 0) 35)) (w_ei w1 (w_ar ws (n_v vs 0) 43)) (w_ei w1 (w_ar ws (n_v vs 0) 44)) (w_ei w1 (w_ar ws (n_v vs 0) 42)) (w_ei w1 (w_ar ws (n_v vs 0) 48)) (w_fi w1 (n_v vs 0) 49) (w_fi ws (n_v vs 0) 45) (w_ei ws (w_ar ws (n_v vs 0) 46)) (w_ei w1 (w_ar ws (n_v vs 0) 46)) k1 k2 k3 k8 k10 k12 h1 (shm_192 f15) f20 f21 fe_0_31_1 fe_0_32_1 fe_0_45_1 fe_0_49_1 hE_0_33_1 hE_0_34_1 hE_0_35_1 hE_0_42_1 hE_0_43_1 hE_0_44_1 hE_0_46_1 hE_0_48_1 kz_0_31 kz_0_32 kz_0_45 kz_0_49)⟩
  refine ⟨(fun _ h => (by cases h)), [], trivial, ?_, (fun _ h => (by cases h))⟩
  rw [List.append_nil]
  exact List.forall_mem_cons.mpr ⟨⟨show (20 : Nat) < 100 from by decide, nf0⟩, (fun _ h => (by cases h))⟩
set_option maxHeartbeats 4000000 in
theorem vc_Mo_shortest_6_0 (pt_0 : Int → Int) (ph_0 : Int → Int) (pn_0 : Int) (pm_0 : Int) (f1 : GOK (pn_0) (pm_0) (pt_0) (ph_0)) (kz_0_31 : 0 ≤ pn_0 ∧ pn_0 ≤ 25) (kz_0_32 : 0 ≤ pm_0 ∧ pm_0 ≤ 80) : GOK (pn_0) (pm_0) (pt_0) (ph_0) := by
  first | assumption
set_option maxHeartbeats 4000000 in
theorem vc_Mo_shortest_6_1 (pm_0 : Int) (alive_0 : Int → Int) (drawnEdge_0 : Int → Int) (f2 : UA (pm_0) (alive_0) (drawnEdge_0)) (kz_0_32 : 0 ≤ pm_0 ∧ pm_0 ≤ 80) : UA (pm_0) (alive_0) (drawnEdge_0) := by
  first | assumption
set_option maxHeartbeats 4000000 in
theorem vc_Mo_shortest_6_2 (x1 : Int) (pn_0 : Int) (k1 : 0 ≤ x1 ∧ x1 ≤ 24) (f3 : 1 * x1 + ((-1) * pn_0 + 0) ≤ (-1)) (kz_0_31 : 0 ≤ pn_0 ∧ pn_0 ≤ 25) : 1 * x1 + ((-1) * pn_0 + 0) ≤ (-1) := by
  first | omega
set_option maxHeartbeats 4000000 in
theorem vc_Mo_shortest_6_3 (x2 : Int) (pn_0 : Int) (k2 : 0 ≤ x2 ∧ x2 ≤ 24) (f4 : 1 * x2 + ((-1) * pn_0 + 0) ≤ (-1)) (kz_0_31 : 0 ≤ pn_0 ∧ pn_0 ≤ 25) : 1 * x2 + ((-1) * pn_0 + 0) ≤ (-1) := by
  first | omega
set_option maxHeartbeats 4000000 in
theorem vc_Mo_shortest_6_4 (x1 : Int) (x2 : Int) (x3 : Int) (pt_0 : Int → Int) (ph_0 : Int → Int) (pn_0 : Int) (pm_0 : Int) (drawnEdge_0 : Int → Int) (pieceOf_0 : Int → Int) (drawnNode_0 : Int → Int) (toGoal_0 : Int → Int) (onlyPiece_0 : Int) (k1 : 0 ≤ x1 ∧ x1 ≤ 24) (k2 : 0 ≤ x2 ∧ x2 ≤ 24) (k3 : 0 ≤ x3 ∧ x3 ≤ 1) (f5 : TGI (pn_0) (pm_0) (onlyPiece_0) (pt_0) (ph_0) (drawnEdge_0) (pieceOf_0) (drawnNode_0) (toGoal_0) (x1) (x2) (x3)) (kz_0_31 : 0 ≤ pn_0 ∧ pn_0 ≤ 25) (kz_0_32 : 0 ≤ pm_0 ∧ pm_0 ≤ 80) (kz_0_49 : (-1) ≤ onlyPiece_0 ∧ onlyPiece_0 ≤ 79) : TGI (pn_0) (pm_0) (onlyPiece_0) (pt_0) (ph_0) (drawnEdge_0) (pieceOf_0) (drawnNode_0) (toGoal_0) (x1) (x2) (x3) := by
  first | assumption
set_option maxHeartbeats 4000000 in
theorem vc_Mo_shortest_6_5 (x1 : Int) (x2 : Int) (x3 : Int) (x9 : Int) (x10 : Int) (x11 : Int) (pt_0 : Int → Int) (ph_0 : Int → Int) (drawnEdge_0 : Int → Int) (pieceOf_0 : Int → Int) (drawnNode_0 : Int → Int) (toGoal_0 : Int → Int) (onlyPiece_0 : Int) (k1 : 0 ≤ x1 ∧ x1 ≤ 24) (k2 : 0 ≤ x2 ∧ x2 ≤ 24) (k3 : 0 ≤ x3 ∧ x3 ≤ 1) (k10 : 0 ≤ x10 ∧ x10 ≤ 0) (k11 : 0 ≤ x11 ∧ x11 ≤ 0) (kz_0_49 : (-1) ≤ onlyPiece_0 ∧ onlyPiece_0 ≤ 79) : TG3 (onlyPiece_0) (pt_0) (ph_0) (drawnEdge_0) (pieceOf_0) (drawnNode_0) (toGoal_0) (x1) (x2) (x3) (x11) (x10) (x2) (x2) := by
  first
    | (intro h; exfalso; omega)
    | (intro h; exact ⟨fun e a b => by exfalso; omega, fun _ => by omega⟩)
    | (have c := ‹CLO _ _ _ _ _ _ _ _ _ _ _ _ _ _ _ _ _ _ _›
       have c1 := c.1 (by omega)
       intro h
       have t := c1.1 (by omega)
       refine ⟨fun e a b m => ?_, fun _ => by omega⟩
       by_cases q : e = x9
       · subst q
         refine ⟨?_, ?_⟩
         · have := t.2
           rw [show x28 = pt_0 e by omega, show x29 = ph_0 e by omega] at this; exact this
         · have := c1.2.1
           rw [show x24 = ph_0 e by omega, show x25 = pt_0 e by omega] at this; exact this
       · exact t.1 e a (by omega) m)
    | (have h := ‹TG3 _ _ _ _ _ _ _ _ _ _ _ _ _ _›
       have mg := ‹MGP _ _ _ _ _›
       intro h0
       have h1 := h h0
       refine ⟨fun e a b c => ?_, h1.2⟩
       by_cases q : e = x9
       · subst q; exact absurd (mg.mpr c) (by omega)
       · exact h1.1 e a (by omega) c)
set_option maxHeartbeats 4000000 in
theorem vc_Mo_shortest_6_6 (x8 : Int) (x9 : Int) (x10 : Int) (pn_0 : Int) (toGoal_0 : Int → Int) (gx : Int) (k8 : 1 ≤ x8 ∧ x8 ≤ 1) (k9 : (-2) ≤ x9 ∧ x9 ≤ 26000060) (k10 : 0 ≤ x10 ∧ x10 ≤ 0) (f7 : SMM (pn_0) (toGoal_0) (x8) (x9)) (kz_0_31 : 0 ≤ pn_0 ∧ pn_0 ≤ 25) (ex2 : gx = 0 + (1 * x9 + 0)) : SMN (pn_0) (toGoal_0) (x10) (gx) := by
  first
    | assumption
    | (have h := ‹SMM _ _ _ _›; unfold SMN; unfold SMM at h; omega)
    | (have c := ‹CLO _ _ _ _ _ _ _ _ _ _ _ _ _ _ _ _ _ _ _›
       unfold SMN
       first
         | (have := (c.1 (by omega)).2.2; omega)
         | (have := c.2 (by omega); omega))
def o_Mo_shortest_6 : or_T := (52, 12, [(0, (2, 0, 0, [165])), (1, (0, 0, 24, [])), (2, (0, 0, 24, [])), (3, (0, 0, 1, [])), (4, (2, 0, 0, [165])), (5, (0, 0, 24, [])), (6, (0, 0, 24, [])), (7, (0, 0, 1, [])), (8, (0, 1, 1, [])), (9, (0, -2, 26000060, [])), (10, (0, 0, 0, [])), (11, (0, 0, 0, []))], [(8, [8], [1]), (20, [4], [60, 2, 2, 75, 31, 32, 33, 34]), (20, [4], [60, 1, 2, 122, 32, 35, 43]), (20, [5, 4], [30, -1, 1, 0, 0, -1, 1, 31]), (20, [6, 4], [30, -1, 1, 0, 0, -1, 1, 31]), (20, [4, 5, 6, 7], [60, 3, 6, 124, 31, 32, 49, 33, 34, 43, 44, 42, 48]), (20, [4, 5, 6, 7, 8], [60, 2, 6, 126, 32, 49, 33, 34, 43, 44, 42, 48]), (20, [4, 8, 9], [60, 1, 1, 127, 31, 48]), (24, [0, 4], []), (24, [1, 5], []), (24, [2, 6], []), (24, [3, 7], [])], [], [(0, -2, 26000060, [])], [(20, [4], [60, 2, 2, 75, 31, 32, 33, 34]), (20, [4], [60, 1, 2, 122, 32, 35, 43]), (20, [5, 4], [30, -1, 1, 0, 0, -1, 1, 31]), (20, [6, 4], [30, -1, 1, 0, 0, -1, 1, 31]), (20, [4, 5, 6, 7], [60, 3, 6, 124, 31, 32, 49, 33, 34, 43, 44, 42, 48]), (20, [4, 5, 6, 7, 11, 10, 6, 6], [60, 1, 6, 125, 49, 33, 34, 43, 44, 42, 48]), (20, [4, 10, 12], [60, 1, 1, 128, 31, 48]), (24, [0, 4], []), (24, [1, 5], []), (24, [2, 6], []), (24, [3, 7], [])], [(12, 9, 0, 0)], [(1, 5, -4294967296, 0), (2, 6, -4294967296, 0), (3, 7, -4294967296, 0), (5, 1, -4294967296, 0), (6, 2, -4294967296, 0), (7, 3, -4294967296, 0)])
theorem oo_Mo_shortest_6 {kA : Nat → ClassId} : or_ok PRD kA GG o_Mo_shortest_6 := by
  refine or_mk fun A ta ws vs hD hth hl => ?_
  intro t0 r0 t1 k1 t2 k2 t3 k3 t4 r4 t5 k5 t6 k6 t7 k7 t8 k8 t9 k9 t10 k10 t11 k11 d0 d1 d2 d3 d4 d5 f0 f1 f2 f3 f4 f5 f6 f7 f8 f9 f10 f11
  replace f0 := shm_142 f0
  replace f1 := shm_575 f1
  replace f2 := shm_1455 f2
  replace f3 := shm_553 f3
  replace f4 := shm_553 f4
  replace f5 := shm_549 f5
  replace f6 := shm_1457 f6
  replace f7 := shm_1458 f7
  replace f8 := shm_5 f8
  replace f9 := shm_5 f9
  replace f10 := shm_5 f10
  replace f11 := shm_5 f11
  have q4 : n_v vs 4 = n_v vs 0 := f8.symm
  have q5 : n_v vs 5 = n_v vs 1 := f9.symm
  have q6 : n_v vs 6 = n_v vs 2 := f10.symm
  have q7 : n_v vs 7 = n_v vs 3 := f11.symm
  simp only [q4, q5, q6, q7] at f1 f2 f3 f4 f5 f6 f7
  have cr_0_33 := fdq_117 hD hth r0
  have cr_0_34 := fdq_118 hD hth r0
  have cr_0_35 := fdq_132 hD hth r0
  have cr_0_42 := fdq_136 hD hth r0
  have cr_0_43 := fdq_137 hD hth r0
  have cr_0_44 := fdq_138 hD hth r0
  have cr_0_48 := fdq_144 hD hth r0
  have hK_0_33 := elq_60 hD hth cr_0_33
  have hK_0_34 := elq_61 hD hth cr_0_34
  have hK_0_35 := elq_72 hD hth cr_0_35
  have hK_0_42 := elq_75 hD hth cr_0_42
  have hK_0_43 := elq_76 hD hth cr_0_43
  have hK_0_44 := elq_77 hD hth cr_0_44
  have hK_0_48 := elq_82 hD hth cr_0_48
  have kz_0_31 := fdq_145 hD hth r0
  have kz_0_32 := fdq_140 hD hth r0
  have kz_0_49 := fdq_146 hD hth r0
  obtain ⟨x, ex, hx⟩ := iv_ex (ta := ta) (lo := (-2)) (hi := 26000060) (z := 0 + (1 * v_iv (n_v vs 9) + 0)) (by omega) (by omega) (by omega) (by omega)
  have ex2 : v_iv (Value.int x) = 0 + (1 * v_iv (n_v vs 9) + 0) := ex
  have ex3 : (-2) ≤ v_iv (Value.int x) ∧ v_iv (Value.int x) ≤ 26000060 := tv_rng hx
  have e_0 : n_v (vs ++ [Value.int x]) 0 = n_v vs 0 := n_v_old (by rw [hl]; decide)
  have e_1 : n_v (vs ++ [Value.int x]) 1 = n_v vs 1 := n_v_old (by rw [hl]; decide)
  have e_2 : n_v (vs ++ [Value.int x]) 2 = n_v vs 2 := n_v_old (by rw [hl]; decide)
  have e_3 : n_v (vs ++ [Value.int x]) 3 = n_v vs 3 := n_v_old (by rw [hl]; decide)
  have e_4 : n_v (vs ++ [Value.int x]) 4 = n_v vs 4 := n_v_old (by rw [hl]; decide)
  have e_5 : n_v (vs ++ [Value.int x]) 5 = n_v vs 5 := n_v_old (by rw [hl]; decide)
  have e_6 : n_v (vs ++ [Value.int x]) 6 = n_v vs 6 := n_v_old (by rw [hl]; decide)
  have e_7 : n_v (vs ++ [Value.int x]) 7 = n_v vs 7 := n_v_old (by rw [hl]; decide)
  have e_10 : n_v (vs ++ [Value.int x]) 10 = n_v vs 10 := n_v_old (by rw [hl]; decide)
  have e_11 : n_v (vs ++ [Value.int x]) 11 = n_v vs 11 := n_v_old (by rw [hl]; decide)
  have e_12 : n_v (vs ++ [Value.int x]) 12 = Value.int x := n_v_new hl
  have nf0 : fc_1 PRD (20, [4], [60, 2, 2, 75, 31, 32, 33, 34]) ws (vs ++ [Value.int x]) := by
    refine ⟨nf_inA hl rfl, sgq_575 ?_⟩
    · show GOK (w_fi ws (n_v (vs ++ [Value.int x]) 4) 31) (w_fi ws (n_v (vs ++ [Value.int x]) 4) 32) (w_ei ws (w_ar ws (n_v (vs ++ [Value.int x]) 4) 33)) (w_ei ws (w_ar ws (n_v (vs ++ [Value.int x]) 4) 34))
      simp only [e_4, q4]
      exact vc_Mo_shortest_6_0 (w_ei ws (w_ar ws (n_v vs 0) 33)) (w_ei ws (w_ar ws (n_v vs 0) 34)) (w_fi ws (n_v vs 0) 31) (w_fi ws (n_v vs 0) 32) f1 kz_0_31 kz_0_32
  have nf1 : fc_1 PRD (20, [4], [60, 1, 2, 122, 32, 35, 43]) ws (vs ++ [Value.int x]) := by
    refine ⟨nf_inA hl rfl, sgq_1455 ?_⟩
    · show UA (w_fi ws (n_v (vs ++ [Value.int x]) 4) 32) (w_ei ws (w_ar ws (n_v (vs ++ [Value.int x]) 4) 35)) (w_ei ws (w_ar ws (n_v (vs ++ [Value.int x]) 4) 43))
      simp only [e_4, q4]
      exact vc_Mo_shortest_6_1 (w_fi ws (n_v vs 0) 32) (w_ei ws (w_ar ws (n_v vs 0) 35)) (w_ei ws (w_ar ws (n_v vs 0) 43)) f2 kz_0_32
  have nf2 : fc_1 PRD (20, [5, 4], [30, -1, 1, 0, 0, -1, 1, 31]) ws (vs ++ [Value.int x]) := by
    refine ⟨nf_inA hl rfl, sgq_553 ?_⟩
    · show 1 * v_iv (n_v (vs ++ [Value.int x]) 5) + ((-1) * w_fi ws (n_v (vs ++ [Value.int x]) 4) 31 + 0) ≤ (-1)
      simp only [e_4, e_5, q4, q5]
      exact vc_Mo_shortest_6_2 (v_iv (n_v vs 1)) (w_fi ws (n_v vs 0) 31) k1 f3 kz_0_31
  have nf3 : fc_1 PRD (20, [6, 4], [30, -1, 1, 0, 0, -1, 1, 31]) ws (vs ++ [Value.int x]) := by
    refine ⟨nf_inA hl rfl, sgq_553 ?_⟩
    · show 1 * v_iv (n_v (vs ++ [Value.int x]) 6) + ((-1) * w_fi ws (n_v (vs ++ [Value.int x]) 4) 31 + 0) ≤ (-1)
      simp only [e_4, e_6, q4, q6]
      exact vc_Mo_shortest_6_3 (v_iv (n_v vs 2)) (w_fi ws (n_v vs 0) 31) k2 f4 kz_0_31
  have nf4 : fc_1 PRD (20, [4, 5, 6, 7], [60, 3, 6, 124, 31, 32, 49, 33, 34, 43, 44, 42, 48]) ws (vs ++ [Value.int x]) := by
    refine ⟨nf_inA hl rfl, sgq_549 ?_⟩
    · show TGI (w_fi ws (n_v (vs ++ [Value.int x]) 4) 31) (w_fi ws (n_v (vs ++ [Value.int x]) 4) 32) (w_fi ws (n_v (vs ++ [Value.int x]) 4) 49) (w_ei ws (w_ar ws (n_v (vs ++ [Value.int x]) 4) 33)) (w_ei ws (w_ar ws (n_v (vs ++ [Value.int x]) 4) 34)) (w_ei ws (w_ar ws (n_v (vs ++ [Value.int x]) 4) 43)) (w_ei ws (w_ar ws (n_v (vs ++ [Value.int x]) 4) 44)) (w_ei ws (w_ar ws (n_v (vs ++ [Value.int x]) 4) 42)) (w_ei ws (w_ar ws (n_v (vs ++ [Value.int x]) 4) 48)) (v_iv (n_v (vs ++ [Value.int x]) 5)) (v_iv (n_v (vs ++ [Value.int x]) 6)) (v_iv (n_v (vs ++ [Value.int x]) 7))
      simp only [e_4, e_5, e_6, e_7, q4, q5, q6, q7]
      exact vc_Mo_shortest_6_4 (v_iv (n_v vs 1)) (v_iv (n_v vs 2)) (v_iv (n_v vs 3)) (w_ei ws (w_ar ws (n_v vs 0) 33)) (w_ei ws (w_ar ws (n_v vs 0) 34)) (w_fi ws (n_v vs 0) 31) (w_fi ws (n_v vs 0) 32) (w_ei ws (w_ar ws (n_v vs 0) 43)) (w_ei ws (w_ar ws (n_v vs 0) 44)) (w_ei ws (w_ar ws (n_v vs 0) 42)) (w_ei ws (w_ar ws (n_v vs 0) 48)) (w_fi ws (n_v vs 0) 49) k1 k2 k3 f5 kz_0_31 kz_0_32 kz_0_49
  have nf5 : fc_1 PRD (20, [4, 5, 6, 7, 11, 10, 6, 6], [60, 1, 6, 125, 49, 33, 34, 43, 44, 42, 48]) ws (vs ++ [Value.int x]) := by
    refine ⟨nf_inA hl rfl, sgq_1464 ?_⟩
    · show TG3 (w_fi ws (n_v (vs ++ [Value.int x]) 4) 49) (w_ei ws (w_ar ws (n_v (vs ++ [Value.int x]) 4) 33)) (w_ei ws (w_ar ws (n_v (vs ++ [Value.int x]) 4) 34)) (w_ei ws (w_ar ws (n_v (vs ++ [Value.int x]) 4) 43)) (w_ei ws (w_ar ws (n_v (vs ++ [Value.int x]) 4) 44)) (w_ei ws (w_ar ws (n_v (vs ++ [Value.int x]) 4) 42)) (w_ei ws (w_ar ws (n_v (vs ++ [Value.int x]) 4) 48)) (v_iv (n_v (vs ++ [Value.int x]) 5)) (v_iv (n_v (vs ++ [Value.int x]) 6)) (v_iv (n_v (vs ++ [Value.int x]) 7)) (v_iv (n_v (vs ++ [Value.int x]) 11)) (v_iv (n_v (vs ++ [Value.int x]) 10)) (v_iv (n_v (vs ++ [Value.int x]) 6)) (v_iv (n_v (vs ++ [Value.int x]) 6))
      simp only [e_4, e_5, e_6, e_7, e_10, e_11, q4, q5, q6, q7]
      exact vc_Mo_shortest_6_5 (v_iv (n_v vs 1)) (v_iv (n_v vs 2)) (v_iv (n_v vs 3)) (v_iv (n_v vs 9)) (v_iv (n_v vs 10)) (v_iv (n_v vs 11)) (w_ei ws (w_ar ws (n_v vs 0) 33)) (w_ei ws (w_ar ws (n_v vs 0) 34)) (w_ei ws (w_ar ws (n_v vs 0) 43)) (w_ei ws (w_ar ws (n_v vs 0) 44)) (w_ei ws (w_ar ws (n_v vs 0) 42)) (w_ei ws (w_ar ws (n_v vs 0) 48)) (w_fi ws (n_v vs 0) 49) k1 k2 k3 k10 k11 kz_0_49
  have nf6 : fc_1 PRD (20, [4, 10, 12], [60, 1, 1, 128, 31, 48]) ws (vs ++ [Value.int x]) := by
    refine ⟨nf_inA hl rfl, sgq_551 ?_⟩
    · show SMN (w_fi ws (n_v (vs ++ [Value.int x]) 4) 31) (w_ei ws (w_ar ws (n_v (vs ++ [Value.int x]) 4) 48)) (v_iv (n_v (vs ++ [Value.int x]) 10)) (v_iv (n_v (vs ++ [Value.int x]) 12))
      simp only [e_4, e_10, e_12, q4]
      exact vc_Mo_shortest_6_6 (v_iv (n_v vs 8)) (v_iv (n_v vs 9)) (v_iv (n_v vs 10)) (w_fi ws (n_v vs 0) 31) (w_ei ws (w_ar ws (n_v vs 0) 48)) (v_iv (Value.int x)) k8 k9 k10 f7 kz_0_31 ex2
  have nf7 : fc_1 PRD (24, [0, 4], []) ws (vs ++ [Value.int x]) := by
    refine ⟨nf_inA hl rfl, sgq_5 ?_⟩
    · show n_v (vs ++ [Value.int x]) 0 = n_v (vs ++ [Value.int x]) 4
      first | rfl | simp only [e_0, e_4, q4, q5, q6, q7]
  have nf8 : fc_1 PRD (24, [1, 5], []) ws (vs ++ [Value.int x]) := by
    refine ⟨nf_inA hl rfl, sgq_5 ?_⟩
    · show n_v (vs ++ [Value.int x]) 1 = n_v (vs ++ [Value.int x]) 5
      first | rfl | simp only [e_1, e_5, q4, q5, q6, q7]
  have nf9 : fc_1 PRD (24, [2, 6], []) ws (vs ++ [Value.int x]) := by
    refine ⟨nf_inA hl rfl, sgq_5 ?_⟩
    · show n_v (vs ++ [Value.int x]) 2 = n_v (vs ++ [Value.int x]) 6
      first | rfl | simp only [e_2, e_6, q4, q5, q6, q7]
  have nf10 : fc_1 PRD (24, [3, 7], []) ws (vs ++ [Value.int x]) := by
    refine ⟨nf_inA hl rfl, sgq_5 ?_⟩
    · show n_v (vs ++ [Value.int x]) 3 = n_v (vs ++ [Value.int x]) 7
      first | rfl | simp only [e_3, e_7, q4, q5, q6, q7]
  obtain ⟨x0, e0, _, _⟩ := tv_int t9 rfl
  have e1 : v_iv (n_v vs 9) = x0.toInt := by rw [e0]; rfl
  have ho : sy_ofs (vs ++ [Value.int x]) (12, 9, 0, 0) := by
    refine ⟨x, x0, by rw [List.getElem?_append_right (by rw [hl]; decide), hl]; rfl, ?_, ?_, ?_⟩
    · rw [List.getElem?_append_left (by rw [hl]; decide)]; exact n_v_some (by rw [hl]; decide) e0
    · show x0.toInt + 0 ≤ x.toInt; omega
    · show x.toInt ≤ x0.toInt + 0; omega
  exact ⟨(fun _ h => (by cases h)), [Value.int x], ag_one hx, List.forall_mem_cons.mpr ⟨⟨show (20 : Nat) < 100 from by decide, nf0⟩, List.forall_mem_cons.mpr ⟨⟨show (20 : Nat) < 100 from by decide, nf1⟩, List.forall_mem_cons.mpr ⟨⟨show (20 : Nat) < 100 from by decide, nf2⟩, List.forall_mem_cons.mpr ⟨⟨show (20 : Nat) < 100 from by decide, nf3⟩, List.forall_mem_cons.mpr ⟨⟨show (20 : Nat) < 100 from by decide, nf4⟩, List.forall_mem_cons.mpr ⟨⟨show (20 : Nat) < 100 from by decide, nf5⟩, List.forall_mem_cons.mpr ⟨⟨show (20 : Nat) < 100 from by decide, nf6⟩, List.forall_mem_cons.mpr ⟨⟨show (24 : Nat) < 100 from by decide, nf7⟩, List.forall_mem_cons.mpr ⟨⟨show (24 : Nat) < 100 from by decide, nf8⟩, List.forall_mem_cons.mpr ⟨⟨show (24 : Nat) < 100 from by decide, nf9⟩, List.forall_mem_cons.mpr ⟨⟨show (24 : Nat) < 100 from by decide, nf10⟩, (fun _ h => (by cases h))⟩⟩⟩⟩⟩⟩⟩⟩⟩⟩⟩, List.forall_mem_cons.mpr ⟨ho, (fun _ h => (by cases h))⟩⟩
set_option maxHeartbeats 4000000 in
theorem vc_Mo_shortest_7_0 (pm_0 : Int) (pt_0 : Int → Int) (ph_0 : Int → Int) (pn_0 : Int) (f2 : GOK (pn_0) (pm_0) (pt_0) (ph_0)) (kz_0_31 : 0 ≤ pn_0 ∧ pn_0 ≤ 25) (kz_0_32 : 0 ≤ pm_0 ∧ pm_0 ≤ 80) : GOK (pn_0) (pm_0) (pt_0) (ph_0) := by
  first | assumption
set_option maxHeartbeats 4000000 in
theorem vc_Mo_shortest_7_1 (pm_0 : Int) (alive_0 : Int → Int) (drawnEdge_0 : Int → Int) (f3 : UA (pm_0) (alive_0) (drawnEdge_0)) (kz_0_32 : 0 ≤ pm_0 ∧ pm_0 ≤ 80) : UA (pm_0) (alive_0) (drawnEdge_0) := by
  first | assumption
set_option maxHeartbeats 4000000 in
theorem vc_Mo_shortest_7_2 (x1 : Int) (pn_0 : Int) (k1 : 0 ≤ x1 ∧ x1 ≤ 24) (f4 : 1 * x1 + ((-1) * pn_0 + 0) ≤ (-1)) (kz_0_31 : 0 ≤ pn_0 ∧ pn_0 ≤ 25) : 1 * x1 + ((-1) * pn_0 + 0) ≤ (-1) := by
  first | omega
set_option maxHeartbeats 4000000 in
theorem vc_Mo_shortest_7_3 (x2 : Int) (pn_0 : Int) (k2 : 0 ≤ x2 ∧ x2 ≤ 24) (f5 : 1 * x2 + ((-1) * pn_0 + 0) ≤ (-1)) (kz_0_31 : 0 ≤ pn_0 ∧ pn_0 ≤ 25) : 1 * x2 + ((-1) * pn_0 + 0) ≤ (-1) := by
  first | omega
set_option maxHeartbeats 4000000 in
theorem vc_Mo_shortest_7_4 (x1 : Int) (x2 : Int) (x3 : Int) (pm_0 : Int) (pt_0 : Int → Int) (ph_0 : Int → Int) (pn_0 : Int) (drawnEdge_0 : Int → Int) (pieceOf_0 : Int → Int) (drawnNode_0 : Int → Int) (toGoal_0 : Int → Int) (onlyPiece_0 : Int) (k1 : 0 ≤ x1 ∧ x1 ≤ 24) (k2 : 0 ≤ x2 ∧ x2 ≤ 24) (k3 : 0 ≤ x3 ∧ x3 ≤ 1) (f6 : TGI (pn_0) (pm_0) (onlyPiece_0) (pt_0) (ph_0) (drawnEdge_0) (pieceOf_0) (drawnNode_0) (toGoal_0) (x1) (x2) (x3)) (kz_0_31 : 0 ≤ pn_0 ∧ pn_0 ≤ 25) (kz_0_32 : 0 ≤ pm_0 ∧ pm_0 ≤ 80) (kz_0_49 : (-1) ≤ onlyPiece_0 ∧ onlyPiece_0 ≤ 79) : TGI (pn_0) (pm_0) (onlyPiece_0) (pt_0) (ph_0) (drawnEdge_0) (pieceOf_0) (drawnNode_0) (toGoal_0) (x1) (x2) (x3) := by
  first
    | assumption
set_option maxHeartbeats 4000000 in
theorem vc_Mo_shortest_7_5 (x1 : Int) (x2 : Int) (x3 : Int) (x8 : Int) (x9 : Int) (x11 : Int) (pm_0 : Int) (pt_0 : Int → Int) (ph_0 : Int → Int) (drawnEdge_0 : Int → Int) (pieceOf_0 : Int → Int) (drawnNode_0 : Int → Int) (toGoal_0 : Int → Int) (onlyPiece_0 : Int) (k1 : 0 ≤ x1 ∧ x1 ≤ 24) (k2 : 0 ≤ x2 ∧ x2 ≤ 24) (k3 : 0 ≤ x3 ∧ x3 ≤ 1) (k8 : 0 ≤ x8 ∧ x8 ≤ 1) (k9 : 0 ≤ x9 ∧ x9 ≤ 80) (k11 : 0 ≤ x11 ∧ x11 ≤ 80) (d0 : x11 + 0 ≤ x9 ∧ x9 ≤ x11 + 4294967296) (g1 : x11 = pm_0) (f7 : TG3 (onlyPiece_0) (pt_0) (ph_0) (drawnEdge_0) (pieceOf_0) (drawnNode_0) (toGoal_0) (x1) (x2) (x3) (x9) (x8) (x2) (x2)) (kz_0_32 : 0 ≤ pm_0 ∧ pm_0 ≤ 80) (kz_0_49 : (-1) ≤ onlyPiece_0 ∧ onlyPiece_0 ≤ 79) : TG4 (pm_0) (onlyPiece_0) (pt_0) (ph_0) (drawnEdge_0) (pieceOf_0) (drawnNode_0) (toGoal_0) (x1) (x2) (x3) (x8) := by
  first
    | (intro h; exfalso; omega)
    | (have h := ‹TG3 _ _ _ _ _ _ _ _ _ _ _ _ _ _›
       intro h0
       have h1 := h h0
       exact ⟨fun e a b => h1.1 e a (by omega), h1.2⟩)
set_option maxHeartbeats 4000000 in
theorem vc_Mo_shortest_7_6 (x8 : Int) (x10 : Int) (pn_0 : Int) (toGoal_0 : Int → Int) (gx : Int) (k8 : 0 ≤ x8 ∧ x8 ≤ 1) (k10 : (-2) ≤ x10 ∧ x10 ≤ 26000060) (f8 : SMN (pn_0) (toGoal_0) (x8) (x10)) (kz_0_31 : 0 ≤ pn_0 ∧ pn_0 ≤ 25) (ex2 : gx = (-1) + (1 * x10 + 0)) : SMM (pn_0) (toGoal_0) (x8) (gx) := by
  first
    | (have h := ‹SMN _ _ _ _›; unfold SMM; unfold SMN at h; omega)
def o_Mo_shortest_7 : or_T := (41, 12, [(0, (2, 0, 0, [165])), (1, (0, 0, 24, [])), (2, (0, 0, 24, [])), (3, (0, 0, 1, [])), (4, (2, 0, 0, [165])), (5, (0, 0, 24, [])), (6, (0, 0, 24, [])), (7, (0, 0, 1, [])), (8, (0, 0, 1, [])), (9, (0, 0, 80, [])), (10, (0, -2, 26000060, [])), (11, (0, 0, 80, []))], [(7, [9, 11], [3]), (9, [11, 4], [32]), (20, [4], [60, 2, 2, 75, 31, 32, 33, 34]), (20, [4], [60, 1, 2, 122, 32, 35, 43]), (20, [5, 4], [30, -1, 1, 0, 0, -1, 1, 31]), (20, [6, 4], [30, -1, 1, 0, 0, -1, 1, 31]), (20, [4, 5, 6, 7], [60, 3, 6, 124, 31, 32, 49, 33, 34, 43, 44, 42, 48]), (20, [4, 5, 6, 7, 9, 8, 6, 6], [60, 1, 6, 125, 49, 33, 34, 43, 44, 42, 48]), (20, [4, 8, 10], [60, 1, 1, 128, 31, 48]), (24, [0, 4], []), (24, [1, 5], []), (24, [2, 6], []), (24, [3, 7], [])], [], [(0, -2, 26000060, [])], [(20, [4], [60, 2, 2, 75, 31, 32, 33, 34]), (20, [4], [60, 1, 2, 122, 32, 35, 43]), (20, [5, 4], [30, -1, 1, 0, 0, -1, 1, 31]), (20, [6, 4], [30, -1, 1, 0, 0, -1, 1, 31]), (20, [4, 5, 6, 7], [60, 3, 6, 124, 31, 32, 49, 33, 34, 43, 44, 42, 48]), (20, [4, 5, 6, 7, 8], [60, 2, 6, 126, 32, 49, 33, 34, 43, 44, 42, 48]), (20, [4, 8, 12], [60, 1, 1, 127, 31, 48]), (24, [0, 4], []), (24, [1, 5], []), (24, [2, 6], []), (24, [3, 7], [])], [(12, 10, -1000000000000, -1)], [(9, 11, 0, 4294967296), (1, 5, -4294967296, 0), (2, 6, -4294967296, 0), (3, 7, -4294967296, 0), (5, 1, -4294967296, 0), (6, 2, -4294967296, 0), (7, 3, -4294967296, 0), (8, 9, -4294967296, 0)])
theorem oo_Mo_shortest_7 {kA : Nat → ClassId} : or_ok PRD kA GG o_Mo_shortest_7 := by
  refine or_mk fun A ta ws vs hD hth hl => ?_
  intro t0 r0 t1 k1 t2 k2 t3 k3 t4 r4 t5 k5 t6 k6 t7 k7 t8 k8 t9 k9 t10 k10 t11 k11 d0 d1 d2 d3 d4 d5 d6 d7 f0 f1 f2 f3 f4 f5 f6 f7 f8 f9 f10 f11 f12
  replace f0 := shm_2 f0
  replace f1 := shm_525 f1
  replace f2 := shm_575 f2
  replace f3 := shm_1455 f3
  replace f4 := shm_553 f4
  replace f5 := shm_553 f5
  replace f6 := shm_549 f6
  replace f7 := shm_1464 f7
  replace f8 := shm_551 f8
  replace f9 := shm_5 f9
  replace f10 := shm_5 f10
  replace f11 := shm_5 f11
  replace f12 := shm_5 f12
  have q4 : n_v vs 4 = n_v vs 0 := f9.symm
  have q5 : n_v vs 5 = n_v vs 1 := f10.symm
  have q6 : n_v vs 6 = n_v vs 2 := f11.symm
  have q7 : n_v vs 7 = n_v vs 3 := f12.symm
  simp only [q4, q5, q6, q7] at f1 f2 f3 f4 f5 f6 f7 f8
  have cr_0_33 := fdq_117 hD hth r0
  have cr_0_34 := fdq_118 hD hth r0
  have cr_0_35 := fdq_132 hD hth r0
  have cr_0_42 := fdq_136 hD hth r0
  have cr_0_43 := fdq_137 hD hth r0
  have cr_0_44 := fdq_138 hD hth r0
  have cr_0_48 := fdq_144 hD hth r0
  have g1 : v_iv (n_v vs 11) = w_fi ws (n_v vs 0) 32 := congrArg v_iv f1
  have hK_0_33 := elq_60 hD hth cr_0_33
  have hK_0_34 := elq_61 hD hth cr_0_34
  have hK_0_35 := elq_72 hD hth cr_0_35
  have hK_0_42 := elq_75 hD hth cr_0_42
  have hK_0_43 := elq_76 hD hth cr_0_43
  have hK_0_44 := elq_77 hD hth cr_0_44
  have hK_0_48 := elq_82 hD hth cr_0_48
  have kz_0_31 := fdq_145 hD hth r0
  have kz_0_32 := fdq_140 hD hth r0
  have kz_0_49 := fdq_146 hD hth r0
  first | have hN := smn_pos ‹SMN _ _ _ _› (by omega) ‹TGI _ _ _ _ _ _ _ _ _ _ _ _› (by omega) | skip
  obtain ⟨x, ex, hx⟩ := iv_ex (ta := ta) (lo := (-2)) (hi := 26000060) (z := (-1) + (1 * v_iv (n_v vs 10) + 0)) (by omega) (by omega) (by omega) (by omega)
  have ex2 : v_iv (Value.int x) = (-1) + (1 * v_iv (n_v vs 10) + 0) := ex
  have ex3 : (-2) ≤ v_iv (Value.int x) ∧ v_iv (Value.int x) ≤ 26000060 := tv_rng hx
  have e_0 : n_v (vs ++ [Value.int x]) 0 = n_v vs 0 := n_v_old (by rw [hl]; decide)
  have e_1 : n_v (vs ++ [Value.int x]) 1 = n_v vs 1 := n_v_old (by rw [hl]; decide)
  have e_2 : n_v (vs ++ [Value.int x]) 2 = n_v vs 2 := n_v_old (by rw [hl]; decide)
  have e_3 : n_v (vs ++ [Value.int x]) 3 = n_v vs 3 := n_v_old (by rw [hl]; decide)
  have e_4 : n_v (vs ++ [Value.int x]) 4 = n_v vs 4 := n_v_old (by rw [hl]; decide)
  have e_5 : n_v (vs ++ [Value.int x]) 5 = n_v vs 5 := n_v_old (by rw [hl]; decide)
  have e_6 : n_v (vs ++ [Value.int x]) 6 = n_v vs 6 := n_v_old (by rw [hl]; decide)
  have e_7 : n_v (vs ++ [Value.int x]) 7 = n_v vs 7 := n_v_old (by rw [hl]; decide)
  have e_8 : n_v (vs ++ [Value.int x]) 8 = n_v vs 8 := n_v_old (by rw [hl]; decide)
  have e_12 : n_v (vs ++ [Value.int x]) 12 = Value.int x := n_v_new hl
  have nf0 : fc_1 PRD (20, [4], [60, 2, 2, 75, 31, 32, 33, 34]) ws (vs ++ [Value.int x]) := by
    refine ⟨nf_inA hl rfl, sgq_575 ?_⟩
    · show GOK (w_fi ws (n_v (vs ++ [Value.int x]) 4) 31) (w_fi ws (n_v (vs ++ [Value.int x]) 4) 32) (w_ei ws (w_ar ws (n_v (vs ++ [Value.int x]) 4) 33)) (w_ei ws (w_ar ws (n_v (vs ++ [Value.int x]) 4) 34))
      simp only [e_4, q4]
      exact vc_Mo_shortest_7_0 (w_fi ws (n_v vs 0) 32) (w_ei ws (w_ar ws (n_v vs 0) 33)) (w_ei ws (w_ar ws (n_v vs 0) 34)) (w_fi ws (n_v vs 0) 31) f2 kz_0_31 kz_0_32
  have nf1 : fc_1 PRD (20, [4], [60, 1, 2, 122, 32, 35, 43]) ws (vs ++ [Value.int x]) := by
    refine ⟨nf_inA hl rfl, sgq_1455 ?_⟩
    · show UA (w_fi ws (n_v (vs ++ [Value.int x]) 4) 32) (w_ei ws (w_ar ws (n_v (vs ++ [Value.int x]) 4) 35)) (w_ei ws (w_ar ws (n_v (vs ++ [Value.int x]) 4) 43))
      simp only [e_4, q4]
      exact vc_Mo_shortest_7_1 (w_fi ws (n_v vs 0) 32) (w_ei ws (w_ar ws (n_v vs 0) 35)) (w_ei ws (w_ar ws (n_v vs 0) 43)) f3 kz_0_32
  have nf2 : fc_1 PRD (20, [5, 4], [30, -1, 1, 0, 0, -1, 1, 31]) ws (vs ++ [Value.int x]) := by
    refine ⟨nf_inA hl rfl, sgq_553 ?_⟩
    · show 1 * v_iv (n_v (vs ++ [Value.int x]) 5) + ((-1) * w_fi ws (n_v (vs ++ [Value.int x]) 4) 31 + 0) ≤ (-1)
      simp only [e_4, e_5, q4, q5]
      exact vc_Mo_shortest_7_2 (v_iv (n_v vs 1)) (w_fi ws (n_v vs 0) 31) k1 f4 kz_0_31
  have nf3 : fc_1 PRD (20, [6, 4], [30, -1, 1, 0, 0, -1, 1, 31]) ws (vs ++ [Value.int x]) := by
    refine ⟨nf_inA hl rfl, sgq_553 ?_⟩
    · show 1 * v_iv (n_v (vs ++ [Value.int x]) 6) + ((-1) * w_fi ws (n_v (vs ++ [Value.int x]) 4) 31 + 0) ≤ (-1)
      simp only [e_4, e_6, q4, q6]
      exact vc_Mo_shortest_7_3 (v_iv (n_v vs 2)) (w_fi ws (n_v vs 0) 31) k2 f5 kz_0_31
  have nf4 : fc_1 PRD (20, [4, 5, 6, 7], [60, 3, 6, 124, 31, 32, 49, 33, 34, 43, 44, 42, 48]) ws (vs ++ [Value.int x]) := by
    refine ⟨nf_inA hl rfl, sgq_549 ?_⟩
    · show TGI (w_fi ws (n_v (vs ++ [Value.int x]) 4) 31) (w_fi ws (n_v (vs ++ [Value.int x]) 4) 32) (w_fi ws (n_v (vs ++ [Value.int x]) 4) 49) (w_ei ws (w_ar ws (n_v (vs ++ [Value.int x]) 4) 33)) (w_ei ws (w_ar ws (n_v (vs ++ [Value.int x]) 4) 34)) (w_ei ws (w_ar ws (n_v (vs ++ [Value.int x]) 4) 43)) (w_ei ws (w_ar ws (n_v (vs ++ [Value.int x]) 4) 44)) (w_ei ws (w_ar ws (n_v (vs ++ [Value.int x]) 4) 42)) (w_ei ws (w_ar ws (n_v (vs ++ [Value.int x]) 4) 48)) (v_iv (n_v (vs ++ [Value.int x]) 5)) (v_iv (n_v (vs ++ [Value.int x]) 6)) (v_iv (n_v (vs ++ [Value.int x]) 7))
      simp only [e_4, e_5, e_6, e_7, q4, q5, q6, q7]
      exact vc_Mo_shortest_7_4 (v_iv (n_v vs 1)) (v_iv (n_v vs 2)) (v_iv (n_v vs 3)) (w_fi ws (n_v vs 0) 32) (w_ei ws (w_ar ws (n_v vs 0) 33)) (w_ei ws (w_ar ws (n_v vs 0) 34)) (w_fi ws (n_v vs 0) 31) (w_ei ws (w_ar ws (n_v vs 0) 43)) (w_ei ws (w_ar ws (n_v vs 0) 44)) (w_ei ws (w_ar ws (n_v vs 0) 42)) (w_ei ws (w_ar ws (n_v vs 0) 48)) (w_fi ws (n_v vs 0) 49) k1 k2 k3 f6 kz_0_31 kz_0_32 kz_0_49
  have nf5 : fc_1 PRD (20, [4, 5, 6, 7, 8], [60, 2, 6, 126, 32, 49, 33, 34, 43, 44, 42, 48]) ws (vs ++ [Value.int x]) := by
    refine ⟨nf_inA hl rfl, sgq_1457 ?_⟩
    · show TG4 (w_fi ws (n_v (vs ++ [Value.int x]) 4) 32) (w_fi ws (n_v (vs ++ [Value.int x]) 4) 49) (w_ei ws (w_ar ws (n_v (vs ++ [Value.int x]) 4) 33)) (w_ei ws (w_ar ws (n_v (vs ++ [Value.int x]) 4) 34)) (w_ei ws (w_ar ws (n_v (vs ++ [Value.int x]) 4) 43)) (w_ei ws (w_ar ws (n_v (vs ++ [Value.int x]) 4) 44)) (w_ei ws (w_ar ws (n_v (vs ++ [Value.int x]) 4) 42)) (w_ei ws (w_ar ws (n_v (vs ++ [Value.int x]) 4) 48)) (v_iv (n_v (vs ++ [Value.int x]) 5)) (v_iv (n_v (vs ++ [Value.int x]) 6)) (v_iv (n_v (vs ++ [Value.int x]) 7)) (v_iv (n_v (vs ++ [Value.int x]) 8))
      simp only [e_4, e_5, e_6, e_7, e_8, q4, q5, q6, q7]
      exact vc_Mo_shortest_7_5 (v_iv (n_v vs 1)) (v_iv (n_v vs 2)) (v_iv (n_v vs 3)) (v_iv (n_v vs 8)) (v_iv (n_v vs 9)) (v_iv (n_v vs 11)) (w_fi ws (n_v vs 0) 32) (w_ei ws (w_ar ws (n_v vs 0) 33)) (w_ei ws (w_ar ws (n_v vs 0) 34)) (w_ei ws (w_ar ws (n_v vs 0) 43)) (w_ei ws (w_ar ws (n_v vs 0) 44)) (w_ei ws (w_ar ws (n_v vs 0) 42)) (w_ei ws (w_ar ws (n_v vs 0) 48)) (w_fi ws (n_v vs 0) 49) k1 k2 k3 k8 k9 k11 d0 g1 f7 kz_0_32 kz_0_49
  have nf6 : fc_1 PRD (20, [4, 8, 12], [60, 1, 1, 127, 31, 48]) ws (vs ++ [Value.int x]) := by
    refine ⟨nf_inA hl rfl, sgq_1458 ?_⟩
    · show SMM (w_fi ws (n_v (vs ++ [Value.int x]) 4) 31) (w_ei ws (w_ar ws (n_v (vs ++ [Value.int x]) 4) 48)) (v_iv (n_v (vs ++ [Value.int x]) 8)) (v_iv (n_v (vs ++ [Value.int x]) 12))
      simp only [e_4, e_8, e_12, q4]
      exact vc_Mo_shortest_7_6 (v_iv (n_v vs 8)) (v_iv (n_v vs 10)) (w_fi ws (n_v vs 0) 31) (w_ei ws (w_ar ws (n_v vs 0) 48)) (v_iv (Value.int x)) k8 k10 f8 kz_0_31 ex2
  have nf7 : fc_1 PRD (24, [0, 4], []) ws (vs ++ [Value.int x]) := by
    refine ⟨nf_inA hl rfl, sgq_5 ?_⟩
    · show n_v (vs ++ [Value.int x]) 0 = n_v (vs ++ [Value.int x]) 4
      first | rfl | simp only [e_0, e_4, q4, q5, q6, q7]
  have nf8 : fc_1 PRD (24, [1, 5], []) ws (vs ++ [Value.int x]) := by
    refine ⟨nf_inA hl rfl, sgq_5 ?_⟩
    · show n_v (vs ++ [Value.int x]) 1 = n_v (vs ++ [Value.int x]) 5
      first | rfl | simp only [e_1, e_5, q4, q5, q6, q7]
  have nf9 : fc_1 PRD (24, [2, 6], []) ws (vs ++ [Value.int x]) := by
    refine ⟨nf_inA hl rfl, sgq_5 ?_⟩
    · show n_v (vs ++ [Value.int x]) 2 = n_v (vs ++ [Value.int x]) 6
      first | rfl | simp only [e_2, e_6, q4, q5, q6, q7]
  have nf10 : fc_1 PRD (24, [3, 7], []) ws (vs ++ [Value.int x]) := by
    refine ⟨nf_inA hl rfl, sgq_5 ?_⟩
    · show n_v (vs ++ [Value.int x]) 3 = n_v (vs ++ [Value.int x]) 7
      first | rfl | simp only [e_3, e_7, q4, q5, q6, q7]
  obtain ⟨x0, e0, _, _⟩ := tv_int t10 rfl
  have e1 : v_iv (n_v vs 10) = x0.toInt := by rw [e0]; rfl
  have ho : sy_ofs (vs ++ [Value.int x]) (12, 10, -1000000000000, -1) := by
    refine ⟨x, x0, by rw [List.getElem?_append_right (by rw [hl]; decide), hl]; rfl, ?_, ?_, ?_⟩
    · rw [List.getElem?_append_left (by rw [hl]; decide)]; exact n_v_some (by rw [hl]; decide) e0
    · show x0.toInt + (-1000000000000) ≤ x.toInt; omega
    · show x.toInt ≤ x0.toInt + (-1); omega
  exact ⟨(fun _ h => (by cases h)), [Value.int x], ag_one hx, List.forall_mem_cons.mpr ⟨⟨show (20 : Nat) < 100 from by decide, nf0⟩, List.forall_mem_cons.mpr ⟨⟨show (20 : Nat) < 100 from by decide, nf1⟩, List.forall_mem_cons.mpr ⟨⟨show (20 : Nat) < 100 from by decide, nf2⟩, List.forall_mem_cons.mpr ⟨⟨show (20 : Nat) < 100 from by decide, nf3⟩, List.forall_mem_cons.mpr ⟨⟨show (20 : Nat) < 100 from by decide, nf4⟩, List.forall_mem_cons.mpr ⟨⟨show (20 : Nat) < 100 from by decide, nf5⟩, List.forall_mem_cons.mpr ⟨⟨show (20 : Nat) < 100 from by decide, nf6⟩, List.forall_mem_cons.mpr ⟨⟨show (24 : Nat) < 100 from by decide, nf7⟩, List.forall_mem_cons.mpr ⟨⟨show (24 : Nat) < 100 from by decide, nf8⟩, List.forall_mem_cons.mpr ⟨⟨show (24 : Nat) < 100 from by decide, nf9⟩, List.forall_mem_cons.mpr ⟨⟨show (24 : Nat) < 100 from by decide, nf10⟩, (fun _ h => (by cases h))⟩⟩⟩⟩⟩⟩⟩⟩⟩⟩⟩, List.forall_mem_cons.mpr ⟨ho, (fun _ h => (by cases h))⟩⟩
set_option maxHeartbeats 4000000 in
theorem vc_Mo_shortest_8_0 (x9 : Int) (x11 : Int) (pm_0 : Int) (k9 : 0 ≤ x9 ∧ x9 ≤ 79) (k11 : 1 ≤ x11 ∧ x11 ≤ 80) (d0 : x11 + (-4294967296) ≤ x9 ∧ x9 ≤ x11 + (-1)) (g1 : x11 = pm_0) (kz_0_32 : 0 ≤ pm_0 ∧ pm_0 ≤ 80) : 1 * x9 + ((-1) * pm_0 + 0) ≤ (-1) := by
  first | omega
def o_Mo_shortest_8 : or_T := (64, 12, [(0, (2, 0, 0, [165])), (9, (0, 0, 79, [])), (11, (0, 1, 80, []))], [(9, [11, 4], [32]), (24, [0, 4], [])], [], [], [(20, [9, 4], [30, -1, 1, 0, 0, -1, 1, 32])], [], [(9, 11, -4294967296, -1)])
theorem oo_Mo_shortest_8 {kA : Nat → ClassId} : or_ok PRD kA GG o_Mo_shortest_8 := by
  refine or_mk fun A ta ws vs hD hth hl => ?_
  intro t0 r0 t9 k9 t11 k11 d0 f1 f9
  replace f1 := shm_525 f1
  replace f9 := shm_5 f9
  have q4 : n_v vs 4 = n_v vs 0 := f9.symm
  simp only [q4] at f1
  have g1 : v_iv (n_v vs 11) = w_fi ws (n_v vs 0) 32 := congrArg v_iv f1
  have kz_0_32 := fdq_140 hD hth r0
  have nf0 : fc_1 PRD (20, [9, 4], [30, -1, 1, 0, 0, -1, 1, 32]) ws (vs) := by
    refine ⟨nf_in hl rfl, sgq_975 ?_⟩
    · show 1 * v_iv (n_v vs 9) + ((-1) * w_fi ws (n_v vs 4) 32 + 0) ≤ (-1)
      rw [q4]
      exact vc_Mo_shortest_8_0 (v_iv (n_v vs 9)) (v_iv (n_v vs 11)) (w_fi ws (n_v vs 0) 32) k9 k11 d0 g1 kz_0_32
  refine ⟨(fun _ h => (by cases h)), [], trivial, ?_, (fun _ h => (by cases h))⟩
  rw [List.append_nil]
  exact List.forall_mem_cons.mpr ⟨⟨show (20 : Nat) < 100 from by decide, nf0⟩, (fun _ h => (by cases h))⟩
set_option maxHeartbeats 4000000 in
theorem vc_Mo_shortest_9_0 (x1 : Int) (x2 : Int) (x3 : Int) (x8 : Int) (x9 : Int) (x12 : Int) (x13 : Int) (drawnEdge_0 : Int → Int) (pieceOf_0 : Int → Int) (onlyPiece_0 : Int) (pt_0 : Int → Int) (ph_0 : Int → Int) (drawnNode_0 : Int → Int) (toGoal_0 : Int → Int) (k1 : 0 ≤ x1 ∧ x1 ≤ 24) (k2 : 0 ≤ x2 ∧ x2 ≤ 24) (k3 : 0 ≤ x3 ∧ x3 ≤ 1) (k8 : 0 ≤ x8 ∧ x8 ≤ 1) (k9 : 0 ≤ x9 ∧ x9 ≤ 79) (k12 : 0 ≤ x12 ∧ x12 ≤ 0) (k13 : 1 ≤ x13 ∧ x13 ≤ 80) (d0 : x9 + 1 ≤ x13 ∧ x13 ≤ x9 + 1) (f2 : MGP (onlyPiece_0) (drawnEdge_0) (pieceOf_0) (x9) (x12)) (f11 : TG3 (onlyPiece_0) (pt_0) (ph_0) (drawnEdge_0) (pieceOf_0) (drawnNode_0) (toGoal_0) (x1) (x2) (x3) (x9) (x8) (x2) (x2)) (kz_0_49 : (-1) ≤ onlyPiece_0 ∧ onlyPiece_0 ≤ 79) : TG3 (onlyPiece_0) (pt_0) (ph_0) (drawnEdge_0) (pieceOf_0) (drawnNode_0) (toGoal_0) (x1) (x2) (x3) (x13) (x8) (x2) (x2) := by
  first
    | (intro h; exfalso; omega)
    | (intro h; exact ⟨fun e a b => by exfalso; omega, fun _ => by omega⟩)
    | (have c := ‹CLO _ _ _ _ _ _ _ _ _ _ _ _ _ _ _ _ _ _ _›
       have c1 := c.1 (by omega)
       intro h
       have t := c1.1 (by omega)
       refine ⟨fun e a b m => ?_, fun _ => by omega⟩
       by_cases q : e = x9
       · subst q
         refine ⟨?_, ?_⟩
         · have := t.2
           rw [show x28 = pt_0 e by omega, show x29 = ph_0 e by omega] at this; exact this
         · have := c1.2.1
           rw [show x24 = ph_0 e by omega, show x25 = pt_0 e by omega] at this; exact this
       · exact t.1 e a (by omega) m)
    | (have h := ‹TG3 _ _ _ _ _ _ _ _ _ _ _ _ _ _›
       have mg := ‹MGP _ _ _ _ _›
       intro h0
       have h1 := h h0
       refine ⟨fun e a b c => ?_, h1.2⟩
       by_cases q : e = x9
       · subst q; exact absurd (mg.mpr c) (by omega)
       · exact h1.1 e a (by omega) c)
def o_Mo_shortest_9 : or_T := (52, 14, [(0, (2, 0, 0, [165])), (1, (0, 0, 24, [])), (2, (0, 0, 24, [])), (3, (0, 0, 1, [])), (8, (0, 0, 1, [])), (9, (0, 0, 79, [])), (12, (0, 0, 0, [])), (13, (0, 1, 80, []))], [(20, [4, 9, 12], [60, 1, 2, 120, 49, 43, 44]), (20, [4, 5, 6, 7, 9, 8, 6, 6], [60, 1, 6, 125, 49, 33, 34, 43, 44, 42, 48]), (24, [0, 4], []), (24, [1, 5], []), (24, [2, 6], []), (24, [3, 7], [])], [], [], [(20, [4, 5, 6, 7, 13, 8, 6, 6], [60, 1, 6, 125, 49, 33, 34, 43, 44, 42, 48])], [], [(13, 9, 1, 1)])
theorem oo_Mo_shortest_9 {kA : Nat → ClassId} : or_ok PRD kA GG o_Mo_shortest_9 := by
  refine or_mk fun A ta ws vs hD hth hl => ?_
  intro t0 r0 t1 k1 t2 k2 t3 k3 t8 k8 t9 k9 t12 k12 t13 k13 d0 f2 f11 f13 f14 f15 f16
  replace f2 := shm_638 f2
  replace f11 := shm_1464 f11
  replace f13 := shm_5 f13
  replace f14 := shm_5 f14
  replace f15 := shm_5 f15
  replace f16 := shm_5 f16
  have q4 : n_v vs 4 = n_v vs 0 := f13.symm
  have q5 : n_v vs 5 = n_v vs 1 := f14.symm
  have q6 : n_v vs 6 = n_v vs 2 := f15.symm
  have q7 : n_v vs 7 = n_v vs 3 := f16.symm
  simp only [q4, q5, q6, q7] at f2 f11
  have kz_0_49 := fdq_146 hD hth r0
  have nf0 : fc_1 PRD (20, [4, 5, 6, 7, 13, 8, 6, 6], [60, 1, 6, 125, 49, 33, 34, 43, 44, 42, 48]) ws (vs) := by
    refine ⟨nf_in hl rfl, sgq_1464 ?_⟩
    · show TG3 (w_fi ws (n_v vs 4) 49) (w_ei ws (w_ar ws (n_v vs 4) 33)) (w_ei ws (w_ar ws (n_v vs 4) 34)) (w_ei ws (w_ar ws (n_v vs 4) 43)) (w_ei ws (w_ar ws (n_v vs 4) 44)) (w_ei ws (w_ar ws (n_v vs 4) 42)) (w_ei ws (w_ar ws (n_v vs 4) 48)) (v_iv (n_v vs 5)) (v_iv (n_v vs 6)) (v_iv (n_v vs 7)) (v_iv (n_v vs 13)) (v_iv (n_v vs 8)) (v_iv (n_v vs 6)) (v_iv (n_v vs 6))
      simp only [q4, q5, q6, q7]
      exact vc_Mo_shortest_9_0 (v_iv (n_v vs 1)) (v_iv (n_v vs 2)) (v_iv (n_v vs 3)) (v_iv (n_v vs 8)) (v_iv (n_v vs 9)) (v_iv (n_v vs 12)) (v_iv (n_v vs 13)) (w_ei ws (w_ar ws (n_v vs 0) 43)) (w_ei ws (w_ar ws (n_v vs 0) 44)) (w_fi ws (n_v vs 0) 49) (w_ei ws (w_ar ws (n_v vs 0) 33)) (w_ei ws (w_ar ws (n_v vs 0) 34)) (w_ei ws (w_ar ws (n_v vs 0) 42)) (w_ei ws (w_ar ws (n_v vs 0) 48)) k1 k2 k3 k8 k9 k12 k13 d0 f2 f11 kz_0_49
  refine ⟨(fun _ h => (by cases h)), [], trivial, ?_, (fun _ h => (by cases h))⟩
  rw [List.append_nil]
  exact List.forall_mem_cons.mpr ⟨⟨show (20 : Nat) < 100 from by decide, nf0⟩, (fun _ h => (by cases h))⟩
set_option maxHeartbeats 4000000 in
theorem vc_Mo_shortest_10_0 (x9 : Int) (x11 : Int) (ph_0 : Int → Int) (pt_0 : Int → Int) (pm_0 : Int) (pn_0 : Int) (gx : Int) (k9 : 0 ≤ x9 ∧ x9 ≤ 79) (k11 : 1 ≤ x11 ∧ x11 ≤ 80) (d0 : x11 + (-4294967296) ≤ x9 ∧ x9 ≤ x11 + (-1)) (g8 : x11 = pm_0) (f9 : GOK (pn_0) (pm_0) (pt_0) (ph_0)) (kz_0_31 : 0 ≤ pn_0 ∧ pn_0 ≤ 25) (kz_0_32 : 0 ≤ pm_0 ∧ pm_0 ≤ 80) (ex2 : gx = x9) : 1 * gx + ((-1) * x9 + 0) ≤ 0 := by
  have g := ‹GOK _ _ _ _›.1 x9 (by omega) (by omega)
  omega
set_option maxHeartbeats 4000000 in
theorem vc_Mo_shortest_10_1 (x9 : Int) (x11 : Int) (ph_0 : Int → Int) (pt_0 : Int → Int) (pm_0 : Int) (pn_0 : Int) (gx : Int) (k9 : 0 ≤ x9 ∧ x9 ≤ 79) (k11 : 1 ≤ x11 ∧ x11 ≤ 80) (d0 : x11 + (-4294967296) ≤ x9 ∧ x9 ≤ x11 + (-1)) (g8 : x11 = pm_0) (f9 : GOK (pn_0) (pm_0) (pt_0) (ph_0)) (kz_0_31 : 0 ≤ pn_0 ∧ pn_0 ≤ 25) (kz_0_32 : 0 ≤ pm_0 ∧ pm_0 ≤ 80) (ex2 : gx = x9) : (-1) * gx + (1 * x9 + 0) ≤ 0 := by
  have g := ‹GOK _ _ _ _›.1 x9 (by omega) (by omega)
  omega
set_option maxHeartbeats 4000000 in
theorem vc_Mo_shortest_10_2 (x8 : Int) (x9 : Int) (x11 : Int) (ph_0 : Int → Int) (pt_0 : Int → Int) (pm_0 : Int) (pn_0 : Int) (gx : Int) (gy : Int) (k8 : 0 ≤ x8 ∧ x8 ≤ 1) (k9 : 0 ≤ x9 ∧ x9 ≤ 79) (k11 : 1 ≤ x11 ∧ x11 ≤ 80) (d0 : x11 + (-4294967296) ≤ x9 ∧ x9 ≤ x11 + (-1)) (g8 : x11 = pm_0) (f9 : GOK (pn_0) (pm_0) (pt_0) (ph_0)) (kz_0_31 : 0 ≤ pn_0 ∧ pn_0 ≤ 25) (kz_0_32 : 0 ≤ pm_0 ∧ pm_0 ≤ 80) (ex2 : gx = x9) (ey2 : gy = x8) : 1 * gy + ((-1) * x8 + 0) ≤ 0 := by
  have g := ‹GOK _ _ _ _›.1 x9 (by omega) (by omega)
  omega
set_option maxHeartbeats 4000000 in
theorem vc_Mo_shortest_10_3 (x8 : Int) (x9 : Int) (x11 : Int) (ph_0 : Int → Int) (pt_0 : Int → Int) (pm_0 : Int) (pn_0 : Int) (gx : Int) (gy : Int) (k8 : 0 ≤ x8 ∧ x8 ≤ 1) (k9 : 0 ≤ x9 ∧ x9 ≤ 79) (k11 : 1 ≤ x11 ∧ x11 ≤ 80) (d0 : x11 + (-4294967296) ≤ x9 ∧ x9 ≤ x11 + (-1)) (g8 : x11 = pm_0) (f9 : GOK (pn_0) (pm_0) (pt_0) (ph_0)) (kz_0_31 : 0 ≤ pn_0 ∧ pn_0 ≤ 25) (kz_0_32 : 0 ≤ pm_0 ∧ pm_0 ≤ 80) (ex2 : gx = x9) (ey2 : gy = x8) : (-1) * gy + (1 * x8 + 0) ≤ 0 := by
  have g := ‹GOK _ _ _ _›.1 x9 (by omega) (by omega)
  omega
set_option maxHeartbeats 4000000 in
theorem vc_Mo_shortest_10_4 (x2 : Int) (x6 : Int) (x9 : Int) (x11 : Int) (ph_0 : Int → Int) (pt_0 : Int → Int) (pm_0 : Int) (pn_0 : Int) (gx : Int) (gu : Int) (k2 : 0 ≤ x2 ∧ x2 ≤ 24) (k6 : 0 ≤ x6 ∧ x6 ≤ 24) (k9 : 0 ≤ x9 ∧ x9 ≤ 79) (k11 : 1 ≤ x11 ∧ x11 ≤ 80) (d0 : x11 + (-4294967296) ≤ x9 ∧ x9 ≤ x11 + (-1)) (d2 : x6 + (-4294967296) ≤ x2 ∧ x2 ≤ x6 + 0) (d5 : x2 + (-4294967296) ≤ x6 ∧ x6 ≤ x2 + 0) (g8 : x11 = pm_0) (f9 : GOK (pn_0) (pm_0) (pt_0) (ph_0)) (kz_0_31 : 0 ≤ pn_0 ∧ pn_0 ≤ 25) (kz_0_32 : 0 ≤ pm_0 ∧ pm_0 ≤ 80) (ex2 : gx = x9) (eu2 : gu = x2) : 1 * gu + ((-1) * x2 + 0) ≤ 0 := by
  have g := ‹GOK _ _ _ _›.1 x9 (by omega) (by omega)
  omega
set_option maxHeartbeats 4000000 in
theorem vc_Mo_shortest_10_5 (x2 : Int) (x6 : Int) (x9 : Int) (x11 : Int) (ph_0 : Int → Int) (pt_0 : Int → Int) (pm_0 : Int) (pn_0 : Int) (gx : Int) (gu : Int) (k2 : 0 ≤ x2 ∧ x2 ≤ 24) (k6 : 0 ≤ x6 ∧ x6 ≤ 24) (k9 : 0 ≤ x9 ∧ x9 ≤ 79) (k11 : 1 ≤ x11 ∧ x11 ≤ 80) (d0 : x11 + (-4294967296) ≤ x9 ∧ x9 ≤ x11 + (-1)) (d2 : x6 + (-4294967296) ≤ x2 ∧ x2 ≤ x6 + 0) (d5 : x2 + (-4294967296) ≤ x6 ∧ x6 ≤ x2 + 0) (g8 : x11 = pm_0) (f9 : GOK (pn_0) (pm_0) (pt_0) (ph_0)) (kz_0_31 : 0 ≤ pn_0 ∧ pn_0 ≤ 25) (kz_0_32 : 0 ≤ pm_0 ∧ pm_0 ≤ 80) (ex2 : gx = x9) (eu2 : gu = x2) : (-1) * gu + (1 * x2 + 0) ≤ 0 := by
  have g := ‹GOK _ _ _ _›.1 x9 (by omega) (by omega)
  omega
set_option maxHeartbeats 4000000 in
theorem vc_Mo_shortest_10_6 (x2 : Int) (x6 : Int) (x9 : Int) (x11 : Int) (ph_0 : Int → Int) (pt_0 : Int → Int) (pm_0 : Int) (pn_0 : Int) (gx : Int) (gu : Int) (gw : Int) (k2 : 0 ≤ x2 ∧ x2 ≤ 24) (k6 : 0 ≤ x6 ∧ x6 ≤ 24) (k9 : 0 ≤ x9 ∧ x9 ≤ 79) (k11 : 1 ≤ x11 ∧ x11 ≤ 80) (d0 : x11 + (-4294967296) ≤ x9 ∧ x9 ≤ x11 + (-1)) (d2 : x6 + (-4294967296) ≤ x2 ∧ x2 ≤ x6 + 0) (d5 : x2 + (-4294967296) ≤ x6 ∧ x6 ≤ x2 + 0) (g8 : x11 = pm_0) (f9 : GOK (pn_0) (pm_0) (pt_0) (ph_0)) (kz_0_31 : 0 ≤ pn_0 ∧ pn_0 ≤ 25) (kz_0_32 : 0 ≤ pm_0 ∧ pm_0 ≤ 80) (ex2 : gx = x9) (eu2 : gu = x2) (ew2 : gw = x2) : 1 * gw + ((-1) * x2 + 0) ≤ 0 := by
  have g := ‹GOK _ _ _ _›.1 x9 (by omega) (by omega)
  omega
set_option maxHeartbeats 4000000 in
theorem vc_Mo_shortest_10_7 (x2 : Int) (x6 : Int) (x9 : Int) (x11 : Int) (ph_0 : Int → Int) (pt_0 : Int → Int) (pm_0 : Int) (pn_0 : Int) (gx : Int) (gu : Int) (gw : Int) (k2 : 0 ≤ x2 ∧ x2 ≤ 24) (k6 : 0 ≤ x6 ∧ x6 ≤ 24) (k9 : 0 ≤ x9 ∧ x9 ≤ 79) (k11 : 1 ≤ x11 ∧ x11 ≤ 80) (d0 : x11 + (-4294967296) ≤ x9 ∧ x9 ≤ x11 + (-1)) (d2 : x6 + (-4294967296) ≤ x2 ∧ x2 ≤ x6 + 0) (d5 : x2 + (-4294967296) ≤ x6 ∧ x6 ≤ x2 + 0) (g8 : x11 = pm_0) (f9 : GOK (pn_0) (pm_0) (pt_0) (ph_0)) (kz_0_31 : 0 ≤ pn_0 ∧ pn_0 ≤ 25) (kz_0_32 : 0 ≤ pm_0 ∧ pm_0 ≤ 80) (ex2 : gx = x9) (eu2 : gu = x2) (ew2 : gw = x2) : (-1) * gw + (1 * x2 + 0) ≤ 0 := by
  have g := ‹GOK _ _ _ _›.1 x9 (by omega) (by omega)
  omega
set_option maxHeartbeats 4000000 in
theorem vc_Mo_shortest_10_8 (x9 : Int) (x10 : Int) (x11 : Int) (ph_0 : Int → Int) (pt_0 : Int → Int) (pm_0 : Int) (pn_0 : Int) (gx : Int) (gc : Int) (k9 : 0 ≤ x9 ∧ x9 ≤ 79) (k10 : (-2) ≤ x10 ∧ x10 ≤ 26000060) (k11 : 1 ≤ x11 ∧ x11 ≤ 80) (d0 : x11 + (-4294967296) ≤ x9 ∧ x9 ≤ x11 + (-1)) (g8 : x11 = pm_0) (f9 : GOK (pn_0) (pm_0) (pt_0) (ph_0)) (kz_0_31 : 0 ≤ pn_0 ∧ pn_0 ≤ 25) (kz_0_32 : 0 ≤ pm_0 ∧ pm_0 ≤ 80) (ex2 : gx = x9) (ec2 : gc = x10) : 1 * gc + ((-1) * x10 + 0) ≤ 0 := by
  have g := ‹GOK _ _ _ _›.1 x9 (by omega) (by omega)
  omega
set_option maxHeartbeats 4000000 in
theorem vc_Mo_shortest_10_9 (x9 : Int) (x10 : Int) (x11 : Int) (ph_0 : Int → Int) (pt_0 : Int → Int) (pm_0 : Int) (pn_0 : Int) (gx : Int) (gc : Int) (k9 : 0 ≤ x9 ∧ x9 ≤ 79) (k10 : (-2) ≤ x10 ∧ x10 ≤ 26000060) (k11 : 1 ≤ x11 ∧ x11 ≤ 80) (d0 : x11 + (-4294967296) ≤ x9 ∧ x9 ≤ x11 + (-1)) (g8 : x11 = pm_0) (f9 : GOK (pn_0) (pm_0) (pt_0) (ph_0)) (kz_0_31 : 0 ≤ pn_0 ∧ pn_0 ≤ 25) (kz_0_32 : 0 ≤ pm_0 ∧ pm_0 ≤ 80) (ex2 : gx = x9) (ec2 : gc = x10) : (-1) * gc + (1 * x10 + 0) ≤ 0 := by
  have g := ‹GOK _ _ _ _›.1 x9 (by omega) (by omega)
  omega
set_option maxHeartbeats 4000000 in
theorem vc_Mo_shortest_10_10 (x1 : Int) (x2 : Int) (x3 : Int) (ph_0 : Int → Int) (pt_0 : Int → Int) (drawnEdge_0 : Int → Int) (pieceOf_0 : Int → Int) (onlyPiece_0 : Int) (pm_0 : Int) (pn_0 : Int) (drawnNode_0 : Int → Int) (toGoal_0 : Int → Int) (k1 : 0 ≤ x1 ∧ x1 ≤ 24) (k2 : 0 ≤ x2 ∧ x2 ≤ 24) (k3 : 0 ≤ x3 ∧ x3 ≤ 1) (f13 : TGI (pn_0) (pm_0) (onlyPiece_0) (pt_0) (ph_0) (drawnEdge_0) (pieceOf_0) (drawnNode_0) (toGoal_0) (x1) (x2) (x3)) (kz_0_31 : 0 ≤ pn_0 ∧ pn_0 ≤ 25) (kz_0_32 : 0 ≤ pm_0 ∧ pm_0 ≤ 80) (kz_0_49 : (-1) ≤ onlyPiece_0 ∧ onlyPiece_0 ≤ 79) : TGI (pn_0) (pm_0) (onlyPiece_0) (pt_0) (ph_0) (drawnEdge_0) (pieceOf_0) (drawnNode_0) (toGoal_0) (x1) (x2) (x3) := by
  first | assumption
set_option maxHeartbeats 4000000 in
theorem vc_Mo_shortest_10_11 (x1 : Int) (x2 : Int) (x3 : Int) (x8 : Int) (x9 : Int) (ph_0 : Int → Int) (pt_0 : Int → Int) (drawnEdge_0 : Int → Int) (pieceOf_0 : Int → Int) (onlyPiece_0 : Int) (drawnNode_0 : Int → Int) (toGoal_0 : Int → Int) (gx : Int) (gy : Int) (gu : Int) (gw : Int) (k1 : 0 ≤ x1 ∧ x1 ≤ 24) (k2 : 0 ≤ x2 ∧ x2 ≤ 24) (k3 : 0 ≤ x3 ∧ x3 ≤ 1) (k8 : 0 ≤ x8 ∧ x8 ≤ 1) (k9 : 0 ≤ x9 ∧ x9 ≤ 79) (f14 : TG3 (onlyPiece_0) (pt_0) (ph_0) (drawnEdge_0) (pieceOf_0) (drawnNode_0) (toGoal_0) (x1) (x2) (x3) (x9) (x8) (x2) (x2)) (kz_0_49 : (-1) ≤ onlyPiece_0 ∧ onlyPiece_0 ≤ 79) (ex2 : gx = x9) (ey2 : gy = x8) (eu2 : gu = x2) (ew2 : gw = x2) : TG3 (onlyPiece_0) (pt_0) (ph_0) (drawnEdge_0) (pieceOf_0) (drawnNode_0) (toGoal_0) (x1) (x2) (x3) (gx) (gy) (gu) (gw) := by
  rw [ex2, ey2, eu2, ew2]; assumption
set_option maxHeartbeats 4000000 in
theorem vc_Mo_shortest_10_12 (x8 : Int) (x10 : Int) (pn_0 : Int) (toGoal_0 : Int → Int) (gy : Int) (gc : Int) (k8 : 0 ≤ x8 ∧ x8 ≤ 1) (k10 : (-2) ≤ x10 ∧ x10 ≤ 26000060) (f15 : SMN (pn_0) (toGoal_0) (x8) (x10)) (kz_0_31 : 0 ≤ pn_0 ∧ pn_0 ≤ 25) (ey2 : gy = x8) (ec2 : gc = x10) : SMN (pn_0) (toGoal_0) (gy) (gc) := by
  rw [ey2, ec2]; assumption
set_option maxHeartbeats 4000000 in
theorem vc_Mo_shortest_10_13 (x9 : Int) (x11 : Int) (x12 : Int) (x14 : Int) (x16 : Int) (ph_0 : Int → Int) (pt_0 : Int → Int) (drawnEdge_0 : Int → Int) (pieceOf_0 : Int → Int) (onlyPiece_0 : Int) (pm_0 : Int) (gx : Int) (k9 : 0 ≤ x9 ∧ x9 ≤ 79) (k11 : 1 ≤ x11 ∧ x11 ≤ 80) (k12 : 1 ≤ x12 ∧ x12 ≤ 1) (k14 : 0 ≤ x14 ∧ x14 ≤ 24) (k16 : 0 ≤ x16 ∧ x16 ≤ 24) (d0 : x11 + (-4294967296) ≤ x9 ∧ x9 ≤ x11 + (-1)) (h0 : x16 = ph_0 (x9)) (h2 : x14 = pt_0 (x9)) (f4 : x12 ≠ 0) (f5 : MGP (onlyPiece_0) (drawnEdge_0) (pieceOf_0) (x9) (x12)) (g8 : x11 = pm_0) (kz_0_32 : 0 ≤ pm_0 ∧ pm_0 ≤ 80) (kz_0_49 : (-1) ≤ onlyPiece_0 ∧ onlyPiece_0 ≤ 79) (ex2 : gx = x9) : ARC (pm_0) (onlyPiece_0) (pt_0) (ph_0) (drawnEdge_0) (pieceOf_0) (x14) (x16) := by
  exact ⟨x9, by omega, by omega, ‹MGP _ _ _ _ _›.mp (by omega), Or.inl ⟨by omega, by omega⟩⟩
set_option maxHeartbeats 4000000 in
theorem vc_Mo_shortest_10_14 (x9 : Int) (x11 : Int) (x14 : Int) (ph_0 : Int → Int) (pt_0 : Int → Int) (pm_0 : Int) (pn_0 : Int) (gx : Int) (k9 : 0 ≤ x9 ∧ x9 ≤ 79) (k11 : 1 ≤ x11 ∧ x11 ≤ 80) (k14 : 0 ≤ x14 ∧ x14 ≤ 24) (d0 : x11 + (-4294967296) ≤ x9 ∧ x9 ≤ x11 + (-1)) (h2 : x14 = pt_0 (x9)) (g8 : x11 = pm_0) (f9 : GOK (pn_0) (pm_0) (pt_0) (ph_0)) (kz_0_31 : 0 ≤ pn_0 ∧ pn_0 ≤ 25) (kz_0_32 : 0 ≤ pm_0 ∧ pm_0 ≤ 80) (ex2 : gx = x9) : 1 * x14 + ((-1) * pn_0 + 0) ≤ (-1) := by
  have g := ‹GOK _ _ _ _›.1 x9 (by omega) (by omega)
  omega
set_option maxHeartbeats 4000000 in
theorem vc_Mo_shortest_10_15 (x9 : Int) (x11 : Int) (x16 : Int) (ph_0 : Int → Int) (pt_0 : Int → Int) (pm_0 : Int) (pn_0 : Int) (gx : Int) (k9 : 0 ≤ x9 ∧ x9 ≤ 79) (k11 : 1 ≤ x11 ∧ x11 ≤ 80) (k16 : 0 ≤ x16 ∧ x16 ≤ 24) (d0 : x11 + (-4294967296) ≤ x9 ∧ x9 ≤ x11 + (-1)) (h0 : x16 = ph_0 (x9)) (g8 : x11 = pm_0) (f9 : GOK (pn_0) (pm_0) (pt_0) (ph_0)) (kz_0_31 : 0 ≤ pn_0 ∧ pn_0 ≤ 25) (kz_0_32 : 0 ≤ pm_0 ∧ pm_0 ≤ 80) (ex2 : gx = x9) : 1 * x16 + ((-1) * pn_0 + 0) ≤ (-1) := by
  have g := ‹GOK _ _ _ _›.1 x9 (by omega) (by omega)
  omega
set_option maxHeartbeats 4000000 in
theorem vc_Mo_shortest_10_16 (x9 : Int) (x11 : Int) (x14 : Int) (ph_0 : Int → Int) (pt_0 : Int → Int) (pm_0 : Int) (pn_0 : Int) (gx : Int) (k9 : 0 ≤ x9 ∧ x9 ≤ 79) (k11 : 1 ≤ x11 ∧ x11 ≤ 80) (k14 : 0 ≤ x14 ∧ x14 ≤ 24) (d0 : x11 + (-4294967296) ≤ x9 ∧ x9 ≤ x11 + (-1)) (h2 : x14 = pt_0 (x9)) (g8 : x11 = pm_0) (f9 : GOK (pn_0) (pm_0) (pt_0) (ph_0)) (kz_0_31 : 0 ≤ pn_0 ∧ pn_0 ≤ 25) (kz_0_32 : 0 ≤ pm_0 ∧ pm_0 ≤ 80) (ex2 : gx = x9) : x14 = pt_0 (x9) := by
  have g := ‹GOK _ _ _ _›.1 x9 (by omega) (by omega)
  omega
set_option maxHeartbeats 4000000 in
theorem vc_Mo_shortest_10_17 (x9 : Int) (x11 : Int) (x16 : Int) (ph_0 : Int → Int) (pt_0 : Int → Int) (pm_0 : Int) (pn_0 : Int) (gx : Int) (k9 : 0 ≤ x9 ∧ x9 ≤ 79) (k11 : 1 ≤ x11 ∧ x11 ≤ 80) (k16 : 0 ≤ x16 ∧ x16 ≤ 24) (d0 : x11 + (-4294967296) ≤ x9 ∧ x9 ≤ x11 + (-1)) (h0 : x16 = ph_0 (x9)) (g8 : x11 = pm_0) (f9 : GOK (pn_0) (pm_0) (pt_0) (ph_0)) (kz_0_31 : 0 ≤ pn_0 ∧ pn_0 ≤ 25) (kz_0_32 : 0 ≤ pm_0 ∧ pm_0 ≤ 80) (ex2 : gx = x9) : x16 = ph_0 (x9) := by
  have g := ‹GOK _ _ _ _›.1 x9 (by omega) (by omega)
  omega
def o_Mo_shortest_10 : or_T := (91, 17, [(0, (2, 0, 0, [165])), (1, (0, 0, 24, [])), (2, (0, 0, 24, [])), (3, (0, 0, 1, [])), (6, (0, 0, 24, [])), (8, (0, 0, 1, [])), (9, (0, 0, 79, [])), (10, (0, -2, 26000060, [])), (11, (0, 1, 80, [])), (12, (0, 1, 1, [])), (14, (0, 0, 24, [])), (16, (0, 0, 24, []))], [(10, [16, 15, 9], []), (9, [15, 4], [34]), (10, [14, 13, 9], []), (9, [13, 4], [33]), (8, [12], [1]), (20, [4, 9, 12], [60, 1, 2, 120, 49, 43, 44]), (9, [11, 4], [32]), (20, [4], [60, 2, 2, 75, 31, 32, 33, 34]), (20, [4, 5, 6, 7], [60, 3, 6, 124, 31, 32, 49, 33, 34, 43, 44, 42, 48]), (20, [4, 5, 6, 7, 9, 8, 6, 6], [60, 1, 6, 125, 49, 33, 34, 43, 44, 42, 48]), (20, [4, 8, 10], [60, 1, 1, 128, 31, 48]), (24, [0, 4], []), (24, [1, 5], []), (24, [2, 6], []), (24, [3, 7], [])], [], [(0, 0, 80, []), (0, 0, 1, []), (0, 0, 24, []), (0, 0, 24, []), (0, -2, 26000060, [])], [(23, [17, 9], [0, 1, -1]), (23, [17, 9], [0, -1, 1]), (23, [18, 8], [0, 1, -1]), (23, [18, 8], [0, -1, 1]), (23, [19, 6], [0, 1, -1]), (23, [19, 6], [0, -1, 1]), (23, [20, 6], [0, 1, -1]), (23, [20, 6], [0, -1, 1]), (23, [21, 10], [0, 1, -1]), (23, [21, 10], [0, -1, 1]), (20, [4, 5, 6, 7], [60, 3, 6, 124, 31, 32, 49, 33, 34, 43, 44, 42, 48]), (20, [4, 5, 6, 7, 17, 18, 19, 20], [60, 1, 6, 125, 49, 33, 34, 43, 44, 42, 48]), (20, [4, 18, 21], [60, 1, 1, 128, 31, 48]), (20, [4, 14, 16], [60, 2, 4, 121, 32, 49, 33, 34, 43, 44]), (20, [14, 4], [30, -1, 1, 0, 0, -1, 1, 31]), (20, [16, 4], [30, -1, 1, 0, 0, -1, 1, 31]), (20, [14, 4, 9], [50, 0, 1, 1033, 1, 2, 1, 0, 3, 1, 33, 1, 2]), (20, [16, 4, 9], [50, 0, 1, 1034, 1, 2, 1, 0, 3, 1, 34, 1, 2])], [], [(9, 11, -4294967296, -1), (2, 6, -4294967296, 0), (6, 2, -4294967296, 0), (8, 9, -4294967296, 0)])
theorem oo_Mo_shortest_10 {kA : Nat → ClassId} : or_ok PRD kA GG o_Mo_shortest_10 := by
  refine or_mk fun A ta ws vs hD hth hl => ?_
  intro t0 r0 t1 k1 t2 k2 t3 k3 t6 k6 t8 k8 t9 k9 t10 k10 t11 k11 t12 k12 t14 k14 t16 k16 d0 d2 d5 d7 f0 f1 f2 f3 f4 f5 f8 f9 f13 f14 f15 f16 f17 f18 f19
  replace f0 := shm_107 f0
  replace f1 := shm_496 f1
  replace f2 := shm_107 f2
  replace f3 := shm_494 f3
  replace f4 := shm_142 f4
  replace f5 := shm_638 f5
  replace f8 := shm_525 f8
  replace f9 := shm_575 f9
  replace f13 := shm_549 f13
  replace f14 := shm_1464 f14
  replace f15 := shm_551 f15
  replace f16 := shm_5 f16
  replace f17 := shm_5 f17
  replace f18 := shm_5 f18
  replace f19 := shm_5 f19
  have q4 : n_v vs 4 = n_v vs 0 := f16.symm
  have q5 : n_v vs 5 = n_v vs 1 := f17.symm
  have q6 : n_v vs 6 = n_v vs 2 := f18.symm
  have q7 : n_v vs 7 = n_v vs 3 := f19.symm
  simp only [q4, q5, q6, q7] at f1 f3 f5 f8 f9 f13 f14 f15
  have ad_15 : v_ad (n_v vs 15) = w_ar ws (n_v vs 0) 34 := congrArg v_ad f1
  have ad_13 : v_ad (n_v vs 13) = w_ar ws (n_v vs 0) 33 := congrArg v_ad f3
  simp only [ad_15] at f0
  have h0 : v_iv (n_v vs 16) = w_ei ws (w_ar ws (n_v vs 0) 34) (v_iv (n_v vs 9)) := f0
  simp only [ad_13] at f2
  have h2 : v_iv (n_v vs 14) = w_ei ws (w_ar ws (n_v vs 0) 33) (v_iv (n_v vs 9)) := f2
  have g8 : v_iv (n_v vs 11) = w_fi ws (n_v vs 0) 32 := congrArg v_iv f8
  have kz_0_31 := fdq_145 hD hth r0
  have kz_0_32 := fdq_140 hD hth r0
  have kz_0_49 := fdq_146 hD hth r0
  obtain ⟨x, ex, hx⟩ := iv_ex (ta := ta) (lo := 0) (hi := 80) (z := v_iv (n_v vs 9)) (by omega) (by omega) (by omega) (by omega)
  have ex2 : v_iv (Value.int x) = v_iv (n_v vs 9) := ex
  have ex3 : 0 ≤ v_iv (Value.int x) ∧ v_iv (Value.int x) ≤ 80 := tv_rng hx
  obtain ⟨y, ey, hy⟩ := iv_ex (ta := ta) (lo := 0) (hi := 1) (z := v_iv (n_v vs 8)) (by omega) (by omega) (by omega) (by omega)
  have ey2 : v_iv (Value.int y) = v_iv (n_v vs 8) := ey
  have ey3 : 0 ≤ v_iv (Value.int y) ∧ v_iv (Value.int y) ≤ 1 := tv_rng hy
  obtain ⟨u, eu, hu⟩ := iv_ex (ta := ta) (lo := 0) (hi := 24) (z := v_iv (n_v vs 2)) (by omega) (by omega) (by omega) (by omega)
  have eu2 : v_iv (Value.int u) = v_iv (n_v vs 2) := eu
  have eu3 : 0 ≤ v_iv (Value.int u) ∧ v_iv (Value.int u) ≤ 24 := tv_rng hu
  obtain ⟨w, ew, hw⟩ := iv_ex (ta := ta) (lo := 0) (hi := 24) (z := v_iv (n_v vs 2)) (by omega) (by omega) (by omega) (by omega)
  have ew2 : v_iv (Value.int w) = v_iv (n_v vs 2) := ew
  have ew3 : 0 ≤ v_iv (Value.int w) ∧ v_iv (Value.int w) ≤ 24 := tv_rng hw
  obtain ⟨c, ec, hc⟩ := iv_ex (ta := ta) (lo := (-2)) (hi := 26000060) (z := v_iv (n_v vs 10)) (by omega) (by omega) (by omega) (by omega)
  have ec2 : v_iv (Value.int c) = v_iv (n_v vs 10) := ec
  have ec3 : (-2) ≤ v_iv (Value.int c) ∧ v_iv (Value.int c) ≤ 26000060 := tv_rng hc
  have e_4 : n_v (vs ++ [Value.int x, Value.int y, Value.int u, Value.int w, Value.int c]) 4 = n_v vs 4 := n_v_old (by rw [hl]; decide)
  have e_5 : n_v (vs ++ [Value.int x, Value.int y, Value.int u, Value.int w, Value.int c]) 5 = n_v vs 5 := n_v_old (by rw [hl]; decide)
  have e_6 : n_v (vs ++ [Value.int x, Value.int y, Value.int u, Value.int w, Value.int c]) 6 = n_v vs 6 := n_v_old (by rw [hl]; decide)
  have e_7 : n_v (vs ++ [Value.int x, Value.int y, Value.int u, Value.int w, Value.int c]) 7 = n_v vs 7 := n_v_old (by rw [hl]; decide)
  have e_8 : n_v (vs ++ [Value.int x, Value.int y, Value.int u, Value.int w, Value.int c]) 8 = n_v vs 8 := n_v_old (by rw [hl]; decide)
  have e_9 : n_v (vs ++ [Value.int x, Value.int y, Value.int u, Value.int w, Value.int c]) 9 = n_v vs 9 := n_v_old (by rw [hl]; decide)
  have e_10 : n_v (vs ++ [Value.int x, Value.int y, Value.int u, Value.int w, Value.int c]) 10 = n_v vs 10 := n_v_old (by rw [hl]; decide)
  have e_14 : n_v (vs ++ [Value.int x, Value.int y, Value.int u, Value.int w, Value.int c]) 14 = n_v vs 14 := n_v_old (by rw [hl]; decide)
  have e_16 : n_v (vs ++ [Value.int x, Value.int y, Value.int u, Value.int w, Value.int c]) 16 = n_v vs 16 := n_v_old (by rw [hl]; decide)
  have e_17 : n_v (vs ++ [Value.int x, Value.int y, Value.int u, Value.int w, Value.int c]) 17 = Value.int x := n_v_newk (k := 0) hl rfl
  have e_18 : n_v (vs ++ [Value.int x, Value.int y, Value.int u, Value.int w, Value.int c]) 18 = Value.int y := n_v_newk (k := 1) hl rfl
  have e_19 : n_v (vs ++ [Value.int x, Value.int y, Value.int u, Value.int w, Value.int c]) 19 = Value.int u := n_v_newk (k := 2) hl rfl
  have e_20 : n_v (vs ++ [Value.int x, Value.int y, Value.int u, Value.int w, Value.int c]) 20 = Value.int w := n_v_newk (k := 3) hl rfl
  have e_21 : n_v (vs ++ [Value.int x, Value.int y, Value.int u, Value.int w, Value.int c]) 21 = Value.int c := n_v_newk (k := 4) hl rfl
  have nf0 : fc_1 PRD (23, [17, 9], [0, 1, -1]) ws (vs ++ [Value.int x, Value.int y, Value.int u, Value.int w, Value.int c]) := by
    refine ⟨nf_inA hl rfl, sgq_7 ?_⟩
    · show 1 * v_iv (n_v (vs ++ [Value.int x, Value.int y, Value.int u, Value.int w, Value.int c]) 17) + ((-1) * v_iv (n_v (vs ++ [Value.int x, Value.int y, Value.int u, Value.int w, Value.int c]) 9) + 0) ≤ 0
      simp only [e_9, e_17]
      exact vc_Mo_shortest_10_0 (v_iv (n_v vs 9)) (v_iv (n_v vs 11)) (w_ei ws (w_ar ws (n_v vs 0) 34)) (w_ei ws (w_ar ws (n_v vs 0) 33)) (w_fi ws (n_v vs 0) 32) (w_fi ws (n_v vs 0) 31) (v_iv (Value.int x)) k9 k11 d0 g8 f9 kz_0_31 kz_0_32 ex2
  have nf1 : fc_1 PRD (23, [17, 9], [0, -1, 1]) ws (vs ++ [Value.int x, Value.int y, Value.int u, Value.int w, Value.int c]) := by
    refine ⟨nf_inA hl rfl, sgq_22 ?_⟩
    · show (-1) * v_iv (n_v (vs ++ [Value.int x, Value.int y, Value.int u, Value.int w, Value.int c]) 17) + (1 * v_iv (n_v (vs ++ [Value.int x, Value.int y, Value.int u, Value.int w, Value.int c]) 9) + 0) ≤ 0
      simp only [e_9, e_17]
      exact vc_Mo_shortest_10_1 (v_iv (n_v vs 9)) (v_iv (n_v vs 11)) (w_ei ws (w_ar ws (n_v vs 0) 34)) (w_ei ws (w_ar ws (n_v vs 0) 33)) (w_fi ws (n_v vs 0) 32) (w_fi ws (n_v vs 0) 31) (v_iv (Value.int x)) k9 k11 d0 g8 f9 kz_0_31 kz_0_32 ex2
  have nf2 : fc_1 PRD (23, [18, 8], [0, 1, -1]) ws (vs ++ [Value.int x, Value.int y, Value.int u, Value.int w, Value.int c]) := by
    refine ⟨nf_inA hl rfl, sgq_7 ?_⟩
    · show 1 * v_iv (n_v (vs ++ [Value.int x, Value.int y, Value.int u, Value.int w, Value.int c]) 18) + ((-1) * v_iv (n_v (vs ++ [Value.int x, Value.int y, Value.int u, Value.int w, Value.int c]) 8) + 0) ≤ 0
      simp only [e_8, e_18]
      exact vc_Mo_shortest_10_2 (v_iv (n_v vs 8)) (v_iv (n_v vs 9)) (v_iv (n_v vs 11)) (w_ei ws (w_ar ws (n_v vs 0) 34)) (w_ei ws (w_ar ws (n_v vs 0) 33)) (w_fi ws (n_v vs 0) 32) (w_fi ws (n_v vs 0) 31) (v_iv (Value.int x)) (v_iv (Value.int y)) k8 k9 k11 d0 g8 f9 kz_0_31 kz_0_32 ex2 ey2
  have nf3 : fc_1 PRD (23, [18, 8], [0, -1, 1]) ws (vs ++ [Value.int x, Value.int y, Value.int u, Value.int w, Value.int c]) := by
    refine ⟨nf_inA hl rfl, sgq_22 ?_⟩
    · show (-1) * v_iv (n_v (vs ++ [Value.int x, Value.int y, Value.int u, Value.int w, Value.int c]) 18) + (1 * v_iv (n_v (vs ++ [Value.int x, Value.int y, Value.int u, Value.int w, Value.int c]) 8) + 0) ≤ 0
      simp only [e_8, e_18]
      exact vc_Mo_shortest_10_3 (v_iv (n_v vs 8)) (v_iv (n_v vs 9)) (v_iv (n_v vs 11)) (w_ei ws (w_ar ws (n_v vs 0) 34)) (w_ei ws (w_ar ws (n_v vs 0) 33)) (w_fi ws (n_v vs 0) 32) (w_fi ws (n_v vs 0) 31) (v_iv (Value.int x)) (v_iv (Value.int y)) k8 k9 k11 d0 g8 f9 kz_0_31 kz_0_32 ex2 ey2
  have nf4 : fc_1 PRD (23, [19, 6], [0, 1, -1]) ws (vs ++ [Value.int x, Value.int y, Value.int u, Value.int w, Value.int c]) := by
    refine ⟨nf_inA hl rfl, sgq_7 ?_⟩
    · show 1 * v_iv (n_v (vs ++ [Value.int x, Value.int y, Value.int u, Value.int w, Value.int c]) 19) + ((-1) * v_iv (n_v (vs ++ [Value.int x, Value.int y, Value.int u, Value.int w, Value.int c]) 6) + 0) ≤ 0
      simp only [e_6, e_19, q6]
      exact vc_Mo_shortest_10_4 (v_iv (n_v vs 2)) (v_iv (n_v vs 6)) (v_iv (n_v vs 9)) (v_iv (n_v vs 11)) (w_ei ws (w_ar ws (n_v vs 0) 34)) (w_ei ws (w_ar ws (n_v vs 0) 33)) (w_fi ws (n_v vs 0) 32) (w_fi ws (n_v vs 0) 31) (v_iv (Value.int x)) (v_iv (Value.int u)) k2 k6 k9 k11 d0 d2 d5 g8 f9 kz_0_31 kz_0_32 ex2 eu2
  have nf5 : fc_1 PRD (23, [19, 6], [0, -1, 1]) ws (vs ++ [Value.int x, Value.int y, Value.int u, Value.int w, Value.int c]) := by
    refine ⟨nf_inA hl rfl, sgq_22 ?_⟩
    · show (-1) * v_iv (n_v (vs ++ [Value.int x, Value.int y, Value.int u, Value.int w, Value.int c]) 19) + (1 * v_iv (n_v (vs ++ [Value.int x, Value.int y, Value.int u, Value.int w, Value.int c]) 6) + 0) ≤ 0
      simp only [e_6, e_19, q6]
      exact vc_Mo_shortest_10_5 (v_iv (n_v vs 2)) (v_iv (n_v vs 6)) (v_iv (n_v vs 9)) (v_iv (n_v vs 11)) (w_ei ws (w_ar ws (n_v vs 0) 34)) (w_ei ws (w_ar ws (n_v vs 0) 33)) (w_fi ws (n_v vs 0) 32) (w_fi ws (n_v vs 0) 31) (v_iv (Value.int x)) (v_iv (Value.int u)) k2 k6 k9 k11 d0 d2 d5 g8 f9 kz_0_31 kz_0_32 ex2 eu2
  have nf6 : fc_1 PRD (23, [20, 6], [0, 1, -1]) ws (vs ++ [Value.int x, Value.int y, Value.int u, Value.int w, Value.int c]) := by
    refine ⟨nf_inA hl rfl, sgq_7 ?_⟩
    · show 1 * v_iv (n_v (vs ++ [Value.int x, Value.int y, Value.int u, Value.int w, Value.int c]) 20) + ((-1) * v_iv (n_v (vs ++ [Value.int x, Value.int y, Value.int u, Value.int w, Value.int c]) 6) + 0) ≤ 0
      simp only [e_6, e_20, q6]
      exact vc_Mo_shortest_10_6 (v_iv (n_v vs 2)) (v_iv (n_v vs 6)) (v_iv (n_v vs 9)) (v_iv (n_v vs 11)) (w_ei ws (w_ar ws (n_v vs 0) 34)) (w_ei ws (w_ar ws (n_v vs 0) 33)) (w_fi ws (n_v vs 0) 32) (w_fi ws (n_v vs 0) 31) (v_iv (Value.int x)) (v_iv (Value.int u)) (v_iv (Value.int w)) k2 k6 k9 k11 d0 d2 d5 g8 f9 kz_0_31 kz_0_32 ex2 eu2 ew2
  have nf7 : fc_1 PRD (23, [20, 6], [0, -1, 1]) ws (vs ++ [Value.int x, Value.int y, Value.int u, Value.int w, Value.int c]) := by
    refine ⟨nf_inA hl rfl, sgq_22 ?_⟩
    · show (-1) * v_iv (n_v (vs ++ [Value.int x, Value.int y, Value.int u, Value.int w, Value.int c]) 20) + (1 * v_iv (n_v (vs ++ [Value.int x, Value.int y, Value.int u, Value.int w, Value.int c]) 6) + 0) ≤ 0
      simp only [e_6, e_20, q6]
      exact vc_Mo_shortest_10_7 (v_iv (n_v vs 2)) (v_iv (n_v vs 6)) (v_iv (n_v vs 9)) (v_iv (n_v vs 11)) (w_ei ws (w_ar ws (n_v vs 0) 34)) (w_ei ws (w_ar ws (n_v vs 0) 33)) (w_fi ws (n_v vs 0) 32) (w_fi ws (n_v vs 0) 31) (v_iv (Value.int x)) (v_iv (Value.int u)) (v_iv (Value.int w)) k2 k6 k9 k11 d0 d2 d5 g8 f9 kz_0_31 kz_0_32 ex2 eu2 ew2
  have nf8 : fc_1 PRD (23, [21, 10], [0, 1, -1]) ws (vs ++ [Value.int x, Value.int y, Value.int u, Value.int w, Value.int c]) := by
    refine ⟨nf_inA hl rfl, sgq_7 ?_⟩
    · show 1 * v_iv (n_v (vs ++ [Value.int x, Value.int y, Value.int u, Value.int w, Value.int c]) 21) + ((-1) * v_iv (n_v (vs ++ [Value.int x, Value.int y, Value.int u, Value.int w, Value.int c]) 10) + 0) ≤ 0
      simp only [e_10, e_21]
      exact vc_Mo_shortest_10_8 (v_iv (n_v vs 9)) (v_iv (n_v vs 10)) (v_iv (n_v vs 11)) (w_ei ws (w_ar ws (n_v vs 0) 34)) (w_ei ws (w_ar ws (n_v vs 0) 33)) (w_fi ws (n_v vs 0) 32) (w_fi ws (n_v vs 0) 31) (v_iv (Value.int x)) (v_iv (Value.int c)) k9 k10 k11 d0 g8 f9 kz_0_31 kz_0_32 ex2 ec2
  have nf9 : fc_1 PRD (23, [21, 10], [0, -1, 1]) ws (vs ++ [Value.int x, Value.int y, Value.int u, Value.int w, Value.int c]) := by
    refine ⟨nf_inA hl rfl, sgq_22 ?_⟩
    · show (-1) * v_iv (n_v (vs ++ [Value.int x, Value.int y, Value.int u, Value.int w, Value.int c]) 21) + (1 * v_iv (n_v (vs ++ [Value.int x, Value.int y, Value.int u, Value.int w, Value.int c]) 10) + 0) ≤ 0
      simp only [e_10, e_21]
      exact vc_Mo_shortest_10_9 (v_iv (n_v vs 9)) (v_iv (n_v vs 10)) (v_iv (n_v vs 11)) (w_ei ws (w_ar ws (n_v vs 0) 34)) (w_ei ws (w_ar ws (n_v vs 0) 33)) (w_fi ws (n_v vs 0) 32) (w_fi ws (n_v vs 0) 31) (v_iv (Value.int x)) (v_iv (Value.int c)) k9 k10 k11 d0 g8 f9 kz_0_31 kz_0_32 ex2 ec2
  have nf10 : fc_1 PRD (20, [4, 5, 6, 7], [60, 3, 6, 124, 31, 32, 49, 33, 34, 43, 44, 42, 48]) ws (vs ++ [Value.int x, Value.int y, Value.int u, Value.int w, Value.int c]) := by
    refine ⟨nf_inA hl rfl, sgq_549 ?_⟩
    · show TGI (w_fi ws (n_v (vs ++ [Value.int x, Value.int y, Value.int u, Value.int w, Value.int c]) 4) 31) (w_fi ws (n_v (vs ++ [Value.int x, Value.int y, Value.int u, Value.int w, Value.int c]) 4) 32) (w_fi ws (n_v (vs ++ [Value.int x, Value.int y, Value.int u, Value.int w, Value.int c]) 4) 49) (w_ei ws (w_ar ws (n_v (vs ++ [Value.int x, Value.int y, Value.int u, Value.int w, Value.int c]) 4) 33)) (w_ei ws (w_ar ws (n_v (vs ++ [Value.int x, Value.int y, Value.int u, Value.int w, Value.int c]) 4) 34)) (w_ei ws (w_ar ws (n_v (vs ++ [Value.int x, Value.int y, Value.int u, Value.int w, Value.int c]) 4) 43)) (w_ei ws (w_ar ws (n_v (vs ++ [Value.int x, Value.int y, Value.int u, Value.int w, Value.int c]) 4) 44)) (w_ei ws (w_ar ws (n_v (vs ++ [Value.int x, Value.int y, Value.int u, Value.int w, Value.int c]) 4) 42)) (w_ei ws (w_ar ws (n_v (vs ++ [Value.int x, Value.int y, Value.int u, Value.int w, Value.int c]) 4) 48)) (v_iv (n_v (vs ++ [Value.int x, Value.int y, Value.int u, Value.int w, Value.int c]) 5)) (v_iv (n_v (vs ++ [Value.int x, Value.int y, Value.int u, Value.int w, Value.int c]) 6)) (v_iv (n_v (vs ++ [Value.int x, Value.int y, Value.int u, Value.int w, Value.int c]) 7))
      simp only [e_4, e_5, e_6, e_7, q4, q5, q6, q7]
      exact vc_Mo_shortest_10_10 (v_iv (n_v vs 1)) (v_iv (n_v vs 2)) (v_iv (n_v vs 3)) (w_ei ws (w_ar ws (n_v vs 0) 34)) (w_ei ws (w_ar ws (n_v vs 0) 33)) (w_ei ws (w_ar ws (n_v vs 0) 43)) (w_ei ws (w_ar ws (n_v vs 0) 44)) (w_fi ws (n_v vs 0) 49) (w_fi ws (n_v vs 0) 32) (w_fi ws (n_v vs 0) 31) (w_ei ws (w_ar ws (n_v vs 0) 42)) (w_ei ws (w_ar ws (n_v vs 0) 48)) k1 k2 k3 f13 kz_0_31 kz_0_32 kz_0_49
  have nf11 : fc_1 PRD (20, [4, 5, 6, 7, 17, 18, 19, 20], [60, 1, 6, 125, 49, 33, 34, 43, 44, 42, 48]) ws (vs ++ [Value.int x, Value.int y, Value.int u, Value.int w, Value.int c]) := by
    refine ⟨nf_inA hl rfl, sgq_550 ?_⟩
    · show TG3 (w_fi ws (n_v (vs ++ [Value.int x, Value.int y, Value.int u, Value.int w, Value.int c]) 4) 49) (w_ei ws (w_ar ws (n_v (vs ++ [Value.int x, Value.int y, Value.int u, Value.int w, Value.int c]) 4) 33)) (w_ei ws (w_ar ws (n_v (vs ++ [Value.int x, Value.int y, Value.int u, Value.int w, Value.int c]) 4) 34)) (w_ei ws (w_ar ws (n_v (vs ++ [Value.int x, Value.int y, Value.int u, Value.int w, Value.int c]) 4) 43)) (w_ei ws (w_ar ws (n_v (vs ++ [Value.int x, Value.int y, Value.int u, Value.int w, Value.int c]) 4) 44)) (w_ei ws (w_ar ws (n_v (vs ++ [Value.int x, Value.int y, Value.int u, Value.int w, Value.int c]) 4) 42)) (w_ei ws (w_ar ws (n_v (vs ++ [Value.int x, Value.int y, Value.int u, Value.int w, Value.int c]) 4) 48)) (v_iv (n_v (vs ++ [Value.int x, Value.int y, Value.int u, Value.int w, Value.int c]) 5)) (v_iv (n_v (vs ++ [Value.int x, Value.int y, Value.int u, Value.int w, Value.int c]) 6)) (v_iv (n_v (vs ++ [Value.int x, Value.int y, Value.int u, Value.int w, Value.int c]) 7)) (v_iv (n_v (vs ++ [Value.int x, Value.int y, Value.int u, Value.int w, Value.int c]) 17)) (v_iv (n_v (vs ++ [Value.int x, Value.int y, Value.int u, Value.int w, Value.int c]) 18)) (v_iv (n_v (vs ++ [Value.int x, Value.int y, Value.int u, Value.int w, Value.int c]) 19)) (v_iv (n_v (vs ++ [Value.int x, Value.int y, Value.int u, Value.int w, Value.int c]) 20))
      simp only [e_4, e_5, e_6, e_7, e_17, e_18, e_19, e_20, q4, q5, q6, q7]
      exact vc_Mo_shortest_10_11 (v_iv (n_v vs 1)) (v_iv (n_v vs 2)) (v_iv (n_v vs 3)) (v_iv (n_v vs 8)) (v_iv (n_v vs 9)) (w_ei ws (w_ar ws (n_v vs 0) 34)) (w_ei ws (w_ar ws (n_v vs 0) 33)) (w_ei ws (w_ar ws (n_v vs 0) 43)) (w_ei ws (w_ar ws (n_v vs 0) 44)) (w_fi ws (n_v vs 0) 49) (w_ei ws (w_ar ws (n_v vs 0) 42)) (w_ei ws (w_ar ws (n_v vs 0) 48)) (v_iv (Value.int x)) (v_iv (Value.int y)) (v_iv (Value.int u)) (v_iv (Value.int w)) k1 k2 k3 k8 k9 f14 kz_0_49 ex2 ey2 eu2 ew2
  have nf12 : fc_1 PRD (20, [4, 18, 21], [60, 1, 1, 128, 31, 48]) ws (vs ++ [Value.int x, Value.int y, Value.int u, Value.int w, Value.int c]) := by
    refine ⟨nf_inA hl rfl, sgq_551 ?_⟩
    · show SMN (w_fi ws (n_v (vs ++ [Value.int x, Value.int y, Value.int u, Value.int w, Value.int c]) 4) 31) (w_ei ws (w_ar ws (n_v (vs ++ [Value.int x, Value.int y, Value.int u, Value.int w, Value.int c]) 4) 48)) (v_iv (n_v (vs ++ [Value.int x, Value.int y, Value.int u, Value.int w, Value.int c]) 18)) (v_iv (n_v (vs ++ [Value.int x, Value.int y, Value.int u, Value.int w, Value.int c]) 21))
      simp only [e_4, e_18, e_21, q4]
      exact vc_Mo_shortest_10_12 (v_iv (n_v vs 8)) (v_iv (n_v vs 10)) (w_fi ws (n_v vs 0) 31) (w_ei ws (w_ar ws (n_v vs 0) 48)) (v_iv (Value.int y)) (v_iv (Value.int c)) k8 k10 f15 kz_0_31 ey2 ec2
  have nf13 : fc_1 PRD (20, [4, 14, 16], [60, 2, 4, 121, 32, 49, 33, 34, 43, 44]) ws (vs ++ [Value.int x, Value.int y, Value.int u, Value.int w, Value.int c]) := by
    refine ⟨nf_inA hl rfl, sgq_552 ?_⟩
    · show ARC (w_fi ws (n_v (vs ++ [Value.int x, Value.int y, Value.int u, Value.int w, Value.int c]) 4) 32) (w_fi ws (n_v (vs ++ [Value.int x, Value.int y, Value.int u, Value.int w, Value.int c]) 4) 49) (w_ei ws (w_ar ws (n_v (vs ++ [Value.int x, Value.int y, Value.int u, Value.int w, Value.int c]) 4) 33)) (w_ei ws (w_ar ws (n_v (vs ++ [Value.int x, Value.int y, Value.int u, Value.int w, Value.int c]) 4) 34)) (w_ei ws (w_ar ws (n_v (vs ++ [Value.int x, Value.int y, Value.int u, Value.int w, Value.int c]) 4) 43)) (w_ei ws (w_ar ws (n_v (vs ++ [Value.int x, Value.int y, Value.int u, Value.int w, Value.int c]) 4) 44)) (v_iv (n_v (vs ++ [Value.int x, Value.int y, Value.int u, Value.int w, Value.int c]) 14)) (v_iv (n_v (vs ++ [Value.int x, Value.int y, Value.int u, Value.int w, Value.int c]) 16))
      simp only [e_4, e_14, e_16, q4]
      exact vc_Mo_shortest_10_13 (v_iv (n_v vs 9)) (v_iv (n_v vs 11)) (v_iv (n_v vs 12)) (v_iv (n_v vs 14)) (v_iv (n_v vs 16)) (w_ei ws (w_ar ws (n_v vs 0) 34)) (w_ei ws (w_ar ws (n_v vs 0) 33)) (w_ei ws (w_ar ws (n_v vs 0) 43)) (w_ei ws (w_ar ws (n_v vs 0) 44)) (w_fi ws (n_v vs 0) 49) (w_fi ws (n_v vs 0) 32) (v_iv (Value.int x)) k9 k11 k12 k14 k16 d0 h0 h2 f4 f5 g8 kz_0_32 kz_0_49 ex2
  have nf14 : fc_1 PRD (20, [14, 4], [30, -1, 1, 0, 0, -1, 1, 31]) ws (vs ++ [Value.int x, Value.int y, Value.int u, Value.int w, Value.int c]) := by
    refine ⟨nf_inA hl rfl, sgq_553 ?_⟩
    · show 1 * v_iv (n_v (vs ++ [Value.int x, Value.int y, Value.int u, Value.int w, Value.int c]) 14) + ((-1) * w_fi ws (n_v (vs ++ [Value.int x, Value.int y, Value.int u, Value.int w, Value.int c]) 4) 31 + 0) ≤ (-1)
      simp only [e_4, e_14, q4]
      exact vc_Mo_shortest_10_14 (v_iv (n_v vs 9)) (v_iv (n_v vs 11)) (v_iv (n_v vs 14)) (w_ei ws (w_ar ws (n_v vs 0) 34)) (w_ei ws (w_ar ws (n_v vs 0) 33)) (w_fi ws (n_v vs 0) 32) (w_fi ws (n_v vs 0) 31) (v_iv (Value.int x)) k9 k11 k14 d0 h2 g8 f9 kz_0_31 kz_0_32 ex2
  have nf15 : fc_1 PRD (20, [16, 4], [30, -1, 1, 0, 0, -1, 1, 31]) ws (vs ++ [Value.int x, Value.int y, Value.int u, Value.int w, Value.int c]) := by
    refine ⟨nf_inA hl rfl, sgq_553 ?_⟩
    · show 1 * v_iv (n_v (vs ++ [Value.int x, Value.int y, Value.int u, Value.int w, Value.int c]) 16) + ((-1) * w_fi ws (n_v (vs ++ [Value.int x, Value.int y, Value.int u, Value.int w, Value.int c]) 4) 31 + 0) ≤ (-1)
      simp only [e_4, e_16, q4]
      exact vc_Mo_shortest_10_15 (v_iv (n_v vs 9)) (v_iv (n_v vs 11)) (v_iv (n_v vs 16)) (w_ei ws (w_ar ws (n_v vs 0) 34)) (w_ei ws (w_ar ws (n_v vs 0) 33)) (w_fi ws (n_v vs 0) 32) (w_fi ws (n_v vs 0) 31) (v_iv (Value.int x)) k9 k11 k16 d0 h0 g8 f9 kz_0_31 kz_0_32 ex2
  have nf16 : fc_1 PRD (20, [14, 4, 9], [50, 0, 1, 1033, 1, 2, 1, 0, 3, 1, 33, 1, 2]) ws (vs ++ [Value.int x, Value.int y, Value.int u, Value.int w, Value.int c]) := by
    refine ⟨nf_inA hl rfl, sgq_1465 ?_⟩
    · show v_iv (n_v (vs ++ [Value.int x, Value.int y, Value.int u, Value.int w, Value.int c]) 14) = w_ei ws (w_ar ws (n_v (vs ++ [Value.int x, Value.int y, Value.int u, Value.int w, Value.int c]) 4) 33) (v_iv (n_v (vs ++ [Value.int x, Value.int y, Value.int u, Value.int w, Value.int c]) 9))
      simp only [e_4, e_9, e_14, q4]
      exact vc_Mo_shortest_10_16 (v_iv (n_v vs 9)) (v_iv (n_v vs 11)) (v_iv (n_v vs 14)) (w_ei ws (w_ar ws (n_v vs 0) 34)) (w_ei ws (w_ar ws (n_v vs 0) 33)) (w_fi ws (n_v vs 0) 32) (w_fi ws (n_v vs 0) 31) (v_iv (Value.int x)) k9 k11 k14 d0 h2 g8 f9 kz_0_31 kz_0_32 ex2
  have nf17 : fc_1 PRD (20, [16, 4, 9], [50, 0, 1, 1034, 1, 2, 1, 0, 3, 1, 34, 1, 2]) ws (vs ++ [Value.int x, Value.int y, Value.int u, Value.int w, Value.int c]) := by
    refine ⟨nf_inA hl rfl, sgq_1466 ?_⟩
    · show v_iv (n_v (vs ++ [Value.int x, Value.int y, Value.int u, Value.int w, Value.int c]) 16) = w_ei ws (w_ar ws (n_v (vs ++ [Value.int x, Value.int y, Value.int u, Value.int w, Value.int c]) 4) 34) (v_iv (n_v (vs ++ [Value.int x, Value.int y, Value.int u, Value.int w, Value.int c]) 9))
      simp only [e_4, e_9, e_16, q4]
      exact vc_Mo_shortest_10_17 (v_iv (n_v vs 9)) (v_iv (n_v vs 11)) (v_iv (n_v vs 16)) (w_ei ws (w_ar ws (n_v vs 0) 34)) (w_ei ws (w_ar ws (n_v vs 0) 33)) (w_fi ws (n_v vs 0) 32) (w_fi ws (n_v vs 0) 31) (v_iv (Value.int x)) k9 k11 k16 d0 h0 g8 f9 kz_0_31 kz_0_32 ex2
  exact ⟨(fun _ h => (by cases h)), [Value.int x, Value.int y, Value.int u, Value.int w, Value.int c], ag_five hx hy hu hw hc, List.forall_mem_cons.mpr ⟨⟨show (23 : Nat) < 100 from by decide, nf0⟩, List.forall_mem_cons.mpr ⟨⟨show (23 : Nat) < 100 from by decide, nf1⟩, List.forall_mem_cons.mpr ⟨⟨show (23 : Nat) < 100 from by decide, nf2⟩, List.forall_mem_cons.mpr ⟨⟨show (23 : Nat) < 100 from by decide, nf3⟩, List.forall_mem_cons.mpr ⟨⟨show (23 : Nat) < 100 from by decide, nf4⟩, List.forall_mem_cons.mpr ⟨⟨show (23 : Nat) < 100 from by decide, nf5⟩, List.forall_mem_cons.mpr ⟨⟨show (23 : Nat) < 100 from by decide, nf6⟩, List.forall_mem_cons.mpr ⟨⟨show (23 : Nat) < 100 from by decide, nf7⟩, List.forall_mem_cons.mpr ⟨⟨show (23 : Nat) < 100 from by decide, nf8⟩, List.forall_mem_cons.mpr ⟨⟨show (23 : Nat) < 100 from by decide, nf9⟩, List.forall_mem_cons.mpr ⟨⟨show (20 : Nat) < 100 from by decide, nf10⟩, List.forall_mem_cons.mpr ⟨⟨show (20 : Nat) < 100 from by decide, nf11⟩, List.forall_mem_cons.mpr ⟨⟨show (20 : Nat) < 100 from by decide, nf12⟩, List.forall_mem_cons.mpr ⟨⟨show (20 : Nat) < 100 from by decide, nf13⟩, List.forall_mem_cons.mpr ⟨⟨show (20 : Nat) < 100 from by decide, nf14⟩, List.forall_mem_cons.mpr ⟨⟨show (20 : Nat) < 100 from by decide, nf15⟩, List.forall_mem_cons.mpr ⟨⟨show (20 : Nat) < 100 from by decide, nf16⟩, List.forall_mem_cons.mpr ⟨⟨show (20 : Nat) < 100 from by decide, nf17⟩, (fun _ h => (by cases h))⟩⟩⟩⟩⟩⟩⟩⟩⟩⟩⟩⟩⟩⟩⟩⟩⟩⟩, (fun _ h => (by cases h))⟩
set_option maxHeartbeats 4000000 in
theorem vc_Mo_shortest_11_0 (x9 : Int) (x17 : Int) (pt_0 : Int → Int) (ph_0 : Int → Int) (pm_0 : Int) (pn_0 : Int) (gx : Int) (k9 : 0 ≤ x9 ∧ x9 ≤ 79) (k17 : 0 ≤ x17 ∧ x17 ≤ 80) (f5 : 1 * x17 + ((-1) * x9 + 0) ≤ 0) (f6 : (-1) * x17 + (1 * x9 + 0) ≤ 0) (f21 : 1 * x9 + ((-1) * pm_0 + 0) ≤ (-1)) (f22 : GOK (pn_0) (pm_0) (pt_0) (ph_0)) (kz_0_31 : 0 ≤ pn_0 ∧ pn_0 ≤ 25) (kz_0_32 : 0 ≤ pm_0 ∧ pm_0 ≤ 80) (ex2 : gx = x9) : 1 * gx + ((-1) * x9 + 0) ≤ 0 := by
  have g := ‹GOK _ _ _ _›.1 x9 (by omega) (by omega)
  omega
set_option maxHeartbeats 4000000 in
theorem vc_Mo_shortest_11_1 (x9 : Int) (x17 : Int) (pt_0 : Int → Int) (ph_0 : Int → Int) (pm_0 : Int) (pn_0 : Int) (gx : Int) (k9 : 0 ≤ x9 ∧ x9 ≤ 79) (k17 : 0 ≤ x17 ∧ x17 ≤ 80) (f5 : 1 * x17 + ((-1) * x9 + 0) ≤ 0) (f6 : (-1) * x17 + (1 * x9 + 0) ≤ 0) (f21 : 1 * x9 + ((-1) * pm_0 + 0) ≤ (-1)) (f22 : GOK (pn_0) (pm_0) (pt_0) (ph_0)) (kz_0_31 : 0 ≤ pn_0 ∧ pn_0 ≤ 25) (kz_0_32 : 0 ≤ pm_0 ∧ pm_0 ≤ 80) (ex2 : gx = x9) : (-1) * gx + (1 * x9 + 0) ≤ 0 := by
  have g := ‹GOK _ _ _ _›.1 x9 (by omega) (by omega)
  omega
set_option maxHeartbeats 4000000 in
theorem vc_Mo_shortest_11_2 (x9 : Int) (x17 : Int) (x23 : Int) (pt_0 : Int → Int) (ph_0 : Int → Int) (pm_0 : Int) (pn_0 : Int) (gx : Int) (gy : Int) (k9 : 0 ≤ x9 ∧ x9 ≤ 79) (k17 : 0 ≤ x17 ∧ x17 ≤ 80) (k23 : 1 ≤ x23 ∧ x23 ≤ 1) (f5 : 1 * x17 + ((-1) * x9 + 0) ≤ 0) (f6 : (-1) * x17 + (1 * x9 + 0) ≤ 0) (f21 : 1 * x9 + ((-1) * pm_0 + 0) ≤ (-1)) (f22 : GOK (pn_0) (pm_0) (pt_0) (ph_0)) (kz_0_31 : 0 ≤ pn_0 ∧ pn_0 ≤ 25) (kz_0_32 : 0 ≤ pm_0 ∧ pm_0 ≤ 80) (ex2 : gx = x9) (ey2 : gy = x23) : 1 * gy + ((-1) * x23 + 0) ≤ 0 := by
  have g := ‹GOK _ _ _ _›.1 x9 (by omega) (by omega)
  omega
set_option maxHeartbeats 4000000 in
theorem vc_Mo_shortest_11_3 (x9 : Int) (x17 : Int) (x23 : Int) (pt_0 : Int → Int) (ph_0 : Int → Int) (pm_0 : Int) (pn_0 : Int) (gx : Int) (gy : Int) (k9 : 0 ≤ x9 ∧ x9 ≤ 79) (k17 : 0 ≤ x17 ∧ x17 ≤ 80) (k23 : 1 ≤ x23 ∧ x23 ≤ 1) (f5 : 1 * x17 + ((-1) * x9 + 0) ≤ 0) (f6 : (-1) * x17 + (1 * x9 + 0) ≤ 0) (f21 : 1 * x9 + ((-1) * pm_0 + 0) ≤ (-1)) (f22 : GOK (pn_0) (pm_0) (pt_0) (ph_0)) (kz_0_31 : 0 ≤ pn_0 ∧ pn_0 ≤ 25) (kz_0_32 : 0 ≤ pm_0 ∧ pm_0 ≤ 80) (ex2 : gx = x9) (ey2 : gy = x23) : (-1) * gy + (1 * x23 + 0) ≤ 0 := by
  have g := ‹GOK _ _ _ _›.1 x9 (by omega) (by omega)
  omega
set_option maxHeartbeats 4000000 in
theorem vc_Mo_shortest_11_4 (x9 : Int) (x17 : Int) (x25 : Int) (pt_0 : Int → Int) (ph_0 : Int → Int) (pm_0 : Int) (pn_0 : Int) (gx : Int) (gu : Int) (k9 : 0 ≤ x9 ∧ x9 ≤ 79) (k17 : 0 ≤ x17 ∧ x17 ≤ 80) (k25 : 0 ≤ x25 ∧ x25 ≤ 24) (h0 : x25 = pt_0 (x9)) (f5 : 1 * x17 + ((-1) * x9 + 0) ≤ 0) (f6 : (-1) * x17 + (1 * x9 + 0) ≤ 0) (f21 : 1 * x9 + ((-1) * pm_0 + 0) ≤ (-1)) (f22 : GOK (pn_0) (pm_0) (pt_0) (ph_0)) (kz_0_31 : 0 ≤ pn_0 ∧ pn_0 ≤ 25) (kz_0_32 : 0 ≤ pm_0 ∧ pm_0 ≤ 80) (ex2 : gx = x9) (eu2 : gu = x25) : 1 * gu + ((-1) * x25 + 0) ≤ 0 := by
  have g := ‹GOK _ _ _ _›.1 x9 (by omega) (by omega)
  omega
set_option maxHeartbeats 4000000 in
theorem vc_Mo_shortest_11_5 (x9 : Int) (x17 : Int) (x25 : Int) (pt_0 : Int → Int) (ph_0 : Int → Int) (pm_0 : Int) (pn_0 : Int) (gx : Int) (gu : Int) (k9 : 0 ≤ x9 ∧ x9 ≤ 79) (k17 : 0 ≤ x17 ∧ x17 ≤ 80) (k25 : 0 ≤ x25 ∧ x25 ≤ 24) (h0 : x25 = pt_0 (x9)) (f5 : 1 * x17 + ((-1) * x9 + 0) ≤ 0) (f6 : (-1) * x17 + (1 * x9 + 0) ≤ 0) (f21 : 1 * x9 + ((-1) * pm_0 + 0) ≤ (-1)) (f22 : GOK (pn_0) (pm_0) (pt_0) (ph_0)) (kz_0_31 : 0 ≤ pn_0 ∧ pn_0 ≤ 25) (kz_0_32 : 0 ≤ pm_0 ∧ pm_0 ≤ 80) (ex2 : gx = x9) (eu2 : gu = x25) : (-1) * gu + (1 * x25 + 0) ≤ 0 := by
  have g := ‹GOK _ _ _ _›.1 x9 (by omega) (by omega)
  omega
set_option maxHeartbeats 4000000 in
theorem vc_Mo_shortest_11_6 (x9 : Int) (x17 : Int) (x24 : Int) (pt_0 : Int → Int) (ph_0 : Int → Int) (pm_0 : Int) (pn_0 : Int) (gx : Int) (gw : Int) (k9 : 0 ≤ x9 ∧ x9 ≤ 79) (k17 : 0 ≤ x17 ∧ x17 ≤ 80) (k24 : 0 ≤ x24 ∧ x24 ≤ 24) (h2 : x24 = ph_0 (x9)) (f5 : 1 * x17 + ((-1) * x9 + 0) ≤ 0) (f6 : (-1) * x17 + (1 * x9 + 0) ≤ 0) (f21 : 1 * x9 + ((-1) * pm_0 + 0) ≤ (-1)) (f22 : GOK (pn_0) (pm_0) (pt_0) (ph_0)) (kz_0_31 : 0 ≤ pn_0 ∧ pn_0 ≤ 25) (kz_0_32 : 0 ≤ pm_0 ∧ pm_0 ≤ 80) (ex2 : gx = x9) (ew2 : gw = x24) : 1 * gw + ((-1) * x24 + 0) ≤ 0 := by
  have g := ‹GOK _ _ _ _›.1 x9 (by omega) (by omega)
  omega
set_option maxHeartbeats 4000000 in
theorem vc_Mo_shortest_11_7 (x9 : Int) (x17 : Int) (x24 : Int) (pt_0 : Int → Int) (ph_0 : Int → Int) (pm_0 : Int) (pn_0 : Int) (gx : Int) (gw : Int) (k9 : 0 ≤ x9 ∧ x9 ≤ 79) (k17 : 0 ≤ x17 ∧ x17 ≤ 80) (k24 : 0 ≤ x24 ∧ x24 ≤ 24) (h2 : x24 = ph_0 (x9)) (f5 : 1 * x17 + ((-1) * x9 + 0) ≤ 0) (f6 : (-1) * x17 + (1 * x9 + 0) ≤ 0) (f21 : 1 * x9 + ((-1) * pm_0 + 0) ≤ (-1)) (f22 : GOK (pn_0) (pm_0) (pt_0) (ph_0)) (kz_0_31 : 0 ≤ pn_0 ∧ pn_0 ≤ 25) (kz_0_32 : 0 ≤ pm_0 ∧ pm_0 ≤ 80) (ex2 : gx = x9) (ew2 : gw = x24) : (-1) * gw + (1 * x24 + 0) ≤ 0 := by
  have g := ‹GOK _ _ _ _›.1 x9 (by omega) (by omega)
  omega
set_option maxHeartbeats 4000000 in
theorem vc_Mo_shortest_11_8 (x9 : Int) (x10 : Int) (x17 : Int) (x21 : Int) (pt_0 : Int → Int) (ph_0 : Int → Int) (pm_0 : Int) (pn_0 : Int) (gx : Int) (gc : Int) (k9 : 0 ≤ x9 ∧ x9 ≤ 79) (k10 : (-2) ≤ x10 ∧ x10 ≤ 26000060) (k17 : 0 ≤ x17 ∧ x17 ≤ 80) (k21 : (-2) ≤ x21 ∧ x21 ≤ 26000060) (f5 : 1 * x17 + ((-1) * x9 + 0) ≤ 0) (f6 : (-1) * x17 + (1 * x9 + 0) ≤ 0) (f13 : 1 * x21 + ((-1) * x10 + 0) ≤ 0) (f14 : (-1) * x21 + (1 * x10 + 0) ≤ 0) (f21 : 1 * x9 + ((-1) * pm_0 + 0) ≤ (-1)) (f22 : GOK (pn_0) (pm_0) (pt_0) (ph_0)) (kz_0_31 : 0 ≤ pn_0 ∧ pn_0 ≤ 25) (kz_0_32 : 0 ≤ pm_0 ∧ pm_0 ≤ 80) (ex2 : gx = x9) (ec2 : gc = x10) : 1 * gc + ((-1) * x10 + 0) ≤ 0 := by
  have g := ‹GOK _ _ _ _›.1 x9 (by omega) (by omega)
  omega
set_option maxHeartbeats 4000000 in
theorem vc_Mo_shortest_11_9 (x9 : Int) (x10 : Int) (x17 : Int) (x21 : Int) (pt_0 : Int → Int) (ph_0 : Int → Int) (pm_0 : Int) (pn_0 : Int) (gx : Int) (gc : Int) (k9 : 0 ≤ x9 ∧ x9 ≤ 79) (k10 : (-2) ≤ x10 ∧ x10 ≤ 26000060) (k17 : 0 ≤ x17 ∧ x17 ≤ 80) (k21 : (-2) ≤ x21 ∧ x21 ≤ 26000060) (f5 : 1 * x17 + ((-1) * x9 + 0) ≤ 0) (f6 : (-1) * x17 + (1 * x9 + 0) ≤ 0) (f13 : 1 * x21 + ((-1) * x10 + 0) ≤ 0) (f14 : (-1) * x21 + (1 * x10 + 0) ≤ 0) (f21 : 1 * x9 + ((-1) * pm_0 + 0) ≤ (-1)) (f22 : GOK (pn_0) (pm_0) (pt_0) (ph_0)) (kz_0_31 : 0 ≤ pn_0 ∧ pn_0 ≤ 25) (kz_0_32 : 0 ≤ pm_0 ∧ pm_0 ≤ 80) (ex2 : gx = x9) (ec2 : gc = x10) : (-1) * gc + (1 * x10 + 0) ≤ 0 := by
  have g := ‹GOK _ _ _ _›.1 x9 (by omega) (by omega)
  omega
set_option maxHeartbeats 4000000 in
theorem vc_Mo_shortest_11_10 (x1 : Int) (x2 : Int) (x3 : Int) (pt_0 : Int → Int) (ph_0 : Int → Int) (drawnEdge_0 : Int → Int) (pieceOf_0 : Int → Int) (pm_0 : Int) (onlyPiece_0 : Int) (pn_0 : Int) (drawnNode_0 : Int → Int) (toGoal_0 : Int → Int) (k1 : 0 ≤ x1 ∧ x1 ≤ 24) (k2 : 0 ≤ x2 ∧ x2 ≤ 24) (k3 : 0 ≤ x3 ∧ x3 ≤ 1) (f30 : TGI (pn_0) (pm_0) (onlyPiece_0) (pt_0) (ph_0) (drawnEdge_0) (pieceOf_0) (drawnNode_0) (toGoal_0) (x1) (x2) (x3)) (kz_0_31 : 0 ≤ pn_0 ∧ pn_0 ≤ 25) (kz_0_32 : 0 ≤ pm_0 ∧ pm_0 ≤ 80) (kz_0_49 : (-1) ≤ onlyPiece_0 ∧ onlyPiece_0 ≤ 79) : TGI (pn_0) (pm_0) (onlyPiece_0) (pt_0) (ph_0) (drawnEdge_0) (pieceOf_0) (drawnNode_0) (toGoal_0) (x1) (x2) (x3) := by
  first | assumption
set_option maxHeartbeats 4000000 in
theorem vc_Mo_shortest_11_11 (x1 : Int) (x2 : Int) (x3 : Int) (x9 : Int) (x14 : Int) (x16 : Int) (x23 : Int) (x24 : Int) (x25 : Int) (pt_0 : Int → Int) (ph_0 : Int → Int) (drawnEdge_0 : Int → Int) (pieceOf_0 : Int → Int) (onlyPiece_0 : Int) (drawnNode_0 : Int → Int) (toGoal_0 : Int → Int) (gx : Int) (gy : Int) (gu : Int) (gw : Int) (k1 : 0 ≤ x1 ∧ x1 ≤ 24) (k2 : 0 ≤ x2 ∧ x2 ≤ 24) (k3 : 0 ≤ x3 ∧ x3 ≤ 1) (k9 : 0 ≤ x9 ∧ x9 ≤ 79) (k23 : 1 ≤ x23 ∧ x23 ≤ 1) (k24 : 0 ≤ x24 ∧ x24 ≤ 24) (k25 : 0 ≤ x25 ∧ x25 ≤ 24) (kz_0_49 : (-1) ≤ onlyPiece_0 ∧ onlyPiece_0 ≤ 79) (ex2 : gx = x9) (ey2 : gy = x23) (eu2 : gu = x25) (ew2 : gw = x24) : TG3 (onlyPiece_0) (pt_0) (ph_0) (drawnEdge_0) (pieceOf_0) (drawnNode_0) (toGoal_0) (x1) (x2) (x3) (gx) (gy) (gu) (gw) := by
  first
    | (intro h; exfalso; omega)
    | (have c := ‹CLO _ _ _ _ _ _ _ _ _ _ _ _ _ _ _ _ _ _ _›
       have c1 := c.1 (by omega)
       intro h
       have t := c1.1 (by omega)
       rw [ex2, eu2, ew2]
       exact ⟨fun e a b => t.1 e a (by omega), by have := c1.2.1; rw [show x14 = x25 by omega, show x16 = x24 by omega] at this; exact this⟩)
set_option maxHeartbeats 4000000 in
theorem vc_Mo_shortest_11_12 (x1 : Int) (x2 : Int) (x3 : Int) (x10 : Int) (x14 : Int) (x16 : Int) (x17 : Int) (x18 : Int) (x19 : Int) (x20 : Int) (x21 : Int) (x22 : Int) (x23 : Int) (pt_0 : Int → Int) (ph_0 : Int → Int) (drawnEdge_0 : Int → Int) (pieceOf_0 : Int → Int) (onlyPiece_0 : Int) (pn_0 : Int) (drawnNode_0 : Int → Int) (toGoal_0 : Int → Int) (gy : Int) (gc : Int) (k1 : 0 ≤ x1 ∧ x1 ≤ 24) (k2 : 0 ≤ x2 ∧ x2 ≤ 24) (k3 : 0 ≤ x3 ∧ x3 ≤ 1) (k10 : (-2) ≤ x10 ∧ x10 ≤ 26000060) (k14 : 0 ≤ x14 ∧ x14 ≤ 24) (k16 : 0 ≤ x16 ∧ x16 ≤ 24) (k17 : 0 ≤ x17 ∧ x17 ≤ 80) (k18 : 0 ≤ x18 ∧ x18 ≤ 1) (k19 : 0 ≤ x19 ∧ x19 ≤ 24) (k20 : 0 ≤ x20 ∧ x20 ≤ 24) (k21 : (-2) ≤ x21 ∧ x21 ≤ 26000060) (k22 : 1 ≤ x22 ∧ x22 ≤ 1) (k23 : 1 ≤ x23 ∧ x23 ≤ 1) (f4 : x22 ≠ 0) (f13 : 1 * x21 + ((-1) * x10 + 0) ≤ 0) (f14 : (-1) * x21 + (1 * x10 + 0) ≤ 0) (f31 : CLO (pn_0) (onlyPiece_0) (pt_0) (ph_0) (drawnEdge_0) (pieceOf_0) (drawnNode_0) (toGoal_0) (x14) (x16) (x1) (x2) (x3) (x17) (x18) (x19) (x20) (x21) (x22)) (kz_0_31 : 0 ≤ pn_0 ∧ pn_0 ≤ 25) (kz_0_49 : (-1) ≤ onlyPiece_0 ∧ onlyPiece_0 ≤ 79) (ey2 : gy = x23) (ec2 : gc = x10) : SMN (pn_0) (toGoal_0) (gy) (gc) := by
  have c := ‹CLO _ _ _ _ _ _ _ _ _ _ _ _ _ _ _ _ _ _ _›
  unfold SMN
  first
    | (have := c.2 (by omega); omega)
    | (have := (c.1 (by omega)).2.2; omega)
set_option maxHeartbeats 4000000 in
theorem vc_Mo_shortest_11_13 (x9 : Int) (x12 : Int) (x17 : Int) (x24 : Int) (x25 : Int) (pt_0 : Int → Int) (ph_0 : Int → Int) (drawnEdge_0 : Int → Int) (pieceOf_0 : Int → Int) (pm_0 : Int) (onlyPiece_0 : Int) (gx : Int) (k9 : 0 ≤ x9 ∧ x9 ≤ 79) (k12 : 1 ≤ x12 ∧ x12 ≤ 1) (k17 : 0 ≤ x17 ∧ x17 ≤ 80) (k24 : 0 ≤ x24 ∧ x24 ≤ 24) (k25 : 0 ≤ x25 ∧ x25 ≤ 24) (h0 : x25 = pt_0 (x9)) (h2 : x24 = ph_0 (x9)) (f5 : 1 * x17 + ((-1) * x9 + 0) ≤ 0) (f6 : (-1) * x17 + (1 * x9 + 0) ≤ 0) (f20 : MGP (onlyPiece_0) (drawnEdge_0) (pieceOf_0) (x9) (x12)) (f21 : 1 * x9 + ((-1) * pm_0 + 0) ≤ (-1)) (f43 : x12 ≠ 0) (kz_0_32 : 0 ≤ pm_0 ∧ pm_0 ≤ 80) (kz_0_49 : (-1) ≤ onlyPiece_0 ∧ onlyPiece_0 ≤ 79) (ex2 : gx = x9) : ARC (pm_0) (onlyPiece_0) (pt_0) (ph_0) (drawnEdge_0) (pieceOf_0) (x24) (x25) := by
  exact ⟨x9, by omega, by omega, ‹MGP _ _ _ _ _›.mp (by omega), Or.inr ⟨by omega, by omega⟩⟩
set_option maxHeartbeats 4000000 in
theorem vc_Mo_shortest_11_14 (x9 : Int) (x16 : Int) (x17 : Int) (x24 : Int) (pt_0 : Int → Int) (ph_0 : Int → Int) (pm_0 : Int) (pn_0 : Int) (gx : Int) (gw : Int) (k9 : 0 ≤ x9 ∧ x9 ≤ 79) (k16 : 0 ≤ x16 ∧ x16 ≤ 24) (k17 : 0 ≤ x17 ∧ x17 ≤ 80) (k24 : 0 ≤ x24 ∧ x24 ≤ 24) (h2 : x24 = ph_0 (x9)) (f5 : 1 * x17 + ((-1) * x9 + 0) ≤ 0) (f6 : (-1) * x17 + (1 * x9 + 0) ≤ 0) (f17 : 1 * x16 + ((-1) * pn_0 + 0) ≤ (-1)) (f19 : x16 = ph_0 (x9)) (f21 : 1 * x9 + ((-1) * pm_0 + 0) ≤ (-1)) (f22 : GOK (pn_0) (pm_0) (pt_0) (ph_0)) (kz_0_31 : 0 ≤ pn_0 ∧ pn_0 ≤ 25) (kz_0_32 : 0 ≤ pm_0 ∧ pm_0 ≤ 80) (ex2 : gx = x9) (ew2 : gw = x24) : 1 * x24 + ((-1) * pn_0 + 0) ≤ (-1) := by
  have g := ‹GOK _ _ _ _›.1 x9 (by omega) (by omega)
  omega
set_option maxHeartbeats 4000000 in
theorem vc_Mo_shortest_11_15 (x9 : Int) (x14 : Int) (x17 : Int) (x25 : Int) (pt_0 : Int → Int) (ph_0 : Int → Int) (pm_0 : Int) (pn_0 : Int) (gx : Int) (gu : Int) (k9 : 0 ≤ x9 ∧ x9 ≤ 79) (k14 : 0 ≤ x14 ∧ x14 ≤ 24) (k17 : 0 ≤ x17 ∧ x17 ≤ 80) (k25 : 0 ≤ x25 ∧ x25 ≤ 24) (h0 : x25 = pt_0 (x9)) (f5 : 1 * x17 + ((-1) * x9 + 0) ≤ 0) (f6 : (-1) * x17 + (1 * x9 + 0) ≤ 0) (f16 : 1 * x14 + ((-1) * pn_0 + 0) ≤ (-1)) (f18 : x14 = pt_0 (x9)) (f21 : 1 * x9 + ((-1) * pm_0 + 0) ≤ (-1)) (f22 : GOK (pn_0) (pm_0) (pt_0) (ph_0)) (kz_0_31 : 0 ≤ pn_0 ∧ pn_0 ≤ 25) (kz_0_32 : 0 ≤ pm_0 ∧ pm_0 ≤ 80) (ex2 : gx = x9) (eu2 : gu = x25) : 1 * x25 + ((-1) * pn_0 + 0) ≤ (-1) := by
  have g := ‹GOK _ _ _ _›.1 x9 (by omega) (by omega)
  omega
set_option maxHeartbeats 4000000 in
theorem vc_Mo_shortest_11_16 (x9 : Int) (x17 : Int) (x24 : Int) (pt_0 : Int → Int) (ph_0 : Int → Int) (pm_0 : Int) (pn_0 : Int) (gx : Int) (k9 : 0 ≤ x9 ∧ x9 ≤ 79) (k17 : 0 ≤ x17 ∧ x17 ≤ 80) (k24 : 0 ≤ x24 ∧ x24 ≤ 24) (h2 : x24 = ph_0 (x9)) (f5 : 1 * x17 + ((-1) * x9 + 0) ≤ 0) (f6 : (-1) * x17 + (1 * x9 + 0) ≤ 0) (f21 : 1 * x9 + ((-1) * pm_0 + 0) ≤ (-1)) (f22 : GOK (pn_0) (pm_0) (pt_0) (ph_0)) (kz_0_31 : 0 ≤ pn_0 ∧ pn_0 ≤ 25) (kz_0_32 : 0 ≤ pm_0 ∧ pm_0 ≤ 80) (ex2 : gx = x9) : x24 = ph_0 (x9) := by
  have g := ‹GOK _ _ _ _›.1 x9 (by omega) (by omega)
  omega
set_option maxHeartbeats 4000000 in
theorem vc_Mo_shortest_11_17 (x9 : Int) (x17 : Int) (x25 : Int) (pt_0 : Int → Int) (ph_0 : Int → Int) (pm_0 : Int) (pn_0 : Int) (gx : Int) (k9 : 0 ≤ x9 ∧ x9 ≤ 79) (k17 : 0 ≤ x17 ∧ x17 ≤ 80) (k25 : 0 ≤ x25 ∧ x25 ≤ 24) (h0 : x25 = pt_0 (x9)) (f5 : 1 * x17 + ((-1) * x9 + 0) ≤ 0) (f6 : (-1) * x17 + (1 * x9 + 0) ≤ 0) (f21 : 1 * x9 + ((-1) * pm_0 + 0) ≤ (-1)) (f22 : GOK (pn_0) (pm_0) (pt_0) (ph_0)) (kz_0_31 : 0 ≤ pn_0 ∧ pn_0 ≤ 25) (kz_0_32 : 0 ≤ pm_0 ∧ pm_0 ≤ 80) (ex2 : gx = x9) : x25 = pt_0 (x9) := by
  have g := ‹GOK _ _ _ _›.1 x9 (by omega) (by omega)
  omega
def o_Mo_shortest_11 : or_T := (127, 26, [(0, (2, 0, 0, [165])), (1, (0, 0, 24, [])), (2, (0, 0, 24, [])), (3, (0, 0, 1, [])), (4, (2, 0, 0, [165])), (5, (0, 0, 24, [])), (6, (0, 0, 24, [])), (7, (0, 0, 1, [])), (8, (0, 0, 1, [])), (9, (0, 0, 79, [])), (10, (0, -2, 26000060, [])), (11, (0, 1, 80, [])), (12, (0, 1, 1, [])), (13, (2, 0, 0, [180])), (14, (0, 0, 24, [])), (15, (2, 0, 0, [181])), (16, (0, 0, 24, [])), (17, (0, 0, 80, [])), (18, (0, 0, 1, [])), (19, (0, 0, 24, [])), (20, (0, 0, 24, [])), (21, (0, -2, 26000060, [])), (22, (0, 1, 1, [])), (23, (0, 1, 1, [])), (24, (0, 0, 24, [])), (25, (0, 0, 24, []))], [(10, [25, 13, 9], []), (9, [13, 4], [33]), (10, [24, 15, 9], []), (9, [15, 4], [34]), (8, [22], [1]), (23, [17, 9], [0, 1, -1]), (23, [17, 9], [0, -1, 1]), (23, [18, 8], [0, 1, -1]), (23, [18, 8], [0, -1, 1]), (23, [19, 6], [0, 1, -1]), (23, [19, 6], [0, -1, 1]), (23, [20, 6], [0, 1, -1]), (23, [20, 6], [0, -1, 1]), (23, [21, 10], [0, 1, -1]), (23, [21, 10], [0, -1, 1]), (20, [4, 14, 16], [60, 2, 4, 121, 32, 49, 33, 34, 43, 44]), (20, [14, 4], [30, -1, 1, 0, 0, -1, 1, 31]), (20, [16, 4], [30, -1, 1, 0, 0, -1, 1, 31]), (20, [14, 4, 9], [50, 0, 1, 1033, 1, 2, 1, 0, 3, 1, 33, 1, 2]), (20, [16, 4, 9], [50, 0, 1, 1034, 1, 2, 1, 0, 3, 1, 34, 1, 2]), (20, [4, 9, 12], [60, 1, 2, 120, 49, 43, 44]), (20, [9, 4], [30, -1, 1, 0, 0, -1, 1, 32]), (20, [4], [60, 2, 2, 75, 31, 32, 33, 34]), (20, [4], [60, 1, 2, 122, 32, 35, 43]), (20, [5, 4], [30, -1, 1, 0, 0, -1, 1, 31]), (20, [6, 4], [30, -1, 1, 0, 0, -1, 1, 31]), (24, [0, 4], []), (24, [1, 5], []), (24, [2, 6], []), (24, [3, 7], []), (20, [4, 5, 6, 7], [60, 3, 6, 124, 31, 32, 49, 33, 34, 43, 44, 42, 48]), (20, [4, 14, 16, 5, 6, 7, 17, 18, 19, 20, 21, 22], [60, 2, 6, 129, 31, 49, 33, 34, 43, 44, 42, 48]), (102, [21], [6277101735386680763835789423207666416102355444464034512896]), (23, [17, 9], [0, 1, -1]), (23, [17, 9], [0, -1, 1]), (23, [18, 8], [0, 1, -1]), (23, [18, 8], [0, -1, 1]), (23, [19, 6], [0, 1, -1]), (23, [19, 6], [0, -1, 1]), (23, [20, 6], [0, 1, -1]), (23, [20, 6], [0, -1, 1]), (23, [21, 10], [0, 1, -1]), (23, [21, 10], [0, -1, 1]), (8, [12], [1]), (7, [9, 11], [2])], [], [(0, 0, 80, []), (0, 0, 1, []), (0, 0, 24, []), (0, 0, 24, []), (0, -2, 26000060, [])], [(23, [26, 9], [0, 1, -1]), (23, [26, 9], [0, -1, 1]), (23, [27, 23], [0, 1, -1]), (23, [27, 23], [0, -1, 1]), (23, [28, 25], [0, 1, -1]), (23, [28, 25], [0, -1, 1]), (23, [29, 24], [0, 1, -1]), (23, [29, 24], [0, -1, 1]), (23, [30, 10], [0, 1, -1]), (23, [30, 10], [0, -1, 1]), (20, [4, 5, 6, 7], [60, 3, 6, 124, 31, 32, 49, 33, 34, 43, 44, 42, 48]), (20, [4, 5, 6, 7, 26, 27, 28, 29], [60, 1, 6, 125, 49, 33, 34, 43, 44, 42, 48]), (20, [4, 27, 30], [60, 1, 1, 128, 31, 48]), (20, [4, 24, 25], [60, 2, 4, 121, 32, 49, 33, 34, 43, 44]), (20, [24, 4], [30, -1, 1, 0, 0, -1, 1, 31]), (20, [25, 4], [30, -1, 1, 0, 0, -1, 1, 31]), (20, [24, 4, 9], [50, 0, 1, 1034, 1, 2, 1, 0, 3, 1, 34, 1, 2]), (20, [25, 4, 9], [50, 0, 1, 1033, 1, 2, 1, 0, 3, 1, 33, 1, 2])], [], [(9, 11, -4294967296, -1), (1, 5, -4294967296, 0), (2, 6, -4294967296, 0), (3, 7, -4294967296, 0), (5, 1, -4294967296, 0), (6, 2, -4294967296, 0), (7, 3, -4294967296, 0), (8, 9, -4294967296, 0)])
theorem oo_Mo_shortest_11 {kA : Nat → ClassId} : or_ok PRD kA GG o_Mo_shortest_11 := by
  refine or_mk fun A ta ws vs hD hth hl => ?_
  intro t0 r0 t1 k1 t2 k2 t3 k3 t4 r4 t5 k5 t6 k6 t7 k7 t8 k8 t9 k9 t10 k10 t11 k11 t12 k12 t13 r13 t14 k14 t15 r15 t16 k16 t17 k17 t18 k18 t19 k19 t20 k20 t21 k21 t22 k22 t23 k23 t24 k24 t25 k25 d0 d1 d2 d3 d4 d5 d6 d7 f0 f1 f2 f3 f4 f5 f6 f7 f8 f9 f10 f11 f12 f13 f14 f15 f16 f17 f18 f19 f20 f21 f22 f23 f24 f25 f26 f27 f28 f29 f30 f31 ta1 w1 le1 s1 f33 f34 f35 f36 f37 f38 f39 f40 f41 f42 f43 f44
  replace f0 := shm_107 f0
  replace f1 := shm_494 f1
  replace f2 := shm_107 f2
  replace f3 := shm_496 f3
  replace f4 := shm_142 f4
  replace f5 := shm_7 f5
  replace f6 := shm_22 f6
  replace f13 := shm_7 f13
  replace f14 := shm_22 f14
  replace f16 := shm_553 f16
  replace f17 := shm_553 f17
  replace f18 := shm_1465 f18
  replace f19 := shm_1466 f19
  replace f20 := shm_638 f20
  replace f21 := shm_975 f21
  replace f22 := shm_575 f22
  replace f26 := shm_5 f26
  replace f27 := shm_5 f27
  replace f28 := shm_5 f28
  replace f29 := shm_5 f29
  replace f30 := shm_549 f30
  replace f31 := shm_554 f31
  replace f43 := shm_142 f43
  have q4 : n_v vs 4 = n_v vs 0 := f26.symm
  have q5 : n_v vs 5 = n_v vs 1 := f27.symm
  have q6 : n_v vs 6 = n_v vs 2 := f28.symm
  have q7 : n_v vs 7 = n_v vs 3 := f29.symm
  simp only [q4, q6, q5, q7] at f1 f3 f16 f17 f18 f19 f20 f21 f22 f30 f31
  have ad_13 : v_ad (n_v vs 13) = w_ar ws (n_v vs 0) 33 := congrArg v_ad f1
  have ad_15 : v_ad (n_v vs 15) = w_ar ws (n_v vs 0) 34 := congrArg v_ad f3
  simp only [ad_13] at f0
  have h0 : v_iv (n_v vs 25) = w_ei ws (w_ar ws (n_v vs 0) 33) (v_iv (n_v vs 9)) := f0
  simp only [ad_15] at f2
  have h2 : v_iv (n_v vs 24) = w_ei ws (w_ar ws (n_v vs 0) 34) (v_iv (n_v vs 9)) := f2
  have kz_0_31 := fdq_145 hD hth r0
  have kz_0_32 := fdq_140 hD hth r0
  have kz_0_49 := fdq_146 hD hth r0
  obtain ⟨x, ex, hx⟩ := iv_ex (ta := ta) (lo := 0) (hi := 80) (z := v_iv (n_v vs 9)) (by omega) (by omega) (by omega) (by omega)
  have ex2 : v_iv (Value.int x) = v_iv (n_v vs 9) := ex
  have ex3 : 0 ≤ v_iv (Value.int x) ∧ v_iv (Value.int x) ≤ 80 := tv_rng hx
  obtain ⟨y, ey, hy⟩ := iv_ex (ta := ta) (lo := 0) (hi := 1) (z := v_iv (n_v vs 23)) (by omega) (by omega) (by omega) (by omega)
  have ey2 : v_iv (Value.int y) = v_iv (n_v vs 23) := ey
  have ey3 : 0 ≤ v_iv (Value.int y) ∧ v_iv (Value.int y) ≤ 1 := tv_rng hy
  obtain ⟨u, eu, hu⟩ := iv_ex (ta := ta) (lo := 0) (hi := 24) (z := v_iv (n_v vs 25)) (by omega) (by omega) (by omega) (by omega)
  have eu2 : v_iv (Value.int u) = v_iv (n_v vs 25) := eu
  have eu3 : 0 ≤ v_iv (Value.int u) ∧ v_iv (Value.int u) ≤ 24 := tv_rng hu
  obtain ⟨w, ew, hw⟩ := iv_ex (ta := ta) (lo := 0) (hi := 24) (z := v_iv (n_v vs 24)) (by omega) (by omega) (by omega) (by omega)
  have ew2 : v_iv (Value.int w) = v_iv (n_v vs 24) := ew
  have ew3 : 0 ≤ v_iv (Value.int w) ∧ v_iv (Value.int w) ≤ 24 := tv_rng hw
  obtain ⟨c, ec, hc⟩ := iv_ex (ta := ta) (lo := (-2)) (hi := 26000060) (z := v_iv (n_v vs 10)) (by omega) (by omega) (by omega) (by omega)
  have ec2 : v_iv (Value.int c) = v_iv (n_v vs 10) := ec
  have ec3 : (-2) ≤ v_iv (Value.int c) ∧ v_iv (Value.int c) ≤ 26000060 := tv_rng hc
  have e_4 : n_v (vs ++ [Value.int x, Value.int y, Value.int u, Value.int w, Value.int c]) 4 = n_v vs 4 := n_v_old (by rw [hl]; decide)
  have e_5 : n_v (vs ++ [Value.int x, Value.int y, Value.int u, Value.int w, Value.int c]) 5 = n_v vs 5 := n_v_old (by rw [hl]; decide)
  have e_6 : n_v (vs ++ [Value.int x, Value.int y, Value.int u, Value.int w, Value.int c]) 6 = n_v vs 6 := n_v_old (by rw [hl]; decide)
  have e_7 : n_v (vs ++ [Value.int x, Value.int y, Value.int u, Value.int w, Value.int c]) 7 = n_v vs 7 := n_v_old (by rw [hl]; decide)
  have e_9 : n_v (vs ++ [Value.int x, Value.int y, Value.int u, Value.int w, Value.int c]) 9 = n_v vs 9 := n_v_old (by rw [hl]; decide)
  have e_10 : n_v (vs ++ [Value.int x, Value.int y, Value.int u, Value.int w, Value.int c]) 10 = n_v vs 10 := n_v_old (by rw [hl]; decide)
  have e_23 : n_v (vs ++ [Value.int x, Value.int y, Value.int u, Value.int w, Value.int c]) 23 = n_v vs 23 := n_v_old (by rw [hl]; decide)
  have e_24 : n_v (vs ++ [Value.int x, Value.int y, Value.int u, Value.int w, Value.int c]) 24 = n_v vs 24 := n_v_old (by rw [hl]; decide)
  have e_25 : n_v (vs ++ [Value.int x, Value.int y, Value.int u, Value.int w, Value.int c]) 25 = n_v vs 25 := n_v_old (by rw [hl]; decide)
  have e_26 : n_v (vs ++ [Value.int x, Value.int y, Value.int u, Value.int w, Value.int c]) 26 = Value.int x := n_v_newk (k := 0) hl rfl
  have e_27 : n_v (vs ++ [Value.int x, Value.int y, Value.int u, Value.int w, Value.int c]) 27 = Value.int y := n_v_newk (k := 1) hl rfl
  have e_28 : n_v (vs ++ [Value.int x, Value.int y, Value.int u, Value.int w, Value.int c]) 28 = Value.int u := n_v_newk (k := 2) hl rfl
  have e_29 : n_v (vs ++ [Value.int x, Value.int y, Value.int u, Value.int w, Value.int c]) 29 = Value.int w := n_v_newk (k := 3) hl rfl
  have e_30 : n_v (vs ++ [Value.int x, Value.int y, Value.int u, Value.int w, Value.int c]) 30 = Value.int c := n_v_newk (k := 4) hl rfl
  have nf0 : fc_1 PRD (23, [26, 9], [0, 1, -1]) ws (vs ++ [Value.int x, Value.int y, Value.int u, Value.int w, Value.int c]) := by
    refine ⟨nf_inA hl rfl, sgq_7 ?_⟩
    · show 1 * v_iv (n_v (vs ++ [Value.int x, Value.int y, Value.int u, Value.int w, Value.int c]) 26) + ((-1) * v_iv (n_v (vs ++ [Value.int x, Value.int y, Value.int u, Value.int w, Value.int c]) 9) + 0) ≤ 0
      simp only [e_9, e_26]
      exact vc_Mo_shortest_11_0 (v_iv (n_v vs 9)) (v_iv (n_v vs 17)) (w_ei ws (w_ar ws (n_v vs 0) 33)) (w_ei ws (w_ar ws (n_v vs 0) 34)) (w_fi ws (n_v vs 0) 32) (w_fi ws (n_v vs 0) 31) (v_iv (Value.int x)) k9 k17 f5 f6 f21 f22 kz_0_31 kz_0_32 ex2
  have nf1 : fc_1 PRD (23, [26, 9], [0, -1, 1]) ws (vs ++ [Value.int x, Value.int y, Value.int u, Value.int w, Value.int c]) := by
    refine ⟨nf_inA hl rfl, sgq_22 ?_⟩
    · show (-1) * v_iv (n_v (vs ++ [Value.int x, Value.int y, Value.int u, Value.int w, Value.int c]) 26) + (1 * v_iv (n_v (vs ++ [Value.int x, Value.int y, Value.int u, Value.int w, Value.int c]) 9) + 0) ≤ 0
      simp only [e_9, e_26]
      exact vc_Mo_shortest_11_1 (v_iv (n_v vs 9)) (v_iv (n_v vs 17)) (w_ei ws (w_ar ws (n_v vs 0) 33)) (w_ei ws (w_ar ws (n_v vs 0) 34)) (w_fi ws (n_v vs 0) 32) (w_fi ws (n_v vs 0) 31) (v_iv (Value.int x)) k9 k17 f5 f6 f21 f22 kz_0_31 kz_0_32 ex2
  have nf2 : fc_1 PRD (23, [27, 23], [0, 1, -1]) ws (vs ++ [Value.int x, Value.int y, Value.int u, Value.int w, Value.int c]) := by
    refine ⟨nf_inA hl rfl, sgq_7 ?_⟩
    · show 1 * v_iv (n_v (vs ++ [Value.int x, Value.int y, Value.int u, Value.int w, Value.int c]) 27) + ((-1) * v_iv (n_v (vs ++ [Value.int x, Value.int y, Value.int u, Value.int w, Value.int c]) 23) + 0) ≤ 0
      simp only [e_23, e_27]
      exact vc_Mo_shortest_11_2 (v_iv (n_v vs 9)) (v_iv (n_v vs 17)) (v_iv (n_v vs 23)) (w_ei ws (w_ar ws (n_v vs 0) 33)) (w_ei ws (w_ar ws (n_v vs 0) 34)) (w_fi ws (n_v vs 0) 32) (w_fi ws (n_v vs 0) 31) (v_iv (Value.int x)) (v_iv (Value.int y)) k9 k17 k23 f5 f6 f21 f22 kz_0_31 kz_0_32 ex2 ey2
  have nf3 : fc_1 PRD (23, [27, 23], [0, -1, 1]) ws (vs ++ [Value.int x, Value.int y, Value.int u, Value.int w, Value.int c]) := by
    refine ⟨nf_inA hl rfl, sgq_22 ?_⟩
    · show (-1) * v_iv (n_v (vs ++ [Value.int x, Value.int y, Value.int u, Value.int w, Value.int c]) 27) + (1 * v_iv (n_v (vs ++ [Value.int x, Value.int y, Value.int u, Value.int w, Value.int c]) 23) + 0) ≤ 0
      simp only [e_23, e_27]
      exact vc_Mo_shortest_11_3 (v_iv (n_v vs 9)) (v_iv (n_v vs 17)) (v_iv (n_v vs 23)) (w_ei ws (w_ar ws (n_v vs 0) 33)) (w_ei ws (w_ar ws (n_v vs 0) 34)) (w_fi ws (n_v vs 0) 32) (w_fi ws (n_v vs 0) 31) (v_iv (Value.int x)) (v_iv (Value.int y)) k9 k17 k23 f5 f6 f21 f22 kz_0_31 kz_0_32 ex2 ey2
  have nf4 : fc_1 PRD (23, [28, 25], [0, 1, -1]) ws (vs ++ [Value.int x, Value.int y, Value.int u, Value.int w, Value.int c]) := by
    refine ⟨nf_inA hl rfl, sgq_7 ?_⟩
    · show 1 * v_iv (n_v (vs ++ [Value.int x, Value.int y, Value.int u, Value.int w, Value.int c]) 28) + ((-1) * v_iv (n_v (vs ++ [Value.int x, Value.int y, Value.int u, Value.int w, Value.int c]) 25) + 0) ≤ 0
      simp only [e_25, e_28]
      exact vc_Mo_shortest_11_4 (v_iv (n_v vs 9)) (v_iv (n_v vs 17)) (v_iv (n_v vs 25)) (w_ei ws (w_ar ws (n_v vs 0) 33)) (w_ei ws (w_ar ws (n_v vs 0) 34)) (w_fi ws (n_v vs 0) 32) (w_fi ws (n_v vs 0) 31) (v_iv (Value.int x)) (v_iv (Value.int u)) k9 k17 k25 h0 f5 f6 f21 f22 kz_0_31 kz_0_32 ex2 eu2
  have nf5 : fc_1 PRD (23, [28, 25], [0, -1, 1]) ws (vs ++ [Value.int x, Value.int y, Value.int u, Value.int w, Value.int c]) := by
    refine ⟨nf_inA hl rfl, sgq_22 ?_⟩
    · show (-1) * v_iv (n_v (vs ++ [Value.int x, Value.int y, Value.int u, Value.int w, Value.int c]) 28) + (1 * v_iv (n_v (vs ++ [Value.int x, Value.int y, Value.int u, Value.int w, Value.int c]) 25) + 0) ≤ 0
      simp only [e_25, e_28]
      exact vc_Mo_shortest_11_5 (v_iv (n_v vs 9)) (v_iv (n_v vs 17)) (v_iv (n_v vs 25)) (w_ei ws (w_ar ws (n_v vs 0) 33)) (w_ei ws (w_ar ws (n_v vs 0) 34)) (w_fi ws (n_v vs 0) 32) (w_fi ws (n_v vs 0) 31) (v_iv (Value.int x)) (v_iv (Value.int u)) k9 k17 k25 h0 f5 f6 f21 f22 kz_0_31 kz_0_32 ex2 eu2
  have nf6 : fc_1 PRD (23, [29, 24], [0, 1, -1]) ws (vs ++ [Value.int x, Value.int y, Value.int u, Value.int w, Value.int c]) := by
    refine ⟨nf_inA hl rfl, sgq_7 ?_⟩
    · show 1 * v_iv (n_v (vs ++ [Value.int x, Value.int y, Value.int u, Value.int w, Value.int c]) 29) + ((-1) * v_iv (n_v (vs ++ [Value.int x, Value.int y, Value.int u, Value.int w, Value.int c]) 24) + 0) ≤ 0
      simp only [e_24, e_29]
      exact vc_Mo_shortest_11_6 (v_iv (n_v vs 9)) (v_iv (n_v vs 17)) (v_iv (n_v vs 24)) (w_ei ws (w_ar ws (n_v vs 0) 33)) (w_ei ws (w_ar ws (n_v vs 0) 34)) (w_fi ws (n_v vs 0) 32) (w_fi ws (n_v vs 0) 31) (v_iv (Value.int x)) (v_iv (Value.int w)) k9 k17 k24 h2 f5 f6 f21 f22 kz_0_31 kz_0_32 ex2 ew2
  have nf7 : fc_1 PRD (23, [29, 24], [0, -1, 1]) ws (vs ++ [Value.int x, Value.int y, Value.int u, Value.int w, Value.int c]) := by
    refine ⟨nf_inA hl rfl, sgq_22 ?_⟩
    · show (-1) * v_iv (n_v (vs ++ [Value.int x, Value.int y, Value.int u, Value.int w, Value.int c]) 29) + (1 * v_iv (n_v (vs ++ [Value.int x, Value.int y, Value.int u, Value.int w, Value.int c]) 24) + 0) ≤ 0
      simp only [e_24, e_29]
      exact vc_Mo_shortest_11_7 (v_iv (n_v vs 9)) (v_iv (n_v vs 17)) (v_iv (n_v vs 24)) (w_ei ws (w_ar ws (n_v vs 0) 33)) (w_ei ws (w_ar ws (n_v vs 0) 34)) (w_fi ws (n_v vs 0) 32) (w_fi ws (n_v vs 0) 31) (v_iv (Value.int x)) (v_iv (Value.int w)) k9 k17 k24 h2 f5 f6 f21 f22 kz_0_31 kz_0_32 ex2 ew2
  have nf8 : fc_1 PRD (23, [30, 10], [0, 1, -1]) ws (vs ++ [Value.int x, Value.int y, Value.int u, Value.int w, Value.int c]) := by
    refine ⟨nf_inA hl rfl, sgq_7 ?_⟩
    · show 1 * v_iv (n_v (vs ++ [Value.int x, Value.int y, Value.int u, Value.int w, Value.int c]) 30) + ((-1) * v_iv (n_v (vs ++ [Value.int x, Value.int y, Value.int u, Value.int w, Value.int c]) 10) + 0) ≤ 0
      simp only [e_10, e_30]
      exact vc_Mo_shortest_11_8 (v_iv (n_v vs 9)) (v_iv (n_v vs 10)) (v_iv (n_v vs 17)) (v_iv (n_v vs 21)) (w_ei ws (w_ar ws (n_v vs 0) 33)) (w_ei ws (w_ar ws (n_v vs 0) 34)) (w_fi ws (n_v vs 0) 32) (w_fi ws (n_v vs 0) 31) (v_iv (Value.int x)) (v_iv (Value.int c)) k9 k10 k17 k21 f5 f6 f13 f14 f21 f22 kz_0_31 kz_0_32 ex2 ec2
  have nf9 : fc_1 PRD (23, [30, 10], [0, -1, 1]) ws (vs ++ [Value.int x, Value.int y, Value.int u, Value.int w, Value.int c]) := by
    refine ⟨nf_inA hl rfl, sgq_22 ?_⟩
    · show (-1) * v_iv (n_v (vs ++ [Value.int x, Value.int y, Value.int u, Value.int w, Value.int c]) 30) + (1 * v_iv (n_v (vs ++ [Value.int x, Value.int y, Value.int u, Value.int w, Value.int c]) 10) + 0) ≤ 0
      simp only [e_10, e_30]
      exact vc_Mo_shortest_11_9 (v_iv (n_v vs 9)) (v_iv (n_v vs 10)) (v_iv (n_v vs 17)) (v_iv (n_v vs 21)) (w_ei ws (w_ar ws (n_v vs 0) 33)) (w_ei ws (w_ar ws (n_v vs 0) 34)) (w_fi ws (n_v vs 0) 32) (w_fi ws (n_v vs 0) 31) (v_iv (Value.int x)) (v_iv (Value.int c)) k9 k10 k17 k21 f5 f6 f13 f14 f21 f22 kz_0_31 kz_0_32 ex2 ec2
  have nf10 : fc_1 PRD (20, [4, 5, 6, 7], [60, 3, 6, 124, 31, 32, 49, 33, 34, 43, 44, 42, 48]) ws (vs ++ [Value.int x, Value.int y, Value.int u, Value.int w, Value.int c]) := by
    refine ⟨nf_inA hl rfl, sgq_549 ?_⟩
    · show TGI (w_fi ws (n_v (vs ++ [Value.int x, Value.int y, Value.int u, Value.int w, Value.int c]) 4) 31) (w_fi ws (n_v (vs ++ [Value.int x, Value.int y, Value.int u, Value.int w, Value.int c]) 4) 32) (w_fi ws (n_v (vs ++ [Value.int x, Value.int y, Value.int u, Value.int w, Value.int c]) 4) 49) (w_ei ws (w_ar ws (n_v (vs ++ [Value.int x, Value.int y, Value.int u, Value.int w, Value.int c]) 4) 33)) (w_ei ws (w_ar ws (n_v (vs ++ [Value.int x, Value.int y, Value.int u, Value.int w, Value.int c]) 4) 34)) (w_ei ws (w_ar ws (n_v (vs ++ [Value.int x, Value.int y, Value.int u, Value.int w, Value.int c]) 4) 43)) (w_ei ws (w_ar ws (n_v (vs ++ [Value.int x, Value.int y, Value.int u, Value.int w, Value.int c]) 4) 44)) (w_ei ws (w_ar ws (n_v (vs ++ [Value.int x, Value.int y, Value.int u, Value.int w, Value.int c]) 4) 42)) (w_ei ws (w_ar ws (n_v (vs ++ [Value.int x, Value.int y, Value.int u, Value.int w, Value.int c]) 4) 48)) (v_iv (n_v (vs ++ [Value.int x, Value.int y, Value.int u, Value.int w, Value.int c]) 5)) (v_iv (n_v (vs ++ [Value.int x, Value.int y, Value.int u, Value.int w, Value.int c]) 6)) (v_iv (n_v (vs ++ [Value.int x, Value.int y, Value.int u, Value.int w, Value.int c]) 7))
      simp only [e_4, e_5, e_6, e_7, q4, q5, q6, q7]
      exact vc_Mo_shortest_11_10 (v_iv (n_v vs 1)) (v_iv (n_v vs 2)) (v_iv (n_v vs 3)) (w_ei ws (w_ar ws (n_v vs 0) 33)) (w_ei ws (w_ar ws (n_v vs 0) 34)) (w_ei ws (w_ar ws (n_v vs 0) 43)) (w_ei ws (w_ar ws (n_v vs 0) 44)) (w_fi ws (n_v vs 0) 32) (w_fi ws (n_v vs 0) 49) (w_fi ws (n_v vs 0) 31) (w_ei ws (w_ar ws (n_v vs 0) 42)) (w_ei ws (w_ar ws (n_v vs 0) 48)) k1 k2 k3 f30 kz_0_31 kz_0_32 kz_0_49
  have nf11 : fc_1 PRD (20, [4, 5, 6, 7, 26, 27, 28, 29], [60, 1, 6, 125, 49, 33, 34, 43, 44, 42, 48]) ws (vs ++ [Value.int x, Value.int y, Value.int u, Value.int w, Value.int c]) := by
    refine ⟨nf_inA hl rfl, sgq_550 ?_⟩
    · show TG3 (w_fi ws (n_v (vs ++ [Value.int x, Value.int y, Value.int u, Value.int w, Value.int c]) 4) 49) (w_ei ws (w_ar ws (n_v (vs ++ [Value.int x, Value.int y, Value.int u, Value.int w, Value.int c]) 4) 33)) (w_ei ws (w_ar ws (n_v (vs ++ [Value.int x, Value.int y, Value.int u, Value.int w, Value.int c]) 4) 34)) (w_ei ws (w_ar ws (n_v (vs ++ [Value.int x, Value.int y, Value.int u, Value.int w, Value.int c]) 4) 43)) (w_ei ws (w_ar ws (n_v (vs ++ [Value.int x, Value.int y, Value.int u, Value.int w, Value.int c]) 4) 44)) (w_ei ws (w_ar ws (n_v (vs ++ [Value.int x, Value.int y, Value.int u, Value.int w, Value.int c]) 4) 42)) (w_ei ws (w_ar ws (n_v (vs ++ [Value.int x, Value.int y, Value.int u, Value.int w, Value.int c]) 4) 48)) (v_iv (n_v (vs ++ [Value.int x, Value.int y, Value.int u, Value.int w, Value.int c]) 5)) (v_iv (n_v (vs ++ [Value.int x, Value.int y, Value.int u, Value.int w, Value.int c]) 6)) (v_iv (n_v (vs ++ [Value.int x, Value.int y, Value.int u, Value.int w, Value.int c]) 7)) (v_iv (n_v (vs ++ [Value.int x, Value.int y, Value.int u, Value.int w, Value.int c]) 26)) (v_iv (n_v (vs ++ [Value.int x, Value.int y, Value.int u, Value.int w, Value.int c]) 27)) (v_iv (n_v (vs ++ [Value.int x, Value.int y, Value.int u, Value.int w, Value.int c]) 28)) (v_iv (n_v (vs ++ [Value.int x, Value.int y, Value.int u, Value.int w, Value.int c]) 29))
      simp only [e_4, e_5, e_6, e_7, e_26, e_27, e_28, e_29, q4, q5, q6, q7]
      exact vc_Mo_shortest_11_11 (v_iv (n_v vs 1)) (v_iv (n_v vs 2)) (v_iv (n_v vs 3)) (v_iv (n_v vs 9)) (v_iv (n_v vs 14)) (v_iv (n_v vs 16)) (v_iv (n_v vs 23)) (v_iv (n_v vs 24)) (v_iv (n_v vs 25)) (w_ei ws (w_ar ws (n_v vs 0) 33)) (w_ei ws (w_ar ws (n_v vs 0) 34)) (w_ei ws (w_ar ws (n_v vs 0) 43)) (w_ei ws (w_ar ws (n_v vs 0) 44)) (w_fi ws (n_v vs 0) 49) (w_ei ws (w_ar ws (n_v vs 0) 42)) (w_ei ws (w_ar ws (n_v vs 0) 48)) (v_iv (Value.int x)) (v_iv (Value.int y)) (v_iv (Value.int u)) (v_iv (Value.int w)) k1 k2 k3 k9 k23 k24 k25 kz_0_49 ex2 ey2 eu2 ew2
  have nf12 : fc_1 PRD (20, [4, 27, 30], [60, 1, 1, 128, 31, 48]) ws (vs ++ [Value.int x, Value.int y, Value.int u, Value.int w, Value.int c]) := by
    refine ⟨nf_inA hl rfl, sgq_551 ?_⟩
    · show SMN (w_fi ws (n_v (vs ++ [Value.int x, Value.int y, Value.int u, Value.int w, Value.int c]) 4) 31) (w_ei ws (w_ar ws (n_v (vs ++ [Value.int x, Value.int y, Value.int u, Value.int w, Value.int c]) 4) 48)) (v_iv (n_v (vs ++ [Value.int x, Value.int y, Value.int u, Value.int w, Value.int c]) 27)) (v_iv (n_v (vs ++ [Value.int x, Value.int y, Value.int u, Value.int w, Value.int c]) 30))
      simp only [e_4, e_27, e_30, q4]
      exact vc_Mo_shortest_11_12 (v_iv (n_v vs 1)) (v_iv (n_v vs 2)) (v_iv (n_v vs 3)) (v_iv (n_v vs 10)) (v_iv (n_v vs 14)) (v_iv (n_v vs 16)) (v_iv (n_v vs 17)) (v_iv (n_v vs 18)) (v_iv (n_v vs 19)) (v_iv (n_v vs 20)) (v_iv (n_v vs 21)) (v_iv (n_v vs 22)) (v_iv (n_v vs 23)) (w_ei ws (w_ar ws (n_v vs 0) 33)) (w_ei ws (w_ar ws (n_v vs 0) 34)) (w_ei ws (w_ar ws (n_v vs 0) 43)) (w_ei ws (w_ar ws (n_v vs 0) 44)) (w_fi ws (n_v vs 0) 49) (w_fi ws (n_v vs 0) 31) (w_ei ws (w_ar ws (n_v vs 0) 42)) (w_ei ws (w_ar ws (n_v vs 0) 48)) (v_iv (Value.int y)) (v_iv (Value.int c)) k1 k2 k3 k10 k14 k16 k17 k18 k19 k20 k21 k22 k23 f4 f13 f14 f31 kz_0_31 kz_0_49 ey2 ec2
  have nf13 : fc_1 PRD (20, [4, 24, 25], [60, 2, 4, 121, 32, 49, 33, 34, 43, 44]) ws (vs ++ [Value.int x, Value.int y, Value.int u, Value.int w, Value.int c]) := by
    refine ⟨nf_inA hl rfl, sgq_552 ?_⟩
    · show ARC (w_fi ws (n_v (vs ++ [Value.int x, Value.int y, Value.int u, Value.int w, Value.int c]) 4) 32) (w_fi ws (n_v (vs ++ [Value.int x, Value.int y, Value.int u, Value.int w, Value.int c]) 4) 49) (w_ei ws (w_ar ws (n_v (vs ++ [Value.int x, Value.int y, Value.int u, Value.int w, Value.int c]) 4) 33)) (w_ei ws (w_ar ws (n_v (vs ++ [Value.int x, Value.int y, Value.int u, Value.int w, Value.int c]) 4) 34)) (w_ei ws (w_ar ws (n_v (vs ++ [Value.int x, Value.int y, Value.int u, Value.int w, Value.int c]) 4) 43)) (w_ei ws (w_ar ws (n_v (vs ++ [Value.int x, Value.int y, Value.int u, Value.int w, Value.int c]) 4) 44)) (v_iv (n_v (vs ++ [Value.int x, Value.int y, Value.int u, Value.int w, Value.int c]) 24)) (v_iv (n_v (vs ++ [Value.int x, Value.int y, Value.int u, Value.int w, Value.int c]) 25))
      simp only [e_4, e_24, e_25, q4]
      exact vc_Mo_shortest_11_13 (v_iv (n_v vs 9)) (v_iv (n_v vs 12)) (v_iv (n_v vs 17)) (v_iv (n_v vs 24)) (v_iv (n_v vs 25)) (w_ei ws (w_ar ws (n_v vs 0) 33)) (w_ei ws (w_ar ws (n_v vs 0) 34)) (w_ei ws (w_ar ws (n_v vs 0) 43)) (w_ei ws (w_ar ws (n_v vs 0) 44)) (w_fi ws (n_v vs 0) 32) (w_fi ws (n_v vs 0) 49) (v_iv (Value.int x)) k9 k12 k17 k24 k25 h0 h2 f5 f6 f20 f21 f43 kz_0_32 kz_0_49 ex2
  have nf14 : fc_1 PRD (20, [24, 4], [30, -1, 1, 0, 0, -1, 1, 31]) ws (vs ++ [Value.int x, Value.int y, Value.int u, Value.int w, Value.int c]) := by
    refine ⟨nf_inA hl rfl, sgq_553 ?_⟩
    · show 1 * v_iv (n_v (vs ++ [Value.int x, Value.int y, Value.int u, Value.int w, Value.int c]) 24) + ((-1) * w_fi ws (n_v (vs ++ [Value.int x, Value.int y, Value.int u, Value.int w, Value.int c]) 4) 31 + 0) ≤ (-1)
      simp only [e_4, e_24, q4]
      exact vc_Mo_shortest_11_14 (v_iv (n_v vs 9)) (v_iv (n_v vs 16)) (v_iv (n_v vs 17)) (v_iv (n_v vs 24)) (w_ei ws (w_ar ws (n_v vs 0) 33)) (w_ei ws (w_ar ws (n_v vs 0) 34)) (w_fi ws (n_v vs 0) 32) (w_fi ws (n_v vs 0) 31) (v_iv (Value.int x)) (v_iv (Value.int w)) k9 k16 k17 k24 h2 f5 f6 f17 f19 f21 f22 kz_0_31 kz_0_32 ex2 ew2
  have nf15 : fc_1 PRD (20, [25, 4], [30, -1, 1, 0, 0, -1, 1, 31]) ws (vs ++ [Value.int x, Value.int y, Value.int u, Value.int w, Value.int c]) := by
    refine ⟨nf_inA hl rfl, sgq_553 ?_⟩
    · show 1 * v_iv (n_v (vs ++ [Value.int x, Value.int y, Value.int u, Value.int w, Value.int c]) 25) + ((-1) * w_fi ws (n_v (vs ++ [Value.int x, Value.int y, Value.int u, Value.int w, Value.int c]) 4) 31 + 0) ≤ (-1)
      simp only [e_4, e_25, q4]
      exact vc_Mo_shortest_11_15 (v_iv (n_v vs 9)) (v_iv (n_v vs 14)) (v_iv (n_v vs 17)) (v_iv (n_v vs 25)) (w_ei ws (w_ar ws (n_v vs 0) 33)) (w_ei ws (w_ar ws (n_v vs 0) 34)) (w_fi ws (n_v vs 0) 32) (w_fi ws (n_v vs 0) 31) (v_iv (Value.int x)) (v_iv (Value.int u)) k9 k14 k17 k25 h0 f5 f6 f16 f18 f21 f22 kz_0_31 kz_0_32 ex2 eu2
  have nf16 : fc_1 PRD (20, [24, 4, 9], [50, 0, 1, 1034, 1, 2, 1, 0, 3, 1, 34, 1, 2]) ws (vs ++ [Value.int x, Value.int y, Value.int u, Value.int w, Value.int c]) := by
    refine ⟨nf_inA hl rfl, sgq_1466 ?_⟩
    · show v_iv (n_v (vs ++ [Value.int x, Value.int y, Value.int u, Value.int w, Value.int c]) 24) = w_ei ws (w_ar ws (n_v (vs ++ [Value.int x, Value.int y, Value.int u, Value.int w, Value.int c]) 4) 34) (v_iv (n_v (vs ++ [Value.int x, Value.int y, Value.int u, Value.int w, Value.int c]) 9))
      simp only [e_4, e_9, e_24, q4]
      exact vc_Mo_shortest_11_16 (v_iv (n_v vs 9)) (v_iv (n_v vs 17)) (v_iv (n_v vs 24)) (w_ei ws (w_ar ws (n_v vs 0) 33)) (w_ei ws (w_ar ws (n_v vs 0) 34)) (w_fi ws (n_v vs 0) 32) (w_fi ws (n_v vs 0) 31) (v_iv (Value.int x)) k9 k17 k24 h2 f5 f6 f21 f22 kz_0_31 kz_0_32 ex2
  have nf17 : fc_1 PRD (20, [25, 4, 9], [50, 0, 1, 1033, 1, 2, 1, 0, 3, 1, 33, 1, 2]) ws (vs ++ [Value.int x, Value.int y, Value.int u, Value.int w, Value.int c]) := by
    refine ⟨nf_inA hl rfl, sgq_1465 ?_⟩
    · show v_iv (n_v (vs ++ [Value.int x, Value.int y, Value.int u, Value.int w, Value.int c]) 25) = w_ei ws (w_ar ws (n_v (vs ++ [Value.int x, Value.int y, Value.int u, Value.int w, Value.int c]) 4) 33) (v_iv (n_v (vs ++ [Value.int x, Value.int y, Value.int u, Value.int w, Value.int c]) 9))
      simp only [e_4, e_9, e_25, q4]
      exact vc_Mo_shortest_11_17 (v_iv (n_v vs 9)) (v_iv (n_v vs 17)) (v_iv (n_v vs 25)) (w_ei ws (w_ar ws (n_v vs 0) 33)) (w_ei ws (w_ar ws (n_v vs 0) 34)) (w_fi ws (n_v vs 0) 32) (w_fi ws (n_v vs 0) 31) (v_iv (Value.int x)) k9 k17 k25 h0 f5 f6 f21 f22 kz_0_31 kz_0_32 ex2
  exact ⟨(fun _ h => (by cases h)), [Value.int x, Value.int y, Value.int u, Value.int w, Value.int c], ag_five hx hy hu hw hc, List.forall_mem_cons.mpr ⟨⟨show (23 : Nat) < 100 from by decide, nf0⟩, List.forall_mem_cons.mpr ⟨⟨show (23 : Nat) < 100 from by decide, nf1⟩, List.forall_mem_cons.mpr ⟨⟨show (23 : Nat) < 100 from by decide, nf2⟩, List.forall_mem_cons.mpr ⟨⟨show (23 : Nat) < 100 from by decide, nf3⟩, List.forall_mem_cons.mpr ⟨⟨show (23 : Nat) < 100 from by decide, nf4⟩, List.forall_mem_cons.mpr ⟨⟨show (23 : Nat) < 100 from by decide, nf5⟩, List.forall_mem_cons.mpr ⟨⟨show (23 : Nat) < 100 from by decide, nf6⟩, List.forall_mem_cons.mpr ⟨⟨show (23 : Nat) < 100 from by decide, nf7⟩, List.forall_mem_cons.mpr ⟨⟨show (23 : Nat) < 100 from by decide, nf8⟩, List.forall_mem_cons.mpr ⟨⟨show (23 : Nat) < 100 from by decide, nf9⟩, List.forall_mem_cons.mpr ⟨⟨show (20 : Nat) < 100 from by decide, nf10⟩, List.forall_mem_cons.mpr ⟨⟨show (20 : Nat) < 100 from by decide, nf11⟩, List.forall_mem_cons.mpr ⟨⟨show (20 : Nat) < 100 from by decide, nf12⟩, List.forall_mem_cons.mpr ⟨⟨show (20 : Nat) < 100 from by decide, nf13⟩, List.forall_mem_cons.mpr ⟨⟨show (20 : Nat) < 100 from by decide, nf14⟩, List.forall_mem_cons.mpr ⟨⟨show (20 : Nat) < 100 from by decide, nf15⟩, List.forall_mem_cons.mpr ⟨⟨show (20 : Nat) < 100 from by decide, nf16⟩, List.forall_mem_cons.mpr ⟨⟨show (20 : Nat) < 100 from by decide, nf17⟩, (fun _ h => (by cases h))⟩⟩⟩⟩⟩⟩⟩⟩⟩⟩⟩⟩⟩⟩⟩⟩⟩⟩, (fun _ h => (by cases h))⟩
set_option maxHeartbeats 4000000 in
theorem vc_Mo_shortest_12_0 (x1 : Int) (x2 : Int) (x3 : Int) (x9 : Int) (x24 : Int) (x25 : Int) (x28 : Int) (x29 : Int) (x32 : Int) (x33 : Int) (pt_0 : Int → Int) (ph_0 : Int → Int) (drawnEdge_0 : Int → Int) (pieceOf_0 : Int → Int) (onlyPiece_0 : Int) (drawnNode_0 : Int → Int) (toGoal_0 : Int → Int) (k1 : 0 ≤ x1 ∧ x1 ≤ 24) (k2 : 0 ≤ x2 ∧ x2 ≤ 24) (k3 : 0 ≤ x3 ∧ x3 ≤ 1) (k32 : 1 ≤ x32 ∧ x32 ≤ 1) (k33 : 1 ≤ x33 ∧ x33 ≤ 80) (kz_0_49 : (-1) ≤ onlyPiece_0 ∧ onlyPiece_0 ≤ 79) : TG3 (onlyPiece_0) (pt_0) (ph_0) (drawnEdge_0) (pieceOf_0) (drawnNode_0) (toGoal_0) (x1) (x2) (x3) (x33) (x32) (x2) (x2) := by
  first
    | (intro h; exfalso; omega)
    | (intro h; exact ⟨fun e a b => by exfalso; omega, fun _ => by omega⟩)
    | (have c := ‹CLO _ _ _ _ _ _ _ _ _ _ _ _ _ _ _ _ _ _ _›
       have c1 := c.1 (by omega)
       intro h
       have t := c1.1 (by omega)
       refine ⟨fun e a b m => ?_, fun _ => by omega⟩
       by_cases q : e = x9
       · subst q
         refine ⟨?_, ?_⟩
         · have := t.2
           rw [show x28 = pt_0 e by omega, show x29 = ph_0 e by omega] at this; exact this
         · have := c1.2.1
           rw [show x24 = ph_0 e by omega, show x25 = pt_0 e by omega] at this; exact this
       · exact t.1 e a (by omega) m)
    | (have h := ‹TG3 _ _ _ _ _ _ _ _ _ _ _ _ _ _›
       have mg := ‹MGP _ _ _ _ _›
       intro h0
       have h1 := h h0
       refine ⟨fun e a b c => ?_, h1.2⟩
       by_cases q : e = x9
       · subst q; exact absurd (mg.mpr c) (by omega)
       · exact h1.1 e a (by omega) c)
set_option maxHeartbeats 4000000 in
theorem vc_Mo_shortest_12_1 (x1 : Int) (x2 : Int) (x3 : Int) (x10 : Int) (x24 : Int) (x25 : Int) (x26 : Int) (x27 : Int) (x28 : Int) (x29 : Int) (x30 : Int) (x31 : Int) (x32 : Int) (pt_0 : Int → Int) (ph_0 : Int → Int) (drawnEdge_0 : Int → Int) (pieceOf_0 : Int → Int) (onlyPiece_0 : Int) (pn_0 : Int) (drawnNode_0 : Int → Int) (toGoal_0 : Int → Int) (k1 : 0 ≤ x1 ∧ x1 ≤ 24) (k2 : 0 ≤ x2 ∧ x2 ≤ 24) (k3 : 0 ≤ x3 ∧ x3 ≤ 1) (k10 : (-2) ≤ x10 ∧ x10 ≤ 26000060) (k24 : 0 ≤ x24 ∧ x24 ≤ 24) (k25 : 0 ≤ x25 ∧ x25 ≤ 24) (k26 : 0 ≤ x26 ∧ x26 ≤ 80) (k27 : 0 ≤ x27 ∧ x27 ≤ 1) (k28 : 0 ≤ x28 ∧ x28 ≤ 24) (k29 : 0 ≤ x29 ∧ x29 ≤ 24) (k30 : (-2) ≤ x30 ∧ x30 ≤ 26000060) (k31 : 1 ≤ x31 ∧ x31 ≤ 1) (k32 : 1 ≤ x32 ∧ x32 ≤ 1) (f1 : x31 ≠ 0) (f10 : 1 * x30 + ((-1) * x10 + 0) ≤ 0) (f11 : (-1) * x30 + (1 * x10 + 0) ≤ 0) (f41 : CLO (pn_0) (onlyPiece_0) (pt_0) (ph_0) (drawnEdge_0) (pieceOf_0) (drawnNode_0) (toGoal_0) (x24) (x25) (x1) (x2) (x3) (x26) (x27) (x28) (x29) (x30) (x31)) (kz_0_31 : 0 ≤ pn_0 ∧ pn_0 ≤ 25) (kz_0_49 : (-1) ≤ onlyPiece_0 ∧ onlyPiece_0 ≤ 79) : SMN (pn_0) (toGoal_0) (x32) (x10) := by
  first
    | assumption
    | (have h := ‹SMM _ _ _ _›; unfold SMN; unfold SMM at h; omega)
    | (have c := ‹CLO _ _ _ _ _ _ _ _ _ _ _ _ _ _ _ _ _ _ _›
       unfold SMN
       first
         | (have := (c.1 (by omega)).2.2; omega)
         | (have := c.2 (by omega); omega))
def o_Mo_shortest_12 : or_T := (52, 34, [(0, (2, 0, 0, [165])), (1, (0, 0, 24, [])), (2, (0, 0, 24, [])), (3, (0, 0, 1, [])), (4, (2, 0, 0, [165])), (5, (0, 0, 24, [])), (6, (0, 0, 24, [])), (7, (0, 0, 1, [])), (9, (0, 0, 79, [])), (10, (0, -2, 26000060, [])), (11, (0, 1, 80, [])), (12, (0, 1, 1, [])), (14, (0, 0, 24, [])), (16, (0, 0, 24, [])), (17, (0, 0, 80, [])), (19, (0, 0, 24, [])), (20, (0, 0, 24, [])), (21, (0, -2, 26000060, [])), (23, (0, 1, 1, [])), (24, (0, 0, 24, [])), (25, (0, 0, 24, [])), (26, (0, 0, 80, [])), (27, (0, 0, 1, [])), (28, (0, 0, 24, [])), (29, (0, 0, 24, [])), (30, (0, -2, 26000060, [])), (31, (0, 1, 1, [])), (32, (0, 1, 1, [])), (33, (0, 1, 80, []))], [(6, [33, 9], [1]), (8, [31], [1]), (23, [26, 9], [0, 1, -1]), (23, [26, 9], [0, -1, 1]), (23, [27, 23], [0, 1, -1]), (23, [27, 23], [0, -1, 1]), (23, [28, 25], [0, 1, -1]), (23, [28, 25], [0, -1, 1]), (23, [29, 24], [0, 1, -1]), (23, [29, 24], [0, -1, 1]), (23, [30, 10], [0, 1, -1]), (23, [30, 10], [0, -1, 1]), (20, [4, 24, 25], [60, 2, 4, 121, 32, 49, 33, 34, 43, 44]), (20, [24, 4], [30, -1, 1, 0, 0, -1, 1, 31]), (20, [25, 4], [30, -1, 1, 0, 0, -1, 1, 31]), (20, [24, 4, 9], [50, 0, 1, 1034, 1, 2, 1, 0, 3, 1, 34, 1, 2]), (20, [25, 4, 9], [50, 0, 1, 1033, 1, 2, 1, 0, 3, 1, 33, 1, 2]), (23, [17, 9], [0, 1, -1]), (23, [17, 9], [0, -1, 1]), (23, [19, 6], [0, 1, -1]), (23, [19, 6], [0, -1, 1]), (23, [20, 6], [0, 1, -1]), (23, [20, 6], [0, -1, 1]), (23, [21, 10], [0, 1, -1]), (23, [21, 10], [0, -1, 1]), (20, [4, 14, 16], [60, 2, 4, 121, 32, 49, 33, 34, 43, 44]), (20, [14, 4], [30, -1, 1, 0, 0, -1, 1, 31]), (20, [16, 4], [30, -1, 1, 0, 0, -1, 1, 31]), (20, [14, 4, 9], [50, 0, 1, 1033, 1, 2, 1, 0, 3, 1, 33, 1, 2]), (20, [16, 4, 9], [50, 0, 1, 1034, 1, 2, 1, 0, 3, 1, 34, 1, 2]), (20, [4, 9, 12], [60, 1, 2, 120, 49, 43, 44]), (20, [9, 4], [30, -1, 1, 0, 0, -1, 1, 32]), (20, [4], [60, 2, 2, 75, 31, 32, 33, 34]), (20, [4], [60, 1, 2, 122, 32, 35, 43]), (20, [5, 4], [30, -1, 1, 0, 0, -1, 1, 31]), (20, [6, 4], [30, -1, 1, 0, 0, -1, 1, 31]), (24, [0, 4], []), (24, [1, 5], []), (24, [2, 6], []), (24, [3, 7], []), (20, [4, 5, 6, 7], [60, 3, 6, 124, 31, 32, 49, 33, 34, 43, 44, 42, 48]), (20, [4, 24, 25, 5, 6, 7, 26, 27, 28, 29, 30, 31], [60, 2, 6, 129, 31, 49, 33, 34, 43, 44, 42, 48]), (102, [30], [6277101735386680763835789423207666416102355444464034512896]), (23, [26, 9], [0, 1, -1]), (23, [26, 9], [0, -1, 1]), (23, [27, 23], [0, 1, -1]), (23, [27, 23], [0, -1, 1]), (23, [28, 25], [0, 1, -1]), (23, [28, 25], [0, -1, 1]), (23, [29, 24], [0, 1, -1]), (23, [29, 24], [0, -1, 1]), (23, [30, 10], [0, 1, -1]), (23, [30, 10], [0, -1, 1]), (23, [17, 9], [0, 1, -1]), (23, [17, 9], [0, -1, 1]), (23, [19, 6], [0, 1, -1]), (23, [19, 6], [0, -1, 1]), (23, [20, 6], [0, 1, -1]), (23, [20, 6], [0, -1, 1]), (23, [21, 10], [0, 1, -1]), (23, [21, 10], [0, -1, 1]), (102, [21], [6277101735386680763835789423207666416102355444464034512896]), (23, [17, 9], [0, 1, -1]), (23, [17, 9], [0, -1, 1]), (23, [19, 6], [0, 1, -1]), (23, [19, 6], [0, -1, 1]), (23, [20, 6], [0, 1, -1]), (23, [20, 6], [0, -1, 1]), (23, [21, 10], [0, 1, -1]), (23, [21, 10], [0, -1, 1]), (8, [12], [1]), (7, [9, 11], [2])], [], [], [(20, [4, 5, 6, 7, 33, 32, 6, 6], [60, 1, 6, 125, 49, 33, 34, 43, 44, 42, 48]), (20, [4, 32, 10], [60, 1, 1, 128, 31, 48])], [], [(33, 9, 1, 1), (33, 11, -4294967296, 0), (9, 11, -4294967296, -1), (1, 5, -4294967296, 0), (2, 6, -4294967296, 0), (3, 7, -4294967296, 0), (5, 1, -4294967296, 0), (6, 2, -4294967296, 0), (7, 3, -4294967296, 0)])
theorem oo_Mo_shortest_12 {kA : Nat → ClassId} : or_ok PRD kA GG o_Mo_shortest_12 := by
  refine or_mk fun A ta ws vs hD hth hl => ?_
  intro t0 r0 t1 k1 t2 k2 t3 k3 t4 r4 t5 k5 t6 k6 t7 k7 t9 k9 t10 k10 t11 k11 t12 k12 t14 k14 t16 k16 t17 k17 t19 k19 t20 k20 t21 k21 t23 k23 t24 k24 t25 k25 t26 k26 t27 k27 t28 k28 t29 k29 t30 k30 t31 k31 t32 k32 t33 k33 d0 d1 d2 d3 d4 d5 d6 d7 d8 f0 f1 f2 f3 f4 f5 f6 f7 f8 f9 f10 f11 f12 f13 f14 f15 f16 f17 f18 f19 f20 f21 f22 f23 f24 f25 f26 f27 f28 f29 f30 f31 f32 f33 f34 f35 f36 f37 f38 f39 f40 f41 ta1 w1 le1 s1 f43 f44 f45 f46 f47 f48 f49 f50 f51 f52 f53 f54 f55 f56 f57 f58 f59 f60 ta2 w2 le2 s2 f62 f63 f64 f65 f66 f67 f68 f69 f70 f71
  replace f1 := shm_142 f1
  replace f10 := shm_7 f10
  replace f11 := shm_22 f11
  replace f36 := shm_5 f36
  replace f37 := shm_5 f37
  replace f38 := shm_5 f38
  replace f39 := shm_5 f39
  replace f41 := shm_554 f41
  have q4 : n_v vs 4 = n_v vs 0 := f36.symm
  have q5 : n_v vs 5 = n_v vs 1 := f37.symm
  have q6 : n_v vs 6 = n_v vs 2 := f38.symm
  have q7 : n_v vs 7 = n_v vs 3 := f39.symm
  simp only [q4, q6, q5, q7] at f41
  have kz_0_31 := fdq_145 hD hth r0
  have kz_0_49 := fdq_146 hD hth r0
  have nf0 : fc_1 PRD (20, [4, 5, 6, 7, 33, 32, 6, 6], [60, 1, 6, 125, 49, 33, 34, 43, 44, 42, 48]) ws (vs) := by
    refine ⟨nf_in hl rfl, sgq_1464 ?_⟩
    · show TG3 (w_fi ws (n_v vs 4) 49) (w_ei ws (w_ar ws (n_v vs 4) 33)) (w_ei ws (w_ar ws (n_v vs 4) 34)) (w_ei ws (w_ar ws (n_v vs 4) 43)) (w_ei ws (w_ar ws (n_v vs 4) 44)) (w_ei ws (w_ar ws (n_v vs 4) 42)) (w_ei ws (w_ar ws (n_v vs 4) 48)) (v_iv (n_v vs 5)) (v_iv (n_v vs 6)) (v_iv (n_v vs 7)) (v_iv (n_v vs 33)) (v_iv (n_v vs 32)) (v_iv (n_v vs 6)) (v_iv (n_v vs 6))
      simp only [q4, q5, q6, q7]
      exact vc_Mo_shortest_12_0 (v_iv (n_v vs 1)) (v_iv (n_v vs 2)) (v_iv (n_v vs 3)) (v_iv (n_v vs 9)) (v_iv (n_v vs 24)) (v_iv (n_v vs 25)) (v_iv (n_v vs 28)) (v_iv (n_v vs 29)) (v_iv (n_v vs 32)) (v_iv (n_v vs 33)) (w_ei ws (w_ar ws (n_v vs 0) 33)) (w_ei ws (w_ar ws (n_v vs 0) 34)) (w_ei ws (w_ar ws (n_v vs 0) 43)) (w_ei ws (w_ar ws (n_v vs 0) 44)) (w_fi ws (n_v vs 0) 49) (w_ei ws (w_ar ws (n_v vs 0) 42)) (w_ei ws (w_ar ws (n_v vs 0) 48)) k1 k2 k3 k32 k33 kz_0_49
  have nf1 : fc_1 PRD (20, [4, 32, 10], [60, 1, 1, 128, 31, 48]) ws (vs) := by
    refine ⟨nf_in hl rfl, sgq_551 ?_⟩
    · show SMN (w_fi ws (n_v vs 4) 31) (w_ei ws (w_ar ws (n_v vs 4) 48)) (v_iv (n_v vs 32)) (v_iv (n_v vs 10))
      rw [q4]
      exact vc_Mo_shortest_12_1 (v_iv (n_v vs 1)) (v_iv (n_v vs 2)) (v_iv (n_v vs 3)) (v_iv (n_v vs 10)) (v_iv (n_v vs 24)) (v_iv (n_v vs 25)) (v_iv (n_v vs 26)) (v_iv (n_v vs 27)) (v_iv (n_v vs 28)) (v_iv (n_v vs 29)) (v_iv (n_v vs 30)) (v_iv (n_v vs 31)) (v_iv (n_v vs 32)) (w_ei ws (w_ar ws (n_v vs 0) 33)) (w_ei ws (w_ar ws (n_v vs 0) 34)) (w_ei ws (w_ar ws (n_v vs 0) 43)) (w_ei ws (w_ar ws (n_v vs 0) 44)) (w_fi ws (n_v vs 0) 49) (w_fi ws (n_v vs 0) 31) (w_ei ws (w_ar ws (n_v vs 0) 42)) (w_ei ws (w_ar ws (n_v vs 0) 48)) k1 k2 k3 k10 k24 k25 k26 k27 k28 k29 k30 k31 k32 f1 f10 f11 f41 kz_0_31 kz_0_49
  refine ⟨(fun _ h => (by cases h)), [], trivial, ?_, (fun _ h => (by cases h))⟩
  rw [List.append_nil]
  exact List.forall_mem_cons.mpr ⟨⟨show (20 : Nat) < 100 from by decide, nf0⟩, List.forall_mem_cons.mpr ⟨⟨show (20 : Nat) < 100 from by decide, nf1⟩, (fun _ h => (by cases h))⟩⟩

set_option maxHeartbeats 4000000 in
theorem vc_Mo_shortest_13_0 (x1 : Int) (x2 : Int) (x3 : Int) (x9 : Int) (x24 : Int) (x25 : Int) (x28 : Int) (x29 : Int) (x32 : Int) (x33 : Int) (pt_0 : Int → Int) (ph_0 : Int → Int) (drawnEdge_0 : Int → Int) (pieceOf_0 : Int → Int) (onlyPiece_0 : Int) (drawnNode_0 : Int → Int) (toGoal_0 : Int → Int) (k1 : 0 ≤ x1 ∧ x1 ≤ 24) (k2 : 0 ≤ x2 ∧ x2 ≤ 24) (k3 : 0 ≤ x3 ∧ x3 ≤ 1) (k32 : 1 ≤ x32 ∧ x32 ≤ 1) (k33 : 1 ≤ x33 ∧ x33 ≤ 80) (kz_0_49 : (-1) ≤ onlyPiece_0 ∧ onlyPiece_0 ≤ 79) : TG3 (onlyPiece_0) (pt_0) (ph_0) (drawnEdge_0) (pieceOf_0) (drawnNode_0) (toGoal_0) (x1) (x2) (x3) (x33) (x32) (x2) (x2) := by
  first
    | (intro h; exfalso; omega)
    | (intro h; exact ⟨fun e a b => by exfalso; omega, fun _ => by omega⟩)
    | (have c := ‹CLO _ _ _ _ _ _ _ _ _ _ _ _ _ _ _ _ _ _ _›
       have c1 := c.1 (by omega)
       intro h
       have t := c1.1 (by omega)
       refine ⟨fun e a b m => ?_, fun _ => by omega⟩
       by_cases q : e = x9
       · subst q
         refine ⟨?_, ?_⟩
         · have := t.2
           rw [show x28 = pt_0 e by omega, show x29 = ph_0 e by omega] at this; exact this
         · have := c1.2.1
           rw [show x24 = ph_0 e by omega, show x25 = pt_0 e by omega] at this; exact this
       · exact t.1 e a (by omega) m)
    | (have h := ‹TG3 _ _ _ _ _ _ _ _ _ _ _ _ _ _›
       have mg := ‹MGP _ _ _ _ _›
       intro h0
       have h1 := h h0
       refine ⟨fun e a b c => ?_, h1.2⟩
       by_cases q : e = x9
       · subst q; exact absurd (mg.mpr c) (by omega)
       · exact h1.1 e a (by omega) c)
set_option maxHeartbeats 4000000 in
theorem vc_Mo_shortest_13_1 (x1 : Int) (x2 : Int) (x3 : Int) (x10 : Int) (x23 : Int) (x24 : Int) (x25 : Int) (x26 : Int) (x27 : Int) (x28 : Int) (x29 : Int) (x30 : Int) (x31 : Int) (x32 : Int) (pt_0 : Int → Int) (ph_0 : Int → Int) (drawnEdge_0 : Int → Int) (pieceOf_0 : Int → Int) (onlyPiece_0 : Int) (pn_0 : Int) (drawnNode_0 : Int → Int) (toGoal_0 : Int → Int) (k1 : 0 ≤ x1 ∧ x1 ≤ 24) (k2 : 0 ≤ x2 ∧ x2 ≤ 24) (k3 : 0 ≤ x3 ∧ x3 ≤ 1) (k10 : (-2) ≤ x10 ∧ x10 ≤ 26000060) (k23 : 1 ≤ x23 ∧ x23 ≤ 1) (k24 : 0 ≤ x24 ∧ x24 ≤ 24) (k25 : 0 ≤ x25 ∧ x25 ≤ 24) (k26 : 0 ≤ x26 ∧ x26 ≤ 80) (k27 : 0 ≤ x27 ∧ x27 ≤ 1) (k28 : 0 ≤ x28 ∧ x28 ≤ 24) (k29 : 0 ≤ x29 ∧ x29 ≤ 24) (k30 : (-2) ≤ x30 ∧ x30 ≤ 26000060) (k31 : 0 ≤ x31 ∧ x31 ≤ 0) (k32 : 1 ≤ x32 ∧ x32 ≤ 1) (f2 : x31 = 0) (f6 : (-1) * x27 + (1 * x23 + 0) ≤ 0) (f11 : 1 * x30 + ((-1) * x10 + 0) ≤ 0) (f12 : (-1) * x30 + (1 * x10 + 0) ≤ 0) (f42 : CLO (pn_0) (onlyPiece_0) (pt_0) (ph_0) (drawnEdge_0) (pieceOf_0) (drawnNode_0) (toGoal_0) (x24) (x25) (x1) (x2) (x3) (x26) (x27) (x28) (x29) (x30) (x31)) (kz_0_31 : 0 ≤ pn_0 ∧ pn_0 ≤ 25) (kz_0_49 : (-1) ≤ onlyPiece_0 ∧ onlyPiece_0 ≤ 79) : SMN (pn_0) (toGoal_0) (x32) (x10) := by
  first
    | assumption
    | (have h := ‹SMM _ _ _ _›; unfold SMN; unfold SMM at h; omega)
    | (have c := ‹CLO _ _ _ _ _ _ _ _ _ _ _ _ _ _ _ _ _ _ _›
       unfold SMN
       first
         | (have := (c.1 (by omega)).2.2; omega)
         | (have := c.2 (by omega); omega))
def o_Mo_shortest_13 : or_T := (52, 34, [(0, (2, 0, 0, [165])), (1, (0, 0, 24, [])), (2, (0, 0, 24, [])), (3, (0, 0, 1, [])), (4, (2, 0, 0, [165])), (5, (0, 0, 24, [])), (6, (0, 0, 24, [])), (7, (0, 0, 1, [])), (9, (0, 0, 79, [])), (10, (0, -2, 26000060, [])), (11, (0, 1, 80, [])), (12, (0, 1, 1, [])), (14, (0, 0, 24, [])), (16, (0, 0, 24, [])), (17, (0, 0, 80, [])), (19, (0, 0, 24, [])), (20, (0, 0, 24, [])), (21, (0, -2, 26000060, [])), (23, (0, 1, 1, [])), (24, (0, 0, 24, [])), (25, (0, 0, 24, [])), (26, (0, 0, 80, [])), (27, (0, 0, 1, [])), (28, (0, 0, 24, [])), (29, (0, 0, 24, [])), (30, (0, -2, 26000060, [])), (31, (0, 0, 0, [])), (32, (0, 1, 1, [])), (33, (0, 1, 80, []))], [(6, [33, 9], [1]), (8, [23], [1]), (8, [31], [0]), (23, [26, 9], [0, 1, -1]), (23, [26, 9], [0, -1, 1]), (23, [27, 23], [0, 1, -1]), (23, [27, 23], [0, -1, 1]), (23, [28, 25], [0, 1, -1]), (23, [28, 25], [0, -1, 1]), (23, [29, 24], [0, 1, -1]), (23, [29, 24], [0, -1, 1]), (23, [30, 10], [0, 1, -1]), (23, [30, 10], [0, -1, 1]), (20, [4, 24, 25], [60, 2, 4, 121, 32, 49, 33, 34, 43, 44]), (20, [24, 4], [30, -1, 1, 0, 0, -1, 1, 31]), (20, [25, 4], [30, -1, 1, 0, 0, -1, 1, 31]), (20, [24, 4, 9], [50, 0, 1, 1034, 1, 2, 1, 0, 3, 1, 34, 1, 2]), (20, [25, 4, 9], [50, 0, 1, 1033, 1, 2, 1, 0, 3, 1, 33, 1, 2]), (23, [17, 9], [0, 1, -1]), (23, [17, 9], [0, -1, 1]), (23, [19, 6], [0, 1, -1]), (23, [19, 6], [0, -1, 1]), (23, [20, 6], [0, 1, -1]), (23, [20, 6], [0, -1, 1]), (23, [21, 10], [0, 1, -1]), (23, [21, 10], [0, -1, 1]), (20, [4, 14, 16], [60, 2, 4, 121, 32, 49, 33, 34, 43, 44]), (20, [14, 4], [30, -1, 1, 0, 0, -1, 1, 31]), (20, [16, 4], [30, -1, 1, 0, 0, -1, 1, 31]), (20, [14, 4, 9], [50, 0, 1, 1033, 1, 2, 1, 0, 3, 1, 33, 1, 2]), (20, [16, 4, 9], [50, 0, 1, 1034, 1, 2, 1, 0, 3, 1, 34, 1, 2]), (20, [4, 9, 12], [60, 1, 2, 120, 49, 43, 44]), (20, [9, 4], [30, -1, 1, 0, 0, -1, 1, 32]), (20, [4], [60, 2, 2, 75, 31, 32, 33, 34]), (20, [4], [60, 1, 2, 122, 32, 35, 43]), (20, [5, 4], [30, -1, 1, 0, 0, -1, 1, 31]), (20, [6, 4], [30, -1, 1, 0, 0, -1, 1, 31]), (24, [0, 4], []), (24, [1, 5], []), (24, [2, 6], []), (24, [3, 7], []), (20, [4, 5, 6, 7], [60, 3, 6, 124, 31, 32, 49, 33, 34, 43, 44, 42, 48]), (20, [4, 24, 25, 5, 6, 7, 26, 27, 28, 29, 30, 31], [60, 2, 6, 129, 31, 49, 33, 34, 43, 44, 42, 48]), (102, [30], [6277101735386680763835789423207666416102355444464034512896]), (23, [26, 9], [0, 1, -1]), (23, [26, 9], [0, -1, 1]), (23, [27, 23], [0, 1, -1]), (23, [27, 23], [0, -1, 1]), (23, [28, 25], [0, 1, -1]), (23, [28, 25], [0, -1, 1]), (23, [29, 24], [0, 1, -1]), (23, [29, 24], [0, -1, 1]), (23, [30, 10], [0, 1, -1]), (23, [30, 10], [0, -1, 1]), (23, [17, 9], [0, 1, -1]), (23, [17, 9], [0, -1, 1]), (23, [19, 6], [0, 1, -1]), (23, [19, 6], [0, -1, 1]), (23, [20, 6], [0, 1, -1]), (23, [20, 6], [0, -1, 1]), (23, [21, 10], [0, 1, -1]), (23, [21, 10], [0, -1, 1]), (102, [21], [6277101735386680763835789423207666416102355444464034512896]), (23, [17, 9], [0, 1, -1]), (23, [17, 9], [0, -1, 1]), (23, [19, 6], [0, 1, -1]), (23, [19, 6], [0, -1, 1]), (23, [20, 6], [0, 1, -1]), (23, [20, 6], [0, -1, 1]), (23, [21, 10], [0, 1, -1]), (23, [21, 10], [0, -1, 1]), (8, [12], [1]), (7, [9, 11], [2])], [], [], [(20, [4, 5, 6, 7, 33, 32, 6, 6], [60, 1, 6, 125, 49, 33, 34, 43, 44, 42, 48]), (20, [4, 32, 10], [60, 1, 1, 128, 31, 48])], [], [(33, 9, 1, 1), (33, 11, -4294967296, 0), (9, 11, -4294967296, -1), (1, 5, -4294967296, 0), (2, 6, -4294967296, 0), (3, 7, -4294967296, 0), (5, 1, -4294967296, 0), (6, 2, -4294967296, 0), (7, 3, -4294967296, 0)])
theorem oo_Mo_shortest_13 {kA : Nat → ClassId} : or_ok PRD kA GG o_Mo_shortest_13 := by
  refine or_mk fun A ta ws vs hD hth hl => ?_
  intro t0 r0 t1 k1 t2 k2 t3 k3 t4 r4 t5 k5 t6 k6 t7 k7 t9 k9 t10 k10 t11 k11 t12 k12 t14 k14 t16 k16 t17 k17 t19 k19 t20 k20 t21 k21 t23 k23 t24 k24 t25 k25 t26 k26 t27 k27 t28 k28 t29 k29 t30 k30 t31 k31 t32 k32 t33 k33 d0 d1 d2 d3 d4 d5 d6 d7 d8 f0 f1 f2 f3 f4 f5 f6 f7 f8 f9 f10 f11 f12 f13 f14 f15 f16 f17 f18 f19 f20 f21 f22 f23 f24 f25 f26 f27 f28 f29 f30 f31 f32 f33 f34 f35 f36 f37 f38 f39 f40 f41 f42 ta1 w1 le1 s1 f44 f45 f46 f47 f48 f49 f50 f51 f52 f53 f54 f55 f56 f57 f58 f59 f60 f61 ta2 w2 le2 s2 f63 f64 f65 f66 f67 f68 f69 f70 f71 f72
  replace f2 := shm_192 f2
  replace f6 := shm_22 f6
  replace f11 := shm_7 f11
  replace f12 := shm_22 f12
  replace f37 := shm_5 f37
  replace f38 := shm_5 f38
  replace f39 := shm_5 f39
  replace f40 := shm_5 f40
  replace f42 := shm_554 f42
  have q4 : n_v vs 4 = n_v vs 0 := f37.symm
  have q5 : n_v vs 5 = n_v vs 1 := f38.symm
  have q6 : n_v vs 6 = n_v vs 2 := f39.symm
  have q7 : n_v vs 7 = n_v vs 3 := f40.symm
  simp only [q4, q6, q5, q7] at f42
  have kz_0_31 := fdq_145 hD hth r0
  have kz_0_49 := fdq_146 hD hth r0
  have nf0 : fc_1 PRD (20, [4, 5, 6, 7, 33, 32, 6, 6], [60, 1, 6, 125, 49, 33, 34, 43, 44, 42, 48]) ws (vs) := by
    refine ⟨nf_in hl rfl, sgq_1464 ?_⟩
    · show TG3 (w_fi ws (n_v vs 4) 49) (w_ei ws (w_ar ws (n_v vs 4) 33)) (w_ei ws (w_ar ws (n_v vs 4) 34)) (w_ei ws (w_ar ws (n_v vs 4) 43)) (w_ei ws (w_ar ws (n_v vs 4) 44)) (w_ei ws (w_ar ws (n_v vs 4) 42)) (w_ei ws (w_ar ws (n_v vs 4) 48)) (v_iv (n_v vs 5)) (v_iv (n_v vs 6)) (v_iv (n_v vs 7)) (v_iv (n_v vs 33)) (v_iv (n_v vs 32)) (v_iv (n_v vs 6)) (v_iv (n_v vs 6))
      simp only [q4, q5, q6, q7]
      exact vc_Mo_shortest_13_0 (v_iv (n_v vs 1)) (v_iv (n_v vs 2)) (v_iv (n_v vs 3)) (v_iv (n_v vs 9)) (v_iv (n_v vs 24)) (v_iv (n_v vs 25)) (v_iv (n_v vs 28)) (v_iv (n_v vs 29)) (v_iv (n_v vs 32)) (v_iv (n_v vs 33)) (w_ei ws (w_ar ws (n_v vs 0) 33)) (w_ei ws (w_ar ws (n_v vs 0) 34)) (w_ei ws (w_ar ws (n_v vs 0) 43)) (w_ei ws (w_ar ws (n_v vs 0) 44)) (w_fi ws (n_v vs 0) 49) (w_ei ws (w_ar ws (n_v vs 0) 42)) (w_ei ws (w_ar ws (n_v vs 0) 48)) k1 k2 k3 k32 k33 kz_0_49
  have nf1 : fc_1 PRD (20, [4, 32, 10], [60, 1, 1, 128, 31, 48]) ws (vs) := by
    refine ⟨nf_in hl rfl, sgq_551 ?_⟩
    · show SMN (w_fi ws (n_v vs 4) 31) (w_ei ws (w_ar ws (n_v vs 4) 48)) (v_iv (n_v vs 32)) (v_iv (n_v vs 10))
      rw [q4]
      exact vc_Mo_shortest_13_1 (v_iv (n_v vs 1)) (v_iv (n_v vs 2)) (v_iv (n_v vs 3)) (v_iv (n_v vs 10)) (v_iv (n_v vs 23)) (v_iv (n_v vs 24)) (v_iv (n_v vs 25)) (v_iv (n_v vs 26)) (v_iv (n_v vs 27)) (v_iv (n_v vs 28)) (v_iv (n_v vs 29)) (v_iv (n_v vs 30)) (v_iv (n_v vs 31)) (v_iv (n_v vs 32)) (w_ei ws (w_ar ws (n_v vs 0) 33)) (w_ei ws (w_ar ws (n_v vs 0) 34)) (w_ei ws (w_ar ws (n_v vs 0) 43)) (w_ei ws (w_ar ws (n_v vs 0) 44)) (w_fi ws (n_v vs 0) 49) (w_fi ws (n_v vs 0) 31) (w_ei ws (w_ar ws (n_v vs 0) 42)) (w_ei ws (w_ar ws (n_v vs 0) 48)) k1 k2 k3 k10 k23 k24 k25 k26 k27 k28 k29 k30 k31 k32 f2 f6 f11 f12 f42 kz_0_31 kz_0_49
  refine ⟨(fun _ h => (by cases h)), [], trivial, ?_, (fun _ h => (by cases h))⟩
  rw [List.append_nil]
  exact List.forall_mem_cons.mpr ⟨⟨show (20 : Nat) < 100 from by decide, nf0⟩, List.forall_mem_cons.mpr ⟨⟨show (20 : Nat) < 100 from by decide, nf1⟩, (fun _ h => (by cases h))⟩⟩
set_option maxHeartbeats 4000000 in
theorem vc_Mo_shortest_14_0 (x9 : Int) (x17 : Int) (pt_0 : Int → Int) (ph_0 : Int → Int) (pm_0 : Int) (pn_0 : Int) (gx : Int) (k9 : 0 ≤ x9 ∧ x9 ≤ 79) (k17 : 0 ≤ x17 ∧ x17 ≤ 80) (f6 : 1 * x17 + ((-1) * x9 + 0) ≤ 0) (f7 : (-1) * x17 + (1 * x9 + 0) ≤ 0) (f22 : 1 * x9 + ((-1) * pm_0 + 0) ≤ (-1)) (f23 : GOK (pn_0) (pm_0) (pt_0) (ph_0)) (kz_0_31 : 0 ≤ pn_0 ∧ pn_0 ≤ 25) (kz_0_32 : 0 ≤ pm_0 ∧ pm_0 ≤ 80) (ex2 : gx = x9) : 1 * gx + ((-1) * x9 + 0) ≤ 0 := by
  have g := ‹GOK _ _ _ _›.1 x9 (by omega) (by omega)
  omega
set_option maxHeartbeats 4000000 in
theorem vc_Mo_shortest_14_1 (x9 : Int) (x17 : Int) (pt_0 : Int → Int) (ph_0 : Int → Int) (pm_0 : Int) (pn_0 : Int) (gx : Int) (k9 : 0 ≤ x9 ∧ x9 ≤ 79) (k17 : 0 ≤ x17 ∧ x17 ≤ 80) (f6 : 1 * x17 + ((-1) * x9 + 0) ≤ 0) (f7 : (-1) * x17 + (1 * x9 + 0) ≤ 0) (f22 : 1 * x9 + ((-1) * pm_0 + 0) ≤ (-1)) (f23 : GOK (pn_0) (pm_0) (pt_0) (ph_0)) (kz_0_31 : 0 ≤ pn_0 ∧ pn_0 ≤ 25) (kz_0_32 : 0 ≤ pm_0 ∧ pm_0 ≤ 80) (ex2 : gx = x9) : (-1) * gx + (1 * x9 + 0) ≤ 0 := by
  have g := ‹GOK _ _ _ _›.1 x9 (by omega) (by omega)
  omega
set_option maxHeartbeats 4000000 in
theorem vc_Mo_shortest_14_2 (x9 : Int) (x17 : Int) (x23 : Int) (pt_0 : Int → Int) (ph_0 : Int → Int) (pm_0 : Int) (pn_0 : Int) (gx : Int) (gy : Int) (k9 : 0 ≤ x9 ∧ x9 ≤ 79) (k17 : 0 ≤ x17 ∧ x17 ≤ 80) (k23 : 0 ≤ x23 ∧ x23 ≤ 0) (f6 : 1 * x17 + ((-1) * x9 + 0) ≤ 0) (f7 : (-1) * x17 + (1 * x9 + 0) ≤ 0) (f22 : 1 * x9 + ((-1) * pm_0 + 0) ≤ (-1)) (f23 : GOK (pn_0) (pm_0) (pt_0) (ph_0)) (kz_0_31 : 0 ≤ pn_0 ∧ pn_0 ≤ 25) (kz_0_32 : 0 ≤ pm_0 ∧ pm_0 ≤ 80) (ex2 : gx = x9) (ey2 : gy = x23) : 1 * gy + ((-1) * x23 + 0) ≤ 0 := by
  have g := ‹GOK _ _ _ _›.1 x9 (by omega) (by omega)
  omega
set_option maxHeartbeats 4000000 in
theorem vc_Mo_shortest_14_3 (x9 : Int) (x17 : Int) (x23 : Int) (pt_0 : Int → Int) (ph_0 : Int → Int) (pm_0 : Int) (pn_0 : Int) (gx : Int) (gy : Int) (k9 : 0 ≤ x9 ∧ x9 ≤ 79) (k17 : 0 ≤ x17 ∧ x17 ≤ 80) (k23 : 0 ≤ x23 ∧ x23 ≤ 0) (f6 : 1 * x17 + ((-1) * x9 + 0) ≤ 0) (f7 : (-1) * x17 + (1 * x9 + 0) ≤ 0) (f22 : 1 * x9 + ((-1) * pm_0 + 0) ≤ (-1)) (f23 : GOK (pn_0) (pm_0) (pt_0) (ph_0)) (kz_0_31 : 0 ≤ pn_0 ∧ pn_0 ≤ 25) (kz_0_32 : 0 ≤ pm_0 ∧ pm_0 ≤ 80) (ex2 : gx = x9) (ey2 : gy = x23) : (-1) * gy + (1 * x23 + 0) ≤ 0 := by
  have g := ‹GOK _ _ _ _›.1 x9 (by omega) (by omega)
  omega
set_option maxHeartbeats 4000000 in
theorem vc_Mo_shortest_14_4 (x9 : Int) (x17 : Int) (x25 : Int) (pt_0 : Int → Int) (ph_0 : Int → Int) (pm_0 : Int) (pn_0 : Int) (gx : Int) (gu : Int) (k9 : 0 ≤ x9 ∧ x9 ≤ 79) (k17 : 0 ≤ x17 ∧ x17 ≤ 80) (k25 : 0 ≤ x25 ∧ x25 ≤ 24) (h0 : x25 = pt_0 (x9)) (f6 : 1 * x17 + ((-1) * x9 + 0) ≤ 0) (f7 : (-1) * x17 + (1 * x9 + 0) ≤ 0) (f22 : 1 * x9 + ((-1) * pm_0 + 0) ≤ (-1)) (f23 : GOK (pn_0) (pm_0) (pt_0) (ph_0)) (kz_0_31 : 0 ≤ pn_0 ∧ pn_0 ≤ 25) (kz_0_32 : 0 ≤ pm_0 ∧ pm_0 ≤ 80) (ex2 : gx = x9) (eu2 : gu = x25) : 1 * gu + ((-1) * x25 + 0) ≤ 0 := by
  have g := ‹GOK _ _ _ _›.1 x9 (by omega) (by omega)
  omega
set_option maxHeartbeats 4000000 in
theorem vc_Mo_shortest_14_5 (x9 : Int) (x17 : Int) (x25 : Int) (pt_0 : Int → Int) (ph_0 : Int → Int) (pm_0 : Int) (pn_0 : Int) (gx : Int) (gu : Int) (k9 : 0 ≤ x9 ∧ x9 ≤ 79) (k17 : 0 ≤ x17 ∧ x17 ≤ 80) (k25 : 0 ≤ x25 ∧ x25 ≤ 24) (h0 : x25 = pt_0 (x9)) (f6 : 1 * x17 + ((-1) * x9 + 0) ≤ 0) (f7 : (-1) * x17 + (1 * x9 + 0) ≤ 0) (f22 : 1 * x9 + ((-1) * pm_0 + 0) ≤ (-1)) (f23 : GOK (pn_0) (pm_0) (pt_0) (ph_0)) (kz_0_31 : 0 ≤ pn_0 ∧ pn_0 ≤ 25) (kz_0_32 : 0 ≤ pm_0 ∧ pm_0 ≤ 80) (ex2 : gx = x9) (eu2 : gu = x25) : (-1) * gu + (1 * x25 + 0) ≤ 0 := by
  have g := ‹GOK _ _ _ _›.1 x9 (by omega) (by omega)
  omega
set_option maxHeartbeats 4000000 in
theorem vc_Mo_shortest_14_6 (x9 : Int) (x17 : Int) (x24 : Int) (pt_0 : Int → Int) (ph_0 : Int → Int) (pm_0 : Int) (pn_0 : Int) (gx : Int) (gw : Int) (k9 : 0 ≤ x9 ∧ x9 ≤ 79) (k17 : 0 ≤ x17 ∧ x17 ≤ 80) (k24 : 0 ≤ x24 ∧ x24 ≤ 24) (h2 : x24 = ph_0 (x9)) (f6 : 1 * x17 + ((-1) * x9 + 0) ≤ 0) (f7 : (-1) * x17 + (1 * x9 + 0) ≤ 0) (f22 : 1 * x9 + ((-1) * pm_0 + 0) ≤ (-1)) (f23 : GOK (pn_0) (pm_0) (pt_0) (ph_0)) (kz_0_31 : 0 ≤ pn_0 ∧ pn_0 ≤ 25) (kz_0_32 : 0 ≤ pm_0 ∧ pm_0 ≤ 80) (ex2 : gx = x9) (ew2 : gw = x24) : 1 * gw + ((-1) * x24 + 0) ≤ 0 := by
  have g := ‹GOK _ _ _ _›.1 x9 (by omega) (by omega)
  omega
set_option maxHeartbeats 4000000 in
theorem vc_Mo_shortest_14_7 (x9 : Int) (x17 : Int) (x24 : Int) (pt_0 : Int → Int) (ph_0 : Int → Int) (pm_0 : Int) (pn_0 : Int) (gx : Int) (gw : Int) (k9 : 0 ≤ x9 ∧ x9 ≤ 79) (k17 : 0 ≤ x17 ∧ x17 ≤ 80) (k24 : 0 ≤ x24 ∧ x24 ≤ 24) (h2 : x24 = ph_0 (x9)) (f6 : 1 * x17 + ((-1) * x9 + 0) ≤ 0) (f7 : (-1) * x17 + (1 * x9 + 0) ≤ 0) (f22 : 1 * x9 + ((-1) * pm_0 + 0) ≤ (-1)) (f23 : GOK (pn_0) (pm_0) (pt_0) (ph_0)) (kz_0_31 : 0 ≤ pn_0 ∧ pn_0 ≤ 25) (kz_0_32 : 0 ≤ pm_0 ∧ pm_0 ≤ 80) (ex2 : gx = x9) (ew2 : gw = x24) : (-1) * gw + (1 * x24 + 0) ≤ 0 := by
  have g := ‹GOK _ _ _ _›.1 x9 (by omega) (by omega)
  omega
set_option maxHeartbeats 4000000 in
theorem vc_Mo_shortest_14_8 (x9 : Int) (x10 : Int) (x17 : Int) (x21 : Int) (pt_0 : Int → Int) (ph_0 : Int → Int) (pm_0 : Int) (pn_0 : Int) (gx : Int) (gc : Int) (k9 : 0 ≤ x9 ∧ x9 ≤ 79) (k10 : (-2) ≤ x10 ∧ x10 ≤ 26000060) (k17 : 0 ≤ x17 ∧ x17 ≤ 80) (k21 : (-2) ≤ x21 ∧ x21 ≤ 26000060) (f6 : 1 * x17 + ((-1) * x9 + 0) ≤ 0) (f7 : (-1) * x17 + (1 * x9 + 0) ≤ 0) (f14 : 1 * x21 + ((-1) * x10 + 0) ≤ 0) (f15 : (-1) * x21 + (1 * x10 + 0) ≤ 0) (f22 : 1 * x9 + ((-1) * pm_0 + 0) ≤ (-1)) (f23 : GOK (pn_0) (pm_0) (pt_0) (ph_0)) (kz_0_31 : 0 ≤ pn_0 ∧ pn_0 ≤ 25) (kz_0_32 : 0 ≤ pm_0 ∧ pm_0 ≤ 80) (ex2 : gx = x9) (ec2 : gc = x10) : 1 * gc + ((-1) * x10 + 0) ≤ 0 := by
  have g := ‹GOK _ _ _ _›.1 x9 (by omega) (by omega)
  omega
set_option maxHeartbeats 4000000 in
theorem vc_Mo_shortest_14_9 (x9 : Int) (x10 : Int) (x17 : Int) (x21 : Int) (pt_0 : Int → Int) (ph_0 : Int → Int) (pm_0 : Int) (pn_0 : Int) (gx : Int) (gc : Int) (k9 : 0 ≤ x9 ∧ x9 ≤ 79) (k10 : (-2) ≤ x10 ∧ x10 ≤ 26000060) (k17 : 0 ≤ x17 ∧ x17 ≤ 80) (k21 : (-2) ≤ x21 ∧ x21 ≤ 26000060) (f6 : 1 * x17 + ((-1) * x9 + 0) ≤ 0) (f7 : (-1) * x17 + (1 * x9 + 0) ≤ 0) (f14 : 1 * x21 + ((-1) * x10 + 0) ≤ 0) (f15 : (-1) * x21 + (1 * x10 + 0) ≤ 0) (f22 : 1 * x9 + ((-1) * pm_0 + 0) ≤ (-1)) (f23 : GOK (pn_0) (pm_0) (pt_0) (ph_0)) (kz_0_31 : 0 ≤ pn_0 ∧ pn_0 ≤ 25) (kz_0_32 : 0 ≤ pm_0 ∧ pm_0 ≤ 80) (ex2 : gx = x9) (ec2 : gc = x10) : (-1) * gc + (1 * x10 + 0) ≤ 0 := by
  have g := ‹GOK _ _ _ _›.1 x9 (by omega) (by omega)
  omega
set_option maxHeartbeats 4000000 in
theorem vc_Mo_shortest_14_10 (x1 : Int) (x2 : Int) (x3 : Int) (pt_0 : Int → Int) (ph_0 : Int → Int) (drawnEdge_0 : Int → Int) (pieceOf_0 : Int → Int) (pm_0 : Int) (onlyPiece_0 : Int) (pn_0 : Int) (drawnNode_0 : Int → Int) (toGoal_0 : Int → Int) (k1 : 0 ≤ x1 ∧ x1 ≤ 24) (k2 : 0 ≤ x2 ∧ x2 ≤ 24) (k3 : 0 ≤ x3 ∧ x3 ≤ 1) (f31 : TGI (pn_0) (pm_0) (onlyPiece_0) (pt_0) (ph_0) (drawnEdge_0) (pieceOf_0) (drawnNode_0) (toGoal_0) (x1) (x2) (x3)) (kz_0_31 : 0 ≤ pn_0 ∧ pn_0 ≤ 25) (kz_0_32 : 0 ≤ pm_0 ∧ pm_0 ≤ 80) (kz_0_49 : (-1) ≤ onlyPiece_0 ∧ onlyPiece_0 ≤ 79) : TGI (pn_0) (pm_0) (onlyPiece_0) (pt_0) (ph_0) (drawnEdge_0) (pieceOf_0) (drawnNode_0) (toGoal_0) (x1) (x2) (x3) := by
  first | assumption
set_option maxHeartbeats 4000000 in
theorem vc_Mo_shortest_14_11 (x1 : Int) (x2 : Int) (x3 : Int) (x8 : Int) (x9 : Int) (x14 : Int) (x16 : Int) (x17 : Int) (x18 : Int) (x19 : Int) (x20 : Int) (x21 : Int) (x22 : Int) (x24 : Int) (x25 : Int) (pt_0 : Int → Int) (ph_0 : Int → Int) (drawnEdge_0 : Int → Int) (pieceOf_0 : Int → Int) (onlyPiece_0 : Int) (pn_0 : Int) (drawnNode_0 : Int → Int) (toGoal_0 : Int → Int) (gx : Int) (gy : Int) (gu : Int) (gw : Int) (k1 : 0 ≤ x1 ∧ x1 ≤ 24) (k2 : 0 ≤ x2 ∧ x2 ≤ 24) (k3 : 0 ≤ x3 ∧ x3 ≤ 1) (k8 : 0 ≤ x8 ∧ x8 ≤ 0) (k9 : 0 ≤ x9 ∧ x9 ≤ 79) (k14 : 0 ≤ x14 ∧ x14 ≤ 24) (k16 : 0 ≤ x16 ∧ x16 ≤ 24) (k17 : 0 ≤ x17 ∧ x17 ≤ 80) (k18 : 0 ≤ x18 ∧ x18 ≤ 1) (k19 : 0 ≤ x19 ∧ x19 ≤ 24) (k20 : 0 ≤ x20 ∧ x20 ≤ 24) (k21 : (-2) ≤ x21 ∧ x21 ≤ 26000060) (k22 : 0 ≤ x22 ∧ x22 ≤ 0) (k24 : 0 ≤ x24 ∧ x24 ≤ 24) (k25 : 0 ≤ x25 ∧ x25 ≤ 24) (h0 : x25 = pt_0 (x9)) (h2 : x24 = ph_0 (x9)) (f5 : x22 = 0) (f6 : 1 * x17 + ((-1) * x9 + 0) ≤ 0) (f7 : (-1) * x17 + (1 * x9 + 0) ≤ 0) (f8 : 1 * x18 + ((-1) * x8 + 0) ≤ 0) (f19 : x14 = pt_0 (x9)) (f20 : x16 = ph_0 (x9)) (f32 : CLO (pn_0) (onlyPiece_0) (pt_0) (ph_0) (drawnEdge_0) (pieceOf_0) (drawnNode_0) (toGoal_0) (x14) (x16) (x1) (x2) (x3) (x17) (x18) (x19) (x20) (x21) (x22)) (kz_0_31 : 0 ≤ pn_0 ∧ pn_0 ≤ 25) (kz_0_49 : (-1) ≤ onlyPiece_0 ∧ onlyPiece_0 ≤ 79) (ex2 : gx = x9) (eu2 : gu = x25) (ew2 : gw = x24) : TG3 (onlyPiece_0) (pt_0) (ph_0) (drawnEdge_0) (pieceOf_0) (drawnNode_0) (toGoal_0) (x1) (x2) (x3) (gx) (gy) (gu) (gw) := by
  first
    | (intro h; exfalso; omega)
    | (have c := ‹CLO _ _ _ _ _ _ _ _ _ _ _ _ _ _ _ _ _ _ _›
       have c1 := c.1 (by omega)
       intro h
       have t := c1.1 (by omega)
       rw [ex2, eu2, ew2]
       exact ⟨fun e a b => t.1 e a (by omega), by have := c1.2.1; rw [show x14 = x25 by omega, show x16 = x24 by omega] at this; exact this⟩)
set_option maxHeartbeats 4000000 in
theorem vc_Mo_shortest_14_12 (x1 : Int) (x2 : Int) (x3 : Int) (x8 : Int) (x10 : Int) (x14 : Int) (x16 : Int) (x17 : Int) (x18 : Int) (x19 : Int) (x20 : Int) (x21 : Int) (x22 : Int) (x23 : Int) (pt_0 : Int → Int) (ph_0 : Int → Int) (drawnEdge_0 : Int → Int) (pieceOf_0 : Int → Int) (onlyPiece_0 : Int) (pn_0 : Int) (drawnNode_0 : Int → Int) (toGoal_0 : Int → Int) (gy : Int) (gc : Int) (k1 : 0 ≤ x1 ∧ x1 ≤ 24) (k2 : 0 ≤ x2 ∧ x2 ≤ 24) (k3 : 0 ≤ x3 ∧ x3 ≤ 1) (k8 : 0 ≤ x8 ∧ x8 ≤ 0) (k10 : (-2) ≤ x10 ∧ x10 ≤ 26000060) (k14 : 0 ≤ x14 ∧ x14 ≤ 24) (k16 : 0 ≤ x16 ∧ x16 ≤ 24) (k17 : 0 ≤ x17 ∧ x17 ≤ 80) (k18 : 0 ≤ x18 ∧ x18 ≤ 1) (k19 : 0 ≤ x19 ∧ x19 ≤ 24) (k20 : 0 ≤ x20 ∧ x20 ≤ 24) (k21 : (-2) ≤ x21 ∧ x21 ≤ 26000060) (k22 : 0 ≤ x22 ∧ x22 ≤ 0) (k23 : 0 ≤ x23 ∧ x23 ≤ 0) (f5 : x22 = 0) (f8 : 1 * x18 + ((-1) * x8 + 0) ≤ 0) (f14 : 1 * x21 + ((-1) * x10 + 0) ≤ 0) (f15 : (-1) * x21 + (1 * x10 + 0) ≤ 0) (f32 : CLO (pn_0) (onlyPiece_0) (pt_0) (ph_0) (drawnEdge_0) (pieceOf_0) (drawnNode_0) (toGoal_0) (x14) (x16) (x1) (x2) (x3) (x17) (x18) (x19) (x20) (x21) (x22)) (kz_0_31 : 0 ≤ pn_0 ∧ pn_0 ≤ 25) (kz_0_49 : (-1) ≤ onlyPiece_0 ∧ onlyPiece_0 ≤ 79) (ey2 : gy = x23) (ec2 : gc = x10) : SMN (pn_0) (toGoal_0) (gy) (gc) := by
  have c := ‹CLO _ _ _ _ _ _ _ _ _ _ _ _ _ _ _ _ _ _ _›
  unfold SMN
  first
    | (have := c.2 (by omega); omega)
    | (have := (c.1 (by omega)).2.2; omega)
set_option maxHeartbeats 4000000 in
theorem vc_Mo_shortest_14_13 (x9 : Int) (x12 : Int) (x17 : Int) (x24 : Int) (x25 : Int) (pt_0 : Int → Int) (ph_0 : Int → Int) (drawnEdge_0 : Int → Int) (pieceOf_0 : Int → Int) (pm_0 : Int) (onlyPiece_0 : Int) (gx : Int) (k9 : 0 ≤ x9 ∧ x9 ≤ 79) (k12 : 1 ≤ x12 ∧ x12 ≤ 1) (k17 : 0 ≤ x17 ∧ x17 ≤ 80) (k24 : 0 ≤ x24 ∧ x24 ≤ 24) (k25 : 0 ≤ x25 ∧ x25 ≤ 24) (h0 : x25 = pt_0 (x9)) (h2 : x24 = ph_0 (x9)) (f6 : 1 * x17 + ((-1) * x9 + 0) ≤ 0) (f7 : (-1) * x17 + (1 * x9 + 0) ≤ 0) (f21 : MGP (onlyPiece_0) (drawnEdge_0) (pieceOf_0) (x9) (x12)) (f22 : 1 * x9 + ((-1) * pm_0 + 0) ≤ (-1)) (f44 : x12 ≠ 0) (kz_0_32 : 0 ≤ pm_0 ∧ pm_0 ≤ 80) (kz_0_49 : (-1) ≤ onlyPiece_0 ∧ onlyPiece_0 ≤ 79) (ex2 : gx = x9) : ARC (pm_0) (onlyPiece_0) (pt_0) (ph_0) (drawnEdge_0) (pieceOf_0) (x24) (x25) := by
  exact ⟨x9, by omega, by omega, ‹MGP _ _ _ _ _›.mp (by omega), Or.inr ⟨by omega, by omega⟩⟩
set_option maxHeartbeats 4000000 in
theorem vc_Mo_shortest_14_14 (x9 : Int) (x16 : Int) (x17 : Int) (x24 : Int) (pt_0 : Int → Int) (ph_0 : Int → Int) (pm_0 : Int) (pn_0 : Int) (gx : Int) (gw : Int) (k9 : 0 ≤ x9 ∧ x9 ≤ 79) (k16 : 0 ≤ x16 ∧ x16 ≤ 24) (k17 : 0 ≤ x17 ∧ x17 ≤ 80) (k24 : 0 ≤ x24 ∧ x24 ≤ 24) (h2 : x24 = ph_0 (x9)) (f6 : 1 * x17 + ((-1) * x9 + 0) ≤ 0) (f7 : (-1) * x17 + (1 * x9 + 0) ≤ 0) (f18 : 1 * x16 + ((-1) * pn_0 + 0) ≤ (-1)) (f20 : x16 = ph_0 (x9)) (f22 : 1 * x9 + ((-1) * pm_0 + 0) ≤ (-1)) (f23 : GOK (pn_0) (pm_0) (pt_0) (ph_0)) (kz_0_31 : 0 ≤ pn_0 ∧ pn_0 ≤ 25) (kz_0_32 : 0 ≤ pm_0 ∧ pm_0 ≤ 80) (ex2 : gx = x9) (ew2 : gw = x24) : 1 * x24 + ((-1) * pn_0 + 0) ≤ (-1) := by
  have g := ‹GOK _ _ _ _›.1 x9 (by omega) (by omega)
  omega
set_option maxHeartbeats 4000000 in
theorem vc_Mo_shortest_14_15 (x9 : Int) (x14 : Int) (x17 : Int) (x25 : Int) (pt_0 : Int → Int) (ph_0 : Int → Int) (pm_0 : Int) (pn_0 : Int) (gx : Int) (gu : Int) (k9 : 0 ≤ x9 ∧ x9 ≤ 79) (k14 : 0 ≤ x14 ∧ x14 ≤ 24) (k17 : 0 ≤ x17 ∧ x17 ≤ 80) (k25 : 0 ≤ x25 ∧ x25 ≤ 24) (h0 : x25 = pt_0 (x9)) (f6 : 1 * x17 + ((-1) * x9 + 0) ≤ 0) (f7 : (-1) * x17 + (1 * x9 + 0) ≤ 0) (f17 : 1 * x14 + ((-1) * pn_0 + 0) ≤ (-1)) (f19 : x14 = pt_0 (x9)) (f22 : 1 * x9 + ((-1) * pm_0 + 0) ≤ (-1)) (f23 : GOK (pn_0) (pm_0) (pt_0) (ph_0)) (kz_0_31 : 0 ≤ pn_0 ∧ pn_0 ≤ 25) (kz_0_32 : 0 ≤ pm_0 ∧ pm_0 ≤ 80) (ex2 : gx = x9) (eu2 : gu = x25) : 1 * x25 + ((-1) * pn_0 + 0) ≤ (-1) := by
  have g := ‹GOK _ _ _ _›.1 x9 (by omega) (by omega)
  omega
set_option maxHeartbeats 4000000 in
theorem vc_Mo_shortest_14_16 (x9 : Int) (x17 : Int) (x24 : Int) (pt_0 : Int → Int) (ph_0 : Int → Int) (pm_0 : Int) (pn_0 : Int) (gx : Int) (k9 : 0 ≤ x9 ∧ x9 ≤ 79) (k17 : 0 ≤ x17 ∧ x17 ≤ 80) (k24 : 0 ≤ x24 ∧ x24 ≤ 24) (h2 : x24 = ph_0 (x9)) (f6 : 1 * x17 + ((-1) * x9 + 0) ≤ 0) (f7 : (-1) * x17 + (1 * x9 + 0) ≤ 0) (f22 : 1 * x9 + ((-1) * pm_0 + 0) ≤ (-1)) (f23 : GOK (pn_0) (pm_0) (pt_0) (ph_0)) (kz_0_31 : 0 ≤ pn_0 ∧ pn_0 ≤ 25) (kz_0_32 : 0 ≤ pm_0 ∧ pm_0 ≤ 80) (ex2 : gx = x9) : x24 = ph_0 (x9) := by
  have g := ‹GOK _ _ _ _›.1 x9 (by omega) (by omega)
  omega
set_option maxHeartbeats 4000000 in
theorem vc_Mo_shortest_14_17 (x9 : Int) (x17 : Int) (x25 : Int) (pt_0 : Int → Int) (ph_0 : Int → Int) (pm_0 : Int) (pn_0 : Int) (gx : Int) (k9 : 0 ≤ x9 ∧ x9 ≤ 79) (k17 : 0 ≤ x17 ∧ x17 ≤ 80) (k25 : 0 ≤ x25 ∧ x25 ≤ 24) (h0 : x25 = pt_0 (x9)) (f6 : 1 * x17 + ((-1) * x9 + 0) ≤ 0) (f7 : (-1) * x17 + (1 * x9 + 0) ≤ 0) (f22 : 1 * x9 + ((-1) * pm_0 + 0) ≤ (-1)) (f23 : GOK (pn_0) (pm_0) (pt_0) (ph_0)) (kz_0_31 : 0 ≤ pn_0 ∧ pn_0 ≤ 25) (kz_0_32 : 0 ≤ pm_0 ∧ pm_0 ≤ 80) (ex2 : gx = x9) : x25 = pt_0 (x9) := by
  have g := ‹GOK _ _ _ _›.1 x9 (by omega) (by omega)
  omega
def o_Mo_shortest_14 : or_T := (127, 26, [(0, (2, 0, 0, [165])), (1, (0, 0, 24, [])), (2, (0, 0, 24, [])), (3, (0, 0, 1, [])), (4, (2, 0, 0, [165])), (5, (0, 0, 24, [])), (6, (0, 0, 24, [])), (7, (0, 0, 1, [])), (8, (0, 0, 0, [])), (9, (0, 0, 79, [])), (10, (0, -2, 26000060, [])), (11, (0, 1, 80, [])), (12, (0, 1, 1, [])), (13, (2, 0, 0, [180])), (14, (0, 0, 24, [])), (15, (2, 0, 0, [181])), (16, (0, 0, 24, [])), (17, (0, 0, 80, [])), (18, (0, 0, 1, [])), (19, (0, 0, 24, [])), (20, (0, 0, 24, [])), (21, (0, -2, 26000060, [])), (22, (0, 0, 0, [])), (23, (0, 0, 0, [])), (24, (0, 0, 24, [])), (25, (0, 0, 24, []))], [(10, [25, 13, 9], []), (9, [13, 4], [33]), (10, [24, 15, 9], []), (9, [15, 4], [34]), (8, [8], [0]), (8, [22], [0]), (23, [17, 9], [0, 1, -1]), (23, [17, 9], [0, -1, 1]), (23, [18, 8], [0, 1, -1]), (23, [18, 8], [0, -1, 1]), (23, [19, 6], [0, 1, -1]), (23, [19, 6], [0, -1, 1]), (23, [20, 6], [0, 1, -1]), (23, [20, 6], [0, -1, 1]), (23, [21, 10], [0, 1, -1]), (23, [21, 10], [0, -1, 1]), (20, [4, 14, 16], [60, 2, 4, 121, 32, 49, 33, 34, 43, 44]), (20, [14, 4], [30, -1, 1, 0, 0, -1, 1, 31]), (20, [16, 4], [30, -1, 1, 0, 0, -1, 1, 31]), (20, [14, 4, 9], [50, 0, 1, 1033, 1, 2, 1, 0, 3, 1, 33, 1, 2]), (20, [16, 4, 9], [50, 0, 1, 1034, 1, 2, 1, 0, 3, 1, 34, 1, 2]), (20, [4, 9, 12], [60, 1, 2, 120, 49, 43, 44]), (20, [9, 4], [30, -1, 1, 0, 0, -1, 1, 32]), (20, [4], [60, 2, 2, 75, 31, 32, 33, 34]), (20, [4], [60, 1, 2, 122, 32, 35, 43]), (20, [5, 4], [30, -1, 1, 0, 0, -1, 1, 31]), (20, [6, 4], [30, -1, 1, 0, 0, -1, 1, 31]), (24, [0, 4], []), (24, [1, 5], []), (24, [2, 6], []), (24, [3, 7], []), (20, [4, 5, 6, 7], [60, 3, 6, 124, 31, 32, 49, 33, 34, 43, 44, 42, 48]), (20, [4, 14, 16, 5, 6, 7, 17, 18, 19, 20, 21, 22], [60, 2, 6, 129, 31, 49, 33, 34, 43, 44, 42, 48]), (102, [21], [6277101735386680763835789423207666416102355444464034512896]), (23, [17, 9], [0, 1, -1]), (23, [17, 9], [0, -1, 1]), (23, [18, 8], [0, 1, -1]), (23, [18, 8], [0, -1, 1]), (23, [19, 6], [0, 1, -1]), (23, [19, 6], [0, -1, 1]), (23, [20, 6], [0, 1, -1]), (23, [20, 6], [0, -1, 1]), (23, [21, 10], [0, 1, -1]), (23, [21, 10], [0, -1, 1]), (8, [12], [1]), (7, [9, 11], [2])], [], [(0, 0, 80, []), (0, 0, 1, []), (0, 0, 24, []), (0, 0, 24, []), (0, -2, 26000060, [])], [(23, [26, 9], [0, 1, -1]), (23, [26, 9], [0, -1, 1]), (23, [27, 23], [0, 1, -1]), (23, [27, 23], [0, -1, 1]), (23, [28, 25], [0, 1, -1]), (23, [28, 25], [0, -1, 1]), (23, [29, 24], [0, 1, -1]), (23, [29, 24], [0, -1, 1]), (23, [30, 10], [0, 1, -1]), (23, [30, 10], [0, -1, 1]), (20, [4, 5, 6, 7], [60, 3, 6, 124, 31, 32, 49, 33, 34, 43, 44, 42, 48]), (20, [4, 5, 6, 7, 26, 27, 28, 29], [60, 1, 6, 125, 49, 33, 34, 43, 44, 42, 48]), (20, [4, 27, 30], [60, 1, 1, 128, 31, 48]), (20, [4, 24, 25], [60, 2, 4, 121, 32, 49, 33, 34, 43, 44]), (20, [24, 4], [30, -1, 1, 0, 0, -1, 1, 31]), (20, [25, 4], [30, -1, 1, 0, 0, -1, 1, 31]), (20, [24, 4, 9], [50, 0, 1, 1034, 1, 2, 1, 0, 3, 1, 34, 1, 2]), (20, [25, 4, 9], [50, 0, 1, 1033, 1, 2, 1, 0, 3, 1, 33, 1, 2])], [], [(9, 11, -4294967296, -1), (1, 5, -4294967296, 0), (2, 6, -4294967296, 0), (3, 7, -4294967296, 0), (5, 1, -4294967296, 0), (6, 2, -4294967296, 0), (7, 3, -4294967296, 0)])
theorem oo_Mo_shortest_14 {kA : Nat → ClassId} : or_ok PRD kA GG o_Mo_shortest_14 := by
  refine or_mk fun A ta ws vs hD hth hl => ?_
  intro t0 r0 t1 k1 t2 k2 t3 k3 t4 r4 t5 k5 t6 k6 t7 k7 t8 k8 t9 k9 t10 k10 t11 k11 t12 k12 t13 r13 t14 k14 t15 r15 t16 k16 t17 k17 t18 k18 t19 k19 t20 k20 t21 k21 t22 k22 t23 k23 t24 k24 t25 k25 d0 d1 d2 d3 d4 d5 d6 f0 f1 f2 f3 f4 f5 f6 f7 f8 f9 f10 f11 f12 f13 f14 f15 f16 f17 f18 f19 f20 f21 f22 f23 f24 f25 f26 f27 f28 f29 f30 f31 f32 ta1 w1 le1 s1 f34 f35 f36 f37 f38 f39 f40 f41 f42 f43 f44 f45
  replace f0 := shm_107 f0
  replace f1 := shm_494 f1
  replace f2 := shm_107 f2
  replace f3 := shm_496 f3
  replace f5 := shm_192 f5
  replace f6 := shm_7 f6
  replace f7 := shm_22 f7
  replace f8 := shm_7 f8
  replace f14 := shm_7 f14
  replace f15 := shm_22 f15
  replace f17 := shm_553 f17
  replace f18 := shm_553 f18
  replace f19 := shm_1465 f19
  replace f20 := shm_1466 f20
  replace f21 := shm_638 f21
  replace f22 := shm_975 f22
  replace f23 := shm_575 f23
  replace f27 := shm_5 f27
  replace f28 := shm_5 f28
  replace f29 := shm_5 f29
  replace f30 := shm_5 f30
  replace f31 := shm_549 f31
  replace f32 := shm_554 f32
  replace f44 := shm_142 f44
  have q4 : n_v vs 4 = n_v vs 0 := f27.symm
  have q5 : n_v vs 5 = n_v vs 1 := f28.symm
  have q6 : n_v vs 6 = n_v vs 2 := f29.symm
  have q7 : n_v vs 7 = n_v vs 3 := f30.symm
  simp only [q4, q6, q5, q7] at f1 f3 f17 f18 f19 f20 f21 f22 f23 f31 f32
  have ad_13 : v_ad (n_v vs 13) = w_ar ws (n_v vs 0) 33 := congrArg v_ad f1
  have ad_15 : v_ad (n_v vs 15) = w_ar ws (n_v vs 0) 34 := congrArg v_ad f3
  simp only [ad_13] at f0
  have h0 : v_iv (n_v vs 25) = w_ei ws (w_ar ws (n_v vs 0) 33) (v_iv (n_v vs 9)) := f0
  simp only [ad_15] at f2
  have h2 : v_iv (n_v vs 24) = w_ei ws (w_ar ws (n_v vs 0) 34) (v_iv (n_v vs 9)) := f2
  have kz_0_31 := fdq_145 hD hth r0
  have kz_0_32 := fdq_140 hD hth r0
  have kz_0_49 := fdq_146 hD hth r0
  obtain ⟨x, ex, hx⟩ := iv_ex (ta := ta) (lo := 0) (hi := 80) (z := v_iv (n_v vs 9)) (by omega) (by omega) (by omega) (by omega)
  have ex2 : v_iv (Value.int x) = v_iv (n_v vs 9) := ex
  have ex3 : 0 ≤ v_iv (Value.int x) ∧ v_iv (Value.int x) ≤ 80 := tv_rng hx
  obtain ⟨y, ey, hy⟩ := iv_ex (ta := ta) (lo := 0) (hi := 1) (z := v_iv (n_v vs 23)) (by omega) (by omega) (by omega) (by omega)
  have ey2 : v_iv (Value.int y) = v_iv (n_v vs 23) := ey
  have ey3 : 0 ≤ v_iv (Value.int y) ∧ v_iv (Value.int y) ≤ 1 := tv_rng hy
  obtain ⟨u, eu, hu⟩ := iv_ex (ta := ta) (lo := 0) (hi := 24) (z := v_iv (n_v vs 25)) (by omega) (by omega) (by omega) (by omega)
  have eu2 : v_iv (Value.int u) = v_iv (n_v vs 25) := eu
  have eu3 : 0 ≤ v_iv (Value.int u) ∧ v_iv (Value.int u) ≤ 24 := tv_rng hu
  obtain ⟨w, ew, hw⟩ := iv_ex (ta := ta) (lo := 0) (hi := 24) (z := v_iv (n_v vs 24)) (by omega) (by omega) (by omega) (by omega)
  have ew2 : v_iv (Value.int w) = v_iv (n_v vs 24) := ew
  have ew3 : 0 ≤ v_iv (Value.int w) ∧ v_iv (Value.int w) ≤ 24 := tv_rng hw
  obtain ⟨c, ec, hc⟩ := iv_ex (ta := ta) (lo := (-2)) (hi := 26000060) (z := v_iv (n_v vs 10)) (by omega) (by omega) (by omega) (by omega)
  have ec2 : v_iv (Value.int c) = v_iv (n_v vs 10) := ec
  have ec3 : (-2) ≤ v_iv (Value.int c) ∧ v_iv (Value.int c) ≤ 26000060 := tv_rng hc
  have e_4 : n_v (vs ++ [Value.int x, Value.int y, Value.int u, Value.int w, Value.int c]) 4 = n_v vs 4 := n_v_old (by rw [hl]; decide)
  have e_5 : n_v (vs ++ [Value.int x, Value.int y, Value.int u, Value.int w, Value.int c]) 5 = n_v vs 5 := n_v_old (by rw [hl]; decide)
  have e_6 : n_v (vs ++ [Value.int x, Value.int y, Value.int u, Value.int w, Value.int c]) 6 = n_v vs 6 := n_v_old (by rw [hl]; decide)
  have e_7 : n_v (vs ++ [Value.int x, Value.int y, Value.int u, Value.int w, Value.int c]) 7 = n_v vs 7 := n_v_old (by rw [hl]; decide)
  have e_9 : n_v (vs ++ [Value.int x, Value.int y, Value.int u, Value.int w, Value.int c]) 9 = n_v vs 9 := n_v_old (by rw [hl]; decide)
  have e_10 : n_v (vs ++ [Value.int x, Value.int y, Value.int u, Value.int w, Value.int c]) 10 = n_v vs 10 := n_v_old (by rw [hl]; decide)
  have e_23 : n_v (vs ++ [Value.int x, Value.int y, Value.int u, Value.int w, Value.int c]) 23 = n_v vs 23 := n_v_old (by rw [hl]; decide)
  have e_24 : n_v (vs ++ [Value.int x, Value.int y, Value.int u, Value.int w, Value.int c]) 24 = n_v vs 24 := n_v_old (by rw [hl]; decide)
  have e_25 : n_v (vs ++ [Value.int x, Value.int y, Value.int u, Value.int w, Value.int c]) 25 = n_v vs 25 := n_v_old (by rw [hl]; decide)
  have e_26 : n_v (vs ++ [Value.int x, Value.int y, Value.int u, Value.int w, Value.int c]) 26 = Value.int x := n_v_newk (k := 0) hl rfl
  have e_27 : n_v (vs ++ [Value.int x, Value.int y, Value.int u, Value.int w, Value.int c]) 27 = Value.int y := n_v_newk (k := 1) hl rfl
  have e_28 : n_v (vs ++ [Value.int x, Value.int y, Value.int u, Value.int w, Value.int c]) 28 = Value.int u := n_v_newk (k := 2) hl rfl
  have e_29 : n_v (vs ++ [Value.int x, Value.int y, Value.int u, Value.int w, Value.int c]) 29 = Value.int w := n_v_newk (k := 3) hl rfl
  have e_30 : n_v (vs ++ [Value.int x, Value.int y, Value.int u, Value.int w, Value.int c]) 30 = Value.int c := n_v_newk (k := 4) hl rfl
  have nf0 : fc_1 PRD (23, [26, 9], [0, 1, -1]) ws (vs ++ [Value.int x, Value.int y, Value.int u, Value.int w, Value.int c]) := by
    refine ⟨nf_inA hl rfl, sgq_7 ?_⟩
    · show 1 * v_iv (n_v (vs ++ [Value.int x, Value.int y, Value.int u, Value.int w, Value.int c]) 26) + ((-1) * v_iv (n_v (vs ++ [Value.int x, Value.int y, Value.int u, Value.int w, Value.int c]) 9) + 0) ≤ 0
      simp only [e_9, e_26]
      exact vc_Mo_shortest_14_0 (v_iv (n_v vs 9)) (v_iv (n_v vs 17)) (w_ei ws (w_ar ws (n_v vs 0) 33)) (w_ei ws (w_ar ws (n_v vs 0) 34)) (w_fi ws (n_v vs 0) 32) (w_fi ws (n_v vs 0) 31) (v_iv (Value.int x)) k9 k17 f6 f7 f22 f23 kz_0_31 kz_0_32 ex2
  have nf1 : fc_1 PRD (23, [26, 9], [0, -1, 1]) ws (vs ++ [Value.int x, Value.int y, Value.int u, Value.int w, Value.int c]) := by
    refine ⟨nf_inA hl rfl, sgq_22 ?_⟩
    · show (-1) * v_iv (n_v (vs ++ [Value.int x, Value.int y, Value.int u, Value.int w, Value.int c]) 26) + (1 * v_iv (n_v (vs ++ [Value.int x, Value.int y, Value.int u, Value.int w, Value.int c]) 9) + 0) ≤ 0
      simp only [e_9, e_26]
      exact vc_Mo_shortest_14_1 (v_iv (n_v vs 9)) (v_iv (n_v vs 17)) (w_ei ws (w_ar ws (n_v vs 0) 33)) (w_ei ws (w_ar ws (n_v vs 0) 34)) (w_fi ws (n_v vs 0) 32) (w_fi ws (n_v vs 0) 31) (v_iv (Value.int x)) k9 k17 f6 f7 f22 f23 kz_0_31 kz_0_32 ex2
  have nf2 : fc_1 PRD (23, [27, 23], [0, 1, -1]) ws (vs ++ [Value.int x, Value.int y, Value.int u, Value.int w, Value.int c]) := by
    refine ⟨nf_inA hl rfl, sgq_7 ?_⟩
    · show 1 * v_iv (n_v (vs ++ [Value.int x, Value.int y, Value.int u, Value.int w, Value.int c]) 27) + ((-1) * v_iv (n_v (vs ++ [Value.int x, Value.int y, Value.int u, Value.int w, Value.int c]) 23) + 0) ≤ 0
      simp only [e_23, e_27]
      exact vc_Mo_shortest_14_2 (v_iv (n_v vs 9)) (v_iv (n_v vs 17)) (v_iv (n_v vs 23)) (w_ei ws (w_ar ws (n_v vs 0) 33)) (w_ei ws (w_ar ws (n_v vs 0) 34)) (w_fi ws (n_v vs 0) 32) (w_fi ws (n_v vs 0) 31) (v_iv (Value.int x)) (v_iv (Value.int y)) k9 k17 k23 f6 f7 f22 f23 kz_0_31 kz_0_32 ex2 ey2
  have nf3 : fc_1 PRD (23, [27, 23], [0, -1, 1]) ws (vs ++ [Value.int x, Value.int y, Value.int u, Value.int w, Value.int c]) := by
    refine ⟨nf_inA hl rfl, sgq_22 ?_⟩
    · show (-1) * v_iv (n_v (vs ++ [Value.int x, Value.int y, Value.int u, Value.int w, Value.int c]) 27) + (1 * v_iv (n_v (vs ++ [Value.int x, Value.int y, Value.int u, Value.int w, Value.int c]) 23) + 0) ≤ 0
      simp only [e_23, e_27]
      exact vc_Mo_shortest_14_3 (v_iv (n_v vs 9)) (v_iv (n_v vs 17)) (v_iv (n_v vs 23)) (w_ei ws (w_ar ws (n_v vs 0) 33)) (w_ei ws (w_ar ws (n_v vs 0) 34)) (w_fi ws (n_v vs 0) 32) (w_fi ws (n_v vs 0) 31) (v_iv (Value.int x)) (v_iv (Value.int y)) k9 k17 k23 f6 f7 f22 f23 kz_0_31 kz_0_32 ex2 ey2
  have nf4 : fc_1 PRD (23, [28, 25], [0, 1, -1]) ws (vs ++ [Value.int x, Value.int y, Value.int u, Value.int w, Value.int c]) := by
    refine ⟨nf_inA hl rfl, sgq_7 ?_⟩
    · show 1 * v_iv (n_v (vs ++ [Value.int x, Value.int y, Value.int u, Value.int w, Value.int c]) 28) + ((-1) * v_iv (n_v (vs ++ [Value.int x, Value.int y, Value.int u, Value.int w, Value.int c]) 25) + 0) ≤ 0
      simp only [e_25, e_28]
      exact vc_Mo_shortest_14_4 (v_iv (n_v vs 9)) (v_iv (n_v vs 17)) (v_iv (n_v vs 25)) (w_ei ws (w_ar ws (n_v vs 0) 33)) (w_ei ws (w_ar ws (n_v vs 0) 34)) (w_fi ws (n_v vs 0) 32) (w_fi ws (n_v vs 0) 31) (v_iv (Value.int x)) (v_iv (Value.int u)) k9 k17 k25 h0 f6 f7 f22 f23 kz_0_31 kz_0_32 ex2 eu2
  have nf5 : fc_1 PRD (23, [28, 25], [0, -1, 1]) ws (vs ++ [Value.int x, Value.int y, Value.int u, Value.int w, Value.int c]) := by
    refine ⟨nf_inA hl rfl, sgq_22 ?_⟩
    · show (-1) * v_iv (n_v (vs ++ [Value.int x, Value.int y, Value.int u, Value.int w, Value.int c]) 28) + (1 * v_iv (n_v (vs ++ [Value.int x, Value.int y, Value.int u, Value.int w, Value.int c]) 25) + 0) ≤ 0
      simp only [e_25, e_28]
      exact vc_Mo_shortest_14_5 (v_iv (n_v vs 9)) (v_iv (n_v vs 17)) (v_iv (n_v vs 25)) (w_ei ws (w_ar ws (n_v vs 0) 33)) (w_ei ws (w_ar ws (n_v vs 0) 34)) (w_fi ws (n_v vs 0) 32) (w_fi ws (n_v vs 0) 31) (v_iv (Value.int x)) (v_iv (Value.int u)) k9 k17 k25 h0 f6 f7 f22 f23 kz_0_31 kz_0_32 ex2 eu2
  have nf6 : fc_1 PRD (23, [29, 24], [0, 1, -1]) ws (vs ++ [Value.int x, Value.int y, Value.int u, Value.int w, Value.int c]) := by
    refine ⟨nf_inA hl rfl, sgq_7 ?_⟩
    · show 1 * v_iv (n_v (vs ++ [Value.int x, Value.int y, Value.int u, Value.int w, Value.int c]) 29) + ((-1) * v_iv (n_v (vs ++ [Value.int x, Value.int y, Value.int u, Value.int w, Value.int c]) 24) + 0) ≤ 0
      simp only [e_24, e_29]
      exact vc_Mo_shortest_14_6 (v_iv (n_v vs 9)) (v_iv (n_v vs 17)) (v_iv (n_v vs 24)) (w_ei ws (w_ar ws (n_v vs 0) 33)) (w_ei ws (w_ar ws (n_v vs 0) 34)) (w_fi ws (n_v vs 0) 32) (w_fi ws (n_v vs 0) 31) (v_iv (Value.int x)) (v_iv (Value.int w)) k9 k17 k24 h2 f6 f7 f22 f23 kz_0_31 kz_0_32 ex2 ew2
  have nf7 : fc_1 PRD (23, [29, 24], [0, -1, 1]) ws (vs ++ [Value.int x, Value.int y, Value.int u, Value.int w, Value.int c]) := by
    refine ⟨nf_inA hl rfl, sgq_22 ?_⟩
    · show (-1) * v_iv (n_v (vs ++ [Value.int x, Value.int y, Value.int u, Value.int w, Value.int c]) 29) + (1 * v_iv (n_v (vs ++ [Value.int x, Value.int y, Value.int u, Value.int w, Value.int c]) 24) + 0) ≤ 0
      simp only [e_24, e_29]
      exact vc_Mo_shortest_14_7 (v_iv (n_v vs 9)) (v_iv (n_v vs 17)) (v_iv (n_v vs 24)) (w_ei ws (w_ar ws (n_v vs 0) 33)) (w_ei ws (w_ar ws (n_v vs 0) 34)) (w_fi ws (n_v vs 0) 32) (w_fi ws (n_v vs 0) 31) (v_iv (Value.int x)) (v_iv (Value.int w)) k9 k17 k24 h2 f6 f7 f22 f23 kz_0_31 kz_0_32 ex2 ew2
  have nf8 : fc_1 PRD (23, [30, 10], [0, 1, -1]) ws (vs ++ [Value.int x, Value.int y, Value.int u, Value.int w, Value.int c]) := by
    refine ⟨nf_inA hl rfl, sgq_7 ?_⟩
    · show 1 * v_iv (n_v (vs ++ [Value.int x, Value.int y, Value.int u, Value.int w, Value.int c]) 30) + ((-1) * v_iv (n_v (vs ++ [Value.int x, Value.int y, Value.int u, Value.int w, Value.int c]) 10) + 0) ≤ 0
      simp only [e_10, e_30]
      exact vc_Mo_shortest_14_8 (v_iv (n_v vs 9)) (v_iv (n_v vs 10)) (v_iv (n_v vs 17)) (v_iv (n_v vs 21)) (w_ei ws (w_ar ws (n_v vs 0) 33)) (w_ei ws (w_ar ws (n_v vs 0) 34)) (w_fi ws (n_v vs 0) 32) (w_fi ws (n_v vs 0) 31) (v_iv (Value.int x)) (v_iv (Value.int c)) k9 k10 k17 k21 f6 f7 f14 f15 f22 f23 kz_0_31 kz_0_32 ex2 ec2
  have nf9 : fc_1 PRD (23, [30, 10], [0, -1, 1]) ws (vs ++ [Value.int x, Value.int y, Value.int u, Value.int w, Value.int c]) := by
    refine ⟨nf_inA hl rfl, sgq_22 ?_⟩
    · show (-1) * v_iv (n_v (vs ++ [Value.int x, Value.int y, Value.int u, Value.int w, Value.int c]) 30) + (1 * v_iv (n_v (vs ++ [Value.int x, Value.int y, Value.int u, Value.int w, Value.int c]) 10) + 0) ≤ 0
      simp only [e_10, e_30]
      exact vc_Mo_shortest_14_9 (v_iv (n_v vs 9)) (v_iv (n_v vs 10)) (v_iv (n_v vs 17)) (v_iv (n_v vs 21)) (w_ei ws (w_ar ws (n_v vs 0) 33)) (w_ei ws (w_ar ws (n_v vs 0) 34)) (w_fi ws (n_v vs 0) 32) (w_fi ws (n_v vs 0) 31) (v_iv (Value.int x)) (v_iv (Value.int c)) k9 k10 k17 k21 f6 f7 f14 f15 f22 f23 kz_0_31 kz_0_32 ex2 ec2
  have nf10 : fc_1 PRD (20, [4, 5, 6, 7], [60, 3, 6, 124, 31, 32, 49, 33, 34, 43, 44, 42, 48]) ws (vs ++ [Value.int x, Value.int y, Value.int u, Value.int w, Value.int c]) := by
    refine ⟨nf_inA hl rfl, sgq_549 ?_⟩
    · show TGI (w_fi ws (n_v (vs ++ [Value.int x, Value.int y, Value.int u, Value.int w, Value.int c]) 4) 31) (w_fi ws (n_v (vs ++ [Value.int x, Value.int y, Value.int u, Value.int w, Value.int c]) 4) 32) (w_fi ws (n_v (vs ++ [Value.int x, Value.int y, Value.int u, Value.int w, Value.int c]) 4) 49) (w_ei ws (w_ar ws (n_v (vs ++ [Value.int x, Value.int y, Value.int u, Value.int w, Value.int c]) 4) 33)) (w_ei ws (w_ar ws (n_v (vs ++ [Value.int x, Value.int y, Value.int u, Value.int w, Value.int c]) 4) 34)) (w_ei ws (w_ar ws (n_v (vs ++ [Value.int x, Value.int y, Value.int u, Value.int w, Value.int c]) 4) 43)) (w_ei ws (w_ar ws (n_v (vs ++ [Value.int x, Value.int y, Value.int u, Value.int w, Value.int c]) 4) 44)) (w_ei ws (w_ar ws (n_v (vs ++ [Value.int x, Value.int y, Value.int u, Value.int w, Value.int c]) 4) 42)) (w_ei ws (w_ar ws (n_v (vs ++ [Value.int x, Value.int y, Value.int u, Value.int w, Value.int c]) 4) 48)) (v_iv (n_v (vs ++ [Value.int x, Value.int y, Value.int u, Value.int w, Value.int c]) 5)) (v_iv (n_v (vs ++ [Value.int x, Value.int y, Value.int u, Value.int w, Value.int c]) 6)) (v_iv (n_v (vs ++ [Value.int x, Value.int y, Value.int u, Value.int w, Value.int c]) 7))
      simp only [e_4, e_5, e_6, e_7, q4, q5, q6, q7]
      exact vc_Mo_shortest_14_10 (v_iv (n_v vs 1)) (v_iv (n_v vs 2)) (v_iv (n_v vs 3)) (w_ei ws (w_ar ws (n_v vs 0) 33)) (w_ei ws (w_ar ws (n_v vs 0) 34)) (w_ei ws (w_ar ws (n_v vs 0) 43)) (w_ei ws (w_ar ws (n_v vs 0) 44)) (w_fi ws (n_v vs 0) 32) (w_fi ws (n_v vs 0) 49) (w_fi ws (n_v vs 0) 31) (w_ei ws (w_ar ws (n_v vs 0) 42)) (w_ei ws (w_ar ws (n_v vs 0) 48)) k1 k2 k3 f31 kz_0_31 kz_0_32 kz_0_49
  have nf11 : fc_1 PRD (20, [4, 5, 6, 7, 26, 27, 28, 29], [60, 1, 6, 125, 49, 33, 34, 43, 44, 42, 48]) ws (vs ++ [Value.int x, Value.int y, Value.int u, Value.int w, Value.int c]) := by
    refine ⟨nf_inA hl rfl, sgq_550 ?_⟩
    · show TG3 (w_fi ws (n_v (vs ++ [Value.int x, Value.int y, Value.int u, Value.int w, Value.int c]) 4) 49) (w_ei ws (w_ar ws (n_v (vs ++ [Value.int x, Value.int y, Value.int u, Value.int w, Value.int c]) 4) 33)) (w_ei ws (w_ar ws (n_v (vs ++ [Value.int x, Value.int y, Value.int u, Value.int w, Value.int c]) 4) 34)) (w_ei ws (w_ar ws (n_v (vs ++ [Value.int x, Value.int y, Value.int u, Value.int w, Value.int c]) 4) 43)) (w_ei ws (w_ar ws (n_v (vs ++ [Value.int x, Value.int y, Value.int u, Value.int w, Value.int c]) 4) 44)) (w_ei ws (w_ar ws (n_v (vs ++ [Value.int x, Value.int y, Value.int u, Value.int w, Value.int c]) 4) 42)) (w_ei ws (w_ar ws (n_v (vs ++ [Value.int x, Value.int y, Value.int u, Value.int w, Value.int c]) 4) 48)) (v_iv (n_v (vs ++ [Value.int x, Value.int y, Value.int u, Value.int w, Value.int c]) 5)) (v_iv (n_v (vs ++ [Value.int x, Value.int y, Value.int u, Value.int w, Value.int c]) 6)) (v_iv (n_v (vs ++ [Value.int x, Value.int y, Value.int u, Value.int w, Value.int c]) 7)) (v_iv (n_v (vs ++ [Value.int x, Value.int y, Value.int u, Value.int w, Value.int c]) 26)) (v_iv (n_v (vs ++ [Value.int x, Value.int y, Value.int u, Value.int w, Value.int c]) 27)) (v_iv (n_v (vs ++ [Value.int x, Value.int y, Value.int u, Value.int w, Value.int c]) 28)) (v_iv (n_v (vs ++ [Value.int x, Value.int y, Value.int u, Value.int w, Value.int c]) 29))
      simp only [e_4, e_5, e_6, e_7, e_26, e_27, e_28, e_29, q4, q5, q6, q7]
      exact vc_Mo_shortest_14_11 (v_iv (n_v vs 1)) (v_iv (n_v vs 2)) (v_iv (n_v vs 3)) (v_iv (n_v vs 8)) (v_iv (n_v vs 9)) (v_iv (n_v vs 14)) (v_iv (n_v vs 16)) (v_iv (n_v vs 17)) (v_iv (n_v vs 18)) (v_iv (n_v vs 19)) (v_iv (n_v vs 20)) (v_iv (n_v vs 21)) (v_iv (n_v vs 22)) (v_iv (n_v vs 24)) (v_iv (n_v vs 25)) (w_ei ws (w_ar ws (n_v vs 0) 33)) (w_ei ws (w_ar ws (n_v vs 0) 34)) (w_ei ws (w_ar ws (n_v vs 0) 43)) (w_ei ws (w_ar ws (n_v vs 0) 44)) (w_fi ws (n_v vs 0) 49) (w_fi ws (n_v vs 0) 31) (w_ei ws (w_ar ws (n_v vs 0) 42)) (w_ei ws (w_ar ws (n_v vs 0) 48)) (v_iv (Value.int x)) (v_iv (Value.int y)) (v_iv (Value.int u)) (v_iv (Value.int w)) k1 k2 k3 k8 k9 k14 k16 k17 k18 k19 k20 k21 k22 k24 k25 h0 h2 f5 f6 f7 f8 f19 f20 f32 kz_0_31 kz_0_49 ex2 eu2 ew2
  have nf12 : fc_1 PRD (20, [4, 27, 30], [60, 1, 1, 128, 31, 48]) ws (vs ++ [Value.int x, Value.int y, Value.int u, Value.int w, Value.int c]) := by
    refine ⟨nf_inA hl rfl, sgq_551 ?_⟩
    · show SMN (w_fi ws (n_v (vs ++ [Value.int x, Value.int y, Value.int u, Value.int w, Value.int c]) 4) 31) (w_ei ws (w_ar ws (n_v (vs ++ [Value.int x, Value.int y, Value.int u, Value.int w, Value.int c]) 4) 48)) (v_iv (n_v (vs ++ [Value.int x, Value.int y, Value.int u, Value.int w, Value.int c]) 27)) (v_iv (n_v (vs ++ [Value.int x, Value.int y, Value.int u, Value.int w, Value.int c]) 30))
      simp only [e_4, e_27, e_30, q4]
      exact vc_Mo_shortest_14_12 (v_iv (n_v vs 1)) (v_iv (n_v vs 2)) (v_iv (n_v vs 3)) (v_iv (n_v vs 8)) (v_iv (n_v vs 10)) (v_iv (n_v vs 14)) (v_iv (n_v vs 16)) (v_iv (n_v vs 17)) (v_iv (n_v vs 18)) (v_iv (n_v vs 19)) (v_iv (n_v vs 20)) (v_iv (n_v vs 21)) (v_iv (n_v vs 22)) (v_iv (n_v vs 23)) (w_ei ws (w_ar ws (n_v vs 0) 33)) (w_ei ws (w_ar ws (n_v vs 0) 34)) (w_ei ws (w_ar ws (n_v vs 0) 43)) (w_ei ws (w_ar ws (n_v vs 0) 44)) (w_fi ws (n_v vs 0) 49) (w_fi ws (n_v vs 0) 31) (w_ei ws (w_ar ws (n_v vs 0) 42)) (w_ei ws (w_ar ws (n_v vs 0) 48)) (v_iv (Value.int y)) (v_iv (Value.int c)) k1 k2 k3 k8 k10 k14 k16 k17 k18 k19 k20 k21 k22 k23 f5 f8 f14 f15 f32 kz_0_31 kz_0_49 ey2 ec2
  have nf13 : fc_1 PRD (20, [4, 24, 25], [60, 2, 4, 121, 32, 49, 33, 34, 43, 44]) ws (vs ++ [Value.int x, Value.int y, Value.int u, Value.int w, Value.int c]) := by
    refine ⟨nf_inA hl rfl, sgq_552 ?_⟩
    · show ARC (w_fi ws (n_v (vs ++ [Value.int x, Value.int y, Value.int u, Value.int w, Value.int c]) 4) 32) (w_fi ws (n_v (vs ++ [Value.int x, Value.int y, Value.int u, Value.int w, Value.int c]) 4) 49) (w_ei ws (w_ar ws (n_v (vs ++ [Value.int x, Value.int y, Value.int u, Value.int w, Value.int c]) 4) 33)) (w_ei ws (w_ar ws (n_v (vs ++ [Value.int x, Value.int y, Value.int u, Value.int w, Value.int c]) 4) 34)) (w_ei ws (w_ar ws (n_v (vs ++ [Value.int x, Value.int y, Value.int u, Value.int w, Value.int c]) 4) 43)) (w_ei ws (w_ar ws (n_v (vs ++ [Value.int x, Value.int y, Value.int u, Value.int w, Value.int c]) 4) 44)) (v_iv (n_v (vs ++ [Value.int x, Value.int y, Value.int u, Value.int w, Value.int c]) 24)) (v_iv (n_v (vs ++ [Value.int x, Value.int y, Value.int u, Value.int w, Value.int c]) 25))
      simp only [e_4, e_24, e_25, q4]
      exact vc_Mo_shortest_14_13 (v_iv (n_v vs 9)) (v_iv (n_v vs 12)) (v_iv (n_v vs 17)) (v_iv (n_v vs 24)) (v_iv (n_v vs 25)) (w_ei ws (w_ar ws (n_v vs 0) 33)) (w_ei ws (w_ar ws (n_v vs 0) 34)) (w_ei ws (w_ar ws (n_v vs 0) 43)) (w_ei ws (w_ar ws (n_v vs 0) 44)) (w_fi ws (n_v vs 0) 32) (w_fi ws (n_v vs 0) 49) (v_iv (Value.int x)) k9 k12 k17 k24 k25 h0 h2 f6 f7 f21 f22 f44 kz_0_32 kz_0_49 ex2
  have nf14 : fc_1 PRD (20, [24, 4], [30, -1, 1, 0, 0, -1, 1, 31]) ws (vs ++ [Value.int x, Value.int y, Value.int u, Value.int w, Value.int c]) := by
    refine ⟨nf_inA hl rfl, sgq_553 ?_⟩
    · show 1 * v_iv (n_v (vs ++ [Value.int x, Value.int y, Value.int u, Value.int w, Value.int c]) 24) + ((-1) * w_fi ws (n_v (vs ++ [Value.int x, Value.int y, Value.int u, Value.int w, Value.int c]) 4) 31 + 0) ≤ (-1)
      simp only [e_4, e_24, q4]
      exact vc_Mo_shortest_14_14 (v_iv (n_v vs 9)) (v_iv (n_v vs 16)) (v_iv (n_v vs 17)) (v_iv (n_v vs 24)) (w_ei ws (w_ar ws (n_v vs 0) 33)) (w_ei ws (w_ar ws (n_v vs 0) 34)) (w_fi ws (n_v vs 0) 32) (w_fi ws (n_v vs 0) 31) (v_iv (Value.int x)) (v_iv (Value.int w)) k9 k16 k17 k24 h2 f6 f7 f18 f20 f22 f23 kz_0_31 kz_0_32 ex2 ew2
  have nf15 : fc_1 PRD (20, [25, 4], [30, -1, 1, 0, 0, -1, 1, 31]) ws (vs ++ [Value.int x, Value.int y, Value.int u, Value.int w, Value.int c]) := by
    refine ⟨nf_inA hl rfl, sgq_553 ?_⟩
    · show 1 * v_iv (n_v (vs ++ [Value.int x, Value.int y, Value.int u, Value.int w, Value.int c]) 25) + ((-1) * w_fi ws (n_v (vs ++ [Value.int x, Value.int y, Value.int u, Value.int w, Value.int c]) 4) 31 + 0) ≤ (-1)
      simp only [e_4, e_25, q4]
      exact vc_Mo_shortest_14_15 (v_iv (n_v vs 9)) (v_iv (n_v vs 14)) (v_iv (n_v vs 17)) (v_iv (n_v vs 25)) (w_ei ws (w_ar ws (n_v vs 0) 33)) (w_ei ws (w_ar ws (n_v vs 0) 34)) (w_fi ws (n_v vs 0) 32) (w_fi ws (n_v vs 0) 31) (v_iv (Value.int x)) (v_iv (Value.int u)) k9 k14 k17 k25 h0 f6 f7 f17 f19 f22 f23 kz_0_31 kz_0_32 ex2 eu2
  have nf16 : fc_1 PRD (20, [24, 4, 9], [50, 0, 1, 1034, 1, 2, 1, 0, 3, 1, 34, 1, 2]) ws (vs ++ [Value.int x, Value.int y, Value.int u, Value.int w, Value.int c]) := by
    refine ⟨nf_inA hl rfl, sgq_1466 ?_⟩
    · show v_iv (n_v (vs ++ [Value.int x, Value.int y, Value.int u, Value.int w, Value.int c]) 24) = w_ei ws (w_ar ws (n_v (vs ++ [Value.int x, Value.int y, Value.int u, Value.int w, Value.int c]) 4) 34) (v_iv (n_v (vs ++ [Value.int x, Value.int y, Value.int u, Value.int w, Value.int c]) 9))
      simp only [e_4, e_9, e_24, q4]
      exact vc_Mo_shortest_14_16 (v_iv (n_v vs 9)) (v_iv (n_v vs 17)) (v_iv (n_v vs 24)) (w_ei ws (w_ar ws (n_v vs 0) 33)) (w_ei ws (w_ar ws (n_v vs 0) 34)) (w_fi ws (n_v vs 0) 32) (w_fi ws (n_v vs 0) 31) (v_iv (Value.int x)) k9 k17 k24 h2 f6 f7 f22 f23 kz_0_31 kz_0_32 ex2
  have nf17 : fc_1 PRD (20, [25, 4, 9], [50, 0, 1, 1033, 1, 2, 1, 0, 3, 1, 33, 1, 2]) ws (vs ++ [Value.int x, Value.int y, Value.int u, Value.int w, Value.int c]) := by
    refine ⟨nf_inA hl rfl, sgq_1465 ?_⟩
    · show v_iv (n_v (vs ++ [Value.int x, Value.int y, Value.int u, Value.int w, Value.int c]) 25) = w_ei ws (w_ar ws (n_v (vs ++ [Value.int x, Value.int y, Value.int u, Value.int w, Value.int c]) 4) 33) (v_iv (n_v (vs ++ [Value.int x, Value.int y, Value.int u, Value.int w, Value.int c]) 9))
      simp only [e_4, e_9, e_25, q4]
      exact vc_Mo_shortest_14_17 (v_iv (n_v vs 9)) (v_iv (n_v vs 17)) (v_iv (n_v vs 25)) (w_ei ws (w_ar ws (n_v vs 0) 33)) (w_ei ws (w_ar ws (n_v vs 0) 34)) (w_fi ws (n_v vs 0) 32) (w_fi ws (n_v vs 0) 31) (v_iv (Value.int x)) k9 k17 k25 h0 f6 f7 f22 f23 kz_0_31 kz_0_32 ex2
  exact ⟨(fun _ h => (by cases h)), [Value.int x, Value.int y, Value.int u, Value.int w, Value.int c], ag_five hx hy hu hw hc, List.forall_mem_cons.mpr ⟨⟨show (23 : Nat) < 100 from by decide, nf0⟩, List.forall_mem_cons.mpr ⟨⟨show (23 : Nat) < 100 from by decide, nf1⟩, List.forall_mem_cons.mpr ⟨⟨show (23 : Nat) < 100 from by decide, nf2⟩, List.forall_mem_cons.mpr ⟨⟨show (23 : Nat) < 100 from by decide, nf3⟩, List.forall_mem_cons.mpr ⟨⟨show (23 : Nat) < 100 from by decide, nf4⟩, List.forall_mem_cons.mpr ⟨⟨show (23 : Nat) < 100 from by decide, nf5⟩, List.forall_mem_cons.mpr ⟨⟨show (23 : Nat) < 100 from by decide, nf6⟩, List.forall_mem_cons.mpr ⟨⟨show (23 : Nat) < 100 from by decide, nf7⟩, List.forall_mem_cons.mpr ⟨⟨show (23 : Nat) < 100 from by decide, nf8⟩, List.forall_mem_cons.mpr ⟨⟨show (23 : Nat) < 100 from by decide, nf9⟩, List.forall_mem_cons.mpr ⟨⟨show (20 : Nat) < 100 from by decide, nf10⟩, List.forall_mem_cons.mpr ⟨⟨show (20 : Nat) < 100 from by decide, nf11⟩, List.forall_mem_cons.mpr ⟨⟨show (20 : Nat) < 100 from by decide, nf12⟩, List.forall_mem_cons.mpr ⟨⟨show (20 : Nat) < 100 from by decide, nf13⟩, List.forall_mem_cons.mpr ⟨⟨show (20 : Nat) < 100 from by decide, nf14⟩, List.forall_mem_cons.mpr ⟨⟨show (20 : Nat) < 100 from by decide, nf15⟩, List.forall_mem_cons.mpr ⟨⟨show (20 : Nat) < 100 from by decide, nf16⟩, List.forall_mem_cons.mpr ⟨⟨show (20 : Nat) < 100 from by decide, nf17⟩, (fun _ h => (by cases h))⟩⟩⟩⟩⟩⟩⟩⟩⟩⟩⟩⟩⟩⟩⟩⟩⟩⟩, (fun _ h => (by cases h))⟩
set_option maxHeartbeats 4000000 in
theorem vc_Mo_shortest_15_0 (x1 : Int) (x2 : Int) (x3 : Int) (x9 : Int) (x24 : Int) (x25 : Int) (x28 : Int) (x29 : Int) (x32 : Int) (x33 : Int) (pt_0 : Int → Int) (ph_0 : Int → Int) (drawnEdge_0 : Int → Int) (pieceOf_0 : Int → Int) (onlyPiece_0 : Int) (drawnNode_0 : Int → Int) (toGoal_0 : Int → Int) (k1 : 0 ≤ x1 ∧ x1 ≤ 24) (k2 : 0 ≤ x2 ∧ x2 ≤ 24) (k3 : 0 ≤ x3 ∧ x3 ≤ 1) (k32 : 1 ≤ x32 ∧ x32 ≤ 1) (k33 : 1 ≤ x33 ∧ x33 ≤ 80) (kz_0_49 : (-1) ≤ onlyPiece_0 ∧ onlyPiece_0 ≤ 79) : TG3 (onlyPiece_0) (pt_0) (ph_0) (drawnEdge_0) (pieceOf_0) (drawnNode_0) (toGoal_0) (x1) (x2) (x3) (x33) (x32) (x2) (x2) := by
  first
    | (intro h; exfalso; omega)
    | (intro h; exact ⟨fun e a b => by exfalso; omega, fun _ => by omega⟩)
    | (have c := ‹CLO _ _ _ _ _ _ _ _ _ _ _ _ _ _ _ _ _ _ _›
       have c1 := c.1 (by omega)
       intro h
       have t := c1.1 (by omega)
       refine ⟨fun e a b m => ?_, fun _ => by omega⟩
       by_cases q : e = x9
       · subst q
         refine ⟨?_, ?_⟩
         · have := t.2
           rw [show x28 = pt_0 e by omega, show x29 = ph_0 e by omega] at this; exact this
         · have := c1.2.1
           rw [show x24 = ph_0 e by omega, show x25 = pt_0 e by omega] at this; exact this
       · exact t.1 e a (by omega) m)
    | (have h := ‹TG3 _ _ _ _ _ _ _ _ _ _ _ _ _ _›
       have mg := ‹MGP _ _ _ _ _›
       intro h0
       have h1 := h h0
       refine ⟨fun e a b c => ?_, h1.2⟩
       by_cases q : e = x9
       · subst q; exact absurd (mg.mpr c) (by omega)
       · exact h1.1 e a (by omega) c)
set_option maxHeartbeats 4000000 in
theorem vc_Mo_shortest_15_1 (x1 : Int) (x2 : Int) (x3 : Int) (x10 : Int) (x24 : Int) (x25 : Int) (x26 : Int) (x27 : Int) (x28 : Int) (x29 : Int) (x30 : Int) (x31 : Int) (x32 : Int) (pt_0 : Int → Int) (ph_0 : Int → Int) (drawnEdge_0 : Int → Int) (pieceOf_0 : Int → Int) (onlyPiece_0 : Int) (pn_0 : Int) (drawnNode_0 : Int → Int) (toGoal_0 : Int → Int) (k1 : 0 ≤ x1 ∧ x1 ≤ 24) (k2 : 0 ≤ x2 ∧ x2 ≤ 24) (k3 : 0 ≤ x3 ∧ x3 ≤ 1) (k10 : (-2) ≤ x10 ∧ x10 ≤ 26000060) (k24 : 0 ≤ x24 ∧ x24 ≤ 24) (k25 : 0 ≤ x25 ∧ x25 ≤ 24) (k26 : 0 ≤ x26 ∧ x26 ≤ 80) (k27 : 0 ≤ x27 ∧ x27 ≤ 1) (k28 : 0 ≤ x28 ∧ x28 ≤ 24) (k29 : 0 ≤ x29 ∧ x29 ≤ 24) (k30 : (-2) ≤ x30 ∧ x30 ≤ 26000060) (k31 : 1 ≤ x31 ∧ x31 ≤ 1) (k32 : 1 ≤ x32 ∧ x32 ≤ 1) (f1 : x31 ≠ 0) (f10 : 1 * x30 + ((-1) * x10 + 0) ≤ 0) (f11 : (-1) * x30 + (1 * x10 + 0) ≤ 0) (f41 : CLO (pn_0) (onlyPiece_0) (pt_0) (ph_0) (drawnEdge_0) (pieceOf_0) (drawnNode_0) (toGoal_0) (x24) (x25) (x1) (x2) (x3) (x26) (x27) (x28) (x29) (x30) (x31)) (kz_0_31 : 0 ≤ pn_0 ∧ pn_0 ≤ 25) (kz_0_49 : (-1) ≤ onlyPiece_0 ∧ onlyPiece_0 ≤ 79) : SMN (pn_0) (toGoal_0) (x32) (x10) := by
  first
    | assumption
    | (have h := ‹SMM _ _ _ _›; unfold SMN; unfold SMM at h; omega)
    | (have c := ‹CLO _ _ _ _ _ _ _ _ _ _ _ _ _ _ _ _ _ _ _›
       unfold SMN
       first
         | (have := (c.1 (by omega)).2.2; omega)
         | (have := c.2 (by omega); omega))
def o_Mo_shortest_15 : or_T := (52, 34, [(0, (2, 0, 0, [165])), (1, (0, 0, 24, [])), (2, (0, 0, 24, [])), (3, (0, 0, 1, [])), (4, (2, 0, 0, [165])), (5, (0, 0, 24, [])), (6, (0, 0, 24, [])), (7, (0, 0, 1, [])), (9, (0, 0, 79, [])), (10, (0, -2, 26000060, [])), (11, (0, 1, 80, [])), (12, (0, 1, 1, [])), (14, (0, 0, 24, [])), (16, (0, 0, 24, [])), (17, (0, 0, 80, [])), (19, (0, 0, 24, [])), (20, (0, 0, 24, [])), (21, (0, -2, 26000060, [])), (23, (0, 0, 0, [])), (24, (0, 0, 24, [])), (25, (0, 0, 24, [])), (26, (0, 0, 80, [])), (27, (0, 0, 1, [])), (28, (0, 0, 24, [])), (29, (0, 0, 24, [])), (30, (0, -2, 26000060, [])), (31, (0, 1, 1, [])), (32, (0, 1, 1, [])), (33, (0, 1, 80, []))], [(6, [33, 9], [1]), (8, [31], [1]), (23, [26, 9], [0, 1, -1]), (23, [26, 9], [0, -1, 1]), (23, [27, 23], [0, 1, -1]), (23, [27, 23], [0, -1, 1]), (23, [28, 25], [0, 1, -1]), (23, [28, 25], [0, -1, 1]), (23, [29, 24], [0, 1, -1]), (23, [29, 24], [0, -1, 1]), (23, [30, 10], [0, 1, -1]), (23, [30, 10], [0, -1, 1]), (20, [4, 24, 25], [60, 2, 4, 121, 32, 49, 33, 34, 43, 44]), (20, [24, 4], [30, -1, 1, 0, 0, -1, 1, 31]), (20, [25, 4], [30, -1, 1, 0, 0, -1, 1, 31]), (20, [24, 4, 9], [50, 0, 1, 1034, 1, 2, 1, 0, 3, 1, 34, 1, 2]), (20, [25, 4, 9], [50, 0, 1, 1033, 1, 2, 1, 0, 3, 1, 33, 1, 2]), (23, [17, 9], [0, 1, -1]), (23, [17, 9], [0, -1, 1]), (23, [19, 6], [0, 1, -1]), (23, [19, 6], [0, -1, 1]), (23, [20, 6], [0, 1, -1]), (23, [20, 6], [0, -1, 1]), (23, [21, 10], [0, 1, -1]), (23, [21, 10], [0, -1, 1]), (20, [4, 14, 16], [60, 2, 4, 121, 32, 49, 33, 34, 43, 44]), (20, [14, 4], [30, -1, 1, 0, 0, -1, 1, 31]), (20, [16, 4], [30, -1, 1, 0, 0, -1, 1, 31]), (20, [14, 4, 9], [50, 0, 1, 1033, 1, 2, 1, 0, 3, 1, 33, 1, 2]), (20, [16, 4, 9], [50, 0, 1, 1034, 1, 2, 1, 0, 3, 1, 34, 1, 2]), (20, [4, 9, 12], [60, 1, 2, 120, 49, 43, 44]), (20, [9, 4], [30, -1, 1, 0, 0, -1, 1, 32]), (20, [4], [60, 2, 2, 75, 31, 32, 33, 34]), (20, [4], [60, 1, 2, 122, 32, 35, 43]), (20, [5, 4], [30, -1, 1, 0, 0, -1, 1, 31]), (20, [6, 4], [30, -1, 1, 0, 0, -1, 1, 31]), (24, [0, 4], []), (24, [1, 5], []), (24, [2, 6], []), (24, [3, 7], []), (20, [4, 5, 6, 7], [60, 3, 6, 124, 31, 32, 49, 33, 34, 43, 44, 42, 48]), (20, [4, 24, 25, 5, 6, 7, 26, 27, 28, 29, 30, 31], [60, 2, 6, 129, 31, 49, 33, 34, 43, 44, 42, 48]), (102, [30], [6277101735386680763835789423207666416102355444464034512896]), (23, [26, 9], [0, 1, -1]), (23, [26, 9], [0, -1, 1]), (23, [27, 23], [0, 1, -1]), (23, [27, 23], [0, -1, 1]), (23, [28, 25], [0, 1, -1]), (23, [28, 25], [0, -1, 1]), (23, [29, 24], [0, 1, -1]), (23, [29, 24], [0, -1, 1]), (23, [30, 10], [0, 1, -1]), (23, [30, 10], [0, -1, 1]), (23, [17, 9], [0, 1, -1]), (23, [17, 9], [0, -1, 1]), (23, [19, 6], [0, 1, -1]), (23, [19, 6], [0, -1, 1]), (23, [20, 6], [0, 1, -1]), (23, [20, 6], [0, -1, 1]), (23, [21, 10], [0, 1, -1]), (23, [21, 10], [0, -1, 1]), (102, [21], [6277101735386680763835789423207666416102355444464034512896]), (23, [17, 9], [0, 1, -1]), (23, [17, 9], [0, -1, 1]), (23, [19, 6], [0, 1, -1]), (23, [19, 6], [0, -1, 1]), (23, [20, 6], [0, 1, -1]), (23, [20, 6], [0, -1, 1]), (23, [21, 10], [0, 1, -1]), (23, [21, 10], [0, -1, 1]), (8, [12], [1]), (7, [9, 11], [2])], [], [], [(20, [4, 5, 6, 7, 33, 32, 6, 6], [60, 1, 6, 125, 49, 33, 34, 43, 44, 42, 48]), (20, [4, 32, 10], [60, 1, 1, 128, 31, 48])], [], [(33, 9, 1, 1), (33, 11, -4294967296, 0), (9, 11, -4294967296, -1), (1, 5, -4294967296, 0), (2, 6, -4294967296, 0), (3, 7, -4294967296, 0), (5, 1, -4294967296, 0), (6, 2, -4294967296, 0), (7, 3, -4294967296, 0)])
theorem oo_Mo_shortest_15 {kA : Nat → ClassId} : or_ok PRD kA GG o_Mo_shortest_15 := by
  refine or_mk fun A ta ws vs hD hth hl => ?_
  intro t0 r0 t1 k1 t2 k2 t3 k3 t4 r4 t5 k5 t6 k6 t7 k7 t9 k9 t10 k10 t11 k11 t12 k12 t14 k14 t16 k16 t17 k17 t19 k19 t20 k20 t21 k21 t23 k23 t24 k24 t25 k25 t26 k26 t27 k27 t28 k28 t29 k29 t30 k30 t31 k31 t32 k32 t33 k33 d0 d1 d2 d3 d4 d5 d6 d7 d8 f0 f1 f2 f3 f4 f5 f6 f7 f8 f9 f10 f11 f12 f13 f14 f15 f16 f17 f18 f19 f20 f21 f22 f23 f24 f25 f26 f27 f28 f29 f30 f31 f32 f33 f34 f35 f36 f37 f38 f39 f40 f41 ta1 w1 le1 s1 f43 f44 f45 f46 f47 f48 f49 f50 f51 f52 f53 f54 f55 f56 f57 f58 f59 f60 ta2 w2 le2 s2 f62 f63 f64 f65 f66 f67 f68 f69 f70 f71
  replace f1 := shm_142 f1
  replace f10 := shm_7 f10
  replace f11 := shm_22 f11
  replace f36 := shm_5 f36
  replace f37 := shm_5 f37
  replace f38 := shm_5 f38
  replace f39 := shm_5 f39
  replace f41 := shm_554 f41
  have q4 : n_v vs 4 = n_v vs 0 := f36.symm
  have q5 : n_v vs 5 = n_v vs 1 := f37.symm
  have q6 : n_v vs 6 = n_v vs 2 := f38.symm
  have q7 : n_v vs 7 = n_v vs 3 := f39.symm
  simp only [q4, q6, q5, q7] at f41
  have kz_0_31 := fdq_145 hD hth r0
  have kz_0_49 := fdq_146 hD hth r0
  have nf0 : fc_1 PRD (20, [4, 5, 6, 7, 33, 32, 6, 6], [60, 1, 6, 125, 49, 33, 34, 43, 44, 42, 48]) ws (vs) := by
    refine ⟨nf_in hl rfl, sgq_1464 ?_⟩
    · show TG3 (w_fi ws (n_v vs 4) 49) (w_ei ws (w_ar ws (n_v vs 4) 33)) (w_ei ws (w_ar ws (n_v vs 4) 34)) (w_ei ws (w_ar ws (n_v vs 4) 43)) (w_ei ws (w_ar ws (n_v vs 4) 44)) (w_ei ws (w_ar ws (n_v vs 4) 42)) (w_ei ws (w_ar ws (n_v vs 4) 48)) (v_iv (n_v vs 5)) (v_iv (n_v vs 6)) (v_iv (n_v vs 7)) (v_iv (n_v vs 33)) (v_iv (n_v vs 32)) (v_iv (n_v vs 6)) (v_iv (n_v vs 6))
      simp only [q4, q5, q6, q7]
      exact vc_Mo_shortest_15_0 (v_iv (n_v vs 1)) (v_iv (n_v vs 2)) (v_iv (n_v vs 3)) (v_iv (n_v vs 9)) (v_iv (n_v vs 24)) (v_iv (n_v vs 25)) (v_iv (n_v vs 28)) (v_iv (n_v vs 29)) (v_iv (n_v vs 32)) (v_iv (n_v vs 33)) (w_ei ws (w_ar ws (n_v vs 0) 33)) (w_ei ws (w_ar ws (n_v vs 0) 34)) (w_ei ws (w_ar ws (n_v vs 0) 43)) (w_ei ws (w_ar ws (n_v vs 0) 44)) (w_fi ws (n_v vs 0) 49) (w_ei ws (w_ar ws (n_v vs 0) 42)) (w_ei ws (w_ar ws (n_v vs 0) 48)) k1 k2 k3 k32 k33 kz_0_49
  have nf1 : fc_1 PRD (20, [4, 32, 10], [60, 1, 1, 128, 31, 48]) ws (vs) := by
    refine ⟨nf_in hl rfl, sgq_551 ?_⟩
    · show SMN (w_fi ws (n_v vs 4) 31) (w_ei ws (w_ar ws (n_v vs 4) 48)) (v_iv (n_v vs 32)) (v_iv (n_v vs 10))
      rw [q4]
      exact vc_Mo_shortest_15_1 (v_iv (n_v vs 1)) (v_iv (n_v vs 2)) (v_iv (n_v vs 3)) (v_iv (n_v vs 10)) (v_iv (n_v vs 24)) (v_iv (n_v vs 25)) (v_iv (n_v vs 26)) (v_iv (n_v vs 27)) (v_iv (n_v vs 28)) (v_iv (n_v vs 29)) (v_iv (n_v vs 30)) (v_iv (n_v vs 31)) (v_iv (n_v vs 32)) (w_ei ws (w_ar ws (n_v vs 0) 33)) (w_ei ws (w_ar ws (n_v vs 0) 34)) (w_ei ws (w_ar ws (n_v vs 0) 43)) (w_ei ws (w_ar ws (n_v vs 0) 44)) (w_fi ws (n_v vs 0) 49) (w_fi ws (n_v vs 0) 31) (w_ei ws (w_ar ws (n_v vs 0) 42)) (w_ei ws (w_ar ws (n_v vs 0) 48)) k1 k2 k3 k10 k24 k25 k26 k27 k28 k29 k30 k31 k32 f1 f10 f11 f41 kz_0_31 kz_0_49
  refine ⟨(fun _ h => (by cases h)), [], trivial, ?_, (fun _ h => (by cases h))⟩
  rw [List.append_nil]
  exact List.forall_mem_cons.mpr ⟨⟨show (20 : Nat) < 100 from by decide, nf0⟩, List.forall_mem_cons.mpr ⟨⟨show (20 : Nat) < 100 from by decide, nf1⟩, (fun _ h => (by cases h))⟩⟩
set_option maxHeartbeats 4000000 in
theorem vc_Mo_shortest_16_0 (x1 : Int) (x2 : Int) (x3 : Int) (x9 : Int) (x23 : Int) (x24 : Int) (x25 : Int) (x26 : Int) (x27 : Int) (x28 : Int) (x29 : Int) (x30 : Int) (x31 : Int) (x32 : Int) (x33 : Int) (pt_0 : Int → Int) (ph_0 : Int → Int) (drawnEdge_0 : Int → Int) (pieceOf_0 : Int → Int) (onlyPiece_0 : Int) (pn_0 : Int) (drawnNode_0 : Int → Int) (toGoal_0 : Int → Int) (k1 : 0 ≤ x1 ∧ x1 ≤ 24) (k2 : 0 ≤ x2 ∧ x2 ≤ 24) (k3 : 0 ≤ x3 ∧ x3 ≤ 1) (k9 : 0 ≤ x9 ∧ x9 ≤ 79) (k23 : 0 ≤ x23 ∧ x23 ≤ 0) (k24 : 0 ≤ x24 ∧ x24 ≤ 24) (k25 : 0 ≤ x25 ∧ x25 ≤ 24) (k26 : 0 ≤ x26 ∧ x26 ≤ 80) (k27 : 0 ≤ x27 ∧ x27 ≤ 1) (k28 : 0 ≤ x28 ∧ x28 ≤ 24) (k29 : 0 ≤ x29 ∧ x29 ≤ 24) (k30 : (-2) ≤ x30 ∧ x30 ≤ 26000060) (k31 : 0 ≤ x31 ∧ x31 ≤ 0) (k32 : 0 ≤ x32 ∧ x32 ≤ 0) (k33 : 1 ≤ x33 ∧ x33 ≤ 80) (d0 : x9 + 1 ≤ x33 ∧ x33 ≤ x9 + 1) (f2 : x31 = 0) (f3 : 1 * x26 + ((-1) * x9 + 0) ≤ 0) (f4 : (-1) * x26 + (1 * x9 + 0) ≤ 0) (f5 : 1 * x27 + ((-1) * x23 + 0) ≤ 0) (f7 : 1 * x28 + ((-1) * x25 + 0) ≤ 0) (f8 : (-1) * x28 + (1 * x25 + 0) ≤ 0) (f9 : 1 * x29 + ((-1) * x24 + 0) ≤ 0) (f10 : (-1) * x29 + (1 * x24 + 0) ≤ 0) (f16 : x24 = ph_0 (x9)) (f17 : x25 = pt_0 (x9)) (f42 : CLO (pn_0) (onlyPiece_0) (pt_0) (ph_0) (drawnEdge_0) (pieceOf_0) (drawnNode_0) (toGoal_0) (x24) (x25) (x1) (x2) (x3) (x26) (x27) (x28) (x29) (x30) (x31)) (kz_0_31 : 0 ≤ pn_0 ∧ pn_0 ≤ 25) (kz_0_49 : (-1) ≤ onlyPiece_0 ∧ onlyPiece_0 ≤ 79) : TG3 (onlyPiece_0) (pt_0) (ph_0) (drawnEdge_0) (pieceOf_0) (drawnNode_0) (toGoal_0) (x1) (x2) (x3) (x33) (x32) (x2) (x2) := by
  first
    | (intro h; exfalso; omega)
    | (intro h; exact ⟨fun e a b => by exfalso; omega, fun _ => by omega⟩)
    | (have c := ‹CLO _ _ _ _ _ _ _ _ _ _ _ _ _ _ _ _ _ _ _›
       have c1 := c.1 (by omega)
       intro h
       have t := c1.1 (by omega)
       refine ⟨fun e a b m => ?_, fun _ => by omega⟩
       by_cases q : e = x9
       · subst q
         refine ⟨?_, ?_⟩
         · have := t.2
           rw [show x28 = pt_0 e by omega, show x29 = ph_0 e by omega] at this; exact this
         · have := c1.2.1
           rw [show x24 = ph_0 e by omega, show x25 = pt_0 e by omega] at this; exact this
       · exact t.1 e a (by omega) m)
    | (have h := ‹TG3 _ _ _ _ _ _ _ _ _ _ _ _ _ _›
       have mg := ‹MGP _ _ _ _ _›
       intro h0
       have h1 := h h0
       refine ⟨fun e a b c => ?_, h1.2⟩
       by_cases q : e = x9
       · subst q; exact absurd (mg.mpr c) (by omega)
       · exact h1.1 e a (by omega) c)
set_option maxHeartbeats 4000000 in
theorem vc_Mo_shortest_16_1 (x1 : Int) (x2 : Int) (x3 : Int) (x10 : Int) (x23 : Int) (x24 : Int) (x25 : Int) (x26 : Int) (x27 : Int) (x28 : Int) (x29 : Int) (x30 : Int) (x31 : Int) (x32 : Int) (pt_0 : Int → Int) (ph_0 : Int → Int) (drawnEdge_0 : Int → Int) (pieceOf_0 : Int → Int) (onlyPiece_0 : Int) (pn_0 : Int) (drawnNode_0 : Int → Int) (toGoal_0 : Int → Int) (k1 : 0 ≤ x1 ∧ x1 ≤ 24) (k2 : 0 ≤ x2 ∧ x2 ≤ 24) (k3 : 0 ≤ x3 ∧ x3 ≤ 1) (k10 : (-2) ≤ x10 ∧ x10 ≤ 26000060) (k23 : 0 ≤ x23 ∧ x23 ≤ 0) (k24 : 0 ≤ x24 ∧ x24 ≤ 24) (k25 : 0 ≤ x25 ∧ x25 ≤ 24) (k26 : 0 ≤ x26 ∧ x26 ≤ 80) (k27 : 0 ≤ x27 ∧ x27 ≤ 1) (k28 : 0 ≤ x28 ∧ x28 ≤ 24) (k29 : 0 ≤ x29 ∧ x29 ≤ 24) (k30 : (-2) ≤ x30 ∧ x30 ≤ 26000060) (k31 : 0 ≤ x31 ∧ x31 ≤ 0) (k32 : 0 ≤ x32 ∧ x32 ≤ 0) (f2 : x31 = 0) (f5 : 1 * x27 + ((-1) * x23 + 0) ≤ 0) (f11 : 1 * x30 + ((-1) * x10 + 0) ≤ 0) (f12 : (-1) * x30 + (1 * x10 + 0) ≤ 0) (f42 : CLO (pn_0) (onlyPiece_0) (pt_0) (ph_0) (drawnEdge_0) (pieceOf_0) (drawnNode_0) (toGoal_0) (x24) (x25) (x1) (x2) (x3) (x26) (x27) (x28) (x29) (x30) (x31)) (kz_0_31 : 0 ≤ pn_0 ∧ pn_0 ≤ 25) (kz_0_49 : (-1) ≤ onlyPiece_0 ∧ onlyPiece_0 ≤ 79) : SMN (pn_0) (toGoal_0) (x32) (x10) := by
  first
    | assumption
    | (have h := ‹SMM _ _ _ _›; unfold SMN; unfold SMM at h; omega)
    | (have c := ‹CLO _ _ _ _ _ _ _ _ _ _ _ _ _ _ _ _ _ _ _›
       unfold SMN
       first
         | (have := (c.1 (by omega)).2.2; omega)
         | (have := c.2 (by omega); omega))
def o_Mo_shortest_16 : or_T := (52, 34, [(0, (2, 0, 0, [165])), (1, (0, 0, 24, [])), (2, (0, 0, 24, [])), (3, (0, 0, 1, [])), (4, (2, 0, 0, [165])), (5, (0, 0, 24, [])), (6, (0, 0, 24, [])), (7, (0, 0, 1, [])), (9, (0, 0, 79, [])), (10, (0, -2, 26000060, [])), (11, (0, 1, 80, [])), (12, (0, 1, 1, [])), (14, (0, 0, 24, [])), (16, (0, 0, 24, [])), (17, (0, 0, 80, [])), (19, (0, 0, 24, [])), (20, (0, 0, 24, [])), (21, (0, -2, 26000060, [])), (23, (0, 0, 0, [])), (24, (0, 0, 24, [])), (25, (0, 0, 24, [])), (26, (0, 0, 80, [])), (27, (0, 0, 1, [])), (28, (0, 0, 24, [])), (29, (0, 0, 24, [])), (30, (0, -2, 26000060, [])), (31, (0, 0, 0, [])), (32, (0, 0, 0, [])), (33, (0, 1, 80, []))], [(6, [33, 9], [1]), (8, [23], [0]), (8, [31], [0]), (23, [26, 9], [0, 1, -1]), (23, [26, 9], [0, -1, 1]), (23, [27, 23], [0, 1, -1]), (23, [27, 23], [0, -1, 1]), (23, [28, 25], [0, 1, -1]), (23, [28, 25], [0, -1, 1]), (23, [29, 24], [0, 1, -1]), (23, [29, 24], [0, -1, 1]), (23, [30, 10], [0, 1, -1]), (23, [30, 10], [0, -1, 1]), (20, [4, 24, 25], [60, 2, 4, 121, 32, 49, 33, 34, 43, 44]), (20, [24, 4], [30, -1, 1, 0, 0, -1, 1, 31]), (20, [25, 4], [30, -1, 1, 0, 0, -1, 1, 31]), (20, [24, 4, 9], [50, 0, 1, 1034, 1, 2, 1, 0, 3, 1, 34, 1, 2]), (20, [25, 4, 9], [50, 0, 1, 1033, 1, 2, 1, 0, 3, 1, 33, 1, 2]), (23, [17, 9], [0, 1, -1]), (23, [17, 9], [0, -1, 1]), (23, [19, 6], [0, 1, -1]), (23, [19, 6], [0, -1, 1]), (23, [20, 6], [0, 1, -1]), (23, [20, 6], [0, -1, 1]), (23, [21, 10], [0, 1, -1]), (23, [21, 10], [0, -1, 1]), (20, [4, 14, 16], [60, 2, 4, 121, 32, 49, 33, 34, 43, 44]), (20, [14, 4], [30, -1, 1, 0, 0, -1, 1, 31]), (20, [16, 4], [30, -1, 1, 0, 0, -1, 1, 31]), (20, [14, 4, 9], [50, 0, 1, 1033, 1, 2, 1, 0, 3, 1, 33, 1, 2]), (20, [16, 4, 9], [50, 0, 1, 1034, 1, 2, 1, 0, 3, 1, 34, 1, 2]), (20, [4, 9, 12], [60, 1, 2, 120, 49, 43, 44]), (20, [9, 4], [30, -1, 1, 0, 0, -1, 1, 32]), (20, [4], [60, 2, 2, 75, 31, 32, 33, 34]), (20, [4], [60, 1, 2, 122, 32, 35, 43]), (20, [5, 4], [30, -1, 1, 0, 0, -1, 1, 31]), (20, [6, 4], [30, -1, 1, 0, 0, -1, 1, 31]), (24, [0, 4], []), (24, [1, 5], []), (24, [2, 6], []), (24, [3, 7], []), (20, [4, 5, 6, 7], [60, 3, 6, 124, 31, 32, 49, 33, 34, 43, 44, 42, 48]), (20, [4, 24, 25, 5, 6, 7, 26, 27, 28, 29, 30, 31], [60, 2, 6, 129, 31, 49, 33, 34, 43, 44, 42, 48]), (102, [30], [6277101735386680763835789423207666416102355444464034512896]), (23, [26, 9], [0, 1, -1]), (23, [26, 9], [0, -1, 1]), (23, [27, 23], [0, 1, -1]), (23, [27, 23], [0, -1, 1]), (23, [28, 25], [0, 1, -1]), (23, [28, 25], [0, -1, 1]), (23, [29, 24], [0, 1, -1]), (23, [29, 24], [0, -1, 1]), (23, [30, 10], [0, 1, -1]), (23, [30, 10], [0, -1, 1]), (23, [17, 9], [0, 1, -1]), (23, [17, 9], [0, -1, 1]), (23, [19, 6], [0, 1, -1]), (23, [19, 6], [0, -1, 1]), (23, [20, 6], [0, 1, -1]), (23, [20, 6], [0, -1, 1]), (23, [21, 10], [0, 1, -1]), (23, [21, 10], [0, -1, 1]), (102, [21], [6277101735386680763835789423207666416102355444464034512896]), (23, [17, 9], [0, 1, -1]), (23, [17, 9], [0, -1, 1]), (23, [19, 6], [0, 1, -1]), (23, [19, 6], [0, -1, 1]), (23, [20, 6], [0, 1, -1]), (23, [20, 6], [0, -1, 1]), (23, [21, 10], [0, 1, -1]), (23, [21, 10], [0, -1, 1]), (8, [12], [1]), (7, [9, 11], [2])], [], [], [(20, [4, 5, 6, 7, 33, 32, 6, 6], [60, 1, 6, 125, 49, 33, 34, 43, 44, 42, 48]), (20, [4, 32, 10], [60, 1, 1, 128, 31, 48])], [], [(33, 9, 1, 1), (33, 11, -4294967296, 0), (9, 11, -4294967296, -1), (1, 5, -4294967296, 0), (2, 6, -4294967296, 0), (3, 7, -4294967296, 0), (5, 1, -4294967296, 0), (6, 2, -4294967296, 0), (7, 3, -4294967296, 0)])
theorem oo_Mo_shortest_16 {kA : Nat → ClassId} : or_ok PRD kA GG o_Mo_shortest_16 := by
  refine or_mk fun A ta ws vs hD hth hl => ?_
  intro t0 r0 t1 k1 t2 k2 t3 k3 t4 r4 t5 k5 t6 k6 t7 k7 t9 k9 t10 k10 t11 k11 t12 k12 t14 k14 t16 k16 t17 k17 t19 k19 t20 k20 t21 k21 t23 k23 t24 k24 t25 k25 t26 k26 t27 k27 t28 k28 t29 k29 t30 k30 t31 k31 t32 k32 t33 k33 d0 d1 d2 d3 d4 d5 d6 d7 d8 f0 f1 f2 f3 f4 f5 f6 f7 f8 f9 f10 f11 f12 f13 f14 f15 f16 f17 f18 f19 f20 f21 f22 f23 f24 f25 f26 f27 f28 f29 f30 f31 f32 f33 f34 f35 f36 f37 f38 f39 f40 f41 f42 ta1 w1 le1 s1 f44 f45 f46 f47 f48 f49 f50 f51 f52 f53 f54 f55 f56 f57 f58 f59 f60 f61 ta2 w2 le2 s2 f63 f64 f65 f66 f67 f68 f69 f70 f71 f72
  replace f2 := shm_192 f2
  replace f3 := shm_7 f3
  replace f4 := shm_22 f4
  replace f5 := shm_7 f5
  replace f7 := shm_7 f7
  replace f8 := shm_22 f8
  replace f9 := shm_7 f9
  replace f10 := shm_22 f10
  replace f11 := shm_7 f11
  replace f12 := shm_22 f12
  replace f16 := shm_1466 f16
  replace f17 := shm_1465 f17
  replace f37 := shm_5 f37
  replace f38 := shm_5 f38
  replace f39 := shm_5 f39
  replace f40 := shm_5 f40
  replace f42 := shm_554 f42
  have q4 : n_v vs 4 = n_v vs 0 := f37.symm
  have q5 : n_v vs 5 = n_v vs 1 := f38.symm
  have q6 : n_v vs 6 = n_v vs 2 := f39.symm
  have q7 : n_v vs 7 = n_v vs 3 := f40.symm
  simp only [q4, q6, q5, q7] at f16 f17 f42
  have kz_0_31 := fdq_145 hD hth r0
  have kz_0_49 := fdq_146 hD hth r0
  have nf0 : fc_1 PRD (20, [4, 5, 6, 7, 33, 32, 6, 6], [60, 1, 6, 125, 49, 33, 34, 43, 44, 42, 48]) ws (vs) := by
    refine ⟨nf_in hl rfl, sgq_1464 ?_⟩
    · show TG3 (w_fi ws (n_v vs 4) 49) (w_ei ws (w_ar ws (n_v vs 4) 33)) (w_ei ws (w_ar ws (n_v vs 4) 34)) (w_ei ws (w_ar ws (n_v vs 4) 43)) (w_ei ws (w_ar ws (n_v vs 4) 44)) (w_ei ws (w_ar ws (n_v vs 4) 42)) (w_ei ws (w_ar ws (n_v vs 4) 48)) (v_iv (n_v vs 5)) (v_iv (n_v vs 6)) (v_iv (n_v vs 7)) (v_iv (n_v vs 33)) (v_iv (n_v vs 32)) (v_iv (n_v vs 6)) (v_iv (n_v vs 6))
      simp only [q4, q5, q6, q7]
      exact vc_Mo_shortest_16_0 (v_iv (n_v vs 1)) (v_iv (n_v vs 2)) (v_iv (n_v vs 3)) (v_iv (n_v vs 9)) (v_iv (n_v vs 23)) (v_iv (n_v vs 24)) (v_iv (n_v vs 25)) (v_iv (n_v vs 26)) (v_iv (n_v vs 27)) (v_iv (n_v vs 28)) (v_iv (n_v vs 29)) (v_iv (n_v vs 30)) (v_iv (n_v vs 31)) (v_iv (n_v vs 32)) (v_iv (n_v vs 33)) (w_ei ws (w_ar ws (n_v vs 0) 33)) (w_ei ws (w_ar ws (n_v vs 0) 34)) (w_ei ws (w_ar ws (n_v vs 0) 43)) (w_ei ws (w_ar ws (n_v vs 0) 44)) (w_fi ws (n_v vs 0) 49) (w_fi ws (n_v vs 0) 31) (w_ei ws (w_ar ws (n_v vs 0) 42)) (w_ei ws (w_ar ws (n_v vs 0) 48)) k1 k2 k3 k9 k23 k24 k25 k26 k27 k28 k29 k30 k31 k32 k33 d0 f2 f3 f4 f5 f7 f8 f9 f10 f16 f17 f42 kz_0_31 kz_0_49
  have nf1 : fc_1 PRD (20, [4, 32, 10], [60, 1, 1, 128, 31, 48]) ws (vs) := by
    refine ⟨nf_in hl rfl, sgq_551 ?_⟩
    · show SMN (w_fi ws (n_v vs 4) 31) (w_ei ws (w_ar ws (n_v vs 4) 48)) (v_iv (n_v vs 32)) (v_iv (n_v vs 10))
      rw [q4]
      exact vc_Mo_shortest_16_1 (v_iv (n_v vs 1)) (v_iv (n_v vs 2)) (v_iv (n_v vs 3)) (v_iv (n_v vs 10)) (v_iv (n_v vs 23)) (v_iv (n_v vs 24)) (v_iv (n_v vs 25)) (v_iv (n_v vs 26)) (v_iv (n_v vs 27)) (v_iv (n_v vs 28)) (v_iv (n_v vs 29)) (v_iv (n_v vs 30)) (v_iv (n_v vs 31)) (v_iv (n_v vs 32)) (w_ei ws (w_ar ws (n_v vs 0) 33)) (w_ei ws (w_ar ws (n_v vs 0) 34)) (w_ei ws (w_ar ws (n_v vs 0) 43)) (w_ei ws (w_ar ws (n_v vs 0) 44)) (w_fi ws (n_v vs 0) 49) (w_fi ws (n_v vs 0) 31) (w_ei ws (w_ar ws (n_v vs 0) 42)) (w_ei ws (w_ar ws (n_v vs 0) 48)) k1 k2 k3 k10 k23 k24 k25 k26 k27 k28 k29 k30 k31 k32 f2 f5 f11 f12 f42 kz_0_31 kz_0_49
  refine ⟨(fun _ h => (by cases h)), [], trivial, ?_, (fun _ h => (by cases h))⟩
  rw [List.append_nil]
  exact List.forall_mem_cons.mpr ⟨⟨show (20 : Nat) < 100 from by decide, nf0⟩, List.forall_mem_cons.mpr ⟨⟨show (20 : Nat) < 100 from by decide, nf1⟩, (fun _ h => (by cases h))⟩⟩
set_option maxHeartbeats 4000000 in
theorem vc_Mo_shortest_17_0 (x9 : Int) (x17 : Int) (pt_0 : Int → Int) (ph_0 : Int → Int) (pm_0 : Int) (pn_0 : Int) (gx : Int) (k9 : 1 ≤ x9 ∧ x9 ≤ 79) (k17 : 0 ≤ x17 ∧ x17 ≤ 80) (f6 : 1 * x17 + ((-1) * x9 + 0) ≤ 0) (f7 : (-1) * x17 + (1 * x9 + 0) ≤ 0) (f22 : 1 * x9 + ((-1) * pm_0 + 0) ≤ (-1)) (f23 : GOK (pn_0) (pm_0) (pt_0) (ph_0)) (kz_0_31 : 0 ≤ pn_0 ∧ pn_0 ≤ 25) (kz_0_32 : 0 ≤ pm_0 ∧ pm_0 ≤ 80) (ex2 : gx = x9) : 1 * gx + ((-1) * x9 + 0) ≤ 0 := by
  have g := ‹GOK _ _ _ _›.1 x9 (by omega) (by omega)
  omega
set_option maxHeartbeats 4000000 in
theorem vc_Mo_shortest_17_1 (x9 : Int) (x17 : Int) (pt_0 : Int → Int) (ph_0 : Int → Int) (pm_0 : Int) (pn_0 : Int) (gx : Int) (k9 : 1 ≤ x9 ∧ x9 ≤ 79) (k17 : 0 ≤ x17 ∧ x17 ≤ 80) (f6 : 1 * x17 + ((-1) * x9 + 0) ≤ 0) (f7 : (-1) * x17 + (1 * x9 + 0) ≤ 0) (f22 : 1 * x9 + ((-1) * pm_0 + 0) ≤ (-1)) (f23 : GOK (pn_0) (pm_0) (pt_0) (ph_0)) (kz_0_31 : 0 ≤ pn_0 ∧ pn_0 ≤ 25) (kz_0_32 : 0 ≤ pm_0 ∧ pm_0 ≤ 80) (ex2 : gx = x9) : (-1) * gx + (1 * x9 + 0) ≤ 0 := by
  have g := ‹GOK _ _ _ _›.1 x9 (by omega) (by omega)
  omega
set_option maxHeartbeats 4000000 in
theorem vc_Mo_shortest_17_2 (x9 : Int) (x17 : Int) (x23 : Int) (pt_0 : Int → Int) (ph_0 : Int → Int) (pm_0 : Int) (pn_0 : Int) (gx : Int) (gy : Int) (k9 : 1 ≤ x9 ∧ x9 ≤ 79) (k17 : 0 ≤ x17 ∧ x17 ≤ 80) (k23 : 1 ≤ x23 ∧ x23 ≤ 1) (f6 : 1 * x17 + ((-1) * x9 + 0) ≤ 0) (f7 : (-1) * x17 + (1 * x9 + 0) ≤ 0) (f22 : 1 * x9 + ((-1) * pm_0 + 0) ≤ (-1)) (f23 : GOK (pn_0) (pm_0) (pt_0) (ph_0)) (kz_0_31 : 0 ≤ pn_0 ∧ pn_0 ≤ 25) (kz_0_32 : 0 ≤ pm_0 ∧ pm_0 ≤ 80) (ex2 : gx = x9) (ey2 : gy = x23) : 1 * gy + ((-1) * x23 + 0) ≤ 0 := by
  have g := ‹GOK _ _ _ _›.1 x9 (by omega) (by omega)
  omega
set_option maxHeartbeats 4000000 in
theorem vc_Mo_shortest_17_3 (x9 : Int) (x17 : Int) (x23 : Int) (pt_0 : Int → Int) (ph_0 : Int → Int) (pm_0 : Int) (pn_0 : Int) (gx : Int) (gy : Int) (k9 : 1 ≤ x9 ∧ x9 ≤ 79) (k17 : 0 ≤ x17 ∧ x17 ≤ 80) (k23 : 1 ≤ x23 ∧ x23 ≤ 1) (f6 : 1 * x17 + ((-1) * x9 + 0) ≤ 0) (f7 : (-1) * x17 + (1 * x9 + 0) ≤ 0) (f22 : 1 * x9 + ((-1) * pm_0 + 0) ≤ (-1)) (f23 : GOK (pn_0) (pm_0) (pt_0) (ph_0)) (kz_0_31 : 0 ≤ pn_0 ∧ pn_0 ≤ 25) (kz_0_32 : 0 ≤ pm_0 ∧ pm_0 ≤ 80) (ex2 : gx = x9) (ey2 : gy = x23) : (-1) * gy + (1 * x23 + 0) ≤ 0 := by
  have g := ‹GOK _ _ _ _›.1 x9 (by omega) (by omega)
  omega
set_option maxHeartbeats 4000000 in
theorem vc_Mo_shortest_17_4 (x9 : Int) (x17 : Int) (x25 : Int) (pt_0 : Int → Int) (ph_0 : Int → Int) (pm_0 : Int) (pn_0 : Int) (gx : Int) (gu : Int) (k9 : 1 ≤ x9 ∧ x9 ≤ 79) (k17 : 0 ≤ x17 ∧ x17 ≤ 80) (k25 : 0 ≤ x25 ∧ x25 ≤ 24) (h0 : x25 = pt_0 (x9)) (f6 : 1 * x17 + ((-1) * x9 + 0) ≤ 0) (f7 : (-1) * x17 + (1 * x9 + 0) ≤ 0) (f22 : 1 * x9 + ((-1) * pm_0 + 0) ≤ (-1)) (f23 : GOK (pn_0) (pm_0) (pt_0) (ph_0)) (kz_0_31 : 0 ≤ pn_0 ∧ pn_0 ≤ 25) (kz_0_32 : 0 ≤ pm_0 ∧ pm_0 ≤ 80) (ex2 : gx = x9) (eu2 : gu = x25) : 1 * gu + ((-1) * x25 + 0) ≤ 0 := by
  have g := ‹GOK _ _ _ _›.1 x9 (by omega) (by omega)
  omega
set_option maxHeartbeats 4000000 in
theorem vc_Mo_shortest_17_5 (x9 : Int) (x17 : Int) (x25 : Int) (pt_0 : Int → Int) (ph_0 : Int → Int) (pm_0 : Int) (pn_0 : Int) (gx : Int) (gu : Int) (k9 : 1 ≤ x9 ∧ x9 ≤ 79) (k17 : 0 ≤ x17 ∧ x17 ≤ 80) (k25 : 0 ≤ x25 ∧ x25 ≤ 24) (h0 : x25 = pt_0 (x9)) (f6 : 1 * x17 + ((-1) * x9 + 0) ≤ 0) (f7 : (-1) * x17 + (1 * x9 + 0) ≤ 0) (f22 : 1 * x9 + ((-1) * pm_0 + 0) ≤ (-1)) (f23 : GOK (pn_0) (pm_0) (pt_0) (ph_0)) (kz_0_31 : 0 ≤ pn_0 ∧ pn_0 ≤ 25) (kz_0_32 : 0 ≤ pm_0 ∧ pm_0 ≤ 80) (ex2 : gx = x9) (eu2 : gu = x25) : (-1) * gu + (1 * x25 + 0) ≤ 0 := by
  have g := ‹GOK _ _ _ _›.1 x9 (by omega) (by omega)
  omega
set_option maxHeartbeats 4000000 in
theorem vc_Mo_shortest_17_6 (x9 : Int) (x17 : Int) (x24 : Int) (pt_0 : Int → Int) (ph_0 : Int → Int) (pm_0 : Int) (pn_0 : Int) (gx : Int) (gw : Int) (k9 : 1 ≤ x9 ∧ x9 ≤ 79) (k17 : 0 ≤ x17 ∧ x17 ≤ 80) (k24 : 0 ≤ x24 ∧ x24 ≤ 24) (h2 : x24 = ph_0 (x9)) (f6 : 1 * x17 + ((-1) * x9 + 0) ≤ 0) (f7 : (-1) * x17 + (1 * x9 + 0) ≤ 0) (f22 : 1 * x9 + ((-1) * pm_0 + 0) ≤ (-1)) (f23 : GOK (pn_0) (pm_0) (pt_0) (ph_0)) (kz_0_31 : 0 ≤ pn_0 ∧ pn_0 ≤ 25) (kz_0_32 : 0 ≤ pm_0 ∧ pm_0 ≤ 80) (ex2 : gx = x9) (ew2 : gw = x24) : 1 * gw + ((-1) * x24 + 0) ≤ 0 := by
  have g := ‹GOK _ _ _ _›.1 x9 (by omega) (by omega)
  omega
set_option maxHeartbeats 4000000 in
theorem vc_Mo_shortest_17_7 (x9 : Int) (x17 : Int) (x24 : Int) (pt_0 : Int → Int) (ph_0 : Int → Int) (pm_0 : Int) (pn_0 : Int) (gx : Int) (gw : Int) (k9 : 1 ≤ x9 ∧ x9 ≤ 79) (k17 : 0 ≤ x17 ∧ x17 ≤ 80) (k24 : 0 ≤ x24 ∧ x24 ≤ 24) (h2 : x24 = ph_0 (x9)) (f6 : 1 * x17 + ((-1) * x9 + 0) ≤ 0) (f7 : (-1) * x17 + (1 * x9 + 0) ≤ 0) (f22 : 1 * x9 + ((-1) * pm_0 + 0) ≤ (-1)) (f23 : GOK (pn_0) (pm_0) (pt_0) (ph_0)) (kz_0_31 : 0 ≤ pn_0 ∧ pn_0 ≤ 25) (kz_0_32 : 0 ≤ pm_0 ∧ pm_0 ≤ 80) (ex2 : gx = x9) (ew2 : gw = x24) : (-1) * gw + (1 * x24 + 0) ≤ 0 := by
  have g := ‹GOK _ _ _ _›.1 x9 (by omega) (by omega)
  omega
set_option maxHeartbeats 4000000 in
theorem vc_Mo_shortest_17_8 (x9 : Int) (x10 : Int) (x17 : Int) (x21 : Int) (pt_0 : Int → Int) (ph_0 : Int → Int) (pm_0 : Int) (pn_0 : Int) (gx : Int) (gc : Int) (k9 : 1 ≤ x9 ∧ x9 ≤ 79) (k10 : (-2) ≤ x10 ∧ x10 ≤ 26000060) (k17 : 0 ≤ x17 ∧ x17 ≤ 80) (k21 : (-2) ≤ x21 ∧ x21 ≤ 26000060) (f6 : 1 * x17 + ((-1) * x9 + 0) ≤ 0) (f7 : (-1) * x17 + (1 * x9 + 0) ≤ 0) (f14 : 1 * x21 + ((-1) * x10 + 0) ≤ 0) (f15 : (-1) * x21 + (1 * x10 + 0) ≤ 0) (f22 : 1 * x9 + ((-1) * pm_0 + 0) ≤ (-1)) (f23 : GOK (pn_0) (pm_0) (pt_0) (ph_0)) (kz_0_31 : 0 ≤ pn_0 ∧ pn_0 ≤ 25) (kz_0_32 : 0 ≤ pm_0 ∧ pm_0 ≤ 80) (ex2 : gx = x9) (ec2 : gc = x10) : 1 * gc + ((-1) * x10 + 0) ≤ 0 := by
  have g := ‹GOK _ _ _ _›.1 x9 (by omega) (by omega)
  omega
set_option maxHeartbeats 4000000 in
theorem vc_Mo_shortest_17_9 (x9 : Int) (x10 : Int) (x17 : Int) (x21 : Int) (pt_0 : Int → Int) (ph_0 : Int → Int) (pm_0 : Int) (pn_0 : Int) (gx : Int) (gc : Int) (k9 : 1 ≤ x9 ∧ x9 ≤ 79) (k10 : (-2) ≤ x10 ∧ x10 ≤ 26000060) (k17 : 0 ≤ x17 ∧ x17 ≤ 80) (k21 : (-2) ≤ x21 ∧ x21 ≤ 26000060) (f6 : 1 * x17 + ((-1) * x9 + 0) ≤ 0) (f7 : (-1) * x17 + (1 * x9 + 0) ≤ 0) (f14 : 1 * x21 + ((-1) * x10 + 0) ≤ 0) (f15 : (-1) * x21 + (1 * x10 + 0) ≤ 0) (f22 : 1 * x9 + ((-1) * pm_0 + 0) ≤ (-1)) (f23 : GOK (pn_0) (pm_0) (pt_0) (ph_0)) (kz_0_31 : 0 ≤ pn_0 ∧ pn_0 ≤ 25) (kz_0_32 : 0 ≤ pm_0 ∧ pm_0 ≤ 80) (ex2 : gx = x9) (ec2 : gc = x10) : (-1) * gc + (1 * x10 + 0) ≤ 0 := by
  have g := ‹GOK _ _ _ _›.1 x9 (by omega) (by omega)
  omega
set_option maxHeartbeats 4000000 in
theorem vc_Mo_shortest_17_10 (x1 : Int) (x2 : Int) (x3 : Int) (pt_0 : Int → Int) (ph_0 : Int → Int) (drawnEdge_0 : Int → Int) (pieceOf_0 : Int → Int) (pm_0 : Int) (onlyPiece_0 : Int) (pn_0 : Int) (drawnNode_0 : Int → Int) (toGoal_0 : Int → Int) (k1 : 0 ≤ x1 ∧ x1 ≤ 24) (k2 : 0 ≤ x2 ∧ x2 ≤ 24) (k3 : 0 ≤ x3 ∧ x3 ≤ 1) (f31 : TGI (pn_0) (pm_0) (onlyPiece_0) (pt_0) (ph_0) (drawnEdge_0) (pieceOf_0) (drawnNode_0) (toGoal_0) (x1) (x2) (x3)) (kz_0_31 : 0 ≤ pn_0 ∧ pn_0 ≤ 25) (kz_0_32 : 0 ≤ pm_0 ∧ pm_0 ≤ 80) (kz_0_49 : (-1) ≤ onlyPiece_0 ∧ onlyPiece_0 ≤ 79) : TGI (pn_0) (pm_0) (onlyPiece_0) (pt_0) (ph_0) (drawnEdge_0) (pieceOf_0) (drawnNode_0) (toGoal_0) (x1) (x2) (x3) := by
  first | assumption
set_option maxHeartbeats 4000000 in
theorem vc_Mo_shortest_17_11 (x1 : Int) (x2 : Int) (x3 : Int) (x9 : Int) (x14 : Int) (x16 : Int) (x23 : Int) (x24 : Int) (x25 : Int) (pt_0 : Int → Int) (ph_0 : Int → Int) (drawnEdge_0 : Int → Int) (pieceOf_0 : Int → Int) (onlyPiece_0 : Int) (drawnNode_0 : Int → Int) (toGoal_0 : Int → Int) (gx : Int) (gy : Int) (gu : Int) (gw : Int) (k1 : 0 ≤ x1 ∧ x1 ≤ 24) (k2 : 0 ≤ x2 ∧ x2 ≤ 24) (k3 : 0 ≤ x3 ∧ x3 ≤ 1) (k9 : 1 ≤ x9 ∧ x9 ≤ 79) (k23 : 1 ≤ x23 ∧ x23 ≤ 1) (k24 : 0 ≤ x24 ∧ x24 ≤ 24) (k25 : 0 ≤ x25 ∧ x25 ≤ 24) (kz_0_49 : (-1) ≤ onlyPiece_0 ∧ onlyPiece_0 ≤ 79) (ex2 : gx = x9) (ey2 : gy = x23) (eu2 : gu = x25) (ew2 : gw = x24) : TG3 (onlyPiece_0) (pt_0) (ph_0) (drawnEdge_0) (pieceOf_0) (drawnNode_0) (toGoal_0) (x1) (x2) (x3) (gx) (gy) (gu) (gw) := by
  first
    | (intro h; exfalso; omega)
    | (have c := ‹CLO _ _ _ _ _ _ _ _ _ _ _ _ _ _ _ _ _ _ _›
       have c1 := c.1 (by omega)
       intro h
       have t := c1.1 (by omega)
       rw [ex2, eu2, ew2]
       exact ⟨fun e a b => t.1 e a (by omega), by have := c1.2.1; rw [show x14 = x25 by omega, show x16 = x24 by omega] at this; exact this⟩)
set_option maxHeartbeats 4000000 in
theorem vc_Mo_shortest_17_12 (x1 : Int) (x2 : Int) (x3 : Int) (x8 : Int) (x10 : Int) (x14 : Int) (x16 : Int) (x17 : Int) (x18 : Int) (x19 : Int) (x20 : Int) (x21 : Int) (x22 : Int) (x23 : Int) (pt_0 : Int → Int) (ph_0 : Int → Int) (drawnEdge_0 : Int → Int) (pieceOf_0 : Int → Int) (onlyPiece_0 : Int) (pn_0 : Int) (drawnNode_0 : Int → Int) (toGoal_0 : Int → Int) (gy : Int) (gc : Int) (k1 : 0 ≤ x1 ∧ x1 ≤ 24) (k2 : 0 ≤ x2 ∧ x2 ≤ 24) (k3 : 0 ≤ x3 ∧ x3 ≤ 1) (k8 : 1 ≤ x8 ∧ x8 ≤ 1) (k10 : (-2) ≤ x10 ∧ x10 ≤ 26000060) (k14 : 0 ≤ x14 ∧ x14 ≤ 24) (k16 : 0 ≤ x16 ∧ x16 ≤ 24) (k17 : 0 ≤ x17 ∧ x17 ≤ 80) (k18 : 0 ≤ x18 ∧ x18 ≤ 1) (k19 : 0 ≤ x19 ∧ x19 ≤ 24) (k20 : 0 ≤ x20 ∧ x20 ≤ 24) (k21 : (-2) ≤ x21 ∧ x21 ≤ 26000060) (k22 : 0 ≤ x22 ∧ x22 ≤ 0) (k23 : 1 ≤ x23 ∧ x23 ≤ 1) (f5 : x22 = 0) (f9 : (-1) * x18 + (1 * x8 + 0) ≤ 0) (f14 : 1 * x21 + ((-1) * x10 + 0) ≤ 0) (f15 : (-1) * x21 + (1 * x10 + 0) ≤ 0) (f32 : CLO (pn_0) (onlyPiece_0) (pt_0) (ph_0) (drawnEdge_0) (pieceOf_0) (drawnNode_0) (toGoal_0) (x14) (x16) (x1) (x2) (x3) (x17) (x18) (x19) (x20) (x21) (x22)) (kz_0_31 : 0 ≤ pn_0 ∧ pn_0 ≤ 25) (kz_0_49 : (-1) ≤ onlyPiece_0 ∧ onlyPiece_0 ≤ 79) (ey2 : gy = x23) (ec2 : gc = x10) : SMN (pn_0) (toGoal_0) (gy) (gc) := by
  have c := ‹CLO _ _ _ _ _ _ _ _ _ _ _ _ _ _ _ _ _ _ _›
  unfold SMN
  first
    | (have := c.2 (by omega); omega)
    | (have := (c.1 (by omega)).2.2; omega)
set_option maxHeartbeats 4000000 in
theorem vc_Mo_shortest_17_13 (x9 : Int) (x12 : Int) (x17 : Int) (x24 : Int) (x25 : Int) (pt_0 : Int → Int) (ph_0 : Int → Int) (drawnEdge_0 : Int → Int) (pieceOf_0 : Int → Int) (pm_0 : Int) (onlyPiece_0 : Int) (gx : Int) (k9 : 1 ≤ x9 ∧ x9 ≤ 79) (k12 : 1 ≤ x12 ∧ x12 ≤ 1) (k17 : 0 ≤ x17 ∧ x17 ≤ 80) (k24 : 0 ≤ x24 ∧ x24 ≤ 24) (k25 : 0 ≤ x25 ∧ x25 ≤ 24) (h0 : x25 = pt_0 (x9)) (h2 : x24 = ph_0 (x9)) (f6 : 1 * x17 + ((-1) * x9 + 0) ≤ 0) (f7 : (-1) * x17 + (1 * x9 + 0) ≤ 0) (f21 : MGP (onlyPiece_0) (drawnEdge_0) (pieceOf_0) (x9) (x12)) (f22 : 1 * x9 + ((-1) * pm_0 + 0) ≤ (-1)) (f44 : x12 ≠ 0) (kz_0_32 : 0 ≤ pm_0 ∧ pm_0 ≤ 80) (kz_0_49 : (-1) ≤ onlyPiece_0 ∧ onlyPiece_0 ≤ 79) (ex2 : gx = x9) : ARC (pm_0) (onlyPiece_0) (pt_0) (ph_0) (drawnEdge_0) (pieceOf_0) (x24) (x25) := by
  exact ⟨x9, by omega, by omega, ‹MGP _ _ _ _ _›.mp (by omega), Or.inr ⟨by omega, by omega⟩⟩
set_option maxHeartbeats 4000000 in
theorem vc_Mo_shortest_17_14 (x9 : Int) (x16 : Int) (x17 : Int) (x24 : Int) (pt_0 : Int → Int) (ph_0 : Int → Int) (pm_0 : Int) (pn_0 : Int) (gx : Int) (gw : Int) (k9 : 1 ≤ x9 ∧ x9 ≤ 79) (k16 : 0 ≤ x16 ∧ x16 ≤ 24) (k17 : 0 ≤ x17 ∧ x17 ≤ 80) (k24 : 0 ≤ x24 ∧ x24 ≤ 24) (h2 : x24 = ph_0 (x9)) (f6 : 1 * x17 + ((-1) * x9 + 0) ≤ 0) (f7 : (-1) * x17 + (1 * x9 + 0) ≤ 0) (f18 : 1 * x16 + ((-1) * pn_0 + 0) ≤ (-1)) (f20 : x16 = ph_0 (x9)) (f22 : 1 * x9 + ((-1) * pm_0 + 0) ≤ (-1)) (f23 : GOK (pn_0) (pm_0) (pt_0) (ph_0)) (kz_0_31 : 0 ≤ pn_0 ∧ pn_0 ≤ 25) (kz_0_32 : 0 ≤ pm_0 ∧ pm_0 ≤ 80) (ex2 : gx = x9) (ew2 : gw = x24) : 1 * x24 + ((-1) * pn_0 + 0) ≤ (-1) := by
  have g := ‹GOK _ _ _ _›.1 x9 (by omega) (by omega)
  omega
set_option maxHeartbeats 4000000 in
theorem vc_Mo_shortest_17_15 (x9 : Int) (x14 : Int) (x17 : Int) (x25 : Int) (pt_0 : Int → Int) (ph_0 : Int → Int) (pm_0 : Int) (pn_0 : Int) (gx : Int) (gu : Int) (k9 : 1 ≤ x9 ∧ x9 ≤ 79) (k14 : 0 ≤ x14 ∧ x14 ≤ 24) (k17 : 0 ≤ x17 ∧ x17 ≤ 80) (k25 : 0 ≤ x25 ∧ x25 ≤ 24) (h0 : x25 = pt_0 (x9)) (f6 : 1 * x17 + ((-1) * x9 + 0) ≤ 0) (f7 : (-1) * x17 + (1 * x9 + 0) ≤ 0) (f17 : 1 * x14 + ((-1) * pn_0 + 0) ≤ (-1)) (f19 : x14 = pt_0 (x9)) (f22 : 1 * x9 + ((-1) * pm_0 + 0) ≤ (-1)) (f23 : GOK (pn_0) (pm_0) (pt_0) (ph_0)) (kz_0_31 : 0 ≤ pn_0 ∧ pn_0 ≤ 25) (kz_0_32 : 0 ≤ pm_0 ∧ pm_0 ≤ 80) (ex2 : gx = x9) (eu2 : gu = x25) : 1 * x25 + ((-1) * pn_0 + 0) ≤ (-1) := by
  have g := ‹GOK _ _ _ _›.1 x9 (by omega) (by omega)
  omega
set_option maxHeartbeats 4000000 in
theorem vc_Mo_shortest_17_16 (x9 : Int) (x17 : Int) (x24 : Int) (pt_0 : Int → Int) (ph_0 : Int → Int) (pm_0 : Int) (pn_0 : Int) (gx : Int) (k9 : 1 ≤ x9 ∧ x9 ≤ 79) (k17 : 0 ≤ x17 ∧ x17 ≤ 80) (k24 : 0 ≤ x24 ∧ x24 ≤ 24) (h2 : x24 = ph_0 (x9)) (f6 : 1 * x17 + ((-1) * x9 + 0) ≤ 0) (f7 : (-1) * x17 + (1 * x9 + 0) ≤ 0) (f22 : 1 * x9 + ((-1) * pm_0 + 0) ≤ (-1)) (f23 : GOK (pn_0) (pm_0) (pt_0) (ph_0)) (kz_0_31 : 0 ≤ pn_0 ∧ pn_0 ≤ 25) (kz_0_32 : 0 ≤ pm_0 ∧ pm_0 ≤ 80) (ex2 : gx = x9) : x24 = ph_0 (x9) := by
  have g := ‹GOK _ _ _ _›.1 x9 (by omega) (by omega)
  omega
set_option maxHeartbeats 4000000 in
theorem vc_Mo_shortest_17_17 (x9 : Int) (x17 : Int) (x25 : Int) (pt_0 : Int → Int) (ph_0 : Int → Int) (pm_0 : Int) (pn_0 : Int) (gx : Int) (k9 : 1 ≤ x9 ∧ x9 ≤ 79) (k17 : 0 ≤ x17 ∧ x17 ≤ 80) (k25 : 0 ≤ x25 ∧ x25 ≤ 24) (h0 : x25 = pt_0 (x9)) (f6 : 1 * x17 + ((-1) * x9 + 0) ≤ 0) (f7 : (-1) * x17 + (1 * x9 + 0) ≤ 0) (f22 : 1 * x9 + ((-1) * pm_0 + 0) ≤ (-1)) (f23 : GOK (pn_0) (pm_0) (pt_0) (ph_0)) (kz_0_31 : 0 ≤ pn_0 ∧ pn_0 ≤ 25) (kz_0_32 : 0 ≤ pm_0 ∧ pm_0 ≤ 80) (ex2 : gx = x9) : x25 = pt_0 (x9) := by
  have g := ‹GOK _ _ _ _›.1 x9 (by omega) (by omega)
  omega
def o_Mo_shortest_17 : or_T := (127, 26, [(0, (2, 0, 0, [165])), (1, (0, 0, 24, [])), (2, (0, 0, 24, [])), (3, (0, 0, 1, [])), (4, (2, 0, 0, [165])), (5, (0, 0, 24, [])), (6, (0, 0, 24, [])), (7, (0, 0, 1, [])), (8, (0, 1, 1, [])), (9, (0, 1, 79, [])), (10, (0, -2, 26000060, [])), (11, (0, 1, 80, [])), (12, (0, 1, 1, [])), (13, (2, 0, 0, [180])), (14, (0, 0, 24, [])), (15, (2, 0, 0, [181])), (16, (0, 0, 24, [])), (17, (0, 0, 80, [])), (18, (0, 0, 1, [])), (19, (0, 0, 24, [])), (20, (0, 0, 24, [])), (21, (0, -2, 26000060, [])), (22, (0, 0, 0, [])), (23, (0, 1, 1, [])), (24, (0, 0, 24, [])), (25, (0, 0, 24, []))], [(10, [25, 13, 9], []), (9, [13, 4], [33]), (10, [24, 15, 9], []), (9, [15, 4], [34]), (8, [8], [1]), (8, [22], [0]), (23, [17, 9], [0, 1, -1]), (23, [17, 9], [0, -1, 1]), (23, [18, 8], [0, 1, -1]), (23, [18, 8], [0, -1, 1]), (23, [19, 6], [0, 1, -1]), (23, [19, 6], [0, -1, 1]), (23, [20, 6], [0, 1, -1]), (23, [20, 6], [0, -1, 1]), (23, [21, 10], [0, 1, -1]), (23, [21, 10], [0, -1, 1]), (20, [4, 14, 16], [60, 2, 4, 121, 32, 49, 33, 34, 43, 44]), (20, [14, 4], [30, -1, 1, 0, 0, -1, 1, 31]), (20, [16, 4], [30, -1, 1, 0, 0, -1, 1, 31]), (20, [14, 4, 9], [50, 0, 1, 1033, 1, 2, 1, 0, 3, 1, 33, 1, 2]), (20, [16, 4, 9], [50, 0, 1, 1034, 1, 2, 1, 0, 3, 1, 34, 1, 2]), (20, [4, 9, 12], [60, 1, 2, 120, 49, 43, 44]), (20, [9, 4], [30, -1, 1, 0, 0, -1, 1, 32]), (20, [4], [60, 2, 2, 75, 31, 32, 33, 34]), (20, [4], [60, 1, 2, 122, 32, 35, 43]), (20, [5, 4], [30, -1, 1, 0, 0, -1, 1, 31]), (20, [6, 4], [30, -1, 1, 0, 0, -1, 1, 31]), (24, [0, 4], []), (24, [1, 5], []), (24, [2, 6], []), (24, [3, 7], []), (20, [4, 5, 6, 7], [60, 3, 6, 124, 31, 32, 49, 33, 34, 43, 44, 42, 48]), (20, [4, 14, 16, 5, 6, 7, 17, 18, 19, 20, 21, 22], [60, 2, 6, 129, 31, 49, 33, 34, 43, 44, 42, 48]), (102, [21], [6277101735386680763835789423207666416102355444464034512896]), (23, [17, 9], [0, 1, -1]), (23, [17, 9], [0, -1, 1]), (23, [18, 8], [0, 1, -1]), (23, [18, 8], [0, -1, 1]), (23, [19, 6], [0, 1, -1]), (23, [19, 6], [0, -1, 1]), (23, [20, 6], [0, 1, -1]), (23, [20, 6], [0, -1, 1]), (23, [21, 10], [0, 1, -1]), (23, [21, 10], [0, -1, 1]), (8, [12], [1]), (7, [9, 11], [2])], [], [(0, 0, 80, []), (0, 0, 1, []), (0, 0, 24, []), (0, 0, 24, []), (0, -2, 26000060, [])], [(23, [26, 9], [0, 1, -1]), (23, [26, 9], [0, -1, 1]), (23, [27, 23], [0, 1, -1]), (23, [27, 23], [0, -1, 1]), (23, [28, 25], [0, 1, -1]), (23, [28, 25], [0, -1, 1]), (23, [29, 24], [0, 1, -1]), (23, [29, 24], [0, -1, 1]), (23, [30, 10], [0, 1, -1]), (23, [30, 10], [0, -1, 1]), (20, [4, 5, 6, 7], [60, 3, 6, 124, 31, 32, 49, 33, 34, 43, 44, 42, 48]), (20, [4, 5, 6, 7, 26, 27, 28, 29], [60, 1, 6, 125, 49, 33, 34, 43, 44, 42, 48]), (20, [4, 27, 30], [60, 1, 1, 128, 31, 48]), (20, [4, 24, 25], [60, 2, 4, 121, 32, 49, 33, 34, 43, 44]), (20, [24, 4], [30, -1, 1, 0, 0, -1, 1, 31]), (20, [25, 4], [30, -1, 1, 0, 0, -1, 1, 31]), (20, [24, 4, 9], [50, 0, 1, 1034, 1, 2, 1, 0, 3, 1, 34, 1, 2]), (20, [25, 4, 9], [50, 0, 1, 1033, 1, 2, 1, 0, 3, 1, 33, 1, 2])], [], [(9, 11, -4294967296, -1), (1, 5, -4294967296, 0), (2, 6, -4294967296, 0), (3, 7, -4294967296, 0), (5, 1, -4294967296, 0), (6, 2, -4294967296, 0), (7, 3, -4294967296, 0)])
theorem oo_Mo_shortest_17 {kA : Nat → ClassId} : or_ok PRD kA GG o_Mo_shortest_17 := by
  refine or_mk fun A ta ws vs hD hth hl => ?_
  intro t0 r0 t1 k1 t2 k2 t3 k3 t4 r4 t5 k5 t6 k6 t7 k7 t8 k8 t9 k9 t10 k10 t11 k11 t12 k12 t13 r13 t14 k14 t15 r15 t16 k16 t17 k17 t18 k18 t19 k19 t20 k20 t21 k21 t22 k22 t23 k23 t24 k24 t25 k25 d0 d1 d2 d3 d4 d5 d6 f0 f1 f2 f3 f4 f5 f6 f7 f8 f9 f10 f11 f12 f13 f14 f15 f16 f17 f18 f19 f20 f21 f22 f23 f24 f25 f26 f27 f28 f29 f30 f31 f32 ta1 w1 le1 s1 f34 f35 f36 f37 f38 f39 f40 f41 f42 f43 f44 f45
  replace f0 := shm_107 f0
  replace f1 := shm_494 f1
  replace f2 := shm_107 f2
  replace f3 := shm_496 f3
  replace f5 := shm_192 f5
  replace f6 := shm_7 f6
  replace f7 := shm_22 f7
  replace f9 := shm_22 f9
  replace f14 := shm_7 f14
  replace f15 := shm_22 f15
  replace f17 := shm_553 f17
  replace f18 := shm_553 f18
  replace f19 := shm_1465 f19
  replace f20 := shm_1466 f20
  replace f21 := shm_638 f21
  replace f22 := shm_975 f22
  replace f23 := shm_575 f23
  replace f27 := shm_5 f27
  replace f28 := shm_5 f28
  replace f29 := shm_5 f29
  replace f30 := shm_5 f30
  replace f31 := shm_549 f31
  replace f32 := shm_554 f32
  replace f44 := shm_142 f44
  have q4 : n_v vs 4 = n_v vs 0 := f27.symm
  have q5 : n_v vs 5 = n_v vs 1 := f28.symm
  have q6 : n_v vs 6 = n_v vs 2 := f29.symm
  have q7 : n_v vs 7 = n_v vs 3 := f30.symm
  simp only [q4, q6, q5, q7] at f1 f3 f17 f18 f19 f20 f21 f22 f23 f31 f32
  have ad_13 : v_ad (n_v vs 13) = w_ar ws (n_v vs 0) 33 := congrArg v_ad f1
  have ad_15 : v_ad (n_v vs 15) = w_ar ws (n_v vs 0) 34 := congrArg v_ad f3
  simp only [ad_13] at f0
  have h0 : v_iv (n_v vs 25) = w_ei ws (w_ar ws (n_v vs 0) 33) (v_iv (n_v vs 9)) := f0
  simp only [ad_15] at f2
  have h2 : v_iv (n_v vs 24) = w_ei ws (w_ar ws (n_v vs 0) 34) (v_iv (n_v vs 9)) := f2
  have kz_0_31 := fdq_145 hD hth r0
  have kz_0_32 := fdq_140 hD hth r0
  have kz_0_49 := fdq_146 hD hth r0
  obtain ⟨x, ex, hx⟩ := iv_ex (ta := ta) (lo := 0) (hi := 80) (z := v_iv (n_v vs 9)) (by omega) (by omega) (by omega) (by omega)
  have ex2 : v_iv (Value.int x) = v_iv (n_v vs 9) := ex
  have ex3 : 0 ≤ v_iv (Value.int x) ∧ v_iv (Value.int x) ≤ 80 := tv_rng hx
  obtain ⟨y, ey, hy⟩ := iv_ex (ta := ta) (lo := 0) (hi := 1) (z := v_iv (n_v vs 23)) (by omega) (by omega) (by omega) (by omega)
  have ey2 : v_iv (Value.int y) = v_iv (n_v vs 23) := ey
  have ey3 : 0 ≤ v_iv (Value.int y) ∧ v_iv (Value.int y) ≤ 1 := tv_rng hy
  obtain ⟨u, eu, hu⟩ := iv_ex (ta := ta) (lo := 0) (hi := 24) (z := v_iv (n_v vs 25)) (by omega) (by omega) (by omega) (by omega)
  have eu2 : v_iv (Value.int u) = v_iv (n_v vs 25) := eu
  have eu3 : 0 ≤ v_iv (Value.int u) ∧ v_iv (Value.int u) ≤ 24 := tv_rng hu
  obtain ⟨w, ew, hw⟩ := iv_ex (ta := ta) (lo := 0) (hi := 24) (z := v_iv (n_v vs 24)) (by omega) (by omega) (by omega) (by omega)
  have ew2 : v_iv (Value.int w) = v_iv (n_v vs 24) := ew
  have ew3 : 0 ≤ v_iv (Value.int w) ∧ v_iv (Value.int w) ≤ 24 := tv_rng hw
  obtain ⟨c, ec, hc⟩ := iv_ex (ta := ta) (lo := (-2)) (hi := 26000060) (z := v_iv (n_v vs 10)) (by omega) (by omega) (by omega) (by omega)
  have ec2 : v_iv (Value.int c) = v_iv (n_v vs 10) := ec
  have ec3 : (-2) ≤ v_iv (Value.int c) ∧ v_iv (Value.int c) ≤ 26000060 := tv_rng hc
  have e_4 : n_v (vs ++ [Value.int x, Value.int y, Value.int u, Value.int w, Value.int c]) 4 = n_v vs 4 := n_v_old (by rw [hl]; decide)
  have e_5 : n_v (vs ++ [Value.int x, Value.int y, Value.int u, Value.int w, Value.int c]) 5 = n_v vs 5 := n_v_old (by rw [hl]; decide)
  have e_6 : n_v (vs ++ [Value.int x, Value.int y, Value.int u, Value.int w, Value.int c]) 6 = n_v vs 6 := n_v_old (by rw [hl]; decide)
  have e_7 : n_v (vs ++ [Value.int x, Value.int y, Value.int u, Value.int w, Value.int c]) 7 = n_v vs 7 := n_v_old (by rw [hl]; decide)
  have e_9 : n_v (vs ++ [Value.int x, Value.int y, Value.int u, Value.int w, Value.int c]) 9 = n_v vs 9 := n_v_old (by rw [hl]; decide)
  have e_10 : n_v (vs ++ [Value.int x, Value.int y, Value.int u, Value.int w, Value.int c]) 10 = n_v vs 10 := n_v_old (by rw [hl]; decide)
  have e_23 : n_v (vs ++ [Value.int x, Value.int y, Value.int u, Value.int w, Value.int c]) 23 = n_v vs 23 := n_v_old (by rw [hl]; decide)
  have e_24 : n_v (vs ++ [Value.int x, Value.int y, Value.int u, Value.int w, Value.int c]) 24 = n_v vs 24 := n_v_old (by rw [hl]; decide)
  have e_25 : n_v (vs ++ [Value.int x, Value.int y, Value.int u, Value.int w, Value.int c]) 25 = n_v vs 25 := n_v_old (by rw [hl]; decide)
  have e_26 : n_v (vs ++ [Value.int x, Value.int y, Value.int u, Value.int w, Value.int c]) 26 = Value.int x := n_v_newk (k := 0) hl rfl
  have e_27 : n_v (vs ++ [Value.int x, Value.int y, Value.int u, Value.int w, Value.int c]) 27 = Value.int y := n_v_newk (k := 1) hl rfl
  have e_28 : n_v (vs ++ [Value.int x, Value.int y, Value.int u, Value.int w, Value.int c]) 28 = Value.int u := n_v_newk (k := 2) hl rfl
  have e_29 : n_v (vs ++ [Value.int x, Value.int y, Value.int u, Value.int w, Value.int c]) 29 = Value.int w := n_v_newk (k := 3) hl rfl
  have e_30 : n_v (vs ++ [Value.int x, Value.int y, Value.int u, Value.int w, Value.int c]) 30 = Value.int c := n_v_newk (k := 4) hl rfl
  have nf0 : fc_1 PRD (23, [26, 9], [0, 1, -1]) ws (vs ++ [Value.int x, Value.int y, Value.int u, Value.int w, Value.int c]) := by
    refine ⟨nf_inA hl rfl, sgq_7 ?_⟩
    · show 1 * v_iv (n_v (vs ++ [Value.int x, Value.int y, Value.int u, Value.int w, Value.int c]) 26) + ((-1) * v_iv (n_v (vs ++ [Value.int x, Value.int y, Value.int u, Value.int w, Value.int c]) 9) + 0) ≤ 0
      simp only [e_9, e_26]
      exact vc_Mo_shortest_17_0 (v_iv (n_v vs 9)) (v_iv (n_v vs 17)) (w_ei ws (w_ar ws (n_v vs 0) 33)) (w_ei ws (w_ar ws (n_v vs 0) 34)) (w_fi ws (n_v vs 0) 32) (w_fi ws (n_v vs 0) 31) (v_iv (Value.int x)) k9 k17 f6 f7 f22 f23 kz_0_31 kz_0_32 ex2
  have nf1 : fc_1 PRD (23, [26, 9], [0, -1, 1]) ws (vs ++ [Value.int x, Value.int y, Value.int u, Value.int w, Value.int c]) := by
    refine ⟨nf_inA hl rfl, sgq_22 ?_⟩
    · show (-1) * v_iv (n_v (vs ++ [Value.int x, Value.int y, Value.int u, Value.int w, Value.int c]) 26) + (1 * v_iv (n_v (vs ++ [Value.int x, Value.int y, Value.int u, Value.int w, Value.int c]) 9) + 0) ≤ 0
      simp only [e_9, e_26]
      exact vc_Mo_shortest_17_1 (v_iv (n_v vs 9)) (v_iv (n_v vs 17)) (w_ei ws (w_ar ws (n_v vs 0) 33)) (w_ei ws (w_ar ws (n_v vs 0) 34)) (w_fi ws (n_v vs 0) 32) (w_fi ws (n_v vs 0) 31) (v_iv (Value.int x)) k9 k17 f6 f7 f22 f23 kz_0_31 kz_0_32 ex2
  have nf2 : fc_1 PRD (23, [27, 23], [0, 1, -1]) ws (vs ++ [Value.int x, Value.int y, Value.int u, Value.int w, Value.int c]) := by
    refine ⟨nf_inA hl rfl, sgq_7 ?_⟩
    · show 1 * v_iv (n_v (vs ++ [Value.int x, Value.int y, Value.int u, Value.int w, Value.int c]) 27) + ((-1) * v_iv (n_v (vs ++ [Value.int x, Value.int y, Value.int u, Value.int w, Value.int c]) 23) + 0) ≤ 0
      simp only [e_23, e_27]
      exact vc_Mo_shortest_17_2 (v_iv (n_v vs 9)) (v_iv (n_v vs 17)) (v_iv (n_v vs 23)) (w_ei ws (w_ar ws (n_v vs 0) 33)) (w_ei ws (w_ar ws (n_v vs 0) 34)) (w_fi ws (n_v vs 0) 32) (w_fi ws (n_v vs 0) 31) (v_iv (Value.int x)) (v_iv (Value.int y)) k9 k17 k23 f6 f7 f22 f23 kz_0_31 kz_0_32 ex2 ey2
  have nf3 : fc_1 PRD (23, [27, 23], [0, -1, 1]) ws (vs ++ [Value.int x, Value.int y, Value.int u, Value.int w, Value.int c]) := by
    refine ⟨nf_inA hl rfl, sgq_22 ?_⟩
    · show (-1) * v_iv (n_v (vs ++ [Value.int x, Value.int y, Value.int u, Value.int w, Value.int c]) 27) + (1 * v_iv (n_v (vs ++ [Value.int x, Value.int y, Value.int u, Value.int w, Value.int c]) 23) + 0) ≤ 0
      simp only [e_23, e_27]
      exact vc_Mo_shortest_17_3 (v_iv (n_v vs 9)) (v_iv (n_v vs 17)) (v_iv (n_v vs 23)) (w_ei ws (w_ar ws (n_v vs 0) 33)) (w_ei ws (w_ar ws (n_v vs 0) 34)) (w_fi ws (n_v vs 0) 32) (w_fi ws (n_v vs 0) 31) (v_iv (Value.int x)) (v_iv (Value.int y)) k9 k17 k23 f6 f7 f22 f23 kz_0_31 kz_0_32 ex2 ey2
  have nf4 : fc_1 PRD (23, [28, 25], [0, 1, -1]) ws (vs ++ [Value.int x, Value.int y, Value.int u, Value.int w, Value.int c]) := by
    refine ⟨nf_inA hl rfl, sgq_7 ?_⟩
    · show 1 * v_iv (n_v (vs ++ [Value.int x, Value.int y, Value.int u, Value.int w, Value.int c]) 28) + ((-1) * v_iv (n_v (vs ++ [Value.int x, Value.int y, Value.int u, Value.int w, Value.int c]) 25) + 0) ≤ 0
      simp only [e_25, e_28]
      exact vc_Mo_shortest_17_4 (v_iv (n_v vs 9)) (v_iv (n_v vs 17)) (v_iv (n_v vs 25)) (w_ei ws (w_ar ws (n_v vs 0) 33)) (w_ei ws (w_ar ws (n_v vs 0) 34)) (w_fi ws (n_v vs 0) 32) (w_fi ws (n_v vs 0) 31) (v_iv (Value.int x)) (v_iv (Value.int u)) k9 k17 k25 h0 f6 f7 f22 f23 kz_0_31 kz_0_32 ex2 eu2
  have nf5 : fc_1 PRD (23, [28, 25], [0, -1, 1]) ws (vs ++ [Value.int x, Value.int y, Value.int u, Value.int w, Value.int c]) := by
    refine ⟨nf_inA hl rfl, sgq_22 ?_⟩
    · show (-1) * v_iv (n_v (vs ++ [Value.int x, Value.int y, Value.int u, Value.int w, Value.int c]) 28) + (1 * v_iv (n_v (vs ++ [Value.int x, Value.int y, Value.int u, Value.int w, Value.int c]) 25) + 0) ≤ 0
      simp only [e_25, e_28]
      exact vc_Mo_shortest_17_5 (v_iv (n_v vs 9)) (v_iv (n_v vs 17)) (v_iv (n_v vs 25)) (w_ei ws (w_ar ws (n_v vs 0) 33)) (w_ei ws (w_ar ws (n_v vs 0) 34)) (w_fi ws (n_v vs 0) 32) (w_fi ws (n_v vs 0) 31) (v_iv (Value.int x)) (v_iv (Value.int u)) k9 k17 k25 h0 f6 f7 f22 f23 kz_0_31 kz_0_32 ex2 eu2
  have nf6 : fc_1 PRD (23, [29, 24], [0, 1, -1]) ws (vs ++ [Value.int x, Value.int y, Value.int u, Value.int w, Value.int c]) := by
    refine ⟨nf_inA hl rfl, sgq_7 ?_⟩
    · show 1 * v_iv (n_v (vs ++ [Value.int x, Value.int y, Value.int u, Value.int w, Value.int c]) 29) + ((-1) * v_iv (n_v (vs ++ [Value.int x, Value.int y, Value.int u, Value.int w, Value.int c]) 24) + 0) ≤ 0
      simp only [e_24, e_29]
      exact vc_Mo_shortest_17_6 (v_iv (n_v vs 9)) (v_iv (n_v vs 17)) (v_iv (n_v vs 24)) (w_ei ws (w_ar ws (n_v vs 0) 33)) (w_ei ws (w_ar ws (n_v vs 0) 34)) (w_fi ws (n_v vs 0) 32) (w_fi ws (n_v vs 0) 31) (v_iv (Value.int x)) (v_iv (Value.int w)) k9 k17 k24 h2 f6 f7 f22 f23 kz_0_31 kz_0_32 ex2 ew2
  have nf7 : fc_1 PRD (23, [29, 24], [0, -1, 1]) ws (vs ++ [Value.int x, Value.int y, Value.int u, Value.int w, Value.int c]) := by
    refine ⟨nf_inA hl rfl, sgq_22 ?_⟩
    · show (-1) * v_iv (n_v (vs ++ [Value.int x, Value.int y, Value.int u, Value.int w, Value.int c]) 29) + (1 * v_iv (n_v (vs ++ [Value.int x, Value.int y, Value.int u, Value.int w, Value.int c]) 24) + 0) ≤ 0
      simp only [e_24, e_29]
      exact vc_Mo_shortest_17_7 (v_iv (n_v vs 9)) (v_iv (n_v vs 17)) (v_iv (n_v vs 24)) (w_ei ws (w_ar ws (n_v vs 0) 33)) (w_ei ws (w_ar ws (n_v vs 0) 34)) (w_fi ws (n_v vs 0) 32) (w_fi ws (n_v vs 0) 31) (v_iv (Value.int x)) (v_iv (Value.int w)) k9 k17 k24 h2 f6 f7 f22 f23 kz_0_31 kz_0_32 ex2 ew2
  have nf8 : fc_1 PRD (23, [30, 10], [0, 1, -1]) ws (vs ++ [Value.int x, Value.int y, Value.int u, Value.int w, Value.int c]) := by
    refine ⟨nf_inA hl rfl, sgq_7 ?_⟩
    · show 1 * v_iv (n_v (vs ++ [Value.int x, Value.int y, Value.int u, Value.int w, Value.int c]) 30) + ((-1) * v_iv (n_v (vs ++ [Value.int x, Value.int y, Value.int u, Value.int w, Value.int c]) 10) + 0) ≤ 0
      simp only [e_10, e_30]
      exact vc_Mo_shortest_17_8 (v_iv (n_v vs 9)) (v_iv (n_v vs 10)) (v_iv (n_v vs 17)) (v_iv (n_v vs 21)) (w_ei ws (w_ar ws (n_v vs 0) 33)) (w_ei ws (w_ar ws (n_v vs 0) 34)) (w_fi ws (n_v vs 0) 32) (w_fi ws (n_v vs 0) 31) (v_iv (Value.int x)) (v_iv (Value.int c)) k9 k10 k17 k21 f6 f7 f14 f15 f22 f23 kz_0_31 kz_0_32 ex2 ec2
  have nf9 : fc_1 PRD (23, [30, 10], [0, -1, 1]) ws (vs ++ [Value.int x, Value.int y, Value.int u, Value.int w, Value.int c]) := by
    refine ⟨nf_inA hl rfl, sgq_22 ?_⟩
    · show (-1) * v_iv (n_v (vs ++ [Value.int x, Value.int y, Value.int u, Value.int w, Value.int c]) 30) + (1 * v_iv (n_v (vs ++ [Value.int x, Value.int y, Value.int u, Value.int w, Value.int c]) 10) + 0) ≤ 0
      simp only [e_10, e_30]
      exact vc_Mo_shortest_17_9 (v_iv (n_v vs 9)) (v_iv (n_v vs 10)) (v_iv (n_v vs 17)) (v_iv (n_v vs 21)) (w_ei ws (w_ar ws (n_v vs 0) 33)) (w_ei ws (w_ar ws (n_v vs 0) 34)) (w_fi ws (n_v vs 0) 32) (w_fi ws (n_v vs 0) 31) (v_iv (Value.int x)) (v_iv (Value.int c)) k9 k10 k17 k21 f6 f7 f14 f15 f22 f23 kz_0_31 kz_0_32 ex2 ec2
  have nf10 : fc_1 PRD (20, [4, 5, 6, 7], [60, 3, 6, 124, 31, 32, 49, 33, 34, 43, 44, 42, 48]) ws (vs ++ [Value.int x, Value.int y, Value.int u, Value.int w, Value.int c]) := by
    refine ⟨nf_inA hl rfl, sgq_549 ?_⟩
    · show TGI (w_fi ws (n_v (vs ++ [Value.int x, Value.int y, Value.int u, Value.int w, Value.int c]) 4) 31) (w_fi ws (n_v (vs ++ [Value.int x, Value.int y, Value.int u, Value.int w, Value.int c]) 4) 32) (w_fi ws (n_v (vs ++ [Value.int x, Value.int y, Value.int u, Value.int w, Value.int c]) 4) 49) (w_ei ws (w_ar ws (n_v (vs ++ [Value.int x, Value.int y, Value.int u, Value.int w, Value.int c]) 4) 33)) (w_ei ws (w_ar ws (n_v (vs ++ [Value.int x, Value.int y, Value.int u, Value.int w, Value.int c]) 4) 34)) (w_ei ws (w_ar ws (n_v (vs ++ [Value.int x, Value.int y, Value.int u, Value.int w, Value.int c]) 4) 43)) (w_ei ws (w_ar ws (n_v (vs ++ [Value.int x, Value.int y, Value.int u, Value.int w, Value.int c]) 4) 44)) (w_ei ws (w_ar ws (n_v (vs ++ [Value.int x, Value.int y, Value.int u, Value.int w, Value.int c]) 4) 42)) (w_ei ws (w_ar ws (n_v (vs ++ [Value.int x, Value.int y, Value.int u, Value.int w, Value.int c]) 4) 48)) (v_iv (n_v (vs ++ [Value.int x, Value.int y, Value.int u, Value.int w, Value.int c]) 5)) (v_iv (n_v (vs ++ [Value.int x, Value.int y, Value.int u, Value.int w, Value.int c]) 6)) (v_iv (n_v (vs ++ [Value.int x, Value.int y, Value.int u, Value.int w, Value.int c]) 7))
      simp only [e_4, e_5, e_6, e_7, q4, q5, q6, q7]
      exact vc_Mo_shortest_17_10 (v_iv (n_v vs 1)) (v_iv (n_v vs 2)) (v_iv (n_v vs 3)) (w_ei ws (w_ar ws (n_v vs 0) 33)) (w_ei ws (w_ar ws (n_v vs 0) 34)) (w_ei ws (w_ar ws (n_v vs 0) 43)) (w_ei ws (w_ar ws (n_v vs 0) 44)) (w_fi ws (n_v vs 0) 32) (w_fi ws (n_v vs 0) 49) (w_fi ws (n_v vs 0) 31) (w_ei ws (w_ar ws (n_v vs 0) 42)) (w_ei ws (w_ar ws (n_v vs 0) 48)) k1 k2 k3 f31 kz_0_31 kz_0_32 kz_0_49
  have nf11 : fc_1 PRD (20, [4, 5, 6, 7, 26, 27, 28, 29], [60, 1, 6, 125, 49, 33, 34, 43, 44, 42, 48]) ws (vs ++ [Value.int x, Value.int y, Value.int u, Value.int w, Value.int c]) := by
    refine ⟨nf_inA hl rfl, sgq_550 ?_⟩
    · show TG3 (w_fi ws (n_v (vs ++ [Value.int x, Value.int y, Value.int u, Value.int w, Value.int c]) 4) 49) (w_ei ws (w_ar ws (n_v (vs ++ [Value.int x, Value.int y, Value.int u, Value.int w, Value.int c]) 4) 33)) (w_ei ws (w_ar ws (n_v (vs ++ [Value.int x, Value.int y, Value.int u, Value.int w, Value.int c]) 4) 34)) (w_ei ws (w_ar ws (n_v (vs ++ [Value.int x, Value.int y, Value.int u, Value.int w, Value.int c]) 4) 43)) (w_ei ws (w_ar ws (n_v (vs ++ [Value.int x, Value.int y, Value.int u, Value.int w, Value.int c]) 4) 44)) (w_ei ws (w_ar ws (n_v (vs ++ [Value.int x, Value.int y, Value.int u, Value.int w, Value.int c]) 4) 42)) (w_ei ws (w_ar ws (n_v (vs ++ [Value.int x, Value.int y, Value.int u, Value.int w, Value.int c]) 4) 48)) (v_iv (n_v (vs ++ [Value.int x, Value.int y, Value.int u, Value.int w, Value.int c]) 5)) (v_iv (n_v (vs ++ [Value.int x, Value.int y, Value.int u, Value.int w, Value.int c]) 6)) (v_iv (n_v (vs ++ [Value.int x, Value.int y, Value.int u, Value.int w, Value.int c]) 7)) (v_iv (n_v (vs ++ [Value.int x, Value.int y, Value.int u, Value.int w, Value.int c]) 26)) (v_iv (n_v (vs ++ [Value.int x, Value.int y, Value.int u, Value.int w, Value.int c]) 27)) (v_iv (n_v (vs ++ [Value.int x, Value.int y, Value.int u, Value.int w, Value.int c]) 28)) (v_iv (n_v (vs ++ [Value.int x, Value.int y, Value.int u, Value.int w, Value.int c]) 29))
      simp only [e_4, e_5, e_6, e_7, e_26, e_27, e_28, e_29, q4, q5, q6, q7]
      exact vc_Mo_shortest_17_11 (v_iv (n_v vs 1)) (v_iv (n_v vs 2)) (v_iv (n_v vs 3)) (v_iv (n_v vs 9)) (v_iv (n_v vs 14)) (v_iv (n_v vs 16)) (v_iv (n_v vs 23)) (v_iv (n_v vs 24)) (v_iv (n_v vs 25)) (w_ei ws (w_ar ws (n_v vs 0) 33)) (w_ei ws (w_ar ws (n_v vs 0) 34)) (w_ei ws (w_ar ws (n_v vs 0) 43)) (w_ei ws (w_ar ws (n_v vs 0) 44)) (w_fi ws (n_v vs 0) 49) (w_ei ws (w_ar ws (n_v vs 0) 42)) (w_ei ws (w_ar ws (n_v vs 0) 48)) (v_iv (Value.int x)) (v_iv (Value.int y)) (v_iv (Value.int u)) (v_iv (Value.int w)) k1 k2 k3 k9 k23 k24 k25 kz_0_49 ex2 ey2 eu2 ew2
  have nf12 : fc_1 PRD (20, [4, 27, 30], [60, 1, 1, 128, 31, 48]) ws (vs ++ [Value.int x, Value.int y, Value.int u, Value.int w, Value.int c]) := by
    refine ⟨nf_inA hl rfl, sgq_551 ?_⟩
    · show SMN (w_fi ws (n_v (vs ++ [Value.int x, Value.int y, Value.int u, Value.int w, Value.int c]) 4) 31) (w_ei ws (w_ar ws (n_v (vs ++ [Value.int x, Value.int y, Value.int u, Value.int w, Value.int c]) 4) 48)) (v_iv (n_v (vs ++ [Value.int x, Value.int y, Value.int u, Value.int w, Value.int c]) 27)) (v_iv (n_v (vs ++ [Value.int x, Value.int y, Value.int u, Value.int w, Value.int c]) 30))
      simp only [e_4, e_27, e_30, q4]
      exact vc_Mo_shortest_17_12 (v_iv (n_v vs 1)) (v_iv (n_v vs 2)) (v_iv (n_v vs 3)) (v_iv (n_v vs 8)) (v_iv (n_v vs 10)) (v_iv (n_v vs 14)) (v_iv (n_v vs 16)) (v_iv (n_v vs 17)) (v_iv (n_v vs 18)) (v_iv (n_v vs 19)) (v_iv (n_v vs 20)) (v_iv (n_v vs 21)) (v_iv (n_v vs 22)) (v_iv (n_v vs 23)) (w_ei ws (w_ar ws (n_v vs 0) 33)) (w_ei ws (w_ar ws (n_v vs 0) 34)) (w_ei ws (w_ar ws (n_v vs 0) 43)) (w_ei ws (w_ar ws (n_v vs 0) 44)) (w_fi ws (n_v vs 0) 49) (w_fi ws (n_v vs 0) 31) (w_ei ws (w_ar ws (n_v vs 0) 42)) (w_ei ws (w_ar ws (n_v vs 0) 48)) (v_iv (Value.int y)) (v_iv (Value.int c)) k1 k2 k3 k8 k10 k14 k16 k17 k18 k19 k20 k21 k22 k23 f5 f9 f14 f15 f32 kz_0_31 kz_0_49 ey2 ec2
  have nf13 : fc_1 PRD (20, [4, 24, 25], [60, 2, 4, 121, 32, 49, 33, 34, 43, 44]) ws (vs ++ [Value.int x, Value.int y, Value.int u, Value.int w, Value.int c]) := by
    refine ⟨nf_inA hl rfl, sgq_552 ?_⟩
    · show ARC (w_fi ws (n_v (vs ++ [Value.int x, Value.int y, Value.int u, Value.int w, Value.int c]) 4) 32) (w_fi ws (n_v (vs ++ [Value.int x, Value.int y, Value.int u, Value.int w, Value.int c]) 4) 49) (w_ei ws (w_ar ws (n_v (vs ++ [Value.int x, Value.int y, Value.int u, Value.int w, Value.int c]) 4) 33)) (w_ei ws (w_ar ws (n_v (vs ++ [Value.int x, Value.int y, Value.int u, Value.int w, Value.int c]) 4) 34)) (w_ei ws (w_ar ws (n_v (vs ++ [Value.int x, Value.int y, Value.int u, Value.int w, Value.int c]) 4) 43)) (w_ei ws (w_ar ws (n_v (vs ++ [Value.int x, Value.int y, Value.int u, Value.int w, Value.int c]) 4) 44)) (v_iv (n_v (vs ++ [Value.int x, Value.int y, Value.int u, Value.int w, Value.int c]) 24)) (v_iv (n_v (vs ++ [Value.int x, Value.int y, Value.int u, Value.int w, Value.int c]) 25))
      simp only [e_4, e_24, e_25, q4]
      exact vc_Mo_shortest_17_13 (v_iv (n_v vs 9)) (v_iv (n_v vs 12)) (v_iv (n_v vs 17)) (v_iv (n_v vs 24)) (v_iv (n_v vs 25)) (w_ei ws (w_ar ws (n_v vs 0) 33)) (w_ei ws (w_ar ws (n_v vs 0) 34)) (w_ei ws (w_ar ws (n_v vs 0) 43)) (w_ei ws (w_ar ws (n_v vs 0) 44)) (w_fi ws (n_v vs 0) 32) (w_fi ws (n_v vs 0) 49) (v_iv (Value.int x)) k9 k12 k17 k24 k25 h0 h2 f6 f7 f21 f22 f44 kz_0_32 kz_0_49 ex2
  have nf14 : fc_1 PRD (20, [24, 4], [30, -1, 1, 0, 0, -1, 1, 31]) ws (vs ++ [Value.int x, Value.int y, Value.int u, Value.int w, Value.int c]) := by
    refine ⟨nf_inA hl rfl, sgq_553 ?_⟩
    · show 1 * v_iv (n_v (vs ++ [Value.int x, Value.int y, Value.int u, Value.int w, Value.int c]) 24) + ((-1) * w_fi ws (n_v (vs ++ [Value.int x, Value.int y, Value.int u, Value.int w, Value.int c]) 4) 31 + 0) ≤ (-1)
      simp only [e_4, e_24, q4]
      exact vc_Mo_shortest_17_14 (v_iv (n_v vs 9)) (v_iv (n_v vs 16)) (v_iv (n_v vs 17)) (v_iv (n_v vs 24)) (w_ei ws (w_ar ws (n_v vs 0) 33)) (w_ei ws (w_ar ws (n_v vs 0) 34)) (w_fi ws (n_v vs 0) 32) (w_fi ws (n_v vs 0) 31) (v_iv (Value.int x)) (v_iv (Value.int w)) k9 k16 k17 k24 h2 f6 f7 f18 f20 f22 f23 kz_0_31 kz_0_32 ex2 ew2
  have nf15 : fc_1 PRD (20, [25, 4], [30, -1, 1, 0, 0, -1, 1, 31]) ws (vs ++ [Value.int x, Value.int y, Value.int u, Value.int w, Value.int c]) := by
    refine ⟨nf_inA hl rfl, sgq_553 ?_⟩
    · show 1 * v_iv (n_v (vs ++ [Value.int x, Value.int y, Value.int u, Value.int w, Value.int c]) 25) + ((-1) * w_fi ws (n_v (vs ++ [Value.int x, Value.int y, Value.int u, Value.int w, Value.int c]) 4) 31 + 0) ≤ (-1)
      simp only [e_4, e_25, q4]
      exact vc_Mo_shortest_17_15 (v_iv (n_v vs 9)) (v_iv (n_v vs 14)) (v_iv (n_v vs 17)) (v_iv (n_v vs 25)) (w_ei ws (w_ar ws (n_v vs 0) 33)) (w_ei ws (w_ar ws (n_v vs 0) 34)) (w_fi ws (n_v vs 0) 32) (w_fi ws (n_v vs 0) 31) (v_iv (Value.int x)) (v_iv (Value.int u)) k9 k14 k17 k25 h0 f6 f7 f17 f19 f22 f23 kz_0_31 kz_0_32 ex2 eu2
  have nf16 : fc_1 PRD (20, [24, 4, 9], [50, 0, 1, 1034, 1, 2, 1, 0, 3, 1, 34, 1, 2]) ws (vs ++ [Value.int x, Value.int y, Value.int u, Value.int w, Value.int c]) := by
    refine ⟨nf_inA hl rfl, sgq_1466 ?_⟩
    · show v_iv (n_v (vs ++ [Value.int x, Value.int y, Value.int u, Value.int w, Value.int c]) 24) = w_ei ws (w_ar ws (n_v (vs ++ [Value.int x, Value.int y, Value.int u, Value.int w, Value.int c]) 4) 34) (v_iv (n_v (vs ++ [Value.int x, Value.int y, Value.int u, Value.int w, Value.int c]) 9))
      simp only [e_4, e_9, e_24, q4]
      exact vc_Mo_shortest_17_16 (v_iv (n_v vs 9)) (v_iv (n_v vs 17)) (v_iv (n_v vs 24)) (w_ei ws (w_ar ws (n_v vs 0) 33)) (w_ei ws (w_ar ws (n_v vs 0) 34)) (w_fi ws (n_v vs 0) 32) (w_fi ws (n_v vs 0) 31) (v_iv (Value.int x)) k9 k17 k24 h2 f6 f7 f22 f23 kz_0_31 kz_0_32 ex2
  have nf17 : fc_1 PRD (20, [25, 4, 9], [50, 0, 1, 1033, 1, 2, 1, 0, 3, 1, 33, 1, 2]) ws (vs ++ [Value.int x, Value.int y, Value.int u, Value.int w, Value.int c]) := by
    refine ⟨nf_inA hl rfl, sgq_1465 ?_⟩
    · show v_iv (n_v (vs ++ [Value.int x, Value.int y, Value.int u, Value.int w, Value.int c]) 25) = w_ei ws (w_ar ws (n_v (vs ++ [Value.int x, Value.int y, Value.int u, Value.int w, Value.int c]) 4) 33) (v_iv (n_v (vs ++ [Value.int x, Value.int y, Value.int u, Value.int w, Value.int c]) 9))
      simp only [e_4, e_9, e_25, q4]
      exact vc_Mo_shortest_17_17 (v_iv (n_v vs 9)) (v_iv (n_v vs 17)) (v_iv (n_v vs 25)) (w_ei ws (w_ar ws (n_v vs 0) 33)) (w_ei ws (w_ar ws (n_v vs 0) 34)) (w_fi ws (n_v vs 0) 32) (w_fi ws (n_v vs 0) 31) (v_iv (Value.int x)) k9 k17 k25 h0 f6 f7 f22 f23 kz_0_31 kz_0_32 ex2
  exact ⟨(fun _ h => (by cases h)), [Value.int x, Value.int y, Value.int u, Value.int w, Value.int c], ag_five hx hy hu hw hc, List.forall_mem_cons.mpr ⟨⟨show (23 : Nat) < 100 from by decide, nf0⟩, List.forall_mem_cons.mpr ⟨⟨show (23 : Nat) < 100 from by decide, nf1⟩, List.forall_mem_cons.mpr ⟨⟨show (23 : Nat) < 100 from by decide, nf2⟩, List.forall_mem_cons.mpr ⟨⟨show (23 : Nat) < 100 from by decide, nf3⟩, List.forall_mem_cons.mpr ⟨⟨show (23 : Nat) < 100 from by decide, nf4⟩, List.forall_mem_cons.mpr ⟨⟨show (23 : Nat) < 100 from by decide, nf5⟩, List.forall_mem_cons.mpr ⟨⟨show (23 : Nat) < 100 from by decide, nf6⟩, List.forall_mem_cons.mpr ⟨⟨show (23 : Nat) < 100 from by decide, nf7⟩, List.forall_mem_cons.mpr ⟨⟨show (23 : Nat) < 100 from by decide, nf8⟩, List.forall_mem_cons.mpr ⟨⟨show (23 : Nat) < 100 from by decide, nf9⟩, List.forall_mem_cons.mpr ⟨⟨show (20 : Nat) < 100 from by decide, nf10⟩, List.forall_mem_cons.mpr ⟨⟨show (20 : Nat) < 100 from by decide, nf11⟩, List.forall_mem_cons.mpr ⟨⟨show (20 : Nat) < 100 from by decide, nf12⟩, List.forall_mem_cons.mpr ⟨⟨show (20 : Nat) < 100 from by decide, nf13⟩, List.forall_mem_cons.mpr ⟨⟨show (20 : Nat) < 100 from by decide, nf14⟩, List.forall_mem_cons.mpr ⟨⟨show (20 : Nat) < 100 from by decide, nf15⟩, List.forall_mem_cons.mpr ⟨⟨show (20 : Nat) < 100 from by decide, nf16⟩, List.forall_mem_cons.mpr ⟨⟨show (20 : Nat) < 100 from by decide, nf17⟩, (fun _ h => (by cases h))⟩⟩⟩⟩⟩⟩⟩⟩⟩⟩⟩⟩⟩⟩⟩⟩⟩⟩, (fun _ h => (by cases h))⟩
set_option maxHeartbeats 4000000 in
theorem vc_Mo_shortest_18_0 (x1 : Int) (x2 : Int) (x3 : Int) (x9 : Int) (x24 : Int) (x25 : Int) (x28 : Int) (x29 : Int) (x32 : Int) (x33 : Int) (pt_0 : Int → Int) (ph_0 : Int → Int) (drawnEdge_0 : Int → Int) (pieceOf_0 : Int → Int) (onlyPiece_0 : Int) (drawnNode_0 : Int → Int) (toGoal_0 : Int → Int) (k1 : 0 ≤ x1 ∧ x1 ≤ 24) (k2 : 0 ≤ x2 ∧ x2 ≤ 24) (k3 : 0 ≤ x3 ∧ x3 ≤ 1) (k32 : 1 ≤ x32 ∧ x32 ≤ 1) (k33 : 2 ≤ x33 ∧ x33 ≤ 80) (kz_0_49 : (-1) ≤ onlyPiece_0 ∧ onlyPiece_0 ≤ 79) : TG3 (onlyPiece_0) (pt_0) (ph_0) (drawnEdge_0) (pieceOf_0) (drawnNode_0) (toGoal_0) (x1) (x2) (x3) (x33) (x32) (x2) (x2) := by
  first
    | (intro h; exfalso; omega)
    | (intro h; exact ⟨fun e a b => by exfalso; omega, fun _ => by omega⟩)
    | (have c := ‹CLO _ _ _ _ _ _ _ _ _ _ _ _ _ _ _ _ _ _ _›
       have c1 := c.1 (by omega)
       intro h
       have t := c1.1 (by omega)
       refine ⟨fun e a b m => ?_, fun _ => by omega⟩
       by_cases q : e = x9
       · subst q
         refine ⟨?_, ?_⟩
         · have := t.2
           rw [show x28 = pt_0 e by omega, show x29 = ph_0 e by omega] at this; exact this
         · have := c1.2.1
           rw [show x24 = ph_0 e by omega, show x25 = pt_0 e by omega] at this; exact this
       · exact t.1 e a (by omega) m)
    | (have h := ‹TG3 _ _ _ _ _ _ _ _ _ _ _ _ _ _›
       have mg := ‹MGP _ _ _ _ _›
       intro h0
       have h1 := h h0
       refine ⟨fun e a b c => ?_, h1.2⟩
       by_cases q : e = x9
       · subst q; exact absurd (mg.mpr c) (by omega)
       · exact h1.1 e a (by omega) c)
set_option maxHeartbeats 4000000 in
theorem vc_Mo_shortest_18_1 (x1 : Int) (x2 : Int) (x3 : Int) (x10 : Int) (x24 : Int) (x25 : Int) (x26 : Int) (x27 : Int) (x28 : Int) (x29 : Int) (x30 : Int) (x31 : Int) (x32 : Int) (pt_0 : Int → Int) (ph_0 : Int → Int) (drawnEdge_0 : Int → Int) (pieceOf_0 : Int → Int) (onlyPiece_0 : Int) (pn_0 : Int) (drawnNode_0 : Int → Int) (toGoal_0 : Int → Int) (k1 : 0 ≤ x1 ∧ x1 ≤ 24) (k2 : 0 ≤ x2 ∧ x2 ≤ 24) (k3 : 0 ≤ x3 ∧ x3 ≤ 1) (k10 : (-2) ≤ x10 ∧ x10 ≤ 26000060) (k24 : 0 ≤ x24 ∧ x24 ≤ 24) (k25 : 0 ≤ x25 ∧ x25 ≤ 24) (k26 : 0 ≤ x26 ∧ x26 ≤ 80) (k27 : 0 ≤ x27 ∧ x27 ≤ 1) (k28 : 0 ≤ x28 ∧ x28 ≤ 24) (k29 : 0 ≤ x29 ∧ x29 ≤ 24) (k30 : (-2) ≤ x30 ∧ x30 ≤ 26000060) (k31 : 1 ≤ x31 ∧ x31 ≤ 1) (k32 : 1 ≤ x32 ∧ x32 ≤ 1) (f1 : x31 ≠ 0) (f10 : 1 * x30 + ((-1) * x10 + 0) ≤ 0) (f11 : (-1) * x30 + (1 * x10 + 0) ≤ 0) (f41 : CLO (pn_0) (onlyPiece_0) (pt_0) (ph_0) (drawnEdge_0) (pieceOf_0) (drawnNode_0) (toGoal_0) (x24) (x25) (x1) (x2) (x3) (x26) (x27) (x28) (x29) (x30) (x31)) (kz_0_31 : 0 ≤ pn_0 ∧ pn_0 ≤ 25) (kz_0_49 : (-1) ≤ onlyPiece_0 ∧ onlyPiece_0 ≤ 79) : SMN (pn_0) (toGoal_0) (x32) (x10) := by
  first
    | assumption
    | (have h := ‹SMM _ _ _ _›; unfold SMN; unfold SMM at h; omega)
    | (have c := ‹CLO _ _ _ _ _ _ _ _ _ _ _ _ _ _ _ _ _ _ _›
       unfold SMN
       first
         | (have := (c.1 (by omega)).2.2; omega)
         | (have := c.2 (by omega); omega))
def o_Mo_shortest_18 : or_T := (52, 34, [(0, (2, 0, 0, [165])), (1, (0, 0, 24, [])), (2, (0, 0, 24, [])), (3, (0, 0, 1, [])), (4, (2, 0, 0, [165])), (5, (0, 0, 24, [])), (6, (0, 0, 24, [])), (7, (0, 0, 1, [])), (9, (0, 1, 79, [])), (10, (0, -2, 26000060, [])), (11, (0, 1, 80, [])), (12, (0, 1, 1, [])), (14, (0, 0, 24, [])), (16, (0, 0, 24, [])), (17, (0, 0, 80, [])), (19, (0, 0, 24, [])), (20, (0, 0, 24, [])), (21, (0, -2, 26000060, [])), (23, (0, 1, 1, [])), (24, (0, 0, 24, [])), (25, (0, 0, 24, [])), (26, (0, 0, 80, [])), (27, (0, 0, 1, [])), (28, (0, 0, 24, [])), (29, (0, 0, 24, [])), (30, (0, -2, 26000060, [])), (31, (0, 1, 1, [])), (32, (0, 1, 1, [])), (33, (0, 2, 80, []))], [(6, [33, 9], [1]), (8, [31], [1]), (23, [26, 9], [0, 1, -1]), (23, [26, 9], [0, -1, 1]), (23, [27, 23], [0, 1, -1]), (23, [27, 23], [0, -1, 1]), (23, [28, 25], [0, 1, -1]), (23, [28, 25], [0, -1, 1]), (23, [29, 24], [0, 1, -1]), (23, [29, 24], [0, -1, 1]), (23, [30, 10], [0, 1, -1]), (23, [30, 10], [0, -1, 1]), (20, [4, 24, 25], [60, 2, 4, 121, 32, 49, 33, 34, 43, 44]), (20, [24, 4], [30, -1, 1, 0, 0, -1, 1, 31]), (20, [25, 4], [30, -1, 1, 0, 0, -1, 1, 31]), (20, [24, 4, 9], [50, 0, 1, 1034, 1, 2, 1, 0, 3, 1, 34, 1, 2]), (20, [25, 4, 9], [50, 0, 1, 1033, 1, 2, 1, 0, 3, 1, 33, 1, 2]), (23, [17, 9], [0, 1, -1]), (23, [17, 9], [0, -1, 1]), (23, [19, 6], [0, 1, -1]), (23, [19, 6], [0, -1, 1]), (23, [20, 6], [0, 1, -1]), (23, [20, 6], [0, -1, 1]), (23, [21, 10], [0, 1, -1]), (23, [21, 10], [0, -1, 1]), (20, [4, 14, 16], [60, 2, 4, 121, 32, 49, 33, 34, 43, 44]), (20, [14, 4], [30, -1, 1, 0, 0, -1, 1, 31]), (20, [16, 4], [30, -1, 1, 0, 0, -1, 1, 31]), (20, [14, 4, 9], [50, 0, 1, 1033, 1, 2, 1, 0, 3, 1, 33, 1, 2]), (20, [16, 4, 9], [50, 0, 1, 1034, 1, 2, 1, 0, 3, 1, 34, 1, 2]), (20, [4, 9, 12], [60, 1, 2, 120, 49, 43, 44]), (20, [9, 4], [30, -1, 1, 0, 0, -1, 1, 32]), (20, [4], [60, 2, 2, 75, 31, 32, 33, 34]), (20, [4], [60, 1, 2, 122, 32, 35, 43]), (20, [5, 4], [30, -1, 1, 0, 0, -1, 1, 31]), (20, [6, 4], [30, -1, 1, 0, 0, -1, 1, 31]), (24, [0, 4], []), (24, [1, 5], []), (24, [2, 6], []), (24, [3, 7], []), (20, [4, 5, 6, 7], [60, 3, 6, 124, 31, 32, 49, 33, 34, 43, 44, 42, 48]), (20, [4, 24, 25, 5, 6, 7, 26, 27, 28, 29, 30, 31], [60, 2, 6, 129, 31, 49, 33, 34, 43, 44, 42, 48]), (102, [30], [6277101735386680763835789423207666416102355444464034512896]), (23, [26, 9], [0, 1, -1]), (23, [26, 9], [0, -1, 1]), (23, [27, 23], [0, 1, -1]), (23, [27, 23], [0, -1, 1]), (23, [28, 25], [0, 1, -1]), (23, [28, 25], [0, -1, 1]), (23, [29, 24], [0, 1, -1]), (23, [29, 24], [0, -1, 1]), (23, [30, 10], [0, 1, -1]), (23, [30, 10], [0, -1, 1]), (23, [17, 9], [0, 1, -1]), (23, [17, 9], [0, -1, 1]), (23, [19, 6], [0, 1, -1]), (23, [19, 6], [0, -1, 1]), (23, [20, 6], [0, 1, -1]), (23, [20, 6], [0, -1, 1]), (23, [21, 10], [0, 1, -1]), (23, [21, 10], [0, -1, 1]), (102, [21], [6277101735386680763835789423207666416102355444464034512896]), (23, [17, 9], [0, 1, -1]), (23, [17, 9], [0, -1, 1]), (23, [19, 6], [0, 1, -1]), (23, [19, 6], [0, -1, 1]), (23, [20, 6], [0, 1, -1]), (23, [20, 6], [0, -1, 1]), (23, [21, 10], [0, 1, -1]), (23, [21, 10], [0, -1, 1]), (8, [12], [1]), (7, [9, 11], [2])], [], [], [(20, [4, 5, 6, 7, 33, 32, 6, 6], [60, 1, 6, 125, 49, 33, 34, 43, 44, 42, 48]), (20, [4, 32, 10], [60, 1, 1, 128, 31, 48])], [], [(33, 9, 1, 1), (33, 11, -4294967296, 0), (9, 11, -4294967296, -1), (1, 5, -4294967296, 0), (2, 6, -4294967296, 0), (3, 7, -4294967296, 0), (5, 1, -4294967296, 0), (6, 2, -4294967296, 0), (7, 3, -4294967296, 0)])
theorem oo_Mo_shortest_18 {kA : Nat → ClassId} : or_ok PRD kA GG o_Mo_shortest_18 := by
  refine or_mk fun A ta ws vs hD hth hl => ?_
  intro t0 r0 t1 k1 t2 k2 t3 k3 t4 r4 t5 k5 t6 k6 t7 k7 t9 k9 t10 k10 t11 k11 t12 k12 t14 k14 t16 k16 t17 k17 t19 k19 t20 k20 t21 k21 t23 k23 t24 k24 t25 k25 t26 k26 t27 k27 t28 k28 t29 k29 t30 k30 t31 k31 t32 k32 t33 k33 d0 d1 d2 d3 d4 d5 d6 d7 d8 f0 f1 f2 f3 f4 f5 f6 f7 f8 f9 f10 f11 f12 f13 f14 f15 f16 f17 f18 f19 f20 f21 f22 f23 f24 f25 f26 f27 f28 f29 f30 f31 f32 f33 f34 f35 f36 f37 f38 f39 f40 f41 ta1 w1 le1 s1 f43 f44 f45 f46 f47 f48 f49 f50 f51 f52 f53 f54 f55 f56 f57 f58 f59 f60 ta2 w2 le2 s2 f62 f63 f64 f65 f66 f67 f68 f69 f70 f71
  replace f1 := shm_142 f1
  replace f10 := shm_7 f10
  replace f11 := shm_22 f11
  replace f36 := shm_5 f36
  replace f37 := shm_5 f37
  replace f38 := shm_5 f38
  replace f39 := shm_5 f39
  replace f41 := shm_554 f41
  have q4 : n_v vs 4 = n_v vs 0 := f36.symm
  have q5 : n_v vs 5 = n_v vs 1 := f37.symm
  have q6 : n_v vs 6 = n_v vs 2 := f38.symm
  have q7 : n_v vs 7 = n_v vs 3 := f39.symm
  simp only [q4, q6, q5, q7] at f41
  have kz_0_31 := fdq_145 hD hth r0
  have kz_0_49 := fdq_146 hD hth r0
  have nf0 : fc_1 PRD (20, [4, 5, 6, 7, 33, 32, 6, 6], [60, 1, 6, 125, 49, 33, 34, 43, 44, 42, 48]) ws (vs) := by
    refine ⟨nf_in hl rfl, sgq_1464 ?_⟩
    · show TG3 (w_fi ws (n_v vs 4) 49) (w_ei ws (w_ar ws (n_v vs 4) 33)) (w_ei ws (w_ar ws (n_v vs 4) 34)) (w_ei ws (w_ar ws (n_v vs 4) 43)) (w_ei ws (w_ar ws (n_v vs 4) 44)) (w_ei ws (w_ar ws (n_v vs 4) 42)) (w_ei ws (w_ar ws (n_v vs 4) 48)) (v_iv (n_v vs 5)) (v_iv (n_v vs 6)) (v_iv (n_v vs 7)) (v_iv (n_v vs 33)) (v_iv (n_v vs 32)) (v_iv (n_v vs 6)) (v_iv (n_v vs 6))
      simp only [q4, q5, q6, q7]
      exact vc_Mo_shortest_18_0 (v_iv (n_v vs 1)) (v_iv (n_v vs 2)) (v_iv (n_v vs 3)) (v_iv (n_v vs 9)) (v_iv (n_v vs 24)) (v_iv (n_v vs 25)) (v_iv (n_v vs 28)) (v_iv (n_v vs 29)) (v_iv (n_v vs 32)) (v_iv (n_v vs 33)) (w_ei ws (w_ar ws (n_v vs 0) 33)) (w_ei ws (w_ar ws (n_v vs 0) 34)) (w_ei ws (w_ar ws (n_v vs 0) 43)) (w_ei ws (w_ar ws (n_v vs 0) 44)) (w_fi ws (n_v vs 0) 49) (w_ei ws (w_ar ws (n_v vs 0) 42)) (w_ei ws (w_ar ws (n_v vs 0) 48)) k1 k2 k3 k32 k33 kz_0_49
  have nf1 : fc_1 PRD (20, [4, 32, 10], [60, 1, 1, 128, 31, 48]) ws (vs) := by
    refine ⟨nf_in hl rfl, sgq_551 ?_⟩
    · show SMN (w_fi ws (n_v vs 4) 31) (w_ei ws (w_ar ws (n_v vs 4) 48)) (v_iv (n_v vs 32)) (v_iv (n_v vs 10))
      rw [q4]
      exact vc_Mo_shortest_18_1 (v_iv (n_v vs 1)) (v_iv (n_v vs 2)) (v_iv (n_v vs 3)) (v_iv (n_v vs 10)) (v_iv (n_v vs 24)) (v_iv (n_v vs 25)) (v_iv (n_v vs 26)) (v_iv (n_v vs 27)) (v_iv (n_v vs 28)) (v_iv (n_v vs 29)) (v_iv (n_v vs 30)) (v_iv (n_v vs 31)) (v_iv (n_v vs 32)) (w_ei ws (w_ar ws (n_v vs 0) 33)) (w_ei ws (w_ar ws (n_v vs 0) 34)) (w_ei ws (w_ar ws (n_v vs 0) 43)) (w_ei ws (w_ar ws (n_v vs 0) 44)) (w_fi ws (n_v vs 0) 49) (w_fi ws (n_v vs 0) 31) (w_ei ws (w_ar ws (n_v vs 0) 42)) (w_ei ws (w_ar ws (n_v vs 0) 48)) k1 k2 k3 k10 k24 k25 k26 k27 k28 k29 k30 k31 k32 f1 f10 f11 f41 kz_0_31 kz_0_49
  refine ⟨(fun _ h => (by cases h)), [], trivial, ?_, (fun _ h => (by cases h))⟩
  rw [List.append_nil]
  exact List.forall_mem_cons.mpr ⟨⟨show (20 : Nat) < 100 from by decide, nf0⟩, List.forall_mem_cons.mpr ⟨⟨show (20 : Nat) < 100 from by decide, nf1⟩, (fun _ h => (by cases h))⟩⟩
set_option maxHeartbeats 4000000 in
theorem vc_Mo_shortest_19_0 (x1 : Int) (x2 : Int) (x3 : Int) (x9 : Int) (x24 : Int) (x25 : Int) (x28 : Int) (x29 : Int) (x32 : Int) (x33 : Int) (pt_0 : Int → Int) (ph_0 : Int → Int) (drawnEdge_0 : Int → Int) (pieceOf_0 : Int → Int) (onlyPiece_0 : Int) (drawnNode_0 : Int → Int) (toGoal_0 : Int → Int) (k1 : 0 ≤ x1 ∧ x1 ≤ 24) (k2 : 0 ≤ x2 ∧ x2 ≤ 24) (k3 : 0 ≤ x3 ∧ x3 ≤ 1) (k32 : 1 ≤ x32 ∧ x32 ≤ 1) (k33 : 2 ≤ x33 ∧ x33 ≤ 80) (kz_0_49 : (-1) ≤ onlyPiece_0 ∧ onlyPiece_0 ≤ 79) : TG3 (onlyPiece_0) (pt_0) (ph_0) (drawnEdge_0) (pieceOf_0) (drawnNode_0) (toGoal_0) (x1) (x2) (x3) (x33) (x32) (x2) (x2) := by
  first
    | (intro h; exfalso; omega)
    | (intro h; exact ⟨fun e a b => by exfalso; omega, fun _ => by omega⟩)
    | (have c := ‹CLO _ _ _ _ _ _ _ _ _ _ _ _ _ _ _ _ _ _ _›
       have c1 := c.1 (by omega)
       intro h
       have t := c1.1 (by omega)
       refine ⟨fun e a b m => ?_, fun _ => by omega⟩
       by_cases q : e = x9
       · subst q
         refine ⟨?_, ?_⟩
         · have := t.2
           rw [show x28 = pt_0 e by omega, show x29 = ph_0 e by omega] at this; exact this
         · have := c1.2.1
           rw [show x24 = ph_0 e by omega, show x25 = pt_0 e by omega] at this; exact this
       · exact t.1 e a (by omega) m)
    | (have h := ‹TG3 _ _ _ _ _ _ _ _ _ _ _ _ _ _›
       have mg := ‹MGP _ _ _ _ _›
       intro h0
       have h1 := h h0
       refine ⟨fun e a b c => ?_, h1.2⟩
       by_cases q : e = x9
       · subst q; exact absurd (mg.mpr c) (by omega)
       · exact h1.1 e a (by omega) c)
set_option maxHeartbeats 4000000 in
theorem vc_Mo_shortest_19_1 (x1 : Int) (x2 : Int) (x3 : Int) (x10 : Int) (x23 : Int) (x24 : Int) (x25 : Int) (x26 : Int) (x27 : Int) (x28 : Int) (x29 : Int) (x30 : Int) (x31 : Int) (x32 : Int) (pt_0 : Int → Int) (ph_0 : Int → Int) (drawnEdge_0 : Int → Int) (pieceOf_0 : Int → Int) (onlyPiece_0 : Int) (pn_0 : Int) (drawnNode_0 : Int → Int) (toGoal_0 : Int → Int) (k1 : 0 ≤ x1 ∧ x1 ≤ 24) (k2 : 0 ≤ x2 ∧ x2 ≤ 24) (k3 : 0 ≤ x3 ∧ x3 ≤ 1) (k10 : (-2) ≤ x10 ∧ x10 ≤ 26000060) (k23 : 1 ≤ x23 ∧ x23 ≤ 1) (k24 : 0 ≤ x24 ∧ x24 ≤ 24) (k25 : 0 ≤ x25 ∧ x25 ≤ 24) (k26 : 0 ≤ x26 ∧ x26 ≤ 80) (k27 : 0 ≤ x27 ∧ x27 ≤ 1) (k28 : 0 ≤ x28 ∧ x28 ≤ 24) (k29 : 0 ≤ x29 ∧ x29 ≤ 24) (k30 : (-2) ≤ x30 ∧ x30 ≤ 26000060) (k31 : 0 ≤ x31 ∧ x31 ≤ 0) (k32 : 1 ≤ x32 ∧ x32 ≤ 1) (f2 : x31 = 0) (f6 : (-1) * x27 + (1 * x23 + 0) ≤ 0) (f11 : 1 * x30 + ((-1) * x10 + 0) ≤ 0) (f12 : (-1) * x30 + (1 * x10 + 0) ≤ 0) (f42 : CLO (pn_0) (onlyPiece_0) (pt_0) (ph_0) (drawnEdge_0) (pieceOf_0) (drawnNode_0) (toGoal_0) (x24) (x25) (x1) (x2) (x3) (x26) (x27) (x28) (x29) (x30) (x31)) (kz_0_31 : 0 ≤ pn_0 ∧ pn_0 ≤ 25) (kz_0_49 : (-1) ≤ onlyPiece_0 ∧ onlyPiece_0 ≤ 79) : SMN (pn_0) (toGoal_0) (x32) (x10) := by
  first
    | assumption
    | (have h := ‹SMM _ _ _ _›; unfold SMN; unfold SMM at h; omega)
    | (have c := ‹CLO _ _ _ _ _ _ _ _ _ _ _ _ _ _ _ _ _ _ _›
       unfold SMN
       first
         | (have := (c.1 (by omega)).2.2; omega)
         | (have := c.2 (by omega); omega))
def o_Mo_shortest_19 : or_T := (52, 34, [(0, (2, 0, 0, [165])), (1, (0, 0, 24, [])), (2, (0, 0, 24, [])), (3, (0, 0, 1, [])), (4, (2, 0, 0, [165])), (5, (0, 0, 24, [])), (6, (0, 0, 24, [])), (7, (0, 0, 1, [])), (9, (0, 1, 79, [])), (10, (0, -2, 26000060, [])), (11, (0, 1, 80, [])), (12, (0, 1, 1, [])), (14, (0, 0, 24, [])), (16, (0, 0, 24, [])), (17, (0, 0, 80, [])), (19, (0, 0, 24, [])), (20, (0, 0, 24, [])), (21, (0, -2, 26000060, [])), (23, (0, 1, 1, [])), (24, (0, 0, 24, [])), (25, (0, 0, 24, [])), (26, (0, 0, 80, [])), (27, (0, 0, 1, [])), (28, (0, 0, 24, [])), (29, (0, 0, 24, [])), (30, (0, -2, 26000060, [])), (31, (0, 0, 0, [])), (32, (0, 1, 1, [])), (33, (0, 2, 80, []))], [(6, [33, 9], [1]), (8, [23], [1]), (8, [31], [0]), (23, [26, 9], [0, 1, -1]), (23, [26, 9], [0, -1, 1]), (23, [27, 23], [0, 1, -1]), (23, [27, 23], [0, -1, 1]), (23, [28, 25], [0, 1, -1]), (23, [28, 25], [0, -1, 1]), (23, [29, 24], [0, 1, -1]), (23, [29, 24], [0, -1, 1]), (23, [30, 10], [0, 1, -1]), (23, [30, 10], [0, -1, 1]), (20, [4, 24, 25], [60, 2, 4, 121, 32, 49, 33, 34, 43, 44]), (20, [24, 4], [30, -1, 1, 0, 0, -1, 1, 31]), (20, [25, 4], [30, -1, 1, 0, 0, -1, 1, 31]), (20, [24, 4, 9], [50, 0, 1, 1034, 1, 2, 1, 0, 3, 1, 34, 1, 2]), (20, [25, 4, 9], [50, 0, 1, 1033, 1, 2, 1, 0, 3, 1, 33, 1, 2]), (23, [17, 9], [0, 1, -1]), (23, [17, 9], [0, -1, 1]), (23, [19, 6], [0, 1, -1]), (23, [19, 6], [0, -1, 1]), (23, [20, 6], [0, 1, -1]), (23, [20, 6], [0, -1, 1]), (23, [21, 10], [0, 1, -1]), (23, [21, 10], [0, -1, 1]), (20, [4, 14, 16], [60, 2, 4, 121, 32, 49, 33, 34, 43, 44]), (20, [14, 4], [30, -1, 1, 0, 0, -1, 1, 31]), (20, [16, 4], [30, -1, 1, 0, 0, -1, 1, 31]), (20, [14, 4, 9], [50, 0, 1, 1033, 1, 2, 1, 0, 3, 1, 33, 1, 2]), (20, [16, 4, 9], [50, 0, 1, 1034, 1, 2, 1, 0, 3, 1, 34, 1, 2]), (20, [4, 9, 12], [60, 1, 2, 120, 49, 43, 44]), (20, [9, 4], [30, -1, 1, 0, 0, -1, 1, 32]), (20, [4], [60, 2, 2, 75, 31, 32, 33, 34]), (20, [4], [60, 1, 2, 122, 32, 35, 43]), (20, [5, 4], [30, -1, 1, 0, 0, -1, 1, 31]), (20, [6, 4], [30, -1, 1, 0, 0, -1, 1, 31]), (24, [0, 4], []), (24, [1, 5], []), (24, [2, 6], []), (24, [3, 7], []), (20, [4, 5, 6, 7], [60, 3, 6, 124, 31, 32, 49, 33, 34, 43, 44, 42, 48]), (20, [4, 24, 25, 5, 6, 7, 26, 27, 28, 29, 30, 31], [60, 2, 6, 129, 31, 49, 33, 34, 43, 44, 42, 48]), (102, [30], [6277101735386680763835789423207666416102355444464034512896]), (23, [26, 9], [0, 1, -1]), (23, [26, 9], [0, -1, 1]), (23, [27, 23], [0, 1, -1]), (23, [27, 23], [0, -1, 1]), (23, [28, 25], [0, 1, -1]), (23, [28, 25], [0, -1, 1]), (23, [29, 24], [0, 1, -1]), (23, [29, 24], [0, -1, 1]), (23, [30, 10], [0, 1, -1]), (23, [30, 10], [0, -1, 1]), (23, [17, 9], [0, 1, -1]), (23, [17, 9], [0, -1, 1]), (23, [19, 6], [0, 1, -1]), (23, [19, 6], [0, -1, 1]), (23, [20, 6], [0, 1, -1]), (23, [20, 6], [0, -1, 1]), (23, [21, 10], [0, 1, -1]), (23, [21, 10], [0, -1, 1]), (102, [21], [6277101735386680763835789423207666416102355444464034512896]), (23, [17, 9], [0, 1, -1]), (23, [17, 9], [0, -1, 1]), (23, [19, 6], [0, 1, -1]), (23, [19, 6], [0, -1, 1]), (23, [20, 6], [0, 1, -1]), (23, [20, 6], [0, -1, 1]), (23, [21, 10], [0, 1, -1]), (23, [21, 10], [0, -1, 1]), (8, [12], [1]), (7, [9, 11], [2])], [], [], [(20, [4, 5, 6, 7, 33, 32, 6, 6], [60, 1, 6, 125, 49, 33, 34, 43, 44, 42, 48]), (20, [4, 32, 10], [60, 1, 1, 128, 31, 48])], [], [(33, 9, 1, 1), (33, 11, -4294967296, 0), (9, 11, -4294967296, -1), (1, 5, -4294967296, 0), (2, 6, -4294967296, 0), (3, 7, -4294967296, 0), (5, 1, -4294967296, 0), (6, 2, -4294967296, 0), (7, 3, -4294967296, 0)])
theorem oo_Mo_shortest_19 {kA : Nat → ClassId} : or_ok PRD kA GG o_Mo_shortest_19 := by
  refine or_mk fun A ta ws vs hD hth hl => ?_
  intro t0 r0 t1 k1 t2 k2 t3 k3 t4 r4 t5 k5 t6 k6 t7 k7 t9 k9 t10 k10 t11 k11 t12 k12 t14 k14 t16 k16 t17 k17 t19 k19 t20 k20 t21 k21 t23 k23 t24 k24 t25 k25 t26 k26 t27 k27 t28 k28 t29 k29 t30 k30 t31 k31 t32 k32 t33 k33 d0 d1 d2 d3 d4 d5 d6 d7 d8 f0 f1 f2 f3 f4 f5 f6 f7 f8 f9 f10 f11 f12 f13 f14 f15 f16 f17 f18 f19 f20 f21 f22 f23 f24 f25 f26 f27 f28 f29 f30 f31 f32 f33 f34 f35 f36 f37 f38 f39 f40 f41 f42 ta1 w1 le1 s1 f44 f45 f46 f47 f48 f49 f50 f51 f52 f53 f54 f55 f56 f57 f58 f59 f60 f61 ta2 w2 le2 s2 f63 f64 f65 f66 f67 f68 f69 f70 f71 f72
  replace f2 := shm_192 f2
  replace f6 := shm_22 f6
  replace f11 := shm_7 f11
  replace f12 := shm_22 f12
  replace f37 := shm_5 f37
  replace f38 := shm_5 f38
  replace f39 := shm_5 f39
  replace f40 := shm_5 f40
  replace f42 := shm_554 f42
  have q4 : n_v vs 4 = n_v vs 0 := f37.symm
  have q5 : n_v vs 5 = n_v vs 1 := f38.symm
  have q6 : n_v vs 6 = n_v vs 2 := f39.symm
  have q7 : n_v vs 7 = n_v vs 3 := f40.symm
  simp only [q4, q6, q5, q7] at f42
  have kz_0_31 := fdq_145 hD hth r0
  have kz_0_49 := fdq_146 hD hth r0
  have nf0 : fc_1 PRD (20, [4, 5, 6, 7, 33, 32, 6, 6], [60, 1, 6, 125, 49, 33, 34, 43, 44, 42, 48]) ws (vs) := by
    refine ⟨nf_in hl rfl, sgq_1464 ?_⟩
    · show TG3 (w_fi ws (n_v vs 4) 49) (w_ei ws (w_ar ws (n_v vs 4) 33)) (w_ei ws (w_ar ws (n_v vs 4) 34)) (w_ei ws (w_ar ws (n_v vs 4) 43)) (w_ei ws (w_ar ws (n_v vs 4) 44)) (w_ei ws (w_ar ws (n_v vs 4) 42)) (w_ei ws (w_ar ws (n_v vs 4) 48)) (v_iv (n_v vs 5)) (v_iv (n_v vs 6)) (v_iv (n_v vs 7)) (v_iv (n_v vs 33)) (v_iv (n_v vs 32)) (v_iv (n_v vs 6)) (v_iv (n_v vs 6))
      simp only [q4, q5, q6, q7]
      exact vc_Mo_shortest_19_0 (v_iv (n_v vs 1)) (v_iv (n_v vs 2)) (v_iv (n_v vs 3)) (v_iv (n_v vs 9)) (v_iv (n_v vs 24)) (v_iv (n_v vs 25)) (v_iv (n_v vs 28)) (v_iv (n_v vs 29)) (v_iv (n_v vs 32)) (v_iv (n_v vs 33)) (w_ei ws (w_ar ws (n_v vs 0) 33)) (w_ei ws (w_ar ws (n_v vs 0) 34)) (w_ei ws (w_ar ws (n_v vs 0) 43)) (w_ei ws (w_ar ws (n_v vs 0) 44)) (w_fi ws (n_v vs 0) 49) (w_ei ws (w_ar ws (n_v vs 0) 42)) (w_ei ws (w_ar ws (n_v vs 0) 48)) k1 k2 k3 k32 k33 kz_0_49
  have nf1 : fc_1 PRD (20, [4, 32, 10], [60, 1, 1, 128, 31, 48]) ws (vs) := by
    refine ⟨nf_in hl rfl, sgq_551 ?_⟩
    · show SMN (w_fi ws (n_v vs 4) 31) (w_ei ws (w_ar ws (n_v vs 4) 48)) (v_iv (n_v vs 32)) (v_iv (n_v vs 10))
      rw [q4]
      exact vc_Mo_shortest_19_1 (v_iv (n_v vs 1)) (v_iv (n_v vs 2)) (v_iv (n_v vs 3)) (v_iv (n_v vs 10)) (v_iv (n_v vs 23)) (v_iv (n_v vs 24)) (v_iv (n_v vs 25)) (v_iv (n_v vs 26)) (v_iv (n_v vs 27)) (v_iv (n_v vs 28)) (v_iv (n_v vs 29)) (v_iv (n_v vs 30)) (v_iv (n_v vs 31)) (v_iv (n_v vs 32)) (w_ei ws (w_ar ws (n_v vs 0) 33)) (w_ei ws (w_ar ws (n_v vs 0) 34)) (w_ei ws (w_ar ws (n_v vs 0) 43)) (w_ei ws (w_ar ws (n_v vs 0) 44)) (w_fi ws (n_v vs 0) 49) (w_fi ws (n_v vs 0) 31) (w_ei ws (w_ar ws (n_v vs 0) 42)) (w_ei ws (w_ar ws (n_v vs 0) 48)) k1 k2 k3 k10 k23 k24 k25 k26 k27 k28 k29 k30 k31 k32 f2 f6 f11 f12 f42 kz_0_31 kz_0_49
  refine ⟨(fun _ h => (by cases h)), [], trivial, ?_, (fun _ h => (by cases h))⟩
  rw [List.append_nil]
  exact List.forall_mem_cons.mpr ⟨⟨show (20 : Nat) < 100 from by decide, nf0⟩, List.forall_mem_cons.mpr ⟨⟨show (20 : Nat) < 100 from by decide, nf1⟩, (fun _ h => (by cases h))⟩⟩
set_option maxHeartbeats 4000000 in
theorem vc_Mo_shortest_20_0 (x1 : Int) (x2 : Int) (x3 : Int) (x9 : Int) (pt_0 : Int → Int) (ph_0 : Int → Int) (pn_0 : Int) (pm_0 : Int) (alive_0 : Int → Int) (drawnEdge_0 : Int → Int) (pieceOf_0 : Int → Int) (drawnNode_0 : Int → Int) (toGoal_0 : Int → Int) (onlyPiece_0 : Int) (way_0 : Int → Int) (wayMany_0 : Int) (k1 : 0 ≤ x1 ∧ x1 ≤ 24) (k2 : 0 ≤ x2 ∧ x2 ≤ 24) (k3 : 0 ≤ x3 ∧ x3 ≤ 1) (k9 : 0 ≤ x9 ∧ x9 ≤ 24) (f0 : x9 = x2) (f5 : TGI (pn_0) (pm_0) (onlyPiece_0) (pt_0) (ph_0) (drawnEdge_0) (pieceOf_0) (drawnNode_0) (toGoal_0) (x1) (x2) (x3)) (f6 : TG5 (pm_0) (onlyPiece_0) (pt_0) (ph_0) (drawnEdge_0) (pieceOf_0) (drawnNode_0) (toGoal_0) (x1) (x2) (x3)) (f7 : WLK (pn_0) (pm_0) (onlyPiece_0) (wayMany_0) (pt_0) (ph_0) (alive_0) (drawnEdge_0) (pieceOf_0) (drawnNode_0) (toGoal_0) (way_0) (x1) (x2) (x3) (x9)) (kz_0_31 : 0 ≤ pn_0 ∧ pn_0 ≤ 25) (kz_0_32 : 0 ≤ pm_0 ∧ pm_0 ≤ 80) (kz_0_45 : 0 ≤ wayMany_0 ∧ wayMany_0 ≤ 30) (kz_0_49 : (-1) ≤ onlyPiece_0 ∧ onlyPiece_0 ≤ 79) : SHP (pn_0) (pm_0) (onlyPiece_0) (wayMany_0) (pt_0) (ph_0) (alive_0) (drawnEdge_0) (pieceOf_0) (drawnNode_0) (way_0) (x1) (x2) (x3) := by
  have w := ‹WLK _ _ _ _ _ _ _ _ _ _ _ _ _ _ _ _›
  rw [show x9 = x2 by omega] at w
  exact wlk_end ‹TGI _ _ _ _ _ _ _ _ _ _ _ _› ‹TG5 _ _ _ _ _ _ _ _ _ _ _› w
def o_Mo_shortest_20 : or_T := (310, 12, [(0, (2, 0, 0, [165])), (1, (0, 0, 24, [])), (2, (0, 0, 24, [])), (3, (0, 0, 1, [])), (9, (0, 0, 24, []))], [(7, [9, 6], [0]), (20, [4, 5, 6, 7], [60, 3, 6, 124, 31, 32, 49, 33, 34, 43, 44, 42, 48]), (20, [4, 5, 6, 7], [60, 2, 6, 134, 32, 49, 33, 34, 43, 44, 42, 48]), (20, [4, 5, 6, 7, 9], [60, 4, 8, 131, 31, 32, 49, 45, 33, 34, 35, 43, 44, 42, 48, 46]), (24, [0, 4], []), (24, [1, 5], []), (24, [2, 6], []), (24, [3, 7], [])], [], [], [(20, [0, 1, 2, 3], [60, 4, 7, 130, 31, 32, 49, 45, 33, 34, 35, 43, 44, 42, 46])], [], [])
theorem oo_Mo_shortest_20 {kA : Nat → ClassId} : or_ok PRD kA GG o_Mo_shortest_20 := by
  refine or_mk fun A ta ws vs hD hth hl => ?_
  intro t0 r0 t1 k1 t2 k2 t3 k3 t9 k9 f0 f5 f6 f7 f10 f11 f12 f13
  replace f0 := shm_37 f0
  replace f5 := shm_549 f5
  replace f6 := shm_1459 f6
  replace f7 := shm_1467 f7
  replace f10 := shm_5 f10
  replace f11 := shm_5 f11
  replace f12 := shm_5 f12
  replace f13 := shm_5 f13
  have q4 : n_v vs 4 = n_v vs 0 := f10.symm
  have q5 : n_v vs 5 = n_v vs 1 := f11.symm
  have q6 : n_v vs 6 = n_v vs 2 := f12.symm
  have q7 : n_v vs 7 = n_v vs 3 := f13.symm
  simp only [q6, q4, q5, q7] at f0 f5 f6 f7
  have kz_0_31 := fdq_145 hD hth r0
  have kz_0_32 := fdq_140 hD hth r0
  have kz_0_45 := fdq_191 hD hth r0
  have kz_0_49 := fdq_146 hD hth r0
  have nf0 : fc_1 PRD (20, [0, 1, 2, 3], [60, 4, 7, 130, 31, 32, 49, 45, 33, 34, 35, 43, 44, 42, 46]) ws (vs) := ⟨nf_in hl rfl, sgq_1463 (vc_Mo_shortest_20_0 (v_iv (n_v vs 1)) (v_iv (n_v vs 2)) (v_iv (n_v vs 3)) (v_iv (n_v vs 9)) (w_ei ws (w_ar ws (n_v vs 0) 33)) (w_ei ws (w_ar ws (n_v vs 0) 34)) (w_fi ws (n_v vs 0) 31) (w_fi ws (n_v vs 0) 32) (w_ei ws (w_ar ws (n_v vs 0) 35)) (w_ei ws (w_ar ws (n_v vs 0) 43)) (w_ei ws (w_ar ws (n_v vs 0) 44)) (w_ei ws (w_ar ws (n_v vs 0) 42)) (w_ei ws (w_ar ws (n_v vs 0) 48)) (w_fi ws (n_v vs 0) 49) (w_ei ws (w_ar ws (n_v vs 0) 46)) (w_fi ws (n_v vs 0) 45) k1 k2 k3 k9 f0 f5 f6 f7 kz_0_31 kz_0_32 kz_0_45 kz_0_49)⟩
  refine ⟨(fun _ h => (by cases h)), [], trivial, ?_, (fun _ h => (by cases h))⟩
  rw [List.append_nil]
  exact List.forall_mem_cons.mpr ⟨⟨show (20 : Nat) < 100 from by decide, nf0⟩, (fun _ h => (by cases h))⟩
set_option maxHeartbeats 4000000 in
theorem vc_Mo_shortest_21_0 (pn_0 : Int) (pt_0 : Int → Int) (ph_0 : Int → Int) (pm_0 : Int) (f3 : GOK (pn_0) (pm_0) (pt_0) (ph_0)) (kz_0_31 : 0 ≤ pn_0 ∧ pn_0 ≤ 25) (kz_0_32 : 0 ≤ pm_0 ∧ pm_0 ≤ 80) : GOK (pn_0) (pm_0) (pt_0) (ph_0) := by
  first | assumption
set_option maxHeartbeats 4000000 in
theorem vc_Mo_shortest_21_1 (pm_0 : Int) (alive_0 : Int → Int) (drawnEdge_0 : Int → Int) (f4 : UA (pm_0) (alive_0) (drawnEdge_0)) (kz_0_32 : 0 ≤ pm_0 ∧ pm_0 ≤ 80) : UA (pm_0) (alive_0) (drawnEdge_0) := by
  first | assumption
set_option maxHeartbeats 4000000 in
theorem vc_Mo_shortest_21_2 (x1 : Int) (pn_0 : Int) (k1 : 0 ≤ x1 ∧ x1 ≤ 24) (f5 : 1 * x1 + ((-1) * pn_0 + 0) ≤ (-1)) (kz_0_31 : 0 ≤ pn_0 ∧ pn_0 ≤ 25) : 1 * x1 + ((-1) * pn_0 + 0) ≤ (-1) := by
  first | omega
set_option maxHeartbeats 4000000 in
theorem vc_Mo_shortest_21_3 (x2 : Int) (pn_0 : Int) (k2 : 0 ≤ x2 ∧ x2 ≤ 24) (f6 : 1 * x2 + ((-1) * pn_0 + 0) ≤ (-1)) (kz_0_31 : 0 ≤ pn_0 ∧ pn_0 ≤ 25) : 1 * x2 + ((-1) * pn_0 + 0) ≤ (-1) := by
  first | omega
set_option maxHeartbeats 4000000 in
theorem vc_Mo_shortest_21_4 (x1 : Int) (x2 : Int) (x3 : Int) (pn_0 : Int) (pt_0 : Int → Int) (ph_0 : Int → Int) (pm_0 : Int) (drawnEdge_0 : Int → Int) (pieceOf_0 : Int → Int) (drawnNode_0 : Int → Int) (toGoal_0 : Int → Int) (onlyPiece_0 : Int) (k1 : 0 ≤ x1 ∧ x1 ≤ 24) (k2 : 0 ≤ x2 ∧ x2 ≤ 24) (k3 : 0 ≤ x3 ∧ x3 ≤ 1) (f7 : TGI (pn_0) (pm_0) (onlyPiece_0) (pt_0) (ph_0) (drawnEdge_0) (pieceOf_0) (drawnNode_0) (toGoal_0) (x1) (x2) (x3)) (kz_0_31 : 0 ≤ pn_0 ∧ pn_0 ≤ 25) (kz_0_32 : 0 ≤ pm_0 ∧ pm_0 ≤ 80) (kz_0_49 : (-1) ≤ onlyPiece_0 ∧ onlyPiece_0 ≤ 79) : TGI (pn_0) (pm_0) (onlyPiece_0) (pt_0) (ph_0) (drawnEdge_0) (pieceOf_0) (drawnNode_0) (toGoal_0) (x1) (x2) (x3) := by
  first | assumption
set_option maxHeartbeats 4000000 in
theorem vc_Mo_shortest_21_5 (x1 : Int) (x2 : Int) (x3 : Int) (pt_0 : Int → Int) (ph_0 : Int → Int) (pm_0 : Int) (drawnEdge_0 : Int → Int) (pieceOf_0 : Int → Int) (drawnNode_0 : Int → Int) (toGoal_0 : Int → Int) (onlyPiece_0 : Int) (k1 : 0 ≤ x1 ∧ x1 ≤ 24) (k2 : 0 ≤ x2 ∧ x2 ≤ 24) (k3 : 0 ≤ x3 ∧ x3 ≤ 1) (f8 : TG5 (pm_0) (onlyPiece_0) (pt_0) (ph_0) (drawnEdge_0) (pieceOf_0) (drawnNode_0) (toGoal_0) (x1) (x2) (x3)) (kz_0_32 : 0 ≤ pm_0 ∧ pm_0 ≤ 80) (kz_0_49 : (-1) ≤ onlyPiece_0 ∧ onlyPiece_0 ≤ 79) : TG5 (pm_0) (onlyPiece_0) (pt_0) (ph_0) (drawnEdge_0) (pieceOf_0) (drawnNode_0) (toGoal_0) (x1) (x2) (x3) := by
  first | assumption
set_option maxHeartbeats 4000000 in
theorem vc_Mo_shortest_21_6 (x1 : Int) (x2 : Int) (x3 : Int) (x9 : Int) (pn_0 : Int) (pt_0 : Int → Int) (ph_0 : Int → Int) (pm_0 : Int) (alive_0 : Int → Int) (drawnEdge_0 : Int → Int) (pieceOf_0 : Int → Int) (drawnNode_0 : Int → Int) (toGoal_0 : Int → Int) (onlyPiece_0 : Int) (way_0 : Int → Int) (wayMany_0 : Int) (k1 : 0 ≤ x1 ∧ x1 ≤ 24) (k2 : 0 ≤ x2 ∧ x2 ≤ 24) (k3 : 0 ≤ x3 ∧ x3 ≤ 1) (k9 : 0 ≤ x9 ∧ x9 ≤ 24) (f9 : WLK (pn_0) (pm_0) (onlyPiece_0) (wayMany_0) (pt_0) (ph_0) (alive_0) (drawnEdge_0) (pieceOf_0) (drawnNode_0) (toGoal_0) (way_0) (x1) (x2) (x3) (x9)) (kz_0_31 : 0 ≤ pn_0 ∧ pn_0 ≤ 25) (kz_0_32 : 0 ≤ pm_0 ∧ pm_0 ≤ 80) (kz_0_45 : 0 ≤ wayMany_0 ∧ wayMany_0 ≤ 30) (kz_0_49 : (-1) ≤ onlyPiece_0 ∧ onlyPiece_0 ≤ 79) : WLK (pn_0) (pm_0) (onlyPiece_0) (wayMany_0) (pt_0) (ph_0) (alive_0) (drawnEdge_0) (pieceOf_0) (drawnNode_0) (toGoal_0) (way_0) (x1) (x2) (x3) (x9) := by
  first | assumption
set_option maxHeartbeats 4000000 in
theorem vc_Mo_shortest_21_7 (x2 : Int) (x3 : Int) (x9 : Int) (x11 : Int) (x12 : Int) (x13 : Int) (x14 : Int) (x15 : Int) (pn_0 : Int) (pt_0 : Int → Int) (ph_0 : Int → Int) (pm_0 : Int) (alive_0 : Int → Int) (drawnEdge_0 : Int → Int) (pieceOf_0 : Int → Int) (drawnNode_0 : Int → Int) (toGoal_0 : Int → Int) (onlyPiece_0 : Int) (k2 : 0 ≤ x2 ∧ x2 ≤ 24) (k3 : 0 ≤ x3 ∧ x3 ≤ 1) (k9 : 0 ≤ x9 ∧ x9 ≤ 24) (k12 : (-1) ≤ x12 ∧ x12 ≤ (-1)) (k13 : 0 ≤ x13 ∧ x13 ≤ 25) (k15 : (-1) ≤ x15 ∧ x15 ≤ 24) (d0 : x13 + (-1) ≤ x15 ∧ x15 ≤ x13 + (-1)) (g1 : x13 = pn_0) (kz_0_31 : 0 ≤ pn_0 ∧ pn_0 ≤ 25) (kz_0_32 : 0 ≤ pm_0 ∧ pm_0 ≤ 80) (kz_0_49 : (-1) ≤ onlyPiece_0 ∧ onlyPiece_0 ≤ 79) : NXT (pn_0) (pm_0) (onlyPiece_0) (pt_0) (ph_0) (alive_0) (drawnEdge_0) (pieceOf_0) (drawnNode_0) (toGoal_0) (x2) (x3) (x9) (x12) (x15) := by
  first
    | exact ⟨Or.inl (by omega), fun k hk g => by have := g.2.1; exfalso; omega⟩
set_option maxHeartbeats 4000000 in
theorem vc_Mo_shortest_21_8 (x2 : Int) (x9 : Int) (k2 : 0 ≤ x2 ∧ x2 ≤ 24) (k9 : 0 ≤ x9 ∧ x9 ≤ 24) (f2 : x9 ≠ x2) : x9 ≠ x2 := by
  first | omega
set_option maxHeartbeats 4000000 in
theorem vc_Mo_shortest_21_9 (x13 : Int) (x15 : Int) (pn_0 : Int) (k13 : 0 ≤ x13 ∧ x13 ≤ 25) (k15 : (-1) ≤ x15 ∧ x15 ≤ 24) (d0 : x13 + (-1) ≤ x15 ∧ x15 ≤ x13 + (-1)) (g1 : x13 = pn_0) (kz_0_31 : 0 ≤ pn_0 ∧ pn_0 ≤ 25) : 1 * x15 + ((-1) * pn_0 + 0) ≤ (-1) := by
  first | omega
set_option maxHeartbeats 4000000 in
theorem vc_Mo_shortest_21_10 (x11 : Int) (wayMany_0 : Int) (gx : Int) (k11 : (-2) ≤ x11 ∧ x11 ≤ 61) (f10 : 1 * wayMany_0 + (1 * x11 + 0) ≤ 62) (f11 : (-1) * wayMany_0 + ((-1) * x11 + 0) ≤ (-62)) (kz_0_45 : 0 ≤ wayMany_0 ∧ wayMany_0 ≤ 30) (ex2 : gx = 0 + (1 * x11 + 0)) : 1 * wayMany_0 + (1 * gx + 0) ≤ 62 := by
  first | omega
set_option maxHeartbeats 4000000 in
theorem vc_Mo_shortest_21_11 (x11 : Int) (wayMany_0 : Int) (gx : Int) (k11 : (-2) ≤ x11 ∧ x11 ≤ 61) (f10 : 1 * wayMany_0 + (1 * x11 + 0) ≤ 62) (f11 : (-1) * wayMany_0 + ((-1) * x11 + 0) ≤ (-62)) (kz_0_45 : 0 ≤ wayMany_0 ∧ wayMany_0 ≤ 30) (ex2 : gx = 0 + (1 * x11 + 0)) : (-1) * wayMany_0 + ((-1) * gx + 0) ≤ (-62) := by
  first | omega
def o_Mo_shortest_21 : or_T := (204, 16, [(0, (2, 0, 0, [165])), (1, (0, 0, 24, [])), (2, (0, 0, 24, [])), (3, (0, 0, 1, [])), (4, (2, 0, 0, [165])), (5, (0, 0, 24, [])), (6, (0, 0, 24, [])), (7, (0, 0, 1, [])), (9, (0, 0, 24, [])), (11, (0, -2, 61, [])), (12, (0, -1, -1, [])), (13, (0, 0, 25, [])), (14, (0, 1, 1, [])), (15, (0, -1, 24, []))], [(2, [15, 13, 14], []), (9, [13, 4], [31]), (7, [9, 6], [1]), (20, [4], [60, 2, 2, 75, 31, 32, 33, 34]), (20, [4], [60, 1, 2, 122, 32, 35, 43]), (20, [5, 4], [30, -1, 1, 0, 0, -1, 1, 31]), (20, [6, 4], [30, -1, 1, 0, 0, -1, 1, 31]), (20, [4, 5, 6, 7], [60, 3, 6, 124, 31, 32, 49, 33, 34, 43, 44, 42, 48]), (20, [4, 5, 6, 7], [60, 2, 6, 134, 32, 49, 33, 34, 43, 44, 42, 48]), (20, [4, 5, 6, 7, 9], [60, 4, 8, 131, 31, 32, 49, 45, 33, 34, 35, 43, 44, 42, 48, 46]), (20, [4, 11], [30, 62, 1, 1, 45, 1, 0, 0]), (20, [4, 11], [30, -62, -1, 1, 45, -1, 0, 0]), (24, [0, 4], []), (24, [1, 5], []), (24, [2, 6], []), (24, [3, 7], [])], [], [(0, -2, 61, [])], [(20, [4], [60, 2, 2, 75, 31, 32, 33, 34]), (20, [4], [60, 1, 2, 122, 32, 35, 43]), (20, [5, 4], [30, -1, 1, 0, 0, -1, 1, 31]), (20, [6, 4], [30, -1, 1, 0, 0, -1, 1, 31]), (20, [4, 5, 6, 7], [60, 3, 6, 124, 31, 32, 49, 33, 34, 43, 44, 42, 48]), (20, [4, 5, 6, 7], [60, 2, 6, 134, 32, 49, 33, 34, 43, 44, 42, 48]), (20, [4, 5, 6, 7, 9], [60, 4, 8, 131, 31, 32, 49, 45, 33, 34, 35, 43, 44, 42, 48, 46]), (20, [4, 6, 7, 9, 12, 15], [60, 3, 7, 132, 31, 32, 49, 33, 34, 35, 43, 44, 42, 48]), (20, [9, 6], [50, 0, 0, 7, 2, 1, 0, 1, 1]), (20, [15, 4], [30, -1, 1, 0, 0, -1, 1, 31]), (20, [4, 16], [30, 62, 1, 1, 45, 1, 0, 0]), (20, [4, 16], [30, -62, -1, 1, 45, -1, 0, 0]), (24, [0, 4], []), (24, [1, 5], []), (24, [2, 6], []), (24, [3, 7], [])], [(16, 11, 0, 0)], [(15, 13, -1, -1), (1, 5, -4294967296, 0), (2, 6, -4294967296, 0), (3, 7, -4294967296, 0), (5, 1, -4294967296, 0), (6, 2, -4294967296, 0), (7, 3, -4294967296, 0)])
theorem oo_Mo_shortest_21 {kA : Nat → ClassId} : or_ok PRD kA GG o_Mo_shortest_21 := by
  refine or_mk fun A ta ws vs hD hth hl => ?_
  intro t0 r0 t1 k1 t2 k2 t3 k3 t4 r4 t5 k5 t6 k6 t7 k7 t9 k9 t11 k11 t12 k12 t13 k13 t14 k14 t15 k15 d0 d1 d2 d3 d4 d5 d6 f0 f1 f2 f3 f4 f5 f6 f7 f8 f9 f10 f11 f12 f13 f14 f15
  replace f0 := shm_14 f0
  replace f1 := shm_577 f1
  replace f2 := shm_40 f2
  replace f3 := shm_575 f3
  replace f4 := shm_1455 f4
  replace f5 := shm_553 f5
  replace f6 := shm_553 f6
  replace f7 := shm_549 f7
  replace f8 := shm_1459 f8
  replace f9 := shm_1467 f9
  replace f10 := shm_1461 f10
  replace f11 := shm_1462 f11
  replace f12 := shm_5 f12
  replace f13 := shm_5 f13
  replace f14 := shm_5 f14
  replace f15 := shm_5 f15
  have q4 : n_v vs 4 = n_v vs 0 := f12.symm
  have q5 : n_v vs 5 = n_v vs 1 := f13.symm
  have q6 : n_v vs 6 = n_v vs 2 := f14.symm
  have q7 : n_v vs 7 = n_v vs 3 := f15.symm
  simp only [q4, q6, q5, q7] at f1 f2 f3 f4 f5 f6 f7 f8 f9 f10 f11
  have cr_0_33 := fdq_117 hD hth r0
  have cr_0_34 := fdq_118 hD hth r0
  have cr_0_35 := fdq_132 hD hth r0
  have cr_0_42 := fdq_136 hD hth r0
  have cr_0_43 := fdq_137 hD hth r0
  have cr_0_44 := fdq_138 hD hth r0
  have cr_0_46 := fdq_190 hD hth r0
  have cr_0_48 := fdq_144 hD hth r0
  have g1 : v_iv (n_v vs 13) = w_fi ws (n_v vs 0) 31 := congrArg v_iv f1
  have hK_0_33 := elq_60 hD hth cr_0_33
  have hK_0_34 := elq_61 hD hth cr_0_34
  have hK_0_35 := elq_72 hD hth cr_0_35
  have hK_0_42 := elq_75 hD hth cr_0_42
  have hK_0_43 := elq_76 hD hth cr_0_43
  have hK_0_44 := elq_77 hD hth cr_0_44
  have hK_0_46 := elq_114 hD hth cr_0_46
  have hK_0_48 := elq_82 hD hth cr_0_48
  have kz_0_31 := fdq_145 hD hth r0
  have kz_0_32 := fdq_140 hD hth r0
  have kz_0_45 := fdq_191 hD hth r0
  have kz_0_49 := fdq_146 hD hth r0
  first | have hW := wlk_bd ‹TGI _ _ _ _ _ _ _ _ _ _ _ _› ‹TG5 _ _ _ _ _ _ _ _ _ _ _› ‹WLK _ _ _ _ _ _ _ _ _ _ _ _ _ _ _ _› | skip
  first | have hX := nxt_some ‹UA _ _ _› ‹TGI _ _ _ _ _ _ _ _ _ _ _ _› ‹TG5 _ _ _ _ _ _ _ _ _ _ _› ‹WLK _ _ _ _ _ _ _ _ _ _ _ _ _ _ _ _› (by assumption) ‹NXT _ _ _ _ _ _ _ _ _ _ _ _ _ _ _› (by omega) | skip
  first | have hX1 := hX.1 | skip
  first | have hX2 := hX.2.1 | skip
  obtain ⟨x, ex, hx⟩ := iv_ex (ta := ta) (lo := (-2)) (hi := 61) (z := 0 + (1 * v_iv (n_v vs 11) + 0)) (by omega) (by omega) (by omega) (by omega)
  have ex2 : v_iv (Value.int x) = 0 + (1 * v_iv (n_v vs 11) + 0) := ex
  have ex3 : (-2) ≤ v_iv (Value.int x) ∧ v_iv (Value.int x) ≤ 61 := tv_rng hx
  have e_0 : n_v (vs ++ [Value.int x]) 0 = n_v vs 0 := n_v_old (by rw [hl]; decide)
  have e_1 : n_v (vs ++ [Value.int x]) 1 = n_v vs 1 := n_v_old (by rw [hl]; decide)
  have e_2 : n_v (vs ++ [Value.int x]) 2 = n_v vs 2 := n_v_old (by rw [hl]; decide)
  have e_3 : n_v (vs ++ [Value.int x]) 3 = n_v vs 3 := n_v_old (by rw [hl]; decide)
  have e_4 : n_v (vs ++ [Value.int x]) 4 = n_v vs 4 := n_v_old (by rw [hl]; decide)
  have e_5 : n_v (vs ++ [Value.int x]) 5 = n_v vs 5 := n_v_old (by rw [hl]; decide)
  have e_6 : n_v (vs ++ [Value.int x]) 6 = n_v vs 6 := n_v_old (by rw [hl]; decide)
  have e_7 : n_v (vs ++ [Value.int x]) 7 = n_v vs 7 := n_v_old (by rw [hl]; decide)
  have e_9 : n_v (vs ++ [Value.int x]) 9 = n_v vs 9 := n_v_old (by rw [hl]; decide)
  have e_12 : n_v (vs ++ [Value.int x]) 12 = n_v vs 12 := n_v_old (by rw [hl]; decide)
  have e_15 : n_v (vs ++ [Value.int x]) 15 = n_v vs 15 := n_v_old (by rw [hl]; decide)
  have e_16 : n_v (vs ++ [Value.int x]) 16 = Value.int x := n_v_new hl
  have nf0 : fc_1 PRD (20, [4], [60, 2, 2, 75, 31, 32, 33, 34]) ws (vs ++ [Value.int x]) := by
    refine ⟨nf_inA hl rfl, sgq_575 ?_⟩
    · show GOK (w_fi ws (n_v (vs ++ [Value.int x]) 4) 31) (w_fi ws (n_v (vs ++ [Value.int x]) 4) 32) (w_ei ws (w_ar ws (n_v (vs ++ [Value.int x]) 4) 33)) (w_ei ws (w_ar ws (n_v (vs ++ [Value.int x]) 4) 34))
      simp only [e_4, q4]
      exact vc_Mo_shortest_21_0 (w_fi ws (n_v vs 0) 31) (w_ei ws (w_ar ws (n_v vs 0) 33)) (w_ei ws (w_ar ws (n_v vs 0) 34)) (w_fi ws (n_v vs 0) 32) f3 kz_0_31 kz_0_32
  have nf1 : fc_1 PRD (20, [4], [60, 1, 2, 122, 32, 35, 43]) ws (vs ++ [Value.int x]) := by
    refine ⟨nf_inA hl rfl, sgq_1455 ?_⟩
    · show UA (w_fi ws (n_v (vs ++ [Value.int x]) 4) 32) (w_ei ws (w_ar ws (n_v (vs ++ [Value.int x]) 4) 35)) (w_ei ws (w_ar ws (n_v (vs ++ [Value.int x]) 4) 43))
      simp only [e_4, q4]
      exact vc_Mo_shortest_21_1 (w_fi ws (n_v vs 0) 32) (w_ei ws (w_ar ws (n_v vs 0) 35)) (w_ei ws (w_ar ws (n_v vs 0) 43)) f4 kz_0_32
  have nf2 : fc_1 PRD (20, [5, 4], [30, -1, 1, 0, 0, -1, 1, 31]) ws (vs ++ [Value.int x]) := by
    refine ⟨nf_inA hl rfl, sgq_553 ?_⟩
    · show 1 * v_iv (n_v (vs ++ [Value.int x]) 5) + ((-1) * w_fi ws (n_v (vs ++ [Value.int x]) 4) 31 + 0) ≤ (-1)
      simp only [e_4, e_5, q4, q5]
      exact vc_Mo_shortest_21_2 (v_iv (n_v vs 1)) (w_fi ws (n_v vs 0) 31) k1 f5 kz_0_31
  have nf3 : fc_1 PRD (20, [6, 4], [30, -1, 1, 0, 0, -1, 1, 31]) ws (vs ++ [Value.int x]) := by
    refine ⟨nf_inA hl rfl, sgq_553 ?_⟩
    · show 1 * v_iv (n_v (vs ++ [Value.int x]) 6) + ((-1) * w_fi ws (n_v (vs ++ [Value.int x]) 4) 31 + 0) ≤ (-1)
      simp only [e_4, e_6, q4, q6]
      exact vc_Mo_shortest_21_3 (v_iv (n_v vs 2)) (w_fi ws (n_v vs 0) 31) k2 f6 kz_0_31
  have nf4 : fc_1 PRD (20, [4, 5, 6, 7], [60, 3, 6, 124, 31, 32, 49, 33, 34, 43, 44, 42, 48]) ws (vs ++ [Value.int x]) := by
    refine ⟨nf_inA hl rfl, sgq_549 ?_⟩
    · show TGI (w_fi ws (n_v (vs ++ [Value.int x]) 4) 31) (w_fi ws (n_v (vs ++ [Value.int x]) 4) 32) (w_fi ws (n_v (vs ++ [Value.int x]) 4) 49) (w_ei ws (w_ar ws (n_v (vs ++ [Value.int x]) 4) 33)) (w_ei ws (w_ar ws (n_v (vs ++ [Value.int x]) 4) 34)) (w_ei ws (w_ar ws (n_v (vs ++ [Value.int x]) 4) 43)) (w_ei ws (w_ar ws (n_v (vs ++ [Value.int x]) 4) 44)) (w_ei ws (w_ar ws (n_v (vs ++ [Value.int x]) 4) 42)) (w_ei ws (w_ar ws (n_v (vs ++ [Value.int x]) 4) 48)) (v_iv (n_v (vs ++ [Value.int x]) 5)) (v_iv (n_v (vs ++ [Value.int x]) 6)) (v_iv (n_v (vs ++ [Value.int x]) 7))
      simp only [e_4, e_5, e_6, e_7, q4, q5, q6, q7]
      exact vc_Mo_shortest_21_4 (v_iv (n_v vs 1)) (v_iv (n_v vs 2)) (v_iv (n_v vs 3)) (w_fi ws (n_v vs 0) 31) (w_ei ws (w_ar ws (n_v vs 0) 33)) (w_ei ws (w_ar ws (n_v vs 0) 34)) (w_fi ws (n_v vs 0) 32) (w_ei ws (w_ar ws (n_v vs 0) 43)) (w_ei ws (w_ar ws (n_v vs 0) 44)) (w_ei ws (w_ar ws (n_v vs 0) 42)) (w_ei ws (w_ar ws (n_v vs 0) 48)) (w_fi ws (n_v vs 0) 49) k1 k2 k3 f7 kz_0_31 kz_0_32 kz_0_49
  have nf5 : fc_1 PRD (20, [4, 5, 6, 7], [60, 2, 6, 134, 32, 49, 33, 34, 43, 44, 42, 48]) ws (vs ++ [Value.int x]) := by
    refine ⟨nf_inA hl rfl, sgq_1459 ?_⟩
    · show TG5 (w_fi ws (n_v (vs ++ [Value.int x]) 4) 32) (w_fi ws (n_v (vs ++ [Value.int x]) 4) 49) (w_ei ws (w_ar ws (n_v (vs ++ [Value.int x]) 4) 33)) (w_ei ws (w_ar ws (n_v (vs ++ [Value.int x]) 4) 34)) (w_ei ws (w_ar ws (n_v (vs ++ [Value.int x]) 4) 43)) (w_ei ws (w_ar ws (n_v (vs ++ [Value.int x]) 4) 44)) (w_ei ws (w_ar ws (n_v (vs ++ [Value.int x]) 4) 42)) (w_ei ws (w_ar ws (n_v (vs ++ [Value.int x]) 4) 48)) (v_iv (n_v (vs ++ [Value.int x]) 5)) (v_iv (n_v (vs ++ [Value.int x]) 6)) (v_iv (n_v (vs ++ [Value.int x]) 7))
      simp only [e_4, e_5, e_6, e_7, q4, q5, q6, q7]
      exact vc_Mo_shortest_21_5 (v_iv (n_v vs 1)) (v_iv (n_v vs 2)) (v_iv (n_v vs 3)) (w_ei ws (w_ar ws (n_v vs 0) 33)) (w_ei ws (w_ar ws (n_v vs 0) 34)) (w_fi ws (n_v vs 0) 32) (w_ei ws (w_ar ws (n_v vs 0) 43)) (w_ei ws (w_ar ws (n_v vs 0) 44)) (w_ei ws (w_ar ws (n_v vs 0) 42)) (w_ei ws (w_ar ws (n_v vs 0) 48)) (w_fi ws (n_v vs 0) 49) k1 k2 k3 f8 kz_0_32 kz_0_49
  have nf6 : fc_1 PRD (20, [4, 5, 6, 7, 9], [60, 4, 8, 131, 31, 32, 49, 45, 33, 34, 35, 43, 44, 42, 48, 46]) ws (vs ++ [Value.int x]) := by
    refine ⟨nf_inA hl rfl, sgq_1467 ?_⟩
    · show WLK (w_fi ws (n_v (vs ++ [Value.int x]) 4) 31) (w_fi ws (n_v (vs ++ [Value.int x]) 4) 32) (w_fi ws (n_v (vs ++ [Value.int x]) 4) 49) (w_fi ws (n_v (vs ++ [Value.int x]) 4) 45) (w_ei ws (w_ar ws (n_v (vs ++ [Value.int x]) 4) 33)) (w_ei ws (w_ar ws (n_v (vs ++ [Value.int x]) 4) 34)) (w_ei ws (w_ar ws (n_v (vs ++ [Value.int x]) 4) 35)) (w_ei ws (w_ar ws (n_v (vs ++ [Value.int x]) 4) 43)) (w_ei ws (w_ar ws (n_v (vs ++ [Value.int x]) 4) 44)) (w_ei ws (w_ar ws (n_v (vs ++ [Value.int x]) 4) 42)) (w_ei ws (w_ar ws (n_v (vs ++ [Value.int x]) 4) 48)) (w_ei ws (w_ar ws (n_v (vs ++ [Value.int x]) 4) 46)) (v_iv (n_v (vs ++ [Value.int x]) 5)) (v_iv (n_v (vs ++ [Value.int x]) 6)) (v_iv (n_v (vs ++ [Value.int x]) 7)) (v_iv (n_v (vs ++ [Value.int x]) 9))
      simp only [e_4, e_5, e_6, e_7, e_9, q4, q5, q6, q7]
      exact vc_Mo_shortest_21_6 (v_iv (n_v vs 1)) (v_iv (n_v vs 2)) (v_iv (n_v vs 3)) (v_iv (n_v vs 9)) (w_fi ws (n_v vs 0) 31) (w_ei ws (w_ar ws (n_v vs 0) 33)) (w_ei ws (w_ar ws (n_v vs 0) 34)) (w_fi ws (n_v vs 0) 32) (w_ei ws (w_ar ws (n_v vs 0) 35)) (w_ei ws (w_ar ws (n_v vs 0) 43)) (w_ei ws (w_ar ws (n_v vs 0) 44)) (w_ei ws (w_ar ws (n_v vs 0) 42)) (w_ei ws (w_ar ws (n_v vs 0) 48)) (w_fi ws (n_v vs 0) 49) (w_ei ws (w_ar ws (n_v vs 0) 46)) (w_fi ws (n_v vs 0) 45) k1 k2 k3 k9 f9 kz_0_31 kz_0_32 kz_0_45 kz_0_49
  have nf7 : fc_1 PRD (20, [4, 6, 7, 9, 12, 15], [60, 3, 7, 132, 31, 32, 49, 33, 34, 35, 43, 44, 42, 48]) ws (vs ++ [Value.int x]) := by
    refine ⟨nf_inA hl rfl, sgq_1468 ?_⟩
    · show NXT (w_fi ws (n_v (vs ++ [Value.int x]) 4) 31) (w_fi ws (n_v (vs ++ [Value.int x]) 4) 32) (w_fi ws (n_v (vs ++ [Value.int x]) 4) 49) (w_ei ws (w_ar ws (n_v (vs ++ [Value.int x]) 4) 33)) (w_ei ws (w_ar ws (n_v (vs ++ [Value.int x]) 4) 34)) (w_ei ws (w_ar ws (n_v (vs ++ [Value.int x]) 4) 35)) (w_ei ws (w_ar ws (n_v (vs ++ [Value.int x]) 4) 43)) (w_ei ws (w_ar ws (n_v (vs ++ [Value.int x]) 4) 44)) (w_ei ws (w_ar ws (n_v (vs ++ [Value.int x]) 4) 42)) (w_ei ws (w_ar ws (n_v (vs ++ [Value.int x]) 4) 48)) (v_iv (n_v (vs ++ [Value.int x]) 6)) (v_iv (n_v (vs ++ [Value.int x]) 7)) (v_iv (n_v (vs ++ [Value.int x]) 9)) (v_iv (n_v (vs ++ [Value.int x]) 12)) (v_iv (n_v (vs ++ [Value.int x]) 15))
      simp only [e_4, e_6, e_7, e_9, e_12, e_15, q4, q6, q7]
      exact vc_Mo_shortest_21_7 (v_iv (n_v vs 2)) (v_iv (n_v vs 3)) (v_iv (n_v vs 9)) (v_iv (n_v vs 11)) (v_iv (n_v vs 12)) (v_iv (n_v vs 13)) (v_iv (n_v vs 14)) (v_iv (n_v vs 15)) (w_fi ws (n_v vs 0) 31) (w_ei ws (w_ar ws (n_v vs 0) 33)) (w_ei ws (w_ar ws (n_v vs 0) 34)) (w_fi ws (n_v vs 0) 32) (w_ei ws (w_ar ws (n_v vs 0) 35)) (w_ei ws (w_ar ws (n_v vs 0) 43)) (w_ei ws (w_ar ws (n_v vs 0) 44)) (w_ei ws (w_ar ws (n_v vs 0) 42)) (w_ei ws (w_ar ws (n_v vs 0) 48)) (w_fi ws (n_v vs 0) 49) k2 k3 k9 k12 k13 k15 d0 g1 kz_0_31 kz_0_32 kz_0_49
  have nf8 : fc_1 PRD (20, [9, 6], [50, 0, 0, 7, 2, 1, 0, 1, 1]) ws (vs ++ [Value.int x]) := by
    refine ⟨nf_inA hl rfl, sgq_406 ?_⟩
    · show v_iv (n_v (vs ++ [Value.int x]) 9) ≠ v_iv (n_v (vs ++ [Value.int x]) 6)
      simp only [e_6, e_9, q6]
      exact vc_Mo_shortest_21_8 (v_iv (n_v vs 2)) (v_iv (n_v vs 9)) k2 k9 f2
  have nf9 : fc_1 PRD (20, [15, 4], [30, -1, 1, 0, 0, -1, 1, 31]) ws (vs ++ [Value.int x]) := by
    refine ⟨nf_inA hl rfl, sgq_553 ?_⟩
    · show 1 * v_iv (n_v (vs ++ [Value.int x]) 15) + ((-1) * w_fi ws (n_v (vs ++ [Value.int x]) 4) 31 + 0) ≤ (-1)
      simp only [e_4, e_15, q4]
      exact vc_Mo_shortest_21_9 (v_iv (n_v vs 13)) (v_iv (n_v vs 15)) (w_fi ws (n_v vs 0) 31) k13 k15 d0 g1 kz_0_31
  have nf10 : fc_1 PRD (20, [4, 16], [30, 62, 1, 1, 45, 1, 0, 0]) ws (vs ++ [Value.int x]) := by
    refine ⟨nf_inA hl rfl, sgq_1461 ?_⟩
    · show 1 * w_fi ws (n_v (vs ++ [Value.int x]) 4) 45 + (1 * v_iv (n_v (vs ++ [Value.int x]) 16) + 0) ≤ 62
      simp only [e_4, e_16, q4]
      exact vc_Mo_shortest_21_10 (v_iv (n_v vs 11)) (w_fi ws (n_v vs 0) 45) (v_iv (Value.int x)) k11 f10 f11 kz_0_45 ex2
  have nf11 : fc_1 PRD (20, [4, 16], [30, -62, -1, 1, 45, -1, 0, 0]) ws (vs ++ [Value.int x]) := by
    refine ⟨nf_inA hl rfl, sgq_1462 ?_⟩
    · show (-1) * w_fi ws (n_v (vs ++ [Value.int x]) 4) 45 + ((-1) * v_iv (n_v (vs ++ [Value.int x]) 16) + 0) ≤ (-62)
      simp only [e_4, e_16, q4]
      exact vc_Mo_shortest_21_11 (v_iv (n_v vs 11)) (w_fi ws (n_v vs 0) 45) (v_iv (Value.int x)) k11 f10 f11 kz_0_45 ex2
  have nf12 : fc_1 PRD (24, [0, 4], []) ws (vs ++ [Value.int x]) := by
    refine ⟨nf_inA hl rfl, sgq_5 ?_⟩
    · show n_v (vs ++ [Value.int x]) 0 = n_v (vs ++ [Value.int x]) 4
      first | rfl | simp only [e_0, e_4, q4, q5, q6, q7]
  have nf13 : fc_1 PRD (24, [1, 5], []) ws (vs ++ [Value.int x]) := by
    refine ⟨nf_inA hl rfl, sgq_5 ?_⟩
    · show n_v (vs ++ [Value.int x]) 1 = n_v (vs ++ [Value.int x]) 5
      first | rfl | simp only [e_1, e_5, q4, q5, q6, q7]
  have nf14 : fc_1 PRD (24, [2, 6], []) ws (vs ++ [Value.int x]) := by
    refine ⟨nf_inA hl rfl, sgq_5 ?_⟩
    · show n_v (vs ++ [Value.int x]) 2 = n_v (vs ++ [Value.int x]) 6
      first | rfl | simp only [e_2, e_6, q4, q5, q6, q7]
  have nf15 : fc_1 PRD (24, [3, 7], []) ws (vs ++ [Value.int x]) := by
    refine ⟨nf_inA hl rfl, sgq_5 ?_⟩
    · show n_v (vs ++ [Value.int x]) 3 = n_v (vs ++ [Value.int x]) 7
      first | rfl | simp only [e_3, e_7, q4, q5, q6, q7]
  obtain ⟨x0, e0, _, _⟩ := tv_int t11 rfl
  have e1 : v_iv (n_v vs 11) = x0.toInt := by rw [e0]; rfl
  have ho : sy_ofs (vs ++ [Value.int x]) (16, 11, 0, 0) := by
    refine ⟨x, x0, by rw [List.getElem?_append_right (by rw [hl]; decide), hl]; rfl, ?_, ?_, ?_⟩
    · rw [List.getElem?_append_left (by rw [hl]; decide)]; exact n_v_some (by rw [hl]; decide) e0
    · show x0.toInt + 0 ≤ x.toInt; omega
    · show x.toInt ≤ x0.toInt + 0; omega
  exact ⟨(fun _ h => (by cases h)), [Value.int x], ag_one hx, List.forall_mem_cons.mpr ⟨⟨show (20 : Nat) < 100 from by decide, nf0⟩, List.forall_mem_cons.mpr ⟨⟨show (20 : Nat) < 100 from by decide, nf1⟩, List.forall_mem_cons.mpr ⟨⟨show (20 : Nat) < 100 from by decide, nf2⟩, List.forall_mem_cons.mpr ⟨⟨show (20 : Nat) < 100 from by decide, nf3⟩, List.forall_mem_cons.mpr ⟨⟨show (20 : Nat) < 100 from by decide, nf4⟩, List.forall_mem_cons.mpr ⟨⟨show (20 : Nat) < 100 from by decide, nf5⟩, List.forall_mem_cons.mpr ⟨⟨show (20 : Nat) < 100 from by decide, nf6⟩, List.forall_mem_cons.mpr ⟨⟨show (20 : Nat) < 100 from by decide, nf7⟩, List.forall_mem_cons.mpr ⟨⟨show (20 : Nat) < 100 from by decide, nf8⟩, List.forall_mem_cons.mpr ⟨⟨show (20 : Nat) < 100 from by decide, nf9⟩, List.forall_mem_cons.mpr ⟨⟨show (20 : Nat) < 100 from by decide, nf10⟩, List.forall_mem_cons.mpr ⟨⟨show (20 : Nat) < 100 from by decide, nf11⟩, List.forall_mem_cons.mpr ⟨⟨show (24 : Nat) < 100 from by decide, nf12⟩, List.forall_mem_cons.mpr ⟨⟨show (24 : Nat) < 100 from by decide, nf13⟩, List.forall_mem_cons.mpr ⟨⟨show (24 : Nat) < 100 from by decide, nf14⟩, List.forall_mem_cons.mpr ⟨⟨show (24 : Nat) < 100 from by decide, nf15⟩, (fun _ h => (by cases h))⟩⟩⟩⟩⟩⟩⟩⟩⟩⟩⟩⟩⟩⟩⟩⟩, List.forall_mem_cons.mpr ⟨ho, (fun _ h => (by cases h))⟩⟩
def o_Mo_shortest_22 : or_T := (292, 15, [(0, (2, 0, 0, [165])), (1, (0, 0, 24, [])), (2, (0, 0, 24, [])), (3, (0, 0, 1, [])), (4, (2, 0, 0, [165])), (5, (0, 0, 24, [])), (6, (0, 0, 24, [])), (7, (0, 0, 1, [])), (9, (0, 0, 24, [])), (10, (0, -1, 24, [])), (11, (0, -1, -1, [])), (12, (0, -2, 61, [])), (13, (2, 0, 0, [191])), (14, (0, 0, 30, []))], [(9, [14, 4], [45]), (9, [13, 4], [46]), (8, [11], [2]), (20, [4], [60, 2, 2, 75, 31, 32, 33, 34]), (20, [4], [60, 1, 2, 122, 32, 35, 43]), (20, [5, 4], [30, -1, 1, 0, 0, -1, 1, 31]), (20, [6, 4], [30, -1, 1, 0, 0, -1, 1, 31]), (20, [4, 5, 6, 7], [60, 3, 6, 124, 31, 32, 49, 33, 34, 43, 44, 42, 48]), (20, [4, 5, 6, 7], [60, 2, 6, 134, 32, 49, 33, 34, 43, 44, 42, 48]), (20, [4, 5, 6, 7, 9], [60, 4, 8, 131, 31, 32, 49, 45, 33, 34, 35, 43, 44, 42, 48, 46]), (20, [4, 6, 7, 9, 10, 11], [60, 3, 7, 132, 31, 32, 49, 33, 34, 35, 43, 44, 42, 48]), (20, [9, 6], [50, 0, 0, 7, 2, 1, 0, 1, 1]), (20, [11, 4], [30, -1, 1, 0, 0, -1, 1, 31]), (20, [4, 12], [30, 62, 1, 1, 45, 1, 0, 0]), (20, [4, 12], [30, -62, -1, 1, 45, -1, 0, 0]), (24, [0, 4], []), (24, [1, 5], []), (24, [2, 6], []), (24, [3, 7], [])], [(14, (0, 1, 29, [])), (10, (0, 0, 24, []))], [], [], [], [(1, 5, -4294967296, 0), (2, 6, -4294967296, 0), (3, 7, -4294967296, 0), (5, 1, -4294967296, 0), (6, 2, -4294967296, 0), (7, 3, -4294967296, 0)])
theorem oo_Mo_shortest_22 {kA : Nat → ClassId} : or_ok PRD kA GG o_Mo_shortest_22 := by
  refine or_mk fun A ta ws vs hD hth hl => ?_
  intro t0 r0 t1 k1 t2 k2 t3 k3 t4 r4 t5 k5 t6 k6 t7 k7 t9 k9 t10 k10 t11 k11 t12 k12 t13 r13 t14 k14 d0 d1 d2 d3 d4 d5 f0 f1 f2 f3 f4 f5 f6 f7 f8 f9 f10 f11 f12 f13 f14 f15 f16 f17 f18
  replace f0 := shm_741 f0
  replace f1 := shm_737 f1
  replace f2 := shm_39 f2
  replace f3 := shm_575 f3
  replace f4 := shm_1455 f4
  replace f5 := shm_553 f5
  replace f6 := shm_553 f6
  replace f7 := shm_549 f7
  replace f8 := shm_1459 f8
  replace f9 := shm_1467 f9
  replace f10 := shm_1468 f10
  replace f11 := shm_406 f11
  replace f12 := shm_553 f12
  replace f13 := shm_1461 f13
  replace f14 := shm_1462 f14
  replace f15 := shm_5 f15
  replace f16 := shm_5 f16
  replace f17 := shm_5 f17
  replace f18 := shm_5 f18
  have q4 : n_v vs 4 = n_v vs 0 := f15.symm
  have q5 : n_v vs 5 = n_v vs 1 := f16.symm
  have q6 : n_v vs 6 = n_v vs 2 := f17.symm
  have q7 : n_v vs 7 = n_v vs 3 := f18.symm
  simp only [q4, q5, q6, q7] at f0 f1 f3 f4 f5 f6 f7 f8 f9 f10 f11 f12 f13 f14
  have cr_0_33 := fdq_117 hD hth r0
  have cr_0_34 := fdq_118 hD hth r0
  have cr_0_35 := fdq_132 hD hth r0
  have cr_0_42 := fdq_136 hD hth r0
  have cr_0_43 := fdq_137 hD hth r0
  have cr_0_44 := fdq_138 hD hth r0
  have cr_0_46 := fdq_190 hD hth r0
  have cr_0_48 := fdq_144 hD hth r0
  have ad_13 : v_ad (n_v vs 13) = w_ar ws (n_v vs 0) 46 := congrArg v_ad f1
  have g0 : v_iv (n_v vs 14) = w_fi ws (n_v vs 0) 45 := congrArg v_iv f0
  have hK_0_33 := elq_60 hD hth cr_0_33
  have hK_0_34 := elq_61 hD hth cr_0_34
  have hK_0_35 := elq_72 hD hth cr_0_35
  have hK_0_42 := elq_75 hD hth cr_0_42
  have hK_0_43 := elq_76 hD hth cr_0_43
  have hK_0_44 := elq_77 hD hth cr_0_44
  have hK_0_46 := elq_114 hD hth cr_0_46
  have hK_0_48 := elq_82 hD hth cr_0_48
  have kz_0_31 := fdq_145 hD hth r0
  have kz_0_32 := fdq_140 hD hth r0
  have kz_0_45 := fdq_191 hD hth r0
  have kz_0_49 := fdq_146 hD hth r0
  first | have hW := wlk_bd ‹TGI _ _ _ _ _ _ _ _ _ _ _ _› ‹TG5 _ _ _ _ _ _ _ _ _ _ _› ‹WLK _ _ _ _ _ _ _ _ _ _ _ _ _ _ _ _› | skip
  first | have hX := nxt_some ‹UA _ _ _› ‹TGI _ _ _ _ _ _ _ _ _ _ _ _› ‹TG5 _ _ _ _ _ _ _ _ _ _ _› ‹WLK _ _ _ _ _ _ _ _ _ _ _ _ _ _ _ _› (by assumption) ‹NXT _ _ _ _ _ _ _ _ _ _ _ _ _ _ _› (by omega) | skip
  first | have hX1 := hX.1 | skip
  first | have hX2 := hX.2.1 | skip
  have rf14 : tv_ok ta (0, 1, 29, []) (n_v vs 14) := tv_in t14 (by first | omega | grind) (by first | omega | grind)
  have rf10 : tv_ok ta (0, 0, 24, []) (n_v vs 10) := tv_in t10 (by first | omega | grind) (by first | omega | grind)
  refine ⟨List.forall_mem_cons.mpr ⟨rf14, List.forall_mem_cons.mpr ⟨rf10, (fun _ h => (by cases h))⟩⟩, [], trivial, ?_, (fun _ h => (by cases h))⟩
  rw [List.append_nil]
  exact (fun _ h => (by cases h))
set_option maxHeartbeats 4000000 in
theorem vc_Mo_shortest_23_0 (pt_0 : Int → Int) (ph_0 : Int → Int) (pn_0 : Int) (pm_0 : Int) (alive_0 : Int → Int) (drawnEdge_0 : Int → Int) (pieceOf_0 : Int → Int) (drawnNode_0 : Int → Int) (toGoal_0 : Int → Int) (onlyPiece_0 : Int) (wayMany_1 : Int) (pt_1 : Int → Int) (ph_1 : Int → Int) (pn_1 : Int) (pm_1 : Int) (alive_1 : Int → Int) (drawnEdge_1 : Int → Int) (pieceOf_1 : Int → Int) (drawnNode_1 : Int → Int) (toGoal_1 : Int → Int) (onlyPiece_1 : Int) (pt_2 : Int → Int) (ph_2 : Int → Int) (pn_2 : Int) (pm_2 : Int) (alive_2 : Int → Int) (drawnEdge_2 : Int → Int) (pieceOf_2 : Int → Int) (drawnNode_2 : Int → Int) (toGoal_2 : Int → Int) (onlyPiece_2 : Int) (wayMany_2 : Int) (way_0 : Int → Int) (way_1 : Int → Int) (f30 : GOK (pn_2) (pm_2) (pt_2) (ph_2)) (fe_0_31_1 : pn_0 = pn_1) (fe_0_32_1 : pm_0 = pm_1) (fe_0_49_1 : onlyPiece_0 = onlyPiece_1) (fe_0_31_2 : pn_1 = pn_2) (fe_0_32_2 : pm_1 = pm_2) (fe_0_45_2 : wayMany_1 = wayMany_2) (fe_0_49_2 : onlyPiece_1 = onlyPiece_2) (hE_0_33_1 : ∀ j : Int, pt_0 j = pt_1 j) (hE_0_33_2 : ∀ j : Int, pt_1 j = pt_2 j) (hE_0_34_1 : ∀ j : Int, ph_0 j = ph_1 j) (hE_0_34_2 : ∀ j : Int, ph_1 j = ph_2 j) (hE_0_35_1 : ∀ j : Int, alive_0 j = alive_1 j) (hE_0_35_2 : ∀ j : Int, alive_1 j = alive_2 j) (hE_0_42_1 : ∀ j : Int, drawnNode_0 j = drawnNode_1 j) (hE_0_42_2 : ∀ j : Int, drawnNode_1 j = drawnNode_2 j) (hE_0_43_1 : ∀ j : Int, drawnEdge_0 j = drawnEdge_1 j) (hE_0_43_2 : ∀ j : Int, drawnEdge_1 j = drawnEdge_2 j) (hE_0_44_1 : ∀ j : Int, pieceOf_0 j = pieceOf_1 j) (hE_0_44_2 : ∀ j : Int, pieceOf_1 j = pieceOf_2 j) (hE_0_46_1 : ∀ j : Int, way_0 j = way_1 j) (hE_0_48_1 : ∀ j : Int, toGoal_0 j = toGoal_1 j) (hE_0_48_2 : ∀ j : Int, toGoal_1 j = toGoal_2 j) (kz_0_31 : 0 ≤ pn_0 ∧ pn_0 ≤ 25) (kz_0_32 : 0 ≤ pm_0 ∧ pm_0 ≤ 80) (kz_0_49 : (-1) ≤ onlyPiece_0 ∧ onlyPiece_0 ≤ 79) : GOK (pn_0) (pm_0) (pt_0) (ph_0) := by
  subst fe_0_31_1
  subst fe_0_32_1
  subst fe_0_49_1
  subst fe_0_31_2
  subst fe_0_32_2
  subst fe_0_45_2
  subst fe_0_49_2
  have e_hE_0_33_1 := funext hE_0_33_1; subst e_hE_0_33_1
  have e_hE_0_33_2 := funext hE_0_33_2; subst e_hE_0_33_2
  have e_hE_0_34_1 := funext hE_0_34_1; subst e_hE_0_34_1
  have e_hE_0_34_2 := funext hE_0_34_2; subst e_hE_0_34_2
  have e_hE_0_35_1 := funext hE_0_35_1; subst e_hE_0_35_1
  have e_hE_0_35_2 := funext hE_0_35_2; subst e_hE_0_35_2
  have e_hE_0_42_1 := funext hE_0_42_1; subst e_hE_0_42_1
  have e_hE_0_42_2 := funext hE_0_42_2; subst e_hE_0_42_2
  have e_hE_0_43_1 := funext hE_0_43_1; subst e_hE_0_43_1
  have e_hE_0_43_2 := funext hE_0_43_2; subst e_hE_0_43_2
  have e_hE_0_44_1 := funext hE_0_44_1; subst e_hE_0_44_1
  have e_hE_0_44_2 := funext hE_0_44_2; subst e_hE_0_44_2
  have e_hE_0_46_1 := funext hE_0_46_1; subst e_hE_0_46_1
  have e_hE_0_48_1 := funext hE_0_48_1; subst e_hE_0_48_1
  have e_hE_0_48_2 := funext hE_0_48_2; subst e_hE_0_48_2
  first | assumption
set_option maxHeartbeats 4000000 in
theorem vc_Mo_shortest_23_1 (pt_0 : Int → Int) (ph_0 : Int → Int) (pn_0 : Int) (pm_0 : Int) (alive_0 : Int → Int) (drawnEdge_0 : Int → Int) (pieceOf_0 : Int → Int) (drawnNode_0 : Int → Int) (toGoal_0 : Int → Int) (onlyPiece_0 : Int) (wayMany_1 : Int) (pt_1 : Int → Int) (ph_1 : Int → Int) (pn_1 : Int) (pm_1 : Int) (alive_1 : Int → Int) (drawnEdge_1 : Int → Int) (pieceOf_1 : Int → Int) (drawnNode_1 : Int → Int) (toGoal_1 : Int → Int) (onlyPiece_1 : Int) (pt_2 : Int → Int) (ph_2 : Int → Int) (pn_2 : Int) (pm_2 : Int) (alive_2 : Int → Int) (drawnEdge_2 : Int → Int) (pieceOf_2 : Int → Int) (drawnNode_2 : Int → Int) (toGoal_2 : Int → Int) (onlyPiece_2 : Int) (wayMany_2 : Int) (way_0 : Int → Int) (way_1 : Int → Int) (f31 : UA (pm_2) (alive_2) (drawnEdge_2)) (fe_0_31_1 : pn_0 = pn_1) (fe_0_32_1 : pm_0 = pm_1) (fe_0_49_1 : onlyPiece_0 = onlyPiece_1) (fe_0_31_2 : pn_1 = pn_2) (fe_0_32_2 : pm_1 = pm_2) (fe_0_45_2 : wayMany_1 = wayMany_2) (fe_0_49_2 : onlyPiece_1 = onlyPiece_2) (hE_0_33_1 : ∀ j : Int, pt_0 j = pt_1 j) (hE_0_33_2 : ∀ j : Int, pt_1 j = pt_2 j) (hE_0_34_1 : ∀ j : Int, ph_0 j = ph_1 j) (hE_0_34_2 : ∀ j : Int, ph_1 j = ph_2 j) (hE_0_35_1 : ∀ j : Int, alive_0 j = alive_1 j) (hE_0_35_2 : ∀ j : Int, alive_1 j = alive_2 j) (hE_0_42_1 : ∀ j : Int, drawnNode_0 j = drawnNode_1 j) (hE_0_42_2 : ∀ j : Int, drawnNode_1 j = drawnNode_2 j) (hE_0_43_1 : ∀ j : Int, drawnEdge_0 j = drawnEdge_1 j) (hE_0_43_2 : ∀ j : Int, drawnEdge_1 j = drawnEdge_2 j) (hE_0_44_1 : ∀ j : Int, pieceOf_0 j = pieceOf_1 j) (hE_0_44_2 : ∀ j : Int, pieceOf_1 j = pieceOf_2 j) (hE_0_46_1 : ∀ j : Int, way_0 j = way_1 j) (hE_0_48_1 : ∀ j : Int, toGoal_0 j = toGoal_1 j) (hE_0_48_2 : ∀ j : Int, toGoal_1 j = toGoal_2 j) (kz_0_31 : 0 ≤ pn_0 ∧ pn_0 ≤ 25) (kz_0_32 : 0 ≤ pm_0 ∧ pm_0 ≤ 80) (kz_0_49 : (-1) ≤ onlyPiece_0 ∧ onlyPiece_0 ≤ 79) : UA (pm_0) (alive_0) (drawnEdge_0) := by
  subst fe_0_31_1
  subst fe_0_32_1
  subst fe_0_49_1
  subst fe_0_31_2
  subst fe_0_32_2
  subst fe_0_45_2
  subst fe_0_49_2
  have e_hE_0_33_1 := funext hE_0_33_1; subst e_hE_0_33_1
  have e_hE_0_33_2 := funext hE_0_33_2; subst e_hE_0_33_2
  have e_hE_0_34_1 := funext hE_0_34_1; subst e_hE_0_34_1
  have e_hE_0_34_2 := funext hE_0_34_2; subst e_hE_0_34_2
  have e_hE_0_35_1 := funext hE_0_35_1; subst e_hE_0_35_1
  have e_hE_0_35_2 := funext hE_0_35_2; subst e_hE_0_35_2
  have e_hE_0_42_1 := funext hE_0_42_1; subst e_hE_0_42_1
  have e_hE_0_42_2 := funext hE_0_42_2; subst e_hE_0_42_2
  have e_hE_0_43_1 := funext hE_0_43_1; subst e_hE_0_43_1
  have e_hE_0_43_2 := funext hE_0_43_2; subst e_hE_0_43_2
  have e_hE_0_44_1 := funext hE_0_44_1; subst e_hE_0_44_1
  have e_hE_0_44_2 := funext hE_0_44_2; subst e_hE_0_44_2
  have e_hE_0_46_1 := funext hE_0_46_1; subst e_hE_0_46_1
  have e_hE_0_48_1 := funext hE_0_48_1; subst e_hE_0_48_1
  have e_hE_0_48_2 := funext hE_0_48_2; subst e_hE_0_48_2
  first | assumption
set_option maxHeartbeats 4000000 in
theorem vc_Mo_shortest_23_2 (x1 : Int) (pt_0 : Int → Int) (ph_0 : Int → Int) (pn_0 : Int) (pm_0 : Int) (alive_0 : Int → Int) (drawnEdge_0 : Int → Int) (pieceOf_0 : Int → Int) (drawnNode_0 : Int → Int) (toGoal_0 : Int → Int) (onlyPiece_0 : Int) (wayMany_1 : Int) (pt_1 : Int → Int) (ph_1 : Int → Int) (pn_1 : Int) (pm_1 : Int) (alive_1 : Int → Int) (drawnEdge_1 : Int → Int) (pieceOf_1 : Int → Int) (drawnNode_1 : Int → Int) (toGoal_1 : Int → Int) (onlyPiece_1 : Int) (pt_2 : Int → Int) (ph_2 : Int → Int) (pn_2 : Int) (pm_2 : Int) (alive_2 : Int → Int) (drawnEdge_2 : Int → Int) (pieceOf_2 : Int → Int) (drawnNode_2 : Int → Int) (toGoal_2 : Int → Int) (onlyPiece_2 : Int) (wayMany_2 : Int) (way_0 : Int → Int) (way_1 : Int → Int) (k1 : 0 ≤ x1 ∧ x1 ≤ 24) (f32 : 1 * x1 + ((-1) * pn_2 + 0) ≤ (-1)) (fe_0_31_1 : pn_0 = pn_1) (fe_0_32_1 : pm_0 = pm_1) (fe_0_49_1 : onlyPiece_0 = onlyPiece_1) (fe_0_31_2 : pn_1 = pn_2) (fe_0_32_2 : pm_1 = pm_2) (fe_0_45_2 : wayMany_1 = wayMany_2) (fe_0_49_2 : onlyPiece_1 = onlyPiece_2) (hE_0_33_1 : ∀ j : Int, pt_0 j = pt_1 j) (hE_0_33_2 : ∀ j : Int, pt_1 j = pt_2 j) (hE_0_34_1 : ∀ j : Int, ph_0 j = ph_1 j) (hE_0_34_2 : ∀ j : Int, ph_1 j = ph_2 j) (hE_0_35_1 : ∀ j : Int, alive_0 j = alive_1 j) (hE_0_35_2 : ∀ j : Int, alive_1 j = alive_2 j) (hE_0_42_1 : ∀ j : Int, drawnNode_0 j = drawnNode_1 j) (hE_0_42_2 : ∀ j : Int, drawnNode_1 j = drawnNode_2 j) (hE_0_43_1 : ∀ j : Int, drawnEdge_0 j = drawnEdge_1 j) (hE_0_43_2 : ∀ j : Int, drawnEdge_1 j = drawnEdge_2 j) (hE_0_44_1 : ∀ j : Int, pieceOf_0 j = pieceOf_1 j) (hE_0_44_2 : ∀ j : Int, pieceOf_1 j = pieceOf_2 j) (hE_0_46_1 : ∀ j : Int, way_0 j = way_1 j) (hE_0_48_1 : ∀ j : Int, toGoal_0 j = toGoal_1 j) (hE_0_48_2 : ∀ j : Int, toGoal_1 j = toGoal_2 j) (kz_0_31 : 0 ≤ pn_0 ∧ pn_0 ≤ 25) (kz_0_32 : 0 ≤ pm_0 ∧ pm_0 ≤ 80) (kz_0_49 : (-1) ≤ onlyPiece_0 ∧ onlyPiece_0 ≤ 79) : 1 * x1 + ((-1) * pn_0 + 0) ≤ (-1) := by
  subst fe_0_31_1
  subst fe_0_32_1
  subst fe_0_49_1
  subst fe_0_31_2
  subst fe_0_32_2
  subst fe_0_45_2
  subst fe_0_49_2
  have e_hE_0_33_1 := funext hE_0_33_1; subst e_hE_0_33_1
  have e_hE_0_33_2 := funext hE_0_33_2; subst e_hE_0_33_2
  have e_hE_0_34_1 := funext hE_0_34_1; subst e_hE_0_34_1
  have e_hE_0_34_2 := funext hE_0_34_2; subst e_hE_0_34_2
  have e_hE_0_35_1 := funext hE_0_35_1; subst e_hE_0_35_1
  have e_hE_0_35_2 := funext hE_0_35_2; subst e_hE_0_35_2
  have e_hE_0_42_1 := funext hE_0_42_1; subst e_hE_0_42_1
  have e_hE_0_42_2 := funext hE_0_42_2; subst e_hE_0_42_2
  have e_hE_0_43_1 := funext hE_0_43_1; subst e_hE_0_43_1
  have e_hE_0_43_2 := funext hE_0_43_2; subst e_hE_0_43_2
  have e_hE_0_44_1 := funext hE_0_44_1; subst e_hE_0_44_1
  have e_hE_0_44_2 := funext hE_0_44_2; subst e_hE_0_44_2
  have e_hE_0_46_1 := funext hE_0_46_1; subst e_hE_0_46_1
  have e_hE_0_48_1 := funext hE_0_48_1; subst e_hE_0_48_1
  have e_hE_0_48_2 := funext hE_0_48_2; subst e_hE_0_48_2
  first | omega
set_option maxHeartbeats 4000000 in
theorem vc_Mo_shortest_23_3 (x2 : Int) (pt_0 : Int → Int) (ph_0 : Int → Int) (pn_0 : Int) (pm_0 : Int) (alive_0 : Int → Int) (drawnEdge_0 : Int → Int) (pieceOf_0 : Int → Int) (drawnNode_0 : Int → Int) (toGoal_0 : Int → Int) (onlyPiece_0 : Int) (wayMany_1 : Int) (pt_1 : Int → Int) (ph_1 : Int → Int) (pn_1 : Int) (pm_1 : Int) (alive_1 : Int → Int) (drawnEdge_1 : Int → Int) (pieceOf_1 : Int → Int) (drawnNode_1 : Int → Int) (toGoal_1 : Int → Int) (onlyPiece_1 : Int) (pt_2 : Int → Int) (ph_2 : Int → Int) (pn_2 : Int) (pm_2 : Int) (alive_2 : Int → Int) (drawnEdge_2 : Int → Int) (pieceOf_2 : Int → Int) (drawnNode_2 : Int → Int) (toGoal_2 : Int → Int) (onlyPiece_2 : Int) (wayMany_2 : Int) (way_0 : Int → Int) (way_1 : Int → Int) (k2 : 0 ≤ x2 ∧ x2 ≤ 24) (f33 : 1 * x2 + ((-1) * pn_2 + 0) ≤ (-1)) (fe_0_31_1 : pn_0 = pn_1) (fe_0_32_1 : pm_0 = pm_1) (fe_0_49_1 : onlyPiece_0 = onlyPiece_1) (fe_0_31_2 : pn_1 = pn_2) (fe_0_32_2 : pm_1 = pm_2) (fe_0_45_2 : wayMany_1 = wayMany_2) (fe_0_49_2 : onlyPiece_1 = onlyPiece_2) (hE_0_33_1 : ∀ j : Int, pt_0 j = pt_1 j) (hE_0_33_2 : ∀ j : Int, pt_1 j = pt_2 j) (hE_0_34_1 : ∀ j : Int, ph_0 j = ph_1 j) (hE_0_34_2 : ∀ j : Int, ph_1 j = ph_2 j) (hE_0_35_1 : ∀ j : Int, alive_0 j = alive_1 j) (hE_0_35_2 : ∀ j : Int, alive_1 j = alive_2 j) (hE_0_42_1 : ∀ j : Int, drawnNode_0 j = drawnNode_1 j) (hE_0_42_2 : ∀ j : Int, drawnNode_1 j = drawnNode_2 j) (hE_0_43_1 : ∀ j : Int, drawnEdge_0 j = drawnEdge_1 j) (hE_0_43_2 : ∀ j : Int, drawnEdge_1 j = drawnEdge_2 j) (hE_0_44_1 : ∀ j : Int, pieceOf_0 j = pieceOf_1 j) (hE_0_44_2 : ∀ j : Int, pieceOf_1 j = pieceOf_2 j) (hE_0_46_1 : ∀ j : Int, way_0 j = way_1 j) (hE_0_48_1 : ∀ j : Int, toGoal_0 j = toGoal_1 j) (hE_0_48_2 : ∀ j : Int, toGoal_1 j = toGoal_2 j) (kz_0_31 : 0 ≤ pn_0 ∧ pn_0 ≤ 25) (kz_0_32 : 0 ≤ pm_0 ∧ pm_0 ≤ 80) (kz_0_49 : (-1) ≤ onlyPiece_0 ∧ onlyPiece_0 ≤ 79) : 1 * x2 + ((-1) * pn_0 + 0) ≤ (-1) := by
  subst fe_0_31_1
  subst fe_0_32_1
  subst fe_0_49_1
  subst fe_0_31_2
  subst fe_0_32_2
  subst fe_0_45_2
  subst fe_0_49_2
  have e_hE_0_33_1 := funext hE_0_33_1; subst e_hE_0_33_1
  have e_hE_0_33_2 := funext hE_0_33_2; subst e_hE_0_33_2
  have e_hE_0_34_1 := funext hE_0_34_1; subst e_hE_0_34_1
  have e_hE_0_34_2 := funext hE_0_34_2; subst e_hE_0_34_2
  have e_hE_0_35_1 := funext hE_0_35_1; subst e_hE_0_35_1
  have e_hE_0_35_2 := funext hE_0_35_2; subst e_hE_0_35_2
  have e_hE_0_42_1 := funext hE_0_42_1; subst e_hE_0_42_1
  have e_hE_0_42_2 := funext hE_0_42_2; subst e_hE_0_42_2
  have e_hE_0_43_1 := funext hE_0_43_1; subst e_hE_0_43_1
  have e_hE_0_43_2 := funext hE_0_43_2; subst e_hE_0_43_2
  have e_hE_0_44_1 := funext hE_0_44_1; subst e_hE_0_44_1
  have e_hE_0_44_2 := funext hE_0_44_2; subst e_hE_0_44_2
  have e_hE_0_46_1 := funext hE_0_46_1; subst e_hE_0_46_1
  have e_hE_0_48_1 := funext hE_0_48_1; subst e_hE_0_48_1
  have e_hE_0_48_2 := funext hE_0_48_2; subst e_hE_0_48_2
  first | omega
set_option maxHeartbeats 4000000 in
theorem vc_Mo_shortest_23_4 (x1 : Int) (x2 : Int) (x3 : Int) (pt_0 : Int → Int) (ph_0 : Int → Int) (pn_0 : Int) (pm_0 : Int) (alive_0 : Int → Int) (drawnEdge_0 : Int → Int) (pieceOf_0 : Int → Int) (drawnNode_0 : Int → Int) (toGoal_0 : Int → Int) (onlyPiece_0 : Int) (wayMany_1 : Int) (pt_1 : Int → Int) (ph_1 : Int → Int) (pn_1 : Int) (pm_1 : Int) (alive_1 : Int → Int) (drawnEdge_1 : Int → Int) (pieceOf_1 : Int → Int) (drawnNode_1 : Int → Int) (toGoal_1 : Int → Int) (onlyPiece_1 : Int) (pt_2 : Int → Int) (ph_2 : Int → Int) (pn_2 : Int) (pm_2 : Int) (alive_2 : Int → Int) (drawnEdge_2 : Int → Int) (pieceOf_2 : Int → Int) (drawnNode_2 : Int → Int) (toGoal_2 : Int → Int) (onlyPiece_2 : Int) (wayMany_2 : Int) (way_0 : Int → Int) (way_1 : Int → Int) (k1 : 0 ≤ x1 ∧ x1 ≤ 24) (k2 : 0 ≤ x2 ∧ x2 ≤ 24) (k3 : 0 ≤ x3 ∧ x3 ≤ 1) (f34 : TGI (pn_2) (pm_2) (onlyPiece_2) (pt_2) (ph_2) (drawnEdge_2) (pieceOf_2) (drawnNode_2) (toGoal_2) (x1) (x2) (x3)) (fe_0_31_1 : pn_0 = pn_1) (fe_0_32_1 : pm_0 = pm_1) (fe_0_49_1 : onlyPiece_0 = onlyPiece_1) (fe_0_31_2 : pn_1 = pn_2) (fe_0_32_2 : pm_1 = pm_2) (fe_0_45_2 : wayMany_1 = wayMany_2) (fe_0_49_2 : onlyPiece_1 = onlyPiece_2) (hE_0_33_1 : ∀ j : Int, pt_0 j = pt_1 j) (hE_0_33_2 : ∀ j : Int, pt_1 j = pt_2 j) (hE_0_34_1 : ∀ j : Int, ph_0 j = ph_1 j) (hE_0_34_2 : ∀ j : Int, ph_1 j = ph_2 j) (hE_0_35_1 : ∀ j : Int, alive_0 j = alive_1 j) (hE_0_35_2 : ∀ j : Int, alive_1 j = alive_2 j) (hE_0_42_1 : ∀ j : Int, drawnNode_0 j = drawnNode_1 j) (hE_0_42_2 : ∀ j : Int, drawnNode_1 j = drawnNode_2 j) (hE_0_43_1 : ∀ j : Int, drawnEdge_0 j = drawnEdge_1 j) (hE_0_43_2 : ∀ j : Int, drawnEdge_1 j = drawnEdge_2 j) (hE_0_44_1 : ∀ j : Int, pieceOf_0 j = pieceOf_1 j) (hE_0_44_2 : ∀ j : Int, pieceOf_1 j = pieceOf_2 j) (hE_0_46_1 : ∀ j : Int, way_0 j = way_1 j) (hE_0_48_1 : ∀ j : Int, toGoal_0 j = toGoal_1 j) (hE_0_48_2 : ∀ j : Int, toGoal_1 j = toGoal_2 j) (kz_0_31 : 0 ≤ pn_0 ∧ pn_0 ≤ 25) (kz_0_32 : 0 ≤ pm_0 ∧ pm_0 ≤ 80) (kz_0_49 : (-1) ≤ onlyPiece_0 ∧ onlyPiece_0 ≤ 79) : TGI (pn_0) (pm_0) (onlyPiece_0) (pt_0) (ph_0) (drawnEdge_0) (pieceOf_0) (drawnNode_0) (toGoal_0) (x1) (x2) (x3) := by
  subst fe_0_31_1
  subst fe_0_32_1
  subst fe_0_49_1
  subst fe_0_31_2
  subst fe_0_32_2
  subst fe_0_45_2
  subst fe_0_49_2
  have e_hE_0_33_1 := funext hE_0_33_1; subst e_hE_0_33_1
  have e_hE_0_33_2 := funext hE_0_33_2; subst e_hE_0_33_2
  have e_hE_0_34_1 := funext hE_0_34_1; subst e_hE_0_34_1
  have e_hE_0_34_2 := funext hE_0_34_2; subst e_hE_0_34_2
  have e_hE_0_35_1 := funext hE_0_35_1; subst e_hE_0_35_1
  have e_hE_0_35_2 := funext hE_0_35_2; subst e_hE_0_35_2
  have e_hE_0_42_1 := funext hE_0_42_1; subst e_hE_0_42_1
  have e_hE_0_42_2 := funext hE_0_42_2; subst e_hE_0_42_2
  have e_hE_0_43_1 := funext hE_0_43_1; subst e_hE_0_43_1
  have e_hE_0_43_2 := funext hE_0_43_2; subst e_hE_0_43_2
  have e_hE_0_44_1 := funext hE_0_44_1; subst e_hE_0_44_1
  have e_hE_0_44_2 := funext hE_0_44_2; subst e_hE_0_44_2
  have e_hE_0_46_1 := funext hE_0_46_1; subst e_hE_0_46_1
  have e_hE_0_48_1 := funext hE_0_48_1; subst e_hE_0_48_1
  have e_hE_0_48_2 := funext hE_0_48_2; subst e_hE_0_48_2
  first | assumption
set_option maxHeartbeats 4000000 in
theorem vc_Mo_shortest_23_5 (x1 : Int) (x2 : Int) (x3 : Int) (pt_0 : Int → Int) (ph_0 : Int → Int) (pn_0 : Int) (pm_0 : Int) (alive_0 : Int → Int) (drawnEdge_0 : Int → Int) (pieceOf_0 : Int → Int) (drawnNode_0 : Int → Int) (toGoal_0 : Int → Int) (onlyPiece_0 : Int) (wayMany_1 : Int) (pt_1 : Int → Int) (ph_1 : Int → Int) (pn_1 : Int) (pm_1 : Int) (alive_1 : Int → Int) (drawnEdge_1 : Int → Int) (pieceOf_1 : Int → Int) (drawnNode_1 : Int → Int) (toGoal_1 : Int → Int) (onlyPiece_1 : Int) (pt_2 : Int → Int) (ph_2 : Int → Int) (pn_2 : Int) (pm_2 : Int) (alive_2 : Int → Int) (drawnEdge_2 : Int → Int) (pieceOf_2 : Int → Int) (drawnNode_2 : Int → Int) (toGoal_2 : Int → Int) (onlyPiece_2 : Int) (wayMany_2 : Int) (way_0 : Int → Int) (way_1 : Int → Int) (k1 : 0 ≤ x1 ∧ x1 ≤ 24) (k2 : 0 ≤ x2 ∧ x2 ≤ 24) (k3 : 0 ≤ x3 ∧ x3 ≤ 1) (f35 : TG5 (pm_2) (onlyPiece_2) (pt_2) (ph_2) (drawnEdge_2) (pieceOf_2) (drawnNode_2) (toGoal_2) (x1) (x2) (x3)) (fe_0_31_1 : pn_0 = pn_1) (fe_0_32_1 : pm_0 = pm_1) (fe_0_49_1 : onlyPiece_0 = onlyPiece_1) (fe_0_31_2 : pn_1 = pn_2) (fe_0_32_2 : pm_1 = pm_2) (fe_0_45_2 : wayMany_1 = wayMany_2) (fe_0_49_2 : onlyPiece_1 = onlyPiece_2) (hE_0_33_1 : ∀ j : Int, pt_0 j = pt_1 j) (hE_0_33_2 : ∀ j : Int, pt_1 j = pt_2 j) (hE_0_34_1 : ∀ j : Int, ph_0 j = ph_1 j) (hE_0_34_2 : ∀ j : Int, ph_1 j = ph_2 j) (hE_0_35_1 : ∀ j : Int, alive_0 j = alive_1 j) (hE_0_35_2 : ∀ j : Int, alive_1 j = alive_2 j) (hE_0_42_1 : ∀ j : Int, drawnNode_0 j = drawnNode_1 j) (hE_0_42_2 : ∀ j : Int, drawnNode_1 j = drawnNode_2 j) (hE_0_43_1 : ∀ j : Int, drawnEdge_0 j = drawnEdge_1 j) (hE_0_43_2 : ∀ j : Int, drawnEdge_1 j = drawnEdge_2 j) (hE_0_44_1 : ∀ j : Int, pieceOf_0 j = pieceOf_1 j) (hE_0_44_2 : ∀ j : Int, pieceOf_1 j = pieceOf_2 j) (hE_0_46_1 : ∀ j : Int, way_0 j = way_1 j) (hE_0_48_1 : ∀ j : Int, toGoal_0 j = toGoal_1 j) (hE_0_48_2 : ∀ j : Int, toGoal_1 j = toGoal_2 j) (kz_0_31 : 0 ≤ pn_0 ∧ pn_0 ≤ 25) (kz_0_32 : 0 ≤ pm_0 ∧ pm_0 ≤ 80) (kz_0_49 : (-1) ≤ onlyPiece_0 ∧ onlyPiece_0 ≤ 79) : TG5 (pm_0) (onlyPiece_0) (pt_0) (ph_0) (drawnEdge_0) (pieceOf_0) (drawnNode_0) (toGoal_0) (x1) (x2) (x3) := by
  subst fe_0_31_1
  subst fe_0_32_1
  subst fe_0_49_1
  subst fe_0_31_2
  subst fe_0_32_2
  subst fe_0_45_2
  subst fe_0_49_2
  have e_hE_0_33_1 := funext hE_0_33_1; subst e_hE_0_33_1
  have e_hE_0_33_2 := funext hE_0_33_2; subst e_hE_0_33_2
  have e_hE_0_34_1 := funext hE_0_34_1; subst e_hE_0_34_1
  have e_hE_0_34_2 := funext hE_0_34_2; subst e_hE_0_34_2
  have e_hE_0_35_1 := funext hE_0_35_1; subst e_hE_0_35_1
  have e_hE_0_35_2 := funext hE_0_35_2; subst e_hE_0_35_2
  have e_hE_0_42_1 := funext hE_0_42_1; subst e_hE_0_42_1
  have e_hE_0_42_2 := funext hE_0_42_2; subst e_hE_0_42_2
  have e_hE_0_43_1 := funext hE_0_43_1; subst e_hE_0_43_1
  have e_hE_0_43_2 := funext hE_0_43_2; subst e_hE_0_43_2
  have e_hE_0_44_1 := funext hE_0_44_1; subst e_hE_0_44_1
  have e_hE_0_44_2 := funext hE_0_44_2; subst e_hE_0_44_2
  have e_hE_0_46_1 := funext hE_0_46_1; subst e_hE_0_46_1
  have e_hE_0_48_1 := funext hE_0_48_1; subst e_hE_0_48_1
  have e_hE_0_48_2 := funext hE_0_48_2; subst e_hE_0_48_2
  first
    | assumption
    | (have h := ‹TG4 _ _ _ _ _ _ _ _ _ _ _ _›; rw [show x8 = 0 by omega] at h; exact h)
set_option maxHeartbeats 4000000 in
theorem vc_Mo_shortest_23_6 (x1 : Int) (x2 : Int) (x3 : Int) (x9 : Int) (x10 : Int) (x11 : Int) (x12 : Int) (x14 : Int) (x15 : Int) (x16 : Int) (pt_0 : Int → Int) (ph_0 : Int → Int) (pn_0 : Int) (pm_0 : Int) (alive_0 : Int → Int) (drawnEdge_0 : Int → Int) (pieceOf_0 : Int → Int) (drawnNode_0 : Int → Int) (toGoal_0 : Int → Int) (onlyPiece_0 : Int) (wayMany_1 : Int) (pt_1 : Int → Int) (ph_1 : Int → Int) (pn_1 : Int) (pm_1 : Int) (alive_1 : Int → Int) (drawnEdge_1 : Int → Int) (pieceOf_1 : Int → Int) (drawnNode_1 : Int → Int) (toGoal_1 : Int → Int) (onlyPiece_1 : Int) (pt_2 : Int → Int) (ph_2 : Int → Int) (pn_2 : Int) (pm_2 : Int) (alive_2 : Int → Int) (drawnEdge_2 : Int → Int) (pieceOf_2 : Int → Int) (drawnNode_2 : Int → Int) (toGoal_2 : Int → Int) (onlyPiece_2 : Int) (way_2 : Int → Int) (wayMany_2 : Int) (wayMany_0 : Int) (way_0 : Int → Int) (way_1 : Int → Int) (gx : Int) (k1 : 0 ≤ x1 ∧ x1 ≤ 24) (k2 : 0 ≤ x2 ∧ x2 ≤ 24) (k3 : 0 ≤ x3 ∧ x3 ≤ 1) (k9 : 0 ≤ x9 ∧ x9 ≤ 24) (k10 : 0 ≤ x10 ∧ x10 ≤ 24) (k11 : (-1) ≤ x11 ∧ x11 ≤ (-1)) (k12 : (-2) ≤ x12 ∧ x12 ≤ 61) (k14 : 1 ≤ x14 ∧ x14 ≤ 29) (k16 : 2 ≤ x16 ∧ x16 ≤ 30) (d0 : x14 + 1 ≤ x16 ∧ x16 ≤ x14 + 1) (g15 : x14 = wayMany_1) (f25 : 1 * wayMany_1 + (1 * x12 + 0) ≤ 62) (f26 : (-1) * wayMany_1 + ((-1) * x12 + 0) ≤ (-62)) (f29 : x11 < 0) (f31 : UA (pm_2) (alive_2) (drawnEdge_2)) (f34 : TGI (pn_2) (pm_2) (onlyPiece_2) (pt_2) (ph_2) (drawnEdge_2) (pieceOf_2) (drawnNode_2) (toGoal_2) (x1) (x2) (x3)) (f35 : TG5 (pm_2) (onlyPiece_2) (pt_2) (ph_2) (drawnEdge_2) (pieceOf_2) (drawnNode_2) (toGoal_2) (x1) (x2) (x3)) (f36 : WLK (pn_2) (pm_2) (onlyPiece_2) (wayMany_2) (pt_2) (ph_2) (alive_2) (drawnEdge_2) (pieceOf_2) (drawnNode_2) (toGoal_2) (way_2) (x1) (x2) (x3) (x9)) (f37 : NXT (pn_2) (pm_2) (onlyPiece_2) (pt_2) (ph_2) (alive_2) (drawnEdge_2) (pieceOf_2) (drawnNode_2) (toGoal_2) (x2) (x3) (x9) (x10) (x11)) (f38 : x9 ≠ x2) (fe_0_31_1 : pn_0 = pn_1) (fe_0_32_1 : pm_0 = pm_1) (fe_0_45_1 : wayMany_0 = x16) (fe_0_49_1 : onlyPiece_0 = onlyPiece_1) (fe_0_31_2 : pn_1 = pn_2) (fe_0_32_2 : pm_1 = pm_2) (fe_0_45_2 : wayMany_1 = wayMany_2) (fe_0_49_2 : onlyPiece_1 = onlyPiece_2) (hE_0_33_1 : ∀ j : Int, pt_0 j = pt_1 j) (hE_0_33_2 : ∀ j : Int, pt_1 j = pt_2 j) (hE_0_34_1 : ∀ j : Int, ph_0 j = ph_1 j) (hE_0_34_2 : ∀ j : Int, ph_1 j = ph_2 j) (hE_0_35_1 : ∀ j : Int, alive_0 j = alive_1 j) (hE_0_35_2 : ∀ j : Int, alive_1 j = alive_2 j) (hE_0_42_1 : ∀ j : Int, drawnNode_0 j = drawnNode_1 j) (hE_0_42_2 : ∀ j : Int, drawnNode_1 j = drawnNode_2 j) (hE_0_43_1 : ∀ j : Int, drawnEdge_0 j = drawnEdge_1 j) (hE_0_43_2 : ∀ j : Int, drawnEdge_1 j = drawnEdge_2 j) (hE_0_44_1 : ∀ j : Int, pieceOf_0 j = pieceOf_1 j) (hE_0_44_2 : ∀ j : Int, pieceOf_1 j = pieceOf_2 j) (hE_0_46_1 : ∀ j : Int, way_0 j = way_1 j) (hE_0_46_2 : ∀ j : Int, 0 ≤ j → (j = x14 → way_1 j = x10) ∧ (j ≠ x14 → way_1 j = way_2 j)) (hE_0_48_1 : ∀ j : Int, toGoal_0 j = toGoal_1 j) (hE_0_48_2 : ∀ j : Int, toGoal_1 j = toGoal_2 j) (kz_0_31 : 0 ≤ pn_0 ∧ pn_0 ≤ 25) (kz_0_32 : 0 ≤ pm_0 ∧ pm_0 ≤ 80) (kz_0_45 : 0 ≤ wayMany_0 ∧ wayMany_0 ≤ 30) (kz_0_49 : (-1) ≤ onlyPiece_0 ∧ onlyPiece_0 ≤ 79) (ex2 : gx = (-1) + (1 * x12 + 0)) : WLK (pn_0) (pm_0) (onlyPiece_0) (wayMany_0) (pt_0) (ph_0) (alive_0) (drawnEdge_0) (pieceOf_0) (drawnNode_0) (toGoal_0) (way_0) (x1) (x2) (x3) (x10) := by
  subst fe_0_31_1
  subst fe_0_32_1
  subst fe_0_49_1
  subst fe_0_31_2
  subst fe_0_32_2
  subst fe_0_45_2
  subst fe_0_49_2
  have e_hE_0_33_1 := funext hE_0_33_1; subst e_hE_0_33_1
  have e_hE_0_33_2 := funext hE_0_33_2; subst e_hE_0_33_2
  have e_hE_0_34_1 := funext hE_0_34_1; subst e_hE_0_34_1
  have e_hE_0_34_2 := funext hE_0_34_2; subst e_hE_0_34_2
  have e_hE_0_35_1 := funext hE_0_35_1; subst e_hE_0_35_1
  have e_hE_0_35_2 := funext hE_0_35_2; subst e_hE_0_35_2
  have e_hE_0_42_1 := funext hE_0_42_1; subst e_hE_0_42_1
  have e_hE_0_42_2 := funext hE_0_42_2; subst e_hE_0_42_2
  have e_hE_0_43_1 := funext hE_0_43_1; subst e_hE_0_43_1
  have e_hE_0_43_2 := funext hE_0_43_2; subst e_hE_0_43_2
  have e_hE_0_44_1 := funext hE_0_44_1; subst e_hE_0_44_1
  have e_hE_0_44_2 := funext hE_0_44_2; subst e_hE_0_44_2
  have e_hE_0_46_1 := funext hE_0_46_1; subst e_hE_0_46_1
  have e_hE_0_48_1 := funext hE_0_48_1; subst e_hE_0_48_1
  have e_hE_0_48_2 := funext hE_0_48_2; subst e_hE_0_48_2
  first
    | (have hX := nxt_some ‹UA _ _ _› ‹TGI _ _ _ _ _ _ _ _ _ _ _ _› ‹TG5 _ _ _ _ _ _ _ _ _ _ _› ‹WLK _ _ _ _ _ _ _ _ _ _ _ _ _ _ _ _› (by omega) ‹NXT _ _ _ _ _ _ _ _ _ _ _ _ _ _ _› (by omega)
       rw [show wayMany_0 = wayMany_1 + 1 by omega]
       exact wlk_step ‹WLK _ _ _ _ _ _ _ _ _ _ _ _ _ _ _ _› (fun k a b => (hE_0_46_2 k a).2 (by omega)) (by rw [(hE_0_46_2 _ (by omega)).1 (by omega)]) hX)
set_option maxHeartbeats 4000000 in
theorem vc_Mo_shortest_23_7 (x12 : Int) (x14 : Int) (x16 : Int) (pt_0 : Int → Int) (ph_0 : Int → Int) (pn_0 : Int) (pm_0 : Int) (alive_0 : Int → Int) (drawnEdge_0 : Int → Int) (pieceOf_0 : Int → Int) (drawnNode_0 : Int → Int) (toGoal_0 : Int → Int) (onlyPiece_0 : Int) (wayMany_1 : Int) (pt_1 : Int → Int) (ph_1 : Int → Int) (pn_1 : Int) (pm_1 : Int) (alive_1 : Int → Int) (drawnEdge_1 : Int → Int) (pieceOf_1 : Int → Int) (drawnNode_1 : Int → Int) (toGoal_1 : Int → Int) (onlyPiece_1 : Int) (pt_2 : Int → Int) (ph_2 : Int → Int) (pn_2 : Int) (pm_2 : Int) (alive_2 : Int → Int) (drawnEdge_2 : Int → Int) (pieceOf_2 : Int → Int) (drawnNode_2 : Int → Int) (toGoal_2 : Int → Int) (onlyPiece_2 : Int) (wayMany_2 : Int) (wayMany_0 : Int) (way_0 : Int → Int) (way_1 : Int → Int) (gx : Int) (k12 : (-2) ≤ x12 ∧ x12 ≤ 61) (k14 : 1 ≤ x14 ∧ x14 ≤ 29) (k16 : 2 ≤ x16 ∧ x16 ≤ 30) (d0 : x14 + 1 ≤ x16 ∧ x16 ≤ x14 + 1) (g15 : x14 = wayMany_1) (f25 : 1 * wayMany_1 + (1 * x12 + 0) ≤ 62) (f26 : (-1) * wayMany_1 + ((-1) * x12 + 0) ≤ (-62)) (fe_0_31_1 : pn_0 = pn_1) (fe_0_32_1 : pm_0 = pm_1) (fe_0_45_1 : wayMany_0 = x16) (fe_0_49_1 : onlyPiece_0 = onlyPiece_1) (fe_0_31_2 : pn_1 = pn_2) (fe_0_32_2 : pm_1 = pm_2) (fe_0_45_2 : wayMany_1 = wayMany_2) (fe_0_49_2 : onlyPiece_1 = onlyPiece_2) (hE_0_33_1 : ∀ j : Int, pt_0 j = pt_1 j) (hE_0_33_2 : ∀ j : Int, pt_1 j = pt_2 j) (hE_0_34_1 : ∀ j : Int, ph_0 j = ph_1 j) (hE_0_34_2 : ∀ j : Int, ph_1 j = ph_2 j) (hE_0_35_1 : ∀ j : Int, alive_0 j = alive_1 j) (hE_0_35_2 : ∀ j : Int, alive_1 j = alive_2 j) (hE_0_42_1 : ∀ j : Int, drawnNode_0 j = drawnNode_1 j) (hE_0_42_2 : ∀ j : Int, drawnNode_1 j = drawnNode_2 j) (hE_0_43_1 : ∀ j : Int, drawnEdge_0 j = drawnEdge_1 j) (hE_0_43_2 : ∀ j : Int, drawnEdge_1 j = drawnEdge_2 j) (hE_0_44_1 : ∀ j : Int, pieceOf_0 j = pieceOf_1 j) (hE_0_44_2 : ∀ j : Int, pieceOf_1 j = pieceOf_2 j) (hE_0_46_1 : ∀ j : Int, way_0 j = way_1 j) (hE_0_48_1 : ∀ j : Int, toGoal_0 j = toGoal_1 j) (hE_0_48_2 : ∀ j : Int, toGoal_1 j = toGoal_2 j) (kz_0_31 : 0 ≤ pn_0 ∧ pn_0 ≤ 25) (kz_0_32 : 0 ≤ pm_0 ∧ pm_0 ≤ 80) (kz_0_45 : 0 ≤ wayMany_0 ∧ wayMany_0 ≤ 30) (kz_0_49 : (-1) ≤ onlyPiece_0 ∧ onlyPiece_0 ≤ 79) (ex2 : gx = (-1) + (1 * x12 + 0)) : 1 * wayMany_0 + (1 * gx + 0) ≤ 62 := by
  subst fe_0_31_1
  subst fe_0_32_1
  subst fe_0_49_1
  subst fe_0_31_2
  subst fe_0_32_2
  subst fe_0_45_2
  subst fe_0_49_2
  have e_hE_0_33_1 := funext hE_0_33_1; subst e_hE_0_33_1
  have e_hE_0_33_2 := funext hE_0_33_2; subst e_hE_0_33_2
  have e_hE_0_34_1 := funext hE_0_34_1; subst e_hE_0_34_1
  have e_hE_0_34_2 := funext hE_0_34_2; subst e_hE_0_34_2
  have e_hE_0_35_1 := funext hE_0_35_1; subst e_hE_0_35_1
  have e_hE_0_35_2 := funext hE_0_35_2; subst e_hE_0_35_2
  have e_hE_0_42_1 := funext hE_0_42_1; subst e_hE_0_42_1
  have e_hE_0_42_2 := funext hE_0_42_2; subst e_hE_0_42_2
  have e_hE_0_43_1 := funext hE_0_43_1; subst e_hE_0_43_1
  have e_hE_0_43_2 := funext hE_0_43_2; subst e_hE_0_43_2
  have e_hE_0_44_1 := funext hE_0_44_1; subst e_hE_0_44_1
  have e_hE_0_44_2 := funext hE_0_44_2; subst e_hE_0_44_2
  have e_hE_0_46_1 := funext hE_0_46_1; subst e_hE_0_46_1
  have e_hE_0_48_1 := funext hE_0_48_1; subst e_hE_0_48_1
  have e_hE_0_48_2 := funext hE_0_48_2; subst e_hE_0_48_2
  first | omega
set_option maxHeartbeats 4000000 in
theorem vc_Mo_shortest_23_8 (x12 : Int) (x14 : Int) (x16 : Int) (pt_0 : Int → Int) (ph_0 : Int → Int) (pn_0 : Int) (pm_0 : Int) (alive_0 : Int → Int) (drawnEdge_0 : Int → Int) (pieceOf_0 : Int → Int) (drawnNode_0 : Int → Int) (toGoal_0 : Int → Int) (onlyPiece_0 : Int) (wayMany_1 : Int) (pt_1 : Int → Int) (ph_1 : Int → Int) (pn_1 : Int) (pm_1 : Int) (alive_1 : Int → Int) (drawnEdge_1 : Int → Int) (pieceOf_1 : Int → Int) (drawnNode_1 : Int → Int) (toGoal_1 : Int → Int) (onlyPiece_1 : Int) (pt_2 : Int → Int) (ph_2 : Int → Int) (pn_2 : Int) (pm_2 : Int) (alive_2 : Int → Int) (drawnEdge_2 : Int → Int) (pieceOf_2 : Int → Int) (drawnNode_2 : Int → Int) (toGoal_2 : Int → Int) (onlyPiece_2 : Int) (wayMany_2 : Int) (wayMany_0 : Int) (way_0 : Int → Int) (way_1 : Int → Int) (gx : Int) (k12 : (-2) ≤ x12 ∧ x12 ≤ 61) (k14 : 1 ≤ x14 ∧ x14 ≤ 29) (k16 : 2 ≤ x16 ∧ x16 ≤ 30) (d0 : x14 + 1 ≤ x16 ∧ x16 ≤ x14 + 1) (g15 : x14 = wayMany_1) (f25 : 1 * wayMany_1 + (1 * x12 + 0) ≤ 62) (f26 : (-1) * wayMany_1 + ((-1) * x12 + 0) ≤ (-62)) (fe_0_31_1 : pn_0 = pn_1) (fe_0_32_1 : pm_0 = pm_1) (fe_0_45_1 : wayMany_0 = x16) (fe_0_49_1 : onlyPiece_0 = onlyPiece_1) (fe_0_31_2 : pn_1 = pn_2) (fe_0_32_2 : pm_1 = pm_2) (fe_0_45_2 : wayMany_1 = wayMany_2) (fe_0_49_2 : onlyPiece_1 = onlyPiece_2) (hE_0_33_1 : ∀ j : Int, pt_0 j = pt_1 j) (hE_0_33_2 : ∀ j : Int, pt_1 j = pt_2 j) (hE_0_34_1 : ∀ j : Int, ph_0 j = ph_1 j) (hE_0_34_2 : ∀ j : Int, ph_1 j = ph_2 j) (hE_0_35_1 : ∀ j : Int, alive_0 j = alive_1 j) (hE_0_35_2 : ∀ j : Int, alive_1 j = alive_2 j) (hE_0_42_1 : ∀ j : Int, drawnNode_0 j = drawnNode_1 j) (hE_0_42_2 : ∀ j : Int, drawnNode_1 j = drawnNode_2 j) (hE_0_43_1 : ∀ j : Int, drawnEdge_0 j = drawnEdge_1 j) (hE_0_43_2 : ∀ j : Int, drawnEdge_1 j = drawnEdge_2 j) (hE_0_44_1 : ∀ j : Int, pieceOf_0 j = pieceOf_1 j) (hE_0_44_2 : ∀ j : Int, pieceOf_1 j = pieceOf_2 j) (hE_0_46_1 : ∀ j : Int, way_0 j = way_1 j) (hE_0_48_1 : ∀ j : Int, toGoal_0 j = toGoal_1 j) (hE_0_48_2 : ∀ j : Int, toGoal_1 j = toGoal_2 j) (kz_0_31 : 0 ≤ pn_0 ∧ pn_0 ≤ 25) (kz_0_32 : 0 ≤ pm_0 ∧ pm_0 ≤ 80) (kz_0_45 : 0 ≤ wayMany_0 ∧ wayMany_0 ≤ 30) (kz_0_49 : (-1) ≤ onlyPiece_0 ∧ onlyPiece_0 ≤ 79) (ex2 : gx = (-1) + (1 * x12 + 0)) : (-1) * wayMany_0 + ((-1) * gx + 0) ≤ (-62) := by
  subst fe_0_31_1
  subst fe_0_32_1
  subst fe_0_49_1
  subst fe_0_31_2
  subst fe_0_32_2
  subst fe_0_45_2
  subst fe_0_49_2
  have e_hE_0_33_1 := funext hE_0_33_1; subst e_hE_0_33_1
  have e_hE_0_33_2 := funext hE_0_33_2; subst e_hE_0_33_2
  have e_hE_0_34_1 := funext hE_0_34_1; subst e_hE_0_34_1
  have e_hE_0_34_2 := funext hE_0_34_2; subst e_hE_0_34_2
  have e_hE_0_35_1 := funext hE_0_35_1; subst e_hE_0_35_1
  have e_hE_0_35_2 := funext hE_0_35_2; subst e_hE_0_35_2
  have e_hE_0_42_1 := funext hE_0_42_1; subst e_hE_0_42_1
  have e_hE_0_42_2 := funext hE_0_42_2; subst e_hE_0_42_2
  have e_hE_0_43_1 := funext hE_0_43_1; subst e_hE_0_43_1
  have e_hE_0_43_2 := funext hE_0_43_2; subst e_hE_0_43_2
  have e_hE_0_44_1 := funext hE_0_44_1; subst e_hE_0_44_1
  have e_hE_0_44_2 := funext hE_0_44_2; subst e_hE_0_44_2
  have e_hE_0_46_1 := funext hE_0_46_1; subst e_hE_0_46_1
  have e_hE_0_48_1 := funext hE_0_48_1; subst e_hE_0_48_1
  have e_hE_0_48_2 := funext hE_0_48_2; subst e_hE_0_48_2
  first | omega
def o_Mo_shortest_23 : or_T := (187, 17, [(0, (2, 0, 0, [165])), (1, (0, 0, 24, [])), (2, (0, 0, 24, [])), (3, (0, 0, 1, [])), (4, (2, 0, 0, [165])), (5, (0, 0, 24, [])), (6, (0, 0, 24, [])), (7, (0, 0, 1, [])), (9, (0, 0, 24, [])), (10, (0, 0, 24, [])), (11, (0, -1, -1, [])), (12, (0, -2, 61, [])), (13, (2, 0, 0, [191])), (14, (0, 1, 29, [])), (15, (0, 1, 1, [])), (16, (0, 2, 30, []))], [(20, [4], [60, 2, 2, 75, 31, 32, 33, 34]), (20, [4], [60, 1, 2, 122, 32, 35, 43]), (20, [5, 4], [30, -1, 1, 0, 0, -1, 1, 31]), (20, [6, 4], [30, -1, 1, 0, 0, -1, 1, 31]), (20, [4, 5, 6, 7], [60, 3, 6, 124, 31, 32, 49, 33, 34, 43, 44, 42, 48]), (20, [4, 5, 6, 7], [60, 2, 6, 134, 32, 49, 33, 34, 43, 44, 42, 48]), (20, [4, 6, 7, 9, 10, 11], [60, 3, 7, 132, 31, 32, 49, 33, 34, 35, 43, 44, 42, 48]), (20, [9, 6], [50, 0, 0, 7, 2, 1, 0, 1, 1]), (20, [11, 4], [30, -1, 1, 0, 0, -1, 1, 31]), (24, [0, 4], []), (24, [1, 5], []), (24, [2, 6], []), (24, [3, 7], []), (101, [4, 16], [45]), (1, [16, 14, 15], []), (9, [14, 4], [45]), (20, [4], [60, 2, 2, 75, 31, 32, 33, 34]), (20, [4], [60, 1, 2, 122, 32, 35, 43]), (20, [5, 4], [30, -1, 1, 0, 0, -1, 1, 31]), (20, [6, 4], [30, -1, 1, 0, 0, -1, 1, 31]), (20, [4, 5, 6, 7], [60, 3, 6, 124, 31, 32, 49, 33, 34, 43, 44, 42, 48]), (20, [4, 5, 6, 7], [60, 2, 6, 134, 32, 49, 33, 34, 43, 44, 42, 48]), (20, [4, 6, 7, 9, 10, 11], [60, 3, 7, 132, 31, 32, 49, 33, 34, 35, 43, 44, 42, 48]), (20, [9, 6], [50, 0, 0, 7, 2, 1, 0, 1, 1]), (20, [11, 4], [30, -1, 1, 0, 0, -1, 1, 31]), (20, [4, 12], [30, 62, 1, 1, 45, 1, 0, 0]), (20, [4, 12], [30, -62, -1, 1, 45, -1, 0, 0]), (100, [13, 14, 10], []), (9, [13, 4], [46]), (8, [11], [2]), (20, [4], [60, 2, 2, 75, 31, 32, 33, 34]), (20, [4], [60, 1, 2, 122, 32, 35, 43]), (20, [5, 4], [30, -1, 1, 0, 0, -1, 1, 31]), (20, [6, 4], [30, -1, 1, 0, 0, -1, 1, 31]), (20, [4, 5, 6, 7], [60, 3, 6, 124, 31, 32, 49, 33, 34, 43, 44, 42, 48]), (20, [4, 5, 6, 7], [60, 2, 6, 134, 32, 49, 33, 34, 43, 44, 42, 48]), (20, [4, 5, 6, 7, 9], [60, 4, 8, 131, 31, 32, 49, 45, 33, 34, 35, 43, 44, 42, 48, 46]), (20, [4, 6, 7, 9, 10, 11], [60, 3, 7, 132, 31, 32, 49, 33, 34, 35, 43, 44, 42, 48]), (20, [9, 6], [50, 0, 0, 7, 2, 1, 0, 1, 1]), (20, [11, 4], [30, -1, 1, 0, 0, -1, 1, 31]), (20, [4, 12], [30, 62, 1, 1, 45, 1, 0, 0]), (20, [4, 12], [30, -62, -1, 1, 45, -1, 0, 0])], [], [(0, -2, 61, [])], [(20, [4], [60, 2, 2, 75, 31, 32, 33, 34]), (20, [4], [60, 1, 2, 122, 32, 35, 43]), (20, [5, 4], [30, -1, 1, 0, 0, -1, 1, 31]), (20, [6, 4], [30, -1, 1, 0, 0, -1, 1, 31]), (20, [4, 5, 6, 7], [60, 3, 6, 124, 31, 32, 49, 33, 34, 43, 44, 42, 48]), (20, [4, 5, 6, 7], [60, 2, 6, 134, 32, 49, 33, 34, 43, 44, 42, 48]), (20, [4, 5, 6, 7, 10], [60, 4, 8, 131, 31, 32, 49, 45, 33, 34, 35, 43, 44, 42, 48, 46]), (20, [4, 17], [30, 62, 1, 1, 45, 1, 0, 0]), (20, [4, 17], [30, -62, -1, 1, 45, -1, 0, 0]), (24, [0, 4], []), (24, [1, 5], []), (24, [2, 6], []), (24, [3, 7], [])], [(17, 12, -1000000000000, -1)], [(16, 14, 1, 1), (1, 5, -4294967296, 0), (2, 6, -4294967296, 0), (3, 7, -4294967296, 0), (5, 1, -4294967296, 0), (6, 2, -4294967296, 0), (7, 3, -4294967296, 0)])
theorem oo_Mo_shortest_23 {kA : Nat → ClassId} : or_ok PRD kA GG o_Mo_shortest_23 := by
  refine or_mk fun A ta ws vs hD hth hl => ?_
  intro t0 r0 t1 k1 t2 k2 t3 k3 t4 r4 t5 k5 t6 k6 t7 k7 t9 k9 t10 k10 t11 k11 t12 k12 t13 r13 t14 k14 t15 k15 t16 k16 d0 d1 d2 d3 d4 d5 d6 f0 f1 f2 f3 f4 f5 f6 f7 f8 f9 f10 f11 f12 ta1 w1 le1 s1 f14 f15 f16 f17 f18 f19 f20 f21 f22 f23 f24 f25 f26 ta2 w2 le2 s2 f28 f29 f30 f31 f32 f33 f34 f35 f36 f37 f38 f39 f40 f41
  replace f0 := shm_575 f0
  replace f1 := shm_1455 f1
  replace f2 := shm_553 f2
  replace f3 := shm_553 f3
  replace f4 := shm_549 f4
  replace f5 := shm_1459 f5
  replace f6 := shm_1468 f6
  replace f7 := shm_406 f7
  replace f8 := shm_553 f8
  replace f9 := shm_5 f9
  replace f10 := shm_5 f10
  replace f11 := shm_5 f11
  replace f12 := shm_5 f12
  have s1 : (∀ b j, w_el ws b j = w_el w1 b j) ∧ ∀ b j, w_fd ws b j = if b = v_ad (n_v vs 4) ∧ j = 45 then n_v vs 16 else w_fd w1 b j := s1.2
  replace f14 := shm_12 f14
  replace f15 := shm_741 f15
  replace f16 := shm_575 f16
  replace f17 := shm_1455 f17
  replace f18 := shm_553 f18
  replace f19 := shm_553 f19
  replace f20 := shm_549 f20
  replace f21 := shm_1459 f21
  replace f22 := shm_1468 f22
  replace f23 := shm_406 f23
  replace f24 := shm_553 f24
  replace f25 := shm_1461 f25
  replace f26 := shm_1462 f26
  have s2 : (∀ b j, w_el w1 b j = if b = v_ad (n_v vs 13) ∧ j = (v_iv (n_v vs 14)).toNat then v_iv (n_v vs 10) else w_el w2 b j) ∧ ∀ b k, w_fd w1 b k = w_fd w2 b k := s2.2
  replace f28 := shm_737 f28
  replace f29 := shm_39 f29
  replace f30 := shm_575 f30
  replace f31 := shm_1455 f31
  replace f32 := shm_553 f32
  replace f33 := shm_553 f33
  replace f34 := shm_549 f34
  replace f35 := shm_1459 f35
  replace f36 := shm_1467 f36
  replace f37 := shm_1468 f37
  replace f38 := shm_406 f38
  replace f39 := shm_553 f39
  replace f40 := shm_1461 f40
  replace f41 := shm_1462 f41
  have q4 : n_v vs 4 = n_v vs 0 := f9.symm
  have q5 : n_v vs 5 = n_v vs 1 := f10.symm
  have q6 : n_v vs 6 = n_v vs 2 := f11.symm
  have q7 : n_v vs 7 = n_v vs 3 := f12.symm
  simp only [q4, q5, q6, q7] at f0 f1 f2 f3 f4 f5 f6 f7 f8
  rw [q4] at s1
  simp only [q4, q5, q6, q7] at f15 f16 f17 f18 f19 f20 f21 f22 f23 f24 f25 f26 f28 f30 f31 f32 f33 f34 f35 f36 f37 f38 f39 f40 f41
  have ar_0_33_1 : w_ar w1 (n_v vs 0) 33 = w_ar ws (n_v vs 0) 33 := by show v_ad (w_fd w1 _ _) = v_ad (w_fd ws _ _); rw [s1.2, if_neg (fun e => absurd e.2 (by decide))]
  have ar_0_33_2 : w_ar w2 (n_v vs 0) 33 = w_ar ws (n_v vs 0) 33 := by rw [← ar_0_33_1]; show v_ad (w_fd w2 _ _) = v_ad (w_fd w1 _ _); rw [s2.2]
  have cr_0_33 := fdq_117 hD hth r0
  have ar_0_34_1 : w_ar w1 (n_v vs 0) 34 = w_ar ws (n_v vs 0) 34 := by show v_ad (w_fd w1 _ _) = v_ad (w_fd ws _ _); rw [s1.2, if_neg (fun e => absurd e.2 (by decide))]
  have ar_0_34_2 : w_ar w2 (n_v vs 0) 34 = w_ar ws (n_v vs 0) 34 := by rw [← ar_0_34_1]; show v_ad (w_fd w2 _ _) = v_ad (w_fd w1 _ _); rw [s2.2]
  have cr_0_34 := fdq_118 hD hth r0
  have ar_0_35_1 : w_ar w1 (n_v vs 0) 35 = w_ar ws (n_v vs 0) 35 := by show v_ad (w_fd w1 _ _) = v_ad (w_fd ws _ _); rw [s1.2, if_neg (fun e => absurd e.2 (by decide))]
  have ar_0_35_2 : w_ar w2 (n_v vs 0) 35 = w_ar ws (n_v vs 0) 35 := by rw [← ar_0_35_1]; show v_ad (w_fd w2 _ _) = v_ad (w_fd w1 _ _); rw [s2.2]
  have cr_0_35 := fdq_132 hD hth r0
  have ar_0_42_1 : w_ar w1 (n_v vs 0) 42 = w_ar ws (n_v vs 0) 42 := by show v_ad (w_fd w1 _ _) = v_ad (w_fd ws _ _); rw [s1.2, if_neg (fun e => absurd e.2 (by decide))]
  have ar_0_42_2 : w_ar w2 (n_v vs 0) 42 = w_ar ws (n_v vs 0) 42 := by rw [← ar_0_42_1]; show v_ad (w_fd w2 _ _) = v_ad (w_fd w1 _ _); rw [s2.2]
  have cr_0_42 := fdq_136 hD hth r0
  have ar_0_43_1 : w_ar w1 (n_v vs 0) 43 = w_ar ws (n_v vs 0) 43 := by show v_ad (w_fd w1 _ _) = v_ad (w_fd ws _ _); rw [s1.2, if_neg (fun e => absurd e.2 (by decide))]
  have ar_0_43_2 : w_ar w2 (n_v vs 0) 43 = w_ar ws (n_v vs 0) 43 := by rw [← ar_0_43_1]; show v_ad (w_fd w2 _ _) = v_ad (w_fd w1 _ _); rw [s2.2]
  have cr_0_43 := fdq_137 hD hth r0
  have ar_0_44_1 : w_ar w1 (n_v vs 0) 44 = w_ar ws (n_v vs 0) 44 := by show v_ad (w_fd w1 _ _) = v_ad (w_fd ws _ _); rw [s1.2, if_neg (fun e => absurd e.2 (by decide))]
  have ar_0_44_2 : w_ar w2 (n_v vs 0) 44 = w_ar ws (n_v vs 0) 44 := by rw [← ar_0_44_1]; show v_ad (w_fd w2 _ _) = v_ad (w_fd w1 _ _); rw [s2.2]
  have cr_0_44 := fdq_138 hD hth r0
  have ar_0_46_1 : w_ar w1 (n_v vs 0) 46 = w_ar ws (n_v vs 0) 46 := by show v_ad (w_fd w1 _ _) = v_ad (w_fd ws _ _); rw [s1.2, if_neg (fun e => absurd e.2 (by decide))]
  have ar_0_46_2 : w_ar w2 (n_v vs 0) 46 = w_ar ws (n_v vs 0) 46 := by rw [← ar_0_46_1]; show v_ad (w_fd w2 _ _) = v_ad (w_fd w1 _ _); rw [s2.2]
  have cr_0_46 := fdq_190 hD hth r0
  have ar_0_48_1 : w_ar w1 (n_v vs 0) 48 = w_ar ws (n_v vs 0) 48 := by show v_ad (w_fd w1 _ _) = v_ad (w_fd ws _ _); rw [s1.2, if_neg (fun e => absurd e.2 (by decide))]
  have ar_0_48_2 : w_ar w2 (n_v vs 0) 48 = w_ar ws (n_v vs 0) 48 := by rw [← ar_0_48_1]; show v_ad (w_fd w2 _ _) = v_ad (w_fd w1 _ _); rw [s2.2]
  have cr_0_48 := fdq_144 hD hth r0
  have ad_13 : v_ad (n_v vs 13) = w_ar ws (n_v vs 0) 46 := (congrArg v_ad f28).trans ar_0_46_2
  have g15 : v_iv (n_v vs 14) = w_fi w1 (n_v vs 0) 45 := congrArg v_iv f15
  simp only [ar_0_33_1, ar_0_34_1, ar_0_35_1, ar_0_43_1, ar_0_42_1, ar_0_44_1, ar_0_48_1, ar_0_33_2, ar_0_34_2, ar_0_35_2, ar_0_43_2, ar_0_42_2, ar_0_44_2, ar_0_48_2, ar_0_46_2] at f16 f17 f20 f21 f22 f30 f31 f34 f35 f36 f37
  have fe_0_31_1 : w_fi ws (n_v vs 0) 31 = w_fi w1 (n_v vs 0) 31 := by show v_iv (w_fd _ _ _) = v_iv (w_fd _ _ _); rw [s1.2, if_neg (fun e => absurd e.2 (by decide))]
  have fe_0_32_1 : w_fi ws (n_v vs 0) 32 = w_fi w1 (n_v vs 0) 32 := by show v_iv (w_fd _ _ _) = v_iv (w_fd _ _ _); rw [s1.2, if_neg (fun e => absurd e.2 (by decide))]
  have fe_0_45_1 : w_fi ws (n_v vs 0) 45 = v_iv (n_v vs 16) := by show v_iv (w_fd _ _ _) = _; rw [s1.2, if_pos ⟨rfl, rfl⟩]
  have fe_0_49_1 : w_fi ws (n_v vs 0) 49 = w_fi w1 (n_v vs 0) 49 := by show v_iv (w_fd _ _ _) = v_iv (w_fd _ _ _); rw [s1.2, if_neg (fun e => absurd e.2 (by decide))]
  have fe_0_31_2 : w_fi w1 (n_v vs 0) 31 = w_fi w2 (n_v vs 0) 31 := congrArg v_iv (s2.2 _ _)
  have fe_0_32_2 : w_fi w1 (n_v vs 0) 32 = w_fi w2 (n_v vs 0) 32 := congrArg v_iv (s2.2 _ _)
  have fe_0_45_2 : w_fi w1 (n_v vs 0) 45 = w_fi w2 (n_v vs 0) 45 := congrArg v_iv (s2.2 _ _)
  have fe_0_49_2 : w_fi w1 (n_v vs 0) 49 = w_fi w2 (n_v vs 0) 49 := congrArg v_iv (s2.2 _ _)
  have hE_0_33_1 : ∀ j : Int, w_ei ws (w_ar ws (n_v vs 0) 33) j = w_ei w1 (w_ar ws (n_v vs 0) 33) j := fun j => s1.1 _ _
  have hE_0_33_2 : ∀ j : Int, w_ei w1 (w_ar ws (n_v vs 0) 33) j = w_ei w2 (w_ar ws (n_v vs 0) 33) j := el_kp s2.1 r13 cr_0_33 (by decide)
  have hK_0_33 := elq_60 hD hth cr_0_33
  have hE_0_34_1 : ∀ j : Int, w_ei ws (w_ar ws (n_v vs 0) 34) j = w_ei w1 (w_ar ws (n_v vs 0) 34) j := fun j => s1.1 _ _
  have hE_0_34_2 : ∀ j : Int, w_ei w1 (w_ar ws (n_v vs 0) 34) j = w_ei w2 (w_ar ws (n_v vs 0) 34) j := el_kp s2.1 r13 cr_0_34 (by decide)
  have hK_0_34 := elq_61 hD hth cr_0_34
  have hE_0_35_1 : ∀ j : Int, w_ei ws (w_ar ws (n_v vs 0) 35) j = w_ei w1 (w_ar ws (n_v vs 0) 35) j := fun j => s1.1 _ _
  have hE_0_35_2 : ∀ j : Int, w_ei w1 (w_ar ws (n_v vs 0) 35) j = w_ei w2 (w_ar ws (n_v vs 0) 35) j := el_kp s2.1 r13 cr_0_35 (by decide)
  have hK_0_35 := elq_72 hD hth cr_0_35
  have hE_0_42_1 : ∀ j : Int, w_ei ws (w_ar ws (n_v vs 0) 42) j = w_ei w1 (w_ar ws (n_v vs 0) 42) j := fun j => s1.1 _ _
  have hE_0_42_2 : ∀ j : Int, w_ei w1 (w_ar ws (n_v vs 0) 42) j = w_ei w2 (w_ar ws (n_v vs 0) 42) j := el_kp s2.1 r13 cr_0_42 (by decide)
  have hK_0_42 := elq_75 hD hth cr_0_42
  have hE_0_43_1 : ∀ j : Int, w_ei ws (w_ar ws (n_v vs 0) 43) j = w_ei w1 (w_ar ws (n_v vs 0) 43) j := fun j => s1.1 _ _
  have hE_0_43_2 : ∀ j : Int, w_ei w1 (w_ar ws (n_v vs 0) 43) j = w_ei w2 (w_ar ws (n_v vs 0) 43) j := el_kp s2.1 r13 cr_0_43 (by decide)
  have hK_0_43 := elq_76 hD hth cr_0_43
  have hE_0_44_1 : ∀ j : Int, w_ei ws (w_ar ws (n_v vs 0) 44) j = w_ei w1 (w_ar ws (n_v vs 0) 44) j := fun j => s1.1 _ _
  have hE_0_44_2 : ∀ j : Int, w_ei w1 (w_ar ws (n_v vs 0) 44) j = w_ei w2 (w_ar ws (n_v vs 0) 44) j := el_kp s2.1 r13 cr_0_44 (by decide)
  have hK_0_44 := elq_77 hD hth cr_0_44
  have hE_0_46_1 : ∀ j : Int, w_ei ws (w_ar ws (n_v vs 0) 46) j = w_ei w1 (w_ar ws (n_v vs 0) 46) j := fun j => s1.1 _ _
  have hE_0_46_2 : ∀ j : Int, 0 ≤ j → (j = v_iv (n_v vs 14) → w_ei w1 (w_ar ws (n_v vs 0) 46) j = v_iv (n_v vs 10)) ∧ (j ≠ v_iv (n_v vs 14) → w_ei w1 (w_ar ws (n_v vs 0) 46) j = w_ei w2 (w_ar ws (n_v vs 0) 46) j) := fun j hj => ⟨fun h => by unfold w_ei; rw [s2.1, if_pos ⟨ad_13.symm, by rw [h]⟩], fun h => by unfold w_ei; rw [s2.1, if_neg (fun e => h (by have := e.2; omega))]⟩
  have hK_0_46 := elq_114 hD hth cr_0_46
  have hE_0_48_1 : ∀ j : Int, w_ei ws (w_ar ws (n_v vs 0) 48) j = w_ei w1 (w_ar ws (n_v vs 0) 48) j := fun j => s1.1 _ _
  have hE_0_48_2 : ∀ j : Int, w_ei w1 (w_ar ws (n_v vs 0) 48) j = w_ei w2 (w_ar ws (n_v vs 0) 48) j := el_kp s2.1 r13 cr_0_48 (by decide)
  have hK_0_48 := elq_82 hD hth cr_0_48
  have kz_0_31 := fdq_145 hD hth r0
  have kz_0_32 := fdq_140 hD hth r0
  have kz_0_45 := fdq_191 hD hth r0
  have kz_0_49 := fdq_146 hD hth r0
  first | have hW := wlk_bd ‹TGI _ _ _ _ _ _ _ _ _ _ _ _› ‹TG5 _ _ _ _ _ _ _ _ _ _ _› ‹WLK _ _ _ _ _ _ _ _ _ _ _ _ _ _ _ _› | skip
  first | have hX := nxt_some ‹UA _ _ _› ‹TGI _ _ _ _ _ _ _ _ _ _ _ _› ‹TG5 _ _ _ _ _ _ _ _ _ _ _› ‹WLK _ _ _ _ _ _ _ _ _ _ _ _ _ _ _ _› (by assumption) ‹NXT _ _ _ _ _ _ _ _ _ _ _ _ _ _ _› (by omega) | skip
  first | have hX1 := hX.1 | skip
  first | have hX2 := hX.2.1 | skip
  obtain ⟨x, ex, hx⟩ := iv_ex (ta := ta) (lo := (-2)) (hi := 61) (z := (-1) + (1 * v_iv (n_v vs 12) + 0)) (by omega) (by omega) (by omega) (by omega)
  have ex2 : v_iv (Value.int x) = (-1) + (1 * v_iv (n_v vs 12) + 0) := ex
  have ex3 : (-2) ≤ v_iv (Value.int x) ∧ v_iv (Value.int x) ≤ 61 := tv_rng hx
  have e_0 : n_v (vs ++ [Value.int x]) 0 = n_v vs 0 := n_v_old (by rw [hl]; decide)
  have e_1 : n_v (vs ++ [Value.int x]) 1 = n_v vs 1 := n_v_old (by rw [hl]; decide)
  have e_2 : n_v (vs ++ [Value.int x]) 2 = n_v vs 2 := n_v_old (by rw [hl]; decide)
  have e_3 : n_v (vs ++ [Value.int x]) 3 = n_v vs 3 := n_v_old (by rw [hl]; decide)
  have e_4 : n_v (vs ++ [Value.int x]) 4 = n_v vs 4 := n_v_old (by rw [hl]; decide)
  have e_5 : n_v (vs ++ [Value.int x]) 5 = n_v vs 5 := n_v_old (by rw [hl]; decide)
  have e_6 : n_v (vs ++ [Value.int x]) 6 = n_v vs 6 := n_v_old (by rw [hl]; decide)
  have e_7 : n_v (vs ++ [Value.int x]) 7 = n_v vs 7 := n_v_old (by rw [hl]; decide)
  have e_10 : n_v (vs ++ [Value.int x]) 10 = n_v vs 10 := n_v_old (by rw [hl]; decide)
  have e_17 : n_v (vs ++ [Value.int x]) 17 = Value.int x := n_v_new hl
  have nf0 : fc_1 PRD (20, [4], [60, 2, 2, 75, 31, 32, 33, 34]) ws (vs ++ [Value.int x]) := by
    refine ⟨nf_inA hl rfl, sgq_575 ?_⟩
    · show GOK (w_fi ws (n_v (vs ++ [Value.int x]) 4) 31) (w_fi ws (n_v (vs ++ [Value.int x]) 4) 32) (w_ei ws (w_ar ws (n_v (vs ++ [Value.int x]) 4) 33)) (w_ei ws (w_ar ws (n_v (vs ++ [Value.int x]) 4) 34))
      simp only [e_4, q4]
      exact vc_Mo_shortest_23_0 (w_ei ws (w_ar ws (n_v vs 0) 33)) (w_ei ws (w_ar ws (n_v vs 0) 34)) (w_fi ws (n_v vs 0) 31) (w_fi ws (n_v vs 0) 32) (w_ei ws (w_ar ws (n_v vs 0) 35)) (w_ei ws (w_ar ws (n_v vs 0) 43)) (w_ei ws (w_ar ws (n_v vs 0) 44)) (w_ei ws (w_ar ws (n_v vs 0) 42)) (w_ei ws (w_ar ws (n_v vs 0) 48)) (w_fi ws (n_v vs 0) 49) (w_fi w1 (n_v vs 0) 45) (w_ei w1 (w_ar ws (n_v vs 0) 33)) (w_ei w1 (w_ar ws (n_v vs 0) 34)) (w_fi w1 (n_v vs 0) 31) (w_fi w1 (n_v vs 0) 32) (w_ei w1 (w_ar ws (n_v vs 0) 35)) (w_ei w1 (w_ar ws (n_v vs 0) 43)) (w_ei w1 (w_ar ws (n_v vs 0) 44)) (w_ei w1 (w_ar ws (n_v vs 0) 42)) (w_ei w1 (w_ar ws (n_v vs 0) 48)) (w_fi w1 (n_v vs 0) 49) (w_ei w2 (w_ar ws (n_v vs 0) 33)) (w_ei w2 (w_ar ws (n_v vs 0) 34)) (w_fi w2 (n_v vs 0) 31) (w_fi w2 (n_v vs 0) 32) (w_ei w2 (w_ar ws (n_v vs 0) 35)) (w_ei w2 (w_ar ws (n_v vs 0) 43)) (w_ei w2 (w_ar ws (n_v vs 0) 44)) (w_ei w2 (w_ar ws (n_v vs 0) 42)) (w_ei w2 (w_ar ws (n_v vs 0) 48)) (w_fi w2 (n_v vs 0) 49) (w_fi w2 (n_v vs 0) 45) (w_ei ws (w_ar ws (n_v vs 0) 46)) (w_ei w1 (w_ar ws (n_v vs 0) 46)) f30 fe_0_31_1 fe_0_32_1 fe_0_49_1 fe_0_31_2 fe_0_32_2 fe_0_45_2 fe_0_49_2 hE_0_33_1 hE_0_33_2 hE_0_34_1 hE_0_34_2 hE_0_35_1 hE_0_35_2 hE_0_42_1 hE_0_42_2 hE_0_43_1 hE_0_43_2 hE_0_44_1 hE_0_44_2 hE_0_46_1 hE_0_48_1 hE_0_48_2 kz_0_31 kz_0_32 kz_0_49
  have nf1 : fc_1 PRD (20, [4], [60, 1, 2, 122, 32, 35, 43]) ws (vs ++ [Value.int x]) := by
    refine ⟨nf_inA hl rfl, sgq_1455 ?_⟩
    · show UA (w_fi ws (n_v (vs ++ [Value.int x]) 4) 32) (w_ei ws (w_ar ws (n_v (vs ++ [Value.int x]) 4) 35)) (w_ei ws (w_ar ws (n_v (vs ++ [Value.int x]) 4) 43))
      simp only [e_4, q4]
      exact vc_Mo_shortest_23_1 (w_ei ws (w_ar ws (n_v vs 0) 33)) (w_ei ws (w_ar ws (n_v vs 0) 34)) (w_fi ws (n_v vs 0) 31) (w_fi ws (n_v vs 0) 32) (w_ei ws (w_ar ws (n_v vs 0) 35)) (w_ei ws (w_ar ws (n_v vs 0) 43)) (w_ei ws (w_ar ws (n_v vs 0) 44)) (w_ei ws (w_ar ws (n_v vs 0) 42)) (w_ei ws (w_ar ws (n_v vs 0) 48)) (w_fi ws (n_v vs 0) 49) (w_fi w1 (n_v vs 0) 45) (w_ei w1 (w_ar ws (n_v vs 0) 33)) (w_ei w1 (w_ar ws (n_v vs 0) 34)) (w_fi w1 (n_v vs 0) 31) (w_fi w1 (n_v vs 0) 32) (w_ei w1 (w_ar ws (n_v vs 0) 35)) (w_ei w1 (w_ar ws (n_v vs 0) 43)) (w_ei w1 (w_ar ws (n_v vs 0) 44)) (w_ei w1 (w_ar ws (n_v vs 0) 42)) (w_ei w1 (w_ar ws (n_v vs 0) 48)) (w_fi w1 (n_v vs 0) 49) (w_ei w2 (w_ar ws (n_v vs 0) 33)) (w_ei w2 (w_ar ws (n_v vs 0) 34)) (w_fi w2 (n_v vs 0) 31) (w_fi w2 (n_v vs 0) 32) (w_ei w2 (w_ar ws (n_v vs 0) 35)) (w_ei w2 (w_ar ws (n_v vs 0) 43)) (w_ei w2 (w_ar ws (n_v vs 0) 44)) (w_ei w2 (w_ar ws (n_v vs 0) 42)) (w_ei w2 (w_ar ws (n_v vs 0) 48)) (w_fi w2 (n_v vs 0) 49) (w_fi w2 (n_v vs 0) 45) (w_ei ws (w_ar ws (n_v vs 0) 46)) (w_ei w1 (w_ar ws (n_v vs 0) 46)) f31 fe_0_31_1 fe_0_32_1 fe_0_49_1 fe_0_31_2 fe_0_32_2 fe_0_45_2 fe_0_49_2 hE_0_33_1 hE_0_33_2 hE_0_34_1 hE_0_34_2 hE_0_35_1 hE_0_35_2 hE_0_42_1 hE_0_42_2 hE_0_43_1 hE_0_43_2 hE_0_44_1 hE_0_44_2 hE_0_46_1 hE_0_48_1 hE_0_48_2 kz_0_31 kz_0_32 kz_0_49
  have nf2 : fc_1 PRD (20, [5, 4], [30, -1, 1, 0, 0, -1, 1, 31]) ws (vs ++ [Value.int x]) := by
    refine ⟨nf_inA hl rfl, sgq_553 ?_⟩
    · show 1 * v_iv (n_v (vs ++ [Value.int x]) 5) + ((-1) * w_fi ws (n_v (vs ++ [Value.int x]) 4) 31 + 0) ≤ (-1)
      simp only [e_4, e_5, q4, q5]
      exact vc_Mo_shortest_23_2 (v_iv (n_v vs 1)) (w_ei ws (w_ar ws (n_v vs 0) 33)) (w_ei ws (w_ar ws (n_v vs 0) 34)) (w_fi ws (n_v vs 0) 31) (w_fi ws (n_v vs 0) 32) (w_ei ws (w_ar ws (n_v vs 0) 35)) (w_ei ws (w_ar ws (n_v vs 0) 43)) (w_ei ws (w_ar ws (n_v vs 0) 44)) (w_ei ws (w_ar ws (n_v vs 0) 42)) (w_ei ws (w_ar ws (n_v vs 0) 48)) (w_fi ws (n_v vs 0) 49) (w_fi w1 (n_v vs 0) 45) (w_ei w1 (w_ar ws (n_v vs 0) 33)) (w_ei w1 (w_ar ws (n_v vs 0) 34)) (w_fi w1 (n_v vs 0) 31) (w_fi w1 (n_v vs 0) 32) (w_ei w1 (w_ar ws (n_v vs 0) 35)) (w_ei w1 (w_ar ws (n_v vs 0) 43)) (w_ei w1 (w_ar ws (n_v vs 0) 44)) (w_ei w1 (w_ar ws (n_v vs 0) 42)) (w_ei w1 (w_ar ws (n_v vs 0) 48)) (w_fi w1 (n_v vs 0) 49) (w_ei w2 (w_ar ws (n_v vs 0) 33)) (w_ei w2 (w_ar ws (n_v vs 0) 34)) (w_fi w2 (n_v vs 0) 31) (w_fi w2 (n_v vs 0) 32) (w_ei w2 (w_ar ws (n_v vs 0) 35)) (w_ei w2 (w_ar ws (n_v vs 0) 43)) (w_ei w2 (w_ar ws (n_v vs 0) 44)) (w_ei w2 (w_ar ws (n_v vs 0) 42)) (w_ei w2 (w_ar ws (n_v vs 0) 48)) (w_fi w2 (n_v vs 0) 49) (w_fi w2 (n_v vs 0) 45) (w_ei ws (w_ar ws (n_v vs 0) 46)) (w_ei w1 (w_ar ws (n_v vs 0) 46)) k1 f32 fe_0_31_1 fe_0_32_1 fe_0_49_1 fe_0_31_2 fe_0_32_2 fe_0_45_2 fe_0_49_2 hE_0_33_1 hE_0_33_2 hE_0_34_1 hE_0_34_2 hE_0_35_1 hE_0_35_2 hE_0_42_1 hE_0_42_2 hE_0_43_1 hE_0_43_2 hE_0_44_1 hE_0_44_2 hE_0_46_1 hE_0_48_1 hE_0_48_2 kz_0_31 kz_0_32 kz_0_49
  have nf3 : fc_1 PRD (20, [6, 4], [30, -1, 1, 0, 0, -1, 1, 31]) ws (vs ++ [Value.int x]) := by
    refine ⟨nf_inA hl rfl, sgq_553 ?_⟩
    · show 1 * v_iv (n_v (vs ++ [Value.int x]) 6) + ((-1) * w_fi ws (n_v (vs ++ [Value.int x]) 4) 31 + 0) ≤ (-1)
      simp only [e_4, e_6, q4, q6]
      exact vc_Mo_shortest_23_3 (v_iv (n_v vs 2)) (w_ei ws (w_ar ws (n_v vs 0) 33)) (w_ei ws (w_ar ws (n_v vs 0) 34)) (w_fi ws (n_v vs 0) 31) (w_fi ws (n_v vs 0) 32) (w_ei ws (w_ar ws (n_v vs 0) 35)) (w_ei ws (w_ar ws (n_v vs 0) 43)) (w_ei ws (w_ar ws (n_v vs 0) 44)) (w_ei ws (w_ar ws (n_v vs 0) 42)) (w_ei ws (w_ar ws (n_v vs 0) 48)) (w_fi ws (n_v vs 0) 49) (w_fi w1 (n_v vs 0) 45) (w_ei w1 (w_ar ws (n_v vs 0) 33)) (w_ei w1 (w_ar ws (n_v vs 0) 34)) (w_fi w1 (n_v vs 0) 31) (w_fi w1 (n_v vs 0) 32) (w_ei w1 (w_ar ws (n_v vs 0) 35)) (w_ei w1 (w_ar ws (n_v vs 0) 43)) (w_ei w1 (w_ar ws (n_v vs 0) 44)) (w_ei w1 (w_ar ws (n_v vs 0) 42)) (w_ei w1 (w_ar ws (n_v vs 0) 48)) (w_fi w1 (n_v vs 0) 49) (w_ei w2 (w_ar ws (n_v vs 0) 33)) (w_ei w2 (w_ar ws (n_v vs 0) 34)) (w_fi w2 (n_v vs 0) 31) (w_fi w2 (n_v vs 0) 32) (w_ei w2 (w_ar ws (n_v vs 0) 35)) (w_ei w2 (w_ar ws (n_v vs 0) 43)) (w_ei w2 (w_ar ws (n_v vs 0) 44)) (w_ei w2 (w_ar ws (n_v vs 0) 42)) (w_ei w2 (w_ar ws (n_v vs 0) 48)) (w_fi w2 (n_v vs 0) 49) (w_fi w2 (n_v vs 0) 45) (w_ei ws (w_ar ws (n_v vs 0) 46)) (w_ei w1 (w_ar ws (n_v vs 0) 46)) k2 f33 fe_0_31_1 fe_0_32_1 fe_0_49_1 fe_0_31_2 fe_0_32_2 fe_0_45_2 fe_0_49_2 hE_0_33_1 hE_0_33_2 hE_0_34_1 hE_0_34_2 hE_0_35_1 hE_0_35_2 hE_0_42_1 hE_0_42_2 hE_0_43_1 hE_0_43_2 hE_0_44_1 hE_0_44_2 hE_0_46_1 hE_0_48_1 hE_0_48_2 kz_0_31 kz_0_32 kz_0_49
  have nf4 : fc_1 PRD (20, [4, 5, 6, 7], [60, 3, 6, 124, 31, 32, 49, 33, 34, 43, 44, 42, 48]) ws (vs ++ [Value.int x]) := by
    refine ⟨nf_inA hl rfl, sgq_549 ?_⟩
    · show TGI (w_fi ws (n_v (vs ++ [Value.int x]) 4) 31) (w_fi ws (n_v (vs ++ [Value.int x]) 4) 32) (w_fi ws (n_v (vs ++ [Value.int x]) 4) 49) (w_ei ws (w_ar ws (n_v (vs ++ [Value.int x]) 4) 33)) (w_ei ws (w_ar ws (n_v (vs ++ [Value.int x]) 4) 34)) (w_ei ws (w_ar ws (n_v (vs ++ [Value.int x]) 4) 43)) (w_ei ws (w_ar ws (n_v (vs ++ [Value.int x]) 4) 44)) (w_ei ws (w_ar ws (n_v (vs ++ [Value.int x]) 4) 42)) (w_ei ws (w_ar ws (n_v (vs ++ [Value.int x]) 4) 48)) (v_iv (n_v (vs ++ [Value.int x]) 5)) (v_iv (n_v (vs ++ [Value.int x]) 6)) (v_iv (n_v (vs ++ [Value.int x]) 7))
      simp only [e_4, e_5, e_6, e_7, q4, q5, q6, q7]
      exact vc_Mo_shortest_23_4 (v_iv (n_v vs 1)) (v_iv (n_v vs 2)) (v_iv (n_v vs 3)) (w_ei ws (w_ar ws (n_v vs 0) 33)) (w_ei ws (w_ar ws (n_v vs 0) 34)) (w_fi ws (n_v vs 0) 31) (w_fi ws (n_v vs 0) 32) (w_ei ws (w_ar ws (n_v vs 0) 35)) (w_ei ws (w_ar ws (n_v vs 0) 43)) (w_ei ws (w_ar ws (n_v vs 0) 44)) (w_ei ws (w_ar ws (n_v vs 0) 42)) (w_ei ws (w_ar ws (n_v vs 0) 48)) (w_fi ws (n_v vs 0) 49) (w_fi w1 (n_v vs 0) 45) (w_ei w1 (w_ar ws (n_v vs 0) 33)) (w_ei w1 (w_ar ws (n_v vs 0) 34)) (w_fi w1 (n_v vs 0) 31) (w_fi w1 (n_v vs 0) 32) (w_ei w1 (w_ar ws (n_v vs 0) 35)) (w_ei w1 (w_ar ws (n_v vs 0) 43)) (w_ei w1 (w_ar ws (n_v vs 0) 44)) (w_ei w1 (w_ar ws (n_v vs 0) 42)) (w_ei w1 (w_ar ws (n_v vs 0) 48)) (w_fi w1 (n_v vs 0) 49) (w_ei w2 (w_ar ws (n_v vs 0) 33)) (w_ei w2 (w_ar ws (n_v vs 0) 34)) (w_fi w2 (n_v vs 0) 31) (w_fi w2 (n_v vs 0) 32) (w_ei w2 (w_ar ws (n_v vs 0) 35)) (w_ei w2 (w_ar ws (n_v vs 0) 43)) (w_ei w2 (w_ar ws (n_v vs 0) 44)) (w_ei w2 (w_ar ws (n_v vs 0) 42)) (w_ei w2 (w_ar ws (n_v vs 0) 48)) (w_fi w2 (n_v vs 0) 49) (w_fi w2 (n_v vs 0) 45) (w_ei ws (w_ar ws (n_v vs 0) 46)) (w_ei w1 (w_ar ws (n_v vs 0) 46)) k1 k2 k3 f34 fe_0_31_1 fe_0_32_1 fe_0_49_1 fe_0_31_2 fe_0_32_2 fe_0_45_2 fe_0_49_2 hE_0_33_1 hE_0_33_2 hE_0_34_1 hE_0_34_2 hE_0_35_1 hE_0_35_2 hE_0_42_1 hE_0_42_2 hE_0_43_1 hE_0_43_2 hE_0_44_1 hE_0_44_2 hE_0_46_1 hE_0_48_1 hE_0_48_2 kz_0_31 kz_0_32 kz_0_49
  have nf5 : fc_1 PRD (20, [4, 5, 6, 7], [60, 2, 6, 134, 32, 49, 33, 34, 43, 44, 42, 48]) ws (vs ++ [Value.int x]) := by
    refine ⟨nf_inA hl rfl, sgq_1459 ?_⟩
    · show TG5 (w_fi ws (n_v (vs ++ [Value.int x]) 4) 32) (w_fi ws (n_v (vs ++ [Value.int x]) 4) 49) (w_ei ws (w_ar ws (n_v (vs ++ [Value.int x]) 4) 33)) (w_ei ws (w_ar ws (n_v (vs ++ [Value.int x]) 4) 34)) (w_ei ws (w_ar ws (n_v (vs ++ [Value.int x]) 4) 43)) (w_ei ws (w_ar ws (n_v (vs ++ [Value.int x]) 4) 44)) (w_ei ws (w_ar ws (n_v (vs ++ [Value.int x]) 4) 42)) (w_ei ws (w_ar ws (n_v (vs ++ [Value.int x]) 4) 48)) (v_iv (n_v (vs ++ [Value.int x]) 5)) (v_iv (n_v (vs ++ [Value.int x]) 6)) (v_iv (n_v (vs ++ [Value.int x]) 7))
      simp only [e_4, e_5, e_6, e_7, q4, q5, q6, q7]
      exact vc_Mo_shortest_23_5 (v_iv (n_v vs 1)) (v_iv (n_v vs 2)) (v_iv (n_v vs 3)) (w_ei ws (w_ar ws (n_v vs 0) 33)) (w_ei ws (w_ar ws (n_v vs 0) 34)) (w_fi ws (n_v vs 0) 31) (w_fi ws (n_v vs 0) 32) (w_ei ws (w_ar ws (n_v vs 0) 35)) (w_ei ws (w_ar ws (n_v vs 0) 43)) (w_ei ws (w_ar ws (n_v vs 0) 44)) (w_ei ws (w_ar ws (n_v vs 0) 42)) (w_ei ws (w_ar ws (n_v vs 0) 48)) (w_fi ws (n_v vs 0) 49) (w_fi w1 (n_v vs 0) 45) (w_ei w1 (w_ar ws (n_v vs 0) 33)) (w_ei w1 (w_ar ws (n_v vs 0) 34)) (w_fi w1 (n_v vs 0) 31) (w_fi w1 (n_v vs 0) 32) (w_ei w1 (w_ar ws (n_v vs 0) 35)) (w_ei w1 (w_ar ws (n_v vs 0) 43)) (w_ei w1 (w_ar ws (n_v vs 0) 44)) (w_ei w1 (w_ar ws (n_v vs 0) 42)) (w_ei w1 (w_ar ws (n_v vs 0) 48)) (w_fi w1 (n_v vs 0) 49) (w_ei w2 (w_ar ws (n_v vs 0) 33)) (w_ei w2 (w_ar ws (n_v vs 0) 34)) (w_fi w2 (n_v vs 0) 31) (w_fi w2 (n_v vs 0) 32) (w_ei w2 (w_ar ws (n_v vs 0) 35)) (w_ei w2 (w_ar ws (n_v vs 0) 43)) (w_ei w2 (w_ar ws (n_v vs 0) 44)) (w_ei w2 (w_ar ws (n_v vs 0) 42)) (w_ei w2 (w_ar ws (n_v vs 0) 48)) (w_fi w2 (n_v vs 0) 49) (w_fi w2 (n_v vs 0) 45) (w_ei ws (w_ar ws (n_v vs 0) 46)) (w_ei w1 (w_ar ws (n_v vs 0) 46)) k1 k2 k3 f35 fe_0_31_1 fe_0_32_1 fe_0_49_1 fe_0_31_2 fe_0_32_2 fe_0_45_2 fe_0_49_2 hE_0_33_1 hE_0_33_2 hE_0_34_1 hE_0_34_2 hE_0_35_1 hE_0_35_2 hE_0_42_1 hE_0_42_2 hE_0_43_1 hE_0_43_2 hE_0_44_1 hE_0_44_2 hE_0_46_1 hE_0_48_1 hE_0_48_2 kz_0_31 kz_0_32 kz_0_49
  have nf6 : fc_1 PRD (20, [4, 5, 6, 7, 10], [60, 4, 8, 131, 31, 32, 49, 45, 33, 34, 35, 43, 44, 42, 48, 46]) ws (vs ++ [Value.int x]) := by
    refine ⟨nf_inA hl rfl, sgq_1467 ?_⟩
    · show WLK (w_fi ws (n_v (vs ++ [Value.int x]) 4) 31) (w_fi ws (n_v (vs ++ [Value.int x]) 4) 32) (w_fi ws (n_v (vs ++ [Value.int x]) 4) 49) (w_fi ws (n_v (vs ++ [Value.int x]) 4) 45) (w_ei ws (w_ar ws (n_v (vs ++ [Value.int x]) 4) 33)) (w_ei ws (w_ar ws (n_v (vs ++ [Value.int x]) 4) 34)) (w_ei ws (w_ar ws (n_v (vs ++ [Value.int x]) 4) 35)) (w_ei ws (w_ar ws (n_v (vs ++ [Value.int x]) 4) 43)) (w_ei ws (w_ar ws (n_v (vs ++ [Value.int x]) 4) 44)) (w_ei ws (w_ar ws (n_v (vs ++ [Value.int x]) 4) 42)) (w_ei ws (w_ar ws (n_v (vs ++ [Value.int x]) 4) 48)) (w_ei ws (w_ar ws (n_v (vs ++ [Value.int x]) 4) 46)) (v_iv (n_v (vs ++ [Value.int x]) 5)) (v_iv (n_v (vs ++ [Value.int x]) 6)) (v_iv (n_v (vs ++ [Value.int x]) 7)) (v_iv (n_v (vs ++ [Value.int x]) 10))
      simp only [e_4, e_5, e_6, e_7, e_10, q4, q5, q6, q7]
      exact vc_Mo_shortest_23_6 (v_iv (n_v vs 1)) (v_iv (n_v vs 2)) (v_iv (n_v vs 3)) (v_iv (n_v vs 9)) (v_iv (n_v vs 10)) (v_iv (n_v vs 11)) (v_iv (n_v vs 12)) (v_iv (n_v vs 14)) (v_iv (n_v vs 15)) (v_iv (n_v vs 16)) (w_ei ws (w_ar ws (n_v vs 0) 33)) (w_ei ws (w_ar ws (n_v vs 0) 34)) (w_fi ws (n_v vs 0) 31) (w_fi ws (n_v vs 0) 32) (w_ei ws (w_ar ws (n_v vs 0) 35)) (w_ei ws (w_ar ws (n_v vs 0) 43)) (w_ei ws (w_ar ws (n_v vs 0) 44)) (w_ei ws (w_ar ws (n_v vs 0) 42)) (w_ei ws (w_ar ws (n_v vs 0) 48)) (w_fi ws (n_v vs 0) 49) (w_fi w1 (n_v vs 0) 45) (w_ei w1 (w_ar ws (n_v vs 0) 33)) (w_ei w1 (w_ar ws (n_v vs 0) 34)) (w_fi w1 (n_v vs 0) 31) (w_fi w1 (n_v vs 0) 32) (w_ei w1 (w_ar ws (n_v vs 0) 35)) (w_ei w1 (w_ar ws (n_v vs 0) 43)) (w_ei w1 (w_ar ws (n_v vs 0) 44)) (w_ei w1 (w_ar ws (n_v vs 0) 42)) (w_ei w1 (w_ar ws (n_v vs 0) 48)) (w_fi w1 (n_v vs 0) 49) (w_ei w2 (w_ar ws (n_v vs 0) 33)) (w_ei w2 (w_ar ws (n_v vs 0) 34)) (w_fi w2 (n_v vs 0) 31) (w_fi w2 (n_v vs 0) 32) (w_ei w2 (w_ar ws (n_v vs 0) 35)) (w_ei w2 (w_ar ws (n_v vs 0) 43)) (w_ei w2 (w_ar ws (n_v vs 0) 44)) (w_ei w2 (w_ar ws (n_v vs 0) 42)) (w_ei w2 (w_ar ws (n_v vs 0) 48)) (w_fi w2 (n_v vs 0) 49) (w_ei w2 (w_ar ws (n_v vs 0) 46)) (w_fi w2 (n_v vs 0) 45) (w_fi ws (n_v vs 0) 45) (w_ei ws (w_ar ws (n_v vs 0) 46)) (w_ei w1 (w_ar ws (n_v vs 0) 46)) (v_iv (Value.int x)) k1 k2 k3 k9 k10 k11 k12 k14 k16 d0 g15 f25 f26 f29 f31 f34 f35 f36 f37 f38 fe_0_31_1 fe_0_32_1 fe_0_45_1 fe_0_49_1 fe_0_31_2 fe_0_32_2 fe_0_45_2 fe_0_49_2 hE_0_33_1 hE_0_33_2 hE_0_34_1 hE_0_34_2 hE_0_35_1 hE_0_35_2 hE_0_42_1 hE_0_42_2 hE_0_43_1 hE_0_43_2 hE_0_44_1 hE_0_44_2 hE_0_46_1 hE_0_46_2 hE_0_48_1 hE_0_48_2 kz_0_31 kz_0_32 kz_0_45 kz_0_49 ex2
  have nf7 : fc_1 PRD (20, [4, 17], [30, 62, 1, 1, 45, 1, 0, 0]) ws (vs ++ [Value.int x]) := by
    refine ⟨nf_inA hl rfl, sgq_1461 ?_⟩
    · show 1 * w_fi ws (n_v (vs ++ [Value.int x]) 4) 45 + (1 * v_iv (n_v (vs ++ [Value.int x]) 17) + 0) ≤ 62
      simp only [e_4, e_17, q4]
      exact vc_Mo_shortest_23_7 (v_iv (n_v vs 12)) (v_iv (n_v vs 14)) (v_iv (n_v vs 16)) (w_ei ws (w_ar ws (n_v vs 0) 33)) (w_ei ws (w_ar ws (n_v vs 0) 34)) (w_fi ws (n_v vs 0) 31) (w_fi ws (n_v vs 0) 32) (w_ei ws (w_ar ws (n_v vs 0) 35)) (w_ei ws (w_ar ws (n_v vs 0) 43)) (w_ei ws (w_ar ws (n_v vs 0) 44)) (w_ei ws (w_ar ws (n_v vs 0) 42)) (w_ei ws (w_ar ws (n_v vs 0) 48)) (w_fi ws (n_v vs 0) 49) (w_fi w1 (n_v vs 0) 45) (w_ei w1 (w_ar ws (n_v vs 0) 33)) (w_ei w1 (w_ar ws (n_v vs 0) 34)) (w_fi w1 (n_v vs 0) 31) (w_fi w1 (n_v vs 0) 32) (w_ei w1 (w_ar ws (n_v vs 0) 35)) (w_ei w1 (w_ar ws (n_v vs 0) 43)) (w_ei w1 (w_ar ws (n_v vs 0) 44)) (w_ei w1 (w_ar ws (n_v vs 0) 42)) (w_ei w1 (w_ar ws (n_v vs 0) 48)) (w_fi w1 (n_v vs 0) 49) (w_ei w2 (w_ar ws (n_v vs 0) 33)) (w_ei w2 (w_ar ws (n_v vs 0) 34)) (w_fi w2 (n_v vs 0) 31) (w_fi w2 (n_v vs 0) 32) (w_ei w2 (w_ar ws (n_v vs 0) 35)) (w_ei w2 (w_ar ws (n_v vs 0) 43)) (w_ei w2 (w_ar ws (n_v vs 0) 44)) (w_ei w2 (w_ar ws (n_v vs 0) 42)) (w_ei w2 (w_ar ws (n_v vs 0) 48)) (w_fi w2 (n_v vs 0) 49) (w_fi w2 (n_v vs 0) 45) (w_fi ws (n_v vs 0) 45) (w_ei ws (w_ar ws (n_v vs 0) 46)) (w_ei w1 (w_ar ws (n_v vs 0) 46)) (v_iv (Value.int x)) k12 k14 k16 d0 g15 f25 f26 fe_0_31_1 fe_0_32_1 fe_0_45_1 fe_0_49_1 fe_0_31_2 fe_0_32_2 fe_0_45_2 fe_0_49_2 hE_0_33_1 hE_0_33_2 hE_0_34_1 hE_0_34_2 hE_0_35_1 hE_0_35_2 hE_0_42_1 hE_0_42_2 hE_0_43_1 hE_0_43_2 hE_0_44_1 hE_0_44_2 hE_0_46_1 hE_0_48_1 hE_0_48_2 kz_0_31 kz_0_32 kz_0_45 kz_0_49 ex2
  have nf8 : fc_1 PRD (20, [4, 17], [30, -62, -1, 1, 45, -1, 0, 0]) ws (vs ++ [Value.int x]) := by
    refine ⟨nf_inA hl rfl, sgq_1462 ?_⟩
    · show (-1) * w_fi ws (n_v (vs ++ [Value.int x]) 4) 45 + ((-1) * v_iv (n_v (vs ++ [Value.int x]) 17) + 0) ≤ (-62)
      simp only [e_4, e_17, q4]
      exact vc_Mo_shortest_23_8 (v_iv (n_v vs 12)) (v_iv (n_v vs 14)) (v_iv (n_v vs 16)) (w_ei ws (w_ar ws (n_v vs 0) 33)) (w_ei ws (w_ar ws (n_v vs 0) 34)) (w_fi ws (n_v vs 0) 31) (w_fi ws (n_v vs 0) 32) (w_ei ws (w_ar ws (n_v vs 0) 35)) (w_ei ws (w_ar ws (n_v vs 0) 43)) (w_ei ws (w_ar ws (n_v vs 0) 44)) (w_ei ws (w_ar ws (n_v vs 0) 42)) (w_ei ws (w_ar ws (n_v vs 0) 48)) (w_fi ws (n_v vs 0) 49) (w_fi w1 (n_v vs 0) 45) (w_ei w1 (w_ar ws (n_v vs 0) 33)) (w_ei w1 (w_ar ws (n_v vs 0) 34)) (w_fi w1 (n_v vs 0) 31) (w_fi w1 (n_v vs 0) 32) (w_ei w1 (w_ar ws (n_v vs 0) 35)) (w_ei w1 (w_ar ws (n_v vs 0) 43)) (w_ei w1 (w_ar ws (n_v vs 0) 44)) (w_ei w1 (w_ar ws (n_v vs 0) 42)) (w_ei w1 (w_ar ws (n_v vs 0) 48)) (w_fi w1 (n_v vs 0) 49) (w_ei w2 (w_ar ws (n_v vs 0) 33)) (w_ei w2 (w_ar ws (n_v vs 0) 34)) (w_fi w2 (n_v vs 0) 31) (w_fi w2 (n_v vs 0) 32) (w_ei w2 (w_ar ws (n_v vs 0) 35)) (w_ei w2 (w_ar ws (n_v vs 0) 43)) (w_ei w2 (w_ar ws (n_v vs 0) 44)) (w_ei w2 (w_ar ws (n_v vs 0) 42)) (w_ei w2 (w_ar ws (n_v vs 0) 48)) (w_fi w2 (n_v vs 0) 49) (w_fi w2 (n_v vs 0) 45) (w_fi ws (n_v vs 0) 45) (w_ei ws (w_ar ws (n_v vs 0) 46)) (w_ei w1 (w_ar ws (n_v vs 0) 46)) (v_iv (Value.int x)) k12 k14 k16 d0 g15 f25 f26 fe_0_31_1 fe_0_32_1 fe_0_45_1 fe_0_49_1 fe_0_31_2 fe_0_32_2 fe_0_45_2 fe_0_49_2 hE_0_33_1 hE_0_33_2 hE_0_34_1 hE_0_34_2 hE_0_35_1 hE_0_35_2 hE_0_42_1 hE_0_42_2 hE_0_43_1 hE_0_43_2 hE_0_44_1 hE_0_44_2 hE_0_46_1 hE_0_48_1 hE_0_48_2 kz_0_31 kz_0_32 kz_0_45 kz_0_49 ex2
  have nf9 : fc_1 PRD (24, [0, 4], []) ws (vs ++ [Value.int x]) := by
    refine ⟨nf_inA hl rfl, sgq_5 ?_⟩
    · show n_v (vs ++ [Value.int x]) 0 = n_v (vs ++ [Value.int x]) 4
      first | rfl | simp only [e_0, e_4, q4, q5, q6, q7]
  have nf10 : fc_1 PRD (24, [1, 5], []) ws (vs ++ [Value.int x]) := by
    refine ⟨nf_inA hl rfl, sgq_5 ?_⟩
    · show n_v (vs ++ [Value.int x]) 1 = n_v (vs ++ [Value.int x]) 5
      first | rfl | simp only [e_1, e_5, q4, q5, q6, q7]
  have nf11 : fc_1 PRD (24, [2, 6], []) ws (vs ++ [Value.int x]) := by
    refine ⟨nf_inA hl rfl, sgq_5 ?_⟩
    · show n_v (vs ++ [Value.int x]) 2 = n_v (vs ++ [Value.int x]) 6
      first | rfl | simp only [e_2, e_6, q4, q5, q6, q7]
  have nf12 : fc_1 PRD (24, [3, 7], []) ws (vs ++ [Value.int x]) := by
    refine ⟨nf_inA hl rfl, sgq_5 ?_⟩
    · show n_v (vs ++ [Value.int x]) 3 = n_v (vs ++ [Value.int x]) 7
      first | rfl | simp only [e_3, e_7, q4, q5, q6, q7]
  obtain ⟨x0, e0, _, _⟩ := tv_int t12 rfl
  have e1 : v_iv (n_v vs 12) = x0.toInt := by rw [e0]; rfl
  have ho : sy_ofs (vs ++ [Value.int x]) (17, 12, -1000000000000, -1) := by
    refine ⟨x, x0, by rw [List.getElem?_append_right (by rw [hl]; decide), hl]; rfl, ?_, ?_, ?_⟩
    · rw [List.getElem?_append_left (by rw [hl]; decide)]; exact n_v_some (by rw [hl]; decide) e0
    · show x0.toInt + (-1000000000000) ≤ x.toInt; omega
    · show x.toInt ≤ x0.toInt + (-1); omega
  exact ⟨(fun _ h => (by cases h)), [Value.int x], ag_one hx, List.forall_mem_cons.mpr ⟨⟨show (20 : Nat) < 100 from by decide, nf0⟩, List.forall_mem_cons.mpr ⟨⟨show (20 : Nat) < 100 from by decide, nf1⟩, List.forall_mem_cons.mpr ⟨⟨show (20 : Nat) < 100 from by decide, nf2⟩, List.forall_mem_cons.mpr ⟨⟨show (20 : Nat) < 100 from by decide, nf3⟩, List.forall_mem_cons.mpr ⟨⟨show (20 : Nat) < 100 from by decide, nf4⟩, List.forall_mem_cons.mpr ⟨⟨show (20 : Nat) < 100 from by decide, nf5⟩, List.forall_mem_cons.mpr ⟨⟨show (20 : Nat) < 100 from by decide, nf6⟩, List.forall_mem_cons.mpr ⟨⟨show (20 : Nat) < 100 from by decide, nf7⟩, List.forall_mem_cons.mpr ⟨⟨show (20 : Nat) < 100 from by decide, nf8⟩, List.forall_mem_cons.mpr ⟨⟨show (24 : Nat) < 100 from by decide, nf9⟩, List.forall_mem_cons.mpr ⟨⟨show (24 : Nat) < 100 from by decide, nf10⟩, List.forall_mem_cons.mpr ⟨⟨show (24 : Nat) < 100 from by decide, nf11⟩, List.forall_mem_cons.mpr ⟨⟨show (24 : Nat) < 100 from by decide, nf12⟩, (fun _ h => (by cases h))⟩⟩⟩⟩⟩⟩⟩⟩⟩⟩⟩⟩⟩, List.forall_mem_cons.mpr ⟨ho, (fun _ h => (by cases h))⟩⟩

set_option maxHeartbeats 4000000 in
theorem vc_Mo_shortest_24_0 (x2 : Int) (x3 : Int) (x9 : Int) (x10 : Int) (x11 : Int) (x13 : Int) (x14 : Int) (pt_0 : Int → Int) (ph_0 : Int → Int) (alive_0 : Int → Int) (pm_0 : Int) (pn_0 : Int) (drawnEdge_0 : Int → Int) (pieceOf_0 : Int → Int) (drawnNode_0 : Int → Int) (toGoal_0 : Int → Int) (onlyPiece_0 : Int) (k2 : 0 ≤ x2 ∧ x2 ≤ 24) (k3 : 0 ≤ x3 ∧ x3 ≤ 1) (k9 : 0 ≤ x9 ∧ x9 ≤ 24) (k10 : (-1) ≤ x10 ∧ x10 ≤ 24) (k11 : 0 ≤ x11 ∧ x11 ≤ 24) (k13 : (-1) ≤ x13 ∧ x13 ≤ (-1)) (k14 : (-1) ≤ x14 ∧ x14 ≤ 23) (f0 : x14 = x11 + (-1)) (f2 : EOF (pm_0) (pt_0) (ph_0) (alive_0) (x9) (x11) (x13)) (f11 : NXT (pn_0) (pm_0) (onlyPiece_0) (pt_0) (ph_0) (alive_0) (drawnEdge_0) (pieceOf_0) (drawnNode_0) (toGoal_0) (x2) (x3) (x9) (x10) (x11)) (kz_0_31 : 0 ≤ pn_0 ∧ pn_0 ≤ 25) (kz_0_32 : 0 ≤ pm_0 ∧ pm_0 ≤ 80) (kz_0_49 : (-1) ≤ onlyPiece_0 ∧ onlyPiece_0 ≤ 79) : NXT (pn_0) (pm_0) (onlyPiece_0) (pt_0) (ph_0) (alive_0) (drawnEdge_0) (pieceOf_0) (drawnNode_0) (toGoal_0) (x2) (x3) (x9) (x10) (x14) := by
  first
    | (have h := ‹NXT _ _ _ _ _ _ _ _ _ _ _ _ _ _ _›
       have hEo := ‹EOF _ _ _ _ _ _ _›
       first
         | (rw [show x14 = x11 + -1 by omega]
            refine nxt_skip h (fun g => ?_)
            obtain ⟨e, je, _⟩ := g.2.2.1
            rcases hEo with z | z
            · exact z.2 e je
            · have := z.1; omega)
         | (have jx : JJ pm_0 pt_0 ph_0 alive_0 x13 x9 x11 := hEo.elim (fun z => by exfalso; have := z.1; omega) id
            have mg := ‹MGP _ _ _ _ _›
            first
              | (rw [show x15 = x11 + -1 by omega]
                 refine nxt_skip h (fun g => ?_)
                 obtain ⟨e, je, me⟩ := g.2.2.1
                 rw [JJ_one ‹GOK _ _ _ _› je jx] at me
                 exact absurd (mg.mpr me) (by omega))
              | (first | rw [show x19 = x11 + -1 by omega] | rw [show x20 = x11 + -1 by omega] | rw [show x21 = x11 + -1 by omega] | rw [show x22 = x11 + -1 by omega] | rw [show x23 = x11 + -1 by omega]
                 refine nxt_skip h (fun g => ?_)
                 have g4 := g.2.2.2.1
                 have g5 := g.2.2.2.2
                 omega)
              | (first | rw [show x19 = x11 + -1 by omega] | rw [show x20 = x11 + -1 by omega] | rw [show x21 = x11 + -1 by omega] | rw [show x22 = x11 + -1 by omega] | rw [show x23 = x11 + -1 by omega]
                 refine nxt_take ⟨by omega, by omega, ⟨x13, jx, mg.mp (by omega)⟩, by omega, ?_⟩
                 first
                   | exact Or.inl (by omega)
                   | exact Or.inr (Or.inl (by omega))
                   | exact Or.inr (Or.inr (by omega)))))
set_option maxHeartbeats 4000000 in
theorem vc_Mo_shortest_24_1 (x11 : Int) (x14 : Int) (pn_0 : Int) (k11 : 0 ≤ x11 ∧ x11 ≤ 24) (k14 : (-1) ≤ x14 ∧ x14 ≤ 23) (d0 : x11 + (-1) ≤ x14 ∧ x14 ≤ x11 + (-1)) (f13 : 1 * x11 + ((-1) * pn_0 + 0) ≤ (-1)) (kz_0_31 : 0 ≤ pn_0 ∧ pn_0 ≤ 25) : 1 * x14 + ((-1) * pn_0 + 0) ≤ (-1) := by
  first | omega
def o_Mo_shortest_24 : or_T := (204, 15, [(0, (2, 0, 0, [165])), (1, (0, 0, 24, [])), (2, (0, 0, 24, [])), (3, (0, 0, 1, [])), (4, (2, 0, 0, [165])), (5, (0, 0, 24, [])), (6, (0, 0, 24, [])), (7, (0, 0, 1, [])), (9, (0, 0, 24, [])), (10, (0, -1, 24, [])), (11, (0, 0, 24, [])), (12, (0, -2, 61, [])), (13, (0, -1, -1, [])), (14, (0, -1, 23, []))], [(6, [14, 11], [-1]), (8, [13], [2]), (20, [4, 9, 11, 13], [60, 1, 3, 85, 32, 33, 34, 35]), (8, [11], [3]), (20, [4], [60, 2, 2, 75, 31, 32, 33, 34]), (20, [4], [60, 1, 2, 122, 32, 35, 43]), (20, [5, 4], [30, -1, 1, 0, 0, -1, 1, 31]), (20, [6, 4], [30, -1, 1, 0, 0, -1, 1, 31]), (20, [4, 5, 6, 7], [60, 3, 6, 124, 31, 32, 49, 33, 34, 43, 44, 42, 48]), (20, [4, 5, 6, 7], [60, 2, 6, 134, 32, 49, 33, 34, 43, 44, 42, 48]), (20, [4, 5, 6, 7, 9], [60, 4, 8, 131, 31, 32, 49, 45, 33, 34, 35, 43, 44, 42, 48, 46]), (20, [4, 6, 7, 9, 10, 11], [60, 3, 7, 132, 31, 32, 49, 33, 34, 35, 43, 44, 42, 48]), (20, [9, 6], [50, 0, 0, 7, 2, 1, 0, 1, 1]), (20, [11, 4], [30, -1, 1, 0, 0, -1, 1, 31]), (20, [4, 12], [30, 62, 1, 1, 45, 1, 0, 0]), (20, [4, 12], [30, -62, -1, 1, 45, -1, 0, 0]), (24, [0, 4], []), (24, [1, 5], []), (24, [2, 6], []), (24, [3, 7], [])], [], [], [(20, [4, 6, 7, 9, 10, 14], [60, 3, 7, 132, 31, 32, 49, 33, 34, 35, 43, 44, 42, 48]), (20, [14, 4], [30, -1, 1, 0, 0, -1, 1, 31])], [], [(14, 11, -1, -1), (1, 5, -4294967296, 0), (2, 6, -4294967296, 0), (3, 7, -4294967296, 0), (5, 1, -4294967296, 0), (6, 2, -4294967296, 0), (7, 3, -4294967296, 0)])
theorem oo_Mo_shortest_24 {kA : Nat → ClassId} : or_ok PRD kA GG o_Mo_shortest_24 := by
  refine or_mk fun A ta ws vs hD hth hl => ?_
  intro t0 r0 t1 k1 t2 k2 t3 k3 t4 r4 t5 k5 t6 k6 t7 k7 t9 k9 t10 k10 t11 k11 t12 k12 t13 k13 t14 k14 d0 d1 d2 d3 d4 d5 d6 f0 f1 f2 f3 f4 f5 f6 f7 f8 f9 f10 f11 f12 f13 f14 f15 f16 f17 f18 f19
  replace f0 := shm_186 f0
  replace f1 := shm_39 f1
  replace f2 := shm_990 f2
  replace f3 := shm_32 f3
  replace f4 := shm_575 f4
  replace f5 := shm_1455 f5
  replace f6 := shm_553 f6
  replace f7 := shm_553 f7
  replace f8 := shm_549 f8
  replace f9 := shm_1459 f9
  replace f10 := shm_1467 f10
  replace f11 := shm_1468 f11
  replace f12 := shm_406 f12
  replace f13 := shm_553 f13
  replace f14 := shm_1461 f14
  replace f15 := shm_1462 f15
  replace f16 := shm_5 f16
  replace f17 := shm_5 f17
  replace f18 := shm_5 f18
  replace f19 := shm_5 f19
  have q4 : n_v vs 4 = n_v vs 0 := f16.symm
  have q5 : n_v vs 5 = n_v vs 1 := f17.symm
  have q6 : n_v vs 6 = n_v vs 2 := f18.symm
  have q7 : n_v vs 7 = n_v vs 3 := f19.symm
  simp only [q4, q5, q6, q7] at f2 f4 f5 f6 f7 f8 f9 f10 f11 f12 f13 f14 f15
  have cr_0_33 := fdq_117 hD hth r0
  have cr_0_34 := fdq_118 hD hth r0
  have cr_0_35 := fdq_132 hD hth r0
  have cr_0_42 := fdq_136 hD hth r0
  have cr_0_43 := fdq_137 hD hth r0
  have cr_0_44 := fdq_138 hD hth r0
  have cr_0_46 := fdq_190 hD hth r0
  have cr_0_48 := fdq_144 hD hth r0
  have hK_0_33 := elq_60 hD hth cr_0_33
  have hK_0_34 := elq_61 hD hth cr_0_34
  have hK_0_35 := elq_72 hD hth cr_0_35
  have hK_0_42 := elq_75 hD hth cr_0_42
  have hK_0_43 := elq_76 hD hth cr_0_43
  have hK_0_44 := elq_77 hD hth cr_0_44
  have hK_0_46 := elq_114 hD hth cr_0_46
  have hK_0_48 := elq_82 hD hth cr_0_48
  have kz_0_31 := fdq_145 hD hth r0
  have kz_0_32 := fdq_140 hD hth r0
  have kz_0_45 := fdq_191 hD hth r0
  have kz_0_49 := fdq_146 hD hth r0
  first | have hW := wlk_bd ‹TGI _ _ _ _ _ _ _ _ _ _ _ _› ‹TG5 _ _ _ _ _ _ _ _ _ _ _› ‹WLK _ _ _ _ _ _ _ _ _ _ _ _ _ _ _ _› | skip
  first | have hX := nxt_some ‹UA _ _ _› ‹TGI _ _ _ _ _ _ _ _ _ _ _ _› ‹TG5 _ _ _ _ _ _ _ _ _ _ _› ‹WLK _ _ _ _ _ _ _ _ _ _ _ _ _ _ _ _› (by assumption) ‹NXT _ _ _ _ _ _ _ _ _ _ _ _ _ _ _› (by omega) | skip
  first | have hX1 := hX.1 | skip
  first | have hX2 := hX.2.1 | skip
  have nf0 : fc_1 PRD (20, [4, 6, 7, 9, 10, 14], [60, 3, 7, 132, 31, 32, 49, 33, 34, 35, 43, 44, 42, 48]) ws (vs) := by
    refine ⟨nf_in hl rfl, sgq_1468 ?_⟩
    · show NXT (w_fi ws (n_v vs 4) 31) (w_fi ws (n_v vs 4) 32) (w_fi ws (n_v vs 4) 49) (w_ei ws (w_ar ws (n_v vs 4) 33)) (w_ei ws (w_ar ws (n_v vs 4) 34)) (w_ei ws (w_ar ws (n_v vs 4) 35)) (w_ei ws (w_ar ws (n_v vs 4) 43)) (w_ei ws (w_ar ws (n_v vs 4) 44)) (w_ei ws (w_ar ws (n_v vs 4) 42)) (w_ei ws (w_ar ws (n_v vs 4) 48)) (v_iv (n_v vs 6)) (v_iv (n_v vs 7)) (v_iv (n_v vs 9)) (v_iv (n_v vs 10)) (v_iv (n_v vs 14))
      simp only [q4, q6, q7]
      exact vc_Mo_shortest_24_0 (v_iv (n_v vs 2)) (v_iv (n_v vs 3)) (v_iv (n_v vs 9)) (v_iv (n_v vs 10)) (v_iv (n_v vs 11)) (v_iv (n_v vs 13)) (v_iv (n_v vs 14)) (w_ei ws (w_ar ws (n_v vs 0) 33)) (w_ei ws (w_ar ws (n_v vs 0) 34)) (w_ei ws (w_ar ws (n_v vs 0) 35)) (w_fi ws (n_v vs 0) 32) (w_fi ws (n_v vs 0) 31) (w_ei ws (w_ar ws (n_v vs 0) 43)) (w_ei ws (w_ar ws (n_v vs 0) 44)) (w_ei ws (w_ar ws (n_v vs 0) 42)) (w_ei ws (w_ar ws (n_v vs 0) 48)) (w_fi ws (n_v vs 0) 49) k2 k3 k9 k10 k11 k13 k14 f0 f2 f11 kz_0_31 kz_0_32 kz_0_49
  have nf1 : fc_1 PRD (20, [14, 4], [30, -1, 1, 0, 0, -1, 1, 31]) ws (vs) := by
    refine ⟨nf_in hl rfl, sgq_553 ?_⟩
    · show 1 * v_iv (n_v vs 14) + ((-1) * w_fi ws (n_v vs 4) 31 + 0) ≤ (-1)
      rw [q4]
      exact vc_Mo_shortest_24_1 (v_iv (n_v vs 11)) (v_iv (n_v vs 14)) (w_fi ws (n_v vs 0) 31) k11 k14 d0 f13 kz_0_31
  refine ⟨(fun _ h => (by cases h)), [], trivial, ?_, (fun _ h => (by cases h))⟩
  rw [List.append_nil]
  exact List.forall_mem_cons.mpr ⟨⟨show (20 : Nat) < 100 from by decide, nf0⟩, List.forall_mem_cons.mpr ⟨⟨show (20 : Nat) < 100 from by decide, nf1⟩, (fun _ h => (by cases h))⟩⟩
set_option maxHeartbeats 4000000 in
theorem vc_Mo_shortest_25_0 (x2 : Int) (x3 : Int) (x9 : Int) (x10 : Int) (x11 : Int) (x13 : Int) (x14 : Int) (x15 : Int) (drawnEdge_0 : Int → Int) (pieceOf_0 : Int → Int) (onlyPiece_0 : Int) (pt_0 : Int → Int) (ph_0 : Int → Int) (alive_0 : Int → Int) (pm_0 : Int) (pn_0 : Int) (drawnNode_0 : Int → Int) (toGoal_0 : Int → Int) (k2 : 0 ≤ x2 ∧ x2 ≤ 24) (k3 : 0 ≤ x3 ∧ x3 ≤ 1) (k9 : 0 ≤ x9 ∧ x9 ≤ 24) (k10 : (-1) ≤ x10 ∧ x10 ≤ 24) (k11 : 0 ≤ x11 ∧ x11 ≤ 24) (k13 : 0 ≤ x13 ∧ x13 ≤ 79) (k14 : 0 ≤ x14 ∧ x14 ≤ 0) (k15 : (-1) ≤ x15 ∧ x15 ≤ 23) (f0 : x15 = x11 + (-1)) (f2 : MGP (onlyPiece_0) (drawnEdge_0) (pieceOf_0) (x13) (x14)) (f4 : EOF (pm_0) (pt_0) (ph_0) (alive_0) (x9) (x11) (x13)) (f6 : GOK (pn_0) (pm_0) (pt_0) (ph_0)) (f13 : NXT (pn_0) (pm_0) (onlyPiece_0) (pt_0) (ph_0) (alive_0) (drawnEdge_0) (pieceOf_0) (drawnNode_0) (toGoal_0) (x2) (x3) (x9) (x10) (x11)) (kz_0_31 : 0 ≤ pn_0 ∧ pn_0 ≤ 25) (kz_0_32 : 0 ≤ pm_0 ∧ pm_0 ≤ 80) (kz_0_49 : (-1) ≤ onlyPiece_0 ∧ onlyPiece_0 ≤ 79) : NXT (pn_0) (pm_0) (onlyPiece_0) (pt_0) (ph_0) (alive_0) (drawnEdge_0) (pieceOf_0) (drawnNode_0) (toGoal_0) (x2) (x3) (x9) (x10) (x15) := by
  first
    | (have h := ‹NXT _ _ _ _ _ _ _ _ _ _ _ _ _ _ _›
       have hEo := ‹EOF _ _ _ _ _ _ _›
       first
         | (rw [show x14 = x11 + -1 by omega]
            refine nxt_skip h (fun g => ?_)
            obtain ⟨e, je, _⟩ := g.2.2.1
            rcases hEo with z | z
            · exact z.2 e je
            · have := z.1; omega)
         | (have jx : JJ pm_0 pt_0 ph_0 alive_0 x13 x9 x11 := hEo.elim (fun z => by exfalso; have := z.1; omega) id
            have mg := ‹MGP _ _ _ _ _›
            first
              | (rw [show x15 = x11 + -1 by omega]
                 refine nxt_skip h (fun g => ?_)
                 obtain ⟨e, je, me⟩ := g.2.2.1
                 rw [JJ_one ‹GOK _ _ _ _› je jx] at me
                 exact absurd (mg.mpr me) (by omega))
              | (first | rw [show x19 = x11 + -1 by omega] | rw [show x20 = x11 + -1 by omega] | rw [show x21 = x11 + -1 by omega] | rw [show x22 = x11 + -1 by omega] | rw [show x23 = x11 + -1 by omega]
                 refine nxt_skip h (fun g => ?_)
                 have g4 := g.2.2.2.1
                 have g5 := g.2.2.2.2
                 omega)
              | (first | rw [show x19 = x11 + -1 by omega] | rw [show x20 = x11 + -1 by omega] | rw [show x21 = x11 + -1 by omega] | rw [show x22 = x11 + -1 by omega] | rw [show x23 = x11 + -1 by omega]
                 refine nxt_take ⟨by omega, by omega, ⟨x13, jx, mg.mp (by omega)⟩, by omega, ?_⟩
                 first
                   | exact Or.inl (by omega)
                   | exact Or.inr (Or.inl (by omega))
                   | exact Or.inr (Or.inr (by omega)))))
set_option maxHeartbeats 4000000 in
theorem vc_Mo_shortest_25_1 (x11 : Int) (x15 : Int) (pn_0 : Int) (k11 : 0 ≤ x11 ∧ x11 ≤ 24) (k15 : (-1) ≤ x15 ∧ x15 ≤ 23) (d0 : x11 + (-1) ≤ x15 ∧ x15 ≤ x11 + (-1)) (f15 : 1 * x11 + ((-1) * pn_0 + 0) ≤ (-1)) (kz_0_31 : 0 ≤ pn_0 ∧ pn_0 ≤ 25) : 1 * x15 + ((-1) * pn_0 + 0) ≤ (-1) := by
  first | omega
def o_Mo_shortest_25 : or_T := (204, 16, [(0, (2, 0, 0, [165])), (1, (0, 0, 24, [])), (2, (0, 0, 24, [])), (3, (0, 0, 1, [])), (4, (2, 0, 0, [165])), (5, (0, 0, 24, [])), (6, (0, 0, 24, [])), (7, (0, 0, 1, [])), (9, (0, 0, 24, [])), (10, (0, -1, 24, [])), (11, (0, 0, 24, [])), (12, (0, -2, 61, [])), (13, (0, 0, 79, [])), (14, (0, 0, 0, [])), (15, (0, -1, 23, []))], [(6, [15, 11], [-1]), (8, [14], [0]), (20, [4, 13, 14], [60, 1, 2, 120, 49, 43, 44]), (8, [13], [3]), (20, [4, 9, 11, 13], [60, 1, 3, 85, 32, 33, 34, 35]), (8, [11], [3]), (20, [4], [60, 2, 2, 75, 31, 32, 33, 34]), (20, [4], [60, 1, 2, 122, 32, 35, 43]), (20, [5, 4], [30, -1, 1, 0, 0, -1, 1, 31]), (20, [6, 4], [30, -1, 1, 0, 0, -1, 1, 31]), (20, [4, 5, 6, 7], [60, 3, 6, 124, 31, 32, 49, 33, 34, 43, 44, 42, 48]), (20, [4, 5, 6, 7], [60, 2, 6, 134, 32, 49, 33, 34, 43, 44, 42, 48]), (20, [4, 5, 6, 7, 9], [60, 4, 8, 131, 31, 32, 49, 45, 33, 34, 35, 43, 44, 42, 48, 46]), (20, [4, 6, 7, 9, 10, 11], [60, 3, 7, 132, 31, 32, 49, 33, 34, 35, 43, 44, 42, 48]), (20, [9, 6], [50, 0, 0, 7, 2, 1, 0, 1, 1]), (20, [11, 4], [30, -1, 1, 0, 0, -1, 1, 31]), (20, [4, 12], [30, 62, 1, 1, 45, 1, 0, 0]), (20, [4, 12], [30, -62, -1, 1, 45, -1, 0, 0]), (24, [0, 4], []), (24, [1, 5], []), (24, [2, 6], []), (24, [3, 7], [])], [], [], [(20, [4, 6, 7, 9, 10, 15], [60, 3, 7, 132, 31, 32, 49, 33, 34, 35, 43, 44, 42, 48]), (20, [15, 4], [30, -1, 1, 0, 0, -1, 1, 31])], [], [(15, 11, -1, -1), (1, 5, -4294967296, 0), (2, 6, -4294967296, 0), (3, 7, -4294967296, 0), (5, 1, -4294967296, 0), (6, 2, -4294967296, 0), (7, 3, -4294967296, 0)])
theorem oo_Mo_shortest_25 {kA : Nat → ClassId} : or_ok PRD kA GG o_Mo_shortest_25 := by
  refine or_mk fun A ta ws vs hD hth hl => ?_
  intro t0 r0 t1 k1 t2 k2 t3 k3 t4 r4 t5 k5 t6 k6 t7 k7 t9 k9 t10 k10 t11 k11 t12 k12 t13 k13 t14 k14 t15 k15 d0 d1 d2 d3 d4 d5 d6 f0 f1 f2 f3 f4 f5 f6 f7 f8 f9 f10 f11 f12 f13 f14 f15 f16 f17 f18 f19 f20 f21
  replace f0 := shm_186 f0
  replace f1 := shm_192 f1
  replace f2 := shm_638 f2
  replace f3 := shm_32 f3
  replace f4 := shm_990 f4
  replace f5 := shm_32 f5
  replace f6 := shm_575 f6
  replace f7 := shm_1455 f7
  replace f8 := shm_553 f8
  replace f9 := shm_553 f9
  replace f10 := shm_549 f10
  replace f11 := shm_1459 f11
  replace f12 := shm_1467 f12
  replace f13 := shm_1468 f13
  replace f14 := shm_406 f14
  replace f15 := shm_553 f15
  replace f16 := shm_1461 f16
  replace f17 := shm_1462 f17
  replace f18 := shm_5 f18
  replace f19 := shm_5 f19
  replace f20 := shm_5 f20
  replace f21 := shm_5 f21
  have q4 : n_v vs 4 = n_v vs 0 := f18.symm
  have q5 : n_v vs 5 = n_v vs 1 := f19.symm
  have q6 : n_v vs 6 = n_v vs 2 := f20.symm
  have q7 : n_v vs 7 = n_v vs 3 := f21.symm
  simp only [q4, q5, q6, q7] at f2 f4 f6 f7 f8 f9 f10 f11 f12 f13 f14 f15 f16 f17
  have cr_0_33 := fdq_117 hD hth r0
  have cr_0_34 := fdq_118 hD hth r0
  have cr_0_35 := fdq_132 hD hth r0
  have cr_0_42 := fdq_136 hD hth r0
  have cr_0_43 := fdq_137 hD hth r0
  have cr_0_44 := fdq_138 hD hth r0
  have cr_0_46 := fdq_190 hD hth r0
  have cr_0_48 := fdq_144 hD hth r0
  have hK_0_33 := elq_60 hD hth cr_0_33
  have hK_0_34 := elq_61 hD hth cr_0_34
  have hK_0_35 := elq_72 hD hth cr_0_35
  have hK_0_42 := elq_75 hD hth cr_0_42
  have hK_0_43 := elq_76 hD hth cr_0_43
  have hK_0_44 := elq_77 hD hth cr_0_44
  have hK_0_46 := elq_114 hD hth cr_0_46
  have hK_0_48 := elq_82 hD hth cr_0_48
  have kz_0_31 := fdq_145 hD hth r0
  have kz_0_32 := fdq_140 hD hth r0
  have kz_0_45 := fdq_191 hD hth r0
  have kz_0_49 := fdq_146 hD hth r0
  first | have hW := wlk_bd ‹TGI _ _ _ _ _ _ _ _ _ _ _ _› ‹TG5 _ _ _ _ _ _ _ _ _ _ _› ‹WLK _ _ _ _ _ _ _ _ _ _ _ _ _ _ _ _› | skip
  first | have hX := nxt_some ‹UA _ _ _› ‹TGI _ _ _ _ _ _ _ _ _ _ _ _› ‹TG5 _ _ _ _ _ _ _ _ _ _ _› ‹WLK _ _ _ _ _ _ _ _ _ _ _ _ _ _ _ _› (by assumption) ‹NXT _ _ _ _ _ _ _ _ _ _ _ _ _ _ _› (by omega) | skip
  first | have hX1 := hX.1 | skip
  first | have hX2 := hX.2.1 | skip
  have nf0 : fc_1 PRD (20, [4, 6, 7, 9, 10, 15], [60, 3, 7, 132, 31, 32, 49, 33, 34, 35, 43, 44, 42, 48]) ws (vs) := by
    refine ⟨nf_in hl rfl, sgq_1468 ?_⟩
    · show NXT (w_fi ws (n_v vs 4) 31) (w_fi ws (n_v vs 4) 32) (w_fi ws (n_v vs 4) 49) (w_ei ws (w_ar ws (n_v vs 4) 33)) (w_ei ws (w_ar ws (n_v vs 4) 34)) (w_ei ws (w_ar ws (n_v vs 4) 35)) (w_ei ws (w_ar ws (n_v vs 4) 43)) (w_ei ws (w_ar ws (n_v vs 4) 44)) (w_ei ws (w_ar ws (n_v vs 4) 42)) (w_ei ws (w_ar ws (n_v vs 4) 48)) (v_iv (n_v vs 6)) (v_iv (n_v vs 7)) (v_iv (n_v vs 9)) (v_iv (n_v vs 10)) (v_iv (n_v vs 15))
      simp only [q4, q6, q7]
      exact vc_Mo_shortest_25_0 (v_iv (n_v vs 2)) (v_iv (n_v vs 3)) (v_iv (n_v vs 9)) (v_iv (n_v vs 10)) (v_iv (n_v vs 11)) (v_iv (n_v vs 13)) (v_iv (n_v vs 14)) (v_iv (n_v vs 15)) (w_ei ws (w_ar ws (n_v vs 0) 43)) (w_ei ws (w_ar ws (n_v vs 0) 44)) (w_fi ws (n_v vs 0) 49) (w_ei ws (w_ar ws (n_v vs 0) 33)) (w_ei ws (w_ar ws (n_v vs 0) 34)) (w_ei ws (w_ar ws (n_v vs 0) 35)) (w_fi ws (n_v vs 0) 32) (w_fi ws (n_v vs 0) 31) (w_ei ws (w_ar ws (n_v vs 0) 42)) (w_ei ws (w_ar ws (n_v vs 0) 48)) k2 k3 k9 k10 k11 k13 k14 k15 f0 f2 f4 f6 f13 kz_0_31 kz_0_32 kz_0_49
  have nf1 : fc_1 PRD (20, [15, 4], [30, -1, 1, 0, 0, -1, 1, 31]) ws (vs) := by
    refine ⟨nf_in hl rfl, sgq_553 ?_⟩
    · show 1 * v_iv (n_v vs 15) + ((-1) * w_fi ws (n_v vs 4) 31 + 0) ≤ (-1)
      rw [q4]
      exact vc_Mo_shortest_25_1 (v_iv (n_v vs 11)) (v_iv (n_v vs 15)) (w_fi ws (n_v vs 0) 31) k11 k15 d0 f15 kz_0_31
  refine ⟨(fun _ h => (by cases h)), [], trivial, ?_, (fun _ h => (by cases h))⟩
  rw [List.append_nil]
  exact List.forall_mem_cons.mpr ⟨⟨show (20 : Nat) < 100 from by decide, nf0⟩, List.forall_mem_cons.mpr ⟨⟨show (20 : Nat) < 100 from by decide, nf1⟩, (fun _ h => (by cases h))⟩⟩
def o_Mo_shortest_26 : or_T := (247, 18, [(0, (2, 0, 0, [165])), (1, (0, 0, 24, [])), (2, (0, 0, 24, [])), (3, (0, 0, 1, [])), (4, (2, 0, 0, [165])), (5, (0, 0, 24, [])), (6, (0, 0, 24, [])), (7, (0, 0, 1, [])), (9, (0, 0, 24, [])), (10, (0, -1, 24, [])), (11, (0, 0, 24, [])), (12, (0, -2, 61, [])), (13, (0, 0, 79, [])), (14, (0, 1, 1, [])), (15, (2, 0, 0, [192])), (16, (0, 0, 1000001, [])), (17, (0, 0, 1000001, []))], [(10, [17, 15, 9], []), (9, [15, 4], [48]), (10, [16, 15, 11], []), (8, [14], [1]), (20, [4, 13, 14], [60, 1, 2, 120, 49, 43, 44]), (8, [13], [3]), (20, [4, 9, 11, 13], [60, 1, 3, 85, 32, 33, 34, 35]), (8, [11], [3]), (20, [4], [60, 2, 2, 75, 31, 32, 33, 34]), (20, [4], [60, 1, 2, 122, 32, 35, 43]), (20, [5, 4], [30, -1, 1, 0, 0, -1, 1, 31]), (20, [6, 4], [30, -1, 1, 0, 0, -1, 1, 31]), (20, [4, 5, 6, 7], [60, 3, 6, 124, 31, 32, 49, 33, 34, 43, 44, 42, 48]), (20, [4, 5, 6, 7], [60, 2, 6, 134, 32, 49, 33, 34, 43, 44, 42, 48]), (20, [4, 5, 6, 7, 9], [60, 4, 8, 131, 31, 32, 49, 45, 33, 34, 35, 43, 44, 42, 48, 46]), (20, [4, 6, 7, 9, 10, 11], [60, 3, 7, 132, 31, 32, 49, 33, 34, 35, 43, 44, 42, 48]), (20, [9, 6], [50, 0, 0, 7, 2, 1, 0, 1, 1]), (20, [11, 4], [30, -1, 1, 0, 0, -1, 1, 31]), (20, [4, 12], [30, 62, 1, 1, 45, 1, 0, 0]), (20, [4, 12], [30, -62, -1, 1, 45, -1, 0, 0]), (24, [0, 4], []), (24, [1, 5], []), (24, [2, 6], []), (24, [3, 7], [])], [(17, (0, 0, 1000000, []))], [], [], [], [(1, 5, -4294967296, 0), (2, 6, -4294967296, 0), (3, 7, -4294967296, 0), (5, 1, -4294967296, 0), (6, 2, -4294967296, 0), (7, 3, -4294967296, 0)])
theorem oo_Mo_shortest_26 {kA : Nat → ClassId} : or_ok PRD kA GG o_Mo_shortest_26 := by
  refine or_mk fun A ta ws vs hD hth hl => ?_
  intro t0 r0 t1 k1 t2 k2 t3 k3 t4 r4 t5 k5 t6 k6 t7 k7 t9 k9 t10 k10 t11 k11 t12 k12 t13 k13 t14 k14 t15 r15 t16 k16 t17 k17 d0 d1 d2 d3 d4 d5 f0 f1 f2 f3 f4 f5 f6 f7 f8 f9 f10 f11 f12 f13 f14 f15 f16 f17 f18 f19 f20 f21 f22 f23
  replace f0 := shm_107 f0
  replace f1 := shm_548 f1
  replace f2 := shm_107 f2
  replace f3 := shm_142 f3
  replace f4 := shm_638 f4
  replace f5 := shm_32 f5
  replace f6 := shm_990 f6
  replace f7 := shm_32 f7
  replace f8 := shm_575 f8
  replace f9 := shm_1455 f9
  replace f10 := shm_553 f10
  replace f11 := shm_553 f11
  replace f12 := shm_549 f12
  replace f13 := shm_1459 f13
  replace f14 := shm_1467 f14
  replace f15 := shm_1468 f15
  replace f16 := shm_406 f16
  replace f17 := shm_553 f17
  replace f18 := shm_1461 f18
  replace f19 := shm_1462 f19
  replace f20 := shm_5 f20
  replace f21 := shm_5 f21
  replace f22 := shm_5 f22
  replace f23 := shm_5 f23
  have q4 : n_v vs 4 = n_v vs 0 := f20.symm
  have q5 : n_v vs 5 = n_v vs 1 := f21.symm
  have q6 : n_v vs 6 = n_v vs 2 := f22.symm
  have q7 : n_v vs 7 = n_v vs 3 := f23.symm
  simp only [q4, q5, q6, q7] at f1 f4 f6 f8 f9 f10 f11 f12 f13 f14 f15 f16 f17 f18 f19
  have cr_0_33 := fdq_117 hD hth r0
  have cr_0_34 := fdq_118 hD hth r0
  have cr_0_35 := fdq_132 hD hth r0
  have cr_0_42 := fdq_136 hD hth r0
  have cr_0_43 := fdq_137 hD hth r0
  have cr_0_44 := fdq_138 hD hth r0
  have cr_0_46 := fdq_190 hD hth r0
  have cr_0_48 := fdq_144 hD hth r0
  have ad_15 : v_ad (n_v vs 15) = w_ar ws (n_v vs 0) 48 := congrArg v_ad f1
  simp only [ad_15] at f0
  have h0 : v_iv (n_v vs 17) = w_ei ws (w_ar ws (n_v vs 0) 48) (v_iv (n_v vs 9)) := f0
  simp only [ad_15] at f2
  have h2 : v_iv (n_v vs 16) = w_ei ws (w_ar ws (n_v vs 0) 48) (v_iv (n_v vs 11)) := f2
  have br_0_48_11_0 : w_ei ws (w_ar ws (n_v vs 0) 48) (v_iv (n_v vs 11)) = w_el ws (w_ar ws (n_v vs 0) 48) (v_iv (n_v vs 11)).toNat := rfl
  have br_0_48_9_0 : w_ei ws (w_ar ws (n_v vs 0) 48) (v_iv (n_v vs 9)) = w_el ws (w_ar ws (n_v vs 0) 48) (v_iv (n_v vs 9)).toNat := rfl
  have hK_0_33 := elq_60 hD hth cr_0_33
  have hK_0_34 := elq_61 hD hth cr_0_34
  have hK_0_35 := elq_72 hD hth cr_0_35
  have hK_0_42 := elq_75 hD hth cr_0_42
  have hK_0_43 := elq_76 hD hth cr_0_43
  have hK_0_44 := elq_77 hD hth cr_0_44
  have hK_0_46 := elq_114 hD hth cr_0_46
  have hK_0_48 := elq_82 hD hth cr_0_48
  have kz_0_31 := fdq_145 hD hth r0
  have kz_0_32 := fdq_140 hD hth r0
  have kz_0_45 := fdq_191 hD hth r0
  have kz_0_49 := fdq_146 hD hth r0
  first | have hW := wlk_bd ‹TGI _ _ _ _ _ _ _ _ _ _ _ _› ‹TG5 _ _ _ _ _ _ _ _ _ _ _› ‹WLK _ _ _ _ _ _ _ _ _ _ _ _ _ _ _ _› | skip
  first | have hX := nxt_some ‹UA _ _ _› ‹TGI _ _ _ _ _ _ _ _ _ _ _ _› ‹TG5 _ _ _ _ _ _ _ _ _ _ _› ‹WLK _ _ _ _ _ _ _ _ _ _ _ _ _ _ _ _› (by assumption) ‹NXT _ _ _ _ _ _ _ _ _ _ _ _ _ _ _› (by omega) | skip
  first | have hX1 := hX.1 | skip
  first | have hX2 := hX.2.1 | skip
  first | have hR := tgi_rng (i := v_iv (n_v vs 9)) ‹TGI _ _ _ _ _ _ _ _ _ _ _ _› (by omega) (by omega) | skip
  have rf17 : tv_ok ta (0, 0, 1000000, []) (n_v vs 17) := tv_in t17 (by first | omega | grind) (by first | omega | grind)
  refine ⟨List.forall_mem_cons.mpr ⟨rf17, (fun _ h => (by cases h))⟩, [], trivial, ?_, (fun _ h => (by cases h))⟩
  rw [List.append_nil]
  exact (fun _ h => (by cases h))
set_option maxHeartbeats 4000000 in
theorem vc_Mo_shortest_27_0 (x2 : Int) (x3 : Int) (x9 : Int) (x10 : Int) (x11 : Int) (x13 : Int) (x14 : Int) (x16 : Int) (x17 : Int) (x19 : Int) (x20 : Int) (toGoal_0 : Int → Int) (drawnEdge_0 : Int → Int) (pieceOf_0 : Int → Int) (onlyPiece_0 : Int) (pt_0 : Int → Int) (ph_0 : Int → Int) (alive_0 : Int → Int) (pm_0 : Int) (pn_0 : Int) (drawnNode_0 : Int → Int) (k2 : 0 ≤ x2 ∧ x2 ≤ 24) (k3 : 0 ≤ x3 ∧ x3 ≤ 1) (k9 : 0 ≤ x9 ∧ x9 ≤ 24) (k10 : (-1) ≤ x10 ∧ x10 ≤ 24) (k11 : 0 ≤ x11 ∧ x11 ≤ 24) (k13 : 0 ≤ x13 ∧ x13 ≤ 79) (k14 : 1 ≤ x14 ∧ x14 ≤ 1) (k16 : 0 ≤ x16 ∧ x16 ≤ 1000001) (k17 : 0 ≤ x17 ∧ x17 ≤ 1000000) (k19 : (-1) ≤ x19 ∧ x19 ≤ 999999) (k20 : (-1) ≤ x20 ∧ x20 ≤ 23) (d1 : x17 + (-1) ≤ x19 ∧ x19 ≤ x17 + (-1)) (f0 : x20 = x11 + (-1)) (f1 : x16 ≠ x19) (h3 : x17 = toGoal_0 (x9)) (h5 : x16 = toGoal_0 (x11)) (f6 : x14 ≠ 0) (f7 : MGP (onlyPiece_0) (drawnEdge_0) (pieceOf_0) (x13) (x14)) (f9 : EOF (pm_0) (pt_0) (ph_0) (alive_0) (x9) (x11) (x13)) (f18 : NXT (pn_0) (pm_0) (onlyPiece_0) (pt_0) (ph_0) (alive_0) (drawnEdge_0) (pieceOf_0) (drawnNode_0) (toGoal_0) (x2) (x3) (x9) (x10) (x11)) (f19 : x9 ≠ x2) (kz_0_31 : 0 ≤ pn_0 ∧ pn_0 ≤ 25) (kz_0_32 : 0 ≤ pm_0 ∧ pm_0 ≤ 80) (kz_0_49 : (-1) ≤ onlyPiece_0 ∧ onlyPiece_0 ≤ 79) : NXT (pn_0) (pm_0) (onlyPiece_0) (pt_0) (ph_0) (alive_0) (drawnEdge_0) (pieceOf_0) (drawnNode_0) (toGoal_0) (x2) (x3) (x9) (x10) (x20) := by
  first
    | (have h := ‹NXT _ _ _ _ _ _ _ _ _ _ _ _ _ _ _›
       have hEo := ‹EOF _ _ _ _ _ _ _›
       first
         | (rw [show x14 = x11 + -1 by omega]
            refine nxt_skip h (fun g => ?_)
            obtain ⟨e, je, _⟩ := g.2.2.1
            rcases hEo with z | z
            · exact z.2 e je
            · have := z.1; omega)
         | (have jx : JJ pm_0 pt_0 ph_0 alive_0 x13 x9 x11 := hEo.elim (fun z => by exfalso; have := z.1; omega) id
            have mg := ‹MGP _ _ _ _ _›
            first
              | (rw [show x15 = x11 + -1 by omega]
                 refine nxt_skip h (fun g => ?_)
                 obtain ⟨e, je, me⟩ := g.2.2.1
                 rw [JJ_one ‹GOK _ _ _ _› je jx] at me
                 exact absurd (mg.mpr me) (by omega))
              | (first | rw [show x19 = x11 + -1 by omega] | rw [show x20 = x11 + -1 by omega] | rw [show x21 = x11 + -1 by omega] | rw [show x22 = x11 + -1 by omega] | rw [show x23 = x11 + -1 by omega]
                 refine nxt_skip h (fun g => ?_)
                 have g4 := g.2.2.2.1
                 have g5 := g.2.2.2.2
                 omega)
              | (first | rw [show x19 = x11 + -1 by omega] | rw [show x20 = x11 + -1 by omega] | rw [show x21 = x11 + -1 by omega] | rw [show x22 = x11 + -1 by omega] | rw [show x23 = x11 + -1 by omega]
                 refine nxt_take ⟨by omega, by omega, ⟨x13, jx, mg.mp (by omega)⟩, by omega, ?_⟩
                 first
                   | exact Or.inl (by omega)
                   | exact Or.inr (Or.inl (by omega))
                   | exact Or.inr (Or.inr (by omega)))))
set_option maxHeartbeats 4000000 in
theorem vc_Mo_shortest_27_1 (x11 : Int) (x20 : Int) (pn_0 : Int) (k11 : 0 ≤ x11 ∧ x11 ≤ 24) (k20 : (-1) ≤ x20 ∧ x20 ≤ 23) (d0 : x11 + (-1) ≤ x20 ∧ x20 ≤ x11 + (-1)) (f20 : 1 * x11 + ((-1) * pn_0 + 0) ≤ (-1)) (kz_0_31 : 0 ≤ pn_0 ∧ pn_0 ≤ 25) : 1 * x20 + ((-1) * pn_0 + 0) ≤ (-1) := by
  first | omega
def o_Mo_shortest_27 : or_T := (204, 21, [(0, (2, 0, 0, [165])), (1, (0, 0, 24, [])), (2, (0, 0, 24, [])), (3, (0, 0, 1, [])), (4, (2, 0, 0, [165])), (5, (0, 0, 24, [])), (6, (0, 0, 24, [])), (7, (0, 0, 1, [])), (9, (0, 0, 24, [])), (10, (0, -1, 24, [])), (11, (0, 0, 24, [])), (12, (0, -2, 61, [])), (13, (0, 0, 79, [])), (14, (0, 1, 1, [])), (15, (2, 0, 0, [192])), (16, (0, 0, 1000001, [])), (17, (0, 0, 1000000, [])), (18, (0, 1, 1, [])), (19, (0, -1, 999999, [])), (20, (0, -1, 23, []))], [(6, [20, 11], [-1]), (7, [16, 19], [1]), (2, [19, 17, 18], []), (10, [17, 15, 9], []), (9, [15, 4], [48]), (10, [16, 15, 11], []), (8, [14], [1]), (20, [4, 13, 14], [60, 1, 2, 120, 49, 43, 44]), (8, [13], [3]), (20, [4, 9, 11, 13], [60, 1, 3, 85, 32, 33, 34, 35]), (8, [11], [3]), (20, [4], [60, 2, 2, 75, 31, 32, 33, 34]), (20, [4], [60, 1, 2, 122, 32, 35, 43]), (20, [5, 4], [30, -1, 1, 0, 0, -1, 1, 31]), (20, [6, 4], [30, -1, 1, 0, 0, -1, 1, 31]), (20, [4, 5, 6, 7], [60, 3, 6, 124, 31, 32, 49, 33, 34, 43, 44, 42, 48]), (20, [4, 5, 6, 7], [60, 2, 6, 134, 32, 49, 33, 34, 43, 44, 42, 48]), (20, [4, 5, 6, 7, 9], [60, 4, 8, 131, 31, 32, 49, 45, 33, 34, 35, 43, 44, 42, 48, 46]), (20, [4, 6, 7, 9, 10, 11], [60, 3, 7, 132, 31, 32, 49, 33, 34, 35, 43, 44, 42, 48]), (20, [9, 6], [50, 0, 0, 7, 2, 1, 0, 1, 1]), (20, [11, 4], [30, -1, 1, 0, 0, -1, 1, 31]), (20, [4, 12], [30, 62, 1, 1, 45, 1, 0, 0]), (20, [4, 12], [30, -62, -1, 1, 45, -1, 0, 0]), (24, [0, 4], []), (24, [1, 5], []), (24, [2, 6], []), (24, [3, 7], [])], [], [], [(20, [4, 6, 7, 9, 10, 20], [60, 3, 7, 132, 31, 32, 49, 33, 34, 35, 43, 44, 42, 48]), (20, [20, 4], [30, -1, 1, 0, 0, -1, 1, 31])], [], [(20, 11, -1, -1), (19, 17, -1, -1), (1, 5, -4294967296, 0), (2, 6, -4294967296, 0), (3, 7, -4294967296, 0), (5, 1, -4294967296, 0), (6, 2, -4294967296, 0), (7, 3, -4294967296, 0)])
theorem oo_Mo_shortest_27 {kA : Nat → ClassId} : or_ok PRD kA GG o_Mo_shortest_27 := by
  refine or_mk fun A ta ws vs hD hth hl => ?_
  intro t0 r0 t1 k1 t2 k2 t3 k3 t4 r4 t5 k5 t6 k6 t7 k7 t9 k9 t10 k10 t11 k11 t12 k12 t13 k13 t14 k14 t15 r15 t16 k16 t17 k17 t18 k18 t19 k19 t20 k20 d0 d1 d2 d3 d4 d5 d6 d7 f0 f1 f2 f3 f4 f5 f6 f7 f8 f9 f10 f11 f12 f13 f14 f15 f16 f17 f18 f19 f20 f21 f22 f23 f24 f25 f26
  replace f0 := shm_186 f0
  replace f1 := shm_40 f1
  replace f2 := shm_14 f2
  replace f3 := shm_107 f3
  replace f4 := shm_548 f4
  replace f5 := shm_107 f5
  replace f6 := shm_142 f6
  replace f7 := shm_638 f7
  replace f8 := shm_32 f8
  replace f9 := shm_990 f9
  replace f10 := shm_32 f10
  replace f11 := shm_575 f11
  replace f12 := shm_1455 f12
  replace f13 := shm_553 f13
  replace f14 := shm_553 f14
  replace f15 := shm_549 f15
  replace f16 := shm_1459 f16
  replace f17 := shm_1467 f17
  replace f18 := shm_1468 f18
  replace f19 := shm_406 f19
  replace f20 := shm_553 f20
  replace f21 := shm_1461 f21
  replace f22 := shm_1462 f22
  replace f23 := shm_5 f23
  replace f24 := shm_5 f24
  replace f25 := shm_5 f25
  replace f26 := shm_5 f26
  have q4 : n_v vs 4 = n_v vs 0 := f23.symm
  have q5 : n_v vs 5 = n_v vs 1 := f24.symm
  have q6 : n_v vs 6 = n_v vs 2 := f25.symm
  have q7 : n_v vs 7 = n_v vs 3 := f26.symm
  simp only [q4, q5, q6, q7] at f4 f7 f9 f11 f12 f13 f14 f15 f16 f17 f18 f19 f20 f21 f22
  have cr_0_33 := fdq_117 hD hth r0
  have cr_0_34 := fdq_118 hD hth r0
  have cr_0_35 := fdq_132 hD hth r0
  have cr_0_42 := fdq_136 hD hth r0
  have cr_0_43 := fdq_137 hD hth r0
  have cr_0_44 := fdq_138 hD hth r0
  have cr_0_46 := fdq_190 hD hth r0
  have cr_0_48 := fdq_144 hD hth r0
  have ad_15 : v_ad (n_v vs 15) = w_ar ws (n_v vs 0) 48 := congrArg v_ad f4
  simp only [ad_15] at f3
  have h3 : v_iv (n_v vs 17) = w_ei ws (w_ar ws (n_v vs 0) 48) (v_iv (n_v vs 9)) := f3
  simp only [ad_15] at f5
  have h5 : v_iv (n_v vs 16) = w_ei ws (w_ar ws (n_v vs 0) 48) (v_iv (n_v vs 11)) := f5
  have hK_0_33 := elq_60 hD hth cr_0_33
  have hK_0_34 := elq_61 hD hth cr_0_34
  have hK_0_35 := elq_72 hD hth cr_0_35
  have hK_0_42 := elq_75 hD hth cr_0_42
  have hK_0_43 := elq_76 hD hth cr_0_43
  have hK_0_44 := elq_77 hD hth cr_0_44
  have hK_0_46 := elq_114 hD hth cr_0_46
  have hK_0_48 := elq_82 hD hth cr_0_48
  have kz_0_31 := fdq_145 hD hth r0
  have kz_0_32 := fdq_140 hD hth r0
  have kz_0_45 := fdq_191 hD hth r0
  have kz_0_49 := fdq_146 hD hth r0
  first | have hW := wlk_bd ‹TGI _ _ _ _ _ _ _ _ _ _ _ _› ‹TG5 _ _ _ _ _ _ _ _ _ _ _› ‹WLK _ _ _ _ _ _ _ _ _ _ _ _ _ _ _ _› | skip
  first | have hX := nxt_some ‹UA _ _ _› ‹TGI _ _ _ _ _ _ _ _ _ _ _ _› ‹TG5 _ _ _ _ _ _ _ _ _ _ _› ‹WLK _ _ _ _ _ _ _ _ _ _ _ _ _ _ _ _› (by assumption) ‹NXT _ _ _ _ _ _ _ _ _ _ _ _ _ _ _› (by omega) | skip
  first | have hX1 := hX.1 | skip
  first | have hX2 := hX.2.1 | skip
  have nf0 : fc_1 PRD (20, [4, 6, 7, 9, 10, 20], [60, 3, 7, 132, 31, 32, 49, 33, 34, 35, 43, 44, 42, 48]) ws (vs) := by
    refine ⟨nf_in hl rfl, sgq_1468 ?_⟩
    · show NXT (w_fi ws (n_v vs 4) 31) (w_fi ws (n_v vs 4) 32) (w_fi ws (n_v vs 4) 49) (w_ei ws (w_ar ws (n_v vs 4) 33)) (w_ei ws (w_ar ws (n_v vs 4) 34)) (w_ei ws (w_ar ws (n_v vs 4) 35)) (w_ei ws (w_ar ws (n_v vs 4) 43)) (w_ei ws (w_ar ws (n_v vs 4) 44)) (w_ei ws (w_ar ws (n_v vs 4) 42)) (w_ei ws (w_ar ws (n_v vs 4) 48)) (v_iv (n_v vs 6)) (v_iv (n_v vs 7)) (v_iv (n_v vs 9)) (v_iv (n_v vs 10)) (v_iv (n_v vs 20))
      simp only [q4, q6, q7]
      exact vc_Mo_shortest_27_0 (v_iv (n_v vs 2)) (v_iv (n_v vs 3)) (v_iv (n_v vs 9)) (v_iv (n_v vs 10)) (v_iv (n_v vs 11)) (v_iv (n_v vs 13)) (v_iv (n_v vs 14)) (v_iv (n_v vs 16)) (v_iv (n_v vs 17)) (v_iv (n_v vs 19)) (v_iv (n_v vs 20)) (w_ei ws (w_ar ws (n_v vs 0) 48)) (w_ei ws (w_ar ws (n_v vs 0) 43)) (w_ei ws (w_ar ws (n_v vs 0) 44)) (w_fi ws (n_v vs 0) 49) (w_ei ws (w_ar ws (n_v vs 0) 33)) (w_ei ws (w_ar ws (n_v vs 0) 34)) (w_ei ws (w_ar ws (n_v vs 0) 35)) (w_fi ws (n_v vs 0) 32) (w_fi ws (n_v vs 0) 31) (w_ei ws (w_ar ws (n_v vs 0) 42)) k2 k3 k9 k10 k11 k13 k14 k16 k17 k19 k20 d1 f0 f1 h3 h5 f6 f7 f9 f18 f19 kz_0_31 kz_0_32 kz_0_49
  have nf1 : fc_1 PRD (20, [20, 4], [30, -1, 1, 0, 0, -1, 1, 31]) ws (vs) := by
    refine ⟨nf_in hl rfl, sgq_553 ?_⟩
    · show 1 * v_iv (n_v vs 20) + ((-1) * w_fi ws (n_v vs 4) 31 + 0) ≤ (-1)
      rw [q4]
      exact vc_Mo_shortest_27_1 (v_iv (n_v vs 11)) (v_iv (n_v vs 20)) (w_fi ws (n_v vs 0) 31) k11 k20 d0 f20 kz_0_31
  refine ⟨(fun _ h => (by cases h)), [], trivial, ?_, (fun _ h => (by cases h))⟩
  rw [List.append_nil]
  exact List.forall_mem_cons.mpr ⟨⟨show (20 : Nat) < 100 from by decide, nf0⟩, List.forall_mem_cons.mpr ⟨⟨show (20 : Nat) < 100 from by decide, nf1⟩, (fun _ h => (by cases h))⟩⟩
set_option maxHeartbeats 4000000 in
theorem vc_Mo_shortest_28_0 (x2 : Int) (x3 : Int) (x6 : Int) (x9 : Int) (x10 : Int) (x11 : Int) (x13 : Int) (x14 : Int) (x16 : Int) (x17 : Int) (x19 : Int) (x20 : Int) (toGoal_0 : Int → Int) (drawnEdge_0 : Int → Int) (pieceOf_0 : Int → Int) (onlyPiece_0 : Int) (pt_0 : Int → Int) (ph_0 : Int → Int) (alive_0 : Int → Int) (pm_0 : Int) (pn_0 : Int) (drawnNode_0 : Int → Int) (k2 : 0 ≤ x2 ∧ x2 ≤ 24) (k3 : 0 ≤ x3 ∧ x3 ≤ 1) (k6 : 0 ≤ x6 ∧ x6 ≤ 24) (k9 : 0 ≤ x9 ∧ x9 ≤ 24) (k10 : (-1) ≤ x10 ∧ x10 ≤ 24) (k11 : 0 ≤ x11 ∧ x11 ≤ 24) (k13 : 0 ≤ x13 ∧ x13 ≤ 79) (k14 : 1 ≤ x14 ∧ x14 ≤ 1) (k16 : 0 ≤ x16 ∧ x16 ≤ 999999) (k17 : 1 ≤ x17 ∧ x17 ≤ 1000000) (k19 : 0 ≤ x19 ∧ x19 ≤ 999999) (k20 : (-1) ≤ x20 ∧ x20 ≤ 23) (d0 : x11 + (-1) ≤ x20 ∧ x20 ≤ x11 + (-1)) (d1 : x6 + (-1) ≤ x20 ∧ x20 ≤ x6 + (-1)) (d3 : x19 + 0 ≤ x16 ∧ x16 ≤ x19 + 0) (d4 : x17 + (-1) ≤ x19 ∧ x19 ≤ x17 + (-1)) (d6 : x6 + (-4294967296) ≤ x2 ∧ x2 ≤ x6 + 0) (d9 : x2 + (-4294967296) ≤ x6 ∧ x6 ≤ x2 + 0) (f0 : x20 = x11 + (-1)) (f1 : x11 = x2) (h4 : x17 = toGoal_0 (x9)) (h6 : x16 = toGoal_0 (x11)) (f7 : x14 ≠ 0) (f8 : MGP (onlyPiece_0) (drawnEdge_0) (pieceOf_0) (x13) (x14)) (f10 : EOF (pm_0) (pt_0) (ph_0) (alive_0) (x9) (x11) (x13)) (f11 : 0 ≤ x11) (f15 : 1 * x2 + ((-1) * pn_0 + 0) ≤ (-1)) (f19 : NXT (pn_0) (pm_0) (onlyPiece_0) (pt_0) (ph_0) (alive_0) (drawnEdge_0) (pieceOf_0) (drawnNode_0) (toGoal_0) (x2) (x3) (x9) (x10) (x11)) (kz_0_31 : 0 ≤ pn_0 ∧ pn_0 ≤ 25) (kz_0_32 : 0 ≤ pm_0 ∧ pm_0 ≤ 80) (kz_0_49 : (-1) ≤ onlyPiece_0 ∧ onlyPiece_0 ≤ 79) : NXT (pn_0) (pm_0) (onlyPiece_0) (pt_0) (ph_0) (alive_0) (drawnEdge_0) (pieceOf_0) (drawnNode_0) (toGoal_0) (x2) (x3) (x9) (x11) (x20) := by
  first
    | (have h := ‹NXT _ _ _ _ _ _ _ _ _ _ _ _ _ _ _›
       have hEo := ‹EOF _ _ _ _ _ _ _›
       first
         | (rw [show x14 = x11 + -1 by omega]
            refine nxt_skip h (fun g => ?_)
            obtain ⟨e, je, _⟩ := g.2.2.1
            rcases hEo with z | z
            · exact z.2 e je
            · have := z.1; omega)
         | (have jx : JJ pm_0 pt_0 ph_0 alive_0 x13 x9 x11 := hEo.elim (fun z => by exfalso; have := z.1; omega) id
            have mg := ‹MGP _ _ _ _ _›
            first
              | (rw [show x15 = x11 + -1 by omega]
                 refine nxt_skip h (fun g => ?_)
                 obtain ⟨e, je, me⟩ := g.2.2.1
                 rw [JJ_one ‹GOK _ _ _ _› je jx] at me
                 exact absurd (mg.mpr me) (by omega))
              | (first | rw [show x19 = x11 + -1 by omega] | rw [show x20 = x11 + -1 by omega] | rw [show x21 = x11 + -1 by omega] | rw [show x22 = x11 + -1 by omega] | rw [show x23 = x11 + -1 by omega]
                 refine nxt_skip h (fun g => ?_)
                 have g4 := g.2.2.2.1
                 have g5 := g.2.2.2.2
                 omega)
              | (first | rw [show x19 = x11 + -1 by omega] | rw [show x20 = x11 + -1 by omega] | rw [show x21 = x11 + -1 by omega] | rw [show x22 = x11 + -1 by omega] | rw [show x23 = x11 + -1 by omega]
                 refine nxt_take ⟨by omega, by omega, ⟨x13, jx, mg.mp (by omega)⟩, by omega, ?_⟩
                 first
                   | exact Or.inl (by omega)
                   | exact Or.inr (Or.inl (by omega))
                   | exact Or.inr (Or.inr (by omega)))))
set_option maxHeartbeats 4000000 in
theorem vc_Mo_shortest_28_1 (x2 : Int) (x6 : Int) (x20 : Int) (pn_0 : Int) (k2 : 0 ≤ x2 ∧ x2 ≤ 24) (k6 : 0 ≤ x6 ∧ x6 ≤ 24) (k20 : (-1) ≤ x20 ∧ x20 ≤ 23) (d1 : x6 + (-1) ≤ x20 ∧ x20 ≤ x6 + (-1)) (d6 : x6 + (-4294967296) ≤ x2 ∧ x2 ≤ x6 + 0) (d9 : x2 + (-4294967296) ≤ x6 ∧ x6 ≤ x2 + 0) (f15 : 1 * x2 + ((-1) * pn_0 + 0) ≤ (-1)) (kz_0_31 : 0 ≤ pn_0 ∧ pn_0 ≤ 25) : 1 * x20 + ((-1) * pn_0 + 0) ≤ (-1) := by
  first | omega
def o_Mo_shortest_28 : or_T := (204, 21, [(0, (2, 0, 0, [165])), (1, (0, 0, 24, [])), (2, (0, 0, 24, [])), (3, (0, 0, 1, [])), (4, (2, 0, 0, [165])), (5, (0, 0, 24, [])), (6, (0, 0, 24, [])), (7, (0, 0, 1, [])), (9, (0, 0, 24, [])), (10, (0, -1, 24, [])), (11, (0, 0, 24, [])), (12, (0, -2, 61, [])), (13, (0, 0, 79, [])), (14, (0, 1, 1, [])), (15, (2, 0, 0, [192])), (16, (0, 0, 999999, [])), (17, (0, 1, 1000000, [])), (18, (0, 1, 1, [])), (19, (0, 0, 999999, [])), (20, (0, -1, 23, []))], [(6, [20, 11], [-1]), (7, [11, 6], [0]), (7, [16, 19], [0]), (2, [19, 17, 18], []), (10, [17, 15, 9], []), (9, [15, 4], [48]), (10, [16, 15, 11], []), (8, [14], [1]), (20, [4, 13, 14], [60, 1, 2, 120, 49, 43, 44]), (8, [13], [3]), (20, [4, 9, 11, 13], [60, 1, 3, 85, 32, 33, 34, 35]), (8, [11], [3]), (20, [4], [60, 2, 2, 75, 31, 32, 33, 34]), (20, [4], [60, 1, 2, 122, 32, 35, 43]), (20, [5, 4], [30, -1, 1, 0, 0, -1, 1, 31]), (20, [6, 4], [30, -1, 1, 0, 0, -1, 1, 31]), (20, [4, 5, 6, 7], [60, 3, 6, 124, 31, 32, 49, 33, 34, 43, 44, 42, 48]), (20, [4, 5, 6, 7], [60, 2, 6, 134, 32, 49, 33, 34, 43, 44, 42, 48]), (20, [4, 5, 6, 7, 9], [60, 4, 8, 131, 31, 32, 49, 45, 33, 34, 35, 43, 44, 42, 48, 46]), (20, [4, 6, 7, 9, 10, 11], [60, 3, 7, 132, 31, 32, 49, 33, 34, 35, 43, 44, 42, 48]), (20, [9, 6], [50, 0, 0, 7, 2, 1, 0, 1, 1]), (20, [11, 4], [30, -1, 1, 0, 0, -1, 1, 31]), (20, [4, 12], [30, 62, 1, 1, 45, 1, 0, 0]), (20, [4, 12], [30, -62, -1, 1, 45, -1, 0, 0]), (24, [0, 4], []), (24, [1, 5], []), (24, [2, 6], []), (24, [3, 7], [])], [], [], [(20, [4, 6, 7, 9, 11, 20], [60, 3, 7, 132, 31, 32, 49, 33, 34, 35, 43, 44, 42, 48]), (20, [20, 4], [30, -1, 1, 0, 0, -1, 1, 31])], [], [(20, 11, -1, -1), (20, 6, -1, -1), (11, 6, 0, 0), (16, 19, 0, 0), (19, 17, -1, -1), (1, 5, -4294967296, 0), (2, 6, -4294967296, 0), (3, 7, -4294967296, 0), (5, 1, -4294967296, 0), (6, 2, -4294967296, 0), (7, 3, -4294967296, 0)])
theorem oo_Mo_shortest_28 {kA : Nat → ClassId} : or_ok PRD kA GG o_Mo_shortest_28 := by
  refine or_mk fun A ta ws vs hD hth hl => ?_
  intro t0 r0 t1 k1 t2 k2 t3 k3 t4 r4 t5 k5 t6 k6 t7 k7 t9 k9 t10 k10 t11 k11 t12 k12 t13 k13 t14 k14 t15 r15 t16 k16 t17 k17 t18 k18 t19 k19 t20 k20 d0 d1 d2 d3 d4 d5 d6 d7 d8 d9 d10 f0 f1 f2 f3 f4 f5 f6 f7 f8 f9 f10 f11 f12 f13 f14 f15 f16 f17 f18 f19 f20 f21 f22 f23 f24 f25 f26 f27
  replace f0 := shm_186 f0
  replace f1 := shm_37 f1
  replace f2 := shm_37 f2
  replace f3 := shm_14 f3
  replace f4 := shm_107 f4
  replace f5 := shm_548 f5
  replace f6 := shm_107 f6
  replace f7 := shm_142 f7
  replace f8 := shm_638 f8
  replace f9 := shm_32 f9
  replace f10 := shm_990 f10
  replace f11 := shm_32 f11
  replace f12 := shm_575 f12
  replace f13 := shm_1455 f13
  replace f14 := shm_553 f14
  replace f15 := shm_553 f15
  replace f16 := shm_549 f16
  replace f17 := shm_1459 f17
  replace f18 := shm_1467 f18
  replace f19 := shm_1468 f19
  replace f20 := shm_406 f20
  replace f21 := shm_553 f21
  replace f22 := shm_1461 f22
  replace f23 := shm_1462 f23
  replace f24 := shm_5 f24
  replace f25 := shm_5 f25
  replace f26 := shm_5 f26
  replace f27 := shm_5 f27
  have q4 : n_v vs 4 = n_v vs 0 := f24.symm
  have q5 : n_v vs 5 = n_v vs 1 := f25.symm
  have q6 : n_v vs 6 = n_v vs 2 := f26.symm
  have q7 : n_v vs 7 = n_v vs 3 := f27.symm
  simp only [q6, q4, q5, q7] at f1 f5 f8 f10 f12 f13 f14 f15 f16 f17 f18 f19 f20 f21 f22 f23
  have cr_0_33 := fdq_117 hD hth r0
  have cr_0_34 := fdq_118 hD hth r0
  have cr_0_35 := fdq_132 hD hth r0
  have cr_0_42 := fdq_136 hD hth r0
  have cr_0_43 := fdq_137 hD hth r0
  have cr_0_44 := fdq_138 hD hth r0
  have cr_0_46 := fdq_190 hD hth r0
  have cr_0_48 := fdq_144 hD hth r0
  have ad_15 : v_ad (n_v vs 15) = w_ar ws (n_v vs 0) 48 := congrArg v_ad f5
  simp only [ad_15] at f4
  have h4 : v_iv (n_v vs 17) = w_ei ws (w_ar ws (n_v vs 0) 48) (v_iv (n_v vs 9)) := f4
  simp only [ad_15] at f6
  have h6 : v_iv (n_v vs 16) = w_ei ws (w_ar ws (n_v vs 0) 48) (v_iv (n_v vs 11)) := f6
  have hK_0_33 := elq_60 hD hth cr_0_33
  have hK_0_34 := elq_61 hD hth cr_0_34
  have hK_0_35 := elq_72 hD hth cr_0_35
  have hK_0_42 := elq_75 hD hth cr_0_42
  have hK_0_43 := elq_76 hD hth cr_0_43
  have hK_0_44 := elq_77 hD hth cr_0_44
  have hK_0_46 := elq_114 hD hth cr_0_46
  have hK_0_48 := elq_82 hD hth cr_0_48
  have kz_0_31 := fdq_145 hD hth r0
  have kz_0_32 := fdq_140 hD hth r0
  have kz_0_45 := fdq_191 hD hth r0
  have kz_0_49 := fdq_146 hD hth r0
  first | have hW := wlk_bd ‹TGI _ _ _ _ _ _ _ _ _ _ _ _› ‹TG5 _ _ _ _ _ _ _ _ _ _ _› ‹WLK _ _ _ _ _ _ _ _ _ _ _ _ _ _ _ _› | skip
  first | have hX := nxt_some ‹UA _ _ _› ‹TGI _ _ _ _ _ _ _ _ _ _ _ _› ‹TG5 _ _ _ _ _ _ _ _ _ _ _› ‹WLK _ _ _ _ _ _ _ _ _ _ _ _ _ _ _ _› (by assumption) ‹NXT _ _ _ _ _ _ _ _ _ _ _ _ _ _ _› (by omega) | skip
  first | have hX1 := hX.1 | skip
  first | have hX2 := hX.2.1 | skip
  have nf0 : fc_1 PRD (20, [4, 6, 7, 9, 11, 20], [60, 3, 7, 132, 31, 32, 49, 33, 34, 35, 43, 44, 42, 48]) ws (vs) := by
    refine ⟨nf_in hl rfl, sgq_1468 ?_⟩
    · show NXT (w_fi ws (n_v vs 4) 31) (w_fi ws (n_v vs 4) 32) (w_fi ws (n_v vs 4) 49) (w_ei ws (w_ar ws (n_v vs 4) 33)) (w_ei ws (w_ar ws (n_v vs 4) 34)) (w_ei ws (w_ar ws (n_v vs 4) 35)) (w_ei ws (w_ar ws (n_v vs 4) 43)) (w_ei ws (w_ar ws (n_v vs 4) 44)) (w_ei ws (w_ar ws (n_v vs 4) 42)) (w_ei ws (w_ar ws (n_v vs 4) 48)) (v_iv (n_v vs 6)) (v_iv (n_v vs 7)) (v_iv (n_v vs 9)) (v_iv (n_v vs 11)) (v_iv (n_v vs 20))
      simp only [q4, q6, q7]
      exact vc_Mo_shortest_28_0 (v_iv (n_v vs 2)) (v_iv (n_v vs 3)) (v_iv (n_v vs 6)) (v_iv (n_v vs 9)) (v_iv (n_v vs 10)) (v_iv (n_v vs 11)) (v_iv (n_v vs 13)) (v_iv (n_v vs 14)) (v_iv (n_v vs 16)) (v_iv (n_v vs 17)) (v_iv (n_v vs 19)) (v_iv (n_v vs 20)) (w_ei ws (w_ar ws (n_v vs 0) 48)) (w_ei ws (w_ar ws (n_v vs 0) 43)) (w_ei ws (w_ar ws (n_v vs 0) 44)) (w_fi ws (n_v vs 0) 49) (w_ei ws (w_ar ws (n_v vs 0) 33)) (w_ei ws (w_ar ws (n_v vs 0) 34)) (w_ei ws (w_ar ws (n_v vs 0) 35)) (w_fi ws (n_v vs 0) 32) (w_fi ws (n_v vs 0) 31) (w_ei ws (w_ar ws (n_v vs 0) 42)) k2 k3 k6 k9 k10 k11 k13 k14 k16 k17 k19 k20 d0 d1 d3 d4 d6 d9 f0 f1 h4 h6 f7 f8 f10 f11 f15 f19 kz_0_31 kz_0_32 kz_0_49
  have nf1 : fc_1 PRD (20, [20, 4], [30, -1, 1, 0, 0, -1, 1, 31]) ws (vs) := by
    refine ⟨nf_in hl rfl, sgq_553 ?_⟩
    · show 1 * v_iv (n_v vs 20) + ((-1) * w_fi ws (n_v vs 4) 31 + 0) ≤ (-1)
      rw [q4]
      exact vc_Mo_shortest_28_1 (v_iv (n_v vs 2)) (v_iv (n_v vs 6)) (v_iv (n_v vs 20)) (w_fi ws (n_v vs 0) 31) k2 k6 k20 d1 d6 d9 f15 kz_0_31
  refine ⟨(fun _ h => (by cases h)), [], trivial, ?_, (fun _ h => (by cases h))⟩
  rw [List.append_nil]
  exact List.forall_mem_cons.mpr ⟨⟨show (20 : Nat) < 100 from by decide, nf0⟩, List.forall_mem_cons.mpr ⟨⟨show (20 : Nat) < 100 from by decide, nf1⟩, (fun _ h => (by cases h))⟩⟩
set_option maxHeartbeats 4000000 in
theorem vc_Mo_shortest_29_0 (x2 : Int) (x3 : Int) (x9 : Int) (x10 : Int) (x11 : Int) (x13 : Int) (x14 : Int) (x16 : Int) (x17 : Int) (x19 : Int) (x20 : Int) (toGoal_0 : Int → Int) (drawnEdge_0 : Int → Int) (pieceOf_0 : Int → Int) (onlyPiece_0 : Int) (pt_0 : Int → Int) (ph_0 : Int → Int) (alive_0 : Int → Int) (pm_0 : Int) (pn_0 : Int) (drawnNode_0 : Int → Int) (k2 : 0 ≤ x2 ∧ x2 ≤ 24) (k3 : 0 ≤ x3 ∧ x3 ≤ 0) (k9 : 0 ≤ x9 ∧ x9 ≤ 24) (k10 : (-1) ≤ x10 ∧ x10 ≤ 24) (k11 : 0 ≤ x11 ∧ x11 ≤ 24) (k13 : 0 ≤ x13 ∧ x13 ≤ 79) (k14 : 1 ≤ x14 ∧ x14 ≤ 1) (k16 : 0 ≤ x16 ∧ x16 ≤ 999999) (k17 : 1 ≤ x17 ∧ x17 ≤ 1000000) (k19 : 0 ≤ x19 ∧ x19 ≤ 999999) (k20 : (-1) ≤ x20 ∧ x20 ≤ 23) (d0 : x11 + (-1) ≤ x20 ∧ x20 ≤ x11 + (-1)) (d1 : x19 + 0 ≤ x16 ∧ x16 ≤ x19 + 0) (d2 : x17 + (-1) ≤ x19 ∧ x19 ≤ x17 + (-1)) (f0 : x20 = x11 + (-1)) (f1 : x3 = 0) (h5 : x17 = toGoal_0 (x9)) (h7 : x16 = toGoal_0 (x11)) (f8 : x14 ≠ 0) (f9 : MGP (onlyPiece_0) (drawnEdge_0) (pieceOf_0) (x13) (x14)) (f11 : EOF (pm_0) (pt_0) (ph_0) (alive_0) (x9) (x11) (x13)) (f12 : 0 ≤ x11) (f20 : NXT (pn_0) (pm_0) (onlyPiece_0) (pt_0) (ph_0) (alive_0) (drawnEdge_0) (pieceOf_0) (drawnNode_0) (toGoal_0) (x2) (x3) (x9) (x10) (x11)) (f22 : 1 * x11 + ((-1) * pn_0 + 0) ≤ (-1)) (kz_0_31 : 0 ≤ pn_0 ∧ pn_0 ≤ 25) (kz_0_32 : 0 ≤ pm_0 ∧ pm_0 ≤ 80) (kz_0_49 : (-1) ≤ onlyPiece_0 ∧ onlyPiece_0 ≤ 79) : NXT (pn_0) (pm_0) (onlyPiece_0) (pt_0) (ph_0) (alive_0) (drawnEdge_0) (pieceOf_0) (drawnNode_0) (toGoal_0) (x2) (x3) (x9) (x11) (x20) := by
  first
    | (have h := ‹NXT _ _ _ _ _ _ _ _ _ _ _ _ _ _ _›
       have hEo := ‹EOF _ _ _ _ _ _ _›
       first
         | (rw [show x14 = x11 + -1 by omega]
            refine nxt_skip h (fun g => ?_)
            obtain ⟨e, je, _⟩ := g.2.2.1
            rcases hEo with z | z
            · exact z.2 e je
            · have := z.1; omega)
         | (have jx : JJ pm_0 pt_0 ph_0 alive_0 x13 x9 x11 := hEo.elim (fun z => by exfalso; have := z.1; omega) id
            have mg := ‹MGP _ _ _ _ _›
            first
              | (rw [show x15 = x11 + -1 by omega]
                 refine nxt_skip h (fun g => ?_)
                 obtain ⟨e, je, me⟩ := g.2.2.1
                 rw [JJ_one ‹GOK _ _ _ _› je jx] at me
                 exact absurd (mg.mpr me) (by omega))
              | (first | rw [show x19 = x11 + -1 by omega] | rw [show x20 = x11 + -1 by omega] | rw [show x21 = x11 + -1 by omega] | rw [show x22 = x11 + -1 by omega] | rw [show x23 = x11 + -1 by omega]
                 refine nxt_skip h (fun g => ?_)
                 have g4 := g.2.2.2.1
                 have g5 := g.2.2.2.2
                 omega)
              | (first | rw [show x19 = x11 + -1 by omega] | rw [show x20 = x11 + -1 by omega] | rw [show x21 = x11 + -1 by omega] | rw [show x22 = x11 + -1 by omega] | rw [show x23 = x11 + -1 by omega]
                 refine nxt_take ⟨by omega, by omega, ⟨x13, jx, mg.mp (by omega)⟩, by omega, ?_⟩
                 first
                   | exact Or.inl (by omega)
                   | exact Or.inr (Or.inl (by omega))
                   | exact Or.inr (Or.inr (by omega)))))
set_option maxHeartbeats 4000000 in
theorem vc_Mo_shortest_29_1 (x11 : Int) (x20 : Int) (pn_0 : Int) (k11 : 0 ≤ x11 ∧ x11 ≤ 24) (k20 : (-1) ≤ x20 ∧ x20 ≤ 23) (d0 : x11 + (-1) ≤ x20 ∧ x20 ≤ x11 + (-1)) (f22 : 1 * x11 + ((-1) * pn_0 + 0) ≤ (-1)) (kz_0_31 : 0 ≤ pn_0 ∧ pn_0 ≤ 25) : 1 * x20 + ((-1) * pn_0 + 0) ≤ (-1) := by
  first | omega
def o_Mo_shortest_29 : or_T := (204, 21, [(0, (2, 0, 0, [165])), (1, (0, 0, 24, [])), (2, (0, 0, 24, [])), (3, (0, 0, 0, [])), (4, (2, 0, 0, [165])), (5, (0, 0, 24, [])), (6, (0, 0, 24, [])), (7, (0, 0, 0, [])), (9, (0, 0, 24, [])), (10, (0, -1, 24, [])), (11, (0, 0, 24, [])), (12, (0, -2, 61, [])), (13, (0, 0, 79, [])), (14, (0, 1, 1, [])), (15, (2, 0, 0, [192])), (16, (0, 0, 999999, [])), (17, (0, 1, 1000000, [])), (18, (0, 1, 1, [])), (19, (0, 0, 999999, [])), (20, (0, -1, 23, []))], [(6, [20, 11], [-1]), (8, [7], [0]), (7, [11, 6], [1]), (7, [16, 19], [0]), (2, [19, 17, 18], []), (10, [17, 15, 9], []), (9, [15, 4], [48]), (10, [16, 15, 11], []), (8, [14], [1]), (20, [4, 13, 14], [60, 1, 2, 120, 49, 43, 44]), (8, [13], [3]), (20, [4, 9, 11, 13], [60, 1, 3, 85, 32, 33, 34, 35]), (8, [11], [3]), (20, [4], [60, 2, 2, 75, 31, 32, 33, 34]), (20, [4], [60, 1, 2, 122, 32, 35, 43]), (20, [5, 4], [30, -1, 1, 0, 0, -1, 1, 31]), (20, [6, 4], [30, -1, 1, 0, 0, -1, 1, 31]), (20, [4, 5, 6, 7], [60, 3, 6, 124, 31, 32, 49, 33, 34, 43, 44, 42, 48]), (20, [4, 5, 6, 7], [60, 2, 6, 134, 32, 49, 33, 34, 43, 44, 42, 48]), (20, [4, 5, 6, 7, 9], [60, 4, 8, 131, 31, 32, 49, 45, 33, 34, 35, 43, 44, 42, 48, 46]), (20, [4, 6, 7, 9, 10, 11], [60, 3, 7, 132, 31, 32, 49, 33, 34, 35, 43, 44, 42, 48]), (20, [9, 6], [50, 0, 0, 7, 2, 1, 0, 1, 1]), (20, [11, 4], [30, -1, 1, 0, 0, -1, 1, 31]), (20, [4, 12], [30, 62, 1, 1, 45, 1, 0, 0]), (20, [4, 12], [30, -62, -1, 1, 45, -1, 0, 0]), (24, [0, 4], []), (24, [1, 5], []), (24, [2, 6], []), (24, [3, 7], [])], [], [], [(20, [4, 6, 7, 9, 11, 20], [60, 3, 7, 132, 31, 32, 49, 33, 34, 35, 43, 44, 42, 48]), (20, [20, 4], [30, -1, 1, 0, 0, -1, 1, 31])], [], [(20, 11, -1, -1), (16, 19, 0, 0), (19, 17, -1, -1), (1, 5, -4294967296, 0), (2, 6, -4294967296, 0), (5, 1, -4294967296, 0), (6, 2, -4294967296, 0)])
theorem oo_Mo_shortest_29 {kA : Nat → ClassId} : or_ok PRD kA GG o_Mo_shortest_29 := by
  refine or_mk fun A ta ws vs hD hth hl => ?_
  intro t0 r0 t1 k1 t2 k2 t3 k3 t4 r4 t5 k5 t6 k6 t7 k7 t9 k9 t10 k10 t11 k11 t12 k12 t13 k13 t14 k14 t15 r15 t16 k16 t17 k17 t18 k18 t19 k19 t20 k20 d0 d1 d2 d3 d4 d5 d6 f0 f1 f2 f3 f4 f5 f6 f7 f8 f9 f10 f11 f12 f13 f14 f15 f16 f17 f18 f19 f20 f21 f22 f23 f24 f25 f26 f27 f28
  replace f0 := shm_186 f0
  replace f1 := shm_192 f1
  replace f2 := shm_40 f2
  replace f3 := shm_37 f3
  replace f4 := shm_14 f4
  replace f5 := shm_107 f5
  replace f6 := shm_548 f6
  replace f7 := shm_107 f7
  replace f8 := shm_142 f8
  replace f9 := shm_638 f9
  replace f10 := shm_32 f10
  replace f11 := shm_990 f11
  replace f12 := shm_32 f12
  replace f13 := shm_575 f13
  replace f14 := shm_1455 f14
  replace f15 := shm_553 f15
  replace f16 := shm_553 f16
  replace f17 := shm_549 f17
  replace f18 := shm_1459 f18
  replace f19 := shm_1467 f19
  replace f20 := shm_1468 f20
  replace f21 := shm_406 f21
  replace f22 := shm_553 f22
  replace f23 := shm_1461 f23
  replace f24 := shm_1462 f24
  replace f25 := shm_5 f25
  replace f26 := shm_5 f26
  replace f27 := shm_5 f27
  replace f28 := shm_5 f28
  have q4 : n_v vs 4 = n_v vs 0 := f25.symm
  have q5 : n_v vs 5 = n_v vs 1 := f26.symm
  have q6 : n_v vs 6 = n_v vs 2 := f27.symm
  have q7 : n_v vs 7 = n_v vs 3 := f28.symm
  simp only [q7, q6, q4, q5] at f1 f2 f6 f9 f11 f13 f14 f15 f16 f17 f18 f19 f20 f21 f22 f23 f24
  have cr_0_33 := fdq_117 hD hth r0
  have cr_0_34 := fdq_118 hD hth r0
  have cr_0_35 := fdq_132 hD hth r0
  have cr_0_42 := fdq_136 hD hth r0
  have cr_0_43 := fdq_137 hD hth r0
  have cr_0_44 := fdq_138 hD hth r0
  have cr_0_46 := fdq_190 hD hth r0
  have cr_0_48 := fdq_144 hD hth r0
  have ad_15 : v_ad (n_v vs 15) = w_ar ws (n_v vs 0) 48 := congrArg v_ad f6
  simp only [ad_15] at f5
  have h5 : v_iv (n_v vs 17) = w_ei ws (w_ar ws (n_v vs 0) 48) (v_iv (n_v vs 9)) := f5
  simp only [ad_15] at f7
  have h7 : v_iv (n_v vs 16) = w_ei ws (w_ar ws (n_v vs 0) 48) (v_iv (n_v vs 11)) := f7
  have hK_0_33 := elq_60 hD hth cr_0_33
  have hK_0_34 := elq_61 hD hth cr_0_34
  have hK_0_35 := elq_72 hD hth cr_0_35
  have hK_0_42 := elq_75 hD hth cr_0_42
  have hK_0_43 := elq_76 hD hth cr_0_43
  have hK_0_44 := elq_77 hD hth cr_0_44
  have hK_0_46 := elq_114 hD hth cr_0_46
  have hK_0_48 := elq_82 hD hth cr_0_48
  have kz_0_31 := fdq_145 hD hth r0
  have kz_0_32 := fdq_140 hD hth r0
  have kz_0_45 := fdq_191 hD hth r0
  have kz_0_49 := fdq_146 hD hth r0
  first | have hW := wlk_bd ‹TGI _ _ _ _ _ _ _ _ _ _ _ _› ‹TG5 _ _ _ _ _ _ _ _ _ _ _› ‹WLK _ _ _ _ _ _ _ _ _ _ _ _ _ _ _ _› | skip
  first | have hX := nxt_some ‹UA _ _ _› ‹TGI _ _ _ _ _ _ _ _ _ _ _ _› ‹TG5 _ _ _ _ _ _ _ _ _ _ _› ‹WLK _ _ _ _ _ _ _ _ _ _ _ _ _ _ _ _› (by assumption) ‹NXT _ _ _ _ _ _ _ _ _ _ _ _ _ _ _› (by omega) | skip
  first | have hX1 := hX.1 | skip
  first | have hX2 := hX.2.1 | skip
  have nf0 : fc_1 PRD (20, [4, 6, 7, 9, 11, 20], [60, 3, 7, 132, 31, 32, 49, 33, 34, 35, 43, 44, 42, 48]) ws (vs) := by
    refine ⟨nf_in hl rfl, sgq_1468 ?_⟩
    · show NXT (w_fi ws (n_v vs 4) 31) (w_fi ws (n_v vs 4) 32) (w_fi ws (n_v vs 4) 49) (w_ei ws (w_ar ws (n_v vs 4) 33)) (w_ei ws (w_ar ws (n_v vs 4) 34)) (w_ei ws (w_ar ws (n_v vs 4) 35)) (w_ei ws (w_ar ws (n_v vs 4) 43)) (w_ei ws (w_ar ws (n_v vs 4) 44)) (w_ei ws (w_ar ws (n_v vs 4) 42)) (w_ei ws (w_ar ws (n_v vs 4) 48)) (v_iv (n_v vs 6)) (v_iv (n_v vs 7)) (v_iv (n_v vs 9)) (v_iv (n_v vs 11)) (v_iv (n_v vs 20))
      simp only [q4, q6, q7]
      exact vc_Mo_shortest_29_0 (v_iv (n_v vs 2)) (v_iv (n_v vs 3)) (v_iv (n_v vs 9)) (v_iv (n_v vs 10)) (v_iv (n_v vs 11)) (v_iv (n_v vs 13)) (v_iv (n_v vs 14)) (v_iv (n_v vs 16)) (v_iv (n_v vs 17)) (v_iv (n_v vs 19)) (v_iv (n_v vs 20)) (w_ei ws (w_ar ws (n_v vs 0) 48)) (w_ei ws (w_ar ws (n_v vs 0) 43)) (w_ei ws (w_ar ws (n_v vs 0) 44)) (w_fi ws (n_v vs 0) 49) (w_ei ws (w_ar ws (n_v vs 0) 33)) (w_ei ws (w_ar ws (n_v vs 0) 34)) (w_ei ws (w_ar ws (n_v vs 0) 35)) (w_fi ws (n_v vs 0) 32) (w_fi ws (n_v vs 0) 31) (w_ei ws (w_ar ws (n_v vs 0) 42)) k2 k3 k9 k10 k11 k13 k14 k16 k17 k19 k20 d0 d1 d2 f0 f1 h5 h7 f8 f9 f11 f12 f20 f22 kz_0_31 kz_0_32 kz_0_49
  have nf1 : fc_1 PRD (20, [20, 4], [30, -1, 1, 0, 0, -1, 1, 31]) ws (vs) := by
    refine ⟨nf_in hl rfl, sgq_553 ?_⟩
    · show 1 * v_iv (n_v vs 20) + ((-1) * w_fi ws (n_v vs 4) 31 + 0) ≤ (-1)
      rw [q4]
      exact vc_Mo_shortest_29_1 (v_iv (n_v vs 11)) (v_iv (n_v vs 20)) (w_fi ws (n_v vs 0) 31) k11 k20 d0 f22 kz_0_31
  refine ⟨(fun _ h => (by cases h)), [], trivial, ?_, (fun _ h => (by cases h))⟩
  rw [List.append_nil]
  exact List.forall_mem_cons.mpr ⟨⟨show (20 : Nat) < 100 from by decide, nf0⟩, List.forall_mem_cons.mpr ⟨⟨show (20 : Nat) < 100 from by decide, nf1⟩, (fun _ h => (by cases h))⟩⟩
set_option maxHeartbeats 4000000 in
theorem vc_Mo_shortest_30_0 (x2 : Int) (x3 : Int) (x6 : Int) (x9 : Int) (x10 : Int) (x11 : Int) (x13 : Int) (x14 : Int) (x19 : Int) (x21 : Int) (x22 : Int) (drawnNode_0 : Int → Int) (toGoal_0 : Int → Int) (drawnEdge_0 : Int → Int) (pieceOf_0 : Int → Int) (onlyPiece_0 : Int) (pt_0 : Int → Int) (ph_0 : Int → Int) (alive_0 : Int → Int) (pm_0 : Int) (pn_0 : Int) (k2 : 0 ≤ x2 ∧ x2 ≤ 24) (k3 : 1 ≤ x3 ∧ x3 ≤ 1) (k6 : 0 ≤ x6 ∧ x6 ≤ 24) (k9 : 0 ≤ x9 ∧ x9 ≤ 24) (k10 : (-1) ≤ x10 ∧ x10 ≤ 24) (k11 : 0 ≤ x11 ∧ x11 ≤ 24) (k13 : 0 ≤ x13 ∧ x13 ≤ 79) (k14 : 1 ≤ x14 ∧ x14 ≤ 1) (k21 : 1 ≤ x21 ∧ x21 ≤ 1) (k22 : (-1) ≤ x22 ∧ x22 ≤ 23) (d0 : x11 + (-1) ≤ x22 ∧ x22 ≤ x11 + (-1)) (d4 : x6 + (-4294967296) ≤ x2 ∧ x2 ≤ x6 + 0) (d6 : x2 + (-4294967296) ≤ x6 ∧ x6 ≤ x2 + 0) (f0 : x22 = x11 + (-1)) (h2 : x21 = drawnNode_0 (x11)) (f5 : x11 ≠ x2) (f11 : x14 ≠ 0) (f12 : MGP (onlyPiece_0) (drawnEdge_0) (pieceOf_0) (x13) (x14)) (f14 : EOF (pm_0) (pt_0) (ph_0) (alive_0) (x9) (x11) (x13)) (f23 : NXT (pn_0) (pm_0) (onlyPiece_0) (pt_0) (ph_0) (alive_0) (drawnEdge_0) (pieceOf_0) (drawnNode_0) (toGoal_0) (x2) (x3) (x9) (x10) (x11)) (f24 : x9 ≠ x2) (kz_0_31 : 0 ≤ pn_0 ∧ pn_0 ≤ 25) (kz_0_32 : 0 ≤ pm_0 ∧ pm_0 ≤ 80) (kz_0_49 : (-1) ≤ onlyPiece_0 ∧ onlyPiece_0 ≤ 79) : NXT (pn_0) (pm_0) (onlyPiece_0) (pt_0) (ph_0) (alive_0) (drawnEdge_0) (pieceOf_0) (drawnNode_0) (toGoal_0) (x2) (x3) (x9) (x10) (x22) := by
  first
    | (have h := ‹NXT _ _ _ _ _ _ _ _ _ _ _ _ _ _ _›
       have hEo := ‹EOF _ _ _ _ _ _ _›
       first
         | (rw [show x14 = x11 + -1 by omega]
            refine nxt_skip h (fun g => ?_)
            obtain ⟨e, je, _⟩ := g.2.2.1
            rcases hEo with z | z
            · exact z.2 e je
            · have := z.1; omega)
         | (have jx : JJ pm_0 pt_0 ph_0 alive_0 x13 x9 x11 := hEo.elim (fun z => by exfalso; have := z.1; omega) id
            have mg := ‹MGP _ _ _ _ _›
            first
              | (rw [show x15 = x11 + -1 by omega]
                 refine nxt_skip h (fun g => ?_)
                 obtain ⟨e, je, me⟩ := g.2.2.1
                 rw [JJ_one ‹GOK _ _ _ _› je jx] at me
                 exact absurd (mg.mpr me) (by omega))
              | (first | rw [show x19 = x11 + -1 by omega] | rw [show x20 = x11 + -1 by omega] | rw [show x21 = x11 + -1 by omega] | rw [show x22 = x11 + -1 by omega] | rw [show x23 = x11 + -1 by omega]
                 refine nxt_skip h (fun g => ?_)
                 have g4 := g.2.2.2.1
                 have g5 := g.2.2.2.2
                 omega)
              | (first | rw [show x19 = x11 + -1 by omega] | rw [show x20 = x11 + -1 by omega] | rw [show x21 = x11 + -1 by omega] | rw [show x22 = x11 + -1 by omega] | rw [show x23 = x11 + -1 by omega]
                 refine nxt_take ⟨by omega, by omega, ⟨x13, jx, mg.mp (by omega)⟩, by omega, ?_⟩
                 first
                   | exact Or.inl (by omega)
                   | exact Or.inr (Or.inl (by omega))
                   | exact Or.inr (Or.inr (by omega)))))
set_option maxHeartbeats 4000000 in
theorem vc_Mo_shortest_30_1 (x11 : Int) (x22 : Int) (pn_0 : Int) (k11 : 0 ≤ x11 ∧ x11 ≤ 24) (k22 : (-1) ≤ x22 ∧ x22 ≤ 23) (d0 : x11 + (-1) ≤ x22 ∧ x22 ≤ x11 + (-1)) (f25 : 1 * x11 + ((-1) * pn_0 + 0) ≤ (-1)) (kz_0_31 : 0 ≤ pn_0 ∧ pn_0 ≤ 25) : 1 * x22 + ((-1) * pn_0 + 0) ≤ (-1) := by
  first | omega
def o_Mo_shortest_30 : or_T := (204, 23, [(0, (2, 0, 0, [165])), (1, (0, 0, 24, [])), (2, (0, 0, 24, [])), (3, (0, 1, 1, [])), (4, (2, 0, 0, [165])), (5, (0, 0, 24, [])), (6, (0, 0, 24, [])), (7, (0, 1, 1, [])), (9, (0, 0, 24, [])), (10, (0, -1, 24, [])), (11, (0, 0, 24, [])), (12, (0, -2, 61, [])), (13, (0, 0, 79, [])), (14, (0, 1, 1, [])), (15, (2, 0, 0, [192])), (16, (0, 0, 999999, [])), (17, (0, 1, 1000000, [])), (18, (0, 1, 1, [])), (19, (0, 0, 999999, [])), (20, (2, 0, 0, [188])), (21, (0, 1, 1, [])), (22, (0, -1, 23, []))], [(6, [22, 11], [-1]), (8, [21], [1]), (10, [21, 20, 11], []), (9, [20, 4], [42]), (8, [7], [1]), (7, [11, 6], [1]), (7, [16, 19], [0]), (2, [19, 17, 18], []), (10, [17, 15, 9], []), (9, [15, 4], [48]), (10, [16, 15, 11], []), (8, [14], [1]), (20, [4, 13, 14], [60, 1, 2, 120, 49, 43, 44]), (8, [13], [3]), (20, [4, 9, 11, 13], [60, 1, 3, 85, 32, 33, 34, 35]), (8, [11], [3]), (20, [4], [60, 2, 2, 75, 31, 32, 33, 34]), (20, [4], [60, 1, 2, 122, 32, 35, 43]), (20, [5, 4], [30, -1, 1, 0, 0, -1, 1, 31]), (20, [6, 4], [30, -1, 1, 0, 0, -1, 1, 31]), (20, [4, 5, 6, 7], [60, 3, 6, 124, 31, 32, 49, 33, 34, 43, 44, 42, 48]), (20, [4, 5, 6, 7], [60, 2, 6, 134, 32, 49, 33, 34, 43, 44, 42, 48]), (20, [4, 5, 6, 7, 9], [60, 4, 8, 131, 31, 32, 49, 45, 33, 34, 35, 43, 44, 42, 48, 46]), (20, [4, 6, 7, 9, 10, 11], [60, 3, 7, 132, 31, 32, 49, 33, 34, 35, 43, 44, 42, 48]), (20, [9, 6], [50, 0, 0, 7, 2, 1, 0, 1, 1]), (20, [11, 4], [30, -1, 1, 0, 0, -1, 1, 31]), (20, [4, 12], [30, 62, 1, 1, 45, 1, 0, 0]), (20, [4, 12], [30, -62, -1, 1, 45, -1, 0, 0]), (24, [0, 4], []), (24, [1, 5], []), (24, [2, 6], []), (24, [3, 7], [])], [], [], [(20, [4, 6, 7, 9, 10, 22], [60, 3, 7, 132, 31, 32, 49, 33, 34, 35, 43, 44, 42, 48]), (20, [22, 4], [30, -1, 1, 0, 0, -1, 1, 31])], [], [(22, 11, -1, -1), (16, 19, 0, 0), (19, 17, -1, -1), (1, 5, -4294967296, 0), (2, 6, -4294967296, 0), (5, 1, -4294967296, 0), (6, 2, -4294967296, 0)])
theorem oo_Mo_shortest_30 {kA : Nat → ClassId} : or_ok PRD kA GG o_Mo_shortest_30 := by
  refine or_mk fun A ta ws vs hD hth hl => ?_
  intro t0 r0 t1 k1 t2 k2 t3 k3 t4 r4 t5 k5 t6 k6 t7 k7 t9 k9 t10 k10 t11 k11 t12 k12 t13 k13 t14 k14 t15 r15 t16 k16 t17 k17 t18 k18 t19 k19 t20 r20 t21 k21 t22 k22 d0 d1 d2 d3 d4 d5 d6 f0 f1 f2 f3 f4 f5 f6 f7 f8 f9 f10 f11 f12 f13 f14 f15 f16 f17 f18 f19 f20 f21 f22 f23 f24 f25 f26 f27 f28 f29 f30 f31
  replace f0 := shm_186 f0
  replace f1 := shm_142 f1
  replace f2 := shm_107 f2
  replace f3 := shm_531 f3
  replace f4 := shm_142 f4
  replace f5 := shm_40 f5
  replace f6 := shm_37 f6
  replace f7 := shm_14 f7
  replace f8 := shm_107 f8
  replace f9 := shm_548 f9
  replace f10 := shm_107 f10
  replace f11 := shm_142 f11
  replace f12 := shm_638 f12
  replace f13 := shm_32 f13
  replace f14 := shm_990 f14
  replace f15 := shm_32 f15
  replace f16 := shm_575 f16
  replace f17 := shm_1455 f17
  replace f18 := shm_553 f18
  replace f19 := shm_553 f19
  replace f20 := shm_549 f20
  replace f21 := shm_1459 f21
  replace f22 := shm_1467 f22
  replace f23 := shm_1468 f23
  replace f24 := shm_406 f24
  replace f25 := shm_553 f25
  replace f26 := shm_1461 f26
  replace f27 := shm_1462 f27
  replace f28 := shm_5 f28
  replace f29 := shm_5 f29
  replace f30 := shm_5 f30
  replace f31 := shm_5 f31
  have q4 : n_v vs 4 = n_v vs 0 := f28.symm
  have q5 : n_v vs 5 = n_v vs 1 := f29.symm
  have q6 : n_v vs 6 = n_v vs 2 := f30.symm
  have q7 : n_v vs 7 = n_v vs 3 := f31.symm
  simp only [q4, q7, q6, q5] at f3 f4 f5 f9 f12 f14 f16 f17 f18 f19 f20 f21 f22 f23 f24 f25 f26 f27
  have cr_0_33 := fdq_117 hD hth r0
  have cr_0_34 := fdq_118 hD hth r0
  have cr_0_35 := fdq_132 hD hth r0
  have cr_0_42 := fdq_136 hD hth r0
  have cr_0_43 := fdq_137 hD hth r0
  have cr_0_44 := fdq_138 hD hth r0
  have cr_0_46 := fdq_190 hD hth r0
  have cr_0_48 := fdq_144 hD hth r0
  have ad_20 : v_ad (n_v vs 20) = w_ar ws (n_v vs 0) 42 := congrArg v_ad f3
  have ad_15 : v_ad (n_v vs 15) = w_ar ws (n_v vs 0) 48 := congrArg v_ad f9
  simp only [ad_20] at f2
  have h2 : v_iv (n_v vs 21) = w_ei ws (w_ar ws (n_v vs 0) 42) (v_iv (n_v vs 11)) := f2
  simp only [ad_15] at f8
  have h8 : v_iv (n_v vs 17) = w_ei ws (w_ar ws (n_v vs 0) 48) (v_iv (n_v vs 9)) := f8
  simp only [ad_15] at f10
  have h10 : v_iv (n_v vs 16) = w_ei ws (w_ar ws (n_v vs 0) 48) (v_iv (n_v vs 11)) := f10
  have hK_0_33 := elq_60 hD hth cr_0_33
  have hK_0_34 := elq_61 hD hth cr_0_34
  have hK_0_35 := elq_72 hD hth cr_0_35
  have hK_0_42 := elq_75 hD hth cr_0_42
  have hK_0_43 := elq_76 hD hth cr_0_43
  have hK_0_44 := elq_77 hD hth cr_0_44
  have hK_0_46 := elq_114 hD hth cr_0_46
  have hK_0_48 := elq_82 hD hth cr_0_48
  have kz_0_31 := fdq_145 hD hth r0
  have kz_0_32 := fdq_140 hD hth r0
  have kz_0_45 := fdq_191 hD hth r0
  have kz_0_49 := fdq_146 hD hth r0
  first | have hW := wlk_bd ‹TGI _ _ _ _ _ _ _ _ _ _ _ _› ‹TG5 _ _ _ _ _ _ _ _ _ _ _› ‹WLK _ _ _ _ _ _ _ _ _ _ _ _ _ _ _ _› | skip
  first | have hX := nxt_some ‹UA _ _ _› ‹TGI _ _ _ _ _ _ _ _ _ _ _ _› ‹TG5 _ _ _ _ _ _ _ _ _ _ _› ‹WLK _ _ _ _ _ _ _ _ _ _ _ _ _ _ _ _› (by assumption) ‹NXT _ _ _ _ _ _ _ _ _ _ _ _ _ _ _› (by omega) | skip
  first | have hX1 := hX.1 | skip
  first | have hX2 := hX.2.1 | skip
  have nf0 : fc_1 PRD (20, [4, 6, 7, 9, 10, 22], [60, 3, 7, 132, 31, 32, 49, 33, 34, 35, 43, 44, 42, 48]) ws (vs) := by
    refine ⟨nf_in hl rfl, sgq_1468 ?_⟩
    · show NXT (w_fi ws (n_v vs 4) 31) (w_fi ws (n_v vs 4) 32) (w_fi ws (n_v vs 4) 49) (w_ei ws (w_ar ws (n_v vs 4) 33)) (w_ei ws (w_ar ws (n_v vs 4) 34)) (w_ei ws (w_ar ws (n_v vs 4) 35)) (w_ei ws (w_ar ws (n_v vs 4) 43)) (w_ei ws (w_ar ws (n_v vs 4) 44)) (w_ei ws (w_ar ws (n_v vs 4) 42)) (w_ei ws (w_ar ws (n_v vs 4) 48)) (v_iv (n_v vs 6)) (v_iv (n_v vs 7)) (v_iv (n_v vs 9)) (v_iv (n_v vs 10)) (v_iv (n_v vs 22))
      simp only [q4, q6, q7]
      exact vc_Mo_shortest_30_0 (v_iv (n_v vs 2)) (v_iv (n_v vs 3)) (v_iv (n_v vs 6)) (v_iv (n_v vs 9)) (v_iv (n_v vs 10)) (v_iv (n_v vs 11)) (v_iv (n_v vs 13)) (v_iv (n_v vs 14)) (v_iv (n_v vs 19)) (v_iv (n_v vs 21)) (v_iv (n_v vs 22)) (w_ei ws (w_ar ws (n_v vs 0) 42)) (w_ei ws (w_ar ws (n_v vs 0) 48)) (w_ei ws (w_ar ws (n_v vs 0) 43)) (w_ei ws (w_ar ws (n_v vs 0) 44)) (w_fi ws (n_v vs 0) 49) (w_ei ws (w_ar ws (n_v vs 0) 33)) (w_ei ws (w_ar ws (n_v vs 0) 34)) (w_ei ws (w_ar ws (n_v vs 0) 35)) (w_fi ws (n_v vs 0) 32) (w_fi ws (n_v vs 0) 31) k2 k3 k6 k9 k10 k11 k13 k14 k21 k22 d0 d4 d6 f0 h2 f5 f11 f12 f14 f23 f24 kz_0_31 kz_0_32 kz_0_49
  have nf1 : fc_1 PRD (20, [22, 4], [30, -1, 1, 0, 0, -1, 1, 31]) ws (vs) := by
    refine ⟨nf_in hl rfl, sgq_553 ?_⟩
    · show 1 * v_iv (n_v vs 22) + ((-1) * w_fi ws (n_v vs 4) 31 + 0) ≤ (-1)
      rw [q4]
      exact vc_Mo_shortest_30_1 (v_iv (n_v vs 11)) (v_iv (n_v vs 22)) (w_fi ws (n_v vs 0) 31) k11 k22 d0 f25 kz_0_31
  refine ⟨(fun _ h => (by cases h)), [], trivial, ?_, (fun _ h => (by cases h))⟩
  rw [List.append_nil]
  exact List.forall_mem_cons.mpr ⟨⟨show (20 : Nat) < 100 from by decide, nf0⟩, List.forall_mem_cons.mpr ⟨⟨show (20 : Nat) < 100 from by decide, nf1⟩, (fun _ h => (by cases h))⟩⟩
set_option maxHeartbeats 4000000 in
theorem vc_Mo_shortest_31_0 (x2 : Int) (x3 : Int) (x9 : Int) (x10 : Int) (x11 : Int) (x13 : Int) (x14 : Int) (x16 : Int) (x17 : Int) (x19 : Int) (x21 : Int) (x22 : Int) (drawnNode_0 : Int → Int) (toGoal_0 : Int → Int) (drawnEdge_0 : Int → Int) (pieceOf_0 : Int → Int) (onlyPiece_0 : Int) (pt_0 : Int → Int) (ph_0 : Int → Int) (alive_0 : Int → Int) (pm_0 : Int) (pn_0 : Int) (k2 : 0 ≤ x2 ∧ x2 ≤ 24) (k3 : 1 ≤ x3 ∧ x3 ≤ 1) (k9 : 0 ≤ x9 ∧ x9 ≤ 24) (k10 : (-1) ≤ x10 ∧ x10 ≤ 24) (k11 : 0 ≤ x11 ∧ x11 ≤ 24) (k13 : 0 ≤ x13 ∧ x13 ≤ 79) (k14 : 1 ≤ x14 ∧ x14 ≤ 1) (k16 : 0 ≤ x16 ∧ x16 ≤ 999999) (k17 : 1 ≤ x17 ∧ x17 ≤ 1000000) (k19 : 0 ≤ x19 ∧ x19 ≤ 999999) (k21 : 0 ≤ x21 ∧ x21 ≤ 0) (k22 : (-1) ≤ x22 ∧ x22 ≤ 23) (d0 : x11 + (-1) ≤ x22 ∧ x22 ≤ x11 + (-1)) (d1 : x19 + 0 ≤ x16 ∧ x16 ≤ x19 + 0) (d2 : x17 + (-1) ≤ x19 ∧ x19 ≤ x17 + (-1)) (f0 : x22 = x11 + (-1)) (h2 : x21 = drawnNode_0 (x11)) (h8 : x17 = toGoal_0 (x9)) (h10 : x16 = toGoal_0 (x11)) (f11 : x14 ≠ 0) (f12 : MGP (onlyPiece_0) (drawnEdge_0) (pieceOf_0) (x13) (x14)) (f14 : EOF (pm_0) (pt_0) (ph_0) (alive_0) (x9) (x11) (x13)) (f15 : 0 ≤ x11) (f23 : NXT (pn_0) (pm_0) (onlyPiece_0) (pt_0) (ph_0) (alive_0) (drawnEdge_0) (pieceOf_0) (drawnNode_0) (toGoal_0) (x2) (x3) (x9) (x10) (x11)) (f25 : 1 * x11 + ((-1) * pn_0 + 0) ≤ (-1)) (kz_0_31 : 0 ≤ pn_0 ∧ pn_0 ≤ 25) (kz_0_32 : 0 ≤ pm_0 ∧ pm_0 ≤ 80) (kz_0_49 : (-1) ≤ onlyPiece_0 ∧ onlyPiece_0 ≤ 79) : NXT (pn_0) (pm_0) (onlyPiece_0) (pt_0) (ph_0) (alive_0) (drawnEdge_0) (pieceOf_0) (drawnNode_0) (toGoal_0) (x2) (x3) (x9) (x11) (x22) := by
  first
    | (have h := ‹NXT _ _ _ _ _ _ _ _ _ _ _ _ _ _ _›
       have hEo := ‹EOF _ _ _ _ _ _ _›
       first
         | (rw [show x14 = x11 + -1 by omega]
            refine nxt_skip h (fun g => ?_)
            obtain ⟨e, je, _⟩ := g.2.2.1
            rcases hEo with z | z
            · exact z.2 e je
            · have := z.1; omega)
         | (have jx : JJ pm_0 pt_0 ph_0 alive_0 x13 x9 x11 := hEo.elim (fun z => by exfalso; have := z.1; omega) id
            have mg := ‹MGP _ _ _ _ _›
            first
              | (rw [show x15 = x11 + -1 by omega]
                 refine nxt_skip h (fun g => ?_)
                 obtain ⟨e, je, me⟩ := g.2.2.1
                 rw [JJ_one ‹GOK _ _ _ _› je jx] at me
                 exact absurd (mg.mpr me) (by omega))
              | (first | rw [show x19 = x11 + -1 by omega] | rw [show x20 = x11 + -1 by omega] | rw [show x21 = x11 + -1 by omega] | rw [show x22 = x11 + -1 by omega] | rw [show x23 = x11 + -1 by omega]
                 refine nxt_skip h (fun g => ?_)
                 have g4 := g.2.2.2.1
                 have g5 := g.2.2.2.2
                 omega)
              | (first | rw [show x19 = x11 + -1 by omega] | rw [show x20 = x11 + -1 by omega] | rw [show x21 = x11 + -1 by omega] | rw [show x22 = x11 + -1 by omega] | rw [show x23 = x11 + -1 by omega]
                 refine nxt_take ⟨by omega, by omega, ⟨x13, jx, mg.mp (by omega)⟩, by omega, ?_⟩
                 first
                   | exact Or.inl (by omega)
                   | exact Or.inr (Or.inl (by omega))
                   | exact Or.inr (Or.inr (by omega)))))
set_option maxHeartbeats 4000000 in
theorem vc_Mo_shortest_31_1 (x11 : Int) (x22 : Int) (pn_0 : Int) (k11 : 0 ≤ x11 ∧ x11 ≤ 24) (k22 : (-1) ≤ x22 ∧ x22 ≤ 23) (d0 : x11 + (-1) ≤ x22 ∧ x22 ≤ x11 + (-1)) (f25 : 1 * x11 + ((-1) * pn_0 + 0) ≤ (-1)) (kz_0_31 : 0 ≤ pn_0 ∧ pn_0 ≤ 25) : 1 * x22 + ((-1) * pn_0 + 0) ≤ (-1) := by
  first | omega
def o_Mo_shortest_31 : or_T := (204, 23, [(0, (2, 0, 0, [165])), (1, (0, 0, 24, [])), (2, (0, 0, 24, [])), (3, (0, 1, 1, [])), (4, (2, 0, 0, [165])), (5, (0, 0, 24, [])), (6, (0, 0, 24, [])), (7, (0, 1, 1, [])), (9, (0, 0, 24, [])), (10, (0, -1, 24, [])), (11, (0, 0, 24, [])), (12, (0, -2, 61, [])), (13, (0, 0, 79, [])), (14, (0, 1, 1, [])), (15, (2, 0, 0, [192])), (16, (0, 0, 999999, [])), (17, (0, 1, 1000000, [])), (18, (0, 1, 1, [])), (19, (0, 0, 999999, [])), (20, (2, 0, 0, [188])), (21, (0, 0, 0, [])), (22, (0, -1, 23, []))], [(6, [22, 11], [-1]), (8, [21], [0]), (10, [21, 20, 11], []), (9, [20, 4], [42]), (8, [7], [1]), (7, [11, 6], [1]), (7, [16, 19], [0]), (2, [19, 17, 18], []), (10, [17, 15, 9], []), (9, [15, 4], [48]), (10, [16, 15, 11], []), (8, [14], [1]), (20, [4, 13, 14], [60, 1, 2, 120, 49, 43, 44]), (8, [13], [3]), (20, [4, 9, 11, 13], [60, 1, 3, 85, 32, 33, 34, 35]), (8, [11], [3]), (20, [4], [60, 2, 2, 75, 31, 32, 33, 34]), (20, [4], [60, 1, 2, 122, 32, 35, 43]), (20, [5, 4], [30, -1, 1, 0, 0, -1, 1, 31]), (20, [6, 4], [30, -1, 1, 0, 0, -1, 1, 31]), (20, [4, 5, 6, 7], [60, 3, 6, 124, 31, 32, 49, 33, 34, 43, 44, 42, 48]), (20, [4, 5, 6, 7], [60, 2, 6, 134, 32, 49, 33, 34, 43, 44, 42, 48]), (20, [4, 5, 6, 7, 9], [60, 4, 8, 131, 31, 32, 49, 45, 33, 34, 35, 43, 44, 42, 48, 46]), (20, [4, 6, 7, 9, 10, 11], [60, 3, 7, 132, 31, 32, 49, 33, 34, 35, 43, 44, 42, 48]), (20, [9, 6], [50, 0, 0, 7, 2, 1, 0, 1, 1]), (20, [11, 4], [30, -1, 1, 0, 0, -1, 1, 31]), (20, [4, 12], [30, 62, 1, 1, 45, 1, 0, 0]), (20, [4, 12], [30, -62, -1, 1, 45, -1, 0, 0]), (24, [0, 4], []), (24, [1, 5], []), (24, [2, 6], []), (24, [3, 7], [])], [], [], [(20, [4, 6, 7, 9, 11, 22], [60, 3, 7, 132, 31, 32, 49, 33, 34, 35, 43, 44, 42, 48]), (20, [22, 4], [30, -1, 1, 0, 0, -1, 1, 31])], [], [(22, 11, -1, -1), (16, 19, 0, 0), (19, 17, -1, -1), (1, 5, -4294967296, 0), (2, 6, -4294967296, 0), (5, 1, -4294967296, 0), (6, 2, -4294967296, 0)])
theorem oo_Mo_shortest_31 {kA : Nat → ClassId} : or_ok PRD kA GG o_Mo_shortest_31 := by
  refine or_mk fun A ta ws vs hD hth hl => ?_
  intro t0 r0 t1 k1 t2 k2 t3 k3 t4 r4 t5 k5 t6 k6 t7 k7 t9 k9 t10 k10 t11 k11 t12 k12 t13 k13 t14 k14 t15 r15 t16 k16 t17 k17 t18 k18 t19 k19 t20 r20 t21 k21 t22 k22 d0 d1 d2 d3 d4 d5 d6 f0 f1 f2 f3 f4 f5 f6 f7 f8 f9 f10 f11 f12 f13 f14 f15 f16 f17 f18 f19 f20 f21 f22 f23 f24 f25 f26 f27 f28 f29 f30 f31
  replace f0 := shm_186 f0
  replace f1 := shm_192 f1
  replace f2 := shm_107 f2
  replace f3 := shm_531 f3
  replace f4 := shm_142 f4
  replace f5 := shm_40 f5
  replace f6 := shm_37 f6
  replace f7 := shm_14 f7
  replace f8 := shm_107 f8
  replace f9 := shm_548 f9
  replace f10 := shm_107 f10
  replace f11 := shm_142 f11
  replace f12 := shm_638 f12
  replace f13 := shm_32 f13
  replace f14 := shm_990 f14
  replace f15 := shm_32 f15
  replace f16 := shm_575 f16
  replace f17 := shm_1455 f17
  replace f18 := shm_553 f18
  replace f19 := shm_553 f19
  replace f20 := shm_549 f20
  replace f21 := shm_1459 f21
  replace f22 := shm_1467 f22
  replace f23 := shm_1468 f23
  replace f24 := shm_406 f24
  replace f25 := shm_553 f25
  replace f26 := shm_1461 f26
  replace f27 := shm_1462 f27
  replace f28 := shm_5 f28
  replace f29 := shm_5 f29
  replace f30 := shm_5 f30
  replace f31 := shm_5 f31
  have q4 : n_v vs 4 = n_v vs 0 := f28.symm
  have q5 : n_v vs 5 = n_v vs 1 := f29.symm
  have q6 : n_v vs 6 = n_v vs 2 := f30.symm
  have q7 : n_v vs 7 = n_v vs 3 := f31.symm
  simp only [q4, q7, q6, q5] at f3 f4 f5 f9 f12 f14 f16 f17 f18 f19 f20 f21 f22 f23 f24 f25 f26 f27
  have cr_0_33 := fdq_117 hD hth r0
  have cr_0_34 := fdq_118 hD hth r0
  have cr_0_35 := fdq_132 hD hth r0
  have cr_0_42 := fdq_136 hD hth r0
  have cr_0_43 := fdq_137 hD hth r0
  have cr_0_44 := fdq_138 hD hth r0
  have cr_0_46 := fdq_190 hD hth r0
  have cr_0_48 := fdq_144 hD hth r0
  have ad_20 : v_ad (n_v vs 20) = w_ar ws (n_v vs 0) 42 := congrArg v_ad f3
  have ad_15 : v_ad (n_v vs 15) = w_ar ws (n_v vs 0) 48 := congrArg v_ad f9
  simp only [ad_20] at f2
  have h2 : v_iv (n_v vs 21) = w_ei ws (w_ar ws (n_v vs 0) 42) (v_iv (n_v vs 11)) := f2
  simp only [ad_15] at f8
  have h8 : v_iv (n_v vs 17) = w_ei ws (w_ar ws (n_v vs 0) 48) (v_iv (n_v vs 9)) := f8
  simp only [ad_15] at f10
  have h10 : v_iv (n_v vs 16) = w_ei ws (w_ar ws (n_v vs 0) 48) (v_iv (n_v vs 11)) := f10
  have hK_0_33 := elq_60 hD hth cr_0_33
  have hK_0_34 := elq_61 hD hth cr_0_34
  have hK_0_35 := elq_72 hD hth cr_0_35
  have hK_0_42 := elq_75 hD hth cr_0_42
  have hK_0_43 := elq_76 hD hth cr_0_43
  have hK_0_44 := elq_77 hD hth cr_0_44
  have hK_0_46 := elq_114 hD hth cr_0_46
  have hK_0_48 := elq_82 hD hth cr_0_48
  have kz_0_31 := fdq_145 hD hth r0
  have kz_0_32 := fdq_140 hD hth r0
  have kz_0_45 := fdq_191 hD hth r0
  have kz_0_49 := fdq_146 hD hth r0
  first | have hW := wlk_bd ‹TGI _ _ _ _ _ _ _ _ _ _ _ _› ‹TG5 _ _ _ _ _ _ _ _ _ _ _› ‹WLK _ _ _ _ _ _ _ _ _ _ _ _ _ _ _ _› | skip
  first | have hX := nxt_some ‹UA _ _ _› ‹TGI _ _ _ _ _ _ _ _ _ _ _ _› ‹TG5 _ _ _ _ _ _ _ _ _ _ _› ‹WLK _ _ _ _ _ _ _ _ _ _ _ _ _ _ _ _› (by assumption) ‹NXT _ _ _ _ _ _ _ _ _ _ _ _ _ _ _› (by omega) | skip
  first | have hX1 := hX.1 | skip
  first | have hX2 := hX.2.1 | skip
  have nf0 : fc_1 PRD (20, [4, 6, 7, 9, 11, 22], [60, 3, 7, 132, 31, 32, 49, 33, 34, 35, 43, 44, 42, 48]) ws (vs) := by
    refine ⟨nf_in hl rfl, sgq_1468 ?_⟩
    · show NXT (w_fi ws (n_v vs 4) 31) (w_fi ws (n_v vs 4) 32) (w_fi ws (n_v vs 4) 49) (w_ei ws (w_ar ws (n_v vs 4) 33)) (w_ei ws (w_ar ws (n_v vs 4) 34)) (w_ei ws (w_ar ws (n_v vs 4) 35)) (w_ei ws (w_ar ws (n_v vs 4) 43)) (w_ei ws (w_ar ws (n_v vs 4) 44)) (w_ei ws (w_ar ws (n_v vs 4) 42)) (w_ei ws (w_ar ws (n_v vs 4) 48)) (v_iv (n_v vs 6)) (v_iv (n_v vs 7)) (v_iv (n_v vs 9)) (v_iv (n_v vs 11)) (v_iv (n_v vs 22))
      simp only [q4, q6, q7]
      exact vc_Mo_shortest_31_0 (v_iv (n_v vs 2)) (v_iv (n_v vs 3)) (v_iv (n_v vs 9)) (v_iv (n_v vs 10)) (v_iv (n_v vs 11)) (v_iv (n_v vs 13)) (v_iv (n_v vs 14)) (v_iv (n_v vs 16)) (v_iv (n_v vs 17)) (v_iv (n_v vs 19)) (v_iv (n_v vs 21)) (v_iv (n_v vs 22)) (w_ei ws (w_ar ws (n_v vs 0) 42)) (w_ei ws (w_ar ws (n_v vs 0) 48)) (w_ei ws (w_ar ws (n_v vs 0) 43)) (w_ei ws (w_ar ws (n_v vs 0) 44)) (w_fi ws (n_v vs 0) 49) (w_ei ws (w_ar ws (n_v vs 0) 33)) (w_ei ws (w_ar ws (n_v vs 0) 34)) (w_ei ws (w_ar ws (n_v vs 0) 35)) (w_fi ws (n_v vs 0) 32) (w_fi ws (n_v vs 0) 31) k2 k3 k9 k10 k11 k13 k14 k16 k17 k19 k21 k22 d0 d1 d2 f0 h2 h8 h10 f11 f12 f14 f15 f23 f25 kz_0_31 kz_0_32 kz_0_49
  have nf1 : fc_1 PRD (20, [22, 4], [30, -1, 1, 0, 0, -1, 1, 31]) ws (vs) := by
    refine ⟨nf_in hl rfl, sgq_553 ?_⟩
    · show 1 * v_iv (n_v vs 22) + ((-1) * w_fi ws (n_v vs 4) 31 + 0) ≤ (-1)
      rw [q4]
      exact vc_Mo_shortest_31_1 (v_iv (n_v vs 11)) (v_iv (n_v vs 22)) (w_fi ws (n_v vs 0) 31) k11 k22 d0 f25 kz_0_31
  refine ⟨(fun _ h => (by cases h)), [], trivial, ?_, (fun _ h => (by cases h))⟩
  rw [List.append_nil]
  exact List.forall_mem_cons.mpr ⟨⟨show (20 : Nat) < 100 from by decide, nf0⟩, List.forall_mem_cons.mpr ⟨⟨show (20 : Nat) < 100 from by decide, nf1⟩, (fun _ h => (by cases h))⟩⟩
def n_Mo_shortest_an : List an_T := [(3, [(0, (2, 0, 0, [165])), (1, (0, 0, 24, [])), (2, (0, 0, 24, [])), (3, (0, 0, 1, [])), (4, (0, 0, 25, []))], [], (0, 0), [(0, 0, 99997), (1, 8, 25), (0, 0, 100000), (0, 0, 0), (0, 0, 0)], [(1, 5, (Int.negSucc 999999999999), 0), (2, 6, (Int.negSucc 999999999999), 0), (3, 7, (Int.negSucc 999999999999), 0), (5, 1, (Int.negSucc 999999999999), 0), (6, 2, (Int.negSucc 999999999999), 0), (7, 3, (Int.negSucc 999999999999), 0)], [], [(2, 0, 0, [165]), (0, 0, 24, []), (0, 0, 24, []), (0, 0, 1, [])], 0, [], [(20, [4], [60, 2, 2, 75, 31, 32, 33, 34]), (20, [4], [60, 1, 2, 122, 32, 35, 43]), (20, [5, 4], [30, (Int.negSucc 0), 1, 0, 0, (Int.negSucc 0), 1, 31]), (20, [6, 4], [30, (Int.negSucc 0), 1, 0, 0, (Int.negSucc 0), 1, 31]), (20, [4, 6, 8], [60, 0, 1, 123, 48]), (24, [0, 4], []), (24, [1, 5], []), (24, [2, 6], []), (24, [3, 7], [])]), (41, [(0, (2, 0, 0, [165])), (1, (0, 0, 24, [])), (2, (0, 0, 24, [])), (3, (0, 0, 1, [])), (4, (0, 0, 1, []))], [], (0, 0), [(0, 0, 99959), (2, 9, (Int.negSucc 1)), (0, 0, 100000), (0, 0, 0), (0, 0, 0)], [(1, 5, (Int.negSucc 999999999999), 0), (2, 6, (Int.negSucc 999999999999), 0), (3, 7, (Int.negSucc 999999999999), 0), (5, 1, (Int.negSucc 999999999999), 0), (6, 2, (Int.negSucc 999999999999), 0), (7, 3, (Int.negSucc 999999999999), 0)], [], [(2, 0, 0, [165]), (0, 0, 24, []), (0, 0, 24, []), (0, 0, 1, [])], 0, [(0, (Int.negSucc 1), 26000060, [])], [(20, [4], [60, 2, 2, 75, 31, 32, 33, 34]), (20, [4], [60, 1, 2, 122, 32, 35, 43]), (20, [5, 4], [30, (Int.negSucc 0), 1, 0, 0, (Int.negSucc 0), 1, 31]), (20, [6, 4], [30, (Int.negSucc 0), 1, 0, 0, (Int.negSucc 0), 1, 31]), (20, [4, 5, 6, 7], [60, 3, 6, 124, 31, 32, 49, 33, 34, 43, 44, 42, 48]), (20, [4, 5, 6, 7, 8], [60, 2, 6, 126, 32, 49, 33, 34, 43, 44, 42, 48]), (20, [4, 8, 9], [60, 1, 1, 127, 31, 48]), (24, [0, 4], []), (24, [1, 5], []), (24, [2, 6], []), (24, [3, 7], [])]), (52, [(0, (2, 0, 0, [165])), (1, (0, 0, 24, [])), (2, (0, 0, 24, [])), (3, (0, 0, 1, [])), (4, (0, 0, 1, [])), (5, (0, 0, 80, []))], [], (0, 0), [(0, 0, 99959), (2, 10, (Int.negSucc 1)), (0, 0, 99948), (1, 9, 80), (0, 0, 100000)], [(1, 5, (Int.negSucc 999999999999), 0), (2, 6, (Int.negSucc 999999999999), 0), (3, 7, (Int.negSucc 999999999999), 0), (5, 1, (Int.negSucc 999999999999), 0), (6, 2, (Int.negSucc 999999999999), 0), (7, 3, (Int.negSucc 999999999999), 0), (8, 9, (Int.negSucc 999999999999), 0)], [], [(2, 0, 0, [165]), (0, 0, 24, []), (0, 0, 24, []), (0, 0, 1, [])], 0, [(0, (Int.negSucc 1), 26000060, [])], [(20, [4], [60, 2, 2, 75, 31, 32, 33, 34]), (20, [4], [60, 1, 2, 122, 32, 35, 43]), (20, [5, 4], [30, (Int.negSucc 0), 1, 0, 0, (Int.negSucc 0), 1, 31]), (20, [6, 4], [30, (Int.negSucc 0), 1, 0, 0, (Int.negSucc 0), 1, 31]), (20, [4, 5, 6, 7], [60, 3, 6, 124, 31, 32, 49, 33, 34, 43, 44, 42, 48]), (20, [4, 5, 6, 7, 9, 8, 6, 6], [60, 1, 6, 125, 49, 33, 34, 43, 44, 42, 48]), (20, [4, 8, 10], [60, 1, 1, 128, 31, 48]), (24, [0, 4], []), (24, [1, 5], []), (24, [2, 6], []), (24, [3, 7], [])]), (187, [(0, (2, 0, 0, [165])), (1, (0, 0, 24, [])), (2, (0, 0, 24, [])), (3, (0, 0, 1, [])), (4, (0, 0, 0, [])), (5, (0, 0, 24, []))], [], (0, 0), [(0, 0, 99813), (2, 11, (Int.negSucc 1)), (0, 0, 100000), (0, 0, 0), (0, 0, 0)], [(1, 5, (Int.negSucc 999999999999), 0), (2, 6, (Int.negSucc 999999999999), 0), (3, 7, (Int.negSucc 999999999999), 0), (5, 1, (Int.negSucc 999999999999), 0), (6, 2, (Int.negSucc 999999999999), 0), (7, 3, (Int.negSucc 999999999999), 0)], [((0, 45), (0, 1, 30, []))], [(2, 0, 0, [165]), (0, 0, 24, []), (0, 0, 24, []), (0, 0, 1, [])], 0, [(0, (Int.negSucc 1), 61, [])], [(20, [4], [60, 2, 2, 75, 31, 32, 33, 34]), (20, [4], [60, 1, 2, 122, 32, 35, 43]), (20, [5, 4], [30, (Int.negSucc 0), 1, 0, 0, (Int.negSucc 0), 1, 31]), (20, [6, 4], [30, (Int.negSucc 0), 1, 0, 0, (Int.negSucc 0), 1, 31]), (20, [4, 5, 6, 7], [60, 3, 6, 124, 31, 32, 49, 33, 34, 43, 44, 42, 48]), (20, [4, 5, 6, 7], [60, 2, 6, 134, 32, 49, 33, 34, 43, 44, 42, 48]), (20, [4, 5, 6, 7, 9], [60, 4, 8, 131, 31, 32, 49, 45, 33, 34, 35, 43, 44, 42, 48, 46]), (20, [4, 11], [30, 62, 1, 1, 45, 1, 0, 0]), (20, [4, 11], [30, (Int.negSucc 61), (Int.negSucc 0), 1, 45, (Int.negSucc 0), 0, 0]), (24, [0, 4], []), (24, [1, 5], []), (24, [2, 6], []), (24, [3, 7], [])]), (204, [(0, (2, 0, 0, [165])), (1, (0, 0, 24, [])), (2, (0, 0, 24, [])), (3, (0, 0, 1, [])), (4, (0, 0, 0, [])), (5, (0, 0, 24, [])), (6, (0, (Int.negSucc 0), 24, [])), (7, (0, (Int.negSucc 0), 24, []))], [], (0, 0), [(0, 0, 99813), (2, 12, (Int.negSucc 1)), (0, 0, 99796), (2, 11, (Int.negSucc 0)), (0, 0, 100000)], [(1, 5, (Int.negSucc 999999999999), 0), (2, 6, (Int.negSucc 999999999999), 0), (3, 7, (Int.negSucc 999999999999), 0), (5, 1, (Int.negSucc 999999999999), 0), (6, 2, (Int.negSucc 999999999999), 0), (7, 3, (Int.negSucc 999999999999), 0)], [], [(2, 0, 0, [165]), (0, 0, 24, []), (0, 0, 24, []), (0, 0, 1, [])], 0, [(0, (Int.negSucc 1), 61, [])], [(20, [4], [60, 2, 2, 75, 31, 32, 33, 34]), (20, [4], [60, 1, 2, 122, 32, 35, 43]), (20, [5, 4], [30, (Int.negSucc 0), 1, 0, 0, (Int.negSucc 0), 1, 31]), (20, [6, 4], [30, (Int.negSucc 0), 1, 0, 0, (Int.negSucc 0), 1, 31]), (20, [4, 5, 6, 7], [60, 3, 6, 124, 31, 32, 49, 33, 34, 43, 44, 42, 48]), (20, [4, 5, 6, 7], [60, 2, 6, 134, 32, 49, 33, 34, 43, 44, 42, 48]), (20, [4, 5, 6, 7, 9], [60, 4, 8, 131, 31, 32, 49, 45, 33, 34, 35, 43, 44, 42, 48, 46]), (20, [4, 6, 7, 9, 10, 11], [60, 3, 7, 132, 31, 32, 49, 33, 34, 35, 43, 44, 42, 48]), (20, [9, 6], [50, 0, 0, 7, 2, 1, 0, 1, 1]), (20, [11, 4], [30, (Int.negSucc 0), 1, 0, 0, (Int.negSucc 0), 1, 31]), (20, [4, 12], [30, 62, 1, 1, 45, 1, 0, 0]), (20, [4, 12], [30, (Int.negSucc 61), (Int.negSucc 0), 1, 45, (Int.negSucc 0), 0, 0]), (24, [0, 4], []), (24, [1, 5], []), (24, [2, 6], []), (24, [3, 7], [])])]
def t_Mo_shortest_ct : ct_L := [(1, 646, e_Mo_edgeOf), (1, 652, e_Mo_mayGo), (1, 655, e_Mo_closer)]
set_option maxRecDepth 100000 in
theorem c_Mo_shortest {l : Launch} {D : va_G} {kA : Nat → ClassId} (h_Mo_closer : ct_ok PRD l D kA GG y_Mo_closer z_Mo_closer e_Mo_closer) (h_Mo_edgeOf : ct_ok PRD l D kA GG y_Mo_edgeOf z_Mo_edgeOf e_Mo_edgeOf) (h_Mo_mayGo : ct_ok PRD l D kA GG y_Mo_mayGo z_Mo_mayGo e_Mo_mayGo) : ct_ok PRD l D kA GG y_Mo_shortest z_Mo_shortest e_Mo_shortest := chk_all_ok (FT := [(57, 13, 33), (60, 13, 34), (81, 13, 42), (90, 13, 46), (93, 13, 48), (594, 13, 31), (597, 13, 32), (619, 13, 45)]) (PT := [(619, 13, 45, .int)]) (CT := t_Mo_shortest_ct) (KT := [(1, 546, .int (1000000), (0, 1000000, 1000000, []))]) (NT := []) (AN := n_Mo_shortest_an) (OT := [o_Mo_shortest_0, o_Mo_shortest_1, o_Mo_shortest_2, o_Mo_shortest_3, o_Mo_shortest_4, o_Mo_shortest_5, o_Mo_shortest_6, o_Mo_shortest_7, o_Mo_shortest_8, o_Mo_shortest_9, o_Mo_shortest_10, o_Mo_shortest_11, o_Mo_shortest_12, o_Mo_shortest_13, o_Mo_shortest_14, o_Mo_shortest_15, o_Mo_shortest_16, o_Mo_shortest_17, o_Mo_shortest_18, o_Mo_shortest_19, o_Mo_shortest_20, o_Mo_shortest_21, o_Mo_shortest_22, o_Mo_shortest_23, o_Mo_shortest_24, o_Mo_shortest_25, o_Mo_shortest_26, o_Mo_shortest_27, o_Mo_shortest_28, o_Mo_shortest_29, o_Mo_shortest_30, o_Mo_shortest_31]) 5 976 (List.forall_mem_cons.mpr ⟨oo_Mo_shortest_0, List.forall_mem_cons.mpr ⟨oo_Mo_shortest_1, List.forall_mem_cons.mpr ⟨oo_Mo_shortest_2, List.forall_mem_cons.mpr ⟨oo_Mo_shortest_3, List.forall_mem_cons.mpr ⟨oo_Mo_shortest_4, List.forall_mem_cons.mpr ⟨oo_Mo_shortest_5, List.forall_mem_cons.mpr ⟨oo_Mo_shortest_6, List.forall_mem_cons.mpr ⟨oo_Mo_shortest_7, List.forall_mem_cons.mpr ⟨oo_Mo_shortest_8, List.forall_mem_cons.mpr ⟨oo_Mo_shortest_9, List.forall_mem_cons.mpr ⟨oo_Mo_shortest_10, List.forall_mem_cons.mpr ⟨oo_Mo_shortest_11, List.forall_mem_cons.mpr ⟨oo_Mo_shortest_12, List.forall_mem_cons.mpr ⟨oo_Mo_shortest_13, List.forall_mem_cons.mpr ⟨oo_Mo_shortest_14, List.forall_mem_cons.mpr ⟨oo_Mo_shortest_15, List.forall_mem_cons.mpr ⟨oo_Mo_shortest_16, List.forall_mem_cons.mpr ⟨oo_Mo_shortest_17, List.forall_mem_cons.mpr ⟨oo_Mo_shortest_18, List.forall_mem_cons.mpr ⟨oo_Mo_shortest_19, List.forall_mem_cons.mpr ⟨oo_Mo_shortest_20, List.forall_mem_cons.mpr ⟨oo_Mo_shortest_21, List.forall_mem_cons.mpr ⟨oo_Mo_shortest_22, List.forall_mem_cons.mpr ⟨oo_Mo_shortest_23, List.forall_mem_cons.mpr ⟨oo_Mo_shortest_24, List.forall_mem_cons.mpr ⟨oo_Mo_shortest_25, List.forall_mem_cons.mpr ⟨oo_Mo_shortest_26, List.forall_mem_cons.mpr ⟨oo_Mo_shortest_27, List.forall_mem_cons.mpr ⟨oo_Mo_shortest_28, List.forall_mem_cons.mpr ⟨oo_Mo_shortest_29, List.forall_mem_cons.mpr ⟨oo_Mo_shortest_30, List.forall_mem_cons.mpr ⟨oo_Mo_shortest_31, List.forall_mem_nil _⟩⟩⟩⟩⟩⟩⟩⟩⟩⟩⟩⟩⟩⟩⟩⟩⟩⟩⟩⟩⟩⟩⟩⟩⟩⟩⟩⟩⟩⟩⟩⟩) (by decide +kernel) ⟨List.forall_mem_cons.mpr ⟨gf_Mo_57, List.forall_mem_cons.mpr ⟨gf_Mo_60, List.forall_mem_cons.mpr ⟨gf_Mo_81, List.forall_mem_cons.mpr ⟨gf_Mo_90, List.forall_mem_cons.mpr ⟨gf_Mo_93, List.forall_mem_cons.mpr ⟨gf_Mo_594, List.forall_mem_cons.mpr ⟨gf_Mo_597, List.forall_mem_cons.mpr ⟨gf_Mo_619, List.forall_mem_nil _⟩⟩⟩⟩⟩⟩⟩⟩, List.forall_mem_cons.mpr ⟨pf_Mo_619, List.forall_mem_nil _⟩, List.forall_mem_cons.mpr ⟨cl_virtual (y := y_Mo_edgeOf) (ci := 13) rfl rfl ⟨_, _, rfl⟩ (by decide +kernel) h_Mo_edgeOf wm_3195 wm_9 wm_3192 wm_3194 wv_15_7 ⟨by decide, by decide, by decide +kernel⟩ (by decide), List.forall_mem_cons.mpr ⟨cl_virtual (y := y_Mo_mayGo) (ci := 13) rfl rfl ⟨_, _, rfl⟩ (by decide +kernel) h_Mo_mayGo wm_3187 wm_9 wm_3184 wm_3186 wv_15_5 ⟨by decide, by decide, by decide +kernel⟩ (by decide), List.forall_mem_cons.mpr ⟨cl_virtual (y := y_Mo_closer) (ci := 13) rfl rfl ⟨_, _, rfl⟩ (by decide +kernel) h_Mo_closer wm_3191 wm_9 wm_3188 wm_3190 wv_15_6 ⟨by decide, by decide, by decide +kernel⟩ (by decide), List.forall_mem_nil _⟩⟩⟩, List.forall_mem_cons.mpr ⟨kx_Mo_1_546, List.forall_mem_nil _⟩, List.forall_mem_nil _, GG_pl⟩ (by decide +kernel)
set_option maxHeartbeats 4000000 in
theorem vc_Mo_sizeOfGroup_0_0 (x1 : Int) (x2 : Int) (x3 : Int) (all_0 : Int → Int) (r_0 : Int) (k1 : (-1) ≤ x1 ∧ x1 ≤ 7) (k2 : 0 ≤ x2 ∧ x2 ≤ 0) (k3 : 0 ≤ x3 ∧ x3 ≤ 0) : SO1 (r_0) (all_0) (x1) (x3) (x2) := by
  first
    | exact so1_start (by omega) (by omega)
set_option maxHeartbeats 4000000 in
theorem vc_Mo_sizeOfGroup_0_1 (x2 : Int) (x3 : Int) (k2 : 0 ≤ x2 ∧ x2 ≤ 0) (k3 : 0 ≤ x3 ∧ x3 ≤ 0) : (0 ≤ x2) ∧ (x2 ≤ (99 * x3)) := by
  first
    | omega
    | (have z : all_0 (r_0 + 0) = all_0 r_0 := by rw [show r_0 + 0 = r_0 by omega]
       omega)
set_option maxHeartbeats 4000000 in
theorem vc_Mo_sizeOfGroup_0_2 (x3 : Int) (all_0 : Int → Int) (r_0 : Int) (k3 : 0 ≤ x3 ∧ x3 ≤ 0) : (0 ≤ x3) ∧ ((x3 = 0) ∨ (x3 ≤ all_0 (r_0))) := by
  first
    | omega
    | (have z : all_0 (r_0 + 0) = all_0 r_0 := by rw [show r_0 + 0 = r_0 by omega]
       omega)
def o_Mo_sizeOfGroup_0 : or_T := (4, 4, [(1, (0, -1, 7, [])), (2, (0, 0, 0, [])), (3, (0, 0, 0, []))], [], [], [], [(20, [0, 1, 3, 2], [60, 1, 1, 780, 5, 2]), (20, [2, 3], [50, 0, 0, 2, 6, 0, 2, 0, 0, 1, 0, 0, 2, 1, 0, 6, 2, 0, 99, 1, 1]), (20, [3, 0], [50, 1, 1, 1005, 1002, 2, 6, 0, 2, 0, 0, 1, 0, 3, 6, 1, 2, 1, 0, 0, 0, 0, 2, 1, 0, 3, 1, 2, 2, 1, 5]), (24, [0, 0], []), (24, [1, 1], [])], [], [])
theorem oo_Mo_sizeOfGroup_0 {kA : Nat → ClassId} : or_ok PRD kA GG o_Mo_sizeOfGroup_0 := by
  refine or_mk fun A ta ws vs hD hth hl => ?_
  intro t1 k1 t2 k2 t3 k3
  have nf0 : fc_1 PRD (20, [0, 1, 3, 2], [60, 1, 1, 780, 5, 2]) ws (vs) := ⟨nf_in hl rfl, sgq_1469 (vc_Mo_sizeOfGroup_0_0 (v_iv (n_v vs 1)) (v_iv (n_v vs 2)) (v_iv (n_v vs 3)) (w_ei ws (w_ar ws (n_v vs 0) 2)) (w_fi ws (n_v vs 0) 5) k1 k2 k3)⟩
  have nf1 : fc_1 PRD (20, [2, 3], [50, 0, 0, 2, 6, 0, 2, 0, 0, 1, 0, 0, 2, 1, 0, 6, 2, 0, 99, 1, 1]) ws (vs) := ⟨nf_in hl rfl, sgq_1470 (vc_Mo_sizeOfGroup_0_1 (v_iv (n_v vs 2)) (v_iv (n_v vs 3)) k2 k3)⟩
  have nf2 : fc_1 PRD (20, [3, 0], [50, 1, 1, 1005, 1002, 2, 6, 0, 2, 0, 0, 1, 0, 3, 6, 1, 2, 1, 0, 0, 0, 0, 2, 1, 0, 3, 1, 2, 2, 1, 5]) ws (vs) := ⟨nf_in hl rfl, sgq_1471 (vc_Mo_sizeOfGroup_0_2 (v_iv (n_v vs 3)) (w_ei ws (w_ar ws (n_v vs 0) 2)) (w_fi ws (n_v vs 0) 5) k3)⟩
  have nf3 : fc_1 PRD (24, [0, 0], []) ws (vs) := by
    refine ⟨nf_in hl rfl, sgq_1 ?_⟩
    · show n_v vs 0 = n_v vs 0
      first | rfl | simp only [true_and]
  have nf4 : fc_1 PRD (24, [1, 1], []) ws (vs) := by
    refine ⟨nf_in hl rfl, sgq_1 ?_⟩
    · show n_v vs 1 = n_v vs 1
      first | rfl | simp only [true_and]
  refine ⟨(fun _ h => (by cases h)), [], trivial, ?_, (fun _ h => (by cases h))⟩
  rw [List.append_nil]
  exact List.forall_mem_cons.mpr ⟨⟨show (20 : Nat) < 100 from by decide, nf0⟩, List.forall_mem_cons.mpr ⟨⟨show (20 : Nat) < 100 from by decide, nf1⟩, List.forall_mem_cons.mpr ⟨⟨show (20 : Nat) < 100 from by decide, nf2⟩, List.forall_mem_cons.mpr ⟨⟨show (24 : Nat) < 100 from by decide, nf3⟩, List.forall_mem_cons.mpr ⟨⟨show (24 : Nat) < 100 from by decide, nf4⟩, (fun _ h => (by cases h))⟩⟩⟩⟩⟩
set_option maxHeartbeats 4000000 in
theorem vc_Mo_sizeOfGroup_1_0 (x1 : Int) (x4 : Int) (x5 : Int) (x6 : Int) (all_0 : Int → Int) (r_0 : Int) (k1 : (-1) ≤ x1 ∧ x1 ≤ 7) (k4 : 0 ≤ x4 ∧ x4 ≤ 2475) (k5 : 0 ≤ x5 ∧ x5 ≤ 24) (k6 : 0 ≤ x6 ∧ x6 ≤ 24) (d0 : x6 + 0 ≤ x5 ∧ x5 ≤ x6 + 4294967296) (f1 : 1 * x6 + ((-1) * all_0 (r_0 + 0) + 0) ≤ 0) (f2 : (-1) * x6 + (1 * all_0 (r_0 + 0) + 0) ≤ 0) (f3 : SO1 (r_0) (all_0) (x1) (x5) (x4)) (f5 : (0 ≤ x5) ∧ ((x5 = 0) ∨ (x5 ≤ all_0 (r_0)))) : SOG (r_0) (all_0) (x1) (x4) := by
  have z : all_0 (r_0 + 0) = all_0 r_0 := by rw [show r_0 + 0 = r_0 by omega]
  exact so1_end ‹SO1 _ _ _ _ _› (by omega)
set_option maxHeartbeats 4000000 in
theorem vc_Mo_sizeOfGroup_1_1 (x4 : Int) (x5 : Int) (all_0 : Int → Int) (r_0 : Int) (k4 : 0 ≤ x4 ∧ x4 ≤ 2475) (k5 : 0 ≤ x5 ∧ x5 ≤ 24) (f4 : (0 ≤ x4) ∧ (x4 ≤ (99 * x5))) : (0 ≤ x4) ∧ (x4 ≤ 2376) := by
  first
    | omega
    | (have z : all_0 (r_0 + 0) = all_0 r_0 := by rw [show r_0 + 0 = r_0 by omega]
       omega)
def o_Mo_sizeOfGroup_1 : or_T := (44, 7, [(1, (0, -1, 7, [])), (4, (0, 0, 2475, [])), (5, (0, 0, 24, [])), (6, (0, 0, 24, []))], [(20, [6, 2], [30, 0, 1, 0, 0, -1, 3, 2005000]), (20, [6, 2], [30, 0, -1, 0, 0, 1, 3, 2005000]), (20, [2, 3, 5, 4], [60, 1, 1, 780, 5, 2]), (20, [4, 5], [50, 0, 0, 2, 6, 0, 2, 0, 0, 1, 0, 0, 2, 1, 0, 6, 2, 0, 99, 1, 1]), (20, [5, 2], [50, 1, 1, 1005, 1002, 2, 6, 0, 2, 0, 0, 1, 0, 3, 6, 1, 2, 1, 0, 0, 0, 0, 2, 1, 0, 3, 1, 2, 2, 1, 5]), (24, [0, 2], []), (24, [1, 3], [])], [], [], [(20, [0, 1, 4], [60, 1, 1, 781, 5, 2]), (20, [4], [50, 0, 0, 2, 6, 0, 2, 0, 0, 1, 0, 0, 2, 1, 0, 0, 2376])], [], [(5, 6, 0, 4294967296)])
theorem oo_Mo_sizeOfGroup_1 {kA : Nat → ClassId} : or_ok PRD kA GG o_Mo_sizeOfGroup_1 := by
  refine or_mk fun A ta ws vs hD hth hl => ?_
  intro t1 k1 t4 k4 t5 k5 t6 k6 d0 f1 f2 f3 f4 f5 f6 f7
  replace f1 := shm_126 f1
  replace f2 := shm_127 f2
  replace f3 := shm_1469 f3
  replace f5 := shm_1471 f5
  replace f6 := shm_5 f6
  replace f7 := shm_5 f7
  have q2 : n_v vs 2 = n_v vs 0 := f6.symm
  have q3 : n_v vs 3 = n_v vs 1 := f7.symm
  simp only [q2, q3] at f1 f2 f3 f5
  have nf0 : fc_1 PRD (20, [0, 1, 4], [60, 1, 1, 781, 5, 2]) ws (vs) := ⟨nf_in hl rfl, sgq_1472 (vc_Mo_sizeOfGroup_1_0 (v_iv (n_v vs 1)) (v_iv (n_v vs 4)) (v_iv (n_v vs 5)) (v_iv (n_v vs 6)) (w_ei ws (w_ar ws (n_v vs 0) 2)) (w_fi ws (n_v vs 0) 5) k1 k4 k5 k6 d0 f1 f2 f3 f5)⟩
  have nf1 : fc_1 PRD (20, [4], [50, 0, 0, 2, 6, 0, 2, 0, 0, 1, 0, 0, 2, 1, 0, 0, 2376]) ws (vs) := ⟨nf_in hl rfl, sgq_1473 (vc_Mo_sizeOfGroup_1_1 (v_iv (n_v vs 4)) (v_iv (n_v vs 5)) (w_ei ws (w_ar ws (n_v vs 0) 2)) (w_fi ws (n_v vs 0) 5) k4 k5 (shm_1470 f4))⟩
  refine ⟨(fun _ h => (by cases h)), [], trivial, ?_, (fun _ h => (by cases h))⟩
  rw [List.append_nil]
  exact List.forall_mem_cons.mpr ⟨⟨show (20 : Nat) < 100 from by decide, nf0⟩, List.forall_mem_cons.mpr ⟨⟨show (20 : Nat) < 100 from by decide, nf1⟩, (fun _ h => (by cases h))⟩⟩
set_option maxHeartbeats 4000000 in
theorem vc_Mo_sizeOfGroup_2_r0 (x4 : Int) (x5 : Int) (all_0 : Int → Int) (r_0 : Int) (k4 : 0 ≤ x4 ∧ x4 ≤ 2475) (k5 : 0 ≤ x5 ∧ x5 ≤ 23) (f7 : (0 ≤ x4) ∧ (x4 ≤ (99 * x5))) : 0 ≤ x4 ∧ x4 ≤ 2376 := by
  first
    | omega
    | (have z : all_0 (r_0 + 0) = all_0 r_0 := by rw [show r_0 + 0 = r_0 by omega]
       omega)
def o_Mo_sizeOfGroup_2 : or_T := (35, 10, [(0, (2, 0, 0, [165])), (1, (0, -1, 7, [])), (2, (2, 0, 0, [165])), (3, (0, -1, 7, [])), (4, (0, 0, 2475, [])), (5, (0, 0, 23, [])), (6, (0, 1, 24, [])), (7, (0, 0, 7, [])), (8, (0, 0, 0, []))], [(8, [8], [0]), (20, [2, 7, 3, 8], [60, 1, 1, 779, 5, 2]), (20, [7, 2, 5], [50, 1, 1, 1005, 1002, 1, 2, 1, 0, 3, 1, 2, 4, 7, 4, 3, 2, 1, 5, 0, 243, 1, 2]), (7, [5, 6], [2]), (20, [6, 2], [30, 0, 1, 0, 0, -1, 3, 2005000]), (20, [6, 2], [30, 0, -1, 0, 0, 1, 3, 2005000]), (20, [2, 3, 5, 4], [60, 1, 1, 780, 5, 2]), (20, [4, 5], [50, 0, 0, 2, 6, 0, 2, 0, 0, 1, 0, 0, 2, 1, 0, 6, 2, 0, 99, 1, 1]), (20, [5, 2], [50, 1, 1, 1005, 1002, 2, 6, 0, 2, 0, 0, 1, 0, 3, 6, 1, 2, 1, 0, 0, 0, 0, 2, 1, 0, 3, 1, 2, 2, 1, 5]), (24, [0, 2], []), (24, [1, 3], [])], [(4, (0, 0, 2376, []))], [], [], [], [(5, 6, -4294967296, -1), (1, 3, -4294967296, 0), (3, 1, -4294967296, 0)])
theorem oo_Mo_sizeOfGroup_2 {kA : Nat → ClassId} : or_ok PRD kA GG o_Mo_sizeOfGroup_2 := by
  refine or_mk fun A ta ws vs hD hth hl => ?_
  intro t0 r0 t1 k1 t2 r2 t3 k3 t4 k4 t5 k5 t6 k6 t7 k7 t8 k8 d0 d1 d2 f0 f1 f2 f3 f4 f5 f6 f7 f8 f9 f10
  have hrf0 : 0 ≤ v_iv (n_v vs 4) ∧ v_iv (n_v vs 4) ≤ 2376 := vc_Mo_sizeOfGroup_2_r0 (v_iv (n_v vs 4)) (v_iv (n_v vs 5)) (w_ei ws (w_ar ws (n_v vs 0) 2)) (w_fi ws (n_v vs 0) 5) k4 k5 (shm_1470 f7)
  have rf4 : tv_ok ta (0, 0, 2376, []) (n_v vs 4) := tv_in t4 (by first | omega | grind) (by first | omega | grind)
  refine ⟨List.forall_mem_cons.mpr ⟨rf4, (fun _ h => (by cases h))⟩, [], trivial, ?_, (fun _ h => (by cases h))⟩
  rw [List.append_nil]
  exact (fun _ h => (by cases h))
set_option maxHeartbeats 4000000 in
theorem vc_Mo_sizeOfGroup_3_0 (x1 : Int) (x4 : Int) (x5 : Int) (x7 : Int) (x8 : Int) (x9 : Int) (x10 : Int) (x11 : Int) (all_0 : Int → Int) (r_0 : Int) (k1 : (-1) ≤ x1 ∧ x1 ≤ 7) (k4 : 0 ≤ x4 ∧ x4 ≤ 2376) (k5 : 0 ≤ x5 ∧ x5 ≤ 23) (k7 : 0 ≤ x7 ∧ x7 ≤ 7) (k8 : 0 ≤ x8 ∧ x8 ≤ 0) (k9 : 0 ≤ x9 ∧ x9 ≤ 0) (k10 : 0 ≤ x10 ∧ x10 ≤ 2376) (k11 : 1 ≤ x11 ∧ x11 ≤ 24) (f0 : x11 = x5 + 1) (f1 : x10 = x4 + x9) (f3 : WIN (r_0) (all_0) (x7) (x1) (x8)) (f4 : x7 = all_0 (((r_0 + 243) + x5))) (f8 : SO1 (r_0) (all_0) (x1) (x5) (x4)) : SO1 (r_0) (all_0) (x1) (x11) (x10) := by
  first
    | exact so1_step (n := x5) (a := x7) (w := x8) (t := x9) ‹SO1 _ _ _ _ _› (by omega) (by assumption) ‹WIN _ _ _ _ _› (by omega) (by omega)
set_option maxHeartbeats 4000000 in
theorem vc_Mo_sizeOfGroup_3_1 (x4 : Int) (x5 : Int) (x10 : Int) (x11 : Int) (all_0 : Int → Int) (r_0 : Int) (k4 : 0 ≤ x4 ∧ x4 ≤ 2376) (k5 : 0 ≤ x5 ∧ x5 ≤ 23) (k10 : 0 ≤ x10 ∧ x10 ≤ 2376) (k11 : 1 ≤ x11 ∧ x11 ≤ 24) (d0 : x5 + 1 ≤ x11 ∧ x11 ≤ x5 + 1) (d2 : x4 + 0 ≤ x10 ∧ x10 ≤ x4 + 0) (f9 : (0 ≤ x4) ∧ (x4 ≤ (99 * x5))) : (0 ≤ x10) ∧ (x10 ≤ (99 * x11)) := by
  first
    | omega
    | (have z : all_0 (r_0 + 0) = all_0 r_0 := by rw [show r_0 + 0 = r_0 by omega]
       omega)
set_option maxHeartbeats 4000000 in
theorem vc_Mo_sizeOfGroup_3_2 (x5 : Int) (x6 : Int) (x11 : Int) (all_0 : Int → Int) (r_0 : Int) (k5 : 0 ≤ x5 ∧ x5 ≤ 23) (k6 : 1 ≤ x6 ∧ x6 ≤ 24) (k11 : 1 ≤ x11 ∧ x11 ≤ 24) (d0 : x5 + 1 ≤ x11 ∧ x11 ≤ x5 + 1) (d1 : x6 + (-4294967296) ≤ x11 ∧ x11 ≤ x6 + 0) (d3 : x6 + (-4294967296) ≤ x5 ∧ x5 ≤ x6 + (-1)) (f6 : 1 * x6 + ((-1) * all_0 (r_0 + 0) + 0) ≤ 0) (f7 : (-1) * x6 + (1 * all_0 (r_0 + 0) + 0) ≤ 0) : (0 ≤ x11) ∧ ((x11 = 0) ∨ (x11 ≤ all_0 (r_0))) := by
  first
    | omega
    | (have z : all_0 (r_0 + 0) = all_0 r_0 := by rw [show r_0 + 0 = r_0 by omega]
       omega)
def o_Mo_sizeOfGroup_3 : or_T := (4, 12, [(0, (2, 0, 0, [165])), (1, (0, -1, 7, [])), (2, (2, 0, 0, [165])), (3, (0, -1, 7, [])), (4, (0, 0, 2376, [])), (5, (0, 0, 23, [])), (6, (0, 1, 24, [])), (7, (0, 0, 7, [])), (8, (0, 0, 0, [])), (9, (0, 0, 0, [])), (10, (0, 0, 2376, [])), (11, (0, 1, 24, []))], [(6, [11, 5], [1]), (1, [10, 4, 9], []), (8, [8], [0]), (20, [2, 7, 3, 8], [60, 1, 1, 779, 5, 2]), (20, [7, 2, 5], [50, 1, 1, 1005, 1002, 1, 2, 1, 0, 3, 1, 2, 4, 7, 4, 3, 2, 1, 5, 0, 243, 1, 2]), (7, [5, 6], [2]), (20, [6, 2], [30, 0, 1, 0, 0, -1, 3, 2005000]), (20, [6, 2], [30, 0, -1, 0, 0, 1, 3, 2005000]), (20, [2, 3, 5, 4], [60, 1, 1, 780, 5, 2]), (20, [4, 5], [50, 0, 0, 2, 6, 0, 2, 0, 0, 1, 0, 0, 2, 1, 0, 6, 2, 0, 99, 1, 1]), (20, [5, 2], [50, 1, 1, 1005, 1002, 2, 6, 0, 2, 0, 0, 1, 0, 3, 6, 1, 2, 1, 0, 0, 0, 0, 2, 1, 0, 3, 1, 2, 2, 1, 5]), (24, [0, 2], []), (24, [1, 3], [])], [], [], [(20, [2, 3, 11, 10], [60, 1, 1, 780, 5, 2]), (20, [10, 11], [50, 0, 0, 2, 6, 0, 2, 0, 0, 1, 0, 0, 2, 1, 0, 6, 2, 0, 99, 1, 1]), (20, [11, 2], [50, 1, 1, 1005, 1002, 2, 6, 0, 2, 0, 0, 1, 0, 3, 6, 1, 2, 1, 0, 0, 0, 0, 2, 1, 0, 3, 1, 2, 2, 1, 5])], [], [(11, 5, 1, 1), (11, 6, -4294967296, 0), (10, 4, 0, 0), (5, 6, -4294967296, -1), (1, 3, -4294967296, 0), (3, 1, -4294967296, 0)])
theorem oo_Mo_sizeOfGroup_3 {kA : Nat → ClassId} : or_ok PRD kA GG o_Mo_sizeOfGroup_3 := by
  refine or_mk fun A ta ws vs hD hth hl => ?_
  intro t0 r0 t1 k1 t2 r2 t3 k3 t4 k4 t5 k5 t6 k6 t7 k7 t8 k8 t9 k9 t10 k10 t11 k11 d0 d1 d2 d3 d4 d5 f0 f1 f2 f3 f4 f5 f6 f7 f8 f9 f10 f11 f12
  replace f0 := shm_4 f0
  replace f1 := shm_12 f1
  replace f3 := shm_625 f3
  replace f4 := shm_597 f4
  replace f6 := shm_126 f6
  replace f7 := shm_127 f7
  replace f8 := shm_1469 f8
  replace f9 := shm_1470 f9
  replace f11 := shm_5 f11
  replace f12 := shm_5 f12
  have q2 : n_v vs 2 = n_v vs 0 := f11.symm
  have q3 : n_v vs 3 = n_v vs 1 := f12.symm
  simp only [q2, q3] at f3 f4 f6 f7 f8
  have nf0 : fc_1 PRD (20, [2, 3, 11, 10], [60, 1, 1, 780, 5, 2]) ws (vs) := by
    refine ⟨nf_in hl rfl, sgq_1469 ?_⟩
    · show SO1 (w_fi ws (n_v vs 2) 5) (w_ei ws (w_ar ws (n_v vs 2) 2)) (v_iv (n_v vs 3)) (v_iv (n_v vs 11)) (v_iv (n_v vs 10))
      simp only [q2, q3]
      exact vc_Mo_sizeOfGroup_3_0 (v_iv (n_v vs 1)) (v_iv (n_v vs 4)) (v_iv (n_v vs 5)) (v_iv (n_v vs 7)) (v_iv (n_v vs 8)) (v_iv (n_v vs 9)) (v_iv (n_v vs 10)) (v_iv (n_v vs 11)) (w_ei ws (w_ar ws (n_v vs 0) 2)) (w_fi ws (n_v vs 0) 5) k1 k4 k5 k7 k8 k9 k10 k11 f0 f1 f3 f4 f8
  have nf1 : fc_1 PRD (20, [10, 11], [50, 0, 0, 2, 6, 0, 2, 0, 0, 1, 0, 0, 2, 1, 0, 6, 2, 0, 99, 1, 1]) ws (vs) := ⟨nf_in hl rfl, sgq_1470 (vc_Mo_sizeOfGroup_3_1 (v_iv (n_v vs 4)) (v_iv (n_v vs 5)) (v_iv (n_v vs 10)) (v_iv (n_v vs 11)) (w_ei ws (w_ar ws (n_v vs 0) 2)) (w_fi ws (n_v vs 0) 5) k4 k5 k10 k11 d0 d2 f9)⟩
  have nf2 : fc_1 PRD (20, [11, 2], [50, 1, 1, 1005, 1002, 2, 6, 0, 2, 0, 0, 1, 0, 3, 6, 1, 2, 1, 0, 0, 0, 0, 2, 1, 0, 3, 1, 2, 2, 1, 5]) ws (vs) := by
    refine ⟨nf_in hl rfl, sgq_1471 ?_⟩
    · show (0 ≤ v_iv (n_v vs 11)) ∧ ((v_iv (n_v vs 11) = 0) ∨ (v_iv (n_v vs 11) ≤ w_ei ws (w_ar ws (n_v vs 2) 2) (w_fi ws (n_v vs 2) 5)))
      rw [q2]
      exact vc_Mo_sizeOfGroup_3_2 (v_iv (n_v vs 5)) (v_iv (n_v vs 6)) (v_iv (n_v vs 11)) (w_ei ws (w_ar ws (n_v vs 0) 2)) (w_fi ws (n_v vs 0) 5) k5 k6 k11 d0 d1 d3 f6 f7
  refine ⟨(fun _ h => (by cases h)), [], trivial, ?_, (fun _ h => (by cases h))⟩
  rw [List.append_nil]
  exact List.forall_mem_cons.mpr ⟨⟨show (20 : Nat) < 100 from by decide, nf0⟩, List.forall_mem_cons.mpr ⟨⟨show (20 : Nat) < 100 from by decide, nf1⟩, List.forall_mem_cons.mpr ⟨⟨show (20 : Nat) < 100 from by decide, nf2⟩, (fun _ h => (by cases h))⟩⟩⟩
set_option maxHeartbeats 4000000 in
theorem vc_Mo_sizeOfGroup_4_r0 (x4 : Int) (x5 : Int) (all_0 : Int → Int) (r_0 : Int) (k4 : 0 ≤ x4 ∧ x4 ≤ 2475) (k5 : 0 ≤ x5 ∧ x5 ≤ 23) (f8 : (0 ≤ x4) ∧ (x4 ≤ (99 * x5))) : 0 ≤ x4 ∧ x4 ≤ 2376 := by
  first
    | omega
    | (have z : all_0 (r_0 + 0) = all_0 r_0 := by rw [show r_0 + 0 = r_0 by omega]
       omega)
def o_Mo_sizeOfGroup_4 : or_T := (35, 10, [(0, (2, 0, 0, [165])), (1, (0, -1, 7, [])), (2, (2, 0, 0, [165])), (3, (0, -1, 7, [])), (4, (0, 0, 2475, [])), (5, (0, 0, 23, [])), (6, (0, 1, 24, [])), (7, (0, 0, 7, [])), (8, (0, 1, 1, [])), (9, (0, 0, 99, []))], [(20, [9, 2, 5], [50, 1, 1, 1005, 1002, 1, 2, 1, 0, 3, 1, 2, 4, 7, 4, 3, 2, 1, 5, 0, 219, 1, 2]), (8, [8], [1]), (20, [2, 7, 3, 8], [60, 1, 1, 779, 5, 2]), (20, [7, 2, 5], [50, 1, 1, 1005, 1002, 1, 2, 1, 0, 3, 1, 2, 4, 7, 4, 3, 2, 1, 5, 0, 243, 1, 2]), (7, [5, 6], [2]), (20, [6, 2], [30, 0, 1, 0, 0, -1, 3, 2005000]), (20, [6, 2], [30, 0, -1, 0, 0, 1, 3, 2005000]), (20, [2, 3, 5, 4], [60, 1, 1, 780, 5, 2]), (20, [4, 5], [50, 0, 0, 2, 6, 0, 2, 0, 0, 1, 0, 0, 2, 1, 0, 6, 2, 0, 99, 1, 1]), (20, [5, 2], [50, 1, 1, 1005, 1002, 2, 6, 0, 2, 0, 0, 1, 0, 3, 6, 1, 2, 1, 0, 0, 0, 0, 2, 1, 0, 3, 1, 2, 2, 1, 5]), (24, [0, 2], []), (24, [1, 3], [])], [(4, (0, 0, 2376, []))], [], [], [], [(5, 6, -4294967296, -1), (1, 3, -4294967296, 0), (3, 1, -4294967296, 0)])
theorem oo_Mo_sizeOfGroup_4 {kA : Nat → ClassId} : or_ok PRD kA GG o_Mo_sizeOfGroup_4 := by
  refine or_mk fun A ta ws vs hD hth hl => ?_
  intro t0 r0 t1 k1 t2 r2 t3 k3 t4 k4 t5 k5 t6 k6 t7 k7 t8 k8 t9 k9 d0 d1 d2 f0 f1 f2 f3 f4 f5 f6 f7 f8 f9 f10 f11
  have hrf0 : 0 ≤ v_iv (n_v vs 4) ∧ v_iv (n_v vs 4) ≤ 2376 := vc_Mo_sizeOfGroup_4_r0 (v_iv (n_v vs 4)) (v_iv (n_v vs 5)) (w_ei ws (w_ar ws (n_v vs 0) 2)) (w_fi ws (n_v vs 0) 5) k4 k5 (shm_1470 f8)
  have rf4 : tv_ok ta (0, 0, 2376, []) (n_v vs 4) := tv_in t4 (by first | omega | grind) (by first | omega | grind)
  refine ⟨List.forall_mem_cons.mpr ⟨rf4, (fun _ h => (by cases h))⟩, [], trivial, ?_, (fun _ h => (by cases h))⟩
  rw [List.append_nil]
  exact (fun _ h => (by cases h))
set_option maxHeartbeats 4000000 in
theorem vc_Mo_sizeOfGroup_5_0 (x1 : Int) (x4 : Int) (x5 : Int) (x7 : Int) (x8 : Int) (x9 : Int) (x10 : Int) (x11 : Int) (all_0 : Int → Int) (r_0 : Int) (k1 : (-1) ≤ x1 ∧ x1 ≤ 7) (k4 : 0 ≤ x4 ∧ x4 ≤ 2376) (k5 : 0 ≤ x5 ∧ x5 ≤ 23) (k7 : 0 ≤ x7 ∧ x7 ≤ 7) (k8 : 1 ≤ x8 ∧ x8 ≤ 1) (k9 : 0 ≤ x9 ∧ x9 ≤ 99) (k10 : 0 ≤ x10 ∧ x10 ≤ 2475) (k11 : 1 ≤ x11 ∧ x11 ≤ 24) (f0 : x11 = x5 + 1) (f1 : x10 = x4 + x9) (f2 : x9 = all_0 (((r_0 + 219) + x5))) (f4 : WIN (r_0) (all_0) (x7) (x1) (x8)) (f5 : x7 = all_0 (((r_0 + 243) + x5))) (f9 : SO1 (r_0) (all_0) (x1) (x5) (x4)) : SO1 (r_0) (all_0) (x1) (x11) (x10) := by
  first
    | exact so1_step (n := x5) (a := x7) (w := x8) (t := x9) ‹SO1 _ _ _ _ _› (by omega) (by assumption) ‹WIN _ _ _ _ _› (by omega) (by omega)
set_option maxHeartbeats 4000000 in
theorem vc_Mo_sizeOfGroup_5_1 (x4 : Int) (x5 : Int) (x9 : Int) (x10 : Int) (x11 : Int) (all_0 : Int → Int) (r_0 : Int) (k4 : 0 ≤ x4 ∧ x4 ≤ 2376) (k5 : 0 ≤ x5 ∧ x5 ≤ 23) (k9 : 0 ≤ x9 ∧ x9 ≤ 99) (k10 : 0 ≤ x10 ∧ x10 ≤ 2475) (k11 : 1 ≤ x11 ∧ x11 ≤ 24) (d0 : x5 + 1 ≤ x11 ∧ x11 ≤ x5 + 1) (f1 : x10 = x4 + x9) (f2 : x9 = all_0 (((r_0 + 219) + x5))) (f10 : (0 ≤ x4) ∧ (x4 ≤ (99 * x5))) : (0 ≤ x10) ∧ (x10 ≤ (99 * x11)) := by
  first
    | omega
    | (have z : all_0 (r_0 + 0) = all_0 r_0 := by rw [show r_0 + 0 = r_0 by omega]
       omega)
set_option maxHeartbeats 4000000 in
theorem vc_Mo_sizeOfGroup_5_2 (x5 : Int) (x6 : Int) (x11 : Int) (all_0 : Int → Int) (r_0 : Int) (k5 : 0 ≤ x5 ∧ x5 ≤ 23) (k6 : 1 ≤ x6 ∧ x6 ≤ 24) (k11 : 1 ≤ x11 ∧ x11 ≤ 24) (d0 : x5 + 1 ≤ x11 ∧ x11 ≤ x5 + 1) (d1 : x6 + (-4294967296) ≤ x11 ∧ x11 ≤ x6 + 0) (d4 : x6 + (-4294967296) ≤ x5 ∧ x5 ≤ x6 + (-1)) (f7 : 1 * x6 + ((-1) * all_0 (r_0 + 0) + 0) ≤ 0) (f8 : (-1) * x6 + (1 * all_0 (r_0 + 0) + 0) ≤ 0) : (0 ≤ x11) ∧ ((x11 = 0) ∨ (x11 ≤ all_0 (r_0))) := by
  first
    | omega
    | (have z : all_0 (r_0 + 0) = all_0 r_0 := by rw [show r_0 + 0 = r_0 by omega]
       omega)
def o_Mo_sizeOfGroup_5 : or_T := (4, 12, [(0, (2, 0, 0, [165])), (1, (0, -1, 7, [])), (2, (2, 0, 0, [165])), (3, (0, -1, 7, [])), (4, (0, 0, 2376, [])), (5, (0, 0, 23, [])), (6, (0, 1, 24, [])), (7, (0, 0, 7, [])), (8, (0, 1, 1, [])), (9, (0, 0, 99, [])), (10, (0, 0, 2475, [])), (11, (0, 1, 24, []))], [(6, [11, 5], [1]), (1, [10, 4, 9], []), (20, [9, 2, 5], [50, 1, 1, 1005, 1002, 1, 2, 1, 0, 3, 1, 2, 4, 7, 4, 3, 2, 1, 5, 0, 219, 1, 2]), (8, [8], [1]), (20, [2, 7, 3, 8], [60, 1, 1, 779, 5, 2]), (20, [7, 2, 5], [50, 1, 1, 1005, 1002, 1, 2, 1, 0, 3, 1, 2, 4, 7, 4, 3, 2, 1, 5, 0, 243, 1, 2]), (7, [5, 6], [2]), (20, [6, 2], [30, 0, 1, 0, 0, -1, 3, 2005000]), (20, [6, 2], [30, 0, -1, 0, 0, 1, 3, 2005000]), (20, [2, 3, 5, 4], [60, 1, 1, 780, 5, 2]), (20, [4, 5], [50, 0, 0, 2, 6, 0, 2, 0, 0, 1, 0, 0, 2, 1, 0, 6, 2, 0, 99, 1, 1]), (20, [5, 2], [50, 1, 1, 1005, 1002, 2, 6, 0, 2, 0, 0, 1, 0, 3, 6, 1, 2, 1, 0, 0, 0, 0, 2, 1, 0, 3, 1, 2, 2, 1, 5]), (24, [0, 2], []), (24, [1, 3], [])], [], [], [(20, [2, 3, 11, 10], [60, 1, 1, 780, 5, 2]), (20, [10, 11], [50, 0, 0, 2, 6, 0, 2, 0, 0, 1, 0, 0, 2, 1, 0, 6, 2, 0, 99, 1, 1]), (20, [11, 2], [50, 1, 1, 1005, 1002, 2, 6, 0, 2, 0, 0, 1, 0, 3, 6, 1, 2, 1, 0, 0, 0, 0, 2, 1, 0, 3, 1, 2, 2, 1, 5])], [], [(11, 5, 1, 1), (11, 6, -4294967296, 0), (10, 9, 0, 2376), (10, 4, 0, 99), (5, 6, -4294967296, -1), (1, 3, -4294967296, 0), (3, 1, -4294967296, 0)])
theorem oo_Mo_sizeOfGroup_5 {kA : Nat → ClassId} : or_ok PRD kA GG o_Mo_sizeOfGroup_5 := by
  refine or_mk fun A ta ws vs hD hth hl => ?_
  intro t0 r0 t1 k1 t2 r2 t3 k3 t4 k4 t5 k5 t6 k6 t7 k7 t8 k8 t9 k9 t10 k10 t11 k11 d0 d1 d2 d3 d4 d5 d6 f0 f1 f2 f3 f4 f5 f6 f7 f8 f9 f10 f11 f12 f13
  replace f0 := shm_4 f0
  replace f1 := shm_12 f1
  replace f2 := shm_732 f2
  replace f4 := shm_625 f4
  replace f5 := shm_597 f5
  replace f7 := shm_126 f7
  replace f8 := shm_127 f8
  replace f9 := shm_1469 f9
  replace f10 := shm_1470 f10
  replace f12 := shm_5 f12
  replace f13 := shm_5 f13
  have q2 : n_v vs 2 = n_v vs 0 := f12.symm
  have q3 : n_v vs 3 = n_v vs 1 := f13.symm
  simp only [q2, q3] at f2 f4 f5 f7 f8 f9
  have nf0 : fc_1 PRD (20, [2, 3, 11, 10], [60, 1, 1, 780, 5, 2]) ws (vs) := by
    refine ⟨nf_in hl rfl, sgq_1469 ?_⟩
    · show SO1 (w_fi ws (n_v vs 2) 5) (w_ei ws (w_ar ws (n_v vs 2) 2)) (v_iv (n_v vs 3)) (v_iv (n_v vs 11)) (v_iv (n_v vs 10))
      simp only [q2, q3]
      exact vc_Mo_sizeOfGroup_5_0 (v_iv (n_v vs 1)) (v_iv (n_v vs 4)) (v_iv (n_v vs 5)) (v_iv (n_v vs 7)) (v_iv (n_v vs 8)) (v_iv (n_v vs 9)) (v_iv (n_v vs 10)) (v_iv (n_v vs 11)) (w_ei ws (w_ar ws (n_v vs 0) 2)) (w_fi ws (n_v vs 0) 5) k1 k4 k5 k7 k8 k9 k10 k11 f0 f1 f2 f4 f5 f9
  have nf1 : fc_1 PRD (20, [10, 11], [50, 0, 0, 2, 6, 0, 2, 0, 0, 1, 0, 0, 2, 1, 0, 6, 2, 0, 99, 1, 1]) ws (vs) := ⟨nf_in hl rfl, sgq_1470 (vc_Mo_sizeOfGroup_5_1 (v_iv (n_v vs 4)) (v_iv (n_v vs 5)) (v_iv (n_v vs 9)) (v_iv (n_v vs 10)) (v_iv (n_v vs 11)) (w_ei ws (w_ar ws (n_v vs 0) 2)) (w_fi ws (n_v vs 0) 5) k4 k5 k9 k10 k11 d0 f1 f2 f10)⟩
  have nf2 : fc_1 PRD (20, [11, 2], [50, 1, 1, 1005, 1002, 2, 6, 0, 2, 0, 0, 1, 0, 3, 6, 1, 2, 1, 0, 0, 0, 0, 2, 1, 0, 3, 1, 2, 2, 1, 5]) ws (vs) := by
    refine ⟨nf_in hl rfl, sgq_1471 ?_⟩
    · show (0 ≤ v_iv (n_v vs 11)) ∧ ((v_iv (n_v vs 11) = 0) ∨ (v_iv (n_v vs 11) ≤ w_ei ws (w_ar ws (n_v vs 2) 2) (w_fi ws (n_v vs 2) 5)))
      rw [q2]
      exact vc_Mo_sizeOfGroup_5_2 (v_iv (n_v vs 5)) (v_iv (n_v vs 6)) (v_iv (n_v vs 11)) (w_ei ws (w_ar ws (n_v vs 0) 2)) (w_fi ws (n_v vs 0) 5) k5 k6 k11 d0 d1 d4 f7 f8
  refine ⟨(fun _ h => (by cases h)), [], trivial, ?_, (fun _ h => (by cases h))⟩
  rw [List.append_nil]
  exact List.forall_mem_cons.mpr ⟨⟨show (20 : Nat) < 100 from by decide, nf0⟩, List.forall_mem_cons.mpr ⟨⟨show (20 : Nat) < 100 from by decide, nf1⟩, List.forall_mem_cons.mpr ⟨⟨show (20 : Nat) < 100 from by decide, nf2⟩, (fun _ h => (by cases h))⟩⟩⟩
def n_Mo_sizeOfGroup_an : List an_T := [(4, [(0, (2, 0, 0, [165])), (1, (0, (Int.negSucc 0), 7, [])), (2, (0, 0, 2475, [])), (3, (0, 0, 24, []))], [], (0, 0), [(0, 0, 99996), (1, 5, 24), (0, 0, 100000)], [(1, 3, (Int.negSucc 999999999999), 0), (3, 1, (Int.negSucc 999999999999), 0)], [], [(2, 0, 0, [165]), (0, (Int.negSucc 0), 7, [])], 0, [], [(20, [2, 3, 5, 4], [60, 1, 1, 780, 5, 2]), (20, [4, 5], [50, 0, 0, 2, 6, 0, 2, 0, 0, 1, 0, 0, 2, 1, 0, 6, 2, 0, 99, 1, 1]), (20, [5, 2], [50, 1, 1, 1005, 1002, 2, 6, 0, 2, 0, 0, 1, 0, 3, 6, 1, 2, 1, 0, 0, 0, 0, 2, 1, 0, 3, 1, 2, 2, 1, 5]), (24, [0, 2], []), (24, [1, 3], [])])]
def t_Mo_sizeOfGroup_ct : ct_L := [(1, 475, e_Mo_nodes), (1, 723, e_Mo_size), (1, 725, e_Mo_groupOf), (1, 742, e_Mo_isWithin)]
set_option maxRecDepth 100000 in
theorem c_Mo_sizeOfGroup {l : Launch} {D : va_G} {kA : Nat → ClassId} (h_Mo_groupOf : ct_ok PRD l D kA GG y_Mo_groupOf z_Mo_groupOf e_Mo_groupOf) (h_Mo_isWithin : ct_ok PRD l D kA GG y_Mo_isWithin z_Mo_isWithin e_Mo_isWithin) (h_Mo_nodes : ct_ok PRD l D kA GG y_Mo_nodes z_Mo_nodes e_Mo_nodes) (h_Mo_size : ct_ok PRD l D kA GG y_Mo_size z_Mo_size e_Mo_size) : ct_ok PRD l D kA GG y_Mo_sizeOfGroup z_Mo_sizeOfGroup e_Mo_sizeOfGroup := chk_all_ok (FT := []) (PT := []) (CT := t_Mo_sizeOfGroup_ct) (KT := []) (NT := []) (AN := n_Mo_sizeOfGroup_an) (OT := [o_Mo_sizeOfGroup_0, o_Mo_sizeOfGroup_1, o_Mo_sizeOfGroup_2, o_Mo_sizeOfGroup_3, o_Mo_sizeOfGroup_4, o_Mo_sizeOfGroup_5]) 3 200 (List.forall_mem_cons.mpr ⟨oo_Mo_sizeOfGroup_0, List.forall_mem_cons.mpr ⟨oo_Mo_sizeOfGroup_1, List.forall_mem_cons.mpr ⟨oo_Mo_sizeOfGroup_2, List.forall_mem_cons.mpr ⟨oo_Mo_sizeOfGroup_3, List.forall_mem_cons.mpr ⟨oo_Mo_sizeOfGroup_4, List.forall_mem_cons.mpr ⟨oo_Mo_sizeOfGroup_5, List.forall_mem_nil _⟩⟩⟩⟩⟩⟩) (by decide +kernel) ⟨List.forall_mem_nil _, List.forall_mem_nil _, List.forall_mem_cons.mpr ⟨cl_virtual (y := y_Mo_nodes) (ci := 13) rfl rfl ⟨_, _, rfl⟩ (by decide +kernel) h_Mo_nodes wm_3025 wm_9 wm_3022 wm_3024 wv_13_3 ⟨by decide, by decide, by decide +kernel⟩ (by decide), List.forall_mem_cons.mpr ⟨cl_virtual (y := y_Mo_size) (ci := 13) rfl rfl ⟨_, _, rfl⟩ (by decide +kernel) h_Mo_size wm_3307 wm_9 wm_3304 wm_3306 wv_17_0 ⟨by decide, by decide, by decide +kernel⟩ (by decide), List.forall_mem_cons.mpr ⟨cl_virtual (y := y_Mo_groupOf) (ci := 13) rfl rfl ⟨_, _, rfl⟩ (by decide +kernel) h_Mo_groupOf wm_3311 wm_9 wm_3308 wm_3310 wv_17_1 ⟨by decide, by decide, by decide +kernel⟩ (by decide), List.forall_mem_cons.mpr ⟨cl_virtual (y := y_Mo_isWithin) (ci := 13) rfl rfl ⟨_, _, rfl⟩ (by decide +kernel) h_Mo_isWithin wm_3355 wm_9 wm_3352 wm_3354 wv_17_10 ⟨by decide, by decide, by decide +kernel⟩ (by decide), List.forall_mem_nil _⟩⟩⟩⟩, List.forall_mem_nil _, List.forall_mem_nil _, GG_pl⟩ (by decide +kernel)

set_option maxHeartbeats 4000000 in
theorem vc_Mo_turnRound_0_0 (x1 : Int) (x2 : Int) (x3 : Int) (x4 : Int) (x6 : Int) (pm_0 : Int) (pt_0 : Int → Int) (ph_0 : Int → Int) (alive_0 : Int → Int) (blockOf_0 : Int → Int) (k1 : 0 ≤ x1 ∧ x1 ≤ 24) (k2 : 0 ≤ x2 ∧ x2 ≤ 79) (k3 : (-1) ≤ x3 ∧ x3 ≤ (-1)) (k4 : 0 ≤ x4 ∧ x4 ≤ 80) (k6 : (-1) ≤ x6 ∧ x6 ≤ 79) (d0 : x4 + (-1) ≤ x6 ∧ x6 ≤ x4 + (-1)) (g1 : x4 = pm_0) (kz_0_32 : 0 ≤ pm_0 ∧ pm_0 ≤ 80) : TF (pm_0) (pt_0) (ph_0) (alive_0) (blockOf_0) (x1) (x2) (x3) (x6) := by
  first
    | exact ⟨Or.inl ⟨by omega, fun f hf x w => by have := w.1.2.1; omega⟩, by omega⟩
def o_Mo_turnRound_0 : or_T := (10, 7, [(0, (2, 0, 0, [165])), (1, (0, 0, 24, [])), (2, (0, 0, 79, [])), (3, (0, -1, -1, [])), (4, (0, 0, 80, [])), (6, (0, -1, 79, []))], [(9, [4, 0], [32])], [], [], [(20, [0, 1, 2, 3, 6], [60, 1, 4, 181, 32, 33, 34, 35, 17]), (24, [0, 0], []), (24, [1, 1], []), (24, [2, 2], [])], [], [(6, 4, -1, -1)])
theorem oo_Mo_turnRound_0 {kA : Nat → ClassId} : or_ok PRD kA GG o_Mo_turnRound_0 := by
  refine or_mk fun A ta ws vs hD hth hl => ?_
  intro t0 r0 t1 k1 t2 k2 t3 k3 t4 k4 t6 k6 d0 f1
  replace f1 := shm_525 f1
  have g1 : v_iv (n_v vs 4) = w_fi ws (n_v vs 0) 32 := congrArg v_iv f1
  have kz_0_32 := fdq_140 hD hth r0
  have nf0 : fc_1 PRD (20, [0, 1, 2, 3, 6], [60, 1, 4, 181, 32, 33, 34, 35, 17]) ws (vs) := ⟨nf_in hl rfl, sgq_1476 (vc_Mo_turnRound_0_0 (v_iv (n_v vs 1)) (v_iv (n_v vs 2)) (v_iv (n_v vs 3)) (v_iv (n_v vs 4)) (v_iv (n_v vs 6)) (w_fi ws (n_v vs 0) 32) (w_ei ws (w_ar ws (n_v vs 0) 33)) (w_ei ws (w_ar ws (n_v vs 0) 34)) (w_ei ws (w_ar ws (n_v vs 0) 35)) (w_ei ws (w_ar ws (n_v vs 0) 17)) k1 k2 k3 k4 k6 d0 g1 kz_0_32)⟩
  have nf1 : fc_1 PRD (24, [0, 0], []) ws (vs) := by
    refine ⟨nf_in hl rfl, sgq_1 ?_⟩
    · show n_v vs 0 = n_v vs 0
      first | rfl | simp only [true_and]
  have nf2 : fc_1 PRD (24, [1, 1], []) ws (vs) := by
    refine ⟨nf_in hl rfl, sgq_1 ?_⟩
    · show n_v vs 1 = n_v vs 1
      first | rfl | simp only [true_and]
  have nf3 : fc_1 PRD (24, [2, 2], []) ws (vs) := by
    refine ⟨nf_in hl rfl, sgq_1 ?_⟩
    · show n_v vs 2 = n_v vs 2
      first | rfl | simp only [true_and]
  refine ⟨(fun _ h => (by cases h)), [], trivial, ?_, (fun _ h => (by cases h))⟩
  rw [List.append_nil]
  exact List.forall_mem_cons.mpr ⟨⟨show (20 : Nat) < 100 from by decide, nf0⟩, List.forall_mem_cons.mpr ⟨⟨show (24 : Nat) < 100 from by decide, nf1⟩, List.forall_mem_cons.mpr ⟨⟨show (24 : Nat) < 100 from by decide, nf2⟩, List.forall_mem_cons.mpr ⟨⟨show (24 : Nat) < 100 from by decide, nf3⟩, (fun _ h => (by cases h))⟩⟩⟩⟩
set_option maxHeartbeats 4000000 in
theorem vc_Mo_turnRound_1_0 (pt_0 : Int → Int) (ph_0 : Int → Int) (pn_0 : Int) (pm_0 : Int) (f2 : GOK (pn_0) (pm_0) (pt_0) (ph_0)) (kz_0_31 : 0 ≤ pn_0 ∧ pn_0 ≤ 25) (kz_0_32 : 0 ≤ pm_0 ∧ pm_0 ≤ 80) : GOK (pn_0) (pm_0) (pt_0) (ph_0) := by
  first | assumption
set_option maxHeartbeats 4000000 in
theorem vc_Mo_turnRound_1_1 (x2 : Int) (pt_0 : Int → Int) (ph_0 : Int → Int) (pm_0 : Int) (alive_0 : Int → Int) (blockOf_0 : Int → Int) (faceMany_0 : Int → Int) (face_0 : Int → Int) (faces_0 : Int) (k2 : 0 ≤ x2 ∧ x2 ≤ 79) (f3 : DRB (pm_0) (faces_0) (pt_0) (ph_0) (alive_0) (blockOf_0) (faceMany_0) (face_0) (x2)) (kz_0_32 : 0 ≤ pm_0 ∧ pm_0 ≤ 80) (kz_0_39 : 0 ≤ faces_0 ∧ faces_0 ≤ 120) : DRB (pm_0) (faces_0) (pt_0) (ph_0) (alive_0) (blockOf_0) (faceMany_0) (face_0) (x2) := by
  first | assumption
set_option maxHeartbeats 4000000 in
theorem vc_Mo_turnRound_1_2 (faceMany_0 : Int → Int) (faces_0 : Int) (f4 : FMB (faces_0) (faceMany_0)) (kz_0_39 : 0 ≤ faces_0 ∧ faces_0 ≤ 120) : FMB (faces_0) (faceMany_0) := by
  first | assumption
set_option maxHeartbeats 4000000 in
theorem vc_Mo_turnRound_1_3 (x1 : Int) (pn_0 : Int) (k1 : 0 ≤ x1 ∧ x1 ≤ 24) (f5 : 1 * x1 + ((-1) * pn_0 + 0) ≤ (-1)) (kz_0_31 : 0 ≤ pn_0 ∧ pn_0 ≤ 25) : 1 * x1 + ((-1) * pn_0 + 0) ≤ (-1) := by
  first
    | omega
set_option maxHeartbeats 4000000 in
theorem vc_Mo_turnRound_1_4 (x1 : Int) (x2 : Int) (x4 : Int) (x6 : Int) (x7 : Int) (pt_0 : Int → Int) (ph_0 : Int → Int) (pn_0 : Int) (pm_0 : Int) (alive_0 : Int → Int) (blockOf_0 : Int → Int) (faceMany_0 : Int → Int) (face_0 : Int → Int) (faces_0 : Int) (rotMany_0 : Int → Int) (rot_0 : Int → Int) (k1 : 0 ≤ x1 ∧ x1 ≤ 24) (k2 : 0 ≤ x2 ∧ x2 ≤ 79) (k4 : 0 ≤ x4 ∧ x4 ≤ 24) (k6 : 0 ≤ x6 ∧ x6 ≤ 79) (k7 : (-1) ≤ x7 ∧ x7 ≤ (-1)) (d0 : x4 + (-4294967296) ≤ x1 ∧ x1 ≤ x4 + 0) (d2 : x1 + (-4294967296) ≤ x4 ∧ x4 ≤ x1 + 0) (f0 : 0 ≤ x6) (f5 : 1 * x1 + ((-1) * pn_0 + 0) ≤ (-1)) (f6 : MID (pn_0) (pm_0) (faces_0) (pt_0) (ph_0) (alive_0) (blockOf_0) (faceMany_0) (face_0) (rotMany_0) (rot_0) (x2) (x1)) (f7 : TF (pm_0) (pt_0) (ph_0) (alive_0) (blockOf_0) (x1) (x2) (x6) (x7)) (kz_0_31 : 0 ≤ pn_0 ∧ pn_0 ≤ 25) (kz_0_32 : 0 ≤ pm_0 ∧ pm_0 ≤ 80) (kz_0_39 : 0 ≤ faces_0 ∧ faces_0 ≤ 120) : TRI (pn_0) (pm_0) (faces_0) (pt_0) (ph_0) (alive_0) (blockOf_0) (faceMany_0) (face_0) (rotMany_0) (rot_0) (x2) (x1) (x6) (x6) := by
  first
    | exact tri_start ‹MID _ _ _ _ _ _ _ _ _ _ _ _ _› (by omega) (by omega) ‹TF _ _ _ _ _ _ _ _ _› (by omega)
set_option maxHeartbeats 4000000 in
theorem vc_Mo_turnRound_1_5 (x1 : Int) (x2 : Int) (x4 : Int) (x6 : Int) (x7 : Int) (pt_0 : Int → Int) (ph_0 : Int → Int) (pn_0 : Int) (pm_0 : Int) (alive_0 : Int → Int) (blockOf_0 : Int → Int) (faceMany_0 : Int → Int) (face_0 : Int → Int) (faces_0 : Int) (rotMany_0 : Int → Int) (rot_0 : Int → Int) (gx : Int) (k1 : 0 ≤ x1 ∧ x1 ≤ 24) (k2 : 0 ≤ x2 ∧ x2 ≤ 79) (k4 : 0 ≤ x4 ∧ x4 ≤ 24) (k6 : 0 ≤ x6 ∧ x6 ≤ 79) (k7 : (-1) ≤ x7 ∧ x7 ≤ (-1)) (d0 : x4 + (-4294967296) ≤ x1 ∧ x1 ≤ x4 + 0) (d2 : x1 + (-4294967296) ≤ x4 ∧ x4 ≤ x1 + 0) (f0 : 0 ≤ x6) (f5 : 1 * x1 + ((-1) * pn_0 + 0) ≤ (-1)) (f6 : MID (pn_0) (pm_0) (faces_0) (pt_0) (ph_0) (alive_0) (blockOf_0) (faceMany_0) (face_0) (rotMany_0) (rot_0) (x2) (x1)) (f7 : TF (pm_0) (pt_0) (ph_0) (alive_0) (blockOf_0) (x1) (x2) (x6) (x7)) (kz_0_31 : 0 ≤ pn_0 ∧ pn_0 ≤ 25) (kz_0_32 : 0 ≤ pm_0 ∧ pm_0 ≤ 80) (kz_0_39 : 0 ≤ faces_0 ∧ faces_0 ≤ 120) (ex2 : gx = 80) : (-1) * rotMany_0 (x1) + ((-1) * gx + 0) ≤ (-80) := by
  first
    | (have h := tri_len (tri_start ‹MID _ _ _ _ _ _ _ _ _ _ _ _ _› (by omega) (by omega) ‹TF _ _ _ _ _ _ _ _ _› (by omega)) (by omega) (by omega)
       omega)
def o_Mo_turnRound_1 : or_T := (53, 8, [(0, (2, 0, 0, [165])), (1, (0, 0, 24, [])), (2, (0, 0, 79, [])), (3, (2, 0, 0, [165])), (4, (0, 0, 24, [])), (5, (0, 0, 79, [])), (6, (0, 0, 79, [])), (7, (0, -1, -1, []))], [(8, [6], [3]), (8, [7], [2]), (20, [3], [60, 2, 2, 75, 31, 32, 33, 34]), (20, [3, 5], [60, 2, 6, 175, 32, 39, 33, 34, 35, 17, 40, 41]), (20, [3], [60, 1, 1, 170, 39, 40]), (20, [4, 3], [30, -1, 1, 0, 0, -1, 1, 31]), (20, [3, 5, 4], [60, 3, 8, 176, 31, 32, 39, 33, 34, 35, 17, 40, 41, 36, 37]), (20, [3, 4, 5, 6, 7], [60, 1, 4, 181, 32, 33, 34, 35, 17]), (24, [0, 3], []), (24, [1, 4], []), (24, [2, 5], [])], [], [(0, -2, 81, [])], [(20, [3], [60, 2, 2, 75, 31, 32, 33, 34]), (20, [3, 5], [60, 2, 6, 175, 32, 39, 33, 34, 35, 17, 40, 41]), (20, [3], [60, 1, 1, 170, 39, 40]), (20, [4, 3], [30, -1, 1, 0, 0, -1, 1, 31]), (20, [3, 5, 4, 6, 6], [60, 3, 8, 178, 31, 32, 39, 33, 34, 35, 17, 40, 41, 36, 37]), (20, [3, 4, 8], [30, -80, -1, 2, 36, -1, 0, 0]), (24, [0, 3], []), (24, [1, 4], []), (24, [2, 5], [])], [], [(1, 4, -4294967296, 0), (2, 5, -4294967296, 0), (4, 1, -4294967296, 0), (5, 2, -4294967296, 0)])
theorem oo_Mo_turnRound_1 {kA : Nat → ClassId} : or_ok PRD kA GG o_Mo_turnRound_1 := by
  refine or_mk fun A ta ws vs hD hth hl => ?_
  intro t0 r0 t1 k1 t2 k2 t3 r3 t4 k4 t5 k5 t6 k6 t7 k7 d0 d1 d2 d3 f0 f1 f2 f3 f4 f5 f6 f7 f8 f9 f10
  replace f0 := shm_32 f0
  replace f1 := shm_39 f1
  replace f2 := shm_575 f2
  replace f3 := shm_1474 f3
  replace f4 := shm_513 f4
  replace f5 := shm_553 f5
  replace f6 := shm_1475 f6
  replace f7 := shm_1476 f7
  replace f8 := shm_5 f8
  replace f9 := shm_5 f9
  replace f10 := shm_5 f10
  have q3 : n_v vs 3 = n_v vs 0 := f8.symm
  have q4 : n_v vs 4 = n_v vs 1 := f9.symm
  have q5 : n_v vs 5 = n_v vs 2 := f10.symm
  simp only [q3, q5, q4] at f2 f3 f4 f5 f6 f7
  have cr_0_17 := fdq_189 hD hth r0
  have cr_0_33 := fdq_117 hD hth r0
  have cr_0_34 := fdq_118 hD hth r0
  have cr_0_35 := fdq_132 hD hth r0
  have cr_0_36 := fdq_167 hD hth r0
  have cr_0_37 := fdq_168 hD hth r0
  have cr_0_40 := fdq_133 hD hth r0
  have cr_0_41 := fdq_134 hD hth r0
  have hK_0_17 := elq_113 hD hth cr_0_17
  have hK_0_33 := elq_60 hD hth cr_0_33
  have hK_0_34 := elq_61 hD hth cr_0_34
  have hK_0_35 := elq_72 hD hth cr_0_35
  have hK_0_36 := elq_97 hD hth cr_0_36
  have hK_0_37 := elq_98 hD hth cr_0_37
  have hK_0_40 := elq_73 hD hth cr_0_40
  have hK_0_41 := elq_74 hD hth cr_0_41
  have kz_0_31 := fdq_145 hD hth r0
  have kz_0_32 := fdq_140 hD hth r0
  have kz_0_39 := fdq_135 hD hth r0
  first | have hq36 := hK_0_36 (v_iv (n_v vs 4)) (by omega) (by omega) | skip
  first | have hq36L1 := (show 0 ≤ w_el ws (w_ar ws (n_v vs 0) 36) (v_iv (n_v vs 4)).toNat ∧ w_el ws (w_ar ws (n_v vs 0) 36) (v_iv (n_v vs 4)).toNat ≤ 80 from hK_0_36 (v_iv (n_v vs 4)) (by omega) (by omega)) | skip
  first | have hq36R1 := (show 0 ≤ w_el ws (w_ar ws (n_v vs 0) 36) (v_iv (n_v vs 1)).toNat ∧ w_el ws (w_ar ws (n_v vs 0) 36) (v_iv (n_v vs 1)).toNat ≤ 80 from hK_0_36 (v_iv (n_v vs 1)) (by omega) (by omega)) | skip
  obtain ⟨x, ex, hx⟩ := iv_ex (ta := ta) (lo := (-2)) (hi := 81) (z := 80) (by omega) (by omega) (by omega) (by omega)
  have ex2 : v_iv (Value.int x) = 80 := ex
  have ex3 : (-2) ≤ v_iv (Value.int x) ∧ v_iv (Value.int x) ≤ 81 := tv_rng hx
  have e_0 : n_v (vs ++ [Value.int x]) 0 = n_v vs 0 := n_v_old (by rw [hl]; decide)
  have e_1 : n_v (vs ++ [Value.int x]) 1 = n_v vs 1 := n_v_old (by rw [hl]; decide)
  have e_2 : n_v (vs ++ [Value.int x]) 2 = n_v vs 2 := n_v_old (by rw [hl]; decide)
  have e_3 : n_v (vs ++ [Value.int x]) 3 = n_v vs 3 := n_v_old (by rw [hl]; decide)
  have e_4 : n_v (vs ++ [Value.int x]) 4 = n_v vs 4 := n_v_old (by rw [hl]; decide)
  have e_5 : n_v (vs ++ [Value.int x]) 5 = n_v vs 5 := n_v_old (by rw [hl]; decide)
  have e_6 : n_v (vs ++ [Value.int x]) 6 = n_v vs 6 := n_v_old (by rw [hl]; decide)
  have e_8 : n_v (vs ++ [Value.int x]) 8 = Value.int x := n_v_new hl
  have nf0 : fc_1 PRD (20, [3], [60, 2, 2, 75, 31, 32, 33, 34]) ws (vs ++ [Value.int x]) := by
    refine ⟨nf_inA hl rfl, sgq_575 ?_⟩
    · show GOK (w_fi ws (n_v (vs ++ [Value.int x]) 3) 31) (w_fi ws (n_v (vs ++ [Value.int x]) 3) 32) (w_ei ws (w_ar ws (n_v (vs ++ [Value.int x]) 3) 33)) (w_ei ws (w_ar ws (n_v (vs ++ [Value.int x]) 3) 34))
      simp only [e_3, q3]
      exact vc_Mo_turnRound_1_0 (w_ei ws (w_ar ws (n_v vs 0) 33)) (w_ei ws (w_ar ws (n_v vs 0) 34)) (w_fi ws (n_v vs 0) 31) (w_fi ws (n_v vs 0) 32) f2 kz_0_31 kz_0_32
  have nf1 : fc_1 PRD (20, [3, 5], [60, 2, 6, 175, 32, 39, 33, 34, 35, 17, 40, 41]) ws (vs ++ [Value.int x]) := by
    refine ⟨nf_inA hl rfl, sgq_1474 ?_⟩
    · show DRB (w_fi ws (n_v (vs ++ [Value.int x]) 3) 32) (w_fi ws (n_v (vs ++ [Value.int x]) 3) 39) (w_ei ws (w_ar ws (n_v (vs ++ [Value.int x]) 3) 33)) (w_ei ws (w_ar ws (n_v (vs ++ [Value.int x]) 3) 34)) (w_ei ws (w_ar ws (n_v (vs ++ [Value.int x]) 3) 35)) (w_ei ws (w_ar ws (n_v (vs ++ [Value.int x]) 3) 17)) (w_ei ws (w_ar ws (n_v (vs ++ [Value.int x]) 3) 40)) (w_ei ws (w_ar ws (n_v (vs ++ [Value.int x]) 3) 41)) (v_iv (n_v (vs ++ [Value.int x]) 5))
      simp only [e_3, e_5, q3, q5]
      exact vc_Mo_turnRound_1_1 (v_iv (n_v vs 2)) (w_ei ws (w_ar ws (n_v vs 0) 33)) (w_ei ws (w_ar ws (n_v vs 0) 34)) (w_fi ws (n_v vs 0) 32) (w_ei ws (w_ar ws (n_v vs 0) 35)) (w_ei ws (w_ar ws (n_v vs 0) 17)) (w_ei ws (w_ar ws (n_v vs 0) 40)) (w_ei ws (w_ar ws (n_v vs 0) 41)) (w_fi ws (n_v vs 0) 39) k2 f3 kz_0_32 kz_0_39
  have nf2 : fc_1 PRD (20, [3], [60, 1, 1, 170, 39, 40]) ws (vs ++ [Value.int x]) := by
    refine ⟨nf_inA hl rfl, sgq_513 ?_⟩
    · show FMB (w_fi ws (n_v (vs ++ [Value.int x]) 3) 39) (w_ei ws (w_ar ws (n_v (vs ++ [Value.int x]) 3) 40))
      simp only [e_3, q3]
      exact vc_Mo_turnRound_1_2 (w_ei ws (w_ar ws (n_v vs 0) 40)) (w_fi ws (n_v vs 0) 39) f4 kz_0_39
  have nf3 : fc_1 PRD (20, [4, 3], [30, -1, 1, 0, 0, -1, 1, 31]) ws (vs ++ [Value.int x]) := by
    refine ⟨nf_inA hl rfl, sgq_553 ?_⟩
    · show 1 * v_iv (n_v (vs ++ [Value.int x]) 4) + ((-1) * w_fi ws (n_v (vs ++ [Value.int x]) 3) 31 + 0) ≤ (-1)
      simp only [e_3, e_4, q3, q4]
      exact vc_Mo_turnRound_1_3 (v_iv (n_v vs 1)) (w_fi ws (n_v vs 0) 31) k1 f5 kz_0_31
  have nf4 : fc_1 PRD (20, [3, 5, 4, 6, 6], [60, 3, 8, 178, 31, 32, 39, 33, 34, 35, 17, 40, 41, 36, 37]) ws (vs ++ [Value.int x]) := by
    refine ⟨nf_inA hl rfl, sgq_1477 ?_⟩
    · show TRI (w_fi ws (n_v (vs ++ [Value.int x]) 3) 31) (w_fi ws (n_v (vs ++ [Value.int x]) 3) 32) (w_fi ws (n_v (vs ++ [Value.int x]) 3) 39) (w_ei ws (w_ar ws (n_v (vs ++ [Value.int x]) 3) 33)) (w_ei ws (w_ar ws (n_v (vs ++ [Value.int x]) 3) 34)) (w_ei ws (w_ar ws (n_v (vs ++ [Value.int x]) 3) 35)) (w_ei ws (w_ar ws (n_v (vs ++ [Value.int x]) 3) 17)) (w_ei ws (w_ar ws (n_v (vs ++ [Value.int x]) 3) 40)) (w_ei ws (w_ar ws (n_v (vs ++ [Value.int x]) 3) 41)) (w_ei ws (w_ar ws (n_v (vs ++ [Value.int x]) 3) 36)) (w_ei ws (w_ar ws (n_v (vs ++ [Value.int x]) 3) 37)) (v_iv (n_v (vs ++ [Value.int x]) 5)) (v_iv (n_v (vs ++ [Value.int x]) 4)) (v_iv (n_v (vs ++ [Value.int x]) 6)) (v_iv (n_v (vs ++ [Value.int x]) 6))
      simp only [e_3, e_4, e_5, e_6, q3, q4, q5]
      exact vc_Mo_turnRound_1_4 (v_iv (n_v vs 1)) (v_iv (n_v vs 2)) (v_iv (n_v vs 4)) (v_iv (n_v vs 6)) (v_iv (n_v vs 7)) (w_ei ws (w_ar ws (n_v vs 0) 33)) (w_ei ws (w_ar ws (n_v vs 0) 34)) (w_fi ws (n_v vs 0) 31) (w_fi ws (n_v vs 0) 32) (w_ei ws (w_ar ws (n_v vs 0) 35)) (w_ei ws (w_ar ws (n_v vs 0) 17)) (w_ei ws (w_ar ws (n_v vs 0) 40)) (w_ei ws (w_ar ws (n_v vs 0) 41)) (w_fi ws (n_v vs 0) 39) (w_ei ws (w_ar ws (n_v vs 0) 36)) (w_ei ws (w_ar ws (n_v vs 0) 37)) k1 k2 k4 k6 k7 d0 d2 f0 f5 f6 f7 kz_0_31 kz_0_32 kz_0_39
  have nf5 : fc_1 PRD (20, [3, 4, 8], [30, -80, -1, 2, 36, -1, 0, 0]) ws (vs ++ [Value.int x]) := by
    refine ⟨nf_inA hl rfl, sgq_1478 ?_⟩
    · show (-1) * w_el ws (w_ar ws (n_v (vs ++ [Value.int x]) 3) 36) (v_iv (n_v (vs ++ [Value.int x]) 4)).toNat + ((-1) * v_iv (n_v (vs ++ [Value.int x]) 8) + 0) ≤ (-80)
      simp only [e_3, e_4, e_8, q3, q4]
      exact vc_Mo_turnRound_1_5 (v_iv (n_v vs 1)) (v_iv (n_v vs 2)) (v_iv (n_v vs 4)) (v_iv (n_v vs 6)) (v_iv (n_v vs 7)) (w_ei ws (w_ar ws (n_v vs 0) 33)) (w_ei ws (w_ar ws (n_v vs 0) 34)) (w_fi ws (n_v vs 0) 31) (w_fi ws (n_v vs 0) 32) (w_ei ws (w_ar ws (n_v vs 0) 35)) (w_ei ws (w_ar ws (n_v vs 0) 17)) (w_ei ws (w_ar ws (n_v vs 0) 40)) (w_ei ws (w_ar ws (n_v vs 0) 41)) (w_fi ws (n_v vs 0) 39) (w_ei ws (w_ar ws (n_v vs 0) 36)) (w_ei ws (w_ar ws (n_v vs 0) 37)) (v_iv (Value.int x)) k1 k2 k4 k6 k7 d0 d2 f0 f5 f6 f7 kz_0_31 kz_0_32 kz_0_39 ex2
  have nf6 : fc_1 PRD (24, [0, 3], []) ws (vs ++ [Value.int x]) := by
    refine ⟨nf_inA hl rfl, sgq_5 ?_⟩
    · show n_v (vs ++ [Value.int x]) 0 = n_v (vs ++ [Value.int x]) 3
      first | rfl | simp only [e_0, e_3, q3, q4, q5]
  have nf7 : fc_1 PRD (24, [1, 4], []) ws (vs ++ [Value.int x]) := by
    refine ⟨nf_inA hl rfl, sgq_5 ?_⟩
    · show n_v (vs ++ [Value.int x]) 1 = n_v (vs ++ [Value.int x]) 4
      first | rfl | simp only [e_1, e_4, q3, q4, q5]
  have nf8 : fc_1 PRD (24, [2, 5], []) ws (vs ++ [Value.int x]) := by
    refine ⟨nf_inA hl rfl, sgq_5 ?_⟩
    · show n_v (vs ++ [Value.int x]) 2 = n_v (vs ++ [Value.int x]) 5
      first | rfl | simp only [e_2, e_5, q3, q4, q5]
  exact ⟨(fun _ h => (by cases h)), [Value.int x], ag_one hx, List.forall_mem_cons.mpr ⟨⟨show (20 : Nat) < 100 from by decide, nf0⟩, List.forall_mem_cons.mpr ⟨⟨show (20 : Nat) < 100 from by decide, nf1⟩, List.forall_mem_cons.mpr ⟨⟨show (20 : Nat) < 100 from by decide, nf2⟩, List.forall_mem_cons.mpr ⟨⟨show (20 : Nat) < 100 from by decide, nf3⟩, List.forall_mem_cons.mpr ⟨⟨show (20 : Nat) < 100 from by decide, nf4⟩, List.forall_mem_cons.mpr ⟨⟨show (20 : Nat) < 100 from by decide, nf5⟩, List.forall_mem_cons.mpr ⟨⟨show (24 : Nat) < 100 from by decide, nf6⟩, List.forall_mem_cons.mpr ⟨⟨show (24 : Nat) < 100 from by decide, nf7⟩, List.forall_mem_cons.mpr ⟨⟨show (24 : Nat) < 100 from by decide, nf8⟩, (fun _ h => (by cases h))⟩⟩⟩⟩⟩⟩⟩⟩⟩, (fun _ h => (by cases h))⟩
set_option maxHeartbeats 4000000 in
theorem vc_Mo_turnRound_2_0 (x1 : Int) (x2 : Int) (x4 : Int) (x6 : Int) (x7 : Int) (pt_0 : Int → Int) (ph_0 : Int → Int) (pn_0 : Int) (pm_0 : Int) (alive_0 : Int → Int) (blockOf_0 : Int → Int) (faceMany_0 : Int → Int) (face_0 : Int → Int) (faces_0 : Int) (rotMany_0 : Int → Int) (rot_0 : Int → Int) (k1 : 0 ≤ x1 ∧ x1 ≤ 24) (k2 : 0 ≤ x2 ∧ x2 ≤ 79) (k4 : 0 ≤ x4 ∧ x4 ≤ 24) (k6 : (-1) ≤ x6 ∧ x6 ≤ (-1)) (k7 : (-1) ≤ x7 ∧ x7 ≤ (-1)) (d0 : x4 + (-4294967296) ≤ x1 ∧ x1 ≤ x4 + 0) (d2 : x1 + (-4294967296) ≤ x4 ∧ x4 ≤ x1 + 0) (f0 : x6 < 0) (f1 : x7 < 0) (f5 : 1 * x1 + ((-1) * pn_0 + 0) ≤ (-1)) (f6 : MID (pn_0) (pm_0) (faces_0) (pt_0) (ph_0) (alive_0) (blockOf_0) (faceMany_0) (face_0) (rotMany_0) (rot_0) (x2) (x1)) (f7 : TF (pm_0) (pt_0) (ph_0) (alive_0) (blockOf_0) (x1) (x2) (x6) (x7)) (kz_0_31 : 0 ≤ pn_0 ∧ pn_0 ≤ 25) (kz_0_32 : 0 ≤ pm_0 ∧ pm_0 ≤ 80) (kz_0_39 : 0 ≤ faces_0 ∧ faces_0 ≤ 120) : MIE (pn_0) (pm_0) (faces_0) (pt_0) (ph_0) (alive_0) (blockOf_0) (faceMany_0) (face_0) (rotMany_0) (rot_0) (x2) (x1) := by
  exact mie_none ‹MID _ _ _ _ _ _ _ _ _ _ _ _ _› (by omega) (by omega) ‹TF _ _ _ _ _ _ _ _ _› (by omega) (by omega)
def o_Mo_turnRound_2 : or_T := (49, 8, [(0, (2, 0, 0, [165])), (1, (0, 0, 24, [])), (2, (0, 0, 79, [])), (4, (0, 0, 24, [])), (6, (0, -1, -1, [])), (7, (0, -1, -1, []))], [(8, [6], [2]), (8, [7], [2]), (20, [4, 3], [30, -1, 1, 0, 0, -1, 1, 31]), (20, [3, 5, 4], [60, 3, 8, 176, 31, 32, 39, 33, 34, 35, 17, 40, 41, 36, 37]), (20, [3, 4, 5, 6, 7], [60, 1, 4, 181, 32, 33, 34, 35, 17]), (24, [0, 3], []), (24, [1, 4], []), (24, [2, 5], [])], [], [], [(20, [0, 2, 1], [60, 3, 8, 177, 31, 32, 39, 33, 34, 35, 17, 40, 41, 36, 37])], [], [(1, 4, -4294967296, 0), (4, 1, -4294967296, 0)])
theorem oo_Mo_turnRound_2 {kA : Nat → ClassId} : or_ok PRD kA GG o_Mo_turnRound_2 := by
  refine or_mk fun A ta ws vs hD hth hl => ?_
  intro t0 r0 t1 k1 t2 k2 t4 k4 t6 k6 t7 k7 d0 d2 f0 f1 f5 f6 f7 f8 f9 f10
  replace f5 := shm_553 f5
  replace f6 := shm_1475 f6
  replace f7 := shm_1476 f7
  replace f8 := shm_5 f8
  replace f9 := shm_5 f9
  replace f10 := shm_5 f10
  have q3 : n_v vs 3 = n_v vs 0 := f8.symm
  have q4 : n_v vs 4 = n_v vs 1 := f9.symm
  have q5 : n_v vs 5 = n_v vs 2 := f10.symm
  simp only [q3, q5, q4] at f5 f6 f7
  have kz_0_31 := fdq_145 hD hth r0
  have kz_0_32 := fdq_140 hD hth r0
  have kz_0_39 := fdq_135 hD hth r0
  have nf0 : fc_1 PRD (20, [0, 2, 1], [60, 3, 8, 177, 31, 32, 39, 33, 34, 35, 17, 40, 41, 36, 37]) ws (vs) := ⟨nf_in hl rfl, sgq_1479 (vc_Mo_turnRound_2_0 (v_iv (n_v vs 1)) (v_iv (n_v vs 2)) (v_iv (n_v vs 4)) (v_iv (n_v vs 6)) (v_iv (n_v vs 7)) (w_ei ws (w_ar ws (n_v vs 0) 33)) (w_ei ws (w_ar ws (n_v vs 0) 34)) (w_fi ws (n_v vs 0) 31) (w_fi ws (n_v vs 0) 32) (w_ei ws (w_ar ws (n_v vs 0) 35)) (w_ei ws (w_ar ws (n_v vs 0) 17)) (w_ei ws (w_ar ws (n_v vs 0) 40)) (w_ei ws (w_ar ws (n_v vs 0) 41)) (w_fi ws (n_v vs 0) 39) (w_ei ws (w_ar ws (n_v vs 0) 36)) (w_ei ws (w_ar ws (n_v vs 0) 37)) k1 k2 k4 k6 k7 d0 d2 (shm_39 f0) (shm_39 f1) f5 f6 f7 kz_0_31 kz_0_32 kz_0_39)⟩
  refine ⟨(fun _ h => (by cases h)), [], trivial, ?_, (fun _ h => (by cases h))⟩
  rw [List.append_nil]
  exact List.forall_mem_cons.mpr ⟨⟨show (20 : Nat) < 100 from by decide, nf0⟩, (fun _ h => (by cases h))⟩
set_option maxHeartbeats 4000000 in
theorem vc_Mo_turnRound_3_0 (x1 : Int) (x2 : Int) (x6 : Int) (x7 : Int) (x8 : Int) (x9 : Int) (pt_0 : Int → Int) (ph_0 : Int → Int) (alive_0 : Int → Int) (pm_0 : Int) (blockOf_0 : Int → Int) (k1 : 0 ≤ x1 ∧ x1 ≤ 24) (k2 : 0 ≤ x2 ∧ x2 ≤ 79) (k6 : (-1) ≤ x6 ∧ x6 ≤ 79) (k7 : 0 ≤ x7 ∧ x7 ≤ 79) (k8 : 0 ≤ x8 ∧ x8 ≤ 0) (k9 : (-1) ≤ x9 ∧ x9 ≤ 78) (d0 : x7 + (-1) ≤ x9 ∧ x9 ≤ x7 + (-1)) (f1 : x8 = 0) (f2 : ATP (pt_0) (ph_0) (alive_0) (x7) (x1) (x8)) (f9 : TF (pm_0) (pt_0) (ph_0) (alive_0) (blockOf_0) (x1) (x2) (x6) (x7)) (kz_0_32 : 0 ≤ pm_0 ∧ pm_0 ≤ 80) : TF (pm_0) (pt_0) (ph_0) (alive_0) (blockOf_0) (x1) (x2) (x6) (x9) := by
  first
    | exact tf_skip (e := x7) ‹TF _ _ _ _ _ _ _ _ _› (by omega) (Or.inl ⟨‹ATP _ _ _ _ _ _›, by omega⟩)
    | exact tf_skip (e := x7) (r := 0) ‹TF _ _ _ _ _ _ _ _ _› (by omega) (Or.inr (by omega))
def o_Mo_turnRound_3 : or_T := (10, 10, [(0, (2, 0, 0, [165])), (1, (0, 0, 24, [])), (2, (0, 0, 79, [])), (6, (0, -1, 79, [])), (7, (0, 0, 79, [])), (8, (0, 0, 0, [])), (9, (0, -1, 78, []))], [(8, [8], [0]), (20, [3, 7, 4, 8], [60, 0, 3, 83, 33, 34, 35]), (20, [3, 4, 5, 6, 7], [60, 1, 4, 181, 32, 33, 34, 35, 17]), (24, [0, 3], []), (24, [1, 4], []), (24, [2, 5], [])], [], [], [(20, [3, 4, 5, 6, 9], [60, 1, 4, 181, 32, 33, 34, 35, 17])], [], [(9, 7, -1, -1)])
theorem oo_Mo_turnRound_3 {kA : Nat → ClassId} : or_ok PRD kA GG o_Mo_turnRound_3 := by
  refine or_mk fun A ta ws vs hD hth hl => ?_
  intro t0 r0 t1 k1 t2 k2 t6 k6 t7 k7 t8 k8 t9 k9 d0 f1 f2 f9 f10 f11 f12
  replace f1 := shm_192 f1
  replace f2 := shm_512 f2
  replace f9 := shm_1476 f9
  replace f10 := shm_5 f10
  replace f11 := shm_5 f11
  replace f12 := shm_5 f12
  have q3 : n_v vs 3 = n_v vs 0 := f10.symm
  have q4 : n_v vs 4 = n_v vs 1 := f11.symm
  have q5 : n_v vs 5 = n_v vs 2 := f12.symm
  simp only [q3, q4, q5] at f2 f9
  have kz_0_32 := fdq_140 hD hth r0
  have nf0 : fc_1 PRD (20, [3, 4, 5, 6, 9], [60, 1, 4, 181, 32, 33, 34, 35, 17]) ws (vs) := by
    refine ⟨nf_in hl rfl, sgq_1476 ?_⟩
    · show TF (w_fi ws (n_v vs 3) 32) (w_ei ws (w_ar ws (n_v vs 3) 33)) (w_ei ws (w_ar ws (n_v vs 3) 34)) (w_ei ws (w_ar ws (n_v vs 3) 35)) (w_ei ws (w_ar ws (n_v vs 3) 17)) (v_iv (n_v vs 4)) (v_iv (n_v vs 5)) (v_iv (n_v vs 6)) (v_iv (n_v vs 9))
      simp only [q3, q4, q5]
      exact vc_Mo_turnRound_3_0 (v_iv (n_v vs 1)) (v_iv (n_v vs 2)) (v_iv (n_v vs 6)) (v_iv (n_v vs 7)) (v_iv (n_v vs 8)) (v_iv (n_v vs 9)) (w_ei ws (w_ar ws (n_v vs 0) 33)) (w_ei ws (w_ar ws (n_v vs 0) 34)) (w_ei ws (w_ar ws (n_v vs 0) 35)) (w_fi ws (n_v vs 0) 32) (w_ei ws (w_ar ws (n_v vs 0) 17)) k1 k2 k6 k7 k8 k9 d0 f1 f2 f9 kz_0_32
  refine ⟨(fun _ h => (by cases h)), [], trivial, ?_, (fun _ h => (by cases h))⟩
  rw [List.append_nil]
  exact List.forall_mem_cons.mpr ⟨⟨show (20 : Nat) < 100 from by decide, nf0⟩, (fun _ h => (by cases h))⟩
set_option maxHeartbeats 4000000 in
theorem vc_Mo_turnRound_4_0 (x1 : Int) (x2 : Int) (x5 : Int) (x6 : Int) (x7 : Int) (x8 : Int) (x10 : Int) (x11 : Int) (blockOf_0 : Int → Int) (pt_0 : Int → Int) (ph_0 : Int → Int) (alive_0 : Int → Int) (pm_0 : Int) (k1 : 0 ≤ x1 ∧ x1 ≤ 24) (k2 : 0 ≤ x2 ∧ x2 ≤ 79) (k5 : 0 ≤ x5 ∧ x5 ≤ 79) (k6 : (-1) ≤ x6 ∧ x6 ≤ 79) (k7 : 0 ≤ x7 ∧ x7 ≤ 79) (k8 : 1 ≤ x8 ∧ x8 ≤ 1) (k10 : (-1) ≤ x10 ∧ x10 ≤ 79) (k11 : (-1) ≤ x11 ∧ x11 ≤ 78) (d0 : x7 + (-1) ≤ x11 ∧ x11 ≤ x7 + (-1)) (d2 : x5 + (-4294967296) ≤ x2 ∧ x2 ≤ x5 + 0) (d4 : x2 + (-4294967296) ≤ x5 ∧ x5 ≤ x2 + 0) (f1 : x10 ≠ x2) (h2 : x10 = blockOf_0 (x7)) (f4 : x8 ≠ 0) (f12 : TF (pm_0) (pt_0) (ph_0) (alive_0) (blockOf_0) (x1) (x2) (x6) (x7)) (kz_0_32 : 0 ≤ pm_0 ∧ pm_0 ≤ 80) : TF (pm_0) (pt_0) (ph_0) (alive_0) (blockOf_0) (x1) (x2) (x6) (x11) := by
  first
    | exact tf_skip (e := x7) ‹TF _ _ _ _ _ _ _ _ _› (by omega) (Or.inl ⟨‹ATP _ _ _ _ _ _›, by omega⟩)
    | exact tf_skip (e := x7) (r := 0) ‹TF _ _ _ _ _ _ _ _ _› (by omega) (Or.inr (by omega))
def o_Mo_turnRound_4 : or_T := (10, 12, [(0, (2, 0, 0, [165])), (1, (0, 0, 24, [])), (2, (0, 0, 79, [])), (3, (2, 0, 0, [165])), (4, (0, 0, 24, [])), (5, (0, 0, 79, [])), (6, (0, -1, 79, [])), (7, (0, 0, 79, [])), (8, (0, 1, 1, [])), (9, (2, 0, 0, [172])), (10, (0, -1, 79, [])), (11, (0, -1, 78, []))], [(6, [11, 7], [-1]), (7, [10, 5], [1]), (10, [10, 9, 7], []), (9, [9, 3], [17]), (8, [8], [1]), (20, [3, 7, 4, 8], [60, 0, 3, 83, 33, 34, 35]), (8, [7], [3]), (20, [3], [60, 2, 2, 75, 31, 32, 33, 34]), (20, [3, 5], [60, 2, 6, 175, 32, 39, 33, 34, 35, 17, 40, 41]), (20, [3], [60, 1, 1, 170, 39, 40]), (20, [4, 3], [30, -1, 1, 0, 0, -1, 1, 31]), (20, [3, 5, 4], [60, 3, 8, 176, 31, 32, 39, 33, 34, 35, 17, 40, 41, 36, 37]), (20, [3, 4, 5, 6, 7], [60, 1, 4, 181, 32, 33, 34, 35, 17]), (24, [0, 3], []), (24, [1, 4], []), (24, [2, 5], [])], [], [], [(20, [3, 4, 5, 6, 11], [60, 1, 4, 181, 32, 33, 34, 35, 17])], [], [(11, 7, -1, -1), (1, 4, -4294967296, 0), (2, 5, -4294967296, 0), (4, 1, -4294967296, 0), (5, 2, -4294967296, 0)])
theorem oo_Mo_turnRound_4 {kA : Nat → ClassId} : or_ok PRD kA GG o_Mo_turnRound_4 := by
  refine or_mk fun A ta ws vs hD hth hl => ?_
  intro t0 r0 t1 k1 t2 k2 t3 r3 t4 k4 t5 k5 t6 k6 t7 k7 t8 k8 t9 r9 t10 k10 t11 k11 d0 d1 d2 d3 d4 f0 f1 f2 f3 f4 f5 f6 f7 f8 f9 f10 f11 f12 f13 f14 f15
  replace f1 := shm_40 f1
  replace f2 := shm_107 f2
  replace f3 := shm_795 f3
  replace f4 := shm_142 f4
  replace f12 := shm_1476 f12
  replace f13 := shm_5 f13
  replace f14 := shm_5 f14
  replace f15 := shm_5 f15
  have q3 : n_v vs 3 = n_v vs 0 := f13.symm
  have q4 : n_v vs 4 = n_v vs 1 := f14.symm
  have q5 : n_v vs 5 = n_v vs 2 := f15.symm
  simp only [q5, q3, q4] at f1 f3 f12
  have ad_9 : v_ad (n_v vs 9) = w_ar ws (n_v vs 0) 17 := congrArg v_ad f3
  simp only [ad_9] at f2
  have h2 : v_iv (n_v vs 10) = w_ei ws (w_ar ws (n_v vs 0) 17) (v_iv (n_v vs 7)) := f2
  have kz_0_32 := fdq_140 hD hth r0
  have nf0 : fc_1 PRD (20, [3, 4, 5, 6, 11], [60, 1, 4, 181, 32, 33, 34, 35, 17]) ws (vs) := by
    refine ⟨nf_in hl rfl, sgq_1476 ?_⟩
    · show TF (w_fi ws (n_v vs 3) 32) (w_ei ws (w_ar ws (n_v vs 3) 33)) (w_ei ws (w_ar ws (n_v vs 3) 34)) (w_ei ws (w_ar ws (n_v vs 3) 35)) (w_ei ws (w_ar ws (n_v vs 3) 17)) (v_iv (n_v vs 4)) (v_iv (n_v vs 5)) (v_iv (n_v vs 6)) (v_iv (n_v vs 11))
      simp only [q3, q4, q5]
      exact vc_Mo_turnRound_4_0 (v_iv (n_v vs 1)) (v_iv (n_v vs 2)) (v_iv (n_v vs 5)) (v_iv (n_v vs 6)) (v_iv (n_v vs 7)) (v_iv (n_v vs 8)) (v_iv (n_v vs 10)) (v_iv (n_v vs 11)) (w_ei ws (w_ar ws (n_v vs 0) 17)) (w_ei ws (w_ar ws (n_v vs 0) 33)) (w_ei ws (w_ar ws (n_v vs 0) 34)) (w_ei ws (w_ar ws (n_v vs 0) 35)) (w_fi ws (n_v vs 0) 32) k1 k2 k5 k6 k7 k8 k10 k11 d0 d2 d4 f1 h2 f4 f12 kz_0_32
  refine ⟨(fun _ h => (by cases h)), [], trivial, ?_, (fun _ h => (by cases h))⟩
  rw [List.append_nil]
  exact List.forall_mem_cons.mpr ⟨⟨show (20 : Nat) < 100 from by decide, nf0⟩, (fun _ h => (by cases h))⟩
set_option maxHeartbeats 4000000 in
theorem vc_Mo_turnRound_5_0 (x1 : Int) (x2 : Int) (x5 : Int) (x6 : Int) (x7 : Int) (x8 : Int) (x10 : Int) (x11 : Int) (blockOf_0 : Int → Int) (pt_0 : Int → Int) (ph_0 : Int → Int) (alive_0 : Int → Int) (pm_0 : Int) (k1 : 0 ≤ x1 ∧ x1 ≤ 24) (k2 : 0 ≤ x2 ∧ x2 ≤ 79) (k5 : 0 ≤ x5 ∧ x5 ≤ 79) (k6 : (-1) ≤ x6 ∧ x6 ≤ 79) (k7 : 0 ≤ x7 ∧ x7 ≤ 79) (k8 : 1 ≤ x8 ∧ x8 ≤ 1) (k10 : 0 ≤ x10 ∧ x10 ≤ 79) (k11 : (-1) ≤ x11 ∧ x11 ≤ 78) (d0 : x7 + (-1) ≤ x11 ∧ x11 ≤ x7 + (-1)) (d1 : x5 + 0 ≤ x10 ∧ x10 ≤ x5 + 0) (d3 : x5 + (-4294967296) ≤ x2 ∧ x2 ≤ x5 + 0) (d5 : x2 + (-4294967296) ≤ x5 ∧ x5 ≤ x2 + 0) (h2 : x10 = blockOf_0 (x7)) (f4 : x8 ≠ 0) (f5 : ATP (pt_0) (ph_0) (alive_0) (x7) (x1) (x8)) (f6 : 0 ≤ x7) (f12 : TF (pm_0) (pt_0) (ph_0) (alive_0) (blockOf_0) (x1) (x2) (x6) (x7)) (kz_0_32 : 0 ≤ pm_0 ∧ pm_0 ≤ 80) : TF (pm_0) (pt_0) (ph_0) (alive_0) (blockOf_0) (x1) (x2) (x7) (x11) := by
  first
    | exact tf_take (e := x7) ‹TF _ _ _ _ _ _ _ _ _› (by omega) (by omega) ‹ATP _ _ _ _ _ _› (by omega) (by omega)
def o_Mo_turnRound_5 : or_T := (10, 12, [(0, (2, 0, 0, [165])), (1, (0, 0, 24, [])), (2, (0, 0, 79, [])), (3, (2, 0, 0, [165])), (4, (0, 0, 24, [])), (5, (0, 0, 79, [])), (6, (0, -1, 79, [])), (7, (0, 0, 79, [])), (8, (0, 1, 1, [])), (9, (2, 0, 0, [172])), (10, (0, 0, 79, [])), (11, (0, -1, 78, []))], [(6, [11, 7], [-1]), (7, [10, 5], [0]), (10, [10, 9, 7], []), (9, [9, 3], [17]), (8, [8], [1]), (20, [3, 7, 4, 8], [60, 0, 3, 83, 33, 34, 35]), (8, [7], [3]), (20, [3], [60, 2, 2, 75, 31, 32, 33, 34]), (20, [3, 5], [60, 2, 6, 175, 32, 39, 33, 34, 35, 17, 40, 41]), (20, [3], [60, 1, 1, 170, 39, 40]), (20, [4, 3], [30, -1, 1, 0, 0, -1, 1, 31]), (20, [3, 5, 4], [60, 3, 8, 176, 31, 32, 39, 33, 34, 35, 17, 40, 41, 36, 37]), (20, [3, 4, 5, 6, 7], [60, 1, 4, 181, 32, 33, 34, 35, 17]), (24, [0, 3], []), (24, [1, 4], []), (24, [2, 5], [])], [], [], [(20, [3, 4, 5, 7, 11], [60, 1, 4, 181, 32, 33, 34, 35, 17])], [], [(11, 7, -1, -1), (10, 5, 0, 0), (1, 4, -4294967296, 0), (2, 5, -4294967296, 0), (4, 1, -4294967296, 0), (5, 2, -4294967296, 0)])
theorem oo_Mo_turnRound_5 {kA : Nat → ClassId} : or_ok PRD kA GG o_Mo_turnRound_5 := by
  refine or_mk fun A ta ws vs hD hth hl => ?_
  intro t0 r0 t1 k1 t2 k2 t3 r3 t4 k4 t5 k5 t6 k6 t7 k7 t8 k8 t9 r9 t10 k10 t11 k11 d0 d1 d2 d3 d4 d5 f0 f1 f2 f3 f4 f5 f6 f7 f8 f9 f10 f11 f12 f13 f14 f15
  replace f2 := shm_107 f2
  replace f3 := shm_795 f3
  replace f4 := shm_142 f4
  replace f5 := shm_512 f5
  replace f6 := shm_32 f6
  replace f12 := shm_1476 f12
  replace f13 := shm_5 f13
  replace f14 := shm_5 f14
  replace f15 := shm_5 f15
  have q3 : n_v vs 3 = n_v vs 0 := f13.symm
  have q4 : n_v vs 4 = n_v vs 1 := f14.symm
  have q5 : n_v vs 5 = n_v vs 2 := f15.symm
  simp only [q5, q3, q4] at f3 f5 f12
  have ad_9 : v_ad (n_v vs 9) = w_ar ws (n_v vs 0) 17 := congrArg v_ad f3
  simp only [ad_9] at f2
  have h2 : v_iv (n_v vs 10) = w_ei ws (w_ar ws (n_v vs 0) 17) (v_iv (n_v vs 7)) := f2
  have kz_0_32 := fdq_140 hD hth r0
  have nf0 : fc_1 PRD (20, [3, 4, 5, 7, 11], [60, 1, 4, 181, 32, 33, 34, 35, 17]) ws (vs) := by
    refine ⟨nf_in hl rfl, sgq_1476 ?_⟩
    · show TF (w_fi ws (n_v vs 3) 32) (w_ei ws (w_ar ws (n_v vs 3) 33)) (w_ei ws (w_ar ws (n_v vs 3) 34)) (w_ei ws (w_ar ws (n_v vs 3) 35)) (w_ei ws (w_ar ws (n_v vs 3) 17)) (v_iv (n_v vs 4)) (v_iv (n_v vs 5)) (v_iv (n_v vs 7)) (v_iv (n_v vs 11))
      simp only [q3, q4, q5]
      exact vc_Mo_turnRound_5_0 (v_iv (n_v vs 1)) (v_iv (n_v vs 2)) (v_iv (n_v vs 5)) (v_iv (n_v vs 6)) (v_iv (n_v vs 7)) (v_iv (n_v vs 8)) (v_iv (n_v vs 10)) (v_iv (n_v vs 11)) (w_ei ws (w_ar ws (n_v vs 0) 17)) (w_ei ws (w_ar ws (n_v vs 0) 33)) (w_ei ws (w_ar ws (n_v vs 0) 34)) (w_ei ws (w_ar ws (n_v vs 0) 35)) (w_fi ws (n_v vs 0) 32) k1 k2 k5 k6 k7 k8 k10 k11 d0 d1 d3 d5 h2 f4 f5 f6 f12 kz_0_32
  refine ⟨(fun _ h => (by cases h)), [], trivial, ?_, (fun _ h => (by cases h))⟩
  rw [List.append_nil]
  exact List.forall_mem_cons.mpr ⟨⟨show (20 : Nat) < 100 from by decide, nf0⟩, (fun _ h => (by cases h))⟩
set_option maxHeartbeats 4000000 in
theorem vc_Mo_turnRound_6_r0 (x1 : Int) (x2 : Int) (x4 : Int) (x6 : Int) (x7 : Int) (x11 : Int) (x13 : Int) (x14 : Int) (x15 : Int) (rotMany_0 : Int → Int) (pt_0 : Int → Int) (ph_0 : Int → Int) (pn_0 : Int) (pm_0 : Int) (alive_0 : Int → Int) (blockOf_0 : Int → Int) (faceMany_0 : Int → Int) (face_0 : Int → Int) (faces_0 : Int) (rotMany_1 : Int → Int) (pt_1 : Int → Int) (ph_1 : Int → Int) (pn_1 : Int) (pm_1 : Int) (alive_1 : Int → Int) (blockOf_1 : Int → Int) (faceMany_1 : Int → Int) (face_1 : Int → Int) (faces_1 : Int) (rot_1 : Int → Int) (k1 : 0 ≤ x1 ∧ x1 ≤ 24) (k2 : 0 ≤ x2 ∧ x2 ≤ 79) (k4 : 0 ≤ x4 ∧ x4 ≤ 24) (k6 : 0 ≤ x6 ∧ x6 ≤ 79) (k7 : 0 ≤ x7 ∧ x7 ≤ 79) (k11 : 0 ≤ x11 ∧ x11 ≤ 1920) (k13 : 0 ≤ x13 ∧ x13 ≤ 80) (k14 : 0 ≤ x14 ∧ x14 ≤ 2000) (k15 : 0 ≤ x15 ∧ x15 ≤ 80) (d1 : x11 + 0 ≤ x14 ∧ x14 ≤ x11 + 80) (d2 : x4 + (-4294967296) ≤ x1 ∧ x1 ≤ x4 + 0) (d4 : x1 + (-4294967296) ≤ x4 ∧ x4 ≤ x1 + 0) (h0 : x15 = rotMany_0 (x1)) (f5 : 1 * x1 + ((-1) * pn_0 + 0) ≤ (-1)) (f11 : x14 = x11 + x13) (h12 : x13 = rotMany_1 (x1)) (f13 : x11 = 80 * x1) (f19 : TRI (pn_1) (pm_1) (faces_1) (pt_1) (ph_1) (alive_1) (blockOf_1) (faceMany_1) (face_1) (rotMany_1) (rot_1) (x2) (x1) (x6) (x7)) (fe_0_31_1 : pn_0 = pn_1) (fe_0_32_1 : pm_0 = pm_1) (fe_0_39_1 : faces_0 = faces_1) (hE_0_17_1 : ∀ j : Int, blockOf_0 j = blockOf_1 j) (hE_0_33_1 : ∀ j : Int, pt_0 j = pt_1 j) (hE_0_34_1 : ∀ j : Int, ph_0 j = ph_1 j) (hE_0_35_1 : ∀ j : Int, alive_0 j = alive_1 j) (hE_0_36_1 : ∀ j : Int, rotMany_0 j = rotMany_1 j) (hE_0_40_1 : ∀ j : Int, faceMany_0 j = faceMany_1 j) (hE_0_41_1 : ∀ j : Int, face_0 j = face_1 j) (kz_0_31 : 0 ≤ pn_0 ∧ pn_0 ≤ 25) (kz_0_32 : 0 ≤ pm_0 ∧ pm_0 ≤ 80) (kz_0_39 : 0 ≤ faces_0 ∧ faces_0 ≤ 120) : 0 ≤ x15 ∧ x15 ≤ 79 := by
  subst fe_0_31_1
  subst fe_0_32_1
  subst fe_0_39_1
  have e_hE_0_17_1 := funext hE_0_17_1; subst e_hE_0_17_1
  have e_hE_0_33_1 := funext hE_0_33_1; subst e_hE_0_33_1
  have e_hE_0_34_1 := funext hE_0_34_1; subst e_hE_0_34_1
  have e_hE_0_35_1 := funext hE_0_35_1; subst e_hE_0_35_1
  have e_hE_0_36_1 := funext hE_0_36_1; subst e_hE_0_36_1
  have e_hE_0_40_1 := funext hE_0_40_1; subst e_hE_0_40_1
  have e_hE_0_41_1 := funext hE_0_41_1; subst e_hE_0_41_1
  have h := tri_len ‹TRI _ _ _ _ _ _ _ _ _ _ _ _ _ _ _› (by omega) (by omega)
  first | omega | (have v := hE_0_36_1 x1; omega)
def o_Mo_turnRound_6 : or_T := (78, 16, [(0, (2, 0, 0, [165])), (1, (0, 0, 24, [])), (2, (0, 0, 79, [])), (3, (2, 0, 0, [165])), (4, (0, 0, 24, [])), (5, (0, 0, 79, [])), (6, (0, 0, 79, [])), (7, (0, 0, 79, [])), (8, (0, -2, 81, [])), (9, (2, 0, 0, [184])), (10, (0, 80, 80, [])), (11, (0, 0, 1920, [])), (12, (2, 0, 0, [183])), (13, (0, 0, 80, [])), (14, (0, 0, 2000, [])), (15, (0, 0, 80, []))], [(10, [15, 12, 4], []), (9, [12, 3], [36]), (20, [3], [60, 2, 2, 75, 31, 32, 33, 34]), (20, [3, 5], [60, 2, 6, 175, 32, 39, 33, 34, 35, 17, 40, 41]), (20, [3], [60, 1, 1, 170, 39, 40]), (20, [4, 3], [30, -1, 1, 0, 0, -1, 1, 31]), (20, [3, 4, 8], [30, -80, -1, 2, 36, -1, 0, 0]), (24, [0, 3], []), (24, [1, 4], []), (24, [2, 5], []), (100, [9, 14, 7], []), (1, [14, 11, 13], []), (10, [13, 12, 4], []), (3, [11, 10, 4], []), (9, [9, 3], [37]), (20, [3], [60, 2, 2, 75, 31, 32, 33, 34]), (20, [3, 5], [60, 2, 6, 175, 32, 39, 33, 34, 35, 17, 40, 41]), (20, [3], [60, 1, 1, 170, 39, 40]), (20, [4, 3], [30, -1, 1, 0, 0, -1, 1, 31]), (20, [3, 5, 4, 6, 7], [60, 3, 8, 178, 31, 32, 39, 33, 34, 35, 17, 40, 41, 36, 37]), (20, [3, 4, 8], [30, -80, -1, 2, 36, -1, 0, 0])], [(15, (0, 0, 79, []))], [], [], [], [(14, 13, 0, 1920), (14, 11, 0, 80), (1, 4, -4294967296, 0), (2, 5, -4294967296, 0), (4, 1, -4294967296, 0), (5, 2, -4294967296, 0)])
theorem oo_Mo_turnRound_6 {kA : Nat → ClassId} : or_ok PRD kA GG o_Mo_turnRound_6 := by
  refine or_mk fun A ta ws vs hD hth hl => ?_
  intro t0 r0 t1 k1 t2 k2 t3 r3 t4 k4 t5 k5 t6 k6 t7 k7 t8 k8 t9 r9 t10 k10 t11 k11 t12 r12 t13 k13 t14 k14 t15 k15 d0 d1 d2 d3 d4 d5 f0 f1 f2 f3 f4 f5 f6 f7 f8 f9 ta1 w1 le1 s1 f11 f12 f13 f14 f15 f16 f17 f18 f19 f20
  replace f0 := shm_107 f0
  replace f1 := shm_684 f1
  replace f5 := shm_553 f5
  replace f7 := shm_5 f7
  replace f8 := shm_5 f8
  replace f9 := shm_5 f9
  have s1 : (∀ b j, w_el ws b j = if b = v_ad (n_v vs 9) ∧ j = (v_iv (n_v vs 14)).toNat then v_iv (n_v vs 7) else w_el w1 b j) ∧ ∀ b k, w_fd ws b k = w_fd w1 b k := s1.2
  replace f12 := shm_107 f12
  replace f13 := shm_38 f13
  rw [show v_iv (n_v vs 10) = 80 from by omega] at f13
  replace f19 := shm_1480 f19
  have q3 : n_v vs 3 = n_v vs 0 := f7.symm
  have q4 : n_v vs 4 = n_v vs 1 := f8.symm
  have q5 : n_v vs 5 = n_v vs 2 := f9.symm
  simp only [q4, q3, q5] at f0 f1 f5 f12 f13 f19
  have ar_0_17_1 : w_ar w1 (n_v vs 0) 17 = w_ar ws (n_v vs 0) 17 := congrArg v_ad (s1.2 _ _).symm
  have cr_0_17 := fdq_189 hD hth r0
  have ar_0_33_1 : w_ar w1 (n_v vs 0) 33 = w_ar ws (n_v vs 0) 33 := congrArg v_ad (s1.2 _ _).symm
  have cr_0_33 := fdq_117 hD hth r0
  have ar_0_34_1 : w_ar w1 (n_v vs 0) 34 = w_ar ws (n_v vs 0) 34 := congrArg v_ad (s1.2 _ _).symm
  have cr_0_34 := fdq_118 hD hth r0
  have ar_0_35_1 : w_ar w1 (n_v vs 0) 35 = w_ar ws (n_v vs 0) 35 := congrArg v_ad (s1.2 _ _).symm
  have cr_0_35 := fdq_132 hD hth r0
  have ar_0_36_1 : w_ar w1 (n_v vs 0) 36 = w_ar ws (n_v vs 0) 36 := congrArg v_ad (s1.2 _ _).symm
  have cr_0_36 := fdq_167 hD hth r0
  have ar_0_37_1 : w_ar w1 (n_v vs 0) 37 = w_ar ws (n_v vs 0) 37 := congrArg v_ad (s1.2 _ _).symm
  have ar_0_40_1 : w_ar w1 (n_v vs 0) 40 = w_ar ws (n_v vs 0) 40 := congrArg v_ad (s1.2 _ _).symm
  have cr_0_40 := fdq_133 hD hth r0
  have ar_0_41_1 : w_ar w1 (n_v vs 0) 41 = w_ar ws (n_v vs 0) 41 := congrArg v_ad (s1.2 _ _).symm
  have cr_0_41 := fdq_134 hD hth r0
  have ad_12 : v_ad (n_v vs 12) = w_ar ws (n_v vs 0) 36 := congrArg v_ad f1
  simp only [ad_12] at f0
  have h0 : v_iv (n_v vs 15) = w_ei ws (w_ar ws (n_v vs 0) 36) (v_iv (n_v vs 1)) := f0
  simp only [ad_12] at f12
  have h12 : v_iv (n_v vs 13) = w_ei w1 (w_ar ws (n_v vs 0) 36) (v_iv (n_v vs 1)) := f12
  simp only [ar_0_33_1, ar_0_34_1, ar_0_17_1, ar_0_35_1, ar_0_40_1, ar_0_41_1, ar_0_36_1, ar_0_37_1] at f19
  have fe_0_31_1 : w_fi ws (n_v vs 0) 31 = w_fi w1 (n_v vs 0) 31 := congrArg v_iv (s1.2 _ _)
  have fe_0_32_1 : w_fi ws (n_v vs 0) 32 = w_fi w1 (n_v vs 0) 32 := congrArg v_iv (s1.2 _ _)
  have fe_0_39_1 : w_fi ws (n_v vs 0) 39 = w_fi w1 (n_v vs 0) 39 := congrArg v_iv (s1.2 _ _)
  have hE_0_17_1 : ∀ j : Int, w_ei ws (w_ar ws (n_v vs 0) 17) j = w_ei w1 (w_ar ws (n_v vs 0) 17) j := el_kp s1.1 r9 cr_0_17 (by decide)
  have hE_0_33_1 : ∀ j : Int, w_ei ws (w_ar ws (n_v vs 0) 33) j = w_ei w1 (w_ar ws (n_v vs 0) 33) j := el_kp s1.1 r9 cr_0_33 (by decide)
  have hE_0_34_1 : ∀ j : Int, w_ei ws (w_ar ws (n_v vs 0) 34) j = w_ei w1 (w_ar ws (n_v vs 0) 34) j := el_kp s1.1 r9 cr_0_34 (by decide)
  have hE_0_35_1 : ∀ j : Int, w_ei ws (w_ar ws (n_v vs 0) 35) j = w_ei w1 (w_ar ws (n_v vs 0) 35) j := el_kp s1.1 r9 cr_0_35 (by decide)
  have hE_0_36_1 : ∀ j : Int, w_ei ws (w_ar ws (n_v vs 0) 36) j = w_ei w1 (w_ar ws (n_v vs 0) 36) j := el_kp s1.1 r9 cr_0_36 (by decide)
  have hE_0_40_1 : ∀ j : Int, w_ei ws (w_ar ws (n_v vs 0) 40) j = w_ei w1 (w_ar ws (n_v vs 0) 40) j := el_kp s1.1 r9 cr_0_40 (by decide)
  have hE_0_41_1 : ∀ j : Int, w_ei ws (w_ar ws (n_v vs 0) 41) j = w_ei w1 (w_ar ws (n_v vs 0) 41) j := el_kp s1.1 r9 cr_0_41 (by decide)
  have kz_0_31 := fdq_145 hD hth r0
  have kz_0_32 := fdq_140 hD hth r0
  have kz_0_39 := fdq_135 hD hth r0
  have hrf0 : 0 ≤ v_iv (n_v vs 15) ∧ v_iv (n_v vs 15) ≤ 79 := vc_Mo_turnRound_6_r0 (v_iv (n_v vs 1)) (v_iv (n_v vs 2)) (v_iv (n_v vs 4)) (v_iv (n_v vs 6)) (v_iv (n_v vs 7)) (v_iv (n_v vs 11)) (v_iv (n_v vs 13)) (v_iv (n_v vs 14)) (v_iv (n_v vs 15)) (w_ei ws (w_ar ws (n_v vs 0) 36)) (w_ei ws (w_ar ws (n_v vs 0) 33)) (w_ei ws (w_ar ws (n_v vs 0) 34)) (w_fi ws (n_v vs 0) 31) (w_fi ws (n_v vs 0) 32) (w_ei ws (w_ar ws (n_v vs 0) 35)) (w_ei ws (w_ar ws (n_v vs 0) 17)) (w_ei ws (w_ar ws (n_v vs 0) 40)) (w_ei ws (w_ar ws (n_v vs 0) 41)) (w_fi ws (n_v vs 0) 39) (w_ei w1 (w_ar ws (n_v vs 0) 36)) (w_ei w1 (w_ar ws (n_v vs 0) 33)) (w_ei w1 (w_ar ws (n_v vs 0) 34)) (w_fi w1 (n_v vs 0) 31) (w_fi w1 (n_v vs 0) 32) (w_ei w1 (w_ar ws (n_v vs 0) 35)) (w_ei w1 (w_ar ws (n_v vs 0) 17)) (w_ei w1 (w_ar ws (n_v vs 0) 40)) (w_ei w1 (w_ar ws (n_v vs 0) 41)) (w_fi w1 (n_v vs 0) 39) (w_ei w1 (w_ar ws (n_v vs 0) 37)) k1 k2 k4 k6 k7 k11 k13 k14 k15 d1 d2 d4 h0 f5 (shm_12 f11) h12 f13 f19 fe_0_31_1 fe_0_32_1 fe_0_39_1 hE_0_17_1 hE_0_33_1 hE_0_34_1 hE_0_35_1 hE_0_36_1 hE_0_40_1 hE_0_41_1 kz_0_31 kz_0_32 kz_0_39
  have rf15 : tv_ok ta (0, 0, 79, []) (n_v vs 15) := tv_in t15 (by first | omega | grind) (by first | omega | grind)
  refine ⟨List.forall_mem_cons.mpr ⟨rf15, (fun _ h => (by cases h))⟩, [], trivial, ?_, (fun _ h => (by cases h))⟩
  rw [List.append_nil]
  exact (fun _ h => (by cases h))
set_option maxHeartbeats 4000000 in
theorem vc_Mo_turnRound_7_0 (x1 : Int) (x2 : Int) (x4 : Int) (x6 : Int) (x7 : Int) (x11 : Int) (x13 : Int) (x14 : Int) (x15 : Int) (x17 : Int) (pt_0 : Int → Int) (ph_0 : Int → Int) (pn_0 : Int) (pm_0 : Int) (alive_0 : Int → Int) (blockOf_0 : Int → Int) (faceMany_0 : Int → Int) (face_0 : Int → Int) (faces_0 : Int) (rotMany_1 : Int → Int) (pt_1 : Int → Int) (ph_1 : Int → Int) (pn_1 : Int) (pm_1 : Int) (alive_1 : Int → Int) (blockOf_1 : Int → Int) (faceMany_1 : Int → Int) (face_1 : Int → Int) (faces_1 : Int) (rotMany_2 : Int → Int) (pt_2 : Int → Int) (ph_2 : Int → Int) (pn_2 : Int) (pm_2 : Int) (alive_2 : Int → Int) (blockOf_2 : Int → Int) (faceMany_2 : Int → Int) (face_2 : Int → Int) (faces_2 : Int) (rot_2 : Int → Int) (rotMany_0 : Int → Int) (rot_0 : Int → Int) (rot_1 : Int → Int) (k1 : 0 ≤ x1 ∧ x1 ≤ 24) (k2 : 0 ≤ x2 ∧ x2 ≤ 79) (k4 : 0 ≤ x4 ∧ x4 ≤ 24) (k6 : 0 ≤ x6 ∧ x6 ≤ 79) (k7 : 0 ≤ x7 ∧ x7 ≤ 79) (k11 : 0 ≤ x11 ∧ x11 ≤ 1920) (k13 : 0 ≤ x13 ∧ x13 ≤ 80) (k14 : 0 ≤ x14 ∧ x14 ≤ 2000) (k15 : 0 ≤ x15 ∧ x15 ≤ 79) (k17 : 1 ≤ x17 ∧ x17 ≤ 80) (d0 : x15 + 1 ≤ x17 ∧ x17 ≤ x15 + 1) (d3 : x4 + (-4294967296) ≤ x1 ∧ x1 ≤ x4 + 0) (d5 : x1 + (-4294967296) ≤ x4 ∧ x4 ≤ x1 + 0) (f3 : 1 * x1 + ((-1) * pn_0 + 0) ≤ (-1)) (h9 : x15 = rotMany_1 (x1)) (f17 : x14 = x11 + x13) (h18 : x13 = rotMany_2 (x1)) (f19 : x11 = 80 * x1) (f25 : TRI (pn_2) (pm_2) (faces_2) (pt_2) (ph_2) (alive_2) (blockOf_2) (faceMany_2) (face_2) (rotMany_2) (rot_2) (x2) (x1) (x6) (x7)) (fe_0_31_1 : pn_0 = pn_1) (fe_0_32_1 : pm_0 = pm_1) (fe_0_39_1 : faces_0 = faces_1) (fe_0_31_2 : pn_1 = pn_2) (fe_0_32_2 : pm_1 = pm_2) (fe_0_39_2 : faces_1 = faces_2) (hE_0_17_1 : ∀ j : Int, blockOf_0 j = blockOf_1 j) (hE_0_17_2 : ∀ j : Int, blockOf_1 j = blockOf_2 j) (hE_0_33_1 : ∀ j : Int, pt_0 j = pt_1 j) (hE_0_33_2 : ∀ j : Int, pt_1 j = pt_2 j) (hE_0_34_1 : ∀ j : Int, ph_0 j = ph_1 j) (hE_0_34_2 : ∀ j : Int, ph_1 j = ph_2 j) (hE_0_35_1 : ∀ j : Int, alive_0 j = alive_1 j) (hE_0_35_2 : ∀ j : Int, alive_1 j = alive_2 j) (hE_0_36_1 : ∀ j : Int, 0 ≤ j → (j = x1 → rotMany_0 j = x17) ∧ (j ≠ x1 → rotMany_0 j = rotMany_1 j)) (hE_0_36_2 : ∀ j : Int, rotMany_1 j = rotMany_2 j) (hE_0_37_1 : ∀ j : Int, rot_0 j = rot_1 j) (hE_0_37_2 : ∀ j : Int, 0 ≤ j → (j = x14 → rot_1 j = x7) ∧ (j ≠ x14 → rot_1 j = rot_2 j)) (hE_0_40_1 : ∀ j : Int, faceMany_0 j = faceMany_1 j) (hE_0_40_2 : ∀ j : Int, faceMany_1 j = faceMany_2 j) (hE_0_41_1 : ∀ j : Int, face_0 j = face_1 j) (hE_0_41_2 : ∀ j : Int, face_1 j = face_2 j) (kz_0_31 : 0 ≤ pn_0 ∧ pn_0 ≤ 25) (kz_0_32 : 0 ≤ pm_0 ∧ pm_0 ≤ 80) (kz_0_39 : 0 ≤ faces_0 ∧ faces_0 ≤ 120) : TRA (pn_0) (pm_0) (faces_0) (pt_0) (ph_0) (alive_0) (blockOf_0) (faceMany_0) (face_0) (rotMany_0) (rot_0) (x2) (x1) (x6) (x7) := by
  subst fe_0_31_1
  subst fe_0_32_1
  subst fe_0_39_1
  subst fe_0_31_2
  subst fe_0_32_2
  subst fe_0_39_2
  have e_hE_0_17_1 := funext hE_0_17_1; subst e_hE_0_17_1
  have e_hE_0_17_2 := funext hE_0_17_2; subst e_hE_0_17_2
  have e_hE_0_33_1 := funext hE_0_33_1; subst e_hE_0_33_1
  have e_hE_0_33_2 := funext hE_0_33_2; subst e_hE_0_33_2
  have e_hE_0_34_1 := funext hE_0_34_1; subst e_hE_0_34_1
  have e_hE_0_34_2 := funext hE_0_34_2; subst e_hE_0_34_2
  have e_hE_0_35_1 := funext hE_0_35_1; subst e_hE_0_35_1
  have e_hE_0_35_2 := funext hE_0_35_2; subst e_hE_0_35_2
  have e_hE_0_36_2 := funext hE_0_36_2; subst e_hE_0_36_2
  have e_hE_0_37_1 := funext hE_0_37_1; subst e_hE_0_37_1
  have e_hE_0_40_1 := funext hE_0_40_1; subst e_hE_0_40_1
  have e_hE_0_40_2 := funext hE_0_40_2; subst e_hE_0_40_2
  have e_hE_0_41_1 := funext hE_0_41_1; subst e_hE_0_41_1
  have e_hE_0_41_2 := funext hE_0_41_2; subst e_hE_0_41_2
  exact tri_app (rm := rotMany_1) (e := x7) ‹TRI _ _ _ _ _ _ _ _ _ _ _ _ _ _ _› (by omega) (by omega) (by omega) hE_0_37_2 (by omega) rfl hE_0_36_1 rfl (by omega)
def o_Mo_turnRound_7 : or_T := (81, 18, [(0, (2, 0, 0, [165])), (1, (0, 0, 24, [])), (2, (0, 0, 79, [])), (4, (0, 0, 24, [])), (6, (0, 0, 79, [])), (7, (0, 0, 79, [])), (9, (2, 0, 0, [184])), (10, (0, 80, 80, [])), (11, (0, 0, 1920, [])), (12, (2, 0, 0, [183])), (13, (0, 0, 80, [])), (14, (0, 0, 2000, [])), (15, (0, 0, 79, [])), (17, (0, 1, 80, []))], [(20, [4, 3], [30, -1, 1, 0, 0, -1, 1, 31]), (24, [0, 3], []), (24, [1, 4], []), (24, [2, 5], []), (100, [12, 4, 17], []), (10, [15, 12, 4], []), (9, [12, 3], [36]), (100, [9, 14, 7], []), (1, [14, 11, 13], []), (10, [13, 12, 4], []), (3, [11, 10, 4], []), (9, [9, 3], [37]), (20, [3, 5, 4, 6, 7], [60, 3, 8, 178, 31, 32, 39, 33, 34, 35, 17, 40, 41, 36, 37])], [], [], [(20, [3, 5, 4, 6, 7], [60, 3, 8, 179, 31, 32, 39, 33, 34, 35, 17, 40, 41, 36, 37])], [], [(17, 15, 1, 1), (14, 13, 0, 1920), (14, 11, 0, 80), (1, 4, -4294967296, 0), (4, 1, -4294967296, 0)])
theorem oo_Mo_turnRound_7 {kA : Nat → ClassId} : or_ok PRD kA GG o_Mo_turnRound_7 := by
  refine or_mk fun A ta ws vs hD hth hl => ?_
  intro t0 r0 t1 k1 t2 k2 t4 k4 t6 k6 t7 k7 t9 r9 t10 k10 t11 k11 t12 r12 t13 k13 t14 k14 t15 k15 t17 k17 d0 d1 d2 d3 d5 f3 f4 f5 f6 ta1 w1 le1 s1 f9 f10 ta2 w2 le2 s2 f17 f18 f19 f20 f25
  replace f3 := shm_553 f3
  replace f4 := shm_5 f4
  replace f5 := shm_5 f5
  replace f6 := shm_5 f6
  have s1 : (∀ b j, w_el ws b j = if b = v_ad (n_v vs 12) ∧ j = (v_iv (n_v vs 4)).toNat then v_iv (n_v vs 17) else w_el w1 b j) ∧ ∀ b k, w_fd ws b k = w_fd w1 b k := s1.2
  replace f9 := shm_107 f9
  replace f10 := shm_684 f10
  have s2 : (∀ b j, w_el w1 b j = if b = v_ad (n_v vs 9) ∧ j = (v_iv (n_v vs 14)).toNat then v_iv (n_v vs 7) else w_el w2 b j) ∧ ∀ b k, w_fd w1 b k = w_fd w2 b k := s2.2
  replace f17 := shm_12 f17
  replace f18 := shm_107 f18
  replace f19 := shm_38 f19
  rw [show v_iv (n_v vs 10) = 80 from by omega] at f19
  replace f20 := shm_687 f20
  replace f25 := shm_1480 f25
  have q3 : n_v vs 3 = n_v vs 0 := f4.symm
  have q4 : n_v vs 4 = n_v vs 1 := f5.symm
  have q5 : n_v vs 5 = n_v vs 2 := f6.symm
  simp only [q3, q4] at f3
  rw [q4] at s1
  simp only [q4, q3, q5] at f9 f10 f18 f19 f20 f25
  have ar_0_17_1 : w_ar w1 (n_v vs 0) 17 = w_ar ws (n_v vs 0) 17 := congrArg v_ad (s1.2 _ _).symm
  have ar_0_17_2 : w_ar w2 (n_v vs 0) 17 = w_ar ws (n_v vs 0) 17 := by rw [← ar_0_17_1]; show v_ad (w_fd w2 _ _) = v_ad (w_fd w1 _ _); rw [s2.2]
  have cr_0_17 := fdq_189 hD hth r0
  have ar_0_33_1 : w_ar w1 (n_v vs 0) 33 = w_ar ws (n_v vs 0) 33 := congrArg v_ad (s1.2 _ _).symm
  have ar_0_33_2 : w_ar w2 (n_v vs 0) 33 = w_ar ws (n_v vs 0) 33 := by rw [← ar_0_33_1]; show v_ad (w_fd w2 _ _) = v_ad (w_fd w1 _ _); rw [s2.2]
  have cr_0_33 := fdq_117 hD hth r0
  have ar_0_34_1 : w_ar w1 (n_v vs 0) 34 = w_ar ws (n_v vs 0) 34 := congrArg v_ad (s1.2 _ _).symm
  have ar_0_34_2 : w_ar w2 (n_v vs 0) 34 = w_ar ws (n_v vs 0) 34 := by rw [← ar_0_34_1]; show v_ad (w_fd w2 _ _) = v_ad (w_fd w1 _ _); rw [s2.2]
  have cr_0_34 := fdq_118 hD hth r0
  have ar_0_35_1 : w_ar w1 (n_v vs 0) 35 = w_ar ws (n_v vs 0) 35 := congrArg v_ad (s1.2 _ _).symm
  have ar_0_35_2 : w_ar w2 (n_v vs 0) 35 = w_ar ws (n_v vs 0) 35 := by rw [← ar_0_35_1]; show v_ad (w_fd w2 _ _) = v_ad (w_fd w1 _ _); rw [s2.2]
  have cr_0_35 := fdq_132 hD hth r0
  have ar_0_36_1 : w_ar w1 (n_v vs 0) 36 = w_ar ws (n_v vs 0) 36 := congrArg v_ad (s1.2 _ _).symm
  have ar_0_36_2 : w_ar w2 (n_v vs 0) 36 = w_ar ws (n_v vs 0) 36 := by rw [← ar_0_36_1]; show v_ad (w_fd w2 _ _) = v_ad (w_fd w1 _ _); rw [s2.2]
  have cr_0_36 := fdq_167 hD hth r0
  have ar_0_37_1 : w_ar w1 (n_v vs 0) 37 = w_ar ws (n_v vs 0) 37 := congrArg v_ad (s1.2 _ _).symm
  have ar_0_37_2 : w_ar w2 (n_v vs 0) 37 = w_ar ws (n_v vs 0) 37 := by rw [← ar_0_37_1]; show v_ad (w_fd w2 _ _) = v_ad (w_fd w1 _ _); rw [s2.2]
  have cr_0_37 := fdq_168 hD hth r0
  have ar_0_40_1 : w_ar w1 (n_v vs 0) 40 = w_ar ws (n_v vs 0) 40 := congrArg v_ad (s1.2 _ _).symm
  have ar_0_40_2 : w_ar w2 (n_v vs 0) 40 = w_ar ws (n_v vs 0) 40 := by rw [← ar_0_40_1]; show v_ad (w_fd w2 _ _) = v_ad (w_fd w1 _ _); rw [s2.2]
  have cr_0_40 := fdq_133 hD hth r0
  have ar_0_41_1 : w_ar w1 (n_v vs 0) 41 = w_ar ws (n_v vs 0) 41 := congrArg v_ad (s1.2 _ _).symm
  have ar_0_41_2 : w_ar w2 (n_v vs 0) 41 = w_ar ws (n_v vs 0) 41 := by rw [← ar_0_41_1]; show v_ad (w_fd w2 _ _) = v_ad (w_fd w1 _ _); rw [s2.2]
  have cr_0_41 := fdq_134 hD hth r0
  have ad_12 : v_ad (n_v vs 12) = w_ar ws (n_v vs 0) 36 := (congrArg v_ad f10).trans ar_0_36_1
  have ad_9 : v_ad (n_v vs 9) = w_ar ws (n_v vs 0) 37 := (congrArg v_ad f20).trans ar_0_37_2
  simp only [ad_12] at f9
  have h9 : v_iv (n_v vs 15) = w_ei w1 (w_ar ws (n_v vs 0) 36) (v_iv (n_v vs 1)) := f9
  simp only [ar_0_33_1, ar_0_34_1, ar_0_17_1, ar_0_35_1, ar_0_40_1, ar_0_41_1, ar_0_36_1, ad_12] at f18
  have h18 : v_iv (n_v vs 13) = w_ei w2 (w_ar ws (n_v vs 0) 36) (v_iv (n_v vs 1)) := f18
  simp only [ar_0_33_2, ar_0_34_2, ar_0_17_2, ar_0_35_2, ar_0_40_2, ar_0_41_2, ar_0_36_2, ar_0_37_2] at f25
  have fe_0_31_1 : w_fi ws (n_v vs 0) 31 = w_fi w1 (n_v vs 0) 31 := congrArg v_iv (s1.2 _ _)
  have fe_0_32_1 : w_fi ws (n_v vs 0) 32 = w_fi w1 (n_v vs 0) 32 := congrArg v_iv (s1.2 _ _)
  have fe_0_39_1 : w_fi ws (n_v vs 0) 39 = w_fi w1 (n_v vs 0) 39 := congrArg v_iv (s1.2 _ _)
  have fe_0_31_2 : w_fi w1 (n_v vs 0) 31 = w_fi w2 (n_v vs 0) 31 := congrArg v_iv (s2.2 _ _)
  have fe_0_32_2 : w_fi w1 (n_v vs 0) 32 = w_fi w2 (n_v vs 0) 32 := congrArg v_iv (s2.2 _ _)
  have fe_0_39_2 : w_fi w1 (n_v vs 0) 39 = w_fi w2 (n_v vs 0) 39 := congrArg v_iv (s2.2 _ _)
  have hE_0_17_1 : ∀ j : Int, w_ei ws (w_ar ws (n_v vs 0) 17) j = w_ei w1 (w_ar ws (n_v vs 0) 17) j := el_kp s1.1 r12 cr_0_17 (by decide)
  have hE_0_17_2 : ∀ j : Int, w_ei w1 (w_ar ws (n_v vs 0) 17) j = w_ei w2 (w_ar ws (n_v vs 0) 17) j := el_kp s2.1 r9 cr_0_17 (by decide)
  have hE_0_33_1 : ∀ j : Int, w_ei ws (w_ar ws (n_v vs 0) 33) j = w_ei w1 (w_ar ws (n_v vs 0) 33) j := el_kp s1.1 r12 cr_0_33 (by decide)
  have hE_0_33_2 : ∀ j : Int, w_ei w1 (w_ar ws (n_v vs 0) 33) j = w_ei w2 (w_ar ws (n_v vs 0) 33) j := el_kp s2.1 r9 cr_0_33 (by decide)
  have hE_0_34_1 : ∀ j : Int, w_ei ws (w_ar ws (n_v vs 0) 34) j = w_ei w1 (w_ar ws (n_v vs 0) 34) j := el_kp s1.1 r12 cr_0_34 (by decide)
  have hE_0_34_2 : ∀ j : Int, w_ei w1 (w_ar ws (n_v vs 0) 34) j = w_ei w2 (w_ar ws (n_v vs 0) 34) j := el_kp s2.1 r9 cr_0_34 (by decide)
  have hE_0_35_1 : ∀ j : Int, w_ei ws (w_ar ws (n_v vs 0) 35) j = w_ei w1 (w_ar ws (n_v vs 0) 35) j := el_kp s1.1 r12 cr_0_35 (by decide)
  have hE_0_35_2 : ∀ j : Int, w_ei w1 (w_ar ws (n_v vs 0) 35) j = w_ei w2 (w_ar ws (n_v vs 0) 35) j := el_kp s2.1 r9 cr_0_35 (by decide)
  have hE_0_36_1 : ∀ j : Int, 0 ≤ j → (j = v_iv (n_v vs 1) → w_ei ws (w_ar ws (n_v vs 0) 36) j = v_iv (n_v vs 17)) ∧ (j ≠ v_iv (n_v vs 1) → w_ei ws (w_ar ws (n_v vs 0) 36) j = w_ei w1 (w_ar ws (n_v vs 0) 36) j) := fun j hj => ⟨fun h => by unfold w_ei; rw [s1.1, if_pos ⟨ad_12.symm, by rw [h]⟩], fun h => by unfold w_ei; rw [s1.1, if_neg (fun e => h (by have := e.2; omega))]⟩
  have hE_0_36_2 : ∀ j : Int, w_ei w1 (w_ar ws (n_v vs 0) 36) j = w_ei w2 (w_ar ws (n_v vs 0) 36) j := el_kp s2.1 r9 cr_0_36 (by decide)
  have hE_0_37_1 : ∀ j : Int, w_ei ws (w_ar ws (n_v vs 0) 37) j = w_ei w1 (w_ar ws (n_v vs 0) 37) j := el_kp s1.1 r12 cr_0_37 (by decide)
  have hE_0_37_2 : ∀ j : Int, 0 ≤ j → (j = v_iv (n_v vs 14) → w_ei w1 (w_ar ws (n_v vs 0) 37) j = v_iv (n_v vs 7)) ∧ (j ≠ v_iv (n_v vs 14) → w_ei w1 (w_ar ws (n_v vs 0) 37) j = w_ei w2 (w_ar ws (n_v vs 0) 37) j) := fun j hj => ⟨fun h => by unfold w_ei; rw [s2.1, if_pos ⟨ad_9.symm, by rw [h]⟩], fun h => by unfold w_ei; rw [s2.1, if_neg (fun e => h (by have := e.2; omega))]⟩
  have hE_0_40_1 : ∀ j : Int, w_ei ws (w_ar ws (n_v vs 0) 40) j = w_ei w1 (w_ar ws (n_v vs 0) 40) j := el_kp s1.1 r12 cr_0_40 (by decide)
  have hE_0_40_2 : ∀ j : Int, w_ei w1 (w_ar ws (n_v vs 0) 40) j = w_ei w2 (w_ar ws (n_v vs 0) 40) j := el_kp s2.1 r9 cr_0_40 (by decide)
  have hE_0_41_1 : ∀ j : Int, w_ei ws (w_ar ws (n_v vs 0) 41) j = w_ei w1 (w_ar ws (n_v vs 0) 41) j := el_kp s1.1 r12 cr_0_41 (by decide)
  have hE_0_41_2 : ∀ j : Int, w_ei w1 (w_ar ws (n_v vs 0) 41) j = w_ei w2 (w_ar ws (n_v vs 0) 41) j := el_kp s2.1 r9 cr_0_41 (by decide)
  have kz_0_31 := fdq_145 hD hth r0
  have kz_0_32 := fdq_140 hD hth r0
  have kz_0_39 := fdq_135 hD hth r0
  have nf0 : fc_1 PRD (20, [3, 5, 4, 6, 7], [60, 3, 8, 179, 31, 32, 39, 33, 34, 35, 17, 40, 41, 36, 37]) ws (vs) := by
    refine ⟨nf_in hl rfl, sgq_1481 ?_⟩
    · show TRA (w_fi ws (n_v vs 3) 31) (w_fi ws (n_v vs 3) 32) (w_fi ws (n_v vs 3) 39) (w_ei ws (w_ar ws (n_v vs 3) 33)) (w_ei ws (w_ar ws (n_v vs 3) 34)) (w_ei ws (w_ar ws (n_v vs 3) 35)) (w_ei ws (w_ar ws (n_v vs 3) 17)) (w_ei ws (w_ar ws (n_v vs 3) 40)) (w_ei ws (w_ar ws (n_v vs 3) 41)) (w_ei ws (w_ar ws (n_v vs 3) 36)) (w_ei ws (w_ar ws (n_v vs 3) 37)) (v_iv (n_v vs 5)) (v_iv (n_v vs 4)) (v_iv (n_v vs 6)) (v_iv (n_v vs 7))
      simp only [q3, q4, q5]
      exact vc_Mo_turnRound_7_0 (v_iv (n_v vs 1)) (v_iv (n_v vs 2)) (v_iv (n_v vs 4)) (v_iv (n_v vs 6)) (v_iv (n_v vs 7)) (v_iv (n_v vs 11)) (v_iv (n_v vs 13)) (v_iv (n_v vs 14)) (v_iv (n_v vs 15)) (v_iv (n_v vs 17)) (w_ei ws (w_ar ws (n_v vs 0) 33)) (w_ei ws (w_ar ws (n_v vs 0) 34)) (w_fi ws (n_v vs 0) 31) (w_fi ws (n_v vs 0) 32) (w_ei ws (w_ar ws (n_v vs 0) 35)) (w_ei ws (w_ar ws (n_v vs 0) 17)) (w_ei ws (w_ar ws (n_v vs 0) 40)) (w_ei ws (w_ar ws (n_v vs 0) 41)) (w_fi ws (n_v vs 0) 39) (w_ei w1 (w_ar ws (n_v vs 0) 36)) (w_ei w1 (w_ar ws (n_v vs 0) 33)) (w_ei w1 (w_ar ws (n_v vs 0) 34)) (w_fi w1 (n_v vs 0) 31) (w_fi w1 (n_v vs 0) 32) (w_ei w1 (w_ar ws (n_v vs 0) 35)) (w_ei w1 (w_ar ws (n_v vs 0) 17)) (w_ei w1 (w_ar ws (n_v vs 0) 40)) (w_ei w1 (w_ar ws (n_v vs 0) 41)) (w_fi w1 (n_v vs 0) 39) (w_ei w2 (w_ar ws (n_v vs 0) 36)) (w_ei w2 (w_ar ws (n_v vs 0) 33)) (w_ei w2 (w_ar ws (n_v vs 0) 34)) (w_fi w2 (n_v vs 0) 31) (w_fi w2 (n_v vs 0) 32) (w_ei w2 (w_ar ws (n_v vs 0) 35)) (w_ei w2 (w_ar ws (n_v vs 0) 17)) (w_ei w2 (w_ar ws (n_v vs 0) 40)) (w_ei w2 (w_ar ws (n_v vs 0) 41)) (w_fi w2 (n_v vs 0) 39) (w_ei w2 (w_ar ws (n_v vs 0) 37)) (w_ei ws (w_ar ws (n_v vs 0) 36)) (w_ei ws (w_ar ws (n_v vs 0) 37)) (w_ei w1 (w_ar ws (n_v vs 0) 37)) k1 k2 k4 k6 k7 k11 k13 k14 k15 k17 d0 d3 d5 f3 h9 f17 h18 f19 f25 fe_0_31_1 fe_0_32_1 fe_0_39_1 fe_0_31_2 fe_0_32_2 fe_0_39_2 hE_0_17_1 hE_0_17_2 hE_0_33_1 hE_0_33_2 hE_0_34_1 hE_0_34_2 hE_0_35_1 hE_0_35_2 hE_0_36_1 hE_0_36_2 hE_0_37_1 hE_0_37_2 hE_0_40_1 hE_0_40_2 hE_0_41_1 hE_0_41_2 kz_0_31 kz_0_32 kz_0_39
  refine ⟨(fun _ h => (by cases h)), [], trivial, ?_, (fun _ h => (by cases h))⟩
  rw [List.append_nil]
  exact List.forall_mem_cons.mpr ⟨⟨show (20 : Nat) < 100 from by decide, nf0⟩, (fun _ h => (by cases h))⟩
set_option maxHeartbeats 4000000 in
theorem vc_Mo_turnRound_8_0 (faces_0 : Int) (pt_0 : Int → Int) (ph_0 : Int → Int) (alive_0 : Int → Int) (blockOf_0 : Int → Int) (faceMany_0 : Int → Int) (face_0 : Int → Int) (rot_0 : Int → Int) (pn_0 : Int) (pm_0 : Int) (rotMany_1 : Int → Int) (pt_1 : Int → Int) (ph_1 : Int → Int) (pn_1 : Int) (pm_1 : Int) (alive_1 : Int → Int) (blockOf_1 : Int → Int) (faceMany_1 : Int → Int) (face_1 : Int → Int) (faces_1 : Int) (rotMany_2 : Int → Int) (pt_2 : Int → Int) (ph_2 : Int → Int) (pn_2 : Int) (pm_2 : Int) (alive_2 : Int → Int) (blockOf_2 : Int → Int) (faceMany_2 : Int → Int) (face_2 : Int → Int) (faces_2 : Int) (rot_1 : Int → Int) (f24 : GOK (pn_2) (pm_2) (pt_2) (ph_2)) (fe_0_31_1 : pn_0 = pn_1) (fe_0_32_1 : pm_0 = pm_1) (fe_0_39_1 : faces_0 = faces_1) (fe_0_31_2 : pn_1 = pn_2) (fe_0_32_2 : pm_1 = pm_2) (fe_0_39_2 : faces_1 = faces_2) (hE_0_17_1 : ∀ j : Int, blockOf_0 j = blockOf_1 j) (hE_0_17_2 : ∀ j : Int, blockOf_1 j = blockOf_2 j) (hE_0_33_1 : ∀ j : Int, pt_0 j = pt_1 j) (hE_0_33_2 : ∀ j : Int, pt_1 j = pt_2 j) (hE_0_34_1 : ∀ j : Int, ph_0 j = ph_1 j) (hE_0_34_2 : ∀ j : Int, ph_1 j = ph_2 j) (hE_0_35_1 : ∀ j : Int, alive_0 j = alive_1 j) (hE_0_35_2 : ∀ j : Int, alive_1 j = alive_2 j) (hE_0_36_2 : ∀ j : Int, rotMany_1 j = rotMany_2 j) (hE_0_37_1 : ∀ j : Int, rot_0 j = rot_1 j) (hE_0_40_1 : ∀ j : Int, faceMany_0 j = faceMany_1 j) (hE_0_40_2 : ∀ j : Int, faceMany_1 j = faceMany_2 j) (hE_0_41_1 : ∀ j : Int, face_0 j = face_1 j) (hE_0_41_2 : ∀ j : Int, face_1 j = face_2 j) (kz_0_31 : 0 ≤ pn_0 ∧ pn_0 ≤ 25) (kz_0_32 : 0 ≤ pm_0 ∧ pm_0 ≤ 80) (kz_0_39 : 0 ≤ faces_0 ∧ faces_0 ≤ 120) : GOK (pn_0) (pm_0) (pt_0) (ph_0) := by
  subst fe_0_31_1
  subst fe_0_32_1
  subst fe_0_39_1
  subst fe_0_31_2
  subst fe_0_32_2
  subst fe_0_39_2
  have e_hE_0_17_1 := funext hE_0_17_1; subst e_hE_0_17_1
  have e_hE_0_17_2 := funext hE_0_17_2; subst e_hE_0_17_2
  have e_hE_0_33_1 := funext hE_0_33_1; subst e_hE_0_33_1
  have e_hE_0_33_2 := funext hE_0_33_2; subst e_hE_0_33_2
  have e_hE_0_34_1 := funext hE_0_34_1; subst e_hE_0_34_1
  have e_hE_0_34_2 := funext hE_0_34_2; subst e_hE_0_34_2
  have e_hE_0_35_1 := funext hE_0_35_1; subst e_hE_0_35_1
  have e_hE_0_35_2 := funext hE_0_35_2; subst e_hE_0_35_2
  have e_hE_0_36_2 := funext hE_0_36_2; subst e_hE_0_36_2
  have e_hE_0_37_1 := funext hE_0_37_1; subst e_hE_0_37_1
  have e_hE_0_40_1 := funext hE_0_40_1; subst e_hE_0_40_1
  have e_hE_0_40_2 := funext hE_0_40_2; subst e_hE_0_40_2
  have e_hE_0_41_1 := funext hE_0_41_1; subst e_hE_0_41_1
  have e_hE_0_41_2 := funext hE_0_41_2; subst e_hE_0_41_2
  first | assumption
set_option maxHeartbeats 4000000 in
theorem vc_Mo_turnRound_8_1 (x2 : Int) (faces_0 : Int) (pt_0 : Int → Int) (ph_0 : Int → Int) (alive_0 : Int → Int) (blockOf_0 : Int → Int) (faceMany_0 : Int → Int) (face_0 : Int → Int) (rot_0 : Int → Int) (pn_0 : Int) (pm_0 : Int) (rotMany_1 : Int → Int) (pt_1 : Int → Int) (ph_1 : Int → Int) (pn_1 : Int) (pm_1 : Int) (alive_1 : Int → Int) (blockOf_1 : Int → Int) (faceMany_1 : Int → Int) (face_1 : Int → Int) (faces_1 : Int) (rotMany_2 : Int → Int) (pt_2 : Int → Int) (ph_2 : Int → Int) (pn_2 : Int) (pm_2 : Int) (alive_2 : Int → Int) (blockOf_2 : Int → Int) (faceMany_2 : Int → Int) (face_2 : Int → Int) (faces_2 : Int) (rot_1 : Int → Int) (k2 : 0 ≤ x2 ∧ x2 ≤ 79) (f25 : DRB (pm_2) (faces_2) (pt_2) (ph_2) (alive_2) (blockOf_2) (faceMany_2) (face_2) (x2)) (fe_0_31_1 : pn_0 = pn_1) (fe_0_32_1 : pm_0 = pm_1) (fe_0_39_1 : faces_0 = faces_1) (fe_0_31_2 : pn_1 = pn_2) (fe_0_32_2 : pm_1 = pm_2) (fe_0_39_2 : faces_1 = faces_2) (hE_0_17_1 : ∀ j : Int, blockOf_0 j = blockOf_1 j) (hE_0_17_2 : ∀ j : Int, blockOf_1 j = blockOf_2 j) (hE_0_33_1 : ∀ j : Int, pt_0 j = pt_1 j) (hE_0_33_2 : ∀ j : Int, pt_1 j = pt_2 j) (hE_0_34_1 : ∀ j : Int, ph_0 j = ph_1 j) (hE_0_34_2 : ∀ j : Int, ph_1 j = ph_2 j) (hE_0_35_1 : ∀ j : Int, alive_0 j = alive_1 j) (hE_0_35_2 : ∀ j : Int, alive_1 j = alive_2 j) (hE_0_36_2 : ∀ j : Int, rotMany_1 j = rotMany_2 j) (hE_0_37_1 : ∀ j : Int, rot_0 j = rot_1 j) (hE_0_40_1 : ∀ j : Int, faceMany_0 j = faceMany_1 j) (hE_0_40_2 : ∀ j : Int, faceMany_1 j = faceMany_2 j) (hE_0_41_1 : ∀ j : Int, face_0 j = face_1 j) (hE_0_41_2 : ∀ j : Int, face_1 j = face_2 j) (kz_0_31 : 0 ≤ pn_0 ∧ pn_0 ≤ 25) (kz_0_32 : 0 ≤ pm_0 ∧ pm_0 ≤ 80) (kz_0_39 : 0 ≤ faces_0 ∧ faces_0 ≤ 120) : DRB (pm_0) (faces_0) (pt_0) (ph_0) (alive_0) (blockOf_0) (faceMany_0) (face_0) (x2) := by
  subst fe_0_31_1
  subst fe_0_32_1
  subst fe_0_39_1
  subst fe_0_31_2
  subst fe_0_32_2
  subst fe_0_39_2
  have e_hE_0_17_1 := funext hE_0_17_1; subst e_hE_0_17_1
  have e_hE_0_17_2 := funext hE_0_17_2; subst e_hE_0_17_2
  have e_hE_0_33_1 := funext hE_0_33_1; subst e_hE_0_33_1
  have e_hE_0_33_2 := funext hE_0_33_2; subst e_hE_0_33_2
  have e_hE_0_34_1 := funext hE_0_34_1; subst e_hE_0_34_1
  have e_hE_0_34_2 := funext hE_0_34_2; subst e_hE_0_34_2
  have e_hE_0_35_1 := funext hE_0_35_1; subst e_hE_0_35_1
  have e_hE_0_35_2 := funext hE_0_35_2; subst e_hE_0_35_2
  have e_hE_0_36_2 := funext hE_0_36_2; subst e_hE_0_36_2
  have e_hE_0_37_1 := funext hE_0_37_1; subst e_hE_0_37_1
  have e_hE_0_40_1 := funext hE_0_40_1; subst e_hE_0_40_1
  have e_hE_0_40_2 := funext hE_0_40_2; subst e_hE_0_40_2
  have e_hE_0_41_1 := funext hE_0_41_1; subst e_hE_0_41_1
  have e_hE_0_41_2 := funext hE_0_41_2; subst e_hE_0_41_2
  first | assumption
set_option maxHeartbeats 4000000 in
theorem vc_Mo_turnRound_8_2 (faces_0 : Int) (pt_0 : Int → Int) (ph_0 : Int → Int) (alive_0 : Int → Int) (blockOf_0 : Int → Int) (faceMany_0 : Int → Int) (face_0 : Int → Int) (rot_0 : Int → Int) (pn_0 : Int) (pm_0 : Int) (rotMany_1 : Int → Int) (pt_1 : Int → Int) (ph_1 : Int → Int) (pn_1 : Int) (pm_1 : Int) (alive_1 : Int → Int) (blockOf_1 : Int → Int) (faceMany_1 : Int → Int) (face_1 : Int → Int) (faces_1 : Int) (rotMany_2 : Int → Int) (pt_2 : Int → Int) (ph_2 : Int → Int) (pn_2 : Int) (pm_2 : Int) (alive_2 : Int → Int) (blockOf_2 : Int → Int) (faceMany_2 : Int → Int) (face_2 : Int → Int) (faces_2 : Int) (rot_1 : Int → Int) (f26 : FMB (faces_2) (faceMany_2)) (fe_0_31_1 : pn_0 = pn_1) (fe_0_32_1 : pm_0 = pm_1) (fe_0_39_1 : faces_0 = faces_1) (fe_0_31_2 : pn_1 = pn_2) (fe_0_32_2 : pm_1 = pm_2) (fe_0_39_2 : faces_1 = faces_2) (hE_0_17_1 : ∀ j : Int, blockOf_0 j = blockOf_1 j) (hE_0_17_2 : ∀ j : Int, blockOf_1 j = blockOf_2 j) (hE_0_33_1 : ∀ j : Int, pt_0 j = pt_1 j) (hE_0_33_2 : ∀ j : Int, pt_1 j = pt_2 j) (hE_0_34_1 : ∀ j : Int, ph_0 j = ph_1 j) (hE_0_34_2 : ∀ j : Int, ph_1 j = ph_2 j) (hE_0_35_1 : ∀ j : Int, alive_0 j = alive_1 j) (hE_0_35_2 : ∀ j : Int, alive_1 j = alive_2 j) (hE_0_36_2 : ∀ j : Int, rotMany_1 j = rotMany_2 j) (hE_0_37_1 : ∀ j : Int, rot_0 j = rot_1 j) (hE_0_40_1 : ∀ j : Int, faceMany_0 j = faceMany_1 j) (hE_0_40_2 : ∀ j : Int, faceMany_1 j = faceMany_2 j) (hE_0_41_1 : ∀ j : Int, face_0 j = face_1 j) (hE_0_41_2 : ∀ j : Int, face_1 j = face_2 j) (kz_0_31 : 0 ≤ pn_0 ∧ pn_0 ≤ 25) (kz_0_32 : 0 ≤ pm_0 ∧ pm_0 ≤ 80) (kz_0_39 : 0 ≤ faces_0 ∧ faces_0 ≤ 120) : FMB (faces_0) (faceMany_0) := by
  subst fe_0_31_1
  subst fe_0_32_1
  subst fe_0_39_1
  subst fe_0_31_2
  subst fe_0_32_2
  subst fe_0_39_2
  have e_hE_0_17_1 := funext hE_0_17_1; subst e_hE_0_17_1
  have e_hE_0_17_2 := funext hE_0_17_2; subst e_hE_0_17_2
  have e_hE_0_33_1 := funext hE_0_33_1; subst e_hE_0_33_1
  have e_hE_0_33_2 := funext hE_0_33_2; subst e_hE_0_33_2
  have e_hE_0_34_1 := funext hE_0_34_1; subst e_hE_0_34_1
  have e_hE_0_34_2 := funext hE_0_34_2; subst e_hE_0_34_2
  have e_hE_0_35_1 := funext hE_0_35_1; subst e_hE_0_35_1
  have e_hE_0_35_2 := funext hE_0_35_2; subst e_hE_0_35_2
  have e_hE_0_36_2 := funext hE_0_36_2; subst e_hE_0_36_2
  have e_hE_0_37_1 := funext hE_0_37_1; subst e_hE_0_37_1
  have e_hE_0_40_1 := funext hE_0_40_1; subst e_hE_0_40_1
  have e_hE_0_40_2 := funext hE_0_40_2; subst e_hE_0_40_2
  have e_hE_0_41_1 := funext hE_0_41_1; subst e_hE_0_41_1
  have e_hE_0_41_2 := funext hE_0_41_2; subst e_hE_0_41_2
  first | assumption
set_option maxHeartbeats 4000000 in
theorem vc_Mo_turnRound_8_3 (x1 : Int) (x17 : Int) (faces_0 : Int) (pt_0 : Int → Int) (ph_0 : Int → Int) (alive_0 : Int → Int) (blockOf_0 : Int → Int) (faceMany_0 : Int → Int) (face_0 : Int → Int) (rotMany_0 : Int → Int) (rot_0 : Int → Int) (pn_0 : Int) (pm_0 : Int) (rotMany_1 : Int → Int) (pt_1 : Int → Int) (ph_1 : Int → Int) (pn_1 : Int) (pm_1 : Int) (alive_1 : Int → Int) (blockOf_1 : Int → Int) (faceMany_1 : Int → Int) (face_1 : Int → Int) (faces_1 : Int) (rotMany_2 : Int → Int) (pt_2 : Int → Int) (ph_2 : Int → Int) (pn_2 : Int) (pm_2 : Int) (alive_2 : Int → Int) (blockOf_2 : Int → Int) (faceMany_2 : Int → Int) (face_2 : Int → Int) (faces_2 : Int) (rot_1 : Int → Int) (k1 : 0 ≤ x1 ∧ x1 ≤ 24) (k17 : 1 ≤ x17 ∧ x17 ≤ 80) (f27 : 1 * x1 + ((-1) * pn_2 + 0) ≤ (-1)) (fe_0_31_1 : pn_0 = pn_1) (fe_0_32_1 : pm_0 = pm_1) (fe_0_39_1 : faces_0 = faces_1) (fe_0_31_2 : pn_1 = pn_2) (fe_0_32_2 : pm_1 = pm_2) (fe_0_39_2 : faces_1 = faces_2) (hE_0_17_1 : ∀ j : Int, blockOf_0 j = blockOf_1 j) (hE_0_17_2 : ∀ j : Int, blockOf_1 j = blockOf_2 j) (hE_0_33_1 : ∀ j : Int, pt_0 j = pt_1 j) (hE_0_33_2 : ∀ j : Int, pt_1 j = pt_2 j) (hE_0_34_1 : ∀ j : Int, ph_0 j = ph_1 j) (hE_0_34_2 : ∀ j : Int, ph_1 j = ph_2 j) (hE_0_35_1 : ∀ j : Int, alive_0 j = alive_1 j) (hE_0_35_2 : ∀ j : Int, alive_1 j = alive_2 j) (hE_0_36_1 : ∀ j : Int, 0 ≤ j → (j = x1 → rotMany_0 j = x17) ∧ (j ≠ x1 → rotMany_0 j = rotMany_1 j)) (hE_0_36_2 : ∀ j : Int, rotMany_1 j = rotMany_2 j) (hE_0_37_1 : ∀ j : Int, rot_0 j = rot_1 j) (hE_0_40_1 : ∀ j : Int, faceMany_0 j = faceMany_1 j) (hE_0_40_2 : ∀ j : Int, faceMany_1 j = faceMany_2 j) (hE_0_41_1 : ∀ j : Int, face_0 j = face_1 j) (hE_0_41_2 : ∀ j : Int, face_1 j = face_2 j) (kz_0_31 : 0 ≤ pn_0 ∧ pn_0 ≤ 25) (kz_0_32 : 0 ≤ pm_0 ∧ pm_0 ≤ 80) (kz_0_39 : 0 ≤ faces_0 ∧ faces_0 ≤ 120) : 1 * x1 + ((-1) * pn_0 + 0) ≤ (-1) := by
  subst fe_0_31_1
  subst fe_0_32_1
  subst fe_0_39_1
  subst fe_0_31_2
  subst fe_0_32_2
  subst fe_0_39_2
  have e_hE_0_17_1 := funext hE_0_17_1; subst e_hE_0_17_1
  have e_hE_0_17_2 := funext hE_0_17_2; subst e_hE_0_17_2
  have e_hE_0_33_1 := funext hE_0_33_1; subst e_hE_0_33_1
  have e_hE_0_33_2 := funext hE_0_33_2; subst e_hE_0_33_2
  have e_hE_0_34_1 := funext hE_0_34_1; subst e_hE_0_34_1
  have e_hE_0_34_2 := funext hE_0_34_2; subst e_hE_0_34_2
  have e_hE_0_35_1 := funext hE_0_35_1; subst e_hE_0_35_1
  have e_hE_0_35_2 := funext hE_0_35_2; subst e_hE_0_35_2
  have e_hE_0_36_2 := funext hE_0_36_2; subst e_hE_0_36_2
  have e_hE_0_37_1 := funext hE_0_37_1; subst e_hE_0_37_1
  have e_hE_0_40_1 := funext hE_0_40_1; subst e_hE_0_40_1
  have e_hE_0_40_2 := funext hE_0_40_2; subst e_hE_0_40_2
  have e_hE_0_41_1 := funext hE_0_41_1; subst e_hE_0_41_1
  have e_hE_0_41_2 := funext hE_0_41_2; subst e_hE_0_41_2
  first
    | omega
    | (have v := (hE_0_36_1 x1 (by omega)).1 rfl
       omega)
set_option maxHeartbeats 4000000 in
theorem vc_Mo_turnRound_8_4 (x1 : Int) (x2 : Int) (x4 : Int) (x6 : Int) (x7 : Int) (x18 : Int) (faces_0 : Int) (pt_0 : Int → Int) (ph_0 : Int → Int) (alive_0 : Int → Int) (blockOf_0 : Int → Int) (faceMany_0 : Int → Int) (face_0 : Int → Int) (rotMany_0 : Int → Int) (rot_0 : Int → Int) (pn_0 : Int) (pm_0 : Int) (rotMany_1 : Int → Int) (pt_1 : Int → Int) (ph_1 : Int → Int) (pn_1 : Int) (pm_1 : Int) (alive_1 : Int → Int) (blockOf_1 : Int → Int) (faceMany_1 : Int → Int) (face_1 : Int → Int) (faces_1 : Int) (rotMany_2 : Int → Int) (pt_2 : Int → Int) (ph_2 : Int → Int) (pn_2 : Int) (pm_2 : Int) (alive_2 : Int → Int) (blockOf_2 : Int → Int) (faceMany_2 : Int → Int) (face_2 : Int → Int) (faces_2 : Int) (rot_1 : Int → Int) (k1 : 0 ≤ x1 ∧ x1 ≤ 24) (k2 : 0 ≤ x2 ∧ x2 ≤ 79) (k4 : 0 ≤ x4 ∧ x4 ≤ 24) (k6 : 0 ≤ x6 ∧ x6 ≤ 79) (k7 : 0 ≤ x7 ∧ x7 ≤ 79) (k18 : 0 ≤ x18 ∧ x18 ≤ 0) (d3 : x4 + (-4294967296) ≤ x1 ∧ x1 ≤ x4 + 0) (d5 : x1 + (-4294967296) ≤ x4 ∧ x4 ≤ x1 + 0) (g1 : x18 = faces_0) (f2 : TRA (pn_0) (pm_0) (faces_0) (pt_0) (ph_0) (alive_0) (blockOf_0) (faceMany_0) (face_0) (rotMany_0) (rot_0) (x2) (x1) (x6) (x7)) (f6 : 1 * x1 + ((-1) * pn_0 + 0) ≤ (-1)) (f24 : GOK (pn_2) (pm_2) (pt_2) (ph_2)) (f25 : DRB (pm_2) (faces_2) (pt_2) (ph_2) (alive_2) (blockOf_2) (faceMany_2) (face_2) (x2)) (fe_0_31_1 : pn_0 = pn_1) (fe_0_32_1 : pm_0 = pm_1) (fe_0_39_1 : faces_0 = faces_1) (fe_0_31_2 : pn_1 = pn_2) (fe_0_32_2 : pm_1 = pm_2) (fe_0_39_2 : faces_1 = faces_2) (hE_0_17_1 : ∀ j : Int, blockOf_0 j = blockOf_1 j) (hE_0_17_2 : ∀ j : Int, blockOf_1 j = blockOf_2 j) (hE_0_33_1 : ∀ j : Int, pt_0 j = pt_1 j) (hE_0_33_2 : ∀ j : Int, pt_1 j = pt_2 j) (hE_0_34_1 : ∀ j : Int, ph_0 j = ph_1 j) (hE_0_34_2 : ∀ j : Int, ph_1 j = ph_2 j) (hE_0_35_1 : ∀ j : Int, alive_0 j = alive_1 j) (hE_0_35_2 : ∀ j : Int, alive_1 j = alive_2 j) (hE_0_36_2 : ∀ j : Int, rotMany_1 j = rotMany_2 j) (hE_0_37_1 : ∀ j : Int, rot_0 j = rot_1 j) (hE_0_40_1 : ∀ j : Int, faceMany_0 j = faceMany_1 j) (hE_0_40_2 : ∀ j : Int, faceMany_1 j = faceMany_2 j) (hE_0_41_1 : ∀ j : Int, face_0 j = face_1 j) (hE_0_41_2 : ∀ j : Int, face_1 j = face_2 j) (kz_0_31 : 0 ≤ pn_0 ∧ pn_0 ≤ 25) (kz_0_32 : 0 ≤ pm_0 ∧ pm_0 ≤ 80) (kz_0_39 : 0 ≤ faces_0 ∧ faces_0 ≤ 120) : TRN (pn_0) (pm_0) (faces_0) (pt_0) (ph_0) (alive_0) (blockOf_0) (faceMany_0) (face_0) (rotMany_0) (rot_0) (x2) (x1) (x6) (x7) := by
  subst fe_0_31_1
  subst fe_0_32_1
  subst fe_0_39_1
  subst fe_0_31_2
  subst fe_0_32_2
  subst fe_0_39_2
  have e_hE_0_17_1 := funext hE_0_17_1; subst e_hE_0_17_1
  have e_hE_0_17_2 := funext hE_0_17_2; subst e_hE_0_17_2
  have e_hE_0_33_1 := funext hE_0_33_1; subst e_hE_0_33_1
  have e_hE_0_33_2 := funext hE_0_33_2; subst e_hE_0_33_2
  have e_hE_0_34_1 := funext hE_0_34_1; subst e_hE_0_34_1
  have e_hE_0_34_2 := funext hE_0_34_2; subst e_hE_0_34_2
  have e_hE_0_35_1 := funext hE_0_35_1; subst e_hE_0_35_1
  have e_hE_0_35_2 := funext hE_0_35_2; subst e_hE_0_35_2
  have e_hE_0_36_2 := funext hE_0_36_2; subst e_hE_0_36_2
  have e_hE_0_37_1 := funext hE_0_37_1; subst e_hE_0_37_1
  have e_hE_0_40_1 := funext hE_0_40_1; subst e_hE_0_40_1
  have e_hE_0_40_2 := funext hE_0_40_2; subst e_hE_0_40_2
  have e_hE_0_41_1 := funext hE_0_41_1; subst e_hE_0_41_1
  have e_hE_0_41_2 := funext hE_0_41_2; subst e_hE_0_41_2
  first
    | exact trn_0 ‹GOK _ _ _ _› (by omega) (by omega) ‹DRB _ _ _ _ _ _ _ _ _› ‹TRA _ _ _ _ _ _ _ _ _ _ _ _ _ _ _› (by omega)
set_option maxHeartbeats 4000000 in
theorem vc_Mo_turnRound_8_5 (x1 : Int) (x4 : Int) (x8 : Int) (x15 : Int) (x17 : Int) (faces_0 : Int) (pt_0 : Int → Int) (ph_0 : Int → Int) (alive_0 : Int → Int) (blockOf_0 : Int → Int) (faceMany_0 : Int → Int) (face_0 : Int → Int) (rotMany_0 : Int → Int) (rot_0 : Int → Int) (pn_0 : Int) (pm_0 : Int) (rotMany_1 : Int → Int) (pt_1 : Int → Int) (ph_1 : Int → Int) (pn_1 : Int) (pm_1 : Int) (alive_1 : Int → Int) (blockOf_1 : Int → Int) (faceMany_1 : Int → Int) (face_1 : Int → Int) (faces_1 : Int) (rotMany_2 : Int → Int) (pt_2 : Int → Int) (ph_2 : Int → Int) (pn_2 : Int) (pm_2 : Int) (alive_2 : Int → Int) (blockOf_2 : Int → Int) (faceMany_2 : Int → Int) (face_2 : Int → Int) (faces_2 : Int) (rot_1 : Int → Int) (gx : Int) (k1 : 0 ≤ x1 ∧ x1 ≤ 24) (k4 : 0 ≤ x4 ∧ x4 ≤ 24) (k8 : (-2) ≤ x8 ∧ x8 ≤ 81) (k15 : 0 ≤ x15 ∧ x15 ≤ 79) (k17 : 1 ≤ x17 ∧ x17 ≤ 80) (d0 : x15 + 1 ≤ x17 ∧ x17 ≤ x15 + 1) (d3 : x4 + (-4294967296) ≤ x1 ∧ x1 ≤ x4 + 0) (d5 : x1 + (-4294967296) ≤ x4 ∧ x4 ≤ x1 + 0) (h12 : x15 = rotMany_1 (x1)) (f18 : (-1) * rotMany_1 (x1) + ((-1) * x8 + 0) ≤ (-80)) (fe_0_31_1 : pn_0 = pn_1) (fe_0_32_1 : pm_0 = pm_1) (fe_0_39_1 : faces_0 = faces_1) (fe_0_31_2 : pn_1 = pn_2) (fe_0_32_2 : pm_1 = pm_2) (fe_0_39_2 : faces_1 = faces_2) (hE_0_17_1 : ∀ j : Int, blockOf_0 j = blockOf_1 j) (hE_0_17_2 : ∀ j : Int, blockOf_1 j = blockOf_2 j) (hE_0_33_1 : ∀ j : Int, pt_0 j = pt_1 j) (hE_0_33_2 : ∀ j : Int, pt_1 j = pt_2 j) (hE_0_34_1 : ∀ j : Int, ph_0 j = ph_1 j) (hE_0_34_2 : ∀ j : Int, ph_1 j = ph_2 j) (hE_0_35_1 : ∀ j : Int, alive_0 j = alive_1 j) (hE_0_35_2 : ∀ j : Int, alive_1 j = alive_2 j) (hE_0_36_1 : ∀ j : Int, 0 ≤ j → (j = x1 → rotMany_0 j = x17) ∧ (j ≠ x1 → rotMany_0 j = rotMany_1 j)) (hE_0_36_2 : ∀ j : Int, rotMany_1 j = rotMany_2 j) (hE_0_37_1 : ∀ j : Int, rot_0 j = rot_1 j) (hE_0_40_1 : ∀ j : Int, faceMany_0 j = faceMany_1 j) (hE_0_40_2 : ∀ j : Int, faceMany_1 j = faceMany_2 j) (hE_0_41_1 : ∀ j : Int, face_0 j = face_1 j) (hE_0_41_2 : ∀ j : Int, face_1 j = face_2 j) (kz_0_31 : 0 ≤ pn_0 ∧ pn_0 ≤ 25) (kz_0_32 : 0 ≤ pm_0 ∧ pm_0 ≤ 80) (kz_0_39 : 0 ≤ faces_0 ∧ faces_0 ≤ 120) (ex2 : gx = 0 + (1 * x8 + 0)) : (-1) * rotMany_0 (x1) + ((-1) * gx + 0) ≤ (-81) := by
  subst fe_0_31_1
  subst fe_0_32_1
  subst fe_0_39_1
  subst fe_0_31_2
  subst fe_0_32_2
  subst fe_0_39_2
  have e_hE_0_17_1 := funext hE_0_17_1; subst e_hE_0_17_1
  have e_hE_0_17_2 := funext hE_0_17_2; subst e_hE_0_17_2
  have e_hE_0_33_1 := funext hE_0_33_1; subst e_hE_0_33_1
  have e_hE_0_33_2 := funext hE_0_33_2; subst e_hE_0_33_2
  have e_hE_0_34_1 := funext hE_0_34_1; subst e_hE_0_34_1
  have e_hE_0_34_2 := funext hE_0_34_2; subst e_hE_0_34_2
  have e_hE_0_35_1 := funext hE_0_35_1; subst e_hE_0_35_1
  have e_hE_0_35_2 := funext hE_0_35_2; subst e_hE_0_35_2
  have e_hE_0_36_2 := funext hE_0_36_2; subst e_hE_0_36_2
  have e_hE_0_37_1 := funext hE_0_37_1; subst e_hE_0_37_1
  have e_hE_0_40_1 := funext hE_0_40_1; subst e_hE_0_40_1
  have e_hE_0_40_2 := funext hE_0_40_2; subst e_hE_0_40_2
  have e_hE_0_41_1 := funext hE_0_41_1; subst e_hE_0_41_1
  have e_hE_0_41_2 := funext hE_0_41_2; subst e_hE_0_41_2
  first
    | omega
    | (have v := (hE_0_36_1 x1 (by omega)).1 rfl
       omega)
def o_Mo_turnRound_8 : or_T := (107, 19, [(0, (2, 0, 0, [165])), (1, (0, 0, 24, [])), (2, (0, 0, 79, [])), (3, (2, 0, 0, [165])), (4, (0, 0, 24, [])), (5, (0, 0, 79, [])), (6, (0, 0, 79, [])), (7, (0, 0, 79, [])), (8, (0, -2, 81, [])), (9, (2, 0, 0, [184])), (10, (0, 80, 80, [])), (11, (0, 0, 1920, [])), (12, (2, 0, 0, [183])), (13, (0, 0, 80, [])), (14, (0, 0, 2000, [])), (15, (0, 0, 79, [])), (16, (0, 1, 1, [])), (17, (0, 1, 80, [])), (18, (0, 0, 0, []))], [(8, [18], [5]), (9, [18, 3], [39]), (20, [3, 5, 4, 6, 7], [60, 3, 8, 179, 31, 32, 39, 33, 34, 35, 17, 40, 41, 36, 37]), (20, [3], [60, 2, 2, 75, 31, 32, 33, 34]), (20, [3, 5], [60, 2, 6, 175, 32, 39, 33, 34, 35, 17, 40, 41]), (20, [3], [60, 1, 1, 170, 39, 40]), (20, [4, 3], [30, -1, 1, 0, 0, -1, 1, 31]), (24, [0, 3], []), (24, [1, 4], []), (24, [2, 5], []), (100, [12, 4, 17], []), (1, [17, 15, 16], []), (10, [15, 12, 4], []), (9, [12, 3], [36]), (20, [3], [60, 2, 2, 75, 31, 32, 33, 34]), (20, [3, 5], [60, 2, 6, 175, 32, 39, 33, 34, 35, 17, 40, 41]), (20, [3], [60, 1, 1, 170, 39, 40]), (20, [4, 3], [30, -1, 1, 0, 0, -1, 1, 31]), (20, [3, 4, 8], [30, -80, -1, 2, 36, -1, 0, 0]), (100, [9, 14, 7], []), (1, [14, 11, 13], []), (10, [13, 12, 4], []), (3, [11, 10, 4], []), (9, [9, 3], [37]), (20, [3], [60, 2, 2, 75, 31, 32, 33, 34]), (20, [3, 5], [60, 2, 6, 175, 32, 39, 33, 34, 35, 17, 40, 41]), (20, [3], [60, 1, 1, 170, 39, 40]), (20, [4, 3], [30, -1, 1, 0, 0, -1, 1, 31]), (20, [3, 5, 4, 6, 7], [60, 3, 8, 178, 31, 32, 39, 33, 34, 35, 17, 40, 41, 36, 37]), (20, [3, 4, 8], [30, -80, -1, 2, 36, -1, 0, 0])], [], [(0, -2, 81, [])], [(20, [3], [60, 2, 2, 75, 31, 32, 33, 34]), (20, [3, 5], [60, 2, 6, 175, 32, 39, 33, 34, 35, 17, 40, 41]), (20, [3], [60, 1, 1, 170, 39, 40]), (20, [4, 3], [30, -1, 1, 0, 0, -1, 1, 31]), (20, [3, 5, 4, 6, 7], [60, 3, 8, 180, 31, 32, 39, 33, 34, 35, 17, 40, 41, 36, 37]), (20, [3, 4, 19], [30, -81, -1, 2, 36, -1, 0, 0]), (24, [0, 3], []), (24, [1, 4], []), (24, [2, 5], [])], [(19, 8, 0, 0)], [(17, 15, 1, 1), (14, 13, 0, 1920), (14, 11, 0, 80), (1, 4, -4294967296, 0), (2, 5, -4294967296, 0), (4, 1, -4294967296, 0), (5, 2, -4294967296, 0)])
theorem oo_Mo_turnRound_8 {kA : Nat → ClassId} : or_ok PRD kA GG o_Mo_turnRound_8 := by
  refine or_mk fun A ta ws vs hD hth hl => ?_
  intro t0 r0 t1 k1 t2 k2 t3 r3 t4 k4 t5 k5 t6 k6 t7 k7 t8 k8 t9 r9 t10 k10 t11 k11 t12 r12 t13 k13 t14 k14 t15 k15 t16 k16 t17 k17 t18 k18 d0 d1 d2 d3 d4 d5 d6 f0 f1 f2 f3 f4 f5 f6 f7 f8 f9 ta1 w1 le1 s1 f11 f12 f13 f14 f15 f16 f17 f18 ta2 w2 le2 s2 f20 f21 f22 f23 f24 f25 f26 f27 f28 f29
  replace f0 := shm_295 f0
  replace f1 := shm_516 f1
  replace f2 := shm_1481 f2
  replace f3 := shm_575 f3
  replace f4 := shm_1474 f4
  replace f5 := shm_513 f5
  replace f6 := shm_553 f6
  replace f7 := shm_5 f7
  replace f8 := shm_5 f8
  replace f9 := shm_5 f9
  have s1 : (∀ b j, w_el ws b j = if b = v_ad (n_v vs 12) ∧ j = (v_iv (n_v vs 4)).toNat then v_iv (n_v vs 17) else w_el w1 b j) ∧ ∀ b k, w_fd ws b k = w_fd w1 b k := s1.2
  replace f11 := shm_12 f11
  replace f12 := shm_107 f12
  replace f13 := shm_684 f13
  replace f14 := shm_575 f14
  replace f15 := shm_1474 f15
  replace f16 := shm_513 f16
  replace f17 := shm_553 f17
  replace f18 := shm_1478 f18
  have s2 : (∀ b j, w_el w1 b j = if b = v_ad (n_v vs 9) ∧ j = (v_iv (n_v vs 14)).toNat then v_iv (n_v vs 7) else w_el w2 b j) ∧ ∀ b k, w_fd w1 b k = w_fd w2 b k := s2.2
  replace f20 := shm_12 f20
  replace f21 := shm_107 f21
  replace f22 := shm_38 f22
  rw [show v_iv (n_v vs 10) = 80 from by omega] at f22
  replace f23 := shm_687 f23
  replace f24 := shm_575 f24
  replace f25 := shm_1474 f25
  replace f26 := shm_513 f26
  replace f27 := shm_553 f27
  replace f28 := shm_1480 f28
  replace f29 := shm_1478 f29
  have q3 : n_v vs 3 = n_v vs 0 := f7.symm
  have q4 : n_v vs 4 = n_v vs 1 := f8.symm
  have q5 : n_v vs 5 = n_v vs 2 := f9.symm
  simp only [q3, q4, q5] at f1 f2 f3 f4 f5 f6
  rw [q4] at s1
  simp only [q4, q3, q5] at f12 f13 f14 f15 f16 f17 f18 f21 f22 f23 f24 f25 f26 f27 f28 f29
  have ar_0_17_1 : w_ar w1 (n_v vs 0) 17 = w_ar ws (n_v vs 0) 17 := congrArg v_ad (s1.2 _ _).symm
  have ar_0_17_2 : w_ar w2 (n_v vs 0) 17 = w_ar ws (n_v vs 0) 17 := by rw [← ar_0_17_1]; show v_ad (w_fd w2 _ _) = v_ad (w_fd w1 _ _); rw [s2.2]
  have cr_0_17 := fdq_189 hD hth r0
  have ar_0_33_1 : w_ar w1 (n_v vs 0) 33 = w_ar ws (n_v vs 0) 33 := congrArg v_ad (s1.2 _ _).symm
  have ar_0_33_2 : w_ar w2 (n_v vs 0) 33 = w_ar ws (n_v vs 0) 33 := by rw [← ar_0_33_1]; show v_ad (w_fd w2 _ _) = v_ad (w_fd w1 _ _); rw [s2.2]
  have cr_0_33 := fdq_117 hD hth r0
  have ar_0_34_1 : w_ar w1 (n_v vs 0) 34 = w_ar ws (n_v vs 0) 34 := congrArg v_ad (s1.2 _ _).symm
  have ar_0_34_2 : w_ar w2 (n_v vs 0) 34 = w_ar ws (n_v vs 0) 34 := by rw [← ar_0_34_1]; show v_ad (w_fd w2 _ _) = v_ad (w_fd w1 _ _); rw [s2.2]
  have cr_0_34 := fdq_118 hD hth r0
  have ar_0_35_1 : w_ar w1 (n_v vs 0) 35 = w_ar ws (n_v vs 0) 35 := congrArg v_ad (s1.2 _ _).symm
  have ar_0_35_2 : w_ar w2 (n_v vs 0) 35 = w_ar ws (n_v vs 0) 35 := by rw [← ar_0_35_1]; show v_ad (w_fd w2 _ _) = v_ad (w_fd w1 _ _); rw [s2.2]
  have cr_0_35 := fdq_132 hD hth r0
  have ar_0_36_1 : w_ar w1 (n_v vs 0) 36 = w_ar ws (n_v vs 0) 36 := congrArg v_ad (s1.2 _ _).symm
  have ar_0_36_2 : w_ar w2 (n_v vs 0) 36 = w_ar ws (n_v vs 0) 36 := by rw [← ar_0_36_1]; show v_ad (w_fd w2 _ _) = v_ad (w_fd w1 _ _); rw [s2.2]
  have cr_0_36 := fdq_167 hD hth r0
  have ar_0_37_1 : w_ar w1 (n_v vs 0) 37 = w_ar ws (n_v vs 0) 37 := congrArg v_ad (s1.2 _ _).symm
  have ar_0_37_2 : w_ar w2 (n_v vs 0) 37 = w_ar ws (n_v vs 0) 37 := by rw [← ar_0_37_1]; show v_ad (w_fd w2 _ _) = v_ad (w_fd w1 _ _); rw [s2.2]
  have cr_0_37 := fdq_168 hD hth r0
  have ar_0_40_1 : w_ar w1 (n_v vs 0) 40 = w_ar ws (n_v vs 0) 40 := congrArg v_ad (s1.2 _ _).symm
  have ar_0_40_2 : w_ar w2 (n_v vs 0) 40 = w_ar ws (n_v vs 0) 40 := by rw [← ar_0_40_1]; show v_ad (w_fd w2 _ _) = v_ad (w_fd w1 _ _); rw [s2.2]
  have cr_0_40 := fdq_133 hD hth r0
  have ar_0_41_1 : w_ar w1 (n_v vs 0) 41 = w_ar ws (n_v vs 0) 41 := congrArg v_ad (s1.2 _ _).symm
  have ar_0_41_2 : w_ar w2 (n_v vs 0) 41 = w_ar ws (n_v vs 0) 41 := by rw [← ar_0_41_1]; show v_ad (w_fd w2 _ _) = v_ad (w_fd w1 _ _); rw [s2.2]
  have cr_0_41 := fdq_134 hD hth r0
  have ad_12 : v_ad (n_v vs 12) = w_ar ws (n_v vs 0) 36 := (congrArg v_ad f13).trans ar_0_36_1
  have ad_9 : v_ad (n_v vs 9) = w_ar ws (n_v vs 0) 37 := (congrArg v_ad f23).trans ar_0_37_2
  have g1 : v_iv (n_v vs 18) = w_fi ws (n_v vs 0) 39 := congrArg v_iv f1
  simp only [ad_12] at f12
  have h12 : v_iv (n_v vs 15) = w_ei w1 (w_ar ws (n_v vs 0) 36) (v_iv (n_v vs 1)) := f12
  simp only [ar_0_33_1, ar_0_34_1, ar_0_17_1, ar_0_35_1, ar_0_40_1, ar_0_41_1, ar_0_36_1, ad_12] at f14 f15 f16 f18 f21
  have h21 : v_iv (n_v vs 13) = w_ei w2 (w_ar ws (n_v vs 0) 36) (v_iv (n_v vs 1)) := f21
  simp only [ar_0_33_2, ar_0_34_2, ar_0_17_2, ar_0_35_2, ar_0_40_2, ar_0_41_2, ar_0_36_2, ar_0_37_2] at f24 f25 f26 f28 f29
  have fe_0_31_1 : w_fi ws (n_v vs 0) 31 = w_fi w1 (n_v vs 0) 31 := congrArg v_iv (s1.2 _ _)
  have fe_0_32_1 : w_fi ws (n_v vs 0) 32 = w_fi w1 (n_v vs 0) 32 := congrArg v_iv (s1.2 _ _)
  have fe_0_39_1 : w_fi ws (n_v vs 0) 39 = w_fi w1 (n_v vs 0) 39 := congrArg v_iv (s1.2 _ _)
  have fe_0_31_2 : w_fi w1 (n_v vs 0) 31 = w_fi w2 (n_v vs 0) 31 := congrArg v_iv (s2.2 _ _)
  have fe_0_32_2 : w_fi w1 (n_v vs 0) 32 = w_fi w2 (n_v vs 0) 32 := congrArg v_iv (s2.2 _ _)
  have fe_0_39_2 : w_fi w1 (n_v vs 0) 39 = w_fi w2 (n_v vs 0) 39 := congrArg v_iv (s2.2 _ _)
  have hE_0_17_1 : ∀ j : Int, w_ei ws (w_ar ws (n_v vs 0) 17) j = w_ei w1 (w_ar ws (n_v vs 0) 17) j := el_kp s1.1 r12 cr_0_17 (by decide)
  have hE_0_17_2 : ∀ j : Int, w_ei w1 (w_ar ws (n_v vs 0) 17) j = w_ei w2 (w_ar ws (n_v vs 0) 17) j := el_kp s2.1 r9 cr_0_17 (by decide)
  have hK_0_17 := elq_113 hD hth cr_0_17
  have hE_0_33_1 : ∀ j : Int, w_ei ws (w_ar ws (n_v vs 0) 33) j = w_ei w1 (w_ar ws (n_v vs 0) 33) j := el_kp s1.1 r12 cr_0_33 (by decide)
  have hE_0_33_2 : ∀ j : Int, w_ei w1 (w_ar ws (n_v vs 0) 33) j = w_ei w2 (w_ar ws (n_v vs 0) 33) j := el_kp s2.1 r9 cr_0_33 (by decide)
  have hK_0_33 := elq_60 hD hth cr_0_33
  have hE_0_34_1 : ∀ j : Int, w_ei ws (w_ar ws (n_v vs 0) 34) j = w_ei w1 (w_ar ws (n_v vs 0) 34) j := el_kp s1.1 r12 cr_0_34 (by decide)
  have hE_0_34_2 : ∀ j : Int, w_ei w1 (w_ar ws (n_v vs 0) 34) j = w_ei w2 (w_ar ws (n_v vs 0) 34) j := el_kp s2.1 r9 cr_0_34 (by decide)
  have hK_0_34 := elq_61 hD hth cr_0_34
  have hE_0_35_1 : ∀ j : Int, w_ei ws (w_ar ws (n_v vs 0) 35) j = w_ei w1 (w_ar ws (n_v vs 0) 35) j := el_kp s1.1 r12 cr_0_35 (by decide)
  have hE_0_35_2 : ∀ j : Int, w_ei w1 (w_ar ws (n_v vs 0) 35) j = w_ei w2 (w_ar ws (n_v vs 0) 35) j := el_kp s2.1 r9 cr_0_35 (by decide)
  have hK_0_35 := elq_72 hD hth cr_0_35
  have hE_0_36_1 : ∀ j : Int, 0 ≤ j → (j = v_iv (n_v vs 1) → w_ei ws (w_ar ws (n_v vs 0) 36) j = v_iv (n_v vs 17)) ∧ (j ≠ v_iv (n_v vs 1) → w_ei ws (w_ar ws (n_v vs 0) 36) j = w_ei w1 (w_ar ws (n_v vs 0) 36) j) := fun j hj => ⟨fun h => by unfold w_ei; rw [s1.1, if_pos ⟨ad_12.symm, by rw [h]⟩], fun h => by unfold w_ei; rw [s1.1, if_neg (fun e => h (by have := e.2; omega))]⟩
  have hE_0_36_2 : ∀ j : Int, w_ei w1 (w_ar ws (n_v vs 0) 36) j = w_ei w2 (w_ar ws (n_v vs 0) 36) j := el_kp s2.1 r9 cr_0_36 (by decide)
  have hK_0_36 := elq_97 hD hth cr_0_36
  have hE_0_37_1 : ∀ j : Int, w_ei ws (w_ar ws (n_v vs 0) 37) j = w_ei w1 (w_ar ws (n_v vs 0) 37) j := el_kp s1.1 r12 cr_0_37 (by decide)
  have hE_0_37_2 : ∀ j : Int, 0 ≤ j → (j = v_iv (n_v vs 14) → w_ei w1 (w_ar ws (n_v vs 0) 37) j = v_iv (n_v vs 7)) ∧ (j ≠ v_iv (n_v vs 14) → w_ei w1 (w_ar ws (n_v vs 0) 37) j = w_ei w2 (w_ar ws (n_v vs 0) 37) j) := fun j hj => ⟨fun h => by unfold w_ei; rw [s2.1, if_pos ⟨ad_9.symm, by rw [h]⟩], fun h => by unfold w_ei; rw [s2.1, if_neg (fun e => h (by have := e.2; omega))]⟩
  have hK_0_37 := elq_98 hD hth cr_0_37
  have hE_0_40_1 : ∀ j : Int, w_ei ws (w_ar ws (n_v vs 0) 40) j = w_ei w1 (w_ar ws (n_v vs 0) 40) j := el_kp s1.1 r12 cr_0_40 (by decide)
  have hE_0_40_2 : ∀ j : Int, w_ei w1 (w_ar ws (n_v vs 0) 40) j = w_ei w2 (w_ar ws (n_v vs 0) 40) j := el_kp s2.1 r9 cr_0_40 (by decide)
  have hK_0_40 := elq_73 hD hth cr_0_40
  have hE_0_41_1 : ∀ j : Int, w_ei ws (w_ar ws (n_v vs 0) 41) j = w_ei w1 (w_ar ws (n_v vs 0) 41) j := el_kp s1.1 r12 cr_0_41 (by decide)
  have hE_0_41_2 : ∀ j : Int, w_ei w1 (w_ar ws (n_v vs 0) 41) j = w_ei w2 (w_ar ws (n_v vs 0) 41) j := el_kp s2.1 r9 cr_0_41 (by decide)
  have hK_0_41 := elq_74 hD hth cr_0_41
  have kz_0_31 := fdq_145 hD hth r0
  have kz_0_32 := fdq_140 hD hth r0
  have kz_0_39 := fdq_135 hD hth r0
  first | have hq36 := hK_0_36 (v_iv (n_v vs 4)) (by omega) (by omega) | skip
  first | have hq36L1 := (show 0 ≤ w_el ws (w_ar ws (n_v vs 0) 36) (v_iv (n_v vs 4)).toNat ∧ w_el ws (w_ar ws (n_v vs 0) 36) (v_iv (n_v vs 4)).toNat ≤ 80 from hK_0_36 (v_iv (n_v vs 4)) (by omega) (by omega)) | skip
  first | have hq36R1 := (show 0 ≤ w_el ws (w_ar ws (n_v vs 0) 36) (v_iv (n_v vs 1)).toNat ∧ w_el ws (w_ar ws (n_v vs 0) 36) (v_iv (n_v vs 1)).toNat ≤ 80 from hK_0_36 (v_iv (n_v vs 1)) (by omega) (by omega)) | skip
  obtain ⟨x, ex, hx⟩ := iv_ex (ta := ta) (lo := (-2)) (hi := 81) (z := 0 + (1 * v_iv (n_v vs 8) + 0)) (by omega) (by omega) (by omega) (by omega)
  have ex2 : v_iv (Value.int x) = 0 + (1 * v_iv (n_v vs 8) + 0) := ex
  have ex3 : (-2) ≤ v_iv (Value.int x) ∧ v_iv (Value.int x) ≤ 81 := tv_rng hx
  have e_0 : n_v (vs ++ [Value.int x]) 0 = n_v vs 0 := n_v_old (by rw [hl]; decide)
  have e_1 : n_v (vs ++ [Value.int x]) 1 = n_v vs 1 := n_v_old (by rw [hl]; decide)
  have e_2 : n_v (vs ++ [Value.int x]) 2 = n_v vs 2 := n_v_old (by rw [hl]; decide)
  have e_3 : n_v (vs ++ [Value.int x]) 3 = n_v vs 3 := n_v_old (by rw [hl]; decide)
  have e_4 : n_v (vs ++ [Value.int x]) 4 = n_v vs 4 := n_v_old (by rw [hl]; decide)
  have e_5 : n_v (vs ++ [Value.int x]) 5 = n_v vs 5 := n_v_old (by rw [hl]; decide)
  have e_6 : n_v (vs ++ [Value.int x]) 6 = n_v vs 6 := n_v_old (by rw [hl]; decide)
  have e_7 : n_v (vs ++ [Value.int x]) 7 = n_v vs 7 := n_v_old (by rw [hl]; decide)
  have e_19 : n_v (vs ++ [Value.int x]) 19 = Value.int x := n_v_new hl
  have nf0 : fc_1 PRD (20, [3], [60, 2, 2, 75, 31, 32, 33, 34]) ws (vs ++ [Value.int x]) := by
    refine ⟨nf_inA hl rfl, sgq_575 ?_⟩
    · show GOK (w_fi ws (n_v (vs ++ [Value.int x]) 3) 31) (w_fi ws (n_v (vs ++ [Value.int x]) 3) 32) (w_ei ws (w_ar ws (n_v (vs ++ [Value.int x]) 3) 33)) (w_ei ws (w_ar ws (n_v (vs ++ [Value.int x]) 3) 34))
      simp only [e_3, q3]
      exact vc_Mo_turnRound_8_0 (w_fi ws (n_v vs 0) 39) (w_ei ws (w_ar ws (n_v vs 0) 33)) (w_ei ws (w_ar ws (n_v vs 0) 34)) (w_ei ws (w_ar ws (n_v vs 0) 35)) (w_ei ws (w_ar ws (n_v vs 0) 17)) (w_ei ws (w_ar ws (n_v vs 0) 40)) (w_ei ws (w_ar ws (n_v vs 0) 41)) (w_ei ws (w_ar ws (n_v vs 0) 37)) (w_fi ws (n_v vs 0) 31) (w_fi ws (n_v vs 0) 32) (w_ei w1 (w_ar ws (n_v vs 0) 36)) (w_ei w1 (w_ar ws (n_v vs 0) 33)) (w_ei w1 (w_ar ws (n_v vs 0) 34)) (w_fi w1 (n_v vs 0) 31) (w_fi w1 (n_v vs 0) 32) (w_ei w1 (w_ar ws (n_v vs 0) 35)) (w_ei w1 (w_ar ws (n_v vs 0) 17)) (w_ei w1 (w_ar ws (n_v vs 0) 40)) (w_ei w1 (w_ar ws (n_v vs 0) 41)) (w_fi w1 (n_v vs 0) 39) (w_ei w2 (w_ar ws (n_v vs 0) 36)) (w_ei w2 (w_ar ws (n_v vs 0) 33)) (w_ei w2 (w_ar ws (n_v vs 0) 34)) (w_fi w2 (n_v vs 0) 31) (w_fi w2 (n_v vs 0) 32) (w_ei w2 (w_ar ws (n_v vs 0) 35)) (w_ei w2 (w_ar ws (n_v vs 0) 17)) (w_ei w2 (w_ar ws (n_v vs 0) 40)) (w_ei w2 (w_ar ws (n_v vs 0) 41)) (w_fi w2 (n_v vs 0) 39) (w_ei w1 (w_ar ws (n_v vs 0) 37)) f24 fe_0_31_1 fe_0_32_1 fe_0_39_1 fe_0_31_2 fe_0_32_2 fe_0_39_2 hE_0_17_1 hE_0_17_2 hE_0_33_1 hE_0_33_2 hE_0_34_1 hE_0_34_2 hE_0_35_1 hE_0_35_2 hE_0_36_2 hE_0_37_1 hE_0_40_1 hE_0_40_2 hE_0_41_1 hE_0_41_2 kz_0_31 kz_0_32 kz_0_39
  have nf1 : fc_1 PRD (20, [3, 5], [60, 2, 6, 175, 32, 39, 33, 34, 35, 17, 40, 41]) ws (vs ++ [Value.int x]) := by
    refine ⟨nf_inA hl rfl, sgq_1474 ?_⟩
    · show DRB (w_fi ws (n_v (vs ++ [Value.int x]) 3) 32) (w_fi ws (n_v (vs ++ [Value.int x]) 3) 39) (w_ei ws (w_ar ws (n_v (vs ++ [Value.int x]) 3) 33)) (w_ei ws (w_ar ws (n_v (vs ++ [Value.int x]) 3) 34)) (w_ei ws (w_ar ws (n_v (vs ++ [Value.int x]) 3) 35)) (w_ei ws (w_ar ws (n_v (vs ++ [Value.int x]) 3) 17)) (w_ei ws (w_ar ws (n_v (vs ++ [Value.int x]) 3) 40)) (w_ei ws (w_ar ws (n_v (vs ++ [Value.int x]) 3) 41)) (v_iv (n_v (vs ++ [Value.int x]) 5))
      simp only [e_3, e_5, q3, q5]
      exact vc_Mo_turnRound_8_1 (v_iv (n_v vs 2)) (w_fi ws (n_v vs 0) 39) (w_ei ws (w_ar ws (n_v vs 0) 33)) (w_ei ws (w_ar ws (n_v vs 0) 34)) (w_ei ws (w_ar ws (n_v vs 0) 35)) (w_ei ws (w_ar ws (n_v vs 0) 17)) (w_ei ws (w_ar ws (n_v vs 0) 40)) (w_ei ws (w_ar ws (n_v vs 0) 41)) (w_ei ws (w_ar ws (n_v vs 0) 37)) (w_fi ws (n_v vs 0) 31) (w_fi ws (n_v vs 0) 32) (w_ei w1 (w_ar ws (n_v vs 0) 36)) (w_ei w1 (w_ar ws (n_v vs 0) 33)) (w_ei w1 (w_ar ws (n_v vs 0) 34)) (w_fi w1 (n_v vs 0) 31) (w_fi w1 (n_v vs 0) 32) (w_ei w1 (w_ar ws (n_v vs 0) 35)) (w_ei w1 (w_ar ws (n_v vs 0) 17)) (w_ei w1 (w_ar ws (n_v vs 0) 40)) (w_ei w1 (w_ar ws (n_v vs 0) 41)) (w_fi w1 (n_v vs 0) 39) (w_ei w2 (w_ar ws (n_v vs 0) 36)) (w_ei w2 (w_ar ws (n_v vs 0) 33)) (w_ei w2 (w_ar ws (n_v vs 0) 34)) (w_fi w2 (n_v vs 0) 31) (w_fi w2 (n_v vs 0) 32) (w_ei w2 (w_ar ws (n_v vs 0) 35)) (w_ei w2 (w_ar ws (n_v vs 0) 17)) (w_ei w2 (w_ar ws (n_v vs 0) 40)) (w_ei w2 (w_ar ws (n_v vs 0) 41)) (w_fi w2 (n_v vs 0) 39) (w_ei w1 (w_ar ws (n_v vs 0) 37)) k2 f25 fe_0_31_1 fe_0_32_1 fe_0_39_1 fe_0_31_2 fe_0_32_2 fe_0_39_2 hE_0_17_1 hE_0_17_2 hE_0_33_1 hE_0_33_2 hE_0_34_1 hE_0_34_2 hE_0_35_1 hE_0_35_2 hE_0_36_2 hE_0_37_1 hE_0_40_1 hE_0_40_2 hE_0_41_1 hE_0_41_2 kz_0_31 kz_0_32 kz_0_39
  have nf2 : fc_1 PRD (20, [3], [60, 1, 1, 170, 39, 40]) ws (vs ++ [Value.int x]) := by
    refine ⟨nf_inA hl rfl, sgq_513 ?_⟩
    · show FMB (w_fi ws (n_v (vs ++ [Value.int x]) 3) 39) (w_ei ws (w_ar ws (n_v (vs ++ [Value.int x]) 3) 40))
      simp only [e_3, q3]
      exact vc_Mo_turnRound_8_2 (w_fi ws (n_v vs 0) 39) (w_ei ws (w_ar ws (n_v vs 0) 33)) (w_ei ws (w_ar ws (n_v vs 0) 34)) (w_ei ws (w_ar ws (n_v vs 0) 35)) (w_ei ws (w_ar ws (n_v vs 0) 17)) (w_ei ws (w_ar ws (n_v vs 0) 40)) (w_ei ws (w_ar ws (n_v vs 0) 41)) (w_ei ws (w_ar ws (n_v vs 0) 37)) (w_fi ws (n_v vs 0) 31) (w_fi ws (n_v vs 0) 32) (w_ei w1 (w_ar ws (n_v vs 0) 36)) (w_ei w1 (w_ar ws (n_v vs 0) 33)) (w_ei w1 (w_ar ws (n_v vs 0) 34)) (w_fi w1 (n_v vs 0) 31) (w_fi w1 (n_v vs 0) 32) (w_ei w1 (w_ar ws (n_v vs 0) 35)) (w_ei w1 (w_ar ws (n_v vs 0) 17)) (w_ei w1 (w_ar ws (n_v vs 0) 40)) (w_ei w1 (w_ar ws (n_v vs 0) 41)) (w_fi w1 (n_v vs 0) 39) (w_ei w2 (w_ar ws (n_v vs 0) 36)) (w_ei w2 (w_ar ws (n_v vs 0) 33)) (w_ei w2 (w_ar ws (n_v vs 0) 34)) (w_fi w2 (n_v vs 0) 31) (w_fi w2 (n_v vs 0) 32) (w_ei w2 (w_ar ws (n_v vs 0) 35)) (w_ei w2 (w_ar ws (n_v vs 0) 17)) (w_ei w2 (w_ar ws (n_v vs 0) 40)) (w_ei w2 (w_ar ws (n_v vs 0) 41)) (w_fi w2 (n_v vs 0) 39) (w_ei w1 (w_ar ws (n_v vs 0) 37)) f26 fe_0_31_1 fe_0_32_1 fe_0_39_1 fe_0_31_2 fe_0_32_2 fe_0_39_2 hE_0_17_1 hE_0_17_2 hE_0_33_1 hE_0_33_2 hE_0_34_1 hE_0_34_2 hE_0_35_1 hE_0_35_2 hE_0_36_2 hE_0_37_1 hE_0_40_1 hE_0_40_2 hE_0_41_1 hE_0_41_2 kz_0_31 kz_0_32 kz_0_39
  have nf3 : fc_1 PRD (20, [4, 3], [30, -1, 1, 0, 0, -1, 1, 31]) ws (vs ++ [Value.int x]) := by
    refine ⟨nf_inA hl rfl, sgq_553 ?_⟩
    · show 1 * v_iv (n_v (vs ++ [Value.int x]) 4) + ((-1) * w_fi ws (n_v (vs ++ [Value.int x]) 3) 31 + 0) ≤ (-1)
      simp only [e_3, e_4, q3, q4]
      exact vc_Mo_turnRound_8_3 (v_iv (n_v vs 1)) (v_iv (n_v vs 17)) (w_fi ws (n_v vs 0) 39) (w_ei ws (w_ar ws (n_v vs 0) 33)) (w_ei ws (w_ar ws (n_v vs 0) 34)) (w_ei ws (w_ar ws (n_v vs 0) 35)) (w_ei ws (w_ar ws (n_v vs 0) 17)) (w_ei ws (w_ar ws (n_v vs 0) 40)) (w_ei ws (w_ar ws (n_v vs 0) 41)) (w_ei ws (w_ar ws (n_v vs 0) 36)) (w_ei ws (w_ar ws (n_v vs 0) 37)) (w_fi ws (n_v vs 0) 31) (w_fi ws (n_v vs 0) 32) (w_ei w1 (w_ar ws (n_v vs 0) 36)) (w_ei w1 (w_ar ws (n_v vs 0) 33)) (w_ei w1 (w_ar ws (n_v vs 0) 34)) (w_fi w1 (n_v vs 0) 31) (w_fi w1 (n_v vs 0) 32) (w_ei w1 (w_ar ws (n_v vs 0) 35)) (w_ei w1 (w_ar ws (n_v vs 0) 17)) (w_ei w1 (w_ar ws (n_v vs 0) 40)) (w_ei w1 (w_ar ws (n_v vs 0) 41)) (w_fi w1 (n_v vs 0) 39) (w_ei w2 (w_ar ws (n_v vs 0) 36)) (w_ei w2 (w_ar ws (n_v vs 0) 33)) (w_ei w2 (w_ar ws (n_v vs 0) 34)) (w_fi w2 (n_v vs 0) 31) (w_fi w2 (n_v vs 0) 32) (w_ei w2 (w_ar ws (n_v vs 0) 35)) (w_ei w2 (w_ar ws (n_v vs 0) 17)) (w_ei w2 (w_ar ws (n_v vs 0) 40)) (w_ei w2 (w_ar ws (n_v vs 0) 41)) (w_fi w2 (n_v vs 0) 39) (w_ei w1 (w_ar ws (n_v vs 0) 37)) k1 k17 f27 fe_0_31_1 fe_0_32_1 fe_0_39_1 fe_0_31_2 fe_0_32_2 fe_0_39_2 hE_0_17_1 hE_0_17_2 hE_0_33_1 hE_0_33_2 hE_0_34_1 hE_0_34_2 hE_0_35_1 hE_0_35_2 hE_0_36_1 hE_0_36_2 hE_0_37_1 hE_0_40_1 hE_0_40_2 hE_0_41_1 hE_0_41_2 kz_0_31 kz_0_32 kz_0_39
  have nf4 : fc_1 PRD (20, [3, 5, 4, 6, 7], [60, 3, 8, 180, 31, 32, 39, 33, 34, 35, 17, 40, 41, 36, 37]) ws (vs ++ [Value.int x]) := by
    refine ⟨nf_inA hl rfl, sgq_1482 ?_⟩
    · show TRN (w_fi ws (n_v (vs ++ [Value.int x]) 3) 31) (w_fi ws (n_v (vs ++ [Value.int x]) 3) 32) (w_fi ws (n_v (vs ++ [Value.int x]) 3) 39) (w_ei ws (w_ar ws (n_v (vs ++ [Value.int x]) 3) 33)) (w_ei ws (w_ar ws (n_v (vs ++ [Value.int x]) 3) 34)) (w_ei ws (w_ar ws (n_v (vs ++ [Value.int x]) 3) 35)) (w_ei ws (w_ar ws (n_v (vs ++ [Value.int x]) 3) 17)) (w_ei ws (w_ar ws (n_v (vs ++ [Value.int x]) 3) 40)) (w_ei ws (w_ar ws (n_v (vs ++ [Value.int x]) 3) 41)) (w_ei ws (w_ar ws (n_v (vs ++ [Value.int x]) 3) 36)) (w_ei ws (w_ar ws (n_v (vs ++ [Value.int x]) 3) 37)) (v_iv (n_v (vs ++ [Value.int x]) 5)) (v_iv (n_v (vs ++ [Value.int x]) 4)) (v_iv (n_v (vs ++ [Value.int x]) 6)) (v_iv (n_v (vs ++ [Value.int x]) 7))
      simp only [e_3, e_4, e_5, e_6, e_7, q3, q4, q5]
      exact vc_Mo_turnRound_8_4 (v_iv (n_v vs 1)) (v_iv (n_v vs 2)) (v_iv (n_v vs 4)) (v_iv (n_v vs 6)) (v_iv (n_v vs 7)) (v_iv (n_v vs 18)) (w_fi ws (n_v vs 0) 39) (w_ei ws (w_ar ws (n_v vs 0) 33)) (w_ei ws (w_ar ws (n_v vs 0) 34)) (w_ei ws (w_ar ws (n_v vs 0) 35)) (w_ei ws (w_ar ws (n_v vs 0) 17)) (w_ei ws (w_ar ws (n_v vs 0) 40)) (w_ei ws (w_ar ws (n_v vs 0) 41)) (w_ei ws (w_ar ws (n_v vs 0) 36)) (w_ei ws (w_ar ws (n_v vs 0) 37)) (w_fi ws (n_v vs 0) 31) (w_fi ws (n_v vs 0) 32) (w_ei w1 (w_ar ws (n_v vs 0) 36)) (w_ei w1 (w_ar ws (n_v vs 0) 33)) (w_ei w1 (w_ar ws (n_v vs 0) 34)) (w_fi w1 (n_v vs 0) 31) (w_fi w1 (n_v vs 0) 32) (w_ei w1 (w_ar ws (n_v vs 0) 35)) (w_ei w1 (w_ar ws (n_v vs 0) 17)) (w_ei w1 (w_ar ws (n_v vs 0) 40)) (w_ei w1 (w_ar ws (n_v vs 0) 41)) (w_fi w1 (n_v vs 0) 39) (w_ei w2 (w_ar ws (n_v vs 0) 36)) (w_ei w2 (w_ar ws (n_v vs 0) 33)) (w_ei w2 (w_ar ws (n_v vs 0) 34)) (w_fi w2 (n_v vs 0) 31) (w_fi w2 (n_v vs 0) 32) (w_ei w2 (w_ar ws (n_v vs 0) 35)) (w_ei w2 (w_ar ws (n_v vs 0) 17)) (w_ei w2 (w_ar ws (n_v vs 0) 40)) (w_ei w2 (w_ar ws (n_v vs 0) 41)) (w_fi w2 (n_v vs 0) 39) (w_ei w1 (w_ar ws (n_v vs 0) 37)) k1 k2 k4 k6 k7 k18 d3 d5 g1 f2 f6 f24 f25 fe_0_31_1 fe_0_32_1 fe_0_39_1 fe_0_31_2 fe_0_32_2 fe_0_39_2 hE_0_17_1 hE_0_17_2 hE_0_33_1 hE_0_33_2 hE_0_34_1 hE_0_34_2 hE_0_35_1 hE_0_35_2 hE_0_36_2 hE_0_37_1 hE_0_40_1 hE_0_40_2 hE_0_41_1 hE_0_41_2 kz_0_31 kz_0_32 kz_0_39
  have nf5 : fc_1 PRD (20, [3, 4, 19], [30, -81, -1, 2, 36, -1, 0, 0]) ws (vs ++ [Value.int x]) := by
    refine ⟨nf_inA hl rfl, sgq_1483 ?_⟩
    · show (-1) * w_el ws (w_ar ws (n_v (vs ++ [Value.int x]) 3) 36) (v_iv (n_v (vs ++ [Value.int x]) 4)).toNat + ((-1) * v_iv (n_v (vs ++ [Value.int x]) 19) + 0) ≤ (-81)
      simp only [e_3, e_4, e_19, q3, q4]
      exact vc_Mo_turnRound_8_5 (v_iv (n_v vs 1)) (v_iv (n_v vs 4)) (v_iv (n_v vs 8)) (v_iv (n_v vs 15)) (v_iv (n_v vs 17)) (w_fi ws (n_v vs 0) 39) (w_ei ws (w_ar ws (n_v vs 0) 33)) (w_ei ws (w_ar ws (n_v vs 0) 34)) (w_ei ws (w_ar ws (n_v vs 0) 35)) (w_ei ws (w_ar ws (n_v vs 0) 17)) (w_ei ws (w_ar ws (n_v vs 0) 40)) (w_ei ws (w_ar ws (n_v vs 0) 41)) (w_ei ws (w_ar ws (n_v vs 0) 36)) (w_ei ws (w_ar ws (n_v vs 0) 37)) (w_fi ws (n_v vs 0) 31) (w_fi ws (n_v vs 0) 32) (w_ei w1 (w_ar ws (n_v vs 0) 36)) (w_ei w1 (w_ar ws (n_v vs 0) 33)) (w_ei w1 (w_ar ws (n_v vs 0) 34)) (w_fi w1 (n_v vs 0) 31) (w_fi w1 (n_v vs 0) 32) (w_ei w1 (w_ar ws (n_v vs 0) 35)) (w_ei w1 (w_ar ws (n_v vs 0) 17)) (w_ei w1 (w_ar ws (n_v vs 0) 40)) (w_ei w1 (w_ar ws (n_v vs 0) 41)) (w_fi w1 (n_v vs 0) 39) (w_ei w2 (w_ar ws (n_v vs 0) 36)) (w_ei w2 (w_ar ws (n_v vs 0) 33)) (w_ei w2 (w_ar ws (n_v vs 0) 34)) (w_fi w2 (n_v vs 0) 31) (w_fi w2 (n_v vs 0) 32) (w_ei w2 (w_ar ws (n_v vs 0) 35)) (w_ei w2 (w_ar ws (n_v vs 0) 17)) (w_ei w2 (w_ar ws (n_v vs 0) 40)) (w_ei w2 (w_ar ws (n_v vs 0) 41)) (w_fi w2 (n_v vs 0) 39) (w_ei w1 (w_ar ws (n_v vs 0) 37)) (v_iv (Value.int x)) k1 k4 k8 k15 k17 d0 d3 d5 h12 f18 fe_0_31_1 fe_0_32_1 fe_0_39_1 fe_0_31_2 fe_0_32_2 fe_0_39_2 hE_0_17_1 hE_0_17_2 hE_0_33_1 hE_0_33_2 hE_0_34_1 hE_0_34_2 hE_0_35_1 hE_0_35_2 hE_0_36_1 hE_0_36_2 hE_0_37_1 hE_0_40_1 hE_0_40_2 hE_0_41_1 hE_0_41_2 kz_0_31 kz_0_32 kz_0_39 ex2
  have nf6 : fc_1 PRD (24, [0, 3], []) ws (vs ++ [Value.int x]) := by
    refine ⟨nf_inA hl rfl, sgq_5 ?_⟩
    · show n_v (vs ++ [Value.int x]) 0 = n_v (vs ++ [Value.int x]) 3
      first | rfl | simp only [e_0, e_3, q3, q4, q5]
  have nf7 : fc_1 PRD (24, [1, 4], []) ws (vs ++ [Value.int x]) := by
    refine ⟨nf_inA hl rfl, sgq_5 ?_⟩
    · show n_v (vs ++ [Value.int x]) 1 = n_v (vs ++ [Value.int x]) 4
      first | rfl | simp only [e_1, e_4, q3, q4, q5]
  have nf8 : fc_1 PRD (24, [2, 5], []) ws (vs ++ [Value.int x]) := by
    refine ⟨nf_inA hl rfl, sgq_5 ?_⟩
    · show n_v (vs ++ [Value.int x]) 2 = n_v (vs ++ [Value.int x]) 5
      first | rfl | simp only [e_2, e_5, q3, q4, q5]
  obtain ⟨x0, e0, _, _⟩ := tv_int t8 rfl
  have e1 : v_iv (n_v vs 8) = x0.toInt := by rw [e0]; rfl
  have ho : sy_ofs (vs ++ [Value.int x]) (19, 8, 0, 0) := by
    refine ⟨x, x0, by rw [List.getElem?_append_right (by rw [hl]; decide), hl]; rfl, ?_, ?_, ?_⟩
    · rw [List.getElem?_append_left (by rw [hl]; decide)]; exact n_v_some (by rw [hl]; decide) e0
    · show x0.toInt + 0 ≤ x.toInt; omega
    · show x.toInt ≤ x0.toInt + 0; omega
  exact ⟨(fun _ h => (by cases h)), [Value.int x], ag_one hx, List.forall_mem_cons.mpr ⟨⟨show (20 : Nat) < 100 from by decide, nf0⟩, List.forall_mem_cons.mpr ⟨⟨show (20 : Nat) < 100 from by decide, nf1⟩, List.forall_mem_cons.mpr ⟨⟨show (20 : Nat) < 100 from by decide, nf2⟩, List.forall_mem_cons.mpr ⟨⟨show (20 : Nat) < 100 from by decide, nf3⟩, List.forall_mem_cons.mpr ⟨⟨show (20 : Nat) < 100 from by decide, nf4⟩, List.forall_mem_cons.mpr ⟨⟨show (20 : Nat) < 100 from by decide, nf5⟩, List.forall_mem_cons.mpr ⟨⟨show (24 : Nat) < 100 from by decide, nf6⟩, List.forall_mem_cons.mpr ⟨⟨show (24 : Nat) < 100 from by decide, nf7⟩, List.forall_mem_cons.mpr ⟨⟨show (24 : Nat) < 100 from by decide, nf8⟩, (fun _ h => (by cases h))⟩⟩⟩⟩⟩⟩⟩⟩⟩, List.forall_mem_cons.mpr ⟨ho, (fun _ h => (by cases h))⟩⟩
set_option maxHeartbeats 4000000 in
theorem vc_Mo_turnRound_9_0 (x1 : Int) (x2 : Int) (x6 : Int) (x7 : Int) (x18 : Int) (x19 : Int) (pt_0 : Int → Int) (ph_0 : Int → Int) (faces_0 : Int) (alive_0 : Int → Int) (blockOf_0 : Int → Int) (faceMany_0 : Int → Int) (face_0 : Int → Int) (rotMany_0 : Int → Int) (rot_0 : Int → Int) (pn_0 : Int) (pm_0 : Int) (rotMany_1 : Int → Int) (pt_1 : Int → Int) (ph_1 : Int → Int) (pn_1 : Int) (pm_1 : Int) (alive_1 : Int → Int) (blockOf_1 : Int → Int) (faceMany_1 : Int → Int) (face_1 : Int → Int) (faces_1 : Int) (rotMany_2 : Int → Int) (pt_2 : Int → Int) (ph_2 : Int → Int) (pn_2 : Int) (pm_2 : Int) (alive_2 : Int → Int) (blockOf_2 : Int → Int) (faceMany_2 : Int → Int) (face_2 : Int → Int) (faces_2 : Int) (rot_1 : Int → Int) (k1 : 0 ≤ x1 ∧ x1 ≤ 24) (k2 : 0 ≤ x2 ∧ x2 ≤ 79) (k6 : 0 ≤ x6 ∧ x6 ≤ 79) (k7 : 0 ≤ x7 ∧ x7 ≤ 79) (k18 : 1 ≤ x18 ∧ x18 ≤ 120) (k19 : 0 ≤ x19 ∧ x19 ≤ 24) (f0 : ACR (pt_0) (ph_0) (x7) (x1) (x19)) (g2 : x18 = faces_0) (f3 : TRA (pn_0) (pm_0) (faces_0) (pt_0) (ph_0) (alive_0) (blockOf_0) (faceMany_0) (face_0) (rotMany_0) (rot_0) (x2) (x1) (x6) (x7)) (f25 : GOK (pn_2) (pm_2) (pt_2) (ph_2)) (f26 : DRB (pm_2) (faces_2) (pt_2) (ph_2) (alive_2) (blockOf_2) (faceMany_2) (face_2) (x2)) (fe_0_31_1 : pn_0 = pn_1) (fe_0_32_1 : pm_0 = pm_1) (fe_0_39_1 : faces_0 = faces_1) (fe_0_31_2 : pn_1 = pn_2) (fe_0_32_2 : pm_1 = pm_2) (fe_0_39_2 : faces_1 = faces_2) (hE_0_17_1 : ∀ j : Int, blockOf_0 j = blockOf_1 j) (hE_0_17_2 : ∀ j : Int, blockOf_1 j = blockOf_2 j) (hE_0_33_1 : ∀ j : Int, pt_0 j = pt_1 j) (hE_0_33_2 : ∀ j : Int, pt_1 j = pt_2 j) (hE_0_34_1 : ∀ j : Int, ph_0 j = ph_1 j) (hE_0_34_2 : ∀ j : Int, ph_1 j = ph_2 j) (hE_0_35_1 : ∀ j : Int, alive_0 j = alive_1 j) (hE_0_35_2 : ∀ j : Int, alive_1 j = alive_2 j) (hE_0_36_2 : ∀ j : Int, rotMany_1 j = rotMany_2 j) (hE_0_37_1 : ∀ j : Int, rot_0 j = rot_1 j) (hE_0_40_1 : ∀ j : Int, faceMany_0 j = faceMany_1 j) (hE_0_40_2 : ∀ j : Int, faceMany_1 j = faceMany_2 j) (hE_0_41_1 : ∀ j : Int, face_0 j = face_1 j) (hE_0_41_2 : ∀ j : Int, face_1 j = face_2 j) (kz_0_31 : 0 ≤ pn_0 ∧ pn_0 ≤ 25) (kz_0_32 : 0 ≤ pm_0 ∧ pm_0 ≤ 80) (kz_0_39 : 0 ≤ faces_0 ∧ faces_0 ≤ 120) : BHE (faces_0) (faceMany_0) (face_0) (x19) (x1) := by
  subst fe_0_31_1
  subst fe_0_32_1
  subst fe_0_39_1
  subst fe_0_31_2
  subst fe_0_32_2
  subst fe_0_39_2
  have e_hE_0_17_1 := funext hE_0_17_1; subst e_hE_0_17_1
  have e_hE_0_17_2 := funext hE_0_17_2; subst e_hE_0_17_2
  have e_hE_0_33_1 := funext hE_0_33_1; subst e_hE_0_33_1
  have e_hE_0_33_2 := funext hE_0_33_2; subst e_hE_0_33_2
  have e_hE_0_34_1 := funext hE_0_34_1; subst e_hE_0_34_1
  have e_hE_0_34_2 := funext hE_0_34_2; subst e_hE_0_34_2
  have e_hE_0_35_1 := funext hE_0_35_1; subst e_hE_0_35_1
  have e_hE_0_35_2 := funext hE_0_35_2; subst e_hE_0_35_2
  have e_hE_0_36_2 := funext hE_0_36_2; subst e_hE_0_36_2
  have e_hE_0_37_1 := funext hE_0_37_1; subst e_hE_0_37_1
  have e_hE_0_40_1 := funext hE_0_40_1; subst e_hE_0_40_1
  have e_hE_0_40_2 := funext hE_0_40_2; subst e_hE_0_40_2
  have e_hE_0_41_1 := funext hE_0_41_1; subst e_hE_0_41_1
  have e_hE_0_41_2 := funext hE_0_41_2; subst e_hE_0_41_2
  exact tra_bhe ‹GOK _ _ _ _› ‹DRB _ _ _ _ _ _ _ _ _› ‹TRA _ _ _ _ _ _ _ _ _ _ _ _ _ _ _› (by omega) ‹ACR _ _ _ _ _›
def o_Mo_turnRound_9 : or_T := (99, 20, [(0, (2, 0, 0, [165])), (1, (0, 0, 24, [])), (2, (0, 0, 79, [])), (6, (0, 0, 79, [])), (7, (0, 0, 79, [])), (9, (2, 0, 0, [184])), (12, (2, 0, 0, [183])), (18, (0, 1, 120, [])), (19, (0, 0, 24, []))], [(20, [3, 7, 4, 19], [60, 0, 2, 84, 33, 34]), (9, [18, 3], [39]), (20, [3, 5, 4, 6, 7], [60, 3, 8, 179, 31, 32, 39, 33, 34, 35, 17, 40, 41, 36, 37]), (24, [0, 3], []), (24, [1, 4], []), (24, [2, 5], []), (100, [12, 4, 17], []), (100, [9, 14, 7], []), (20, [3], [60, 2, 2, 75, 31, 32, 33, 34]), (20, [3, 5], [60, 2, 6, 175, 32, 39, 33, 34, 35, 17, 40, 41])], [], [], [(20, [3, 19, 4], [60, 1, 2, 172, 39, 40, 41])], [], [])
theorem oo_Mo_turnRound_9 {kA : Nat → ClassId} : or_ok PRD kA GG o_Mo_turnRound_9 := by
  refine or_mk fun A ta ws vs hD hth hl => ?_
  intro t0 r0 t1 k1 t2 k2 t6 k6 t7 k7 t9 r9 t12 r12 t18 k18 t19 k19 f0 f2 f3 f8 f9 f10 ta1 w1 le1 s1 ta2 w2 le2 s2 f25 f26
  replace f0 := shm_495 f0
  replace f2 := shm_516 f2
  replace f3 := shm_1481 f3
  replace f8 := shm_5 f8
  replace f9 := shm_5 f9
  replace f10 := shm_5 f10
  have s1 : (∀ b j, w_el ws b j = if b = v_ad (n_v vs 12) ∧ j = (v_iv (n_v vs 4)).toNat then v_iv (n_v vs 17) else w_el w1 b j) ∧ ∀ b k, w_fd ws b k = w_fd w1 b k := s1.2
  have s2 : (∀ b j, w_el w1 b j = if b = v_ad (n_v vs 9) ∧ j = (v_iv (n_v vs 14)).toNat then v_iv (n_v vs 7) else w_el w2 b j) ∧ ∀ b k, w_fd w1 b k = w_fd w2 b k := s2.2
  replace f25 := shm_575 f25
  replace f26 := shm_1474 f26
  have q3 : n_v vs 3 = n_v vs 0 := f8.symm
  have q4 : n_v vs 4 = n_v vs 1 := f9.symm
  have q5 : n_v vs 5 = n_v vs 2 := f10.symm
  simp only [q3, q4, q5] at f0 f2 f3
  rw [q4] at s1
  simp only [q3, q5] at f25 f26
  have ar_0_17_1 : w_ar w1 (n_v vs 0) 17 = w_ar ws (n_v vs 0) 17 := congrArg v_ad (s1.2 _ _).symm
  have ar_0_17_2 : w_ar w2 (n_v vs 0) 17 = w_ar ws (n_v vs 0) 17 := by rw [← ar_0_17_1]; show v_ad (w_fd w2 _ _) = v_ad (w_fd w1 _ _); rw [s2.2]
  have cr_0_17 := fdq_189 hD hth r0
  have ar_0_33_1 : w_ar w1 (n_v vs 0) 33 = w_ar ws (n_v vs 0) 33 := congrArg v_ad (s1.2 _ _).symm
  have ar_0_33_2 : w_ar w2 (n_v vs 0) 33 = w_ar ws (n_v vs 0) 33 := by rw [← ar_0_33_1]; show v_ad (w_fd w2 _ _) = v_ad (w_fd w1 _ _); rw [s2.2]
  have cr_0_33 := fdq_117 hD hth r0
  have ar_0_34_1 : w_ar w1 (n_v vs 0) 34 = w_ar ws (n_v vs 0) 34 := congrArg v_ad (s1.2 _ _).symm
  have ar_0_34_2 : w_ar w2 (n_v vs 0) 34 = w_ar ws (n_v vs 0) 34 := by rw [← ar_0_34_1]; show v_ad (w_fd w2 _ _) = v_ad (w_fd w1 _ _); rw [s2.2]
  have cr_0_34 := fdq_118 hD hth r0
  have ar_0_35_1 : w_ar w1 (n_v vs 0) 35 = w_ar ws (n_v vs 0) 35 := congrArg v_ad (s1.2 _ _).symm
  have ar_0_35_2 : w_ar w2 (n_v vs 0) 35 = w_ar ws (n_v vs 0) 35 := by rw [← ar_0_35_1]; show v_ad (w_fd w2 _ _) = v_ad (w_fd w1 _ _); rw [s2.2]
  have cr_0_35 := fdq_132 hD hth r0
  have ar_0_36_1 : w_ar w1 (n_v vs 0) 36 = w_ar ws (n_v vs 0) 36 := congrArg v_ad (s1.2 _ _).symm
  have ar_0_36_2 : w_ar w2 (n_v vs 0) 36 = w_ar ws (n_v vs 0) 36 := by rw [← ar_0_36_1]; show v_ad (w_fd w2 _ _) = v_ad (w_fd w1 _ _); rw [s2.2]
  have cr_0_36 := fdq_167 hD hth r0
  have ar_0_37_1 : w_ar w1 (n_v vs 0) 37 = w_ar ws (n_v vs 0) 37 := congrArg v_ad (s1.2 _ _).symm
  have ar_0_37_2 : w_ar w2 (n_v vs 0) 37 = w_ar ws (n_v vs 0) 37 := by rw [← ar_0_37_1]; show v_ad (w_fd w2 _ _) = v_ad (w_fd w1 _ _); rw [s2.2]
  have cr_0_37 := fdq_168 hD hth r0
  have ar_0_40_1 : w_ar w1 (n_v vs 0) 40 = w_ar ws (n_v vs 0) 40 := congrArg v_ad (s1.2 _ _).symm
  have ar_0_40_2 : w_ar w2 (n_v vs 0) 40 = w_ar ws (n_v vs 0) 40 := by rw [← ar_0_40_1]; show v_ad (w_fd w2 _ _) = v_ad (w_fd w1 _ _); rw [s2.2]
  have cr_0_40 := fdq_133 hD hth r0
  have ar_0_41_1 : w_ar w1 (n_v vs 0) 41 = w_ar ws (n_v vs 0) 41 := congrArg v_ad (s1.2 _ _).symm
  have ar_0_41_2 : w_ar w2 (n_v vs 0) 41 = w_ar ws (n_v vs 0) 41 := by rw [← ar_0_41_1]; show v_ad (w_fd w2 _ _) = v_ad (w_fd w1 _ _); rw [s2.2]
  have cr_0_41 := fdq_134 hD hth r0
  have g2 : v_iv (n_v vs 18) = w_fi ws (n_v vs 0) 39 := congrArg v_iv f2
  simp only [ar_0_33_2, ar_0_34_2, ar_0_17_2, ar_0_35_2, ar_0_40_2, ar_0_41_2, ar_0_36_2, ar_0_37_2] at f25 f26
  have fe_0_31_1 : w_fi ws (n_v vs 0) 31 = w_fi w1 (n_v vs 0) 31 := congrArg v_iv (s1.2 _ _)
  have fe_0_32_1 : w_fi ws (n_v vs 0) 32 = w_fi w1 (n_v vs 0) 32 := congrArg v_iv (s1.2 _ _)
  have fe_0_39_1 : w_fi ws (n_v vs 0) 39 = w_fi w1 (n_v vs 0) 39 := congrArg v_iv (s1.2 _ _)
  have fe_0_31_2 : w_fi w1 (n_v vs 0) 31 = w_fi w2 (n_v vs 0) 31 := congrArg v_iv (s2.2 _ _)
  have fe_0_32_2 : w_fi w1 (n_v vs 0) 32 = w_fi w2 (n_v vs 0) 32 := congrArg v_iv (s2.2 _ _)
  have fe_0_39_2 : w_fi w1 (n_v vs 0) 39 = w_fi w2 (n_v vs 0) 39 := congrArg v_iv (s2.2 _ _)
  have hE_0_17_1 : ∀ j : Int, w_ei ws (w_ar ws (n_v vs 0) 17) j = w_ei w1 (w_ar ws (n_v vs 0) 17) j := el_kp s1.1 r12 cr_0_17 (by decide)
  have hE_0_17_2 : ∀ j : Int, w_ei w1 (w_ar ws (n_v vs 0) 17) j = w_ei w2 (w_ar ws (n_v vs 0) 17) j := el_kp s2.1 r9 cr_0_17 (by decide)
  have hE_0_33_1 : ∀ j : Int, w_ei ws (w_ar ws (n_v vs 0) 33) j = w_ei w1 (w_ar ws (n_v vs 0) 33) j := el_kp s1.1 r12 cr_0_33 (by decide)
  have hE_0_33_2 : ∀ j : Int, w_ei w1 (w_ar ws (n_v vs 0) 33) j = w_ei w2 (w_ar ws (n_v vs 0) 33) j := el_kp s2.1 r9 cr_0_33 (by decide)
  have hE_0_34_1 : ∀ j : Int, w_ei ws (w_ar ws (n_v vs 0) 34) j = w_ei w1 (w_ar ws (n_v vs 0) 34) j := el_kp s1.1 r12 cr_0_34 (by decide)
  have hE_0_34_2 : ∀ j : Int, w_ei w1 (w_ar ws (n_v vs 0) 34) j = w_ei w2 (w_ar ws (n_v vs 0) 34) j := el_kp s2.1 r9 cr_0_34 (by decide)
  have hE_0_35_1 : ∀ j : Int, w_ei ws (w_ar ws (n_v vs 0) 35) j = w_ei w1 (w_ar ws (n_v vs 0) 35) j := el_kp s1.1 r12 cr_0_35 (by decide)
  have hE_0_35_2 : ∀ j : Int, w_ei w1 (w_ar ws (n_v vs 0) 35) j = w_ei w2 (w_ar ws (n_v vs 0) 35) j := el_kp s2.1 r9 cr_0_35 (by decide)
  have hE_0_36_2 : ∀ j : Int, w_ei w1 (w_ar ws (n_v vs 0) 36) j = w_ei w2 (w_ar ws (n_v vs 0) 36) j := el_kp s2.1 r9 cr_0_36 (by decide)
  have hE_0_37_1 : ∀ j : Int, w_ei ws (w_ar ws (n_v vs 0) 37) j = w_ei w1 (w_ar ws (n_v vs 0) 37) j := el_kp s1.1 r12 cr_0_37 (by decide)
  have hE_0_40_1 : ∀ j : Int, w_ei ws (w_ar ws (n_v vs 0) 40) j = w_ei w1 (w_ar ws (n_v vs 0) 40) j := el_kp s1.1 r12 cr_0_40 (by decide)
  have hE_0_40_2 : ∀ j : Int, w_ei w1 (w_ar ws (n_v vs 0) 40) j = w_ei w2 (w_ar ws (n_v vs 0) 40) j := el_kp s2.1 r9 cr_0_40 (by decide)
  have hE_0_41_1 : ∀ j : Int, w_ei ws (w_ar ws (n_v vs 0) 41) j = w_ei w1 (w_ar ws (n_v vs 0) 41) j := el_kp s1.1 r12 cr_0_41 (by decide)
  have hE_0_41_2 : ∀ j : Int, w_ei w1 (w_ar ws (n_v vs 0) 41) j = w_ei w2 (w_ar ws (n_v vs 0) 41) j := el_kp s2.1 r9 cr_0_41 (by decide)
  have kz_0_31 := fdq_145 hD hth r0
  have kz_0_32 := fdq_140 hD hth r0
  have kz_0_39 := fdq_135 hD hth r0
  have nf0 : fc_1 PRD (20, [3, 19, 4], [60, 1, 2, 172, 39, 40, 41]) ws (vs) := by
    refine ⟨nf_in hl rfl, sgq_514 ?_⟩
    · show BHE (w_fi ws (n_v vs 3) 39) (w_ei ws (w_ar ws (n_v vs 3) 40)) (w_ei ws (w_ar ws (n_v vs 3) 41)) (v_iv (n_v vs 19)) (v_iv (n_v vs 4))
      simp only [q3, q4]
      exact vc_Mo_turnRound_9_0 (v_iv (n_v vs 1)) (v_iv (n_v vs 2)) (v_iv (n_v vs 6)) (v_iv (n_v vs 7)) (v_iv (n_v vs 18)) (v_iv (n_v vs 19)) (w_ei ws (w_ar ws (n_v vs 0) 33)) (w_ei ws (w_ar ws (n_v vs 0) 34)) (w_fi ws (n_v vs 0) 39) (w_ei ws (w_ar ws (n_v vs 0) 35)) (w_ei ws (w_ar ws (n_v vs 0) 17)) (w_ei ws (w_ar ws (n_v vs 0) 40)) (w_ei ws (w_ar ws (n_v vs 0) 41)) (w_ei ws (w_ar ws (n_v vs 0) 36)) (w_ei ws (w_ar ws (n_v vs 0) 37)) (w_fi ws (n_v vs 0) 31) (w_fi ws (n_v vs 0) 32) (w_ei w1 (w_ar ws (n_v vs 0) 36)) (w_ei w1 (w_ar ws (n_v vs 0) 33)) (w_ei w1 (w_ar ws (n_v vs 0) 34)) (w_fi w1 (n_v vs 0) 31) (w_fi w1 (n_v vs 0) 32) (w_ei w1 (w_ar ws (n_v vs 0) 35)) (w_ei w1 (w_ar ws (n_v vs 0) 17)) (w_ei w1 (w_ar ws (n_v vs 0) 40)) (w_ei w1 (w_ar ws (n_v vs 0) 41)) (w_fi w1 (n_v vs 0) 39) (w_ei w2 (w_ar ws (n_v vs 0) 36)) (w_ei w2 (w_ar ws (n_v vs 0) 33)) (w_ei w2 (w_ar ws (n_v vs 0) 34)) (w_fi w2 (n_v vs 0) 31) (w_fi w2 (n_v vs 0) 32) (w_ei w2 (w_ar ws (n_v vs 0) 35)) (w_ei w2 (w_ar ws (n_v vs 0) 17)) (w_ei w2 (w_ar ws (n_v vs 0) 40)) (w_ei w2 (w_ar ws (n_v vs 0) 41)) (w_fi w2 (n_v vs 0) 39) (w_ei w1 (w_ar ws (n_v vs 0) 37)) k1 k2 k6 k7 k18 k19 f0 g2 f3 f25 f26 fe_0_31_1 fe_0_32_1 fe_0_39_1 fe_0_31_2 fe_0_32_2 fe_0_39_2 hE_0_17_1 hE_0_17_2 hE_0_33_1 hE_0_33_2 hE_0_34_1 hE_0_34_2 hE_0_35_1 hE_0_35_2 hE_0_36_2 hE_0_37_1 hE_0_40_1 hE_0_40_2 hE_0_41_1 hE_0_41_2 kz_0_31 kz_0_32 kz_0_39
  refine ⟨(fun _ h => (by cases h)), [], trivial, ?_, (fun _ h => (by cases h))⟩
  rw [List.append_nil]
  exact List.forall_mem_cons.mpr ⟨⟨show (20 : Nat) < 100 from by decide, nf0⟩, (fun _ h => (by cases h))⟩
set_option maxHeartbeats 4000000 in
theorem vc_Mo_turnRound_10_r0 (x1 : Int) (x2 : Int) (x6 : Int) (x7 : Int) (x18 : Int) (x19 : Int) (x20 : Int) (x21 : Int) (pt_0 : Int → Int) (ph_0 : Int → Int) (alive_0 : Int → Int) (pm_0 : Int) (faceMany_0 : Int → Int) (face_0 : Int → Int) (faces_0 : Int) (blockOf_0 : Int → Int) (rotMany_0 : Int → Int) (rot_0 : Int → Int) (pn_0 : Int) (rotMany_1 : Int → Int) (pt_1 : Int → Int) (ph_1 : Int → Int) (pn_1 : Int) (pm_1 : Int) (alive_1 : Int → Int) (blockOf_1 : Int → Int) (faceMany_1 : Int → Int) (face_1 : Int → Int) (faces_1 : Int) (rotMany_2 : Int → Int) (pt_2 : Int → Int) (ph_2 : Int → Int) (pn_2 : Int) (pm_2 : Int) (alive_2 : Int → Int) (blockOf_2 : Int → Int) (faceMany_2 : Int → Int) (face_2 : Int → Int) (faces_2 : Int) (rot_1 : Int → Int) (k1 : 0 ≤ x1 ∧ x1 ≤ 24) (k2 : 0 ≤ x2 ∧ x2 ≤ 79) (k6 : 0 ≤ x6 ∧ x6 ≤ 79) (k7 : 0 ≤ x7 ∧ x7 ≤ 79) (k18 : 1 ≤ x18 ∧ x18 ≤ 120) (k19 : 0 ≤ x19 ∧ x19 ≤ 24) (k20 : (-1) ≤ x20 ∧ x20 ≤ 24) (k21 : (-1) ≤ x21 ∧ x21 ≤ 79) (f0 : EOF (pm_0) (pt_0) (ph_0) (alive_0) (x1) (x20) (x21)) (f1 : BHP (faces_0) (faceMany_0) (face_0) (x19) (x1) (x20)) (f3 : ACR (pt_0) (ph_0) (x7) (x1) (x19)) (g5 : x18 = faces_0) (f6 : TRA (pn_0) (pm_0) (faces_0) (pt_0) (ph_0) (alive_0) (blockOf_0) (faceMany_0) (face_0) (rotMany_0) (rot_0) (x2) (x1) (x6) (x7)) (f28 : GOK (pn_2) (pm_2) (pt_2) (ph_2)) (f29 : DRB (pm_2) (faces_2) (pt_2) (ph_2) (alive_2) (blockOf_2) (faceMany_2) (face_2) (x2)) (fe_0_31_1 : pn_0 = pn_1) (fe_0_32_1 : pm_0 = pm_1) (fe_0_39_1 : faces_0 = faces_1) (fe_0_31_2 : pn_1 = pn_2) (fe_0_32_2 : pm_1 = pm_2) (fe_0_39_2 : faces_1 = faces_2) (hE_0_17_1 : ∀ j : Int, blockOf_0 j = blockOf_1 j) (hE_0_17_2 : ∀ j : Int, blockOf_1 j = blockOf_2 j) (hE_0_33_1 : ∀ j : Int, pt_0 j = pt_1 j) (hE_0_33_2 : ∀ j : Int, pt_1 j = pt_2 j) (hE_0_34_1 : ∀ j : Int, ph_0 j = ph_1 j) (hE_0_34_2 : ∀ j : Int, ph_1 j = ph_2 j) (hE_0_35_1 : ∀ j : Int, alive_0 j = alive_1 j) (hE_0_35_2 : ∀ j : Int, alive_1 j = alive_2 j) (hE_0_36_2 : ∀ j : Int, rotMany_1 j = rotMany_2 j) (hE_0_37_1 : ∀ j : Int, rot_0 j = rot_1 j) (hE_0_40_1 : ∀ j : Int, faceMany_0 j = faceMany_1 j) (hE_0_40_2 : ∀ j : Int, faceMany_1 j = faceMany_2 j) (hE_0_41_1 : ∀ j : Int, face_0 j = face_1 j) (hE_0_41_2 : ∀ j : Int, face_1 j = face_2 j) (kz_0_31 : 0 ≤ pn_0 ∧ pn_0 ≤ 25) (kz_0_32 : 0 ≤ pm_0 ∧ pm_0 ≤ 80) (kz_0_39 : 0 ≤ faces_0 ∧ faces_0 ≤ 120) : 0 ≤ x21 ∧ x21 ≤ 79 := by
  subst fe_0_31_1
  subst fe_0_32_1
  subst fe_0_39_1
  subst fe_0_31_2
  subst fe_0_32_2
  subst fe_0_39_2
  have e_hE_0_17_1 := funext hE_0_17_1; subst e_hE_0_17_1
  have e_hE_0_17_2 := funext hE_0_17_2; subst e_hE_0_17_2
  have e_hE_0_33_1 := funext hE_0_33_1; subst e_hE_0_33_1
  have e_hE_0_33_2 := funext hE_0_33_2; subst e_hE_0_33_2
  have e_hE_0_34_1 := funext hE_0_34_1; subst e_hE_0_34_1
  have e_hE_0_34_2 := funext hE_0_34_2; subst e_hE_0_34_2
  have e_hE_0_35_1 := funext hE_0_35_1; subst e_hE_0_35_1
  have e_hE_0_35_2 := funext hE_0_35_2; subst e_hE_0_35_2
  have e_hE_0_36_2 := funext hE_0_36_2; subst e_hE_0_36_2
  have e_hE_0_37_1 := funext hE_0_37_1; subst e_hE_0_37_1
  have e_hE_0_40_1 := funext hE_0_40_1; subst e_hE_0_40_1
  have e_hE_0_40_2 := funext hE_0_40_2; subst e_hE_0_40_2
  have e_hE_0_41_1 := funext hE_0_41_1; subst e_hE_0_41_1
  have e_hE_0_41_2 := funext hE_0_41_2; subst e_hE_0_41_2
  obtain ⟨j, _⟩ := tra_edge ‹GOK _ _ _ _› ‹DRB _ _ _ _ _ _ _ _ _› ‹TRA _ _ _ _ _ _ _ _ _ _ _ _ _ _ _› (by omega) ‹ACR _ _ _ _ _› ‹BHP _ _ _ _ _ _› ‹EOF _ _ _ _ _ _ _›
  have := j.1
  have := j.2.1
  omega
def o_Mo_turnRound_10 : or_T := (105, 22, [(0, (2, 0, 0, [165])), (1, (0, 0, 24, [])), (2, (0, 0, 79, [])), (3, (2, 0, 0, [165])), (4, (0, 0, 24, [])), (5, (0, 0, 79, [])), (6, (0, 0, 79, [])), (7, (0, 0, 79, [])), (8, (0, -2, 81, [])), (9, (2, 0, 0, [184])), (10, (0, 80, 80, [])), (11, (0, 0, 1920, [])), (12, (2, 0, 0, [183])), (13, (0, 0, 80, [])), (14, (0, 0, 2000, [])), (15, (0, 0, 79, [])), (16, (0, 1, 1, [])), (17, (0, 1, 80, [])), (18, (0, 1, 120, [])), (19, (0, 0, 24, [])), (20, (0, -1, 24, [])), (21, (0, -1, 79, []))], [(20, [3, 4, 20, 21], [60, 1, 3, 85, 32, 33, 34, 35]), (20, [3, 19, 4, 20], [60, 1, 2, 171, 39, 40, 41]), (20, [3, 19, 4], [60, 1, 2, 172, 39, 40, 41]), (20, [3, 7, 4, 19], [60, 0, 2, 84, 33, 34]), (8, [18], [4]), (9, [18, 3], [39]), (20, [3, 5, 4, 6, 7], [60, 3, 8, 179, 31, 32, 39, 33, 34, 35, 17, 40, 41, 36, 37]), (20, [3], [60, 2, 2, 75, 31, 32, 33, 34]), (20, [3, 5], [60, 2, 6, 175, 32, 39, 33, 34, 35, 17, 40, 41]), (20, [3], [60, 1, 1, 170, 39, 40]), (20, [4, 3], [30, -1, 1, 0, 0, -1, 1, 31]), (24, [0, 3], []), (24, [1, 4], []), (24, [2, 5], []), (100, [12, 4, 17], []), (1, [17, 15, 16], []), (10, [15, 12, 4], []), (9, [12, 3], [36]), (20, [3], [60, 2, 2, 75, 31, 32, 33, 34]), (20, [3, 5], [60, 2, 6, 175, 32, 39, 33, 34, 35, 17, 40, 41]), (20, [3], [60, 1, 1, 170, 39, 40]), (20, [4, 3], [30, -1, 1, 0, 0, -1, 1, 31]), (20, [3, 4, 8], [30, -80, -1, 2, 36, -1, 0, 0]), (100, [9, 14, 7], []), (1, [14, 11, 13], []), (10, [13, 12, 4], []), (3, [11, 10, 4], []), (9, [9, 3], [37]), (20, [3], [60, 2, 2, 75, 31, 32, 33, 34]), (20, [3, 5], [60, 2, 6, 175, 32, 39, 33, 34, 35, 17, 40, 41]), (20, [3], [60, 1, 1, 170, 39, 40]), (20, [4, 3], [30, -1, 1, 0, 0, -1, 1, 31]), (20, [3, 5, 4, 6, 7], [60, 3, 8, 178, 31, 32, 39, 33, 34, 35, 17, 40, 41, 36, 37]), (20, [3, 4, 8], [30, -80, -1, 2, 36, -1, 0, 0])], [(21, (0, 0, 79, []))], [], [], [], [(17, 15, 1, 1), (14, 13, 0, 1920), (14, 11, 0, 80), (1, 4, -4294967296, 0), (2, 5, -4294967296, 0), (4, 1, -4294967296, 0), (5, 2, -4294967296, 0)])
theorem oo_Mo_turnRound_10 {kA : Nat → ClassId} : or_ok PRD kA GG o_Mo_turnRound_10 := by
  refine or_mk fun A ta ws vs hD hth hl => ?_
  intro t0 r0 t1 k1 t2 k2 t3 r3 t4 k4 t5 k5 t6 k6 t7 k7 t8 k8 t9 r9 t10 k10 t11 k11 t12 r12 t13 k13 t14 k14 t15 k15 t16 k16 t17 k17 t18 k18 t19 k19 t20 k20 t21 k21 d0 d1 d2 d3 d4 d5 d6 f0 f1 f2 f3 f4 f5 f6 f7 f8 f9 f10 f11 f12 f13 ta1 w1 le1 s1 f15 f16 f17 f18 f19 f20 f21 f22 ta2 w2 le2 s2 f24 f25 f26 f27 f28 f29 f30 f31 f32 f33
  replace f0 := shm_990 f0
  replace f1 := shm_517 f1
  replace f3 := shm_495 f3
  replace f5 := shm_516 f5
  replace f6 := shm_1481 f6
  replace f11 := shm_5 f11
  replace f12 := shm_5 f12
  replace f13 := shm_5 f13
  have s1 : (∀ b j, w_el ws b j = if b = v_ad (n_v vs 12) ∧ j = (v_iv (n_v vs 4)).toNat then v_iv (n_v vs 17) else w_el w1 b j) ∧ ∀ b k, w_fd ws b k = w_fd w1 b k := s1.2
  have s2 : (∀ b j, w_el w1 b j = if b = v_ad (n_v vs 9) ∧ j = (v_iv (n_v vs 14)).toNat then v_iv (n_v vs 7) else w_el w2 b j) ∧ ∀ b k, w_fd w1 b k = w_fd w2 b k := s2.2
  replace f28 := shm_575 f28
  replace f29 := shm_1474 f29
  have q3 : n_v vs 3 = n_v vs 0 := f11.symm
  have q4 : n_v vs 4 = n_v vs 1 := f12.symm
  have q5 : n_v vs 5 = n_v vs 2 := f13.symm
  simp only [q3, q4, q5] at f0 f1 f3 f5 f6
  rw [q4] at s1
  simp only [q3, q5] at f28 f29
  have ar_0_17_1 : w_ar w1 (n_v vs 0) 17 = w_ar ws (n_v vs 0) 17 := congrArg v_ad (s1.2 _ _).symm
  have ar_0_17_2 : w_ar w2 (n_v vs 0) 17 = w_ar ws (n_v vs 0) 17 := by rw [← ar_0_17_1]; show v_ad (w_fd w2 _ _) = v_ad (w_fd w1 _ _); rw [s2.2]
  have cr_0_17 := fdq_189 hD hth r0
  have ar_0_33_1 : w_ar w1 (n_v vs 0) 33 = w_ar ws (n_v vs 0) 33 := congrArg v_ad (s1.2 _ _).symm
  have ar_0_33_2 : w_ar w2 (n_v vs 0) 33 = w_ar ws (n_v vs 0) 33 := by rw [← ar_0_33_1]; show v_ad (w_fd w2 _ _) = v_ad (w_fd w1 _ _); rw [s2.2]
  have cr_0_33 := fdq_117 hD hth r0
  have ar_0_34_1 : w_ar w1 (n_v vs 0) 34 = w_ar ws (n_v vs 0) 34 := congrArg v_ad (s1.2 _ _).symm
  have ar_0_34_2 : w_ar w2 (n_v vs 0) 34 = w_ar ws (n_v vs 0) 34 := by rw [← ar_0_34_1]; show v_ad (w_fd w2 _ _) = v_ad (w_fd w1 _ _); rw [s2.2]
  have cr_0_34 := fdq_118 hD hth r0
  have ar_0_35_1 : w_ar w1 (n_v vs 0) 35 = w_ar ws (n_v vs 0) 35 := congrArg v_ad (s1.2 _ _).symm
  have ar_0_35_2 : w_ar w2 (n_v vs 0) 35 = w_ar ws (n_v vs 0) 35 := by rw [← ar_0_35_1]; show v_ad (w_fd w2 _ _) = v_ad (w_fd w1 _ _); rw [s2.2]
  have cr_0_35 := fdq_132 hD hth r0
  have ar_0_36_1 : w_ar w1 (n_v vs 0) 36 = w_ar ws (n_v vs 0) 36 := congrArg v_ad (s1.2 _ _).symm
  have ar_0_36_2 : w_ar w2 (n_v vs 0) 36 = w_ar ws (n_v vs 0) 36 := by rw [← ar_0_36_1]; show v_ad (w_fd w2 _ _) = v_ad (w_fd w1 _ _); rw [s2.2]
  have cr_0_36 := fdq_167 hD hth r0
  have ar_0_37_1 : w_ar w1 (n_v vs 0) 37 = w_ar ws (n_v vs 0) 37 := congrArg v_ad (s1.2 _ _).symm
  have ar_0_37_2 : w_ar w2 (n_v vs 0) 37 = w_ar ws (n_v vs 0) 37 := by rw [← ar_0_37_1]; show v_ad (w_fd w2 _ _) = v_ad (w_fd w1 _ _); rw [s2.2]
  have cr_0_37 := fdq_168 hD hth r0
  have ar_0_40_1 : w_ar w1 (n_v vs 0) 40 = w_ar ws (n_v vs 0) 40 := congrArg v_ad (s1.2 _ _).symm
  have ar_0_40_2 : w_ar w2 (n_v vs 0) 40 = w_ar ws (n_v vs 0) 40 := by rw [← ar_0_40_1]; show v_ad (w_fd w2 _ _) = v_ad (w_fd w1 _ _); rw [s2.2]
  have cr_0_40 := fdq_133 hD hth r0
  have ar_0_41_1 : w_ar w1 (n_v vs 0) 41 = w_ar ws (n_v vs 0) 41 := congrArg v_ad (s1.2 _ _).symm
  have ar_0_41_2 : w_ar w2 (n_v vs 0) 41 = w_ar ws (n_v vs 0) 41 := by rw [← ar_0_41_1]; show v_ad (w_fd w2 _ _) = v_ad (w_fd w1 _ _); rw [s2.2]
  have cr_0_41 := fdq_134 hD hth r0
  have g5 : v_iv (n_v vs 18) = w_fi ws (n_v vs 0) 39 := congrArg v_iv f5
  simp only [ar_0_33_2, ar_0_34_2, ar_0_17_2, ar_0_35_2, ar_0_40_2, ar_0_41_2, ar_0_36_2, ar_0_37_2] at f28 f29
  have fe_0_31_1 : w_fi ws (n_v vs 0) 31 = w_fi w1 (n_v vs 0) 31 := congrArg v_iv (s1.2 _ _)
  have fe_0_32_1 : w_fi ws (n_v vs 0) 32 = w_fi w1 (n_v vs 0) 32 := congrArg v_iv (s1.2 _ _)
  have fe_0_39_1 : w_fi ws (n_v vs 0) 39 = w_fi w1 (n_v vs 0) 39 := congrArg v_iv (s1.2 _ _)
  have fe_0_31_2 : w_fi w1 (n_v vs 0) 31 = w_fi w2 (n_v vs 0) 31 := congrArg v_iv (s2.2 _ _)
  have fe_0_32_2 : w_fi w1 (n_v vs 0) 32 = w_fi w2 (n_v vs 0) 32 := congrArg v_iv (s2.2 _ _)
  have fe_0_39_2 : w_fi w1 (n_v vs 0) 39 = w_fi w2 (n_v vs 0) 39 := congrArg v_iv (s2.2 _ _)
  have hE_0_17_1 : ∀ j : Int, w_ei ws (w_ar ws (n_v vs 0) 17) j = w_ei w1 (w_ar ws (n_v vs 0) 17) j := el_kp s1.1 r12 cr_0_17 (by decide)
  have hE_0_17_2 : ∀ j : Int, w_ei w1 (w_ar ws (n_v vs 0) 17) j = w_ei w2 (w_ar ws (n_v vs 0) 17) j := el_kp s2.1 r9 cr_0_17 (by decide)
  have hE_0_33_1 : ∀ j : Int, w_ei ws (w_ar ws (n_v vs 0) 33) j = w_ei w1 (w_ar ws (n_v vs 0) 33) j := el_kp s1.1 r12 cr_0_33 (by decide)
  have hE_0_33_2 : ∀ j : Int, w_ei w1 (w_ar ws (n_v vs 0) 33) j = w_ei w2 (w_ar ws (n_v vs 0) 33) j := el_kp s2.1 r9 cr_0_33 (by decide)
  have hE_0_34_1 : ∀ j : Int, w_ei ws (w_ar ws (n_v vs 0) 34) j = w_ei w1 (w_ar ws (n_v vs 0) 34) j := el_kp s1.1 r12 cr_0_34 (by decide)
  have hE_0_34_2 : ∀ j : Int, w_ei w1 (w_ar ws (n_v vs 0) 34) j = w_ei w2 (w_ar ws (n_v vs 0) 34) j := el_kp s2.1 r9 cr_0_34 (by decide)
  have hE_0_35_1 : ∀ j : Int, w_ei ws (w_ar ws (n_v vs 0) 35) j = w_ei w1 (w_ar ws (n_v vs 0) 35) j := el_kp s1.1 r12 cr_0_35 (by decide)
  have hE_0_35_2 : ∀ j : Int, w_ei w1 (w_ar ws (n_v vs 0) 35) j = w_ei w2 (w_ar ws (n_v vs 0) 35) j := el_kp s2.1 r9 cr_0_35 (by decide)
  have hE_0_36_2 : ∀ j : Int, w_ei w1 (w_ar ws (n_v vs 0) 36) j = w_ei w2 (w_ar ws (n_v vs 0) 36) j := el_kp s2.1 r9 cr_0_36 (by decide)
  have hE_0_37_1 : ∀ j : Int, w_ei ws (w_ar ws (n_v vs 0) 37) j = w_ei w1 (w_ar ws (n_v vs 0) 37) j := el_kp s1.1 r12 cr_0_37 (by decide)
  have hE_0_40_1 : ∀ j : Int, w_ei ws (w_ar ws (n_v vs 0) 40) j = w_ei w1 (w_ar ws (n_v vs 0) 40) j := el_kp s1.1 r12 cr_0_40 (by decide)
  have hE_0_40_2 : ∀ j : Int, w_ei w1 (w_ar ws (n_v vs 0) 40) j = w_ei w2 (w_ar ws (n_v vs 0) 40) j := el_kp s2.1 r9 cr_0_40 (by decide)
  have hE_0_41_1 : ∀ j : Int, w_ei ws (w_ar ws (n_v vs 0) 41) j = w_ei w1 (w_ar ws (n_v vs 0) 41) j := el_kp s1.1 r12 cr_0_41 (by decide)
  have hE_0_41_2 : ∀ j : Int, w_ei w1 (w_ar ws (n_v vs 0) 41) j = w_ei w2 (w_ar ws (n_v vs 0) 41) j := el_kp s2.1 r9 cr_0_41 (by decide)
  have kz_0_31 := fdq_145 hD hth r0
  have kz_0_32 := fdq_140 hD hth r0
  have kz_0_39 := fdq_135 hD hth r0
  have hrf0 : 0 ≤ v_iv (n_v vs 21) ∧ v_iv (n_v vs 21) ≤ 79 := vc_Mo_turnRound_10_r0 (v_iv (n_v vs 1)) (v_iv (n_v vs 2)) (v_iv (n_v vs 6)) (v_iv (n_v vs 7)) (v_iv (n_v vs 18)) (v_iv (n_v vs 19)) (v_iv (n_v vs 20)) (v_iv (n_v vs 21)) (w_ei ws (w_ar ws (n_v vs 0) 33)) (w_ei ws (w_ar ws (n_v vs 0) 34)) (w_ei ws (w_ar ws (n_v vs 0) 35)) (w_fi ws (n_v vs 0) 32) (w_ei ws (w_ar ws (n_v vs 0) 40)) (w_ei ws (w_ar ws (n_v vs 0) 41)) (w_fi ws (n_v vs 0) 39) (w_ei ws (w_ar ws (n_v vs 0) 17)) (w_ei ws (w_ar ws (n_v vs 0) 36)) (w_ei ws (w_ar ws (n_v vs 0) 37)) (w_fi ws (n_v vs 0) 31) (w_ei w1 (w_ar ws (n_v vs 0) 36)) (w_ei w1 (w_ar ws (n_v vs 0) 33)) (w_ei w1 (w_ar ws (n_v vs 0) 34)) (w_fi w1 (n_v vs 0) 31) (w_fi w1 (n_v vs 0) 32) (w_ei w1 (w_ar ws (n_v vs 0) 35)) (w_ei w1 (w_ar ws (n_v vs 0) 17)) (w_ei w1 (w_ar ws (n_v vs 0) 40)) (w_ei w1 (w_ar ws (n_v vs 0) 41)) (w_fi w1 (n_v vs 0) 39) (w_ei w2 (w_ar ws (n_v vs 0) 36)) (w_ei w2 (w_ar ws (n_v vs 0) 33)) (w_ei w2 (w_ar ws (n_v vs 0) 34)) (w_fi w2 (n_v vs 0) 31) (w_fi w2 (n_v vs 0) 32) (w_ei w2 (w_ar ws (n_v vs 0) 35)) (w_ei w2 (w_ar ws (n_v vs 0) 17)) (w_ei w2 (w_ar ws (n_v vs 0) 40)) (w_ei w2 (w_ar ws (n_v vs 0) 41)) (w_fi w2 (n_v vs 0) 39) (w_ei w1 (w_ar ws (n_v vs 0) 37)) k1 k2 k6 k7 k18 k19 k20 k21 f0 f1 f3 g5 f6 f28 f29 fe_0_31_1 fe_0_32_1 fe_0_39_1 fe_0_31_2 fe_0_32_2 fe_0_39_2 hE_0_17_1 hE_0_17_2 hE_0_33_1 hE_0_33_2 hE_0_34_1 hE_0_34_2 hE_0_35_1 hE_0_35_2 hE_0_36_2 hE_0_37_1 hE_0_40_1 hE_0_40_2 hE_0_41_1 hE_0_41_2 kz_0_31 kz_0_32 kz_0_39
  have rf21 : tv_ok ta (0, 0, 79, []) (n_v vs 21) := tv_in t21 (by first | omega | grind) (by first | omega | grind)
  refine ⟨List.forall_mem_cons.mpr ⟨rf21, (fun _ h => (by cases h))⟩, [], trivial, ?_, (fun _ h => (by cases h))⟩
  rw [List.append_nil]
  exact (fun _ h => (by cases h))
set_option maxHeartbeats 4000000 in
theorem vc_Mo_turnRound_11_0 (pt_0 : Int → Int) (ph_0 : Int → Int) (alive_0 : Int → Int) (pm_0 : Int) (faceMany_0 : Int → Int) (face_0 : Int → Int) (faces_0 : Int) (blockOf_0 : Int → Int) (rot_0 : Int → Int) (pn_0 : Int) (rotMany_1 : Int → Int) (pt_1 : Int → Int) (ph_1 : Int → Int) (pn_1 : Int) (pm_1 : Int) (alive_1 : Int → Int) (blockOf_1 : Int → Int) (faceMany_1 : Int → Int) (face_1 : Int → Int) (faces_1 : Int) (rotMany_2 : Int → Int) (pt_2 : Int → Int) (ph_2 : Int → Int) (pn_2 : Int) (pm_2 : Int) (alive_2 : Int → Int) (blockOf_2 : Int → Int) (faceMany_2 : Int → Int) (face_2 : Int → Int) (faces_2 : Int) (rot_1 : Int → Int) (f28 : GOK (pn_2) (pm_2) (pt_2) (ph_2)) (fe_0_31_1 : pn_0 = pn_1) (fe_0_32_1 : pm_0 = pm_1) (fe_0_39_1 : faces_0 = faces_1) (fe_0_31_2 : pn_1 = pn_2) (fe_0_32_2 : pm_1 = pm_2) (fe_0_39_2 : faces_1 = faces_2) (hE_0_17_1 : ∀ j : Int, blockOf_0 j = blockOf_1 j) (hE_0_17_2 : ∀ j : Int, blockOf_1 j = blockOf_2 j) (hE_0_33_1 : ∀ j : Int, pt_0 j = pt_1 j) (hE_0_33_2 : ∀ j : Int, pt_1 j = pt_2 j) (hE_0_34_1 : ∀ j : Int, ph_0 j = ph_1 j) (hE_0_34_2 : ∀ j : Int, ph_1 j = ph_2 j) (hE_0_35_1 : ∀ j : Int, alive_0 j = alive_1 j) (hE_0_35_2 : ∀ j : Int, alive_1 j = alive_2 j) (hE_0_36_2 : ∀ j : Int, rotMany_1 j = rotMany_2 j) (hE_0_37_1 : ∀ j : Int, rot_0 j = rot_1 j) (hE_0_40_1 : ∀ j : Int, faceMany_0 j = faceMany_1 j) (hE_0_40_2 : ∀ j : Int, faceMany_1 j = faceMany_2 j) (hE_0_41_1 : ∀ j : Int, face_0 j = face_1 j) (hE_0_41_2 : ∀ j : Int, face_1 j = face_2 j) (kz_0_31 : 0 ≤ pn_0 ∧ pn_0 ≤ 25) (kz_0_32 : 0 ≤ pm_0 ∧ pm_0 ≤ 80) (kz_0_39 : 0 ≤ faces_0 ∧ faces_0 ≤ 120) : GOK (pn_0) (pm_0) (pt_0) (ph_0) := by
  subst fe_0_31_1
  subst fe_0_32_1
  subst fe_0_39_1
  subst fe_0_31_2
  subst fe_0_32_2
  subst fe_0_39_2
  have e_hE_0_17_1 := funext hE_0_17_1; subst e_hE_0_17_1
  have e_hE_0_17_2 := funext hE_0_17_2; subst e_hE_0_17_2
  have e_hE_0_33_1 := funext hE_0_33_1; subst e_hE_0_33_1
  have e_hE_0_33_2 := funext hE_0_33_2; subst e_hE_0_33_2
  have e_hE_0_34_1 := funext hE_0_34_1; subst e_hE_0_34_1
  have e_hE_0_34_2 := funext hE_0_34_2; subst e_hE_0_34_2
  have e_hE_0_35_1 := funext hE_0_35_1; subst e_hE_0_35_1
  have e_hE_0_35_2 := funext hE_0_35_2; subst e_hE_0_35_2
  have e_hE_0_36_2 := funext hE_0_36_2; subst e_hE_0_36_2
  have e_hE_0_37_1 := funext hE_0_37_1; subst e_hE_0_37_1
  have e_hE_0_40_1 := funext hE_0_40_1; subst e_hE_0_40_1
  have e_hE_0_40_2 := funext hE_0_40_2; subst e_hE_0_40_2
  have e_hE_0_41_1 := funext hE_0_41_1; subst e_hE_0_41_1
  have e_hE_0_41_2 := funext hE_0_41_2; subst e_hE_0_41_2
  first | assumption
set_option maxHeartbeats 4000000 in
theorem vc_Mo_turnRound_11_1 (x2 : Int) (pt_0 : Int → Int) (ph_0 : Int → Int) (alive_0 : Int → Int) (pm_0 : Int) (faceMany_0 : Int → Int) (face_0 : Int → Int) (faces_0 : Int) (blockOf_0 : Int → Int) (rot_0 : Int → Int) (pn_0 : Int) (rotMany_1 : Int → Int) (pt_1 : Int → Int) (ph_1 : Int → Int) (pn_1 : Int) (pm_1 : Int) (alive_1 : Int → Int) (blockOf_1 : Int → Int) (faceMany_1 : Int → Int) (face_1 : Int → Int) (faces_1 : Int) (rotMany_2 : Int → Int) (pt_2 : Int → Int) (ph_2 : Int → Int) (pn_2 : Int) (pm_2 : Int) (alive_2 : Int → Int) (blockOf_2 : Int → Int) (faceMany_2 : Int → Int) (face_2 : Int → Int) (faces_2 : Int) (rot_1 : Int → Int) (k2 : 0 ≤ x2 ∧ x2 ≤ 79) (f29 : DRB (pm_2) (faces_2) (pt_2) (ph_2) (alive_2) (blockOf_2) (faceMany_2) (face_2) (x2)) (fe_0_31_1 : pn_0 = pn_1) (fe_0_32_1 : pm_0 = pm_1) (fe_0_39_1 : faces_0 = faces_1) (fe_0_31_2 : pn_1 = pn_2) (fe_0_32_2 : pm_1 = pm_2) (fe_0_39_2 : faces_1 = faces_2) (hE_0_17_1 : ∀ j : Int, blockOf_0 j = blockOf_1 j) (hE_0_17_2 : ∀ j : Int, blockOf_1 j = blockOf_2 j) (hE_0_33_1 : ∀ j : Int, pt_0 j = pt_1 j) (hE_0_33_2 : ∀ j : Int, pt_1 j = pt_2 j) (hE_0_34_1 : ∀ j : Int, ph_0 j = ph_1 j) (hE_0_34_2 : ∀ j : Int, ph_1 j = ph_2 j) (hE_0_35_1 : ∀ j : Int, alive_0 j = alive_1 j) (hE_0_35_2 : ∀ j : Int, alive_1 j = alive_2 j) (hE_0_36_2 : ∀ j : Int, rotMany_1 j = rotMany_2 j) (hE_0_37_1 : ∀ j : Int, rot_0 j = rot_1 j) (hE_0_40_1 : ∀ j : Int, faceMany_0 j = faceMany_1 j) (hE_0_40_2 : ∀ j : Int, faceMany_1 j = faceMany_2 j) (hE_0_41_1 : ∀ j : Int, face_0 j = face_1 j) (hE_0_41_2 : ∀ j : Int, face_1 j = face_2 j) (kz_0_31 : 0 ≤ pn_0 ∧ pn_0 ≤ 25) (kz_0_32 : 0 ≤ pm_0 ∧ pm_0 ≤ 80) (kz_0_39 : 0 ≤ faces_0 ∧ faces_0 ≤ 120) : DRB (pm_0) (faces_0) (pt_0) (ph_0) (alive_0) (blockOf_0) (faceMany_0) (face_0) (x2) := by
  subst fe_0_31_1
  subst fe_0_32_1
  subst fe_0_39_1
  subst fe_0_31_2
  subst fe_0_32_2
  subst fe_0_39_2
  have e_hE_0_17_1 := funext hE_0_17_1; subst e_hE_0_17_1
  have e_hE_0_17_2 := funext hE_0_17_2; subst e_hE_0_17_2
  have e_hE_0_33_1 := funext hE_0_33_1; subst e_hE_0_33_1
  have e_hE_0_33_2 := funext hE_0_33_2; subst e_hE_0_33_2
  have e_hE_0_34_1 := funext hE_0_34_1; subst e_hE_0_34_1
  have e_hE_0_34_2 := funext hE_0_34_2; subst e_hE_0_34_2
  have e_hE_0_35_1 := funext hE_0_35_1; subst e_hE_0_35_1
  have e_hE_0_35_2 := funext hE_0_35_2; subst e_hE_0_35_2
  have e_hE_0_36_2 := funext hE_0_36_2; subst e_hE_0_36_2
  have e_hE_0_37_1 := funext hE_0_37_1; subst e_hE_0_37_1
  have e_hE_0_40_1 := funext hE_0_40_1; subst e_hE_0_40_1
  have e_hE_0_40_2 := funext hE_0_40_2; subst e_hE_0_40_2
  have e_hE_0_41_1 := funext hE_0_41_1; subst e_hE_0_41_1
  have e_hE_0_41_2 := funext hE_0_41_2; subst e_hE_0_41_2
  first | assumption
set_option maxHeartbeats 4000000 in
theorem vc_Mo_turnRound_11_2 (pt_0 : Int → Int) (ph_0 : Int → Int) (alive_0 : Int → Int) (pm_0 : Int) (faceMany_0 : Int → Int) (face_0 : Int → Int) (faces_0 : Int) (blockOf_0 : Int → Int) (rot_0 : Int → Int) (pn_0 : Int) (rotMany_1 : Int → Int) (pt_1 : Int → Int) (ph_1 : Int → Int) (pn_1 : Int) (pm_1 : Int) (alive_1 : Int → Int) (blockOf_1 : Int → Int) (faceMany_1 : Int → Int) (face_1 : Int → Int) (faces_1 : Int) (rotMany_2 : Int → Int) (pt_2 : Int → Int) (ph_2 : Int → Int) (pn_2 : Int) (pm_2 : Int) (alive_2 : Int → Int) (blockOf_2 : Int → Int) (faceMany_2 : Int → Int) (face_2 : Int → Int) (faces_2 : Int) (rot_1 : Int → Int) (f30 : FMB (faces_2) (faceMany_2)) (fe_0_31_1 : pn_0 = pn_1) (fe_0_32_1 : pm_0 = pm_1) (fe_0_39_1 : faces_0 = faces_1) (fe_0_31_2 : pn_1 = pn_2) (fe_0_32_2 : pm_1 = pm_2) (fe_0_39_2 : faces_1 = faces_2) (hE_0_17_1 : ∀ j : Int, blockOf_0 j = blockOf_1 j) (hE_0_17_2 : ∀ j : Int, blockOf_1 j = blockOf_2 j) (hE_0_33_1 : ∀ j : Int, pt_0 j = pt_1 j) (hE_0_33_2 : ∀ j : Int, pt_1 j = pt_2 j) (hE_0_34_1 : ∀ j : Int, ph_0 j = ph_1 j) (hE_0_34_2 : ∀ j : Int, ph_1 j = ph_2 j) (hE_0_35_1 : ∀ j : Int, alive_0 j = alive_1 j) (hE_0_35_2 : ∀ j : Int, alive_1 j = alive_2 j) (hE_0_36_2 : ∀ j : Int, rotMany_1 j = rotMany_2 j) (hE_0_37_1 : ∀ j : Int, rot_0 j = rot_1 j) (hE_0_40_1 : ∀ j : Int, faceMany_0 j = faceMany_1 j) (hE_0_40_2 : ∀ j : Int, faceMany_1 j = faceMany_2 j) (hE_0_41_1 : ∀ j : Int, face_0 j = face_1 j) (hE_0_41_2 : ∀ j : Int, face_1 j = face_2 j) (kz_0_31 : 0 ≤ pn_0 ∧ pn_0 ≤ 25) (kz_0_32 : 0 ≤ pm_0 ∧ pm_0 ≤ 80) (kz_0_39 : 0 ≤ faces_0 ∧ faces_0 ≤ 120) : FMB (faces_0) (faceMany_0) := by
  subst fe_0_31_1
  subst fe_0_32_1
  subst fe_0_39_1
  subst fe_0_31_2
  subst fe_0_32_2
  subst fe_0_39_2
  have e_hE_0_17_1 := funext hE_0_17_1; subst e_hE_0_17_1
  have e_hE_0_17_2 := funext hE_0_17_2; subst e_hE_0_17_2
  have e_hE_0_33_1 := funext hE_0_33_1; subst e_hE_0_33_1
  have e_hE_0_33_2 := funext hE_0_33_2; subst e_hE_0_33_2
  have e_hE_0_34_1 := funext hE_0_34_1; subst e_hE_0_34_1
  have e_hE_0_34_2 := funext hE_0_34_2; subst e_hE_0_34_2
  have e_hE_0_35_1 := funext hE_0_35_1; subst e_hE_0_35_1
  have e_hE_0_35_2 := funext hE_0_35_2; subst e_hE_0_35_2
  have e_hE_0_36_2 := funext hE_0_36_2; subst e_hE_0_36_2
  have e_hE_0_37_1 := funext hE_0_37_1; subst e_hE_0_37_1
  have e_hE_0_40_1 := funext hE_0_40_1; subst e_hE_0_40_1
  have e_hE_0_40_2 := funext hE_0_40_2; subst e_hE_0_40_2
  have e_hE_0_41_1 := funext hE_0_41_1; subst e_hE_0_41_1
  have e_hE_0_41_2 := funext hE_0_41_2; subst e_hE_0_41_2
  first | assumption
set_option maxHeartbeats 4000000 in
theorem vc_Mo_turnRound_11_3 (x1 : Int) (x17 : Int) (pt_0 : Int → Int) (ph_0 : Int → Int) (alive_0 : Int → Int) (pm_0 : Int) (faceMany_0 : Int → Int) (face_0 : Int → Int) (faces_0 : Int) (blockOf_0 : Int → Int) (rotMany_0 : Int → Int) (rot_0 : Int → Int) (pn_0 : Int) (rotMany_1 : Int → Int) (pt_1 : Int → Int) (ph_1 : Int → Int) (pn_1 : Int) (pm_1 : Int) (alive_1 : Int → Int) (blockOf_1 : Int → Int) (faceMany_1 : Int → Int) (face_1 : Int → Int) (faces_1 : Int) (rotMany_2 : Int → Int) (pt_2 : Int → Int) (ph_2 : Int → Int) (pn_2 : Int) (pm_2 : Int) (alive_2 : Int → Int) (blockOf_2 : Int → Int) (faceMany_2 : Int → Int) (face_2 : Int → Int) (faces_2 : Int) (rot_1 : Int → Int) (k1 : 0 ≤ x1 ∧ x1 ≤ 24) (k17 : 1 ≤ x17 ∧ x17 ≤ 80) (f31 : 1 * x1 + ((-1) * pn_2 + 0) ≤ (-1)) (fe_0_31_1 : pn_0 = pn_1) (fe_0_32_1 : pm_0 = pm_1) (fe_0_39_1 : faces_0 = faces_1) (fe_0_31_2 : pn_1 = pn_2) (fe_0_32_2 : pm_1 = pm_2) (fe_0_39_2 : faces_1 = faces_2) (hE_0_17_1 : ∀ j : Int, blockOf_0 j = blockOf_1 j) (hE_0_17_2 : ∀ j : Int, blockOf_1 j = blockOf_2 j) (hE_0_33_1 : ∀ j : Int, pt_0 j = pt_1 j) (hE_0_33_2 : ∀ j : Int, pt_1 j = pt_2 j) (hE_0_34_1 : ∀ j : Int, ph_0 j = ph_1 j) (hE_0_34_2 : ∀ j : Int, ph_1 j = ph_2 j) (hE_0_35_1 : ∀ j : Int, alive_0 j = alive_1 j) (hE_0_35_2 : ∀ j : Int, alive_1 j = alive_2 j) (hE_0_36_1 : ∀ j : Int, 0 ≤ j → (j = x1 → rotMany_0 j = x17) ∧ (j ≠ x1 → rotMany_0 j = rotMany_1 j)) (hE_0_36_2 : ∀ j : Int, rotMany_1 j = rotMany_2 j) (hE_0_37_1 : ∀ j : Int, rot_0 j = rot_1 j) (hE_0_40_1 : ∀ j : Int, faceMany_0 j = faceMany_1 j) (hE_0_40_2 : ∀ j : Int, faceMany_1 j = faceMany_2 j) (hE_0_41_1 : ∀ j : Int, face_0 j = face_1 j) (hE_0_41_2 : ∀ j : Int, face_1 j = face_2 j) (kz_0_31 : 0 ≤ pn_0 ∧ pn_0 ≤ 25) (kz_0_32 : 0 ≤ pm_0 ∧ pm_0 ≤ 80) (kz_0_39 : 0 ≤ faces_0 ∧ faces_0 ≤ 120) : 1 * x1 + ((-1) * pn_0 + 0) ≤ (-1) := by
  subst fe_0_31_1
  subst fe_0_32_1
  subst fe_0_39_1
  subst fe_0_31_2
  subst fe_0_32_2
  subst fe_0_39_2
  have e_hE_0_17_1 := funext hE_0_17_1; subst e_hE_0_17_1
  have e_hE_0_17_2 := funext hE_0_17_2; subst e_hE_0_17_2
  have e_hE_0_33_1 := funext hE_0_33_1; subst e_hE_0_33_1
  have e_hE_0_33_2 := funext hE_0_33_2; subst e_hE_0_33_2
  have e_hE_0_34_1 := funext hE_0_34_1; subst e_hE_0_34_1
  have e_hE_0_34_2 := funext hE_0_34_2; subst e_hE_0_34_2
  have e_hE_0_35_1 := funext hE_0_35_1; subst e_hE_0_35_1
  have e_hE_0_35_2 := funext hE_0_35_2; subst e_hE_0_35_2
  have e_hE_0_36_2 := funext hE_0_36_2; subst e_hE_0_36_2
  have e_hE_0_37_1 := funext hE_0_37_1; subst e_hE_0_37_1
  have e_hE_0_40_1 := funext hE_0_40_1; subst e_hE_0_40_1
  have e_hE_0_40_2 := funext hE_0_40_2; subst e_hE_0_40_2
  have e_hE_0_41_1 := funext hE_0_41_1; subst e_hE_0_41_1
  have e_hE_0_41_2 := funext hE_0_41_2; subst e_hE_0_41_2
  first
    | omega
    | (have v := (hE_0_36_1 x1 (by omega)).1 rfl
       omega)
set_option maxHeartbeats 4000000 in
theorem vc_Mo_turnRound_11_4 (x1 : Int) (x2 : Int) (x4 : Int) (x6 : Int) (x7 : Int) (x18 : Int) (x19 : Int) (x20 : Int) (x21 : Int) (pt_0 : Int → Int) (ph_0 : Int → Int) (alive_0 : Int → Int) (pm_0 : Int) (faceMany_0 : Int → Int) (face_0 : Int → Int) (faces_0 : Int) (blockOf_0 : Int → Int) (rotMany_0 : Int → Int) (rot_0 : Int → Int) (pn_0 : Int) (rotMany_1 : Int → Int) (pt_1 : Int → Int) (ph_1 : Int → Int) (pn_1 : Int) (pm_1 : Int) (alive_1 : Int → Int) (blockOf_1 : Int → Int) (faceMany_1 : Int → Int) (face_1 : Int → Int) (faces_1 : Int) (rotMany_2 : Int → Int) (pt_2 : Int → Int) (ph_2 : Int → Int) (pn_2 : Int) (pm_2 : Int) (alive_2 : Int → Int) (blockOf_2 : Int → Int) (faceMany_2 : Int → Int) (face_2 : Int → Int) (faces_2 : Int) (rot_1 : Int → Int) (k1 : 0 ≤ x1 ∧ x1 ≤ 24) (k2 : 0 ≤ x2 ∧ x2 ≤ 79) (k4 : 0 ≤ x4 ∧ x4 ≤ 24) (k6 : 0 ≤ x6 ∧ x6 ≤ 79) (k7 : 0 ≤ x7 ∧ x7 ≤ 79) (k18 : 1 ≤ x18 ∧ x18 ≤ 120) (k19 : 0 ≤ x19 ∧ x19 ≤ 24) (k20 : (-1) ≤ x20 ∧ x20 ≤ 24) (k21 : 0 ≤ x21 ∧ x21 ≤ 79) (d3 : x4 + (-4294967296) ≤ x1 ∧ x1 ≤ x4 + 0) (d5 : x1 + (-4294967296) ≤ x4 ∧ x4 ≤ x1 + 0) (f0 : EOF (pm_0) (pt_0) (ph_0) (alive_0) (x1) (x20) (x21)) (f1 : BHP (faces_0) (faceMany_0) (face_0) (x19) (x1) (x20)) (f3 : ACR (pt_0) (ph_0) (x7) (x1) (x19)) (g5 : x18 = faces_0) (f6 : TRA (pn_0) (pm_0) (faces_0) (pt_0) (ph_0) (alive_0) (blockOf_0) (faceMany_0) (face_0) (rotMany_0) (rot_0) (x2) (x1) (x6) (x7)) (f10 : 1 * x1 + ((-1) * pn_0 + 0) ≤ (-1)) (f28 : GOK (pn_2) (pm_2) (pt_2) (ph_2)) (f29 : DRB (pm_2) (faces_2) (pt_2) (ph_2) (alive_2) (blockOf_2) (faceMany_2) (face_2) (x2)) (fe_0_31_1 : pn_0 = pn_1) (fe_0_32_1 : pm_0 = pm_1) (fe_0_39_1 : faces_0 = faces_1) (fe_0_31_2 : pn_1 = pn_2) (fe_0_32_2 : pm_1 = pm_2) (fe_0_39_2 : faces_1 = faces_2) (hE_0_17_1 : ∀ j : Int, blockOf_0 j = blockOf_1 j) (hE_0_17_2 : ∀ j : Int, blockOf_1 j = blockOf_2 j) (hE_0_33_1 : ∀ j : Int, pt_0 j = pt_1 j) (hE_0_33_2 : ∀ j : Int, pt_1 j = pt_2 j) (hE_0_34_1 : ∀ j : Int, ph_0 j = ph_1 j) (hE_0_34_2 : ∀ j : Int, ph_1 j = ph_2 j) (hE_0_35_1 : ∀ j : Int, alive_0 j = alive_1 j) (hE_0_35_2 : ∀ j : Int, alive_1 j = alive_2 j) (hE_0_36_2 : ∀ j : Int, rotMany_1 j = rotMany_2 j) (hE_0_37_1 : ∀ j : Int, rot_0 j = rot_1 j) (hE_0_40_1 : ∀ j : Int, faceMany_0 j = faceMany_1 j) (hE_0_40_2 : ∀ j : Int, faceMany_1 j = faceMany_2 j) (hE_0_41_1 : ∀ j : Int, face_0 j = face_1 j) (hE_0_41_2 : ∀ j : Int, face_1 j = face_2 j) (kz_0_31 : 0 ≤ pn_0 ∧ pn_0 ≤ 25) (kz_0_32 : 0 ≤ pm_0 ∧ pm_0 ≤ 80) (kz_0_39 : 0 ≤ faces_0 ∧ faces_0 ≤ 120) : TRN (pn_0) (pm_0) (faces_0) (pt_0) (ph_0) (alive_0) (blockOf_0) (faceMany_0) (face_0) (rotMany_0) (rot_0) (x2) (x1) (x6) (x21) := by
  subst fe_0_31_1
  subst fe_0_32_1
  subst fe_0_39_1
  subst fe_0_31_2
  subst fe_0_32_2
  subst fe_0_39_2
  have e_hE_0_17_1 := funext hE_0_17_1; subst e_hE_0_17_1
  have e_hE_0_17_2 := funext hE_0_17_2; subst e_hE_0_17_2
  have e_hE_0_33_1 := funext hE_0_33_1; subst e_hE_0_33_1
  have e_hE_0_33_2 := funext hE_0_33_2; subst e_hE_0_33_2
  have e_hE_0_34_1 := funext hE_0_34_1; subst e_hE_0_34_1
  have e_hE_0_34_2 := funext hE_0_34_2; subst e_hE_0_34_2
  have e_hE_0_35_1 := funext hE_0_35_1; subst e_hE_0_35_1
  have e_hE_0_35_2 := funext hE_0_35_2; subst e_hE_0_35_2
  have e_hE_0_36_2 := funext hE_0_36_2; subst e_hE_0_36_2
  have e_hE_0_37_1 := funext hE_0_37_1; subst e_hE_0_37_1
  have e_hE_0_40_1 := funext hE_0_40_1; subst e_hE_0_40_1
  have e_hE_0_40_2 := funext hE_0_40_2; subst e_hE_0_40_2
  have e_hE_0_41_1 := funext hE_0_41_1; subst e_hE_0_41_1
  have e_hE_0_41_2 := funext hE_0_41_2; subst e_hE_0_41_2
  first
    | exact trn_1 ‹GOK _ _ _ _› (by omega) (by omega) ‹DRB _ _ _ _ _ _ _ _ _› ‹TRA _ _ _ _ _ _ _ _ _ _ _ _ _ _ _› (by omega) ‹ACR _ _ _ _ _› ‹BHP _ _ _ _ _ _› ‹EOF _ _ _ _ _ _ _›
set_option maxHeartbeats 4000000 in
theorem vc_Mo_turnRound_11_5 (x1 : Int) (x4 : Int) (x8 : Int) (x15 : Int) (x17 : Int) (pt_0 : Int → Int) (ph_0 : Int → Int) (alive_0 : Int → Int) (pm_0 : Int) (faceMany_0 : Int → Int) (face_0 : Int → Int) (faces_0 : Int) (blockOf_0 : Int → Int) (rotMany_0 : Int → Int) (rot_0 : Int → Int) (pn_0 : Int) (rotMany_1 : Int → Int) (pt_1 : Int → Int) (ph_1 : Int → Int) (pn_1 : Int) (pm_1 : Int) (alive_1 : Int → Int) (blockOf_1 : Int → Int) (faceMany_1 : Int → Int) (face_1 : Int → Int) (faces_1 : Int) (rotMany_2 : Int → Int) (pt_2 : Int → Int) (ph_2 : Int → Int) (pn_2 : Int) (pm_2 : Int) (alive_2 : Int → Int) (blockOf_2 : Int → Int) (faceMany_2 : Int → Int) (face_2 : Int → Int) (faces_2 : Int) (rot_1 : Int → Int) (gx : Int) (k1 : 0 ≤ x1 ∧ x1 ≤ 24) (k4 : 0 ≤ x4 ∧ x4 ≤ 24) (k8 : (-2) ≤ x8 ∧ x8 ≤ 81) (k15 : 0 ≤ x15 ∧ x15 ≤ 79) (k17 : 1 ≤ x17 ∧ x17 ≤ 80) (d0 : x15 + 1 ≤ x17 ∧ x17 ≤ x15 + 1) (d3 : x4 + (-4294967296) ≤ x1 ∧ x1 ≤ x4 + 0) (d5 : x1 + (-4294967296) ≤ x4 ∧ x4 ≤ x1 + 0) (h16 : x15 = rotMany_1 (x1)) (f22 : (-1) * rotMany_1 (x1) + ((-1) * x8 + 0) ≤ (-80)) (fe_0_31_1 : pn_0 = pn_1) (fe_0_32_1 : pm_0 = pm_1) (fe_0_39_1 : faces_0 = faces_1) (fe_0_31_2 : pn_1 = pn_2) (fe_0_32_2 : pm_1 = pm_2) (fe_0_39_2 : faces_1 = faces_2) (hE_0_17_1 : ∀ j : Int, blockOf_0 j = blockOf_1 j) (hE_0_17_2 : ∀ j : Int, blockOf_1 j = blockOf_2 j) (hE_0_33_1 : ∀ j : Int, pt_0 j = pt_1 j) (hE_0_33_2 : ∀ j : Int, pt_1 j = pt_2 j) (hE_0_34_1 : ∀ j : Int, ph_0 j = ph_1 j) (hE_0_34_2 : ∀ j : Int, ph_1 j = ph_2 j) (hE_0_35_1 : ∀ j : Int, alive_0 j = alive_1 j) (hE_0_35_2 : ∀ j : Int, alive_1 j = alive_2 j) (hE_0_36_1 : ∀ j : Int, 0 ≤ j → (j = x1 → rotMany_0 j = x17) ∧ (j ≠ x1 → rotMany_0 j = rotMany_1 j)) (hE_0_36_2 : ∀ j : Int, rotMany_1 j = rotMany_2 j) (hE_0_37_1 : ∀ j : Int, rot_0 j = rot_1 j) (hE_0_40_1 : ∀ j : Int, faceMany_0 j = faceMany_1 j) (hE_0_40_2 : ∀ j : Int, faceMany_1 j = faceMany_2 j) (hE_0_41_1 : ∀ j : Int, face_0 j = face_1 j) (hE_0_41_2 : ∀ j : Int, face_1 j = face_2 j) (kz_0_31 : 0 ≤ pn_0 ∧ pn_0 ≤ 25) (kz_0_32 : 0 ≤ pm_0 ∧ pm_0 ≤ 80) (kz_0_39 : 0 ≤ faces_0 ∧ faces_0 ≤ 120) (ex2 : gx = 0 + (1 * x8 + 0)) : (-1) * rotMany_0 (x1) + ((-1) * gx + 0) ≤ (-81) := by
  subst fe_0_31_1
  subst fe_0_32_1
  subst fe_0_39_1
  subst fe_0_31_2
  subst fe_0_32_2
  subst fe_0_39_2
  have e_hE_0_17_1 := funext hE_0_17_1; subst e_hE_0_17_1
  have e_hE_0_17_2 := funext hE_0_17_2; subst e_hE_0_17_2
  have e_hE_0_33_1 := funext hE_0_33_1; subst e_hE_0_33_1
  have e_hE_0_33_2 := funext hE_0_33_2; subst e_hE_0_33_2
  have e_hE_0_34_1 := funext hE_0_34_1; subst e_hE_0_34_1
  have e_hE_0_34_2 := funext hE_0_34_2; subst e_hE_0_34_2
  have e_hE_0_35_1 := funext hE_0_35_1; subst e_hE_0_35_1
  have e_hE_0_35_2 := funext hE_0_35_2; subst e_hE_0_35_2
  have e_hE_0_36_2 := funext hE_0_36_2; subst e_hE_0_36_2
  have e_hE_0_37_1 := funext hE_0_37_1; subst e_hE_0_37_1
  have e_hE_0_40_1 := funext hE_0_40_1; subst e_hE_0_40_1
  have e_hE_0_40_2 := funext hE_0_40_2; subst e_hE_0_40_2
  have e_hE_0_41_1 := funext hE_0_41_1; subst e_hE_0_41_1
  have e_hE_0_41_2 := funext hE_0_41_2; subst e_hE_0_41_2
  first
    | omega
    | (have v := (hE_0_36_1 x1 (by omega)).1 rfl
       omega)
def o_Mo_turnRound_11 : or_T := (107, 22, [(0, (2, 0, 0, [165])), (1, (0, 0, 24, [])), (2, (0, 0, 79, [])), (3, (2, 0, 0, [165])), (4, (0, 0, 24, [])), (5, (0, 0, 79, [])), (6, (0, 0, 79, [])), (7, (0, 0, 79, [])), (8, (0, -2, 81, [])), (9, (2, 0, 0, [184])), (10, (0, 80, 80, [])), (11, (0, 0, 1920, [])), (12, (2, 0, 0, [183])), (13, (0, 0, 80, [])), (14, (0, 0, 2000, [])), (15, (0, 0, 79, [])), (16, (0, 1, 1, [])), (17, (0, 1, 80, [])), (18, (0, 1, 120, [])), (19, (0, 0, 24, [])), (20, (0, -1, 24, [])), (21, (0, 0, 79, []))], [(20, [3, 4, 20, 21], [60, 1, 3, 85, 32, 33, 34, 35]), (20, [3, 19, 4, 20], [60, 1, 2, 171, 39, 40, 41]), (20, [3, 19, 4], [60, 1, 2, 172, 39, 40, 41]), (20, [3, 7, 4, 19], [60, 0, 2, 84, 33, 34]), (8, [18], [4]), (9, [18, 3], [39]), (20, [3, 5, 4, 6, 7], [60, 3, 8, 179, 31, 32, 39, 33, 34, 35, 17, 40, 41, 36, 37]), (20, [3], [60, 2, 2, 75, 31, 32, 33, 34]), (20, [3, 5], [60, 2, 6, 175, 32, 39, 33, 34, 35, 17, 40, 41]), (20, [3], [60, 1, 1, 170, 39, 40]), (20, [4, 3], [30, -1, 1, 0, 0, -1, 1, 31]), (24, [0, 3], []), (24, [1, 4], []), (24, [2, 5], []), (100, [12, 4, 17], []), (1, [17, 15, 16], []), (10, [15, 12, 4], []), (9, [12, 3], [36]), (20, [3], [60, 2, 2, 75, 31, 32, 33, 34]), (20, [3, 5], [60, 2, 6, 175, 32, 39, 33, 34, 35, 17, 40, 41]), (20, [3], [60, 1, 1, 170, 39, 40]), (20, [4, 3], [30, -1, 1, 0, 0, -1, 1, 31]), (20, [3, 4, 8], [30, -80, -1, 2, 36, -1, 0, 0]), (100, [9, 14, 7], []), (1, [14, 11, 13], []), (10, [13, 12, 4], []), (3, [11, 10, 4], []), (9, [9, 3], [37]), (20, [3], [60, 2, 2, 75, 31, 32, 33, 34]), (20, [3, 5], [60, 2, 6, 175, 32, 39, 33, 34, 35, 17, 40, 41]), (20, [3], [60, 1, 1, 170, 39, 40]), (20, [4, 3], [30, -1, 1, 0, 0, -1, 1, 31]), (20, [3, 5, 4, 6, 7], [60, 3, 8, 178, 31, 32, 39, 33, 34, 35, 17, 40, 41, 36, 37]), (20, [3, 4, 8], [30, -80, -1, 2, 36, -1, 0, 0])], [], [(0, -2, 81, [])], [(20, [3], [60, 2, 2, 75, 31, 32, 33, 34]), (20, [3, 5], [60, 2, 6, 175, 32, 39, 33, 34, 35, 17, 40, 41]), (20, [3], [60, 1, 1, 170, 39, 40]), (20, [4, 3], [30, -1, 1, 0, 0, -1, 1, 31]), (20, [3, 5, 4, 6, 21], [60, 3, 8, 180, 31, 32, 39, 33, 34, 35, 17, 40, 41, 36, 37]), (20, [3, 4, 22], [30, -81, -1, 2, 36, -1, 0, 0]), (24, [0, 3], []), (24, [1, 4], []), (24, [2, 5], [])], [(22, 8, 0, 0)], [(17, 15, 1, 1), (14, 13, 0, 1920), (14, 11, 0, 80), (1, 4, -4294967296, 0), (2, 5, -4294967296, 0), (4, 1, -4294967296, 0), (5, 2, -4294967296, 0)])
theorem oo_Mo_turnRound_11 {kA : Nat → ClassId} : or_ok PRD kA GG o_Mo_turnRound_11 := by
  refine or_mk fun A ta ws vs hD hth hl => ?_
  intro t0 r0 t1 k1 t2 k2 t3 r3 t4 k4 t5 k5 t6 k6 t7 k7 t8 k8 t9 r9 t10 k10 t11 k11 t12 r12 t13 k13 t14 k14 t15 k15 t16 k16 t17 k17 t18 k18 t19 k19 t20 k20 t21 k21 d0 d1 d2 d3 d4 d5 d6 f0 f1 f2 f3 f4 f5 f6 f7 f8 f9 f10 f11 f12 f13 ta1 w1 le1 s1 f15 f16 f17 f18 f19 f20 f21 f22 ta2 w2 le2 s2 f24 f25 f26 f27 f28 f29 f30 f31 f32 f33
  replace f0 := shm_990 f0
  replace f1 := shm_517 f1
  replace f2 := shm_514 f2
  replace f3 := shm_495 f3
  replace f4 := shm_308 f4
  replace f5 := shm_516 f5
  replace f6 := shm_1481 f6
  replace f7 := shm_575 f7
  replace f8 := shm_1474 f8
  replace f9 := shm_513 f9
  replace f10 := shm_553 f10
  replace f11 := shm_5 f11
  replace f12 := shm_5 f12
  replace f13 := shm_5 f13
  have s1 : (∀ b j, w_el ws b j = if b = v_ad (n_v vs 12) ∧ j = (v_iv (n_v vs 4)).toNat then v_iv (n_v vs 17) else w_el w1 b j) ∧ ∀ b k, w_fd ws b k = w_fd w1 b k := s1.2
  replace f15 := shm_12 f15
  replace f16 := shm_107 f16
  replace f17 := shm_684 f17
  replace f18 := shm_575 f18
  replace f19 := shm_1474 f19
  replace f20 := shm_513 f20
  replace f21 := shm_553 f21
  replace f22 := shm_1478 f22
  have s2 : (∀ b j, w_el w1 b j = if b = v_ad (n_v vs 9) ∧ j = (v_iv (n_v vs 14)).toNat then v_iv (n_v vs 7) else w_el w2 b j) ∧ ∀ b k, w_fd w1 b k = w_fd w2 b k := s2.2
  replace f24 := shm_12 f24
  replace f25 := shm_107 f25
  replace f26 := shm_38 f26
  rw [show v_iv (n_v vs 10) = 80 from by omega] at f26
  replace f27 := shm_687 f27
  replace f28 := shm_575 f28
  replace f29 := shm_1474 f29
  replace f30 := shm_513 f30
  replace f31 := shm_553 f31
  replace f32 := shm_1480 f32
  replace f33 := shm_1478 f33
  have q3 : n_v vs 3 = n_v vs 0 := f11.symm
  have q4 : n_v vs 4 = n_v vs 1 := f12.symm
  have q5 : n_v vs 5 = n_v vs 2 := f13.symm
  simp only [q3, q4, q5] at f0 f1 f2 f3 f5 f6 f7 f8 f9 f10
  rw [q4] at s1
  simp only [q4, q3, q5] at f16 f17 f18 f19 f20 f21 f22 f25 f26 f27 f28 f29 f30 f31 f32 f33
  have ar_0_17_1 : w_ar w1 (n_v vs 0) 17 = w_ar ws (n_v vs 0) 17 := congrArg v_ad (s1.2 _ _).symm
  have ar_0_17_2 : w_ar w2 (n_v vs 0) 17 = w_ar ws (n_v vs 0) 17 := by rw [← ar_0_17_1]; show v_ad (w_fd w2 _ _) = v_ad (w_fd w1 _ _); rw [s2.2]
  have cr_0_17 := fdq_189 hD hth r0
  have ar_0_33_1 : w_ar w1 (n_v vs 0) 33 = w_ar ws (n_v vs 0) 33 := congrArg v_ad (s1.2 _ _).symm
  have ar_0_33_2 : w_ar w2 (n_v vs 0) 33 = w_ar ws (n_v vs 0) 33 := by rw [← ar_0_33_1]; show v_ad (w_fd w2 _ _) = v_ad (w_fd w1 _ _); rw [s2.2]
  have cr_0_33 := fdq_117 hD hth r0
  have ar_0_34_1 : w_ar w1 (n_v vs 0) 34 = w_ar ws (n_v vs 0) 34 := congrArg v_ad (s1.2 _ _).symm
  have ar_0_34_2 : w_ar w2 (n_v vs 0) 34 = w_ar ws (n_v vs 0) 34 := by rw [← ar_0_34_1]; show v_ad (w_fd w2 _ _) = v_ad (w_fd w1 _ _); rw [s2.2]
  have cr_0_34 := fdq_118 hD hth r0
  have ar_0_35_1 : w_ar w1 (n_v vs 0) 35 = w_ar ws (n_v vs 0) 35 := congrArg v_ad (s1.2 _ _).symm
  have ar_0_35_2 : w_ar w2 (n_v vs 0) 35 = w_ar ws (n_v vs 0) 35 := by rw [← ar_0_35_1]; show v_ad (w_fd w2 _ _) = v_ad (w_fd w1 _ _); rw [s2.2]
  have cr_0_35 := fdq_132 hD hth r0
  have ar_0_36_1 : w_ar w1 (n_v vs 0) 36 = w_ar ws (n_v vs 0) 36 := congrArg v_ad (s1.2 _ _).symm
  have ar_0_36_2 : w_ar w2 (n_v vs 0) 36 = w_ar ws (n_v vs 0) 36 := by rw [← ar_0_36_1]; show v_ad (w_fd w2 _ _) = v_ad (w_fd w1 _ _); rw [s2.2]
  have cr_0_36 := fdq_167 hD hth r0
  have ar_0_37_1 : w_ar w1 (n_v vs 0) 37 = w_ar ws (n_v vs 0) 37 := congrArg v_ad (s1.2 _ _).symm
  have ar_0_37_2 : w_ar w2 (n_v vs 0) 37 = w_ar ws (n_v vs 0) 37 := by rw [← ar_0_37_1]; show v_ad (w_fd w2 _ _) = v_ad (w_fd w1 _ _); rw [s2.2]
  have cr_0_37 := fdq_168 hD hth r0
  have ar_0_40_1 : w_ar w1 (n_v vs 0) 40 = w_ar ws (n_v vs 0) 40 := congrArg v_ad (s1.2 _ _).symm
  have ar_0_40_2 : w_ar w2 (n_v vs 0) 40 = w_ar ws (n_v vs 0) 40 := by rw [← ar_0_40_1]; show v_ad (w_fd w2 _ _) = v_ad (w_fd w1 _ _); rw [s2.2]
  have cr_0_40 := fdq_133 hD hth r0
  have ar_0_41_1 : w_ar w1 (n_v vs 0) 41 = w_ar ws (n_v vs 0) 41 := congrArg v_ad (s1.2 _ _).symm
  have ar_0_41_2 : w_ar w2 (n_v vs 0) 41 = w_ar ws (n_v vs 0) 41 := by rw [← ar_0_41_1]; show v_ad (w_fd w2 _ _) = v_ad (w_fd w1 _ _); rw [s2.2]
  have cr_0_41 := fdq_134 hD hth r0
  have ad_12 : v_ad (n_v vs 12) = w_ar ws (n_v vs 0) 36 := (congrArg v_ad f17).trans ar_0_36_1
  have ad_9 : v_ad (n_v vs 9) = w_ar ws (n_v vs 0) 37 := (congrArg v_ad f27).trans ar_0_37_2
  have g5 : v_iv (n_v vs 18) = w_fi ws (n_v vs 0) 39 := congrArg v_iv f5
  simp only [ad_12] at f16
  have h16 : v_iv (n_v vs 15) = w_ei w1 (w_ar ws (n_v vs 0) 36) (v_iv (n_v vs 1)) := f16
  simp only [ar_0_33_1, ar_0_34_1, ar_0_17_1, ar_0_35_1, ar_0_40_1, ar_0_41_1, ar_0_36_1, ad_12] at f18 f19 f20 f22 f25
  have h25 : v_iv (n_v vs 13) = w_ei w2 (w_ar ws (n_v vs 0) 36) (v_iv (n_v vs 1)) := f25
  simp only [ar_0_33_2, ar_0_34_2, ar_0_17_2, ar_0_35_2, ar_0_40_2, ar_0_41_2, ar_0_36_2, ar_0_37_2] at f28 f29 f30 f32 f33
  have fe_0_31_1 : w_fi ws (n_v vs 0) 31 = w_fi w1 (n_v vs 0) 31 := congrArg v_iv (s1.2 _ _)
  have fe_0_32_1 : w_fi ws (n_v vs 0) 32 = w_fi w1 (n_v vs 0) 32 := congrArg v_iv (s1.2 _ _)
  have fe_0_39_1 : w_fi ws (n_v vs 0) 39 = w_fi w1 (n_v vs 0) 39 := congrArg v_iv (s1.2 _ _)
  have fe_0_31_2 : w_fi w1 (n_v vs 0) 31 = w_fi w2 (n_v vs 0) 31 := congrArg v_iv (s2.2 _ _)
  have fe_0_32_2 : w_fi w1 (n_v vs 0) 32 = w_fi w2 (n_v vs 0) 32 := congrArg v_iv (s2.2 _ _)
  have fe_0_39_2 : w_fi w1 (n_v vs 0) 39 = w_fi w2 (n_v vs 0) 39 := congrArg v_iv (s2.2 _ _)
  have hE_0_17_1 : ∀ j : Int, w_ei ws (w_ar ws (n_v vs 0) 17) j = w_ei w1 (w_ar ws (n_v vs 0) 17) j := el_kp s1.1 r12 cr_0_17 (by decide)
  have hE_0_17_2 : ∀ j : Int, w_ei w1 (w_ar ws (n_v vs 0) 17) j = w_ei w2 (w_ar ws (n_v vs 0) 17) j := el_kp s2.1 r9 cr_0_17 (by decide)
  have hK_0_17 := elq_113 hD hth cr_0_17
  have hE_0_33_1 : ∀ j : Int, w_ei ws (w_ar ws (n_v vs 0) 33) j = w_ei w1 (w_ar ws (n_v vs 0) 33) j := el_kp s1.1 r12 cr_0_33 (by decide)
  have hE_0_33_2 : ∀ j : Int, w_ei w1 (w_ar ws (n_v vs 0) 33) j = w_ei w2 (w_ar ws (n_v vs 0) 33) j := el_kp s2.1 r9 cr_0_33 (by decide)
  have hK_0_33 := elq_60 hD hth cr_0_33
  have hE_0_34_1 : ∀ j : Int, w_ei ws (w_ar ws (n_v vs 0) 34) j = w_ei w1 (w_ar ws (n_v vs 0) 34) j := el_kp s1.1 r12 cr_0_34 (by decide)
  have hE_0_34_2 : ∀ j : Int, w_ei w1 (w_ar ws (n_v vs 0) 34) j = w_ei w2 (w_ar ws (n_v vs 0) 34) j := el_kp s2.1 r9 cr_0_34 (by decide)
  have hK_0_34 := elq_61 hD hth cr_0_34
  have hE_0_35_1 : ∀ j : Int, w_ei ws (w_ar ws (n_v vs 0) 35) j = w_ei w1 (w_ar ws (n_v vs 0) 35) j := el_kp s1.1 r12 cr_0_35 (by decide)
  have hE_0_35_2 : ∀ j : Int, w_ei w1 (w_ar ws (n_v vs 0) 35) j = w_ei w2 (w_ar ws (n_v vs 0) 35) j := el_kp s2.1 r9 cr_0_35 (by decide)
  have hK_0_35 := elq_72 hD hth cr_0_35
  have hE_0_36_1 : ∀ j : Int, 0 ≤ j → (j = v_iv (n_v vs 1) → w_ei ws (w_ar ws (n_v vs 0) 36) j = v_iv (n_v vs 17)) ∧ (j ≠ v_iv (n_v vs 1) → w_ei ws (w_ar ws (n_v vs 0) 36) j = w_ei w1 (w_ar ws (n_v vs 0) 36) j) := fun j hj => ⟨fun h => by unfold w_ei; rw [s1.1, if_pos ⟨ad_12.symm, by rw [h]⟩], fun h => by unfold w_ei; rw [s1.1, if_neg (fun e => h (by have := e.2; omega))]⟩
  have hE_0_36_2 : ∀ j : Int, w_ei w1 (w_ar ws (n_v vs 0) 36) j = w_ei w2 (w_ar ws (n_v vs 0) 36) j := el_kp s2.1 r9 cr_0_36 (by decide)
  have hK_0_36 := elq_97 hD hth cr_0_36
  have hE_0_37_1 : ∀ j : Int, w_ei ws (w_ar ws (n_v vs 0) 37) j = w_ei w1 (w_ar ws (n_v vs 0) 37) j := el_kp s1.1 r12 cr_0_37 (by decide)
  have hE_0_37_2 : ∀ j : Int, 0 ≤ j → (j = v_iv (n_v vs 14) → w_ei w1 (w_ar ws (n_v vs 0) 37) j = v_iv (n_v vs 7)) ∧ (j ≠ v_iv (n_v vs 14) → w_ei w1 (w_ar ws (n_v vs 0) 37) j = w_ei w2 (w_ar ws (n_v vs 0) 37) j) := fun j hj => ⟨fun h => by unfold w_ei; rw [s2.1, if_pos ⟨ad_9.symm, by rw [h]⟩], fun h => by unfold w_ei; rw [s2.1, if_neg (fun e => h (by have := e.2; omega))]⟩
  have hK_0_37 := elq_98 hD hth cr_0_37
  have hE_0_40_1 : ∀ j : Int, w_ei ws (w_ar ws (n_v vs 0) 40) j = w_ei w1 (w_ar ws (n_v vs 0) 40) j := el_kp s1.1 r12 cr_0_40 (by decide)
  have hE_0_40_2 : ∀ j : Int, w_ei w1 (w_ar ws (n_v vs 0) 40) j = w_ei w2 (w_ar ws (n_v vs 0) 40) j := el_kp s2.1 r9 cr_0_40 (by decide)
  have hK_0_40 := elq_73 hD hth cr_0_40
  have hE_0_41_1 : ∀ j : Int, w_ei ws (w_ar ws (n_v vs 0) 41) j = w_ei w1 (w_ar ws (n_v vs 0) 41) j := el_kp s1.1 r12 cr_0_41 (by decide)
  have hE_0_41_2 : ∀ j : Int, w_ei w1 (w_ar ws (n_v vs 0) 41) j = w_ei w2 (w_ar ws (n_v vs 0) 41) j := el_kp s2.1 r9 cr_0_41 (by decide)
  have hK_0_41 := elq_74 hD hth cr_0_41
  have kz_0_31 := fdq_145 hD hth r0
  have kz_0_32 := fdq_140 hD hth r0
  have kz_0_39 := fdq_135 hD hth r0
  first | have hq36 := hK_0_36 (v_iv (n_v vs 4)) (by omega) (by omega) | skip
  first | have hq36L1 := (show 0 ≤ w_el ws (w_ar ws (n_v vs 0) 36) (v_iv (n_v vs 4)).toNat ∧ w_el ws (w_ar ws (n_v vs 0) 36) (v_iv (n_v vs 4)).toNat ≤ 80 from hK_0_36 (v_iv (n_v vs 4)) (by omega) (by omega)) | skip
  first | have hq36R1 := (show 0 ≤ w_el ws (w_ar ws (n_v vs 0) 36) (v_iv (n_v vs 1)).toNat ∧ w_el ws (w_ar ws (n_v vs 0) 36) (v_iv (n_v vs 1)).toNat ≤ 80 from hK_0_36 (v_iv (n_v vs 1)) (by omega) (by omega)) | skip
  obtain ⟨x, ex, hx⟩ := iv_ex (ta := ta) (lo := (-2)) (hi := 81) (z := 0 + (1 * v_iv (n_v vs 8) + 0)) (by omega) (by omega) (by omega) (by omega)
  have ex2 : v_iv (Value.int x) = 0 + (1 * v_iv (n_v vs 8) + 0) := ex
  have ex3 : (-2) ≤ v_iv (Value.int x) ∧ v_iv (Value.int x) ≤ 81 := tv_rng hx
  have e_0 : n_v (vs ++ [Value.int x]) 0 = n_v vs 0 := n_v_old (by rw [hl]; decide)
  have e_1 : n_v (vs ++ [Value.int x]) 1 = n_v vs 1 := n_v_old (by rw [hl]; decide)
  have e_2 : n_v (vs ++ [Value.int x]) 2 = n_v vs 2 := n_v_old (by rw [hl]; decide)
  have e_3 : n_v (vs ++ [Value.int x]) 3 = n_v vs 3 := n_v_old (by rw [hl]; decide)
  have e_4 : n_v (vs ++ [Value.int x]) 4 = n_v vs 4 := n_v_old (by rw [hl]; decide)
  have e_5 : n_v (vs ++ [Value.int x]) 5 = n_v vs 5 := n_v_old (by rw [hl]; decide)
  have e_6 : n_v (vs ++ [Value.int x]) 6 = n_v vs 6 := n_v_old (by rw [hl]; decide)
  have e_21 : n_v (vs ++ [Value.int x]) 21 = n_v vs 21 := n_v_old (by rw [hl]; decide)
  have e_22 : n_v (vs ++ [Value.int x]) 22 = Value.int x := n_v_new hl
  have nf0 : fc_1 PRD (20, [3], [60, 2, 2, 75, 31, 32, 33, 34]) ws (vs ++ [Value.int x]) := by
    refine ⟨nf_inA hl rfl, sgq_575 ?_⟩
    · show GOK (w_fi ws (n_v (vs ++ [Value.int x]) 3) 31) (w_fi ws (n_v (vs ++ [Value.int x]) 3) 32) (w_ei ws (w_ar ws (n_v (vs ++ [Value.int x]) 3) 33)) (w_ei ws (w_ar ws (n_v (vs ++ [Value.int x]) 3) 34))
      simp only [e_3, q3]
      exact vc_Mo_turnRound_11_0 (w_ei ws (w_ar ws (n_v vs 0) 33)) (w_ei ws (w_ar ws (n_v vs 0) 34)) (w_ei ws (w_ar ws (n_v vs 0) 35)) (w_fi ws (n_v vs 0) 32) (w_ei ws (w_ar ws (n_v vs 0) 40)) (w_ei ws (w_ar ws (n_v vs 0) 41)) (w_fi ws (n_v vs 0) 39) (w_ei ws (w_ar ws (n_v vs 0) 17)) (w_ei ws (w_ar ws (n_v vs 0) 37)) (w_fi ws (n_v vs 0) 31) (w_ei w1 (w_ar ws (n_v vs 0) 36)) (w_ei w1 (w_ar ws (n_v vs 0) 33)) (w_ei w1 (w_ar ws (n_v vs 0) 34)) (w_fi w1 (n_v vs 0) 31) (w_fi w1 (n_v vs 0) 32) (w_ei w1 (w_ar ws (n_v vs 0) 35)) (w_ei w1 (w_ar ws (n_v vs 0) 17)) (w_ei w1 (w_ar ws (n_v vs 0) 40)) (w_ei w1 (w_ar ws (n_v vs 0) 41)) (w_fi w1 (n_v vs 0) 39) (w_ei w2 (w_ar ws (n_v vs 0) 36)) (w_ei w2 (w_ar ws (n_v vs 0) 33)) (w_ei w2 (w_ar ws (n_v vs 0) 34)) (w_fi w2 (n_v vs 0) 31) (w_fi w2 (n_v vs 0) 32) (w_ei w2 (w_ar ws (n_v vs 0) 35)) (w_ei w2 (w_ar ws (n_v vs 0) 17)) (w_ei w2 (w_ar ws (n_v vs 0) 40)) (w_ei w2 (w_ar ws (n_v vs 0) 41)) (w_fi w2 (n_v vs 0) 39) (w_ei w1 (w_ar ws (n_v vs 0) 37)) f28 fe_0_31_1 fe_0_32_1 fe_0_39_1 fe_0_31_2 fe_0_32_2 fe_0_39_2 hE_0_17_1 hE_0_17_2 hE_0_33_1 hE_0_33_2 hE_0_34_1 hE_0_34_2 hE_0_35_1 hE_0_35_2 hE_0_36_2 hE_0_37_1 hE_0_40_1 hE_0_40_2 hE_0_41_1 hE_0_41_2 kz_0_31 kz_0_32 kz_0_39
  have nf1 : fc_1 PRD (20, [3, 5], [60, 2, 6, 175, 32, 39, 33, 34, 35, 17, 40, 41]) ws (vs ++ [Value.int x]) := by
    refine ⟨nf_inA hl rfl, sgq_1474 ?_⟩
    · show DRB (w_fi ws (n_v (vs ++ [Value.int x]) 3) 32) (w_fi ws (n_v (vs ++ [Value.int x]) 3) 39) (w_ei ws (w_ar ws (n_v (vs ++ [Value.int x]) 3) 33)) (w_ei ws (w_ar ws (n_v (vs ++ [Value.int x]) 3) 34)) (w_ei ws (w_ar ws (n_v (vs ++ [Value.int x]) 3) 35)) (w_ei ws (w_ar ws (n_v (vs ++ [Value.int x]) 3) 17)) (w_ei ws (w_ar ws (n_v (vs ++ [Value.int x]) 3) 40)) (w_ei ws (w_ar ws (n_v (vs ++ [Value.int x]) 3) 41)) (v_iv (n_v (vs ++ [Value.int x]) 5))
      simp only [e_3, e_5, q3, q5]
      exact vc_Mo_turnRound_11_1 (v_iv (n_v vs 2)) (w_ei ws (w_ar ws (n_v vs 0) 33)) (w_ei ws (w_ar ws (n_v vs 0) 34)) (w_ei ws (w_ar ws (n_v vs 0) 35)) (w_fi ws (n_v vs 0) 32) (w_ei ws (w_ar ws (n_v vs 0) 40)) (w_ei ws (w_ar ws (n_v vs 0) 41)) (w_fi ws (n_v vs 0) 39) (w_ei ws (w_ar ws (n_v vs 0) 17)) (w_ei ws (w_ar ws (n_v vs 0) 37)) (w_fi ws (n_v vs 0) 31) (w_ei w1 (w_ar ws (n_v vs 0) 36)) (w_ei w1 (w_ar ws (n_v vs 0) 33)) (w_ei w1 (w_ar ws (n_v vs 0) 34)) (w_fi w1 (n_v vs 0) 31) (w_fi w1 (n_v vs 0) 32) (w_ei w1 (w_ar ws (n_v vs 0) 35)) (w_ei w1 (w_ar ws (n_v vs 0) 17)) (w_ei w1 (w_ar ws (n_v vs 0) 40)) (w_ei w1 (w_ar ws (n_v vs 0) 41)) (w_fi w1 (n_v vs 0) 39) (w_ei w2 (w_ar ws (n_v vs 0) 36)) (w_ei w2 (w_ar ws (n_v vs 0) 33)) (w_ei w2 (w_ar ws (n_v vs 0) 34)) (w_fi w2 (n_v vs 0) 31) (w_fi w2 (n_v vs 0) 32) (w_ei w2 (w_ar ws (n_v vs 0) 35)) (w_ei w2 (w_ar ws (n_v vs 0) 17)) (w_ei w2 (w_ar ws (n_v vs 0) 40)) (w_ei w2 (w_ar ws (n_v vs 0) 41)) (w_fi w2 (n_v vs 0) 39) (w_ei w1 (w_ar ws (n_v vs 0) 37)) k2 f29 fe_0_31_1 fe_0_32_1 fe_0_39_1 fe_0_31_2 fe_0_32_2 fe_0_39_2 hE_0_17_1 hE_0_17_2 hE_0_33_1 hE_0_33_2 hE_0_34_1 hE_0_34_2 hE_0_35_1 hE_0_35_2 hE_0_36_2 hE_0_37_1 hE_0_40_1 hE_0_40_2 hE_0_41_1 hE_0_41_2 kz_0_31 kz_0_32 kz_0_39
  have nf2 : fc_1 PRD (20, [3], [60, 1, 1, 170, 39, 40]) ws (vs ++ [Value.int x]) := by
    refine ⟨nf_inA hl rfl, sgq_513 ?_⟩
    · show FMB (w_fi ws (n_v (vs ++ [Value.int x]) 3) 39) (w_ei ws (w_ar ws (n_v (vs ++ [Value.int x]) 3) 40))
      simp only [e_3, q3]
      exact vc_Mo_turnRound_11_2 (w_ei ws (w_ar ws (n_v vs 0) 33)) (w_ei ws (w_ar ws (n_v vs 0) 34)) (w_ei ws (w_ar ws (n_v vs 0) 35)) (w_fi ws (n_v vs 0) 32) (w_ei ws (w_ar ws (n_v vs 0) 40)) (w_ei ws (w_ar ws (n_v vs 0) 41)) (w_fi ws (n_v vs 0) 39) (w_ei ws (w_ar ws (n_v vs 0) 17)) (w_ei ws (w_ar ws (n_v vs 0) 37)) (w_fi ws (n_v vs 0) 31) (w_ei w1 (w_ar ws (n_v vs 0) 36)) (w_ei w1 (w_ar ws (n_v vs 0) 33)) (w_ei w1 (w_ar ws (n_v vs 0) 34)) (w_fi w1 (n_v vs 0) 31) (w_fi w1 (n_v vs 0) 32) (w_ei w1 (w_ar ws (n_v vs 0) 35)) (w_ei w1 (w_ar ws (n_v vs 0) 17)) (w_ei w1 (w_ar ws (n_v vs 0) 40)) (w_ei w1 (w_ar ws (n_v vs 0) 41)) (w_fi w1 (n_v vs 0) 39) (w_ei w2 (w_ar ws (n_v vs 0) 36)) (w_ei w2 (w_ar ws (n_v vs 0) 33)) (w_ei w2 (w_ar ws (n_v vs 0) 34)) (w_fi w2 (n_v vs 0) 31) (w_fi w2 (n_v vs 0) 32) (w_ei w2 (w_ar ws (n_v vs 0) 35)) (w_ei w2 (w_ar ws (n_v vs 0) 17)) (w_ei w2 (w_ar ws (n_v vs 0) 40)) (w_ei w2 (w_ar ws (n_v vs 0) 41)) (w_fi w2 (n_v vs 0) 39) (w_ei w1 (w_ar ws (n_v vs 0) 37)) f30 fe_0_31_1 fe_0_32_1 fe_0_39_1 fe_0_31_2 fe_0_32_2 fe_0_39_2 hE_0_17_1 hE_0_17_2 hE_0_33_1 hE_0_33_2 hE_0_34_1 hE_0_34_2 hE_0_35_1 hE_0_35_2 hE_0_36_2 hE_0_37_1 hE_0_40_1 hE_0_40_2 hE_0_41_1 hE_0_41_2 kz_0_31 kz_0_32 kz_0_39
  have nf3 : fc_1 PRD (20, [4, 3], [30, -1, 1, 0, 0, -1, 1, 31]) ws (vs ++ [Value.int x]) := by
    refine ⟨nf_inA hl rfl, sgq_553 ?_⟩
    · show 1 * v_iv (n_v (vs ++ [Value.int x]) 4) + ((-1) * w_fi ws (n_v (vs ++ [Value.int x]) 3) 31 + 0) ≤ (-1)
      simp only [e_3, e_4, q3, q4]
      exact vc_Mo_turnRound_11_3 (v_iv (n_v vs 1)) (v_iv (n_v vs 17)) (w_ei ws (w_ar ws (n_v vs 0) 33)) (w_ei ws (w_ar ws (n_v vs 0) 34)) (w_ei ws (w_ar ws (n_v vs 0) 35)) (w_fi ws (n_v vs 0) 32) (w_ei ws (w_ar ws (n_v vs 0) 40)) (w_ei ws (w_ar ws (n_v vs 0) 41)) (w_fi ws (n_v vs 0) 39) (w_ei ws (w_ar ws (n_v vs 0) 17)) (w_ei ws (w_ar ws (n_v vs 0) 36)) (w_ei ws (w_ar ws (n_v vs 0) 37)) (w_fi ws (n_v vs 0) 31) (w_ei w1 (w_ar ws (n_v vs 0) 36)) (w_ei w1 (w_ar ws (n_v vs 0) 33)) (w_ei w1 (w_ar ws (n_v vs 0) 34)) (w_fi w1 (n_v vs 0) 31) (w_fi w1 (n_v vs 0) 32) (w_ei w1 (w_ar ws (n_v vs 0) 35)) (w_ei w1 (w_ar ws (n_v vs 0) 17)) (w_ei w1 (w_ar ws (n_v vs 0) 40)) (w_ei w1 (w_ar ws (n_v vs 0) 41)) (w_fi w1 (n_v vs 0) 39) (w_ei w2 (w_ar ws (n_v vs 0) 36)) (w_ei w2 (w_ar ws (n_v vs 0) 33)) (w_ei w2 (w_ar ws (n_v vs 0) 34)) (w_fi w2 (n_v vs 0) 31) (w_fi w2 (n_v vs 0) 32) (w_ei w2 (w_ar ws (n_v vs 0) 35)) (w_ei w2 (w_ar ws (n_v vs 0) 17)) (w_ei w2 (w_ar ws (n_v vs 0) 40)) (w_ei w2 (w_ar ws (n_v vs 0) 41)) (w_fi w2 (n_v vs 0) 39) (w_ei w1 (w_ar ws (n_v vs 0) 37)) k1 k17 f31 fe_0_31_1 fe_0_32_1 fe_0_39_1 fe_0_31_2 fe_0_32_2 fe_0_39_2 hE_0_17_1 hE_0_17_2 hE_0_33_1 hE_0_33_2 hE_0_34_1 hE_0_34_2 hE_0_35_1 hE_0_35_2 hE_0_36_1 hE_0_36_2 hE_0_37_1 hE_0_40_1 hE_0_40_2 hE_0_41_1 hE_0_41_2 kz_0_31 kz_0_32 kz_0_39
  have nf4 : fc_1 PRD (20, [3, 5, 4, 6, 21], [60, 3, 8, 180, 31, 32, 39, 33, 34, 35, 17, 40, 41, 36, 37]) ws (vs ++ [Value.int x]) := by
    refine ⟨nf_inA hl rfl, sgq_1482 ?_⟩
    · show TRN (w_fi ws (n_v (vs ++ [Value.int x]) 3) 31) (w_fi ws (n_v (vs ++ [Value.int x]) 3) 32) (w_fi ws (n_v (vs ++ [Value.int x]) 3) 39) (w_ei ws (w_ar ws (n_v (vs ++ [Value.int x]) 3) 33)) (w_ei ws (w_ar ws (n_v (vs ++ [Value.int x]) 3) 34)) (w_ei ws (w_ar ws (n_v (vs ++ [Value.int x]) 3) 35)) (w_ei ws (w_ar ws (n_v (vs ++ [Value.int x]) 3) 17)) (w_ei ws (w_ar ws (n_v (vs ++ [Value.int x]) 3) 40)) (w_ei ws (w_ar ws (n_v (vs ++ [Value.int x]) 3) 41)) (w_ei ws (w_ar ws (n_v (vs ++ [Value.int x]) 3) 36)) (w_ei ws (w_ar ws (n_v (vs ++ [Value.int x]) 3) 37)) (v_iv (n_v (vs ++ [Value.int x]) 5)) (v_iv (n_v (vs ++ [Value.int x]) 4)) (v_iv (n_v (vs ++ [Value.int x]) 6)) (v_iv (n_v (vs ++ [Value.int x]) 21))
      simp only [e_3, e_4, e_5, e_6, e_21, q3, q4, q5]
      exact vc_Mo_turnRound_11_4 (v_iv (n_v vs 1)) (v_iv (n_v vs 2)) (v_iv (n_v vs 4)) (v_iv (n_v vs 6)) (v_iv (n_v vs 7)) (v_iv (n_v vs 18)) (v_iv (n_v vs 19)) (v_iv (n_v vs 20)) (v_iv (n_v vs 21)) (w_ei ws (w_ar ws (n_v vs 0) 33)) (w_ei ws (w_ar ws (n_v vs 0) 34)) (w_ei ws (w_ar ws (n_v vs 0) 35)) (w_fi ws (n_v vs 0) 32) (w_ei ws (w_ar ws (n_v vs 0) 40)) (w_ei ws (w_ar ws (n_v vs 0) 41)) (w_fi ws (n_v vs 0) 39) (w_ei ws (w_ar ws (n_v vs 0) 17)) (w_ei ws (w_ar ws (n_v vs 0) 36)) (w_ei ws (w_ar ws (n_v vs 0) 37)) (w_fi ws (n_v vs 0) 31) (w_ei w1 (w_ar ws (n_v vs 0) 36)) (w_ei w1 (w_ar ws (n_v vs 0) 33)) (w_ei w1 (w_ar ws (n_v vs 0) 34)) (w_fi w1 (n_v vs 0) 31) (w_fi w1 (n_v vs 0) 32) (w_ei w1 (w_ar ws (n_v vs 0) 35)) (w_ei w1 (w_ar ws (n_v vs 0) 17)) (w_ei w1 (w_ar ws (n_v vs 0) 40)) (w_ei w1 (w_ar ws (n_v vs 0) 41)) (w_fi w1 (n_v vs 0) 39) (w_ei w2 (w_ar ws (n_v vs 0) 36)) (w_ei w2 (w_ar ws (n_v vs 0) 33)) (w_ei w2 (w_ar ws (n_v vs 0) 34)) (w_fi w2 (n_v vs 0) 31) (w_fi w2 (n_v vs 0) 32) (w_ei w2 (w_ar ws (n_v vs 0) 35)) (w_ei w2 (w_ar ws (n_v vs 0) 17)) (w_ei w2 (w_ar ws (n_v vs 0) 40)) (w_ei w2 (w_ar ws (n_v vs 0) 41)) (w_fi w2 (n_v vs 0) 39) (w_ei w1 (w_ar ws (n_v vs 0) 37)) k1 k2 k4 k6 k7 k18 k19 k20 k21 d3 d5 f0 f1 f3 g5 f6 f10 f28 f29 fe_0_31_1 fe_0_32_1 fe_0_39_1 fe_0_31_2 fe_0_32_2 fe_0_39_2 hE_0_17_1 hE_0_17_2 hE_0_33_1 hE_0_33_2 hE_0_34_1 hE_0_34_2 hE_0_35_1 hE_0_35_2 hE_0_36_2 hE_0_37_1 hE_0_40_1 hE_0_40_2 hE_0_41_1 hE_0_41_2 kz_0_31 kz_0_32 kz_0_39
  have nf5 : fc_1 PRD (20, [3, 4, 22], [30, -81, -1, 2, 36, -1, 0, 0]) ws (vs ++ [Value.int x]) := by
    refine ⟨nf_inA hl rfl, sgq_1483 ?_⟩
    · show (-1) * w_el ws (w_ar ws (n_v (vs ++ [Value.int x]) 3) 36) (v_iv (n_v (vs ++ [Value.int x]) 4)).toNat + ((-1) * v_iv (n_v (vs ++ [Value.int x]) 22) + 0) ≤ (-81)
      simp only [e_3, e_4, e_22, q3, q4]
      exact vc_Mo_turnRound_11_5 (v_iv (n_v vs 1)) (v_iv (n_v vs 4)) (v_iv (n_v vs 8)) (v_iv (n_v vs 15)) (v_iv (n_v vs 17)) (w_ei ws (w_ar ws (n_v vs 0) 33)) (w_ei ws (w_ar ws (n_v vs 0) 34)) (w_ei ws (w_ar ws (n_v vs 0) 35)) (w_fi ws (n_v vs 0) 32) (w_ei ws (w_ar ws (n_v vs 0) 40)) (w_ei ws (w_ar ws (n_v vs 0) 41)) (w_fi ws (n_v vs 0) 39) (w_ei ws (w_ar ws (n_v vs 0) 17)) (w_ei ws (w_ar ws (n_v vs 0) 36)) (w_ei ws (w_ar ws (n_v vs 0) 37)) (w_fi ws (n_v vs 0) 31) (w_ei w1 (w_ar ws (n_v vs 0) 36)) (w_ei w1 (w_ar ws (n_v vs 0) 33)) (w_ei w1 (w_ar ws (n_v vs 0) 34)) (w_fi w1 (n_v vs 0) 31) (w_fi w1 (n_v vs 0) 32) (w_ei w1 (w_ar ws (n_v vs 0) 35)) (w_ei w1 (w_ar ws (n_v vs 0) 17)) (w_ei w1 (w_ar ws (n_v vs 0) 40)) (w_ei w1 (w_ar ws (n_v vs 0) 41)) (w_fi w1 (n_v vs 0) 39) (w_ei w2 (w_ar ws (n_v vs 0) 36)) (w_ei w2 (w_ar ws (n_v vs 0) 33)) (w_ei w2 (w_ar ws (n_v vs 0) 34)) (w_fi w2 (n_v vs 0) 31) (w_fi w2 (n_v vs 0) 32) (w_ei w2 (w_ar ws (n_v vs 0) 35)) (w_ei w2 (w_ar ws (n_v vs 0) 17)) (w_ei w2 (w_ar ws (n_v vs 0) 40)) (w_ei w2 (w_ar ws (n_v vs 0) 41)) (w_fi w2 (n_v vs 0) 39) (w_ei w1 (w_ar ws (n_v vs 0) 37)) (v_iv (Value.int x)) k1 k4 k8 k15 k17 d0 d3 d5 h16 f22 fe_0_31_1 fe_0_32_1 fe_0_39_1 fe_0_31_2 fe_0_32_2 fe_0_39_2 hE_0_17_1 hE_0_17_2 hE_0_33_1 hE_0_33_2 hE_0_34_1 hE_0_34_2 hE_0_35_1 hE_0_35_2 hE_0_36_1 hE_0_36_2 hE_0_37_1 hE_0_40_1 hE_0_40_2 hE_0_41_1 hE_0_41_2 kz_0_31 kz_0_32 kz_0_39 ex2
  have nf6 : fc_1 PRD (24, [0, 3], []) ws (vs ++ [Value.int x]) := by
    refine ⟨nf_inA hl rfl, sgq_5 ?_⟩
    · show n_v (vs ++ [Value.int x]) 0 = n_v (vs ++ [Value.int x]) 3
      first | rfl | simp only [e_0, e_3, q3, q4, q5]
  have nf7 : fc_1 PRD (24, [1, 4], []) ws (vs ++ [Value.int x]) := by
    refine ⟨nf_inA hl rfl, sgq_5 ?_⟩
    · show n_v (vs ++ [Value.int x]) 1 = n_v (vs ++ [Value.int x]) 4
      first | rfl | simp only [e_1, e_4, q3, q4, q5]
  have nf8 : fc_1 PRD (24, [2, 5], []) ws (vs ++ [Value.int x]) := by
    refine ⟨nf_inA hl rfl, sgq_5 ?_⟩
    · show n_v (vs ++ [Value.int x]) 2 = n_v (vs ++ [Value.int x]) 5
      first | rfl | simp only [e_2, e_5, q3, q4, q5]
  obtain ⟨x0, e0, _, _⟩ := tv_int t8 rfl
  have e1 : v_iv (n_v vs 8) = x0.toInt := by rw [e0]; rfl
  have ho : sy_ofs (vs ++ [Value.int x]) (22, 8, 0, 0) := by
    refine ⟨x, x0, by rw [List.getElem?_append_right (by rw [hl]; decide), hl]; rfl, ?_, ?_, ?_⟩
    · rw [List.getElem?_append_left (by rw [hl]; decide)]; exact n_v_some (by rw [hl]; decide) e0
    · show x0.toInt + 0 ≤ x.toInt; omega
    · show x.toInt ≤ x0.toInt + 0; omega
  exact ⟨(fun _ h => (by cases h)), [Value.int x], ag_one hx, List.forall_mem_cons.mpr ⟨⟨show (20 : Nat) < 100 from by decide, nf0⟩, List.forall_mem_cons.mpr ⟨⟨show (20 : Nat) < 100 from by decide, nf1⟩, List.forall_mem_cons.mpr ⟨⟨show (20 : Nat) < 100 from by decide, nf2⟩, List.forall_mem_cons.mpr ⟨⟨show (20 : Nat) < 100 from by decide, nf3⟩, List.forall_mem_cons.mpr ⟨⟨show (20 : Nat) < 100 from by decide, nf4⟩, List.forall_mem_cons.mpr ⟨⟨show (20 : Nat) < 100 from by decide, nf5⟩, List.forall_mem_cons.mpr ⟨⟨show (24 : Nat) < 100 from by decide, nf6⟩, List.forall_mem_cons.mpr ⟨⟨show (24 : Nat) < 100 from by decide, nf7⟩, List.forall_mem_cons.mpr ⟨⟨show (24 : Nat) < 100 from by decide, nf8⟩, (fun _ h => (by cases h))⟩⟩⟩⟩⟩⟩⟩⟩⟩, List.forall_mem_cons.mpr ⟨ho, (fun _ h => (by cases h))⟩⟩
set_option maxHeartbeats 4000000 in
theorem vc_Mo_turnRound_12_0 (pt_0 : Int → Int) (ph_0 : Int → Int) (pn_0 : Int) (pm_0 : Int) (f1 : GOK (pn_0) (pm_0) (pt_0) (ph_0)) (kz_0_31 : 0 ≤ pn_0 ∧ pn_0 ≤ 25) (kz_0_32 : 0 ≤ pm_0 ∧ pm_0 ≤ 80) : GOK (pn_0) (pm_0) (pt_0) (ph_0) := by
  first | assumption
set_option maxHeartbeats 4000000 in
theorem vc_Mo_turnRound_12_1 (x2 : Int) (pt_0 : Int → Int) (ph_0 : Int → Int) (pm_0 : Int) (alive_0 : Int → Int) (blockOf_0 : Int → Int) (faceMany_0 : Int → Int) (face_0 : Int → Int) (faces_0 : Int) (k2 : 0 ≤ x2 ∧ x2 ≤ 79) (f2 : DRB (pm_0) (faces_0) (pt_0) (ph_0) (alive_0) (blockOf_0) (faceMany_0) (face_0) (x2)) (kz_0_32 : 0 ≤ pm_0 ∧ pm_0 ≤ 80) (kz_0_39 : 0 ≤ faces_0 ∧ faces_0 ≤ 120) : DRB (pm_0) (faces_0) (pt_0) (ph_0) (alive_0) (blockOf_0) (faceMany_0) (face_0) (x2) := by
  first | assumption
set_option maxHeartbeats 4000000 in
theorem vc_Mo_turnRound_12_2 (faceMany_0 : Int → Int) (faces_0 : Int) (f3 : FMB (faces_0) (faceMany_0)) (kz_0_39 : 0 ≤ faces_0 ∧ faces_0 ≤ 120) : FMB (faces_0) (faceMany_0) := by
  first | assumption
set_option maxHeartbeats 4000000 in
theorem vc_Mo_turnRound_12_3 (x1 : Int) (pn_0 : Int) (k1 : 0 ≤ x1 ∧ x1 ≤ 24) (f4 : 1 * x1 + ((-1) * pn_0 + 0) ≤ (-1)) (kz_0_31 : 0 ≤ pn_0 ∧ pn_0 ≤ 25) : 1 * x1 + ((-1) * pn_0 + 0) ≤ (-1) := by
  first
    | omega
set_option maxHeartbeats 4000000 in
theorem vc_Mo_turnRound_12_4 (x1 : Int) (x2 : Int) (x6 : Int) (x7 : Int) (pt_0 : Int → Int) (ph_0 : Int → Int) (pn_0 : Int) (pm_0 : Int) (alive_0 : Int → Int) (blockOf_0 : Int → Int) (faceMany_0 : Int → Int) (face_0 : Int → Int) (faces_0 : Int) (rotMany_0 : Int → Int) (rot_0 : Int → Int) (k1 : 0 ≤ x1 ∧ x1 ≤ 24) (k2 : 0 ≤ x2 ∧ x2 ≤ 79) (k6 : 0 ≤ x6 ∧ x6 ≤ 79) (k7 : 0 ≤ x7 ∧ x7 ≤ 79) (f0 : x7 ≠ x6) (f5 : TRN (pn_0) (pm_0) (faces_0) (pt_0) (ph_0) (alive_0) (blockOf_0) (faceMany_0) (face_0) (rotMany_0) (rot_0) (x2) (x1) (x6) (x7)) (kz_0_31 : 0 ≤ pn_0 ∧ pn_0 ≤ 25) (kz_0_32 : 0 ≤ pm_0 ∧ pm_0 ≤ 80) (kz_0_39 : 0 ≤ faces_0 ∧ faces_0 ≤ 120) : TRI (pn_0) (pm_0) (faces_0) (pt_0) (ph_0) (alive_0) (blockOf_0) (faceMany_0) (face_0) (rotMany_0) (rot_0) (x2) (x1) (x6) (x7) := by
  first
    | exact ‹TRN _ _ _ _ _ _ _ _ _ _ _ _ _ _ _›.2 (by omega)
set_option maxHeartbeats 4000000 in
theorem vc_Mo_turnRound_12_5 (x1 : Int) (x9 : Int) (rotMany_0 : Int → Int) (gx : Int) (k1 : 0 ≤ x1 ∧ x1 ≤ 24) (k9 : (-2) ≤ x9 ∧ x9 ≤ 81) (f6 : (-1) * rotMany_0 (x1) + ((-1) * x9 + 0) ≤ (-81)) (ex2 : gx = (-1) + (1 * x9 + 0)) : (-1) * rotMany_0 (x1) + ((-1) * gx + 0) ≤ (-80) := by
  first
    | omega
def o_Mo_turnRound_12 : or_T := (53, 10, [(0, (2, 0, 0, [165])), (1, (0, 0, 24, [])), (2, (0, 0, 79, [])), (3, (2, 0, 0, [165])), (4, (0, 0, 24, [])), (5, (0, 0, 79, [])), (6, (0, 0, 79, [])), (7, (0, 0, 79, [])), (9, (0, -2, 81, []))], [(7, [7, 6], [1]), (20, [3], [60, 2, 2, 75, 31, 32, 33, 34]), (20, [3, 5], [60, 2, 6, 175, 32, 39, 33, 34, 35, 17, 40, 41]), (20, [3], [60, 1, 1, 170, 39, 40]), (20, [4, 3], [30, -1, 1, 0, 0, -1, 1, 31]), (20, [3, 5, 4, 6, 7], [60, 3, 8, 180, 31, 32, 39, 33, 34, 35, 17, 40, 41, 36, 37]), (20, [3, 4, 9], [30, -81, -1, 2, 36, -1, 0, 0]), (24, [0, 3], []), (24, [1, 4], []), (24, [2, 5], [])], [], [(0, -2, 81, [])], [(20, [3], [60, 2, 2, 75, 31, 32, 33, 34]), (20, [3, 5], [60, 2, 6, 175, 32, 39, 33, 34, 35, 17, 40, 41]), (20, [3], [60, 1, 1, 170, 39, 40]), (20, [4, 3], [30, -1, 1, 0, 0, -1, 1, 31]), (20, [3, 5, 4, 6, 7], [60, 3, 8, 178, 31, 32, 39, 33, 34, 35, 17, 40, 41, 36, 37]), (20, [3, 4, 10], [30, -80, -1, 2, 36, -1, 0, 0]), (24, [0, 3], []), (24, [1, 4], []), (24, [2, 5], [])], [(10, 9, -1000000000000, -1)], [(1, 4, -4294967296, 0), (2, 5, -4294967296, 0), (4, 1, -4294967296, 0), (5, 2, -4294967296, 0)])
theorem oo_Mo_turnRound_12 {kA : Nat → ClassId} : or_ok PRD kA GG o_Mo_turnRound_12 := by
  refine or_mk fun A ta ws vs hD hth hl => ?_
  intro t0 r0 t1 k1 t2 k2 t3 r3 t4 k4 t5 k5 t6 k6 t7 k7 t9 k9 d0 d1 d2 d3 f0 f1 f2 f3 f4 f5 f6 f7 f8 f9
  replace f0 := shm_40 f0
  replace f1 := shm_575 f1
  replace f2 := shm_1474 f2
  replace f3 := shm_513 f3
  replace f4 := shm_553 f4
  replace f5 := shm_1482 f5
  replace f6 := shm_1483 f6
  replace f7 := shm_5 f7
  replace f8 := shm_5 f8
  replace f9 := shm_5 f9
  have q3 : n_v vs 3 = n_v vs 0 := f7.symm
  have q4 : n_v vs 4 = n_v vs 1 := f8.symm
  have q5 : n_v vs 5 = n_v vs 2 := f9.symm
  simp only [q3, q5, q4] at f1 f2 f3 f4 f5 f6
  have cr_0_17 := fdq_189 hD hth r0
  have cr_0_33 := fdq_117 hD hth r0
  have cr_0_34 := fdq_118 hD hth r0
  have cr_0_35 := fdq_132 hD hth r0
  have cr_0_36 := fdq_167 hD hth r0
  have cr_0_37 := fdq_168 hD hth r0
  have cr_0_40 := fdq_133 hD hth r0
  have cr_0_41 := fdq_134 hD hth r0
  have hK_0_17 := elq_113 hD hth cr_0_17
  have hK_0_33 := elq_60 hD hth cr_0_33
  have hK_0_34 := elq_61 hD hth cr_0_34
  have hK_0_35 := elq_72 hD hth cr_0_35
  have hK_0_36 := elq_97 hD hth cr_0_36
  have hK_0_37 := elq_98 hD hth cr_0_37
  have hK_0_40 := elq_73 hD hth cr_0_40
  have hK_0_41 := elq_74 hD hth cr_0_41
  have kz_0_31 := fdq_145 hD hth r0
  have kz_0_32 := fdq_140 hD hth r0
  have kz_0_39 := fdq_135 hD hth r0
  first | have hq36 := hK_0_36 (v_iv (n_v vs 4)) (by omega) (by omega) | skip
  first | have hq36L1 := (show 0 ≤ w_el ws (w_ar ws (n_v vs 0) 36) (v_iv (n_v vs 4)).toNat ∧ w_el ws (w_ar ws (n_v vs 0) 36) (v_iv (n_v vs 4)).toNat ≤ 80 from hK_0_36 (v_iv (n_v vs 4)) (by omega) (by omega)) | skip
  first | have hq36R1 := (show 0 ≤ w_el ws (w_ar ws (n_v vs 0) 36) (v_iv (n_v vs 1)).toNat ∧ w_el ws (w_ar ws (n_v vs 0) 36) (v_iv (n_v vs 1)).toNat ≤ 80 from hK_0_36 (v_iv (n_v vs 1)) (by omega) (by omega)) | skip
  obtain ⟨x, ex, hx⟩ := iv_ex (ta := ta) (lo := (-2)) (hi := 81) (z := (-1) + (1 * v_iv (n_v vs 9) + 0)) (by omega) (by omega) (by omega) (by omega)
  have ex2 : v_iv (Value.int x) = (-1) + (1 * v_iv (n_v vs 9) + 0) := ex
  have ex3 : (-2) ≤ v_iv (Value.int x) ∧ v_iv (Value.int x) ≤ 81 := tv_rng hx
  have e_0 : n_v (vs ++ [Value.int x]) 0 = n_v vs 0 := n_v_old (by rw [hl]; decide)
  have e_1 : n_v (vs ++ [Value.int x]) 1 = n_v vs 1 := n_v_old (by rw [hl]; decide)
  have e_2 : n_v (vs ++ [Value.int x]) 2 = n_v vs 2 := n_v_old (by rw [hl]; decide)
  have e_3 : n_v (vs ++ [Value.int x]) 3 = n_v vs 3 := n_v_old (by rw [hl]; decide)
  have e_4 : n_v (vs ++ [Value.int x]) 4 = n_v vs 4 := n_v_old (by rw [hl]; decide)
  have e_5 : n_v (vs ++ [Value.int x]) 5 = n_v vs 5 := n_v_old (by rw [hl]; decide)
  have e_6 : n_v (vs ++ [Value.int x]) 6 = n_v vs 6 := n_v_old (by rw [hl]; decide)
  have e_7 : n_v (vs ++ [Value.int x]) 7 = n_v vs 7 := n_v_old (by rw [hl]; decide)
  have e_10 : n_v (vs ++ [Value.int x]) 10 = Value.int x := n_v_new hl
  have nf0 : fc_1 PRD (20, [3], [60, 2, 2, 75, 31, 32, 33, 34]) ws (vs ++ [Value.int x]) := by
    refine ⟨nf_inA hl rfl, sgq_575 ?_⟩
    · show GOK (w_fi ws (n_v (vs ++ [Value.int x]) 3) 31) (w_fi ws (n_v (vs ++ [Value.int x]) 3) 32) (w_ei ws (w_ar ws (n_v (vs ++ [Value.int x]) 3) 33)) (w_ei ws (w_ar ws (n_v (vs ++ [Value.int x]) 3) 34))
      simp only [e_3, q3]
      exact vc_Mo_turnRound_12_0 (w_ei ws (w_ar ws (n_v vs 0) 33)) (w_ei ws (w_ar ws (n_v vs 0) 34)) (w_fi ws (n_v vs 0) 31) (w_fi ws (n_v vs 0) 32) f1 kz_0_31 kz_0_32
  have nf1 : fc_1 PRD (20, [3, 5], [60, 2, 6, 175, 32, 39, 33, 34, 35, 17, 40, 41]) ws (vs ++ [Value.int x]) := by
    refine ⟨nf_inA hl rfl, sgq_1474 ?_⟩
    · show DRB (w_fi ws (n_v (vs ++ [Value.int x]) 3) 32) (w_fi ws (n_v (vs ++ [Value.int x]) 3) 39) (w_ei ws (w_ar ws (n_v (vs ++ [Value.int x]) 3) 33)) (w_ei ws (w_ar ws (n_v (vs ++ [Value.int x]) 3) 34)) (w_ei ws (w_ar ws (n_v (vs ++ [Value.int x]) 3) 35)) (w_ei ws (w_ar ws (n_v (vs ++ [Value.int x]) 3) 17)) (w_ei ws (w_ar ws (n_v (vs ++ [Value.int x]) 3) 40)) (w_ei ws (w_ar ws (n_v (vs ++ [Value.int x]) 3) 41)) (v_iv (n_v (vs ++ [Value.int x]) 5))
      simp only [e_3, e_5, q3, q5]
      exact vc_Mo_turnRound_12_1 (v_iv (n_v vs 2)) (w_ei ws (w_ar ws (n_v vs 0) 33)) (w_ei ws (w_ar ws (n_v vs 0) 34)) (w_fi ws (n_v vs 0) 32) (w_ei ws (w_ar ws (n_v vs 0) 35)) (w_ei ws (w_ar ws (n_v vs 0) 17)) (w_ei ws (w_ar ws (n_v vs 0) 40)) (w_ei ws (w_ar ws (n_v vs 0) 41)) (w_fi ws (n_v vs 0) 39) k2 f2 kz_0_32 kz_0_39
  have nf2 : fc_1 PRD (20, [3], [60, 1, 1, 170, 39, 40]) ws (vs ++ [Value.int x]) := by
    refine ⟨nf_inA hl rfl, sgq_513 ?_⟩
    · show FMB (w_fi ws (n_v (vs ++ [Value.int x]) 3) 39) (w_ei ws (w_ar ws (n_v (vs ++ [Value.int x]) 3) 40))
      simp only [e_3, q3]
      exact vc_Mo_turnRound_12_2 (w_ei ws (w_ar ws (n_v vs 0) 40)) (w_fi ws (n_v vs 0) 39) f3 kz_0_39
  have nf3 : fc_1 PRD (20, [4, 3], [30, -1, 1, 0, 0, -1, 1, 31]) ws (vs ++ [Value.int x]) := by
    refine ⟨nf_inA hl rfl, sgq_553 ?_⟩
    · show 1 * v_iv (n_v (vs ++ [Value.int x]) 4) + ((-1) * w_fi ws (n_v (vs ++ [Value.int x]) 3) 31 + 0) ≤ (-1)
      simp only [e_3, e_4, q3, q4]
      exact vc_Mo_turnRound_12_3 (v_iv (n_v vs 1)) (w_fi ws (n_v vs 0) 31) k1 f4 kz_0_31
  have nf4 : fc_1 PRD (20, [3, 5, 4, 6, 7], [60, 3, 8, 178, 31, 32, 39, 33, 34, 35, 17, 40, 41, 36, 37]) ws (vs ++ [Value.int x]) := by
    refine ⟨nf_inA hl rfl, sgq_1480 ?_⟩
    · show TRI (w_fi ws (n_v (vs ++ [Value.int x]) 3) 31) (w_fi ws (n_v (vs ++ [Value.int x]) 3) 32) (w_fi ws (n_v (vs ++ [Value.int x]) 3) 39) (w_ei ws (w_ar ws (n_v (vs ++ [Value.int x]) 3) 33)) (w_ei ws (w_ar ws (n_v (vs ++ [Value.int x]) 3) 34)) (w_ei ws (w_ar ws (n_v (vs ++ [Value.int x]) 3) 35)) (w_ei ws (w_ar ws (n_v (vs ++ [Value.int x]) 3) 17)) (w_ei ws (w_ar ws (n_v (vs ++ [Value.int x]) 3) 40)) (w_ei ws (w_ar ws (n_v (vs ++ [Value.int x]) 3) 41)) (w_ei ws (w_ar ws (n_v (vs ++ [Value.int x]) 3) 36)) (w_ei ws (w_ar ws (n_v (vs ++ [Value.int x]) 3) 37)) (v_iv (n_v (vs ++ [Value.int x]) 5)) (v_iv (n_v (vs ++ [Value.int x]) 4)) (v_iv (n_v (vs ++ [Value.int x]) 6)) (v_iv (n_v (vs ++ [Value.int x]) 7))
      simp only [e_3, e_4, e_5, e_6, e_7, q3, q4, q5]
      exact vc_Mo_turnRound_12_4 (v_iv (n_v vs 1)) (v_iv (n_v vs 2)) (v_iv (n_v vs 6)) (v_iv (n_v vs 7)) (w_ei ws (w_ar ws (n_v vs 0) 33)) (w_ei ws (w_ar ws (n_v vs 0) 34)) (w_fi ws (n_v vs 0) 31) (w_fi ws (n_v vs 0) 32) (w_ei ws (w_ar ws (n_v vs 0) 35)) (w_ei ws (w_ar ws (n_v vs 0) 17)) (w_ei ws (w_ar ws (n_v vs 0) 40)) (w_ei ws (w_ar ws (n_v vs 0) 41)) (w_fi ws (n_v vs 0) 39) (w_ei ws (w_ar ws (n_v vs 0) 36)) (w_ei ws (w_ar ws (n_v vs 0) 37)) k1 k2 k6 k7 f0 f5 kz_0_31 kz_0_32 kz_0_39
  have nf5 : fc_1 PRD (20, [3, 4, 10], [30, -80, -1, 2, 36, -1, 0, 0]) ws (vs ++ [Value.int x]) := by
    refine ⟨nf_inA hl rfl, sgq_1478 ?_⟩
    · show (-1) * w_el ws (w_ar ws (n_v (vs ++ [Value.int x]) 3) 36) (v_iv (n_v (vs ++ [Value.int x]) 4)).toNat + ((-1) * v_iv (n_v (vs ++ [Value.int x]) 10) + 0) ≤ (-80)
      simp only [e_3, e_4, e_10, q3, q4]
      exact vc_Mo_turnRound_12_5 (v_iv (n_v vs 1)) (v_iv (n_v vs 9)) (w_ei ws (w_ar ws (n_v vs 0) 36)) (v_iv (Value.int x)) k1 k9 f6 ex2
  have nf6 : fc_1 PRD (24, [0, 3], []) ws (vs ++ [Value.int x]) := by
    refine ⟨nf_inA hl rfl, sgq_5 ?_⟩
    · show n_v (vs ++ [Value.int x]) 0 = n_v (vs ++ [Value.int x]) 3
      first | rfl | simp only [e_0, e_3, q3, q4, q5]
  have nf7 : fc_1 PRD (24, [1, 4], []) ws (vs ++ [Value.int x]) := by
    refine ⟨nf_inA hl rfl, sgq_5 ?_⟩
    · show n_v (vs ++ [Value.int x]) 1 = n_v (vs ++ [Value.int x]) 4
      first | rfl | simp only [e_1, e_4, q3, q4, q5]
  have nf8 : fc_1 PRD (24, [2, 5], []) ws (vs ++ [Value.int x]) := by
    refine ⟨nf_inA hl rfl, sgq_5 ?_⟩
    · show n_v (vs ++ [Value.int x]) 2 = n_v (vs ++ [Value.int x]) 5
      first | rfl | simp only [e_2, e_5, q3, q4, q5]
  obtain ⟨x0, e0, _, _⟩ := tv_int t9 rfl
  have e1 : v_iv (n_v vs 9) = x0.toInt := by rw [e0]; rfl
  have ho : sy_ofs (vs ++ [Value.int x]) (10, 9, -1000000000000, -1) := by
    refine ⟨x, x0, by rw [List.getElem?_append_right (by rw [hl]; decide), hl]; rfl, ?_, ?_, ?_⟩
    · rw [List.getElem?_append_left (by rw [hl]; decide)]; exact n_v_some (by rw [hl]; decide) e0
    · show x0.toInt + (-1000000000000) ≤ x.toInt; omega
    · show x.toInt ≤ x0.toInt + (-1); omega
  exact ⟨(fun _ h => (by cases h)), [Value.int x], ag_one hx, List.forall_mem_cons.mpr ⟨⟨show (20 : Nat) < 100 from by decide, nf0⟩, List.forall_mem_cons.mpr ⟨⟨show (20 : Nat) < 100 from by decide, nf1⟩, List.forall_mem_cons.mpr ⟨⟨show (20 : Nat) < 100 from by decide, nf2⟩, List.forall_mem_cons.mpr ⟨⟨show (20 : Nat) < 100 from by decide, nf3⟩, List.forall_mem_cons.mpr ⟨⟨show (20 : Nat) < 100 from by decide, nf4⟩, List.forall_mem_cons.mpr ⟨⟨show (20 : Nat) < 100 from by decide, nf5⟩, List.forall_mem_cons.mpr ⟨⟨show (24 : Nat) < 100 from by decide, nf6⟩, List.forall_mem_cons.mpr ⟨⟨show (24 : Nat) < 100 from by decide, nf7⟩, List.forall_mem_cons.mpr ⟨⟨show (24 : Nat) < 100 from by decide, nf8⟩, (fun _ h => (by cases h))⟩⟩⟩⟩⟩⟩⟩⟩⟩, List.forall_mem_cons.mpr ⟨ho, (fun _ h => (by cases h))⟩⟩
set_option maxHeartbeats 4000000 in
theorem vc_Mo_turnRound_13_0 (x1 : Int) (x2 : Int) (x6 : Int) (x7 : Int) (pt_0 : Int → Int) (ph_0 : Int → Int) (pn_0 : Int) (pm_0 : Int) (alive_0 : Int → Int) (blockOf_0 : Int → Int) (faceMany_0 : Int → Int) (face_0 : Int → Int) (faces_0 : Int) (rotMany_0 : Int → Int) (rot_0 : Int → Int) (k1 : 0 ≤ x1 ∧ x1 ≤ 24) (k2 : 0 ≤ x2 ∧ x2 ≤ 79) (k6 : 0 ≤ x6 ∧ x6 ≤ 79) (k7 : 0 ≤ x7 ∧ x7 ≤ 79) (f0 : x7 = x6) (f5 : TRN (pn_0) (pm_0) (faces_0) (pt_0) (ph_0) (alive_0) (blockOf_0) (faceMany_0) (face_0) (rotMany_0) (rot_0) (x2) (x1) (x6) (x7)) (kz_0_31 : 0 ≤ pn_0 ∧ pn_0 ≤ 25) (kz_0_32 : 0 ≤ pm_0 ∧ pm_0 ≤ 80) (kz_0_39 : 0 ≤ faces_0 ∧ faces_0 ≤ 120) : MIE (pn_0) (pm_0) (faces_0) (pt_0) (ph_0) (alive_0) (blockOf_0) (faceMany_0) (face_0) (rotMany_0) (rot_0) (x2) (x1) := by
  exact ‹TRN _ _ _ _ _ _ _ _ _ _ _ _ _ _ _›.1 (by omega)
def o_Mo_turnRound_13 : or_T := (113, 10, [(0, (2, 0, 0, [165])), (1, (0, 0, 24, [])), (2, (0, 0, 79, [])), (6, (0, 0, 79, [])), (7, (0, 0, 79, []))], [(7, [7, 6], [0]), (20, [3, 5, 4, 6, 7], [60, 3, 8, 180, 31, 32, 39, 33, 34, 35, 17, 40, 41, 36, 37]), (24, [0, 3], []), (24, [1, 4], []), (24, [2, 5], [])], [], [], [(20, [0, 2, 1], [60, 3, 8, 177, 31, 32, 39, 33, 34, 35, 17, 40, 41, 36, 37])], [], [])
theorem oo_Mo_turnRound_13 {kA : Nat → ClassId} : or_ok PRD kA GG o_Mo_turnRound_13 := by
  refine or_mk fun A ta ws vs hD hth hl => ?_
  intro t0 r0 t1 k1 t2 k2 t6 k6 t7 k7 f0 f5 f7 f8 f9
  replace f5 := shm_1482 f5
  replace f7 := shm_5 f7
  replace f8 := shm_5 f8
  replace f9 := shm_5 f9
  have q3 : n_v vs 3 = n_v vs 0 := f7.symm
  have q4 : n_v vs 4 = n_v vs 1 := f8.symm
  have q5 : n_v vs 5 = n_v vs 2 := f9.symm
  simp only [q3, q5, q4] at f5
  have kz_0_31 := fdq_145 hD hth r0
  have kz_0_32 := fdq_140 hD hth r0
  have kz_0_39 := fdq_135 hD hth r0
  have nf0 : fc_1 PRD (20, [0, 2, 1], [60, 3, 8, 177, 31, 32, 39, 33, 34, 35, 17, 40, 41, 36, 37]) ws (vs) := ⟨nf_in hl rfl, sgq_1479 (vc_Mo_turnRound_13_0 (v_iv (n_v vs 1)) (v_iv (n_v vs 2)) (v_iv (n_v vs 6)) (v_iv (n_v vs 7)) (w_ei ws (w_ar ws (n_v vs 0) 33)) (w_ei ws (w_ar ws (n_v vs 0) 34)) (w_fi ws (n_v vs 0) 31) (w_fi ws (n_v vs 0) 32) (w_ei ws (w_ar ws (n_v vs 0) 35)) (w_ei ws (w_ar ws (n_v vs 0) 17)) (w_ei ws (w_ar ws (n_v vs 0) 40)) (w_ei ws (w_ar ws (n_v vs 0) 41)) (w_fi ws (n_v vs 0) 39) (w_ei ws (w_ar ws (n_v vs 0) 36)) (w_ei ws (w_ar ws (n_v vs 0) 37)) k1 k2 k6 k7 (shm_37 f0) f5 kz_0_31 kz_0_32 kz_0_39)⟩
  refine ⟨(fun _ h => (by cases h)), [], trivial, ?_, (fun _ h => (by cases h))⟩
  rw [List.append_nil]
  exact List.forall_mem_cons.mpr ⟨⟨show (20 : Nat) < 100 from by decide, nf0⟩, (fun _ h => (by cases h))⟩
def n_Mo_turnRound_an : List an_T := [(10, [(0, (2, 0, 0, [165])), (1, (0, 0, 24, [])), (2, (0, 0, 79, [])), (3, (0, (Int.negSucc 0), 79, [])), (4, (0, (Int.negSucc 0), 79, []))], [], (0, 0), [(0, 0, 99990), (2, 7, (Int.negSucc 0)), (0, 0, 100000)], [(1, 4, (Int.negSucc 999999999999), 0), (2, 5, (Int.negSucc 999999999999), 0), (4, 1, (Int.negSucc 999999999999), 0), (5, 2, (Int.negSucc 999999999999), 0)], [], [(2, 0, 0, [165]), (0, 0, 24, []), (0, 0, 79, [])], 0, [], [(20, [3], [60, 2, 2, 75, 31, 32, 33, 34]), (20, [3, 5], [60, 2, 6, 175, 32, 39, 33, 34, 35, 17, 40, 41]), (20, [3], [60, 1, 1, 170, 39, 40]), (20, [4, 3], [30, (Int.negSucc 0), 1, 0, 0, (Int.negSucc 0), 1, 31]), (20, [3, 5, 4], [60, 3, 8, 176, 31, 32, 39, 33, 34, 35, 17, 40, 41, 36, 37]), (20, [3, 4, 5, 6, 7], [60, 1, 4, 181, 32, 33, 34, 35, 17]), (24, [0, 3], []), (24, [1, 4], []), (24, [2, 5], [])]), (53, [(0, (2, 0, 0, [165])), (1, (0, 0, 24, [])), (2, (0, 0, 79, [])), (3, (0, 0, 79, [])), (4, (0, 0, 79, []))], [], (0, 0), [(0, 0, 99947), (2, 8, (Int.negSucc 1)), (0, 0, 100000)], [(1, 4, (Int.negSucc 999999999999), 0), (2, 5, (Int.negSucc 999999999999), 0), (4, 1, (Int.negSucc 999999999999), 0), (5, 2, (Int.negSucc 999999999999), 0)], [], [(2, 0, 0, [165]), (0, 0, 24, []), (0, 0, 79, [])], 0, [(0, (Int.negSucc 1), 81, [])], [(20, [3], [60, 2, 2, 75, 31, 32, 33, 34]), (20, [3, 5], [60, 2, 6, 175, 32, 39, 33, 34, 35, 17, 40, 41]), (20, [3], [60, 1, 1, 170, 39, 40]), (20, [4, 3], [30, (Int.negSucc 0), 1, 0, 0, (Int.negSucc 0), 1, 31]), (20, [3, 5, 4, 6, 7], [60, 3, 8, 178, 31, 32, 39, 33, 34, 35, 17, 40, 41, 36, 37]), (20, [3, 4, 8], [30, (Int.negSucc 79), (Int.negSucc 0), 2, 36, (Int.negSucc 0), 0, 0]), (24, [0, 3], []), (24, [1, 4], []), (24, [2, 5], [])]), (107, [(0, (2, 0, 0, [165])), (1, (0, 0, 24, [])), (2, (0, 0, 79, [])), (3, (0, 0, 79, [])), (4, (0, 0, 79, []))], [], (0, 0), [(0, 0, 99947), (2, 9, (Int.negSucc 1)), (0, 0, 99893)], [(1, 4, (Int.negSucc 999999999999), 0), (2, 5, (Int.negSucc 999999999999), 0), (4, 1, (Int.negSucc 999999999999), 0), (5, 2, (Int.negSucc 999999999999), 0)], [((0, 39), (0, 0, 120, []))], [(2, 0, 0, [165]), (0, 0, 24, []), (0, 0, 79, [])], 0, [(0, (Int.negSucc 1), 81, [])], [(20, [3], [60, 2, 2, 75, 31, 32, 33, 34]), (20, [3, 5], [60, 2, 6, 175, 32, 39, 33, 34, 35, 17, 40, 41]), (20, [3], [60, 1, 1, 170, 39, 40]), (20, [4, 3], [30, (Int.negSucc 0), 1, 0, 0, (Int.negSucc 0), 1, 31]), (20, [3, 5, 4, 6, 7], [60, 3, 8, 180, 31, 32, 39, 33, 34, 35, 17, 40, 41, 36, 37]), (20, [3, 4, 9], [30, (Int.negSucc 80), (Int.negSucc 0), 2, 36, (Int.negSucc 0), 0, 0]), (24, [0, 3], []), (24, [1, 4], []), (24, [2, 5], [])])]
def t_Mo_turnRound_ct : ct_L := [(1, 600, e_Mo_at1), (1, 603, e_Mo_across1), (1, 646, e_Mo_edgeOf), (1, 677, e_Mo_behind)]
set_option maxRecDepth 100000 in
theorem c_Mo_turnRound {l : Launch} {D : va_G} {kA : Nat → ClassId} (h_Mo_across1 : ct_ok PRD l D kA GG y_Mo_across1 z_Mo_across1 e_Mo_across1) (h_Mo_at1 : ct_ok PRD l D kA GG y_Mo_at1 z_Mo_at1 e_Mo_at1) (h_Mo_behind : ct_ok PRD l D kA GG y_Mo_behind z_Mo_behind e_Mo_behind) (h_Mo_edgeOf : ct_ok PRD l D kA GG y_Mo_edgeOf z_Mo_edgeOf e_Mo_edgeOf) : ct_ok PRD l D kA GG y_Mo_turnRound z_Mo_turnRound e_Mo_turnRound := chk_all_ok (FT := [(32, 13, 17), (66, 13, 36), (69, 13, 37), (597, 13, 32), (612, 13, 39)]) (PT := []) (CT := t_Mo_turnRound_ct) (KT := []) (NT := []) (AN := n_Mo_turnRound_an) (OT := [o_Mo_turnRound_0, o_Mo_turnRound_1, o_Mo_turnRound_2, o_Mo_turnRound_3, o_Mo_turnRound_4, o_Mo_turnRound_5, o_Mo_turnRound_6, o_Mo_turnRound_7, o_Mo_turnRound_8, o_Mo_turnRound_9, o_Mo_turnRound_10, o_Mo_turnRound_11, o_Mo_turnRound_12, o_Mo_turnRound_13]) 3 288 (List.forall_mem_cons.mpr ⟨oo_Mo_turnRound_0, List.forall_mem_cons.mpr ⟨oo_Mo_turnRound_1, List.forall_mem_cons.mpr ⟨oo_Mo_turnRound_2, List.forall_mem_cons.mpr ⟨oo_Mo_turnRound_3, List.forall_mem_cons.mpr ⟨oo_Mo_turnRound_4, List.forall_mem_cons.mpr ⟨oo_Mo_turnRound_5, List.forall_mem_cons.mpr ⟨oo_Mo_turnRound_6, List.forall_mem_cons.mpr ⟨oo_Mo_turnRound_7, List.forall_mem_cons.mpr ⟨oo_Mo_turnRound_8, List.forall_mem_cons.mpr ⟨oo_Mo_turnRound_9, List.forall_mem_cons.mpr ⟨oo_Mo_turnRound_10, List.forall_mem_cons.mpr ⟨oo_Mo_turnRound_11, List.forall_mem_cons.mpr ⟨oo_Mo_turnRound_12, List.forall_mem_cons.mpr ⟨oo_Mo_turnRound_13, List.forall_mem_nil _⟩⟩⟩⟩⟩⟩⟩⟩⟩⟩⟩⟩⟩⟩) (by decide +kernel) ⟨List.forall_mem_cons.mpr ⟨gf_Mo_32, List.forall_mem_cons.mpr ⟨gf_Mo_66, List.forall_mem_cons.mpr ⟨gf_Mo_69, List.forall_mem_cons.mpr ⟨gf_Mo_597, List.forall_mem_cons.mpr ⟨gf_Mo_612, List.forall_mem_nil _⟩⟩⟩⟩⟩, List.forall_mem_nil _, List.forall_mem_cons.mpr ⟨cl_virtual (y := y_Mo_at1) (ci := 13) rfl rfl ⟨_, _, rfl⟩ (by decide +kernel) h_Mo_at1 wm_3159 wm_9 wm_3156 wm_3158 wv_14_15 ⟨by decide, by decide, by decide +kernel⟩ (by decide), List.forall_mem_cons.mpr ⟨cl_virtual (y := y_Mo_across1) (ci := 13) rfl rfl ⟨_, _, rfl⟩ (by decide +kernel) h_Mo_across1 wm_3163 wm_9 wm_3160 wm_3162 wv_15_0 ⟨by decide, by decide, by decide +kernel⟩ (by decide), List.forall_mem_cons.mpr ⟨cl_virtual (y := y_Mo_edgeOf) (ci := 13) rfl rfl ⟨_, _, rfl⟩ (by decide +kernel) h_Mo_edgeOf wm_3195 wm_9 wm_3192 wm_3194 wv_15_7 ⟨by decide, by decide, by decide +kernel⟩ (by decide), List.forall_mem_cons.mpr ⟨cl_virtual (y := y_Mo_behind) (ci := 13) rfl rfl ⟨_, _, rfl⟩ (by decide +kernel) h_Mo_behind wm_3247 wm_9 wm_3244 wm_3246 wv_16_4 ⟨by decide, by decide, by decide +kernel⟩ (by decide), List.forall_mem_nil _⟩⟩⟩⟩, List.forall_mem_nil _, List.forall_mem_nil _, GG_pl⟩ (by decide +kernel)

set_option maxHeartbeats 4000000 in
theorem vc_Dr_measure_0_0 (x3 : Int) (x4 : Int) (x5 : Int) (x6 : Int) (x10 : Int) (x11 : Int) (x12 : Int) (leastY_0 : Int) (mostX_0 : Int) (leastX_0 : Int) (y_1 : Int → Int) (y_2 : Int → Int) (x_3 : Int → Int) (x_4 : Int → Int) (leastX_1 : Int) (leastY_1 : Int) (mostX_1 : Int) (leastX_2 : Int) (mostX_2 : Int) (mostY_1 : Int) (mostY_2 : Int) (leastX_3 : Int) (leastY_2 : Int) (leastY_3 : Int) (mostY_3 : Int) (x_0 : Int → Int) (x_1 : Int → Int) (x_2 : Int → Int) (y_0 : Int → Int) (y_3 : Int → Int) (y_4 : Int → Int) (k3 : 0 ≤ x3 ∧ x3 ≤ 0) (k4 : (-40000000) ≤ x4 ∧ x4 ≤ 690000000) (k5 : 0 ≤ x5 ∧ x5 ≤ 0) (k6 : (-40000000) ≤ x6 ∧ x6 ≤ 690000000) (k12 : 1 ≤ x12 ∧ x12 ≤ 1) (h11 : x6 = x_3 (x5)) (h13 : x4 = x_4 (x3)) (fe_0_17_1 : leastX_0 = leastX_1) (fe_0_18_1 : leastY_0 = leastY_1) (fe_0_19_1 : mostX_0 = mostX_1) (fe_0_17_2 : leastX_1 = leastX_2) (fe_0_19_2 : mostX_1 = mostX_2) (fe_0_20_2 : mostY_1 = mostY_2) (fe_0_17_3 : leastX_2 = leastX_3) (fe_0_18_3 : leastY_2 = leastY_3) (fe_0_19_3 : mostX_2 = x6) (fe_0_20_3 : mostY_2 = mostY_3) (fe_0_17_4 : leastX_3 = x4) (hE_0_2_1 : ∀ j : Int, x_0 j = x_1 j) (hE_0_2_2 : ∀ j : Int, x_1 j = x_2 j) (hE_0_2_3 : ∀ j : Int, x_2 j = x_3 j) (hE_0_2_4 : ∀ j : Int, x_3 j = x_4 j) (hE_0_3_1 : ∀ j : Int, y_0 j = y_1 j) (hE_0_3_2 : ∀ j : Int, y_1 j = y_2 j) (hE_0_3_3 : ∀ j : Int, y_2 j = y_3 j) (hE_0_3_4 : ∀ j : Int, y_3 j = y_4 j) (kz_0_17 : (-41000000) ≤ leastX_0 ∧ leastX_0 ≤ 690000000) (kz_0_18 : (-41000000) ≤ leastY_0 ∧ leastY_0 ≤ 690000000) (kz_0_19 : (-40000000) ≤ mostX_0 ∧ mostX_0 ≤ 1001000000) : MNA (leastX_0) (mostX_0) (x_0) (x12) := by
  subst fe_0_17_1
  subst fe_0_18_1
  subst fe_0_19_1
  subst fe_0_17_2
  subst fe_0_19_2
  subst fe_0_20_2
  subst fe_0_17_3
  subst fe_0_18_3
  subst fe_0_20_3
  have e_hE_0_2_1 := funext hE_0_2_1; subst e_hE_0_2_1
  have e_hE_0_2_2 := funext hE_0_2_2; subst e_hE_0_2_2
  have e_hE_0_2_3 := funext hE_0_2_3; subst e_hE_0_2_3
  have e_hE_0_2_4 := funext hE_0_2_4; subst e_hE_0_2_4
  have e_hE_0_3_1 := funext hE_0_3_1; subst e_hE_0_3_1
  have e_hE_0_3_2 := funext hE_0_3_2; subst e_hE_0_3_2
  have e_hE_0_3_3 := funext hE_0_3_3; subst e_hE_0_3_3
  have e_hE_0_3_4 := funext hE_0_3_4; subst e_hE_0_3_4
  first
    | exact mna_start (a := x4) (b := x6) (by rw [show (0 : Int) = x3 by omega]; assumption) (by rw [show (0 : Int) = x5 by omega]; assumption) (by omega) (by omega) (by omega)
set_option maxHeartbeats 4000000 in
theorem vc_Dr_measure_0_1 (x3 : Int) (x8 : Int) (x9 : Int) (x10 : Int) (x11 : Int) (x12 : Int) (mostY_0 : Int) (leastY_0 : Int) (mostX_0 : Int) (leastX_0 : Int) (y_1 : Int → Int) (y_2 : Int → Int) (x_3 : Int → Int) (x_4 : Int → Int) (leastX_1 : Int) (leastY_1 : Int) (mostX_1 : Int) (leastX_2 : Int) (mostX_2 : Int) (mostY_1 : Int) (mostY_2 : Int) (leastX_3 : Int) (leastY_2 : Int) (leastY_3 : Int) (mostY_3 : Int) (x_0 : Int → Int) (x_1 : Int → Int) (x_2 : Int → Int) (y_0 : Int → Int) (y_3 : Int → Int) (y_4 : Int → Int) (k8 : 0 ≤ x8 ∧ x8 ≤ 0) (k9 : (-40000000) ≤ x9 ∧ x9 ≤ 690000000) (k10 : 0 ≤ x10 ∧ x10 ≤ 0) (k11 : (-40000000) ≤ x11 ∧ x11 ≤ 690000000) (k12 : 1 ≤ x12 ∧ x12 ≤ 1) (h7 : x11 = y_1 (x10)) (h9 : x9 = y_2 (x8)) (fe_0_17_1 : leastX_0 = leastX_1) (fe_0_18_1 : leastY_0 = leastY_1) (fe_0_19_1 : mostX_0 = mostX_1) (fe_0_20_1 : mostY_0 = x11) (fe_0_17_2 : leastX_1 = leastX_2) (fe_0_18_2 : leastY_1 = x9) (fe_0_19_2 : mostX_1 = mostX_2) (fe_0_20_2 : mostY_1 = mostY_2) (fe_0_17_3 : leastX_2 = leastX_3) (fe_0_18_3 : leastY_2 = leastY_3) (fe_0_20_3 : mostY_2 = mostY_3) (hE_0_2_1 : ∀ j : Int, x_0 j = x_1 j) (hE_0_2_2 : ∀ j : Int, x_1 j = x_2 j) (hE_0_2_3 : ∀ j : Int, x_2 j = x_3 j) (hE_0_2_4 : ∀ j : Int, x_3 j = x_4 j) (hE_0_3_1 : ∀ j : Int, y_0 j = y_1 j) (hE_0_3_2 : ∀ j : Int, y_1 j = y_2 j) (hE_0_3_3 : ∀ j : Int, y_2 j = y_3 j) (hE_0_3_4 : ∀ j : Int, y_3 j = y_4 j) (kz_0_17 : (-41000000) ≤ leastX_0 ∧ leastX_0 ≤ 690000000) (kz_0_18 : (-41000000) ≤ leastY_0 ∧ leastY_0 ≤ 690000000) (kz_0_19 : (-40000000) ≤ mostX_0 ∧ mostX_0 ≤ 1001000000) (kz_0_20 : (-40000000) ≤ mostY_0 ∧ mostY_0 ≤ 1001000000) : MNAy (leastY_0) (mostY_0) (y_0) (x12) := by
  subst fe_0_17_1
  subst fe_0_18_1
  subst fe_0_19_1
  subst fe_0_17_2
  subst fe_0_19_2
  subst fe_0_20_2
  subst fe_0_17_3
  subst fe_0_18_3
  subst fe_0_20_3
  have e_hE_0_2_1 := funext hE_0_2_1; subst e_hE_0_2_1
  have e_hE_0_2_2 := funext hE_0_2_2; subst e_hE_0_2_2
  have e_hE_0_2_3 := funext hE_0_2_3; subst e_hE_0_2_3
  have e_hE_0_2_4 := funext hE_0_2_4; subst e_hE_0_2_4
  have e_hE_0_3_1 := funext hE_0_3_1; subst e_hE_0_3_1
  have e_hE_0_3_2 := funext hE_0_3_2; subst e_hE_0_3_2
  have e_hE_0_3_3 := funext hE_0_3_3; subst e_hE_0_3_3
  have e_hE_0_3_4 := funext hE_0_3_4; subst e_hE_0_3_4
  first
    | exact mna_start (a := x9) (b := x11) (by rw [show (0 : Int) = x8 by omega]; assumption) (by rw [show (0 : Int) = x10 by omega]; assumption) (by omega) (by omega) (by omega)
def o_Dr_measure_0 : or_T := (42, 13, [(0, (2, 0, 0, [0])), (3, (0, 0, 0, [])), (4, (0, -40000000, 690000000, [])), (5, (0, 0, 0, [])), (6, (0, -40000000, 690000000, [])), (8, (0, 0, 0, [])), (9, (0, -40000000, 690000000, [])), (10, (0, 0, 0, [])), (11, (0, -40000000, 690000000, [])), (12, (0, 1, 1, []))], [(9, [7, 0], [3]), (9, [2, 0], [2]), (101, [0, 11], [20]), (10, [11, 7, 10], []), (101, [0, 9], [18]), (10, [9, 7, 8], []), (101, [0, 6], [19]), (10, [6, 2, 5], []), (101, [0, 4], [17]), (10, [4, 2, 3], [])], [], [], [(20, [0, 12], [60, 2, 1, 927, 17, 19, 2]), (20, [0, 12], [60, 2, 1, 934, 18, 20, 3]), (24, [1, 1], []), (24, [0, 0], [])], [], [])
theorem oo_Dr_measure_0 {kA : Nat → ClassId} : or_ok PRD kA GG o_Dr_measure_0 := by
  refine or_mk fun A ta ws vs hD hth hl => ?_
  intro t0 r0 t3 k3 t4 k4 t5 k5 t6 k6 t8 k8 t9 k9 t10 k10 t11 k11 t12 k12 f2 f5 ta1 w1 le1 s1 f7 ta2 w2 le2 s2 f9 ta3 w3 le3 s3 f11 ta4 w4 le4 s4 f13
  replace f2 := shm_137 f2
  replace f5 := shm_120 f5
  have s1 : (∀ b j, w_el ws b j = w_el w1 b j) ∧ ∀ b j, w_fd ws b j = if b = v_ad (n_v vs 0) ∧ j = 20 then n_v vs 11 else w_fd w1 b j := s1.2
  replace f7 := shm_107 f7
  have s2 : (∀ b j, w_el w1 b j = w_el w2 b j) ∧ ∀ b j, w_fd w1 b j = if b = v_ad (n_v vs 0) ∧ j = 18 then n_v vs 9 else w_fd w2 b j := s2.2
  replace f9 := shm_107 f9
  have s3 : (∀ b j, w_el w2 b j = w_el w3 b j) ∧ ∀ b j, w_fd w2 b j = if b = v_ad (n_v vs 0) ∧ j = 19 then n_v vs 6 else w_fd w3 b j := s3.2
  replace f11 := shm_107 f11
  have s4 : (∀ b j, w_el w3 b j = w_el w4 b j) ∧ ∀ b j, w_fd w3 b j = if b = v_ad (n_v vs 0) ∧ j = 17 then n_v vs 4 else w_fd w4 b j := s4.2
  replace f13 := shm_107 f13
  have ad_7 : v_ad (n_v vs 7) = w_ar ws (n_v vs 0) 3 := congrArg v_ad f2
  have ad_2 : v_ad (n_v vs 2) = w_ar ws (n_v vs 0) 2 := congrArg v_ad f5
  simp only [ad_7] at f7
  have h7 : v_iv (n_v vs 11) = w_ei w1 (w_ar ws (n_v vs 0) 3) (v_iv (n_v vs 10)) := f7
  simp only [ad_7] at f9
  have h9 : v_iv (n_v vs 9) = w_ei w2 (w_ar ws (n_v vs 0) 3) (v_iv (n_v vs 8)) := f9
  simp only [ad_2] at f11
  have h11 : v_iv (n_v vs 6) = w_ei w3 (w_ar ws (n_v vs 0) 2) (v_iv (n_v vs 5)) := f11
  simp only [ad_2] at f13
  have h13 : v_iv (n_v vs 4) = w_ei w4 (w_ar ws (n_v vs 0) 2) (v_iv (n_v vs 3)) := f13
  have fe_0_17_1 : w_fi ws (n_v vs 0) 17 = w_fi w1 (n_v vs 0) 17 := by show v_iv (w_fd _ _ _) = v_iv (w_fd _ _ _); rw [s1.2, if_neg (fun e => absurd e.2 (by decide))]
  have fe_0_18_1 : w_fi ws (n_v vs 0) 18 = w_fi w1 (n_v vs 0) 18 := by show v_iv (w_fd _ _ _) = v_iv (w_fd _ _ _); rw [s1.2, if_neg (fun e => absurd e.2 (by decide))]
  have fe_0_19_1 : w_fi ws (n_v vs 0) 19 = w_fi w1 (n_v vs 0) 19 := by show v_iv (w_fd _ _ _) = v_iv (w_fd _ _ _); rw [s1.2, if_neg (fun e => absurd e.2 (by decide))]
  have fe_0_20_1 : w_fi ws (n_v vs 0) 20 = v_iv (n_v vs 11) := by show v_iv (w_fd _ _ _) = _; rw [s1.2, if_pos ⟨rfl, rfl⟩]
  have fe_0_17_2 : w_fi w1 (n_v vs 0) 17 = w_fi w2 (n_v vs 0) 17 := by show v_iv (w_fd _ _ _) = v_iv (w_fd _ _ _); rw [s2.2, if_neg (fun e => absurd e.2 (by decide))]
  have fe_0_18_2 : w_fi w1 (n_v vs 0) 18 = v_iv (n_v vs 9) := by show v_iv (w_fd _ _ _) = _; rw [s2.2, if_pos ⟨rfl, rfl⟩]
  have fe_0_19_2 : w_fi w1 (n_v vs 0) 19 = w_fi w2 (n_v vs 0) 19 := by show v_iv (w_fd _ _ _) = v_iv (w_fd _ _ _); rw [s2.2, if_neg (fun e => absurd e.2 (by decide))]
  have fe_0_20_2 : w_fi w1 (n_v vs 0) 20 = w_fi w2 (n_v vs 0) 20 := by show v_iv (w_fd _ _ _) = v_iv (w_fd _ _ _); rw [s2.2, if_neg (fun e => absurd e.2 (by decide))]
  have fe_0_17_3 : w_fi w2 (n_v vs 0) 17 = w_fi w3 (n_v vs 0) 17 := by show v_iv (w_fd _ _ _) = v_iv (w_fd _ _ _); rw [s3.2, if_neg (fun e => absurd e.2 (by decide))]
  have fe_0_18_3 : w_fi w2 (n_v vs 0) 18 = w_fi w3 (n_v vs 0) 18 := by show v_iv (w_fd _ _ _) = v_iv (w_fd _ _ _); rw [s3.2, if_neg (fun e => absurd e.2 (by decide))]
  have fe_0_19_3 : w_fi w2 (n_v vs 0) 19 = v_iv (n_v vs 6) := by show v_iv (w_fd _ _ _) = _; rw [s3.2, if_pos ⟨rfl, rfl⟩]
  have fe_0_20_3 : w_fi w2 (n_v vs 0) 20 = w_fi w3 (n_v vs 0) 20 := by show v_iv (w_fd _ _ _) = v_iv (w_fd _ _ _); rw [s3.2, if_neg (fun e => absurd e.2 (by decide))]
  have fe_0_17_4 : w_fi w3 (n_v vs 0) 17 = v_iv (n_v vs 4) := by show v_iv (w_fd _ _ _) = _; rw [s4.2, if_pos ⟨rfl, rfl⟩]
  have hE_0_2_1 : ∀ j : Int, w_ei ws (w_ar ws (n_v vs 0) 2) j = w_ei w1 (w_ar ws (n_v vs 0) 2) j := fun j => s1.1 _ _
  have hE_0_2_2 : ∀ j : Int, w_ei w1 (w_ar ws (n_v vs 0) 2) j = w_ei w2 (w_ar ws (n_v vs 0) 2) j := fun j => s2.1 _ _
  have hE_0_2_3 : ∀ j : Int, w_ei w2 (w_ar ws (n_v vs 0) 2) j = w_ei w3 (w_ar ws (n_v vs 0) 2) j := fun j => s3.1 _ _
  have hE_0_2_4 : ∀ j : Int, w_ei w3 (w_ar ws (n_v vs 0) 2) j = w_ei w4 (w_ar ws (n_v vs 0) 2) j := fun j => s4.1 _ _
  have hE_0_3_1 : ∀ j : Int, w_ei ws (w_ar ws (n_v vs 0) 3) j = w_ei w1 (w_ar ws (n_v vs 0) 3) j := fun j => s1.1 _ _
  have hE_0_3_2 : ∀ j : Int, w_ei w1 (w_ar ws (n_v vs 0) 3) j = w_ei w2 (w_ar ws (n_v vs 0) 3) j := fun j => s2.1 _ _
  have hE_0_3_3 : ∀ j : Int, w_ei w2 (w_ar ws (n_v vs 0) 3) j = w_ei w3 (w_ar ws (n_v vs 0) 3) j := fun j => s3.1 _ _
  have hE_0_3_4 : ∀ j : Int, w_ei w3 (w_ar ws (n_v vs 0) 3) j = w_ei w4 (w_ar ws (n_v vs 0) 3) j := fun j => s4.1 _ _
  have kz_0_17 := fdq_198 hD hth r0
  have kz_0_18 := fdq_200 hD hth r0
  have kz_0_19 := fdq_199 hD hth r0
  have kz_0_20 := fdq_201 hD hth r0
  have nf0 : fc_1 PRD (20, [0, 12], [60, 2, 1, 927, 17, 19, 2]) ws (vs) := ⟨nf_in hl rfl, sgq_1484 (vc_Dr_measure_0_0 (v_iv (n_v vs 3)) (v_iv (n_v vs 4)) (v_iv (n_v vs 5)) (v_iv (n_v vs 6)) (v_iv (n_v vs 10)) (v_iv (n_v vs 11)) (v_iv (n_v vs 12)) (w_fi ws (n_v vs 0) 18) (w_fi ws (n_v vs 0) 19) (w_fi ws (n_v vs 0) 17) (w_ei w1 (w_ar ws (n_v vs 0) 3)) (w_ei w2 (w_ar ws (n_v vs 0) 3)) (w_ei w3 (w_ar ws (n_v vs 0) 2)) (w_ei w4 (w_ar ws (n_v vs 0) 2)) (w_fi w1 (n_v vs 0) 17) (w_fi w1 (n_v vs 0) 18) (w_fi w1 (n_v vs 0) 19) (w_fi w2 (n_v vs 0) 17) (w_fi w2 (n_v vs 0) 19) (w_fi w1 (n_v vs 0) 20) (w_fi w2 (n_v vs 0) 20) (w_fi w3 (n_v vs 0) 17) (w_fi w2 (n_v vs 0) 18) (w_fi w3 (n_v vs 0) 18) (w_fi w3 (n_v vs 0) 20) (w_ei ws (w_ar ws (n_v vs 0) 2)) (w_ei w1 (w_ar ws (n_v vs 0) 2)) (w_ei w2 (w_ar ws (n_v vs 0) 2)) (w_ei ws (w_ar ws (n_v vs 0) 3)) (w_ei w3 (w_ar ws (n_v vs 0) 3)) (w_ei w4 (w_ar ws (n_v vs 0) 3)) k3 k4 k5 k6 k12 h11 h13 fe_0_17_1 fe_0_18_1 fe_0_19_1 fe_0_17_2 fe_0_19_2 fe_0_20_2 fe_0_17_3 fe_0_18_3 fe_0_19_3 fe_0_20_3 fe_0_17_4 hE_0_2_1 hE_0_2_2 hE_0_2_3 hE_0_2_4 hE_0_3_1 hE_0_3_2 hE_0_3_3 hE_0_3_4 kz_0_17 kz_0_18 kz_0_19)⟩
  have nf1 : fc_1 PRD (20, [0, 12], [60, 2, 1, 934, 18, 20, 3]) ws (vs) := ⟨nf_in hl rfl, sgq_1485 (vc_Dr_measure_0_1 (v_iv (n_v vs 3)) (v_iv (n_v vs 8)) (v_iv (n_v vs 9)) (v_iv (n_v vs 10)) (v_iv (n_v vs 11)) (v_iv (n_v vs 12)) (w_fi ws (n_v vs 0) 20) (w_fi ws (n_v vs 0) 18) (w_fi ws (n_v vs 0) 19) (w_fi ws (n_v vs 0) 17) (w_ei w1 (w_ar ws (n_v vs 0) 3)) (w_ei w2 (w_ar ws (n_v vs 0) 3)) (w_ei w3 (w_ar ws (n_v vs 0) 2)) (w_ei w4 (w_ar ws (n_v vs 0) 2)) (w_fi w1 (n_v vs 0) 17) (w_fi w1 (n_v vs 0) 18) (w_fi w1 (n_v vs 0) 19) (w_fi w2 (n_v vs 0) 17) (w_fi w2 (n_v vs 0) 19) (w_fi w1 (n_v vs 0) 20) (w_fi w2 (n_v vs 0) 20) (w_fi w3 (n_v vs 0) 17) (w_fi w2 (n_v vs 0) 18) (w_fi w3 (n_v vs 0) 18) (w_fi w3 (n_v vs 0) 20) (w_ei ws (w_ar ws (n_v vs 0) 2)) (w_ei w1 (w_ar ws (n_v vs 0) 2)) (w_ei w2 (w_ar ws (n_v vs 0) 2)) (w_ei ws (w_ar ws (n_v vs 0) 3)) (w_ei w3 (w_ar ws (n_v vs 0) 3)) (w_ei w4 (w_ar ws (n_v vs 0) 3)) k8 k9 k10 k11 k12 h7 h9 fe_0_17_1 fe_0_18_1 fe_0_19_1 fe_0_20_1 fe_0_17_2 fe_0_18_2 fe_0_19_2 fe_0_20_2 fe_0_17_3 fe_0_18_3 fe_0_20_3 hE_0_2_1 hE_0_2_2 hE_0_2_3 hE_0_2_4 hE_0_3_1 hE_0_3_2 hE_0_3_3 hE_0_3_4 kz_0_17 kz_0_18 kz_0_19 kz_0_20)⟩
  have nf2 : fc_1 PRD (24, [1, 1], []) ws (vs) := by
    refine ⟨nf_in hl rfl, sgq_1 ?_⟩
    · show n_v vs 1 = n_v vs 1
      first | rfl | simp only [true_and]
  have nf3 : fc_1 PRD (24, [0, 0], []) ws (vs) := by
    refine ⟨nf_in hl rfl, sgq_1 ?_⟩
    · show n_v vs 0 = n_v vs 0
      first | rfl | simp only [true_and]
  refine ⟨(fun _ h => (by cases h)), [], trivial, ?_, (fun _ h => (by cases h))⟩
  rw [List.append_nil]
  exact List.forall_mem_cons.mpr ⟨⟨show (20 : Nat) < 100 from by decide, nf0⟩, List.forall_mem_cons.mpr ⟨⟨show (20 : Nat) < 100 from by decide, nf1⟩, List.forall_mem_cons.mpr ⟨⟨show (24 : Nat) < 100 from by decide, nf2⟩, List.forall_mem_cons.mpr ⟨⟨show (24 : Nat) < 100 from by decide, nf3⟩, (fun _ h => (by cases h))⟩⟩⟩⟩
set_option maxHeartbeats 4000000 in
theorem vc_Dr_measure_1_0 (x3 : Int) (x5 : Int) (x6 : Int) (nodes_0o1 : Int) (x_0 : Int → Int) (leastX_0 : Int) (mostX_0 : Int) (bends_0 : Int → Int) (bendX_0 : Int → Int) (k3 : 1 ≤ x3 ∧ x3 ≤ 24) (k5 : 0 ≤ x5 ∧ x5 ≤ 24) (k6 : 0 ≤ x6 ∧ x6 ≤ 0) (d0 : x5 + 0 ≤ x3 ∧ x3 ≤ x5 + 4294967296) (g1 : x5 = nodes_0o1) (f2 : MNA (leastX_0) (mostX_0) (x_0) (x3)) (kz_0_17 : (-41000000) ≤ leastX_0 ∧ leastX_0 ≤ 690000000) (kz_0_19 : (-40000000) ≤ mostX_0 ∧ mostX_0 ≤ 1001000000) (kz_1_0 : 0 ≤ nodes_0o1 ∧ nodes_0o1 ≤ 24) : MN2 (leastX_0) (mostX_0) (nodes_0o1) (x_0) (bends_0) (bendX_0) (x6) := by
  first
    | exact mn2_start (show MNA leastX_0 mostX_0 x_0 x3 by assumption) (by omega) (by omega)
set_option maxHeartbeats 4000000 in
theorem vc_Dr_measure_1_1 (x3 : Int) (x5 : Int) (x6 : Int) (nodes_0o1 : Int) (y_0 : Int → Int) (leastY_0 : Int) (mostY_0 : Int) (bends_0 : Int → Int) (bendY_0 : Int → Int) (k3 : 1 ≤ x3 ∧ x3 ≤ 24) (k5 : 0 ≤ x5 ∧ x5 ≤ 24) (k6 : 0 ≤ x6 ∧ x6 ≤ 0) (d0 : x5 + 0 ≤ x3 ∧ x3 ≤ x5 + 4294967296) (g1 : x5 = nodes_0o1) (f3 : MNAy (leastY_0) (mostY_0) (y_0) (x3)) (kz_0_18 : (-41000000) ≤ leastY_0 ∧ leastY_0 ≤ 690000000) (kz_0_20 : (-40000000) ≤ mostY_0 ∧ mostY_0 ≤ 1001000000) (kz_1_0 : 0 ≤ nodes_0o1 ∧ nodes_0o1 ≤ 24) : MN2y (leastY_0) (mostY_0) (nodes_0o1) (y_0) (bends_0) (bendY_0) (x6) := by
  first
    | exact mn2_start (show MNA leastY_0 mostY_0 y_0 x3 by assumption) (by omega) (by omega)
set_option maxHeartbeats 4000000 in
theorem vc_Dr_measure_1_2 (x6 : Int) (edges_0o1 : Int) (k6 : 0 ≤ x6 ∧ x6 ≤ 0) (kz_1_1 : 0 ≤ edges_0o1 ∧ edges_0o1 ≤ 48) : x6 ≤ edges_0o1 := by
  first
    | omega
  
def o_Dr_measure_1 : or_T := (77, 7, [(0, (2, 0, 0, [0])), (1, (2, 0, 0, [3])), (3, (0, 1, 24, [])), (5, (0, 0, 24, [])), (6, (0, 0, 0, []))], [(9, [5, 4], [0]), (20, [2, 3], [60, 2, 1, 927, 17, 19, 2]), (20, [2, 3], [60, 2, 1, 934, 18, 20, 3]), (24, [1, 4], []), (24, [0, 2], [])], [], [], [(20, [2, 4, 6], [60, 3, 3, 930, 17, 19, 1000, 2, 4, 5]), (20, [2, 4, 6], [60, 3, 3, 937, 18, 20, 1000, 3, 4, 6]), (20, [6, 4], [50, 1, 0, 1001, 0, 2, 1, 0, 2, 1, 1])], [], [(3, 5, 0, 4294967296)])
theorem oo_Dr_measure_1 {kA : Nat → ClassId} : or_ok PRD kA GG o_Dr_measure_1 := by
  refine or_mk fun A ta ws vs hD hth hl => ?_
  intro t0 r0 t1 r1 t3 k3 t5 k5 t6 k6 d0 f1 f2 f3 f4 f5
  replace f1 := shm_163 f1
  replace f2 := shm_1484 f2
  replace f3 := shm_1485 f3
  replace f4 := shm_5 f4
  replace f5 := shm_5 f5
  have q4 : n_v vs 4 = n_v vs 1 := f4.symm
  have q2 : n_v vs 2 = n_v vs 0 := f5.symm
  simp only [q4, q2] at f1 f2 f3
  have g1 : v_iv (n_v vs 5) = w_fi ws (n_v vs 1) 0 := congrArg v_iv f1
  have kz_0_17 := fdq_198 hD hth r0
  have kz_0_18 := fdq_200 hD hth r0
  have kz_0_19 := fdq_199 hD hth r0
  have kz_0_20 := fdq_201 hD hth r0
  have kz_1_0 := fdq_21 hD hth r1
  have kz_1_1 := fdq_30 hD hth r1
  have nf0 : fc_1 PRD (20, [2, 4, 6], [60, 3, 3, 930, 17, 19, 1000, 2, 4, 5]) ws (vs) := by
    refine ⟨nf_in hl rfl, sgq_1486 ?_⟩
    · show MN2 (w_fi ws (n_v vs 2) 17) (w_fi ws (n_v vs 2) 19) (w_fi ws (n_v vs 4) 0) (w_ei ws (w_ar ws (n_v vs 2) 2)) (w_ei ws (w_ar ws (n_v vs 2) 4)) (w_ei ws (w_ar ws (n_v vs 2) 5)) (v_iv (n_v vs 6))
      simp only [q4, q2]
      exact vc_Dr_measure_1_0 (v_iv (n_v vs 3)) (v_iv (n_v vs 5)) (v_iv (n_v vs 6)) (w_fi ws (n_v vs 1) 0) (w_ei ws (w_ar ws (n_v vs 0) 2)) (w_fi ws (n_v vs 0) 17) (w_fi ws (n_v vs 0) 19) (w_ei ws (w_ar ws (n_v vs 0) 4)) (w_ei ws (w_ar ws (n_v vs 0) 5)) k3 k5 k6 d0 g1 f2 kz_0_17 kz_0_19 kz_1_0
  have nf1 : fc_1 PRD (20, [2, 4, 6], [60, 3, 3, 937, 18, 20, 1000, 3, 4, 6]) ws (vs) := by
    refine ⟨nf_in hl rfl, sgq_1487 ?_⟩
    · show MN2y (w_fi ws (n_v vs 2) 18) (w_fi ws (n_v vs 2) 20) (w_fi ws (n_v vs 4) 0) (w_ei ws (w_ar ws (n_v vs 2) 3)) (w_ei ws (w_ar ws (n_v vs 2) 4)) (w_ei ws (w_ar ws (n_v vs 2) 6)) (v_iv (n_v vs 6))
      simp only [q4, q2]
      exact vc_Dr_measure_1_1 (v_iv (n_v vs 3)) (v_iv (n_v vs 5)) (v_iv (n_v vs 6)) (w_fi ws (n_v vs 1) 0) (w_ei ws (w_ar ws (n_v vs 0) 3)) (w_fi ws (n_v vs 0) 18) (w_fi ws (n_v vs 0) 20) (w_ei ws (w_ar ws (n_v vs 0) 4)) (w_ei ws (w_ar ws (n_v vs 0) 6)) k3 k5 k6 d0 g1 f3 kz_0_18 kz_0_20 kz_1_0
  have nf2 : fc_1 PRD (20, [6, 4], [50, 1, 0, 1001, 0, 2, 1, 0, 2, 1, 1]) ws (vs) := by
    refine ⟨nf_in hl rfl, sgq_483 ?_⟩
    · show v_iv (n_v vs 6) ≤ w_fi ws (n_v vs 4) 1
      rw [q4]
      exact vc_Dr_measure_1_2 (v_iv (n_v vs 6)) (w_fi ws (n_v vs 1) 1) k6 kz_1_1
  refine ⟨(fun _ h => (by cases h)), [], trivial, ?_, (fun _ h => (by cases h))⟩
  rw [List.append_nil]
  exact List.forall_mem_cons.mpr ⟨⟨show (20 : Nat) < 100 from by decide, nf0⟩, List.forall_mem_cons.mpr ⟨⟨show (20 : Nat) < 100 from by decide, nf1⟩, List.forall_mem_cons.mpr ⟨⟨show (20 : Nat) < 100 from by decide, nf2⟩, (fun _ h => (by cases h))⟩⟩⟩
set_option maxHeartbeats 4000000 in
theorem vc_Dr_measure_2_0 (leastX_0 : Int) (gx : Int) (kz_0_17 : (-41000000) ≤ leastX_0 ∧ leastX_0 ≤ 690000000) (ex2 : gx = leastX_0) : leastX_0 = gx := by
  first
    | omega
  
set_option maxHeartbeats 4000000 in
theorem vc_Dr_measure_2_1 (mostX_0 : Int) (gy : Int) (kz_0_19 : (-40000000) ≤ mostX_0 ∧ mostX_0 ≤ 1001000000) (ey2 : gy = mostX_0) : mostX_0 = gy := by
  first
    | omega
  
set_option maxHeartbeats 4000000 in
theorem vc_Dr_measure_2_2 (leastY_0 : Int) (gu : Int) (kz_0_18 : (-41000000) ≤ leastY_0 ∧ leastY_0 ≤ 690000000) (eu2 : gu = leastY_0) : leastY_0 = gu := by
  first
    | omega
  
set_option maxHeartbeats 4000000 in
theorem vc_Dr_measure_2_3 (mostY_0 : Int) (gw : Int) (kz_0_20 : (-40000000) ≤ mostY_0 ∧ mostY_0 ≤ 1001000000) (ew2 : gw = mostY_0) : mostY_0 = gw := by
  first
    | omega
  
set_option maxHeartbeats 4000000 in
theorem vc_Dr_measure_2_4 (x3 : Int) (x7 : Int) (x_0 : Int → Int) (leastX_0 : Int) (mostX_0 : Int) (gx : Int) (gy : Int) (k3 : 1 ≤ x3 ∧ x3 ≤ 23) (k7 : (-40000000) ≤ x7 ∧ x7 ≤ 690000000) (h2 : x7 = x_0 (x3)) (f6 : MNA (leastX_0) (mostX_0) (x_0) (x3)) (kz_0_17 : (-41000000) ≤ leastX_0 ∧ leastX_0 ≤ 690000000) (kz_0_19 : (-40000000) ≤ mostX_0 ∧ mostX_0 ≤ 1001000000) (ex2 : gx = leastX_0) (ey2 : gy = mostX_0) : MNB (x_0) (gx) (gy) (x3) (x7) := by
  first
    | (rw [show gx = leastX_0 by omega, show gy = mostX_0 by omega]
       exact ⟨(show MNA leastX_0 mostX_0 x_0 x3 by assumption), by assumption⟩)
  
set_option maxHeartbeats 4000000 in
theorem vc_Dr_measure_2_5 (x3 : Int) (x9 : Int) (y_0 : Int → Int) (leastY_0 : Int) (mostY_0 : Int) (gu : Int) (gw : Int) (k3 : 1 ≤ x3 ∧ x3 ≤ 23) (k9 : (-40000000) ≤ x9 ∧ x9 ≤ 690000000) (h0 : x9 = y_0 (x3)) (f7 : MNAy (leastY_0) (mostY_0) (y_0) (x3)) (kz_0_18 : (-41000000) ≤ leastY_0 ∧ leastY_0 ≤ 690000000) (kz_0_20 : (-40000000) ≤ mostY_0 ∧ mostY_0 ≤ 1001000000) (eu2 : gu = leastY_0) (ew2 : gw = mostY_0) : MNBy (y_0) (gu) (gw) (x3) (x9) := by
  first
    | (rw [show gu = leastY_0 by omega, show gw = mostY_0 by omega]
       exact ⟨(show MNA leastY_0 mostY_0 y_0 x3 by assumption), by assumption⟩)
  
def o_Dr_measure_2 : or_T := (66, 10, [(0, (2, 0, 0, [0])), (3, (0, 1, 23, [])), (7, (0, -40000000, 690000000, [])), (9, (0, -40000000, 690000000, []))], [(10, [9, 8, 3], []), (9, [8, 2], [3]), (10, [7, 6, 3], []), (9, [6, 2], [2]), (20, [2, 3], [60, 2, 1, 927, 17, 19, 2]), (20, [2, 3], [60, 2, 1, 934, 18, 20, 3]), (24, [0, 2], [])], [], [(0, -2147483648, 2147483647, []), (0, -2147483648, 2147483647, []), (0, -2147483648, 2147483647, []), (0, -2147483648, 2147483647, [])], [(20, [2, 10], [50, 1, 0, 17, 1, 3, 2, 0, 17, 1, 1]), (20, [2, 11], [50, 1, 0, 19, 1, 3, 2, 0, 19, 1, 1]), (20, [2, 12], [50, 1, 0, 18, 1, 3, 2, 0, 18, 1, 1]), (20, [2, 13], [50, 1, 0, 20, 1, 3, 2, 0, 20, 1, 1]), (20, [2, 10, 11, 3, 7], [60, 0, 1, 928, 2]), (20, [2, 12, 13, 3, 9], [60, 0, 1, 935, 3])], [], [])
theorem oo_Dr_measure_2 {kA : Nat → ClassId} : or_ok PRD kA GG o_Dr_measure_2 := by
  refine or_mk fun A ta ws vs hD hth hl => ?_
  intro t0 r0 t3 k3 t7 k7 t9 k9 f0 f1 f2 f3 f6 f7 f9
  replace f0 := shm_107 f0
  replace f1 := shm_137 f1
  replace f2 := shm_107 f2
  replace f3 := shm_120 f3
  replace f6 := shm_1484 f6
  replace f7 := shm_1485 f7
  replace f9 := shm_5 f9
  have q2 : n_v vs 2 = n_v vs 0 := f9.symm
  simp only [q2] at f1 f3 f6 f7
  have ad_8 : v_ad (n_v vs 8) = w_ar ws (n_v vs 0) 3 := congrArg v_ad f1
  have ad_6 : v_ad (n_v vs 6) = w_ar ws (n_v vs 0) 2 := congrArg v_ad f3
  simp only [ad_8] at f0
  have h0 : v_iv (n_v vs 9) = w_ei ws (w_ar ws (n_v vs 0) 3) (v_iv (n_v vs 3)) := f0
  simp only [ad_6] at f2
  have h2 : v_iv (n_v vs 7) = w_ei ws (w_ar ws (n_v vs 0) 2) (v_iv (n_v vs 3)) := f2
  have kz_0_17 := fdq_198 hD hth r0
  have kz_0_18 := fdq_200 hD hth r0
  have kz_0_19 := fdq_199 hD hth r0
  have kz_0_20 := fdq_201 hD hth r0
  obtain ⟨x, ex, hx⟩ := iv_ex (ta := ta) (lo := (-2147483648)) (hi := 2147483647) (z := w_fi ws (n_v vs 0) 17) (by omega) (by omega) (by omega) (by omega)
  have ex2 : v_iv (Value.int x) = w_fi ws (n_v vs 0) 17 := ex
  have ex3 : (-2147483648) ≤ v_iv (Value.int x) ∧ v_iv (Value.int x) ≤ 2147483647 := tv_rng hx
  obtain ⟨y, ey, hy⟩ := iv_ex (ta := ta) (lo := (-2147483648)) (hi := 2147483647) (z := w_fi ws (n_v vs 0) 19) (by omega) (by omega) (by omega) (by omega)
  have ey2 : v_iv (Value.int y) = w_fi ws (n_v vs 0) 19 := ey
  have ey3 : (-2147483648) ≤ v_iv (Value.int y) ∧ v_iv (Value.int y) ≤ 2147483647 := tv_rng hy
  obtain ⟨u, eu, hu⟩ := iv_ex (ta := ta) (lo := (-2147483648)) (hi := 2147483647) (z := w_fi ws (n_v vs 0) 18) (by omega) (by omega) (by omega) (by omega)
  have eu2 : v_iv (Value.int u) = w_fi ws (n_v vs 0) 18 := eu
  have eu3 : (-2147483648) ≤ v_iv (Value.int u) ∧ v_iv (Value.int u) ≤ 2147483647 := tv_rng hu
  obtain ⟨w, ew, hw⟩ := iv_ex (ta := ta) (lo := (-2147483648)) (hi := 2147483647) (z := w_fi ws (n_v vs 0) 20) (by omega) (by omega) (by omega) (by omega)
  have ew2 : v_iv (Value.int w) = w_fi ws (n_v vs 0) 20 := ew
  have ew3 : (-2147483648) ≤ v_iv (Value.int w) ∧ v_iv (Value.int w) ≤ 2147483647 := tv_rng hw
  have e_2 : n_v (vs ++ [Value.int x, Value.int y, Value.int u, Value.int w]) 2 = n_v vs 2 := n_v_old (by rw [hl]; decide)
  have e_3 : n_v (vs ++ [Value.int x, Value.int y, Value.int u, Value.int w]) 3 = n_v vs 3 := n_v_old (by rw [hl]; decide)
  have e_7 : n_v (vs ++ [Value.int x, Value.int y, Value.int u, Value.int w]) 7 = n_v vs 7 := n_v_old (by rw [hl]; decide)
  have e_9 : n_v (vs ++ [Value.int x, Value.int y, Value.int u, Value.int w]) 9 = n_v vs 9 := n_v_old (by rw [hl]; decide)
  have e_10 : n_v (vs ++ [Value.int x, Value.int y, Value.int u, Value.int w]) 10 = Value.int x := n_v_newk (k := 0) hl rfl
  have e_11 : n_v (vs ++ [Value.int x, Value.int y, Value.int u, Value.int w]) 11 = Value.int y := n_v_newk (k := 1) hl rfl
  have e_12 : n_v (vs ++ [Value.int x, Value.int y, Value.int u, Value.int w]) 12 = Value.int u := n_v_newk (k := 2) hl rfl
  have e_13 : n_v (vs ++ [Value.int x, Value.int y, Value.int u, Value.int w]) 13 = Value.int w := n_v_newk (k := 3) hl rfl
  have nf0 : fc_1 PRD (20, [2, 10], [50, 1, 0, 17, 1, 3, 2, 0, 17, 1, 1]) ws (vs ++ [Value.int x, Value.int y, Value.int u, Value.int w]) := by
    refine ⟨nf_inA hl rfl, sgq_1073 ?_⟩
    · show w_fi ws (n_v (vs ++ [Value.int x, Value.int y, Value.int u, Value.int w]) 2) 17 = v_iv (n_v (vs ++ [Value.int x, Value.int y, Value.int u, Value.int w]) 10)
      simp only [e_2, e_10, q2]
      exact vc_Dr_measure_2_0 (w_fi ws (n_v vs 0) 17) (v_iv (Value.int x)) kz_0_17 ex2
  have nf1 : fc_1 PRD (20, [2, 11], [50, 1, 0, 19, 1, 3, 2, 0, 19, 1, 1]) ws (vs ++ [Value.int x, Value.int y, Value.int u, Value.int w]) := by
    refine ⟨nf_inA hl rfl, sgq_1072 ?_⟩
    · show w_fi ws (n_v (vs ++ [Value.int x, Value.int y, Value.int u, Value.int w]) 2) 19 = v_iv (n_v (vs ++ [Value.int x, Value.int y, Value.int u, Value.int w]) 11)
      simp only [e_2, e_11, q2]
      exact vc_Dr_measure_2_1 (w_fi ws (n_v vs 0) 19) (v_iv (Value.int y)) kz_0_19 ey2
  have nf2 : fc_1 PRD (20, [2, 12], [50, 1, 0, 18, 1, 3, 2, 0, 18, 1, 1]) ws (vs ++ [Value.int x, Value.int y, Value.int u, Value.int w]) := by
    refine ⟨nf_inA hl rfl, sgq_1071 ?_⟩
    · show w_fi ws (n_v (vs ++ [Value.int x, Value.int y, Value.int u, Value.int w]) 2) 18 = v_iv (n_v (vs ++ [Value.int x, Value.int y, Value.int u, Value.int w]) 12)
      simp only [e_2, e_12, q2]
      exact vc_Dr_measure_2_2 (w_fi ws (n_v vs 0) 18) (v_iv (Value.int u)) kz_0_18 eu2
  have nf3 : fc_1 PRD (20, [2, 13], [50, 1, 0, 20, 1, 3, 2, 0, 20, 1, 1]) ws (vs ++ [Value.int x, Value.int y, Value.int u, Value.int w]) := by
    refine ⟨nf_inA hl rfl, sgq_1070 ?_⟩
    · show w_fi ws (n_v (vs ++ [Value.int x, Value.int y, Value.int u, Value.int w]) 2) 20 = v_iv (n_v (vs ++ [Value.int x, Value.int y, Value.int u, Value.int w]) 13)
      simp only [e_2, e_13, q2]
      exact vc_Dr_measure_2_3 (w_fi ws (n_v vs 0) 20) (v_iv (Value.int w)) kz_0_20 ew2
  have nf4 : fc_1 PRD (20, [2, 10, 11, 3, 7], [60, 0, 1, 928, 2]) ws (vs ++ [Value.int x, Value.int y, Value.int u, Value.int w]) := by
    refine ⟨nf_inA hl rfl, sgq_1488 ?_⟩
    · show MNB (w_ei ws (w_ar ws (n_v (vs ++ [Value.int x, Value.int y, Value.int u, Value.int w]) 2) 2)) (v_iv (n_v (vs ++ [Value.int x, Value.int y, Value.int u, Value.int w]) 10)) (v_iv (n_v (vs ++ [Value.int x, Value.int y, Value.int u, Value.int w]) 11)) (v_iv (n_v (vs ++ [Value.int x, Value.int y, Value.int u, Value.int w]) 3)) (v_iv (n_v (vs ++ [Value.int x, Value.int y, Value.int u, Value.int w]) 7))
      simp only [e_2, e_3, e_7, e_10, e_11, q2]
      exact vc_Dr_measure_2_4 (v_iv (n_v vs 3)) (v_iv (n_v vs 7)) (w_ei ws (w_ar ws (n_v vs 0) 2)) (w_fi ws (n_v vs 0) 17) (w_fi ws (n_v vs 0) 19) (v_iv (Value.int x)) (v_iv (Value.int y)) k3 k7 h2 f6 kz_0_17 kz_0_19 ex2 ey2
  have nf5 : fc_1 PRD (20, [2, 12, 13, 3, 9], [60, 0, 1, 935, 3]) ws (vs ++ [Value.int x, Value.int y, Value.int u, Value.int w]) := by
    refine ⟨nf_inA hl rfl, sgq_1489 ?_⟩
    · show MNBy (w_ei ws (w_ar ws (n_v (vs ++ [Value.int x, Value.int y, Value.int u, Value.int w]) 2) 3)) (v_iv (n_v (vs ++ [Value.int x, Value.int y, Value.int u, Value.int w]) 12)) (v_iv (n_v (vs ++ [Value.int x, Value.int y, Value.int u, Value.int w]) 13)) (v_iv (n_v (vs ++ [Value.int x, Value.int y, Value.int u, Value.int w]) 3)) (v_iv (n_v (vs ++ [Value.int x, Value.int y, Value.int u, Value.int w]) 9))
      simp only [e_2, e_3, e_9, e_12, e_13, q2]
      exact vc_Dr_measure_2_5 (v_iv (n_v vs 3)) (v_iv (n_v vs 9)) (w_ei ws (w_ar ws (n_v vs 0) 3)) (w_fi ws (n_v vs 0) 18) (w_fi ws (n_v vs 0) 20) (v_iv (Value.int u)) (v_iv (Value.int w)) k3 k9 h0 f7 kz_0_18 kz_0_20 eu2 ew2
  exact ⟨(fun _ h => (by cases h)), [Value.int x, Value.int y, Value.int u, Value.int w], ag_four hx hy hu hw, List.forall_mem_cons.mpr ⟨⟨show (20 : Nat) < 100 from by decide, nf0⟩, List.forall_mem_cons.mpr ⟨⟨show (20 : Nat) < 100 from by decide, nf1⟩, List.forall_mem_cons.mpr ⟨⟨show (20 : Nat) < 100 from by decide, nf2⟩, List.forall_mem_cons.mpr ⟨⟨show (20 : Nat) < 100 from by decide, nf3⟩, List.forall_mem_cons.mpr ⟨⟨show (20 : Nat) < 100 from by decide, nf4⟩, List.forall_mem_cons.mpr ⟨⟨show (20 : Nat) < 100 from by decide, nf5⟩, (fun _ h => (by cases h))⟩⟩⟩⟩⟩⟩, (fun _ h => (by cases h))⟩
set_option maxHeartbeats 4000000 in
theorem vc_Dr_measure_3_0 (x3 : Int) (x5 : Int) (x7 : Int) (x10 : Int) (x11 : Int) (x14 : Int) (x_0 : Int → Int) (leastX_0 : Int) (mostX_0 : Int) (k3 : 1 ≤ x3 ∧ x3 ≤ 23) (k7 : (-40000000) ≤ x7 ∧ x7 ≤ 690000000) (k10 : (-2147483648) ≤ x10 ∧ x10 ≤ 2147483647) (k11 : (-2147483648) ≤ x11 ∧ x11 ≤ 2147483647) (k14 : 2 ≤ x14 ∧ x14 ≤ 24) (f3 : x14 = x3 + 1) (f4 : MNB (x_0) (x10) (x11) (x3) (x7)) (f8 : (leastX_0 ≤ x10) ∧ (leastX_0 ≤ x7)) (f9 : (x11 ≤ mostX_0) ∧ (x7 ≤ mostX_0)) (kz_0_17 : (-41000000) ≤ leastX_0 ∧ leastX_0 ≤ 690000000) (kz_0_19 : (-40000000) ≤ mostX_0 ∧ mostX_0 ≤ 1001000000) : MNA (leastX_0) (mostX_0) (x_0) (x14) := by
  first
    | (have h := (show MNB x_0 x10 x11 x3 x7 by assumption)
       exact mna_step h.1 h.2 (by omega) (by omega) (by omega) (by omega) (by omega))
set_option maxHeartbeats 4000000 in
theorem vc_Dr_measure_3_1 (x3 : Int) (x9 : Int) (x10 : Int) (x11 : Int) (x12 : Int) (x13 : Int) (x14 : Int) (y_0 : Int → Int) (leastY_0 : Int) (mostY_0 : Int) (k3 : 1 ≤ x3 ∧ x3 ≤ 23) (k9 : (-40000000) ≤ x9 ∧ x9 ≤ 690000000) (k12 : (-2147483648) ≤ x12 ∧ x12 ≤ 2147483647) (k13 : (-2147483648) ≤ x13 ∧ x13 ≤ 2147483647) (k14 : 2 ≤ x14 ∧ x14 ≤ 24) (f3 : x14 = x3 + 1) (f5 : MNBy (y_0) (x12) (x13) (x3) (x9)) (f10 : (leastY_0 ≤ x12) ∧ (leastY_0 ≤ x9)) (f11 : (x13 ≤ mostY_0) ∧ (x9 ≤ mostY_0)) (kz_0_18 : (-41000000) ≤ leastY_0 ∧ leastY_0 ≤ 690000000) (kz_0_20 : (-40000000) ≤ mostY_0 ∧ mostY_0 ≤ 1001000000) : MNAy (leastY_0) (mostY_0) (y_0) (x14) := by
  first
    | (have h := (show MNBy y_0 x12 x13 x3 x9 by assumption)
       exact mna_step h.1 h.2 (by omega) (by omega) (by omega) (by omega) (by omega))
def o_Dr_measure_3 : or_T := (42, 15, [(0, (2, 0, 0, [0])), (3, (0, 1, 23, [])), (7, (0, -40000000, 690000000, [])), (9, (0, -40000000, 690000000, [])), (10, (0, -2147483648, 2147483647, [])), (11, (0, -2147483648, 2147483647, [])), (12, (0, -2147483648, 2147483647, [])), (13, (0, -2147483648, 2147483647, [])), (14, (0, 2, 24, []))], [(6, [14, 3], [1]), (20, [2, 10, 11, 3, 7], [60, 0, 1, 928, 2]), (20, [2, 12, 13, 3, 9], [60, 0, 1, 935, 3]), (24, [0, 2], []), (20, [2, 10, 7], [50, 1, 0, 17, 2, 7, 0, 3, 2, 0, 17, 1, 1, 0, 3, 2, 0, 17, 1, 2]), (20, [11, 2, 7], [50, 1, 0, 1019, 2, 7, 0, 2, 1, 0, 2, 1, 19, 0, 2, 1, 2, 2, 1, 19]), (20, [2, 12, 9], [50, 1, 0, 18, 2, 7, 0, 3, 2, 0, 18, 1, 1, 0, 3, 2, 0, 18, 1, 2]), (20, [13, 2, 9], [50, 1, 0, 1020, 2, 7, 0, 2, 1, 0, 2, 1, 20, 0, 2, 1, 2, 2, 1, 20])], [], [], [(20, [2, 14], [60, 2, 1, 927, 17, 19, 2]), (20, [2, 14], [60, 2, 1, 934, 18, 20, 3])], [], [])
theorem oo_Dr_measure_3 {kA : Nat → ClassId} : or_ok PRD kA GG o_Dr_measure_3 := by
  refine or_mk fun A ta ws vs hD hth hl => ?_
  intro t0 r0 t3 k3 t7 k7 t9 k9 t10 k10 t11 k11 t12 k12 t13 k13 t14 k14 f3 f4 f5 f7 f8 f9 f10 f11
  replace f3 := shm_4 f3
  replace f4 := shm_1488 f4
  replace f5 := shm_1489 f5
  replace f7 := shm_5 f7
  replace f8 := shm_1074 f8
  replace f9 := shm_1075 f9
  replace f10 := shm_1076 f10
  replace f11 := shm_1077 f11
  have q2 : n_v vs 2 = n_v vs 0 := f7.symm
  simp only [q2] at f4 f5 f8 f9 f10 f11
  have kz_0_17 := fdq_198 hD hth r0
  have kz_0_18 := fdq_200 hD hth r0
  have kz_0_19 := fdq_199 hD hth r0
  have kz_0_20 := fdq_201 hD hth r0
  have nf0 : fc_1 PRD (20, [2, 14], [60, 2, 1, 927, 17, 19, 2]) ws (vs) := by
    refine ⟨nf_in hl rfl, sgq_1484 ?_⟩
    · show MNA (w_fi ws (n_v vs 2) 17) (w_fi ws (n_v vs 2) 19) (w_ei ws (w_ar ws (n_v vs 2) 2)) (v_iv (n_v vs 14))
      rw [q2]
      exact vc_Dr_measure_3_0 (v_iv (n_v vs 3)) (v_iv (n_v vs 5)) (v_iv (n_v vs 7)) (v_iv (n_v vs 10)) (v_iv (n_v vs 11)) (v_iv (n_v vs 14)) (w_ei ws (w_ar ws (n_v vs 0) 2)) (w_fi ws (n_v vs 0) 17) (w_fi ws (n_v vs 0) 19) k3 k7 k10 k11 k14 f3 f4 f8 f9 kz_0_17 kz_0_19
  have nf1 : fc_1 PRD (20, [2, 14], [60, 2, 1, 934, 18, 20, 3]) ws (vs) := by
    refine ⟨nf_in hl rfl, sgq_1485 ?_⟩
    · show MNAy (w_fi ws (n_v vs 2) 18) (w_fi ws (n_v vs 2) 20) (w_ei ws (w_ar ws (n_v vs 2) 3)) (v_iv (n_v vs 14))
      rw [q2]
      exact vc_Dr_measure_3_1 (v_iv (n_v vs 3)) (v_iv (n_v vs 9)) (v_iv (n_v vs 10)) (v_iv (n_v vs 11)) (v_iv (n_v vs 12)) (v_iv (n_v vs 13)) (v_iv (n_v vs 14)) (w_ei ws (w_ar ws (n_v vs 0) 3)) (w_fi ws (n_v vs 0) 18) (w_fi ws (n_v vs 0) 20) k3 k9 k12 k13 k14 f3 f5 f10 f11 kz_0_18 kz_0_20
  refine ⟨(fun _ h => (by cases h)), [], trivial, ?_, (fun _ h => (by cases h))⟩
  rw [List.append_nil]
  exact List.forall_mem_cons.mpr ⟨⟨show (20 : Nat) < 100 from by decide, nf0⟩, List.forall_mem_cons.mpr ⟨⟨show (20 : Nat) < 100 from by decide, nf1⟩, (fun _ h => (by cases h))⟩⟩
set_option maxHeartbeats 4000000 in
theorem vc_Dr_measure_4_0 (x3 : Int) (x5 : Int) (edges_0o1 : Int) (x_0 : Int → Int) (bends_0 : Int → Int) (bendX_0 : Int → Int) (leastX_0 : Int) (mostX_0 : Int) (nodes_0o1 : Int) (k3 : 0 ≤ x3 ∧ x3 ≤ 48) (k5 : 0 ≤ x5 ∧ x5 ≤ 48) (d0 : x5 + 0 ≤ x3 ∧ x3 ≤ x5 + 4294967296) (g1 : x5 = edges_0o1) (f2 : MN2 (leastX_0) (mostX_0) (nodes_0o1) (x_0) (bends_0) (bendX_0) (x3)) (f5 : x3 ≤ edges_0o1) (kz_0_17 : (-41000000) ≤ leastX_0 ∧ leastX_0 ≤ 690000000) (kz_0_19 : (-40000000) ≤ mostX_0 ∧ mostX_0 ≤ 1001000000) (kz_1_0 : 0 ≤ nodes_0o1 ∧ nodes_0o1 ≤ 24) (kz_1_1 : 0 ≤ edges_0o1 ∧ edges_0o1 ≤ 48) : MSX (leastX_0) (mostX_0) (nodes_0o1) (edges_0o1) (x_0) (bends_0) (bendX_0) := by
  first
    | exact msx_of (show MN2 leastX_0 mostX_0 nodes_0o1 x_0 bends_0 bendX_0 x3 by assumption) (by omega)
  
set_option maxHeartbeats 4000000 in
theorem vc_Dr_measure_4_1 (x3 : Int) (x5 : Int) (edges_0o1 : Int) (bends_0 : Int → Int) (nodes_0o1 : Int) (y_0 : Int → Int) (bendY_0 : Int → Int) (leastY_0 : Int) (mostY_0 : Int) (k3 : 0 ≤ x3 ∧ x3 ≤ 48) (k5 : 0 ≤ x5 ∧ x5 ≤ 48) (d0 : x5 + 0 ≤ x3 ∧ x3 ≤ x5 + 4294967296) (g1 : x5 = edges_0o1) (f3 : MN2y (leastY_0) (mostY_0) (nodes_0o1) (y_0) (bends_0) (bendY_0) (x3)) (f5 : x3 ≤ edges_0o1) (kz_0_18 : (-41000000) ≤ leastY_0 ∧ leastY_0 ≤ 690000000) (kz_0_20 : (-40000000) ≤ mostY_0 ∧ mostY_0 ≤ 1001000000) (kz_1_0 : 0 ≤ nodes_0o1 ∧ nodes_0o1 ≤ 24) (kz_1_1 : 0 ≤ edges_0o1 ∧ edges_0o1 ≤ 48) : MSY (leastY_0) (mostY_0) (nodes_0o1) (edges_0o1) (y_0) (bends_0) (bendY_0) := by
  first
    | exact msx_of (show MN2 leastY_0 mostY_0 nodes_0o1 y_0 bends_0 bendY_0 x3 by assumption) (by omega)
  
def o_Dr_measure_4 : or_T := (128, 6, [(0, (2, 0, 0, [0])), (1, (2, 0, 0, [3])), (3, (0, 0, 48, [])), (5, (0, 0, 48, []))], [(9, [5, 4], [1]), (20, [2, 4, 3], [60, 3, 3, 930, 17, 19, 1000, 2, 4, 5]), (20, [2, 4, 3], [60, 3, 3, 937, 18, 20, 1000, 3, 4, 6]), (24, [1, 4], []), (20, [3, 4], [50, 1, 0, 1001, 0, 2, 1, 0, 2, 1, 1]), (24, [0, 2], [])], [], [], [(20, [0, 1], [60, 4, 3, 932, 17, 19, 1000, 1001, 2, 4, 5]), (20, [0, 1], [60, 4, 3, 939, 18, 20, 1000, 1001, 3, 4, 6])], [], [(3, 5, 0, 4294967296)])
theorem oo_Dr_measure_4 {kA : Nat → ClassId} : or_ok PRD kA GG o_Dr_measure_4 := by
  refine or_mk fun A ta ws vs hD hth hl => ?_
  intro t0 r0 t1 r1 t3 k3 t5 k5 d0 f1 f2 f3 f4 f5 f6
  replace f1 := shm_215 f1
  replace f2 := shm_1486 f2
  replace f3 := shm_1487 f3
  replace f4 := shm_5 f4
  replace f5 := shm_483 f5
  replace f6 := shm_5 f6
  have q4 : n_v vs 4 = n_v vs 1 := f4.symm
  have q2 : n_v vs 2 = n_v vs 0 := f6.symm
  simp only [q4, q2] at f1 f2 f3 f5
  have g1 : v_iv (n_v vs 5) = w_fi ws (n_v vs 1) 1 := congrArg v_iv f1
  have kz_0_17 := fdq_198 hD hth r0
  have kz_0_18 := fdq_200 hD hth r0
  have kz_0_19 := fdq_199 hD hth r0
  have kz_0_20 := fdq_201 hD hth r0
  have kz_1_0 := fdq_21 hD hth r1
  have kz_1_1 := fdq_30 hD hth r1
  have nf0 : fc_1 PRD (20, [0, 1], [60, 4, 3, 932, 17, 19, 1000, 1001, 2, 4, 5]) ws (vs) := ⟨nf_in hl rfl, sgq_1490 (vc_Dr_measure_4_0 (v_iv (n_v vs 3)) (v_iv (n_v vs 5)) (w_fi ws (n_v vs 1) 1) (w_ei ws (w_ar ws (n_v vs 0) 2)) (w_ei ws (w_ar ws (n_v vs 0) 4)) (w_ei ws (w_ar ws (n_v vs 0) 5)) (w_fi ws (n_v vs 0) 17) (w_fi ws (n_v vs 0) 19) (w_fi ws (n_v vs 1) 0) k3 k5 d0 g1 f2 f5 kz_0_17 kz_0_19 kz_1_0 kz_1_1)⟩
  have nf1 : fc_1 PRD (20, [0, 1], [60, 4, 3, 939, 18, 20, 1000, 1001, 3, 4, 6]) ws (vs) := ⟨nf_in hl rfl, sgq_1491 (vc_Dr_measure_4_1 (v_iv (n_v vs 3)) (v_iv (n_v vs 5)) (w_fi ws (n_v vs 1) 1) (w_ei ws (w_ar ws (n_v vs 0) 4)) (w_fi ws (n_v vs 1) 0) (w_ei ws (w_ar ws (n_v vs 0) 3)) (w_ei ws (w_ar ws (n_v vs 0) 6)) (w_fi ws (n_v vs 0) 18) (w_fi ws (n_v vs 0) 20) k3 k5 d0 g1 f3 f5 kz_0_18 kz_0_20 kz_1_0 kz_1_1)⟩
  refine ⟨(fun _ h => (by cases h)), [], trivial, ?_, (fun _ h => (by cases h))⟩
  rw [List.append_nil]
  exact List.forall_mem_cons.mpr ⟨⟨show (20 : Nat) < 100 from by decide, nf0⟩, List.forall_mem_cons.mpr ⟨⟨show (20 : Nat) < 100 from by decide, nf1⟩, (fun _ h => (by cases h))⟩⟩
set_option maxHeartbeats 4000000 in
theorem vc_Dr_measure_5_0 (x3 : Int) (x6 : Int) (x_0 : Int → Int) (bends_0 : Int → Int) (bendX_0 : Int → Int) (leastX_0 : Int) (mostX_0 : Int) (nodes_0o1 : Int) (k3 : 0 ≤ x3 ∧ x3 ≤ 47) (k6 : 1 ≤ x6 ∧ x6 ≤ 1) (f2 : MN2 (leastX_0) (mostX_0) (nodes_0o1) (x_0) (bends_0) (bendX_0) (x3)) (kz_0_17 : (-41000000) ≤ leastX_0 ∧ leastX_0 ≤ 690000000) (kz_0_19 : (-40000000) ≤ mostX_0 ∧ mostX_0 ≤ 1001000000) (kz_1_0 : 0 ≤ nodes_0o1 ∧ nodes_0o1 ≤ 24) : MN3 (leastX_0) (mostX_0) (nodes_0o1) (x_0) (bends_0) (bendX_0) (x3) (x6) := by
  first
    | exact mn3_start (show MN2 leastX_0 mostX_0 nodes_0o1 x_0 bends_0 bendX_0 x3 by assumption) (by omega)
set_option maxHeartbeats 4000000 in
theorem vc_Dr_measure_5_1 (x3 : Int) (x6 : Int) (bends_0 : Int → Int) (nodes_0o1 : Int) (y_0 : Int → Int) (bendY_0 : Int → Int) (leastY_0 : Int) (mostY_0 : Int) (k3 : 0 ≤ x3 ∧ x3 ≤ 47) (k6 : 1 ≤ x6 ∧ x6 ≤ 1) (f3 : MN2y (leastY_0) (mostY_0) (nodes_0o1) (y_0) (bends_0) (bendY_0) (x3)) (kz_0_18 : (-41000000) ≤ leastY_0 ∧ leastY_0 ≤ 690000000) (kz_0_20 : (-40000000) ≤ mostY_0 ∧ mostY_0 ≤ 1001000000) (kz_1_0 : 0 ≤ nodes_0o1 ∧ nodes_0o1 ≤ 24) : MN3y (leastY_0) (mostY_0) (nodes_0o1) (y_0) (bends_0) (bendY_0) (x3) (x6) := by
  first
    | exact mn3_start (show MN2 leastY_0 mostY_0 nodes_0o1 y_0 bends_0 bendY_0 x3 by assumption) (by omega)
set_option maxHeartbeats 4000000 in
theorem vc_Dr_measure_5_2 (x3 : Int) (x5 : Int) (edges_0o1 : Int) (k3 : 0 ≤ x3 ∧ x3 ≤ 47) (k5 : 1 ≤ x5 ∧ x5 ≤ 48) (d0 : x5 + (-4294967296) ≤ x3 ∧ x3 ≤ x5 + (-1)) (g1 : x5 = edges_0o1) (kz_1_1 : 0 ≤ edges_0o1 ∧ edges_0o1 ≤ 48) : (x3 + 1) ≤ edges_0o1 := by
  first
    | omega
  
def o_Dr_measure_5 : or_T := (90, 7, [(0, (2, 0, 0, [0])), (1, (2, 0, 0, [3])), (3, (0, 0, 47, [])), (5, (0, 1, 48, [])), (6, (0, 1, 1, []))], [(9, [5, 4], [1]), (20, [2, 4, 3], [60, 3, 3, 930, 17, 19, 1000, 2, 4, 5]), (20, [2, 4, 3], [60, 3, 3, 937, 18, 20, 1000, 3, 4, 6]), (24, [1, 4], []), (24, [0, 2], [])], [], [], [(20, [2, 4, 3, 6], [60, 3, 3, 931, 17, 19, 1000, 2, 4, 5]), (20, [2, 4, 3, 6], [60, 3, 3, 938, 18, 20, 1000, 3, 4, 6]), (20, [3, 4], [50, 1, 0, 1001, 0, 6, 4, 2, 1, 0, 0, 1, 2, 1, 1])], [], [(3, 5, -4294967296, -1)])
theorem oo_Dr_measure_5 {kA : Nat → ClassId} : or_ok PRD kA GG o_Dr_measure_5 := by
  refine or_mk fun A ta ws vs hD hth hl => ?_
  intro t0 r0 t1 r1 t3 k3 t5 k5 t6 k6 d0 f1 f2 f3 f4 f6
  replace f1 := shm_215 f1
  replace f2 := shm_1486 f2
  replace f3 := shm_1487 f3
  replace f4 := shm_5 f4
  replace f6 := shm_5 f6
  have q4 : n_v vs 4 = n_v vs 1 := f4.symm
  have q2 : n_v vs 2 = n_v vs 0 := f6.symm
  simp only [q4, q2] at f1 f2 f3
  have g1 : v_iv (n_v vs 5) = w_fi ws (n_v vs 1) 1 := congrArg v_iv f1
  have kz_0_17 := fdq_198 hD hth r0
  have kz_0_18 := fdq_200 hD hth r0
  have kz_0_19 := fdq_199 hD hth r0
  have kz_0_20 := fdq_201 hD hth r0
  have kz_1_0 := fdq_21 hD hth r1
  have kz_1_1 := fdq_30 hD hth r1
  have nf0 : fc_1 PRD (20, [2, 4, 3, 6], [60, 3, 3, 931, 17, 19, 1000, 2, 4, 5]) ws (vs) := by
    refine ⟨nf_in hl rfl, sgq_1492 ?_⟩
    · show MN3 (w_fi ws (n_v vs 2) 17) (w_fi ws (n_v vs 2) 19) (w_fi ws (n_v vs 4) 0) (w_ei ws (w_ar ws (n_v vs 2) 2)) (w_ei ws (w_ar ws (n_v vs 2) 4)) (w_ei ws (w_ar ws (n_v vs 2) 5)) (v_iv (n_v vs 3)) (v_iv (n_v vs 6))
      simp only [q4, q2]
      exact vc_Dr_measure_5_0 (v_iv (n_v vs 3)) (v_iv (n_v vs 6)) (w_ei ws (w_ar ws (n_v vs 0) 2)) (w_ei ws (w_ar ws (n_v vs 0) 4)) (w_ei ws (w_ar ws (n_v vs 0) 5)) (w_fi ws (n_v vs 0) 17) (w_fi ws (n_v vs 0) 19) (w_fi ws (n_v vs 1) 0) k3 k6 f2 kz_0_17 kz_0_19 kz_1_0
  have nf1 : fc_1 PRD (20, [2, 4, 3, 6], [60, 3, 3, 938, 18, 20, 1000, 3, 4, 6]) ws (vs) := by
    refine ⟨nf_in hl rfl, sgq_1493 ?_⟩
    · show MN3y (w_fi ws (n_v vs 2) 18) (w_fi ws (n_v vs 2) 20) (w_fi ws (n_v vs 4) 0) (w_ei ws (w_ar ws (n_v vs 2) 3)) (w_ei ws (w_ar ws (n_v vs 2) 4)) (w_ei ws (w_ar ws (n_v vs 2) 6)) (v_iv (n_v vs 3)) (v_iv (n_v vs 6))
      simp only [q4, q2]
      exact vc_Dr_measure_5_1 (v_iv (n_v vs 3)) (v_iv (n_v vs 6)) (w_ei ws (w_ar ws (n_v vs 0) 4)) (w_fi ws (n_v vs 1) 0) (w_ei ws (w_ar ws (n_v vs 0) 3)) (w_ei ws (w_ar ws (n_v vs 0) 6)) (w_fi ws (n_v vs 0) 18) (w_fi ws (n_v vs 0) 20) k3 k6 f3 kz_0_18 kz_0_20 kz_1_0
  have nf2 : fc_1 PRD (20, [3, 4], [50, 1, 0, 1001, 0, 6, 4, 2, 1, 0, 0, 1, 2, 1, 1]) ws (vs) := by
    refine ⟨nf_in hl rfl, sgq_1219 ?_⟩
    · show (v_iv (n_v vs 3) + 1) ≤ w_fi ws (n_v vs 4) 1
      rw [q4]
      exact vc_Dr_measure_5_2 (v_iv (n_v vs 3)) (v_iv (n_v vs 5)) (w_fi ws (n_v vs 1) 1) k3 k5 d0 g1 kz_1_1
  refine ⟨(fun _ h => (by cases h)), [], trivial, ?_, (fun _ h => (by cases h))⟩
  rw [List.append_nil]
  exact List.forall_mem_cons.mpr ⟨⟨show (20 : Nat) < 100 from by decide, nf0⟩, List.forall_mem_cons.mpr ⟨⟨show (20 : Nat) < 100 from by decide, nf1⟩, List.forall_mem_cons.mpr ⟨⟨show (20 : Nat) < 100 from by decide, nf2⟩, (fun _ h => (by cases h))⟩⟩⟩
set_option maxHeartbeats 4000000 in
theorem vc_Dr_measure_6_0 (x3 : Int) (x4 : Int) (x7 : Int) (x8 : Int) (bends_0 : Int → Int) (x_0 : Int → Int) (bendX_0 : Int → Int) (leastX_0 : Int) (mostX_0 : Int) (nodes_0o1 : Int) (k3 : 0 ≤ x3 ∧ x3 ≤ 47) (k4 : 1 ≤ x4 ∧ x4 ≤ 25) (k7 : 0 ≤ x7 ∧ x7 ≤ 24) (k8 : 1 ≤ x8 ∧ x8 ≤ 48) (d1 : x7 + 1 ≤ x4 ∧ x4 ≤ x7 + 4294967296) (f0 : x8 = x3 + 1) (h2 : x7 = bends_0 (x3)) (f4 : MN3 (leastX_0) (mostX_0) (nodes_0o1) (x_0) (bends_0) (bendX_0) (x3) (x4)) (kz_0_17 : (-41000000) ≤ leastX_0 ∧ leastX_0 ≤ 690000000) (kz_0_19 : (-40000000) ≤ mostX_0 ∧ mostX_0 ≤ 1001000000) (kz_1_0 : 0 ≤ nodes_0o1 ∧ nodes_0o1 ≤ 24) : MN2 (leastX_0) (mostX_0) (nodes_0o1) (x_0) (bends_0) (bendX_0) (x8) := by
  first
    | exact mn2_next (show MN3 leastX_0 mostX_0 nodes_0o1 x_0 bends_0 bendX_0 x3 x4 by assumption) (by omega) (by omega)
set_option maxHeartbeats 4000000 in
theorem vc_Dr_measure_6_1 (x3 : Int) (x4 : Int) (x7 : Int) (x8 : Int) (bends_0 : Int → Int) (nodes_0o1 : Int) (y_0 : Int → Int) (bendY_0 : Int → Int) (leastY_0 : Int) (mostY_0 : Int) (k3 : 0 ≤ x3 ∧ x3 ≤ 47) (k4 : 1 ≤ x4 ∧ x4 ≤ 25) (k7 : 0 ≤ x7 ∧ x7 ≤ 24) (k8 : 1 ≤ x8 ∧ x8 ≤ 48) (d1 : x7 + 1 ≤ x4 ∧ x4 ≤ x7 + 4294967296) (f0 : x8 = x3 + 1) (h2 : x7 = bends_0 (x3)) (f5 : MN3y (leastY_0) (mostY_0) (nodes_0o1) (y_0) (bends_0) (bendY_0) (x3) (x4)) (kz_0_18 : (-41000000) ≤ leastY_0 ∧ leastY_0 ≤ 690000000) (kz_0_20 : (-40000000) ≤ mostY_0 ∧ mostY_0 ≤ 1001000000) (kz_1_0 : 0 ≤ nodes_0o1 ∧ nodes_0o1 ≤ 24) : MN2y (leastY_0) (mostY_0) (nodes_0o1) (y_0) (bends_0) (bendY_0) (x8) := by
  first
    | exact mn2_next (show MN3 leastY_0 mostY_0 nodes_0o1 y_0 bends_0 bendY_0 x3 x4 by assumption) (by omega) (by omega)
set_option maxHeartbeats 4000000 in
theorem vc_Dr_measure_6_2 (x3 : Int) (x8 : Int) (edges_0o1 : Int) (k3 : 0 ≤ x3 ∧ x3 ≤ 47) (k8 : 1 ≤ x8 ∧ x8 ≤ 48) (d0 : x3 + 1 ≤ x8 ∧ x8 ≤ x3 + 1) (f7 : (x3 + 1) ≤ edges_0o1) (kz_1_1 : 0 ≤ edges_0o1 ∧ edges_0o1 ≤ 48) : x8 ≤ edges_0o1 := by
  first
    | omega
  
def o_Dr_measure_6 : or_T := (77, 9, [(0, (2, 0, 0, [0])), (1, (2, 0, 0, [3])), (3, (0, 0, 47, [])), (4, (0, 1, 25, [])), (7, (0, 0, 24, [])), (8, (0, 1, 48, []))], [(6, [8, 3], [1]), (10, [7, 6, 3], []), (9, [6, 2], [4]), (20, [2, 5, 3, 4], [60, 3, 3, 931, 17, 19, 1000, 2, 4, 5]), (20, [2, 5, 3, 4], [60, 3, 3, 938, 18, 20, 1000, 3, 4, 6]), (24, [1, 5], []), (20, [3, 5], [50, 1, 0, 1001, 0, 6, 4, 2, 1, 0, 0, 1, 2, 1, 1]), (24, [0, 2], [])], [], [], [(20, [2, 5, 8], [60, 3, 3, 930, 17, 19, 1000, 2, 4, 5]), (20, [2, 5, 8], [60, 3, 3, 937, 18, 20, 1000, 3, 4, 6]), (20, [8, 5], [50, 1, 0, 1001, 0, 2, 1, 0, 2, 1, 1])], [], [(8, 3, 1, 1), (4, 7, 1, 4294967296)])
theorem oo_Dr_measure_6 {kA : Nat → ClassId} : or_ok PRD kA GG o_Dr_measure_6 := by
  refine or_mk fun A ta ws vs hD hth hl => ?_
  intro t0 r0 t1 r1 t3 k3 t4 k4 t7 k7 t8 k8 d0 d1 f0 f2 f3 f4 f5 f6 f7 f8
  replace f0 := shm_4 f0
  replace f2 := shm_107 f2
  replace f3 := shm_108 f3
  replace f4 := shm_1492 f4
  replace f5 := shm_1493 f5
  replace f6 := shm_5 f6
  replace f7 := shm_1219 f7
  replace f8 := shm_5 f8
  have q5 : n_v vs 5 = n_v vs 1 := f6.symm
  have q2 : n_v vs 2 = n_v vs 0 := f8.symm
  simp only [q2, q5] at f3 f4 f5 f7
  have ad_6 : v_ad (n_v vs 6) = w_ar ws (n_v vs 0) 4 := congrArg v_ad f3
  simp only [ad_6] at f2
  have h2 : v_iv (n_v vs 7) = w_ei ws (w_ar ws (n_v vs 0) 4) (v_iv (n_v vs 3)) := f2
  have kz_0_17 := fdq_198 hD hth r0
  have kz_0_18 := fdq_200 hD hth r0
  have kz_0_19 := fdq_199 hD hth r0
  have kz_0_20 := fdq_201 hD hth r0
  have kz_1_0 := fdq_21 hD hth r1
  have kz_1_1 := fdq_30 hD hth r1
  have nf0 : fc_1 PRD (20, [2, 5, 8], [60, 3, 3, 930, 17, 19, 1000, 2, 4, 5]) ws (vs) := by
    refine ⟨nf_in hl rfl, sgq_1486 ?_⟩
    · show MN2 (w_fi ws (n_v vs 2) 17) (w_fi ws (n_v vs 2) 19) (w_fi ws (n_v vs 5) 0) (w_ei ws (w_ar ws (n_v vs 2) 2)) (w_ei ws (w_ar ws (n_v vs 2) 4)) (w_ei ws (w_ar ws (n_v vs 2) 5)) (v_iv (n_v vs 8))
      simp only [q5, q2]
      exact vc_Dr_measure_6_0 (v_iv (n_v vs 3)) (v_iv (n_v vs 4)) (v_iv (n_v vs 7)) (v_iv (n_v vs 8)) (w_ei ws (w_ar ws (n_v vs 0) 4)) (w_ei ws (w_ar ws (n_v vs 0) 2)) (w_ei ws (w_ar ws (n_v vs 0) 5)) (w_fi ws (n_v vs 0) 17) (w_fi ws (n_v vs 0) 19) (w_fi ws (n_v vs 1) 0) k3 k4 k7 k8 d1 f0 h2 f4 kz_0_17 kz_0_19 kz_1_0
  have nf1 : fc_1 PRD (20, [2, 5, 8], [60, 3, 3, 937, 18, 20, 1000, 3, 4, 6]) ws (vs) := by
    refine ⟨nf_in hl rfl, sgq_1487 ?_⟩
    · show MN2y (w_fi ws (n_v vs 2) 18) (w_fi ws (n_v vs 2) 20) (w_fi ws (n_v vs 5) 0) (w_ei ws (w_ar ws (n_v vs 2) 3)) (w_ei ws (w_ar ws (n_v vs 2) 4)) (w_ei ws (w_ar ws (n_v vs 2) 6)) (v_iv (n_v vs 8))
      simp only [q5, q2]
      exact vc_Dr_measure_6_1 (v_iv (n_v vs 3)) (v_iv (n_v vs 4)) (v_iv (n_v vs 7)) (v_iv (n_v vs 8)) (w_ei ws (w_ar ws (n_v vs 0) 4)) (w_fi ws (n_v vs 1) 0) (w_ei ws (w_ar ws (n_v vs 0) 3)) (w_ei ws (w_ar ws (n_v vs 0) 6)) (w_fi ws (n_v vs 0) 18) (w_fi ws (n_v vs 0) 20) k3 k4 k7 k8 d1 f0 h2 f5 kz_0_18 kz_0_20 kz_1_0
  have nf2 : fc_1 PRD (20, [8, 5], [50, 1, 0, 1001, 0, 2, 1, 0, 2, 1, 1]) ws (vs) := by
    refine ⟨nf_in hl rfl, sgq_483 ?_⟩
    · show v_iv (n_v vs 8) ≤ w_fi ws (n_v vs 5) 1
      rw [q5]
      exact vc_Dr_measure_6_2 (v_iv (n_v vs 3)) (v_iv (n_v vs 8)) (w_fi ws (n_v vs 1) 1) k3 k8 d0 f7 kz_1_1
  refine ⟨(fun _ h => (by cases h)), [], trivial, ?_, (fun _ h => (by cases h))⟩
  rw [List.append_nil]
  exact List.forall_mem_cons.mpr ⟨⟨show (20 : Nat) < 100 from by decide, nf0⟩, List.forall_mem_cons.mpr ⟨⟨show (20 : Nat) < 100 from by decide, nf1⟩, List.forall_mem_cons.mpr ⟨⟨show (20 : Nat) < 100 from by decide, nf2⟩, (fun _ h => (by cases h))⟩⟩⟩
set_option maxHeartbeats 4000000 in
theorem vc_Dr_measure_7_0 (leastX_0 : Int) (gx : Int) (kz_0_17 : (-41000000) ≤ leastX_0 ∧ leastX_0 ≤ 690000000) (ex2 : gx = leastX_0) : leastX_0 = gx := by
  first
    | omega
  
set_option maxHeartbeats 4000000 in
theorem vc_Dr_measure_7_1 (mostX_0 : Int) (gy : Int) (kz_0_19 : (-40000000) ≤ mostX_0 ∧ mostX_0 ≤ 1001000000) (ey2 : gy = mostX_0) : mostX_0 = gy := by
  first
    | omega
  
set_option maxHeartbeats 4000000 in
theorem vc_Dr_measure_7_2 (leastY_0 : Int) (gu : Int) (kz_0_18 : (-41000000) ≤ leastY_0 ∧ leastY_0 ≤ 690000000) (eu2 : gu = leastY_0) : leastY_0 = gu := by
  first
    | omega
  
set_option maxHeartbeats 4000000 in
theorem vc_Dr_measure_7_3 (mostY_0 : Int) (gw : Int) (kz_0_20 : (-40000000) ≤ mostY_0 ∧ mostY_0 ≤ 1001000000) (ew2 : gw = mostY_0) : mostY_0 = gw := by
  first
    | omega
  
set_option maxHeartbeats 4000000 in
theorem vc_Dr_measure_7_4 (x3 : Int) (x4 : Int) (x7 : Int) (x8 : Int) (bends_0 : Int → Int) (tail_0o1 : Int → Int) (head_0o1 : Int → Int) (x_0 : Int → Int) (bendX_0 : Int → Int) (leastX_0 : Int) (mostX_0 : Int) (nodes_0o1 : Int) (gx : Int) (gy : Int) (k3 : 0 ≤ x3 ∧ x3 ≤ 47) (k4 : 1 ≤ x4 ∧ x4 ≤ 24) (k7 : 1 ≤ x7 ∧ x7 ≤ 24) (k8 : (-40000000) ≤ x8 ∧ x8 ≤ 690000000) (d0 : x7 + (-4294967296) ≤ x4 ∧ x4 ≤ x7 + 0) (f1 : PTX (x_0) (bends_0) (bendX_0) (tail_0o1) (head_0o1) (x3) (x4) (x8)) (h3 : x7 = bends_0 (x3)) (f5 : MN3 (leastX_0) (mostX_0) (nodes_0o1) (x_0) (bends_0) (bendX_0) (x3) (x4)) (kz_0_17 : (-41000000) ≤ leastX_0 ∧ leastX_0 ≤ 690000000) (kz_0_19 : (-40000000) ≤ mostX_0 ∧ mostX_0 ≤ 1001000000) (kz_1_0 : 0 ≤ nodes_0o1 ∧ nodes_0o1 ≤ 24) (ex2 : gx = leastX_0) (ey2 : gy = mostX_0) : MN4 (nodes_0o1) (x_0) (bends_0) (bendX_0) (gx) (gy) (x3) (x4) (x8) := by
  first
    | (have b := (‹x7 = bends_0 x3›)
       have q := (show MN3 leastX_0 mostX_0 nodes_0o1 x_0 bends_0 bendX_0 x3 x4 by assumption)
       rw [show gx = leastX_0 by omega, show gy = mostX_0 by omega]
       exact ⟨q, ptx_bend (show PTX x_0 bends_0 bendX_0 tail_0o1 head_0o1 x3 x4 x8 by assumption) (by have := q.2.1; omega) (by omega)⟩)
  
set_option maxHeartbeats 4000000 in
theorem vc_Dr_measure_7_5 (x3 : Int) (x4 : Int) (x7 : Int) (x9 : Int) (y_0 : Int → Int) (bends_0 : Int → Int) (bendY_0 : Int → Int) (tail_0o1 : Int → Int) (head_0o1 : Int → Int) (nodes_0o1 : Int) (leastY_0 : Int) (mostY_0 : Int) (gu : Int) (gw : Int) (k3 : 0 ≤ x3 ∧ x3 ≤ 47) (k4 : 1 ≤ x4 ∧ x4 ≤ 24) (k7 : 1 ≤ x7 ∧ x7 ≤ 24) (k9 : (-40000000) ≤ x9 ∧ x9 ≤ 690000000) (d0 : x7 + (-4294967296) ≤ x4 ∧ x4 ≤ x7 + 0) (f0 : PTY (y_0) (bends_0) (bendY_0) (tail_0o1) (head_0o1) (x3) (x4) (x9)) (h3 : x7 = bends_0 (x3)) (f6 : MN3y (leastY_0) (mostY_0) (nodes_0o1) (y_0) (bends_0) (bendY_0) (x3) (x4)) (kz_0_18 : (-41000000) ≤ leastY_0 ∧ leastY_0 ≤ 690000000) (kz_0_20 : (-40000000) ≤ mostY_0 ∧ mostY_0 ≤ 1001000000) (kz_1_0 : 0 ≤ nodes_0o1 ∧ nodes_0o1 ≤ 24) (eu2 : gu = leastY_0) (ew2 : gw = mostY_0) : MN4y (nodes_0o1) (y_0) (bends_0) (bendY_0) (gu) (gw) (x3) (x4) (x9) := by
  first
    | (have b := (‹x7 = bends_0 x3›)
       have q := (show MN3 leastY_0 mostY_0 nodes_0o1 y_0 bends_0 bendY_0 x3 x4 by assumption)
       rw [show gu = leastY_0 by omega, show gw = mostY_0 by omega]
       exact ⟨q, ptx_bend (show PTX y_0 bends_0 bendY_0 tail_0o1 head_0o1 x3 x4 x9 by assumption) (by have := q.2.1; omega) (by omega)⟩)
  
def o_Dr_measure_7 : or_T := (113, 10, [(0, (2, 0, 0, [0])), (1, (2, 0, 0, [3])), (2, (2, 0, 0, [0])), (3, (0, 0, 47, [])), (4, (0, 1, 24, [])), (5, (2, 0, 0, [3])), (6, (2, 0, 0, [16])), (7, (0, 1, 24, [])), (8, (0, -40000000, 690000000, [])), (9, (0, -40000000, 690000000, []))], [(20, [2, 5, 3, 4, 9], [60, 0, 5, 940, 3, 4, 6, 1007, 1008]), (20, [2, 5, 3, 4, 8], [60, 0, 5, 933, 2, 4, 5, 1007, 1008]), (7, [4, 7], [5]), (10, [7, 6, 3], []), (9, [6, 2], [4]), (20, [2, 5, 3, 4], [60, 3, 3, 931, 17, 19, 1000, 2, 4, 5]), (20, [2, 5, 3, 4], [60, 3, 3, 938, 18, 20, 1000, 3, 4, 6]), (24, [1, 5], []), (20, [3, 5], [50, 1, 0, 1001, 0, 6, 4, 2, 1, 0, 0, 1, 2, 1, 1]), (24, [0, 2], [])], [], [(0, -2147483648, 2147483647, []), (0, -2147483648, 2147483647, []), (0, -2147483648, 2147483647, []), (0, -2147483648, 2147483647, [])], [(20, [2, 10], [50, 1, 0, 17, 1, 3, 2, 0, 17, 1, 1]), (20, [2, 11], [50, 1, 0, 19, 1, 3, 2, 0, 19, 1, 1]), (20, [2, 12], [50, 1, 0, 18, 1, 3, 2, 0, 18, 1, 1]), (20, [2, 13], [50, 1, 0, 20, 1, 3, 2, 0, 20, 1, 1]), (20, [2, 5, 10, 11, 3, 4, 8], [60, 1, 3, 929, 1000, 2, 4, 5]), (20, [2, 5, 12, 13, 3, 4, 9], [60, 1, 3, 936, 1000, 3, 4, 6])], [], [(4, 7, -4294967296, 0)])
theorem oo_Dr_measure_7 {kA : Nat → ClassId} : or_ok PRD kA GG o_Dr_measure_7 := by
  refine or_mk fun A ta ws vs hD hth hl => ?_
  intro t0 r0 t1 r1 t2 r2 t3 k3 t4 k4 t5 r5 t6 r6 t7 k7 t8 k8 t9 k9 d0 f0 f1 f2 f3 f4 f5 f6 f7 f8 f9
  replace f0 := shm_344 f0
  replace f1 := shm_343 f1
  replace f3 := shm_107 f3
  replace f4 := shm_108 f4
  replace f5 := shm_1492 f5
  replace f6 := shm_1493 f6
  replace f7 := shm_5 f7
  replace f9 := shm_5 f9
  have q5 : n_v vs 5 = n_v vs 1 := f7.symm
  have q2 : n_v vs 2 = n_v vs 0 := f9.symm
  simp only [q5, q2] at f0 f1 f4 f5 f6
  have ad_6 : v_ad (n_v vs 6) = w_ar ws (n_v vs 0) 4 := congrArg v_ad f4
  simp only [ad_6] at f3
  have h3 : v_iv (n_v vs 7) = w_ei ws (w_ar ws (n_v vs 0) 4) (v_iv (n_v vs 3)) := f3
  have kz_0_17 := fdq_198 hD hth r0
  have kz_0_18 := fdq_200 hD hth r0
  have kz_0_19 := fdq_199 hD hth r0
  have kz_0_20 := fdq_201 hD hth r0
  have kz_1_0 := fdq_21 hD hth r1
  obtain ⟨x, ex, hx⟩ := iv_ex (ta := ta) (lo := (-2147483648)) (hi := 2147483647) (z := w_fi ws (n_v vs 0) 17) (by omega) (by omega) (by omega) (by omega)
  have ex2 : v_iv (Value.int x) = w_fi ws (n_v vs 0) 17 := ex
  have ex3 : (-2147483648) ≤ v_iv (Value.int x) ∧ v_iv (Value.int x) ≤ 2147483647 := tv_rng hx
  obtain ⟨y, ey, hy⟩ := iv_ex (ta := ta) (lo := (-2147483648)) (hi := 2147483647) (z := w_fi ws (n_v vs 0) 19) (by omega) (by omega) (by omega) (by omega)
  have ey2 : v_iv (Value.int y) = w_fi ws (n_v vs 0) 19 := ey
  have ey3 : (-2147483648) ≤ v_iv (Value.int y) ∧ v_iv (Value.int y) ≤ 2147483647 := tv_rng hy
  obtain ⟨u, eu, hu⟩ := iv_ex (ta := ta) (lo := (-2147483648)) (hi := 2147483647) (z := w_fi ws (n_v vs 0) 18) (by omega) (by omega) (by omega) (by omega)
  have eu2 : v_iv (Value.int u) = w_fi ws (n_v vs 0) 18 := eu
  have eu3 : (-2147483648) ≤ v_iv (Value.int u) ∧ v_iv (Value.int u) ≤ 2147483647 := tv_rng hu
  obtain ⟨w, ew, hw⟩ := iv_ex (ta := ta) (lo := (-2147483648)) (hi := 2147483647) (z := w_fi ws (n_v vs 0) 20) (by omega) (by omega) (by omega) (by omega)
  have ew2 : v_iv (Value.int w) = w_fi ws (n_v vs 0) 20 := ew
  have ew3 : (-2147483648) ≤ v_iv (Value.int w) ∧ v_iv (Value.int w) ≤ 2147483647 := tv_rng hw
  have e_2 : n_v (vs ++ [Value.int x, Value.int y, Value.int u, Value.int w]) 2 = n_v vs 2 := n_v_old (by rw [hl]; decide)
  have e_3 : n_v (vs ++ [Value.int x, Value.int y, Value.int u, Value.int w]) 3 = n_v vs 3 := n_v_old (by rw [hl]; decide)
  have e_4 : n_v (vs ++ [Value.int x, Value.int y, Value.int u, Value.int w]) 4 = n_v vs 4 := n_v_old (by rw [hl]; decide)
  have e_5 : n_v (vs ++ [Value.int x, Value.int y, Value.int u, Value.int w]) 5 = n_v vs 5 := n_v_old (by rw [hl]; decide)
  have e_8 : n_v (vs ++ [Value.int x, Value.int y, Value.int u, Value.int w]) 8 = n_v vs 8 := n_v_old (by rw [hl]; decide)
  have e_9 : n_v (vs ++ [Value.int x, Value.int y, Value.int u, Value.int w]) 9 = n_v vs 9 := n_v_old (by rw [hl]; decide)
  have e_10 : n_v (vs ++ [Value.int x, Value.int y, Value.int u, Value.int w]) 10 = Value.int x := n_v_newk (k := 0) hl rfl
  have e_11 : n_v (vs ++ [Value.int x, Value.int y, Value.int u, Value.int w]) 11 = Value.int y := n_v_newk (k := 1) hl rfl
  have e_12 : n_v (vs ++ [Value.int x, Value.int y, Value.int u, Value.int w]) 12 = Value.int u := n_v_newk (k := 2) hl rfl
  have e_13 : n_v (vs ++ [Value.int x, Value.int y, Value.int u, Value.int w]) 13 = Value.int w := n_v_newk (k := 3) hl rfl
  have nf0 : fc_1 PRD (20, [2, 10], [50, 1, 0, 17, 1, 3, 2, 0, 17, 1, 1]) ws (vs ++ [Value.int x, Value.int y, Value.int u, Value.int w]) := by
    refine ⟨nf_inA hl rfl, sgq_1073 ?_⟩
    · show w_fi ws (n_v (vs ++ [Value.int x, Value.int y, Value.int u, Value.int w]) 2) 17 = v_iv (n_v (vs ++ [Value.int x, Value.int y, Value.int u, Value.int w]) 10)
      simp only [e_2, e_10, q2]
      exact vc_Dr_measure_7_0 (w_fi ws (n_v vs 0) 17) (v_iv (Value.int x)) kz_0_17 ex2
  have nf1 : fc_1 PRD (20, [2, 11], [50, 1, 0, 19, 1, 3, 2, 0, 19, 1, 1]) ws (vs ++ [Value.int x, Value.int y, Value.int u, Value.int w]) := by
    refine ⟨nf_inA hl rfl, sgq_1072 ?_⟩
    · show w_fi ws (n_v (vs ++ [Value.int x, Value.int y, Value.int u, Value.int w]) 2) 19 = v_iv (n_v (vs ++ [Value.int x, Value.int y, Value.int u, Value.int w]) 11)
      simp only [e_2, e_11, q2]
      exact vc_Dr_measure_7_1 (w_fi ws (n_v vs 0) 19) (v_iv (Value.int y)) kz_0_19 ey2
  have nf2 : fc_1 PRD (20, [2, 12], [50, 1, 0, 18, 1, 3, 2, 0, 18, 1, 1]) ws (vs ++ [Value.int x, Value.int y, Value.int u, Value.int w]) := by
    refine ⟨nf_inA hl rfl, sgq_1071 ?_⟩
    · show w_fi ws (n_v (vs ++ [Value.int x, Value.int y, Value.int u, Value.int w]) 2) 18 = v_iv (n_v (vs ++ [Value.int x, Value.int y, Value.int u, Value.int w]) 12)
      simp only [e_2, e_12, q2]
      exact vc_Dr_measure_7_2 (w_fi ws (n_v vs 0) 18) (v_iv (Value.int u)) kz_0_18 eu2
  have nf3 : fc_1 PRD (20, [2, 13], [50, 1, 0, 20, 1, 3, 2, 0, 20, 1, 1]) ws (vs ++ [Value.int x, Value.int y, Value.int u, Value.int w]) := by
    refine ⟨nf_inA hl rfl, sgq_1070 ?_⟩
    · show w_fi ws (n_v (vs ++ [Value.int x, Value.int y, Value.int u, Value.int w]) 2) 20 = v_iv (n_v (vs ++ [Value.int x, Value.int y, Value.int u, Value.int w]) 13)
      simp only [e_2, e_13, q2]
      exact vc_Dr_measure_7_3 (w_fi ws (n_v vs 0) 20) (v_iv (Value.int w)) kz_0_20 ew2
  have nf4 : fc_1 PRD (20, [2, 5, 10, 11, 3, 4, 8], [60, 1, 3, 929, 1000, 2, 4, 5]) ws (vs ++ [Value.int x, Value.int y, Value.int u, Value.int w]) := by
    refine ⟨nf_inA hl rfl, sgq_1494 ?_⟩
    · show MN4 (w_fi ws (n_v (vs ++ [Value.int x, Value.int y, Value.int u, Value.int w]) 5) 0) (w_ei ws (w_ar ws (n_v (vs ++ [Value.int x, Value.int y, Value.int u, Value.int w]) 2) 2)) (w_ei ws (w_ar ws (n_v (vs ++ [Value.int x, Value.int y, Value.int u, Value.int w]) 2) 4)) (w_ei ws (w_ar ws (n_v (vs ++ [Value.int x, Value.int y, Value.int u, Value.int w]) 2) 5)) (v_iv (n_v (vs ++ [Value.int x, Value.int y, Value.int u, Value.int w]) 10)) (v_iv (n_v (vs ++ [Value.int x, Value.int y, Value.int u, Value.int w]) 11)) (v_iv (n_v (vs ++ [Value.int x, Value.int y, Value.int u, Value.int w]) 3)) (v_iv (n_v (vs ++ [Value.int x, Value.int y, Value.int u, Value.int w]) 4)) (v_iv (n_v (vs ++ [Value.int x, Value.int y, Value.int u, Value.int w]) 8))
      simp only [e_2, e_3, e_4, e_5, e_8, e_10, e_11, q5, q2]
      exact vc_Dr_measure_7_4 (v_iv (n_v vs 3)) (v_iv (n_v vs 4)) (v_iv (n_v vs 7)) (v_iv (n_v vs 8)) (w_ei ws (w_ar ws (n_v vs 0) 4)) (w_ei ws (w_ar ws (n_v vs 1) 7)) (w_ei ws (w_ar ws (n_v vs 1) 8)) (w_ei ws (w_ar ws (n_v vs 0) 2)) (w_ei ws (w_ar ws (n_v vs 0) 5)) (w_fi ws (n_v vs 0) 17) (w_fi ws (n_v vs 0) 19) (w_fi ws (n_v vs 1) 0) (v_iv (Value.int x)) (v_iv (Value.int y)) k3 k4 k7 k8 d0 f1 h3 f5 kz_0_17 kz_0_19 kz_1_0 ex2 ey2
  have nf5 : fc_1 PRD (20, [2, 5, 12, 13, 3, 4, 9], [60, 1, 3, 936, 1000, 3, 4, 6]) ws (vs ++ [Value.int x, Value.int y, Value.int u, Value.int w]) := by
    refine ⟨nf_inA hl rfl, sgq_1495 ?_⟩
    · show MN4y (w_fi ws (n_v (vs ++ [Value.int x, Value.int y, Value.int u, Value.int w]) 5) 0) (w_ei ws (w_ar ws (n_v (vs ++ [Value.int x, Value.int y, Value.int u, Value.int w]) 2) 3)) (w_ei ws (w_ar ws (n_v (vs ++ [Value.int x, Value.int y, Value.int u, Value.int w]) 2) 4)) (w_ei ws (w_ar ws (n_v (vs ++ [Value.int x, Value.int y, Value.int u, Value.int w]) 2) 6)) (v_iv (n_v (vs ++ [Value.int x, Value.int y, Value.int u, Value.int w]) 12)) (v_iv (n_v (vs ++ [Value.int x, Value.int y, Value.int u, Value.int w]) 13)) (v_iv (n_v (vs ++ [Value.int x, Value.int y, Value.int u, Value.int w]) 3)) (v_iv (n_v (vs ++ [Value.int x, Value.int y, Value.int u, Value.int w]) 4)) (v_iv (n_v (vs ++ [Value.int x, Value.int y, Value.int u, Value.int w]) 9))
      simp only [e_2, e_3, e_4, e_5, e_9, e_12, e_13, q5, q2]
      exact vc_Dr_measure_7_5 (v_iv (n_v vs 3)) (v_iv (n_v vs 4)) (v_iv (n_v vs 7)) (v_iv (n_v vs 9)) (w_ei ws (w_ar ws (n_v vs 0) 3)) (w_ei ws (w_ar ws (n_v vs 0) 4)) (w_ei ws (w_ar ws (n_v vs 0) 6)) (w_ei ws (w_ar ws (n_v vs 1) 7)) (w_ei ws (w_ar ws (n_v vs 1) 8)) (w_fi ws (n_v vs 1) 0) (w_fi ws (n_v vs 0) 18) (w_fi ws (n_v vs 0) 20) (v_iv (Value.int u)) (v_iv (Value.int w)) k3 k4 k7 k9 d0 f0 h3 f6 kz_0_18 kz_0_20 kz_1_0 eu2 ew2
  exact ⟨(fun _ h => (by cases h)), [Value.int x, Value.int y, Value.int u, Value.int w], ag_four hx hy hu hw, List.forall_mem_cons.mpr ⟨⟨show (20 : Nat) < 100 from by decide, nf0⟩, List.forall_mem_cons.mpr ⟨⟨show (20 : Nat) < 100 from by decide, nf1⟩, List.forall_mem_cons.mpr ⟨⟨show (20 : Nat) < 100 from by decide, nf2⟩, List.forall_mem_cons.mpr ⟨⟨show (20 : Nat) < 100 from by decide, nf3⟩, List.forall_mem_cons.mpr ⟨⟨show (20 : Nat) < 100 from by decide, nf4⟩, List.forall_mem_cons.mpr ⟨⟨show (20 : Nat) < 100 from by decide, nf5⟩, (fun _ h => (by cases h))⟩⟩⟩⟩⟩⟩, (fun _ h => (by cases h))⟩
