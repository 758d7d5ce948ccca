def n_Mo_oneTest_at_f6_an : List an_T := []
def t_Mo_oneTest_at_f6_ct : ct_L := [(1, 463, e_Mo_wrong), (1, 1172, e_Mo_styleSign), (1, 1203, e_Mo_styleNeed), (43, 1190, e_Mo_word_at_s5024), (64, 1232, e_Mo_styleOpen_at_f6), (76, 1225, e_Mo_oneTest_at_f7), (178, 1232, e_Mo_styleOpen_at_f6), (190, 1200, e_Mo_test_at_f7), (259, 1212, e_Mo_sum_at_f6), (517, 1212, e_Mo_sum_at_f6), (1000001, 1230, en_ro [] (2, 0, 0, [5024]))]
set_option maxRecDepth 100000 in
theorem c_Mo_oneTest_at_f6 {l : Launch} {D : va_G} {kA : Nat → ClassId} (h_Mo_oneTest_at_f7 : ct_ok l D kA GG y_Mo_oneTest_at_f7 z_Mo_oneTest_at_f7 e_Mo_oneTest_at_f7) (h_Mo_styleNeed : ct_ok l D kA GG y_Mo_styleNeed z_Mo_styleNeed e_Mo_styleNeed) (h_Mo_styleOpen_at_f6 : ct_ok l D kA GG y_Mo_styleOpen_at_f6 z_Mo_styleOpen_at_f6 e_Mo_styleOpen_at_f6) (h_Mo_styleSign : ct_ok l D kA GG y_Mo_styleSign z_Mo_styleSign e_Mo_styleSign) (h_Mo_sum_at_f6 : ct_ok l D kA GG y_Mo_sum_at_f6 z_Mo_sum_at_f6 e_Mo_sum_at_f6) (h_Mo_test_at_f7 : ct_ok l D kA GG y_Mo_test_at_f7 z_Mo_test_at_f7 e_Mo_test_at_f7) (h_Mo_word_at_s5024 : ct_ok l D kA GG y_Mo_word_at_s5024 z_Mo_word_at_s5024 e_Mo_word_at_s5024) (h_Mo_wrong : ct_ok l D kA GG y_Mo_wrong z_Mo_wrong e_Mo_wrong) : ct_ok l D kA GG y_Mo_oneTest_at_f6 z_Mo_oneTest_at_f6 e_Mo_oneTest_at_f6 := chk_all_ok (FT := [(348, 13, 162), (413, 13, 8), (1169, 13, 158), (1175, 13, 159)]) (PT := [(1169, 13, 158, .int), (1175, 13, 159, .int)]) (CT := t_Mo_oneTest_at_f6_ct) (KT := []) (NT := []) (AN := n_Mo_oneTest_at_f6_an) (OT := [(o_Mo_oneTest_f_0 6), (o_Mo_oneTest_f_1 6), (o_Mo_oneTest_f_2 6), (o_Mo_oneTest_f_3 6), (o_Mo_oneTest_f_4 6), (o_Mo_oneTest_f_5 6), (o_Mo_oneTest_f_6 6), (o_Mo_oneTest_f_7 6), (o_Mo_oneTest_f_8 6), (o_Mo_oneTest_f_9 6), (o_Mo_oneTest_f_10 6), (o_Mo_oneTest_f_11 6), (o_Mo_oneTest_f_12 6), (o_Mo_oneTest_f_13 6), (o_Mo_oneTest_f_14 6), (o_Mo_oneTest_f_15 6), (o_Mo_oneTest_f_16 6), (o_Mo_oneTest_f_17 6), (o_Mo_oneTest_f_18 6), (o_Mo_oneTest_f_19 6), (o_Mo_oneTest_f_20 6), (o_Mo_oneTest_f_21 6), (o_Mo_oneTest_f_22 6), (o_Mo_oneTest_f_23 6), (o_Mo_oneTest_f_24 6), (o_Mo_oneTest_f_25 6), (o_Mo_oneTest_f_26 6)]) 0 848 (List.forall_mem_cons.mpr ⟨(oo_Mo_oneTest_f_0 6 (by decide) (by decide)), List.forall_mem_cons.mpr ⟨(oo_Mo_oneTest_f_1 6 (by decide) (by decide)), List.forall_mem_cons.mpr ⟨(oo_Mo_oneTest_f_2 6 (by decide) (by decide)), List.forall_mem_cons.mpr ⟨(oo_Mo_oneTest_f_3 6 (by decide) (by decide)), List.forall_mem_cons.mpr ⟨(oo_Mo_oneTest_f_4 6 (by decide) (by decide)), List.forall_mem_cons.mpr ⟨(oo_Mo_oneTest_f_5 6 (by decide) (by decide)), List.forall_mem_cons.mpr ⟨(oo_Mo_oneTest_f_6 6 (by decide) (by decide)), List.forall_mem_cons.mpr ⟨(oo_Mo_oneTest_f_7 6 (by decide) (by decide)), List.forall_mem_cons.mpr ⟨(oo_Mo_oneTest_f_8 6 (by decide) (by decide)), List.forall_mem_cons.mpr ⟨(oo_Mo_oneTest_f_9 6 (by decide) (by decide)), List.forall_mem_cons.mpr ⟨(oo_Mo_oneTest_f_10 6 (by decide) (by decide)), List.forall_mem_cons.mpr ⟨(oo_Mo_oneTest_f_11 6 (by decide) (by decide)), List.forall_mem_cons.mpr ⟨(oo_Mo_oneTest_f_12 6 (by decide) (by decide)), List.forall_mem_cons.mpr ⟨(oo_Mo_oneTest_f_13 6 (by decide) (by decide)), List.forall_mem_cons.mpr ⟨(oo_Mo_oneTest_f_14 6 (by decide) (by decide)), List.forall_mem_cons.mpr ⟨(oo_Mo_oneTest_f_15 6 (by decide) (by decide)), List.forall_mem_cons.mpr ⟨(oo_Mo_oneTest_f_16 6 (by decide) (by decide)), List.forall_mem_cons.mpr ⟨(oo_Mo_oneTest_f_17 6 (by decide) (by decide)), List.forall_mem_cons.mpr ⟨(oo_Mo_oneTest_f_18 6 (by decide) (by decide)), List.forall_mem_cons.mpr ⟨(oo_Mo_oneTest_f_19 6 (by decide) (by decide)), List.forall_mem_cons.mpr ⟨(oo_Mo_oneTest_f_20 6 (by decide) (by decide)), List.forall_mem_cons.mpr ⟨(oo_Mo_oneTest_f_21 6 (by decide) (by decide)), List.forall_mem_cons.mpr ⟨(oo_Mo_oneTest_f_22 6 (by decide) (by decide)), List.forall_mem_cons.mpr ⟨(oo_Mo_oneTest_f_23 6 (by decide) (by decide)), List.forall_mem_cons.mpr ⟨(oo_Mo_oneTest_f_24 6 (by decide) (by decide)), List.forall_mem_cons.mpr ⟨(oo_Mo_oneTest_f_25 6 (by decide) (by decide)), List.forall_mem_cons.mpr ⟨(oo_Mo_oneTest_f_26 6 (by decide) (by decide)), List.forall_mem_nil _⟩⟩⟩⟩⟩⟩⟩⟩⟩⟩⟩⟩⟩⟩⟩⟩⟩⟩⟩⟩⟩⟩⟩⟩⟩⟩⟩) (by decide +kernel) ⟨List.forall_mem_cons.mpr ⟨gf_Mo_348, List.forall_mem_cons.mpr ⟨gf_Mo_413, List.forall_mem_cons.mpr ⟨gf_Mo_1169, List.forall_mem_cons.mpr ⟨gf_Mo_1175, List.forall_mem_nil _⟩⟩⟩⟩, List.forall_mem_cons.mpr ⟨pf_Mo_1169, List.forall_mem_cons.mpr ⟨pf_Mo_1175, List.forall_mem_nil _⟩⟩, List.forall_mem_cons.mpr ⟨cl_virtual (y := y_Mo_wrong) (ci := 13) rfl rfl ⟨_, _, rfl⟩ (by decide +kernel) h_Mo_wrong wm_3017 wm_9 wm_3014 wm_3016 wv_13_1 ⟨by decide, by decide, by decide +kernel⟩ (by decide), List.forall_mem_cons.mpr ⟨cl_virtual (y := y_Mo_styleSign) (ci := 13) rfl rfl ⟨_, _, rfl⟩ (by decide +kernel) h_Mo_styleSign wm_3832 wm_9 wm_3829 wm_3831 wv_23_11 ⟨by decide, by decide, by decide +kernel⟩ (by decide), List.forall_mem_cons.mpr ⟨cl_virtual (y := y_Mo_styleNeed) (ci := 13) rfl rfl ⟨_, _, rfl⟩ (by decide +kernel) h_Mo_styleNeed wm_3836 wm_9 wm_3833 wm_3835 wv_23_12 ⟨by decide, by decide, by decide +kernel⟩ (by decide), List.forall_mem_cons.mpr ⟨cl_virtual (y := y_Mo_word_at_s5024) (ci := 13) rfl rfl ⟨_, _, rfl⟩ (by decide +kernel) h_Mo_word_at_s5024 wm_3809 wm_9 wm_3806 wm_3808 wv_23_6 ⟨by decide, by decide, by decide +kernel⟩ (by decide), List.forall_mem_cons.mpr ⟨cl_virtual (y := y_Mo_styleOpen_at_f6) (ci := 13) rfl rfl ⟨_, _, rfl⟩ (by decide +kernel) h_Mo_styleOpen_at_f6 wm_3828 wm_9 wm_3825 wm_3827 wv_23_10 ⟨by decide, by decide, by decide +kernel⟩ (by decide), List.forall_mem_cons.mpr ⟨cl_virtual (y := y_Mo_oneTest_at_f7) (ci := 13) rfl rfl ⟨_, _, rfl⟩ (by decide +kernel) h_Mo_oneTest_at_f7 wm_3823 wm_9 wm_3820 wm_3822 wv_23_9 ⟨by decide, by decide, by decide +kernel⟩ (by decide), List.forall_mem_cons.mpr ⟨cl_virtual (y := y_Mo_styleOpen_at_f6) (ci := 13) rfl rfl ⟨_, _, rfl⟩ (by decide +kernel) h_Mo_styleOpen_at_f6 wm_3828 wm_9 wm_3825 wm_3827 wv_23_10 ⟨by decide, by decide, by decide +kernel⟩ (by decide), List.forall_mem_cons.mpr ⟨cl_virtual (y := y_Mo_test_at_f7) (ci := 13) rfl rfl ⟨_, _, rfl⟩ (by decide +kernel) h_Mo_test_at_f7 wm_3815 wm_9 wm_3812 wm_3814 wv_23_7 ⟨by decide, by decide, by decide +kernel⟩ (by decide), List.forall_mem_cons.mpr ⟨cl_virtual (y := y_Mo_sum_at_f6) (ci := 13) rfl rfl ⟨_, _, rfl⟩ (by decide +kernel) h_Mo_sum_at_f6 wm_3840 wm_9 wm_3837 wm_3839 wv_23_13 ⟨by decide, by decide, by decide +kernel⟩ (by decide), List.forall_mem_cons.mpr ⟨cl_virtual (y := y_Mo_sum_at_f6) (ci := 13) rfl rfl ⟨_, _, rfl⟩ (by decide +kernel) h_Mo_sum_at_f6 wm_3840 wm_9 wm_3837 wm_3839 wv_23_13 ⟨by decide, by decide, by decide +kernel⟩ (by decide), List.forall_mem_cons.mpr ⟨cl_ldcw (own := "DrawingHouseModel") (idx := 1230) (i := 24) (tx := "not") (by decide +kernel) (by decide +kernel) (by decide +kernel), List.forall_mem_nil _⟩⟩⟩⟩⟩⟩⟩⟩⟩⟩⟩, List.forall_mem_nil _, List.forall_mem_nil _, GG_pl⟩ (by decide +kernel)
def n_Mo_oneTest_at_f7_an : List an_T := []
def t_Mo_oneTest_at_f7_ct : ct_L := [(1, 463, e_Mo_wrong), (1, 1172, e_Mo_styleSign), (1, 1203, e_Mo_styleNeed), (43, 1190, e_Mo_word_at_s5024), (64, 1232, e_Mo_styleOpen_at_f7), (76, 1225, e_Mo_oneTest_at_f8), (178, 1232, e_Mo_styleOpen_at_f7), (190, 1200, e_Mo_test_at_f8), (259, 1212, e_Mo_sum_at_f7), (517, 1212, e_Mo_sum_at_f7), (1000001, 1230, en_ro [] (2, 0, 0, [5024]))]
set_option maxRecDepth 100000 in
theorem c_Mo_oneTest_at_f7 {l : Launch} {D : va_G} {kA : Nat → ClassId} (h_Mo_oneTest_at_f8 : ct_ok l D kA GG y_Mo_oneTest_at_f8 z_Mo_oneTest_at_f8 e_Mo_oneTest_at_f8) (h_Mo_styleNeed : ct_ok l D kA GG y_Mo_styleNeed z_Mo_styleNeed e_Mo_styleNeed) (h_Mo_styleOpen_at_f7 : ct_ok l D kA GG y_Mo_styleOpen_at_f7 z_Mo_styleOpen_at_f7 e_Mo_styleOpen_at_f7) (h_Mo_styleSign : ct_ok l D kA GG y_Mo_styleSign z_Mo_styleSign e_Mo_styleSign) (h_Mo_sum_at_f7 : ct_ok l D kA GG y_Mo_sum_at_f7 z_Mo_sum_at_f7 e_Mo_sum_at_f7) (h_Mo_test_at_f8 : ct_ok l D kA GG y_Mo_test_at_f8 z_Mo_test_at_f8 e_Mo_test_at_f8) (h_Mo_word_at_s5024 : ct_ok l D kA GG y_Mo_word_at_s5024 z_Mo_word_at_s5024 e_Mo_word_at_s5024) (h_Mo_wrong : ct_ok l D kA GG y_Mo_wrong z_Mo_wrong e_Mo_wrong) : ct_ok l D kA GG y_Mo_oneTest_at_f7 z_Mo_oneTest_at_f7 e_Mo_oneTest_at_f7 := chk_all_ok (FT := [(348, 13, 162), (413, 13, 8), (1169, 13, 158), (1175, 13, 159)]) (PT := [(1169, 13, 158, .int), (1175, 13, 159, .int)]) (CT := t_Mo_oneTest_at_f7_ct) (KT := []) (NT := []) (AN := n_Mo_oneTest_at_f7_an) (OT := [(o_Mo_oneTest_f_0 7), (o_Mo_oneTest_f_1 7), (o_Mo_oneTest_f_2 7), (o_Mo_oneTest_f_3 7), (o_Mo_oneTest_f_4 7), (o_Mo_oneTest_f_5 7), (o_Mo_oneTest_f_6 7), (o_Mo_oneTest_f_7 7), (o_Mo_oneTest_f_8 7), (o_Mo_oneTest_f_9 7), (o_Mo_oneTest_f_10 7), (o_Mo_oneTest_f_11 7), (o_Mo_oneTest_f_12 7), (o_Mo_oneTest_f_13 7), (o_Mo_oneTest_f_14 7), (o_Mo_oneTest_f_15 7), (o_Mo_oneTest_f_16 7), (o_Mo_oneTest_f_17 7), (o_Mo_oneTest_f_18 7), (o_Mo_oneTest_f_19 7), (o_Mo_oneTest_f_20 7), (o_Mo_oneTest_f_21 7), (o_Mo_oneTest_f_22 7), (o_Mo_oneTest_f_23 7), (o_Mo_oneTest_f_24 7), (o_Mo_oneTest_f_25 7), (o_Mo_oneTest_f_26 7)]) 0 848 (List.forall_mem_cons.mpr ⟨(oo_Mo_oneTest_f_0 7 (by decide) (by decide)), List.forall_mem_cons.mpr ⟨(oo_Mo_oneTest_f_1 7 (by decide) (by decide)), List.forall_mem_cons.mpr ⟨(oo_Mo_oneTest_f_2 7 (by decide) (by decide)), List.forall_mem_cons.mpr ⟨(oo_Mo_oneTest_f_3 7 (by decide) (by decide)), List.forall_mem_cons.mpr ⟨(oo_Mo_oneTest_f_4 7 (by decide) (by decide)), List.forall_mem_cons.mpr ⟨(oo_Mo_oneTest_f_5 7 (by decide) (by decide)), List.forall_mem_cons.mpr ⟨(oo_Mo_oneTest_f_6 7 (by decide) (by decide)), List.forall_mem_cons.mpr ⟨(oo_Mo_oneTest_f_7 7 (by decide) (by decide)), List.forall_mem_cons.mpr ⟨(oo_Mo_oneTest_f_8 7 (by decide) (by decide)), List.forall_mem_cons.mpr ⟨(oo_Mo_oneTest_f_9 7 (by decide) (by decide)), List.forall_mem_cons.mpr ⟨(oo_Mo_oneTest_f_10 7 (by decide) (by decide)), List.forall_mem_cons.mpr ⟨(oo_Mo_oneTest_f_11 7 (by decide) (by decide)), List.forall_mem_cons.mpr ⟨(oo_Mo_oneTest_f_12 7 (by decide) (by decide)), List.forall_mem_cons.mpr ⟨(oo_Mo_oneTest_f_13 7 (by decide) (by decide)), List.forall_mem_cons.mpr ⟨(oo_Mo_oneTest_f_14 7 (by decide) (by decide)), List.forall_mem_cons.mpr ⟨(oo_Mo_oneTest_f_15 7 (by decide) (by decide)), List.forall_mem_cons.mpr ⟨(oo_Mo_oneTest_f_16 7 (by decide) (by decide)), List.forall_mem_cons.mpr ⟨(oo_Mo_oneTest_f_17 7 (by decide) (by decide)), List.forall_mem_cons.mpr ⟨(oo_Mo_oneTest_f_18 7 (by decide) (by decide)), List.forall_mem_cons.mpr ⟨(oo_Mo_oneTest_f_19 7 (by decide) (by decide)), List.forall_mem_cons.mpr ⟨(oo_Mo_oneTest_f_20 7 (by decide) (by decide)), List.forall_mem_cons.mpr ⟨(oo_Mo_oneTest_f_21 7 (by decide) (by decide)), List.forall_mem_cons.mpr ⟨(oo_Mo_oneTest_f_22 7 (by decide) (by decide)), List.forall_mem_cons.mpr ⟨(oo_Mo_oneTest_f_23 7 (by decide) (by decide)), List.forall_mem_cons.mpr ⟨(oo_Mo_oneTest_f_24 7 (by decide) (by decide)), List.forall_mem_cons.mpr ⟨(oo_Mo_oneTest_f_25 7 (by decide) (by decide)), List.forall_mem_cons.mpr ⟨(oo_Mo_oneTest_f_26 7 (by decide) (by decide)), List.forall_mem_nil _⟩⟩⟩⟩⟩⟩⟩⟩⟩⟩⟩⟩⟩⟩⟩⟩⟩⟩⟩⟩⟩⟩⟩⟩⟩⟩⟩) (by decide +kernel) ⟨List.forall_mem_cons.mpr ⟨gf_Mo_348, List.forall_mem_cons.mpr ⟨gf_Mo_413, List.forall_mem_cons.mpr ⟨gf_Mo_1169, List.forall_mem_cons.mpr ⟨gf_Mo_1175, List.forall_mem_nil _⟩⟩⟩⟩, List.forall_mem_cons.mpr ⟨pf_Mo_1169, List.forall_mem_cons.mpr ⟨pf_Mo_1175, List.forall_mem_nil _⟩⟩, List.forall_mem_cons.mpr ⟨cl_virtual (y := y_Mo_wrong) (ci := 13) rfl rfl ⟨_, _, rfl⟩ (by decide +kernel) h_Mo_wrong wm_3017 wm_9 wm_3014 wm_3016 wv_13_1 ⟨by decide, by decide, by decide +kernel⟩ (by decide), List.forall_mem_cons.mpr ⟨cl_virtual (y := y_Mo_styleSign) (ci := 13) rfl rfl ⟨_, _, rfl⟩ (by decide +kernel) h_Mo_styleSign wm_3832 wm_9 wm_3829 wm_3831 wv_23_11 ⟨by decide, by decide, by decide +kernel⟩ (by decide), List.forall_mem_cons.mpr ⟨cl_virtual (y := y_Mo_styleNeed) (ci := 13) rfl rfl ⟨_, _, rfl⟩ (by decide +kernel) h_Mo_styleNeed wm_3836 wm_9 wm_3833 wm_3835 wv_23_12 ⟨by decide, by decide, by decide +kernel⟩ (by decide), List.forall_mem_cons.mpr ⟨cl_virtual (y := y_Mo_word_at_s5024) (ci := 13) rfl rfl ⟨_, _, rfl⟩ (by decide +kernel) h_Mo_word_at_s5024 wm_3809 wm_9 wm_3806 wm_3808 wv_23_6 ⟨by decide, by decide, by decide +kernel⟩ (by decide), List.forall_mem_cons.mpr ⟨cl_virtual (y := y_Mo_styleOpen_at_f7) (ci := 13) rfl rfl ⟨_, _, rfl⟩ (by decide +kernel) h_Mo_styleOpen_at_f7 wm_3828 wm_9 wm_3825 wm_3827 wv_23_10 ⟨by decide, by decide, by decide +kernel⟩ (by decide), List.forall_mem_cons.mpr ⟨cl_virtual (y := y_Mo_oneTest_at_f8) (ci := 13) rfl rfl ⟨_, _, rfl⟩ (by decide +kernel) h_Mo_oneTest_at_f8 wm_3823 wm_9 wm_3820 wm_3822 wv_23_9 ⟨by decide, by decide, by decide +kernel⟩ (by decide), List.forall_mem_cons.mpr ⟨cl_virtual (y := y_Mo_styleOpen_at_f7) (ci := 13) rfl rfl ⟨_, _, rfl⟩ (by decide +kernel) h_Mo_styleOpen_at_f7 wm_3828 wm_9 wm_3825 wm_3827 wv_23_10 ⟨by decide, by decide, by decide +kernel⟩ (by decide), List.forall_mem_cons.mpr ⟨cl_virtual (y := y_Mo_test_at_f8) (ci := 13) rfl rfl ⟨_, _, rfl⟩ (by decide +kernel) h_Mo_test_at_f8 wm_3815 wm_9 wm_3812 wm_3814 wv_23_7 ⟨by decide, by decide, by decide +kernel⟩ (by decide), List.forall_mem_cons.mpr ⟨cl_virtual (y := y_Mo_sum_at_f7) (ci := 13) rfl rfl ⟨_, _, rfl⟩ (by decide +kernel) h_Mo_sum_at_f7 wm_3840 wm_9 wm_3837 wm_3839 wv_23_13 ⟨by decide, by decide, by decide +kernel⟩ (by decide), List.forall_mem_cons.mpr ⟨cl_virtual (y := y_Mo_sum_at_f7) (ci := 13) rfl rfl ⟨_, _, rfl⟩ (by decide +kernel) h_Mo_sum_at_f7 wm_3840 wm_9 wm_3837 wm_3839 wv_23_13 ⟨by decide, by decide, by decide +kernel⟩ (by decide), List.forall_mem_cons.mpr ⟨cl_ldcw (own := "DrawingHouseModel") (idx := 1230) (i := 24) (tx := "not") (by decide +kernel) (by decide +kernel) (by decide +kernel), List.forall_mem_nil _⟩⟩⟩⟩⟩⟩⟩⟩⟩⟩⟩, List.forall_mem_nil _, List.forall_mem_nil _, GG_pl⟩ (by decide +kernel)
def n_Mo_oneTest_at_f8_an : List an_T := []
def t_Mo_oneTest_at_f8_ct : ct_L := [(1, 463, e_Mo_wrong), (1, 1172, e_Mo_styleSign), (1, 1203, e_Mo_styleNeed), (43, 1190, e_Mo_word_at_s5024), (64, 1232, e_Mo_styleOpen_at_f8), (76, 1225, e_Mo_oneTest_at_f9), (178, 1232, e_Mo_styleOpen_at_f8), (190, 1200, e_Mo_test_at_f9), (259, 1212, e_Mo_sum_at_f8), (517, 1212, e_Mo_sum_at_f8), (1000001, 1230, en_ro [] (2, 0, 0, [5024]))]
set_option maxRecDepth 100000 in
theorem c_Mo_oneTest_at_f8 {l : Launch} {D : va_G} {kA : Nat → ClassId} (h_Mo_oneTest_at_f9 : ct_ok l D kA GG y_Mo_oneTest_at_f9 z_Mo_oneTest_at_f9 e_Mo_oneTest_at_f9) (h_Mo_styleNeed : ct_ok l D kA GG y_Mo_styleNeed z_Mo_styleNeed e_Mo_styleNeed) (h_Mo_styleOpen_at_f8 : ct_ok l D kA GG y_Mo_styleOpen_at_f8 z_Mo_styleOpen_at_f8 e_Mo_styleOpen_at_f8) (h_Mo_styleSign : ct_ok l D kA GG y_Mo_styleSign z_Mo_styleSign e_Mo_styleSign) (h_Mo_sum_at_f8 : ct_ok l D kA GG y_Mo_sum_at_f8 z_Mo_sum_at_f8 e_Mo_sum_at_f8) (h_Mo_test_at_f9 : ct_ok l D kA GG y_Mo_test_at_f9 z_Mo_test_at_f9 e_Mo_test_at_f9) (h_Mo_word_at_s5024 : ct_ok l D kA GG y_Mo_word_at_s5024 z_Mo_word_at_s5024 e_Mo_word_at_s5024) (h_Mo_wrong : ct_ok l D kA GG y_Mo_wrong z_Mo_wrong e_Mo_wrong) : ct_ok l D kA GG y_Mo_oneTest_at_f8 z_Mo_oneTest_at_f8 e_Mo_oneTest_at_f8 := chk_all_ok (FT := [(348, 13, 162), (413, 13, 8), (1169, 13, 158), (1175, 13, 159)]) (PT := [(1169, 13, 158, .int), (1175, 13, 159, .int)]) (CT := t_Mo_oneTest_at_f8_ct) (KT := []) (NT := []) (AN := n_Mo_oneTest_at_f8_an) (OT := [(o_Mo_oneTest_f_0 8), (o_Mo_oneTest_f_1 8), (o_Mo_oneTest_f_2 8), (o_Mo_oneTest_f_3 8), (o_Mo_oneTest_f_4 8), (o_Mo_oneTest_f_5 8), (o_Mo_oneTest_f_6 8), (o_Mo_oneTest_f_7 8), (o_Mo_oneTest_f_8 8), (o_Mo_oneTest_f_9 8), (o_Mo_oneTest_f_10 8), (o_Mo_oneTest_f_11 8), (o_Mo_oneTest_f_12 8), (o_Mo_oneTest_f_13 8), (o_Mo_oneTest_f_14 8), (o_Mo_oneTest_f_15 8), (o_Mo_oneTest_f_16 8), (o_Mo_oneTest_f_17 8), (o_Mo_oneTest_f_18 8), (o_Mo_oneTest_f_19 8), (o_Mo_oneTest_f_20 8), (o_Mo_oneTest_f_21 8), (o_Mo_oneTest_f_22 8), (o_Mo_oneTest_f_23 8), (o_Mo_oneTest_f_24 8), (o_Mo_oneTest_f_25 8), (o_Mo_oneTest_f_26 8)]) 0 848 (List.forall_mem_cons.mpr ⟨(oo_Mo_oneTest_f_0 8 (by decide) (by decide)), List.forall_mem_cons.mpr ⟨(oo_Mo_oneTest_f_1 8 (by decide) (by decide)), List.forall_mem_cons.mpr ⟨(oo_Mo_oneTest_f_2 8 (by decide) (by decide)), List.forall_mem_cons.mpr ⟨(oo_Mo_oneTest_f_3 8 (by decide) (by decide)), List.forall_mem_cons.mpr ⟨(oo_Mo_oneTest_f_4 8 (by decide) (by decide)), List.forall_mem_cons.mpr ⟨(oo_Mo_oneTest_f_5 8 (by decide) (by decide)), List.forall_mem_cons.mpr ⟨(oo_Mo_oneTest_f_6 8 (by decide) (by decide)), List.forall_mem_cons.mpr ⟨(oo_Mo_oneTest_f_7 8 (by decide) (by decide)), List.forall_mem_cons.mpr ⟨(oo_Mo_oneTest_f_8 8 (by decide) (by decide)), List.forall_mem_cons.mpr ⟨(oo_Mo_oneTest_f_9 8 (by decide) (by decide)), List.forall_mem_cons.mpr ⟨(oo_Mo_oneTest_f_10 8 (by decide) (by decide)), List.forall_mem_cons.mpr ⟨(oo_Mo_oneTest_f_11 8 (by decide) (by decide)), List.forall_mem_cons.mpr ⟨(oo_Mo_oneTest_f_12 8 (by decide) (by decide)), List.forall_mem_cons.mpr ⟨(oo_Mo_oneTest_f_13 8 (by decide) (by decide)), List.forall_mem_cons.mpr ⟨(oo_Mo_oneTest_f_14 8 (by decide) (by decide)), List.forall_mem_cons.mpr ⟨(oo_Mo_oneTest_f_15 8 (by decide) (by decide)), List.forall_mem_cons.mpr ⟨(oo_Mo_oneTest_f_16 8 (by decide) (by decide)), List.forall_mem_cons.mpr ⟨(oo_Mo_oneTest_f_17 8 (by decide) (by decide)), List.forall_mem_cons.mpr ⟨(oo_Mo_oneTest_f_18 8 (by decide) (by decide)), List.forall_mem_cons.mpr ⟨(oo_Mo_oneTest_f_19 8 (by decide) (by decide)), List.forall_mem_cons.mpr ⟨(oo_Mo_oneTest_f_20 8 (by decide) (by decide)), List.forall_mem_cons.mpr ⟨(oo_Mo_oneTest_f_21 8 (by decide) (by decide)), List.forall_mem_cons.mpr ⟨(oo_Mo_oneTest_f_22 8 (by decide) (by decide)), List.forall_mem_cons.mpr ⟨(oo_Mo_oneTest_f_23 8 (by decide) (by decide)), List.forall_mem_cons.mpr ⟨(oo_Mo_oneTest_f_24 8 (by decide) (by decide)), List.forall_mem_cons.mpr ⟨(oo_Mo_oneTest_f_25 8 (by decide) (by decide)), List.forall_mem_cons.mpr ⟨(oo_Mo_oneTest_f_26 8 (by decide) (by decide)), List.forall_mem_nil _⟩⟩⟩⟩⟩⟩⟩⟩⟩⟩⟩⟩⟩⟩⟩⟩⟩⟩⟩⟩⟩⟩⟩⟩⟩⟩⟩) (by decide +kernel) ⟨List.forall_mem_cons.mpr ⟨gf_Mo_348, List.forall_mem_cons.mpr ⟨gf_Mo_413, List.forall_mem_cons.mpr ⟨gf_Mo_1169, List.forall_mem_cons.mpr ⟨gf_Mo_1175, List.forall_mem_nil _⟩⟩⟩⟩, List.forall_mem_cons.mpr ⟨pf_Mo_1169, List.forall_mem_cons.mpr ⟨pf_Mo_1175, List.forall_mem_nil _⟩⟩, List.forall_mem_cons.mpr ⟨cl_virtual (y := y_Mo_wrong) (ci := 13) rfl rfl ⟨_, _, rfl⟩ (by decide +kernel) h_Mo_wrong wm_3017 wm_9 wm_3014 wm_3016 wv_13_1 ⟨by decide, by decide, by decide +kernel⟩ (by decide), List.forall_mem_cons.mpr ⟨cl_virtual (y := y_Mo_styleSign) (ci := 13) rfl rfl ⟨_, _, rfl⟩ (by decide +kernel) h_Mo_styleSign wm_3832 wm_9 wm_3829 wm_3831 wv_23_11 ⟨by decide, by decide, by decide +kernel⟩ (by decide), List.forall_mem_cons.mpr ⟨cl_virtual (y := y_Mo_styleNeed) (ci := 13) rfl rfl ⟨_, _, rfl⟩ (by decide +kernel) h_Mo_styleNeed wm_3836 wm_9 wm_3833 wm_3835 wv_23_12 ⟨by decide, by decide, by decide +kernel⟩ (by decide), List.forall_mem_cons.mpr ⟨cl_virtual (y := y_Mo_word_at_s5024) (ci := 13) rfl rfl ⟨_, _, rfl⟩ (by decide +kernel) h_Mo_word_at_s5024 wm_3809 wm_9 wm_3806 wm_3808 wv_23_6 ⟨by decide, by decide, by decide +kernel⟩ (by decide), List.forall_mem_cons.mpr ⟨cl_virtual (y := y_Mo_styleOpen_at_f8) (ci := 13) rfl rfl ⟨_, _, rfl⟩ (by decide +kernel) h_Mo_styleOpen_at_f8 wm_3828 wm_9 wm_3825 wm_3827 wv_23_10 ⟨by decide, by decide, by decide +kernel⟩ (by decide), List.forall_mem_cons.mpr ⟨cl_virtual (y := y_Mo_oneTest_at_f9) (ci := 13) rfl rfl ⟨_, _, rfl⟩ (by decide +kernel) h_Mo_oneTest_at_f9 wm_3823 wm_9 wm_3820 wm_3822 wv_23_9 ⟨by decide, by decide, by decide +kernel⟩ (by decide), List.forall_mem_cons.mpr ⟨cl_virtual (y := y_Mo_styleOpen_at_f8) (ci := 13) rfl rfl ⟨_, _, rfl⟩ (by decide +kernel) h_Mo_styleOpen_at_f8 wm_3828 wm_9 wm_3825 wm_3827 wv_23_10 ⟨by decide, by decide, by decide +kernel⟩ (by decide), List.forall_mem_cons.mpr ⟨cl_virtual (y := y_Mo_test_at_f9) (ci := 13) rfl rfl ⟨_, _, rfl⟩ (by decide +kernel) h_Mo_test_at_f9 wm_3815 wm_9 wm_3812 wm_3814 wv_23_7 ⟨by decide, by decide, by decide +kernel⟩ (by decide), List.forall_mem_cons.mpr ⟨cl_virtual (y := y_Mo_sum_at_f8) (ci := 13) rfl rfl ⟨_, _, rfl⟩ (by decide +kernel) h_Mo_sum_at_f8 wm_3840 wm_9 wm_3837 wm_3839 wv_23_13 ⟨by decide, by decide, by decide +kernel⟩ (by decide), List.forall_mem_cons.mpr ⟨cl_virtual (y := y_Mo_sum_at_f8) (ci := 13) rfl rfl ⟨_, _, rfl⟩ (by decide +kernel) h_Mo_sum_at_f8 wm_3840 wm_9 wm_3837 wm_3839 wv_23_13 ⟨by decide, by decide, by decide +kernel⟩ (by decide), List.forall_mem_cons.mpr ⟨cl_ldcw (own := "DrawingHouseModel") (idx := 1230) (i := 24) (tx := "not") (by decide +kernel) (by decide +kernel) (by decide +kernel), List.forall_mem_nil _⟩⟩⟩⟩⟩⟩⟩⟩⟩⟩⟩, List.forall_mem_nil _, List.forall_mem_nil _, GG_pl⟩ (by decide +kernel)
def n_Mo_oneTest_at_f9_an : List an_T := []
def t_Mo_oneTest_at_f9_ct : ct_L := [(1, 463, e_Mo_wrong), (1, 1172, e_Mo_styleSign), (1, 1203, e_Mo_styleNeed), (43, 1190, e_Mo_word_at_s5024), (64, 1232, e_Mo_styleOpen_at_f9), (76, 1225, e_Mo_oneTest_at_f10), (178, 1232, e_Mo_styleOpen_at_f9), (190, 1200, e_Mo_test_at_f10), (259, 1212, e_Mo_sum_at_f9), (517, 1212, e_Mo_sum_at_f9), (1000001, 1230, en_ro [] (2, 0, 0, [5024]))]
set_option maxRecDepth 100000 in
theorem c_Mo_oneTest_at_f9 {l : Launch} {D : va_G} {kA : Nat → ClassId} (h_Mo_oneTest_at_f10 : ct_ok l D kA GG y_Mo_oneTest_at_f10 z_Mo_oneTest_at_f10 e_Mo_oneTest_at_f10) (h_Mo_styleNeed : ct_ok l D kA GG y_Mo_styleNeed z_Mo_styleNeed e_Mo_styleNeed) (h_Mo_styleOpen_at_f9 : ct_ok l D kA GG y_Mo_styleOpen_at_f9 z_Mo_styleOpen_at_f9 e_Mo_styleOpen_at_f9) (h_Mo_styleSign : ct_ok l D kA GG y_Mo_styleSign z_Mo_styleSign e_Mo_styleSign) (h_Mo_sum_at_f9 : ct_ok l D kA GG y_Mo_sum_at_f9 z_Mo_sum_at_f9 e_Mo_sum_at_f9) (h_Mo_test_at_f10 : ct_ok l D kA GG y_Mo_test_at_f10 z_Mo_test_at_f10 e_Mo_test_at_f10) (h_Mo_word_at_s5024 : ct_ok l D kA GG y_Mo_word_at_s5024 z_Mo_word_at_s5024 e_Mo_word_at_s5024) (h_Mo_wrong : ct_ok l D kA GG y_Mo_wrong z_Mo_wrong e_Mo_wrong) : ct_ok l D kA GG y_Mo_oneTest_at_f9 z_Mo_oneTest_at_f9 e_Mo_oneTest_at_f9 := chk_all_ok (FT := [(348, 13, 162), (413, 13, 8), (1169, 13, 158), (1175, 13, 159)]) (PT := [(1169, 13, 158, .int), (1175, 13, 159, .int)]) (CT := t_Mo_oneTest_at_f9_ct) (KT := []) (NT := []) (AN := n_Mo_oneTest_at_f9_an) (OT := [(o_Mo_oneTest_f_0 9), (o_Mo_oneTest_f_1 9), (o_Mo_oneTest_f_2 9), (o_Mo_oneTest_f_3 9), (o_Mo_oneTest_f_4 9), (o_Mo_oneTest_f_5 9), (o_Mo_oneTest_f_6 9), (o_Mo_oneTest_f_7 9), (o_Mo_oneTest_f_8 9), (o_Mo_oneTest_f_9 9), (o_Mo_oneTest_f_10 9), (o_Mo_oneTest_f_11 9), (o_Mo_oneTest_f_12 9), (o_Mo_oneTest_f_13 9), (o_Mo_oneTest_f_14 9), (o_Mo_oneTest_f_15 9), (o_Mo_oneTest_f_16 9), (o_Mo_oneTest_f_17 9), (o_Mo_oneTest_f_18 9), (o_Mo_oneTest_f_19 9), (o_Mo_oneTest_f_20 9), (o_Mo_oneTest_f_21 9), (o_Mo_oneTest_f_22 9), (o_Mo_oneTest_f_23 9), (o_Mo_oneTest_f_24 9), (o_Mo_oneTest_f_25 9), (o_Mo_oneTest_f_26 9)]) 0 848 (List.forall_mem_cons.mpr ⟨(oo_Mo_oneTest_f_0 9 (by decide) (by decide)), List.forall_mem_cons.mpr ⟨(oo_Mo_oneTest_f_1 9 (by decide) (by decide)), List.forall_mem_cons.mpr ⟨(oo_Mo_oneTest_f_2 9 (by decide) (by decide)), List.forall_mem_cons.mpr ⟨(oo_Mo_oneTest_f_3 9 (by decide) (by decide)), List.forall_mem_cons.mpr ⟨(oo_Mo_oneTest_f_4 9 (by decide) (by decide)), List.forall_mem_cons.mpr ⟨(oo_Mo_oneTest_f_5 9 (by decide) (by decide)), List.forall_mem_cons.mpr ⟨(oo_Mo_oneTest_f_6 9 (by decide) (by decide)), List.forall_mem_cons.mpr ⟨(oo_Mo_oneTest_f_7 9 (by decide) (by decide)), List.forall_mem_cons.mpr ⟨(oo_Mo_oneTest_f_8 9 (by decide) (by decide)), List.forall_mem_cons.mpr ⟨(oo_Mo_oneTest_f_9 9 (by decide) (by decide)), List.forall_mem_cons.mpr ⟨(oo_Mo_oneTest_f_10 9 (by decide) (by decide)), List.forall_mem_cons.mpr ⟨(oo_Mo_oneTest_f_11 9 (by decide) (by decide)), List.forall_mem_cons.mpr ⟨(oo_Mo_oneTest_f_12 9 (by decide) (by decide)), List.forall_mem_cons.mpr ⟨(oo_Mo_oneTest_f_13 9 (by decide) (by decide)), List.forall_mem_cons.mpr ⟨(oo_Mo_oneTest_f_14 9 (by decide) (by decide)), List.forall_mem_cons.mpr ⟨(oo_Mo_oneTest_f_15 9 (by decide) (by decide)), List.forall_mem_cons.mpr ⟨(oo_Mo_oneTest_f_16 9 (by decide) (by decide)), List.forall_mem_cons.mpr ⟨(oo_Mo_oneTest_f_17 9 (by decide) (by decide)), List.forall_mem_cons.mpr ⟨(oo_Mo_oneTest_f_18 9 (by decide) (by decide)), List.forall_mem_cons.mpr ⟨(oo_Mo_oneTest_f_19 9 (by decide) (by decide)), List.forall_mem_cons.mpr ⟨(oo_Mo_oneTest_f_20 9 (by decide) (by decide)), List.forall_mem_cons.mpr ⟨(oo_Mo_oneTest_f_21 9 (by decide) (by decide)), List.forall_mem_cons.mpr ⟨(oo_Mo_oneTest_f_22 9 (by decide) (by decide)), List.forall_mem_cons.mpr ⟨(oo_Mo_oneTest_f_23 9 (by decide) (by decide)), List.forall_mem_cons.mpr ⟨(oo_Mo_oneTest_f_24 9 (by decide) (by decide)), List.forall_mem_cons.mpr ⟨(oo_Mo_oneTest_f_25 9 (by decide) (by decide)), List.forall_mem_cons.mpr ⟨(oo_Mo_oneTest_f_26 9 (by decide) (by decide)), List.forall_mem_nil _⟩⟩⟩⟩⟩⟩⟩⟩⟩⟩⟩⟩⟩⟩⟩⟩⟩⟩⟩⟩⟩⟩⟩⟩⟩⟩⟩) (by decide +kernel) ⟨List.forall_mem_cons.mpr ⟨gf_Mo_348, List.forall_mem_cons.mpr ⟨gf_Mo_413, List.forall_mem_cons.mpr ⟨gf_Mo_1169, List.forall_mem_cons.mpr ⟨gf_Mo_1175, List.forall_mem_nil _⟩⟩⟩⟩, List.forall_mem_cons.mpr ⟨pf_Mo_1169, List.forall_mem_cons.mpr ⟨pf_Mo_1175, List.forall_mem_nil _⟩⟩, List.forall_mem_cons.mpr ⟨cl_virtual (y := y_Mo_wrong) (ci := 13) rfl rfl ⟨_, _, rfl⟩ (by decide +kernel) h_Mo_wrong wm_3017 wm_9 wm_3014 wm_3016 wv_13_1 ⟨by decide, by decide, by decide +kernel⟩ (by decide), List.forall_mem_cons.mpr ⟨cl_virtual (y := y_Mo_styleSign) (ci := 13) rfl rfl ⟨_, _, rfl⟩ (by decide +kernel) h_Mo_styleSign wm_3832 wm_9 wm_3829 wm_3831 wv_23_11 ⟨by decide, by decide, by decide +kernel⟩ (by decide), List.forall_mem_cons.mpr ⟨cl_virtual (y := y_Mo_styleNeed) (ci := 13) rfl rfl ⟨_, _, rfl⟩ (by decide +kernel) h_Mo_styleNeed wm_3836 wm_9 wm_3833 wm_3835 wv_23_12 ⟨by decide, by decide, by decide +kernel⟩ (by decide), List.forall_mem_cons.mpr ⟨cl_virtual (y := y_Mo_word_at_s5024) (ci := 13) rfl rfl ⟨_, _, rfl⟩ (by decide +kernel) h_Mo_word_at_s5024 wm_3809 wm_9 wm_3806 wm_3808 wv_23_6 ⟨by decide, by decide, by decide +kernel⟩ (by decide), List.forall_mem_cons.mpr ⟨cl_virtual (y := y_Mo_styleOpen_at_f9) (ci := 13) rfl rfl ⟨_, _, rfl⟩ (by decide +kernel) h_Mo_styleOpen_at_f9 wm_3828 wm_9 wm_3825 wm_3827 wv_23_10 ⟨by decide, by decide, by decide +kernel⟩ (by decide), List.forall_mem_cons.mpr ⟨cl_virtual (y := y_Mo_oneTest_at_f10) (ci := 13) rfl rfl ⟨_, _, rfl⟩ (by decide +kernel) h_Mo_oneTest_at_f10 wm_3823 wm_9 wm_3820 wm_3822 wv_23_9 ⟨by decide, by decide, by decide +kernel⟩ (by decide), List.forall_mem_cons.mpr ⟨cl_virtual (y := y_Mo_styleOpen_at_f9) (ci := 13) rfl rfl ⟨_, _, rfl⟩ (by decide +kernel) h_Mo_styleOpen_at_f9 wm_3828 wm_9 wm_3825 wm_3827 wv_23_10 ⟨by decide, by decide, by decide +kernel⟩ (by decide), List.forall_mem_cons.mpr ⟨cl_virtual (y := y_Mo_test_at_f10) (ci := 13) rfl rfl ⟨_, _, rfl⟩ (by decide +kernel) h_Mo_test_at_f10 wm_3815 wm_9 wm_3812 wm_3814 wv_23_7 ⟨by decide, by decide, by decide +kernel⟩ (by decide), List.forall_mem_cons.mpr ⟨cl_virtual (y := y_Mo_sum_at_f9) (ci := 13) rfl rfl ⟨_, _, rfl⟩ (by decide +kernel) h_Mo_sum_at_f9 wm_3840 wm_9 wm_3837 wm_3839 wv_23_13 ⟨by decide, by decide, by decide +kernel⟩ (by decide), List.forall_mem_cons.mpr ⟨cl_virtual (y := y_Mo_sum_at_f9) (ci := 13) rfl rfl ⟨_, _, rfl⟩ (by decide +kernel) h_Mo_sum_at_f9 wm_3840 wm_9 wm_3837 wm_3839 wv_23_13 ⟨by decide, by decide, by decide +kernel⟩ (by decide), List.forall_mem_cons.mpr ⟨cl_ldcw (own := "DrawingHouseModel") (idx := 1230) (i := 24) (tx := "not") (by decide +kernel) (by decide +kernel) (by decide +kernel), List.forall_mem_nil _⟩⟩⟩⟩⟩⟩⟩⟩⟩⟩⟩, List.forall_mem_nil _, List.forall_mem_nil _, GG_pl⟩ (by decide +kernel)
def o_Mo_test_at_f0_0 : or_T := (1, 2, [(0, (2, 0, 0, [150])), (1, (0, 0, 2009, []))], [(20, [0], [50, 2, 1, 158, 157, 160, 2, 12, 0, 7, 4, 3, 2, 0, 158, 0, 1, 2, 0, 157, 2, 7, 0, 3, 2, 0, 157, 0, 2010, 3, 14, 1, 10, 3, 0, 160, 5, 3, 2, 0, 157, 0, 1, 0, 0, 1, 10, 3, 0, 160, 5, 3, 2, 0, 157, 0, 1, 0, 4]), (20, [0, 1], [30, 0, 1, 1, 158, -1, 0, 0]), (20, [0, 1], [30, 0, -1, 1, 158, 1, 0, 0]), (20, [0], [50, 2, 0, 164, 165, 4, 7, 1, 3, 2, 0, 164, 0, 0, 0, 3, 2, 0, 165, 0, 23]), (20, [0], [30, 0, 1, 1, 159]), (20, [0], [30, 0, -1, 1, 159])], [], [(0, 0, 2009, [])], [(20, [0], [50, 2, 1, 158, 157, 160, 2, 12, 0, 7, 4, 3, 2, 0, 158, 0, 1, 2, 0, 157, 2, 7, 0, 3, 2, 0, 157, 0, 2010, 3, 14, 1, 10, 3, 0, 160, 5, 3, 2, 0, 157, 0, 1, 0, 0, 1, 10, 3, 0, 160, 5, 3, 2, 0, 157, 0, 1, 0, 4]), (20, [0, 2], [30, 0, 1, 1, 158, -1, 0, 0]), (20, [0, 2], [30, 0, -1, 1, 158, 1, 0, 0]), (20, [0], [50, 2, 0, 164, 165, 4, 7, 1, 3, 2, 0, 164, 0, 0, 0, 3, 2, 0, 165, 0, 23]), (20, [0], [30, 0, 1, 1, 159]), (20, [0], [30, 0, -1, 1, 159]), (23, [1, 2], [0, 1, -1])], [], [])
theorem oo_Mo_test_at_f0_0 {kA : Nat → ClassId} : or_ok kA GG o_Mo_test_at_f0_0 := by
  intro A ta ws vs hD hth hl hk hds hf
  have hl : vs.length = 2 := hl
  have hk : ∀ q ∈ ([(0, (2, 0, 0, [150])), (1, (0, 0, 2009, []))] : List (Nat × tv_T)), tv_ok ta q.2 (n_v vs q.1) := hk
  obtain ⟨t0, hk⟩ := List.forall_mem_cons.mp hk
  have t0 : tv_ok ta (2, 0, 0, [150]) (n_v vs 0) := t0
  have r0 : ta (v_ad (n_v vs 0)) = some 150 := tv_rg t0
  obtain ⟨t1, hk⟩ := List.forall_mem_cons.mp hk
  have t1 : tv_ok ta (0, 0, 2009, []) (n_v vs 1) := t1
  have k1 : 0 ≤ v_iv (n_v vs 1) ∧ v_iv (n_v vs 1) ≤ 2009 := tv_rng t1
  have hf : fc_ok [(20, [0], [50, 2, 1, 158, 157, 160, 2, 12, 0, 7, 4, 3, 2, 0, 158, 0, 1, 2, 0, 157, 2, 7, 0, 3, 2, 0, 157, 0, 2010, 3, 14, 1, 10, 3, 0, 160, 5, 3, 2, 0, 157, 0, 1, 0, 0, 1, 10, 3, 0, 160, 5, 3, 2, 0, 157, 0, 1, 0, 4]), (20, [0, 1], [30, 0, 1, 1, 158, -1, 0, 0]), (20, [0, 1], [30, 0, -1, 1, 158, 1, 0, 0]), (20, [0], [50, 2, 0, 164, 165, 4, 7, 1, 3, 2, 0, 164, 0, 0, 0, 3, 2, 0, 165, 0, 23]), (20, [0], [30, 0, 1, 1, 159]), (20, [0], [30, 0, -1, 1, 159])] ta ws vs := hf
  obtain ⟨f0, hf⟩ := fc_un (show (20 : Nat) < 100 from by decide) hf
  have f0 : ((w_fi ws (n_v vs 0) 158 + 1) ≤ w_fi ws (n_v vs 0) 157) ∧ ((w_fi ws (n_v vs 0) 157 ≤ 2010) ∧ ((w_ei ws (w_ar ws (n_v vs 0) 160) ((w_fi ws (n_v vs 0) 157 - 1)) = 0) ∨ (w_ei ws (w_ar ws (n_v vs 0) 160) ((w_fi ws (n_v vs 0) 157 - 1)) = 4))) := f0
  obtain ⟨f1, hf⟩ := fc_un (show (20 : Nat) < 100 from by decide) hf
  have f1 : 1 * w_fi ws (n_v vs 0) 158 + ((-1) * v_iv (n_v vs 1) + 0) ≤ 0 := f1
  obtain ⟨f2, hf⟩ := fc_un (show (20 : Nat) < 100 from by decide) hf
  have f2 : (-1) * w_fi ws (n_v vs 0) 158 + (1 * v_iv (n_v vs 1) + 0) ≤ 0 := f2
  obtain ⟨f3, hf⟩ := fc_un (show (20 : Nat) < 100 from by decide) hf
  have f3 : (w_fi ws (n_v vs 0) 164 = 0) → (w_fi ws (n_v vs 0) 165 ≤ 23) := f3
  obtain ⟨f4, hf⟩ := fc_un (show (20 : Nat) < 100 from by decide) hf
  have f4 : 1 * w_fi ws (n_v vs 0) 159 + 0 ≤ 0 := f4
  obtain ⟨f5, hf⟩ := fc_un (show (20 : Nat) < 100 from by decide) hf
  have f5 : (-1) * w_fi ws (n_v vs 0) 159 + 0 ≤ 0 := f5
  have cr_0_160 : ta (w_ar ws (n_v vs 0) 160) = some 259 := tv_rg (th_fd hD hth r0 (g := GG_150) rfl (k := 160) (t := (2, 0, 0, [259])) rfl rfl)
  have hK_0_160 : ∀ j : Int, 0 ≤ j → j < 2010 → 0 ≤ w_ei ws (w_ar ws (n_v vs 0) 160) j ∧ w_ei ws (w_ar ws (n_v vs 0) 160) j ≤ 4 := fun j h0 h1 => th_el hD hth cr_0_160 (kd := 0) (n := 2010) (m := 2010) (lo := 0) (hi := 4) (rs := []) (L := []) rfl (by decide) (j := j.toNat) (by omega)
  have kz_0_157 : 0 ≤ w_fi ws (n_v vs 0) 157 ∧ w_fi ws (n_v vs 0) 157 ≤ 2010 := tv_rng (th_fd hD hth r0 (g := GG_150) rfl (k := 157) (t := (0, 0, 2010, [])) rfl rfl)
  have kz_0_158 : 0 ≤ w_fi ws (n_v vs 0) 158 ∧ w_fi ws (n_v vs 0) 158 ≤ 2009 := tv_rng (th_fd hD hth r0 (g := GG_150) rfl (k := 158) (t := (0, 0, 2009, [])) rfl rfl)
  have kz_0_159 : 0 ≤ w_fi ws (n_v vs 0) 159 ∧ w_fi ws (n_v vs 0) 159 ≤ 13 := tv_rng (th_fd hD hth r0 (g := GG_150) rfl (k := 159) (t := (0, 0, 13, [])) rfl rfl)
  have kz_0_164 : 0 ≤ w_fi ws (n_v vs 0) 164 ∧ w_fi ws (n_v vs 0) 164 ≤ 1 := tv_rng (th_fd hD hth r0 (g := GG_150) rfl (k := 164) (t := (0, 0, 1, [])) rfl rfl)
  have kz_0_165 : (-1) ≤ w_fi ws (n_v vs 0) 165 ∧ w_fi ws (n_v vs 0) 165 ≤ 47 := tv_rng (th_fd hD hth r0 (g := GG_150) rfl (k := 165) (t := (0, -1, 47, [])) rfl rfl)
  have kv0 : 0 ≤ w_fi ws (n_v vs 0) 158 ∧ w_fi ws (n_v vs 0) 158 ≤ 2009 := tv_rng (th_fd hD hth r0 (g := GG_150) rfl (k := 158) (t := (0, 0, 2009, [])) rfl rfl)
  obtain ⟨x, ex, hx⟩ := iv_ex (ta := ta) (lo := 0) (hi := 2009) (z := w_fi ws (n_v vs 0) 158) (by omega) (by omega) (by omega) (by omega)
  have ex2 : v_iv (Value.int x) = w_fi ws (n_v vs 0) 158 := ex
  have ex3 : 0 ≤ v_iv (Value.int x) ∧ v_iv (Value.int x) ≤ 2009 := tv_rng hx
  have e_0 : n_v (vs ++ [Value.int x]) 0 = n_v vs 0 := n_v_old (by rw [hl]; decide)
  have e_1 : n_v (vs ++ [Value.int x]) 1 = n_v vs 1 := n_v_old (by rw [hl]; decide)
  have e_2 : n_v (vs ++ [Value.int x]) 2 = Value.int x := n_v_new hl
  have nf0 : fc_1 (20, [0], [50, 2, 1, 158, 157, 160, 2, 12, 0, 7, 4, 3, 2, 0, 158, 0, 1, 2, 0, 157, 2, 7, 0, 3, 2, 0, 157, 0, 2010, 3, 14, 1, 10, 3, 0, 160, 5, 3, 2, 0, 157, 0, 1, 0, 0, 1, 10, 3, 0, 160, 5, 3, 2, 0, 157, 0, 1, 0, 4]) ws (vs ++ [Value.int x]) := by
    refine ⟨fun n hn => ?_, ?_⟩
    · have hn : n ∈ [0] := hn
      rw [List.length_append, hl]
      simp only [List.mem_cons, List.not_mem_nil, or_false] at hn
      show n < 2 + 1; omega
    · show ((w_fi ws (n_v (vs ++ [Value.int x]) 0) 158 + 1) ≤ w_fi ws (n_v (vs ++ [Value.int x]) 0) 157) ∧ ((w_fi ws (n_v (vs ++ [Value.int x]) 0) 157 ≤ 2010) ∧ ((w_ei ws (w_ar ws (n_v (vs ++ [Value.int x]) 0) 160) ((w_fi ws (n_v (vs ++ [Value.int x]) 0) 157 - 1)) = 0) ∨ (w_ei ws (w_ar ws (n_v (vs ++ [Value.int x]) 0) 160) ((w_fi ws (n_v (vs ++ [Value.int x]) 0) 157 - 1)) = 4)))
      rw [e_0]
      first | omega | grind
  have nf1 : fc_1 (20, [0, 2], [30, 0, 1, 1, 158, -1, 0, 0]) ws (vs ++ [Value.int x]) := by
    refine ⟨fun n hn => ?_, ?_⟩
    · have hn : n ∈ [0, 2] := hn
      rw [List.length_append, hl]
      simp only [List.mem_cons, List.not_mem_nil, or_false] at hn
      show n < 2 + 1; omega
    · show 1 * w_fi ws (n_v (vs ++ [Value.int x]) 0) 158 + ((-1) * v_iv (n_v (vs ++ [Value.int x]) 2) + 0) ≤ 0
      rw [e_0]
      rw [e_2]
      omega
  have nf2 : fc_1 (20, [0, 2], [30, 0, -1, 1, 158, 1, 0, 0]) ws (vs ++ [Value.int x]) := by
    refine ⟨fun n hn => ?_, ?_⟩
    · have hn : n ∈ [0, 2] := hn
      rw [List.length_append, hl]
      simp only [List.mem_cons, List.not_mem_nil, or_false] at hn
      show n < 2 + 1; omega
    · show (-1) * w_fi ws (n_v (vs ++ [Value.int x]) 0) 158 + (1 * v_iv (n_v (vs ++ [Value.int x]) 2) + 0) ≤ 0
      rw [e_0]
      rw [e_2]
      omega
  have nf3 : fc_1 (20, [0], [50, 2, 0, 164, 165, 4, 7, 1, 3, 2, 0, 164, 0, 0, 0, 3, 2, 0, 165, 0, 23]) ws (vs ++ [Value.int x]) := by
    refine ⟨fun n hn => ?_, ?_⟩
    · have hn : n ∈ [0] := hn
      rw [List.length_append, hl]
      simp only [List.mem_cons, List.not_mem_nil, or_false] at hn
      show n < 2 + 1; omega
    · show (w_fi ws (n_v (vs ++ [Value.int x]) 0) 164 = 0) → (w_fi ws (n_v (vs ++ [Value.int x]) 0) 165 ≤ 23)
      rw [e_0]
      first | omega | grind
  have nf4 : fc_1 (20, [0], [30, 0, 1, 1, 159]) ws (vs ++ [Value.int x]) := by
    refine ⟨fun n hn => ?_, ?_⟩
    · have hn : n ∈ [0] := hn
      rw [List.length_append, hl]
      simp only [List.mem_cons, List.not_mem_nil, or_false] at hn
      show n < 2 + 1; omega
    · show 1 * w_fi ws (n_v (vs ++ [Value.int x]) 0) 159 + 0 ≤ 0
      rw [e_0]
      omega
  have nf5 : fc_1 (20, [0], [30, 0, -1, 1, 159]) ws (vs ++ [Value.int x]) := by
    refine ⟨fun n hn => ?_, ?_⟩
    · have hn : n ∈ [0] := hn
      rw [List.length_append, hl]
      simp only [List.mem_cons, List.not_mem_nil, or_false] at hn
      show n < 2 + 1; omega
    · show (-1) * w_fi ws (n_v (vs ++ [Value.int x]) 0) 159 + 0 ≤ 0
      rw [e_0]
      omega
  have nf6 : fc_1 (23, [1, 2], [0, 1, -1]) ws (vs ++ [Value.int x]) := by
    refine ⟨fun n hn => ?_, ?_⟩
    · have hn : n ∈ [1, 2] := hn
      rw [List.length_append, hl]
      simp only [List.mem_cons, List.not_mem_nil, or_false] at hn
      show n < 2 + 1; omega
    · show 1 * v_iv (n_v (vs ++ [Value.int x]) 1) + ((-1) * v_iv (n_v (vs ++ [Value.int x]) 2) + 0) ≤ 0
      rw [e_1]
      rw [e_2]
      omega
  exact ⟨(fun _ h => (by cases h)), [Value.int x], ag_one hx, List.forall_mem_cons.mpr ⟨⟨show (20 : Nat) < 100 from by decide, nf0⟩, List.forall_mem_cons.mpr ⟨⟨show (20 : Nat) < 100 from by decide, nf1⟩, List.forall_mem_cons.mpr ⟨⟨show (20 : Nat) < 100 from by decide, nf2⟩, List.forall_mem_cons.mpr ⟨⟨show (20 : Nat) < 100 from by decide, nf3⟩, List.forall_mem_cons.mpr ⟨⟨show (20 : Nat) < 100 from by decide, nf4⟩, List.forall_mem_cons.mpr ⟨⟨show (20 : Nat) < 100 from by decide, nf5⟩, List.forall_mem_cons.mpr ⟨⟨show (23 : Nat) < 100 from by decide, nf6⟩, (fun _ h => (by cases h))⟩⟩⟩⟩⟩⟩⟩, (fun _ h => (by cases h))⟩
def o_Mo_test_at_f0_1 : or_T := (5, 4, [(0, (2, 0, 0, [150])), (1, (0, 0, 2009, [])), (2, (0, 0, 2009, []))], [(20, [0], [50, 2, 0, 164, 165, 4, 7, 1, 3, 2, 0, 164, 0, 0, 0, 3, 2, 0, 165, 0, 23]), (23, [1, 2], [0, 1, -1]), (20, [0], [50, 2, 0, 164, 165, 4, 7, 1, 3, 2, 0, 164, 0, 0, 0, 3, 2, 0, 165, 0, 23]), (20, [0], [50, 2, 1, 158, 157, 160, 2, 12, 0, 7, 4, 3, 2, 0, 158, 0, 1, 2, 0, 157, 2, 7, 0, 3, 2, 0, 157, 0, 2010, 3, 14, 1, 10, 3, 0, 160, 5, 3, 2, 0, 157, 0, 1, 0, 0, 1, 10, 3, 0, 160, 5, 3, 2, 0, 157, 0, 1, 0, 4]), (20, [2, 0], [30, 0, 1, 0, 0, -1, 1, 158]), (20, [0], [30, 0, 1, 1, 159]), (20, [0], [30, 0, -1, 1, 159]), (102, [2], [0, 13008, 13009, 13158, 13159]), (23, [1, 2], [0, 1, -1])], [], [(0, 0, 2010, [])], [(20, [0], [50, 2, 1, 158, 157, 160, 2, 12, 0, 7, 4, 3, 2, 0, 158, 0, 1, 2, 0, 157, 2, 7, 0, 3, 2, 0, 157, 0, 2010, 3, 14, 1, 10, 3, 0, 160, 5, 3, 2, 0, 157, 0, 1, 0, 0, 1, 10, 3, 0, 160, 5, 3, 2, 0, 157, 0, 1, 0, 4]), (20, [1, 0], [30, 0, 1, 0, 0, -1, 1, 158]), (20, [0], [50, 2, 0, 164, 165, 4, 7, 1, 3, 2, 0, 164, 0, 0, 0, 3, 2, 0, 165, 0, 23]), (20, [0], [30, 0, 1, 1, 159]), (20, [0], [30, 0, -1, 1, 159]), (24, [0, 0], []), (20, [4, 0], [30, 2010, 1, 0, 0, 1, 1, 158]), (20, [4, 0], [30, -2010, -1, 0, 0, -1, 1, 158])], [], [])
theorem oo_Mo_test_at_f0_1 {kA : Nat → ClassId} : or_ok kA GG o_Mo_test_at_f0_1 := by
  intro A ta ws vs hD hth hl hk hds hf
  have hl : vs.length = 4 := hl
  have hk : ∀ q ∈ ([(0, (2, 0, 0, [150])), (1, (0, 0, 2009, [])), (2, (0, 0, 2009, []))] : List (Nat × tv_T)), tv_ok ta q.2 (n_v vs q.1) := hk
  obtain ⟨t0, hk⟩ := List.forall_mem_cons.mp hk
  have t0 : tv_ok ta (2, 0, 0, [150]) (n_v vs 0) := t0
  have r0 : ta (v_ad (n_v vs 0)) = some 150 := tv_rg t0
  obtain ⟨t1, hk⟩ := List.forall_mem_cons.mp hk
  have t1 : tv_ok ta (0, 0, 2009, []) (n_v vs 1) := t1
  have k1 : 0 ≤ v_iv (n_v vs 1) ∧ v_iv (n_v vs 1) ≤ 2009 := tv_rng t1
  obtain ⟨t2, hk⟩ := List.forall_mem_cons.mp hk
  have t2 : tv_ok ta (0, 0, 2009, []) (n_v vs 2) := t2
  have k2 : 0 ≤ v_iv (n_v vs 2) ∧ v_iv (n_v vs 2) ≤ 2009 := tv_rng t2
  have hf : fc_ok [(20, [0], [50, 2, 0, 164, 165, 4, 7, 1, 3, 2, 0, 164, 0, 0, 0, 3, 2, 0, 165, 0, 23]), (23, [1, 2], [0, 1, -1]), (20, [0], [50, 2, 0, 164, 165, 4, 7, 1, 3, 2, 0, 164, 0, 0, 0, 3, 2, 0, 165, 0, 23]), (20, [0], [50, 2, 1, 158, 157, 160, 2, 12, 0, 7, 4, 3, 2, 0, 158, 0, 1, 2, 0, 157, 2, 7, 0, 3, 2, 0, 157, 0, 2010, 3, 14, 1, 10, 3, 0, 160, 5, 3, 2, 0, 157, 0, 1, 0, 0, 1, 10, 3, 0, 160, 5, 3, 2, 0, 157, 0, 1, 0, 4]), (20, [2, 0], [30, 0, 1, 0, 0, -1, 1, 158]), (20, [0], [30, 0, 1, 1, 159]), (20, [0], [30, 0, -1, 1, 159]), (102, [2], [0, 13008, 13009, 13158, 13159]), (23, [1, 2], [0, 1, -1])] ta ws vs := hf
  obtain ⟨f0, hf⟩ := fc_un (show (20 : Nat) < 100 from by decide) hf
  have f0 : (w_fi ws (n_v vs 0) 164 = 0) → (w_fi ws (n_v vs 0) 165 ≤ 23) := f0
  obtain ⟨f1, hf⟩ := fc_un (show (23 : Nat) < 100 from by decide) hf
  have f1 : 1 * v_iv (n_v vs 1) + ((-1) * v_iv (n_v vs 2) + 0) ≤ 0 := f1
  obtain ⟨f2, hf⟩ := fc_un (show (20 : Nat) < 100 from by decide) hf
  have f2 : (w_fi ws (n_v vs 0) 164 = 0) → (w_fi ws (n_v vs 0) 165 ≤ 23) := f2
  obtain ⟨f3, hf⟩ := fc_un (show (20 : Nat) < 100 from by decide) hf
  have f3 : ((w_fi ws (n_v vs 0) 158 + 1) ≤ w_fi ws (n_v vs 0) 157) ∧ ((w_fi ws (n_v vs 0) 157 ≤ 2010) ∧ ((w_ei ws (w_ar ws (n_v vs 0) 160) ((w_fi ws (n_v vs 0) 157 - 1)) = 0) ∨ (w_ei ws (w_ar ws (n_v vs 0) 160) ((w_fi ws (n_v vs 0) 157 - 1)) = 4))) := f3
  obtain ⟨f4, hf⟩ := fc_un (show (20 : Nat) < 100 from by decide) hf
  have f4 : 1 * v_iv (n_v vs 2) + ((-1) * w_fi ws (n_v vs 0) 158 + 0) ≤ 0 := f4
  obtain ⟨f5, hf⟩ := fc_un (show (20 : Nat) < 100 from by decide) hf
  have f5 : 1 * w_fi ws (n_v vs 0) 159 + 0 ≤ 0 := f5
  obtain ⟨f6, hf⟩ := fc_un (show (20 : Nat) < 100 from by decide) hf
  have f6 : (-1) * w_fi ws (n_v vs 0) 159 + 0 ≤ 0 := f6
  obtain ⟨ta1, w1, le1, ⟨_, s1⟩, hf⟩ := fc_us (show ¬ (102 : Nat) < 100 from by decide) hf
  obtain ⟨f8, hf⟩ := fc_un (show (23 : Nat) < 100 from by decide) hf
  have f8 : 1 * v_iv (n_v vs 1) + ((-1) * v_iv (n_v vs 2) + 0) ≤ 0 := f8
  have cr_0_160 : ta (w_ar ws (n_v vs 0) 160) = some 259 := tv_rg (th_fd hD hth r0 (g := GG_150) rfl (k := 160) (t := (2, 0, 0, [259])) rfl rfl)
  have hK_0_160 : ∀ j : Int, 0 ≤ j → j < 2010 → 0 ≤ w_ei ws (w_ar ws (n_v vs 0) 160) j ∧ w_ei ws (w_ar ws (n_v vs 0) 160) j ≤ 4 := fun j h0 h1 => th_el hD hth cr_0_160 (kd := 0) (n := 2010) (m := 2010) (lo := 0) (hi := 4) (rs := []) (L := []) rfl (by decide) (j := j.toNat) (by omega)
  have kz_0_157 : 0 ≤ w_fi ws (n_v vs 0) 157 ∧ w_fi ws (n_v vs 0) 157 ≤ 2010 := tv_rng (th_fd hD hth r0 (g := GG_150) rfl (k := 157) (t := (0, 0, 2010, [])) rfl rfl)
  have kz_0_158 : 0 ≤ w_fi ws (n_v vs 0) 158 ∧ w_fi ws (n_v vs 0) 158 ≤ 2009 := tv_rng (th_fd hD hth r0 (g := GG_150) rfl (k := 158) (t := (0, 0, 2009, [])) rfl rfl)
  have kz_0_159 : 0 ≤ w_fi ws (n_v vs 0) 159 ∧ w_fi ws (n_v vs 0) 159 ≤ 13 := tv_rng (th_fd hD hth r0 (g := GG_150) rfl (k := 159) (t := (0, 0, 13, [])) rfl rfl)
  have kz_0_164 : 0 ≤ w_fi ws (n_v vs 0) 164 ∧ w_fi ws (n_v vs 0) 164 ≤ 1 := tv_rng (th_fd hD hth r0 (g := GG_150) rfl (k := 164) (t := (0, 0, 1, [])) rfl rfl)
  have kz_0_165 : (-1) ≤ w_fi ws (n_v vs 0) 165 ∧ w_fi ws (n_v vs 0) 165 ≤ 47 := tv_rng (th_fd hD hth r0 (g := GG_150) rfl (k := 165) (t := (0, -1, 47, [])) rfl rfl)
  have kb_0_158 : 0 ≤ w_fi ws (n_v vs 0) 158 ∧ w_fi ws (n_v vs 0) 158 ≤ 2009 := tv_rng (th_fd hD hth r0 (g := GG_150) rfl (k := 158) (t := (0, 0, 2009, [])) rfl rfl)
  obtain ⟨x, ex, hx⟩ := iv_ex (ta := ta) (lo := 0) (hi := 2010) (z := 2010 + ((-1) * w_fi ws (n_v vs 0) 158 + 0)) (by omega) (by omega) (by omega) (by omega)
  have ex2 : v_iv (Value.int x) = 2010 + ((-1) * w_fi ws (n_v vs 0) 158 + 0) := ex
  have ex3 : 0 ≤ v_iv (Value.int x) ∧ v_iv (Value.int x) ≤ 2010 := tv_rng hx
  have e_0 : n_v (vs ++ [Value.int x]) 0 = n_v vs 0 := n_v_old (by rw [hl]; decide)
  have e_1 : n_v (vs ++ [Value.int x]) 1 = n_v vs 1 := n_v_old (by rw [hl]; decide)
  have e_4 : n_v (vs ++ [Value.int x]) 4 = Value.int x := n_v_new hl
  have nf0 : fc_1 (20, [0], [50, 2, 1, 158, 157, 160, 2, 12, 0, 7, 4, 3, 2, 0, 158, 0, 1, 2, 0, 157, 2, 7, 0, 3, 2, 0, 157, 0, 2010, 3, 14, 1, 10, 3, 0, 160, 5, 3, 2, 0, 157, 0, 1, 0, 0, 1, 10, 3, 0, 160, 5, 3, 2, 0, 157, 0, 1, 0, 4]) ws (vs ++ [Value.int x]) := by
    refine ⟨fun n hn => ?_, ?_⟩
    · have hn : n ∈ [0] := hn
      rw [List.length_append, hl]
      simp only [List.mem_cons, List.not_mem_nil, or_false] at hn
      show n < 4 + 1; omega
    · show ((w_fi ws (n_v (vs ++ [Value.int x]) 0) 158 + 1) ≤ w_fi ws (n_v (vs ++ [Value.int x]) 0) 157) ∧ ((w_fi ws (n_v (vs ++ [Value.int x]) 0) 157 ≤ 2010) ∧ ((w_ei ws (w_ar ws (n_v (vs ++ [Value.int x]) 0) 160) ((w_fi ws (n_v (vs ++ [Value.int x]) 0) 157 - 1)) = 0) ∨ (w_ei ws (w_ar ws (n_v (vs ++ [Value.int x]) 0) 160) ((w_fi ws (n_v (vs ++ [Value.int x]) 0) 157 - 1)) = 4)))
      rw [e_0]
      first | omega | grind
  have nf1 : fc_1 (20, [1, 0], [30, 0, 1, 0, 0, -1, 1, 158]) ws (vs ++ [Value.int x]) := by
    refine ⟨fun n hn => ?_, ?_⟩
    · have hn : n ∈ [1, 0] := hn
      rw [List.length_append, hl]
      simp only [List.mem_cons, List.not_mem_nil, or_false] at hn
      show n < 4 + 1; omega
    · show 1 * v_iv (n_v (vs ++ [Value.int x]) 1) + ((-1) * w_fi ws (n_v (vs ++ [Value.int x]) 0) 158 + 0) ≤ 0
      rw [e_0]
      rw [e_1]
      omega
  have nf2 : fc_1 (20, [0], [50, 2, 0, 164, 165, 4, 7, 1, 3, 2, 0, 164, 0, 0, 0, 3, 2, 0, 165, 0, 23]) ws (vs ++ [Value.int x]) := by
    refine ⟨fun n hn => ?_, ?_⟩
    · have hn : n ∈ [0] := hn
      rw [List.length_append, hl]
      simp only [List.mem_cons, List.not_mem_nil, or_false] at hn
      show n < 4 + 1; omega
    · show (w_fi ws (n_v (vs ++ [Value.int x]) 0) 164 = 0) → (w_fi ws (n_v (vs ++ [Value.int x]) 0) 165 ≤ 23)
      rw [e_0]
      first | omega | grind
  have nf3 : fc_1 (20, [0], [30, 0, 1, 1, 159]) ws (vs ++ [Value.int x]) := by
    refine ⟨fun n hn => ?_, ?_⟩
    · have hn : n ∈ [0] := hn
      rw [List.length_append, hl]
      simp only [List.mem_cons, List.not_mem_nil, or_false] at hn
      show n < 4 + 1; omega
    · show 1 * w_fi ws (n_v (vs ++ [Value.int x]) 0) 159 + 0 ≤ 0
      rw [e_0]
      omega
  have nf4 : fc_1 (20, [0], [30, 0, -1, 1, 159]) ws (vs ++ [Value.int x]) := by
    refine ⟨fun n hn => ?_, ?_⟩
    · have hn : n ∈ [0] := hn
      rw [List.length_append, hl]
      simp only [List.mem_cons, List.not_mem_nil, or_false] at hn
      show n < 4 + 1; omega
    · show (-1) * w_fi ws (n_v (vs ++ [Value.int x]) 0) 159 + 0 ≤ 0
      rw [e_0]
      omega
  have nf5 : fc_1 (24, [0, 0], []) ws (vs ++ [Value.int x]) := by
    refine ⟨fun n hn => ?_, ?_⟩
    · have hn : n ∈ [0, 0] := hn
      rw [List.length_append, hl]
      simp only [List.mem_cons, List.not_mem_nil, or_false] at hn
      show n < 4 + 1; omega
    · show n_v (vs ++ [Value.int x]) 0 = n_v (vs ++ [Value.int x]) 0
      first | rfl | simp only [e_0]
  have nf6 : fc_1 (20, [4, 0], [30, 2010, 1, 0, 0, 1, 1, 158]) ws (vs ++ [Value.int x]) := by
    refine ⟨fun n hn => ?_, ?_⟩
    · have hn : n ∈ [4, 0] := hn
      rw [List.length_append, hl]
      simp only [List.mem_cons, List.not_mem_nil, or_false] at hn
      show n < 4 + 1; omega
    · show 1 * v_iv (n_v (vs ++ [Value.int x]) 4) + (1 * w_fi ws (n_v (vs ++ [Value.int x]) 0) 158 + 0) ≤ 2010
      rw [e_0]
      rw [e_4]
      omega
  have nf7 : fc_1 (20, [4, 0], [30, -2010, -1, 0, 0, -1, 1, 158]) ws (vs ++ [Value.int x]) := by
    refine ⟨fun n hn => ?_, ?_⟩
    · have hn : n ∈ [4, 0] := hn
      rw [List.length_append, hl]
      simp only [List.mem_cons, List.not_mem_nil, or_false] at hn
      show n < 4 + 1; omega
    · show (-1) * v_iv (n_v (vs ++ [Value.int x]) 4) + ((-1) * w_fi ws (n_v (vs ++ [Value.int x]) 0) 158 + 0) ≤ (-2010)
      rw [e_0]
      rw [e_4]
      omega
  exact ⟨(fun _ h => (by cases h)), [Value.int x], ag_one hx, List.forall_mem_cons.mpr ⟨⟨show (20 : Nat) < 100 from by decide, nf0⟩, List.forall_mem_cons.mpr ⟨⟨show (20 : Nat) < 100 from by decide, nf1⟩, List.forall_mem_cons.mpr ⟨⟨show (20 : Nat) < 100 from by decide, nf2⟩, List.forall_mem_cons.mpr ⟨⟨show (20 : Nat) < 100 from by decide, nf3⟩, List.forall_mem_cons.mpr ⟨⟨show (20 : Nat) < 100 from by decide, nf4⟩, List.forall_mem_cons.mpr ⟨⟨show (24 : Nat) < 100 from by decide, nf5⟩, List.forall_mem_cons.mpr ⟨⟨show (20 : Nat) < 100 from by decide, nf6⟩, List.forall_mem_cons.mpr ⟨⟨show (20 : Nat) < 100 from by decide, nf7⟩, (fun _ h => (by cases h))⟩⟩⟩⟩⟩⟩⟩⟩, (fun _ h => (by cases h))⟩
def o_Mo_test_at_f0_2 : or_T := (48, 8, [(0, (2, 0, 0, [150])), (1, (0, 0, 2009, [])), (2, (2, 0, 0, [150])), (5, (0, 0, 2010, [])), (7, (0, 0, 0, []))], [(8, [7], [0]), (20, [2], [50, 2, 1, 158, 157, 160, 2, 12, 0, 7, 4, 3, 2, 0, 158, 0, 1, 2, 0, 157, 2, 7, 0, 3, 2, 0, 157, 0, 2010, 3, 14, 1, 10, 3, 0, 160, 5, 3, 2, 0, 157, 0, 1, 0, 0, 1, 10, 3, 0, 160, 5, 3, 2, 0, 157, 0, 1, 0, 4]), (20, [1, 2], [30, 0, 1, 0, 0, -1, 1, 158]), (20, [2], [30, 0, 1, 1, 159]), (20, [2], [30, 0, -1, 1, 159]), (24, [0, 2], []), (20, [5, 2], [30, 2010, 1, 0, 0, 1, 1, 158]), (20, [5, 2], [30, -2010, -1, 0, 0, -1, 1, 158]), (20, [7, 2], [50, 1, 1, 1158, 1160, 4, 6, 1, 2, 1, 0, 0, 1, 1, 6, 3, 1, 160, 2, 1, 158, 0, 1])], [], [], [(20, [0], [50, 2, 1, 158, 157, 160, 2, 12, 0, 7, 4, 3, 2, 0, 158, 0, 1, 2, 0, 157, 2, 7, 0, 3, 2, 0, 157, 0, 2010, 3, 14, 1, 10, 3, 0, 160, 5, 3, 2, 0, 157, 0, 1, 0, 0, 1, 10, 3, 0, 160, 5, 3, 2, 0, 157, 0, 1, 0, 4]), (20, [1, 0], [30, 0, 1, 0, 0, -1, 1, 158]), (20, [0], [30, 0, 1, 1, 159]), (20, [0], [30, 0, -1, 1, 159])], [], [])
theorem oo_Mo_test_at_f0_2 {kA : Nat → ClassId} : or_ok kA GG o_Mo_test_at_f0_2 := by
  intro A ta ws vs hD hth hl hk hds hf
  have hl : vs.length = 8 := hl
  have hk : ∀ q ∈ ([(0, (2, 0, 0, [150])), (1, (0, 0, 2009, [])), (2, (2, 0, 0, [150])), (5, (0, 0, 2010, [])), (7, (0, 0, 0, []))] : List (Nat × tv_T)), tv_ok ta q.2 (n_v vs q.1) := hk
  obtain ⟨t0, hk⟩ := List.forall_mem_cons.mp hk
  have t0 : tv_ok ta (2, 0, 0, [150]) (n_v vs 0) := t0
  have r0 : ta (v_ad (n_v vs 0)) = some 150 := tv_rg t0
  obtain ⟨t1, hk⟩ := List.forall_mem_cons.mp hk
  have t1 : tv_ok ta (0, 0, 2009, []) (n_v vs 1) := t1
  have k1 : 0 ≤ v_iv (n_v vs 1) ∧ v_iv (n_v vs 1) ≤ 2009 := tv_rng t1
  obtain ⟨t2, hk⟩ := List.forall_mem_cons.mp hk
  have t2 : tv_ok ta (2, 0, 0, [150]) (n_v vs 2) := t2
  have r2 : ta (v_ad (n_v vs 2)) = some 150 := tv_rg t2
  obtain ⟨t5, hk⟩ := List.forall_mem_cons.mp hk
  have t5 : tv_ok ta (0, 0, 2010, []) (n_v vs 5) := t5
  have k5 : 0 ≤ v_iv (n_v vs 5) ∧ v_iv (n_v vs 5) ≤ 2010 := tv_rng t5
  obtain ⟨t7, hk⟩ := List.forall_mem_cons.mp hk
  have t7 : tv_ok ta (0, 0, 0, []) (n_v vs 7) := t7
  have k7 : 0 ≤ v_iv (n_v vs 7) ∧ v_iv (n_v vs 7) ≤ 0 := tv_rng t7
  have hf : fc_ok [(8, [7], [0]), (20, [2], [50, 2, 1, 158, 157, 160, 2, 12, 0, 7, 4, 3, 2, 0, 158, 0, 1, 2, 0, 157, 2, 7, 0, 3, 2, 0, 157, 0, 2010, 3, 14, 1, 10, 3, 0, 160, 5, 3, 2, 0, 157, 0, 1, 0, 0, 1, 10, 3, 0, 160, 5, 3, 2, 0, 157, 0, 1, 0, 4]), (20, [1, 2], [30, 0, 1, 0, 0, -1, 1, 158]), (20, [2], [30, 0, 1, 1, 159]), (20, [2], [30, 0, -1, 1, 159]), (24, [0, 2], []), (20, [5, 2], [30, 2010, 1, 0, 0, 1, 1, 158]), (20, [5, 2], [30, -2010, -1, 0, 0, -1, 1, 158]), (20, [7, 2], [50, 1, 1, 1158, 1160, 4, 6, 1, 2, 1, 0, 0, 1, 1, 6, 3, 1, 160, 2, 1, 158, 0, 1])] ta ws vs := hf
  obtain ⟨f0, hf⟩ := fc_un (show (8 : Nat) < 100 from by decide) hf
  have f0 : v_iv (n_v vs 7) = 0 := f0
  obtain ⟨f1, hf⟩ := fc_un (show (20 : Nat) < 100 from by decide) hf
  have f1 : ((w_fi ws (n_v vs 2) 158 + 1) ≤ w_fi ws (n_v vs 2) 157) ∧ ((w_fi ws (n_v vs 2) 157 ≤ 2010) ∧ ((w_ei ws (w_ar ws (n_v vs 2) 160) ((w_fi ws (n_v vs 2) 157 - 1)) = 0) ∨ (w_ei ws (w_ar ws (n_v vs 2) 160) ((w_fi ws (n_v vs 2) 157 - 1)) = 4))) := f1
  obtain ⟨f2, hf⟩ := fc_un (show (20 : Nat) < 100 from by decide) hf
  have f2 : 1 * v_iv (n_v vs 1) + ((-1) * w_fi ws (n_v vs 2) 158 + 0) ≤ 0 := f2
  obtain ⟨f3, hf⟩ := fc_un (show (20 : Nat) < 100 from by decide) hf
  have f3 : 1 * w_fi ws (n_v vs 2) 159 + 0 ≤ 0 := f3
  obtain ⟨f4, hf⟩ := fc_un (show (20 : Nat) < 100 from by decide) hf
  have f4 : (-1) * w_fi ws (n_v vs 2) 159 + 0 ≤ 0 := f4
  obtain ⟨f5, hf⟩ := fc_un (show (24 : Nat) < 100 from by decide) hf
  have f5 : n_v vs 0 = n_v vs 2 := f5
  obtain ⟨f6, hf⟩ := fc_un (show (20 : Nat) < 100 from by decide) hf
  have f6 : 1 * v_iv (n_v vs 5) + (1 * w_fi ws (n_v vs 2) 158 + 0) ≤ 2010 := f6
  obtain ⟨f7, hf⟩ := fc_un (show (20 : Nat) < 100 from by decide) hf
  have f7 : (-1) * v_iv (n_v vs 5) + ((-1) * w_fi ws (n_v vs 2) 158 + 0) ≤ (-2010) := f7
  obtain ⟨f8, hf⟩ := fc_un (show (20 : Nat) < 100 from by decide) hf
  have f8 : (v_iv (n_v vs 7) = 1) → (w_ei ws (w_ar ws (n_v vs 2) 160) (w_fi ws (n_v vs 2) 158) = 1) := f8
  have q2 : n_v vs 2 = n_v vs 0 := f5.symm
  rw [q2] at f1
  rw [q2] at f2
  rw [q2] at f3
  rw [q2] at f4
  rw [q2] at f6
  rw [q2] at f7
  rw [q2] at f8
  have cr_0_160 : ta (w_ar ws (n_v vs 0) 160) = some 259 := tv_rg (th_fd hD hth r0 (g := GG_150) rfl (k := 160) (t := (2, 0, 0, [259])) rfl rfl)
  have hK_0_160 : ∀ j : Int, 0 ≤ j → j < 2010 → 0 ≤ w_ei ws (w_ar ws (n_v vs 0) 160) j ∧ w_ei ws (w_ar ws (n_v vs 0) 160) j ≤ 4 := fun j h0 h1 => th_el hD hth cr_0_160 (kd := 0) (n := 2010) (m := 2010) (lo := 0) (hi := 4) (rs := []) (L := []) rfl (by decide) (j := j.toNat) (by omega)
  have kz_0_157 : 0 ≤ w_fi ws (n_v vs 0) 157 ∧ w_fi ws (n_v vs 0) 157 ≤ 2010 := tv_rng (th_fd hD hth r0 (g := GG_150) rfl (k := 157) (t := (0, 0, 2010, [])) rfl rfl)
  have kz_0_158 : 0 ≤ w_fi ws (n_v vs 0) 158 ∧ w_fi ws (n_v vs 0) 158 ≤ 2009 := tv_rng (th_fd hD hth r0 (g := GG_150) rfl (k := 158) (t := (0, 0, 2009, [])) rfl rfl)
  have kz_0_159 : 0 ≤ w_fi ws (n_v vs 0) 159 ∧ w_fi ws (n_v vs 0) 159 ≤ 13 := tv_rng (th_fd hD hth r0 (g := GG_150) rfl (k := 159) (t := (0, 0, 13, [])) rfl rfl)
  have nf0 : fc_1 (20, [0], [50, 2, 1, 158, 157, 160, 2, 12, 0, 7, 4, 3, 2, 0, 158, 0, 1, 2, 0, 157, 2, 7, 0, 3, 2, 0, 157, 0, 2010, 3, 14, 1, 10, 3, 0, 160, 5, 3, 2, 0, 157, 0, 1, 0, 0, 1, 10, 3, 0, 160, 5, 3, 2, 0, 157, 0, 1, 0, 4]) ws (vs) := by
    refine ⟨fun n hn => ?_, ?_⟩
    · have hn : n ∈ [0] := hn
      rw [hl]
      simp only [List.mem_cons, List.not_mem_nil, or_false] at hn
      show n < 8; omega
    · show ((w_fi ws (n_v vs 0) 158 + 1) ≤ w_fi ws (n_v vs 0) 157) ∧ ((w_fi ws (n_v vs 0) 157 ≤ 2010) ∧ ((w_ei ws (w_ar ws (n_v vs 0) 160) ((w_fi ws (n_v vs 0) 157 - 1)) = 0) ∨ (w_ei ws (w_ar ws (n_v vs 0) 160) ((w_fi ws (n_v vs 0) 157 - 1)) = 4)))
      first | omega | grind
  have nf1 : fc_1 (20, [1, 0], [30, 0, 1, 0, 0, -1, 1, 158]) ws (vs) := by
    refine ⟨fun n hn => ?_, ?_⟩
    · have hn : n ∈ [1, 0] := hn
      rw [hl]
      simp only [List.mem_cons, List.not_mem_nil, or_false] at hn
      show n < 8; omega
    · show 1 * v_iv (n_v vs 1) + ((-1) * w_fi ws (n_v vs 0) 158 + 0) ≤ 0
      omega
  have nf2 : fc_1 (20, [0], [30, 0, 1, 1, 159]) ws (vs) := by
    refine ⟨fun n hn => ?_, ?_⟩
    · have hn : n ∈ [0] := hn
      rw [hl]
      simp only [List.mem_cons, List.not_mem_nil, or_false] at hn
      show n < 8; omega
    · show 1 * w_fi ws (n_v vs 0) 159 + 0 ≤ 0
      omega
  have nf3 : fc_1 (20, [0], [30, 0, -1, 1, 159]) ws (vs) := by
    refine ⟨fun n hn => ?_, ?_⟩
    · have hn : n ∈ [0] := hn
      rw [hl]
      simp only [List.mem_cons, List.not_mem_nil, or_false] at hn
      show n < 8; omega
    · show (-1) * w_fi ws (n_v vs 0) 159 + 0 ≤ 0
      omega
  refine ⟨(fun _ h => (by cases h)), [], trivial, ?_, (fun _ h => (by cases h))⟩
  rw [List.append_nil]
  exact List.forall_mem_cons.mpr ⟨⟨show (20 : Nat) < 100 from by decide, nf0⟩, List.forall_mem_cons.mpr ⟨⟨show (20 : Nat) < 100 from by decide, nf1⟩, List.forall_mem_cons.mpr ⟨⟨show (20 : Nat) < 100 from by decide, nf2⟩, List.forall_mem_cons.mpr ⟨⟨show (20 : Nat) < 100 from by decide, nf3⟩, (fun _ h => (by cases h))⟩⟩⟩⟩
def o_Mo_test_at_f0_4 : or_T := (26, 10, [(0, (2, 0, 0, [150])), (1, (0, 0, 2009, [])), (2, (2, 0, 0, [150])), (4, (0, 0, 2009, [])), (5, (0, 0, 2010, [])), (7, (0, 1, 1, [])), (8, (0, 1, 1, [])), (9, (0, 1, 2009, []))], [(20, [2], [50, 2, 0, 164, 165, 4, 7, 1, 3, 2, 0, 164, 0, 0, 0, 3, 2, 0, 165, 0, 23]), (20, [2], [30, 0, 1, 1, 159]), (20, [2], [30, 0, -1, 1, 159]), (24, [0, 2], []), (101, [2, 9], [158]), (1, [9, 4, 8], []), (9, [4, 2], [158]), (8, [7], [1]), (20, [2], [50, 2, 1, 158, 157, 160, 2, 12, 0, 7, 4, 3, 2, 0, 158, 0, 1, 2, 0, 157, 2, 7, 0, 3, 2, 0, 157, 0, 2010, 3, 14, 1, 10, 3, 0, 160, 5, 3, 2, 0, 157, 0, 1, 0, 0, 1, 10, 3, 0, 160, 5, 3, 2, 0, 157, 0, 1, 0, 4]), (20, [1, 2], [30, 0, 1, 0, 0, -1, 1, 158]), (20, [2], [50, 2, 0, 164, 165, 4, 7, 1, 3, 2, 0, 164, 0, 0, 0, 3, 2, 0, 165, 0, 23]), (20, [2], [30, 0, 1, 1, 159]), (20, [2], [30, 0, -1, 1, 159]), (20, [5, 2], [30, 2010, 1, 0, 0, 1, 1, 158]), (20, [5, 2], [30, -2010, -1, 0, 0, -1, 1, 158]), (20, [7, 2], [50, 1, 1, 1158, 1160, 4, 6, 1, 2, 1, 0, 0, 1, 1, 6, 3, 1, 160, 2, 1, 158, 0, 1])], [], [(0, 0, 2009, [])], [(20, [2], [50, 2, 1, 158, 157, 160, 2, 12, 0, 7, 4, 3, 2, 0, 158, 0, 1, 2, 0, 157, 2, 7, 0, 3, 2, 0, 157, 0, 2010, 3, 14, 1, 10, 3, 0, 160, 5, 3, 2, 0, 157, 0, 1, 0, 0, 1, 10, 3, 0, 160, 5, 3, 2, 0, 157, 0, 1, 0, 4]), (20, [2, 10], [30, 0, 1, 1, 158, -1, 0, 0]), (20, [2, 10], [30, 0, -1, 1, 158, 1, 0, 0]), (20, [2], [50, 2, 0, 164, 165, 4, 7, 1, 3, 2, 0, 164, 0, 0, 0, 3, 2, 0, 165, 0, 23]), (20, [2], [30, 0, 1, 1, 159]), (20, [2], [30, 0, -1, 1, 159]), (23, [1, 10], [0, 1, -1]), (23, [5, 10], [-2011, -1, -1])], [], [(9, 4, 1, 1), (9, 1, -4294967296, 2010), (1, 4, -4294967296, 2009), (4, 1, -4294967296, 2009)])
theorem oo_Mo_test_at_f0_4 {kA : Nat → ClassId} : or_ok kA GG o_Mo_test_at_f0_4 := by
  intro A ta ws vs hD hth hl hk hds hf
  have hl : vs.length = 10 := hl
  have hk : ∀ q ∈ ([(0, (2, 0, 0, [150])), (1, (0, 0, 2009, [])), (2, (2, 0, 0, [150])), (4, (0, 0, 2009, [])), (5, (0, 0, 2010, [])), (7, (0, 1, 1, [])), (8, (0, 1, 1, [])), (9, (0, 1, 2009, []))] : List (Nat × tv_T)), tv_ok ta q.2 (n_v vs q.1) := hk
  obtain ⟨t0, hk⟩ := List.forall_mem_cons.mp hk
  have t0 : tv_ok ta (2, 0, 0, [150]) (n_v vs 0) := t0
  have r0 : ta (v_ad (n_v vs 0)) = some 150 := tv_rg t0
  obtain ⟨t1, hk⟩ := List.forall_mem_cons.mp hk
  have t1 : tv_ok ta (0, 0, 2009, []) (n_v vs 1) := t1
  have k1 : 0 ≤ v_iv (n_v vs 1) ∧ v_iv (n_v vs 1) ≤ 2009 := tv_rng t1
  obtain ⟨t2, hk⟩ := List.forall_mem_cons.mp hk
  have t2 : tv_ok ta (2, 0, 0, [150]) (n_v vs 2) := t2
  have r2 : ta (v_ad (n_v vs 2)) = some 150 := tv_rg t2
  obtain ⟨t4, hk⟩ := List.forall_mem_cons.mp hk
  have t4 : tv_ok ta (0, 0, 2009, []) (n_v vs 4) := t4
  have k4 : 0 ≤ v_iv (n_v vs 4) ∧ v_iv (n_v vs 4) ≤ 2009 := tv_rng t4
  obtain ⟨t5, hk⟩ := List.forall_mem_cons.mp hk
  have t5 : tv_ok ta (0, 0, 2010, []) (n_v vs 5) := t5
  have k5 : 0 ≤ v_iv (n_v vs 5) ∧ v_iv (n_v vs 5) ≤ 2010 := tv_rng t5
  obtain ⟨t7, hk⟩ := List.forall_mem_cons.mp hk
  have t7 : tv_ok ta (0, 1, 1, []) (n_v vs 7) := t7
  have k7 : 1 ≤ v_iv (n_v vs 7) ∧ v_iv (n_v vs 7) ≤ 1 := tv_rng t7
  obtain ⟨t8, hk⟩ := List.forall_mem_cons.mp hk
  have t8 : tv_ok ta (0, 1, 1, []) (n_v vs 8) := t8
  have k8 : 1 ≤ v_iv (n_v vs 8) ∧ v_iv (n_v vs 8) ≤ 1 := tv_rng t8
  obtain ⟨t9, hk⟩ := List.forall_mem_cons.mp hk
  have t9 : tv_ok ta (0, 1, 2009, []) (n_v vs 9) := t9
  have k9 : 1 ≤ v_iv (n_v vs 9) ∧ v_iv (n_v vs 9) ≤ 2009 := tv_rng t9
  have hds : ∀ q ∈ ([(9, 4, 1, 1), (9, 1, -4294967296, 2010), (1, 4, -4294967296, 2009), (4, 1, -4294967296, 2009)] : List of_T), n_iv vs q.2.1 + q.2.2.1 ≤ n_iv vs q.1 ∧ n_iv vs q.1 ≤ n_iv vs q.2.1 + q.2.2.2 := hds
  obtain ⟨d0, hds⟩ := List.forall_mem_cons.mp hds
  have d0 : v_iv (n_v vs 4) + 1 ≤ v_iv (n_v vs 9) ∧ v_iv (n_v vs 9) ≤ v_iv (n_v vs 4) + 1 := d0
  obtain ⟨d1, hds⟩ := List.forall_mem_cons.mp hds
  have d1 : v_iv (n_v vs 1) + (-4294967296) ≤ v_iv (n_v vs 9) ∧ v_iv (n_v vs 9) ≤ v_iv (n_v vs 1) + 2010 := d1
  obtain ⟨d2, hds⟩ := List.forall_mem_cons.mp hds
  have d2 : v_iv (n_v vs 4) + (-4294967296) ≤ v_iv (n_v vs 1) ∧ v_iv (n_v vs 1) ≤ v_iv (n_v vs 4) + 2009 := d2
  obtain ⟨d3, hds⟩ := List.forall_mem_cons.mp hds
  have d3 : v_iv (n_v vs 1) + (-4294967296) ≤ v_iv (n_v vs 4) ∧ v_iv (n_v vs 4) ≤ v_iv (n_v vs 1) + 2009 := d3
  have hf : fc_ok [(20, [2], [50, 2, 0, 164, 165, 4, 7, 1, 3, 2, 0, 164, 0, 0, 0, 3, 2, 0, 165, 0, 23]), (20, [2], [30, 0, 1, 1, 159]), (20, [2], [30, 0, -1, 1, 159]), (24, [0, 2], []), (101, [2, 9], [158]), (1, [9, 4, 8], []), (9, [4, 2], [158]), (8, [7], [1]), (20, [2], [50, 2, 1, 158, 157, 160, 2, 12, 0, 7, 4, 3, 2, 0, 158, 0, 1, 2, 0, 157, 2, 7, 0, 3, 2, 0, 157, 0, 2010, 3, 14, 1, 10, 3, 0, 160, 5, 3, 2, 0, 157, 0, 1, 0, 0, 1, 10, 3, 0, 160, 5, 3, 2, 0, 157, 0, 1, 0, 4]), (20, [1, 2], [30, 0, 1, 0, 0, -1, 1, 158]), (20, [2], [50, 2, 0, 164, 165, 4, 7, 1, 3, 2, 0, 164, 0, 0, 0, 3, 2, 0, 165, 0, 23]), (20, [2], [30, 0, 1, 1, 159]), (20, [2], [30, 0, -1, 1, 159]), (20, [5, 2], [30, 2010, 1, 0, 0, 1, 1, 158]), (20, [5, 2], [30, -2010, -1, 0, 0, -1, 1, 158]), (20, [7, 2], [50, 1, 1, 1158, 1160, 4, 6, 1, 2, 1, 0, 0, 1, 1, 6, 3, 1, 160, 2, 1, 158, 0, 1])] ta ws vs := hf
  obtain ⟨f0, hf⟩ := fc_un (show (20 : Nat) < 100 from by decide) hf
  have f0 : (w_fi ws (n_v vs 2) 164 = 0) → (w_fi ws (n_v vs 2) 165 ≤ 23) := f0
  obtain ⟨f1, hf⟩ := fc_un (show (20 : Nat) < 100 from by decide) hf
  have f1 : 1 * w_fi ws (n_v vs 2) 159 + 0 ≤ 0 := f1
  obtain ⟨f2, hf⟩ := fc_un (show (20 : Nat) < 100 from by decide) hf
  have f2 : (-1) * w_fi ws (n_v vs 2) 159 + 0 ≤ 0 := f2
  obtain ⟨f3, hf⟩ := fc_un (show (24 : Nat) < 100 from by decide) hf
  have f3 : n_v vs 0 = n_v vs 2 := f3
  obtain ⟨ta1, w1, le1, ⟨_, s1⟩, hf⟩ := fc_us (show ¬ (101 : Nat) < 100 from by decide) hf
  have s1 : (∀ b j, w_el ws b j = w_el w1 b j) ∧ ∀ b j, w_fd ws b j = if b = v_ad (n_v vs 2) ∧ j = 158 then n_v vs 9 else w_fd w1 b j := s1
  obtain ⟨f5, hf⟩ := fc_un (show (1 : Nat) < 100 from by decide) hf
  have f5 : v_iv (n_v vs 9) = v_iv (n_v vs 4) + v_iv (n_v vs 8) := f5
  obtain ⟨f6, hf⟩ := fc_un (show (9 : Nat) < 100 from by decide) hf
  have f6 : n_v vs 4 = w_fd w1 (v_ad (n_v vs 2)) 158 := f6
  obtain ⟨f7, hf⟩ := fc_un (show (8 : Nat) < 100 from by decide) hf
  have f7 : v_iv (n_v vs 7) ≠ 0 := f7
  obtain ⟨f8, hf⟩ := fc_un (show (20 : Nat) < 100 from by decide) hf
  have f8 : ((w_fi w1 (n_v vs 2) 158 + 1) ≤ w_fi w1 (n_v vs 2) 157) ∧ ((w_fi w1 (n_v vs 2) 157 ≤ 2010) ∧ ((w_ei w1 (w_ar w1 (n_v vs 2) 160) ((w_fi w1 (n_v vs 2) 157 - 1)) = 0) ∨ (w_ei w1 (w_ar w1 (n_v vs 2) 160) ((w_fi w1 (n_v vs 2) 157 - 1)) = 4))) := f8
  obtain ⟨f9, hf⟩ := fc_un (show (20 : Nat) < 100 from by decide) hf
  have f9 : 1 * v_iv (n_v vs 1) + ((-1) * w_fi w1 (n_v vs 2) 158 + 0) ≤ 0 := f9
  obtain ⟨f10, hf⟩ := fc_un (show (20 : Nat) < 100 from by decide) hf
  have f10 : (w_fi w1 (n_v vs 2) 164 = 0) → (w_fi w1 (n_v vs 2) 165 ≤ 23) := f10
  obtain ⟨f11, hf⟩ := fc_un (show (20 : Nat) < 100 from by decide) hf
  have f11 : 1 * w_fi w1 (n_v vs 2) 159 + 0 ≤ 0 := f11
  obtain ⟨f12, hf⟩ := fc_un (show (20 : Nat) < 100 from by decide) hf
  have f12 : (-1) * w_fi w1 (n_v vs 2) 159 + 0 ≤ 0 := f12
  obtain ⟨f13, hf⟩ := fc_un (show (20 : Nat) < 100 from by decide) hf
  have f13 : 1 * v_iv (n_v vs 5) + (1 * w_fi w1 (n_v vs 2) 158 + 0) ≤ 2010 := f13
  obtain ⟨f14, hf⟩ := fc_un (show (20 : Nat) < 100 from by decide) hf
  have f14 : (-1) * v_iv (n_v vs 5) + ((-1) * w_fi w1 (n_v vs 2) 158 + 0) ≤ (-2010) := f14
  obtain ⟨f15, hf⟩ := fc_un (show (20 : Nat) < 100 from by decide) hf
  have f15 : (v_iv (n_v vs 7) = 1) → (w_ei w1 (w_ar w1 (n_v vs 2) 160) (w_fi w1 (n_v vs 2) 158) = 1) := f15
  have q2 : n_v vs 2 = n_v vs 0 := f3.symm
  rw [q2] at f0
  rw [q2] at f1
  rw [q2] at f2
  rw [q2] at s1
  rw [q2] at f6
  rw [q2] at f8
  rw [q2] at f9
  rw [q2] at f10
  rw [q2] at f11
  rw [q2] at f12
  rw [q2] at f13
  rw [q2] at f14
  rw [q2] at f15
  have ar_0_160_1 : w_ar w1 (n_v vs 0) 160 = w_ar ws (n_v vs 0) 160 := by show v_ad (w_fd w1 _ _) = v_ad (w_fd ws _ _); rw [s1.2, if_neg (fun e => absurd e.2 (by decide))]
  have cr_0_160 : ta (w_ar ws (n_v vs 0) 160) = some 259 := tv_rg (th_fd hD hth r0 (g := GG_150) rfl (k := 160) (t := (2, 0, 0, [259])) rfl rfl)
  have g6 : v_iv (n_v vs 4) = w_fi w1 (n_v vs 0) 158 := congrArg v_iv f6
  rw [ar_0_160_1] at f8
  rw [ar_0_160_1] at f15
  have fe_0_157_1 : w_fi ws (n_v vs 0) 157 = w_fi w1 (n_v vs 0) 157 := by show v_iv (w_fd _ _ _) = v_iv (w_fd _ _ _); rw [s1.2, if_neg (fun e => absurd e.2 (by decide))]
  have fe_0_158_1 : w_fi ws (n_v vs 0) 158 = v_iv (n_v vs 9) := by show v_iv (w_fd _ _ _) = _; rw [s1.2, if_pos ⟨rfl, rfl⟩]
  have fe_0_159_1 : w_fi ws (n_v vs 0) 159 = w_fi w1 (n_v vs 0) 159 := by show v_iv (w_fd _ _ _) = v_iv (w_fd _ _ _); rw [s1.2, if_neg (fun e => absurd e.2 (by decide))]
  have fe_0_164_1 : w_fi ws (n_v vs 0) 164 = w_fi w1 (n_v vs 0) 164 := by show v_iv (w_fd _ _ _) = v_iv (w_fd _ _ _); rw [s1.2, if_neg (fun e => absurd e.2 (by decide))]
  have fe_0_165_1 : w_fi ws (n_v vs 0) 165 = w_fi w1 (n_v vs 0) 165 := by show v_iv (w_fd _ _ _) = v_iv (w_fd _ _ _); rw [s1.2, if_neg (fun e => absurd e.2 (by decide))]
  have hE_0_160_1 : ∀ j : Int, w_ei ws (w_ar ws (n_v vs 0) 160) j = w_ei w1 (w_ar ws (n_v vs 0) 160) j := fun j => s1.1 _ _
  have hK_0_160 : ∀ j : Int, 0 ≤ j → j < 2010 → 0 ≤ w_ei ws (w_ar ws (n_v vs 0) 160) j ∧ w_ei ws (w_ar ws (n_v vs 0) 160) j ≤ 4 := fun j h0 h1 => th_el hD hth cr_0_160 (kd := 0) (n := 2010) (m := 2010) (lo := 0) (hi := 4) (rs := []) (L := []) rfl (by decide) (j := j.toNat) (by omega)
  have kz_0_157 : 0 ≤ w_fi ws (n_v vs 0) 157 ∧ w_fi ws (n_v vs 0) 157 ≤ 2010 := tv_rng (th_fd hD hth r0 (g := GG_150) rfl (k := 157) (t := (0, 0, 2010, [])) rfl rfl)
  have kz_0_158 : 0 ≤ w_fi ws (n_v vs 0) 158 ∧ w_fi ws (n_v vs 0) 158 ≤ 2009 := tv_rng (th_fd hD hth r0 (g := GG_150) rfl (k := 158) (t := (0, 0, 2009, [])) rfl rfl)
  have kz_0_159 : 0 ≤ w_fi ws (n_v vs 0) 159 ∧ w_fi ws (n_v vs 0) 159 ≤ 13 := tv_rng (th_fd hD hth r0 (g := GG_150) rfl (k := 159) (t := (0, 0, 13, [])) rfl rfl)
  have kz_0_164 : 0 ≤ w_fi ws (n_v vs 0) 164 ∧ w_fi ws (n_v vs 0) 164 ≤ 1 := tv_rng (th_fd hD hth r0 (g := GG_150) rfl (k := 164) (t := (0, 0, 1, [])) rfl rfl)
  have kz_0_165 : (-1) ≤ w_fi ws (n_v vs 0) 165 ∧ w_fi ws (n_v vs 0) 165 ≤ 47 := tv_rng (th_fd hD hth r0 (g := GG_150) rfl (k := 165) (t := (0, -1, 47, [])) rfl rfl)
  have kv0 : 0 ≤ w_fi ws (n_v vs 0) 158 ∧ w_fi ws (n_v vs 0) 158 ≤ 2009 := tv_rng (th_fd hD hth r0 (g := GG_150) rfl (k := 158) (t := (0, 0, 2009, [])) rfl rfl)
  obtain ⟨x, ex, hx⟩ := iv_ex (ta := ta) (lo := 0) (hi := 2009) (z := w_fi ws (n_v vs 0) 158) (by omega) (by omega) (by omega) (by omega)
  have ex2 : v_iv (Value.int x) = w_fi ws (n_v vs 0) 158 := ex
  have ex3 : 0 ≤ v_iv (Value.int x) ∧ v_iv (Value.int x) ≤ 2009 := tv_rng hx
  have e_1 : n_v (vs ++ [Value.int x]) 1 = n_v vs 1 := n_v_old (by rw [hl]; decide)
  have e_2 : n_v (vs ++ [Value.int x]) 2 = n_v vs 2 := n_v_old (by rw [hl]; decide)
  have e_5 : n_v (vs ++ [Value.int x]) 5 = n_v vs 5 := n_v_old (by rw [hl]; decide)
  have e_10 : n_v (vs ++ [Value.int x]) 10 = Value.int x := n_v_new hl
  have nf0 : fc_1 (20, [2], [50, 2, 1, 158, 157, 160, 2, 12, 0, 7, 4, 3, 2, 0, 158, 0, 1, 2, 0, 157, 2, 7, 0, 3, 2, 0, 157, 0, 2010, 3, 14, 1, 10, 3, 0, 160, 5, 3, 2, 0, 157, 0, 1, 0, 0, 1, 10, 3, 0, 160, 5, 3, 2, 0, 157, 0, 1, 0, 4]) ws (vs ++ [Value.int x]) := by
    refine ⟨fun n hn => ?_, ?_⟩
    · have hn : n ∈ [2] := hn
      rw [List.length_append, hl]
      simp only [List.mem_cons, List.not_mem_nil, or_false] at hn
      show n < 10 + 1; omega
    · show ((w_fi ws (n_v (vs ++ [Value.int x]) 2) 158 + 1) ≤ w_fi ws (n_v (vs ++ [Value.int x]) 2) 157) ∧ ((w_fi ws (n_v (vs ++ [Value.int x]) 2) 157 ≤ 2010) ∧ ((w_ei ws (w_ar ws (n_v (vs ++ [Value.int x]) 2) 160) ((w_fi ws (n_v (vs ++ [Value.int x]) 2) 157 - 1)) = 0) ∨ (w_ei ws (w_ar ws (n_v (vs ++ [Value.int x]) 2) 160) ((w_fi ws (n_v (vs ++ [Value.int x]) 2) 157 - 1)) = 4)))
      rw [e_2]
      rw [q2]
      first | omega | grind
  have nf1 : fc_1 (20, [2, 10], [30, 0, 1, 1, 158, -1, 0, 0]) ws (vs ++ [Value.int x]) := by
    refine ⟨fun n hn => ?_, ?_⟩
    · have hn : n ∈ [2, 10] := hn
      rw [List.length_append, hl]
      simp only [List.mem_cons, List.not_mem_nil, or_false] at hn
      show n < 10 + 1; omega
    · show 1 * w_fi ws (n_v (vs ++ [Value.int x]) 2) 158 + ((-1) * v_iv (n_v (vs ++ [Value.int x]) 10) + 0) ≤ 0
      rw [e_2]
      rw [e_10]
      rw [q2]
      omega
  have nf2 : fc_1 (20, [2, 10], [30, 0, -1, 1, 158, 1, 0, 0]) ws (vs ++ [Value.int x]) := by
    refine ⟨fun n hn => ?_, ?_⟩
    · have hn : n ∈ [2, 10] := hn
      rw [List.length_append, hl]
      simp only [List.mem_cons, List.not_mem_nil, or_false] at hn
      show n < 10 + 1; omega
    · show (-1) * w_fi ws (n_v (vs ++ [Value.int x]) 2) 158 + (1 * v_iv (n_v (vs ++ [Value.int x]) 10) + 0) ≤ 0
      rw [e_2]
      rw [e_10]
      rw [q2]
      omega
  have nf3 : fc_1 (20, [2], [50, 2, 0, 164, 165, 4, 7, 1, 3, 2, 0, 164, 0, 0, 0, 3, 2, 0, 165, 0, 23]) ws (vs ++ [Value.int x]) := by
    refine ⟨fun n hn => ?_, ?_⟩
    · have hn : n ∈ [2] := hn
      rw [List.length_append, hl]
      simp only [List.mem_cons, List.not_mem_nil, or_false] at hn
      show n < 10 + 1; omega
    · show (w_fi ws (n_v (vs ++ [Value.int x]) 2) 164 = 0) → (w_fi ws (n_v (vs ++ [Value.int x]) 2) 165 ≤ 23)
      rw [e_2]
      rw [q2]
      first | omega | grind
  have nf4 : fc_1 (20, [2], [30, 0, 1, 1, 159]) ws (vs ++ [Value.int x]) := by
    refine ⟨fun n hn => ?_, ?_⟩
    · have hn : n ∈ [2] := hn
      rw [List.length_append, hl]
      simp only [List.mem_cons, List.not_mem_nil, or_false] at hn
      show n < 10 + 1; omega
    · show 1 * w_fi ws (n_v (vs ++ [Value.int x]) 2) 159 + 0 ≤ 0
      rw [e_2]
      rw [q2]
      omega
  have nf5 : fc_1 (20, [2], [30, 0, -1, 1, 159]) ws (vs ++ [Value.int x]) := by
    refine ⟨fun n hn => ?_, ?_⟩
    · have hn : n ∈ [2] := hn
      rw [List.length_append, hl]
      simp only [List.mem_cons, List.not_mem_nil, or_false] at hn
      show n < 10 + 1; omega
    · show (-1) * w_fi ws (n_v (vs ++ [Value.int x]) 2) 159 + 0 ≤ 0
      rw [e_2]
      rw [q2]
      omega
  have nf6 : fc_1 (23, [1, 10], [0, 1, -1]) ws (vs ++ [Value.int x]) := by
    refine ⟨fun n hn => ?_, ?_⟩
    · have hn : n ∈ [1, 10] := hn
      rw [List.length_append, hl]
      simp only [List.mem_cons, List.not_mem_nil, or_false] at hn
      show n < 10 + 1; omega
    · show 1 * v_iv (n_v (vs ++ [Value.int x]) 1) + ((-1) * v_iv (n_v (vs ++ [Value.int x]) 10) + 0) ≤ 0
      rw [e_1]
      rw [e_10]
      omega
  have nf7 : fc_1 (23, [5, 10], [-2011, -1, -1]) ws (vs ++ [Value.int x]) := by
    refine ⟨fun n hn => ?_, ?_⟩
    · have hn : n ∈ [5, 10] := hn
      rw [List.length_append, hl]
      simp only [List.mem_cons, List.not_mem_nil, or_false] at hn
      show n < 10 + 1; omega
    · show (-1) * v_iv (n_v (vs ++ [Value.int x]) 5) + ((-1) * v_iv (n_v (vs ++ [Value.int x]) 10) + 0) ≤ (-2011)
      rw [e_5]
      rw [e_10]
      omega
  exact ⟨(fun _ h => (by cases h)), [Value.int x], ag_one hx, List.forall_mem_cons.mpr ⟨⟨show (20 : Nat) < 100 from by decide, nf0⟩, List.forall_mem_cons.mpr ⟨⟨show (20 : Nat) < 100 from by decide, nf1⟩, List.forall_mem_cons.mpr ⟨⟨show (20 : Nat) < 100 from by decide, nf2⟩, List.forall_mem_cons.mpr ⟨⟨show (20 : Nat) < 100 from by decide, nf3⟩, List.forall_mem_cons.mpr ⟨⟨show (20 : Nat) < 100 from by decide, nf4⟩, List.forall_mem_cons.mpr ⟨⟨show (20 : Nat) < 100 from by decide, nf5⟩, List.forall_mem_cons.mpr ⟨⟨show (23 : Nat) < 100 from by decide, nf6⟩, List.forall_mem_cons.mpr ⟨⟨show (23 : Nat) < 100 from by decide, nf7⟩, (fun _ h => (by cases h))⟩⟩⟩⟩⟩⟩⟩⟩, (fun _ h => (by cases h))⟩
def o_Mo_test_at_f0_5 : or_T := (43, 13, [(0, (2, 0, 0, [150])), (1, (0, 0, 2009, [])), (2, (2, 0, 0, [150])), (4, (0, 0, 2009, [])), (5, (0, 0, 2010, [])), (8, (0, 1, 1, [])), (9, (0, 1, 2009, [])), (10, (0, 0, 2009, []))], [(20, [2], [50, 2, 0, 164, 165, 4, 7, 1, 3, 2, 0, 164, 0, 0, 0, 3, 2, 0, 165, 0, 23]), (23, [1, 10], [0, 1, -1]), (23, [5, 10], [-2011, -1, -1]), (20, [2], [50, 2, 0, 164, 165, 4, 7, 1, 3, 2, 0, 164, 0, 0, 0, 3, 2, 0, 165, 0, 23]), (24, [0, 2], []), (20, [2], [50, 2, 1, 158, 157, 160, 2, 12, 0, 7, 4, 3, 2, 0, 158, 0, 1, 2, 0, 157, 2, 7, 0, 3, 2, 0, 157, 0, 2010, 3, 14, 1, 10, 3, 0, 160, 5, 3, 2, 0, 157, 0, 1, 0, 0, 1, 10, 3, 0, 160, 5, 3, 2, 0, 157, 0, 1, 0, 4]), (20, [10, 2], [30, 0, 1, 0, 0, -1, 1, 158]), (20, [2], [30, 0, 1, 1, 159]), (20, [2], [30, 0, -1, 1, 159]), (102, [10], [0, 13008, 13009, 13158, 13159]), (23, [1, 10], [0, 1, -1]), (23, [5, 10], [-2011, -1, -1]), (101, [2, 9], [158]), (1, [9, 4, 8], [])], [], [(0, 0, 2010, [])], [(20, [2], [50, 2, 1, 158, 157, 160, 2, 12, 0, 7, 4, 3, 2, 0, 158, 0, 1, 2, 0, 157, 2, 7, 0, 3, 2, 0, 157, 0, 2010, 3, 14, 1, 10, 3, 0, 160, 5, 3, 2, 0, 157, 0, 1, 0, 0, 1, 10, 3, 0, 160, 5, 3, 2, 0, 157, 0, 1, 0, 4]), (20, [1, 2], [30, 0, 1, 0, 0, -1, 1, 158]), (20, [2], [50, 2, 0, 164, 165, 4, 7, 1, 3, 2, 0, 164, 0, 0, 0, 3, 2, 0, 165, 0, 23]), (20, [2], [30, 0, 1, 1, 159]), (20, [2], [30, 0, -1, 1, 159]), (20, [13, 2], [30, -2011, -1, 0, 0, -1, 1, 158]), (24, [0, 2], [])], [(13, 5, 0, 0)], [(9, 4, 1, 1), (9, 1, -4294967296, 2010), (1, 4, -4294967296, 2009), (4, 1, -4294967296, 2009)])
theorem oo_Mo_test_at_f0_5 {kA : Nat → ClassId} : or_ok kA GG o_Mo_test_at_f0_5 := by
  intro A ta ws vs hD hth hl hk hds hf
  have hl : vs.length = 13 := hl
  have hk : ∀ q ∈ ([(0, (2, 0, 0, [150])), (1, (0, 0, 2009, [])), (2, (2, 0, 0, [150])), (4, (0, 0, 2009, [])), (5, (0, 0, 2010, [])), (8, (0, 1, 1, [])), (9, (0, 1, 2009, [])), (10, (0, 0, 2009, []))] : List (Nat × tv_T)), tv_ok ta q.2 (n_v vs q.1) := hk
  obtain ⟨t0, hk⟩ := List.forall_mem_cons.mp hk
  have t0 : tv_ok ta (2, 0, 0, [150]) (n_v vs 0) := t0
  have r0 : ta (v_ad (n_v vs 0)) = some 150 := tv_rg t0
  obtain ⟨t1, hk⟩ := List.forall_mem_cons.mp hk
  have t1 : tv_ok ta (0, 0, 2009, []) (n_v vs 1) := t1
  have k1 : 0 ≤ v_iv (n_v vs 1) ∧ v_iv (n_v vs 1) ≤ 2009 := tv_rng t1
  obtain ⟨t2, hk⟩ := List.forall_mem_cons.mp hk
  have t2 : tv_ok ta (2, 0, 0, [150]) (n_v vs 2) := t2
  have r2 : ta (v_ad (n_v vs 2)) = some 150 := tv_rg t2
  obtain ⟨t4, hk⟩ := List.forall_mem_cons.mp hk
  have t4 : tv_ok ta (0, 0, 2009, []) (n_v vs 4) := t4
  have k4 : 0 ≤ v_iv (n_v vs 4) ∧ v_iv (n_v vs 4) ≤ 2009 := tv_rng t4
  obtain ⟨t5, hk⟩ := List.forall_mem_cons.mp hk
  have t5 : tv_ok ta (0, 0, 2010, []) (n_v vs 5) := t5
  have k5 : 0 ≤ v_iv (n_v vs 5) ∧ v_iv (n_v vs 5) ≤ 2010 := tv_rng t5
  obtain ⟨t8, hk⟩ := List.forall_mem_cons.mp hk
  have t8 : tv_ok ta (0, 1, 1, []) (n_v vs 8) := t8
  have k8 : 1 ≤ v_iv (n_v vs 8) ∧ v_iv (n_v vs 8) ≤ 1 := tv_rng t8
  obtain ⟨t9, hk⟩ := List.forall_mem_cons.mp hk
  have t9 : tv_ok ta (0, 1, 2009, []) (n_v vs 9) := t9
  have k9 : 1 ≤ v_iv (n_v vs 9) ∧ v_iv (n_v vs 9) ≤ 2009 := tv_rng t9
  obtain ⟨t10, hk⟩ := List.forall_mem_cons.mp hk
  have t10 : tv_ok ta (0, 0, 2009, []) (n_v vs 10) := t10
  have k10 : 0 ≤ v_iv (n_v vs 10) ∧ v_iv (n_v vs 10) ≤ 2009 := tv_rng t10
  have hds : ∀ q ∈ ([(9, 4, 1, 1), (9, 1, -4294967296, 2010), (1, 4, -4294967296, 2009), (4, 1, -4294967296, 2009)] : List of_T), n_iv vs q.2.1 + q.2.2.1 ≤ n_iv vs q.1 ∧ n_iv vs q.1 ≤ n_iv vs q.2.1 + q.2.2.2 := hds
  obtain ⟨d0, hds⟩ := List.forall_mem_cons.mp hds
  have d0 : v_iv (n_v vs 4) + 1 ≤ v_iv (n_v vs 9) ∧ v_iv (n_v vs 9) ≤ v_iv (n_v vs 4) + 1 := d0
  obtain ⟨d1, hds⟩ := List.forall_mem_cons.mp hds
  have d1 : v_iv (n_v vs 1) + (-4294967296) ≤ v_iv (n_v vs 9) ∧ v_iv (n_v vs 9) ≤ v_iv (n_v vs 1) + 2010 := d1
  obtain ⟨d2, hds⟩ := List.forall_mem_cons.mp hds
  have d2 : v_iv (n_v vs 4) + (-4294967296) ≤ v_iv (n_v vs 1) ∧ v_iv (n_v vs 1) ≤ v_iv (n_v vs 4) + 2009 := d2
  obtain ⟨d3, hds⟩ := List.forall_mem_cons.mp hds
  have d3 : v_iv (n_v vs 1) + (-4294967296) ≤ v_iv (n_v vs 4) ∧ v_iv (n_v vs 4) ≤ v_iv (n_v vs 1) + 2009 := d3
  have hf : fc_ok [(20, [2], [50, 2, 0, 164, 165, 4, 7, 1, 3, 2, 0, 164, 0, 0, 0, 3, 2, 0, 165, 0, 23]), (23, [1, 10], [0, 1, -1]), (23, [5, 10], [-2011, -1, -1]), (20, [2], [50, 2, 0, 164, 165, 4, 7, 1, 3, 2, 0, 164, 0, 0, 0, 3, 2, 0, 165, 0, 23]), (24, [0, 2], []), (20, [2], [50, 2, 1, 158, 157, 160, 2, 12, 0, 7, 4, 3, 2, 0, 158, 0, 1, 2, 0, 157, 2, 7, 0, 3, 2, 0, 157, 0, 2010, 3, 14, 1, 10, 3, 0, 160, 5, 3, 2, 0, 157, 0, 1, 0, 0, 1, 10, 3, 0, 160, 5, 3, 2, 0, 157, 0, 1, 0, 4]), (20, [10, 2], [30, 0, 1, 0, 0, -1, 1, 158]), (20, [2], [30, 0, 1, 1, 159]), (20, [2], [30, 0, -1, 1, 159]), (102, [10], [0, 13008, 13009, 13158, 13159]), (23, [1, 10], [0, 1, -1]), (23, [5, 10], [-2011, -1, -1]), (101, [2, 9], [158]), (1, [9, 4, 8], [])] ta ws vs := hf
  obtain ⟨f0, hf⟩ := fc_un (show (20 : Nat) < 100 from by decide) hf
  have f0 : (w_fi ws (n_v vs 2) 164 = 0) → (w_fi ws (n_v vs 2) 165 ≤ 23) := f0
  obtain ⟨f1, hf⟩ := fc_un (show (23 : Nat) < 100 from by decide) hf
  have f1 : 1 * v_iv (n_v vs 1) + ((-1) * v_iv (n_v vs 10) + 0) ≤ 0 := f1
  obtain ⟨f2, hf⟩ := fc_un (show (23 : Nat) < 100 from by decide) hf
  have f2 : (-1) * v_iv (n_v vs 5) + ((-1) * v_iv (n_v vs 10) + 0) ≤ (-2011) := f2
  obtain ⟨f3, hf⟩ := fc_un (show (20 : Nat) < 100 from by decide) hf
  have f3 : (w_fi ws (n_v vs 2) 164 = 0) → (w_fi ws (n_v vs 2) 165 ≤ 23) := f3
  obtain ⟨f4, hf⟩ := fc_un (show (24 : Nat) < 100 from by decide) hf
  have f4 : n_v vs 0 = n_v vs 2 := f4
  obtain ⟨f5, hf⟩ := fc_un (show (20 : Nat) < 100 from by decide) hf
  have f5 : ((w_fi ws (n_v vs 2) 158 + 1) ≤ w_fi ws (n_v vs 2) 157) ∧ ((w_fi ws (n_v vs 2) 157 ≤ 2010) ∧ ((w_ei ws (w_ar ws (n_v vs 2) 160) ((w_fi ws (n_v vs 2) 157 - 1)) = 0) ∨ (w_ei ws (w_ar ws (n_v vs 2) 160) ((w_fi ws (n_v vs 2) 157 - 1)) = 4))) := f5
  obtain ⟨f6, hf⟩ := fc_un (show (20 : Nat) < 100 from by decide) hf
  have f6 : 1 * v_iv (n_v vs 10) + ((-1) * w_fi ws (n_v vs 2) 158 + 0) ≤ 0 := f6
  obtain ⟨f7, hf⟩ := fc_un (show (20 : Nat) < 100 from by decide) hf
  have f7 : 1 * w_fi ws (n_v vs 2) 159 + 0 ≤ 0 := f7
  obtain ⟨f8, hf⟩ := fc_un (show (20 : Nat) < 100 from by decide) hf
  have f8 : (-1) * w_fi ws (n_v vs 2) 159 + 0 ≤ 0 := f8
  obtain ⟨ta1, w1, le1, ⟨_, s1⟩, hf⟩ := fc_us (show ¬ (102 : Nat) < 100 from by decide) hf
  obtain ⟨f10, hf⟩ := fc_un (show (23 : Nat) < 100 from by decide) hf
  have f10 : 1 * v_iv (n_v vs 1) + ((-1) * v_iv (n_v vs 10) + 0) ≤ 0 := f10
  obtain ⟨f11, hf⟩ := fc_un (show (23 : Nat) < 100 from by decide) hf
  have f11 : (-1) * v_iv (n_v vs 5) + ((-1) * v_iv (n_v vs 10) + 0) ≤ (-2011) := f11
  obtain ⟨ta2, w2, le2, ⟨_, s2⟩, hf⟩ := fc_us (show ¬ (101 : Nat) < 100 from by decide) hf
  have s2 : (∀ b j, w_el w1 b j = w_el w2 b j) ∧ ∀ b j, w_fd w1 b j = if b = v_ad (n_v vs 2) ∧ j = 158 then n_v vs 9 else w_fd w2 b j := s2
  obtain ⟨f13, hf⟩ := fc_un (show (1 : Nat) < 100 from by decide) hf
  have f13 : v_iv (n_v vs 9) = v_iv (n_v vs 4) + v_iv (n_v vs 8) := f13
  have q2 : n_v vs 2 = n_v vs 0 := f4.symm
  rw [q2] at f0
  rw [q2] at f3
  rw [q2] at f5
  rw [q2] at f6
  rw [q2] at f7
  rw [q2] at f8
  rw [q2] at s2
  have cr_0_160 : ta (w_ar ws (n_v vs 0) 160) = some 259 := tv_rg (th_fd hD hth r0 (g := GG_150) rfl (k := 160) (t := (2, 0, 0, [259])) rfl rfl)
  have hK_0_160 : ∀ j : Int, 0 ≤ j → j < 2010 → 0 ≤ w_ei ws (w_ar ws (n_v vs 0) 160) j ∧ w_ei ws (w_ar ws (n_v vs 0) 160) j ≤ 4 := fun j h0 h1 => th_el hD hth cr_0_160 (kd := 0) (n := 2010) (m := 2010) (lo := 0) (hi := 4) (rs := []) (L := []) rfl (by decide) (j := j.toNat) (by omega)
  have kz_0_157 : 0 ≤ w_fi ws (n_v vs 0) 157 ∧ w_fi ws (n_v vs 0) 157 ≤ 2010 := tv_rng (th_fd hD hth r0 (g := GG_150) rfl (k := 157) (t := (0, 0, 2010, [])) rfl rfl)
  have kz_0_158 : 0 ≤ w_fi ws (n_v vs 0) 158 ∧ w_fi ws (n_v vs 0) 158 ≤ 2009 := tv_rng (th_fd hD hth r0 (g := GG_150) rfl (k := 158) (t := (0, 0, 2009, [])) rfl rfl)
  have kz_0_159 : 0 ≤ w_fi ws (n_v vs 0) 159 ∧ w_fi ws (n_v vs 0) 159 ≤ 13 := tv_rng (th_fd hD hth r0 (g := GG_150) rfl (k := 159) (t := (0, 0, 13, [])) rfl rfl)
  have kz_0_164 : 0 ≤ w_fi ws (n_v vs 0) 164 ∧ w_fi ws (n_v vs 0) 164 ≤ 1 := tv_rng (th_fd hD hth r0 (g := GG_150) rfl (k := 164) (t := (0, 0, 1, [])) rfl rfl)
  have kz_0_165 : (-1) ≤ w_fi ws (n_v vs 0) 165 ∧ w_fi ws (n_v vs 0) 165 ≤ 47 := tv_rng (th_fd hD hth r0 (g := GG_150) rfl (k := 165) (t := (0, -1, 47, [])) rfl rfl)
  obtain ⟨x, ex, hx⟩ := iv_ex (ta := ta) (lo := 0) (hi := 2010) (z := 0 + (1 * v_iv (n_v vs 5) + 0)) (by omega) (by omega) (by omega) (by omega)
  have ex2 : v_iv (Value.int x) = 0 + (1 * v_iv (n_v vs 5) + 0) := ex
  have ex3 : 0 ≤ v_iv (Value.int x) ∧ v_iv (Value.int x) ≤ 2010 := tv_rng hx
  have e_0 : n_v (vs ++ [Value.int x]) 0 = n_v vs 0 := n_v_old (by rw [hl]; decide)
  have e_1 : n_v (vs ++ [Value.int x]) 1 = n_v vs 1 := n_v_old (by rw [hl]; decide)
  have e_2 : n_v (vs ++ [Value.int x]) 2 = n_v vs 2 := n_v_old (by rw [hl]; decide)
  have e_13 : n_v (vs ++ [Value.int x]) 13 = Value.int x := n_v_new hl
  have nf0 : fc_1 (20, [2], [50, 2, 1, 158, 157, 160, 2, 12, 0, 7, 4, 3, 2, 0, 158, 0, 1, 2, 0, 157, 2, 7, 0, 3, 2, 0, 157, 0, 2010, 3, 14, 1, 10, 3, 0, 160, 5, 3, 2, 0, 157, 0, 1, 0, 0, 1, 10, 3, 0, 160, 5, 3, 2, 0, 157, 0, 1, 0, 4]) ws (vs ++ [Value.int x]) := by
    refine ⟨fun n hn => ?_, ?_⟩
    · have hn : n ∈ [2] := hn
      rw [List.length_append, hl]
      simp only [List.mem_cons, List.not_mem_nil, or_false] at hn
      show n < 13 + 1; omega
    · show ((w_fi ws (n_v (vs ++ [Value.int x]) 2) 158 + 1) ≤ w_fi ws (n_v (vs ++ [Value.int x]) 2) 157) ∧ ((w_fi ws (n_v (vs ++ [Value.int x]) 2) 157 ≤ 2010) ∧ ((w_ei ws (w_ar ws (n_v (vs ++ [Value.int x]) 2) 160) ((w_fi ws (n_v (vs ++ [Value.int x]) 2) 157 - 1)) = 0) ∨ (w_ei ws (w_ar ws (n_v (vs ++ [Value.int x]) 2) 160) ((w_fi ws (n_v (vs ++ [Value.int x]) 2) 157 - 1)) = 4)))
      rw [e_2]
      rw [q2]
      first | omega | grind
  have nf1 : fc_1 (20, [1, 2], [30, 0, 1, 0, 0, -1, 1, 158]) ws (vs ++ [Value.int x]) := by
    refine ⟨fun n hn => ?_, ?_⟩
    · have hn : n ∈ [1, 2] := hn
      rw [List.length_append, hl]
      simp only [List.mem_cons, List.not_mem_nil, or_false] at hn
      show n < 13 + 1; omega
    · show 1 * v_iv (n_v (vs ++ [Value.int x]) 1) + ((-1) * w_fi ws (n_v (vs ++ [Value.int x]) 2) 158 + 0) ≤ 0
      rw [e_1]
      rw [e_2]
      rw [q2]
      omega
  have nf2 : fc_1 (20, [2], [50, 2, 0, 164, 165, 4, 7, 1, 3, 2, 0, 164, 0, 0, 0, 3, 2, 0, 165, 0, 23]) ws (vs ++ [Value.int x]) := by
    refine ⟨fun n hn => ?_, ?_⟩
    · have hn : n ∈ [2] := hn
      rw [List.length_append, hl]
      simp only [List.mem_cons, List.not_mem_nil, or_false] at hn
      show n < 13 + 1; omega
    · show (w_fi ws (n_v (vs ++ [Value.int x]) 2) 164 = 0) → (w_fi ws (n_v (vs ++ [Value.int x]) 2) 165 ≤ 23)
      rw [e_2]
      rw [q2]
      first | omega | grind
  have nf3 : fc_1 (20, [2], [30, 0, 1, 1, 159]) ws (vs ++ [Value.int x]) := by
    refine ⟨fun n hn => ?_, ?_⟩
    · have hn : n ∈ [2] := hn
      rw [List.length_append, hl]
      simp only [List.mem_cons, List.not_mem_nil, or_false] at hn
      show n < 13 + 1; omega
    · show 1 * w_fi ws (n_v (vs ++ [Value.int x]) 2) 159 + 0 ≤ 0
      rw [e_2]
      rw [q2]
      omega
  have nf4 : fc_1 (20, [2], [30, 0, -1, 1, 159]) ws (vs ++ [Value.int x]) := by
    refine ⟨fun n hn => ?_, ?_⟩
    · have hn : n ∈ [2] := hn
      rw [List.length_append, hl]
      simp only [List.mem_cons, List.not_mem_nil, or_false] at hn
      show n < 13 + 1; omega
    · show (-1) * w_fi ws (n_v (vs ++ [Value.int x]) 2) 159 + 0 ≤ 0
      rw [e_2]
      rw [q2]
      omega
  have nf5 : fc_1 (20, [13, 2], [30, -2011, -1, 0, 0, -1, 1, 158]) ws (vs ++ [Value.int x]) := by
    refine ⟨fun n hn => ?_, ?_⟩
    · have hn : n ∈ [13, 2] := hn
      rw [List.length_append, hl]
      simp only [List.mem_cons, List.not_mem_nil, or_false] at hn
      show n < 13 + 1; omega
    · show (-1) * v_iv (n_v (vs ++ [Value.int x]) 13) + ((-1) * w_fi ws (n_v (vs ++ [Value.int x]) 2) 158 + 0) ≤ (-2011)
      rw [e_2]
      rw [e_13]
      rw [q2]
      omega
  have nf6 : fc_1 (24, [0, 2], []) ws (vs ++ [Value.int x]) := by
    refine ⟨fun n hn => ?_, ?_⟩
    · have hn : n ∈ [0, 2] := hn
      rw [List.length_append, hl]
      simp only [List.mem_cons, List.not_mem_nil, or_false] at hn
      show n < 13 + 1; omega
    · show n_v (vs ++ [Value.int x]) 0 = n_v (vs ++ [Value.int x]) 2
      first | rfl | simp only [e_0, e_2, q2]
  obtain ⟨x0, e0, _, _⟩ := tv_int t5 rfl
  have e1 : v_iv (n_v vs 5) = x0.toInt := by rw [e0]; rfl
  have ho : sy_ofs (vs ++ [Value.int x]) (13, 5, 0, 0) := by
    refine ⟨x, x0, by rw [List.getElem?_append_right (by rw [hl]; decide), hl]; rfl, ?_, ?_, ?_⟩
    · rw [List.getElem?_append_left (by rw [hl]; decide)]; exact n_v_some (by rw [hl]; decide) e0
    · show x0.toInt + 0 ≤ x.toInt; omega
    · show x.toInt ≤ x0.toInt + 0; omega
  exact ⟨(fun _ h => (by cases h)), [Value.int x], ag_one hx, List.forall_mem_cons.mpr ⟨⟨show (20 : Nat) < 100 from by decide, nf0⟩, List.forall_mem_cons.mpr ⟨⟨show (20 : Nat) < 100 from by decide, nf1⟩, List.forall_mem_cons.mpr ⟨⟨show (20 : Nat) < 100 from by decide, nf2⟩, List.forall_mem_cons.mpr ⟨⟨show (20 : Nat) < 100 from by decide, nf3⟩, List.forall_mem_cons.mpr ⟨⟨show (20 : Nat) < 100 from by decide, nf4⟩, List.forall_mem_cons.mpr ⟨⟨show (20 : Nat) < 100 from by decide, nf5⟩, List.forall_mem_cons.mpr ⟨⟨show (24 : Nat) < 100 from by decide, nf6⟩, (fun _ h => (by cases h))⟩⟩⟩⟩⟩⟩⟩, List.forall_mem_cons.mpr ⟨ho, (fun _ h => (by cases h))⟩⟩
def o_Mo_test_at_f0_6 : or_T := (5, 7, [(0, (2, 0, 0, [150])), (1, (0, 0, 2009, [])), (2, (2, 0, 0, [150])), (6, (0, 0, 2010, []))], [(20, [2], [50, 2, 1, 158, 157, 160, 2, 12, 0, 7, 4, 3, 2, 0, 158, 0, 1, 2, 0, 157, 2, 7, 0, 3, 2, 0, 157, 0, 2010, 3, 14, 1, 10, 3, 0, 160, 5, 3, 2, 0, 157, 0, 1, 0, 0, 1, 10, 3, 0, 160, 5, 3, 2, 0, 157, 0, 1, 0, 4]), (20, [1, 2], [30, 0, 1, 0, 0, -1, 1, 158]), (20, [2], [50, 2, 0, 164, 165, 4, 7, 1, 3, 2, 0, 164, 0, 0, 0, 3, 2, 0, 165, 0, 23]), (20, [2], [30, 0, 1, 1, 159]), (20, [2], [30, 0, -1, 1, 159]), (20, [6, 2], [30, -2011, -1, 0, 0, -1, 1, 158]), (24, [0, 2], [])], [], [(0, 0, 2010, [])], [(20, [2], [50, 2, 1, 158, 157, 160, 2, 12, 0, 7, 4, 3, 2, 0, 158, 0, 1, 2, 0, 157, 2, 7, 0, 3, 2, 0, 157, 0, 2010, 3, 14, 1, 10, 3, 0, 160, 5, 3, 2, 0, 157, 0, 1, 0, 0, 1, 10, 3, 0, 160, 5, 3, 2, 0, 157, 0, 1, 0, 4]), (20, [1, 2], [30, 0, 1, 0, 0, -1, 1, 158]), (20, [2], [50, 2, 0, 164, 165, 4, 7, 1, 3, 2, 0, 164, 0, 0, 0, 3, 2, 0, 165, 0, 23]), (20, [2], [30, 0, 1, 1, 159]), (20, [2], [30, 0, -1, 1, 159]), (24, [0, 2], []), (20, [7, 2], [30, 2010, 1, 0, 0, 1, 1, 158]), (20, [7, 2], [30, -2010, -1, 0, 0, -1, 1, 158])], [(7, 6, -1000000000000, -1)], [])
theorem oo_Mo_test_at_f0_6 {kA : Nat → ClassId} : or_ok kA GG o_Mo_test_at_f0_6 := by
  intro A ta ws vs hD hth hl hk hds hf
  have hl : vs.length = 7 := hl
  have hk : ∀ q ∈ ([(0, (2, 0, 0, [150])), (1, (0, 0, 2009, [])), (2, (2, 0, 0, [150])), (6, (0, 0, 2010, []))] : List (Nat × tv_T)), tv_ok ta q.2 (n_v vs q.1) := hk
  obtain ⟨t0, hk⟩ := List.forall_mem_cons.mp hk
  have t0 : tv_ok ta (2, 0, 0, [150]) (n_v vs 0) := t0
  have r0 : ta (v_ad (n_v vs 0)) = some 150 := tv_rg t0
  obtain ⟨t1, hk⟩ := List.forall_mem_cons.mp hk
  have t1 : tv_ok ta (0, 0, 2009, []) (n_v vs 1) := t1
  have k1 : 0 ≤ v_iv (n_v vs 1) ∧ v_iv (n_v vs 1) ≤ 2009 := tv_rng t1
  obtain ⟨t2, hk⟩ := List.forall_mem_cons.mp hk
  have t2 : tv_ok ta (2, 0, 0, [150]) (n_v vs 2) := t2
  have r2 : ta (v_ad (n_v vs 2)) = some 150 := tv_rg t2
  obtain ⟨t6, hk⟩ := List.forall_mem_cons.mp hk
  have t6 : tv_ok ta (0, 0, 2010, []) (n_v vs 6) := t6
  have k6 : 0 ≤ v_iv (n_v vs 6) ∧ v_iv (n_v vs 6) ≤ 2010 := tv_rng t6
  have hf : fc_ok [(20, [2], [50, 2, 1, 158, 157, 160, 2, 12, 0, 7, 4, 3, 2, 0, 158, 0, 1, 2, 0, 157, 2, 7, 0, 3, 2, 0, 157, 0, 2010, 3, 14, 1, 10, 3, 0, 160, 5, 3, 2, 0, 157, 0, 1, 0, 0, 1, 10, 3, 0, 160, 5, 3, 2, 0, 157, 0, 1, 0, 4]), (20, [1, 2], [30, 0, 1, 0, 0, -1, 1, 158]), (20, [2], [50, 2, 0, 164, 165, 4, 7, 1, 3, 2, 0, 164, 0, 0, 0, 3, 2, 0, 165, 0, 23]), (20, [2], [30, 0, 1, 1, 159]), (20, [2], [30, 0, -1, 1, 159]), (20, [6, 2], [30, -2011, -1, 0, 0, -1, 1, 158]), (24, [0, 2], [])] ta ws vs := hf
  obtain ⟨f0, hf⟩ := fc_un (show (20 : Nat) < 100 from by decide) hf
  have f0 : ((w_fi ws (n_v vs 2) 158 + 1) ≤ w_fi ws (n_v vs 2) 157) ∧ ((w_fi ws (n_v vs 2) 157 ≤ 2010) ∧ ((w_ei ws (w_ar ws (n_v vs 2) 160) ((w_fi ws (n_v vs 2) 157 - 1)) = 0) ∨ (w_ei ws (w_ar ws (n_v vs 2) 160) ((w_fi ws (n_v vs 2) 157 - 1)) = 4))) := f0
  obtain ⟨f1, hf⟩ := fc_un (show (20 : Nat) < 100 from by decide) hf
  have f1 : 1 * v_iv (n_v vs 1) + ((-1) * w_fi ws (n_v vs 2) 158 + 0) ≤ 0 := f1
  obtain ⟨f2, hf⟩ := fc_un (show (20 : Nat) < 100 from by decide) hf
  have f2 : (w_fi ws (n_v vs 2) 164 = 0) → (w_fi ws (n_v vs 2) 165 ≤ 23) := f2
  obtain ⟨f3, hf⟩ := fc_un (show (20 : Nat) < 100 from by decide) hf
  have f3 : 1 * w_fi ws (n_v vs 2) 159 + 0 ≤ 0 := f3
  obtain ⟨f4, hf⟩ := fc_un (show (20 : Nat) < 100 from by decide) hf
  have f4 : (-1) * w_fi ws (n_v vs 2) 159 + 0 ≤ 0 := f4
  obtain ⟨f5, hf⟩ := fc_un (show (20 : Nat) < 100 from by decide) hf
  have f5 : (-1) * v_iv (n_v vs 6) + ((-1) * w_fi ws (n_v vs 2) 158 + 0) ≤ (-2011) := f5
  obtain ⟨f6, hf⟩ := fc_un (show (24 : Nat) < 100 from by decide) hf
  have f6 : n_v vs 0 = n_v vs 2 := f6
  have q2 : n_v vs 2 = n_v vs 0 := f6.symm
  rw [q2] at f0
  rw [q2] at f1
  rw [q2] at f2
  rw [q2] at f3
  rw [q2] at f4
  rw [q2] at f5
  have cr_0_160 : ta (w_ar ws (n_v vs 0) 160) = some 259 := tv_rg (th_fd hD hth r0 (g := GG_150) rfl (k := 160) (t := (2, 0, 0, [259])) rfl rfl)
  have hK_0_160 : ∀ j : Int, 0 ≤ j → j < 2010 → 0 ≤ w_ei ws (w_ar ws (n_v vs 0) 160) j ∧ w_ei ws (w_ar ws (n_v vs 0) 160) j ≤ 4 := fun j h0 h1 => th_el hD hth cr_0_160 (kd := 0) (n := 2010) (m := 2010) (lo := 0) (hi := 4) (rs := []) (L := []) rfl (by decide) (j := j.toNat) (by omega)
  have kz_0_157 : 0 ≤ w_fi ws (n_v vs 0) 157 ∧ w_fi ws (n_v vs 0) 157 ≤ 2010 := tv_rng (th_fd hD hth r0 (g := GG_150) rfl (k := 157) (t := (0, 0, 2010, [])) rfl rfl)
  have kz_0_158 : 0 ≤ w_fi ws (n_v vs 0) 158 ∧ w_fi ws (n_v vs 0) 158 ≤ 2009 := tv_rng (th_fd hD hth r0 (g := GG_150) rfl (k := 158) (t := (0, 0, 2009, [])) rfl rfl)
  have kz_0_159 : 0 ≤ w_fi ws (n_v vs 0) 159 ∧ w_fi ws (n_v vs 0) 159 ≤ 13 := tv_rng (th_fd hD hth r0 (g := GG_150) rfl (k := 159) (t := (0, 0, 13, [])) rfl rfl)
  have kz_0_164 : 0 ≤ w_fi ws (n_v vs 0) 164 ∧ w_fi ws (n_v vs 0) 164 ≤ 1 := tv_rng (th_fd hD hth r0 (g := GG_150) rfl (k := 164) (t := (0, 0, 1, [])) rfl rfl)
  have kz_0_165 : (-1) ≤ w_fi ws (n_v vs 0) 165 ∧ w_fi ws (n_v vs 0) 165 ≤ 47 := tv_rng (th_fd hD hth r0 (g := GG_150) rfl (k := 165) (t := (0, -1, 47, [])) rfl rfl)
  have kb_0_158 : 0 ≤ w_fi ws (n_v vs 0) 158 ∧ w_fi ws (n_v vs 0) 158 ≤ 2009 := tv_rng (th_fd hD hth r0 (g := GG_150) rfl (k := 158) (t := (0, 0, 2009, [])) rfl rfl)
  obtain ⟨x, ex, hx⟩ := iv_ex (ta := ta) (lo := 0) (hi := 2010) (z := 2010 + ((-1) * w_fi ws (n_v vs 0) 158 + 0)) (by omega) (by omega) (by omega) (by omega)
  have ex2 : v_iv (Value.int x) = 2010 + ((-1) * w_fi ws (n_v vs 0) 158 + 0) := ex
  have ex3 : 0 ≤ v_iv (Value.int x) ∧ v_iv (Value.int x) ≤ 2010 := tv_rng hx
  have e_0 : n_v (vs ++ [Value.int x]) 0 = n_v vs 0 := n_v_old (by rw [hl]; decide)
  have e_1 : n_v (vs ++ [Value.int x]) 1 = n_v vs 1 := n_v_old (by rw [hl]; decide)
  have e_2 : n_v (vs ++ [Value.int x]) 2 = n_v vs 2 := n_v_old (by rw [hl]; decide)
  have e_7 : n_v (vs ++ [Value.int x]) 7 = Value.int x := n_v_new hl
  have nf0 : fc_1 (20, [2], [50, 2, 1, 158, 157, 160, 2, 12, 0, 7, 4, 3, 2, 0, 158, 0, 1, 2, 0, 157, 2, 7, 0, 3, 2, 0, 157, 0, 2010, 3, 14, 1, 10, 3, 0, 160, 5, 3, 2, 0, 157, 0, 1, 0, 0, 1, 10, 3, 0, 160, 5, 3, 2, 0, 157, 0, 1, 0, 4]) ws (vs ++ [Value.int x]) := by
    refine ⟨fun n hn => ?_, ?_⟩
    · have hn : n ∈ [2] := hn
      rw [List.length_append, hl]
      simp only [List.mem_cons, List.not_mem_nil, or_false] at hn
      show n < 7 + 1; omega
    · show ((w_fi ws (n_v (vs ++ [Value.int x]) 2) 158 + 1) ≤ w_fi ws (n_v (vs ++ [Value.int x]) 2) 157) ∧ ((w_fi ws (n_v (vs ++ [Value.int x]) 2) 157 ≤ 2010) ∧ ((w_ei ws (w_ar ws (n_v (vs ++ [Value.int x]) 2) 160) ((w_fi ws (n_v (vs ++ [Value.int x]) 2) 157 - 1)) = 0) ∨ (w_ei ws (w_ar ws (n_v (vs ++ [Value.int x]) 2) 160) ((w_fi ws (n_v (vs ++ [Value.int x]) 2) 157 - 1)) = 4)))
      rw [e_2]
      rw [q2]
      first | omega | grind
  have nf1 : fc_1 (20, [1, 2], [30, 0, 1, 0, 0, -1, 1, 158]) ws (vs ++ [Value.int x]) := by
    refine ⟨fun n hn => ?_, ?_⟩
    · have hn : n ∈ [1, 2] := hn
      rw [List.length_append, hl]
      simp only [List.mem_cons, List.not_mem_nil, or_false] at hn
      show n < 7 + 1; omega
    · show 1 * v_iv (n_v (vs ++ [Value.int x]) 1) + ((-1) * w_fi ws (n_v (vs ++ [Value.int x]) 2) 158 + 0) ≤ 0
      rw [e_1]
      rw [e_2]
      rw [q2]
      omega
  have nf2 : fc_1 (20, [2], [50, 2, 0, 164, 165, 4, 7, 1, 3, 2, 0, 164, 0, 0, 0, 3, 2, 0, 165, 0, 23]) ws (vs ++ [Value.int x]) := by
    refine ⟨fun n hn => ?_, ?_⟩
    · have hn : n ∈ [2] := hn
      rw [List.length_append, hl]
      simp only [List.mem_cons, List.not_mem_nil, or_false] at hn
      show n < 7 + 1; omega
    · show (w_fi ws (n_v (vs ++ [Value.int x]) 2) 164 = 0) → (w_fi ws (n_v (vs ++ [Value.int x]) 2) 165 ≤ 23)
      rw [e_2]
      rw [q2]
      first | omega | grind
  have nf3 : fc_1 (20, [2], [30, 0, 1, 1, 159]) ws (vs ++ [Value.int x]) := by
    refine ⟨fun n hn => ?_, ?_⟩
    · have hn : n ∈ [2] := hn
      rw [List.length_append, hl]
      simp only [List.mem_cons, List.not_mem_nil, or_false] at hn
      show n < 7 + 1; omega
    · show 1 * w_fi ws (n_v (vs ++ [Value.int x]) 2) 159 + 0 ≤ 0
      rw [e_2]
      rw [q2]
      omega
  have nf4 : fc_1 (20, [2], [30, 0, -1, 1, 159]) ws (vs ++ [Value.int x]) := by
    refine ⟨fun n hn => ?_, ?_⟩
    · have hn : n ∈ [2] := hn
      rw [List.length_append, hl]
      simp only [List.mem_cons, List.not_mem_nil, or_false] at hn
      show n < 7 + 1; omega
    · show (-1) * w_fi ws (n_v (vs ++ [Value.int x]) 2) 159 + 0 ≤ 0
      rw [e_2]
      rw [q2]
      omega
  have nf5 : fc_1 (24, [0, 2], []) ws (vs ++ [Value.int x]) := by
    refine ⟨fun n hn => ?_, ?_⟩
    · have hn : n ∈ [0, 2] := hn
      rw [List.length_append, hl]
      simp only [List.mem_cons, List.not_mem_nil, or_false] at hn
      show n < 7 + 1; omega
    · show n_v (vs ++ [Value.int x]) 0 = n_v (vs ++ [Value.int x]) 2
      first | rfl | simp only [e_0, e_2, q2]
  have nf6 : fc_1 (20, [7, 2], [30, 2010, 1, 0, 0, 1, 1, 158]) ws (vs ++ [Value.int x]) := by
    refine ⟨fun n hn => ?_, ?_⟩
    · have hn : n ∈ [7, 2] := hn
      rw [List.length_append, hl]
      simp only [List.mem_cons, List.not_mem_nil, or_false] at hn
      show n < 7 + 1; omega
    · show 1 * v_iv (n_v (vs ++ [Value.int x]) 7) + (1 * w_fi ws (n_v (vs ++ [Value.int x]) 2) 158 + 0) ≤ 2010
      rw [e_2]
      rw [e_7]
      rw [q2]
      omega
  have nf7 : fc_1 (20, [7, 2], [30, -2010, -1, 0, 0, -1, 1, 158]) ws (vs ++ [Value.int x]) := by
    refine ⟨fun n hn => ?_, ?_⟩
    · have hn : n ∈ [7, 2] := hn
      rw [List.length_append, hl]
      simp only [List.mem_cons, List.not_mem_nil, or_false] at hn
      show n < 7 + 1; omega
    · show (-1) * v_iv (n_v (vs ++ [Value.int x]) 7) + ((-1) * w_fi ws (n_v (vs ++ [Value.int x]) 2) 158 + 0) ≤ (-2010)
      rw [e_2]
      rw [e_7]
      rw [q2]
      omega
  obtain ⟨x0, e0, _, _⟩ := tv_int t6 rfl
  have e1 : v_iv (n_v vs 6) = x0.toInt := by rw [e0]; rfl
  have ho : sy_ofs (vs ++ [Value.int x]) (7, 6, -1000000000000, -1) := by
    refine ⟨x, x0, by rw [List.getElem?_append_right (by rw [hl]; decide), hl]; rfl, ?_, ?_, ?_⟩
    · rw [List.getElem?_append_left (by rw [hl]; decide)]; exact n_v_some (by rw [hl]; decide) e0
    · show x0.toInt + (-1000000000000) ≤ x.toInt; omega
    · show x.toInt ≤ x0.toInt + (-1); omega
  exact ⟨(fun _ h => (by cases h)), [Value.int x], ag_one hx, List.forall_mem_cons.mpr ⟨⟨show (20 : Nat) < 100 from by decide, nf0⟩, List.forall_mem_cons.mpr ⟨⟨show (20 : Nat) < 100 from by decide, nf1⟩, List.forall_mem_cons.mpr ⟨⟨show (20 : Nat) < 100 from by decide, nf2⟩, List.forall_mem_cons.mpr ⟨⟨show (20 : Nat) < 100 from by decide, nf3⟩, List.forall_mem_cons.mpr ⟨⟨show (20 : Nat) < 100 from by decide, nf4⟩, List.forall_mem_cons.mpr ⟨⟨show (24 : Nat) < 100 from by decide, nf5⟩, List.forall_mem_cons.mpr ⟨⟨show (20 : Nat) < 100 from by decide, nf6⟩, List.forall_mem_cons.mpr ⟨⟨show (20 : Nat) < 100 from by decide, nf7⟩, (fun _ h => (by cases h))⟩⟩⟩⟩⟩⟩⟩⟩, List.forall_mem_cons.mpr ⟨ho, (fun _ h => (by cases h))⟩⟩
def n_Mo_test_at_f0_an : List an_T := [(5, [(0, (2, 0, 0, [150])), (1, (0, 0, 1, []))], [], (0, 0), [(0, 0, 99995), (2, 5, 0), (0, 0, 100000)], [(1, 3, -1000000000000, 2009), (1, 4, -1000000000000, 2009), (3, 1, -1000000000000, 1), (3, 4, -1000000000000, 1), (4, 1, -1000000000000, 2009), (4, 3, -1000000000000, 2009)], [((0, 158), (0, 0, 2009, []))], [(2, 0, 0, [150]), (0, 0, 2009, [])], 0, [(0, 0, 2010, [])], [(20, [2], [50, 2, 1, 158, 157, 160, 2, 12, 0, 7, 4, 3, 2, 0, 158, 0, 1, 2, 0, 157, 2, 7, 0, 3, 2, 0, 157, 0, 2010, 3, 14, 1, 10, 3, 0, 160, 5, 3, 2, 0, 157, 0, 1, 0, 0, 1, 10, 3, 0, 160, 5, 3, 2, 0, 157, 0, 1, 0, 4]), (20, [1, 2], [30, 0, 1, 0, 0, -1, 1, 158]), (20, [2], [50, 2, 0, 164, 165, 4, 7, 1, 3, 2, 0, 164, 0, 0, 0, 3, 2, 0, 165, 0, 23]), (20, [2], [30, 0, 1, 1, 159]), (20, [2], [30, 0, -1, 1, 159]), (24, [0, 2], []), (20, [5, 2], [30, 2010, 1, 0, 0, 1, 1, 158]), (20, [5, 2], [30, -2010, -1, 0, 0, -1, 1, 158])]), (43, [(0, (2, 0, 0, [150])), (1, (0, 0, 1, [])), (2, (0, 0, 1, []))], [(0, 0, 1, [])], (0, 0), [(0, 0, 99995), (2, 6, 0), (0, 0, 99957)], [(1, 3, -1000000000000, 2009), (1, 4, -1000000000000, 2009), (1, 5, -1000000000000, 2009), (3, 1, -1000000000000, 1), (3, 4, -1000000000000, 1), (3, 5, -1000000000000, 0), (4, 1, -1000000000000, 1), (4, 3, -1000000000000, 1), (4, 5, -1000000000000, 0), (5, 1, -1000000000000, 1), (5, 3, -1000000000000, 1), (5, 4, -1000000000000, 1)], [], [(2, 0, 0, [150]), (0, 0, 2009, [])], 0, [(0, 0, 2010, [])], [(20, [2], [50, 2, 1, 158, 157, 160, 2, 12, 0, 7, 4, 3, 2, 0, 158, 0, 1, 2, 0, 157, 2, 7, 0, 3, 2, 0, 157, 0, 2010, 3, 14, 1, 10, 3, 0, 160, 5, 3, 2, 0, 157, 0, 1, 0, 0, 1, 10, 3, 0, 160, 5, 3, 2, 0, 157, 0, 1, 0, 4]), (20, [1, 2], [30, 0, 1, 0, 0, -1, 1, 158]), (20, [2], [50, 2, 0, 164, 165, 4, 7, 1, 3, 2, 0, 164, 0, 0, 0, 3, 2, 0, 165, 0, 23]), (20, [2], [30, 0, 1, 1, 159]), (20, [2], [30, 0, -1, 1, 159]), (20, [6, 2], [30, -2011, -1, 0, 0, -1, 1, 158]), (24, [0, 2], [])])]
def t_Mo_test_at_f0_ct : ct_L := [(7, 1220, e_Mo_both_at_f0), (31, 1190, e_Mo_word_at_s5041), (82, 1220, e_Mo_both_at_f0), (1000001, 1223, en_ro [] (2, 0, 0, [5041]))]
set_option maxRecDepth 100000 in
theorem c_Mo_test_at_f0 {l : Launch} {D : va_G} {kA : Nat → ClassId} (h_Mo_both_at_f0 : ct_ok l D kA GG y_Mo_both_at_f0 z_Mo_both_at_f0 e_Mo_both_at_f0) (h_Mo_word_at_s5041 : ct_ok l D kA GG y_Mo_word_at_s5041 z_Mo_word_at_s5041 e_Mo_word_at_s5041) : ct_ok l D kA GG y_Mo_test_at_f0 z_Mo_test_at_f0 e_Mo_test_at_f0 := chk_all_ok (FT := [(1169, 13, 158)]) (PT := [(1169, 13, 158, .int)]) (CT := t_Mo_test_at_f0_ct) (KT := []) (NT := []) (AN := n_Mo_test_at_f0_an) (OT := [o_Mo_test_at_f0_0, o_Mo_test_at_f0_1, o_Mo_test_at_f0_2, (o_Mo_test_f_3 0), o_Mo_test_at_f0_4, o_Mo_test_at_f0_5, o_Mo_test_at_f0_6]) 3 200 (List.forall_mem_cons.mpr ⟨oo_Mo_test_at_f0_0, List.forall_mem_cons.mpr ⟨oo_Mo_test_at_f0_1, List.forall_mem_cons.mpr ⟨oo_Mo_test_at_f0_2, List.forall_mem_cons.mpr ⟨(oo_Mo_test_f_3 0 (by decide) (by decide)), List.forall_mem_cons.mpr ⟨oo_Mo_test_at_f0_4, List.forall_mem_cons.mpr ⟨oo_Mo_test_at_f0_5, List.forall_mem_cons.mpr ⟨oo_Mo_test_at_f0_6, List.forall_mem_nil _⟩⟩⟩⟩⟩⟩⟩) (by decide +kernel) ⟨List.forall_mem_cons.mpr ⟨gf_Mo_1169, List.forall_mem_nil _⟩, List.forall_mem_cons.mpr ⟨pf_Mo_1169, List.forall_mem_nil _⟩, List.forall_mem_cons.mpr ⟨cl_virtual (y := y_Mo_both_at_f0) (ci := 13) rfl rfl ⟨_, _, rfl⟩ (by decide +kernel) h_Mo_both_at_f0 wm_3819 wm_9 wm_3816 wm_3818 wv_23_8 ⟨by decide, by decide, by decide +kernel⟩ (by decide), List.forall_mem_cons.mpr ⟨cl_virtual (y := y_Mo_word_at_s5041) (ci := 13) rfl rfl ⟨_, _, rfl⟩ (by decide +kernel) h_Mo_word_at_s5041 wm_3809 wm_9 wm_3806 wm_3808 wv_23_6 ⟨by decide, by decide, by decide +kernel⟩ (by decide), List.forall_mem_cons.mpr ⟨cl_virtual (y := y_Mo_both_at_f0) (ci := 13) rfl rfl ⟨_, _, rfl⟩ (by decide +kernel) h_Mo_both_at_f0 wm_3819 wm_9 wm_3816 wm_3818 wv_23_8 ⟨by decide, by decide, by decide +kernel⟩ (by decide), List.forall_mem_cons.mpr ⟨cl_ldcw (own := "DrawingHouseModel") (idx := 1223) (i := 41) (tx := "or") (by decide +kernel) (by decide +kernel) (by decide +kernel), List.forall_mem_nil _⟩⟩⟩⟩, List.forall_mem_nil _, List.forall_mem_nil _, GG_pl⟩ (by decide +kernel)
def n_Mo_test_at_f1_an : List an_T := [(5, [(0, (2, 0, 0, [150])), (1, (0, 0, 1, []))], [], (0, 0), [(0, 0, 99995), (2, 5, 0), (0, 0, 100000)], [(1, 3, -1000000000000, 2009), (1, 4, -1000000000000, 2009), (3, 1, -1000000000000, 1), (3, 4, -1000000000000, 1), (4, 1, -1000000000000, 2009), (4, 3, -1000000000000, 2009)], [((0, 158), (0, 0, 2009, []))], [(2, 0, 0, [150]), (0, 0, 2009, [])], 0, [(0, 0, 2010, [])], [(20, [2], [50, 2, 1, 158, 157, 160, 2, 12, 0, 7, 4, 3, 2, 0, 158, 0, 1, 2, 0, 157, 2, 7, 0, 3, 2, 0, 157, 0, 2010, 3, 14, 1, 10, 3, 0, 160, 5, 3, 2, 0, 157, 0, 1, 0, 0, 1, 10, 3, 0, 160, 5, 3, 2, 0, 157, 0, 1, 0, 4]), (20, [1, 2], [30, 0, 1, 0, 0, -1, 1, 158]), (20, [2], [50, 2, 0, 164, 165, 4, 7, 1, 3, 2, 0, 164, 0, 0, 0, 3, 2, 0, 165, 0, 23]), (20, [2], [30, 1, 1, 1, 159]), (20, [2], [30, -1, -1, 1, 159]), (24, [0, 2], []), (20, [5, 2], [30, 2010, 1, 0, 0, 1, 1, 158]), (20, [5, 2], [30, -2010, -1, 0, 0, -1, 1, 158])]), (43, [(0, (2, 0, 0, [150])), (1, (0, 0, 1, [])), (2, (0, 0, 1, []))], [(0, 0, 1, [])], (0, 0), [(0, 0, 99995), (2, 6, 0), (0, 0, 99957)], [(1, 3, -1000000000000, 2009), (1, 4, -1000000000000, 2009), (1, 5, -1000000000000, 2009), (3, 1, -1000000000000, 1), (3, 4, -1000000000000, 1), (3, 5, -1000000000000, 0), (4, 1, -1000000000000, 1), (4, 3, -1000000000000, 1), (4, 5, -1000000000000, 0), (5, 1, -1000000000000, 1), (5, 3, -1000000000000, 1), (5, 4, -1000000000000, 1)], [], [(2, 0, 0, [150]), (0, 0, 2009, [])], 0, [(0, 0, 2010, [])], [(20, [2], [50, 2, 1, 158, 157, 160, 2, 12, 0, 7, 4, 3, 2, 0, 158, 0, 1, 2, 0, 157, 2, 7, 0, 3, 2, 0, 157, 0, 2010, 3, 14, 1, 10, 3, 0, 160, 5, 3, 2, 0, 157, 0, 1, 0, 0, 1, 10, 3, 0, 160, 5, 3, 2, 0, 157, 0, 1, 0, 4]), (20, [1, 2], [30, 0, 1, 0, 0, -1, 1, 158]), (20, [2], [50, 2, 0, 164, 165, 4, 7, 1, 3, 2, 0, 164, 0, 0, 0, 3, 2, 0, 165, 0, 23]), (20, [2], [30, 1, 1, 1, 159]), (20, [2], [30, -1, -1, 1, 159]), (20, [6, 2], [30, -2011, -1, 0, 0, -1, 1, 158]), (24, [0, 2], [])])]
def t_Mo_test_at_f1_ct : ct_L := [(7, 1220, e_Mo_both_at_f1), (31, 1190, e_Mo_word_at_s5041), (82, 1220, e_Mo_both_at_f1), (1000001, 1223, en_ro [] (2, 0, 0, [5041]))]
set_option maxRecDepth 100000 in
theorem c_Mo_test_at_f1 {l : Launch} {D : va_G} {kA : Nat → ClassId} (h_Mo_both_at_f1 : ct_ok l D kA GG y_Mo_both_at_f1 z_Mo_both_at_f1 e_Mo_both_at_f1) (h_Mo_word_at_s5041 : ct_ok l D kA GG y_Mo_word_at_s5041 z_Mo_word_at_s5041 e_Mo_word_at_s5041) : ct_ok l D kA GG y_Mo_test_at_f1 z_Mo_test_at_f1 e_Mo_test_at_f1 := chk_all_ok (FT := [(1169, 13, 158)]) (PT := [(1169, 13, 158, .int)]) (CT := t_Mo_test_at_f1_ct) (KT := []) (NT := []) (AN := n_Mo_test_at_f1_an) (OT := [(o_Mo_test_f_0 1), (o_Mo_test_f_1 1), (o_Mo_test_f_2 1), (o_Mo_test_f_3 1), (o_Mo_test_f_4 1), (o_Mo_test_f_5 1), (o_Mo_test_f_6 1)]) 3 200 (List.forall_mem_cons.mpr ⟨(oo_Mo_test_f_0 1 (by decide) (by decide)), List.forall_mem_cons.mpr ⟨(oo_Mo_test_f_1 1 (by decide) (by decide)), List.forall_mem_cons.mpr ⟨(oo_Mo_test_f_2 1 (by decide) (by decide)), List.forall_mem_cons.mpr ⟨(oo_Mo_test_f_3 1 (by decide) (by decide)), List.forall_mem_cons.mpr ⟨(oo_Mo_test_f_4 1 (by decide) (by decide)), List.forall_mem_cons.mpr ⟨(oo_Mo_test_f_5 1 (by decide) (by decide)), List.forall_mem_cons.mpr ⟨(oo_Mo_test_f_6 1 (by decide) (by decide)), List.forall_mem_nil _⟩⟩⟩⟩⟩⟩⟩) (by decide +kernel) ⟨List.forall_mem_cons.mpr ⟨gf_Mo_1169, List.forall_mem_nil _⟩, List.forall_mem_cons.mpr ⟨pf_Mo_1169, List.forall_mem_nil _⟩, List.forall_mem_cons.mpr ⟨cl_virtual (y := y_Mo_both_at_f1) (ci := 13) rfl rfl ⟨_, _, rfl⟩ (by decide +kernel) h_Mo_both_at_f1 wm_3819 wm_9 wm_3816 wm_3818 wv_23_8 ⟨by decide, by decide, by decide +kernel⟩ (by decide), List.forall_mem_cons.mpr ⟨cl_virtual (y := y_Mo_word_at_s5041) (ci := 13) rfl rfl ⟨_, _, rfl⟩ (by decide +kernel) h_Mo_word_at_s5041 wm_3809 wm_9 wm_3806 wm_3808 wv_23_6 ⟨by decide, by decide, by decide +kernel⟩ (by decide), List.forall_mem_cons.mpr ⟨cl_virtual (y := y_Mo_both_at_f1) (ci := 13) rfl rfl ⟨_, _, rfl⟩ (by decide +kernel) h_Mo_both_at_f1 wm_3819 wm_9 wm_3816 wm_3818 wv_23_8 ⟨by decide, by decide, by decide +kernel⟩ (by decide), List.forall_mem_cons.mpr ⟨cl_ldcw (own := "DrawingHouseModel") (idx := 1223) (i := 41) (tx := "or") (by decide +kernel) (by decide +kernel) (by decide +kernel), List.forall_mem_nil _⟩⟩⟩⟩, List.forall_mem_nil _, List.forall_mem_nil _, GG_pl⟩ (by decide +kernel)
def n_Mo_test_at_f10_an : List an_T := [(5, [(0, (2, 0, 0, [150])), (1, (0, 0, 1, []))], [], (0, 0), [(0, 0, 99995), (2, 5, 0), (0, 0, 100000)], [(1, 3, -1000000000000, 2009), (1, 4, -1000000000000, 2009), (3, 1, -1000000000000, 1), (3, 4, -1000000000000, 1), (4, 1, -1000000000000, 2009), (4, 3, -1000000000000, 2009)], [((0, 158), (0, 0, 2009, []))], [(2, 0, 0, [150]), (0, 0, 2009, [])], 0, [(0, 0, 2010, [])], [(20, [2], [50, 2, 1, 158, 157, 160, 2, 12, 0, 7, 4, 3, 2, 0, 158, 0, 1, 2, 0, 157, 2, 7, 0, 3, 2, 0, 157, 0, 2010, 3, 14, 1, 10, 3, 0, 160, 5, 3, 2, 0, 157, 0, 1, 0, 0, 1, 10, 3, 0, 160, 5, 3, 2, 0, 157, 0, 1, 0, 4]), (20, [1, 2], [30, 0, 1, 0, 0, -1, 1, 158]), (20, [2], [50, 2, 0, 164, 165, 4, 7, 1, 3, 2, 0, 164, 0, 0, 0, 3, 2, 0, 165, 0, 23]), (20, [2], [30, 10, 1, 1, 159]), (20, [2], [30, -10, -1, 1, 159]), (24, [0, 2], []), (20, [5, 2], [30, 2010, 1, 0, 0, 1, 1, 158]), (20, [5, 2], [30, -2010, -1, 0, 0, -1, 1, 158])]), (43, [(0, (2, 0, 0, [150])), (1, (0, 0, 1, [])), (2, (0, 0, 1, []))], [(0, 0, 1, [])], (0, 0), [(0, 0, 99995), (2, 6, 0), (0, 0, 99957)], [(1, 3, -1000000000000, 2009), (1, 4, -1000000000000, 2009), (1, 5, -1000000000000, 2009), (3, 1, -1000000000000, 1), (3, 4, -1000000000000, 1), (3, 5, -1000000000000, 0), (4, 1, -1000000000000, 1), (4, 3, -1000000000000, 1), (4, 5, -1000000000000, 0), (5, 1, -1000000000000, 1), (5, 3, -1000000000000, 1), (5, 4, -1000000000000, 1)], [], [(2, 0, 0, [150]), (0, 0, 2009, [])], 0, [(0, 0, 2010, [])], [(20, [2], [50, 2, 1, 158, 157, 160, 2, 12, 0, 7, 4, 3, 2, 0, 158, 0, 1, 2, 0, 157, 2, 7, 0, 3, 2, 0, 157, 0, 2010, 3, 14, 1, 10, 3, 0, 160, 5, 3, 2, 0, 157, 0, 1, 0, 0, 1, 10, 3, 0, 160, 5, 3, 2, 0, 157, 0, 1, 0, 4]), (20, [1, 2], [30, 0, 1, 0, 0, -1, 1, 158]), (20, [2], [50, 2, 0, 164, 165, 4, 7, 1, 3, 2, 0, 164, 0, 0, 0, 3, 2, 0, 165, 0, 23]), (20, [2], [30, 10, 1, 1, 159]), (20, [2], [30, -10, -1, 1, 159]), (20, [6, 2], [30, -2011, -1, 0, 0, -1, 1, 158]), (24, [0, 2], [])])]
def t_Mo_test_at_f10_ct : ct_L := [(7, 1220, e_Mo_both_at_f10), (31, 1190, e_Mo_word_at_s5041), (82, 1220, e_Mo_both_at_f10), (1000001, 1223, en_ro [] (2, 0, 0, [5041]))]
set_option maxRecDepth 100000 in
theorem c_Mo_test_at_f10 {l : Launch} {D : va_G} {kA : Nat → ClassId} (h_Mo_both_at_f10 : ct_ok l D kA GG y_Mo_both_at_f10 z_Mo_both_at_f10 e_Mo_both_at_f10) (h_Mo_word_at_s5041 : ct_ok l D kA GG y_Mo_word_at_s5041 z_Mo_word_at_s5041 e_Mo_word_at_s5041) : ct_ok l D kA GG y_Mo_test_at_f10 z_Mo_test_at_f10 e_Mo_test_at_f10 := chk_all_ok (FT := [(1169, 13, 158)]) (PT := [(1169, 13, 158, .int)]) (CT := t_Mo_test_at_f10_ct) (KT := []) (NT := []) (AN := n_Mo_test_at_f10_an) (OT := [(o_Mo_test_f_0 10), (o_Mo_test_f_1 10), (o_Mo_test_f_2 10), (o_Mo_test_f_3 10), (o_Mo_test_f_4 10), (o_Mo_test_f_5 10), (o_Mo_test_f_6 10)]) 3 200 (List.forall_mem_cons.mpr ⟨(oo_Mo_test_f_0 10 (by decide) (by decide)), List.forall_mem_cons.mpr ⟨(oo_Mo_test_f_1 10 (by decide) (by decide)), List.forall_mem_cons.mpr ⟨(oo_Mo_test_f_2 10 (by decide) (by decide)), List.forall_mem_cons.mpr ⟨(oo_Mo_test_f_3 10 (by decide) (by decide)), List.forall_mem_cons.mpr ⟨(oo_Mo_test_f_4 10 (by decide) (by decide)), List.forall_mem_cons.mpr ⟨(oo_Mo_test_f_5 10 (by decide) (by decide)), List.forall_mem_cons.mpr ⟨(oo_Mo_test_f_6 10 (by decide) (by decide)), List.forall_mem_nil _⟩⟩⟩⟩⟩⟩⟩) (by decide +kernel) ⟨List.forall_mem_cons.mpr ⟨gf_Mo_1169, List.forall_mem_nil _⟩, List.forall_mem_cons.mpr ⟨pf_Mo_1169, List.forall_mem_nil _⟩, List.forall_mem_cons.mpr ⟨cl_virtual (y := y_Mo_both_at_f10) (ci := 13) rfl rfl ⟨_, _, rfl⟩ (by decide +kernel) h_Mo_both_at_f10 wm_3819 wm_9 wm_3816 wm_3818 wv_23_8 ⟨by decide, by decide, by decide +kernel⟩ (by decide), List.forall_mem_cons.mpr ⟨cl_virtual (y := y_Mo_word_at_s5041) (ci := 13) rfl rfl ⟨_, _, rfl⟩ (by decide +kernel) h_Mo_word_at_s5041 wm_3809 wm_9 wm_3806 wm_3808 wv_23_6 ⟨by decide, by decide, by decide +kernel⟩ (by decide), List.forall_mem_cons.mpr ⟨cl_virtual (y := y_Mo_both_at_f10) (ci := 13) rfl rfl ⟨_, _, rfl⟩ (by decide +kernel) h_Mo_both_at_f10 wm_3819 wm_9 wm_3816 wm_3818 wv_23_8 ⟨by decide, by decide, by decide +kernel⟩ (by decide), List.forall_mem_cons.mpr ⟨cl_ldcw (own := "DrawingHouseModel") (idx := 1223) (i := 41) (tx := "or") (by decide +kernel) (by decide +kernel) (by decide +kernel), List.forall_mem_nil _⟩⟩⟩⟩, List.forall_mem_nil _, List.forall_mem_nil _, GG_pl⟩ (by decide +kernel)
def n_Mo_test_at_f11_an : List an_T := [(5, [(0, (2, 0, 0, [150])), (1, (0, 0, 1, []))], [], (0, 0), [(0, 0, 99995), (2, 5, 0), (0, 0, 100000)], [(1, 3, -1000000000000, 2009), (1, 4, -1000000000000, 2009), (3, 1, -1000000000000, 1), (3, 4, -1000000000000, 1), (4, 1, -1000000000000, 2009), (4, 3, -1000000000000, 2009)], [((0, 158), (0, 0, 2009, []))], [(2, 0, 0, [150]), (0, 0, 2009, [])], 0, [(0, 0, 2010, [])], [(20, [2], [50, 2, 1, 158, 157, 160, 2, 12, 0, 7, 4, 3, 2, 0, 158, 0, 1, 2, 0, 157, 2, 7, 0, 3, 2, 0, 157, 0, 2010, 3, 14, 1, 10, 3, 0, 160, 5, 3, 2, 0, 157, 0, 1, 0, 0, 1, 10, 3, 0, 160, 5, 3, 2, 0, 157, 0, 1, 0, 4]), (20, [1, 2], [30, 0, 1, 0, 0, -1, 1, 158]), (20, [2], [50, 2, 0, 164, 165, 4, 7, 1, 3, 2, 0, 164, 0, 0, 0, 3, 2, 0, 165, 0, 23]), (20, [2], [30, 11, 1, 1, 159]), (20, [2], [30, -11, -1, 1, 159]), (24, [0, 2], []), (20, [5, 2], [30, 2010, 1, 0, 0, 1, 1, 158]), (20, [5, 2], [30, -2010, -1, 0, 0, -1, 1, 158])]), (43, [(0, (2, 0, 0, [150])), (1, (0, 0, 1, [])), (2, (0, 0, 1, []))], [(0, 0, 1, [])], (0, 0), [(0, 0, 99995), (2, 6, 0), (0, 0, 99957)], [(1, 3, -1000000000000, 2009), (1, 4, -1000000000000, 2009), (1, 5, -1000000000000, 2009), (3, 1, -1000000000000, 1), (3, 4, -1000000000000, 1), (3, 5, -1000000000000, 0), (4, 1, -1000000000000, 1), (4, 3, -1000000000000, 1), (4, 5, -1000000000000, 0), (5, 1, -1000000000000, 1), (5, 3, -1000000000000, 1), (5, 4, -1000000000000, 1)], [], [(2, 0, 0, [150]), (0, 0, 2009, [])], 0, [(0, 0, 2010, [])], [(20, [2], [50, 2, 1, 158, 157, 160, 2, 12, 0, 7, 4, 3, 2, 0, 158, 0, 1, 2, 0, 157, 2, 7, 0, 3, 2, 0, 157, 0, 2010, 3, 14, 1, 10, 3, 0, 160, 5, 3, 2, 0, 157, 0, 1, 0, 0, 1, 10, 3, 0, 160, 5, 3, 2, 0, 157, 0, 1, 0, 4]), (20, [1, 2], [30, 0, 1, 0, 0, -1, 1, 158]), (20, [2], [50, 2, 0, 164, 165, 4, 7, 1, 3, 2, 0, 164, 0, 0, 0, 3, 2, 0, 165, 0, 23]), (20, [2], [30, 11, 1, 1, 159]), (20, [2], [30, -11, -1, 1, 159]), (20, [6, 2], [30, -2011, -1, 0, 0, -1, 1, 158]), (24, [0, 2], [])])]
def t_Mo_test_at_f11_ct : ct_L := [(7, 1220, e_Mo_both_at_f11), (31, 1190, e_Mo_word_at_s5041), (82, 1220, e_Mo_both_at_f11), (1000001, 1223, en_ro [] (2, 0, 0, [5041]))]
set_option maxRecDepth 100000 in
theorem c_Mo_test_at_f11 {l : Launch} {D : va_G} {kA : Nat → ClassId} (h_Mo_both_at_f11 : ct_ok l D kA GG y_Mo_both_at_f11 z_Mo_both_at_f11 e_Mo_both_at_f11) (h_Mo_word_at_s5041 : ct_ok l D kA GG y_Mo_word_at_s5041 z_Mo_word_at_s5041 e_Mo_word_at_s5041) : ct_ok l D kA GG y_Mo_test_at_f11 z_Mo_test_at_f11 e_Mo_test_at_f11 := chk_all_ok (FT := [(1169, 13, 158)]) (PT := [(1169, 13, 158, .int)]) (CT := t_Mo_test_at_f11_ct) (KT := []) (NT := []) (AN := n_Mo_test_at_f11_an) (OT := [(o_Mo_test_f_0 11), (o_Mo_test_f_1 11), (o_Mo_test_f_2 11), (o_Mo_test_f_3 11), (o_Mo_test_f_4 11), (o_Mo_test_f_5 11), (o_Mo_test_f_6 11)]) 3 200 (List.forall_mem_cons.mpr ⟨(oo_Mo_test_f_0 11 (by decide) (by decide)), List.forall_mem_cons.mpr ⟨(oo_Mo_test_f_1 11 (by decide) (by decide)), List.forall_mem_cons.mpr ⟨(oo_Mo_test_f_2 11 (by decide) (by decide)), List.forall_mem_cons.mpr ⟨(oo_Mo_test_f_3 11 (by decide) (by decide)), List.forall_mem_cons.mpr ⟨(oo_Mo_test_f_4 11 (by decide) (by decide)), List.forall_mem_cons.mpr ⟨(oo_Mo_test_f_5 11 (by decide) (by decide)), List.forall_mem_cons.mpr ⟨(oo_Mo_test_f_6 11 (by decide) (by decide)), List.forall_mem_nil _⟩⟩⟩⟩⟩⟩⟩) (by decide +kernel) ⟨List.forall_mem_cons.mpr ⟨gf_Mo_1169, List.forall_mem_nil _⟩, List.forall_mem_cons.mpr ⟨pf_Mo_1169, List.forall_mem_nil _⟩, List.forall_mem_cons.mpr ⟨cl_virtual (y := y_Mo_both_at_f11) (ci := 13) rfl rfl ⟨_, _, rfl⟩ (by decide +kernel) h_Mo_both_at_f11 wm_3819 wm_9 wm_3816 wm_3818 wv_23_8 ⟨by decide, by decide, by decide +kernel⟩ (by decide), List.forall_mem_cons.mpr ⟨cl_virtual (y := y_Mo_word_at_s5041) (ci := 13) rfl rfl ⟨_, _, rfl⟩ (by decide +kernel) h_Mo_word_at_s5041 wm_3809 wm_9 wm_3806 wm_3808 wv_23_6 ⟨by decide, by decide, by decide +kernel⟩ (by decide), List.forall_mem_cons.mpr ⟨cl_virtual (y := y_Mo_both_at_f11) (ci := 13) rfl rfl ⟨_, _, rfl⟩ (by decide +kernel) h_Mo_both_at_f11 wm_3819 wm_9 wm_3816 wm_3818 wv_23_8 ⟨by decide, by decide, by decide +kernel⟩ (by decide), List.forall_mem_cons.mpr ⟨cl_ldcw (own := "DrawingHouseModel") (idx := 1223) (i := 41) (tx := "or") (by decide +kernel) (by decide +kernel) (by decide +kernel), List.forall_mem_nil _⟩⟩⟩⟩, List.forall_mem_nil _, List.forall_mem_nil _, GG_pl⟩ (by decide +kernel)
def n_Mo_test_at_f12_an : List an_T := [(5, [(0, (2, 0, 0, [150])), (1, (0, 0, 1, []))], [], (0, 0), [(0, 0, 99995), (2, 5, 0), (0, 0, 100000)], [(1, 3, -1000000000000, 2009), (1, 4, -1000000000000, 2009), (3, 1, -1000000000000, 1), (3, 4, -1000000000000, 1), (4, 1, -1000000000000, 2009), (4, 3, -1000000000000, 2009)], [((0, 158), (0, 0, 2009, []))], [(2, 0, 0, [150]), (0, 0, 2009, [])], 0, [(0, 0, 2010, [])], [(20, [2], [50, 2, 1, 158, 157, 160, 2, 12, 0, 7, 4, 3, 2, 0, 158, 0, 1, 2, 0, 157, 2, 7, 0, 3, 2, 0, 157, 0, 2010, 3, 14, 1, 10, 3, 0, 160, 5, 3, 2, 0, 157, 0, 1, 0, 0, 1, 10, 3, 0, 160, 5, 3, 2, 0, 157, 0, 1, 0, 4]), (20, [1, 2], [30, 0, 1, 0, 0, -1, 1, 158]), (20, [2], [50, 2, 0, 164, 165, 4, 7, 1, 3, 2, 0, 164, 0, 0, 0, 3, 2, 0, 165, 0, 23]), (20, [2], [30, 12, 1, 1, 159]), (20, [2], [30, -12, -1, 1, 159]), (24, [0, 2], []), (20, [5, 2], [30, 2010, 1, 0, 0, 1, 1, 158]), (20, [5, 2], [30, -2010, -1, 0, 0, -1, 1, 158])]), (43, [(0, (2, 0, 0, [150])), (1, (0, 0, 1, [])), (2, (0, 0, 1, []))], [(0, 0, 1, [])], (0, 0), [(0, 0, 99995), (2, 6, 0), (0, 0, 99957)], [(1, 3, -1000000000000, 2009), (1, 4, -1000000000000, 2009), (1, 5, -1000000000000, 2009), (3, 1, -1000000000000, 1), (3, 4, -1000000000000, 1), (3, 5, -1000000000000, 0), (4, 1, -1000000000000, 1), (4, 3, -1000000000000, 1), (4, 5, -1000000000000, 0), (5, 1, -1000000000000, 1), (5, 3, -1000000000000, 1), (5, 4, -1000000000000, 1)], [], [(2, 0, 0, [150]), (0, 0, 2009, [])], 0, [(0, 0, 2010, [])], [(20, [2], [50, 2, 1, 158, 157, 160, 2, 12, 0, 7, 4, 3, 2, 0, 158, 0, 1, 2, 0, 157, 2, 7, 0, 3, 2, 0, 157, 0, 2010, 3, 14, 1, 10, 3, 0, 160, 5, 3, 2, 0, 157, 0, 1, 0, 0, 1, 10, 3, 0, 160, 5, 3, 2, 0, 157, 0, 1, 0, 4]), (20, [1, 2], [30, 0, 1, 0, 0, -1, 1, 158]), (20, [2], [50, 2, 0, 164, 165, 4, 7, 1, 3, 2, 0, 164, 0, 0, 0, 3, 2, 0, 165, 0, 23]), (20, [2], [30, 12, 1, 1, 159]), (20, [2], [30, -12, -1, 1, 159]), (20, [6, 2], [30, -2011, -1, 0, 0, -1, 1, 158]), (24, [0, 2], [])])]
def t_Mo_test_at_f12_ct : ct_L := [(7, 1220, e_Mo_both_at_f12), (31, 1190, e_Mo_word_at_s5041), (82, 1220, e_Mo_both_at_f12), (1000001, 1223, en_ro [] (2, 0, 0, [5041]))]
set_option maxRecDepth 100000 in
theorem c_Mo_test_at_f12 {l : Launch} {D : va_G} {kA : Nat → ClassId} (h_Mo_both_at_f12 : ct_ok l D kA GG y_Mo_both_at_f12 z_Mo_both_at_f12 e_Mo_both_at_f12) (h_Mo_word_at_s5041 : ct_ok l D kA GG y_Mo_word_at_s5041 z_Mo_word_at_s5041 e_Mo_word_at_s5041) : ct_ok l D kA GG y_Mo_test_at_f12 z_Mo_test_at_f12 e_Mo_test_at_f12 := chk_all_ok (FT := [(1169, 13, 158)]) (PT := [(1169, 13, 158, .int)]) (CT := t_Mo_test_at_f12_ct) (KT := []) (NT := []) (AN := n_Mo_test_at_f12_an) (OT := [(o_Mo_test_f_0 12), (o_Mo_test_f_1 12), (o_Mo_test_f_2 12), (o_Mo_test_f_3 12), (o_Mo_test_f_4 12), (o_Mo_test_f_5 12), (o_Mo_test_f_6 12)]) 3 200 (List.forall_mem_cons.mpr ⟨(oo_Mo_test_f_0 12 (by decide) (by decide)), List.forall_mem_cons.mpr ⟨(oo_Mo_test_f_1 12 (by decide) (by decide)), List.forall_mem_cons.mpr ⟨(oo_Mo_test_f_2 12 (by decide) (by decide)), List.forall_mem_cons.mpr ⟨(oo_Mo_test_f_3 12 (by decide) (by decide)), List.forall_mem_cons.mpr ⟨(oo_Mo_test_f_4 12 (by decide) (by decide)), List.forall_mem_cons.mpr ⟨(oo_Mo_test_f_5 12 (by decide) (by decide)), List.forall_mem_cons.mpr ⟨(oo_Mo_test_f_6 12 (by decide) (by decide)), List.forall_mem_nil _⟩⟩⟩⟩⟩⟩⟩) (by decide +kernel) ⟨List.forall_mem_cons.mpr ⟨gf_Mo_1169, List.forall_mem_nil _⟩, List.forall_mem_cons.mpr ⟨pf_Mo_1169, List.forall_mem_nil _⟩, List.forall_mem_cons.mpr ⟨cl_virtual (y := y_Mo_both_at_f12) (ci := 13) rfl rfl ⟨_, _, rfl⟩ (by decide +kernel) h_Mo_both_at_f12 wm_3819 wm_9 wm_3816 wm_3818 wv_23_8 ⟨by decide, by decide, by decide +kernel⟩ (by decide), List.forall_mem_cons.mpr ⟨cl_virtual (y := y_Mo_word_at_s5041) (ci := 13) rfl rfl ⟨_, _, rfl⟩ (by decide +kernel) h_Mo_word_at_s5041 wm_3809 wm_9 wm_3806 wm_3808 wv_23_6 ⟨by decide, by decide, by decide +kernel⟩ (by decide), List.forall_mem_cons.mpr ⟨cl_virtual (y := y_Mo_both_at_f12) (ci := 13) rfl rfl ⟨_, _, rfl⟩ (by decide +kernel) h_Mo_both_at_f12 wm_3819 wm_9 wm_3816 wm_3818 wv_23_8 ⟨by decide, by decide, by decide +kernel⟩ (by decide), List.forall_mem_cons.mpr ⟨cl_ldcw (own := "DrawingHouseModel") (idx := 1223) (i := 41) (tx := "or") (by decide +kernel) (by decide +kernel) (by decide +kernel), List.forall_mem_nil _⟩⟩⟩⟩, List.forall_mem_nil _, List.forall_mem_nil _, GG_pl⟩ (by decide +kernel)
def o_Mo_test_at_f13_0 : or_T := (1, 2, [(0, (2, 0, 0, [150])), (1, (0, 0, 2009, []))], [(20, [0], [50, 2, 1, 158, 157, 160, 2, 12, 0, 7, 4, 3, 2, 0, 158, 0, 1, 2, 0, 157, 2, 7, 0, 3, 2, 0, 157, 0, 2010, 3, 14, 1, 10, 3, 0, 160, 5, 3, 2, 0, 157, 0, 1, 0, 0, 1, 10, 3, 0, 160, 5, 3, 2, 0, 157, 0, 1, 0, 4]), (20, [0, 1], [30, 0, 1, 1, 158, -1, 0, 0]), (20, [0, 1], [30, 0, -1, 1, 158, 1, 0, 0]), (20, [0], [50, 2, 0, 164, 165, 4, 7, 1, 3, 2, 0, 164, 0, 0, 0, 3, 2, 0, 165, 0, 23]), (20, [0], [30, 13, 1, 1, 159]), (20, [0], [30, -13, -1, 1, 159]), (20, [0], [30, -1, -1, 1, 8])], [], [(0, 0, 2009, [])], [(20, [0], [50, 2, 1, 158, 157, 160, 2, 12, 0, 7, 4, 3, 2, 0, 158, 0, 1, 2, 0, 157, 2, 7, 0, 3, 2, 0, 157, 0, 2010, 3, 14, 1, 10, 3, 0, 160, 5, 3, 2, 0, 157, 0, 1, 0, 0, 1, 10, 3, 0, 160, 5, 3, 2, 0, 157, 0, 1, 0, 4]), (20, [0, 2], [30, 0, 1, 1, 158, -1, 0, 0]), (20, [0, 2], [30, 0, -1, 1, 158, 1, 0, 0]), (20, [0], [50, 2, 0, 164, 165, 4, 7, 1, 3, 2, 0, 164, 0, 0, 0, 3, 2, 0, 165, 0, 23]), (20, [0], [30, 13, 1, 1, 159]), (20, [0], [30, -13, -1, 1, 159]), (20, [0], [30, -1, -1, 1, 8]), (23, [1, 2], [0, 1, -1])], [], [])
theorem oo_Mo_test_at_f13_0 {kA : Nat → ClassId} : or_ok kA GG o_Mo_test_at_f13_0 := by
  intro A ta ws vs hD hth hl hk hds hf
  have hl : vs.length = 2 := hl
  have hk : ∀ q ∈ ([(0, (2, 0, 0, [150])), (1, (0, 0, 2009, []))] : List (Nat × tv_T)), tv_ok ta q.2 (n_v vs q.1) := hk
  obtain ⟨t0, hk⟩ := List.forall_mem_cons.mp hk
  have t0 : tv_ok ta (2, 0, 0, [150]) (n_v vs 0) := t0
  have r0 : ta (v_ad (n_v vs 0)) = some 150 := tv_rg t0
  obtain ⟨t1, hk⟩ := List.forall_mem_cons.mp hk
  have t1 : tv_ok ta (0, 0, 2009, []) (n_v vs 1) := t1
  have k1 : 0 ≤ v_iv (n_v vs 1) ∧ v_iv (n_v vs 1) ≤ 2009 := tv_rng t1
  have hf : fc_ok [(20, [0], [50, 2, 1, 158, 157, 160, 2, 12, 0, 7, 4, 3, 2, 0, 158, 0, 1, 2, 0, 157, 2, 7, 0, 3, 2, 0, 157, 0, 2010, 3, 14, 1, 10, 3, 0, 160, 5, 3, 2, 0, 157, 0, 1, 0, 0, 1, 10, 3, 0, 160, 5, 3, 2, 0, 157, 0, 1, 0, 4]), (20, [0, 1], [30, 0, 1, 1, 158, -1, 0, 0]), (20, [0, 1], [30, 0, -1, 1, 158, 1, 0, 0]), (20, [0], [50, 2, 0, 164, 165, 4, 7, 1, 3, 2, 0, 164, 0, 0, 0, 3, 2, 0, 165, 0, 23]), (20, [0], [30, 13, 1, 1, 159]), (20, [0], [30, -13, -1, 1, 159]), (20, [0], [30, -1, -1, 1, 8])] ta ws vs := hf
  obtain ⟨f0, hf⟩ := fc_un (show (20 : Nat) < 100 from by decide) hf
  have f0 : ((w_fi ws (n_v vs 0) 158 + 1) ≤ w_fi ws (n_v vs 0) 157) ∧ ((w_fi ws (n_v vs 0) 157 ≤ 2010) ∧ ((w_ei ws (w_ar ws (n_v vs 0) 160) ((w_fi ws (n_v vs 0) 157 - 1)) = 0) ∨ (w_ei ws (w_ar ws (n_v vs 0) 160) ((w_fi ws (n_v vs 0) 157 - 1)) = 4))) := f0
  obtain ⟨f1, hf⟩ := fc_un (show (20 : Nat) < 100 from by decide) hf
  have f1 : 1 * w_fi ws (n_v vs 0) 158 + ((-1) * v_iv (n_v vs 1) + 0) ≤ 0 := f1
  obtain ⟨f2, hf⟩ := fc_un (show (20 : Nat) < 100 from by decide) hf
  have f2 : (-1) * w_fi ws (n_v vs 0) 158 + (1 * v_iv (n_v vs 1) + 0) ≤ 0 := f2
  obtain ⟨f3, hf⟩ := fc_un (show (20 : Nat) < 100 from by decide) hf
  have f3 : (w_fi ws (n_v vs 0) 164 = 0) → (w_fi ws (n_v vs 0) 165 ≤ 23) := f3
  obtain ⟨f4, hf⟩ := fc_un (show (20 : Nat) < 100 from by decide) hf
  have f4 : 1 * w_fi ws (n_v vs 0) 159 + 0 ≤ 13 := f4
  obtain ⟨f5, hf⟩ := fc_un (show (20 : Nat) < 100 from by decide) hf
  have f5 : (-1) * w_fi ws (n_v vs 0) 159 + 0 ≤ (-13) := f5
  obtain ⟨f6, hf⟩ := fc_un (show (20 : Nat) < 100 from by decide) hf
  have f6 : (-1) * w_fi ws (n_v vs 0) 8 + 0 ≤ (-1) := f6
  have cr_0_160 : ta (w_ar ws (n_v vs 0) 160) = some 259 := tv_rg (th_fd hD hth r0 (g := GG_150) rfl (k := 160) (t := (2, 0, 0, [259])) rfl rfl)
  have hK_0_160 : ∀ j : Int, 0 ≤ j → j < 2010 → 0 ≤ w_ei ws (w_ar ws (n_v vs 0) 160) j ∧ w_ei ws (w_ar ws (n_v vs 0) 160) j ≤ 4 := fun j h0 h1 => th_el hD hth cr_0_160 (kd := 0) (n := 2010) (m := 2010) (lo := 0) (hi := 4) (rs := []) (L := []) rfl (by decide) (j := j.toNat) (by omega)
  have kz_0_8 : 0 ≤ w_fi ws (n_v vs 0) 8 ∧ w_fi ws (n_v vs 0) 8 ≤ 5 := tv_rng (th_fd hD hth r0 (g := GG_150) rfl (k := 8) (t := (0, 0, 5, [])) rfl rfl)
  have kz_0_157 : 0 ≤ w_fi ws (n_v vs 0) 157 ∧ w_fi ws (n_v vs 0) 157 ≤ 2010 := tv_rng (th_fd hD hth r0 (g := GG_150) rfl (k := 157) (t := (0, 0, 2010, [])) rfl rfl)
  have kz_0_158 : 0 ≤ w_fi ws (n_v vs 0) 158 ∧ w_fi ws (n_v vs 0) 158 ≤ 2009 := tv_rng (th_fd hD hth r0 (g := GG_150) rfl (k := 158) (t := (0, 0, 2009, [])) rfl rfl)
  have kz_0_159 : 0 ≤ w_fi ws (n_v vs 0) 159 ∧ w_fi ws (n_v vs 0) 159 ≤ 13 := tv_rng (th_fd hD hth r0 (g := GG_150) rfl (k := 159) (t := (0, 0, 13, [])) rfl rfl)
  have kz_0_164 : 0 ≤ w_fi ws (n_v vs 0) 164 ∧ w_fi ws (n_v vs 0) 164 ≤ 1 := tv_rng (th_fd hD hth r0 (g := GG_150) rfl (k := 164) (t := (0, 0, 1, [])) rfl rfl)
  have kz_0_165 : (-1) ≤ w_fi ws (n_v vs 0) 165 ∧ w_fi ws (n_v vs 0) 165 ≤ 47 := tv_rng (th_fd hD hth r0 (g := GG_150) rfl (k := 165) (t := (0, -1, 47, [])) rfl rfl)
  have kv0 : 0 ≤ w_fi ws (n_v vs 0) 158 ∧ w_fi ws (n_v vs 0) 158 ≤ 2009 := tv_rng (th_fd hD hth r0 (g := GG_150) rfl (k := 158) (t := (0, 0, 2009, [])) rfl rfl)
  obtain ⟨x, ex, hx⟩ := iv_ex (ta := ta) (lo := 0) (hi := 2009) (z := w_fi ws (n_v vs 0) 158) (by omega) (by omega) (by omega) (by omega)
  have ex2 : v_iv (Value.int x) = w_fi ws (n_v vs 0) 158 := ex
  have ex3 : 0 ≤ v_iv (Value.int x) ∧ v_iv (Value.int x) ≤ 2009 := tv_rng hx
  have e_0 : n_v (vs ++ [Value.int x]) 0 = n_v vs 0 := n_v_old (by rw [hl]; decide)
  have e_1 : n_v (vs ++ [Value.int x]) 1 = n_v vs 1 := n_v_old (by rw [hl]; decide)
  have e_2 : n_v (vs ++ [Value.int x]) 2 = Value.int x := n_v_new hl
  have nf0 : fc_1 (20, [0], [50, 2, 1, 158, 157, 160, 2, 12, 0, 7, 4, 3, 2, 0, 158, 0, 1, 2, 0, 157, 2, 7, 0, 3, 2, 0, 157, 0, 2010, 3, 14, 1, 10, 3, 0, 160, 5, 3, 2, 0, 157, 0, 1, 0, 0, 1, 10, 3, 0, 160, 5, 3, 2, 0, 157, 0, 1, 0, 4]) ws (vs ++ [Value.int x]) := by
    refine ⟨fun n hn => ?_, ?_⟩
    · have hn : n ∈ [0] := hn
      rw [List.length_append, hl]
      simp only [List.mem_cons, List.not_mem_nil, or_false] at hn
      show n < 2 + 1; omega
    · show ((w_fi ws (n_v (vs ++ [Value.int x]) 0) 158 + 1) ≤ w_fi ws (n_v (vs ++ [Value.int x]) 0) 157) ∧ ((w_fi ws (n_v (vs ++ [Value.int x]) 0) 157 ≤ 2010) ∧ ((w_ei ws (w_ar ws (n_v (vs ++ [Value.int x]) 0) 160) ((w_fi ws (n_v (vs ++ [Value.int x]) 0) 157 - 1)) = 0) ∨ (w_ei ws (w_ar ws (n_v (vs ++ [Value.int x]) 0) 160) ((w_fi ws (n_v (vs ++ [Value.int x]) 0) 157 - 1)) = 4)))
      rw [e_0]
      first | omega | grind
  have nf1 : fc_1 (20, [0, 2], [30, 0, 1, 1, 158, -1, 0, 0]) ws (vs ++ [Value.int x]) := by
    refine ⟨fun n hn => ?_, ?_⟩
    · have hn : n ∈ [0, 2] := hn
      rw [List.length_append, hl]
      simp only [List.mem_cons, List.not_mem_nil, or_false] at hn
      show n < 2 + 1; omega
    · show 1 * w_fi ws (n_v (vs ++ [Value.int x]) 0) 158 + ((-1) * v_iv (n_v (vs ++ [Value.int x]) 2) + 0) ≤ 0
      rw [e_0]
      rw [e_2]
      omega
  have nf2 : fc_1 (20, [0, 2], [30, 0, -1, 1, 158, 1, 0, 0]) ws (vs ++ [Value.int x]) := by
    refine ⟨fun n hn => ?_, ?_⟩
    · have hn : n ∈ [0, 2] := hn
      rw [List.length_append, hl]
      simp only [List.mem_cons, List.not_mem_nil, or_false] at hn
      show n < 2 + 1; omega
    · show (-1) * w_fi ws (n_v (vs ++ [Value.int x]) 0) 158 + (1 * v_iv (n_v (vs ++ [Value.int x]) 2) + 0) ≤ 0
      rw [e_0]
      rw [e_2]
      omega
  have nf3 : fc_1 (20, [0], [50, 2, 0, 164, 165, 4, 7, 1, 3, 2, 0, 164, 0, 0, 0, 3, 2, 0, 165, 0, 23]) ws (vs ++ [Value.int x]) := by
    refine ⟨fun n hn => ?_, ?_⟩
    · have hn : n ∈ [0] := hn
      rw [List.length_append, hl]
      simp only [List.mem_cons, List.not_mem_nil, or_false] at hn
      show n < 2 + 1; omega
    · show (w_fi ws (n_v (vs ++ [Value.int x]) 0) 164 = 0) → (w_fi ws (n_v (vs ++ [Value.int x]) 0) 165 ≤ 23)
      rw [e_0]
      first | omega | grind
  have nf4 : fc_1 (20, [0], [30, 13, 1, 1, 159]) ws (vs ++ [Value.int x]) := by
    refine ⟨fun n hn => ?_, ?_⟩
    · have hn : n ∈ [0] := hn
      rw [List.length_append, hl]
      simp only [List.mem_cons, List.not_mem_nil, or_false] at hn
      show n < 2 + 1; omega
    · show 1 * w_fi ws (n_v (vs ++ [Value.int x]) 0) 159 + 0 ≤ 13
      rw [e_0]
      omega
  have nf5 : fc_1 (20, [0], [30, -13, -1, 1, 159]) ws (vs ++ [Value.int x]) := by
    refine ⟨fun n hn => ?_, ?_⟩
    · have hn : n ∈ [0] := hn
      rw [List.length_append, hl]
      simp only [List.mem_cons, List.not_mem_nil, or_false] at hn
      show n < 2 + 1; omega
    · show (-1) * w_fi ws (n_v (vs ++ [Value.int x]) 0) 159 + 0 ≤ (-13)
      rw [e_0]
      omega
  have nf6 : fc_1 (20, [0], [30, -1, -1, 1, 8]) ws (vs ++ [Value.int x]) := by
    refine ⟨fun n hn => ?_, ?_⟩
    · have hn : n ∈ [0] := hn
      rw [List.length_append, hl]
      simp only [List.mem_cons, List.not_mem_nil, or_false] at hn
      show n < 2 + 1; omega
    · show (-1) * w_fi ws (n_v (vs ++ [Value.int x]) 0) 8 + 0 ≤ (-1)
      rw [e_0]
      omega
  have nf7 : fc_1 (23, [1, 2], [0, 1, -1]) ws (vs ++ [Value.int x]) := by
    refine ⟨fun n hn => ?_, ?_⟩
    · have hn : n ∈ [1, 2] := hn
      rw [List.length_append, hl]
      simp only [List.mem_cons, List.not_mem_nil, or_false] at hn
      show n < 2 + 1; omega
    · show 1 * v_iv (n_v (vs ++ [Value.int x]) 1) + ((-1) * v_iv (n_v (vs ++ [Value.int x]) 2) + 0) ≤ 0
      rw [e_1]
      rw [e_2]
      omega
  exact ⟨(fun _ h => (by cases h)), [Value.int x], ag_one hx, List.forall_mem_cons.mpr ⟨⟨show (20 : Nat) < 100 from by decide, nf0⟩, List.forall_mem_cons.mpr ⟨⟨show (20 : Nat) < 100 from by decide, nf1⟩, List.forall_mem_cons.mpr ⟨⟨show (20 : Nat) < 100 from by decide, nf2⟩, List.forall_mem_cons.mpr ⟨⟨show (20 : Nat) < 100 from by decide, nf3⟩, List.forall_mem_cons.mpr ⟨⟨show (20 : Nat) < 100 from by decide, nf4⟩, List.forall_mem_cons.mpr ⟨⟨show (20 : Nat) < 100 from by decide, nf5⟩, List.forall_mem_cons.mpr ⟨⟨show (20 : Nat) < 100 from by decide, nf6⟩, List.forall_mem_cons.mpr ⟨⟨show (23 : Nat) < 100 from by decide, nf7⟩, (fun _ h => (by cases h))⟩⟩⟩⟩⟩⟩⟩⟩, (fun _ h => (by cases h))⟩
def o_Mo_test_at_f13_1 : or_T := (5, 4, [(0, (2, 0, 0, [150])), (1, (0, 0, 2009, [])), (2, (0, 0, 2009, []))], [(20, [0], [50, 2, 0, 164, 165, 4, 7, 1, 3, 2, 0, 164, 0, 0, 0, 3, 2, 0, 165, 0, 23]), (23, [1, 2], [0, 1, -1]), (20, [0], [50, 2, 0, 164, 165, 4, 7, 1, 3, 2, 0, 164, 0, 0, 0, 3, 2, 0, 165, 0, 23]), (20, [0], [50, 2, 1, 158, 157, 160, 2, 12, 0, 7, 4, 3, 2, 0, 158, 0, 1, 2, 0, 157, 2, 7, 0, 3, 2, 0, 157, 0, 2010, 3, 14, 1, 10, 3, 0, 160, 5, 3, 2, 0, 157, 0, 1, 0, 0, 1, 10, 3, 0, 160, 5, 3, 2, 0, 157, 0, 1, 0, 4]), (20, [2, 0], [30, 0, 1, 0, 0, -1, 1, 158]), (20, [0], [30, 13, 1, 1, 159]), (20, [0], [30, -13, -1, 1, 159]), (20, [0], [30, -1, -1, 1, 8]), (102, [2], [0, 13008, 13009, 13158, 13159]), (23, [1, 2], [0, 1, -1])], [], [(0, 0, 2010, [])], [(20, [0], [50, 2, 1, 158, 157, 160, 2, 12, 0, 7, 4, 3, 2, 0, 158, 0, 1, 2, 0, 157, 2, 7, 0, 3, 2, 0, 157, 0, 2010, 3, 14, 1, 10, 3, 0, 160, 5, 3, 2, 0, 157, 0, 1, 0, 0, 1, 10, 3, 0, 160, 5, 3, 2, 0, 157, 0, 1, 0, 4]), (20, [1, 0], [30, 0, 1, 0, 0, -1, 1, 158]), (20, [0], [50, 2, 0, 164, 165, 4, 7, 1, 3, 2, 0, 164, 0, 0, 0, 3, 2, 0, 165, 0, 23]), (20, [0], [30, 13, 1, 1, 159]), (20, [0], [30, -13, -1, 1, 159]), (20, [0], [30, -1, -1, 1, 8]), (24, [0, 0], []), (20, [4, 0], [30, 2010, 1, 0, 0, 1, 1, 158]), (20, [4, 0], [30, -2010, -1, 0, 0, -1, 1, 158])], [], [])
theorem oo_Mo_test_at_f13_1 {kA : Nat → ClassId} : or_ok kA GG o_Mo_test_at_f13_1 := by
  intro A ta ws vs hD hth hl hk hds hf
  have hl : vs.length = 4 := hl
  have hk : ∀ q ∈ ([(0, (2, 0, 0, [150])), (1, (0, 0, 2009, [])), (2, (0, 0, 2009, []))] : List (Nat × tv_T)), tv_ok ta q.2 (n_v vs q.1) := hk
  obtain ⟨t0, hk⟩ := List.forall_mem_cons.mp hk
  have t0 : tv_ok ta (2, 0, 0, [150]) (n_v vs 0) := t0
  have r0 : ta (v_ad (n_v vs 0)) = some 150 := tv_rg t0
  obtain ⟨t1, hk⟩ := List.forall_mem_cons.mp hk
  have t1 : tv_ok ta (0, 0, 2009, []) (n_v vs 1) := t1
  have k1 : 0 ≤ v_iv (n_v vs 1) ∧ v_iv (n_v vs 1) ≤ 2009 := tv_rng t1
  obtain ⟨t2, hk⟩ := List.forall_mem_cons.mp hk
  have t2 : tv_ok ta (0, 0, 2009, []) (n_v vs 2) := t2
  have k2 : 0 ≤ v_iv (n_v vs 2) ∧ v_iv (n_v vs 2) ≤ 2009 := tv_rng t2
  have hf : fc_ok [(20, [0], [50, 2, 0, 164, 165, 4, 7, 1, 3, 2, 0, 164, 0, 0, 0, 3, 2, 0, 165, 0, 23]), (23, [1, 2], [0, 1, -1]), (20, [0], [50, 2, 0, 164, 165, 4, 7, 1, 3, 2, 0, 164, 0, 0, 0, 3, 2, 0, 165, 0, 23]), (20, [0], [50, 2, 1, 158, 157, 160, 2, 12, 0, 7, 4, 3, 2, 0, 158, 0, 1, 2, 0, 157, 2, 7, 0, 3, 2, 0, 157, 0, 2010, 3, 14, 1, 10, 3, 0, 160, 5, 3, 2, 0, 157, 0, 1, 0, 0, 1, 10, 3, 0, 160, 5, 3, 2, 0, 157, 0, 1, 0, 4]), (20, [2, 0], [30, 0, 1, 0, 0, -1, 1, 158]), (20, [0], [30, 13, 1, 1, 159]), (20, [0], [30, -13, -1, 1, 159]), (20, [0], [30, -1, -1, 1, 8]), (102, [2], [0, 13008, 13009, 13158, 13159]), (23, [1, 2], [0, 1, -1])] ta ws vs := hf
  obtain ⟨f0, hf⟩ := fc_un (show (20 : Nat) < 100 from by decide) hf
  have f0 : (w_fi ws (n_v vs 0) 164 = 0) → (w_fi ws (n_v vs 0) 165 ≤ 23) := f0
  obtain ⟨f1, hf⟩ := fc_un (show (23 : Nat) < 100 from by decide) hf
  have f1 : 1 * v_iv (n_v vs 1) + ((-1) * v_iv (n_v vs 2) + 0) ≤ 0 := f1
  obtain ⟨f2, hf⟩ := fc_un (show (20 : Nat) < 100 from by decide) hf
  have f2 : (w_fi ws (n_v vs 0) 164 = 0) → (w_fi ws (n_v vs 0) 165 ≤ 23) := f2
  obtain ⟨f3, hf⟩ := fc_un (show (20 : Nat) < 100 from by decide) hf
  have f3 : ((w_fi ws (n_v vs 0) 158 + 1) ≤ w_fi ws (n_v vs 0) 157) ∧ ((w_fi ws (n_v vs 0) 157 ≤ 2010) ∧ ((w_ei ws (w_ar ws (n_v vs 0) 160) ((w_fi ws (n_v vs 0) 157 - 1)) = 0) ∨ (w_ei ws (w_ar ws (n_v vs 0) 160) ((w_fi ws (n_v vs 0) 157 - 1)) = 4))) := f3
  obtain ⟨f4, hf⟩ := fc_un (show (20 : Nat) < 100 from by decide) hf
  have f4 : 1 * v_iv (n_v vs 2) + ((-1) * w_fi ws (n_v vs 0) 158 + 0) ≤ 0 := f4
  obtain ⟨f5, hf⟩ := fc_un (show (20 : Nat) < 100 from by decide) hf
  have f5 : 1 * w_fi ws (n_v vs 0) 159 + 0 ≤ 13 := f5
  obtain ⟨f6, hf⟩ := fc_un (show (20 : Nat) < 100 from by decide) hf
  have f6 : (-1) * w_fi ws (n_v vs 0) 159 + 0 ≤ (-13) := f6
  obtain ⟨f7, hf⟩ := fc_un (show (20 : Nat) < 100 from by decide) hf
  have f7 : (-1) * w_fi ws (n_v vs 0) 8 + 0 ≤ (-1) := f7
  obtain ⟨ta1, w1, le1, ⟨_, s1⟩, hf⟩ := fc_us (show ¬ (102 : Nat) < 100 from by decide) hf
  obtain ⟨f9, hf⟩ := fc_un (show (23 : Nat) < 100 from by decide) hf
  have f9 : 1 * v_iv (n_v vs 1) + ((-1) * v_iv (n_v vs 2) + 0) ≤ 0 := f9
  have cr_0_160 : ta (w_ar ws (n_v vs 0) 160) = some 259 := tv_rg (th_fd hD hth r0 (g := GG_150) rfl (k := 160) (t := (2, 0, 0, [259])) rfl rfl)
  have hK_0_160 : ∀ j : Int, 0 ≤ j → j < 2010 → 0 ≤ w_ei ws (w_ar ws (n_v vs 0) 160) j ∧ w_ei ws (w_ar ws (n_v vs 0) 160) j ≤ 4 := fun j h0 h1 => th_el hD hth cr_0_160 (kd := 0) (n := 2010) (m := 2010) (lo := 0) (hi := 4) (rs := []) (L := []) rfl (by decide) (j := j.toNat) (by omega)
  have kz_0_8 : 0 ≤ w_fi ws (n_v vs 0) 8 ∧ w_fi ws (n_v vs 0) 8 ≤ 5 := tv_rng (th_fd hD hth r0 (g := GG_150) rfl (k := 8) (t := (0, 0, 5, [])) rfl rfl)
  have kz_0_157 : 0 ≤ w_fi ws (n_v vs 0) 157 ∧ w_fi ws (n_v vs 0) 157 ≤ 2010 := tv_rng (th_fd hD hth r0 (g := GG_150) rfl (k := 157) (t := (0, 0, 2010, [])) rfl rfl)
  have kz_0_158 : 0 ≤ w_fi ws (n_v vs 0) 158 ∧ w_fi ws (n_v vs 0) 158 ≤ 2009 := tv_rng (th_fd hD hth r0 (g := GG_150) rfl (k := 158) (t := (0, 0, 2009, [])) rfl rfl)
  have kz_0_159 : 0 ≤ w_fi ws (n_v vs 0) 159 ∧ w_fi ws (n_v vs 0) 159 ≤ 13 := tv_rng (th_fd hD hth r0 (g := GG_150) rfl (k := 159) (t := (0, 0, 13, [])) rfl rfl)
  have kz_0_164 : 0 ≤ w_fi ws (n_v vs 0) 164 ∧ w_fi ws (n_v vs 0) 164 ≤ 1 := tv_rng (th_fd hD hth r0 (g := GG_150) rfl (k := 164) (t := (0, 0, 1, [])) rfl rfl)
  have kz_0_165 : (-1) ≤ w_fi ws (n_v vs 0) 165 ∧ w_fi ws (n_v vs 0) 165 ≤ 47 := tv_rng (th_fd hD hth r0 (g := GG_150) rfl (k := 165) (t := (0, -1, 47, [])) rfl rfl)
  have kb_0_158 : 0 ≤ w_fi ws (n_v vs 0) 158 ∧ w_fi ws (n_v vs 0) 158 ≤ 2009 := tv_rng (th_fd hD hth r0 (g := GG_150) rfl (k := 158) (t := (0, 0, 2009, [])) rfl rfl)
  obtain ⟨x, ex, hx⟩ := iv_ex (ta := ta) (lo := 0) (hi := 2010) (z := 2010 + ((-1) * w_fi ws (n_v vs 0) 158 + 0)) (by omega) (by omega) (by omega) (by omega)
  have ex2 : v_iv (Value.int x) = 2010 + ((-1) * w_fi ws (n_v vs 0) 158 + 0) := ex
  have ex3 : 0 ≤ v_iv (Value.int x) ∧ v_iv (Value.int x) ≤ 2010 := tv_rng hx
  have e_0 : n_v (vs ++ [Value.int x]) 0 = n_v vs 0 := n_v_old (by rw [hl]; decide)
  have e_1 : n_v (vs ++ [Value.int x]) 1 = n_v vs 1 := n_v_old (by rw [hl]; decide)
  have e_4 : n_v (vs ++ [Value.int x]) 4 = Value.int x := n_v_new hl
  have nf0 : fc_1 (20, [0], [50, 2, 1, 158, 157, 160, 2, 12, 0, 7, 4, 3, 2, 0, 158, 0, 1, 2, 0, 157, 2, 7, 0, 3, 2, 0, 157, 0, 2010, 3, 14, 1, 10, 3, 0, 160, 5, 3, 2, 0, 157, 0, 1, 0, 0, 1, 10, 3, 0, 160, 5, 3, 2, 0, 157, 0, 1, 0, 4]) ws (vs ++ [Value.int x]) := by
    refine ⟨fun n hn => ?_, ?_⟩
    · have hn : n ∈ [0] := hn
      rw [List.length_append, hl]
      simp only [List.mem_cons, List.not_mem_nil, or_false] at hn
      show n < 4 + 1; omega
    · show ((w_fi ws (n_v (vs ++ [Value.int x]) 0) 158 + 1) ≤ w_fi ws (n_v (vs ++ [Value.int x]) 0) 157) ∧ ((w_fi ws (n_v (vs ++ [Value.int x]) 0) 157 ≤ 2010) ∧ ((w_ei ws (w_ar ws (n_v (vs ++ [Value.int x]) 0) 160) ((w_fi ws (n_v (vs ++ [Value.int x]) 0) 157 - 1)) = 0) ∨ (w_ei ws (w_ar ws (n_v (vs ++ [Value.int x]) 0) 160) ((w_fi ws (n_v (vs ++ [Value.int x]) 0) 157 - 1)) = 4)))
      rw [e_0]
      first | omega | grind
  have nf1 : fc_1 (20, [1, 0], [30, 0, 1, 0, 0, -1, 1, 158]) ws (vs ++ [Value.int x]) := by
    refine ⟨fun n hn => ?_, ?_⟩
    · have hn : n ∈ [1, 0] := hn
      rw [List.length_append, hl]
      simp only [List.mem_cons, List.not_mem_nil, or_false] at hn
      show n < 4 + 1; omega
    · show 1 * v_iv (n_v (vs ++ [Value.int x]) 1) + ((-1) * w_fi ws (n_v (vs ++ [Value.int x]) 0) 158 + 0) ≤ 0
      rw [e_0]
      rw [e_1]
      omega
  have nf2 : fc_1 (20, [0], [50, 2, 0, 164, 165, 4, 7, 1, 3, 2, 0, 164, 0, 0, 0, 3, 2, 0, 165, 0, 23]) ws (vs ++ [Value.int x]) := by
    refine ⟨fun n hn => ?_, ?_⟩
    · have hn : n ∈ [0] := hn
      rw [List.length_append, hl]
      simp only [List.mem_cons, List.not_mem_nil, or_false] at hn
      show n < 4 + 1; omega
    · show (w_fi ws (n_v (vs ++ [Value.int x]) 0) 164 = 0) → (w_fi ws (n_v (vs ++ [Value.int x]) 0) 165 ≤ 23)
      rw [e_0]
      first | omega | grind
  have nf3 : fc_1 (20, [0], [30, 13, 1, 1, 159]) ws (vs ++ [Value.int x]) := by
    refine ⟨fun n hn => ?_, ?_⟩
    · have hn : n ∈ [0] := hn
      rw [List.length_append, hl]
      simp only [List.mem_cons, List.not_mem_nil, or_false] at hn
      show n < 4 + 1; omega
    · show 1 * w_fi ws (n_v (vs ++ [Value.int x]) 0) 159 + 0 ≤ 13
      rw [e_0]
      omega
  have nf4 : fc_1 (20, [0], [30, -13, -1, 1, 159]) ws (vs ++ [Value.int x]) := by
    refine ⟨fun n hn => ?_, ?_⟩
    · have hn : n ∈ [0] := hn
      rw [List.length_append, hl]
      simp only [List.mem_cons, List.not_mem_nil, or_false] at hn
      show n < 4 + 1; omega
    · show (-1) * w_fi ws (n_v (vs ++ [Value.int x]) 0) 159 + 0 ≤ (-13)
      rw [e_0]
      omega
  have nf5 : fc_1 (20, [0], [30, -1, -1, 1, 8]) ws (vs ++ [Value.int x]) := by
    refine ⟨fun n hn => ?_, ?_⟩
    · have hn : n ∈ [0] := hn
      rw [List.length_append, hl]
      simp only [List.mem_cons, List.not_mem_nil, or_false] at hn
      show n < 4 + 1; omega
    · show (-1) * w_fi ws (n_v (vs ++ [Value.int x]) 0) 8 + 0 ≤ (-1)
      rw [e_0]
      omega
  have nf6 : fc_1 (24, [0, 0], []) ws (vs ++ [Value.int x]) := by
    refine ⟨fun n hn => ?_, ?_⟩
    · have hn : n ∈ [0, 0] := hn
      rw [List.length_append, hl]
      simp only [List.mem_cons, List.not_mem_nil, or_false] at hn
      show n < 4 + 1; omega
    · show n_v (vs ++ [Value.int x]) 0 = n_v (vs ++ [Value.int x]) 0
      first | rfl | simp only [e_0]
  have nf7 : fc_1 (20, [4, 0], [30, 2010, 1, 0, 0, 1, 1, 158]) ws (vs ++ [Value.int x]) := by
    refine ⟨fun n hn => ?_, ?_⟩
    · have hn : n ∈ [4, 0] := hn
      rw [List.length_append, hl]
      simp only [List.mem_cons, List.not_mem_nil, or_false] at hn
      show n < 4 + 1; omega
    · show 1 * v_iv (n_v (vs ++ [Value.int x]) 4) + (1 * w_fi ws (n_v (vs ++ [Value.int x]) 0) 158 + 0) ≤ 2010
      rw [e_0]
      rw [e_4]
      omega
  have nf8 : fc_1 (20, [4, 0], [30, -2010, -1, 0, 0, -1, 1, 158]) ws (vs ++ [Value.int x]) := by
    refine ⟨fun n hn => ?_, ?_⟩
    · have hn : n ∈ [4, 0] := hn
      rw [List.length_append, hl]
      simp only [List.mem_cons, List.not_mem_nil, or_false] at hn
      show n < 4 + 1; omega
    · show (-1) * v_iv (n_v (vs ++ [Value.int x]) 4) + ((-1) * w_fi ws (n_v (vs ++ [Value.int x]) 0) 158 + 0) ≤ (-2010)
      rw [e_0]
      rw [e_4]
      omega
  exact ⟨(fun _ h => (by cases h)), [Value.int x], ag_one hx, List.forall_mem_cons.mpr ⟨⟨show (20 : Nat) < 100 from by decide, nf0⟩, List.forall_mem_cons.mpr ⟨⟨show (20 : Nat) < 100 from by decide, nf1⟩, List.forall_mem_cons.mpr ⟨⟨show (20 : Nat) < 100 from by decide, nf2⟩, List.forall_mem_cons.mpr ⟨⟨show (20 : Nat) < 100 from by decide, nf3⟩, List.forall_mem_cons.mpr ⟨⟨show (20 : Nat) < 100 from by decide, nf4⟩, List.forall_mem_cons.mpr ⟨⟨show (20 : Nat) < 100 from by decide, nf5⟩, List.forall_mem_cons.mpr ⟨⟨show (24 : Nat) < 100 from by decide, nf6⟩, List.forall_mem_cons.mpr ⟨⟨show (20 : Nat) < 100 from by decide, nf7⟩, List.forall_mem_cons.mpr ⟨⟨show (20 : Nat) < 100 from by decide, nf8⟩, (fun _ h => (by cases h))⟩⟩⟩⟩⟩⟩⟩⟩⟩, (fun _ h => (by cases h))⟩
def o_Mo_test_at_f13_2 : or_T := (48, 8, [(0, (2, 0, 0, [150])), (1, (0, 0, 2009, [])), (2, (2, 0, 0, [150])), (5, (0, 0, 2010, [])), (7, (0, 0, 0, []))], [(8, [7], [0]), (20, [2], [50, 2, 1, 158, 157, 160, 2, 12, 0, 7, 4, 3, 2, 0, 158, 0, 1, 2, 0, 157, 2, 7, 0, 3, 2, 0, 157, 0, 2010, 3, 14, 1, 10, 3, 0, 160, 5, 3, 2, 0, 157, 0, 1, 0, 0, 1, 10, 3, 0, 160, 5, 3, 2, 0, 157, 0, 1, 0, 4]), (20, [1, 2], [30, 0, 1, 0, 0, -1, 1, 158]), (20, [2], [30, 13, 1, 1, 159]), (20, [2], [30, -13, -1, 1, 159]), (20, [2], [30, -1, -1, 1, 8]), (24, [0, 2], []), (20, [5, 2], [30, 2010, 1, 0, 0, 1, 1, 158]), (20, [5, 2], [30, -2010, -1, 0, 0, -1, 1, 158]), (20, [7, 2], [50, 1, 1, 1158, 1160, 4, 6, 1, 2, 1, 0, 0, 1, 1, 6, 3, 1, 160, 2, 1, 158, 0, 1])], [], [], [(20, [0], [50, 2, 1, 158, 157, 160, 2, 12, 0, 7, 4, 3, 2, 0, 158, 0, 1, 2, 0, 157, 2, 7, 0, 3, 2, 0, 157, 0, 2010, 3, 14, 1, 10, 3, 0, 160, 5, 3, 2, 0, 157, 0, 1, 0, 0, 1, 10, 3, 0, 160, 5, 3, 2, 0, 157, 0, 1, 0, 4]), (20, [1, 0], [30, 0, 1, 0, 0, -1, 1, 158]), (20, [0], [30, 13, 1, 1, 159]), (20, [0], [30, -13, -1, 1, 159]), (20, [0], [30, -1, -1, 1, 8])], [], [])
theorem oo_Mo_test_at_f13_2 {kA : Nat → ClassId} : or_ok kA GG o_Mo_test_at_f13_2 := by
  intro A ta ws vs hD hth hl hk hds hf
  have hl : vs.length = 8 := hl
  have hk : ∀ q ∈ ([(0, (2, 0, 0, [150])), (1, (0, 0, 2009, [])), (2, (2, 0, 0, [150])), (5, (0, 0, 2010, [])), (7, (0, 0, 0, []))] : List (Nat × tv_T)), tv_ok ta q.2 (n_v vs q.1) := hk
  obtain ⟨t0, hk⟩ := List.forall_mem_cons.mp hk
  have t0 : tv_ok ta (2, 0, 0, [150]) (n_v vs 0) := t0
  have r0 : ta (v_ad (n_v vs 0)) = some 150 := tv_rg t0
  obtain ⟨t1, hk⟩ := List.forall_mem_cons.mp hk
  have t1 : tv_ok ta (0, 0, 2009, []) (n_v vs 1) := t1
  have k1 : 0 ≤ v_iv (n_v vs 1) ∧ v_iv (n_v vs 1) ≤ 2009 := tv_rng t1
  obtain ⟨t2, hk⟩ := List.forall_mem_cons.mp hk
  have t2 : tv_ok ta (2, 0, 0, [150]) (n_v vs 2) := t2
  have r2 : ta (v_ad (n_v vs 2)) = some 150 := tv_rg t2
  obtain ⟨t5, hk⟩ := List.forall_mem_cons.mp hk
  have t5 : tv_ok ta (0, 0, 2010, []) (n_v vs 5) := t5
  have k5 : 0 ≤ v_iv (n_v vs 5) ∧ v_iv (n_v vs 5) ≤ 2010 := tv_rng t5
  obtain ⟨t7, hk⟩ := List.forall_mem_cons.mp hk
  have t7 : tv_ok ta (0, 0, 0, []) (n_v vs 7) := t7
  have k7 : 0 ≤ v_iv (n_v vs 7) ∧ v_iv (n_v vs 7) ≤ 0 := tv_rng t7
  have hf : fc_ok [(8, [7], [0]), (20, [2], [50, 2, 1, 158, 157, 160, 2, 12, 0, 7, 4, 3, 2, 0, 158, 0, 1, 2, 0, 157, 2, 7, 0, 3, 2, 0, 157, 0, 2010, 3, 14, 1, 10, 3, 0, 160, 5, 3, 2, 0, 157, 0, 1, 0, 0, 1, 10, 3, 0, 160, 5, 3, 2, 0, 157, 0, 1, 0, 4]), (20, [1, 2], [30, 0, 1, 0, 0, -1, 1, 158]), (20, [2], [30, 13, 1, 1, 159]), (20, [2], [30, -13, -1, 1, 159]), (20, [2], [30, -1, -1, 1, 8]), (24, [0, 2], []), (20, [5, 2], [30, 2010, 1, 0, 0, 1, 1, 158]), (20, [5, 2], [30, -2010, -1, 0, 0, -1, 1, 158]), (20, [7, 2], [50, 1, 1, 1158, 1160, 4, 6, 1, 2, 1, 0, 0, 1, 1, 6, 3, 1, 160, 2, 1, 158, 0, 1])] ta ws vs := hf
  obtain ⟨f0, hf⟩ := fc_un (show (8 : Nat) < 100 from by decide) hf
  have f0 : v_iv (n_v vs 7) = 0 := f0
  obtain ⟨f1, hf⟩ := fc_un (show (20 : Nat) < 100 from by decide) hf
  have f1 : ((w_fi ws (n_v vs 2) 158 + 1) ≤ w_fi ws (n_v vs 2) 157) ∧ ((w_fi ws (n_v vs 2) 157 ≤ 2010) ∧ ((w_ei ws (w_ar ws (n_v vs 2) 160) ((w_fi ws (n_v vs 2) 157 - 1)) = 0) ∨ (w_ei ws (w_ar ws (n_v vs 2) 160) ((w_fi ws (n_v vs 2) 157 - 1)) = 4))) := f1
  obtain ⟨f2, hf⟩ := fc_un (show (20 : Nat) < 100 from by decide) hf
  have f2 : 1 * v_iv (n_v vs 1) + ((-1) * w_fi ws (n_v vs 2) 158 + 0) ≤ 0 := f2
  obtain ⟨f3, hf⟩ := fc_un (show (20 : Nat) < 100 from by decide) hf
  have f3 : 1 * w_fi ws (n_v vs 2) 159 + 0 ≤ 13 := f3
  obtain ⟨f4, hf⟩ := fc_un (show (20 : Nat) < 100 from by decide) hf
  have f4 : (-1) * w_fi ws (n_v vs 2) 159 + 0 ≤ (-13) := f4
  obtain ⟨f5, hf⟩ := fc_un (show (20 : Nat) < 100 from by decide) hf
  have f5 : (-1) * w_fi ws (n_v vs 2) 8 + 0 ≤ (-1) := f5
  obtain ⟨f6, hf⟩ := fc_un (show (24 : Nat) < 100 from by decide) hf
  have f6 : n_v vs 0 = n_v vs 2 := f6
  obtain ⟨f7, hf⟩ := fc_un (show (20 : Nat) < 100 from by decide) hf
  have f7 : 1 * v_iv (n_v vs 5) + (1 * w_fi ws (n_v vs 2) 158 + 0) ≤ 2010 := f7
  obtain ⟨f8, hf⟩ := fc_un (show (20 : Nat) < 100 from by decide) hf
  have f8 : (-1) * v_iv (n_v vs 5) + ((-1) * w_fi ws (n_v vs 2) 158 + 0) ≤ (-2010) := f8
  obtain ⟨f9, hf⟩ := fc_un (show (20 : Nat) < 100 from by decide) hf
  have f9 : (v_iv (n_v vs 7) = 1) → (w_ei ws (w_ar ws (n_v vs 2) 160) (w_fi ws (n_v vs 2) 158) = 1) := f9
  have q2 : n_v vs 2 = n_v vs 0 := f6.symm
  rw [q2] at f1
  rw [q2] at f2
  rw [q2] at f3
  rw [q2] at f4
  rw [q2] at f5
  rw [q2] at f7
  rw [q2] at f8
  rw [q2] at f9
  have cr_0_160 : ta (w_ar ws (n_v vs 0) 160) = some 259 := tv_rg (th_fd hD hth r0 (g := GG_150) rfl (k := 160) (t := (2, 0, 0, [259])) rfl rfl)
  have hK_0_160 : ∀ j : Int, 0 ≤ j → j < 2010 → 0 ≤ w_ei ws (w_ar ws (n_v vs 0) 160) j ∧ w_ei ws (w_ar ws (n_v vs 0) 160) j ≤ 4 := fun j h0 h1 => th_el hD hth cr_0_160 (kd := 0) (n := 2010) (m := 2010) (lo := 0) (hi := 4) (rs := []) (L := []) rfl (by decide) (j := j.toNat) (by omega)
  have kz_0_8 : 0 ≤ w_fi ws (n_v vs 0) 8 ∧ w_fi ws (n_v vs 0) 8 ≤ 5 := tv_rng (th_fd hD hth r0 (g := GG_150) rfl (k := 8) (t := (0, 0, 5, [])) rfl rfl)
  have kz_0_157 : 0 ≤ w_fi ws (n_v vs 0) 157 ∧ w_fi ws (n_v vs 0) 157 ≤ 2010 := tv_rng (th_fd hD hth r0 (g := GG_150) rfl (k := 157) (t := (0, 0, 2010, [])) rfl rfl)
  have kz_0_158 : 0 ≤ w_fi ws (n_v vs 0) 158 ∧ w_fi ws (n_v vs 0) 158 ≤ 2009 := tv_rng (th_fd hD hth r0 (g := GG_150) rfl (k := 158) (t := (0, 0, 2009, [])) rfl rfl)
  have kz_0_159 : 0 ≤ w_fi ws (n_v vs 0) 159 ∧ w_fi ws (n_v vs 0) 159 ≤ 13 := tv_rng (th_fd hD hth r0 (g := GG_150) rfl (k := 159) (t := (0, 0, 13, [])) rfl rfl)
  have nf0 : fc_1 (20, [0], [50, 2, 1, 158, 157, 160, 2, 12, 0, 7, 4, 3, 2, 0, 158, 0, 1, 2, 0, 157, 2, 7, 0, 3, 2, 0, 157, 0, 2010, 3, 14, 1, 10, 3, 0, 160, 5, 3, 2, 0, 157, 0, 1, 0, 0, 1, 10, 3, 0, 160, 5, 3, 2, 0, 157, 0, 1, 0, 4]) ws (vs) := by
    refine ⟨fun n hn => ?_, ?_⟩
    · have hn : n ∈ [0] := hn
      rw [hl]
      simp only [List.mem_cons, List.not_mem_nil, or_false] at hn
      show n < 8; omega
    · show ((w_fi ws (n_v vs 0) 158 + 1) ≤ w_fi ws (n_v vs 0) 157) ∧ ((w_fi ws (n_v vs 0) 157 ≤ 2010) ∧ ((w_ei ws (w_ar ws (n_v vs 0) 160) ((w_fi ws (n_v vs 0) 157 - 1)) = 0) ∨ (w_ei ws (w_ar ws (n_v vs 0) 160) ((w_fi ws (n_v vs 0) 157 - 1)) = 4)))
      first | omega | grind
  have nf1 : fc_1 (20, [1, 0], [30, 0, 1, 0, 0, -1, 1, 158]) ws (vs) := by
    refine ⟨fun n hn => ?_, ?_⟩
    · have hn : n ∈ [1, 0] := hn
      rw [hl]
      simp only [List.mem_cons, List.not_mem_nil, or_false] at hn
      show n < 8; omega
    · show 1 * v_iv (n_v vs 1) + ((-1) * w_fi ws (n_v vs 0) 158 + 0) ≤ 0
      omega
  have nf2 : fc_1 (20, [0], [30, 13, 1, 1, 159]) ws (vs) := by
    refine ⟨fun n hn => ?_, ?_⟩
    · have hn : n ∈ [0] := hn
      rw [hl]
      simp only [List.mem_cons, List.not_mem_nil, or_false] at hn
      show n < 8; omega
    · show 1 * w_fi ws (n_v vs 0) 159 + 0 ≤ 13
      omega
  have nf3 : fc_1 (20, [0], [30, -13, -1, 1, 159]) ws (vs) := by
    refine ⟨fun n hn => ?_, ?_⟩
    · have hn : n ∈ [0] := hn
      rw [hl]
      simp only [List.mem_cons, List.not_mem_nil, or_false] at hn
      show n < 8; omega
    · show (-1) * w_fi ws (n_v vs 0) 159 + 0 ≤ (-13)
      omega
  have nf4 : fc_1 (20, [0], [30, -1, -1, 1, 8]) ws (vs) := by
    refine ⟨fun n hn => ?_, ?_⟩
    · have hn : n ∈ [0] := hn
      rw [hl]
      simp only [List.mem_cons, List.not_mem_nil, or_false] at hn
      show n < 8; omega
    · show (-1) * w_fi ws (n_v vs 0) 8 + 0 ≤ (-1)
      omega
  refine ⟨(fun _ h => (by cases h)), [], trivial, ?_, (fun _ h => (by cases h))⟩
  rw [List.append_nil]
  exact List.forall_mem_cons.mpr ⟨⟨show (20 : Nat) < 100 from by decide, nf0⟩, List.forall_mem_cons.mpr ⟨⟨show (20 : Nat) < 100 from by decide, nf1⟩, List.forall_mem_cons.mpr ⟨⟨show (20 : Nat) < 100 from by decide, nf2⟩, List.forall_mem_cons.mpr ⟨⟨show (20 : Nat) < 100 from by decide, nf3⟩, List.forall_mem_cons.mpr ⟨⟨show (20 : Nat) < 100 from by decide, nf4⟩, (fun _ h => (by cases h))⟩⟩⟩⟩⟩
def o_Mo_test_at_f13_3 : or_T := (22, 10, [(0, (2, 0, 0, [150])), (1, (0, 0, 2009, [])), (2, (2, 0, 0, [150])), (4, (0, 0, 2009, [])), (5, (0, 0, 2010, [])), (7, (0, 1, 1, [])), (8, (0, 1, 1, [])), (9, (0, 1, 2010, []))], [(1, [9, 4, 8], []), (9, [4, 2], [158]), (8, [7], [1]), (20, [2], [50, 2, 1, 158, 157, 160, 2, 12, 0, 7, 4, 3, 2, 0, 158, 0, 1, 2, 0, 157, 2, 7, 0, 3, 2, 0, 157, 0, 2010, 3, 14, 1, 10, 3, 0, 160, 5, 3, 2, 0, 157, 0, 1, 0, 0, 1, 10, 3, 0, 160, 5, 3, 2, 0, 157, 0, 1, 0, 4]), (20, [1, 2], [30, 0, 1, 0, 0, -1, 1, 158]), (24, [0, 2], []), (20, [5, 2], [30, 2010, 1, 0, 0, 1, 1, 158]), (20, [5, 2], [30, -2010, -1, 0, 0, -1, 1, 158]), (20, [7, 2], [50, 1, 1, 1158, 1160, 4, 6, 1, 2, 1, 0, 0, 1, 1, 6, 3, 1, 160, 2, 1, 158, 0, 1])], [(9, (0, 1, 2009, []))], [], [], [], [(9, 4, 1, 1), (9, 1, -4294967296, 2010), (1, 4, -4294967296, 2009), (4, 1, -4294967296, 2009)])
theorem oo_Mo_test_at_f13_3 {kA : Nat → ClassId} : or_ok kA GG o_Mo_test_at_f13_3 := by
  intro A ta ws vs hD hth hl hk hds hf
  have hl : vs.length = 10 := hl
  have hk : ∀ q ∈ ([(0, (2, 0, 0, [150])), (1, (0, 0, 2009, [])), (2, (2, 0, 0, [150])), (4, (0, 0, 2009, [])), (5, (0, 0, 2010, [])), (7, (0, 1, 1, [])), (8, (0, 1, 1, [])), (9, (0, 1, 2010, []))] : List (Nat × tv_T)), tv_ok ta q.2 (n_v vs q.1) := hk
  obtain ⟨t0, hk⟩ := List.forall_mem_cons.mp hk
  have t0 : tv_ok ta (2, 0, 0, [150]) (n_v vs 0) := t0
  have r0 : ta (v_ad (n_v vs 0)) = some 150 := tv_rg t0
  obtain ⟨t1, hk⟩ := List.forall_mem_cons.mp hk
  have t1 : tv_ok ta (0, 0, 2009, []) (n_v vs 1) := t1
  have k1 : 0 ≤ v_iv (n_v vs 1) ∧ v_iv (n_v vs 1) ≤ 2009 := tv_rng t1
  obtain ⟨t2, hk⟩ := List.forall_mem_cons.mp hk
  have t2 : tv_ok ta (2, 0, 0, [150]) (n_v vs 2) := t2
  have r2 : ta (v_ad (n_v vs 2)) = some 150 := tv_rg t2
  obtain ⟨t4, hk⟩ := List.forall_mem_cons.mp hk
  have t4 : tv_ok ta (0, 0, 2009, []) (n_v vs 4) := t4
  have k4 : 0 ≤ v_iv (n_v vs 4) ∧ v_iv (n_v vs 4) ≤ 2009 := tv_rng t4
  obtain ⟨t5, hk⟩ := List.forall_mem_cons.mp hk
  have t5 : tv_ok ta (0, 0, 2010, []) (n_v vs 5) := t5
  have k5 : 0 ≤ v_iv (n_v vs 5) ∧ v_iv (n_v vs 5) ≤ 2010 := tv_rng t5
  obtain ⟨t7, hk⟩ := List.forall_mem_cons.mp hk
  have t7 : tv_ok ta (0, 1, 1, []) (n_v vs 7) := t7
  have k7 : 1 ≤ v_iv (n_v vs 7) ∧ v_iv (n_v vs 7) ≤ 1 := tv_rng t7
  obtain ⟨t8, hk⟩ := List.forall_mem_cons.mp hk
  have t8 : tv_ok ta (0, 1, 1, []) (n_v vs 8) := t8
  have k8 : 1 ≤ v_iv (n_v vs 8) ∧ v_iv (n_v vs 8) ≤ 1 := tv_rng t8
  obtain ⟨t9, hk⟩ := List.forall_mem_cons.mp hk
  have t9 : tv_ok ta (0, 1, 2010, []) (n_v vs 9) := t9
  have k9 : 1 ≤ v_iv (n_v vs 9) ∧ v_iv (n_v vs 9) ≤ 2010 := tv_rng t9
  have hds : ∀ q ∈ ([(9, 4, 1, 1), (9, 1, -4294967296, 2010), (1, 4, -4294967296, 2009), (4, 1, -4294967296, 2009)] : List of_T), n_iv vs q.2.1 + q.2.2.1 ≤ n_iv vs q.1 ∧ n_iv vs q.1 ≤ n_iv vs q.2.1 + q.2.2.2 := hds
  obtain ⟨d0, hds⟩ := List.forall_mem_cons.mp hds
  have d0 : v_iv (n_v vs 4) + 1 ≤ v_iv (n_v vs 9) ∧ v_iv (n_v vs 9) ≤ v_iv (n_v vs 4) + 1 := d0
  obtain ⟨d1, hds⟩ := List.forall_mem_cons.mp hds
  have d1 : v_iv (n_v vs 1) + (-4294967296) ≤ v_iv (n_v vs 9) ∧ v_iv (n_v vs 9) ≤ v_iv (n_v vs 1) + 2010 := d1
  obtain ⟨d2, hds⟩ := List.forall_mem_cons.mp hds
  have d2 : v_iv (n_v vs 4) + (-4294967296) ≤ v_iv (n_v vs 1) ∧ v_iv (n_v vs 1) ≤ v_iv (n_v vs 4) + 2009 := d2
  obtain ⟨d3, hds⟩ := List.forall_mem_cons.mp hds
  have d3 : v_iv (n_v vs 1) + (-4294967296) ≤ v_iv (n_v vs 4) ∧ v_iv (n_v vs 4) ≤ v_iv (n_v vs 1) + 2009 := d3
  have hf : fc_ok [(1, [9, 4, 8], []), (9, [4, 2], [158]), (8, [7], [1]), (20, [2], [50, 2, 1, 158, 157, 160, 2, 12, 0, 7, 4, 3, 2, 0, 158, 0, 1, 2, 0, 157, 2, 7, 0, 3, 2, 0, 157, 0, 2010, 3, 14, 1, 10, 3, 0, 160, 5, 3, 2, 0, 157, 0, 1, 0, 0, 1, 10, 3, 0, 160, 5, 3, 2, 0, 157, 0, 1, 0, 4]), (20, [1, 2], [30, 0, 1, 0, 0, -1, 1, 158]), (24, [0, 2], []), (20, [5, 2], [30, 2010, 1, 0, 0, 1, 1, 158]), (20, [5, 2], [30, -2010, -1, 0, 0, -1, 1, 158]), (20, [7, 2], [50, 1, 1, 1158, 1160, 4, 6, 1, 2, 1, 0, 0, 1, 1, 6, 3, 1, 160, 2, 1, 158, 0, 1])] ta ws vs := hf
  obtain ⟨f0, hf⟩ := fc_un (show (1 : Nat) < 100 from by decide) hf
  have f0 : v_iv (n_v vs 9) = v_iv (n_v vs 4) + v_iv (n_v vs 8) := f0
  obtain ⟨f1, hf⟩ := fc_un (show (9 : Nat) < 100 from by decide) hf
  have f1 : n_v vs 4 = w_fd ws (v_ad (n_v vs 2)) 158 := f1
  obtain ⟨f2, hf⟩ := fc_un (show (8 : Nat) < 100 from by decide) hf
  have f2 : v_iv (n_v vs 7) ≠ 0 := f2
  obtain ⟨f3, hf⟩ := fc_un (show (20 : Nat) < 100 from by decide) hf
  have f3 : ((w_fi ws (n_v vs 2) 158 + 1) ≤ w_fi ws (n_v vs 2) 157) ∧ ((w_fi ws (n_v vs 2) 157 ≤ 2010) ∧ ((w_ei ws (w_ar ws (n_v vs 2) 160) ((w_fi ws (n_v vs 2) 157 - 1)) = 0) ∨ (w_ei ws (w_ar ws (n_v vs 2) 160) ((w_fi ws (n_v vs 2) 157 - 1)) = 4))) := f3
  obtain ⟨f4, hf⟩ := fc_un (show (20 : Nat) < 100 from by decide) hf
  have f4 : 1 * v_iv (n_v vs 1) + ((-1) * w_fi ws (n_v vs 2) 158 + 0) ≤ 0 := f4
  obtain ⟨f5, hf⟩ := fc_un (show (24 : Nat) < 100 from by decide) hf
  have f5 : n_v vs 0 = n_v vs 2 := f5
  obtain ⟨f6, hf⟩ := fc_un (show (20 : Nat) < 100 from by decide) hf
  have f6 : 1 * v_iv (n_v vs 5) + (1 * w_fi ws (n_v vs 2) 158 + 0) ≤ 2010 := f6
  obtain ⟨f7, hf⟩ := fc_un (show (20 : Nat) < 100 from by decide) hf
  have f7 : (-1) * v_iv (n_v vs 5) + ((-1) * w_fi ws (n_v vs 2) 158 + 0) ≤ (-2010) := f7
  obtain ⟨f8, hf⟩ := fc_un (show (20 : Nat) < 100 from by decide) hf
  have f8 : (v_iv (n_v vs 7) = 1) → (w_ei ws (w_ar ws (n_v vs 2) 160) (w_fi ws (n_v vs 2) 158) = 1) := f8
  have q2 : n_v vs 2 = n_v vs 0 := f5.symm
  rw [q2] at f1
  rw [q2] at f3
  rw [q2] at f4
  rw [q2] at f6
  rw [q2] at f7
  rw [q2] at f8
  have cr_0_160 : ta (w_ar ws (n_v vs 0) 160) = some 259 := tv_rg (th_fd hD hth r0 (g := GG_150) rfl (k := 160) (t := (2, 0, 0, [259])) rfl rfl)
  have g1 : v_iv (n_v vs 4) = w_fi ws (n_v vs 0) 158 := congrArg v_iv f1
  have hK_0_160 : ∀ j : Int, 0 ≤ j → j < 2010 → 0 ≤ w_ei ws (w_ar ws (n_v vs 0) 160) j ∧ w_ei ws (w_ar ws (n_v vs 0) 160) j ≤ 4 := fun j h0 h1 => th_el hD hth cr_0_160 (kd := 0) (n := 2010) (m := 2010) (lo := 0) (hi := 4) (rs := []) (L := []) rfl (by decide) (j := j.toNat) (by omega)
  have kz_0_157 : 0 ≤ w_fi ws (n_v vs 0) 157 ∧ w_fi ws (n_v vs 0) 157 ≤ 2010 := tv_rng (th_fd hD hth r0 (g := GG_150) rfl (k := 157) (t := (0, 0, 2010, [])) rfl rfl)
  have kz_0_158 : 0 ≤ w_fi ws (n_v vs 0) 158 ∧ w_fi ws (n_v vs 0) 158 ≤ 2009 := tv_rng (th_fd hD hth r0 (g := GG_150) rfl (k := 158) (t := (0, 0, 2009, [])) rfl rfl)
  have rf9 : tv_ok ta (0, 1, 2009, []) (n_v vs 9) := tv_in t9 (by first | omega | grind) (by first | omega | grind)
  refine ⟨List.forall_mem_cons.mpr ⟨rf9, (fun _ h => (by cases h))⟩, [], trivial, ?_, (fun _ h => (by cases h))⟩
  rw [List.append_nil]
  exact (fun _ h => (by cases h))
def o_Mo_test_at_f13_4 : or_T := (26, 10, [(0, (2, 0, 0, [150])), (1, (0, 0, 2009, [])), (2, (2, 0, 0, [150])), (4, (0, 0, 2009, [])), (5, (0, 0, 2010, [])), (7, (0, 1, 1, [])), (8, (0, 1, 1, [])), (9, (0, 1, 2009, []))], [(20, [2], [50, 2, 0, 164, 165, 4, 7, 1, 3, 2, 0, 164, 0, 0, 0, 3, 2, 0, 165, 0, 23]), (20, [2], [30, 13, 1, 1, 159]), (20, [2], [30, -13, -1, 1, 159]), (20, [2], [30, -1, -1, 1, 8]), (24, [0, 2], []), (101, [2, 9], [158]), (1, [9, 4, 8], []), (9, [4, 2], [158]), (8, [7], [1]), (20, [2], [50, 2, 1, 158, 157, 160, 2, 12, 0, 7, 4, 3, 2, 0, 158, 0, 1, 2, 0, 157, 2, 7, 0, 3, 2, 0, 157, 0, 2010, 3, 14, 1, 10, 3, 0, 160, 5, 3, 2, 0, 157, 0, 1, 0, 0, 1, 10, 3, 0, 160, 5, 3, 2, 0, 157, 0, 1, 0, 4]), (20, [1, 2], [30, 0, 1, 0, 0, -1, 1, 158]), (20, [2], [50, 2, 0, 164, 165, 4, 7, 1, 3, 2, 0, 164, 0, 0, 0, 3, 2, 0, 165, 0, 23]), (20, [2], [30, 13, 1, 1, 159]), (20, [2], [30, -13, -1, 1, 159]), (20, [2], [30, -1, -1, 1, 8]), (20, [5, 2], [30, 2010, 1, 0, 0, 1, 1, 158]), (20, [5, 2], [30, -2010, -1, 0, 0, -1, 1, 158]), (20, [7, 2], [50, 1, 1, 1158, 1160, 4, 6, 1, 2, 1, 0, 0, 1, 1, 6, 3, 1, 160, 2, 1, 158, 0, 1])], [], [(0, 0, 2009, [])], [(20, [2], [50, 2, 1, 158, 157, 160, 2, 12, 0, 7, 4, 3, 2, 0, 158, 0, 1, 2, 0, 157, 2, 7, 0, 3, 2, 0, 157, 0, 2010, 3, 14, 1, 10, 3, 0, 160, 5, 3, 2, 0, 157, 0, 1, 0, 0, 1, 10, 3, 0, 160, 5, 3, 2, 0, 157, 0, 1, 0, 4]), (20, [2, 10], [30, 0, 1, 1, 158, -1, 0, 0]), (20, [2, 10], [30, 0, -1, 1, 158, 1, 0, 0]), (20, [2], [50, 2, 0, 164, 165, 4, 7, 1, 3, 2, 0, 164, 0, 0, 0, 3, 2, 0, 165, 0, 23]), (20, [2], [30, 13, 1, 1, 159]), (20, [2], [30, -13, -1, 1, 159]), (20, [2], [30, -1, -1, 1, 8]), (23, [1, 10], [0, 1, -1]), (23, [5, 10], [-2011, -1, -1])], [], [(9, 4, 1, 1), (9, 1, -4294967296, 2010), (1, 4, -4294967296, 2009), (4, 1, -4294967296, 2009)])
theorem oo_Mo_test_at_f13_4 {kA : Nat → ClassId} : or_ok kA GG o_Mo_test_at_f13_4 := by
  intro A ta ws vs hD hth hl hk hds hf
  have hl : vs.length = 10 := hl
  have hk : ∀ q ∈ ([(0, (2, 0, 0, [150])), (1, (0, 0, 2009, [])), (2, (2, 0, 0, [150])), (4, (0, 0, 2009, [])), (5, (0, 0, 2010, [])), (7, (0, 1, 1, [])), (8, (0, 1, 1, [])), (9, (0, 1, 2009, []))] : List (Nat × tv_T)), tv_ok ta q.2 (n_v vs q.1) := hk
  obtain ⟨t0, hk⟩ := List.forall_mem_cons.mp hk
  have t0 : tv_ok ta (2, 0, 0, [150]) (n_v vs 0) := t0
  have r0 : ta (v_ad (n_v vs 0)) = some 150 := tv_rg t0
  obtain ⟨t1, hk⟩ := List.forall_mem_cons.mp hk
  have t1 : tv_ok ta (0, 0, 2009, []) (n_v vs 1) := t1
  have k1 : 0 ≤ v_iv (n_v vs 1) ∧ v_iv (n_v vs 1) ≤ 2009 := tv_rng t1
  obtain ⟨t2, hk⟩ := List.forall_mem_cons.mp hk
  have t2 : tv_ok ta (2, 0, 0, [150]) (n_v vs 2) := t2
  have r2 : ta (v_ad (n_v vs 2)) = some 150 := tv_rg t2
  obtain ⟨t4, hk⟩ := List.forall_mem_cons.mp hk
  have t4 : tv_ok ta (0, 0, 2009, []) (n_v vs 4) := t4
  have k4 : 0 ≤ v_iv (n_v vs 4) ∧ v_iv (n_v vs 4) ≤ 2009 := tv_rng t4
  obtain ⟨t5, hk⟩ := List.forall_mem_cons.mp hk
  have t5 : tv_ok ta (0, 0, 2010, []) (n_v vs 5) := t5
  have k5 : 0 ≤ v_iv (n_v vs 5) ∧ v_iv (n_v vs 5) ≤ 2010 := tv_rng t5
  obtain ⟨t7, hk⟩ := List.forall_mem_cons.mp hk
  have t7 : tv_ok ta (0, 1, 1, []) (n_v vs 7) := t7
  have k7 : 1 ≤ v_iv (n_v vs 7) ∧ v_iv (n_v vs 7) ≤ 1 := tv_rng t7
  obtain ⟨t8, hk⟩ := List.forall_mem_cons.mp hk
  have t8 : tv_ok ta (0, 1, 1, []) (n_v vs 8) := t8
  have k8 : 1 ≤ v_iv (n_v vs 8) ∧ v_iv (n_v vs 8) ≤ 1 := tv_rng t8
  obtain ⟨t9, hk⟩ := List.forall_mem_cons.mp hk
  have t9 : tv_ok ta (0, 1, 2009, []) (n_v vs 9) := t9
  have k9 : 1 ≤ v_iv (n_v vs 9) ∧ v_iv (n_v vs 9) ≤ 2009 := tv_rng t9
  have hds : ∀ q ∈ ([(9, 4, 1, 1), (9, 1, -4294967296, 2010), (1, 4, -4294967296, 2009), (4, 1, -4294967296, 2009)] : List of_T), n_iv vs q.2.1 + q.2.2.1 ≤ n_iv vs q.1 ∧ n_iv vs q.1 ≤ n_iv vs q.2.1 + q.2.2.2 := hds
  obtain ⟨d0, hds⟩ := List.forall_mem_cons.mp hds
  have d0 : v_iv (n_v vs 4) + 1 ≤ v_iv (n_v vs 9) ∧ v_iv (n_v vs 9) ≤ v_iv (n_v vs 4) + 1 := d0
  obtain ⟨d1, hds⟩ := List.forall_mem_cons.mp hds
  have d1 : v_iv (n_v vs 1) + (-4294967296) ≤ v_iv (n_v vs 9) ∧ v_iv (n_v vs 9) ≤ v_iv (n_v vs 1) + 2010 := d1
  obtain ⟨d2, hds⟩ := List.forall_mem_cons.mp hds
  have d2 : v_iv (n_v vs 4) + (-4294967296) ≤ v_iv (n_v vs 1) ∧ v_iv (n_v vs 1) ≤ v_iv (n_v vs 4) + 2009 := d2
  obtain ⟨d3, hds⟩ := List.forall_mem_cons.mp hds
  have d3 : v_iv (n_v vs 1) + (-4294967296) ≤ v_iv (n_v vs 4) ∧ v_iv (n_v vs 4) ≤ v_iv (n_v vs 1) + 2009 := d3
  have hf : fc_ok [(20, [2], [50, 2, 0, 164, 165, 4, 7, 1, 3, 2, 0, 164, 0, 0, 0, 3, 2, 0, 165, 0, 23]), (20, [2], [30, 13, 1, 1, 159]), (20, [2], [30, -13, -1, 1, 159]), (20, [2], [30, -1, -1, 1, 8]), (24, [0, 2], []), (101, [2, 9], [158]), (1, [9, 4, 8], []), (9, [4, 2], [158]), (8, [7], [1]), (20, [2], [50, 2, 1, 158, 157, 160, 2, 12, 0, 7, 4, 3, 2, 0, 158, 0, 1, 2, 0, 157, 2, 7, 0, 3, 2, 0, 157, 0, 2010, 3, 14, 1, 10, 3, 0, 160, 5, 3, 2, 0, 157, 0, 1, 0, 0, 1, 10, 3, 0, 160, 5, 3, 2, 0, 157, 0, 1, 0, 4]), (20, [1, 2], [30, 0, 1, 0, 0, -1, 1, 158]), (20, [2], [50, 2, 0, 164, 165, 4, 7, 1, 3, 2, 0, 164, 0, 0, 0, 3, 2, 0, 165, 0, 23]), (20, [2], [30, 13, 1, 1, 159]), (20, [2], [30, -13, -1, 1, 159]), (20, [2], [30, -1, -1, 1, 8]), (20, [5, 2], [30, 2010, 1, 0, 0, 1, 1, 158]), (20, [5, 2], [30, -2010, -1, 0, 0, -1, 1, 158]), (20, [7, 2], [50, 1, 1, 1158, 1160, 4, 6, 1, 2, 1, 0, 0, 1, 1, 6, 3, 1, 160, 2, 1, 158, 0, 1])] ta ws vs := hf
  obtain ⟨f0, hf⟩ := fc_un (show (20 : Nat) < 100 from by decide) hf
  have f0 : (w_fi ws (n_v vs 2) 164 = 0) → (w_fi ws (n_v vs 2) 165 ≤ 23) := f0
  obtain ⟨f1, hf⟩ := fc_un (show (20 : Nat) < 100 from by decide) hf
  have f1 : 1 * w_fi ws (n_v vs 2) 159 + 0 ≤ 13 := f1
  obtain ⟨f2, hf⟩ := fc_un (show (20 : Nat) < 100 from by decide) hf
  have f2 : (-1) * w_fi ws (n_v vs 2) 159 + 0 ≤ (-13) := f2
  obtain ⟨f3, hf⟩ := fc_un (show (20 : Nat) < 100 from by decide) hf
  have f3 : (-1) * w_fi ws (n_v vs 2) 8 + 0 ≤ (-1) := f3
  obtain ⟨f4, hf⟩ := fc_un (show (24 : Nat) < 100 from by decide) hf
  have f4 : n_v vs 0 = n_v vs 2 := f4
  obtain ⟨ta1, w1, le1, ⟨_, s1⟩, hf⟩ := fc_us (show ¬ (101 : Nat) < 100 from by decide) hf
  have s1 : (∀ b j, w_el ws b j = w_el w1 b j) ∧ ∀ b j, w_fd ws b j = if b = v_ad (n_v vs 2) ∧ j = 158 then n_v vs 9 else w_fd w1 b j := s1
  obtain ⟨f6, hf⟩ := fc_un (show (1 : Nat) < 100 from by decide) hf
  have f6 : v_iv (n_v vs 9) = v_iv (n_v vs 4) + v_iv (n_v vs 8) := f6
  obtain ⟨f7, hf⟩ := fc_un (show (9 : Nat) < 100 from by decide) hf
  have f7 : n_v vs 4 = w_fd w1 (v_ad (n_v vs 2)) 158 := f7
  obtain ⟨f8, hf⟩ := fc_un (show (8 : Nat) < 100 from by decide) hf
  have f8 : v_iv (n_v vs 7) ≠ 0 := f8
  obtain ⟨f9, hf⟩ := fc_un (show (20 : Nat) < 100 from by decide) hf
  have f9 : ((w_fi w1 (n_v vs 2) 158 + 1) ≤ w_fi w1 (n_v vs 2) 157) ∧ ((w_fi w1 (n_v vs 2) 157 ≤ 2010) ∧ ((w_ei w1 (w_ar w1 (n_v vs 2) 160) ((w_fi w1 (n_v vs 2) 157 - 1)) = 0) ∨ (w_ei w1 (w_ar w1 (n_v vs 2) 160) ((w_fi w1 (n_v vs 2) 157 - 1)) = 4))) := f9
  obtain ⟨f10, hf⟩ := fc_un (show (20 : Nat) < 100 from by decide) hf
  have f10 : 1 * v_iv (n_v vs 1) + ((-1) * w_fi w1 (n_v vs 2) 158 + 0) ≤ 0 := f10
  obtain ⟨f11, hf⟩ := fc_un (show (20 : Nat) < 100 from by decide) hf
  have f11 : (w_fi w1 (n_v vs 2) 164 = 0) → (w_fi w1 (n_v vs 2) 165 ≤ 23) := f11
  obtain ⟨f12, hf⟩ := fc_un (show (20 : Nat) < 100 from by decide) hf
  have f12 : 1 * w_fi w1 (n_v vs 2) 159 + 0 ≤ 13 := f12
  obtain ⟨f13, hf⟩ := fc_un (show (20 : Nat) < 100 from by decide) hf
  have f13 : (-1) * w_fi w1 (n_v vs 2) 159 + 0 ≤ (-13) := f13
  obtain ⟨f14, hf⟩ := fc_un (show (20 : Nat) < 100 from by decide) hf
  have f14 : (-1) * w_fi w1 (n_v vs 2) 8 + 0 ≤ (-1) := f14
  obtain ⟨f15, hf⟩ := fc_un (show (20 : Nat) < 100 from by decide) hf
  have f15 : 1 * v_iv (n_v vs 5) + (1 * w_fi w1 (n_v vs 2) 158 + 0) ≤ 2010 := f15
  obtain ⟨f16, hf⟩ := fc_un (show (20 : Nat) < 100 from by decide) hf
  have f16 : (-1) * v_iv (n_v vs 5) + ((-1) * w_fi w1 (n_v vs 2) 158 + 0) ≤ (-2010) := f16
  obtain ⟨f17, hf⟩ := fc_un (show (20 : Nat) < 100 from by decide) hf
  have f17 : (v_iv (n_v vs 7) = 1) → (w_ei w1 (w_ar w1 (n_v vs 2) 160) (w_fi w1 (n_v vs 2) 158) = 1) := f17
  have q2 : n_v vs 2 = n_v vs 0 := f4.symm
  rw [q2] at f0
  rw [q2] at f1
  rw [q2] at f2
  rw [q2] at f3
  rw [q2] at s1
  rw [q2] at f7
  rw [q2] at f9
  rw [q2] at f10
  rw [q2] at f11
  rw [q2] at f12
  rw [q2] at f13
  rw [q2] at f14
  rw [q2] at f15
  rw [q2] at f16
  rw [q2] at f17
  have ar_0_160_1 : w_ar w1 (n_v vs 0) 160 = w_ar ws (n_v vs 0) 160 := by show v_ad (w_fd w1 _ _) = v_ad (w_fd ws _ _); rw [s1.2, if_neg (fun e => absurd e.2 (by decide))]
  have cr_0_160 : ta (w_ar ws (n_v vs 0) 160) = some 259 := tv_rg (th_fd hD hth r0 (g := GG_150) rfl (k := 160) (t := (2, 0, 0, [259])) rfl rfl)
  have g7 : v_iv (n_v vs 4) = w_fi w1 (n_v vs 0) 158 := congrArg v_iv f7
  rw [ar_0_160_1] at f9
  rw [ar_0_160_1] at f17
  have fe_0_8_1 : w_fi ws (n_v vs 0) 8 = w_fi w1 (n_v vs 0) 8 := by show v_iv (w_fd _ _ _) = v_iv (w_fd _ _ _); rw [s1.2, if_neg (fun e => absurd e.2 (by decide))]
  have fe_0_157_1 : w_fi ws (n_v vs 0) 157 = w_fi w1 (n_v vs 0) 157 := by show v_iv (w_fd _ _ _) = v_iv (w_fd _ _ _); rw [s1.2, if_neg (fun e => absurd e.2 (by decide))]
  have fe_0_158_1 : w_fi ws (n_v vs 0) 158 = v_iv (n_v vs 9) := by show v_iv (w_fd _ _ _) = _; rw [s1.2, if_pos ⟨rfl, rfl⟩]
  have fe_0_159_1 : w_fi ws (n_v vs 0) 159 = w_fi w1 (n_v vs 0) 159 := by show v_iv (w_fd _ _ _) = v_iv (w_fd _ _ _); rw [s1.2, if_neg (fun e => absurd e.2 (by decide))]
  have fe_0_164_1 : w_fi ws (n_v vs 0) 164 = w_fi w1 (n_v vs 0) 164 := by show v_iv (w_fd _ _ _) = v_iv (w_fd _ _ _); rw [s1.2, if_neg (fun e => absurd e.2 (by decide))]
  have fe_0_165_1 : w_fi ws (n_v vs 0) 165 = w_fi w1 (n_v vs 0) 165 := by show v_iv (w_fd _ _ _) = v_iv (w_fd _ _ _); rw [s1.2, if_neg (fun e => absurd e.2 (by decide))]
  have hE_0_160_1 : ∀ j : Int, w_ei ws (w_ar ws (n_v vs 0) 160) j = w_ei w1 (w_ar ws (n_v vs 0) 160) j := fun j => s1.1 _ _
  have hK_0_160 : ∀ j : Int, 0 ≤ j → j < 2010 → 0 ≤ w_ei ws (w_ar ws (n_v vs 0) 160) j ∧ w_ei ws (w_ar ws (n_v vs 0) 160) j ≤ 4 := fun j h0 h1 => th_el hD hth cr_0_160 (kd := 0) (n := 2010) (m := 2010) (lo := 0) (hi := 4) (rs := []) (L := []) rfl (by decide) (j := j.toNat) (by omega)
  have kz_0_8 : 0 ≤ w_fi ws (n_v vs 0) 8 ∧ w_fi ws (n_v vs 0) 8 ≤ 5 := tv_rng (th_fd hD hth r0 (g := GG_150) rfl (k := 8) (t := (0, 0, 5, [])) rfl rfl)
  have kz_0_157 : 0 ≤ w_fi ws (n_v vs 0) 157 ∧ w_fi ws (n_v vs 0) 157 ≤ 2010 := tv_rng (th_fd hD hth r0 (g := GG_150) rfl (k := 157) (t := (0, 0, 2010, [])) rfl rfl)
  have kz_0_158 : 0 ≤ w_fi ws (n_v vs 0) 158 ∧ w_fi ws (n_v vs 0) 158 ≤ 2009 := tv_rng (th_fd hD hth r0 (g := GG_150) rfl (k := 158) (t := (0, 0, 2009, [])) rfl rfl)
  have kz_0_159 : 0 ≤ w_fi ws (n_v vs 0) 159 ∧ w_fi ws (n_v vs 0) 159 ≤ 13 := tv_rng (th_fd hD hth r0 (g := GG_150) rfl (k := 159) (t := (0, 0, 13, [])) rfl rfl)
  have kz_0_164 : 0 ≤ w_fi ws (n_v vs 0) 164 ∧ w_fi ws (n_v vs 0) 164 ≤ 1 := tv_rng (th_fd hD hth r0 (g := GG_150) rfl (k := 164) (t := (0, 0, 1, [])) rfl rfl)
  have kz_0_165 : (-1) ≤ w_fi ws (n_v vs 0) 165 ∧ w_fi ws (n_v vs 0) 165 ≤ 47 := tv_rng (th_fd hD hth r0 (g := GG_150) rfl (k := 165) (t := (0, -1, 47, [])) rfl rfl)
  have kv0 : 0 ≤ w_fi ws (n_v vs 0) 158 ∧ w_fi ws (n_v vs 0) 158 ≤ 2009 := tv_rng (th_fd hD hth r0 (g := GG_150) rfl (k := 158) (t := (0, 0, 2009, [])) rfl rfl)
  obtain ⟨x, ex, hx⟩ := iv_ex (ta := ta) (lo := 0) (hi := 2009) (z := w_fi ws (n_v vs 0) 158) (by omega) (by omega) (by omega) (by omega)
  have ex2 : v_iv (Value.int x) = w_fi ws (n_v vs 0) 158 := ex
  have ex3 : 0 ≤ v_iv (Value.int x) ∧ v_iv (Value.int x) ≤ 2009 := tv_rng hx
  have e_1 : n_v (vs ++ [Value.int x]) 1 = n_v vs 1 := n_v_old (by rw [hl]; decide)
  have e_2 : n_v (vs ++ [Value.int x]) 2 = n_v vs 2 := n_v_old (by rw [hl]; decide)
  have e_5 : n_v (vs ++ [Value.int x]) 5 = n_v vs 5 := n_v_old (by rw [hl]; decide)
  have e_10 : n_v (vs ++ [Value.int x]) 10 = Value.int x := n_v_new hl
  have nf0 : fc_1 (20, [2], [50, 2, 1, 158, 157, 160, 2, 12, 0, 7, 4, 3, 2, 0, 158, 0, 1, 2, 0, 157, 2, 7, 0, 3, 2, 0, 157, 0, 2010, 3, 14, 1, 10, 3, 0, 160, 5, 3, 2, 0, 157, 0, 1, 0, 0, 1, 10, 3, 0, 160, 5, 3, 2, 0, 157, 0, 1, 0, 4]) ws (vs ++ [Value.int x]) := by
    refine ⟨fun n hn => ?_, ?_⟩
    · have hn : n ∈ [2] := hn
      rw [List.length_append, hl]
      simp only [List.mem_cons, List.not_mem_nil, or_false] at hn
      show n < 10 + 1; omega
    · show ((w_fi ws (n_v (vs ++ [Value.int x]) 2) 158 + 1) ≤ w_fi ws (n_v (vs ++ [Value.int x]) 2) 157) ∧ ((w_fi ws (n_v (vs ++ [Value.int x]) 2) 157 ≤ 2010) ∧ ((w_ei ws (w_ar ws (n_v (vs ++ [Value.int x]) 2) 160) ((w_fi ws (n_v (vs ++ [Value.int x]) 2) 157 - 1)) = 0) ∨ (w_ei ws (w_ar ws (n_v (vs ++ [Value.int x]) 2) 160) ((w_fi ws (n_v (vs ++ [Value.int x]) 2) 157 - 1)) = 4)))
      rw [e_2]
      rw [q2]
      first | omega | grind
  have nf1 : fc_1 (20, [2, 10], [30, 0, 1, 1, 158, -1, 0, 0]) ws (vs ++ [Value.int x]) := by
    refine ⟨fun n hn => ?_, ?_⟩
    · have hn : n ∈ [2, 10] := hn
      rw [List.length_append, hl]
      simp only [List.mem_cons, List.not_mem_nil, or_false] at hn
      show n < 10 + 1; omega
    · show 1 * w_fi ws (n_v (vs ++ [Value.int x]) 2) 158 + ((-1) * v_iv (n_v (vs ++ [Value.int x]) 10) + 0) ≤ 0
      rw [e_2]
      rw [e_10]
      rw [q2]
      omega
  have nf2 : fc_1 (20, [2, 10], [30, 0, -1, 1, 158, 1, 0, 0]) ws (vs ++ [Value.int x]) := by
    refine ⟨fun n hn => ?_, ?_⟩
    · have hn : n ∈ [2, 10] := hn
      rw [List.length_append, hl]
      simp only [List.mem_cons, List.not_mem_nil, or_false] at hn
      show n < 10 + 1; omega
    · show (-1) * w_fi ws (n_v (vs ++ [Value.int x]) 2) 158 + (1 * v_iv (n_v (vs ++ [Value.int x]) 10) + 0) ≤ 0
      rw [e_2]
      rw [e_10]
      rw [q2]
      omega
  have nf3 : fc_1 (20, [2], [50, 2, 0, 164, 165, 4, 7, 1, 3, 2, 0, 164, 0, 0, 0, 3, 2, 0, 165, 0, 23]) ws (vs ++ [Value.int x]) := by
    refine ⟨fun n hn => ?_, ?_⟩
    · have hn : n ∈ [2] := hn
      rw [List.length_append, hl]
      simp only [List.mem_cons, List.not_mem_nil, or_false] at hn
      show n < 10 + 1; omega
    · show (w_fi ws (n_v (vs ++ [Value.int x]) 2) 164 = 0) → (w_fi ws (n_v (vs ++ [Value.int x]) 2) 165 ≤ 23)
      rw [e_2]
      rw [q2]
      first | omega | grind
  have nf4 : fc_1 (20, [2], [30, 13, 1, 1, 159]) ws (vs ++ [Value.int x]) := by
    refine ⟨fun n hn => ?_, ?_⟩
    · have hn : n ∈ [2] := hn
      rw [List.length_append, hl]
      simp only [List.mem_cons, List.not_mem_nil, or_false] at hn
      show n < 10 + 1; omega
    · show 1 * w_fi ws (n_v (vs ++ [Value.int x]) 2) 159 + 0 ≤ 13
      rw [e_2]
      rw [q2]
      omega
  have nf5 : fc_1 (20, [2], [30, -13, -1, 1, 159]) ws (vs ++ [Value.int x]) := by
    refine ⟨fun n hn => ?_, ?_⟩
    · have hn : n ∈ [2] := hn
      rw [List.length_append, hl]
      simp only [List.mem_cons, List.not_mem_nil, or_false] at hn
      show n < 10 + 1; omega
    · show (-1) * w_fi ws (n_v (vs ++ [Value.int x]) 2) 159 + 0 ≤ (-13)
      rw [e_2]
      rw [q2]
      omega
  have nf6 : fc_1 (20, [2], [30, -1, -1, 1, 8]) ws (vs ++ [Value.int x]) := by
    refine ⟨fun n hn => ?_, ?_⟩
    · have hn : n ∈ [2] := hn
      rw [List.length_append, hl]
      simp only [List.mem_cons, List.not_mem_nil, or_false] at hn
      show n < 10 + 1; omega
    · show (-1) * w_fi ws (n_v (vs ++ [Value.int x]) 2) 8 + 0 ≤ (-1)
      rw [e_2]
      rw [q2]
      omega
  have nf7 : fc_1 (23, [1, 10], [0, 1, -1]) ws (vs ++ [Value.int x]) := by
    refine ⟨fun n hn => ?_, ?_⟩
    · have hn : n ∈ [1, 10] := hn
      rw [List.length_append, hl]
      simp only [List.mem_cons, List.not_mem_nil, or_false] at hn
      show n < 10 + 1; omega
    · show 1 * v_iv (n_v (vs ++ [Value.int x]) 1) + ((-1) * v_iv (n_v (vs ++ [Value.int x]) 10) + 0) ≤ 0
      rw [e_1]
      rw [e_10]
      omega
  have nf8 : fc_1 (23, [5, 10], [-2011, -1, -1]) ws (vs ++ [Value.int x]) := by
    refine ⟨fun n hn => ?_, ?_⟩
    · have hn : n ∈ [5, 10] := hn
      rw [List.length_append, hl]
      simp only [List.mem_cons, List.not_mem_nil, or_false] at hn
      show n < 10 + 1; omega
    · show (-1) * v_iv (n_v (vs ++ [Value.int x]) 5) + ((-1) * v_iv (n_v (vs ++ [Value.int x]) 10) + 0) ≤ (-2011)
      rw [e_5]
      rw [e_10]
      omega
  exact ⟨(fun _ h => (by cases h)), [Value.int x], ag_one hx, List.forall_mem_cons.mpr ⟨⟨show (20 : Nat) < 100 from by decide, nf0⟩, List.forall_mem_cons.mpr ⟨⟨show (20 : Nat) < 100 from by decide, nf1⟩, List.forall_mem_cons.mpr ⟨⟨show (20 : Nat) < 100 from by decide, nf2⟩, List.forall_mem_cons.mpr ⟨⟨show (20 : Nat) < 100 from by decide, nf3⟩, List.forall_mem_cons.mpr ⟨⟨show (20 : Nat) < 100 from by decide, nf4⟩, List.forall_mem_cons.mpr ⟨⟨show (20 : Nat) < 100 from by decide, nf5⟩, List.forall_mem_cons.mpr ⟨⟨show (20 : Nat) < 100 from by decide, nf6⟩, List.forall_mem_cons.mpr ⟨⟨show (23 : Nat) < 100 from by decide, nf7⟩, List.forall_mem_cons.mpr ⟨⟨show (23 : Nat) < 100 from by decide, nf8⟩, (fun _ h => (by cases h))⟩⟩⟩⟩⟩⟩⟩⟩⟩, (fun _ h => (by cases h))⟩
def o_Mo_test_at_f13_5 : or_T := (43, 13, [(0, (2, 0, 0, [150])), (1, (0, 0, 2009, [])), (2, (2, 0, 0, [150])), (4, (0, 0, 2009, [])), (5, (0, 0, 2010, [])), (8, (0, 1, 1, [])), (9, (0, 1, 2009, [])), (10, (0, 0, 2009, []))], [(20, [2], [50, 2, 0, 164, 165, 4, 7, 1, 3, 2, 0, 164, 0, 0, 0, 3, 2, 0, 165, 0, 23]), (23, [1, 10], [0, 1, -1]), (23, [5, 10], [-2011, -1, -1]), (20, [2], [50, 2, 0, 164, 165, 4, 7, 1, 3, 2, 0, 164, 0, 0, 0, 3, 2, 0, 165, 0, 23]), (24, [0, 2], []), (20, [2], [50, 2, 1, 158, 157, 160, 2, 12, 0, 7, 4, 3, 2, 0, 158, 0, 1, 2, 0, 157, 2, 7, 0, 3, 2, 0, 157, 0, 2010, 3, 14, 1, 10, 3, 0, 160, 5, 3, 2, 0, 157, 0, 1, 0, 0, 1, 10, 3, 0, 160, 5, 3, 2, 0, 157, 0, 1, 0, 4]), (20, [10, 2], [30, 0, 1, 0, 0, -1, 1, 158]), (20, [2], [30, 13, 1, 1, 159]), (20, [2], [30, -13, -1, 1, 159]), (20, [2], [30, -1, -1, 1, 8]), (102, [10], [0, 13008, 13009, 13158, 13159]), (23, [1, 10], [0, 1, -1]), (23, [5, 10], [-2011, -1, -1]), (101, [2, 9], [158]), (1, [9, 4, 8], [])], [], [(0, 0, 2010, [])], [(20, [2], [50, 2, 1, 158, 157, 160, 2, 12, 0, 7, 4, 3, 2, 0, 158, 0, 1, 2, 0, 157, 2, 7, 0, 3, 2, 0, 157, 0, 2010, 3, 14, 1, 10, 3, 0, 160, 5, 3, 2, 0, 157, 0, 1, 0, 0, 1, 10, 3, 0, 160, 5, 3, 2, 0, 157, 0, 1, 0, 4]), (20, [1, 2], [30, 0, 1, 0, 0, -1, 1, 158]), (20, [2], [50, 2, 0, 164, 165, 4, 7, 1, 3, 2, 0, 164, 0, 0, 0, 3, 2, 0, 165, 0, 23]), (20, [2], [30, 13, 1, 1, 159]), (20, [2], [30, -13, -1, 1, 159]), (20, [2], [30, -1, -1, 1, 8]), (20, [13, 2], [30, -2011, -1, 0, 0, -1, 1, 158]), (24, [0, 2], [])], [(13, 5, 0, 0)], [(9, 4, 1, 1), (9, 1, -4294967296, 2010), (1, 4, -4294967296, 2009), (4, 1, -4294967296, 2009)])
theorem oo_Mo_test_at_f13_5 {kA : Nat → ClassId} : or_ok kA GG o_Mo_test_at_f13_5 := by
  intro A ta ws vs hD hth hl hk hds hf
  have hl : vs.length = 13 := hl
  have hk : ∀ q ∈ ([(0, (2, 0, 0, [150])), (1, (0, 0, 2009, [])), (2, (2, 0, 0, [150])), (4, (0, 0, 2009, [])), (5, (0, 0, 2010, [])), (8, (0, 1, 1, [])), (9, (0, 1, 2009, [])), (10, (0, 0, 2009, []))] : List (Nat × tv_T)), tv_ok ta q.2 (n_v vs q.1) := hk
  obtain ⟨t0, hk⟩ := List.forall_mem_cons.mp hk
  have t0 : tv_ok ta (2, 0, 0, [150]) (n_v vs 0) := t0
  have r0 : ta (v_ad (n_v vs 0)) = some 150 := tv_rg t0
  obtain ⟨t1, hk⟩ := List.forall_mem_cons.mp hk
  have t1 : tv_ok ta (0, 0, 2009, []) (n_v vs 1) := t1
  have k1 : 0 ≤ v_iv (n_v vs 1) ∧ v_iv (n_v vs 1) ≤ 2009 := tv_rng t1
  obtain ⟨t2, hk⟩ := List.forall_mem_cons.mp hk
  have t2 : tv_ok ta (2, 0, 0, [150]) (n_v vs 2) := t2
  have r2 : ta (v_ad (n_v vs 2)) = some 150 := tv_rg t2
  obtain ⟨t4, hk⟩ := List.forall_mem_cons.mp hk
  have t4 : tv_ok ta (0, 0, 2009, []) (n_v vs 4) := t4
  have k4 : 0 ≤ v_iv (n_v vs 4) ∧ v_iv (n_v vs 4) ≤ 2009 := tv_rng t4
  obtain ⟨t5, hk⟩ := List.forall_mem_cons.mp hk
  have t5 : tv_ok ta (0, 0, 2010, []) (n_v vs 5) := t5
  have k5 : 0 ≤ v_iv (n_v vs 5) ∧ v_iv (n_v vs 5) ≤ 2010 := tv_rng t5
  obtain ⟨t8, hk⟩ := List.forall_mem_cons.mp hk
  have t8 : tv_ok ta (0, 1, 1, []) (n_v vs 8) := t8
  have k8 : 1 ≤ v_iv (n_v vs 8) ∧ v_iv (n_v vs 8) ≤ 1 := tv_rng t8
  obtain ⟨t9, hk⟩ := List.forall_mem_cons.mp hk
  have t9 : tv_ok ta (0, 1, 2009, []) (n_v vs 9) := t9
  have k9 : 1 ≤ v_iv (n_v vs 9) ∧ v_iv (n_v vs 9) ≤ 2009 := tv_rng t9
  obtain ⟨t10, hk⟩ := List.forall_mem_cons.mp hk
  have t10 : tv_ok ta (0, 0, 2009, []) (n_v vs 10) := t10
  have k10 : 0 ≤ v_iv (n_v vs 10) ∧ v_iv (n_v vs 10) ≤ 2009 := tv_rng t10
  have hds : ∀ q ∈ ([(9, 4, 1, 1), (9, 1, -4294967296, 2010), (1, 4, -4294967296, 2009), (4, 1, -4294967296, 2009)] : List of_T), n_iv vs q.2.1 + q.2.2.1 ≤ n_iv vs q.1 ∧ n_iv vs q.1 ≤ n_iv vs q.2.1 + q.2.2.2 := hds
  obtain ⟨d0, hds⟩ := List.forall_mem_cons.mp hds
  have d0 : v_iv (n_v vs 4) + 1 ≤ v_iv (n_v vs 9) ∧ v_iv (n_v vs 9) ≤ v_iv (n_v vs 4) + 1 := d0
  obtain ⟨d1, hds⟩ := List.forall_mem_cons.mp hds
  have d1 : v_iv (n_v vs 1) + (-4294967296) ≤ v_iv (n_v vs 9) ∧ v_iv (n_v vs 9) ≤ v_iv (n_v vs 1) + 2010 := d1
  obtain ⟨d2, hds⟩ := List.forall_mem_cons.mp hds
  have d2 : v_iv (n_v vs 4) + (-4294967296) ≤ v_iv (n_v vs 1) ∧ v_iv (n_v vs 1) ≤ v_iv (n_v vs 4) + 2009 := d2
  obtain ⟨d3, hds⟩ := List.forall_mem_cons.mp hds
  have d3 : v_iv (n_v vs 1) + (-4294967296) ≤ v_iv (n_v vs 4) ∧ v_iv (n_v vs 4) ≤ v_iv (n_v vs 1) + 2009 := d3
  have hf : fc_ok [(20, [2], [50, 2, 0, 164, 165, 4, 7, 1, 3, 2, 0, 164, 0, 0, 0, 3, 2, 0, 165, 0, 23]), (23, [1, 10], [0, 1, -1]), (23, [5, 10], [-2011, -1, -1]), (20, [2], [50, 2, 0, 164, 165, 4, 7, 1, 3, 2, 0, 164, 0, 0, 0, 3, 2, 0, 165, 0, 23]), (24, [0, 2], []), (20, [2], [50, 2, 1, 158, 157, 160, 2, 12, 0, 7, 4, 3, 2, 0, 158, 0, 1, 2, 0, 157, 2, 7, 0, 3, 2, 0, 157, 0, 2010, 3, 14, 1, 10, 3, 0, 160, 5, 3, 2, 0, 157, 0, 1, 0, 0, 1, 10, 3, 0, 160, 5, 3, 2, 0, 157, 0, 1, 0, 4]), (20, [10, 2], [30, 0, 1, 0, 0, -1, 1, 158]), (20, [2], [30, 13, 1, 1, 159]), (20, [2], [30, -13, -1, 1, 159]), (20, [2], [30, -1, -1, 1, 8]), (102, [10], [0, 13008, 13009, 13158, 13159]), (23, [1, 10], [0, 1, -1]), (23, [5, 10], [-2011, -1, -1]), (101, [2, 9], [158]), (1, [9, 4, 8], [])] ta ws vs := hf
  obtain ⟨f0, hf⟩ := fc_un (show (20 : Nat) < 100 from by decide) hf
  have f0 : (w_fi ws (n_v vs 2) 164 = 0) → (w_fi ws (n_v vs 2) 165 ≤ 23) := f0
  obtain ⟨f1, hf⟩ := fc_un (show (23 : Nat) < 100 from by decide) hf
  have f1 : 1 * v_iv (n_v vs 1) + ((-1) * v_iv (n_v vs 10) + 0) ≤ 0 := f1
  obtain ⟨f2, hf⟩ := fc_un (show (23 : Nat) < 100 from by decide) hf
  have f2 : (-1) * v_iv (n_v vs 5) + ((-1) * v_iv (n_v vs 10) + 0) ≤ (-2011) := f2
  obtain ⟨f3, hf⟩ := fc_un (show (20 : Nat) < 100 from by decide) hf
  have f3 : (w_fi ws (n_v vs 2) 164 = 0) → (w_fi ws (n_v vs 2) 165 ≤ 23) := f3
  obtain ⟨f4, hf⟩ := fc_un (show (24 : Nat) < 100 from by decide) hf
  have f4 : n_v vs 0 = n_v vs 2 := f4
  obtain ⟨f5, hf⟩ := fc_un (show (20 : Nat) < 100 from by decide) hf
  have f5 : ((w_fi ws (n_v vs 2) 158 + 1) ≤ w_fi ws (n_v vs 2) 157) ∧ ((w_fi ws (n_v vs 2) 157 ≤ 2010) ∧ ((w_ei ws (w_ar ws (n_v vs 2) 160) ((w_fi ws (n_v vs 2) 157 - 1)) = 0) ∨ (w_ei ws (w_ar ws (n_v vs 2) 160) ((w_fi ws (n_v vs 2) 157 - 1)) = 4))) := f5
  obtain ⟨f6, hf⟩ := fc_un (show (20 : Nat) < 100 from by decide) hf
  have f6 : 1 * v_iv (n_v vs 10) + ((-1) * w_fi ws (n_v vs 2) 158 + 0) ≤ 0 := f6
  obtain ⟨f7, hf⟩ := fc_un (show (20 : Nat) < 100 from by decide) hf
  have f7 : 1 * w_fi ws (n_v vs 2) 159 + 0 ≤ 13 := f7
  obtain ⟨f8, hf⟩ := fc_un (show (20 : Nat) < 100 from by decide) hf
  have f8 : (-1) * w_fi ws (n_v vs 2) 159 + 0 ≤ (-13) := f8
  obtain ⟨f9, hf⟩ := fc_un (show (20 : Nat) < 100 from by decide) hf
  have f9 : (-1) * w_fi ws (n_v vs 2) 8 + 0 ≤ (-1) := f9
  obtain ⟨ta1, w1, le1, ⟨_, s1⟩, hf⟩ := fc_us (show ¬ (102 : Nat) < 100 from by decide) hf
  obtain ⟨f11, hf⟩ := fc_un (show (23 : Nat) < 100 from by decide) hf
  have f11 : 1 * v_iv (n_v vs 1) + ((-1) * v_iv (n_v vs 10) + 0) ≤ 0 := f11
  obtain ⟨f12, hf⟩ := fc_un (show (23 : Nat) < 100 from by decide) hf
  have f12 : (-1) * v_iv (n_v vs 5) + ((-1) * v_iv (n_v vs 10) + 0) ≤ (-2011) := f12
  obtain ⟨ta2, w2, le2, ⟨_, s2⟩, hf⟩ := fc_us (show ¬ (101 : Nat) < 100 from by decide) hf
  have s2 : (∀ b j, w_el w1 b j = w_el w2 b j) ∧ ∀ b j, w_fd w1 b j = if b = v_ad (n_v vs 2) ∧ j = 158 then n_v vs 9 else w_fd w2 b j := s2
  obtain ⟨f14, hf⟩ := fc_un (show (1 : Nat) < 100 from by decide) hf
  have f14 : v_iv (n_v vs 9) = v_iv (n_v vs 4) + v_iv (n_v vs 8) := f14
  have q2 : n_v vs 2 = n_v vs 0 := f4.symm
  rw [q2] at f0
  rw [q2] at f3
  rw [q2] at f5
  rw [q2] at f6
  rw [q2] at f7
  rw [q2] at f8
  rw [q2] at f9
  rw [q2] at s2
  have cr_0_160 : ta (w_ar ws (n_v vs 0) 160) = some 259 := tv_rg (th_fd hD hth r0 (g := GG_150) rfl (k := 160) (t := (2, 0, 0, [259])) rfl rfl)
  have hK_0_160 : ∀ j : Int, 0 ≤ j → j < 2010 → 0 ≤ w_ei ws (w_ar ws (n_v vs 0) 160) j ∧ w_ei ws (w_ar ws (n_v vs 0) 160) j ≤ 4 := fun j h0 h1 => th_el hD hth cr_0_160 (kd := 0) (n := 2010) (m := 2010) (lo := 0) (hi := 4) (rs := []) (L := []) rfl (by decide) (j := j.toNat) (by omega)
  have kz_0_8 : 0 ≤ w_fi ws (n_v vs 0) 8 ∧ w_fi ws (n_v vs 0) 8 ≤ 5 := tv_rng (th_fd hD hth r0 (g := GG_150) rfl (k := 8) (t := (0, 0, 5, [])) rfl rfl)
  have kz_0_157 : 0 ≤ w_fi ws (n_v vs 0) 157 ∧ w_fi ws (n_v vs 0) 157 ≤ 2010 := tv_rng (th_fd hD hth r0 (g := GG_150) rfl (k := 157) (t := (0, 0, 2010, [])) rfl rfl)
  have kz_0_158 : 0 ≤ w_fi ws (n_v vs 0) 158 ∧ w_fi ws (n_v vs 0) 158 ≤ 2009 := tv_rng (th_fd hD hth r0 (g := GG_150) rfl (k := 158) (t := (0, 0, 2009, [])) rfl rfl)
  have kz_0_159 : 0 ≤ w_fi ws (n_v vs 0) 159 ∧ w_fi ws (n_v vs 0) 159 ≤ 13 := tv_rng (th_fd hD hth r0 (g := GG_150) rfl (k := 159) (t := (0, 0, 13, [])) rfl rfl)
  have kz_0_164 : 0 ≤ w_fi ws (n_v vs 0) 164 ∧ w_fi ws (n_v vs 0) 164 ≤ 1 := tv_rng (th_fd hD hth r0 (g := GG_150) rfl (k := 164) (t := (0, 0, 1, [])) rfl rfl)
  have kz_0_165 : (-1) ≤ w_fi ws (n_v vs 0) 165 ∧ w_fi ws (n_v vs 0) 165 ≤ 47 := tv_rng (th_fd hD hth r0 (g := GG_150) rfl (k := 165) (t := (0, -1, 47, [])) rfl rfl)
  obtain ⟨x, ex, hx⟩ := iv_ex (ta := ta) (lo := 0) (hi := 2010) (z := 0 + (1 * v_iv (n_v vs 5) + 0)) (by omega) (by omega) (by omega) (by omega)
  have ex2 : v_iv (Value.int x) = 0 + (1 * v_iv (n_v vs 5) + 0) := ex
  have ex3 : 0 ≤ v_iv (Value.int x) ∧ v_iv (Value.int x) ≤ 2010 := tv_rng hx
  have e_0 : n_v (vs ++ [Value.int x]) 0 = n_v vs 0 := n_v_old (by rw [hl]; decide)
  have e_1 : n_v (vs ++ [Value.int x]) 1 = n_v vs 1 := n_v_old (by rw [hl]; decide)
  have e_2 : n_v (vs ++ [Value.int x]) 2 = n_v vs 2 := n_v_old (by rw [hl]; decide)
  have e_13 : n_v (vs ++ [Value.int x]) 13 = Value.int x := n_v_new hl
  have nf0 : fc_1 (20, [2], [50, 2, 1, 158, 157, 160, 2, 12, 0, 7, 4, 3, 2, 0, 158, 0, 1, 2, 0, 157, 2, 7, 0, 3, 2, 0, 157, 0, 2010, 3, 14, 1, 10, 3, 0, 160, 5, 3, 2, 0, 157, 0, 1, 0, 0, 1, 10, 3, 0, 160, 5, 3, 2, 0, 157, 0, 1, 0, 4]) ws (vs ++ [Value.int x]) := by
    refine ⟨fun n hn => ?_, ?_⟩
    · have hn : n ∈ [2] := hn
      rw [List.length_append, hl]
      simp only [List.mem_cons, List.not_mem_nil, or_false] at hn
      show n < 13 + 1; omega
    · show ((w_fi ws (n_v (vs ++ [Value.int x]) 2) 158 + 1) ≤ w_fi ws (n_v (vs ++ [Value.int x]) 2) 157) ∧ ((w_fi ws (n_v (vs ++ [Value.int x]) 2) 157 ≤ 2010) ∧ ((w_ei ws (w_ar ws (n_v (vs ++ [Value.int x]) 2) 160) ((w_fi ws (n_v (vs ++ [Value.int x]) 2) 157 - 1)) = 0) ∨ (w_ei ws (w_ar ws (n_v (vs ++ [Value.int x]) 2) 160) ((w_fi ws (n_v (vs ++ [Value.int x]) 2) 157 - 1)) = 4)))
      rw [e_2]
      rw [q2]
      first | omega | grind
  have nf1 : fc_1 (20, [1, 2], [30, 0, 1, 0, 0, -1, 1, 158]) ws (vs ++ [Value.int x]) := by
    refine ⟨fun n hn => ?_, ?_⟩
    · have hn : n ∈ [1, 2] := hn
      rw [List.length_append, hl]
      simp only [List.mem_cons, List.not_mem_nil, or_false] at hn
      show n < 13 + 1; omega
    · show 1 * v_iv (n_v (vs ++ [Value.int x]) 1) + ((-1) * w_fi ws (n_v (vs ++ [Value.int x]) 2) 158 + 0) ≤ 0
      rw [e_1]
      rw [e_2]
      rw [q2]
      omega
  have nf2 : fc_1 (20, [2], [50, 2, 0, 164, 165, 4, 7, 1, 3, 2, 0, 164, 0, 0, 0, 3, 2, 0, 165, 0, 23]) ws (vs ++ [Value.int x]) := by
    refine ⟨fun n hn => ?_, ?_⟩
    · have hn : n ∈ [2] := hn
      rw [List.length_append, hl]
      simp only [List.mem_cons, List.not_mem_nil, or_false] at hn
      show n < 13 + 1; omega
    · show (w_fi ws (n_v (vs ++ [Value.int x]) 2) 164 = 0) → (w_fi ws (n_v (vs ++ [Value.int x]) 2) 165 ≤ 23)
      rw [e_2]
      rw [q2]
      first | omega | grind
  have nf3 : fc_1 (20, [2], [30, 13, 1, 1, 159]) ws (vs ++ [Value.int x]) := by
    refine ⟨fun n hn => ?_, ?_⟩
    · have hn : n ∈ [2] := hn
      rw [List.length_append, hl]
      simp only [List.mem_cons, List.not_mem_nil, or_false] at hn
      show n < 13 + 1; omega
    · show 1 * w_fi ws (n_v (vs ++ [Value.int x]) 2) 159 + 0 ≤ 13
      rw [e_2]
      rw [q2]
      omega
  have nf4 : fc_1 (20, [2], [30, -13, -1, 1, 159]) ws (vs ++ [Value.int x]) := by
    refine ⟨fun n hn => ?_, ?_⟩
    · have hn : n ∈ [2] := hn
      rw [List.length_append, hl]
      simp only [List.mem_cons, List.not_mem_nil, or_false] at hn
      show n < 13 + 1; omega
    · show (-1) * w_fi ws (n_v (vs ++ [Value.int x]) 2) 159 + 0 ≤ (-13)
      rw [e_2]
      rw [q2]
      omega
  have nf5 : fc_1 (20, [2], [30, -1, -1, 1, 8]) ws (vs ++ [Value.int x]) := by
    refine ⟨fun n hn => ?_, ?_⟩
    · have hn : n ∈ [2] := hn
      rw [List.length_append, hl]
      simp only [List.mem_cons, List.not_mem_nil, or_false] at hn
      show n < 13 + 1; omega
    · show (-1) * w_fi ws (n_v (vs ++ [Value.int x]) 2) 8 + 0 ≤ (-1)
      rw [e_2]
      rw [q2]
      omega
  have nf6 : fc_1 (20, [13, 2], [30, -2011, -1, 0, 0, -1, 1, 158]) ws (vs ++ [Value.int x]) := by
    refine ⟨fun n hn => ?_, ?_⟩
    · have hn : n ∈ [13, 2] := hn
      rw [List.length_append, hl]
      simp only [List.mem_cons, List.not_mem_nil, or_false] at hn
      show n < 13 + 1; omega
    · show (-1) * v_iv (n_v (vs ++ [Value.int x]) 13) + ((-1) * w_fi ws (n_v (vs ++ [Value.int x]) 2) 158 + 0) ≤ (-2011)
      rw [e_2]
      rw [e_13]
      rw [q2]
      omega
  have nf7 : fc_1 (24, [0, 2], []) ws (vs ++ [Value.int x]) := by
    refine ⟨fun n hn => ?_, ?_⟩
    · have hn : n ∈ [0, 2] := hn
      rw [List.length_append, hl]
      simp only [List.mem_cons, List.not_mem_nil, or_false] at hn
      show n < 13 + 1; omega
    · show n_v (vs ++ [Value.int x]) 0 = n_v (vs ++ [Value.int x]) 2
      first | rfl | simp only [e_0, e_2, q2]
  obtain ⟨x0, e0, _, _⟩ := tv_int t5 rfl
  have e1 : v_iv (n_v vs 5) = x0.toInt := by rw [e0]; rfl
  have ho : sy_ofs (vs ++ [Value.int x]) (13, 5, 0, 0) := by
    refine ⟨x, x0, by rw [List.getElem?_append_right (by rw [hl]; decide), hl]; rfl, ?_, ?_, ?_⟩
    · rw [List.getElem?_append_left (by rw [hl]; decide)]; exact n_v_some (by rw [hl]; decide) e0
    · show x0.toInt + 0 ≤ x.toInt; omega
    · show x.toInt ≤ x0.toInt + 0; omega
  exact ⟨(fun _ h => (by cases h)), [Value.int x], ag_one hx, List.forall_mem_cons.mpr ⟨⟨show (20 : Nat) < 100 from by decide, nf0⟩, List.forall_mem_cons.mpr ⟨⟨show (20 : Nat) < 100 from by decide, nf1⟩, List.forall_mem_cons.mpr ⟨⟨show (20 : Nat) < 100 from by decide, nf2⟩, List.forall_mem_cons.mpr ⟨⟨show (20 : Nat) < 100 from by decide, nf3⟩, List.forall_mem_cons.mpr ⟨⟨show (20 : Nat) < 100 from by decide, nf4⟩, List.forall_mem_cons.mpr ⟨⟨show (20 : Nat) < 100 from by decide, nf5⟩, List.forall_mem_cons.mpr ⟨⟨show (20 : Nat) < 100 from by decide, nf6⟩, List.forall_mem_cons.mpr ⟨⟨show (24 : Nat) < 100 from by decide, nf7⟩, (fun _ h => (by cases h))⟩⟩⟩⟩⟩⟩⟩⟩, List.forall_mem_cons.mpr ⟨ho, (fun _ h => (by cases h))⟩⟩
def o_Mo_test_at_f13_6 : or_T := (5, 7, [(0, (2, 0, 0, [150])), (1, (0, 0, 2009, [])), (2, (2, 0, 0, [150])), (6, (0, 0, 2010, []))], [(20, [2], [50, 2, 1, 158, 157, 160, 2, 12, 0, 7, 4, 3, 2, 0, 158, 0, 1, 2, 0, 157, 2, 7, 0, 3, 2, 0, 157, 0, 2010, 3, 14, 1, 10, 3, 0, 160, 5, 3, 2, 0, 157, 0, 1, 0, 0, 1, 10, 3, 0, 160, 5, 3, 2, 0, 157, 0, 1, 0, 4]), (20, [1, 2], [30, 0, 1, 0, 0, -1, 1, 158]), (20, [2], [50, 2, 0, 164, 165, 4, 7, 1, 3, 2, 0, 164, 0, 0, 0, 3, 2, 0, 165, 0, 23]), (20, [2], [30, 13, 1, 1, 159]), (20, [2], [30, -13, -1, 1, 159]), (20, [2], [30, -1, -1, 1, 8]), (20, [6, 2], [30, -2011, -1, 0, 0, -1, 1, 158]), (24, [0, 2], [])], [], [(0, 0, 2010, [])], [(20, [2], [50, 2, 1, 158, 157, 160, 2, 12, 0, 7, 4, 3, 2, 0, 158, 0, 1, 2, 0, 157, 2, 7, 0, 3, 2, 0, 157, 0, 2010, 3, 14, 1, 10, 3, 0, 160, 5, 3, 2, 0, 157, 0, 1, 0, 0, 1, 10, 3, 0, 160, 5, 3, 2, 0, 157, 0, 1, 0, 4]), (20, [1, 2], [30, 0, 1, 0, 0, -1, 1, 158]), (20, [2], [50, 2, 0, 164, 165, 4, 7, 1, 3, 2, 0, 164, 0, 0, 0, 3, 2, 0, 165, 0, 23]), (20, [2], [30, 13, 1, 1, 159]), (20, [2], [30, -13, -1, 1, 159]), (20, [2], [30, -1, -1, 1, 8]), (24, [0, 2], []), (20, [7, 2], [30, 2010, 1, 0, 0, 1, 1, 158]), (20, [7, 2], [30, -2010, -1, 0, 0, -1, 1, 158])], [(7, 6, -1000000000000, -1)], [])
theorem oo_Mo_test_at_f13_6 {kA : Nat → ClassId} : or_ok kA GG o_Mo_test_at_f13_6 := by
  intro A ta ws vs hD hth hl hk hds hf
  have hl : vs.length = 7 := hl
  have hk : ∀ q ∈ ([(0, (2, 0, 0, [150])), (1, (0, 0, 2009, [])), (2, (2, 0, 0, [150])), (6, (0, 0, 2010, []))] : List (Nat × tv_T)), tv_ok ta q.2 (n_v vs q.1) := hk
  obtain ⟨t0, hk⟩ := List.forall_mem_cons.mp hk
  have t0 : tv_ok ta (2, 0, 0, [150]) (n_v vs 0) := t0
  have r0 : ta (v_ad (n_v vs 0)) = some 150 := tv_rg t0
  obtain ⟨t1, hk⟩ := List.forall_mem_cons.mp hk
  have t1 : tv_ok ta (0, 0, 2009, []) (n_v vs 1) := t1
  have k1 : 0 ≤ v_iv (n_v vs 1) ∧ v_iv (n_v vs 1) ≤ 2009 := tv_rng t1
  obtain ⟨t2, hk⟩ := List.forall_mem_cons.mp hk
  have t2 : tv_ok ta (2, 0, 0, [150]) (n_v vs 2) := t2
  have r2 : ta (v_ad (n_v vs 2)) = some 150 := tv_rg t2
  obtain ⟨t6, hk⟩ := List.forall_mem_cons.mp hk
  have t6 : tv_ok ta (0, 0, 2010, []) (n_v vs 6) := t6
  have k6 : 0 ≤ v_iv (n_v vs 6) ∧ v_iv (n_v vs 6) ≤ 2010 := tv_rng t6
  have hf : fc_ok [(20, [2], [50, 2, 1, 158, 157, 160, 2, 12, 0, 7, 4, 3, 2, 0, 158, 0, 1, 2, 0, 157, 2, 7, 0, 3, 2, 0, 157, 0, 2010, 3, 14, 1, 10, 3, 0, 160, 5, 3, 2, 0, 157, 0, 1, 0, 0, 1, 10, 3, 0, 160, 5, 3, 2, 0, 157, 0, 1, 0, 4]), (20, [1, 2], [30, 0, 1, 0, 0, -1, 1, 158]), (20, [2], [50, 2, 0, 164, 165, 4, 7, 1, 3, 2, 0, 164, 0, 0, 0, 3, 2, 0, 165, 0, 23]), (20, [2], [30, 13, 1, 1, 159]), (20, [2], [30, -13, -1, 1, 159]), (20, [2], [30, -1, -1, 1, 8]), (20, [6, 2], [30, -2011, -1, 0, 0, -1, 1, 158]), (24, [0, 2], [])] ta ws vs := hf
  obtain ⟨f0, hf⟩ := fc_un (show (20 : Nat) < 100 from by decide) hf
  have f0 : ((w_fi ws (n_v vs 2) 158 + 1) ≤ w_fi ws (n_v vs 2) 157) ∧ ((w_fi ws (n_v vs 2) 157 ≤ 2010) ∧ ((w_ei ws (w_ar ws (n_v vs 2) 160) ((w_fi ws (n_v vs 2) 157 - 1)) = 0) ∨ (w_ei ws (w_ar ws (n_v vs 2) 160) ((w_fi ws (n_v vs 2) 157 - 1)) = 4))) := f0
  obtain ⟨f1, hf⟩ := fc_un (show (20 : Nat) < 100 from by decide) hf
  have f1 : 1 * v_iv (n_v vs 1) + ((-1) * w_fi ws (n_v vs 2) 158 + 0) ≤ 0 := f1
  obtain ⟨f2, hf⟩ := fc_un (show (20 : Nat) < 100 from by decide) hf
  have f2 : (w_fi ws (n_v vs 2) 164 = 0) → (w_fi ws (n_v vs 2) 165 ≤ 23) := f2
  obtain ⟨f3, hf⟩ := fc_un (show (20 : Nat) < 100 from by decide) hf
  have f3 : 1 * w_fi ws (n_v vs 2) 159 + 0 ≤ 13 := f3
  obtain ⟨f4, hf⟩ := fc_un (show (20 : Nat) < 100 from by decide) hf
  have f4 : (-1) * w_fi ws (n_v vs 2) 159 + 0 ≤ (-13) := f4
  obtain ⟨f5, hf⟩ := fc_un (show (20 : Nat) < 100 from by decide) hf
  have f5 : (-1) * w_fi ws (n_v vs 2) 8 + 0 ≤ (-1) := f5
  obtain ⟨f6, hf⟩ := fc_un (show (20 : Nat) < 100 from by decide) hf
  have f6 : (-1) * v_iv (n_v vs 6) + ((-1) * w_fi ws (n_v vs 2) 158 + 0) ≤ (-2011) := f6
  obtain ⟨f7, hf⟩ := fc_un (show (24 : Nat) < 100 from by decide) hf
  have f7 : n_v vs 0 = n_v vs 2 := f7
  have q2 : n_v vs 2 = n_v vs 0 := f7.symm
  rw [q2] at f0
  rw [q2] at f1
  rw [q2] at f2
  rw [q2] at f3
  rw [q2] at f4
  rw [q2] at f5
  rw [q2] at f6
  have cr_0_160 : ta (w_ar ws (n_v vs 0) 160) = some 259 := tv_rg (th_fd hD hth r0 (g := GG_150) rfl (k := 160) (t := (2, 0, 0, [259])) rfl rfl)
  have hK_0_160 : ∀ j : Int, 0 ≤ j → j < 2010 → 0 ≤ w_ei ws (w_ar ws (n_v vs 0) 160) j ∧ w_ei ws (w_ar ws (n_v vs 0) 160) j ≤ 4 := fun j h0 h1 => th_el hD hth cr_0_160 (kd := 0) (n := 2010) (m := 2010) (lo := 0) (hi := 4) (rs := []) (L := []) rfl (by decide) (j := j.toNat) (by omega)
  have kz_0_8 : 0 ≤ w_fi ws (n_v vs 0) 8 ∧ w_fi ws (n_v vs 0) 8 ≤ 5 := tv_rng (th_fd hD hth r0 (g := GG_150) rfl (k := 8) (t := (0, 0, 5, [])) rfl rfl)
  have kz_0_157 : 0 ≤ w_fi ws (n_v vs 0) 157 ∧ w_fi ws (n_v vs 0) 157 ≤ 2010 := tv_rng (th_fd hD hth r0 (g := GG_150) rfl (k := 157) (t := (0, 0, 2010, [])) rfl rfl)
  have kz_0_158 : 0 ≤ w_fi ws (n_v vs 0) 158 ∧ w_fi ws (n_v vs 0) 158 ≤ 2009 := tv_rng (th_fd hD hth r0 (g := GG_150) rfl (k := 158) (t := (0, 0, 2009, [])) rfl rfl)
  have kz_0_159 : 0 ≤ w_fi ws (n_v vs 0) 159 ∧ w_fi ws (n_v vs 0) 159 ≤ 13 := tv_rng (th_fd hD hth r0 (g := GG_150) rfl (k := 159) (t := (0, 0, 13, [])) rfl rfl)
  have kz_0_164 : 0 ≤ w_fi ws (n_v vs 0) 164 ∧ w_fi ws (n_v vs 0) 164 ≤ 1 := tv_rng (th_fd hD hth r0 (g := GG_150) rfl (k := 164) (t := (0, 0, 1, [])) rfl rfl)
  have kz_0_165 : (-1) ≤ w_fi ws (n_v vs 0) 165 ∧ w_fi ws (n_v vs 0) 165 ≤ 47 := tv_rng (th_fd hD hth r0 (g := GG_150) rfl (k := 165) (t := (0, -1, 47, [])) rfl rfl)
  have kb_0_158 : 0 ≤ w_fi ws (n_v vs 0) 158 ∧ w_fi ws (n_v vs 0) 158 ≤ 2009 := tv_rng (th_fd hD hth r0 (g := GG_150) rfl (k := 158) (t := (0, 0, 2009, [])) rfl rfl)
  obtain ⟨x, ex, hx⟩ := iv_ex (ta := ta) (lo := 0) (hi := 2010) (z := 2010 + ((-1) * w_fi ws (n_v vs 0) 158 + 0)) (by omega) (by omega) (by omega) (by omega)
  have ex2 : v_iv (Value.int x) = 2010 + ((-1) * w_fi ws (n_v vs 0) 158 + 0) := ex
  have ex3 : 0 ≤ v_iv (Value.int x) ∧ v_iv (Value.int x) ≤ 2010 := tv_rng hx
  have e_0 : n_v (vs ++ [Value.int x]) 0 = n_v vs 0 := n_v_old (by rw [hl]; decide)
  have e_1 : n_v (vs ++ [Value.int x]) 1 = n_v vs 1 := n_v_old (by rw [hl]; decide)
  have e_2 : n_v (vs ++ [Value.int x]) 2 = n_v vs 2 := n_v_old (by rw [hl]; decide)
  have e_7 : n_v (vs ++ [Value.int x]) 7 = Value.int x := n_v_new hl
  have nf0 : fc_1 (20, [2], [50, 2, 1, 158, 157, 160, 2, 12, 0, 7, 4, 3, 2, 0, 158, 0, 1, 2, 0, 157, 2, 7, 0, 3, 2, 0, 157, 0, 2010, 3, 14, 1, 10, 3, 0, 160, 5, 3, 2, 0, 157, 0, 1, 0, 0, 1, 10, 3, 0, 160, 5, 3, 2, 0, 157, 0, 1, 0, 4]) ws (vs ++ [Value.int x]) := by
    refine ⟨fun n hn => ?_, ?_⟩
    · have hn : n ∈ [2] := hn
      rw [List.length_append, hl]
      simp only [List.mem_cons, List.not_mem_nil, or_false] at hn
      show n < 7 + 1; omega
    · show ((w_fi ws (n_v (vs ++ [Value.int x]) 2) 158 + 1) ≤ w_fi ws (n_v (vs ++ [Value.int x]) 2) 157) ∧ ((w_fi ws (n_v (vs ++ [Value.int x]) 2) 157 ≤ 2010) ∧ ((w_ei ws (w_ar ws (n_v (vs ++ [Value.int x]) 2) 160) ((w_fi ws (n_v (vs ++ [Value.int x]) 2) 157 - 1)) = 0) ∨ (w_ei ws (w_ar ws (n_v (vs ++ [Value.int x]) 2) 160) ((w_fi ws (n_v (vs ++ [Value.int x]) 2) 157 - 1)) = 4)))
      rw [e_2]
      rw [q2]
      first | omega | grind
  have nf1 : fc_1 (20, [1, 2], [30, 0, 1, 0, 0, -1, 1, 158]) ws (vs ++ [Value.int x]) := by
    refine ⟨fun n hn => ?_, ?_⟩
    · have hn : n ∈ [1, 2] := hn
      rw [List.length_append, hl]
      simp only [List.mem_cons, List.not_mem_nil, or_false] at hn
      show n < 7 + 1; omega
    · show 1 * v_iv (n_v (vs ++ [Value.int x]) 1) + ((-1) * w_fi ws (n_v (vs ++ [Value.int x]) 2) 158 + 0) ≤ 0
      rw [e_1]
      rw [e_2]
      rw [q2]
      omega
  have nf2 : fc_1 (20, [2], [50, 2, 0, 164, 165, 4, 7, 1, 3, 2, 0, 164, 0, 0, 0, 3, 2, 0, 165, 0, 23]) ws (vs ++ [Value.int x]) := by
    refine ⟨fun n hn => ?_, ?_⟩
    · have hn : n ∈ [2] := hn
      rw [List.length_append, hl]
      simp only [List.mem_cons, List.not_mem_nil, or_false] at hn
      show n < 7 + 1; omega
    · show (w_fi ws (n_v (vs ++ [Value.int x]) 2) 164 = 0) → (w_fi ws (n_v (vs ++ [Value.int x]) 2) 165 ≤ 23)
      rw [e_2]
      rw [q2]
      first | omega | grind
  have nf3 : fc_1 (20, [2], [30, 13, 1, 1, 159]) ws (vs ++ [Value.int x]) := by
    refine ⟨fun n hn => ?_, ?_⟩
    · have hn : n ∈ [2] := hn
      rw [List.length_append, hl]
      simp only [List.mem_cons, List.not_mem_nil, or_false] at hn
      show n < 7 + 1; omega
    · show 1 * w_fi ws (n_v (vs ++ [Value.int x]) 2) 159 + 0 ≤ 13
      rw [e_2]
      rw [q2]
      omega
  have nf4 : fc_1 (20, [2], [30, -13, -1, 1, 159]) ws (vs ++ [Value.int x]) := by
    refine ⟨fun n hn => ?_, ?_⟩
    · have hn : n ∈ [2] := hn
      rw [List.length_append, hl]
      simp only [List.mem_cons, List.not_mem_nil, or_false] at hn
      show n < 7 + 1; omega
    · show (-1) * w_fi ws (n_v (vs ++ [Value.int x]) 2) 159 + 0 ≤ (-13)
      rw [e_2]
      rw [q2]
      omega
  have nf5 : fc_1 (20, [2], [30, -1, -1, 1, 8]) ws (vs ++ [Value.int x]) := by
    refine ⟨fun n hn => ?_, ?_⟩
    · have hn : n ∈ [2] := hn
      rw [List.length_append, hl]
      simp only [List.mem_cons, List.not_mem_nil, or_false] at hn
      show n < 7 + 1; omega
    · show (-1) * w_fi ws (n_v (vs ++ [Value.int x]) 2) 8 + 0 ≤ (-1)
      rw [e_2]
      rw [q2]
      omega
  have nf6 : fc_1 (24, [0, 2], []) ws (vs ++ [Value.int x]) := by
    refine ⟨fun n hn => ?_, ?_⟩
    · have hn : n ∈ [0, 2] := hn
      rw [List.length_append, hl]
      simp only [List.mem_cons, List.not_mem_nil, or_false] at hn
      show n < 7 + 1; omega
    · show n_v (vs ++ [Value.int x]) 0 = n_v (vs ++ [Value.int x]) 2
      first | rfl | simp only [e_0, e_2, q2]
  have nf7 : fc_1 (20, [7, 2], [30, 2010, 1, 0, 0, 1, 1, 158]) ws (vs ++ [Value.int x]) := by
    refine ⟨fun n hn => ?_, ?_⟩
    · have hn : n ∈ [7, 2] := hn
      rw [List.length_append, hl]
      simp only [List.mem_cons, List.not_mem_nil, or_false] at hn
      show n < 7 + 1; omega
    · show 1 * v_iv (n_v (vs ++ [Value.int x]) 7) + (1 * w_fi ws (n_v (vs ++ [Value.int x]) 2) 158 + 0) ≤ 2010
      rw [e_2]
      rw [e_7]
      rw [q2]
      omega
  have nf8 : fc_1 (20, [7, 2], [30, -2010, -1, 0, 0, -1, 1, 158]) ws (vs ++ [Value.int x]) := by
    refine ⟨fun n hn => ?_, ?_⟩
    · have hn : n ∈ [7, 2] := hn
      rw [List.length_append, hl]
      simp only [List.mem_cons, List.not_mem_nil, or_false] at hn
      show n < 7 + 1; omega
    · show (-1) * v_iv (n_v (vs ++ [Value.int x]) 7) + ((-1) * w_fi ws (n_v (vs ++ [Value.int x]) 2) 158 + 0) ≤ (-2010)
      rw [e_2]
      rw [e_7]
      rw [q2]
      omega
  obtain ⟨x0, e0, _, _⟩ := tv_int t6 rfl
  have e1 : v_iv (n_v vs 6) = x0.toInt := by rw [e0]; rfl
  have ho : sy_ofs (vs ++ [Value.int x]) (7, 6, -1000000000000, -1) := by
    refine ⟨x, x0, by rw [List.getElem?_append_right (by rw [hl]; decide), hl]; rfl, ?_, ?_, ?_⟩
    · rw [List.getElem?_append_left (by rw [hl]; decide)]; exact n_v_some (by rw [hl]; decide) e0
    · show x0.toInt + (-1000000000000) ≤ x.toInt; omega
    · show x.toInt ≤ x0.toInt + (-1); omega
  exact ⟨(fun _ h => (by cases h)), [Value.int x], ag_one hx, List.forall_mem_cons.mpr ⟨⟨show (20 : Nat) < 100 from by decide, nf0⟩, List.forall_mem_cons.mpr ⟨⟨show (20 : Nat) < 100 from by decide, nf1⟩, List.forall_mem_cons.mpr ⟨⟨show (20 : Nat) < 100 from by decide, nf2⟩, List.forall_mem_cons.mpr ⟨⟨show (20 : Nat) < 100 from by decide, nf3⟩, List.forall_mem_cons.mpr ⟨⟨show (20 : Nat) < 100 from by decide, nf4⟩, List.forall_mem_cons.mpr ⟨⟨show (20 : Nat) < 100 from by decide, nf5⟩, List.forall_mem_cons.mpr ⟨⟨show (24 : Nat) < 100 from by decide, nf6⟩, List.forall_mem_cons.mpr ⟨⟨show (20 : Nat) < 100 from by decide, nf7⟩, List.forall_mem_cons.mpr ⟨⟨show (20 : Nat) < 100 from by decide, nf8⟩, (fun _ h => (by cases h))⟩⟩⟩⟩⟩⟩⟩⟩⟩, List.forall_mem_cons.mpr ⟨ho, (fun _ h => (by cases h))⟩⟩
def n_Mo_test_at_f13_an : List an_T := [(5, [(0, (2, 0, 0, [150])), (1, (0, 0, 0, []))], [], (0, 0), [(0, 0, 99995), (2, 5, 0), (0, 0, 100000)], [(1, 3, -1000000000000, 2009), (1, 4, -1000000000000, 2009), (3, 1, -1000000000000, 0), (3, 4, -1000000000000, 0), (4, 1, -1000000000000, 2009), (4, 3, -1000000000000, 2009)], [((0, 158), (0, 0, 2009, []))], [(2, 0, 0, [150]), (0, 0, 2009, [])], 0, [(0, 0, 2010, [])], [(20, [2], [50, 2, 1, 158, 157, 160, 2, 12, 0, 7, 4, 3, 2, 0, 158, 0, 1, 2, 0, 157, 2, 7, 0, 3, 2, 0, 157, 0, 2010, 3, 14, 1, 10, 3, 0, 160, 5, 3, 2, 0, 157, 0, 1, 0, 0, 1, 10, 3, 0, 160, 5, 3, 2, 0, 157, 0, 1, 0, 4]), (20, [1, 2], [30, 0, 1, 0, 0, -1, 1, 158]), (20, [2], [50, 2, 0, 164, 165, 4, 7, 1, 3, 2, 0, 164, 0, 0, 0, 3, 2, 0, 165, 0, 23]), (20, [2], [30, 13, 1, 1, 159]), (20, [2], [30, -13, -1, 1, 159]), (20, [2], [30, -1, -1, 1, 8]), (24, [0, 2], []), (20, [5, 2], [30, 2010, 1, 0, 0, 1, 1, 158]), (20, [5, 2], [30, -2010, -1, 0, 0, -1, 1, 158])]), (43, [(0, (2, 0, 0, [150])), (1, (0, 0, 0, [])), (2, (0, 0, 0, []))], [(0, 0, 0, [])], (0, 0), [(0, 0, 99995), (2, 6, 0), (0, 0, 99957)], [(1, 3, -1000000000000, 2009), (1, 4, -1000000000000, 2009), (1, 5, -1000000000000, 2009), (3, 1, -1000000000000, 0), (3, 4, -1000000000000, 0), (3, 5, -1000000000000, 0), (4, 1, -1000000000000, 0), (4, 3, -1000000000000, 0), (4, 5, -1000000000000, 0), (5, 1, -1000000000000, 0), (5, 3, -1000000000000, 0), (5, 4, -1000000000000, 0)], [], [(2, 0, 0, [150]), (0, 0, 2009, [])], 0, [(0, 0, 2010, [])], [(20, [2], [50, 2, 1, 158, 157, 160, 2, 12, 0, 7, 4, 3, 2, 0, 158, 0, 1, 2, 0, 157, 2, 7, 0, 3, 2, 0, 157, 0, 2010, 3, 14, 1, 10, 3, 0, 160, 5, 3, 2, 0, 157, 0, 1, 0, 0, 1, 10, 3, 0, 160, 5, 3, 2, 0, 157, 0, 1, 0, 4]), (20, [1, 2], [30, 0, 1, 0, 0, -1, 1, 158]), (20, [2], [50, 2, 0, 164, 165, 4, 7, 1, 3, 2, 0, 164, 0, 0, 0, 3, 2, 0, 165, 0, 23]), (20, [2], [30, 13, 1, 1, 159]), (20, [2], [30, -13, -1, 1, 159]), (20, [2], [30, -1, -1, 1, 8]), (20, [6, 2], [30, -2011, -1, 0, 0, -1, 1, 158]), (24, [0, 2], [])])]
def t_Mo_test_at_f13_ct : ct_L := [(7, 1220, e_Mo_both_at_f13), (31, 1190, e_Mo_word_at_s5041), (82, 1220, e_Mo_both_at_f13), (1000001, 1223, en_ro [] (2, 0, 0, [5041]))]
set_option maxRecDepth 100000 in
theorem c_Mo_test_at_f13 {l : Launch} {D : va_G} {kA : Nat → ClassId} (h_Mo_both_at_f13 : ct_ok l D kA GG y_Mo_both_at_f13 z_Mo_both_at_f13 e_Mo_both_at_f13) (h_Mo_word_at_s5041 : ct_ok l D kA GG y_Mo_word_at_s5041 z_Mo_word_at_s5041 e_Mo_word_at_s5041) : ct_ok l D kA GG y_Mo_test_at_f13 z_Mo_test_at_f13 e_Mo_test_at_f13 := chk_all_ok (FT := [(1169, 13, 158)]) (PT := [(1169, 13, 158, .int)]) (CT := t_Mo_test_at_f13_ct) (KT := []) (NT := []) (AN := n_Mo_test_at_f13_an) (OT := [o_Mo_test_at_f13_0, o_Mo_test_at_f13_1, o_Mo_test_at_f13_2, o_Mo_test_at_f13_3, o_Mo_test_at_f13_4, o_Mo_test_at_f13_5, o_Mo_test_at_f13_6]) 3 200 (List.forall_mem_cons.mpr ⟨oo_Mo_test_at_f13_0, List.forall_mem_cons.mpr ⟨oo_Mo_test_at_f13_1, List.forall_mem_cons.mpr ⟨oo_Mo_test_at_f13_2, List.forall_mem_cons.mpr ⟨oo_Mo_test_at_f13_3, List.forall_mem_cons.mpr ⟨oo_Mo_test_at_f13_4, List.forall_mem_cons.mpr ⟨oo_Mo_test_at_f13_5, List.forall_mem_cons.mpr ⟨oo_Mo_test_at_f13_6, List.forall_mem_nil _⟩⟩⟩⟩⟩⟩⟩) (by decide +kernel) ⟨List.forall_mem_cons.mpr ⟨gf_Mo_1169, List.forall_mem_nil _⟩, List.forall_mem_cons.mpr ⟨pf_Mo_1169, List.forall_mem_nil _⟩, List.forall_mem_cons.mpr ⟨cl_virtual (y := y_Mo_both_at_f13) (ci := 13) rfl rfl ⟨_, _, rfl⟩ (by decide +kernel) h_Mo_both_at_f13 wm_3819 wm_9 wm_3816 wm_3818 wv_23_8 ⟨by decide, by decide, by decide +kernel⟩ (by decide), List.forall_mem_cons.mpr ⟨cl_virtual (y := y_Mo_word_at_s5041) (ci := 13) rfl rfl ⟨_, _, rfl⟩ (by decide +kernel) h_Mo_word_at_s5041 wm_3809 wm_9 wm_3806 wm_3808 wv_23_6 ⟨by decide, by decide, by decide +kernel⟩ (by decide), List.forall_mem_cons.mpr ⟨cl_virtual (y := y_Mo_both_at_f13) (ci := 13) rfl rfl ⟨_, _, rfl⟩ (by decide +kernel) h_Mo_both_at_f13 wm_3819 wm_9 wm_3816 wm_3818 wv_23_8 ⟨by decide, by decide, by decide +kernel⟩ (by decide), List.forall_mem_cons.mpr ⟨cl_ldcw (own := "DrawingHouseModel") (idx := 1223) (i := 41) (tx := "or") (by decide +kernel) (by decide +kernel) (by decide +kernel), List.forall_mem_nil _⟩⟩⟩⟩, List.forall_mem_nil _, List.forall_mem_nil _, GG_pl⟩ (by decide +kernel)
def n_Mo_test_at_f2_an : List an_T := [(5, [(0, (2, 0, 0, [150])), (1, (0, 0, 1, []))], [], (0, 0), [(0, 0, 99995), (2, 5, 0), (0, 0, 100000)], [(1, 3, -1000000000000, 2009), (1, 4, -1000000000000, 2009), (3, 1, -1000000000000, 1), (3, 4, -1000000000000, 1), (4, 1, -1000000000000, 2009), (4, 3, -1000000000000, 2009)], [((0, 158), (0, 0, 2009, []))], [(2, 0, 0, [150]), (0, 0, 2009, [])], 0, [(0, 0, 2010, [])], [(20, [2], [50, 2, 1, 158, 157, 160, 2, 12, 0, 7, 4, 3, 2, 0, 158, 0, 1, 2, 0, 157, 2, 7, 0, 3, 2, 0, 157, 0, 2010, 3, 14, 1, 10, 3, 0, 160, 5, 3, 2, 0, 157, 0, 1, 0, 0, 1, 10, 3, 0, 160, 5, 3, 2, 0, 157, 0, 1, 0, 4]), (20, [1, 2], [30, 0, 1, 0, 0, -1, 1, 158]), (20, [2], [50, 2, 0, 164, 165, 4, 7, 1, 3, 2, 0, 164, 0, 0, 0, 3, 2, 0, 165, 0, 23]), (20, [2], [30, 2, 1, 1, 159]), (20, [2], [30, -2, -1, 1, 159]), (24, [0, 2], []), (20, [5, 2], [30, 2010, 1, 0, 0, 1, 1, 158]), (20, [5, 2], [30, -2010, -1, 0, 0, -1, 1, 158])]), (43, [(0, (2, 0, 0, [150])), (1, (0, 0, 1, [])), (2, (0, 0, 1, []))], [(0, 0, 1, [])], (0, 0), [(0, 0, 99995), (2, 6, 0), (0, 0, 99957)], [(1, 3, -1000000000000, 2009), (1, 4, -1000000000000, 2009), (1, 5, -1000000000000, 2009), (3, 1, -1000000000000, 1), (3, 4, -1000000000000, 1), (3, 5, -1000000000000, 0), (4, 1, -1000000000000, 1), (4, 3, -1000000000000, 1), (4, 5, -1000000000000, 0), (5, 1, -1000000000000, 1), (5, 3, -1000000000000, 1), (5, 4, -1000000000000, 1)], [], [(2, 0, 0, [150]), (0, 0, 2009, [])], 0, [(0, 0, 2010, [])], [(20, [2], [50, 2, 1, 158, 157, 160, 2, 12, 0, 7, 4, 3, 2, 0, 158, 0, 1, 2, 0, 157, 2, 7, 0, 3, 2, 0, 157, 0, 2010, 3, 14, 1, 10, 3, 0, 160, 5, 3, 2, 0, 157, 0, 1, 0, 0, 1, 10, 3, 0, 160, 5, 3, 2, 0, 157, 0, 1, 0, 4]), (20, [1, 2], [30, 0, 1, 0, 0, -1, 1, 158]), (20, [2], [50, 2, 0, 164, 165, 4, 7, 1, 3, 2, 0, 164, 0, 0, 0, 3, 2, 0, 165, 0, 23]), (20, [2], [30, 2, 1, 1, 159]), (20, [2], [30, -2, -1, 1, 159]), (20, [6, 2], [30, -2011, -1, 0, 0, -1, 1, 158]), (24, [0, 2], [])])]
def t_Mo_test_at_f2_ct : ct_L := [(7, 1220, e_Mo_both_at_f2), (31, 1190, e_Mo_word_at_s5041), (82, 1220, e_Mo_both_at_f2), (1000001, 1223, en_ro [] (2, 0, 0, [5041]))]
set_option maxRecDepth 100000 in
theorem c_Mo_test_at_f2 {l : Launch} {D : va_G} {kA : Nat → ClassId} (h_Mo_both_at_f2 : ct_ok l D kA GG y_Mo_both_at_f2 z_Mo_both_at_f2 e_Mo_both_at_f2) (h_Mo_word_at_s5041 : ct_ok l D kA GG y_Mo_word_at_s5041 z_Mo_word_at_s5041 e_Mo_word_at_s5041) : ct_ok l D kA GG y_Mo_test_at_f2 z_Mo_test_at_f2 e_Mo_test_at_f2 := chk_all_ok (FT := [(1169, 13, 158)]) (PT := [(1169, 13, 158, .int)]) (CT := t_Mo_test_at_f2_ct) (KT := []) (NT := []) (AN := n_Mo_test_at_f2_an) (OT := [(o_Mo_test_f_0 2), (o_Mo_test_f_1 2), (o_Mo_test_f_2 2), (o_Mo_test_f_3 2), (o_Mo_test_f_4 2), (o_Mo_test_f_5 2), (o_Mo_test_f_6 2)]) 3 200 (List.forall_mem_cons.mpr ⟨(oo_Mo_test_f_0 2 (by decide) (by decide)), List.forall_mem_cons.mpr ⟨(oo_Mo_test_f_1 2 (by decide) (by decide)), List.forall_mem_cons.mpr ⟨(oo_Mo_test_f_2 2 (by decide) (by decide)), List.forall_mem_cons.mpr ⟨(oo_Mo_test_f_3 2 (by decide) (by decide)), List.forall_mem_cons.mpr ⟨(oo_Mo_test_f_4 2 (by decide) (by decide)), List.forall_mem_cons.mpr ⟨(oo_Mo_test_f_5 2 (by decide) (by decide)), List.forall_mem_cons.mpr ⟨(oo_Mo_test_f_6 2 (by decide) (by decide)), List.forall_mem_nil _⟩⟩⟩⟩⟩⟩⟩) (by decide +kernel) ⟨List.forall_mem_cons.mpr ⟨gf_Mo_1169, List.forall_mem_nil _⟩, List.forall_mem_cons.mpr ⟨pf_Mo_1169, List.forall_mem_nil _⟩, List.forall_mem_cons.mpr ⟨cl_virtual (y := y_Mo_both_at_f2) (ci := 13) rfl rfl ⟨_, _, rfl⟩ (by decide +kernel) h_Mo_both_at_f2 wm_3819 wm_9 wm_3816 wm_3818 wv_23_8 ⟨by decide, by decide, by decide +kernel⟩ (by decide), List.forall_mem_cons.mpr ⟨cl_virtual (y := y_Mo_word_at_s5041) (ci := 13) rfl rfl ⟨_, _, rfl⟩ (by decide +kernel) h_Mo_word_at_s5041 wm_3809 wm_9 wm_3806 wm_3808 wv_23_6 ⟨by decide, by decide, by decide +kernel⟩ (by decide), List.forall_mem_cons.mpr ⟨cl_virtual (y := y_Mo_both_at_f2) (ci := 13) rfl rfl ⟨_, _, rfl⟩ (by decide +kernel) h_Mo_both_at_f2 wm_3819 wm_9 wm_3816 wm_3818 wv_23_8 ⟨by decide, by decide, by decide +kernel⟩ (by decide), List.forall_mem_cons.mpr ⟨cl_ldcw (own := "DrawingHouseModel") (idx := 1223) (i := 41) (tx := "or") (by decide +kernel) (by decide +kernel) (by decide +kernel), List.forall_mem_nil _⟩⟩⟩⟩, List.forall_mem_nil _, List.forall_mem_nil _, GG_pl⟩ (by decide +kernel)
def n_Mo_test_at_f3_an : List an_T := [(5, [(0, (2, 0, 0, [150])), (1, (0, 0, 1, []))], [], (0, 0), [(0, 0, 99995), (2, 5, 0), (0, 0, 100000)], [(1, 3, -1000000000000, 2009), (1, 4, -1000000000000, 2009), (3, 1, -1000000000000, 1), (3, 4, -1000000000000, 1), (4, 1, -1000000000000, 2009), (4, 3, -1000000000000, 2009)], [((0, 158), (0, 0, 2009, []))], [(2, 0, 0, [150]), (0, 0, 2009, [])], 0, [(0, 0, 2010, [])], [(20, [2], [50, 2, 1, 158, 157, 160, 2, 12, 0, 7, 4, 3, 2, 0, 158, 0, 1, 2, 0, 157, 2, 7, 0, 3, 2, 0, 157, 0, 2010, 3, 14, 1, 10, 3, 0, 160, 5, 3, 2, 0, 157, 0, 1, 0, 0, 1, 10, 3, 0, 160, 5, 3, 2, 0, 157, 0, 1, 0, 4]), (20, [1, 2], [30, 0, 1, 0, 0, -1, 1, 158]), (20, [2], [50, 2, 0, 164, 165, 4, 7, 1, 3, 2, 0, 164, 0, 0, 0, 3, 2, 0, 165, 0, 23]), (20, [2], [30, 3, 1, 1, 159]), (20, [2], [30, -3, -1, 1, 159]), (24, [0, 2], []), (20, [5, 2], [30, 2010, 1, 0, 0, 1, 1, 158]), (20, [5, 2], [30, -2010, -1, 0, 0, -1, 1, 158])]), (43, [(0, (2, 0, 0, [150])), (1, (0, 0, 1, [])), (2, (0, 0, 1, []))], [(0, 0, 1, [])], (0, 0), [(0, 0, 99995), (2, 6, 0), (0, 0, 99957)], [(1, 3, -1000000000000, 2009), (1, 4, -1000000000000, 2009), (1, 5, -1000000000000, 2009), (3, 1, -1000000000000, 1), (3, 4, -1000000000000, 1), (3, 5, -1000000000000, 0), (4, 1, -1000000000000, 1), (4, 3, -1000000000000, 1), (4, 5, -1000000000000, 0), (5, 1, -1000000000000, 1), (5, 3, -1000000000000, 1), (5, 4, -1000000000000, 1)], [], [(2, 0, 0, [150]), (0, 0, 2009, [])], 0, [(0, 0, 2010, [])], [(20, [2], [50, 2, 1, 158, 157, 160, 2, 12, 0, 7, 4, 3, 2, 0, 158, 0, 1, 2, 0, 157, 2, 7, 0, 3, 2, 0, 157, 0, 2010, 3, 14, 1, 10, 3, 0, 160, 5, 3, 2, 0, 157, 0, 1, 0, 0, 1, 10, 3, 0, 160, 5, 3, 2, 0, 157, 0, 1, 0, 4]), (20, [1, 2], [30, 0, 1, 0, 0, -1, 1, 158]), (20, [2], [50, 2, 0, 164, 165, 4, 7, 1, 3, 2, 0, 164, 0, 0, 0, 3, 2, 0, 165, 0, 23]), (20, [2], [30, 3, 1, 1, 159]), (20, [2], [30, -3, -1, 1, 159]), (20, [6, 2], [30, -2011, -1, 0, 0, -1, 1, 158]), (24, [0, 2], [])])]
def t_Mo_test_at_f3_ct : ct_L := [(7, 1220, e_Mo_both_at_f3), (31, 1190, e_Mo_word_at_s5041), (82, 1220, e_Mo_both_at_f3), (1000001, 1223, en_ro [] (2, 0, 0, [5041]))]
set_option maxRecDepth 100000 in
theorem c_Mo_test_at_f3 {l : Launch} {D : va_G} {kA : Nat → ClassId} (h_Mo_both_at_f3 : ct_ok l D kA GG y_Mo_both_at_f3 z_Mo_both_at_f3 e_Mo_both_at_f3) (h_Mo_word_at_s5041 : ct_ok l D kA GG y_Mo_word_at_s5041 z_Mo_word_at_s5041 e_Mo_word_at_s5041) : ct_ok l D kA GG y_Mo_test_at_f3 z_Mo_test_at_f3 e_Mo_test_at_f3 := chk_all_ok (FT := [(1169, 13, 158)]) (PT := [(1169, 13, 158, .int)]) (CT := t_Mo_test_at_f3_ct) (KT := []) (NT := []) (AN := n_Mo_test_at_f3_an) (OT := [(o_Mo_test_f_0 3), (o_Mo_test_f_1 3), (o_Mo_test_f_2 3), (o_Mo_test_f_3 3), (o_Mo_test_f_4 3), (o_Mo_test_f_5 3), (o_Mo_test_f_6 3)]) 3 200 (List.forall_mem_cons.mpr ⟨(oo_Mo_test_f_0 3 (by decide) (by decide)), List.forall_mem_cons.mpr ⟨(oo_Mo_test_f_1 3 (by decide) (by decide)), List.forall_mem_cons.mpr ⟨(oo_Mo_test_f_2 3 (by decide) (by decide)), List.forall_mem_cons.mpr ⟨(oo_Mo_test_f_3 3 (by decide) (by decide)), List.forall_mem_cons.mpr ⟨(oo_Mo_test_f_4 3 (by decide) (by decide)), List.forall_mem_cons.mpr ⟨(oo_Mo_test_f_5 3 (by decide) (by decide)), List.forall_mem_cons.mpr ⟨(oo_Mo_test_f_6 3 (by decide) (by decide)), List.forall_mem_nil _⟩⟩⟩⟩⟩⟩⟩) (by decide +kernel) ⟨List.forall_mem_cons.mpr ⟨gf_Mo_1169, List.forall_mem_nil _⟩, List.forall_mem_cons.mpr ⟨pf_Mo_1169, List.forall_mem_nil _⟩, List.forall_mem_cons.mpr ⟨cl_virtual (y := y_Mo_both_at_f3) (ci := 13) rfl rfl ⟨_, _, rfl⟩ (by decide +kernel) h_Mo_both_at_f3 wm_3819 wm_9 wm_3816 wm_3818 wv_23_8 ⟨by decide, by decide, by decide +kernel⟩ (by decide), List.forall_mem_cons.mpr ⟨cl_virtual (y := y_Mo_word_at_s5041) (ci := 13) rfl rfl ⟨_, _, rfl⟩ (by decide +kernel) h_Mo_word_at_s5041 wm_3809 wm_9 wm_3806 wm_3808 wv_23_6 ⟨by decide, by decide, by decide +kernel⟩ (by decide), List.forall_mem_cons.mpr ⟨cl_virtual (y := y_Mo_both_at_f3) (ci := 13) rfl rfl ⟨_, _, rfl⟩ (by decide +kernel) h_Mo_both_at_f3 wm_3819 wm_9 wm_3816 wm_3818 wv_23_8 ⟨by decide, by decide, by decide +kernel⟩ (by decide), List.forall_mem_cons.mpr ⟨cl_ldcw (own := "DrawingHouseModel") (idx := 1223) (i := 41) (tx := "or") (by decide +kernel) (by decide +kernel) (by decide +kernel), List.forall_mem_nil _⟩⟩⟩⟩, List.forall_mem_nil _, List.forall_mem_nil _, GG_pl⟩ (by decide +kernel)
def n_Mo_test_at_f4_an : List an_T := [(5, [(0, (2, 0, 0, [150])), (1, (0, 0, 1, []))], [], (0, 0), [(0, 0, 99995), (2, 5, 0), (0, 0, 100000)], [(1, 3, -1000000000000, 2009), (1, 4, -1000000000000, 2009), (3, 1, -1000000000000, 1), (3, 4, -1000000000000, 1), (4, 1, -1000000000000, 2009), (4, 3, -1000000000000, 2009)], [((0, 158), (0, 0, 2009, []))], [(2, 0, 0, [150]), (0, 0, 2009, [])], 0, [(0, 0, 2010, [])], [(20, [2], [50, 2, 1, 158, 157, 160, 2, 12, 0, 7, 4, 3, 2, 0, 158, 0, 1, 2, 0, 157, 2, 7, 0, 3, 2, 0, 157, 0, 2010, 3, 14, 1, 10, 3, 0, 160, 5, 3, 2, 0, 157, 0, 1, 0, 0, 1, 10, 3, 0, 160, 5, 3, 2, 0, 157, 0, 1, 0, 4]), (20, [1, 2], [30, 0, 1, 0, 0, -1, 1, 158]), (20, [2], [50, 2, 0, 164, 165, 4, 7, 1, 3, 2, 0, 164, 0, 0, 0, 3, 2, 0, 165, 0, 23]), (20, [2], [30, 4, 1, 1, 159]), (20, [2], [30, -4, -1, 1, 159]), (24, [0, 2], []), (20, [5, 2], [30, 2010, 1, 0, 0, 1, 1, 158]), (20, [5, 2], [30, -2010, -1, 0, 0, -1, 1, 158])]), (43, [(0, (2, 0, 0, [150])), (1, (0, 0, 1, [])), (2, (0, 0, 1, []))], [(0, 0, 1, [])], (0, 0), [(0, 0, 99995), (2, 6, 0), (0, 0, 99957)], [(1, 3, -1000000000000, 2009), (1, 4, -1000000000000, 2009), (1, 5, -1000000000000, 2009), (3, 1, -1000000000000, 1), (3, 4, -1000000000000, 1), (3, 5, -1000000000000, 0), (4, 1, -1000000000000, 1), (4, 3, -1000000000000, 1), (4, 5, -1000000000000, 0), (5, 1, -1000000000000, 1), (5, 3, -1000000000000, 1), (5, 4, -1000000000000, 1)], [], [(2, 0, 0, [150]), (0, 0, 2009, [])], 0, [(0, 0, 2010, [])], [(20, [2], [50, 2, 1, 158, 157, 160, 2, 12, 0, 7, 4, 3, 2, 0, 158, 0, 1, 2, 0, 157, 2, 7, 0, 3, 2, 0, 157, 0, 2010, 3, 14, 1, 10, 3, 0, 160, 5, 3, 2, 0, 157, 0, 1, 0, 0, 1, 10, 3, 0, 160, 5, 3, 2, 0, 157, 0, 1, 0, 4]), (20, [1, 2], [30, 0, 1, 0, 0, -1, 1, 158]), (20, [2], [50, 2, 0, 164, 165, 4, 7, 1, 3, 2, 0, 164, 0, 0, 0, 3, 2, 0, 165, 0, 23]), (20, [2], [30, 4, 1, 1, 159]), (20, [2], [30, -4, -1, 1, 159]), (20, [6, 2], [30, -2011, -1, 0, 0, -1, 1, 158]), (24, [0, 2], [])])]
def t_Mo_test_at_f4_ct : ct_L := [(7, 1220, e_Mo_both_at_f4), (31, 1190, e_Mo_word_at_s5041), (82, 1220, e_Mo_both_at_f4), (1000001, 1223, en_ro [] (2, 0, 0, [5041]))]
set_option maxRecDepth 100000 in
theorem c_Mo_test_at_f4 {l : Launch} {D : va_G} {kA : Nat → ClassId} (h_Mo_both_at_f4 : ct_ok l D kA GG y_Mo_both_at_f4 z_Mo_both_at_f4 e_Mo_both_at_f4) (h_Mo_word_at_s5041 : ct_ok l D kA GG y_Mo_word_at_s5041 z_Mo_word_at_s5041 e_Mo_word_at_s5041) : ct_ok l D kA GG y_Mo_test_at_f4 z_Mo_test_at_f4 e_Mo_test_at_f4 := chk_all_ok (FT := [(1169, 13, 158)]) (PT := [(1169, 13, 158, .int)]) (CT := t_Mo_test_at_f4_ct) (KT := []) (NT := []) (AN := n_Mo_test_at_f4_an) (OT := [(o_Mo_test_f_0 4), (o_Mo_test_f_1 4), (o_Mo_test_f_2 4), (o_Mo_test_f_3 4), (o_Mo_test_f_4 4), (o_Mo_test_f_5 4), (o_Mo_test_f_6 4)]) 3 200 (List.forall_mem_cons.mpr ⟨(oo_Mo_test_f_0 4 (by decide) (by decide)), List.forall_mem_cons.mpr ⟨(oo_Mo_test_f_1 4 (by decide) (by decide)), List.forall_mem_cons.mpr ⟨(oo_Mo_test_f_2 4 (by decide) (by decide)), List.forall_mem_cons.mpr ⟨(oo_Mo_test_f_3 4 (by decide) (by decide)), List.forall_mem_cons.mpr ⟨(oo_Mo_test_f_4 4 (by decide) (by decide)), List.forall_mem_cons.mpr ⟨(oo_Mo_test_f_5 4 (by decide) (by decide)), List.forall_mem_cons.mpr ⟨(oo_Mo_test_f_6 4 (by decide) (by decide)), List.forall_mem_nil _⟩⟩⟩⟩⟩⟩⟩) (by decide +kernel) ⟨List.forall_mem_cons.mpr ⟨gf_Mo_1169, List.forall_mem_nil _⟩, List.forall_mem_cons.mpr ⟨pf_Mo_1169, List.forall_mem_nil _⟩, List.forall_mem_cons.mpr ⟨cl_virtual (y := y_Mo_both_at_f4) (ci := 13) rfl rfl ⟨_, _, rfl⟩ (by decide +kernel) h_Mo_both_at_f4 wm_3819 wm_9 wm_3816 wm_3818 wv_23_8 ⟨by decide, by decide, by decide +kernel⟩ (by decide), List.forall_mem_cons.mpr ⟨cl_virtual (y := y_Mo_word_at_s5041) (ci := 13) rfl rfl ⟨_, _, rfl⟩ (by decide +kernel) h_Mo_word_at_s5041 wm_3809 wm_9 wm_3806 wm_3808 wv_23_6 ⟨by decide, by decide, by decide +kernel⟩ (by decide), List.forall_mem_cons.mpr ⟨cl_virtual (y := y_Mo_both_at_f4) (ci := 13) rfl rfl ⟨_, _, rfl⟩ (by decide +kernel) h_Mo_both_at_f4 wm_3819 wm_9 wm_3816 wm_3818 wv_23_8 ⟨by decide, by decide, by decide +kernel⟩ (by decide), List.forall_mem_cons.mpr ⟨cl_ldcw (own := "DrawingHouseModel") (idx := 1223) (i := 41) (tx := "or") (by decide +kernel) (by decide +kernel) (by decide +kernel), List.forall_mem_nil _⟩⟩⟩⟩, List.forall_mem_nil _, List.forall_mem_nil _, GG_pl⟩ (by decide +kernel)
def n_Mo_test_at_f5_an : List an_T := [(5, [(0, (2, 0, 0, [150])), (1, (0, 0, 1, []))], [], (0, 0), [(0, 0, 99995), (2, 5, 0), (0, 0, 100000)], [(1, 3, -1000000000000, 2009), (1, 4, -1000000000000, 2009), (3, 1, -1000000000000, 1), (3, 4, -1000000000000, 1), (4, 1, -1000000000000, 2009), (4, 3, -1000000000000, 2009)], [((0, 158), (0, 0, 2009, []))], [(2, 0, 0, [150]), (0, 0, 2009, [])], 0, [(0, 0, 2010, [])], [(20, [2], [50, 2, 1, 158, 157, 160, 2, 12, 0, 7, 4, 3, 2, 0, 158, 0, 1, 2, 0, 157, 2, 7, 0, 3, 2, 0, 157, 0, 2010, 3, 14, 1, 10, 3, 0, 160, 5, 3, 2, 0, 157, 0, 1, 0, 0, 1, 10, 3, 0, 160, 5, 3, 2, 0, 157, 0, 1, 0, 4]), (20, [1, 2], [30, 0, 1, 0, 0, -1, 1, 158]), (20, [2], [50, 2, 0, 164, 165, 4, 7, 1, 3, 2, 0, 164, 0, 0, 0, 3, 2, 0, 165, 0, 23]), (20, [2], [30, 5, 1, 1, 159]), (20, [2], [30, -5, -1, 1, 159]), (24, [0, 2], []), (20, [5, 2], [30, 2010, 1, 0, 0, 1, 1, 158]), (20, [5, 2], [30, -2010, -1, 0, 0, -1, 1, 158])]), (43, [(0, (2, 0, 0, [150])), (1, (0, 0, 1, [])), (2, (0, 0, 1, []))], [(0, 0, 1, [])], (0, 0), [(0, 0, 99995), (2, 6, 0), (0, 0, 99957)], [(1, 3, -1000000000000, 2009), (1, 4, -1000000000000, 2009), (1, 5, -1000000000000, 2009), (3, 1, -1000000000000, 1), (3, 4, -1000000000000, 1), (3, 5, -1000000000000, 0), (4, 1, -1000000000000, 1), (4, 3, -1000000000000, 1), (4, 5, -1000000000000, 0), (5, 1, -1000000000000, 1), (5, 3, -1000000000000, 1), (5, 4, -1000000000000, 1)], [], [(2, 0, 0, [150]), (0, 0, 2009, [])], 0, [(0, 0, 2010, [])], [(20, [2], [50, 2, 1, 158, 157, 160, 2, 12, 0, 7, 4, 3, 2, 0, 158, 0, 1, 2, 0, 157, 2, 7, 0, 3, 2, 0, 157, 0, 2010, 3, 14, 1, 10, 3, 0, 160, 5, 3, 2, 0, 157, 0, 1, 0, 0, 1, 10, 3, 0, 160, 5, 3, 2, 0, 157, 0, 1, 0, 4]), (20, [1, 2], [30, 0, 1, 0, 0, -1, 1, 158]), (20, [2], [50, 2, 0, 164, 165, 4, 7, 1, 3, 2, 0, 164, 0, 0, 0, 3, 2, 0, 165, 0, 23]), (20, [2], [30, 5, 1, 1, 159]), (20, [2], [30, -5, -1, 1, 159]), (20, [6, 2], [30, -2011, -1, 0, 0, -1, 1, 158]), (24, [0, 2], [])])]
def t_Mo_test_at_f5_ct : ct_L := [(7, 1220, e_Mo_both_at_f5), (31, 1190, e_Mo_word_at_s5041), (82, 1220, e_Mo_both_at_f5), (1000001, 1223, en_ro [] (2, 0, 0, [5041]))]
set_option maxRecDepth 100000 in
theorem c_Mo_test_at_f5 {l : Launch} {D : va_G} {kA : Nat → ClassId} (h_Mo_both_at_f5 : ct_ok l D kA GG y_Mo_both_at_f5 z_Mo_both_at_f5 e_Mo_both_at_f5) (h_Mo_word_at_s5041 : ct_ok l D kA GG y_Mo_word_at_s5041 z_Mo_word_at_s5041 e_Mo_word_at_s5041) : ct_ok l D kA GG y_Mo_test_at_f5 z_Mo_test_at_f5 e_Mo_test_at_f5 := chk_all_ok (FT := [(1169, 13, 158)]) (PT := [(1169, 13, 158, .int)]) (CT := t_Mo_test_at_f5_ct) (KT := []) (NT := []) (AN := n_Mo_test_at_f5_an) (OT := [(o_Mo_test_f_0 5), (o_Mo_test_f_1 5), (o_Mo_test_f_2 5), (o_Mo_test_f_3 5), (o_Mo_test_f_4 5), (o_Mo_test_f_5 5), (o_Mo_test_f_6 5)]) 3 200 (List.forall_mem_cons.mpr ⟨(oo_Mo_test_f_0 5 (by decide) (by decide)), List.forall_mem_cons.mpr ⟨(oo_Mo_test_f_1 5 (by decide) (by decide)), List.forall_mem_cons.mpr ⟨(oo_Mo_test_f_2 5 (by decide) (by decide)), List.forall_mem_cons.mpr ⟨(oo_Mo_test_f_3 5 (by decide) (by decide)), List.forall_mem_cons.mpr ⟨(oo_Mo_test_f_4 5 (by decide) (by decide)), List.forall_mem_cons.mpr ⟨(oo_Mo_test_f_5 5 (by decide) (by decide)), List.forall_mem_cons.mpr ⟨(oo_Mo_test_f_6 5 (by decide) (by decide)), List.forall_mem_nil _⟩⟩⟩⟩⟩⟩⟩) (by decide +kernel) ⟨List.forall_mem_cons.mpr ⟨gf_Mo_1169, List.forall_mem_nil _⟩, List.forall_mem_cons.mpr ⟨pf_Mo_1169, List.forall_mem_nil _⟩, List.forall_mem_cons.mpr ⟨cl_virtual (y := y_Mo_both_at_f5) (ci := 13) rfl rfl ⟨_, _, rfl⟩ (by decide +kernel) h_Mo_both_at_f5 wm_3819 wm_9 wm_3816 wm_3818 wv_23_8 ⟨by decide, by decide, by decide +kernel⟩ (by decide), List.forall_mem_cons.mpr ⟨cl_virtual (y := y_Mo_word_at_s5041) (ci := 13) rfl rfl ⟨_, _, rfl⟩ (by decide +kernel) h_Mo_word_at_s5041 wm_3809 wm_9 wm_3806 wm_3808 wv_23_6 ⟨by decide, by decide, by decide +kernel⟩ (by decide), List.forall_mem_cons.mpr ⟨cl_virtual (y := y_Mo_both_at_f5) (ci := 13) rfl rfl ⟨_, _, rfl⟩ (by decide +kernel) h_Mo_both_at_f5 wm_3819 wm_9 wm_3816 wm_3818 wv_23_8 ⟨by decide, by decide, by decide +kernel⟩ (by decide), List.forall_mem_cons.mpr ⟨cl_ldcw (own := "DrawingHouseModel") (idx := 1223) (i := 41) (tx := "or") (by decide +kernel) (by decide +kernel) (by decide +kernel), List.forall_mem_nil _⟩⟩⟩⟩, List.forall_mem_nil _, List.forall_mem_nil _, GG_pl⟩ (by decide +kernel)
def n_Mo_test_at_f6_an : List an_T := [(5, [(0, (2, 0, 0, [150])), (1, (0, 0, 1, []))], [], (0, 0), [(0, 0, 99995), (2, 5, 0), (0, 0, 100000)], [(1, 3, -1000000000000, 2009), (1, 4, -1000000000000, 2009), (3, 1, -1000000000000, 1), (3, 4, -1000000000000, 1), (4, 1, -1000000000000, 2009), (4, 3, -1000000000000, 2009)], [((0, 158), (0, 0, 2009, []))], [(2, 0, 0, [150]), (0, 0, 2009, [])], 0, [(0, 0, 2010, [])], [(20, [2], [50, 2, 1, 158, 157, 160, 2, 12, 0, 7, 4, 3, 2, 0, 158, 0, 1, 2, 0, 157, 2, 7, 0, 3, 2, 0, 157, 0, 2010, 3, 14, 1, 10, 3, 0, 160, 5, 3, 2, 0, 157, 0, 1, 0, 0, 1, 10, 3, 0, 160, 5, 3, 2, 0, 157, 0, 1, 0, 4]), (20, [1, 2], [30, 0, 1, 0, 0, -1, 1, 158]), (20, [2], [50, 2, 0, 164, 165, 4, 7, 1, 3, 2, 0, 164, 0, 0, 0, 3, 2, 0, 165, 0, 23]), (20, [2], [30, 6, 1, 1, 159]), (20, [2], [30, -6, -1, 1, 159]), (24, [0, 2], []), (20, [5, 2], [30, 2010, 1, 0, 0, 1, 1, 158]), (20, [5, 2], [30, -2010, -1, 0, 0, -1, 1, 158])]), (43, [(0, (2, 0, 0, [150])), (1, (0, 0, 1, [])), (2, (0, 0, 1, []))], [(0, 0, 1, [])], (0, 0), [(0, 0, 99995), (2, 6, 0), (0, 0, 99957)], [(1, 3, -1000000000000, 2009), (1, 4, -1000000000000, 2009), (1, 5, -1000000000000, 2009), (3, 1, -1000000000000, 1), (3, 4, -1000000000000, 1), (3, 5, -1000000000000, 0), (4, 1, -1000000000000, 1), (4, 3, -1000000000000, 1), (4, 5, -1000000000000, 0), (5, 1, -1000000000000, 1), (5, 3, -1000000000000, 1), (5, 4, -1000000000000, 1)], [], [(2, 0, 0, [150]), (0, 0, 2009, [])], 0, [(0, 0, 2010, [])], [(20, [2], [50, 2, 1, 158, 157, 160, 2, 12, 0, 7, 4, 3, 2, 0, 158, 0, 1, 2, 0, 157, 2, 7, 0, 3, 2, 0, 157, 0, 2010, 3, 14, 1, 10, 3, 0, 160, 5, 3, 2, 0, 157, 0, 1, 0, 0, 1, 10, 3, 0, 160, 5, 3, 2, 0, 157, 0, 1, 0, 4]), (20, [1, 2], [30, 0, 1, 0, 0, -1, 1, 158]), (20, [2], [50, 2, 0, 164, 165, 4, 7, 1, 3, 2, 0, 164, 0, 0, 0, 3, 2, 0, 165, 0, 23]), (20, [2], [30, 6, 1, 1, 159]), (20, [2], [30, -6, -1, 1, 159]), (20, [6, 2], [30, -2011, -1, 0, 0, -1, 1, 158]), (24, [0, 2], [])])]
def t_Mo_test_at_f6_ct : ct_L := [(7, 1220, e_Mo_both_at_f6), (31, 1190, e_Mo_word_at_s5041), (82, 1220, e_Mo_both_at_f6), (1000001, 1223, en_ro [] (2, 0, 0, [5041]))]
set_option maxRecDepth 100000 in
theorem c_Mo_test_at_f6 {l : Launch} {D : va_G} {kA : Nat → ClassId} (h_Mo_both_at_f6 : ct_ok l D kA GG y_Mo_both_at_f6 z_Mo_both_at_f6 e_Mo_both_at_f6) (h_Mo_word_at_s5041 : ct_ok l D kA GG y_Mo_word_at_s5041 z_Mo_word_at_s5041 e_Mo_word_at_s5041) : ct_ok l D kA GG y_Mo_test_at_f6 z_Mo_test_at_f6 e_Mo_test_at_f6 := chk_all_ok (FT := [(1169, 13, 158)]) (PT := [(1169, 13, 158, .int)]) (CT := t_Mo_test_at_f6_ct) (KT := []) (NT := []) (AN := n_Mo_test_at_f6_an) (OT := [(o_Mo_test_f_0 6), (o_Mo_test_f_1 6), (o_Mo_test_f_2 6), (o_Mo_test_f_3 6), (o_Mo_test_f_4 6), (o_Mo_test_f_5 6), (o_Mo_test_f_6 6)]) 3 200 (List.forall_mem_cons.mpr ⟨(oo_Mo_test_f_0 6 (by decide) (by decide)), List.forall_mem_cons.mpr ⟨(oo_Mo_test_f_1 6 (by decide) (by decide)), List.forall_mem_cons.mpr ⟨(oo_Mo_test_f_2 6 (by decide) (by decide)), List.forall_mem_cons.mpr ⟨(oo_Mo_test_f_3 6 (by decide) (by decide)), List.forall_mem_cons.mpr ⟨(oo_Mo_test_f_4 6 (by decide) (by decide)), List.forall_mem_cons.mpr ⟨(oo_Mo_test_f_5 6 (by decide) (by decide)), List.forall_mem_cons.mpr ⟨(oo_Mo_test_f_6 6 (by decide) (by decide)), List.forall_mem_nil _⟩⟩⟩⟩⟩⟩⟩) (by decide +kernel) ⟨List.forall_mem_cons.mpr ⟨gf_Mo_1169, List.forall_mem_nil _⟩, List.forall_mem_cons.mpr ⟨pf_Mo_1169, List.forall_mem_nil _⟩, List.forall_mem_cons.mpr ⟨cl_virtual (y := y_Mo_both_at_f6) (ci := 13) rfl rfl ⟨_, _, rfl⟩ (by decide +kernel) h_Mo_both_at_f6 wm_3819 wm_9 wm_3816 wm_3818 wv_23_8 ⟨by decide, by decide, by decide +kernel⟩ (by decide), List.forall_mem_cons.mpr ⟨cl_virtual (y := y_Mo_word_at_s5041) (ci := 13) rfl rfl ⟨_, _, rfl⟩ (by decide +kernel) h_Mo_word_at_s5041 wm_3809 wm_9 wm_3806 wm_3808 wv_23_6 ⟨by decide, by decide, by decide +kernel⟩ (by decide), List.forall_mem_cons.mpr ⟨cl_virtual (y := y_Mo_both_at_f6) (ci := 13) rfl rfl ⟨_, _, rfl⟩ (by decide +kernel) h_Mo_both_at_f6 wm_3819 wm_9 wm_3816 wm_3818 wv_23_8 ⟨by decide, by decide, by decide +kernel⟩ (by decide), List.forall_mem_cons.mpr ⟨cl_ldcw (own := "DrawingHouseModel") (idx := 1223) (i := 41) (tx := "or") (by decide +kernel) (by decide +kernel) (by decide +kernel), List.forall_mem_nil _⟩⟩⟩⟩, List.forall_mem_nil _, List.forall_mem_nil _, GG_pl⟩ (by decide +kernel)
def n_Mo_test_at_f7_an : List an_T := [(5, [(0, (2, 0, 0, [150])), (1, (0, 0, 1, []))], [], (0, 0), [(0, 0, 99995), (2, 5, 0), (0, 0, 100000)], [(1, 3, -1000000000000, 2009), (1, 4, -1000000000000, 2009), (3, 1, -1000000000000, 1), (3, 4, -1000000000000, 1), (4, 1, -1000000000000, 2009), (4, 3, -1000000000000, 2009)], [((0, 158), (0, 0, 2009, []))], [(2, 0, 0, [150]), (0, 0, 2009, [])], 0, [(0, 0, 2010, [])], [(20, [2], [50, 2, 1, 158, 157, 160, 2, 12, 0, 7, 4, 3, 2, 0, 158, 0, 1, 2, 0, 157, 2, 7, 0, 3, 2, 0, 157, 0, 2010, 3, 14, 1, 10, 3, 0, 160, 5, 3, 2, 0, 157, 0, 1, 0, 0, 1, 10, 3, 0, 160, 5, 3, 2, 0, 157, 0, 1, 0, 4]), (20, [1, 2], [30, 0, 1, 0, 0, -1, 1, 158]), (20, [2], [50, 2, 0, 164, 165, 4, 7, 1, 3, 2, 0, 164, 0, 0, 0, 3, 2, 0, 165, 0, 23]), (20, [2], [30, 7, 1, 1, 159]), (20, [2], [30, -7, -1, 1, 159]), (24, [0, 2], []), (20, [5, 2], [30, 2010, 1, 0, 0, 1, 1, 158]), (20, [5, 2], [30, -2010, -1, 0, 0, -1, 1, 158])]), (43, [(0, (2, 0, 0, [150])), (1, (0, 0, 1, [])), (2, (0, 0, 1, []))], [(0, 0, 1, [])], (0, 0), [(0, 0, 99995), (2, 6, 0), (0, 0, 99957)], [(1, 3, -1000000000000, 2009), (1, 4, -1000000000000, 2009), (1, 5, -1000000000000, 2009), (3, 1, -1000000000000, 1), (3, 4, -1000000000000, 1), (3, 5, -1000000000000, 0), (4, 1, -1000000000000, 1), (4, 3, -1000000000000, 1), (4, 5, -1000000000000, 0), (5, 1, -1000000000000, 1), (5, 3, -1000000000000, 1), (5, 4, -1000000000000, 1)], [], [(2, 0, 0, [150]), (0, 0, 2009, [])], 0, [(0, 0, 2010, [])], [(20, [2], [50, 2, 1, 158, 157, 160, 2, 12, 0, 7, 4, 3, 2, 0, 158, 0, 1, 2, 0, 157, 2, 7, 0, 3, 2, 0, 157, 0, 2010, 3, 14, 1, 10, 3, 0, 160, 5, 3, 2, 0, 157, 0, 1, 0, 0, 1, 10, 3, 0, 160, 5, 3, 2, 0, 157, 0, 1, 0, 4]), (20, [1, 2], [30, 0, 1, 0, 0, -1, 1, 158]), (20, [2], [50, 2, 0, 164, 165, 4, 7, 1, 3, 2, 0, 164, 0, 0, 0, 3, 2, 0, 165, 0, 23]), (20, [2], [30, 7, 1, 1, 159]), (20, [2], [30, -7, -1, 1, 159]), (20, [6, 2], [30, -2011, -1, 0, 0, -1, 1, 158]), (24, [0, 2], [])])]
def t_Mo_test_at_f7_ct : ct_L := [(7, 1220, e_Mo_both_at_f7), (31, 1190, e_Mo_word_at_s5041), (82, 1220, e_Mo_both_at_f7), (1000001, 1223, en_ro [] (2, 0, 0, [5041]))]
set_option maxRecDepth 100000 in
theorem c_Mo_test_at_f7 {l : Launch} {D : va_G} {kA : Nat → ClassId} (h_Mo_both_at_f7 : ct_ok l D kA GG y_Mo_both_at_f7 z_Mo_both_at_f7 e_Mo_both_at_f7) (h_Mo_word_at_s5041 : ct_ok l D kA GG y_Mo_word_at_s5041 z_Mo_word_at_s5041 e_Mo_word_at_s5041) : ct_ok l D kA GG y_Mo_test_at_f7 z_Mo_test_at_f7 e_Mo_test_at_f7 := chk_all_ok (FT := [(1169, 13, 158)]) (PT := [(1169, 13, 158, .int)]) (CT := t_Mo_test_at_f7_ct) (KT := []) (NT := []) (AN := n_Mo_test_at_f7_an) (OT := [(o_Mo_test_f_0 7), (o_Mo_test_f_1 7), (o_Mo_test_f_2 7), (o_Mo_test_f_3 7), (o_Mo_test_f_4 7), (o_Mo_test_f_5 7), (o_Mo_test_f_6 7)]) 3 200 (List.forall_mem_cons.mpr ⟨(oo_Mo_test_f_0 7 (by decide) (by decide)), List.forall_mem_cons.mpr ⟨(oo_Mo_test_f_1 7 (by decide) (by decide)), List.forall_mem_cons.mpr ⟨(oo_Mo_test_f_2 7 (by decide) (by decide)), List.forall_mem_cons.mpr ⟨(oo_Mo_test_f_3 7 (by decide) (by decide)), List.forall_mem_cons.mpr ⟨(oo_Mo_test_f_4 7 (by decide) (by decide)), List.forall_mem_cons.mpr ⟨(oo_Mo_test_f_5 7 (by decide) (by decide)), List.forall_mem_cons.mpr ⟨(oo_Mo_test_f_6 7 (by decide) (by decide)), List.forall_mem_nil _⟩⟩⟩⟩⟩⟩⟩) (by decide +kernel) ⟨List.forall_mem_cons.mpr ⟨gf_Mo_1169, List.forall_mem_nil _⟩, List.forall_mem_cons.mpr ⟨pf_Mo_1169, List.forall_mem_nil _⟩, List.forall_mem_cons.mpr ⟨cl_virtual (y := y_Mo_both_at_f7) (ci := 13) rfl rfl ⟨_, _, rfl⟩ (by decide +kernel) h_Mo_both_at_f7 wm_3819 wm_9 wm_3816 wm_3818 wv_23_8 ⟨by decide, by decide, by decide +kernel⟩ (by decide), List.forall_mem_cons.mpr ⟨cl_virtual (y := y_Mo_word_at_s5041) (ci := 13) rfl rfl ⟨_, _, rfl⟩ (by decide +kernel) h_Mo_word_at_s5041 wm_3809 wm_9 wm_3806 wm_3808 wv_23_6 ⟨by decide, by decide, by decide +kernel⟩ (by decide), List.forall_mem_cons.mpr ⟨cl_virtual (y := y_Mo_both_at_f7) (ci := 13) rfl rfl ⟨_, _, rfl⟩ (by decide +kernel) h_Mo_both_at_f7 wm_3819 wm_9 wm_3816 wm_3818 wv_23_8 ⟨by decide, by decide, by decide +kernel⟩ (by decide), List.forall_mem_cons.mpr ⟨cl_ldcw (own := "DrawingHouseModel") (idx := 1223) (i := 41) (tx := "or") (by decide +kernel) (by decide +kernel) (by decide +kernel), List.forall_mem_nil _⟩⟩⟩⟩, List.forall_mem_nil _, List.forall_mem_nil _, GG_pl⟩ (by decide +kernel)
def n_Mo_test_at_f8_an : List an_T := [(5, [(0, (2, 0, 0, [150])), (1, (0, 0, 1, []))], [], (0, 0), [(0, 0, 99995), (2, 5, 0), (0, 0, 100000)], [(1, 3, -1000000000000, 2009), (1, 4, -1000000000000, 2009), (3, 1, -1000000000000, 1), (3, 4, -1000000000000, 1), (4, 1, -1000000000000, 2009), (4, 3, -1000000000000, 2009)], [((0, 158), (0, 0, 2009, []))], [(2, 0, 0, [150]), (0, 0, 2009, [])], 0, [(0, 0, 2010, [])], [(20, [2], [50, 2, 1, 158, 157, 160, 2, 12, 0, 7, 4, 3, 2, 0, 158, 0, 1, 2, 0, 157, 2, 7, 0, 3, 2, 0, 157, 0, 2010, 3, 14, 1, 10, 3, 0, 160, 5, 3, 2, 0, 157, 0, 1, 0, 0, 1, 10, 3, 0, 160, 5, 3, 2, 0, 157, 0, 1, 0, 4]), (20, [1, 2], [30, 0, 1, 0, 0, -1, 1, 158]), (20, [2], [50, 2, 0, 164, 165, 4, 7, 1, 3, 2, 0, 164, 0, 0, 0, 3, 2, 0, 165, 0, 23]), (20, [2], [30, 8, 1, 1, 159]), (20, [2], [30, -8, -1, 1, 159]), (24, [0, 2], []), (20, [5, 2], [30, 2010, 1, 0, 0, 1, 1, 158]), (20, [5, 2], [30, -2010, -1, 0, 0, -1, 1, 158])]), (43, [(0, (2, 0, 0, [150])), (1, (0, 0, 1, [])), (2, (0, 0, 1, []))], [(0, 0, 1, [])], (0, 0), [(0, 0, 99995), (2, 6, 0), (0, 0, 99957)], [(1, 3, -1000000000000, 2009), (1, 4, -1000000000000, 2009), (1, 5, -1000000000000, 2009), (3, 1, -1000000000000, 1), (3, 4, -1000000000000, 1), (3, 5, -1000000000000, 0), (4, 1, -1000000000000, 1), (4, 3, -1000000000000, 1), (4, 5, -1000000000000, 0), (5, 1, -1000000000000, 1), (5, 3, -1000000000000, 1), (5, 4, -1000000000000, 1)], [], [(2, 0, 0, [150]), (0, 0, 2009, [])], 0, [(0, 0, 2010, [])], [(20, [2], [50, 2, 1, 158, 157, 160, 2, 12, 0, 7, 4, 3, 2, 0, 158, 0, 1, 2, 0, 157, 2, 7, 0, 3, 2, 0, 157, 0, 2010, 3, 14, 1, 10, 3, 0, 160, 5, 3, 2, 0, 157, 0, 1, 0, 0, 1, 10, 3, 0, 160, 5, 3, 2, 0, 157, 0, 1, 0, 4]), (20, [1, 2], [30, 0, 1, 0, 0, -1, 1, 158]), (20, [2], [50, 2, 0, 164, 165, 4, 7, 1, 3, 2, 0, 164, 0, 0, 0, 3, 2, 0, 165, 0, 23]), (20, [2], [30, 8, 1, 1, 159]), (20, [2], [30, -8, -1, 1, 159]), (20, [6, 2], [30, -2011, -1, 0, 0, -1, 1, 158]), (24, [0, 2], [])])]
def t_Mo_test_at_f8_ct : ct_L := [(7, 1220, e_Mo_both_at_f8), (31, 1190, e_Mo_word_at_s5041), (82, 1220, e_Mo_both_at_f8), (1000001, 1223, en_ro [] (2, 0, 0, [5041]))]
set_option maxRecDepth 100000 in
theorem c_Mo_test_at_f8 {l : Launch} {D : va_G} {kA : Nat → ClassId} (h_Mo_both_at_f8 : ct_ok l D kA GG y_Mo_both_at_f8 z_Mo_both_at_f8 e_Mo_both_at_f8) (h_Mo_word_at_s5041 : ct_ok l D kA GG y_Mo_word_at_s5041 z_Mo_word_at_s5041 e_Mo_word_at_s5041) : ct_ok l D kA GG y_Mo_test_at_f8 z_Mo_test_at_f8 e_Mo_test_at_f8 := chk_all_ok (FT := [(1169, 13, 158)]) (PT := [(1169, 13, 158, .int)]) (CT := t_Mo_test_at_f8_ct) (KT := []) (NT := []) (AN := n_Mo_test_at_f8_an) (OT := [(o_Mo_test_f_0 8), (o_Mo_test_f_1 8), (o_Mo_test_f_2 8), (o_Mo_test_f_3 8), (o_Mo_test_f_4 8), (o_Mo_test_f_5 8), (o_Mo_test_f_6 8)]) 3 200 (List.forall_mem_cons.mpr ⟨(oo_Mo_test_f_0 8 (by decide) (by decide)), List.forall_mem_cons.mpr ⟨(oo_Mo_test_f_1 8 (by decide) (by decide)), List.forall_mem_cons.mpr ⟨(oo_Mo_test_f_2 8 (by decide) (by decide)), List.forall_mem_cons.mpr ⟨(oo_Mo_test_f_3 8 (by decide) (by decide)), List.forall_mem_cons.mpr ⟨(oo_Mo_test_f_4 8 (by decide) (by decide)), List.forall_mem_cons.mpr ⟨(oo_Mo_test_f_5 8 (by decide) (by decide)), List.forall_mem_cons.mpr ⟨(oo_Mo_test_f_6 8 (by decide) (by decide)), List.forall_mem_nil _⟩⟩⟩⟩⟩⟩⟩) (by decide +kernel) ⟨List.forall_mem_cons.mpr ⟨gf_Mo_1169, List.forall_mem_nil _⟩, List.forall_mem_cons.mpr ⟨pf_Mo_1169, List.forall_mem_nil _⟩, List.forall_mem_cons.mpr ⟨cl_virtual (y := y_Mo_both_at_f8) (ci := 13) rfl rfl ⟨_, _, rfl⟩ (by decide +kernel) h_Mo_both_at_f8 wm_3819 wm_9 wm_3816 wm_3818 wv_23_8 ⟨by decide, by decide, by decide +kernel⟩ (by decide), List.forall_mem_cons.mpr ⟨cl_virtual (y := y_Mo_word_at_s5041) (ci := 13) rfl rfl ⟨_, _, rfl⟩ (by decide +kernel) h_Mo_word_at_s5041 wm_3809 wm_9 wm_3806 wm_3808 wv_23_6 ⟨by decide, by decide, by decide +kernel⟩ (by decide), List.forall_mem_cons.mpr ⟨cl_virtual (y := y_Mo_both_at_f8) (ci := 13) rfl rfl ⟨_, _, rfl⟩ (by decide +kernel) h_Mo_both_at_f8 wm_3819 wm_9 wm_3816 wm_3818 wv_23_8 ⟨by decide, by decide, by decide +kernel⟩ (by decide), List.forall_mem_cons.mpr ⟨cl_ldcw (own := "DrawingHouseModel") (idx := 1223) (i := 41) (tx := "or") (by decide +kernel) (by decide +kernel) (by decide +kernel), List.forall_mem_nil _⟩⟩⟩⟩, List.forall_mem_nil _, List.forall_mem_nil _, GG_pl⟩ (by decide +kernel)
def n_Mo_test_at_f9_an : List an_T := [(5, [(0, (2, 0, 0, [150])), (1, (0, 0, 1, []))], [], (0, 0), [(0, 0, 99995), (2, 5, 0), (0, 0, 100000)], [(1, 3, -1000000000000, 2009), (1, 4, -1000000000000, 2009), (3, 1, -1000000000000, 1), (3, 4, -1000000000000, 1), (4, 1, -1000000000000, 2009), (4, 3, -1000000000000, 2009)], [((0, 158), (0, 0, 2009, []))], [(2, 0, 0, [150]), (0, 0, 2009, [])], 0, [(0, 0, 2010, [])], [(20, [2], [50, 2, 1, 158, 157, 160, 2, 12, 0, 7, 4, 3, 2, 0, 158, 0, 1, 2, 0, 157, 2, 7, 0, 3, 2, 0, 157, 0, 2010, 3, 14, 1, 10, 3, 0, 160, 5, 3, 2, 0, 157, 0, 1, 0, 0, 1, 10, 3, 0, 160, 5, 3, 2, 0, 157, 0, 1, 0, 4]), (20, [1, 2], [30, 0, 1, 0, 0, -1, 1, 158]), (20, [2], [50, 2, 0, 164, 165, 4, 7, 1, 3, 2, 0, 164, 0, 0, 0, 3, 2, 0, 165, 0, 23]), (20, [2], [30, 9, 1, 1, 159]), (20, [2], [30, -9, -1, 1, 159]), (24, [0, 2], []), (20, [5, 2], [30, 2010, 1, 0, 0, 1, 1, 158]), (20, [5, 2], [30, -2010, -1, 0, 0, -1, 1, 158])]), (43, [(0, (2, 0, 0, [150])), (1, (0, 0, 1, [])), (2, (0, 0, 1, []))], [(0, 0, 1, [])], (0, 0), [(0, 0, 99995), (2, 6, 0), (0, 0, 99957)], [(1, 3, -1000000000000, 2009), (1, 4, -1000000000000, 2009), (1, 5, -1000000000000, 2009), (3, 1, -1000000000000, 1), (3, 4, -1000000000000, 1), (3, 5, -1000000000000, 0), (4, 1, -1000000000000, 1), (4, 3, -1000000000000, 1), (4, 5, -1000000000000, 0), (5, 1, -1000000000000, 1), (5, 3, -1000000000000, 1), (5, 4, -1000000000000, 1)], [], [(2, 0, 0, [150]), (0, 0, 2009, [])], 0, [(0, 0, 2010, [])], [(20, [2], [50, 2, 1, 158, 157, 160, 2, 12, 0, 7, 4, 3, 2, 0, 158, 0, 1, 2, 0, 157, 2, 7, 0, 3, 2, 0, 157, 0, 2010, 3, 14, 1, 10, 3, 0, 160, 5, 3, 2, 0, 157, 0, 1, 0, 0, 1, 10, 3, 0, 160, 5, 3, 2, 0, 157, 0, 1, 0, 4]), (20, [1, 2], [30, 0, 1, 0, 0, -1, 1, 158]), (20, [2], [50, 2, 0, 164, 165, 4, 7, 1, 3, 2, 0, 164, 0, 0, 0, 3, 2, 0, 165, 0, 23]), (20, [2], [30, 9, 1, 1, 159]), (20, [2], [30, -9, -1, 1, 159]), (20, [6, 2], [30, -2011, -1, 0, 0, -1, 1, 158]), (24, [0, 2], [])])]
def t_Mo_test_at_f9_ct : ct_L := [(7, 1220, e_Mo_both_at_f9), (31, 1190, e_Mo_word_at_s5041), (82, 1220, e_Mo_both_at_f9), (1000001, 1223, en_ro [] (2, 0, 0, [5041]))]
set_option maxRecDepth 100000 in
theorem c_Mo_test_at_f9 {l : Launch} {D : va_G} {kA : Nat → ClassId} (h_Mo_both_at_f9 : ct_ok l D kA GG y_Mo_both_at_f9 z_Mo_both_at_f9 e_Mo_both_at_f9) (h_Mo_word_at_s5041 : ct_ok l D kA GG y_Mo_word_at_s5041 z_Mo_word_at_s5041 e_Mo_word_at_s5041) : ct_ok l D kA GG y_Mo_test_at_f9 z_Mo_test_at_f9 e_Mo_test_at_f9 := chk_all_ok (FT := [(1169, 13, 158)]) (PT := [(1169, 13, 158, .int)]) (CT := t_Mo_test_at_f9_ct) (KT := []) (NT := []) (AN := n_Mo_test_at_f9_an) (OT := [(o_Mo_test_f_0 9), (o_Mo_test_f_1 9), (o_Mo_test_f_2 9), (o_Mo_test_f_3 9), (o_Mo_test_f_4 9), (o_Mo_test_f_5 9), (o_Mo_test_f_6 9)]) 3 200 (List.forall_mem_cons.mpr ⟨(oo_Mo_test_f_0 9 (by decide) (by decide)), List.forall_mem_cons.mpr ⟨(oo_Mo_test_f_1 9 (by decide) (by decide)), List.forall_mem_cons.mpr ⟨(oo_Mo_test_f_2 9 (by decide) (by decide)), List.forall_mem_cons.mpr ⟨(oo_Mo_test_f_3 9 (by decide) (by decide)), List.forall_mem_cons.mpr ⟨(oo_Mo_test_f_4 9 (by decide) (by decide)), List.forall_mem_cons.mpr ⟨(oo_Mo_test_f_5 9 (by decide) (by decide)), List.forall_mem_cons.mpr ⟨(oo_Mo_test_f_6 9 (by decide) (by decide)), List.forall_mem_nil _⟩⟩⟩⟩⟩⟩⟩) (by decide +kernel) ⟨List.forall_mem_cons.mpr ⟨gf_Mo_1169, List.forall_mem_nil _⟩, List.forall_mem_cons.mpr ⟨pf_Mo_1169, List.forall_mem_nil _⟩, List.forall_mem_cons.mpr ⟨cl_virtual (y := y_Mo_both_at_f9) (ci := 13) rfl rfl ⟨_, _, rfl⟩ (by decide +kernel) h_Mo_both_at_f9 wm_3819 wm_9 wm_3816 wm_3818 wv_23_8 ⟨by decide, by decide, by decide +kernel⟩ (by decide), List.forall_mem_cons.mpr ⟨cl_virtual (y := y_Mo_word_at_s5041) (ci := 13) rfl rfl ⟨_, _, rfl⟩ (by decide +kernel) h_Mo_word_at_s5041 wm_3809 wm_9 wm_3806 wm_3808 wv_23_6 ⟨by decide, by decide, by decide +kernel⟩ (by decide), List.forall_mem_cons.mpr ⟨cl_virtual (y := y_Mo_both_at_f9) (ci := 13) rfl rfl ⟨_, _, rfl⟩ (by decide +kernel) h_Mo_both_at_f9 wm_3819 wm_9 wm_3816 wm_3818 wv_23_8 ⟨by decide, by decide, by decide +kernel⟩ (by decide), List.forall_mem_cons.mpr ⟨cl_ldcw (own := "DrawingHouseModel") (idx := 1223) (i := 41) (tx := "or") (by decide +kernel) (by decide +kernel) (by decide +kernel), List.forall_mem_nil _⟩⟩⟩⟩, List.forall_mem_nil _, List.forall_mem_nil _, GG_pl⟩ (by decide +kernel)
def o_Mo_text_0 : or_T := (47, 10, [(0, (2, 0, 0, [150])), (1, (0, 0, 3, [])), (8, (0, 0, 0, []))], [(20, [0, 1], [50, 1, 1, 5, 3, 1, 3, 2, 0, 5, 4, 6, 6, 2, 0, 16709, 1, 1, 6, 2, 0, 539, 3, 0, 3, 1, 1]), (101, [0, 8], [170]), (20, [0, 1], [50, 1, 1, 5, 3, 1, 3, 2, 0, 5, 4, 6, 6, 2, 0, 16709, 1, 1, 6, 2, 0, 539, 3, 0, 3, 1, 1])], [], [(0, 0, 87902919, [])], [(20, [0, 10], [30, 0, 1, 1, 170, -1, 0, 0]), (23, [10], [0, 1])], [], [])
theorem oo_Mo_text_0 {kA : Nat → ClassId} : or_ok kA GG o_Mo_text_0 := by
  intro A ta ws vs hD hth hl hk hds hf
  have hl : vs.length = 10 := hl
  have hk : ∀ q ∈ ([(0, (2, 0, 0, [150])), (1, (0, 0, 3, [])), (8, (0, 0, 0, []))] : List (Nat × tv_T)), tv_ok ta q.2 (n_v vs q.1) := hk
  obtain ⟨t0, hk⟩ := List.forall_mem_cons.mp hk
  have t0 : tv_ok ta (2, 0, 0, [150]) (n_v vs 0) := t0
  have r0 : ta (v_ad (n_v vs 0)) = some 150 := tv_rg t0
  obtain ⟨t1, hk⟩ := List.forall_mem_cons.mp hk
  have t1 : tv_ok ta (0, 0, 3, []) (n_v vs 1) := t1
  have k1 : 0 ≤ v_iv (n_v vs 1) ∧ v_iv (n_v vs 1) ≤ 3 := tv_rng t1
  obtain ⟨t8, hk⟩ := List.forall_mem_cons.mp hk
  have t8 : tv_ok ta (0, 0, 0, []) (n_v vs 8) := t8
  have k8 : 0 ≤ v_iv (n_v vs 8) ∧ v_iv (n_v vs 8) ≤ 0 := tv_rng t8
  have hf : fc_ok [(20, [0, 1], [50, 1, 1, 5, 3, 1, 3, 2, 0, 5, 4, 6, 6, 2, 0, 16709, 1, 1, 6, 2, 0, 539, 3, 0, 3, 1, 1]), (101, [0, 8], [170]), (20, [0, 1], [50, 1, 1, 5, 3, 1, 3, 2, 0, 5, 4, 6, 6, 2, 0, 16709, 1, 1, 6, 2, 0, 539, 3, 0, 3, 1, 1])] ta ws vs := hf
  obtain ⟨f0, hf⟩ := fc_un (show (20 : Nat) < 100 from by decide) hf
  have f0 : w_fi ws (n_v vs 0) 5 = ((16709 * v_iv (n_v vs 1)) + (539 * w_ei ws (w_ar ws (n_v vs 0) 3) (v_iv (n_v vs 1)))) := f0
  obtain ⟨ta1, w1, le1, ⟨_, s1⟩, hf⟩ := fc_us (show ¬ (101 : Nat) < 100 from by decide) hf
  have s1 : (∀ b j, w_el ws b j = w_el w1 b j) ∧ ∀ b j, w_fd ws b j = if b = v_ad (n_v vs 0) ∧ j = 170 then n_v vs 8 else w_fd w1 b j := s1
  obtain ⟨f2, hf⟩ := fc_un (show (20 : Nat) < 100 from by decide) hf
  have f2 : w_fi w1 (n_v vs 0) 5 = ((16709 * v_iv (n_v vs 1)) + (539 * w_ei w1 (w_ar w1 (n_v vs 0) 3) (v_iv (n_v vs 1)))) := f2
  have ar_0_3_1 : w_ar w1 (n_v vs 0) 3 = w_ar ws (n_v vs 0) 3 := by show v_ad (w_fd w1 _ _) = v_ad (w_fd ws _ _); rw [s1.2, if_neg (fun e => absurd e.2 (by decide))]
  have cr_0_3 : ta (w_ar ws (n_v vs 0) 3) = some 153 := tv_rg (th_fd hD hth r0 (g := GG_150) rfl (k := 3) (t := (2, 0, 0, [153])) rfl rfl)
  rw [ar_0_3_1] at f2
  have fe_0_5_1 : w_fi ws (n_v vs 0) 5 = w_fi w1 (n_v vs 0) 5 := by show v_iv (w_fd _ _ _) = v_iv (w_fd _ _ _); rw [s1.2, if_neg (fun e => absurd e.2 (by decide))]
  have fe_0_170_1 : w_fi ws (n_v vs 0) 170 = v_iv (n_v vs 8) := by show v_iv (w_fd _ _ _) = _; rw [s1.2, if_pos ⟨rfl, rfl⟩]
  have hE_0_3_1 : ∀ j : Int, w_ei ws (w_ar ws (n_v vs 0) 3) j = w_ei w1 (w_ar ws (n_v vs 0) 3) j := fun j => s1.1 _ _
  have hK_0_3 : ∀ j : Int, 0 ≤ j → j < 4 → 0 ≤ w_ei ws (w_ar ws (n_v vs 0) 3) j ∧ w_ei ws (w_ar ws (n_v vs 0) 3) j ≤ 30 := fun j h0 h1 => th_el hD hth cr_0_3 (kd := 0) (n := 4) (m := 4) (lo := 0) (hi := 30) (rs := []) (L := []) rfl (by decide) (j := j.toNat) (by omega)
  have kz_0_170 : 0 ≤ w_fi ws (n_v vs 0) 170 ∧ w_fi ws (n_v vs 0) 170 ≤ 100000000 := tv_rng (th_fd hD hth r0 (g := GG_150) rfl (k := 170) (t := (0, 0, 100000000, [])) rfl rfl)
  have kv0 : 0 ≤ w_fi ws (n_v vs 0) 170 ∧ w_fi ws (n_v vs 0) 170 ≤ 100000000 := tv_rng (th_fd hD hth r0 (g := GG_150) rfl (k := 170) (t := (0, 0, 100000000, [])) rfl rfl)
  obtain ⟨x, ex, hx⟩ := iv_ex (ta := ta) (lo := 0) (hi := 87902919) (z := w_fi ws (n_v vs 0) 170) (by omega) (by omega) (by omega) (by omega)
  have ex2 : v_iv (Value.int x) = w_fi ws (n_v vs 0) 170 := ex
  have ex3 : 0 ≤ v_iv (Value.int x) ∧ v_iv (Value.int x) ≤ 87902919 := tv_rng hx
  have e_0 : n_v (vs ++ [Value.int x]) 0 = n_v vs 0 := n_v_old (by rw [hl]; decide)
  have e_10 : n_v (vs ++ [Value.int x]) 10 = Value.int x := n_v_new hl
  have nf0 : fc_1 (20, [0, 10], [30, 0, 1, 1, 170, -1, 0, 0]) ws (vs ++ [Value.int x]) := by
    refine ⟨fun n hn => ?_, ?_⟩
    · have hn : n ∈ [0, 10] := hn
      rw [List.length_append, hl]
      simp only [List.mem_cons, List.not_mem_nil, or_false] at hn
      show n < 10 + 1; omega
    · show 1 * w_fi ws (n_v (vs ++ [Value.int x]) 0) 170 + ((-1) * v_iv (n_v (vs ++ [Value.int x]) 10) + 0) ≤ 0
      rw [e_0]
      rw [e_10]
      omega
  have nf1 : fc_1 (23, [10], [0, 1]) ws (vs ++ [Value.int x]) := by
    refine ⟨fun n hn => ?_, ?_⟩
    · have hn : n ∈ [10] := hn
      rw [List.length_append, hl]
      simp only [List.mem_cons, List.not_mem_nil, or_false] at hn
      show n < 10 + 1; omega
    · show 1 * v_iv (n_v (vs ++ [Value.int x]) 10) + 0 ≤ 0
      rw [e_10]
      omega
  exact ⟨(fun _ h => (by cases h)), [Value.int x], ag_one hx, List.forall_mem_cons.mpr ⟨⟨show (20 : Nat) < 100 from by decide, nf0⟩, List.forall_mem_cons.mpr ⟨⟨show (23 : Nat) < 100 from by decide, nf1⟩, (fun _ h => (by cases h))⟩⟩, (fun _ h => (by cases h))⟩
def o_Mo_text_1 : or_T := (51, 11, [(0, (2, 0, 0, [150])), (1, (0, 0, 3, [])), (8, (0, 0, 0, [])), (10, (0, 0, 87902919, []))], [(23, [10], [0, 1]), (20, [0, 1], [50, 1, 1, 5, 3, 1, 3, 2, 0, 5, 4, 6, 6, 2, 0, 16709, 1, 1, 6, 2, 0, 539, 3, 0, 3, 1, 1]), (20, [0, 10], [30, 12097081, 1, 1, 170, -1, 0, 0]), (102, [10], [237142198758023568227473377297792835283496928595231875152809132048206089502588928, 13170]), (23, [10], [0, 1]), (101, [0, 8], [170])], [], [(0, 0, 99997888, [])], [(20, [0, 11], [30, 0, 1, 1, 170, -1, 0, 0]), (23, [11], [12097081, 1])], [], [])
theorem oo_Mo_text_1 {kA : Nat → ClassId} : or_ok kA GG o_Mo_text_1 := by
  intro A ta ws vs hD hth hl hk hds hf
  have hl : vs.length = 11 := hl
  have hk : ∀ q ∈ ([(0, (2, 0, 0, [150])), (1, (0, 0, 3, [])), (8, (0, 0, 0, [])), (10, (0, 0, 87902919, []))] : List (Nat × tv_T)), tv_ok ta q.2 (n_v vs q.1) := hk
  obtain ⟨t0, hk⟩ := List.forall_mem_cons.mp hk
  have t0 : tv_ok ta (2, 0, 0, [150]) (n_v vs 0) := t0
  have r0 : ta (v_ad (n_v vs 0)) = some 150 := tv_rg t0
  obtain ⟨t1, hk⟩ := List.forall_mem_cons.mp hk
  have t1 : tv_ok ta (0, 0, 3, []) (n_v vs 1) := t1
  have k1 : 0 ≤ v_iv (n_v vs 1) ∧ v_iv (n_v vs 1) ≤ 3 := tv_rng t1
  obtain ⟨t8, hk⟩ := List.forall_mem_cons.mp hk
  have t8 : tv_ok ta (0, 0, 0, []) (n_v vs 8) := t8
  have k8 : 0 ≤ v_iv (n_v vs 8) ∧ v_iv (n_v vs 8) ≤ 0 := tv_rng t8
  obtain ⟨t10, hk⟩ := List.forall_mem_cons.mp hk
  have t10 : tv_ok ta (0, 0, 87902919, []) (n_v vs 10) := t10
  have k10 : 0 ≤ v_iv (n_v vs 10) ∧ v_iv (n_v vs 10) ≤ 87902919 := tv_rng t10
  have hf : fc_ok [(23, [10], [0, 1]), (20, [0, 1], [50, 1, 1, 5, 3, 1, 3, 2, 0, 5, 4, 6, 6, 2, 0, 16709, 1, 1, 6, 2, 0, 539, 3, 0, 3, 1, 1]), (20, [0, 10], [30, 12097081, 1, 1, 170, -1, 0, 0]), (102, [10], [237142198758023568227473377297792835283496928595231875152809132048206089502588928, 13170]), (23, [10], [0, 1]), (101, [0, 8], [170])] ta ws vs := hf
  obtain ⟨f0, hf⟩ := fc_un (show (23 : Nat) < 100 from by decide) hf
  have f0 : 1 * v_iv (n_v vs 10) + 0 ≤ 0 := f0
  obtain ⟨f1, hf⟩ := fc_un (show (20 : Nat) < 100 from by decide) hf
  have f1 : w_fi ws (n_v vs 0) 5 = ((16709 * v_iv (n_v vs 1)) + (539 * w_ei ws (w_ar ws (n_v vs 0) 3) (v_iv (n_v vs 1)))) := f1
  obtain ⟨f2, hf⟩ := fc_un (show (20 : Nat) < 100 from by decide) hf
  have f2 : 1 * w_fi ws (n_v vs 0) 170 + ((-1) * v_iv (n_v vs 10) + 0) ≤ 12097081 := f2
  obtain ⟨ta1, w1, le1, ⟨_, s1⟩, hf⟩ := fc_us (show ¬ (102 : Nat) < 100 from by decide) hf
  obtain ⟨f4, hf⟩ := fc_un (show (23 : Nat) < 100 from by decide) hf
  have f4 : 1 * v_iv (n_v vs 10) + 0 ≤ 0 := f4
  obtain ⟨ta2, w2, le2, ⟨_, s2⟩, hf⟩ := fc_us (show ¬ (101 : Nat) < 100 from by decide) hf
  have s2 : (∀ b j, w_el w1 b j = w_el w2 b j) ∧ ∀ b j, w_fd w1 b j = if b = v_ad (n_v vs 0) ∧ j = 170 then n_v vs 8 else w_fd w2 b j := s2
  have cr_0_3 : ta (w_ar ws (n_v vs 0) 3) = some 153 := tv_rg (th_fd hD hth r0 (g := GG_150) rfl (k := 3) (t := (2, 0, 0, [153])) rfl rfl)
  have hK_0_3 : ∀ j : Int, 0 ≤ j → j < 4 → 0 ≤ w_ei ws (w_ar ws (n_v vs 0) 3) j ∧ w_ei ws (w_ar ws (n_v vs 0) 3) j ≤ 30 := fun j h0 h1 => th_el hD hth cr_0_3 (kd := 0) (n := 4) (m := 4) (lo := 0) (hi := 30) (rs := []) (L := []) rfl (by decide) (j := j.toNat) (by omega)
  have kz_0_170 : 0 ≤ w_fi ws (n_v vs 0) 170 ∧ w_fi ws (n_v vs 0) 170 ≤ 100000000 := tv_rng (th_fd hD hth r0 (g := GG_150) rfl (k := 170) (t := (0, 0, 100000000, [])) rfl rfl)
  have kv0 : 0 ≤ w_fi ws (n_v vs 0) 170 ∧ w_fi ws (n_v vs 0) 170 ≤ 100000000 := tv_rng (th_fd hD hth r0 (g := GG_150) rfl (k := 170) (t := (0, 0, 100000000, [])) rfl rfl)
  obtain ⟨x, ex, hx⟩ := iv_ex (ta := ta) (lo := 0) (hi := 99997888) (z := w_fi ws (n_v vs 0) 170) (by omega) (by omega) (by omega) (by omega)
  have ex2 : v_iv (Value.int x) = w_fi ws (n_v vs 0) 170 := ex
  have ex3 : 0 ≤ v_iv (Value.int x) ∧ v_iv (Value.int x) ≤ 99997888 := tv_rng hx
  have e_0 : n_v (vs ++ [Value.int x]) 0 = n_v vs 0 := n_v_old (by rw [hl]; decide)
  have e_11 : n_v (vs ++ [Value.int x]) 11 = Value.int x := n_v_new hl
  have nf0 : fc_1 (20, [0, 11], [30, 0, 1, 1, 170, -1, 0, 0]) ws (vs ++ [Value.int x]) := by
    refine ⟨fun n hn => ?_, ?_⟩
    · have hn : n ∈ [0, 11] := hn
      rw [List.length_append, hl]
      simp only [List.mem_cons, List.not_mem_nil, or_false] at hn
      show n < 11 + 1; omega
    · show 1 * w_fi ws (n_v (vs ++ [Value.int x]) 0) 170 + ((-1) * v_iv (n_v (vs ++ [Value.int x]) 11) + 0) ≤ 0
      rw [e_0]
      rw [e_11]
      omega
  have nf1 : fc_1 (23, [11], [12097081, 1]) ws (vs ++ [Value.int x]) := by
    refine ⟨fun n hn => ?_, ?_⟩
    · have hn : n ∈ [11] := hn
      rw [List.length_append, hl]
      simp only [List.mem_cons, List.not_mem_nil, or_false] at hn
      show n < 11 + 1; omega
    · show 1 * v_iv (n_v (vs ++ [Value.int x]) 11) + 0 ≤ 12097081
      rw [e_11]
      omega
  exact ⟨(fun _ h => (by cases h)), [Value.int x], ag_one hx, List.forall_mem_cons.mpr ⟨⟨show (20 : Nat) < 100 from by decide, nf0⟩, List.forall_mem_cons.mpr ⟨⟨show (23 : Nat) < 100 from by decide, nf1⟩, (fun _ h => (by cases h))⟩⟩, (fun _ h => (by cases h))⟩
def o_Mo_text_2 : or_T := (83, 15, [(0, (2, 0, 0, [150])), (1, (0, 0, 3, [])), (8, (0, 0, 0, [])), (11, (0, 0, 99997888, [])), (12, (0, 0, 4000, [])), (13, (0, 4000, 4000, []))], [(23, [11], [12097081, 1]), (20, [0, 1], [50, 1, 1, 5, 3, 1, 3, 2, 0, 5, 4, 6, 6, 2, 0, 16709, 1, 1, 6, 2, 0, 539, 3, 0, 3, 1, 1]), (20, [0, 11], [30, 2112, 1, 1, 170, -1, 0, 0]), (101, [0, 12], [169]), (9, [12, 0], [170]), (7, [12, 13], [5]), (23, [11], [12097081, 1]), (20, [0, 1], [50, 1, 1, 5, 3, 1, 3, 2, 0, 5, 4, 6, 6, 2, 0, 16709, 1, 1, 6, 2, 0, 539, 3, 0, 3, 1, 1]), (20, [0, 11], [30, 2112, 1, 1, 170, -1, 0, 0]), (102, [11], [237142198758023568227473377297792835283496928595231875152809132048206089502588928, 13170]), (23, [11], [12097081, 1]), (102, [10], [237142198758023568227473377297792835283496928595231875152809132048206089502588928, 13170]), (101, [0, 8], [170])], [], [], [(20, [0], [30, 4000, 1, 1, 170])], [], [])
theorem oo_Mo_text_2 {kA : Nat → ClassId} : or_ok kA GG o_Mo_text_2 := by
  intro A ta ws vs hD hth hl hk hds hf
  have hl : vs.length = 15 := hl
  have hk : ∀ q ∈ ([(0, (2, 0, 0, [150])), (1, (0, 0, 3, [])), (8, (0, 0, 0, [])), (11, (0, 0, 99997888, [])), (12, (0, 0, 4000, [])), (13, (0, 4000, 4000, []))] : List (Nat × tv_T)), tv_ok ta q.2 (n_v vs q.1) := hk
  obtain ⟨t0, hk⟩ := List.forall_mem_cons.mp hk
  have t0 : tv_ok ta (2, 0, 0, [150]) (n_v vs 0) := t0
  have r0 : ta (v_ad (n_v vs 0)) = some 150 := tv_rg t0
  obtain ⟨t1, hk⟩ := List.forall_mem_cons.mp hk
  have t1 : tv_ok ta (0, 0, 3, []) (n_v vs 1) := t1
  have k1 : 0 ≤ v_iv (n_v vs 1) ∧ v_iv (n_v vs 1) ≤ 3 := tv_rng t1
  obtain ⟨t8, hk⟩ := List.forall_mem_cons.mp hk
  have t8 : tv_ok ta (0, 0, 0, []) (n_v vs 8) := t8
  have k8 : 0 ≤ v_iv (n_v vs 8) ∧ v_iv (n_v vs 8) ≤ 0 := tv_rng t8
  obtain ⟨t11, hk⟩ := List.forall_mem_cons.mp hk
  have t11 : tv_ok ta (0, 0, 99997888, []) (n_v vs 11) := t11
  have k11 : 0 ≤ v_iv (n_v vs 11) ∧ v_iv (n_v vs 11) ≤ 99997888 := tv_rng t11
  obtain ⟨t12, hk⟩ := List.forall_mem_cons.mp hk
  have t12 : tv_ok ta (0, 0, 4000, []) (n_v vs 12) := t12
  have k12 : 0 ≤ v_iv (n_v vs 12) ∧ v_iv (n_v vs 12) ≤ 4000 := tv_rng t12
  obtain ⟨t13, hk⟩ := List.forall_mem_cons.mp hk
  have t13 : tv_ok ta (0, 4000, 4000, []) (n_v vs 13) := t13
  have k13 : 4000 ≤ v_iv (n_v vs 13) ∧ v_iv (n_v vs 13) ≤ 4000 := tv_rng t13
  have hf : fc_ok [(23, [11], [12097081, 1]), (20, [0, 1], [50, 1, 1, 5, 3, 1, 3, 2, 0, 5, 4, 6, 6, 2, 0, 16709, 1, 1, 6, 2, 0, 539, 3, 0, 3, 1, 1]), (20, [0, 11], [30, 2112, 1, 1, 170, -1, 0, 0]), (101, [0, 12], [169]), (9, [12, 0], [170]), (7, [12, 13], [5]), (23, [11], [12097081, 1]), (20, [0, 1], [50, 1, 1, 5, 3, 1, 3, 2, 0, 5, 4, 6, 6, 2, 0, 16709, 1, 1, 6, 2, 0, 539, 3, 0, 3, 1, 1]), (20, [0, 11], [30, 2112, 1, 1, 170, -1, 0, 0]), (102, [11], [237142198758023568227473377297792835283496928595231875152809132048206089502588928, 13170]), (23, [11], [12097081, 1]), (102, [10], [237142198758023568227473377297792835283496928595231875152809132048206089502588928, 13170]), (101, [0, 8], [170])] ta ws vs := hf
  obtain ⟨f0, hf⟩ := fc_un (show (23 : Nat) < 100 from by decide) hf
  have f0 : 1 * v_iv (n_v vs 11) + 0 ≤ 12097081 := f0
  obtain ⟨f1, hf⟩ := fc_un (show (20 : Nat) < 100 from by decide) hf
  have f1 : w_fi ws (n_v vs 0) 5 = ((16709 * v_iv (n_v vs 1)) + (539 * w_ei ws (w_ar ws (n_v vs 0) 3) (v_iv (n_v vs 1)))) := f1
  obtain ⟨f2, hf⟩ := fc_un (show (20 : Nat) < 100 from by decide) hf
  have f2 : 1 * w_fi ws (n_v vs 0) 170 + ((-1) * v_iv (n_v vs 11) + 0) ≤ 2112 := f2
  obtain ⟨ta1, w1, le1, ⟨_, s1⟩, hf⟩ := fc_us (show ¬ (101 : Nat) < 100 from by decide) hf
  have s1 : (∀ b j, w_el ws b j = w_el w1 b j) ∧ ∀ b j, w_fd ws b j = if b = v_ad (n_v vs 0) ∧ j = 169 then n_v vs 12 else w_fd w1 b j := s1
  obtain ⟨f4, hf⟩ := fc_un (show (9 : Nat) < 100 from by decide) hf
  have f4 : n_v vs 12 = w_fd w1 (v_ad (n_v vs 0)) 170 := f4
  obtain ⟨f5, hf⟩ := fc_un (show (7 : Nat) < 100 from by decide) hf
  have f5 : v_iv (n_v vs 12) ≤ v_iv (n_v vs 13) := f5
  obtain ⟨f6, hf⟩ := fc_un (show (23 : Nat) < 100 from by decide) hf
  have f6 : 1 * v_iv (n_v vs 11) + 0 ≤ 12097081 := f6
  obtain ⟨f7, hf⟩ := fc_un (show (20 : Nat) < 100 from by decide) hf
  have f7 : w_fi w1 (n_v vs 0) 5 = ((16709 * v_iv (n_v vs 1)) + (539 * w_ei w1 (w_ar w1 (n_v vs 0) 3) (v_iv (n_v vs 1)))) := f7
  obtain ⟨f8, hf⟩ := fc_un (show (20 : Nat) < 100 from by decide) hf
  have f8 : 1 * w_fi w1 (n_v vs 0) 170 + ((-1) * v_iv (n_v vs 11) + 0) ≤ 2112 := f8
  obtain ⟨ta2, w2, le2, ⟨_, s2⟩, hf⟩ := fc_us (show ¬ (102 : Nat) < 100 from by decide) hf
  obtain ⟨f10, hf⟩ := fc_un (show (23 : Nat) < 100 from by decide) hf
  have f10 : 1 * v_iv (n_v vs 11) + 0 ≤ 12097081 := f10
  obtain ⟨ta3, w3, le3, ⟨_, s3⟩, hf⟩ := fc_us (show ¬ (102 : Nat) < 100 from by decide) hf
  obtain ⟨ta4, w4, le4, ⟨_, s4⟩, hf⟩ := fc_us (show ¬ (101 : Nat) < 100 from by decide) hf
  have s4 : (∀ b j, w_el w3 b j = w_el w4 b j) ∧ ∀ b j, w_fd w3 b j = if b = v_ad (n_v vs 0) ∧ j = 170 then n_v vs 8 else w_fd w4 b j := s4
  have ar_0_3_1 : w_ar w1 (n_v vs 0) 3 = w_ar ws (n_v vs 0) 3 := by show v_ad (w_fd w1 _ _) = v_ad (w_fd ws _ _); rw [s1.2, if_neg (fun e => absurd e.2 (by decide))]
  have cr_0_3 : ta (w_ar ws (n_v vs 0) 3) = some 153 := tv_rg (th_fd hD hth r0 (g := GG_150) rfl (k := 3) (t := (2, 0, 0, [153])) rfl rfl)
  have g4 : v_iv (n_v vs 12) = w_fi w1 (n_v vs 0) 170 := congrArg v_iv f4
  rw [ar_0_3_1] at f7
  have fe_0_5_1 : w_fi ws (n_v vs 0) 5 = w_fi w1 (n_v vs 0) 5 := by show v_iv (w_fd _ _ _) = v_iv (w_fd _ _ _); rw [s1.2, if_neg (fun e => absurd e.2 (by decide))]
  have fe_0_170_1 : w_fi ws (n_v vs 0) 170 = w_fi w1 (n_v vs 0) 170 := by show v_iv (w_fd _ _ _) = v_iv (w_fd _ _ _); rw [s1.2, if_neg (fun e => absurd e.2 (by decide))]
  have hE_0_3_1 : ∀ j : Int, w_ei ws (w_ar ws (n_v vs 0) 3) j = w_ei w1 (w_ar ws (n_v vs 0) 3) j := fun j => s1.1 _ _
  have hK_0_3 : ∀ j : Int, 0 ≤ j → j < 4 → 0 ≤ w_ei ws (w_ar ws (n_v vs 0) 3) j ∧ w_ei ws (w_ar ws (n_v vs 0) 3) j ≤ 30 := fun j h0 h1 => th_el hD hth cr_0_3 (kd := 0) (n := 4) (m := 4) (lo := 0) (hi := 30) (rs := []) (L := []) rfl (by decide) (j := j.toNat) (by omega)
  have kz_0_170 : 0 ≤ w_fi ws (n_v vs 0) 170 ∧ w_fi ws (n_v vs 0) 170 ≤ 100000000 := tv_rng (th_fd hD hth r0 (g := GG_150) rfl (k := 170) (t := (0, 0, 100000000, [])) rfl rfl)
  have nf0 : fc_1 (20, [0], [30, 4000, 1, 1, 170]) ws (vs) := by
    refine ⟨fun n hn => ?_, ?_⟩
    · have hn : n ∈ [0] := hn
      rw [hl]
      simp only [List.mem_cons, List.not_mem_nil, or_false] at hn
      show n < 15; omega
    · show 1 * w_fi ws (n_v vs 0) 170 + 0 ≤ 4000
      omega
  refine ⟨(fun _ h => (by cases h)), [], trivial, ?_, (fun _ h => (by cases h))⟩
  rw [List.append_nil]
  exact List.forall_mem_cons.mpr ⟨⟨show (20 : Nat) < 100 from by decide, nf0⟩, (fun _ h => (by cases h))⟩
def o_Mo_text_3 : or_T := (58, 10, [(0, (2, 0, 0, [150])), (1, (0, 0, 3, [])), (9, (0, 0, 0, []))], [(20, [0, 1], [50, 1, 1, 5, 3, 1, 3, 2, 0, 5, 4, 6, 6, 2, 0, 16709, 1, 1, 6, 2, 0, 539, 3, 0, 3, 1, 1]), (101, [0, 9], [170]), (20, [0, 1], [50, 1, 1, 5, 3, 1, 3, 2, 0, 5, 4, 6, 6, 2, 0, 16709, 1, 1, 6, 2, 0, 539, 3, 0, 3, 1, 1])], [], [(0, 0, 99965512, [])], [(20, [0, 10], [30, 0, 1, 1, 170, -1, 0, 0]), (23, [10], [0, 1])], [], [])
theorem oo_Mo_text_3 {kA : Nat → ClassId} : or_ok kA GG o_Mo_text_3 := by
  intro A ta ws vs hD hth hl hk hds hf
  have hl : vs.length = 10 := hl
  have hk : ∀ q ∈ ([(0, (2, 0, 0, [150])), (1, (0, 0, 3, [])), (9, (0, 0, 0, []))] : List (Nat × tv_T)), tv_ok ta q.2 (n_v vs q.1) := hk
  obtain ⟨t0, hk⟩ := List.forall_mem_cons.mp hk
  have t0 : tv_ok ta (2, 0, 0, [150]) (n_v vs 0) := t0
  have r0 : ta (v_ad (n_v vs 0)) = some 150 := tv_rg t0
  obtain ⟨t1, hk⟩ := List.forall_mem_cons.mp hk
  have t1 : tv_ok ta (0, 0, 3, []) (n_v vs 1) := t1
  have k1 : 0 ≤ v_iv (n_v vs 1) ∧ v_iv (n_v vs 1) ≤ 3 := tv_rng t1
  obtain ⟨t9, hk⟩ := List.forall_mem_cons.mp hk
  have t9 : tv_ok ta (0, 0, 0, []) (n_v vs 9) := t9
  have k9 : 0 ≤ v_iv (n_v vs 9) ∧ v_iv (n_v vs 9) ≤ 0 := tv_rng t9
  have hf : fc_ok [(20, [0, 1], [50, 1, 1, 5, 3, 1, 3, 2, 0, 5, 4, 6, 6, 2, 0, 16709, 1, 1, 6, 2, 0, 539, 3, 0, 3, 1, 1]), (101, [0, 9], [170]), (20, [0, 1], [50, 1, 1, 5, 3, 1, 3, 2, 0, 5, 4, 6, 6, 2, 0, 16709, 1, 1, 6, 2, 0, 539, 3, 0, 3, 1, 1])] ta ws vs := hf
  obtain ⟨f0, hf⟩ := fc_un (show (20 : Nat) < 100 from by decide) hf
  have f0 : w_fi ws (n_v vs 0) 5 = ((16709 * v_iv (n_v vs 1)) + (539 * w_ei ws (w_ar ws (n_v vs 0) 3) (v_iv (n_v vs 1)))) := f0
  obtain ⟨ta1, w1, le1, ⟨_, s1⟩, hf⟩ := fc_us (show ¬ (101 : Nat) < 100 from by decide) hf
  have s1 : (∀ b j, w_el ws b j = w_el w1 b j) ∧ ∀ b j, w_fd ws b j = if b = v_ad (n_v vs 0) ∧ j = 170 then n_v vs 9 else w_fd w1 b j := s1
  obtain ⟨f2, hf⟩ := fc_un (show (20 : Nat) < 100 from by decide) hf
  have f2 : w_fi w1 (n_v vs 0) 5 = ((16709 * v_iv (n_v vs 1)) + (539 * w_ei w1 (w_ar w1 (n_v vs 0) 3) (v_iv (n_v vs 1)))) := f2
  have ar_0_3_1 : w_ar w1 (n_v vs 0) 3 = w_ar ws (n_v vs 0) 3 := by show v_ad (w_fd w1 _ _) = v_ad (w_fd ws _ _); rw [s1.2, if_neg (fun e => absurd e.2 (by decide))]
  have cr_0_3 : ta (w_ar ws (n_v vs 0) 3) = some 153 := tv_rg (th_fd hD hth r0 (g := GG_150) rfl (k := 3) (t := (2, 0, 0, [153])) rfl rfl)
  rw [ar_0_3_1] at f2
  have fe_0_5_1 : w_fi ws (n_v vs 0) 5 = w_fi w1 (n_v vs 0) 5 := by show v_iv (w_fd _ _ _) = v_iv (w_fd _ _ _); rw [s1.2, if_neg (fun e => absurd e.2 (by decide))]
  have fe_0_170_1 : w_fi ws (n_v vs 0) 170 = v_iv (n_v vs 9) := by show v_iv (w_fd _ _ _) = _; rw [s1.2, if_pos ⟨rfl, rfl⟩]
  have hE_0_3_1 : ∀ j : Int, w_ei ws (w_ar ws (n_v vs 0) 3) j = w_ei w1 (w_ar ws (n_v vs 0) 3) j := fun j => s1.1 _ _
  have hK_0_3 : ∀ j : Int, 0 ≤ j → j < 4 → 0 ≤ w_ei ws (w_ar ws (n_v vs 0) 3) j ∧ w_ei ws (w_ar ws (n_v vs 0) 3) j ≤ 30 := fun j h0 h1 => th_el hD hth cr_0_3 (kd := 0) (n := 4) (m := 4) (lo := 0) (hi := 30) (rs := []) (L := []) rfl (by decide) (j := j.toNat) (by omega)
  have kz_0_170 : 0 ≤ w_fi ws (n_v vs 0) 170 ∧ w_fi ws (n_v vs 0) 170 ≤ 100000000 := tv_rng (th_fd hD hth r0 (g := GG_150) rfl (k := 170) (t := (0, 0, 100000000, [])) rfl rfl)
  have kv0 : 0 ≤ w_fi ws (n_v vs 0) 170 ∧ w_fi ws (n_v vs 0) 170 ≤ 100000000 := tv_rng (th_fd hD hth r0 (g := GG_150) rfl (k := 170) (t := (0, 0, 100000000, [])) rfl rfl)
  obtain ⟨x, ex, hx⟩ := iv_ex (ta := ta) (lo := 0) (hi := 99965512) (z := w_fi ws (n_v vs 0) 170) (by omega) (by omega) (by omega) (by omega)
  have ex2 : v_iv (Value.int x) = w_fi ws (n_v vs 0) 170 := ex
  have ex3 : 0 ≤ v_iv (Value.int x) ∧ v_iv (Value.int x) ≤ 99965512 := tv_rng hx
  have e_0 : n_v (vs ++ [Value.int x]) 0 = n_v vs 0 := n_v_old (by rw [hl]; decide)
  have e_10 : n_v (vs ++ [Value.int x]) 10 = Value.int x := n_v_new hl
  have nf0 : fc_1 (20, [0, 10], [30, 0, 1, 1, 170, -1, 0, 0]) ws (vs ++ [Value.int x]) := by
    refine ⟨fun n hn => ?_, ?_⟩
    · have hn : n ∈ [0, 10] := hn
      rw [List.length_append, hl]
      simp only [List.mem_cons, List.not_mem_nil, or_false] at hn
      show n < 10 + 1; omega
    · show 1 * w_fi ws (n_v (vs ++ [Value.int x]) 0) 170 + ((-1) * v_iv (n_v (vs ++ [Value.int x]) 10) + 0) ≤ 0
      rw [e_0]
      rw [e_10]
      omega
  have nf1 : fc_1 (23, [10], [0, 1]) ws (vs ++ [Value.int x]) := by
    refine ⟨fun n hn => ?_, ?_⟩
    · have hn : n ∈ [10] := hn
      rw [List.length_append, hl]
      simp only [List.mem_cons, List.not_mem_nil, or_false] at hn
      show n < 10 + 1; omega
    · show 1 * v_iv (n_v (vs ++ [Value.int x]) 10) + 0 ≤ 0
      rw [e_10]
      omega
  exact ⟨(fun _ h => (by cases h)), [Value.int x], ag_one hx, List.forall_mem_cons.mpr ⟨⟨show (20 : Nat) < 100 from by decide, nf0⟩, List.forall_mem_cons.mpr ⟨⟨show (23 : Nat) < 100 from by decide, nf1⟩, (fun _ h => (by cases h))⟩⟩, (fun _ h => (by cases h))⟩
def o_Mo_text_4 : or_T := (83, 14, [(0, (2, 0, 0, [150])), (1, (0, 0, 3, [])), (9, (0, 0, 0, [])), (10, (0, 0, 99965512, [])), (11, (0, 0, 4000, [])), (12, (0, 4000, 4000, []))], [(23, [10], [0, 1]), (20, [0, 1], [50, 1, 1, 5, 3, 1, 3, 2, 0, 5, 4, 6, 6, 2, 0, 16709, 1, 1, 6, 2, 0, 539, 3, 0, 3, 1, 1]), (20, [0, 10], [30, 34488, 1, 1, 170, -1, 0, 0]), (101, [0, 11], [169]), (9, [11, 0], [170]), (7, [11, 12], [5]), (23, [10], [0, 1]), (20, [0, 1], [50, 1, 1, 5, 3, 1, 3, 2, 0, 5, 4, 6, 6, 2, 0, 16709, 1, 1, 6, 2, 0, 539, 3, 0, 3, 1, 1]), (20, [0, 10], [30, 34488, 1, 1, 170, -1, 0, 0]), (102, [10], [237142198758023568227473377297792835283496928595231875152809132048206089502588928, 13170]), (23, [10], [0, 1]), (101, [0, 9], [170])], [], [], [(20, [0], [30, 4000, 1, 1, 170])], [], [])
theorem oo_Mo_text_4 {kA : Nat → ClassId} : or_ok kA GG o_Mo_text_4 := by
  intro A ta ws vs hD hth hl hk hds hf
  have hl : vs.length = 14 := hl
  have hk : ∀ q ∈ ([(0, (2, 0, 0, [150])), (1, (0, 0, 3, [])), (9, (0, 0, 0, [])), (10, (0, 0, 99965512, [])), (11, (0, 0, 4000, [])), (12, (0, 4000, 4000, []))] : List (Nat × tv_T)), tv_ok ta q.2 (n_v vs q.1) := hk
  obtain ⟨t0, hk⟩ := List.forall_mem_cons.mp hk
  have t0 : tv_ok ta (2, 0, 0, [150]) (n_v vs 0) := t0
  have r0 : ta (v_ad (n_v vs 0)) = some 150 := tv_rg t0
  obtain ⟨t1, hk⟩ := List.forall_mem_cons.mp hk
  have t1 : tv_ok ta (0, 0, 3, []) (n_v vs 1) := t1
  have k1 : 0 ≤ v_iv (n_v vs 1) ∧ v_iv (n_v vs 1) ≤ 3 := tv_rng t1
  obtain ⟨t9, hk⟩ := List.forall_mem_cons.mp hk
  have t9 : tv_ok ta (0, 0, 0, []) (n_v vs 9) := t9
  have k9 : 0 ≤ v_iv (n_v vs 9) ∧ v_iv (n_v vs 9) ≤ 0 := tv_rng t9
  obtain ⟨t10, hk⟩ := List.forall_mem_cons.mp hk
  have t10 : tv_ok ta (0, 0, 99965512, []) (n_v vs 10) := t10
  have k10 : 0 ≤ v_iv (n_v vs 10) ∧ v_iv (n_v vs 10) ≤ 99965512 := tv_rng t10
  obtain ⟨t11, hk⟩ := List.forall_mem_cons.mp hk
  have t11 : tv_ok ta (0, 0, 4000, []) (n_v vs 11) := t11
  have k11 : 0 ≤ v_iv (n_v vs 11) ∧ v_iv (n_v vs 11) ≤ 4000 := tv_rng t11
  obtain ⟨t12, hk⟩ := List.forall_mem_cons.mp hk
  have t12 : tv_ok ta (0, 4000, 4000, []) (n_v vs 12) := t12
  have k12 : 4000 ≤ v_iv (n_v vs 12) ∧ v_iv (n_v vs 12) ≤ 4000 := tv_rng t12
  have hf : fc_ok [(23, [10], [0, 1]), (20, [0, 1], [50, 1, 1, 5, 3, 1, 3, 2, 0, 5, 4, 6, 6, 2, 0, 16709, 1, 1, 6, 2, 0, 539, 3, 0, 3, 1, 1]), (20, [0, 10], [30, 34488, 1, 1, 170, -1, 0, 0]), (101, [0, 11], [169]), (9, [11, 0], [170]), (7, [11, 12], [5]), (23, [10], [0, 1]), (20, [0, 1], [50, 1, 1, 5, 3, 1, 3, 2, 0, 5, 4, 6, 6, 2, 0, 16709, 1, 1, 6, 2, 0, 539, 3, 0, 3, 1, 1]), (20, [0, 10], [30, 34488, 1, 1, 170, -1, 0, 0]), (102, [10], [237142198758023568227473377297792835283496928595231875152809132048206089502588928, 13170]), (23, [10], [0, 1]), (101, [0, 9], [170])] ta ws vs := hf
  obtain ⟨f0, hf⟩ := fc_un (show (23 : Nat) < 100 from by decide) hf
  have f0 : 1 * v_iv (n_v vs 10) + 0 ≤ 0 := f0
  obtain ⟨f1, hf⟩ := fc_un (show (20 : Nat) < 100 from by decide) hf
  have f1 : w_fi ws (n_v vs 0) 5 = ((16709 * v_iv (n_v vs 1)) + (539 * w_ei ws (w_ar ws (n_v vs 0) 3) (v_iv (n_v vs 1)))) := f1
  obtain ⟨f2, hf⟩ := fc_un (show (20 : Nat) < 100 from by decide) hf
  have f2 : 1 * w_fi ws (n_v vs 0) 170 + ((-1) * v_iv (n_v vs 10) + 0) ≤ 34488 := f2
  obtain ⟨ta1, w1, le1, ⟨_, s1⟩, hf⟩ := fc_us (show ¬ (101 : Nat) < 100 from by decide) hf
  have s1 : (∀ b j, w_el ws b j = w_el w1 b j) ∧ ∀ b j, w_fd ws b j = if b = v_ad (n_v vs 0) ∧ j = 169 then n_v vs 11 else w_fd w1 b j := s1
  obtain ⟨f4, hf⟩ := fc_un (show (9 : Nat) < 100 from by decide) hf
  have f4 : n_v vs 11 = w_fd w1 (v_ad (n_v vs 0)) 170 := f4
  obtain ⟨f5, hf⟩ := fc_un (show (7 : Nat) < 100 from by decide) hf
  have f5 : v_iv (n_v vs 11) ≤ v_iv (n_v vs 12) := f5
  obtain ⟨f6, hf⟩ := fc_un (show (23 : Nat) < 100 from by decide) hf
  have f6 : 1 * v_iv (n_v vs 10) + 0 ≤ 0 := f6
  obtain ⟨f7, hf⟩ := fc_un (show (20 : Nat) < 100 from by decide) hf
  have f7 : w_fi w1 (n_v vs 0) 5 = ((16709 * v_iv (n_v vs 1)) + (539 * w_ei w1 (w_ar w1 (n_v vs 0) 3) (v_iv (n_v vs 1)))) := f7
  obtain ⟨f8, hf⟩ := fc_un (show (20 : Nat) < 100 from by decide) hf
  have f8 : 1 * w_fi w1 (n_v vs 0) 170 + ((-1) * v_iv (n_v vs 10) + 0) ≤ 34488 := f8
  obtain ⟨ta2, w2, le2, ⟨_, s2⟩, hf⟩ := fc_us (show ¬ (102 : Nat) < 100 from by decide) hf
  obtain ⟨f10, hf⟩ := fc_un (show (23 : Nat) < 100 from by decide) hf
  have f10 : 1 * v_iv (n_v vs 10) + 0 ≤ 0 := f10
  obtain ⟨ta3, w3, le3, ⟨_, s3⟩, hf⟩ := fc_us (show ¬ (101 : Nat) < 100 from by decide) hf
  have s3 : (∀ b j, w_el w2 b j = w_el w3 b j) ∧ ∀ b j, w_fd w2 b j = if b = v_ad (n_v vs 0) ∧ j = 170 then n_v vs 9 else w_fd w3 b j := s3
  have ar_0_3_1 : w_ar w1 (n_v vs 0) 3 = w_ar ws (n_v vs 0) 3 := by show v_ad (w_fd w1 _ _) = v_ad (w_fd ws _ _); rw [s1.2, if_neg (fun e => absurd e.2 (by decide))]
  have cr_0_3 : ta (w_ar ws (n_v vs 0) 3) = some 153 := tv_rg (th_fd hD hth r0 (g := GG_150) rfl (k := 3) (t := (2, 0, 0, [153])) rfl rfl)
  have g4 : v_iv (n_v vs 11) = w_fi w1 (n_v vs 0) 170 := congrArg v_iv f4
  rw [ar_0_3_1] at f7
  have fe_0_5_1 : w_fi ws (n_v vs 0) 5 = w_fi w1 (n_v vs 0) 5 := by show v_iv (w_fd _ _ _) = v_iv (w_fd _ _ _); rw [s1.2, if_neg (fun e => absurd e.2 (by decide))]
  have fe_0_170_1 : w_fi ws (n_v vs 0) 170 = w_fi w1 (n_v vs 0) 170 := by show v_iv (w_fd _ _ _) = v_iv (w_fd _ _ _); rw [s1.2, if_neg (fun e => absurd e.2 (by decide))]
  have hE_0_3_1 : ∀ j : Int, w_ei ws (w_ar ws (n_v vs 0) 3) j = w_ei w1 (w_ar ws (n_v vs 0) 3) j := fun j => s1.1 _ _
  have hK_0_3 : ∀ j : Int, 0 ≤ j → j < 4 → 0 ≤ w_ei ws (w_ar ws (n_v vs 0) 3) j ∧ w_ei ws (w_ar ws (n_v vs 0) 3) j ≤ 30 := fun j h0 h1 => th_el hD hth cr_0_3 (kd := 0) (n := 4) (m := 4) (lo := 0) (hi := 30) (rs := []) (L := []) rfl (by decide) (j := j.toNat) (by omega)
  have kz_0_170 : 0 ≤ w_fi ws (n_v vs 0) 170 ∧ w_fi ws (n_v vs 0) 170 ≤ 100000000 := tv_rng (th_fd hD hth r0 (g := GG_150) rfl (k := 170) (t := (0, 0, 100000000, [])) rfl rfl)
  have nf0 : fc_1 (20, [0], [30, 4000, 1, 1, 170]) ws (vs) := by
    refine ⟨fun n hn => ?_, ?_⟩
    · have hn : n ∈ [0] := hn
      rw [hl]
      simp only [List.mem_cons, List.not_mem_nil, or_false] at hn
      show n < 14; omega
    · show 1 * w_fi ws (n_v vs 0) 170 + 0 ≤ 4000
      omega
  refine ⟨(fun _ h => (by cases h)), [], trivial, ?_, (fun _ h => (by cases h))⟩
  rw [List.append_nil]
  exact List.forall_mem_cons.mpr ⟨⟨show (20 : Nat) < 100 from by decide, nf0⟩, (fun _ h => (by cases h))⟩
def o_Mo_text_5 : or_T := (101, 7, [(0, (2, 0, 0, [150])), (3, (0, 0, 4000, [])), (4, (0, 1, 100000000, []))], [(7, [3, 4], [2]), (9, [4, 0], [170]), (20, [0], [30, 4000, 1, 1, 170])], [(3, (0, 0, 3999, []))], [], [], [], [(3, 4, -4294967296, -1)])
theorem oo_Mo_text_5 {kA : Nat → ClassId} : or_ok kA GG o_Mo_text_5 := by
  intro A ta ws vs hD hth hl hk hds hf
  have hl : vs.length = 7 := hl
  have hk : ∀ q ∈ ([(0, (2, 0, 0, [150])), (3, (0, 0, 4000, [])), (4, (0, 1, 100000000, []))] : List (Nat × tv_T)), tv_ok ta q.2 (n_v vs q.1) := hk
  obtain ⟨t0, hk⟩ := List.forall_mem_cons.mp hk
  have t0 : tv_ok ta (2, 0, 0, [150]) (n_v vs 0) := t0
  have r0 : ta (v_ad (n_v vs 0)) = some 150 := tv_rg t0
  obtain ⟨t3, hk⟩ := List.forall_mem_cons.mp hk
  have t3 : tv_ok ta (0, 0, 4000, []) (n_v vs 3) := t3
  have k3 : 0 ≤ v_iv (n_v vs 3) ∧ v_iv (n_v vs 3) ≤ 4000 := tv_rng t3
  obtain ⟨t4, hk⟩ := List.forall_mem_cons.mp hk
  have t4 : tv_ok ta (0, 1, 100000000, []) (n_v vs 4) := t4
  have k4 : 1 ≤ v_iv (n_v vs 4) ∧ v_iv (n_v vs 4) ≤ 100000000 := tv_rng t4
  have hds : ∀ q ∈ ([(3, 4, -4294967296, -1)] : List of_T), n_iv vs q.2.1 + q.2.2.1 ≤ n_iv vs q.1 ∧ n_iv vs q.1 ≤ n_iv vs q.2.1 + q.2.2.2 := hds
  obtain ⟨d0, hds⟩ := List.forall_mem_cons.mp hds
  have d0 : v_iv (n_v vs 4) + (-4294967296) ≤ v_iv (n_v vs 3) ∧ v_iv (n_v vs 3) ≤ v_iv (n_v vs 4) + (-1) := d0
  have hf : fc_ok [(7, [3, 4], [2]), (9, [4, 0], [170]), (20, [0], [30, 4000, 1, 1, 170])] ta ws vs := hf
  obtain ⟨f0, hf⟩ := fc_un (show (7 : Nat) < 100 from by decide) hf
  have f0 : v_iv (n_v vs 3) < v_iv (n_v vs 4) := f0
  obtain ⟨f1, hf⟩ := fc_un (show (9 : Nat) < 100 from by decide) hf
  have f1 : n_v vs 4 = w_fd ws (v_ad (n_v vs 0)) 170 := f1
  obtain ⟨f2, hf⟩ := fc_un (show (20 : Nat) < 100 from by decide) hf
  have f2 : 1 * w_fi ws (n_v vs 0) 170 + 0 ≤ 4000 := f2
  have g1 : v_iv (n_v vs 4) = w_fi ws (n_v vs 0) 170 := congrArg v_iv f1
  have kz_0_170 : 0 ≤ w_fi ws (n_v vs 0) 170 ∧ w_fi ws (n_v vs 0) 170 ≤ 100000000 := tv_rng (th_fd hD hth r0 (g := GG_150) rfl (k := 170) (t := (0, 0, 100000000, [])) rfl rfl)
  have rf3 : tv_ok ta (0, 0, 3999, []) (n_v vs 3) := tv_in t3 (by omega) (by omega)
  refine ⟨List.forall_mem_cons.mpr ⟨rf3, (fun _ h => (by cases h))⟩, [], trivial, ?_, (fun _ h => (by cases h))⟩
  rw [List.append_nil]
  exact (fun _ h => (by cases h))
def n_Mo_text_an : List an_T := [(83, [(0, (2, 0, 0, [150])), (1, (0, 0, 3, [])), (2, (0, 0, 1, [])), (3, (0, 0, 4000, []))], [], (0, 0), [(0, 0, 99917), (1, 3, 4000), (0, 0, 100000)], [(1, 2, -1000000000000, 3), (1, 3, -1000000000000, 3), (2, 1, -1000000000000, 1), (2, 3, -1000000000000, 1)], [], [], 0, [], [(20, [0], [30, 4000, 1, 1, 170])])]
def t_Mo_text_ct : ct_L := [(0, 387, e_Mo_in), (0, 521, e_Mo_isPlace), (1, 527, e_Mo_take), (1, 1032, e_Mo_isDrawn), (1, 1320, e_Mo_writeEdges), (1, 1323, e_Mo_writeDrawing), (145, 1309, e_Mo_writeGroup_at_l0)]
set_option maxRecDepth 100000 in
theorem c_Mo_text {l : Launch} {D : va_G} {kA : Nat → ClassId} (h_Mo_in : ct_ok l D kA GG y_Mo_in z_Mo_in e_Mo_in) (h_Mo_isDrawn : ct_ok l D kA GG y_Mo_isDrawn z_Mo_isDrawn e_Mo_isDrawn) (h_Mo_isPlace : ct_ok l D kA GG y_Mo_isPlace z_Mo_isPlace e_Mo_isPlace) (h_Mo_take : ct_ok l D kA GG y_Mo_take z_Mo_take e_Mo_take) (h_Mo_writeDrawing : ct_ok l D kA GG y_Mo_writeDrawing z_Mo_writeDrawing e_Mo_writeDrawing) (h_Mo_writeEdges : ct_ok l D kA GG y_Mo_writeEdges z_Mo_writeEdges e_Mo_writeEdges) (h_Mo_writeGroup_at_l0 : ct_ok l D kA GG y_Mo_writeGroup_at_l0 z_Mo_writeGroup_at_l0 e_Mo_writeGroup_at_l0) : ct_ok l D kA GG y_Mo_text z_Mo_text e_Mo_text := chk_all_ok (FT := [(363, 13, 171), (366, 13, 172), (1277, 13, 170)]) (PT := [(1277, 13, 170, .int), (1326, 13, 169, .int)]) (CT := t_Mo_text_ct) (KT := []) (NT := []) (AN := n_Mo_text_an) (OT := [o_Mo_text_0, o_Mo_text_1, o_Mo_text_2, o_Mo_text_3, o_Mo_text_4, o_Mo_text_5]) 3 376 (List.forall_mem_cons.mpr ⟨oo_Mo_text_0, List.forall_mem_cons.mpr ⟨oo_Mo_text_1, List.forall_mem_cons.mpr ⟨oo_Mo_text_2, List.forall_mem_cons.mpr ⟨oo_Mo_text_3, List.forall_mem_cons.mpr ⟨oo_Mo_text_4, List.forall_mem_cons.mpr ⟨oo_Mo_text_5, List.forall_mem_nil _⟩⟩⟩⟩⟩⟩) (by decide +kernel) ⟨List.forall_mem_cons.mpr ⟨gf_Mo_363, List.forall_mem_cons.mpr ⟨gf_Mo_366, List.forall_mem_cons.mpr ⟨gf_Mo_1277, List.forall_mem_nil _⟩⟩⟩, List.forall_mem_cons.mpr ⟨pf_Mo_1277, List.forall_mem_cons.mpr ⟨pf_Mo_1326, List.forall_mem_nil _⟩⟩, List.forall_mem_cons.mpr ⟨cl_static (y := y_Mo_in) h_Mo_in wm_2971 wm_9 wm_2969 wm_2970 ⟨by decide, by decide, by decide +kernel⟩ (by decide), List.forall_mem_cons.mpr ⟨cl_static (y := y_Mo_isPlace) h_Mo_isPlace wm_2978 wm_9 wm_2976 wm_2977 ⟨by decide, by decide, by decide +kernel⟩ (by decide), List.forall_mem_cons.mpr ⟨cl_virtual (y := y_Mo_take) (ci := 13) rfl rfl ⟨_, _, rfl⟩ (by decide +kernel) h_Mo_take wm_3091 wm_9 wm_3088 wm_3090 wv_14_2 ⟨by decide, by decide, by decide +kernel⟩ (by decide), List.forall_mem_cons.mpr ⟨cl_virtual (y := y_Mo_isDrawn) (ci := 13) rfl rfl ⟨_, _, rfl⟩ (by decide +kernel) h_Mo_isDrawn wm_3669 wm_9 wm_3666 wm_3668 wv_21_13 ⟨by decide, by decide, by decide +kernel⟩ (by decide), List.forall_mem_cons.mpr ⟨cl_virtual (y := y_Mo_writeEdges) (ci := 13) rfl rfl ⟨_, _, rfl⟩ (by decide +kernel) h_Mo_writeEdges wm_3937 wm_9 wm_3934 wm_3936 wv_24_12 ⟨by decide, by decide, by decide +kernel⟩ (by decide), List.forall_mem_cons.mpr ⟨cl_virtual (y := y_Mo_writeDrawing) (ci := 13) rfl rfl ⟨_, _, rfl⟩ (by decide +kernel) h_Mo_writeDrawing wm_3944 wm_9 wm_3941 wm_3943 wv_24_13 ⟨by decide, by decide, by decide +kernel⟩ (by decide), List.forall_mem_cons.mpr ⟨cl_virtual (y := y_Mo_writeGroup_at_l0) (ci := 13) rfl rfl ⟨_, _, rfl⟩ (by decide +kernel) h_Mo_writeGroup_at_l0 wm_3905 wm_9 wm_3902 wm_3904 wv_24_6 ⟨by decide, by decide, by decide +kernel⟩ (by decide), List.forall_mem_nil _⟩⟩⟩⟩⟩⟩⟩, List.forall_mem_nil _, List.forall_mem_nil _, GG_pl⟩ (by decide +kernel)
def o_Mo_read_0 : or_T := (58, 12, [(0, (2, 0, 0, [150]))], [(20, [0], [50, 0, 2, 3, 4, 5, 2, 0, 4, 0, 5, 3, 0, 3, 7, 0, 3, 0, 4, 7, 0]), (101, [0, 10], [5]), (20, [0], [50, 0, 2, 3, 4, 5, 2, 0, 4, 0, 5, 3, 0, 3, 7, 0, 3, 0, 4, 7, 0]), (101, [0, 8], [11]), (20, [0], [50, 0, 2, 3, 4, 5, 2, 0, 4, 0, 5, 3, 0, 3, 7, 0, 3, 0, 4, 7, 0]), (101, [0, 2], [10]), (20, [0], [50, 0, 2, 3, 4, 5, 2, 0, 4, 0, 5, 3, 0, 3, 7, 0, 3, 0, 4, 7, 0]), (101, [0, 7], [8]), (20, [0], [50, 0, 2, 3, 4, 5, 2, 0, 4, 0, 5, 3, 0, 3, 7, 0, 3, 0, 4, 7, 0]), (101, [0, 6], [7]), (20, [0], [50, 0, 2, 3, 4, 5, 2, 0, 4, 0, 5, 3, 0, 3, 7, 0, 3, 0, 4, 7, 0]), (101, [0, 5], [0]), (20, [0], [50, 0, 2, 3, 4, 5, 2, 0, 4, 0, 5, 3, 0, 3, 7, 0, 3, 0, 4, 7, 0])], [], [], [(24, [0, 0], [])], [], [])
theorem oo_Mo_read_0 {kA : Nat → ClassId} : or_ok kA GG o_Mo_read_0 := by
  intro A ta ws vs hD hth hl hk hds hf
  have hl : vs.length = 12 := hl
  have hk : ∀ q ∈ ([(0, (2, 0, 0, [150]))] : List (Nat × tv_T)), tv_ok ta q.2 (n_v vs q.1) := hk
  obtain ⟨t0, hk⟩ := List.forall_mem_cons.mp hk
  have t0 : tv_ok ta (2, 0, 0, [150]) (n_v vs 0) := t0
  have r0 : ta (v_ad (n_v vs 0)) = some 150 := tv_rg t0
  have hf : fc_ok [(20, [0], [50, 0, 2, 3, 4, 5, 2, 0, 4, 0, 5, 3, 0, 3, 7, 0, 3, 0, 4, 7, 0]), (101, [0, 10], [5]), (20, [0], [50, 0, 2, 3, 4, 5, 2, 0, 4, 0, 5, 3, 0, 3, 7, 0, 3, 0, 4, 7, 0]), (101, [0, 8], [11]), (20, [0], [50, 0, 2, 3, 4, 5, 2, 0, 4, 0, 5, 3, 0, 3, 7, 0, 3, 0, 4, 7, 0]), (101, [0, 2], [10]), (20, [0], [50, 0, 2, 3, 4, 5, 2, 0, 4, 0, 5, 3, 0, 3, 7, 0, 3, 0, 4, 7, 0]), (101, [0, 7], [8]), (20, [0], [50, 0, 2, 3, 4, 5, 2, 0, 4, 0, 5, 3, 0, 3, 7, 0, 3, 0, 4, 7, 0]), (101, [0, 6], [7]), (20, [0], [50, 0, 2, 3, 4, 5, 2, 0, 4, 0, 5, 3, 0, 3, 7, 0, 3, 0, 4, 7, 0]), (101, [0, 5], [0]), (20, [0], [50, 0, 2, 3, 4, 5, 2, 0, 4, 0, 5, 3, 0, 3, 7, 0, 3, 0, 4, 7, 0])] ta ws vs := hf
  obtain ⟨f0, hf⟩ := fc_un (show (20 : Nat) < 100 from by decide) hf
  have f0 : ∀ j0 : Int, 0 ≤ j0 → j0 < 4 → (w_ei ws (w_ar ws (n_v vs 0) 3) (j0) ≤ w_ei ws (w_ar ws (n_v vs 0) 4) (j0)) := f0
  obtain ⟨ta1, w1, le1, ⟨_, s1⟩, hf⟩ := fc_us (show ¬ (101 : Nat) < 100 from by decide) hf
  have s1 : (∀ b j, w_el ws b j = w_el w1 b j) ∧ ∀ b j, w_fd ws b j = if b = v_ad (n_v vs 0) ∧ j = 5 then n_v vs 10 else w_fd w1 b j := s1
  obtain ⟨f2, hf⟩ := fc_un (show (20 : Nat) < 100 from by decide) hf
  have f2 : ∀ j0 : Int, 0 ≤ j0 → j0 < 4 → (w_ei w1 (w_ar w1 (n_v vs 0) 3) (j0) ≤ w_ei w1 (w_ar w1 (n_v vs 0) 4) (j0)) := f2
  obtain ⟨ta2, w2, le2, ⟨_, s2⟩, hf⟩ := fc_us (show ¬ (101 : Nat) < 100 from by decide) hf
  have s2 : (∀ b j, w_el w1 b j = w_el w2 b j) ∧ ∀ b j, w_fd w1 b j = if b = v_ad (n_v vs 0) ∧ j = 11 then n_v vs 8 else w_fd w2 b j := s2
  obtain ⟨f4, hf⟩ := fc_un (show (20 : Nat) < 100 from by decide) hf
  have f4 : ∀ j0 : Int, 0 ≤ j0 → j0 < 4 → (w_ei w2 (w_ar w2 (n_v vs 0) 3) (j0) ≤ w_ei w2 (w_ar w2 (n_v vs 0) 4) (j0)) := f4
  obtain ⟨ta3, w3, le3, ⟨_, s3⟩, hf⟩ := fc_us (show ¬ (101 : Nat) < 100 from by decide) hf
  have s3 : (∀ b j, w_el w2 b j = w_el w3 b j) ∧ ∀ b j, w_fd w2 b j = if b = v_ad (n_v vs 0) ∧ j = 10 then n_v vs 2 else w_fd w3 b j := s3
  obtain ⟨f6, hf⟩ := fc_un (show (20 : Nat) < 100 from by decide) hf
  have f6 : ∀ j0 : Int, 0 ≤ j0 → j0 < 4 → (w_ei w3 (w_ar w3 (n_v vs 0) 3) (j0) ≤ w_ei w3 (w_ar w3 (n_v vs 0) 4) (j0)) := f6
  obtain ⟨ta4, w4, le4, ⟨_, s4⟩, hf⟩ := fc_us (show ¬ (101 : Nat) < 100 from by decide) hf
  have s4 : (∀ b j, w_el w3 b j = w_el w4 b j) ∧ ∀ b j, w_fd w3 b j = if b = v_ad (n_v vs 0) ∧ j = 8 then n_v vs 7 else w_fd w4 b j := s4
  obtain ⟨f8, hf⟩ := fc_un (show (20 : Nat) < 100 from by decide) hf
  have f8 : ∀ j0 : Int, 0 ≤ j0 → j0 < 4 → (w_ei w4 (w_ar w4 (n_v vs 0) 3) (j0) ≤ w_ei w4 (w_ar w4 (n_v vs 0) 4) (j0)) := f8
  obtain ⟨ta5, w5, le5, ⟨_, s5⟩, hf⟩ := fc_us (show ¬ (101 : Nat) < 100 from by decide) hf
  have s5 : (∀ b j, w_el w4 b j = w_el w5 b j) ∧ ∀ b j, w_fd w4 b j = if b = v_ad (n_v vs 0) ∧ j = 7 then n_v vs 6 else w_fd w5 b j := s5
  obtain ⟨f10, hf⟩ := fc_un (show (20 : Nat) < 100 from by decide) hf
  have f10 : ∀ j0 : Int, 0 ≤ j0 → j0 < 4 → (w_ei w5 (w_ar w5 (n_v vs 0) 3) (j0) ≤ w_ei w5 (w_ar w5 (n_v vs 0) 4) (j0)) := f10
  obtain ⟨ta6, w6, le6, ⟨_, s6⟩, hf⟩ := fc_us (show ¬ (101 : Nat) < 100 from by decide) hf
  have s6 : (∀ b j, w_el w5 b j = w_el w6 b j) ∧ ∀ b j, w_fd w5 b j = if b = v_ad (n_v vs 0) ∧ j = 0 then n_v vs 5 else w_fd w6 b j := s6
  obtain ⟨f12, hf⟩ := fc_un (show (20 : Nat) < 100 from by decide) hf
  have f12 : ∀ j0 : Int, 0 ≤ j0 → j0 < 4 → (w_ei w6 (w_ar w6 (n_v vs 0) 3) (j0) ≤ w_ei w6 (w_ar w6 (n_v vs 0) 4) (j0)) := f12
  have ar_0_3_1 : w_ar w1 (n_v vs 0) 3 = w_ar ws (n_v vs 0) 3 := by show v_ad (w_fd w1 _ _) = v_ad (w_fd ws _ _); rw [s1.2, if_neg (fun e => absurd e.2 (by decide))]
  have ar_0_3_2 : w_ar w2 (n_v vs 0) 3 = w_ar ws (n_v vs 0) 3 := by rw [← ar_0_3_1]; show v_ad (w_fd w2 _ _) = v_ad (w_fd w1 _ _); rw [s2.2, if_neg (fun e => absurd e.2 (by decide))]
  have ar_0_3_3 : w_ar w3 (n_v vs 0) 3 = w_ar ws (n_v vs 0) 3 := by rw [← ar_0_3_2]; show v_ad (w_fd w3 _ _) = v_ad (w_fd w2 _ _); rw [s3.2, if_neg (fun e => absurd e.2 (by decide))]
  have ar_0_3_4 : w_ar w4 (n_v vs 0) 3 = w_ar ws (n_v vs 0) 3 := by rw [← ar_0_3_3]; show v_ad (w_fd w4 _ _) = v_ad (w_fd w3 _ _); rw [s4.2, if_neg (fun e => absurd e.2 (by decide))]
  have ar_0_3_5 : w_ar w5 (n_v vs 0) 3 = w_ar ws (n_v vs 0) 3 := by rw [← ar_0_3_4]; show v_ad (w_fd w5 _ _) = v_ad (w_fd w4 _ _); rw [s5.2, if_neg (fun e => absurd e.2 (by decide))]
  have ar_0_3_6 : w_ar w6 (n_v vs 0) 3 = w_ar ws (n_v vs 0) 3 := by rw [← ar_0_3_5]; show v_ad (w_fd w6 _ _) = v_ad (w_fd w5 _ _); rw [s6.2, if_neg (fun e => absurd e.2 (by decide))]
  have cr_0_3 : ta (w_ar ws (n_v vs 0) 3) = some 153 := tv_rg (th_fd hD hth r0 (g := GG_150) rfl (k := 3) (t := (2, 0, 0, [153])) rfl rfl)
  have ar_0_4_1 : w_ar w1 (n_v vs 0) 4 = w_ar ws (n_v vs 0) 4 := by show v_ad (w_fd w1 _ _) = v_ad (w_fd ws _ _); rw [s1.2, if_neg (fun e => absurd e.2 (by decide))]
  have ar_0_4_2 : w_ar w2 (n_v vs 0) 4 = w_ar ws (n_v vs 0) 4 := by rw [← ar_0_4_1]; show v_ad (w_fd w2 _ _) = v_ad (w_fd w1 _ _); rw [s2.2, if_neg (fun e => absurd e.2 (by decide))]
  have ar_0_4_3 : w_ar w3 (n_v vs 0) 4 = w_ar ws (n_v vs 0) 4 := by rw [← ar_0_4_2]; show v_ad (w_fd w3 _ _) = v_ad (w_fd w2 _ _); rw [s3.2, if_neg (fun e => absurd e.2 (by decide))]
  have ar_0_4_4 : w_ar w4 (n_v vs 0) 4 = w_ar ws (n_v vs 0) 4 := by rw [← ar_0_4_3]; show v_ad (w_fd w4 _ _) = v_ad (w_fd w3 _ _); rw [s4.2, if_neg (fun e => absurd e.2 (by decide))]
  have ar_0_4_5 : w_ar w5 (n_v vs 0) 4 = w_ar ws (n_v vs 0) 4 := by rw [← ar_0_4_4]; show v_ad (w_fd w5 _ _) = v_ad (w_fd w4 _ _); rw [s5.2, if_neg (fun e => absurd e.2 (by decide))]
  have ar_0_4_6 : w_ar w6 (n_v vs 0) 4 = w_ar ws (n_v vs 0) 4 := by rw [← ar_0_4_5]; show v_ad (w_fd w6 _ _) = v_ad (w_fd w5 _ _); rw [s6.2, if_neg (fun e => absurd e.2 (by decide))]
  have cr_0_4 : ta (w_ar ws (n_v vs 0) 4) = some 154 := tv_rg (th_fd hD hth r0 (g := GG_150) rfl (k := 4) (t := (2, 0, 0, [154])) rfl rfl)
  rw [ar_0_3_1] at f2
  rw [ar_0_4_1] at f2
  rw [ar_0_3_2] at f4
  rw [ar_0_4_2] at f4
  rw [ar_0_3_3] at f6
  rw [ar_0_4_3] at f6
  rw [ar_0_3_4] at f8
  rw [ar_0_4_4] at f8
  rw [ar_0_3_5] at f10
  rw [ar_0_4_5] at f10
  rw [ar_0_3_6] at f12
  rw [ar_0_4_6] at f12
  have hE_0_3_1 : ∀ j : Int, w_ei ws (w_ar ws (n_v vs 0) 3) j = w_ei w1 (w_ar ws (n_v vs 0) 3) j := fun j => s1.1 _ _
  have hE_0_3_2 : ∀ j : Int, w_ei w1 (w_ar ws (n_v vs 0) 3) j = w_ei w2 (w_ar ws (n_v vs 0) 3) j := fun j => s2.1 _ _
  have hE_0_3_3 : ∀ j : Int, w_ei w2 (w_ar ws (n_v vs 0) 3) j = w_ei w3 (w_ar ws (n_v vs 0) 3) j := fun j => s3.1 _ _
  have hE_0_3_4 : ∀ j : Int, w_ei w3 (w_ar ws (n_v vs 0) 3) j = w_ei w4 (w_ar ws (n_v vs 0) 3) j := fun j => s4.1 _ _
  have hE_0_3_5 : ∀ j : Int, w_ei w4 (w_ar ws (n_v vs 0) 3) j = w_ei w5 (w_ar ws (n_v vs 0) 3) j := fun j => s5.1 _ _
  have hE_0_3_6 : ∀ j : Int, w_ei w5 (w_ar ws (n_v vs 0) 3) j = w_ei w6 (w_ar ws (n_v vs 0) 3) j := fun j => s6.1 _ _
  have hK_0_3 : ∀ j : Int, 0 ≤ j → j < 4 → 0 ≤ w_ei ws (w_ar ws (n_v vs 0) 3) j ∧ w_ei ws (w_ar ws (n_v vs 0) 3) j ≤ 30 := fun j h0 h1 => th_el hD hth cr_0_3 (kd := 0) (n := 4) (m := 4) (lo := 0) (hi := 30) (rs := []) (L := []) rfl (by decide) (j := j.toNat) (by omega)
  have hE_0_4_1 : ∀ j : Int, w_ei ws (w_ar ws (n_v vs 0) 4) j = w_ei w1 (w_ar ws (n_v vs 0) 4) j := fun j => s1.1 _ _
  have hE_0_4_2 : ∀ j : Int, w_ei w1 (w_ar ws (n_v vs 0) 4) j = w_ei w2 (w_ar ws (n_v vs 0) 4) j := fun j => s2.1 _ _
  have hE_0_4_3 : ∀ j : Int, w_ei w2 (w_ar ws (n_v vs 0) 4) j = w_ei w3 (w_ar ws (n_v vs 0) 4) j := fun j => s3.1 _ _
  have hE_0_4_4 : ∀ j : Int, w_ei w3 (w_ar ws (n_v vs 0) 4) j = w_ei w4 (w_ar ws (n_v vs 0) 4) j := fun j => s4.1 _ _
  have hE_0_4_5 : ∀ j : Int, w_ei w4 (w_ar ws (n_v vs 0) 4) j = w_ei w5 (w_ar ws (n_v vs 0) 4) j := fun j => s5.1 _ _
  have hE_0_4_6 : ∀ j : Int, w_ei w5 (w_ar ws (n_v vs 0) 4) j = w_ei w6 (w_ar ws (n_v vs 0) 4) j := fun j => s6.1 _ _
  have hK_0_4 : ∀ j : Int, 0 ≤ j → j < 4 → 0 ≤ w_ei ws (w_ar ws (n_v vs 0) 4) j ∧ w_ei ws (w_ar ws (n_v vs 0) 4) j ≤ 30 := fun j h0 h1 => th_el hD hth cr_0_4 (kd := 0) (n := 4) (m := 4) (lo := 0) (hi := 30) (rs := []) (L := []) rfl (by decide) (j := j.toNat) (by omega)
  have nf0 : fc_1 (24, [0, 0], []) ws (vs) := by
    refine ⟨fun n hn => ?_, ?_⟩
    · have hn : n ∈ [0, 0] := hn
      rw [hl]
      simp only [List.mem_cons, List.not_mem_nil, or_false] at hn
      show n < 12; omega
    · show n_v vs 0 = n_v vs 0
      first | rfl | simp only [true_and]
  refine ⟨(fun _ h => (by cases h)), [], trivial, ?_, (fun _ h => (by cases h))⟩
  rw [List.append_nil]
  exact List.forall_mem_cons.mpr ⟨⟨show (24 : Nat) < 100 from by decide, nf0⟩, (fun _ h => (by cases h))⟩
def o_Mo_read_1 : or_T := (93, 9, [(0, (2, 0, 0, [150])), (3, (2, 0, 0, [150])), (8, (0, 0, 66297, []))], [(9, [8, 3], [5]), (20, [3], [50, 0, 2, 3, 4, 5, 2, 0, 4, 0, 5, 3, 0, 3, 7, 0, 3, 0, 4, 7, 0]), (24, [0, 3], [])], [], [], [(20, [8, 3], [30, 0, 1, 0, 0, -1, 1, 5]), (20, [8, 3], [30, 0, -1, 0, 0, 1, 1, 5])], [], [])
theorem oo_Mo_read_1 {kA : Nat → ClassId} : or_ok kA GG o_Mo_read_1 := by
  intro A ta ws vs hD hth hl hk hds hf
  have hl : vs.length = 9 := hl
  have hk : ∀ q ∈ ([(0, (2, 0, 0, [150])), (3, (2, 0, 0, [150])), (8, (0, 0, 66297, []))] : List (Nat × tv_T)), tv_ok ta q.2 (n_v vs q.1) := hk
  obtain ⟨t0, hk⟩ := List.forall_mem_cons.mp hk
  have t0 : tv_ok ta (2, 0, 0, [150]) (n_v vs 0) := t0
  have r0 : ta (v_ad (n_v vs 0)) = some 150 := tv_rg t0
  obtain ⟨t3, hk⟩ := List.forall_mem_cons.mp hk
  have t3 : tv_ok ta (2, 0, 0, [150]) (n_v vs 3) := t3
  have r3 : ta (v_ad (n_v vs 3)) = some 150 := tv_rg t3
  obtain ⟨t8, hk⟩ := List.forall_mem_cons.mp hk
  have t8 : tv_ok ta (0, 0, 66297, []) (n_v vs 8) := t8
  have k8 : 0 ≤ v_iv (n_v vs 8) ∧ v_iv (n_v vs 8) ≤ 66297 := tv_rng t8
  have hf : fc_ok [(9, [8, 3], [5]), (20, [3], [50, 0, 2, 3, 4, 5, 2, 0, 4, 0, 5, 3, 0, 3, 7, 0, 3, 0, 4, 7, 0]), (24, [0, 3], [])] ta ws vs := hf
  obtain ⟨f0, hf⟩ := fc_un (show (9 : Nat) < 100 from by decide) hf
  have f0 : n_v vs 8 = w_fd ws (v_ad (n_v vs 3)) 5 := f0
  obtain ⟨f1, hf⟩ := fc_un (show (20 : Nat) < 100 from by decide) hf
  have f1 : ∀ j0 : Int, 0 ≤ j0 → j0 < 4 → (w_ei ws (w_ar ws (n_v vs 3) 3) (j0) ≤ w_ei ws (w_ar ws (n_v vs 3) 4) (j0)) := f1
  obtain ⟨f2, hf⟩ := fc_un (show (24 : Nat) < 100 from by decide) hf
  have f2 : n_v vs 0 = n_v vs 3 := f2
  have q3 : n_v vs 3 = n_v vs 0 := f2.symm
  rw [q3] at f0
  rw [q3] at f1
  have cr_0_3 : ta (w_ar ws (n_v vs 0) 3) = some 153 := tv_rg (th_fd hD hth r0 (g := GG_150) rfl (k := 3) (t := (2, 0, 0, [153])) rfl rfl)
  have cr_0_4 : ta (w_ar ws (n_v vs 0) 4) = some 154 := tv_rg (th_fd hD hth r0 (g := GG_150) rfl (k := 4) (t := (2, 0, 0, [154])) rfl rfl)
  have g0 : v_iv (n_v vs 8) = w_fi ws (n_v vs 0) 5 := congrArg v_iv f0
  have hK_0_3 : ∀ j : Int, 0 ≤ j → j < 4 → 0 ≤ w_ei ws (w_ar ws (n_v vs 0) 3) j ∧ w_ei ws (w_ar ws (n_v vs 0) 3) j ≤ 30 := fun j h0 h1 => th_el hD hth cr_0_3 (kd := 0) (n := 4) (m := 4) (lo := 0) (hi := 30) (rs := []) (L := []) rfl (by decide) (j := j.toNat) (by omega)
  have hK_0_4 : ∀ j : Int, 0 ≤ j → j < 4 → 0 ≤ w_ei ws (w_ar ws (n_v vs 0) 4) j ∧ w_ei ws (w_ar ws (n_v vs 0) 4) j ≤ 30 := fun j h0 h1 => th_el hD hth cr_0_4 (kd := 0) (n := 4) (m := 4) (lo := 0) (hi := 30) (rs := []) (L := []) rfl (by decide) (j := j.toNat) (by omega)
  have nf0 : fc_1 (20, [8, 3], [30, 0, 1, 0, 0, -1, 1, 5]) ws (vs) := by
    refine ⟨fun n hn => ?_, ?_⟩
    · have hn : n ∈ [8, 3] := hn
      rw [hl]
      simp only [List.mem_cons, List.not_mem_nil, or_false] at hn
      show n < 9; omega
    · show 1 * v_iv (n_v vs 8) + ((-1) * w_fi ws (n_v vs 3) 5 + 0) ≤ 0
      rw [q3]
      omega
  have nf1 : fc_1 (20, [8, 3], [30, 0, -1, 0, 0, 1, 1, 5]) ws (vs) := by
    refine ⟨fun n hn => ?_, ?_⟩
    · have hn : n ∈ [8, 3] := hn
      rw [hl]
      simp only [List.mem_cons, List.not_mem_nil, or_false] at hn
      show n < 9; omega
    · show (-1) * v_iv (n_v vs 8) + (1 * w_fi ws (n_v vs 3) 5 + 0) ≤ 0
      rw [q3]
      omega
  refine ⟨(fun _ h => (by cases h)), [], trivial, ?_, (fun _ h => (by cases h))⟩
  rw [List.append_nil]
  exact List.forall_mem_cons.mpr ⟨⟨show (20 : Nat) < 100 from by decide, nf0⟩, List.forall_mem_cons.mpr ⟨⟨show (20 : Nat) < 100 from by decide, nf1⟩, (fun _ h => (by cases h))⟩⟩
def o_Mo_read_2 : or_T := (97, 9, [(0, (2, 0, 0, [150])), (3, (2, 0, 0, [150])), (8, (0, 0, 66297, []))], [(20, [8, 3], [30, 0, 1, 0, 0, -1, 1, 5]), (20, [8, 3], [30, 0, -1, 0, 0, 1, 1, 5]), (20, [3], [50, 0, 2, 3, 4, 5, 2, 0, 4, 0, 5, 3, 0, 3, 7, 0, 3, 0, 4, 7, 0]), (24, [0, 3], []), (20, [3, 8], [50, 0, 1, 2, 1, 9, 3, 0, 2, 4, 2, 1, 1, 0, 2, 0, 1])], [], [(0, 0, 2000, [])], [(20, [3], [50, 1, 1, 5, 2, 0, 2, 0, 1, 3, 0, 2, 4, 3, 2, 0, 5, 0, 2]), (20, [9, 3], [30, 0, 1, 0, 0, -1, 1, 11])], [], [])
theorem oo_Mo_read_2 {kA : Nat → ClassId} : or_ok kA GG o_Mo_read_2 := by
  intro A ta ws vs hD hth hl hk hds hf
  have hl : vs.length = 9 := hl
  have hk : ∀ q ∈ ([(0, (2, 0, 0, [150])), (3, (2, 0, 0, [150])), (8, (0, 0, 66297, []))] : List (Nat × tv_T)), tv_ok ta q.2 (n_v vs q.1) := hk
  obtain ⟨t0, hk⟩ := List.forall_mem_cons.mp hk
  have t0 : tv_ok ta (2, 0, 0, [150]) (n_v vs 0) := t0
  have r0 : ta (v_ad (n_v vs 0)) = some 150 := tv_rg t0
  obtain ⟨t3, hk⟩ := List.forall_mem_cons.mp hk
  have t3 : tv_ok ta (2, 0, 0, [150]) (n_v vs 3) := t3
  have r3 : ta (v_ad (n_v vs 3)) = some 150 := tv_rg t3
  obtain ⟨t8, hk⟩ := List.forall_mem_cons.mp hk
  have t8 : tv_ok ta (0, 0, 66297, []) (n_v vs 8) := t8
  have k8 : 0 ≤ v_iv (n_v vs 8) ∧ v_iv (n_v vs 8) ≤ 66297 := tv_rng t8
  have hf : fc_ok [(20, [8, 3], [30, 0, 1, 0, 0, -1, 1, 5]), (20, [8, 3], [30, 0, -1, 0, 0, 1, 1, 5]), (20, [3], [50, 0, 2, 3, 4, 5, 2, 0, 4, 0, 5, 3, 0, 3, 7, 0, 3, 0, 4, 7, 0]), (24, [0, 3], []), (20, [3, 8], [50, 0, 1, 2, 1, 9, 3, 0, 2, 4, 2, 1, 1, 0, 2, 0, 1])] ta ws vs := hf
  obtain ⟨f0, hf⟩ := fc_un (show (20 : Nat) < 100 from by decide) hf
  have f0 : 1 * v_iv (n_v vs 8) + ((-1) * w_fi ws (n_v vs 3) 5 + 0) ≤ 0 := f0
  obtain ⟨f1, hf⟩ := fc_un (show (20 : Nat) < 100 from by decide) hf
  have f1 : (-1) * v_iv (n_v vs 8) + (1 * w_fi ws (n_v vs 3) 5 + 0) ≤ 0 := f1
  obtain ⟨f2, hf⟩ := fc_un (show (20 : Nat) < 100 from by decide) hf
  have f2 : ∀ j0 : Int, 0 ≤ j0 → j0 < 4 → (w_ei ws (w_ar ws (n_v vs 3) 3) (j0) ≤ w_ei ws (w_ar ws (n_v vs 3) 4) (j0)) := f2
  obtain ⟨f3, hf⟩ := fc_un (show (24 : Nat) < 100 from by decide) hf
  have f3 : n_v vs 0 = n_v vs 3 := f3
  obtain ⟨f4, hf⟩ := fc_un (show (20 : Nat) < 100 from by decide) hf
  have f4 : w_ei ws (w_ar ws (n_v vs 3) 2) ((v_iv (n_v vs 8) + 2)) = 1 := f4
  have q3 : n_v vs 3 = n_v vs 0 := f3.symm
  rw [q3] at f0
  rw [q3] at f1
  rw [q3] at f2
  rw [q3] at f4
  have cr_0_2 : ta (w_ar ws (n_v vs 0) 2) = some 152 := tv_rg (th_fd hD hth r0 (g := GG_150) rfl (k := 2) (t := (2, 0, 0, [152])) rfl rfl)
  have cr_0_3 : ta (w_ar ws (n_v vs 0) 3) = some 153 := tv_rg (th_fd hD hth r0 (g := GG_150) rfl (k := 3) (t := (2, 0, 0, [153])) rfl rfl)
  have cr_0_4 : ta (w_ar ws (n_v vs 0) 4) = some 154 := tv_rg (th_fd hD hth r0 (g := GG_150) rfl (k := 4) (t := (2, 0, 0, [154])) rfl rfl)
  have hK_0_3 : ∀ j : Int, 0 ≤ j → j < 4 → 0 ≤ w_ei ws (w_ar ws (n_v vs 0) 3) j ∧ w_ei ws (w_ar ws (n_v vs 0) 3) j ≤ 30 := fun j h0 h1 => th_el hD hth cr_0_3 (kd := 0) (n := 4) (m := 4) (lo := 0) (hi := 30) (rs := []) (L := []) rfl (by decide) (j := j.toNat) (by omega)
  have hK_0_4 : ∀ j : Int, 0 ≤ j → j < 4 → 0 ≤ w_ei ws (w_ar ws (n_v vs 0) 4) j ∧ w_ei ws (w_ar ws (n_v vs 0) 4) j ≤ 30 := fun j h0 h1 => th_el hD hth cr_0_4 (kd := 0) (n := 4) (m := 4) (lo := 0) (hi := 30) (rs := []) (L := []) rfl (by decide) (j := j.toNat) (by omega)
  have kz_0_11 : 0 ≤ w_fi ws (n_v vs 0) 11 ∧ w_fi ws (n_v vs 0) 11 ≤ 2000 := tv_rng (th_fd hD hth r0 (g := GG_150) rfl (k := 11) (t := (0, 0, 2000, [])) rfl rfl)
  have kv0 : 0 ≤ w_fi ws (n_v vs 0) 11 ∧ w_fi ws (n_v vs 0) 11 ≤ 2000 := tv_rng (th_fd hD hth r0 (g := GG_150) rfl (k := 11) (t := (0, 0, 2000, [])) rfl rfl)
  obtain ⟨x, ex, hx⟩ := iv_ex (ta := ta) (lo := 0) (hi := 2000) (z := w_fi ws (n_v vs 0) 11) (by omega) (by omega) (by omega) (by omega)
  have ex2 : v_iv (Value.int x) = w_fi ws (n_v vs 0) 11 := ex
  have ex3 : 0 ≤ v_iv (Value.int x) ∧ v_iv (Value.int x) ≤ 2000 := tv_rng hx
  have e_3 : n_v (vs ++ [Value.int x]) 3 = n_v vs 3 := n_v_old (by rw [hl]; decide)
  have e_9 : n_v (vs ++ [Value.int x]) 9 = Value.int x := n_v_new hl
  have nf0 : fc_1 (20, [3], [50, 1, 1, 5, 2, 0, 2, 0, 1, 3, 0, 2, 4, 3, 2, 0, 5, 0, 2]) ws (vs ++ [Value.int x]) := by
    refine ⟨fun n hn => ?_, ?_⟩
    · have hn : n ∈ [3] := hn
      rw [List.length_append, hl]
      simp only [List.mem_cons, List.not_mem_nil, or_false] at hn
      show n < 9 + 1; omega
    · show 1 ≤ w_ei ws (w_ar ws (n_v (vs ++ [Value.int x]) 3) 2) ((w_fi ws (n_v (vs ++ [Value.int x]) 3) 5 + 2))
      rw [e_3]
      rw [q3]
      first | omega | grind
  have nf1 : fc_1 (20, [9, 3], [30, 0, 1, 0, 0, -1, 1, 11]) ws (vs ++ [Value.int x]) := by
    refine ⟨fun n hn => ?_, ?_⟩
    · have hn : n ∈ [9, 3] := hn
      rw [List.length_append, hl]
      simp only [List.mem_cons, List.not_mem_nil, or_false] at hn
      show n < 9 + 1; omega
    · show 1 * v_iv (n_v (vs ++ [Value.int x]) 9) + ((-1) * w_fi ws (n_v (vs ++ [Value.int x]) 3) 11 + 0) ≤ 0
      rw [e_3]
      rw [e_9]
      rw [q3]
      omega
  exact ⟨(fun _ h => (by cases h)), [Value.int x], ag_one hx, List.forall_mem_cons.mpr ⟨⟨show (20 : Nat) < 100 from by decide, nf0⟩, List.forall_mem_cons.mpr ⟨⟨show (20 : Nat) < 100 from by decide, nf1⟩, (fun _ h => (by cases h))⟩⟩, (fun _ h => (by cases h))⟩
def o_Mo_read_3 : or_T := (100, 10, [(0, (2, 0, 0, [150])), (3, (2, 0, 0, [150])), (8, (0, 0, 66297, [])), (9, (0, 0, 2000, []))], [(20, [3], [50, 1, 1, 5, 2, 0, 2, 0, 1, 3, 0, 2, 4, 3, 2, 0, 5, 0, 2]), (20, [8, 3], [30, 0, 1, 0, 0, -1, 1, 5]), (20, [8, 3], [30, 0, -1, 0, 0, 1, 1, 5]), (20, [3], [50, 0, 2, 3, 4, 5, 2, 0, 4, 0, 5, 3, 0, 3, 7, 0, 3, 0, 4, 7, 0]), (24, [0, 3], []), (20, [3, 8], [50, 0, 1, 2, 1, 9, 3, 0, 2, 4, 2, 1, 1, 0, 2, 0, 1]), (20, [3, 3], [30, 0, 1, 1, 15, -1, 1, 11]), (20, [3], [50, 3, 0, 12, 11, 15, 2, 21, 4, 7, 1, 3, 2, 0, 12, 0, 1, 0, 3, 2, 0, 11, 4, 3, 2, 0, 15, 0, 8, 3, 7, 1, 3, 2, 0, 12, 0, 0, 0, 7, 4, 3, 2, 0, 15, 0, 1, 2, 0, 11]), (20, [9, 3], [30, 0, 1, 0, 0, -1, 1, 15])], [], [(0, 0, 2005, [])], [(20, [3], [50, 0, 2, 3, 4, 5, 2, 0, 4, 0, 5, 3, 0, 3, 7, 0, 3, 0, 4, 7, 0]), (20, [3, 3], [30, 0, 1, 1, 15, -1, 1, 11]), (20, [3], [50, 3, 0, 12, 11, 15, 2, 21, 4, 7, 1, 3, 2, 0, 12, 0, 1, 0, 3, 2, 0, 11, 4, 3, 2, 0, 15, 0, 8, 3, 7, 1, 3, 2, 0, 12, 0, 0, 0, 7, 4, 3, 2, 0, 15, 0, 1, 2, 0, 11]), (20, [3], [50, 1, 1, 5, 2, 0, 2, 0, 1, 3, 0, 2, 4, 3, 2, 0, 5, 0, 2]), (24, [0, 3], []), (20, [10, 3, 3], [30, 2005, 1, 0, 0, 1, 1, 11, 1, 1, 8]), (20, [10, 3, 3], [30, -2005, -1, 0, 0, -1, 1, 11, -1, 1, 8])], [], [])
theorem oo_Mo_read_3 {kA : Nat → ClassId} : or_ok kA GG o_Mo_read_3 := by
  intro A ta ws vs hD hth hl hk hds hf
  have hl : vs.length = 10 := hl
  have hk : ∀ q ∈ ([(0, (2, 0, 0, [150])), (3, (2, 0, 0, [150])), (8, (0, 0, 66297, [])), (9, (0, 0, 2000, []))] : List (Nat × tv_T)), tv_ok ta q.2 (n_v vs q.1) := hk
  obtain ⟨t0, hk⟩ := List.forall_mem_cons.mp hk
  have t0 : tv_ok ta (2, 0, 0, [150]) (n_v vs 0) := t0
  have r0 : ta (v_ad (n_v vs 0)) = some 150 := tv_rg t0
  obtain ⟨t3, hk⟩ := List.forall_mem_cons.mp hk
  have t3 : tv_ok ta (2, 0, 0, [150]) (n_v vs 3) := t3
  have r3 : ta (v_ad (n_v vs 3)) = some 150 := tv_rg t3
  obtain ⟨t8, hk⟩ := List.forall_mem_cons.mp hk
  have t8 : tv_ok ta (0, 0, 66297, []) (n_v vs 8) := t8
  have k8 : 0 ≤ v_iv (n_v vs 8) ∧ v_iv (n_v vs 8) ≤ 66297 := tv_rng t8
  obtain ⟨t9, hk⟩ := List.forall_mem_cons.mp hk
  have t9 : tv_ok ta (0, 0, 2000, []) (n_v vs 9) := t9
  have k9 : 0 ≤ v_iv (n_v vs 9) ∧ v_iv (n_v vs 9) ≤ 2000 := tv_rng t9
  have hf : fc_ok [(20, [3], [50, 1, 1, 5, 2, 0, 2, 0, 1, 3, 0, 2, 4, 3, 2, 0, 5, 0, 2]), (20, [8, 3], [30, 0, 1, 0, 0, -1, 1, 5]), (20, [8, 3], [30, 0, -1, 0, 0, 1, 1, 5]), (20, [3], [50, 0, 2, 3, 4, 5, 2, 0, 4, 0, 5, 3, 0, 3, 7, 0, 3, 0, 4, 7, 0]), (24, [0, 3], []), (20, [3, 8], [50, 0, 1, 2, 1, 9, 3, 0, 2, 4, 2, 1, 1, 0, 2, 0, 1]), (20, [3, 3], [30, 0, 1, 1, 15, -1, 1, 11]), (20, [3], [50, 3, 0, 12, 11, 15, 2, 21, 4, 7, 1, 3, 2, 0, 12, 0, 1, 0, 3, 2, 0, 11, 4, 3, 2, 0, 15, 0, 8, 3, 7, 1, 3, 2, 0, 12, 0, 0, 0, 7, 4, 3, 2, 0, 15, 0, 1, 2, 0, 11]), (20, [9, 3], [30, 0, 1, 0, 0, -1, 1, 15])] ta ws vs := hf
  obtain ⟨f0, hf⟩ := fc_un (show (20 : Nat) < 100 from by decide) hf
  have f0 : 1 ≤ w_ei ws (w_ar ws (n_v vs 3) 2) ((w_fi ws (n_v vs 3) 5 + 2)) := f0
  obtain ⟨f1, hf⟩ := fc_un (show (20 : Nat) < 100 from by decide) hf
  have f1 : 1 * v_iv (n_v vs 8) + ((-1) * w_fi ws (n_v vs 3) 5 + 0) ≤ 0 := f1
  obtain ⟨f2, hf⟩ := fc_un (show (20 : Nat) < 100 from by decide) hf
  have f2 : (-1) * v_iv (n_v vs 8) + (1 * w_fi ws (n_v vs 3) 5 + 0) ≤ 0 := f2
  obtain ⟨f3, hf⟩ := fc_un (show (20 : Nat) < 100 from by decide) hf
  have f3 : ∀ j0 : Int, 0 ≤ j0 → j0 < 4 → (w_ei ws (w_ar ws (n_v vs 3) 3) (j0) ≤ w_ei ws (w_ar ws (n_v vs 3) 4) (j0)) := f3
  obtain ⟨f4, hf⟩ := fc_un (show (24 : Nat) < 100 from by decide) hf
  have f4 : n_v vs 0 = n_v vs 3 := f4
  obtain ⟨f5, hf⟩ := fc_un (show (20 : Nat) < 100 from by decide) hf
  have f5 : w_ei ws (w_ar ws (n_v vs 3) 2) ((v_iv (n_v vs 8) + 2)) = 1 := f5
  obtain ⟨f6, hf⟩ := fc_un (show (20 : Nat) < 100 from by decide) hf
  have f6 : 1 * w_fi ws (n_v vs 3) 15 + ((-1) * w_fi ws (n_v vs 3) 11 + 0) ≤ 0 := f6
  obtain ⟨f7, hf⟩ := fc_un (show (20 : Nat) < 100 from by decide) hf
  have f7 : ((w_fi ws (n_v vs 3) 12 = 1) → (w_fi ws (n_v vs 3) 11 ≤ (w_fi ws (n_v vs 3) 15 + 8))) ∧ ((w_fi ws (n_v vs 3) 12 = 0) ∨ ((w_fi ws (n_v vs 3) 15 + 1) ≤ w_fi ws (n_v vs 3) 11)) := f7
  obtain ⟨f8, hf⟩ := fc_un (show (20 : Nat) < 100 from by decide) hf
  have f8 : 1 * v_iv (n_v vs 9) + ((-1) * w_fi ws (n_v vs 3) 15 + 0) ≤ 0 := f8
  have q3 : n_v vs 3 = n_v vs 0 := f4.symm
  rw [q3] at f0
  rw [q3] at f1
  rw [q3] at f2
  rw [q3] at f3
  rw [q3] at f5
  rw [q3] at f6
  rw [q3] at f7
  rw [q3] at f8
  have cr_0_2 : ta (w_ar ws (n_v vs 0) 2) = some 152 := tv_rg (th_fd hD hth r0 (g := GG_150) rfl (k := 2) (t := (2, 0, 0, [152])) rfl rfl)
  have cr_0_3 : ta (w_ar ws (n_v vs 0) 3) = some 153 := tv_rg (th_fd hD hth r0 (g := GG_150) rfl (k := 3) (t := (2, 0, 0, [153])) rfl rfl)
  have cr_0_4 : ta (w_ar ws (n_v vs 0) 4) = some 154 := tv_rg (th_fd hD hth r0 (g := GG_150) rfl (k := 4) (t := (2, 0, 0, [154])) rfl rfl)
  have hK_0_3 : ∀ j : Int, 0 ≤ j → j < 4 → 0 ≤ w_ei ws (w_ar ws (n_v vs 0) 3) j ∧ w_ei ws (w_ar ws (n_v vs 0) 3) j ≤ 30 := fun j h0 h1 => th_el hD hth cr_0_3 (kd := 0) (n := 4) (m := 4) (lo := 0) (hi := 30) (rs := []) (L := []) rfl (by decide) (j := j.toNat) (by omega)
  have hK_0_4 : ∀ j : Int, 0 ≤ j → j < 4 → 0 ≤ w_ei ws (w_ar ws (n_v vs 0) 4) j ∧ w_ei ws (w_ar ws (n_v vs 0) 4) j ≤ 30 := fun j h0 h1 => th_el hD hth cr_0_4 (kd := 0) (n := 4) (m := 4) (lo := 0) (hi := 30) (rs := []) (L := []) rfl (by decide) (j := j.toNat) (by omega)
  have kz_0_8 : 0 ≤ w_fi ws (n_v vs 0) 8 ∧ w_fi ws (n_v vs 0) 8 ≤ 5 := tv_rng (th_fd hD hth r0 (g := GG_150) rfl (k := 8) (t := (0, 0, 5, [])) rfl rfl)
  have kz_0_11 : 0 ≤ w_fi ws (n_v vs 0) 11 ∧ w_fi ws (n_v vs 0) 11 ≤ 2000 := tv_rng (th_fd hD hth r0 (g := GG_150) rfl (k := 11) (t := (0, 0, 2000, [])) rfl rfl)
  have kz_0_12 : 0 ≤ w_fi ws (n_v vs 0) 12 ∧ w_fi ws (n_v vs 0) 12 ≤ 4 := tv_rng (th_fd hD hth r0 (g := GG_150) rfl (k := 12) (t := (0, 0, 4, [])) rfl rfl)
  have kz_0_15 : 0 ≤ w_fi ws (n_v vs 0) 15 ∧ w_fi ws (n_v vs 0) 15 ≤ 2000 := tv_rng (th_fd hD hth r0 (g := GG_150) rfl (k := 15) (t := (0, 0, 2000, [])) rfl rfl)
  have kb_0_8 : 0 ≤ w_fi ws (n_v vs 0) 8 ∧ w_fi ws (n_v vs 0) 8 ≤ 5 := tv_rng (th_fd hD hth r0 (g := GG_150) rfl (k := 8) (t := (0, 0, 5, [])) rfl rfl)
  have kb_0_11 : 0 ≤ w_fi ws (n_v vs 0) 11 ∧ w_fi ws (n_v vs 0) 11 ≤ 2000 := tv_rng (th_fd hD hth r0 (g := GG_150) rfl (k := 11) (t := (0, 0, 2000, [])) rfl rfl)
  obtain ⟨x, ex, hx⟩ := iv_ex (ta := ta) (lo := 0) (hi := 2005) (z := 2005 + ((-1) * w_fi ws (n_v vs 0) 11 + ((-1) * w_fi ws (n_v vs 0) 8 + 0))) (by omega) (by omega) (by omega) (by omega)
  have ex2 : v_iv (Value.int x) = 2005 + ((-1) * w_fi ws (n_v vs 0) 11 + ((-1) * w_fi ws (n_v vs 0) 8 + 0)) := ex
  have ex3 : 0 ≤ v_iv (Value.int x) ∧ v_iv (Value.int x) ≤ 2005 := tv_rng hx
  have e_0 : n_v (vs ++ [Value.int x]) 0 = n_v vs 0 := n_v_old (by rw [hl]; decide)
  have e_3 : n_v (vs ++ [Value.int x]) 3 = n_v vs 3 := n_v_old (by rw [hl]; decide)
  have e_10 : n_v (vs ++ [Value.int x]) 10 = Value.int x := n_v_new hl
  have nf0 : fc_1 (20, [3], [50, 0, 2, 3, 4, 5, 2, 0, 4, 0, 5, 3, 0, 3, 7, 0, 3, 0, 4, 7, 0]) ws (vs ++ [Value.int x]) := by
    refine ⟨fun n hn => ?_, ?_⟩
    · have hn : n ∈ [3] := hn
      rw [List.length_append, hl]
      simp only [List.mem_cons, List.not_mem_nil, or_false] at hn
      show n < 10 + 1; omega
    · show ∀ j0 : Int, 0 ≤ j0 → j0 < 4 → (w_ei ws (w_ar ws (n_v (vs ++ [Value.int x]) 3) 3) (j0) ≤ w_ei ws (w_ar ws (n_v (vs ++ [Value.int x]) 3) 4) (j0))
      rw [e_3]
      rw [q3]
      first | omega | grind
  have nf1 : fc_1 (20, [3, 3], [30, 0, 1, 1, 15, -1, 1, 11]) ws (vs ++ [Value.int x]) := by
    refine ⟨fun n hn => ?_, ?_⟩
    · have hn : n ∈ [3, 3] := hn
      rw [List.length_append, hl]
      simp only [List.mem_cons, List.not_mem_nil, or_false] at hn
      show n < 10 + 1; omega
    · show 1 * w_fi ws (n_v (vs ++ [Value.int x]) 3) 15 + ((-1) * w_fi ws (n_v (vs ++ [Value.int x]) 3) 11 + 0) ≤ 0
      rw [e_3]
      rw [q3]
      omega
  have nf2 : fc_1 (20, [3], [50, 3, 0, 12, 11, 15, 2, 21, 4, 7, 1, 3, 2, 0, 12, 0, 1, 0, 3, 2, 0, 11, 4, 3, 2, 0, 15, 0, 8, 3, 7, 1, 3, 2, 0, 12, 0, 0, 0, 7, 4, 3, 2, 0, 15, 0, 1, 2, 0, 11]) ws (vs ++ [Value.int x]) := by
    refine ⟨fun n hn => ?_, ?_⟩
    · have hn : n ∈ [3] := hn
      rw [List.length_append, hl]
      simp only [List.mem_cons, List.not_mem_nil, or_false] at hn
      show n < 10 + 1; omega
    · show ((w_fi ws (n_v (vs ++ [Value.int x]) 3) 12 = 1) → (w_fi ws (n_v (vs ++ [Value.int x]) 3) 11 ≤ (w_fi ws (n_v (vs ++ [Value.int x]) 3) 15 + 8))) ∧ ((w_fi ws (n_v (vs ++ [Value.int x]) 3) 12 = 0) ∨ ((w_fi ws (n_v (vs ++ [Value.int x]) 3) 15 + 1) ≤ w_fi ws (n_v (vs ++ [Value.int x]) 3) 11))
      rw [e_3]
      rw [q3]
      first | omega | grind
  have nf3 : fc_1 (20, [3], [50, 1, 1, 5, 2, 0, 2, 0, 1, 3, 0, 2, 4, 3, 2, 0, 5, 0, 2]) ws (vs ++ [Value.int x]) := by
    refine ⟨fun n hn => ?_, ?_⟩
    · have hn : n ∈ [3] := hn
      rw [List.length_append, hl]
      simp only [List.mem_cons, List.not_mem_nil, or_false] at hn
      show n < 10 + 1; omega
    · show 1 ≤ w_ei ws (w_ar ws (n_v (vs ++ [Value.int x]) 3) 2) ((w_fi ws (n_v (vs ++ [Value.int x]) 3) 5 + 2))
      rw [e_3]
      rw [q3]
      first | omega | grind
  have nf4 : fc_1 (24, [0, 3], []) ws (vs ++ [Value.int x]) := by
    refine ⟨fun n hn => ?_, ?_⟩
    · have hn : n ∈ [0, 3] := hn
      rw [List.length_append, hl]
      simp only [List.mem_cons, List.not_mem_nil, or_false] at hn
      show n < 10 + 1; omega
    · show n_v (vs ++ [Value.int x]) 0 = n_v (vs ++ [Value.int x]) 3
      first | rfl | simp only [e_0, e_3, q3]
  have nf5 : fc_1 (20, [10, 3, 3], [30, 2005, 1, 0, 0, 1, 1, 11, 1, 1, 8]) ws (vs ++ [Value.int x]) := by
    refine ⟨fun n hn => ?_, ?_⟩
    · have hn : n ∈ [10, 3, 3] := hn
      rw [List.length_append, hl]
      simp only [List.mem_cons, List.not_mem_nil, or_false] at hn
      show n < 10 + 1; omega
    · show 1 * v_iv (n_v (vs ++ [Value.int x]) 10) + (1 * w_fi ws (n_v (vs ++ [Value.int x]) 3) 11 + (1 * w_fi ws (n_v (vs ++ [Value.int x]) 3) 8 + 0)) ≤ 2005
      rw [e_3]
      rw [e_10]
      rw [q3]
      omega
  have nf6 : fc_1 (20, [10, 3, 3], [30, -2005, -1, 0, 0, -1, 1, 11, -1, 1, 8]) ws (vs ++ [Value.int x]) := by
    refine ⟨fun n hn => ?_, ?_⟩
    · have hn : n ∈ [10, 3, 3] := hn
      rw [List.length_append, hl]
      simp only [List.mem_cons, List.not_mem_nil, or_false] at hn
      show n < 10 + 1; omega
    · show (-1) * v_iv (n_v (vs ++ [Value.int x]) 10) + ((-1) * w_fi ws (n_v (vs ++ [Value.int x]) 3) 11 + ((-1) * w_fi ws (n_v (vs ++ [Value.int x]) 3) 8 + 0)) ≤ (-2005)
      rw [e_3]
      rw [e_10]
      rw [q3]
      omega
  exact ⟨(fun _ h => (by cases h)), [Value.int x], ag_one hx, List.forall_mem_cons.mpr ⟨⟨show (20 : Nat) < 100 from by decide, nf0⟩, List.forall_mem_cons.mpr ⟨⟨show (20 : Nat) < 100 from by decide, nf1⟩, List.forall_mem_cons.mpr ⟨⟨show (20 : Nat) < 100 from by decide, nf2⟩, List.forall_mem_cons.mpr ⟨⟨show (20 : Nat) < 100 from by decide, nf3⟩, List.forall_mem_cons.mpr ⟨⟨show (24 : Nat) < 100 from by decide, nf4⟩, List.forall_mem_cons.mpr ⟨⟨show (20 : Nat) < 100 from by decide, nf5⟩, List.forall_mem_cons.mpr ⟨⟨show (20 : Nat) < 100 from by decide, nf6⟩, (fun _ h => (by cases h))⟩⟩⟩⟩⟩⟩⟩, (fun _ h => (by cases h))⟩
def o_Mo_read_4 : or_T := (81, 13, [(6, (0, 0, 538, [])), (10, (5, 0, 66297, [539])), (11, (0, 0, 66835, [])), (12, (0, -1, 255, [])), (9, (2, 0, 0, [152]))], [(10, [12, 9, 11], []), (1, [11, 10, 6], [])], [], [], [(18, [6, 12], [1])], [], [(11, 6, 0, 66297), (11, 10, 0, 538)])
theorem oo_Mo_read_4 {kA : Nat → ClassId} : or_ok kA GG o_Mo_read_4 := by
  intro A ta ws vs hD hth hl hk hds hf
  have hl : vs.length = 13 := hl
  have hk : ∀ q ∈ ([(6, (0, 0, 538, [])), (10, (5, 0, 66297, [539])), (11, (0, 0, 66835, [])), (12, (0, -1, 255, [])), (9, (2, 0, 0, [152]))] : List (Nat × tv_T)), tv_ok ta q.2 (n_v vs q.1) := hk
  obtain ⟨t6, hk⟩ := List.forall_mem_cons.mp hk
  have t6 : tv_ok ta (0, 0, 538, []) (n_v vs 6) := t6
  have k6 : 0 ≤ v_iv (n_v vs 6) ∧ v_iv (n_v vs 6) ≤ 538 := tv_rng t6
  obtain ⟨t10, hk⟩ := List.forall_mem_cons.mp hk
  have t10 : tv_ok ta (5, 0, 66297, [539]) (n_v vs 10) := t10
  obtain ⟨k10, q10_⟩ : (0 ≤ v_iv (n_v vs 10) ∧ v_iv (n_v vs 10) ≤ 66297) ∧ ∃ q : Int, v_iv (n_v vs 10) = 539 * q := tv_dvk t10
  obtain ⟨q10, hq10⟩ := q10_
  obtain ⟨t11, hk⟩ := List.forall_mem_cons.mp hk
  have t11 : tv_ok ta (0, 0, 66835, []) (n_v vs 11) := t11
  have k11 : 0 ≤ v_iv (n_v vs 11) ∧ v_iv (n_v vs 11) ≤ 66835 := tv_rng t11
  obtain ⟨t12, hk⟩ := List.forall_mem_cons.mp hk
  have t12 : tv_ok ta (0, -1, 255, []) (n_v vs 12) := t12
  have k12 : (-1) ≤ v_iv (n_v vs 12) ∧ v_iv (n_v vs 12) ≤ 255 := tv_rng t12
  obtain ⟨t9, hk⟩ := List.forall_mem_cons.mp hk
  have t9 : tv_ok ta (2, 0, 0, [152]) (n_v vs 9) := t9
  have r9 : ta (v_ad (n_v vs 9)) = some 152 := tv_rg t9
  have hds : ∀ q ∈ ([(11, 6, 0, 66297), (11, 10, 0, 538)] : List of_T), n_iv vs q.2.1 + q.2.2.1 ≤ n_iv vs q.1 ∧ n_iv vs q.1 ≤ n_iv vs q.2.1 + q.2.2.2 := hds
  obtain ⟨d0, hds⟩ := List.forall_mem_cons.mp hds
  have d0 : v_iv (n_v vs 6) + 0 ≤ v_iv (n_v vs 11) ∧ v_iv (n_v vs 11) ≤ v_iv (n_v vs 6) + 66297 := d0
  obtain ⟨d1, hds⟩ := List.forall_mem_cons.mp hds
  have d1 : v_iv (n_v vs 10) + 0 ≤ v_iv (n_v vs 11) ∧ v_iv (n_v vs 11) ≤ v_iv (n_v vs 10) + 538 := d1
  have hf : fc_ok [(10, [12, 9, 11], []), (1, [11, 10, 6], [])] ta ws vs := hf
  obtain ⟨f0, hf⟩ := fc_un (show (10 : Nat) < 100 from by decide) hf
  have f0 : v_iv (n_v vs 12) = w_el ws (v_ad (n_v vs 9)) (v_iv (n_v vs 11)).toNat := f0
  obtain ⟨f1, hf⟩ := fc_un (show (1 : Nat) < 100 from by decide) hf
  have f1 : v_iv (n_v vs 11) = v_iv (n_v vs 10) + v_iv (n_v vs 6) := f1
  have nf0 : fc_1 (18, [6, 12], [1]) ws (vs) := by
    refine ⟨fun n hn => ?_, ?_⟩
    · have hn : n ∈ [6, 12] := hn
      rw [hl]
      simp only [List.mem_cons, List.not_mem_nil, or_false] at hn
      show n < 13; omega
    · show pl_ok 1 (v_iv (n_v vs 6)).toNat (v_iv (n_v vs 12))
      have e0 := pl_cp hD hth r9 (g := GG_152) rfl rfl rfl pl_M1 (i := (v_iv (n_v vs 11)).toNat) (j := (v_iv (n_v vs 6)).toNat) (by show (v_iv (n_v vs 11)).toNat < 66836; omega) (by omega)
      rw [← f0] at e0
      exact e0
  refine ⟨(fun _ h => (by cases h)), [], trivial, ?_, (fun _ h => (by cases h))⟩
  rw [List.append_nil]
  exact List.forall_mem_cons.mpr ⟨⟨show (18 : Nat) < 100 from by decide, nf0⟩, (fun _ h => (by cases h))⟩
def o_Mo_read_5 : or_T := (180, 14, [(0, (2, 0, 0, [150])), (3, (2, 0, 0, [150])), (4, (0, 0, 3, [])), (7, (0, 0, 2005, [])), (8, (0, 0, 0, [])), (9, (0, 0, 0, [])), (10, (2, 0, 0, [153])), (11, (0, 0, 0, [])), (12, (2, 0, 0, [154])), (13, (0, 0, 0, []))], [(20, [3, 3], [30, 0, 1, 1, 15, -1, 1, 11]), (20, [3], [50, 3, 0, 12, 11, 15, 2, 21, 4, 7, 1, 3, 2, 0, 12, 0, 1, 0, 3, 2, 0, 11, 4, 3, 2, 0, 15, 0, 8, 3, 7, 1, 3, 2, 0, 12, 0, 0, 0, 7, 4, 3, 2, 0, 15, 0, 1, 2, 0, 11]), (20, [3], [50, 1, 1, 5, 2, 0, 2, 0, 1, 3, 0, 2, 4, 3, 2, 0, 5, 0, 2]), (24, [0, 3], []), (20, [7, 3, 3], [30, 2005, 1, 0, 0, 1, 1, 11, 1, 1, 8]), (20, [7, 3, 3], [30, -2005, -1, 0, 0, -1, 1, 11, -1, 1, 8]), (100, [12, 4, 13], []), (9, [12, 3], [4]), (20, [3, 3], [30, 0, 1, 1, 15, -1, 1, 11]), (20, [3], [50, 3, 0, 12, 11, 15, 2, 21, 4, 7, 1, 3, 2, 0, 12, 0, 1, 0, 3, 2, 0, 11, 4, 3, 2, 0, 15, 0, 8, 3, 7, 1, 3, 2, 0, 12, 0, 0, 0, 7, 4, 3, 2, 0, 15, 0, 1, 2, 0, 11]), (20, [3], [50, 1, 1, 5, 2, 0, 2, 0, 1, 3, 0, 2, 4, 3, 2, 0, 5, 0, 2]), (20, [7, 3, 3], [30, 2005, 1, 0, 0, 1, 1, 11, 1, 1, 8]), (20, [7, 3, 3], [30, -2005, -1, 0, 0, -1, 1, 11, -1, 1, 8]), (100, [10, 4, 11], []), (9, [10, 3], [3]), (8, [8], [5]), (9, [8, 3], [8]), (8, [9], [0]), (9, [9, 3], [12]), (8, [8], [0]), (20, [3], [50, 0, 2, 3, 4, 5, 2, 0, 4, 0, 5, 3, 0, 3, 7, 0, 3, 0, 4, 7, 0]), (20, [3, 3], [30, 0, 1, 1, 15, -1, 1, 11]), (20, [3], [50, 3, 0, 12, 11, 15, 2, 21, 4, 7, 1, 3, 2, 0, 12, 0, 1, 0, 3, 2, 0, 11, 4, 3, 2, 0, 15, 0, 8, 3, 7, 1, 3, 2, 0, 12, 0, 0, 0, 7, 4, 3, 2, 0, 15, 0, 1, 2, 0, 11]), (20, [3], [50, 1, 1, 5, 2, 0, 2, 0, 1, 3, 0, 2, 4, 3, 2, 0, 5, 0, 2]), (20, [7, 3, 3], [30, 2005, 1, 0, 0, 1, 1, 11, 1, 1, 8]), (20, [7, 3, 3], [30, -2005, -1, 0, 0, -1, 1, 11, -1, 1, 8])], [], [], [(20, [3], [50, 0, 2, 3, 4, 5, 2, 0, 4, 0, 5, 3, 0, 3, 7, 0, 3, 0, 4, 7, 0])], [], [])
theorem oo_Mo_read_5 {kA : Nat → ClassId} : or_ok kA GG o_Mo_read_5 := by
  intro A ta ws vs hD hth hl hk hds hf
  have hl : vs.length = 14 := hl
  have hk : ∀ q ∈ ([(0, (2, 0, 0, [150])), (3, (2, 0, 0, [150])), (4, (0, 0, 3, [])), (7, (0, 0, 2005, [])), (8, (0, 0, 0, [])), (9, (0, 0, 0, [])), (10, (2, 0, 0, [153])), (11, (0, 0, 0, [])), (12, (2, 0, 0, [154])), (13, (0, 0, 0, []))] : List (Nat × tv_T)), tv_ok ta q.2 (n_v vs q.1) := hk
  obtain ⟨t0, hk⟩ := List.forall_mem_cons.mp hk
  have t0 : tv_ok ta (2, 0, 0, [150]) (n_v vs 0) := t0
  have r0 : ta (v_ad (n_v vs 0)) = some 150 := tv_rg t0
  obtain ⟨t3, hk⟩ := List.forall_mem_cons.mp hk
  have t3 : tv_ok ta (2, 0, 0, [150]) (n_v vs 3) := t3
  have r3 : ta (v_ad (n_v vs 3)) = some 150 := tv_rg t3
  obtain ⟨t4, hk⟩ := List.forall_mem_cons.mp hk
  have t4 : tv_ok ta (0, 0, 3, []) (n_v vs 4) := t4
  have k4 : 0 ≤ v_iv (n_v vs 4) ∧ v_iv (n_v vs 4) ≤ 3 := tv_rng t4
  obtain ⟨t7, hk⟩ := List.forall_mem_cons.mp hk
  have t7 : tv_ok ta (0, 0, 2005, []) (n_v vs 7) := t7
  have k7 : 0 ≤ v_iv (n_v vs 7) ∧ v_iv (n_v vs 7) ≤ 2005 := tv_rng t7
  obtain ⟨t8, hk⟩ := List.forall_mem_cons.mp hk
  have t8 : tv_ok ta (0, 0, 0, []) (n_v vs 8) := t8
  have k8 : 0 ≤ v_iv (n_v vs 8) ∧ v_iv (n_v vs 8) ≤ 0 := tv_rng t8
  obtain ⟨t9, hk⟩ := List.forall_mem_cons.mp hk
  have t9 : tv_ok ta (0, 0, 0, []) (n_v vs 9) := t9
  have k9 : 0 ≤ v_iv (n_v vs 9) ∧ v_iv (n_v vs 9) ≤ 0 := tv_rng t9
  obtain ⟨t10, hk⟩ := List.forall_mem_cons.mp hk
  have t10 : tv_ok ta (2, 0, 0, [153]) (n_v vs 10) := t10
  have r10 : ta (v_ad (n_v vs 10)) = some 153 := tv_rg t10
  obtain ⟨t11, hk⟩ := List.forall_mem_cons.mp hk
  have t11 : tv_ok ta (0, 0, 0, []) (n_v vs 11) := t11
  have k11 : 0 ≤ v_iv (n_v vs 11) ∧ v_iv (n_v vs 11) ≤ 0 := tv_rng t11
  obtain ⟨t12, hk⟩ := List.forall_mem_cons.mp hk
  have t12 : tv_ok ta (2, 0, 0, [154]) (n_v vs 12) := t12
  have r12 : ta (v_ad (n_v vs 12)) = some 154 := tv_rg t12
  obtain ⟨t13, hk⟩ := List.forall_mem_cons.mp hk
  have t13 : tv_ok ta (0, 0, 0, []) (n_v vs 13) := t13
  have k13 : 0 ≤ v_iv (n_v vs 13) ∧ v_iv (n_v vs 13) ≤ 0 := tv_rng t13
  have hf : fc_ok [(20, [3, 3], [30, 0, 1, 1, 15, -1, 1, 11]), (20, [3], [50, 3, 0, 12, 11, 15, 2, 21, 4, 7, 1, 3, 2, 0, 12, 0, 1, 0, 3, 2, 0, 11, 4, 3, 2, 0, 15, 0, 8, 3, 7, 1, 3, 2, 0, 12, 0, 0, 0, 7, 4, 3, 2, 0, 15, 0, 1, 2, 0, 11]), (20, [3], [50, 1, 1, 5, 2, 0, 2, 0, 1, 3, 0, 2, 4, 3, 2, 0, 5, 0, 2]), (24, [0, 3], []), (20, [7, 3, 3], [30, 2005, 1, 0, 0, 1, 1, 11, 1, 1, 8]), (20, [7, 3, 3], [30, -2005, -1, 0, 0, -1, 1, 11, -1, 1, 8]), (100, [12, 4, 13], []), (9, [12, 3], [4]), (20, [3, 3], [30, 0, 1, 1, 15, -1, 1, 11]), (20, [3], [50, 3, 0, 12, 11, 15, 2, 21, 4, 7, 1, 3, 2, 0, 12, 0, 1, 0, 3, 2, 0, 11, 4, 3, 2, 0, 15, 0, 8, 3, 7, 1, 3, 2, 0, 12, 0, 0, 0, 7, 4, 3, 2, 0, 15, 0, 1, 2, 0, 11]), (20, [3], [50, 1, 1, 5, 2, 0, 2, 0, 1, 3, 0, 2, 4, 3, 2, 0, 5, 0, 2]), (20, [7, 3, 3], [30, 2005, 1, 0, 0, 1, 1, 11, 1, 1, 8]), (20, [7, 3, 3], [30, -2005, -1, 0, 0, -1, 1, 11, -1, 1, 8]), (100, [10, 4, 11], []), (9, [10, 3], [3]), (8, [8], [5]), (9, [8, 3], [8]), (8, [9], [0]), (9, [9, 3], [12]), (8, [8], [0]), (20, [3], [50, 0, 2, 3, 4, 5, 2, 0, 4, 0, 5, 3, 0, 3, 7, 0, 3, 0, 4, 7, 0]), (20, [3, 3], [30, 0, 1, 1, 15, -1, 1, 11]), (20, [3], [50, 3, 0, 12, 11, 15, 2, 21, 4, 7, 1, 3, 2, 0, 12, 0, 1, 0, 3, 2, 0, 11, 4, 3, 2, 0, 15, 0, 8, 3, 7, 1, 3, 2, 0, 12, 0, 0, 0, 7, 4, 3, 2, 0, 15, 0, 1, 2, 0, 11]), (20, [3], [50, 1, 1, 5, 2, 0, 2, 0, 1, 3, 0, 2, 4, 3, 2, 0, 5, 0, 2]), (20, [7, 3, 3], [30, 2005, 1, 0, 0, 1, 1, 11, 1, 1, 8]), (20, [7, 3, 3], [30, -2005, -1, 0, 0, -1, 1, 11, -1, 1, 8])] ta ws vs := hf
  obtain ⟨f0, hf⟩ := fc_un (show (20 : Nat) < 100 from by decide) hf
  have f0 : 1 * w_fi ws (n_v vs 3) 15 + ((-1) * w_fi ws (n_v vs 3) 11 + 0) ≤ 0 := f0
  obtain ⟨f1, hf⟩ := fc_un (show (20 : Nat) < 100 from by decide) hf
  have f1 : ((w_fi ws (n_v vs 3) 12 = 1) → (w_fi ws (n_v vs 3) 11 ≤ (w_fi ws (n_v vs 3) 15 + 8))) ∧ ((w_fi ws (n_v vs 3) 12 = 0) ∨ ((w_fi ws (n_v vs 3) 15 + 1) ≤ w_fi ws (n_v vs 3) 11)) := f1
  obtain ⟨f2, hf⟩ := fc_un (show (20 : Nat) < 100 from by decide) hf
  have f2 : 1 ≤ w_ei ws (w_ar ws (n_v vs 3) 2) ((w_fi ws (n_v vs 3) 5 + 2)) := f2
  obtain ⟨f3, hf⟩ := fc_un (show (24 : Nat) < 100 from by decide) hf
  have f3 : n_v vs 0 = n_v vs 3 := f3
  obtain ⟨f4, hf⟩ := fc_un (show (20 : Nat) < 100 from by decide) hf
  have f4 : 1 * v_iv (n_v vs 7) + (1 * w_fi ws (n_v vs 3) 11 + (1 * w_fi ws (n_v vs 3) 8 + 0)) ≤ 2005 := f4
  obtain ⟨f5, hf⟩ := fc_un (show (20 : Nat) < 100 from by decide) hf
  have f5 : (-1) * v_iv (n_v vs 7) + ((-1) * w_fi ws (n_v vs 3) 11 + ((-1) * w_fi ws (n_v vs 3) 8 + 0)) ≤ (-2005) := f5
  obtain ⟨ta1, w1, le1, ⟨_, s1⟩, hf⟩ := fc_us (show ¬ (100 : Nat) < 100 from by decide) hf
  have s1 : (∀ b j, w_el ws b j = if b = v_ad (n_v vs 12) ∧ j = (v_iv (n_v vs 4)).toNat then v_iv (n_v vs 13) else w_el w1 b j) ∧ ∀ b k, w_fd ws b k = w_fd w1 b k := s1
  obtain ⟨f7, hf⟩ := fc_un (show (9 : Nat) < 100 from by decide) hf
  have f7 : n_v vs 12 = w_fd w1 (v_ad (n_v vs 3)) 4 := f7
  obtain ⟨f8, hf⟩ := fc_un (show (20 : Nat) < 100 from by decide) hf
  have f8 : 1 * w_fi w1 (n_v vs 3) 15 + ((-1) * w_fi w1 (n_v vs 3) 11 + 0) ≤ 0 := f8
  obtain ⟨f9, hf⟩ := fc_un (show (20 : Nat) < 100 from by decide) hf
  have f9 : ((w_fi w1 (n_v vs 3) 12 = 1) → (w_fi w1 (n_v vs 3) 11 ≤ (w_fi w1 (n_v vs 3) 15 + 8))) ∧ ((w_fi w1 (n_v vs 3) 12 = 0) ∨ ((w_fi w1 (n_v vs 3) 15 + 1) ≤ w_fi w1 (n_v vs 3) 11)) := f9
  obtain ⟨f10, hf⟩ := fc_un (show (20 : Nat) < 100 from by decide) hf
  have f10 : 1 ≤ w_ei w1 (w_ar w1 (n_v vs 3) 2) ((w_fi w1 (n_v vs 3) 5 + 2)) := f10
  obtain ⟨f11, hf⟩ := fc_un (show (20 : Nat) < 100 from by decide) hf
  have f11 : 1 * v_iv (n_v vs 7) + (1 * w_fi w1 (n_v vs 3) 11 + (1 * w_fi w1 (n_v vs 3) 8 + 0)) ≤ 2005 := f11
  obtain ⟨f12, hf⟩ := fc_un (show (20 : Nat) < 100 from by decide) hf
  have f12 : (-1) * v_iv (n_v vs 7) + ((-1) * w_fi w1 (n_v vs 3) 11 + ((-1) * w_fi w1 (n_v vs 3) 8 + 0)) ≤ (-2005) := f12
  obtain ⟨ta2, w2, le2, ⟨_, s2⟩, hf⟩ := fc_us (show ¬ (100 : Nat) < 100 from by decide) hf
  have s2 : (∀ b j, w_el w1 b j = if b = v_ad (n_v vs 10) ∧ j = (v_iv (n_v vs 4)).toNat then v_iv (n_v vs 11) else w_el w2 b j) ∧ ∀ b k, w_fd w1 b k = w_fd w2 b k := s2
  obtain ⟨f14, hf⟩ := fc_un (show (9 : Nat) < 100 from by decide) hf
  have f14 : n_v vs 10 = w_fd w2 (v_ad (n_v vs 3)) 3 := f14
  obtain ⟨f15, hf⟩ := fc_un (show (8 : Nat) < 100 from by decide) hf
  have f15 : v_iv (n_v vs 8) ≤ 0 := f15
  obtain ⟨f16, hf⟩ := fc_un (show (9 : Nat) < 100 from by decide) hf
  have f16 : n_v vs 8 = w_fd w2 (v_ad (n_v vs 3)) 8 := f16
  obtain ⟨f17, hf⟩ := fc_un (show (8 : Nat) < 100 from by decide) hf
  have f17 : v_iv (n_v vs 9) = 0 := f17
  obtain ⟨f18, hf⟩ := fc_un (show (9 : Nat) < 100 from by decide) hf
  have f18 : n_v vs 9 = w_fd w2 (v_ad (n_v vs 3)) 12 := f18
  obtain ⟨f19, hf⟩ := fc_un (show (8 : Nat) < 100 from by decide) hf
  have f19 : v_iv (n_v vs 8) = 0 := f19
  obtain ⟨f20, hf⟩ := fc_un (show (20 : Nat) < 100 from by decide) hf
  have f20 : ∀ j0 : Int, 0 ≤ j0 → j0 < 4 → (w_ei w2 (w_ar w2 (n_v vs 3) 3) (j0) ≤ w_ei w2 (w_ar w2 (n_v vs 3) 4) (j0)) := f20
  obtain ⟨f21, hf⟩ := fc_un (show (20 : Nat) < 100 from by decide) hf
  have f21 : 1 * w_fi w2 (n_v vs 3) 15 + ((-1) * w_fi w2 (n_v vs 3) 11 + 0) ≤ 0 := f21
  obtain ⟨f22, hf⟩ := fc_un (show (20 : Nat) < 100 from by decide) hf
  have f22 : ((w_fi w2 (n_v vs 3) 12 = 1) → (w_fi w2 (n_v vs 3) 11 ≤ (w_fi w2 (n_v vs 3) 15 + 8))) ∧ ((w_fi w2 (n_v vs 3) 12 = 0) ∨ ((w_fi w2 (n_v vs 3) 15 + 1) ≤ w_fi w2 (n_v vs 3) 11)) := f22
  obtain ⟨f23, hf⟩ := fc_un (show (20 : Nat) < 100 from by decide) hf
  have f23 : 1 ≤ w_ei w2 (w_ar w2 (n_v vs 3) 2) ((w_fi w2 (n_v vs 3) 5 + 2)) := f23
  obtain ⟨f24, hf⟩ := fc_un (show (20 : Nat) < 100 from by decide) hf
  have f24 : 1 * v_iv (n_v vs 7) + (1 * w_fi w2 (n_v vs 3) 11 + (1 * w_fi w2 (n_v vs 3) 8 + 0)) ≤ 2005 := f24
  obtain ⟨f25, hf⟩ := fc_un (show (20 : Nat) < 100 from by decide) hf
  have f25 : (-1) * v_iv (n_v vs 7) + ((-1) * w_fi w2 (n_v vs 3) 11 + ((-1) * w_fi w2 (n_v vs 3) 8 + 0)) ≤ (-2005) := f25
  have q3 : n_v vs 3 = n_v vs 0 := f3.symm
  rw [q3] at f0
  rw [q3] at f1
  rw [q3] at f2
  rw [q3] at f4
  rw [q3] at f5
  rw [q3] at f7
  rw [q3] at f8
  rw [q3] at f9
  rw [q3] at f10
  rw [q3] at f11
  rw [q3] at f12
  rw [q3] at f14
  rw [q3] at f16
  rw [q3] at f18
  rw [q3] at f20
  rw [q3] at f21
  rw [q3] at f22
  rw [q3] at f23
  rw [q3] at f24
  rw [q3] at f25
  have ar_0_2_1 : w_ar w1 (n_v vs 0) 2 = w_ar ws (n_v vs 0) 2 := by show v_ad (w_fd w1 _ _) = v_ad (w_fd ws _ _); rw [s1.2]
  have ar_0_2_2 : w_ar w2 (n_v vs 0) 2 = w_ar ws (n_v vs 0) 2 := by rw [← ar_0_2_1]; show v_ad (w_fd w2 _ _) = v_ad (w_fd w1 _ _); rw [s2.2]
  have cr_0_2 : ta (w_ar ws (n_v vs 0) 2) = some 152 := tv_rg (th_fd hD hth r0 (g := GG_150) rfl (k := 2) (t := (2, 0, 0, [152])) rfl rfl)
  have ar_0_3_1 : w_ar w1 (n_v vs 0) 3 = w_ar ws (n_v vs 0) 3 := by show v_ad (w_fd w1 _ _) = v_ad (w_fd ws _ _); rw [s1.2]
  have ar_0_3_2 : w_ar w2 (n_v vs 0) 3 = w_ar ws (n_v vs 0) 3 := by rw [← ar_0_3_1]; show v_ad (w_fd w2 _ _) = v_ad (w_fd w1 _ _); rw [s2.2]
  have cr_0_3 : ta (w_ar ws (n_v vs 0) 3) = some 153 := tv_rg (th_fd hD hth r0 (g := GG_150) rfl (k := 3) (t := (2, 0, 0, [153])) rfl rfl)
  have ar_0_4_1 : w_ar w1 (n_v vs 0) 4 = w_ar ws (n_v vs 0) 4 := by show v_ad (w_fd w1 _ _) = v_ad (w_fd ws _ _); rw [s1.2]
  have ar_0_4_2 : w_ar w2 (n_v vs 0) 4 = w_ar ws (n_v vs 0) 4 := by rw [← ar_0_4_1]; show v_ad (w_fd w2 _ _) = v_ad (w_fd w1 _ _); rw [s2.2]
  have cr_0_4 : ta (w_ar ws (n_v vs 0) 4) = some 154 := tv_rg (th_fd hD hth r0 (g := GG_150) rfl (k := 4) (t := (2, 0, 0, [154])) rfl rfl)
  have ad_12 : v_ad (n_v vs 12) = w_ar ws (n_v vs 0) 4 := (congrArg v_ad f7).trans ar_0_4_1
  have ad_10 : v_ad (n_v vs 10) = w_ar ws (n_v vs 0) 3 := (congrArg v_ad f14).trans ar_0_3_2
  rw [ar_0_2_1] at f10
  have g16 : v_iv (n_v vs 8) = w_fi w2 (n_v vs 0) 8 := congrArg v_iv f16
  have g18 : v_iv (n_v vs 9) = w_fi w2 (n_v vs 0) 12 := congrArg v_iv f18
  rw [ar_0_3_2] at f20
  rw [ar_0_4_2] at f20
  rw [ar_0_2_2] at f23
  have fe_0_5_1 : w_fi ws (n_v vs 0) 5 = w_fi w1 (n_v vs 0) 5 := congrArg v_iv (s1.2 _ _)
  have fe_0_8_1 : w_fi ws (n_v vs 0) 8 = w_fi w1 (n_v vs 0) 8 := congrArg v_iv (s1.2 _ _)
  have fe_0_11_1 : w_fi ws (n_v vs 0) 11 = w_fi w1 (n_v vs 0) 11 := congrArg v_iv (s1.2 _ _)
  have fe_0_12_1 : w_fi ws (n_v vs 0) 12 = w_fi w1 (n_v vs 0) 12 := congrArg v_iv (s1.2 _ _)
  have fe_0_15_1 : w_fi ws (n_v vs 0) 15 = w_fi w1 (n_v vs 0) 15 := congrArg v_iv (s1.2 _ _)
  have fe_0_5_2 : w_fi w1 (n_v vs 0) 5 = w_fi w2 (n_v vs 0) 5 := congrArg v_iv (s2.2 _ _)
  have fe_0_8_2 : w_fi w1 (n_v vs 0) 8 = w_fi w2 (n_v vs 0) 8 := congrArg v_iv (s2.2 _ _)
  have fe_0_11_2 : w_fi w1 (n_v vs 0) 11 = w_fi w2 (n_v vs 0) 11 := congrArg v_iv (s2.2 _ _)
  have fe_0_12_2 : w_fi w1 (n_v vs 0) 12 = w_fi w2 (n_v vs 0) 12 := congrArg v_iv (s2.2 _ _)
  have fe_0_15_2 : w_fi w1 (n_v vs 0) 15 = w_fi w2 (n_v vs 0) 15 := congrArg v_iv (s2.2 _ _)
  have hE_0_2_1 : ∀ j : Int, w_ei ws (w_ar ws (n_v vs 0) 2) j = w_ei w1 (w_ar ws (n_v vs 0) 2) j := fun j => by unfold w_ei; rw [s1.1, if_neg (fun e => by have e1 := e.1; rw [← e1] at r12; rw [cr_0_2] at r12; exact absurd (Option.some.inj r12) (by decide))]
  have hE_0_2_2 : ∀ j : Int, w_ei w1 (w_ar ws (n_v vs 0) 2) j = w_ei w2 (w_ar ws (n_v vs 0) 2) j := fun j => by unfold w_ei; rw [s2.1, if_neg (fun e => by have e1 := e.1; rw [← e1] at r10; rw [cr_0_2] at r10; exact absurd (Option.some.inj r10) (by decide))]
  have hE_0_3_1 : ∀ j : Int, w_ei ws (w_ar ws (n_v vs 0) 3) j = w_ei w1 (w_ar ws (n_v vs 0) 3) j := fun j => by unfold w_ei; rw [s1.1, if_neg (fun e => by have e1 := e.1; rw [← e1] at r12; rw [cr_0_3] at r12; exact absurd (Option.some.inj r12) (by decide))]
  have hE_0_3_2 : ∀ j : Int, 0 ≤ j → (j = v_iv (n_v vs 4) → w_ei w1 (w_ar ws (n_v vs 0) 3) j = v_iv (n_v vs 11)) ∧ (j ≠ v_iv (n_v vs 4) → w_ei w1 (w_ar ws (n_v vs 0) 3) j = w_ei w2 (w_ar ws (n_v vs 0) 3) j) := fun j hj => ⟨fun h => by unfold w_ei; rw [s2.1, if_pos ⟨ad_10.symm, by rw [h]⟩], fun h => by unfold w_ei; rw [s2.1, if_neg (fun e => h (by have := e.2; omega))]⟩
  have hK_0_3 : ∀ j : Int, 0 ≤ j → j < 4 → 0 ≤ w_ei ws (w_ar ws (n_v vs 0) 3) j ∧ w_ei ws (w_ar ws (n_v vs 0) 3) j ≤ 30 := fun j h0 h1 => th_el hD hth cr_0_3 (kd := 0) (n := 4) (m := 4) (lo := 0) (hi := 30) (rs := []) (L := []) rfl (by decide) (j := j.toNat) (by omega)
  have hE_0_4_1 : ∀ j : Int, 0 ≤ j → (j = v_iv (n_v vs 4) → w_ei ws (w_ar ws (n_v vs 0) 4) j = v_iv (n_v vs 13)) ∧ (j ≠ v_iv (n_v vs 4) → w_ei ws (w_ar ws (n_v vs 0) 4) j = w_ei w1 (w_ar ws (n_v vs 0) 4) j) := fun j hj => ⟨fun h => by unfold w_ei; rw [s1.1, if_pos ⟨ad_12.symm, by rw [h]⟩], fun h => by unfold w_ei; rw [s1.1, if_neg (fun e => h (by have := e.2; omega))]⟩
  have hE_0_4_2 : ∀ j : Int, w_ei w1 (w_ar ws (n_v vs 0) 4) j = w_ei w2 (w_ar ws (n_v vs 0) 4) j := fun j => by unfold w_ei; rw [s2.1, if_neg (fun e => by have e1 := e.1; rw [← e1] at r10; rw [cr_0_4] at r10; exact absurd (Option.some.inj r10) (by decide))]
  have hK_0_4 : ∀ j : Int, 0 ≤ j → j < 4 → 0 ≤ w_ei ws (w_ar ws (n_v vs 0) 4) j ∧ w_ei ws (w_ar ws (n_v vs 0) 4) j ≤ 30 := fun j h0 h1 => th_el hD hth cr_0_4 (kd := 0) (n := 4) (m := 4) (lo := 0) (hi := 30) (rs := []) (L := []) rfl (by decide) (j := j.toNat) (by omega)
  have kz_0_8 : 0 ≤ w_fi ws (n_v vs 0) 8 ∧ w_fi ws (n_v vs 0) 8 ≤ 5 := tv_rng (th_fd hD hth r0 (g := GG_150) rfl (k := 8) (t := (0, 0, 5, [])) rfl rfl)
  have kz_0_11 : 0 ≤ w_fi ws (n_v vs 0) 11 ∧ w_fi ws (n_v vs 0) 11 ≤ 2000 := tv_rng (th_fd hD hth r0 (g := GG_150) rfl (k := 11) (t := (0, 0, 2000, [])) rfl rfl)
  have kz_0_12 : 0 ≤ w_fi ws (n_v vs 0) 12 ∧ w_fi ws (n_v vs 0) 12 ≤ 4 := tv_rng (th_fd hD hth r0 (g := GG_150) rfl (k := 12) (t := (0, 0, 4, [])) rfl rfl)
  have kz_0_15 : 0 ≤ w_fi ws (n_v vs 0) 15 ∧ w_fi ws (n_v vs 0) 15 ≤ 2000 := tv_rng (th_fd hD hth r0 (g := GG_150) rfl (k := 15) (t := (0, 0, 2000, [])) rfl rfl)
  first | have hJ0 : w_ei w1 (w_ar ws (n_v vs 0) 2) ((w_fi w1 (n_v vs 0) 5 + 2)) = w_ei w1 (w_ar ws (n_v vs 0) 2) ((w_fi ws (n_v vs 0) 5 + 2)) := congrArg _ (show ((w_fi w1 (n_v vs 0) 5 + 2) : Int) = (w_fi ws (n_v vs 0) 5 + 2) from by omega) | skip
  first | have hJ1 : w_ei w2 (w_ar ws (n_v vs 0) 2) ((w_fi w2 (n_v vs 0) 5 + 2)) = w_ei w2 (w_ar ws (n_v vs 0) 2) ((w_fi ws (n_v vs 0) 5 + 2)) := congrArg _ (show ((w_fi w2 (n_v vs 0) 5 + 2) : Int) = (w_fi ws (n_v vs 0) 5 + 2) from by omega) | skip
  have hI2 := hE_0_2_1 ((w_fi ws (n_v vs 0) 5 + 2))
  have hI3 := hE_0_2_2 ((w_fi ws (n_v vs 0) 5 + 2))
  have nf0 : fc_1 (20, [3], [50, 0, 2, 3, 4, 5, 2, 0, 4, 0, 5, 3, 0, 3, 7, 0, 3, 0, 4, 7, 0]) ws (vs) := by
    refine ⟨fun n hn => ?_, ?_⟩
    · have hn : n ∈ [3] := hn
      rw [hl]
      simp only [List.mem_cons, List.not_mem_nil, or_false] at hn
      show n < 14; omega
    · show ∀ j0 : Int, 0 ≤ j0 → j0 < 4 → (w_ei ws (w_ar ws (n_v vs 3) 3) (j0) ≤ w_ei ws (w_ar ws (n_v vs 3) 4) (j0))
      rw [q3]
      first | omega | grind
  refine ⟨(fun _ h => (by cases h)), [], trivial, ?_, (fun _ h => (by cases h))⟩
  rw [List.append_nil]
  exact List.forall_mem_cons.mpr ⟨⟨show (20 : Nat) < 100 from by decide, nf0⟩, (fun _ h => (by cases h))⟩
def o_Mo_read_6 : or_T := (187, 15, [(0, (2, 0, 0, [150])), (3, (2, 0, 0, [150])), (7, (0, 0, 2005, [])), (14, (0, 0, 24, []))], [(20, [14, 3], [30, 0, 1, 0, 0, -1, 3, 2005000]), (20, [14, 3], [30, 0, -1, 0, 0, 1, 3, 2005000]), (20, [3], [50, 0, 2, 3, 4, 5, 2, 0, 4, 0, 5, 3, 0, 3, 7, 0, 3, 0, 4, 7, 0]), (20, [3, 3], [30, 0, 1, 1, 15, -1, 1, 11]), (20, [3], [50, 3, 0, 12, 11, 15, 2, 21, 4, 7, 1, 3, 2, 0, 12, 0, 1, 0, 3, 2, 0, 11, 4, 3, 2, 0, 15, 0, 8, 3, 7, 1, 3, 2, 0, 12, 0, 0, 0, 7, 4, 3, 2, 0, 15, 0, 1, 2, 0, 11]), (20, [3], [50, 1, 1, 5, 2, 0, 2, 0, 1, 3, 0, 2, 4, 3, 2, 0, 5, 0, 2]), (24, [0, 3], []), (20, [7, 3, 3], [30, 2005, 1, 0, 0, 1, 1, 11, 1, 1, 8]), (20, [7, 3, 3], [30, -2005, -1, 0, 0, -1, 1, 11, -1, 1, 8])], [], [], [(20, [0], [50, 0, 2, 3, 4, 5, 2, 0, 4, 0, 5, 3, 0, 3, 7, 0, 3, 0, 4, 7, 0])], [], [])
theorem oo_Mo_read_6 {kA : Nat → ClassId} : or_ok kA GG o_Mo_read_6 := by
  intro A ta ws vs hD hth hl hk hds hf
  have hl : vs.length = 15 := hl
  have hk : ∀ q ∈ ([(0, (2, 0, 0, [150])), (3, (2, 0, 0, [150])), (7, (0, 0, 2005, [])), (14, (0, 0, 24, []))] : List (Nat × tv_T)), tv_ok ta q.2 (n_v vs q.1) := hk
  obtain ⟨t0, hk⟩ := List.forall_mem_cons.mp hk
  have t0 : tv_ok ta (2, 0, 0, [150]) (n_v vs 0) := t0
  have r0 : ta (v_ad (n_v vs 0)) = some 150 := tv_rg t0
  obtain ⟨t3, hk⟩ := List.forall_mem_cons.mp hk
  have t3 : tv_ok ta (2, 0, 0, [150]) (n_v vs 3) := t3
  have r3 : ta (v_ad (n_v vs 3)) = some 150 := tv_rg t3
  obtain ⟨t7, hk⟩ := List.forall_mem_cons.mp hk
  have t7 : tv_ok ta (0, 0, 2005, []) (n_v vs 7) := t7
  have k7 : 0 ≤ v_iv (n_v vs 7) ∧ v_iv (n_v vs 7) ≤ 2005 := tv_rng t7
  obtain ⟨t14, hk⟩ := List.forall_mem_cons.mp hk
  have t14 : tv_ok ta (0, 0, 24, []) (n_v vs 14) := t14
  have k14 : 0 ≤ v_iv (n_v vs 14) ∧ v_iv (n_v vs 14) ≤ 24 := tv_rng t14
  have hf : fc_ok [(20, [14, 3], [30, 0, 1, 0, 0, -1, 3, 2005000]), (20, [14, 3], [30, 0, -1, 0, 0, 1, 3, 2005000]), (20, [3], [50, 0, 2, 3, 4, 5, 2, 0, 4, 0, 5, 3, 0, 3, 7, 0, 3, 0, 4, 7, 0]), (20, [3, 3], [30, 0, 1, 1, 15, -1, 1, 11]), (20, [3], [50, 3, 0, 12, 11, 15, 2, 21, 4, 7, 1, 3, 2, 0, 12, 0, 1, 0, 3, 2, 0, 11, 4, 3, 2, 0, 15, 0, 8, 3, 7, 1, 3, 2, 0, 12, 0, 0, 0, 7, 4, 3, 2, 0, 15, 0, 1, 2, 0, 11]), (20, [3], [50, 1, 1, 5, 2, 0, 2, 0, 1, 3, 0, 2, 4, 3, 2, 0, 5, 0, 2]), (24, [0, 3], []), (20, [7, 3, 3], [30, 2005, 1, 0, 0, 1, 1, 11, 1, 1, 8]), (20, [7, 3, 3], [30, -2005, -1, 0, 0, -1, 1, 11, -1, 1, 8])] ta ws vs := hf
  obtain ⟨f0, hf⟩ := fc_un (show (20 : Nat) < 100 from by decide) hf
  have f0 : 1 * v_iv (n_v vs 14) + ((-1) * w_el ws (w_ar ws (n_v vs 3) 2) (w_fi ws (n_v vs 3) 5 + 0).toNat + 0) ≤ 0 := f0
  obtain ⟨f1, hf⟩ := fc_un (show (20 : Nat) < 100 from by decide) hf
  have f1 : (-1) * v_iv (n_v vs 14) + (1 * w_el ws (w_ar ws (n_v vs 3) 2) (w_fi ws (n_v vs 3) 5 + 0).toNat + 0) ≤ 0 := f1
  obtain ⟨f2, hf⟩ := fc_un (show (20 : Nat) < 100 from by decide) hf
  have f2 : ∀ j0 : Int, 0 ≤ j0 → j0 < 4 → (w_ei ws (w_ar ws (n_v vs 3) 3) (j0) ≤ w_ei ws (w_ar ws (n_v vs 3) 4) (j0)) := f2
  obtain ⟨f3, hf⟩ := fc_un (show (20 : Nat) < 100 from by decide) hf
  have f3 : 1 * w_fi ws (n_v vs 3) 15 + ((-1) * w_fi ws (n_v vs 3) 11 + 0) ≤ 0 := f3
  obtain ⟨f4, hf⟩ := fc_un (show (20 : Nat) < 100 from by decide) hf
  have f4 : ((w_fi ws (n_v vs 3) 12 = 1) → (w_fi ws (n_v vs 3) 11 ≤ (w_fi ws (n_v vs 3) 15 + 8))) ∧ ((w_fi ws (n_v vs 3) 12 = 0) ∨ ((w_fi ws (n_v vs 3) 15 + 1) ≤ w_fi ws (n_v vs 3) 11)) := f4
  obtain ⟨f5, hf⟩ := fc_un (show (20 : Nat) < 100 from by decide) hf
  have f5 : 1 ≤ w_ei ws (w_ar ws (n_v vs 3) 2) ((w_fi ws (n_v vs 3) 5 + 2)) := f5
  obtain ⟨f6, hf⟩ := fc_un (show (24 : Nat) < 100 from by decide) hf
  have f6 : n_v vs 0 = n_v vs 3 := f6
  obtain ⟨f7, hf⟩ := fc_un (show (20 : Nat) < 100 from by decide) hf
  have f7 : 1 * v_iv (n_v vs 7) + (1 * w_fi ws (n_v vs 3) 11 + (1 * w_fi ws (n_v vs 3) 8 + 0)) ≤ 2005 := f7
  obtain ⟨f8, hf⟩ := fc_un (show (20 : Nat) < 100 from by decide) hf
  have f8 : (-1) * v_iv (n_v vs 7) + ((-1) * w_fi ws (n_v vs 3) 11 + ((-1) * w_fi ws (n_v vs 3) 8 + 0)) ≤ (-2005) := f8
  have q3 : n_v vs 3 = n_v vs 0 := f6.symm
  rw [q3] at f0
  rw [q3] at f1
  rw [q3] at f2
  rw [q3] at f3
  rw [q3] at f4
  rw [q3] at f5
  rw [q3] at f7
  rw [q3] at f8
  have cr_0_2 : ta (w_ar ws (n_v vs 0) 2) = some 152 := tv_rg (th_fd hD hth r0 (g := GG_150) rfl (k := 2) (t := (2, 0, 0, [152])) rfl rfl)
  have cr_0_3 : ta (w_ar ws (n_v vs 0) 3) = some 153 := tv_rg (th_fd hD hth r0 (g := GG_150) rfl (k := 3) (t := (2, 0, 0, [153])) rfl rfl)
  have cr_0_4 : ta (w_ar ws (n_v vs 0) 4) = some 154 := tv_rg (th_fd hD hth r0 (g := GG_150) rfl (k := 4) (t := (2, 0, 0, [154])) rfl rfl)
  have br_0_2_F5_0_0 : w_ei ws (w_ar ws (n_v vs 0) 2) (w_fi ws (n_v vs 0) 5 + 0) = w_el ws (w_ar ws (n_v vs 0) 2) (w_fi ws (n_v vs 0) 5 + 0).toNat := rfl
  have hK_0_3 : ∀ j : Int, 0 ≤ j → j < 4 → 0 ≤ w_ei ws (w_ar ws (n_v vs 0) 3) j ∧ w_ei ws (w_ar ws (n_v vs 0) 3) j ≤ 30 := fun j h0 h1 => th_el hD hth cr_0_3 (kd := 0) (n := 4) (m := 4) (lo := 0) (hi := 30) (rs := []) (L := []) rfl (by decide) (j := j.toNat) (by omega)
  have hK_0_4 : ∀ j : Int, 0 ≤ j → j < 4 → 0 ≤ w_ei ws (w_ar ws (n_v vs 0) 4) j ∧ w_ei ws (w_ar ws (n_v vs 0) 4) j ≤ 30 := fun j h0 h1 => th_el hD hth cr_0_4 (kd := 0) (n := 4) (m := 4) (lo := 0) (hi := 30) (rs := []) (L := []) rfl (by decide) (j := j.toNat) (by omega)
  have kz_0_8 : 0 ≤ w_fi ws (n_v vs 0) 8 ∧ w_fi ws (n_v vs 0) 8 ≤ 5 := tv_rng (th_fd hD hth r0 (g := GG_150) rfl (k := 8) (t := (0, 0, 5, [])) rfl rfl)
  have kz_0_11 : 0 ≤ w_fi ws (n_v vs 0) 11 ∧ w_fi ws (n_v vs 0) 11 ≤ 2000 := tv_rng (th_fd hD hth r0 (g := GG_150) rfl (k := 11) (t := (0, 0, 2000, [])) rfl rfl)
  have kz_0_12 : 0 ≤ w_fi ws (n_v vs 0) 12 ∧ w_fi ws (n_v vs 0) 12 ≤ 4 := tv_rng (th_fd hD hth r0 (g := GG_150) rfl (k := 12) (t := (0, 0, 4, [])) rfl rfl)
  have kz_0_15 : 0 ≤ w_fi ws (n_v vs 0) 15 ∧ w_fi ws (n_v vs 0) 15 ≤ 2000 := tv_rng (th_fd hD hth r0 (g := GG_150) rfl (k := 15) (t := (0, 0, 2000, [])) rfl rfl)
  have nf0 : fc_1 (20, [0], [50, 0, 2, 3, 4, 5, 2, 0, 4, 0, 5, 3, 0, 3, 7, 0, 3, 0, 4, 7, 0]) ws (vs) := by
    refine ⟨fun n hn => ?_, ?_⟩
    · have hn : n ∈ [0] := hn
      rw [hl]
      simp only [List.mem_cons, List.not_mem_nil, or_false] at hn
      show n < 15; omega
    · show ∀ j0 : Int, 0 ≤ j0 → j0 < 4 → (w_ei ws (w_ar ws (n_v vs 0) 3) (j0) ≤ w_ei ws (w_ar ws (n_v vs 0) 4) (j0))
      first | omega | grind
  refine ⟨(fun _ h => (by cases h)), [], trivial, ?_, (fun _ h => (by cases h))⟩
  rw [List.append_nil]
  exact List.forall_mem_cons.mpr ⟨⟨show (20 : Nat) < 100 from by decide, nf0⟩, (fun _ h => (by cases h))⟩
def o_Mo_read_7 : or_T := (117, 12, [(0, (2, 0, 0, [150])), (3, (2, 0, 0, [150])), (7, (0, 0, 2005, [])), (8, (0, 0, 0, [])), (9, (0, 1, 4, [])), (10, (0, 0, 0, []))], [(8, [9], [1]), (9, [9, 3], [12]), (8, [8], [0]), (9, [8, 3], [8]), (20, [3], [50, 0, 2, 3, 4, 5, 2, 0, 4, 0, 5, 3, 0, 3, 7, 0, 3, 0, 4, 7, 0]), (20, [3, 3], [30, 0, 1, 1, 15, -1, 1, 11]), (20, [3], [50, 3, 0, 12, 11, 15, 2, 21, 4, 7, 1, 3, 2, 0, 12, 0, 1, 0, 3, 2, 0, 11, 4, 3, 2, 0, 15, 0, 8, 3, 7, 1, 3, 2, 0, 12, 0, 0, 0, 7, 4, 3, 2, 0, 15, 0, 1, 2, 0, 11]), (20, [3], [50, 1, 1, 5, 2, 0, 2, 0, 1, 3, 0, 2, 4, 3, 2, 0, 5, 0, 2]), (24, [0, 3], []), (20, [7, 3, 3], [30, 2005, 1, 0, 0, 1, 1, 11, 1, 1, 8]), (20, [7, 3, 3], [30, -2005, -1, 0, 0, -1, 1, 11, -1, 1, 8])], [], [(0, 0, 2000, [])], [(20, [3, 3], [30, 0, 1, 1, 15, -1, 1, 11]), (20, [3], [50, 3, 0, 12, 11, 15, 2, 21, 4, 7, 1, 3, 2, 0, 12, 0, 1, 0, 3, 2, 0, 11, 4, 3, 2, 0, 15, 0, 8, 3, 7, 1, 3, 2, 0, 12, 0, 0, 0, 7, 4, 3, 2, 0, 15, 0, 1, 2, 0, 11]), (20, [12, 3], [30, 0, 1, 0, 0, -1, 1, 11]), (20, [10, 3], [50, 1, 1, 1005, 1002, 0, 6, 4, 2, 1, 0, 0, 1, 3, 1, 2, 4, 3, 2, 1, 5, 0, 2]), (23, [7, 12], [-2005, -1, -1])], [], [])
theorem oo_Mo_read_7 {kA : Nat → ClassId} : or_ok kA GG o_Mo_read_7 := by
  intro A ta ws vs hD hth hl hk hds hf
  have hl : vs.length = 12 := hl
  have hk : ∀ q ∈ ([(0, (2, 0, 0, [150])), (3, (2, 0, 0, [150])), (7, (0, 0, 2005, [])), (8, (0, 0, 0, [])), (9, (0, 1, 4, [])), (10, (0, 0, 0, []))] : List (Nat × tv_T)), tv_ok ta q.2 (n_v vs q.1) := hk
  obtain ⟨t0, hk⟩ := List.forall_mem_cons.mp hk
  have t0 : tv_ok ta (2, 0, 0, [150]) (n_v vs 0) := t0
  have r0 : ta (v_ad (n_v vs 0)) = some 150 := tv_rg t0
  obtain ⟨t3, hk⟩ := List.forall_mem_cons.mp hk
  have t3 : tv_ok ta (2, 0, 0, [150]) (n_v vs 3) := t3
  have r3 : ta (v_ad (n_v vs 3)) = some 150 := tv_rg t3
  obtain ⟨t7, hk⟩ := List.forall_mem_cons.mp hk
  have t7 : tv_ok ta (0, 0, 2005, []) (n_v vs 7) := t7
  have k7 : 0 ≤ v_iv (n_v vs 7) ∧ v_iv (n_v vs 7) ≤ 2005 := tv_rng t7
  obtain ⟨t8, hk⟩ := List.forall_mem_cons.mp hk
  have t8 : tv_ok ta (0, 0, 0, []) (n_v vs 8) := t8
  have k8 : 0 ≤ v_iv (n_v vs 8) ∧ v_iv (n_v vs 8) ≤ 0 := tv_rng t8
  obtain ⟨t9, hk⟩ := List.forall_mem_cons.mp hk
  have t9 : tv_ok ta (0, 1, 4, []) (n_v vs 9) := t9
  have k9 : 1 ≤ v_iv (n_v vs 9) ∧ v_iv (n_v vs 9) ≤ 4 := tv_rng t9
  obtain ⟨t10, hk⟩ := List.forall_mem_cons.mp hk
  have t10 : tv_ok ta (0, 0, 0, []) (n_v vs 10) := t10
  have k10 : 0 ≤ v_iv (n_v vs 10) ∧ v_iv (n_v vs 10) ≤ 0 := tv_rng t10
  have hf : fc_ok [(8, [9], [1]), (9, [9, 3], [12]), (8, [8], [0]), (9, [8, 3], [8]), (20, [3], [50, 0, 2, 3, 4, 5, 2, 0, 4, 0, 5, 3, 0, 3, 7, 0, 3, 0, 4, 7, 0]), (20, [3, 3], [30, 0, 1, 1, 15, -1, 1, 11]), (20, [3], [50, 3, 0, 12, 11, 15, 2, 21, 4, 7, 1, 3, 2, 0, 12, 0, 1, 0, 3, 2, 0, 11, 4, 3, 2, 0, 15, 0, 8, 3, 7, 1, 3, 2, 0, 12, 0, 0, 0, 7, 4, 3, 2, 0, 15, 0, 1, 2, 0, 11]), (20, [3], [50, 1, 1, 5, 2, 0, 2, 0, 1, 3, 0, 2, 4, 3, 2, 0, 5, 0, 2]), (24, [0, 3], []), (20, [7, 3, 3], [30, 2005, 1, 0, 0, 1, 1, 11, 1, 1, 8]), (20, [7, 3, 3], [30, -2005, -1, 0, 0, -1, 1, 11, -1, 1, 8])] ta ws vs := hf
  obtain ⟨f0, hf⟩ := fc_un (show (8 : Nat) < 100 from by decide) hf
  have f0 : v_iv (n_v vs 9) ≠ 0 := f0
  obtain ⟨f1, hf⟩ := fc_un (show (9 : Nat) < 100 from by decide) hf
  have f1 : n_v vs 9 = w_fd ws (v_ad (n_v vs 3)) 12 := f1
  obtain ⟨f2, hf⟩ := fc_un (show (8 : Nat) < 100 from by decide) hf
  have f2 : v_iv (n_v vs 8) = 0 := f2
  obtain ⟨f3, hf⟩ := fc_un (show (9 : Nat) < 100 from by decide) hf
  have f3 : n_v vs 8 = w_fd ws (v_ad (n_v vs 3)) 8 := f3
  obtain ⟨f4, hf⟩ := fc_un (show (20 : Nat) < 100 from by decide) hf
  have f4 : ∀ j0 : Int, 0 ≤ j0 → j0 < 4 → (w_ei ws (w_ar ws (n_v vs 3) 3) (j0) ≤ w_ei ws (w_ar ws (n_v vs 3) 4) (j0)) := f4
  obtain ⟨f5, hf⟩ := fc_un (show (20 : Nat) < 100 from by decide) hf
  have f5 : 1 * w_fi ws (n_v vs 3) 15 + ((-1) * w_fi ws (n_v vs 3) 11 + 0) ≤ 0 := f5
  obtain ⟨f6, hf⟩ := fc_un (show (20 : Nat) < 100 from by decide) hf
  have f6 : ((w_fi ws (n_v vs 3) 12 = 1) → (w_fi ws (n_v vs 3) 11 ≤ (w_fi ws (n_v vs 3) 15 + 8))) ∧ ((w_fi ws (n_v vs 3) 12 = 0) ∨ ((w_fi ws (n_v vs 3) 15 + 1) ≤ w_fi ws (n_v vs 3) 11)) := f6
  obtain ⟨f7, hf⟩ := fc_un (show (20 : Nat) < 100 from by decide) hf
  have f7 : 1 ≤ w_ei ws (w_ar ws (n_v vs 3) 2) ((w_fi ws (n_v vs 3) 5 + 2)) := f7
  obtain ⟨f8, hf⟩ := fc_un (show (24 : Nat) < 100 from by decide) hf
  have f8 : n_v vs 0 = n_v vs 3 := f8
  obtain ⟨f9, hf⟩ := fc_un (show (20 : Nat) < 100 from by decide) hf
  have f9 : 1 * v_iv (n_v vs 7) + (1 * w_fi ws (n_v vs 3) 11 + (1 * w_fi ws (n_v vs 3) 8 + 0)) ≤ 2005 := f9
  obtain ⟨f10, hf⟩ := fc_un (show (20 : Nat) < 100 from by decide) hf
  have f10 : (-1) * v_iv (n_v vs 7) + ((-1) * w_fi ws (n_v vs 3) 11 + ((-1) * w_fi ws (n_v vs 3) 8 + 0)) ≤ (-2005) := f10
  have q3 : n_v vs 3 = n_v vs 0 := f8.symm
  rw [q3] at f1
  rw [q3] at f3
  rw [q3] at f4
  rw [q3] at f5
  rw [q3] at f6
  rw [q3] at f7
  rw [q3] at f9
  rw [q3] at f10
  have cr_0_2 : ta (w_ar ws (n_v vs 0) 2) = some 152 := tv_rg (th_fd hD hth r0 (g := GG_150) rfl (k := 2) (t := (2, 0, 0, [152])) rfl rfl)
  have cr_0_3 : ta (w_ar ws (n_v vs 0) 3) = some 153 := tv_rg (th_fd hD hth r0 (g := GG_150) rfl (k := 3) (t := (2, 0, 0, [153])) rfl rfl)
  have cr_0_4 : ta (w_ar ws (n_v vs 0) 4) = some 154 := tv_rg (th_fd hD hth r0 (g := GG_150) rfl (k := 4) (t := (2, 0, 0, [154])) rfl rfl)
  have g1 : v_iv (n_v vs 9) = w_fi ws (n_v vs 0) 12 := congrArg v_iv f1
  have g3 : v_iv (n_v vs 8) = w_fi ws (n_v vs 0) 8 := congrArg v_iv f3
  have hK_0_3 : ∀ j : Int, 0 ≤ j → j < 4 → 0 ≤ w_ei ws (w_ar ws (n_v vs 0) 3) j ∧ w_ei ws (w_ar ws (n_v vs 0) 3) j ≤ 30 := fun j h0 h1 => th_el hD hth cr_0_3 (kd := 0) (n := 4) (m := 4) (lo := 0) (hi := 30) (rs := []) (L := []) rfl (by decide) (j := j.toNat) (by omega)
  have hK_0_4 : ∀ j : Int, 0 ≤ j → j < 4 → 0 ≤ w_ei ws (w_ar ws (n_v vs 0) 4) j ∧ w_ei ws (w_ar ws (n_v vs 0) 4) j ≤ 30 := fun j h0 h1 => th_el hD hth cr_0_4 (kd := 0) (n := 4) (m := 4) (lo := 0) (hi := 30) (rs := []) (L := []) rfl (by decide) (j := j.toNat) (by omega)
  have kz_0_8 : 0 ≤ w_fi ws (n_v vs 0) 8 ∧ w_fi ws (n_v vs 0) 8 ≤ 5 := tv_rng (th_fd hD hth r0 (g := GG_150) rfl (k := 8) (t := (0, 0, 5, [])) rfl rfl)
  have kz_0_11 : 0 ≤ w_fi ws (n_v vs 0) 11 ∧ w_fi ws (n_v vs 0) 11 ≤ 2000 := tv_rng (th_fd hD hth r0 (g := GG_150) rfl (k := 11) (t := (0, 0, 2000, [])) rfl rfl)
  have kz_0_12 : 0 ≤ w_fi ws (n_v vs 0) 12 ∧ w_fi ws (n_v vs 0) 12 ≤ 4 := tv_rng (th_fd hD hth r0 (g := GG_150) rfl (k := 12) (t := (0, 0, 4, [])) rfl rfl)
  have kz_0_15 : 0 ≤ w_fi ws (n_v vs 0) 15 ∧ w_fi ws (n_v vs 0) 15 ≤ 2000 := tv_rng (th_fd hD hth r0 (g := GG_150) rfl (k := 15) (t := (0, 0, 2000, [])) rfl rfl)
  have kv0 : 0 ≤ w_fi ws (n_v vs 0) 11 ∧ w_fi ws (n_v vs 0) 11 ≤ 2000 := tv_rng (th_fd hD hth r0 (g := GG_150) rfl (k := 11) (t := (0, 0, 2000, [])) rfl rfl)
  obtain ⟨x, ex, hx⟩ := iv_ex (ta := ta) (lo := 0) (hi := 2000) (z := w_fi ws (n_v vs 0) 11) (by omega) (by omega) (by omega) (by omega)
  have ex2 : v_iv (Value.int x) = w_fi ws (n_v vs 0) 11 := ex
  have ex3 : 0 ≤ v_iv (Value.int x) ∧ v_iv (Value.int x) ≤ 2000 := tv_rng hx
  have e_3 : n_v (vs ++ [Value.int x]) 3 = n_v vs 3 := n_v_old (by rw [hl]; decide)
  have e_7 : n_v (vs ++ [Value.int x]) 7 = n_v vs 7 := n_v_old (by rw [hl]; decide)
  have e_10 : n_v (vs ++ [Value.int x]) 10 = n_v vs 10 := n_v_old (by rw [hl]; decide)
  have e_12 : n_v (vs ++ [Value.int x]) 12 = Value.int x := n_v_new hl
  have nf0 : fc_1 (20, [3, 3], [30, 0, 1, 1, 15, -1, 1, 11]) ws (vs ++ [Value.int x]) := by
    refine ⟨fun n hn => ?_, ?_⟩
    · have hn : n ∈ [3, 3] := hn
      rw [List.length_append, hl]
      simp only [List.mem_cons, List.not_mem_nil, or_false] at hn
      show n < 12 + 1; omega
    · show 1 * w_fi ws (n_v (vs ++ [Value.int x]) 3) 15 + ((-1) * w_fi ws (n_v (vs ++ [Value.int x]) 3) 11 + 0) ≤ 0
      rw [e_3]
      rw [q3]
      omega
  have nf1 : fc_1 (20, [3], [50, 3, 0, 12, 11, 15, 2, 21, 4, 7, 1, 3, 2, 0, 12, 0, 1, 0, 3, 2, 0, 11, 4, 3, 2, 0, 15, 0, 8, 3, 7, 1, 3, 2, 0, 12, 0, 0, 0, 7, 4, 3, 2, 0, 15, 0, 1, 2, 0, 11]) ws (vs ++ [Value.int x]) := by
    refine ⟨fun n hn => ?_, ?_⟩
    · have hn : n ∈ [3] := hn
      rw [List.length_append, hl]
      simp only [List.mem_cons, List.not_mem_nil, or_false] at hn
      show n < 12 + 1; omega
    · show ((w_fi ws (n_v (vs ++ [Value.int x]) 3) 12 = 1) → (w_fi ws (n_v (vs ++ [Value.int x]) 3) 11 ≤ (w_fi ws (n_v (vs ++ [Value.int x]) 3) 15 + 8))) ∧ ((w_fi ws (n_v (vs ++ [Value.int x]) 3) 12 = 0) ∨ ((w_fi ws (n_v (vs ++ [Value.int x]) 3) 15 + 1) ≤ w_fi ws (n_v (vs ++ [Value.int x]) 3) 11))
      rw [e_3]
      rw [q3]
      first | omega | grind
  have nf2 : fc_1 (20, [12, 3], [30, 0, 1, 0, 0, -1, 1, 11]) ws (vs ++ [Value.int x]) := by
    refine ⟨fun n hn => ?_, ?_⟩
    · have hn : n ∈ [12, 3] := hn
      rw [List.length_append, hl]
      simp only [List.mem_cons, List.not_mem_nil, or_false] at hn
      show n < 12 + 1; omega
    · show 1 * v_iv (n_v (vs ++ [Value.int x]) 12) + ((-1) * w_fi ws (n_v (vs ++ [Value.int x]) 3) 11 + 0) ≤ 0
      rw [e_3]
      rw [e_12]
      rw [q3]
      omega
  have nf3 : fc_1 (20, [10, 3], [50, 1, 1, 1005, 1002, 0, 6, 4, 2, 1, 0, 0, 1, 3, 1, 2, 4, 3, 2, 1, 5, 0, 2]) ws (vs ++ [Value.int x]) := by
    refine ⟨fun n hn => ?_, ?_⟩
    · have hn : n ∈ [10, 3] := hn
      rw [List.length_append, hl]
      simp only [List.mem_cons, List.not_mem_nil, or_false] at hn
      show n < 12 + 1; omega
    · show (v_iv (n_v (vs ++ [Value.int x]) 10) + 1) ≤ w_ei ws (w_ar ws (n_v (vs ++ [Value.int x]) 3) 2) ((w_fi ws (n_v (vs ++ [Value.int x]) 3) 5 + 2))
      rw [e_3]
      rw [e_10]
      rw [q3]
      first | omega | grind
  have nf4 : fc_1 (23, [7, 12], [-2005, -1, -1]) ws (vs ++ [Value.int x]) := by
    refine ⟨fun n hn => ?_, ?_⟩
    · have hn : n ∈ [7, 12] := hn
      rw [List.length_append, hl]
      simp only [List.mem_cons, List.not_mem_nil, or_false] at hn
      show n < 12 + 1; omega
    · show (-1) * v_iv (n_v (vs ++ [Value.int x]) 7) + ((-1) * v_iv (n_v (vs ++ [Value.int x]) 12) + 0) ≤ (-2005)
      rw [e_7]
      rw [e_12]
      omega
  exact ⟨(fun _ h => (by cases h)), [Value.int x], ag_one hx, List.forall_mem_cons.mpr ⟨⟨show (20 : Nat) < 100 from by decide, nf0⟩, List.forall_mem_cons.mpr ⟨⟨show (20 : Nat) < 100 from by decide, nf1⟩, List.forall_mem_cons.mpr ⟨⟨show (20 : Nat) < 100 from by decide, nf2⟩, List.forall_mem_cons.mpr ⟨⟨show (20 : Nat) < 100 from by decide, nf3⟩, List.forall_mem_cons.mpr ⟨⟨show (23 : Nat) < 100 from by decide, nf4⟩, (fun _ h => (by cases h))⟩⟩⟩⟩⟩, (fun _ h => (by cases h))⟩
def o_Mo_read_8 : or_T := (120, 13, [(0, (2, 0, 0, [150])), (3, (2, 0, 0, [150])), (7, (0, 0, 2005, [])), (10, (0, 0, 0, [])), (12, (0, 0, 2000, []))], [(23, [7, 12], [-2005, -1, -1]), (20, [3], [50, 0, 2, 3, 4, 5, 2, 0, 4, 0, 5, 3, 0, 3, 7, 0, 3, 0, 4, 7, 0]), (24, [0, 3], []), (20, [3, 3], [30, 0, 1, 1, 15, -1, 1, 11]), (20, [3], [50, 3, 0, 12, 11, 15, 2, 21, 4, 7, 1, 3, 2, 0, 12, 0, 1, 0, 3, 2, 0, 11, 4, 3, 2, 0, 15, 0, 8, 3, 7, 1, 3, 2, 0, 12, 0, 0, 0, 7, 4, 3, 2, 0, 15, 0, 1, 2, 0, 11]), (20, [12, 3], [30, 0, 1, 0, 0, -1, 1, 11]), (20, [3, 12], [50, 2, 0, 8, 11, 3, 7, 0, 2, 0, 1, 2, 0, 8, 0, 6, 4, 2, 1, 1, 0, 1, 2, 0, 11]), (20, [10, 3], [50, 1, 1, 1005, 1002, 0, 6, 4, 2, 1, 0, 0, 1, 3, 1, 2, 4, 3, 2, 1, 5, 0, 2]), (102, [12], [5708990770823839524233143877797980545530986496, 13008, 13009, 13011, 13012, 13013, 13014, 13015]), (23, [7, 12], [-2005, -1, -1])], [], [(0, 0, 2005, [])], [(20, [3], [50, 0, 2, 3, 4, 5, 2, 0, 4, 0, 5, 3, 0, 3, 7, 0, 3, 0, 4, 7, 0]), (20, [3, 3], [30, 0, 1, 1, 15, -1, 1, 11]), (20, [3], [50, 3, 0, 12, 11, 15, 2, 21, 4, 7, 1, 3, 2, 0, 12, 0, 1, 0, 3, 2, 0, 11, 4, 3, 2, 0, 15, 0, 8, 3, 7, 1, 3, 2, 0, 12, 0, 0, 0, 7, 4, 3, 2, 0, 15, 0, 1, 2, 0, 11]), (20, [3], [50, 1, 1, 5, 2, 0, 2, 0, 1, 3, 0, 2, 4, 3, 2, 0, 5, 0, 2]), (20, [13, 3, 3], [30, -2006, -1, 0, 0, -1, 1, 11, -1, 1, 8]), (24, [0, 3], [])], [(13, 7, 0, 0)], [])
theorem oo_Mo_read_8 {kA : Nat → ClassId} : or_ok kA GG o_Mo_read_8 := by
  intro A ta ws vs hD hth hl hk hds hf
  have hl : vs.length = 13 := hl
  have hk : ∀ q ∈ ([(0, (2, 0, 0, [150])), (3, (2, 0, 0, [150])), (7, (0, 0, 2005, [])), (10, (0, 0, 0, [])), (12, (0, 0, 2000, []))] : List (Nat × tv_T)), tv_ok ta q.2 (n_v vs q.1) := hk
  obtain ⟨t0, hk⟩ := List.forall_mem_cons.mp hk
  have t0 : tv_ok ta (2, 0, 0, [150]) (n_v vs 0) := t0
  have r0 : ta (v_ad (n_v vs 0)) = some 150 := tv_rg t0
  obtain ⟨t3, hk⟩ := List.forall_mem_cons.mp hk
  have t3 : tv_ok ta (2, 0, 0, [150]) (n_v vs 3) := t3
  have r3 : ta (v_ad (n_v vs 3)) = some 150 := tv_rg t3
  obtain ⟨t7, hk⟩ := List.forall_mem_cons.mp hk
  have t7 : tv_ok ta (0, 0, 2005, []) (n_v vs 7) := t7
  have k7 : 0 ≤ v_iv (n_v vs 7) ∧ v_iv (n_v vs 7) ≤ 2005 := tv_rng t7
  obtain ⟨t10, hk⟩ := List.forall_mem_cons.mp hk
  have t10 : tv_ok ta (0, 0, 0, []) (n_v vs 10) := t10
  have k10 : 0 ≤ v_iv (n_v vs 10) ∧ v_iv (n_v vs 10) ≤ 0 := tv_rng t10
  obtain ⟨t12, hk⟩ := List.forall_mem_cons.mp hk
  have t12 : tv_ok ta (0, 0, 2000, []) (n_v vs 12) := t12
  have k12 : 0 ≤ v_iv (n_v vs 12) ∧ v_iv (n_v vs 12) ≤ 2000 := tv_rng t12
  have hf : fc_ok [(23, [7, 12], [-2005, -1, -1]), (20, [3], [50, 0, 2, 3, 4, 5, 2, 0, 4, 0, 5, 3, 0, 3, 7, 0, 3, 0, 4, 7, 0]), (24, [0, 3], []), (20, [3, 3], [30, 0, 1, 1, 15, -1, 1, 11]), (20, [3], [50, 3, 0, 12, 11, 15, 2, 21, 4, 7, 1, 3, 2, 0, 12, 0, 1, 0, 3, 2, 0, 11, 4, 3, 2, 0, 15, 0, 8, 3, 7, 1, 3, 2, 0, 12, 0, 0, 0, 7, 4, 3, 2, 0, 15, 0, 1, 2, 0, 11]), (20, [12, 3], [30, 0, 1, 0, 0, -1, 1, 11]), (20, [3, 12], [50, 2, 0, 8, 11, 3, 7, 0, 2, 0, 1, 2, 0, 8, 0, 6, 4, 2, 1, 1, 0, 1, 2, 0, 11]), (20, [10, 3], [50, 1, 1, 1005, 1002, 0, 6, 4, 2, 1, 0, 0, 1, 3, 1, 2, 4, 3, 2, 1, 5, 0, 2]), (102, [12], [5708990770823839524233143877797980545530986496, 13008, 13009, 13011, 13012, 13013, 13014, 13015]), (23, [7, 12], [-2005, -1, -1])] ta ws vs := hf
  obtain ⟨f0, hf⟩ := fc_un (show (23 : Nat) < 100 from by decide) hf
  have f0 : (-1) * v_iv (n_v vs 7) + ((-1) * v_iv (n_v vs 12) + 0) ≤ (-2005) := f0
  obtain ⟨f1, hf⟩ := fc_un (show (20 : Nat) < 100 from by decide) hf
  have f1 : ∀ j0 : Int, 0 ≤ j0 → j0 < 4 → (w_ei ws (w_ar ws (n_v vs 3) 3) (j0) ≤ w_ei ws (w_ar ws (n_v vs 3) 4) (j0)) := f1
  obtain ⟨f2, hf⟩ := fc_un (show (24 : Nat) < 100 from by decide) hf
  have f2 : n_v vs 0 = n_v vs 3 := f2
  obtain ⟨f3, hf⟩ := fc_un (show (20 : Nat) < 100 from by decide) hf
  have f3 : 1 * w_fi ws (n_v vs 3) 15 + ((-1) * w_fi ws (n_v vs 3) 11 + 0) ≤ 0 := f3
  obtain ⟨f4, hf⟩ := fc_un (show (20 : Nat) < 100 from by decide) hf
  have f4 : ((w_fi ws (n_v vs 3) 12 = 1) → (w_fi ws (n_v vs 3) 11 ≤ (w_fi ws (n_v vs 3) 15 + 8))) ∧ ((w_fi ws (n_v vs 3) 12 = 0) ∨ ((w_fi ws (n_v vs 3) 15 + 1) ≤ w_fi ws (n_v vs 3) 11)) := f4
  obtain ⟨f5, hf⟩ := fc_un (show (20 : Nat) < 100 from by decide) hf
  have f5 : 1 * v_iv (n_v vs 12) + ((-1) * w_fi ws (n_v vs 3) 11 + 0) ≤ 0 := f5
  obtain ⟨f6, hf⟩ := fc_un (show (20 : Nat) < 100 from by decide) hf
  have f6 : (1 ≤ w_fi ws (n_v vs 3) 8) ∨ ((v_iv (n_v vs 12) + 1) ≤ w_fi ws (n_v vs 3) 11) := f6
  obtain ⟨f7, hf⟩ := fc_un (show (20 : Nat) < 100 from by decide) hf
  have f7 : (v_iv (n_v vs 10) + 1) ≤ w_ei ws (w_ar ws (n_v vs 3) 2) ((w_fi ws (n_v vs 3) 5 + 2)) := f7
  obtain ⟨ta1, w1, le1, ⟨_, s1⟩, hf⟩ := fc_us (show ¬ (102 : Nat) < 100 from by decide) hf
  obtain ⟨f9, hf⟩ := fc_un (show (23 : Nat) < 100 from by decide) hf
  have f9 : (-1) * v_iv (n_v vs 7) + ((-1) * v_iv (n_v vs 12) + 0) ≤ (-2005) := f9
  have q3 : n_v vs 3 = n_v vs 0 := f2.symm
  rw [q3] at f1
  rw [q3] at f3
  rw [q3] at f4
  rw [q3] at f5
  rw [q3] at f6
  rw [q3] at f7
  have cr_0_2 : ta (w_ar ws (n_v vs 0) 2) = some 152 := tv_rg (th_fd hD hth r0 (g := GG_150) rfl (k := 2) (t := (2, 0, 0, [152])) rfl rfl)
  have cr_0_3 : ta (w_ar ws (n_v vs 0) 3) = some 153 := tv_rg (th_fd hD hth r0 (g := GG_150) rfl (k := 3) (t := (2, 0, 0, [153])) rfl rfl)
  have cr_0_4 : ta (w_ar ws (n_v vs 0) 4) = some 154 := tv_rg (th_fd hD hth r0 (g := GG_150) rfl (k := 4) (t := (2, 0, 0, [154])) rfl rfl)
  have hK_0_3 : ∀ j : Int, 0 ≤ j → j < 4 → 0 ≤ w_ei ws (w_ar ws (n_v vs 0) 3) j ∧ w_ei ws (w_ar ws (n_v vs 0) 3) j ≤ 30 := fun j h0 h1 => th_el hD hth cr_0_3 (kd := 0) (n := 4) (m := 4) (lo := 0) (hi := 30) (rs := []) (L := []) rfl (by decide) (j := j.toNat) (by omega)
  have hK_0_4 : ∀ j : Int, 0 ≤ j → j < 4 → 0 ≤ w_ei ws (w_ar ws (n_v vs 0) 4) j ∧ w_ei ws (w_ar ws (n_v vs 0) 4) j ≤ 30 := fun j h0 h1 => th_el hD hth cr_0_4 (kd := 0) (n := 4) (m := 4) (lo := 0) (hi := 30) (rs := []) (L := []) rfl (by decide) (j := j.toNat) (by omega)
  have kz_0_8 : 0 ≤ w_fi ws (n_v vs 0) 8 ∧ w_fi ws (n_v vs 0) 8 ≤ 5 := tv_rng (th_fd hD hth r0 (g := GG_150) rfl (k := 8) (t := (0, 0, 5, [])) rfl rfl)
  have kz_0_11 : 0 ≤ w_fi ws (n_v vs 0) 11 ∧ w_fi ws (n_v vs 0) 11 ≤ 2000 := tv_rng (th_fd hD hth r0 (g := GG_150) rfl (k := 11) (t := (0, 0, 2000, [])) rfl rfl)
  have kz_0_12 : 0 ≤ w_fi ws (n_v vs 0) 12 ∧ w_fi ws (n_v vs 0) 12 ≤ 4 := tv_rng (th_fd hD hth r0 (g := GG_150) rfl (k := 12) (t := (0, 0, 4, [])) rfl rfl)
  have kz_0_15 : 0 ≤ w_fi ws (n_v vs 0) 15 ∧ w_fi ws (n_v vs 0) 15 ≤ 2000 := tv_rng (th_fd hD hth r0 (g := GG_150) rfl (k := 15) (t := (0, 0, 2000, [])) rfl rfl)
  obtain ⟨x, ex, hx⟩ := iv_ex (ta := ta) (lo := 0) (hi := 2005) (z := 0 + (1 * v_iv (n_v vs 7) + 0)) (by omega) (by omega) (by omega) (by omega)
  have ex2 : v_iv (Value.int x) = 0 + (1 * v_iv (n_v vs 7) + 0) := ex
  have ex3 : 0 ≤ v_iv (Value.int x) ∧ v_iv (Value.int x) ≤ 2005 := tv_rng hx
  have e_0 : n_v (vs ++ [Value.int x]) 0 = n_v vs 0 := n_v_old (by rw [hl]; decide)
  have e_3 : n_v (vs ++ [Value.int x]) 3 = n_v vs 3 := n_v_old (by rw [hl]; decide)
  have e_13 : n_v (vs ++ [Value.int x]) 13 = Value.int x := n_v_new hl
  have nf0 : fc_1 (20, [3], [50, 0, 2, 3, 4, 5, 2, 0, 4, 0, 5, 3, 0, 3, 7, 0, 3, 0, 4, 7, 0]) ws (vs ++ [Value.int x]) := by
    refine ⟨fun n hn => ?_, ?_⟩
    · have hn : n ∈ [3] := hn
      rw [List.length_append, hl]
      simp only [List.mem_cons, List.not_mem_nil, or_false] at hn
      show n < 13 + 1; omega
    · show ∀ j0 : Int, 0 ≤ j0 → j0 < 4 → (w_ei ws (w_ar ws (n_v (vs ++ [Value.int x]) 3) 3) (j0) ≤ w_ei ws (w_ar ws (n_v (vs ++ [Value.int x]) 3) 4) (j0))
      rw [e_3]
      rw [q3]
      first | omega | grind
  have nf1 : fc_1 (20, [3, 3], [30, 0, 1, 1, 15, -1, 1, 11]) ws (vs ++ [Value.int x]) := by
    refine ⟨fun n hn => ?_, ?_⟩
    · have hn : n ∈ [3, 3] := hn
      rw [List.length_append, hl]
      simp only [List.mem_cons, List.not_mem_nil, or_false] at hn
      show n < 13 + 1; omega
    · show 1 * w_fi ws (n_v (vs ++ [Value.int x]) 3) 15 + ((-1) * w_fi ws (n_v (vs ++ [Value.int x]) 3) 11 + 0) ≤ 0
      rw [e_3]
      rw [q3]
      omega
  have nf2 : fc_1 (20, [3], [50, 3, 0, 12, 11, 15, 2, 21, 4, 7, 1, 3, 2, 0, 12, 0, 1, 0, 3, 2, 0, 11, 4, 3, 2, 0, 15, 0, 8, 3, 7, 1, 3, 2, 0, 12, 0, 0, 0, 7, 4, 3, 2, 0, 15, 0, 1, 2, 0, 11]) ws (vs ++ [Value.int x]) := by
    refine ⟨fun n hn => ?_, ?_⟩
    · have hn : n ∈ [3] := hn
      rw [List.length_append, hl]
      simp only [List.mem_cons, List.not_mem_nil, or_false] at hn
      show n < 13 + 1; omega
    · show ((w_fi ws (n_v (vs ++ [Value.int x]) 3) 12 = 1) → (w_fi ws (n_v (vs ++ [Value.int x]) 3) 11 ≤ (w_fi ws (n_v (vs ++ [Value.int x]) 3) 15 + 8))) ∧ ((w_fi ws (n_v (vs ++ [Value.int x]) 3) 12 = 0) ∨ ((w_fi ws (n_v (vs ++ [Value.int x]) 3) 15 + 1) ≤ w_fi ws (n_v (vs ++ [Value.int x]) 3) 11))
      rw [e_3]
      rw [q3]
      first | omega | grind
  have nf3 : fc_1 (20, [3], [50, 1, 1, 5, 2, 0, 2, 0, 1, 3, 0, 2, 4, 3, 2, 0, 5, 0, 2]) ws (vs ++ [Value.int x]) := by
    refine ⟨fun n hn => ?_, ?_⟩
    · have hn : n ∈ [3] := hn
      rw [List.length_append, hl]
      simp only [List.mem_cons, List.not_mem_nil, or_false] at hn
      show n < 13 + 1; omega
    · show 1 ≤ w_ei ws (w_ar ws (n_v (vs ++ [Value.int x]) 3) 2) ((w_fi ws (n_v (vs ++ [Value.int x]) 3) 5 + 2))
      rw [e_3]
      rw [q3]
      first | omega | grind
  have nf4 : fc_1 (20, [13, 3, 3], [30, -2006, -1, 0, 0, -1, 1, 11, -1, 1, 8]) ws (vs ++ [Value.int x]) := by
    refine ⟨fun n hn => ?_, ?_⟩
    · have hn : n ∈ [13, 3, 3] := hn
      rw [List.length_append, hl]
      simp only [List.mem_cons, List.not_mem_nil, or_false] at hn
      show n < 13 + 1; omega
    · show (-1) * v_iv (n_v (vs ++ [Value.int x]) 13) + ((-1) * w_fi ws (n_v (vs ++ [Value.int x]) 3) 11 + ((-1) * w_fi ws (n_v (vs ++ [Value.int x]) 3) 8 + 0)) ≤ (-2006)
      rw [e_3]
      rw [e_13]
      rw [q3]
      omega
  have nf5 : fc_1 (24, [0, 3], []) ws (vs ++ [Value.int x]) := by
    refine ⟨fun n hn => ?_, ?_⟩
    · have hn : n ∈ [0, 3] := hn
      rw [List.length_append, hl]
      simp only [List.mem_cons, List.not_mem_nil, or_false] at hn
      show n < 13 + 1; omega
    · show n_v (vs ++ [Value.int x]) 0 = n_v (vs ++ [Value.int x]) 3
      first | rfl | simp only [e_0, e_3, q3]
  obtain ⟨x0, e0, _, _⟩ := tv_int t7 rfl
  have e1 : v_iv (n_v vs 7) = x0.toInt := by rw [e0]; rfl
  have ho : sy_ofs (vs ++ [Value.int x]) (13, 7, 0, 0) := by
    refine ⟨x, x0, by rw [List.getElem?_append_right (by rw [hl]; decide), hl]; rfl, ?_, ?_, ?_⟩
    · rw [List.getElem?_append_left (by rw [hl]; decide)]; exact n_v_some (by rw [hl]; decide) e0
    · show x0.toInt + 0 ≤ x.toInt; omega
    · show x.toInt ≤ x0.toInt + 0; omega
  exact ⟨(fun _ h => (by cases h)), [Value.int x], ag_one hx, List.forall_mem_cons.mpr ⟨⟨show (20 : Nat) < 100 from by decide, nf0⟩, List.forall_mem_cons.mpr ⟨⟨show (20 : Nat) < 100 from by decide, nf1⟩, List.forall_mem_cons.mpr ⟨⟨show (20 : Nat) < 100 from by decide, nf2⟩, List.forall_mem_cons.mpr ⟨⟨show (20 : Nat) < 100 from by decide, nf3⟩, List.forall_mem_cons.mpr ⟨⟨show (20 : Nat) < 100 from by decide, nf4⟩, List.forall_mem_cons.mpr ⟨⟨show (24 : Nat) < 100 from by decide, nf5⟩, (fun _ h => (by cases h))⟩⟩⟩⟩⟩⟩, List.forall_mem_cons.mpr ⟨ho, (fun _ h => (by cases h))⟩⟩
def o_Mo_read_9 : or_T := (100, 8, [(0, (2, 0, 0, [150])), (3, (2, 0, 0, [150])), (7, (0, 0, 2005, []))], [(20, [3], [50, 0, 2, 3, 4, 5, 2, 0, 4, 0, 5, 3, 0, 3, 7, 0, 3, 0, 4, 7, 0]), (20, [3, 3], [30, 0, 1, 1, 15, -1, 1, 11]), (20, [3], [50, 3, 0, 12, 11, 15, 2, 21, 4, 7, 1, 3, 2, 0, 12, 0, 1, 0, 3, 2, 0, 11, 4, 3, 2, 0, 15, 0, 8, 3, 7, 1, 3, 2, 0, 12, 0, 0, 0, 7, 4, 3, 2, 0, 15, 0, 1, 2, 0, 11]), (20, [3], [50, 1, 1, 5, 2, 0, 2, 0, 1, 3, 0, 2, 4, 3, 2, 0, 5, 0, 2]), (20, [7, 3, 3], [30, -2006, -1, 0, 0, -1, 1, 11, -1, 1, 8]), (24, [0, 3], [])], [], [(0, 0, 2005, [])], [(20, [3], [50, 0, 2, 3, 4, 5, 2, 0, 4, 0, 5, 3, 0, 3, 7, 0, 3, 0, 4, 7, 0]), (20, [3, 3], [30, 0, 1, 1, 15, -1, 1, 11]), (20, [3], [50, 3, 0, 12, 11, 15, 2, 21, 4, 7, 1, 3, 2, 0, 12, 0, 1, 0, 3, 2, 0, 11, 4, 3, 2, 0, 15, 0, 8, 3, 7, 1, 3, 2, 0, 12, 0, 0, 0, 7, 4, 3, 2, 0, 15, 0, 1, 2, 0, 11]), (20, [3], [50, 1, 1, 5, 2, 0, 2, 0, 1, 3, 0, 2, 4, 3, 2, 0, 5, 0, 2]), (24, [0, 3], []), (20, [8, 3, 3], [30, 2005, 1, 0, 0, 1, 1, 11, 1, 1, 8]), (20, [8, 3, 3], [30, -2005, -1, 0, 0, -1, 1, 11, -1, 1, 8])], [(8, 7, -1000000000000, -1)], [])
theorem oo_Mo_read_9 {kA : Nat → ClassId} : or_ok kA GG o_Mo_read_9 := by
  intro A ta ws vs hD hth hl hk hds hf
  have hl : vs.length = 8 := hl
  have hk : ∀ q ∈ ([(0, (2, 0, 0, [150])), (3, (2, 0, 0, [150])), (7, (0, 0, 2005, []))] : List (Nat × tv_T)), tv_ok ta q.2 (n_v vs q.1) := hk
  obtain ⟨t0, hk⟩ := List.forall_mem_cons.mp hk
  have t0 : tv_ok ta (2, 0, 0, [150]) (n_v vs 0) := t0
  have r0 : ta (v_ad (n_v vs 0)) = some 150 := tv_rg t0
  obtain ⟨t3, hk⟩ := List.forall_mem_cons.mp hk
  have t3 : tv_ok ta (2, 0, 0, [150]) (n_v vs 3) := t3
  have r3 : ta (v_ad (n_v vs 3)) = some 150 := tv_rg t3
  obtain ⟨t7, hk⟩ := List.forall_mem_cons.mp hk
  have t7 : tv_ok ta (0, 0, 2005, []) (n_v vs 7) := t7
  have k7 : 0 ≤ v_iv (n_v vs 7) ∧ v_iv (n_v vs 7) ≤ 2005 := tv_rng t7
  have hf : fc_ok [(20, [3], [50, 0, 2, 3, 4, 5, 2, 0, 4, 0, 5, 3, 0, 3, 7, 0, 3, 0, 4, 7, 0]), (20, [3, 3], [30, 0, 1, 1, 15, -1, 1, 11]), (20, [3], [50, 3, 0, 12, 11, 15, 2, 21, 4, 7, 1, 3, 2, 0, 12, 0, 1, 0, 3, 2, 0, 11, 4, 3, 2, 0, 15, 0, 8, 3, 7, 1, 3, 2, 0, 12, 0, 0, 0, 7, 4, 3, 2, 0, 15, 0, 1, 2, 0, 11]), (20, [3], [50, 1, 1, 5, 2, 0, 2, 0, 1, 3, 0, 2, 4, 3, 2, 0, 5, 0, 2]), (20, [7, 3, 3], [30, -2006, -1, 0, 0, -1, 1, 11, -1, 1, 8]), (24, [0, 3], [])] ta ws vs := hf
  obtain ⟨f0, hf⟩ := fc_un (show (20 : Nat) < 100 from by decide) hf
  have f0 : ∀ j0 : Int, 0 ≤ j0 → j0 < 4 → (w_ei ws (w_ar ws (n_v vs 3) 3) (j0) ≤ w_ei ws (w_ar ws (n_v vs 3) 4) (j0)) := f0
  obtain ⟨f1, hf⟩ := fc_un (show (20 : Nat) < 100 from by decide) hf
  have f1 : 1 * w_fi ws (n_v vs 3) 15 + ((-1) * w_fi ws (n_v vs 3) 11 + 0) ≤ 0 := f1
  obtain ⟨f2, hf⟩ := fc_un (show (20 : Nat) < 100 from by decide) hf
  have f2 : ((w_fi ws (n_v vs 3) 12 = 1) → (w_fi ws (n_v vs 3) 11 ≤ (w_fi ws (n_v vs 3) 15 + 8))) ∧ ((w_fi ws (n_v vs 3) 12 = 0) ∨ ((w_fi ws (n_v vs 3) 15 + 1) ≤ w_fi ws (n_v vs 3) 11)) := f2
  obtain ⟨f3, hf⟩ := fc_un (show (20 : Nat) < 100 from by decide) hf
  have f3 : 1 ≤ w_ei ws (w_ar ws (n_v vs 3) 2) ((w_fi ws (n_v vs 3) 5 + 2)) := f3
  obtain ⟨f4, hf⟩ := fc_un (show (20 : Nat) < 100 from by decide) hf
  have f4 : (-1) * v_iv (n_v vs 7) + ((-1) * w_fi ws (n_v vs 3) 11 + ((-1) * w_fi ws (n_v vs 3) 8 + 0)) ≤ (-2006) := f4
  obtain ⟨f5, hf⟩ := fc_un (show (24 : Nat) < 100 from by decide) hf
  have f5 : n_v vs 0 = n_v vs 3 := f5
  have q3 : n_v vs 3 = n_v vs 0 := f5.symm
  rw [q3] at f0
  rw [q3] at f1
  rw [q3] at f2
  rw [q3] at f3
  rw [q3] at f4
  have cr_0_2 : ta (w_ar ws (n_v vs 0) 2) = some 152 := tv_rg (th_fd hD hth r0 (g := GG_150) rfl (k := 2) (t := (2, 0, 0, [152])) rfl rfl)
  have cr_0_3 : ta (w_ar ws (n_v vs 0) 3) = some 153 := tv_rg (th_fd hD hth r0 (g := GG_150) rfl (k := 3) (t := (2, 0, 0, [153])) rfl rfl)
  have cr_0_4 : ta (w_ar ws (n_v vs 0) 4) = some 154 := tv_rg (th_fd hD hth r0 (g := GG_150) rfl (k := 4) (t := (2, 0, 0, [154])) rfl rfl)
  have hK_0_3 : ∀ j : Int, 0 ≤ j → j < 4 → 0 ≤ w_ei ws (w_ar ws (n_v vs 0) 3) j ∧ w_ei ws (w_ar ws (n_v vs 0) 3) j ≤ 30 := fun j h0 h1 => th_el hD hth cr_0_3 (kd := 0) (n := 4) (m := 4) (lo := 0) (hi := 30) (rs := []) (L := []) rfl (by decide) (j := j.toNat) (by omega)
  have hK_0_4 : ∀ j : Int, 0 ≤ j → j < 4 → 0 ≤ w_ei ws (w_ar ws (n_v vs 0) 4) j ∧ w_ei ws (w_ar ws (n_v vs 0) 4) j ≤ 30 := fun j h0 h1 => th_el hD hth cr_0_4 (kd := 0) (n := 4) (m := 4) (lo := 0) (hi := 30) (rs := []) (L := []) rfl (by decide) (j := j.toNat) (by omega)
  have kz_0_8 : 0 ≤ w_fi ws (n_v vs 0) 8 ∧ w_fi ws (n_v vs 0) 8 ≤ 5 := tv_rng (th_fd hD hth r0 (g := GG_150) rfl (k := 8) (t := (0, 0, 5, [])) rfl rfl)
  have kz_0_11 : 0 ≤ w_fi ws (n_v vs 0) 11 ∧ w_fi ws (n_v vs 0) 11 ≤ 2000 := tv_rng (th_fd hD hth r0 (g := GG_150) rfl (k := 11) (t := (0, 0, 2000, [])) rfl rfl)
  have kz_0_12 : 0 ≤ w_fi ws (n_v vs 0) 12 ∧ w_fi ws (n_v vs 0) 12 ≤ 4 := tv_rng (th_fd hD hth r0 (g := GG_150) rfl (k := 12) (t := (0, 0, 4, [])) rfl rfl)
  have kz_0_15 : 0 ≤ w_fi ws (n_v vs 0) 15 ∧ w_fi ws (n_v vs 0) 15 ≤ 2000 := tv_rng (th_fd hD hth r0 (g := GG_150) rfl (k := 15) (t := (0, 0, 2000, [])) rfl rfl)
  have kb_0_8 : 0 ≤ w_fi ws (n_v vs 0) 8 ∧ w_fi ws (n_v vs 0) 8 ≤ 5 := tv_rng (th_fd hD hth r0 (g := GG_150) rfl (k := 8) (t := (0, 0, 5, [])) rfl rfl)
  have kb_0_11 : 0 ≤ w_fi ws (n_v vs 0) 11 ∧ w_fi ws (n_v vs 0) 11 ≤ 2000 := tv_rng (th_fd hD hth r0 (g := GG_150) rfl (k := 11) (t := (0, 0, 2000, [])) rfl rfl)
  obtain ⟨x, ex, hx⟩ := iv_ex (ta := ta) (lo := 0) (hi := 2005) (z := 2005 + ((-1) * w_fi ws (n_v vs 0) 11 + ((-1) * w_fi ws (n_v vs 0) 8 + 0))) (by omega) (by omega) (by omega) (by omega)
  have ex2 : v_iv (Value.int x) = 2005 + ((-1) * w_fi ws (n_v vs 0) 11 + ((-1) * w_fi ws (n_v vs 0) 8 + 0)) := ex
  have ex3 : 0 ≤ v_iv (Value.int x) ∧ v_iv (Value.int x) ≤ 2005 := tv_rng hx
  have e_0 : n_v (vs ++ [Value.int x]) 0 = n_v vs 0 := n_v_old (by rw [hl]; decide)
  have e_3 : n_v (vs ++ [Value.int x]) 3 = n_v vs 3 := n_v_old (by rw [hl]; decide)
  have e_8 : n_v (vs ++ [Value.int x]) 8 = Value.int x := n_v_new hl
  have nf0 : fc_1 (20, [3], [50, 0, 2, 3, 4, 5, 2, 0, 4, 0, 5, 3, 0, 3, 7, 0, 3, 0, 4, 7, 0]) ws (vs ++ [Value.int x]) := by
    refine ⟨fun n hn => ?_, ?_⟩
    · have hn : n ∈ [3] := hn
      rw [List.length_append, hl]
      simp only [List.mem_cons, List.not_mem_nil, or_false] at hn
      show n < 8 + 1; omega
    · show ∀ j0 : Int, 0 ≤ j0 → j0 < 4 → (w_ei ws (w_ar ws (n_v (vs ++ [Value.int x]) 3) 3) (j0) ≤ w_ei ws (w_ar ws (n_v (vs ++ [Value.int x]) 3) 4) (j0))
      rw [e_3]
      rw [q3]
      first | omega | grind
  have nf1 : fc_1 (20, [3, 3], [30, 0, 1, 1, 15, -1, 1, 11]) ws (vs ++ [Value.int x]) := by
    refine ⟨fun n hn => ?_, ?_⟩
    · have hn : n ∈ [3, 3] := hn
      rw [List.length_append, hl]
      simp only [List.mem_cons, List.not_mem_nil, or_false] at hn
      show n < 8 + 1; omega
    · show 1 * w_fi ws (n_v (vs ++ [Value.int x]) 3) 15 + ((-1) * w_fi ws (n_v (vs ++ [Value.int x]) 3) 11 + 0) ≤ 0
      rw [e_3]
      rw [q3]
      omega
  have nf2 : fc_1 (20, [3], [50, 3, 0, 12, 11, 15, 2, 21, 4, 7, 1, 3, 2, 0, 12, 0, 1, 0, 3, 2, 0, 11, 4, 3, 2, 0, 15, 0, 8, 3, 7, 1, 3, 2, 0, 12, 0, 0, 0, 7, 4, 3, 2, 0, 15, 0, 1, 2, 0, 11]) ws (vs ++ [Value.int x]) := by
    refine ⟨fun n hn => ?_, ?_⟩
    · have hn : n ∈ [3] := hn
      rw [List.length_append, hl]
      simp only [List.mem_cons, List.not_mem_nil, or_false] at hn
      show n < 8 + 1; omega
    · show ((w_fi ws (n_v (vs ++ [Value.int x]) 3) 12 = 1) → (w_fi ws (n_v (vs ++ [Value.int x]) 3) 11 ≤ (w_fi ws (n_v (vs ++ [Value.int x]) 3) 15 + 8))) ∧ ((w_fi ws (n_v (vs ++ [Value.int x]) 3) 12 = 0) ∨ ((w_fi ws (n_v (vs ++ [Value.int x]) 3) 15 + 1) ≤ w_fi ws (n_v (vs ++ [Value.int x]) 3) 11))
      rw [e_3]
      rw [q3]
      first | omega | grind
  have nf3 : fc_1 (20, [3], [50, 1, 1, 5, 2, 0, 2, 0, 1, 3, 0, 2, 4, 3, 2, 0, 5, 0, 2]) ws (vs ++ [Value.int x]) := by
    refine ⟨fun n hn => ?_, ?_⟩
    · have hn : n ∈ [3] := hn
      rw [List.length_append, hl]
      simp only [List.mem_cons, List.not_mem_nil, or_false] at hn
      show n < 8 + 1; omega
    · show 1 ≤ w_ei ws (w_ar ws (n_v (vs ++ [Value.int x]) 3) 2) ((w_fi ws (n_v (vs ++ [Value.int x]) 3) 5 + 2))
      rw [e_3]
      rw [q3]
      first | omega | grind
  have nf4 : fc_1 (24, [0, 3], []) ws (vs ++ [Value.int x]) := by
    refine ⟨fun n hn => ?_, ?_⟩
    · have hn : n ∈ [0, 3] := hn
      rw [List.length_append, hl]
      simp only [List.mem_cons, List.not_mem_nil, or_false] at hn
      show n < 8 + 1; omega
    · show n_v (vs ++ [Value.int x]) 0 = n_v (vs ++ [Value.int x]) 3
      first | rfl | simp only [e_0, e_3, q3]
  have nf5 : fc_1 (20, [8, 3, 3], [30, 2005, 1, 0, 0, 1, 1, 11, 1, 1, 8]) ws (vs ++ [Value.int x]) := by
    refine ⟨fun n hn => ?_, ?_⟩
    · have hn : n ∈ [8, 3, 3] := hn
      rw [List.length_append, hl]
      simp only [List.mem_cons, List.not_mem_nil, or_false] at hn
      show n < 8 + 1; omega
    · show 1 * v_iv (n_v (vs ++ [Value.int x]) 8) + (1 * w_fi ws (n_v (vs ++ [Value.int x]) 3) 11 + (1 * w_fi ws (n_v (vs ++ [Value.int x]) 3) 8 + 0)) ≤ 2005
      rw [e_3]
      rw [e_8]
      rw [q3]
      omega
  have nf6 : fc_1 (20, [8, 3, 3], [30, -2005, -1, 0, 0, -1, 1, 11, -1, 1, 8]) ws (vs ++ [Value.int x]) := by
    refine ⟨fun n hn => ?_, ?_⟩
    · have hn : n ∈ [8, 3, 3] := hn
      rw [List.length_append, hl]
      simp only [List.mem_cons, List.not_mem_nil, or_false] at hn
      show n < 8 + 1; omega
    · show (-1) * v_iv (n_v (vs ++ [Value.int x]) 8) + ((-1) * w_fi ws (n_v (vs ++ [Value.int x]) 3) 11 + ((-1) * w_fi ws (n_v (vs ++ [Value.int x]) 3) 8 + 0)) ≤ (-2005)
      rw [e_3]
      rw [e_8]
      rw [q3]
      omega
  obtain ⟨x0, e0, _, _⟩ := tv_int t7 rfl
  have e1 : v_iv (n_v vs 7) = x0.toInt := by rw [e0]; rfl
  have ho : sy_ofs (vs ++ [Value.int x]) (8, 7, -1000000000000, -1) := by
    refine ⟨x, x0, by rw [List.getElem?_append_right (by rw [hl]; decide), hl]; rfl, ?_, ?_, ?_⟩
    · rw [List.getElem?_append_left (by rw [hl]; decide)]; exact n_v_some (by rw [hl]; decide) e0
    · show x0.toInt + (-1000000000000) ≤ x.toInt; omega
    · show x.toInt ≤ x0.toInt + (-1); omega
  exact ⟨(fun _ h => (by cases h)), [Value.int x], ag_one hx, List.forall_mem_cons.mpr ⟨⟨show (20 : Nat) < 100 from by decide, nf0⟩, List.forall_mem_cons.mpr ⟨⟨show (20 : Nat) < 100 from by decide, nf1⟩, List.forall_mem_cons.mpr ⟨⟨show (20 : Nat) < 100 from by decide, nf2⟩, List.forall_mem_cons.mpr ⟨⟨show (20 : Nat) < 100 from by decide, nf3⟩, List.forall_mem_cons.mpr ⟨⟨show (24 : Nat) < 100 from by decide, nf4⟩, List.forall_mem_cons.mpr ⟨⟨show (20 : Nat) < 100 from by decide, nf5⟩, List.forall_mem_cons.mpr ⟨⟨show (20 : Nat) < 100 from by decide, nf6⟩, (fun _ h => (by cases h))⟩⟩⟩⟩⟩⟩⟩, List.forall_mem_cons.mpr ⟨ho, (fun _ h => (by cases h))⟩⟩
def o_Mo_read_10 : or_T := (163, 9, [(0, (2, 0, 0, [150])), (3, (2, 0, 0, [150]))], [(20, [3], [50, 0, 2, 3, 4, 5, 2, 0, 4, 0, 5, 3, 0, 3, 7, 0, 3, 0, 4, 7, 0]), (24, [0, 3], [])], [], [], [(20, [0], [50, 0, 2, 3, 4, 5, 2, 0, 4, 0, 5, 3, 0, 3, 7, 0, 3, 0, 4, 7, 0])], [], [])
theorem oo_Mo_read_10 {kA : Nat → ClassId} : or_ok kA GG o_Mo_read_10 := by
  intro A ta ws vs hD hth hl hk hds hf
  have hl : vs.length = 9 := hl
  have hk : ∀ q ∈ ([(0, (2, 0, 0, [150])), (3, (2, 0, 0, [150]))] : List (Nat × tv_T)), tv_ok ta q.2 (n_v vs q.1) := hk
  obtain ⟨t0, hk⟩ := List.forall_mem_cons.mp hk
  have t0 : tv_ok ta (2, 0, 0, [150]) (n_v vs 0) := t0
  have r0 : ta (v_ad (n_v vs 0)) = some 150 := tv_rg t0
  obtain ⟨t3, hk⟩ := List.forall_mem_cons.mp hk
  have t3 : tv_ok ta (2, 0, 0, [150]) (n_v vs 3) := t3
  have r3 : ta (v_ad (n_v vs 3)) = some 150 := tv_rg t3
  have hf : fc_ok [(20, [3], [50, 0, 2, 3, 4, 5, 2, 0, 4, 0, 5, 3, 0, 3, 7, 0, 3, 0, 4, 7, 0]), (24, [0, 3], [])] ta ws vs := hf
  obtain ⟨f0, hf⟩ := fc_un (show (20 : Nat) < 100 from by decide) hf
  have f0 : ∀ j0 : Int, 0 ≤ j0 → j0 < 4 → (w_ei ws (w_ar ws (n_v vs 3) 3) (j0) ≤ w_ei ws (w_ar ws (n_v vs 3) 4) (j0)) := f0
  obtain ⟨f1, hf⟩ := fc_un (show (24 : Nat) < 100 from by decide) hf
  have f1 : n_v vs 0 = n_v vs 3 := f1
  have q3 : n_v vs 3 = n_v vs 0 := f1.symm
  rw [q3] at f0
  have cr_0_3 : ta (w_ar ws (n_v vs 0) 3) = some 153 := tv_rg (th_fd hD hth r0 (g := GG_150) rfl (k := 3) (t := (2, 0, 0, [153])) rfl rfl)
  have cr_0_4 : ta (w_ar ws (n_v vs 0) 4) = some 154 := tv_rg (th_fd hD hth r0 (g := GG_150) rfl (k := 4) (t := (2, 0, 0, [154])) rfl rfl)
  have hK_0_3 : ∀ j : Int, 0 ≤ j → j < 4 → 0 ≤ w_ei ws (w_ar ws (n_v vs 0) 3) j ∧ w_ei ws (w_ar ws (n_v vs 0) 3) j ≤ 30 := fun j h0 h1 => th_el hD hth cr_0_3 (kd := 0) (n := 4) (m := 4) (lo := 0) (hi := 30) (rs := []) (L := []) rfl (by decide) (j := j.toNat) (by omega)
  have hK_0_4 : ∀ j : Int, 0 ≤ j → j < 4 → 0 ≤ w_ei ws (w_ar ws (n_v vs 0) 4) j ∧ w_ei ws (w_ar ws (n_v vs 0) 4) j ≤ 30 := fun j h0 h1 => th_el hD hth cr_0_4 (kd := 0) (n := 4) (m := 4) (lo := 0) (hi := 30) (rs := []) (L := []) rfl (by decide) (j := j.toNat) (by omega)
  have nf0 : fc_1 (20, [0], [50, 0, 2, 3, 4, 5, 2, 0, 4, 0, 5, 3, 0, 3, 7, 0, 3, 0, 4, 7, 0]) ws (vs) := by
    refine ⟨fun n hn => ?_, ?_⟩
    · have hn : n ∈ [0] := hn
      rw [hl]
      simp only [List.mem_cons, List.not_mem_nil, or_false] at hn
      show n < 9; omega
    · show ∀ j0 : Int, 0 ≤ j0 → j0 < 4 → (w_ei ws (w_ar ws (n_v vs 0) 3) (j0) ≤ w_ei ws (w_ar ws (n_v vs 0) 4) (j0))
      first | omega | grind
  refine ⟨(fun _ h => (by cases h)), [], trivial, ?_, (fun _ h => (by cases h))⟩
  rw [List.append_nil]
  exact List.forall_mem_cons.mpr ⟨⟨show (20 : Nat) < 100 from by decide, nf0⟩, (fun _ h => (by cases h))⟩
def o_Mo_read_11 : or_T := (155, 13, [(6, (0, 0, 538, [])), (9, (5, 0, 66297, [539])), (10, (0, 0, 66835, [])), (12, (0, -1, 255, [])), (11, (2, 0, 0, [155]))], [(10, [12, 11, 6], []), (1, [10, 9, 6], [])], [], [], [(18, [10, 12], [1])], [], [(10, 6, 0, 66297), (10, 9, 0, 538)])
theorem oo_Mo_read_11 {kA : Nat → ClassId} : or_ok kA GG o_Mo_read_11 := by
  intro A ta ws vs hD hth hl hk hds hf
  have hl : vs.length = 13 := hl
  have hk : ∀ q ∈ ([(6, (0, 0, 538, [])), (9, (5, 0, 66297, [539])), (10, (0, 0, 66835, [])), (12, (0, -1, 255, [])), (11, (2, 0, 0, [155]))] : List (Nat × tv_T)), tv_ok ta q.2 (n_v vs q.1) := hk
  obtain ⟨t6, hk⟩ := List.forall_mem_cons.mp hk
  have t6 : tv_ok ta (0, 0, 538, []) (n_v vs 6) := t6
  have k6 : 0 ≤ v_iv (n_v vs 6) ∧ v_iv (n_v vs 6) ≤ 538 := tv_rng t6
  obtain ⟨t9, hk⟩ := List.forall_mem_cons.mp hk
  have t9 : tv_ok ta (5, 0, 66297, [539]) (n_v vs 9) := t9
  obtain ⟨k9, q9_⟩ : (0 ≤ v_iv (n_v vs 9) ∧ v_iv (n_v vs 9) ≤ 66297) ∧ ∃ q : Int, v_iv (n_v vs 9) = 539 * q := tv_dvk t9
  obtain ⟨q9, hq9⟩ := q9_
  obtain ⟨t10, hk⟩ := List.forall_mem_cons.mp hk
  have t10 : tv_ok ta (0, 0, 66835, []) (n_v vs 10) := t10
  have k10 : 0 ≤ v_iv (n_v vs 10) ∧ v_iv (n_v vs 10) ≤ 66835 := tv_rng t10
  obtain ⟨t12, hk⟩ := List.forall_mem_cons.mp hk
  have t12 : tv_ok ta (0, -1, 255, []) (n_v vs 12) := t12
  have k12 : (-1) ≤ v_iv (n_v vs 12) ∧ v_iv (n_v vs 12) ≤ 255 := tv_rng t12
  obtain ⟨t11, hk⟩ := List.forall_mem_cons.mp hk
  have t11 : tv_ok ta (2, 0, 0, [155]) (n_v vs 11) := t11
  have r11 : ta (v_ad (n_v vs 11)) = some 155 := tv_rg t11
  have hds : ∀ q ∈ ([(10, 6, 0, 66297), (10, 9, 0, 538)] : List of_T), n_iv vs q.2.1 + q.2.2.1 ≤ n_iv vs q.1 ∧ n_iv vs q.1 ≤ n_iv vs q.2.1 + q.2.2.2 := hds
  obtain ⟨d0, hds⟩ := List.forall_mem_cons.mp hds
  have d0 : v_iv (n_v vs 6) + 0 ≤ v_iv (n_v vs 10) ∧ v_iv (n_v vs 10) ≤ v_iv (n_v vs 6) + 66297 := d0
  obtain ⟨d1, hds⟩ := List.forall_mem_cons.mp hds
  have d1 : v_iv (n_v vs 9) + 0 ≤ v_iv (n_v vs 10) ∧ v_iv (n_v vs 10) ≤ v_iv (n_v vs 9) + 538 := d1
  have hf : fc_ok [(10, [12, 11, 6], []), (1, [10, 9, 6], [])] ta ws vs := hf
  obtain ⟨f0, hf⟩ := fc_un (show (10 : Nat) < 100 from by decide) hf
  have f0 : v_iv (n_v vs 12) = w_el ws (v_ad (n_v vs 11)) (v_iv (n_v vs 6)).toNat := f0
  obtain ⟨f1, hf⟩ := fc_un (show (1 : Nat) < 100 from by decide) hf
  have f1 : v_iv (n_v vs 10) = v_iv (n_v vs 9) + v_iv (n_v vs 6) := f1
  have nf0 : fc_1 (18, [10, 12], [1]) ws (vs) := by
    refine ⟨fun n hn => ?_, ?_⟩
    · have hn : n ∈ [10, 12] := hn
      rw [hl]
      simp only [List.mem_cons, List.not_mem_nil, or_false] at hn
      show n < 13; omega
    · show pl_ok 1 (v_iv (n_v vs 10)).toNat (v_iv (n_v vs 12))
      have e0 := pl_cp hD hth r11 (g := GG_155) rfl rfl rfl pl_M1 (i := (v_iv (n_v vs 6)).toNat) (j := (v_iv (n_v vs 10)).toNat) (by show (v_iv (n_v vs 6)).toNat < 539; omega) (by omega)
      rw [← f0] at e0
      exact e0
  refine ⟨(fun _ h => (by cases h)), [], trivial, ?_, (fun _ h => (by cases h))⟩
  rw [List.append_nil]
  exact List.forall_mem_cons.mpr ⟨⟨show (18 : Nat) < 100 from by decide, nf0⟩, (fun _ h => (by cases h))⟩
def n_Mo_read_an : List an_T := [(58, [(0, (2, 0, 0, [150])), (1, (0, 0, 3, [])), (2, (0, 0, 2000, [])), (3, (0, 0, 539, []))], [], (0, 0), [(0, 0, 99942), (1, 6, 539), (0, 0, 100000)], [(1, 2, -1000000000000, 3), (1, 4, -1000000000000, 0), (1, 5, -1000000000000, 3), (1, 6, -1000000000000, 3), (2, 1, -1000000000000, 2000), (2, 4, -1000000000000, 2000), (2, 5, -1000000000000, 0), (2, 6, -1000000000000, 2000), (4, 1, -1000000000000, 0), (4, 2, -1000000000000, 3), (4, 5, -1000000000000, 3), (4, 6, -1000000000000, 3), (5, 1, -1000000000000, 2000), (5, 2, -1000000000000, 0), (5, 4, -1000000000000, 2000), (5, 6, -1000000000000, 2000)], [], [(2, 0, 0, [150]), (0, -2147483648, 2147483647, []), (0, -2147483648, 2147483647, [])], 0, [], [(20, [3], [50, 0, 2, 3, 4, 5, 2, 0, 4, 0, 5, 3, 0, 3, 7, 0, 3, 0, 4, 7, 0]), (24, [0, 3], [])]), (100, [(0, (2, 0, 0, [150])), (1, (0, 0, 3, [])), (2, (0, 0, 2000, [])), (3, (0, 539, 2147483647, []))], [], (0, 0), [(0, 0, 99900), (2, 7, 0), (0, 0, 100000)], [(1, 2, -1000000000000, 3), (1, 4, -1000000000000, 0), (1, 5, -1000000000000, 3), (1, 6, -1000000000000, -536), (2, 1, -1000000000000, 2000), (2, 4, -1000000000000, 2000), (2, 5, -1000000000000, 0), (2, 6, -1000000000000, 1461), (4, 1, -1000000000000, 0), (4, 2, -1000000000000, 3), (4, 5, -1000000000000, 3), (4, 6, -1000000000000, -536), (5, 1, -1000000000000, 2000), (5, 2, -1000000000000, 0), (5, 4, -1000000000000, 2000), (5, 6, -1000000000000, 1461)], [], [(2, 0, 0, [150]), (0, -2147483648, 2147483647, []), (0, -2147483648, 2147483647, [])], 0, [(0, 0, 2005, [])], [(20, [3], [50, 0, 2, 3, 4, 5, 2, 0, 4, 0, 5, 3, 0, 3, 7, 0, 3, 0, 4, 7, 0]), (20, [3, 3], [30, 0, 1, 1, 15, -1, 1, 11]), (20, [3], [50, 3, 0, 12, 11, 15, 2, 21, 4, 7, 1, 3, 2, 0, 12, 0, 1, 0, 3, 2, 0, 11, 4, 3, 2, 0, 15, 0, 8, 3, 7, 1, 3, 2, 0, 12, 0, 0, 0, 7, 4, 3, 2, 0, 15, 0, 1, 2, 0, 11]), (20, [3], [50, 1, 1, 5, 2, 0, 2, 0, 1, 3, 0, 2, 4, 3, 2, 0, 5, 0, 2]), (24, [0, 3], []), (20, [7, 3, 3], [30, 2005, 1, 0, 0, 1, 1, 11, 1, 1, 8]), (20, [7, 3, 3], [30, -2005, -1, 0, 0, -1, 1, 11, -1, 1, 8])]), (120, [(0, (2, 0, 0, [150])), (1, (0, 0, 3, [])), (2, (0, 0, 2000, [])), (3, (0, 539, 2147483647, []))], [], (0, 0), [(0, 0, 99900), (2, 7, 0), (0, 0, 99880)], [(1, 2, -1000000000000, 3), (1, 4, -1000000000000, 0), (1, 5, -1000000000000, 3), (1, 6, -1000000000000, -536), (2, 1, -1000000000000, 2000), (2, 4, -1000000000000, 2000), (2, 5, -1000000000000, 0), (2, 6, -1000000000000, 1461), (4, 1, -1000000000000, 0), (4, 2, -1000000000000, 3), (4, 5, -1000000000000, 3), (4, 6, -1000000000000, -536), (5, 1, -1000000000000, 2000), (5, 2, -1000000000000, 0), (5, 4, -1000000000000, 2000), (5, 6, -1000000000000, 1461)], [], [(2, 0, 0, [150]), (0, -2147483648, 2147483647, []), (0, -2147483648, 2147483647, [])], 0, [(0, 0, 2005, [])], [(20, [3], [50, 0, 2, 3, 4, 5, 2, 0, 4, 0, 5, 3, 0, 3, 7, 0, 3, 0, 4, 7, 0]), (20, [3, 3], [30, 0, 1, 1, 15, -1, 1, 11]), (20, [3], [50, 3, 0, 12, 11, 15, 2, 21, 4, 7, 1, 3, 2, 0, 12, 0, 1, 0, 3, 2, 0, 11, 4, 3, 2, 0, 15, 0, 8, 3, 7, 1, 3, 2, 0, 12, 0, 0, 0, 7, 4, 3, 2, 0, 15, 0, 1, 2, 0, 11]), (20, [3], [50, 1, 1, 5, 2, 0, 2, 0, 1, 3, 0, 2, 4, 3, 2, 0, 5, 0, 2]), (20, [7, 3, 3], [30, -2006, -1, 0, 0, -1, 1, 11, -1, 1, 8]), (24, [0, 3], [])]), (132, [(0, (2, 0, 0, [150])), (1, (0, 0, 3, [])), (2, (0, 0, 2000, [])), (3, (0, 0, 539, []))], [], (0, 0), [(0, 0, 99868), (1, 6, 539), (0, 0, 100000)], [(1, 2, -1000000000000, 3), (1, 4, -1000000000000, 0), (1, 5, -1000000000000, 3), (1, 6, -1000000000000, 3), (2, 1, -1000000000000, 2000), (2, 4, -1000000000000, 2000), (2, 5, -1000000000000, 0), (2, 6, -1000000000000, 2000), (4, 1, -1000000000000, 0), (4, 2, -1000000000000, 3), (4, 5, -1000000000000, 3), (4, 6, -1000000000000, 3), (5, 1, -1000000000000, 2000), (5, 2, -1000000000000, 0), (5, 4, -1000000000000, 2000), (5, 6, -1000000000000, 2000)], [], [(2, 0, 0, [150]), (0, -2147483648, 2147483647, []), (0, -2147483648, 2147483647, [])], 0, [], [(20, [3], [50, 0, 2, 3, 4, 5, 2, 0, 4, 0, 5, 3, 0, 3, 7, 0, 3, 0, 4, 7, 0]), (24, [0, 3], [])])]
def t_Mo_read_ct : ct_L := [(0, 372, e_Mo_rowOf), (0, 521, e_Mo_isPlace), (1, 376, e_Mo_clear), (1, 460, e_Mo_next), (1, 475, e_Mo_nodes), (1, 524, e_Mo_changed), (355, 512, e_Mo_item_at_k0)]
set_option maxRecDepth 100000 in
theorem c_Mo_read {l : Launch} {D : va_G} {kA : Nat → ClassId} (h_Mo_changed : ct_ok l D kA GG y_Mo_changed z_Mo_changed e_Mo_changed) (h_Mo_clear : ct_ok l D kA GG y_Mo_clear z_Mo_clear e_Mo_clear) (h_Mo_isPlace : ct_ok l D kA GG y_Mo_isPlace z_Mo_isPlace e_Mo_isPlace) (h_Mo_item_at_k0 : ct_ok l D kA GG y_Mo_item_at_k0 z_Mo_item_at_k0 e_Mo_item_at_k0) (h_Mo_next : ct_ok l D kA GG y_Mo_next z_Mo_next e_Mo_next) (h_Mo_nodes : ct_ok l D kA GG y_Mo_nodes z_Mo_nodes e_Mo_nodes) (h_Mo_rowOf : ct_ok l D kA GG y_Mo_rowOf z_Mo_rowOf e_Mo_rowOf) : ct_ok l D kA GG y_Mo_read z_Mo_read e_Mo_read := chk_all_ok (FT := [(16, 13, 2), (20, 13, 3), (23, 13, 4), (26, 13, 6), (383, 13, 0), (391, 13, 5), (413, 13, 8), (434, 13, 12)]) (PT := [(383, 13, 0, .int), (391, 13, 5, .int), (409, 13, 7, .boolean), (413, 13, 8, .int), (419, 13, 10, .int), (422, 13, 11, .int)]) (CT := t_Mo_read_ct) (KT := []) (NT := []) (AN := n_Mo_read_an) (OT := [o_Mo_read_0, o_Mo_read_1, o_Mo_read_2, o_Mo_read_3, o_Mo_read_4, o_Mo_read_5, o_Mo_read_6, o_Mo_read_7, o_Mo_read_8, o_Mo_read_9, o_Mo_read_10, o_Mo_read_11]) 3 464 (List.forall_mem_cons.mpr ⟨oo_Mo_read_0, List.forall_mem_cons.mpr ⟨oo_Mo_read_1, List.forall_mem_cons.mpr ⟨oo_Mo_read_2, List.forall_mem_cons.mpr ⟨oo_Mo_read_3, List.forall_mem_cons.mpr ⟨oo_Mo_read_4, List.forall_mem_cons.mpr ⟨oo_Mo_read_5, List.forall_mem_cons.mpr ⟨oo_Mo_read_6, List.forall_mem_cons.mpr ⟨oo_Mo_read_7, List.forall_mem_cons.mpr ⟨oo_Mo_read_8, List.forall_mem_cons.mpr ⟨oo_Mo_read_9, List.forall_mem_cons.mpr ⟨oo_Mo_read_10, List.forall_mem_cons.mpr ⟨oo_Mo_read_11, List.forall_mem_nil _⟩⟩⟩⟩⟩⟩⟩⟩⟩⟩⟩⟩) (by decide +kernel) ⟨List.forall_mem_cons.mpr ⟨gf_Mo_16, List.forall_mem_cons.mpr ⟨gf_Mo_20, List.forall_mem_cons.mpr ⟨gf_Mo_23, List.forall_mem_cons.mpr ⟨gf_Mo_26, List.forall_mem_cons.mpr ⟨gf_Mo_383, List.forall_mem_cons.mpr ⟨gf_Mo_391, List.forall_mem_cons.mpr ⟨gf_Mo_413, List.forall_mem_cons.mpr ⟨gf_Mo_434, List.forall_mem_nil _⟩⟩⟩⟩⟩⟩⟩⟩, List.forall_mem_cons.mpr ⟨pf_Mo_383, List.forall_mem_cons.mpr ⟨pf_Mo_391, List.forall_mem_cons.mpr ⟨pf_Mo_409, List.forall_mem_cons.mpr ⟨pf_Mo_413, List.forall_mem_cons.mpr ⟨pf_Mo_419, List.forall_mem_cons.mpr ⟨pf_Mo_422, List.forall_mem_nil _⟩⟩⟩⟩⟩⟩, List.forall_mem_cons.mpr ⟨cl_static (y := y_Mo_rowOf) h_Mo_rowOf wm_2420 wm_9 wm_2418 wm_2419 ⟨by decide, by decide, by decide +kernel⟩ (by decide), List.forall_mem_cons.mpr ⟨cl_static (y := y_Mo_isPlace) h_Mo_isPlace wm_2978 wm_9 wm_2976 wm_2977 ⟨by decide, by decide, by decide +kernel⟩ (by decide), List.forall_mem_cons.mpr ⟨cl_virtual (y := y_Mo_clear) (ci := 13) rfl rfl ⟨_, _, rfl⟩ (by decide +kernel) h_Mo_clear wm_2424 wm_9 wm_2421 wm_2423 wv_12_8 ⟨by decide, by decide, by decide +kernel⟩ (by decide), List.forall_mem_cons.mpr ⟨cl_virtual (y := y_Mo_next) (ci := 13) rfl rfl ⟨_, _, rfl⟩ (by decide +kernel) h_Mo_next wm_2982 wm_9 wm_2979 wm_2981 wv_12_11 ⟨by decide, by decide, by decide +kernel⟩ (by decide), List.forall_mem_cons.mpr ⟨cl_virtual (y := y_Mo_nodes) (ci := 13) rfl rfl ⟨_, _, rfl⟩ (by decide +kernel) h_Mo_nodes wm_3025 wm_9 wm_3022 wm_3024 wv_13_3 ⟨by decide, by decide, by decide +kernel⟩ (by decide), List.forall_mem_cons.mpr ⟨cl_virtual (y := y_Mo_changed) (ci := 13) rfl rfl ⟨_, _, rfl⟩ (by decide +kernel) h_Mo_changed wm_3083 wm_9 wm_3080 wm_3082 wv_14_1 ⟨by decide, by decide, by decide +kernel⟩ (by decide), List.forall_mem_cons.mpr ⟨cl_virtual (y := y_Mo_item_at_k0) (ci := 13) rfl rfl ⟨_, _, rfl⟩ (by decide +kernel) h_Mo_item_at_k0 wm_2997 wm_9 wm_2994 wm_2996 wv_12_13 ⟨by decide, by decide, by decide +kernel⟩ (by decide), List.forall_mem_nil _⟩⟩⟩⟩⟩⟩⟩, List.forall_mem_nil _, List.forall_mem_nil _, GG_pl⟩ (by decide +kernel)
