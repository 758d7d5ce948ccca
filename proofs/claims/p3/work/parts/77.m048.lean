
set_option maxRecDepth 100000 in
theorem c_Mo_word_at_s5003 {l : Launch} {D : va_G} {kA : Nat → ClassId} (h_Mo_byteAt : ct_ok PRD l D kA GG y_Mo_byteAt z_Mo_byteAt e_Mo_byteAt) : ct_ok PRD l D kA GG y_Mo_word_at_s5003 z_Mo_word_at_s5003 e_Mo_word_at_s5003 := chk_all_ok (FT := [(342, 13, 160), (348, 13, 162), (351, 13, 163), (413, 13, 8), (1169, 13, 158)]) (PT := []) (CT := t_Mo_word_at_s5003_ct) (KT := []) (NT := []) (AN := n_Mo_word_at_s5003_an) (OT := [o_Mo_word_at_s5003_0, o_Mo_word_at_s5003_1, o_Mo_word_at_s5003_2, o_Mo_word_at_s5003_3, o_Mo_word_at_s5003_4, o_Mo_word_at_s5003_5, o_Mo_word_at_s5003_6, o_Mo_word_at_s5003_7, o_Mo_word_at_s5003_8, o_Mo_word_at_s5003_9, o_Mo_word_at_s5003_10, o_Mo_word_at_s5003_11, o_Mo_word_at_s5003_12, o_Mo_word_at_s5003_13, o_Mo_word_at_s5003_14, o_Mo_word_at_s5003_15]) 0 1516 (List.forall_mem_cons.mpr ⟨oo_Mo_word_at_s5003_0, List.forall_mem_cons.mpr ⟨oo_Mo_word_at_s5003_1, List.forall_mem_cons.mpr ⟨oo_Mo_word_at_s5003_2, List.forall_mem_cons.mpr ⟨oo_Mo_word_at_s5003_3, List.forall_mem_cons.mpr ⟨oo_Mo_word_at_s5003_4, List.forall_mem_cons.mpr ⟨oo_Mo_word_at_s5003_5, List.forall_mem_cons.mpr ⟨oo_Mo_word_at_s5003_6, List.forall_mem_cons.mpr ⟨oo_Mo_word_at_s5003_7, List.forall_mem_cons.mpr ⟨oo_Mo_word_at_s5003_8, List.forall_mem_cons.mpr ⟨oo_Mo_word_at_s5003_9, List.forall_mem_cons.mpr ⟨oo_Mo_word_at_s5003_10, List.forall_mem_cons.mpr ⟨oo_Mo_word_at_s5003_11, List.forall_mem_cons.mpr ⟨oo_Mo_word_at_s5003_12, List.forall_mem_cons.mpr ⟨oo_Mo_word_at_s5003_13, List.forall_mem_cons.mpr ⟨oo_Mo_word_at_s5003_14, List.forall_mem_cons.mpr ⟨oo_Mo_word_at_s5003_15, List.forall_mem_nil _⟩⟩⟩⟩⟩⟩⟩⟩⟩⟩⟩⟩⟩⟩⟩⟩) (by decide +kernel) ⟨List.forall_mem_cons.mpr ⟨gf_Mo_342, List.forall_mem_cons.mpr ⟨gf_Mo_348, List.forall_mem_cons.mpr ⟨gf_Mo_351, List.forall_mem_cons.mpr ⟨gf_Mo_413, List.forall_mem_cons.mpr ⟨gf_Mo_1169, List.forall_mem_nil _⟩⟩⟩⟩⟩, List.forall_mem_nil _, List.forall_mem_cons.mpr ⟨cl_virtual (y := y_Mo_byteAt) (ci := 13) rfl rfl ⟨_, _, rfl⟩ (by decide +kernel) h_Mo_byteAt wm_2986 wm_9 wm_2983 wm_2985 wv_12_12 ⟨by decide, by decide, by decide +kernel⟩ (by decide), List.forall_mem_cons.mpr ⟨cl_string (y := y_jStr_length) (i := 3) rfl rfl (by decide +kernel) rfl c_jStr_length_v336 wm_674 wm_11 wm_3003 wm_672 wm_673 ⟨by decide, by decide, by decide +kernel⟩ (by decide), List.forall_mem_cons.mpr ⟨cl_string (y := y_jStr_length) (i := 3) rfl rfl (by decide +kernel) rfl c_jStr_length_v336 wm_674 wm_11 wm_3003 wm_672 wm_673 ⟨by decide, by decide, by decide +kernel⟩ (by decide), List.forall_mem_cons.mpr ⟨cl_string (y := y_jStr_charAt) (i := 3) rfl rfl (by decide +kernel) rfl c_jStr_charAt_v337 wm_684 wm_11 wm_3004 wm_682 wm_683 ⟨by decide, by decide, by decide +kernel⟩ (by decide), List.forall_mem_cons.mpr ⟨cl_string (y := y_jStr_charAt) (i := 3) rfl rfl (by decide +kernel) rfl c_jStr_charAt_v341 wm_684 wm_11 wm_3004 wm_682 wm_683 ⟨by decide, by decide, by decide +kernel⟩ (by decide), List.forall_mem_cons.mpr ⟨cl_string (y := y_jStr_charAt) (i := 3) rfl rfl (by decide +kernel) rfl c_jStr_charAt_v345 wm_684 wm_11 wm_3004 wm_682 wm_683 ⟨by decide, by decide, by decide +kernel⟩ (by decide), List.forall_mem_cons.mpr ⟨cl_string (y := y_jStr_charAt) (i := 3) rfl rfl (by decide +kernel) rfl c_jStr_charAt_v349 wm_684 wm_11 wm_3004 wm_682 wm_683 ⟨by decide, by decide, by decide +kernel⟩ (by decide), List.forall_mem_cons.mpr ⟨cl_string (y := y_jStr_charAt) (i := 3) rfl rfl (by decide +kernel) rfl c_jStr_charAt_v353 wm_684 wm_11 wm_3004 wm_682 wm_683 ⟨by decide, by decide, by decide +kernel⟩ (by decide), List.forall_mem_cons.mpr ⟨cl_string (y := y_jStr_charAt) (i := 3) rfl rfl (by decide +kernel) rfl c_jStr_charAt_v357 wm_684 wm_11 wm_3004 wm_682 wm_683 ⟨by decide, by decide, by decide +kernel⟩ (by decide), List.forall_mem_nil _⟩⟩⟩⟩⟩⟩⟩⟩⟩, List.forall_mem_nil _, List.forall_mem_nil _, GG_pl⟩ (by decide +kernel)
set_option maxHeartbeats 4000000 in
theorem vc_Mo_word_at_s5022_0_0 (x2 : Int) (x3 : Int) (fault_0 : Int) (tape_0 : Int → Int) (tokenKind_0 : Int → Int) (tokenPlace_0 : Int → Int) (tokenEnd_0 : Int → Int) (limit_0 : Int) (cur_0 : Int) (k2 : 1 ≤ x2 ∧ x2 ≤ 5) (k3 : 0 ≤ x3 ∧ x3 ≤ 0) (f0 : x3 = 0) (f1 : x2 ≠ 0) (g2 : x2 = fault_0) (hK_0_1 : ∀ j : Int, 0 ≤ j → j < 2000 → (-128) ≤ tape_0 j ∧ tape_0 j ≤ 127) (hK_0_160 : ∀ j : Int, 0 ≤ j → j < 2010 → 0 ≤ tokenKind_0 j ∧ tokenKind_0 j ≤ 4) (hK_0_162 : ∀ j : Int, 0 ≤ j → j < 2010 → 0 ≤ tokenPlace_0 j ∧ tokenPlace_0 j ≤ 2000) (hK_0_163 : ∀ j : Int, 0 ≤ j → j < 2010 → 0 ≤ tokenEnd_0 j ∧ tokenEnd_0 j ≤ 2000) (kz_0_8 : 0 ≤ fault_0 ∧ fault_0 ≤ 5) (kz_0_10 : 0 ≤ limit_0 ∧ limit_0 ≤ 2000) (kz_0_158 : 0 ≤ cur_0 ∧ cur_0 ≤ 2009) : (x3 = 1) → (tokenKind_0 (cur_0) = 1) := by
  first | assumption | (clear hK_0_1 hK_0_160 hK_0_162 hK_0_163; omega) | omega | grind
set_option maxHeartbeats 4000000 in
theorem vc_Mo_word_at_s5022_0_1 (x2 : Int) (x3 : Int) (fault_0 : Int) (tape_0 : Int → Int) (tokenKind_0 : Int → Int) (tokenPlace_0 : Int → Int) (tokenEnd_0 : Int → Int) (limit_0 : Int) (cur_0 : Int) (k2 : 1 ≤ x2 ∧ x2 ≤ 5) (k3 : 0 ≤ x3 ∧ x3 ≤ 0) (g2 : x2 = fault_0) (kz_0_8 : 0 ≤ fault_0 ∧ fault_0 ≤ 5) (kz_0_10 : 0 ≤ limit_0 ∧ limit_0 ≤ 2000) (kz_0_158 : 0 ≤ cur_0 ∧ cur_0 ≤ 2009) : Wqedge (fault_0) (cur_0) (limit_0) (tokenKind_0) (tokenPlace_0) (tokenEnd_0) (tape_0) (x3) := by
  first
    | exact ⟨fun z => by omega, fun z => by have := z.1; omega⟩
    | (have e := (‹x4 = cur_0›)
       rw [← e]
       refine ⟨fun z => ⟨by omega, wdS4.2 ⟨by omega, by omega, by omega, by rw [show tokenPlace_0 x4 + 0 = x17 by omega]; omega, by rw [show tokenPlace_0 x4 + 1 = x24 by omega]; omega, by rw [show tokenPlace_0 x4 + 2 = x31 by omega]; omega, by rw [show tokenPlace_0 x4 + 3 = x38 by omega]; omega⟩⟩, fun z => by omega⟩)
    | (have e := (‹x4 = cur_0›)
       rw [← e]
       refine ⟨fun z => by omega, fun z => ?_⟩
       have w := wdS4.1 z.2
       try (have q0 : tokenPlace_0 x4 + 0 = x17 := (by omega); rw [q0] at w)
       try (have q1 : tokenPlace_0 x4 + 1 = x24 := (by omega); rw [q1] at w)
       try (have q2 : tokenPlace_0 x4 + 2 = x31 := (by omega); rw [q2] at w)
       try (have q3 : tokenPlace_0 x4 + 3 = x38 := (by omega); rw [q3] at w)
       omega)
  
def o_Mo_word_at_s5022_0 : or_T := (102, 6, [(0, (2, 0, 0, [165])), (2, (0, 1, 5, [])), (3, (0, 0, 0, []))], [(8, [3], [0]), (8, [2], [1]), (9, [2, 0], [8])], [], [], [(20, [3, 0], [50, 1, 1, 1158, 1160, 4, 6, 1, 2, 1, 0, 0, 1, 1, 6, 3, 1, 160, 2, 1, 158, 0, 1]), (20, [0, 3], [60, 3, 4, 20, 8, 158, 10, 160, 162, 163, 1])], [], [])
theorem oo_Mo_word_at_s5022_0 {kA : Nat → ClassId} : or_ok PRD kA GG o_Mo_word_at_s5022_0 := by
  refine or_mk fun A ta ws vs hD hth hl => ?_
  intro t0 r0 t2 k2 t3 k3 f0 f1 f2
  replace f2 := shm_293 f2
  have cr_0_1 := fdq_39 hD hth r0
  have cr_0_160 := fdq_33 hD hth r0
  have cr_0_162 := fdq_41 hD hth r0
  have cr_0_163 := fdq_42 hD hth r0
  have g2 : v_iv (n_v vs 2) = w_fi ws (n_v vs 0) 8 := congrArg v_iv f2
  have hK_0_1 := elq_7 hD hth cr_0_1
  have hK_0_160 := elq_6 hD hth cr_0_160
  have hK_0_162 := elq_8 hD hth cr_0_162
  have hK_0_163 := elq_9 hD hth cr_0_163
  have kz_0_8 := fdq_34 hD hth r0
  have kz_0_10 := fdq_43 hD hth r0
  have kz_0_158 := fdq_36 hD hth r0
  have nf0 : fc_1 PRD (20, [3, 0], [50, 1, 1, 1158, 1160, 4, 6, 1, 2, 1, 0, 0, 1, 1, 6, 3, 1, 160, 2, 1, 158, 0, 1]) ws (vs) := ⟨nf_in hl rfl, sgq_287 (vc_Mo_word_at_s5022_0_0 (v_iv (n_v vs 2)) (v_iv (n_v vs 3)) (w_fi ws (n_v vs 0) 8) (w_ei ws (w_ar ws (n_v vs 0) 1)) (w_ei ws (w_ar ws (n_v vs 0) 160)) (w_ei ws (w_ar ws (n_v vs 0) 162)) (w_ei ws (w_ar ws (n_v vs 0) 163)) (w_fi ws (n_v vs 0) 10) (w_fi ws (n_v vs 0) 158) k2 k3 (shm_192 f0) (shm_142 f1) g2 hK_0_1 hK_0_160 hK_0_162 hK_0_163 kz_0_8 kz_0_10 kz_0_158)⟩
  have nf1 : fc_1 PRD (20, [0, 3], [60, 3, 4, 20, 8, 158, 10, 160, 162, 163, 1]) ws (vs) := ⟨nf_in hl rfl, sgq_1867 (vc_Mo_word_at_s5022_0_1 (v_iv (n_v vs 2)) (v_iv (n_v vs 3)) (w_fi ws (n_v vs 0) 8) (w_ei ws (w_ar ws (n_v vs 0) 1)) (w_ei ws (w_ar ws (n_v vs 0) 160)) (w_ei ws (w_ar ws (n_v vs 0) 162)) (w_ei ws (w_ar ws (n_v vs 0) 163)) (w_fi ws (n_v vs 0) 10) (w_fi ws (n_v vs 0) 158) k2 k3 g2 kz_0_8 kz_0_10 kz_0_158)⟩
  refine ⟨(fun _ h => (by cases h)), [], trivial, ?_, (fun _ h => (by cases h))⟩
  rw [List.append_nil]
  exact List.forall_mem_cons.mpr ⟨⟨show (20 : Nat) < 100 from by decide, nf0⟩, List.forall_mem_cons.mpr ⟨⟨show (20 : Nat) < 100 from by decide, nf1⟩, (fun _ h => (by cases h))⟩⟩
set_option maxHeartbeats 4000000 in
theorem vc_Mo_word_at_s5022_1_0 (x2 : Int) (x4 : Int) (x5 : Int) (x6 : Int) (x7 : Int) (tokenKind_0 : Int → Int) (cur_0 : Int) (fault_0 : Int) (tape_0 : Int → Int) (tokenPlace_0 : Int → Int) (tokenEnd_0 : Int → Int) (limit_0 : Int) (k2 : 0 ≤ x2 ∧ x2 ≤ 0) (k4 : 0 ≤ x4 ∧ x4 ≤ 2009) (k5 : 0 ≤ x5 ∧ x5 ≤ 4) (k6 : 1 ≤ x6 ∧ x6 ≤ 1) (k7 : 0 ≤ x7 ∧ x7 ≤ 0) (f0 : x7 = 0) (f1 : x5 ≠ x6) (h2 : x5 = tokenKind_0 (x4)) (g3 : x4 = cur_0) (f5 : x2 = 0) (g6 : x2 = fault_0) (hK_0_1 : ∀ j : Int, 0 ≤ j → j < 2000 → (-128) ≤ tape_0 j ∧ tape_0 j ≤ 127) (hK_0_160 : ∀ j : Int, 0 ≤ j → j < 2010 → 0 ≤ tokenKind_0 j ∧ tokenKind_0 j ≤ 4) (hK_0_162 : ∀ j : Int, 0 ≤ j → j < 2010 → 0 ≤ tokenPlace_0 j ∧ tokenPlace_0 j ≤ 2000) (hK_0_163 : ∀ j : Int, 0 ≤ j → j < 2010 → 0 ≤ tokenEnd_0 j ∧ tokenEnd_0 j ≤ 2000) (kz_0_8 : 0 ≤ fault_0 ∧ fault_0 ≤ 5) (kz_0_10 : 0 ≤ limit_0 ∧ limit_0 ≤ 2000) (kz_0_158 : 0 ≤ cur_0 ∧ cur_0 ≤ 2009) : (x7 = 1) → (tokenKind_0 (cur_0) = 1) := by
  first | assumption | (clear hK_0_1 hK_0_160 hK_0_162 hK_0_163; omega) | omega | grind
set_option maxHeartbeats 4000000 in
theorem vc_Mo_word_at_s5022_1_1 (x4 : Int) (x5 : Int) (x6 : Int) (x7 : Int) (tokenKind_0 : Int → Int) (cur_0 : Int) (fault_0 : Int) (tape_0 : Int → Int) (tokenPlace_0 : Int → Int) (tokenEnd_0 : Int → Int) (limit_0 : Int) (k4 : 0 ≤ x4 ∧ x4 ≤ 2009) (k5 : 0 ≤ x5 ∧ x5 ≤ 4) (k6 : 1 ≤ x6 ∧ x6 ≤ 1) (k7 : 0 ≤ x7 ∧ x7 ≤ 0) (f1 : x5 ≠ x6) (h2 : x5 = tokenKind_0 (x4)) (g3 : x4 = cur_0) (kz_0_8 : 0 ≤ fault_0 ∧ fault_0 ≤ 5) (kz_0_10 : 0 ≤ limit_0 ∧ limit_0 ≤ 2000) (kz_0_158 : 0 ≤ cur_0 ∧ cur_0 ≤ 2009) : Wqedge (fault_0) (cur_0) (limit_0) (tokenKind_0) (tokenPlace_0) (tokenEnd_0) (tape_0) (x7) := by
  first
    | exact ⟨fun z => by omega, fun z => by have := z.1; omega⟩
    | (have e := (‹x4 = cur_0›)
       rw [← e]
       refine ⟨fun z => ⟨by omega, wdS4.2 ⟨by omega, by omega, by omega, by rw [show tokenPlace_0 x4 + 0 = x17 by omega]; omega, by rw [show tokenPlace_0 x4 + 1 = x24 by omega]; omega, by rw [show tokenPlace_0 x4 + 2 = x31 by omega]; omega, by rw [show tokenPlace_0 x4 + 3 = x38 by omega]; omega⟩⟩, fun z => by omega⟩)
    | (have e := (‹x4 = cur_0›)
       rw [← e]
       refine ⟨fun z => by omega, fun z => ?_⟩
       have w := wdS4.1 z.2
       try (have q0 : tokenPlace_0 x4 + 0 = x17 := (by omega); rw [q0] at w)
       try (have q1 : tokenPlace_0 x4 + 1 = x24 := (by omega); rw [q1] at w)
       try (have q2 : tokenPlace_0 x4 + 2 = x31 := (by omega); rw [q2] at w)
       try (have q3 : tokenPlace_0 x4 + 3 = x38 := (by omega); rw [q3] at w)
       omega)
  
def o_Mo_word_at_s5022_1 : or_T := (102, 10, [(0, (2, 0, 0, [165])), (2, (0, 0, 0, [])), (4, (0, 0, 2009, [])), (5, (0, 0, 4, [])), (6, (0, 1, 1, [])), (7, (0, 0, 0, []))], [(8, [7], [0]), (7, [5, 6], [1]), (10, [5, 3, 4], []), (9, [4, 0], [158]), (9, [3, 0], [160]), (8, [2], [0]), (9, [2, 0], [8])], [], [], [(20, [7, 0], [50, 1, 1, 1158, 1160, 4, 6, 1, 2, 1, 0, 0, 1, 1, 6, 3, 1, 160, 2, 1, 158, 0, 1]), (20, [0, 7], [60, 3, 4, 20, 8, 158, 10, 160, 162, 163, 1])], [], [])
theorem oo_Mo_word_at_s5022_1 {kA : Nat → ClassId} : or_ok PRD kA GG o_Mo_word_at_s5022_1 := by
  refine or_mk fun A ta ws vs hD hth hl => ?_
  intro t0 r0 t2 k2 t4 k4 t5 k5 t6 k6 t7 k7 f0 f1 f2 f3 f4 f5 f6
  replace f2 := shm_107 f2
  replace f3 := shm_286 f3
  replace f4 := shm_327 f4
  replace f6 := shm_293 f6
  have cr_0_1 := fdq_39 hD hth r0
  have cr_0_160 := fdq_33 hD hth r0
  have cr_0_162 := fdq_41 hD hth r0
  have cr_0_163 := fdq_42 hD hth r0
  have ad_3 : v_ad (n_v vs 3) = w_ar ws (n_v vs 0) 160 := congrArg v_ad f4
  simp only [ad_3] at f2
  have h2 : v_iv (n_v vs 5) = w_ei ws (w_ar ws (n_v vs 0) 160) (v_iv (n_v vs 4)) := f2
  have g3 : v_iv (n_v vs 4) = w_fi ws (n_v vs 0) 158 := congrArg v_iv f3
  have g6 : v_iv (n_v vs 2) = w_fi ws (n_v vs 0) 8 := congrArg v_iv f6
  have hK_0_1 := elq_7 hD hth cr_0_1
  have hK_0_160 := elq_6 hD hth cr_0_160
  have hK_0_162 := elq_8 hD hth cr_0_162
  have hK_0_163 := elq_9 hD hth cr_0_163
  have kz_0_8 := fdq_34 hD hth r0
  have kz_0_10 := fdq_43 hD hth r0
  have kz_0_158 := fdq_36 hD hth r0
  have nf0 : fc_1 PRD (20, [7, 0], [50, 1, 1, 1158, 1160, 4, 6, 1, 2, 1, 0, 0, 1, 1, 6, 3, 1, 160, 2, 1, 158, 0, 1]) ws (vs) := ⟨nf_in hl rfl, sgq_287 (vc_Mo_word_at_s5022_1_0 (v_iv (n_v vs 2)) (v_iv (n_v vs 4)) (v_iv (n_v vs 5)) (v_iv (n_v vs 6)) (v_iv (n_v vs 7)) (w_ei ws (w_ar ws (n_v vs 0) 160)) (w_fi ws (n_v vs 0) 158) (w_fi ws (n_v vs 0) 8) (w_ei ws (w_ar ws (n_v vs 0) 1)) (w_ei ws (w_ar ws (n_v vs 0) 162)) (w_ei ws (w_ar ws (n_v vs 0) 163)) (w_fi ws (n_v vs 0) 10) k2 k4 k5 k6 k7 (shm_192 f0) (shm_40 f1) h2 g3 (shm_192 f5) g6 hK_0_1 hK_0_160 hK_0_162 hK_0_163 kz_0_8 kz_0_10 kz_0_158)⟩
  have nf1 : fc_1 PRD (20, [0, 7], [60, 3, 4, 20, 8, 158, 10, 160, 162, 163, 1]) ws (vs) := ⟨nf_in hl rfl, sgq_1867 (vc_Mo_word_at_s5022_1_1 (v_iv (n_v vs 4)) (v_iv (n_v vs 5)) (v_iv (n_v vs 6)) (v_iv (n_v vs 7)) (w_ei ws (w_ar ws (n_v vs 0) 160)) (w_fi ws (n_v vs 0) 158) (w_fi ws (n_v vs 0) 8) (w_ei ws (w_ar ws (n_v vs 0) 1)) (w_ei ws (w_ar ws (n_v vs 0) 162)) (w_ei ws (w_ar ws (n_v vs 0) 163)) (w_fi ws (n_v vs 0) 10) k4 k5 k6 k7 (shm_40 f1) h2 g3 kz_0_8 kz_0_10 kz_0_158)⟩
  refine ⟨(fun _ h => (by cases h)), [], trivial, ?_, (fun _ h => (by cases h))⟩
  rw [List.append_nil]
  exact List.forall_mem_cons.mpr ⟨⟨show (20 : Nat) < 100 from by decide, nf0⟩, List.forall_mem_cons.mpr ⟨⟨show (20 : Nat) < 100 from by decide, nf1⟩, (fun _ h => (by cases h))⟩⟩
set_option maxHeartbeats 4000000 in
theorem vc_Mo_word_at_s5022_2_0 (x2 : Int) (x4 : Int) (x5 : Int) (x6 : Int) (x8 : Int) (x10 : Int) (x11 : Int) (x12 : Int) (x13 : Int) (tokenPlace_0 : Int → Int) (cur_0 : Int) (tokenEnd_0 : Int → Int) (tokenKind_0 : Int → Int) (fault_0 : Int) (tape_0 : Int → Int) (limit_0 : Int) (k2 : 0 ≤ x2 ∧ x2 ≤ 0) (k4 : 0 ≤ x4 ∧ x4 ≤ 2009) (k5 : 1 ≤ x5 ∧ x5 ≤ 1) (k6 : 1 ≤ x6 ∧ x6 ≤ 1) (k8 : 0 ≤ x8 ∧ x8 ≤ 2000) (k10 : 0 ≤ x10 ∧ x10 ≤ 2000) (k11 : (-2000) ≤ x11 ∧ x11 ≤ 2000) (k12 : 4 ≤ x12 ∧ x12 ≤ 4) (k13 : 0 ≤ x13 ∧ x13 ≤ 0) (d0 : x8 + (-2000) ≤ x11 ∧ x11 ≤ x8 + 0) (f0 : x13 = 0) (f1 : x11 ≠ x12) (f2 : x11 = x8 - x10) (h3 : x10 = tokenPlace_0 (x4)) (g4 : x4 = cur_0) (h6 : x8 = tokenEnd_0 (x4)) (f8 : x5 = x6) (h9 : x5 = tokenKind_0 (x4)) (f11 : x2 = 0) (g12 : x2 = fault_0) (hK_0_1 : ∀ j : Int, 0 ≤ j → j < 2000 → (-128) ≤ tape_0 j ∧ tape_0 j ≤ 127) (hK_0_160 : ∀ j : Int, 0 ≤ j → j < 2010 → 0 ≤ tokenKind_0 j ∧ tokenKind_0 j ≤ 4) (hK_0_162 : ∀ j : Int, 0 ≤ j → j < 2010 → 0 ≤ tokenPlace_0 j ∧ tokenPlace_0 j ≤ 2000) (hK_0_163 : ∀ j : Int, 0 ≤ j → j < 2010 → 0 ≤ tokenEnd_0 j ∧ tokenEnd_0 j ≤ 2000) (kz_0_8 : 0 ≤ fault_0 ∧ fault_0 ≤ 5) (kz_0_10 : 0 ≤ limit_0 ∧ limit_0 ≤ 2000) (kz_0_158 : 0 ≤ cur_0 ∧ cur_0 ≤ 2009) : (x13 = 1) → (tokenKind_0 (cur_0) = 1) := by
  first | assumption | (clear hK_0_1 hK_0_160 hK_0_162 hK_0_163; omega) | omega | grind
set_option maxHeartbeats 4000000 in
theorem vc_Mo_word_at_s5022_2_1 (x4 : Int) (x8 : Int) (x10 : Int) (x11 : Int) (x12 : Int) (x13 : Int) (tokenPlace_0 : Int → Int) (cur_0 : Int) (tokenEnd_0 : Int → Int) (tokenKind_0 : Int → Int) (fault_0 : Int) (tape_0 : Int → Int) (limit_0 : Int) (k4 : 0 ≤ x4 ∧ x4 ≤ 2009) (k8 : 0 ≤ x8 ∧ x8 ≤ 2000) (k10 : 0 ≤ x10 ∧ x10 ≤ 2000) (k11 : (-2000) ≤ x11 ∧ x11 ≤ 2000) (k12 : 4 ≤ x12 ∧ x12 ≤ 4) (k13 : 0 ≤ x13 ∧ x13 ≤ 0) (f1 : x11 ≠ x12) (f2 : x11 = x8 - x10) (h3 : x10 = tokenPlace_0 (x4)) (g4 : x4 = cur_0) (h6 : x8 = tokenEnd_0 (x4)) (kz_0_8 : 0 ≤ fault_0 ∧ fault_0 ≤ 5) (kz_0_10 : 0 ≤ limit_0 ∧ limit_0 ≤ 2000) (kz_0_158 : 0 ≤ cur_0 ∧ cur_0 ≤ 2009) : Wqedge (fault_0) (cur_0) (limit_0) (tokenKind_0) (tokenPlace_0) (tokenEnd_0) (tape_0) (x13) := by
  first
    | exact ⟨fun z => by omega, fun z => by have := z.1; omega⟩
    | (have e := (‹x4 = cur_0›)
       rw [← e]
       refine ⟨fun z => ⟨by omega, wdS4.2 ⟨by omega, by omega, by omega, by rw [show tokenPlace_0 x4 + 0 = x17 by omega]; omega, by rw [show tokenPlace_0 x4 + 1 = x24 by omega]; omega, by rw [show tokenPlace_0 x4 + 2 = x31 by omega]; omega, by rw [show tokenPlace_0 x4 + 3 = x38 by omega]; omega⟩⟩, fun z => by omega⟩)
    | (have e := (‹x4 = cur_0›)
       rw [← e]
       refine ⟨fun z => by omega, fun z => ?_⟩
       have w := wdS4.1 z.2
       try (have q0 : tokenPlace_0 x4 + 0 = x17 := (by omega); rw [q0] at w)
       try (have q1 : tokenPlace_0 x4 + 1 = x24 := (by omega); rw [q1] at w)
       try (have q2 : tokenPlace_0 x4 + 2 = x31 := (by omega); rw [q2] at w)
       try (have q3 : tokenPlace_0 x4 + 3 = x38 := (by omega); rw [q3] at w)
       omega)
  
def o_Mo_word_at_s5022_2 : or_T := (102, 16, [(0, (2, 0, 0, [165])), (2, (0, 0, 0, [])), (4, (0, 0, 2009, [])), (5, (0, 1, 1, [])), (6, (0, 1, 1, [])), (8, (0, 0, 2000, [])), (10, (0, 0, 2000, [])), (11, (0, -2000, 2000, [])), (12, (0, 4, 4, [])), (13, (0, 0, 0, []))], [(8, [13], [0]), (7, [11, 12], [1]), (2, [11, 8, 10], []), (10, [10, 9, 4], []), (9, [4, 0], [158]), (9, [9, 0], [162]), (10, [8, 7, 4], []), (9, [7, 0], [163]), (7, [5, 6], [0]), (10, [5, 3, 4], []), (9, [3, 0], [160]), (8, [2], [0]), (9, [2, 0], [8])], [], [], [(20, [13, 0], [50, 1, 1, 1158, 1160, 4, 6, 1, 2, 1, 0, 0, 1, 1, 6, 3, 1, 160, 2, 1, 158, 0, 1]), (20, [0, 13], [60, 3, 4, 20, 8, 158, 10, 160, 162, 163, 1])], [], [(11, 8, -2000, 0)])
theorem oo_Mo_word_at_s5022_2 {kA : Nat → ClassId} : or_ok PRD kA GG o_Mo_word_at_s5022_2 := by
  refine or_mk fun A ta ws vs hD hth hl => ?_
  intro t0 r0 t2 k2 t4 k4 t5 k5 t6 k6 t8 k8 t10 k10 t11 k11 t12 k12 t13 k13 d0 f0 f1 f2 f3 f4 f5 f6 f7 f8 f9 f10 f11 f12
  replace f3 := shm_107 f3
  replace f4 := shm_286 f4
  replace f5 := shm_301 f5
  replace f6 := shm_107 f6
  replace f7 := shm_1332 f7
  replace f9 := shm_107 f9
  replace f10 := shm_327 f10
  replace f12 := shm_293 f12
  have cr_0_1 := fdq_39 hD hth r0
  have cr_0_160 := fdq_33 hD hth r0
  have cr_0_162 := fdq_41 hD hth r0
  have cr_0_163 := fdq_42 hD hth r0
  have ad_9 : v_ad (n_v vs 9) = w_ar ws (n_v vs 0) 162 := congrArg v_ad f5
  have ad_7 : v_ad (n_v vs 7) = w_ar ws (n_v vs 0) 163 := congrArg v_ad f7
  have ad_3 : v_ad (n_v vs 3) = w_ar ws (n_v vs 0) 160 := congrArg v_ad f10
  simp only [ad_9] at f3
  have h3 : v_iv (n_v vs 10) = w_ei ws (w_ar ws (n_v vs 0) 162) (v_iv (n_v vs 4)) := f3
  have g4 : v_iv (n_v vs 4) = w_fi ws (n_v vs 0) 158 := congrArg v_iv f4
  simp only [ad_7] at f6
  have h6 : v_iv (n_v vs 8) = w_ei ws (w_ar ws (n_v vs 0) 163) (v_iv (n_v vs 4)) := f6
  simp only [ad_3] at f9
  have h9 : v_iv (n_v vs 5) = w_ei ws (w_ar ws (n_v vs 0) 160) (v_iv (n_v vs 4)) := f9
  have g12 : v_iv (n_v vs 2) = w_fi ws (n_v vs 0) 8 := congrArg v_iv f12
  have hK_0_1 := elq_7 hD hth cr_0_1
  have hK_0_160 := elq_6 hD hth cr_0_160
  have hK_0_162 := elq_8 hD hth cr_0_162
  have hK_0_163 := elq_9 hD hth cr_0_163
  have kz_0_8 := fdq_34 hD hth r0
  have kz_0_10 := fdq_43 hD hth r0
  have kz_0_158 := fdq_36 hD hth r0
  have nf0 : fc_1 PRD (20, [13, 0], [50, 1, 1, 1158, 1160, 4, 6, 1, 2, 1, 0, 0, 1, 1, 6, 3, 1, 160, 2, 1, 158, 0, 1]) ws (vs) := ⟨nf_in hl rfl, sgq_287 (vc_Mo_word_at_s5022_2_0 (v_iv (n_v vs 2)) (v_iv (n_v vs 4)) (v_iv (n_v vs 5)) (v_iv (n_v vs 6)) (v_iv (n_v vs 8)) (v_iv (n_v vs 10)) (v_iv (n_v vs 11)) (v_iv (n_v vs 12)) (v_iv (n_v vs 13)) (w_ei ws (w_ar ws (n_v vs 0) 162)) (w_fi ws (n_v vs 0) 158) (w_ei ws (w_ar ws (n_v vs 0) 163)) (w_ei ws (w_ar ws (n_v vs 0) 160)) (w_fi ws (n_v vs 0) 8) (w_ei ws (w_ar ws (n_v vs 0) 1)) (w_fi ws (n_v vs 0) 10) k2 k4 k5 k6 k8 k10 k11 k12 k13 d0 (shm_192 f0) (shm_40 f1) (shm_14 f2) h3 g4 h6 (shm_37 f8) h9 (shm_192 f11) g12 hK_0_1 hK_0_160 hK_0_162 hK_0_163 kz_0_8 kz_0_10 kz_0_158)⟩
  have nf1 : fc_1 PRD (20, [0, 13], [60, 3, 4, 20, 8, 158, 10, 160, 162, 163, 1]) ws (vs) := ⟨nf_in hl rfl, sgq_1867 (vc_Mo_word_at_s5022_2_1 (v_iv (n_v vs 4)) (v_iv (n_v vs 8)) (v_iv (n_v vs 10)) (v_iv (n_v vs 11)) (v_iv (n_v vs 12)) (v_iv (n_v vs 13)) (w_ei ws (w_ar ws (n_v vs 0) 162)) (w_fi ws (n_v vs 0) 158) (w_ei ws (w_ar ws (n_v vs 0) 163)) (w_ei ws (w_ar ws (n_v vs 0) 160)) (w_fi ws (n_v vs 0) 8) (w_ei ws (w_ar ws (n_v vs 0) 1)) (w_fi ws (n_v vs 0) 10) k4 k8 k10 k11 k12 k13 (shm_40 f1) (shm_14 f2) h3 g4 h6 kz_0_8 kz_0_10 kz_0_158)⟩
  refine ⟨(fun _ h => (by cases h)), [], trivial, ?_, (fun _ h => (by cases h))⟩
  rw [List.append_nil]
  exact List.forall_mem_cons.mpr ⟨⟨show (20 : Nat) < 100 from by decide, nf0⟩, List.forall_mem_cons.mpr ⟨⟨show (20 : Nat) < 100 from by decide, nf1⟩, (fun _ h => (by cases h))⟩⟩
set_option maxHeartbeats 4000000 in
theorem vc_Mo_word_at_s5022_3_0 (x2 : Int) (x4 : Int) (x5 : Int) (x6 : Int) (x8 : Int) (x10 : Int) (x11 : Int) (x12 : Int) (x14 : Int) (x15 : Int) (x16 : Int) (x17 : Int) (x18 : Int) (x19 : Int) (x20 : Int) (tape_0 : Int → Int) (limit_0 : Int) (tokenPlace_0 : Int → Int) (cur_0 : Int) (tokenEnd_0 : Int → Int) (tokenKind_0 : Int → Int) (fault_0 : Int) (k2 : 0 ≤ x2 ∧ x2 ≤ 0) (k4 : 0 ≤ x4 ∧ x4 ≤ 2009) (k5 : 1 ≤ x5 ∧ x5 ≤ 1) (k6 : 1 ≤ x6 ∧ x6 ≤ 1) (k8 : 4 ≤ x8 ∧ x8 ≤ 2000) (k10 : 0 ≤ x10 ∧ x10 ≤ 2000) (k11 : 4 ≤ x11 ∧ x11 ≤ 4) (k12 : 4 ≤ x12 ∧ x12 ≤ 4) (k14 : 0 ≤ x14 ∧ x14 ≤ 0) (k15 : 4 ≤ x15 ∧ x15 ≤ 4) (k16 : 0 ≤ x16 ∧ x16 ≤ 2000) (k17 : 0 ≤ x17 ∧ x17 ≤ 2000) (k18 : (-1) ≤ x18 ∧ x18 ≤ (-1)) (k19 : 0 ≤ x19 ∧ x19 ≤ 65535) (k20 : 0 ≤ x20 ∧ x20 ≤ 0) (d0 : x16 + 0 ≤ x17 ∧ x17 ≤ x16 + 0) (f0 : x20 = 0) (f1 : x18 ≠ x19) (f2 : 1 * x19 + 0 ≤ 101) (f3 : (-1) * x19 + 0 ≤ (-101)) (f4 : ((x17 + 1) ≤ limit_0) → (x18 = (tape_0 (x17) % 256))) (f5 : (limit_0 ≤ x17) → (x18 = (-1))) (f6 : x17 = x16 + x14) (h7 : x16 = tokenPlace_0 (x4)) (g8 : x4 = cur_0) (f10 : x14 < x15) (f11 : x11 = x12) (f12 : x11 = x8 - x10) (h13 : x10 = tokenPlace_0 (x4)) (h14 : x8 = tokenEnd_0 (x4)) (f16 : x5 = x6) (h17 : x5 = tokenKind_0 (x4)) (f19 : x2 = 0) (g20 : x2 = fault_0) (hK_0_1 : ∀ j : Int, 0 ≤ j → j < 2000 → (-128) ≤ tape_0 j ∧ tape_0 j ≤ 127) (hK_0_160 : ∀ j : Int, 0 ≤ j → j < 2010 → 0 ≤ tokenKind_0 j ∧ tokenKind_0 j ≤ 4) (hK_0_162 : ∀ j : Int, 0 ≤ j → j < 2010 → 0 ≤ tokenPlace_0 j ∧ tokenPlace_0 j ≤ 2000) (hK_0_163 : ∀ j : Int, 0 ≤ j → j < 2010 → 0 ≤ tokenEnd_0 j ∧ tokenEnd_0 j ≤ 2000) (kz_0_8 : 0 ≤ fault_0 ∧ fault_0 ≤ 5) (kz_0_10 : 0 ≤ limit_0 ∧ limit_0 ≤ 2000) (kz_0_158 : 0 ≤ cur_0 ∧ cur_0 ≤ 2009) : (x20 = 1) → (tokenKind_0 (cur_0) = 1) := by
  first | assumption | (clear f4 f5 hK_0_1 hK_0_160 hK_0_162 hK_0_163; omega) | (clear hK_0_1 hK_0_160 hK_0_162 hK_0_163; grind) | omega | grind
set_option maxHeartbeats 4000000 in
theorem vc_Mo_word_at_s5022_3_1 (x4 : Int) (x8 : Int) (x10 : Int) (x11 : Int) (x16 : Int) (x17 : Int) (x18 : Int) (x20 : Int) (tape_0 : Int → Int) (limit_0 : Int) (tokenPlace_0 : Int → Int) (cur_0 : Int) (tokenEnd_0 : Int → Int) (tokenKind_0 : Int → Int) (fault_0 : Int) (k4 : 0 ≤ x4 ∧ x4 ≤ 2009) (k8 : 4 ≤ x8 ∧ x8 ≤ 2000) (k10 : 0 ≤ x10 ∧ x10 ≤ 2000) (k11 : 4 ≤ x11 ∧ x11 ≤ 4) (k16 : 0 ≤ x16 ∧ x16 ≤ 2000) (k17 : 0 ≤ x17 ∧ x17 ≤ 2000) (k18 : (-1) ≤ x18 ∧ x18 ≤ (-1)) (k20 : 0 ≤ x20 ∧ x20 ≤ 0) (d0 : x16 + 0 ≤ x17 ∧ x17 ≤ x16 + 0) (f4 : ((x17 + 1) ≤ limit_0) → (x18 = (tape_0 (x17) % 256))) (f5 : (limit_0 ≤ x17) → (x18 = (-1))) (h7 : x16 = tokenPlace_0 (x4)) (g8 : x4 = cur_0) (f12 : x11 = x8 - x10) (h13 : x10 = tokenPlace_0 (x4)) (h14 : x8 = tokenEnd_0 (x4)) (kz_0_8 : 0 ≤ fault_0 ∧ fault_0 ≤ 5) (kz_0_10 : 0 ≤ limit_0 ∧ limit_0 ≤ 2000) (kz_0_158 : 0 ≤ cur_0 ∧ cur_0 ≤ 2009) : Wqedge (fault_0) (cur_0) (limit_0) (tokenKind_0) (tokenPlace_0) (tokenEnd_0) (tape_0) (x20) := by
  first
    | exact ⟨fun z => by omega, fun z => by have := z.1; omega⟩
    | (have e := (‹x4 = cur_0›)
       rw [← e]
       refine ⟨fun z => ⟨by omega, wdS4.2 ⟨by omega, by omega, by omega, by rw [show tokenPlace_0 x4 + 0 = x17 by omega]; omega, by rw [show tokenPlace_0 x4 + 1 = x24 by omega]; omega, by rw [show tokenPlace_0 x4 + 2 = x31 by omega]; omega, by rw [show tokenPlace_0 x4 + 3 = x38 by omega]; omega⟩⟩, fun z => by omega⟩)
    | (have e := (‹x4 = cur_0›)
       rw [← e]
       refine ⟨fun z => by omega, fun z => ?_⟩
       have w := wdS4.1 z.2
       try (have q0 : tokenPlace_0 x4 + 0 = x17 := (by omega); rw [q0] at w)
       try (have q1 : tokenPlace_0 x4 + 1 = x24 := (by omega); rw [q1] at w)
       try (have q2 : tokenPlace_0 x4 + 2 = x31 := (by omega); rw [q2] at w)
       try (have q3 : tokenPlace_0 x4 + 3 = x38 := (by omega); rw [q3] at w)
       omega)
  
def o_Mo_word_at_s5022_3 : or_T := (102, 23, [(0, (2, 0, 0, [165])), (2, (0, 0, 0, [])), (3, (2, 0, 0, [274])), (4, (0, 0, 2009, [])), (5, (0, 1, 1, [])), (6, (0, 1, 1, [])), (7, (2, 0, 0, [277])), (8, (0, 4, 2000, [])), (9, (2, 0, 0, [276])), (10, (0, 0, 2000, [])), (11, (0, 4, 4, [])), (12, (0, 4, 4, [])), (14, (0, 0, 0, [])), (15, (0, 4, 4, [])), (16, (0, 0, 2000, [])), (17, (0, 0, 2000, [])), (18, (0, -1, -1, [])), (19, (0, 0, 65535, [])), (20, (0, 0, 0, []))], [(8, [20], [0]), (7, [18, 19], [1]), (23, [19], [101, 1]), (23, [19], [-101, -1]), (20, [17, 0, 18], [50, 1, 1, 1010, 1001, 4, 11, 0, 6, 4, 2, 1, 0, 0, 1, 2, 1, 10, 1, 2, 1, 2, 9, 5, 3, 1, 1, 1, 0, 0, 256]), (20, [0, 17, 18], [50, 1, 0, 10, 4, 7, 0, 3, 2, 0, 10, 1, 1, 1, 2, 1, 2, 0, -1]), (1, [17, 16, 14], []), (10, [16, 9, 4], []), (9, [4, 0], [158]), (9, [9, 0], [162]), (7, [14, 15], [2]), (7, [11, 12], [0]), (2, [11, 8, 10], []), (10, [10, 9, 4], []), (10, [8, 7, 4], []), (9, [7, 0], [163]), (7, [5, 6], [0]), (10, [5, 3, 4], []), (9, [3, 0], [160]), (8, [2], [0]), (9, [2, 0], [8])], [], [], [(20, [20, 0], [50, 1, 1, 1158, 1160, 4, 6, 1, 2, 1, 0, 0, 1, 1, 6, 3, 1, 160, 2, 1, 158, 0, 1]), (20, [0, 20], [60, 3, 4, 20, 8, 158, 10, 160, 162, 163, 1])], [], [(17, 16, 0, 0)])
theorem oo_Mo_word_at_s5022_3 {kA : Nat → ClassId} : or_ok PRD kA GG o_Mo_word_at_s5022_3 := by
  refine or_mk fun A ta ws vs hD hth hl => ?_
  intro t0 r0 t2 k2 t3 r3 t4 k4 t5 k5 t6 k6 t7 r7 t8 k8 t9 r9 t10 k10 t11 k11 t12 k12 t14 k14 t15 k15 t16 k16 t17 k17 t18 k18 t19 k19 t20 k20 d0 f0 f1 f2 f3 f4 f5 f6 f7 f8 f9 f10 f11 f12 f13 f14 f15 f16 f17 f18 f19 f20
  replace f7 := shm_107 f7
  replace f8 := shm_286 f8
  replace f9 := shm_301 f9
  replace f13 := shm_107 f13
  replace f14 := shm_107 f14
  replace f15 := shm_1332 f15
  replace f17 := shm_107 f17
  replace f18 := shm_327 f18
  replace f20 := shm_293 f20
  have cr_0_1 := fdq_39 hD hth r0
  have cr_0_160 := fdq_33 hD hth r0
  have cr_0_162 := fdq_41 hD hth r0
  have cr_0_163 := fdq_42 hD hth r0
  have ad_9 : v_ad (n_v vs 9) = w_ar ws (n_v vs 0) 162 := congrArg v_ad f9
  have ad_7 : v_ad (n_v vs 7) = w_ar ws (n_v vs 0) 163 := congrArg v_ad f15
  have ad_3 : v_ad (n_v vs 3) = w_ar ws (n_v vs 0) 160 := congrArg v_ad f18
  simp only [ad_9] at f7
  have h7 : v_iv (n_v vs 16) = w_ei ws (w_ar ws (n_v vs 0) 162) (v_iv (n_v vs 4)) := f7
  have g8 : v_iv (n_v vs 4) = w_fi ws (n_v vs 0) 158 := congrArg v_iv f8
  simp only [ad_9] at f13
  have h13 : v_iv (n_v vs 10) = w_ei ws (w_ar ws (n_v vs 0) 162) (v_iv (n_v vs 4)) := f13
  simp only [ad_7] at f14
  have h14 : v_iv (n_v vs 8) = w_ei ws (w_ar ws (n_v vs 0) 163) (v_iv (n_v vs 4)) := f14
  simp only [ad_3] at f17
  have h17 : v_iv (n_v vs 5) = w_ei ws (w_ar ws (n_v vs 0) 160) (v_iv (n_v vs 4)) := f17
  have g20 : v_iv (n_v vs 2) = w_fi ws (n_v vs 0) 8 := congrArg v_iv f20
  have hK_0_1 := elq_7 hD hth cr_0_1
  have hK_0_160 := elq_6 hD hth cr_0_160
  have hK_0_162 := elq_8 hD hth cr_0_162
  have hK_0_163 := elq_9 hD hth cr_0_163
  have kz_0_8 := fdq_34 hD hth r0
  have kz_0_10 := fdq_43 hD hth r0
  have kz_0_158 := fdq_36 hD hth r0
  have nf0 : fc_1 PRD (20, [20, 0], [50, 1, 1, 1158, 1160, 4, 6, 1, 2, 1, 0, 0, 1, 1, 6, 3, 1, 160, 2, 1, 158, 0, 1]) ws (vs) := ⟨nf_in hl rfl, sgq_287 (vc_Mo_word_at_s5022_3_0 (v_iv (n_v vs 2)) (v_iv (n_v vs 4)) (v_iv (n_v vs 5)) (v_iv (n_v vs 6)) (v_iv (n_v vs 8)) (v_iv (n_v vs 10)) (v_iv (n_v vs 11)) (v_iv (n_v vs 12)) (v_iv (n_v vs 14)) (v_iv (n_v vs 15)) (v_iv (n_v vs 16)) (v_iv (n_v vs 17)) (v_iv (n_v vs 18)) (v_iv (n_v vs 19)) (v_iv (n_v vs 20)) (w_ei ws (w_ar ws (n_v vs 0) 1)) (w_fi ws (n_v vs 0) 10) (w_ei ws (w_ar ws (n_v vs 0) 162)) (w_fi ws (n_v vs 0) 158) (w_ei ws (w_ar ws (n_v vs 0) 163)) (w_ei ws (w_ar ws (n_v vs 0) 160)) (w_fi ws (n_v vs 0) 8) k2 k4 k5 k6 k8 k10 k11 k12 k14 k15 k16 k17 k18 k19 k20 d0 (shm_192 f0) (shm_40 f1) (shm_59 f2) (shm_60 f3) (shm_541 f4) (shm_542 f5) (shm_12 f6) h7 g8 (shm_6 f10) (shm_37 f11) (shm_14 f12) h13 h14 (shm_37 f16) h17 (shm_192 f19) g20 hK_0_1 hK_0_160 hK_0_162 hK_0_163 kz_0_8 kz_0_10 kz_0_158)⟩
  have nf1 : fc_1 PRD (20, [0, 20], [60, 3, 4, 20, 8, 158, 10, 160, 162, 163, 1]) ws (vs) := ⟨nf_in hl rfl, sgq_1867 (vc_Mo_word_at_s5022_3_1 (v_iv (n_v vs 4)) (v_iv (n_v vs 8)) (v_iv (n_v vs 10)) (v_iv (n_v vs 11)) (v_iv (n_v vs 16)) (v_iv (n_v vs 17)) (v_iv (n_v vs 18)) (v_iv (n_v vs 20)) (w_ei ws (w_ar ws (n_v vs 0) 1)) (w_fi ws (n_v vs 0) 10) (w_ei ws (w_ar ws (n_v vs 0) 162)) (w_fi ws (n_v vs 0) 158) (w_ei ws (w_ar ws (n_v vs 0) 163)) (w_ei ws (w_ar ws (n_v vs 0) 160)) (w_fi ws (n_v vs 0) 8) k4 k8 k10 k11 k16 k17 k18 k20 d0 (shm_541 f4) (shm_542 f5) h7 g8 (shm_14 f12) h13 h14 kz_0_8 kz_0_10 kz_0_158)⟩
  refine ⟨(fun _ h => (by cases h)), [], trivial, ?_, (fun _ h => (by cases h))⟩
  rw [List.append_nil]
  exact List.forall_mem_cons.mpr ⟨⟨show (20 : Nat) < 100 from by decide, nf0⟩, List.forall_mem_cons.mpr ⟨⟨show (20 : Nat) < 100 from by decide, nf1⟩, (fun _ h => (by cases h))⟩⟩
set_option maxHeartbeats 4000000 in
theorem vc_Mo_word_at_s5022_4_0 (x2 : Int) (x4 : Int) (x5 : Int) (x6 : Int) (x8 : Int) (x10 : Int) (x11 : Int) (x12 : Int) (x14 : Int) (x15 : Int) (x16 : Int) (x17 : Int) (x18 : Int) (x19 : Int) (x20 : Int) (tape_0 : Int → Int) (limit_0 : Int) (tokenPlace_0 : Int → Int) (cur_0 : Int) (tokenEnd_0 : Int → Int) (tokenKind_0 : Int → Int) (fault_0 : Int) (k2 : 0 ≤ x2 ∧ x2 ≤ 0) (k4 : 0 ≤ x4 ∧ x4 ≤ 2009) (k5 : 1 ≤ x5 ∧ x5 ≤ 1) (k6 : 1 ≤ x6 ∧ x6 ≤ 1) (k8 : 4 ≤ x8 ∧ x8 ≤ 2000) (k10 : 0 ≤ x10 ∧ x10 ≤ 2000) (k11 : 4 ≤ x11 ∧ x11 ≤ 4) (k12 : 4 ≤ x12 ∧ x12 ≤ 4) (k14 : 0 ≤ x14 ∧ x14 ≤ 0) (k15 : 4 ≤ x15 ∧ x15 ≤ 4) (k16 : 0 ≤ x16 ∧ x16 ≤ 1999) (k17 : 0 ≤ x17 ∧ x17 ≤ 1999) (k18 : 0 ≤ x18 ∧ x18 ≤ 255) (k19 : 0 ≤ x19 ∧ x19 ≤ 65535) (k20 : 0 ≤ x20 ∧ x20 ≤ 0) (d0 : x16 + 0 ≤ x17 ∧ x17 ≤ x16 + 0) (f0 : x20 = 0) (f1 : x18 ≠ x19) (f2 : 1 * x19 + 0 ≤ 101) (f3 : (-1) * x19 + 0 ≤ (-101)) (f4 : ((x17 + 1) ≤ limit_0) → (x18 = (tape_0 (x17) % 256))) (f5 : (limit_0 ≤ x17) → (x18 = (-1))) (f6 : x17 = x16 + x14) (h7 : x16 = tokenPlace_0 (x4)) (g8 : x4 = cur_0) (f10 : x14 < x15) (f11 : x11 = x12) (f12 : x11 = x8 - x10) (h13 : x10 = tokenPlace_0 (x4)) (h14 : x8 = tokenEnd_0 (x4)) (f16 : x5 = x6) (h17 : x5 = tokenKind_0 (x4)) (f19 : x2 = 0) (g20 : x2 = fault_0) (hK_0_1 : ∀ j : Int, 0 ≤ j → j < 2000 → (-128) ≤ tape_0 j ∧ tape_0 j ≤ 127) (hK_0_160 : ∀ j : Int, 0 ≤ j → j < 2010 → 0 ≤ tokenKind_0 j ∧ tokenKind_0 j ≤ 4) (hK_0_162 : ∀ j : Int, 0 ≤ j → j < 2010 → 0 ≤ tokenPlace_0 j ∧ tokenPlace_0 j ≤ 2000) (hK_0_163 : ∀ j : Int, 0 ≤ j → j < 2010 → 0 ≤ tokenEnd_0 j ∧ tokenEnd_0 j ≤ 2000) (kz_0_8 : 0 ≤ fault_0 ∧ fault_0 ≤ 5) (kz_0_10 : 0 ≤ limit_0 ∧ limit_0 ≤ 2000) (kz_0_158 : 0 ≤ cur_0 ∧ cur_0 ≤ 2009) : (x20 = 1) → (tokenKind_0 (cur_0) = 1) := by
  first | assumption | (clear f4 f5 hK_0_1 hK_0_160 hK_0_162 hK_0_163; omega) | (clear hK_0_1 hK_0_160 hK_0_162 hK_0_163; grind) | omega | grind
set_option maxHeartbeats 4000000 in
theorem vc_Mo_word_at_s5022_4_1 (x4 : Int) (x8 : Int) (x10 : Int) (x11 : Int) (x16 : Int) (x17 : Int) (x18 : Int) (x19 : Int) (x20 : Int) (tape_0 : Int → Int) (limit_0 : Int) (tokenPlace_0 : Int → Int) (cur_0 : Int) (tokenEnd_0 : Int → Int) (tokenKind_0 : Int → Int) (fault_0 : Int) (k4 : 0 ≤ x4 ∧ x4 ≤ 2009) (k8 : 4 ≤ x8 ∧ x8 ≤ 2000) (k10 : 0 ≤ x10 ∧ x10 ≤ 2000) (k11 : 4 ≤ x11 ∧ x11 ≤ 4) (k16 : 0 ≤ x16 ∧ x16 ≤ 1999) (k17 : 0 ≤ x17 ∧ x17 ≤ 1999) (k18 : 0 ≤ x18 ∧ x18 ≤ 255) (k19 : 0 ≤ x19 ∧ x19 ≤ 65535) (k20 : 0 ≤ x20 ∧ x20 ≤ 0) (d0 : x16 + 0 ≤ x17 ∧ x17 ≤ x16 + 0) (f1 : x18 ≠ x19) (f2 : 1 * x19 + 0 ≤ 101) (f3 : (-1) * x19 + 0 ≤ (-101)) (f4 : ((x17 + 1) ≤ limit_0) → (x18 = (tape_0 (x17) % 256))) (f5 : (limit_0 ≤ x17) → (x18 = (-1))) (h7 : x16 = tokenPlace_0 (x4)) (g8 : x4 = cur_0) (f12 : x11 = x8 - x10) (h13 : x10 = tokenPlace_0 (x4)) (h14 : x8 = tokenEnd_0 (x4)) (kz_0_8 : 0 ≤ fault_0 ∧ fault_0 ≤ 5) (kz_0_10 : 0 ≤ limit_0 ∧ limit_0 ≤ 2000) (kz_0_158 : 0 ≤ cur_0 ∧ cur_0 ≤ 2009) : Wqedge (fault_0) (cur_0) (limit_0) (tokenKind_0) (tokenPlace_0) (tokenEnd_0) (tape_0) (x20) := by
  first
    | exact ⟨fun z => by omega, fun z => by have := z.1; omega⟩
    | (have e := (‹x4 = cur_0›)
       rw [← e]
       refine ⟨fun z => ⟨by omega, wdS4.2 ⟨by omega, by omega, by omega, by rw [show tokenPlace_0 x4 + 0 = x17 by omega]; omega, by rw [show tokenPlace_0 x4 + 1 = x24 by omega]; omega, by rw [show tokenPlace_0 x4 + 2 = x31 by omega]; omega, by rw [show tokenPlace_0 x4 + 3 = x38 by omega]; omega⟩⟩, fun z => by omega⟩)
    | (have e := (‹x4 = cur_0›)
       rw [← e]
       refine ⟨fun z => by omega, fun z => ?_⟩
       have w := wdS4.1 z.2
       try (have q0 : tokenPlace_0 x4 + 0 = x17 := (by omega); rw [q0] at w)
       try (have q1 : tokenPlace_0 x4 + 1 = x24 := (by omega); rw [q1] at w)
       try (have q2 : tokenPlace_0 x4 + 2 = x31 := (by omega); rw [q2] at w)
       try (have q3 : tokenPlace_0 x4 + 3 = x38 := (by omega); rw [q3] at w)
       omega)
  
def o_Mo_word_at_s5022_4 : or_T := (102, 23, [(0, (2, 0, 0, [165])), (2, (0, 0, 0, [])), (3, (2, 0, 0, [274])), (4, (0, 0, 2009, [])), (5, (0, 1, 1, [])), (6, (0, 1, 1, [])), (7, (2, 0, 0, [277])), (8, (0, 4, 2000, [])), (9, (2, 0, 0, [276])), (10, (0, 0, 2000, [])), (11, (0, 4, 4, [])), (12, (0, 4, 4, [])), (14, (0, 0, 0, [])), (15, (0, 4, 4, [])), (16, (0, 0, 1999, [])), (17, (0, 0, 1999, [])), (18, (0, 0, 255, [])), (19, (0, 0, 65535, [])), (20, (0, 0, 0, []))], [(8, [20], [0]), (7, [18, 19], [1]), (23, [19], [101, 1]), (23, [19], [-101, -1]), (20, [17, 0, 18], [50, 1, 1, 1010, 1001, 4, 11, 0, 6, 4, 2, 1, 0, 0, 1, 2, 1, 10, 1, 2, 1, 2, 9, 5, 3, 1, 1, 1, 0, 0, 256]), (20, [0, 17, 18], [50, 1, 0, 10, 4, 7, 0, 3, 2, 0, 10, 1, 1, 1, 2, 1, 2, 0, -1]), (1, [17, 16, 14], []), (10, [16, 9, 4], []), (9, [4, 0], [158]), (9, [9, 0], [162]), (7, [14, 15], [2]), (7, [11, 12], [0]), (2, [11, 8, 10], []), (10, [10, 9, 4], []), (10, [8, 7, 4], []), (9, [7, 0], [163]), (7, [5, 6], [0]), (10, [5, 3, 4], []), (9, [3, 0], [160]), (8, [2], [0]), (9, [2, 0], [8])], [], [], [(20, [20, 0], [50, 1, 1, 1158, 1160, 4, 6, 1, 2, 1, 0, 0, 1, 1, 6, 3, 1, 160, 2, 1, 158, 0, 1]), (20, [0, 20], [60, 3, 4, 20, 8, 158, 10, 160, 162, 163, 1])], [], [(17, 16, 0, 0)])
theorem oo_Mo_word_at_s5022_4 {kA : Nat → ClassId} : or_ok PRD kA GG o_Mo_word_at_s5022_4 := by
  refine or_mk fun A ta ws vs hD hth hl => ?_
  intro t0 r0 t2 k2 t3 r3 t4 k4 t5 k5 t6 k6 t7 r7 t8 k8 t9 r9 t10 k10 t11 k11 t12 k12 t14 k14 t15 k15 t16 k16 t17 k17 t18 k18 t19 k19 t20 k20 d0 f0 f1 f2 f3 f4 f5 f6 f7 f8 f9 f10 f11 f12 f13 f14 f15 f16 f17 f18 f19 f20
  replace f7 := shm_107 f7
  replace f8 := shm_286 f8
  replace f9 := shm_301 f9
  replace f13 := shm_107 f13
  replace f14 := shm_107 f14
  replace f15 := shm_1332 f15
  replace f17 := shm_107 f17
  replace f18 := shm_327 f18
  replace f20 := shm_293 f20
  have cr_0_1 := fdq_39 hD hth r0
  have cr_0_160 := fdq_33 hD hth r0
  have cr_0_162 := fdq_41 hD hth r0
  have cr_0_163 := fdq_42 hD hth r0
  have ad_9 : v_ad (n_v vs 9) = w_ar ws (n_v vs 0) 162 := congrArg v_ad f9
  have ad_7 : v_ad (n_v vs 7) = w_ar ws (n_v vs 0) 163 := congrArg v_ad f15
  have ad_3 : v_ad (n_v vs 3) = w_ar ws (n_v vs 0) 160 := congrArg v_ad f18
  simp only [ad_9] at f7
  have h7 : v_iv (n_v vs 16) = w_ei ws (w_ar ws (n_v vs 0) 162) (v_iv (n_v vs 4)) := f7
  have g8 : v_iv (n_v vs 4) = w_fi ws (n_v vs 0) 158 := congrArg v_iv f8
  simp only [ad_9] at f13
  have h13 : v_iv (n_v vs 10) = w_ei ws (w_ar ws (n_v vs 0) 162) (v_iv (n_v vs 4)) := f13
  simp only [ad_7] at f14
  have h14 : v_iv (n_v vs 8) = w_ei ws (w_ar ws (n_v vs 0) 163) (v_iv (n_v vs 4)) := f14
  simp only [ad_3] at f17
  have h17 : v_iv (n_v vs 5) = w_ei ws (w_ar ws (n_v vs 0) 160) (v_iv (n_v vs 4)) := f17
  have g20 : v_iv (n_v vs 2) = w_fi ws (n_v vs 0) 8 := congrArg v_iv f20
  have hK_0_1 := elq_7 hD hth cr_0_1
  have hK_0_160 := elq_6 hD hth cr_0_160
  have hK_0_162 := elq_8 hD hth cr_0_162
  have hK_0_163 := elq_9 hD hth cr_0_163
  have kz_0_8 := fdq_34 hD hth r0
  have kz_0_10 := fdq_43 hD hth r0
  have kz_0_158 := fdq_36 hD hth r0
  have nf0 : fc_1 PRD (20, [20, 0], [50, 1, 1, 1158, 1160, 4, 6, 1, 2, 1, 0, 0, 1, 1, 6, 3, 1, 160, 2, 1, 158, 0, 1]) ws (vs) := ⟨nf_in hl rfl, sgq_287 (vc_Mo_word_at_s5022_4_0 (v_iv (n_v vs 2)) (v_iv (n_v vs 4)) (v_iv (n_v vs 5)) (v_iv (n_v vs 6)) (v_iv (n_v vs 8)) (v_iv (n_v vs 10)) (v_iv (n_v vs 11)) (v_iv (n_v vs 12)) (v_iv (n_v vs 14)) (v_iv (n_v vs 15)) (v_iv (n_v vs 16)) (v_iv (n_v vs 17)) (v_iv (n_v vs 18)) (v_iv (n_v vs 19)) (v_iv (n_v vs 20)) (w_ei ws (w_ar ws (n_v vs 0) 1)) (w_fi ws (n_v vs 0) 10) (w_ei ws (w_ar ws (n_v vs 0) 162)) (w_fi ws (n_v vs 0) 158) (w_ei ws (w_ar ws (n_v vs 0) 163)) (w_ei ws (w_ar ws (n_v vs 0) 160)) (w_fi ws (n_v vs 0) 8) k2 k4 k5 k6 k8 k10 k11 k12 k14 k15 k16 k17 k18 k19 k20 d0 (shm_192 f0) (shm_40 f1) (shm_59 f2) (shm_60 f3) (shm_541 f4) (shm_542 f5) (shm_12 f6) h7 g8 (shm_6 f10) (shm_37 f11) (shm_14 f12) h13 h14 (shm_37 f16) h17 (shm_192 f19) g20 hK_0_1 hK_0_160 hK_0_162 hK_0_163 kz_0_8 kz_0_10 kz_0_158)⟩
  have nf1 : fc_1 PRD (20, [0, 20], [60, 3, 4, 20, 8, 158, 10, 160, 162, 163, 1]) ws (vs) := ⟨nf_in hl rfl, sgq_1867 (vc_Mo_word_at_s5022_4_1 (v_iv (n_v vs 4)) (v_iv (n_v vs 8)) (v_iv (n_v vs 10)) (v_iv (n_v vs 11)) (v_iv (n_v vs 16)) (v_iv (n_v vs 17)) (v_iv (n_v vs 18)) (v_iv (n_v vs 19)) (v_iv (n_v vs 20)) (w_ei ws (w_ar ws (n_v vs 0) 1)) (w_fi ws (n_v vs 0) 10) (w_ei ws (w_ar ws (n_v vs 0) 162)) (w_fi ws (n_v vs 0) 158) (w_ei ws (w_ar ws (n_v vs 0) 163)) (w_ei ws (w_ar ws (n_v vs 0) 160)) (w_fi ws (n_v vs 0) 8) k4 k8 k10 k11 k16 k17 k18 k19 k20 d0 (shm_40 f1) (shm_59 f2) (shm_60 f3) (shm_541 f4) (shm_542 f5) h7 g8 (shm_14 f12) h13 h14 kz_0_8 kz_0_10 kz_0_158)⟩
  refine ⟨(fun _ h => (by cases h)), [], trivial, ?_, (fun _ h => (by cases h))⟩
  rw [List.append_nil]
  exact List.forall_mem_cons.mpr ⟨⟨show (20 : Nat) < 100 from by decide, nf0⟩, List.forall_mem_cons.mpr ⟨⟨show (20 : Nat) < 100 from by decide, nf1⟩, (fun _ h => (by cases h))⟩⟩
set_option maxHeartbeats 4000000 in
theorem vc_Mo_word_at_s5022_5_0 (x2 : Int) (x4 : Int) (x5 : Int) (x6 : Int) (x8 : Int) (x10 : Int) (x11 : Int) (x12 : Int) (x14 : Int) (x15 : Int) (x16 : Int) (x17 : Int) (x18 : Int) (x19 : Int) (x21 : Int) (x22 : Int) (x23 : Int) (x24 : Int) (x25 : Int) (x26 : Int) (x27 : Int) (tape_0 : Int → Int) (limit_0 : Int) (tokenPlace_0 : Int → Int) (cur_0 : Int) (tokenEnd_0 : Int → Int) (tokenKind_0 : Int → Int) (fault_0 : Int) (k2 : 0 ≤ x2 ∧ x2 ≤ 0) (k4 : 0 ≤ x4 ∧ x4 ≤ 2009) (k5 : 1 ≤ x5 ∧ x5 ≤ 1) (k6 : 1 ≤ x6 ∧ x6 ≤ 1) (k8 : 4 ≤ x8 ∧ x8 ≤ 2000) (k10 : 0 ≤ x10 ∧ x10 ≤ 2000) (k11 : 4 ≤ x11 ∧ x11 ≤ 4) (k12 : 4 ≤ x12 ∧ x12 ≤ 4) (k14 : 0 ≤ x14 ∧ x14 ≤ 0) (k15 : 4 ≤ x15 ∧ x15 ≤ 4) (k16 : 0 ≤ x16 ∧ x16 ≤ 1999) (k17 : 0 ≤ x17 ∧ x17 ≤ 1999) (k18 : 0 ≤ x18 ∧ x18 ≤ 255) (k19 : 0 ≤ x19 ∧ x19 ≤ 255) (k21 : 1 ≤ x21 ∧ x21 ≤ 1) (k22 : 4 ≤ x22 ∧ x22 ≤ 4) (k23 : 0 ≤ x23 ∧ x23 ≤ 2000) (k24 : 1 ≤ x24 ∧ x24 ≤ 2001) (k25 : (-1) ≤ x25 ∧ x25 ≤ (-1)) (k26 : 0 ≤ x26 ∧ x26 ≤ 65535) (k27 : 0 ≤ x27 ∧ x27 ≤ 0) (d0 : x23 + 1 ≤ x24 ∧ x24 ≤ x23 + 1) (d1 : x19 + 0 ≤ x18 ∧ x18 ≤ x19 + 0) (d2 : x16 + 0 ≤ x17 ∧ x17 ≤ x16 + 0) (f0 : x27 = 0) (f1 : x25 ≠ x26) (f2 : 1 * x26 + 0 ≤ 100) (f3 : (-1) * x26 + 0 ≤ (-100)) (f4 : ((x24 + 1) ≤ limit_0) → (x25 = (tape_0 (x24) % 256))) (f5 : (limit_0 ≤ x24) → (x25 = (-1))) (f6 : x24 = x23 + x21) (h7 : x23 = tokenPlace_0 (x4)) (g8 : x4 = cur_0) (f10 : x21 < x22) (f11 : x21 = x14 + 1) (f12 : x18 = x19) (f13 : 1 * x19 + 0 ≤ 101) (f14 : (-1) * x19 + 0 ≤ (-101)) (f15 : ((x17 + 1) ≤ limit_0) → (x18 = (tape_0 (x17) % 256))) (f16 : (limit_0 ≤ x17) → (x18 = (-1))) (f17 : x17 = x16 + x14) (h18 : x16 = tokenPlace_0 (x4)) (f19 : x14 < x15) (f20 : x11 = x12) (f21 : x11 = x8 - x10) (h22 : x10 = tokenPlace_0 (x4)) (h23 : x8 = tokenEnd_0 (x4)) (f25 : x5 = x6) (h26 : x5 = tokenKind_0 (x4)) (f28 : x2 = 0) (g29 : x2 = fault_0) (hK_0_1 : ∀ j : Int, 0 ≤ j → j < 2000 → (-128) ≤ tape_0 j ∧ tape_0 j ≤ 127) (hK_0_160 : ∀ j : Int, 0 ≤ j → j < 2010 → 0 ≤ tokenKind_0 j ∧ tokenKind_0 j ≤ 4) (hK_0_162 : ∀ j : Int, 0 ≤ j → j < 2010 → 0 ≤ tokenPlace_0 j ∧ tokenPlace_0 j ≤ 2000) (hK_0_163 : ∀ j : Int, 0 ≤ j → j < 2010 → 0 ≤ tokenEnd_0 j ∧ tokenEnd_0 j ≤ 2000) (kz_0_8 : 0 ≤ fault_0 ∧ fault_0 ≤ 5) (kz_0_10 : 0 ≤ limit_0 ∧ limit_0 ≤ 2000) (kz_0_158 : 0 ≤ cur_0 ∧ cur_0 ≤ 2009) : (x27 = 1) → (tokenKind_0 (cur_0) = 1) := by
  first | assumption | (clear f4 f5 f15 f16 hK_0_1 hK_0_160 hK_0_162 hK_0_163; omega) | (clear hK_0_1 hK_0_160 hK_0_162 hK_0_163; grind) | omega | grind
set_option maxHeartbeats 4000000 in
theorem vc_Mo_word_at_s5022_5_1 (x4 : Int) (x8 : Int) (x10 : Int) (x11 : Int) (x16 : Int) (x17 : Int) (x18 : Int) (x19 : Int) (x23 : Int) (x24 : Int) (x25 : Int) (x27 : Int) (tape_0 : Int → Int) (limit_0 : Int) (tokenPlace_0 : Int → Int) (cur_0 : Int) (tokenEnd_0 : Int → Int) (tokenKind_0 : Int → Int) (fault_0 : Int) (k4 : 0 ≤ x4 ∧ x4 ≤ 2009) (k8 : 4 ≤ x8 ∧ x8 ≤ 2000) (k10 : 0 ≤ x10 ∧ x10 ≤ 2000) (k11 : 4 ≤ x11 ∧ x11 ≤ 4) (k16 : 0 ≤ x16 ∧ x16 ≤ 1999) (k17 : 0 ≤ x17 ∧ x17 ≤ 1999) (k18 : 0 ≤ x18 ∧ x18 ≤ 255) (k19 : 0 ≤ x19 ∧ x19 ≤ 255) (k23 : 0 ≤ x23 ∧ x23 ≤ 2000) (k24 : 1 ≤ x24 ∧ x24 ≤ 2001) (k25 : (-1) ≤ x25 ∧ x25 ≤ (-1)) (k27 : 0 ≤ x27 ∧ x27 ≤ 0) (d0 : x23 + 1 ≤ x24 ∧ x24 ≤ x23 + 1) (d1 : x19 + 0 ≤ x18 ∧ x18 ≤ x19 + 0) (d2 : x16 + 0 ≤ x17 ∧ x17 ≤ x16 + 0) (f4 : ((x24 + 1) ≤ limit_0) → (x25 = (tape_0 (x24) % 256))) (f5 : (limit_0 ≤ x24) → (x25 = (-1))) (h7 : x23 = tokenPlace_0 (x4)) (g8 : x4 = cur_0) (f13 : 1 * x19 + 0 ≤ 101) (f14 : (-1) * x19 + 0 ≤ (-101)) (f15 : ((x17 + 1) ≤ limit_0) → (x18 = (tape_0 (x17) % 256))) (f16 : (limit_0 ≤ x17) → (x18 = (-1))) (h18 : x16 = tokenPlace_0 (x4)) (f21 : x11 = x8 - x10) (h22 : x10 = tokenPlace_0 (x4)) (h23 : x8 = tokenEnd_0 (x4)) (kz_0_8 : 0 ≤ fault_0 ∧ fault_0 ≤ 5) (kz_0_10 : 0 ≤ limit_0 ∧ limit_0 ≤ 2000) (kz_0_158 : 0 ≤ cur_0 ∧ cur_0 ≤ 2009) : Wqedge (fault_0) (cur_0) (limit_0) (tokenKind_0) (tokenPlace_0) (tokenEnd_0) (tape_0) (x27) := by
  first
    | exact ⟨fun z => by omega, fun z => by have := z.1; omega⟩
    | (have e := (‹x4 = cur_0›)
       rw [← e]
       refine ⟨fun z => ⟨by omega, wdS4.2 ⟨by omega, by omega, by omega, by rw [show tokenPlace_0 x4 + 0 = x17 by omega]; omega, by rw [show tokenPlace_0 x4 + 1 = x24 by omega]; omega, by rw [show tokenPlace_0 x4 + 2 = x31 by omega]; omega, by rw [show tokenPlace_0 x4 + 3 = x38 by omega]; omega⟩⟩, fun z => by omega⟩)
    | (have e := (‹x4 = cur_0›)
       rw [← e]
       refine ⟨fun z => by omega, fun z => ?_⟩
       have w := wdS4.1 z.2
       try (have q0 : tokenPlace_0 x4 + 0 = x17 := (by omega); rw [q0] at w)
       try (have q1 : tokenPlace_0 x4 + 1 = x24 := (by omega); rw [q1] at w)
       try (have q2 : tokenPlace_0 x4 + 2 = x31 := (by omega); rw [q2] at w)
       try (have q3 : tokenPlace_0 x4 + 3 = x38 := (by omega); rw [q3] at w)
       omega)
  
def o_Mo_word_at_s5022_5 : or_T := (102, 30, [(0, (2, 0, 0, [165])), (2, (0, 0, 0, [])), (3, (2, 0, 0, [274])), (4, (0, 0, 2009, [])), (5, (0, 1, 1, [])), (6, (0, 1, 1, [])), (7, (2, 0, 0, [277])), (8, (0, 4, 2000, [])), (9, (2, 0, 0, [276])), (10, (0, 0, 2000, [])), (11, (0, 4, 4, [])), (12, (0, 4, 4, [])), (14, (0, 0, 0, [])), (15, (0, 4, 4, [])), (16, (0, 0, 1999, [])), (17, (0, 0, 1999, [])), (18, (0, 0, 255, [])), (19, (0, 0, 255, [])), (21, (0, 1, 1, [])), (22, (0, 4, 4, [])), (23, (0, 0, 2000, [])), (24, (0, 1, 2001, [])), (25, (0, -1, -1, [])), (26, (0, 0, 65535, [])), (27, (0, 0, 0, []))], [(8, [27], [0]), (7, [25, 26], [1]), (23, [26], [100, 1]), (23, [26], [-100, -1]), (20, [24, 0, 25], [50, 1, 1, 1010, 1001, 4, 11, 0, 6, 4, 2, 1, 0, 0, 1, 2, 1, 10, 1, 2, 1, 2, 9, 5, 3, 1, 1, 1, 0, 0, 256]), (20, [0, 24, 25], [50, 1, 0, 10, 4, 7, 0, 3, 2, 0, 10, 1, 1, 1, 2, 1, 2, 0, -1]), (1, [24, 23, 21], []), (10, [23, 9, 4], []), (9, [4, 0], [158]), (9, [9, 0], [162]), (7, [21, 22], [2]), (6, [21, 14], [1]), (7, [18, 19], [0]), (23, [19], [101, 1]), (23, [19], [-101, -1]), (20, [17, 0, 18], [50, 1, 1, 1010, 1001, 4, 11, 0, 6, 4, 2, 1, 0, 0, 1, 2, 1, 10, 1, 2, 1, 2, 9, 5, 3, 1, 1, 1, 0, 0, 256]), (20, [0, 17, 18], [50, 1, 0, 10, 4, 7, 0, 3, 2, 0, 10, 1, 1, 1, 2, 1, 2, 0, -1]), (1, [17, 16, 14], []), (10, [16, 9, 4], []), (7, [14, 15], [2]), (7, [11, 12], [0]), (2, [11, 8, 10], []), (10, [10, 9, 4], []), (10, [8, 7, 4], []), (9, [7, 0], [163]), (7, [5, 6], [0]), (10, [5, 3, 4], []), (9, [3, 0], [160]), (8, [2], [0]), (9, [2, 0], [8])], [], [], [(20, [27, 0], [50, 1, 1, 1158, 1160, 4, 6, 1, 2, 1, 0, 0, 1, 1, 6, 3, 1, 160, 2, 1, 158, 0, 1]), (20, [0, 27], [60, 3, 4, 20, 8, 158, 10, 160, 162, 163, 1])], [], [(24, 23, 1, 1), (18, 19, 0, 0), (17, 16, 0, 0)])
theorem oo_Mo_word_at_s5022_5 {kA : Nat → ClassId} : or_ok PRD kA GG o_Mo_word_at_s5022_5 := by
  refine or_mk fun A ta ws vs hD hth hl => ?_
  intro t0 r0 t2 k2 t3 r3 t4 k4 t5 k5 t6 k6 t7 r7 t8 k8 t9 r9 t10 k10 t11 k11 t12 k12 t14 k14 t15 k15 t16 k16 t17 k17 t18 k18 t19 k19 t21 k21 t22 k22 t23 k23 t24 k24 t25 k25 t26 k26 t27 k27 d0 d1 d2 f0 f1 f2 f3 f4 f5 f6 f7 f8 f9 f10 f11 f12 f13 f14 f15 f16 f17 f18 f19 f20 f21 f22 f23 f24 f25 f26 f27 f28 f29
  replace f7 := shm_107 f7
  replace f8 := shm_286 f8
  replace f9 := shm_301 f9
  replace f18 := shm_107 f18
  replace f22 := shm_107 f22
  replace f23 := shm_107 f23
  replace f24 := shm_1332 f24
  replace f26 := shm_107 f26
  replace f27 := shm_327 f27
  replace f29 := shm_293 f29
  have cr_0_1 := fdq_39 hD hth r0
  have cr_0_160 := fdq_33 hD hth r0
  have cr_0_162 := fdq_41 hD hth r0
  have cr_0_163 := fdq_42 hD hth r0
  have ad_9 : v_ad (n_v vs 9) = w_ar ws (n_v vs 0) 162 := congrArg v_ad f9
  have ad_7 : v_ad (n_v vs 7) = w_ar ws (n_v vs 0) 163 := congrArg v_ad f24
  have ad_3 : v_ad (n_v vs 3) = w_ar ws (n_v vs 0) 160 := congrArg v_ad f27
  simp only [ad_9] at f7
  have h7 : v_iv (n_v vs 23) = w_ei ws (w_ar ws (n_v vs 0) 162) (v_iv (n_v vs 4)) := f7
  have g8 : v_iv (n_v vs 4) = w_fi ws (n_v vs 0) 158 := congrArg v_iv f8
  simp only [ad_9] at f18
  have h18 : v_iv (n_v vs 16) = w_ei ws (w_ar ws (n_v vs 0) 162) (v_iv (n_v vs 4)) := f18
  simp only [ad_9] at f22
  have h22 : v_iv (n_v vs 10) = w_ei ws (w_ar ws (n_v vs 0) 162) (v_iv (n_v vs 4)) := f22
  simp only [ad_7] at f23
  have h23 : v_iv (n_v vs 8) = w_ei ws (w_ar ws (n_v vs 0) 163) (v_iv (n_v vs 4)) := f23
  simp only [ad_3] at f26
  have h26 : v_iv (n_v vs 5) = w_ei ws (w_ar ws (n_v vs 0) 160) (v_iv (n_v vs 4)) := f26
  have g29 : v_iv (n_v vs 2) = w_fi ws (n_v vs 0) 8 := congrArg v_iv f29
  have hK_0_1 := elq_7 hD hth cr_0_1
  have hK_0_160 := elq_6 hD hth cr_0_160
  have hK_0_162 := elq_8 hD hth cr_0_162
  have hK_0_163 := elq_9 hD hth cr_0_163
  have kz_0_8 := fdq_34 hD hth r0
  have kz_0_10 := fdq_43 hD hth r0
  have kz_0_158 := fdq_36 hD hth r0
  have nf0 : fc_1 PRD (20, [27, 0], [50, 1, 1, 1158, 1160, 4, 6, 1, 2, 1, 0, 0, 1, 1, 6, 3, 1, 160, 2, 1, 158, 0, 1]) ws (vs) := ⟨nf_in hl rfl, sgq_287 (vc_Mo_word_at_s5022_5_0 (v_iv (n_v vs 2)) (v_iv (n_v vs 4)) (v_iv (n_v vs 5)) (v_iv (n_v vs 6)) (v_iv (n_v vs 8)) (v_iv (n_v vs 10)) (v_iv (n_v vs 11)) (v_iv (n_v vs 12)) (v_iv (n_v vs 14)) (v_iv (n_v vs 15)) (v_iv (n_v vs 16)) (v_iv (n_v vs 17)) (v_iv (n_v vs 18)) (v_iv (n_v vs 19)) (v_iv (n_v vs 21)) (v_iv (n_v vs 22)) (v_iv (n_v vs 23)) (v_iv (n_v vs 24)) (v_iv (n_v vs 25)) (v_iv (n_v vs 26)) (v_iv (n_v vs 27)) (w_ei ws (w_ar ws (n_v vs 0) 1)) (w_fi ws (n_v vs 0) 10) (w_ei ws (w_ar ws (n_v vs 0) 162)) (w_fi ws (n_v vs 0) 158) (w_ei ws (w_ar ws (n_v vs 0) 163)) (w_ei ws (w_ar ws (n_v vs 0) 160)) (w_fi ws (n_v vs 0) 8) k2 k4 k5 k6 k8 k10 k11 k12 k14 k15 k16 k17 k18 k19 k21 k22 k23 k24 k25 k26 k27 d0 d1 d2 (shm_192 f0) (shm_40 f1) (shm_57 f2) (shm_58 f3) (shm_541 f4) (shm_542 f5) (shm_12 f6) h7 g8 (shm_6 f10) (shm_4 f11) (shm_37 f12) (shm_59 f13) (shm_60 f14) (shm_541 f15) (shm_542 f16) (shm_12 f17) h18 (shm_6 f19) (shm_37 f20) (shm_14 f21) h22 h23 (shm_37 f25) h26 (shm_192 f28) g29 hK_0_1 hK_0_160 hK_0_162 hK_0_163 kz_0_8 kz_0_10 kz_0_158)⟩
  have nf1 : fc_1 PRD (20, [0, 27], [60, 3, 4, 20, 8, 158, 10, 160, 162, 163, 1]) ws (vs) := ⟨nf_in hl rfl, sgq_1867 (vc_Mo_word_at_s5022_5_1 (v_iv (n_v vs 4)) (v_iv (n_v vs 8)) (v_iv (n_v vs 10)) (v_iv (n_v vs 11)) (v_iv (n_v vs 16)) (v_iv (n_v vs 17)) (v_iv (n_v vs 18)) (v_iv (n_v vs 19)) (v_iv (n_v vs 23)) (v_iv (n_v vs 24)) (v_iv (n_v vs 25)) (v_iv (n_v vs 27)) (w_ei ws (w_ar ws (n_v vs 0) 1)) (w_fi ws (n_v vs 0) 10) (w_ei ws (w_ar ws (n_v vs 0) 162)) (w_fi ws (n_v vs 0) 158) (w_ei ws (w_ar ws (n_v vs 0) 163)) (w_ei ws (w_ar ws (n_v vs 0) 160)) (w_fi ws (n_v vs 0) 8) k4 k8 k10 k11 k16 k17 k18 k19 k23 k24 k25 k27 d0 d1 d2 (shm_541 f4) (shm_542 f5) h7 g8 (shm_59 f13) (shm_60 f14) (shm_541 f15) (shm_542 f16) h18 (shm_14 f21) h22 h23 kz_0_8 kz_0_10 kz_0_158)⟩
  refine ⟨(fun _ h => (by cases h)), [], trivial, ?_, (fun _ h => (by cases h))⟩
  rw [List.append_nil]
  exact List.forall_mem_cons.mpr ⟨⟨show (20 : Nat) < 100 from by decide, nf0⟩, List.forall_mem_cons.mpr ⟨⟨show (20 : Nat) < 100 from by decide, nf1⟩, (fun _ h => (by cases h))⟩⟩
set_option maxHeartbeats 4000000 in
theorem vc_Mo_word_at_s5022_6_0 (x2 : Int) (x4 : Int) (x5 : Int) (x6 : Int) (x8 : Int) (x10 : Int) (x11 : Int) (x12 : Int) (x14 : Int) (x15 : Int) (x16 : Int) (x17 : Int) (x18 : Int) (x19 : Int) (x21 : Int) (x22 : Int) (x23 : Int) (x24 : Int) (x25 : Int) (x26 : Int) (x27 : Int) (tape_0 : Int → Int) (limit_0 : Int) (tokenPlace_0 : Int → Int) (cur_0 : Int) (tokenEnd_0 : Int → Int) (tokenKind_0 : Int → Int) (fault_0 : Int) (k2 : 0 ≤ x2 ∧ x2 ≤ 0) (k4 : 0 ≤ x4 ∧ x4 ≤ 2009) (k5 : 1 ≤ x5 ∧ x5 ≤ 1) (k6 : 1 ≤ x6 ∧ x6 ≤ 1) (k8 : 4 ≤ x8 ∧ x8 ≤ 2000) (k10 : 0 ≤ x10 ∧ x10 ≤ 2000) (k11 : 4 ≤ x11 ∧ x11 ≤ 4) (k12 : 4 ≤ x12 ∧ x12 ≤ 4) (k14 : 0 ≤ x14 ∧ x14 ≤ 0) (k15 : 4 ≤ x15 ∧ x15 ≤ 4) (k16 : 0 ≤ x16 ∧ x16 ≤ 1999) (k17 : 0 ≤ x17 ∧ x17 ≤ 1999) (k18 : 0 ≤ x18 ∧ x18 ≤ 255) (k19 : 0 ≤ x19 ∧ x19 ≤ 255) (k21 : 1 ≤ x21 ∧ x21 ≤ 1) (k22 : 4 ≤ x22 ∧ x22 ≤ 4) (k23 : 0 ≤ x23 ∧ x23 ≤ 1998) (k24 : 1 ≤ x24 ∧ x24 ≤ 1999) (k25 : 0 ≤ x25 ∧ x25 ≤ 255) (k26 : 0 ≤ x26 ∧ x26 ≤ 65535) (k27 : 0 ≤ x27 ∧ x27 ≤ 0) (d0 : x23 + 1 ≤ x24 ∧ x24 ≤ x23 + 1) (d1 : x19 + 0 ≤ x18 ∧ x18 ≤ x19 + 0) (d2 : x16 + 0 ≤ x17 ∧ x17 ≤ x16 + 0) (f0 : x27 = 0) (f1 : x25 ≠ x26) (f2 : 1 * x26 + 0 ≤ 100) (f3 : (-1) * x26 + 0 ≤ (-100)) (f4 : ((x24 + 1) ≤ limit_0) → (x25 = (tape_0 (x24) % 256))) (f5 : (limit_0 ≤ x24) → (x25 = (-1))) (f6 : x24 = x23 + x21) (h7 : x23 = tokenPlace_0 (x4)) (g8 : x4 = cur_0) (f10 : x21 < x22) (f11 : x21 = x14 + 1) (f12 : x18 = x19) (f13 : 1 * x19 + 0 ≤ 101) (f14 : (-1) * x19 + 0 ≤ (-101)) (f15 : ((x17 + 1) ≤ limit_0) → (x18 = (tape_0 (x17) % 256))) (f16 : (limit_0 ≤ x17) → (x18 = (-1))) (f17 : x17 = x16 + x14) (h18 : x16 = tokenPlace_0 (x4)) (f19 : x14 < x15) (f20 : x11 = x12) (f21 : x11 = x8 - x10) (h22 : x10 = tokenPlace_0 (x4)) (h23 : x8 = tokenEnd_0 (x4)) (f25 : x5 = x6) (h26 : x5 = tokenKind_0 (x4)) (f28 : x2 = 0) (g29 : x2 = fault_0) (hK_0_1 : ∀ j : Int, 0 ≤ j → j < 2000 → (-128) ≤ tape_0 j ∧ tape_0 j ≤ 127) (hK_0_160 : ∀ j : Int, 0 ≤ j → j < 2010 → 0 ≤ tokenKind_0 j ∧ tokenKind_0 j ≤ 4) (hK_0_162 : ∀ j : Int, 0 ≤ j → j < 2010 → 0 ≤ tokenPlace_0 j ∧ tokenPlace_0 j ≤ 2000) (hK_0_163 : ∀ j : Int, 0 ≤ j → j < 2010 → 0 ≤ tokenEnd_0 j ∧ tokenEnd_0 j ≤ 2000) (kz_0_8 : 0 ≤ fault_0 ∧ fault_0 ≤ 5) (kz_0_10 : 0 ≤ limit_0 ∧ limit_0 ≤ 2000) (kz_0_158 : 0 ≤ cur_0 ∧ cur_0 ≤ 2009) : (x27 = 1) → (tokenKind_0 (cur_0) = 1) := by
  first | assumption | (clear f4 f5 f15 f16 hK_0_1 hK_0_160 hK_0_162 hK_0_163; omega) | (clear hK_0_1 hK_0_160 hK_0_162 hK_0_163; grind) | omega | grind
set_option maxHeartbeats 4000000 in
theorem vc_Mo_word_at_s5022_6_1 (x4 : Int) (x8 : Int) (x10 : Int) (x11 : Int) (x16 : Int) (x17 : Int) (x18 : Int) (x19 : Int) (x23 : Int) (x24 : Int) (x25 : Int) (x26 : Int) (x27 : Int) (tape_0 : Int → Int) (limit_0 : Int) (tokenPlace_0 : Int → Int) (cur_0 : Int) (tokenEnd_0 : Int → Int) (tokenKind_0 : Int → Int) (fault_0 : Int) (k4 : 0 ≤ x4 ∧ x4 ≤ 2009) (k8 : 4 ≤ x8 ∧ x8 ≤ 2000) (k10 : 0 ≤ x10 ∧ x10 ≤ 2000) (k11 : 4 ≤ x11 ∧ x11 ≤ 4) (k16 : 0 ≤ x16 ∧ x16 ≤ 1999) (k17 : 0 ≤ x17 ∧ x17 ≤ 1999) (k18 : 0 ≤ x18 ∧ x18 ≤ 255) (k19 : 0 ≤ x19 ∧ x19 ≤ 255) (k23 : 0 ≤ x23 ∧ x23 ≤ 1998) (k24 : 1 ≤ x24 ∧ x24 ≤ 1999) (k25 : 0 ≤ x25 ∧ x25 ≤ 255) (k26 : 0 ≤ x26 ∧ x26 ≤ 65535) (k27 : 0 ≤ x27 ∧ x27 ≤ 0) (d0 : x23 + 1 ≤ x24 ∧ x24 ≤ x23 + 1) (d1 : x19 + 0 ≤ x18 ∧ x18 ≤ x19 + 0) (d2 : x16 + 0 ≤ x17 ∧ x17 ≤ x16 + 0) (f1 : x25 ≠ x26) (f2 : 1 * x26 + 0 ≤ 100) (f3 : (-1) * x26 + 0 ≤ (-100)) (f4 : ((x24 + 1) ≤ limit_0) → (x25 = (tape_0 (x24) % 256))) (f5 : (limit_0 ≤ x24) → (x25 = (-1))) (h7 : x23 = tokenPlace_0 (x4)) (g8 : x4 = cur_0) (f13 : 1 * x19 + 0 ≤ 101) (f14 : (-1) * x19 + 0 ≤ (-101)) (f15 : ((x17 + 1) ≤ limit_0) → (x18 = (tape_0 (x17) % 256))) (f16 : (limit_0 ≤ x17) → (x18 = (-1))) (h18 : x16 = tokenPlace_0 (x4)) (f21 : x11 = x8 - x10) (h22 : x10 = tokenPlace_0 (x4)) (h23 : x8 = tokenEnd_0 (x4)) (kz_0_8 : 0 ≤ fault_0 ∧ fault_0 ≤ 5) (kz_0_10 : 0 ≤ limit_0 ∧ limit_0 ≤ 2000) (kz_0_158 : 0 ≤ cur_0 ∧ cur_0 ≤ 2009) : Wqedge (fault_0) (cur_0) (limit_0) (tokenKind_0) (tokenPlace_0) (tokenEnd_0) (tape_0) (x27) := by
  first
    | exact ⟨fun z => by omega, fun z => by have := z.1; omega⟩
    | (have e := (‹x4 = cur_0›)
       rw [← e]
       refine ⟨fun z => ⟨by omega, wdS4.2 ⟨by omega, by omega, by omega, by rw [show tokenPlace_0 x4 + 0 = x17 by omega]; omega, by rw [show tokenPlace_0 x4 + 1 = x24 by omega]; omega, by rw [show tokenPlace_0 x4 + 2 = x31 by omega]; omega, by rw [show tokenPlace_0 x4 + 3 = x38 by omega]; omega⟩⟩, fun z => by omega⟩)
    | (have e := (‹x4 = cur_0›)
       rw [← e]
       refine ⟨fun z => by omega, fun z => ?_⟩
       have w := wdS4.1 z.2
       try (have q0 : tokenPlace_0 x4 + 0 = x17 := (by omega); rw [q0] at w)
       try (have q1 : tokenPlace_0 x4 + 1 = x24 := (by omega); rw [q1] at w)
       try (have q2 : tokenPlace_0 x4 + 2 = x31 := (by omega); rw [q2] at w)
       try (have q3 : tokenPlace_0 x4 + 3 = x38 := (by omega); rw [q3] at w)
       omega)
  
def o_Mo_word_at_s5022_6 : or_T := (102, 30, [(0, (2, 0, 0, [165])), (2, (0, 0, 0, [])), (3, (2, 0, 0, [274])), (4, (0, 0, 2009, [])), (5, (0, 1, 1, [])), (6, (0, 1, 1, [])), (7, (2, 0, 0, [277])), (8, (0, 4, 2000, [])), (9, (2, 0, 0, [276])), (10, (0, 0, 2000, [])), (11, (0, 4, 4, [])), (12, (0, 4, 4, [])), (14, (0, 0, 0, [])), (15, (0, 4, 4, [])), (16, (0, 0, 1999, [])), (17, (0, 0, 1999, [])), (18, (0, 0, 255, [])), (19, (0, 0, 255, [])), (21, (0, 1, 1, [])), (22, (0, 4, 4, [])), (23, (0, 0, 1998, [])), (24, (0, 1, 1999, [])), (25, (0, 0, 255, [])), (26, (0, 0, 65535, [])), (27, (0, 0, 0, []))], [(8, [27], [0]), (7, [25, 26], [1]), (23, [26], [100, 1]), (23, [26], [-100, -1]), (20, [24, 0, 25], [50, 1, 1, 1010, 1001, 4, 11, 0, 6, 4, 2, 1, 0, 0, 1, 2, 1, 10, 1, 2, 1, 2, 9, 5, 3, 1, 1, 1, 0, 0, 256]), (20, [0, 24, 25], [50, 1, 0, 10, 4, 7, 0, 3, 2, 0, 10, 1, 1, 1, 2, 1, 2, 0, -1]), (1, [24, 23, 21], []), (10, [23, 9, 4], []), (9, [4, 0], [158]), (9, [9, 0], [162]), (7, [21, 22], [2]), (6, [21, 14], [1]), (7, [18, 19], [0]), (23, [19], [101, 1]), (23, [19], [-101, -1]), (20, [17, 0, 18], [50, 1, 1, 1010, 1001, 4, 11, 0, 6, 4, 2, 1, 0, 0, 1, 2, 1, 10, 1, 2, 1, 2, 9, 5, 3, 1, 1, 1, 0, 0, 256]), (20, [0, 17, 18], [50, 1, 0, 10, 4, 7, 0, 3, 2, 0, 10, 1, 1, 1, 2, 1, 2, 0, -1]), (1, [17, 16, 14], []), (10, [16, 9, 4], []), (7, [14, 15], [2]), (7, [11, 12], [0]), (2, [11, 8, 10], []), (10, [10, 9, 4], []), (10, [8, 7, 4], []), (9, [7, 0], [163]), (7, [5, 6], [0]), (10, [5, 3, 4], []), (9, [3, 0], [160]), (8, [2], [0]), (9, [2, 0], [8])], [], [], [(20, [27, 0], [50, 1, 1, 1158, 1160, 4, 6, 1, 2, 1, 0, 0, 1, 1, 6, 3, 1, 160, 2, 1, 158, 0, 1]), (20, [0, 27], [60, 3, 4, 20, 8, 158, 10, 160, 162, 163, 1])], [], [(24, 23, 1, 1), (18, 19, 0, 0), (17, 16, 0, 0)])
theorem oo_Mo_word_at_s5022_6 {kA : Nat → ClassId} : or_ok PRD kA GG o_Mo_word_at_s5022_6 := by
  refine or_mk fun A ta ws vs hD hth hl => ?_
  intro t0 r0 t2 k2 t3 r3 t4 k4 t5 k5 t6 k6 t7 r7 t8 k8 t9 r9 t10 k10 t11 k11 t12 k12 t14 k14 t15 k15 t16 k16 t17 k17 t18 k18 t19 k19 t21 k21 t22 k22 t23 k23 t24 k24 t25 k25 t26 k26 t27 k27 d0 d1 d2 f0 f1 f2 f3 f4 f5 f6 f7 f8 f9 f10 f11 f12 f13 f14 f15 f16 f17 f18 f19 f20 f21 f22 f23 f24 f25 f26 f27 f28 f29
  replace f7 := shm_107 f7
  replace f8 := shm_286 f8
  replace f9 := shm_301 f9
  replace f18 := shm_107 f18
  replace f22 := shm_107 f22
  replace f23 := shm_107 f23
  replace f24 := shm_1332 f24
  replace f26 := shm_107 f26
  replace f27 := shm_327 f27
  replace f29 := shm_293 f29
  have cr_0_1 := fdq_39 hD hth r0
  have cr_0_160 := fdq_33 hD hth r0
  have cr_0_162 := fdq_41 hD hth r0
  have cr_0_163 := fdq_42 hD hth r0
  have ad_9 : v_ad (n_v vs 9) = w_ar ws (n_v vs 0) 162 := congrArg v_ad f9
  have ad_7 : v_ad (n_v vs 7) = w_ar ws (n_v vs 0) 163 := congrArg v_ad f24
  have ad_3 : v_ad (n_v vs 3) = w_ar ws (n_v vs 0) 160 := congrArg v_ad f27
  simp only [ad_9] at f7
  have h7 : v_iv (n_v vs 23) = w_ei ws (w_ar ws (n_v vs 0) 162) (v_iv (n_v vs 4)) := f7
  have g8 : v_iv (n_v vs 4) = w_fi ws (n_v vs 0) 158 := congrArg v_iv f8
  simp only [ad_9] at f18
  have h18 : v_iv (n_v vs 16) = w_ei ws (w_ar ws (n_v vs 0) 162) (v_iv (n_v vs 4)) := f18
  simp only [ad_9] at f22
  have h22 : v_iv (n_v vs 10) = w_ei ws (w_ar ws (n_v vs 0) 162) (v_iv (n_v vs 4)) := f22
  simp only [ad_7] at f23
  have h23 : v_iv (n_v vs 8) = w_ei ws (w_ar ws (n_v vs 0) 163) (v_iv (n_v vs 4)) := f23
  simp only [ad_3] at f26
  have h26 : v_iv (n_v vs 5) = w_ei ws (w_ar ws (n_v vs 0) 160) (v_iv (n_v vs 4)) := f26
  have g29 : v_iv (n_v vs 2) = w_fi ws (n_v vs 0) 8 := congrArg v_iv f29
  have hK_0_1 := elq_7 hD hth cr_0_1
  have hK_0_160 := elq_6 hD hth cr_0_160
  have hK_0_162 := elq_8 hD hth cr_0_162
  have hK_0_163 := elq_9 hD hth cr_0_163
  have kz_0_8 := fdq_34 hD hth r0
  have kz_0_10 := fdq_43 hD hth r0
  have kz_0_158 := fdq_36 hD hth r0
  have nf0 : fc_1 PRD (20, [27, 0], [50, 1, 1, 1158, 1160, 4, 6, 1, 2, 1, 0, 0, 1, 1, 6, 3, 1, 160, 2, 1, 158, 0, 1]) ws (vs) := ⟨nf_in hl rfl, sgq_287 (vc_Mo_word_at_s5022_6_0 (v_iv (n_v vs 2)) (v_iv (n_v vs 4)) (v_iv (n_v vs 5)) (v_iv (n_v vs 6)) (v_iv (n_v vs 8)) (v_iv (n_v vs 10)) (v_iv (n_v vs 11)) (v_iv (n_v vs 12)) (v_iv (n_v vs 14)) (v_iv (n_v vs 15)) (v_iv (n_v vs 16)) (v_iv (n_v vs 17)) (v_iv (n_v vs 18)) (v_iv (n_v vs 19)) (v_iv (n_v vs 21)) (v_iv (n_v vs 22)) (v_iv (n_v vs 23)) (v_iv (n_v vs 24)) (v_iv (n_v vs 25)) (v_iv (n_v vs 26)) (v_iv (n_v vs 27)) (w_ei ws (w_ar ws (n_v vs 0) 1)) (w_fi ws (n_v vs 0) 10) (w_ei ws (w_ar ws (n_v vs 0) 162)) (w_fi ws (n_v vs 0) 158) (w_ei ws (w_ar ws (n_v vs 0) 163)) (w_ei ws (w_ar ws (n_v vs 0) 160)) (w_fi ws (n_v vs 0) 8) k2 k4 k5 k6 k8 k10 k11 k12 k14 k15 k16 k17 k18 k19 k21 k22 k23 k24 k25 k26 k27 d0 d1 d2 (shm_192 f0) (shm_40 f1) (shm_57 f2) (shm_58 f3) (shm_541 f4) (shm_542 f5) (shm_12 f6) h7 g8 (shm_6 f10) (shm_4 f11) (shm_37 f12) (shm_59 f13) (shm_60 f14) (shm_541 f15) (shm_542 f16) (shm_12 f17) h18 (shm_6 f19) (shm_37 f20) (shm_14 f21) h22 h23 (shm_37 f25) h26 (shm_192 f28) g29 hK_0_1 hK_0_160 hK_0_162 hK_0_163 kz_0_8 kz_0_10 kz_0_158)⟩
  have nf1 : fc_1 PRD (20, [0, 27], [60, 3, 4, 20, 8, 158, 10, 160, 162, 163, 1]) ws (vs) := ⟨nf_in hl rfl, sgq_1867 (vc_Mo_word_at_s5022_6_1 (v_iv (n_v vs 4)) (v_iv (n_v vs 8)) (v_iv (n_v vs 10)) (v_iv (n_v vs 11)) (v_iv (n_v vs 16)) (v_iv (n_v vs 17)) (v_iv (n_v vs 18)) (v_iv (n_v vs 19)) (v_iv (n_v vs 23)) (v_iv (n_v vs 24)) (v_iv (n_v vs 25)) (v_iv (n_v vs 26)) (v_iv (n_v vs 27)) (w_ei ws (w_ar ws (n_v vs 0) 1)) (w_fi ws (n_v vs 0) 10) (w_ei ws (w_ar ws (n_v vs 0) 162)) (w_fi ws (n_v vs 0) 158) (w_ei ws (w_ar ws (n_v vs 0) 163)) (w_ei ws (w_ar ws (n_v vs 0) 160)) (w_fi ws (n_v vs 0) 8) k4 k8 k10 k11 k16 k17 k18 k19 k23 k24 k25 k26 k27 d0 d1 d2 (shm_40 f1) (shm_57 f2) (shm_58 f3) (shm_541 f4) (shm_542 f5) h7 g8 (shm_59 f13) (shm_60 f14) (shm_541 f15) (shm_542 f16) h18 (shm_14 f21) h22 h23 kz_0_8 kz_0_10 kz_0_158)⟩
  refine ⟨(fun _ h => (by cases h)), [], trivial, ?_, (fun _ h => (by cases h))⟩
  rw [List.append_nil]
  exact List.forall_mem_cons.mpr ⟨⟨show (20 : Nat) < 100 from by decide, nf0⟩, List.forall_mem_cons.mpr ⟨⟨show (20 : Nat) < 100 from by decide, nf1⟩, (fun _ h => (by cases h))⟩⟩
set_option maxHeartbeats 4000000 in
theorem vc_Mo_word_at_s5022_7_0 (x2 : Int) (x4 : Int) (x5 : Int) (x6 : Int) (x8 : Int) (x10 : Int) (x11 : Int) (x12 : Int) (x14 : Int) (x15 : Int) (x16 : Int) (x17 : Int) (x18 : Int) (x19 : Int) (x21 : Int) (x22 : Int) (x23 : Int) (x24 : Int) (x25 : Int) (x26 : Int) (x28 : Int) (x29 : Int) (x30 : Int) (x31 : Int) (x32 : Int) (x33 : Int) (x34 : Int) (tape_0 : Int → Int) (limit_0 : Int) (tokenPlace_0 : Int → Int) (cur_0 : Int) (tokenEnd_0 : Int → Int) (tokenKind_0 : Int → Int) (fault_0 : Int) (k2 : 0 ≤ x2 ∧ x2 ≤ 0) (k4 : 0 ≤ x4 ∧ x4 ≤ 2009) (k5 : 1 ≤ x5 ∧ x5 ≤ 1) (k6 : 1 ≤ x6 ∧ x6 ≤ 1) (k8 : 4 ≤ x8 ∧ x8 ≤ 2000) (k10 : 0 ≤ x10 ∧ x10 ≤ 2000) (k11 : 4 ≤ x11 ∧ x11 ≤ 4) (k12 : 4 ≤ x12 ∧ x12 ≤ 4) (k14 : 0 ≤ x14 ∧ x14 ≤ 0) (k15 : 4 ≤ x15 ∧ x15 ≤ 4) (k16 : 0 ≤ x16 ∧ x16 ≤ 1999) (k17 : 0 ≤ x17 ∧ x17 ≤ 1999) (k18 : 0 ≤ x18 ∧ x18 ≤ 255) (k19 : 0 ≤ x19 ∧ x19 ≤ 255) (k21 : 1 ≤ x21 ∧ x21 ≤ 1) (k22 : 4 ≤ x22 ∧ x22 ≤ 4) (k23 : 0 ≤ x23 ∧ x23 ≤ 1998) (k24 : 1 ≤ x24 ∧ x24 ≤ 1999) (k25 : 0 ≤ x25 ∧ x25 ≤ 255) (k26 : 0 ≤ x26 ∧ x26 ≤ 255) (k28 : 2 ≤ x28 ∧ x28 ≤ 2) (k29 : 4 ≤ x29 ∧ x29 ≤ 4) (k30 : 0 ≤ x30 ∧ x30 ≤ 2000) (k31 : 2 ≤ x31 ∧ x31 ≤ 2002) (k32 : (-1) ≤ x32 ∧ x32 ≤ (-1)) (k33 : 0 ≤ x33 ∧ x33 ≤ 65535) (k34 : 0 ≤ x34 ∧ x34 ≤ 0) (d0 : x30 + 2 ≤ x31 ∧ x31 ≤ x30 + 2) (d1 : x26 + 0 ≤ x25 ∧ x25 ≤ x26 + 0) (d2 : x23 + 1 ≤ x24 ∧ x24 ≤ x23 + 1) (d3 : x19 + 0 ≤ x18 ∧ x18 ≤ x19 + 0) (d4 : x16 + 0 ≤ x17 ∧ x17 ≤ x16 + 0) (f0 : x34 = 0) (f1 : x32 ≠ x33) (f2 : 1 * x33 + 0 ≤ 103) (f3 : (-1) * x33 + 0 ≤ (-103)) (f4 : ((x31 + 1) ≤ limit_0) → (x32 = (tape_0 (x31) % 256))) (f5 : (limit_0 ≤ x31) → (x32 = (-1))) (f6 : x31 = x30 + x28) (h7 : x30 = tokenPlace_0 (x4)) (g8 : x4 = cur_0) (f10 : x28 < x29) (f11 : x28 = x21 + 1) (f12 : x25 = x26) (f13 : 1 * x26 + 0 ≤ 100) (f14 : (-1) * x26 + 0 ≤ (-100)) (f15 : ((x24 + 1) ≤ limit_0) → (x25 = (tape_0 (x24) % 256))) (f16 : (limit_0 ≤ x24) → (x25 = (-1))) (f17 : x24 = x23 + x21) (h18 : x23 = tokenPlace_0 (x4)) (f19 : x21 < x22) (f20 : x21 = x14 + 1) (f21 : x18 = x19) (f22 : 1 * x19 + 0 ≤ 101) (f23 : (-1) * x19 + 0 ≤ (-101)) (f24 : ((x17 + 1) ≤ limit_0) → (x18 = (tape_0 (x17) % 256))) (f25 : (limit_0 ≤ x17) → (x18 = (-1))) (f26 : x17 = x16 + x14) (h27 : x16 = tokenPlace_0 (x4)) (f28 : x14 < x15) (f29 : x11 = x12) (f30 : x11 = x8 - x10) (h31 : x10 = tokenPlace_0 (x4)) (h32 : x8 = tokenEnd_0 (x4)) (f34 : x5 = x6) (h35 : x5 = tokenKind_0 (x4)) (f37 : x2 = 0) (g38 : x2 = fault_0) (hK_0_1 : ∀ j : Int, 0 ≤ j → j < 2000 → (-128) ≤ tape_0 j ∧ tape_0 j ≤ 127) (hK_0_160 : ∀ j : Int, 0 ≤ j → j < 2010 → 0 ≤ tokenKind_0 j ∧ tokenKind_0 j ≤ 4) (hK_0_162 : ∀ j : Int, 0 ≤ j → j < 2010 → 0 ≤ tokenPlace_0 j ∧ tokenPlace_0 j ≤ 2000) (hK_0_163 : ∀ j : Int, 0 ≤ j → j < 2010 → 0 ≤ tokenEnd_0 j ∧ tokenEnd_0 j ≤ 2000) (kz_0_8 : 0 ≤ fault_0 ∧ fault_0 ≤ 5) (kz_0_10 : 0 ≤ limit_0 ∧ limit_0 ≤ 2000) (kz_0_158 : 0 ≤ cur_0 ∧ cur_0 ≤ 2009) : (x34 = 1) → (tokenKind_0 (cur_0) = 1) := by
  first | assumption | (clear f4 f5 f15 f16 f24 f25 hK_0_1 hK_0_160 hK_0_162 hK_0_163; omega) | (clear hK_0_1 hK_0_160 hK_0_162 hK_0_163; grind) | omega | grind
set_option maxHeartbeats 4000000 in
theorem vc_Mo_word_at_s5022_7_1 (x4 : Int) (x8 : Int) (x10 : Int) (x11 : Int) (x16 : Int) (x17 : Int) (x18 : Int) (x19 : Int) (x23 : Int) (x24 : Int) (x25 : Int) (x26 : Int) (x30 : Int) (x31 : Int) (x32 : Int) (x34 : Int) (tape_0 : Int → Int) (limit_0 : Int) (tokenPlace_0 : Int → Int) (cur_0 : Int) (tokenEnd_0 : Int → Int) (tokenKind_0 : Int → Int) (fault_0 : Int) (k4 : 0 ≤ x4 ∧ x4 ≤ 2009) (k8 : 4 ≤ x8 ∧ x8 ≤ 2000) (k10 : 0 ≤ x10 ∧ x10 ≤ 2000) (k11 : 4 ≤ x11 ∧ x11 ≤ 4) (k16 : 0 ≤ x16 ∧ x16 ≤ 1999) (k17 : 0 ≤ x17 ∧ x17 ≤ 1999) (k18 : 0 ≤ x18 ∧ x18 ≤ 255) (k19 : 0 ≤ x19 ∧ x19 ≤ 255) (k23 : 0 ≤ x23 ∧ x23 ≤ 1998) (k24 : 1 ≤ x24 ∧ x24 ≤ 1999) (k25 : 0 ≤ x25 ∧ x25 ≤ 255) (k26 : 0 ≤ x26 ∧ x26 ≤ 255) (k30 : 0 ≤ x30 ∧ x30 ≤ 2000) (k31 : 2 ≤ x31 ∧ x31 ≤ 2002) (k32 : (-1) ≤ x32 ∧ x32 ≤ (-1)) (k34 : 0 ≤ x34 ∧ x34 ≤ 0) (d0 : x30 + 2 ≤ x31 ∧ x31 ≤ x30 + 2) (d1 : x26 + 0 ≤ x25 ∧ x25 ≤ x26 + 0) (d2 : x23 + 1 ≤ x24 ∧ x24 ≤ x23 + 1) (d3 : x19 + 0 ≤ x18 ∧ x18 ≤ x19 + 0) (d4 : x16 + 0 ≤ x17 ∧ x17 ≤ x16 + 0) (f4 : ((x31 + 1) ≤ limit_0) → (x32 = (tape_0 (x31) % 256))) (f5 : (limit_0 ≤ x31) → (x32 = (-1))) (h7 : x30 = tokenPlace_0 (x4)) (g8 : x4 = cur_0) (f13 : 1 * x26 + 0 ≤ 100) (f14 : (-1) * x26 + 0 ≤ (-100)) (f15 : ((x24 + 1) ≤ limit_0) → (x25 = (tape_0 (x24) % 256))) (f16 : (limit_0 ≤ x24) → (x25 = (-1))) (h18 : x23 = tokenPlace_0 (x4)) (f22 : 1 * x19 + 0 ≤ 101) (f23 : (-1) * x19 + 0 ≤ (-101)) (f24 : ((x17 + 1) ≤ limit_0) → (x18 = (tape_0 (x17) % 256))) (f25 : (limit_0 ≤ x17) → (x18 = (-1))) (h27 : x16 = tokenPlace_0 (x4)) (f30 : x11 = x8 - x10) (h31 : x10 = tokenPlace_0 (x4)) (h32 : x8 = tokenEnd_0 (x4)) (kz_0_8 : 0 ≤ fault_0 ∧ fault_0 ≤ 5) (kz_0_10 : 0 ≤ limit_0 ∧ limit_0 ≤ 2000) (kz_0_158 : 0 ≤ cur_0 ∧ cur_0 ≤ 2009) : Wqedge (fault_0) (cur_0) (limit_0) (tokenKind_0) (tokenPlace_0) (tokenEnd_0) (tape_0) (x34) := by
  first
    | exact ⟨fun z => by omega, fun z => by have := z.1; omega⟩
    | (have e := (‹x4 = cur_0›)
       rw [← e]
       refine ⟨fun z => ⟨by omega, wdS4.2 ⟨by omega, by omega, by omega, by rw [show tokenPlace_0 x4 + 0 = x17 by omega]; omega, by rw [show tokenPlace_0 x4 + 1 = x24 by omega]; omega, by rw [show tokenPlace_0 x4 + 2 = x31 by omega]; omega, by rw [show tokenPlace_0 x4 + 3 = x38 by omega]; omega⟩⟩, fun z => by omega⟩)
    | (have e := (‹x4 = cur_0›)
       rw [← e]
       refine ⟨fun z => by omega, fun z => ?_⟩
       have w := wdS4.1 z.2
       try (have q0 : tokenPlace_0 x4 + 0 = x17 := (by omega); rw [q0] at w)
       try (have q1 : tokenPlace_0 x4 + 1 = x24 := (by omega); rw [q1] at w)
       try (have q2 : tokenPlace_0 x4 + 2 = x31 := (by omega); rw [q2] at w)
       try (have q3 : tokenPlace_0 x4 + 3 = x38 := (by omega); rw [q3] at w)
       omega)
  
def o_Mo_word_at_s5022_7 : or_T := (102, 37, [(0, (2, 0, 0, [165])), (2, (0, 0, 0, [])), (3, (2, 0, 0, [274])), (4, (0, 0, 2009, [])), (5, (0, 1, 1, [])), (6, (0, 1, 1, [])), (7, (2, 0, 0, [277])), (8, (0, 4, 2000, [])), (9, (2, 0, 0, [276])), (10, (0, 0, 2000, [])), (11, (0, 4, 4, [])), (12, (0, 4, 4, [])), (14, (0, 0, 0, [])), (15, (0, 4, 4, [])), (16, (0, 0, 1999, [])), (17, (0, 0, 1999, [])), (18, (0, 0, 255, [])), (19, (0, 0, 255, [])), (21, (0, 1, 1, [])), (22, (0, 4, 4, [])), (23, (0, 0, 1998, [])), (24, (0, 1, 1999, [])), (25, (0, 0, 255, [])), (26, (0, 0, 255, [])), (28, (0, 2, 2, [])), (29, (0, 4, 4, [])), (30, (0, 0, 2000, [])), (31, (0, 2, 2002, [])), (32, (0, -1, -1, [])), (33, (0, 0, 65535, [])), (34, (0, 0, 0, []))], [(8, [34], [0]), (7, [32, 33], [1]), (23, [33], [103, 1]), (23, [33], [-103, -1]), (20, [31, 0, 32], [50, 1, 1, 1010, 1001, 4, 11, 0, 6, 4, 2, 1, 0, 0, 1, 2, 1, 10, 1, 2, 1, 2, 9, 5, 3, 1, 1, 1, 0, 0, 256]), (20, [0, 31, 32], [50, 1, 0, 10, 4, 7, 0, 3, 2, 0, 10, 1, 1, 1, 2, 1, 2, 0, -1]), (1, [31, 30, 28], []), (10, [30, 9, 4], []), (9, [4, 0], [158]), (9, [9, 0], [162]), (7, [28, 29], [2]), (6, [28, 21], [1]), (7, [25, 26], [0]), (23, [26], [100, 1]), (23, [26], [-100, -1]), (20, [24, 0, 25], [50, 1, 1, 1010, 1001, 4, 11, 0, 6, 4, 2, 1, 0, 0, 1, 2, 1, 10, 1, 2, 1, 2, 9, 5, 3, 1, 1, 1, 0, 0, 256]), (20, [0, 24, 25], [50, 1, 0, 10, 4, 7, 0, 3, 2, 0, 10, 1, 1, 1, 2, 1, 2, 0, -1]), (1, [24, 23, 21], []), (10, [23, 9, 4], []), (7, [21, 22], [2]), (6, [21, 14], [1]), (7, [18, 19], [0]), (23, [19], [101, 1]), (23, [19], [-101, -1]), (20, [17, 0, 18], [50, 1, 1, 1010, 1001, 4, 11, 0, 6, 4, 2, 1, 0, 0, 1, 2, 1, 10, 1, 2, 1, 2, 9, 5, 3, 1, 1, 1, 0, 0, 256]), (20, [0, 17, 18], [50, 1, 0, 10, 4, 7, 0, 3, 2, 0, 10, 1, 1, 1, 2, 1, 2, 0, -1]), (1, [17, 16, 14], []), (10, [16, 9, 4], []), (7, [14, 15], [2]), (7, [11, 12], [0]), (2, [11, 8, 10], []), (10, [10, 9, 4], []), (10, [8, 7, 4], []), (9, [7, 0], [163]), (7, [5, 6], [0]), (10, [5, 3, 4], []), (9, [3, 0], [160]), (8, [2], [0]), (9, [2, 0], [8])], [], [], [(20, [34, 0], [50, 1, 1, 1158, 1160, 4, 6, 1, 2, 1, 0, 0, 1, 1, 6, 3, 1, 160, 2, 1, 158, 0, 1]), (20, [0, 34], [60, 3, 4, 20, 8, 158, 10, 160, 162, 163, 1])], [], [(31, 30, 2, 2), (25, 26, 0, 0), (24, 23, 1, 1), (18, 19, 0, 0), (17, 16, 0, 0)])
theorem oo_Mo_word_at_s5022_7 {kA : Nat → ClassId} : or_ok PRD kA GG o_Mo_word_at_s5022_7 := by
  refine or_mk fun A ta ws vs hD hth hl => ?_
  intro t0 r0 t2 k2 t3 r3 t4 k4 t5 k5 t6 k6 t7 r7 t8 k8 t9 r9 t10 k10 t11 k11 t12 k12 t14 k14 t15 k15 t16 k16 t17 k17 t18 k18 t19 k19 t21 k21 t22 k22 t23 k23 t24 k24 t25 k25 t26 k26 t28 k28 t29 k29 t30 k30 t31 k31 t32 k32 t33 k33 t34 k34 d0 d1 d2 d3 d4 f0 f1 f2 f3 f4 f5 f6 f7 f8 f9 f10 f11 f12 f13 f14 f15 f16 f17 f18 f19 f20 f21 f22 f23 f24 f25 f26 f27 f28 f29 f30 f31 f32 f33 f34 f35 f36 f37 f38
  replace f7 := shm_107 f7
  replace f8 := shm_286 f8
  replace f9 := shm_301 f9
  replace f18 := shm_107 f18
  replace f27 := shm_107 f27
  replace f31 := shm_107 f31
  replace f32 := shm_107 f32
  replace f33 := shm_1332 f33
  replace f35 := shm_107 f35
  replace f36 := shm_327 f36
  replace f38 := shm_293 f38
  have cr_0_1 := fdq_39 hD hth r0
  have cr_0_160 := fdq_33 hD hth r0
  have cr_0_162 := fdq_41 hD hth r0
  have cr_0_163 := fdq_42 hD hth r0
  have ad_9 : v_ad (n_v vs 9) = w_ar ws (n_v vs 0) 162 := congrArg v_ad f9
  have ad_7 : v_ad (n_v vs 7) = w_ar ws (n_v vs 0) 163 := congrArg v_ad f33
  have ad_3 : v_ad (n_v vs 3) = w_ar ws (n_v vs 0) 160 := congrArg v_ad f36
  simp only [ad_9] at f7
  have h7 : v_iv (n_v vs 30) = w_ei ws (w_ar ws (n_v vs 0) 162) (v_iv (n_v vs 4)) := f7
  have g8 : v_iv (n_v vs 4) = w_fi ws (n_v vs 0) 158 := congrArg v_iv f8
  simp only [ad_9] at f18
  have h18 : v_iv (n_v vs 23) = w_ei ws (w_ar ws (n_v vs 0) 162) (v_iv (n_v vs 4)) := f18
  simp only [ad_9] at f27
  have h27 : v_iv (n_v vs 16) = w_ei ws (w_ar ws (n_v vs 0) 162) (v_iv (n_v vs 4)) := f27
  simp only [ad_9] at f31
  have h31 : v_iv (n_v vs 10) = w_ei ws (w_ar ws (n_v vs 0) 162) (v_iv (n_v vs 4)) := f31
  simp only [ad_7] at f32
  have h32 : v_iv (n_v vs 8) = w_ei ws (w_ar ws (n_v vs 0) 163) (v_iv (n_v vs 4)) := f32
  simp only [ad_3] at f35
  have h35 : v_iv (n_v vs 5) = w_ei ws (w_ar ws (n_v vs 0) 160) (v_iv (n_v vs 4)) := f35
  have g38 : v_iv (n_v vs 2) = w_fi ws (n_v vs 0) 8 := congrArg v_iv f38
  have hK_0_1 := elq_7 hD hth cr_0_1
  have hK_0_160 := elq_6 hD hth cr_0_160
  have hK_0_162 := elq_8 hD hth cr_0_162
  have hK_0_163 := elq_9 hD hth cr_0_163
  have kz_0_8 := fdq_34 hD hth r0
  have kz_0_10 := fdq_43 hD hth r0
  have kz_0_158 := fdq_36 hD hth r0
  have nf0 : fc_1 PRD (20, [34, 0], [50, 1, 1, 1158, 1160, 4, 6, 1, 2, 1, 0, 0, 1, 1, 6, 3, 1, 160, 2, 1, 158, 0, 1]) ws (vs) := ⟨nf_in hl rfl, sgq_287 (vc_Mo_word_at_s5022_7_0 (v_iv (n_v vs 2)) (v_iv (n_v vs 4)) (v_iv (n_v vs 5)) (v_iv (n_v vs 6)) (v_iv (n_v vs 8)) (v_iv (n_v vs 10)) (v_iv (n_v vs 11)) (v_iv (n_v vs 12)) (v_iv (n_v vs 14)) (v_iv (n_v vs 15)) (v_iv (n_v vs 16)) (v_iv (n_v vs 17)) (v_iv (n_v vs 18)) (v_iv (n_v vs 19)) (v_iv (n_v vs 21)) (v_iv (n_v vs 22)) (v_iv (n_v vs 23)) (v_iv (n_v vs 24)) (v_iv (n_v vs 25)) (v_iv (n_v vs 26)) (v_iv (n_v vs 28)) (v_iv (n_v vs 29)) (v_iv (n_v vs 30)) (v_iv (n_v vs 31)) (v_iv (n_v vs 32)) (v_iv (n_v vs 33)) (v_iv (n_v vs 34)) (w_ei ws (w_ar ws (n_v vs 0) 1)) (w_fi ws (n_v vs 0) 10) (w_ei ws (w_ar ws (n_v vs 0) 162)) (w_fi ws (n_v vs 0) 158) (w_ei ws (w_ar ws (n_v vs 0) 163)) (w_ei ws (w_ar ws (n_v vs 0) 160)) (w_fi ws (n_v vs 0) 8) k2 k4 k5 k6 k8 k10 k11 k12 k14 k15 k16 k17 k18 k19 k21 k22 k23 k24 k25 k26 k28 k29 k30 k31 k32 k33 k34 d0 d1 d2 d3 d4 (shm_192 f0) (shm_40 f1) (shm_61 f2) (shm_62 f3) (shm_541 f4) (shm_542 f5) (shm_12 f6) h7 g8 (shm_6 f10) (shm_4 f11) (shm_37 f12) (shm_57 f13) (shm_58 f14) (shm_541 f15) (shm_542 f16) (shm_12 f17) h18 (shm_6 f19) (shm_4 f20) (shm_37 f21) (shm_59 f22) (shm_60 f23) (shm_541 f24) (shm_542 f25) (shm_12 f26) h27 (shm_6 f28) (shm_37 f29) (shm_14 f30) h31 h32 (shm_37 f34) h35 (shm_192 f37) g38 hK_0_1 hK_0_160 hK_0_162 hK_0_163 kz_0_8 kz_0_10 kz_0_158)⟩
  have nf1 : fc_1 PRD (20, [0, 34], [60, 3, 4, 20, 8, 158, 10, 160, 162, 163, 1]) ws (vs) := ⟨nf_in hl rfl, sgq_1867 (vc_Mo_word_at_s5022_7_1 (v_iv (n_v vs 4)) (v_iv (n_v vs 8)) (v_iv (n_v vs 10)) (v_iv (n_v vs 11)) (v_iv (n_v vs 16)) (v_iv (n_v vs 17)) (v_iv (n_v vs 18)) (v_iv (n_v vs 19)) (v_iv (n_v vs 23)) (v_iv (n_v vs 24)) (v_iv (n_v vs 25)) (v_iv (n_v vs 26)) (v_iv (n_v vs 30)) (v_iv (n_v vs 31)) (v_iv (n_v vs 32)) (v_iv (n_v vs 34)) (w_ei ws (w_ar ws (n_v vs 0) 1)) (w_fi ws (n_v vs 0) 10) (w_ei ws (w_ar ws (n_v vs 0) 162)) (w_fi ws (n_v vs 0) 158) (w_ei ws (w_ar ws (n_v vs 0) 163)) (w_ei ws (w_ar ws (n_v vs 0) 160)) (w_fi ws (n_v vs 0) 8) k4 k8 k10 k11 k16 k17 k18 k19 k23 k24 k25 k26 k30 k31 k32 k34 d0 d1 d2 d3 d4 (shm_541 f4) (shm_542 f5) h7 g8 (shm_57 f13) (shm_58 f14) (shm_541 f15) (shm_542 f16) h18 (shm_59 f22) (shm_60 f23) (shm_541 f24) (shm_542 f25) h27 (shm_14 f30) h31 h32 kz_0_8 kz_0_10 kz_0_158)⟩
  refine ⟨(fun _ h => (by cases h)), [], trivial, ?_, (fun _ h => (by cases h))⟩
  rw [List.append_nil]
  exact List.forall_mem_cons.mpr ⟨⟨show (20 : Nat) < 100 from by decide, nf0⟩, List.forall_mem_cons.mpr ⟨⟨show (20 : Nat) < 100 from by decide, nf1⟩, (fun _ h => (by cases h))⟩⟩
set_option maxHeartbeats 4000000 in
theorem vc_Mo_word_at_s5022_8_0 (x2 : Int) (x4 : Int) (x5 : Int) (x6 : Int) (x8 : Int) (x10 : Int) (x11 : Int) (x12 : Int) (x14 : Int) (x15 : Int) (x16 : Int) (x17 : Int) (x18 : Int) (x19 : Int) (x21 : Int) (x22 : Int) (x23 : Int) (x24 : Int) (x25 : Int) (x26 : Int) (x28 : Int) (x29 : Int) (x30 : Int) (x31 : Int) (x32 : Int) (x33 : Int) (x34 : Int) (tape_0 : Int → Int) (limit_0 : Int) (tokenPlace_0 : Int → Int) (cur_0 : Int) (tokenEnd_0 : Int → Int) (tokenKind_0 : Int → Int) (fault_0 : Int) (k2 : 0 ≤ x2 ∧ x2 ≤ 0) (k4 : 0 ≤ x4 ∧ x4 ≤ 2009) (k5 : 1 ≤ x5 ∧ x5 ≤ 1) (k6 : 1 ≤ x6 ∧ x6 ≤ 1) (k8 : 4 ≤ x8 ∧ x8 ≤ 2000) (k10 : 0 ≤ x10 ∧ x10 ≤ 2000) (k11 : 4 ≤ x11 ∧ x11 ≤ 4) (k12 : 4 ≤ x12 ∧ x12 ≤ 4) (k14 : 0 ≤ x14 ∧ x14 ≤ 0) (k15 : 4 ≤ x15 ∧ x15 ≤ 4) (k16 : 0 ≤ x16 ∧ x16 ≤ 1999) (k17 : 0 ≤ x17 ∧ x17 ≤ 1999) (k18 : 0 ≤ x18 ∧ x18 ≤ 255) (k19 : 0 ≤ x19 ∧ x19 ≤ 255) (k21 : 1 ≤ x21 ∧ x21 ≤ 1) (k22 : 4 ≤ x22 ∧ x22 ≤ 4) (k23 : 0 ≤ x23 ∧ x23 ≤ 1998) (k24 : 1 ≤ x24 ∧ x24 ≤ 1999) (k25 : 0 ≤ x25 ∧ x25 ≤ 255) (k26 : 0 ≤ x26 ∧ x26 ≤ 255) (k28 : 2 ≤ x28 ∧ x28 ≤ 2) (k29 : 4 ≤ x29 ∧ x29 ≤ 4) (k30 : 0 ≤ x30 ∧ x30 ≤ 1997) (k31 : 2 ≤ x31 ∧ x31 ≤ 1999) (k32 : 0 ≤ x32 ∧ x32 ≤ 255) (k33 : 0 ≤ x33 ∧ x33 ≤ 65535) (k34 : 0 ≤ x34 ∧ x34 ≤ 0) (d0 : x30 + 2 ≤ x31 ∧ x31 ≤ x30 + 2) (d1 : x26 + 0 ≤ x25 ∧ x25 ≤ x26 + 0) (d2 : x23 + 1 ≤ x24 ∧ x24 ≤ x23 + 1) (d3 : x19 + 0 ≤ x18 ∧ x18 ≤ x19 + 0) (d4 : x16 + 0 ≤ x17 ∧ x17 ≤ x16 + 0) (f0 : x34 = 0) (f1 : x32 ≠ x33) (f2 : 1 * x33 + 0 ≤ 103) (f3 : (-1) * x33 + 0 ≤ (-103)) (f4 : ((x31 + 1) ≤ limit_0) → (x32 = (tape_0 (x31) % 256))) (f5 : (limit_0 ≤ x31) → (x32 = (-1))) (f6 : x31 = x30 + x28) (h7 : x30 = tokenPlace_0 (x4)) (g8 : x4 = cur_0) (f10 : x28 < x29) (f11 : x28 = x21 + 1) (f12 : x25 = x26) (f13 : 1 * x26 + 0 ≤ 100) (f14 : (-1) * x26 + 0 ≤ (-100)) (f15 : ((x24 + 1) ≤ limit_0) → (x25 = (tape_0 (x24) % 256))) (f16 : (limit_0 ≤ x24) → (x25 = (-1))) (f17 : x24 = x23 + x21) (h18 : x23 = tokenPlace_0 (x4)) (f19 : x21 < x22) (f20 : x21 = x14 + 1) (f21 : x18 = x19) (f22 : 1 * x19 + 0 ≤ 101) (f23 : (-1) * x19 + 0 ≤ (-101)) (f24 : ((x17 + 1) ≤ limit_0) → (x18 = (tape_0 (x17) % 256))) (f25 : (limit_0 ≤ x17) → (x18 = (-1))) (f26 : x17 = x16 + x14) (h27 : x16 = tokenPlace_0 (x4)) (f28 : x14 < x15) (f29 : x11 = x12) (f30 : x11 = x8 - x10) (h31 : x10 = tokenPlace_0 (x4)) (h32 : x8 = tokenEnd_0 (x4)) (f34 : x5 = x6) (h35 : x5 = tokenKind_0 (x4)) (f37 : x2 = 0) (g38 : x2 = fault_0) (hK_0_1 : ∀ j : Int, 0 ≤ j → j < 2000 → (-128) ≤ tape_0 j ∧ tape_0 j ≤ 127) (hK_0_160 : ∀ j : Int, 0 ≤ j → j < 2010 → 0 ≤ tokenKind_0 j ∧ tokenKind_0 j ≤ 4) (hK_0_162 : ∀ j : Int, 0 ≤ j → j < 2010 → 0 ≤ tokenPlace_0 j ∧ tokenPlace_0 j ≤ 2000) (hK_0_163 : ∀ j : Int, 0 ≤ j → j < 2010 → 0 ≤ tokenEnd_0 j ∧ tokenEnd_0 j ≤ 2000) (kz_0_8 : 0 ≤ fault_0 ∧ fault_0 ≤ 5) (kz_0_10 : 0 ≤ limit_0 ∧ limit_0 ≤ 2000) (kz_0_158 : 0 ≤ cur_0 ∧ cur_0 ≤ 2009) : (x34 = 1) → (tokenKind_0 (cur_0) = 1) := by
  first | assumption | (clear f4 f5 f15 f16 f24 f25 hK_0_1 hK_0_160 hK_0_162 hK_0_163; omega) | (clear hK_0_1 hK_0_160 hK_0_162 hK_0_163; grind) | omega | grind
set_option maxHeartbeats 4000000 in
theorem vc_Mo_word_at_s5022_8_1 (x4 : Int) (x8 : Int) (x10 : Int) (x11 : Int) (x16 : Int) (x17 : Int) (x18 : Int) (x19 : Int) (x23 : Int) (x24 : Int) (x25 : Int) (x26 : Int) (x30 : Int) (x31 : Int) (x32 : Int) (x33 : Int) (x34 : Int) (tape_0 : Int → Int) (limit_0 : Int) (tokenPlace_0 : Int → Int) (cur_0 : Int) (tokenEnd_0 : Int → Int) (tokenKind_0 : Int → Int) (fault_0 : Int) (k4 : 0 ≤ x4 ∧ x4 ≤ 2009) (k8 : 4 ≤ x8 ∧ x8 ≤ 2000) (k10 : 0 ≤ x10 ∧ x10 ≤ 2000) (k11 : 4 ≤ x11 ∧ x11 ≤ 4) (k16 : 0 ≤ x16 ∧ x16 ≤ 1999) (k17 : 0 ≤ x17 ∧ x17 ≤ 1999) (k18 : 0 ≤ x18 ∧ x18 ≤ 255) (k19 : 0 ≤ x19 ∧ x19 ≤ 255) (k23 : 0 ≤ x23 ∧ x23 ≤ 1998) (k24 : 1 ≤ x24 ∧ x24 ≤ 1999) (k25 : 0 ≤ x25 ∧ x25 ≤ 255) (k26 : 0 ≤ x26 ∧ x26 ≤ 255) (k30 : 0 ≤ x30 ∧ x30 ≤ 1997) (k31 : 2 ≤ x31 ∧ x31 ≤ 1999) (k32 : 0 ≤ x32 ∧ x32 ≤ 255) (k33 : 0 ≤ x33 ∧ x33 ≤ 65535) (k34 : 0 ≤ x34 ∧ x34 ≤ 0) (d0 : x30 + 2 ≤ x31 ∧ x31 ≤ x30 + 2) (d1 : x26 + 0 ≤ x25 ∧ x25 ≤ x26 + 0) (d2 : x23 + 1 ≤ x24 ∧ x24 ≤ x23 + 1) (d3 : x19 + 0 ≤ x18 ∧ x18 ≤ x19 + 0) (d4 : x16 + 0 ≤ x17 ∧ x17 ≤ x16 + 0) (f1 : x32 ≠ x33) (f2 : 1 * x33 + 0 ≤ 103) (f3 : (-1) * x33 + 0 ≤ (-103)) (f4 : ((x31 + 1) ≤ limit_0) → (x32 = (tape_0 (x31) % 256))) (f5 : (limit_0 ≤ x31) → (x32 = (-1))) (h7 : x30 = tokenPlace_0 (x4)) (g8 : x4 = cur_0) (f13 : 1 * x26 + 0 ≤ 100) (f14 : (-1) * x26 + 0 ≤ (-100)) (f15 : ((x24 + 1) ≤ limit_0) → (x25 = (tape_0 (x24) % 256))) (f16 : (limit_0 ≤ x24) → (x25 = (-1))) (h18 : x23 = tokenPlace_0 (x4)) (f22 : 1 * x19 + 0 ≤ 101) (f23 : (-1) * x19 + 0 ≤ (-101)) (f24 : ((x17 + 1) ≤ limit_0) → (x18 = (tape_0 (x17) % 256))) (f25 : (limit_0 ≤ x17) → (x18 = (-1))) (h27 : x16 = tokenPlace_0 (x4)) (f30 : x11 = x8 - x10) (h31 : x10 = tokenPlace_0 (x4)) (h32 : x8 = tokenEnd_0 (x4)) (kz_0_8 : 0 ≤ fault_0 ∧ fault_0 ≤ 5) (kz_0_10 : 0 ≤ limit_0 ∧ limit_0 ≤ 2000) (kz_0_158 : 0 ≤ cur_0 ∧ cur_0 ≤ 2009) : Wqedge (fault_0) (cur_0) (limit_0) (tokenKind_0) (tokenPlace_0) (tokenEnd_0) (tape_0) (x34) := by
  first
    | exact ⟨fun z => by omega, fun z => by have := z.1; omega⟩
    | (have e := (‹x4 = cur_0›)
       rw [← e]
       refine ⟨fun z => ⟨by omega, wdS4.2 ⟨by omega, by omega, by omega, by rw [show tokenPlace_0 x4 + 0 = x17 by omega]; omega, by rw [show tokenPlace_0 x4 + 1 = x24 by omega]; omega, by rw [show tokenPlace_0 x4 + 2 = x31 by omega]; omega, by rw [show tokenPlace_0 x4 + 3 = x38 by omega]; omega⟩⟩, fun z => by omega⟩)
    | (have e := (‹x4 = cur_0›)
       rw [← e]
       refine ⟨fun z => by omega, fun z => ?_⟩
       have w := wdS4.1 z.2
       try (have q0 : tokenPlace_0 x4 + 0 = x17 := (by omega); rw [q0] at w)
       try (have q1 : tokenPlace_0 x4 + 1 = x24 := (by omega); rw [q1] at w)
       try (have q2 : tokenPlace_0 x4 + 2 = x31 := (by omega); rw [q2] at w)
       try (have q3 : tokenPlace_0 x4 + 3 = x38 := (by omega); rw [q3] at w)
       omega)
  
def o_Mo_word_at_s5022_8 : or_T := (102, 37, [(0, (2, 0, 0, [165])), (2, (0, 0, 0, [])), (3, (2, 0, 0, [274])), (4, (0, 0, 2009, [])), (5, (0, 1, 1, [])), (6, (0, 1, 1, [])), (7, (2, 0, 0, [277])), (8, (0, 4, 2000, [])), (9, (2, 0, 0, [276])), (10, (0, 0, 2000, [])), (11, (0, 4, 4, [])), (12, (0, 4, 4, [])), (14, (0, 0, 0, [])), (15, (0, 4, 4, [])), (16, (0, 0, 1999, [])), (17, (0, 0, 1999, [])), (18, (0, 0, 255, [])), (19, (0, 0, 255, [])), (21, (0, 1, 1, [])), (22, (0, 4, 4, [])), (23, (0, 0, 1998, [])), (24, (0, 1, 1999, [])), (25, (0, 0, 255, [])), (26, (0, 0, 255, [])), (28, (0, 2, 2, [])), (29, (0, 4, 4, [])), (30, (0, 0, 1997, [])), (31, (0, 2, 1999, [])), (32, (0, 0, 255, [])), (33, (0, 0, 65535, [])), (34, (0, 0, 0, []))], [(8, [34], [0]), (7, [32, 33], [1]), (23, [33], [103, 1]), (23, [33], [-103, -1]), (20, [31, 0, 32], [50, 1, 1, 1010, 1001, 4, 11, 0, 6, 4, 2, 1, 0, 0, 1, 2, 1, 10, 1, 2, 1, 2, 9, 5, 3, 1, 1, 1, 0, 0, 256]), (20, [0, 31, 32], [50, 1, 0, 10, 4, 7, 0, 3, 2, 0, 10, 1, 1, 1, 2, 1, 2, 0, -1]), (1, [31, 30, 28], []), (10, [30, 9, 4], []), (9, [4, 0], [158]), (9, [9, 0], [162]), (7, [28, 29], [2]), (6, [28, 21], [1]), (7, [25, 26], [0]), (23, [26], [100, 1]), (23, [26], [-100, -1]), (20, [24, 0, 25], [50, 1, 1, 1010, 1001, 4, 11, 0, 6, 4, 2, 1, 0, 0, 1, 2, 1, 10, 1, 2, 1, 2, 9, 5, 3, 1, 1, 1, 0, 0, 256]), (20, [0, 24, 25], [50, 1, 0, 10, 4, 7, 0, 3, 2, 0, 10, 1, 1, 1, 2, 1, 2, 0, -1]), (1, [24, 23, 21], []), (10, [23, 9, 4], []), (7, [21, 22], [2]), (6, [21, 14], [1]), (7, [18, 19], [0]), (23, [19], [101, 1]), (23, [19], [-101, -1]), (20, [17, 0, 18], [50, 1, 1, 1010, 1001, 4, 11, 0, 6, 4, 2, 1, 0, 0, 1, 2, 1, 10, 1, 2, 1, 2, 9, 5, 3, 1, 1, 1, 0, 0, 256]), (20, [0, 17, 18], [50, 1, 0, 10, 4, 7, 0, 3, 2, 0, 10, 1, 1, 1, 2, 1, 2, 0, -1]), (1, [17, 16, 14], []), (10, [16, 9, 4], []), (7, [14, 15], [2]), (7, [11, 12], [0]), (2, [11, 8, 10], []), (10, [10, 9, 4], []), (10, [8, 7, 4], []), (9, [7, 0], [163]), (7, [5, 6], [0]), (10, [5, 3, 4], []), (9, [3, 0], [160]), (8, [2], [0]), (9, [2, 0], [8])], [], [], [(20, [34, 0], [50, 1, 1, 1158, 1160, 4, 6, 1, 2, 1, 0, 0, 1, 1, 6, 3, 1, 160, 2, 1, 158, 0, 1]), (20, [0, 34], [60, 3, 4, 20, 8, 158, 10, 160, 162, 163, 1])], [], [(31, 30, 2, 2), (25, 26, 0, 0), (24, 23, 1, 1), (18, 19, 0, 0), (17, 16, 0, 0)])
theorem oo_Mo_word_at_s5022_8 {kA : Nat → ClassId} : or_ok PRD kA GG o_Mo_word_at_s5022_8 := by
  refine or_mk fun A ta ws vs hD hth hl => ?_
  intro t0 r0 t2 k2 t3 r3 t4 k4 t5 k5 t6 k6 t7 r7 t8 k8 t9 r9 t10 k10 t11 k11 t12 k12 t14 k14 t15 k15 t16 k16 t17 k17 t18 k18 t19 k19 t21 k21 t22 k22 t23 k23 t24 k24 t25 k25 t26 k26 t28 k28 t29 k29 t30 k30 t31 k31 t32 k32 t33 k33 t34 k34 d0 d1 d2 d3 d4 f0 f1 f2 f3 f4 f5 f6 f7 f8 f9 f10 f11 f12 f13 f14 f15 f16 f17 f18 f19 f20 f21 f22 f23 f24 f25 f26 f27 f28 f29 f30 f31 f32 f33 f34 f35 f36 f37 f38
  replace f7 := shm_107 f7
  replace f8 := shm_286 f8
  replace f9 := shm_301 f9
  replace f18 := shm_107 f18
  replace f27 := shm_107 f27
  replace f31 := shm_107 f31
  replace f32 := shm_107 f32
  replace f33 := shm_1332 f33
  replace f35 := shm_107 f35
  replace f36 := shm_327 f36
  replace f38 := shm_293 f38
  have cr_0_1 := fdq_39 hD hth r0
  have cr_0_160 := fdq_33 hD hth r0
  have cr_0_162 := fdq_41 hD hth r0
  have cr_0_163 := fdq_42 hD hth r0
  have ad_9 : v_ad (n_v vs 9) = w_ar ws (n_v vs 0) 162 := congrArg v_ad f9
  have ad_7 : v_ad (n_v vs 7) = w_ar ws (n_v vs 0) 163 := congrArg v_ad f33
  have ad_3 : v_ad (n_v vs 3) = w_ar ws (n_v vs 0) 160 := congrArg v_ad f36
  simp only [ad_9] at f7
  have h7 : v_iv (n_v vs 30) = w_ei ws (w_ar ws (n_v vs 0) 162) (v_iv (n_v vs 4)) := f7
  have g8 : v_iv (n_v vs 4) = w_fi ws (n_v vs 0) 158 := congrArg v_iv f8
  simp only [ad_9] at f18
  have h18 : v_iv (n_v vs 23) = w_ei ws (w_ar ws (n_v vs 0) 162) (v_iv (n_v vs 4)) := f18
  simp only [ad_9] at f27
  have h27 : v_iv (n_v vs 16) = w_ei ws (w_ar ws (n_v vs 0) 162) (v_iv (n_v vs 4)) := f27
  simp only [ad_9] at f31
  have h31 : v_iv (n_v vs 10) = w_ei ws (w_ar ws (n_v vs 0) 162) (v_iv (n_v vs 4)) := f31
  simp only [ad_7] at f32
  have h32 : v_iv (n_v vs 8) = w_ei ws (w_ar ws (n_v vs 0) 163) (v_iv (n_v vs 4)) := f32
  simp only [ad_3] at f35
  have h35 : v_iv (n_v vs 5) = w_ei ws (w_ar ws (n_v vs 0) 160) (v_iv (n_v vs 4)) := f35
  have g38 : v_iv (n_v vs 2) = w_fi ws (n_v vs 0) 8 := congrArg v_iv f38
  have hK_0_1 := elq_7 hD hth cr_0_1
  have hK_0_160 := elq_6 hD hth cr_0_160
  have hK_0_162 := elq_8 hD hth cr_0_162
  have hK_0_163 := elq_9 hD hth cr_0_163
  have kz_0_8 := fdq_34 hD hth r0
  have kz_0_10 := fdq_43 hD hth r0
  have kz_0_158 := fdq_36 hD hth r0
  have nf0 : fc_1 PRD (20, [34, 0], [50, 1, 1, 1158, 1160, 4, 6, 1, 2, 1, 0, 0, 1, 1, 6, 3, 1, 160, 2, 1, 158, 0, 1]) ws (vs) := ⟨nf_in hl rfl, sgq_287 (vc_Mo_word_at_s5022_8_0 (v_iv (n_v vs 2)) (v_iv (n_v vs 4)) (v_iv (n_v vs 5)) (v_iv (n_v vs 6)) (v_iv (n_v vs 8)) (v_iv (n_v vs 10)) (v_iv (n_v vs 11)) (v_iv (n_v vs 12)) (v_iv (n_v vs 14)) (v_iv (n_v vs 15)) (v_iv (n_v vs 16)) (v_iv (n_v vs 17)) (v_iv (n_v vs 18)) (v_iv (n_v vs 19)) (v_iv (n_v vs 21)) (v_iv (n_v vs 22)) (v_iv (n_v vs 23)) (v_iv (n_v vs 24)) (v_iv (n_v vs 25)) (v_iv (n_v vs 26)) (v_iv (n_v vs 28)) (v_iv (n_v vs 29)) (v_iv (n_v vs 30)) (v_iv (n_v vs 31)) (v_iv (n_v vs 32)) (v_iv (n_v vs 33)) (v_iv (n_v vs 34)) (w_ei ws (w_ar ws (n_v vs 0) 1)) (w_fi ws (n_v vs 0) 10) (w_ei ws (w_ar ws (n_v vs 0) 162)) (w_fi ws (n_v vs 0) 158) (w_ei ws (w_ar ws (n_v vs 0) 163)) (w_ei ws (w_ar ws (n_v vs 0) 160)) (w_fi ws (n_v vs 0) 8) k2 k4 k5 k6 k8 k10 k11 k12 k14 k15 k16 k17 k18 k19 k21 k22 k23 k24 k25 k26 k28 k29 k30 k31 k32 k33 k34 d0 d1 d2 d3 d4 (shm_192 f0) (shm_40 f1) (shm_61 f2) (shm_62 f3) (shm_541 f4) (shm_542 f5) (shm_12 f6) h7 g8 (shm_6 f10) (shm_4 f11) (shm_37 f12) (shm_57 f13) (shm_58 f14) (shm_541 f15) (shm_542 f16) (shm_12 f17) h18 (shm_6 f19) (shm_4 f20) (shm_37 f21) (shm_59 f22) (shm_60 f23) (shm_541 f24) (shm_542 f25) (shm_12 f26) h27 (shm_6 f28) (shm_37 f29) (shm_14 f30) h31 h32 (shm_37 f34) h35 (shm_192 f37) g38 hK_0_1 hK_0_160 hK_0_162 hK_0_163 kz_0_8 kz_0_10 kz_0_158)⟩
  have nf1 : fc_1 PRD (20, [0, 34], [60, 3, 4, 20, 8, 158, 10, 160, 162, 163, 1]) ws (vs) := ⟨nf_in hl rfl, sgq_1867 (vc_Mo_word_at_s5022_8_1 (v_iv (n_v vs 4)) (v_iv (n_v vs 8)) (v_iv (n_v vs 10)) (v_iv (n_v vs 11)) (v_iv (n_v vs 16)) (v_iv (n_v vs 17)) (v_iv (n_v vs 18)) (v_iv (n_v vs 19)) (v_iv (n_v vs 23)) (v_iv (n_v vs 24)) (v_iv (n_v vs 25)) (v_iv (n_v vs 26)) (v_iv (n_v vs 30)) (v_iv (n_v vs 31)) (v_iv (n_v vs 32)) (v_iv (n_v vs 33)) (v_iv (n_v vs 34)) (w_ei ws (w_ar ws (n_v vs 0) 1)) (w_fi ws (n_v vs 0) 10) (w_ei ws (w_ar ws (n_v vs 0) 162)) (w_fi ws (n_v vs 0) 158) (w_ei ws (w_ar ws (n_v vs 0) 163)) (w_ei ws (w_ar ws (n_v vs 0) 160)) (w_fi ws (n_v vs 0) 8) k4 k8 k10 k11 k16 k17 k18 k19 k23 k24 k25 k26 k30 k31 k32 k33 k34 d0 d1 d2 d3 d4 (shm_40 f1) (shm_61 f2) (shm_62 f3) (shm_541 f4) (shm_542 f5) h7 g8 (shm_57 f13) (shm_58 f14) (shm_541 f15) (shm_542 f16) h18 (shm_59 f22) (shm_60 f23) (shm_541 f24) (shm_542 f25) h27 (shm_14 f30) h31 h32 kz_0_8 kz_0_10 kz_0_158)⟩
  refine ⟨(fun _ h => (by cases h)), [], trivial, ?_, (fun _ h => (by cases h))⟩
  rw [List.append_nil]
  exact List.forall_mem_cons.mpr ⟨⟨show (20 : Nat) < 100 from by decide, nf0⟩, List.forall_mem_cons.mpr ⟨⟨show (20 : Nat) < 100 from by decide, nf1⟩, (fun _ h => (by cases h))⟩⟩
set_option maxHeartbeats 4000000 in
theorem vc_Mo_word_at_s5022_9_0 (x2 : Int) (x4 : Int) (x5 : Int) (x6 : Int) (x8 : Int) (x10 : Int) (x11 : Int) (x12 : Int) (x14 : Int) (x15 : Int) (x16 : Int) (x17 : Int) (x18 : Int) (x19 : Int) (x21 : Int) (x22 : Int) (x23 : Int) (x24 : Int) (x25 : Int) (x26 : Int) (x28 : Int) (x29 : Int) (x30 : Int) (x31 : Int) (x32 : Int) (x33 : Int) (x35 : Int) (x36 : Int) (x37 : Int) (x38 : Int) (x39 : Int) (x40 : Int) (x41 : Int) (tape_0 : Int → Int) (limit_0 : Int) (tokenPlace_0 : Int → Int) (cur_0 : Int) (tokenEnd_0 : Int → Int) (tokenKind_0 : Int → Int) (fault_0 : Int) (k2 : 0 ≤ x2 ∧ x2 ≤ 0) (k4 : 0 ≤ x4 ∧ x4 ≤ 2009) (k5 : 1 ≤ x5 ∧ x5 ≤ 1) (k6 : 1 ≤ x6 ∧ x6 ≤ 1) (k8 : 4 ≤ x8 ∧ x8 ≤ 2000) (k10 : 0 ≤ x10 ∧ x10 ≤ 2000) (k11 : 4 ≤ x11 ∧ x11 ≤ 4) (k12 : 4 ≤ x12 ∧ x12 ≤ 4) (k14 : 0 ≤ x14 ∧ x14 ≤ 0) (k15 : 4 ≤ x15 ∧ x15 ≤ 4) (k16 : 0 ≤ x16 ∧ x16 ≤ 1999) (k17 : 0 ≤ x17 ∧ x17 ≤ 1999) (k18 : 0 ≤ x18 ∧ x18 ≤ 255) (k19 : 0 ≤ x19 ∧ x19 ≤ 255) (k21 : 1 ≤ x21 ∧ x21 ≤ 1) (k22 : 4 ≤ x22 ∧ x22 ≤ 4) (k23 : 0 ≤ x23 ∧ x23 ≤ 1998) (k24 : 1 ≤ x24 ∧ x24 ≤ 1999) (k25 : 0 ≤ x25 ∧ x25 ≤ 255) (k26 : 0 ≤ x26 ∧ x26 ≤ 255) (k28 : 2 ≤ x28 ∧ x28 ≤ 2) (k29 : 4 ≤ x29 ∧ x29 ≤ 4) (k30 : 0 ≤ x30 ∧ x30 ≤ 1997) (k31 : 2 ≤ x31 ∧ x31 ≤ 1999) (k32 : 0 ≤ x32 ∧ x32 ≤ 255) (k33 : 0 ≤ x33 ∧ x33 ≤ 255) (k35 : 3 ≤ x35 ∧ x35 ≤ 3) (k36 : 4 ≤ x36 ∧ x36 ≤ 4) (k37 : 0 ≤ x37 ∧ x37 ≤ 2000) (k38 : 3 ≤ x38 ∧ x38 ≤ 2003) (k39 : (-1) ≤ x39 ∧ x39 ≤ (-1)) (k40 : 0 ≤ x40 ∧ x40 ≤ 65535) (k41 : 0 ≤ x41 ∧ x41 ≤ 0) (d0 : x37 + 3 ≤ x38 ∧ x38 ≤ x37 + 3) (d1 : x33 + 0 ≤ x32 ∧ x32 ≤ x33 + 0) (d2 : x30 + 2 ≤ x31 ∧ x31 ≤ x30 + 2) (d3 : x26 + 0 ≤ x25 ∧ x25 ≤ x26 + 0) (d4 : x23 + 1 ≤ x24 ∧ x24 ≤ x23 + 1) (d5 : x19 + 0 ≤ x18 ∧ x18 ≤ x19 + 0) (d6 : x16 + 0 ≤ x17 ∧ x17 ≤ x16 + 0) (f0 : x39 ≠ x40) (f1 : 1 * x40 + 0 ≤ 101) (f2 : (-1) * x40 + 0 ≤ (-101)) (f3 : ((x38 + 1) ≤ limit_0) → (x39 = (tape_0 (x38) % 256))) (f4 : (limit_0 ≤ x38) → (x39 = (-1))) (f5 : x38 = x37 + x35) (h6 : x37 = tokenPlace_0 (x4)) (g7 : x4 = cur_0) (f9 : x35 < x36) (f10 : x35 = x28 + 1) (f11 : x32 = x33) (f12 : 1 * x33 + 0 ≤ 103) (f13 : (-1) * x33 + 0 ≤ (-103)) (f14 : ((x31 + 1) ≤ limit_0) → (x32 = (tape_0 (x31) % 256))) (f15 : (limit_0 ≤ x31) → (x32 = (-1))) (f16 : x31 = x30 + x28) (h17 : x30 = tokenPlace_0 (x4)) (f18 : x28 < x29) (f19 : x28 = x21 + 1) (f20 : x25 = x26) (f21 : 1 * x26 + 0 ≤ 100) (f22 : (-1) * x26 + 0 ≤ (-100)) (f23 : ((x24 + 1) ≤ limit_0) → (x25 = (tape_0 (x24) % 256))) (f24 : (limit_0 ≤ x24) → (x25 = (-1))) (f25 : x24 = x23 + x21) (h26 : x23 = tokenPlace_0 (x4)) (f27 : x21 < x22) (f28 : x21 = x14 + 1) (f29 : x18 = x19) (f30 : 1 * x19 + 0 ≤ 101) (f31 : (-1) * x19 + 0 ≤ (-101)) (f32 : ((x17 + 1) ≤ limit_0) → (x18 = (tape_0 (x17) % 256))) (f33 : (limit_0 ≤ x17) → (x18 = (-1))) (f34 : x17 = x16 + x14) (h35 : x16 = tokenPlace_0 (x4)) (f36 : x14 < x15) (f37 : x11 = x12) (f38 : x11 = x8 - x10) (h39 : x10 = tokenPlace_0 (x4)) (h40 : x8 = tokenEnd_0 (x4)) (f42 : x5 = x6) (h43 : x5 = tokenKind_0 (x4)) (f45 : x2 = 0) (g46 : x2 = fault_0) (hK_0_1 : ∀ j : Int, 0 ≤ j → j < 2000 → (-128) ≤ tape_0 j ∧ tape_0 j ≤ 127) (hK_0_160 : ∀ j : Int, 0 ≤ j → j < 2010 → 0 ≤ tokenKind_0 j ∧ tokenKind_0 j ≤ 4) (hK_0_162 : ∀ j : Int, 0 ≤ j → j < 2010 → 0 ≤ tokenPlace_0 j ∧ tokenPlace_0 j ≤ 2000) (hK_0_163 : ∀ j : Int, 0 ≤ j → j < 2010 → 0 ≤ tokenEnd_0 j ∧ tokenEnd_0 j ≤ 2000) (kz_0_8 : 0 ≤ fault_0 ∧ fault_0 ≤ 5) (kz_0_10 : 0 ≤ limit_0 ∧ limit_0 ≤ 2000) (kz_0_158 : 0 ≤ cur_0 ∧ cur_0 ≤ 2009) : (x41 = 1) → (tokenKind_0 (cur_0) = 1) := by
  first | assumption | (clear f3 f4 f14 f15 f23 f24 f32 f33 hK_0_1 hK_0_160 hK_0_162 hK_0_163; omega) | (clear hK_0_1 hK_0_160 hK_0_162 hK_0_163; grind) | omega | grind
set_option maxHeartbeats 4000000 in
theorem vc_Mo_word_at_s5022_9_1 (x4 : Int) (x8 : Int) (x10 : Int) (x11 : Int) (x16 : Int) (x17 : Int) (x18 : Int) (x19 : Int) (x23 : Int) (x24 : Int) (x25 : Int) (x26 : Int) (x30 : Int) (x31 : Int) (x32 : Int) (x33 : Int) (x37 : Int) (x38 : Int) (x39 : Int) (x41 : Int) (tape_0 : Int → Int) (limit_0 : Int) (tokenPlace_0 : Int → Int) (cur_0 : Int) (tokenEnd_0 : Int → Int) (tokenKind_0 : Int → Int) (fault_0 : Int) (k4 : 0 ≤ x4 ∧ x4 ≤ 2009) (k8 : 4 ≤ x8 ∧ x8 ≤ 2000) (k10 : 0 ≤ x10 ∧ x10 ≤ 2000) (k11 : 4 ≤ x11 ∧ x11 ≤ 4) (k16 : 0 ≤ x16 ∧ x16 ≤ 1999) (k17 : 0 ≤ x17 ∧ x17 ≤ 1999) (k18 : 0 ≤ x18 ∧ x18 ≤ 255) (k19 : 0 ≤ x19 ∧ x19 ≤ 255) (k23 : 0 ≤ x23 ∧ x23 ≤ 1998) (k24 : 1 ≤ x24 ∧ x24 ≤ 1999) (k25 : 0 ≤ x25 ∧ x25 ≤ 255) (k26 : 0 ≤ x26 ∧ x26 ≤ 255) (k30 : 0 ≤ x30 ∧ x30 ≤ 1997) (k31 : 2 ≤ x31 ∧ x31 ≤ 1999) (k32 : 0 ≤ x32 ∧ x32 ≤ 255) (k33 : 0 ≤ x33 ∧ x33 ≤ 255) (k37 : 0 ≤ x37 ∧ x37 ≤ 2000) (k38 : 3 ≤ x38 ∧ x38 ≤ 2003) (k39 : (-1) ≤ x39 ∧ x39 ≤ (-1)) (k41 : 0 ≤ x41 ∧ x41 ≤ 0) (d0 : x37 + 3 ≤ x38 ∧ x38 ≤ x37 + 3) (d1 : x33 + 0 ≤ x32 ∧ x32 ≤ x33 + 0) (d2 : x30 + 2 ≤ x31 ∧ x31 ≤ x30 + 2) (d3 : x26 + 0 ≤ x25 ∧ x25 ≤ x26 + 0) (d4 : x23 + 1 ≤ x24 ∧ x24 ≤ x23 + 1) (d5 : x19 + 0 ≤ x18 ∧ x18 ≤ x19 + 0) (d6 : x16 + 0 ≤ x17 ∧ x17 ≤ x16 + 0) (f3 : ((x38 + 1) ≤ limit_0) → (x39 = (tape_0 (x38) % 256))) (f4 : (limit_0 ≤ x38) → (x39 = (-1))) (h6 : x37 = tokenPlace_0 (x4)) (g7 : x4 = cur_0) (f12 : 1 * x33 + 0 ≤ 103) (f13 : (-1) * x33 + 0 ≤ (-103)) (f14 : ((x31 + 1) ≤ limit_0) → (x32 = (tape_0 (x31) % 256))) (f15 : (limit_0 ≤ x31) → (x32 = (-1))) (h17 : x30 = tokenPlace_0 (x4)) (f21 : 1 * x26 + 0 ≤ 100) (f22 : (-1) * x26 + 0 ≤ (-100)) (f23 : ((x24 + 1) ≤ limit_0) → (x25 = (tape_0 (x24) % 256))) (f24 : (limit_0 ≤ x24) → (x25 = (-1))) (h26 : x23 = tokenPlace_0 (x4)) (f30 : 1 * x19 + 0 ≤ 101) (f31 : (-1) * x19 + 0 ≤ (-101)) (f32 : ((x17 + 1) ≤ limit_0) → (x18 = (tape_0 (x17) % 256))) (f33 : (limit_0 ≤ x17) → (x18 = (-1))) (h35 : x16 = tokenPlace_0 (x4)) (f38 : x11 = x8 - x10) (h39 : x10 = tokenPlace_0 (x4)) (h40 : x8 = tokenEnd_0 (x4)) (kz_0_8 : 0 ≤ fault_0 ∧ fault_0 ≤ 5) (kz_0_10 : 0 ≤ limit_0 ∧ limit_0 ≤ 2000) (kz_0_158 : 0 ≤ cur_0 ∧ cur_0 ≤ 2009) : Wqedge (fault_0) (cur_0) (limit_0) (tokenKind_0) (tokenPlace_0) (tokenEnd_0) (tape_0) (x41) := by
  first
    | exact ⟨fun z => by omega, fun z => by have := z.1; omega⟩
    | (have e := (‹x4 = cur_0›)
       rw [← e]
       refine ⟨fun z => ⟨by omega, wdS4.2 ⟨by omega, by omega, by omega, by rw [show tokenPlace_0 x4 + 0 = x17 by omega]; omega, by rw [show tokenPlace_0 x4 + 1 = x24 by omega]; omega, by rw [show tokenPlace_0 x4 + 2 = x31 by omega]; omega, by rw [show tokenPlace_0 x4 + 3 = x38 by omega]; omega⟩⟩, fun z => by omega⟩)
    | (have e := (‹x4 = cur_0›)
       rw [← e]
       refine ⟨fun z => by omega, fun z => ?_⟩
       have w := wdS4.1 z.2
       try (have q0 : tokenPlace_0 x4 + 0 = x17 := (by omega); rw [q0] at w)
       try (have q1 : tokenPlace_0 x4 + 1 = x24 := (by omega); rw [q1] at w)
       try (have q2 : tokenPlace_0 x4 + 2 = x31 := (by omega); rw [q2] at w)
       try (have q3 : tokenPlace_0 x4 + 3 = x38 := (by omega); rw [q3] at w)
       omega)
  
def o_Mo_word_at_s5022_9 : or_T := (102, 44, [(0, (2, 0, 0, [165])), (2, (0, 0, 0, [])), (3, (2, 0, 0, [274])), (4, (0, 0, 2009, [])), (5, (0, 1, 1, [])), (6, (0, 1, 1, [])), (7, (2, 0, 0, [277])), (8, (0, 4, 2000, [])), (9, (2, 0, 0, [276])), (10, (0, 0, 2000, [])), (11, (0, 4, 4, [])), (12, (0, 4, 4, [])), (14, (0, 0, 0, [])), (15, (0, 4, 4, [])), (16, (0, 0, 1999, [])), (17, (0, 0, 1999, [])), (18, (0, 0, 255, [])), (19, (0, 0, 255, [])), (21, (0, 1, 1, [])), (22, (0, 4, 4, [])), (23, (0, 0, 1998, [])), (24, (0, 1, 1999, [])), (25, (0, 0, 255, [])), (26, (0, 0, 255, [])), (28, (0, 2, 2, [])), (29, (0, 4, 4, [])), (30, (0, 0, 1997, [])), (31, (0, 2, 1999, [])), (32, (0, 0, 255, [])), (33, (0, 0, 255, [])), (35, (0, 3, 3, [])), (36, (0, 4, 4, [])), (37, (0, 0, 2000, [])), (38, (0, 3, 2003, [])), (39, (0, -1, -1, [])), (40, (0, 0, 65535, [])), (41, (0, 0, 0, []))], [(7, [39, 40], [1]), (23, [40], [101, 1]), (23, [40], [-101, -1]), (20, [38, 0, 39], [50, 1, 1, 1010, 1001, 4, 11, 0, 6, 4, 2, 1, 0, 0, 1, 2, 1, 10, 1, 2, 1, 2, 9, 5, 3, 1, 1, 1, 0, 0, 256]), (20, [0, 38, 39], [50, 1, 0, 10, 4, 7, 0, 3, 2, 0, 10, 1, 1, 1, 2, 1, 2, 0, -1]), (1, [38, 37, 35], []), (10, [37, 9, 4], []), (9, [4, 0], [158]), (9, [9, 0], [162]), (7, [35, 36], [2]), (6, [35, 28], [1]), (7, [32, 33], [0]), (23, [33], [103, 1]), (23, [33], [-103, -1]), (20, [31, 0, 32], [50, 1, 1, 1010, 1001, 4, 11, 0, 6, 4, 2, 1, 0, 0, 1, 2, 1, 10, 1, 2, 1, 2, 9, 5, 3, 1, 1, 1, 0, 0, 256]), (20, [0, 31, 32], [50, 1, 0, 10, 4, 7, 0, 3, 2, 0, 10, 1, 1, 1, 2, 1, 2, 0, -1]), (1, [31, 30, 28], []), (10, [30, 9, 4], []), (7, [28, 29], [2]), (6, [28, 21], [1]), (7, [25, 26], [0]), (23, [26], [100, 1]), (23, [26], [-100, -1]), (20, [24, 0, 25], [50, 1, 1, 1010, 1001, 4, 11, 0, 6, 4, 2, 1, 0, 0, 1, 2, 1, 10, 1, 2, 1, 2, 9, 5, 3, 1, 1, 1, 0, 0, 256]), (20, [0, 24, 25], [50, 1, 0, 10, 4, 7, 0, 3, 2, 0, 10, 1, 1, 1, 2, 1, 2, 0, -1]), (1, [24, 23, 21], []), (10, [23, 9, 4], []), (7, [21, 22], [2]), (6, [21, 14], [1]), (7, [18, 19], [0]), (23, [19], [101, 1]), (23, [19], [-101, -1]), (20, [17, 0, 18], [50, 1, 1, 1010, 1001, 4, 11, 0, 6, 4, 2, 1, 0, 0, 1, 2, 1, 10, 1, 2, 1, 2, 9, 5, 3, 1, 1, 1, 0, 0, 256]), (20, [0, 17, 18], [50, 1, 0, 10, 4, 7, 0, 3, 2, 0, 10, 1, 1, 1, 2, 1, 2, 0, -1]), (1, [17, 16, 14], []), (10, [16, 9, 4], []), (7, [14, 15], [2]), (7, [11, 12], [0]), (2, [11, 8, 10], []), (10, [10, 9, 4], []), (10, [8, 7, 4], []), (9, [7, 0], [163]), (7, [5, 6], [0]), (10, [5, 3, 4], []), (9, [3, 0], [160]), (8, [2], [0]), (9, [2, 0], [8])], [], [], [(20, [41, 0], [50, 1, 1, 1158, 1160, 4, 6, 1, 2, 1, 0, 0, 1, 1, 6, 3, 1, 160, 2, 1, 158, 0, 1]), (20, [0, 41], [60, 3, 4, 20, 8, 158, 10, 160, 162, 163, 1])], [], [(38, 37, 3, 3), (32, 33, 0, 0), (31, 30, 2, 2), (25, 26, 0, 0), (24, 23, 1, 1), (18, 19, 0, 0), (17, 16, 0, 0)])
theorem oo_Mo_word_at_s5022_9 {kA : Nat → ClassId} : or_ok PRD kA GG o_Mo_word_at_s5022_9 := by
  refine or_mk fun A ta ws vs hD hth hl => ?_
  intro t0 r0 t2 k2 t3 r3 t4 k4 t5 k5 t6 k6 t7 r7 t8 k8 t9 r9 t10 k10 t11 k11 t12 k12 t14 k14 t15 k15 t16 k16 t17 k17 t18 k18 t19 k19 t21 k21 t22 k22 t23 k23 t24 k24 t25 k25 t26 k26 t28 k28 t29 k29 t30 k30 t31 k31 t32 k32 t33 k33 t35 k35 t36 k36 t37 k37 t38 k38 t39 k39 t40 k40 t41 k41 d0 d1 d2 d3 d4 d5 d6 f0 f1 f2 f3 f4 f5 f6 f7 f8 f9 f10 f11 f12 f13 f14 f15 f16 f17 f18 f19 f20 f21 f22 f23 f24 f25 f26 f27 f28 f29 f30 f31 f32 f33 f34 f35 f36 f37 f38 f39 f40 f41 f42 f43 f44 f45 f46
  replace f6 := shm_107 f6
  replace f7 := shm_286 f7
  replace f8 := shm_301 f8
  replace f17 := shm_107 f17
  replace f26 := shm_107 f26
  replace f35 := shm_107 f35
  replace f39 := shm_107 f39
  replace f40 := shm_107 f40
  replace f41 := shm_1332 f41
  replace f43 := shm_107 f43
  replace f44 := shm_327 f44
  replace f46 := shm_293 f46
  have cr_0_1 := fdq_39 hD hth r0
  have cr_0_160 := fdq_33 hD hth r0
  have cr_0_162 := fdq_41 hD hth r0
  have cr_0_163 := fdq_42 hD hth r0
  have ad_9 : v_ad (n_v vs 9) = w_ar ws (n_v vs 0) 162 := congrArg v_ad f8
  have ad_7 : v_ad (n_v vs 7) = w_ar ws (n_v vs 0) 163 := congrArg v_ad f41
  have ad_3 : v_ad (n_v vs 3) = w_ar ws (n_v vs 0) 160 := congrArg v_ad f44
  simp only [ad_9] at f6
  have h6 : v_iv (n_v vs 37) = w_ei ws (w_ar ws (n_v vs 0) 162) (v_iv (n_v vs 4)) := f6
  have g7 : v_iv (n_v vs 4) = w_fi ws (n_v vs 0) 158 := congrArg v_iv f7
  simp only [ad_9] at f17
  have h17 : v_iv (n_v vs 30) = w_ei ws (w_ar ws (n_v vs 0) 162) (v_iv (n_v vs 4)) := f17
  simp only [ad_9] at f26
  have h26 : v_iv (n_v vs 23) = w_ei ws (w_ar ws (n_v vs 0) 162) (v_iv (n_v vs 4)) := f26
  simp only [ad_9] at f35
  have h35 : v_iv (n_v vs 16) = w_ei ws (w_ar ws (n_v vs 0) 162) (v_iv (n_v vs 4)) := f35
  simp only [ad_9] at f39
  have h39 : v_iv (n_v vs 10) = w_ei ws (w_ar ws (n_v vs 0) 162) (v_iv (n_v vs 4)) := f39
  simp only [ad_7] at f40
  have h40 : v_iv (n_v vs 8) = w_ei ws (w_ar ws (n_v vs 0) 163) (v_iv (n_v vs 4)) := f40
  simp only [ad_3] at f43
  have h43 : v_iv (n_v vs 5) = w_ei ws (w_ar ws (n_v vs 0) 160) (v_iv (n_v vs 4)) := f43
  have g46 : v_iv (n_v vs 2) = w_fi ws (n_v vs 0) 8 := congrArg v_iv f46
  have hK_0_1 := elq_7 hD hth cr_0_1
  have hK_0_160 := elq_6 hD hth cr_0_160
  have hK_0_162 := elq_8 hD hth cr_0_162
  have hK_0_163 := elq_9 hD hth cr_0_163
  have kz_0_8 := fdq_34 hD hth r0
  have kz_0_10 := fdq_43 hD hth r0
  have kz_0_158 := fdq_36 hD hth r0
  have nf0 : fc_1 PRD (20, [41, 0], [50, 1, 1, 1158, 1160, 4, 6, 1, 2, 1, 0, 0, 1, 1, 6, 3, 1, 160, 2, 1, 158, 0, 1]) ws (vs) := ⟨nf_in hl rfl, sgq_287 (vc_Mo_word_at_s5022_9_0 (v_iv (n_v vs 2)) (v_iv (n_v vs 4)) (v_iv (n_v vs 5)) (v_iv (n_v vs 6)) (v_iv (n_v vs 8)) (v_iv (n_v vs 10)) (v_iv (n_v vs 11)) (v_iv (n_v vs 12)) (v_iv (n_v vs 14)) (v_iv (n_v vs 15)) (v_iv (n_v vs 16)) (v_iv (n_v vs 17)) (v_iv (n_v vs 18)) (v_iv (n_v vs 19)) (v_iv (n_v vs 21)) (v_iv (n_v vs 22)) (v_iv (n_v vs 23)) (v_iv (n_v vs 24)) (v_iv (n_v vs 25)) (v_iv (n_v vs 26)) (v_iv (n_v vs 28)) (v_iv (n_v vs 29)) (v_iv (n_v vs 30)) (v_iv (n_v vs 31)) (v_iv (n_v vs 32)) (v_iv (n_v vs 33)) (v_iv (n_v vs 35)) (v_iv (n_v vs 36)) (v_iv (n_v vs 37)) (v_iv (n_v vs 38)) (v_iv (n_v vs 39)) (v_iv (n_v vs 40)) (v_iv (n_v vs 41)) (w_ei ws (w_ar ws (n_v vs 0) 1)) (w_fi ws (n_v vs 0) 10) (w_ei ws (w_ar ws (n_v vs 0) 162)) (w_fi ws (n_v vs 0) 158) (w_ei ws (w_ar ws (n_v vs 0) 163)) (w_ei ws (w_ar ws (n_v vs 0) 160)) (w_fi ws (n_v vs 0) 8) k2 k4 k5 k6 k8 k10 k11 k12 k14 k15 k16 k17 k18 k19 k21 k22 k23 k24 k25 k26 k28 k29 k30 k31 k32 k33 k35 k36 k37 k38 k39 k40 k41 d0 d1 d2 d3 d4 d5 d6 (shm_40 f0) (shm_59 f1) (shm_60 f2) (shm_541 f3) (shm_542 f4) (shm_12 f5) h6 g7 (shm_6 f9) (shm_4 f10) (shm_37 f11) (shm_61 f12) (shm_62 f13) (shm_541 f14) (shm_542 f15) (shm_12 f16) h17 (shm_6 f18) (shm_4 f19) (shm_37 f20) (shm_57 f21) (shm_58 f22) (shm_541 f23) (shm_542 f24) (shm_12 f25) h26 (shm_6 f27) (shm_4 f28) (shm_37 f29) (shm_59 f30) (shm_60 f31) (shm_541 f32) (shm_542 f33) (shm_12 f34) h35 (shm_6 f36) (shm_37 f37) (shm_14 f38) h39 h40 (shm_37 f42) h43 (shm_192 f45) g46 hK_0_1 hK_0_160 hK_0_162 hK_0_163 kz_0_8 kz_0_10 kz_0_158)⟩
  have nf1 : fc_1 PRD (20, [0, 41], [60, 3, 4, 20, 8, 158, 10, 160, 162, 163, 1]) ws (vs) := ⟨nf_in hl rfl, sgq_1867 (vc_Mo_word_at_s5022_9_1 (v_iv (n_v vs 4)) (v_iv (n_v vs 8)) (v_iv (n_v vs 10)) (v_iv (n_v vs 11)) (v_iv (n_v vs 16)) (v_iv (n_v vs 17)) (v_iv (n_v vs 18)) (v_iv (n_v vs 19)) (v_iv (n_v vs 23)) (v_iv (n_v vs 24)) (v_iv (n_v vs 25)) (v_iv (n_v vs 26)) (v_iv (n_v vs 30)) (v_iv (n_v vs 31)) (v_iv (n_v vs 32)) (v_iv (n_v vs 33)) (v_iv (n_v vs 37)) (v_iv (n_v vs 38)) (v_iv (n_v vs 39)) (v_iv (n_v vs 41)) (w_ei ws (w_ar ws (n_v vs 0) 1)) (w_fi ws (n_v vs 0) 10) (w_ei ws (w_ar ws (n_v vs 0) 162)) (w_fi ws (n_v vs 0) 158) (w_ei ws (w_ar ws (n_v vs 0) 163)) (w_ei ws (w_ar ws (n_v vs 0) 160)) (w_fi ws (n_v vs 0) 8) k4 k8 k10 k11 k16 k17 k18 k19 k23 k24 k25 k26 k30 k31 k32 k33 k37 k38 k39 k41 d0 d1 d2 d3 d4 d5 d6 (shm_541 f3) (shm_542 f4) h6 g7 (shm_61 f12) (shm_62 f13) (shm_541 f14) (shm_542 f15) h17 (shm_57 f21) (shm_58 f22) (shm_541 f23) (shm_542 f24) h26 (shm_59 f30) (shm_60 f31) (shm_541 f32) (shm_542 f33) h35 (shm_14 f38) h39 h40 kz_0_8 kz_0_10 kz_0_158)⟩
  refine ⟨(fun _ h => (by cases h)), [], trivial, ?_, (fun _ h => (by cases h))⟩
  rw [List.append_nil]
  exact List.forall_mem_cons.mpr ⟨⟨show (20 : Nat) < 100 from by decide, nf0⟩, List.forall_mem_cons.mpr ⟨⟨show (20 : Nat) < 100 from by decide, nf1⟩, (fun _ h => (by cases h))⟩⟩
set_option maxHeartbeats 4000000 in
theorem vc_Mo_word_at_s5022_10_0 (x2 : Int) (x4 : Int) (x5 : Int) (x6 : Int) (x8 : Int) (x10 : Int) (x11 : Int) (x12 : Int) (x14 : Int) (x15 : Int) (x16 : Int) (x17 : Int) (x18 : Int) (x19 : Int) (x21 : Int) (x22 : Int) (x23 : Int) (x24 : Int) (x25 : Int) (x26 : Int) (x28 : Int) (x29 : Int) (x30 : Int) (x31 : Int) (x32 : Int) (x33 : Int) (x35 : Int) (x36 : Int) (x37 : Int) (x38 : Int) (x39 : Int) (x40 : Int) (x41 : Int) (tape_0 : Int → Int) (limit_0 : Int) (tokenPlace_0 : Int → Int) (cur_0 : Int) (tokenEnd_0 : Int → Int) (tokenKind_0 : Int → Int) (fault_0 : Int) (k2 : 0 ≤ x2 ∧ x2 ≤ 0) (k4 : 0 ≤ x4 ∧ x4 ≤ 2009) (k5 : 1 ≤ x5 ∧ x5 ≤ 1) (k6 : 1 ≤ x6 ∧ x6 ≤ 1) (k8 : 4 ≤ x8 ∧ x8 ≤ 2000) (k10 : 0 ≤ x10 ∧ x10 ≤ 2000) (k11 : 4 ≤ x11 ∧ x11 ≤ 4) (k12 : 4 ≤ x12 ∧ x12 ≤ 4) (k14 : 0 ≤ x14 ∧ x14 ≤ 0) (k15 : 4 ≤ x15 ∧ x15 ≤ 4) (k16 : 0 ≤ x16 ∧ x16 ≤ 1999) (k17 : 0 ≤ x17 ∧ x17 ≤ 1999) (k18 : 0 ≤ x18 ∧ x18 ≤ 255) (k19 : 0 ≤ x19 ∧ x19 ≤ 255) (k21 : 1 ≤ x21 ∧ x21 ≤ 1) (k22 : 4 ≤ x22 ∧ x22 ≤ 4) (k23 : 0 ≤ x23 ∧ x23 ≤ 1998) (k24 : 1 ≤ x24 ∧ x24 ≤ 1999) (k25 : 0 ≤ x25 ∧ x25 ≤ 255) (k26 : 0 ≤ x26 ∧ x26 ≤ 255) (k28 : 2 ≤ x28 ∧ x28 ≤ 2) (k29 : 4 ≤ x29 ∧ x29 ≤ 4) (k30 : 0 ≤ x30 ∧ x30 ≤ 1997) (k31 : 2 ≤ x31 ∧ x31 ≤ 1999) (k32 : 0 ≤ x32 ∧ x32 ≤ 255) (k33 : 0 ≤ x33 ∧ x33 ≤ 255) (k35 : 3 ≤ x35 ∧ x35 ≤ 3) (k36 : 4 ≤ x36 ∧ x36 ≤ 4) (k37 : 0 ≤ x37 ∧ x37 ≤ 1996) (k38 : 3 ≤ x38 ∧ x38 ≤ 1999) (k39 : 0 ≤ x39 ∧ x39 ≤ 255) (k40 : 0 ≤ x40 ∧ x40 ≤ 65535) (k41 : 0 ≤ x41 ∧ x41 ≤ 0) (d0 : x37 + 3 ≤ x38 ∧ x38 ≤ x37 + 3) (d1 : x33 + 0 ≤ x32 ∧ x32 ≤ x33 + 0) (d2 : x30 + 2 ≤ x31 ∧ x31 ≤ x30 + 2) (d3 : x26 + 0 ≤ x25 ∧ x25 ≤ x26 + 0) (d4 : x23 + 1 ≤ x24 ∧ x24 ≤ x23 + 1) (d5 : x19 + 0 ≤ x18 ∧ x18 ≤ x19 + 0) (d6 : x16 + 0 ≤ x17 ∧ x17 ≤ x16 + 0) (f0 : x39 ≠ x40) (f1 : 1 * x40 + 0 ≤ 101) (f2 : (-1) * x40 + 0 ≤ (-101)) (f3 : ((x38 + 1) ≤ limit_0) → (x39 = (tape_0 (x38) % 256))) (f4 : (limit_0 ≤ x38) → (x39 = (-1))) (f5 : x38 = x37 + x35) (h6 : x37 = tokenPlace_0 (x4)) (g7 : x4 = cur_0) (f9 : x35 < x36) (f10 : x35 = x28 + 1) (f11 : x32 = x33) (f12 : 1 * x33 + 0 ≤ 103) (f13 : (-1) * x33 + 0 ≤ (-103)) (f14 : ((x31 + 1) ≤ limit_0) → (x32 = (tape_0 (x31) % 256))) (f15 : (limit_0 ≤ x31) → (x32 = (-1))) (f16 : x31 = x30 + x28) (h17 : x30 = tokenPlace_0 (x4)) (f18 : x28 < x29) (f19 : x28 = x21 + 1) (f20 : x25 = x26) (f21 : 1 * x26 + 0 ≤ 100) (f22 : (-1) * x26 + 0 ≤ (-100)) (f23 : ((x24 + 1) ≤ limit_0) → (x25 = (tape_0 (x24) % 256))) (f24 : (limit_0 ≤ x24) → (x25 = (-1))) (f25 : x24 = x23 + x21) (h26 : x23 = tokenPlace_0 (x4)) (f27 : x21 < x22) (f28 : x21 = x14 + 1) (f29 : x18 = x19) (f30 : 1 * x19 + 0 ≤ 101) (f31 : (-1) * x19 + 0 ≤ (-101)) (f32 : ((x17 + 1) ≤ limit_0) → (x18 = (tape_0 (x17) % 256))) (f33 : (limit_0 ≤ x17) → (x18 = (-1))) (f34 : x17 = x16 + x14) (h35 : x16 = tokenPlace_0 (x4)) (f36 : x14 < x15) (f37 : x11 = x12) (f38 : x11 = x8 - x10) (h39 : x10 = tokenPlace_0 (x4)) (h40 : x8 = tokenEnd_0 (x4)) (f42 : x5 = x6) (h43 : x5 = tokenKind_0 (x4)) (f45 : x2 = 0) (g46 : x2 = fault_0) (hK_0_1 : ∀ j : Int, 0 ≤ j → j < 2000 → (-128) ≤ tape_0 j ∧ tape_0 j ≤ 127) (hK_0_160 : ∀ j : Int, 0 ≤ j → j < 2010 → 0 ≤ tokenKind_0 j ∧ tokenKind_0 j ≤ 4) (hK_0_162 : ∀ j : Int, 0 ≤ j → j < 2010 → 0 ≤ tokenPlace_0 j ∧ tokenPlace_0 j ≤ 2000) (hK_0_163 : ∀ j : Int, 0 ≤ j → j < 2010 → 0 ≤ tokenEnd_0 j ∧ tokenEnd_0 j ≤ 2000) (kz_0_8 : 0 ≤ fault_0 ∧ fault_0 ≤ 5) (kz_0_10 : 0 ≤ limit_0 ∧ limit_0 ≤ 2000) (kz_0_158 : 0 ≤ cur_0 ∧ cur_0 ≤ 2009) : (x41 = 1) → (tokenKind_0 (cur_0) = 1) := by
  first | assumption | (clear f3 f4 f14 f15 f23 f24 f32 f33 hK_0_1 hK_0_160 hK_0_162 hK_0_163; omega) | (clear hK_0_1 hK_0_160 hK_0_162 hK_0_163; grind) | omega | grind
set_option maxHeartbeats 4000000 in
theorem vc_Mo_word_at_s5022_10_1 (x4 : Int) (x8 : Int) (x10 : Int) (x11 : Int) (x16 : Int) (x17 : Int) (x18 : Int) (x19 : Int) (x23 : Int) (x24 : Int) (x25 : Int) (x26 : Int) (x30 : Int) (x31 : Int) (x32 : Int) (x33 : Int) (x37 : Int) (x38 : Int) (x39 : Int) (x40 : Int) (x41 : Int) (tape_0 : Int → Int) (limit_0 : Int) (tokenPlace_0 : Int → Int) (cur_0 : Int) (tokenEnd_0 : Int → Int) (tokenKind_0 : Int → Int) (fault_0 : Int) (k4 : 0 ≤ x4 ∧ x4 ≤ 2009) (k8 : 4 ≤ x8 ∧ x8 ≤ 2000) (k10 : 0 ≤ x10 ∧ x10 ≤ 2000) (k11 : 4 ≤ x11 ∧ x11 ≤ 4) (k16 : 0 ≤ x16 ∧ x16 ≤ 1999) (k17 : 0 ≤ x17 ∧ x17 ≤ 1999) (k18 : 0 ≤ x18 ∧ x18 ≤ 255) (k19 : 0 ≤ x19 ∧ x19 ≤ 255) (k23 : 0 ≤ x23 ∧ x23 ≤ 1998) (k24 : 1 ≤ x24 ∧ x24 ≤ 1999) (k25 : 0 ≤ x25 ∧ x25 ≤ 255) (k26 : 0 ≤ x26 ∧ x26 ≤ 255) (k30 : 0 ≤ x30 ∧ x30 ≤ 1997) (k31 : 2 ≤ x31 ∧ x31 ≤ 1999) (k32 : 0 ≤ x32 ∧ x32 ≤ 255) (k33 : 0 ≤ x33 ∧ x33 ≤ 255) (k37 : 0 ≤ x37 ∧ x37 ≤ 1996) (k38 : 3 ≤ x38 ∧ x38 ≤ 1999) (k39 : 0 ≤ x39 ∧ x39 ≤ 255) (k40 : 0 ≤ x40 ∧ x40 ≤ 65535) (k41 : 0 ≤ x41 ∧ x41 ≤ 0) (d0 : x37 + 3 ≤ x38 ∧ x38 ≤ x37 + 3) (d1 : x33 + 0 ≤ x32 ∧ x32 ≤ x33 + 0) (d2 : x30 + 2 ≤ x31 ∧ x31 ≤ x30 + 2) (d3 : x26 + 0 ≤ x25 ∧ x25 ≤ x26 + 0) (d4 : x23 + 1 ≤ x24 ∧ x24 ≤ x23 + 1) (d5 : x19 + 0 ≤ x18 ∧ x18 ≤ x19 + 0) (d6 : x16 + 0 ≤ x17 ∧ x17 ≤ x16 + 0) (f0 : x39 ≠ x40) (f1 : 1 * x40 + 0 ≤ 101) (f2 : (-1) * x40 + 0 ≤ (-101)) (f3 : ((x38 + 1) ≤ limit_0) → (x39 = (tape_0 (x38) % 256))) (f4 : (limit_0 ≤ x38) → (x39 = (-1))) (h6 : x37 = tokenPlace_0 (x4)) (g7 : x4 = cur_0) (f12 : 1 * x33 + 0 ≤ 103) (f13 : (-1) * x33 + 0 ≤ (-103)) (f14 : ((x31 + 1) ≤ limit_0) → (x32 = (tape_0 (x31) % 256))) (f15 : (limit_0 ≤ x31) → (x32 = (-1))) (h17 : x30 = tokenPlace_0 (x4)) (f21 : 1 * x26 + 0 ≤ 100) (f22 : (-1) * x26 + 0 ≤ (-100)) (f23 : ((x24 + 1) ≤ limit_0) → (x25 = (tape_0 (x24) % 256))) (f24 : (limit_0 ≤ x24) → (x25 = (-1))) (h26 : x23 = tokenPlace_0 (x4)) (f30 : 1 * x19 + 0 ≤ 101) (f31 : (-1) * x19 + 0 ≤ (-101)) (f32 : ((x17 + 1) ≤ limit_0) → (x18 = (tape_0 (x17) % 256))) (f33 : (limit_0 ≤ x17) → (x18 = (-1))) (h35 : x16 = tokenPlace_0 (x4)) (f38 : x11 = x8 - x10) (h39 : x10 = tokenPlace_0 (x4)) (h40 : x8 = tokenEnd_0 (x4)) (kz_0_8 : 0 ≤ fault_0 ∧ fault_0 ≤ 5) (kz_0_10 : 0 ≤ limit_0 ∧ limit_0 ≤ 2000) (kz_0_158 : 0 ≤ cur_0 ∧ cur_0 ≤ 2009) : Wqedge (fault_0) (cur_0) (limit_0) (tokenKind_0) (tokenPlace_0) (tokenEnd_0) (tape_0) (x41) := by
  first
    | exact ⟨fun z => by omega, fun z => by have := z.1; omega⟩
    | (have e := (‹x4 = cur_0›)
       rw [← e]
       refine ⟨fun z => ⟨by omega, wdS4.2 ⟨by omega, by omega, by omega, by rw [show tokenPlace_0 x4 + 0 = x17 by omega]; omega, by rw [show tokenPlace_0 x4 + 1 = x24 by omega]; omega, by rw [show tokenPlace_0 x4 + 2 = x31 by omega]; omega, by rw [show tokenPlace_0 x4 + 3 = x38 by omega]; omega⟩⟩, fun z => by omega⟩)
    | (have e := (‹x4 = cur_0›)
       rw [← e]
       refine ⟨fun z => by omega, fun z => ?_⟩
       have w := wdS4.1 z.2
       try (have q0 : tokenPlace_0 x4 + 0 = x17 := (by omega); rw [q0] at w)
       try (have q1 : tokenPlace_0 x4 + 1 = x24 := (by omega); rw [q1] at w)
       try (have q2 : tokenPlace_0 x4 + 2 = x31 := (by omega); rw [q2] at w)
       try (have q3 : tokenPlace_0 x4 + 3 = x38 := (by omega); rw [q3] at w)
       omega)
  
def o_Mo_word_at_s5022_10 : or_T := (102, 44, [(0, (2, 0, 0, [165])), (2, (0, 0, 0, [])), (3, (2, 0, 0, [274])), (4, (0, 0, 2009, [])), (5, (0, 1, 1, [])), (6, (0, 1, 1, [])), (7, (2, 0, 0, [277])), (8, (0, 4, 2000, [])), (9, (2, 0, 0, [276])), (10, (0, 0, 2000, [])), (11, (0, 4, 4, [])), (12, (0, 4, 4, [])), (14, (0, 0, 0, [])), (15, (0, 4, 4, [])), (16, (0, 0, 1999, [])), (17, (0, 0, 1999, [])), (18, (0, 0, 255, [])), (19, (0, 0, 255, [])), (21, (0, 1, 1, [])), (22, (0, 4, 4, [])), (23, (0, 0, 1998, [])), (24, (0, 1, 1999, [])), (25, (0, 0, 255, [])), (26, (0, 0, 255, [])), (28, (0, 2, 2, [])), (29, (0, 4, 4, [])), (30, (0, 0, 1997, [])), (31, (0, 2, 1999, [])), (32, (0, 0, 255, [])), (33, (0, 0, 255, [])), (35, (0, 3, 3, [])), (36, (0, 4, 4, [])), (37, (0, 0, 1996, [])), (38, (0, 3, 1999, [])), (39, (0, 0, 255, [])), (40, (0, 0, 65535, [])), (41, (0, 0, 0, []))], [(7, [39, 40], [1]), (23, [40], [101, 1]), (23, [40], [-101, -1]), (20, [38, 0, 39], [50, 1, 1, 1010, 1001, 4, 11, 0, 6, 4, 2, 1, 0, 0, 1, 2, 1, 10, 1, 2, 1, 2, 9, 5, 3, 1, 1, 1, 0, 0, 256]), (20, [0, 38, 39], [50, 1, 0, 10, 4, 7, 0, 3, 2, 0, 10, 1, 1, 1, 2, 1, 2, 0, -1]), (1, [38, 37, 35], []), (10, [37, 9, 4], []), (9, [4, 0], [158]), (9, [9, 0], [162]), (7, [35, 36], [2]), (6, [35, 28], [1]), (7, [32, 33], [0]), (23, [33], [103, 1]), (23, [33], [-103, -1]), (20, [31, 0, 32], [50, 1, 1, 1010, 1001, 4, 11, 0, 6, 4, 2, 1, 0, 0, 1, 2, 1, 10, 1, 2, 1, 2, 9, 5, 3, 1, 1, 1, 0, 0, 256]), (20, [0, 31, 32], [50, 1, 0, 10, 4, 7, 0, 3, 2, 0, 10, 1, 1, 1, 2, 1, 2, 0, -1]), (1, [31, 30, 28], []), (10, [30, 9, 4], []), (7, [28, 29], [2]), (6, [28, 21], [1]), (7, [25, 26], [0]), (23, [26], [100, 1]), (23, [26], [-100, -1]), (20, [24, 0, 25], [50, 1, 1, 1010, 1001, 4, 11, 0, 6, 4, 2, 1, 0, 0, 1, 2, 1, 10, 1, 2, 1, 2, 9, 5, 3, 1, 1, 1, 0, 0, 256]), (20, [0, 24, 25], [50, 1, 0, 10, 4, 7, 0, 3, 2, 0, 10, 1, 1, 1, 2, 1, 2, 0, -1]), (1, [24, 23, 21], []), (10, [23, 9, 4], []), (7, [21, 22], [2]), (6, [21, 14], [1]), (7, [18, 19], [0]), (23, [19], [101, 1]), (23, [19], [-101, -1]), (20, [17, 0, 18], [50, 1, 1, 1010, 1001, 4, 11, 0, 6, 4, 2, 1, 0, 0, 1, 2, 1, 10, 1, 2, 1, 2, 9, 5, 3, 1, 1, 1, 0, 0, 256]), (20, [0, 17, 18], [50, 1, 0, 10, 4, 7, 0, 3, 2, 0, 10, 1, 1, 1, 2, 1, 2, 0, -1]), (1, [17, 16, 14], []), (10, [16, 9, 4], []), (7, [14, 15], [2]), (7, [11, 12], [0]), (2, [11, 8, 10], []), (10, [10, 9, 4], []), (10, [8, 7, 4], []), (9, [7, 0], [163]), (7, [5, 6], [0]), (10, [5, 3, 4], []), (9, [3, 0], [160]), (8, [2], [0]), (9, [2, 0], [8])], [], [], [(20, [41, 0], [50, 1, 1, 1158, 1160, 4, 6, 1, 2, 1, 0, 0, 1, 1, 6, 3, 1, 160, 2, 1, 158, 0, 1]), (20, [0, 41], [60, 3, 4, 20, 8, 158, 10, 160, 162, 163, 1])], [], [(38, 37, 3, 3), (32, 33, 0, 0), (31, 30, 2, 2), (25, 26, 0, 0), (24, 23, 1, 1), (18, 19, 0, 0), (17, 16, 0, 0)])
theorem oo_Mo_word_at_s5022_10 {kA : Nat → ClassId} : or_ok PRD kA GG o_Mo_word_at_s5022_10 := by
  refine or_mk fun A ta ws vs hD hth hl => ?_
  intro t0 r0 t2 k2 t3 r3 t4 k4 t5 k5 t6 k6 t7 r7 t8 k8 t9 r9 t10 k10 t11 k11 t12 k12 t14 k14 t15 k15 t16 k16 t17 k17 t18 k18 t19 k19 t21 k21 t22 k22 t23 k23 t24 k24 t25 k25 t26 k26 t28 k28 t29 k29 t30 k30 t31 k31 t32 k32 t33 k33 t35 k35 t36 k36 t37 k37 t38 k38 t39 k39 t40 k40 t41 k41 d0 d1 d2 d3 d4 d5 d6 f0 f1 f2 f3 f4 f5 f6 f7 f8 f9 f10 f11 f12 f13 f14 f15 f16 f17 f18 f19 f20 f21 f22 f23 f24 f25 f26 f27 f28 f29 f30 f31 f32 f33 f34 f35 f36 f37 f38 f39 f40 f41 f42 f43 f44 f45 f46
  replace f6 := shm_107 f6
  replace f7 := shm_286 f7
  replace f8 := shm_301 f8
  replace f17 := shm_107 f17
  replace f26 := shm_107 f26
  replace f35 := shm_107 f35
  replace f39 := shm_107 f39
  replace f40 := shm_107 f40
  replace f41 := shm_1332 f41
  replace f43 := shm_107 f43
  replace f44 := shm_327 f44
  replace f46 := shm_293 f46
  have cr_0_1 := fdq_39 hD hth r0
  have cr_0_160 := fdq_33 hD hth r0
  have cr_0_162 := fdq_41 hD hth r0
  have cr_0_163 := fdq_42 hD hth r0
  have ad_9 : v_ad (n_v vs 9) = w_ar ws (n_v vs 0) 162 := congrArg v_ad f8
  have ad_7 : v_ad (n_v vs 7) = w_ar ws (n_v vs 0) 163 := congrArg v_ad f41
  have ad_3 : v_ad (n_v vs 3) = w_ar ws (n_v vs 0) 160 := congrArg v_ad f44
  simp only [ad_9] at f6
  have h6 : v_iv (n_v vs 37) = w_ei ws (w_ar ws (n_v vs 0) 162) (v_iv (n_v vs 4)) := f6
  have g7 : v_iv (n_v vs 4) = w_fi ws (n_v vs 0) 158 := congrArg v_iv f7
  simp only [ad_9] at f17
  have h17 : v_iv (n_v vs 30) = w_ei ws (w_ar ws (n_v vs 0) 162) (v_iv (n_v vs 4)) := f17
  simp only [ad_9] at f26
  have h26 : v_iv (n_v vs 23) = w_ei ws (w_ar ws (n_v vs 0) 162) (v_iv (n_v vs 4)) := f26
  simp only [ad_9] at f35
  have h35 : v_iv (n_v vs 16) = w_ei ws (w_ar ws (n_v vs 0) 162) (v_iv (n_v vs 4)) := f35
  simp only [ad_9] at f39
  have h39 : v_iv (n_v vs 10) = w_ei ws (w_ar ws (n_v vs 0) 162) (v_iv (n_v vs 4)) := f39
  simp only [ad_7] at f40
  have h40 : v_iv (n_v vs 8) = w_ei ws (w_ar ws (n_v vs 0) 163) (v_iv (n_v vs 4)) := f40
  simp only [ad_3] at f43
  have h43 : v_iv (n_v vs 5) = w_ei ws (w_ar ws (n_v vs 0) 160) (v_iv (n_v vs 4)) := f43
  have g46 : v_iv (n_v vs 2) = w_fi ws (n_v vs 0) 8 := congrArg v_iv f46
  have hK_0_1 := elq_7 hD hth cr_0_1
  have hK_0_160 := elq_6 hD hth cr_0_160
  have hK_0_162 := elq_8 hD hth cr_0_162
  have hK_0_163 := elq_9 hD hth cr_0_163
  have kz_0_8 := fdq_34 hD hth r0
  have kz_0_10 := fdq_43 hD hth r0
  have kz_0_158 := fdq_36 hD hth r0
  have nf0 : fc_1 PRD (20, [41, 0], [50, 1, 1, 1158, 1160, 4, 6, 1, 2, 1, 0, 0, 1, 1, 6, 3, 1, 160, 2, 1, 158, 0, 1]) ws (vs) := ⟨nf_in hl rfl, sgq_287 (vc_Mo_word_at_s5022_10_0 (v_iv (n_v vs 2)) (v_iv (n_v vs 4)) (v_iv (n_v vs 5)) (v_iv (n_v vs 6)) (v_iv (n_v vs 8)) (v_iv (n_v vs 10)) (v_iv (n_v vs 11)) (v_iv (n_v vs 12)) (v_iv (n_v vs 14)) (v_iv (n_v vs 15)) (v_iv (n_v vs 16)) (v_iv (n_v vs 17)) (v_iv (n_v vs 18)) (v_iv (n_v vs 19)) (v_iv (n_v vs 21)) (v_iv (n_v vs 22)) (v_iv (n_v vs 23)) (v_iv (n_v vs 24)) (v_iv (n_v vs 25)) (v_iv (n_v vs 26)) (v_iv (n_v vs 28)) (v_iv (n_v vs 29)) (v_iv (n_v vs 30)) (v_iv (n_v vs 31)) (v_iv (n_v vs 32)) (v_iv (n_v vs 33)) (v_iv (n_v vs 35)) (v_iv (n_v vs 36)) (v_iv (n_v vs 37)) (v_iv (n_v vs 38)) (v_iv (n_v vs 39)) (v_iv (n_v vs 40)) (v_iv (n_v vs 41)) (w_ei ws (w_ar ws (n_v vs 0) 1)) (w_fi ws (n_v vs 0) 10) (w_ei ws (w_ar ws (n_v vs 0) 162)) (w_fi ws (n_v vs 0) 158) (w_ei ws (w_ar ws (n_v vs 0) 163)) (w_ei ws (w_ar ws (n_v vs 0) 160)) (w_fi ws (n_v vs 0) 8) k2 k4 k5 k6 k8 k10 k11 k12 k14 k15 k16 k17 k18 k19 k21 k22 k23 k24 k25 k26 k28 k29 k30 k31 k32 k33 k35 k36 k37 k38 k39 k40 k41 d0 d1 d2 d3 d4 d5 d6 (shm_40 f0) (shm_59 f1) (shm_60 f2) (shm_541 f3) (shm_542 f4) (shm_12 f5) h6 g7 (shm_6 f9) (shm_4 f10) (shm_37 f11) (shm_61 f12) (shm_62 f13) (shm_541 f14) (shm_542 f15) (shm_12 f16) h17 (shm_6 f18) (shm_4 f19) (shm_37 f20) (shm_57 f21) (shm_58 f22) (shm_541 f23) (shm_542 f24) (shm_12 f25) h26 (shm_6 f27) (shm_4 f28) (shm_37 f29) (shm_59 f30) (shm_60 f31) (shm_541 f32) (shm_542 f33) (shm_12 f34) h35 (shm_6 f36) (shm_37 f37) (shm_14 f38) h39 h40 (shm_37 f42) h43 (shm_192 f45) g46 hK_0_1 hK_0_160 hK_0_162 hK_0_163 kz_0_8 kz_0_10 kz_0_158)⟩
  have nf1 : fc_1 PRD (20, [0, 41], [60, 3, 4, 20, 8, 158, 10, 160, 162, 163, 1]) ws (vs) := ⟨nf_in hl rfl, sgq_1867 (vc_Mo_word_at_s5022_10_1 (v_iv (n_v vs 4)) (v_iv (n_v vs 8)) (v_iv (n_v vs 10)) (v_iv (n_v vs 11)) (v_iv (n_v vs 16)) (v_iv (n_v vs 17)) (v_iv (n_v vs 18)) (v_iv (n_v vs 19)) (v_iv (n_v vs 23)) (v_iv (n_v vs 24)) (v_iv (n_v vs 25)) (v_iv (n_v vs 26)) (v_iv (n_v vs 30)) (v_iv (n_v vs 31)) (v_iv (n_v vs 32)) (v_iv (n_v vs 33)) (v_iv (n_v vs 37)) (v_iv (n_v vs 38)) (v_iv (n_v vs 39)) (v_iv (n_v vs 40)) (v_iv (n_v vs 41)) (w_ei ws (w_ar ws (n_v vs 0) 1)) (w_fi ws (n_v vs 0) 10) (w_ei ws (w_ar ws (n_v vs 0) 162)) (w_fi ws (n_v vs 0) 158) (w_ei ws (w_ar ws (n_v vs 0) 163)) (w_ei ws (w_ar ws (n_v vs 0) 160)) (w_fi ws (n_v vs 0) 8) k4 k8 k10 k11 k16 k17 k18 k19 k23 k24 k25 k26 k30 k31 k32 k33 k37 k38 k39 k40 k41 d0 d1 d2 d3 d4 d5 d6 (shm_40 f0) (shm_59 f1) (shm_60 f2) (shm_541 f3) (shm_542 f4) h6 g7 (shm_61 f12) (shm_62 f13) (shm_541 f14) (shm_542 f15) h17 (shm_57 f21) (shm_58 f22) (shm_541 f23) (shm_542 f24) h26 (shm_59 f30) (shm_60 f31) (shm_541 f32) (shm_542 f33) h35 (shm_14 f38) h39 h40 kz_0_8 kz_0_10 kz_0_158)⟩
  refine ⟨(fun _ h => (by cases h)), [], trivial, ?_, (fun _ h => (by cases h))⟩
  rw [List.append_nil]
  exact List.forall_mem_cons.mpr ⟨⟨show (20 : Nat) < 100 from by decide, nf0⟩, List.forall_mem_cons.mpr ⟨⟨show (20 : Nat) < 100 from by decide, nf1⟩, (fun _ h => (by cases h))⟩⟩
set_option maxHeartbeats 4000000 in
theorem vc_Mo_word_at_s5022_11_0 (x2 : Int) (x4 : Int) (x5 : Int) (x6 : Int) (x8 : Int) (x10 : Int) (x11 : Int) (x12 : Int) (x14 : Int) (x15 : Int) (x16 : Int) (x17 : Int) (x18 : Int) (x19 : Int) (x21 : Int) (x22 : Int) (x23 : Int) (x24 : Int) (x25 : Int) (x26 : Int) (x28 : Int) (x29 : Int) (x30 : Int) (x31 : Int) (x32 : Int) (x33 : Int) (x35 : Int) (x36 : Int) (x37 : Int) (x38 : Int) (x39 : Int) (x40 : Int) (x41 : Int) (tape_0 : Int → Int) (limit_0 : Int) (tokenPlace_0 : Int → Int) (cur_0 : Int) (tokenEnd_0 : Int → Int) (tokenKind_0 : Int → Int) (fault_0 : Int) (k2 : 0 ≤ x2 ∧ x2 ≤ 0) (k4 : 0 ≤ x4 ∧ x4 ≤ 2009) (k5 : 1 ≤ x5 ∧ x5 ≤ 1) (k6 : 1 ≤ x6 ∧ x6 ≤ 1) (k8 : 4 ≤ x8 ∧ x8 ≤ 2000) (k10 : 0 ≤ x10 ∧ x10 ≤ 2000) (k11 : 4 ≤ x11 ∧ x11 ≤ 4) (k12 : 4 ≤ x12 ∧ x12 ≤ 4) (k14 : 0 ≤ x14 ∧ x14 ≤ 0) (k15 : 4 ≤ x15 ∧ x15 ≤ 4) (k16 : 0 ≤ x16 ∧ x16 ≤ 1999) (k17 : 0 ≤ x17 ∧ x17 ≤ 1999) (k18 : 0 ≤ x18 ∧ x18 ≤ 255) (k19 : 0 ≤ x19 ∧ x19 ≤ 255) (k21 : 1 ≤ x21 ∧ x21 ≤ 1) (k22 : 4 ≤ x22 ∧ x22 ≤ 4) (k23 : 0 ≤ x23 ∧ x23 ≤ 1998) (k24 : 1 ≤ x24 ∧ x24 ≤ 1999) (k25 : 0 ≤ x25 ∧ x25 ≤ 255) (k26 : 0 ≤ x26 ∧ x26 ≤ 255) (k28 : 2 ≤ x28 ∧ x28 ≤ 2) (k29 : 4 ≤ x29 ∧ x29 ≤ 4) (k30 : 0 ≤ x30 ∧ x30 ≤ 1997) (k31 : 2 ≤ x31 ∧ x31 ≤ 1999) (k32 : 0 ≤ x32 ∧ x32 ≤ 255) (k33 : 0 ≤ x33 ∧ x33 ≤ 255) (k35 : 3 ≤ x35 ∧ x35 ≤ 3) (k36 : 4 ≤ x36 ∧ x36 ≤ 4) (k37 : 0 ≤ x37 ∧ x37 ≤ 1996) (k38 : 3 ≤ x38 ∧ x38 ≤ 1999) (k39 : 0 ≤ x39 ∧ x39 ≤ 255) (k40 : 0 ≤ x40 ∧ x40 ≤ 255) (k41 : 1 ≤ x41 ∧ x41 ≤ 1) (d0 : x40 + 0 ≤ x39 ∧ x39 ≤ x40 + 0) (d1 : x37 + 3 ≤ x38 ∧ x38 ≤ x37 + 3) (d2 : x33 + 0 ≤ x32 ∧ x32 ≤ x33 + 0) (d3 : x30 + 2 ≤ x31 ∧ x31 ≤ x30 + 2) (d4 : x26 + 0 ≤ x25 ∧ x25 ≤ x26 + 0) (d5 : x23 + 1 ≤ x24 ∧ x24 ≤ x23 + 1) (d6 : x19 + 0 ≤ x18 ∧ x18 ≤ x19 + 0) (d7 : x16 + 0 ≤ x17 ∧ x17 ≤ x16 + 0) (f0 : x39 = x40) (f1 : 1 * x40 + 0 ≤ 101) (f2 : (-1) * x40 + 0 ≤ (-101)) (f3 : ((x38 + 1) ≤ limit_0) → (x39 = (tape_0 (x38) % 256))) (f4 : (limit_0 ≤ x38) → (x39 = (-1))) (f5 : x38 = x37 + x35) (h6 : x37 = tokenPlace_0 (x4)) (g7 : x4 = cur_0) (f9 : x35 < x36) (f10 : x35 = x28 + 1) (f11 : x32 = x33) (f12 : 1 * x33 + 0 ≤ 103) (f13 : (-1) * x33 + 0 ≤ (-103)) (f14 : ((x31 + 1) ≤ limit_0) → (x32 = (tape_0 (x31) % 256))) (f15 : (limit_0 ≤ x31) → (x32 = (-1))) (f16 : x31 = x30 + x28) (h17 : x30 = tokenPlace_0 (x4)) (f18 : x28 < x29) (f19 : x28 = x21 + 1) (f20 : x25 = x26) (f21 : 1 * x26 + 0 ≤ 100) (f22 : (-1) * x26 + 0 ≤ (-100)) (f23 : ((x24 + 1) ≤ limit_0) → (x25 = (tape_0 (x24) % 256))) (f24 : (limit_0 ≤ x24) → (x25 = (-1))) (f25 : x24 = x23 + x21) (h26 : x23 = tokenPlace_0 (x4)) (f27 : x21 < x22) (f28 : x21 = x14 + 1) (f29 : x18 = x19) (f30 : 1 * x19 + 0 ≤ 101) (f31 : (-1) * x19 + 0 ≤ (-101)) (f32 : ((x17 + 1) ≤ limit_0) → (x18 = (tape_0 (x17) % 256))) (f33 : (limit_0 ≤ x17) → (x18 = (-1))) (f34 : x17 = x16 + x14) (h35 : x16 = tokenPlace_0 (x4)) (f36 : x14 < x15) (f37 : x11 = x12) (f38 : x11 = x8 - x10) (h39 : x10 = tokenPlace_0 (x4)) (h40 : x8 = tokenEnd_0 (x4)) (f42 : x5 = x6) (h43 : x5 = tokenKind_0 (x4)) (f45 : x2 = 0) (g46 : x2 = fault_0) (hK_0_1 : ∀ j : Int, 0 ≤ j → j < 2000 → (-128) ≤ tape_0 j ∧ tape_0 j ≤ 127) (hK_0_160 : ∀ j : Int, 0 ≤ j → j < 2010 → 0 ≤ tokenKind_0 j ∧ tokenKind_0 j ≤ 4) (hK_0_162 : ∀ j : Int, 0 ≤ j → j < 2010 → 0 ≤ tokenPlace_0 j ∧ tokenPlace_0 j ≤ 2000) (hK_0_163 : ∀ j : Int, 0 ≤ j → j < 2010 → 0 ≤ tokenEnd_0 j ∧ tokenEnd_0 j ≤ 2000) (kz_0_8 : 0 ≤ fault_0 ∧ fault_0 ≤ 5) (kz_0_10 : 0 ≤ limit_0 ∧ limit_0 ≤ 2000) (kz_0_158 : 0 ≤ cur_0 ∧ cur_0 ≤ 2009) : (x41 = 1) → (tokenKind_0 (cur_0) = 1) := by
  first | assumption | (clear f3 f4 f14 f15 f23 f24 f32 f33 hK_0_1 hK_0_160 hK_0_162 hK_0_163; omega) | (clear hK_0_1 hK_0_160 hK_0_162 hK_0_163; grind) | omega | grind
set_option maxHeartbeats 4000000 in
theorem vc_Mo_word_at_s5022_11_1 (x2 : Int) (x4 : Int) (x5 : Int) (x8 : Int) (x10 : Int) (x11 : Int) (x16 : Int) (x17 : Int) (x18 : Int) (x19 : Int) (x23 : Int) (x24 : Int) (x25 : Int) (x26 : Int) (x30 : Int) (x31 : Int) (x32 : Int) (x33 : Int) (x37 : Int) (x38 : Int) (x39 : Int) (x40 : Int) (x41 : Int) (tape_0 : Int → Int) (limit_0 : Int) (tokenPlace_0 : Int → Int) (cur_0 : Int) (tokenEnd_0 : Int → Int) (tokenKind_0 : Int → Int) (fault_0 : Int) (k2 : 0 ≤ x2 ∧ x2 ≤ 0) (k4 : 0 ≤ x4 ∧ x4 ≤ 2009) (k5 : 1 ≤ x5 ∧ x5 ≤ 1) (k8 : 4 ≤ x8 ∧ x8 ≤ 2000) (k10 : 0 ≤ x10 ∧ x10 ≤ 2000) (k11 : 4 ≤ x11 ∧ x11 ≤ 4) (k16 : 0 ≤ x16 ∧ x16 ≤ 1999) (k17 : 0 ≤ x17 ∧ x17 ≤ 1999) (k18 : 0 ≤ x18 ∧ x18 ≤ 255) (k19 : 0 ≤ x19 ∧ x19 ≤ 255) (k23 : 0 ≤ x23 ∧ x23 ≤ 1998) (k24 : 1 ≤ x24 ∧ x24 ≤ 1999) (k25 : 0 ≤ x25 ∧ x25 ≤ 255) (k26 : 0 ≤ x26 ∧ x26 ≤ 255) (k30 : 0 ≤ x30 ∧ x30 ≤ 1997) (k31 : 2 ≤ x31 ∧ x31 ≤ 1999) (k32 : 0 ≤ x32 ∧ x32 ≤ 255) (k33 : 0 ≤ x33 ∧ x33 ≤ 255) (k37 : 0 ≤ x37 ∧ x37 ≤ 1996) (k38 : 3 ≤ x38 ∧ x38 ≤ 1999) (k39 : 0 ≤ x39 ∧ x39 ≤ 255) (k40 : 0 ≤ x40 ∧ x40 ≤ 255) (k41 : 1 ≤ x41 ∧ x41 ≤ 1) (d0 : x40 + 0 ≤ x39 ∧ x39 ≤ x40 + 0) (d1 : x37 + 3 ≤ x38 ∧ x38 ≤ x37 + 3) (d2 : x33 + 0 ≤ x32 ∧ x32 ≤ x33 + 0) (d3 : x30 + 2 ≤ x31 ∧ x31 ≤ x30 + 2) (d4 : x26 + 0 ≤ x25 ∧ x25 ≤ x26 + 0) (d5 : x23 + 1 ≤ x24 ∧ x24 ≤ x23 + 1) (d6 : x19 + 0 ≤ x18 ∧ x18 ≤ x19 + 0) (d7 : x16 + 0 ≤ x17 ∧ x17 ≤ x16 + 0) (f1 : 1 * x40 + 0 ≤ 101) (f2 : (-1) * x40 + 0 ≤ (-101)) (f3 : ((x38 + 1) ≤ limit_0) → (x39 = (tape_0 (x38) % 256))) (f4 : (limit_0 ≤ x38) → (x39 = (-1))) (h6 : x37 = tokenPlace_0 (x4)) (g7 : x4 = cur_0) (f12 : 1 * x33 + 0 ≤ 103) (f13 : (-1) * x33 + 0 ≤ (-103)) (f14 : ((x31 + 1) ≤ limit_0) → (x32 = (tape_0 (x31) % 256))) (f15 : (limit_0 ≤ x31) → (x32 = (-1))) (h17 : x30 = tokenPlace_0 (x4)) (f21 : 1 * x26 + 0 ≤ 100) (f22 : (-1) * x26 + 0 ≤ (-100)) (f23 : ((x24 + 1) ≤ limit_0) → (x25 = (tape_0 (x24) % 256))) (f24 : (limit_0 ≤ x24) → (x25 = (-1))) (h26 : x23 = tokenPlace_0 (x4)) (f30 : 1 * x19 + 0 ≤ 101) (f31 : (-1) * x19 + 0 ≤ (-101)) (f32 : ((x17 + 1) ≤ limit_0) → (x18 = (tape_0 (x17) % 256))) (f33 : (limit_0 ≤ x17) → (x18 = (-1))) (h35 : x16 = tokenPlace_0 (x4)) (f38 : x11 = x8 - x10) (h39 : x10 = tokenPlace_0 (x4)) (h40 : x8 = tokenEnd_0 (x4)) (h43 : x5 = tokenKind_0 (x4)) (g46 : x2 = fault_0) (kz_0_8 : 0 ≤ fault_0 ∧ fault_0 ≤ 5) (kz_0_10 : 0 ≤ limit_0 ∧ limit_0 ≤ 2000) (kz_0_158 : 0 ≤ cur_0 ∧ cur_0 ≤ 2009) : Wqedge (fault_0) (cur_0) (limit_0) (tokenKind_0) (tokenPlace_0) (tokenEnd_0) (tape_0) (x41) := by
  first
    | exact ⟨fun z => by omega, fun z => by have := z.1; omega⟩
    | (have e := (‹x4 = cur_0›)
       rw [← e]
       refine ⟨fun z => ⟨by omega, wdS4.2 ⟨by omega, by omega, by omega, by rw [show tokenPlace_0 x4 + 0 = x17 by omega]; omega, by rw [show tokenPlace_0 x4 + 1 = x24 by omega]; omega, by rw [show tokenPlace_0 x4 + 2 = x31 by omega]; omega, by rw [show tokenPlace_0 x4 + 3 = x38 by omega]; omega⟩⟩, fun z => by omega⟩)
    | (have e := (‹x4 = cur_0›)
       rw [← e]
       refine ⟨fun z => by omega, fun z => ?_⟩
       have w := wdS4.1 z.2
       try (have q0 : tokenPlace_0 x4 + 0 = x17 := (by omega); rw [q0] at w)
       try (have q1 : tokenPlace_0 x4 + 1 = x24 := (by omega); rw [q1] at w)
       try (have q2 : tokenPlace_0 x4 + 2 = x31 := (by omega); rw [q2] at w)
       try (have q3 : tokenPlace_0 x4 + 3 = x38 := (by omega); rw [q3] at w)
       omega)
  
def o_Mo_word_at_s5022_11 : or_T := (102, 44, [(0, (2, 0, 0, [165])), (2, (0, 0, 0, [])), (3, (2, 0, 0, [274])), (4, (0, 0, 2009, [])), (5, (0, 1, 1, [])), (6, (0, 1, 1, [])), (7, (2, 0, 0, [277])), (8, (0, 4, 2000, [])), (9, (2, 0, 0, [276])), (10, (0, 0, 2000, [])), (11, (0, 4, 4, [])), (12, (0, 4, 4, [])), (14, (0, 0, 0, [])), (15, (0, 4, 4, [])), (16, (0, 0, 1999, [])), (17, (0, 0, 1999, [])), (18, (0, 0, 255, [])), (19, (0, 0, 255, [])), (21, (0, 1, 1, [])), (22, (0, 4, 4, [])), (23, (0, 0, 1998, [])), (24, (0, 1, 1999, [])), (25, (0, 0, 255, [])), (26, (0, 0, 255, [])), (28, (0, 2, 2, [])), (29, (0, 4, 4, [])), (30, (0, 0, 1997, [])), (31, (0, 2, 1999, [])), (32, (0, 0, 255, [])), (33, (0, 0, 255, [])), (35, (0, 3, 3, [])), (36, (0, 4, 4, [])), (37, (0, 0, 1996, [])), (38, (0, 3, 1999, [])), (39, (0, 0, 255, [])), (40, (0, 0, 255, [])), (41, (0, 1, 1, []))], [(7, [39, 40], [0]), (23, [40], [101, 1]), (23, [40], [-101, -1]), (20, [38, 0, 39], [50, 1, 1, 1010, 1001, 4, 11, 0, 6, 4, 2, 1, 0, 0, 1, 2, 1, 10, 1, 2, 1, 2, 9, 5, 3, 1, 1, 1, 0, 0, 256]), (20, [0, 38, 39], [50, 1, 0, 10, 4, 7, 0, 3, 2, 0, 10, 1, 1, 1, 2, 1, 2, 0, -1]), (1, [38, 37, 35], []), (10, [37, 9, 4], []), (9, [4, 0], [158]), (9, [9, 0], [162]), (7, [35, 36], [2]), (6, [35, 28], [1]), (7, [32, 33], [0]), (23, [33], [103, 1]), (23, [33], [-103, -1]), (20, [31, 0, 32], [50, 1, 1, 1010, 1001, 4, 11, 0, 6, 4, 2, 1, 0, 0, 1, 2, 1, 10, 1, 2, 1, 2, 9, 5, 3, 1, 1, 1, 0, 0, 256]), (20, [0, 31, 32], [50, 1, 0, 10, 4, 7, 0, 3, 2, 0, 10, 1, 1, 1, 2, 1, 2, 0, -1]), (1, [31, 30, 28], []), (10, [30, 9, 4], []), (7, [28, 29], [2]), (6, [28, 21], [1]), (7, [25, 26], [0]), (23, [26], [100, 1]), (23, [26], [-100, -1]), (20, [24, 0, 25], [50, 1, 1, 1010, 1001, 4, 11, 0, 6, 4, 2, 1, 0, 0, 1, 2, 1, 10, 1, 2, 1, 2, 9, 5, 3, 1, 1, 1, 0, 0, 256]), (20, [0, 24, 25], [50, 1, 0, 10, 4, 7, 0, 3, 2, 0, 10, 1, 1, 1, 2, 1, 2, 0, -1]), (1, [24, 23, 21], []), (10, [23, 9, 4], []), (7, [21, 22], [2]), (6, [21, 14], [1]), (7, [18, 19], [0]), (23, [19], [101, 1]), (23, [19], [-101, -1]), (20, [17, 0, 18], [50, 1, 1, 1010, 1001, 4, 11, 0, 6, 4, 2, 1, 0, 0, 1, 2, 1, 10, 1, 2, 1, 2, 9, 5, 3, 1, 1, 1, 0, 0, 256]), (20, [0, 17, 18], [50, 1, 0, 10, 4, 7, 0, 3, 2, 0, 10, 1, 1, 1, 2, 1, 2, 0, -1]), (1, [17, 16, 14], []), (10, [16, 9, 4], []), (7, [14, 15], [2]), (7, [11, 12], [0]), (2, [11, 8, 10], []), (10, [10, 9, 4], []), (10, [8, 7, 4], []), (9, [7, 0], [163]), (7, [5, 6], [0]), (10, [5, 3, 4], []), (9, [3, 0], [160]), (8, [2], [0]), (9, [2, 0], [8])], [], [], [(20, [41, 0], [50, 1, 1, 1158, 1160, 4, 6, 1, 2, 1, 0, 0, 1, 1, 6, 3, 1, 160, 2, 1, 158, 0, 1]), (20, [0, 41], [60, 3, 4, 20, 8, 158, 10, 160, 162, 163, 1])], [], [(39, 40, 0, 0), (38, 37, 3, 3), (32, 33, 0, 0), (31, 30, 2, 2), (25, 26, 0, 0), (24, 23, 1, 1), (18, 19, 0, 0), (17, 16, 0, 0)])
theorem oo_Mo_word_at_s5022_11 {kA : Nat → ClassId} : or_ok PRD kA GG o_Mo_word_at_s5022_11 := by
  refine or_mk fun A ta ws vs hD hth hl => ?_
  intro t0 r0 t2 k2 t3 r3 t4 k4 t5 k5 t6 k6 t7 r7 t8 k8 t9 r9 t10 k10 t11 k11 t12 k12 t14 k14 t15 k15 t16 k16 t17 k17 t18 k18 t19 k19 t21 k21 t22 k22 t23 k23 t24 k24 t25 k25 t26 k26 t28 k28 t29 k29 t30 k30 t31 k31 t32 k32 t33 k33 t35 k35 t36 k36 t37 k37 t38 k38 t39 k39 t40 k40 t41 k41 d0 d1 d2 d3 d4 d5 d6 d7 f0 f1 f2 f3 f4 f5 f6 f7 f8 f9 f10 f11 f12 f13 f14 f15 f16 f17 f18 f19 f20 f21 f22 f23 f24 f25 f26 f27 f28 f29 f30 f31 f32 f33 f34 f35 f36 f37 f38 f39 f40 f41 f42 f43 f44 f45 f46
  replace f6 := shm_107 f6
  replace f7 := shm_286 f7
  replace f8 := shm_301 f8
  replace f17 := shm_107 f17
  replace f26 := shm_107 f26
  replace f35 := shm_107 f35
  replace f39 := shm_107 f39
  replace f40 := shm_107 f40
  replace f41 := shm_1332 f41
  replace f43 := shm_107 f43
  replace f44 := shm_327 f44
  replace f46 := shm_293 f46
  have cr_0_1 := fdq_39 hD hth r0
  have cr_0_160 := fdq_33 hD hth r0
  have cr_0_162 := fdq_41 hD hth r0
  have cr_0_163 := fdq_42 hD hth r0
  have ad_9 : v_ad (n_v vs 9) = w_ar ws (n_v vs 0) 162 := congrArg v_ad f8
  have ad_7 : v_ad (n_v vs 7) = w_ar ws (n_v vs 0) 163 := congrArg v_ad f41
  have ad_3 : v_ad (n_v vs 3) = w_ar ws (n_v vs 0) 160 := congrArg v_ad f44
  simp only [ad_9] at f6
  have h6 : v_iv (n_v vs 37) = w_ei ws (w_ar ws (n_v vs 0) 162) (v_iv (n_v vs 4)) := f6
  have g7 : v_iv (n_v vs 4) = w_fi ws (n_v vs 0) 158 := congrArg v_iv f7
  simp only [ad_9] at f17
  have h17 : v_iv (n_v vs 30) = w_ei ws (w_ar ws (n_v vs 0) 162) (v_iv (n_v vs 4)) := f17
  simp only [ad_9] at f26
  have h26 : v_iv (n_v vs 23) = w_ei ws (w_ar ws (n_v vs 0) 162) (v_iv (n_v vs 4)) := f26
  simp only [ad_9] at f35
  have h35 : v_iv (n_v vs 16) = w_ei ws (w_ar ws (n_v vs 0) 162) (v_iv (n_v vs 4)) := f35
  simp only [ad_9] at f39
  have h39 : v_iv (n_v vs 10) = w_ei ws (w_ar ws (n_v vs 0) 162) (v_iv (n_v vs 4)) := f39
  simp only [ad_7] at f40
  have h40 : v_iv (n_v vs 8) = w_ei ws (w_ar ws (n_v vs 0) 163) (v_iv (n_v vs 4)) := f40
  simp only [ad_3] at f43
  have h43 : v_iv (n_v vs 5) = w_ei ws (w_ar ws (n_v vs 0) 160) (v_iv (n_v vs 4)) := f43
  have g46 : v_iv (n_v vs 2) = w_fi ws (n_v vs 0) 8 := congrArg v_iv f46
  have hK_0_1 := elq_7 hD hth cr_0_1
  have hK_0_160 := elq_6 hD hth cr_0_160
  have hK_0_162 := elq_8 hD hth cr_0_162
  have hK_0_163 := elq_9 hD hth cr_0_163
  have kz_0_8 := fdq_34 hD hth r0
  have kz_0_10 := fdq_43 hD hth r0
  have kz_0_158 := fdq_36 hD hth r0
  have nf0 : fc_1 PRD (20, [41, 0], [50, 1, 1, 1158, 1160, 4, 6, 1, 2, 1, 0, 0, 1, 1, 6, 3, 1, 160, 2, 1, 158, 0, 1]) ws (vs) := ⟨nf_in hl rfl, sgq_287 (vc_Mo_word_at_s5022_11_0 (v_iv (n_v vs 2)) (v_iv (n_v vs 4)) (v_iv (n_v vs 5)) (v_iv (n_v vs 6)) (v_iv (n_v vs 8)) (v_iv (n_v vs 10)) (v_iv (n_v vs 11)) (v_iv (n_v vs 12)) (v_iv (n_v vs 14)) (v_iv (n_v vs 15)) (v_iv (n_v vs 16)) (v_iv (n_v vs 17)) (v_iv (n_v vs 18)) (v_iv (n_v vs 19)) (v_iv (n_v vs 21)) (v_iv (n_v vs 22)) (v_iv (n_v vs 23)) (v_iv (n_v vs 24)) (v_iv (n_v vs 25)) (v_iv (n_v vs 26)) (v_iv (n_v vs 28)) (v_iv (n_v vs 29)) (v_iv (n_v vs 30)) (v_iv (n_v vs 31)) (v_iv (n_v vs 32)) (v_iv (n_v vs 33)) (v_iv (n_v vs 35)) (v_iv (n_v vs 36)) (v_iv (n_v vs 37)) (v_iv (n_v vs 38)) (v_iv (n_v vs 39)) (v_iv (n_v vs 40)) (v_iv (n_v vs 41)) (w_ei ws (w_ar ws (n_v vs 0) 1)) (w_fi ws (n_v vs 0) 10) (w_ei ws (w_ar ws (n_v vs 0) 162)) (w_fi ws (n_v vs 0) 158) (w_ei ws (w_ar ws (n_v vs 0) 163)) (w_ei ws (w_ar ws (n_v vs 0) 160)) (w_fi ws (n_v vs 0) 8) k2 k4 k5 k6 k8 k10 k11 k12 k14 k15 k16 k17 k18 k19 k21 k22 k23 k24 k25 k26 k28 k29 k30 k31 k32 k33 k35 k36 k37 k38 k39 k40 k41 d0 d1 d2 d3 d4 d5 d6 d7 (shm_37 f0) (shm_59 f1) (shm_60 f2) (shm_541 f3) (shm_542 f4) (shm_12 f5) h6 g7 (shm_6 f9) (shm_4 f10) (shm_37 f11) (shm_61 f12) (shm_62 f13) (shm_541 f14) (shm_542 f15) (shm_12 f16) h17 (shm_6 f18) (shm_4 f19) (shm_37 f20) (shm_57 f21) (shm_58 f22) (shm_541 f23) (shm_542 f24) (shm_12 f25) h26 (shm_6 f27) (shm_4 f28) (shm_37 f29) (shm_59 f30) (shm_60 f31) (shm_541 f32) (shm_542 f33) (shm_12 f34) h35 (shm_6 f36) (shm_37 f37) (shm_14 f38) h39 h40 (shm_37 f42) h43 (shm_192 f45) g46 hK_0_1 hK_0_160 hK_0_162 hK_0_163 kz_0_8 kz_0_10 kz_0_158)⟩
  have nf1 : fc_1 PRD (20, [0, 41], [60, 3, 4, 20, 8, 158, 10, 160, 162, 163, 1]) ws (vs) := ⟨nf_in hl rfl, sgq_1867 (vc_Mo_word_at_s5022_11_1 (v_iv (n_v vs 2)) (v_iv (n_v vs 4)) (v_iv (n_v vs 5)) (v_iv (n_v vs 8)) (v_iv (n_v vs 10)) (v_iv (n_v vs 11)) (v_iv (n_v vs 16)) (v_iv (n_v vs 17)) (v_iv (n_v vs 18)) (v_iv (n_v vs 19)) (v_iv (n_v vs 23)) (v_iv (n_v vs 24)) (v_iv (n_v vs 25)) (v_iv (n_v vs 26)) (v_iv (n_v vs 30)) (v_iv (n_v vs 31)) (v_iv (n_v vs 32)) (v_iv (n_v vs 33)) (v_iv (n_v vs 37)) (v_iv (n_v vs 38)) (v_iv (n_v vs 39)) (v_iv (n_v vs 40)) (v_iv (n_v vs 41)) (w_ei ws (w_ar ws (n_v vs 0) 1)) (w_fi ws (n_v vs 0) 10) (w_ei ws (w_ar ws (n_v vs 0) 162)) (w_fi ws (n_v vs 0) 158) (w_ei ws (w_ar ws (n_v vs 0) 163)) (w_ei ws (w_ar ws (n_v vs 0) 160)) (w_fi ws (n_v vs 0) 8) k2 k4 k5 k8 k10 k11 k16 k17 k18 k19 k23 k24 k25 k26 k30 k31 k32 k33 k37 k38 k39 k40 k41 d0 d1 d2 d3 d4 d5 d6 d7 (shm_59 f1) (shm_60 f2) (shm_541 f3) (shm_542 f4) h6 g7 (shm_61 f12) (shm_62 f13) (shm_541 f14) (shm_542 f15) h17 (shm_57 f21) (shm_58 f22) (shm_541 f23) (shm_542 f24) h26 (shm_59 f30) (shm_60 f31) (shm_541 f32) (shm_542 f33) h35 (shm_14 f38) h39 h40 h43 g46 kz_0_8 kz_0_10 kz_0_158)⟩
  refine ⟨(fun _ h => (by cases h)), [], trivial, ?_, (fun _ h => (by cases h))⟩
  rw [List.append_nil]
  exact List.forall_mem_cons.mpr ⟨⟨show (20 : Nat) < 100 from by decide, nf0⟩, List.forall_mem_cons.mpr ⟨⟨show (20 : Nat) < 100 from by decide, nf1⟩, (fun _ h => (by cases h))⟩⟩
def n_Mo_word_at_s5022_an : List an_T := []
def t_Mo_word_at_s5022_ct : ct_L := [(1, 425, e_Mo_byteAt), (124, 448, e_jStr_length_v566), (172, 448, e_jStr_length_v566), (253, 453, e_jStr_charAt_v567), (253, 453, e_jStr_charAt_v569), (253, 453, e_jStr_charAt_v571), (253, 453, e_jStr_charAt_v573)]
set_option maxRecDepth 100000 in
theorem c_Mo_word_at_s5022 {l : Launch} {D : va_G} {kA : Nat → ClassId} (h_Mo_byteAt : ct_ok PRD l D kA GG y_Mo_byteAt z_Mo_byteAt e_Mo_byteAt) : ct_ok PRD l D kA GG y_Mo_word_at_s5022 z_Mo_word_at_s5022 e_Mo_word_at_s5022 := chk_all_ok (FT := [(342, 13, 160), (348, 13, 162), (351, 13, 163), (413, 13, 8), (1169, 13, 158)]) (PT := []) (CT := t_Mo_word_at_s5022_ct) (KT := []) (NT := []) (AN := n_Mo_word_at_s5022_an) (OT := [o_Mo_word_at_s5022_0, o_Mo_word_at_s5022_1, o_Mo_word_at_s5022_2, o_Mo_word_at_s5022_3, o_Mo_word_at_s5022_4, o_Mo_word_at_s5022_5, o_Mo_word_at_s5022_6, o_Mo_word_at_s5022_7, o_Mo_word_at_s5022_8, o_Mo_word_at_s5022_9, o_Mo_word_at_s5022_10, o_Mo_word_at_s5022_11]) 0 1100 (List.forall_mem_cons.mpr ⟨oo_Mo_word_at_s5022_0, List.forall_mem_cons.mpr ⟨oo_Mo_word_at_s5022_1, List.forall_mem_cons.mpr ⟨oo_Mo_word_at_s5022_2, List.forall_mem_cons.mpr ⟨oo_Mo_word_at_s5022_3, List.forall_mem_cons.mpr ⟨oo_Mo_word_at_s5022_4, List.forall_mem_cons.mpr ⟨oo_Mo_word_at_s5022_5, List.forall_mem_cons.mpr ⟨oo_Mo_word_at_s5022_6, List.forall_mem_cons.mpr ⟨oo_Mo_word_at_s5022_7, List.forall_mem_cons.mpr ⟨oo_Mo_word_at_s5022_8, List.forall_mem_cons.mpr ⟨oo_Mo_word_at_s5022_9, List.forall_mem_cons.mpr ⟨oo_Mo_word_at_s5022_10, List.forall_mem_cons.mpr ⟨oo_Mo_word_at_s5022_11, List.forall_mem_nil _⟩⟩⟩⟩⟩⟩⟩⟩⟩⟩⟩⟩) (by decide +kernel) ⟨List.forall_mem_cons.mpr ⟨gf_Mo_342, List.forall_mem_cons.mpr ⟨gf_Mo_348, List.forall_mem_cons.mpr ⟨gf_Mo_351, List.forall_mem_cons.mpr ⟨gf_Mo_413, List.forall_mem_cons.mpr ⟨gf_Mo_1169, List.forall_mem_nil _⟩⟩⟩⟩⟩, List.forall_mem_nil _, List.forall_mem_cons.mpr ⟨cl_virtual (y := y_Mo_byteAt) (ci := 13) rfl rfl ⟨_, _, rfl⟩ (by decide +kernel) h_Mo_byteAt wm_2986 wm_9 wm_2983 wm_2985 wv_12_12 ⟨by decide, by decide, by decide +kernel⟩ (by decide), List.forall_mem_cons.mpr ⟨cl_string (y := y_jStr_length) (i := 22) rfl rfl (by decide +kernel) rfl c_jStr_length_v566 wm_674 wm_11 wm_3003 wm_672 wm_673 ⟨by decide, by decide, by decide +kernel⟩ (by decide), List.forall_mem_cons.mpr ⟨cl_string (y := y_jStr_length) (i := 22) rfl rfl (by decide +kernel) rfl c_jStr_length_v566 wm_674 wm_11 wm_3003 wm_672 wm_673 ⟨by decide, by decide, by decide +kernel⟩ (by decide), List.forall_mem_cons.mpr ⟨cl_string (y := y_jStr_charAt) (i := 22) rfl rfl (by decide +kernel) rfl c_jStr_charAt_v567 wm_684 wm_11 wm_3004 wm_682 wm_683 ⟨by decide, by decide, by decide +kernel⟩ (by decide), List.forall_mem_cons.mpr ⟨cl_string (y := y_jStr_charAt) (i := 22) rfl rfl (by decide +kernel) rfl c_jStr_charAt_v569 wm_684 wm_11 wm_3004 wm_682 wm_683 ⟨by decide, by decide, by decide +kernel⟩ (by decide), List.forall_mem_cons.mpr ⟨cl_string (y := y_jStr_charAt) (i := 22) rfl rfl (by decide +kernel) rfl c_jStr_charAt_v571 wm_684 wm_11 wm_3004 wm_682 wm_683 ⟨by decide, by decide, by decide +kernel⟩ (by decide), List.forall_mem_cons.mpr ⟨cl_string (y := y_jStr_charAt) (i := 22) rfl rfl (by decide +kernel) rfl c_jStr_charAt_v573 wm_684 wm_11 wm_3004 wm_682 wm_683 ⟨by decide, by decide, by decide +kernel⟩ (by decide), List.forall_mem_nil _⟩⟩⟩⟩⟩⟩⟩, List.forall_mem_nil _, List.forall_mem_nil _, GG_pl⟩ (by decide +kernel)
set_option maxHeartbeats 4000000 in
theorem vc_Mo_word_at_s5023_0_0 (x2 : Int) (x3 : Int) (fault_0 : Int) (tape_0 : Int → Int) (tokenKind_0 : Int → Int) (tokenPlace_0 : Int → Int) (tokenEnd_0 : Int → Int) (limit_0 : Int) (cur_0 : Int) (k2 : 1 ≤ x2 ∧ x2 ≤ 5) (k3 : 0 ≤ x3 ∧ x3 ≤ 0) (f0 : x3 = 0) (f1 : x2 ≠ 0) (g2 : x2 = fault_0) (hK_0_1 : ∀ j : Int, 0 ≤ j → j < 2000 → (-128) ≤ tape_0 j ∧ tape_0 j ≤ 127) (hK_0_160 : ∀ j : Int, 0 ≤ j → j < 2010 → 0 ≤ tokenKind_0 j ∧ tokenKind_0 j ≤ 4) (hK_0_162 : ∀ j : Int, 0 ≤ j → j < 2010 → 0 ≤ tokenPlace_0 j ∧ tokenPlace_0 j ≤ 2000) (hK_0_163 : ∀ j : Int, 0 ≤ j → j < 2010 → 0 ≤ tokenEnd_0 j ∧ tokenEnd_0 j ≤ 2000) (kz_0_8 : 0 ≤ fault_0 ∧ fault_0 ≤ 5) (kz_0_10 : 0 ≤ limit_0 ∧ limit_0 ≤ 2000) (kz_0_158 : 0 ≤ cur_0 ∧ cur_0 ≤ 2009) : (x3 = 1) → (tokenKind_0 (cur_0) = 1) := by
  first | assumption | (clear hK_0_1 hK_0_160 hK_0_162 hK_0_163; omega) | omega | grind
set_option maxHeartbeats 4000000 in
theorem vc_Mo_word_at_s5023_0_1 (x2 : Int) (x3 : Int) (fault_0 : Int) (tape_0 : Int → Int) (tokenKind_0 : Int → Int) (tokenPlace_0 : Int → Int) (tokenEnd_0 : Int → Int) (limit_0 : Int) (cur_0 : Int) (k2 : 1 ≤ x2 ∧ x2 ≤ 5) (k3 : 0 ≤ x3 ∧ x3 ≤ 0) (g2 : x2 = fault_0) (kz_0_8 : 0 ≤ fault_0 ∧ fault_0 ≤ 5) (kz_0_10 : 0 ≤ limit_0 ∧ limit_0 ≤ 2000) (kz_0_158 : 0 ≤ cur_0 ∧ cur_0 ≤ 2009) : Wqif (fault_0) (cur_0) (limit_0) (tokenKind_0) (tokenPlace_0) (tokenEnd_0) (tape_0) (x3) := by
  first
    | exact ⟨fun z => by omega, fun z => by have := z.1; omega⟩
    | (have e := (‹x4 = cur_0›)
       rw [← e]
       refine ⟨fun z => ⟨by omega, wdS2.2 ⟨by omega, by omega, by omega, by rw [show tokenPlace_0 x4 + 0 = x17 by omega]; omega, by rw [show tokenPlace_0 x4 + 1 = x24 by omega]; omega⟩⟩, fun z => by omega⟩)
    | (have e := (‹x4 = cur_0›)
       rw [← e]
       refine ⟨fun z => by omega, fun z => ?_⟩
       have w := wdS2.1 z.2
       try (have q0 : tokenPlace_0 x4 + 0 = x17 := (by omega); rw [q0] at w)
       try (have q1 : tokenPlace_0 x4 + 1 = x24 := (by omega); rw [q1] at w)
       omega)
  
def o_Mo_word_at_s5023_0 : or_T := (102, 6, [(0, (2, 0, 0, [165])), (2, (0, 1, 5, [])), (3, (0, 0, 0, []))], [(8, [3], [0]), (8, [2], [1]), (9, [2, 0], [8])], [], [], [(20, [3, 0], [50, 1, 1, 1158, 1160, 4, 6, 1, 2, 1, 0, 0, 1, 1, 6, 3, 1, 160, 2, 1, 158, 0, 1]), (20, [0, 3], [60, 3, 4, 21, 8, 158, 10, 160, 162, 163, 1])], [], [])
theorem oo_Mo_word_at_s5023_0 {kA : Nat → ClassId} : or_ok PRD kA GG o_Mo_word_at_s5023_0 := by
  refine or_mk fun A ta ws vs hD hth hl => ?_
  intro t0 r0 t2 k2 t3 k3 f0 f1 f2
  replace f2 := shm_293 f2
  have cr_0_1 := fdq_39 hD hth r0
  have cr_0_160 := fdq_33 hD hth r0
  have cr_0_162 := fdq_41 hD hth r0
  have cr_0_163 := fdq_42 hD hth r0
  have g2 : v_iv (n_v vs 2) = w_fi ws (n_v vs 0) 8 := congrArg v_iv f2
  have hK_0_1 := elq_7 hD hth cr_0_1
  have hK_0_160 := elq_6 hD hth cr_0_160
  have hK_0_162 := elq_8 hD hth cr_0_162
  have hK_0_163 := elq_9 hD hth cr_0_163
  have kz_0_8 := fdq_34 hD hth r0
  have kz_0_10 := fdq_43 hD hth r0
  have kz_0_158 := fdq_36 hD hth r0
  have nf0 : fc_1 PRD (20, [3, 0], [50, 1, 1, 1158, 1160, 4, 6, 1, 2, 1, 0, 0, 1, 1, 6, 3, 1, 160, 2, 1, 158, 0, 1]) ws (vs) := ⟨nf_in hl rfl, sgq_287 (vc_Mo_word_at_s5023_0_0 (v_iv (n_v vs 2)) (v_iv (n_v vs 3)) (w_fi ws (n_v vs 0) 8) (w_ei ws (w_ar ws (n_v vs 0) 1)) (w_ei ws (w_ar ws (n_v vs 0) 160)) (w_ei ws (w_ar ws (n_v vs 0) 162)) (w_ei ws (w_ar ws (n_v vs 0) 163)) (w_fi ws (n_v vs 0) 10) (w_fi ws (n_v vs 0) 158) k2 k3 (shm_192 f0) (shm_142 f1) g2 hK_0_1 hK_0_160 hK_0_162 hK_0_163 kz_0_8 kz_0_10 kz_0_158)⟩
  have nf1 : fc_1 PRD (20, [0, 3], [60, 3, 4, 21, 8, 158, 10, 160, 162, 163, 1]) ws (vs) := ⟨nf_in hl rfl, sgq_1868 (vc_Mo_word_at_s5023_0_1 (v_iv (n_v vs 2)) (v_iv (n_v vs 3)) (w_fi ws (n_v vs 0) 8) (w_ei ws (w_ar ws (n_v vs 0) 1)) (w_ei ws (w_ar ws (n_v vs 0) 160)) (w_ei ws (w_ar ws (n_v vs 0) 162)) (w_ei ws (w_ar ws (n_v vs 0) 163)) (w_fi ws (n_v vs 0) 10) (w_fi ws (n_v vs 0) 158) k2 k3 g2 kz_0_8 kz_0_10 kz_0_158)⟩
  refine ⟨(fun _ h => (by cases h)), [], trivial, ?_, (fun _ h => (by cases h))⟩
  rw [List.append_nil]
  exact List.forall_mem_cons.mpr ⟨⟨show (20 : Nat) < 100 from by decide, nf0⟩, List.forall_mem_cons.mpr ⟨⟨show (20 : Nat) < 100 from by decide, nf1⟩, (fun _ h => (by cases h))⟩⟩
set_option maxHeartbeats 4000000 in
theorem vc_Mo_word_at_s5023_1_0 (x2 : Int) (x4 : Int) (x5 : Int) (x6 : Int) (x7 : Int) (tokenKind_0 : Int → Int) (cur_0 : Int) (fault_0 : Int) (tape_0 : Int → Int) (tokenPlace_0 : Int → Int) (tokenEnd_0 : Int → Int) (limit_0 : Int) (k2 : 0 ≤ x2 ∧ x2 ≤ 0) (k4 : 0 ≤ x4 ∧ x4 ≤ 2009) (k5 : 0 ≤ x5 ∧ x5 ≤ 4) (k6 : 1 ≤ x6 ∧ x6 ≤ 1) (k7 : 0 ≤ x7 ∧ x7 ≤ 0) (f0 : x7 = 0) (f1 : x5 ≠ x6) (h2 : x5 = tokenKind_0 (x4)) (g3 : x4 = cur_0) (f5 : x2 = 0) (g6 : x2 = fault_0) (hK_0_1 : ∀ j : Int, 0 ≤ j → j < 2000 → (-128) ≤ tape_0 j ∧ tape_0 j ≤ 127) (hK_0_160 : ∀ j : Int, 0 ≤ j → j < 2010 → 0 ≤ tokenKind_0 j ∧ tokenKind_0 j ≤ 4) (hK_0_162 : ∀ j : Int, 0 ≤ j → j < 2010 → 0 ≤ tokenPlace_0 j ∧ tokenPlace_0 j ≤ 2000) (hK_0_163 : ∀ j : Int, 0 ≤ j → j < 2010 → 0 ≤ tokenEnd_0 j ∧ tokenEnd_0 j ≤ 2000) (kz_0_8 : 0 ≤ fault_0 ∧ fault_0 ≤ 5) (kz_0_10 : 0 ≤ limit_0 ∧ limit_0 ≤ 2000) (kz_0_158 : 0 ≤ cur_0 ∧ cur_0 ≤ 2009) : (x7 = 1) → (tokenKind_0 (cur_0) = 1) := by
  first | assumption | (clear hK_0_1 hK_0_160 hK_0_162 hK_0_163; omega) | omega | grind
set_option maxHeartbeats 4000000 in
theorem vc_Mo_word_at_s5023_1_1 (x4 : Int) (x5 : Int) (x6 : Int) (x7 : Int) (tokenKind_0 : Int → Int) (cur_0 : Int) (fault_0 : Int) (tape_0 : Int → Int) (tokenPlace_0 : Int → Int) (tokenEnd_0 : Int → Int) (limit_0 : Int) (k4 : 0 ≤ x4 ∧ x4 ≤ 2009) (k5 : 0 ≤ x5 ∧ x5 ≤ 4) (k6 : 1 ≤ x6 ∧ x6 ≤ 1) (k7 : 0 ≤ x7 ∧ x7 ≤ 0) (f1 : x5 ≠ x6) (h2 : x5 = tokenKind_0 (x4)) (g3 : x4 = cur_0) (kz_0_8 : 0 ≤ fault_0 ∧ fault_0 ≤ 5) (kz_0_10 : 0 ≤ limit_0 ∧ limit_0 ≤ 2000) (kz_0_158 : 0 ≤ cur_0 ∧ cur_0 ≤ 2009) : Wqif (fault_0) (cur_0) (limit_0) (tokenKind_0) (tokenPlace_0) (tokenEnd_0) (tape_0) (x7) := by
  first
    | exact ⟨fun z => by omega, fun z => by have := z.1; omega⟩
    | (have e := (‹x4 = cur_0›)
       rw [← e]
       refine ⟨fun z => ⟨by omega, wdS2.2 ⟨by omega, by omega, by omega, by rw [show tokenPlace_0 x4 + 0 = x17 by omega]; omega, by rw [show tokenPlace_0 x4 + 1 = x24 by omega]; omega⟩⟩, fun z => by omega⟩)
    | (have e := (‹x4 = cur_0›)
       rw [← e]
       refine ⟨fun z => by omega, fun z => ?_⟩
       have w := wdS2.1 z.2
       try (have q0 : tokenPlace_0 x4 + 0 = x17 := (by omega); rw [q0] at w)
       try (have q1 : tokenPlace_0 x4 + 1 = x24 := (by omega); rw [q1] at w)
       omega)
  
def o_Mo_word_at_s5023_1 : or_T := (102, 10, [(0, (2, 0, 0, [165])), (2, (0, 0, 0, [])), (4, (0, 0, 2009, [])), (5, (0, 0, 4, [])), (6, (0, 1, 1, [])), (7, (0, 0, 0, []))], [(8, [7], [0]), (7, [5, 6], [1]), (10, [5, 3, 4], []), (9, [4, 0], [158]), (9, [3, 0], [160]), (8, [2], [0]), (9, [2, 0], [8])], [], [], [(20, [7, 0], [50, 1, 1, 1158, 1160, 4, 6, 1, 2, 1, 0, 0, 1, 1, 6, 3, 1, 160, 2, 1, 158, 0, 1]), (20, [0, 7], [60, 3, 4, 21, 8, 158, 10, 160, 162, 163, 1])], [], [])
theorem oo_Mo_word_at_s5023_1 {kA : Nat → ClassId} : or_ok PRD kA GG o_Mo_word_at_s5023_1 := by
  refine or_mk fun A ta ws vs hD hth hl => ?_
  intro t0 r0 t2 k2 t4 k4 t5 k5 t6 k6 t7 k7 f0 f1 f2 f3 f4 f5 f6
  replace f2 := shm_107 f2
  replace f3 := shm_286 f3
  replace f4 := shm_327 f4
  replace f6 := shm_293 f6
  have cr_0_1 := fdq_39 hD hth r0
  have cr_0_160 := fdq_33 hD hth r0
  have cr_0_162 := fdq_41 hD hth r0
  have cr_0_163 := fdq_42 hD hth r0
  have ad_3 : v_ad (n_v vs 3) = w_ar ws (n_v vs 0) 160 := congrArg v_ad f4
  simp only [ad_3] at f2
  have h2 : v_iv (n_v vs 5) = w_ei ws (w_ar ws (n_v vs 0) 160) (v_iv (n_v vs 4)) := f2
  have g3 : v_iv (n_v vs 4) = w_fi ws (n_v vs 0) 158 := congrArg v_iv f3
  have g6 : v_iv (n_v vs 2) = w_fi ws (n_v vs 0) 8 := congrArg v_iv f6
  have hK_0_1 := elq_7 hD hth cr_0_1
  have hK_0_160 := elq_6 hD hth cr_0_160
  have hK_0_162 := elq_8 hD hth cr_0_162
  have hK_0_163 := elq_9 hD hth cr_0_163
  have kz_0_8 := fdq_34 hD hth r0
  have kz_0_10 := fdq_43 hD hth r0
  have kz_0_158 := fdq_36 hD hth r0
  have nf0 : fc_1 PRD (20, [7, 0], [50, 1, 1, 1158, 1160, 4, 6, 1, 2, 1, 0, 0, 1, 1, 6, 3, 1, 160, 2, 1, 158, 0, 1]) ws (vs) := ⟨nf_in hl rfl, sgq_287 (vc_Mo_word_at_s5023_1_0 (v_iv (n_v vs 2)) (v_iv (n_v vs 4)) (v_iv (n_v vs 5)) (v_iv (n_v vs 6)) (v_iv (n_v vs 7)) (w_ei ws (w_ar ws (n_v vs 0) 160)) (w_fi ws (n_v vs 0) 158) (w_fi ws (n_v vs 0) 8) (w_ei ws (w_ar ws (n_v vs 0) 1)) (w_ei ws (w_ar ws (n_v vs 0) 162)) (w_ei ws (w_ar ws (n_v vs 0) 163)) (w_fi ws (n_v vs 0) 10) k2 k4 k5 k6 k7 (shm_192 f0) (shm_40 f1) h2 g3 (shm_192 f5) g6 hK_0_1 hK_0_160 hK_0_162 hK_0_163 kz_0_8 kz_0_10 kz_0_158)⟩
  have nf1 : fc_1 PRD (20, [0, 7], [60, 3, 4, 21, 8, 158, 10, 160, 162, 163, 1]) ws (vs) := ⟨nf_in hl rfl, sgq_1868 (vc_Mo_word_at_s5023_1_1 (v_iv (n_v vs 4)) (v_iv (n_v vs 5)) (v_iv (n_v vs 6)) (v_iv (n_v vs 7)) (w_ei ws (w_ar ws (n_v vs 0) 160)) (w_fi ws (n_v vs 0) 158) (w_fi ws (n_v vs 0) 8) (w_ei ws (w_ar ws (n_v vs 0) 1)) (w_ei ws (w_ar ws (n_v vs 0) 162)) (w_ei ws (w_ar ws (n_v vs 0) 163)) (w_fi ws (n_v vs 0) 10) k4 k5 k6 k7 (shm_40 f1) h2 g3 kz_0_8 kz_0_10 kz_0_158)⟩
  refine ⟨(fun _ h => (by cases h)), [], trivial, ?_, (fun _ h => (by cases h))⟩
  rw [List.append_nil]
  exact List.forall_mem_cons.mpr ⟨⟨show (20 : Nat) < 100 from by decide, nf0⟩, List.forall_mem_cons.mpr ⟨⟨show (20 : Nat) < 100 from by decide, nf1⟩, (fun _ h => (by cases h))⟩⟩
set_option maxHeartbeats 4000000 in
theorem vc_Mo_word_at_s5023_2_0 (x2 : Int) (x4 : Int) (x5 : Int) (x6 : Int) (x8 : Int) (x10 : Int) (x11 : Int) (x12 : Int) (x13 : Int) (tokenPlace_0 : Int → Int) (cur_0 : Int) (tokenEnd_0 : Int → Int) (tokenKind_0 : Int → Int) (fault_0 : Int) (tape_0 : Int → Int) (limit_0 : Int) (k2 : 0 ≤ x2 ∧ x2 ≤ 0) (k4 : 0 ≤ x4 ∧ x4 ≤ 2009) (k5 : 1 ≤ x5 ∧ x5 ≤ 1) (k6 : 1 ≤ x6 ∧ x6 ≤ 1) (k8 : 0 ≤ x8 ∧ x8 ≤ 2000) (k10 : 0 ≤ x10 ∧ x10 ≤ 2000) (k11 : (-2000) ≤ x11 ∧ x11 ≤ 2000) (k12 : 2 ≤ x12 ∧ x12 ≤ 2) (k13 : 0 ≤ x13 ∧ x13 ≤ 0) (d0 : x8 + (-2000) ≤ x11 ∧ x11 ≤ x8 + 0) (f0 : x13 = 0) (f1 : x11 ≠ x12) (f2 : x11 = x8 - x10) (h3 : x10 = tokenPlace_0 (x4)) (g4 : x4 = cur_0) (h6 : x8 = tokenEnd_0 (x4)) (f8 : x5 = x6) (h9 : x5 = tokenKind_0 (x4)) (f11 : x2 = 0) (g12 : x2 = fault_0) (hK_0_1 : ∀ j : Int, 0 ≤ j → j < 2000 → (-128) ≤ tape_0 j ∧ tape_0 j ≤ 127) (hK_0_160 : ∀ j : Int, 0 ≤ j → j < 2010 → 0 ≤ tokenKind_0 j ∧ tokenKind_0 j ≤ 4) (hK_0_162 : ∀ j : Int, 0 ≤ j → j < 2010 → 0 ≤ tokenPlace_0 j ∧ tokenPlace_0 j ≤ 2000) (hK_0_163 : ∀ j : Int, 0 ≤ j → j < 2010 → 0 ≤ tokenEnd_0 j ∧ tokenEnd_0 j ≤ 2000) (kz_0_8 : 0 ≤ fault_0 ∧ fault_0 ≤ 5) (kz_0_10 : 0 ≤ limit_0 ∧ limit_0 ≤ 2000) (kz_0_158 : 0 ≤ cur_0 ∧ cur_0 ≤ 2009) : (x13 = 1) → (tokenKind_0 (cur_0) = 1) := by
  first | assumption | (clear hK_0_1 hK_0_160 hK_0_162 hK_0_163; omega) | omega | grind
set_option maxHeartbeats 4000000 in
theorem vc_Mo_word_at_s5023_2_1 (x4 : Int) (x8 : Int) (x10 : Int) (x11 : Int) (x12 : Int) (x13 : Int) (tokenPlace_0 : Int → Int) (cur_0 : Int) (tokenEnd_0 : Int → Int) (tokenKind_0 : Int → Int) (fault_0 : Int) (tape_0 : Int → Int) (limit_0 : Int) (k4 : 0 ≤ x4 ∧ x4 ≤ 2009) (k8 : 0 ≤ x8 ∧ x8 ≤ 2000) (k10 : 0 ≤ x10 ∧ x10 ≤ 2000) (k11 : (-2000) ≤ x11 ∧ x11 ≤ 2000) (k12 : 2 ≤ x12 ∧ x12 ≤ 2) (k13 : 0 ≤ x13 ∧ x13 ≤ 0) (f1 : x11 ≠ x12) (f2 : x11 = x8 - x10) (h3 : x10 = tokenPlace_0 (x4)) (g4 : x4 = cur_0) (h6 : x8 = tokenEnd_0 (x4)) (kz_0_8 : 0 ≤ fault_0 ∧ fault_0 ≤ 5) (kz_0_10 : 0 ≤ limit_0 ∧ limit_0 ≤ 2000) (kz_0_158 : 0 ≤ cur_0 ∧ cur_0 ≤ 2009) : Wqif (fault_0) (cur_0) (limit_0) (tokenKind_0) (tokenPlace_0) (tokenEnd_0) (tape_0) (x13) := by
  first
    | exact ⟨fun z => by omega, fun z => by have := z.1; omega⟩
    | (have e := (‹x4 = cur_0›)
       rw [← e]
       refine ⟨fun z => ⟨by omega, wdS2.2 ⟨by omega, by omega, by omega, by rw [show tokenPlace_0 x4 + 0 = x17 by omega]; omega, by rw [show tokenPlace_0 x4 + 1 = x24 by omega]; omega⟩⟩, fun z => by omega⟩)
    | (have e := (‹x4 = cur_0›)
       rw [← e]
       refine ⟨fun z => by omega, fun z => ?_⟩
       have w := wdS2.1 z.2
       try (have q0 : tokenPlace_0 x4 + 0 = x17 := (by omega); rw [q0] at w)
       try (have q1 : tokenPlace_0 x4 + 1 = x24 := (by omega); rw [q1] at w)
       omega)
  
def o_Mo_word_at_s5023_2 : or_T := (102, 16, [(0, (2, 0, 0, [165])), (2, (0, 0, 0, [])), (4, (0, 0, 2009, [])), (5, (0, 1, 1, [])), (6, (0, 1, 1, [])), (8, (0, 0, 2000, [])), (10, (0, 0, 2000, [])), (11, (0, -2000, 2000, [])), (12, (0, 2, 2, [])), (13, (0, 0, 0, []))], [(8, [13], [0]), (7, [11, 12], [1]), (2, [11, 8, 10], []), (10, [10, 9, 4], []), (9, [4, 0], [158]), (9, [9, 0], [162]), (10, [8, 7, 4], []), (9, [7, 0], [163]), (7, [5, 6], [0]), (10, [5, 3, 4], []), (9, [3, 0], [160]), (8, [2], [0]), (9, [2, 0], [8])], [], [], [(20, [13, 0], [50, 1, 1, 1158, 1160, 4, 6, 1, 2, 1, 0, 0, 1, 1, 6, 3, 1, 160, 2, 1, 158, 0, 1]), (20, [0, 13], [60, 3, 4, 21, 8, 158, 10, 160, 162, 163, 1])], [], [(11, 8, -2000, 0)])
theorem oo_Mo_word_at_s5023_2 {kA : Nat → ClassId} : or_ok PRD kA GG o_Mo_word_at_s5023_2 := by
  refine or_mk fun A ta ws vs hD hth hl => ?_
  intro t0 r0 t2 k2 t4 k4 t5 k5 t6 k6 t8 k8 t10 k10 t11 k11 t12 k12 t13 k13 d0 f0 f1 f2 f3 f4 f5 f6 f7 f8 f9 f10 f11 f12
  replace f3 := shm_107 f3
  replace f4 := shm_286 f4
  replace f5 := shm_301 f5
  replace f6 := shm_107 f6
  replace f7 := shm_1332 f7
  replace f9 := shm_107 f9
  replace f10 := shm_327 f10
  replace f12 := shm_293 f12
  have cr_0_1 := fdq_39 hD hth r0
  have cr_0_160 := fdq_33 hD hth r0
  have cr_0_162 := fdq_41 hD hth r0
  have cr_0_163 := fdq_42 hD hth r0
  have ad_9 : v_ad (n_v vs 9) = w_ar ws (n_v vs 0) 162 := congrArg v_ad f5
  have ad_7 : v_ad (n_v vs 7) = w_ar ws (n_v vs 0) 163 := congrArg v_ad f7
  have ad_3 : v_ad (n_v vs 3) = w_ar ws (n_v vs 0) 160 := congrArg v_ad f10
  simp only [ad_9] at f3
  have h3 : v_iv (n_v vs 10) = w_ei ws (w_ar ws (n_v vs 0) 162) (v_iv (n_v vs 4)) := f3
  have g4 : v_iv (n_v vs 4) = w_fi ws (n_v vs 0) 158 := congrArg v_iv f4
  simp only [ad_7] at f6
  have h6 : v_iv (n_v vs 8) = w_ei ws (w_ar ws (n_v vs 0) 163) (v_iv (n_v vs 4)) := f6
  simp only [ad_3] at f9
  have h9 : v_iv (n_v vs 5) = w_ei ws (w_ar ws (n_v vs 0) 160) (v_iv (n_v vs 4)) := f9
  have g12 : v_iv (n_v vs 2) = w_fi ws (n_v vs 0) 8 := congrArg v_iv f12
  have hK_0_1 := elq_7 hD hth cr_0_1
  have hK_0_160 := elq_6 hD hth cr_0_160
  have hK_0_162 := elq_8 hD hth cr_0_162
  have hK_0_163 := elq_9 hD hth cr_0_163
  have kz_0_8 := fdq_34 hD hth r0
  have kz_0_10 := fdq_43 hD hth r0
  have kz_0_158 := fdq_36 hD hth r0
  have nf0 : fc_1 PRD (20, [13, 0], [50, 1, 1, 1158, 1160, 4, 6, 1, 2, 1, 0, 0, 1, 1, 6, 3, 1, 160, 2, 1, 158, 0, 1]) ws (vs) := ⟨nf_in hl rfl, sgq_287 (vc_Mo_word_at_s5023_2_0 (v_iv (n_v vs 2)) (v_iv (n_v vs 4)) (v_iv (n_v vs 5)) (v_iv (n_v vs 6)) (v_iv (n_v vs 8)) (v_iv (n_v vs 10)) (v_iv (n_v vs 11)) (v_iv (n_v vs 12)) (v_iv (n_v vs 13)) (w_ei ws (w_ar ws (n_v vs 0) 162)) (w_fi ws (n_v vs 0) 158) (w_ei ws (w_ar ws (n_v vs 0) 163)) (w_ei ws (w_ar ws (n_v vs 0) 160)) (w_fi ws (n_v vs 0) 8) (w_ei ws (w_ar ws (n_v vs 0) 1)) (w_fi ws (n_v vs 0) 10) k2 k4 k5 k6 k8 k10 k11 k12 k13 d0 (shm_192 f0) (shm_40 f1) (shm_14 f2) h3 g4 h6 (shm_37 f8) h9 (shm_192 f11) g12 hK_0_1 hK_0_160 hK_0_162 hK_0_163 kz_0_8 kz_0_10 kz_0_158)⟩
  have nf1 : fc_1 PRD (20, [0, 13], [60, 3, 4, 21, 8, 158, 10, 160, 162, 163, 1]) ws (vs) := ⟨nf_in hl rfl, sgq_1868 (vc_Mo_word_at_s5023_2_1 (v_iv (n_v vs 4)) (v_iv (n_v vs 8)) (v_iv (n_v vs 10)) (v_iv (n_v vs 11)) (v_iv (n_v vs 12)) (v_iv (n_v vs 13)) (w_ei ws (w_ar ws (n_v vs 0) 162)) (w_fi ws (n_v vs 0) 158) (w_ei ws (w_ar ws (n_v vs 0) 163)) (w_ei ws (w_ar ws (n_v vs 0) 160)) (w_fi ws (n_v vs 0) 8) (w_ei ws (w_ar ws (n_v vs 0) 1)) (w_fi ws (n_v vs 0) 10) k4 k8 k10 k11 k12 k13 (shm_40 f1) (shm_14 f2) h3 g4 h6 kz_0_8 kz_0_10 kz_0_158)⟩
  refine ⟨(fun _ h => (by cases h)), [], trivial, ?_, (fun _ h => (by cases h))⟩
  rw [List.append_nil]
  exact List.forall_mem_cons.mpr ⟨⟨show (20 : Nat) < 100 from by decide, nf0⟩, List.forall_mem_cons.mpr ⟨⟨show (20 : Nat) < 100 from by decide, nf1⟩, (fun _ h => (by cases h))⟩⟩
set_option maxHeartbeats 4000000 in
theorem vc_Mo_word_at_s5023_3_0 (x2 : Int) (x4 : Int) (x5 : Int) (x6 : Int) (x8 : Int) (x10 : Int) (x11 : Int) (x12 : Int) (x14 : Int) (x15 : Int) (x16 : Int) (x17 : Int) (x18 : Int) (x19 : Int) (x20 : Int) (tape_0 : Int → Int) (limit_0 : Int) (tokenPlace_0 : Int → Int) (cur_0 : Int) (tokenEnd_0 : Int → Int) (tokenKind_0 : Int → Int) (fault_0 : Int) (k2 : 0 ≤ x2 ∧ x2 ≤ 0) (k4 : 0 ≤ x4 ∧ x4 ≤ 2009) (k5 : 1 ≤ x5 ∧ x5 ≤ 1) (k6 : 1 ≤ x6 ∧ x6 ≤ 1) (k8 : 2 ≤ x8 ∧ x8 ≤ 2000) (k10 : 0 ≤ x10 ∧ x10 ≤ 2000) (k11 : 2 ≤ x11 ∧ x11 ≤ 2) (k12 : 2 ≤ x12 ∧ x12 ≤ 2) (k14 : 0 ≤ x14 ∧ x14 ≤ 0) (k15 : 2 ≤ x15 ∧ x15 ≤ 2) (k16 : 0 ≤ x16 ∧ x16 ≤ 2000) (k17 : 0 ≤ x17 ∧ x17 ≤ 2000) (k18 : (-1) ≤ x18 ∧ x18 ≤ (-1)) (k19 : 0 ≤ x19 ∧ x19 ≤ 65535) (k20 : 0 ≤ x20 ∧ x20 ≤ 0) (d0 : x16 + 0 ≤ x17 ∧ x17 ≤ x16 + 0) (f0 : x20 = 0) (f1 : x18 ≠ x19) (f2 : 1 * x19 + 0 ≤ 105) (f3 : (-1) * x19 + 0 ≤ (-105)) (f4 : ((x17 + 1) ≤ limit_0) → (x18 = (tape_0 (x17) % 256))) (f5 : (limit_0 ≤ x17) → (x18 = (-1))) (f6 : x17 = x16 + x14) (h7 : x16 = tokenPlace_0 (x4)) (g8 : x4 = cur_0) (f10 : x14 < x15) (f11 : x11 = x12) (f12 : x11 = x8 - x10) (h13 : x10 = tokenPlace_0 (x4)) (h14 : x8 = tokenEnd_0 (x4)) (f16 : x5 = x6) (h17 : x5 = tokenKind_0 (x4)) (f19 : x2 = 0) (g20 : x2 = fault_0) (hK_0_1 : ∀ j : Int, 0 ≤ j → j < 2000 → (-128) ≤ tape_0 j ∧ tape_0 j ≤ 127) (hK_0_160 : ∀ j : Int, 0 ≤ j → j < 2010 → 0 ≤ tokenKind_0 j ∧ tokenKind_0 j ≤ 4) (hK_0_162 : ∀ j : Int, 0 ≤ j → j < 2010 → 0 ≤ tokenPlace_0 j ∧ tokenPlace_0 j ≤ 2000) (hK_0_163 : ∀ j : Int, 0 ≤ j → j < 2010 → 0 ≤ tokenEnd_0 j ∧ tokenEnd_0 j ≤ 2000) (kz_0_8 : 0 ≤ fault_0 ∧ fault_0 ≤ 5) (kz_0_10 : 0 ≤ limit_0 ∧ limit_0 ≤ 2000) (kz_0_158 : 0 ≤ cur_0 ∧ cur_0 ≤ 2009) : (x20 = 1) → (tokenKind_0 (cur_0) = 1) := by
  first | assumption | (clear f4 f5 hK_0_1 hK_0_160 hK_0_162 hK_0_163; omega) | (clear hK_0_1 hK_0_160 hK_0_162 hK_0_163; grind) | omega | grind
set_option maxHeartbeats 4000000 in
theorem vc_Mo_word_at_s5023_3_1 (x4 : Int) (x8 : Int) (x10 : Int) (x11 : Int) (x16 : Int) (x17 : Int) (x18 : Int) (x20 : Int) (tape_0 : Int → Int) (limit_0 : Int) (tokenPlace_0 : Int → Int) (cur_0 : Int) (tokenEnd_0 : Int → Int) (tokenKind_0 : Int → Int) (fault_0 : Int) (k4 : 0 ≤ x4 ∧ x4 ≤ 2009) (k8 : 2 ≤ x8 ∧ x8 ≤ 2000) (k10 : 0 ≤ x10 ∧ x10 ≤ 2000) (k11 : 2 ≤ x11 ∧ x11 ≤ 2) (k16 : 0 ≤ x16 ∧ x16 ≤ 2000) (k17 : 0 ≤ x17 ∧ x17 ≤ 2000) (k18 : (-1) ≤ x18 ∧ x18 ≤ (-1)) (k20 : 0 ≤ x20 ∧ x20 ≤ 0) (d0 : x16 + 0 ≤ x17 ∧ x17 ≤ x16 + 0) (f4 : ((x17 + 1) ≤ limit_0) → (x18 = (tape_0 (x17) % 256))) (f5 : (limit_0 ≤ x17) → (x18 = (-1))) (h7 : x16 = tokenPlace_0 (x4)) (g8 : x4 = cur_0) (f12 : x11 = x8 - x10) (h13 : x10 = tokenPlace_0 (x4)) (h14 : x8 = tokenEnd_0 (x4)) (kz_0_8 : 0 ≤ fault_0 ∧ fault_0 ≤ 5) (kz_0_10 : 0 ≤ limit_0 ∧ limit_0 ≤ 2000) (kz_0_158 : 0 ≤ cur_0 ∧ cur_0 ≤ 2009) : Wqif (fault_0) (cur_0) (limit_0) (tokenKind_0) (tokenPlace_0) (tokenEnd_0) (tape_0) (x20) := by
  first
    | exact ⟨fun z => by omega, fun z => by have := z.1; omega⟩
    | (have e := (‹x4 = cur_0›)
       rw [← e]
       refine ⟨fun z => ⟨by omega, wdS2.2 ⟨by omega, by omega, by omega, by rw [show tokenPlace_0 x4 + 0 = x17 by omega]; omega, by rw [show tokenPlace_0 x4 + 1 = x24 by omega]; omega⟩⟩, fun z => by omega⟩)
    | (have e := (‹x4 = cur_0›)
       rw [← e]
       refine ⟨fun z => by omega, fun z => ?_⟩
       have w := wdS2.1 z.2
       try (have q0 : tokenPlace_0 x4 + 0 = x17 := (by omega); rw [q0] at w)
       try (have q1 : tokenPlace_0 x4 + 1 = x24 := (by omega); rw [q1] at w)
       omega)
  
def o_Mo_word_at_s5023_3 : or_T := (102, 23, [(0, (2, 0, 0, [165])), (2, (0, 0, 0, [])), (3, (2, 0, 0, [274])), (4, (0, 0, 2009, [])), (5, (0, 1, 1, [])), (6, (0, 1, 1, [])), (7, (2, 0, 0, [277])), (8, (0, 2, 2000, [])), (9, (2, 0, 0, [276])), (10, (0, 0, 2000, [])), (11, (0, 2, 2, [])), (12, (0, 2, 2, [])), (14, (0, 0, 0, [])), (15, (0, 2, 2, [])), (16, (0, 0, 2000, [])), (17, (0, 0, 2000, [])), (18, (0, -1, -1, [])), (19, (0, 0, 65535, [])), (20, (0, 0, 0, []))], [(8, [20], [0]), (7, [18, 19], [1]), (23, [19], [105, 1]), (23, [19], [-105, -1]), (20, [17, 0, 18], [50, 1, 1, 1010, 1001, 4, 11, 0, 6, 4, 2, 1, 0, 0, 1, 2, 1, 10, 1, 2, 1, 2, 9, 5, 3, 1, 1, 1, 0, 0, 256]), (20, [0, 17, 18], [50, 1, 0, 10, 4, 7, 0, 3, 2, 0, 10, 1, 1, 1, 2, 1, 2, 0, -1]), (1, [17, 16, 14], []), (10, [16, 9, 4], []), (9, [4, 0], [158]), (9, [9, 0], [162]), (7, [14, 15], [2]), (7, [11, 12], [0]), (2, [11, 8, 10], []), (10, [10, 9, 4], []), (10, [8, 7, 4], []), (9, [7, 0], [163]), (7, [5, 6], [0]), (10, [5, 3, 4], []), (9, [3, 0], [160]), (8, [2], [0]), (9, [2, 0], [8])], [], [], [(20, [20, 0], [50, 1, 1, 1158, 1160, 4, 6, 1, 2, 1, 0, 0, 1, 1, 6, 3, 1, 160, 2, 1, 158, 0, 1]), (20, [0, 20], [60, 3, 4, 21, 8, 158, 10, 160, 162, 163, 1])], [], [(17, 16, 0, 0)])
theorem oo_Mo_word_at_s5023_3 {kA : Nat → ClassId} : or_ok PRD kA GG o_Mo_word_at_s5023_3 := by
  refine or_mk fun A ta ws vs hD hth hl => ?_
  intro t0 r0 t2 k2 t3 r3 t4 k4 t5 k5 t6 k6 t7 r7 t8 k8 t9 r9 t10 k10 t11 k11 t12 k12 t14 k14 t15 k15 t16 k16 t17 k17 t18 k18 t19 k19 t20 k20 d0 f0 f1 f2 f3 f4 f5 f6 f7 f8 f9 f10 f11 f12 f13 f14 f15 f16 f17 f18 f19 f20
  replace f7 := shm_107 f7
  replace f8 := shm_286 f8
  replace f9 := shm_301 f9
  replace f13 := shm_107 f13
  replace f14 := shm_107 f14
  replace f15 := shm_1332 f15
  replace f17 := shm_107 f17
  replace f18 := shm_327 f18
  replace f20 := shm_293 f20
  have cr_0_1 := fdq_39 hD hth r0
  have cr_0_160 := fdq_33 hD hth r0
  have cr_0_162 := fdq_41 hD hth r0
  have cr_0_163 := fdq_42 hD hth r0
  have ad_9 : v_ad (n_v vs 9) = w_ar ws (n_v vs 0) 162 := congrArg v_ad f9
  have ad_7 : v_ad (n_v vs 7) = w_ar ws (n_v vs 0) 163 := congrArg v_ad f15
  have ad_3 : v_ad (n_v vs 3) = w_ar ws (n_v vs 0) 160 := congrArg v_ad f18
  simp only [ad_9] at f7
  have h7 : v_iv (n_v vs 16) = w_ei ws (w_ar ws (n_v vs 0) 162) (v_iv (n_v vs 4)) := f7
  have g8 : v_iv (n_v vs 4) = w_fi ws (n_v vs 0) 158 := congrArg v_iv f8
  simp only [ad_9] at f13
  have h13 : v_iv (n_v vs 10) = w_ei ws (w_ar ws (n_v vs 0) 162) (v_iv (n_v vs 4)) := f13
  simp only [ad_7] at f14
  have h14 : v_iv (n_v vs 8) = w_ei ws (w_ar ws (n_v vs 0) 163) (v_iv (n_v vs 4)) := f14
  simp only [ad_3] at f17
  have h17 : v_iv (n_v vs 5) = w_ei ws (w_ar ws (n_v vs 0) 160) (v_iv (n_v vs 4)) := f17
  have g20 : v_iv (n_v vs 2) = w_fi ws (n_v vs 0) 8 := congrArg v_iv f20
  have hK_0_1 := elq_7 hD hth cr_0_1
  have hK_0_160 := elq_6 hD hth cr_0_160
  have hK_0_162 := elq_8 hD hth cr_0_162
  have hK_0_163 := elq_9 hD hth cr_0_163
  have kz_0_8 := fdq_34 hD hth r0
  have kz_0_10 := fdq_43 hD hth r0
  have kz_0_158 := fdq_36 hD hth r0
  have nf0 : fc_1 PRD (20, [20, 0], [50, 1, 1, 1158, 1160, 4, 6, 1, 2, 1, 0, 0, 1, 1, 6, 3, 1, 160, 2, 1, 158, 0, 1]) ws (vs) := ⟨nf_in hl rfl, sgq_287 (vc_Mo_word_at_s5023_3_0 (v_iv (n_v vs 2)) (v_iv (n_v vs 4)) (v_iv (n_v vs 5)) (v_iv (n_v vs 6)) (v_iv (n_v vs 8)) (v_iv (n_v vs 10)) (v_iv (n_v vs 11)) (v_iv (n_v vs 12)) (v_iv (n_v vs 14)) (v_iv (n_v vs 15)) (v_iv (n_v vs 16)) (v_iv (n_v vs 17)) (v_iv (n_v vs 18)) (v_iv (n_v vs 19)) (v_iv (n_v vs 20)) (w_ei ws (w_ar ws (n_v vs 0) 1)) (w_fi ws (n_v vs 0) 10) (w_ei ws (w_ar ws (n_v vs 0) 162)) (w_fi ws (n_v vs 0) 158) (w_ei ws (w_ar ws (n_v vs 0) 163)) (w_ei ws (w_ar ws (n_v vs 0) 160)) (w_fi ws (n_v vs 0) 8) k2 k4 k5 k6 k8 k10 k11 k12 k14 k15 k16 k17 k18 k19 k20 d0 (shm_192 f0) (shm_40 f1) (shm_71 f2) (shm_72 f3) (shm_541 f4) (shm_542 f5) (shm_12 f6) h7 g8 (shm_6 f10) (shm_37 f11) (shm_14 f12) h13 h14 (shm_37 f16) h17 (shm_192 f19) g20 hK_0_1 hK_0_160 hK_0_162 hK_0_163 kz_0_8 kz_0_10 kz_0_158)⟩
  have nf1 : fc_1 PRD (20, [0, 20], [60, 3, 4, 21, 8, 158, 10, 160, 162, 163, 1]) ws (vs) := ⟨nf_in hl rfl, sgq_1868 (vc_Mo_word_at_s5023_3_1 (v_iv (n_v vs 4)) (v_iv (n_v vs 8)) (v_iv (n_v vs 10)) (v_iv (n_v vs 11)) (v_iv (n_v vs 16)) (v_iv (n_v vs 17)) (v_iv (n_v vs 18)) (v_iv (n_v vs 20)) (w_ei ws (w_ar ws (n_v vs 0) 1)) (w_fi ws (n_v vs 0) 10) (w_ei ws (w_ar ws (n_v vs 0) 162)) (w_fi ws (n_v vs 0) 158) (w_ei ws (w_ar ws (n_v vs 0) 163)) (w_ei ws (w_ar ws (n_v vs 0) 160)) (w_fi ws (n_v vs 0) 8) k4 k8 k10 k11 k16 k17 k18 k20 d0 (shm_541 f4) (shm_542 f5) h7 g8 (shm_14 f12) h13 h14 kz_0_8 kz_0_10 kz_0_158)⟩
  refine ⟨(fun _ h => (by cases h)), [], trivial, ?_, (fun _ h => (by cases h))⟩
  rw [List.append_nil]
  exact List.forall_mem_cons.mpr ⟨⟨show (20 : Nat) < 100 from by decide, nf0⟩, List.forall_mem_cons.mpr ⟨⟨show (20 : Nat) < 100 from by decide, nf1⟩, (fun _ h => (by cases h))⟩⟩
set_option maxHeartbeats 4000000 in
theorem vc_Mo_word_at_s5023_4_0 (x2 : Int) (x4 : Int) (x5 : Int) (x6 : Int) (x8 : Int) (x10 : Int) (x11 : Int) (x12 : Int) (x14 : Int) (x15 : Int) (x16 : Int) (x17 : Int) (x18 : Int) (x19 : Int) (x20 : Int) (tape_0 : Int → Int) (limit_0 : Int) (tokenPlace_0 : Int → Int) (cur_0 : Int) (tokenEnd_0 : Int → Int) (tokenKind_0 : Int → Int) (fault_0 : Int) (k2 : 0 ≤ x2 ∧ x2 ≤ 0) (k4 : 0 ≤ x4 ∧ x4 ≤ 2009) (k5 : 1 ≤ x5 ∧ x5 ≤ 1) (k6 : 1 ≤ x6 ∧ x6 ≤ 1) (k8 : 2 ≤ x8 ∧ x8 ≤ 2000) (k10 : 0 ≤ x10 ∧ x10 ≤ 2000) (k11 : 2 ≤ x11 ∧ x11 ≤ 2) (k12 : 2 ≤ x12 ∧ x12 ≤ 2) (k14 : 0 ≤ x14 ∧ x14 ≤ 0) (k15 : 2 ≤ x15 ∧ x15 ≤ 2) (k16 : 0 ≤ x16 ∧ x16 ≤ 1999) (k17 : 0 ≤ x17 ∧ x17 ≤ 1999) (k18 : 0 ≤ x18 ∧ x18 ≤ 255) (k19 : 0 ≤ x19 ∧ x19 ≤ 65535) (k20 : 0 ≤ x20 ∧ x20 ≤ 0) (d0 : x16 + 0 ≤ x17 ∧ x17 ≤ x16 + 0) (f0 : x20 = 0) (f1 : x18 ≠ x19) (f2 : 1 * x19 + 0 ≤ 105) (f3 : (-1) * x19 + 0 ≤ (-105)) (f4 : ((x17 + 1) ≤ limit_0) → (x18 = (tape_0 (x17) % 256))) (f5 : (limit_0 ≤ x17) → (x18 = (-1))) (f6 : x17 = x16 + x14) (h7 : x16 = tokenPlace_0 (x4)) (g8 : x4 = cur_0) (f10 : x14 < x15) (f11 : x11 = x12) (f12 : x11 = x8 - x10) (h13 : x10 = tokenPlace_0 (x4)) (h14 : x8 = tokenEnd_0 (x4)) (f16 : x5 = x6) (h17 : x5 = tokenKind_0 (x4)) (f19 : x2 = 0) (g20 : x2 = fault_0) (hK_0_1 : ∀ j : Int, 0 ≤ j → j < 2000 → (-128) ≤ tape_0 j ∧ tape_0 j ≤ 127) (hK_0_160 : ∀ j : Int, 0 ≤ j → j < 2010 → 0 ≤ tokenKind_0 j ∧ tokenKind_0 j ≤ 4) (hK_0_162 : ∀ j : Int, 0 ≤ j → j < 2010 → 0 ≤ tokenPlace_0 j ∧ tokenPlace_0 j ≤ 2000) (hK_0_163 : ∀ j : Int, 0 ≤ j → j < 2010 → 0 ≤ tokenEnd_0 j ∧ tokenEnd_0 j ≤ 2000) (kz_0_8 : 0 ≤ fault_0 ∧ fault_0 ≤ 5) (kz_0_10 : 0 ≤ limit_0 ∧ limit_0 ≤ 2000) (kz_0_158 : 0 ≤ cur_0 ∧ cur_0 ≤ 2009) : (x20 = 1) → (tokenKind_0 (cur_0) = 1) := by
  first | assumption | (clear f4 f5 hK_0_1 hK_0_160 hK_0_162 hK_0_163; omega) | (clear hK_0_1 hK_0_160 hK_0_162 hK_0_163; grind) | omega | grind
set_option maxHeartbeats 4000000 in
theorem vc_Mo_word_at_s5023_4_1 (x4 : Int) (x8 : Int) (x10 : Int) (x11 : Int) (x16 : Int) (x17 : Int) (x18 : Int) (x19 : Int) (x20 : Int) (tape_0 : Int → Int) (limit_0 : Int) (tokenPlace_0 : Int → Int) (cur_0 : Int) (tokenEnd_0 : Int → Int) (tokenKind_0 : Int → Int) (fault_0 : Int) (k4 : 0 ≤ x4 ∧ x4 ≤ 2009) (k8 : 2 ≤ x8 ∧ x8 ≤ 2000) (k10 : 0 ≤ x10 ∧ x10 ≤ 2000) (k11 : 2 ≤ x11 ∧ x11 ≤ 2) (k16 : 0 ≤ x16 ∧ x16 ≤ 1999) (k17 : 0 ≤ x17 ∧ x17 ≤ 1999) (k18 : 0 ≤ x18 ∧ x18 ≤ 255) (k19 : 0 ≤ x19 ∧ x19 ≤ 65535) (k20 : 0 ≤ x20 ∧ x20 ≤ 0) (d0 : x16 + 0 ≤ x17 ∧ x17 ≤ x16 + 0) (f1 : x18 ≠ x19) (f2 : 1 * x19 + 0 ≤ 105) (f3 : (-1) * x19 + 0 ≤ (-105)) (f4 : ((x17 + 1) ≤ limit_0) → (x18 = (tape_0 (x17) % 256))) (f5 : (limit_0 ≤ x17) → (x18 = (-1))) (h7 : x16 = tokenPlace_0 (x4)) (g8 : x4 = cur_0) (f12 : x11 = x8 - x10) (h13 : x10 = tokenPlace_0 (x4)) (h14 : x8 = tokenEnd_0 (x4)) (kz_0_8 : 0 ≤ fault_0 ∧ fault_0 ≤ 5) (kz_0_10 : 0 ≤ limit_0 ∧ limit_0 ≤ 2000) (kz_0_158 : 0 ≤ cur_0 ∧ cur_0 ≤ 2009) : Wqif (fault_0) (cur_0) (limit_0) (tokenKind_0) (tokenPlace_0) (tokenEnd_0) (tape_0) (x20) := by
  first
    | exact ⟨fun z => by omega, fun z => by have := z.1; omega⟩
    | (have e := (‹x4 = cur_0›)
       rw [← e]
       refine ⟨fun z => ⟨by omega, wdS2.2 ⟨by omega, by omega, by omega, by rw [show tokenPlace_0 x4 + 0 = x17 by omega]; omega, by rw [show tokenPlace_0 x4 + 1 = x24 by omega]; omega⟩⟩, fun z => by omega⟩)
    | (have e := (‹x4 = cur_0›)
       rw [← e]
       refine ⟨fun z => by omega, fun z => ?_⟩
       have w := wdS2.1 z.2
       try (have q0 : tokenPlace_0 x4 + 0 = x17 := (by omega); rw [q0] at w)
       try (have q1 : tokenPlace_0 x4 + 1 = x24 := (by omega); rw [q1] at w)
       omega)
  
def o_Mo_word_at_s5023_4 : or_T := (102, 23, [(0, (2, 0, 0, [165])), (2, (0, 0, 0, [])), (3, (2, 0, 0, [274])), (4, (0, 0, 2009, [])), (5, (0, 1, 1, [])), (6, (0, 1, 1, [])), (7, (2, 0, 0, [277])), (8, (0, 2, 2000, [])), (9, (2, 0, 0, [276])), (10, (0, 0, 2000, [])), (11, (0, 2, 2, [])), (12, (0, 2, 2, [])), (14, (0, 0, 0, [])), (15, (0, 2, 2, [])), (16, (0, 0, 1999, [])), (17, (0, 0, 1999, [])), (18, (0, 0, 255, [])), (19, (0, 0, 65535, [])), (20, (0, 0, 0, []))], [(8, [20], [0]), (7, [18, 19], [1]), (23, [19], [105, 1]), (23, [19], [-105, -1]), (20, [17, 0, 18], [50, 1, 1, 1010, 1001, 4, 11, 0, 6, 4, 2, 1, 0, 0, 1, 2, 1, 10, 1, 2, 1, 2, 9, 5, 3, 1, 1, 1, 0, 0, 256]), (20, [0, 17, 18], [50, 1, 0, 10, 4, 7, 0, 3, 2, 0, 10, 1, 1, 1, 2, 1, 2, 0, -1]), (1, [17, 16, 14], []), (10, [16, 9, 4], []), (9, [4, 0], [158]), (9, [9, 0], [162]), (7, [14, 15], [2]), (7, [11, 12], [0]), (2, [11, 8, 10], []), (10, [10, 9, 4], []), (10, [8, 7, 4], []), (9, [7, 0], [163]), (7, [5, 6], [0]), (10, [5, 3, 4], []), (9, [3, 0], [160]), (8, [2], [0]), (9, [2, 0], [8])], [], [], [(20, [20, 0], [50, 1, 1, 1158, 1160, 4, 6, 1, 2, 1, 0, 0, 1, 1, 6, 3, 1, 160, 2, 1, 158, 0, 1]), (20, [0, 20], [60, 3, 4, 21, 8, 158, 10, 160, 162, 163, 1])], [], [(17, 16, 0, 0)])
theorem oo_Mo_word_at_s5023_4 {kA : Nat → ClassId} : or_ok PRD kA GG o_Mo_word_at_s5023_4 := by
  refine or_mk fun A ta ws vs hD hth hl => ?_
  intro t0 r0 t2 k2 t3 r3 t4 k4 t5 k5 t6 k6 t7 r7 t8 k8 t9 r9 t10 k10 t11 k11 t12 k12 t14 k14 t15 k15 t16 k16 t17 k17 t18 k18 t19 k19 t20 k20 d0 f0 f1 f2 f3 f4 f5 f6 f7 f8 f9 f10 f11 f12 f13 f14 f15 f16 f17 f18 f19 f20
  replace f7 := shm_107 f7
  replace f8 := shm_286 f8
  replace f9 := shm_301 f9
  replace f13 := shm_107 f13
  replace f14 := shm_107 f14
  replace f15 := shm_1332 f15
  replace f17 := shm_107 f17
  replace f18 := shm_327 f18
  replace f20 := shm_293 f20
  have cr_0_1 := fdq_39 hD hth r0
  have cr_0_160 := fdq_33 hD hth r0
  have cr_0_162 := fdq_41 hD hth r0
  have cr_0_163 := fdq_42 hD hth r0
  have ad_9 : v_ad (n_v vs 9) = w_ar ws (n_v vs 0) 162 := congrArg v_ad f9
  have ad_7 : v_ad (n_v vs 7) = w_ar ws (n_v vs 0) 163 := congrArg v_ad f15
  have ad_3 : v_ad (n_v vs 3) = w_ar ws (n_v vs 0) 160 := congrArg v_ad f18
  simp only [ad_9] at f7
  have h7 : v_iv (n_v vs 16) = w_ei ws (w_ar ws (n_v vs 0) 162) (v_iv (n_v vs 4)) := f7
  have g8 : v_iv (n_v vs 4) = w_fi ws (n_v vs 0) 158 := congrArg v_iv f8
  simp only [ad_9] at f13
  have h13 : v_iv (n_v vs 10) = w_ei ws (w_ar ws (n_v vs 0) 162) (v_iv (n_v vs 4)) := f13
  simp only [ad_7] at f14
  have h14 : v_iv (n_v vs 8) = w_ei ws (w_ar ws (n_v vs 0) 163) (v_iv (n_v vs 4)) := f14
  simp only [ad_3] at f17
  have h17 : v_iv (n_v vs 5) = w_ei ws (w_ar ws (n_v vs 0) 160) (v_iv (n_v vs 4)) := f17
  have g20 : v_iv (n_v vs 2) = w_fi ws (n_v vs 0) 8 := congrArg v_iv f20
  have hK_0_1 := elq_7 hD hth cr_0_1
  have hK_0_160 := elq_6 hD hth cr_0_160
  have hK_0_162 := elq_8 hD hth cr_0_162
  have hK_0_163 := elq_9 hD hth cr_0_163
  have kz_0_8 := fdq_34 hD hth r0
  have kz_0_10 := fdq_43 hD hth r0
  have kz_0_158 := fdq_36 hD hth r0
  have nf0 : fc_1 PRD (20, [20, 0], [50, 1, 1, 1158, 1160, 4, 6, 1, 2, 1, 0, 0, 1, 1, 6, 3, 1, 160, 2, 1, 158, 0, 1]) ws (vs) := ⟨nf_in hl rfl, sgq_287 (vc_Mo_word_at_s5023_4_0 (v_iv (n_v vs 2)) (v_iv (n_v vs 4)) (v_iv (n_v vs 5)) (v_iv (n_v vs 6)) (v_iv (n_v vs 8)) (v_iv (n_v vs 10)) (v_iv (n_v vs 11)) (v_iv (n_v vs 12)) (v_iv (n_v vs 14)) (v_iv (n_v vs 15)) (v_iv (n_v vs 16)) (v_iv (n_v vs 17)) (v_iv (n_v vs 18)) (v_iv (n_v vs 19)) (v_iv (n_v vs 20)) (w_ei ws (w_ar ws (n_v vs 0) 1)) (w_fi ws (n_v vs 0) 10) (w_ei ws (w_ar ws (n_v vs 0) 162)) (w_fi ws (n_v vs 0) 158) (w_ei ws (w_ar ws (n_v vs 0) 163)) (w_ei ws (w_ar ws (n_v vs 0) 160)) (w_fi ws (n_v vs 0) 8) k2 k4 k5 k6 k8 k10 k11 k12 k14 k15 k16 k17 k18 k19 k20 d0 (shm_192 f0) (shm_40 f1) (shm_71 f2) (shm_72 f3) (shm_541 f4) (shm_542 f5) (shm_12 f6) h7 g8 (shm_6 f10) (shm_37 f11) (shm_14 f12) h13 h14 (shm_37 f16) h17 (shm_192 f19) g20 hK_0_1 hK_0_160 hK_0_162 hK_0_163 kz_0_8 kz_0_10 kz_0_158)⟩
  have nf1 : fc_1 PRD (20, [0, 20], [60, 3, 4, 21, 8, 158, 10, 160, 162, 163, 1]) ws (vs) := ⟨nf_in hl rfl, sgq_1868 (vc_Mo_word_at_s5023_4_1 (v_iv (n_v vs 4)) (v_iv (n_v vs 8)) (v_iv (n_v vs 10)) (v_iv (n_v vs 11)) (v_iv (n_v vs 16)) (v_iv (n_v vs 17)) (v_iv (n_v vs 18)) (v_iv (n_v vs 19)) (v_iv (n_v vs 20)) (w_ei ws (w_ar ws (n_v vs 0) 1)) (w_fi ws (n_v vs 0) 10) (w_ei ws (w_ar ws (n_v vs 0) 162)) (w_fi ws (n_v vs 0) 158) (w_ei ws (w_ar ws (n_v vs 0) 163)) (w_ei ws (w_ar ws (n_v vs 0) 160)) (w_fi ws (n_v vs 0) 8) k4 k8 k10 k11 k16 k17 k18 k19 k20 d0 (shm_40 f1) (shm_71 f2) (shm_72 f3) (shm_541 f4) (shm_542 f5) h7 g8 (shm_14 f12) h13 h14 kz_0_8 kz_0_10 kz_0_158)⟩
  refine ⟨(fun _ h => (by cases h)), [], trivial, ?_, (fun _ h => (by cases h))⟩
  rw [List.append_nil]
  exact List.forall_mem_cons.mpr ⟨⟨show (20 : Nat) < 100 from by decide, nf0⟩, List.forall_mem_cons.mpr ⟨⟨show (20 : Nat) < 100 from by decide, nf1⟩, (fun _ h => (by cases h))⟩⟩
set_option maxHeartbeats 4000000 in
theorem vc_Mo_word_at_s5023_5_0 (x2 : Int) (x4 : Int) (x5 : Int) (x6 : Int) (x8 : Int) (x10 : Int) (x11 : Int) (x12 : Int) (x14 : Int) (x15 : Int) (x16 : Int) (x17 : Int) (x18 : Int) (x19 : Int) (x21 : Int) (x22 : Int) (x23 : Int) (x24 : Int) (x25 : Int) (x26 : Int) (x27 : Int) (tape_0 : Int → Int) (limit_0 : Int) (tokenPlace_0 : Int → Int) (cur_0 : Int) (tokenEnd_0 : Int → Int) (tokenKind_0 : Int → Int) (fault_0 : Int) (k2 : 0 ≤ x2 ∧ x2 ≤ 0) (k4 : 0 ≤ x4 ∧ x4 ≤ 2009) (k5 : 1 ≤ x5 ∧ x5 ≤ 1) (k6 : 1 ≤ x6 ∧ x6 ≤ 1) (k8 : 2 ≤ x8 ∧ x8 ≤ 2000) (k10 : 0 ≤ x10 ∧ x10 ≤ 2000) (k11 : 2 ≤ x11 ∧ x11 ≤ 2) (k12 : 2 ≤ x12 ∧ x12 ≤ 2) (k14 : 0 ≤ x14 ∧ x14 ≤ 0) (k15 : 2 ≤ x15 ∧ x15 ≤ 2) (k16 : 0 ≤ x16 ∧ x16 ≤ 1999) (k17 : 0 ≤ x17 ∧ x17 ≤ 1999) (k18 : 0 ≤ x18 ∧ x18 ≤ 255) (k19 : 0 ≤ x19 ∧ x19 ≤ 255) (k21 : 1 ≤ x21 ∧ x21 ≤ 1) (k22 : 2 ≤ x22 ∧ x22 ≤ 2) (k23 : 0 ≤ x23 ∧ x23 ≤ 2000) (k24 : 1 ≤ x24 ∧ x24 ≤ 2001) (k25 : (-1) ≤ x25 ∧ x25 ≤ (-1)) (k26 : 0 ≤ x26 ∧ x26 ≤ 65535) (k27 : 0 ≤ x27 ∧ x27 ≤ 0) (d0 : x23 + 1 ≤ x24 ∧ x24 ≤ x23 + 1) (d1 : x19 + 0 ≤ x18 ∧ x18 ≤ x19 + 0) (d2 : x16 + 0 ≤ x17 ∧ x17 ≤ x16 + 0) (f0 : x25 ≠ x26) (f1 : 1 * x26 + 0 ≤ 102) (f2 : (-1) * x26 + 0 ≤ (-102)) (f3 : ((x24 + 1) ≤ limit_0) → (x25 = (tape_0 (x24) % 256))) (f4 : (limit_0 ≤ x24) → (x25 = (-1))) (f5 : x24 = x23 + x21) (h6 : x23 = tokenPlace_0 (x4)) (g7 : x4 = cur_0) (f9 : x21 < x22) (f10 : x21 = x14 + 1) (f11 : x18 = x19) (f12 : 1 * x19 + 0 ≤ 105) (f13 : (-1) * x19 + 0 ≤ (-105)) (f14 : ((x17 + 1) ≤ limit_0) → (x18 = (tape_0 (x17) % 256))) (f15 : (limit_0 ≤ x17) → (x18 = (-1))) (f16 : x17 = x16 + x14) (h17 : x16 = tokenPlace_0 (x4)) (f18 : x14 < x15) (f19 : x11 = x12) (f20 : x11 = x8 - x10) (h21 : x10 = tokenPlace_0 (x4)) (h22 : x8 = tokenEnd_0 (x4)) (f24 : x5 = x6) (h25 : x5 = tokenKind_0 (x4)) (f27 : x2 = 0) (g28 : x2 = fault_0) (hK_0_1 : ∀ j : Int, 0 ≤ j → j < 2000 → (-128) ≤ tape_0 j ∧ tape_0 j ≤ 127) (hK_0_160 : ∀ j : Int, 0 ≤ j → j < 2010 → 0 ≤ tokenKind_0 j ∧ tokenKind_0 j ≤ 4) (hK_0_162 : ∀ j : Int, 0 ≤ j → j < 2010 → 0 ≤ tokenPlace_0 j ∧ tokenPlace_0 j ≤ 2000) (hK_0_163 : ∀ j : Int, 0 ≤ j → j < 2010 → 0 ≤ tokenEnd_0 j ∧ tokenEnd_0 j ≤ 2000) (kz_0_8 : 0 ≤ fault_0 ∧ fault_0 ≤ 5) (kz_0_10 : 0 ≤ limit_0 ∧ limit_0 ≤ 2000) (kz_0_158 : 0 ≤ cur_0 ∧ cur_0 ≤ 2009) : (x27 = 1) → (tokenKind_0 (cur_0) = 1) := by
  first | assumption | (clear f3 f4 f14 f15 hK_0_1 hK_0_160 hK_0_162 hK_0_163; omega) | (clear hK_0_1 hK_0_160 hK_0_162 hK_0_163; grind) | omega | grind
set_option maxHeartbeats 4000000 in
theorem vc_Mo_word_at_s5023_5_1 (x4 : Int) (x8 : Int) (x10 : Int) (x11 : Int) (x16 : Int) (x17 : Int) (x18 : Int) (x19 : Int) (x23 : Int) (x24 : Int) (x25 : Int) (x27 : Int) (tape_0 : Int → Int) (limit_0 : Int) (tokenPlace_0 : Int → Int) (cur_0 : Int) (tokenEnd_0 : Int → Int) (tokenKind_0 : Int → Int) (fault_0 : Int) (k4 : 0 ≤ x4 ∧ x4 ≤ 2009) (k8 : 2 ≤ x8 ∧ x8 ≤ 2000) (k10 : 0 ≤ x10 ∧ x10 ≤ 2000) (k11 : 2 ≤ x11 ∧ x11 ≤ 2) (k16 : 0 ≤ x16 ∧ x16 ≤ 1999) (k17 : 0 ≤ x17 ∧ x17 ≤ 1999) (k18 : 0 ≤ x18 ∧ x18 ≤ 255) (k19 : 0 ≤ x19 ∧ x19 ≤ 255) (k23 : 0 ≤ x23 ∧ x23 ≤ 2000) (k24 : 1 ≤ x24 ∧ x24 ≤ 2001) (k25 : (-1) ≤ x25 ∧ x25 ≤ (-1)) (k27 : 0 ≤ x27 ∧ x27 ≤ 0) (d0 : x23 + 1 ≤ x24 ∧ x24 ≤ x23 + 1) (d1 : x19 + 0 ≤ x18 ∧ x18 ≤ x19 + 0) (d2 : x16 + 0 ≤ x17 ∧ x17 ≤ x16 + 0) (f3 : ((x24 + 1) ≤ limit_0) → (x25 = (tape_0 (x24) % 256))) (f4 : (limit_0 ≤ x24) → (x25 = (-1))) (h6 : x23 = tokenPlace_0 (x4)) (g7 : x4 = cur_0) (f12 : 1 * x19 + 0 ≤ 105) (f13 : (-1) * x19 + 0 ≤ (-105)) (f14 : ((x17 + 1) ≤ limit_0) → (x18 = (tape_0 (x17) % 256))) (f15 : (limit_0 ≤ x17) → (x18 = (-1))) (h17 : x16 = tokenPlace_0 (x4)) (f20 : x11 = x8 - x10) (h21 : x10 = tokenPlace_0 (x4)) (h22 : x8 = tokenEnd_0 (x4)) (kz_0_8 : 0 ≤ fault_0 ∧ fault_0 ≤ 5) (kz_0_10 : 0 ≤ limit_0 ∧ limit_0 ≤ 2000) (kz_0_158 : 0 ≤ cur_0 ∧ cur_0 ≤ 2009) : Wqif (fault_0) (cur_0) (limit_0) (tokenKind_0) (tokenPlace_0) (tokenEnd_0) (tape_0) (x27) := by
  first
    | exact ⟨fun z => by omega, fun z => by have := z.1; omega⟩
    | (have e := (‹x4 = cur_0›)
       rw [← e]
       refine ⟨fun z => ⟨by omega, wdS2.2 ⟨by omega, by omega, by omega, by rw [show tokenPlace_0 x4 + 0 = x17 by omega]; omega, by rw [show tokenPlace_0 x4 + 1 = x24 by omega]; omega⟩⟩, fun z => by omega⟩)
    | (have e := (‹x4 = cur_0›)
       rw [← e]
       refine ⟨fun z => by omega, fun z => ?_⟩
       have w := wdS2.1 z.2
       try (have q0 : tokenPlace_0 x4 + 0 = x17 := (by omega); rw [q0] at w)
       try (have q1 : tokenPlace_0 x4 + 1 = x24 := (by omega); rw [q1] at w)
       omega)
  
def o_Mo_word_at_s5023_5 : or_T := (102, 30, [(0, (2, 0, 0, [165])), (2, (0, 0, 0, [])), (3, (2, 0, 0, [274])), (4, (0, 0, 2009, [])), (5, (0, 1, 1, [])), (6, (0, 1, 1, [])), (7, (2, 0, 0, [277])), (8, (0, 2, 2000, [])), (9, (2, 0, 0, [276])), (10, (0, 0, 2000, [])), (11, (0, 2, 2, [])), (12, (0, 2, 2, [])), (14, (0, 0, 0, [])), (15, (0, 2, 2, [])), (16, (0, 0, 1999, [])), (17, (0, 0, 1999, [])), (18, (0, 0, 255, [])), (19, (0, 0, 255, [])), (21, (0, 1, 1, [])), (22, (0, 2, 2, [])), (23, (0, 0, 2000, [])), (24, (0, 1, 2001, [])), (25, (0, -1, -1, [])), (26, (0, 0, 65535, [])), (27, (0, 0, 0, []))], [(7, [25, 26], [1]), (23, [26], [102, 1]), (23, [26], [-102, -1]), (20, [24, 0, 25], [50, 1, 1, 1010, 1001, 4, 11, 0, 6, 4, 2, 1, 0, 0, 1, 2, 1, 10, 1, 2, 1, 2, 9, 5, 3, 1, 1, 1, 0, 0, 256]), (20, [0, 24, 25], [50, 1, 0, 10, 4, 7, 0, 3, 2, 0, 10, 1, 1, 1, 2, 1, 2, 0, -1]), (1, [24, 23, 21], []), (10, [23, 9, 4], []), (9, [4, 0], [158]), (9, [9, 0], [162]), (7, [21, 22], [2]), (6, [21, 14], [1]), (7, [18, 19], [0]), (23, [19], [105, 1]), (23, [19], [-105, -1]), (20, [17, 0, 18], [50, 1, 1, 1010, 1001, 4, 11, 0, 6, 4, 2, 1, 0, 0, 1, 2, 1, 10, 1, 2, 1, 2, 9, 5, 3, 1, 1, 1, 0, 0, 256]), (20, [0, 17, 18], [50, 1, 0, 10, 4, 7, 0, 3, 2, 0, 10, 1, 1, 1, 2, 1, 2, 0, -1]), (1, [17, 16, 14], []), (10, [16, 9, 4], []), (7, [14, 15], [2]), (7, [11, 12], [0]), (2, [11, 8, 10], []), (10, [10, 9, 4], []), (10, [8, 7, 4], []), (9, [7, 0], [163]), (7, [5, 6], [0]), (10, [5, 3, 4], []), (9, [3, 0], [160]), (8, [2], [0]), (9, [2, 0], [8])], [], [], [(20, [27, 0], [50, 1, 1, 1158, 1160, 4, 6, 1, 2, 1, 0, 0, 1, 1, 6, 3, 1, 160, 2, 1, 158, 0, 1]), (20, [0, 27], [60, 3, 4, 21, 8, 158, 10, 160, 162, 163, 1])], [], [(24, 23, 1, 1), (18, 19, 0, 0), (17, 16, 0, 0)])
theorem oo_Mo_word_at_s5023_5 {kA : Nat → ClassId} : or_ok PRD kA GG o_Mo_word_at_s5023_5 := by
  refine or_mk fun A ta ws vs hD hth hl => ?_
  intro t0 r0 t2 k2 t3 r3 t4 k4 t5 k5 t6 k6 t7 r7 t8 k8 t9 r9 t10 k10 t11 k11 t12 k12 t14 k14 t15 k15 t16 k16 t17 k17 t18 k18 t19 k19 t21 k21 t22 k22 t23 k23 t24 k24 t25 k25 t26 k26 t27 k27 d0 d1 d2 f0 f1 f2 f3 f4 f5 f6 f7 f8 f9 f10 f11 f12 f13 f14 f15 f16 f17 f18 f19 f20 f21 f22 f23 f24 f25 f26 f27 f28
  replace f6 := shm_107 f6
  replace f7 := shm_286 f7
  replace f8 := shm_301 f8
  replace f17 := shm_107 f17
  replace f21 := shm_107 f21
  replace f22 := shm_107 f22
  replace f23 := shm_1332 f23
  replace f25 := shm_107 f25
  replace f26 := shm_327 f26
  replace f28 := shm_293 f28
  have cr_0_1 := fdq_39 hD hth r0
  have cr_0_160 := fdq_33 hD hth r0
  have cr_0_162 := fdq_41 hD hth r0
  have cr_0_163 := fdq_42 hD hth r0
  have ad_9 : v_ad (n_v vs 9) = w_ar ws (n_v vs 0) 162 := congrArg v_ad f8
  have ad_7 : v_ad (n_v vs 7) = w_ar ws (n_v vs 0) 163 := congrArg v_ad f23
  have ad_3 : v_ad (n_v vs 3) = w_ar ws (n_v vs 0) 160 := congrArg v_ad f26
  simp only [ad_9] at f6
  have h6 : v_iv (n_v vs 23) = w_ei ws (w_ar ws (n_v vs 0) 162) (v_iv (n_v vs 4)) := f6
  have g7 : v_iv (n_v vs 4) = w_fi ws (n_v vs 0) 158 := congrArg v_iv f7
  simp only [ad_9] at f17
  have h17 : v_iv (n_v vs 16) = w_ei ws (w_ar ws (n_v vs 0) 162) (v_iv (n_v vs 4)) := f17
  simp only [ad_9] at f21
  have h21 : v_iv (n_v vs 10) = w_ei ws (w_ar ws (n_v vs 0) 162) (v_iv (n_v vs 4)) := f21
  simp only [ad_7] at f22
  have h22 : v_iv (n_v vs 8) = w_ei ws (w_ar ws (n_v vs 0) 163) (v_iv (n_v vs 4)) := f22
  simp only [ad_3] at f25
  have h25 : v_iv (n_v vs 5) = w_ei ws (w_ar ws (n_v vs 0) 160) (v_iv (n_v vs 4)) := f25
  have g28 : v_iv (n_v vs 2) = w_fi ws (n_v vs 0) 8 := congrArg v_iv f28
  have hK_0_1 := elq_7 hD hth cr_0_1
  have hK_0_160 := elq_6 hD hth cr_0_160
  have hK_0_162 := elq_8 hD hth cr_0_162
  have hK_0_163 := elq_9 hD hth cr_0_163
  have kz_0_8 := fdq_34 hD hth r0
  have kz_0_10 := fdq_43 hD hth r0
  have kz_0_158 := fdq_36 hD hth r0
  have nf0 : fc_1 PRD (20, [27, 0], [50, 1, 1, 1158, 1160, 4, 6, 1, 2, 1, 0, 0, 1, 1, 6, 3, 1, 160, 2, 1, 158, 0, 1]) ws (vs) := ⟨nf_in hl rfl, sgq_287 (vc_Mo_word_at_s5023_5_0 (v_iv (n_v vs 2)) (v_iv (n_v vs 4)) (v_iv (n_v vs 5)) (v_iv (n_v vs 6)) (v_iv (n_v vs 8)) (v_iv (n_v vs 10)) (v_iv (n_v vs 11)) (v_iv (n_v vs 12)) (v_iv (n_v vs 14)) (v_iv (n_v vs 15)) (v_iv (n_v vs 16)) (v_iv (n_v vs 17)) (v_iv (n_v vs 18)) (v_iv (n_v vs 19)) (v_iv (n_v vs 21)) (v_iv (n_v vs 22)) (v_iv (n_v vs 23)) (v_iv (n_v vs 24)) (v_iv (n_v vs 25)) (v_iv (n_v vs 26)) (v_iv (n_v vs 27)) (w_ei ws (w_ar ws (n_v vs 0) 1)) (w_fi ws (n_v vs 0) 10) (w_ei ws (w_ar ws (n_v vs 0) 162)) (w_fi ws (n_v vs 0) 158) (w_ei ws (w_ar ws (n_v vs 0) 163)) (w_ei ws (w_ar ws (n_v vs 0) 160)) (w_fi ws (n_v vs 0) 8) k2 k4 k5 k6 k8 k10 k11 k12 k14 k15 k16 k17 k18 k19 k21 k22 k23 k24 k25 k26 k27 d0 d1 d2 (shm_40 f0) (shm_83 f1) (shm_84 f2) (shm_541 f3) (shm_542 f4) (shm_12 f5) h6 g7 (shm_6 f9) (shm_4 f10) (shm_37 f11) (shm_71 f12) (shm_72 f13) (shm_541 f14) (shm_542 f15) (shm_12 f16) h17 (shm_6 f18) (shm_37 f19) (shm_14 f20) h21 h22 (shm_37 f24) h25 (shm_192 f27) g28 hK_0_1 hK_0_160 hK_0_162 hK_0_163 kz_0_8 kz_0_10 kz_0_158)⟩
  have nf1 : fc_1 PRD (20, [0, 27], [60, 3, 4, 21, 8, 158, 10, 160, 162, 163, 1]) ws (vs) := ⟨nf_in hl rfl, sgq_1868 (vc_Mo_word_at_s5023_5_1 (v_iv (n_v vs 4)) (v_iv (n_v vs 8)) (v_iv (n_v vs 10)) (v_iv (n_v vs 11)) (v_iv (n_v vs 16)) (v_iv (n_v vs 17)) (v_iv (n_v vs 18)) (v_iv (n_v vs 19)) (v_iv (n_v vs 23)) (v_iv (n_v vs 24)) (v_iv (n_v vs 25)) (v_iv (n_v vs 27)) (w_ei ws (w_ar ws (n_v vs 0) 1)) (w_fi ws (n_v vs 0) 10) (w_ei ws (w_ar ws (n_v vs 0) 162)) (w_fi ws (n_v vs 0) 158) (w_ei ws (w_ar ws (n_v vs 0) 163)) (w_ei ws (w_ar ws (n_v vs 0) 160)) (w_fi ws (n_v vs 0) 8) k4 k8 k10 k11 k16 k17 k18 k19 k23 k24 k25 k27 d0 d1 d2 (shm_541 f3) (shm_542 f4) h6 g7 (shm_71 f12) (shm_72 f13) (shm_541 f14) (shm_542 f15) h17 (shm_14 f20) h21 h22 kz_0_8 kz_0_10 kz_0_158)⟩
  refine ⟨(fun _ h => (by cases h)), [], trivial, ?_, (fun _ h => (by cases h))⟩
  rw [List.append_nil]
  exact List.forall_mem_cons.mpr ⟨⟨show (20 : Nat) < 100 from by decide, nf0⟩, List.forall_mem_cons.mpr ⟨⟨show (20 : Nat) < 100 from by decide, nf1⟩, (fun _ h => (by cases h))⟩⟩
set_option maxHeartbeats 4000000 in
theorem vc_Mo_word_at_s5023_6_0 (x2 : Int) (x4 : Int) (x5 : Int) (x6 : Int) (x8 : Int) (x10 : Int) (x11 : Int) (x12 : Int) (x14 : Int) (x15 : Int) (x16 : Int) (x17 : Int) (x18 : Int) (x19 : Int) (x21 : Int) (x22 : Int) (x23 : Int) (x24 : Int) (x25 : Int) (x26 : Int) (x27 : Int) (tape_0 : Int → Int) (limit_0 : Int) (tokenPlace_0 : Int → Int) (cur_0 : Int) (tokenEnd_0 : Int → Int) (tokenKind_0 : Int → Int) (fault_0 : Int) (k2 : 0 ≤ x2 ∧ x2 ≤ 0) (k4 : 0 ≤ x4 ∧ x4 ≤ 2009) (k5 : 1 ≤ x5 ∧ x5 ≤ 1) (k6 : 1 ≤ x6 ∧ x6 ≤ 1) (k8 : 2 ≤ x8 ∧ x8 ≤ 2000) (k10 : 0 ≤ x10 ∧ x10 ≤ 2000) (k11 : 2 ≤ x11 ∧ x11 ≤ 2) (k12 : 2 ≤ x12 ∧ x12 ≤ 2) (k14 : 0 ≤ x14 ∧ x14 ≤ 0) (k15 : 2 ≤ x15 ∧ x15 ≤ 2) (k16 : 0 ≤ x16 ∧ x16 ≤ 1999) (k17 : 0 ≤ x17 ∧ x17 ≤ 1999) (k18 : 0 ≤ x18 ∧ x18 ≤ 255) (k19 : 0 ≤ x19 ∧ x19 ≤ 255) (k21 : 1 ≤ x21 ∧ x21 ≤ 1) (k22 : 2 ≤ x22 ∧ x22 ≤ 2) (k23 : 0 ≤ x23 ∧ x23 ≤ 1998) (k24 : 1 ≤ x24 ∧ x24 ≤ 1999) (k25 : 0 ≤ x25 ∧ x25 ≤ 255) (k26 : 0 ≤ x26 ∧ x26 ≤ 65535) (k27 : 0 ≤ x27 ∧ x27 ≤ 0) (d0 : x23 + 1 ≤ x24 ∧ x24 ≤ x23 + 1) (d1 : x19 + 0 ≤ x18 ∧ x18 ≤ x19 + 0) (d2 : x16 + 0 ≤ x17 ∧ x17 ≤ x16 + 0) (f0 : x25 ≠ x26) (f1 : 1 * x26 + 0 ≤ 102) (f2 : (-1) * x26 + 0 ≤ (-102)) (f3 : ((x24 + 1) ≤ limit_0) → (x25 = (tape_0 (x24) % 256))) (f4 : (limit_0 ≤ x24) → (x25 = (-1))) (f5 : x24 = x23 + x21) (h6 : x23 = tokenPlace_0 (x4)) (g7 : x4 = cur_0) (f9 : x21 < x22) (f10 : x21 = x14 + 1) (f11 : x18 = x19) (f12 : 1 * x19 + 0 ≤ 105) (f13 : (-1) * x19 + 0 ≤ (-105)) (f14 : ((x17 + 1) ≤ limit_0) → (x18 = (tape_0 (x17) % 256))) (f15 : (limit_0 ≤ x17) → (x18 = (-1))) (f16 : x17 = x16 + x14) (h17 : x16 = tokenPlace_0 (x4)) (f18 : x14 < x15) (f19 : x11 = x12) (f20 : x11 = x8 - x10) (h21 : x10 = tokenPlace_0 (x4)) (h22 : x8 = tokenEnd_0 (x4)) (f24 : x5 = x6) (h25 : x5 = tokenKind_0 (x4)) (f27 : x2 = 0) (g28 : x2 = fault_0) (hK_0_1 : ∀ j : Int, 0 ≤ j → j < 2000 → (-128) ≤ tape_0 j ∧ tape_0 j ≤ 127) (hK_0_160 : ∀ j : Int, 0 ≤ j → j < 2010 → 0 ≤ tokenKind_0 j ∧ tokenKind_0 j ≤ 4) (hK_0_162 : ∀ j : Int, 0 ≤ j → j < 2010 → 0 ≤ tokenPlace_0 j ∧ tokenPlace_0 j ≤ 2000) (hK_0_163 : ∀ j : Int, 0 ≤ j → j < 2010 → 0 ≤ tokenEnd_0 j ∧ tokenEnd_0 j ≤ 2000) (kz_0_8 : 0 ≤ fault_0 ∧ fault_0 ≤ 5) (kz_0_10 : 0 ≤ limit_0 ∧ limit_0 ≤ 2000) (kz_0_158 : 0 ≤ cur_0 ∧ cur_0 ≤ 2009) : (x27 = 1) → (tokenKind_0 (cur_0) = 1) := by
  first | assumption | (clear f3 f4 f14 f15 hK_0_1 hK_0_160 hK_0_162 hK_0_163; omega) | (clear hK_0_1 hK_0_160 hK_0_162 hK_0_163; grind) | omega | grind
set_option maxHeartbeats 4000000 in
theorem vc_Mo_word_at_s5023_6_1 (x4 : Int) (x8 : Int) (x10 : Int) (x11 : Int) (x16 : Int) (x17 : Int) (x18 : Int) (x19 : Int) (x23 : Int) (x24 : Int) (x25 : Int) (x26 : Int) (x27 : Int) (tape_0 : Int → Int) (limit_0 : Int) (tokenPlace_0 : Int → Int) (cur_0 : Int) (tokenEnd_0 : Int → Int) (tokenKind_0 : Int → Int) (fault_0 : Int) (k4 : 0 ≤ x4 ∧ x4 ≤ 2009) (k8 : 2 ≤ x8 ∧ x8 ≤ 2000) (k10 : 0 ≤ x10 ∧ x10 ≤ 2000) (k11 : 2 ≤ x11 ∧ x11 ≤ 2) (k16 : 0 ≤ x16 ∧ x16 ≤ 1999) (k17 : 0 ≤ x17 ∧ x17 ≤ 1999) (k18 : 0 ≤ x18 ∧ x18 ≤ 255) (k19 : 0 ≤ x19 ∧ x19 ≤ 255) (k23 : 0 ≤ x23 ∧ x23 ≤ 1998) (k24 : 1 ≤ x24 ∧ x24 ≤ 1999) (k25 : 0 ≤ x25 ∧ x25 ≤ 255) (k26 : 0 ≤ x26 ∧ x26 ≤ 65535) (k27 : 0 ≤ x27 ∧ x27 ≤ 0) (d0 : x23 + 1 ≤ x24 ∧ x24 ≤ x23 + 1) (d1 : x19 + 0 ≤ x18 ∧ x18 ≤ x19 + 0) (d2 : x16 + 0 ≤ x17 ∧ x17 ≤ x16 + 0) (f0 : x25 ≠ x26) (f1 : 1 * x26 + 0 ≤ 102) (f2 : (-1) * x26 + 0 ≤ (-102)) (f3 : ((x24 + 1) ≤ limit_0) → (x25 = (tape_0 (x24) % 256))) (f4 : (limit_0 ≤ x24) → (x25 = (-1))) (h6 : x23 = tokenPlace_0 (x4)) (g7 : x4 = cur_0) (f12 : 1 * x19 + 0 ≤ 105) (f13 : (-1) * x19 + 0 ≤ (-105)) (f14 : ((x17 + 1) ≤ limit_0) → (x18 = (tape_0 (x17) % 256))) (f15 : (limit_0 ≤ x17) → (x18 = (-1))) (h17 : x16 = tokenPlace_0 (x4)) (f20 : x11 = x8 - x10) (h21 : x10 = tokenPlace_0 (x4)) (h22 : x8 = tokenEnd_0 (x4)) (kz_0_8 : 0 ≤ fault_0 ∧ fault_0 ≤ 5) (kz_0_10 : 0 ≤ limit_0 ∧ limit_0 ≤ 2000) (kz_0_158 : 0 ≤ cur_0 ∧ cur_0 ≤ 2009) : Wqif (fault_0) (cur_0) (limit_0) (tokenKind_0) (tokenPlace_0) (tokenEnd_0) (tape_0) (x27) := by
  first
    | exact ⟨fun z => by omega, fun z => by have := z.1; omega⟩
    | (have e := (‹x4 = cur_0›)
       rw [← e]
       refine ⟨fun z => ⟨by omega, wdS2.2 ⟨by omega, by omega, by omega, by rw [show tokenPlace_0 x4 + 0 = x17 by omega]; omega, by rw [show tokenPlace_0 x4 + 1 = x24 by omega]; omega⟩⟩, fun z => by omega⟩)
    | (have e := (‹x4 = cur_0›)
       rw [← e]
       refine ⟨fun z => by omega, fun z => ?_⟩
       have w := wdS2.1 z.2
       try (have q0 : tokenPlace_0 x4 + 0 = x17 := (by omega); rw [q0] at w)
       try (have q1 : tokenPlace_0 x4 + 1 = x24 := (by omega); rw [q1] at w)
       omega)
  
def o_Mo_word_at_s5023_6 : or_T := (102, 30, [(0, (2, 0, 0, [165])), (2, (0, 0, 0, [])), (3, (2, 0, 0, [274])), (4, (0, 0, 2009, [])), (5, (0, 1, 1, [])), (6, (0, 1, 1, [])), (7, (2, 0, 0, [277])), (8, (0, 2, 2000, [])), (9, (2, 0, 0, [276])), (10, (0, 0, 2000, [])), (11, (0, 2, 2, [])), (12, (0, 2, 2, [])), (14, (0, 0, 0, [])), (15, (0, 2, 2, [])), (16, (0, 0, 1999, [])), (17, (0, 0, 1999, [])), (18, (0, 0, 255, [])), (19, (0, 0, 255, [])), (21, (0, 1, 1, [])), (22, (0, 2, 2, [])), (23, (0, 0, 1998, [])), (24, (0, 1, 1999, [])), (25, (0, 0, 255, [])), (26, (0, 0, 65535, [])), (27, (0, 0, 0, []))], [(7, [25, 26], [1]), (23, [26], [102, 1]), (23, [26], [-102, -1]), (20, [24, 0, 25], [50, 1, 1, 1010, 1001, 4, 11, 0, 6, 4, 2, 1, 0, 0, 1, 2, 1, 10, 1, 2, 1, 2, 9, 5, 3, 1, 1, 1, 0, 0, 256]), (20, [0, 24, 25], [50, 1, 0, 10, 4, 7, 0, 3, 2, 0, 10, 1, 1, 1, 2, 1, 2, 0, -1]), (1, [24, 23, 21], []), (10, [23, 9, 4], []), (9, [4, 0], [158]), (9, [9, 0], [162]), (7, [21, 22], [2]), (6, [21, 14], [1]), (7, [18, 19], [0]), (23, [19], [105, 1]), (23, [19], [-105, -1]), (20, [17, 0, 18], [50, 1, 1, 1010, 1001, 4, 11, 0, 6, 4, 2, 1, 0, 0, 1, 2, 1, 10, 1, 2, 1, 2, 9, 5, 3, 1, 1, 1, 0, 0, 256]), (20, [0, 17, 18], [50, 1, 0, 10, 4, 7, 0, 3, 2, 0, 10, 1, 1, 1, 2, 1, 2, 0, -1]), (1, [17, 16, 14], []), (10, [16, 9, 4], []), (7, [14, 15], [2]), (7, [11, 12], [0]), (2, [11, 8, 10], []), (10, [10, 9, 4], []), (10, [8, 7, 4], []), (9, [7, 0], [163]), (7, [5, 6], [0]), (10, [5, 3, 4], []), (9, [3, 0], [160]), (8, [2], [0]), (9, [2, 0], [8])], [], [], [(20, [27, 0], [50, 1, 1, 1158, 1160, 4, 6, 1, 2, 1, 0, 0, 1, 1, 6, 3, 1, 160, 2, 1, 158, 0, 1]), (20, [0, 27], [60, 3, 4, 21, 8, 158, 10, 160, 162, 163, 1])], [], [(24, 23, 1, 1), (18, 19, 0, 0), (17, 16, 0, 0)])
theorem oo_Mo_word_at_s5023_6 {kA : Nat → ClassId} : or_ok PRD kA GG o_Mo_word_at_s5023_6 := by
  refine or_mk fun A ta ws vs hD hth hl => ?_
  intro t0 r0 t2 k2 t3 r3 t4 k4 t5 k5 t6 k6 t7 r7 t8 k8 t9 r9 t10 k10 t11 k11 t12 k12 t14 k14 t15 k15 t16 k16 t17 k17 t18 k18 t19 k19 t21 k21 t22 k22 t23 k23 t24 k24 t25 k25 t26 k26 t27 k27 d0 d1 d2 f0 f1 f2 f3 f4 f5 f6 f7 f8 f9 f10 f11 f12 f13 f14 f15 f16 f17 f18 f19 f20 f21 f22 f23 f24 f25 f26 f27 f28
  replace f6 := shm_107 f6
  replace f7 := shm_286 f7
  replace f8 := shm_301 f8
  replace f17 := shm_107 f17
  replace f21 := shm_107 f21
  replace f22 := shm_107 f22
  replace f23 := shm_1332 f23
  replace f25 := shm_107 f25
  replace f26 := shm_327 f26
  replace f28 := shm_293 f28
  have cr_0_1 := fdq_39 hD hth r0
  have cr_0_160 := fdq_33 hD hth r0
  have cr_0_162 := fdq_41 hD hth r0
  have cr_0_163 := fdq_42 hD hth r0
  have ad_9 : v_ad (n_v vs 9) = w_ar ws (n_v vs 0) 162 := congrArg v_ad f8
  have ad_7 : v_ad (n_v vs 7) = w_ar ws (n_v vs 0) 163 := congrArg v_ad f23
  have ad_3 : v_ad (n_v vs 3) = w_ar ws (n_v vs 0) 160 := congrArg v_ad f26
  simp only [ad_9] at f6
  have h6 : v_iv (n_v vs 23) = w_ei ws (w_ar ws (n_v vs 0) 162) (v_iv (n_v vs 4)) := f6
  have g7 : v_iv (n_v vs 4) = w_fi ws (n_v vs 0) 158 := congrArg v_iv f7
  simp only [ad_9] at f17
  have h17 : v_iv (n_v vs 16) = w_ei ws (w_ar ws (n_v vs 0) 162) (v_iv (n_v vs 4)) := f17
  simp only [ad_9] at f21
  have h21 : v_iv (n_v vs 10) = w_ei ws (w_ar ws (n_v vs 0) 162) (v_iv (n_v vs 4)) := f21
  simp only [ad_7] at f22
  have h22 : v_iv (n_v vs 8) = w_ei ws (w_ar ws (n_v vs 0) 163) (v_iv (n_v vs 4)) := f22
  simp only [ad_3] at f25
  have h25 : v_iv (n_v vs 5) = w_ei ws (w_ar ws (n_v vs 0) 160) (v_iv (n_v vs 4)) := f25
  have g28 : v_iv (n_v vs 2) = w_fi ws (n_v vs 0) 8 := congrArg v_iv f28
  have hK_0_1 := elq_7 hD hth cr_0_1
  have hK_0_160 := elq_6 hD hth cr_0_160
  have hK_0_162 := elq_8 hD hth cr_0_162
  have hK_0_163 := elq_9 hD hth cr_0_163
  have kz_0_8 := fdq_34 hD hth r0
  have kz_0_10 := fdq_43 hD hth r0
  have kz_0_158 := fdq_36 hD hth r0
  have nf0 : fc_1 PRD (20, [27, 0], [50, 1, 1, 1158, 1160, 4, 6, 1, 2, 1, 0, 0, 1, 1, 6, 3, 1, 160, 2, 1, 158, 0, 1]) ws (vs) := ⟨nf_in hl rfl, sgq_287 (vc_Mo_word_at_s5023_6_0 (v_iv (n_v vs 2)) (v_iv (n_v vs 4)) (v_iv (n_v vs 5)) (v_iv (n_v vs 6)) (v_iv (n_v vs 8)) (v_iv (n_v vs 10)) (v_iv (n_v vs 11)) (v_iv (n_v vs 12)) (v_iv (n_v vs 14)) (v_iv (n_v vs 15)) (v_iv (n_v vs 16)) (v_iv (n_v vs 17)) (v_iv (n_v vs 18)) (v_iv (n_v vs 19)) (v_iv (n_v vs 21)) (v_iv (n_v vs 22)) (v_iv (n_v vs 23)) (v_iv (n_v vs 24)) (v_iv (n_v vs 25)) (v_iv (n_v vs 26)) (v_iv (n_v vs 27)) (w_ei ws (w_ar ws (n_v vs 0) 1)) (w_fi ws (n_v vs 0) 10) (w_ei ws (w_ar ws (n_v vs 0) 162)) (w_fi ws (n_v vs 0) 158) (w_ei ws (w_ar ws (n_v vs 0) 163)) (w_ei ws (w_ar ws (n_v vs 0) 160)) (w_fi ws (n_v vs 0) 8) k2 k4 k5 k6 k8 k10 k11 k12 k14 k15 k16 k17 k18 k19 k21 k22 k23 k24 k25 k26 k27 d0 d1 d2 (shm_40 f0) (shm_83 f1) (shm_84 f2) (shm_541 f3) (shm_542 f4) (shm_12 f5) h6 g7 (shm_6 f9) (shm_4 f10) (shm_37 f11) (shm_71 f12) (shm_72 f13) (shm_541 f14) (shm_542 f15) (shm_12 f16) h17 (shm_6 f18) (shm_37 f19) (shm_14 f20) h21 h22 (shm_37 f24) h25 (shm_192 f27) g28 hK_0_1 hK_0_160 hK_0_162 hK_0_163 kz_0_8 kz_0_10 kz_0_158)⟩
  have nf1 : fc_1 PRD (20, [0, 27], [60, 3, 4, 21, 8, 158, 10, 160, 162, 163, 1]) ws (vs) := ⟨nf_in hl rfl, sgq_1868 (vc_Mo_word_at_s5023_6_1 (v_iv (n_v vs 4)) (v_iv (n_v vs 8)) (v_iv (n_v vs 10)) (v_iv (n_v vs 11)) (v_iv (n_v vs 16)) (v_iv (n_v vs 17)) (v_iv (n_v vs 18)) (v_iv (n_v vs 19)) (v_iv (n_v vs 23)) (v_iv (n_v vs 24)) (v_iv (n_v vs 25)) (v_iv (n_v vs 26)) (v_iv (n_v vs 27)) (w_ei ws (w_ar ws (n_v vs 0) 1)) (w_fi ws (n_v vs 0) 10) (w_ei ws (w_ar ws (n_v vs 0) 162)) (w_fi ws (n_v vs 0) 158) (w_ei ws (w_ar ws (n_v vs 0) 163)) (w_ei ws (w_ar ws (n_v vs 0) 160)) (w_fi ws (n_v vs 0) 8) k4 k8 k10 k11 k16 k17 k18 k19 k23 k24 k25 k26 k27 d0 d1 d2 (shm_40 f0) (shm_83 f1) (shm_84 f2) (shm_541 f3) (shm_542 f4) h6 g7 (shm_71 f12) (shm_72 f13) (shm_541 f14) (shm_542 f15) h17 (shm_14 f20) h21 h22 kz_0_8 kz_0_10 kz_0_158)⟩
  refine ⟨(fun _ h => (by cases h)), [], trivial, ?_, (fun _ h => (by cases h))⟩
  rw [List.append_nil]
  exact List.forall_mem_cons.mpr ⟨⟨show (20 : Nat) < 100 from by decide, nf0⟩, List.forall_mem_cons.mpr ⟨⟨show (20 : Nat) < 100 from by decide, nf1⟩, (fun _ h => (by cases h))⟩⟩
set_option maxHeartbeats 4000000 in
theorem vc_Mo_word_at_s5023_7_0 (x2 : Int) (x4 : Int) (x5 : Int) (x6 : Int) (x8 : Int) (x10 : Int) (x11 : Int) (x12 : Int) (x14 : Int) (x15 : Int) (x16 : Int) (x17 : Int) (x18 : Int) (x19 : Int) (x21 : Int) (x22 : Int) (x23 : Int) (x24 : Int) (x25 : Int) (x26 : Int) (x27 : Int) (tape_0 : Int → Int) (limit_0 : Int) (tokenPlace_0 : Int → Int) (cur_0 : Int) (tokenEnd_0 : Int → Int) (tokenKind_0 : Int → Int) (fault_0 : Int) (k2 : 0 ≤ x2 ∧ x2 ≤ 0) (k4 : 0 ≤ x4 ∧ x4 ≤ 2009) (k5 : 1 ≤ x5 ∧ x5 ≤ 1) (k6 : 1 ≤ x6 ∧ x6 ≤ 1) (k8 : 2 ≤ x8 ∧ x8 ≤ 2000) (k10 : 0 ≤ x10 ∧ x10 ≤ 2000) (k11 : 2 ≤ x11 ∧ x11 ≤ 2) (k12 : 2 ≤ x12 ∧ x12 ≤ 2) (k14 : 0 ≤ x14 ∧ x14 ≤ 0) (k15 : 2 ≤ x15 ∧ x15 ≤ 2) (k16 : 0 ≤ x16 ∧ x16 ≤ 1999) (k17 : 0 ≤ x17 ∧ x17 ≤ 1999) (k18 : 0 ≤ x18 ∧ x18 ≤ 255) (k19 : 0 ≤ x19 ∧ x19 ≤ 255) (k21 : 1 ≤ x21 ∧ x21 ≤ 1) (k22 : 2 ≤ x22 ∧ x22 ≤ 2) (k23 : 0 ≤ x23 ∧ x23 ≤ 1998) (k24 : 1 ≤ x24 ∧ x24 ≤ 1999) (k25 : 0 ≤ x25 ∧ x25 ≤ 255) (k26 : 0 ≤ x26 ∧ x26 ≤ 255) (k27 : 1 ≤ x27 ∧ x27 ≤ 1) (d0 : x26 + 0 ≤ x25 ∧ x25 ≤ x26 + 0) (d1 : x23 + 1 ≤ x24 ∧ x24 ≤ x23 + 1) (d2 : x19 + 0 ≤ x18 ∧ x18 ≤ x19 + 0) (d3 : x16 + 0 ≤ x17 ∧ x17 ≤ x16 + 0) (f0 : x25 = x26) (f1 : 1 * x26 + 0 ≤ 102) (f2 : (-1) * x26 + 0 ≤ (-102)) (f3 : ((x24 + 1) ≤ limit_0) → (x25 = (tape_0 (x24) % 256))) (f4 : (limit_0 ≤ x24) → (x25 = (-1))) (f5 : x24 = x23 + x21) (h6 : x23 = tokenPlace_0 (x4)) (g7 : x4 = cur_0) (f9 : x21 < x22) (f10 : x21 = x14 + 1) (f11 : x18 = x19) (f12 : 1 * x19 + 0 ≤ 105) (f13 : (-1) * x19 + 0 ≤ (-105)) (f14 : ((x17 + 1) ≤ limit_0) → (x18 = (tape_0 (x17) % 256))) (f15 : (limit_0 ≤ x17) → (x18 = (-1))) (f16 : x17 = x16 + x14) (h17 : x16 = tokenPlace_0 (x4)) (f18 : x14 < x15) (f19 : x11 = x12) (f20 : x11 = x8 - x10) (h21 : x10 = tokenPlace_0 (x4)) (h22 : x8 = tokenEnd_0 (x4)) (f24 : x5 = x6) (h25 : x5 = tokenKind_0 (x4)) (f27 : x2 = 0) (g28 : x2 = fault_0) (hK_0_1 : ∀ j : Int, 0 ≤ j → j < 2000 → (-128) ≤ tape_0 j ∧ tape_0 j ≤ 127) (hK_0_160 : ∀ j : Int, 0 ≤ j → j < 2010 → 0 ≤ tokenKind_0 j ∧ tokenKind_0 j ≤ 4) (hK_0_162 : ∀ j : Int, 0 ≤ j → j < 2010 → 0 ≤ tokenPlace_0 j ∧ tokenPlace_0 j ≤ 2000) (hK_0_163 : ∀ j : Int, 0 ≤ j → j < 2010 → 0 ≤ tokenEnd_0 j ∧ tokenEnd_0 j ≤ 2000) (kz_0_8 : 0 ≤ fault_0 ∧ fault_0 ≤ 5) (kz_0_10 : 0 ≤ limit_0 ∧ limit_0 ≤ 2000) (kz_0_158 : 0 ≤ cur_0 ∧ cur_0 ≤ 2009) : (x27 = 1) → (tokenKind_0 (cur_0) = 1) := by
  first | assumption | (clear f3 f4 f14 f15 hK_0_1 hK_0_160 hK_0_162 hK_0_163; omega) | (clear hK_0_1 hK_0_160 hK_0_162 hK_0_163; grind) | omega | grind
set_option maxHeartbeats 4000000 in
theorem vc_Mo_word_at_s5023_7_1 (x2 : Int) (x4 : Int) (x5 : Int) (x8 : Int) (x10 : Int) (x11 : Int) (x16 : Int) (x17 : Int) (x18 : Int) (x19 : Int) (x23 : Int) (x24 : Int) (x25 : Int) (x26 : Int) (x27 : Int) (tape_0 : Int → Int) (limit_0 : Int) (tokenPlace_0 : Int → Int) (cur_0 : Int) (tokenEnd_0 : Int → Int) (tokenKind_0 : Int → Int) (fault_0 : Int) (k2 : 0 ≤ x2 ∧ x2 ≤ 0) (k4 : 0 ≤ x4 ∧ x4 ≤ 2009) (k5 : 1 ≤ x5 ∧ x5 ≤ 1) (k8 : 2 ≤ x8 ∧ x8 ≤ 2000) (k10 : 0 ≤ x10 ∧ x10 ≤ 2000) (k11 : 2 ≤ x11 ∧ x11 ≤ 2) (k16 : 0 ≤ x16 ∧ x16 ≤ 1999) (k17 : 0 ≤ x17 ∧ x17 ≤ 1999) (k18 : 0 ≤ x18 ∧ x18 ≤ 255) (k19 : 0 ≤ x19 ∧ x19 ≤ 255) (k23 : 0 ≤ x23 ∧ x23 ≤ 1998) (k24 : 1 ≤ x24 ∧ x24 ≤ 1999) (k25 : 0 ≤ x25 ∧ x25 ≤ 255) (k26 : 0 ≤ x26 ∧ x26 ≤ 255) (k27 : 1 ≤ x27 ∧ x27 ≤ 1) (d0 : x26 + 0 ≤ x25 ∧ x25 ≤ x26 + 0) (d1 : x23 + 1 ≤ x24 ∧ x24 ≤ x23 + 1) (d2 : x19 + 0 ≤ x18 ∧ x18 ≤ x19 + 0) (d3 : x16 + 0 ≤ x17 ∧ x17 ≤ x16 + 0) (f1 : 1 * x26 + 0 ≤ 102) (f2 : (-1) * x26 + 0 ≤ (-102)) (f3 : ((x24 + 1) ≤ limit_0) → (x25 = (tape_0 (x24) % 256))) (f4 : (limit_0 ≤ x24) → (x25 = (-1))) (h6 : x23 = tokenPlace_0 (x4)) (g7 : x4 = cur_0) (f12 : 1 * x19 + 0 ≤ 105) (f13 : (-1) * x19 + 0 ≤ (-105)) (f14 : ((x17 + 1) ≤ limit_0) → (x18 = (tape_0 (x17) % 256))) (f15 : (limit_0 ≤ x17) → (x18 = (-1))) (h17 : x16 = tokenPlace_0 (x4)) (f20 : x11 = x8 - x10) (h21 : x10 = tokenPlace_0 (x4)) (h22 : x8 = tokenEnd_0 (x4)) (h25 : x5 = tokenKind_0 (x4)) (g28 : x2 = fault_0) (kz_0_8 : 0 ≤ fault_0 ∧ fault_0 ≤ 5) (kz_0_10 : 0 ≤ limit_0 ∧ limit_0 ≤ 2000) (kz_0_158 : 0 ≤ cur_0 ∧ cur_0 ≤ 2009) : Wqif (fault_0) (cur_0) (limit_0) (tokenKind_0) (tokenPlace_0) (tokenEnd_0) (tape_0) (x27) := by
  first
    | exact ⟨fun z => by omega, fun z => by have := z.1; omega⟩
    | (have e := (‹x4 = cur_0›)
       rw [← e]
       refine ⟨fun z => ⟨by omega, wdS2.2 ⟨by omega, by omega, by omega, by rw [show tokenPlace_0 x4 + 0 = x17 by omega]; omega, by rw [show tokenPlace_0 x4 + 1 = x24 by omega]; omega⟩⟩, fun z => by omega⟩)
    | (have e := (‹x4 = cur_0›)
       rw [← e]
       refine ⟨fun z => by omega, fun z => ?_⟩
       have w := wdS2.1 z.2
       try (have q0 : tokenPlace_0 x4 + 0 = x17 := (by omega); rw [q0] at w)
       try (have q1 : tokenPlace_0 x4 + 1 = x24 := (by omega); rw [q1] at w)
       omega)
  
def o_Mo_word_at_s5023_7 : or_T := (102, 30, [(0, (2, 0, 0, [165])), (2, (0, 0, 0, [])), (3, (2, 0, 0, [274])), (4, (0, 0, 2009, [])), (5, (0, 1, 1, [])), (6, (0, 1, 1, [])), (7, (2, 0, 0, [277])), (8, (0, 2, 2000, [])), (9, (2, 0, 0, [276])), (10, (0, 0, 2000, [])), (11, (0, 2, 2, [])), (12, (0, 2, 2, [])), (14, (0, 0, 0, [])), (15, (0, 2, 2, [])), (16, (0, 0, 1999, [])), (17, (0, 0, 1999, [])), (18, (0, 0, 255, [])), (19, (0, 0, 255, [])), (21, (0, 1, 1, [])), (22, (0, 2, 2, [])), (23, (0, 0, 1998, [])), (24, (0, 1, 1999, [])), (25, (0, 0, 255, [])), (26, (0, 0, 255, [])), (27, (0, 1, 1, []))], [(7, [25, 26], [0]), (23, [26], [102, 1]), (23, [26], [-102, -1]), (20, [24, 0, 25], [50, 1, 1, 1010, 1001, 4, 11, 0, 6, 4, 2, 1, 0, 0, 1, 2, 1, 10, 1, 2, 1, 2, 9, 5, 3, 1, 1, 1, 0, 0, 256]), (20, [0, 24, 25], [50, 1, 0, 10, 4, 7, 0, 3, 2, 0, 10, 1, 1, 1, 2, 1, 2, 0, -1]), (1, [24, 23, 21], []), (10, [23, 9, 4], []), (9, [4, 0], [158]), (9, [9, 0], [162]), (7, [21, 22], [2]), (6, [21, 14], [1]), (7, [18, 19], [0]), (23, [19], [105, 1]), (23, [19], [-105, -1]), (20, [17, 0, 18], [50, 1, 1, 1010, 1001, 4, 11, 0, 6, 4, 2, 1, 0, 0, 1, 2, 1, 10, 1, 2, 1, 2, 9, 5, 3, 1, 1, 1, 0, 0, 256]), (20, [0, 17, 18], [50, 1, 0, 10, 4, 7, 0, 3, 2, 0, 10, 1, 1, 1, 2, 1, 2, 0, -1]), (1, [17, 16, 14], []), (10, [16, 9, 4], []), (7, [14, 15], [2]), (7, [11, 12], [0]), (2, [11, 8, 10], []), (10, [10, 9, 4], []), (10, [8, 7, 4], []), (9, [7, 0], [163]), (7, [5, 6], [0]), (10, [5, 3, 4], []), (9, [3, 0], [160]), (8, [2], [0]), (9, [2, 0], [8])], [], [], [(20, [27, 0], [50, 1, 1, 1158, 1160, 4, 6, 1, 2, 1, 0, 0, 1, 1, 6, 3, 1, 160, 2, 1, 158, 0, 1]), (20, [0, 27], [60, 3, 4, 21, 8, 158, 10, 160, 162, 163, 1])], [], [(25, 26, 0, 0), (24, 23, 1, 1), (18, 19, 0, 0), (17, 16, 0, 0)])
theorem oo_Mo_word_at_s5023_7 {kA : Nat → ClassId} : or_ok PRD kA GG o_Mo_word_at_s5023_7 := by
  refine or_mk fun A ta ws vs hD hth hl => ?_
  intro t0 r0 t2 k2 t3 r3 t4 k4 t5 k5 t6 k6 t7 r7 t8 k8 t9 r9 t10 k10 t11 k11 t12 k12 t14 k14 t15 k15 t16 k16 t17 k17 t18 k18 t19 k19 t21 k21 t22 k22 t23 k23 t24 k24 t25 k25 t26 k26 t27 k27 d0 d1 d2 d3 f0 f1 f2 f3 f4 f5 f6 f7 f8 f9 f10 f11 f12 f13 f14 f15 f16 f17 f18 f19 f20 f21 f22 f23 f24 f25 f26 f27 f28
  replace f6 := shm_107 f6
  replace f7 := shm_286 f7
  replace f8 := shm_301 f8
  replace f17 := shm_107 f17
  replace f21 := shm_107 f21
  replace f22 := shm_107 f22
  replace f23 := shm_1332 f23
  replace f25 := shm_107 f25
  replace f26 := shm_327 f26
  replace f28 := shm_293 f28
  have cr_0_1 := fdq_39 hD hth r0
  have cr_0_160 := fdq_33 hD hth r0
  have cr_0_162 := fdq_41 hD hth r0
  have cr_0_163 := fdq_42 hD hth r0
  have ad_9 : v_ad (n_v vs 9) = w_ar ws (n_v vs 0) 162 := congrArg v_ad f8
  have ad_7 : v_ad (n_v vs 7) = w_ar ws (n_v vs 0) 163 := congrArg v_ad f23
  have ad_3 : v_ad (n_v vs 3) = w_ar ws (n_v vs 0) 160 := congrArg v_ad f26
  simp only [ad_9] at f6
  have h6 : v_iv (n_v vs 23) = w_ei ws (w_ar ws (n_v vs 0) 162) (v_iv (n_v vs 4)) := f6
  have g7 : v_iv (n_v vs 4) = w_fi ws (n_v vs 0) 158 := congrArg v_iv f7
  simp only [ad_9] at f17
  have h17 : v_iv (n_v vs 16) = w_ei ws (w_ar ws (n_v vs 0) 162) (v_iv (n_v vs 4)) := f17
  simp only [ad_9] at f21
  have h21 : v_iv (n_v vs 10) = w_ei ws (w_ar ws (n_v vs 0) 162) (v_iv (n_v vs 4)) := f21
  simp only [ad_7] at f22
  have h22 : v_iv (n_v vs 8) = w_ei ws (w_ar ws (n_v vs 0) 163) (v_iv (n_v vs 4)) := f22
  simp only [ad_3] at f25
  have h25 : v_iv (n_v vs 5) = w_ei ws (w_ar ws (n_v vs 0) 160) (v_iv (n_v vs 4)) := f25
  have g28 : v_iv (n_v vs 2) = w_fi ws (n_v vs 0) 8 := congrArg v_iv f28
  have hK_0_1 := elq_7 hD hth cr_0_1
  have hK_0_160 := elq_6 hD hth cr_0_160
  have hK_0_162 := elq_8 hD hth cr_0_162
  have hK_0_163 := elq_9 hD hth cr_0_163
  have kz_0_8 := fdq_34 hD hth r0
  have kz_0_10 := fdq_43 hD hth r0
  have kz_0_158 := fdq_36 hD hth r0
  have nf0 : fc_1 PRD (20, [27, 0], [50, 1, 1, 1158, 1160, 4, 6, 1, 2, 1, 0, 0, 1, 1, 6, 3, 1, 160, 2, 1, 158, 0, 1]) ws (vs) := ⟨nf_in hl rfl, sgq_287 (vc_Mo_word_at_s5023_7_0 (v_iv (n_v vs 2)) (v_iv (n_v vs 4)) (v_iv (n_v vs 5)) (v_iv (n_v vs 6)) (v_iv (n_v vs 8)) (v_iv (n_v vs 10)) (v_iv (n_v vs 11)) (v_iv (n_v vs 12)) (v_iv (n_v vs 14)) (v_iv (n_v vs 15)) (v_iv (n_v vs 16)) (v_iv (n_v vs 17)) (v_iv (n_v vs 18)) (v_iv (n_v vs 19)) (v_iv (n_v vs 21)) (v_iv (n_v vs 22)) (v_iv (n_v vs 23)) (v_iv (n_v vs 24)) (v_iv (n_v vs 25)) (v_iv (n_v vs 26)) (v_iv (n_v vs 27)) (w_ei ws (w_ar ws (n_v vs 0) 1)) (w_fi ws (n_v vs 0) 10) (w_ei ws (w_ar ws (n_v vs 0) 162)) (w_fi ws (n_v vs 0) 158) (w_ei ws (w_ar ws (n_v vs 0) 163)) (w_ei ws (w_ar ws (n_v vs 0) 160)) (w_fi ws (n_v vs 0) 8) k2 k4 k5 k6 k8 k10 k11 k12 k14 k15 k16 k17 k18 k19 k21 k22 k23 k24 k25 k26 k27 d0 d1 d2 d3 (shm_37 f0) (shm_83 f1) (shm_84 f2) (shm_541 f3) (shm_542 f4) (shm_12 f5) h6 g7 (shm_6 f9) (shm_4 f10) (shm_37 f11) (shm_71 f12) (shm_72 f13) (shm_541 f14) (shm_542 f15) (shm_12 f16) h17 (shm_6 f18) (shm_37 f19) (shm_14 f20) h21 h22 (shm_37 f24) h25 (shm_192 f27) g28 hK_0_1 hK_0_160 hK_0_162 hK_0_163 kz_0_8 kz_0_10 kz_0_158)⟩
  have nf1 : fc_1 PRD (20, [0, 27], [60, 3, 4, 21, 8, 158, 10, 160, 162, 163, 1]) ws (vs) := ⟨nf_in hl rfl, sgq_1868 (vc_Mo_word_at_s5023_7_1 (v_iv (n_v vs 2)) (v_iv (n_v vs 4)) (v_iv (n_v vs 5)) (v_iv (n_v vs 8)) (v_iv (n_v vs 10)) (v_iv (n_v vs 11)) (v_iv (n_v vs 16)) (v_iv (n_v vs 17)) (v_iv (n_v vs 18)) (v_iv (n_v vs 19)) (v_iv (n_v vs 23)) (v_iv (n_v vs 24)) (v_iv (n_v vs 25)) (v_iv (n_v vs 26)) (v_iv (n_v vs 27)) (w_ei ws (w_ar ws (n_v vs 0) 1)) (w_fi ws (n_v vs 0) 10) (w_ei ws (w_ar ws (n_v vs 0) 162)) (w_fi ws (n_v vs 0) 158) (w_ei ws (w_ar ws (n_v vs 0) 163)) (w_ei ws (w_ar ws (n_v vs 0) 160)) (w_fi ws (n_v vs 0) 8) k2 k4 k5 k8 k10 k11 k16 k17 k18 k19 k23 k24 k25 k26 k27 d0 d1 d2 d3 (shm_83 f1) (shm_84 f2) (shm_541 f3) (shm_542 f4) h6 g7 (shm_71 f12) (shm_72 f13) (shm_541 f14) (shm_542 f15) h17 (shm_14 f20) h21 h22 h25 g28 kz_0_8 kz_0_10 kz_0_158)⟩
  refine ⟨(fun _ h => (by cases h)), [], trivial, ?_, (fun _ h => (by cases h))⟩
  rw [List.append_nil]
  exact List.forall_mem_cons.mpr ⟨⟨show (20 : Nat) < 100 from by decide, nf0⟩, List.forall_mem_cons.mpr ⟨⟨show (20 : Nat) < 100 from by decide, nf1⟩, (fun _ h => (by cases h))⟩⟩
def n_Mo_word_at_s5023_an : List an_T := []
def t_Mo_word_at_s5023_ct : ct_L := [(1, 425, e_Mo_byteAt), (124, 448, e_jStr_length_v575), (172, 448, e_jStr_length_v575), (253, 453, e_jStr_charAt_v576), (253, 453, e_jStr_charAt_v580)]
set_option maxRecDepth 100000 in
theorem c_Mo_word_at_s5023 {l : Launch} {D : va_G} {kA : Nat → ClassId} (h_Mo_byteAt : ct_ok PRD l D kA GG y_Mo_byteAt z_Mo_byteAt e_Mo_byteAt) : ct_ok PRD l D kA GG y_Mo_word_at_s5023 z_Mo_word_at_s5023 e_Mo_word_at_s5023 := chk_all_ok (FT := [(342, 13, 160), (348, 13, 162), (351, 13, 163), (413, 13, 8), (1169, 13, 158)]) (PT := []) (CT := t_Mo_word_at_s5023_ct) (KT := []) (NT := []) (AN := n_Mo_word_at_s5023_an) (OT := [o_Mo_word_at_s5023_0, o_Mo_word_at_s5023_1, o_Mo_word_at_s5023_2, o_Mo_word_at_s5023_3, o_Mo_word_at_s5023_4, o_Mo_word_at_s5023_5, o_Mo_word_at_s5023_6, o_Mo_word_at_s5023_7]) 0 684 (List.forall_mem_cons.mpr ⟨oo_Mo_word_at_s5023_0, List.forall_mem_cons.mpr ⟨oo_Mo_word_at_s5023_1, List.forall_mem_cons.mpr ⟨oo_Mo_word_at_s5023_2, List.forall_mem_cons.mpr ⟨oo_Mo_word_at_s5023_3, List.forall_mem_cons.mpr ⟨oo_Mo_word_at_s5023_4, List.forall_mem_cons.mpr ⟨oo_Mo_word_at_s5023_5, List.forall_mem_cons.mpr ⟨oo_Mo_word_at_s5023_6, List.forall_mem_cons.mpr ⟨oo_Mo_word_at_s5023_7, List.forall_mem_nil _⟩⟩⟩⟩⟩⟩⟩⟩) (by decide +kernel) ⟨List.forall_mem_cons.mpr ⟨gf_Mo_342, List.forall_mem_cons.mpr ⟨gf_Mo_348, List.forall_mem_cons.mpr ⟨gf_Mo_351, List.forall_mem_cons.mpr ⟨gf_Mo_413, List.forall_mem_cons.mpr ⟨gf_Mo_1169, List.forall_mem_nil _⟩⟩⟩⟩⟩, List.forall_mem_nil _, List.forall_mem_cons.mpr ⟨cl_virtual (y := y_Mo_byteAt) (ci := 13) rfl rfl ⟨_, _, rfl⟩ (by decide +kernel) h_Mo_byteAt wm_2986 wm_9 wm_2983 wm_2985 wv_12_12 ⟨by decide, by decide, by decide +kernel⟩ (by decide), List.forall_mem_cons.mpr ⟨cl_string (y := y_jStr_length) (i := 23) rfl rfl (by decide +kernel) rfl c_jStr_length_v575 wm_674 wm_11 wm_3003 wm_672 wm_673 ⟨by decide, by decide, by decide +kernel⟩ (by decide), List.forall_mem_cons.mpr ⟨cl_string (y := y_jStr_length) (i := 23) rfl rfl (by decide +kernel) rfl c_jStr_length_v575 wm_674 wm_11 wm_3003 wm_672 wm_673 ⟨by decide, by decide, by decide +kernel⟩ (by decide), List.forall_mem_cons.mpr ⟨cl_string (y := y_jStr_charAt) (i := 23) rfl rfl (by decide +kernel) rfl c_jStr_charAt_v576 wm_684 wm_11 wm_3004 wm_682 wm_683 ⟨by decide, by decide, by decide +kernel⟩ (by decide), List.forall_mem_cons.mpr ⟨cl_string (y := y_jStr_charAt) (i := 23) rfl rfl (by decide +kernel) rfl c_jStr_charAt_v580 wm_684 wm_11 wm_3004 wm_682 wm_683 ⟨by decide, by decide, by decide +kernel⟩ (by decide), List.forall_mem_nil _⟩⟩⟩⟩⟩, List.forall_mem_nil _, List.forall_mem_nil _, GG_pl⟩ (by decide +kernel)

set_option maxHeartbeats 4000000 in
theorem vc_Mo_word_at_s5024_0_0 (x2 : Int) (x3 : Int) (fault_0 : Int) (tape_0 : Int → Int) (tokenKind_0 : Int → Int) (tokenPlace_0 : Int → Int) (tokenEnd_0 : Int → Int) (limit_0 : Int) (cur_0 : Int) (k2 : 1 ≤ x2 ∧ x2 ≤ 5) (k3 : 0 ≤ x3 ∧ x3 ≤ 0) (f0 : x3 = 0) (f1 : x2 ≠ 0) (g2 : x2 = fault_0) (hK_0_1 : ∀ j : Int, 0 ≤ j → j < 2000 → (-128) ≤ tape_0 j ∧ tape_0 j ≤ 127) (hK_0_160 : ∀ j : Int, 0 ≤ j → j < 2010 → 0 ≤ tokenKind_0 j ∧ tokenKind_0 j ≤ 4) (hK_0_162 : ∀ j : Int, 0 ≤ j → j < 2010 → 0 ≤ tokenPlace_0 j ∧ tokenPlace_0 j ≤ 2000) (hK_0_163 : ∀ j : Int, 0 ≤ j → j < 2010 → 0 ≤ tokenEnd_0 j ∧ tokenEnd_0 j ≤ 2000) (kz_0_8 : 0 ≤ fault_0 ∧ fault_0 ≤ 5) (kz_0_10 : 0 ≤ limit_0 ∧ limit_0 ≤ 2000) (kz_0_158 : 0 ≤ cur_0 ∧ cur_0 ≤ 2009) : (x3 = 1) → (tokenKind_0 (cur_0) = 1) := by
  first | assumption | (clear hK_0_1 hK_0_160 hK_0_162 hK_0_163; omega) | omega | grind
set_option maxHeartbeats 4000000 in
theorem vc_Mo_word_at_s5024_0_1 (x2 : Int) (x3 : Int) (fault_0 : Int) (tape_0 : Int → Int) (tokenKind_0 : Int → Int) (tokenPlace_0 : Int → Int) (tokenEnd_0 : Int → Int) (limit_0 : Int) (cur_0 : Int) (k2 : 1 ≤ x2 ∧ x2 ≤ 5) (k3 : 0 ≤ x3 ∧ x3 ≤ 0) (g2 : x2 = fault_0) (kz_0_8 : 0 ≤ fault_0 ∧ fault_0 ≤ 5) (kz_0_10 : 0 ≤ limit_0 ∧ limit_0 ≤ 2000) (kz_0_158 : 0 ≤ cur_0 ∧ cur_0 ≤ 2009) : Wqnot (fault_0) (cur_0) (limit_0) (tokenKind_0) (tokenPlace_0) (tokenEnd_0) (tape_0) (x3) := by
  first
    | exact ⟨fun z => by omega, fun z => by have := z.1; omega⟩
    | (have e := (‹x4 = cur_0›)
       rw [← e]
       refine ⟨fun z => ⟨by omega, wdS3.2 ⟨by omega, by omega, by omega, by rw [show tokenPlace_0 x4 + 0 = x17 by omega]; omega, by rw [show tokenPlace_0 x4 + 1 = x24 by omega]; omega, by rw [show tokenPlace_0 x4 + 2 = x31 by omega]; omega⟩⟩, fun z => by omega⟩)
    | (have e := (‹x4 = cur_0›)
       rw [← e]
       refine ⟨fun z => by omega, fun z => ?_⟩
       have w := wdS3.1 z.2
       try (have q0 : tokenPlace_0 x4 + 0 = x17 := (by omega); rw [q0] at w)
       try (have q1 : tokenPlace_0 x4 + 1 = x24 := (by omega); rw [q1] at w)
       try (have q2 : tokenPlace_0 x4 + 2 = x31 := (by omega); rw [q2] at w)
       omega)
  
def o_Mo_word_at_s5024_0 : or_T := (102, 6, [(0, (2, 0, 0, [165])), (2, (0, 1, 5, [])), (3, (0, 0, 0, []))], [(8, [3], [0]), (8, [2], [1]), (9, [2, 0], [8])], [], [], [(20, [3, 0], [50, 1, 1, 1158, 1160, 4, 6, 1, 2, 1, 0, 0, 1, 1, 6, 3, 1, 160, 2, 1, 158, 0, 1]), (20, [0, 3], [60, 3, 4, 27, 8, 158, 10, 160, 162, 163, 1])], [], [])
theorem oo_Mo_word_at_s5024_0 {kA : Nat → ClassId} : or_ok PRD kA GG o_Mo_word_at_s5024_0 := by
  refine or_mk fun A ta ws vs hD hth hl => ?_
  intro t0 r0 t2 k2 t3 k3 f0 f1 f2
  replace f2 := shm_293 f2
  have cr_0_1 := fdq_39 hD hth r0
  have cr_0_160 := fdq_33 hD hth r0
  have cr_0_162 := fdq_41 hD hth r0
  have cr_0_163 := fdq_42 hD hth r0
  have g2 : v_iv (n_v vs 2) = w_fi ws (n_v vs 0) 8 := congrArg v_iv f2
  have hK_0_1 := elq_7 hD hth cr_0_1
  have hK_0_160 := elq_6 hD hth cr_0_160
  have hK_0_162 := elq_8 hD hth cr_0_162
  have hK_0_163 := elq_9 hD hth cr_0_163
  have kz_0_8 := fdq_34 hD hth r0
  have kz_0_10 := fdq_43 hD hth r0
  have kz_0_158 := fdq_36 hD hth r0
  have nf0 : fc_1 PRD (20, [3, 0], [50, 1, 1, 1158, 1160, 4, 6, 1, 2, 1, 0, 0, 1, 1, 6, 3, 1, 160, 2, 1, 158, 0, 1]) ws (vs) := ⟨nf_in hl rfl, sgq_287 (vc_Mo_word_at_s5024_0_0 (v_iv (n_v vs 2)) (v_iv (n_v vs 3)) (w_fi ws (n_v vs 0) 8) (w_ei ws (w_ar ws (n_v vs 0) 1)) (w_ei ws (w_ar ws (n_v vs 0) 160)) (w_ei ws (w_ar ws (n_v vs 0) 162)) (w_ei ws (w_ar ws (n_v vs 0) 163)) (w_fi ws (n_v vs 0) 10) (w_fi ws (n_v vs 0) 158) k2 k3 (shm_192 f0) (shm_142 f1) g2 hK_0_1 hK_0_160 hK_0_162 hK_0_163 kz_0_8 kz_0_10 kz_0_158)⟩
  have nf1 : fc_1 PRD (20, [0, 3], [60, 3, 4, 27, 8, 158, 10, 160, 162, 163, 1]) ws (vs) := ⟨nf_in hl rfl, sgq_294 (vc_Mo_word_at_s5024_0_1 (v_iv (n_v vs 2)) (v_iv (n_v vs 3)) (w_fi ws (n_v vs 0) 8) (w_ei ws (w_ar ws (n_v vs 0) 1)) (w_ei ws (w_ar ws (n_v vs 0) 160)) (w_ei ws (w_ar ws (n_v vs 0) 162)) (w_ei ws (w_ar ws (n_v vs 0) 163)) (w_fi ws (n_v vs 0) 10) (w_fi ws (n_v vs 0) 158) k2 k3 g2 kz_0_8 kz_0_10 kz_0_158)⟩
  refine ⟨(fun _ h => (by cases h)), [], trivial, ?_, (fun _ h => (by cases h))⟩
  rw [List.append_nil]
  exact List.forall_mem_cons.mpr ⟨⟨show (20 : Nat) < 100 from by decide, nf0⟩, List.forall_mem_cons.mpr ⟨⟨show (20 : Nat) < 100 from by decide, nf1⟩, (fun _ h => (by cases h))⟩⟩
set_option maxHeartbeats 4000000 in
theorem vc_Mo_word_at_s5024_1_0 (x2 : Int) (x4 : Int) (x5 : Int) (x6 : Int) (x7 : Int) (tokenKind_0 : Int → Int) (cur_0 : Int) (fault_0 : Int) (tape_0 : Int → Int) (tokenPlace_0 : Int → Int) (tokenEnd_0 : Int → Int) (limit_0 : Int) (k2 : 0 ≤ x2 ∧ x2 ≤ 0) (k4 : 0 ≤ x4 ∧ x4 ≤ 2009) (k5 : 0 ≤ x5 ∧ x5 ≤ 4) (k6 : 1 ≤ x6 ∧ x6 ≤ 1) (k7 : 0 ≤ x7 ∧ x7 ≤ 0) (f0 : x7 = 0) (f1 : x5 ≠ x6) (h2 : x5 = tokenKind_0 (x4)) (g3 : x4 = cur_0) (f5 : x2 = 0) (g6 : x2 = fault_0) (hK_0_1 : ∀ j : Int, 0 ≤ j → j < 2000 → (-128) ≤ tape_0 j ∧ tape_0 j ≤ 127) (hK_0_160 : ∀ j : Int, 0 ≤ j → j < 2010 → 0 ≤ tokenKind_0 j ∧ tokenKind_0 j ≤ 4) (hK_0_162 : ∀ j : Int, 0 ≤ j → j < 2010 → 0 ≤ tokenPlace_0 j ∧ tokenPlace_0 j ≤ 2000) (hK_0_163 : ∀ j : Int, 0 ≤ j → j < 2010 → 0 ≤ tokenEnd_0 j ∧ tokenEnd_0 j ≤ 2000) (kz_0_8 : 0 ≤ fault_0 ∧ fault_0 ≤ 5) (kz_0_10 : 0 ≤ limit_0 ∧ limit_0 ≤ 2000) (kz_0_158 : 0 ≤ cur_0 ∧ cur_0 ≤ 2009) : (x7 = 1) → (tokenKind_0 (cur_0) = 1) := by
  first | assumption | (clear hK_0_1 hK_0_160 hK_0_162 hK_0_163; omega) | omega | grind
set_option maxHeartbeats 4000000 in
theorem vc_Mo_word_at_s5024_1_1 (x4 : Int) (x5 : Int) (x6 : Int) (x7 : Int) (tokenKind_0 : Int → Int) (cur_0 : Int) (fault_0 : Int) (tape_0 : Int → Int) (tokenPlace_0 : Int → Int) (tokenEnd_0 : Int → Int) (limit_0 : Int) (k4 : 0 ≤ x4 ∧ x4 ≤ 2009) (k5 : 0 ≤ x5 ∧ x5 ≤ 4) (k6 : 1 ≤ x6 ∧ x6 ≤ 1) (k7 : 0 ≤ x7 ∧ x7 ≤ 0) (f1 : x5 ≠ x6) (h2 : x5 = tokenKind_0 (x4)) (g3 : x4 = cur_0) (kz_0_8 : 0 ≤ fault_0 ∧ fault_0 ≤ 5) (kz_0_10 : 0 ≤ limit_0 ∧ limit_0 ≤ 2000) (kz_0_158 : 0 ≤ cur_0 ∧ cur_0 ≤ 2009) : Wqnot (fault_0) (cur_0) (limit_0) (tokenKind_0) (tokenPlace_0) (tokenEnd_0) (tape_0) (x7) := by
  first
    | exact ⟨fun z => by omega, fun z => by have := z.1; omega⟩
    | (have e := (‹x4 = cur_0›)
       rw [← e]
       refine ⟨fun z => ⟨by omega, wdS3.2 ⟨by omega, by omega, by omega, by rw [show tokenPlace_0 x4 + 0 = x17 by omega]; omega, by rw [show tokenPlace_0 x4 + 1 = x24 by omega]; omega, by rw [show tokenPlace_0 x4 + 2 = x31 by omega]; omega⟩⟩, fun z => by omega⟩)
    | (have e := (‹x4 = cur_0›)
       rw [← e]
       refine ⟨fun z => by omega, fun z => ?_⟩
       have w := wdS3.1 z.2
       try (have q0 : tokenPlace_0 x4 + 0 = x17 := (by omega); rw [q0] at w)
       try (have q1 : tokenPlace_0 x4 + 1 = x24 := (by omega); rw [q1] at w)
       try (have q2 : tokenPlace_0 x4 + 2 = x31 := (by omega); rw [q2] at w)
       omega)
  
def o_Mo_word_at_s5024_1 : or_T := (102, 10, [(0, (2, 0, 0, [165])), (2, (0, 0, 0, [])), (4, (0, 0, 2009, [])), (5, (0, 0, 4, [])), (6, (0, 1, 1, [])), (7, (0, 0, 0, []))], [(8, [7], [0]), (7, [5, 6], [1]), (10, [5, 3, 4], []), (9, [4, 0], [158]), (9, [3, 0], [160]), (8, [2], [0]), (9, [2, 0], [8])], [], [], [(20, [7, 0], [50, 1, 1, 1158, 1160, 4, 6, 1, 2, 1, 0, 0, 1, 1, 6, 3, 1, 160, 2, 1, 158, 0, 1]), (20, [0, 7], [60, 3, 4, 27, 8, 158, 10, 160, 162, 163, 1])], [], [])
theorem oo_Mo_word_at_s5024_1 {kA : Nat → ClassId} : or_ok PRD kA GG o_Mo_word_at_s5024_1 := by
  refine or_mk fun A ta ws vs hD hth hl => ?_
  intro t0 r0 t2 k2 t4 k4 t5 k5 t6 k6 t7 k7 f0 f1 f2 f3 f4 f5 f6
  replace f2 := shm_107 f2
  replace f3 := shm_286 f3
  replace f4 := shm_327 f4
  replace f6 := shm_293 f6
  have cr_0_1 := fdq_39 hD hth r0
  have cr_0_160 := fdq_33 hD hth r0
  have cr_0_162 := fdq_41 hD hth r0
  have cr_0_163 := fdq_42 hD hth r0
  have ad_3 : v_ad (n_v vs 3) = w_ar ws (n_v vs 0) 160 := congrArg v_ad f4
  simp only [ad_3] at f2
  have h2 : v_iv (n_v vs 5) = w_ei ws (w_ar ws (n_v vs 0) 160) (v_iv (n_v vs 4)) := f2
  have g3 : v_iv (n_v vs 4) = w_fi ws (n_v vs 0) 158 := congrArg v_iv f3
  have g6 : v_iv (n_v vs 2) = w_fi ws (n_v vs 0) 8 := congrArg v_iv f6
  have hK_0_1 := elq_7 hD hth cr_0_1
  have hK_0_160 := elq_6 hD hth cr_0_160
  have hK_0_162 := elq_8 hD hth cr_0_162
  have hK_0_163 := elq_9 hD hth cr_0_163
  have kz_0_8 := fdq_34 hD hth r0
  have kz_0_10 := fdq_43 hD hth r0
  have kz_0_158 := fdq_36 hD hth r0
  have nf0 : fc_1 PRD (20, [7, 0], [50, 1, 1, 1158, 1160, 4, 6, 1, 2, 1, 0, 0, 1, 1, 6, 3, 1, 160, 2, 1, 158, 0, 1]) ws (vs) := ⟨nf_in hl rfl, sgq_287 (vc_Mo_word_at_s5024_1_0 (v_iv (n_v vs 2)) (v_iv (n_v vs 4)) (v_iv (n_v vs 5)) (v_iv (n_v vs 6)) (v_iv (n_v vs 7)) (w_ei ws (w_ar ws (n_v vs 0) 160)) (w_fi ws (n_v vs 0) 158) (w_fi ws (n_v vs 0) 8) (w_ei ws (w_ar ws (n_v vs 0) 1)) (w_ei ws (w_ar ws (n_v vs 0) 162)) (w_ei ws (w_ar ws (n_v vs 0) 163)) (w_fi ws (n_v vs 0) 10) k2 k4 k5 k6 k7 (shm_192 f0) (shm_40 f1) h2 g3 (shm_192 f5) g6 hK_0_1 hK_0_160 hK_0_162 hK_0_163 kz_0_8 kz_0_10 kz_0_158)⟩
  have nf1 : fc_1 PRD (20, [0, 7], [60, 3, 4, 27, 8, 158, 10, 160, 162, 163, 1]) ws (vs) := ⟨nf_in hl rfl, sgq_294 (vc_Mo_word_at_s5024_1_1 (v_iv (n_v vs 4)) (v_iv (n_v vs 5)) (v_iv (n_v vs 6)) (v_iv (n_v vs 7)) (w_ei ws (w_ar ws (n_v vs 0) 160)) (w_fi ws (n_v vs 0) 158) (w_fi ws (n_v vs 0) 8) (w_ei ws (w_ar ws (n_v vs 0) 1)) (w_ei ws (w_ar ws (n_v vs 0) 162)) (w_ei ws (w_ar ws (n_v vs 0) 163)) (w_fi ws (n_v vs 0) 10) k4 k5 k6 k7 (shm_40 f1) h2 g3 kz_0_8 kz_0_10 kz_0_158)⟩
  refine ⟨(fun _ h => (by cases h)), [], trivial, ?_, (fun _ h => (by cases h))⟩
  rw [List.append_nil]
  exact List.forall_mem_cons.mpr ⟨⟨show (20 : Nat) < 100 from by decide, nf0⟩, List.forall_mem_cons.mpr ⟨⟨show (20 : Nat) < 100 from by decide, nf1⟩, (fun _ h => (by cases h))⟩⟩
set_option maxHeartbeats 4000000 in
theorem vc_Mo_word_at_s5024_2_0 (x2 : Int) (x4 : Int) (x5 : Int) (x6 : Int) (x8 : Int) (x10 : Int) (x11 : Int) (x12 : Int) (x13 : Int) (tokenPlace_0 : Int → Int) (cur_0 : Int) (tokenEnd_0 : Int → Int) (tokenKind_0 : Int → Int) (fault_0 : Int) (tape_0 : Int → Int) (limit_0 : Int) (k2 : 0 ≤ x2 ∧ x2 ≤ 0) (k4 : 0 ≤ x4 ∧ x4 ≤ 2009) (k5 : 1 ≤ x5 ∧ x5 ≤ 1) (k6 : 1 ≤ x6 ∧ x6 ≤ 1) (k8 : 0 ≤ x8 ∧ x8 ≤ 2000) (k10 : 0 ≤ x10 ∧ x10 ≤ 2000) (k11 : (-2000) ≤ x11 ∧ x11 ≤ 2000) (k12 : 3 ≤ x12 ∧ x12 ≤ 3) (k13 : 0 ≤ x13 ∧ x13 ≤ 0) (d0 : x8 + (-2000) ≤ x11 ∧ x11 ≤ x8 + 0) (f0 : x13 = 0) (f1 : x11 ≠ x12) (f2 : x11 = x8 - x10) (h3 : x10 = tokenPlace_0 (x4)) (g4 : x4 = cur_0) (h6 : x8 = tokenEnd_0 (x4)) (f8 : x5 = x6) (h9 : x5 = tokenKind_0 (x4)) (f11 : x2 = 0) (g12 : x2 = fault_0) (hK_0_1 : ∀ j : Int, 0 ≤ j → j < 2000 → (-128) ≤ tape_0 j ∧ tape_0 j ≤ 127) (hK_0_160 : ∀ j : Int, 0 ≤ j → j < 2010 → 0 ≤ tokenKind_0 j ∧ tokenKind_0 j ≤ 4) (hK_0_162 : ∀ j : Int, 0 ≤ j → j < 2010 → 0 ≤ tokenPlace_0 j ∧ tokenPlace_0 j ≤ 2000) (hK_0_163 : ∀ j : Int, 0 ≤ j → j < 2010 → 0 ≤ tokenEnd_0 j ∧ tokenEnd_0 j ≤ 2000) (kz_0_8 : 0 ≤ fault_0 ∧ fault_0 ≤ 5) (kz_0_10 : 0 ≤ limit_0 ∧ limit_0 ≤ 2000) (kz_0_158 : 0 ≤ cur_0 ∧ cur_0 ≤ 2009) : (x13 = 1) → (tokenKind_0 (cur_0) = 1) := by
  first | assumption | (clear hK_0_1 hK_0_160 hK_0_162 hK_0_163; omega) | omega | grind
set_option maxHeartbeats 4000000 in
theorem vc_Mo_word_at_s5024_2_1 (x4 : Int) (x8 : Int) (x10 : Int) (x11 : Int) (x12 : Int) (x13 : Int) (tokenPlace_0 : Int → Int) (cur_0 : Int) (tokenEnd_0 : Int → Int) (tokenKind_0 : Int → Int) (fault_0 : Int) (tape_0 : Int → Int) (limit_0 : Int) (k4 : 0 ≤ x4 ∧ x4 ≤ 2009) (k8 : 0 ≤ x8 ∧ x8 ≤ 2000) (k10 : 0 ≤ x10 ∧ x10 ≤ 2000) (k11 : (-2000) ≤ x11 ∧ x11 ≤ 2000) (k12 : 3 ≤ x12 ∧ x12 ≤ 3) (k13 : 0 ≤ x13 ∧ x13 ≤ 0) (f1 : x11 ≠ x12) (f2 : x11 = x8 - x10) (h3 : x10 = tokenPlace_0 (x4)) (g4 : x4 = cur_0) (h6 : x8 = tokenEnd_0 (x4)) (kz_0_8 : 0 ≤ fault_0 ∧ fault_0 ≤ 5) (kz_0_10 : 0 ≤ limit_0 ∧ limit_0 ≤ 2000) (kz_0_158 : 0 ≤ cur_0 ∧ cur_0 ≤ 2009) : Wqnot (fault_0) (cur_0) (limit_0) (tokenKind_0) (tokenPlace_0) (tokenEnd_0) (tape_0) (x13) := by
  first
    | exact ⟨fun z => by omega, fun z => by have := z.1; omega⟩
    | (have e := (‹x4 = cur_0›)
       rw [← e]
       refine ⟨fun z => ⟨by omega, wdS3.2 ⟨by omega, by omega, by omega, by rw [show tokenPlace_0 x4 + 0 = x17 by omega]; omega, by rw [show tokenPlace_0 x4 + 1 = x24 by omega]; omega, by rw [show tokenPlace_0 x4 + 2 = x31 by omega]; omega⟩⟩, fun z => by omega⟩)
    | (have e := (‹x4 = cur_0›)
       rw [← e]
       refine ⟨fun z => by omega, fun z => ?_⟩
       have w := wdS3.1 z.2
       try (have q0 : tokenPlace_0 x4 + 0 = x17 := (by omega); rw [q0] at w)
       try (have q1 : tokenPlace_0 x4 + 1 = x24 := (by omega); rw [q1] at w)
       try (have q2 : tokenPlace_0 x4 + 2 = x31 := (by omega); rw [q2] at w)
       omega)
  
def o_Mo_word_at_s5024_2 : or_T := (102, 16, [(0, (2, 0, 0, [165])), (2, (0, 0, 0, [])), (4, (0, 0, 2009, [])), (5, (0, 1, 1, [])), (6, (0, 1, 1, [])), (8, (0, 0, 2000, [])), (10, (0, 0, 2000, [])), (11, (0, -2000, 2000, [])), (12, (0, 3, 3, [])), (13, (0, 0, 0, []))], [(8, [13], [0]), (7, [11, 12], [1]), (2, [11, 8, 10], []), (10, [10, 9, 4], []), (9, [4, 0], [158]), (9, [9, 0], [162]), (10, [8, 7, 4], []), (9, [7, 0], [163]), (7, [5, 6], [0]), (10, [5, 3, 4], []), (9, [3, 0], [160]), (8, [2], [0]), (9, [2, 0], [8])], [], [], [(20, [13, 0], [50, 1, 1, 1158, 1160, 4, 6, 1, 2, 1, 0, 0, 1, 1, 6, 3, 1, 160, 2, 1, 158, 0, 1]), (20, [0, 13], [60, 3, 4, 27, 8, 158, 10, 160, 162, 163, 1])], [], [(11, 8, -2000, 0)])
theorem oo_Mo_word_at_s5024_2 {kA : Nat → ClassId} : or_ok PRD kA GG o_Mo_word_at_s5024_2 := by
  refine or_mk fun A ta ws vs hD hth hl => ?_
  intro t0 r0 t2 k2 t4 k4 t5 k5 t6 k6 t8 k8 t10 k10 t11 k11 t12 k12 t13 k13 d0 f0 f1 f2 f3 f4 f5 f6 f7 f8 f9 f10 f11 f12
  replace f3 := shm_107 f3
  replace f4 := shm_286 f4
  replace f5 := shm_301 f5
  replace f6 := shm_107 f6
  replace f7 := shm_1332 f7
  replace f9 := shm_107 f9
  replace f10 := shm_327 f10
  replace f12 := shm_293 f12
  have cr_0_1 := fdq_39 hD hth r0
  have cr_0_160 := fdq_33 hD hth r0
  have cr_0_162 := fdq_41 hD hth r0
  have cr_0_163 := fdq_42 hD hth r0
  have ad_9 : v_ad (n_v vs 9) = w_ar ws (n_v vs 0) 162 := congrArg v_ad f5
  have ad_7 : v_ad (n_v vs 7) = w_ar ws (n_v vs 0) 163 := congrArg v_ad f7
  have ad_3 : v_ad (n_v vs 3) = w_ar ws (n_v vs 0) 160 := congrArg v_ad f10
  simp only [ad_9] at f3
  have h3 : v_iv (n_v vs 10) = w_ei ws (w_ar ws (n_v vs 0) 162) (v_iv (n_v vs 4)) := f3
  have g4 : v_iv (n_v vs 4) = w_fi ws (n_v vs 0) 158 := congrArg v_iv f4
  simp only [ad_7] at f6
  have h6 : v_iv (n_v vs 8) = w_ei ws (w_ar ws (n_v vs 0) 163) (v_iv (n_v vs 4)) := f6
  simp only [ad_3] at f9
  have h9 : v_iv (n_v vs 5) = w_ei ws (w_ar ws (n_v vs 0) 160) (v_iv (n_v vs 4)) := f9
  have g12 : v_iv (n_v vs 2) = w_fi ws (n_v vs 0) 8 := congrArg v_iv f12
  have hK_0_1 := elq_7 hD hth cr_0_1
  have hK_0_160 := elq_6 hD hth cr_0_160
  have hK_0_162 := elq_8 hD hth cr_0_162
  have hK_0_163 := elq_9 hD hth cr_0_163
  have kz_0_8 := fdq_34 hD hth r0
  have kz_0_10 := fdq_43 hD hth r0
  have kz_0_158 := fdq_36 hD hth r0
  have nf0 : fc_1 PRD (20, [13, 0], [50, 1, 1, 1158, 1160, 4, 6, 1, 2, 1, 0, 0, 1, 1, 6, 3, 1, 160, 2, 1, 158, 0, 1]) ws (vs) := ⟨nf_in hl rfl, sgq_287 (vc_Mo_word_at_s5024_2_0 (v_iv (n_v vs 2)) (v_iv (n_v vs 4)) (v_iv (n_v vs 5)) (v_iv (n_v vs 6)) (v_iv (n_v vs 8)) (v_iv (n_v vs 10)) (v_iv (n_v vs 11)) (v_iv (n_v vs 12)) (v_iv (n_v vs 13)) (w_ei ws (w_ar ws (n_v vs 0) 162)) (w_fi ws (n_v vs 0) 158) (w_ei ws (w_ar ws (n_v vs 0) 163)) (w_ei ws (w_ar ws (n_v vs 0) 160)) (w_fi ws (n_v vs 0) 8) (w_ei ws (w_ar ws (n_v vs 0) 1)) (w_fi ws (n_v vs 0) 10) k2 k4 k5 k6 k8 k10 k11 k12 k13 d0 (shm_192 f0) (shm_40 f1) (shm_14 f2) h3 g4 h6 (shm_37 f8) h9 (shm_192 f11) g12 hK_0_1 hK_0_160 hK_0_162 hK_0_163 kz_0_8 kz_0_10 kz_0_158)⟩
  have nf1 : fc_1 PRD (20, [0, 13], [60, 3, 4, 27, 8, 158, 10, 160, 162, 163, 1]) ws (vs) := ⟨nf_in hl rfl, sgq_294 (vc_Mo_word_at_s5024_2_1 (v_iv (n_v vs 4)) (v_iv (n_v vs 8)) (v_iv (n_v vs 10)) (v_iv (n_v vs 11)) (v_iv (n_v vs 12)) (v_iv (n_v vs 13)) (w_ei ws (w_ar ws (n_v vs 0) 162)) (w_fi ws (n_v vs 0) 158) (w_ei ws (w_ar ws (n_v vs 0) 163)) (w_ei ws (w_ar ws (n_v vs 0) 160)) (w_fi ws (n_v vs 0) 8) (w_ei ws (w_ar ws (n_v vs 0) 1)) (w_fi ws (n_v vs 0) 10) k4 k8 k10 k11 k12 k13 (shm_40 f1) (shm_14 f2) h3 g4 h6 kz_0_8 kz_0_10 kz_0_158)⟩
  refine ⟨(fun _ h => (by cases h)), [], trivial, ?_, (fun _ h => (by cases h))⟩
  rw [List.append_nil]
  exact List.forall_mem_cons.mpr ⟨⟨show (20 : Nat) < 100 from by decide, nf0⟩, List.forall_mem_cons.mpr ⟨⟨show (20 : Nat) < 100 from by decide, nf1⟩, (fun _ h => (by cases h))⟩⟩
set_option maxHeartbeats 4000000 in
theorem vc_Mo_word_at_s5024_3_0 (x2 : Int) (x4 : Int) (x5 : Int) (x6 : Int) (x8 : Int) (x10 : Int) (x11 : Int) (x12 : Int) (x14 : Int) (x15 : Int) (x16 : Int) (x17 : Int) (x18 : Int) (x19 : Int) (x20 : Int) (tape_0 : Int → Int) (limit_0 : Int) (tokenPlace_0 : Int → Int) (cur_0 : Int) (tokenEnd_0 : Int → Int) (tokenKind_0 : Int → Int) (fault_0 : Int) (k2 : 0 ≤ x2 ∧ x2 ≤ 0) (k4 : 0 ≤ x4 ∧ x4 ≤ 2009) (k5 : 1 ≤ x5 ∧ x5 ≤ 1) (k6 : 1 ≤ x6 ∧ x6 ≤ 1) (k8 : 3 ≤ x8 ∧ x8 ≤ 2000) (k10 : 0 ≤ x10 ∧ x10 ≤ 2000) (k11 : 3 ≤ x11 ∧ x11 ≤ 3) (k12 : 3 ≤ x12 ∧ x12 ≤ 3) (k14 : 0 ≤ x14 ∧ x14 ≤ 0) (k15 : 3 ≤ x15 ∧ x15 ≤ 3) (k16 : 0 ≤ x16 ∧ x16 ≤ 2000) (k17 : 0 ≤ x17 ∧ x17 ≤ 2000) (k18 : (-1) ≤ x18 ∧ x18 ≤ (-1)) (k19 : 0 ≤ x19 ∧ x19 ≤ 65535) (k20 : 0 ≤ x20 ∧ x20 ≤ 0) (d0 : x16 + 0 ≤ x17 ∧ x17 ≤ x16 + 0) (f0 : x20 = 0) (f1 : x18 ≠ x19) (f2 : 1 * x19 + 0 ≤ 110) (f3 : (-1) * x19 + 0 ≤ (-110)) (f4 : ((x17 + 1) ≤ limit_0) → (x18 = (tape_0 (x17) % 256))) (f5 : (limit_0 ≤ x17) → (x18 = (-1))) (f6 : x17 = x16 + x14) (h7 : x16 = tokenPlace_0 (x4)) (g8 : x4 = cur_0) (f10 : x14 < x15) (f11 : x11 = x12) (f12 : x11 = x8 - x10) (h13 : x10 = tokenPlace_0 (x4)) (h14 : x8 = tokenEnd_0 (x4)) (f16 : x5 = x6) (h17 : x5 = tokenKind_0 (x4)) (f19 : x2 = 0) (g20 : x2 = fault_0) (hK_0_1 : ∀ j : Int, 0 ≤ j → j < 2000 → (-128) ≤ tape_0 j ∧ tape_0 j ≤ 127) (hK_0_160 : ∀ j : Int, 0 ≤ j → j < 2010 → 0 ≤ tokenKind_0 j ∧ tokenKind_0 j ≤ 4) (hK_0_162 : ∀ j : Int, 0 ≤ j → j < 2010 → 0 ≤ tokenPlace_0 j ∧ tokenPlace_0 j ≤ 2000) (hK_0_163 : ∀ j : Int, 0 ≤ j → j < 2010 → 0 ≤ tokenEnd_0 j ∧ tokenEnd_0 j ≤ 2000) (kz_0_8 : 0 ≤ fault_0 ∧ fault_0 ≤ 5) (kz_0_10 : 0 ≤ limit_0 ∧ limit_0 ≤ 2000) (kz_0_158 : 0 ≤ cur_0 ∧ cur_0 ≤ 2009) : (x20 = 1) → (tokenKind_0 (cur_0) = 1) := by
  first | assumption | (clear f4 f5 hK_0_1 hK_0_160 hK_0_162 hK_0_163; omega) | (clear hK_0_1 hK_0_160 hK_0_162 hK_0_163; grind) | omega | grind
set_option maxHeartbeats 4000000 in
theorem vc_Mo_word_at_s5024_3_1 (x4 : Int) (x8 : Int) (x10 : Int) (x11 : Int) (x16 : Int) (x17 : Int) (x18 : Int) (x20 : Int) (tape_0 : Int → Int) (limit_0 : Int) (tokenPlace_0 : Int → Int) (cur_0 : Int) (tokenEnd_0 : Int → Int) (tokenKind_0 : Int → Int) (fault_0 : Int) (k4 : 0 ≤ x4 ∧ x4 ≤ 2009) (k8 : 3 ≤ x8 ∧ x8 ≤ 2000) (k10 : 0 ≤ x10 ∧ x10 ≤ 2000) (k11 : 3 ≤ x11 ∧ x11 ≤ 3) (k16 : 0 ≤ x16 ∧ x16 ≤ 2000) (k17 : 0 ≤ x17 ∧ x17 ≤ 2000) (k18 : (-1) ≤ x18 ∧ x18 ≤ (-1)) (k20 : 0 ≤ x20 ∧ x20 ≤ 0) (d0 : x16 + 0 ≤ x17 ∧ x17 ≤ x16 + 0) (f4 : ((x17 + 1) ≤ limit_0) → (x18 = (tape_0 (x17) % 256))) (f5 : (limit_0 ≤ x17) → (x18 = (-1))) (h7 : x16 = tokenPlace_0 (x4)) (g8 : x4 = cur_0) (f12 : x11 = x8 - x10) (h13 : x10 = tokenPlace_0 (x4)) (h14 : x8 = tokenEnd_0 (x4)) (kz_0_8 : 0 ≤ fault_0 ∧ fault_0 ≤ 5) (kz_0_10 : 0 ≤ limit_0 ∧ limit_0 ≤ 2000) (kz_0_158 : 0 ≤ cur_0 ∧ cur_0 ≤ 2009) : Wqnot (fault_0) (cur_0) (limit_0) (tokenKind_0) (tokenPlace_0) (tokenEnd_0) (tape_0) (x20) := by
  first
    | exact ⟨fun z => by omega, fun z => by have := z.1; omega⟩
    | (have e := (‹x4 = cur_0›)
       rw [← e]
       refine ⟨fun z => ⟨by omega, wdS3.2 ⟨by omega, by omega, by omega, by rw [show tokenPlace_0 x4 + 0 = x17 by omega]; omega, by rw [show tokenPlace_0 x4 + 1 = x24 by omega]; omega, by rw [show tokenPlace_0 x4 + 2 = x31 by omega]; omega⟩⟩, fun z => by omega⟩)
    | (have e := (‹x4 = cur_0›)
       rw [← e]
       refine ⟨fun z => by omega, fun z => ?_⟩
       have w := wdS3.1 z.2
       try (have q0 : tokenPlace_0 x4 + 0 = x17 := (by omega); rw [q0] at w)
       try (have q1 : tokenPlace_0 x4 + 1 = x24 := (by omega); rw [q1] at w)
       try (have q2 : tokenPlace_0 x4 + 2 = x31 := (by omega); rw [q2] at w)
       omega)
  
def o_Mo_word_at_s5024_3 : or_T := (102, 23, [(0, (2, 0, 0, [165])), (2, (0, 0, 0, [])), (3, (2, 0, 0, [274])), (4, (0, 0, 2009, [])), (5, (0, 1, 1, [])), (6, (0, 1, 1, [])), (7, (2, 0, 0, [277])), (8, (0, 3, 2000, [])), (9, (2, 0, 0, [276])), (10, (0, 0, 2000, [])), (11, (0, 3, 3, [])), (12, (0, 3, 3, [])), (14, (0, 0, 0, [])), (15, (0, 3, 3, [])), (16, (0, 0, 2000, [])), (17, (0, 0, 2000, [])), (18, (0, -1, -1, [])), (19, (0, 0, 65535, [])), (20, (0, 0, 0, []))], [(8, [20], [0]), (7, [18, 19], [1]), (23, [19], [110, 1]), (23, [19], [-110, -1]), (20, [17, 0, 18], [50, 1, 1, 1010, 1001, 4, 11, 0, 6, 4, 2, 1, 0, 0, 1, 2, 1, 10, 1, 2, 1, 2, 9, 5, 3, 1, 1, 1, 0, 0, 256]), (20, [0, 17, 18], [50, 1, 0, 10, 4, 7, 0, 3, 2, 0, 10, 1, 1, 1, 2, 1, 2, 0, -1]), (1, [17, 16, 14], []), (10, [16, 9, 4], []), (9, [4, 0], [158]), (9, [9, 0], [162]), (7, [14, 15], [2]), (7, [11, 12], [0]), (2, [11, 8, 10], []), (10, [10, 9, 4], []), (10, [8, 7, 4], []), (9, [7, 0], [163]), (7, [5, 6], [0]), (10, [5, 3, 4], []), (9, [3, 0], [160]), (8, [2], [0]), (9, [2, 0], [8])], [], [], [(20, [20, 0], [50, 1, 1, 1158, 1160, 4, 6, 1, 2, 1, 0, 0, 1, 1, 6, 3, 1, 160, 2, 1, 158, 0, 1]), (20, [0, 20], [60, 3, 4, 27, 8, 158, 10, 160, 162, 163, 1])], [], [(17, 16, 0, 0)])
theorem oo_Mo_word_at_s5024_3 {kA : Nat → ClassId} : or_ok PRD kA GG o_Mo_word_at_s5024_3 := by
  refine or_mk fun A ta ws vs hD hth hl => ?_
  intro t0 r0 t2 k2 t3 r3 t4 k4 t5 k5 t6 k6 t7 r7 t8 k8 t9 r9 t10 k10 t11 k11 t12 k12 t14 k14 t15 k15 t16 k16 t17 k17 t18 k18 t19 k19 t20 k20 d0 f0 f1 f2 f3 f4 f5 f6 f7 f8 f9 f10 f11 f12 f13 f14 f15 f16 f17 f18 f19 f20
  replace f7 := shm_107 f7
  replace f8 := shm_286 f8
  replace f9 := shm_301 f9
  replace f13 := shm_107 f13
  replace f14 := shm_107 f14
  replace f15 := shm_1332 f15
  replace f17 := shm_107 f17
  replace f18 := shm_327 f18
  replace f20 := shm_293 f20
  have cr_0_1 := fdq_39 hD hth r0
  have cr_0_160 := fdq_33 hD hth r0
  have cr_0_162 := fdq_41 hD hth r0
  have cr_0_163 := fdq_42 hD hth r0
  have ad_9 : v_ad (n_v vs 9) = w_ar ws (n_v vs 0) 162 := congrArg v_ad f9
  have ad_7 : v_ad (n_v vs 7) = w_ar ws (n_v vs 0) 163 := congrArg v_ad f15
  have ad_3 : v_ad (n_v vs 3) = w_ar ws (n_v vs 0) 160 := congrArg v_ad f18
  simp only [ad_9] at f7
  have h7 : v_iv (n_v vs 16) = w_ei ws (w_ar ws (n_v vs 0) 162) (v_iv (n_v vs 4)) := f7
  have g8 : v_iv (n_v vs 4) = w_fi ws (n_v vs 0) 158 := congrArg v_iv f8
  simp only [ad_9] at f13
  have h13 : v_iv (n_v vs 10) = w_ei ws (w_ar ws (n_v vs 0) 162) (v_iv (n_v vs 4)) := f13
  simp only [ad_7] at f14
  have h14 : v_iv (n_v vs 8) = w_ei ws (w_ar ws (n_v vs 0) 163) (v_iv (n_v vs 4)) := f14
  simp only [ad_3] at f17
  have h17 : v_iv (n_v vs 5) = w_ei ws (w_ar ws (n_v vs 0) 160) (v_iv (n_v vs 4)) := f17
  have g20 : v_iv (n_v vs 2) = w_fi ws (n_v vs 0) 8 := congrArg v_iv f20
  have hK_0_1 := elq_7 hD hth cr_0_1
  have hK_0_160 := elq_6 hD hth cr_0_160
  have hK_0_162 := elq_8 hD hth cr_0_162
  have hK_0_163 := elq_9 hD hth cr_0_163
  have kz_0_8 := fdq_34 hD hth r0
  have kz_0_10 := fdq_43 hD hth r0
  have kz_0_158 := fdq_36 hD hth r0
  have nf0 : fc_1 PRD (20, [20, 0], [50, 1, 1, 1158, 1160, 4, 6, 1, 2, 1, 0, 0, 1, 1, 6, 3, 1, 160, 2, 1, 158, 0, 1]) ws (vs) := ⟨nf_in hl rfl, sgq_287 (vc_Mo_word_at_s5024_3_0 (v_iv (n_v vs 2)) (v_iv (n_v vs 4)) (v_iv (n_v vs 5)) (v_iv (n_v vs 6)) (v_iv (n_v vs 8)) (v_iv (n_v vs 10)) (v_iv (n_v vs 11)) (v_iv (n_v vs 12)) (v_iv (n_v vs 14)) (v_iv (n_v vs 15)) (v_iv (n_v vs 16)) (v_iv (n_v vs 17)) (v_iv (n_v vs 18)) (v_iv (n_v vs 19)) (v_iv (n_v vs 20)) (w_ei ws (w_ar ws (n_v vs 0) 1)) (w_fi ws (n_v vs 0) 10) (w_ei ws (w_ar ws (n_v vs 0) 162)) (w_fi ws (n_v vs 0) 158) (w_ei ws (w_ar ws (n_v vs 0) 163)) (w_ei ws (w_ar ws (n_v vs 0) 160)) (w_fi ws (n_v vs 0) 8) k2 k4 k5 k6 k8 k10 k11 k12 k14 k15 k16 k17 k18 k19 k20 d0 (shm_192 f0) (shm_40 f1) (shm_53 f2) (shm_54 f3) (shm_541 f4) (shm_542 f5) (shm_12 f6) h7 g8 (shm_6 f10) (shm_37 f11) (shm_14 f12) h13 h14 (shm_37 f16) h17 (shm_192 f19) g20 hK_0_1 hK_0_160 hK_0_162 hK_0_163 kz_0_8 kz_0_10 kz_0_158)⟩
  have nf1 : fc_1 PRD (20, [0, 20], [60, 3, 4, 27, 8, 158, 10, 160, 162, 163, 1]) ws (vs) := ⟨nf_in hl rfl, sgq_294 (vc_Mo_word_at_s5024_3_1 (v_iv (n_v vs 4)) (v_iv (n_v vs 8)) (v_iv (n_v vs 10)) (v_iv (n_v vs 11)) (v_iv (n_v vs 16)) (v_iv (n_v vs 17)) (v_iv (n_v vs 18)) (v_iv (n_v vs 20)) (w_ei ws (w_ar ws (n_v vs 0) 1)) (w_fi ws (n_v vs 0) 10) (w_ei ws (w_ar ws (n_v vs 0) 162)) (w_fi ws (n_v vs 0) 158) (w_ei ws (w_ar ws (n_v vs 0) 163)) (w_ei ws (w_ar ws (n_v vs 0) 160)) (w_fi ws (n_v vs 0) 8) k4 k8 k10 k11 k16 k17 k18 k20 d0 (shm_541 f4) (shm_542 f5) h7 g8 (shm_14 f12) h13 h14 kz_0_8 kz_0_10 kz_0_158)⟩
  refine ⟨(fun _ h => (by cases h)), [], trivial, ?_, (fun _ h => (by cases h))⟩
  rw [List.append_nil]
  exact List.forall_mem_cons.mpr ⟨⟨show (20 : Nat) < 100 from by decide, nf0⟩, List.forall_mem_cons.mpr ⟨⟨show (20 : Nat) < 100 from by decide, nf1⟩, (fun _ h => (by cases h))⟩⟩
set_option maxHeartbeats 4000000 in
theorem vc_Mo_word_at_s5024_4_0 (x2 : Int) (x4 : Int) (x5 : Int) (x6 : Int) (x8 : Int) (x10 : Int) (x11 : Int) (x12 : Int) (x14 : Int) (x15 : Int) (x16 : Int) (x17 : Int) (x18 : Int) (x19 : Int) (x20 : Int) (tape_0 : Int → Int) (limit_0 : Int) (tokenPlace_0 : Int → Int) (cur_0 : Int) (tokenEnd_0 : Int → Int) (tokenKind_0 : Int → Int) (fault_0 : Int) (k2 : 0 ≤ x2 ∧ x2 ≤ 0) (k4 : 0 ≤ x4 ∧ x4 ≤ 2009) (k5 : 1 ≤ x5 ∧ x5 ≤ 1) (k6 : 1 ≤ x6 ∧ x6 ≤ 1) (k8 : 3 ≤ x8 ∧ x8 ≤ 2000) (k10 : 0 ≤ x10 ∧ x10 ≤ 2000) (k11 : 3 ≤ x11 ∧ x11 ≤ 3) (k12 : 3 ≤ x12 ∧ x12 ≤ 3) (k14 : 0 ≤ x14 ∧ x14 ≤ 0) (k15 : 3 ≤ x15 ∧ x15 ≤ 3) (k16 : 0 ≤ x16 ∧ x16 ≤ 1999) (k17 : 0 ≤ x17 ∧ x17 ≤ 1999) (k18 : 0 ≤ x18 ∧ x18 ≤ 255) (k19 : 0 ≤ x19 ∧ x19 ≤ 65535) (k20 : 0 ≤ x20 ∧ x20 ≤ 0) (d0 : x16 + 0 ≤ x17 ∧ x17 ≤ x16 + 0) (f0 : x20 = 0) (f1 : x18 ≠ x19) (f2 : 1 * x19 + 0 ≤ 110) (f3 : (-1) * x19 + 0 ≤ (-110)) (f4 : ((x17 + 1) ≤ limit_0) → (x18 = (tape_0 (x17) % 256))) (f5 : (limit_0 ≤ x17) → (x18 = (-1))) (f6 : x17 = x16 + x14) (h7 : x16 = tokenPlace_0 (x4)) (g8 : x4 = cur_0) (f10 : x14 < x15) (f11 : x11 = x12) (f12 : x11 = x8 - x10) (h13 : x10 = tokenPlace_0 (x4)) (h14 : x8 = tokenEnd_0 (x4)) (f16 : x5 = x6) (h17 : x5 = tokenKind_0 (x4)) (f19 : x2 = 0) (g20 : x2 = fault_0) (hK_0_1 : ∀ j : Int, 0 ≤ j → j < 2000 → (-128) ≤ tape_0 j ∧ tape_0 j ≤ 127) (hK_0_160 : ∀ j : Int, 0 ≤ j → j < 2010 → 0 ≤ tokenKind_0 j ∧ tokenKind_0 j ≤ 4) (hK_0_162 : ∀ j : Int, 0 ≤ j → j < 2010 → 0 ≤ tokenPlace_0 j ∧ tokenPlace_0 j ≤ 2000) (hK_0_163 : ∀ j : Int, 0 ≤ j → j < 2010 → 0 ≤ tokenEnd_0 j ∧ tokenEnd_0 j ≤ 2000) (kz_0_8 : 0 ≤ fault_0 ∧ fault_0 ≤ 5) (kz_0_10 : 0 ≤ limit_0 ∧ limit_0 ≤ 2000) (kz_0_158 : 0 ≤ cur_0 ∧ cur_0 ≤ 2009) : (x20 = 1) → (tokenKind_0 (cur_0) = 1) := by
  first | assumption | (clear f4 f5 hK_0_1 hK_0_160 hK_0_162 hK_0_163; omega) | (clear hK_0_1 hK_0_160 hK_0_162 hK_0_163; grind) | omega | grind
set_option maxHeartbeats 4000000 in
theorem vc_Mo_word_at_s5024_4_1 (x4 : Int) (x8 : Int) (x10 : Int) (x11 : Int) (x16 : Int) (x17 : Int) (x18 : Int) (x19 : Int) (x20 : Int) (tape_0 : Int → Int) (limit_0 : Int) (tokenPlace_0 : Int → Int) (cur_0 : Int) (tokenEnd_0 : Int → Int) (tokenKind_0 : Int → Int) (fault_0 : Int) (k4 : 0 ≤ x4 ∧ x4 ≤ 2009) (k8 : 3 ≤ x8 ∧ x8 ≤ 2000) (k10 : 0 ≤ x10 ∧ x10 ≤ 2000) (k11 : 3 ≤ x11 ∧ x11 ≤ 3) (k16 : 0 ≤ x16 ∧ x16 ≤ 1999) (k17 : 0 ≤ x17 ∧ x17 ≤ 1999) (k18 : 0 ≤ x18 ∧ x18 ≤ 255) (k19 : 0 ≤ x19 ∧ x19 ≤ 65535) (k20 : 0 ≤ x20 ∧ x20 ≤ 0) (d0 : x16 + 0 ≤ x17 ∧ x17 ≤ x16 + 0) (f1 : x18 ≠ x19) (f2 : 1 * x19 + 0 ≤ 110) (f3 : (-1) * x19 + 0 ≤ (-110)) (f4 : ((x17 + 1) ≤ limit_0) → (x18 = (tape_0 (x17) % 256))) (f5 : (limit_0 ≤ x17) → (x18 = (-1))) (h7 : x16 = tokenPlace_0 (x4)) (g8 : x4 = cur_0) (f12 : x11 = x8 - x10) (h13 : x10 = tokenPlace_0 (x4)) (h14 : x8 = tokenEnd_0 (x4)) (kz_0_8 : 0 ≤ fault_0 ∧ fault_0 ≤ 5) (kz_0_10 : 0 ≤ limit_0 ∧ limit_0 ≤ 2000) (kz_0_158 : 0 ≤ cur_0 ∧ cur_0 ≤ 2009) : Wqnot (fault_0) (cur_0) (limit_0) (tokenKind_0) (tokenPlace_0) (tokenEnd_0) (tape_0) (x20) := by
  first
    | exact ⟨fun z => by omega, fun z => by have := z.1; omega⟩
    | (have e := (‹x4 = cur_0›)
       rw [← e]
       refine ⟨fun z => ⟨by omega, wdS3.2 ⟨by omega, by omega, by omega, by rw [show tokenPlace_0 x4 + 0 = x17 by omega]; omega, by rw [show tokenPlace_0 x4 + 1 = x24 by omega]; omega, by rw [show tokenPlace_0 x4 + 2 = x31 by omega]; omega⟩⟩, fun z => by omega⟩)
    | (have e := (‹x4 = cur_0›)
       rw [← e]
       refine ⟨fun z => by omega, fun z => ?_⟩
       have w := wdS3.1 z.2
       try (have q0 : tokenPlace_0 x4 + 0 = x17 := (by omega); rw [q0] at w)
       try (have q1 : tokenPlace_0 x4 + 1 = x24 := (by omega); rw [q1] at w)
       try (have q2 : tokenPlace_0 x4 + 2 = x31 := (by omega); rw [q2] at w)
       omega)
  
def o_Mo_word_at_s5024_4 : or_T := (102, 23, [(0, (2, 0, 0, [165])), (2, (0, 0, 0, [])), (3, (2, 0, 0, [274])), (4, (0, 0, 2009, [])), (5, (0, 1, 1, [])), (6, (0, 1, 1, [])), (7, (2, 0, 0, [277])), (8, (0, 3, 2000, [])), (9, (2, 0, 0, [276])), (10, (0, 0, 2000, [])), (11, (0, 3, 3, [])), (12, (0, 3, 3, [])), (14, (0, 0, 0, [])), (15, (0, 3, 3, [])), (16, (0, 0, 1999, [])), (17, (0, 0, 1999, [])), (18, (0, 0, 255, [])), (19, (0, 0, 65535, [])), (20, (0, 0, 0, []))], [(8, [20], [0]), (7, [18, 19], [1]), (23, [19], [110, 1]), (23, [19], [-110, -1]), (20, [17, 0, 18], [50, 1, 1, 1010, 1001, 4, 11, 0, 6, 4, 2, 1, 0, 0, 1, 2, 1, 10, 1, 2, 1, 2, 9, 5, 3, 1, 1, 1, 0, 0, 256]), (20, [0, 17, 18], [50, 1, 0, 10, 4, 7, 0, 3, 2, 0, 10, 1, 1, 1, 2, 1, 2, 0, -1]), (1, [17, 16, 14], []), (10, [16, 9, 4], []), (9, [4, 0], [158]), (9, [9, 0], [162]), (7, [14, 15], [2]), (7, [11, 12], [0]), (2, [11, 8, 10], []), (10, [10, 9, 4], []), (10, [8, 7, 4], []), (9, [7, 0], [163]), (7, [5, 6], [0]), (10, [5, 3, 4], []), (9, [3, 0], [160]), (8, [2], [0]), (9, [2, 0], [8])], [], [], [(20, [20, 0], [50, 1, 1, 1158, 1160, 4, 6, 1, 2, 1, 0, 0, 1, 1, 6, 3, 1, 160, 2, 1, 158, 0, 1]), (20, [0, 20], [60, 3, 4, 27, 8, 158, 10, 160, 162, 163, 1])], [], [(17, 16, 0, 0)])
theorem oo_Mo_word_at_s5024_4 {kA : Nat → ClassId} : or_ok PRD kA GG o_Mo_word_at_s5024_4 := by
  refine or_mk fun A ta ws vs hD hth hl => ?_
  intro t0 r0 t2 k2 t3 r3 t4 k4 t5 k5 t6 k6 t7 r7 t8 k8 t9 r9 t10 k10 t11 k11 t12 k12 t14 k14 t15 k15 t16 k16 t17 k17 t18 k18 t19 k19 t20 k20 d0 f0 f1 f2 f3 f4 f5 f6 f7 f8 f9 f10 f11 f12 f13 f14 f15 f16 f17 f18 f19 f20
  replace f7 := shm_107 f7
  replace f8 := shm_286 f8
  replace f9 := shm_301 f9
  replace f13 := shm_107 f13
  replace f14 := shm_107 f14
  replace f15 := shm_1332 f15
  replace f17 := shm_107 f17
  replace f18 := shm_327 f18
  replace f20 := shm_293 f20
  have cr_0_1 := fdq_39 hD hth r0
  have cr_0_160 := fdq_33 hD hth r0
  have cr_0_162 := fdq_41 hD hth r0
  have cr_0_163 := fdq_42 hD hth r0
  have ad_9 : v_ad (n_v vs 9) = w_ar ws (n_v vs 0) 162 := congrArg v_ad f9
  have ad_7 : v_ad (n_v vs 7) = w_ar ws (n_v vs 0) 163 := congrArg v_ad f15
  have ad_3 : v_ad (n_v vs 3) = w_ar ws (n_v vs 0) 160 := congrArg v_ad f18
  simp only [ad_9] at f7
  have h7 : v_iv (n_v vs 16) = w_ei ws (w_ar ws (n_v vs 0) 162) (v_iv (n_v vs 4)) := f7
  have g8 : v_iv (n_v vs 4) = w_fi ws (n_v vs 0) 158 := congrArg v_iv f8
  simp only [ad_9] at f13
  have h13 : v_iv (n_v vs 10) = w_ei ws (w_ar ws (n_v vs 0) 162) (v_iv (n_v vs 4)) := f13
  simp only [ad_7] at f14
  have h14 : v_iv (n_v vs 8) = w_ei ws (w_ar ws (n_v vs 0) 163) (v_iv (n_v vs 4)) := f14
  simp only [ad_3] at f17
  have h17 : v_iv (n_v vs 5) = w_ei ws (w_ar ws (n_v vs 0) 160) (v_iv (n_v vs 4)) := f17
  have g20 : v_iv (n_v vs 2) = w_fi ws (n_v vs 0) 8 := congrArg v_iv f20
  have hK_0_1 := elq_7 hD hth cr_0_1
  have hK_0_160 := elq_6 hD hth cr_0_160
  have hK_0_162 := elq_8 hD hth cr_0_162
  have hK_0_163 := elq_9 hD hth cr_0_163
  have kz_0_8 := fdq_34 hD hth r0
  have kz_0_10 := fdq_43 hD hth r0
  have kz_0_158 := fdq_36 hD hth r0
  have nf0 : fc_1 PRD (20, [20, 0], [50, 1, 1, 1158, 1160, 4, 6, 1, 2, 1, 0, 0, 1, 1, 6, 3, 1, 160, 2, 1, 158, 0, 1]) ws (vs) := ⟨nf_in hl rfl, sgq_287 (vc_Mo_word_at_s5024_4_0 (v_iv (n_v vs 2)) (v_iv (n_v vs 4)) (v_iv (n_v vs 5)) (v_iv (n_v vs 6)) (v_iv (n_v vs 8)) (v_iv (n_v vs 10)) (v_iv (n_v vs 11)) (v_iv (n_v vs 12)) (v_iv (n_v vs 14)) (v_iv (n_v vs 15)) (v_iv (n_v vs 16)) (v_iv (n_v vs 17)) (v_iv (n_v vs 18)) (v_iv (n_v vs 19)) (v_iv (n_v vs 20)) (w_ei ws (w_ar ws (n_v vs 0) 1)) (w_fi ws (n_v vs 0) 10) (w_ei ws (w_ar ws (n_v vs 0) 162)) (w_fi ws (n_v vs 0) 158) (w_ei ws (w_ar ws (n_v vs 0) 163)) (w_ei ws (w_ar ws (n_v vs 0) 160)) (w_fi ws (n_v vs 0) 8) k2 k4 k5 k6 k8 k10 k11 k12 k14 k15 k16 k17 k18 k19 k20 d0 (shm_192 f0) (shm_40 f1) (shm_53 f2) (shm_54 f3) (shm_541 f4) (shm_542 f5) (shm_12 f6) h7 g8 (shm_6 f10) (shm_37 f11) (shm_14 f12) h13 h14 (shm_37 f16) h17 (shm_192 f19) g20 hK_0_1 hK_0_160 hK_0_162 hK_0_163 kz_0_8 kz_0_10 kz_0_158)⟩
  have nf1 : fc_1 PRD (20, [0, 20], [60, 3, 4, 27, 8, 158, 10, 160, 162, 163, 1]) ws (vs) := ⟨nf_in hl rfl, sgq_294 (vc_Mo_word_at_s5024_4_1 (v_iv (n_v vs 4)) (v_iv (n_v vs 8)) (v_iv (n_v vs 10)) (v_iv (n_v vs 11)) (v_iv (n_v vs 16)) (v_iv (n_v vs 17)) (v_iv (n_v vs 18)) (v_iv (n_v vs 19)) (v_iv (n_v vs 20)) (w_ei ws (w_ar ws (n_v vs 0) 1)) (w_fi ws (n_v vs 0) 10) (w_ei ws (w_ar ws (n_v vs 0) 162)) (w_fi ws (n_v vs 0) 158) (w_ei ws (w_ar ws (n_v vs 0) 163)) (w_ei ws (w_ar ws (n_v vs 0) 160)) (w_fi ws (n_v vs 0) 8) k4 k8 k10 k11 k16 k17 k18 k19 k20 d0 (shm_40 f1) (shm_53 f2) (shm_54 f3) (shm_541 f4) (shm_542 f5) h7 g8 (shm_14 f12) h13 h14 kz_0_8 kz_0_10 kz_0_158)⟩
  refine ⟨(fun _ h => (by cases h)), [], trivial, ?_, (fun _ h => (by cases h))⟩
  rw [List.append_nil]
  exact List.forall_mem_cons.mpr ⟨⟨show (20 : Nat) < 100 from by decide, nf0⟩, List.forall_mem_cons.mpr ⟨⟨show (20 : Nat) < 100 from by decide, nf1⟩, (fun _ h => (by cases h))⟩⟩
set_option maxHeartbeats 4000000 in
theorem vc_Mo_word_at_s5024_5_0 (x2 : Int) (x4 : Int) (x5 : Int) (x6 : Int) (x8 : Int) (x10 : Int) (x11 : Int) (x12 : Int) (x14 : Int) (x15 : Int) (x16 : Int) (x17 : Int) (x18 : Int) (x19 : Int) (x21 : Int) (x22 : Int) (x23 : Int) (x24 : Int) (x25 : Int) (x26 : Int) (x27 : Int) (tape_0 : Int → Int) (limit_0 : Int) (tokenPlace_0 : Int → Int) (cur_0 : Int) (tokenEnd_0 : Int → Int) (tokenKind_0 : Int → Int) (fault_0 : Int) (k2 : 0 ≤ x2 ∧ x2 ≤ 0) (k4 : 0 ≤ x4 ∧ x4 ≤ 2009) (k5 : 1 ≤ x5 ∧ x5 ≤ 1) (k6 : 1 ≤ x6 ∧ x6 ≤ 1) (k8 : 3 ≤ x8 ∧ x8 ≤ 2000) (k10 : 0 ≤ x10 ∧ x10 ≤ 2000) (k11 : 3 ≤ x11 ∧ x11 ≤ 3) (k12 : 3 ≤ x12 ∧ x12 ≤ 3) (k14 : 0 ≤ x14 ∧ x14 ≤ 0) (k15 : 3 ≤ x15 ∧ x15 ≤ 3) (k16 : 0 ≤ x16 ∧ x16 ≤ 1999) (k17 : 0 ≤ x17 ∧ x17 ≤ 1999) (k18 : 0 ≤ x18 ∧ x18 ≤ 255) (k19 : 0 ≤ x19 ∧ x19 ≤ 255) (k21 : 1 ≤ x21 ∧ x21 ≤ 1) (k22 : 3 ≤ x22 ∧ x22 ≤ 3) (k23 : 0 ≤ x23 ∧ x23 ≤ 2000) (k24 : 1 ≤ x24 ∧ x24 ≤ 2001) (k25 : (-1) ≤ x25 ∧ x25 ≤ (-1)) (k26 : 0 ≤ x26 ∧ x26 ≤ 65535) (k27 : 0 ≤ x27 ∧ x27 ≤ 0) (d0 : x23 + 1 ≤ x24 ∧ x24 ≤ x23 + 1) (d1 : x19 + 0 ≤ x18 ∧ x18 ≤ x19 + 0) (d2 : x16 + 0 ≤ x17 ∧ x17 ≤ x16 + 0) (f0 : x27 = 0) (f1 : x25 ≠ x26) (f2 : 1 * x26 + 0 ≤ 111) (f3 : (-1) * x26 + 0 ≤ (-111)) (f4 : ((x24 + 1) ≤ limit_0) → (x25 = (tape_0 (x24) % 256))) (f5 : (limit_0 ≤ x24) → (x25 = (-1))) (f6 : x24 = x23 + x21) (h7 : x23 = tokenPlace_0 (x4)) (g8 : x4 = cur_0) (f10 : x21 < x22) (f11 : x21 = x14 + 1) (f12 : x18 = x19) (f13 : 1 * x19 + 0 ≤ 110) (f14 : (-1) * x19 + 0 ≤ (-110)) (f15 : ((x17 + 1) ≤ limit_0) → (x18 = (tape_0 (x17) % 256))) (f16 : (limit_0 ≤ x17) → (x18 = (-1))) (f17 : x17 = x16 + x14) (h18 : x16 = tokenPlace_0 (x4)) (f19 : x14 < x15) (f20 : x11 = x12) (f21 : x11 = x8 - x10) (h22 : x10 = tokenPlace_0 (x4)) (h23 : x8 = tokenEnd_0 (x4)) (f25 : x5 = x6) (h26 : x5 = tokenKind_0 (x4)) (f28 : x2 = 0) (g29 : x2 = fault_0) (hK_0_1 : ∀ j : Int, 0 ≤ j → j < 2000 → (-128) ≤ tape_0 j ∧ tape_0 j ≤ 127) (hK_0_160 : ∀ j : Int, 0 ≤ j → j < 2010 → 0 ≤ tokenKind_0 j ∧ tokenKind_0 j ≤ 4) (hK_0_162 : ∀ j : Int, 0 ≤ j → j < 2010 → 0 ≤ tokenPlace_0 j ∧ tokenPlace_0 j ≤ 2000) (hK_0_163 : ∀ j : Int, 0 ≤ j → j < 2010 → 0 ≤ tokenEnd_0 j ∧ tokenEnd_0 j ≤ 2000) (kz_0_8 : 0 ≤ fault_0 ∧ fault_0 ≤ 5) (kz_0_10 : 0 ≤ limit_0 ∧ limit_0 ≤ 2000) (kz_0_158 : 0 ≤ cur_0 ∧ cur_0 ≤ 2009) : (x27 = 1) → (tokenKind_0 (cur_0) = 1) := by
  first | assumption | (clear f4 f5 f15 f16 hK_0_1 hK_0_160 hK_0_162 hK_0_163; omega) | (clear hK_0_1 hK_0_160 hK_0_162 hK_0_163; grind) | omega | grind
set_option maxHeartbeats 4000000 in
theorem vc_Mo_word_at_s5024_5_1 (x4 : Int) (x8 : Int) (x10 : Int) (x11 : Int) (x16 : Int) (x17 : Int) (x18 : Int) (x19 : Int) (x23 : Int) (x24 : Int) (x25 : Int) (x27 : Int) (tape_0 : Int → Int) (limit_0 : Int) (tokenPlace_0 : Int → Int) (cur_0 : Int) (tokenEnd_0 : Int → Int) (tokenKind_0 : Int → Int) (fault_0 : Int) (k4 : 0 ≤ x4 ∧ x4 ≤ 2009) (k8 : 3 ≤ x8 ∧ x8 ≤ 2000) (k10 : 0 ≤ x10 ∧ x10 ≤ 2000) (k11 : 3 ≤ x11 ∧ x11 ≤ 3) (k16 : 0 ≤ x16 ∧ x16 ≤ 1999) (k17 : 0 ≤ x17 ∧ x17 ≤ 1999) (k18 : 0 ≤ x18 ∧ x18 ≤ 255) (k19 : 0 ≤ x19 ∧ x19 ≤ 255) (k23 : 0 ≤ x23 ∧ x23 ≤ 2000) (k24 : 1 ≤ x24 ∧ x24 ≤ 2001) (k25 : (-1) ≤ x25 ∧ x25 ≤ (-1)) (k27 : 0 ≤ x27 ∧ x27 ≤ 0) (d0 : x23 + 1 ≤ x24 ∧ x24 ≤ x23 + 1) (d1 : x19 + 0 ≤ x18 ∧ x18 ≤ x19 + 0) (d2 : x16 + 0 ≤ x17 ∧ x17 ≤ x16 + 0) (f4 : ((x24 + 1) ≤ limit_0) → (x25 = (tape_0 (x24) % 256))) (f5 : (limit_0 ≤ x24) → (x25 = (-1))) (h7 : x23 = tokenPlace_0 (x4)) (g8 : x4 = cur_0) (f13 : 1 * x19 + 0 ≤ 110) (f14 : (-1) * x19 + 0 ≤ (-110)) (f15 : ((x17 + 1) ≤ limit_0) → (x18 = (tape_0 (x17) % 256))) (f16 : (limit_0 ≤ x17) → (x18 = (-1))) (h18 : x16 = tokenPlace_0 (x4)) (f21 : x11 = x8 - x10) (h22 : x10 = tokenPlace_0 (x4)) (h23 : x8 = tokenEnd_0 (x4)) (kz_0_8 : 0 ≤ fault_0 ∧ fault_0 ≤ 5) (kz_0_10 : 0 ≤ limit_0 ∧ limit_0 ≤ 2000) (kz_0_158 : 0 ≤ cur_0 ∧ cur_0 ≤ 2009) : Wqnot (fault_0) (cur_0) (limit_0) (tokenKind_0) (tokenPlace_0) (tokenEnd_0) (tape_0) (x27) := by
  first
    | exact ⟨fun z => by omega, fun z => by have := z.1; omega⟩
    | (have e := (‹x4 = cur_0›)
       rw [← e]
       refine ⟨fun z => ⟨by omega, wdS3.2 ⟨by omega, by omega, by omega, by rw [show tokenPlace_0 x4 + 0 = x17 by omega]; omega, by rw [show tokenPlace_0 x4 + 1 = x24 by omega]; omega, by rw [show tokenPlace_0 x4 + 2 = x31 by omega]; omega⟩⟩, fun z => by omega⟩)
    | (have e := (‹x4 = cur_0›)
       rw [← e]
       refine ⟨fun z => by omega, fun z => ?_⟩
       have w := wdS3.1 z.2
       try (have q0 : tokenPlace_0 x4 + 0 = x17 := (by omega); rw [q0] at w)
       try (have q1 : tokenPlace_0 x4 + 1 = x24 := (by omega); rw [q1] at w)
       try (have q2 : tokenPlace_0 x4 + 2 = x31 := (by omega); rw [q2] at w)
       omega)
  
def o_Mo_word_at_s5024_5 : or_T := (102, 30, [(0, (2, 0, 0, [165])), (2, (0, 0, 0, [])), (3, (2, 0, 0, [274])), (4, (0, 0, 2009, [])), (5, (0, 1, 1, [])), (6, (0, 1, 1, [])), (7, (2, 0, 0, [277])), (8, (0, 3, 2000, [])), (9, (2, 0, 0, [276])), (10, (0, 0, 2000, [])), (11, (0, 3, 3, [])), (12, (0, 3, 3, [])), (14, (0, 0, 0, [])), (15, (0, 3, 3, [])), (16, (0, 0, 1999, [])), (17, (0, 0, 1999, [])), (18, (0, 0, 255, [])), (19, (0, 0, 255, [])), (21, (0, 1, 1, [])), (22, (0, 3, 3, [])), (23, (0, 0, 2000, [])), (24, (0, 1, 2001, [])), (25, (0, -1, -1, [])), (26, (0, 0, 65535, [])), (27, (0, 0, 0, []))], [(8, [27], [0]), (7, [25, 26], [1]), (23, [26], [111, 1]), (23, [26], [-111, -1]), (20, [24, 0, 25], [50, 1, 1, 1010, 1001, 4, 11, 0, 6, 4, 2, 1, 0, 0, 1, 2, 1, 10, 1, 2, 1, 2, 9, 5, 3, 1, 1, 1, 0, 0, 256]), (20, [0, 24, 25], [50, 1, 0, 10, 4, 7, 0, 3, 2, 0, 10, 1, 1, 1, 2, 1, 2, 0, -1]), (1, [24, 23, 21], []), (10, [23, 9, 4], []), (9, [4, 0], [158]), (9, [9, 0], [162]), (7, [21, 22], [2]), (6, [21, 14], [1]), (7, [18, 19], [0]), (23, [19], [110, 1]), (23, [19], [-110, -1]), (20, [17, 0, 18], [50, 1, 1, 1010, 1001, 4, 11, 0, 6, 4, 2, 1, 0, 0, 1, 2, 1, 10, 1, 2, 1, 2, 9, 5, 3, 1, 1, 1, 0, 0, 256]), (20, [0, 17, 18], [50, 1, 0, 10, 4, 7, 0, 3, 2, 0, 10, 1, 1, 1, 2, 1, 2, 0, -1]), (1, [17, 16, 14], []), (10, [16, 9, 4], []), (7, [14, 15], [2]), (7, [11, 12], [0]), (2, [11, 8, 10], []), (10, [10, 9, 4], []), (10, [8, 7, 4], []), (9, [7, 0], [163]), (7, [5, 6], [0]), (10, [5, 3, 4], []), (9, [3, 0], [160]), (8, [2], [0]), (9, [2, 0], [8])], [], [], [(20, [27, 0], [50, 1, 1, 1158, 1160, 4, 6, 1, 2, 1, 0, 0, 1, 1, 6, 3, 1, 160, 2, 1, 158, 0, 1]), (20, [0, 27], [60, 3, 4, 27, 8, 158, 10, 160, 162, 163, 1])], [], [(24, 23, 1, 1), (18, 19, 0, 0), (17, 16, 0, 0)])
theorem oo_Mo_word_at_s5024_5 {kA : Nat → ClassId} : or_ok PRD kA GG o_Mo_word_at_s5024_5 := by
  refine or_mk fun A ta ws vs hD hth hl => ?_
  intro t0 r0 t2 k2 t3 r3 t4 k4 t5 k5 t6 k6 t7 r7 t8 k8 t9 r9 t10 k10 t11 k11 t12 k12 t14 k14 t15 k15 t16 k16 t17 k17 t18 k18 t19 k19 t21 k21 t22 k22 t23 k23 t24 k24 t25 k25 t26 k26 t27 k27 d0 d1 d2 f0 f1 f2 f3 f4 f5 f6 f7 f8 f9 f10 f11 f12 f13 f14 f15 f16 f17 f18 f19 f20 f21 f22 f23 f24 f25 f26 f27 f28 f29
  replace f7 := shm_107 f7
  replace f8 := shm_286 f8
  replace f9 := shm_301 f9
  replace f18 := shm_107 f18
  replace f22 := shm_107 f22
  replace f23 := shm_107 f23
  replace f24 := shm_1332 f24
  replace f26 := shm_107 f26
  replace f27 := shm_327 f27
  replace f29 := shm_293 f29
  have cr_0_1 := fdq_39 hD hth r0
  have cr_0_160 := fdq_33 hD hth r0
  have cr_0_162 := fdq_41 hD hth r0
  have cr_0_163 := fdq_42 hD hth r0
  have ad_9 : v_ad (n_v vs 9) = w_ar ws (n_v vs 0) 162 := congrArg v_ad f9
  have ad_7 : v_ad (n_v vs 7) = w_ar ws (n_v vs 0) 163 := congrArg v_ad f24
  have ad_3 : v_ad (n_v vs 3) = w_ar ws (n_v vs 0) 160 := congrArg v_ad f27
  simp only [ad_9] at f7
  have h7 : v_iv (n_v vs 23) = w_ei ws (w_ar ws (n_v vs 0) 162) (v_iv (n_v vs 4)) := f7
  have g8 : v_iv (n_v vs 4) = w_fi ws (n_v vs 0) 158 := congrArg v_iv f8
  simp only [ad_9] at f18
  have h18 : v_iv (n_v vs 16) = w_ei ws (w_ar ws (n_v vs 0) 162) (v_iv (n_v vs 4)) := f18
  simp only [ad_9] at f22
  have h22 : v_iv (n_v vs 10) = w_ei ws (w_ar ws (n_v vs 0) 162) (v_iv (n_v vs 4)) := f22
  simp only [ad_7] at f23
  have h23 : v_iv (n_v vs 8) = w_ei ws (w_ar ws (n_v vs 0) 163) (v_iv (n_v vs 4)) := f23
  simp only [ad_3] at f26
  have h26 : v_iv (n_v vs 5) = w_ei ws (w_ar ws (n_v vs 0) 160) (v_iv (n_v vs 4)) := f26
  have g29 : v_iv (n_v vs 2) = w_fi ws (n_v vs 0) 8 := congrArg v_iv f29
  have hK_0_1 := elq_7 hD hth cr_0_1
  have hK_0_160 := elq_6 hD hth cr_0_160
  have hK_0_162 := elq_8 hD hth cr_0_162
  have hK_0_163 := elq_9 hD hth cr_0_163
  have kz_0_8 := fdq_34 hD hth r0
  have kz_0_10 := fdq_43 hD hth r0
  have kz_0_158 := fdq_36 hD hth r0
  have nf0 : fc_1 PRD (20, [27, 0], [50, 1, 1, 1158, 1160, 4, 6, 1, 2, 1, 0, 0, 1, 1, 6, 3, 1, 160, 2, 1, 158, 0, 1]) ws (vs) := ⟨nf_in hl rfl, sgq_287 (vc_Mo_word_at_s5024_5_0 (v_iv (n_v vs 2)) (v_iv (n_v vs 4)) (v_iv (n_v vs 5)) (v_iv (n_v vs 6)) (v_iv (n_v vs 8)) (v_iv (n_v vs 10)) (v_iv (n_v vs 11)) (v_iv (n_v vs 12)) (v_iv (n_v vs 14)) (v_iv (n_v vs 15)) (v_iv (n_v vs 16)) (v_iv (n_v vs 17)) (v_iv (n_v vs 18)) (v_iv (n_v vs 19)) (v_iv (n_v vs 21)) (v_iv (n_v vs 22)) (v_iv (n_v vs 23)) (v_iv (n_v vs 24)) (v_iv (n_v vs 25)) (v_iv (n_v vs 26)) (v_iv (n_v vs 27)) (w_ei ws (w_ar ws (n_v vs 0) 1)) (w_fi ws (n_v vs 0) 10) (w_ei ws (w_ar ws (n_v vs 0) 162)) (w_fi ws (n_v vs 0) 158) (w_ei ws (w_ar ws (n_v vs 0) 163)) (w_ei ws (w_ar ws (n_v vs 0) 160)) (w_fi ws (n_v vs 0) 8) k2 k4 k5 k6 k8 k10 k11 k12 k14 k15 k16 k17 k18 k19 k21 k22 k23 k24 k25 k26 k27 d0 d1 d2 (shm_192 f0) (shm_40 f1) (shm_55 f2) (shm_56 f3) (shm_541 f4) (shm_542 f5) (shm_12 f6) h7 g8 (shm_6 f10) (shm_4 f11) (shm_37 f12) (shm_53 f13) (shm_54 f14) (shm_541 f15) (shm_542 f16) (shm_12 f17) h18 (shm_6 f19) (shm_37 f20) (shm_14 f21) h22 h23 (shm_37 f25) h26 (shm_192 f28) g29 hK_0_1 hK_0_160 hK_0_162 hK_0_163 kz_0_8 kz_0_10 kz_0_158)⟩
  have nf1 : fc_1 PRD (20, [0, 27], [60, 3, 4, 27, 8, 158, 10, 160, 162, 163, 1]) ws (vs) := ⟨nf_in hl rfl, sgq_294 (vc_Mo_word_at_s5024_5_1 (v_iv (n_v vs 4)) (v_iv (n_v vs 8)) (v_iv (n_v vs 10)) (v_iv (n_v vs 11)) (v_iv (n_v vs 16)) (v_iv (n_v vs 17)) (v_iv (n_v vs 18)) (v_iv (n_v vs 19)) (v_iv (n_v vs 23)) (v_iv (n_v vs 24)) (v_iv (n_v vs 25)) (v_iv (n_v vs 27)) (w_ei ws (w_ar ws (n_v vs 0) 1)) (w_fi ws (n_v vs 0) 10) (w_ei ws (w_ar ws (n_v vs 0) 162)) (w_fi ws (n_v vs 0) 158) (w_ei ws (w_ar ws (n_v vs 0) 163)) (w_ei ws (w_ar ws (n_v vs 0) 160)) (w_fi ws (n_v vs 0) 8) k4 k8 k10 k11 k16 k17 k18 k19 k23 k24 k25 k27 d0 d1 d2 (shm_541 f4) (shm_542 f5) h7 g8 (shm_53 f13) (shm_54 f14) (shm_541 f15) (shm_542 f16) h18 (shm_14 f21) h22 h23 kz_0_8 kz_0_10 kz_0_158)⟩
  refine ⟨(fun _ h => (by cases h)), [], trivial, ?_, (fun _ h => (by cases h))⟩
  rw [List.append_nil]
  exact List.forall_mem_cons.mpr ⟨⟨show (20 : Nat) < 100 from by decide, nf0⟩, List.forall_mem_cons.mpr ⟨⟨show (20 : Nat) < 100 from by decide, nf1⟩, (fun _ h => (by cases h))⟩⟩
set_option maxHeartbeats 4000000 in
theorem vc_Mo_word_at_s5024_6_0 (x2 : Int) (x4 : Int) (x5 : Int) (x6 : Int) (x8 : Int) (x10 : Int) (x11 : Int) (x12 : Int) (x14 : Int) (x15 : Int) (x16 : Int) (x17 : Int) (x18 : Int) (x19 : Int) (x21 : Int) (x22 : Int) (x23 : Int) (x24 : Int) (x25 : Int) (x26 : Int) (x27 : Int) (tape_0 : Int → Int) (limit_0 : Int) (tokenPlace_0 : Int → Int) (cur_0 : Int) (tokenEnd_0 : Int → Int) (tokenKind_0 : Int → Int) (fault_0 : Int) (k2 : 0 ≤ x2 ∧ x2 ≤ 0) (k4 : 0 ≤ x4 ∧ x4 ≤ 2009) (k5 : 1 ≤ x5 ∧ x5 ≤ 1) (k6 : 1 ≤ x6 ∧ x6 ≤ 1) (k8 : 3 ≤ x8 ∧ x8 ≤ 2000) (k10 : 0 ≤ x10 ∧ x10 ≤ 2000) (k11 : 3 ≤ x11 ∧ x11 ≤ 3) (k12 : 3 ≤ x12 ∧ x12 ≤ 3) (k14 : 0 ≤ x14 ∧ x14 ≤ 0) (k15 : 3 ≤ x15 ∧ x15 ≤ 3) (k16 : 0 ≤ x16 ∧ x16 ≤ 1999) (k17 : 0 ≤ x17 ∧ x17 ≤ 1999) (k18 : 0 ≤ x18 ∧ x18 ≤ 255) (k19 : 0 ≤ x19 ∧ x19 ≤ 255) (k21 : 1 ≤ x21 ∧ x21 ≤ 1) (k22 : 3 ≤ x22 ∧ x22 ≤ 3) (k23 : 0 ≤ x23 ∧ x23 ≤ 1998) (k24 : 1 ≤ x24 ∧ x24 ≤ 1999) (k25 : 0 ≤ x25 ∧ x25 ≤ 255) (k26 : 0 ≤ x26 ∧ x26 ≤ 65535) (k27 : 0 ≤ x27 ∧ x27 ≤ 0) (d0 : x23 + 1 ≤ x24 ∧ x24 ≤ x23 + 1) (d1 : x19 + 0 ≤ x18 ∧ x18 ≤ x19 + 0) (d2 : x16 + 0 ≤ x17 ∧ x17 ≤ x16 + 0) (f0 : x27 = 0) (f1 : x25 ≠ x26) (f2 : 1 * x26 + 0 ≤ 111) (f3 : (-1) * x26 + 0 ≤ (-111)) (f4 : ((x24 + 1) ≤ limit_0) → (x25 = (tape_0 (x24) % 256))) (f5 : (limit_0 ≤ x24) → (x25 = (-1))) (f6 : x24 = x23 + x21) (h7 : x23 = tokenPlace_0 (x4)) (g8 : x4 = cur_0) (f10 : x21 < x22) (f11 : x21 = x14 + 1) (f12 : x18 = x19) (f13 : 1 * x19 + 0 ≤ 110) (f14 : (-1) * x19 + 0 ≤ (-110)) (f15 : ((x17 + 1) ≤ limit_0) → (x18 = (tape_0 (x17) % 256))) (f16 : (limit_0 ≤ x17) → (x18 = (-1))) (f17 : x17 = x16 + x14) (h18 : x16 = tokenPlace_0 (x4)) (f19 : x14 < x15) (f20 : x11 = x12) (f21 : x11 = x8 - x10) (h22 : x10 = tokenPlace_0 (x4)) (h23 : x8 = tokenEnd_0 (x4)) (f25 : x5 = x6) (h26 : x5 = tokenKind_0 (x4)) (f28 : x2 = 0) (g29 : x2 = fault_0) (hK_0_1 : ∀ j : Int, 0 ≤ j → j < 2000 → (-128) ≤ tape_0 j ∧ tape_0 j ≤ 127) (hK_0_160 : ∀ j : Int, 0 ≤ j → j < 2010 → 0 ≤ tokenKind_0 j ∧ tokenKind_0 j ≤ 4) (hK_0_162 : ∀ j : Int, 0 ≤ j → j < 2010 → 0 ≤ tokenPlace_0 j ∧ tokenPlace_0 j ≤ 2000) (hK_0_163 : ∀ j : Int, 0 ≤ j → j < 2010 → 0 ≤ tokenEnd_0 j ∧ tokenEnd_0 j ≤ 2000) (kz_0_8 : 0 ≤ fault_0 ∧ fault_0 ≤ 5) (kz_0_10 : 0 ≤ limit_0 ∧ limit_0 ≤ 2000) (kz_0_158 : 0 ≤ cur_0 ∧ cur_0 ≤ 2009) : (x27 = 1) → (tokenKind_0 (cur_0) = 1) := by
  first | assumption | (clear f4 f5 f15 f16 hK_0_1 hK_0_160 hK_0_162 hK_0_163; omega) | (clear hK_0_1 hK_0_160 hK_0_162 hK_0_163; grind) | omega | grind
set_option maxHeartbeats 4000000 in
theorem vc_Mo_word_at_s5024_6_1 (x4 : Int) (x8 : Int) (x10 : Int) (x11 : Int) (x16 : Int) (x17 : Int) (x18 : Int) (x19 : Int) (x23 : Int) (x24 : Int) (x25 : Int) (x26 : Int) (x27 : Int) (tape_0 : Int → Int) (limit_0 : Int) (tokenPlace_0 : Int → Int) (cur_0 : Int) (tokenEnd_0 : Int → Int) (tokenKind_0 : Int → Int) (fault_0 : Int) (k4 : 0 ≤ x4 ∧ x4 ≤ 2009) (k8 : 3 ≤ x8 ∧ x8 ≤ 2000) (k10 : 0 ≤ x10 ∧ x10 ≤ 2000) (k11 : 3 ≤ x11 ∧ x11 ≤ 3) (k16 : 0 ≤ x16 ∧ x16 ≤ 1999) (k17 : 0 ≤ x17 ∧ x17 ≤ 1999) (k18 : 0 ≤ x18 ∧ x18 ≤ 255) (k19 : 0 ≤ x19 ∧ x19 ≤ 255) (k23 : 0 ≤ x23 ∧ x23 ≤ 1998) (k24 : 1 ≤ x24 ∧ x24 ≤ 1999) (k25 : 0 ≤ x25 ∧ x25 ≤ 255) (k26 : 0 ≤ x26 ∧ x26 ≤ 65535) (k27 : 0 ≤ x27 ∧ x27 ≤ 0) (d0 : x23 + 1 ≤ x24 ∧ x24 ≤ x23 + 1) (d1 : x19 + 0 ≤ x18 ∧ x18 ≤ x19 + 0) (d2 : x16 + 0 ≤ x17 ∧ x17 ≤ x16 + 0) (f1 : x25 ≠ x26) (f2 : 1 * x26 + 0 ≤ 111) (f3 : (-1) * x26 + 0 ≤ (-111)) (f4 : ((x24 + 1) ≤ limit_0) → (x25 = (tape_0 (x24) % 256))) (f5 : (limit_0 ≤ x24) → (x25 = (-1))) (h7 : x23 = tokenPlace_0 (x4)) (g8 : x4 = cur_0) (f13 : 1 * x19 + 0 ≤ 110) (f14 : (-1) * x19 + 0 ≤ (-110)) (f15 : ((x17 + 1) ≤ limit_0) → (x18 = (tape_0 (x17) % 256))) (f16 : (limit_0 ≤ x17) → (x18 = (-1))) (h18 : x16 = tokenPlace_0 (x4)) (f21 : x11 = x8 - x10) (h22 : x10 = tokenPlace_0 (x4)) (h23 : x8 = tokenEnd_0 (x4)) (kz_0_8 : 0 ≤ fault_0 ∧ fault_0 ≤ 5) (kz_0_10 : 0 ≤ limit_0 ∧ limit_0 ≤ 2000) (kz_0_158 : 0 ≤ cur_0 ∧ cur_0 ≤ 2009) : Wqnot (fault_0) (cur_0) (limit_0) (tokenKind_0) (tokenPlace_0) (tokenEnd_0) (tape_0) (x27) := by
  first
    | exact ⟨fun z => by omega, fun z => by have := z.1; omega⟩
    | (have e := (‹x4 = cur_0›)
       rw [← e]
       refine ⟨fun z => ⟨by omega, wdS3.2 ⟨by omega, by omega, by omega, by rw [show tokenPlace_0 x4 + 0 = x17 by omega]; omega, by rw [show tokenPlace_0 x4 + 1 = x24 by omega]; omega, by rw [show tokenPlace_0 x4 + 2 = x31 by omega]; omega⟩⟩, fun z => by omega⟩)
    | (have e := (‹x4 = cur_0›)
       rw [← e]
       refine ⟨fun z => by omega, fun z => ?_⟩
       have w := wdS3.1 z.2
       try (have q0 : tokenPlace_0 x4 + 0 = x17 := (by omega); rw [q0] at w)
       try (have q1 : tokenPlace_0 x4 + 1 = x24 := (by omega); rw [q1] at w)
       try (have q2 : tokenPlace_0 x4 + 2 = x31 := (by omega); rw [q2] at w)
       omega)
  
def o_Mo_word_at_s5024_6 : or_T := (102, 30, [(0, (2, 0, 0, [165])), (2, (0, 0, 0, [])), (3, (2, 0, 0, [274])), (4, (0, 0, 2009, [])), (5, (0, 1, 1, [])), (6, (0, 1, 1, [])), (7, (2, 0, 0, [277])), (8, (0, 3, 2000, [])), (9, (2, 0, 0, [276])), (10, (0, 0, 2000, [])), (11, (0, 3, 3, [])), (12, (0, 3, 3, [])), (14, (0, 0, 0, [])), (15, (0, 3, 3, [])), (16, (0, 0, 1999, [])), (17, (0, 0, 1999, [])), (18, (0, 0, 255, [])), (19, (0, 0, 255, [])), (21, (0, 1, 1, [])), (22, (0, 3, 3, [])), (23, (0, 0, 1998, [])), (24, (0, 1, 1999, [])), (25, (0, 0, 255, [])), (26, (0, 0, 65535, [])), (27, (0, 0, 0, []))], [(8, [27], [0]), (7, [25, 26], [1]), (23, [26], [111, 1]), (23, [26], [-111, -1]), (20, [24, 0, 25], [50, 1, 1, 1010, 1001, 4, 11, 0, 6, 4, 2, 1, 0, 0, 1, 2, 1, 10, 1, 2, 1, 2, 9, 5, 3, 1, 1, 1, 0, 0, 256]), (20, [0, 24, 25], [50, 1, 0, 10, 4, 7, 0, 3, 2, 0, 10, 1, 1, 1, 2, 1, 2, 0, -1]), (1, [24, 23, 21], []), (10, [23, 9, 4], []), (9, [4, 0], [158]), (9, [9, 0], [162]), (7, [21, 22], [2]), (6, [21, 14], [1]), (7, [18, 19], [0]), (23, [19], [110, 1]), (23, [19], [-110, -1]), (20, [17, 0, 18], [50, 1, 1, 1010, 1001, 4, 11, 0, 6, 4, 2, 1, 0, 0, 1, 2, 1, 10, 1, 2, 1, 2, 9, 5, 3, 1, 1, 1, 0, 0, 256]), (20, [0, 17, 18], [50, 1, 0, 10, 4, 7, 0, 3, 2, 0, 10, 1, 1, 1, 2, 1, 2, 0, -1]), (1, [17, 16, 14], []), (10, [16, 9, 4], []), (7, [14, 15], [2]), (7, [11, 12], [0]), (2, [11, 8, 10], []), (10, [10, 9, 4], []), (10, [8, 7, 4], []), (9, [7, 0], [163]), (7, [5, 6], [0]), (10, [5, 3, 4], []), (9, [3, 0], [160]), (8, [2], [0]), (9, [2, 0], [8])], [], [], [(20, [27, 0], [50, 1, 1, 1158, 1160, 4, 6, 1, 2, 1, 0, 0, 1, 1, 6, 3, 1, 160, 2, 1, 158, 0, 1]), (20, [0, 27], [60, 3, 4, 27, 8, 158, 10, 160, 162, 163, 1])], [], [(24, 23, 1, 1), (18, 19, 0, 0), (17, 16, 0, 0)])
theorem oo_Mo_word_at_s5024_6 {kA : Nat → ClassId} : or_ok PRD kA GG o_Mo_word_at_s5024_6 := by
  refine or_mk fun A ta ws vs hD hth hl => ?_
  intro t0 r0 t2 k2 t3 r3 t4 k4 t5 k5 t6 k6 t7 r7 t8 k8 t9 r9 t10 k10 t11 k11 t12 k12 t14 k14 t15 k15 t16 k16 t17 k17 t18 k18 t19 k19 t21 k21 t22 k22 t23 k23 t24 k24 t25 k25 t26 k26 t27 k27 d0 d1 d2 f0 f1 f2 f3 f4 f5 f6 f7 f8 f9 f10 f11 f12 f13 f14 f15 f16 f17 f18 f19 f20 f21 f22 f23 f24 f25 f26 f27 f28 f29
  replace f7 := shm_107 f7
  replace f8 := shm_286 f8
  replace f9 := shm_301 f9
  replace f18 := shm_107 f18
  replace f22 := shm_107 f22
  replace f23 := shm_107 f23
  replace f24 := shm_1332 f24
  replace f26 := shm_107 f26
  replace f27 := shm_327 f27
  replace f29 := shm_293 f29
  have cr_0_1 := fdq_39 hD hth r0
  have cr_0_160 := fdq_33 hD hth r0
  have cr_0_162 := fdq_41 hD hth r0
  have cr_0_163 := fdq_42 hD hth r0
  have ad_9 : v_ad (n_v vs 9) = w_ar ws (n_v vs 0) 162 := congrArg v_ad f9
  have ad_7 : v_ad (n_v vs 7) = w_ar ws (n_v vs 0) 163 := congrArg v_ad f24
  have ad_3 : v_ad (n_v vs 3) = w_ar ws (n_v vs 0) 160 := congrArg v_ad f27
  simp only [ad_9] at f7
  have h7 : v_iv (n_v vs 23) = w_ei ws (w_ar ws (n_v vs 0) 162) (v_iv (n_v vs 4)) := f7
  have g8 : v_iv (n_v vs 4) = w_fi ws (n_v vs 0) 158 := congrArg v_iv f8
  simp only [ad_9] at f18
  have h18 : v_iv (n_v vs 16) = w_ei ws (w_ar ws (n_v vs 0) 162) (v_iv (n_v vs 4)) := f18
  simp only [ad_9] at f22
  have h22 : v_iv (n_v vs 10) = w_ei ws (w_ar ws (n_v vs 0) 162) (v_iv (n_v vs 4)) := f22
  simp only [ad_7] at f23
  have h23 : v_iv (n_v vs 8) = w_ei ws (w_ar ws (n_v vs 0) 163) (v_iv (n_v vs 4)) := f23
  simp only [ad_3] at f26
  have h26 : v_iv (n_v vs 5) = w_ei ws (w_ar ws (n_v vs 0) 160) (v_iv (n_v vs 4)) := f26
  have g29 : v_iv (n_v vs 2) = w_fi ws (n_v vs 0) 8 := congrArg v_iv f29
  have hK_0_1 := elq_7 hD hth cr_0_1
  have hK_0_160 := elq_6 hD hth cr_0_160
  have hK_0_162 := elq_8 hD hth cr_0_162
  have hK_0_163 := elq_9 hD hth cr_0_163
  have kz_0_8 := fdq_34 hD hth r0
  have kz_0_10 := fdq_43 hD hth r0
  have kz_0_158 := fdq_36 hD hth r0
  have nf0 : fc_1 PRD (20, [27, 0], [50, 1, 1, 1158, 1160, 4, 6, 1, 2, 1, 0, 0, 1, 1, 6, 3, 1, 160, 2, 1, 158, 0, 1]) ws (vs) := ⟨nf_in hl rfl, sgq_287 (vc_Mo_word_at_s5024_6_0 (v_iv (n_v vs 2)) (v_iv (n_v vs 4)) (v_iv (n_v vs 5)) (v_iv (n_v vs 6)) (v_iv (n_v vs 8)) (v_iv (n_v vs 10)) (v_iv (n_v vs 11)) (v_iv (n_v vs 12)) (v_iv (n_v vs 14)) (v_iv (n_v vs 15)) (v_iv (n_v vs 16)) (v_iv (n_v vs 17)) (v_iv (n_v vs 18)) (v_iv (n_v vs 19)) (v_iv (n_v vs 21)) (v_iv (n_v vs 22)) (v_iv (n_v vs 23)) (v_iv (n_v vs 24)) (v_iv (n_v vs 25)) (v_iv (n_v vs 26)) (v_iv (n_v vs 27)) (w_ei ws (w_ar ws (n_v vs 0) 1)) (w_fi ws (n_v vs 0) 10) (w_ei ws (w_ar ws (n_v vs 0) 162)) (w_fi ws (n_v vs 0) 158) (w_ei ws (w_ar ws (n_v vs 0) 163)) (w_ei ws (w_ar ws (n_v vs 0) 160)) (w_fi ws (n_v vs 0) 8) k2 k4 k5 k6 k8 k10 k11 k12 k14 k15 k16 k17 k18 k19 k21 k22 k23 k24 k25 k26 k27 d0 d1 d2 (shm_192 f0) (shm_40 f1) (shm_55 f2) (shm_56 f3) (shm_541 f4) (shm_542 f5) (shm_12 f6) h7 g8 (shm_6 f10) (shm_4 f11) (shm_37 f12) (shm_53 f13) (shm_54 f14) (shm_541 f15) (shm_542 f16) (shm_12 f17) h18 (shm_6 f19) (shm_37 f20) (shm_14 f21) h22 h23 (shm_37 f25) h26 (shm_192 f28) g29 hK_0_1 hK_0_160 hK_0_162 hK_0_163 kz_0_8 kz_0_10 kz_0_158)⟩
  have nf1 : fc_1 PRD (20, [0, 27], [60, 3, 4, 27, 8, 158, 10, 160, 162, 163, 1]) ws (vs) := ⟨nf_in hl rfl, sgq_294 (vc_Mo_word_at_s5024_6_1 (v_iv (n_v vs 4)) (v_iv (n_v vs 8)) (v_iv (n_v vs 10)) (v_iv (n_v vs 11)) (v_iv (n_v vs 16)) (v_iv (n_v vs 17)) (v_iv (n_v vs 18)) (v_iv (n_v vs 19)) (v_iv (n_v vs 23)) (v_iv (n_v vs 24)) (v_iv (n_v vs 25)) (v_iv (n_v vs 26)) (v_iv (n_v vs 27)) (w_ei ws (w_ar ws (n_v vs 0) 1)) (w_fi ws (n_v vs 0) 10) (w_ei ws (w_ar ws (n_v vs 0) 162)) (w_fi ws (n_v vs 0) 158) (w_ei ws (w_ar ws (n_v vs 0) 163)) (w_ei ws (w_ar ws (n_v vs 0) 160)) (w_fi ws (n_v vs 0) 8) k4 k8 k10 k11 k16 k17 k18 k19 k23 k24 k25 k26 k27 d0 d1 d2 (shm_40 f1) (shm_55 f2) (shm_56 f3) (shm_541 f4) (shm_542 f5) h7 g8 (shm_53 f13) (shm_54 f14) (shm_541 f15) (shm_542 f16) h18 (shm_14 f21) h22 h23 kz_0_8 kz_0_10 kz_0_158)⟩
  refine ⟨(fun _ h => (by cases h)), [], trivial, ?_, (fun _ h => (by cases h))⟩
  rw [List.append_nil]
  exact List.forall_mem_cons.mpr ⟨⟨show (20 : Nat) < 100 from by decide, nf0⟩, List.forall_mem_cons.mpr ⟨⟨show (20 : Nat) < 100 from by decide, nf1⟩, (fun _ h => (by cases h))⟩⟩
set_option maxHeartbeats 4000000 in
theorem vc_Mo_word_at_s5024_7_0 (x2 : Int) (x4 : Int) (x5 : Int) (x6 : Int) (x8 : Int) (x10 : Int) (x11 : Int) (x12 : Int) (x14 : Int) (x15 : Int) (x16 : Int) (x17 : Int) (x18 : Int) (x19 : Int) (x21 : Int) (x22 : Int) (x23 : Int) (x24 : Int) (x25 : Int) (x26 : Int) (x28 : Int) (x29 : Int) (x30 : Int) (x31 : Int) (x32 : Int) (x33 : Int) (x34 : Int) (tape_0 : Int → Int) (limit_0 : Int) (tokenPlace_0 : Int → Int) (cur_0 : Int) (tokenEnd_0 : Int → Int) (tokenKind_0 : Int → Int) (fault_0 : Int) (k2 : 0 ≤ x2 ∧ x2 ≤ 0) (k4 : 0 ≤ x4 ∧ x4 ≤ 2009) (k5 : 1 ≤ x5 ∧ x5 ≤ 1) (k6 : 1 ≤ x6 ∧ x6 ≤ 1) (k8 : 3 ≤ x8 ∧ x8 ≤ 2000) (k10 : 0 ≤ x10 ∧ x10 ≤ 2000) (k11 : 3 ≤ x11 ∧ x11 ≤ 3) (k12 : 3 ≤ x12 ∧ x12 ≤ 3) (k14 : 0 ≤ x14 ∧ x14 ≤ 0) (k15 : 3 ≤ x15 ∧ x15 ≤ 3) (k16 : 0 ≤ x16 ∧ x16 ≤ 1999) (k17 : 0 ≤ x17 ∧ x17 ≤ 1999) (k18 : 0 ≤ x18 ∧ x18 ≤ 255) (k19 : 0 ≤ x19 ∧ x19 ≤ 255) (k21 : 1 ≤ x21 ∧ x21 ≤ 1) (k22 : 3 ≤ x22 ∧ x22 ≤ 3) (k23 : 0 ≤ x23 ∧ x23 ≤ 1998) (k24 : 1 ≤ x24 ∧ x24 ≤ 1999) (k25 : 0 ≤ x25 ∧ x25 ≤ 255) (k26 : 0 ≤ x26 ∧ x26 ≤ 255) (k28 : 2 ≤ x28 ∧ x28 ≤ 2) (k29 : 3 ≤ x29 ∧ x29 ≤ 3) (k30 : 0 ≤ x30 ∧ x30 ≤ 2000) (k31 : 2 ≤ x31 ∧ x31 ≤ 2002) (k32 : (-1) ≤ x32 ∧ x32 ≤ (-1)) (k33 : 0 ≤ x33 ∧ x33 ≤ 65535) (k34 : 0 ≤ x34 ∧ x34 ≤ 0) (d0 : x30 + 2 ≤ x31 ∧ x31 ≤ x30 + 2) (d1 : x26 + 0 ≤ x25 ∧ x25 ≤ x26 + 0) (d2 : x23 + 1 ≤ x24 ∧ x24 ≤ x23 + 1) (d3 : x19 + 0 ≤ x18 ∧ x18 ≤ x19 + 0) (d4 : x16 + 0 ≤ x17 ∧ x17 ≤ x16 + 0) (f0 : x32 ≠ x33) (f1 : 1 * x33 + 0 ≤ 116) (f2 : (-1) * x33 + 0 ≤ (-116)) (f3 : ((x31 + 1) ≤ limit_0) → (x32 = (tape_0 (x31) % 256))) (f4 : (limit_0 ≤ x31) → (x32 = (-1))) (f5 : x31 = x30 + x28) (h6 : x30 = tokenPlace_0 (x4)) (g7 : x4 = cur_0) (f9 : x28 < x29) (f10 : x28 = x21 + 1) (f11 : x25 = x26) (f12 : 1 * x26 + 0 ≤ 111) (f13 : (-1) * x26 + 0 ≤ (-111)) (f14 : ((x24 + 1) ≤ limit_0) → (x25 = (tape_0 (x24) % 256))) (f15 : (limit_0 ≤ x24) → (x25 = (-1))) (f16 : x24 = x23 + x21) (h17 : x23 = tokenPlace_0 (x4)) (f18 : x21 < x22) (f19 : x21 = x14 + 1) (f20 : x18 = x19) (f21 : 1 * x19 + 0 ≤ 110) (f22 : (-1) * x19 + 0 ≤ (-110)) (f23 : ((x17 + 1) ≤ limit_0) → (x18 = (tape_0 (x17) % 256))) (f24 : (limit_0 ≤ x17) → (x18 = (-1))) (f25 : x17 = x16 + x14) (h26 : x16 = tokenPlace_0 (x4)) (f27 : x14 < x15) (f28 : x11 = x12) (f29 : x11 = x8 - x10) (h30 : x10 = tokenPlace_0 (x4)) (h31 : x8 = tokenEnd_0 (x4)) (f33 : x5 = x6) (h34 : x5 = tokenKind_0 (x4)) (f36 : x2 = 0) (g37 : x2 = fault_0) (hK_0_1 : ∀ j : Int, 0 ≤ j → j < 2000 → (-128) ≤ tape_0 j ∧ tape_0 j ≤ 127) (hK_0_160 : ∀ j : Int, 0 ≤ j → j < 2010 → 0 ≤ tokenKind_0 j ∧ tokenKind_0 j ≤ 4) (hK_0_162 : ∀ j : Int, 0 ≤ j → j < 2010 → 0 ≤ tokenPlace_0 j ∧ tokenPlace_0 j ≤ 2000) (hK_0_163 : ∀ j : Int, 0 ≤ j → j < 2010 → 0 ≤ tokenEnd_0 j ∧ tokenEnd_0 j ≤ 2000) (kz_0_8 : 0 ≤ fault_0 ∧ fault_0 ≤ 5) (kz_0_10 : 0 ≤ limit_0 ∧ limit_0 ≤ 2000) (kz_0_158 : 0 ≤ cur_0 ∧ cur_0 ≤ 2009) : (x34 = 1) → (tokenKind_0 (cur_0) = 1) := by
  first | assumption | (clear f3 f4 f14 f15 f23 f24 hK_0_1 hK_0_160 hK_0_162 hK_0_163; omega) | (clear hK_0_1 hK_0_160 hK_0_162 hK_0_163; grind) | omega | grind
set_option maxHeartbeats 4000000 in
theorem vc_Mo_word_at_s5024_7_1 (x4 : Int) (x8 : Int) (x10 : Int) (x11 : Int) (x16 : Int) (x17 : Int) (x18 : Int) (x19 : Int) (x23 : Int) (x24 : Int) (x25 : Int) (x26 : Int) (x30 : Int) (x31 : Int) (x32 : Int) (x34 : Int) (tape_0 : Int → Int) (limit_0 : Int) (tokenPlace_0 : Int → Int) (cur_0 : Int) (tokenEnd_0 : Int → Int) (tokenKind_0 : Int → Int) (fault_0 : Int) (k4 : 0 ≤ x4 ∧ x4 ≤ 2009) (k8 : 3 ≤ x8 ∧ x8 ≤ 2000) (k10 : 0 ≤ x10 ∧ x10 ≤ 2000) (k11 : 3 ≤ x11 ∧ x11 ≤ 3) (k16 : 0 ≤ x16 ∧ x16 ≤ 1999) (k17 : 0 ≤ x17 ∧ x17 ≤ 1999) (k18 : 0 ≤ x18 ∧ x18 ≤ 255) (k19 : 0 ≤ x19 ∧ x19 ≤ 255) (k23 : 0 ≤ x23 ∧ x23 ≤ 1998) (k24 : 1 ≤ x24 ∧ x24 ≤ 1999) (k25 : 0 ≤ x25 ∧ x25 ≤ 255) (k26 : 0 ≤ x26 ∧ x26 ≤ 255) (k30 : 0 ≤ x30 ∧ x30 ≤ 2000) (k31 : 2 ≤ x31 ∧ x31 ≤ 2002) (k32 : (-1) ≤ x32 ∧ x32 ≤ (-1)) (k34 : 0 ≤ x34 ∧ x34 ≤ 0) (d0 : x30 + 2 ≤ x31 ∧ x31 ≤ x30 + 2) (d1 : x26 + 0 ≤ x25 ∧ x25 ≤ x26 + 0) (d2 : x23 + 1 ≤ x24 ∧ x24 ≤ x23 + 1) (d3 : x19 + 0 ≤ x18 ∧ x18 ≤ x19 + 0) (d4 : x16 + 0 ≤ x17 ∧ x17 ≤ x16 + 0) (f3 : ((x31 + 1) ≤ limit_0) → (x32 = (tape_0 (x31) % 256))) (f4 : (limit_0 ≤ x31) → (x32 = (-1))) (h6 : x30 = tokenPlace_0 (x4)) (g7 : x4 = cur_0) (f12 : 1 * x26 + 0 ≤ 111) (f13 : (-1) * x26 + 0 ≤ (-111)) (f14 : ((x24 + 1) ≤ limit_0) → (x25 = (tape_0 (x24) % 256))) (f15 : (limit_0 ≤ x24) → (x25 = (-1))) (h17 : x23 = tokenPlace_0 (x4)) (f21 : 1 * x19 + 0 ≤ 110) (f22 : (-1) * x19 + 0 ≤ (-110)) (f23 : ((x17 + 1) ≤ limit_0) → (x18 = (tape_0 (x17) % 256))) (f24 : (limit_0 ≤ x17) → (x18 = (-1))) (h26 : x16 = tokenPlace_0 (x4)) (f29 : x11 = x8 - x10) (h30 : x10 = tokenPlace_0 (x4)) (h31 : x8 = tokenEnd_0 (x4)) (kz_0_8 : 0 ≤ fault_0 ∧ fault_0 ≤ 5) (kz_0_10 : 0 ≤ limit_0 ∧ limit_0 ≤ 2000) (kz_0_158 : 0 ≤ cur_0 ∧ cur_0 ≤ 2009) : Wqnot (fault_0) (cur_0) (limit_0) (tokenKind_0) (tokenPlace_0) (tokenEnd_0) (tape_0) (x34) := by
  first
    | exact ⟨fun z => by omega, fun z => by have := z.1; omega⟩
    | (have e := (‹x4 = cur_0›)
       rw [← e]
       refine ⟨fun z => ⟨by omega, wdS3.2 ⟨by omega, by omega, by omega, by rw [show tokenPlace_0 x4 + 0 = x17 by omega]; omega, by rw [show tokenPlace_0 x4 + 1 = x24 by omega]; omega, by rw [show tokenPlace_0 x4 + 2 = x31 by omega]; omega⟩⟩, fun z => by omega⟩)
    | (have e := (‹x4 = cur_0›)
       rw [← e]
       refine ⟨fun z => by omega, fun z => ?_⟩
       have w := wdS3.1 z.2
       try (have q0 : tokenPlace_0 x4 + 0 = x17 := (by omega); rw [q0] at w)
       try (have q1 : tokenPlace_0 x4 + 1 = x24 := (by omega); rw [q1] at w)
       try (have q2 : tokenPlace_0 x4 + 2 = x31 := (by omega); rw [q2] at w)
       omega)
  
def o_Mo_word_at_s5024_7 : or_T := (102, 37, [(0, (2, 0, 0, [165])), (2, (0, 0, 0, [])), (3, (2, 0, 0, [274])), (4, (0, 0, 2009, [])), (5, (0, 1, 1, [])), (6, (0, 1, 1, [])), (7, (2, 0, 0, [277])), (8, (0, 3, 2000, [])), (9, (2, 0, 0, [276])), (10, (0, 0, 2000, [])), (11, (0, 3, 3, [])), (12, (0, 3, 3, [])), (14, (0, 0, 0, [])), (15, (0, 3, 3, [])), (16, (0, 0, 1999, [])), (17, (0, 0, 1999, [])), (18, (0, 0, 255, [])), (19, (0, 0, 255, [])), (21, (0, 1, 1, [])), (22, (0, 3, 3, [])), (23, (0, 0, 1998, [])), (24, (0, 1, 1999, [])), (25, (0, 0, 255, [])), (26, (0, 0, 255, [])), (28, (0, 2, 2, [])), (29, (0, 3, 3, [])), (30, (0, 0, 2000, [])), (31, (0, 2, 2002, [])), (32, (0, -1, -1, [])), (33, (0, 0, 65535, [])), (34, (0, 0, 0, []))], [(7, [32, 33], [1]), (23, [33], [116, 1]), (23, [33], [-116, -1]), (20, [31, 0, 32], [50, 1, 1, 1010, 1001, 4, 11, 0, 6, 4, 2, 1, 0, 0, 1, 2, 1, 10, 1, 2, 1, 2, 9, 5, 3, 1, 1, 1, 0, 0, 256]), (20, [0, 31, 32], [50, 1, 0, 10, 4, 7, 0, 3, 2, 0, 10, 1, 1, 1, 2, 1, 2, 0, -1]), (1, [31, 30, 28], []), (10, [30, 9, 4], []), (9, [4, 0], [158]), (9, [9, 0], [162]), (7, [28, 29], [2]), (6, [28, 21], [1]), (7, [25, 26], [0]), (23, [26], [111, 1]), (23, [26], [-111, -1]), (20, [24, 0, 25], [50, 1, 1, 1010, 1001, 4, 11, 0, 6, 4, 2, 1, 0, 0, 1, 2, 1, 10, 1, 2, 1, 2, 9, 5, 3, 1, 1, 1, 0, 0, 256]), (20, [0, 24, 25], [50, 1, 0, 10, 4, 7, 0, 3, 2, 0, 10, 1, 1, 1, 2, 1, 2, 0, -1]), (1, [24, 23, 21], []), (10, [23, 9, 4], []), (7, [21, 22], [2]), (6, [21, 14], [1]), (7, [18, 19], [0]), (23, [19], [110, 1]), (23, [19], [-110, -1]), (20, [17, 0, 18], [50, 1, 1, 1010, 1001, 4, 11, 0, 6, 4, 2, 1, 0, 0, 1, 2, 1, 10, 1, 2, 1, 2, 9, 5, 3, 1, 1, 1, 0, 0, 256]), (20, [0, 17, 18], [50, 1, 0, 10, 4, 7, 0, 3, 2, 0, 10, 1, 1, 1, 2, 1, 2, 0, -1]), (1, [17, 16, 14], []), (10, [16, 9, 4], []), (7, [14, 15], [2]), (7, [11, 12], [0]), (2, [11, 8, 10], []), (10, [10, 9, 4], []), (10, [8, 7, 4], []), (9, [7, 0], [163]), (7, [5, 6], [0]), (10, [5, 3, 4], []), (9, [3, 0], [160]), (8, [2], [0]), (9, [2, 0], [8])], [], [], [(20, [34, 0], [50, 1, 1, 1158, 1160, 4, 6, 1, 2, 1, 0, 0, 1, 1, 6, 3, 1, 160, 2, 1, 158, 0, 1]), (20, [0, 34], [60, 3, 4, 27, 8, 158, 10, 160, 162, 163, 1])], [], [(31, 30, 2, 2), (25, 26, 0, 0), (24, 23, 1, 1), (18, 19, 0, 0), (17, 16, 0, 0)])
theorem oo_Mo_word_at_s5024_7 {kA : Nat → ClassId} : or_ok PRD kA GG o_Mo_word_at_s5024_7 := by
  refine or_mk fun A ta ws vs hD hth hl => ?_
  intro t0 r0 t2 k2 t3 r3 t4 k4 t5 k5 t6 k6 t7 r7 t8 k8 t9 r9 t10 k10 t11 k11 t12 k12 t14 k14 t15 k15 t16 k16 t17 k17 t18 k18 t19 k19 t21 k21 t22 k22 t23 k23 t24 k24 t25 k25 t26 k26 t28 k28 t29 k29 t30 k30 t31 k31 t32 k32 t33 k33 t34 k34 d0 d1 d2 d3 d4 f0 f1 f2 f3 f4 f5 f6 f7 f8 f9 f10 f11 f12 f13 f14 f15 f16 f17 f18 f19 f20 f21 f22 f23 f24 f25 f26 f27 f28 f29 f30 f31 f32 f33 f34 f35 f36 f37
  replace f6 := shm_107 f6
  replace f7 := shm_286 f7
  replace f8 := shm_301 f8
  replace f17 := shm_107 f17
  replace f26 := shm_107 f26
  replace f30 := shm_107 f30
  replace f31 := shm_107 f31
  replace f32 := shm_1332 f32
  replace f34 := shm_107 f34
  replace f35 := shm_327 f35
  replace f37 := shm_293 f37
  have cr_0_1 := fdq_39 hD hth r0
  have cr_0_160 := fdq_33 hD hth r0
  have cr_0_162 := fdq_41 hD hth r0
  have cr_0_163 := fdq_42 hD hth r0
  have ad_9 : v_ad (n_v vs 9) = w_ar ws (n_v vs 0) 162 := congrArg v_ad f8
  have ad_7 : v_ad (n_v vs 7) = w_ar ws (n_v vs 0) 163 := congrArg v_ad f32
  have ad_3 : v_ad (n_v vs 3) = w_ar ws (n_v vs 0) 160 := congrArg v_ad f35
  simp only [ad_9] at f6
  have h6 : v_iv (n_v vs 30) = w_ei ws (w_ar ws (n_v vs 0) 162) (v_iv (n_v vs 4)) := f6
  have g7 : v_iv (n_v vs 4) = w_fi ws (n_v vs 0) 158 := congrArg v_iv f7
  simp only [ad_9] at f17
  have h17 : v_iv (n_v vs 23) = w_ei ws (w_ar ws (n_v vs 0) 162) (v_iv (n_v vs 4)) := f17
  simp only [ad_9] at f26
  have h26 : v_iv (n_v vs 16) = w_ei ws (w_ar ws (n_v vs 0) 162) (v_iv (n_v vs 4)) := f26
  simp only [ad_9] at f30
  have h30 : v_iv (n_v vs 10) = w_ei ws (w_ar ws (n_v vs 0) 162) (v_iv (n_v vs 4)) := f30
  simp only [ad_7] at f31
  have h31 : v_iv (n_v vs 8) = w_ei ws (w_ar ws (n_v vs 0) 163) (v_iv (n_v vs 4)) := f31
  simp only [ad_3] at f34
  have h34 : v_iv (n_v vs 5) = w_ei ws (w_ar ws (n_v vs 0) 160) (v_iv (n_v vs 4)) := f34
  have g37 : v_iv (n_v vs 2) = w_fi ws (n_v vs 0) 8 := congrArg v_iv f37
  have hK_0_1 := elq_7 hD hth cr_0_1
  have hK_0_160 := elq_6 hD hth cr_0_160
  have hK_0_162 := elq_8 hD hth cr_0_162
  have hK_0_163 := elq_9 hD hth cr_0_163
  have kz_0_8 := fdq_34 hD hth r0
  have kz_0_10 := fdq_43 hD hth r0
  have kz_0_158 := fdq_36 hD hth r0
  have nf0 : fc_1 PRD (20, [34, 0], [50, 1, 1, 1158, 1160, 4, 6, 1, 2, 1, 0, 0, 1, 1, 6, 3, 1, 160, 2, 1, 158, 0, 1]) ws (vs) := ⟨nf_in hl rfl, sgq_287 (vc_Mo_word_at_s5024_7_0 (v_iv (n_v vs 2)) (v_iv (n_v vs 4)) (v_iv (n_v vs 5)) (v_iv (n_v vs 6)) (v_iv (n_v vs 8)) (v_iv (n_v vs 10)) (v_iv (n_v vs 11)) (v_iv (n_v vs 12)) (v_iv (n_v vs 14)) (v_iv (n_v vs 15)) (v_iv (n_v vs 16)) (v_iv (n_v vs 17)) (v_iv (n_v vs 18)) (v_iv (n_v vs 19)) (v_iv (n_v vs 21)) (v_iv (n_v vs 22)) (v_iv (n_v vs 23)) (v_iv (n_v vs 24)) (v_iv (n_v vs 25)) (v_iv (n_v vs 26)) (v_iv (n_v vs 28)) (v_iv (n_v vs 29)) (v_iv (n_v vs 30)) (v_iv (n_v vs 31)) (v_iv (n_v vs 32)) (v_iv (n_v vs 33)) (v_iv (n_v vs 34)) (w_ei ws (w_ar ws (n_v vs 0) 1)) (w_fi ws (n_v vs 0) 10) (w_ei ws (w_ar ws (n_v vs 0) 162)) (w_fi ws (n_v vs 0) 158) (w_ei ws (w_ar ws (n_v vs 0) 163)) (w_ei ws (w_ar ws (n_v vs 0) 160)) (w_fi ws (n_v vs 0) 8) k2 k4 k5 k6 k8 k10 k11 k12 k14 k15 k16 k17 k18 k19 k21 k22 k23 k24 k25 k26 k28 k29 k30 k31 k32 k33 k34 d0 d1 d2 d3 d4 (shm_40 f0) (shm_79 f1) (shm_80 f2) (shm_541 f3) (shm_542 f4) (shm_12 f5) h6 g7 (shm_6 f9) (shm_4 f10) (shm_37 f11) (shm_55 f12) (shm_56 f13) (shm_541 f14) (shm_542 f15) (shm_12 f16) h17 (shm_6 f18) (shm_4 f19) (shm_37 f20) (shm_53 f21) (shm_54 f22) (shm_541 f23) (shm_542 f24) (shm_12 f25) h26 (shm_6 f27) (shm_37 f28) (shm_14 f29) h30 h31 (shm_37 f33) h34 (shm_192 f36) g37 hK_0_1 hK_0_160 hK_0_162 hK_0_163 kz_0_8 kz_0_10 kz_0_158)⟩
  have nf1 : fc_1 PRD (20, [0, 34], [60, 3, 4, 27, 8, 158, 10, 160, 162, 163, 1]) ws (vs) := ⟨nf_in hl rfl, sgq_294 (vc_Mo_word_at_s5024_7_1 (v_iv (n_v vs 4)) (v_iv (n_v vs 8)) (v_iv (n_v vs 10)) (v_iv (n_v vs 11)) (v_iv (n_v vs 16)) (v_iv (n_v vs 17)) (v_iv (n_v vs 18)) (v_iv (n_v vs 19)) (v_iv (n_v vs 23)) (v_iv (n_v vs 24)) (v_iv (n_v vs 25)) (v_iv (n_v vs 26)) (v_iv (n_v vs 30)) (v_iv (n_v vs 31)) (v_iv (n_v vs 32)) (v_iv (n_v vs 34)) (w_ei ws (w_ar ws (n_v vs 0) 1)) (w_fi ws (n_v vs 0) 10) (w_ei ws (w_ar ws (n_v vs 0) 162)) (w_fi ws (n_v vs 0) 158) (w_ei ws (w_ar ws (n_v vs 0) 163)) (w_ei ws (w_ar ws (n_v vs 0) 160)) (w_fi ws (n_v vs 0) 8) k4 k8 k10 k11 k16 k17 k18 k19 k23 k24 k25 k26 k30 k31 k32 k34 d0 d1 d2 d3 d4 (shm_541 f3) (shm_542 f4) h6 g7 (shm_55 f12) (shm_56 f13) (shm_541 f14) (shm_542 f15) h17 (shm_53 f21) (shm_54 f22) (shm_541 f23) (shm_542 f24) h26 (shm_14 f29) h30 h31 kz_0_8 kz_0_10 kz_0_158)⟩
  refine ⟨(fun _ h => (by cases h)), [], trivial, ?_, (fun _ h => (by cases h))⟩
  rw [List.append_nil]
  exact List.forall_mem_cons.mpr ⟨⟨show (20 : Nat) < 100 from by decide, nf0⟩, List.forall_mem_cons.mpr ⟨⟨show (20 : Nat) < 100 from by decide, nf1⟩, (fun _ h => (by cases h))⟩⟩
set_option maxHeartbeats 4000000 in
theorem vc_Mo_word_at_s5024_8_0 (x2 : Int) (x4 : Int) (x5 : Int) (x6 : Int) (x8 : Int) (x10 : Int) (x11 : Int) (x12 : Int) (x14 : Int) (x15 : Int) (x16 : Int) (x17 : Int) (x18 : Int) (x19 : Int) (x21 : Int) (x22 : Int) (x23 : Int) (x24 : Int) (x25 : Int) (x26 : Int) (x28 : Int) (x29 : Int) (x30 : Int) (x31 : Int) (x32 : Int) (x33 : Int) (x34 : Int) (tape_0 : Int → Int) (limit_0 : Int) (tokenPlace_0 : Int → Int) (cur_0 : Int) (tokenEnd_0 : Int → Int) (tokenKind_0 : Int → Int) (fault_0 : Int) (k2 : 0 ≤ x2 ∧ x2 ≤ 0) (k4 : 0 ≤ x4 ∧ x4 ≤ 2009) (k5 : 1 ≤ x5 ∧ x5 ≤ 1) (k6 : 1 ≤ x6 ∧ x6 ≤ 1) (k8 : 3 ≤ x8 ∧ x8 ≤ 2000) (k10 : 0 ≤ x10 ∧ x10 ≤ 2000) (k11 : 3 ≤ x11 ∧ x11 ≤ 3) (k12 : 3 ≤ x12 ∧ x12 ≤ 3) (k14 : 0 ≤ x14 ∧ x14 ≤ 0) (k15 : 3 ≤ x15 ∧ x15 ≤ 3) (k16 : 0 ≤ x16 ∧ x16 ≤ 1999) (k17 : 0 ≤ x17 ∧ x17 ≤ 1999) (k18 : 0 ≤ x18 ∧ x18 ≤ 255) (k19 : 0 ≤ x19 ∧ x19 ≤ 255) (k21 : 1 ≤ x21 ∧ x21 ≤ 1) (k22 : 3 ≤ x22 ∧ x22 ≤ 3) (k23 : 0 ≤ x23 ∧ x23 ≤ 1998) (k24 : 1 ≤ x24 ∧ x24 ≤ 1999) (k25 : 0 ≤ x25 ∧ x25 ≤ 255) (k26 : 0 ≤ x26 ∧ x26 ≤ 255) (k28 : 2 ≤ x28 ∧ x28 ≤ 2) (k29 : 3 ≤ x29 ∧ x29 ≤ 3) (k30 : 0 ≤ x30 ∧ x30 ≤ 1997) (k31 : 2 ≤ x31 ∧ x31 ≤ 1999) (k32 : 0 ≤ x32 ∧ x32 ≤ 255) (k33 : 0 ≤ x33 ∧ x33 ≤ 65535) (k34 : 0 ≤ x34 ∧ x34 ≤ 0) (d0 : x30 + 2 ≤ x31 ∧ x31 ≤ x30 + 2) (d1 : x26 + 0 ≤ x25 ∧ x25 ≤ x26 + 0) (d2 : x23 + 1 ≤ x24 ∧ x24 ≤ x23 + 1) (d3 : x19 + 0 ≤ x18 ∧ x18 ≤ x19 + 0) (d4 : x16 + 0 ≤ x17 ∧ x17 ≤ x16 + 0) (f0 : x32 ≠ x33) (f1 : 1 * x33 + 0 ≤ 116) (f2 : (-1) * x33 + 0 ≤ (-116)) (f3 : ((x31 + 1) ≤ limit_0) → (x32 = (tape_0 (x31) % 256))) (f4 : (limit_0 ≤ x31) → (x32 = (-1))) (f5 : x31 = x30 + x28) (h6 : x30 = tokenPlace_0 (x4)) (g7 : x4 = cur_0) (f9 : x28 < x29) (f10 : x28 = x21 + 1) (f11 : x25 = x26) (f12 : 1 * x26 + 0 ≤ 111) (f13 : (-1) * x26 + 0 ≤ (-111)) (f14 : ((x24 + 1) ≤ limit_0) → (x25 = (tape_0 (x24) % 256))) (f15 : (limit_0 ≤ x24) → (x25 = (-1))) (f16 : x24 = x23 + x21) (h17 : x23 = tokenPlace_0 (x4)) (f18 : x21 < x22) (f19 : x21 = x14 + 1) (f20 : x18 = x19) (f21 : 1 * x19 + 0 ≤ 110) (f22 : (-1) * x19 + 0 ≤ (-110)) (f23 : ((x17 + 1) ≤ limit_0) → (x18 = (tape_0 (x17) % 256))) (f24 : (limit_0 ≤ x17) → (x18 = (-1))) (f25 : x17 = x16 + x14) (h26 : x16 = tokenPlace_0 (x4)) (f27 : x14 < x15) (f28 : x11 = x12) (f29 : x11 = x8 - x10) (h30 : x10 = tokenPlace_0 (x4)) (h31 : x8 = tokenEnd_0 (x4)) (f33 : x5 = x6) (h34 : x5 = tokenKind_0 (x4)) (f36 : x2 = 0) (g37 : x2 = fault_0) (hK_0_1 : ∀ j : Int, 0 ≤ j → j < 2000 → (-128) ≤ tape_0 j ∧ tape_0 j ≤ 127) (hK_0_160 : ∀ j : Int, 0 ≤ j → j < 2010 → 0 ≤ tokenKind_0 j ∧ tokenKind_0 j ≤ 4) (hK_0_162 : ∀ j : Int, 0 ≤ j → j < 2010 → 0 ≤ tokenPlace_0 j ∧ tokenPlace_0 j ≤ 2000) (hK_0_163 : ∀ j : Int, 0 ≤ j → j < 2010 → 0 ≤ tokenEnd_0 j ∧ tokenEnd_0 j ≤ 2000) (kz_0_8 : 0 ≤ fault_0 ∧ fault_0 ≤ 5) (kz_0_10 : 0 ≤ limit_0 ∧ limit_0 ≤ 2000) (kz_0_158 : 0 ≤ cur_0 ∧ cur_0 ≤ 2009) : (x34 = 1) → (tokenKind_0 (cur_0) = 1) := by
  first | assumption | (clear f3 f4 f14 f15 f23 f24 hK_0_1 hK_0_160 hK_0_162 hK_0_163; omega) | (clear hK_0_1 hK_0_160 hK_0_162 hK_0_163; grind) | omega | grind
set_option maxHeartbeats 4000000 in
theorem vc_Mo_word_at_s5024_8_1 (x4 : Int) (x8 : Int) (x10 : Int) (x11 : Int) (x16 : Int) (x17 : Int) (x18 : Int) (x19 : Int) (x23 : Int) (x24 : Int) (x25 : Int) (x26 : Int) (x30 : Int) (x31 : Int) (x32 : Int) (x33 : Int) (x34 : Int) (tape_0 : Int → Int) (limit_0 : Int) (tokenPlace_0 : Int → Int) (cur_0 : Int) (tokenEnd_0 : Int → Int) (tokenKind_0 : Int → Int) (fault_0 : Int) (k4 : 0 ≤ x4 ∧ x4 ≤ 2009) (k8 : 3 ≤ x8 ∧ x8 ≤ 2000) (k10 : 0 ≤ x10 ∧ x10 ≤ 2000) (k11 : 3 ≤ x11 ∧ x11 ≤ 3) (k16 : 0 ≤ x16 ∧ x16 ≤ 1999) (k17 : 0 ≤ x17 ∧ x17 ≤ 1999) (k18 : 0 ≤ x18 ∧ x18 ≤ 255) (k19 : 0 ≤ x19 ∧ x19 ≤ 255) (k23 : 0 ≤ x23 ∧ x23 ≤ 1998) (k24 : 1 ≤ x24 ∧ x24 ≤ 1999) (k25 : 0 ≤ x25 ∧ x25 ≤ 255) (k26 : 0 ≤ x26 ∧ x26 ≤ 255) (k30 : 0 ≤ x30 ∧ x30 ≤ 1997) (k31 : 2 ≤ x31 ∧ x31 ≤ 1999) (k32 : 0 ≤ x32 ∧ x32 ≤ 255) (k33 : 0 ≤ x33 ∧ x33 ≤ 65535) (k34 : 0 ≤ x34 ∧ x34 ≤ 0) (d0 : x30 + 2 ≤ x31 ∧ x31 ≤ x30 + 2) (d1 : x26 + 0 ≤ x25 ∧ x25 ≤ x26 + 0) (d2 : x23 + 1 ≤ x24 ∧ x24 ≤ x23 + 1) (d3 : x19 + 0 ≤ x18 ∧ x18 ≤ x19 + 0) (d4 : x16 + 0 ≤ x17 ∧ x17 ≤ x16 + 0) (f0 : x32 ≠ x33) (f1 : 1 * x33 + 0 ≤ 116) (f2 : (-1) * x33 + 0 ≤ (-116)) (f3 : ((x31 + 1) ≤ limit_0) → (x32 = (tape_0 (x31) % 256))) (f4 : (limit_0 ≤ x31) → (x32 = (-1))) (h6 : x30 = tokenPlace_0 (x4)) (g7 : x4 = cur_0) (f12 : 1 * x26 + 0 ≤ 111) (f13 : (-1) * x26 + 0 ≤ (-111)) (f14 : ((x24 + 1) ≤ limit_0) → (x25 = (tape_0 (x24) % 256))) (f15 : (limit_0 ≤ x24) → (x25 = (-1))) (h17 : x23 = tokenPlace_0 (x4)) (f21 : 1 * x19 + 0 ≤ 110) (f22 : (-1) * x19 + 0 ≤ (-110)) (f23 : ((x17 + 1) ≤ limit_0) → (x18 = (tape_0 (x17) % 256))) (f24 : (limit_0 ≤ x17) → (x18 = (-1))) (h26 : x16 = tokenPlace_0 (x4)) (f29 : x11 = x8 - x10) (h30 : x10 = tokenPlace_0 (x4)) (h31 : x8 = tokenEnd_0 (x4)) (kz_0_8 : 0 ≤ fault_0 ∧ fault_0 ≤ 5) (kz_0_10 : 0 ≤ limit_0 ∧ limit_0 ≤ 2000) (kz_0_158 : 0 ≤ cur_0 ∧ cur_0 ≤ 2009) : Wqnot (fault_0) (cur_0) (limit_0) (tokenKind_0) (tokenPlace_0) (tokenEnd_0) (tape_0) (x34) := by
  first
    | exact ⟨fun z => by omega, fun z => by have := z.1; omega⟩
    | (have e := (‹x4 = cur_0›)
       rw [← e]
       refine ⟨fun z => ⟨by omega, wdS3.2 ⟨by omega, by omega, by omega, by rw [show tokenPlace_0 x4 + 0 = x17 by omega]; omega, by rw [show tokenPlace_0 x4 + 1 = x24 by omega]; omega, by rw [show tokenPlace_0 x4 + 2 = x31 by omega]; omega⟩⟩, fun z => by omega⟩)
    | (have e := (‹x4 = cur_0›)
       rw [← e]
       refine ⟨fun z => by omega, fun z => ?_⟩
       have w := wdS3.1 z.2
       try (have q0 : tokenPlace_0 x4 + 0 = x17 := (by omega); rw [q0] at w)
       try (have q1 : tokenPlace_0 x4 + 1 = x24 := (by omega); rw [q1] at w)
       try (have q2 : tokenPlace_0 x4 + 2 = x31 := (by omega); rw [q2] at w)
       omega)
  
def o_Mo_word_at_s5024_8 : or_T := (102, 37, [(0, (2, 0, 0, [165])), (2, (0, 0, 0, [])), (3, (2, 0, 0, [274])), (4, (0, 0, 2009, [])), (5, (0, 1, 1, [])), (6, (0, 1, 1, [])), (7, (2, 0, 0, [277])), (8, (0, 3, 2000, [])), (9, (2, 0, 0, [276])), (10, (0, 0, 2000, [])), (11, (0, 3, 3, [])), (12, (0, 3, 3, [])), (14, (0, 0, 0, [])), (15, (0, 3, 3, [])), (16, (0, 0, 1999, [])), (17, (0, 0, 1999, [])), (18, (0, 0, 255, [])), (19, (0, 0, 255, [])), (21, (0, 1, 1, [])), (22, (0, 3, 3, [])), (23, (0, 0, 1998, [])), (24, (0, 1, 1999, [])), (25, (0, 0, 255, [])), (26, (0, 0, 255, [])), (28, (0, 2, 2, [])), (29, (0, 3, 3, [])), (30, (0, 0, 1997, [])), (31, (0, 2, 1999, [])), (32, (0, 0, 255, [])), (33, (0, 0, 65535, [])), (34, (0, 0, 0, []))], [(7, [32, 33], [1]), (23, [33], [116, 1]), (23, [33], [-116, -1]), (20, [31, 0, 32], [50, 1, 1, 1010, 1001, 4, 11, 0, 6, 4, 2, 1, 0, 0, 1, 2, 1, 10, 1, 2, 1, 2, 9, 5, 3, 1, 1, 1, 0, 0, 256]), (20, [0, 31, 32], [50, 1, 0, 10, 4, 7, 0, 3, 2, 0, 10, 1, 1, 1, 2, 1, 2, 0, -1]), (1, [31, 30, 28], []), (10, [30, 9, 4], []), (9, [4, 0], [158]), (9, [9, 0], [162]), (7, [28, 29], [2]), (6, [28, 21], [1]), (7, [25, 26], [0]), (23, [26], [111, 1]), (23, [26], [-111, -1]), (20, [24, 0, 25], [50, 1, 1, 1010, 1001, 4, 11, 0, 6, 4, 2, 1, 0, 0, 1, 2, 1, 10, 1, 2, 1, 2, 9, 5, 3, 1, 1, 1, 0, 0, 256]), (20, [0, 24, 25], [50, 1, 0, 10, 4, 7, 0, 3, 2, 0, 10, 1, 1, 1, 2, 1, 2, 0, -1]), (1, [24, 23, 21], []), (10, [23, 9, 4], []), (7, [21, 22], [2]), (6, [21, 14], [1]), (7, [18, 19], [0]), (23, [19], [110, 1]), (23, [19], [-110, -1]), (20, [17, 0, 18], [50, 1, 1, 1010, 1001, 4, 11, 0, 6, 4, 2, 1, 0, 0, 1, 2, 1, 10, 1, 2, 1, 2, 9, 5, 3, 1, 1, 1, 0, 0, 256]), (20, [0, 17, 18], [50, 1, 0, 10, 4, 7, 0, 3, 2, 0, 10, 1, 1, 1, 2, 1, 2, 0, -1]), (1, [17, 16, 14], []), (10, [16, 9, 4], []), (7, [14, 15], [2]), (7, [11, 12], [0]), (2, [11, 8, 10], []), (10, [10, 9, 4], []), (10, [8, 7, 4], []), (9, [7, 0], [163]), (7, [5, 6], [0]), (10, [5, 3, 4], []), (9, [3, 0], [160]), (8, [2], [0]), (9, [2, 0], [8])], [], [], [(20, [34, 0], [50, 1, 1, 1158, 1160, 4, 6, 1, 2, 1, 0, 0, 1, 1, 6, 3, 1, 160, 2, 1, 158, 0, 1]), (20, [0, 34], [60, 3, 4, 27, 8, 158, 10, 160, 162, 163, 1])], [], [(31, 30, 2, 2), (25, 26, 0, 0), (24, 23, 1, 1), (18, 19, 0, 0), (17, 16, 0, 0)])
theorem oo_Mo_word_at_s5024_8 {kA : Nat → ClassId} : or_ok PRD kA GG o_Mo_word_at_s5024_8 := by
  refine or_mk fun A ta ws vs hD hth hl => ?_
  intro t0 r0 t2 k2 t3 r3 t4 k4 t5 k5 t6 k6 t7 r7 t8 k8 t9 r9 t10 k10 t11 k11 t12 k12 t14 k14 t15 k15 t16 k16 t17 k17 t18 k18 t19 k19 t21 k21 t22 k22 t23 k23 t24 k24 t25 k25 t26 k26 t28 k28 t29 k29 t30 k30 t31 k31 t32 k32 t33 k33 t34 k34 d0 d1 d2 d3 d4 f0 f1 f2 f3 f4 f5 f6 f7 f8 f9 f10 f11 f12 f13 f14 f15 f16 f17 f18 f19 f20 f21 f22 f23 f24 f25 f26 f27 f28 f29 f30 f31 f32 f33 f34 f35 f36 f37
  replace f6 := shm_107 f6
  replace f7 := shm_286 f7
  replace f8 := shm_301 f8
  replace f17 := shm_107 f17
  replace f26 := shm_107 f26
  replace f30 := shm_107 f30
  replace f31 := shm_107 f31
  replace f32 := shm_1332 f32
  replace f34 := shm_107 f34
  replace f35 := shm_327 f35
  replace f37 := shm_293 f37
  have cr_0_1 := fdq_39 hD hth r0
  have cr_0_160 := fdq_33 hD hth r0
  have cr_0_162 := fdq_41 hD hth r0
  have cr_0_163 := fdq_42 hD hth r0
  have ad_9 : v_ad (n_v vs 9) = w_ar ws (n_v vs 0) 162 := congrArg v_ad f8
  have ad_7 : v_ad (n_v vs 7) = w_ar ws (n_v vs 0) 163 := congrArg v_ad f32
  have ad_3 : v_ad (n_v vs 3) = w_ar ws (n_v vs 0) 160 := congrArg v_ad f35
  simp only [ad_9] at f6
  have h6 : v_iv (n_v vs 30) = w_ei ws (w_ar ws (n_v vs 0) 162) (v_iv (n_v vs 4)) := f6
  have g7 : v_iv (n_v vs 4) = w_fi ws (n_v vs 0) 158 := congrArg v_iv f7
  simp only [ad_9] at f17
  have h17 : v_iv (n_v vs 23) = w_ei ws (w_ar ws (n_v vs 0) 162) (v_iv (n_v vs 4)) := f17
  simp only [ad_9] at f26
  have h26 : v_iv (n_v vs 16) = w_ei ws (w_ar ws (n_v vs 0) 162) (v_iv (n_v vs 4)) := f26
  simp only [ad_9] at f30
  have h30 : v_iv (n_v vs 10) = w_ei ws (w_ar ws (n_v vs 0) 162) (v_iv (n_v vs 4)) := f30
  simp only [ad_7] at f31
  have h31 : v_iv (n_v vs 8) = w_ei ws (w_ar ws (n_v vs 0) 163) (v_iv (n_v vs 4)) := f31
  simp only [ad_3] at f34
  have h34 : v_iv (n_v vs 5) = w_ei ws (w_ar ws (n_v vs 0) 160) (v_iv (n_v vs 4)) := f34
  have g37 : v_iv (n_v vs 2) = w_fi ws (n_v vs 0) 8 := congrArg v_iv f37
  have hK_0_1 := elq_7 hD hth cr_0_1
  have hK_0_160 := elq_6 hD hth cr_0_160
  have hK_0_162 := elq_8 hD hth cr_0_162
  have hK_0_163 := elq_9 hD hth cr_0_163
  have kz_0_8 := fdq_34 hD hth r0
  have kz_0_10 := fdq_43 hD hth r0
  have kz_0_158 := fdq_36 hD hth r0
  have nf0 : fc_1 PRD (20, [34, 0], [50, 1, 1, 1158, 1160, 4, 6, 1, 2, 1, 0, 0, 1, 1, 6, 3, 1, 160, 2, 1, 158, 0, 1]) ws (vs) := ⟨nf_in hl rfl, sgq_287 (vc_Mo_word_at_s5024_8_0 (v_iv (n_v vs 2)) (v_iv (n_v vs 4)) (v_iv (n_v vs 5)) (v_iv (n_v vs 6)) (v_iv (n_v vs 8)) (v_iv (n_v vs 10)) (v_iv (n_v vs 11)) (v_iv (n_v vs 12)) (v_iv (n_v vs 14)) (v_iv (n_v vs 15)) (v_iv (n_v vs 16)) (v_iv (n_v vs 17)) (v_iv (n_v vs 18)) (v_iv (n_v vs 19)) (v_iv (n_v vs 21)) (v_iv (n_v vs 22)) (v_iv (n_v vs 23)) (v_iv (n_v vs 24)) (v_iv (n_v vs 25)) (v_iv (n_v vs 26)) (v_iv (n_v vs 28)) (v_iv (n_v vs 29)) (v_iv (n_v vs 30)) (v_iv (n_v vs 31)) (v_iv (n_v vs 32)) (v_iv (n_v vs 33)) (v_iv (n_v vs 34)) (w_ei ws (w_ar ws (n_v vs 0) 1)) (w_fi ws (n_v vs 0) 10) (w_ei ws (w_ar ws (n_v vs 0) 162)) (w_fi ws (n_v vs 0) 158) (w_ei ws (w_ar ws (n_v vs 0) 163)) (w_ei ws (w_ar ws (n_v vs 0) 160)) (w_fi ws (n_v vs 0) 8) k2 k4 k5 k6 k8 k10 k11 k12 k14 k15 k16 k17 k18 k19 k21 k22 k23 k24 k25 k26 k28 k29 k30 k31 k32 k33 k34 d0 d1 d2 d3 d4 (shm_40 f0) (shm_79 f1) (shm_80 f2) (shm_541 f3) (shm_542 f4) (shm_12 f5) h6 g7 (shm_6 f9) (shm_4 f10) (shm_37 f11) (shm_55 f12) (shm_56 f13) (shm_541 f14) (shm_542 f15) (shm_12 f16) h17 (shm_6 f18) (shm_4 f19) (shm_37 f20) (shm_53 f21) (shm_54 f22) (shm_541 f23) (shm_542 f24) (shm_12 f25) h26 (shm_6 f27) (shm_37 f28) (shm_14 f29) h30 h31 (shm_37 f33) h34 (shm_192 f36) g37 hK_0_1 hK_0_160 hK_0_162 hK_0_163 kz_0_8 kz_0_10 kz_0_158)⟩
  have nf1 : fc_1 PRD (20, [0, 34], [60, 3, 4, 27, 8, 158, 10, 160, 162, 163, 1]) ws (vs) := ⟨nf_in hl rfl, sgq_294 (vc_Mo_word_at_s5024_8_1 (v_iv (n_v vs 4)) (v_iv (n_v vs 8)) (v_iv (n_v vs 10)) (v_iv (n_v vs 11)) (v_iv (n_v vs 16)) (v_iv (n_v vs 17)) (v_iv (n_v vs 18)) (v_iv (n_v vs 19)) (v_iv (n_v vs 23)) (v_iv (n_v vs 24)) (v_iv (n_v vs 25)) (v_iv (n_v vs 26)) (v_iv (n_v vs 30)) (v_iv (n_v vs 31)) (v_iv (n_v vs 32)) (v_iv (n_v vs 33)) (v_iv (n_v vs 34)) (w_ei ws (w_ar ws (n_v vs 0) 1)) (w_fi ws (n_v vs 0) 10) (w_ei ws (w_ar ws (n_v vs 0) 162)) (w_fi ws (n_v vs 0) 158) (w_ei ws (w_ar ws (n_v vs 0) 163)) (w_ei ws (w_ar ws (n_v vs 0) 160)) (w_fi ws (n_v vs 0) 8) k4 k8 k10 k11 k16 k17 k18 k19 k23 k24 k25 k26 k30 k31 k32 k33 k34 d0 d1 d2 d3 d4 (shm_40 f0) (shm_79 f1) (shm_80 f2) (shm_541 f3) (shm_542 f4) h6 g7 (shm_55 f12) (shm_56 f13) (shm_541 f14) (shm_542 f15) h17 (shm_53 f21) (shm_54 f22) (shm_541 f23) (shm_542 f24) h26 (shm_14 f29) h30 h31 kz_0_8 kz_0_10 kz_0_158)⟩
  refine ⟨(fun _ h => (by cases h)), [], trivial, ?_, (fun _ h => (by cases h))⟩
  rw [List.append_nil]
  exact List.forall_mem_cons.mpr ⟨⟨show (20 : Nat) < 100 from by decide, nf0⟩, List.forall_mem_cons.mpr ⟨⟨show (20 : Nat) < 100 from by decide, nf1⟩, (fun _ h => (by cases h))⟩⟩
set_option maxHeartbeats 4000000 in
theorem vc_Mo_word_at_s5024_9_0 (x2 : Int) (x4 : Int) (x5 : Int) (x6 : Int) (x8 : Int) (x10 : Int) (x11 : Int) (x12 : Int) (x14 : Int) (x15 : Int) (x16 : Int) (x17 : Int) (x18 : Int) (x19 : Int) (x21 : Int) (x22 : Int) (x23 : Int) (x24 : Int) (x25 : Int) (x26 : Int) (x28 : Int) (x29 : Int) (x30 : Int) (x31 : Int) (x32 : Int) (x33 : Int) (x34 : Int) (tape_0 : Int → Int) (limit_0 : Int) (tokenPlace_0 : Int → Int) (cur_0 : Int) (tokenEnd_0 : Int → Int) (tokenKind_0 : Int → Int) (fault_0 : Int) (k2 : 0 ≤ x2 ∧ x2 ≤ 0) (k4 : 0 ≤ x4 ∧ x4 ≤ 2009) (k5 : 1 ≤ x5 ∧ x5 ≤ 1) (k6 : 1 ≤ x6 ∧ x6 ≤ 1) (k8 : 3 ≤ x8 ∧ x8 ≤ 2000) (k10 : 0 ≤ x10 ∧ x10 ≤ 2000) (k11 : 3 ≤ x11 ∧ x11 ≤ 3) (k12 : 3 ≤ x12 ∧ x12 ≤ 3) (k14 : 0 ≤ x14 ∧ x14 ≤ 0) (k15 : 3 ≤ x15 ∧ x15 ≤ 3) (k16 : 0 ≤ x16 ∧ x16 ≤ 1999) (k17 : 0 ≤ x17 ∧ x17 ≤ 1999) (k18 : 0 ≤ x18 ∧ x18 ≤ 255) (k19 : 0 ≤ x19 ∧ x19 ≤ 255) (k21 : 1 ≤ x21 ∧ x21 ≤ 1) (k22 : 3 ≤ x22 ∧ x22 ≤ 3) (k23 : 0 ≤ x23 ∧ x23 ≤ 1998) (k24 : 1 ≤ x24 ∧ x24 ≤ 1999) (k25 : 0 ≤ x25 ∧ x25 ≤ 255) (k26 : 0 ≤ x26 ∧ x26 ≤ 255) (k28 : 2 ≤ x28 ∧ x28 ≤ 2) (k29 : 3 ≤ x29 ∧ x29 ≤ 3) (k30 : 0 ≤ x30 ∧ x30 ≤ 1997) (k31 : 2 ≤ x31 ∧ x31 ≤ 1999) (k32 : 0 ≤ x32 ∧ x32 ≤ 255) (k33 : 0 ≤ x33 ∧ x33 ≤ 255) (k34 : 1 ≤ x34 ∧ x34 ≤ 1) (d0 : x33 + 0 ≤ x32 ∧ x32 ≤ x33 + 0) (d1 : x30 + 2 ≤ x31 ∧ x31 ≤ x30 + 2) (d2 : x26 + 0 ≤ x25 ∧ x25 ≤ x26 + 0) (d3 : x23 + 1 ≤ x24 ∧ x24 ≤ x23 + 1) (d4 : x19 + 0 ≤ x18 ∧ x18 ≤ x19 + 0) (d5 : x16 + 0 ≤ x17 ∧ x17 ≤ x16 + 0) (f0 : x32 = x33) (f1 : 1 * x33 + 0 ≤ 116) (f2 : (-1) * x33 + 0 ≤ (-116)) (f3 : ((x31 + 1) ≤ limit_0) → (x32 = (tape_0 (x31) % 256))) (f4 : (limit_0 ≤ x31) → (x32 = (-1))) (f5 : x31 = x30 + x28) (h6 : x30 = tokenPlace_0 (x4)) (g7 : x4 = cur_0) (f9 : x28 < x29) (f10 : x28 = x21 + 1) (f11 : x25 = x26) (f12 : 1 * x26 + 0 ≤ 111) (f13 : (-1) * x26 + 0 ≤ (-111)) (f14 : ((x24 + 1) ≤ limit_0) → (x25 = (tape_0 (x24) % 256))) (f15 : (limit_0 ≤ x24) → (x25 = (-1))) (f16 : x24 = x23 + x21) (h17 : x23 = tokenPlace_0 (x4)) (f18 : x21 < x22) (f19 : x21 = x14 + 1) (f20 : x18 = x19) (f21 : 1 * x19 + 0 ≤ 110) (f22 : (-1) * x19 + 0 ≤ (-110)) (f23 : ((x17 + 1) ≤ limit_0) → (x18 = (tape_0 (x17) % 256))) (f24 : (limit_0 ≤ x17) → (x18 = (-1))) (f25 : x17 = x16 + x14) (h26 : x16 = tokenPlace_0 (x4)) (f27 : x14 < x15) (f28 : x11 = x12) (f29 : x11 = x8 - x10) (h30 : x10 = tokenPlace_0 (x4)) (h31 : x8 = tokenEnd_0 (x4)) (f33 : x5 = x6) (h34 : x5 = tokenKind_0 (x4)) (f36 : x2 = 0) (g37 : x2 = fault_0) (hK_0_1 : ∀ j : Int, 0 ≤ j → j < 2000 → (-128) ≤ tape_0 j ∧ tape_0 j ≤ 127) (hK_0_160 : ∀ j : Int, 0 ≤ j → j < 2010 → 0 ≤ tokenKind_0 j ∧ tokenKind_0 j ≤ 4) (hK_0_162 : ∀ j : Int, 0 ≤ j → j < 2010 → 0 ≤ tokenPlace_0 j ∧ tokenPlace_0 j ≤ 2000) (hK_0_163 : ∀ j : Int, 0 ≤ j → j < 2010 → 0 ≤ tokenEnd_0 j ∧ tokenEnd_0 j ≤ 2000) (kz_0_8 : 0 ≤ fault_0 ∧ fault_0 ≤ 5) (kz_0_10 : 0 ≤ limit_0 ∧ limit_0 ≤ 2000) (kz_0_158 : 0 ≤ cur_0 ∧ cur_0 ≤ 2009) : (x34 = 1) → (tokenKind_0 (cur_0) = 1) := by
  first | assumption | (clear f3 f4 f14 f15 f23 f24 hK_0_1 hK_0_160 hK_0_162 hK_0_163; omega) | (clear hK_0_1 hK_0_160 hK_0_162 hK_0_163; grind) | omega | grind
set_option maxHeartbeats 4000000 in
theorem vc_Mo_word_at_s5024_9_1 (x2 : Int) (x4 : Int) (x5 : Int) (x8 : Int) (x10 : Int) (x11 : Int) (x16 : Int) (x17 : Int) (x18 : Int) (x19 : Int) (x23 : Int) (x24 : Int) (x25 : Int) (x26 : Int) (x30 : Int) (x31 : Int) (x32 : Int) (x33 : Int) (x34 : Int) (tape_0 : Int → Int) (limit_0 : Int) (tokenPlace_0 : Int → Int) (cur_0 : Int) (tokenEnd_0 : Int → Int) (tokenKind_0 : Int → Int) (fault_0 : Int) (k2 : 0 ≤ x2 ∧ x2 ≤ 0) (k4 : 0 ≤ x4 ∧ x4 ≤ 2009) (k5 : 1 ≤ x5 ∧ x5 ≤ 1) (k8 : 3 ≤ x8 ∧ x8 ≤ 2000) (k10 : 0 ≤ x10 ∧ x10 ≤ 2000) (k11 : 3 ≤ x11 ∧ x11 ≤ 3) (k16 : 0 ≤ x16 ∧ x16 ≤ 1999) (k17 : 0 ≤ x17 ∧ x17 ≤ 1999) (k18 : 0 ≤ x18 ∧ x18 ≤ 255) (k19 : 0 ≤ x19 ∧ x19 ≤ 255) (k23 : 0 ≤ x23 ∧ x23 ≤ 1998) (k24 : 1 ≤ x24 ∧ x24 ≤ 1999) (k25 : 0 ≤ x25 ∧ x25 ≤ 255) (k26 : 0 ≤ x26 ∧ x26 ≤ 255) (k30 : 0 ≤ x30 ∧ x30 ≤ 1997) (k31 : 2 ≤ x31 ∧ x31 ≤ 1999) (k32 : 0 ≤ x32 ∧ x32 ≤ 255) (k33 : 0 ≤ x33 ∧ x33 ≤ 255) (k34 : 1 ≤ x34 ∧ x34 ≤ 1) (d0 : x33 + 0 ≤ x32 ∧ x32 ≤ x33 + 0) (d1 : x30 + 2 ≤ x31 ∧ x31 ≤ x30 + 2) (d2 : x26 + 0 ≤ x25 ∧ x25 ≤ x26 + 0) (d3 : x23 + 1 ≤ x24 ∧ x24 ≤ x23 + 1) (d4 : x19 + 0 ≤ x18 ∧ x18 ≤ x19 + 0) (d5 : x16 + 0 ≤ x17 ∧ x17 ≤ x16 + 0) (f1 : 1 * x33 + 0 ≤ 116) (f2 : (-1) * x33 + 0 ≤ (-116)) (f3 : ((x31 + 1) ≤ limit_0) → (x32 = (tape_0 (x31) % 256))) (f4 : (limit_0 ≤ x31) → (x32 = (-1))) (h6 : x30 = tokenPlace_0 (x4)) (g7 : x4 = cur_0) (f12 : 1 * x26 + 0 ≤ 111) (f13 : (-1) * x26 + 0 ≤ (-111)) (f14 : ((x24 + 1) ≤ limit_0) → (x25 = (tape_0 (x24) % 256))) (f15 : (limit_0 ≤ x24) → (x25 = (-1))) (h17 : x23 = tokenPlace_0 (x4)) (f21 : 1 * x19 + 0 ≤ 110) (f22 : (-1) * x19 + 0 ≤ (-110)) (f23 : ((x17 + 1) ≤ limit_0) → (x18 = (tape_0 (x17) % 256))) (f24 : (limit_0 ≤ x17) → (x18 = (-1))) (h26 : x16 = tokenPlace_0 (x4)) (f29 : x11 = x8 - x10) (h30 : x10 = tokenPlace_0 (x4)) (h31 : x8 = tokenEnd_0 (x4)) (h34 : x5 = tokenKind_0 (x4)) (g37 : x2 = fault_0) (kz_0_8 : 0 ≤ fault_0 ∧ fault_0 ≤ 5) (kz_0_10 : 0 ≤ limit_0 ∧ limit_0 ≤ 2000) (kz_0_158 : 0 ≤ cur_0 ∧ cur_0 ≤ 2009) : Wqnot (fault_0) (cur_0) (limit_0) (tokenKind_0) (tokenPlace_0) (tokenEnd_0) (tape_0) (x34) := by
  first
    | exact ⟨fun z => by omega, fun z => by have := z.1; omega⟩
    | (have e := (‹x4 = cur_0›)
       rw [← e]
       refine ⟨fun z => ⟨by omega, wdS3.2 ⟨by omega, by omega, by omega, by rw [show tokenPlace_0 x4 + 0 = x17 by omega]; omega, by rw [show tokenPlace_0 x4 + 1 = x24 by omega]; omega, by rw [show tokenPlace_0 x4 + 2 = x31 by omega]; omega⟩⟩, fun z => by omega⟩)
    | (have e := (‹x4 = cur_0›)
       rw [← e]
       refine ⟨fun z => by omega, fun z => ?_⟩
       have w := wdS3.1 z.2
       try (have q0 : tokenPlace_0 x4 + 0 = x17 := (by omega); rw [q0] at w)
       try (have q1 : tokenPlace_0 x4 + 1 = x24 := (by omega); rw [q1] at w)
       try (have q2 : tokenPlace_0 x4 + 2 = x31 := (by omega); rw [q2] at w)
       omega)
  
def o_Mo_word_at_s5024_9 : or_T := (102, 37, [(0, (2, 0, 0, [165])), (2, (0, 0, 0, [])), (3, (2, 0, 0, [274])), (4, (0, 0, 2009, [])), (5, (0, 1, 1, [])), (6, (0, 1, 1, [])), (7, (2, 0, 0, [277])), (8, (0, 3, 2000, [])), (9, (2, 0, 0, [276])), (10, (0, 0, 2000, [])), (11, (0, 3, 3, [])), (12, (0, 3, 3, [])), (14, (0, 0, 0, [])), (15, (0, 3, 3, [])), (16, (0, 0, 1999, [])), (17, (0, 0, 1999, [])), (18, (0, 0, 255, [])), (19, (0, 0, 255, [])), (21, (0, 1, 1, [])), (22, (0, 3, 3, [])), (23, (0, 0, 1998, [])), (24, (0, 1, 1999, [])), (25, (0, 0, 255, [])), (26, (0, 0, 255, [])), (28, (0, 2, 2, [])), (29, (0, 3, 3, [])), (30, (0, 0, 1997, [])), (31, (0, 2, 1999, [])), (32, (0, 0, 255, [])), (33, (0, 0, 255, [])), (34, (0, 1, 1, []))], [(7, [32, 33], [0]), (23, [33], [116, 1]), (23, [33], [-116, -1]), (20, [31, 0, 32], [50, 1, 1, 1010, 1001, 4, 11, 0, 6, 4, 2, 1, 0, 0, 1, 2, 1, 10, 1, 2, 1, 2, 9, 5, 3, 1, 1, 1, 0, 0, 256]), (20, [0, 31, 32], [50, 1, 0, 10, 4, 7, 0, 3, 2, 0, 10, 1, 1, 1, 2, 1, 2, 0, -1]), (1, [31, 30, 28], []), (10, [30, 9, 4], []), (9, [4, 0], [158]), (9, [9, 0], [162]), (7, [28, 29], [2]), (6, [28, 21], [1]), (7, [25, 26], [0]), (23, [26], [111, 1]), (23, [26], [-111, -1]), (20, [24, 0, 25], [50, 1, 1, 1010, 1001, 4, 11, 0, 6, 4, 2, 1, 0, 0, 1, 2, 1, 10, 1, 2, 1, 2, 9, 5, 3, 1, 1, 1, 0, 0, 256]), (20, [0, 24, 25], [50, 1, 0, 10, 4, 7, 0, 3, 2, 0, 10, 1, 1, 1, 2, 1, 2, 0, -1]), (1, [24, 23, 21], []), (10, [23, 9, 4], []), (7, [21, 22], [2]), (6, [21, 14], [1]), (7, [18, 19], [0]), (23, [19], [110, 1]), (23, [19], [-110, -1]), (20, [17, 0, 18], [50, 1, 1, 1010, 1001, 4, 11, 0, 6, 4, 2, 1, 0, 0, 1, 2, 1, 10, 1, 2, 1, 2, 9, 5, 3, 1, 1, 1, 0, 0, 256]), (20, [0, 17, 18], [50, 1, 0, 10, 4, 7, 0, 3, 2, 0, 10, 1, 1, 1, 2, 1, 2, 0, -1]), (1, [17, 16, 14], []), (10, [16, 9, 4], []), (7, [14, 15], [2]), (7, [11, 12], [0]), (2, [11, 8, 10], []), (10, [10, 9, 4], []), (10, [8, 7, 4], []), (9, [7, 0], [163]), (7, [5, 6], [0]), (10, [5, 3, 4], []), (9, [3, 0], [160]), (8, [2], [0]), (9, [2, 0], [8])], [], [], [(20, [34, 0], [50, 1, 1, 1158, 1160, 4, 6, 1, 2, 1, 0, 0, 1, 1, 6, 3, 1, 160, 2, 1, 158, 0, 1]), (20, [0, 34], [60, 3, 4, 27, 8, 158, 10, 160, 162, 163, 1])], [], [(32, 33, 0, 0), (31, 30, 2, 2), (25, 26, 0, 0), (24, 23, 1, 1), (18, 19, 0, 0), (17, 16, 0, 0)])
theorem oo_Mo_word_at_s5024_9 {kA : Nat → ClassId} : or_ok PRD kA GG o_Mo_word_at_s5024_9 := by
  refine or_mk fun A ta ws vs hD hth hl => ?_
  intro t0 r0 t2 k2 t3 r3 t4 k4 t5 k5 t6 k6 t7 r7 t8 k8 t9 r9 t10 k10 t11 k11 t12 k12 t14 k14 t15 k15 t16 k16 t17 k17 t18 k18 t19 k19 t21 k21 t22 k22 t23 k23 t24 k24 t25 k25 t26 k26 t28 k28 t29 k29 t30 k30 t31 k31 t32 k32 t33 k33 t34 k34 d0 d1 d2 d3 d4 d5 f0 f1 f2 f3 f4 f5 f6 f7 f8 f9 f10 f11 f12 f13 f14 f15 f16 f17 f18 f19 f20 f21 f22 f23 f24 f25 f26 f27 f28 f29 f30 f31 f32 f33 f34 f35 f36 f37
  replace f6 := shm_107 f6
  replace f7 := shm_286 f7
  replace f8 := shm_301 f8
  replace f17 := shm_107 f17
  replace f26 := shm_107 f26
  replace f30 := shm_107 f30
  replace f31 := shm_107 f31
  replace f32 := shm_1332 f32
  replace f34 := shm_107 f34
  replace f35 := shm_327 f35
  replace f37 := shm_293 f37
  have cr_0_1 := fdq_39 hD hth r0
  have cr_0_160 := fdq_33 hD hth r0
  have cr_0_162 := fdq_41 hD hth r0
  have cr_0_163 := fdq_42 hD hth r0
  have ad_9 : v_ad (n_v vs 9) = w_ar ws (n_v vs 0) 162 := congrArg v_ad f8
  have ad_7 : v_ad (n_v vs 7) = w_ar ws (n_v vs 0) 163 := congrArg v_ad f32
  have ad_3 : v_ad (n_v vs 3) = w_ar ws (n_v vs 0) 160 := congrArg v_ad f35
  simp only [ad_9] at f6
  have h6 : v_iv (n_v vs 30) = w_ei ws (w_ar ws (n_v vs 0) 162) (v_iv (n_v vs 4)) := f6
  have g7 : v_iv (n_v vs 4) = w_fi ws (n_v vs 0) 158 := congrArg v_iv f7
  simp only [ad_9] at f17
  have h17 : v_iv (n_v vs 23) = w_ei ws (w_ar ws (n_v vs 0) 162) (v_iv (n_v vs 4)) := f17
  simp only [ad_9] at f26
  have h26 : v_iv (n_v vs 16) = w_ei ws (w_ar ws (n_v vs 0) 162) (v_iv (n_v vs 4)) := f26
  simp only [ad_9] at f30
  have h30 : v_iv (n_v vs 10) = w_ei ws (w_ar ws (n_v vs 0) 162) (v_iv (n_v vs 4)) := f30
  simp only [ad_7] at f31
  have h31 : v_iv (n_v vs 8) = w_ei ws (w_ar ws (n_v vs 0) 163) (v_iv (n_v vs 4)) := f31
  simp only [ad_3] at f34
  have h34 : v_iv (n_v vs 5) = w_ei ws (w_ar ws (n_v vs 0) 160) (v_iv (n_v vs 4)) := f34
  have g37 : v_iv (n_v vs 2) = w_fi ws (n_v vs 0) 8 := congrArg v_iv f37
  have hK_0_1 := elq_7 hD hth cr_0_1
  have hK_0_160 := elq_6 hD hth cr_0_160
  have hK_0_162 := elq_8 hD hth cr_0_162
  have hK_0_163 := elq_9 hD hth cr_0_163
  have kz_0_8 := fdq_34 hD hth r0
  have kz_0_10 := fdq_43 hD hth r0
  have kz_0_158 := fdq_36 hD hth r0
  have nf0 : fc_1 PRD (20, [34, 0], [50, 1, 1, 1158, 1160, 4, 6, 1, 2, 1, 0, 0, 1, 1, 6, 3, 1, 160, 2, 1, 158, 0, 1]) ws (vs) := ⟨nf_in hl rfl, sgq_287 (vc_Mo_word_at_s5024_9_0 (v_iv (n_v vs 2)) (v_iv (n_v vs 4)) (v_iv (n_v vs 5)) (v_iv (n_v vs 6)) (v_iv (n_v vs 8)) (v_iv (n_v vs 10)) (v_iv (n_v vs 11)) (v_iv (n_v vs 12)) (v_iv (n_v vs 14)) (v_iv (n_v vs 15)) (v_iv (n_v vs 16)) (v_iv (n_v vs 17)) (v_iv (n_v vs 18)) (v_iv (n_v vs 19)) (v_iv (n_v vs 21)) (v_iv (n_v vs 22)) (v_iv (n_v vs 23)) (v_iv (n_v vs 24)) (v_iv (n_v vs 25)) (v_iv (n_v vs 26)) (v_iv (n_v vs 28)) (v_iv (n_v vs 29)) (v_iv (n_v vs 30)) (v_iv (n_v vs 31)) (v_iv (n_v vs 32)) (v_iv (n_v vs 33)) (v_iv (n_v vs 34)) (w_ei ws (w_ar ws (n_v vs 0) 1)) (w_fi ws (n_v vs 0) 10) (w_ei ws (w_ar ws (n_v vs 0) 162)) (w_fi ws (n_v vs 0) 158) (w_ei ws (w_ar ws (n_v vs 0) 163)) (w_ei ws (w_ar ws (n_v vs 0) 160)) (w_fi ws (n_v vs 0) 8) k2 k4 k5 k6 k8 k10 k11 k12 k14 k15 k16 k17 k18 k19 k21 k22 k23 k24 k25 k26 k28 k29 k30 k31 k32 k33 k34 d0 d1 d2 d3 d4 d5 (shm_37 f0) (shm_79 f1) (shm_80 f2) (shm_541 f3) (shm_542 f4) (shm_12 f5) h6 g7 (shm_6 f9) (shm_4 f10) (shm_37 f11) (shm_55 f12) (shm_56 f13) (shm_541 f14) (shm_542 f15) (shm_12 f16) h17 (shm_6 f18) (shm_4 f19) (shm_37 f20) (shm_53 f21) (shm_54 f22) (shm_541 f23) (shm_542 f24) (shm_12 f25) h26 (shm_6 f27) (shm_37 f28) (shm_14 f29) h30 h31 (shm_37 f33) h34 (shm_192 f36) g37 hK_0_1 hK_0_160 hK_0_162 hK_0_163 kz_0_8 kz_0_10 kz_0_158)⟩
  have nf1 : fc_1 PRD (20, [0, 34], [60, 3, 4, 27, 8, 158, 10, 160, 162, 163, 1]) ws (vs) := ⟨nf_in hl rfl, sgq_294 (vc_Mo_word_at_s5024_9_1 (v_iv (n_v vs 2)) (v_iv (n_v vs 4)) (v_iv (n_v vs 5)) (v_iv (n_v vs 8)) (v_iv (n_v vs 10)) (v_iv (n_v vs 11)) (v_iv (n_v vs 16)) (v_iv (n_v vs 17)) (v_iv (n_v vs 18)) (v_iv (n_v vs 19)) (v_iv (n_v vs 23)) (v_iv (n_v vs 24)) (v_iv (n_v vs 25)) (v_iv (n_v vs 26)) (v_iv (n_v vs 30)) (v_iv (n_v vs 31)) (v_iv (n_v vs 32)) (v_iv (n_v vs 33)) (v_iv (n_v vs 34)) (w_ei ws (w_ar ws (n_v vs 0) 1)) (w_fi ws (n_v vs 0) 10) (w_ei ws (w_ar ws (n_v vs 0) 162)) (w_fi ws (n_v vs 0) 158) (w_ei ws (w_ar ws (n_v vs 0) 163)) (w_ei ws (w_ar ws (n_v vs 0) 160)) (w_fi ws (n_v vs 0) 8) k2 k4 k5 k8 k10 k11 k16 k17 k18 k19 k23 k24 k25 k26 k30 k31 k32 k33 k34 d0 d1 d2 d3 d4 d5 (shm_79 f1) (shm_80 f2) (shm_541 f3) (shm_542 f4) h6 g7 (shm_55 f12) (shm_56 f13) (shm_541 f14) (shm_542 f15) h17 (shm_53 f21) (shm_54 f22) (shm_541 f23) (shm_542 f24) h26 (shm_14 f29) h30 h31 h34 g37 kz_0_8 kz_0_10 kz_0_158)⟩
  refine ⟨(fun _ h => (by cases h)), [], trivial, ?_, (fun _ h => (by cases h))⟩
  rw [List.append_nil]
  exact List.forall_mem_cons.mpr ⟨⟨show (20 : Nat) < 100 from by decide, nf0⟩, List.forall_mem_cons.mpr ⟨⟨show (20 : Nat) < 100 from by decide, nf1⟩, (fun _ h => (by cases h))⟩⟩
def n_Mo_word_at_s5024_an : List an_T := []
def t_Mo_word_at_s5024_ct : ct_L := [(1, 425, e_Mo_byteAt), (124, 448, e_jStr_length_v584), (172, 448, e_jStr_length_v584), (253, 453, e_jStr_charAt_v585), (253, 453, e_jStr_charAt_v587), (253, 453, e_jStr_charAt_v589)]
set_option maxRecDepth 100000 in
theorem c_Mo_word_at_s5024 {l : Launch} {D : va_G} {kA : Nat → ClassId} (h_Mo_byteAt : ct_ok PRD l D kA GG y_Mo_byteAt z_Mo_byteAt e_Mo_byteAt) : ct_ok PRD l D kA GG y_Mo_word_at_s5024 z_Mo_word_at_s5024 e_Mo_word_at_s5024 := chk_all_ok (FT := [(342, 13, 160), (348, 13, 162), (351, 13, 163), (413, 13, 8), (1169, 13, 158)]) (PT := []) (CT := t_Mo_word_at_s5024_ct) (KT := []) (NT := []) (AN := n_Mo_word_at_s5024_an) (OT := [o_Mo_word_at_s5024_0, o_Mo_word_at_s5024_1, o_Mo_word_at_s5024_2, o_Mo_word_at_s5024_3, o_Mo_word_at_s5024_4, o_Mo_word_at_s5024_5, o_Mo_word_at_s5024_6, o_Mo_word_at_s5024_7, o_Mo_word_at_s5024_8, o_Mo_word_at_s5024_9]) 0 892 (List.forall_mem_cons.mpr ⟨oo_Mo_word_at_s5024_0, List.forall_mem_cons.mpr ⟨oo_Mo_word_at_s5024_1, List.forall_mem_cons.mpr ⟨oo_Mo_word_at_s5024_2, List.forall_mem_cons.mpr ⟨oo_Mo_word_at_s5024_3, List.forall_mem_cons.mpr ⟨oo_Mo_word_at_s5024_4, List.forall_mem_cons.mpr ⟨oo_Mo_word_at_s5024_5, List.forall_mem_cons.mpr ⟨oo_Mo_word_at_s5024_6, List.forall_mem_cons.mpr ⟨oo_Mo_word_at_s5024_7, List.forall_mem_cons.mpr ⟨oo_Mo_word_at_s5024_8, List.forall_mem_cons.mpr ⟨oo_Mo_word_at_s5024_9, List.forall_mem_nil _⟩⟩⟩⟩⟩⟩⟩⟩⟩⟩) (by decide +kernel) ⟨List.forall_mem_cons.mpr ⟨gf_Mo_342, List.forall_mem_cons.mpr ⟨gf_Mo_348, List.forall_mem_cons.mpr ⟨gf_Mo_351, List.forall_mem_cons.mpr ⟨gf_Mo_413, List.forall_mem_cons.mpr ⟨gf_Mo_1169, List.forall_mem_nil _⟩⟩⟩⟩⟩, List.forall_mem_nil _, List.forall_mem_cons.mpr ⟨cl_virtual (y := y_Mo_byteAt) (ci := 13) rfl rfl ⟨_, _, rfl⟩ (by decide +kernel) h_Mo_byteAt wm_2986 wm_9 wm_2983 wm_2985 wv_12_12 ⟨by decide, by decide, by decide +kernel⟩ (by decide), List.forall_mem_cons.mpr ⟨cl_string (y := y_jStr_length) (i := 24) rfl rfl (by decide +kernel) rfl c_jStr_length_v584 wm_674 wm_11 wm_3003 wm_672 wm_673 ⟨by decide, by decide, by decide +kernel⟩ (by decide), List.forall_mem_cons.mpr ⟨cl_string (y := y_jStr_length) (i := 24) rfl rfl (by decide +kernel) rfl c_jStr_length_v584 wm_674 wm_11 wm_3003 wm_672 wm_673 ⟨by decide, by decide, by decide +kernel⟩ (by decide), List.forall_mem_cons.mpr ⟨cl_string (y := y_jStr_charAt) (i := 24) rfl rfl (by decide +kernel) rfl c_jStr_charAt_v585 wm_684 wm_11 wm_3004 wm_682 wm_683 ⟨by decide, by decide, by decide +kernel⟩ (by decide), List.forall_mem_cons.mpr ⟨cl_string (y := y_jStr_charAt) (i := 24) rfl rfl (by decide +kernel) rfl c_jStr_charAt_v587 wm_684 wm_11 wm_3004 wm_682 wm_683 ⟨by decide, by decide, by decide +kernel⟩ (by decide), List.forall_mem_cons.mpr ⟨cl_string (y := y_jStr_charAt) (i := 24) rfl rfl (by decide +kernel) rfl c_jStr_charAt_v589 wm_684 wm_11 wm_3004 wm_682 wm_683 ⟨by decide, by decide, by decide +kernel⟩ (by decide), List.forall_mem_nil _⟩⟩⟩⟩⟩⟩, List.forall_mem_nil _, List.forall_mem_nil _, GG_pl⟩ (by decide +kernel)
set_option maxHeartbeats 4000000 in
theorem vc_Mo_word_at_s5025_0_0 (x2 : Int) (x3 : Int) (fault_0 : Int) (tape_0 : Int → Int) (tokenKind_0 : Int → Int) (tokenPlace_0 : Int → Int) (tokenEnd_0 : Int → Int) (limit_0 : Int) (cur_0 : Int) (k2 : 1 ≤ x2 ∧ x2 ≤ 5) (k3 : 0 ≤ x3 ∧ x3 ≤ 0) (f0 : x3 = 0) (f1 : x2 ≠ 0) (g2 : x2 = fault_0) (hK_0_1 : ∀ j : Int, 0 ≤ j → j < 2000 → (-128) ≤ tape_0 j ∧ tape_0 j ≤ 127) (hK_0_160 : ∀ j : Int, 0 ≤ j → j < 2010 → 0 ≤ tokenKind_0 j ∧ tokenKind_0 j ≤ 4) (hK_0_162 : ∀ j : Int, 0 ≤ j → j < 2010 → 0 ≤ tokenPlace_0 j ∧ tokenPlace_0 j ≤ 2000) (hK_0_163 : ∀ j : Int, 0 ≤ j → j < 2010 → 0 ≤ tokenEnd_0 j ∧ tokenEnd_0 j ≤ 2000) (kz_0_8 : 0 ≤ fault_0 ∧ fault_0 ≤ 5) (kz_0_10 : 0 ≤ limit_0 ∧ limit_0 ≤ 2000) (kz_0_158 : 0 ≤ cur_0 ∧ cur_0 ≤ 2009) : (x3 = 1) → (tokenKind_0 (cur_0) = 1) := by
  first | assumption | (clear hK_0_1 hK_0_160 hK_0_162 hK_0_163; omega) | omega | grind
set_option maxHeartbeats 4000000 in
theorem vc_Mo_word_at_s5025_0_1 (x2 : Int) (x3 : Int) (fault_0 : Int) (tape_0 : Int → Int) (tokenKind_0 : Int → Int) (tokenPlace_0 : Int → Int) (tokenEnd_0 : Int → Int) (limit_0 : Int) (cur_0 : Int) (k2 : 1 ≤ x2 ∧ x2 ≤ 5) (k3 : 0 ≤ x3 ∧ x3 ≤ 0) (g2 : x2 = fault_0) (kz_0_8 : 0 ≤ fault_0 ∧ fault_0 ≤ 5) (kz_0_10 : 0 ≤ limit_0 ∧ limit_0 ≤ 2000) (kz_0_158 : 0 ≤ cur_0 ∧ cur_0 ≤ 2009) : Wqdeg (fault_0) (cur_0) (limit_0) (tokenKind_0) (tokenPlace_0) (tokenEnd_0) (tape_0) (x3) := by
  first
    | exact ⟨fun z => by omega, fun z => by have := z.1; omega⟩
    | (have e := (‹x4 = cur_0›)
       rw [← e]
       refine ⟨fun z => ⟨by omega, wdS3.2 ⟨by omega, by omega, by omega, by rw [show tokenPlace_0 x4 + 0 = x17 by omega]; omega, by rw [show tokenPlace_0 x4 + 1 = x24 by omega]; omega, by rw [show tokenPlace_0 x4 + 2 = x31 by omega]; omega⟩⟩, fun z => by omega⟩)
    | (have e := (‹x4 = cur_0›)
       rw [← e]
       refine ⟨fun z => by omega, fun z => ?_⟩
       have w := wdS3.1 z.2
       try (have q0 : tokenPlace_0 x4 + 0 = x17 := (by omega); rw [q0] at w)
       try (have q1 : tokenPlace_0 x4 + 1 = x24 := (by omega); rw [q1] at w)
       try (have q2 : tokenPlace_0 x4 + 2 = x31 := (by omega); rw [q2] at w)
       omega)
  
def o_Mo_word_at_s5025_0 : or_T := (102, 6, [(0, (2, 0, 0, [165])), (2, (0, 1, 5, [])), (3, (0, 0, 0, []))], [(8, [3], [0]), (8, [2], [1]), (9, [2, 0], [8])], [], [], [(20, [3, 0], [50, 1, 1, 1158, 1160, 4, 6, 1, 2, 1, 0, 0, 1, 1, 6, 3, 1, 160, 2, 1, 158, 0, 1]), (20, [0, 3], [60, 3, 4, 28, 8, 158, 10, 160, 162, 163, 1])], [], [])
theorem oo_Mo_word_at_s5025_0 {kA : Nat → ClassId} : or_ok PRD kA GG o_Mo_word_at_s5025_0 := by
  refine or_mk fun A ta ws vs hD hth hl => ?_
  intro t0 r0 t2 k2 t3 k3 f0 f1 f2
  replace f2 := shm_293 f2
  have cr_0_1 := fdq_39 hD hth r0
  have cr_0_160 := fdq_33 hD hth r0
  have cr_0_162 := fdq_41 hD hth r0
  have cr_0_163 := fdq_42 hD hth r0
  have g2 : v_iv (n_v vs 2) = w_fi ws (n_v vs 0) 8 := congrArg v_iv f2
  have hK_0_1 := elq_7 hD hth cr_0_1
  have hK_0_160 := elq_6 hD hth cr_0_160
  have hK_0_162 := elq_8 hD hth cr_0_162
  have hK_0_163 := elq_9 hD hth cr_0_163
  have kz_0_8 := fdq_34 hD hth r0
  have kz_0_10 := fdq_43 hD hth r0
  have kz_0_158 := fdq_36 hD hth r0
  have nf0 : fc_1 PRD (20, [3, 0], [50, 1, 1, 1158, 1160, 4, 6, 1, 2, 1, 0, 0, 1, 1, 6, 3, 1, 160, 2, 1, 158, 0, 1]) ws (vs) := ⟨nf_in hl rfl, sgq_287 (vc_Mo_word_at_s5025_0_0 (v_iv (n_v vs 2)) (v_iv (n_v vs 3)) (w_fi ws (n_v vs 0) 8) (w_ei ws (w_ar ws (n_v vs 0) 1)) (w_ei ws (w_ar ws (n_v vs 0) 160)) (w_ei ws (w_ar ws (n_v vs 0) 162)) (w_ei ws (w_ar ws (n_v vs 0) 163)) (w_fi ws (n_v vs 0) 10) (w_fi ws (n_v vs 0) 158) k2 k3 (shm_192 f0) (shm_142 f1) g2 hK_0_1 hK_0_160 hK_0_162 hK_0_163 kz_0_8 kz_0_10 kz_0_158)⟩
  have nf1 : fc_1 PRD (20, [0, 3], [60, 3, 4, 28, 8, 158, 10, 160, 162, 163, 1]) ws (vs) := ⟨nf_in hl rfl, sgq_1869 (vc_Mo_word_at_s5025_0_1 (v_iv (n_v vs 2)) (v_iv (n_v vs 3)) (w_fi ws (n_v vs 0) 8) (w_ei ws (w_ar ws (n_v vs 0) 1)) (w_ei ws (w_ar ws (n_v vs 0) 160)) (w_ei ws (w_ar ws (n_v vs 0) 162)) (w_ei ws (w_ar ws (n_v vs 0) 163)) (w_fi ws (n_v vs 0) 10) (w_fi ws (n_v vs 0) 158) k2 k3 g2 kz_0_8 kz_0_10 kz_0_158)⟩
  refine ⟨(fun _ h => (by cases h)), [], trivial, ?_, (fun _ h => (by cases h))⟩
  rw [List.append_nil]
  exact List.forall_mem_cons.mpr ⟨⟨show (20 : Nat) < 100 from by decide, nf0⟩, List.forall_mem_cons.mpr ⟨⟨show (20 : Nat) < 100 from by decide, nf1⟩, (fun _ h => (by cases h))⟩⟩
set_option maxHeartbeats 4000000 in
theorem vc_Mo_word_at_s5025_1_0 (x2 : Int) (x4 : Int) (x5 : Int) (x6 : Int) (x7 : Int) (tokenKind_0 : Int → Int) (cur_0 : Int) (fault_0 : Int) (tape_0 : Int → Int) (tokenPlace_0 : Int → Int) (tokenEnd_0 : Int → Int) (limit_0 : Int) (k2 : 0 ≤ x2 ∧ x2 ≤ 0) (k4 : 0 ≤ x4 ∧ x4 ≤ 2009) (k5 : 0 ≤ x5 ∧ x5 ≤ 4) (k6 : 1 ≤ x6 ∧ x6 ≤ 1) (k7 : 0 ≤ x7 ∧ x7 ≤ 0) (f0 : x7 = 0) (f1 : x5 ≠ x6) (h2 : x5 = tokenKind_0 (x4)) (g3 : x4 = cur_0) (f5 : x2 = 0) (g6 : x2 = fault_0) (hK_0_1 : ∀ j : Int, 0 ≤ j → j < 2000 → (-128) ≤ tape_0 j ∧ tape_0 j ≤ 127) (hK_0_160 : ∀ j : Int, 0 ≤ j → j < 2010 → 0 ≤ tokenKind_0 j ∧ tokenKind_0 j ≤ 4) (hK_0_162 : ∀ j : Int, 0 ≤ j → j < 2010 → 0 ≤ tokenPlace_0 j ∧ tokenPlace_0 j ≤ 2000) (hK_0_163 : ∀ j : Int, 0 ≤ j → j < 2010 → 0 ≤ tokenEnd_0 j ∧ tokenEnd_0 j ≤ 2000) (kz_0_8 : 0 ≤ fault_0 ∧ fault_0 ≤ 5) (kz_0_10 : 0 ≤ limit_0 ∧ limit_0 ≤ 2000) (kz_0_158 : 0 ≤ cur_0 ∧ cur_0 ≤ 2009) : (x7 = 1) → (tokenKind_0 (cur_0) = 1) := by
  first | assumption | (clear hK_0_1 hK_0_160 hK_0_162 hK_0_163; omega) | omega | grind
set_option maxHeartbeats 4000000 in
theorem vc_Mo_word_at_s5025_1_1 (x4 : Int) (x5 : Int) (x6 : Int) (x7 : Int) (tokenKind_0 : Int → Int) (cur_0 : Int) (fault_0 : Int) (tape_0 : Int → Int) (tokenPlace_0 : Int → Int) (tokenEnd_0 : Int → Int) (limit_0 : Int) (k4 : 0 ≤ x4 ∧ x4 ≤ 2009) (k5 : 0 ≤ x5 ∧ x5 ≤ 4) (k6 : 1 ≤ x6 ∧ x6 ≤ 1) (k7 : 0 ≤ x7 ∧ x7 ≤ 0) (f1 : x5 ≠ x6) (h2 : x5 = tokenKind_0 (x4)) (g3 : x4 = cur_0) (kz_0_8 : 0 ≤ fault_0 ∧ fault_0 ≤ 5) (kz_0_10 : 0 ≤ limit_0 ∧ limit_0 ≤ 2000) (kz_0_158 : 0 ≤ cur_0 ∧ cur_0 ≤ 2009) : Wqdeg (fault_0) (cur_0) (limit_0) (tokenKind_0) (tokenPlace_0) (tokenEnd_0) (tape_0) (x7) := by
  first
    | exact ⟨fun z => by omega, fun z => by have := z.1; omega⟩
    | (have e := (‹x4 = cur_0›)
       rw [← e]
       refine ⟨fun z => ⟨by omega, wdS3.2 ⟨by omega, by omega, by omega, by rw [show tokenPlace_0 x4 + 0 = x17 by omega]; omega, by rw [show tokenPlace_0 x4 + 1 = x24 by omega]; omega, by rw [show tokenPlace_0 x4 + 2 = x31 by omega]; omega⟩⟩, fun z => by omega⟩)
    | (have e := (‹x4 = cur_0›)
       rw [← e]
       refine ⟨fun z => by omega, fun z => ?_⟩
       have w := wdS3.1 z.2
       try (have q0 : tokenPlace_0 x4 + 0 = x17 := (by omega); rw [q0] at w)
       try (have q1 : tokenPlace_0 x4 + 1 = x24 := (by omega); rw [q1] at w)
       try (have q2 : tokenPlace_0 x4 + 2 = x31 := (by omega); rw [q2] at w)
       omega)
  
def o_Mo_word_at_s5025_1 : or_T := (102, 10, [(0, (2, 0, 0, [165])), (2, (0, 0, 0, [])), (4, (0, 0, 2009, [])), (5, (0, 0, 4, [])), (6, (0, 1, 1, [])), (7, (0, 0, 0, []))], [(8, [7], [0]), (7, [5, 6], [1]), (10, [5, 3, 4], []), (9, [4, 0], [158]), (9, [3, 0], [160]), (8, [2], [0]), (9, [2, 0], [8])], [], [], [(20, [7, 0], [50, 1, 1, 1158, 1160, 4, 6, 1, 2, 1, 0, 0, 1, 1, 6, 3, 1, 160, 2, 1, 158, 0, 1]), (20, [0, 7], [60, 3, 4, 28, 8, 158, 10, 160, 162, 163, 1])], [], [])
theorem oo_Mo_word_at_s5025_1 {kA : Nat → ClassId} : or_ok PRD kA GG o_Mo_word_at_s5025_1 := by
  refine or_mk fun A ta ws vs hD hth hl => ?_
  intro t0 r0 t2 k2 t4 k4 t5 k5 t6 k6 t7 k7 f0 f1 f2 f3 f4 f5 f6
  replace f2 := shm_107 f2
  replace f3 := shm_286 f3
  replace f4 := shm_327 f4
  replace f6 := shm_293 f6
  have cr_0_1 := fdq_39 hD hth r0
  have cr_0_160 := fdq_33 hD hth r0
  have cr_0_162 := fdq_41 hD hth r0
  have cr_0_163 := fdq_42 hD hth r0
  have ad_3 : v_ad (n_v vs 3) = w_ar ws (n_v vs 0) 160 := congrArg v_ad f4
  simp only [ad_3] at f2
  have h2 : v_iv (n_v vs 5) = w_ei ws (w_ar ws (n_v vs 0) 160) (v_iv (n_v vs 4)) := f2
  have g3 : v_iv (n_v vs 4) = w_fi ws (n_v vs 0) 158 := congrArg v_iv f3
  have g6 : v_iv (n_v vs 2) = w_fi ws (n_v vs 0) 8 := congrArg v_iv f6
  have hK_0_1 := elq_7 hD hth cr_0_1
  have hK_0_160 := elq_6 hD hth cr_0_160
  have hK_0_162 := elq_8 hD hth cr_0_162
  have hK_0_163 := elq_9 hD hth cr_0_163
  have kz_0_8 := fdq_34 hD hth r0
  have kz_0_10 := fdq_43 hD hth r0
  have kz_0_158 := fdq_36 hD hth r0
  have nf0 : fc_1 PRD (20, [7, 0], [50, 1, 1, 1158, 1160, 4, 6, 1, 2, 1, 0, 0, 1, 1, 6, 3, 1, 160, 2, 1, 158, 0, 1]) ws (vs) := ⟨nf_in hl rfl, sgq_287 (vc_Mo_word_at_s5025_1_0 (v_iv (n_v vs 2)) (v_iv (n_v vs 4)) (v_iv (n_v vs 5)) (v_iv (n_v vs 6)) (v_iv (n_v vs 7)) (w_ei ws (w_ar ws (n_v vs 0) 160)) (w_fi ws (n_v vs 0) 158) (w_fi ws (n_v vs 0) 8) (w_ei ws (w_ar ws (n_v vs 0) 1)) (w_ei ws (w_ar ws (n_v vs 0) 162)) (w_ei ws (w_ar ws (n_v vs 0) 163)) (w_fi ws (n_v vs 0) 10) k2 k4 k5 k6 k7 (shm_192 f0) (shm_40 f1) h2 g3 (shm_192 f5) g6 hK_0_1 hK_0_160 hK_0_162 hK_0_163 kz_0_8 kz_0_10 kz_0_158)⟩
  have nf1 : fc_1 PRD (20, [0, 7], [60, 3, 4, 28, 8, 158, 10, 160, 162, 163, 1]) ws (vs) := ⟨nf_in hl rfl, sgq_1869 (vc_Mo_word_at_s5025_1_1 (v_iv (n_v vs 4)) (v_iv (n_v vs 5)) (v_iv (n_v vs 6)) (v_iv (n_v vs 7)) (w_ei ws (w_ar ws (n_v vs 0) 160)) (w_fi ws (n_v vs 0) 158) (w_fi ws (n_v vs 0) 8) (w_ei ws (w_ar ws (n_v vs 0) 1)) (w_ei ws (w_ar ws (n_v vs 0) 162)) (w_ei ws (w_ar ws (n_v vs 0) 163)) (w_fi ws (n_v vs 0) 10) k4 k5 k6 k7 (shm_40 f1) h2 g3 kz_0_8 kz_0_10 kz_0_158)⟩
  refine ⟨(fun _ h => (by cases h)), [], trivial, ?_, (fun _ h => (by cases h))⟩
  rw [List.append_nil]
  exact List.forall_mem_cons.mpr ⟨⟨show (20 : Nat) < 100 from by decide, nf0⟩, List.forall_mem_cons.mpr ⟨⟨show (20 : Nat) < 100 from by decide, nf1⟩, (fun _ h => (by cases h))⟩⟩
set_option maxHeartbeats 4000000 in
theorem vc_Mo_word_at_s5025_2_0 (x2 : Int) (x4 : Int) (x5 : Int) (x6 : Int) (x8 : Int) (x10 : Int) (x11 : Int) (x12 : Int) (x13 : Int) (tokenPlace_0 : Int → Int) (cur_0 : Int) (tokenEnd_0 : Int → Int) (tokenKind_0 : Int → Int) (fault_0 : Int) (tape_0 : Int → Int) (limit_0 : Int) (k2 : 0 ≤ x2 ∧ x2 ≤ 0) (k4 : 0 ≤ x4 ∧ x4 ≤ 2009) (k5 : 1 ≤ x5 ∧ x5 ≤ 1) (k6 : 1 ≤ x6 ∧ x6 ≤ 1) (k8 : 0 ≤ x8 ∧ x8 ≤ 2000) (k10 : 0 ≤ x10 ∧ x10 ≤ 2000) (k11 : (-2000) ≤ x11 ∧ x11 ≤ 2000) (k12 : 3 ≤ x12 ∧ x12 ≤ 3) (k13 : 0 ≤ x13 ∧ x13 ≤ 0) (d0 : x8 + (-2000) ≤ x11 ∧ x11 ≤ x8 + 0) (f0 : x13 = 0) (f1 : x11 ≠ x12) (f2 : x11 = x8 - x10) (h3 : x10 = tokenPlace_0 (x4)) (g4 : x4 = cur_0) (h6 : x8 = tokenEnd_0 (x4)) (f8 : x5 = x6) (h9 : x5 = tokenKind_0 (x4)) (f11 : x2 = 0) (g12 : x2 = fault_0) (hK_0_1 : ∀ j : Int, 0 ≤ j → j < 2000 → (-128) ≤ tape_0 j ∧ tape_0 j ≤ 127) (hK_0_160 : ∀ j : Int, 0 ≤ j → j < 2010 → 0 ≤ tokenKind_0 j ∧ tokenKind_0 j ≤ 4) (hK_0_162 : ∀ j : Int, 0 ≤ j → j < 2010 → 0 ≤ tokenPlace_0 j ∧ tokenPlace_0 j ≤ 2000) (hK_0_163 : ∀ j : Int, 0 ≤ j → j < 2010 → 0 ≤ tokenEnd_0 j ∧ tokenEnd_0 j ≤ 2000) (kz_0_8 : 0 ≤ fault_0 ∧ fault_0 ≤ 5) (kz_0_10 : 0 ≤ limit_0 ∧ limit_0 ≤ 2000) (kz_0_158 : 0 ≤ cur_0 ∧ cur_0 ≤ 2009) : (x13 = 1) → (tokenKind_0 (cur_0) = 1) := by
  first | assumption | (clear hK_0_1 hK_0_160 hK_0_162 hK_0_163; omega) | omega | grind
set_option maxHeartbeats 4000000 in
theorem vc_Mo_word_at_s5025_2_1 (x4 : Int) (x8 : Int) (x10 : Int) (x11 : Int) (x12 : Int) (x13 : Int) (tokenPlace_0 : Int → Int) (cur_0 : Int) (tokenEnd_0 : Int → Int) (tokenKind_0 : Int → Int) (fault_0 : Int) (tape_0 : Int → Int) (limit_0 : Int) (k4 : 0 ≤ x4 ∧ x4 ≤ 2009) (k8 : 0 ≤ x8 ∧ x8 ≤ 2000) (k10 : 0 ≤ x10 ∧ x10 ≤ 2000) (k11 : (-2000) ≤ x11 ∧ x11 ≤ 2000) (k12 : 3 ≤ x12 ∧ x12 ≤ 3) (k13 : 0 ≤ x13 ∧ x13 ≤ 0) (f1 : x11 ≠ x12) (f2 : x11 = x8 - x10) (h3 : x10 = tokenPlace_0 (x4)) (g4 : x4 = cur_0) (h6 : x8 = tokenEnd_0 (x4)) (kz_0_8 : 0 ≤ fault_0 ∧ fault_0 ≤ 5) (kz_0_10 : 0 ≤ limit_0 ∧ limit_0 ≤ 2000) (kz_0_158 : 0 ≤ cur_0 ∧ cur_0 ≤ 2009) : Wqdeg (fault_0) (cur_0) (limit_0) (tokenKind_0) (tokenPlace_0) (tokenEnd_0) (tape_0) (x13) := by
  first
    | exact ⟨fun z => by omega, fun z => by have := z.1; omega⟩
    | (have e := (‹x4 = cur_0›)
       rw [← e]
       refine ⟨fun z => ⟨by omega, wdS3.2 ⟨by omega, by omega, by omega, by rw [show tokenPlace_0 x4 + 0 = x17 by omega]; omega, by rw [show tokenPlace_0 x4 + 1 = x24 by omega]; omega, by rw [show tokenPlace_0 x4 + 2 = x31 by omega]; omega⟩⟩, fun z => by omega⟩)
    | (have e := (‹x4 = cur_0›)
       rw [← e]
       refine ⟨fun z => by omega, fun z => ?_⟩
       have w := wdS3.1 z.2
       try (have q0 : tokenPlace_0 x4 + 0 = x17 := (by omega); rw [q0] at w)
       try (have q1 : tokenPlace_0 x4 + 1 = x24 := (by omega); rw [q1] at w)
       try (have q2 : tokenPlace_0 x4 + 2 = x31 := (by omega); rw [q2] at w)
       omega)
  
def o_Mo_word_at_s5025_2 : or_T := (102, 16, [(0, (2, 0, 0, [165])), (2, (0, 0, 0, [])), (4, (0, 0, 2009, [])), (5, (0, 1, 1, [])), (6, (0, 1, 1, [])), (8, (0, 0, 2000, [])), (10, (0, 0, 2000, [])), (11, (0, -2000, 2000, [])), (12, (0, 3, 3, [])), (13, (0, 0, 0, []))], [(8, [13], [0]), (7, [11, 12], [1]), (2, [11, 8, 10], []), (10, [10, 9, 4], []), (9, [4, 0], [158]), (9, [9, 0], [162]), (10, [8, 7, 4], []), (9, [7, 0], [163]), (7, [5, 6], [0]), (10, [5, 3, 4], []), (9, [3, 0], [160]), (8, [2], [0]), (9, [2, 0], [8])], [], [], [(20, [13, 0], [50, 1, 1, 1158, 1160, 4, 6, 1, 2, 1, 0, 0, 1, 1, 6, 3, 1, 160, 2, 1, 158, 0, 1]), (20, [0, 13], [60, 3, 4, 28, 8, 158, 10, 160, 162, 163, 1])], [], [(11, 8, -2000, 0)])
theorem oo_Mo_word_at_s5025_2 {kA : Nat → ClassId} : or_ok PRD kA GG o_Mo_word_at_s5025_2 := by
  refine or_mk fun A ta ws vs hD hth hl => ?_
  intro t0 r0 t2 k2 t4 k4 t5 k5 t6 k6 t8 k8 t10 k10 t11 k11 t12 k12 t13 k13 d0 f0 f1 f2 f3 f4 f5 f6 f7 f8 f9 f10 f11 f12
  replace f3 := shm_107 f3
  replace f4 := shm_286 f4
  replace f5 := shm_301 f5
  replace f6 := shm_107 f6
  replace f7 := shm_1332 f7
  replace f9 := shm_107 f9
  replace f10 := shm_327 f10
  replace f12 := shm_293 f12
  have cr_0_1 := fdq_39 hD hth r0
  have cr_0_160 := fdq_33 hD hth r0
  have cr_0_162 := fdq_41 hD hth r0
  have cr_0_163 := fdq_42 hD hth r0
  have ad_9 : v_ad (n_v vs 9) = w_ar ws (n_v vs 0) 162 := congrArg v_ad f5
  have ad_7 : v_ad (n_v vs 7) = w_ar ws (n_v vs 0) 163 := congrArg v_ad f7
  have ad_3 : v_ad (n_v vs 3) = w_ar ws (n_v vs 0) 160 := congrArg v_ad f10
  simp only [ad_9] at f3
  have h3 : v_iv (n_v vs 10) = w_ei ws (w_ar ws (n_v vs 0) 162) (v_iv (n_v vs 4)) := f3
  have g4 : v_iv (n_v vs 4) = w_fi ws (n_v vs 0) 158 := congrArg v_iv f4
  simp only [ad_7] at f6
  have h6 : v_iv (n_v vs 8) = w_ei ws (w_ar ws (n_v vs 0) 163) (v_iv (n_v vs 4)) := f6
  simp only [ad_3] at f9
  have h9 : v_iv (n_v vs 5) = w_ei ws (w_ar ws (n_v vs 0) 160) (v_iv (n_v vs 4)) := f9
  have g12 : v_iv (n_v vs 2) = w_fi ws (n_v vs 0) 8 := congrArg v_iv f12
  have hK_0_1 := elq_7 hD hth cr_0_1
  have hK_0_160 := elq_6 hD hth cr_0_160
  have hK_0_162 := elq_8 hD hth cr_0_162
  have hK_0_163 := elq_9 hD hth cr_0_163
  have kz_0_8 := fdq_34 hD hth r0
  have kz_0_10 := fdq_43 hD hth r0
  have kz_0_158 := fdq_36 hD hth r0
  have nf0 : fc_1 PRD (20, [13, 0], [50, 1, 1, 1158, 1160, 4, 6, 1, 2, 1, 0, 0, 1, 1, 6, 3, 1, 160, 2, 1, 158, 0, 1]) ws (vs) := ⟨nf_in hl rfl, sgq_287 (vc_Mo_word_at_s5025_2_0 (v_iv (n_v vs 2)) (v_iv (n_v vs 4)) (v_iv (n_v vs 5)) (v_iv (n_v vs 6)) (v_iv (n_v vs 8)) (v_iv (n_v vs 10)) (v_iv (n_v vs 11)) (v_iv (n_v vs 12)) (v_iv (n_v vs 13)) (w_ei ws (w_ar ws (n_v vs 0) 162)) (w_fi ws (n_v vs 0) 158) (w_ei ws (w_ar ws (n_v vs 0) 163)) (w_ei ws (w_ar ws (n_v vs 0) 160)) (w_fi ws (n_v vs 0) 8) (w_ei ws (w_ar ws (n_v vs 0) 1)) (w_fi ws (n_v vs 0) 10) k2 k4 k5 k6 k8 k10 k11 k12 k13 d0 (shm_192 f0) (shm_40 f1) (shm_14 f2) h3 g4 h6 (shm_37 f8) h9 (shm_192 f11) g12 hK_0_1 hK_0_160 hK_0_162 hK_0_163 kz_0_8 kz_0_10 kz_0_158)⟩
  have nf1 : fc_1 PRD (20, [0, 13], [60, 3, 4, 28, 8, 158, 10, 160, 162, 163, 1]) ws (vs) := ⟨nf_in hl rfl, sgq_1869 (vc_Mo_word_at_s5025_2_1 (v_iv (n_v vs 4)) (v_iv (n_v vs 8)) (v_iv (n_v vs 10)) (v_iv (n_v vs 11)) (v_iv (n_v vs 12)) (v_iv (n_v vs 13)) (w_ei ws (w_ar ws (n_v vs 0) 162)) (w_fi ws (n_v vs 0) 158) (w_ei ws (w_ar ws (n_v vs 0) 163)) (w_ei ws (w_ar ws (n_v vs 0) 160)) (w_fi ws (n_v vs 0) 8) (w_ei ws (w_ar ws (n_v vs 0) 1)) (w_fi ws (n_v vs 0) 10) k4 k8 k10 k11 k12 k13 (shm_40 f1) (shm_14 f2) h3 g4 h6 kz_0_8 kz_0_10 kz_0_158)⟩
  refine ⟨(fun _ h => (by cases h)), [], trivial, ?_, (fun _ h => (by cases h))⟩
  rw [List.append_nil]
  exact List.forall_mem_cons.mpr ⟨⟨show (20 : Nat) < 100 from by decide, nf0⟩, List.forall_mem_cons.mpr ⟨⟨show (20 : Nat) < 100 from by decide, nf1⟩, (fun _ h => (by cases h))⟩⟩
set_option maxHeartbeats 4000000 in
theorem vc_Mo_word_at_s5025_3_0 (x2 : Int) (x4 : Int) (x5 : Int) (x6 : Int) (x8 : Int) (x10 : Int) (x11 : Int) (x12 : Int) (x14 : Int) (x15 : Int) (x16 : Int) (x17 : Int) (x18 : Int) (x19 : Int) (x20 : Int) (tape_0 : Int → Int) (limit_0 : Int) (tokenPlace_0 : Int → Int) (cur_0 : Int) (tokenEnd_0 : Int → Int) (tokenKind_0 : Int → Int) (fault_0 : Int) (k2 : 0 ≤ x2 ∧ x2 ≤ 0) (k4 : 0 ≤ x4 ∧ x4 ≤ 2009) (k5 : 1 ≤ x5 ∧ x5 ≤ 1) (k6 : 1 ≤ x6 ∧ x6 ≤ 1) (k8 : 3 ≤ x8 ∧ x8 ≤ 2000) (k10 : 0 ≤ x10 ∧ x10 ≤ 2000) (k11 : 3 ≤ x11 ∧ x11 ≤ 3) (k12 : 3 ≤ x12 ∧ x12 ≤ 3) (k14 : 0 ≤ x14 ∧ x14 ≤ 0) (k15 : 3 ≤ x15 ∧ x15 ≤ 3) (k16 : 0 ≤ x16 ∧ x16 ≤ 2000) (k17 : 0 ≤ x17 ∧ x17 ≤ 2000) (k18 : (-1) ≤ x18 ∧ x18 ≤ (-1)) (k19 : 0 ≤ x19 ∧ x19 ≤ 65535) (k20 : 0 ≤ x20 ∧ x20 ≤ 0) (d0 : x16 + 0 ≤ x17 ∧ x17 ≤ x16 + 0) (f0 : x20 = 0) (f1 : x18 ≠ x19) (f2 : 1 * x19 + 0 ≤ 100) (f3 : (-1) * x19 + 0 ≤ (-100)) (f4 : ((x17 + 1) ≤ limit_0) → (x18 = (tape_0 (x17) % 256))) (f5 : (limit_0 ≤ x17) → (x18 = (-1))) (f6 : x17 = x16 + x14) (h7 : x16 = tokenPlace_0 (x4)) (g8 : x4 = cur_0) (f10 : x14 < x15) (f11 : x11 = x12) (f12 : x11 = x8 - x10) (h13 : x10 = tokenPlace_0 (x4)) (h14 : x8 = tokenEnd_0 (x4)) (f16 : x5 = x6) (h17 : x5 = tokenKind_0 (x4)) (f19 : x2 = 0) (g20 : x2 = fault_0) (hK_0_1 : ∀ j : Int, 0 ≤ j → j < 2000 → (-128) ≤ tape_0 j ∧ tape_0 j ≤ 127) (hK_0_160 : ∀ j : Int, 0 ≤ j → j < 2010 → 0 ≤ tokenKind_0 j ∧ tokenKind_0 j ≤ 4) (hK_0_162 : ∀ j : Int, 0 ≤ j → j < 2010 → 0 ≤ tokenPlace_0 j ∧ tokenPlace_0 j ≤ 2000) (hK_0_163 : ∀ j : Int, 0 ≤ j → j < 2010 → 0 ≤ tokenEnd_0 j ∧ tokenEnd_0 j ≤ 2000) (kz_0_8 : 0 ≤ fault_0 ∧ fault_0 ≤ 5) (kz_0_10 : 0 ≤ limit_0 ∧ limit_0 ≤ 2000) (kz_0_158 : 0 ≤ cur_0 ∧ cur_0 ≤ 2009) : (x20 = 1) → (tokenKind_0 (cur_0) = 1) := by
  first | assumption | (clear f4 f5 hK_0_1 hK_0_160 hK_0_162 hK_0_163; omega) | (clear hK_0_1 hK_0_160 hK_0_162 hK_0_163; grind) | omega | grind
set_option maxHeartbeats 4000000 in
theorem vc_Mo_word_at_s5025_3_1 (x4 : Int) (x8 : Int) (x10 : Int) (x11 : Int) (x16 : Int) (x17 : Int) (x18 : Int) (x20 : Int) (tape_0 : Int → Int) (limit_0 : Int) (tokenPlace_0 : Int → Int) (cur_0 : Int) (tokenEnd_0 : Int → Int) (tokenKind_0 : Int → Int) (fault_0 : Int) (k4 : 0 ≤ x4 ∧ x4 ≤ 2009) (k8 : 3 ≤ x8 ∧ x8 ≤ 2000) (k10 : 0 ≤ x10 ∧ x10 ≤ 2000) (k11 : 3 ≤ x11 ∧ x11 ≤ 3) (k16 : 0 ≤ x16 ∧ x16 ≤ 2000) (k17 : 0 ≤ x17 ∧ x17 ≤ 2000) (k18 : (-1) ≤ x18 ∧ x18 ≤ (-1)) (k20 : 0 ≤ x20 ∧ x20 ≤ 0) (d0 : x16 + 0 ≤ x17 ∧ x17 ≤ x16 + 0) (f4 : ((x17 + 1) ≤ limit_0) → (x18 = (tape_0 (x17) % 256))) (f5 : (limit_0 ≤ x17) → (x18 = (-1))) (h7 : x16 = tokenPlace_0 (x4)) (g8 : x4 = cur_0) (f12 : x11 = x8 - x10) (h13 : x10 = tokenPlace_0 (x4)) (h14 : x8 = tokenEnd_0 (x4)) (kz_0_8 : 0 ≤ fault_0 ∧ fault_0 ≤ 5) (kz_0_10 : 0 ≤ limit_0 ∧ limit_0 ≤ 2000) (kz_0_158 : 0 ≤ cur_0 ∧ cur_0 ≤ 2009) : Wqdeg (fault_0) (cur_0) (limit_0) (tokenKind_0) (tokenPlace_0) (tokenEnd_0) (tape_0) (x20) := by
  first
    | exact ⟨fun z => by omega, fun z => by have := z.1; omega⟩
    | (have e := (‹x4 = cur_0›)
       rw [← e]
       refine ⟨fun z => ⟨by omega, wdS3.2 ⟨by omega, by omega, by omega, by rw [show tokenPlace_0 x4 + 0 = x17 by omega]; omega, by rw [show tokenPlace_0 x4 + 1 = x24 by omega]; omega, by rw [show tokenPlace_0 x4 + 2 = x31 by omega]; omega⟩⟩, fun z => by omega⟩)
    | (have e := (‹x4 = cur_0›)
       rw [← e]
       refine ⟨fun z => by omega, fun z => ?_⟩
       have w := wdS3.1 z.2
       try (have q0 : tokenPlace_0 x4 + 0 = x17 := (by omega); rw [q0] at w)
       try (have q1 : tokenPlace_0 x4 + 1 = x24 := (by omega); rw [q1] at w)
       try (have q2 : tokenPlace_0 x4 + 2 = x31 := (by omega); rw [q2] at w)
       omega)
  
def o_Mo_word_at_s5025_3 : or_T := (102, 23, [(0, (2, 0, 0, [165])), (2, (0, 0, 0, [])), (3, (2, 0, 0, [274])), (4, (0, 0, 2009, [])), (5, (0, 1, 1, [])), (6, (0, 1, 1, [])), (7, (2, 0, 0, [277])), (8, (0, 3, 2000, [])), (9, (2, 0, 0, [276])), (10, (0, 0, 2000, [])), (11, (0, 3, 3, [])), (12, (0, 3, 3, [])), (14, (0, 0, 0, [])), (15, (0, 3, 3, [])), (16, (0, 0, 2000, [])), (17, (0, 0, 2000, [])), (18, (0, -1, -1, [])), (19, (0, 0, 65535, [])), (20, (0, 0, 0, []))], [(8, [20], [0]), (7, [18, 19], [1]), (23, [19], [100, 1]), (23, [19], [-100, -1]), (20, [17, 0, 18], [50, 1, 1, 1010, 1001, 4, 11, 0, 6, 4, 2, 1, 0, 0, 1, 2, 1, 10, 1, 2, 1, 2, 9, 5, 3, 1, 1, 1, 0, 0, 256]), (20, [0, 17, 18], [50, 1, 0, 10, 4, 7, 0, 3, 2, 0, 10, 1, 1, 1, 2, 1, 2, 0, -1]), (1, [17, 16, 14], []), (10, [16, 9, 4], []), (9, [4, 0], [158]), (9, [9, 0], [162]), (7, [14, 15], [2]), (7, [11, 12], [0]), (2, [11, 8, 10], []), (10, [10, 9, 4], []), (10, [8, 7, 4], []), (9, [7, 0], [163]), (7, [5, 6], [0]), (10, [5, 3, 4], []), (9, [3, 0], [160]), (8, [2], [0]), (9, [2, 0], [8])], [], [], [(20, [20, 0], [50, 1, 1, 1158, 1160, 4, 6, 1, 2, 1, 0, 0, 1, 1, 6, 3, 1, 160, 2, 1, 158, 0, 1]), (20, [0, 20], [60, 3, 4, 28, 8, 158, 10, 160, 162, 163, 1])], [], [(17, 16, 0, 0)])
theorem oo_Mo_word_at_s5025_3 {kA : Nat → ClassId} : or_ok PRD kA GG o_Mo_word_at_s5025_3 := by
  refine or_mk fun A ta ws vs hD hth hl => ?_
  intro t0 r0 t2 k2 t3 r3 t4 k4 t5 k5 t6 k6 t7 r7 t8 k8 t9 r9 t10 k10 t11 k11 t12 k12 t14 k14 t15 k15 t16 k16 t17 k17 t18 k18 t19 k19 t20 k20 d0 f0 f1 f2 f3 f4 f5 f6 f7 f8 f9 f10 f11 f12 f13 f14 f15 f16 f17 f18 f19 f20
  replace f7 := shm_107 f7
  replace f8 := shm_286 f8
  replace f9 := shm_301 f9
  replace f13 := shm_107 f13
  replace f14 := shm_107 f14
  replace f15 := shm_1332 f15
  replace f17 := shm_107 f17
  replace f18 := shm_327 f18
  replace f20 := shm_293 f20
  have cr_0_1 := fdq_39 hD hth r0
  have cr_0_160 := fdq_33 hD hth r0
  have cr_0_162 := fdq_41 hD hth r0
  have cr_0_163 := fdq_42 hD hth r0
  have ad_9 : v_ad (n_v vs 9) = w_ar ws (n_v vs 0) 162 := congrArg v_ad f9
  have ad_7 : v_ad (n_v vs 7) = w_ar ws (n_v vs 0) 163 := congrArg v_ad f15
  have ad_3 : v_ad (n_v vs 3) = w_ar ws (n_v vs 0) 160 := congrArg v_ad f18
  simp only [ad_9] at f7
  have h7 : v_iv (n_v vs 16) = w_ei ws (w_ar ws (n_v vs 0) 162) (v_iv (n_v vs 4)) := f7
  have g8 : v_iv (n_v vs 4) = w_fi ws (n_v vs 0) 158 := congrArg v_iv f8
  simp only [ad_9] at f13
  have h13 : v_iv (n_v vs 10) = w_ei ws (w_ar ws (n_v vs 0) 162) (v_iv (n_v vs 4)) := f13
  simp only [ad_7] at f14
  have h14 : v_iv (n_v vs 8) = w_ei ws (w_ar ws (n_v vs 0) 163) (v_iv (n_v vs 4)) := f14
  simp only [ad_3] at f17
  have h17 : v_iv (n_v vs 5) = w_ei ws (w_ar ws (n_v vs 0) 160) (v_iv (n_v vs 4)) := f17
  have g20 : v_iv (n_v vs 2) = w_fi ws (n_v vs 0) 8 := congrArg v_iv f20
  have hK_0_1 := elq_7 hD hth cr_0_1
  have hK_0_160 := elq_6 hD hth cr_0_160
  have hK_0_162 := elq_8 hD hth cr_0_162
  have hK_0_163 := elq_9 hD hth cr_0_163
  have kz_0_8 := fdq_34 hD hth r0
  have kz_0_10 := fdq_43 hD hth r0
  have kz_0_158 := fdq_36 hD hth r0
  have nf0 : fc_1 PRD (20, [20, 0], [50, 1, 1, 1158, 1160, 4, 6, 1, 2, 1, 0, 0, 1, 1, 6, 3, 1, 160, 2, 1, 158, 0, 1]) ws (vs) := ⟨nf_in hl rfl, sgq_287 (vc_Mo_word_at_s5025_3_0 (v_iv (n_v vs 2)) (v_iv (n_v vs 4)) (v_iv (n_v vs 5)) (v_iv (n_v vs 6)) (v_iv (n_v vs 8)) (v_iv (n_v vs 10)) (v_iv (n_v vs 11)) (v_iv (n_v vs 12)) (v_iv (n_v vs 14)) (v_iv (n_v vs 15)) (v_iv (n_v vs 16)) (v_iv (n_v vs 17)) (v_iv (n_v vs 18)) (v_iv (n_v vs 19)) (v_iv (n_v vs 20)) (w_ei ws (w_ar ws (n_v vs 0) 1)) (w_fi ws (n_v vs 0) 10) (w_ei ws (w_ar ws (n_v vs 0) 162)) (w_fi ws (n_v vs 0) 158) (w_ei ws (w_ar ws (n_v vs 0) 163)) (w_ei ws (w_ar ws (n_v vs 0) 160)) (w_fi ws (n_v vs 0) 8) k2 k4 k5 k6 k8 k10 k11 k12 k14 k15 k16 k17 k18 k19 k20 d0 (shm_192 f0) (shm_40 f1) (shm_57 f2) (shm_58 f3) (shm_541 f4) (shm_542 f5) (shm_12 f6) h7 g8 (shm_6 f10) (shm_37 f11) (shm_14 f12) h13 h14 (shm_37 f16) h17 (shm_192 f19) g20 hK_0_1 hK_0_160 hK_0_162 hK_0_163 kz_0_8 kz_0_10 kz_0_158)⟩
  have nf1 : fc_1 PRD (20, [0, 20], [60, 3, 4, 28, 8, 158, 10, 160, 162, 163, 1]) ws (vs) := ⟨nf_in hl rfl, sgq_1869 (vc_Mo_word_at_s5025_3_1 (v_iv (n_v vs 4)) (v_iv (n_v vs 8)) (v_iv (n_v vs 10)) (v_iv (n_v vs 11)) (v_iv (n_v vs 16)) (v_iv (n_v vs 17)) (v_iv (n_v vs 18)) (v_iv (n_v vs 20)) (w_ei ws (w_ar ws (n_v vs 0) 1)) (w_fi ws (n_v vs 0) 10) (w_ei ws (w_ar ws (n_v vs 0) 162)) (w_fi ws (n_v vs 0) 158) (w_ei ws (w_ar ws (n_v vs 0) 163)) (w_ei ws (w_ar ws (n_v vs 0) 160)) (w_fi ws (n_v vs 0) 8) k4 k8 k10 k11 k16 k17 k18 k20 d0 (shm_541 f4) (shm_542 f5) h7 g8 (shm_14 f12) h13 h14 kz_0_8 kz_0_10 kz_0_158)⟩
  refine ⟨(fun _ h => (by cases h)), [], trivial, ?_, (fun _ h => (by cases h))⟩
  rw [List.append_nil]
  exact List.forall_mem_cons.mpr ⟨⟨show (20 : Nat) < 100 from by decide, nf0⟩, List.forall_mem_cons.mpr ⟨⟨show (20 : Nat) < 100 from by decide, nf1⟩, (fun _ h => (by cases h))⟩⟩
set_option maxHeartbeats 4000000 in
theorem vc_Mo_word_at_s5025_4_0 (x2 : Int) (x4 : Int) (x5 : Int) (x6 : Int) (x8 : Int) (x10 : Int) (x11 : Int) (x12 : Int) (x14 : Int) (x15 : Int) (x16 : Int) (x17 : Int) (x18 : Int) (x19 : Int) (x20 : Int) (tape_0 : Int → Int) (limit_0 : Int) (tokenPlace_0 : Int → Int) (cur_0 : Int) (tokenEnd_0 : Int → Int) (tokenKind_0 : Int → Int) (fault_0 : Int) (k2 : 0 ≤ x2 ∧ x2 ≤ 0) (k4 : 0 ≤ x4 ∧ x4 ≤ 2009) (k5 : 1 ≤ x5 ∧ x5 ≤ 1) (k6 : 1 ≤ x6 ∧ x6 ≤ 1) (k8 : 3 ≤ x8 ∧ x8 ≤ 2000) (k10 : 0 ≤ x10 ∧ x10 ≤ 2000) (k11 : 3 ≤ x11 ∧ x11 ≤ 3) (k12 : 3 ≤ x12 ∧ x12 ≤ 3) (k14 : 0 ≤ x14 ∧ x14 ≤ 0) (k15 : 3 ≤ x15 ∧ x15 ≤ 3) (k16 : 0 ≤ x16 ∧ x16 ≤ 1999) (k17 : 0 ≤ x17 ∧ x17 ≤ 1999) (k18 : 0 ≤ x18 ∧ x18 ≤ 255) (k19 : 0 ≤ x19 ∧ x19 ≤ 65535) (k20 : 0 ≤ x20 ∧ x20 ≤ 0) (d0 : x16 + 0 ≤ x17 ∧ x17 ≤ x16 + 0) (f0 : x20 = 0) (f1 : x18 ≠ x19) (f2 : 1 * x19 + 0 ≤ 100) (f3 : (-1) * x19 + 0 ≤ (-100)) (f4 : ((x17 + 1) ≤ limit_0) → (x18 = (tape_0 (x17) % 256))) (f5 : (limit_0 ≤ x17) → (x18 = (-1))) (f6 : x17 = x16 + x14) (h7 : x16 = tokenPlace_0 (x4)) (g8 : x4 = cur_0) (f10 : x14 < x15) (f11 : x11 = x12) (f12 : x11 = x8 - x10) (h13 : x10 = tokenPlace_0 (x4)) (h14 : x8 = tokenEnd_0 (x4)) (f16 : x5 = x6) (h17 : x5 = tokenKind_0 (x4)) (f19 : x2 = 0) (g20 : x2 = fault_0) (hK_0_1 : ∀ j : Int, 0 ≤ j → j < 2000 → (-128) ≤ tape_0 j ∧ tape_0 j ≤ 127) (hK_0_160 : ∀ j : Int, 0 ≤ j → j < 2010 → 0 ≤ tokenKind_0 j ∧ tokenKind_0 j ≤ 4) (hK_0_162 : ∀ j : Int, 0 ≤ j → j < 2010 → 0 ≤ tokenPlace_0 j ∧ tokenPlace_0 j ≤ 2000) (hK_0_163 : ∀ j : Int, 0 ≤ j → j < 2010 → 0 ≤ tokenEnd_0 j ∧ tokenEnd_0 j ≤ 2000) (kz_0_8 : 0 ≤ fault_0 ∧ fault_0 ≤ 5) (kz_0_10 : 0 ≤ limit_0 ∧ limit_0 ≤ 2000) (kz_0_158 : 0 ≤ cur_0 ∧ cur_0 ≤ 2009) : (x20 = 1) → (tokenKind_0 (cur_0) = 1) := by
  first | assumption | (clear f4 f5 hK_0_1 hK_0_160 hK_0_162 hK_0_163; omega) | (clear hK_0_1 hK_0_160 hK_0_162 hK_0_163; grind) | omega | grind
set_option maxHeartbeats 4000000 in
theorem vc_Mo_word_at_s5025_4_1 (x4 : Int) (x8 : Int) (x10 : Int) (x11 : Int) (x16 : Int) (x17 : Int) (x18 : Int) (x19 : Int) (x20 : Int) (tape_0 : Int → Int) (limit_0 : Int) (tokenPlace_0 : Int → Int) (cur_0 : Int) (tokenEnd_0 : Int → Int) (tokenKind_0 : Int → Int) (fault_0 : Int) (k4 : 0 ≤ x4 ∧ x4 ≤ 2009) (k8 : 3 ≤ x8 ∧ x8 ≤ 2000) (k10 : 0 ≤ x10 ∧ x10 ≤ 2000) (k11 : 3 ≤ x11 ∧ x11 ≤ 3) (k16 : 0 ≤ x16 ∧ x16 ≤ 1999) (k17 : 0 ≤ x17 ∧ x17 ≤ 1999) (k18 : 0 ≤ x18 ∧ x18 ≤ 255) (k19 : 0 ≤ x19 ∧ x19 ≤ 65535) (k20 : 0 ≤ x20 ∧ x20 ≤ 0) (d0 : x16 + 0 ≤ x17 ∧ x17 ≤ x16 + 0) (f1 : x18 ≠ x19) (f2 : 1 * x19 + 0 ≤ 100) (f3 : (-1) * x19 + 0 ≤ (-100)) (f4 : ((x17 + 1) ≤ limit_0) → (x18 = (tape_0 (x17) % 256))) (f5 : (limit_0 ≤ x17) → (x18 = (-1))) (h7 : x16 = tokenPlace_0 (x4)) (g8 : x4 = cur_0) (f12 : x11 = x8 - x10) (h13 : x10 = tokenPlace_0 (x4)) (h14 : x8 = tokenEnd_0 (x4)) (kz_0_8 : 0 ≤ fault_0 ∧ fault_0 ≤ 5) (kz_0_10 : 0 ≤ limit_0 ∧ limit_0 ≤ 2000) (kz_0_158 : 0 ≤ cur_0 ∧ cur_0 ≤ 2009) : Wqdeg (fault_0) (cur_0) (limit_0) (tokenKind_0) (tokenPlace_0) (tokenEnd_0) (tape_0) (x20) := by
  first
    | exact ⟨fun z => by omega, fun z => by have := z.1; omega⟩
    | (have e := (‹x4 = cur_0›)
       rw [← e]
       refine ⟨fun z => ⟨by omega, wdS3.2 ⟨by omega, by omega, by omega, by rw [show tokenPlace_0 x4 + 0 = x17 by omega]; omega, by rw [show tokenPlace_0 x4 + 1 = x24 by omega]; omega, by rw [show tokenPlace_0 x4 + 2 = x31 by omega]; omega⟩⟩, fun z => by omega⟩)
    | (have e := (‹x4 = cur_0›)
       rw [← e]
       refine ⟨fun z => by omega, fun z => ?_⟩
       have w := wdS3.1 z.2
       try (have q0 : tokenPlace_0 x4 + 0 = x17 := (by omega); rw [q0] at w)
       try (have q1 : tokenPlace_0 x4 + 1 = x24 := (by omega); rw [q1] at w)
       try (have q2 : tokenPlace_0 x4 + 2 = x31 := (by omega); rw [q2] at w)
       omega)
  
def o_Mo_word_at_s5025_4 : or_T := (102, 23, [(0, (2, 0, 0, [165])), (2, (0, 0, 0, [])), (3, (2, 0, 0, [274])), (4, (0, 0, 2009, [])), (5, (0, 1, 1, [])), (6, (0, 1, 1, [])), (7, (2, 0, 0, [277])), (8, (0, 3, 2000, [])), (9, (2, 0, 0, [276])), (10, (0, 0, 2000, [])), (11, (0, 3, 3, [])), (12, (0, 3, 3, [])), (14, (0, 0, 0, [])), (15, (0, 3, 3, [])), (16, (0, 0, 1999, [])), (17, (0, 0, 1999, [])), (18, (0, 0, 255, [])), (19, (0, 0, 65535, [])), (20, (0, 0, 0, []))], [(8, [20], [0]), (7, [18, 19], [1]), (23, [19], [100, 1]), (23, [19], [-100, -1]), (20, [17, 0, 18], [50, 1, 1, 1010, 1001, 4, 11, 0, 6, 4, 2, 1, 0, 0, 1, 2, 1, 10, 1, 2, 1, 2, 9, 5, 3, 1, 1, 1, 0, 0, 256]), (20, [0, 17, 18], [50, 1, 0, 10, 4, 7, 0, 3, 2, 0, 10, 1, 1, 1, 2, 1, 2, 0, -1]), (1, [17, 16, 14], []), (10, [16, 9, 4], []), (9, [4, 0], [158]), (9, [9, 0], [162]), (7, [14, 15], [2]), (7, [11, 12], [0]), (2, [11, 8, 10], []), (10, [10, 9, 4], []), (10, [8, 7, 4], []), (9, [7, 0], [163]), (7, [5, 6], [0]), (10, [5, 3, 4], []), (9, [3, 0], [160]), (8, [2], [0]), (9, [2, 0], [8])], [], [], [(20, [20, 0], [50, 1, 1, 1158, 1160, 4, 6, 1, 2, 1, 0, 0, 1, 1, 6, 3, 1, 160, 2, 1, 158, 0, 1]), (20, [0, 20], [60, 3, 4, 28, 8, 158, 10, 160, 162, 163, 1])], [], [(17, 16, 0, 0)])
theorem oo_Mo_word_at_s5025_4 {kA : Nat → ClassId} : or_ok PRD kA GG o_Mo_word_at_s5025_4 := by
  refine or_mk fun A ta ws vs hD hth hl => ?_
  intro t0 r0 t2 k2 t3 r3 t4 k4 t5 k5 t6 k6 t7 r7 t8 k8 t9 r9 t10 k10 t11 k11 t12 k12 t14 k14 t15 k15 t16 k16 t17 k17 t18 k18 t19 k19 t20 k20 d0 f0 f1 f2 f3 f4 f5 f6 f7 f8 f9 f10 f11 f12 f13 f14 f15 f16 f17 f18 f19 f20
  replace f7 := shm_107 f7
  replace f8 := shm_286 f8
  replace f9 := shm_301 f9
  replace f13 := shm_107 f13
  replace f14 := shm_107 f14
  replace f15 := shm_1332 f15
  replace f17 := shm_107 f17
  replace f18 := shm_327 f18
  replace f20 := shm_293 f20
  have cr_0_1 := fdq_39 hD hth r0
  have cr_0_160 := fdq_33 hD hth r0
  have cr_0_162 := fdq_41 hD hth r0
  have cr_0_163 := fdq_42 hD hth r0
  have ad_9 : v_ad (n_v vs 9) = w_ar ws (n_v vs 0) 162 := congrArg v_ad f9
  have ad_7 : v_ad (n_v vs 7) = w_ar ws (n_v vs 0) 163 := congrArg v_ad f15
  have ad_3 : v_ad (n_v vs 3) = w_ar ws (n_v vs 0) 160 := congrArg v_ad f18
  simp only [ad_9] at f7
  have h7 : v_iv (n_v vs 16) = w_ei ws (w_ar ws (n_v vs 0) 162) (v_iv (n_v vs 4)) := f7
  have g8 : v_iv (n_v vs 4) = w_fi ws (n_v vs 0) 158 := congrArg v_iv f8
  simp only [ad_9] at f13
  have h13 : v_iv (n_v vs 10) = w_ei ws (w_ar ws (n_v vs 0) 162) (v_iv (n_v vs 4)) := f13
  simp only [ad_7] at f14
  have h14 : v_iv (n_v vs 8) = w_ei ws (w_ar ws (n_v vs 0) 163) (v_iv (n_v vs 4)) := f14
  simp only [ad_3] at f17
  have h17 : v_iv (n_v vs 5) = w_ei ws (w_ar ws (n_v vs 0) 160) (v_iv (n_v vs 4)) := f17
  have g20 : v_iv (n_v vs 2) = w_fi ws (n_v vs 0) 8 := congrArg v_iv f20
  have hK_0_1 := elq_7 hD hth cr_0_1
  have hK_0_160 := elq_6 hD hth cr_0_160
  have hK_0_162 := elq_8 hD hth cr_0_162
  have hK_0_163 := elq_9 hD hth cr_0_163
  have kz_0_8 := fdq_34 hD hth r0
  have kz_0_10 := fdq_43 hD hth r0
  have kz_0_158 := fdq_36 hD hth r0
  have nf0 : fc_1 PRD (20, [20, 0], [50, 1, 1, 1158, 1160, 4, 6, 1, 2, 1, 0, 0, 1, 1, 6, 3, 1, 160, 2, 1, 158, 0, 1]) ws (vs) := ⟨nf_in hl rfl, sgq_287 (vc_Mo_word_at_s5025_4_0 (v_iv (n_v vs 2)) (v_iv (n_v vs 4)) (v_iv (n_v vs 5)) (v_iv (n_v vs 6)) (v_iv (n_v vs 8)) (v_iv (n_v vs 10)) (v_iv (n_v vs 11)) (v_iv (n_v vs 12)) (v_iv (n_v vs 14)) (v_iv (n_v vs 15)) (v_iv (n_v vs 16)) (v_iv (n_v vs 17)) (v_iv (n_v vs 18)) (v_iv (n_v vs 19)) (v_iv (n_v vs 20)) (w_ei ws (w_ar ws (n_v vs 0) 1)) (w_fi ws (n_v vs 0) 10) (w_ei ws (w_ar ws (n_v vs 0) 162)) (w_fi ws (n_v vs 0) 158) (w_ei ws (w_ar ws (n_v vs 0) 163)) (w_ei ws (w_ar ws (n_v vs 0) 160)) (w_fi ws (n_v vs 0) 8) k2 k4 k5 k6 k8 k10 k11 k12 k14 k15 k16 k17 k18 k19 k20 d0 (shm_192 f0) (shm_40 f1) (shm_57 f2) (shm_58 f3) (shm_541 f4) (shm_542 f5) (shm_12 f6) h7 g8 (shm_6 f10) (shm_37 f11) (shm_14 f12) h13 h14 (shm_37 f16) h17 (shm_192 f19) g20 hK_0_1 hK_0_160 hK_0_162 hK_0_163 kz_0_8 kz_0_10 kz_0_158)⟩
  have nf1 : fc_1 PRD (20, [0, 20], [60, 3, 4, 28, 8, 158, 10, 160, 162, 163, 1]) ws (vs) := ⟨nf_in hl rfl, sgq_1869 (vc_Mo_word_at_s5025_4_1 (v_iv (n_v vs 4)) (v_iv (n_v vs 8)) (v_iv (n_v vs 10)) (v_iv (n_v vs 11)) (v_iv (n_v vs 16)) (v_iv (n_v vs 17)) (v_iv (n_v vs 18)) (v_iv (n_v vs 19)) (v_iv (n_v vs 20)) (w_ei ws (w_ar ws (n_v vs 0) 1)) (w_fi ws (n_v vs 0) 10) (w_ei ws (w_ar ws (n_v vs 0) 162)) (w_fi ws (n_v vs 0) 158) (w_ei ws (w_ar ws (n_v vs 0) 163)) (w_ei ws (w_ar ws (n_v vs 0) 160)) (w_fi ws (n_v vs 0) 8) k4 k8 k10 k11 k16 k17 k18 k19 k20 d0 (shm_40 f1) (shm_57 f2) (shm_58 f3) (shm_541 f4) (shm_542 f5) h7 g8 (shm_14 f12) h13 h14 kz_0_8 kz_0_10 kz_0_158)⟩
  refine ⟨(fun _ h => (by cases h)), [], trivial, ?_, (fun _ h => (by cases h))⟩
  rw [List.append_nil]
  exact List.forall_mem_cons.mpr ⟨⟨show (20 : Nat) < 100 from by decide, nf0⟩, List.forall_mem_cons.mpr ⟨⟨show (20 : Nat) < 100 from by decide, nf1⟩, (fun _ h => (by cases h))⟩⟩
set_option maxHeartbeats 4000000 in
theorem vc_Mo_word_at_s5025_5_0 (x2 : Int) (x4 : Int) (x5 : Int) (x6 : Int) (x8 : Int) (x10 : Int) (x11 : Int) (x12 : Int) (x14 : Int) (x15 : Int) (x16 : Int) (x17 : Int) (x18 : Int) (x19 : Int) (x21 : Int) (x22 : Int) (x23 : Int) (x24 : Int) (x25 : Int) (x26 : Int) (x27 : Int) (tape_0 : Int → Int) (limit_0 : Int) (tokenPlace_0 : Int → Int) (cur_0 : Int) (tokenEnd_0 : Int → Int) (tokenKind_0 : Int → Int) (fault_0 : Int) (k2 : 0 ≤ x2 ∧ x2 ≤ 0) (k4 : 0 ≤ x4 ∧ x4 ≤ 2009) (k5 : 1 ≤ x5 ∧ x5 ≤ 1) (k6 : 1 ≤ x6 ∧ x6 ≤ 1) (k8 : 3 ≤ x8 ∧ x8 ≤ 2000) (k10 : 0 ≤ x10 ∧ x10 ≤ 2000) (k11 : 3 ≤ x11 ∧ x11 ≤ 3) (k12 : 3 ≤ x12 ∧ x12 ≤ 3) (k14 : 0 ≤ x14 ∧ x14 ≤ 0) (k15 : 3 ≤ x15 ∧ x15 ≤ 3) (k16 : 0 ≤ x16 ∧ x16 ≤ 1999) (k17 : 0 ≤ x17 ∧ x17 ≤ 1999) (k18 : 0 ≤ x18 ∧ x18 ≤ 255) (k19 : 0 ≤ x19 ∧ x19 ≤ 255) (k21 : 1 ≤ x21 ∧ x21 ≤ 1) (k22 : 3 ≤ x22 ∧ x22 ≤ 3) (k23 : 0 ≤ x23 ∧ x23 ≤ 2000) (k24 : 1 ≤ x24 ∧ x24 ≤ 2001) (k25 : (-1) ≤ x25 ∧ x25 ≤ (-1)) (k26 : 0 ≤ x26 ∧ x26 ≤ 65535) (k27 : 0 ≤ x27 ∧ x27 ≤ 0) (d0 : x23 + 1 ≤ x24 ∧ x24 ≤ x23 + 1) (d1 : x19 + 0 ≤ x18 ∧ x18 ≤ x19 + 0) (d2 : x16 + 0 ≤ x17 ∧ x17 ≤ x16 + 0) (f0 : x27 = 0) (f1 : x25 ≠ x26) (f2 : 1 * x26 + 0 ≤ 101) (f3 : (-1) * x26 + 0 ≤ (-101)) (f4 : ((x24 + 1) ≤ limit_0) → (x25 = (tape_0 (x24) % 256))) (f5 : (limit_0 ≤ x24) → (x25 = (-1))) (f6 : x24 = x23 + x21) (h7 : x23 = tokenPlace_0 (x4)) (g8 : x4 = cur_0) (f10 : x21 < x22) (f11 : x21 = x14 + 1) (f12 : x18 = x19) (f13 : 1 * x19 + 0 ≤ 100) (f14 : (-1) * x19 + 0 ≤ (-100)) (f15 : ((x17 + 1) ≤ limit_0) → (x18 = (tape_0 (x17) % 256))) (f16 : (limit_0 ≤ x17) → (x18 = (-1))) (f17 : x17 = x16 + x14) (h18 : x16 = tokenPlace_0 (x4)) (f19 : x14 < x15) (f20 : x11 = x12) (f21 : x11 = x8 - x10) (h22 : x10 = tokenPlace_0 (x4)) (h23 : x8 = tokenEnd_0 (x4)) (f25 : x5 = x6) (h26 : x5 = tokenKind_0 (x4)) (f28 : x2 = 0) (g29 : x2 = fault_0) (hK_0_1 : ∀ j : Int, 0 ≤ j → j < 2000 → (-128) ≤ tape_0 j ∧ tape_0 j ≤ 127) (hK_0_160 : ∀ j : Int, 0 ≤ j → j < 2010 → 0 ≤ tokenKind_0 j ∧ tokenKind_0 j ≤ 4) (hK_0_162 : ∀ j : Int, 0 ≤ j → j < 2010 → 0 ≤ tokenPlace_0 j ∧ tokenPlace_0 j ≤ 2000) (hK_0_163 : ∀ j : Int, 0 ≤ j → j < 2010 → 0 ≤ tokenEnd_0 j ∧ tokenEnd_0 j ≤ 2000) (kz_0_8 : 0 ≤ fault_0 ∧ fault_0 ≤ 5) (kz_0_10 : 0 ≤ limit_0 ∧ limit_0 ≤ 2000) (kz_0_158 : 0 ≤ cur_0 ∧ cur_0 ≤ 2009) : (x27 = 1) → (tokenKind_0 (cur_0) = 1) := by
  first | assumption | (clear f4 f5 f15 f16 hK_0_1 hK_0_160 hK_0_162 hK_0_163; omega) | (clear hK_0_1 hK_0_160 hK_0_162 hK_0_163; grind) | omega | grind
set_option maxHeartbeats 4000000 in
theorem vc_Mo_word_at_s5025_5_1 (x4 : Int) (x8 : Int) (x10 : Int) (x11 : Int) (x16 : Int) (x17 : Int) (x18 : Int) (x19 : Int) (x23 : Int) (x24 : Int) (x25 : Int) (x27 : Int) (tape_0 : Int → Int) (limit_0 : Int) (tokenPlace_0 : Int → Int) (cur_0 : Int) (tokenEnd_0 : Int → Int) (tokenKind_0 : Int → Int) (fault_0 : Int) (k4 : 0 ≤ x4 ∧ x4 ≤ 2009) (k8 : 3 ≤ x8 ∧ x8 ≤ 2000) (k10 : 0 ≤ x10 ∧ x10 ≤ 2000) (k11 : 3 ≤ x11 ∧ x11 ≤ 3) (k16 : 0 ≤ x16 ∧ x16 ≤ 1999) (k17 : 0 ≤ x17 ∧ x17 ≤ 1999) (k18 : 0 ≤ x18 ∧ x18 ≤ 255) (k19 : 0 ≤ x19 ∧ x19 ≤ 255) (k23 : 0 ≤ x23 ∧ x23 ≤ 2000) (k24 : 1 ≤ x24 ∧ x24 ≤ 2001) (k25 : (-1) ≤ x25 ∧ x25 ≤ (-1)) (k27 : 0 ≤ x27 ∧ x27 ≤ 0) (d0 : x23 + 1 ≤ x24 ∧ x24 ≤ x23 + 1) (d1 : x19 + 0 ≤ x18 ∧ x18 ≤ x19 + 0) (d2 : x16 + 0 ≤ x17 ∧ x17 ≤ x16 + 0) (f4 : ((x24 + 1) ≤ limit_0) → (x25 = (tape_0 (x24) % 256))) (f5 : (limit_0 ≤ x24) → (x25 = (-1))) (h7 : x23 = tokenPlace_0 (x4)) (g8 : x4 = cur_0) (f13 : 1 * x19 + 0 ≤ 100) (f14 : (-1) * x19 + 0 ≤ (-100)) (f15 : ((x17 + 1) ≤ limit_0) → (x18 = (tape_0 (x17) % 256))) (f16 : (limit_0 ≤ x17) → (x18 = (-1))) (h18 : x16 = tokenPlace_0 (x4)) (f21 : x11 = x8 - x10) (h22 : x10 = tokenPlace_0 (x4)) (h23 : x8 = tokenEnd_0 (x4)) (kz_0_8 : 0 ≤ fault_0 ∧ fault_0 ≤ 5) (kz_0_10 : 0 ≤ limit_0 ∧ limit_0 ≤ 2000) (kz_0_158 : 0 ≤ cur_0 ∧ cur_0 ≤ 2009) : Wqdeg (fault_0) (cur_0) (limit_0) (tokenKind_0) (tokenPlace_0) (tokenEnd_0) (tape_0) (x27) := by
  first
    | exact ⟨fun z => by omega, fun z => by have := z.1; omega⟩
    | (have e := (‹x4 = cur_0›)
       rw [← e]
       refine ⟨fun z => ⟨by omega, wdS3.2 ⟨by omega, by omega, by omega, by rw [show tokenPlace_0 x4 + 0 = x17 by omega]; omega, by rw [show tokenPlace_0 x4 + 1 = x24 by omega]; omega, by rw [show tokenPlace_0 x4 + 2 = x31 by omega]; omega⟩⟩, fun z => by omega⟩)
    | (have e := (‹x4 = cur_0›)
       rw [← e]
       refine ⟨fun z => by omega, fun z => ?_⟩
       have w := wdS3.1 z.2
       try (have q0 : tokenPlace_0 x4 + 0 = x17 := (by omega); rw [q0] at w)
       try (have q1 : tokenPlace_0 x4 + 1 = x24 := (by omega); rw [q1] at w)
       try (have q2 : tokenPlace_0 x4 + 2 = x31 := (by omega); rw [q2] at w)
       omega)
  
def o_Mo_word_at_s5025_5 : or_T := (102, 30, [(0, (2, 0, 0, [165])), (2, (0, 0, 0, [])), (3, (2, 0, 0, [274])), (4, (0, 0, 2009, [])), (5, (0, 1, 1, [])), (6, (0, 1, 1, [])), (7, (2, 0, 0, [277])), (8, (0, 3, 2000, [])), (9, (2, 0, 0, [276])), (10, (0, 0, 2000, [])), (11, (0, 3, 3, [])), (12, (0, 3, 3, [])), (14, (0, 0, 0, [])), (15, (0, 3, 3, [])), (16, (0, 0, 1999, [])), (17, (0, 0, 1999, [])), (18, (0, 0, 255, [])), (19, (0, 0, 255, [])), (21, (0, 1, 1, [])), (22, (0, 3, 3, [])), (23, (0, 0, 2000, [])), (24, (0, 1, 2001, [])), (25, (0, -1, -1, [])), (26, (0, 0, 65535, [])), (27, (0, 0, 0, []))], [(8, [27], [0]), (7, [25, 26], [1]), (23, [26], [101, 1]), (23, [26], [-101, -1]), (20, [24, 0, 25], [50, 1, 1, 1010, 1001, 4, 11, 0, 6, 4, 2, 1, 0, 0, 1, 2, 1, 10, 1, 2, 1, 2, 9, 5, 3, 1, 1, 1, 0, 0, 256]), (20, [0, 24, 25], [50, 1, 0, 10, 4, 7, 0, 3, 2, 0, 10, 1, 1, 1, 2, 1, 2, 0, -1]), (1, [24, 23, 21], []), (10, [23, 9, 4], []), (9, [4, 0], [158]), (9, [9, 0], [162]), (7, [21, 22], [2]), (6, [21, 14], [1]), (7, [18, 19], [0]), (23, [19], [100, 1]), (23, [19], [-100, -1]), (20, [17, 0, 18], [50, 1, 1, 1010, 1001, 4, 11, 0, 6, 4, 2, 1, 0, 0, 1, 2, 1, 10, 1, 2, 1, 2, 9, 5, 3, 1, 1, 1, 0, 0, 256]), (20, [0, 17, 18], [50, 1, 0, 10, 4, 7, 0, 3, 2, 0, 10, 1, 1, 1, 2, 1, 2, 0, -1]), (1, [17, 16, 14], []), (10, [16, 9, 4], []), (7, [14, 15], [2]), (7, [11, 12], [0]), (2, [11, 8, 10], []), (10, [10, 9, 4], []), (10, [8, 7, 4], []), (9, [7, 0], [163]), (7, [5, 6], [0]), (10, [5, 3, 4], []), (9, [3, 0], [160]), (8, [2], [0]), (9, [2, 0], [8])], [], [], [(20, [27, 0], [50, 1, 1, 1158, 1160, 4, 6, 1, 2, 1, 0, 0, 1, 1, 6, 3, 1, 160, 2, 1, 158, 0, 1]), (20, [0, 27], [60, 3, 4, 28, 8, 158, 10, 160, 162, 163, 1])], [], [(24, 23, 1, 1), (18, 19, 0, 0), (17, 16, 0, 0)])
theorem oo_Mo_word_at_s5025_5 {kA : Nat → ClassId} : or_ok PRD kA GG o_Mo_word_at_s5025_5 := by
  refine or_mk fun A ta ws vs hD hth hl => ?_
  intro t0 r0 t2 k2 t3 r3 t4 k4 t5 k5 t6 k6 t7 r7 t8 k8 t9 r9 t10 k10 t11 k11 t12 k12 t14 k14 t15 k15 t16 k16 t17 k17 t18 k18 t19 k19 t21 k21 t22 k22 t23 k23 t24 k24 t25 k25 t26 k26 t27 k27 d0 d1 d2 f0 f1 f2 f3 f4 f5 f6 f7 f8 f9 f10 f11 f12 f13 f14 f15 f16 f17 f18 f19 f20 f21 f22 f23 f24 f25 f26 f27 f28 f29
  replace f7 := shm_107 f7
  replace f8 := shm_286 f8
  replace f9 := shm_301 f9
  replace f18 := shm_107 f18
  replace f22 := shm_107 f22
  replace f23 := shm_107 f23
  replace f24 := shm_1332 f24
  replace f26 := shm_107 f26
  replace f27 := shm_327 f27
  replace f29 := shm_293 f29
  have cr_0_1 := fdq_39 hD hth r0
  have cr_0_160 := fdq_33 hD hth r0
  have cr_0_162 := fdq_41 hD hth r0
  have cr_0_163 := fdq_42 hD hth r0
  have ad_9 : v_ad (n_v vs 9) = w_ar ws (n_v vs 0) 162 := congrArg v_ad f9
  have ad_7 : v_ad (n_v vs 7) = w_ar ws (n_v vs 0) 163 := congrArg v_ad f24
  have ad_3 : v_ad (n_v vs 3) = w_ar ws (n_v vs 0) 160 := congrArg v_ad f27
  simp only [ad_9] at f7
  have h7 : v_iv (n_v vs 23) = w_ei ws (w_ar ws (n_v vs 0) 162) (v_iv (n_v vs 4)) := f7
  have g8 : v_iv (n_v vs 4) = w_fi ws (n_v vs 0) 158 := congrArg v_iv f8
  simp only [ad_9] at f18
  have h18 : v_iv (n_v vs 16) = w_ei ws (w_ar ws (n_v vs 0) 162) (v_iv (n_v vs 4)) := f18
  simp only [ad_9] at f22
  have h22 : v_iv (n_v vs 10) = w_ei ws (w_ar ws (n_v vs 0) 162) (v_iv (n_v vs 4)) := f22
  simp only [ad_7] at f23
  have h23 : v_iv (n_v vs 8) = w_ei ws (w_ar ws (n_v vs 0) 163) (v_iv (n_v vs 4)) := f23
  simp only [ad_3] at f26
  have h26 : v_iv (n_v vs 5) = w_ei ws (w_ar ws (n_v vs 0) 160) (v_iv (n_v vs 4)) := f26
  have g29 : v_iv (n_v vs 2) = w_fi ws (n_v vs 0) 8 := congrArg v_iv f29
  have hK_0_1 := elq_7 hD hth cr_0_1
  have hK_0_160 := elq_6 hD hth cr_0_160
  have hK_0_162 := elq_8 hD hth cr_0_162
  have hK_0_163 := elq_9 hD hth cr_0_163
  have kz_0_8 := fdq_34 hD hth r0
  have kz_0_10 := fdq_43 hD hth r0
  have kz_0_158 := fdq_36 hD hth r0
  have nf0 : fc_1 PRD (20, [27, 0], [50, 1, 1, 1158, 1160, 4, 6, 1, 2, 1, 0, 0, 1, 1, 6, 3, 1, 160, 2, 1, 158, 0, 1]) ws (vs) := ⟨nf_in hl rfl, sgq_287 (vc_Mo_word_at_s5025_5_0 (v_iv (n_v vs 2)) (v_iv (n_v vs 4)) (v_iv (n_v vs 5)) (v_iv (n_v vs 6)) (v_iv (n_v vs 8)) (v_iv (n_v vs 10)) (v_iv (n_v vs 11)) (v_iv (n_v vs 12)) (v_iv (n_v vs 14)) (v_iv (n_v vs 15)) (v_iv (n_v vs 16)) (v_iv (n_v vs 17)) (v_iv (n_v vs 18)) (v_iv (n_v vs 19)) (v_iv (n_v vs 21)) (v_iv (n_v vs 22)) (v_iv (n_v vs 23)) (v_iv (n_v vs 24)) (v_iv (n_v vs 25)) (v_iv (n_v vs 26)) (v_iv (n_v vs 27)) (w_ei ws (w_ar ws (n_v vs 0) 1)) (w_fi ws (n_v vs 0) 10) (w_ei ws (w_ar ws (n_v vs 0) 162)) (w_fi ws (n_v vs 0) 158) (w_ei ws (w_ar ws (n_v vs 0) 163)) (w_ei ws (w_ar ws (n_v vs 0) 160)) (w_fi ws (n_v vs 0) 8) k2 k4 k5 k6 k8 k10 k11 k12 k14 k15 k16 k17 k18 k19 k21 k22 k23 k24 k25 k26 k27 d0 d1 d2 (shm_192 f0) (shm_40 f1) (shm_59 f2) (shm_60 f3) (shm_541 f4) (shm_542 f5) (shm_12 f6) h7 g8 (shm_6 f10) (shm_4 f11) (shm_37 f12) (shm_57 f13) (shm_58 f14) (shm_541 f15) (shm_542 f16) (shm_12 f17) h18 (shm_6 f19) (shm_37 f20) (shm_14 f21) h22 h23 (shm_37 f25) h26 (shm_192 f28) g29 hK_0_1 hK_0_160 hK_0_162 hK_0_163 kz_0_8 kz_0_10 kz_0_158)⟩
  have nf1 : fc_1 PRD (20, [0, 27], [60, 3, 4, 28, 8, 158, 10, 160, 162, 163, 1]) ws (vs) := ⟨nf_in hl rfl, sgq_1869 (vc_Mo_word_at_s5025_5_1 (v_iv (n_v vs 4)) (v_iv (n_v vs 8)) (v_iv (n_v vs 10)) (v_iv (n_v vs 11)) (v_iv (n_v vs 16)) (v_iv (n_v vs 17)) (v_iv (n_v vs 18)) (v_iv (n_v vs 19)) (v_iv (n_v vs 23)) (v_iv (n_v vs 24)) (v_iv (n_v vs 25)) (v_iv (n_v vs 27)) (w_ei ws (w_ar ws (n_v vs 0) 1)) (w_fi ws (n_v vs 0) 10) (w_ei ws (w_ar ws (n_v vs 0) 162)) (w_fi ws (n_v vs 0) 158) (w_ei ws (w_ar ws (n_v vs 0) 163)) (w_ei ws (w_ar ws (n_v vs 0) 160)) (w_fi ws (n_v vs 0) 8) k4 k8 k10 k11 k16 k17 k18 k19 k23 k24 k25 k27 d0 d1 d2 (shm_541 f4) (shm_542 f5) h7 g8 (shm_57 f13) (shm_58 f14) (shm_541 f15) (shm_542 f16) h18 (shm_14 f21) h22 h23 kz_0_8 kz_0_10 kz_0_158)⟩
  refine ⟨(fun _ h => (by cases h)), [], trivial, ?_, (fun _ h => (by cases h))⟩
  rw [List.append_nil]
  exact List.forall_mem_cons.mpr ⟨⟨show (20 : Nat) < 100 from by decide, nf0⟩, List.forall_mem_cons.mpr ⟨⟨show (20 : Nat) < 100 from by decide, nf1⟩, (fun _ h => (by cases h))⟩⟩
set_option maxHeartbeats 4000000 in
theorem vc_Mo_word_at_s5025_6_0 (x2 : Int) (x4 : Int) (x5 : Int) (x6 : Int) (x8 : Int) (x10 : Int) (x11 : Int) (x12 : Int) (x14 : Int) (x15 : Int) (x16 : Int) (x17 : Int) (x18 : Int) (x19 : Int) (x21 : Int) (x22 : Int) (x23 : Int) (x24 : Int) (x25 : Int) (x26 : Int) (x27 : Int) (tape_0 : Int → Int) (limit_0 : Int) (tokenPlace_0 : Int → Int) (cur_0 : Int) (tokenEnd_0 : Int → Int) (tokenKind_0 : Int → Int) (fault_0 : Int) (k2 : 0 ≤ x2 ∧ x2 ≤ 0) (k4 : 0 ≤ x4 ∧ x4 ≤ 2009) (k5 : 1 ≤ x5 ∧ x5 ≤ 1) (k6 : 1 ≤ x6 ∧ x6 ≤ 1) (k8 : 3 ≤ x8 ∧ x8 ≤ 2000) (k10 : 0 ≤ x10 ∧ x10 ≤ 2000) (k11 : 3 ≤ x11 ∧ x11 ≤ 3) (k12 : 3 ≤ x12 ∧ x12 ≤ 3) (k14 : 0 ≤ x14 ∧ x14 ≤ 0) (k15 : 3 ≤ x15 ∧ x15 ≤ 3) (k16 : 0 ≤ x16 ∧ x16 ≤ 1999) (k17 : 0 ≤ x17 ∧ x17 ≤ 1999) (k18 : 0 ≤ x18 ∧ x18 ≤ 255) (k19 : 0 ≤ x19 ∧ x19 ≤ 255) (k21 : 1 ≤ x21 ∧ x21 ≤ 1) (k22 : 3 ≤ x22 ∧ x22 ≤ 3) (k23 : 0 ≤ x23 ∧ x23 ≤ 1998) (k24 : 1 ≤ x24 ∧ x24 ≤ 1999) (k25 : 0 ≤ x25 ∧ x25 ≤ 255) (k26 : 0 ≤ x26 ∧ x26 ≤ 65535) (k27 : 0 ≤ x27 ∧ x27 ≤ 0) (d0 : x23 + 1 ≤ x24 ∧ x24 ≤ x23 + 1) (d1 : x19 + 0 ≤ x18 ∧ x18 ≤ x19 + 0) (d2 : x16 + 0 ≤ x17 ∧ x17 ≤ x16 + 0) (f0 : x27 = 0) (f1 : x25 ≠ x26) (f2 : 1 * x26 + 0 ≤ 101) (f3 : (-1) * x26 + 0 ≤ (-101)) (f4 : ((x24 + 1) ≤ limit_0) → (x25 = (tape_0 (x24) % 256))) (f5 : (limit_0 ≤ x24) → (x25 = (-1))) (f6 : x24 = x23 + x21) (h7 : x23 = tokenPlace_0 (x4)) (g8 : x4 = cur_0) (f10 : x21 < x22) (f11 : x21 = x14 + 1) (f12 : x18 = x19) (f13 : 1 * x19 + 0 ≤ 100) (f14 : (-1) * x19 + 0 ≤ (-100)) (f15 : ((x17 + 1) ≤ limit_0) → (x18 = (tape_0 (x17) % 256))) (f16 : (limit_0 ≤ x17) → (x18 = (-1))) (f17 : x17 = x16 + x14) (h18 : x16 = tokenPlace_0 (x4)) (f19 : x14 < x15) (f20 : x11 = x12) (f21 : x11 = x8 - x10) (h22 : x10 = tokenPlace_0 (x4)) (h23 : x8 = tokenEnd_0 (x4)) (f25 : x5 = x6) (h26 : x5 = tokenKind_0 (x4)) (f28 : x2 = 0) (g29 : x2 = fault_0) (hK_0_1 : ∀ j : Int, 0 ≤ j → j < 2000 → (-128) ≤ tape_0 j ∧ tape_0 j ≤ 127) (hK_0_160 : ∀ j : Int, 0 ≤ j → j < 2010 → 0 ≤ tokenKind_0 j ∧ tokenKind_0 j ≤ 4) (hK_0_162 : ∀ j : Int, 0 ≤ j → j < 2010 → 0 ≤ tokenPlace_0 j ∧ tokenPlace_0 j ≤ 2000) (hK_0_163 : ∀ j : Int, 0 ≤ j → j < 2010 → 0 ≤ tokenEnd_0 j ∧ tokenEnd_0 j ≤ 2000) (kz_0_8 : 0 ≤ fault_0 ∧ fault_0 ≤ 5) (kz_0_10 : 0 ≤ limit_0 ∧ limit_0 ≤ 2000) (kz_0_158 : 0 ≤ cur_0 ∧ cur_0 ≤ 2009) : (x27 = 1) → (tokenKind_0 (cur_0) = 1) := by
  first | assumption | (clear f4 f5 f15 f16 hK_0_1 hK_0_160 hK_0_162 hK_0_163; omega) | (clear hK_0_1 hK_0_160 hK_0_162 hK_0_163; grind) | omega | grind
set_option maxHeartbeats 4000000 in
theorem vc_Mo_word_at_s5025_6_1 (x4 : Int) (x8 : Int) (x10 : Int) (x11 : Int) (x16 : Int) (x17 : Int) (x18 : Int) (x19 : Int) (x23 : Int) (x24 : Int) (x25 : Int) (x26 : Int) (x27 : Int) (tape_0 : Int → Int) (limit_0 : Int) (tokenPlace_0 : Int → Int) (cur_0 : Int) (tokenEnd_0 : Int → Int) (tokenKind_0 : Int → Int) (fault_0 : Int) (k4 : 0 ≤ x4 ∧ x4 ≤ 2009) (k8 : 3 ≤ x8 ∧ x8 ≤ 2000) (k10 : 0 ≤ x10 ∧ x10 ≤ 2000) (k11 : 3 ≤ x11 ∧ x11 ≤ 3) (k16 : 0 ≤ x16 ∧ x16 ≤ 1999) (k17 : 0 ≤ x17 ∧ x17 ≤ 1999) (k18 : 0 ≤ x18 ∧ x18 ≤ 255) (k19 : 0 ≤ x19 ∧ x19 ≤ 255) (k23 : 0 ≤ x23 ∧ x23 ≤ 1998) (k24 : 1 ≤ x24 ∧ x24 ≤ 1999) (k25 : 0 ≤ x25 ∧ x25 ≤ 255) (k26 : 0 ≤ x26 ∧ x26 ≤ 65535) (k27 : 0 ≤ x27 ∧ x27 ≤ 0) (d0 : x23 + 1 ≤ x24 ∧ x24 ≤ x23 + 1) (d1 : x19 + 0 ≤ x18 ∧ x18 ≤ x19 + 0) (d2 : x16 + 0 ≤ x17 ∧ x17 ≤ x16 + 0) (f1 : x25 ≠ x26) (f2 : 1 * x26 + 0 ≤ 101) (f3 : (-1) * x26 + 0 ≤ (-101)) (f4 : ((x24 + 1) ≤ limit_0) → (x25 = (tape_0 (x24) % 256))) (f5 : (limit_0 ≤ x24) → (x25 = (-1))) (h7 : x23 = tokenPlace_0 (x4)) (g8 : x4 = cur_0) (f13 : 1 * x19 + 0 ≤ 100) (f14 : (-1) * x19 + 0 ≤ (-100)) (f15 : ((x17 + 1) ≤ limit_0) → (x18 = (tape_0 (x17) % 256))) (f16 : (limit_0 ≤ x17) → (x18 = (-1))) (h18 : x16 = tokenPlace_0 (x4)) (f21 : x11 = x8 - x10) (h22 : x10 = tokenPlace_0 (x4)) (h23 : x8 = tokenEnd_0 (x4)) (kz_0_8 : 0 ≤ fault_0 ∧ fault_0 ≤ 5) (kz_0_10 : 0 ≤ limit_0 ∧ limit_0 ≤ 2000) (kz_0_158 : 0 ≤ cur_0 ∧ cur_0 ≤ 2009) : Wqdeg (fault_0) (cur_0) (limit_0) (tokenKind_0) (tokenPlace_0) (tokenEnd_0) (tape_0) (x27) := by
  first
    | exact ⟨fun z => by omega, fun z => by have := z.1; omega⟩
    | (have e := (‹x4 = cur_0›)
       rw [← e]
       refine ⟨fun z => ⟨by omega, wdS3.2 ⟨by omega, by omega, by omega, by rw [show tokenPlace_0 x4 + 0 = x17 by omega]; omega, by rw [show tokenPlace_0 x4 + 1 = x24 by omega]; omega, by rw [show tokenPlace_0 x4 + 2 = x31 by omega]; omega⟩⟩, fun z => by omega⟩)
    | (have e := (‹x4 = cur_0›)
       rw [← e]
       refine ⟨fun z => by omega, fun z => ?_⟩
       have w := wdS3.1 z.2
       try (have q0 : tokenPlace_0 x4 + 0 = x17 := (by omega); rw [q0] at w)
       try (have q1 : tokenPlace_0 x4 + 1 = x24 := (by omega); rw [q1] at w)
       try (have q2 : tokenPlace_0 x4 + 2 = x31 := (by omega); rw [q2] at w)
       omega)
  
def o_Mo_word_at_s5025_6 : or_T := (102, 30, [(0, (2, 0, 0, [165])), (2, (0, 0, 0, [])), (3, (2, 0, 0, [274])), (4, (0, 0, 2009, [])), (5, (0, 1, 1, [])), (6, (0, 1, 1, [])), (7, (2, 0, 0, [277])), (8, (0, 3, 2000, [])), (9, (2, 0, 0, [276])), (10, (0, 0, 2000, [])), (11, (0, 3, 3, [])), (12, (0, 3, 3, [])), (14, (0, 0, 0, [])), (15, (0, 3, 3, [])), (16, (0, 0, 1999, [])), (17, (0, 0, 1999, [])), (18, (0, 0, 255, [])), (19, (0, 0, 255, [])), (21, (0, 1, 1, [])), (22, (0, 3, 3, [])), (23, (0, 0, 1998, [])), (24, (0, 1, 1999, [])), (25, (0, 0, 255, [])), (26, (0, 0, 65535, [])), (27, (0, 0, 0, []))], [(8, [27], [0]), (7, [25, 26], [1]), (23, [26], [101, 1]), (23, [26], [-101, -1]), (20, [24, 0, 25], [50, 1, 1, 1010, 1001, 4, 11, 0, 6, 4, 2, 1, 0, 0, 1, 2, 1, 10, 1, 2, 1, 2, 9, 5, 3, 1, 1, 1, 0, 0, 256]), (20, [0, 24, 25], [50, 1, 0, 10, 4, 7, 0, 3, 2, 0, 10, 1, 1, 1, 2, 1, 2, 0, -1]), (1, [24, 23, 21], []), (10, [23, 9, 4], []), (9, [4, 0], [158]), (9, [9, 0], [162]), (7, [21, 22], [2]), (6, [21, 14], [1]), (7, [18, 19], [0]), (23, [19], [100, 1]), (23, [19], [-100, -1]), (20, [17, 0, 18], [50, 1, 1, 1010, 1001, 4, 11, 0, 6, 4, 2, 1, 0, 0, 1, 2, 1, 10, 1, 2, 1, 2, 9, 5, 3, 1, 1, 1, 0, 0, 256]), (20, [0, 17, 18], [50, 1, 0, 10, 4, 7, 0, 3, 2, 0, 10, 1, 1, 1, 2, 1, 2, 0, -1]), (1, [17, 16, 14], []), (10, [16, 9, 4], []), (7, [14, 15], [2]), (7, [11, 12], [0]), (2, [11, 8, 10], []), (10, [10, 9, 4], []), (10, [8, 7, 4], []), (9, [7, 0], [163]), (7, [5, 6], [0]), (10, [5, 3, 4], []), (9, [3, 0], [160]), (8, [2], [0]), (9, [2, 0], [8])], [], [], [(20, [27, 0], [50, 1, 1, 1158, 1160, 4, 6, 1, 2, 1, 0, 0, 1, 1, 6, 3, 1, 160, 2, 1, 158, 0, 1]), (20, [0, 27], [60, 3, 4, 28, 8, 158, 10, 160, 162, 163, 1])], [], [(24, 23, 1, 1), (18, 19, 0, 0), (17, 16, 0, 0)])
theorem oo_Mo_word_at_s5025_6 {kA : Nat → ClassId} : or_ok PRD kA GG o_Mo_word_at_s5025_6 := by
  refine or_mk fun A ta ws vs hD hth hl => ?_
  intro t0 r0 t2 k2 t3 r3 t4 k4 t5 k5 t6 k6 t7 r7 t8 k8 t9 r9 t10 k10 t11 k11 t12 k12 t14 k14 t15 k15 t16 k16 t17 k17 t18 k18 t19 k19 t21 k21 t22 k22 t23 k23 t24 k24 t25 k25 t26 k26 t27 k27 d0 d1 d2 f0 f1 f2 f3 f4 f5 f6 f7 f8 f9 f10 f11 f12 f13 f14 f15 f16 f17 f18 f19 f20 f21 f22 f23 f24 f25 f26 f27 f28 f29
  replace f7 := shm_107 f7
  replace f8 := shm_286 f8
  replace f9 := shm_301 f9
  replace f18 := shm_107 f18
  replace f22 := shm_107 f22
  replace f23 := shm_107 f23
  replace f24 := shm_1332 f24
  replace f26 := shm_107 f26
  replace f27 := shm_327 f27
  replace f29 := shm_293 f29
  have cr_0_1 := fdq_39 hD hth r0
  have cr_0_160 := fdq_33 hD hth r0
  have cr_0_162 := fdq_41 hD hth r0
  have cr_0_163 := fdq_42 hD hth r0
  have ad_9 : v_ad (n_v vs 9) = w_ar ws (n_v vs 0) 162 := congrArg v_ad f9
  have ad_7 : v_ad (n_v vs 7) = w_ar ws (n_v vs 0) 163 := congrArg v_ad f24
  have ad_3 : v_ad (n_v vs 3) = w_ar ws (n_v vs 0) 160 := congrArg v_ad f27
  simp only [ad_9] at f7
  have h7 : v_iv (n_v vs 23) = w_ei ws (w_ar ws (n_v vs 0) 162) (v_iv (n_v vs 4)) := f7
  have g8 : v_iv (n_v vs 4) = w_fi ws (n_v vs 0) 158 := congrArg v_iv f8
  simp only [ad_9] at f18
  have h18 : v_iv (n_v vs 16) = w_ei ws (w_ar ws (n_v vs 0) 162) (v_iv (n_v vs 4)) := f18
  simp only [ad_9] at f22
  have h22 : v_iv (n_v vs 10) = w_ei ws (w_ar ws (n_v vs 0) 162) (v_iv (n_v vs 4)) := f22
  simp only [ad_7] at f23
  have h23 : v_iv (n_v vs 8) = w_ei ws (w_ar ws (n_v vs 0) 163) (v_iv (n_v vs 4)) := f23
  simp only [ad_3] at f26
  have h26 : v_iv (n_v vs 5) = w_ei ws (w_ar ws (n_v vs 0) 160) (v_iv (n_v vs 4)) := f26
  have g29 : v_iv (n_v vs 2) = w_fi ws (n_v vs 0) 8 := congrArg v_iv f29
  have hK_0_1 := elq_7 hD hth cr_0_1
  have hK_0_160 := elq_6 hD hth cr_0_160
  have hK_0_162 := elq_8 hD hth cr_0_162
  have hK_0_163 := elq_9 hD hth cr_0_163
  have kz_0_8 := fdq_34 hD hth r0
  have kz_0_10 := fdq_43 hD hth r0
  have kz_0_158 := fdq_36 hD hth r0
  have nf0 : fc_1 PRD (20, [27, 0], [50, 1, 1, 1158, 1160, 4, 6, 1, 2, 1, 0, 0, 1, 1, 6, 3, 1, 160, 2, 1, 158, 0, 1]) ws (vs) := ⟨nf_in hl rfl, sgq_287 (vc_Mo_word_at_s5025_6_0 (v_iv (n_v vs 2)) (v_iv (n_v vs 4)) (v_iv (n_v vs 5)) (v_iv (n_v vs 6)) (v_iv (n_v vs 8)) (v_iv (n_v vs 10)) (v_iv (n_v vs 11)) (v_iv (n_v vs 12)) (v_iv (n_v vs 14)) (v_iv (n_v vs 15)) (v_iv (n_v vs 16)) (v_iv (n_v vs 17)) (v_iv (n_v vs 18)) (v_iv (n_v vs 19)) (v_iv (n_v vs 21)) (v_iv (n_v vs 22)) (v_iv (n_v vs 23)) (v_iv (n_v vs 24)) (v_iv (n_v vs 25)) (v_iv (n_v vs 26)) (v_iv (n_v vs 27)) (w_ei ws (w_ar ws (n_v vs 0) 1)) (w_fi ws (n_v vs 0) 10) (w_ei ws (w_ar ws (n_v vs 0) 162)) (w_fi ws (n_v vs 0) 158) (w_ei ws (w_ar ws (n_v vs 0) 163)) (w_ei ws (w_ar ws (n_v vs 0) 160)) (w_fi ws (n_v vs 0) 8) k2 k4 k5 k6 k8 k10 k11 k12 k14 k15 k16 k17 k18 k19 k21 k22 k23 k24 k25 k26 k27 d0 d1 d2 (shm_192 f0) (shm_40 f1) (shm_59 f2) (shm_60 f3) (shm_541 f4) (shm_542 f5) (shm_12 f6) h7 g8 (shm_6 f10) (shm_4 f11) (shm_37 f12) (shm_57 f13) (shm_58 f14) (shm_541 f15) (shm_542 f16) (shm_12 f17) h18 (shm_6 f19) (shm_37 f20) (shm_14 f21) h22 h23 (shm_37 f25) h26 (shm_192 f28) g29 hK_0_1 hK_0_160 hK_0_162 hK_0_163 kz_0_8 kz_0_10 kz_0_158)⟩
  have nf1 : fc_1 PRD (20, [0, 27], [60, 3, 4, 28, 8, 158, 10, 160, 162, 163, 1]) ws (vs) := ⟨nf_in hl rfl, sgq_1869 (vc_Mo_word_at_s5025_6_1 (v_iv (n_v vs 4)) (v_iv (n_v vs 8)) (v_iv (n_v vs 10)) (v_iv (n_v vs 11)) (v_iv (n_v vs 16)) (v_iv (n_v vs 17)) (v_iv (n_v vs 18)) (v_iv (n_v vs 19)) (v_iv (n_v vs 23)) (v_iv (n_v vs 24)) (v_iv (n_v vs 25)) (v_iv (n_v vs 26)) (v_iv (n_v vs 27)) (w_ei ws (w_ar ws (n_v vs 0) 1)) (w_fi ws (n_v vs 0) 10) (w_ei ws (w_ar ws (n_v vs 0) 162)) (w_fi ws (n_v vs 0) 158) (w_ei ws (w_ar ws (n_v vs 0) 163)) (w_ei ws (w_ar ws (n_v vs 0) 160)) (w_fi ws (n_v vs 0) 8) k4 k8 k10 k11 k16 k17 k18 k19 k23 k24 k25 k26 k27 d0 d1 d2 (shm_40 f1) (shm_59 f2) (shm_60 f3) (shm_541 f4) (shm_542 f5) h7 g8 (shm_57 f13) (shm_58 f14) (shm_541 f15) (shm_542 f16) h18 (shm_14 f21) h22 h23 kz_0_8 kz_0_10 kz_0_158)⟩
  refine ⟨(fun _ h => (by cases h)), [], trivial, ?_, (fun _ h => (by cases h))⟩
  rw [List.append_nil]
  exact List.forall_mem_cons.mpr ⟨⟨show (20 : Nat) < 100 from by decide, nf0⟩, List.forall_mem_cons.mpr ⟨⟨show (20 : Nat) < 100 from by decide, nf1⟩, (fun _ h => (by cases h))⟩⟩
set_option maxHeartbeats 4000000 in
theorem vc_Mo_word_at_s5025_7_0 (x2 : Int) (x4 : Int) (x5 : Int) (x6 : Int) (x8 : Int) (x10 : Int) (x11 : Int) (x12 : Int) (x14 : Int) (x15 : Int) (x16 : Int) (x17 : Int) (x18 : Int) (x19 : Int) (x21 : Int) (x22 : Int) (x23 : Int) (x24 : Int) (x25 : Int) (x26 : Int) (x28 : Int) (x29 : Int) (x30 : Int) (x31 : Int) (x32 : Int) (x33 : Int) (x34 : Int) (tape_0 : Int → Int) (limit_0 : Int) (tokenPlace_0 : Int → Int) (cur_0 : Int) (tokenEnd_0 : Int → Int) (tokenKind_0 : Int → Int) (fault_0 : Int) (k2 : 0 ≤ x2 ∧ x2 ≤ 0) (k4 : 0 ≤ x4 ∧ x4 ≤ 2009) (k5 : 1 ≤ x5 ∧ x5 ≤ 1) (k6 : 1 ≤ x6 ∧ x6 ≤ 1) (k8 : 3 ≤ x8 ∧ x8 ≤ 2000) (k10 : 0 ≤ x10 ∧ x10 ≤ 2000) (k11 : 3 ≤ x11 ∧ x11 ≤ 3) (k12 : 3 ≤ x12 ∧ x12 ≤ 3) (k14 : 0 ≤ x14 ∧ x14 ≤ 0) (k15 : 3 ≤ x15 ∧ x15 ≤ 3) (k16 : 0 ≤ x16 ∧ x16 ≤ 1999) (k17 : 0 ≤ x17 ∧ x17 ≤ 1999) (k18 : 0 ≤ x18 ∧ x18 ≤ 255) (k19 : 0 ≤ x19 ∧ x19 ≤ 255) (k21 : 1 ≤ x21 ∧ x21 ≤ 1) (k22 : 3 ≤ x22 ∧ x22 ≤ 3) (k23 : 0 ≤ x23 ∧ x23 ≤ 1998) (k24 : 1 ≤ x24 ∧ x24 ≤ 1999) (k25 : 0 ≤ x25 ∧ x25 ≤ 255) (k26 : 0 ≤ x26 ∧ x26 ≤ 255) (k28 : 2 ≤ x28 ∧ x28 ≤ 2) (k29 : 3 ≤ x29 ∧ x29 ≤ 3) (k30 : 0 ≤ x30 ∧ x30 ≤ 2000) (k31 : 2 ≤ x31 ∧ x31 ≤ 2002) (k32 : (-1) ≤ x32 ∧ x32 ≤ (-1)) (k33 : 0 ≤ x33 ∧ x33 ≤ 65535) (k34 : 0 ≤ x34 ∧ x34 ≤ 0) (d0 : x30 + 2 ≤ x31 ∧ x31 ≤ x30 + 2) (d1 : x26 + 0 ≤ x25 ∧ x25 ≤ x26 + 0) (d2 : x23 + 1 ≤ x24 ∧ x24 ≤ x23 + 1) (d3 : x19 + 0 ≤ x18 ∧ x18 ≤ x19 + 0) (d4 : x16 + 0 ≤ x17 ∧ x17 ≤ x16 + 0) (f0 : x32 ≠ x33) (f1 : 1 * x33 + 0 ≤ 103) (f2 : (-1) * x33 + 0 ≤ (-103)) (f3 : ((x31 + 1) ≤ limit_0) → (x32 = (tape_0 (x31) % 256))) (f4 : (limit_0 ≤ x31) → (x32 = (-1))) (f5 : x31 = x30 + x28) (h6 : x30 = tokenPlace_0 (x4)) (g7 : x4 = cur_0) (f9 : x28 < x29) (f10 : x28 = x21 + 1) (f11 : x25 = x26) (f12 : 1 * x26 + 0 ≤ 101) (f13 : (-1) * x26 + 0 ≤ (-101)) (f14 : ((x24 + 1) ≤ limit_0) → (x25 = (tape_0 (x24) % 256))) (f15 : (limit_0 ≤ x24) → (x25 = (-1))) (f16 : x24 = x23 + x21) (h17 : x23 = tokenPlace_0 (x4)) (f18 : x21 < x22) (f19 : x21 = x14 + 1) (f20 : x18 = x19) (f21 : 1 * x19 + 0 ≤ 100) (f22 : (-1) * x19 + 0 ≤ (-100)) (f23 : ((x17 + 1) ≤ limit_0) → (x18 = (tape_0 (x17) % 256))) (f24 : (limit_0 ≤ x17) → (x18 = (-1))) (f25 : x17 = x16 + x14) (h26 : x16 = tokenPlace_0 (x4)) (f27 : x14 < x15) (f28 : x11 = x12) (f29 : x11 = x8 - x10) (h30 : x10 = tokenPlace_0 (x4)) (h31 : x8 = tokenEnd_0 (x4)) (f33 : x5 = x6) (h34 : x5 = tokenKind_0 (x4)) (f36 : x2 = 0) (g37 : x2 = fault_0) (hK_0_1 : ∀ j : Int, 0 ≤ j → j < 2000 → (-128) ≤ tape_0 j ∧ tape_0 j ≤ 127) (hK_0_160 : ∀ j : Int, 0 ≤ j → j < 2010 → 0 ≤ tokenKind_0 j ∧ tokenKind_0 j ≤ 4) (hK_0_162 : ∀ j : Int, 0 ≤ j → j < 2010 → 0 ≤ tokenPlace_0 j ∧ tokenPlace_0 j ≤ 2000) (hK_0_163 : ∀ j : Int, 0 ≤ j → j < 2010 → 0 ≤ tokenEnd_0 j ∧ tokenEnd_0 j ≤ 2000) (kz_0_8 : 0 ≤ fault_0 ∧ fault_0 ≤ 5) (kz_0_10 : 0 ≤ limit_0 ∧ limit_0 ≤ 2000) (kz_0_158 : 0 ≤ cur_0 ∧ cur_0 ≤ 2009) : (x34 = 1) → (tokenKind_0 (cur_0) = 1) := by
  first | assumption | (clear f3 f4 f14 f15 f23 f24 hK_0_1 hK_0_160 hK_0_162 hK_0_163; omega) | (clear hK_0_1 hK_0_160 hK_0_162 hK_0_163; grind) | omega | grind
set_option maxHeartbeats 4000000 in
theorem vc_Mo_word_at_s5025_7_1 (x4 : Int) (x8 : Int) (x10 : Int) (x11 : Int) (x16 : Int) (x17 : Int) (x18 : Int) (x19 : Int) (x23 : Int) (x24 : Int) (x25 : Int) (x26 : Int) (x30 : Int) (x31 : Int) (x32 : Int) (x34 : Int) (tape_0 : Int → Int) (limit_0 : Int) (tokenPlace_0 : Int → Int) (cur_0 : Int) (tokenEnd_0 : Int → Int) (tokenKind_0 : Int → Int) (fault_0 : Int) (k4 : 0 ≤ x4 ∧ x4 ≤ 2009) (k8 : 3 ≤ x8 ∧ x8 ≤ 2000) (k10 : 0 ≤ x10 ∧ x10 ≤ 2000) (k11 : 3 ≤ x11 ∧ x11 ≤ 3) (k16 : 0 ≤ x16 ∧ x16 ≤ 1999) (k17 : 0 ≤ x17 ∧ x17 ≤ 1999) (k18 : 0 ≤ x18 ∧ x18 ≤ 255) (k19 : 0 ≤ x19 ∧ x19 ≤ 255) (k23 : 0 ≤ x23 ∧ x23 ≤ 1998) (k24 : 1 ≤ x24 ∧ x24 ≤ 1999) (k25 : 0 ≤ x25 ∧ x25 ≤ 255) (k26 : 0 ≤ x26 ∧ x26 ≤ 255) (k30 : 0 ≤ x30 ∧ x30 ≤ 2000) (k31 : 2 ≤ x31 ∧ x31 ≤ 2002) (k32 : (-1) ≤ x32 ∧ x32 ≤ (-1)) (k34 : 0 ≤ x34 ∧ x34 ≤ 0) (d0 : x30 + 2 ≤ x31 ∧ x31 ≤ x30 + 2) (d1 : x26 + 0 ≤ x25 ∧ x25 ≤ x26 + 0) (d2 : x23 + 1 ≤ x24 ∧ x24 ≤ x23 + 1) (d3 : x19 + 0 ≤ x18 ∧ x18 ≤ x19 + 0) (d4 : x16 + 0 ≤ x17 ∧ x17 ≤ x16 + 0) (f3 : ((x31 + 1) ≤ limit_0) → (x32 = (tape_0 (x31) % 256))) (f4 : (limit_0 ≤ x31) → (x32 = (-1))) (h6 : x30 = tokenPlace_0 (x4)) (g7 : x4 = cur_0) (f12 : 1 * x26 + 0 ≤ 101) (f13 : (-1) * x26 + 0 ≤ (-101)) (f14 : ((x24 + 1) ≤ limit_0) → (x25 = (tape_0 (x24) % 256))) (f15 : (limit_0 ≤ x24) → (x25 = (-1))) (h17 : x23 = tokenPlace_0 (x4)) (f21 : 1 * x19 + 0 ≤ 100) (f22 : (-1) * x19 + 0 ≤ (-100)) (f23 : ((x17 + 1) ≤ limit_0) → (x18 = (tape_0 (x17) % 256))) (f24 : (limit_0 ≤ x17) → (x18 = (-1))) (h26 : x16 = tokenPlace_0 (x4)) (f29 : x11 = x8 - x10) (h30 : x10 = tokenPlace_0 (x4)) (h31 : x8 = tokenEnd_0 (x4)) (kz_0_8 : 0 ≤ fault_0 ∧ fault_0 ≤ 5) (kz_0_10 : 0 ≤ limit_0 ∧ limit_0 ≤ 2000) (kz_0_158 : 0 ≤ cur_0 ∧ cur_0 ≤ 2009) : Wqdeg (fault_0) (cur_0) (limit_0) (tokenKind_0) (tokenPlace_0) (tokenEnd_0) (tape_0) (x34) := by
  first
    | exact ⟨fun z => by omega, fun z => by have := z.1; omega⟩
    | (have e := (‹x4 = cur_0›)
       rw [← e]
       refine ⟨fun z => ⟨by omega, wdS3.2 ⟨by omega, by omega, by omega, by rw [show tokenPlace_0 x4 + 0 = x17 by omega]; omega, by rw [show tokenPlace_0 x4 + 1 = x24 by omega]; omega, by rw [show tokenPlace_0 x4 + 2 = x31 by omega]; omega⟩⟩, fun z => by omega⟩)
    | (have e := (‹x4 = cur_0›)
       rw [← e]
       refine ⟨fun z => by omega, fun z => ?_⟩
       have w := wdS3.1 z.2
       try (have q0 : tokenPlace_0 x4 + 0 = x17 := (by omega); rw [q0] at w)
       try (have q1 : tokenPlace_0 x4 + 1 = x24 := (by omega); rw [q1] at w)
       try (have q2 : tokenPlace_0 x4 + 2 = x31 := (by omega); rw [q2] at w)
       omega)
  
def o_Mo_word_at_s5025_7 : or_T := (102, 37, [(0, (2, 0, 0, [165])), (2, (0, 0, 0, [])), (3, (2, 0, 0, [274])), (4, (0, 0, 2009, [])), (5, (0, 1, 1, [])), (6, (0, 1, 1, [])), (7, (2, 0, 0, [277])), (8, (0, 3, 2000, [])), (9, (2, 0, 0, [276])), (10, (0, 0, 2000, [])), (11, (0, 3, 3, [])), (12, (0, 3, 3, [])), (14, (0, 0, 0, [])), (15, (0, 3, 3, [])), (16, (0, 0, 1999, [])), (17, (0, 0, 1999, [])), (18, (0, 0, 255, [])), (19, (0, 0, 255, [])), (21, (0, 1, 1, [])), (22, (0, 3, 3, [])), (23, (0, 0, 1998, [])), (24, (0, 1, 1999, [])), (25, (0, 0, 255, [])), (26, (0, 0, 255, [])), (28, (0, 2, 2, [])), (29, (0, 3, 3, [])), (30, (0, 0, 2000, [])), (31, (0, 2, 2002, [])), (32, (0, -1, -1, [])), (33, (0, 0, 65535, [])), (34, (0, 0, 0, []))], [(7, [32, 33], [1]), (23, [33], [103, 1]), (23, [33], [-103, -1]), (20, [31, 0, 32], [50, 1, 1, 1010, 1001, 4, 11, 0, 6, 4, 2, 1, 0, 0, 1, 2, 1, 10, 1, 2, 1, 2, 9, 5, 3, 1, 1, 1, 0, 0, 256]), (20, [0, 31, 32], [50, 1, 0, 10, 4, 7, 0, 3, 2, 0, 10, 1, 1, 1, 2, 1, 2, 0, -1]), (1, [31, 30, 28], []), (10, [30, 9, 4], []), (9, [4, 0], [158]), (9, [9, 0], [162]), (7, [28, 29], [2]), (6, [28, 21], [1]), (7, [25, 26], [0]), (23, [26], [101, 1]), (23, [26], [-101, -1]), (20, [24, 0, 25], [50, 1, 1, 1010, 1001, 4, 11, 0, 6, 4, 2, 1, 0, 0, 1, 2, 1, 10, 1, 2, 1, 2, 9, 5, 3, 1, 1, 1, 0, 0, 256]), (20, [0, 24, 25], [50, 1, 0, 10, 4, 7, 0, 3, 2, 0, 10, 1, 1, 1, 2, 1, 2, 0, -1]), (1, [24, 23, 21], []), (10, [23, 9, 4], []), (7, [21, 22], [2]), (6, [21, 14], [1]), (7, [18, 19], [0]), (23, [19], [100, 1]), (23, [19], [-100, -1]), (20, [17, 0, 18], [50, 1, 1, 1010, 1001, 4, 11, 0, 6, 4, 2, 1, 0, 0, 1, 2, 1, 10, 1, 2, 1, 2, 9, 5, 3, 1, 1, 1, 0, 0, 256]), (20, [0, 17, 18], [50, 1, 0, 10, 4, 7, 0, 3, 2, 0, 10, 1, 1, 1, 2, 1, 2, 0, -1]), (1, [17, 16, 14], []), (10, [16, 9, 4], []), (7, [14, 15], [2]), (7, [11, 12], [0]), (2, [11, 8, 10], []), (10, [10, 9, 4], []), (10, [8, 7, 4], []), (9, [7, 0], [163]), (7, [5, 6], [0]), (10, [5, 3, 4], []), (9, [3, 0], [160]), (8, [2], [0]), (9, [2, 0], [8])], [], [], [(20, [34, 0], [50, 1, 1, 1158, 1160, 4, 6, 1, 2, 1, 0, 0, 1, 1, 6, 3, 1, 160, 2, 1, 158, 0, 1]), (20, [0, 34], [60, 3, 4, 28, 8, 158, 10, 160, 162, 163, 1])], [], [(31, 30, 2, 2), (25, 26, 0, 0), (24, 23, 1, 1), (18, 19, 0, 0), (17, 16, 0, 0)])
theorem oo_Mo_word_at_s5025_7 {kA : Nat → ClassId} : or_ok PRD kA GG o_Mo_word_at_s5025_7 := by
  refine or_mk fun A ta ws vs hD hth hl => ?_
  intro t0 r0 t2 k2 t3 r3 t4 k4 t5 k5 t6 k6 t7 r7 t8 k8 t9 r9 t10 k10 t11 k11 t12 k12 t14 k14 t15 k15 t16 k16 t17 k17 t18 k18 t19 k19 t21 k21 t22 k22 t23 k23 t24 k24 t25 k25 t26 k26 t28 k28 t29 k29 t30 k30 t31 k31 t32 k32 t33 k33 t34 k34 d0 d1 d2 d3 d4 f0 f1 f2 f3 f4 f5 f6 f7 f8 f9 f10 f11 f12 f13 f14 f15 f16 f17 f18 f19 f20 f21 f22 f23 f24 f25 f26 f27 f28 f29 f30 f31 f32 f33 f34 f35 f36 f37
  replace f6 := shm_107 f6
  replace f7 := shm_286 f7
  replace f8 := shm_301 f8
  replace f17 := shm_107 f17
  replace f26 := shm_107 f26
  replace f30 := shm_107 f30
  replace f31 := shm_107 f31
  replace f32 := shm_1332 f32
  replace f34 := shm_107 f34
  replace f35 := shm_327 f35
  replace f37 := shm_293 f37
  have cr_0_1 := fdq_39 hD hth r0
  have cr_0_160 := fdq_33 hD hth r0
  have cr_0_162 := fdq_41 hD hth r0
  have cr_0_163 := fdq_42 hD hth r0
  have ad_9 : v_ad (n_v vs 9) = w_ar ws (n_v vs 0) 162 := congrArg v_ad f8
  have ad_7 : v_ad (n_v vs 7) = w_ar ws (n_v vs 0) 163 := congrArg v_ad f32
  have ad_3 : v_ad (n_v vs 3) = w_ar ws (n_v vs 0) 160 := congrArg v_ad f35
  simp only [ad_9] at f6
  have h6 : v_iv (n_v vs 30) = w_ei ws (w_ar ws (n_v vs 0) 162) (v_iv (n_v vs 4)) := f6
  have g7 : v_iv (n_v vs 4) = w_fi ws (n_v vs 0) 158 := congrArg v_iv f7
  simp only [ad_9] at f17
  have h17 : v_iv (n_v vs 23) = w_ei ws (w_ar ws (n_v vs 0) 162) (v_iv (n_v vs 4)) := f17
  simp only [ad_9] at f26
  have h26 : v_iv (n_v vs 16) = w_ei ws (w_ar ws (n_v vs 0) 162) (v_iv (n_v vs 4)) := f26
  simp only [ad_9] at f30
  have h30 : v_iv (n_v vs 10) = w_ei ws (w_ar ws (n_v vs 0) 162) (v_iv (n_v vs 4)) := f30
  simp only [ad_7] at f31
  have h31 : v_iv (n_v vs 8) = w_ei ws (w_ar ws (n_v vs 0) 163) (v_iv (n_v vs 4)) := f31
  simp only [ad_3] at f34
  have h34 : v_iv (n_v vs 5) = w_ei ws (w_ar ws (n_v vs 0) 160) (v_iv (n_v vs 4)) := f34
  have g37 : v_iv (n_v vs 2) = w_fi ws (n_v vs 0) 8 := congrArg v_iv f37
  have hK_0_1 := elq_7 hD hth cr_0_1
  have hK_0_160 := elq_6 hD hth cr_0_160
  have hK_0_162 := elq_8 hD hth cr_0_162
  have hK_0_163 := elq_9 hD hth cr_0_163
  have kz_0_8 := fdq_34 hD hth r0
  have kz_0_10 := fdq_43 hD hth r0
  have kz_0_158 := fdq_36 hD hth r0
  have nf0 : fc_1 PRD (20, [34, 0], [50, 1, 1, 1158, 1160, 4, 6, 1, 2, 1, 0, 0, 1, 1, 6, 3, 1, 160, 2, 1, 158, 0, 1]) ws (vs) := ⟨nf_in hl rfl, sgq_287 (vc_Mo_word_at_s5025_7_0 (v_iv (n_v vs 2)) (v_iv (n_v vs 4)) (v_iv (n_v vs 5)) (v_iv (n_v vs 6)) (v_iv (n_v vs 8)) (v_iv (n_v vs 10)) (v_iv (n_v vs 11)) (v_iv (n_v vs 12)) (v_iv (n_v vs 14)) (v_iv (n_v vs 15)) (v_iv (n_v vs 16)) (v_iv (n_v vs 17)) (v_iv (n_v vs 18)) (v_iv (n_v vs 19)) (v_iv (n_v vs 21)) (v_iv (n_v vs 22)) (v_iv (n_v vs 23)) (v_iv (n_v vs 24)) (v_iv (n_v vs 25)) (v_iv (n_v vs 26)) (v_iv (n_v vs 28)) (v_iv (n_v vs 29)) (v_iv (n_v vs 30)) (v_iv (n_v vs 31)) (v_iv (n_v vs 32)) (v_iv (n_v vs 33)) (v_iv (n_v vs 34)) (w_ei ws (w_ar ws (n_v vs 0) 1)) (w_fi ws (n_v vs 0) 10) (w_ei ws (w_ar ws (n_v vs 0) 162)) (w_fi ws (n_v vs 0) 158) (w_ei ws (w_ar ws (n_v vs 0) 163)) (w_ei ws (w_ar ws (n_v vs 0) 160)) (w_fi ws (n_v vs 0) 8) k2 k4 k5 k6 k8 k10 k11 k12 k14 k15 k16 k17 k18 k19 k21 k22 k23 k24 k25 k26 k28 k29 k30 k31 k32 k33 k34 d0 d1 d2 d3 d4 (shm_40 f0) (shm_61 f1) (shm_62 f2) (shm_541 f3) (shm_542 f4) (shm_12 f5) h6 g7 (shm_6 f9) (shm_4 f10) (shm_37 f11) (shm_59 f12) (shm_60 f13) (shm_541 f14) (shm_542 f15) (shm_12 f16) h17 (shm_6 f18) (shm_4 f19) (shm_37 f20) (shm_57 f21) (shm_58 f22) (shm_541 f23) (shm_542 f24) (shm_12 f25) h26 (shm_6 f27) (shm_37 f28) (shm_14 f29) h30 h31 (shm_37 f33) h34 (shm_192 f36) g37 hK_0_1 hK_0_160 hK_0_162 hK_0_163 kz_0_8 kz_0_10 kz_0_158)⟩
  have nf1 : fc_1 PRD (20, [0, 34], [60, 3, 4, 28, 8, 158, 10, 160, 162, 163, 1]) ws (vs) := ⟨nf_in hl rfl, sgq_1869 (vc_Mo_word_at_s5025_7_1 (v_iv (n_v vs 4)) (v_iv (n_v vs 8)) (v_iv (n_v vs 10)) (v_iv (n_v vs 11)) (v_iv (n_v vs 16)) (v_iv (n_v vs 17)) (v_iv (n_v vs 18)) (v_iv (n_v vs 19)) (v_iv (n_v vs 23)) (v_iv (n_v vs 24)) (v_iv (n_v vs 25)) (v_iv (n_v vs 26)) (v_iv (n_v vs 30)) (v_iv (n_v vs 31)) (v_iv (n_v vs 32)) (v_iv (n_v vs 34)) (w_ei ws (w_ar ws (n_v vs 0) 1)) (w_fi ws (n_v vs 0) 10) (w_ei ws (w_ar ws (n_v vs 0) 162)) (w_fi ws (n_v vs 0) 158) (w_ei ws (w_ar ws (n_v vs 0) 163)) (w_ei ws (w_ar ws (n_v vs 0) 160)) (w_fi ws (n_v vs 0) 8) k4 k8 k10 k11 k16 k17 k18 k19 k23 k24 k25 k26 k30 k31 k32 k34 d0 d1 d2 d3 d4 (shm_541 f3) (shm_542 f4) h6 g7 (shm_59 f12) (shm_60 f13) (shm_541 f14) (shm_542 f15) h17 (shm_57 f21) (shm_58 f22) (shm_541 f23) (shm_542 f24) h26 (shm_14 f29) h30 h31 kz_0_8 kz_0_10 kz_0_158)⟩
  refine ⟨(fun _ h => (by cases h)), [], trivial, ?_, (fun _ h => (by cases h))⟩
  rw [List.append_nil]
  exact List.forall_mem_cons.mpr ⟨⟨show (20 : Nat) < 100 from by decide, nf0⟩, List.forall_mem_cons.mpr ⟨⟨show (20 : Nat) < 100 from by decide, nf1⟩, (fun _ h => (by cases h))⟩⟩
set_option maxHeartbeats 4000000 in
theorem vc_Mo_word_at_s5025_8_0 (x2 : Int) (x4 : Int) (x5 : Int) (x6 : Int) (x8 : Int) (x10 : Int) (x11 : Int) (x12 : Int) (x14 : Int) (x15 : Int) (x16 : Int) (x17 : Int) (x18 : Int) (x19 : Int) (x21 : Int) (x22 : Int) (x23 : Int) (x24 : Int) (x25 : Int) (x26 : Int) (x28 : Int) (x29 : Int) (x30 : Int) (x31 : Int) (x32 : Int) (x33 : Int) (x34 : Int) (tape_0 : Int → Int) (limit_0 : Int) (tokenPlace_0 : Int → Int) (cur_0 : Int) (tokenEnd_0 : Int → Int) (tokenKind_0 : Int → Int) (fault_0 : Int) (k2 : 0 ≤ x2 ∧ x2 ≤ 0) (k4 : 0 ≤ x4 ∧ x4 ≤ 2009) (k5 : 1 ≤ x5 ∧ x5 ≤ 1) (k6 : 1 ≤ x6 ∧ x6 ≤ 1) (k8 : 3 ≤ x8 ∧ x8 ≤ 2000) (k10 : 0 ≤ x10 ∧ x10 ≤ 2000) (k11 : 3 ≤ x11 ∧ x11 ≤ 3) (k12 : 3 ≤ x12 ∧ x12 ≤ 3) (k14 : 0 ≤ x14 ∧ x14 ≤ 0) (k15 : 3 ≤ x15 ∧ x15 ≤ 3) (k16 : 0 ≤ x16 ∧ x16 ≤ 1999) (k17 : 0 ≤ x17 ∧ x17 ≤ 1999) (k18 : 0 ≤ x18 ∧ x18 ≤ 255) (k19 : 0 ≤ x19 ∧ x19 ≤ 255) (k21 : 1 ≤ x21 ∧ x21 ≤ 1) (k22 : 3 ≤ x22 ∧ x22 ≤ 3) (k23 : 0 ≤ x23 ∧ x23 ≤ 1998) (k24 : 1 ≤ x24 ∧ x24 ≤ 1999) (k25 : 0 ≤ x25 ∧ x25 ≤ 255) (k26 : 0 ≤ x26 ∧ x26 ≤ 255) (k28 : 2 ≤ x28 ∧ x28 ≤ 2) (k29 : 3 ≤ x29 ∧ x29 ≤ 3) (k30 : 0 ≤ x30 ∧ x30 ≤ 1997) (k31 : 2 ≤ x31 ∧ x31 ≤ 1999) (k32 : 0 ≤ x32 ∧ x32 ≤ 255) (k33 : 0 ≤ x33 ∧ x33 ≤ 65535) (k34 : 0 ≤ x34 ∧ x34 ≤ 0) (d0 : x30 + 2 ≤ x31 ∧ x31 ≤ x30 + 2) (d1 : x26 + 0 ≤ x25 ∧ x25 ≤ x26 + 0) (d2 : x23 + 1 ≤ x24 ∧ x24 ≤ x23 + 1) (d3 : x19 + 0 ≤ x18 ∧ x18 ≤ x19 + 0) (d4 : x16 + 0 ≤ x17 ∧ x17 ≤ x16 + 0) (f0 : x32 ≠ x33) (f1 : 1 * x33 + 0 ≤ 103) (f2 : (-1) * x33 + 0 ≤ (-103)) (f3 : ((x31 + 1) ≤ limit_0) → (x32 = (tape_0 (x31) % 256))) (f4 : (limit_0 ≤ x31) → (x32 = (-1))) (f5 : x31 = x30 + x28) (h6 : x30 = tokenPlace_0 (x4)) (g7 : x4 = cur_0) (f9 : x28 < x29) (f10 : x28 = x21 + 1) (f11 : x25 = x26) (f12 : 1 * x26 + 0 ≤ 101) (f13 : (-1) * x26 + 0 ≤ (-101)) (f14 : ((x24 + 1) ≤ limit_0) → (x25 = (tape_0 (x24) % 256))) (f15 : (limit_0 ≤ x24) → (x25 = (-1))) (f16 : x24 = x23 + x21) (h17 : x23 = tokenPlace_0 (x4)) (f18 : x21 < x22) (f19 : x21 = x14 + 1) (f20 : x18 = x19) (f21 : 1 * x19 + 0 ≤ 100) (f22 : (-1) * x19 + 0 ≤ (-100)) (f23 : ((x17 + 1) ≤ limit_0) → (x18 = (tape_0 (x17) % 256))) (f24 : (limit_0 ≤ x17) → (x18 = (-1))) (f25 : x17 = x16 + x14) (h26 : x16 = tokenPlace_0 (x4)) (f27 : x14 < x15) (f28 : x11 = x12) (f29 : x11 = x8 - x10) (h30 : x10 = tokenPlace_0 (x4)) (h31 : x8 = tokenEnd_0 (x4)) (f33 : x5 = x6) (h34 : x5 = tokenKind_0 (x4)) (f36 : x2 = 0) (g37 : x2 = fault_0) (hK_0_1 : ∀ j : Int, 0 ≤ j → j < 2000 → (-128) ≤ tape_0 j ∧ tape_0 j ≤ 127) (hK_0_160 : ∀ j : Int, 0 ≤ j → j < 2010 → 0 ≤ tokenKind_0 j ∧ tokenKind_0 j ≤ 4) (hK_0_162 : ∀ j : Int, 0 ≤ j → j < 2010 → 0 ≤ tokenPlace_0 j ∧ tokenPlace_0 j ≤ 2000) (hK_0_163 : ∀ j : Int, 0 ≤ j → j < 2010 → 0 ≤ tokenEnd_0 j ∧ tokenEnd_0 j ≤ 2000) (kz_0_8 : 0 ≤ fault_0 ∧ fault_0 ≤ 5) (kz_0_10 : 0 ≤ limit_0 ∧ limit_0 ≤ 2000) (kz_0_158 : 0 ≤ cur_0 ∧ cur_0 ≤ 2009) : (x34 = 1) → (tokenKind_0 (cur_0) = 1) := by
  first | assumption | (clear f3 f4 f14 f15 f23 f24 hK_0_1 hK_0_160 hK_0_162 hK_0_163; omega) | (clear hK_0_1 hK_0_160 hK_0_162 hK_0_163; grind) | omega | grind
set_option maxHeartbeats 4000000 in
theorem vc_Mo_word_at_s5025_8_1 (x4 : Int) (x8 : Int) (x10 : Int) (x11 : Int) (x16 : Int) (x17 : Int) (x18 : Int) (x19 : Int) (x23 : Int) (x24 : Int) (x25 : Int) (x26 : Int) (x30 : Int) (x31 : Int) (x32 : Int) (x33 : Int) (x34 : Int) (tape_0 : Int → Int) (limit_0 : Int) (tokenPlace_0 : Int → Int) (cur_0 : Int) (tokenEnd_0 : Int → Int) (tokenKind_0 : Int → Int) (fault_0 : Int) (k4 : 0 ≤ x4 ∧ x4 ≤ 2009) (k8 : 3 ≤ x8 ∧ x8 ≤ 2000) (k10 : 0 ≤ x10 ∧ x10 ≤ 2000) (k11 : 3 ≤ x11 ∧ x11 ≤ 3) (k16 : 0 ≤ x16 ∧ x16 ≤ 1999) (k17 : 0 ≤ x17 ∧ x17 ≤ 1999) (k18 : 0 ≤ x18 ∧ x18 ≤ 255) (k19 : 0 ≤ x19 ∧ x19 ≤ 255) (k23 : 0 ≤ x23 ∧ x23 ≤ 1998) (k24 : 1 ≤ x24 ∧ x24 ≤ 1999) (k25 : 0 ≤ x25 ∧ x25 ≤ 255) (k26 : 0 ≤ x26 ∧ x26 ≤ 255) (k30 : 0 ≤ x30 ∧ x30 ≤ 1997) (k31 : 2 ≤ x31 ∧ x31 ≤ 1999) (k32 : 0 ≤ x32 ∧ x32 ≤ 255) (k33 : 0 ≤ x33 ∧ x33 ≤ 65535) (k34 : 0 ≤ x34 ∧ x34 ≤ 0) (d0 : x30 + 2 ≤ x31 ∧ x31 ≤ x30 + 2) (d1 : x26 + 0 ≤ x25 ∧ x25 ≤ x26 + 0) (d2 : x23 + 1 ≤ x24 ∧ x24 ≤ x23 + 1) (d3 : x19 + 0 ≤ x18 ∧ x18 ≤ x19 + 0) (d4 : x16 + 0 ≤ x17 ∧ x17 ≤ x16 + 0) (f0 : x32 ≠ x33) (f1 : 1 * x33 + 0 ≤ 103) (f2 : (-1) * x33 + 0 ≤ (-103)) (f3 : ((x31 + 1) ≤ limit_0) → (x32 = (tape_0 (x31) % 256))) (f4 : (limit_0 ≤ x31) → (x32 = (-1))) (h6 : x30 = tokenPlace_0 (x4)) (g7 : x4 = cur_0) (f12 : 1 * x26 + 0 ≤ 101) (f13 : (-1) * x26 + 0 ≤ (-101)) (f14 : ((x24 + 1) ≤ limit_0) → (x25 = (tape_0 (x24) % 256))) (f15 : (limit_0 ≤ x24) → (x25 = (-1))) (h17 : x23 = tokenPlace_0 (x4)) (f21 : 1 * x19 + 0 ≤ 100) (f22 : (-1) * x19 + 0 ≤ (-100)) (f23 : ((x17 + 1) ≤ limit_0) → (x18 = (tape_0 (x17) % 256))) (f24 : (limit_0 ≤ x17) → (x18 = (-1))) (h26 : x16 = tokenPlace_0 (x4)) (f29 : x11 = x8 - x10) (h30 : x10 = tokenPlace_0 (x4)) (h31 : x8 = tokenEnd_0 (x4)) (kz_0_8 : 0 ≤ fault_0 ∧ fault_0 ≤ 5) (kz_0_10 : 0 ≤ limit_0 ∧ limit_0 ≤ 2000) (kz_0_158 : 0 ≤ cur_0 ∧ cur_0 ≤ 2009) : Wqdeg (fault_0) (cur_0) (limit_0) (tokenKind_0) (tokenPlace_0) (tokenEnd_0) (tape_0) (x34) := by
  first
    | exact ⟨fun z => by omega, fun z => by have := z.1; omega⟩
    | (have e := (‹x4 = cur_0›)
       rw [← e]
       refine ⟨fun z => ⟨by omega, wdS3.2 ⟨by omega, by omega, by omega, by rw [show tokenPlace_0 x4 + 0 = x17 by omega]; omega, by rw [show tokenPlace_0 x4 + 1 = x24 by omega]; omega, by rw [show tokenPlace_0 x4 + 2 = x31 by omega]; omega⟩⟩, fun z => by omega⟩)
    | (have e := (‹x4 = cur_0›)
       rw [← e]
       refine ⟨fun z => by omega, fun z => ?_⟩
       have w := wdS3.1 z.2
       try (have q0 : tokenPlace_0 x4 + 0 = x17 := (by omega); rw [q0] at w)
       try (have q1 : tokenPlace_0 x4 + 1 = x24 := (by omega); rw [q1] at w)
       try (have q2 : tokenPlace_0 x4 + 2 = x31 := (by omega); rw [q2] at w)
       omega)
  
def o_Mo_word_at_s5025_8 : or_T := (102, 37, [(0, (2, 0, 0, [165])), (2, (0, 0, 0, [])), (3, (2, 0, 0, [274])), (4, (0, 0, 2009, [])), (5, (0, 1, 1, [])), (6, (0, 1, 1, [])), (7, (2, 0, 0, [277])), (8, (0, 3, 2000, [])), (9, (2, 0, 0, [276])), (10, (0, 0, 2000, [])), (11, (0, 3, 3, [])), (12, (0, 3, 3, [])), (14, (0, 0, 0, [])), (15, (0, 3, 3, [])), (16, (0, 0, 1999, [])), (17, (0, 0, 1999, [])), (18, (0, 0, 255, [])), (19, (0, 0, 255, [])), (21, (0, 1, 1, [])), (22, (0, 3, 3, [])), (23, (0, 0, 1998, [])), (24, (0, 1, 1999, [])), (25, (0, 0, 255, [])), (26, (0, 0, 255, [])), (28, (0, 2, 2, [])), (29, (0, 3, 3, [])), (30, (0, 0, 1997, [])), (31, (0, 2, 1999, [])), (32, (0, 0, 255, [])), (33, (0, 0, 65535, [])), (34, (0, 0, 0, []))], [(7, [32, 33], [1]), (23, [33], [103, 1]), (23, [33], [-103, -1]), (20, [31, 0, 32], [50, 1, 1, 1010, 1001, 4, 11, 0, 6, 4, 2, 1, 0, 0, 1, 2, 1, 10, 1, 2, 1, 2, 9, 5, 3, 1, 1, 1, 0, 0, 256]), (20, [0, 31, 32], [50, 1, 0, 10, 4, 7, 0, 3, 2, 0, 10, 1, 1, 1, 2, 1, 2, 0, -1]), (1, [31, 30, 28], []), (10, [30, 9, 4], []), (9, [4, 0], [158]), (9, [9, 0], [162]), (7, [28, 29], [2]), (6, [28, 21], [1]), (7, [25, 26], [0]), (23, [26], [101, 1]), (23, [26], [-101, -1]), (20, [24, 0, 25], [50, 1, 1, 1010, 1001, 4, 11, 0, 6, 4, 2, 1, 0, 0, 1, 2, 1, 10, 1, 2, 1, 2, 9, 5, 3, 1, 1, 1, 0, 0, 256]), (20, [0, 24, 25], [50, 1, 0, 10, 4, 7, 0, 3, 2, 0, 10, 1, 1, 1, 2, 1, 2, 0, -1]), (1, [24, 23, 21], []), (10, [23, 9, 4], []), (7, [21, 22], [2]), (6, [21, 14], [1]), (7, [18, 19], [0]), (23, [19], [100, 1]), (23, [19], [-100, -1]), (20, [17, 0, 18], [50, 1, 1, 1010, 1001, 4, 11, 0, 6, 4, 2, 1, 0, 0, 1, 2, 1, 10, 1, 2, 1, 2, 9, 5, 3, 1, 1, 1, 0, 0, 256]), (20, [0, 17, 18], [50, 1, 0, 10, 4, 7, 0, 3, 2, 0, 10, 1, 1, 1, 2, 1, 2, 0, -1]), (1, [17, 16, 14], []), (10, [16, 9, 4], []), (7, [14, 15], [2]), (7, [11, 12], [0]), (2, [11, 8, 10], []), (10, [10, 9, 4], []), (10, [8, 7, 4], []), (9, [7, 0], [163]), (7, [5, 6], [0]), (10, [5, 3, 4], []), (9, [3, 0], [160]), (8, [2], [0]), (9, [2, 0], [8])], [], [], [(20, [34, 0], [50, 1, 1, 1158, 1160, 4, 6, 1, 2, 1, 0, 0, 1, 1, 6, 3, 1, 160, 2, 1, 158, 0, 1]), (20, [0, 34], [60, 3, 4, 28, 8, 158, 10, 160, 162, 163, 1])], [], [(31, 30, 2, 2), (25, 26, 0, 0), (24, 23, 1, 1), (18, 19, 0, 0), (17, 16, 0, 0)])
theorem oo_Mo_word_at_s5025_8 {kA : Nat → ClassId} : or_ok PRD kA GG o_Mo_word_at_s5025_8 := by
  refine or_mk fun A ta ws vs hD hth hl => ?_
  intro t0 r0 t2 k2 t3 r3 t4 k4 t5 k5 t6 k6 t7 r7 t8 k8 t9 r9 t10 k10 t11 k11 t12 k12 t14 k14 t15 k15 t16 k16 t17 k17 t18 k18 t19 k19 t21 k21 t22 k22 t23 k23 t24 k24 t25 k25 t26 k26 t28 k28 t29 k29 t30 k30 t31 k31 t32 k32 t33 k33 t34 k34 d0 d1 d2 d3 d4 f0 f1 f2 f3 f4 f5 f6 f7 f8 f9 f10 f11 f12 f13 f14 f15 f16 f17 f18 f19 f20 f21 f22 f23 f24 f25 f26 f27 f28 f29 f30 f31 f32 f33 f34 f35 f36 f37
  replace f6 := shm_107 f6
  replace f7 := shm_286 f7
  replace f8 := shm_301 f8
  replace f17 := shm_107 f17
  replace f26 := shm_107 f26
  replace f30 := shm_107 f30
  replace f31 := shm_107 f31
  replace f32 := shm_1332 f32
  replace f34 := shm_107 f34
  replace f35 := shm_327 f35
  replace f37 := shm_293 f37
  have cr_0_1 := fdq_39 hD hth r0
  have cr_0_160 := fdq_33 hD hth r0
  have cr_0_162 := fdq_41 hD hth r0
  have cr_0_163 := fdq_42 hD hth r0
  have ad_9 : v_ad (n_v vs 9) = w_ar ws (n_v vs 0) 162 := congrArg v_ad f8
  have ad_7 : v_ad (n_v vs 7) = w_ar ws (n_v vs 0) 163 := congrArg v_ad f32
  have ad_3 : v_ad (n_v vs 3) = w_ar ws (n_v vs 0) 160 := congrArg v_ad f35
  simp only [ad_9] at f6
  have h6 : v_iv (n_v vs 30) = w_ei ws (w_ar ws (n_v vs 0) 162) (v_iv (n_v vs 4)) := f6
  have g7 : v_iv (n_v vs 4) = w_fi ws (n_v vs 0) 158 := congrArg v_iv f7
  simp only [ad_9] at f17
  have h17 : v_iv (n_v vs 23) = w_ei ws (w_ar ws (n_v vs 0) 162) (v_iv (n_v vs 4)) := f17
  simp only [ad_9] at f26
  have h26 : v_iv (n_v vs 16) = w_ei ws (w_ar ws (n_v vs 0) 162) (v_iv (n_v vs 4)) := f26
  simp only [ad_9] at f30
  have h30 : v_iv (n_v vs 10) = w_ei ws (w_ar ws (n_v vs 0) 162) (v_iv (n_v vs 4)) := f30
  simp only [ad_7] at f31
  have h31 : v_iv (n_v vs 8) = w_ei ws (w_ar ws (n_v vs 0) 163) (v_iv (n_v vs 4)) := f31
  simp only [ad_3] at f34
  have h34 : v_iv (n_v vs 5) = w_ei ws (w_ar ws (n_v vs 0) 160) (v_iv (n_v vs 4)) := f34
  have g37 : v_iv (n_v vs 2) = w_fi ws (n_v vs 0) 8 := congrArg v_iv f37
  have hK_0_1 := elq_7 hD hth cr_0_1
  have hK_0_160 := elq_6 hD hth cr_0_160
  have hK_0_162 := elq_8 hD hth cr_0_162
  have hK_0_163 := elq_9 hD hth cr_0_163
  have kz_0_8 := fdq_34 hD hth r0
  have kz_0_10 := fdq_43 hD hth r0
  have kz_0_158 := fdq_36 hD hth r0
  have nf0 : fc_1 PRD (20, [34, 0], [50, 1, 1, 1158, 1160, 4, 6, 1, 2, 1, 0, 0, 1, 1, 6, 3, 1, 160, 2, 1, 158, 0, 1]) ws (vs) := ⟨nf_in hl rfl, sgq_287 (vc_Mo_word_at_s5025_8_0 (v_iv (n_v vs 2)) (v_iv (n_v vs 4)) (v_iv (n_v vs 5)) (v_iv (n_v vs 6)) (v_iv (n_v vs 8)) (v_iv (n_v vs 10)) (v_iv (n_v vs 11)) (v_iv (n_v vs 12)) (v_iv (n_v vs 14)) (v_iv (n_v vs 15)) (v_iv (n_v vs 16)) (v_iv (n_v vs 17)) (v_iv (n_v vs 18)) (v_iv (n_v vs 19)) (v_iv (n_v vs 21)) (v_iv (n_v vs 22)) (v_iv (n_v vs 23)) (v_iv (n_v vs 24)) (v_iv (n_v vs 25)) (v_iv (n_v vs 26)) (v_iv (n_v vs 28)) (v_iv (n_v vs 29)) (v_iv (n_v vs 30)) (v_iv (n_v vs 31)) (v_iv (n_v vs 32)) (v_iv (n_v vs 33)) (v_iv (n_v vs 34)) (w_ei ws (w_ar ws (n_v vs 0) 1)) (w_fi ws (n_v vs 0) 10) (w_ei ws (w_ar ws (n_v vs 0) 162)) (w_fi ws (n_v vs 0) 158) (w_ei ws (w_ar ws (n_v vs 0) 163)) (w_ei ws (w_ar ws (n_v vs 0) 160)) (w_fi ws (n_v vs 0) 8) k2 k4 k5 k6 k8 k10 k11 k12 k14 k15 k16 k17 k18 k19 k21 k22 k23 k24 k25 k26 k28 k29 k30 k31 k32 k33 k34 d0 d1 d2 d3 d4 (shm_40 f0) (shm_61 f1) (shm_62 f2) (shm_541 f3) (shm_542 f4) (shm_12 f5) h6 g7 (shm_6 f9) (shm_4 f10) (shm_37 f11) (shm_59 f12) (shm_60 f13) (shm_541 f14) (shm_542 f15) (shm_12 f16) h17 (shm_6 f18) (shm_4 f19) (shm_37 f20) (shm_57 f21) (shm_58 f22) (shm_541 f23) (shm_542 f24) (shm_12 f25) h26 (shm_6 f27) (shm_37 f28) (shm_14 f29) h30 h31 (shm_37 f33) h34 (shm_192 f36) g37 hK_0_1 hK_0_160 hK_0_162 hK_0_163 kz_0_8 kz_0_10 kz_0_158)⟩
  have nf1 : fc_1 PRD (20, [0, 34], [60, 3, 4, 28, 8, 158, 10, 160, 162, 163, 1]) ws (vs) := ⟨nf_in hl rfl, sgq_1869 (vc_Mo_word_at_s5025_8_1 (v_iv (n_v vs 4)) (v_iv (n_v vs 8)) (v_iv (n_v vs 10)) (v_iv (n_v vs 11)) (v_iv (n_v vs 16)) (v_iv (n_v vs 17)) (v_iv (n_v vs 18)) (v_iv (n_v vs 19)) (v_iv (n_v vs 23)) (v_iv (n_v vs 24)) (v_iv (n_v vs 25)) (v_iv (n_v vs 26)) (v_iv (n_v vs 30)) (v_iv (n_v vs 31)) (v_iv (n_v vs 32)) (v_iv (n_v vs 33)) (v_iv (n_v vs 34)) (w_ei ws (w_ar ws (n_v vs 0) 1)) (w_fi ws (n_v vs 0) 10) (w_ei ws (w_ar ws (n_v vs 0) 162)) (w_fi ws (n_v vs 0) 158) (w_ei ws (w_ar ws (n_v vs 0) 163)) (w_ei ws (w_ar ws (n_v vs 0) 160)) (w_fi ws (n_v vs 0) 8) k4 k8 k10 k11 k16 k17 k18 k19 k23 k24 k25 k26 k30 k31 k32 k33 k34 d0 d1 d2 d3 d4 (shm_40 f0) (shm_61 f1) (shm_62 f2) (shm_541 f3) (shm_542 f4) h6 g7 (shm_59 f12) (shm_60 f13) (shm_541 f14) (shm_542 f15) h17 (shm_57 f21) (shm_58 f22) (shm_541 f23) (shm_542 f24) h26 (shm_14 f29) h30 h31 kz_0_8 kz_0_10 kz_0_158)⟩
  refine ⟨(fun _ h => (by cases h)), [], trivial, ?_, (fun _ h => (by cases h))⟩
  rw [List.append_nil]
  exact List.forall_mem_cons.mpr ⟨⟨show (20 : Nat) < 100 from by decide, nf0⟩, List.forall_mem_cons.mpr ⟨⟨show (20 : Nat) < 100 from by decide, nf1⟩, (fun _ h => (by cases h))⟩⟩
set_option maxHeartbeats 4000000 in
theorem vc_Mo_word_at_s5025_9_0 (x2 : Int) (x4 : Int) (x5 : Int) (x6 : Int) (x8 : Int) (x10 : Int) (x11 : Int) (x12 : Int) (x14 : Int) (x15 : Int) (x16 : Int) (x17 : Int) (x18 : Int) (x19 : Int) (x21 : Int) (x22 : Int) (x23 : Int) (x24 : Int) (x25 : Int) (x26 : Int) (x28 : Int) (x29 : Int) (x30 : Int) (x31 : Int) (x32 : Int) (x33 : Int) (x34 : Int) (tape_0 : Int → Int) (limit_0 : Int) (tokenPlace_0 : Int → Int) (cur_0 : Int) (tokenEnd_0 : Int → Int) (tokenKind_0 : Int → Int) (fault_0 : Int) (k2 : 0 ≤ x2 ∧ x2 ≤ 0) (k4 : 0 ≤ x4 ∧ x4 ≤ 2009) (k5 : 1 ≤ x5 ∧ x5 ≤ 1) (k6 : 1 ≤ x6 ∧ x6 ≤ 1) (k8 : 3 ≤ x8 ∧ x8 ≤ 2000) (k10 : 0 ≤ x10 ∧ x10 ≤ 2000) (k11 : 3 ≤ x11 ∧ x11 ≤ 3) (k12 : 3 ≤ x12 ∧ x12 ≤ 3) (k14 : 0 ≤ x14 ∧ x14 ≤ 0) (k15 : 3 ≤ x15 ∧ x15 ≤ 3) (k16 : 0 ≤ x16 ∧ x16 ≤ 1999) (k17 : 0 ≤ x17 ∧ x17 ≤ 1999) (k18 : 0 ≤ x18 ∧ x18 ≤ 255) (k19 : 0 ≤ x19 ∧ x19 ≤ 255) (k21 : 1 ≤ x21 ∧ x21 ≤ 1) (k22 : 3 ≤ x22 ∧ x22 ≤ 3) (k23 : 0 ≤ x23 ∧ x23 ≤ 1998) (k24 : 1 ≤ x24 ∧ x24 ≤ 1999) (k25 : 0 ≤ x25 ∧ x25 ≤ 255) (k26 : 0 ≤ x26 ∧ x26 ≤ 255) (k28 : 2 ≤ x28 ∧ x28 ≤ 2) (k29 : 3 ≤ x29 ∧ x29 ≤ 3) (k30 : 0 ≤ x30 ∧ x30 ≤ 1997) (k31 : 2 ≤ x31 ∧ x31 ≤ 1999) (k32 : 0 ≤ x32 ∧ x32 ≤ 255) (k33 : 0 ≤ x33 ∧ x33 ≤ 255) (k34 : 1 ≤ x34 ∧ x34 ≤ 1) (d0 : x33 + 0 ≤ x32 ∧ x32 ≤ x33 + 0) (d1 : x30 + 2 ≤ x31 ∧ x31 ≤ x30 + 2) (d2 : x26 + 0 ≤ x25 ∧ x25 ≤ x26 + 0) (d3 : x23 + 1 ≤ x24 ∧ x24 ≤ x23 + 1) (d4 : x19 + 0 ≤ x18 ∧ x18 ≤ x19 + 0) (d5 : x16 + 0 ≤ x17 ∧ x17 ≤ x16 + 0) (f0 : x32 = x33) (f1 : 1 * x33 + 0 ≤ 103) (f2 : (-1) * x33 + 0 ≤ (-103)) (f3 : ((x31 + 1) ≤ limit_0) → (x32 = (tape_0 (x31) % 256))) (f4 : (limit_0 ≤ x31) → (x32 = (-1))) (f5 : x31 = x30 + x28) (h6 : x30 = tokenPlace_0 (x4)) (g7 : x4 = cur_0) (f9 : x28 < x29) (f10 : x28 = x21 + 1) (f11 : x25 = x26) (f12 : 1 * x26 + 0 ≤ 101) (f13 : (-1) * x26 + 0 ≤ (-101)) (f14 : ((x24 + 1) ≤ limit_0) → (x25 = (tape_0 (x24) % 256))) (f15 : (limit_0 ≤ x24) → (x25 = (-1))) (f16 : x24 = x23 + x21) (h17 : x23 = tokenPlace_0 (x4)) (f18 : x21 < x22) (f19 : x21 = x14 + 1) (f20 : x18 = x19) (f21 : 1 * x19 + 0 ≤ 100) (f22 : (-1) * x19 + 0 ≤ (-100)) (f23 : ((x17 + 1) ≤ limit_0) → (x18 = (tape_0 (x17) % 256))) (f24 : (limit_0 ≤ x17) → (x18 = (-1))) (f25 : x17 = x16 + x14) (h26 : x16 = tokenPlace_0 (x4)) (f27 : x14 < x15) (f28 : x11 = x12) (f29 : x11 = x8 - x10) (h30 : x10 = tokenPlace_0 (x4)) (h31 : x8 = tokenEnd_0 (x4)) (f33 : x5 = x6) (h34 : x5 = tokenKind_0 (x4)) (f36 : x2 = 0) (g37 : x2 = fault_0) (hK_0_1 : ∀ j : Int, 0 ≤ j → j < 2000 → (-128) ≤ tape_0 j ∧ tape_0 j ≤ 127) (hK_0_160 : ∀ j : Int, 0 ≤ j → j < 2010 → 0 ≤ tokenKind_0 j ∧ tokenKind_0 j ≤ 4) (hK_0_162 : ∀ j : Int, 0 ≤ j → j < 2010 → 0 ≤ tokenPlace_0 j ∧ tokenPlace_0 j ≤ 2000) (hK_0_163 : ∀ j : Int, 0 ≤ j → j < 2010 → 0 ≤ tokenEnd_0 j ∧ tokenEnd_0 j ≤ 2000) (kz_0_8 : 0 ≤ fault_0 ∧ fault_0 ≤ 5) (kz_0_10 : 0 ≤ limit_0 ∧ limit_0 ≤ 2000) (kz_0_158 : 0 ≤ cur_0 ∧ cur_0 ≤ 2009) : (x34 = 1) → (tokenKind_0 (cur_0) = 1) := by
  first | assumption | (clear f3 f4 f14 f15 f23 f24 hK_0_1 hK_0_160 hK_0_162 hK_0_163; omega) | (clear hK_0_1 hK_0_160 hK_0_162 hK_0_163; grind) | omega | grind
set_option maxHeartbeats 4000000 in
theorem vc_Mo_word_at_s5025_9_1 (x2 : Int) (x4 : Int) (x5 : Int) (x8 : Int) (x10 : Int) (x11 : Int) (x16 : Int) (x17 : Int) (x18 : Int) (x19 : Int) (x23 : Int) (x24 : Int) (x25 : Int) (x26 : Int) (x30 : Int) (x31 : Int) (x32 : Int) (x33 : Int) (x34 : Int) (tape_0 : Int → Int) (limit_0 : Int) (tokenPlace_0 : Int → Int) (cur_0 : Int) (tokenEnd_0 : Int → Int) (tokenKind_0 : Int → Int) (fault_0 : Int) (k2 : 0 ≤ x2 ∧ x2 ≤ 0) (k4 : 0 ≤ x4 ∧ x4 ≤ 2009) (k5 : 1 ≤ x5 ∧ x5 ≤ 1) (k8 : 3 ≤ x8 ∧ x8 ≤ 2000) (k10 : 0 ≤ x10 ∧ x10 ≤ 2000) (k11 : 3 ≤ x11 ∧ x11 ≤ 3) (k16 : 0 ≤ x16 ∧ x16 ≤ 1999) (k17 : 0 ≤ x17 ∧ x17 ≤ 1999) (k18 : 0 ≤ x18 ∧ x18 ≤ 255) (k19 : 0 ≤ x19 ∧ x19 ≤ 255) (k23 : 0 ≤ x23 ∧ x23 ≤ 1998) (k24 : 1 ≤ x24 ∧ x24 ≤ 1999) (k25 : 0 ≤ x25 ∧ x25 ≤ 255) (k26 : 0 ≤ x26 ∧ x26 ≤ 255) (k30 : 0 ≤ x30 ∧ x30 ≤ 1997) (k31 : 2 ≤ x31 ∧ x31 ≤ 1999) (k32 : 0 ≤ x32 ∧ x32 ≤ 255) (k33 : 0 ≤ x33 ∧ x33 ≤ 255) (k34 : 1 ≤ x34 ∧ x34 ≤ 1) (d0 : x33 + 0 ≤ x32 ∧ x32 ≤ x33 + 0) (d1 : x30 + 2 ≤ x31 ∧ x31 ≤ x30 + 2) (d2 : x26 + 0 ≤ x25 ∧ x25 ≤ x26 + 0) (d3 : x23 + 1 ≤ x24 ∧ x24 ≤ x23 + 1) (d4 : x19 + 0 ≤ x18 ∧ x18 ≤ x19 + 0) (d5 : x16 + 0 ≤ x17 ∧ x17 ≤ x16 + 0) (f1 : 1 * x33 + 0 ≤ 103) (f2 : (-1) * x33 + 0 ≤ (-103)) (f3 : ((x31 + 1) ≤ limit_0) → (x32 = (tape_0 (x31) % 256))) (f4 : (limit_0 ≤ x31) → (x32 = (-1))) (h6 : x30 = tokenPlace_0 (x4)) (g7 : x4 = cur_0) (f12 : 1 * x26 + 0 ≤ 101) (f13 : (-1) * x26 + 0 ≤ (-101)) (f14 : ((x24 + 1) ≤ limit_0) → (x25 = (tape_0 (x24) % 256))) (f15 : (limit_0 ≤ x24) → (x25 = (-1))) (h17 : x23 = tokenPlace_0 (x4)) (f21 : 1 * x19 + 0 ≤ 100) (f22 : (-1) * x19 + 0 ≤ (-100)) (f23 : ((x17 + 1) ≤ limit_0) → (x18 = (tape_0 (x17) % 256))) (f24 : (limit_0 ≤ x17) → (x18 = (-1))) (h26 : x16 = tokenPlace_0 (x4)) (f29 : x11 = x8 - x10) (h30 : x10 = tokenPlace_0 (x4)) (h31 : x8 = tokenEnd_0 (x4)) (h34 : x5 = tokenKind_0 (x4)) (g37 : x2 = fault_0) (kz_0_8 : 0 ≤ fault_0 ∧ fault_0 ≤ 5) (kz_0_10 : 0 ≤ limit_0 ∧ limit_0 ≤ 2000) (kz_0_158 : 0 ≤ cur_0 ∧ cur_0 ≤ 2009) : Wqdeg (fault_0) (cur_0) (limit_0) (tokenKind_0) (tokenPlace_0) (tokenEnd_0) (tape_0) (x34) := by
  first
    | exact ⟨fun z => by omega, fun z => by have := z.1; omega⟩
    | (have e := (‹x4 = cur_0›)
       rw [← e]
       refine ⟨fun z => ⟨by omega, wdS3.2 ⟨by omega, by omega, by omega, by rw [show tokenPlace_0 x4 + 0 = x17 by omega]; omega, by rw [show tokenPlace_0 x4 + 1 = x24 by omega]; omega, by rw [show tokenPlace_0 x4 + 2 = x31 by omega]; omega⟩⟩, fun z => by omega⟩)
    | (have e := (‹x4 = cur_0›)
       rw [← e]
       refine ⟨fun z => by omega, fun z => ?_⟩
       have w := wdS3.1 z.2
       try (have q0 : tokenPlace_0 x4 + 0 = x17 := (by omega); rw [q0] at w)
       try (have q1 : tokenPlace_0 x4 + 1 = x24 := (by omega); rw [q1] at w)
       try (have q2 : tokenPlace_0 x4 + 2 = x31 := (by omega); rw [q2] at w)
       omega)
  
def o_Mo_word_at_s5025_9 : or_T := (102, 37, [(0, (2, 0, 0, [165])), (2, (0, 0, 0, [])), (3, (2, 0, 0, [274])), (4, (0, 0, 2009, [])), (5, (0, 1, 1, [])), (6, (0, 1, 1, [])), (7, (2, 0, 0, [277])), (8, (0, 3, 2000, [])), (9, (2, 0, 0, [276])), (10, (0, 0, 2000, [])), (11, (0, 3, 3, [])), (12, (0, 3, 3, [])), (14, (0, 0, 0, [])), (15, (0, 3, 3, [])), (16, (0, 0, 1999, [])), (17, (0, 0, 1999, [])), (18, (0, 0, 255, [])), (19, (0, 0, 255, [])), (21, (0, 1, 1, [])), (22, (0, 3, 3, [])), (23, (0, 0, 1998, [])), (24, (0, 1, 1999, [])), (25, (0, 0, 255, [])), (26, (0, 0, 255, [])), (28, (0, 2, 2, [])), (29, (0, 3, 3, [])), (30, (0, 0, 1997, [])), (31, (0, 2, 1999, [])), (32, (0, 0, 255, [])), (33, (0, 0, 255, [])), (34, (0, 1, 1, []))], [(7, [32, 33], [0]), (23, [33], [103, 1]), (23, [33], [-103, -1]), (20, [31, 0, 32], [50, 1, 1, 1010, 1001, 4, 11, 0, 6, 4, 2, 1, 0, 0, 1, 2, 1, 10, 1, 2, 1, 2, 9, 5, 3, 1, 1, 1, 0, 0, 256]), (20, [0, 31, 32], [50, 1, 0, 10, 4, 7, 0, 3, 2, 0, 10, 1, 1, 1, 2, 1, 2, 0, -1]), (1, [31, 30, 28], []), (10, [30, 9, 4], []), (9, [4, 0], [158]), (9, [9, 0], [162]), (7, [28, 29], [2]), (6, [28, 21], [1]), (7, [25, 26], [0]), (23, [26], [101, 1]), (23, [26], [-101, -1]), (20, [24, 0, 25], [50, 1, 1, 1010, 1001, 4, 11, 0, 6, 4, 2, 1, 0, 0, 1, 2, 1, 10, 1, 2, 1, 2, 9, 5, 3, 1, 1, 1, 0, 0, 256]), (20, [0, 24, 25], [50, 1, 0, 10, 4, 7, 0, 3, 2, 0, 10, 1, 1, 1, 2, 1, 2, 0, -1]), (1, [24, 23, 21], []), (10, [23, 9, 4], []), (7, [21, 22], [2]), (6, [21, 14], [1]), (7, [18, 19], [0]), (23, [19], [100, 1]), (23, [19], [-100, -1]), (20, [17, 0, 18], [50, 1, 1, 1010, 1001, 4, 11, 0, 6, 4, 2, 1, 0, 0, 1, 2, 1, 10, 1, 2, 1, 2, 9, 5, 3, 1, 1, 1, 0, 0, 256]), (20, [0, 17, 18], [50, 1, 0, 10, 4, 7, 0, 3, 2, 0, 10, 1, 1, 1, 2, 1, 2, 0, -1]), (1, [17, 16, 14], []), (10, [16, 9, 4], []), (7, [14, 15], [2]), (7, [11, 12], [0]), (2, [11, 8, 10], []), (10, [10, 9, 4], []), (10, [8, 7, 4], []), (9, [7, 0], [163]), (7, [5, 6], [0]), (10, [5, 3, 4], []), (9, [3, 0], [160]), (8, [2], [0]), (9, [2, 0], [8])], [], [], [(20, [34, 0], [50, 1, 1, 1158, 1160, 4, 6, 1, 2, 1, 0, 0, 1, 1, 6, 3, 1, 160, 2, 1, 158, 0, 1]), (20, [0, 34], [60, 3, 4, 28, 8, 158, 10, 160, 162, 163, 1])], [], [(32, 33, 0, 0), (31, 30, 2, 2), (25, 26, 0, 0), (24, 23, 1, 1), (18, 19, 0, 0), (17, 16, 0, 0)])
theorem oo_Mo_word_at_s5025_9 {kA : Nat → ClassId} : or_ok PRD kA GG o_Mo_word_at_s5025_9 := by
  refine or_mk fun A ta ws vs hD hth hl => ?_
  intro t0 r0 t2 k2 t3 r3 t4 k4 t5 k5 t6 k6 t7 r7 t8 k8 t9 r9 t10 k10 t11 k11 t12 k12 t14 k14 t15 k15 t16 k16 t17 k17 t18 k18 t19 k19 t21 k21 t22 k22 t23 k23 t24 k24 t25 k25 t26 k26 t28 k28 t29 k29 t30 k30 t31 k31 t32 k32 t33 k33 t34 k34 d0 d1 d2 d3 d4 d5 f0 f1 f2 f3 f4 f5 f6 f7 f8 f9 f10 f11 f12 f13 f14 f15 f16 f17 f18 f19 f20 f21 f22 f23 f24 f25 f26 f27 f28 f29 f30 f31 f32 f33 f34 f35 f36 f37
  replace f6 := shm_107 f6
  replace f7 := shm_286 f7
  replace f8 := shm_301 f8
  replace f17 := shm_107 f17
  replace f26 := shm_107 f26
  replace f30 := shm_107 f30
  replace f31 := shm_107 f31
  replace f32 := shm_1332 f32
  replace f34 := shm_107 f34
  replace f35 := shm_327 f35
  replace f37 := shm_293 f37
  have cr_0_1 := fdq_39 hD hth r0
  have cr_0_160 := fdq_33 hD hth r0
  have cr_0_162 := fdq_41 hD hth r0
  have cr_0_163 := fdq_42 hD hth r0
  have ad_9 : v_ad (n_v vs 9) = w_ar ws (n_v vs 0) 162 := congrArg v_ad f8
  have ad_7 : v_ad (n_v vs 7) = w_ar ws (n_v vs 0) 163 := congrArg v_ad f32
  have ad_3 : v_ad (n_v vs 3) = w_ar ws (n_v vs 0) 160 := congrArg v_ad f35
  simp only [ad_9] at f6
  have h6 : v_iv (n_v vs 30) = w_ei ws (w_ar ws (n_v vs 0) 162) (v_iv (n_v vs 4)) := f6
  have g7 : v_iv (n_v vs 4) = w_fi ws (n_v vs 0) 158 := congrArg v_iv f7
  simp only [ad_9] at f17
  have h17 : v_iv (n_v vs 23) = w_ei ws (w_ar ws (n_v vs 0) 162) (v_iv (n_v vs 4)) := f17
  simp only [ad_9] at f26
  have h26 : v_iv (n_v vs 16) = w_ei ws (w_ar ws (n_v vs 0) 162) (v_iv (n_v vs 4)) := f26
  simp only [ad_9] at f30
  have h30 : v_iv (n_v vs 10) = w_ei ws (w_ar ws (n_v vs 0) 162) (v_iv (n_v vs 4)) := f30
  simp only [ad_7] at f31
  have h31 : v_iv (n_v vs 8) = w_ei ws (w_ar ws (n_v vs 0) 163) (v_iv (n_v vs 4)) := f31
  simp only [ad_3] at f34
  have h34 : v_iv (n_v vs 5) = w_ei ws (w_ar ws (n_v vs 0) 160) (v_iv (n_v vs 4)) := f34
  have g37 : v_iv (n_v vs 2) = w_fi ws (n_v vs 0) 8 := congrArg v_iv f37
  have hK_0_1 := elq_7 hD hth cr_0_1
  have hK_0_160 := elq_6 hD hth cr_0_160
  have hK_0_162 := elq_8 hD hth cr_0_162
  have hK_0_163 := elq_9 hD hth cr_0_163
  have kz_0_8 := fdq_34 hD hth r0
  have kz_0_10 := fdq_43 hD hth r0
  have kz_0_158 := fdq_36 hD hth r0
  have nf0 : fc_1 PRD (20, [34, 0], [50, 1, 1, 1158, 1160, 4, 6, 1, 2, 1, 0, 0, 1, 1, 6, 3, 1, 160, 2, 1, 158, 0, 1]) ws (vs) := ⟨nf_in hl rfl, sgq_287 (vc_Mo_word_at_s5025_9_0 (v_iv (n_v vs 2)) (v_iv (n_v vs 4)) (v_iv (n_v vs 5)) (v_iv (n_v vs 6)) (v_iv (n_v vs 8)) (v_iv (n_v vs 10)) (v_iv (n_v vs 11)) (v_iv (n_v vs 12)) (v_iv (n_v vs 14)) (v_iv (n_v vs 15)) (v_iv (n_v vs 16)) (v_iv (n_v vs 17)) (v_iv (n_v vs 18)) (v_iv (n_v vs 19)) (v_iv (n_v vs 21)) (v_iv (n_v vs 22)) (v_iv (n_v vs 23)) (v_iv (n_v vs 24)) (v_iv (n_v vs 25)) (v_iv (n_v vs 26)) (v_iv (n_v vs 28)) (v_iv (n_v vs 29)) (v_iv (n_v vs 30)) (v_iv (n_v vs 31)) (v_iv (n_v vs 32)) (v_iv (n_v vs 33)) (v_iv (n_v vs 34)) (w_ei ws (w_ar ws (n_v vs 0) 1)) (w_fi ws (n_v vs 0) 10) (w_ei ws (w_ar ws (n_v vs 0) 162)) (w_fi ws (n_v vs 0) 158) (w_ei ws (w_ar ws (n_v vs 0) 163)) (w_ei ws (w_ar ws (n_v vs 0) 160)) (w_fi ws (n_v vs 0) 8) k2 k4 k5 k6 k8 k10 k11 k12 k14 k15 k16 k17 k18 k19 k21 k22 k23 k24 k25 k26 k28 k29 k30 k31 k32 k33 k34 d0 d1 d2 d3 d4 d5 (shm_37 f0) (shm_61 f1) (shm_62 f2) (shm_541 f3) (shm_542 f4) (shm_12 f5) h6 g7 (shm_6 f9) (shm_4 f10) (shm_37 f11) (shm_59 f12) (shm_60 f13) (shm_541 f14) (shm_542 f15) (shm_12 f16) h17 (shm_6 f18) (shm_4 f19) (shm_37 f20) (shm_57 f21) (shm_58 f22) (shm_541 f23) (shm_542 f24) (shm_12 f25) h26 (shm_6 f27) (shm_37 f28) (shm_14 f29) h30 h31 (shm_37 f33) h34 (shm_192 f36) g37 hK_0_1 hK_0_160 hK_0_162 hK_0_163 kz_0_8 kz_0_10 kz_0_158)⟩
  have nf1 : fc_1 PRD (20, [0, 34], [60, 3, 4, 28, 8, 158, 10, 160, 162, 163, 1]) ws (vs) := ⟨nf_in hl rfl, sgq_1869 (vc_Mo_word_at_s5025_9_1 (v_iv (n_v vs 2)) (v_iv (n_v vs 4)) (v_iv (n_v vs 5)) (v_iv (n_v vs 8)) (v_iv (n_v vs 10)) (v_iv (n_v vs 11)) (v_iv (n_v vs 16)) (v_iv (n_v vs 17)) (v_iv (n_v vs 18)) (v_iv (n_v vs 19)) (v_iv (n_v vs 23)) (v_iv (n_v vs 24)) (v_iv (n_v vs 25)) (v_iv (n_v vs 26)) (v_iv (n_v vs 30)) (v_iv (n_v vs 31)) (v_iv (n_v vs 32)) (v_iv (n_v vs 33)) (v_iv (n_v vs 34)) (w_ei ws (w_ar ws (n_v vs 0) 1)) (w_fi ws (n_v vs 0) 10) (w_ei ws (w_ar ws (n_v vs 0) 162)) (w_fi ws (n_v vs 0) 158) (w_ei ws (w_ar ws (n_v vs 0) 163)) (w_ei ws (w_ar ws (n_v vs 0) 160)) (w_fi ws (n_v vs 0) 8) k2 k4 k5 k8 k10 k11 k16 k17 k18 k19 k23 k24 k25 k26 k30 k31 k32 k33 k34 d0 d1 d2 d3 d4 d5 (shm_61 f1) (shm_62 f2) (shm_541 f3) (shm_542 f4) h6 g7 (shm_59 f12) (shm_60 f13) (shm_541 f14) (shm_542 f15) h17 (shm_57 f21) (shm_58 f22) (shm_541 f23) (shm_542 f24) h26 (shm_14 f29) h30 h31 h34 g37 kz_0_8 kz_0_10 kz_0_158)⟩
  refine ⟨(fun _ h => (by cases h)), [], trivial, ?_, (fun _ h => (by cases h))⟩
  rw [List.append_nil]
  exact List.forall_mem_cons.mpr ⟨⟨show (20 : Nat) < 100 from by decide, nf0⟩, List.forall_mem_cons.mpr ⟨⟨show (20 : Nat) < 100 from by decide, nf1⟩, (fun _ h => (by cases h))⟩⟩
def n_Mo_word_at_s5025_an : List an_T := []
def t_Mo_word_at_s5025_ct : ct_L := [(1, 425, e_Mo_byteAt), (124, 448, e_jStr_length_v591), (172, 448, e_jStr_length_v591), (253, 453, e_jStr_charAt_v592), (253, 453, e_jStr_charAt_v594), (253, 453, e_jStr_charAt_v596)]
set_option maxRecDepth 100000 in
theorem c_Mo_word_at_s5025 {l : Launch} {D : va_G} {kA : Nat → ClassId} (h_Mo_byteAt : ct_ok PRD l D kA GG y_Mo_byteAt z_Mo_byteAt e_Mo_byteAt) : ct_ok PRD l D kA GG y_Mo_word_at_s5025 z_Mo_word_at_s5025 e_Mo_word_at_s5025 := chk_all_ok (FT := [(342, 13, 160), (348, 13, 162), (351, 13, 163), (413, 13, 8), (1169, 13, 158)]) (PT := []) (CT := t_Mo_word_at_s5025_ct) (KT := []) (NT := []) (AN := n_Mo_word_at_s5025_an) (OT := [o_Mo_word_at_s5025_0, o_Mo_word_at_s5025_1, o_Mo_word_at_s5025_2, o_Mo_word_at_s5025_3, o_Mo_word_at_s5025_4, o_Mo_word_at_s5025_5, o_Mo_word_at_s5025_6, o_Mo_word_at_s5025_7, o_Mo_word_at_s5025_8, o_Mo_word_at_s5025_9]) 0 892 (List.forall_mem_cons.mpr ⟨oo_Mo_word_at_s5025_0, List.forall_mem_cons.mpr ⟨oo_Mo_word_at_s5025_1, List.forall_mem_cons.mpr ⟨oo_Mo_word_at_s5025_2, List.forall_mem_cons.mpr ⟨oo_Mo_word_at_s5025_3, List.forall_mem_cons.mpr ⟨oo_Mo_word_at_s5025_4, List.forall_mem_cons.mpr ⟨oo_Mo_word_at_s5025_5, List.forall_mem_cons.mpr ⟨oo_Mo_word_at_s5025_6, List.forall_mem_cons.mpr ⟨oo_Mo_word_at_s5025_7, List.forall_mem_cons.mpr ⟨oo_Mo_word_at_s5025_8, List.forall_mem_cons.mpr ⟨oo_Mo_word_at_s5025_9, List.forall_mem_nil _⟩⟩⟩⟩⟩⟩⟩⟩⟩⟩) (by decide +kernel) ⟨List.forall_mem_cons.mpr ⟨gf_Mo_342, List.forall_mem_cons.mpr ⟨gf_Mo_348, List.forall_mem_cons.mpr ⟨gf_Mo_351, List.forall_mem_cons.mpr ⟨gf_Mo_413, List.forall_mem_cons.mpr ⟨gf_Mo_1169, List.forall_mem_nil _⟩⟩⟩⟩⟩, List.forall_mem_nil _, List.forall_mem_cons.mpr ⟨cl_virtual (y := y_Mo_byteAt) (ci := 13) rfl rfl ⟨_, _, rfl⟩ (by decide +kernel) h_Mo_byteAt wm_2986 wm_9 wm_2983 wm_2985 wv_12_12 ⟨by decide, by decide, by decide +kernel⟩ (by decide), List.forall_mem_cons.mpr ⟨cl_string (y := y_jStr_length) (i := 25) rfl rfl (by decide +kernel) rfl c_jStr_length_v591 wm_674 wm_11 wm_3003 wm_672 wm_673 ⟨by decide, by decide, by decide +kernel⟩ (by decide), List.forall_mem_cons.mpr ⟨cl_string (y := y_jStr_length) (i := 25) rfl rfl (by decide +kernel) rfl c_jStr_length_v591 wm_674 wm_11 wm_3003 wm_672 wm_673 ⟨by decide, by decide, by decide +kernel⟩ (by decide), List.forall_mem_cons.mpr ⟨cl_string (y := y_jStr_charAt) (i := 25) rfl rfl (by decide +kernel) rfl c_jStr_charAt_v592 wm_684 wm_11 wm_3004 wm_682 wm_683 ⟨by decide, by decide, by decide +kernel⟩ (by decide), List.forall_mem_cons.mpr ⟨cl_string (y := y_jStr_charAt) (i := 25) rfl rfl (by decide +kernel) rfl c_jStr_charAt_v594 wm_684 wm_11 wm_3004 wm_682 wm_683 ⟨by decide, by decide, by decide +kernel⟩ (by decide), List.forall_mem_cons.mpr ⟨cl_string (y := y_jStr_charAt) (i := 25) rfl rfl (by decide +kernel) rfl c_jStr_charAt_v596 wm_684 wm_11 wm_3004 wm_682 wm_683 ⟨by decide, by decide, by decide +kernel⟩ (by decide), List.forall_mem_nil _⟩⟩⟩⟩⟩⟩, List.forall_mem_nil _, List.forall_mem_nil _, GG_pl⟩ (by decide +kernel)

set_option maxHeartbeats 4000000 in
theorem vc_Mo_word_at_s5026_0_0 (x2 : Int) (x3 : Int) (fault_0 : Int) (tape_0 : Int → Int) (tokenKind_0 : Int → Int) (tokenPlace_0 : Int → Int) (tokenEnd_0 : Int → Int) (limit_0 : Int) (cur_0 : Int) (k2 : 1 ≤ x2 ∧ x2 ≤ 5) (k3 : 0 ≤ x3 ∧ x3 ≤ 0) (f0 : x3 = 0) (f1 : x2 ≠ 0) (g2 : x2 = fault_0) (hK_0_1 : ∀ j : Int, 0 ≤ j → j < 2000 → (-128) ≤ tape_0 j ∧ tape_0 j ≤ 127) (hK_0_160 : ∀ j : Int, 0 ≤ j → j < 2010 → 0 ≤ tokenKind_0 j ∧ tokenKind_0 j ≤ 4) (hK_0_162 : ∀ j : Int, 0 ≤ j → j < 2010 → 0 ≤ tokenPlace_0 j ∧ tokenPlace_0 j ≤ 2000) (hK_0_163 : ∀ j : Int, 0 ≤ j → j < 2010 → 0 ≤ tokenEnd_0 j ∧ tokenEnd_0 j ≤ 2000) (kz_0_8 : 0 ≤ fault_0 ∧ fault_0 ≤ 5) (kz_0_10 : 0 ≤ limit_0 ∧ limit_0 ≤ 2000) (kz_0_158 : 0 ≤ cur_0 ∧ cur_0 ≤ 2009) : (x3 = 1) → (tokenKind_0 (cur_0) = 1) := by
  first | assumption | (clear hK_0_1 hK_0_160 hK_0_162 hK_0_163; omega) | omega | grind
set_option maxHeartbeats 4000000 in
theorem vc_Mo_word_at_s5026_0_1 (x2 : Int) (x3 : Int) (fault_0 : Int) (tape_0 : Int → Int) (tokenKind_0 : Int → Int) (tokenPlace_0 : Int → Int) (tokenEnd_0 : Int → Int) (limit_0 : Int) (cur_0 : Int) (k2 : 1 ≤ x2 ∧ x2 ≤ 5) (k3 : 0 ≤ x3 ∧ x3 ≤ 0) (g2 : x2 = fault_0) (kz_0_8 : 0 ≤ fault_0 ∧ fault_0 ≤ 5) (kz_0_10 : 0 ≤ limit_0 ∧ limit_0 ≤ 2000) (kz_0_158 : 0 ≤ cur_0 ∧ cur_0 ≤ 2009) : Wqin (fault_0) (cur_0) (limit_0) (tokenKind_0) (tokenPlace_0) (tokenEnd_0) (tape_0) (x3) := by
  first
    | exact ⟨fun z => by omega, fun z => by have := z.1; omega⟩
    | (have e := (‹x4 = cur_0›)
       rw [← e]
       refine ⟨fun z => ⟨by omega, wdS2.2 ⟨by omega, by omega, by omega, by rw [show tokenPlace_0 x4 + 0 = x17 by omega]; omega, by rw [show tokenPlace_0 x4 + 1 = x24 by omega]; omega⟩⟩, fun z => by omega⟩)
    | (have e := (‹x4 = cur_0›)
       rw [← e]
       refine ⟨fun z => by omega, fun z => ?_⟩
       have w := wdS2.1 z.2
       try (have q0 : tokenPlace_0 x4 + 0 = x17 := (by omega); rw [q0] at w)
       try (have q1 : tokenPlace_0 x4 + 1 = x24 := (by omega); rw [q1] at w)
       omega)
  
def o_Mo_word_at_s5026_0 : or_T := (102, 6, [(0, (2, 0, 0, [165])), (2, (0, 1, 5, [])), (3, (0, 0, 0, []))], [(8, [3], [0]), (8, [2], [1]), (9, [2, 0], [8])], [], [], [(20, [3, 0], [50, 1, 1, 1158, 1160, 4, 6, 1, 2, 1, 0, 0, 1, 1, 6, 3, 1, 160, 2, 1, 158, 0, 1]), (20, [0, 3], [60, 3, 4, 29, 8, 158, 10, 160, 162, 163, 1])], [], [])
theorem oo_Mo_word_at_s5026_0 {kA : Nat → ClassId} : or_ok PRD kA GG o_Mo_word_at_s5026_0 := by
  refine or_mk fun A ta ws vs hD hth hl => ?_
  intro t0 r0 t2 k2 t3 k3 f0 f1 f2
  replace f2 := shm_293 f2
  have cr_0_1 := fdq_39 hD hth r0
  have cr_0_160 := fdq_33 hD hth r0
  have cr_0_162 := fdq_41 hD hth r0
  have cr_0_163 := fdq_42 hD hth r0
  have g2 : v_iv (n_v vs 2) = w_fi ws (n_v vs 0) 8 := congrArg v_iv f2
  have hK_0_1 := elq_7 hD hth cr_0_1
  have hK_0_160 := elq_6 hD hth cr_0_160
  have hK_0_162 := elq_8 hD hth cr_0_162
  have hK_0_163 := elq_9 hD hth cr_0_163
  have kz_0_8 := fdq_34 hD hth r0
  have kz_0_10 := fdq_43 hD hth r0
  have kz_0_158 := fdq_36 hD hth r0
  have nf0 : fc_1 PRD (20, [3, 0], [50, 1, 1, 1158, 1160, 4, 6, 1, 2, 1, 0, 0, 1, 1, 6, 3, 1, 160, 2, 1, 158, 0, 1]) ws (vs) := ⟨nf_in hl rfl, sgq_287 (vc_Mo_word_at_s5026_0_0 (v_iv (n_v vs 2)) (v_iv (n_v vs 3)) (w_fi ws (n_v vs 0) 8) (w_ei ws (w_ar ws (n_v vs 0) 1)) (w_ei ws (w_ar ws (n_v vs 0) 160)) (w_ei ws (w_ar ws (n_v vs 0) 162)) (w_ei ws (w_ar ws (n_v vs 0) 163)) (w_fi ws (n_v vs 0) 10) (w_fi ws (n_v vs 0) 158) k2 k3 (shm_192 f0) (shm_142 f1) g2 hK_0_1 hK_0_160 hK_0_162 hK_0_163 kz_0_8 kz_0_10 kz_0_158)⟩
  have nf1 : fc_1 PRD (20, [0, 3], [60, 3, 4, 29, 8, 158, 10, 160, 162, 163, 1]) ws (vs) := ⟨nf_in hl rfl, sgq_1870 (vc_Mo_word_at_s5026_0_1 (v_iv (n_v vs 2)) (v_iv (n_v vs 3)) (w_fi ws (n_v vs 0) 8) (w_ei ws (w_ar ws (n_v vs 0) 1)) (w_ei ws (w_ar ws (n_v vs 0) 160)) (w_ei ws (w_ar ws (n_v vs 0) 162)) (w_ei ws (w_ar ws (n_v vs 0) 163)) (w_fi ws (n_v vs 0) 10) (w_fi ws (n_v vs 0) 158) k2 k3 g2 kz_0_8 kz_0_10 kz_0_158)⟩
  refine ⟨(fun _ h => (by cases h)), [], trivial, ?_, (fun _ h => (by cases h))⟩
  rw [List.append_nil]
  exact List.forall_mem_cons.mpr ⟨⟨show (20 : Nat) < 100 from by decide, nf0⟩, List.forall_mem_cons.mpr ⟨⟨show (20 : Nat) < 100 from by decide, nf1⟩, (fun _ h => (by cases h))⟩⟩
set_option maxHeartbeats 4000000 in
theorem vc_Mo_word_at_s5026_1_0 (x2 : Int) (x4 : Int) (x5 : Int) (x6 : Int) (x7 : Int) (tokenKind_0 : Int → Int) (cur_0 : Int) (fault_0 : Int) (tape_0 : Int → Int) (tokenPlace_0 : Int → Int) (tokenEnd_0 : Int → Int) (limit_0 : Int) (k2 : 0 ≤ x2 ∧ x2 ≤ 0) (k4 : 0 ≤ x4 ∧ x4 ≤ 2009) (k5 : 0 ≤ x5 ∧ x5 ≤ 4) (k6 : 1 ≤ x6 ∧ x6 ≤ 1) (k7 : 0 ≤ x7 ∧ x7 ≤ 0) (f0 : x7 = 0) (f1 : x5 ≠ x6) (h2 : x5 = tokenKind_0 (x4)) (g3 : x4 = cur_0) (f5 : x2 = 0) (g6 : x2 = fault_0) (hK_0_1 : ∀ j : Int, 0 ≤ j → j < 2000 → (-128) ≤ tape_0 j ∧ tape_0 j ≤ 127) (hK_0_160 : ∀ j : Int, 0 ≤ j → j < 2010 → 0 ≤ tokenKind_0 j ∧ tokenKind_0 j ≤ 4) (hK_0_162 : ∀ j : Int, 0 ≤ j → j < 2010 → 0 ≤ tokenPlace_0 j ∧ tokenPlace_0 j ≤ 2000) (hK_0_163 : ∀ j : Int, 0 ≤ j → j < 2010 → 0 ≤ tokenEnd_0 j ∧ tokenEnd_0 j ≤ 2000) (kz_0_8 : 0 ≤ fault_0 ∧ fault_0 ≤ 5) (kz_0_10 : 0 ≤ limit_0 ∧ limit_0 ≤ 2000) (kz_0_158 : 0 ≤ cur_0 ∧ cur_0 ≤ 2009) : (x7 = 1) → (tokenKind_0 (cur_0) = 1) := by
  first | assumption | (clear hK_0_1 hK_0_160 hK_0_162 hK_0_163; omega) | omega | grind
set_option maxHeartbeats 4000000 in
theorem vc_Mo_word_at_s5026_1_1 (x4 : Int) (x5 : Int) (x6 : Int) (x7 : Int) (tokenKind_0 : Int → Int) (cur_0 : Int) (fault_0 : Int) (tape_0 : Int → Int) (tokenPlace_0 : Int → Int) (tokenEnd_0 : Int → Int) (limit_0 : Int) (k4 : 0 ≤ x4 ∧ x4 ≤ 2009) (k5 : 0 ≤ x5 ∧ x5 ≤ 4) (k6 : 1 ≤ x6 ∧ x6 ≤ 1) (k7 : 0 ≤ x7 ∧ x7 ≤ 0) (f1 : x5 ≠ x6) (h2 : x5 = tokenKind_0 (x4)) (g3 : x4 = cur_0) (kz_0_8 : 0 ≤ fault_0 ∧ fault_0 ≤ 5) (kz_0_10 : 0 ≤ limit_0 ∧ limit_0 ≤ 2000) (kz_0_158 : 0 ≤ cur_0 ∧ cur_0 ≤ 2009) : Wqin (fault_0) (cur_0) (limit_0) (tokenKind_0) (tokenPlace_0) (tokenEnd_0) (tape_0) (x7) := by
  first
    | exact ⟨fun z => by omega, fun z => by have := z.1; omega⟩
    | (have e := (‹x4 = cur_0›)
       rw [← e]
       refine ⟨fun z => ⟨by omega, wdS2.2 ⟨by omega, by omega, by omega, by rw [show tokenPlace_0 x4 + 0 = x17 by omega]; omega, by rw [show tokenPlace_0 x4 + 1 = x24 by omega]; omega⟩⟩, fun z => by omega⟩)
    | (have e := (‹x4 = cur_0›)
       rw [← e]
       refine ⟨fun z => by omega, fun z => ?_⟩
       have w := wdS2.1 z.2
       try (have q0 : tokenPlace_0 x4 + 0 = x17 := (by omega); rw [q0] at w)
       try (have q1 : tokenPlace_0 x4 + 1 = x24 := (by omega); rw [q1] at w)
       omega)
  
def o_Mo_word_at_s5026_1 : or_T := (102, 10, [(0, (2, 0, 0, [165])), (2, (0, 0, 0, [])), (4, (0, 0, 2009, [])), (5, (0, 0, 4, [])), (6, (0, 1, 1, [])), (7, (0, 0, 0, []))], [(8, [7], [0]), (7, [5, 6], [1]), (10, [5, 3, 4], []), (9, [4, 0], [158]), (9, [3, 0], [160]), (8, [2], [0]), (9, [2, 0], [8])], [], [], [(20, [7, 0], [50, 1, 1, 1158, 1160, 4, 6, 1, 2, 1, 0, 0, 1, 1, 6, 3, 1, 160, 2, 1, 158, 0, 1]), (20, [0, 7], [60, 3, 4, 29, 8, 158, 10, 160, 162, 163, 1])], [], [])
theorem oo_Mo_word_at_s5026_1 {kA : Nat → ClassId} : or_ok PRD kA GG o_Mo_word_at_s5026_1 := by
  refine or_mk fun A ta ws vs hD hth hl => ?_
  intro t0 r0 t2 k2 t4 k4 t5 k5 t6 k6 t7 k7 f0 f1 f2 f3 f4 f5 f6
  replace f2 := shm_107 f2
  replace f3 := shm_286 f3
  replace f4 := shm_327 f4
  replace f6 := shm_293 f6
  have cr_0_1 := fdq_39 hD hth r0
  have cr_0_160 := fdq_33 hD hth r0
  have cr_0_162 := fdq_41 hD hth r0
  have cr_0_163 := fdq_42 hD hth r0
  have ad_3 : v_ad (n_v vs 3) = w_ar ws (n_v vs 0) 160 := congrArg v_ad f4
  simp only [ad_3] at f2
  have h2 : v_iv (n_v vs 5) = w_ei ws (w_ar ws (n_v vs 0) 160) (v_iv (n_v vs 4)) := f2
  have g3 : v_iv (n_v vs 4) = w_fi ws (n_v vs 0) 158 := congrArg v_iv f3
  have g6 : v_iv (n_v vs 2) = w_fi ws (n_v vs 0) 8 := congrArg v_iv f6
  have hK_0_1 := elq_7 hD hth cr_0_1
  have hK_0_160 := elq_6 hD hth cr_0_160
  have hK_0_162 := elq_8 hD hth cr_0_162
  have hK_0_163 := elq_9 hD hth cr_0_163
  have kz_0_8 := fdq_34 hD hth r0
  have kz_0_10 := fdq_43 hD hth r0
  have kz_0_158 := fdq_36 hD hth r0
  have nf0 : fc_1 PRD (20, [7, 0], [50, 1, 1, 1158, 1160, 4, 6, 1, 2, 1, 0, 0, 1, 1, 6, 3, 1, 160, 2, 1, 158, 0, 1]) ws (vs) := ⟨nf_in hl rfl, sgq_287 (vc_Mo_word_at_s5026_1_0 (v_iv (n_v vs 2)) (v_iv (n_v vs 4)) (v_iv (n_v vs 5)) (v_iv (n_v vs 6)) (v_iv (n_v vs 7)) (w_ei ws (w_ar ws (n_v vs 0) 160)) (w_fi ws (n_v vs 0) 158) (w_fi ws (n_v vs 0) 8) (w_ei ws (w_ar ws (n_v vs 0) 1)) (w_ei ws (w_ar ws (n_v vs 0) 162)) (w_ei ws (w_ar ws (n_v vs 0) 163)) (w_fi ws (n_v vs 0) 10) k2 k4 k5 k6 k7 (shm_192 f0) (shm_40 f1) h2 g3 (shm_192 f5) g6 hK_0_1 hK_0_160 hK_0_162 hK_0_163 kz_0_8 kz_0_10 kz_0_158)⟩
  have nf1 : fc_1 PRD (20, [0, 7], [60, 3, 4, 29, 8, 158, 10, 160, 162, 163, 1]) ws (vs) := ⟨nf_in hl rfl, sgq_1870 (vc_Mo_word_at_s5026_1_1 (v_iv (n_v vs 4)) (v_iv (n_v vs 5)) (v_iv (n_v vs 6)) (v_iv (n_v vs 7)) (w_ei ws (w_ar ws (n_v vs 0) 160)) (w_fi ws (n_v vs 0) 158) (w_fi ws (n_v vs 0) 8) (w_ei ws (w_ar ws (n_v vs 0) 1)) (w_ei ws (w_ar ws (n_v vs 0) 162)) (w_ei ws (w_ar ws (n_v vs 0) 163)) (w_fi ws (n_v vs 0) 10) k4 k5 k6 k7 (shm_40 f1) h2 g3 kz_0_8 kz_0_10 kz_0_158)⟩
  refine ⟨(fun _ h => (by cases h)), [], trivial, ?_, (fun _ h => (by cases h))⟩
  rw [List.append_nil]
  exact List.forall_mem_cons.mpr ⟨⟨show (20 : Nat) < 100 from by decide, nf0⟩, List.forall_mem_cons.mpr ⟨⟨show (20 : Nat) < 100 from by decide, nf1⟩, (fun _ h => (by cases h))⟩⟩
set_option maxHeartbeats 4000000 in
theorem vc_Mo_word_at_s5026_2_0 (x2 : Int) (x4 : Int) (x5 : Int) (x6 : Int) (x8 : Int) (x10 : Int) (x11 : Int) (x12 : Int) (x13 : Int) (tokenPlace_0 : Int → Int) (cur_0 : Int) (tokenEnd_0 : Int → Int) (tokenKind_0 : Int → Int) (fault_0 : Int) (tape_0 : Int → Int) (limit_0 : Int) (k2 : 0 ≤ x2 ∧ x2 ≤ 0) (k4 : 0 ≤ x4 ∧ x4 ≤ 2009) (k5 : 1 ≤ x5 ∧ x5 ≤ 1) (k6 : 1 ≤ x6 ∧ x6 ≤ 1) (k8 : 0 ≤ x8 ∧ x8 ≤ 2000) (k10 : 0 ≤ x10 ∧ x10 ≤ 2000) (k11 : (-2000) ≤ x11 ∧ x11 ≤ 2000) (k12 : 2 ≤ x12 ∧ x12 ≤ 2) (k13 : 0 ≤ x13 ∧ x13 ≤ 0) (d0 : x8 + (-2000) ≤ x11 ∧ x11 ≤ x8 + 0) (f0 : x13 = 0) (f1 : x11 ≠ x12) (f2 : x11 = x8 - x10) (h3 : x10 = tokenPlace_0 (x4)) (g4 : x4 = cur_0) (h6 : x8 = tokenEnd_0 (x4)) (f8 : x5 = x6) (h9 : x5 = tokenKind_0 (x4)) (f11 : x2 = 0) (g12 : x2 = fault_0) (hK_0_1 : ∀ j : Int, 0 ≤ j → j < 2000 → (-128) ≤ tape_0 j ∧ tape_0 j ≤ 127) (hK_0_160 : ∀ j : Int, 0 ≤ j → j < 2010 → 0 ≤ tokenKind_0 j ∧ tokenKind_0 j ≤ 4) (hK_0_162 : ∀ j : Int, 0 ≤ j → j < 2010 → 0 ≤ tokenPlace_0 j ∧ tokenPlace_0 j ≤ 2000) (hK_0_163 : ∀ j : Int, 0 ≤ j → j < 2010 → 0 ≤ tokenEnd_0 j ∧ tokenEnd_0 j ≤ 2000) (kz_0_8 : 0 ≤ fault_0 ∧ fault_0 ≤ 5) (kz_0_10 : 0 ≤ limit_0 ∧ limit_0 ≤ 2000) (kz_0_158 : 0 ≤ cur_0 ∧ cur_0 ≤ 2009) : (x13 = 1) → (tokenKind_0 (cur_0) = 1) := by
  first | assumption | (clear hK_0_1 hK_0_160 hK_0_162 hK_0_163; omega) | omega | grind
set_option maxHeartbeats 4000000 in
theorem vc_Mo_word_at_s5026_2_1 (x4 : Int) (x8 : Int) (x10 : Int) (x11 : Int) (x12 : Int) (x13 : Int) (tokenPlace_0 : Int → Int) (cur_0 : Int) (tokenEnd_0 : Int → Int) (tokenKind_0 : Int → Int) (fault_0 : Int) (tape_0 : Int → Int) (limit_0 : Int) (k4 : 0 ≤ x4 ∧ x4 ≤ 2009) (k8 : 0 ≤ x8 ∧ x8 ≤ 2000) (k10 : 0 ≤ x10 ∧ x10 ≤ 2000) (k11 : (-2000) ≤ x11 ∧ x11 ≤ 2000) (k12 : 2 ≤ x12 ∧ x12 ≤ 2) (k13 : 0 ≤ x13 ∧ x13 ≤ 0) (f1 : x11 ≠ x12) (f2 : x11 = x8 - x10) (h3 : x10 = tokenPlace_0 (x4)) (g4 : x4 = cur_0) (h6 : x8 = tokenEnd_0 (x4)) (kz_0_8 : 0 ≤ fault_0 ∧ fault_0 ≤ 5) (kz_0_10 : 0 ≤ limit_0 ∧ limit_0 ≤ 2000) (kz_0_158 : 0 ≤ cur_0 ∧ cur_0 ≤ 2009) : Wqin (fault_0) (cur_0) (limit_0) (tokenKind_0) (tokenPlace_0) (tokenEnd_0) (tape_0) (x13) := by
  first
    | exact ⟨fun z => by omega, fun z => by have := z.1; omega⟩
    | (have e := (‹x4 = cur_0›)
       rw [← e]
       refine ⟨fun z => ⟨by omega, wdS2.2 ⟨by omega, by omega, by omega, by rw [show tokenPlace_0 x4 + 0 = x17 by omega]; omega, by rw [show tokenPlace_0 x4 + 1 = x24 by omega]; omega⟩⟩, fun z => by omega⟩)
    | (have e := (‹x4 = cur_0›)
       rw [← e]
       refine ⟨fun z => by omega, fun z => ?_⟩
       have w := wdS2.1 z.2
       try (have q0 : tokenPlace_0 x4 + 0 = x17 := (by omega); rw [q0] at w)
       try (have q1 : tokenPlace_0 x4 + 1 = x24 := (by omega); rw [q1] at w)
       omega)
  
def o_Mo_word_at_s5026_2 : or_T := (102, 16, [(0, (2, 0, 0, [165])), (2, (0, 0, 0, [])), (4, (0, 0, 2009, [])), (5, (0, 1, 1, [])), (6, (0, 1, 1, [])), (8, (0, 0, 2000, [])), (10, (0, 0, 2000, [])), (11, (0, -2000, 2000, [])), (12, (0, 2, 2, [])), (13, (0, 0, 0, []))], [(8, [13], [0]), (7, [11, 12], [1]), (2, [11, 8, 10], []), (10, [10, 9, 4], []), (9, [4, 0], [158]), (9, [9, 0], [162]), (10, [8, 7, 4], []), (9, [7, 0], [163]), (7, [5, 6], [0]), (10, [5, 3, 4], []), (9, [3, 0], [160]), (8, [2], [0]), (9, [2, 0], [8])], [], [], [(20, [13, 0], [50, 1, 1, 1158, 1160, 4, 6, 1, 2, 1, 0, 0, 1, 1, 6, 3, 1, 160, 2, 1, 158, 0, 1]), (20, [0, 13], [60, 3, 4, 29, 8, 158, 10, 160, 162, 163, 1])], [], [(11, 8, -2000, 0)])
theorem oo_Mo_word_at_s5026_2 {kA : Nat → ClassId} : or_ok PRD kA GG o_Mo_word_at_s5026_2 := by
  refine or_mk fun A ta ws vs hD hth hl => ?_
  intro t0 r0 t2 k2 t4 k4 t5 k5 t6 k6 t8 k8 t10 k10 t11 k11 t12 k12 t13 k13 d0 f0 f1 f2 f3 f4 f5 f6 f7 f8 f9 f10 f11 f12
  replace f3 := shm_107 f3
  replace f4 := shm_286 f4
  replace f5 := shm_301 f5
  replace f6 := shm_107 f6
  replace f7 := shm_1332 f7
  replace f9 := shm_107 f9
  replace f10 := shm_327 f10
  replace f12 := shm_293 f12
  have cr_0_1 := fdq_39 hD hth r0
  have cr_0_160 := fdq_33 hD hth r0
  have cr_0_162 := fdq_41 hD hth r0
  have cr_0_163 := fdq_42 hD hth r0
  have ad_9 : v_ad (n_v vs 9) = w_ar ws (n_v vs 0) 162 := congrArg v_ad f5
  have ad_7 : v_ad (n_v vs 7) = w_ar ws (n_v vs 0) 163 := congrArg v_ad f7
  have ad_3 : v_ad (n_v vs 3) = w_ar ws (n_v vs 0) 160 := congrArg v_ad f10
  simp only [ad_9] at f3
  have h3 : v_iv (n_v vs 10) = w_ei ws (w_ar ws (n_v vs 0) 162) (v_iv (n_v vs 4)) := f3
  have g4 : v_iv (n_v vs 4) = w_fi ws (n_v vs 0) 158 := congrArg v_iv f4
  simp only [ad_7] at f6
  have h6 : v_iv (n_v vs 8) = w_ei ws (w_ar ws (n_v vs 0) 163) (v_iv (n_v vs 4)) := f6
  simp only [ad_3] at f9
  have h9 : v_iv (n_v vs 5) = w_ei ws (w_ar ws (n_v vs 0) 160) (v_iv (n_v vs 4)) := f9
  have g12 : v_iv (n_v vs 2) = w_fi ws (n_v vs 0) 8 := congrArg v_iv f12
  have hK_0_1 := elq_7 hD hth cr_0_1
  have hK_0_160 := elq_6 hD hth cr_0_160
  have hK_0_162 := elq_8 hD hth cr_0_162
  have hK_0_163 := elq_9 hD hth cr_0_163
  have kz_0_8 := fdq_34 hD hth r0
  have kz_0_10 := fdq_43 hD hth r0
  have kz_0_158 := fdq_36 hD hth r0
  have nf0 : fc_1 PRD (20, [13, 0], [50, 1, 1, 1158, 1160, 4, 6, 1, 2, 1, 0, 0, 1, 1, 6, 3, 1, 160, 2, 1, 158, 0, 1]) ws (vs) := ⟨nf_in hl rfl, sgq_287 (vc_Mo_word_at_s5026_2_0 (v_iv (n_v vs 2)) (v_iv (n_v vs 4)) (v_iv (n_v vs 5)) (v_iv (n_v vs 6)) (v_iv (n_v vs 8)) (v_iv (n_v vs 10)) (v_iv (n_v vs 11)) (v_iv (n_v vs 12)) (v_iv (n_v vs 13)) (w_ei ws (w_ar ws (n_v vs 0) 162)) (w_fi ws (n_v vs 0) 158) (w_ei ws (w_ar ws (n_v vs 0) 163)) (w_ei ws (w_ar ws (n_v vs 0) 160)) (w_fi ws (n_v vs 0) 8) (w_ei ws (w_ar ws (n_v vs 0) 1)) (w_fi ws (n_v vs 0) 10) k2 k4 k5 k6 k8 k10 k11 k12 k13 d0 (shm_192 f0) (shm_40 f1) (shm_14 f2) h3 g4 h6 (shm_37 f8) h9 (shm_192 f11) g12 hK_0_1 hK_0_160 hK_0_162 hK_0_163 kz_0_8 kz_0_10 kz_0_158)⟩
  have nf1 : fc_1 PRD (20, [0, 13], [60, 3, 4, 29, 8, 158, 10, 160, 162, 163, 1]) ws (vs) := ⟨nf_in hl rfl, sgq_1870 (vc_Mo_word_at_s5026_2_1 (v_iv (n_v vs 4)) (v_iv (n_v vs 8)) (v_iv (n_v vs 10)) (v_iv (n_v vs 11)) (v_iv (n_v vs 12)) (v_iv (n_v vs 13)) (w_ei ws (w_ar ws (n_v vs 0) 162)) (w_fi ws (n_v vs 0) 158) (w_ei ws (w_ar ws (n_v vs 0) 163)) (w_ei ws (w_ar ws (n_v vs 0) 160)) (w_fi ws (n_v vs 0) 8) (w_ei ws (w_ar ws (n_v vs 0) 1)) (w_fi ws (n_v vs 0) 10) k4 k8 k10 k11 k12 k13 (shm_40 f1) (shm_14 f2) h3 g4 h6 kz_0_8 kz_0_10 kz_0_158)⟩
  refine ⟨(fun _ h => (by cases h)), [], trivial, ?_, (fun _ h => (by cases h))⟩
  rw [List.append_nil]
  exact List.forall_mem_cons.mpr ⟨⟨show (20 : Nat) < 100 from by decide, nf0⟩, List.forall_mem_cons.mpr ⟨⟨show (20 : Nat) < 100 from by decide, nf1⟩, (fun _ h => (by cases h))⟩⟩
set_option maxHeartbeats 4000000 in
theorem vc_Mo_word_at_s5026_3_0 (x2 : Int) (x4 : Int) (x5 : Int) (x6 : Int) (x8 : Int) (x10 : Int) (x11 : Int) (x12 : Int) (x14 : Int) (x15 : Int) (x16 : Int) (x17 : Int) (x18 : Int) (x19 : Int) (x20 : Int) (tape_0 : Int → Int) (limit_0 : Int) (tokenPlace_0 : Int → Int) (cur_0 : Int) (tokenEnd_0 : Int → Int) (tokenKind_0 : Int → Int) (fault_0 : Int) (k2 : 0 ≤ x2 ∧ x2 ≤ 0) (k4 : 0 ≤ x4 ∧ x4 ≤ 2009) (k5 : 1 ≤ x5 ∧ x5 ≤ 1) (k6 : 1 ≤ x6 ∧ x6 ≤ 1) (k8 : 2 ≤ x8 ∧ x8 ≤ 2000) (k10 : 0 ≤ x10 ∧ x10 ≤ 2000) (k11 : 2 ≤ x11 ∧ x11 ≤ 2) (k12 : 2 ≤ x12 ∧ x12 ≤ 2) (k14 : 0 ≤ x14 ∧ x14 ≤ 0) (k15 : 2 ≤ x15 ∧ x15 ≤ 2) (k16 : 0 ≤ x16 ∧ x16 ≤ 2000) (k17 : 0 ≤ x17 ∧ x17 ≤ 2000) (k18 : (-1) ≤ x18 ∧ x18 ≤ (-1)) (k19 : 0 ≤ x19 ∧ x19 ≤ 65535) (k20 : 0 ≤ x20 ∧ x20 ≤ 0) (d0 : x16 + 0 ≤ x17 ∧ x17 ≤ x16 + 0) (f0 : x20 = 0) (f1 : x18 ≠ x19) (f2 : 1 * x19 + 0 ≤ 105) (f3 : (-1) * x19 + 0 ≤ (-105)) (f4 : ((x17 + 1) ≤ limit_0) → (x18 = (tape_0 (x17) % 256))) (f5 : (limit_0 ≤ x17) → (x18 = (-1))) (f6 : x17 = x16 + x14) (h7 : x16 = tokenPlace_0 (x4)) (g8 : x4 = cur_0) (f10 : x14 < x15) (f11 : x11 = x12) (f12 : x11 = x8 - x10) (h13 : x10 = tokenPlace_0 (x4)) (h14 : x8 = tokenEnd_0 (x4)) (f16 : x5 = x6) (h17 : x5 = tokenKind_0 (x4)) (f19 : x2 = 0) (g20 : x2 = fault_0) (hK_0_1 : ∀ j : Int, 0 ≤ j → j < 2000 → (-128) ≤ tape_0 j ∧ tape_0 j ≤ 127) (hK_0_160 : ∀ j : Int, 0 ≤ j → j < 2010 → 0 ≤ tokenKind_0 j ∧ tokenKind_0 j ≤ 4) (hK_0_162 : ∀ j : Int, 0 ≤ j → j < 2010 → 0 ≤ tokenPlace_0 j ∧ tokenPlace_0 j ≤ 2000) (hK_0_163 : ∀ j : Int, 0 ≤ j → j < 2010 → 0 ≤ tokenEnd_0 j ∧ tokenEnd_0 j ≤ 2000) (kz_0_8 : 0 ≤ fault_0 ∧ fault_0 ≤ 5) (kz_0_10 : 0 ≤ limit_0 ∧ limit_0 ≤ 2000) (kz_0_158 : 0 ≤ cur_0 ∧ cur_0 ≤ 2009) : (x20 = 1) → (tokenKind_0 (cur_0) = 1) := by
  first | assumption | (clear f4 f5 hK_0_1 hK_0_160 hK_0_162 hK_0_163; omega) | (clear hK_0_1 hK_0_160 hK_0_162 hK_0_163; grind) | omega | grind
set_option maxHeartbeats 4000000 in
theorem vc_Mo_word_at_s5026_3_1 (x4 : Int) (x8 : Int) (x10 : Int) (x11 : Int) (x16 : Int) (x17 : Int) (x18 : Int) (x20 : Int) (tape_0 : Int → Int) (limit_0 : Int) (tokenPlace_0 : Int → Int) (cur_0 : Int) (tokenEnd_0 : Int → Int) (tokenKind_0 : Int → Int) (fault_0 : Int) (k4 : 0 ≤ x4 ∧ x4 ≤ 2009) (k8 : 2 ≤ x8 ∧ x8 ≤ 2000) (k10 : 0 ≤ x10 ∧ x10 ≤ 2000) (k11 : 2 ≤ x11 ∧ x11 ≤ 2) (k16 : 0 ≤ x16 ∧ x16 ≤ 2000) (k17 : 0 ≤ x17 ∧ x17 ≤ 2000) (k18 : (-1) ≤ x18 ∧ x18 ≤ (-1)) (k20 : 0 ≤ x20 ∧ x20 ≤ 0) (d0 : x16 + 0 ≤ x17 ∧ x17 ≤ x16 + 0) (f4 : ((x17 + 1) ≤ limit_0) → (x18 = (tape_0 (x17) % 256))) (f5 : (limit_0 ≤ x17) → (x18 = (-1))) (h7 : x16 = tokenPlace_0 (x4)) (g8 : x4 = cur_0) (f12 : x11 = x8 - x10) (h13 : x10 = tokenPlace_0 (x4)) (h14 : x8 = tokenEnd_0 (x4)) (kz_0_8 : 0 ≤ fault_0 ∧ fault_0 ≤ 5) (kz_0_10 : 0 ≤ limit_0 ∧ limit_0 ≤ 2000) (kz_0_158 : 0 ≤ cur_0 ∧ cur_0 ≤ 2009) : Wqin (fault_0) (cur_0) (limit_0) (tokenKind_0) (tokenPlace_0) (tokenEnd_0) (tape_0) (x20) := by
  first
    | exact ⟨fun z => by omega, fun z => by have := z.1; omega⟩
    | (have e := (‹x4 = cur_0›)
       rw [← e]
       refine ⟨fun z => ⟨by omega, wdS2.2 ⟨by omega, by omega, by omega, by rw [show tokenPlace_0 x4 + 0 = x17 by omega]; omega, by rw [show tokenPlace_0 x4 + 1 = x24 by omega]; omega⟩⟩, fun z => by omega⟩)
    | (have e := (‹x4 = cur_0›)
       rw [← e]
       refine ⟨fun z => by omega, fun z => ?_⟩
       have w := wdS2.1 z.2
       try (have q0 : tokenPlace_0 x4 + 0 = x17 := (by omega); rw [q0] at w)
       try (have q1 : tokenPlace_0 x4 + 1 = x24 := (by omega); rw [q1] at w)
       omega)
  
def o_Mo_word_at_s5026_3 : or_T := (102, 23, [(0, (2, 0, 0, [165])), (2, (0, 0, 0, [])), (3, (2, 0, 0, [274])), (4, (0, 0, 2009, [])), (5, (0, 1, 1, [])), (6, (0, 1, 1, [])), (7, (2, 0, 0, [277])), (8, (0, 2, 2000, [])), (9, (2, 0, 0, [276])), (10, (0, 0, 2000, [])), (11, (0, 2, 2, [])), (12, (0, 2, 2, [])), (14, (0, 0, 0, [])), (15, (0, 2, 2, [])), (16, (0, 0, 2000, [])), (17, (0, 0, 2000, [])), (18, (0, -1, -1, [])), (19, (0, 0, 65535, [])), (20, (0, 0, 0, []))], [(8, [20], [0]), (7, [18, 19], [1]), (23, [19], [105, 1]), (23, [19], [-105, -1]), (20, [17, 0, 18], [50, 1, 1, 1010, 1001, 4, 11, 0, 6, 4, 2, 1, 0, 0, 1, 2, 1, 10, 1, 2, 1, 2, 9, 5, 3, 1, 1, 1, 0, 0, 256]), (20, [0, 17, 18], [50, 1, 0, 10, 4, 7, 0, 3, 2, 0, 10, 1, 1, 1, 2, 1, 2, 0, -1]), (1, [17, 16, 14], []), (10, [16, 9, 4], []), (9, [4, 0], [158]), (9, [9, 0], [162]), (7, [14, 15], [2]), (7, [11, 12], [0]), (2, [11, 8, 10], []), (10, [10, 9, 4], []), (10, [8, 7, 4], []), (9, [7, 0], [163]), (7, [5, 6], [0]), (10, [5, 3, 4], []), (9, [3, 0], [160]), (8, [2], [0]), (9, [2, 0], [8])], [], [], [(20, [20, 0], [50, 1, 1, 1158, 1160, 4, 6, 1, 2, 1, 0, 0, 1, 1, 6, 3, 1, 160, 2, 1, 158, 0, 1]), (20, [0, 20], [60, 3, 4, 29, 8, 158, 10, 160, 162, 163, 1])], [], [(17, 16, 0, 0)])
theorem oo_Mo_word_at_s5026_3 {kA : Nat → ClassId} : or_ok PRD kA GG o_Mo_word_at_s5026_3 := by
  refine or_mk fun A ta ws vs hD hth hl => ?_
  intro t0 r0 t2 k2 t3 r3 t4 k4 t5 k5 t6 k6 t7 r7 t8 k8 t9 r9 t10 k10 t11 k11 t12 k12 t14 k14 t15 k15 t16 k16 t17 k17 t18 k18 t19 k19 t20 k20 d0 f0 f1 f2 f3 f4 f5 f6 f7 f8 f9 f10 f11 f12 f13 f14 f15 f16 f17 f18 f19 f20
  replace f7 := shm_107 f7
  replace f8 := shm_286 f8
  replace f9 := shm_301 f9
  replace f13 := shm_107 f13
  replace f14 := shm_107 f14
  replace f15 := shm_1332 f15
  replace f17 := shm_107 f17
  replace f18 := shm_327 f18
  replace f20 := shm_293 f20
  have cr_0_1 := fdq_39 hD hth r0
  have cr_0_160 := fdq_33 hD hth r0
  have cr_0_162 := fdq_41 hD hth r0
  have cr_0_163 := fdq_42 hD hth r0
  have ad_9 : v_ad (n_v vs 9) = w_ar ws (n_v vs 0) 162 := congrArg v_ad f9
  have ad_7 : v_ad (n_v vs 7) = w_ar ws (n_v vs 0) 163 := congrArg v_ad f15
  have ad_3 : v_ad (n_v vs 3) = w_ar ws (n_v vs 0) 160 := congrArg v_ad f18
  simp only [ad_9] at f7
  have h7 : v_iv (n_v vs 16) = w_ei ws (w_ar ws (n_v vs 0) 162) (v_iv (n_v vs 4)) := f7
  have g8 : v_iv (n_v vs 4) = w_fi ws (n_v vs 0) 158 := congrArg v_iv f8
  simp only [ad_9] at f13
  have h13 : v_iv (n_v vs 10) = w_ei ws (w_ar ws (n_v vs 0) 162) (v_iv (n_v vs 4)) := f13
  simp only [ad_7] at f14
  have h14 : v_iv (n_v vs 8) = w_ei ws (w_ar ws (n_v vs 0) 163) (v_iv (n_v vs 4)) := f14
  simp only [ad_3] at f17
  have h17 : v_iv (n_v vs 5) = w_ei ws (w_ar ws (n_v vs 0) 160) (v_iv (n_v vs 4)) := f17
  have g20 : v_iv (n_v vs 2) = w_fi ws (n_v vs 0) 8 := congrArg v_iv f20
  have hK_0_1 := elq_7 hD hth cr_0_1
  have hK_0_160 := elq_6 hD hth cr_0_160
  have hK_0_162 := elq_8 hD hth cr_0_162
  have hK_0_163 := elq_9 hD hth cr_0_163
  have kz_0_8 := fdq_34 hD hth r0
  have kz_0_10 := fdq_43 hD hth r0
  have kz_0_158 := fdq_36 hD hth r0
  have nf0 : fc_1 PRD (20, [20, 0], [50, 1, 1, 1158, 1160, 4, 6, 1, 2, 1, 0, 0, 1, 1, 6, 3, 1, 160, 2, 1, 158, 0, 1]) ws (vs) := ⟨nf_in hl rfl, sgq_287 (vc_Mo_word_at_s5026_3_0 (v_iv (n_v vs 2)) (v_iv (n_v vs 4)) (v_iv (n_v vs 5)) (v_iv (n_v vs 6)) (v_iv (n_v vs 8)) (v_iv (n_v vs 10)) (v_iv (n_v vs 11)) (v_iv (n_v vs 12)) (v_iv (n_v vs 14)) (v_iv (n_v vs 15)) (v_iv (n_v vs 16)) (v_iv (n_v vs 17)) (v_iv (n_v vs 18)) (v_iv (n_v vs 19)) (v_iv (n_v vs 20)) (w_ei ws (w_ar ws (n_v vs 0) 1)) (w_fi ws (n_v vs 0) 10) (w_ei ws (w_ar ws (n_v vs 0) 162)) (w_fi ws (n_v vs 0) 158) (w_ei ws (w_ar ws (n_v vs 0) 163)) (w_ei ws (w_ar ws (n_v vs 0) 160)) (w_fi ws (n_v vs 0) 8) k2 k4 k5 k6 k8 k10 k11 k12 k14 k15 k16 k17 k18 k19 k20 d0 (shm_192 f0) (shm_40 f1) (shm_71 f2) (shm_72 f3) (shm_541 f4) (shm_542 f5) (shm_12 f6) h7 g8 (shm_6 f10) (shm_37 f11) (shm_14 f12) h13 h14 (shm_37 f16) h17 (shm_192 f19) g20 hK_0_1 hK_0_160 hK_0_162 hK_0_163 kz_0_8 kz_0_10 kz_0_158)⟩
  have nf1 : fc_1 PRD (20, [0, 20], [60, 3, 4, 29, 8, 158, 10, 160, 162, 163, 1]) ws (vs) := ⟨nf_in hl rfl, sgq_1870 (vc_Mo_word_at_s5026_3_1 (v_iv (n_v vs 4)) (v_iv (n_v vs 8)) (v_iv (n_v vs 10)) (v_iv (n_v vs 11)) (v_iv (n_v vs 16)) (v_iv (n_v vs 17)) (v_iv (n_v vs 18)) (v_iv (n_v vs 20)) (w_ei ws (w_ar ws (n_v vs 0) 1)) (w_fi ws (n_v vs 0) 10) (w_ei ws (w_ar ws (n_v vs 0) 162)) (w_fi ws (n_v vs 0) 158) (w_ei ws (w_ar ws (n_v vs 0) 163)) (w_ei ws (w_ar ws (n_v vs 0) 160)) (w_fi ws (n_v vs 0) 8) k4 k8 k10 k11 k16 k17 k18 k20 d0 (shm_541 f4) (shm_542 f5) h7 g8 (shm_14 f12) h13 h14 kz_0_8 kz_0_10 kz_0_158)⟩
  refine ⟨(fun _ h => (by cases h)), [], trivial, ?_, (fun _ h => (by cases h))⟩
  rw [List.append_nil]
  exact List.forall_mem_cons.mpr ⟨⟨show (20 : Nat) < 100 from by decide, nf0⟩, List.forall_mem_cons.mpr ⟨⟨show (20 : Nat) < 100 from by decide, nf1⟩, (fun _ h => (by cases h))⟩⟩
set_option maxHeartbeats 4000000 in
theorem vc_Mo_word_at_s5026_4_0 (x2 : Int) (x4 : Int) (x5 : Int) (x6 : Int) (x8 : Int) (x10 : Int) (x11 : Int) (x12 : Int) (x14 : Int) (x15 : Int) (x16 : Int) (x17 : Int) (x18 : Int) (x19 : Int) (x20 : Int) (tape_0 : Int → Int) (limit_0 : Int) (tokenPlace_0 : Int → Int) (cur_0 : Int) (tokenEnd_0 : Int → Int) (tokenKind_0 : Int → Int) (fault_0 : Int) (k2 : 0 ≤ x2 ∧ x2 ≤ 0) (k4 : 0 ≤ x4 ∧ x4 ≤ 2009) (k5 : 1 ≤ x5 ∧ x5 ≤ 1) (k6 : 1 ≤ x6 ∧ x6 ≤ 1) (k8 : 2 ≤ x8 ∧ x8 ≤ 2000) (k10 : 0 ≤ x10 ∧ x10 ≤ 2000) (k11 : 2 ≤ x11 ∧ x11 ≤ 2) (k12 : 2 ≤ x12 ∧ x12 ≤ 2) (k14 : 0 ≤ x14 ∧ x14 ≤ 0) (k15 : 2 ≤ x15 ∧ x15 ≤ 2) (k16 : 0 ≤ x16 ∧ x16 ≤ 1999) (k17 : 0 ≤ x17 ∧ x17 ≤ 1999) (k18 : 0 ≤ x18 ∧ x18 ≤ 255) (k19 : 0 ≤ x19 ∧ x19 ≤ 65535) (k20 : 0 ≤ x20 ∧ x20 ≤ 0) (d0 : x16 + 0 ≤ x17 ∧ x17 ≤ x16 + 0) (f0 : x20 = 0) (f1 : x18 ≠ x19) (f2 : 1 * x19 + 0 ≤ 105) (f3 : (-1) * x19 + 0 ≤ (-105)) (f4 : ((x17 + 1) ≤ limit_0) → (x18 = (tape_0 (x17) % 256))) (f5 : (limit_0 ≤ x17) → (x18 = (-1))) (f6 : x17 = x16 + x14) (h7 : x16 = tokenPlace_0 (x4)) (g8 : x4 = cur_0) (f10 : x14 < x15) (f11 : x11 = x12) (f12 : x11 = x8 - x10) (h13 : x10 = tokenPlace_0 (x4)) (h14 : x8 = tokenEnd_0 (x4)) (f16 : x5 = x6) (h17 : x5 = tokenKind_0 (x4)) (f19 : x2 = 0) (g20 : x2 = fault_0) (hK_0_1 : ∀ j : Int, 0 ≤ j → j < 2000 → (-128) ≤ tape_0 j ∧ tape_0 j ≤ 127) (hK_0_160 : ∀ j : Int, 0 ≤ j → j < 2010 → 0 ≤ tokenKind_0 j ∧ tokenKind_0 j ≤ 4) (hK_0_162 : ∀ j : Int, 0 ≤ j → j < 2010 → 0 ≤ tokenPlace_0 j ∧ tokenPlace_0 j ≤ 2000) (hK_0_163 : ∀ j : Int, 0 ≤ j → j < 2010 → 0 ≤ tokenEnd_0 j ∧ tokenEnd_0 j ≤ 2000) (kz_0_8 : 0 ≤ fault_0 ∧ fault_0 ≤ 5) (kz_0_10 : 0 ≤ limit_0 ∧ limit_0 ≤ 2000) (kz_0_158 : 0 ≤ cur_0 ∧ cur_0 ≤ 2009) : (x20 = 1) → (tokenKind_0 (cur_0) = 1) := by
  first | assumption | (clear f4 f5 hK_0_1 hK_0_160 hK_0_162 hK_0_163; omega) | (clear hK_0_1 hK_0_160 hK_0_162 hK_0_163; grind) | omega | grind
set_option maxHeartbeats 4000000 in
theorem vc_Mo_word_at_s5026_4_1 (x4 : Int) (x8 : Int) (x10 : Int) (x11 : Int) (x16 : Int) (x17 : Int) (x18 : Int) (x19 : Int) (x20 : Int) (tape_0 : Int → Int) (limit_0 : Int) (tokenPlace_0 : Int → Int) (cur_0 : Int) (tokenEnd_0 : Int → Int) (tokenKind_0 : Int → Int) (fault_0 : Int) (k4 : 0 ≤ x4 ∧ x4 ≤ 2009) (k8 : 2 ≤ x8 ∧ x8 ≤ 2000) (k10 : 0 ≤ x10 ∧ x10 ≤ 2000) (k11 : 2 ≤ x11 ∧ x11 ≤ 2) (k16 : 0 ≤ x16 ∧ x16 ≤ 1999) (k17 : 0 ≤ x17 ∧ x17 ≤ 1999) (k18 : 0 ≤ x18 ∧ x18 ≤ 255) (k19 : 0 ≤ x19 ∧ x19 ≤ 65535) (k20 : 0 ≤ x20 ∧ x20 ≤ 0) (d0 : x16 + 0 ≤ x17 ∧ x17 ≤ x16 + 0) (f1 : x18 ≠ x19) (f2 : 1 * x19 + 0 ≤ 105) (f3 : (-1) * x19 + 0 ≤ (-105)) (f4 : ((x17 + 1) ≤ limit_0) → (x18 = (tape_0 (x17) % 256))) (f5 : (limit_0 ≤ x17) → (x18 = (-1))) (h7 : x16 = tokenPlace_0 (x4)) (g8 : x4 = cur_0) (f12 : x11 = x8 - x10) (h13 : x10 = tokenPlace_0 (x4)) (h14 : x8 = tokenEnd_0 (x4)) (kz_0_8 : 0 ≤ fault_0 ∧ fault_0 ≤ 5) (kz_0_10 : 0 ≤ limit_0 ∧ limit_0 ≤ 2000) (kz_0_158 : 0 ≤ cur_0 ∧ cur_0 ≤ 2009) : Wqin (fault_0) (cur_0) (limit_0) (tokenKind_0) (tokenPlace_0) (tokenEnd_0) (tape_0) (x20) := by
  first
    | exact ⟨fun z => by omega, fun z => by have := z.1; omega⟩
    | (have e := (‹x4 = cur_0›)
       rw [← e]
       refine ⟨fun z => ⟨by omega, wdS2.2 ⟨by omega, by omega, by omega, by rw [show tokenPlace_0 x4 + 0 = x17 by omega]; omega, by rw [show tokenPlace_0 x4 + 1 = x24 by omega]; omega⟩⟩, fun z => by omega⟩)
    | (have e := (‹x4 = cur_0›)
       rw [← e]
       refine ⟨fun z => by omega, fun z => ?_⟩
       have w := wdS2.1 z.2
       try (have q0 : tokenPlace_0 x4 + 0 = x17 := (by omega); rw [q0] at w)
       try (have q1 : tokenPlace_0 x4 + 1 = x24 := (by omega); rw [q1] at w)
       omega)
  
def o_Mo_word_at_s5026_4 : or_T := (102, 23, [(0, (2, 0, 0, [165])), (2, (0, 0, 0, [])), (3, (2, 0, 0, [274])), (4, (0, 0, 2009, [])), (5, (0, 1, 1, [])), (6, (0, 1, 1, [])), (7, (2, 0, 0, [277])), (8, (0, 2, 2000, [])), (9, (2, 0, 0, [276])), (10, (0, 0, 2000, [])), (11, (0, 2, 2, [])), (12, (0, 2, 2, [])), (14, (0, 0, 0, [])), (15, (0, 2, 2, [])), (16, (0, 0, 1999, [])), (17, (0, 0, 1999, [])), (18, (0, 0, 255, [])), (19, (0, 0, 65535, [])), (20, (0, 0, 0, []))], [(8, [20], [0]), (7, [18, 19], [1]), (23, [19], [105, 1]), (23, [19], [-105, -1]), (20, [17, 0, 18], [50, 1, 1, 1010, 1001, 4, 11, 0, 6, 4, 2, 1, 0, 0, 1, 2, 1, 10, 1, 2, 1, 2, 9, 5, 3, 1, 1, 1, 0, 0, 256]), (20, [0, 17, 18], [50, 1, 0, 10, 4, 7, 0, 3, 2, 0, 10, 1, 1, 1, 2, 1, 2, 0, -1]), (1, [17, 16, 14], []), (10, [16, 9, 4], []), (9, [4, 0], [158]), (9, [9, 0], [162]), (7, [14, 15], [2]), (7, [11, 12], [0]), (2, [11, 8, 10], []), (10, [10, 9, 4], []), (10, [8, 7, 4], []), (9, [7, 0], [163]), (7, [5, 6], [0]), (10, [5, 3, 4], []), (9, [3, 0], [160]), (8, [2], [0]), (9, [2, 0], [8])], [], [], [(20, [20, 0], [50, 1, 1, 1158, 1160, 4, 6, 1, 2, 1, 0, 0, 1, 1, 6, 3, 1, 160, 2, 1, 158, 0, 1]), (20, [0, 20], [60, 3, 4, 29, 8, 158, 10, 160, 162, 163, 1])], [], [(17, 16, 0, 0)])
theorem oo_Mo_word_at_s5026_4 {kA : Nat → ClassId} : or_ok PRD kA GG o_Mo_word_at_s5026_4 := by
  refine or_mk fun A ta ws vs hD hth hl => ?_
  intro t0 r0 t2 k2 t3 r3 t4 k4 t5 k5 t6 k6 t7 r7 t8 k8 t9 r9 t10 k10 t11 k11 t12 k12 t14 k14 t15 k15 t16 k16 t17 k17 t18 k18 t19 k19 t20 k20 d0 f0 f1 f2 f3 f4 f5 f6 f7 f8 f9 f10 f11 f12 f13 f14 f15 f16 f17 f18 f19 f20
  replace f7 := shm_107 f7
  replace f8 := shm_286 f8
  replace f9 := shm_301 f9
  replace f13 := shm_107 f13
  replace f14 := shm_107 f14
  replace f15 := shm_1332 f15
  replace f17 := shm_107 f17
  replace f18 := shm_327 f18
  replace f20 := shm_293 f20
  have cr_0_1 := fdq_39 hD hth r0
  have cr_0_160 := fdq_33 hD hth r0
  have cr_0_162 := fdq_41 hD hth r0
  have cr_0_163 := fdq_42 hD hth r0
  have ad_9 : v_ad (n_v vs 9) = w_ar ws (n_v vs 0) 162 := congrArg v_ad f9
  have ad_7 : v_ad (n_v vs 7) = w_ar ws (n_v vs 0) 163 := congrArg v_ad f15
  have ad_3 : v_ad (n_v vs 3) = w_ar ws (n_v vs 0) 160 := congrArg v_ad f18
  simp only [ad_9] at f7
  have h7 : v_iv (n_v vs 16) = w_ei ws (w_ar ws (n_v vs 0) 162) (v_iv (n_v vs 4)) := f7
  have g8 : v_iv (n_v vs 4) = w_fi ws (n_v vs 0) 158 := congrArg v_iv f8
  simp only [ad_9] at f13
  have h13 : v_iv (n_v vs 10) = w_ei ws (w_ar ws (n_v vs 0) 162) (v_iv (n_v vs 4)) := f13
  simp only [ad_7] at f14
  have h14 : v_iv (n_v vs 8) = w_ei ws (w_ar ws (n_v vs 0) 163) (v_iv (n_v vs 4)) := f14
  simp only [ad_3] at f17
  have h17 : v_iv (n_v vs 5) = w_ei ws (w_ar ws (n_v vs 0) 160) (v_iv (n_v vs 4)) := f17
  have g20 : v_iv (n_v vs 2) = w_fi ws (n_v vs 0) 8 := congrArg v_iv f20
  have hK_0_1 := elq_7 hD hth cr_0_1
  have hK_0_160 := elq_6 hD hth cr_0_160
  have hK_0_162 := elq_8 hD hth cr_0_162
  have hK_0_163 := elq_9 hD hth cr_0_163
  have kz_0_8 := fdq_34 hD hth r0
  have kz_0_10 := fdq_43 hD hth r0
  have kz_0_158 := fdq_36 hD hth r0
  have nf0 : fc_1 PRD (20, [20, 0], [50, 1, 1, 1158, 1160, 4, 6, 1, 2, 1, 0, 0, 1, 1, 6, 3, 1, 160, 2, 1, 158, 0, 1]) ws (vs) := ⟨nf_in hl rfl, sgq_287 (vc_Mo_word_at_s5026_4_0 (v_iv (n_v vs 2)) (v_iv (n_v vs 4)) (v_iv (n_v vs 5)) (v_iv (n_v vs 6)) (v_iv (n_v vs 8)) (v_iv (n_v vs 10)) (v_iv (n_v vs 11)) (v_iv (n_v vs 12)) (v_iv (n_v vs 14)) (v_iv (n_v vs 15)) (v_iv (n_v vs 16)) (v_iv (n_v vs 17)) (v_iv (n_v vs 18)) (v_iv (n_v vs 19)) (v_iv (n_v vs 20)) (w_ei ws (w_ar ws (n_v vs 0) 1)) (w_fi ws (n_v vs 0) 10) (w_ei ws (w_ar ws (n_v vs 0) 162)) (w_fi ws (n_v vs 0) 158) (w_ei ws (w_ar ws (n_v vs 0) 163)) (w_ei ws (w_ar ws (n_v vs 0) 160)) (w_fi ws (n_v vs 0) 8) k2 k4 k5 k6 k8 k10 k11 k12 k14 k15 k16 k17 k18 k19 k20 d0 (shm_192 f0) (shm_40 f1) (shm_71 f2) (shm_72 f3) (shm_541 f4) (shm_542 f5) (shm_12 f6) h7 g8 (shm_6 f10) (shm_37 f11) (shm_14 f12) h13 h14 (shm_37 f16) h17 (shm_192 f19) g20 hK_0_1 hK_0_160 hK_0_162 hK_0_163 kz_0_8 kz_0_10 kz_0_158)⟩
  have nf1 : fc_1 PRD (20, [0, 20], [60, 3, 4, 29, 8, 158, 10, 160, 162, 163, 1]) ws (vs) := ⟨nf_in hl rfl, sgq_1870 (vc_Mo_word_at_s5026_4_1 (v_iv (n_v vs 4)) (v_iv (n_v vs 8)) (v_iv (n_v vs 10)) (v_iv (n_v vs 11)) (v_iv (n_v vs 16)) (v_iv (n_v vs 17)) (v_iv (n_v vs 18)) (v_iv (n_v vs 19)) (v_iv (n_v vs 20)) (w_ei ws (w_ar ws (n_v vs 0) 1)) (w_fi ws (n_v vs 0) 10) (w_ei ws (w_ar ws (n_v vs 0) 162)) (w_fi ws (n_v vs 0) 158) (w_ei ws (w_ar ws (n_v vs 0) 163)) (w_ei ws (w_ar ws (n_v vs 0) 160)) (w_fi ws (n_v vs 0) 8) k4 k8 k10 k11 k16 k17 k18 k19 k20 d0 (shm_40 f1) (shm_71 f2) (shm_72 f3) (shm_541 f4) (shm_542 f5) h7 g8 (shm_14 f12) h13 h14 kz_0_8 kz_0_10 kz_0_158)⟩
  refine ⟨(fun _ h => (by cases h)), [], trivial, ?_, (fun _ h => (by cases h))⟩
  rw [List.append_nil]
  exact List.forall_mem_cons.mpr ⟨⟨show (20 : Nat) < 100 from by decide, nf0⟩, List.forall_mem_cons.mpr ⟨⟨show (20 : Nat) < 100 from by decide, nf1⟩, (fun _ h => (by cases h))⟩⟩
set_option maxHeartbeats 4000000 in
theorem vc_Mo_word_at_s5026_5_0 (x2 : Int) (x4 : Int) (x5 : Int) (x6 : Int) (x8 : Int) (x10 : Int) (x11 : Int) (x12 : Int) (x14 : Int) (x15 : Int) (x16 : Int) (x17 : Int) (x18 : Int) (x19 : Int) (x21 : Int) (x22 : Int) (x23 : Int) (x24 : Int) (x25 : Int) (x26 : Int) (x27 : Int) (tape_0 : Int → Int) (limit_0 : Int) (tokenPlace_0 : Int → Int) (cur_0 : Int) (tokenEnd_0 : Int → Int) (tokenKind_0 : Int → Int) (fault_0 : Int) (k2 : 0 ≤ x2 ∧ x2 ≤ 0) (k4 : 0 ≤ x4 ∧ x4 ≤ 2009) (k5 : 1 ≤ x5 ∧ x5 ≤ 1) (k6 : 1 ≤ x6 ∧ x6 ≤ 1) (k8 : 2 ≤ x8 ∧ x8 ≤ 2000) (k10 : 0 ≤ x10 ∧ x10 ≤ 2000) (k11 : 2 ≤ x11 ∧ x11 ≤ 2) (k12 : 2 ≤ x12 ∧ x12 ≤ 2) (k14 : 0 ≤ x14 ∧ x14 ≤ 0) (k15 : 2 ≤ x15 ∧ x15 ≤ 2) (k16 : 0 ≤ x16 ∧ x16 ≤ 1999) (k17 : 0 ≤ x17 ∧ x17 ≤ 1999) (k18 : 0 ≤ x18 ∧ x18 ≤ 255) (k19 : 0 ≤ x19 ∧ x19 ≤ 255) (k21 : 1 ≤ x21 ∧ x21 ≤ 1) (k22 : 2 ≤ x22 ∧ x22 ≤ 2) (k23 : 0 ≤ x23 ∧ x23 ≤ 2000) (k24 : 1 ≤ x24 ∧ x24 ≤ 2001) (k25 : (-1) ≤ x25 ∧ x25 ≤ (-1)) (k26 : 0 ≤ x26 ∧ x26 ≤ 65535) (k27 : 0 ≤ x27 ∧ x27 ≤ 0) (d0 : x23 + 1 ≤ x24 ∧ x24 ≤ x23 + 1) (d1 : x19 + 0 ≤ x18 ∧ x18 ≤ x19 + 0) (d2 : x16 + 0 ≤ x17 ∧ x17 ≤ x16 + 0) (f0 : x25 ≠ x26) (f1 : 1 * x26 + 0 ≤ 110) (f2 : (-1) * x26 + 0 ≤ (-110)) (f3 : ((x24 + 1) ≤ limit_0) → (x25 = (tape_0 (x24) % 256))) (f4 : (limit_0 ≤ x24) → (x25 = (-1))) (f5 : x24 = x23 + x21) (h6 : x23 = tokenPlace_0 (x4)) (g7 : x4 = cur_0) (f9 : x21 < x22) (f10 : x21 = x14 + 1) (f11 : x18 = x19) (f12 : 1 * x19 + 0 ≤ 105) (f13 : (-1) * x19 + 0 ≤ (-105)) (f14 : ((x17 + 1) ≤ limit_0) → (x18 = (tape_0 (x17) % 256))) (f15 : (limit_0 ≤ x17) → (x18 = (-1))) (f16 : x17 = x16 + x14) (h17 : x16 = tokenPlace_0 (x4)) (f18 : x14 < x15) (f19 : x11 = x12) (f20 : x11 = x8 - x10) (h21 : x10 = tokenPlace_0 (x4)) (h22 : x8 = tokenEnd_0 (x4)) (f24 : x5 = x6) (h25 : x5 = tokenKind_0 (x4)) (f27 : x2 = 0) (g28 : x2 = fault_0) (hK_0_1 : ∀ j : Int, 0 ≤ j → j < 2000 → (-128) ≤ tape_0 j ∧ tape_0 j ≤ 127) (hK_0_160 : ∀ j : Int, 0 ≤ j → j < 2010 → 0 ≤ tokenKind_0 j ∧ tokenKind_0 j ≤ 4) (hK_0_162 : ∀ j : Int, 0 ≤ j → j < 2010 → 0 ≤ tokenPlace_0 j ∧ tokenPlace_0 j ≤ 2000) (hK_0_163 : ∀ j : Int, 0 ≤ j → j < 2010 → 0 ≤ tokenEnd_0 j ∧ tokenEnd_0 j ≤ 2000) (kz_0_8 : 0 ≤ fault_0 ∧ fault_0 ≤ 5) (kz_0_10 : 0 ≤ limit_0 ∧ limit_0 ≤ 2000) (kz_0_158 : 0 ≤ cur_0 ∧ cur_0 ≤ 2009) : (x27 = 1) → (tokenKind_0 (cur_0) = 1) := by
  first | assumption | (clear f3 f4 f14 f15 hK_0_1 hK_0_160 hK_0_162 hK_0_163; omega) | (clear hK_0_1 hK_0_160 hK_0_162 hK_0_163; grind) | omega | grind
set_option maxHeartbeats 4000000 in
theorem vc_Mo_word_at_s5026_5_1 (x4 : Int) (x8 : Int) (x10 : Int) (x11 : Int) (x16 : Int) (x17 : Int) (x18 : Int) (x19 : Int) (x23 : Int) (x24 : Int) (x25 : Int) (x27 : Int) (tape_0 : Int → Int) (limit_0 : Int) (tokenPlace_0 : Int → Int) (cur_0 : Int) (tokenEnd_0 : Int → Int) (tokenKind_0 : Int → Int) (fault_0 : Int) (k4 : 0 ≤ x4 ∧ x4 ≤ 2009) (k8 : 2 ≤ x8 ∧ x8 ≤ 2000) (k10 : 0 ≤ x10 ∧ x10 ≤ 2000) (k11 : 2 ≤ x11 ∧ x11 ≤ 2) (k16 : 0 ≤ x16 ∧ x16 ≤ 1999) (k17 : 0 ≤ x17 ∧ x17 ≤ 1999) (k18 : 0 ≤ x18 ∧ x18 ≤ 255) (k19 : 0 ≤ x19 ∧ x19 ≤ 255) (k23 : 0 ≤ x23 ∧ x23 ≤ 2000) (k24 : 1 ≤ x24 ∧ x24 ≤ 2001) (k25 : (-1) ≤ x25 ∧ x25 ≤ (-1)) (k27 : 0 ≤ x27 ∧ x27 ≤ 0) (d0 : x23 + 1 ≤ x24 ∧ x24 ≤ x23 + 1) (d1 : x19 + 0 ≤ x18 ∧ x18 ≤ x19 + 0) (d2 : x16 + 0 ≤ x17 ∧ x17 ≤ x16 + 0) (f3 : ((x24 + 1) ≤ limit_0) → (x25 = (tape_0 (x24) % 256))) (f4 : (limit_0 ≤ x24) → (x25 = (-1))) (h6 : x23 = tokenPlace_0 (x4)) (g7 : x4 = cur_0) (f12 : 1 * x19 + 0 ≤ 105) (f13 : (-1) * x19 + 0 ≤ (-105)) (f14 : ((x17 + 1) ≤ limit_0) → (x18 = (tape_0 (x17) % 256))) (f15 : (limit_0 ≤ x17) → (x18 = (-1))) (h17 : x16 = tokenPlace_0 (x4)) (f20 : x11 = x8 - x10) (h21 : x10 = tokenPlace_0 (x4)) (h22 : x8 = tokenEnd_0 (x4)) (kz_0_8 : 0 ≤ fault_0 ∧ fault_0 ≤ 5) (kz_0_10 : 0 ≤ limit_0 ∧ limit_0 ≤ 2000) (kz_0_158 : 0 ≤ cur_0 ∧ cur_0 ≤ 2009) : Wqin (fault_0) (cur_0) (limit_0) (tokenKind_0) (tokenPlace_0) (tokenEnd_0) (tape_0) (x27) := by
  first
    | exact ⟨fun z => by omega, fun z => by have := z.1; omega⟩
    | (have e := (‹x4 = cur_0›)
       rw [← e]
       refine ⟨fun z => ⟨by omega, wdS2.2 ⟨by omega, by omega, by omega, by rw [show tokenPlace_0 x4 + 0 = x17 by omega]; omega, by rw [show tokenPlace_0 x4 + 1 = x24 by omega]; omega⟩⟩, fun z => by omega⟩)
    | (have e := (‹x4 = cur_0›)
       rw [← e]
       refine ⟨fun z => by omega, fun z => ?_⟩
       have w := wdS2.1 z.2
       try (have q0 : tokenPlace_0 x4 + 0 = x17 := (by omega); rw [q0] at w)
       try (have q1 : tokenPlace_0 x4 + 1 = x24 := (by omega); rw [q1] at w)
       omega)
  
def o_Mo_word_at_s5026_5 : or_T := (102, 30, [(0, (2, 0, 0, [165])), (2, (0, 0, 0, [])), (3, (2, 0, 0, [274])), (4, (0, 0, 2009, [])), (5, (0, 1, 1, [])), (6, (0, 1, 1, [])), (7, (2, 0, 0, [277])), (8, (0, 2, 2000, [])), (9, (2, 0, 0, [276])), (10, (0, 0, 2000, [])), (11, (0, 2, 2, [])), (12, (0, 2, 2, [])), (14, (0, 0, 0, [])), (15, (0, 2, 2, [])), (16, (0, 0, 1999, [])), (17, (0, 0, 1999, [])), (18, (0, 0, 255, [])), (19, (0, 0, 255, [])), (21, (0, 1, 1, [])), (22, (0, 2, 2, [])), (23, (0, 0, 2000, [])), (24, (0, 1, 2001, [])), (25, (0, -1, -1, [])), (26, (0, 0, 65535, [])), (27, (0, 0, 0, []))], [(7, [25, 26], [1]), (23, [26], [110, 1]), (23, [26], [-110, -1]), (20, [24, 0, 25], [50, 1, 1, 1010, 1001, 4, 11, 0, 6, 4, 2, 1, 0, 0, 1, 2, 1, 10, 1, 2, 1, 2, 9, 5, 3, 1, 1, 1, 0, 0, 256]), (20, [0, 24, 25], [50, 1, 0, 10, 4, 7, 0, 3, 2, 0, 10, 1, 1, 1, 2, 1, 2, 0, -1]), (1, [24, 23, 21], []), (10, [23, 9, 4], []), (9, [4, 0], [158]), (9, [9, 0], [162]), (7, [21, 22], [2]), (6, [21, 14], [1]), (7, [18, 19], [0]), (23, [19], [105, 1]), (23, [19], [-105, -1]), (20, [17, 0, 18], [50, 1, 1, 1010, 1001, 4, 11, 0, 6, 4, 2, 1, 0, 0, 1, 2, 1, 10, 1, 2, 1, 2, 9, 5, 3, 1, 1, 1, 0, 0, 256]), (20, [0, 17, 18], [50, 1, 0, 10, 4, 7, 0, 3, 2, 0, 10, 1, 1, 1, 2, 1, 2, 0, -1]), (1, [17, 16, 14], []), (10, [16, 9, 4], []), (7, [14, 15], [2]), (7, [11, 12], [0]), (2, [11, 8, 10], []), (10, [10, 9, 4], []), (10, [8, 7, 4], []), (9, [7, 0], [163]), (7, [5, 6], [0]), (10, [5, 3, 4], []), (9, [3, 0], [160]), (8, [2], [0]), (9, [2, 0], [8])], [], [], [(20, [27, 0], [50, 1, 1, 1158, 1160, 4, 6, 1, 2, 1, 0, 0, 1, 1, 6, 3, 1, 160, 2, 1, 158, 0, 1]), (20, [0, 27], [60, 3, 4, 29, 8, 158, 10, 160, 162, 163, 1])], [], [(24, 23, 1, 1), (18, 19, 0, 0), (17, 16, 0, 0)])
theorem oo_Mo_word_at_s5026_5 {kA : Nat → ClassId} : or_ok PRD kA GG o_Mo_word_at_s5026_5 := by
  refine or_mk fun A ta ws vs hD hth hl => ?_
  intro t0 r0 t2 k2 t3 r3 t4 k4 t5 k5 t6 k6 t7 r7 t8 k8 t9 r9 t10 k10 t11 k11 t12 k12 t14 k14 t15 k15 t16 k16 t17 k17 t18 k18 t19 k19 t21 k21 t22 k22 t23 k23 t24 k24 t25 k25 t26 k26 t27 k27 d0 d1 d2 f0 f1 f2 f3 f4 f5 f6 f7 f8 f9 f10 f11 f12 f13 f14 f15 f16 f17 f18 f19 f20 f21 f22 f23 f24 f25 f26 f27 f28
  replace f6 := shm_107 f6
  replace f7 := shm_286 f7
  replace f8 := shm_301 f8
  replace f17 := shm_107 f17
  replace f21 := shm_107 f21
  replace f22 := shm_107 f22
  replace f23 := shm_1332 f23
  replace f25 := shm_107 f25
  replace f26 := shm_327 f26
  replace f28 := shm_293 f28
  have cr_0_1 := fdq_39 hD hth r0
  have cr_0_160 := fdq_33 hD hth r0
  have cr_0_162 := fdq_41 hD hth r0
  have cr_0_163 := fdq_42 hD hth r0
  have ad_9 : v_ad (n_v vs 9) = w_ar ws (n_v vs 0) 162 := congrArg v_ad f8
  have ad_7 : v_ad (n_v vs 7) = w_ar ws (n_v vs 0) 163 := congrArg v_ad f23
  have ad_3 : v_ad (n_v vs 3) = w_ar ws (n_v vs 0) 160 := congrArg v_ad f26
  simp only [ad_9] at f6
  have h6 : v_iv (n_v vs 23) = w_ei ws (w_ar ws (n_v vs 0) 162) (v_iv (n_v vs 4)) := f6
  have g7 : v_iv (n_v vs 4) = w_fi ws (n_v vs 0) 158 := congrArg v_iv f7
  simp only [ad_9] at f17
  have h17 : v_iv (n_v vs 16) = w_ei ws (w_ar ws (n_v vs 0) 162) (v_iv (n_v vs 4)) := f17
  simp only [ad_9] at f21
  have h21 : v_iv (n_v vs 10) = w_ei ws (w_ar ws (n_v vs 0) 162) (v_iv (n_v vs 4)) := f21
  simp only [ad_7] at f22
  have h22 : v_iv (n_v vs 8) = w_ei ws (w_ar ws (n_v vs 0) 163) (v_iv (n_v vs 4)) := f22
  simp only [ad_3] at f25
  have h25 : v_iv (n_v vs 5) = w_ei ws (w_ar ws (n_v vs 0) 160) (v_iv (n_v vs 4)) := f25
  have g28 : v_iv (n_v vs 2) = w_fi ws (n_v vs 0) 8 := congrArg v_iv f28
  have hK_0_1 := elq_7 hD hth cr_0_1
  have hK_0_160 := elq_6 hD hth cr_0_160
  have hK_0_162 := elq_8 hD hth cr_0_162
  have hK_0_163 := elq_9 hD hth cr_0_163
  have kz_0_8 := fdq_34 hD hth r0
  have kz_0_10 := fdq_43 hD hth r0
  have kz_0_158 := fdq_36 hD hth r0
  have nf0 : fc_1 PRD (20, [27, 0], [50, 1, 1, 1158, 1160, 4, 6, 1, 2, 1, 0, 0, 1, 1, 6, 3, 1, 160, 2, 1, 158, 0, 1]) ws (vs) := ⟨nf_in hl rfl, sgq_287 (vc_Mo_word_at_s5026_5_0 (v_iv (n_v vs 2)) (v_iv (n_v vs 4)) (v_iv (n_v vs 5)) (v_iv (n_v vs 6)) (v_iv (n_v vs 8)) (v_iv (n_v vs 10)) (v_iv (n_v vs 11)) (v_iv (n_v vs 12)) (v_iv (n_v vs 14)) (v_iv (n_v vs 15)) (v_iv (n_v vs 16)) (v_iv (n_v vs 17)) (v_iv (n_v vs 18)) (v_iv (n_v vs 19)) (v_iv (n_v vs 21)) (v_iv (n_v vs 22)) (v_iv (n_v vs 23)) (v_iv (n_v vs 24)) (v_iv (n_v vs 25)) (v_iv (n_v vs 26)) (v_iv (n_v vs 27)) (w_ei ws (w_ar ws (n_v vs 0) 1)) (w_fi ws (n_v vs 0) 10) (w_ei ws (w_ar ws (n_v vs 0) 162)) (w_fi ws (n_v vs 0) 158) (w_ei ws (w_ar ws (n_v vs 0) 163)) (w_ei ws (w_ar ws (n_v vs 0) 160)) (w_fi ws (n_v vs 0) 8) k2 k4 k5 k6 k8 k10 k11 k12 k14 k15 k16 k17 k18 k19 k21 k22 k23 k24 k25 k26 k27 d0 d1 d2 (shm_40 f0) (shm_53 f1) (shm_54 f2) (shm_541 f3) (shm_542 f4) (shm_12 f5) h6 g7 (shm_6 f9) (shm_4 f10) (shm_37 f11) (shm_71 f12) (shm_72 f13) (shm_541 f14) (shm_542 f15) (shm_12 f16) h17 (shm_6 f18) (shm_37 f19) (shm_14 f20) h21 h22 (shm_37 f24) h25 (shm_192 f27) g28 hK_0_1 hK_0_160 hK_0_162 hK_0_163 kz_0_8 kz_0_10 kz_0_158)⟩
  have nf1 : fc_1 PRD (20, [0, 27], [60, 3, 4, 29, 8, 158, 10, 160, 162, 163, 1]) ws (vs) := ⟨nf_in hl rfl, sgq_1870 (vc_Mo_word_at_s5026_5_1 (v_iv (n_v vs 4)) (v_iv (n_v vs 8)) (v_iv (n_v vs 10)) (v_iv (n_v vs 11)) (v_iv (n_v vs 16)) (v_iv (n_v vs 17)) (v_iv (n_v vs 18)) (v_iv (n_v vs 19)) (v_iv (n_v vs 23)) (v_iv (n_v vs 24)) (v_iv (n_v vs 25)) (v_iv (n_v vs 27)) (w_ei ws (w_ar ws (n_v vs 0) 1)) (w_fi ws (n_v vs 0) 10) (w_ei ws (w_ar ws (n_v vs 0) 162)) (w_fi ws (n_v vs 0) 158) (w_ei ws (w_ar ws (n_v vs 0) 163)) (w_ei ws (w_ar ws (n_v vs 0) 160)) (w_fi ws (n_v vs 0) 8) k4 k8 k10 k11 k16 k17 k18 k19 k23 k24 k25 k27 d0 d1 d2 (shm_541 f3) (shm_542 f4) h6 g7 (shm_71 f12) (shm_72 f13) (shm_541 f14) (shm_542 f15) h17 (shm_14 f20) h21 h22 kz_0_8 kz_0_10 kz_0_158)⟩
  refine ⟨(fun _ h => (by cases h)), [], trivial, ?_, (fun _ h => (by cases h))⟩
  rw [List.append_nil]
  exact List.forall_mem_cons.mpr ⟨⟨show (20 : Nat) < 100 from by decide, nf0⟩, List.forall_mem_cons.mpr ⟨⟨show (20 : Nat) < 100 from by decide, nf1⟩, (fun _ h => (by cases h))⟩⟩
set_option maxHeartbeats 4000000 in
theorem vc_Mo_word_at_s5026_6_0 (x2 : Int) (x4 : Int) (x5 : Int) (x6 : Int) (x8 : Int) (x10 : Int) (x11 : Int) (x12 : Int) (x14 : Int) (x15 : Int) (x16 : Int) (x17 : Int) (x18 : Int) (x19 : Int) (x21 : Int) (x22 : Int) (x23 : Int) (x24 : Int) (x25 : Int) (x26 : Int) (x27 : Int) (tape_0 : Int → Int) (limit_0 : Int) (tokenPlace_0 : Int → Int) (cur_0 : Int) (tokenEnd_0 : Int → Int) (tokenKind_0 : Int → Int) (fault_0 : Int) (k2 : 0 ≤ x2 ∧ x2 ≤ 0) (k4 : 0 ≤ x4 ∧ x4 ≤ 2009) (k5 : 1 ≤ x5 ∧ x5 ≤ 1) (k6 : 1 ≤ x6 ∧ x6 ≤ 1) (k8 : 2 ≤ x8 ∧ x8 ≤ 2000) (k10 : 0 ≤ x10 ∧ x10 ≤ 2000) (k11 : 2 ≤ x11 ∧ x11 ≤ 2) (k12 : 2 ≤ x12 ∧ x12 ≤ 2) (k14 : 0 ≤ x14 ∧ x14 ≤ 0) (k15 : 2 ≤ x15 ∧ x15 ≤ 2) (k16 : 0 ≤ x16 ∧ x16 ≤ 1999) (k17 : 0 ≤ x17 ∧ x17 ≤ 1999) (k18 : 0 ≤ x18 ∧ x18 ≤ 255) (k19 : 0 ≤ x19 ∧ x19 ≤ 255) (k21 : 1 ≤ x21 ∧ x21 ≤ 1) (k22 : 2 ≤ x22 ∧ x22 ≤ 2) (k23 : 0 ≤ x23 ∧ x23 ≤ 1998) (k24 : 1 ≤ x24 ∧ x24 ≤ 1999) (k25 : 0 ≤ x25 ∧ x25 ≤ 255) (k26 : 0 ≤ x26 ∧ x26 ≤ 65535) (k27 : 0 ≤ x27 ∧ x27 ≤ 0) (d0 : x23 + 1 ≤ x24 ∧ x24 ≤ x23 + 1) (d1 : x19 + 0 ≤ x18 ∧ x18 ≤ x19 + 0) (d2 : x16 + 0 ≤ x17 ∧ x17 ≤ x16 + 0) (f0 : x25 ≠ x26) (f1 : 1 * x26 + 0 ≤ 110) (f2 : (-1) * x26 + 0 ≤ (-110)) (f3 : ((x24 + 1) ≤ limit_0) → (x25 = (tape_0 (x24) % 256))) (f4 : (limit_0 ≤ x24) → (x25 = (-1))) (f5 : x24 = x23 + x21) (h6 : x23 = tokenPlace_0 (x4)) (g7 : x4 = cur_0) (f9 : x21 < x22) (f10 : x21 = x14 + 1) (f11 : x18 = x19) (f12 : 1 * x19 + 0 ≤ 105) (f13 : (-1) * x19 + 0 ≤ (-105)) (f14 : ((x17 + 1) ≤ limit_0) → (x18 = (tape_0 (x17) % 256))) (f15 : (limit_0 ≤ x17) → (x18 = (-1))) (f16 : x17 = x16 + x14) (h17 : x16 = tokenPlace_0 (x4)) (f18 : x14 < x15) (f19 : x11 = x12) (f20 : x11 = x8 - x10) (h21 : x10 = tokenPlace_0 (x4)) (h22 : x8 = tokenEnd_0 (x4)) (f24 : x5 = x6) (h25 : x5 = tokenKind_0 (x4)) (f27 : x2 = 0) (g28 : x2 = fault_0) (hK_0_1 : ∀ j : Int, 0 ≤ j → j < 2000 → (-128) ≤ tape_0 j ∧ tape_0 j ≤ 127) (hK_0_160 : ∀ j : Int, 0 ≤ j → j < 2010 → 0 ≤ tokenKind_0 j ∧ tokenKind_0 j ≤ 4) (hK_0_162 : ∀ j : Int, 0 ≤ j → j < 2010 → 0 ≤ tokenPlace_0 j ∧ tokenPlace_0 j ≤ 2000) (hK_0_163 : ∀ j : Int, 0 ≤ j → j < 2010 → 0 ≤ tokenEnd_0 j ∧ tokenEnd_0 j ≤ 2000) (kz_0_8 : 0 ≤ fault_0 ∧ fault_0 ≤ 5) (kz_0_10 : 0 ≤ limit_0 ∧ limit_0 ≤ 2000) (kz_0_158 : 0 ≤ cur_0 ∧ cur_0 ≤ 2009) : (x27 = 1) → (tokenKind_0 (cur_0) = 1) := by
  first | assumption | (clear f3 f4 f14 f15 hK_0_1 hK_0_160 hK_0_162 hK_0_163; omega) | (clear hK_0_1 hK_0_160 hK_0_162 hK_0_163; grind) | omega | grind
set_option maxHeartbeats 4000000 in
theorem vc_Mo_word_at_s5026_6_1 (x4 : Int) (x8 : Int) (x10 : Int) (x11 : Int) (x16 : Int) (x17 : Int) (x18 : Int) (x19 : Int) (x23 : Int) (x24 : Int) (x25 : Int) (x26 : Int) (x27 : Int) (tape_0 : Int → Int) (limit_0 : Int) (tokenPlace_0 : Int → Int) (cur_0 : Int) (tokenEnd_0 : Int → Int) (tokenKind_0 : Int → Int) (fault_0 : Int) (k4 : 0 ≤ x4 ∧ x4 ≤ 2009) (k8 : 2 ≤ x8 ∧ x8 ≤ 2000) (k10 : 0 ≤ x10 ∧ x10 ≤ 2000) (k11 : 2 ≤ x11 ∧ x11 ≤ 2) (k16 : 0 ≤ x16 ∧ x16 ≤ 1999) (k17 : 0 ≤ x17 ∧ x17 ≤ 1999) (k18 : 0 ≤ x18 ∧ x18 ≤ 255) (k19 : 0 ≤ x19 ∧ x19 ≤ 255) (k23 : 0 ≤ x23 ∧ x23 ≤ 1998) (k24 : 1 ≤ x24 ∧ x24 ≤ 1999) (k25 : 0 ≤ x25 ∧ x25 ≤ 255) (k26 : 0 ≤ x26 ∧ x26 ≤ 65535) (k27 : 0 ≤ x27 ∧ x27 ≤ 0) (d0 : x23 + 1 ≤ x24 ∧ x24 ≤ x23 + 1) (d1 : x19 + 0 ≤ x18 ∧ x18 ≤ x19 + 0) (d2 : x16 + 0 ≤ x17 ∧ x17 ≤ x16 + 0) (f0 : x25 ≠ x26) (f1 : 1 * x26 + 0 ≤ 110) (f2 : (-1) * x26 + 0 ≤ (-110)) (f3 : ((x24 + 1) ≤ limit_0) → (x25 = (tape_0 (x24) % 256))) (f4 : (limit_0 ≤ x24) → (x25 = (-1))) (h6 : x23 = tokenPlace_0 (x4)) (g7 : x4 = cur_0) (f12 : 1 * x19 + 0 ≤ 105) (f13 : (-1) * x19 + 0 ≤ (-105)) (f14 : ((x17 + 1) ≤ limit_0) → (x18 = (tape_0 (x17) % 256))) (f15 : (limit_0 ≤ x17) → (x18 = (-1))) (h17 : x16 = tokenPlace_0 (x4)) (f20 : x11 = x8 - x10) (h21 : x10 = tokenPlace_0 (x4)) (h22 : x8 = tokenEnd_0 (x4)) (kz_0_8 : 0 ≤ fault_0 ∧ fault_0 ≤ 5) (kz_0_10 : 0 ≤ limit_0 ∧ limit_0 ≤ 2000) (kz_0_158 : 0 ≤ cur_0 ∧ cur_0 ≤ 2009) : Wqin (fault_0) (cur_0) (limit_0) (tokenKind_0) (tokenPlace_0) (tokenEnd_0) (tape_0) (x27) := by
  first
    | exact ⟨fun z => by omega, fun z => by have := z.1; omega⟩
    | (have e := (‹x4 = cur_0›)
       rw [← e]
       refine ⟨fun z => ⟨by omega, wdS2.2 ⟨by omega, by omega, by omega, by rw [show tokenPlace_0 x4 + 0 = x17 by omega]; omega, by rw [show tokenPlace_0 x4 + 1 = x24 by omega]; omega⟩⟩, fun z => by omega⟩)
    | (have e := (‹x4 = cur_0›)
       rw [← e]
       refine ⟨fun z => by omega, fun z => ?_⟩
       have w := wdS2.1 z.2
       try (have q0 : tokenPlace_0 x4 + 0 = x17 := (by omega); rw [q0] at w)
       try (have q1 : tokenPlace_0 x4 + 1 = x24 := (by omega); rw [q1] at w)
       omega)
  
def o_Mo_word_at_s5026_6 : or_T := (102, 30, [(0, (2, 0, 0, [165])), (2, (0, 0, 0, [])), (3, (2, 0, 0, [274])), (4, (0, 0, 2009, [])), (5, (0, 1, 1, [])), (6, (0, 1, 1, [])), (7, (2, 0, 0, [277])), (8, (0, 2, 2000, [])), (9, (2, 0, 0, [276])), (10, (0, 0, 2000, [])), (11, (0, 2, 2, [])), (12, (0, 2, 2, [])), (14, (0, 0, 0, [])), (15, (0, 2, 2, [])), (16, (0, 0, 1999, [])), (17, (0, 0, 1999, [])), (18, (0, 0, 255, [])), (19, (0, 0, 255, [])), (21, (0, 1, 1, [])), (22, (0, 2, 2, [])), (23, (0, 0, 1998, [])), (24, (0, 1, 1999, [])), (25, (0, 0, 255, [])), (26, (0, 0, 65535, [])), (27, (0, 0, 0, []))], [(7, [25, 26], [1]), (23, [26], [110, 1]), (23, [26], [-110, -1]), (20, [24, 0, 25], [50, 1, 1, 1010, 1001, 4, 11, 0, 6, 4, 2, 1, 0, 0, 1, 2, 1, 10, 1, 2, 1, 2, 9, 5, 3, 1, 1, 1, 0, 0, 256]), (20, [0, 24, 25], [50, 1, 0, 10, 4, 7, 0, 3, 2, 0, 10, 1, 1, 1, 2, 1, 2, 0, -1]), (1, [24, 23, 21], []), (10, [23, 9, 4], []), (9, [4, 0], [158]), (9, [9, 0], [162]), (7, [21, 22], [2]), (6, [21, 14], [1]), (7, [18, 19], [0]), (23, [19], [105, 1]), (23, [19], [-105, -1]), (20, [17, 0, 18], [50, 1, 1, 1010, 1001, 4, 11, 0, 6, 4, 2, 1, 0, 0, 1, 2, 1, 10, 1, 2, 1, 2, 9, 5, 3, 1, 1, 1, 0, 0, 256]), (20, [0, 17, 18], [50, 1, 0, 10, 4, 7, 0, 3, 2, 0, 10, 1, 1, 1, 2, 1, 2, 0, -1]), (1, [17, 16, 14], []), (10, [16, 9, 4], []), (7, [14, 15], [2]), (7, [11, 12], [0]), (2, [11, 8, 10], []), (10, [10, 9, 4], []), (10, [8, 7, 4], []), (9, [7, 0], [163]), (7, [5, 6], [0]), (10, [5, 3, 4], []), (9, [3, 0], [160]), (8, [2], [0]), (9, [2, 0], [8])], [], [], [(20, [27, 0], [50, 1, 1, 1158, 1160, 4, 6, 1, 2, 1, 0, 0, 1, 1, 6, 3, 1, 160, 2, 1, 158, 0, 1]), (20, [0, 27], [60, 3, 4, 29, 8, 158, 10, 160, 162, 163, 1])], [], [(24, 23, 1, 1), (18, 19, 0, 0), (17, 16, 0, 0)])
theorem oo_Mo_word_at_s5026_6 {kA : Nat → ClassId} : or_ok PRD kA GG o_Mo_word_at_s5026_6 := by
  refine or_mk fun A ta ws vs hD hth hl => ?_
  intro t0 r0 t2 k2 t3 r3 t4 k4 t5 k5 t6 k6 t7 r7 t8 k8 t9 r9 t10 k10 t11 k11 t12 k12 t14 k14 t15 k15 t16 k16 t17 k17 t18 k18 t19 k19 t21 k21 t22 k22 t23 k23 t24 k24 t25 k25 t26 k26 t27 k27 d0 d1 d2 f0 f1 f2 f3 f4 f5 f6 f7 f8 f9 f10 f11 f12 f13 f14 f15 f16 f17 f18 f19 f20 f21 f22 f23 f24 f25 f26 f27 f28
  replace f6 := shm_107 f6
  replace f7 := shm_286 f7
  replace f8 := shm_301 f8
  replace f17 := shm_107 f17
  replace f21 := shm_107 f21
  replace f22 := shm_107 f22
  replace f23 := shm_1332 f23
  replace f25 := shm_107 f25
  replace f26 := shm_327 f26
  replace f28 := shm_293 f28
  have cr_0_1 := fdq_39 hD hth r0
  have cr_0_160 := fdq_33 hD hth r0
  have cr_0_162 := fdq_41 hD hth r0
  have cr_0_163 := fdq_42 hD hth r0
  have ad_9 : v_ad (n_v vs 9) = w_ar ws (n_v vs 0) 162 := congrArg v_ad f8
  have ad_7 : v_ad (n_v vs 7) = w_ar ws (n_v vs 0) 163 := congrArg v_ad f23
  have ad_3 : v_ad (n_v vs 3) = w_ar ws (n_v vs 0) 160 := congrArg v_ad f26
  simp only [ad_9] at f6
  have h6 : v_iv (n_v vs 23) = w_ei ws (w_ar ws (n_v vs 0) 162) (v_iv (n_v vs 4)) := f6
  have g7 : v_iv (n_v vs 4) = w_fi ws (n_v vs 0) 158 := congrArg v_iv f7
  simp only [ad_9] at f17
  have h17 : v_iv (n_v vs 16) = w_ei ws (w_ar ws (n_v vs 0) 162) (v_iv (n_v vs 4)) := f17
  simp only [ad_9] at f21
  have h21 : v_iv (n_v vs 10) = w_ei ws (w_ar ws (n_v vs 0) 162) (v_iv (n_v vs 4)) := f21
  simp only [ad_7] at f22
  have h22 : v_iv (n_v vs 8) = w_ei ws (w_ar ws (n_v vs 0) 163) (v_iv (n_v vs 4)) := f22
  simp only [ad_3] at f25
  have h25 : v_iv (n_v vs 5) = w_ei ws (w_ar ws (n_v vs 0) 160) (v_iv (n_v vs 4)) := f25
  have g28 : v_iv (n_v vs 2) = w_fi ws (n_v vs 0) 8 := congrArg v_iv f28
  have hK_0_1 := elq_7 hD hth cr_0_1
  have hK_0_160 := elq_6 hD hth cr_0_160
  have hK_0_162 := elq_8 hD hth cr_0_162
  have hK_0_163 := elq_9 hD hth cr_0_163
  have kz_0_8 := fdq_34 hD hth r0
  have kz_0_10 := fdq_43 hD hth r0
  have kz_0_158 := fdq_36 hD hth r0
  have nf0 : fc_1 PRD (20, [27, 0], [50, 1, 1, 1158, 1160, 4, 6, 1, 2, 1, 0, 0, 1, 1, 6, 3, 1, 160, 2, 1, 158, 0, 1]) ws (vs) := ⟨nf_in hl rfl, sgq_287 (vc_Mo_word_at_s5026_6_0 (v_iv (n_v vs 2)) (v_iv (n_v vs 4)) (v_iv (n_v vs 5)) (v_iv (n_v vs 6)) (v_iv (n_v vs 8)) (v_iv (n_v vs 10)) (v_iv (n_v vs 11)) (v_iv (n_v vs 12)) (v_iv (n_v vs 14)) (v_iv (n_v vs 15)) (v_iv (n_v vs 16)) (v_iv (n_v vs 17)) (v_iv (n_v vs 18)) (v_iv (n_v vs 19)) (v_iv (n_v vs 21)) (v_iv (n_v vs 22)) (v_iv (n_v vs 23)) (v_iv (n_v vs 24)) (v_iv (n_v vs 25)) (v_iv (n_v vs 26)) (v_iv (n_v vs 27)) (w_ei ws (w_ar ws (n_v vs 0) 1)) (w_fi ws (n_v vs 0) 10) (w_ei ws (w_ar ws (n_v vs 0) 162)) (w_fi ws (n_v vs 0) 158) (w_ei ws (w_ar ws (n_v vs 0) 163)) (w_ei ws (w_ar ws (n_v vs 0) 160)) (w_fi ws (n_v vs 0) 8) k2 k4 k5 k6 k8 k10 k11 k12 k14 k15 k16 k17 k18 k19 k21 k22 k23 k24 k25 k26 k27 d0 d1 d2 (shm_40 f0) (shm_53 f1) (shm_54 f2) (shm_541 f3) (shm_542 f4) (shm_12 f5) h6 g7 (shm_6 f9) (shm_4 f10) (shm_37 f11) (shm_71 f12) (shm_72 f13) (shm_541 f14) (shm_542 f15) (shm_12 f16) h17 (shm_6 f18) (shm_37 f19) (shm_14 f20) h21 h22 (shm_37 f24) h25 (shm_192 f27) g28 hK_0_1 hK_0_160 hK_0_162 hK_0_163 kz_0_8 kz_0_10 kz_0_158)⟩
  have nf1 : fc_1 PRD (20, [0, 27], [60, 3, 4, 29, 8, 158, 10, 160, 162, 163, 1]) ws (vs) := ⟨nf_in hl rfl, sgq_1870 (vc_Mo_word_at_s5026_6_1 (v_iv (n_v vs 4)) (v_iv (n_v vs 8)) (v_iv (n_v vs 10)) (v_iv (n_v vs 11)) (v_iv (n_v vs 16)) (v_iv (n_v vs 17)) (v_iv (n_v vs 18)) (v_iv (n_v vs 19)) (v_iv (n_v vs 23)) (v_iv (n_v vs 24)) (v_iv (n_v vs 25)) (v_iv (n_v vs 26)) (v_iv (n_v vs 27)) (w_ei ws (w_ar ws (n_v vs 0) 1)) (w_fi ws (n_v vs 0) 10) (w_ei ws (w_ar ws (n_v vs 0) 162)) (w_fi ws (n_v vs 0) 158) (w_ei ws (w_ar ws (n_v vs 0) 163)) (w_ei ws (w_ar ws (n_v vs 0) 160)) (w_fi ws (n_v vs 0) 8) k4 k8 k10 k11 k16 k17 k18 k19 k23 k24 k25 k26 k27 d0 d1 d2 (shm_40 f0) (shm_53 f1) (shm_54 f2) (shm_541 f3) (shm_542 f4) h6 g7 (shm_71 f12) (shm_72 f13) (shm_541 f14) (shm_542 f15) h17 (shm_14 f20) h21 h22 kz_0_8 kz_0_10 kz_0_158)⟩
  refine ⟨(fun _ h => (by cases h)), [], trivial, ?_, (fun _ h => (by cases h))⟩
  rw [List.append_nil]
  exact List.forall_mem_cons.mpr ⟨⟨show (20 : Nat) < 100 from by decide, nf0⟩, List.forall_mem_cons.mpr ⟨⟨show (20 : Nat) < 100 from by decide, nf1⟩, (fun _ h => (by cases h))⟩⟩
set_option maxHeartbeats 4000000 in
theorem vc_Mo_word_at_s5026_7_0 (x2 : Int) (x4 : Int) (x5 : Int) (x6 : Int) (x8 : Int) (x10 : Int) (x11 : Int) (x12 : Int) (x14 : Int) (x15 : Int) (x16 : Int) (x17 : Int) (x18 : Int) (x19 : Int) (x21 : Int) (x22 : Int) (x23 : Int) (x24 : Int) (x25 : Int) (x26 : Int) (x27 : Int) (tape_0 : Int → Int) (limit_0 : Int) (tokenPlace_0 : Int → Int) (cur_0 : Int) (tokenEnd_0 : Int → Int) (tokenKind_0 : Int → Int) (fault_0 : Int) (k2 : 0 ≤ x2 ∧ x2 ≤ 0) (k4 : 0 ≤ x4 ∧ x4 ≤ 2009) (k5 : 1 ≤ x5 ∧ x5 ≤ 1) (k6 : 1 ≤ x6 ∧ x6 ≤ 1) (k8 : 2 ≤ x8 ∧ x8 ≤ 2000) (k10 : 0 ≤ x10 ∧ x10 ≤ 2000) (k11 : 2 ≤ x11 ∧ x11 ≤ 2) (k12 : 2 ≤ x12 ∧ x12 ≤ 2) (k14 : 0 ≤ x14 ∧ x14 ≤ 0) (k15 : 2 ≤ x15 ∧ x15 ≤ 2) (k16 : 0 ≤ x16 ∧ x16 ≤ 1999) (k17 : 0 ≤ x17 ∧ x17 ≤ 1999) (k18 : 0 ≤ x18 ∧ x18 ≤ 255) (k19 : 0 ≤ x19 ∧ x19 ≤ 255) (k21 : 1 ≤ x21 ∧ x21 ≤ 1) (k22 : 2 ≤ x22 ∧ x22 ≤ 2) (k23 : 0 ≤ x23 ∧ x23 ≤ 1998) (k24 : 1 ≤ x24 ∧ x24 ≤ 1999) (k25 : 0 ≤ x25 ∧ x25 ≤ 255) (k26 : 0 ≤ x26 ∧ x26 ≤ 255) (k27 : 1 ≤ x27 ∧ x27 ≤ 1) (d0 : x26 + 0 ≤ x25 ∧ x25 ≤ x26 + 0) (d1 : x23 + 1 ≤ x24 ∧ x24 ≤ x23 + 1) (d2 : x19 + 0 ≤ x18 ∧ x18 ≤ x19 + 0) (d3 : x16 + 0 ≤ x17 ∧ x17 ≤ x16 + 0) (f0 : x25 = x26) (f1 : 1 * x26 + 0 ≤ 110) (f2 : (-1) * x26 + 0 ≤ (-110)) (f3 : ((x24 + 1) ≤ limit_0) → (x25 = (tape_0 (x24) % 256))) (f4 : (limit_0 ≤ x24) → (x25 = (-1))) (f5 : x24 = x23 + x21) (h6 : x23 = tokenPlace_0 (x4)) (g7 : x4 = cur_0) (f9 : x21 < x22) (f10 : x21 = x14 + 1) (f11 : x18 = x19) (f12 : 1 * x19 + 0 ≤ 105) (f13 : (-1) * x19 + 0 ≤ (-105)) (f14 : ((x17 + 1) ≤ limit_0) → (x18 = (tape_0 (x17) % 256))) (f15 : (limit_0 ≤ x17) → (x18 = (-1))) (f16 : x17 = x16 + x14) (h17 : x16 = tokenPlace_0 (x4)) (f18 : x14 < x15) (f19 : x11 = x12) (f20 : x11 = x8 - x10) (h21 : x10 = tokenPlace_0 (x4)) (h22 : x8 = tokenEnd_0 (x4)) (f24 : x5 = x6) (h25 : x5 = tokenKind_0 (x4)) (f27 : x2 = 0) (g28 : x2 = fault_0) (hK_0_1 : ∀ j : Int, 0 ≤ j → j < 2000 → (-128) ≤ tape_0 j ∧ tape_0 j ≤ 127) (hK_0_160 : ∀ j : Int, 0 ≤ j → j < 2010 → 0 ≤ tokenKind_0 j ∧ tokenKind_0 j ≤ 4) (hK_0_162 : ∀ j : Int, 0 ≤ j → j < 2010 → 0 ≤ tokenPlace_0 j ∧ tokenPlace_0 j ≤ 2000) (hK_0_163 : ∀ j : Int, 0 ≤ j → j < 2010 → 0 ≤ tokenEnd_0 j ∧ tokenEnd_0 j ≤ 2000) (kz_0_8 : 0 ≤ fault_0 ∧ fault_0 ≤ 5) (kz_0_10 : 0 ≤ limit_0 ∧ limit_0 ≤ 2000) (kz_0_158 : 0 ≤ cur_0 ∧ cur_0 ≤ 2009) : (x27 = 1) → (tokenKind_0 (cur_0) = 1) := by
  first | assumption | (clear f3 f4 f14 f15 hK_0_1 hK_0_160 hK_0_162 hK_0_163; omega) | (clear hK_0_1 hK_0_160 hK_0_162 hK_0_163; grind) | omega | grind
set_option maxHeartbeats 4000000 in
theorem vc_Mo_word_at_s5026_7_1 (x2 : Int) (x4 : Int) (x5 : Int) (x8 : Int) (x10 : Int) (x11 : Int) (x16 : Int) (x17 : Int) (x18 : Int) (x19 : Int) (x23 : Int) (x24 : Int) (x25 : Int) (x26 : Int) (x27 : Int) (tape_0 : Int → Int) (limit_0 : Int) (tokenPlace_0 : Int → Int) (cur_0 : Int) (tokenEnd_0 : Int → Int) (tokenKind_0 : Int → Int) (fault_0 : Int) (k2 : 0 ≤ x2 ∧ x2 ≤ 0) (k4 : 0 ≤ x4 ∧ x4 ≤ 2009) (k5 : 1 ≤ x5 ∧ x5 ≤ 1) (k8 : 2 ≤ x8 ∧ x8 ≤ 2000) (k10 : 0 ≤ x10 ∧ x10 ≤ 2000) (k11 : 2 ≤ x11 ∧ x11 ≤ 2) (k16 : 0 ≤ x16 ∧ x16 ≤ 1999) (k17 : 0 ≤ x17 ∧ x17 ≤ 1999) (k18 : 0 ≤ x18 ∧ x18 ≤ 255) (k19 : 0 ≤ x19 ∧ x19 ≤ 255) (k23 : 0 ≤ x23 ∧ x23 ≤ 1998) (k24 : 1 ≤ x24 ∧ x24 ≤ 1999) (k25 : 0 ≤ x25 ∧ x25 ≤ 255) (k26 : 0 ≤ x26 ∧ x26 ≤ 255) (k27 : 1 ≤ x27 ∧ x27 ≤ 1) (d0 : x26 + 0 ≤ x25 ∧ x25 ≤ x26 + 0) (d1 : x23 + 1 ≤ x24 ∧ x24 ≤ x23 + 1) (d2 : x19 + 0 ≤ x18 ∧ x18 ≤ x19 + 0) (d3 : x16 + 0 ≤ x17 ∧ x17 ≤ x16 + 0) (f1 : 1 * x26 + 0 ≤ 110) (f2 : (-1) * x26 + 0 ≤ (-110)) (f3 : ((x24 + 1) ≤ limit_0) → (x25 = (tape_0 (x24) % 256))) (f4 : (limit_0 ≤ x24) → (x25 = (-1))) (h6 : x23 = tokenPlace_0 (x4)) (g7 : x4 = cur_0) (f12 : 1 * x19 + 0 ≤ 105) (f13 : (-1) * x19 + 0 ≤ (-105)) (f14 : ((x17 + 1) ≤ limit_0) → (x18 = (tape_0 (x17) % 256))) (f15 : (limit_0 ≤ x17) → (x18 = (-1))) (h17 : x16 = tokenPlace_0 (x4)) (f20 : x11 = x8 - x10) (h21 : x10 = tokenPlace_0 (x4)) (h22 : x8 = tokenEnd_0 (x4)) (h25 : x5 = tokenKind_0 (x4)) (g28 : x2 = fault_0) (kz_0_8 : 0 ≤ fault_0 ∧ fault_0 ≤ 5) (kz_0_10 : 0 ≤ limit_0 ∧ limit_0 ≤ 2000) (kz_0_158 : 0 ≤ cur_0 ∧ cur_0 ≤ 2009) : Wqin (fault_0) (cur_0) (limit_0) (tokenKind_0) (tokenPlace_0) (tokenEnd_0) (tape_0) (x27) := by
  first
    | exact ⟨fun z => by omega, fun z => by have := z.1; omega⟩
    | (have e := (‹x4 = cur_0›)
       rw [← e]
       refine ⟨fun z => ⟨by omega, wdS2.2 ⟨by omega, by omega, by omega, by rw [show tokenPlace_0 x4 + 0 = x17 by omega]; omega, by rw [show tokenPlace_0 x4 + 1 = x24 by omega]; omega⟩⟩, fun z => by omega⟩)
    | (have e := (‹x4 = cur_0›)
       rw [← e]
       refine ⟨fun z => by omega, fun z => ?_⟩
       have w := wdS2.1 z.2
       try (have q0 : tokenPlace_0 x4 + 0 = x17 := (by omega); rw [q0] at w)
       try (have q1 : tokenPlace_0 x4 + 1 = x24 := (by omega); rw [q1] at w)
       omega)
  
def o_Mo_word_at_s5026_7 : or_T := (102, 30, [(0, (2, 0, 0, [165])), (2, (0, 0, 0, [])), (3, (2, 0, 0, [274])), (4, (0, 0, 2009, [])), (5, (0, 1, 1, [])), (6, (0, 1, 1, [])), (7, (2, 0, 0, [277])), (8, (0, 2, 2000, [])), (9, (2, 0, 0, [276])), (10, (0, 0, 2000, [])), (11, (0, 2, 2, [])), (12, (0, 2, 2, [])), (14, (0, 0, 0, [])), (15, (0, 2, 2, [])), (16, (0, 0, 1999, [])), (17, (0, 0, 1999, [])), (18, (0, 0, 255, [])), (19, (0, 0, 255, [])), (21, (0, 1, 1, [])), (22, (0, 2, 2, [])), (23, (0, 0, 1998, [])), (24, (0, 1, 1999, [])), (25, (0, 0, 255, [])), (26, (0, 0, 255, [])), (27, (0, 1, 1, []))], [(7, [25, 26], [0]), (23, [26], [110, 1]), (23, [26], [-110, -1]), (20, [24, 0, 25], [50, 1, 1, 1010, 1001, 4, 11, 0, 6, 4, 2, 1, 0, 0, 1, 2, 1, 10, 1, 2, 1, 2, 9, 5, 3, 1, 1, 1, 0, 0, 256]), (20, [0, 24, 25], [50, 1, 0, 10, 4, 7, 0, 3, 2, 0, 10, 1, 1, 1, 2, 1, 2, 0, -1]), (1, [24, 23, 21], []), (10, [23, 9, 4], []), (9, [4, 0], [158]), (9, [9, 0], [162]), (7, [21, 22], [2]), (6, [21, 14], [1]), (7, [18, 19], [0]), (23, [19], [105, 1]), (23, [19], [-105, -1]), (20, [17, 0, 18], [50, 1, 1, 1010, 1001, 4, 11, 0, 6, 4, 2, 1, 0, 0, 1, 2, 1, 10, 1, 2, 1, 2, 9, 5, 3, 1, 1, 1, 0, 0, 256]), (20, [0, 17, 18], [50, 1, 0, 10, 4, 7, 0, 3, 2, 0, 10, 1, 1, 1, 2, 1, 2, 0, -1]), (1, [17, 16, 14], []), (10, [16, 9, 4], []), (7, [14, 15], [2]), (7, [11, 12], [0]), (2, [11, 8, 10], []), (10, [10, 9, 4], []), (10, [8, 7, 4], []), (9, [7, 0], [163]), (7, [5, 6], [0]), (10, [5, 3, 4], []), (9, [3, 0], [160]), (8, [2], [0]), (9, [2, 0], [8])], [], [], [(20, [27, 0], [50, 1, 1, 1158, 1160, 4, 6, 1, 2, 1, 0, 0, 1, 1, 6, 3, 1, 160, 2, 1, 158, 0, 1]), (20, [0, 27], [60, 3, 4, 29, 8, 158, 10, 160, 162, 163, 1])], [], [(25, 26, 0, 0), (24, 23, 1, 1), (18, 19, 0, 0), (17, 16, 0, 0)])
theorem oo_Mo_word_at_s5026_7 {kA : Nat → ClassId} : or_ok PRD kA GG o_Mo_word_at_s5026_7 := by
  refine or_mk fun A ta ws vs hD hth hl => ?_
  intro t0 r0 t2 k2 t3 r3 t4 k4 t5 k5 t6 k6 t7 r7 t8 k8 t9 r9 t10 k10 t11 k11 t12 k12 t14 k14 t15 k15 t16 k16 t17 k17 t18 k18 t19 k19 t21 k21 t22 k22 t23 k23 t24 k24 t25 k25 t26 k26 t27 k27 d0 d1 d2 d3 f0 f1 f2 f3 f4 f5 f6 f7 f8 f9 f10 f11 f12 f13 f14 f15 f16 f17 f18 f19 f20 f21 f22 f23 f24 f25 f26 f27 f28
  replace f6 := shm_107 f6
  replace f7 := shm_286 f7
  replace f8 := shm_301 f8
  replace f17 := shm_107 f17
  replace f21 := shm_107 f21
  replace f22 := shm_107 f22
  replace f23 := shm_1332 f23
  replace f25 := shm_107 f25
  replace f26 := shm_327 f26
  replace f28 := shm_293 f28
  have cr_0_1 := fdq_39 hD hth r0
  have cr_0_160 := fdq_33 hD hth r0
  have cr_0_162 := fdq_41 hD hth r0
  have cr_0_163 := fdq_42 hD hth r0
  have ad_9 : v_ad (n_v vs 9) = w_ar ws (n_v vs 0) 162 := congrArg v_ad f8
  have ad_7 : v_ad (n_v vs 7) = w_ar ws (n_v vs 0) 163 := congrArg v_ad f23
  have ad_3 : v_ad (n_v vs 3) = w_ar ws (n_v vs 0) 160 := congrArg v_ad f26
  simp only [ad_9] at f6
  have h6 : v_iv (n_v vs 23) = w_ei ws (w_ar ws (n_v vs 0) 162) (v_iv (n_v vs 4)) := f6
  have g7 : v_iv (n_v vs 4) = w_fi ws (n_v vs 0) 158 := congrArg v_iv f7
  simp only [ad_9] at f17
  have h17 : v_iv (n_v vs 16) = w_ei ws (w_ar ws (n_v vs 0) 162) (v_iv (n_v vs 4)) := f17
  simp only [ad_9] at f21
  have h21 : v_iv (n_v vs 10) = w_ei ws (w_ar ws (n_v vs 0) 162) (v_iv (n_v vs 4)) := f21
  simp only [ad_7] at f22
  have h22 : v_iv (n_v vs 8) = w_ei ws (w_ar ws (n_v vs 0) 163) (v_iv (n_v vs 4)) := f22
  simp only [ad_3] at f25
  have h25 : v_iv (n_v vs 5) = w_ei ws (w_ar ws (n_v vs 0) 160) (v_iv (n_v vs 4)) := f25
  have g28 : v_iv (n_v vs 2) = w_fi ws (n_v vs 0) 8 := congrArg v_iv f28
  have hK_0_1 := elq_7 hD hth cr_0_1
  have hK_0_160 := elq_6 hD hth cr_0_160
  have hK_0_162 := elq_8 hD hth cr_0_162
  have hK_0_163 := elq_9 hD hth cr_0_163
  have kz_0_8 := fdq_34 hD hth r0
  have kz_0_10 := fdq_43 hD hth r0
  have kz_0_158 := fdq_36 hD hth r0
  have nf0 : fc_1 PRD (20, [27, 0], [50, 1, 1, 1158, 1160, 4, 6, 1, 2, 1, 0, 0, 1, 1, 6, 3, 1, 160, 2, 1, 158, 0, 1]) ws (vs) := ⟨nf_in hl rfl, sgq_287 (vc_Mo_word_at_s5026_7_0 (v_iv (n_v vs 2)) (v_iv (n_v vs 4)) (v_iv (n_v vs 5)) (v_iv (n_v vs 6)) (v_iv (n_v vs 8)) (v_iv (n_v vs 10)) (v_iv (n_v vs 11)) (v_iv (n_v vs 12)) (v_iv (n_v vs 14)) (v_iv (n_v vs 15)) (v_iv (n_v vs 16)) (v_iv (n_v vs 17)) (v_iv (n_v vs 18)) (v_iv (n_v vs 19)) (v_iv (n_v vs 21)) (v_iv (n_v vs 22)) (v_iv (n_v vs 23)) (v_iv (n_v vs 24)) (v_iv (n_v vs 25)) (v_iv (n_v vs 26)) (v_iv (n_v vs 27)) (w_ei ws (w_ar ws (n_v vs 0) 1)) (w_fi ws (n_v vs 0) 10) (w_ei ws (w_ar ws (n_v vs 0) 162)) (w_fi ws (n_v vs 0) 158) (w_ei ws (w_ar ws (n_v vs 0) 163)) (w_ei ws (w_ar ws (n_v vs 0) 160)) (w_fi ws (n_v vs 0) 8) k2 k4 k5 k6 k8 k10 k11 k12 k14 k15 k16 k17 k18 k19 k21 k22 k23 k24 k25 k26 k27 d0 d1 d2 d3 (shm_37 f0) (shm_53 f1) (shm_54 f2) (shm_541 f3) (shm_542 f4) (shm_12 f5) h6 g7 (shm_6 f9) (shm_4 f10) (shm_37 f11) (shm_71 f12) (shm_72 f13) (shm_541 f14) (shm_542 f15) (shm_12 f16) h17 (shm_6 f18) (shm_37 f19) (shm_14 f20) h21 h22 (shm_37 f24) h25 (shm_192 f27) g28 hK_0_1 hK_0_160 hK_0_162 hK_0_163 kz_0_8 kz_0_10 kz_0_158)⟩
  have nf1 : fc_1 PRD (20, [0, 27], [60, 3, 4, 29, 8, 158, 10, 160, 162, 163, 1]) ws (vs) := ⟨nf_in hl rfl, sgq_1870 (vc_Mo_word_at_s5026_7_1 (v_iv (n_v vs 2)) (v_iv (n_v vs 4)) (v_iv (n_v vs 5)) (v_iv (n_v vs 8)) (v_iv (n_v vs 10)) (v_iv (n_v vs 11)) (v_iv (n_v vs 16)) (v_iv (n_v vs 17)) (v_iv (n_v vs 18)) (v_iv (n_v vs 19)) (v_iv (n_v vs 23)) (v_iv (n_v vs 24)) (v_iv (n_v vs 25)) (v_iv (n_v vs 26)) (v_iv (n_v vs 27)) (w_ei ws (w_ar ws (n_v vs 0) 1)) (w_fi ws (n_v vs 0) 10) (w_ei ws (w_ar ws (n_v vs 0) 162)) (w_fi ws (n_v vs 0) 158) (w_ei ws (w_ar ws (n_v vs 0) 163)) (w_ei ws (w_ar ws (n_v vs 0) 160)) (w_fi ws (n_v vs 0) 8) k2 k4 k5 k8 k10 k11 k16 k17 k18 k19 k23 k24 k25 k26 k27 d0 d1 d2 d3 (shm_53 f1) (shm_54 f2) (shm_541 f3) (shm_542 f4) h6 g7 (shm_71 f12) (shm_72 f13) (shm_541 f14) (shm_542 f15) h17 (shm_14 f20) h21 h22 h25 g28 kz_0_8 kz_0_10 kz_0_158)⟩
  refine ⟨(fun _ h => (by cases h)), [], trivial, ?_, (fun _ h => (by cases h))⟩
  rw [List.append_nil]
  exact List.forall_mem_cons.mpr ⟨⟨show (20 : Nat) < 100 from by decide, nf0⟩, List.forall_mem_cons.mpr ⟨⟨show (20 : Nat) < 100 from by decide, nf1⟩, (fun _ h => (by cases h))⟩⟩
def n_Mo_word_at_s5026_an : List an_T := []
def t_Mo_word_at_s5026_ct : ct_L := [(1, 425, e_Mo_byteAt), (124, 448, e_jStr_length_v598), (172, 448, e_jStr_length_v598), (253, 453, e_jStr_charAt_v599), (253, 453, e_jStr_charAt_v601)]
set_option maxRecDepth 100000 in
theorem c_Mo_word_at_s5026 {l : Launch} {D : va_G} {kA : Nat → ClassId} (h_Mo_byteAt : ct_ok PRD l D kA GG y_Mo_byteAt z_Mo_byteAt e_Mo_byteAt) : ct_ok PRD l D kA GG y_Mo_word_at_s5026 z_Mo_word_at_s5026 e_Mo_word_at_s5026 := chk_all_ok (FT := [(342, 13, 160), (348, 13, 162), (351, 13, 163), (413, 13, 8), (1169, 13, 158)]) (PT := []) (CT := t_Mo_word_at_s5026_ct) (KT := []) (NT := []) (AN := n_Mo_word_at_s5026_an) (OT := [o_Mo_word_at_s5026_0, o_Mo_word_at_s5026_1, o_Mo_word_at_s5026_2, o_Mo_word_at_s5026_3, o_Mo_word_at_s5026_4, o_Mo_word_at_s5026_5, o_Mo_word_at_s5026_6, o_Mo_word_at_s5026_7]) 0 684 (List.forall_mem_cons.mpr ⟨oo_Mo_word_at_s5026_0, List.forall_mem_cons.mpr ⟨oo_Mo_word_at_s5026_1, List.forall_mem_cons.mpr ⟨oo_Mo_word_at_s5026_2, List.forall_mem_cons.mpr ⟨oo_Mo_word_at_s5026_3, List.forall_mem_cons.mpr ⟨oo_Mo_word_at_s5026_4, List.forall_mem_cons.mpr ⟨oo_Mo_word_at_s5026_5, List.forall_mem_cons.mpr ⟨oo_Mo_word_at_s5026_6, List.forall_mem_cons.mpr ⟨oo_Mo_word_at_s5026_7, List.forall_mem_nil _⟩⟩⟩⟩⟩⟩⟩⟩) (by decide +kernel) ⟨List.forall_mem_cons.mpr ⟨gf_Mo_342, List.forall_mem_cons.mpr ⟨gf_Mo_348, List.forall_mem_cons.mpr ⟨gf_Mo_351, List.forall_mem_cons.mpr ⟨gf_Mo_413, List.forall_mem_cons.mpr ⟨gf_Mo_1169, List.forall_mem_nil _⟩⟩⟩⟩⟩, List.forall_mem_nil _, List.forall_mem_cons.mpr ⟨cl_virtual (y := y_Mo_byteAt) (ci := 13) rfl rfl ⟨_, _, rfl⟩ (by decide +kernel) h_Mo_byteAt wm_2986 wm_9 wm_2983 wm_2985 wv_12_12 ⟨by decide, by decide, by decide +kernel⟩ (by decide), List.forall_mem_cons.mpr ⟨cl_string (y := y_jStr_length) (i := 26) rfl rfl (by decide +kernel) rfl c_jStr_length_v598 wm_674 wm_11 wm_3003 wm_672 wm_673 ⟨by decide, by decide, by decide +kernel⟩ (by decide), List.forall_mem_cons.mpr ⟨cl_string (y := y_jStr_length) (i := 26) rfl rfl (by decide +kernel) rfl c_jStr_length_v598 wm_674 wm_11 wm_3003 wm_672 wm_673 ⟨by decide, by decide, by decide +kernel⟩ (by decide), List.forall_mem_cons.mpr ⟨cl_string (y := y_jStr_charAt) (i := 26) rfl rfl (by decide +kernel) rfl c_jStr_charAt_v599 wm_684 wm_11 wm_3004 wm_682 wm_683 ⟨by decide, by decide, by decide +kernel⟩ (by decide), List.forall_mem_cons.mpr ⟨cl_string (y := y_jStr_charAt) (i := 26) rfl rfl (by decide +kernel) rfl c_jStr_charAt_v601 wm_684 wm_11 wm_3004 wm_682 wm_683 ⟨by decide, by decide, by decide +kernel⟩ (by decide), List.forall_mem_nil _⟩⟩⟩⟩⟩, List.forall_mem_nil _, List.forall_mem_nil _, GG_pl⟩ (by decide +kernel)
set_option maxHeartbeats 4000000 in
theorem vc_Mo_word_at_s5027_0_0 (x2 : Int) (x3 : Int) (fault_0 : Int) (tape_0 : Int → Int) (tokenKind_0 : Int → Int) (tokenPlace_0 : Int → Int) (tokenEnd_0 : Int → Int) (limit_0 : Int) (cur_0 : Int) (k2 : 1 ≤ x2 ∧ x2 ≤ 5) (k3 : 0 ≤ x3 ∧ x3 ≤ 0) (f0 : x3 = 0) (f1 : x2 ≠ 0) (g2 : x2 = fault_0) (hK_0_1 : ∀ j : Int, 0 ≤ j → j < 2000 → (-128) ≤ tape_0 j ∧ tape_0 j ≤ 127) (hK_0_160 : ∀ j : Int, 0 ≤ j → j < 2010 → 0 ≤ tokenKind_0 j ∧ tokenKind_0 j ≤ 4) (hK_0_162 : ∀ j : Int, 0 ≤ j → j < 2010 → 0 ≤ tokenPlace_0 j ∧ tokenPlace_0 j ≤ 2000) (hK_0_163 : ∀ j : Int, 0 ≤ j → j < 2010 → 0 ≤ tokenEnd_0 j ∧ tokenEnd_0 j ≤ 2000) (kz_0_8 : 0 ≤ fault_0 ∧ fault_0 ≤ 5) (kz_0_10 : 0 ≤ limit_0 ∧ limit_0 ≤ 2000) (kz_0_158 : 0 ≤ cur_0 ∧ cur_0 ≤ 2009) : (x3 = 1) → (tokenKind_0 (cur_0) = 1) := by
  first | assumption | (clear hK_0_1 hK_0_160 hK_0_162 hK_0_163; omega) | omega | grind
set_option maxHeartbeats 4000000 in
theorem vc_Mo_word_at_s5027_0_1 (x2 : Int) (x3 : Int) (fault_0 : Int) (tape_0 : Int → Int) (tokenKind_0 : Int → Int) (tokenPlace_0 : Int → Int) (tokenEnd_0 : Int → Int) (limit_0 : Int) (cur_0 : Int) (k2 : 1 ≤ x2 ∧ x2 ≤ 5) (k3 : 0 ≤ x3 ∧ x3 ≤ 0) (g2 : x2 = fault_0) (kz_0_8 : 0 ≤ fault_0 ∧ fault_0 ≤ 5) (kz_0_10 : 0 ≤ limit_0 ∧ limit_0 ≤ 2000) (kz_0_158 : 0 ≤ cur_0 ∧ cur_0 ≤ 2009) : Wqout (fault_0) (cur_0) (limit_0) (tokenKind_0) (tokenPlace_0) (tokenEnd_0) (tape_0) (x3) := by
  first
    | exact ⟨fun z => by omega, fun z => by have := z.1; omega⟩
    | (have e := (‹x4 = cur_0›)
       rw [← e]
       refine ⟨fun z => ⟨by omega, wdS3.2 ⟨by omega, by omega, by omega, by rw [show tokenPlace_0 x4 + 0 = x17 by omega]; omega, by rw [show tokenPlace_0 x4 + 1 = x24 by omega]; omega, by rw [show tokenPlace_0 x4 + 2 = x31 by omega]; omega⟩⟩, fun z => by omega⟩)
    | (have e := (‹x4 = cur_0›)
       rw [← e]
       refine ⟨fun z => by omega, fun z => ?_⟩
       have w := wdS3.1 z.2
       try (have q0 : tokenPlace_0 x4 + 0 = x17 := (by omega); rw [q0] at w)
       try (have q1 : tokenPlace_0 x4 + 1 = x24 := (by omega); rw [q1] at w)
       try (have q2 : tokenPlace_0 x4 + 2 = x31 := (by omega); rw [q2] at w)
       omega)
  
def o_Mo_word_at_s5027_0 : or_T := (102, 6, [(0, (2, 0, 0, [165])), (2, (0, 1, 5, [])), (3, (0, 0, 0, []))], [(8, [3], [0]), (8, [2], [1]), (9, [2, 0], [8])], [], [], [(20, [3, 0], [50, 1, 1, 1158, 1160, 4, 6, 1, 2, 1, 0, 0, 1, 1, 6, 3, 1, 160, 2, 1, 158, 0, 1]), (20, [0, 3], [60, 3, 4, 30, 8, 158, 10, 160, 162, 163, 1])], [], [])
theorem oo_Mo_word_at_s5027_0 {kA : Nat → ClassId} : or_ok PRD kA GG o_Mo_word_at_s5027_0 := by
  refine or_mk fun A ta ws vs hD hth hl => ?_
  intro t0 r0 t2 k2 t3 k3 f0 f1 f2
  replace f2 := shm_293 f2
  have cr_0_1 := fdq_39 hD hth r0
  have cr_0_160 := fdq_33 hD hth r0
  have cr_0_162 := fdq_41 hD hth r0
  have cr_0_163 := fdq_42 hD hth r0
  have g2 : v_iv (n_v vs 2) = w_fi ws (n_v vs 0) 8 := congrArg v_iv f2
  have hK_0_1 := elq_7 hD hth cr_0_1
  have hK_0_160 := elq_6 hD hth cr_0_160
  have hK_0_162 := elq_8 hD hth cr_0_162
  have hK_0_163 := elq_9 hD hth cr_0_163
  have kz_0_8 := fdq_34 hD hth r0
  have kz_0_10 := fdq_43 hD hth r0
  have kz_0_158 := fdq_36 hD hth r0
  have nf0 : fc_1 PRD (20, [3, 0], [50, 1, 1, 1158, 1160, 4, 6, 1, 2, 1, 0, 0, 1, 1, 6, 3, 1, 160, 2, 1, 158, 0, 1]) ws (vs) := ⟨nf_in hl rfl, sgq_287 (vc_Mo_word_at_s5027_0_0 (v_iv (n_v vs 2)) (v_iv (n_v vs 3)) (w_fi ws (n_v vs 0) 8) (w_ei ws (w_ar ws (n_v vs 0) 1)) (w_ei ws (w_ar ws (n_v vs 0) 160)) (w_ei ws (w_ar ws (n_v vs 0) 162)) (w_ei ws (w_ar ws (n_v vs 0) 163)) (w_fi ws (n_v vs 0) 10) (w_fi ws (n_v vs 0) 158) k2 k3 (shm_192 f0) (shm_142 f1) g2 hK_0_1 hK_0_160 hK_0_162 hK_0_163 kz_0_8 kz_0_10 kz_0_158)⟩
  have nf1 : fc_1 PRD (20, [0, 3], [60, 3, 4, 30, 8, 158, 10, 160, 162, 163, 1]) ws (vs) := ⟨nf_in hl rfl, sgq_1871 (vc_Mo_word_at_s5027_0_1 (v_iv (n_v vs 2)) (v_iv (n_v vs 3)) (w_fi ws (n_v vs 0) 8) (w_ei ws (w_ar ws (n_v vs 0) 1)) (w_ei ws (w_ar ws (n_v vs 0) 160)) (w_ei ws (w_ar ws (n_v vs 0) 162)) (w_ei ws (w_ar ws (n_v vs 0) 163)) (w_fi ws (n_v vs 0) 10) (w_fi ws (n_v vs 0) 158) k2 k3 g2 kz_0_8 kz_0_10 kz_0_158)⟩
  refine ⟨(fun _ h => (by cases h)), [], trivial, ?_, (fun _ h => (by cases h))⟩
  rw [List.append_nil]
  exact List.forall_mem_cons.mpr ⟨⟨show (20 : Nat) < 100 from by decide, nf0⟩, List.forall_mem_cons.mpr ⟨⟨show (20 : Nat) < 100 from by decide, nf1⟩, (fun _ h => (by cases h))⟩⟩
set_option maxHeartbeats 4000000 in
theorem vc_Mo_word_at_s5027_1_0 (x2 : Int) (x4 : Int) (x5 : Int) (x6 : Int) (x7 : Int) (tokenKind_0 : Int → Int) (cur_0 : Int) (fault_0 : Int) (tape_0 : Int → Int) (tokenPlace_0 : Int → Int) (tokenEnd_0 : Int → Int) (limit_0 : Int) (k2 : 0 ≤ x2 ∧ x2 ≤ 0) (k4 : 0 ≤ x4 ∧ x4 ≤ 2009) (k5 : 0 ≤ x5 ∧ x5 ≤ 4) (k6 : 1 ≤ x6 ∧ x6 ≤ 1) (k7 : 0 ≤ x7 ∧ x7 ≤ 0) (f0 : x7 = 0) (f1 : x5 ≠ x6) (h2 : x5 = tokenKind_0 (x4)) (g3 : x4 = cur_0) (f5 : x2 = 0) (g6 : x2 = fault_0) (hK_0_1 : ∀ j : Int, 0 ≤ j → j < 2000 → (-128) ≤ tape_0 j ∧ tape_0 j ≤ 127) (hK_0_160 : ∀ j : Int, 0 ≤ j → j < 2010 → 0 ≤ tokenKind_0 j ∧ tokenKind_0 j ≤ 4) (hK_0_162 : ∀ j : Int, 0 ≤ j → j < 2010 → 0 ≤ tokenPlace_0 j ∧ tokenPlace_0 j ≤ 2000) (hK_0_163 : ∀ j : Int, 0 ≤ j → j < 2010 → 0 ≤ tokenEnd_0 j ∧ tokenEnd_0 j ≤ 2000) (kz_0_8 : 0 ≤ fault_0 ∧ fault_0 ≤ 5) (kz_0_10 : 0 ≤ limit_0 ∧ limit_0 ≤ 2000) (kz_0_158 : 0 ≤ cur_0 ∧ cur_0 ≤ 2009) : (x7 = 1) → (tokenKind_0 (cur_0) = 1) := by
  first | assumption | (clear hK_0_1 hK_0_160 hK_0_162 hK_0_163; omega) | omega | grind
set_option maxHeartbeats 4000000 in
theorem vc_Mo_word_at_s5027_1_1 (x4 : Int) (x5 : Int) (x6 : Int) (x7 : Int) (tokenKind_0 : Int → Int) (cur_0 : Int) (fault_0 : Int) (tape_0 : Int → Int) (tokenPlace_0 : Int → Int) (tokenEnd_0 : Int → Int) (limit_0 : Int) (k4 : 0 ≤ x4 ∧ x4 ≤ 2009) (k5 : 0 ≤ x5 ∧ x5 ≤ 4) (k6 : 1 ≤ x6 ∧ x6 ≤ 1) (k7 : 0 ≤ x7 ∧ x7 ≤ 0) (f1 : x5 ≠ x6) (h2 : x5 = tokenKind_0 (x4)) (g3 : x4 = cur_0) (kz_0_8 : 0 ≤ fault_0 ∧ fault_0 ≤ 5) (kz_0_10 : 0 ≤ limit_0 ∧ limit_0 ≤ 2000) (kz_0_158 : 0 ≤ cur_0 ∧ cur_0 ≤ 2009) : Wqout (fault_0) (cur_0) (limit_0) (tokenKind_0) (tokenPlace_0) (tokenEnd_0) (tape_0) (x7) := by
  first
    | exact ⟨fun z => by omega, fun z => by have := z.1; omega⟩
    | (have e := (‹x4 = cur_0›)
       rw [← e]
       refine ⟨fun z => ⟨by omega, wdS3.2 ⟨by omega, by omega, by omega, by rw [show tokenPlace_0 x4 + 0 = x17 by omega]; omega, by rw [show tokenPlace_0 x4 + 1 = x24 by omega]; omega, by rw [show tokenPlace_0 x4 + 2 = x31 by omega]; omega⟩⟩, fun z => by omega⟩)
    | (have e := (‹x4 = cur_0›)
       rw [← e]
       refine ⟨fun z => by omega, fun z => ?_⟩
       have w := wdS3.1 z.2
       try (have q0 : tokenPlace_0 x4 + 0 = x17 := (by omega); rw [q0] at w)
       try (have q1 : tokenPlace_0 x4 + 1 = x24 := (by omega); rw [q1] at w)
       try (have q2 : tokenPlace_0 x4 + 2 = x31 := (by omega); rw [q2] at w)
       omega)
  
def o_Mo_word_at_s5027_1 : or_T := (102, 10, [(0, (2, 0, 0, [165])), (2, (0, 0, 0, [])), (4, (0, 0, 2009, [])), (5, (0, 0, 4, [])), (6, (0, 1, 1, [])), (7, (0, 0, 0, []))], [(8, [7], [0]), (7, [5, 6], [1]), (10, [5, 3, 4], []), (9, [4, 0], [158]), (9, [3, 0], [160]), (8, [2], [0]), (9, [2, 0], [8])], [], [], [(20, [7, 0], [50, 1, 1, 1158, 1160, 4, 6, 1, 2, 1, 0, 0, 1, 1, 6, 3, 1, 160, 2, 1, 158, 0, 1]), (20, [0, 7], [60, 3, 4, 30, 8, 158, 10, 160, 162, 163, 1])], [], [])
theorem oo_Mo_word_at_s5027_1 {kA : Nat → ClassId} : or_ok PRD kA GG o_Mo_word_at_s5027_1 := by
  refine or_mk fun A ta ws vs hD hth hl => ?_
  intro t0 r0 t2 k2 t4 k4 t5 k5 t6 k6 t7 k7 f0 f1 f2 f3 f4 f5 f6
  replace f2 := shm_107 f2
  replace f3 := shm_286 f3
  replace f4 := shm_327 f4
  replace f6 := shm_293 f6
  have cr_0_1 := fdq_39 hD hth r0
  have cr_0_160 := fdq_33 hD hth r0
  have cr_0_162 := fdq_41 hD hth r0
  have cr_0_163 := fdq_42 hD hth r0
  have ad_3 : v_ad (n_v vs 3) = w_ar ws (n_v vs 0) 160 := congrArg v_ad f4
  simp only [ad_3] at f2
  have h2 : v_iv (n_v vs 5) = w_ei ws (w_ar ws (n_v vs 0) 160) (v_iv (n_v vs 4)) := f2
  have g3 : v_iv (n_v vs 4) = w_fi ws (n_v vs 0) 158 := congrArg v_iv f3
  have g6 : v_iv (n_v vs 2) = w_fi ws (n_v vs 0) 8 := congrArg v_iv f6
  have hK_0_1 := elq_7 hD hth cr_0_1
  have hK_0_160 := elq_6 hD hth cr_0_160
  have hK_0_162 := elq_8 hD hth cr_0_162
  have hK_0_163 := elq_9 hD hth cr_0_163
  have kz_0_8 := fdq_34 hD hth r0
  have kz_0_10 := fdq_43 hD hth r0
  have kz_0_158 := fdq_36 hD hth r0
  have nf0 : fc_1 PRD (20, [7, 0], [50, 1, 1, 1158, 1160, 4, 6, 1, 2, 1, 0, 0, 1, 1, 6, 3, 1, 160, 2, 1, 158, 0, 1]) ws (vs) := ⟨nf_in hl rfl, sgq_287 (vc_Mo_word_at_s5027_1_0 (v_iv (n_v vs 2)) (v_iv (n_v vs 4)) (v_iv (n_v vs 5)) (v_iv (n_v vs 6)) (v_iv (n_v vs 7)) (w_ei ws (w_ar ws (n_v vs 0) 160)) (w_fi ws (n_v vs 0) 158) (w_fi ws (n_v vs 0) 8) (w_ei ws (w_ar ws (n_v vs 0) 1)) (w_ei ws (w_ar ws (n_v vs 0) 162)) (w_ei ws (w_ar ws (n_v vs 0) 163)) (w_fi ws (n_v vs 0) 10) k2 k4 k5 k6 k7 (shm_192 f0) (shm_40 f1) h2 g3 (shm_192 f5) g6 hK_0_1 hK_0_160 hK_0_162 hK_0_163 kz_0_8 kz_0_10 kz_0_158)⟩
  have nf1 : fc_1 PRD (20, [0, 7], [60, 3, 4, 30, 8, 158, 10, 160, 162, 163, 1]) ws (vs) := ⟨nf_in hl rfl, sgq_1871 (vc_Mo_word_at_s5027_1_1 (v_iv (n_v vs 4)) (v_iv (n_v vs 5)) (v_iv (n_v vs 6)) (v_iv (n_v vs 7)) (w_ei ws (w_ar ws (n_v vs 0) 160)) (w_fi ws (n_v vs 0) 158) (w_fi ws (n_v vs 0) 8) (w_ei ws (w_ar ws (n_v vs 0) 1)) (w_ei ws (w_ar ws (n_v vs 0) 162)) (w_ei ws (w_ar ws (n_v vs 0) 163)) (w_fi ws (n_v vs 0) 10) k4 k5 k6 k7 (shm_40 f1) h2 g3 kz_0_8 kz_0_10 kz_0_158)⟩
  refine ⟨(fun _ h => (by cases h)), [], trivial, ?_, (fun _ h => (by cases h))⟩
  rw [List.append_nil]
  exact List.forall_mem_cons.mpr ⟨⟨show (20 : Nat) < 100 from by decide, nf0⟩, List.forall_mem_cons.mpr ⟨⟨show (20 : Nat) < 100 from by decide, nf1⟩, (fun _ h => (by cases h))⟩⟩
set_option maxHeartbeats 4000000 in
theorem vc_Mo_word_at_s5027_2_0 (x2 : Int) (x4 : Int) (x5 : Int) (x6 : Int) (x8 : Int) (x10 : Int) (x11 : Int) (x12 : Int) (x13 : Int) (tokenPlace_0 : Int → Int) (cur_0 : Int) (tokenEnd_0 : Int → Int) (tokenKind_0 : Int → Int) (fault_0 : Int) (tape_0 : Int → Int) (limit_0 : Int) (k2 : 0 ≤ x2 ∧ x2 ≤ 0) (k4 : 0 ≤ x4 ∧ x4 ≤ 2009) (k5 : 1 ≤ x5 ∧ x5 ≤ 1) (k6 : 1 ≤ x6 ∧ x6 ≤ 1) (k8 : 0 ≤ x8 ∧ x8 ≤ 2000) (k10 : 0 ≤ x10 ∧ x10 ≤ 2000) (k11 : (-2000) ≤ x11 ∧ x11 ≤ 2000) (k12 : 3 ≤ x12 ∧ x12 ≤ 3) (k13 : 0 ≤ x13 ∧ x13 ≤ 0) (d0 : x8 + (-2000) ≤ x11 ∧ x11 ≤ x8 + 0) (f0 : x13 = 0) (f1 : x11 ≠ x12) (f2 : x11 = x8 - x10) (h3 : x10 = tokenPlace_0 (x4)) (g4 : x4 = cur_0) (h6 : x8 = tokenEnd_0 (x4)) (f8 : x5 = x6) (h9 : x5 = tokenKind_0 (x4)) (f11 : x2 = 0) (g12 : x2 = fault_0) (hK_0_1 : ∀ j : Int, 0 ≤ j → j < 2000 → (-128) ≤ tape_0 j ∧ tape_0 j ≤ 127) (hK_0_160 : ∀ j : Int, 0 ≤ j → j < 2010 → 0 ≤ tokenKind_0 j ∧ tokenKind_0 j ≤ 4) (hK_0_162 : ∀ j : Int, 0 ≤ j → j < 2010 → 0 ≤ tokenPlace_0 j ∧ tokenPlace_0 j ≤ 2000) (hK_0_163 : ∀ j : Int, 0 ≤ j → j < 2010 → 0 ≤ tokenEnd_0 j ∧ tokenEnd_0 j ≤ 2000) (kz_0_8 : 0 ≤ fault_0 ∧ fault_0 ≤ 5) (kz_0_10 : 0 ≤ limit_0 ∧ limit_0 ≤ 2000) (kz_0_158 : 0 ≤ cur_0 ∧ cur_0 ≤ 2009) : (x13 = 1) → (tokenKind_0 (cur_0) = 1) := by
  first | assumption | (clear hK_0_1 hK_0_160 hK_0_162 hK_0_163; omega) | omega | grind
set_option maxHeartbeats 4000000 in
theorem vc_Mo_word_at_s5027_2_1 (x4 : Int) (x8 : Int) (x10 : Int) (x11 : Int) (x12 : Int) (x13 : Int) (tokenPlace_0 : Int → Int) (cur_0 : Int) (tokenEnd_0 : Int → Int) (tokenKind_0 : Int → Int) (fault_0 : Int) (tape_0 : Int → Int) (limit_0 : Int) (k4 : 0 ≤ x4 ∧ x4 ≤ 2009) (k8 : 0 ≤ x8 ∧ x8 ≤ 2000) (k10 : 0 ≤ x10 ∧ x10 ≤ 2000) (k11 : (-2000) ≤ x11 ∧ x11 ≤ 2000) (k12 : 3 ≤ x12 ∧ x12 ≤ 3) (k13 : 0 ≤ x13 ∧ x13 ≤ 0) (f1 : x11 ≠ x12) (f2 : x11 = x8 - x10) (h3 : x10 = tokenPlace_0 (x4)) (g4 : x4 = cur_0) (h6 : x8 = tokenEnd_0 (x4)) (kz_0_8 : 0 ≤ fault_0 ∧ fault_0 ≤ 5) (kz_0_10 : 0 ≤ limit_0 ∧ limit_0 ≤ 2000) (kz_0_158 : 0 ≤ cur_0 ∧ cur_0 ≤ 2009) : Wqout (fault_0) (cur_0) (limit_0) (tokenKind_0) (tokenPlace_0) (tokenEnd_0) (tape_0) (x13) := by
  first
    | exact ⟨fun z => by omega, fun z => by have := z.1; omega⟩
    | (have e := (‹x4 = cur_0›)
       rw [← e]
       refine ⟨fun z => ⟨by omega, wdS3.2 ⟨by omega, by omega, by omega, by rw [show tokenPlace_0 x4 + 0 = x17 by omega]; omega, by rw [show tokenPlace_0 x4 + 1 = x24 by omega]; omega, by rw [show tokenPlace_0 x4 + 2 = x31 by omega]; omega⟩⟩, fun z => by omega⟩)
    | (have e := (‹x4 = cur_0›)
       rw [← e]
       refine ⟨fun z => by omega, fun z => ?_⟩
       have w := wdS3.1 z.2
       try (have q0 : tokenPlace_0 x4 + 0 = x17 := (by omega); rw [q0] at w)
       try (have q1 : tokenPlace_0 x4 + 1 = x24 := (by omega); rw [q1] at w)
       try (have q2 : tokenPlace_0 x4 + 2 = x31 := (by omega); rw [q2] at w)
       omega)
  
def o_Mo_word_at_s5027_2 : or_T := (102, 16, [(0, (2, 0, 0, [165])), (2, (0, 0, 0, [])), (4, (0, 0, 2009, [])), (5, (0, 1, 1, [])), (6, (0, 1, 1, [])), (8, (0, 0, 2000, [])), (10, (0, 0, 2000, [])), (11, (0, -2000, 2000, [])), (12, (0, 3, 3, [])), (13, (0, 0, 0, []))], [(8, [13], [0]), (7, [11, 12], [1]), (2, [11, 8, 10], []), (10, [10, 9, 4], []), (9, [4, 0], [158]), (9, [9, 0], [162]), (10, [8, 7, 4], []), (9, [7, 0], [163]), (7, [5, 6], [0]), (10, [5, 3, 4], []), (9, [3, 0], [160]), (8, [2], [0]), (9, [2, 0], [8])], [], [], [(20, [13, 0], [50, 1, 1, 1158, 1160, 4, 6, 1, 2, 1, 0, 0, 1, 1, 6, 3, 1, 160, 2, 1, 158, 0, 1]), (20, [0, 13], [60, 3, 4, 30, 8, 158, 10, 160, 162, 163, 1])], [], [(11, 8, -2000, 0)])
theorem oo_Mo_word_at_s5027_2 {kA : Nat → ClassId} : or_ok PRD kA GG o_Mo_word_at_s5027_2 := by
  refine or_mk fun A ta ws vs hD hth hl => ?_
  intro t0 r0 t2 k2 t4 k4 t5 k5 t6 k6 t8 k8 t10 k10 t11 k11 t12 k12 t13 k13 d0 f0 f1 f2 f3 f4 f5 f6 f7 f8 f9 f10 f11 f12
  replace f3 := shm_107 f3
  replace f4 := shm_286 f4
  replace f5 := shm_301 f5
  replace f6 := shm_107 f6
  replace f7 := shm_1332 f7
  replace f9 := shm_107 f9
  replace f10 := shm_327 f10
  replace f12 := shm_293 f12
  have cr_0_1 := fdq_39 hD hth r0
  have cr_0_160 := fdq_33 hD hth r0
  have cr_0_162 := fdq_41 hD hth r0
  have cr_0_163 := fdq_42 hD hth r0
  have ad_9 : v_ad (n_v vs 9) = w_ar ws (n_v vs 0) 162 := congrArg v_ad f5
  have ad_7 : v_ad (n_v vs 7) = w_ar ws (n_v vs 0) 163 := congrArg v_ad f7
  have ad_3 : v_ad (n_v vs 3) = w_ar ws (n_v vs 0) 160 := congrArg v_ad f10
  simp only [ad_9] at f3
  have h3 : v_iv (n_v vs 10) = w_ei ws (w_ar ws (n_v vs 0) 162) (v_iv (n_v vs 4)) := f3
  have g4 : v_iv (n_v vs 4) = w_fi ws (n_v vs 0) 158 := congrArg v_iv f4
  simp only [ad_7] at f6
  have h6 : v_iv (n_v vs 8) = w_ei ws (w_ar ws (n_v vs 0) 163) (v_iv (n_v vs 4)) := f6
  simp only [ad_3] at f9
  have h9 : v_iv (n_v vs 5) = w_ei ws (w_ar ws (n_v vs 0) 160) (v_iv (n_v vs 4)) := f9
  have g12 : v_iv (n_v vs 2) = w_fi ws (n_v vs 0) 8 := congrArg v_iv f12
  have hK_0_1 := elq_7 hD hth cr_0_1
  have hK_0_160 := elq_6 hD hth cr_0_160
  have hK_0_162 := elq_8 hD hth cr_0_162
  have hK_0_163 := elq_9 hD hth cr_0_163
  have kz_0_8 := fdq_34 hD hth r0
  have kz_0_10 := fdq_43 hD hth r0
  have kz_0_158 := fdq_36 hD hth r0
  have nf0 : fc_1 PRD (20, [13, 0], [50, 1, 1, 1158, 1160, 4, 6, 1, 2, 1, 0, 0, 1, 1, 6, 3, 1, 160, 2, 1, 158, 0, 1]) ws (vs) := ⟨nf_in hl rfl, sgq_287 (vc_Mo_word_at_s5027_2_0 (v_iv (n_v vs 2)) (v_iv (n_v vs 4)) (v_iv (n_v vs 5)) (v_iv (n_v vs 6)) (v_iv (n_v vs 8)) (v_iv (n_v vs 10)) (v_iv (n_v vs 11)) (v_iv (n_v vs 12)) (v_iv (n_v vs 13)) (w_ei ws (w_ar ws (n_v vs 0) 162)) (w_fi ws (n_v vs 0) 158) (w_ei ws (w_ar ws (n_v vs 0) 163)) (w_ei ws (w_ar ws (n_v vs 0) 160)) (w_fi ws (n_v vs 0) 8) (w_ei ws (w_ar ws (n_v vs 0) 1)) (w_fi ws (n_v vs 0) 10) k2 k4 k5 k6 k8 k10 k11 k12 k13 d0 (shm_192 f0) (shm_40 f1) (shm_14 f2) h3 g4 h6 (shm_37 f8) h9 (shm_192 f11) g12 hK_0_1 hK_0_160 hK_0_162 hK_0_163 kz_0_8 kz_0_10 kz_0_158)⟩
  have nf1 : fc_1 PRD (20, [0, 13], [60, 3, 4, 30, 8, 158, 10, 160, 162, 163, 1]) ws (vs) := ⟨nf_in hl rfl, sgq_1871 (vc_Mo_word_at_s5027_2_1 (v_iv (n_v vs 4)) (v_iv (n_v vs 8)) (v_iv (n_v vs 10)) (v_iv (n_v vs 11)) (v_iv (n_v vs 12)) (v_iv (n_v vs 13)) (w_ei ws (w_ar ws (n_v vs 0) 162)) (w_fi ws (n_v vs 0) 158) (w_ei ws (w_ar ws (n_v vs 0) 163)) (w_ei ws (w_ar ws (n_v vs 0) 160)) (w_fi ws (n_v vs 0) 8) (w_ei ws (w_ar ws (n_v vs 0) 1)) (w_fi ws (n_v vs 0) 10) k4 k8 k10 k11 k12 k13 (shm_40 f1) (shm_14 f2) h3 g4 h6 kz_0_8 kz_0_10 kz_0_158)⟩
  refine ⟨(fun _ h => (by cases h)), [], trivial, ?_, (fun _ h => (by cases h))⟩
  rw [List.append_nil]
  exact List.forall_mem_cons.mpr ⟨⟨show (20 : Nat) < 100 from by decide, nf0⟩, List.forall_mem_cons.mpr ⟨⟨show (20 : Nat) < 100 from by decide, nf1⟩, (fun _ h => (by cases h))⟩⟩
set_option maxHeartbeats 4000000 in
theorem vc_Mo_word_at_s5027_3_0 (x2 : Int) (x4 : Int) (x5 : Int) (x6 : Int) (x8 : Int) (x10 : Int) (x11 : Int) (x12 : Int) (x14 : Int) (x15 : Int) (x16 : Int) (x17 : Int) (x18 : Int) (x19 : Int) (x20 : Int) (tape_0 : Int → Int) (limit_0 : Int) (tokenPlace_0 : Int → Int) (cur_0 : Int) (tokenEnd_0 : Int → Int) (tokenKind_0 : Int → Int) (fault_0 : Int) (k2 : 0 ≤ x2 ∧ x2 ≤ 0) (k4 : 0 ≤ x4 ∧ x4 ≤ 2009) (k5 : 1 ≤ x5 ∧ x5 ≤ 1) (k6 : 1 ≤ x6 ∧ x6 ≤ 1) (k8 : 3 ≤ x8 ∧ x8 ≤ 2000) (k10 : 0 ≤ x10 ∧ x10 ≤ 2000) (k11 : 3 ≤ x11 ∧ x11 ≤ 3) (k12 : 3 ≤ x12 ∧ x12 ≤ 3) (k14 : 0 ≤ x14 ∧ x14 ≤ 0) (k15 : 3 ≤ x15 ∧ x15 ≤ 3) (k16 : 0 ≤ x16 ∧ x16 ≤ 2000) (k17 : 0 ≤ x17 ∧ x17 ≤ 2000) (k18 : (-1) ≤ x18 ∧ x18 ≤ (-1)) (k19 : 0 ≤ x19 ∧ x19 ≤ 65535) (k20 : 0 ≤ x20 ∧ x20 ≤ 0) (d0 : x16 + 0 ≤ x17 ∧ x17 ≤ x16 + 0) (f0 : x20 = 0) (f1 : x18 ≠ x19) (f2 : 1 * x19 + 0 ≤ 111) (f3 : (-1) * x19 + 0 ≤ (-111)) (f4 : ((x17 + 1) ≤ limit_0) → (x18 = (tape_0 (x17) % 256))) (f5 : (limit_0 ≤ x17) → (x18 = (-1))) (f6 : x17 = x16 + x14) (h7 : x16 = tokenPlace_0 (x4)) (g8 : x4 = cur_0) (f10 : x14 < x15) (f11 : x11 = x12) (f12 : x11 = x8 - x10) (h13 : x10 = tokenPlace_0 (x4)) (h14 : x8 = tokenEnd_0 (x4)) (f16 : x5 = x6) (h17 : x5 = tokenKind_0 (x4)) (f19 : x2 = 0) (g20 : x2 = fault_0) (hK_0_1 : ∀ j : Int, 0 ≤ j → j < 2000 → (-128) ≤ tape_0 j ∧ tape_0 j ≤ 127) (hK_0_160 : ∀ j : Int, 0 ≤ j → j < 2010 → 0 ≤ tokenKind_0 j ∧ tokenKind_0 j ≤ 4) (hK_0_162 : ∀ j : Int, 0 ≤ j → j < 2010 → 0 ≤ tokenPlace_0 j ∧ tokenPlace_0 j ≤ 2000) (hK_0_163 : ∀ j : Int, 0 ≤ j → j < 2010 → 0 ≤ tokenEnd_0 j ∧ tokenEnd_0 j ≤ 2000) (kz_0_8 : 0 ≤ fault_0 ∧ fault_0 ≤ 5) (kz_0_10 : 0 ≤ limit_0 ∧ limit_0 ≤ 2000) (kz_0_158 : 0 ≤ cur_0 ∧ cur_0 ≤ 2009) : (x20 = 1) → (tokenKind_0 (cur_0) = 1) := by
  first | assumption | (clear f4 f5 hK_0_1 hK_0_160 hK_0_162 hK_0_163; omega) | (clear hK_0_1 hK_0_160 hK_0_162 hK_0_163; grind) | omega | grind
set_option maxHeartbeats 4000000 in
theorem vc_Mo_word_at_s5027_3_1 (x4 : Int) (x8 : Int) (x10 : Int) (x11 : Int) (x16 : Int) (x17 : Int) (x18 : Int) (x20 : Int) (tape_0 : Int → Int) (limit_0 : Int) (tokenPlace_0 : Int → Int) (cur_0 : Int) (tokenEnd_0 : Int → Int) (tokenKind_0 : Int → Int) (fault_0 : Int) (k4 : 0 ≤ x4 ∧ x4 ≤ 2009) (k8 : 3 ≤ x8 ∧ x8 ≤ 2000) (k10 : 0 ≤ x10 ∧ x10 ≤ 2000) (k11 : 3 ≤ x11 ∧ x11 ≤ 3) (k16 : 0 ≤ x16 ∧ x16 ≤ 2000) (k17 : 0 ≤ x17 ∧ x17 ≤ 2000) (k18 : (-1) ≤ x18 ∧ x18 ≤ (-1)) (k20 : 0 ≤ x20 ∧ x20 ≤ 0) (d0 : x16 + 0 ≤ x17 ∧ x17 ≤ x16 + 0) (f4 : ((x17 + 1) ≤ limit_0) → (x18 = (tape_0 (x17) % 256))) (f5 : (limit_0 ≤ x17) → (x18 = (-1))) (h7 : x16 = tokenPlace_0 (x4)) (g8 : x4 = cur_0) (f12 : x11 = x8 - x10) (h13 : x10 = tokenPlace_0 (x4)) (h14 : x8 = tokenEnd_0 (x4)) (kz_0_8 : 0 ≤ fault_0 ∧ fault_0 ≤ 5) (kz_0_10 : 0 ≤ limit_0 ∧ limit_0 ≤ 2000) (kz_0_158 : 0 ≤ cur_0 ∧ cur_0 ≤ 2009) : Wqout (fault_0) (cur_0) (limit_0) (tokenKind_0) (tokenPlace_0) (tokenEnd_0) (tape_0) (x20) := by
  first
    | exact ⟨fun z => by omega, fun z => by have := z.1; omega⟩
    | (have e := (‹x4 = cur_0›)
       rw [← e]
       refine ⟨fun z => ⟨by omega, wdS3.2 ⟨by omega, by omega, by omega, by rw [show tokenPlace_0 x4 + 0 = x17 by omega]; omega, by rw [show tokenPlace_0 x4 + 1 = x24 by omega]; omega, by rw [show tokenPlace_0 x4 + 2 = x31 by omega]; omega⟩⟩, fun z => by omega⟩)
    | (have e := (‹x4 = cur_0›)
       rw [← e]
       refine ⟨fun z => by omega, fun z => ?_⟩
       have w := wdS3.1 z.2
       try (have q0 : tokenPlace_0 x4 + 0 = x17 := (by omega); rw [q0] at w)
       try (have q1 : tokenPlace_0 x4 + 1 = x24 := (by omega); rw [q1] at w)
       try (have q2 : tokenPlace_0 x4 + 2 = x31 := (by omega); rw [q2] at w)
       omega)
  
def o_Mo_word_at_s5027_3 : or_T := (102, 23, [(0, (2, 0, 0, [165])), (2, (0, 0, 0, [])), (3, (2, 0, 0, [274])), (4, (0, 0, 2009, [])), (5, (0, 1, 1, [])), (6, (0, 1, 1, [])), (7, (2, 0, 0, [277])), (8, (0, 3, 2000, [])), (9, (2, 0, 0, [276])), (10, (0, 0, 2000, [])), (11, (0, 3, 3, [])), (12, (0, 3, 3, [])), (14, (0, 0, 0, [])), (15, (0, 3, 3, [])), (16, (0, 0, 2000, [])), (17, (0, 0, 2000, [])), (18, (0, -1, -1, [])), (19, (0, 0, 65535, [])), (20, (0, 0, 0, []))], [(8, [20], [0]), (7, [18, 19], [1]), (23, [19], [111, 1]), (23, [19], [-111, -1]), (20, [17, 0, 18], [50, 1, 1, 1010, 1001, 4, 11, 0, 6, 4, 2, 1, 0, 0, 1, 2, 1, 10, 1, 2, 1, 2, 9, 5, 3, 1, 1, 1, 0, 0, 256]), (20, [0, 17, 18], [50, 1, 0, 10, 4, 7, 0, 3, 2, 0, 10, 1, 1, 1, 2, 1, 2, 0, -1]), (1, [17, 16, 14], []), (10, [16, 9, 4], []), (9, [4, 0], [158]), (9, [9, 0], [162]), (7, [14, 15], [2]), (7, [11, 12], [0]), (2, [11, 8, 10], []), (10, [10, 9, 4], []), (10, [8, 7, 4], []), (9, [7, 0], [163]), (7, [5, 6], [0]), (10, [5, 3, 4], []), (9, [3, 0], [160]), (8, [2], [0]), (9, [2, 0], [8])], [], [], [(20, [20, 0], [50, 1, 1, 1158, 1160, 4, 6, 1, 2, 1, 0, 0, 1, 1, 6, 3, 1, 160, 2, 1, 158, 0, 1]), (20, [0, 20], [60, 3, 4, 30, 8, 158, 10, 160, 162, 163, 1])], [], [(17, 16, 0, 0)])
theorem oo_Mo_word_at_s5027_3 {kA : Nat → ClassId} : or_ok PRD kA GG o_Mo_word_at_s5027_3 := by
  refine or_mk fun A ta ws vs hD hth hl => ?_
  intro t0 r0 t2 k2 t3 r3 t4 k4 t5 k5 t6 k6 t7 r7 t8 k8 t9 r9 t10 k10 t11 k11 t12 k12 t14 k14 t15 k15 t16 k16 t17 k17 t18 k18 t19 k19 t20 k20 d0 f0 f1 f2 f3 f4 f5 f6 f7 f8 f9 f10 f11 f12 f13 f14 f15 f16 f17 f18 f19 f20
  replace f7 := shm_107 f7
  replace f8 := shm_286 f8
  replace f9 := shm_301 f9
  replace f13 := shm_107 f13
  replace f14 := shm_107 f14
  replace f15 := shm_1332 f15
  replace f17 := shm_107 f17
  replace f18 := shm_327 f18
  replace f20 := shm_293 f20
  have cr_0_1 := fdq_39 hD hth r0
  have cr_0_160 := fdq_33 hD hth r0
  have cr_0_162 := fdq_41 hD hth r0
  have cr_0_163 := fdq_42 hD hth r0
  have ad_9 : v_ad (n_v vs 9) = w_ar ws (n_v vs 0) 162 := congrArg v_ad f9
  have ad_7 : v_ad (n_v vs 7) = w_ar ws (n_v vs 0) 163 := congrArg v_ad f15
  have ad_3 : v_ad (n_v vs 3) = w_ar ws (n_v vs 0) 160 := congrArg v_ad f18
  simp only [ad_9] at f7
  have h7 : v_iv (n_v vs 16) = w_ei ws (w_ar ws (n_v vs 0) 162) (v_iv (n_v vs 4)) := f7
  have g8 : v_iv (n_v vs 4) = w_fi ws (n_v vs 0) 158 := congrArg v_iv f8
  simp only [ad_9] at f13
  have h13 : v_iv (n_v vs 10) = w_ei ws (w_ar ws (n_v vs 0) 162) (v_iv (n_v vs 4)) := f13
  simp only [ad_7] at f14
  have h14 : v_iv (n_v vs 8) = w_ei ws (w_ar ws (n_v vs 0) 163) (v_iv (n_v vs 4)) := f14
  simp only [ad_3] at f17
  have h17 : v_iv (n_v vs 5) = w_ei ws (w_ar ws (n_v vs 0) 160) (v_iv (n_v vs 4)) := f17
  have g20 : v_iv (n_v vs 2) = w_fi ws (n_v vs 0) 8 := congrArg v_iv f20
  have hK_0_1 := elq_7 hD hth cr_0_1
  have hK_0_160 := elq_6 hD hth cr_0_160
  have hK_0_162 := elq_8 hD hth cr_0_162
  have hK_0_163 := elq_9 hD hth cr_0_163
  have kz_0_8 := fdq_34 hD hth r0
  have kz_0_10 := fdq_43 hD hth r0
  have kz_0_158 := fdq_36 hD hth r0
  have nf0 : fc_1 PRD (20, [20, 0], [50, 1, 1, 1158, 1160, 4, 6, 1, 2, 1, 0, 0, 1, 1, 6, 3, 1, 160, 2, 1, 158, 0, 1]) ws (vs) := ⟨nf_in hl rfl, sgq_287 (vc_Mo_word_at_s5027_3_0 (v_iv (n_v vs 2)) (v_iv (n_v vs 4)) (v_iv (n_v vs 5)) (v_iv (n_v vs 6)) (v_iv (n_v vs 8)) (v_iv (n_v vs 10)) (v_iv (n_v vs 11)) (v_iv (n_v vs 12)) (v_iv (n_v vs 14)) (v_iv (n_v vs 15)) (v_iv (n_v vs 16)) (v_iv (n_v vs 17)) (v_iv (n_v vs 18)) (v_iv (n_v vs 19)) (v_iv (n_v vs 20)) (w_ei ws (w_ar ws (n_v vs 0) 1)) (w_fi ws (n_v vs 0) 10) (w_ei ws (w_ar ws (n_v vs 0) 162)) (w_fi ws (n_v vs 0) 158) (w_ei ws (w_ar ws (n_v vs 0) 163)) (w_ei ws (w_ar ws (n_v vs 0) 160)) (w_fi ws (n_v vs 0) 8) k2 k4 k5 k6 k8 k10 k11 k12 k14 k15 k16 k17 k18 k19 k20 d0 (shm_192 f0) (shm_40 f1) (shm_55 f2) (shm_56 f3) (shm_541 f4) (shm_542 f5) (shm_12 f6) h7 g8 (shm_6 f10) (shm_37 f11) (shm_14 f12) h13 h14 (shm_37 f16) h17 (shm_192 f19) g20 hK_0_1 hK_0_160 hK_0_162 hK_0_163 kz_0_8 kz_0_10 kz_0_158)⟩
  have nf1 : fc_1 PRD (20, [0, 20], [60, 3, 4, 30, 8, 158, 10, 160, 162, 163, 1]) ws (vs) := ⟨nf_in hl rfl, sgq_1871 (vc_Mo_word_at_s5027_3_1 (v_iv (n_v vs 4)) (v_iv (n_v vs 8)) (v_iv (n_v vs 10)) (v_iv (n_v vs 11)) (v_iv (n_v vs 16)) (v_iv (n_v vs 17)) (v_iv (n_v vs 18)) (v_iv (n_v vs 20)) (w_ei ws (w_ar ws (n_v vs 0) 1)) (w_fi ws (n_v vs 0) 10) (w_ei ws (w_ar ws (n_v vs 0) 162)) (w_fi ws (n_v vs 0) 158) (w_ei ws (w_ar ws (n_v vs 0) 163)) (w_ei ws (w_ar ws (n_v vs 0) 160)) (w_fi ws (n_v vs 0) 8) k4 k8 k10 k11 k16 k17 k18 k20 d0 (shm_541 f4) (shm_542 f5) h7 g8 (shm_14 f12) h13 h14 kz_0_8 kz_0_10 kz_0_158)⟩
  refine ⟨(fun _ h => (by cases h)), [], trivial, ?_, (fun _ h => (by cases h))⟩
  rw [List.append_nil]
  exact List.forall_mem_cons.mpr ⟨⟨show (20 : Nat) < 100 from by decide, nf0⟩, List.forall_mem_cons.mpr ⟨⟨show (20 : Nat) < 100 from by decide, nf1⟩, (fun _ h => (by cases h))⟩⟩
set_option maxHeartbeats 4000000 in
theorem vc_Mo_word_at_s5027_4_0 (x2 : Int) (x4 : Int) (x5 : Int) (x6 : Int) (x8 : Int) (x10 : Int) (x11 : Int) (x12 : Int) (x14 : Int) (x15 : Int) (x16 : Int) (x17 : Int) (x18 : Int) (x19 : Int) (x20 : Int) (tape_0 : Int → Int) (limit_0 : Int) (tokenPlace_0 : Int → Int) (cur_0 : Int) (tokenEnd_0 : Int → Int) (tokenKind_0 : Int → Int) (fault_0 : Int) (k2 : 0 ≤ x2 ∧ x2 ≤ 0) (k4 : 0 ≤ x4 ∧ x4 ≤ 2009) (k5 : 1 ≤ x5 ∧ x5 ≤ 1) (k6 : 1 ≤ x6 ∧ x6 ≤ 1) (k8 : 3 ≤ x8 ∧ x8 ≤ 2000) (k10 : 0 ≤ x10 ∧ x10 ≤ 2000) (k11 : 3 ≤ x11 ∧ x11 ≤ 3) (k12 : 3 ≤ x12 ∧ x12 ≤ 3) (k14 : 0 ≤ x14 ∧ x14 ≤ 0) (k15 : 3 ≤ x15 ∧ x15 ≤ 3) (k16 : 0 ≤ x16 ∧ x16 ≤ 1999) (k17 : 0 ≤ x17 ∧ x17 ≤ 1999) (k18 : 0 ≤ x18 ∧ x18 ≤ 255) (k19 : 0 ≤ x19 ∧ x19 ≤ 65535) (k20 : 0 ≤ x20 ∧ x20 ≤ 0) (d0 : x16 + 0 ≤ x17 ∧ x17 ≤ x16 + 0) (f0 : x20 = 0) (f1 : x18 ≠ x19) (f2 : 1 * x19 + 0 ≤ 111) (f3 : (-1) * x19 + 0 ≤ (-111)) (f4 : ((x17 + 1) ≤ limit_0) → (x18 = (tape_0 (x17) % 256))) (f5 : (limit_0 ≤ x17) → (x18 = (-1))) (f6 : x17 = x16 + x14) (h7 : x16 = tokenPlace_0 (x4)) (g8 : x4 = cur_0) (f10 : x14 < x15) (f11 : x11 = x12) (f12 : x11 = x8 - x10) (h13 : x10 = tokenPlace_0 (x4)) (h14 : x8 = tokenEnd_0 (x4)) (f16 : x5 = x6) (h17 : x5 = tokenKind_0 (x4)) (f19 : x2 = 0) (g20 : x2 = fault_0) (hK_0_1 : ∀ j : Int, 0 ≤ j → j < 2000 → (-128) ≤ tape_0 j ∧ tape_0 j ≤ 127) (hK_0_160 : ∀ j : Int, 0 ≤ j → j < 2010 → 0 ≤ tokenKind_0 j ∧ tokenKind_0 j ≤ 4) (hK_0_162 : ∀ j : Int, 0 ≤ j → j < 2010 → 0 ≤ tokenPlace_0 j ∧ tokenPlace_0 j ≤ 2000) (hK_0_163 : ∀ j : Int, 0 ≤ j → j < 2010 → 0 ≤ tokenEnd_0 j ∧ tokenEnd_0 j ≤ 2000) (kz_0_8 : 0 ≤ fault_0 ∧ fault_0 ≤ 5) (kz_0_10 : 0 ≤ limit_0 ∧ limit_0 ≤ 2000) (kz_0_158 : 0 ≤ cur_0 ∧ cur_0 ≤ 2009) : (x20 = 1) → (tokenKind_0 (cur_0) = 1) := by
  first | assumption | (clear f4 f5 hK_0_1 hK_0_160 hK_0_162 hK_0_163; omega) | (clear hK_0_1 hK_0_160 hK_0_162 hK_0_163; grind) | omega | grind
set_option maxHeartbeats 4000000 in
theorem vc_Mo_word_at_s5027_4_1 (x4 : Int) (x8 : Int) (x10 : Int) (x11 : Int) (x16 : Int) (x17 : Int) (x18 : Int) (x19 : Int) (x20 : Int) (tape_0 : Int → Int) (limit_0 : Int) (tokenPlace_0 : Int → Int) (cur_0 : Int) (tokenEnd_0 : Int → Int) (tokenKind_0 : Int → Int) (fault_0 : Int) (k4 : 0 ≤ x4 ∧ x4 ≤ 2009) (k8 : 3 ≤ x8 ∧ x8 ≤ 2000) (k10 : 0 ≤ x10 ∧ x10 ≤ 2000) (k11 : 3 ≤ x11 ∧ x11 ≤ 3) (k16 : 0 ≤ x16 ∧ x16 ≤ 1999) (k17 : 0 ≤ x17 ∧ x17 ≤ 1999) (k18 : 0 ≤ x18 ∧ x18 ≤ 255) (k19 : 0 ≤ x19 ∧ x19 ≤ 65535) (k20 : 0 ≤ x20 ∧ x20 ≤ 0) (d0 : x16 + 0 ≤ x17 ∧ x17 ≤ x16 + 0) (f1 : x18 ≠ x19) (f2 : 1 * x19 + 0 ≤ 111) (f3 : (-1) * x19 + 0 ≤ (-111)) (f4 : ((x17 + 1) ≤ limit_0) → (x18 = (tape_0 (x17) % 256))) (f5 : (limit_0 ≤ x17) → (x18 = (-1))) (h7 : x16 = tokenPlace_0 (x4)) (g8 : x4 = cur_0) (f12 : x11 = x8 - x10) (h13 : x10 = tokenPlace_0 (x4)) (h14 : x8 = tokenEnd_0 (x4)) (kz_0_8 : 0 ≤ fault_0 ∧ fault_0 ≤ 5) (kz_0_10 : 0 ≤ limit_0 ∧ limit_0 ≤ 2000) (kz_0_158 : 0 ≤ cur_0 ∧ cur_0 ≤ 2009) : Wqout (fault_0) (cur_0) (limit_0) (tokenKind_0) (tokenPlace_0) (tokenEnd_0) (tape_0) (x20) := by
  first
    | exact ⟨fun z => by omega, fun z => by have := z.1; omega⟩
    | (have e := (‹x4 = cur_0›)
       rw [← e]
       refine ⟨fun z => ⟨by omega, wdS3.2 ⟨by omega, by omega, by omega, by rw [show tokenPlace_0 x4 + 0 = x17 by omega]; omega, by rw [show tokenPlace_0 x4 + 1 = x24 by omega]; omega, by rw [show tokenPlace_0 x4 + 2 = x31 by omega]; omega⟩⟩, fun z => by omega⟩)
    | (have e := (‹x4 = cur_0›)
       rw [← e]
       refine ⟨fun z => by omega, fun z => ?_⟩
       have w := wdS3.1 z.2
       try (have q0 : tokenPlace_0 x4 + 0 = x17 := (by omega); rw [q0] at w)
       try (have q1 : tokenPlace_0 x4 + 1 = x24 := (by omega); rw [q1] at w)
       try (have q2 : tokenPlace_0 x4 + 2 = x31 := (by omega); rw [q2] at w)
       omega)
  
def o_Mo_word_at_s5027_4 : or_T := (102, 23, [(0, (2, 0, 0, [165])), (2, (0, 0, 0, [])), (3, (2, 0, 0, [274])), (4, (0, 0, 2009, [])), (5, (0, 1, 1, [])), (6, (0, 1, 1, [])), (7, (2, 0, 0, [277])), (8, (0, 3, 2000, [])), (9, (2, 0, 0, [276])), (10, (0, 0, 2000, [])), (11, (0, 3, 3, [])), (12, (0, 3, 3, [])), (14, (0, 0, 0, [])), (15, (0, 3, 3, [])), (16, (0, 0, 1999, [])), (17, (0, 0, 1999, [])), (18, (0, 0, 255, [])), (19, (0, 0, 65535, [])), (20, (0, 0, 0, []))], [(8, [20], [0]), (7, [18, 19], [1]), (23, [19], [111, 1]), (23, [19], [-111, -1]), (20, [17, 0, 18], [50, 1, 1, 1010, 1001, 4, 11, 0, 6, 4, 2, 1, 0, 0, 1, 2, 1, 10, 1, 2, 1, 2, 9, 5, 3, 1, 1, 1, 0, 0, 256]), (20, [0, 17, 18], [50, 1, 0, 10, 4, 7, 0, 3, 2, 0, 10, 1, 1, 1, 2, 1, 2, 0, -1]), (1, [17, 16, 14], []), (10, [16, 9, 4], []), (9, [4, 0], [158]), (9, [9, 0], [162]), (7, [14, 15], [2]), (7, [11, 12], [0]), (2, [11, 8, 10], []), (10, [10, 9, 4], []), (10, [8, 7, 4], []), (9, [7, 0], [163]), (7, [5, 6], [0]), (10, [5, 3, 4], []), (9, [3, 0], [160]), (8, [2], [0]), (9, [2, 0], [8])], [], [], [(20, [20, 0], [50, 1, 1, 1158, 1160, 4, 6, 1, 2, 1, 0, 0, 1, 1, 6, 3, 1, 160, 2, 1, 158, 0, 1]), (20, [0, 20], [60, 3, 4, 30, 8, 158, 10, 160, 162, 163, 1])], [], [(17, 16, 0, 0)])
theorem oo_Mo_word_at_s5027_4 {kA : Nat → ClassId} : or_ok PRD kA GG o_Mo_word_at_s5027_4 := by
  refine or_mk fun A ta ws vs hD hth hl => ?_
  intro t0 r0 t2 k2 t3 r3 t4 k4 t5 k5 t6 k6 t7 r7 t8 k8 t9 r9 t10 k10 t11 k11 t12 k12 t14 k14 t15 k15 t16 k16 t17 k17 t18 k18 t19 k19 t20 k20 d0 f0 f1 f2 f3 f4 f5 f6 f7 f8 f9 f10 f11 f12 f13 f14 f15 f16 f17 f18 f19 f20
  replace f7 := shm_107 f7
  replace f8 := shm_286 f8
  replace f9 := shm_301 f9
  replace f13 := shm_107 f13
  replace f14 := shm_107 f14
  replace f15 := shm_1332 f15
  replace f17 := shm_107 f17
  replace f18 := shm_327 f18
  replace f20 := shm_293 f20
  have cr_0_1 := fdq_39 hD hth r0
  have cr_0_160 := fdq_33 hD hth r0
  have cr_0_162 := fdq_41 hD hth r0
  have cr_0_163 := fdq_42 hD hth r0
  have ad_9 : v_ad (n_v vs 9) = w_ar ws (n_v vs 0) 162 := congrArg v_ad f9
  have ad_7 : v_ad (n_v vs 7) = w_ar ws (n_v vs 0) 163 := congrArg v_ad f15
  have ad_3 : v_ad (n_v vs 3) = w_ar ws (n_v vs 0) 160 := congrArg v_ad f18
  simp only [ad_9] at f7
  have h7 : v_iv (n_v vs 16) = w_ei ws (w_ar ws (n_v vs 0) 162) (v_iv (n_v vs 4)) := f7
  have g8 : v_iv (n_v vs 4) = w_fi ws (n_v vs 0) 158 := congrArg v_iv f8
  simp only [ad_9] at f13
  have h13 : v_iv (n_v vs 10) = w_ei ws (w_ar ws (n_v vs 0) 162) (v_iv (n_v vs 4)) := f13
  simp only [ad_7] at f14
  have h14 : v_iv (n_v vs 8) = w_ei ws (w_ar ws (n_v vs 0) 163) (v_iv (n_v vs 4)) := f14
  simp only [ad_3] at f17
  have h17 : v_iv (n_v vs 5) = w_ei ws (w_ar ws (n_v vs 0) 160) (v_iv (n_v vs 4)) := f17
  have g20 : v_iv (n_v vs 2) = w_fi ws (n_v vs 0) 8 := congrArg v_iv f20
  have hK_0_1 := elq_7 hD hth cr_0_1
  have hK_0_160 := elq_6 hD hth cr_0_160
  have hK_0_162 := elq_8 hD hth cr_0_162
  have hK_0_163 := elq_9 hD hth cr_0_163
  have kz_0_8 := fdq_34 hD hth r0
  have kz_0_10 := fdq_43 hD hth r0
  have kz_0_158 := fdq_36 hD hth r0
  have nf0 : fc_1 PRD (20, [20, 0], [50, 1, 1, 1158, 1160, 4, 6, 1, 2, 1, 0, 0, 1, 1, 6, 3, 1, 160, 2, 1, 158, 0, 1]) ws (vs) := ⟨nf_in hl rfl, sgq_287 (vc_Mo_word_at_s5027_4_0 (v_iv (n_v vs 2)) (v_iv (n_v vs 4)) (v_iv (n_v vs 5)) (v_iv (n_v vs 6)) (v_iv (n_v vs 8)) (v_iv (n_v vs 10)) (v_iv (n_v vs 11)) (v_iv (n_v vs 12)) (v_iv (n_v vs 14)) (v_iv (n_v vs 15)) (v_iv (n_v vs 16)) (v_iv (n_v vs 17)) (v_iv (n_v vs 18)) (v_iv (n_v vs 19)) (v_iv (n_v vs 20)) (w_ei ws (w_ar ws (n_v vs 0) 1)) (w_fi ws (n_v vs 0) 10) (w_ei ws (w_ar ws (n_v vs 0) 162)) (w_fi ws (n_v vs 0) 158) (w_ei ws (w_ar ws (n_v vs 0) 163)) (w_ei ws (w_ar ws (n_v vs 0) 160)) (w_fi ws (n_v vs 0) 8) k2 k4 k5 k6 k8 k10 k11 k12 k14 k15 k16 k17 k18 k19 k20 d0 (shm_192 f0) (shm_40 f1) (shm_55 f2) (shm_56 f3) (shm_541 f4) (shm_542 f5) (shm_12 f6) h7 g8 (shm_6 f10) (shm_37 f11) (shm_14 f12) h13 h14 (shm_37 f16) h17 (shm_192 f19) g20 hK_0_1 hK_0_160 hK_0_162 hK_0_163 kz_0_8 kz_0_10 kz_0_158)⟩
  have nf1 : fc_1 PRD (20, [0, 20], [60, 3, 4, 30, 8, 158, 10, 160, 162, 163, 1]) ws (vs) := ⟨nf_in hl rfl, sgq_1871 (vc_Mo_word_at_s5027_4_1 (v_iv (n_v vs 4)) (v_iv (n_v vs 8)) (v_iv (n_v vs 10)) (v_iv (n_v vs 11)) (v_iv (n_v vs 16)) (v_iv (n_v vs 17)) (v_iv (n_v vs 18)) (v_iv (n_v vs 19)) (v_iv (n_v vs 20)) (w_ei ws (w_ar ws (n_v vs 0) 1)) (w_fi ws (n_v vs 0) 10) (w_ei ws (w_ar ws (n_v vs 0) 162)) (w_fi ws (n_v vs 0) 158) (w_ei ws (w_ar ws (n_v vs 0) 163)) (w_ei ws (w_ar ws (n_v vs 0) 160)) (w_fi ws (n_v vs 0) 8) k4 k8 k10 k11 k16 k17 k18 k19 k20 d0 (shm_40 f1) (shm_55 f2) (shm_56 f3) (shm_541 f4) (shm_542 f5) h7 g8 (shm_14 f12) h13 h14 kz_0_8 kz_0_10 kz_0_158)⟩
  refine ⟨(fun _ h => (by cases h)), [], trivial, ?_, (fun _ h => (by cases h))⟩
  rw [List.append_nil]
  exact List.forall_mem_cons.mpr ⟨⟨show (20 : Nat) < 100 from by decide, nf0⟩, List.forall_mem_cons.mpr ⟨⟨show (20 : Nat) < 100 from by decide, nf1⟩, (fun _ h => (by cases h))⟩⟩
set_option maxHeartbeats 4000000 in
theorem vc_Mo_word_at_s5027_5_0 (x2 : Int) (x4 : Int) (x5 : Int) (x6 : Int) (x8 : Int) (x10 : Int) (x11 : Int) (x12 : Int) (x14 : Int) (x15 : Int) (x16 : Int) (x17 : Int) (x18 : Int) (x19 : Int) (x21 : Int) (x22 : Int) (x23 : Int) (x24 : Int) (x25 : Int) (x26 : Int) (x27 : Int) (tape_0 : Int → Int) (limit_0 : Int) (tokenPlace_0 : Int → Int) (cur_0 : Int) (tokenEnd_0 : Int → Int) (tokenKind_0 : Int → Int) (fault_0 : Int) (k2 : 0 ≤ x2 ∧ x2 ≤ 0) (k4 : 0 ≤ x4 ∧ x4 ≤ 2009) (k5 : 1 ≤ x5 ∧ x5 ≤ 1) (k6 : 1 ≤ x6 ∧ x6 ≤ 1) (k8 : 3 ≤ x8 ∧ x8 ≤ 2000) (k10 : 0 ≤ x10 ∧ x10 ≤ 2000) (k11 : 3 ≤ x11 ∧ x11 ≤ 3) (k12 : 3 ≤ x12 ∧ x12 ≤ 3) (k14 : 0 ≤ x14 ∧ x14 ≤ 0) (k15 : 3 ≤ x15 ∧ x15 ≤ 3) (k16 : 0 ≤ x16 ∧ x16 ≤ 1999) (k17 : 0 ≤ x17 ∧ x17 ≤ 1999) (k18 : 0 ≤ x18 ∧ x18 ≤ 255) (k19 : 0 ≤ x19 ∧ x19 ≤ 255) (k21 : 1 ≤ x21 ∧ x21 ≤ 1) (k22 : 3 ≤ x22 ∧ x22 ≤ 3) (k23 : 0 ≤ x23 ∧ x23 ≤ 2000) (k24 : 1 ≤ x24 ∧ x24 ≤ 2001) (k25 : (-1) ≤ x25 ∧ x25 ≤ (-1)) (k26 : 0 ≤ x26 ∧ x26 ≤ 65535) (k27 : 0 ≤ x27 ∧ x27 ≤ 0) (d0 : x23 + 1 ≤ x24 ∧ x24 ≤ x23 + 1) (d1 : x19 + 0 ≤ x18 ∧ x18 ≤ x19 + 0) (d2 : x16 + 0 ≤ x17 ∧ x17 ≤ x16 + 0) (f0 : x27 = 0) (f1 : x25 ≠ x26) (f2 : 1 * x26 + 0 ≤ 117) (f3 : (-1) * x26 + 0 ≤ (-117)) (f4 : ((x24 + 1) ≤ limit_0) → (x25 = (tape_0 (x24) % 256))) (f5 : (limit_0 ≤ x24) → (x25 = (-1))) (f6 : x24 = x23 + x21) (h7 : x23 = tokenPlace_0 (x4)) (g8 : x4 = cur_0) (f10 : x21 < x22) (f11 : x21 = x14 + 1) (f12 : x18 = x19) (f13 : 1 * x19 + 0 ≤ 111) (f14 : (-1) * x19 + 0 ≤ (-111)) (f15 : ((x17 + 1) ≤ limit_0) → (x18 = (tape_0 (x17) % 256))) (f16 : (limit_0 ≤ x17) → (x18 = (-1))) (f17 : x17 = x16 + x14) (h18 : x16 = tokenPlace_0 (x4)) (f19 : x14 < x15) (f20 : x11 = x12) (f21 : x11 = x8 - x10) (h22 : x10 = tokenPlace_0 (x4)) (h23 : x8 = tokenEnd_0 (x4)) (f25 : x5 = x6) (h26 : x5 = tokenKind_0 (x4)) (f28 : x2 = 0) (g29 : x2 = fault_0) (hK_0_1 : ∀ j : Int, 0 ≤ j → j < 2000 → (-128) ≤ tape_0 j ∧ tape_0 j ≤ 127) (hK_0_160 : ∀ j : Int, 0 ≤ j → j < 2010 → 0 ≤ tokenKind_0 j ∧ tokenKind_0 j ≤ 4) (hK_0_162 : ∀ j : Int, 0 ≤ j → j < 2010 → 0 ≤ tokenPlace_0 j ∧ tokenPlace_0 j ≤ 2000) (hK_0_163 : ∀ j : Int, 0 ≤ j → j < 2010 → 0 ≤ tokenEnd_0 j ∧ tokenEnd_0 j ≤ 2000) (kz_0_8 : 0 ≤ fault_0 ∧ fault_0 ≤ 5) (kz_0_10 : 0 ≤ limit_0 ∧ limit_0 ≤ 2000) (kz_0_158 : 0 ≤ cur_0 ∧ cur_0 ≤ 2009) : (x27 = 1) → (tokenKind_0 (cur_0) = 1) := by
  first | assumption | (clear f4 f5 f15 f16 hK_0_1 hK_0_160 hK_0_162 hK_0_163; omega) | (clear hK_0_1 hK_0_160 hK_0_162 hK_0_163; grind) | omega | grind
set_option maxHeartbeats 4000000 in
theorem vc_Mo_word_at_s5027_5_1 (x4 : Int) (x8 : Int) (x10 : Int) (x11 : Int) (x16 : Int) (x17 : Int) (x18 : Int) (x19 : Int) (x23 : Int) (x24 : Int) (x25 : Int) (x27 : Int) (tape_0 : Int → Int) (limit_0 : Int) (tokenPlace_0 : Int → Int) (cur_0 : Int) (tokenEnd_0 : Int → Int) (tokenKind_0 : Int → Int) (fault_0 : Int) (k4 : 0 ≤ x4 ∧ x4 ≤ 2009) (k8 : 3 ≤ x8 ∧ x8 ≤ 2000) (k10 : 0 ≤ x10 ∧ x10 ≤ 2000) (k11 : 3 ≤ x11 ∧ x11 ≤ 3) (k16 : 0 ≤ x16 ∧ x16 ≤ 1999) (k17 : 0 ≤ x17 ∧ x17 ≤ 1999) (k18 : 0 ≤ x18 ∧ x18 ≤ 255) (k19 : 0 ≤ x19 ∧ x19 ≤ 255) (k23 : 0 ≤ x23 ∧ x23 ≤ 2000) (k24 : 1 ≤ x24 ∧ x24 ≤ 2001) (k25 : (-1) ≤ x25 ∧ x25 ≤ (-1)) (k27 : 0 ≤ x27 ∧ x27 ≤ 0) (d0 : x23 + 1 ≤ x24 ∧ x24 ≤ x23 + 1) (d1 : x19 + 0 ≤ x18 ∧ x18 ≤ x19 + 0) (d2 : x16 + 0 ≤ x17 ∧ x17 ≤ x16 + 0) (f4 : ((x24 + 1) ≤ limit_0) → (x25 = (tape_0 (x24) % 256))) (f5 : (limit_0 ≤ x24) → (x25 = (-1))) (h7 : x23 = tokenPlace_0 (x4)) (g8 : x4 = cur_0) (f13 : 1 * x19 + 0 ≤ 111) (f14 : (-1) * x19 + 0 ≤ (-111)) (f15 : ((x17 + 1) ≤ limit_0) → (x18 = (tape_0 (x17) % 256))) (f16 : (limit_0 ≤ x17) → (x18 = (-1))) (h18 : x16 = tokenPlace_0 (x4)) (f21 : x11 = x8 - x10) (h22 : x10 = tokenPlace_0 (x4)) (h23 : x8 = tokenEnd_0 (x4)) (kz_0_8 : 0 ≤ fault_0 ∧ fault_0 ≤ 5) (kz_0_10 : 0 ≤ limit_0 ∧ limit_0 ≤ 2000) (kz_0_158 : 0 ≤ cur_0 ∧ cur_0 ≤ 2009) : Wqout (fault_0) (cur_0) (limit_0) (tokenKind_0) (tokenPlace_0) (tokenEnd_0) (tape_0) (x27) := by
  first
    | exact ⟨fun z => by omega, fun z => by have := z.1; omega⟩
    | (have e := (‹x4 = cur_0›)
       rw [← e]
       refine ⟨fun z => ⟨by omega, wdS3.2 ⟨by omega, by omega, by omega, by rw [show tokenPlace_0 x4 + 0 = x17 by omega]; omega, by rw [show tokenPlace_0 x4 + 1 = x24 by omega]; omega, by rw [show tokenPlace_0 x4 + 2 = x31 by omega]; omega⟩⟩, fun z => by omega⟩)
    | (have e := (‹x4 = cur_0›)
       rw [← e]
       refine ⟨fun z => by omega, fun z => ?_⟩
       have w := wdS3.1 z.2
       try (have q0 : tokenPlace_0 x4 + 0 = x17 := (by omega); rw [q0] at w)
       try (have q1 : tokenPlace_0 x4 + 1 = x24 := (by omega); rw [q1] at w)
       try (have q2 : tokenPlace_0 x4 + 2 = x31 := (by omega); rw [q2] at w)
       omega)
  
def o_Mo_word_at_s5027_5 : or_T := (102, 30, [(0, (2, 0, 0, [165])), (2, (0, 0, 0, [])), (3, (2, 0, 0, [274])), (4, (0, 0, 2009, [])), (5, (0, 1, 1, [])), (6, (0, 1, 1, [])), (7, (2, 0, 0, [277])), (8, (0, 3, 2000, [])), (9, (2, 0, 0, [276])), (10, (0, 0, 2000, [])), (11, (0, 3, 3, [])), (12, (0, 3, 3, [])), (14, (0, 0, 0, [])), (15, (0, 3, 3, [])), (16, (0, 0, 1999, [])), (17, (0, 0, 1999, [])), (18, (0, 0, 255, [])), (19, (0, 0, 255, [])), (21, (0, 1, 1, [])), (22, (0, 3, 3, [])), (23, (0, 0, 2000, [])), (24, (0, 1, 2001, [])), (25, (0, -1, -1, [])), (26, (0, 0, 65535, [])), (27, (0, 0, 0, []))], [(8, [27], [0]), (7, [25, 26], [1]), (23, [26], [117, 1]), (23, [26], [-117, -1]), (20, [24, 0, 25], [50, 1, 1, 1010, 1001, 4, 11, 0, 6, 4, 2, 1, 0, 0, 1, 2, 1, 10, 1, 2, 1, 2, 9, 5, 3, 1, 1, 1, 0, 0, 256]), (20, [0, 24, 25], [50, 1, 0, 10, 4, 7, 0, 3, 2, 0, 10, 1, 1, 1, 2, 1, 2, 0, -1]), (1, [24, 23, 21], []), (10, [23, 9, 4], []), (9, [4, 0], [158]), (9, [9, 0], [162]), (7, [21, 22], [2]), (6, [21, 14], [1]), (7, [18, 19], [0]), (23, [19], [111, 1]), (23, [19], [-111, -1]), (20, [17, 0, 18], [50, 1, 1, 1010, 1001, 4, 11, 0, 6, 4, 2, 1, 0, 0, 1, 2, 1, 10, 1, 2, 1, 2, 9, 5, 3, 1, 1, 1, 0, 0, 256]), (20, [0, 17, 18], [50, 1, 0, 10, 4, 7, 0, 3, 2, 0, 10, 1, 1, 1, 2, 1, 2, 0, -1]), (1, [17, 16, 14], []), (10, [16, 9, 4], []), (7, [14, 15], [2]), (7, [11, 12], [0]), (2, [11, 8, 10], []), (10, [10, 9, 4], []), (10, [8, 7, 4], []), (9, [7, 0], [163]), (7, [5, 6], [0]), (10, [5, 3, 4], []), (9, [3, 0], [160]), (8, [2], [0]), (9, [2, 0], [8])], [], [], [(20, [27, 0], [50, 1, 1, 1158, 1160, 4, 6, 1, 2, 1, 0, 0, 1, 1, 6, 3, 1, 160, 2, 1, 158, 0, 1]), (20, [0, 27], [60, 3, 4, 30, 8, 158, 10, 160, 162, 163, 1])], [], [(24, 23, 1, 1), (18, 19, 0, 0), (17, 16, 0, 0)])
theorem oo_Mo_word_at_s5027_5 {kA : Nat → ClassId} : or_ok PRD kA GG o_Mo_word_at_s5027_5 := by
  refine or_mk fun A ta ws vs hD hth hl => ?_
  intro t0 r0 t2 k2 t3 r3 t4 k4 t5 k5 t6 k6 t7 r7 t8 k8 t9 r9 t10 k10 t11 k11 t12 k12 t14 k14 t15 k15 t16 k16 t17 k17 t18 k18 t19 k19 t21 k21 t22 k22 t23 k23 t24 k24 t25 k25 t26 k26 t27 k27 d0 d1 d2 f0 f1 f2 f3 f4 f5 f6 f7 f8 f9 f10 f11 f12 f13 f14 f15 f16 f17 f18 f19 f20 f21 f22 f23 f24 f25 f26 f27 f28 f29
  replace f7 := shm_107 f7
  replace f8 := shm_286 f8
  replace f9 := shm_301 f9
  replace f18 := shm_107 f18
  replace f22 := shm_107 f22
  replace f23 := shm_107 f23
  replace f24 := shm_1332 f24
  replace f26 := shm_107 f26
  replace f27 := shm_327 f27
  replace f29 := shm_293 f29
  have cr_0_1 := fdq_39 hD hth r0
  have cr_0_160 := fdq_33 hD hth r0
  have cr_0_162 := fdq_41 hD hth r0
  have cr_0_163 := fdq_42 hD hth r0
  have ad_9 : v_ad (n_v vs 9) = w_ar ws (n_v vs 0) 162 := congrArg v_ad f9
  have ad_7 : v_ad (n_v vs 7) = w_ar ws (n_v vs 0) 163 := congrArg v_ad f24
  have ad_3 : v_ad (n_v vs 3) = w_ar ws (n_v vs 0) 160 := congrArg v_ad f27
  simp only [ad_9] at f7
  have h7 : v_iv (n_v vs 23) = w_ei ws (w_ar ws (n_v vs 0) 162) (v_iv (n_v vs 4)) := f7
  have g8 : v_iv (n_v vs 4) = w_fi ws (n_v vs 0) 158 := congrArg v_iv f8
  simp only [ad_9] at f18
  have h18 : v_iv (n_v vs 16) = w_ei ws (w_ar ws (n_v vs 0) 162) (v_iv (n_v vs 4)) := f18
  simp only [ad_9] at f22
  have h22 : v_iv (n_v vs 10) = w_ei ws (w_ar ws (n_v vs 0) 162) (v_iv (n_v vs 4)) := f22
  simp only [ad_7] at f23
  have h23 : v_iv (n_v vs 8) = w_ei ws (w_ar ws (n_v vs 0) 163) (v_iv (n_v vs 4)) := f23
  simp only [ad_3] at f26
  have h26 : v_iv (n_v vs 5) = w_ei ws (w_ar ws (n_v vs 0) 160) (v_iv (n_v vs 4)) := f26
  have g29 : v_iv (n_v vs 2) = w_fi ws (n_v vs 0) 8 := congrArg v_iv f29
  have hK_0_1 := elq_7 hD hth cr_0_1
  have hK_0_160 := elq_6 hD hth cr_0_160
  have hK_0_162 := elq_8 hD hth cr_0_162
  have hK_0_163 := elq_9 hD hth cr_0_163
  have kz_0_8 := fdq_34 hD hth r0
  have kz_0_10 := fdq_43 hD hth r0
  have kz_0_158 := fdq_36 hD hth r0
  have nf0 : fc_1 PRD (20, [27, 0], [50, 1, 1, 1158, 1160, 4, 6, 1, 2, 1, 0, 0, 1, 1, 6, 3, 1, 160, 2, 1, 158, 0, 1]) ws (vs) := ⟨nf_in hl rfl, sgq_287 (vc_Mo_word_at_s5027_5_0 (v_iv (n_v vs 2)) (v_iv (n_v vs 4)) (v_iv (n_v vs 5)) (v_iv (n_v vs 6)) (v_iv (n_v vs 8)) (v_iv (n_v vs 10)) (v_iv (n_v vs 11)) (v_iv (n_v vs 12)) (v_iv (n_v vs 14)) (v_iv (n_v vs 15)) (v_iv (n_v vs 16)) (v_iv (n_v vs 17)) (v_iv (n_v vs 18)) (v_iv (n_v vs 19)) (v_iv (n_v vs 21)) (v_iv (n_v vs 22)) (v_iv (n_v vs 23)) (v_iv (n_v vs 24)) (v_iv (n_v vs 25)) (v_iv (n_v vs 26)) (v_iv (n_v vs 27)) (w_ei ws (w_ar ws (n_v vs 0) 1)) (w_fi ws (n_v vs 0) 10) (w_ei ws (w_ar ws (n_v vs 0) 162)) (w_fi ws (n_v vs 0) 158) (w_ei ws (w_ar ws (n_v vs 0) 163)) (w_ei ws (w_ar ws (n_v vs 0) 160)) (w_fi ws (n_v vs 0) 8) k2 k4 k5 k6 k8 k10 k11 k12 k14 k15 k16 k17 k18 k19 k21 k22 k23 k24 k25 k26 k27 d0 d1 d2 (shm_192 f0) (shm_40 f1) (shm_65 f2) (shm_66 f3) (shm_541 f4) (shm_542 f5) (shm_12 f6) h7 g8 (shm_6 f10) (shm_4 f11) (shm_37 f12) (shm_55 f13) (shm_56 f14) (shm_541 f15) (shm_542 f16) (shm_12 f17) h18 (shm_6 f19) (shm_37 f20) (shm_14 f21) h22 h23 (shm_37 f25) h26 (shm_192 f28) g29 hK_0_1 hK_0_160 hK_0_162 hK_0_163 kz_0_8 kz_0_10 kz_0_158)⟩
  have nf1 : fc_1 PRD (20, [0, 27], [60, 3, 4, 30, 8, 158, 10, 160, 162, 163, 1]) ws (vs) := ⟨nf_in hl rfl, sgq_1871 (vc_Mo_word_at_s5027_5_1 (v_iv (n_v vs 4)) (v_iv (n_v vs 8)) (v_iv (n_v vs 10)) (v_iv (n_v vs 11)) (v_iv (n_v vs 16)) (v_iv (n_v vs 17)) (v_iv (n_v vs 18)) (v_iv (n_v vs 19)) (v_iv (n_v vs 23)) (v_iv (n_v vs 24)) (v_iv (n_v vs 25)) (v_iv (n_v vs 27)) (w_ei ws (w_ar ws (n_v vs 0) 1)) (w_fi ws (n_v vs 0) 10) (w_ei ws (w_ar ws (n_v vs 0) 162)) (w_fi ws (n_v vs 0) 158) (w_ei ws (w_ar ws (n_v vs 0) 163)) (w_ei ws (w_ar ws (n_v vs 0) 160)) (w_fi ws (n_v vs 0) 8) k4 k8 k10 k11 k16 k17 k18 k19 k23 k24 k25 k27 d0 d1 d2 (shm_541 f4) (shm_542 f5) h7 g8 (shm_55 f13) (shm_56 f14) (shm_541 f15) (shm_542 f16) h18 (shm_14 f21) h22 h23 kz_0_8 kz_0_10 kz_0_158)⟩
  refine ⟨(fun _ h => (by cases h)), [], trivial, ?_, (fun _ h => (by cases h))⟩
  rw [List.append_nil]
  exact List.forall_mem_cons.mpr ⟨⟨show (20 : Nat) < 100 from by decide, nf0⟩, List.forall_mem_cons.mpr ⟨⟨show (20 : Nat) < 100 from by decide, nf1⟩, (fun _ h => (by cases h))⟩⟩
set_option maxHeartbeats 4000000 in
theorem vc_Mo_word_at_s5027_6_0 (x2 : Int) (x4 : Int) (x5 : Int) (x6 : Int) (x8 : Int) (x10 : Int) (x11 : Int) (x12 : Int) (x14 : Int) (x15 : Int) (x16 : Int) (x17 : Int) (x18 : Int) (x19 : Int) (x21 : Int) (x22 : Int) (x23 : Int) (x24 : Int) (x25 : Int) (x26 : Int) (x27 : Int) (tape_0 : Int → Int) (limit_0 : Int) (tokenPlace_0 : Int → Int) (cur_0 : Int) (tokenEnd_0 : Int → Int) (tokenKind_0 : Int → Int) (fault_0 : Int) (k2 : 0 ≤ x2 ∧ x2 ≤ 0) (k4 : 0 ≤ x4 ∧ x4 ≤ 2009) (k5 : 1 ≤ x5 ∧ x5 ≤ 1) (k6 : 1 ≤ x6 ∧ x6 ≤ 1) (k8 : 3 ≤ x8 ∧ x8 ≤ 2000) (k10 : 0 ≤ x10 ∧ x10 ≤ 2000) (k11 : 3 ≤ x11 ∧ x11 ≤ 3) (k12 : 3 ≤ x12 ∧ x12 ≤ 3) (k14 : 0 ≤ x14 ∧ x14 ≤ 0) (k15 : 3 ≤ x15 ∧ x15 ≤ 3) (k16 : 0 ≤ x16 ∧ x16 ≤ 1999) (k17 : 0 ≤ x17 ∧ x17 ≤ 1999) (k18 : 0 ≤ x18 ∧ x18 ≤ 255) (k19 : 0 ≤ x19 ∧ x19 ≤ 255) (k21 : 1 ≤ x21 ∧ x21 ≤ 1) (k22 : 3 ≤ x22 ∧ x22 ≤ 3) (k23 : 0 ≤ x23 ∧ x23 ≤ 1998) (k24 : 1 ≤ x24 ∧ x24 ≤ 1999) (k25 : 0 ≤ x25 ∧ x25 ≤ 255) (k26 : 0 ≤ x26 ∧ x26 ≤ 65535) (k27 : 0 ≤ x27 ∧ x27 ≤ 0) (d0 : x23 + 1 ≤ x24 ∧ x24 ≤ x23 + 1) (d1 : x19 + 0 ≤ x18 ∧ x18 ≤ x19 + 0) (d2 : x16 + 0 ≤ x17 ∧ x17 ≤ x16 + 0) (f0 : x27 = 0) (f1 : x25 ≠ x26) (f2 : 1 * x26 + 0 ≤ 117) (f3 : (-1) * x26 + 0 ≤ (-117)) (f4 : ((x24 + 1) ≤ limit_0) → (x25 = (tape_0 (x24) % 256))) (f5 : (limit_0 ≤ x24) → (x25 = (-1))) (f6 : x24 = x23 + x21) (h7 : x23 = tokenPlace_0 (x4)) (g8 : x4 = cur_0) (f10 : x21 < x22) (f11 : x21 = x14 + 1) (f12 : x18 = x19) (f13 : 1 * x19 + 0 ≤ 111) (f14 : (-1) * x19 + 0 ≤ (-111)) (f15 : ((x17 + 1) ≤ limit_0) → (x18 = (tape_0 (x17) % 256))) (f16 : (limit_0 ≤ x17) → (x18 = (-1))) (f17 : x17 = x16 + x14) (h18 : x16 = tokenPlace_0 (x4)) (f19 : x14 < x15) (f20 : x11 = x12) (f21 : x11 = x8 - x10) (h22 : x10 = tokenPlace_0 (x4)) (h23 : x8 = tokenEnd_0 (x4)) (f25 : x5 = x6) (h26 : x5 = tokenKind_0 (x4)) (f28 : x2 = 0) (g29 : x2 = fault_0) (hK_0_1 : ∀ j : Int, 0 ≤ j → j < 2000 → (-128) ≤ tape_0 j ∧ tape_0 j ≤ 127) (hK_0_160 : ∀ j : Int, 0 ≤ j → j < 2010 → 0 ≤ tokenKind_0 j ∧ tokenKind_0 j ≤ 4) (hK_0_162 : ∀ j : Int, 0 ≤ j → j < 2010 → 0 ≤ tokenPlace_0 j ∧ tokenPlace_0 j ≤ 2000) (hK_0_163 : ∀ j : Int, 0 ≤ j → j < 2010 → 0 ≤ tokenEnd_0 j ∧ tokenEnd_0 j ≤ 2000) (kz_0_8 : 0 ≤ fault_0 ∧ fault_0 ≤ 5) (kz_0_10 : 0 ≤ limit_0 ∧ limit_0 ≤ 2000) (kz_0_158 : 0 ≤ cur_0 ∧ cur_0 ≤ 2009) : (x27 = 1) → (tokenKind_0 (cur_0) = 1) := by
  first | assumption | (clear f4 f5 f15 f16 hK_0_1 hK_0_160 hK_0_162 hK_0_163; omega) | (clear hK_0_1 hK_0_160 hK_0_162 hK_0_163; grind) | omega | grind
set_option maxHeartbeats 4000000 in
theorem vc_Mo_word_at_s5027_6_1 (x4 : Int) (x8 : Int) (x10 : Int) (x11 : Int) (x16 : Int) (x17 : Int) (x18 : Int) (x19 : Int) (x23 : Int) (x24 : Int) (x25 : Int) (x26 : Int) (x27 : Int) (tape_0 : Int → Int) (limit_0 : Int) (tokenPlace_0 : Int → Int) (cur_0 : Int) (tokenEnd_0 : Int → Int) (tokenKind_0 : Int → Int) (fault_0 : Int) (k4 : 0 ≤ x4 ∧ x4 ≤ 2009) (k8 : 3 ≤ x8 ∧ x8 ≤ 2000) (k10 : 0 ≤ x10 ∧ x10 ≤ 2000) (k11 : 3 ≤ x11 ∧ x11 ≤ 3) (k16 : 0 ≤ x16 ∧ x16 ≤ 1999) (k17 : 0 ≤ x17 ∧ x17 ≤ 1999) (k18 : 0 ≤ x18 ∧ x18 ≤ 255) (k19 : 0 ≤ x19 ∧ x19 ≤ 255) (k23 : 0 ≤ x23 ∧ x23 ≤ 1998) (k24 : 1 ≤ x24 ∧ x24 ≤ 1999) (k25 : 0 ≤ x25 ∧ x25 ≤ 255) (k26 : 0 ≤ x26 ∧ x26 ≤ 65535) (k27 : 0 ≤ x27 ∧ x27 ≤ 0) (d0 : x23 + 1 ≤ x24 ∧ x24 ≤ x23 + 1) (d1 : x19 + 0 ≤ x18 ∧ x18 ≤ x19 + 0) (d2 : x16 + 0 ≤ x17 ∧ x17 ≤ x16 + 0) (f1 : x25 ≠ x26) (f2 : 1 * x26 + 0 ≤ 117) (f3 : (-1) * x26 + 0 ≤ (-117)) (f4 : ((x24 + 1) ≤ limit_0) → (x25 = (tape_0 (x24) % 256))) (f5 : (limit_0 ≤ x24) → (x25 = (-1))) (h7 : x23 = tokenPlace_0 (x4)) (g8 : x4 = cur_0) (f13 : 1 * x19 + 0 ≤ 111) (f14 : (-1) * x19 + 0 ≤ (-111)) (f15 : ((x17 + 1) ≤ limit_0) → (x18 = (tape_0 (x17) % 256))) (f16 : (limit_0 ≤ x17) → (x18 = (-1))) (h18 : x16 = tokenPlace_0 (x4)) (f21 : x11 = x8 - x10) (h22 : x10 = tokenPlace_0 (x4)) (h23 : x8 = tokenEnd_0 (x4)) (kz_0_8 : 0 ≤ fault_0 ∧ fault_0 ≤ 5) (kz_0_10 : 0 ≤ limit_0 ∧ limit_0 ≤ 2000) (kz_0_158 : 0 ≤ cur_0 ∧ cur_0 ≤ 2009) : Wqout (fault_0) (cur_0) (limit_0) (tokenKind_0) (tokenPlace_0) (tokenEnd_0) (tape_0) (x27) := by
  first
    | exact ⟨fun z => by omega, fun z => by have := z.1; omega⟩
    | (have e := (‹x4 = cur_0›)
       rw [← e]
       refine ⟨fun z => ⟨by omega, wdS3.2 ⟨by omega, by omega, by omega, by rw [show tokenPlace_0 x4 + 0 = x17 by omega]; omega, by rw [show tokenPlace_0 x4 + 1 = x24 by omega]; omega, by rw [show tokenPlace_0 x4 + 2 = x31 by omega]; omega⟩⟩, fun z => by omega⟩)
    | (have e := (‹x4 = cur_0›)
       rw [← e]
       refine ⟨fun z => by omega, fun z => ?_⟩
       have w := wdS3.1 z.2
       try (have q0 : tokenPlace_0 x4 + 0 = x17 := (by omega); rw [q0] at w)
       try (have q1 : tokenPlace_0 x4 + 1 = x24 := (by omega); rw [q1] at w)
       try (have q2 : tokenPlace_0 x4 + 2 = x31 := (by omega); rw [q2] at w)
       omega)
  
def o_Mo_word_at_s5027_6 : or_T := (102, 30, [(0, (2, 0, 0, [165])), (2, (0, 0, 0, [])), (3, (2, 0, 0, [274])), (4, (0, 0, 2009, [])), (5, (0, 1, 1, [])), (6, (0, 1, 1, [])), (7, (2, 0, 0, [277])), (8, (0, 3, 2000, [])), (9, (2, 0, 0, [276])), (10, (0, 0, 2000, [])), (11, (0, 3, 3, [])), (12, (0, 3, 3, [])), (14, (0, 0, 0, [])), (15, (0, 3, 3, [])), (16, (0, 0, 1999, [])), (17, (0, 0, 1999, [])), (18, (0, 0, 255, [])), (19, (0, 0, 255, [])), (21, (0, 1, 1, [])), (22, (0, 3, 3, [])), (23, (0, 0, 1998, [])), (24, (0, 1, 1999, [])), (25, (0, 0, 255, [])), (26, (0, 0, 65535, [])), (27, (0, 0, 0, []))], [(8, [27], [0]), (7, [25, 26], [1]), (23, [26], [117, 1]), (23, [26], [-117, -1]), (20, [24, 0, 25], [50, 1, 1, 1010, 1001, 4, 11, 0, 6, 4, 2, 1, 0, 0, 1, 2, 1, 10, 1, 2, 1, 2, 9, 5, 3, 1, 1, 1, 0, 0, 256]), (20, [0, 24, 25], [50, 1, 0, 10, 4, 7, 0, 3, 2, 0, 10, 1, 1, 1, 2, 1, 2, 0, -1]), (1, [24, 23, 21], []), (10, [23, 9, 4], []), (9, [4, 0], [158]), (9, [9, 0], [162]), (7, [21, 22], [2]), (6, [21, 14], [1]), (7, [18, 19], [0]), (23, [19], [111, 1]), (23, [19], [-111, -1]), (20, [17, 0, 18], [50, 1, 1, 1010, 1001, 4, 11, 0, 6, 4, 2, 1, 0, 0, 1, 2, 1, 10, 1, 2, 1, 2, 9, 5, 3, 1, 1, 1, 0, 0, 256]), (20, [0, 17, 18], [50, 1, 0, 10, 4, 7, 0, 3, 2, 0, 10, 1, 1, 1, 2, 1, 2, 0, -1]), (1, [17, 16, 14], []), (10, [16, 9, 4], []), (7, [14, 15], [2]), (7, [11, 12], [0]), (2, [11, 8, 10], []), (10, [10, 9, 4], []), (10, [8, 7, 4], []), (9, [7, 0], [163]), (7, [5, 6], [0]), (10, [5, 3, 4], []), (9, [3, 0], [160]), (8, [2], [0]), (9, [2, 0], [8])], [], [], [(20, [27, 0], [50, 1, 1, 1158, 1160, 4, 6, 1, 2, 1, 0, 0, 1, 1, 6, 3, 1, 160, 2, 1, 158, 0, 1]), (20, [0, 27], [60, 3, 4, 30, 8, 158, 10, 160, 162, 163, 1])], [], [(24, 23, 1, 1), (18, 19, 0, 0), (17, 16, 0, 0)])
theorem oo_Mo_word_at_s5027_6 {kA : Nat → ClassId} : or_ok PRD kA GG o_Mo_word_at_s5027_6 := by
  refine or_mk fun A ta ws vs hD hth hl => ?_
  intro t0 r0 t2 k2 t3 r3 t4 k4 t5 k5 t6 k6 t7 r7 t8 k8 t9 r9 t10 k10 t11 k11 t12 k12 t14 k14 t15 k15 t16 k16 t17 k17 t18 k18 t19 k19 t21 k21 t22 k22 t23 k23 t24 k24 t25 k25 t26 k26 t27 k27 d0 d1 d2 f0 f1 f2 f3 f4 f5 f6 f7 f8 f9 f10 f11 f12 f13 f14 f15 f16 f17 f18 f19 f20 f21 f22 f23 f24 f25 f26 f27 f28 f29
  replace f7 := shm_107 f7
  replace f8 := shm_286 f8
  replace f9 := shm_301 f9
  replace f18 := shm_107 f18
  replace f22 := shm_107 f22
  replace f23 := shm_107 f23
  replace f24 := shm_1332 f24
  replace f26 := shm_107 f26
  replace f27 := shm_327 f27
  replace f29 := shm_293 f29
  have cr_0_1 := fdq_39 hD hth r0
  have cr_0_160 := fdq_33 hD hth r0
  have cr_0_162 := fdq_41 hD hth r0
  have cr_0_163 := fdq_42 hD hth r0
  have ad_9 : v_ad (n_v vs 9) = w_ar ws (n_v vs 0) 162 := congrArg v_ad f9
  have ad_7 : v_ad (n_v vs 7) = w_ar ws (n_v vs 0) 163 := congrArg v_ad f24
  have ad_3 : v_ad (n_v vs 3) = w_ar ws (n_v vs 0) 160 := congrArg v_ad f27
  simp only [ad_9] at f7
  have h7 : v_iv (n_v vs 23) = w_ei ws (w_ar ws (n_v vs 0) 162) (v_iv (n_v vs 4)) := f7
  have g8 : v_iv (n_v vs 4) = w_fi ws (n_v vs 0) 158 := congrArg v_iv f8
  simp only [ad_9] at f18
  have h18 : v_iv (n_v vs 16) = w_ei ws (w_ar ws (n_v vs 0) 162) (v_iv (n_v vs 4)) := f18
  simp only [ad_9] at f22
  have h22 : v_iv (n_v vs 10) = w_ei ws (w_ar ws (n_v vs 0) 162) (v_iv (n_v vs 4)) := f22
  simp only [ad_7] at f23
  have h23 : v_iv (n_v vs 8) = w_ei ws (w_ar ws (n_v vs 0) 163) (v_iv (n_v vs 4)) := f23
  simp only [ad_3] at f26
  have h26 : v_iv (n_v vs 5) = w_ei ws (w_ar ws (n_v vs 0) 160) (v_iv (n_v vs 4)) := f26
  have g29 : v_iv (n_v vs 2) = w_fi ws (n_v vs 0) 8 := congrArg v_iv f29
  have hK_0_1 := elq_7 hD hth cr_0_1
  have hK_0_160 := elq_6 hD hth cr_0_160
  have hK_0_162 := elq_8 hD hth cr_0_162
  have hK_0_163 := elq_9 hD hth cr_0_163
  have kz_0_8 := fdq_34 hD hth r0
  have kz_0_10 := fdq_43 hD hth r0
  have kz_0_158 := fdq_36 hD hth r0
  have nf0 : fc_1 PRD (20, [27, 0], [50, 1, 1, 1158, 1160, 4, 6, 1, 2, 1, 0, 0, 1, 1, 6, 3, 1, 160, 2, 1, 158, 0, 1]) ws (vs) := ⟨nf_in hl rfl, sgq_287 (vc_Mo_word_at_s5027_6_0 (v_iv (n_v vs 2)) (v_iv (n_v vs 4)) (v_iv (n_v vs 5)) (v_iv (n_v vs 6)) (v_iv (n_v vs 8)) (v_iv (n_v vs 10)) (v_iv (n_v vs 11)) (v_iv (n_v vs 12)) (v_iv (n_v vs 14)) (v_iv (n_v vs 15)) (v_iv (n_v vs 16)) (v_iv (n_v vs 17)) (v_iv (n_v vs 18)) (v_iv (n_v vs 19)) (v_iv (n_v vs 21)) (v_iv (n_v vs 22)) (v_iv (n_v vs 23)) (v_iv (n_v vs 24)) (v_iv (n_v vs 25)) (v_iv (n_v vs 26)) (v_iv (n_v vs 27)) (w_ei ws (w_ar ws (n_v vs 0) 1)) (w_fi ws (n_v vs 0) 10) (w_ei ws (w_ar ws (n_v vs 0) 162)) (w_fi ws (n_v vs 0) 158) (w_ei ws (w_ar ws (n_v vs 0) 163)) (w_ei ws (w_ar ws (n_v vs 0) 160)) (w_fi ws (n_v vs 0) 8) k2 k4 k5 k6 k8 k10 k11 k12 k14 k15 k16 k17 k18 k19 k21 k22 k23 k24 k25 k26 k27 d0 d1 d2 (shm_192 f0) (shm_40 f1) (shm_65 f2) (shm_66 f3) (shm_541 f4) (shm_542 f5) (shm_12 f6) h7 g8 (shm_6 f10) (shm_4 f11) (shm_37 f12) (shm_55 f13) (shm_56 f14) (shm_541 f15) (shm_542 f16) (shm_12 f17) h18 (shm_6 f19) (shm_37 f20) (shm_14 f21) h22 h23 (shm_37 f25) h26 (shm_192 f28) g29 hK_0_1 hK_0_160 hK_0_162 hK_0_163 kz_0_8 kz_0_10 kz_0_158)⟩
  have nf1 : fc_1 PRD (20, [0, 27], [60, 3, 4, 30, 8, 158, 10, 160, 162, 163, 1]) ws (vs) := ⟨nf_in hl rfl, sgq_1871 (vc_Mo_word_at_s5027_6_1 (v_iv (n_v vs 4)) (v_iv (n_v vs 8)) (v_iv (n_v vs 10)) (v_iv (n_v vs 11)) (v_iv (n_v vs 16)) (v_iv (n_v vs 17)) (v_iv (n_v vs 18)) (v_iv (n_v vs 19)) (v_iv (n_v vs 23)) (v_iv (n_v vs 24)) (v_iv (n_v vs 25)) (v_iv (n_v vs 26)) (v_iv (n_v vs 27)) (w_ei ws (w_ar ws (n_v vs 0) 1)) (w_fi ws (n_v vs 0) 10) (w_ei ws (w_ar ws (n_v vs 0) 162)) (w_fi ws (n_v vs 0) 158) (w_ei ws (w_ar ws (n_v vs 0) 163)) (w_ei ws (w_ar ws (n_v vs 0) 160)) (w_fi ws (n_v vs 0) 8) k4 k8 k10 k11 k16 k17 k18 k19 k23 k24 k25 k26 k27 d0 d1 d2 (shm_40 f1) (shm_65 f2) (shm_66 f3) (shm_541 f4) (shm_542 f5) h7 g8 (shm_55 f13) (shm_56 f14) (shm_541 f15) (shm_542 f16) h18 (shm_14 f21) h22 h23 kz_0_8 kz_0_10 kz_0_158)⟩
  refine ⟨(fun _ h => (by cases h)), [], trivial, ?_, (fun _ h => (by cases h))⟩
  rw [List.append_nil]
  exact List.forall_mem_cons.mpr ⟨⟨show (20 : Nat) < 100 from by decide, nf0⟩, List.forall_mem_cons.mpr ⟨⟨show (20 : Nat) < 100 from by decide, nf1⟩, (fun _ h => (by cases h))⟩⟩
set_option maxHeartbeats 4000000 in
theorem vc_Mo_word_at_s5027_7_0 (x2 : Int) (x4 : Int) (x5 : Int) (x6 : Int) (x8 : Int) (x10 : Int) (x11 : Int) (x12 : Int) (x14 : Int) (x15 : Int) (x16 : Int) (x17 : Int) (x18 : Int) (x19 : Int) (x21 : Int) (x22 : Int) (x23 : Int) (x24 : Int) (x25 : Int) (x26 : Int) (x28 : Int) (x29 : Int) (x30 : Int) (x31 : Int) (x32 : Int) (x33 : Int) (x34 : Int) (tape_0 : Int → Int) (limit_0 : Int) (tokenPlace_0 : Int → Int) (cur_0 : Int) (tokenEnd_0 : Int → Int) (tokenKind_0 : Int → Int) (fault_0 : Int) (k2 : 0 ≤ x2 ∧ x2 ≤ 0) (k4 : 0 ≤ x4 ∧ x4 ≤ 2009) (k5 : 1 ≤ x5 ∧ x5 ≤ 1) (k6 : 1 ≤ x6 ∧ x6 ≤ 1) (k8 : 3 ≤ x8 ∧ x8 ≤ 2000) (k10 : 0 ≤ x10 ∧ x10 ≤ 2000) (k11 : 3 ≤ x11 ∧ x11 ≤ 3) (k12 : 3 ≤ x12 ∧ x12 ≤ 3) (k14 : 0 ≤ x14 ∧ x14 ≤ 0) (k15 : 3 ≤ x15 ∧ x15 ≤ 3) (k16 : 0 ≤ x16 ∧ x16 ≤ 1999) (k17 : 0 ≤ x17 ∧ x17 ≤ 1999) (k18 : 0 ≤ x18 ∧ x18 ≤ 255) (k19 : 0 ≤ x19 ∧ x19 ≤ 255) (k21 : 1 ≤ x21 ∧ x21 ≤ 1) (k22 : 3 ≤ x22 ∧ x22 ≤ 3) (k23 : 0 ≤ x23 ∧ x23 ≤ 1998) (k24 : 1 ≤ x24 ∧ x24 ≤ 1999) (k25 : 0 ≤ x25 ∧ x25 ≤ 255) (k26 : 0 ≤ x26 ∧ x26 ≤ 255) (k28 : 2 ≤ x28 ∧ x28 ≤ 2) (k29 : 3 ≤ x29 ∧ x29 ≤ 3) (k30 : 0 ≤ x30 ∧ x30 ≤ 2000) (k31 : 2 ≤ x31 ∧ x31 ≤ 2002) (k32 : (-1) ≤ x32 ∧ x32 ≤ (-1)) (k33 : 0 ≤ x33 ∧ x33 ≤ 65535) (k34 : 0 ≤ x34 ∧ x34 ≤ 0) (d0 : x30 + 2 ≤ x31 ∧ x31 ≤ x30 + 2) (d1 : x26 + 0 ≤ x25 ∧ x25 ≤ x26 + 0) (d2 : x23 + 1 ≤ x24 ∧ x24 ≤ x23 + 1) (d3 : x19 + 0 ≤ x18 ∧ x18 ≤ x19 + 0) (d4 : x16 + 0 ≤ x17 ∧ x17 ≤ x16 + 0) (f0 : x32 ≠ x33) (f1 : 1 * x33 + 0 ≤ 116) (f2 : (-1) * x33 + 0 ≤ (-116)) (f3 : ((x31 + 1) ≤ limit_0) → (x32 = (tape_0 (x31) % 256))) (f4 : (limit_0 ≤ x31) → (x32 = (-1))) (f5 : x31 = x30 + x28) (h6 : x30 = tokenPlace_0 (x4)) (g7 : x4 = cur_0) (f9 : x28 < x29) (f10 : x28 = x21 + 1) (f11 : x25 = x26) (f12 : 1 * x26 + 0 ≤ 117) (f13 : (-1) * x26 + 0 ≤ (-117)) (f14 : ((x24 + 1) ≤ limit_0) → (x25 = (tape_0 (x24) % 256))) (f15 : (limit_0 ≤ x24) → (x25 = (-1))) (f16 : x24 = x23 + x21) (h17 : x23 = tokenPlace_0 (x4)) (f18 : x21 < x22) (f19 : x21 = x14 + 1) (f20 : x18 = x19) (f21 : 1 * x19 + 0 ≤ 111) (f22 : (-1) * x19 + 0 ≤ (-111)) (f23 : ((x17 + 1) ≤ limit_0) → (x18 = (tape_0 (x17) % 256))) (f24 : (limit_0 ≤ x17) → (x18 = (-1))) (f25 : x17 = x16 + x14) (h26 : x16 = tokenPlace_0 (x4)) (f27 : x14 < x15) (f28 : x11 = x12) (f29 : x11 = x8 - x10) (h30 : x10 = tokenPlace_0 (x4)) (h31 : x8 = tokenEnd_0 (x4)) (f33 : x5 = x6) (h34 : x5 = tokenKind_0 (x4)) (f36 : x2 = 0) (g37 : x2 = fault_0) (hK_0_1 : ∀ j : Int, 0 ≤ j → j < 2000 → (-128) ≤ tape_0 j ∧ tape_0 j ≤ 127) (hK_0_160 : ∀ j : Int, 0 ≤ j → j < 2010 → 0 ≤ tokenKind_0 j ∧ tokenKind_0 j ≤ 4) (hK_0_162 : ∀ j : Int, 0 ≤ j → j < 2010 → 0 ≤ tokenPlace_0 j ∧ tokenPlace_0 j ≤ 2000) (hK_0_163 : ∀ j : Int, 0 ≤ j → j < 2010 → 0 ≤ tokenEnd_0 j ∧ tokenEnd_0 j ≤ 2000) (kz_0_8 : 0 ≤ fault_0 ∧ fault_0 ≤ 5) (kz_0_10 : 0 ≤ limit_0 ∧ limit_0 ≤ 2000) (kz_0_158 : 0 ≤ cur_0 ∧ cur_0 ≤ 2009) : (x34 = 1) → (tokenKind_0 (cur_0) = 1) := by
  first | assumption | (clear f3 f4 f14 f15 f23 f24 hK_0_1 hK_0_160 hK_0_162 hK_0_163; omega) | (clear hK_0_1 hK_0_160 hK_0_162 hK_0_163; grind) | omega | grind
set_option maxHeartbeats 4000000 in
theorem vc_Mo_word_at_s5027_7_1 (x4 : Int) (x8 : Int) (x10 : Int) (x11 : Int) (x16 : Int) (x17 : Int) (x18 : Int) (x19 : Int) (x23 : Int) (x24 : Int) (x25 : Int) (x26 : Int) (x30 : Int) (x31 : Int) (x32 : Int) (x34 : Int) (tape_0 : Int → Int) (limit_0 : Int) (tokenPlace_0 : Int → Int) (cur_0 : Int) (tokenEnd_0 : Int → Int) (tokenKind_0 : Int → Int) (fault_0 : Int) (k4 : 0 ≤ x4 ∧ x4 ≤ 2009) (k8 : 3 ≤ x8 ∧ x8 ≤ 2000) (k10 : 0 ≤ x10 ∧ x10 ≤ 2000) (k11 : 3 ≤ x11 ∧ x11 ≤ 3) (k16 : 0 ≤ x16 ∧ x16 ≤ 1999) (k17 : 0 ≤ x17 ∧ x17 ≤ 1999) (k18 : 0 ≤ x18 ∧ x18 ≤ 255) (k19 : 0 ≤ x19 ∧ x19 ≤ 255) (k23 : 0 ≤ x23 ∧ x23 ≤ 1998) (k24 : 1 ≤ x24 ∧ x24 ≤ 1999) (k25 : 0 ≤ x25 ∧ x25 ≤ 255) (k26 : 0 ≤ x26 ∧ x26 ≤ 255) (k30 : 0 ≤ x30 ∧ x30 ≤ 2000) (k31 : 2 ≤ x31 ∧ x31 ≤ 2002) (k32 : (-1) ≤ x32 ∧ x32 ≤ (-1)) (k34 : 0 ≤ x34 ∧ x34 ≤ 0) (d0 : x30 + 2 ≤ x31 ∧ x31 ≤ x30 + 2) (d1 : x26 + 0 ≤ x25 ∧ x25 ≤ x26 + 0) (d2 : x23 + 1 ≤ x24 ∧ x24 ≤ x23 + 1) (d3 : x19 + 0 ≤ x18 ∧ x18 ≤ x19 + 0) (d4 : x16 + 0 ≤ x17 ∧ x17 ≤ x16 + 0) (f3 : ((x31 + 1) ≤ limit_0) → (x32 = (tape_0 (x31) % 256))) (f4 : (limit_0 ≤ x31) → (x32 = (-1))) (h6 : x30 = tokenPlace_0 (x4)) (g7 : x4 = cur_0) (f12 : 1 * x26 + 0 ≤ 117) (f13 : (-1) * x26 + 0 ≤ (-117)) (f14 : ((x24 + 1) ≤ limit_0) → (x25 = (tape_0 (x24) % 256))) (f15 : (limit_0 ≤ x24) → (x25 = (-1))) (h17 : x23 = tokenPlace_0 (x4)) (f21 : 1 * x19 + 0 ≤ 111) (f22 : (-1) * x19 + 0 ≤ (-111)) (f23 : ((x17 + 1) ≤ limit_0) → (x18 = (tape_0 (x17) % 256))) (f24 : (limit_0 ≤ x17) → (x18 = (-1))) (h26 : x16 = tokenPlace_0 (x4)) (f29 : x11 = x8 - x10) (h30 : x10 = tokenPlace_0 (x4)) (h31 : x8 = tokenEnd_0 (x4)) (kz_0_8 : 0 ≤ fault_0 ∧ fault_0 ≤ 5) (kz_0_10 : 0 ≤ limit_0 ∧ limit_0 ≤ 2000) (kz_0_158 : 0 ≤ cur_0 ∧ cur_0 ≤ 2009) : Wqout (fault_0) (cur_0) (limit_0) (tokenKind_0) (tokenPlace_0) (tokenEnd_0) (tape_0) (x34) := by
  first
    | exact ⟨fun z => by omega, fun z => by have := z.1; omega⟩
    | (have e := (‹x4 = cur_0›)
       rw [← e]
       refine ⟨fun z => ⟨by omega, wdS3.2 ⟨by omega, by omega, by omega, by rw [show tokenPlace_0 x4 + 0 = x17 by omega]; omega, by rw [show tokenPlace_0 x4 + 1 = x24 by omega]; omega, by rw [show tokenPlace_0 x4 + 2 = x31 by omega]; omega⟩⟩, fun z => by omega⟩)
    | (have e := (‹x4 = cur_0›)
       rw [← e]
       refine ⟨fun z => by omega, fun z => ?_⟩
       have w := wdS3.1 z.2
       try (have q0 : tokenPlace_0 x4 + 0 = x17 := (by omega); rw [q0] at w)
       try (have q1 : tokenPlace_0 x4 + 1 = x24 := (by omega); rw [q1] at w)
       try (have q2 : tokenPlace_0 x4 + 2 = x31 := (by omega); rw [q2] at w)
       omega)
  
def o_Mo_word_at_s5027_7 : or_T := (102, 37, [(0, (2, 0, 0, [165])), (2, (0, 0, 0, [])), (3, (2, 0, 0, [274])), (4, (0, 0, 2009, [])), (5, (0, 1, 1, [])), (6, (0, 1, 1, [])), (7, (2, 0, 0, [277])), (8, (0, 3, 2000, [])), (9, (2, 0, 0, [276])), (10, (0, 0, 2000, [])), (11, (0, 3, 3, [])), (12, (0, 3, 3, [])), (14, (0, 0, 0, [])), (15, (0, 3, 3, [])), (16, (0, 0, 1999, [])), (17, (0, 0, 1999, [])), (18, (0, 0, 255, [])), (19, (0, 0, 255, [])), (21, (0, 1, 1, [])), (22, (0, 3, 3, [])), (23, (0, 0, 1998, [])), (24, (0, 1, 1999, [])), (25, (0, 0, 255, [])), (26, (0, 0, 255, [])), (28, (0, 2, 2, [])), (29, (0, 3, 3, [])), (30, (0, 0, 2000, [])), (31, (0, 2, 2002, [])), (32, (0, -1, -1, [])), (33, (0, 0, 65535, [])), (34, (0, 0, 0, []))], [(7, [32, 33], [1]), (23, [33], [116, 1]), (23, [33], [-116, -1]), (20, [31, 0, 32], [50, 1, 1, 1010, 1001, 4, 11, 0, 6, 4, 2, 1, 0, 0, 1, 2, 1, 10, 1, 2, 1, 2, 9, 5, 3, 1, 1, 1, 0, 0, 256]), (20, [0, 31, 32], [50, 1, 0, 10, 4, 7, 0, 3, 2, 0, 10, 1, 1, 1, 2, 1, 2, 0, -1]), (1, [31, 30, 28], []), (10, [30, 9, 4], []), (9, [4, 0], [158]), (9, [9, 0], [162]), (7, [28, 29], [2]), (6, [28, 21], [1]), (7, [25, 26], [0]), (23, [26], [117, 1]), (23, [26], [-117, -1]), (20, [24, 0, 25], [50, 1, 1, 1010, 1001, 4, 11, 0, 6, 4, 2, 1, 0, 0, 1, 2, 1, 10, 1, 2, 1, 2, 9, 5, 3, 1, 1, 1, 0, 0, 256]), (20, [0, 24, 25], [50, 1, 0, 10, 4, 7, 0, 3, 2, 0, 10, 1, 1, 1, 2, 1, 2, 0, -1]), (1, [24, 23, 21], []), (10, [23, 9, 4], []), (7, [21, 22], [2]), (6, [21, 14], [1]), (7, [18, 19], [0]), (23, [19], [111, 1]), (23, [19], [-111, -1]), (20, [17, 0, 18], [50, 1, 1, 1010, 1001, 4, 11, 0, 6, 4, 2, 1, 0, 0, 1, 2, 1, 10, 1, 2, 1, 2, 9, 5, 3, 1, 1, 1, 0, 0, 256]), (20, [0, 17, 18], [50, 1, 0, 10, 4, 7, 0, 3, 2, 0, 10, 1, 1, 1, 2, 1, 2, 0, -1]), (1, [17, 16, 14], []), (10, [16, 9, 4], []), (7, [14, 15], [2]), (7, [11, 12], [0]), (2, [11, 8, 10], []), (10, [10, 9, 4], []), (10, [8, 7, 4], []), (9, [7, 0], [163]), (7, [5, 6], [0]), (10, [5, 3, 4], []), (9, [3, 0], [160]), (8, [2], [0]), (9, [2, 0], [8])], [], [], [(20, [34, 0], [50, 1, 1, 1158, 1160, 4, 6, 1, 2, 1, 0, 0, 1, 1, 6, 3, 1, 160, 2, 1, 158, 0, 1]), (20, [0, 34], [60, 3, 4, 30, 8, 158, 10, 160, 162, 163, 1])], [], [(31, 30, 2, 2), (25, 26, 0, 0), (24, 23, 1, 1), (18, 19, 0, 0), (17, 16, 0, 0)])
theorem oo_Mo_word_at_s5027_7 {kA : Nat → ClassId} : or_ok PRD kA GG o_Mo_word_at_s5027_7 := by
  refine or_mk fun A ta ws vs hD hth hl => ?_
  intro t0 r0 t2 k2 t3 r3 t4 k4 t5 k5 t6 k6 t7 r7 t8 k8 t9 r9 t10 k10 t11 k11 t12 k12 t14 k14 t15 k15 t16 k16 t17 k17 t18 k18 t19 k19 t21 k21 t22 k22 t23 k23 t24 k24 t25 k25 t26 k26 t28 k28 t29 k29 t30 k30 t31 k31 t32 k32 t33 k33 t34 k34 d0 d1 d2 d3 d4 f0 f1 f2 f3 f4 f5 f6 f7 f8 f9 f10 f11 f12 f13 f14 f15 f16 f17 f18 f19 f20 f21 f22 f23 f24 f25 f26 f27 f28 f29 f30 f31 f32 f33 f34 f35 f36 f37
  replace f6 := shm_107 f6
  replace f7 := shm_286 f7
  replace f8 := shm_301 f8
  replace f17 := shm_107 f17
  replace f26 := shm_107 f26
  replace f30 := shm_107 f30
  replace f31 := shm_107 f31
  replace f32 := shm_1332 f32
  replace f34 := shm_107 f34
  replace f35 := shm_327 f35
  replace f37 := shm_293 f37
  have cr_0_1 := fdq_39 hD hth r0
  have cr_0_160 := fdq_33 hD hth r0
  have cr_0_162 := fdq_41 hD hth r0
  have cr_0_163 := fdq_42 hD hth r0
  have ad_9 : v_ad (n_v vs 9) = w_ar ws (n_v vs 0) 162 := congrArg v_ad f8
  have ad_7 : v_ad (n_v vs 7) = w_ar ws (n_v vs 0) 163 := congrArg v_ad f32
  have ad_3 : v_ad (n_v vs 3) = w_ar ws (n_v vs 0) 160 := congrArg v_ad f35
  simp only [ad_9] at f6
  have h6 : v_iv (n_v vs 30) = w_ei ws (w_ar ws (n_v vs 0) 162) (v_iv (n_v vs 4)) := f6
  have g7 : v_iv (n_v vs 4) = w_fi ws (n_v vs 0) 158 := congrArg v_iv f7
  simp only [ad_9] at f17
  have h17 : v_iv (n_v vs 23) = w_ei ws (w_ar ws (n_v vs 0) 162) (v_iv (n_v vs 4)) := f17
  simp only [ad_9] at f26
  have h26 : v_iv (n_v vs 16) = w_ei ws (w_ar ws (n_v vs 0) 162) (v_iv (n_v vs 4)) := f26
  simp only [ad_9] at f30
  have h30 : v_iv (n_v vs 10) = w_ei ws (w_ar ws (n_v vs 0) 162) (v_iv (n_v vs 4)) := f30
  simp only [ad_7] at f31
  have h31 : v_iv (n_v vs 8) = w_ei ws (w_ar ws (n_v vs 0) 163) (v_iv (n_v vs 4)) := f31
  simp only [ad_3] at f34
  have h34 : v_iv (n_v vs 5) = w_ei ws (w_ar ws (n_v vs 0) 160) (v_iv (n_v vs 4)) := f34
  have g37 : v_iv (n_v vs 2) = w_fi ws (n_v vs 0) 8 := congrArg v_iv f37
  have hK_0_1 := elq_7 hD hth cr_0_1
  have hK_0_160 := elq_6 hD hth cr_0_160
  have hK_0_162 := elq_8 hD hth cr_0_162
  have hK_0_163 := elq_9 hD hth cr_0_163
  have kz_0_8 := fdq_34 hD hth r0
  have kz_0_10 := fdq_43 hD hth r0
  have kz_0_158 := fdq_36 hD hth r0
  have nf0 : fc_1 PRD (20, [34, 0], [50, 1, 1, 1158, 1160, 4, 6, 1, 2, 1, 0, 0, 1, 1, 6, 3, 1, 160, 2, 1, 158, 0, 1]) ws (vs) := ⟨nf_in hl rfl, sgq_287 (vc_Mo_word_at_s5027_7_0 (v_iv (n_v vs 2)) (v_iv (n_v vs 4)) (v_iv (n_v vs 5)) (v_iv (n_v vs 6)) (v_iv (n_v vs 8)) (v_iv (n_v vs 10)) (v_iv (n_v vs 11)) (v_iv (n_v vs 12)) (v_iv (n_v vs 14)) (v_iv (n_v vs 15)) (v_iv (n_v vs 16)) (v_iv (n_v vs 17)) (v_iv (n_v vs 18)) (v_iv (n_v vs 19)) (v_iv (n_v vs 21)) (v_iv (n_v vs 22)) (v_iv (n_v vs 23)) (v_iv (n_v vs 24)) (v_iv (n_v vs 25)) (v_iv (n_v vs 26)) (v_iv (n_v vs 28)) (v_iv (n_v vs 29)) (v_iv (n_v vs 30)) (v_iv (n_v vs 31)) (v_iv (n_v vs 32)) (v_iv (n_v vs 33)) (v_iv (n_v vs 34)) (w_ei ws (w_ar ws (n_v vs 0) 1)) (w_fi ws (n_v vs 0) 10) (w_ei ws (w_ar ws (n_v vs 0) 162)) (w_fi ws (n_v vs 0) 158) (w_ei ws (w_ar ws (n_v vs 0) 163)) (w_ei ws (w_ar ws (n_v vs 0) 160)) (w_fi ws (n_v vs 0) 8) k2 k4 k5 k6 k8 k10 k11 k12 k14 k15 k16 k17 k18 k19 k21 k22 k23 k24 k25 k26 k28 k29 k30 k31 k32 k33 k34 d0 d1 d2 d3 d4 (shm_40 f0) (shm_79 f1) (shm_80 f2) (shm_541 f3) (shm_542 f4) (shm_12 f5) h6 g7 (shm_6 f9) (shm_4 f10) (shm_37 f11) (shm_65 f12) (shm_66 f13) (shm_541 f14) (shm_542 f15) (shm_12 f16) h17 (shm_6 f18) (shm_4 f19) (shm_37 f20) (shm_55 f21) (shm_56 f22) (shm_541 f23) (shm_542 f24) (shm_12 f25) h26 (shm_6 f27) (shm_37 f28) (shm_14 f29) h30 h31 (shm_37 f33) h34 (shm_192 f36) g37 hK_0_1 hK_0_160 hK_0_162 hK_0_163 kz_0_8 kz_0_10 kz_0_158)⟩
  have nf1 : fc_1 PRD (20, [0, 34], [60, 3, 4, 30, 8, 158, 10, 160, 162, 163, 1]) ws (vs) := ⟨nf_in hl rfl, sgq_1871 (vc_Mo_word_at_s5027_7_1 (v_iv (n_v vs 4)) (v_iv (n_v vs 8)) (v_iv (n_v vs 10)) (v_iv (n_v vs 11)) (v_iv (n_v vs 16)) (v_iv (n_v vs 17)) (v_iv (n_v vs 18)) (v_iv (n_v vs 19)) (v_iv (n_v vs 23)) (v_iv (n_v vs 24)) (v_iv (n_v vs 25)) (v_iv (n_v vs 26)) (v_iv (n_v vs 30)) (v_iv (n_v vs 31)) (v_iv (n_v vs 32)) (v_iv (n_v vs 34)) (w_ei ws (w_ar ws (n_v vs 0) 1)) (w_fi ws (n_v vs 0) 10) (w_ei ws (w_ar ws (n_v vs 0) 162)) (w_fi ws (n_v vs 0) 158) (w_ei ws (w_ar ws (n_v vs 0) 163)) (w_ei ws (w_ar ws (n_v vs 0) 160)) (w_fi ws (n_v vs 0) 8) k4 k8 k10 k11 k16 k17 k18 k19 k23 k24 k25 k26 k30 k31 k32 k34 d0 d1 d2 d3 d4 (shm_541 f3) (shm_542 f4) h6 g7 (shm_65 f12) (shm_66 f13) (shm_541 f14) (shm_542 f15) h17 (shm_55 f21) (shm_56 f22) (shm_541 f23) (shm_542 f24) h26 (shm_14 f29) h30 h31 kz_0_8 kz_0_10 kz_0_158)⟩
  refine ⟨(fun _ h => (by cases h)), [], trivial, ?_, (fun _ h => (by cases h))⟩
  rw [List.append_nil]
  exact List.forall_mem_cons.mpr ⟨⟨show (20 : Nat) < 100 from by decide, nf0⟩, List.forall_mem_cons.mpr ⟨⟨show (20 : Nat) < 100 from by decide, nf1⟩, (fun _ h => (by cases h))⟩⟩
set_option maxHeartbeats 4000000 in
theorem vc_Mo_word_at_s5027_8_0 (x2 : Int) (x4 : Int) (x5 : Int) (x6 : Int) (x8 : Int) (x10 : Int) (x11 : Int) (x12 : Int) (x14 : Int) (x15 : Int) (x16 : Int) (x17 : Int) (x18 : Int) (x19 : Int) (x21 : Int) (x22 : Int) (x23 : Int) (x24 : Int) (x25 : Int) (x26 : Int) (x28 : Int) (x29 : Int) (x30 : Int) (x31 : Int) (x32 : Int) (x33 : Int) (x34 : Int) (tape_0 : Int → Int) (limit_0 : Int) (tokenPlace_0 : Int → Int) (cur_0 : Int) (tokenEnd_0 : Int → Int) (tokenKind_0 : Int → Int) (fault_0 : Int) (k2 : 0 ≤ x2 ∧ x2 ≤ 0) (k4 : 0 ≤ x4 ∧ x4 ≤ 2009) (k5 : 1 ≤ x5 ∧ x5 ≤ 1) (k6 : 1 ≤ x6 ∧ x6 ≤ 1) (k8 : 3 ≤ x8 ∧ x8 ≤ 2000) (k10 : 0 ≤ x10 ∧ x10 ≤ 2000) (k11 : 3 ≤ x11 ∧ x11 ≤ 3) (k12 : 3 ≤ x12 ∧ x12 ≤ 3) (k14 : 0 ≤ x14 ∧ x14 ≤ 0) (k15 : 3 ≤ x15 ∧ x15 ≤ 3) (k16 : 0 ≤ x16 ∧ x16 ≤ 1999) (k17 : 0 ≤ x17 ∧ x17 ≤ 1999) (k18 : 0 ≤ x18 ∧ x18 ≤ 255) (k19 : 0 ≤ x19 ∧ x19 ≤ 255) (k21 : 1 ≤ x21 ∧ x21 ≤ 1) (k22 : 3 ≤ x22 ∧ x22 ≤ 3) (k23 : 0 ≤ x23 ∧ x23 ≤ 1998) (k24 : 1 ≤ x24 ∧ x24 ≤ 1999) (k25 : 0 ≤ x25 ∧ x25 ≤ 255) (k26 : 0 ≤ x26 ∧ x26 ≤ 255) (k28 : 2 ≤ x28 ∧ x28 ≤ 2) (k29 : 3 ≤ x29 ∧ x29 ≤ 3) (k30 : 0 ≤ x30 ∧ x30 ≤ 1997) (k31 : 2 ≤ x31 ∧ x31 ≤ 1999) (k32 : 0 ≤ x32 ∧ x32 ≤ 255) (k33 : 0 ≤ x33 ∧ x33 ≤ 65535) (k34 : 0 ≤ x34 ∧ x34 ≤ 0) (d0 : x30 + 2 ≤ x31 ∧ x31 ≤ x30 + 2) (d1 : x26 + 0 ≤ x25 ∧ x25 ≤ x26 + 0) (d2 : x23 + 1 ≤ x24 ∧ x24 ≤ x23 + 1) (d3 : x19 + 0 ≤ x18 ∧ x18 ≤ x19 + 0) (d4 : x16 + 0 ≤ x17 ∧ x17 ≤ x16 + 0) (f0 : x32 ≠ x33) (f1 : 1 * x33 + 0 ≤ 116) (f2 : (-1) * x33 + 0 ≤ (-116)) (f3 : ((x31 + 1) ≤ limit_0) → (x32 = (tape_0 (x31) % 256))) (f4 : (limit_0 ≤ x31) → (x32 = (-1))) (f5 : x31 = x30 + x28) (h6 : x30 = tokenPlace_0 (x4)) (g7 : x4 = cur_0) (f9 : x28 < x29) (f10 : x28 = x21 + 1) (f11 : x25 = x26) (f12 : 1 * x26 + 0 ≤ 117) (f13 : (-1) * x26 + 0 ≤ (-117)) (f14 : ((x24 + 1) ≤ limit_0) → (x25 = (tape_0 (x24) % 256))) (f15 : (limit_0 ≤ x24) → (x25 = (-1))) (f16 : x24 = x23 + x21) (h17 : x23 = tokenPlace_0 (x4)) (f18 : x21 < x22) (f19 : x21 = x14 + 1) (f20 : x18 = x19) (f21 : 1 * x19 + 0 ≤ 111) (f22 : (-1) * x19 + 0 ≤ (-111)) (f23 : ((x17 + 1) ≤ limit_0) → (x18 = (tape_0 (x17) % 256))) (f24 : (limit_0 ≤ x17) → (x18 = (-1))) (f25 : x17 = x16 + x14) (h26 : x16 = tokenPlace_0 (x4)) (f27 : x14 < x15) (f28 : x11 = x12) (f29 : x11 = x8 - x10) (h30 : x10 = tokenPlace_0 (x4)) (h31 : x8 = tokenEnd_0 (x4)) (f33 : x5 = x6) (h34 : x5 = tokenKind_0 (x4)) (f36 : x2 = 0) (g37 : x2 = fault_0) (hK_0_1 : ∀ j : Int, 0 ≤ j → j < 2000 → (-128) ≤ tape_0 j ∧ tape_0 j ≤ 127) (hK_0_160 : ∀ j : Int, 0 ≤ j → j < 2010 → 0 ≤ tokenKind_0 j ∧ tokenKind_0 j ≤ 4) (hK_0_162 : ∀ j : Int, 0 ≤ j → j < 2010 → 0 ≤ tokenPlace_0 j ∧ tokenPlace_0 j ≤ 2000) (hK_0_163 : ∀ j : Int, 0 ≤ j → j < 2010 → 0 ≤ tokenEnd_0 j ∧ tokenEnd_0 j ≤ 2000) (kz_0_8 : 0 ≤ fault_0 ∧ fault_0 ≤ 5) (kz_0_10 : 0 ≤ limit_0 ∧ limit_0 ≤ 2000) (kz_0_158 : 0 ≤ cur_0 ∧ cur_0 ≤ 2009) : (x34 = 1) → (tokenKind_0 (cur_0) = 1) := by
  first | assumption | (clear f3 f4 f14 f15 f23 f24 hK_0_1 hK_0_160 hK_0_162 hK_0_163; omega) | (clear hK_0_1 hK_0_160 hK_0_162 hK_0_163; grind) | omega | grind
set_option maxHeartbeats 4000000 in
theorem vc_Mo_word_at_s5027_8_1 (x4 : Int) (x8 : Int) (x10 : Int) (x11 : Int) (x16 : Int) (x17 : Int) (x18 : Int) (x19 : Int) (x23 : Int) (x24 : Int) (x25 : Int) (x26 : Int) (x30 : Int) (x31 : Int) (x32 : Int) (x33 : Int) (x34 : Int) (tape_0 : Int → Int) (limit_0 : Int) (tokenPlace_0 : Int → Int) (cur_0 : Int) (tokenEnd_0 : Int → Int) (tokenKind_0 : Int → Int) (fault_0 : Int) (k4 : 0 ≤ x4 ∧ x4 ≤ 2009) (k8 : 3 ≤ x8 ∧ x8 ≤ 2000) (k10 : 0 ≤ x10 ∧ x10 ≤ 2000) (k11 : 3 ≤ x11 ∧ x11 ≤ 3) (k16 : 0 ≤ x16 ∧ x16 ≤ 1999) (k17 : 0 ≤ x17 ∧ x17 ≤ 1999) (k18 : 0 ≤ x18 ∧ x18 ≤ 255) (k19 : 0 ≤ x19 ∧ x19 ≤ 255) (k23 : 0 ≤ x23 ∧ x23 ≤ 1998) (k24 : 1 ≤ x24 ∧ x24 ≤ 1999) (k25 : 0 ≤ x25 ∧ x25 ≤ 255) (k26 : 0 ≤ x26 ∧ x26 ≤ 255) (k30 : 0 ≤ x30 ∧ x30 ≤ 1997) (k31 : 2 ≤ x31 ∧ x31 ≤ 1999) (k32 : 0 ≤ x32 ∧ x32 ≤ 255) (k33 : 0 ≤ x33 ∧ x33 ≤ 65535) (k34 : 0 ≤ x34 ∧ x34 ≤ 0) (d0 : x30 + 2 ≤ x31 ∧ x31 ≤ x30 + 2) (d1 : x26 + 0 ≤ x25 ∧ x25 ≤ x26 + 0) (d2 : x23 + 1 ≤ x24 ∧ x24 ≤ x23 + 1) (d3 : x19 + 0 ≤ x18 ∧ x18 ≤ x19 + 0) (d4 : x16 + 0 ≤ x17 ∧ x17 ≤ x16 + 0) (f0 : x32 ≠ x33) (f1 : 1 * x33 + 0 ≤ 116) (f2 : (-1) * x33 + 0 ≤ (-116)) (f3 : ((x31 + 1) ≤ limit_0) → (x32 = (tape_0 (x31) % 256))) (f4 : (limit_0 ≤ x31) → (x32 = (-1))) (h6 : x30 = tokenPlace_0 (x4)) (g7 : x4 = cur_0) (f12 : 1 * x26 + 0 ≤ 117) (f13 : (-1) * x26 + 0 ≤ (-117)) (f14 : ((x24 + 1) ≤ limit_0) → (x25 = (tape_0 (x24) % 256))) (f15 : (limit_0 ≤ x24) → (x25 = (-1))) (h17 : x23 = tokenPlace_0 (x4)) (f21 : 1 * x19 + 0 ≤ 111) (f22 : (-1) * x19 + 0 ≤ (-111)) (f23 : ((x17 + 1) ≤ limit_0) → (x18 = (tape_0 (x17) % 256))) (f24 : (limit_0 ≤ x17) → (x18 = (-1))) (h26 : x16 = tokenPlace_0 (x4)) (f29 : x11 = x8 - x10) (h30 : x10 = tokenPlace_0 (x4)) (h31 : x8 = tokenEnd_0 (x4)) (kz_0_8 : 0 ≤ fault_0 ∧ fault_0 ≤ 5) (kz_0_10 : 0 ≤ limit_0 ∧ limit_0 ≤ 2000) (kz_0_158 : 0 ≤ cur_0 ∧ cur_0 ≤ 2009) : Wqout (fault_0) (cur_0) (limit_0) (tokenKind_0) (tokenPlace_0) (tokenEnd_0) (tape_0) (x34) := by
  first
    | exact ⟨fun z => by omega, fun z => by have := z.1; omega⟩
    | (have e := (‹x4 = cur_0›)
       rw [← e]
       refine ⟨fun z => ⟨by omega, wdS3.2 ⟨by omega, by omega, by omega, by rw [show tokenPlace_0 x4 + 0 = x17 by omega]; omega, by rw [show tokenPlace_0 x4 + 1 = x24 by omega]; omega, by rw [show tokenPlace_0 x4 + 2 = x31 by omega]; omega⟩⟩, fun z => by omega⟩)
    | (have e := (‹x4 = cur_0›)
       rw [← e]
       refine ⟨fun z => by omega, fun z => ?_⟩
       have w := wdS3.1 z.2
       try (have q0 : tokenPlace_0 x4 + 0 = x17 := (by omega); rw [q0] at w)
       try (have q1 : tokenPlace_0 x4 + 1 = x24 := (by omega); rw [q1] at w)
       try (have q2 : tokenPlace_0 x4 + 2 = x31 := (by omega); rw [q2] at w)
       omega)
  
def o_Mo_word_at_s5027_8 : or_T := (102, 37, [(0, (2, 0, 0, [165])), (2, (0, 0, 0, [])), (3, (2, 0, 0, [274])), (4, (0, 0, 2009, [])), (5, (0, 1, 1, [])), (6, (0, 1, 1, [])), (7, (2, 0, 0, [277])), (8, (0, 3, 2000, [])), (9, (2, 0, 0, [276])), (10, (0, 0, 2000, [])), (11, (0, 3, 3, [])), (12, (0, 3, 3, [])), (14, (0, 0, 0, [])), (15, (0, 3, 3, [])), (16, (0, 0, 1999, [])), (17, (0, 0, 1999, [])), (18, (0, 0, 255, [])), (19, (0, 0, 255, [])), (21, (0, 1, 1, [])), (22, (0, 3, 3, [])), (23, (0, 0, 1998, [])), (24, (0, 1, 1999, [])), (25, (0, 0, 255, [])), (26, (0, 0, 255, [])), (28, (0, 2, 2, [])), (29, (0, 3, 3, [])), (30, (0, 0, 1997, [])), (31, (0, 2, 1999, [])), (32, (0, 0, 255, [])), (33, (0, 0, 65535, [])), (34, (0, 0, 0, []))], [(7, [32, 33], [1]), (23, [33], [116, 1]), (23, [33], [-116, -1]), (20, [31, 0, 32], [50, 1, 1, 1010, 1001, 4, 11, 0, 6, 4, 2, 1, 0, 0, 1, 2, 1, 10, 1, 2, 1, 2, 9, 5, 3, 1, 1, 1, 0, 0, 256]), (20, [0, 31, 32], [50, 1, 0, 10, 4, 7, 0, 3, 2, 0, 10, 1, 1, 1, 2, 1, 2, 0, -1]), (1, [31, 30, 28], []), (10, [30, 9, 4], []), (9, [4, 0], [158]), (9, [9, 0], [162]), (7, [28, 29], [2]), (6, [28, 21], [1]), (7, [25, 26], [0]), (23, [26], [117, 1]), (23, [26], [-117, -1]), (20, [24, 0, 25], [50, 1, 1, 1010, 1001, 4, 11, 0, 6, 4, 2, 1, 0, 0, 1, 2, 1, 10, 1, 2, 1, 2, 9, 5, 3, 1, 1, 1, 0, 0, 256]), (20, [0, 24, 25], [50, 1, 0, 10, 4, 7, 0, 3, 2, 0, 10, 1, 1, 1, 2, 1, 2, 0, -1]), (1, [24, 23, 21], []), (10, [23, 9, 4], []), (7, [21, 22], [2]), (6, [21, 14], [1]), (7, [18, 19], [0]), (23, [19], [111, 1]), (23, [19], [-111, -1]), (20, [17, 0, 18], [50, 1, 1, 1010, 1001, 4, 11, 0, 6, 4, 2, 1, 0, 0, 1, 2, 1, 10, 1, 2, 1, 2, 9, 5, 3, 1, 1, 1, 0, 0, 256]), (20, [0, 17, 18], [50, 1, 0, 10, 4, 7, 0, 3, 2, 0, 10, 1, 1, 1, 2, 1, 2, 0, -1]), (1, [17, 16, 14], []), (10, [16, 9, 4], []), (7, [14, 15], [2]), (7, [11, 12], [0]), (2, [11, 8, 10], []), (10, [10, 9, 4], []), (10, [8, 7, 4], []), (9, [7, 0], [163]), (7, [5, 6], [0]), (10, [5, 3, 4], []), (9, [3, 0], [160]), (8, [2], [0]), (9, [2, 0], [8])], [], [], [(20, [34, 0], [50, 1, 1, 1158, 1160, 4, 6, 1, 2, 1, 0, 0, 1, 1, 6, 3, 1, 160, 2, 1, 158, 0, 1]), (20, [0, 34], [60, 3, 4, 30, 8, 158, 10, 160, 162, 163, 1])], [], [(31, 30, 2, 2), (25, 26, 0, 0), (24, 23, 1, 1), (18, 19, 0, 0), (17, 16, 0, 0)])
theorem oo_Mo_word_at_s5027_8 {kA : Nat → ClassId} : or_ok PRD kA GG o_Mo_word_at_s5027_8 := by
  refine or_mk fun A ta ws vs hD hth hl => ?_
  intro t0 r0 t2 k2 t3 r3 t4 k4 t5 k5 t6 k6 t7 r7 t8 k8 t9 r9 t10 k10 t11 k11 t12 k12 t14 k14 t15 k15 t16 k16 t17 k17 t18 k18 t19 k19 t21 k21 t22 k22 t23 k23 t24 k24 t25 k25 t26 k26 t28 k28 t29 k29 t30 k30 t31 k31 t32 k32 t33 k33 t34 k34 d0 d1 d2 d3 d4 f0 f1 f2 f3 f4 f5 f6 f7 f8 f9 f10 f11 f12 f13 f14 f15 f16 f17 f18 f19 f20 f21 f22 f23 f24 f25 f26 f27 f28 f29 f30 f31 f32 f33 f34 f35 f36 f37
  replace f6 := shm_107 f6
  replace f7 := shm_286 f7
  replace f8 := shm_301 f8
  replace f17 := shm_107 f17
  replace f26 := shm_107 f26
  replace f30 := shm_107 f30
  replace f31 := shm_107 f31
  replace f32 := shm_1332 f32
  replace f34 := shm_107 f34
  replace f35 := shm_327 f35
  replace f37 := shm_293 f37
  have cr_0_1 := fdq_39 hD hth r0
  have cr_0_160 := fdq_33 hD hth r0
  have cr_0_162 := fdq_41 hD hth r0
  have cr_0_163 := fdq_42 hD hth r0
  have ad_9 : v_ad (n_v vs 9) = w_ar ws (n_v vs 0) 162 := congrArg v_ad f8
  have ad_7 : v_ad (n_v vs 7) = w_ar ws (n_v vs 0) 163 := congrArg v_ad f32
  have ad_3 : v_ad (n_v vs 3) = w_ar ws (n_v vs 0) 160 := congrArg v_ad f35
  simp only [ad_9] at f6
  have h6 : v_iv (n_v vs 30) = w_ei ws (w_ar ws (n_v vs 0) 162) (v_iv (n_v vs 4)) := f6
  have g7 : v_iv (n_v vs 4) = w_fi ws (n_v vs 0) 158 := congrArg v_iv f7
  simp only [ad_9] at f17
  have h17 : v_iv (n_v vs 23) = w_ei ws (w_ar ws (n_v vs 0) 162) (v_iv (n_v vs 4)) := f17
  simp only [ad_9] at f26
  have h26 : v_iv (n_v vs 16) = w_ei ws (w_ar ws (n_v vs 0) 162) (v_iv (n_v vs 4)) := f26
  simp only [ad_9] at f30
  have h30 : v_iv (n_v vs 10) = w_ei ws (w_ar ws (n_v vs 0) 162) (v_iv (n_v vs 4)) := f30
  simp only [ad_7] at f31
  have h31 : v_iv (n_v vs 8) = w_ei ws (w_ar ws (n_v vs 0) 163) (v_iv (n_v vs 4)) := f31
  simp only [ad_3] at f34
  have h34 : v_iv (n_v vs 5) = w_ei ws (w_ar ws (n_v vs 0) 160) (v_iv (n_v vs 4)) := f34
  have g37 : v_iv (n_v vs 2) = w_fi ws (n_v vs 0) 8 := congrArg v_iv f37
  have hK_0_1 := elq_7 hD hth cr_0_1
  have hK_0_160 := elq_6 hD hth cr_0_160
  have hK_0_162 := elq_8 hD hth cr_0_162
  have hK_0_163 := elq_9 hD hth cr_0_163
  have kz_0_8 := fdq_34 hD hth r0
  have kz_0_10 := fdq_43 hD hth r0
  have kz_0_158 := fdq_36 hD hth r0
  have nf0 : fc_1 PRD (20, [34, 0], [50, 1, 1, 1158, 1160, 4, 6, 1, 2, 1, 0, 0, 1, 1, 6, 3, 1, 160, 2, 1, 158, 0, 1]) ws (vs) := ⟨nf_in hl rfl, sgq_287 (vc_Mo_word_at_s5027_8_0 (v_iv (n_v vs 2)) (v_iv (n_v vs 4)) (v_iv (n_v vs 5)) (v_iv (n_v vs 6)) (v_iv (n_v vs 8)) (v_iv (n_v vs 10)) (v_iv (n_v vs 11)) (v_iv (n_v vs 12)) (v_iv (n_v vs 14)) (v_iv (n_v vs 15)) (v_iv (n_v vs 16)) (v_iv (n_v vs 17)) (v_iv (n_v vs 18)) (v_iv (n_v vs 19)) (v_iv (n_v vs 21)) (v_iv (n_v vs 22)) (v_iv (n_v vs 23)) (v_iv (n_v vs 24)) (v_iv (n_v vs 25)) (v_iv (n_v vs 26)) (v_iv (n_v vs 28)) (v_iv (n_v vs 29)) (v_iv (n_v vs 30)) (v_iv (n_v vs 31)) (v_iv (n_v vs 32)) (v_iv (n_v vs 33)) (v_iv (n_v vs 34)) (w_ei ws (w_ar ws (n_v vs 0) 1)) (w_fi ws (n_v vs 0) 10) (w_ei ws (w_ar ws (n_v vs 0) 162)) (w_fi ws (n_v vs 0) 158) (w_ei ws (w_ar ws (n_v vs 0) 163)) (w_ei ws (w_ar ws (n_v vs 0) 160)) (w_fi ws (n_v vs 0) 8) k2 k4 k5 k6 k8 k10 k11 k12 k14 k15 k16 k17 k18 k19 k21 k22 k23 k24 k25 k26 k28 k29 k30 k31 k32 k33 k34 d0 d1 d2 d3 d4 (shm_40 f0) (shm_79 f1) (shm_80 f2) (shm_541 f3) (shm_542 f4) (shm_12 f5) h6 g7 (shm_6 f9) (shm_4 f10) (shm_37 f11) (shm_65 f12) (shm_66 f13) (shm_541 f14) (shm_542 f15) (shm_12 f16) h17 (shm_6 f18) (shm_4 f19) (shm_37 f20) (shm_55 f21) (shm_56 f22) (shm_541 f23) (shm_542 f24) (shm_12 f25) h26 (shm_6 f27) (shm_37 f28) (shm_14 f29) h30 h31 (shm_37 f33) h34 (shm_192 f36) g37 hK_0_1 hK_0_160 hK_0_162 hK_0_163 kz_0_8 kz_0_10 kz_0_158)⟩
  have nf1 : fc_1 PRD (20, [0, 34], [60, 3, 4, 30, 8, 158, 10, 160, 162, 163, 1]) ws (vs) := ⟨nf_in hl rfl, sgq_1871 (vc_Mo_word_at_s5027_8_1 (v_iv (n_v vs 4)) (v_iv (n_v vs 8)) (v_iv (n_v vs 10)) (v_iv (n_v vs 11)) (v_iv (n_v vs 16)) (v_iv (n_v vs 17)) (v_iv (n_v vs 18)) (v_iv (n_v vs 19)) (v_iv (n_v vs 23)) (v_iv (n_v vs 24)) (v_iv (n_v vs 25)) (v_iv (n_v vs 26)) (v_iv (n_v vs 30)) (v_iv (n_v vs 31)) (v_iv (n_v vs 32)) (v_iv (n_v vs 33)) (v_iv (n_v vs 34)) (w_ei ws (w_ar ws (n_v vs 0) 1)) (w_fi ws (n_v vs 0) 10) (w_ei ws (w_ar ws (n_v vs 0) 162)) (w_fi ws (n_v vs 0) 158) (w_ei ws (w_ar ws (n_v vs 0) 163)) (w_ei ws (w_ar ws (n_v vs 0) 160)) (w_fi ws (n_v vs 0) 8) k4 k8 k10 k11 k16 k17 k18 k19 k23 k24 k25 k26 k30 k31 k32 k33 k34 d0 d1 d2 d3 d4 (shm_40 f0) (shm_79 f1) (shm_80 f2) (shm_541 f3) (shm_542 f4) h6 g7 (shm_65 f12) (shm_66 f13) (shm_541 f14) (shm_542 f15) h17 (shm_55 f21) (shm_56 f22) (shm_541 f23) (shm_542 f24) h26 (shm_14 f29) h30 h31 kz_0_8 kz_0_10 kz_0_158)⟩
  refine ⟨(fun _ h => (by cases h)), [], trivial, ?_, (fun _ h => (by cases h))⟩
  rw [List.append_nil]
  exact List.forall_mem_cons.mpr ⟨⟨show (20 : Nat) < 100 from by decide, nf0⟩, List.forall_mem_cons.mpr ⟨⟨show (20 : Nat) < 100 from by decide, nf1⟩, (fun _ h => (by cases h))⟩⟩
set_option maxHeartbeats 4000000 in
theorem vc_Mo_word_at_s5027_9_0 (x2 : Int) (x4 : Int) (x5 : Int) (x6 : Int) (x8 : Int) (x10 : Int) (x11 : Int) (x12 : Int) (x14 : Int) (x15 : Int) (x16 : Int) (x17 : Int) (x18 : Int) (x19 : Int) (x21 : Int) (x22 : Int) (x23 : Int) (x24 : Int) (x25 : Int) (x26 : Int) (x28 : Int) (x29 : Int) (x30 : Int) (x31 : Int) (x32 : Int) (x33 : Int) (x34 : Int) (tape_0 : Int → Int) (limit_0 : Int) (tokenPlace_0 : Int → Int) (cur_0 : Int) (tokenEnd_0 : Int → Int) (tokenKind_0 : Int → Int) (fault_0 : Int) (k2 : 0 ≤ x2 ∧ x2 ≤ 0) (k4 : 0 ≤ x4 ∧ x4 ≤ 2009) (k5 : 1 ≤ x5 ∧ x5 ≤ 1) (k6 : 1 ≤ x6 ∧ x6 ≤ 1) (k8 : 3 ≤ x8 ∧ x8 ≤ 2000) (k10 : 0 ≤ x10 ∧ x10 ≤ 2000) (k11 : 3 ≤ x11 ∧ x11 ≤ 3) (k12 : 3 ≤ x12 ∧ x12 ≤ 3) (k14 : 0 ≤ x14 ∧ x14 ≤ 0) (k15 : 3 ≤ x15 ∧ x15 ≤ 3) (k16 : 0 ≤ x16 ∧ x16 ≤ 1999) (k17 : 0 ≤ x17 ∧ x17 ≤ 1999) (k18 : 0 ≤ x18 ∧ x18 ≤ 255) (k19 : 0 ≤ x19 ∧ x19 ≤ 255) (k21 : 1 ≤ x21 ∧ x21 ≤ 1) (k22 : 3 ≤ x22 ∧ x22 ≤ 3) (k23 : 0 ≤ x23 ∧ x23 ≤ 1998) (k24 : 1 ≤ x24 ∧ x24 ≤ 1999) (k25 : 0 ≤ x25 ∧ x25 ≤ 255) (k26 : 0 ≤ x26 ∧ x26 ≤ 255) (k28 : 2 ≤ x28 ∧ x28 ≤ 2) (k29 : 3 ≤ x29 ∧ x29 ≤ 3) (k30 : 0 ≤ x30 ∧ x30 ≤ 1997) (k31 : 2 ≤ x31 ∧ x31 ≤ 1999) (k32 : 0 ≤ x32 ∧ x32 ≤ 255) (k33 : 0 ≤ x33 ∧ x33 ≤ 255) (k34 : 1 ≤ x34 ∧ x34 ≤ 1) (d0 : x33 + 0 ≤ x32 ∧ x32 ≤ x33 + 0) (d1 : x30 + 2 ≤ x31 ∧ x31 ≤ x30 + 2) (d2 : x26 + 0 ≤ x25 ∧ x25 ≤ x26 + 0) (d3 : x23 + 1 ≤ x24 ∧ x24 ≤ x23 + 1) (d4 : x19 + 0 ≤ x18 ∧ x18 ≤ x19 + 0) (d5 : x16 + 0 ≤ x17 ∧ x17 ≤ x16 + 0) (f0 : x32 = x33) (f1 : 1 * x33 + 0 ≤ 116) (f2 : (-1) * x33 + 0 ≤ (-116)) (f3 : ((x31 + 1) ≤ limit_0) → (x32 = (tape_0 (x31) % 256))) (f4 : (limit_0 ≤ x31) → (x32 = (-1))) (f5 : x31 = x30 + x28) (h6 : x30 = tokenPlace_0 (x4)) (g7 : x4 = cur_0) (f9 : x28 < x29) (f10 : x28 = x21 + 1) (f11 : x25 = x26) (f12 : 1 * x26 + 0 ≤ 117) (f13 : (-1) * x26 + 0 ≤ (-117)) (f14 : ((x24 + 1) ≤ limit_0) → (x25 = (tape_0 (x24) % 256))) (f15 : (limit_0 ≤ x24) → (x25 = (-1))) (f16 : x24 = x23 + x21) (h17 : x23 = tokenPlace_0 (x4)) (f18 : x21 < x22) (f19 : x21 = x14 + 1) (f20 : x18 = x19) (f21 : 1 * x19 + 0 ≤ 111) (f22 : (-1) * x19 + 0 ≤ (-111)) (f23 : ((x17 + 1) ≤ limit_0) → (x18 = (tape_0 (x17) % 256))) (f24 : (limit_0 ≤ x17) → (x18 = (-1))) (f25 : x17 = x16 + x14) (h26 : x16 = tokenPlace_0 (x4)) (f27 : x14 < x15) (f28 : x11 = x12) (f29 : x11 = x8 - x10) (h30 : x10 = tokenPlace_0 (x4)) (h31 : x8 = tokenEnd_0 (x4)) (f33 : x5 = x6) (h34 : x5 = tokenKind_0 (x4)) (f36 : x2 = 0) (g37 : x2 = fault_0) (hK_0_1 : ∀ j : Int, 0 ≤ j → j < 2000 → (-128) ≤ tape_0 j ∧ tape_0 j ≤ 127) (hK_0_160 : ∀ j : Int, 0 ≤ j → j < 2010 → 0 ≤ tokenKind_0 j ∧ tokenKind_0 j ≤ 4) (hK_0_162 : ∀ j : Int, 0 ≤ j → j < 2010 → 0 ≤ tokenPlace_0 j ∧ tokenPlace_0 j ≤ 2000) (hK_0_163 : ∀ j : Int, 0 ≤ j → j < 2010 → 0 ≤ tokenEnd_0 j ∧ tokenEnd_0 j ≤ 2000) (kz_0_8 : 0 ≤ fault_0 ∧ fault_0 ≤ 5) (kz_0_10 : 0 ≤ limit_0 ∧ limit_0 ≤ 2000) (kz_0_158 : 0 ≤ cur_0 ∧ cur_0 ≤ 2009) : (x34 = 1) → (tokenKind_0 (cur_0) = 1) := by
  first | assumption | (clear f3 f4 f14 f15 f23 f24 hK_0_1 hK_0_160 hK_0_162 hK_0_163; omega) | (clear hK_0_1 hK_0_160 hK_0_162 hK_0_163; grind) | omega | grind
set_option maxHeartbeats 4000000 in
theorem vc_Mo_word_at_s5027_9_1 (x2 : Int) (x4 : Int) (x5 : Int) (x8 : Int) (x10 : Int) (x11 : Int) (x16 : Int) (x17 : Int) (x18 : Int) (x19 : Int) (x23 : Int) (x24 : Int) (x25 : Int) (x26 : Int) (x30 : Int) (x31 : Int) (x32 : Int) (x33 : Int) (x34 : Int) (tape_0 : Int → Int) (limit_0 : Int) (tokenPlace_0 : Int → Int) (cur_0 : Int) (tokenEnd_0 : Int → Int) (tokenKind_0 : Int → Int) (fault_0 : Int) (k2 : 0 ≤ x2 ∧ x2 ≤ 0) (k4 : 0 ≤ x4 ∧ x4 ≤ 2009) (k5 : 1 ≤ x5 ∧ x5 ≤ 1) (k8 : 3 ≤ x8 ∧ x8 ≤ 2000) (k10 : 0 ≤ x10 ∧ x10 ≤ 2000) (k11 : 3 ≤ x11 ∧ x11 ≤ 3) (k16 : 0 ≤ x16 ∧ x16 ≤ 1999) (k17 : 0 ≤ x17 ∧ x17 ≤ 1999) (k18 : 0 ≤ x18 ∧ x18 ≤ 255) (k19 : 0 ≤ x19 ∧ x19 ≤ 255) (k23 : 0 ≤ x23 ∧ x23 ≤ 1998) (k24 : 1 ≤ x24 ∧ x24 ≤ 1999) (k25 : 0 ≤ x25 ∧ x25 ≤ 255) (k26 : 0 ≤ x26 ∧ x26 ≤ 255) (k30 : 0 ≤ x30 ∧ x30 ≤ 1997) (k31 : 2 ≤ x31 ∧ x31 ≤ 1999) (k32 : 0 ≤ x32 ∧ x32 ≤ 255) (k33 : 0 ≤ x33 ∧ x33 ≤ 255) (k34 : 1 ≤ x34 ∧ x34 ≤ 1) (d0 : x33 + 0 ≤ x32 ∧ x32 ≤ x33 + 0) (d1 : x30 + 2 ≤ x31 ∧ x31 ≤ x30 + 2) (d2 : x26 + 0 ≤ x25 ∧ x25 ≤ x26 + 0) (d3 : x23 + 1 ≤ x24 ∧ x24 ≤ x23 + 1) (d4 : x19 + 0 ≤ x18 ∧ x18 ≤ x19 + 0) (d5 : x16 + 0 ≤ x17 ∧ x17 ≤ x16 + 0) (f1 : 1 * x33 + 0 ≤ 116) (f2 : (-1) * x33 + 0 ≤ (-116)) (f3 : ((x31 + 1) ≤ limit_0) → (x32 = (tape_0 (x31) % 256))) (f4 : (limit_0 ≤ x31) → (x32 = (-1))) (h6 : x30 = tokenPlace_0 (x4)) (g7 : x4 = cur_0) (f12 : 1 * x26 + 0 ≤ 117) (f13 : (-1) * x26 + 0 ≤ (-117)) (f14 : ((x24 + 1) ≤ limit_0) → (x25 = (tape_0 (x24) % 256))) (f15 : (limit_0 ≤ x24) → (x25 = (-1))) (h17 : x23 = tokenPlace_0 (x4)) (f21 : 1 * x19 + 0 ≤ 111) (f22 : (-1) * x19 + 0 ≤ (-111)) (f23 : ((x17 + 1) ≤ limit_0) → (x18 = (tape_0 (x17) % 256))) (f24 : (limit_0 ≤ x17) → (x18 = (-1))) (h26 : x16 = tokenPlace_0 (x4)) (f29 : x11 = x8 - x10) (h30 : x10 = tokenPlace_0 (x4)) (h31 : x8 = tokenEnd_0 (x4)) (h34 : x5 = tokenKind_0 (x4)) (g37 : x2 = fault_0) (kz_0_8 : 0 ≤ fault_0 ∧ fault_0 ≤ 5) (kz_0_10 : 0 ≤ limit_0 ∧ limit_0 ≤ 2000) (kz_0_158 : 0 ≤ cur_0 ∧ cur_0 ≤ 2009) : Wqout (fault_0) (cur_0) (limit_0) (tokenKind_0) (tokenPlace_0) (tokenEnd_0) (tape_0) (x34) := by
  first
    | exact ⟨fun z => by omega, fun z => by have := z.1; omega⟩
    | (have e := (‹x4 = cur_0›)
       rw [← e]
       refine ⟨fun z => ⟨by omega, wdS3.2 ⟨by omega, by omega, by omega, by rw [show tokenPlace_0 x4 + 0 = x17 by omega]; omega, by rw [show tokenPlace_0 x4 + 1 = x24 by omega]; omega, by rw [show tokenPlace_0 x4 + 2 = x31 by omega]; omega⟩⟩, fun z => by omega⟩)
    | (have e := (‹x4 = cur_0›)
       rw [← e]
       refine ⟨fun z => by omega, fun z => ?_⟩
       have w := wdS3.1 z.2
       try (have q0 : tokenPlace_0 x4 + 0 = x17 := (by omega); rw [q0] at w)
       try (have q1 : tokenPlace_0 x4 + 1 = x24 := (by omega); rw [q1] at w)
       try (have q2 : tokenPlace_0 x4 + 2 = x31 := (by omega); rw [q2] at w)
       omega)
  
def o_Mo_word_at_s5027_9 : or_T := (102, 37, [(0, (2, 0, 0, [165])), (2, (0, 0, 0, [])), (3, (2, 0, 0, [274])), (4, (0, 0, 2009, [])), (5, (0, 1, 1, [])), (6, (0, 1, 1, [])), (7, (2, 0, 0, [277])), (8, (0, 3, 2000, [])), (9, (2, 0, 0, [276])), (10, (0, 0, 2000, [])), (11, (0, 3, 3, [])), (12, (0, 3, 3, [])), (14, (0, 0, 0, [])), (15, (0, 3, 3, [])), (16, (0, 0, 1999, [])), (17, (0, 0, 1999, [])), (18, (0, 0, 255, [])), (19, (0, 0, 255, [])), (21, (0, 1, 1, [])), (22, (0, 3, 3, [])), (23, (0, 0, 1998, [])), (24, (0, 1, 1999, [])), (25, (0, 0, 255, [])), (26, (0, 0, 255, [])), (28, (0, 2, 2, [])), (29, (0, 3, 3, [])), (30, (0, 0, 1997, [])), (31, (0, 2, 1999, [])), (32, (0, 0, 255, [])), (33, (0, 0, 255, [])), (34, (0, 1, 1, []))], [(7, [32, 33], [0]), (23, [33], [116, 1]), (23, [33], [-116, -1]), (20, [31, 0, 32], [50, 1, 1, 1010, 1001, 4, 11, 0, 6, 4, 2, 1, 0, 0, 1, 2, 1, 10, 1, 2, 1, 2, 9, 5, 3, 1, 1, 1, 0, 0, 256]), (20, [0, 31, 32], [50, 1, 0, 10, 4, 7, 0, 3, 2, 0, 10, 1, 1, 1, 2, 1, 2, 0, -1]), (1, [31, 30, 28], []), (10, [30, 9, 4], []), (9, [4, 0], [158]), (9, [9, 0], [162]), (7, [28, 29], [2]), (6, [28, 21], [1]), (7, [25, 26], [0]), (23, [26], [117, 1]), (23, [26], [-117, -1]), (20, [24, 0, 25], [50, 1, 1, 1010, 1001, 4, 11, 0, 6, 4, 2, 1, 0, 0, 1, 2, 1, 10, 1, 2, 1, 2, 9, 5, 3, 1, 1, 1, 0, 0, 256]), (20, [0, 24, 25], [50, 1, 0, 10, 4, 7, 0, 3, 2, 0, 10, 1, 1, 1, 2, 1, 2, 0, -1]), (1, [24, 23, 21], []), (10, [23, 9, 4], []), (7, [21, 22], [2]), (6, [21, 14], [1]), (7, [18, 19], [0]), (23, [19], [111, 1]), (23, [19], [-111, -1]), (20, [17, 0, 18], [50, 1, 1, 1010, 1001, 4, 11, 0, 6, 4, 2, 1, 0, 0, 1, 2, 1, 10, 1, 2, 1, 2, 9, 5, 3, 1, 1, 1, 0, 0, 256]), (20, [0, 17, 18], [50, 1, 0, 10, 4, 7, 0, 3, 2, 0, 10, 1, 1, 1, 2, 1, 2, 0, -1]), (1, [17, 16, 14], []), (10, [16, 9, 4], []), (7, [14, 15], [2]), (7, [11, 12], [0]), (2, [11, 8, 10], []), (10, [10, 9, 4], []), (10, [8, 7, 4], []), (9, [7, 0], [163]), (7, [5, 6], [0]), (10, [5, 3, 4], []), (9, [3, 0], [160]), (8, [2], [0]), (9, [2, 0], [8])], [], [], [(20, [34, 0], [50, 1, 1, 1158, 1160, 4, 6, 1, 2, 1, 0, 0, 1, 1, 6, 3, 1, 160, 2, 1, 158, 0, 1]), (20, [0, 34], [60, 3, 4, 30, 8, 158, 10, 160, 162, 163, 1])], [], [(32, 33, 0, 0), (31, 30, 2, 2), (25, 26, 0, 0), (24, 23, 1, 1), (18, 19, 0, 0), (17, 16, 0, 0)])
theorem oo_Mo_word_at_s5027_9 {kA : Nat → ClassId} : or_ok PRD kA GG o_Mo_word_at_s5027_9 := by
  refine or_mk fun A ta ws vs hD hth hl => ?_
  intro t0 r0 t2 k2 t3 r3 t4 k4 t5 k5 t6 k6 t7 r7 t8 k8 t9 r9 t10 k10 t11 k11 t12 k12 t14 k14 t15 k15 t16 k16 t17 k17 t18 k18 t19 k19 t21 k21 t22 k22 t23 k23 t24 k24 t25 k25 t26 k26 t28 k28 t29 k29 t30 k30 t31 k31 t32 k32 t33 k33 t34 k34 d0 d1 d2 d3 d4 d5 f0 f1 f2 f3 f4 f5 f6 f7 f8 f9 f10 f11 f12 f13 f14 f15 f16 f17 f18 f19 f20 f21 f22 f23 f24 f25 f26 f27 f28 f29 f30 f31 f32 f33 f34 f35 f36 f37
  replace f6 := shm_107 f6
  replace f7 := shm_286 f7
  replace f8 := shm_301 f8
  replace f17 := shm_107 f17
  replace f26 := shm_107 f26
  replace f30 := shm_107 f30
  replace f31 := shm_107 f31
  replace f32 := shm_1332 f32
  replace f34 := shm_107 f34
  replace f35 := shm_327 f35
  replace f37 := shm_293 f37
  have cr_0_1 := fdq_39 hD hth r0
  have cr_0_160 := fdq_33 hD hth r0
  have cr_0_162 := fdq_41 hD hth r0
  have cr_0_163 := fdq_42 hD hth r0
  have ad_9 : v_ad (n_v vs 9) = w_ar ws (n_v vs 0) 162 := congrArg v_ad f8
  have ad_7 : v_ad (n_v vs 7) = w_ar ws (n_v vs 0) 163 := congrArg v_ad f32
  have ad_3 : v_ad (n_v vs 3) = w_ar ws (n_v vs 0) 160 := congrArg v_ad f35
  simp only [ad_9] at f6
  have h6 : v_iv (n_v vs 30) = w_ei ws (w_ar ws (n_v vs 0) 162) (v_iv (n_v vs 4)) := f6
  have g7 : v_iv (n_v vs 4) = w_fi ws (n_v vs 0) 158 := congrArg v_iv f7
  simp only [ad_9] at f17
  have h17 : v_iv (n_v vs 23) = w_ei ws (w_ar ws (n_v vs 0) 162) (v_iv (n_v vs 4)) := f17
  simp only [ad_9] at f26
  have h26 : v_iv (n_v vs 16) = w_ei ws (w_ar ws (n_v vs 0) 162) (v_iv (n_v vs 4)) := f26
  simp only [ad_9] at f30
  have h30 : v_iv (n_v vs 10) = w_ei ws (w_ar ws (n_v vs 0) 162) (v_iv (n_v vs 4)) := f30
  simp only [ad_7] at f31
  have h31 : v_iv (n_v vs 8) = w_ei ws (w_ar ws (n_v vs 0) 163) (v_iv (n_v vs 4)) := f31
  simp only [ad_3] at f34
  have h34 : v_iv (n_v vs 5) = w_ei ws (w_ar ws (n_v vs 0) 160) (v_iv (n_v vs 4)) := f34
  have g37 : v_iv (n_v vs 2) = w_fi ws (n_v vs 0) 8 := congrArg v_iv f37
  have hK_0_1 := elq_7 hD hth cr_0_1
  have hK_0_160 := elq_6 hD hth cr_0_160
  have hK_0_162 := elq_8 hD hth cr_0_162
  have hK_0_163 := elq_9 hD hth cr_0_163
  have kz_0_8 := fdq_34 hD hth r0
  have kz_0_10 := fdq_43 hD hth r0
  have kz_0_158 := fdq_36 hD hth r0
  have nf0 : fc_1 PRD (20, [34, 0], [50, 1, 1, 1158, 1160, 4, 6, 1, 2, 1, 0, 0, 1, 1, 6, 3, 1, 160, 2, 1, 158, 0, 1]) ws (vs) := ⟨nf_in hl rfl, sgq_287 (vc_Mo_word_at_s5027_9_0 (v_iv (n_v vs 2)) (v_iv (n_v vs 4)) (v_iv (n_v vs 5)) (v_iv (n_v vs 6)) (v_iv (n_v vs 8)) (v_iv (n_v vs 10)) (v_iv (n_v vs 11)) (v_iv (n_v vs 12)) (v_iv (n_v vs 14)) (v_iv (n_v vs 15)) (v_iv (n_v vs 16)) (v_iv (n_v vs 17)) (v_iv (n_v vs 18)) (v_iv (n_v vs 19)) (v_iv (n_v vs 21)) (v_iv (n_v vs 22)) (v_iv (n_v vs 23)) (v_iv (n_v vs 24)) (v_iv (n_v vs 25)) (v_iv (n_v vs 26)) (v_iv (n_v vs 28)) (v_iv (n_v vs 29)) (v_iv (n_v vs 30)) (v_iv (n_v vs 31)) (v_iv (n_v vs 32)) (v_iv (n_v vs 33)) (v_iv (n_v vs 34)) (w_ei ws (w_ar ws (n_v vs 0) 1)) (w_fi ws (n_v vs 0) 10) (w_ei ws (w_ar ws (n_v vs 0) 162)) (w_fi ws (n_v vs 0) 158) (w_ei ws (w_ar ws (n_v vs 0) 163)) (w_ei ws (w_ar ws (n_v vs 0) 160)) (w_fi ws (n_v vs 0) 8) k2 k4 k5 k6 k8 k10 k11 k12 k14 k15 k16 k17 k18 k19 k21 k22 k23 k24 k25 k26 k28 k29 k30 k31 k32 k33 k34 d0 d1 d2 d3 d4 d5 (shm_37 f0) (shm_79 f1) (shm_80 f2) (shm_541 f3) (shm_542 f4) (shm_12 f5) h6 g7 (shm_6 f9) (shm_4 f10) (shm_37 f11) (shm_65 f12) (shm_66 f13) (shm_541 f14) (shm_542 f15) (shm_12 f16) h17 (shm_6 f18) (shm_4 f19) (shm_37 f20) (shm_55 f21) (shm_56 f22) (shm_541 f23) (shm_542 f24) (shm_12 f25) h26 (shm_6 f27) (shm_37 f28) (shm_14 f29) h30 h31 (shm_37 f33) h34 (shm_192 f36) g37 hK_0_1 hK_0_160 hK_0_162 hK_0_163 kz_0_8 kz_0_10 kz_0_158)⟩
  have nf1 : fc_1 PRD (20, [0, 34], [60, 3, 4, 30, 8, 158, 10, 160, 162, 163, 1]) ws (vs) := ⟨nf_in hl rfl, sgq_1871 (vc_Mo_word_at_s5027_9_1 (v_iv (n_v vs 2)) (v_iv (n_v vs 4)) (v_iv (n_v vs 5)) (v_iv (n_v vs 8)) (v_iv (n_v vs 10)) (v_iv (n_v vs 11)) (v_iv (n_v vs 16)) (v_iv (n_v vs 17)) (v_iv (n_v vs 18)) (v_iv (n_v vs 19)) (v_iv (n_v vs 23)) (v_iv (n_v vs 24)) (v_iv (n_v vs 25)) (v_iv (n_v vs 26)) (v_iv (n_v vs 30)) (v_iv (n_v vs 31)) (v_iv (n_v vs 32)) (v_iv (n_v vs 33)) (v_iv (n_v vs 34)) (w_ei ws (w_ar ws (n_v vs 0) 1)) (w_fi ws (n_v vs 0) 10) (w_ei ws (w_ar ws (n_v vs 0) 162)) (w_fi ws (n_v vs 0) 158) (w_ei ws (w_ar ws (n_v vs 0) 163)) (w_ei ws (w_ar ws (n_v vs 0) 160)) (w_fi ws (n_v vs 0) 8) k2 k4 k5 k8 k10 k11 k16 k17 k18 k19 k23 k24 k25 k26 k30 k31 k32 k33 k34 d0 d1 d2 d3 d4 d5 (shm_79 f1) (shm_80 f2) (shm_541 f3) (shm_542 f4) h6 g7 (shm_65 f12) (shm_66 f13) (shm_541 f14) (shm_542 f15) h17 (shm_55 f21) (shm_56 f22) (shm_541 f23) (shm_542 f24) h26 (shm_14 f29) h30 h31 h34 g37 kz_0_8 kz_0_10 kz_0_158)⟩
  refine ⟨(fun _ h => (by cases h)), [], trivial, ?_, (fun _ h => (by cases h))⟩
  rw [List.append_nil]
  exact List.forall_mem_cons.mpr ⟨⟨show (20 : Nat) < 100 from by decide, nf0⟩, List.forall_mem_cons.mpr ⟨⟨show (20 : Nat) < 100 from by decide, nf1⟩, (fun _ h => (by cases h))⟩⟩
def n_Mo_word_at_s5027_an : List an_T := []
def t_Mo_word_at_s5027_ct : ct_L := [(1, 425, e_Mo_byteAt), (124, 448, e_jStr_length_v603), (172, 448, e_jStr_length_v603), (253, 453, e_jStr_charAt_v604), (253, 453, e_jStr_charAt_v606), (253, 453, e_jStr_charAt_v608)]
set_option maxRecDepth 100000 in
theorem c_Mo_word_at_s5027 {l : Launch} {D : va_G} {kA : Nat → ClassId} (h_Mo_byteAt : ct_ok PRD l D kA GG y_Mo_byteAt z_Mo_byteAt e_Mo_byteAt) : ct_ok PRD l D kA GG y_Mo_word_at_s5027 z_Mo_word_at_s5027 e_Mo_word_at_s5027 := chk_all_ok (FT := [(342, 13, 160), (348, 13, 162), (351, 13, 163), (413, 13, 8), (1169, 13, 158)]) (PT := []) (CT := t_Mo_word_at_s5027_ct) (KT := []) (NT := []) (AN := n_Mo_word_at_s5027_an) (OT := [o_Mo_word_at_s5027_0, o_Mo_word_at_s5027_1, o_Mo_word_at_s5027_2, o_Mo_word_at_s5027_3, o_Mo_word_at_s5027_4, o_Mo_word_at_s5027_5, o_Mo_word_at_s5027_6, o_Mo_word_at_s5027_7, o_Mo_word_at_s5027_8, o_Mo_word_at_s5027_9]) 0 892 (List.forall_mem_cons.mpr ⟨oo_Mo_word_at_s5027_0, List.forall_mem_cons.mpr ⟨oo_Mo_word_at_s5027_1, List.forall_mem_cons.mpr ⟨oo_Mo_word_at_s5027_2, List.forall_mem_cons.mpr ⟨oo_Mo_word_at_s5027_3, List.forall_mem_cons.mpr ⟨oo_Mo_word_at_s5027_4, List.forall_mem_cons.mpr ⟨oo_Mo_word_at_s5027_5, List.forall_mem_cons.mpr ⟨oo_Mo_word_at_s5027_6, List.forall_mem_cons.mpr ⟨oo_Mo_word_at_s5027_7, List.forall_mem_cons.mpr ⟨oo_Mo_word_at_s5027_8, List.forall_mem_cons.mpr ⟨oo_Mo_word_at_s5027_9, List.forall_mem_nil _⟩⟩⟩⟩⟩⟩⟩⟩⟩⟩) (by decide +kernel) ⟨List.forall_mem_cons.mpr ⟨gf_Mo_342, List.forall_mem_cons.mpr ⟨gf_Mo_348, List.forall_mem_cons.mpr ⟨gf_Mo_351, List.forall_mem_cons.mpr ⟨gf_Mo_413, List.forall_mem_cons.mpr ⟨gf_Mo_1169, List.forall_mem_nil _⟩⟩⟩⟩⟩, List.forall_mem_nil _, List.forall_mem_cons.mpr ⟨cl_virtual (y := y_Mo_byteAt) (ci := 13) rfl rfl ⟨_, _, rfl⟩ (by decide +kernel) h_Mo_byteAt wm_2986 wm_9 wm_2983 wm_2985 wv_12_12 ⟨by decide, by decide, by decide +kernel⟩ (by decide), List.forall_mem_cons.mpr ⟨cl_string (y := y_jStr_length) (i := 27) rfl rfl (by decide +kernel) rfl c_jStr_length_v603 wm_674 wm_11 wm_3003 wm_672 wm_673 ⟨by decide, by decide, by decide +kernel⟩ (by decide), List.forall_mem_cons.mpr ⟨cl_string (y := y_jStr_length) (i := 27) rfl rfl (by decide +kernel) rfl c_jStr_length_v603 wm_674 wm_11 wm_3003 wm_672 wm_673 ⟨by decide, by decide, by decide +kernel⟩ (by decide), List.forall_mem_cons.mpr ⟨cl_string (y := y_jStr_charAt) (i := 27) rfl rfl (by decide +kernel) rfl c_jStr_charAt_v604 wm_684 wm_11 wm_3004 wm_682 wm_683 ⟨by decide, by decide, by decide +kernel⟩ (by decide), List.forall_mem_cons.mpr ⟨cl_string (y := y_jStr_charAt) (i := 27) rfl rfl (by decide +kernel) rfl c_jStr_charAt_v606 wm_684 wm_11 wm_3004 wm_682 wm_683 ⟨by decide, by decide, by decide +kernel⟩ (by decide), List.forall_mem_cons.mpr ⟨cl_string (y := y_jStr_charAt) (i := 27) rfl rfl (by decide +kernel) rfl c_jStr_charAt_v608 wm_684 wm_11 wm_3004 wm_682 wm_683 ⟨by decide, by decide, by decide +kernel⟩ (by decide), List.forall_mem_nil _⟩⟩⟩⟩⟩⟩, List.forall_mem_nil _, List.forall_mem_nil _, GG_pl⟩ (by decide +kernel)

set_option maxHeartbeats 4000000 in
theorem vc_Mo_word_at_s5028_0_0 (x2 : Int) (x3 : Int) (fault_0 : Int) (tape_0 : Int → Int) (tokenKind_0 : Int → Int) (tokenPlace_0 : Int → Int) (tokenEnd_0 : Int → Int) (limit_0 : Int) (cur_0 : Int) (k2 : 1 ≤ x2 ∧ x2 ≤ 5) (k3 : 0 ≤ x3 ∧ x3 ≤ 0) (f0 : x3 = 0) (f1 : x2 ≠ 0) (g2 : x2 = fault_0) (hK_0_1 : ∀ j : Int, 0 ≤ j → j < 2000 → (-128) ≤ tape_0 j ∧ tape_0 j ≤ 127) (hK_0_160 : ∀ j : Int, 0 ≤ j → j < 2010 → 0 ≤ tokenKind_0 j ∧ tokenKind_0 j ≤ 4) (hK_0_162 : ∀ j : Int, 0 ≤ j → j < 2010 → 0 ≤ tokenPlace_0 j ∧ tokenPlace_0 j ≤ 2000) (hK_0_163 : ∀ j : Int, 0 ≤ j → j < 2010 → 0 ≤ tokenEnd_0 j ∧ tokenEnd_0 j ≤ 2000) (kz_0_8 : 0 ≤ fault_0 ∧ fault_0 ≤ 5) (kz_0_10 : 0 ≤ limit_0 ∧ limit_0 ≤ 2000) (kz_0_158 : 0 ≤ cur_0 ∧ cur_0 ≤ 2009) : (x3 = 1) → (tokenKind_0 (cur_0) = 1) := by
  first | assumption | (clear hK_0_1 hK_0_160 hK_0_162 hK_0_163; omega) | omega | grind
set_option maxHeartbeats 4000000 in
theorem vc_Mo_word_at_s5028_0_1 (x2 : Int) (x3 : Int) (fault_0 : Int) (tape_0 : Int → Int) (tokenKind_0 : Int → Int) (tokenPlace_0 : Int → Int) (tokenEnd_0 : Int → Int) (limit_0 : Int) (cur_0 : Int) (k2 : 1 ≤ x2 ∧ x2 ≤ 5) (k3 : 0 ≤ x3 ∧ x3 ≤ 0) (g2 : x2 = fault_0) (kz_0_8 : 0 ≤ fault_0 ∧ fault_0 ≤ 5) (kz_0_10 : 0 ≤ limit_0 ∧ limit_0 ≤ 2000) (kz_0_158 : 0 ≤ cur_0 ∧ cur_0 ≤ 2009) : Wqfar (fault_0) (cur_0) (limit_0) (tokenKind_0) (tokenPlace_0) (tokenEnd_0) (tape_0) (x3) := by
  first
    | exact ⟨fun z => by omega, fun z => by have := z.1; omega⟩
    | (have e := (‹x4 = cur_0›)
       rw [← e]
       refine ⟨fun z => ⟨by omega, wdS3.2 ⟨by omega, by omega, by omega, by rw [show tokenPlace_0 x4 + 0 = x17 by omega]; omega, by rw [show tokenPlace_0 x4 + 1 = x24 by omega]; omega, by rw [show tokenPlace_0 x4 + 2 = x31 by omega]; omega⟩⟩, fun z => by omega⟩)
    | (have e := (‹x4 = cur_0›)
       rw [← e]
       refine ⟨fun z => by omega, fun z => ?_⟩
       have w := wdS3.1 z.2
       try (have q0 : tokenPlace_0 x4 + 0 = x17 := (by omega); rw [q0] at w)
       try (have q1 : tokenPlace_0 x4 + 1 = x24 := (by omega); rw [q1] at w)
       try (have q2 : tokenPlace_0 x4 + 2 = x31 := (by omega); rw [q2] at w)
       omega)
  
def o_Mo_word_at_s5028_0 : or_T := (102, 6, [(0, (2, 0, 0, [165])), (2, (0, 1, 5, [])), (3, (0, 0, 0, []))], [(8, [3], [0]), (8, [2], [1]), (9, [2, 0], [8])], [], [], [(20, [3, 0], [50, 1, 1, 1158, 1160, 4, 6, 1, 2, 1, 0, 0, 1, 1, 6, 3, 1, 160, 2, 1, 158, 0, 1]), (20, [0, 3], [60, 3, 4, 33, 8, 158, 10, 160, 162, 163, 1])], [], [])
theorem oo_Mo_word_at_s5028_0 {kA : Nat → ClassId} : or_ok PRD kA GG o_Mo_word_at_s5028_0 := by
  refine or_mk fun A ta ws vs hD hth hl => ?_
  intro t0 r0 t2 k2 t3 k3 f0 f1 f2
  replace f2 := shm_293 f2
  have cr_0_1 := fdq_39 hD hth r0
  have cr_0_160 := fdq_33 hD hth r0
  have cr_0_162 := fdq_41 hD hth r0
  have cr_0_163 := fdq_42 hD hth r0
  have g2 : v_iv (n_v vs 2) = w_fi ws (n_v vs 0) 8 := congrArg v_iv f2
  have hK_0_1 := elq_7 hD hth cr_0_1
  have hK_0_160 := elq_6 hD hth cr_0_160
  have hK_0_162 := elq_8 hD hth cr_0_162
  have hK_0_163 := elq_9 hD hth cr_0_163
  have kz_0_8 := fdq_34 hD hth r0
  have kz_0_10 := fdq_43 hD hth r0
  have kz_0_158 := fdq_36 hD hth r0
  have nf0 : fc_1 PRD (20, [3, 0], [50, 1, 1, 1158, 1160, 4, 6, 1, 2, 1, 0, 0, 1, 1, 6, 3, 1, 160, 2, 1, 158, 0, 1]) ws (vs) := ⟨nf_in hl rfl, sgq_287 (vc_Mo_word_at_s5028_0_0 (v_iv (n_v vs 2)) (v_iv (n_v vs 3)) (w_fi ws (n_v vs 0) 8) (w_ei ws (w_ar ws (n_v vs 0) 1)) (w_ei ws (w_ar ws (n_v vs 0) 160)) (w_ei ws (w_ar ws (n_v vs 0) 162)) (w_ei ws (w_ar ws (n_v vs 0) 163)) (w_fi ws (n_v vs 0) 10) (w_fi ws (n_v vs 0) 158) k2 k3 (shm_192 f0) (shm_142 f1) g2 hK_0_1 hK_0_160 hK_0_162 hK_0_163 kz_0_8 kz_0_10 kz_0_158)⟩
  have nf1 : fc_1 PRD (20, [0, 3], [60, 3, 4, 33, 8, 158, 10, 160, 162, 163, 1]) ws (vs) := ⟨nf_in hl rfl, sgq_1872 (vc_Mo_word_at_s5028_0_1 (v_iv (n_v vs 2)) (v_iv (n_v vs 3)) (w_fi ws (n_v vs 0) 8) (w_ei ws (w_ar ws (n_v vs 0) 1)) (w_ei ws (w_ar ws (n_v vs 0) 160)) (w_ei ws (w_ar ws (n_v vs 0) 162)) (w_ei ws (w_ar ws (n_v vs 0) 163)) (w_fi ws (n_v vs 0) 10) (w_fi ws (n_v vs 0) 158) k2 k3 g2 kz_0_8 kz_0_10 kz_0_158)⟩
  refine ⟨(fun _ h => (by cases h)), [], trivial, ?_, (fun _ h => (by cases h))⟩
  rw [List.append_nil]
  exact List.forall_mem_cons.mpr ⟨⟨show (20 : Nat) < 100 from by decide, nf0⟩, List.forall_mem_cons.mpr ⟨⟨show (20 : Nat) < 100 from by decide, nf1⟩, (fun _ h => (by cases h))⟩⟩
set_option maxHeartbeats 4000000 in
theorem vc_Mo_word_at_s5028_1_0 (x2 : Int) (x4 : Int) (x5 : Int) (x6 : Int) (x7 : Int) (tokenKind_0 : Int → Int) (cur_0 : Int) (fault_0 : Int) (tape_0 : Int → Int) (tokenPlace_0 : Int → Int) (tokenEnd_0 : Int → Int) (limit_0 : Int) (k2 : 0 ≤ x2 ∧ x2 ≤ 0) (k4 : 0 ≤ x4 ∧ x4 ≤ 2009) (k5 : 0 ≤ x5 ∧ x5 ≤ 4) (k6 : 1 ≤ x6 ∧ x6 ≤ 1) (k7 : 0 ≤ x7 ∧ x7 ≤ 0) (f0 : x7 = 0) (f1 : x5 ≠ x6) (h2 : x5 = tokenKind_0 (x4)) (g3 : x4 = cur_0) (f5 : x2 = 0) (g6 : x2 = fault_0) (hK_0_1 : ∀ j : Int, 0 ≤ j → j < 2000 → (-128) ≤ tape_0 j ∧ tape_0 j ≤ 127) (hK_0_160 : ∀ j : Int, 0 ≤ j → j < 2010 → 0 ≤ tokenKind_0 j ∧ tokenKind_0 j ≤ 4) (hK_0_162 : ∀ j : Int, 0 ≤ j → j < 2010 → 0 ≤ tokenPlace_0 j ∧ tokenPlace_0 j ≤ 2000) (hK_0_163 : ∀ j : Int, 0 ≤ j → j < 2010 → 0 ≤ tokenEnd_0 j ∧ tokenEnd_0 j ≤ 2000) (kz_0_8 : 0 ≤ fault_0 ∧ fault_0 ≤ 5) (kz_0_10 : 0 ≤ limit_0 ∧ limit_0 ≤ 2000) (kz_0_158 : 0 ≤ cur_0 ∧ cur_0 ≤ 2009) : (x7 = 1) → (tokenKind_0 (cur_0) = 1) := by
  first | assumption | (clear hK_0_1 hK_0_160 hK_0_162 hK_0_163; omega) | omega | grind
set_option maxHeartbeats 4000000 in
theorem vc_Mo_word_at_s5028_1_1 (x4 : Int) (x5 : Int) (x6 : Int) (x7 : Int) (tokenKind_0 : Int → Int) (cur_0 : Int) (fault_0 : Int) (tape_0 : Int → Int) (tokenPlace_0 : Int → Int) (tokenEnd_0 : Int → Int) (limit_0 : Int) (k4 : 0 ≤ x4 ∧ x4 ≤ 2009) (k5 : 0 ≤ x5 ∧ x5 ≤ 4) (k6 : 1 ≤ x6 ∧ x6 ≤ 1) (k7 : 0 ≤ x7 ∧ x7 ≤ 0) (f1 : x5 ≠ x6) (h2 : x5 = tokenKind_0 (x4)) (g3 : x4 = cur_0) (kz_0_8 : 0 ≤ fault_0 ∧ fault_0 ≤ 5) (kz_0_10 : 0 ≤ limit_0 ∧ limit_0 ≤ 2000) (kz_0_158 : 0 ≤ cur_0 ∧ cur_0 ≤ 2009) : Wqfar (fault_0) (cur_0) (limit_0) (tokenKind_0) (tokenPlace_0) (tokenEnd_0) (tape_0) (x7) := by
  first
    | exact ⟨fun z => by omega, fun z => by have := z.1; omega⟩
    | (have e := (‹x4 = cur_0›)
       rw [← e]
       refine ⟨fun z => ⟨by omega, wdS3.2 ⟨by omega, by omega, by omega, by rw [show tokenPlace_0 x4 + 0 = x17 by omega]; omega, by rw [show tokenPlace_0 x4 + 1 = x24 by omega]; omega, by rw [show tokenPlace_0 x4 + 2 = x31 by omega]; omega⟩⟩, fun z => by omega⟩)
    | (have e := (‹x4 = cur_0›)
       rw [← e]
       refine ⟨fun z => by omega, fun z => ?_⟩
       have w := wdS3.1 z.2
       try (have q0 : tokenPlace_0 x4 + 0 = x17 := (by omega); rw [q0] at w)
       try (have q1 : tokenPlace_0 x4 + 1 = x24 := (by omega); rw [q1] at w)
       try (have q2 : tokenPlace_0 x4 + 2 = x31 := (by omega); rw [q2] at w)
       omega)
  
def o_Mo_word_at_s5028_1 : or_T := (102, 10, [(0, (2, 0, 0, [165])), (2, (0, 0, 0, [])), (4, (0, 0, 2009, [])), (5, (0, 0, 4, [])), (6, (0, 1, 1, [])), (7, (0, 0, 0, []))], [(8, [7], [0]), (7, [5, 6], [1]), (10, [5, 3, 4], []), (9, [4, 0], [158]), (9, [3, 0], [160]), (8, [2], [0]), (9, [2, 0], [8])], [], [], [(20, [7, 0], [50, 1, 1, 1158, 1160, 4, 6, 1, 2, 1, 0, 0, 1, 1, 6, 3, 1, 160, 2, 1, 158, 0, 1]), (20, [0, 7], [60, 3, 4, 33, 8, 158, 10, 160, 162, 163, 1])], [], [])
theorem oo_Mo_word_at_s5028_1 {kA : Nat → ClassId} : or_ok PRD kA GG o_Mo_word_at_s5028_1 := by
  refine or_mk fun A ta ws vs hD hth hl => ?_
  intro t0 r0 t2 k2 t4 k4 t5 k5 t6 k6 t7 k7 f0 f1 f2 f3 f4 f5 f6
  replace f2 := shm_107 f2
  replace f3 := shm_286 f3
  replace f4 := shm_327 f4
  replace f6 := shm_293 f6
  have cr_0_1 := fdq_39 hD hth r0
  have cr_0_160 := fdq_33 hD hth r0
  have cr_0_162 := fdq_41 hD hth r0
  have cr_0_163 := fdq_42 hD hth r0
  have ad_3 : v_ad (n_v vs 3) = w_ar ws (n_v vs 0) 160 := congrArg v_ad f4
  simp only [ad_3] at f2
  have h2 : v_iv (n_v vs 5) = w_ei ws (w_ar ws (n_v vs 0) 160) (v_iv (n_v vs 4)) := f2
  have g3 : v_iv (n_v vs 4) = w_fi ws (n_v vs 0) 158 := congrArg v_iv f3
  have g6 : v_iv (n_v vs 2) = w_fi ws (n_v vs 0) 8 := congrArg v_iv f6
  have hK_0_1 := elq_7 hD hth cr_0_1
  have hK_0_160 := elq_6 hD hth cr_0_160
  have hK_0_162 := elq_8 hD hth cr_0_162
  have hK_0_163 := elq_9 hD hth cr_0_163
  have kz_0_8 := fdq_34 hD hth r0
  have kz_0_10 := fdq_43 hD hth r0
  have kz_0_158 := fdq_36 hD hth r0
  have nf0 : fc_1 PRD (20, [7, 0], [50, 1, 1, 1158, 1160, 4, 6, 1, 2, 1, 0, 0, 1, 1, 6, 3, 1, 160, 2, 1, 158, 0, 1]) ws (vs) := ⟨nf_in hl rfl, sgq_287 (vc_Mo_word_at_s5028_1_0 (v_iv (n_v vs 2)) (v_iv (n_v vs 4)) (v_iv (n_v vs 5)) (v_iv (n_v vs 6)) (v_iv (n_v vs 7)) (w_ei ws (w_ar ws (n_v vs 0) 160)) (w_fi ws (n_v vs 0) 158) (w_fi ws (n_v vs 0) 8) (w_ei ws (w_ar ws (n_v vs 0) 1)) (w_ei ws (w_ar ws (n_v vs 0) 162)) (w_ei ws (w_ar ws (n_v vs 0) 163)) (w_fi ws (n_v vs 0) 10) k2 k4 k5 k6 k7 (shm_192 f0) (shm_40 f1) h2 g3 (shm_192 f5) g6 hK_0_1 hK_0_160 hK_0_162 hK_0_163 kz_0_8 kz_0_10 kz_0_158)⟩
  have nf1 : fc_1 PRD (20, [0, 7], [60, 3, 4, 33, 8, 158, 10, 160, 162, 163, 1]) ws (vs) := ⟨nf_in hl rfl, sgq_1872 (vc_Mo_word_at_s5028_1_1 (v_iv (n_v vs 4)) (v_iv (n_v vs 5)) (v_iv (n_v vs 6)) (v_iv (n_v vs 7)) (w_ei ws (w_ar ws (n_v vs 0) 160)) (w_fi ws (n_v vs 0) 158) (w_fi ws (n_v vs 0) 8) (w_ei ws (w_ar ws (n_v vs 0) 1)) (w_ei ws (w_ar ws (n_v vs 0) 162)) (w_ei ws (w_ar ws (n_v vs 0) 163)) (w_fi ws (n_v vs 0) 10) k4 k5 k6 k7 (shm_40 f1) h2 g3 kz_0_8 kz_0_10 kz_0_158)⟩
  refine ⟨(fun _ h => (by cases h)), [], trivial, ?_, (fun _ h => (by cases h))⟩
  rw [List.append_nil]
  exact List.forall_mem_cons.mpr ⟨⟨show (20 : Nat) < 100 from by decide, nf0⟩, List.forall_mem_cons.mpr ⟨⟨show (20 : Nat) < 100 from by decide, nf1⟩, (fun _ h => (by cases h))⟩⟩
set_option maxHeartbeats 4000000 in
theorem vc_Mo_word_at_s5028_2_0 (x2 : Int) (x4 : Int) (x5 : Int) (x6 : Int) (x8 : Int) (x10 : Int) (x11 : Int) (x12 : Int) (x13 : Int) (tokenPlace_0 : Int → Int) (cur_0 : Int) (tokenEnd_0 : Int → Int) (tokenKind_0 : Int → Int) (fault_0 : Int) (tape_0 : Int → Int) (limit_0 : Int) (k2 : 0 ≤ x2 ∧ x2 ≤ 0) (k4 : 0 ≤ x4 ∧ x4 ≤ 2009) (k5 : 1 ≤ x5 ∧ x5 ≤ 1) (k6 : 1 ≤ x6 ∧ x6 ≤ 1) (k8 : 0 ≤ x8 ∧ x8 ≤ 2000) (k10 : 0 ≤ x10 ∧ x10 ≤ 2000) (k11 : (-2000) ≤ x11 ∧ x11 ≤ 2000) (k12 : 3 ≤ x12 ∧ x12 ≤ 3) (k13 : 0 ≤ x13 ∧ x13 ≤ 0) (d0 : x8 + (-2000) ≤ x11 ∧ x11 ≤ x8 + 0) (f0 : x13 = 0) (f1 : x11 ≠ x12) (f2 : x11 = x8 - x10) (h3 : x10 = tokenPlace_0 (x4)) (g4 : x4 = cur_0) (h6 : x8 = tokenEnd_0 (x4)) (f8 : x5 = x6) (h9 : x5 = tokenKind_0 (x4)) (f11 : x2 = 0) (g12 : x2 = fault_0) (hK_0_1 : ∀ j : Int, 0 ≤ j → j < 2000 → (-128) ≤ tape_0 j ∧ tape_0 j ≤ 127) (hK_0_160 : ∀ j : Int, 0 ≤ j → j < 2010 → 0 ≤ tokenKind_0 j ∧ tokenKind_0 j ≤ 4) (hK_0_162 : ∀ j : Int, 0 ≤ j → j < 2010 → 0 ≤ tokenPlace_0 j ∧ tokenPlace_0 j ≤ 2000) (hK_0_163 : ∀ j : Int, 0 ≤ j → j < 2010 → 0 ≤ tokenEnd_0 j ∧ tokenEnd_0 j ≤ 2000) (kz_0_8 : 0 ≤ fault_0 ∧ fault_0 ≤ 5) (kz_0_10 : 0 ≤ limit_0 ∧ limit_0 ≤ 2000) (kz_0_158 : 0 ≤ cur_0 ∧ cur_0 ≤ 2009) : (x13 = 1) → (tokenKind_0 (cur_0) = 1) := by
  first | assumption | (clear hK_0_1 hK_0_160 hK_0_162 hK_0_163; omega) | omega | grind
set_option maxHeartbeats 4000000 in
theorem vc_Mo_word_at_s5028_2_1 (x4 : Int) (x8 : Int) (x10 : Int) (x11 : Int) (x12 : Int) (x13 : Int) (tokenPlace_0 : Int → Int) (cur_0 : Int) (tokenEnd_0 : Int → Int) (tokenKind_0 : Int → Int) (fault_0 : Int) (tape_0 : Int → Int) (limit_0 : Int) (k4 : 0 ≤ x4 ∧ x4 ≤ 2009) (k8 : 0 ≤ x8 ∧ x8 ≤ 2000) (k10 : 0 ≤ x10 ∧ x10 ≤ 2000) (k11 : (-2000) ≤ x11 ∧ x11 ≤ 2000) (k12 : 3 ≤ x12 ∧ x12 ≤ 3) (k13 : 0 ≤ x13 ∧ x13 ≤ 0) (f1 : x11 ≠ x12) (f2 : x11 = x8 - x10) (h3 : x10 = tokenPlace_0 (x4)) (g4 : x4 = cur_0) (h6 : x8 = tokenEnd_0 (x4)) (kz_0_8 : 0 ≤ fault_0 ∧ fault_0 ≤ 5) (kz_0_10 : 0 ≤ limit_0 ∧ limit_0 ≤ 2000) (kz_0_158 : 0 ≤ cur_0 ∧ cur_0 ≤ 2009) : Wqfar (fault_0) (cur_0) (limit_0) (tokenKind_0) (tokenPlace_0) (tokenEnd_0) (tape_0) (x13) := by
  first
    | exact ⟨fun z => by omega, fun z => by have := z.1; omega⟩
    | (have e := (‹x4 = cur_0›)
       rw [← e]
       refine ⟨fun z => ⟨by omega, wdS3.2 ⟨by omega, by omega, by omega, by rw [show tokenPlace_0 x4 + 0 = x17 by omega]; omega, by rw [show tokenPlace_0 x4 + 1 = x24 by omega]; omega, by rw [show tokenPlace_0 x4 + 2 = x31 by omega]; omega⟩⟩, fun z => by omega⟩)
    | (have e := (‹x4 = cur_0›)
       rw [← e]
       refine ⟨fun z => by omega, fun z => ?_⟩
       have w := wdS3.1 z.2
       try (have q0 : tokenPlace_0 x4 + 0 = x17 := (by omega); rw [q0] at w)
       try (have q1 : tokenPlace_0 x4 + 1 = x24 := (by omega); rw [q1] at w)
       try (have q2 : tokenPlace_0 x4 + 2 = x31 := (by omega); rw [q2] at w)
       omega)
  
def o_Mo_word_at_s5028_2 : or_T := (102, 16, [(0, (2, 0, 0, [165])), (2, (0, 0, 0, [])), (4, (0, 0, 2009, [])), (5, (0, 1, 1, [])), (6, (0, 1, 1, [])), (8, (0, 0, 2000, [])), (10, (0, 0, 2000, [])), (11, (0, -2000, 2000, [])), (12, (0, 3, 3, [])), (13, (0, 0, 0, []))], [(8, [13], [0]), (7, [11, 12], [1]), (2, [11, 8, 10], []), (10, [10, 9, 4], []), (9, [4, 0], [158]), (9, [9, 0], [162]), (10, [8, 7, 4], []), (9, [7, 0], [163]), (7, [5, 6], [0]), (10, [5, 3, 4], []), (9, [3, 0], [160]), (8, [2], [0]), (9, [2, 0], [8])], [], [], [(20, [13, 0], [50, 1, 1, 1158, 1160, 4, 6, 1, 2, 1, 0, 0, 1, 1, 6, 3, 1, 160, 2, 1, 158, 0, 1]), (20, [0, 13], [60, 3, 4, 33, 8, 158, 10, 160, 162, 163, 1])], [], [(11, 8, -2000, 0)])
theorem oo_Mo_word_at_s5028_2 {kA : Nat → ClassId} : or_ok PRD kA GG o_Mo_word_at_s5028_2 := by
  refine or_mk fun A ta ws vs hD hth hl => ?_
  intro t0 r0 t2 k2 t4 k4 t5 k5 t6 k6 t8 k8 t10 k10 t11 k11 t12 k12 t13 k13 d0 f0 f1 f2 f3 f4 f5 f6 f7 f8 f9 f10 f11 f12
  replace f3 := shm_107 f3
  replace f4 := shm_286 f4
  replace f5 := shm_301 f5
  replace f6 := shm_107 f6
  replace f7 := shm_1332 f7
  replace f9 := shm_107 f9
  replace f10 := shm_327 f10
  replace f12 := shm_293 f12
  have cr_0_1 := fdq_39 hD hth r0
  have cr_0_160 := fdq_33 hD hth r0
  have cr_0_162 := fdq_41 hD hth r0
  have cr_0_163 := fdq_42 hD hth r0
  have ad_9 : v_ad (n_v vs 9) = w_ar ws (n_v vs 0) 162 := congrArg v_ad f5
  have ad_7 : v_ad (n_v vs 7) = w_ar ws (n_v vs 0) 163 := congrArg v_ad f7
  have ad_3 : v_ad (n_v vs 3) = w_ar ws (n_v vs 0) 160 := congrArg v_ad f10
  simp only [ad_9] at f3
  have h3 : v_iv (n_v vs 10) = w_ei ws (w_ar ws (n_v vs 0) 162) (v_iv (n_v vs 4)) := f3
  have g4 : v_iv (n_v vs 4) = w_fi ws (n_v vs 0) 158 := congrArg v_iv f4
  simp only [ad_7] at f6
  have h6 : v_iv (n_v vs 8) = w_ei ws (w_ar ws (n_v vs 0) 163) (v_iv (n_v vs 4)) := f6
  simp only [ad_3] at f9
  have h9 : v_iv (n_v vs 5) = w_ei ws (w_ar ws (n_v vs 0) 160) (v_iv (n_v vs 4)) := f9
  have g12 : v_iv (n_v vs 2) = w_fi ws (n_v vs 0) 8 := congrArg v_iv f12
  have hK_0_1 := elq_7 hD hth cr_0_1
  have hK_0_160 := elq_6 hD hth cr_0_160
  have hK_0_162 := elq_8 hD hth cr_0_162
  have hK_0_163 := elq_9 hD hth cr_0_163
  have kz_0_8 := fdq_34 hD hth r0
  have kz_0_10 := fdq_43 hD hth r0
  have kz_0_158 := fdq_36 hD hth r0
  have nf0 : fc_1 PRD (20, [13, 0], [50, 1, 1, 1158, 1160, 4, 6, 1, 2, 1, 0, 0, 1, 1, 6, 3, 1, 160, 2, 1, 158, 0, 1]) ws (vs) := ⟨nf_in hl rfl, sgq_287 (vc_Mo_word_at_s5028_2_0 (v_iv (n_v vs 2)) (v_iv (n_v vs 4)) (v_iv (n_v vs 5)) (v_iv (n_v vs 6)) (v_iv (n_v vs 8)) (v_iv (n_v vs 10)) (v_iv (n_v vs 11)) (v_iv (n_v vs 12)) (v_iv (n_v vs 13)) (w_ei ws (w_ar ws (n_v vs 0) 162)) (w_fi ws (n_v vs 0) 158) (w_ei ws (w_ar ws (n_v vs 0) 163)) (w_ei ws (w_ar ws (n_v vs 0) 160)) (w_fi ws (n_v vs 0) 8) (w_ei ws (w_ar ws (n_v vs 0) 1)) (w_fi ws (n_v vs 0) 10) k2 k4 k5 k6 k8 k10 k11 k12 k13 d0 (shm_192 f0) (shm_40 f1) (shm_14 f2) h3 g4 h6 (shm_37 f8) h9 (shm_192 f11) g12 hK_0_1 hK_0_160 hK_0_162 hK_0_163 kz_0_8 kz_0_10 kz_0_158)⟩
  have nf1 : fc_1 PRD (20, [0, 13], [60, 3, 4, 33, 8, 158, 10, 160, 162, 163, 1]) ws (vs) := ⟨nf_in hl rfl, sgq_1872 (vc_Mo_word_at_s5028_2_1 (v_iv (n_v vs 4)) (v_iv (n_v vs 8)) (v_iv (n_v vs 10)) (v_iv (n_v vs 11)) (v_iv (n_v vs 12)) (v_iv (n_v vs 13)) (w_ei ws (w_ar ws (n_v vs 0) 162)) (w_fi ws (n_v vs 0) 158) (w_ei ws (w_ar ws (n_v vs 0) 163)) (w_ei ws (w_ar ws (n_v vs 0) 160)) (w_fi ws (n_v vs 0) 8) (w_ei ws (w_ar ws (n_v vs 0) 1)) (w_fi ws (n_v vs 0) 10) k4 k8 k10 k11 k12 k13 (shm_40 f1) (shm_14 f2) h3 g4 h6 kz_0_8 kz_0_10 kz_0_158)⟩
  refine ⟨(fun _ h => (by cases h)), [], trivial, ?_, (fun _ h => (by cases h))⟩
  rw [List.append_nil]
  exact List.forall_mem_cons.mpr ⟨⟨show (20 : Nat) < 100 from by decide, nf0⟩, List.forall_mem_cons.mpr ⟨⟨show (20 : Nat) < 100 from by decide, nf1⟩, (fun _ h => (by cases h))⟩⟩
set_option maxHeartbeats 4000000 in
theorem vc_Mo_word_at_s5028_3_0 (x2 : Int) (x4 : Int) (x5 : Int) (x6 : Int) (x8 : Int) (x10 : Int) (x11 : Int) (x12 : Int) (x14 : Int) (x15 : Int) (x16 : Int) (x17 : Int) (x18 : Int) (x19 : Int) (x20 : Int) (tape_0 : Int → Int) (limit_0 : Int) (tokenPlace_0 : Int → Int) (cur_0 : Int) (tokenEnd_0 : Int → Int) (tokenKind_0 : Int → Int) (fault_0 : Int) (k2 : 0 ≤ x2 ∧ x2 ≤ 0) (k4 : 0 ≤ x4 ∧ x4 ≤ 2009) (k5 : 1 ≤ x5 ∧ x5 ≤ 1) (k6 : 1 ≤ x6 ∧ x6 ≤ 1) (k8 : 3 ≤ x8 ∧ x8 ≤ 2000) (k10 : 0 ≤ x10 ∧ x10 ≤ 2000) (k11 : 3 ≤ x11 ∧ x11 ≤ 3) (k12 : 3 ≤ x12 ∧ x12 ≤ 3) (k14 : 0 ≤ x14 ∧ x14 ≤ 0) (k15 : 3 ≤ x15 ∧ x15 ≤ 3) (k16 : 0 ≤ x16 ∧ x16 ≤ 2000) (k17 : 0 ≤ x17 ∧ x17 ≤ 2000) (k18 : (-1) ≤ x18 ∧ x18 ≤ (-1)) (k19 : 0 ≤ x19 ∧ x19 ≤ 65535) (k20 : 0 ≤ x20 ∧ x20 ≤ 0) (d0 : x16 + 0 ≤ x17 ∧ x17 ≤ x16 + 0) (f0 : x20 = 0) (f1 : x18 ≠ x19) (f2 : 1 * x19 + 0 ≤ 102) (f3 : (-1) * x19 + 0 ≤ (-102)) (f4 : ((x17 + 1) ≤ limit_0) → (x18 = (tape_0 (x17) % 256))) (f5 : (limit_0 ≤ x17) → (x18 = (-1))) (f6 : x17 = x16 + x14) (h7 : x16 = tokenPlace_0 (x4)) (g8 : x4 = cur_0) (f10 : x14 < x15) (f11 : x11 = x12) (f12 : x11 = x8 - x10) (h13 : x10 = tokenPlace_0 (x4)) (h14 : x8 = tokenEnd_0 (x4)) (f16 : x5 = x6) (h17 : x5 = tokenKind_0 (x4)) (f19 : x2 = 0) (g20 : x2 = fault_0) (hK_0_1 : ∀ j : Int, 0 ≤ j → j < 2000 → (-128) ≤ tape_0 j ∧ tape_0 j ≤ 127) (hK_0_160 : ∀ j : Int, 0 ≤ j → j < 2010 → 0 ≤ tokenKind_0 j ∧ tokenKind_0 j ≤ 4) (hK_0_162 : ∀ j : Int, 0 ≤ j → j < 2010 → 0 ≤ tokenPlace_0 j ∧ tokenPlace_0 j ≤ 2000) (hK_0_163 : ∀ j : Int, 0 ≤ j → j < 2010 → 0 ≤ tokenEnd_0 j ∧ tokenEnd_0 j ≤ 2000) (kz_0_8 : 0 ≤ fault_0 ∧ fault_0 ≤ 5) (kz_0_10 : 0 ≤ limit_0 ∧ limit_0 ≤ 2000) (kz_0_158 : 0 ≤ cur_0 ∧ cur_0 ≤ 2009) : (x20 = 1) → (tokenKind_0 (cur_0) = 1) := by
  first | assumption | (clear f4 f5 hK_0_1 hK_0_160 hK_0_162 hK_0_163; omega) | (clear hK_0_1 hK_0_160 hK_0_162 hK_0_163; grind) | omega | grind
set_option maxHeartbeats 4000000 in
theorem vc_Mo_word_at_s5028_3_1 (x4 : Int) (x8 : Int) (x10 : Int) (x11 : Int) (x16 : Int) (x17 : Int) (x18 : Int) (x20 : Int) (tape_0 : Int → Int) (limit_0 : Int) (tokenPlace_0 : Int → Int) (cur_0 : Int) (tokenEnd_0 : Int → Int) (tokenKind_0 : Int → Int) (fault_0 : Int) (k4 : 0 ≤ x4 ∧ x4 ≤ 2009) (k8 : 3 ≤ x8 ∧ x8 ≤ 2000) (k10 : 0 ≤ x10 ∧ x10 ≤ 2000) (k11 : 3 ≤ x11 ∧ x11 ≤ 3) (k16 : 0 ≤ x16 ∧ x16 ≤ 2000) (k17 : 0 ≤ x17 ∧ x17 ≤ 2000) (k18 : (-1) ≤ x18 ∧ x18 ≤ (-1)) (k20 : 0 ≤ x20 ∧ x20 ≤ 0) (d0 : x16 + 0 ≤ x17 ∧ x17 ≤ x16 + 0) (f4 : ((x17 + 1) ≤ limit_0) → (x18 = (tape_0 (x17) % 256))) (f5 : (limit_0 ≤ x17) → (x18 = (-1))) (h7 : x16 = tokenPlace_0 (x4)) (g8 : x4 = cur_0) (f12 : x11 = x8 - x10) (h13 : x10 = tokenPlace_0 (x4)) (h14 : x8 = tokenEnd_0 (x4)) (kz_0_8 : 0 ≤ fault_0 ∧ fault_0 ≤ 5) (kz_0_10 : 0 ≤ limit_0 ∧ limit_0 ≤ 2000) (kz_0_158 : 0 ≤ cur_0 ∧ cur_0 ≤ 2009) : Wqfar (fault_0) (cur_0) (limit_0) (tokenKind_0) (tokenPlace_0) (tokenEnd_0) (tape_0) (x20) := by
  first
    | exact ⟨fun z => by omega, fun z => by have := z.1; omega⟩
    | (have e := (‹x4 = cur_0›)
       rw [← e]
       refine ⟨fun z => ⟨by omega, wdS3.2 ⟨by omega, by omega, by omega, by rw [show tokenPlace_0 x4 + 0 = x17 by omega]; omega, by rw [show tokenPlace_0 x4 + 1 = x24 by omega]; omega, by rw [show tokenPlace_0 x4 + 2 = x31 by omega]; omega⟩⟩, fun z => by omega⟩)
    | (have e := (‹x4 = cur_0›)
       rw [← e]
       refine ⟨fun z => by omega, fun z => ?_⟩
       have w := wdS3.1 z.2
       try (have q0 : tokenPlace_0 x4 + 0 = x17 := (by omega); rw [q0] at w)
       try (have q1 : tokenPlace_0 x4 + 1 = x24 := (by omega); rw [q1] at w)
       try (have q2 : tokenPlace_0 x4 + 2 = x31 := (by omega); rw [q2] at w)
       omega)
  
def o_Mo_word_at_s5028_3 : or_T := (102, 23, [(0, (2, 0, 0, [165])), (2, (0, 0, 0, [])), (3, (2, 0, 0, [274])), (4, (0, 0, 2009, [])), (5, (0, 1, 1, [])), (6, (0, 1, 1, [])), (7, (2, 0, 0, [277])), (8, (0, 3, 2000, [])), (9, (2, 0, 0, [276])), (10, (0, 0, 2000, [])), (11, (0, 3, 3, [])), (12, (0, 3, 3, [])), (14, (0, 0, 0, [])), (15, (0, 3, 3, [])), (16, (0, 0, 2000, [])), (17, (0, 0, 2000, [])), (18, (0, -1, -1, [])), (19, (0, 0, 65535, [])), (20, (0, 0, 0, []))], [(8, [20], [0]), (7, [18, 19], [1]), (23, [19], [102, 1]), (23, [19], [-102, -1]), (20, [17, 0, 18], [50, 1, 1, 1010, 1001, 4, 11, 0, 6, 4, 2, 1, 0, 0, 1, 2, 1, 10, 1, 2, 1, 2, 9, 5, 3, 1, 1, 1, 0, 0, 256]), (20, [0, 17, 18], [50, 1, 0, 10, 4, 7, 0, 3, 2, 0, 10, 1, 1, 1, 2, 1, 2, 0, -1]), (1, [17, 16, 14], []), (10, [16, 9, 4], []), (9, [4, 0], [158]), (9, [9, 0], [162]), (7, [14, 15], [2]), (7, [11, 12], [0]), (2, [11, 8, 10], []), (10, [10, 9, 4], []), (10, [8, 7, 4], []), (9, [7, 0], [163]), (7, [5, 6], [0]), (10, [5, 3, 4], []), (9, [3, 0], [160]), (8, [2], [0]), (9, [2, 0], [8])], [], [], [(20, [20, 0], [50, 1, 1, 1158, 1160, 4, 6, 1, 2, 1, 0, 0, 1, 1, 6, 3, 1, 160, 2, 1, 158, 0, 1]), (20, [0, 20], [60, 3, 4, 33, 8, 158, 10, 160, 162, 163, 1])], [], [(17, 16, 0, 0)])
theorem oo_Mo_word_at_s5028_3 {kA : Nat → ClassId} : or_ok PRD kA GG o_Mo_word_at_s5028_3 := by
  refine or_mk fun A ta ws vs hD hth hl => ?_
  intro t0 r0 t2 k2 t3 r3 t4 k4 t5 k5 t6 k6 t7 r7 t8 k8 t9 r9 t10 k10 t11 k11 t12 k12 t14 k14 t15 k15 t16 k16 t17 k17 t18 k18 t19 k19 t20 k20 d0 f0 f1 f2 f3 f4 f5 f6 f7 f8 f9 f10 f11 f12 f13 f14 f15 f16 f17 f18 f19 f20
  replace f7 := shm_107 f7
  replace f8 := shm_286 f8
  replace f9 := shm_301 f9
  replace f13 := shm_107 f13
  replace f14 := shm_107 f14
  replace f15 := shm_1332 f15
  replace f17 := shm_107 f17
  replace f18 := shm_327 f18
  replace f20 := shm_293 f20
  have cr_0_1 := fdq_39 hD hth r0
  have cr_0_160 := fdq_33 hD hth r0
  have cr_0_162 := fdq_41 hD hth r0
  have cr_0_163 := fdq_42 hD hth r0
  have ad_9 : v_ad (n_v vs 9) = w_ar ws (n_v vs 0) 162 := congrArg v_ad f9
  have ad_7 : v_ad (n_v vs 7) = w_ar ws (n_v vs 0) 163 := congrArg v_ad f15
  have ad_3 : v_ad (n_v vs 3) = w_ar ws (n_v vs 0) 160 := congrArg v_ad f18
  simp only [ad_9] at f7
  have h7 : v_iv (n_v vs 16) = w_ei ws (w_ar ws (n_v vs 0) 162) (v_iv (n_v vs 4)) := f7
  have g8 : v_iv (n_v vs 4) = w_fi ws (n_v vs 0) 158 := congrArg v_iv f8
  simp only [ad_9] at f13
  have h13 : v_iv (n_v vs 10) = w_ei ws (w_ar ws (n_v vs 0) 162) (v_iv (n_v vs 4)) := f13
  simp only [ad_7] at f14
  have h14 : v_iv (n_v vs 8) = w_ei ws (w_ar ws (n_v vs 0) 163) (v_iv (n_v vs 4)) := f14
  simp only [ad_3] at f17
  have h17 : v_iv (n_v vs 5) = w_ei ws (w_ar ws (n_v vs 0) 160) (v_iv (n_v vs 4)) := f17
  have g20 : v_iv (n_v vs 2) = w_fi ws (n_v vs 0) 8 := congrArg v_iv f20
  have hK_0_1 := elq_7 hD hth cr_0_1
  have hK_0_160 := elq_6 hD hth cr_0_160
  have hK_0_162 := elq_8 hD hth cr_0_162
  have hK_0_163 := elq_9 hD hth cr_0_163
  have kz_0_8 := fdq_34 hD hth r0
  have kz_0_10 := fdq_43 hD hth r0
  have kz_0_158 := fdq_36 hD hth r0
  have nf0 : fc_1 PRD (20, [20, 0], [50, 1, 1, 1158, 1160, 4, 6, 1, 2, 1, 0, 0, 1, 1, 6, 3, 1, 160, 2, 1, 158, 0, 1]) ws (vs) := ⟨nf_in hl rfl, sgq_287 (vc_Mo_word_at_s5028_3_0 (v_iv (n_v vs 2)) (v_iv (n_v vs 4)) (v_iv (n_v vs 5)) (v_iv (n_v vs 6)) (v_iv (n_v vs 8)) (v_iv (n_v vs 10)) (v_iv (n_v vs 11)) (v_iv (n_v vs 12)) (v_iv (n_v vs 14)) (v_iv (n_v vs 15)) (v_iv (n_v vs 16)) (v_iv (n_v vs 17)) (v_iv (n_v vs 18)) (v_iv (n_v vs 19)) (v_iv (n_v vs 20)) (w_ei ws (w_ar ws (n_v vs 0) 1)) (w_fi ws (n_v vs 0) 10) (w_ei ws (w_ar ws (n_v vs 0) 162)) (w_fi ws (n_v vs 0) 158) (w_ei ws (w_ar ws (n_v vs 0) 163)) (w_ei ws (w_ar ws (n_v vs 0) 160)) (w_fi ws (n_v vs 0) 8) k2 k4 k5 k6 k8 k10 k11 k12 k14 k15 k16 k17 k18 k19 k20 d0 (shm_192 f0) (shm_40 f1) (shm_83 f2) (shm_84 f3) (shm_541 f4) (shm_542 f5) (shm_12 f6) h7 g8 (shm_6 f10) (shm_37 f11) (shm_14 f12) h13 h14 (shm_37 f16) h17 (shm_192 f19) g20 hK_0_1 hK_0_160 hK_0_162 hK_0_163 kz_0_8 kz_0_10 kz_0_158)⟩
  have nf1 : fc_1 PRD (20, [0, 20], [60, 3, 4, 33, 8, 158, 10, 160, 162, 163, 1]) ws (vs) := ⟨nf_in hl rfl, sgq_1872 (vc_Mo_word_at_s5028_3_1 (v_iv (n_v vs 4)) (v_iv (n_v vs 8)) (v_iv (n_v vs 10)) (v_iv (n_v vs 11)) (v_iv (n_v vs 16)) (v_iv (n_v vs 17)) (v_iv (n_v vs 18)) (v_iv (n_v vs 20)) (w_ei ws (w_ar ws (n_v vs 0) 1)) (w_fi ws (n_v vs 0) 10) (w_ei ws (w_ar ws (n_v vs 0) 162)) (w_fi ws (n_v vs 0) 158) (w_ei ws (w_ar ws (n_v vs 0) 163)) (w_ei ws (w_ar ws (n_v vs 0) 160)) (w_fi ws (n_v vs 0) 8) k4 k8 k10 k11 k16 k17 k18 k20 d0 (shm_541 f4) (shm_542 f5) h7 g8 (shm_14 f12) h13 h14 kz_0_8 kz_0_10 kz_0_158)⟩
  refine ⟨(fun _ h => (by cases h)), [], trivial, ?_, (fun _ h => (by cases h))⟩
  rw [List.append_nil]
  exact List.forall_mem_cons.mpr ⟨⟨show (20 : Nat) < 100 from by decide, nf0⟩, List.forall_mem_cons.mpr ⟨⟨show (20 : Nat) < 100 from by decide, nf1⟩, (fun _ h => (by cases h))⟩⟩
set_option maxHeartbeats 4000000 in
theorem vc_Mo_word_at_s5028_4_0 (x2 : Int) (x4 : Int) (x5 : Int) (x6 : Int) (x8 : Int) (x10 : Int) (x11 : Int) (x12 : Int) (x14 : Int) (x15 : Int) (x16 : Int) (x17 : Int) (x18 : Int) (x19 : Int) (x20 : Int) (tape_0 : Int → Int) (limit_0 : Int) (tokenPlace_0 : Int → Int) (cur_0 : Int) (tokenEnd_0 : Int → Int) (tokenKind_0 : Int → Int) (fault_0 : Int) (k2 : 0 ≤ x2 ∧ x2 ≤ 0) (k4 : 0 ≤ x4 ∧ x4 ≤ 2009) (k5 : 1 ≤ x5 ∧ x5 ≤ 1) (k6 : 1 ≤ x6 ∧ x6 ≤ 1) (k8 : 3 ≤ x8 ∧ x8 ≤ 2000) (k10 : 0 ≤ x10 ∧ x10 ≤ 2000) (k11 : 3 ≤ x11 ∧ x11 ≤ 3) (k12 : 3 ≤ x12 ∧ x12 ≤ 3) (k14 : 0 ≤ x14 ∧ x14 ≤ 0) (k15 : 3 ≤ x15 ∧ x15 ≤ 3) (k16 : 0 ≤ x16 ∧ x16 ≤ 1999) (k17 : 0 ≤ x17 ∧ x17 ≤ 1999) (k18 : 0 ≤ x18 ∧ x18 ≤ 255) (k19 : 0 ≤ x19 ∧ x19 ≤ 65535) (k20 : 0 ≤ x20 ∧ x20 ≤ 0) (d0 : x16 + 0 ≤ x17 ∧ x17 ≤ x16 + 0) (f0 : x20 = 0) (f1 : x18 ≠ x19) (f2 : 1 * x19 + 0 ≤ 102) (f3 : (-1) * x19 + 0 ≤ (-102)) (f4 : ((x17 + 1) ≤ limit_0) → (x18 = (tape_0 (x17) % 256))) (f5 : (limit_0 ≤ x17) → (x18 = (-1))) (f6 : x17 = x16 + x14) (h7 : x16 = tokenPlace_0 (x4)) (g8 : x4 = cur_0) (f10 : x14 < x15) (f11 : x11 = x12) (f12 : x11 = x8 - x10) (h13 : x10 = tokenPlace_0 (x4)) (h14 : x8 = tokenEnd_0 (x4)) (f16 : x5 = x6) (h17 : x5 = tokenKind_0 (x4)) (f19 : x2 = 0) (g20 : x2 = fault_0) (hK_0_1 : ∀ j : Int, 0 ≤ j → j < 2000 → (-128) ≤ tape_0 j ∧ tape_0 j ≤ 127) (hK_0_160 : ∀ j : Int, 0 ≤ j → j < 2010 → 0 ≤ tokenKind_0 j ∧ tokenKind_0 j ≤ 4) (hK_0_162 : ∀ j : Int, 0 ≤ j → j < 2010 → 0 ≤ tokenPlace_0 j ∧ tokenPlace_0 j ≤ 2000) (hK_0_163 : ∀ j : Int, 0 ≤ j → j < 2010 → 0 ≤ tokenEnd_0 j ∧ tokenEnd_0 j ≤ 2000) (kz_0_8 : 0 ≤ fault_0 ∧ fault_0 ≤ 5) (kz_0_10 : 0 ≤ limit_0 ∧ limit_0 ≤ 2000) (kz_0_158 : 0 ≤ cur_0 ∧ cur_0 ≤ 2009) : (x20 = 1) → (tokenKind_0 (cur_0) = 1) := by
  first | assumption | (clear f4 f5 hK_0_1 hK_0_160 hK_0_162 hK_0_163; omega) | (clear hK_0_1 hK_0_160 hK_0_162 hK_0_163; grind) | omega | grind
set_option maxHeartbeats 4000000 in
theorem vc_Mo_word_at_s5028_4_1 (x4 : Int) (x8 : Int) (x10 : Int) (x11 : Int) (x16 : Int) (x17 : Int) (x18 : Int) (x19 : Int) (x20 : Int) (tape_0 : Int → Int) (limit_0 : Int) (tokenPlace_0 : Int → Int) (cur_0 : Int) (tokenEnd_0 : Int → Int) (tokenKind_0 : Int → Int) (fault_0 : Int) (k4 : 0 ≤ x4 ∧ x4 ≤ 2009) (k8 : 3 ≤ x8 ∧ x8 ≤ 2000) (k10 : 0 ≤ x10 ∧ x10 ≤ 2000) (k11 : 3 ≤ x11 ∧ x11 ≤ 3) (k16 : 0 ≤ x16 ∧ x16 ≤ 1999) (k17 : 0 ≤ x17 ∧ x17 ≤ 1999) (k18 : 0 ≤ x18 ∧ x18 ≤ 255) (k19 : 0 ≤ x19 ∧ x19 ≤ 65535) (k20 : 0 ≤ x20 ∧ x20 ≤ 0) (d0 : x16 + 0 ≤ x17 ∧ x17 ≤ x16 + 0) (f1 : x18 ≠ x19) (f2 : 1 * x19 + 0 ≤ 102) (f3 : (-1) * x19 + 0 ≤ (-102)) (f4 : ((x17 + 1) ≤ limit_0) → (x18 = (tape_0 (x17) % 256))) (f5 : (limit_0 ≤ x17) → (x18 = (-1))) (h7 : x16 = tokenPlace_0 (x4)) (g8 : x4 = cur_0) (f12 : x11 = x8 - x10) (h13 : x10 = tokenPlace_0 (x4)) (h14 : x8 = tokenEnd_0 (x4)) (kz_0_8 : 0 ≤ fault_0 ∧ fault_0 ≤ 5) (kz_0_10 : 0 ≤ limit_0 ∧ limit_0 ≤ 2000) (kz_0_158 : 0 ≤ cur_0 ∧ cur_0 ≤ 2009) : Wqfar (fault_0) (cur_0) (limit_0) (tokenKind_0) (tokenPlace_0) (tokenEnd_0) (tape_0) (x20) := by
  first
    | exact ⟨fun z => by omega, fun z => by have := z.1; omega⟩
    | (have e := (‹x4 = cur_0›)
       rw [← e]
       refine ⟨fun z => ⟨by omega, wdS3.2 ⟨by omega, by omega, by omega, by rw [show tokenPlace_0 x4 + 0 = x17 by omega]; omega, by rw [show tokenPlace_0 x4 + 1 = x24 by omega]; omega, by rw [show tokenPlace_0 x4 + 2 = x31 by omega]; omega⟩⟩, fun z => by omega⟩)
    | (have e := (‹x4 = cur_0›)
       rw [← e]
       refine ⟨fun z => by omega, fun z => ?_⟩
       have w := wdS3.1 z.2
       try (have q0 : tokenPlace_0 x4 + 0 = x17 := (by omega); rw [q0] at w)
       try (have q1 : tokenPlace_0 x4 + 1 = x24 := (by omega); rw [q1] at w)
       try (have q2 : tokenPlace_0 x4 + 2 = x31 := (by omega); rw [q2] at w)
       omega)
  
def o_Mo_word_at_s5028_4 : or_T := (102, 23, [(0, (2, 0, 0, [165])), (2, (0, 0, 0, [])), (3, (2, 0, 0, [274])), (4, (0, 0, 2009, [])), (5, (0, 1, 1, [])), (6, (0, 1, 1, [])), (7, (2, 0, 0, [277])), (8, (0, 3, 2000, [])), (9, (2, 0, 0, [276])), (10, (0, 0, 2000, [])), (11, (0, 3, 3, [])), (12, (0, 3, 3, [])), (14, (0, 0, 0, [])), (15, (0, 3, 3, [])), (16, (0, 0, 1999, [])), (17, (0, 0, 1999, [])), (18, (0, 0, 255, [])), (19, (0, 0, 65535, [])), (20, (0, 0, 0, []))], [(8, [20], [0]), (7, [18, 19], [1]), (23, [19], [102, 1]), (23, [19], [-102, -1]), (20, [17, 0, 18], [50, 1, 1, 1010, 1001, 4, 11, 0, 6, 4, 2, 1, 0, 0, 1, 2, 1, 10, 1, 2, 1, 2, 9, 5, 3, 1, 1, 1, 0, 0, 256]), (20, [0, 17, 18], [50, 1, 0, 10, 4, 7, 0, 3, 2, 0, 10, 1, 1, 1, 2, 1, 2, 0, -1]), (1, [17, 16, 14], []), (10, [16, 9, 4], []), (9, [4, 0], [158]), (9, [9, 0], [162]), (7, [14, 15], [2]), (7, [11, 12], [0]), (2, [11, 8, 10], []), (10, [10, 9, 4], []), (10, [8, 7, 4], []), (9, [7, 0], [163]), (7, [5, 6], [0]), (10, [5, 3, 4], []), (9, [3, 0], [160]), (8, [2], [0]), (9, [2, 0], [8])], [], [], [(20, [20, 0], [50, 1, 1, 1158, 1160, 4, 6, 1, 2, 1, 0, 0, 1, 1, 6, 3, 1, 160, 2, 1, 158, 0, 1]), (20, [0, 20], [60, 3, 4, 33, 8, 158, 10, 160, 162, 163, 1])], [], [(17, 16, 0, 0)])
theorem oo_Mo_word_at_s5028_4 {kA : Nat → ClassId} : or_ok PRD kA GG o_Mo_word_at_s5028_4 := by
  refine or_mk fun A ta ws vs hD hth hl => ?_
  intro t0 r0 t2 k2 t3 r3 t4 k4 t5 k5 t6 k6 t7 r7 t8 k8 t9 r9 t10 k10 t11 k11 t12 k12 t14 k14 t15 k15 t16 k16 t17 k17 t18 k18 t19 k19 t20 k20 d0 f0 f1 f2 f3 f4 f5 f6 f7 f8 f9 f10 f11 f12 f13 f14 f15 f16 f17 f18 f19 f20
  replace f7 := shm_107 f7
  replace f8 := shm_286 f8
  replace f9 := shm_301 f9
  replace f13 := shm_107 f13
  replace f14 := shm_107 f14
  replace f15 := shm_1332 f15
  replace f17 := shm_107 f17
  replace f18 := shm_327 f18
  replace f20 := shm_293 f20
  have cr_0_1 := fdq_39 hD hth r0
  have cr_0_160 := fdq_33 hD hth r0
  have cr_0_162 := fdq_41 hD hth r0
  have cr_0_163 := fdq_42 hD hth r0
  have ad_9 : v_ad (n_v vs 9) = w_ar ws (n_v vs 0) 162 := congrArg v_ad f9
  have ad_7 : v_ad (n_v vs 7) = w_ar ws (n_v vs 0) 163 := congrArg v_ad f15
  have ad_3 : v_ad (n_v vs 3) = w_ar ws (n_v vs 0) 160 := congrArg v_ad f18
  simp only [ad_9] at f7
  have h7 : v_iv (n_v vs 16) = w_ei ws (w_ar ws (n_v vs 0) 162) (v_iv (n_v vs 4)) := f7
  have g8 : v_iv (n_v vs 4) = w_fi ws (n_v vs 0) 158 := congrArg v_iv f8
  simp only [ad_9] at f13
  have h13 : v_iv (n_v vs 10) = w_ei ws (w_ar ws (n_v vs 0) 162) (v_iv (n_v vs 4)) := f13
  simp only [ad_7] at f14
  have h14 : v_iv (n_v vs 8) = w_ei ws (w_ar ws (n_v vs 0) 163) (v_iv (n_v vs 4)) := f14
  simp only [ad_3] at f17
  have h17 : v_iv (n_v vs 5) = w_ei ws (w_ar ws (n_v vs 0) 160) (v_iv (n_v vs 4)) := f17
  have g20 : v_iv (n_v vs 2) = w_fi ws (n_v vs 0) 8 := congrArg v_iv f20
  have hK_0_1 := elq_7 hD hth cr_0_1
  have hK_0_160 := elq_6 hD hth cr_0_160
  have hK_0_162 := elq_8 hD hth cr_0_162
  have hK_0_163 := elq_9 hD hth cr_0_163
  have kz_0_8 := fdq_34 hD hth r0
  have kz_0_10 := fdq_43 hD hth r0
  have kz_0_158 := fdq_36 hD hth r0
  have nf0 : fc_1 PRD (20, [20, 0], [50, 1, 1, 1158, 1160, 4, 6, 1, 2, 1, 0, 0, 1, 1, 6, 3, 1, 160, 2, 1, 158, 0, 1]) ws (vs) := ⟨nf_in hl rfl, sgq_287 (vc_Mo_word_at_s5028_4_0 (v_iv (n_v vs 2)) (v_iv (n_v vs 4)) (v_iv (n_v vs 5)) (v_iv (n_v vs 6)) (v_iv (n_v vs 8)) (v_iv (n_v vs 10)) (v_iv (n_v vs 11)) (v_iv (n_v vs 12)) (v_iv (n_v vs 14)) (v_iv (n_v vs 15)) (v_iv (n_v vs 16)) (v_iv (n_v vs 17)) (v_iv (n_v vs 18)) (v_iv (n_v vs 19)) (v_iv (n_v vs 20)) (w_ei ws (w_ar ws (n_v vs 0) 1)) (w_fi ws (n_v vs 0) 10) (w_ei ws (w_ar ws (n_v vs 0) 162)) (w_fi ws (n_v vs 0) 158) (w_ei ws (w_ar ws (n_v vs 0) 163)) (w_ei ws (w_ar ws (n_v vs 0) 160)) (w_fi ws (n_v vs 0) 8) k2 k4 k5 k6 k8 k10 k11 k12 k14 k15 k16 k17 k18 k19 k20 d0 (shm_192 f0) (shm_40 f1) (shm_83 f2) (shm_84 f3) (shm_541 f4) (shm_542 f5) (shm_12 f6) h7 g8 (shm_6 f10) (shm_37 f11) (shm_14 f12) h13 h14 (shm_37 f16) h17 (shm_192 f19) g20 hK_0_1 hK_0_160 hK_0_162 hK_0_163 kz_0_8 kz_0_10 kz_0_158)⟩
  have nf1 : fc_1 PRD (20, [0, 20], [60, 3, 4, 33, 8, 158, 10, 160, 162, 163, 1]) ws (vs) := ⟨nf_in hl rfl, sgq_1872 (vc_Mo_word_at_s5028_4_1 (v_iv (n_v vs 4)) (v_iv (n_v vs 8)) (v_iv (n_v vs 10)) (v_iv (n_v vs 11)) (v_iv (n_v vs 16)) (v_iv (n_v vs 17)) (v_iv (n_v vs 18)) (v_iv (n_v vs 19)) (v_iv (n_v vs 20)) (w_ei ws (w_ar ws (n_v vs 0) 1)) (w_fi ws (n_v vs 0) 10) (w_ei ws (w_ar ws (n_v vs 0) 162)) (w_fi ws (n_v vs 0) 158) (w_ei ws (w_ar ws (n_v vs 0) 163)) (w_ei ws (w_ar ws (n_v vs 0) 160)) (w_fi ws (n_v vs 0) 8) k4 k8 k10 k11 k16 k17 k18 k19 k20 d0 (shm_40 f1) (shm_83 f2) (shm_84 f3) (shm_541 f4) (shm_542 f5) h7 g8 (shm_14 f12) h13 h14 kz_0_8 kz_0_10 kz_0_158)⟩
  refine ⟨(fun _ h => (by cases h)), [], trivial, ?_, (fun _ h => (by cases h))⟩
  rw [List.append_nil]
  exact List.forall_mem_cons.mpr ⟨⟨show (20 : Nat) < 100 from by decide, nf0⟩, List.forall_mem_cons.mpr ⟨⟨show (20 : Nat) < 100 from by decide, nf1⟩, (fun _ h => (by cases h))⟩⟩
set_option maxHeartbeats 4000000 in
theorem vc_Mo_word_at_s5028_5_0 (x2 : Int) (x4 : Int) (x5 : Int) (x6 : Int) (x8 : Int) (x10 : Int) (x11 : Int) (x12 : Int) (x14 : Int) (x15 : Int) (x16 : Int) (x17 : Int) (x18 : Int) (x19 : Int) (x21 : Int) (x22 : Int) (x23 : Int) (x24 : Int) (x25 : Int) (x26 : Int) (x27 : Int) (tape_0 : Int → Int) (limit_0 : Int) (tokenPlace_0 : Int → Int) (cur_0 : Int) (tokenEnd_0 : Int → Int) (tokenKind_0 : Int → Int) (fault_0 : Int) (k2 : 0 ≤ x2 ∧ x2 ≤ 0) (k4 : 0 ≤ x4 ∧ x4 ≤ 2009) (k5 : 1 ≤ x5 ∧ x5 ≤ 1) (k6 : 1 ≤ x6 ∧ x6 ≤ 1) (k8 : 3 ≤ x8 ∧ x8 ≤ 2000) (k10 : 0 ≤ x10 ∧ x10 ≤ 2000) (k11 : 3 ≤ x11 ∧ x11 ≤ 3) (k12 : 3 ≤ x12 ∧ x12 ≤ 3) (k14 : 0 ≤ x14 ∧ x14 ≤ 0) (k15 : 3 ≤ x15 ∧ x15 ≤ 3) (k16 : 0 ≤ x16 ∧ x16 ≤ 1999) (k17 : 0 ≤ x17 ∧ x17 ≤ 1999) (k18 : 0 ≤ x18 ∧ x18 ≤ 255) (k19 : 0 ≤ x19 ∧ x19 ≤ 255) (k21 : 1 ≤ x21 ∧ x21 ≤ 1) (k22 : 3 ≤ x22 ∧ x22 ≤ 3) (k23 : 0 ≤ x23 ∧ x23 ≤ 2000) (k24 : 1 ≤ x24 ∧ x24 ≤ 2001) (k25 : (-1) ≤ x25 ∧ x25 ≤ (-1)) (k26 : 0 ≤ x26 ∧ x26 ≤ 65535) (k27 : 0 ≤ x27 ∧ x27 ≤ 0) (d0 : x23 + 1 ≤ x24 ∧ x24 ≤ x23 + 1) (d1 : x19 + 0 ≤ x18 ∧ x18 ≤ x19 + 0) (d2 : x16 + 0 ≤ x17 ∧ x17 ≤ x16 + 0) (f0 : x27 = 0) (f1 : x25 ≠ x26) (f2 : 1 * x26 + 0 ≤ 97) (f3 : (-1) * x26 + 0 ≤ (-97)) (f4 : ((x24 + 1) ≤ limit_0) → (x25 = (tape_0 (x24) % 256))) (f5 : (limit_0 ≤ x24) → (x25 = (-1))) (f6 : x24 = x23 + x21) (h7 : x23 = tokenPlace_0 (x4)) (g8 : x4 = cur_0) (f10 : x21 < x22) (f11 : x21 = x14 + 1) (f12 : x18 = x19) (f13 : 1 * x19 + 0 ≤ 102) (f14 : (-1) * x19 + 0 ≤ (-102)) (f15 : ((x17 + 1) ≤ limit_0) → (x18 = (tape_0 (x17) % 256))) (f16 : (limit_0 ≤ x17) → (x18 = (-1))) (f17 : x17 = x16 + x14) (h18 : x16 = tokenPlace_0 (x4)) (f19 : x14 < x15) (f20 : x11 = x12) (f21 : x11 = x8 - x10) (h22 : x10 = tokenPlace_0 (x4)) (h23 : x8 = tokenEnd_0 (x4)) (f25 : x5 = x6) (h26 : x5 = tokenKind_0 (x4)) (f28 : x2 = 0) (g29 : x2 = fault_0) (hK_0_1 : ∀ j : Int, 0 ≤ j → j < 2000 → (-128) ≤ tape_0 j ∧ tape_0 j ≤ 127) (hK_0_160 : ∀ j : Int, 0 ≤ j → j < 2010 → 0 ≤ tokenKind_0 j ∧ tokenKind_0 j ≤ 4) (hK_0_162 : ∀ j : Int, 0 ≤ j → j < 2010 → 0 ≤ tokenPlace_0 j ∧ tokenPlace_0 j ≤ 2000) (hK_0_163 : ∀ j : Int, 0 ≤ j → j < 2010 → 0 ≤ tokenEnd_0 j ∧ tokenEnd_0 j ≤ 2000) (kz_0_8 : 0 ≤ fault_0 ∧ fault_0 ≤ 5) (kz_0_10 : 0 ≤ limit_0 ∧ limit_0 ≤ 2000) (kz_0_158 : 0 ≤ cur_0 ∧ cur_0 ≤ 2009) : (x27 = 1) → (tokenKind_0 (cur_0) = 1) := by
  first | assumption | (clear f4 f5 f15 f16 hK_0_1 hK_0_160 hK_0_162 hK_0_163; omega) | (clear hK_0_1 hK_0_160 hK_0_162 hK_0_163; grind) | omega | grind
set_option maxHeartbeats 4000000 in
theorem vc_Mo_word_at_s5028_5_1 (x4 : Int) (x8 : Int) (x10 : Int) (x11 : Int) (x16 : Int) (x17 : Int) (x18 : Int) (x19 : Int) (x23 : Int) (x24 : Int) (x25 : Int) (x27 : Int) (tape_0 : Int → Int) (limit_0 : Int) (tokenPlace_0 : Int → Int) (cur_0 : Int) (tokenEnd_0 : Int → Int) (tokenKind_0 : Int → Int) (fault_0 : Int) (k4 : 0 ≤ x4 ∧ x4 ≤ 2009) (k8 : 3 ≤ x8 ∧ x8 ≤ 2000) (k10 : 0 ≤ x10 ∧ x10 ≤ 2000) (k11 : 3 ≤ x11 ∧ x11 ≤ 3) (k16 : 0 ≤ x16 ∧ x16 ≤ 1999) (k17 : 0 ≤ x17 ∧ x17 ≤ 1999) (k18 : 0 ≤ x18 ∧ x18 ≤ 255) (k19 : 0 ≤ x19 ∧ x19 ≤ 255) (k23 : 0 ≤ x23 ∧ x23 ≤ 2000) (k24 : 1 ≤ x24 ∧ x24 ≤ 2001) (k25 : (-1) ≤ x25 ∧ x25 ≤ (-1)) (k27 : 0 ≤ x27 ∧ x27 ≤ 0) (d0 : x23 + 1 ≤ x24 ∧ x24 ≤ x23 + 1) (d1 : x19 + 0 ≤ x18 ∧ x18 ≤ x19 + 0) (d2 : x16 + 0 ≤ x17 ∧ x17 ≤ x16 + 0) (f4 : ((x24 + 1) ≤ limit_0) → (x25 = (tape_0 (x24) % 256))) (f5 : (limit_0 ≤ x24) → (x25 = (-1))) (h7 : x23 = tokenPlace_0 (x4)) (g8 : x4 = cur_0) (f13 : 1 * x19 + 0 ≤ 102) (f14 : (-1) * x19 + 0 ≤ (-102)) (f15 : ((x17 + 1) ≤ limit_0) → (x18 = (tape_0 (x17) % 256))) (f16 : (limit_0 ≤ x17) → (x18 = (-1))) (h18 : x16 = tokenPlace_0 (x4)) (f21 : x11 = x8 - x10) (h22 : x10 = tokenPlace_0 (x4)) (h23 : x8 = tokenEnd_0 (x4)) (kz_0_8 : 0 ≤ fault_0 ∧ fault_0 ≤ 5) (kz_0_10 : 0 ≤ limit_0 ∧ limit_0 ≤ 2000) (kz_0_158 : 0 ≤ cur_0 ∧ cur_0 ≤ 2009) : Wqfar (fault_0) (cur_0) (limit_0) (tokenKind_0) (tokenPlace_0) (tokenEnd_0) (tape_0) (x27) := by
  first
    | exact ⟨fun z => by omega, fun z => by have := z.1; omega⟩
    | (have e := (‹x4 = cur_0›)
       rw [← e]
       refine ⟨fun z => ⟨by omega, wdS3.2 ⟨by omega, by omega, by omega, by rw [show tokenPlace_0 x4 + 0 = x17 by omega]; omega, by rw [show tokenPlace_0 x4 + 1 = x24 by omega]; omega, by rw [show tokenPlace_0 x4 + 2 = x31 by omega]; omega⟩⟩, fun z => by omega⟩)
    | (have e := (‹x4 = cur_0›)
       rw [← e]
       refine ⟨fun z => by omega, fun z => ?_⟩
       have w := wdS3.1 z.2
       try (have q0 : tokenPlace_0 x4 + 0 = x17 := (by omega); rw [q0] at w)
       try (have q1 : tokenPlace_0 x4 + 1 = x24 := (by omega); rw [q1] at w)
       try (have q2 : tokenPlace_0 x4 + 2 = x31 := (by omega); rw [q2] at w)
       omega)
  
def o_Mo_word_at_s5028_5 : or_T := (102, 30, [(0, (2, 0, 0, [165])), (2, (0, 0, 0, [])), (3, (2, 0, 0, [274])), (4, (0, 0, 2009, [])), (5, (0, 1, 1, [])), (6, (0, 1, 1, [])), (7, (2, 0, 0, [277])), (8, (0, 3, 2000, [])), (9, (2, 0, 0, [276])), (10, (0, 0, 2000, [])), (11, (0, 3, 3, [])), (12, (0, 3, 3, [])), (14, (0, 0, 0, [])), (15, (0, 3, 3, [])), (16, (0, 0, 1999, [])), (17, (0, 0, 1999, [])), (18, (0, 0, 255, [])), (19, (0, 0, 255, [])), (21, (0, 1, 1, [])), (22, (0, 3, 3, [])), (23, (0, 0, 2000, [])), (24, (0, 1, 2001, [])), (25, (0, -1, -1, [])), (26, (0, 0, 65535, [])), (27, (0, 0, 0, []))], [(8, [27], [0]), (7, [25, 26], [1]), (23, [26], [97, 1]), (23, [26], [-97, -1]), (20, [24, 0, 25], [50, 1, 1, 1010, 1001, 4, 11, 0, 6, 4, 2, 1, 0, 0, 1, 2, 1, 10, 1, 2, 1, 2, 9, 5, 3, 1, 1, 1, 0, 0, 256]), (20, [0, 24, 25], [50, 1, 0, 10, 4, 7, 0, 3, 2, 0, 10, 1, 1, 1, 2, 1, 2, 0, -1]), (1, [24, 23, 21], []), (10, [23, 9, 4], []), (9, [4, 0], [158]), (9, [9, 0], [162]), (7, [21, 22], [2]), (6, [21, 14], [1]), (7, [18, 19], [0]), (23, [19], [102, 1]), (23, [19], [-102, -1]), (20, [17, 0, 18], [50, 1, 1, 1010, 1001, 4, 11, 0, 6, 4, 2, 1, 0, 0, 1, 2, 1, 10, 1, 2, 1, 2, 9, 5, 3, 1, 1, 1, 0, 0, 256]), (20, [0, 17, 18], [50, 1, 0, 10, 4, 7, 0, 3, 2, 0, 10, 1, 1, 1, 2, 1, 2, 0, -1]), (1, [17, 16, 14], []), (10, [16, 9, 4], []), (7, [14, 15], [2]), (7, [11, 12], [0]), (2, [11, 8, 10], []), (10, [10, 9, 4], []), (10, [8, 7, 4], []), (9, [7, 0], [163]), (7, [5, 6], [0]), (10, [5, 3, 4], []), (9, [3, 0], [160]), (8, [2], [0]), (9, [2, 0], [8])], [], [], [(20, [27, 0], [50, 1, 1, 1158, 1160, 4, 6, 1, 2, 1, 0, 0, 1, 1, 6, 3, 1, 160, 2, 1, 158, 0, 1]), (20, [0, 27], [60, 3, 4, 33, 8, 158, 10, 160, 162, 163, 1])], [], [(24, 23, 1, 1), (18, 19, 0, 0), (17, 16, 0, 0)])
theorem oo_Mo_word_at_s5028_5 {kA : Nat → ClassId} : or_ok PRD kA GG o_Mo_word_at_s5028_5 := by
  refine or_mk fun A ta ws vs hD hth hl => ?_
  intro t0 r0 t2 k2 t3 r3 t4 k4 t5 k5 t6 k6 t7 r7 t8 k8 t9 r9 t10 k10 t11 k11 t12 k12 t14 k14 t15 k15 t16 k16 t17 k17 t18 k18 t19 k19 t21 k21 t22 k22 t23 k23 t24 k24 t25 k25 t26 k26 t27 k27 d0 d1 d2 f0 f1 f2 f3 f4 f5 f6 f7 f8 f9 f10 f11 f12 f13 f14 f15 f16 f17 f18 f19 f20 f21 f22 f23 f24 f25 f26 f27 f28 f29
  replace f7 := shm_107 f7
  replace f8 := shm_286 f8
  replace f9 := shm_301 f9
  replace f18 := shm_107 f18
  replace f22 := shm_107 f22
  replace f23 := shm_107 f23
  replace f24 := shm_1332 f24
  replace f26 := shm_107 f26
  replace f27 := shm_327 f27
  replace f29 := shm_293 f29
  have cr_0_1 := fdq_39 hD hth r0
  have cr_0_160 := fdq_33 hD hth r0
  have cr_0_162 := fdq_41 hD hth r0
  have cr_0_163 := fdq_42 hD hth r0
  have ad_9 : v_ad (n_v vs 9) = w_ar ws (n_v vs 0) 162 := congrArg v_ad f9
  have ad_7 : v_ad (n_v vs 7) = w_ar ws (n_v vs 0) 163 := congrArg v_ad f24
  have ad_3 : v_ad (n_v vs 3) = w_ar ws (n_v vs 0) 160 := congrArg v_ad f27
  simp only [ad_9] at f7
  have h7 : v_iv (n_v vs 23) = w_ei ws (w_ar ws (n_v vs 0) 162) (v_iv (n_v vs 4)) := f7
  have g8 : v_iv (n_v vs 4) = w_fi ws (n_v vs 0) 158 := congrArg v_iv f8
  simp only [ad_9] at f18
  have h18 : v_iv (n_v vs 16) = w_ei ws (w_ar ws (n_v vs 0) 162) (v_iv (n_v vs 4)) := f18
  simp only [ad_9] at f22
  have h22 : v_iv (n_v vs 10) = w_ei ws (w_ar ws (n_v vs 0) 162) (v_iv (n_v vs 4)) := f22
  simp only [ad_7] at f23
  have h23 : v_iv (n_v vs 8) = w_ei ws (w_ar ws (n_v vs 0) 163) (v_iv (n_v vs 4)) := f23
  simp only [ad_3] at f26
  have h26 : v_iv (n_v vs 5) = w_ei ws (w_ar ws (n_v vs 0) 160) (v_iv (n_v vs 4)) := f26
  have g29 : v_iv (n_v vs 2) = w_fi ws (n_v vs 0) 8 := congrArg v_iv f29
  have hK_0_1 := elq_7 hD hth cr_0_1
  have hK_0_160 := elq_6 hD hth cr_0_160
  have hK_0_162 := elq_8 hD hth cr_0_162
  have hK_0_163 := elq_9 hD hth cr_0_163
  have kz_0_8 := fdq_34 hD hth r0
  have kz_0_10 := fdq_43 hD hth r0
  have kz_0_158 := fdq_36 hD hth r0
  have nf0 : fc_1 PRD (20, [27, 0], [50, 1, 1, 1158, 1160, 4, 6, 1, 2, 1, 0, 0, 1, 1, 6, 3, 1, 160, 2, 1, 158, 0, 1]) ws (vs) := ⟨nf_in hl rfl, sgq_287 (vc_Mo_word_at_s5028_5_0 (v_iv (n_v vs 2)) (v_iv (n_v vs 4)) (v_iv (n_v vs 5)) (v_iv (n_v vs 6)) (v_iv (n_v vs 8)) (v_iv (n_v vs 10)) (v_iv (n_v vs 11)) (v_iv (n_v vs 12)) (v_iv (n_v vs 14)) (v_iv (n_v vs 15)) (v_iv (n_v vs 16)) (v_iv (n_v vs 17)) (v_iv (n_v vs 18)) (v_iv (n_v vs 19)) (v_iv (n_v vs 21)) (v_iv (n_v vs 22)) (v_iv (n_v vs 23)) (v_iv (n_v vs 24)) (v_iv (n_v vs 25)) (v_iv (n_v vs 26)) (v_iv (n_v vs 27)) (w_ei ws (w_ar ws (n_v vs 0) 1)) (w_fi ws (n_v vs 0) 10) (w_ei ws (w_ar ws (n_v vs 0) 162)) (w_fi ws (n_v vs 0) 158) (w_ei ws (w_ar ws (n_v vs 0) 163)) (w_ei ws (w_ar ws (n_v vs 0) 160)) (w_fi ws (n_v vs 0) 8) k2 k4 k5 k6 k8 k10 k11 k12 k14 k15 k16 k17 k18 k19 k21 k22 k23 k24 k25 k26 k27 d0 d1 d2 (shm_192 f0) (shm_40 f1) (shm_85 f2) (shm_86 f3) (shm_541 f4) (shm_542 f5) (shm_12 f6) h7 g8 (shm_6 f10) (shm_4 f11) (shm_37 f12) (shm_83 f13) (shm_84 f14) (shm_541 f15) (shm_542 f16) (shm_12 f17) h18 (shm_6 f19) (shm_37 f20) (shm_14 f21) h22 h23 (shm_37 f25) h26 (shm_192 f28) g29 hK_0_1 hK_0_160 hK_0_162 hK_0_163 kz_0_8 kz_0_10 kz_0_158)⟩
  have nf1 : fc_1 PRD (20, [0, 27], [60, 3, 4, 33, 8, 158, 10, 160, 162, 163, 1]) ws (vs) := ⟨nf_in hl rfl, sgq_1872 (vc_Mo_word_at_s5028_5_1 (v_iv (n_v vs 4)) (v_iv (n_v vs 8)) (v_iv (n_v vs 10)) (v_iv (n_v vs 11)) (v_iv (n_v vs 16)) (v_iv (n_v vs 17)) (v_iv (n_v vs 18)) (v_iv (n_v vs 19)) (v_iv (n_v vs 23)) (v_iv (n_v vs 24)) (v_iv (n_v vs 25)) (v_iv (n_v vs 27)) (w_ei ws (w_ar ws (n_v vs 0) 1)) (w_fi ws (n_v vs 0) 10) (w_ei ws (w_ar ws (n_v vs 0) 162)) (w_fi ws (n_v vs 0) 158) (w_ei ws (w_ar ws (n_v vs 0) 163)) (w_ei ws (w_ar ws (n_v vs 0) 160)) (w_fi ws (n_v vs 0) 8) k4 k8 k10 k11 k16 k17 k18 k19 k23 k24 k25 k27 d0 d1 d2 (shm_541 f4) (shm_542 f5) h7 g8 (shm_83 f13) (shm_84 f14) (shm_541 f15) (shm_542 f16) h18 (shm_14 f21) h22 h23 kz_0_8 kz_0_10 kz_0_158)⟩
  refine ⟨(fun _ h => (by cases h)), [], trivial, ?_, (fun _ h => (by cases h))⟩
  rw [List.append_nil]
  exact List.forall_mem_cons.mpr ⟨⟨show (20 : Nat) < 100 from by decide, nf0⟩, List.forall_mem_cons.mpr ⟨⟨show (20 : Nat) < 100 from by decide, nf1⟩, (fun _ h => (by cases h))⟩⟩
set_option maxHeartbeats 4000000 in
theorem vc_Mo_word_at_s5028_6_0 (x2 : Int) (x4 : Int) (x5 : Int) (x6 : Int) (x8 : Int) (x10 : Int) (x11 : Int) (x12 : Int) (x14 : Int) (x15 : Int) (x16 : Int) (x17 : Int) (x18 : Int) (x19 : Int) (x21 : Int) (x22 : Int) (x23 : Int) (x24 : Int) (x25 : Int) (x26 : Int) (x27 : Int) (tape_0 : Int → Int) (limit_0 : Int) (tokenPlace_0 : Int → Int) (cur_0 : Int) (tokenEnd_0 : Int → Int) (tokenKind_0 : Int → Int) (fault_0 : Int) (k2 : 0 ≤ x2 ∧ x2 ≤ 0) (k4 : 0 ≤ x4 ∧ x4 ≤ 2009) (k5 : 1 ≤ x5 ∧ x5 ≤ 1) (k6 : 1 ≤ x6 ∧ x6 ≤ 1) (k8 : 3 ≤ x8 ∧ x8 ≤ 2000) (k10 : 0 ≤ x10 ∧ x10 ≤ 2000) (k11 : 3 ≤ x11 ∧ x11 ≤ 3) (k12 : 3 ≤ x12 ∧ x12 ≤ 3) (k14 : 0 ≤ x14 ∧ x14 ≤ 0) (k15 : 3 ≤ x15 ∧ x15 ≤ 3) (k16 : 0 ≤ x16 ∧ x16 ≤ 1999) (k17 : 0 ≤ x17 ∧ x17 ≤ 1999) (k18 : 0 ≤ x18 ∧ x18 ≤ 255) (k19 : 0 ≤ x19 ∧ x19 ≤ 255) (k21 : 1 ≤ x21 ∧ x21 ≤ 1) (k22 : 3 ≤ x22 ∧ x22 ≤ 3) (k23 : 0 ≤ x23 ∧ x23 ≤ 1998) (k24 : 1 ≤ x24 ∧ x24 ≤ 1999) (k25 : 0 ≤ x25 ∧ x25 ≤ 255) (k26 : 0 ≤ x26 ∧ x26 ≤ 65535) (k27 : 0 ≤ x27 ∧ x27 ≤ 0) (d0 : x23 + 1 ≤ x24 ∧ x24 ≤ x23 + 1) (d1 : x19 + 0 ≤ x18 ∧ x18 ≤ x19 + 0) (d2 : x16 + 0 ≤ x17 ∧ x17 ≤ x16 + 0) (f0 : x27 = 0) (f1 : x25 ≠ x26) (f2 : 1 * x26 + 0 ≤ 97) (f3 : (-1) * x26 + 0 ≤ (-97)) (f4 : ((x24 + 1) ≤ limit_0) → (x25 = (tape_0 (x24) % 256))) (f5 : (limit_0 ≤ x24) → (x25 = (-1))) (f6 : x24 = x23 + x21) (h7 : x23 = tokenPlace_0 (x4)) (g8 : x4 = cur_0) (f10 : x21 < x22) (f11 : x21 = x14 + 1) (f12 : x18 = x19) (f13 : 1 * x19 + 0 ≤ 102) (f14 : (-1) * x19 + 0 ≤ (-102)) (f15 : ((x17 + 1) ≤ limit_0) → (x18 = (tape_0 (x17) % 256))) (f16 : (limit_0 ≤ x17) → (x18 = (-1))) (f17 : x17 = x16 + x14) (h18 : x16 = tokenPlace_0 (x4)) (f19 : x14 < x15) (f20 : x11 = x12) (f21 : x11 = x8 - x10) (h22 : x10 = tokenPlace_0 (x4)) (h23 : x8 = tokenEnd_0 (x4)) (f25 : x5 = x6) (h26 : x5 = tokenKind_0 (x4)) (f28 : x2 = 0) (g29 : x2 = fault_0) (hK_0_1 : ∀ j : Int, 0 ≤ j → j < 2000 → (-128) ≤ tape_0 j ∧ tape_0 j ≤ 127) (hK_0_160 : ∀ j : Int, 0 ≤ j → j < 2010 → 0 ≤ tokenKind_0 j ∧ tokenKind_0 j ≤ 4) (hK_0_162 : ∀ j : Int, 0 ≤ j → j < 2010 → 0 ≤ tokenPlace_0 j ∧ tokenPlace_0 j ≤ 2000) (hK_0_163 : ∀ j : Int, 0 ≤ j → j < 2010 → 0 ≤ tokenEnd_0 j ∧ tokenEnd_0 j ≤ 2000) (kz_0_8 : 0 ≤ fault_0 ∧ fault_0 ≤ 5) (kz_0_10 : 0 ≤ limit_0 ∧ limit_0 ≤ 2000) (kz_0_158 : 0 ≤ cur_0 ∧ cur_0 ≤ 2009) : (x27 = 1) → (tokenKind_0 (cur_0) = 1) := by
  first | assumption | (clear f4 f5 f15 f16 hK_0_1 hK_0_160 hK_0_162 hK_0_163; omega) | (clear hK_0_1 hK_0_160 hK_0_162 hK_0_163; grind) | omega | grind
set_option maxHeartbeats 4000000 in
theorem vc_Mo_word_at_s5028_6_1 (x4 : Int) (x8 : Int) (x10 : Int) (x11 : Int) (x16 : Int) (x17 : Int) (x18 : Int) (x19 : Int) (x23 : Int) (x24 : Int) (x25 : Int) (x26 : Int) (x27 : Int) (tape_0 : Int → Int) (limit_0 : Int) (tokenPlace_0 : Int → Int) (cur_0 : Int) (tokenEnd_0 : Int → Int) (tokenKind_0 : Int → Int) (fault_0 : Int) (k4 : 0 ≤ x4 ∧ x4 ≤ 2009) (k8 : 3 ≤ x8 ∧ x8 ≤ 2000) (k10 : 0 ≤ x10 ∧ x10 ≤ 2000) (k11 : 3 ≤ x11 ∧ x11 ≤ 3) (k16 : 0 ≤ x16 ∧ x16 ≤ 1999) (k17 : 0 ≤ x17 ∧ x17 ≤ 1999) (k18 : 0 ≤ x18 ∧ x18 ≤ 255) (k19 : 0 ≤ x19 ∧ x19 ≤ 255) (k23 : 0 ≤ x23 ∧ x23 ≤ 1998) (k24 : 1 ≤ x24 ∧ x24 ≤ 1999) (k25 : 0 ≤ x25 ∧ x25 ≤ 255) (k26 : 0 ≤ x26 ∧ x26 ≤ 65535) (k27 : 0 ≤ x27 ∧ x27 ≤ 0) (d0 : x23 + 1 ≤ x24 ∧ x24 ≤ x23 + 1) (d1 : x19 + 0 ≤ x18 ∧ x18 ≤ x19 + 0) (d2 : x16 + 0 ≤ x17 ∧ x17 ≤ x16 + 0) (f1 : x25 ≠ x26) (f2 : 1 * x26 + 0 ≤ 97) (f3 : (-1) * x26 + 0 ≤ (-97)) (f4 : ((x24 + 1) ≤ limit_0) → (x25 = (tape_0 (x24) % 256))) (f5 : (limit_0 ≤ x24) → (x25 = (-1))) (h7 : x23 = tokenPlace_0 (x4)) (g8 : x4 = cur_0) (f13 : 1 * x19 + 0 ≤ 102) (f14 : (-1) * x19 + 0 ≤ (-102)) (f15 : ((x17 + 1) ≤ limit_0) → (x18 = (tape_0 (x17) % 256))) (f16 : (limit_0 ≤ x17) → (x18 = (-1))) (h18 : x16 = tokenPlace_0 (x4)) (f21 : x11 = x8 - x10) (h22 : x10 = tokenPlace_0 (x4)) (h23 : x8 = tokenEnd_0 (x4)) (kz_0_8 : 0 ≤ fault_0 ∧ fault_0 ≤ 5) (kz_0_10 : 0 ≤ limit_0 ∧ limit_0 ≤ 2000) (kz_0_158 : 0 ≤ cur_0 ∧ cur_0 ≤ 2009) : Wqfar (fault_0) (cur_0) (limit_0) (tokenKind_0) (tokenPlace_0) (tokenEnd_0) (tape_0) (x27) := by
  first
    | exact ⟨fun z => by omega, fun z => by have := z.1; omega⟩
    | (have e := (‹x4 = cur_0›)
       rw [← e]
       refine ⟨fun z => ⟨by omega, wdS3.2 ⟨by omega, by omega, by omega, by rw [show tokenPlace_0 x4 + 0 = x17 by omega]; omega, by rw [show tokenPlace_0 x4 + 1 = x24 by omega]; omega, by rw [show tokenPlace_0 x4 + 2 = x31 by omega]; omega⟩⟩, fun z => by omega⟩)
    | (have e := (‹x4 = cur_0›)
       rw [← e]
       refine ⟨fun z => by omega, fun z => ?_⟩
       have w := wdS3.1 z.2
       try (have q0 : tokenPlace_0 x4 + 0 = x17 := (by omega); rw [q0] at w)
       try (have q1 : tokenPlace_0 x4 + 1 = x24 := (by omega); rw [q1] at w)
       try (have q2 : tokenPlace_0 x4 + 2 = x31 := (by omega); rw [q2] at w)
       omega)
  
def o_Mo_word_at_s5028_6 : or_T := (102, 30, [(0, (2, 0, 0, [165])), (2, (0, 0, 0, [])), (3, (2, 0, 0, [274])), (4, (0, 0, 2009, [])), (5, (0, 1, 1, [])), (6, (0, 1, 1, [])), (7, (2, 0, 0, [277])), (8, (0, 3, 2000, [])), (9, (2, 0, 0, [276])), (10, (0, 0, 2000, [])), (11, (0, 3, 3, [])), (12, (0, 3, 3, [])), (14, (0, 0, 0, [])), (15, (0, 3, 3, [])), (16, (0, 0, 1999, [])), (17, (0, 0, 1999, [])), (18, (0, 0, 255, [])), (19, (0, 0, 255, [])), (21, (0, 1, 1, [])), (22, (0, 3, 3, [])), (23, (0, 0, 1998, [])), (24, (0, 1, 1999, [])), (25, (0, 0, 255, [])), (26, (0, 0, 65535, [])), (27, (0, 0, 0, []))], [(8, [27], [0]), (7, [25, 26], [1]), (23, [26], [97, 1]), (23, [26], [-97, -1]), (20, [24, 0, 25], [50, 1, 1, 1010, 1001, 4, 11, 0, 6, 4, 2, 1, 0, 0, 1, 2, 1, 10, 1, 2, 1, 2, 9, 5, 3, 1, 1, 1, 0, 0, 256]), (20, [0, 24, 25], [50, 1, 0, 10, 4, 7, 0, 3, 2, 0, 10, 1, 1, 1, 2, 1, 2, 0, -1]), (1, [24, 23, 21], []), (10, [23, 9, 4], []), (9, [4, 0], [158]), (9, [9, 0], [162]), (7, [21, 22], [2]), (6, [21, 14], [1]), (7, [18, 19], [0]), (23, [19], [102, 1]), (23, [19], [-102, -1]), (20, [17, 0, 18], [50, 1, 1, 1010, 1001, 4, 11, 0, 6, 4, 2, 1, 0, 0, 1, 2, 1, 10, 1, 2, 1, 2, 9, 5, 3, 1, 1, 1, 0, 0, 256]), (20, [0, 17, 18], [50, 1, 0, 10, 4, 7, 0, 3, 2, 0, 10, 1, 1, 1, 2, 1, 2, 0, -1]), (1, [17, 16, 14], []), (10, [16, 9, 4], []), (7, [14, 15], [2]), (7, [11, 12], [0]), (2, [11, 8, 10], []), (10, [10, 9, 4], []), (10, [8, 7, 4], []), (9, [7, 0], [163]), (7, [5, 6], [0]), (10, [5, 3, 4], []), (9, [3, 0], [160]), (8, [2], [0]), (9, [2, 0], [8])], [], [], [(20, [27, 0], [50, 1, 1, 1158, 1160, 4, 6, 1, 2, 1, 0, 0, 1, 1, 6, 3, 1, 160, 2, 1, 158, 0, 1]), (20, [0, 27], [60, 3, 4, 33, 8, 158, 10, 160, 162, 163, 1])], [], [(24, 23, 1, 1), (18, 19, 0, 0), (17, 16, 0, 0)])
theorem oo_Mo_word_at_s5028_6 {kA : Nat → ClassId} : or_ok PRD kA GG o_Mo_word_at_s5028_6 := by
  refine or_mk fun A ta ws vs hD hth hl => ?_
  intro t0 r0 t2 k2 t3 r3 t4 k4 t5 k5 t6 k6 t7 r7 t8 k8 t9 r9 t10 k10 t11 k11 t12 k12 t14 k14 t15 k15 t16 k16 t17 k17 t18 k18 t19 k19 t21 k21 t22 k22 t23 k23 t24 k24 t25 k25 t26 k26 t27 k27 d0 d1 d2 f0 f1 f2 f3 f4 f5 f6 f7 f8 f9 f10 f11 f12 f13 f14 f15 f16 f17 f18 f19 f20 f21 f22 f23 f24 f25 f26 f27 f28 f29
  replace f7 := shm_107 f7
  replace f8 := shm_286 f8
  replace f9 := shm_301 f9
  replace f18 := shm_107 f18
  replace f22 := shm_107 f22
  replace f23 := shm_107 f23
  replace f24 := shm_1332 f24
  replace f26 := shm_107 f26
  replace f27 := shm_327 f27
  replace f29 := shm_293 f29
  have cr_0_1 := fdq_39 hD hth r0
  have cr_0_160 := fdq_33 hD hth r0
  have cr_0_162 := fdq_41 hD hth r0
  have cr_0_163 := fdq_42 hD hth r0
  have ad_9 : v_ad (n_v vs 9) = w_ar ws (n_v vs 0) 162 := congrArg v_ad f9
  have ad_7 : v_ad (n_v vs 7) = w_ar ws (n_v vs 0) 163 := congrArg v_ad f24
  have ad_3 : v_ad (n_v vs 3) = w_ar ws (n_v vs 0) 160 := congrArg v_ad f27
  simp only [ad_9] at f7
  have h7 : v_iv (n_v vs 23) = w_ei ws (w_ar ws (n_v vs 0) 162) (v_iv (n_v vs 4)) := f7
  have g8 : v_iv (n_v vs 4) = w_fi ws (n_v vs 0) 158 := congrArg v_iv f8
  simp only [ad_9] at f18
  have h18 : v_iv (n_v vs 16) = w_ei ws (w_ar ws (n_v vs 0) 162) (v_iv (n_v vs 4)) := f18
  simp only [ad_9] at f22
  have h22 : v_iv (n_v vs 10) = w_ei ws (w_ar ws (n_v vs 0) 162) (v_iv (n_v vs 4)) := f22
  simp only [ad_7] at f23
  have h23 : v_iv (n_v vs 8) = w_ei ws (w_ar ws (n_v vs 0) 163) (v_iv (n_v vs 4)) := f23
  simp only [ad_3] at f26
  have h26 : v_iv (n_v vs 5) = w_ei ws (w_ar ws (n_v vs 0) 160) (v_iv (n_v vs 4)) := f26
  have g29 : v_iv (n_v vs 2) = w_fi ws (n_v vs 0) 8 := congrArg v_iv f29
  have hK_0_1 := elq_7 hD hth cr_0_1
  have hK_0_160 := elq_6 hD hth cr_0_160
  have hK_0_162 := elq_8 hD hth cr_0_162
  have hK_0_163 := elq_9 hD hth cr_0_163
  have kz_0_8 := fdq_34 hD hth r0
  have kz_0_10 := fdq_43 hD hth r0
  have kz_0_158 := fdq_36 hD hth r0
  have nf0 : fc_1 PRD (20, [27, 0], [50, 1, 1, 1158, 1160, 4, 6, 1, 2, 1, 0, 0, 1, 1, 6, 3, 1, 160, 2, 1, 158, 0, 1]) ws (vs) := ⟨nf_in hl rfl, sgq_287 (vc_Mo_word_at_s5028_6_0 (v_iv (n_v vs 2)) (v_iv (n_v vs 4)) (v_iv (n_v vs 5)) (v_iv (n_v vs 6)) (v_iv (n_v vs 8)) (v_iv (n_v vs 10)) (v_iv (n_v vs 11)) (v_iv (n_v vs 12)) (v_iv (n_v vs 14)) (v_iv (n_v vs 15)) (v_iv (n_v vs 16)) (v_iv (n_v vs 17)) (v_iv (n_v vs 18)) (v_iv (n_v vs 19)) (v_iv (n_v vs 21)) (v_iv (n_v vs 22)) (v_iv (n_v vs 23)) (v_iv (n_v vs 24)) (v_iv (n_v vs 25)) (v_iv (n_v vs 26)) (v_iv (n_v vs 27)) (w_ei ws (w_ar ws (n_v vs 0) 1)) (w_fi ws (n_v vs 0) 10) (w_ei ws (w_ar ws (n_v vs 0) 162)) (w_fi ws (n_v vs 0) 158) (w_ei ws (w_ar ws (n_v vs 0) 163)) (w_ei ws (w_ar ws (n_v vs 0) 160)) (w_fi ws (n_v vs 0) 8) k2 k4 k5 k6 k8 k10 k11 k12 k14 k15 k16 k17 k18 k19 k21 k22 k23 k24 k25 k26 k27 d0 d1 d2 (shm_192 f0) (shm_40 f1) (shm_85 f2) (shm_86 f3) (shm_541 f4) (shm_542 f5) (shm_12 f6) h7 g8 (shm_6 f10) (shm_4 f11) (shm_37 f12) (shm_83 f13) (shm_84 f14) (shm_541 f15) (shm_542 f16) (shm_12 f17) h18 (shm_6 f19) (shm_37 f20) (shm_14 f21) h22 h23 (shm_37 f25) h26 (shm_192 f28) g29 hK_0_1 hK_0_160 hK_0_162 hK_0_163 kz_0_8 kz_0_10 kz_0_158)⟩
  have nf1 : fc_1 PRD (20, [0, 27], [60, 3, 4, 33, 8, 158, 10, 160, 162, 163, 1]) ws (vs) := ⟨nf_in hl rfl, sgq_1872 (vc_Mo_word_at_s5028_6_1 (v_iv (n_v vs 4)) (v_iv (n_v vs 8)) (v_iv (n_v vs 10)) (v_iv (n_v vs 11)) (v_iv (n_v vs 16)) (v_iv (n_v vs 17)) (v_iv (n_v vs 18)) (v_iv (n_v vs 19)) (v_iv (n_v vs 23)) (v_iv (n_v vs 24)) (v_iv (n_v vs 25)) (v_iv (n_v vs 26)) (v_iv (n_v vs 27)) (w_ei ws (w_ar ws (n_v vs 0) 1)) (w_fi ws (n_v vs 0) 10) (w_ei ws (w_ar ws (n_v vs 0) 162)) (w_fi ws (n_v vs 0) 158) (w_ei ws (w_ar ws (n_v vs 0) 163)) (w_ei ws (w_ar ws (n_v vs 0) 160)) (w_fi ws (n_v vs 0) 8) k4 k8 k10 k11 k16 k17 k18 k19 k23 k24 k25 k26 k27 d0 d1 d2 (shm_40 f1) (shm_85 f2) (shm_86 f3) (shm_541 f4) (shm_542 f5) h7 g8 (shm_83 f13) (shm_84 f14) (shm_541 f15) (shm_542 f16) h18 (shm_14 f21) h22 h23 kz_0_8 kz_0_10 kz_0_158)⟩
  refine ⟨(fun _ h => (by cases h)), [], trivial, ?_, (fun _ h => (by cases h))⟩
  rw [List.append_nil]
  exact List.forall_mem_cons.mpr ⟨⟨show (20 : Nat) < 100 from by decide, nf0⟩, List.forall_mem_cons.mpr ⟨⟨show (20 : Nat) < 100 from by decide, nf1⟩, (fun _ h => (by cases h))⟩⟩
set_option maxHeartbeats 4000000 in
theorem vc_Mo_word_at_s5028_7_0 (x2 : Int) (x4 : Int) (x5 : Int) (x6 : Int) (x8 : Int) (x10 : Int) (x11 : Int) (x12 : Int) (x14 : Int) (x15 : Int) (x16 : Int) (x17 : Int) (x18 : Int) (x19 : Int) (x21 : Int) (x22 : Int) (x23 : Int) (x24 : Int) (x25 : Int) (x26 : Int) (x28 : Int) (x29 : Int) (x30 : Int) (x31 : Int) (x32 : Int) (x33 : Int) (x34 : Int) (tape_0 : Int → Int) (limit_0 : Int) (tokenPlace_0 : Int → Int) (cur_0 : Int) (tokenEnd_0 : Int → Int) (tokenKind_0 : Int → Int) (fault_0 : Int) (k2 : 0 ≤ x2 ∧ x2 ≤ 0) (k4 : 0 ≤ x4 ∧ x4 ≤ 2009) (k5 : 1 ≤ x5 ∧ x5 ≤ 1) (k6 : 1 ≤ x6 ∧ x6 ≤ 1) (k8 : 3 ≤ x8 ∧ x8 ≤ 2000) (k10 : 0 ≤ x10 ∧ x10 ≤ 2000) (k11 : 3 ≤ x11 ∧ x11 ≤ 3) (k12 : 3 ≤ x12 ∧ x12 ≤ 3) (k14 : 0 ≤ x14 ∧ x14 ≤ 0) (k15 : 3 ≤ x15 ∧ x15 ≤ 3) (k16 : 0 ≤ x16 ∧ x16 ≤ 1999) (k17 : 0 ≤ x17 ∧ x17 ≤ 1999) (k18 : 0 ≤ x18 ∧ x18 ≤ 255) (k19 : 0 ≤ x19 ∧ x19 ≤ 255) (k21 : 1 ≤ x21 ∧ x21 ≤ 1) (k22 : 3 ≤ x22 ∧ x22 ≤ 3) (k23 : 0 ≤ x23 ∧ x23 ≤ 1998) (k24 : 1 ≤ x24 ∧ x24 ≤ 1999) (k25 : 0 ≤ x25 ∧ x25 ≤ 255) (k26 : 0 ≤ x26 ∧ x26 ≤ 255) (k28 : 2 ≤ x28 ∧ x28 ≤ 2) (k29 : 3 ≤ x29 ∧ x29 ≤ 3) (k30 : 0 ≤ x30 ∧ x30 ≤ 2000) (k31 : 2 ≤ x31 ∧ x31 ≤ 2002) (k32 : (-1) ≤ x32 ∧ x32 ≤ (-1)) (k33 : 0 ≤ x33 ∧ x33 ≤ 65535) (k34 : 0 ≤ x34 ∧ x34 ≤ 0) (d0 : x30 + 2 ≤ x31 ∧ x31 ≤ x30 + 2) (d1 : x26 + 0 ≤ x25 ∧ x25 ≤ x26 + 0) (d2 : x23 + 1 ≤ x24 ∧ x24 ≤ x23 + 1) (d3 : x19 + 0 ≤ x18 ∧ x18 ≤ x19 + 0) (d4 : x16 + 0 ≤ x17 ∧ x17 ≤ x16 + 0) (f0 : x32 ≠ x33) (f1 : 1 * x33 + 0 ≤ 114) (f2 : (-1) * x33 + 0 ≤ (-114)) (f3 : ((x31 + 1) ≤ limit_0) → (x32 = (tape_0 (x31) % 256))) (f4 : (limit_0 ≤ x31) → (x32 = (-1))) (f5 : x31 = x30 + x28) (h6 : x30 = tokenPlace_0 (x4)) (g7 : x4 = cur_0) (f9 : x28 < x29) (f10 : x28 = x21 + 1) (f11 : x25 = x26) (f12 : 1 * x26 + 0 ≤ 97) (f13 : (-1) * x26 + 0 ≤ (-97)) (f14 : ((x24 + 1) ≤ limit_0) → (x25 = (tape_0 (x24) % 256))) (f15 : (limit_0 ≤ x24) → (x25 = (-1))) (f16 : x24 = x23 + x21) (h17 : x23 = tokenPlace_0 (x4)) (f18 : x21 < x22) (f19 : x21 = x14 + 1) (f20 : x18 = x19) (f21 : 1 * x19 + 0 ≤ 102) (f22 : (-1) * x19 + 0 ≤ (-102)) (f23 : ((x17 + 1) ≤ limit_0) → (x18 = (tape_0 (x17) % 256))) (f24 : (limit_0 ≤ x17) → (x18 = (-1))) (f25 : x17 = x16 + x14) (h26 : x16 = tokenPlace_0 (x4)) (f27 : x14 < x15) (f28 : x11 = x12) (f29 : x11 = x8 - x10) (h30 : x10 = tokenPlace_0 (x4)) (h31 : x8 = tokenEnd_0 (x4)) (f33 : x5 = x6) (h34 : x5 = tokenKind_0 (x4)) (f36 : x2 = 0) (g37 : x2 = fault_0) (hK_0_1 : ∀ j : Int, 0 ≤ j → j < 2000 → (-128) ≤ tape_0 j ∧ tape_0 j ≤ 127) (hK_0_160 : ∀ j : Int, 0 ≤ j → j < 2010 → 0 ≤ tokenKind_0 j ∧ tokenKind_0 j ≤ 4) (hK_0_162 : ∀ j : Int, 0 ≤ j → j < 2010 → 0 ≤ tokenPlace_0 j ∧ tokenPlace_0 j ≤ 2000) (hK_0_163 : ∀ j : Int, 0 ≤ j → j < 2010 → 0 ≤ tokenEnd_0 j ∧ tokenEnd_0 j ≤ 2000) (kz_0_8 : 0 ≤ fault_0 ∧ fault_0 ≤ 5) (kz_0_10 : 0 ≤ limit_0 ∧ limit_0 ≤ 2000) (kz_0_158 : 0 ≤ cur_0 ∧ cur_0 ≤ 2009) : (x34 = 1) → (tokenKind_0 (cur_0) = 1) := by
  first | assumption | (clear f3 f4 f14 f15 f23 f24 hK_0_1 hK_0_160 hK_0_162 hK_0_163; omega) | (clear hK_0_1 hK_0_160 hK_0_162 hK_0_163; grind) | omega | grind
set_option maxHeartbeats 4000000 in
theorem vc_Mo_word_at_s5028_7_1 (x4 : Int) (x8 : Int) (x10 : Int) (x11 : Int) (x16 : Int) (x17 : Int) (x18 : Int) (x19 : Int) (x23 : Int) (x24 : Int) (x25 : Int) (x26 : Int) (x30 : Int) (x31 : Int) (x32 : Int) (x34 : Int) (tape_0 : Int → Int) (limit_0 : Int) (tokenPlace_0 : Int → Int) (cur_0 : Int) (tokenEnd_0 : Int → Int) (tokenKind_0 : Int → Int) (fault_0 : Int) (k4 : 0 ≤ x4 ∧ x4 ≤ 2009) (k8 : 3 ≤ x8 ∧ x8 ≤ 2000) (k10 : 0 ≤ x10 ∧ x10 ≤ 2000) (k11 : 3 ≤ x11 ∧ x11 ≤ 3) (k16 : 0 ≤ x16 ∧ x16 ≤ 1999) (k17 : 0 ≤ x17 ∧ x17 ≤ 1999) (k18 : 0 ≤ x18 ∧ x18 ≤ 255) (k19 : 0 ≤ x19 ∧ x19 ≤ 255) (k23 : 0 ≤ x23 ∧ x23 ≤ 1998) (k24 : 1 ≤ x24 ∧ x24 ≤ 1999) (k25 : 0 ≤ x25 ∧ x25 ≤ 255) (k26 : 0 ≤ x26 ∧ x26 ≤ 255) (k30 : 0 ≤ x30 ∧ x30 ≤ 2000) (k31 : 2 ≤ x31 ∧ x31 ≤ 2002) (k32 : (-1) ≤ x32 ∧ x32 ≤ (-1)) (k34 : 0 ≤ x34 ∧ x34 ≤ 0) (d0 : x30 + 2 ≤ x31 ∧ x31 ≤ x30 + 2) (d1 : x26 + 0 ≤ x25 ∧ x25 ≤ x26 + 0) (d2 : x23 + 1 ≤ x24 ∧ x24 ≤ x23 + 1) (d3 : x19 + 0 ≤ x18 ∧ x18 ≤ x19 + 0) (d4 : x16 + 0 ≤ x17 ∧ x17 ≤ x16 + 0) (f3 : ((x31 + 1) ≤ limit_0) → (x32 = (tape_0 (x31) % 256))) (f4 : (limit_0 ≤ x31) → (x32 = (-1))) (h6 : x30 = tokenPlace_0 (x4)) (g7 : x4 = cur_0) (f12 : 1 * x26 + 0 ≤ 97) (f13 : (-1) * x26 + 0 ≤ (-97)) (f14 : ((x24 + 1) ≤ limit_0) → (x25 = (tape_0 (x24) % 256))) (f15 : (limit_0 ≤ x24) → (x25 = (-1))) (h17 : x23 = tokenPlace_0 (x4)) (f21 : 1 * x19 + 0 ≤ 102) (f22 : (-1) * x19 + 0 ≤ (-102)) (f23 : ((x17 + 1) ≤ limit_0) → (x18 = (tape_0 (x17) % 256))) (f24 : (limit_0 ≤ x17) → (x18 = (-1))) (h26 : x16 = tokenPlace_0 (x4)) (f29 : x11 = x8 - x10) (h30 : x10 = tokenPlace_0 (x4)) (h31 : x8 = tokenEnd_0 (x4)) (kz_0_8 : 0 ≤ fault_0 ∧ fault_0 ≤ 5) (kz_0_10 : 0 ≤ limit_0 ∧ limit_0 ≤ 2000) (kz_0_158 : 0 ≤ cur_0 ∧ cur_0 ≤ 2009) : Wqfar (fault_0) (cur_0) (limit_0) (tokenKind_0) (tokenPlace_0) (tokenEnd_0) (tape_0) (x34) := by
  first
    | exact ⟨fun z => by omega, fun z => by have := z.1; omega⟩
    | (have e := (‹x4 = cur_0›)
       rw [← e]
       refine ⟨fun z => ⟨by omega, wdS3.2 ⟨by omega, by omega, by omega, by rw [show tokenPlace_0 x4 + 0 = x17 by omega]; omega, by rw [show tokenPlace_0 x4 + 1 = x24 by omega]; omega, by rw [show tokenPlace_0 x4 + 2 = x31 by omega]; omega⟩⟩, fun z => by omega⟩)
    | (have e := (‹x4 = cur_0›)
       rw [← e]
       refine ⟨fun z => by omega, fun z => ?_⟩
       have w := wdS3.1 z.2
       try (have q0 : tokenPlace_0 x4 + 0 = x17 := (by omega); rw [q0] at w)
       try (have q1 : tokenPlace_0 x4 + 1 = x24 := (by omega); rw [q1] at w)
       try (have q2 : tokenPlace_0 x4 + 2 = x31 := (by omega); rw [q2] at w)
       omega)
  
def o_Mo_word_at_s5028_7 : or_T := (102, 37, [(0, (2, 0, 0, [165])), (2, (0, 0, 0, [])), (3, (2, 0, 0, [274])), (4, (0, 0, 2009, [])), (5, (0, 1, 1, [])), (6, (0, 1, 1, [])), (7, (2, 0, 0, [277])), (8, (0, 3, 2000, [])), (9, (2, 0, 0, [276])), (10, (0, 0, 2000, [])), (11, (0, 3, 3, [])), (12, (0, 3, 3, [])), (14, (0, 0, 0, [])), (15, (0, 3, 3, [])), (16, (0, 0, 1999, [])), (17, (0, 0, 1999, [])), (18, (0, 0, 255, [])), (19, (0, 0, 255, [])), (21, (0, 1, 1, [])), (22, (0, 3, 3, [])), (23, (0, 0, 1998, [])), (24, (0, 1, 1999, [])), (25, (0, 0, 255, [])), (26, (0, 0, 255, [])), (28, (0, 2, 2, [])), (29, (0, 3, 3, [])), (30, (0, 0, 2000, [])), (31, (0, 2, 2002, [])), (32, (0, -1, -1, [])), (33, (0, 0, 65535, [])), (34, (0, 0, 0, []))], [(7, [32, 33], [1]), (23, [33], [114, 1]), (23, [33], [-114, -1]), (20, [31, 0, 32], [50, 1, 1, 1010, 1001, 4, 11, 0, 6, 4, 2, 1, 0, 0, 1, 2, 1, 10, 1, 2, 1, 2, 9, 5, 3, 1, 1, 1, 0, 0, 256]), (20, [0, 31, 32], [50, 1, 0, 10, 4, 7, 0, 3, 2, 0, 10, 1, 1, 1, 2, 1, 2, 0, -1]), (1, [31, 30, 28], []), (10, [30, 9, 4], []), (9, [4, 0], [158]), (9, [9, 0], [162]), (7, [28, 29], [2]), (6, [28, 21], [1]), (7, [25, 26], [0]), (23, [26], [97, 1]), (23, [26], [-97, -1]), (20, [24, 0, 25], [50, 1, 1, 1010, 1001, 4, 11, 0, 6, 4, 2, 1, 0, 0, 1, 2, 1, 10, 1, 2, 1, 2, 9, 5, 3, 1, 1, 1, 0, 0, 256]), (20, [0, 24, 25], [50, 1, 0, 10, 4, 7, 0, 3, 2, 0, 10, 1, 1, 1, 2, 1, 2, 0, -1]), (1, [24, 23, 21], []), (10, [23, 9, 4], []), (7, [21, 22], [2]), (6, [21, 14], [1]), (7, [18, 19], [0]), (23, [19], [102, 1]), (23, [19], [-102, -1]), (20, [17, 0, 18], [50, 1, 1, 1010, 1001, 4, 11, 0, 6, 4, 2, 1, 0, 0, 1, 2, 1, 10, 1, 2, 1, 2, 9, 5, 3, 1, 1, 1, 0, 0, 256]), (20, [0, 17, 18], [50, 1, 0, 10, 4, 7, 0, 3, 2, 0, 10, 1, 1, 1, 2, 1, 2, 0, -1]), (1, [17, 16, 14], []), (10, [16, 9, 4], []), (7, [14, 15], [2]), (7, [11, 12], [0]), (2, [11, 8, 10], []), (10, [10, 9, 4], []), (10, [8, 7, 4], []), (9, [7, 0], [163]), (7, [5, 6], [0]), (10, [5, 3, 4], []), (9, [3, 0], [160]), (8, [2], [0]), (9, [2, 0], [8])], [], [], [(20, [34, 0], [50, 1, 1, 1158, 1160, 4, 6, 1, 2, 1, 0, 0, 1, 1, 6, 3, 1, 160, 2, 1, 158, 0, 1]), (20, [0, 34], [60, 3, 4, 33, 8, 158, 10, 160, 162, 163, 1])], [], [(31, 30, 2, 2), (25, 26, 0, 0), (24, 23, 1, 1), (18, 19, 0, 0), (17, 16, 0, 0)])
theorem oo_Mo_word_at_s5028_7 {kA : Nat → ClassId} : or_ok PRD kA GG o_Mo_word_at_s5028_7 := by
  refine or_mk fun A ta ws vs hD hth hl => ?_
  intro t0 r0 t2 k2 t3 r3 t4 k4 t5 k5 t6 k6 t7 r7 t8 k8 t9 r9 t10 k10 t11 k11 t12 k12 t14 k14 t15 k15 t16 k16 t17 k17 t18 k18 t19 k19 t21 k21 t22 k22 t23 k23 t24 k24 t25 k25 t26 k26 t28 k28 t29 k29 t30 k30 t31 k31 t32 k32 t33 k33 t34 k34 d0 d1 d2 d3 d4 f0 f1 f2 f3 f4 f5 f6 f7 f8 f9 f10 f11 f12 f13 f14 f15 f16 f17 f18 f19 f20 f21 f22 f23 f24 f25 f26 f27 f28 f29 f30 f31 f32 f33 f34 f35 f36 f37
  replace f6 := shm_107 f6
  replace f7 := shm_286 f7
  replace f8 := shm_301 f8
  replace f17 := shm_107 f17
  replace f26 := shm_107 f26
  replace f30 := shm_107 f30
  replace f31 := shm_107 f31
  replace f32 := shm_1332 f32
  replace f34 := shm_107 f34
  replace f35 := shm_327 f35
  replace f37 := shm_293 f37
  have cr_0_1 := fdq_39 hD hth r0
  have cr_0_160 := fdq_33 hD hth r0
  have cr_0_162 := fdq_41 hD hth r0
  have cr_0_163 := fdq_42 hD hth r0
  have ad_9 : v_ad (n_v vs 9) = w_ar ws (n_v vs 0) 162 := congrArg v_ad f8
  have ad_7 : v_ad (n_v vs 7) = w_ar ws (n_v vs 0) 163 := congrArg v_ad f32
  have ad_3 : v_ad (n_v vs 3) = w_ar ws (n_v vs 0) 160 := congrArg v_ad f35
  simp only [ad_9] at f6
  have h6 : v_iv (n_v vs 30) = w_ei ws (w_ar ws (n_v vs 0) 162) (v_iv (n_v vs 4)) := f6
  have g7 : v_iv (n_v vs 4) = w_fi ws (n_v vs 0) 158 := congrArg v_iv f7
  simp only [ad_9] at f17
  have h17 : v_iv (n_v vs 23) = w_ei ws (w_ar ws (n_v vs 0) 162) (v_iv (n_v vs 4)) := f17
  simp only [ad_9] at f26
  have h26 : v_iv (n_v vs 16) = w_ei ws (w_ar ws (n_v vs 0) 162) (v_iv (n_v vs 4)) := f26
  simp only [ad_9] at f30
  have h30 : v_iv (n_v vs 10) = w_ei ws (w_ar ws (n_v vs 0) 162) (v_iv (n_v vs 4)) := f30
  simp only [ad_7] at f31
  have h31 : v_iv (n_v vs 8) = w_ei ws (w_ar ws (n_v vs 0) 163) (v_iv (n_v vs 4)) := f31
  simp only [ad_3] at f34
  have h34 : v_iv (n_v vs 5) = w_ei ws (w_ar ws (n_v vs 0) 160) (v_iv (n_v vs 4)) := f34
  have g37 : v_iv (n_v vs 2) = w_fi ws (n_v vs 0) 8 := congrArg v_iv f37
  have hK_0_1 := elq_7 hD hth cr_0_1
  have hK_0_160 := elq_6 hD hth cr_0_160
  have hK_0_162 := elq_8 hD hth cr_0_162
  have hK_0_163 := elq_9 hD hth cr_0_163
  have kz_0_8 := fdq_34 hD hth r0
  have kz_0_10 := fdq_43 hD hth r0
  have kz_0_158 := fdq_36 hD hth r0
  have nf0 : fc_1 PRD (20, [34, 0], [50, 1, 1, 1158, 1160, 4, 6, 1, 2, 1, 0, 0, 1, 1, 6, 3, 1, 160, 2, 1, 158, 0, 1]) ws (vs) := ⟨nf_in hl rfl, sgq_287 (vc_Mo_word_at_s5028_7_0 (v_iv (n_v vs 2)) (v_iv (n_v vs 4)) (v_iv (n_v vs 5)) (v_iv (n_v vs 6)) (v_iv (n_v vs 8)) (v_iv (n_v vs 10)) (v_iv (n_v vs 11)) (v_iv (n_v vs 12)) (v_iv (n_v vs 14)) (v_iv (n_v vs 15)) (v_iv (n_v vs 16)) (v_iv (n_v vs 17)) (v_iv (n_v vs 18)) (v_iv (n_v vs 19)) (v_iv (n_v vs 21)) (v_iv (n_v vs 22)) (v_iv (n_v vs 23)) (v_iv (n_v vs 24)) (v_iv (n_v vs 25)) (v_iv (n_v vs 26)) (v_iv (n_v vs 28)) (v_iv (n_v vs 29)) (v_iv (n_v vs 30)) (v_iv (n_v vs 31)) (v_iv (n_v vs 32)) (v_iv (n_v vs 33)) (v_iv (n_v vs 34)) (w_ei ws (w_ar ws (n_v vs 0) 1)) (w_fi ws (n_v vs 0) 10) (w_ei ws (w_ar ws (n_v vs 0) 162)) (w_fi ws (n_v vs 0) 158) (w_ei ws (w_ar ws (n_v vs 0) 163)) (w_ei ws (w_ar ws (n_v vs 0) 160)) (w_fi ws (n_v vs 0) 8) k2 k4 k5 k6 k8 k10 k11 k12 k14 k15 k16 k17 k18 k19 k21 k22 k23 k24 k25 k26 k28 k29 k30 k31 k32 k33 k34 d0 d1 d2 d3 d4 (shm_40 f0) (shm_63 f1) (shm_64 f2) (shm_541 f3) (shm_542 f4) (shm_12 f5) h6 g7 (shm_6 f9) (shm_4 f10) (shm_37 f11) (shm_85 f12) (shm_86 f13) (shm_541 f14) (shm_542 f15) (shm_12 f16) h17 (shm_6 f18) (shm_4 f19) (shm_37 f20) (shm_83 f21) (shm_84 f22) (shm_541 f23) (shm_542 f24) (shm_12 f25) h26 (shm_6 f27) (shm_37 f28) (shm_14 f29) h30 h31 (shm_37 f33) h34 (shm_192 f36) g37 hK_0_1 hK_0_160 hK_0_162 hK_0_163 kz_0_8 kz_0_10 kz_0_158)⟩
  have nf1 : fc_1 PRD (20, [0, 34], [60, 3, 4, 33, 8, 158, 10, 160, 162, 163, 1]) ws (vs) := ⟨nf_in hl rfl, sgq_1872 (vc_Mo_word_at_s5028_7_1 (v_iv (n_v vs 4)) (v_iv (n_v vs 8)) (v_iv (n_v vs 10)) (v_iv (n_v vs 11)) (v_iv (n_v vs 16)) (v_iv (n_v vs 17)) (v_iv (n_v vs 18)) (v_iv (n_v vs 19)) (v_iv (n_v vs 23)) (v_iv (n_v vs 24)) (v_iv (n_v vs 25)) (v_iv (n_v vs 26)) (v_iv (n_v vs 30)) (v_iv (n_v vs 31)) (v_iv (n_v vs 32)) (v_iv (n_v vs 34)) (w_ei ws (w_ar ws (n_v vs 0) 1)) (w_fi ws (n_v vs 0) 10) (w_ei ws (w_ar ws (n_v vs 0) 162)) (w_fi ws (n_v vs 0) 158) (w_ei ws (w_ar ws (n_v vs 0) 163)) (w_ei ws (w_ar ws (n_v vs 0) 160)) (w_fi ws (n_v vs 0) 8) k4 k8 k10 k11 k16 k17 k18 k19 k23 k24 k25 k26 k30 k31 k32 k34 d0 d1 d2 d3 d4 (shm_541 f3) (shm_542 f4) h6 g7 (shm_85 f12) (shm_86 f13) (shm_541 f14) (shm_542 f15) h17 (shm_83 f21) (shm_84 f22) (shm_541 f23) (shm_542 f24) h26 (shm_14 f29) h30 h31 kz_0_8 kz_0_10 kz_0_158)⟩
  refine ⟨(fun _ h => (by cases h)), [], trivial, ?_, (fun _ h => (by cases h))⟩
  rw [List.append_nil]
  exact List.forall_mem_cons.mpr ⟨⟨show (20 : Nat) < 100 from by decide, nf0⟩, List.forall_mem_cons.mpr ⟨⟨show (20 : Nat) < 100 from by decide, nf1⟩, (fun _ h => (by cases h))⟩⟩
set_option maxHeartbeats 4000000 in
theorem vc_Mo_word_at_s5028_8_0 (x2 : Int) (x4 : Int) (x5 : Int) (x6 : Int) (x8 : Int) (x10 : Int) (x11 : Int) (x12 : Int) (x14 : Int) (x15 : Int) (x16 : Int) (x17 : Int) (x18 : Int) (x19 : Int) (x21 : Int) (x22 : Int) (x23 : Int) (x24 : Int) (x25 : Int) (x26 : Int) (x28 : Int) (x29 : Int) (x30 : Int) (x31 : Int) (x32 : Int) (x33 : Int) (x34 : Int) (tape_0 : Int → Int) (limit_0 : Int) (tokenPlace_0 : Int → Int) (cur_0 : Int) (tokenEnd_0 : Int → Int) (tokenKind_0 : Int → Int) (fault_0 : Int) (k2 : 0 ≤ x2 ∧ x2 ≤ 0) (k4 : 0 ≤ x4 ∧ x4 ≤ 2009) (k5 : 1 ≤ x5 ∧ x5 ≤ 1) (k6 : 1 ≤ x6 ∧ x6 ≤ 1) (k8 : 3 ≤ x8 ∧ x8 ≤ 2000) (k10 : 0 ≤ x10 ∧ x10 ≤ 2000) (k11 : 3 ≤ x11 ∧ x11 ≤ 3) (k12 : 3 ≤ x12 ∧ x12 ≤ 3) (k14 : 0 ≤ x14 ∧ x14 ≤ 0) (k15 : 3 ≤ x15 ∧ x15 ≤ 3) (k16 : 0 ≤ x16 ∧ x16 ≤ 1999) (k17 : 0 ≤ x17 ∧ x17 ≤ 1999) (k18 : 0 ≤ x18 ∧ x18 ≤ 255) (k19 : 0 ≤ x19 ∧ x19 ≤ 255) (k21 : 1 ≤ x21 ∧ x21 ≤ 1) (k22 : 3 ≤ x22 ∧ x22 ≤ 3) (k23 : 0 ≤ x23 ∧ x23 ≤ 1998) (k24 : 1 ≤ x24 ∧ x24 ≤ 1999) (k25 : 0 ≤ x25 ∧ x25 ≤ 255) (k26 : 0 ≤ x26 ∧ x26 ≤ 255) (k28 : 2 ≤ x28 ∧ x28 ≤ 2) (k29 : 3 ≤ x29 ∧ x29 ≤ 3) (k30 : 0 ≤ x30 ∧ x30 ≤ 1997) (k31 : 2 ≤ x31 ∧ x31 ≤ 1999) (k32 : 0 ≤ x32 ∧ x32 ≤ 255) (k33 : 0 ≤ x33 ∧ x33 ≤ 65535) (k34 : 0 ≤ x34 ∧ x34 ≤ 0) (d0 : x30 + 2 ≤ x31 ∧ x31 ≤ x30 + 2) (d1 : x26 + 0 ≤ x25 ∧ x25 ≤ x26 + 0) (d2 : x23 + 1 ≤ x24 ∧ x24 ≤ x23 + 1) (d3 : x19 + 0 ≤ x18 ∧ x18 ≤ x19 + 0) (d4 : x16 + 0 ≤ x17 ∧ x17 ≤ x16 + 0) (f0 : x32 ≠ x33) (f1 : 1 * x33 + 0 ≤ 114) (f2 : (-1) * x33 + 0 ≤ (-114)) (f3 : ((x31 + 1) ≤ limit_0) → (x32 = (tape_0 (x31) % 256))) (f4 : (limit_0 ≤ x31) → (x32 = (-1))) (f5 : x31 = x30 + x28) (h6 : x30 = tokenPlace_0 (x4)) (g7 : x4 = cur_0) (f9 : x28 < x29) (f10 : x28 = x21 + 1) (f11 : x25 = x26) (f12 : 1 * x26 + 0 ≤ 97) (f13 : (-1) * x26 + 0 ≤ (-97)) (f14 : ((x24 + 1) ≤ limit_0) → (x25 = (tape_0 (x24) % 256))) (f15 : (limit_0 ≤ x24) → (x25 = (-1))) (f16 : x24 = x23 + x21) (h17 : x23 = tokenPlace_0 (x4)) (f18 : x21 < x22) (f19 : x21 = x14 + 1) (f20 : x18 = x19) (f21 : 1 * x19 + 0 ≤ 102) (f22 : (-1) * x19 + 0 ≤ (-102)) (f23 : ((x17 + 1) ≤ limit_0) → (x18 = (tape_0 (x17) % 256))) (f24 : (limit_0 ≤ x17) → (x18 = (-1))) (f25 : x17 = x16 + x14) (h26 : x16 = tokenPlace_0 (x4)) (f27 : x14 < x15) (f28 : x11 = x12) (f29 : x11 = x8 - x10) (h30 : x10 = tokenPlace_0 (x4)) (h31 : x8 = tokenEnd_0 (x4)) (f33 : x5 = x6) (h34 : x5 = tokenKind_0 (x4)) (f36 : x2 = 0) (g37 : x2 = fault_0) (hK_0_1 : ∀ j : Int, 0 ≤ j → j < 2000 → (-128) ≤ tape_0 j ∧ tape_0 j ≤ 127) (hK_0_160 : ∀ j : Int, 0 ≤ j → j < 2010 → 0 ≤ tokenKind_0 j ∧ tokenKind_0 j ≤ 4) (hK_0_162 : ∀ j : Int, 0 ≤ j → j < 2010 → 0 ≤ tokenPlace_0 j ∧ tokenPlace_0 j ≤ 2000) (hK_0_163 : ∀ j : Int, 0 ≤ j → j < 2010 → 0 ≤ tokenEnd_0 j ∧ tokenEnd_0 j ≤ 2000) (kz_0_8 : 0 ≤ fault_0 ∧ fault_0 ≤ 5) (kz_0_10 : 0 ≤ limit_0 ∧ limit_0 ≤ 2000) (kz_0_158 : 0 ≤ cur_0 ∧ cur_0 ≤ 2009) : (x34 = 1) → (tokenKind_0 (cur_0) = 1) := by
  first | assumption | (clear f3 f4 f14 f15 f23 f24 hK_0_1 hK_0_160 hK_0_162 hK_0_163; omega) | (clear hK_0_1 hK_0_160 hK_0_162 hK_0_163; grind) | omega | grind
set_option maxHeartbeats 4000000 in
theorem vc_Mo_word_at_s5028_8_1 (x4 : Int) (x8 : Int) (x10 : Int) (x11 : Int) (x16 : Int) (x17 : Int) (x18 : Int) (x19 : Int) (x23 : Int) (x24 : Int) (x25 : Int) (x26 : Int) (x30 : Int) (x31 : Int) (x32 : Int) (x33 : Int) (x34 : Int) (tape_0 : Int → Int) (limit_0 : Int) (tokenPlace_0 : Int → Int) (cur_0 : Int) (tokenEnd_0 : Int → Int) (tokenKind_0 : Int → Int) (fault_0 : Int) (k4 : 0 ≤ x4 ∧ x4 ≤ 2009) (k8 : 3 ≤ x8 ∧ x8 ≤ 2000) (k10 : 0 ≤ x10 ∧ x10 ≤ 2000) (k11 : 3 ≤ x11 ∧ x11 ≤ 3) (k16 : 0 ≤ x16 ∧ x16 ≤ 1999) (k17 : 0 ≤ x17 ∧ x17 ≤ 1999) (k18 : 0 ≤ x18 ∧ x18 ≤ 255) (k19 : 0 ≤ x19 ∧ x19 ≤ 255) (k23 : 0 ≤ x23 ∧ x23 ≤ 1998) (k24 : 1 ≤ x24 ∧ x24 ≤ 1999) (k25 : 0 ≤ x25 ∧ x25 ≤ 255) (k26 : 0 ≤ x26 ∧ x26 ≤ 255) (k30 : 0 ≤ x30 ∧ x30 ≤ 1997) (k31 : 2 ≤ x31 ∧ x31 ≤ 1999) (k32 : 0 ≤ x32 ∧ x32 ≤ 255) (k33 : 0 ≤ x33 ∧ x33 ≤ 65535) (k34 : 0 ≤ x34 ∧ x34 ≤ 0) (d0 : x30 + 2 ≤ x31 ∧ x31 ≤ x30 + 2) (d1 : x26 + 0 ≤ x25 ∧ x25 ≤ x26 + 0) (d2 : x23 + 1 ≤ x24 ∧ x24 ≤ x23 + 1) (d3 : x19 + 0 ≤ x18 ∧ x18 ≤ x19 + 0) (d4 : x16 + 0 ≤ x17 ∧ x17 ≤ x16 + 0) (f0 : x32 ≠ x33) (f1 : 1 * x33 + 0 ≤ 114) (f2 : (-1) * x33 + 0 ≤ (-114)) (f3 : ((x31 + 1) ≤ limit_0) → (x32 = (tape_0 (x31) % 256))) (f4 : (limit_0 ≤ x31) → (x32 = (-1))) (h6 : x30 = tokenPlace_0 (x4)) (g7 : x4 = cur_0) (f12 : 1 * x26 + 0 ≤ 97) (f13 : (-1) * x26 + 0 ≤ (-97)) (f14 : ((x24 + 1) ≤ limit_0) → (x25 = (tape_0 (x24) % 256))) (f15 : (limit_0 ≤ x24) → (x25 = (-1))) (h17 : x23 = tokenPlace_0 (x4)) (f21 : 1 * x19 + 0 ≤ 102) (f22 : (-1) * x19 + 0 ≤ (-102)) (f23 : ((x17 + 1) ≤ limit_0) → (x18 = (tape_0 (x17) % 256))) (f24 : (limit_0 ≤ x17) → (x18 = (-1))) (h26 : x16 = tokenPlace_0 (x4)) (f29 : x11 = x8 - x10) (h30 : x10 = tokenPlace_0 (x4)) (h31 : x8 = tokenEnd_0 (x4)) (kz_0_8 : 0 ≤ fault_0 ∧ fault_0 ≤ 5) (kz_0_10 : 0 ≤ limit_0 ∧ limit_0 ≤ 2000) (kz_0_158 : 0 ≤ cur_0 ∧ cur_0 ≤ 2009) : Wqfar (fault_0) (cur_0) (limit_0) (tokenKind_0) (tokenPlace_0) (tokenEnd_0) (tape_0) (x34) := by
  first
    | exact ⟨fun z => by omega, fun z => by have := z.1; omega⟩
    | (have e := (‹x4 = cur_0›)
       rw [← e]
       refine ⟨fun z => ⟨by omega, wdS3.2 ⟨by omega, by omega, by omega, by rw [show tokenPlace_0 x4 + 0 = x17 by omega]; omega, by rw [show tokenPlace_0 x4 + 1 = x24 by omega]; omega, by rw [show tokenPlace_0 x4 + 2 = x31 by omega]; omega⟩⟩, fun z => by omega⟩)
    | (have e := (‹x4 = cur_0›)
       rw [← e]
       refine ⟨fun z => by omega, fun z => ?_⟩
       have w := wdS3.1 z.2
       try (have q0 : tokenPlace_0 x4 + 0 = x17 := (by omega); rw [q0] at w)
       try (have q1 : tokenPlace_0 x4 + 1 = x24 := (by omega); rw [q1] at w)
       try (have q2 : tokenPlace_0 x4 + 2 = x31 := (by omega); rw [q2] at w)
       omega)
  
def o_Mo_word_at_s5028_8 : or_T := (102, 37, [(0, (2, 0, 0, [165])), (2, (0, 0, 0, [])), (3, (2, 0, 0, [274])), (4, (0, 0, 2009, [])), (5, (0, 1, 1, [])), (6, (0, 1, 1, [])), (7, (2, 0, 0, [277])), (8, (0, 3, 2000, [])), (9, (2, 0, 0, [276])), (10, (0, 0, 2000, [])), (11, (0, 3, 3, [])), (12, (0, 3, 3, [])), (14, (0, 0, 0, [])), (15, (0, 3, 3, [])), (16, (0, 0, 1999, [])), (17, (0, 0, 1999, [])), (18, (0, 0, 255, [])), (19, (0, 0, 255, [])), (21, (0, 1, 1, [])), (22, (0, 3, 3, [])), (23, (0, 0, 1998, [])), (24, (0, 1, 1999, [])), (25, (0, 0, 255, [])), (26, (0, 0, 255, [])), (28, (0, 2, 2, [])), (29, (0, 3, 3, [])), (30, (0, 0, 1997, [])), (31, (0, 2, 1999, [])), (32, (0, 0, 255, [])), (33, (0, 0, 65535, [])), (34, (0, 0, 0, []))], [(7, [32, 33], [1]), (23, [33], [114, 1]), (23, [33], [-114, -1]), (20, [31, 0, 32], [50, 1, 1, 1010, 1001, 4, 11, 0, 6, 4, 2, 1, 0, 0, 1, 2, 1, 10, 1, 2, 1, 2, 9, 5, 3, 1, 1, 1, 0, 0, 256]), (20, [0, 31, 32], [50, 1, 0, 10, 4, 7, 0, 3, 2, 0, 10, 1, 1, 1, 2, 1, 2, 0, -1]), (1, [31, 30, 28], []), (10, [30, 9, 4], []), (9, [4, 0], [158]), (9, [9, 0], [162]), (7, [28, 29], [2]), (6, [28, 21], [1]), (7, [25, 26], [0]), (23, [26], [97, 1]), (23, [26], [-97, -1]), (20, [24, 0, 25], [50, 1, 1, 1010, 1001, 4, 11, 0, 6, 4, 2, 1, 0, 0, 1, 2, 1, 10, 1, 2, 1, 2, 9, 5, 3, 1, 1, 1, 0, 0, 256]), (20, [0, 24, 25], [50, 1, 0, 10, 4, 7, 0, 3, 2, 0, 10, 1, 1, 1, 2, 1, 2, 0, -1]), (1, [24, 23, 21], []), (10, [23, 9, 4], []), (7, [21, 22], [2]), (6, [21, 14], [1]), (7, [18, 19], [0]), (23, [19], [102, 1]), (23, [19], [-102, -1]), (20, [17, 0, 18], [50, 1, 1, 1010, 1001, 4, 11, 0, 6, 4, 2, 1, 0, 0, 1, 2, 1, 10, 1, 2, 1, 2, 9, 5, 3, 1, 1, 1, 0, 0, 256]), (20, [0, 17, 18], [50, 1, 0, 10, 4, 7, 0, 3, 2, 0, 10, 1, 1, 1, 2, 1, 2, 0, -1]), (1, [17, 16, 14], []), (10, [16, 9, 4], []), (7, [14, 15], [2]), (7, [11, 12], [0]), (2, [11, 8, 10], []), (10, [10, 9, 4], []), (10, [8, 7, 4], []), (9, [7, 0], [163]), (7, [5, 6], [0]), (10, [5, 3, 4], []), (9, [3, 0], [160]), (8, [2], [0]), (9, [2, 0], [8])], [], [], [(20, [34, 0], [50, 1, 1, 1158, 1160, 4, 6, 1, 2, 1, 0, 0, 1, 1, 6, 3, 1, 160, 2, 1, 158, 0, 1]), (20, [0, 34], [60, 3, 4, 33, 8, 158, 10, 160, 162, 163, 1])], [], [(31, 30, 2, 2), (25, 26, 0, 0), (24, 23, 1, 1), (18, 19, 0, 0), (17, 16, 0, 0)])
theorem oo_Mo_word_at_s5028_8 {kA : Nat → ClassId} : or_ok PRD kA GG o_Mo_word_at_s5028_8 := by
  refine or_mk fun A ta ws vs hD hth hl => ?_
  intro t0 r0 t2 k2 t3 r3 t4 k4 t5 k5 t6 k6 t7 r7 t8 k8 t9 r9 t10 k10 t11 k11 t12 k12 t14 k14 t15 k15 t16 k16 t17 k17 t18 k18 t19 k19 t21 k21 t22 k22 t23 k23 t24 k24 t25 k25 t26 k26 t28 k28 t29 k29 t30 k30 t31 k31 t32 k32 t33 k33 t34 k34 d0 d1 d2 d3 d4 f0 f1 f2 f3 f4 f5 f6 f7 f8 f9 f10 f11 f12 f13 f14 f15 f16 f17 f18 f19 f20 f21 f22 f23 f24 f25 f26 f27 f28 f29 f30 f31 f32 f33 f34 f35 f36 f37
  replace f6 := shm_107 f6
  replace f7 := shm_286 f7
  replace f8 := shm_301 f8
  replace f17 := shm_107 f17
  replace f26 := shm_107 f26
  replace f30 := shm_107 f30
  replace f31 := shm_107 f31
  replace f32 := shm_1332 f32
  replace f34 := shm_107 f34
  replace f35 := shm_327 f35
  replace f37 := shm_293 f37
  have cr_0_1 := fdq_39 hD hth r0
  have cr_0_160 := fdq_33 hD hth r0
  have cr_0_162 := fdq_41 hD hth r0
  have cr_0_163 := fdq_42 hD hth r0
  have ad_9 : v_ad (n_v vs 9) = w_ar ws (n_v vs 0) 162 := congrArg v_ad f8
  have ad_7 : v_ad (n_v vs 7) = w_ar ws (n_v vs 0) 163 := congrArg v_ad f32
  have ad_3 : v_ad (n_v vs 3) = w_ar ws (n_v vs 0) 160 := congrArg v_ad f35
  simp only [ad_9] at f6
  have h6 : v_iv (n_v vs 30) = w_ei ws (w_ar ws (n_v vs 0) 162) (v_iv (n_v vs 4)) := f6
  have g7 : v_iv (n_v vs 4) = w_fi ws (n_v vs 0) 158 := congrArg v_iv f7
  simp only [ad_9] at f17
  have h17 : v_iv (n_v vs 23) = w_ei ws (w_ar ws (n_v vs 0) 162) (v_iv (n_v vs 4)) := f17
  simp only [ad_9] at f26
  have h26 : v_iv (n_v vs 16) = w_ei ws (w_ar ws (n_v vs 0) 162) (v_iv (n_v vs 4)) := f26
  simp only [ad_9] at f30
  have h30 : v_iv (n_v vs 10) = w_ei ws (w_ar ws (n_v vs 0) 162) (v_iv (n_v vs 4)) := f30
  simp only [ad_7] at f31
  have h31 : v_iv (n_v vs 8) = w_ei ws (w_ar ws (n_v vs 0) 163) (v_iv (n_v vs 4)) := f31
  simp only [ad_3] at f34
  have h34 : v_iv (n_v vs 5) = w_ei ws (w_ar ws (n_v vs 0) 160) (v_iv (n_v vs 4)) := f34
  have g37 : v_iv (n_v vs 2) = w_fi ws (n_v vs 0) 8 := congrArg v_iv f37
  have hK_0_1 := elq_7 hD hth cr_0_1
  have hK_0_160 := elq_6 hD hth cr_0_160
  have hK_0_162 := elq_8 hD hth cr_0_162
  have hK_0_163 := elq_9 hD hth cr_0_163
  have kz_0_8 := fdq_34 hD hth r0
  have kz_0_10 := fdq_43 hD hth r0
  have kz_0_158 := fdq_36 hD hth r0
  have nf0 : fc_1 PRD (20, [34, 0], [50, 1, 1, 1158, 1160, 4, 6, 1, 2, 1, 0, 0, 1, 1, 6, 3, 1, 160, 2, 1, 158, 0, 1]) ws (vs) := ⟨nf_in hl rfl, sgq_287 (vc_Mo_word_at_s5028_8_0 (v_iv (n_v vs 2)) (v_iv (n_v vs 4)) (v_iv (n_v vs 5)) (v_iv (n_v vs 6)) (v_iv (n_v vs 8)) (v_iv (n_v vs 10)) (v_iv (n_v vs 11)) (v_iv (n_v vs 12)) (v_iv (n_v vs 14)) (v_iv (n_v vs 15)) (v_iv (n_v vs 16)) (v_iv (n_v vs 17)) (v_iv (n_v vs 18)) (v_iv (n_v vs 19)) (v_iv (n_v vs 21)) (v_iv (n_v vs 22)) (v_iv (n_v vs 23)) (v_iv (n_v vs 24)) (v_iv (n_v vs 25)) (v_iv (n_v vs 26)) (v_iv (n_v vs 28)) (v_iv (n_v vs 29)) (v_iv (n_v vs 30)) (v_iv (n_v vs 31)) (v_iv (n_v vs 32)) (v_iv (n_v vs 33)) (v_iv (n_v vs 34)) (w_ei ws (w_ar ws (n_v vs 0) 1)) (w_fi ws (n_v vs 0) 10) (w_ei ws (w_ar ws (n_v vs 0) 162)) (w_fi ws (n_v vs 0) 158) (w_ei ws (w_ar ws (n_v vs 0) 163)) (w_ei ws (w_ar ws (n_v vs 0) 160)) (w_fi ws (n_v vs 0) 8) k2 k4 k5 k6 k8 k10 k11 k12 k14 k15 k16 k17 k18 k19 k21 k22 k23 k24 k25 k26 k28 k29 k30 k31 k32 k33 k34 d0 d1 d2 d3 d4 (shm_40 f0) (shm_63 f1) (shm_64 f2) (shm_541 f3) (shm_542 f4) (shm_12 f5) h6 g7 (shm_6 f9) (shm_4 f10) (shm_37 f11) (shm_85 f12) (shm_86 f13) (shm_541 f14) (shm_542 f15) (shm_12 f16) h17 (shm_6 f18) (shm_4 f19) (shm_37 f20) (shm_83 f21) (shm_84 f22) (shm_541 f23) (shm_542 f24) (shm_12 f25) h26 (shm_6 f27) (shm_37 f28) (shm_14 f29) h30 h31 (shm_37 f33) h34 (shm_192 f36) g37 hK_0_1 hK_0_160 hK_0_162 hK_0_163 kz_0_8 kz_0_10 kz_0_158)⟩
  have nf1 : fc_1 PRD (20, [0, 34], [60, 3, 4, 33, 8, 158, 10, 160, 162, 163, 1]) ws (vs) := ⟨nf_in hl rfl, sgq_1872 (vc_Mo_word_at_s5028_8_1 (v_iv (n_v vs 4)) (v_iv (n_v vs 8)) (v_iv (n_v vs 10)) (v_iv (n_v vs 11)) (v_iv (n_v vs 16)) (v_iv (n_v vs 17)) (v_iv (n_v vs 18)) (v_iv (n_v vs 19)) (v_iv (n_v vs 23)) (v_iv (n_v vs 24)) (v_iv (n_v vs 25)) (v_iv (n_v vs 26)) (v_iv (n_v vs 30)) (v_iv (n_v vs 31)) (v_iv (n_v vs 32)) (v_iv (n_v vs 33)) (v_iv (n_v vs 34)) (w_ei ws (w_ar ws (n_v vs 0) 1)) (w_fi ws (n_v vs 0) 10) (w_ei ws (w_ar ws (n_v vs 0) 162)) (w_fi ws (n_v vs 0) 158) (w_ei ws (w_ar ws (n_v vs 0) 163)) (w_ei ws (w_ar ws (n_v vs 0) 160)) (w_fi ws (n_v vs 0) 8) k4 k8 k10 k11 k16 k17 k18 k19 k23 k24 k25 k26 k30 k31 k32 k33 k34 d0 d1 d2 d3 d4 (shm_40 f0) (shm_63 f1) (shm_64 f2) (shm_541 f3) (shm_542 f4) h6 g7 (shm_85 f12) (shm_86 f13) (shm_541 f14) (shm_542 f15) h17 (shm_83 f21) (shm_84 f22) (shm_541 f23) (shm_542 f24) h26 (shm_14 f29) h30 h31 kz_0_8 kz_0_10 kz_0_158)⟩
  refine ⟨(fun _ h => (by cases h)), [], trivial, ?_, (fun _ h => (by cases h))⟩
  rw [List.append_nil]
  exact List.forall_mem_cons.mpr ⟨⟨show (20 : Nat) < 100 from by decide, nf0⟩, List.forall_mem_cons.mpr ⟨⟨show (20 : Nat) < 100 from by decide, nf1⟩, (fun _ h => (by cases h))⟩⟩
set_option maxHeartbeats 4000000 in
theorem vc_Mo_word_at_s5028_9_0 (x2 : Int) (x4 : Int) (x5 : Int) (x6 : Int) (x8 : Int) (x10 : Int) (x11 : Int) (x12 : Int) (x14 : Int) (x15 : Int) (x16 : Int) (x17 : Int) (x18 : Int) (x19 : Int) (x21 : Int) (x22 : Int) (x23 : Int) (x24 : Int) (x25 : Int) (x26 : Int) (x28 : Int) (x29 : Int) (x30 : Int) (x31 : Int) (x32 : Int) (x33 : Int) (x34 : Int) (tape_0 : Int → Int) (limit_0 : Int) (tokenPlace_0 : Int → Int) (cur_0 : Int) (tokenEnd_0 : Int → Int) (tokenKind_0 : Int → Int) (fault_0 : Int) (k2 : 0 ≤ x2 ∧ x2 ≤ 0) (k4 : 0 ≤ x4 ∧ x4 ≤ 2009) (k5 : 1 ≤ x5 ∧ x5 ≤ 1) (k6 : 1 ≤ x6 ∧ x6 ≤ 1) (k8 : 3 ≤ x8 ∧ x8 ≤ 2000) (k10 : 0 ≤ x10 ∧ x10 ≤ 2000) (k11 : 3 ≤ x11 ∧ x11 ≤ 3) (k12 : 3 ≤ x12 ∧ x12 ≤ 3) (k14 : 0 ≤ x14 ∧ x14 ≤ 0) (k15 : 3 ≤ x15 ∧ x15 ≤ 3) (k16 : 0 ≤ x16 ∧ x16 ≤ 1999) (k17 : 0 ≤ x17 ∧ x17 ≤ 1999) (k18 : 0 ≤ x18 ∧ x18 ≤ 255) (k19 : 0 ≤ x19 ∧ x19 ≤ 255) (k21 : 1 ≤ x21 ∧ x21 ≤ 1) (k22 : 3 ≤ x22 ∧ x22 ≤ 3) (k23 : 0 ≤ x23 ∧ x23 ≤ 1998) (k24 : 1 ≤ x24 ∧ x24 ≤ 1999) (k25 : 0 ≤ x25 ∧ x25 ≤ 255) (k26 : 0 ≤ x26 ∧ x26 ≤ 255) (k28 : 2 ≤ x28 ∧ x28 ≤ 2) (k29 : 3 ≤ x29 ∧ x29 ≤ 3) (k30 : 0 ≤ x30 ∧ x30 ≤ 1997) (k31 : 2 ≤ x31 ∧ x31 ≤ 1999) (k32 : 0 ≤ x32 ∧ x32 ≤ 255) (k33 : 0 ≤ x33 ∧ x33 ≤ 255) (k34 : 1 ≤ x34 ∧ x34 ≤ 1) (d0 : x33 + 0 ≤ x32 ∧ x32 ≤ x33 + 0) (d1 : x30 + 2 ≤ x31 ∧ x31 ≤ x30 + 2) (d2 : x26 + 0 ≤ x25 ∧ x25 ≤ x26 + 0) (d3 : x23 + 1 ≤ x24 ∧ x24 ≤ x23 + 1) (d4 : x19 + 0 ≤ x18 ∧ x18 ≤ x19 + 0) (d5 : x16 + 0 ≤ x17 ∧ x17 ≤ x16 + 0) (f0 : x32 = x33) (f1 : 1 * x33 + 0 ≤ 114) (f2 : (-1) * x33 + 0 ≤ (-114)) (f3 : ((x31 + 1) ≤ limit_0) → (x32 = (tape_0 (x31) % 256))) (f4 : (limit_0 ≤ x31) → (x32 = (-1))) (f5 : x31 = x30 + x28) (h6 : x30 = tokenPlace_0 (x4)) (g7 : x4 = cur_0) (f9 : x28 < x29) (f10 : x28 = x21 + 1) (f11 : x25 = x26) (f12 : 1 * x26 + 0 ≤ 97) (f13 : (-1) * x26 + 0 ≤ (-97)) (f14 : ((x24 + 1) ≤ limit_0) → (x25 = (tape_0 (x24) % 256))) (f15 : (limit_0 ≤ x24) → (x25 = (-1))) (f16 : x24 = x23 + x21) (h17 : x23 = tokenPlace_0 (x4)) (f18 : x21 < x22) (f19 : x21 = x14 + 1) (f20 : x18 = x19) (f21 : 1 * x19 + 0 ≤ 102) (f22 : (-1) * x19 + 0 ≤ (-102)) (f23 : ((x17 + 1) ≤ limit_0) → (x18 = (tape_0 (x17) % 256))) (f24 : (limit_0 ≤ x17) → (x18 = (-1))) (f25 : x17 = x16 + x14) (h26 : x16 = tokenPlace_0 (x4)) (f27 : x14 < x15) (f28 : x11 = x12) (f29 : x11 = x8 - x10) (h30 : x10 = tokenPlace_0 (x4)) (h31 : x8 = tokenEnd_0 (x4)) (f33 : x5 = x6) (h34 : x5 = tokenKind_0 (x4)) (f36 : x2 = 0) (g37 : x2 = fault_0) (hK_0_1 : ∀ j : Int, 0 ≤ j → j < 2000 → (-128) ≤ tape_0 j ∧ tape_0 j ≤ 127) (hK_0_160 : ∀ j : Int, 0 ≤ j → j < 2010 → 0 ≤ tokenKind_0 j ∧ tokenKind_0 j ≤ 4) (hK_0_162 : ∀ j : Int, 0 ≤ j → j < 2010 → 0 ≤ tokenPlace_0 j ∧ tokenPlace_0 j ≤ 2000) (hK_0_163 : ∀ j : Int, 0 ≤ j → j < 2010 → 0 ≤ tokenEnd_0 j ∧ tokenEnd_0 j ≤ 2000) (kz_0_8 : 0 ≤ fault_0 ∧ fault_0 ≤ 5) (kz_0_10 : 0 ≤ limit_0 ∧ limit_0 ≤ 2000) (kz_0_158 : 0 ≤ cur_0 ∧ cur_0 ≤ 2009) : (x34 = 1) → (tokenKind_0 (cur_0) = 1) := by
  first | assumption | (clear f3 f4 f14 f15 f23 f24 hK_0_1 hK_0_160 hK_0_162 hK_0_163; omega) | (clear hK_0_1 hK_0_160 hK_0_162 hK_0_163; grind) | omega | grind
set_option maxHeartbeats 4000000 in
theorem vc_Mo_word_at_s5028_9_1 (x2 : Int) (x4 : Int) (x5 : Int) (x8 : Int) (x10 : Int) (x11 : Int) (x16 : Int) (x17 : Int) (x18 : Int) (x19 : Int) (x23 : Int) (x24 : Int) (x25 : Int) (x26 : Int) (x30 : Int) (x31 : Int) (x32 : Int) (x33 : Int) (x34 : Int) (tape_0 : Int → Int) (limit_0 : Int) (tokenPlace_0 : Int → Int) (cur_0 : Int) (tokenEnd_0 : Int → Int) (tokenKind_0 : Int → Int) (fault_0 : Int) (k2 : 0 ≤ x2 ∧ x2 ≤ 0) (k4 : 0 ≤ x4 ∧ x4 ≤ 2009) (k5 : 1 ≤ x5 ∧ x5 ≤ 1) (k8 : 3 ≤ x8 ∧ x8 ≤ 2000) (k10 : 0 ≤ x10 ∧ x10 ≤ 2000) (k11 : 3 ≤ x11 ∧ x11 ≤ 3) (k16 : 0 ≤ x16 ∧ x16 ≤ 1999) (k17 : 0 ≤ x17 ∧ x17 ≤ 1999) (k18 : 0 ≤ x18 ∧ x18 ≤ 255) (k19 : 0 ≤ x19 ∧ x19 ≤ 255) (k23 : 0 ≤ x23 ∧ x23 ≤ 1998) (k24 : 1 ≤ x24 ∧ x24 ≤ 1999) (k25 : 0 ≤ x25 ∧ x25 ≤ 255) (k26 : 0 ≤ x26 ∧ x26 ≤ 255) (k30 : 0 ≤ x30 ∧ x30 ≤ 1997) (k31 : 2 ≤ x31 ∧ x31 ≤ 1999) (k32 : 0 ≤ x32 ∧ x32 ≤ 255) (k33 : 0 ≤ x33 ∧ x33 ≤ 255) (k34 : 1 ≤ x34 ∧ x34 ≤ 1) (d0 : x33 + 0 ≤ x32 ∧ x32 ≤ x33 + 0) (d1 : x30 + 2 ≤ x31 ∧ x31 ≤ x30 + 2) (d2 : x26 + 0 ≤ x25 ∧ x25 ≤ x26 + 0) (d3 : x23 + 1 ≤ x24 ∧ x24 ≤ x23 + 1) (d4 : x19 + 0 ≤ x18 ∧ x18 ≤ x19 + 0) (d5 : x16 + 0 ≤ x17 ∧ x17 ≤ x16 + 0) (f1 : 1 * x33 + 0 ≤ 114) (f2 : (-1) * x33 + 0 ≤ (-114)) (f3 : ((x31 + 1) ≤ limit_0) → (x32 = (tape_0 (x31) % 256))) (f4 : (limit_0 ≤ x31) → (x32 = (-1))) (h6 : x30 = tokenPlace_0 (x4)) (g7 : x4 = cur_0) (f12 : 1 * x26 + 0 ≤ 97) (f13 : (-1) * x26 + 0 ≤ (-97)) (f14 : ((x24 + 1) ≤ limit_0) → (x25 = (tape_0 (x24) % 256))) (f15 : (limit_0 ≤ x24) → (x25 = (-1))) (h17 : x23 = tokenPlace_0 (x4)) (f21 : 1 * x19 + 0 ≤ 102) (f22 : (-1) * x19 + 0 ≤ (-102)) (f23 : ((x17 + 1) ≤ limit_0) → (x18 = (tape_0 (x17) % 256))) (f24 : (limit_0 ≤ x17) → (x18 = (-1))) (h26 : x16 = tokenPlace_0 (x4)) (f29 : x11 = x8 - x10) (h30 : x10 = tokenPlace_0 (x4)) (h31 : x8 = tokenEnd_0 (x4)) (h34 : x5 = tokenKind_0 (x4)) (g37 : x2 = fault_0) (kz_0_8 : 0 ≤ fault_0 ∧ fault_0 ≤ 5) (kz_0_10 : 0 ≤ limit_0 ∧ limit_0 ≤ 2000) (kz_0_158 : 0 ≤ cur_0 ∧ cur_0 ≤ 2009) : Wqfar (fault_0) (cur_0) (limit_0) (tokenKind_0) (tokenPlace_0) (tokenEnd_0) (tape_0) (x34) := by
  first
    | exact ⟨fun z => by omega, fun z => by have := z.1; omega⟩
    | (have e := (‹x4 = cur_0›)
       rw [← e]
       refine ⟨fun z => ⟨by omega, wdS3.2 ⟨by omega, by omega, by omega, by rw [show tokenPlace_0 x4 + 0 = x17 by omega]; omega, by rw [show tokenPlace_0 x4 + 1 = x24 by omega]; omega, by rw [show tokenPlace_0 x4 + 2 = x31 by omega]; omega⟩⟩, fun z => by omega⟩)
    | (have e := (‹x4 = cur_0›)
       rw [← e]
       refine ⟨fun z => by omega, fun z => ?_⟩
       have w := wdS3.1 z.2
       try (have q0 : tokenPlace_0 x4 + 0 = x17 := (by omega); rw [q0] at w)
       try (have q1 : tokenPlace_0 x4 + 1 = x24 := (by omega); rw [q1] at w)
       try (have q2 : tokenPlace_0 x4 + 2 = x31 := (by omega); rw [q2] at w)
       omega)
  
def o_Mo_word_at_s5028_9 : or_T := (102, 37, [(0, (2, 0, 0, [165])), (2, (0, 0, 0, [])), (3, (2, 0, 0, [274])), (4, (0, 0, 2009, [])), (5, (0, 1, 1, [])), (6, (0, 1, 1, [])), (7, (2, 0, 0, [277])), (8, (0, 3, 2000, [])), (9, (2, 0, 0, [276])), (10, (0, 0, 2000, [])), (11, (0, 3, 3, [])), (12, (0, 3, 3, [])), (14, (0, 0, 0, [])), (15, (0, 3, 3, [])), (16, (0, 0, 1999, [])), (17, (0, 0, 1999, [])), (18, (0, 0, 255, [])), (19, (0, 0, 255, [])), (21, (0, 1, 1, [])), (22, (0, 3, 3, [])), (23, (0, 0, 1998, [])), (24, (0, 1, 1999, [])), (25, (0, 0, 255, [])), (26, (0, 0, 255, [])), (28, (0, 2, 2, [])), (29, (0, 3, 3, [])), (30, (0, 0, 1997, [])), (31, (0, 2, 1999, [])), (32, (0, 0, 255, [])), (33, (0, 0, 255, [])), (34, (0, 1, 1, []))], [(7, [32, 33], [0]), (23, [33], [114, 1]), (23, [33], [-114, -1]), (20, [31, 0, 32], [50, 1, 1, 1010, 1001, 4, 11, 0, 6, 4, 2, 1, 0, 0, 1, 2, 1, 10, 1, 2, 1, 2, 9, 5, 3, 1, 1, 1, 0, 0, 256]), (20, [0, 31, 32], [50, 1, 0, 10, 4, 7, 0, 3, 2, 0, 10, 1, 1, 1, 2, 1, 2, 0, -1]), (1, [31, 30, 28], []), (10, [30, 9, 4], []), (9, [4, 0], [158]), (9, [9, 0], [162]), (7, [28, 29], [2]), (6, [28, 21], [1]), (7, [25, 26], [0]), (23, [26], [97, 1]), (23, [26], [-97, -1]), (20, [24, 0, 25], [50, 1, 1, 1010, 1001, 4, 11, 0, 6, 4, 2, 1, 0, 0, 1, 2, 1, 10, 1, 2, 1, 2, 9, 5, 3, 1, 1, 1, 0, 0, 256]), (20, [0, 24, 25], [50, 1, 0, 10, 4, 7, 0, 3, 2, 0, 10, 1, 1, 1, 2, 1, 2, 0, -1]), (1, [24, 23, 21], []), (10, [23, 9, 4], []), (7, [21, 22], [2]), (6, [21, 14], [1]), (7, [18, 19], [0]), (23, [19], [102, 1]), (23, [19], [-102, -1]), (20, [17, 0, 18], [50, 1, 1, 1010, 1001, 4, 11, 0, 6, 4, 2, 1, 0, 0, 1, 2, 1, 10, 1, 2, 1, 2, 9, 5, 3, 1, 1, 1, 0, 0, 256]), (20, [0, 17, 18], [50, 1, 0, 10, 4, 7, 0, 3, 2, 0, 10, 1, 1, 1, 2, 1, 2, 0, -1]), (1, [17, 16, 14], []), (10, [16, 9, 4], []), (7, [14, 15], [2]), (7, [11, 12], [0]), (2, [11, 8, 10], []), (10, [10, 9, 4], []), (10, [8, 7, 4], []), (9, [7, 0], [163]), (7, [5, 6], [0]), (10, [5, 3, 4], []), (9, [3, 0], [160]), (8, [2], [0]), (9, [2, 0], [8])], [], [], [(20, [34, 0], [50, 1, 1, 1158, 1160, 4, 6, 1, 2, 1, 0, 0, 1, 1, 6, 3, 1, 160, 2, 1, 158, 0, 1]), (20, [0, 34], [60, 3, 4, 33, 8, 158, 10, 160, 162, 163, 1])], [], [(32, 33, 0, 0), (31, 30, 2, 2), (25, 26, 0, 0), (24, 23, 1, 1), (18, 19, 0, 0), (17, 16, 0, 0)])
theorem oo_Mo_word_at_s5028_9 {kA : Nat → ClassId} : or_ok PRD kA GG o_Mo_word_at_s5028_9 := by
  refine or_mk fun A ta ws vs hD hth hl => ?_
  intro t0 r0 t2 k2 t3 r3 t4 k4 t5 k5 t6 k6 t7 r7 t8 k8 t9 r9 t10 k10 t11 k11 t12 k12 t14 k14 t15 k15 t16 k16 t17 k17 t18 k18 t19 k19 t21 k21 t22 k22 t23 k23 t24 k24 t25 k25 t26 k26 t28 k28 t29 k29 t30 k30 t31 k31 t32 k32 t33 k33 t34 k34 d0 d1 d2 d3 d4 d5 f0 f1 f2 f3 f4 f5 f6 f7 f8 f9 f10 f11 f12 f13 f14 f15 f16 f17 f18 f19 f20 f21 f22 f23 f24 f25 f26 f27 f28 f29 f30 f31 f32 f33 f34 f35 f36 f37
  replace f6 := shm_107 f6
  replace f7 := shm_286 f7
  replace f8 := shm_301 f8
  replace f17 := shm_107 f17
  replace f26 := shm_107 f26
  replace f30 := shm_107 f30
  replace f31 := shm_107 f31
  replace f32 := shm_1332 f32
  replace f34 := shm_107 f34
  replace f35 := shm_327 f35
  replace f37 := shm_293 f37
  have cr_0_1 := fdq_39 hD hth r0
  have cr_0_160 := fdq_33 hD hth r0
  have cr_0_162 := fdq_41 hD hth r0
  have cr_0_163 := fdq_42 hD hth r0
  have ad_9 : v_ad (n_v vs 9) = w_ar ws (n_v vs 0) 162 := congrArg v_ad f8
  have ad_7 : v_ad (n_v vs 7) = w_ar ws (n_v vs 0) 163 := congrArg v_ad f32
  have ad_3 : v_ad (n_v vs 3) = w_ar ws (n_v vs 0) 160 := congrArg v_ad f35
  simp only [ad_9] at f6
  have h6 : v_iv (n_v vs 30) = w_ei ws (w_ar ws (n_v vs 0) 162) (v_iv (n_v vs 4)) := f6
  have g7 : v_iv (n_v vs 4) = w_fi ws (n_v vs 0) 158 := congrArg v_iv f7
  simp only [ad_9] at f17
  have h17 : v_iv (n_v vs 23) = w_ei ws (w_ar ws (n_v vs 0) 162) (v_iv (n_v vs 4)) := f17
  simp only [ad_9] at f26
  have h26 : v_iv (n_v vs 16) = w_ei ws (w_ar ws (n_v vs 0) 162) (v_iv (n_v vs 4)) := f26
  simp only [ad_9] at f30
  have h30 : v_iv (n_v vs 10) = w_ei ws (w_ar ws (n_v vs 0) 162) (v_iv (n_v vs 4)) := f30
  simp only [ad_7] at f31
  have h31 : v_iv (n_v vs 8) = w_ei ws (w_ar ws (n_v vs 0) 163) (v_iv (n_v vs 4)) := f31
  simp only [ad_3] at f34
  have h34 : v_iv (n_v vs 5) = w_ei ws (w_ar ws (n_v vs 0) 160) (v_iv (n_v vs 4)) := f34
  have g37 : v_iv (n_v vs 2) = w_fi ws (n_v vs 0) 8 := congrArg v_iv f37
  have hK_0_1 := elq_7 hD hth cr_0_1
  have hK_0_160 := elq_6 hD hth cr_0_160
  have hK_0_162 := elq_8 hD hth cr_0_162
  have hK_0_163 := elq_9 hD hth cr_0_163
  have kz_0_8 := fdq_34 hD hth r0
  have kz_0_10 := fdq_43 hD hth r0
  have kz_0_158 := fdq_36 hD hth r0
  have nf0 : fc_1 PRD (20, [34, 0], [50, 1, 1, 1158, 1160, 4, 6, 1, 2, 1, 0, 0, 1, 1, 6, 3, 1, 160, 2, 1, 158, 0, 1]) ws (vs) := ⟨nf_in hl rfl, sgq_287 (vc_Mo_word_at_s5028_9_0 (v_iv (n_v vs 2)) (v_iv (n_v vs 4)) (v_iv (n_v vs 5)) (v_iv (n_v vs 6)) (v_iv (n_v vs 8)) (v_iv (n_v vs 10)) (v_iv (n_v vs 11)) (v_iv (n_v vs 12)) (v_iv (n_v vs 14)) (v_iv (n_v vs 15)) (v_iv (n_v vs 16)) (v_iv (n_v vs 17)) (v_iv (n_v vs 18)) (v_iv (n_v vs 19)) (v_iv (n_v vs 21)) (v_iv (n_v vs 22)) (v_iv (n_v vs 23)) (v_iv (n_v vs 24)) (v_iv (n_v vs 25)) (v_iv (n_v vs 26)) (v_iv (n_v vs 28)) (v_iv (n_v vs 29)) (v_iv (n_v vs 30)) (v_iv (n_v vs 31)) (v_iv (n_v vs 32)) (v_iv (n_v vs 33)) (v_iv (n_v vs 34)) (w_ei ws (w_ar ws (n_v vs 0) 1)) (w_fi ws (n_v vs 0) 10) (w_ei ws (w_ar ws (n_v vs 0) 162)) (w_fi ws (n_v vs 0) 158) (w_ei ws (w_ar ws (n_v vs 0) 163)) (w_ei ws (w_ar ws (n_v vs 0) 160)) (w_fi ws (n_v vs 0) 8) k2 k4 k5 k6 k8 k10 k11 k12 k14 k15 k16 k17 k18 k19 k21 k22 k23 k24 k25 k26 k28 k29 k30 k31 k32 k33 k34 d0 d1 d2 d3 d4 d5 (shm_37 f0) (shm_63 f1) (shm_64 f2) (shm_541 f3) (shm_542 f4) (shm_12 f5) h6 g7 (shm_6 f9) (shm_4 f10) (shm_37 f11) (shm_85 f12) (shm_86 f13) (shm_541 f14) (shm_542 f15) (shm_12 f16) h17 (shm_6 f18) (shm_4 f19) (shm_37 f20) (shm_83 f21) (shm_84 f22) (shm_541 f23) (shm_542 f24) (shm_12 f25) h26 (shm_6 f27) (shm_37 f28) (shm_14 f29) h30 h31 (shm_37 f33) h34 (shm_192 f36) g37 hK_0_1 hK_0_160 hK_0_162 hK_0_163 kz_0_8 kz_0_10 kz_0_158)⟩
  have nf1 : fc_1 PRD (20, [0, 34], [60, 3, 4, 33, 8, 158, 10, 160, 162, 163, 1]) ws (vs) := ⟨nf_in hl rfl, sgq_1872 (vc_Mo_word_at_s5028_9_1 (v_iv (n_v vs 2)) (v_iv (n_v vs 4)) (v_iv (n_v vs 5)) (v_iv (n_v vs 8)) (v_iv (n_v vs 10)) (v_iv (n_v vs 11)) (v_iv (n_v vs 16)) (v_iv (n_v vs 17)) (v_iv (n_v vs 18)) (v_iv (n_v vs 19)) (v_iv (n_v vs 23)) (v_iv (n_v vs 24)) (v_iv (n_v vs 25)) (v_iv (n_v vs 26)) (v_iv (n_v vs 30)) (v_iv (n_v vs 31)) (v_iv (n_v vs 32)) (v_iv (n_v vs 33)) (v_iv (n_v vs 34)) (w_ei ws (w_ar ws (n_v vs 0) 1)) (w_fi ws (n_v vs 0) 10) (w_ei ws (w_ar ws (n_v vs 0) 162)) (w_fi ws (n_v vs 0) 158) (w_ei ws (w_ar ws (n_v vs 0) 163)) (w_ei ws (w_ar ws (n_v vs 0) 160)) (w_fi ws (n_v vs 0) 8) k2 k4 k5 k8 k10 k11 k16 k17 k18 k19 k23 k24 k25 k26 k30 k31 k32 k33 k34 d0 d1 d2 d3 d4 d5 (shm_63 f1) (shm_64 f2) (shm_541 f3) (shm_542 f4) h6 g7 (shm_85 f12) (shm_86 f13) (shm_541 f14) (shm_542 f15) h17 (shm_83 f21) (shm_84 f22) (shm_541 f23) (shm_542 f24) h26 (shm_14 f29) h30 h31 h34 g37 kz_0_8 kz_0_10 kz_0_158)⟩
  refine ⟨(fun _ h => (by cases h)), [], trivial, ?_, (fun _ h => (by cases h))⟩
  rw [List.append_nil]
  exact List.forall_mem_cons.mpr ⟨⟨show (20 : Nat) < 100 from by decide, nf0⟩, List.forall_mem_cons.mpr ⟨⟨show (20 : Nat) < 100 from by decide, nf1⟩, (fun _ h => (by cases h))⟩⟩
def n_Mo_word_at_s5028_an : List an_T := []
def t_Mo_word_at_s5028_ct : ct_L := [(1, 425, e_Mo_byteAt), (124, 448, e_jStr_length_v610), (172, 448, e_jStr_length_v610), (253, 453, e_jStr_charAt_v611), (253, 453, e_jStr_charAt_v613), (253, 453, e_jStr_charAt_v615)]
set_option maxRecDepth 100000 in
theorem c_Mo_word_at_s5028 {l : Launch} {D : va_G} {kA : Nat → ClassId} (h_Mo_byteAt : ct_ok PRD l D kA GG y_Mo_byteAt z_Mo_byteAt e_Mo_byteAt) : ct_ok PRD l D kA GG y_Mo_word_at_s5028 z_Mo_word_at_s5028 e_Mo_word_at_s5028 := chk_all_ok (FT := [(342, 13, 160), (348, 13, 162), (351, 13, 163), (413, 13, 8), (1169, 13, 158)]) (PT := []) (CT := t_Mo_word_at_s5028_ct) (KT := []) (NT := []) (AN := n_Mo_word_at_s5028_an) (OT := [o_Mo_word_at_s5028_0, o_Mo_word_at_s5028_1, o_Mo_word_at_s5028_2, o_Mo_word_at_s5028_3, o_Mo_word_at_s5028_4, o_Mo_word_at_s5028_5, o_Mo_word_at_s5028_6, o_Mo_word_at_s5028_7, o_Mo_word_at_s5028_8, o_Mo_word_at_s5028_9]) 0 892 (List.forall_mem_cons.mpr ⟨oo_Mo_word_at_s5028_0, List.forall_mem_cons.mpr ⟨oo_Mo_word_at_s5028_1, List.forall_mem_cons.mpr ⟨oo_Mo_word_at_s5028_2, List.forall_mem_cons.mpr ⟨oo_Mo_word_at_s5028_3, List.forall_mem_cons.mpr ⟨oo_Mo_word_at_s5028_4, List.forall_mem_cons.mpr ⟨oo_Mo_word_at_s5028_5, List.forall_mem_cons.mpr ⟨oo_Mo_word_at_s5028_6, List.forall_mem_cons.mpr ⟨oo_Mo_word_at_s5028_7, List.forall_mem_cons.mpr ⟨oo_Mo_word_at_s5028_8, List.forall_mem_cons.mpr ⟨oo_Mo_word_at_s5028_9, List.forall_mem_nil _⟩⟩⟩⟩⟩⟩⟩⟩⟩⟩) (by decide +kernel) ⟨List.forall_mem_cons.mpr ⟨gf_Mo_342, List.forall_mem_cons.mpr ⟨gf_Mo_348, List.forall_mem_cons.mpr ⟨gf_Mo_351, List.forall_mem_cons.mpr ⟨gf_Mo_413, List.forall_mem_cons.mpr ⟨gf_Mo_1169, List.forall_mem_nil _⟩⟩⟩⟩⟩, List.forall_mem_nil _, List.forall_mem_cons.mpr ⟨cl_virtual (y := y_Mo_byteAt) (ci := 13) rfl rfl ⟨_, _, rfl⟩ (by decide +kernel) h_Mo_byteAt wm_2986 wm_9 wm_2983 wm_2985 wv_12_12 ⟨by decide, by decide, by decide +kernel⟩ (by decide), List.forall_mem_cons.mpr ⟨cl_string (y := y_jStr_length) (i := 28) rfl rfl (by decide +kernel) rfl c_jStr_length_v610 wm_674 wm_11 wm_3003 wm_672 wm_673 ⟨by decide, by decide, by decide +kernel⟩ (by decide), List.forall_mem_cons.mpr ⟨cl_string (y := y_jStr_length) (i := 28) rfl rfl (by decide +kernel) rfl c_jStr_length_v610 wm_674 wm_11 wm_3003 wm_672 wm_673 ⟨by decide, by decide, by decide +kernel⟩ (by decide), List.forall_mem_cons.mpr ⟨cl_string (y := y_jStr_charAt) (i := 28) rfl rfl (by decide +kernel) rfl c_jStr_charAt_v611 wm_684 wm_11 wm_3004 wm_682 wm_683 ⟨by decide, by decide, by decide +kernel⟩ (by decide), List.forall_mem_cons.mpr ⟨cl_string (y := y_jStr_charAt) (i := 28) rfl rfl (by decide +kernel) rfl c_jStr_charAt_v613 wm_684 wm_11 wm_3004 wm_682 wm_683 ⟨by decide, by decide, by decide +kernel⟩ (by decide), List.forall_mem_cons.mpr ⟨cl_string (y := y_jStr_charAt) (i := 28) rfl rfl (by decide +kernel) rfl c_jStr_charAt_v615 wm_684 wm_11 wm_3004 wm_682 wm_683 ⟨by decide, by decide, by decide +kernel⟩ (by decide), List.forall_mem_nil _⟩⟩⟩⟩⟩⟩, List.forall_mem_nil _, List.forall_mem_nil _, GG_pl⟩ (by decide +kernel)

set_option maxHeartbeats 4000000 in
theorem vc_Mo_word_at_s5029_0_0 (x2 : Int) (x3 : Int) (fault_0 : Int) (tape_0 : Int → Int) (tokenKind_0 : Int → Int) (tokenPlace_0 : Int → Int) (tokenEnd_0 : Int → Int) (limit_0 : Int) (cur_0 : Int) (k2 : 1 ≤ x2 ∧ x2 ≤ 5) (k3 : 0 ≤ x3 ∧ x3 ≤ 0) (f0 : x3 = 0) (f1 : x2 ≠ 0) (g2 : x2 = fault_0) (hK_0_1 : ∀ j : Int, 0 ≤ j → j < 2000 → (-128) ≤ tape_0 j ∧ tape_0 j ≤ 127) (hK_0_160 : ∀ j : Int, 0 ≤ j → j < 2010 → 0 ≤ tokenKind_0 j ∧ tokenKind_0 j ≤ 4) (hK_0_162 : ∀ j : Int, 0 ≤ j → j < 2010 → 0 ≤ tokenPlace_0 j ∧ tokenPlace_0 j ≤ 2000) (hK_0_163 : ∀ j : Int, 0 ≤ j → j < 2010 → 0 ≤ tokenEnd_0 j ∧ tokenEnd_0 j ≤ 2000) (kz_0_8 : 0 ≤ fault_0 ∧ fault_0 ≤ 5) (kz_0_10 : 0 ≤ limit_0 ∧ limit_0 ≤ 2000) (kz_0_158 : 0 ≤ cur_0 ∧ cur_0 ≤ 2009) : (x3 = 1) → (tokenKind_0 (cur_0) = 1) := by
  first | assumption | (clear hK_0_1 hK_0_160 hK_0_162 hK_0_163; omega) | omega | grind
set_option maxHeartbeats 4000000 in
theorem vc_Mo_word_at_s5029_0_1 (x2 : Int) (x3 : Int) (fault_0 : Int) (tape_0 : Int → Int) (tokenKind_0 : Int → Int) (tokenPlace_0 : Int → Int) (tokenEnd_0 : Int → Int) (limit_0 : Int) (cur_0 : Int) (k2 : 1 ≤ x2 ∧ x2 ≤ 5) (k3 : 0 ≤ x3 ∧ x3 ≤ 0) (g2 : x2 = fault_0) (kz_0_8 : 0 ≤ fault_0 ∧ fault_0 ≤ 5) (kz_0_10 : 0 ≤ limit_0 ∧ limit_0 ≤ 2000) (kz_0_158 : 0 ≤ cur_0 ∧ cur_0 ≤ 2009) : Wqcore (fault_0) (cur_0) (limit_0) (tokenKind_0) (tokenPlace_0) (tokenEnd_0) (tape_0) (x3) := by
  first
    | exact ⟨fun z => by omega, fun z => by have := z.1; omega⟩
    | (have e := (‹x4 = cur_0›)
       rw [← e]
       refine ⟨fun z => ⟨by omega, wdS4.2 ⟨by omega, by omega, by omega, by rw [show tokenPlace_0 x4 + 0 = x17 by omega]; omega, by rw [show tokenPlace_0 x4 + 1 = x24 by omega]; omega, by rw [show tokenPlace_0 x4 + 2 = x31 by omega]; omega, by rw [show tokenPlace_0 x4 + 3 = x38 by omega]; omega⟩⟩, fun z => by omega⟩)
    | (have e := (‹x4 = cur_0›)
       rw [← e]
       refine ⟨fun z => by omega, fun z => ?_⟩
       have w := wdS4.1 z.2
       try (have q0 : tokenPlace_0 x4 + 0 = x17 := (by omega); rw [q0] at w)
       try (have q1 : tokenPlace_0 x4 + 1 = x24 := (by omega); rw [q1] at w)
       try (have q2 : tokenPlace_0 x4 + 2 = x31 := (by omega); rw [q2] at w)
       try (have q3 : tokenPlace_0 x4 + 3 = x38 := (by omega); rw [q3] at w)
       omega)
  
def o_Mo_word_at_s5029_0 : or_T := (102, 6, [(0, (2, 0, 0, [165])), (2, (0, 1, 5, [])), (3, (0, 0, 0, []))], [(8, [3], [0]), (8, [2], [1]), (9, [2, 0], [8])], [], [], [(20, [3, 0], [50, 1, 1, 1158, 1160, 4, 6, 1, 2, 1, 0, 0, 1, 1, 6, 3, 1, 160, 2, 1, 158, 0, 1]), (20, [0, 3], [60, 3, 4, 34, 8, 158, 10, 160, 162, 163, 1])], [], [])
theorem oo_Mo_word_at_s5029_0 {kA : Nat → ClassId} : or_ok PRD kA GG o_Mo_word_at_s5029_0 := by
  refine or_mk fun A ta ws vs hD hth hl => ?_
  intro t0 r0 t2 k2 t3 k3 f0 f1 f2
  replace f2 := shm_293 f2
  have cr_0_1 := fdq_39 hD hth r0
  have cr_0_160 := fdq_33 hD hth r0
  have cr_0_162 := fdq_41 hD hth r0
  have cr_0_163 := fdq_42 hD hth r0
  have g2 : v_iv (n_v vs 2) = w_fi ws (n_v vs 0) 8 := congrArg v_iv f2
  have hK_0_1 := elq_7 hD hth cr_0_1
  have hK_0_160 := elq_6 hD hth cr_0_160
  have hK_0_162 := elq_8 hD hth cr_0_162
  have hK_0_163 := elq_9 hD hth cr_0_163
  have kz_0_8 := fdq_34 hD hth r0
  have kz_0_10 := fdq_43 hD hth r0
  have kz_0_158 := fdq_36 hD hth r0
  have nf0 : fc_1 PRD (20, [3, 0], [50, 1, 1, 1158, 1160, 4, 6, 1, 2, 1, 0, 0, 1, 1, 6, 3, 1, 160, 2, 1, 158, 0, 1]) ws (vs) := ⟨nf_in hl rfl, sgq_287 (vc_Mo_word_at_s5029_0_0 (v_iv (n_v vs 2)) (v_iv (n_v vs 3)) (w_fi ws (n_v vs 0) 8) (w_ei ws (w_ar ws (n_v vs 0) 1)) (w_ei ws (w_ar ws (n_v vs 0) 160)) (w_ei ws (w_ar ws (n_v vs 0) 162)) (w_ei ws (w_ar ws (n_v vs 0) 163)) (w_fi ws (n_v vs 0) 10) (w_fi ws (n_v vs 0) 158) k2 k3 (shm_192 f0) (shm_142 f1) g2 hK_0_1 hK_0_160 hK_0_162 hK_0_163 kz_0_8 kz_0_10 kz_0_158)⟩
  have nf1 : fc_1 PRD (20, [0, 3], [60, 3, 4, 34, 8, 158, 10, 160, 162, 163, 1]) ws (vs) := ⟨nf_in hl rfl, sgq_1873 (vc_Mo_word_at_s5029_0_1 (v_iv (n_v vs 2)) (v_iv (n_v vs 3)) (w_fi ws (n_v vs 0) 8) (w_ei ws (w_ar ws (n_v vs 0) 1)) (w_ei ws (w_ar ws (n_v vs 0) 160)) (w_ei ws (w_ar ws (n_v vs 0) 162)) (w_ei ws (w_ar ws (n_v vs 0) 163)) (w_fi ws (n_v vs 0) 10) (w_fi ws (n_v vs 0) 158) k2 k3 g2 kz_0_8 kz_0_10 kz_0_158)⟩
  refine ⟨(fun _ h => (by cases h)), [], trivial, ?_, (fun _ h => (by cases h))⟩
  rw [List.append_nil]
  exact List.forall_mem_cons.mpr ⟨⟨show (20 : Nat) < 100 from by decide, nf0⟩, List.forall_mem_cons.mpr ⟨⟨show (20 : Nat) < 100 from by decide, nf1⟩, (fun _ h => (by cases h))⟩⟩
set_option maxHeartbeats 4000000 in
theorem vc_Mo_word_at_s5029_1_0 (x2 : Int) (x4 : Int) (x5 : Int) (x6 : Int) (x7 : Int) (tokenKind_0 : Int → Int) (cur_0 : Int) (fault_0 : Int) (tape_0 : Int → Int) (tokenPlace_0 : Int → Int) (tokenEnd_0 : Int → Int) (limit_0 : Int) (k2 : 0 ≤ x2 ∧ x2 ≤ 0) (k4 : 0 ≤ x4 ∧ x4 ≤ 2009) (k5 : 0 ≤ x5 ∧ x5 ≤ 4) (k6 : 1 ≤ x6 ∧ x6 ≤ 1) (k7 : 0 ≤ x7 ∧ x7 ≤ 0) (f0 : x7 = 0) (f1 : x5 ≠ x6) (h2 : x5 = tokenKind_0 (x4)) (g3 : x4 = cur_0) (f5 : x2 = 0) (g6 : x2 = fault_0) (hK_0_1 : ∀ j : Int, 0 ≤ j → j < 2000 → (-128) ≤ tape_0 j ∧ tape_0 j ≤ 127) (hK_0_160 : ∀ j : Int, 0 ≤ j → j < 2010 → 0 ≤ tokenKind_0 j ∧ tokenKind_0 j ≤ 4) (hK_0_162 : ∀ j : Int, 0 ≤ j → j < 2010 → 0 ≤ tokenPlace_0 j ∧ tokenPlace_0 j ≤ 2000) (hK_0_163 : ∀ j : Int, 0 ≤ j → j < 2010 → 0 ≤ tokenEnd_0 j ∧ tokenEnd_0 j ≤ 2000) (kz_0_8 : 0 ≤ fault_0 ∧ fault_0 ≤ 5) (kz_0_10 : 0 ≤ limit_0 ∧ limit_0 ≤ 2000) (kz_0_158 : 0 ≤ cur_0 ∧ cur_0 ≤ 2009) : (x7 = 1) → (tokenKind_0 (cur_0) = 1) := by
  first | assumption | (clear hK_0_1 hK_0_160 hK_0_162 hK_0_163; omega) | omega | grind
set_option maxHeartbeats 4000000 in
theorem vc_Mo_word_at_s5029_1_1 (x4 : Int) (x5 : Int) (x6 : Int) (x7 : Int) (tokenKind_0 : Int → Int) (cur_0 : Int) (fault_0 : Int) (tape_0 : Int → Int) (tokenPlace_0 : Int → Int) (tokenEnd_0 : Int → Int) (limit_0 : Int) (k4 : 0 ≤ x4 ∧ x4 ≤ 2009) (k5 : 0 ≤ x5 ∧ x5 ≤ 4) (k6 : 1 ≤ x6 ∧ x6 ≤ 1) (k7 : 0 ≤ x7 ∧ x7 ≤ 0) (f1 : x5 ≠ x6) (h2 : x5 = tokenKind_0 (x4)) (g3 : x4 = cur_0) (kz_0_8 : 0 ≤ fault_0 ∧ fault_0 ≤ 5) (kz_0_10 : 0 ≤ limit_0 ∧ limit_0 ≤ 2000) (kz_0_158 : 0 ≤ cur_0 ∧ cur_0 ≤ 2009) : Wqcore (fault_0) (cur_0) (limit_0) (tokenKind_0) (tokenPlace_0) (tokenEnd_0) (tape_0) (x7) := by
  first
    | exact ⟨fun z => by omega, fun z => by have := z.1; omega⟩
    | (have e := (‹x4 = cur_0›)
       rw [← e]
       refine ⟨fun z => ⟨by omega, wdS4.2 ⟨by omega, by omega, by omega, by rw [show tokenPlace_0 x4 + 0 = x17 by omega]; omega, by rw [show tokenPlace_0 x4 + 1 = x24 by omega]; omega, by rw [show tokenPlace_0 x4 + 2 = x31 by omega]; omega, by rw [show tokenPlace_0 x4 + 3 = x38 by omega]; omega⟩⟩, fun z => by omega⟩)
    | (have e := (‹x4 = cur_0›)
       rw [← e]
       refine ⟨fun z => by omega, fun z => ?_⟩
       have w := wdS4.1 z.2
       try (have q0 : tokenPlace_0 x4 + 0 = x17 := (by omega); rw [q0] at w)
       try (have q1 : tokenPlace_0 x4 + 1 = x24 := (by omega); rw [q1] at w)
       try (have q2 : tokenPlace_0 x4 + 2 = x31 := (by omega); rw [q2] at w)
       try (have q3 : tokenPlace_0 x4 + 3 = x38 := (by omega); rw [q3] at w)
       omega)
  
def o_Mo_word_at_s5029_1 : or_T := (102, 10, [(0, (2, 0, 0, [165])), (2, (0, 0, 0, [])), (4, (0, 0, 2009, [])), (5, (0, 0, 4, [])), (6, (0, 1, 1, [])), (7, (0, 0, 0, []))], [(8, [7], [0]), (7, [5, 6], [1]), (10, [5, 3, 4], []), (9, [4, 0], [158]), (9, [3, 0], [160]), (8, [2], [0]), (9, [2, 0], [8])], [], [], [(20, [7, 0], [50, 1, 1, 1158, 1160, 4, 6, 1, 2, 1, 0, 0, 1, 1, 6, 3, 1, 160, 2, 1, 158, 0, 1]), (20, [0, 7], [60, 3, 4, 34, 8, 158, 10, 160, 162, 163, 1])], [], [])
theorem oo_Mo_word_at_s5029_1 {kA : Nat → ClassId} : or_ok PRD kA GG o_Mo_word_at_s5029_1 := by
  refine or_mk fun A ta ws vs hD hth hl => ?_
  intro t0 r0 t2 k2 t4 k4 t5 k5 t6 k6 t7 k7 f0 f1 f2 f3 f4 f5 f6
  replace f2 := shm_107 f2
  replace f3 := shm_286 f3
  replace f4 := shm_327 f4
  replace f6 := shm_293 f6
  have cr_0_1 := fdq_39 hD hth r0
  have cr_0_160 := fdq_33 hD hth r0
  have cr_0_162 := fdq_41 hD hth r0
  have cr_0_163 := fdq_42 hD hth r0
  have ad_3 : v_ad (n_v vs 3) = w_ar ws (n_v vs 0) 160 := congrArg v_ad f4
  simp only [ad_3] at f2
  have h2 : v_iv (n_v vs 5) = w_ei ws (w_ar ws (n_v vs 0) 160) (v_iv (n_v vs 4)) := f2
  have g3 : v_iv (n_v vs 4) = w_fi ws (n_v vs 0) 158 := congrArg v_iv f3
  have g6 : v_iv (n_v vs 2) = w_fi ws (n_v vs 0) 8 := congrArg v_iv f6
  have hK_0_1 := elq_7 hD hth cr_0_1
  have hK_0_160 := elq_6 hD hth cr_0_160
  have hK_0_162 := elq_8 hD hth cr_0_162
  have hK_0_163 := elq_9 hD hth cr_0_163
  have kz_0_8 := fdq_34 hD hth r0
  have kz_0_10 := fdq_43 hD hth r0
  have kz_0_158 := fdq_36 hD hth r0
  have nf0 : fc_1 PRD (20, [7, 0], [50, 1, 1, 1158, 1160, 4, 6, 1, 2, 1, 0, 0, 1, 1, 6, 3, 1, 160, 2, 1, 158, 0, 1]) ws (vs) := ⟨nf_in hl rfl, sgq_287 (vc_Mo_word_at_s5029_1_0 (v_iv (n_v vs 2)) (v_iv (n_v vs 4)) (v_iv (n_v vs 5)) (v_iv (n_v vs 6)) (v_iv (n_v vs 7)) (w_ei ws (w_ar ws (n_v vs 0) 160)) (w_fi ws (n_v vs 0) 158) (w_fi ws (n_v vs 0) 8) (w_ei ws (w_ar ws (n_v vs 0) 1)) (w_ei ws (w_ar ws (n_v vs 0) 162)) (w_ei ws (w_ar ws (n_v vs 0) 163)) (w_fi ws (n_v vs 0) 10) k2 k4 k5 k6 k7 (shm_192 f0) (shm_40 f1) h2 g3 (shm_192 f5) g6 hK_0_1 hK_0_160 hK_0_162 hK_0_163 kz_0_8 kz_0_10 kz_0_158)⟩
  have nf1 : fc_1 PRD (20, [0, 7], [60, 3, 4, 34, 8, 158, 10, 160, 162, 163, 1]) ws (vs) := ⟨nf_in hl rfl, sgq_1873 (vc_Mo_word_at_s5029_1_1 (v_iv (n_v vs 4)) (v_iv (n_v vs 5)) (v_iv (n_v vs 6)) (v_iv (n_v vs 7)) (w_ei ws (w_ar ws (n_v vs 0) 160)) (w_fi ws (n_v vs 0) 158) (w_fi ws (n_v vs 0) 8) (w_ei ws (w_ar ws (n_v vs 0) 1)) (w_ei ws (w_ar ws (n_v vs 0) 162)) (w_ei ws (w_ar ws (n_v vs 0) 163)) (w_fi ws (n_v vs 0) 10) k4 k5 k6 k7 (shm_40 f1) h2 g3 kz_0_8 kz_0_10 kz_0_158)⟩
  refine ⟨(fun _ h => (by cases h)), [], trivial, ?_, (fun _ h => (by cases h))⟩
  rw [List.append_nil]
  exact List.forall_mem_cons.mpr ⟨⟨show (20 : Nat) < 100 from by decide, nf0⟩, List.forall_mem_cons.mpr ⟨⟨show (20 : Nat) < 100 from by decide, nf1⟩, (fun _ h => (by cases h))⟩⟩
set_option maxHeartbeats 4000000 in
theorem vc_Mo_word_at_s5029_2_0 (x2 : Int) (x4 : Int) (x5 : Int) (x6 : Int) (x8 : Int) (x10 : Int) (x11 : Int) (x12 : Int) (x13 : Int) (tokenPlace_0 : Int → Int) (cur_0 : Int) (tokenEnd_0 : Int → Int) (tokenKind_0 : Int → Int) (fault_0 : Int) (tape_0 : Int → Int) (limit_0 : Int) (k2 : 0 ≤ x2 ∧ x2 ≤ 0) (k4 : 0 ≤ x4 ∧ x4 ≤ 2009) (k5 : 1 ≤ x5 ∧ x5 ≤ 1) (k6 : 1 ≤ x6 ∧ x6 ≤ 1) (k8 : 0 ≤ x8 ∧ x8 ≤ 2000) (k10 : 0 ≤ x10 ∧ x10 ≤ 2000) (k11 : (-2000) ≤ x11 ∧ x11 ≤ 2000) (k12 : 4 ≤ x12 ∧ x12 ≤ 4) (k13 : 0 ≤ x13 ∧ x13 ≤ 0) (d0 : x8 + (-2000) ≤ x11 ∧ x11 ≤ x8 + 0) (f0 : x13 = 0) (f1 : x11 ≠ x12) (f2 : x11 = x8 - x10) (h3 : x10 = tokenPlace_0 (x4)) (g4 : x4 = cur_0) (h6 : x8 = tokenEnd_0 (x4)) (f8 : x5 = x6) (h9 : x5 = tokenKind_0 (x4)) (f11 : x2 = 0) (g12 : x2 = fault_0) (hK_0_1 : ∀ j : Int, 0 ≤ j → j < 2000 → (-128) ≤ tape_0 j ∧ tape_0 j ≤ 127) (hK_0_160 : ∀ j : Int, 0 ≤ j → j < 2010 → 0 ≤ tokenKind_0 j ∧ tokenKind_0 j ≤ 4) (hK_0_162 : ∀ j : Int, 0 ≤ j → j < 2010 → 0 ≤ tokenPlace_0 j ∧ tokenPlace_0 j ≤ 2000) (hK_0_163 : ∀ j : Int, 0 ≤ j → j < 2010 → 0 ≤ tokenEnd_0 j ∧ tokenEnd_0 j ≤ 2000) (kz_0_8 : 0 ≤ fault_0 ∧ fault_0 ≤ 5) (kz_0_10 : 0 ≤ limit_0 ∧ limit_0 ≤ 2000) (kz_0_158 : 0 ≤ cur_0 ∧ cur_0 ≤ 2009) : (x13 = 1) → (tokenKind_0 (cur_0) = 1) := by
  first | assumption | (clear hK_0_1 hK_0_160 hK_0_162 hK_0_163; omega) | omega | grind
set_option maxHeartbeats 4000000 in
theorem vc_Mo_word_at_s5029_2_1 (x4 : Int) (x8 : Int) (x10 : Int) (x11 : Int) (x12 : Int) (x13 : Int) (tokenPlace_0 : Int → Int) (cur_0 : Int) (tokenEnd_0 : Int → Int) (tokenKind_0 : Int → Int) (fault_0 : Int) (tape_0 : Int → Int) (limit_0 : Int) (k4 : 0 ≤ x4 ∧ x4 ≤ 2009) (k8 : 0 ≤ x8 ∧ x8 ≤ 2000) (k10 : 0 ≤ x10 ∧ x10 ≤ 2000) (k11 : (-2000) ≤ x11 ∧ x11 ≤ 2000) (k12 : 4 ≤ x12 ∧ x12 ≤ 4) (k13 : 0 ≤ x13 ∧ x13 ≤ 0) (f1 : x11 ≠ x12) (f2 : x11 = x8 - x10) (h3 : x10 = tokenPlace_0 (x4)) (g4 : x4 = cur_0) (h6 : x8 = tokenEnd_0 (x4)) (kz_0_8 : 0 ≤ fault_0 ∧ fault_0 ≤ 5) (kz_0_10 : 0 ≤ limit_0 ∧ limit_0 ≤ 2000) (kz_0_158 : 0 ≤ cur_0 ∧ cur_0 ≤ 2009) : Wqcore (fault_0) (cur_0) (limit_0) (tokenKind_0) (tokenPlace_0) (tokenEnd_0) (tape_0) (x13) := by
  first
    | exact ⟨fun z => by omega, fun z => by have := z.1; omega⟩
    | (have e := (‹x4 = cur_0›)
       rw [← e]
       refine ⟨fun z => ⟨by omega, wdS4.2 ⟨by omega, by omega, by omega, by rw [show tokenPlace_0 x4 + 0 = x17 by omega]; omega, by rw [show tokenPlace_0 x4 + 1 = x24 by omega]; omega, by rw [show tokenPlace_0 x4 + 2 = x31 by omega]; omega, by rw [show tokenPlace_0 x4 + 3 = x38 by omega]; omega⟩⟩, fun z => by omega⟩)
    | (have e := (‹x4 = cur_0›)
       rw [← e]
       refine ⟨fun z => by omega, fun z => ?_⟩
       have w := wdS4.1 z.2
       try (have q0 : tokenPlace_0 x4 + 0 = x17 := (by omega); rw [q0] at w)
       try (have q1 : tokenPlace_0 x4 + 1 = x24 := (by omega); rw [q1] at w)
       try (have q2 : tokenPlace_0 x4 + 2 = x31 := (by omega); rw [q2] at w)
       try (have q3 : tokenPlace_0 x4 + 3 = x38 := (by omega); rw [q3] at w)
       omega)
  
def o_Mo_word_at_s5029_2 : or_T := (102, 16, [(0, (2, 0, 0, [165])), (2, (0, 0, 0, [])), (4, (0, 0, 2009, [])), (5, (0, 1, 1, [])), (6, (0, 1, 1, [])), (8, (0, 0, 2000, [])), (10, (0, 0, 2000, [])), (11, (0, -2000, 2000, [])), (12, (0, 4, 4, [])), (13, (0, 0, 0, []))], [(8, [13], [0]), (7, [11, 12], [1]), (2, [11, 8, 10], []), (10, [10, 9, 4], []), (9, [4, 0], [158]), (9, [9, 0], [162]), (10, [8, 7, 4], []), (9, [7, 0], [163]), (7, [5, 6], [0]), (10, [5, 3, 4], []), (9, [3, 0], [160]), (8, [2], [0]), (9, [2, 0], [8])], [], [], [(20, [13, 0], [50, 1, 1, 1158, 1160, 4, 6, 1, 2, 1, 0, 0, 1, 1, 6, 3, 1, 160, 2, 1, 158, 0, 1]), (20, [0, 13], [60, 3, 4, 34, 8, 158, 10, 160, 162, 163, 1])], [], [(11, 8, -2000, 0)])
theorem oo_Mo_word_at_s5029_2 {kA : Nat → ClassId} : or_ok PRD kA GG o_Mo_word_at_s5029_2 := by
  refine or_mk fun A ta ws vs hD hth hl => ?_
  intro t0 r0 t2 k2 t4 k4 t5 k5 t6 k6 t8 k8 t10 k10 t11 k11 t12 k12 t13 k13 d0 f0 f1 f2 f3 f4 f5 f6 f7 f8 f9 f10 f11 f12
  replace f3 := shm_107 f3
  replace f4 := shm_286 f4
  replace f5 := shm_301 f5
  replace f6 := shm_107 f6
  replace f7 := shm_1332 f7
  replace f9 := shm_107 f9
  replace f10 := shm_327 f10
  replace f12 := shm_293 f12
  have cr_0_1 := fdq_39 hD hth r0
  have cr_0_160 := fdq_33 hD hth r0
  have cr_0_162 := fdq_41 hD hth r0
  have cr_0_163 := fdq_42 hD hth r0
  have ad_9 : v_ad (n_v vs 9) = w_ar ws (n_v vs 0) 162 := congrArg v_ad f5
  have ad_7 : v_ad (n_v vs 7) = w_ar ws (n_v vs 0) 163 := congrArg v_ad f7
  have ad_3 : v_ad (n_v vs 3) = w_ar ws (n_v vs 0) 160 := congrArg v_ad f10
  simp only [ad_9] at f3
  have h3 : v_iv (n_v vs 10) = w_ei ws (w_ar ws (n_v vs 0) 162) (v_iv (n_v vs 4)) := f3
  have g4 : v_iv (n_v vs 4) = w_fi ws (n_v vs 0) 158 := congrArg v_iv f4
  simp only [ad_7] at f6
  have h6 : v_iv (n_v vs 8) = w_ei ws (w_ar ws (n_v vs 0) 163) (v_iv (n_v vs 4)) := f6
  simp only [ad_3] at f9
  have h9 : v_iv (n_v vs 5) = w_ei ws (w_ar ws (n_v vs 0) 160) (v_iv (n_v vs 4)) := f9
  have g12 : v_iv (n_v vs 2) = w_fi ws (n_v vs 0) 8 := congrArg v_iv f12
  have hK_0_1 := elq_7 hD hth cr_0_1
  have hK_0_160 := elq_6 hD hth cr_0_160
  have hK_0_162 := elq_8 hD hth cr_0_162
  have hK_0_163 := elq_9 hD hth cr_0_163
  have kz_0_8 := fdq_34 hD hth r0
  have kz_0_10 := fdq_43 hD hth r0
  have kz_0_158 := fdq_36 hD hth r0
  have nf0 : fc_1 PRD (20, [13, 0], [50, 1, 1, 1158, 1160, 4, 6, 1, 2, 1, 0, 0, 1, 1, 6, 3, 1, 160, 2, 1, 158, 0, 1]) ws (vs) := ⟨nf_in hl rfl, sgq_287 (vc_Mo_word_at_s5029_2_0 (v_iv (n_v vs 2)) (v_iv (n_v vs 4)) (v_iv (n_v vs 5)) (v_iv (n_v vs 6)) (v_iv (n_v vs 8)) (v_iv (n_v vs 10)) (v_iv (n_v vs 11)) (v_iv (n_v vs 12)) (v_iv (n_v vs 13)) (w_ei ws (w_ar ws (n_v vs 0) 162)) (w_fi ws (n_v vs 0) 158) (w_ei ws (w_ar ws (n_v vs 0) 163)) (w_ei ws (w_ar ws (n_v vs 0) 160)) (w_fi ws (n_v vs 0) 8) (w_ei ws (w_ar ws (n_v vs 0) 1)) (w_fi ws (n_v vs 0) 10) k2 k4 k5 k6 k8 k10 k11 k12 k13 d0 (shm_192 f0) (shm_40 f1) (shm_14 f2) h3 g4 h6 (shm_37 f8) h9 (shm_192 f11) g12 hK_0_1 hK_0_160 hK_0_162 hK_0_163 kz_0_8 kz_0_10 kz_0_158)⟩
  have nf1 : fc_1 PRD (20, [0, 13], [60, 3, 4, 34, 8, 158, 10, 160, 162, 163, 1]) ws (vs) := ⟨nf_in hl rfl, sgq_1873 (vc_Mo_word_at_s5029_2_1 (v_iv (n_v vs 4)) (v_iv (n_v vs 8)) (v_iv (n_v vs 10)) (v_iv (n_v vs 11)) (v_iv (n_v vs 12)) (v_iv (n_v vs 13)) (w_ei ws (w_ar ws (n_v vs 0) 162)) (w_fi ws (n_v vs 0) 158) (w_ei ws (w_ar ws (n_v vs 0) 163)) (w_ei ws (w_ar ws (n_v vs 0) 160)) (w_fi ws (n_v vs 0) 8) (w_ei ws (w_ar ws (n_v vs 0) 1)) (w_fi ws (n_v vs 0) 10) k4 k8 k10 k11 k12 k13 (shm_40 f1) (shm_14 f2) h3 g4 h6 kz_0_8 kz_0_10 kz_0_158)⟩
  refine ⟨(fun _ h => (by cases h)), [], trivial, ?_, (fun _ h => (by cases h))⟩
  rw [List.append_nil]
  exact List.forall_mem_cons.mpr ⟨⟨show (20 : Nat) < 100 from by decide, nf0⟩, List.forall_mem_cons.mpr ⟨⟨show (20 : Nat) < 100 from by decide, nf1⟩, (fun _ h => (by cases h))⟩⟩
set_option maxHeartbeats 4000000 in
theorem vc_Mo_word_at_s5029_3_0 (x2 : Int) (x4 : Int) (x5 : Int) (x6 : Int) (x8 : Int) (x10 : Int) (x11 : Int) (x12 : Int) (x14 : Int) (x15 : Int) (x16 : Int) (x17 : Int) (x18 : Int) (x19 : Int) (x20 : Int) (tape_0 : Int → Int) (limit_0 : Int) (tokenPlace_0 : Int → Int) (cur_0 : Int) (tokenEnd_0 : Int → Int) (tokenKind_0 : Int → Int) (fault_0 : Int) (k2 : 0 ≤ x2 ∧ x2 ≤ 0) (k4 : 0 ≤ x4 ∧ x4 ≤ 2009) (k5 : 1 ≤ x5 ∧ x5 ≤ 1) (k6 : 1 ≤ x6 ∧ x6 ≤ 1) (k8 : 4 ≤ x8 ∧ x8 ≤ 2000) (k10 : 0 ≤ x10 ∧ x10 ≤ 2000) (k11 : 4 ≤ x11 ∧ x11 ≤ 4) (k12 : 4 ≤ x12 ∧ x12 ≤ 4) (k14 : 0 ≤ x14 ∧ x14 ≤ 0) (k15 : 4 ≤ x15 ∧ x15 ≤ 4) (k16 : 0 ≤ x16 ∧ x16 ≤ 2000) (k17 : 0 ≤ x17 ∧ x17 ≤ 2000) (k18 : (-1) ≤ x18 ∧ x18 ≤ (-1)) (k19 : 0 ≤ x19 ∧ x19 ≤ 65535) (k20 : 0 ≤ x20 ∧ x20 ≤ 0) (d0 : x16 + 0 ≤ x17 ∧ x17 ≤ x16 + 0) (f0 : x20 = 0) (f1 : x18 ≠ x19) (f2 : 1 * x19 + 0 ≤ 99) (f3 : (-1) * x19 + 0 ≤ (-99)) (f4 : ((x17 + 1) ≤ limit_0) → (x18 = (tape_0 (x17) % 256))) (f5 : (limit_0 ≤ x17) → (x18 = (-1))) (f6 : x17 = x16 + x14) (h7 : x16 = tokenPlace_0 (x4)) (g8 : x4 = cur_0) (f10 : x14 < x15) (f11 : x11 = x12) (f12 : x11 = x8 - x10) (h13 : x10 = tokenPlace_0 (x4)) (h14 : x8 = tokenEnd_0 (x4)) (f16 : x5 = x6) (h17 : x5 = tokenKind_0 (x4)) (f19 : x2 = 0) (g20 : x2 = fault_0) (hK_0_1 : ∀ j : Int, 0 ≤ j → j < 2000 → (-128) ≤ tape_0 j ∧ tape_0 j ≤ 127) (hK_0_160 : ∀ j : Int, 0 ≤ j → j < 2010 → 0 ≤ tokenKind_0 j ∧ tokenKind_0 j ≤ 4) (hK_0_162 : ∀ j : Int, 0 ≤ j → j < 2010 → 0 ≤ tokenPlace_0 j ∧ tokenPlace_0 j ≤ 2000) (hK_0_163 : ∀ j : Int, 0 ≤ j → j < 2010 → 0 ≤ tokenEnd_0 j ∧ tokenEnd_0 j ≤ 2000) (kz_0_8 : 0 ≤ fault_0 ∧ fault_0 ≤ 5) (kz_0_10 : 0 ≤ limit_0 ∧ limit_0 ≤ 2000) (kz_0_158 : 0 ≤ cur_0 ∧ cur_0 ≤ 2009) : (x20 = 1) → (tokenKind_0 (cur_0) = 1) := by
  first | assumption | (clear f4 f5 hK_0_1 hK_0_160 hK_0_162 hK_0_163; omega) | (clear hK_0_1 hK_0_160 hK_0_162 hK_0_163; grind) | omega | grind
set_option maxHeartbeats 4000000 in
theorem vc_Mo_word_at_s5029_3_1 (x4 : Int) (x8 : Int) (x10 : Int) (x11 : Int) (x16 : Int) (x17 : Int) (x18 : Int) (x20 : Int) (tape_0 : Int → Int) (limit_0 : Int) (tokenPlace_0 : Int → Int) (cur_0 : Int) (tokenEnd_0 : Int → Int) (tokenKind_0 : Int → Int) (fault_0 : Int) (k4 : 0 ≤ x4 ∧ x4 ≤ 2009) (k8 : 4 ≤ x8 ∧ x8 ≤ 2000) (k10 : 0 ≤ x10 ∧ x10 ≤ 2000) (k11 : 4 ≤ x11 ∧ x11 ≤ 4) (k16 : 0 ≤ x16 ∧ x16 ≤ 2000) (k17 : 0 ≤ x17 ∧ x17 ≤ 2000) (k18 : (-1) ≤ x18 ∧ x18 ≤ (-1)) (k20 : 0 ≤ x20 ∧ x20 ≤ 0) (d0 : x16 + 0 ≤ x17 ∧ x17 ≤ x16 + 0) (f4 : ((x17 + 1) ≤ limit_0) → (x18 = (tape_0 (x17) % 256))) (f5 : (limit_0 ≤ x17) → (x18 = (-1))) (h7 : x16 = tokenPlace_0 (x4)) (g8 : x4 = cur_0) (f12 : x11 = x8 - x10) (h13 : x10 = tokenPlace_0 (x4)) (h14 : x8 = tokenEnd_0 (x4)) (kz_0_8 : 0 ≤ fault_0 ∧ fault_0 ≤ 5) (kz_0_10 : 0 ≤ limit_0 ∧ limit_0 ≤ 2000) (kz_0_158 : 0 ≤ cur_0 ∧ cur_0 ≤ 2009) : Wqcore (fault_0) (cur_0) (limit_0) (tokenKind_0) (tokenPlace_0) (tokenEnd_0) (tape_0) (x20) := by
  first
    | exact ⟨fun z => by omega, fun z => by have := z.1; omega⟩
    | (have e := (‹x4 = cur_0›)
       rw [← e]
       refine ⟨fun z => ⟨by omega, wdS4.2 ⟨by omega, by omega, by omega, by rw [show tokenPlace_0 x4 + 0 = x17 by omega]; omega, by rw [show tokenPlace_0 x4 + 1 = x24 by omega]; omega, by rw [show tokenPlace_0 x4 + 2 = x31 by omega]; omega, by rw [show tokenPlace_0 x4 + 3 = x38 by omega]; omega⟩⟩, fun z => by omega⟩)
    | (have e := (‹x4 = cur_0›)
       rw [← e]
       refine ⟨fun z => by omega, fun z => ?_⟩
       have w := wdS4.1 z.2
       try (have q0 : tokenPlace_0 x4 + 0 = x17 := (by omega); rw [q0] at w)
       try (have q1 : tokenPlace_0 x4 + 1 = x24 := (by omega); rw [q1] at w)
       try (have q2 : tokenPlace_0 x4 + 2 = x31 := (by omega); rw [q2] at w)
       try (have q3 : tokenPlace_0 x4 + 3 = x38 := (by omega); rw [q3] at w)
       omega)
  
def o_Mo_word_at_s5029_3 : or_T := (102, 23, [(0, (2, 0, 0, [165])), (2, (0, 0, 0, [])), (3, (2, 0, 0, [274])), (4, (0, 0, 2009, [])), (5, (0, 1, 1, [])), (6, (0, 1, 1, [])), (7, (2, 0, 0, [277])), (8, (0, 4, 2000, [])), (9, (2, 0, 0, [276])), (10, (0, 0, 2000, [])), (11, (0, 4, 4, [])), (12, (0, 4, 4, [])), (14, (0, 0, 0, [])), (15, (0, 4, 4, [])), (16, (0, 0, 2000, [])), (17, (0, 0, 2000, [])), (18, (0, -1, -1, [])), (19, (0, 0, 65535, [])), (20, (0, 0, 0, []))], [(8, [20], [0]), (7, [18, 19], [1]), (23, [19], [99, 1]), (23, [19], [-99, -1]), (20, [17, 0, 18], [50, 1, 1, 1010, 1001, 4, 11, 0, 6, 4, 2, 1, 0, 0, 1, 2, 1, 10, 1, 2, 1, 2, 9, 5, 3, 1, 1, 1, 0, 0, 256]), (20, [0, 17, 18], [50, 1, 0, 10, 4, 7, 0, 3, 2, 0, 10, 1, 1, 1, 2, 1, 2, 0, -1]), (1, [17, 16, 14], []), (10, [16, 9, 4], []), (9, [4, 0], [158]), (9, [9, 0], [162]), (7, [14, 15], [2]), (7, [11, 12], [0]), (2, [11, 8, 10], []), (10, [10, 9, 4], []), (10, [8, 7, 4], []), (9, [7, 0], [163]), (7, [5, 6], [0]), (10, [5, 3, 4], []), (9, [3, 0], [160]), (8, [2], [0]), (9, [2, 0], [8])], [], [], [(20, [20, 0], [50, 1, 1, 1158, 1160, 4, 6, 1, 2, 1, 0, 0, 1, 1, 6, 3, 1, 160, 2, 1, 158, 0, 1]), (20, [0, 20], [60, 3, 4, 34, 8, 158, 10, 160, 162, 163, 1])], [], [(17, 16, 0, 0)])
theorem oo_Mo_word_at_s5029_3 {kA : Nat → ClassId} : or_ok PRD kA GG o_Mo_word_at_s5029_3 := by
  refine or_mk fun A ta ws vs hD hth hl => ?_
  intro t0 r0 t2 k2 t3 r3 t4 k4 t5 k5 t6 k6 t7 r7 t8 k8 t9 r9 t10 k10 t11 k11 t12 k12 t14 k14 t15 k15 t16 k16 t17 k17 t18 k18 t19 k19 t20 k20 d0 f0 f1 f2 f3 f4 f5 f6 f7 f8 f9 f10 f11 f12 f13 f14 f15 f16 f17 f18 f19 f20
  replace f7 := shm_107 f7
  replace f8 := shm_286 f8
  replace f9 := shm_301 f9
  replace f13 := shm_107 f13
  replace f14 := shm_107 f14
  replace f15 := shm_1332 f15
  replace f17 := shm_107 f17
  replace f18 := shm_327 f18
  replace f20 := shm_293 f20
  have cr_0_1 := fdq_39 hD hth r0
  have cr_0_160 := fdq_33 hD hth r0
  have cr_0_162 := fdq_41 hD hth r0
  have cr_0_163 := fdq_42 hD hth r0
  have ad_9 : v_ad (n_v vs 9) = w_ar ws (n_v vs 0) 162 := congrArg v_ad f9
  have ad_7 : v_ad (n_v vs 7) = w_ar ws (n_v vs 0) 163 := congrArg v_ad f15
  have ad_3 : v_ad (n_v vs 3) = w_ar ws (n_v vs 0) 160 := congrArg v_ad f18
  simp only [ad_9] at f7
  have h7 : v_iv (n_v vs 16) = w_ei ws (w_ar ws (n_v vs 0) 162) (v_iv (n_v vs 4)) := f7
  have g8 : v_iv (n_v vs 4) = w_fi ws (n_v vs 0) 158 := congrArg v_iv f8
  simp only [ad_9] at f13
  have h13 : v_iv (n_v vs 10) = w_ei ws (w_ar ws (n_v vs 0) 162) (v_iv (n_v vs 4)) := f13
  simp only [ad_7] at f14
  have h14 : v_iv (n_v vs 8) = w_ei ws (w_ar ws (n_v vs 0) 163) (v_iv (n_v vs 4)) := f14
  simp only [ad_3] at f17
  have h17 : v_iv (n_v vs 5) = w_ei ws (w_ar ws (n_v vs 0) 160) (v_iv (n_v vs 4)) := f17
  have g20 : v_iv (n_v vs 2) = w_fi ws (n_v vs 0) 8 := congrArg v_iv f20
  have hK_0_1 := elq_7 hD hth cr_0_1
  have hK_0_160 := elq_6 hD hth cr_0_160
  have hK_0_162 := elq_8 hD hth cr_0_162
  have hK_0_163 := elq_9 hD hth cr_0_163
  have kz_0_8 := fdq_34 hD hth r0
  have kz_0_10 := fdq_43 hD hth r0
  have kz_0_158 := fdq_36 hD hth r0
  have nf0 : fc_1 PRD (20, [20, 0], [50, 1, 1, 1158, 1160, 4, 6, 1, 2, 1, 0, 0, 1, 1, 6, 3, 1, 160, 2, 1, 158, 0, 1]) ws (vs) := ⟨nf_in hl rfl, sgq_287 (vc_Mo_word_at_s5029_3_0 (v_iv (n_v vs 2)) (v_iv (n_v vs 4)) (v_iv (n_v vs 5)) (v_iv (n_v vs 6)) (v_iv (n_v vs 8)) (v_iv (n_v vs 10)) (v_iv (n_v vs 11)) (v_iv (n_v vs 12)) (v_iv (n_v vs 14)) (v_iv (n_v vs 15)) (v_iv (n_v vs 16)) (v_iv (n_v vs 17)) (v_iv (n_v vs 18)) (v_iv (n_v vs 19)) (v_iv (n_v vs 20)) (w_ei ws (w_ar ws (n_v vs 0) 1)) (w_fi ws (n_v vs 0) 10) (w_ei ws (w_ar ws (n_v vs 0) 162)) (w_fi ws (n_v vs 0) 158) (w_ei ws (w_ar ws (n_v vs 0) 163)) (w_ei ws (w_ar ws (n_v vs 0) 160)) (w_fi ws (n_v vs 0) 8) k2 k4 k5 k6 k8 k10 k11 k12 k14 k15 k16 k17 k18 k19 k20 d0 (shm_192 f0) (shm_40 f1) (shm_87 f2) (shm_88 f3) (shm_541 f4) (shm_542 f5) (shm_12 f6) h7 g8 (shm_6 f10) (shm_37 f11) (shm_14 f12) h13 h14 (shm_37 f16) h17 (shm_192 f19) g20 hK_0_1 hK_0_160 hK_0_162 hK_0_163 kz_0_8 kz_0_10 kz_0_158)⟩
  have nf1 : fc_1 PRD (20, [0, 20], [60, 3, 4, 34, 8, 158, 10, 160, 162, 163, 1]) ws (vs) := ⟨nf_in hl rfl, sgq_1873 (vc_Mo_word_at_s5029_3_1 (v_iv (n_v vs 4)) (v_iv (n_v vs 8)) (v_iv (n_v vs 10)) (v_iv (n_v vs 11)) (v_iv (n_v vs 16)) (v_iv (n_v vs 17)) (v_iv (n_v vs 18)) (v_iv (n_v vs 20)) (w_ei ws (w_ar ws (n_v vs 0) 1)) (w_fi ws (n_v vs 0) 10) (w_ei ws (w_ar ws (n_v vs 0) 162)) (w_fi ws (n_v vs 0) 158) (w_ei ws (w_ar ws (n_v vs 0) 163)) (w_ei ws (w_ar ws (n_v vs 0) 160)) (w_fi ws (n_v vs 0) 8) k4 k8 k10 k11 k16 k17 k18 k20 d0 (shm_541 f4) (shm_542 f5) h7 g8 (shm_14 f12) h13 h14 kz_0_8 kz_0_10 kz_0_158)⟩
  refine ⟨(fun _ h => (by cases h)), [], trivial, ?_, (fun _ h => (by cases h))⟩
  rw [List.append_nil]
  exact List.forall_mem_cons.mpr ⟨⟨show (20 : Nat) < 100 from by decide, nf0⟩, List.forall_mem_cons.mpr ⟨⟨show (20 : Nat) < 100 from by decide, nf1⟩, (fun _ h => (by cases h))⟩⟩
set_option maxHeartbeats 4000000 in
theorem vc_Mo_word_at_s5029_4_0 (x2 : Int) (x4 : Int) (x5 : Int) (x6 : Int) (x8 : Int) (x10 : Int) (x11 : Int) (x12 : Int) (x14 : Int) (x15 : Int) (x16 : Int) (x17 : Int) (x18 : Int) (x19 : Int) (x20 : Int) (tape_0 : Int → Int) (limit_0 : Int) (tokenPlace_0 : Int → Int) (cur_0 : Int) (tokenEnd_0 : Int → Int) (tokenKind_0 : Int → Int) (fault_0 : Int) (k2 : 0 ≤ x2 ∧ x2 ≤ 0) (k4 : 0 ≤ x4 ∧ x4 ≤ 2009) (k5 : 1 ≤ x5 ∧ x5 ≤ 1) (k6 : 1 ≤ x6 ∧ x6 ≤ 1) (k8 : 4 ≤ x8 ∧ x8 ≤ 2000) (k10 : 0 ≤ x10 ∧ x10 ≤ 2000) (k11 : 4 ≤ x11 ∧ x11 ≤ 4) (k12 : 4 ≤ x12 ∧ x12 ≤ 4) (k14 : 0 ≤ x14 ∧ x14 ≤ 0) (k15 : 4 ≤ x15 ∧ x15 ≤ 4) (k16 : 0 ≤ x16 ∧ x16 ≤ 1999) (k17 : 0 ≤ x17 ∧ x17 ≤ 1999) (k18 : 0 ≤ x18 ∧ x18 ≤ 255) (k19 : 0 ≤ x19 ∧ x19 ≤ 65535) (k20 : 0 ≤ x20 ∧ x20 ≤ 0) (d0 : x16 + 0 ≤ x17 ∧ x17 ≤ x16 + 0) (f0 : x20 = 0) (f1 : x18 ≠ x19) (f2 : 1 * x19 + 0 ≤ 99) (f3 : (-1) * x19 + 0 ≤ (-99)) (f4 : ((x17 + 1) ≤ limit_0) → (x18 = (tape_0 (x17) % 256))) (f5 : (limit_0 ≤ x17) → (x18 = (-1))) (f6 : x17 = x16 + x14) (h7 : x16 = tokenPlace_0 (x4)) (g8 : x4 = cur_0) (f10 : x14 < x15) (f11 : x11 = x12) (f12 : x11 = x8 - x10) (h13 : x10 = tokenPlace_0 (x4)) (h14 : x8 = tokenEnd_0 (x4)) (f16 : x5 = x6) (h17 : x5 = tokenKind_0 (x4)) (f19 : x2 = 0) (g20 : x2 = fault_0) (hK_0_1 : ∀ j : Int, 0 ≤ j → j < 2000 → (-128) ≤ tape_0 j ∧ tape_0 j ≤ 127) (hK_0_160 : ∀ j : Int, 0 ≤ j → j < 2010 → 0 ≤ tokenKind_0 j ∧ tokenKind_0 j ≤ 4) (hK_0_162 : ∀ j : Int, 0 ≤ j → j < 2010 → 0 ≤ tokenPlace_0 j ∧ tokenPlace_0 j ≤ 2000) (hK_0_163 : ∀ j : Int, 0 ≤ j → j < 2010 → 0 ≤ tokenEnd_0 j ∧ tokenEnd_0 j ≤ 2000) (kz_0_8 : 0 ≤ fault_0 ∧ fault_0 ≤ 5) (kz_0_10 : 0 ≤ limit_0 ∧ limit_0 ≤ 2000) (kz_0_158 : 0 ≤ cur_0 ∧ cur_0 ≤ 2009) : (x20 = 1) → (tokenKind_0 (cur_0) = 1) := by
  first | assumption | (clear f4 f5 hK_0_1 hK_0_160 hK_0_162 hK_0_163; omega) | (clear hK_0_1 hK_0_160 hK_0_162 hK_0_163; grind) | omega | grind
set_option maxHeartbeats 4000000 in
theorem vc_Mo_word_at_s5029_4_1 (x4 : Int) (x8 : Int) (x10 : Int) (x11 : Int) (x16 : Int) (x17 : Int) (x18 : Int) (x19 : Int) (x20 : Int) (tape_0 : Int → Int) (limit_0 : Int) (tokenPlace_0 : Int → Int) (cur_0 : Int) (tokenEnd_0 : Int → Int) (tokenKind_0 : Int → Int) (fault_0 : Int) (k4 : 0 ≤ x4 ∧ x4 ≤ 2009) (k8 : 4 ≤ x8 ∧ x8 ≤ 2000) (k10 : 0 ≤ x10 ∧ x10 ≤ 2000) (k11 : 4 ≤ x11 ∧ x11 ≤ 4) (k16 : 0 ≤ x16 ∧ x16 ≤ 1999) (k17 : 0 ≤ x17 ∧ x17 ≤ 1999) (k18 : 0 ≤ x18 ∧ x18 ≤ 255) (k19 : 0 ≤ x19 ∧ x19 ≤ 65535) (k20 : 0 ≤ x20 ∧ x20 ≤ 0) (d0 : x16 + 0 ≤ x17 ∧ x17 ≤ x16 + 0) (f1 : x18 ≠ x19) (f2 : 1 * x19 + 0 ≤ 99) (f3 : (-1) * x19 + 0 ≤ (-99)) (f4 : ((x17 + 1) ≤ limit_0) → (x18 = (tape_0 (x17) % 256))) (f5 : (limit_0 ≤ x17) → (x18 = (-1))) (h7 : x16 = tokenPlace_0 (x4)) (g8 : x4 = cur_0) (f12 : x11 = x8 - x10) (h13 : x10 = tokenPlace_0 (x4)) (h14 : x8 = tokenEnd_0 (x4)) (kz_0_8 : 0 ≤ fault_0 ∧ fault_0 ≤ 5) (kz_0_10 : 0 ≤ limit_0 ∧ limit_0 ≤ 2000) (kz_0_158 : 0 ≤ cur_0 ∧ cur_0 ≤ 2009) : Wqcore (fault_0) (cur_0) (limit_0) (tokenKind_0) (tokenPlace_0) (tokenEnd_0) (tape_0) (x20) := by
  first
    | exact ⟨fun z => by omega, fun z => by have := z.1; omega⟩
    | (have e := (‹x4 = cur_0›)
       rw [← e]
       refine ⟨fun z => ⟨by omega, wdS4.2 ⟨by omega, by omega, by omega, by rw [show tokenPlace_0 x4 + 0 = x17 by omega]; omega, by rw [show tokenPlace_0 x4 + 1 = x24 by omega]; omega, by rw [show tokenPlace_0 x4 + 2 = x31 by omega]; omega, by rw [show tokenPlace_0 x4 + 3 = x38 by omega]; omega⟩⟩, fun z => by omega⟩)
    | (have e := (‹x4 = cur_0›)
       rw [← e]
       refine ⟨fun z => by omega, fun z => ?_⟩
       have w := wdS4.1 z.2
       try (have q0 : tokenPlace_0 x4 + 0 = x17 := (by omega); rw [q0] at w)
       try (have q1 : tokenPlace_0 x4 + 1 = x24 := (by omega); rw [q1] at w)
       try (have q2 : tokenPlace_0 x4 + 2 = x31 := (by omega); rw [q2] at w)
       try (have q3 : tokenPlace_0 x4 + 3 = x38 := (by omega); rw [q3] at w)
       omega)
  
def o_Mo_word_at_s5029_4 : or_T := (102, 23, [(0, (2, 0, 0, [165])), (2, (0, 0, 0, [])), (3, (2, 0, 0, [274])), (4, (0, 0, 2009, [])), (5, (0, 1, 1, [])), (6, (0, 1, 1, [])), (7, (2, 0, 0, [277])), (8, (0, 4, 2000, [])), (9, (2, 0, 0, [276])), (10, (0, 0, 2000, [])), (11, (0, 4, 4, [])), (12, (0, 4, 4, [])), (14, (0, 0, 0, [])), (15, (0, 4, 4, [])), (16, (0, 0, 1999, [])), (17, (0, 0, 1999, [])), (18, (0, 0, 255, [])), (19, (0, 0, 65535, [])), (20, (0, 0, 0, []))], [(8, [20], [0]), (7, [18, 19], [1]), (23, [19], [99, 1]), (23, [19], [-99, -1]), (20, [17, 0, 18], [50, 1, 1, 1010, 1001, 4, 11, 0, 6, 4, 2, 1, 0, 0, 1, 2, 1, 10, 1, 2, 1, 2, 9, 5, 3, 1, 1, 1, 0, 0, 256]), (20, [0, 17, 18], [50, 1, 0, 10, 4, 7, 0, 3, 2, 0, 10, 1, 1, 1, 2, 1, 2, 0, -1]), (1, [17, 16, 14], []), (10, [16, 9, 4], []), (9, [4, 0], [158]), (9, [9, 0], [162]), (7, [14, 15], [2]), (7, [11, 12], [0]), (2, [11, 8, 10], []), (10, [10, 9, 4], []), (10, [8, 7, 4], []), (9, [7, 0], [163]), (7, [5, 6], [0]), (10, [5, 3, 4], []), (9, [3, 0], [160]), (8, [2], [0]), (9, [2, 0], [8])], [], [], [(20, [20, 0], [50, 1, 1, 1158, 1160, 4, 6, 1, 2, 1, 0, 0, 1, 1, 6, 3, 1, 160, 2, 1, 158, 0, 1]), (20, [0, 20], [60, 3, 4, 34, 8, 158, 10, 160, 162, 163, 1])], [], [(17, 16, 0, 0)])
theorem oo_Mo_word_at_s5029_4 {kA : Nat → ClassId} : or_ok PRD kA GG o_Mo_word_at_s5029_4 := by
  refine or_mk fun A ta ws vs hD hth hl => ?_
  intro t0 r0 t2 k2 t3 r3 t4 k4 t5 k5 t6 k6 t7 r7 t8 k8 t9 r9 t10 k10 t11 k11 t12 k12 t14 k14 t15 k15 t16 k16 t17 k17 t18 k18 t19 k19 t20 k20 d0 f0 f1 f2 f3 f4 f5 f6 f7 f8 f9 f10 f11 f12 f13 f14 f15 f16 f17 f18 f19 f20
  replace f7 := shm_107 f7
  replace f8 := shm_286 f8
  replace f9 := shm_301 f9
  replace f13 := shm_107 f13
  replace f14 := shm_107 f14
  replace f15 := shm_1332 f15
  replace f17 := shm_107 f17
  replace f18 := shm_327 f18
  replace f20 := shm_293 f20
  have cr_0_1 := fdq_39 hD hth r0
  have cr_0_160 := fdq_33 hD hth r0
  have cr_0_162 := fdq_41 hD hth r0
  have cr_0_163 := fdq_42 hD hth r0
  have ad_9 : v_ad (n_v vs 9) = w_ar ws (n_v vs 0) 162 := congrArg v_ad f9
  have ad_7 : v_ad (n_v vs 7) = w_ar ws (n_v vs 0) 163 := congrArg v_ad f15
  have ad_3 : v_ad (n_v vs 3) = w_ar ws (n_v vs 0) 160 := congrArg v_ad f18
  simp only [ad_9] at f7
  have h7 : v_iv (n_v vs 16) = w_ei ws (w_ar ws (n_v vs 0) 162) (v_iv (n_v vs 4)) := f7
  have g8 : v_iv (n_v vs 4) = w_fi ws (n_v vs 0) 158 := congrArg v_iv f8
  simp only [ad_9] at f13
  have h13 : v_iv (n_v vs 10) = w_ei ws (w_ar ws (n_v vs 0) 162) (v_iv (n_v vs 4)) := f13
  simp only [ad_7] at f14
  have h14 : v_iv (n_v vs 8) = w_ei ws (w_ar ws (n_v vs 0) 163) (v_iv (n_v vs 4)) := f14
  simp only [ad_3] at f17
  have h17 : v_iv (n_v vs 5) = w_ei ws (w_ar ws (n_v vs 0) 160) (v_iv (n_v vs 4)) := f17
  have g20 : v_iv (n_v vs 2) = w_fi ws (n_v vs 0) 8 := congrArg v_iv f20
  have hK_0_1 := elq_7 hD hth cr_0_1
  have hK_0_160 := elq_6 hD hth cr_0_160
  have hK_0_162 := elq_8 hD hth cr_0_162
  have hK_0_163 := elq_9 hD hth cr_0_163
  have kz_0_8 := fdq_34 hD hth r0
  have kz_0_10 := fdq_43 hD hth r0
  have kz_0_158 := fdq_36 hD hth r0
  have nf0 : fc_1 PRD (20, [20, 0], [50, 1, 1, 1158, 1160, 4, 6, 1, 2, 1, 0, 0, 1, 1, 6, 3, 1, 160, 2, 1, 158, 0, 1]) ws (vs) := ⟨nf_in hl rfl, sgq_287 (vc_Mo_word_at_s5029_4_0 (v_iv (n_v vs 2)) (v_iv (n_v vs 4)) (v_iv (n_v vs 5)) (v_iv (n_v vs 6)) (v_iv (n_v vs 8)) (v_iv (n_v vs 10)) (v_iv (n_v vs 11)) (v_iv (n_v vs 12)) (v_iv (n_v vs 14)) (v_iv (n_v vs 15)) (v_iv (n_v vs 16)) (v_iv (n_v vs 17)) (v_iv (n_v vs 18)) (v_iv (n_v vs 19)) (v_iv (n_v vs 20)) (w_ei ws (w_ar ws (n_v vs 0) 1)) (w_fi ws (n_v vs 0) 10) (w_ei ws (w_ar ws (n_v vs 0) 162)) (w_fi ws (n_v vs 0) 158) (w_ei ws (w_ar ws (n_v vs 0) 163)) (w_ei ws (w_ar ws (n_v vs 0) 160)) (w_fi ws (n_v vs 0) 8) k2 k4 k5 k6 k8 k10 k11 k12 k14 k15 k16 k17 k18 k19 k20 d0 (shm_192 f0) (shm_40 f1) (shm_87 f2) (shm_88 f3) (shm_541 f4) (shm_542 f5) (shm_12 f6) h7 g8 (shm_6 f10) (shm_37 f11) (shm_14 f12) h13 h14 (shm_37 f16) h17 (shm_192 f19) g20 hK_0_1 hK_0_160 hK_0_162 hK_0_163 kz_0_8 kz_0_10 kz_0_158)⟩
  have nf1 : fc_1 PRD (20, [0, 20], [60, 3, 4, 34, 8, 158, 10, 160, 162, 163, 1]) ws (vs) := ⟨nf_in hl rfl, sgq_1873 (vc_Mo_word_at_s5029_4_1 (v_iv (n_v vs 4)) (v_iv (n_v vs 8)) (v_iv (n_v vs 10)) (v_iv (n_v vs 11)) (v_iv (n_v vs 16)) (v_iv (n_v vs 17)) (v_iv (n_v vs 18)) (v_iv (n_v vs 19)) (v_iv (n_v vs 20)) (w_ei ws (w_ar ws (n_v vs 0) 1)) (w_fi ws (n_v vs 0) 10) (w_ei ws (w_ar ws (n_v vs 0) 162)) (w_fi ws (n_v vs 0) 158) (w_ei ws (w_ar ws (n_v vs 0) 163)) (w_ei ws (w_ar ws (n_v vs 0) 160)) (w_fi ws (n_v vs 0) 8) k4 k8 k10 k11 k16 k17 k18 k19 k20 d0 (shm_40 f1) (shm_87 f2) (shm_88 f3) (shm_541 f4) (shm_542 f5) h7 g8 (shm_14 f12) h13 h14 kz_0_8 kz_0_10 kz_0_158)⟩
  refine ⟨(fun _ h => (by cases h)), [], trivial, ?_, (fun _ h => (by cases h))⟩
  rw [List.append_nil]
  exact List.forall_mem_cons.mpr ⟨⟨show (20 : Nat) < 100 from by decide, nf0⟩, List.forall_mem_cons.mpr ⟨⟨show (20 : Nat) < 100 from by decide, nf1⟩, (fun _ h => (by cases h))⟩⟩
set_option maxHeartbeats 4000000 in
theorem vc_Mo_word_at_s5029_5_0 (x2 : Int) (x4 : Int) (x5 : Int) (x6 : Int) (x8 : Int) (x10 : Int) (x11 : Int) (x12 : Int) (x14 : Int) (x15 : Int) (x16 : Int) (x17 : Int) (x18 : Int) (x19 : Int) (x21 : Int) (x22 : Int) (x23 : Int) (x24 : Int) (x25 : Int) (x26 : Int) (x27 : Int) (tape_0 : Int → Int) (limit_0 : Int) (tokenPlace_0 : Int → Int) (cur_0 : Int) (tokenEnd_0 : Int → Int) (tokenKind_0 : Int → Int) (fault_0 : Int) (k2 : 0 ≤ x2 ∧ x2 ≤ 0) (k4 : 0 ≤ x4 ∧ x4 ≤ 2009) (k5 : 1 ≤ x5 ∧ x5 ≤ 1) (k6 : 1 ≤ x6 ∧ x6 ≤ 1) (k8 : 4 ≤ x8 ∧ x8 ≤ 2000) (k10 : 0 ≤ x10 ∧ x10 ≤ 2000) (k11 : 4 ≤ x11 ∧ x11 ≤ 4) (k12 : 4 ≤ x12 ∧ x12 ≤ 4) (k14 : 0 ≤ x14 ∧ x14 ≤ 0) (k15 : 4 ≤ x15 ∧ x15 ≤ 4) (k16 : 0 ≤ x16 ∧ x16 ≤ 1999) (k17 : 0 ≤ x17 ∧ x17 ≤ 1999) (k18 : 0 ≤ x18 ∧ x18 ≤ 255) (k19 : 0 ≤ x19 ∧ x19 ≤ 255) (k21 : 1 ≤ x21 ∧ x21 ≤ 1) (k22 : 4 ≤ x22 ∧ x22 ≤ 4) (k23 : 0 ≤ x23 ∧ x23 ≤ 2000) (k24 : 1 ≤ x24 ∧ x24 ≤ 2001) (k25 : (-1) ≤ x25 ∧ x25 ≤ (-1)) (k26 : 0 ≤ x26 ∧ x26 ≤ 65535) (k27 : 0 ≤ x27 ∧ x27 ≤ 0) (d0 : x23 + 1 ≤ x24 ∧ x24 ≤ x23 + 1) (d1 : x19 + 0 ≤ x18 ∧ x18 ≤ x19 + 0) (d2 : x16 + 0 ≤ x17 ∧ x17 ≤ x16 + 0) (f0 : x27 = 0) (f1 : x25 ≠ x26) (f2 : 1 * x26 + 0 ≤ 111) (f3 : (-1) * x26 + 0 ≤ (-111)) (f4 : ((x24 + 1) ≤ limit_0) → (x25 = (tape_0 (x24) % 256))) (f5 : (limit_0 ≤ x24) → (x25 = (-1))) (f6 : x24 = x23 + x21) (h7 : x23 = tokenPlace_0 (x4)) (g8 : x4 = cur_0) (f10 : x21 < x22) (f11 : x21 = x14 + 1) (f12 : x18 = x19) (f13 : 1 * x19 + 0 ≤ 99) (f14 : (-1) * x19 + 0 ≤ (-99)) (f15 : ((x17 + 1) ≤ limit_0) → (x18 = (tape_0 (x17) % 256))) (f16 : (limit_0 ≤ x17) → (x18 = (-1))) (f17 : x17 = x16 + x14) (h18 : x16 = tokenPlace_0 (x4)) (f19 : x14 < x15) (f20 : x11 = x12) (f21 : x11 = x8 - x10) (h22 : x10 = tokenPlace_0 (x4)) (h23 : x8 = tokenEnd_0 (x4)) (f25 : x5 = x6) (h26 : x5 = tokenKind_0 (x4)) (f28 : x2 = 0) (g29 : x2 = fault_0) (hK_0_1 : ∀ j : Int, 0 ≤ j → j < 2000 → (-128) ≤ tape_0 j ∧ tape_0 j ≤ 127) (hK_0_160 : ∀ j : Int, 0 ≤ j → j < 2010 → 0 ≤ tokenKind_0 j ∧ tokenKind_0 j ≤ 4) (hK_0_162 : ∀ j : Int, 0 ≤ j → j < 2010 → 0 ≤ tokenPlace_0 j ∧ tokenPlace_0 j ≤ 2000) (hK_0_163 : ∀ j : Int, 0 ≤ j → j < 2010 → 0 ≤ tokenEnd_0 j ∧ tokenEnd_0 j ≤ 2000) (kz_0_8 : 0 ≤ fault_0 ∧ fault_0 ≤ 5) (kz_0_10 : 0 ≤ limit_0 ∧ limit_0 ≤ 2000) (kz_0_158 : 0 ≤ cur_0 ∧ cur_0 ≤ 2009) : (x27 = 1) → (tokenKind_0 (cur_0) = 1) := by
  first | assumption | (clear f4 f5 f15 f16 hK_0_1 hK_0_160 hK_0_162 hK_0_163; omega) | (clear hK_0_1 hK_0_160 hK_0_162 hK_0_163; grind) | omega | grind
set_option maxHeartbeats 4000000 in
theorem vc_Mo_word_at_s5029_5_1 (x4 : Int) (x8 : Int) (x10 : Int) (x11 : Int) (x16 : Int) (x17 : Int) (x18 : Int) (x19 : Int) (x23 : Int) (x24 : Int) (x25 : Int) (x27 : Int) (tape_0 : Int → Int) (limit_0 : Int) (tokenPlace_0 : Int → Int) (cur_0 : Int) (tokenEnd_0 : Int → Int) (tokenKind_0 : Int → Int) (fault_0 : Int) (k4 : 0 ≤ x4 ∧ x4 ≤ 2009) (k8 : 4 ≤ x8 ∧ x8 ≤ 2000) (k10 : 0 ≤ x10 ∧ x10 ≤ 2000) (k11 : 4 ≤ x11 ∧ x11 ≤ 4) (k16 : 0 ≤ x16 ∧ x16 ≤ 1999) (k17 : 0 ≤ x17 ∧ x17 ≤ 1999) (k18 : 0 ≤ x18 ∧ x18 ≤ 255) (k19 : 0 ≤ x19 ∧ x19 ≤ 255) (k23 : 0 ≤ x23 ∧ x23 ≤ 2000) (k24 : 1 ≤ x24 ∧ x24 ≤ 2001) (k25 : (-1) ≤ x25 ∧ x25 ≤ (-1)) (k27 : 0 ≤ x27 ∧ x27 ≤ 0) (d0 : x23 + 1 ≤ x24 ∧ x24 ≤ x23 + 1) (d1 : x19 + 0 ≤ x18 ∧ x18 ≤ x19 + 0) (d2 : x16 + 0 ≤ x17 ∧ x17 ≤ x16 + 0) (f4 : ((x24 + 1) ≤ limit_0) → (x25 = (tape_0 (x24) % 256))) (f5 : (limit_0 ≤ x24) → (x25 = (-1))) (h7 : x23 = tokenPlace_0 (x4)) (g8 : x4 = cur_0) (f13 : 1 * x19 + 0 ≤ 99) (f14 : (-1) * x19 + 0 ≤ (-99)) (f15 : ((x17 + 1) ≤ limit_0) → (x18 = (tape_0 (x17) % 256))) (f16 : (limit_0 ≤ x17) → (x18 = (-1))) (h18 : x16 = tokenPlace_0 (x4)) (f21 : x11 = x8 - x10) (h22 : x10 = tokenPlace_0 (x4)) (h23 : x8 = tokenEnd_0 (x4)) (kz_0_8 : 0 ≤ fault_0 ∧ fault_0 ≤ 5) (kz_0_10 : 0 ≤ limit_0 ∧ limit_0 ≤ 2000) (kz_0_158 : 0 ≤ cur_0 ∧ cur_0 ≤ 2009) : Wqcore (fault_0) (cur_0) (limit_0) (tokenKind_0) (tokenPlace_0) (tokenEnd_0) (tape_0) (x27) := by
  first
    | exact ⟨fun z => by omega, fun z => by have := z.1; omega⟩
    | (have e := (‹x4 = cur_0›)
       rw [← e]
       refine ⟨fun z => ⟨by omega, wdS4.2 ⟨by omega, by omega, by omega, by rw [show tokenPlace_0 x4 + 0 = x17 by omega]; omega, by rw [show tokenPlace_0 x4 + 1 = x24 by omega]; omega, by rw [show tokenPlace_0 x4 + 2 = x31 by omega]; omega, by rw [show tokenPlace_0 x4 + 3 = x38 by omega]; omega⟩⟩, fun z => by omega⟩)
    | (have e := (‹x4 = cur_0›)
       rw [← e]
       refine ⟨fun z => by omega, fun z => ?_⟩
       have w := wdS4.1 z.2
       try (have q0 : tokenPlace_0 x4 + 0 = x17 := (by omega); rw [q0] at w)
       try (have q1 : tokenPlace_0 x4 + 1 = x24 := (by omega); rw [q1] at w)
       try (have q2 : tokenPlace_0 x4 + 2 = x31 := (by omega); rw [q2] at w)
       try (have q3 : tokenPlace_0 x4 + 3 = x38 := (by omega); rw [q3] at w)
       omega)
  
def o_Mo_word_at_s5029_5 : or_T := (102, 30, [(0, (2, 0, 0, [165])), (2, (0, 0, 0, [])), (3, (2, 0, 0, [274])), (4, (0, 0, 2009, [])), (5, (0, 1, 1, [])), (6, (0, 1, 1, [])), (7, (2, 0, 0, [277])), (8, (0, 4, 2000, [])), (9, (2, 0, 0, [276])), (10, (0, 0, 2000, [])), (11, (0, 4, 4, [])), (12, (0, 4, 4, [])), (14, (0, 0, 0, [])), (15, (0, 4, 4, [])), (16, (0, 0, 1999, [])), (17, (0, 0, 1999, [])), (18, (0, 0, 255, [])), (19, (0, 0, 255, [])), (21, (0, 1, 1, [])), (22, (0, 4, 4, [])), (23, (0, 0, 2000, [])), (24, (0, 1, 2001, [])), (25, (0, -1, -1, [])), (26, (0, 0, 65535, [])), (27, (0, 0, 0, []))], [(8, [27], [0]), (7, [25, 26], [1]), (23, [26], [111, 1]), (23, [26], [-111, -1]), (20, [24, 0, 25], [50, 1, 1, 1010, 1001, 4, 11, 0, 6, 4, 2, 1, 0, 0, 1, 2, 1, 10, 1, 2, 1, 2, 9, 5, 3, 1, 1, 1, 0, 0, 256]), (20, [0, 24, 25], [50, 1, 0, 10, 4, 7, 0, 3, 2, 0, 10, 1, 1, 1, 2, 1, 2, 0, -1]), (1, [24, 23, 21], []), (10, [23, 9, 4], []), (9, [4, 0], [158]), (9, [9, 0], [162]), (7, [21, 22], [2]), (6, [21, 14], [1]), (7, [18, 19], [0]), (23, [19], [99, 1]), (23, [19], [-99, -1]), (20, [17, 0, 18], [50, 1, 1, 1010, 1001, 4, 11, 0, 6, 4, 2, 1, 0, 0, 1, 2, 1, 10, 1, 2, 1, 2, 9, 5, 3, 1, 1, 1, 0, 0, 256]), (20, [0, 17, 18], [50, 1, 0, 10, 4, 7, 0, 3, 2, 0, 10, 1, 1, 1, 2, 1, 2, 0, -1]), (1, [17, 16, 14], []), (10, [16, 9, 4], []), (7, [14, 15], [2]), (7, [11, 12], [0]), (2, [11, 8, 10], []), (10, [10, 9, 4], []), (10, [8, 7, 4], []), (9, [7, 0], [163]), (7, [5, 6], [0]), (10, [5, 3, 4], []), (9, [3, 0], [160]), (8, [2], [0]), (9, [2, 0], [8])], [], [], [(20, [27, 0], [50, 1, 1, 1158, 1160, 4, 6, 1, 2, 1, 0, 0, 1, 1, 6, 3, 1, 160, 2, 1, 158, 0, 1]), (20, [0, 27], [60, 3, 4, 34, 8, 158, 10, 160, 162, 163, 1])], [], [(24, 23, 1, 1), (18, 19, 0, 0), (17, 16, 0, 0)])
theorem oo_Mo_word_at_s5029_5 {kA : Nat → ClassId} : or_ok PRD kA GG o_Mo_word_at_s5029_5 := by
  refine or_mk fun A ta ws vs hD hth hl => ?_
  intro t0 r0 t2 k2 t3 r3 t4 k4 t5 k5 t6 k6 t7 r7 t8 k8 t9 r9 t10 k10 t11 k11 t12 k12 t14 k14 t15 k15 t16 k16 t17 k17 t18 k18 t19 k19 t21 k21 t22 k22 t23 k23 t24 k24 t25 k25 t26 k26 t27 k27 d0 d1 d2 f0 f1 f2 f3 f4 f5 f6 f7 f8 f9 f10 f11 f12 f13 f14 f15 f16 f17 f18 f19 f20 f21 f22 f23 f24 f25 f26 f27 f28 f29
  replace f7 := shm_107 f7
  replace f8 := shm_286 f8
  replace f9 := shm_301 f9
  replace f18 := shm_107 f18
  replace f22 := shm_107 f22
  replace f23 := shm_107 f23
  replace f24 := shm_1332 f24
  replace f26 := shm_107 f26
  replace f27 := shm_327 f27
  replace f29 := shm_293 f29
  have cr_0_1 := fdq_39 hD hth r0
  have cr_0_160 := fdq_33 hD hth r0
  have cr_0_162 := fdq_41 hD hth r0
  have cr_0_163 := fdq_42 hD hth r0
  have ad_9 : v_ad (n_v vs 9) = w_ar ws (n_v vs 0) 162 := congrArg v_ad f9
  have ad_7 : v_ad (n_v vs 7) = w_ar ws (n_v vs 0) 163 := congrArg v_ad f24
  have ad_3 : v_ad (n_v vs 3) = w_ar ws (n_v vs 0) 160 := congrArg v_ad f27
  simp only [ad_9] at f7
  have h7 : v_iv (n_v vs 23) = w_ei ws (w_ar ws (n_v vs 0) 162) (v_iv (n_v vs 4)) := f7
  have g8 : v_iv (n_v vs 4) = w_fi ws (n_v vs 0) 158 := congrArg v_iv f8
  simp only [ad_9] at f18
  have h18 : v_iv (n_v vs 16) = w_ei ws (w_ar ws (n_v vs 0) 162) (v_iv (n_v vs 4)) := f18
  simp only [ad_9] at f22
  have h22 : v_iv (n_v vs 10) = w_ei ws (w_ar ws (n_v vs 0) 162) (v_iv (n_v vs 4)) := f22
  simp only [ad_7] at f23
  have h23 : v_iv (n_v vs 8) = w_ei ws (w_ar ws (n_v vs 0) 163) (v_iv (n_v vs 4)) := f23
  simp only [ad_3] at f26
  have h26 : v_iv (n_v vs 5) = w_ei ws (w_ar ws (n_v vs 0) 160) (v_iv (n_v vs 4)) := f26
  have g29 : v_iv (n_v vs 2) = w_fi ws (n_v vs 0) 8 := congrArg v_iv f29
  have hK_0_1 := elq_7 hD hth cr_0_1
  have hK_0_160 := elq_6 hD hth cr_0_160
  have hK_0_162 := elq_8 hD hth cr_0_162
  have hK_0_163 := elq_9 hD hth cr_0_163
  have kz_0_8 := fdq_34 hD hth r0
  have kz_0_10 := fdq_43 hD hth r0
  have kz_0_158 := fdq_36 hD hth r0
  have nf0 : fc_1 PRD (20, [27, 0], [50, 1, 1, 1158, 1160, 4, 6, 1, 2, 1, 0, 0, 1, 1, 6, 3, 1, 160, 2, 1, 158, 0, 1]) ws (vs) := ⟨nf_in hl rfl, sgq_287 (vc_Mo_word_at_s5029_5_0 (v_iv (n_v vs 2)) (v_iv (n_v vs 4)) (v_iv (n_v vs 5)) (v_iv (n_v vs 6)) (v_iv (n_v vs 8)) (v_iv (n_v vs 10)) (v_iv (n_v vs 11)) (v_iv (n_v vs 12)) (v_iv (n_v vs 14)) (v_iv (n_v vs 15)) (v_iv (n_v vs 16)) (v_iv (n_v vs 17)) (v_iv (n_v vs 18)) (v_iv (n_v vs 19)) (v_iv (n_v vs 21)) (v_iv (n_v vs 22)) (v_iv (n_v vs 23)) (v_iv (n_v vs 24)) (v_iv (n_v vs 25)) (v_iv (n_v vs 26)) (v_iv (n_v vs 27)) (w_ei ws (w_ar ws (n_v vs 0) 1)) (w_fi ws (n_v vs 0) 10) (w_ei ws (w_ar ws (n_v vs 0) 162)) (w_fi ws (n_v vs 0) 158) (w_ei ws (w_ar ws (n_v vs 0) 163)) (w_ei ws (w_ar ws (n_v vs 0) 160)) (w_fi ws (n_v vs 0) 8) k2 k4 k5 k6 k8 k10 k11 k12 k14 k15 k16 k17 k18 k19 k21 k22 k23 k24 k25 k26 k27 d0 d1 d2 (shm_192 f0) (shm_40 f1) (shm_55 f2) (shm_56 f3) (shm_541 f4) (shm_542 f5) (shm_12 f6) h7 g8 (shm_6 f10) (shm_4 f11) (shm_37 f12) (shm_87 f13) (shm_88 f14) (shm_541 f15) (shm_542 f16) (shm_12 f17) h18 (shm_6 f19) (shm_37 f20) (shm_14 f21) h22 h23 (shm_37 f25) h26 (shm_192 f28) g29 hK_0_1 hK_0_160 hK_0_162 hK_0_163 kz_0_8 kz_0_10 kz_0_158)⟩
  have nf1 : fc_1 PRD (20, [0, 27], [60, 3, 4, 34, 8, 158, 10, 160, 162, 163, 1]) ws (vs) := ⟨nf_in hl rfl, sgq_1873 (vc_Mo_word_at_s5029_5_1 (v_iv (n_v vs 4)) (v_iv (n_v vs 8)) (v_iv (n_v vs 10)) (v_iv (n_v vs 11)) (v_iv (n_v vs 16)) (v_iv (n_v vs 17)) (v_iv (n_v vs 18)) (v_iv (n_v vs 19)) (v_iv (n_v vs 23)) (v_iv (n_v vs 24)) (v_iv (n_v vs 25)) (v_iv (n_v vs 27)) (w_ei ws (w_ar ws (n_v vs 0) 1)) (w_fi ws (n_v vs 0) 10) (w_ei ws (w_ar ws (n_v vs 0) 162)) (w_fi ws (n_v vs 0) 158) (w_ei ws (w_ar ws (n_v vs 0) 163)) (w_ei ws (w_ar ws (n_v vs 0) 160)) (w_fi ws (n_v vs 0) 8) k4 k8 k10 k11 k16 k17 k18 k19 k23 k24 k25 k27 d0 d1 d2 (shm_541 f4) (shm_542 f5) h7 g8 (shm_87 f13) (shm_88 f14) (shm_541 f15) (shm_542 f16) h18 (shm_14 f21) h22 h23 kz_0_8 kz_0_10 kz_0_158)⟩
  refine ⟨(fun _ h => (by cases h)), [], trivial, ?_, (fun _ h => (by cases h))⟩
  rw [List.append_nil]
  exact List.forall_mem_cons.mpr ⟨⟨show (20 : Nat) < 100 from by decide, nf0⟩, List.forall_mem_cons.mpr ⟨⟨show (20 : Nat) < 100 from by decide, nf1⟩, (fun _ h => (by cases h))⟩⟩
set_option maxHeartbeats 4000000 in
theorem vc_Mo_word_at_s5029_6_0 (x2 : Int) (x4 : Int) (x5 : Int) (x6 : Int) (x8 : Int) (x10 : Int) (x11 : Int) (x12 : Int) (x14 : Int) (x15 : Int) (x16 : Int) (x17 : Int) (x18 : Int) (x19 : Int) (x21 : Int) (x22 : Int) (x23 : Int) (x24 : Int) (x25 : Int) (x26 : Int) (x27 : Int) (tape_0 : Int → Int) (limit_0 : Int) (tokenPlace_0 : Int → Int) (cur_0 : Int) (tokenEnd_0 : Int → Int) (tokenKind_0 : Int → Int) (fault_0 : Int) (k2 : 0 ≤ x2 ∧ x2 ≤ 0) (k4 : 0 ≤ x4 ∧ x4 ≤ 2009) (k5 : 1 ≤ x5 ∧ x5 ≤ 1) (k6 : 1 ≤ x6 ∧ x6 ≤ 1) (k8 : 4 ≤ x8 ∧ x8 ≤ 2000) (k10 : 0 ≤ x10 ∧ x10 ≤ 2000) (k11 : 4 ≤ x11 ∧ x11 ≤ 4) (k12 : 4 ≤ x12 ∧ x12 ≤ 4) (k14 : 0 ≤ x14 ∧ x14 ≤ 0) (k15 : 4 ≤ x15 ∧ x15 ≤ 4) (k16 : 0 ≤ x16 ∧ x16 ≤ 1999) (k17 : 0 ≤ x17 ∧ x17 ≤ 1999) (k18 : 0 ≤ x18 ∧ x18 ≤ 255) (k19 : 0 ≤ x19 ∧ x19 ≤ 255) (k21 : 1 ≤ x21 ∧ x21 ≤ 1) (k22 : 4 ≤ x22 ∧ x22 ≤ 4) (k23 : 0 ≤ x23 ∧ x23 ≤ 1998) (k24 : 1 ≤ x24 ∧ x24 ≤ 1999) (k25 : 0 ≤ x25 ∧ x25 ≤ 255) (k26 : 0 ≤ x26 ∧ x26 ≤ 65535) (k27 : 0 ≤ x27 ∧ x27 ≤ 0) (d0 : x23 + 1 ≤ x24 ∧ x24 ≤ x23 + 1) (d1 : x19 + 0 ≤ x18 ∧ x18 ≤ x19 + 0) (d2 : x16 + 0 ≤ x17 ∧ x17 ≤ x16 + 0) (f0 : x27 = 0) (f1 : x25 ≠ x26) (f2 : 1 * x26 + 0 ≤ 111) (f3 : (-1) * x26 + 0 ≤ (-111)) (f4 : ((x24 + 1) ≤ limit_0) → (x25 = (tape_0 (x24) % 256))) (f5 : (limit_0 ≤ x24) → (x25 = (-1))) (f6 : x24 = x23 + x21) (h7 : x23 = tokenPlace_0 (x4)) (g8 : x4 = cur_0) (f10 : x21 < x22) (f11 : x21 = x14 + 1) (f12 : x18 = x19) (f13 : 1 * x19 + 0 ≤ 99) (f14 : (-1) * x19 + 0 ≤ (-99)) (f15 : ((x17 + 1) ≤ limit_0) → (x18 = (tape_0 (x17) % 256))) (f16 : (limit_0 ≤ x17) → (x18 = (-1))) (f17 : x17 = x16 + x14) (h18 : x16 = tokenPlace_0 (x4)) (f19 : x14 < x15) (f20 : x11 = x12) (f21 : x11 = x8 - x10) (h22 : x10 = tokenPlace_0 (x4)) (h23 : x8 = tokenEnd_0 (x4)) (f25 : x5 = x6) (h26 : x5 = tokenKind_0 (x4)) (f28 : x2 = 0) (g29 : x2 = fault_0) (hK_0_1 : ∀ j : Int, 0 ≤ j → j < 2000 → (-128) ≤ tape_0 j ∧ tape_0 j ≤ 127) (hK_0_160 : ∀ j : Int, 0 ≤ j → j < 2010 → 0 ≤ tokenKind_0 j ∧ tokenKind_0 j ≤ 4) (hK_0_162 : ∀ j : Int, 0 ≤ j → j < 2010 → 0 ≤ tokenPlace_0 j ∧ tokenPlace_0 j ≤ 2000) (hK_0_163 : ∀ j : Int, 0 ≤ j → j < 2010 → 0 ≤ tokenEnd_0 j ∧ tokenEnd_0 j ≤ 2000) (kz_0_8 : 0 ≤ fault_0 ∧ fault_0 ≤ 5) (kz_0_10 : 0 ≤ limit_0 ∧ limit_0 ≤ 2000) (kz_0_158 : 0 ≤ cur_0 ∧ cur_0 ≤ 2009) : (x27 = 1) → (tokenKind_0 (cur_0) = 1) := by
  first | assumption | (clear f4 f5 f15 f16 hK_0_1 hK_0_160 hK_0_162 hK_0_163; omega) | (clear hK_0_1 hK_0_160 hK_0_162 hK_0_163; grind) | omega | grind
set_option maxHeartbeats 4000000 in
theorem vc_Mo_word_at_s5029_6_1 (x4 : Int) (x8 : Int) (x10 : Int) (x11 : Int) (x16 : Int) (x17 : Int) (x18 : Int) (x19 : Int) (x23 : Int) (x24 : Int) (x25 : Int) (x26 : Int) (x27 : Int) (tape_0 : Int → Int) (limit_0 : Int) (tokenPlace_0 : Int → Int) (cur_0 : Int) (tokenEnd_0 : Int → Int) (tokenKind_0 : Int → Int) (fault_0 : Int) (k4 : 0 ≤ x4 ∧ x4 ≤ 2009) (k8 : 4 ≤ x8 ∧ x8 ≤ 2000) (k10 : 0 ≤ x10 ∧ x10 ≤ 2000) (k11 : 4 ≤ x11 ∧ x11 ≤ 4) (k16 : 0 ≤ x16 ∧ x16 ≤ 1999) (k17 : 0 ≤ x17 ∧ x17 ≤ 1999) (k18 : 0 ≤ x18 ∧ x18 ≤ 255) (k19 : 0 ≤ x19 ∧ x19 ≤ 255) (k23 : 0 ≤ x23 ∧ x23 ≤ 1998) (k24 : 1 ≤ x24 ∧ x24 ≤ 1999) (k25 : 0 ≤ x25 ∧ x25 ≤ 255) (k26 : 0 ≤ x26 ∧ x26 ≤ 65535) (k27 : 0 ≤ x27 ∧ x27 ≤ 0) (d0 : x23 + 1 ≤ x24 ∧ x24 ≤ x23 + 1) (d1 : x19 + 0 ≤ x18 ∧ x18 ≤ x19 + 0) (d2 : x16 + 0 ≤ x17 ∧ x17 ≤ x16 + 0) (f1 : x25 ≠ x26) (f2 : 1 * x26 + 0 ≤ 111) (f3 : (-1) * x26 + 0 ≤ (-111)) (f4 : ((x24 + 1) ≤ limit_0) → (x25 = (tape_0 (x24) % 256))) (f5 : (limit_0 ≤ x24) → (x25 = (-1))) (h7 : x23 = tokenPlace_0 (x4)) (g8 : x4 = cur_0) (f13 : 1 * x19 + 0 ≤ 99) (f14 : (-1) * x19 + 0 ≤ (-99)) (f15 : ((x17 + 1) ≤ limit_0) → (x18 = (tape_0 (x17) % 256))) (f16 : (limit_0 ≤ x17) → (x18 = (-1))) (h18 : x16 = tokenPlace_0 (x4)) (f21 : x11 = x8 - x10) (h22 : x10 = tokenPlace_0 (x4)) (h23 : x8 = tokenEnd_0 (x4)) (kz_0_8 : 0 ≤ fault_0 ∧ fault_0 ≤ 5) (kz_0_10 : 0 ≤ limit_0 ∧ limit_0 ≤ 2000) (kz_0_158 : 0 ≤ cur_0 ∧ cur_0 ≤ 2009) : Wqcore (fault_0) (cur_0) (limit_0) (tokenKind_0) (tokenPlace_0) (tokenEnd_0) (tape_0) (x27) := by
  first
    | exact ⟨fun z => by omega, fun z => by have := z.1; omega⟩
    | (have e := (‹x4 = cur_0›)
       rw [← e]
       refine ⟨fun z => ⟨by omega, wdS4.2 ⟨by omega, by omega, by omega, by rw [show tokenPlace_0 x4 + 0 = x17 by omega]; omega, by rw [show tokenPlace_0 x4 + 1 = x24 by omega]; omega, by rw [show tokenPlace_0 x4 + 2 = x31 by omega]; omega, by rw [show tokenPlace_0 x4 + 3 = x38 by omega]; omega⟩⟩, fun z => by omega⟩)
    | (have e := (‹x4 = cur_0›)
       rw [← e]
       refine ⟨fun z => by omega, fun z => ?_⟩
       have w := wdS4.1 z.2
       try (have q0 : tokenPlace_0 x4 + 0 = x17 := (by omega); rw [q0] at w)
       try (have q1 : tokenPlace_0 x4 + 1 = x24 := (by omega); rw [q1] at w)
       try (have q2 : tokenPlace_0 x4 + 2 = x31 := (by omega); rw [q2] at w)
       try (have q3 : tokenPlace_0 x4 + 3 = x38 := (by omega); rw [q3] at w)
       omega)
  
def o_Mo_word_at_s5029_6 : or_T := (102, 30, [(0, (2, 0, 0, [165])), (2, (0, 0, 0, [])), (3, (2, 0, 0, [274])), (4, (0, 0, 2009, [])), (5, (0, 1, 1, [])), (6, (0, 1, 1, [])), (7, (2, 0, 0, [277])), (8, (0, 4, 2000, [])), (9, (2, 0, 0, [276])), (10, (0, 0, 2000, [])), (11, (0, 4, 4, [])), (12, (0, 4, 4, [])), (14, (0, 0, 0, [])), (15, (0, 4, 4, [])), (16, (0, 0, 1999, [])), (17, (0, 0, 1999, [])), (18, (0, 0, 255, [])), (19, (0, 0, 255, [])), (21, (0, 1, 1, [])), (22, (0, 4, 4, [])), (23, (0, 0, 1998, [])), (24, (0, 1, 1999, [])), (25, (0, 0, 255, [])), (26, (0, 0, 65535, [])), (27, (0, 0, 0, []))], [(8, [27], [0]), (7, [25, 26], [1]), (23, [26], [111, 1]), (23, [26], [-111, -1]), (20, [24, 0, 25], [50, 1, 1, 1010, 1001, 4, 11, 0, 6, 4, 2, 1, 0, 0, 1, 2, 1, 10, 1, 2, 1, 2, 9, 5, 3, 1, 1, 1, 0, 0, 256]), (20, [0, 24, 25], [50, 1, 0, 10, 4, 7, 0, 3, 2, 0, 10, 1, 1, 1, 2, 1, 2, 0, -1]), (1, [24, 23, 21], []), (10, [23, 9, 4], []), (9, [4, 0], [158]), (9, [9, 0], [162]), (7, [21, 22], [2]), (6, [21, 14], [1]), (7, [18, 19], [0]), (23, [19], [99, 1]), (23, [19], [-99, -1]), (20, [17, 0, 18], [50, 1, 1, 1010, 1001, 4, 11, 0, 6, 4, 2, 1, 0, 0, 1, 2, 1, 10, 1, 2, 1, 2, 9, 5, 3, 1, 1, 1, 0, 0, 256]), (20, [0, 17, 18], [50, 1, 0, 10, 4, 7, 0, 3, 2, 0, 10, 1, 1, 1, 2, 1, 2, 0, -1]), (1, [17, 16, 14], []), (10, [16, 9, 4], []), (7, [14, 15], [2]), (7, [11, 12], [0]), (2, [11, 8, 10], []), (10, [10, 9, 4], []), (10, [8, 7, 4], []), (9, [7, 0], [163]), (7, [5, 6], [0]), (10, [5, 3, 4], []), (9, [3, 0], [160]), (8, [2], [0]), (9, [2, 0], [8])], [], [], [(20, [27, 0], [50, 1, 1, 1158, 1160, 4, 6, 1, 2, 1, 0, 0, 1, 1, 6, 3, 1, 160, 2, 1, 158, 0, 1]), (20, [0, 27], [60, 3, 4, 34, 8, 158, 10, 160, 162, 163, 1])], [], [(24, 23, 1, 1), (18, 19, 0, 0), (17, 16, 0, 0)])
theorem oo_Mo_word_at_s5029_6 {kA : Nat → ClassId} : or_ok PRD kA GG o_Mo_word_at_s5029_6 := by
  refine or_mk fun A ta ws vs hD hth hl => ?_
  intro t0 r0 t2 k2 t3 r3 t4 k4 t5 k5 t6 k6 t7 r7 t8 k8 t9 r9 t10 k10 t11 k11 t12 k12 t14 k14 t15 k15 t16 k16 t17 k17 t18 k18 t19 k19 t21 k21 t22 k22 t23 k23 t24 k24 t25 k25 t26 k26 t27 k27 d0 d1 d2 f0 f1 f2 f3 f4 f5 f6 f7 f8 f9 f10 f11 f12 f13 f14 f15 f16 f17 f18 f19 f20 f21 f22 f23 f24 f25 f26 f27 f28 f29
  replace f7 := shm_107 f7
  replace f8 := shm_286 f8
  replace f9 := shm_301 f9
  replace f18 := shm_107 f18
  replace f22 := shm_107 f22
  replace f23 := shm_107 f23
  replace f24 := shm_1332 f24
  replace f26 := shm_107 f26
  replace f27 := shm_327 f27
  replace f29 := shm_293 f29
  have cr_0_1 := fdq_39 hD hth r0
  have cr_0_160 := fdq_33 hD hth r0
  have cr_0_162 := fdq_41 hD hth r0
  have cr_0_163 := fdq_42 hD hth r0
  have ad_9 : v_ad (n_v vs 9) = w_ar ws (n_v vs 0) 162 := congrArg v_ad f9
  have ad_7 : v_ad (n_v vs 7) = w_ar ws (n_v vs 0) 163 := congrArg v_ad f24
  have ad_3 : v_ad (n_v vs 3) = w_ar ws (n_v vs 0) 160 := congrArg v_ad f27
  simp only [ad_9] at f7
  have h7 : v_iv (n_v vs 23) = w_ei ws (w_ar ws (n_v vs 0) 162) (v_iv (n_v vs 4)) := f7
  have g8 : v_iv (n_v vs 4) = w_fi ws (n_v vs 0) 158 := congrArg v_iv f8
  simp only [ad_9] at f18
  have h18 : v_iv (n_v vs 16) = w_ei ws (w_ar ws (n_v vs 0) 162) (v_iv (n_v vs 4)) := f18
  simp only [ad_9] at f22
  have h22 : v_iv (n_v vs 10) = w_ei ws (w_ar ws (n_v vs 0) 162) (v_iv (n_v vs 4)) := f22
  simp only [ad_7] at f23
  have h23 : v_iv (n_v vs 8) = w_ei ws (w_ar ws (n_v vs 0) 163) (v_iv (n_v vs 4)) := f23
  simp only [ad_3] at f26
  have h26 : v_iv (n_v vs 5) = w_ei ws (w_ar ws (n_v vs 0) 160) (v_iv (n_v vs 4)) := f26
  have g29 : v_iv (n_v vs 2) = w_fi ws (n_v vs 0) 8 := congrArg v_iv f29
  have hK_0_1 := elq_7 hD hth cr_0_1
  have hK_0_160 := elq_6 hD hth cr_0_160
  have hK_0_162 := elq_8 hD hth cr_0_162
  have hK_0_163 := elq_9 hD hth cr_0_163
  have kz_0_8 := fdq_34 hD hth r0
  have kz_0_10 := fdq_43 hD hth r0
  have kz_0_158 := fdq_36 hD hth r0
  have nf0 : fc_1 PRD (20, [27, 0], [50, 1, 1, 1158, 1160, 4, 6, 1, 2, 1, 0, 0, 1, 1, 6, 3, 1, 160, 2, 1, 158, 0, 1]) ws (vs) := ⟨nf_in hl rfl, sgq_287 (vc_Mo_word_at_s5029_6_0 (v_iv (n_v vs 2)) (v_iv (n_v vs 4)) (v_iv (n_v vs 5)) (v_iv (n_v vs 6)) (v_iv (n_v vs 8)) (v_iv (n_v vs 10)) (v_iv (n_v vs 11)) (v_iv (n_v vs 12)) (v_iv (n_v vs 14)) (v_iv (n_v vs 15)) (v_iv (n_v vs 16)) (v_iv (n_v vs 17)) (v_iv (n_v vs 18)) (v_iv (n_v vs 19)) (v_iv (n_v vs 21)) (v_iv (n_v vs 22)) (v_iv (n_v vs 23)) (v_iv (n_v vs 24)) (v_iv (n_v vs 25)) (v_iv (n_v vs 26)) (v_iv (n_v vs 27)) (w_ei ws (w_ar ws (n_v vs 0) 1)) (w_fi ws (n_v vs 0) 10) (w_ei ws (w_ar ws (n_v vs 0) 162)) (w_fi ws (n_v vs 0) 158) (w_ei ws (w_ar ws (n_v vs 0) 163)) (w_ei ws (w_ar ws (n_v vs 0) 160)) (w_fi ws (n_v vs 0) 8) k2 k4 k5 k6 k8 k10 k11 k12 k14 k15 k16 k17 k18 k19 k21 k22 k23 k24 k25 k26 k27 d0 d1 d2 (shm_192 f0) (shm_40 f1) (shm_55 f2) (shm_56 f3) (shm_541 f4) (shm_542 f5) (shm_12 f6) h7 g8 (shm_6 f10) (shm_4 f11) (shm_37 f12) (shm_87 f13) (shm_88 f14) (shm_541 f15) (shm_542 f16) (shm_12 f17) h18 (shm_6 f19) (shm_37 f20) (shm_14 f21) h22 h23 (shm_37 f25) h26 (shm_192 f28) g29 hK_0_1 hK_0_160 hK_0_162 hK_0_163 kz_0_8 kz_0_10 kz_0_158)⟩
  have nf1 : fc_1 PRD (20, [0, 27], [60, 3, 4, 34, 8, 158, 10, 160, 162, 163, 1]) ws (vs) := ⟨nf_in hl rfl, sgq_1873 (vc_Mo_word_at_s5029_6_1 (v_iv (n_v vs 4)) (v_iv (n_v vs 8)) (v_iv (n_v vs 10)) (v_iv (n_v vs 11)) (v_iv (n_v vs 16)) (v_iv (n_v vs 17)) (v_iv (n_v vs 18)) (v_iv (n_v vs 19)) (v_iv (n_v vs 23)) (v_iv (n_v vs 24)) (v_iv (n_v vs 25)) (v_iv (n_v vs 26)) (v_iv (n_v vs 27)) (w_ei ws (w_ar ws (n_v vs 0) 1)) (w_fi ws (n_v vs 0) 10) (w_ei ws (w_ar ws (n_v vs 0) 162)) (w_fi ws (n_v vs 0) 158) (w_ei ws (w_ar ws (n_v vs 0) 163)) (w_ei ws (w_ar ws (n_v vs 0) 160)) (w_fi ws (n_v vs 0) 8) k4 k8 k10 k11 k16 k17 k18 k19 k23 k24 k25 k26 k27 d0 d1 d2 (shm_40 f1) (shm_55 f2) (shm_56 f3) (shm_541 f4) (shm_542 f5) h7 g8 (shm_87 f13) (shm_88 f14) (shm_541 f15) (shm_542 f16) h18 (shm_14 f21) h22 h23 kz_0_8 kz_0_10 kz_0_158)⟩
  refine ⟨(fun _ h => (by cases h)), [], trivial, ?_, (fun _ h => (by cases h))⟩
  rw [List.append_nil]
  exact List.forall_mem_cons.mpr ⟨⟨show (20 : Nat) < 100 from by decide, nf0⟩, List.forall_mem_cons.mpr ⟨⟨show (20 : Nat) < 100 from by decide, nf1⟩, (fun _ h => (by cases h))⟩⟩
set_option maxHeartbeats 4000000 in
theorem vc_Mo_word_at_s5029_7_0 (x2 : Int) (x4 : Int) (x5 : Int) (x6 : Int) (x8 : Int) (x10 : Int) (x11 : Int) (x12 : Int) (x14 : Int) (x15 : Int) (x16 : Int) (x17 : Int) (x18 : Int) (x19 : Int) (x21 : Int) (x22 : Int) (x23 : Int) (x24 : Int) (x25 : Int) (x26 : Int) (x28 : Int) (x29 : Int) (x30 : Int) (x31 : Int) (x32 : Int) (x33 : Int) (x34 : Int) (tape_0 : Int → Int) (limit_0 : Int) (tokenPlace_0 : Int → Int) (cur_0 : Int) (tokenEnd_0 : Int → Int) (tokenKind_0 : Int → Int) (fault_0 : Int) (k2 : 0 ≤ x2 ∧ x2 ≤ 0) (k4 : 0 ≤ x4 ∧ x4 ≤ 2009) (k5 : 1 ≤ x5 ∧ x5 ≤ 1) (k6 : 1 ≤ x6 ∧ x6 ≤ 1) (k8 : 4 ≤ x8 ∧ x8 ≤ 2000) (k10 : 0 ≤ x10 ∧ x10 ≤ 2000) (k11 : 4 ≤ x11 ∧ x11 ≤ 4) (k12 : 4 ≤ x12 ∧ x12 ≤ 4) (k14 : 0 ≤ x14 ∧ x14 ≤ 0) (k15 : 4 ≤ x15 ∧ x15 ≤ 4) (k16 : 0 ≤ x16 ∧ x16 ≤ 1999) (k17 : 0 ≤ x17 ∧ x17 ≤ 1999) (k18 : 0 ≤ x18 ∧ x18 ≤ 255) (k19 : 0 ≤ x19 ∧ x19 ≤ 255) (k21 : 1 ≤ x21 ∧ x21 ≤ 1) (k22 : 4 ≤ x22 ∧ x22 ≤ 4) (k23 : 0 ≤ x23 ∧ x23 ≤ 1998) (k24 : 1 ≤ x24 ∧ x24 ≤ 1999) (k25 : 0 ≤ x25 ∧ x25 ≤ 255) (k26 : 0 ≤ x26 ∧ x26 ≤ 255) (k28 : 2 ≤ x28 ∧ x28 ≤ 2) (k29 : 4 ≤ x29 ∧ x29 ≤ 4) (k30 : 0 ≤ x30 ∧ x30 ≤ 2000) (k31 : 2 ≤ x31 ∧ x31 ≤ 2002) (k32 : (-1) ≤ x32 ∧ x32 ≤ (-1)) (k33 : 0 ≤ x33 ∧ x33 ≤ 65535) (k34 : 0 ≤ x34 ∧ x34 ≤ 0) (d0 : x30 + 2 ≤ x31 ∧ x31 ≤ x30 + 2) (d1 : x26 + 0 ≤ x25 ∧ x25 ≤ x26 + 0) (d2 : x23 + 1 ≤ x24 ∧ x24 ≤ x23 + 1) (d3 : x19 + 0 ≤ x18 ∧ x18 ≤ x19 + 0) (d4 : x16 + 0 ≤ x17 ∧ x17 ≤ x16 + 0) (f0 : x34 = 0) (f1 : x32 ≠ x33) (f2 : 1 * x33 + 0 ≤ 114) (f3 : (-1) * x33 + 0 ≤ (-114)) (f4 : ((x31 + 1) ≤ limit_0) → (x32 = (tape_0 (x31) % 256))) (f5 : (limit_0 ≤ x31) → (x32 = (-1))) (f6 : x31 = x30 + x28) (h7 : x30 = tokenPlace_0 (x4)) (g8 : x4 = cur_0) (f10 : x28 < x29) (f11 : x28 = x21 + 1) (f12 : x25 = x26) (f13 : 1 * x26 + 0 ≤ 111) (f14 : (-1) * x26 + 0 ≤ (-111)) (f15 : ((x24 + 1) ≤ limit_0) → (x25 = (tape_0 (x24) % 256))) (f16 : (limit_0 ≤ x24) → (x25 = (-1))) (f17 : x24 = x23 + x21) (h18 : x23 = tokenPlace_0 (x4)) (f19 : x21 < x22) (f20 : x21 = x14 + 1) (f21 : x18 = x19) (f22 : 1 * x19 + 0 ≤ 99) (f23 : (-1) * x19 + 0 ≤ (-99)) (f24 : ((x17 + 1) ≤ limit_0) → (x18 = (tape_0 (x17) % 256))) (f25 : (limit_0 ≤ x17) → (x18 = (-1))) (f26 : x17 = x16 + x14) (h27 : x16 = tokenPlace_0 (x4)) (f28 : x14 < x15) (f29 : x11 = x12) (f30 : x11 = x8 - x10) (h31 : x10 = tokenPlace_0 (x4)) (h32 : x8 = tokenEnd_0 (x4)) (f34 : x5 = x6) (h35 : x5 = tokenKind_0 (x4)) (f37 : x2 = 0) (g38 : x2 = fault_0) (hK_0_1 : ∀ j : Int, 0 ≤ j → j < 2000 → (-128) ≤ tape_0 j ∧ tape_0 j ≤ 127) (hK_0_160 : ∀ j : Int, 0 ≤ j → j < 2010 → 0 ≤ tokenKind_0 j ∧ tokenKind_0 j ≤ 4) (hK_0_162 : ∀ j : Int, 0 ≤ j → j < 2010 → 0 ≤ tokenPlace_0 j ∧ tokenPlace_0 j ≤ 2000) (hK_0_163 : ∀ j : Int, 0 ≤ j → j < 2010 → 0 ≤ tokenEnd_0 j ∧ tokenEnd_0 j ≤ 2000) (kz_0_8 : 0 ≤ fault_0 ∧ fault_0 ≤ 5) (kz_0_10 : 0 ≤ limit_0 ∧ limit_0 ≤ 2000) (kz_0_158 : 0 ≤ cur_0 ∧ cur_0 ≤ 2009) : (x34 = 1) → (tokenKind_0 (cur_0) = 1) := by
  first | assumption | (clear f4 f5 f15 f16 f24 f25 hK_0_1 hK_0_160 hK_0_162 hK_0_163; omega) | (clear hK_0_1 hK_0_160 hK_0_162 hK_0_163; grind) | omega | grind
set_option maxHeartbeats 4000000 in
theorem vc_Mo_word_at_s5029_7_1 (x4 : Int) (x8 : Int) (x10 : Int) (x11 : Int) (x16 : Int) (x17 : Int) (x18 : Int) (x19 : Int) (x23 : Int) (x24 : Int) (x25 : Int) (x26 : Int) (x30 : Int) (x31 : Int) (x32 : Int) (x34 : Int) (tape_0 : Int → Int) (limit_0 : Int) (tokenPlace_0 : Int → Int) (cur_0 : Int) (tokenEnd_0 : Int → Int) (tokenKind_0 : Int → Int) (fault_0 : Int) (k4 : 0 ≤ x4 ∧ x4 ≤ 2009) (k8 : 4 ≤ x8 ∧ x8 ≤ 2000) (k10 : 0 ≤ x10 ∧ x10 ≤ 2000) (k11 : 4 ≤ x11 ∧ x11 ≤ 4) (k16 : 0 ≤ x16 ∧ x16 ≤ 1999) (k17 : 0 ≤ x17 ∧ x17 ≤ 1999) (k18 : 0 ≤ x18 ∧ x18 ≤ 255) (k19 : 0 ≤ x19 ∧ x19 ≤ 255) (k23 : 0 ≤ x23 ∧ x23 ≤ 1998) (k24 : 1 ≤ x24 ∧ x24 ≤ 1999) (k25 : 0 ≤ x25 ∧ x25 ≤ 255) (k26 : 0 ≤ x26 ∧ x26 ≤ 255) (k30 : 0 ≤ x30 ∧ x30 ≤ 2000) (k31 : 2 ≤ x31 ∧ x31 ≤ 2002) (k32 : (-1) ≤ x32 ∧ x32 ≤ (-1)) (k34 : 0 ≤ x34 ∧ x34 ≤ 0) (d0 : x30 + 2 ≤ x31 ∧ x31 ≤ x30 + 2) (d1 : x26 + 0 ≤ x25 ∧ x25 ≤ x26 + 0) (d2 : x23 + 1 ≤ x24 ∧ x24 ≤ x23 + 1) (d3 : x19 + 0 ≤ x18 ∧ x18 ≤ x19 + 0) (d4 : x16 + 0 ≤ x17 ∧ x17 ≤ x16 + 0) (f4 : ((x31 + 1) ≤ limit_0) → (x32 = (tape_0 (x31) % 256))) (f5 : (limit_0 ≤ x31) → (x32 = (-1))) (h7 : x30 = tokenPlace_0 (x4)) (g8 : x4 = cur_0) (f13 : 1 * x26 + 0 ≤ 111) (f14 : (-1) * x26 + 0 ≤ (-111)) (f15 : ((x24 + 1) ≤ limit_0) → (x25 = (tape_0 (x24) % 256))) (f16 : (limit_0 ≤ x24) → (x25 = (-1))) (h18 : x23 = tokenPlace_0 (x4)) (f22 : 1 * x19 + 0 ≤ 99) (f23 : (-1) * x19 + 0 ≤ (-99)) (f24 : ((x17 + 1) ≤ limit_0) → (x18 = (tape_0 (x17) % 256))) (f25 : (limit_0 ≤ x17) → (x18 = (-1))) (h27 : x16 = tokenPlace_0 (x4)) (f30 : x11 = x8 - x10) (h31 : x10 = tokenPlace_0 (x4)) (h32 : x8 = tokenEnd_0 (x4)) (kz_0_8 : 0 ≤ fault_0 ∧ fault_0 ≤ 5) (kz_0_10 : 0 ≤ limit_0 ∧ limit_0 ≤ 2000) (kz_0_158 : 0 ≤ cur_0 ∧ cur_0 ≤ 2009) : Wqcore (fault_0) (cur_0) (limit_0) (tokenKind_0) (tokenPlace_0) (tokenEnd_0) (tape_0) (x34) := by
  first
    | exact ⟨fun z => by omega, fun z => by have := z.1; omega⟩
    | (have e := (‹x4 = cur_0›)
       rw [← e]
       refine ⟨fun z => ⟨by omega, wdS4.2 ⟨by omega, by omega, by omega, by rw [show tokenPlace_0 x4 + 0 = x17 by omega]; omega, by rw [show tokenPlace_0 x4 + 1 = x24 by omega]; omega, by rw [show tokenPlace_0 x4 + 2 = x31 by omega]; omega, by rw [show tokenPlace_0 x4 + 3 = x38 by omega]; omega⟩⟩, fun z => by omega⟩)
    | (have e := (‹x4 = cur_0›)
       rw [← e]
       refine ⟨fun z => by omega, fun z => ?_⟩
       have w := wdS4.1 z.2
       try (have q0 : tokenPlace_0 x4 + 0 = x17 := (by omega); rw [q0] at w)
       try (have q1 : tokenPlace_0 x4 + 1 = x24 := (by omega); rw [q1] at w)
       try (have q2 : tokenPlace_0 x4 + 2 = x31 := (by omega); rw [q2] at w)
       try (have q3 : tokenPlace_0 x4 + 3 = x38 := (by omega); rw [q3] at w)
       omega)
  
def o_Mo_word_at_s5029_7 : or_T := (102, 37, [(0, (2, 0, 0, [165])), (2, (0, 0, 0, [])), (3, (2, 0, 0, [274])), (4, (0, 0, 2009, [])), (5, (0, 1, 1, [])), (6, (0, 1, 1, [])), (7, (2, 0, 0, [277])), (8, (0, 4, 2000, [])), (9, (2, 0, 0, [276])), (10, (0, 0, 2000, [])), (11, (0, 4, 4, [])), (12, (0, 4, 4, [])), (14, (0, 0, 0, [])), (15, (0, 4, 4, [])), (16, (0, 0, 1999, [])), (17, (0, 0, 1999, [])), (18, (0, 0, 255, [])), (19, (0, 0, 255, [])), (21, (0, 1, 1, [])), (22, (0, 4, 4, [])), (23, (0, 0, 1998, [])), (24, (0, 1, 1999, [])), (25, (0, 0, 255, [])), (26, (0, 0, 255, [])), (28, (0, 2, 2, [])), (29, (0, 4, 4, [])), (30, (0, 0, 2000, [])), (31, (0, 2, 2002, [])), (32, (0, -1, -1, [])), (33, (0, 0, 65535, [])), (34, (0, 0, 0, []))], [(8, [34], [0]), (7, [32, 33], [1]), (23, [33], [114, 1]), (23, [33], [-114, -1]), (20, [31, 0, 32], [50, 1, 1, 1010, 1001, 4, 11, 0, 6, 4, 2, 1, 0, 0, 1, 2, 1, 10, 1, 2, 1, 2, 9, 5, 3, 1, 1, 1, 0, 0, 256]), (20, [0, 31, 32], [50, 1, 0, 10, 4, 7, 0, 3, 2, 0, 10, 1, 1, 1, 2, 1, 2, 0, -1]), (1, [31, 30, 28], []), (10, [30, 9, 4], []), (9, [4, 0], [158]), (9, [9, 0], [162]), (7, [28, 29], [2]), (6, [28, 21], [1]), (7, [25, 26], [0]), (23, [26], [111, 1]), (23, [26], [-111, -1]), (20, [24, 0, 25], [50, 1, 1, 1010, 1001, 4, 11, 0, 6, 4, 2, 1, 0, 0, 1, 2, 1, 10, 1, 2, 1, 2, 9, 5, 3, 1, 1, 1, 0, 0, 256]), (20, [0, 24, 25], [50, 1, 0, 10, 4, 7, 0, 3, 2, 0, 10, 1, 1, 1, 2, 1, 2, 0, -1]), (1, [24, 23, 21], []), (10, [23, 9, 4], []), (7, [21, 22], [2]), (6, [21, 14], [1]), (7, [18, 19], [0]), (23, [19], [99, 1]), (23, [19], [-99, -1]), (20, [17, 0, 18], [50, 1, 1, 1010, 1001, 4, 11, 0, 6, 4, 2, 1, 0, 0, 1, 2, 1, 10, 1, 2, 1, 2, 9, 5, 3, 1, 1, 1, 0, 0, 256]), (20, [0, 17, 18], [50, 1, 0, 10, 4, 7, 0, 3, 2, 0, 10, 1, 1, 1, 2, 1, 2, 0, -1]), (1, [17, 16, 14], []), (10, [16, 9, 4], []), (7, [14, 15], [2]), (7, [11, 12], [0]), (2, [11, 8, 10], []), (10, [10, 9, 4], []), (10, [8, 7, 4], []), (9, [7, 0], [163]), (7, [5, 6], [0]), (10, [5, 3, 4], []), (9, [3, 0], [160]), (8, [2], [0]), (9, [2, 0], [8])], [], [], [(20, [34, 0], [50, 1, 1, 1158, 1160, 4, 6, 1, 2, 1, 0, 0, 1, 1, 6, 3, 1, 160, 2, 1, 158, 0, 1]), (20, [0, 34], [60, 3, 4, 34, 8, 158, 10, 160, 162, 163, 1])], [], [(31, 30, 2, 2), (25, 26, 0, 0), (24, 23, 1, 1), (18, 19, 0, 0), (17, 16, 0, 0)])
theorem oo_Mo_word_at_s5029_7 {kA : Nat → ClassId} : or_ok PRD kA GG o_Mo_word_at_s5029_7 := by
  refine or_mk fun A ta ws vs hD hth hl => ?_
  intro t0 r0 t2 k2 t3 r3 t4 k4 t5 k5 t6 k6 t7 r7 t8 k8 t9 r9 t10 k10 t11 k11 t12 k12 t14 k14 t15 k15 t16 k16 t17 k17 t18 k18 t19 k19 t21 k21 t22 k22 t23 k23 t24 k24 t25 k25 t26 k26 t28 k28 t29 k29 t30 k30 t31 k31 t32 k32 t33 k33 t34 k34 d0 d1 d2 d3 d4 f0 f1 f2 f3 f4 f5 f6 f7 f8 f9 f10 f11 f12 f13 f14 f15 f16 f17 f18 f19 f20 f21 f22 f23 f24 f25 f26 f27 f28 f29 f30 f31 f32 f33 f34 f35 f36 f37 f38
  replace f7 := shm_107 f7
  replace f8 := shm_286 f8
  replace f9 := shm_301 f9
  replace f18 := shm_107 f18
  replace f27 := shm_107 f27
  replace f31 := shm_107 f31
  replace f32 := shm_107 f32
  replace f33 := shm_1332 f33
  replace f35 := shm_107 f35
  replace f36 := shm_327 f36
  replace f38 := shm_293 f38
  have cr_0_1 := fdq_39 hD hth r0
  have cr_0_160 := fdq_33 hD hth r0
  have cr_0_162 := fdq_41 hD hth r0
  have cr_0_163 := fdq_42 hD hth r0
  have ad_9 : v_ad (n_v vs 9) = w_ar ws (n_v vs 0) 162 := congrArg v_ad f9
  have ad_7 : v_ad (n_v vs 7) = w_ar ws (n_v vs 0) 163 := congrArg v_ad f33
  have ad_3 : v_ad (n_v vs 3) = w_ar ws (n_v vs 0) 160 := congrArg v_ad f36
  simp only [ad_9] at f7
  have h7 : v_iv (n_v vs 30) = w_ei ws (w_ar ws (n_v vs 0) 162) (v_iv (n_v vs 4)) := f7
  have g8 : v_iv (n_v vs 4) = w_fi ws (n_v vs 0) 158 := congrArg v_iv f8
  simp only [ad_9] at f18
  have h18 : v_iv (n_v vs 23) = w_ei ws (w_ar ws (n_v vs 0) 162) (v_iv (n_v vs 4)) := f18
  simp only [ad_9] at f27
  have h27 : v_iv (n_v vs 16) = w_ei ws (w_ar ws (n_v vs 0) 162) (v_iv (n_v vs 4)) := f27
  simp only [ad_9] at f31
  have h31 : v_iv (n_v vs 10) = w_ei ws (w_ar ws (n_v vs 0) 162) (v_iv (n_v vs 4)) := f31
  simp only [ad_7] at f32
  have h32 : v_iv (n_v vs 8) = w_ei ws (w_ar ws (n_v vs 0) 163) (v_iv (n_v vs 4)) := f32
  simp only [ad_3] at f35
  have h35 : v_iv (n_v vs 5) = w_ei ws (w_ar ws (n_v vs 0) 160) (v_iv (n_v vs 4)) := f35
  have g38 : v_iv (n_v vs 2) = w_fi ws (n_v vs 0) 8 := congrArg v_iv f38
  have hK_0_1 := elq_7 hD hth cr_0_1
  have hK_0_160 := elq_6 hD hth cr_0_160
  have hK_0_162 := elq_8 hD hth cr_0_162
  have hK_0_163 := elq_9 hD hth cr_0_163
  have kz_0_8 := fdq_34 hD hth r0
  have kz_0_10 := fdq_43 hD hth r0
  have kz_0_158 := fdq_36 hD hth r0
  have nf0 : fc_1 PRD (20, [34, 0], [50, 1, 1, 1158, 1160, 4, 6, 1, 2, 1, 0, 0, 1, 1, 6, 3, 1, 160, 2, 1, 158, 0, 1]) ws (vs) := ⟨nf_in hl rfl, sgq_287 (vc_Mo_word_at_s5029_7_0 (v_iv (n_v vs 2)) (v_iv (n_v vs 4)) (v_iv (n_v vs 5)) (v_iv (n_v vs 6)) (v_iv (n_v vs 8)) (v_iv (n_v vs 10)) (v_iv (n_v vs 11)) (v_iv (n_v vs 12)) (v_iv (n_v vs 14)) (v_iv (n_v vs 15)) (v_iv (n_v vs 16)) (v_iv (n_v vs 17)) (v_iv (n_v vs 18)) (v_iv (n_v vs 19)) (v_iv (n_v vs 21)) (v_iv (n_v vs 22)) (v_iv (n_v vs 23)) (v_iv (n_v vs 24)) (v_iv (n_v vs 25)) (v_iv (n_v vs 26)) (v_iv (n_v vs 28)) (v_iv (n_v vs 29)) (v_iv (n_v vs 30)) (v_iv (n_v vs 31)) (v_iv (n_v vs 32)) (v_iv (n_v vs 33)) (v_iv (n_v vs 34)) (w_ei ws (w_ar ws (n_v vs 0) 1)) (w_fi ws (n_v vs 0) 10) (w_ei ws (w_ar ws (n_v vs 0) 162)) (w_fi ws (n_v vs 0) 158) (w_ei ws (w_ar ws (n_v vs 0) 163)) (w_ei ws (w_ar ws (n_v vs 0) 160)) (w_fi ws (n_v vs 0) 8) k2 k4 k5 k6 k8 k10 k11 k12 k14 k15 k16 k17 k18 k19 k21 k22 k23 k24 k25 k26 k28 k29 k30 k31 k32 k33 k34 d0 d1 d2 d3 d4 (shm_192 f0) (shm_40 f1) (shm_63 f2) (shm_64 f3) (shm_541 f4) (shm_542 f5) (shm_12 f6) h7 g8 (shm_6 f10) (shm_4 f11) (shm_37 f12) (shm_55 f13) (shm_56 f14) (shm_541 f15) (shm_542 f16) (shm_12 f17) h18 (shm_6 f19) (shm_4 f20) (shm_37 f21) (shm_87 f22) (shm_88 f23) (shm_541 f24) (shm_542 f25) (shm_12 f26) h27 (shm_6 f28) (shm_37 f29) (shm_14 f30) h31 h32 (shm_37 f34) h35 (shm_192 f37) g38 hK_0_1 hK_0_160 hK_0_162 hK_0_163 kz_0_8 kz_0_10 kz_0_158)⟩
  have nf1 : fc_1 PRD (20, [0, 34], [60, 3, 4, 34, 8, 158, 10, 160, 162, 163, 1]) ws (vs) := ⟨nf_in hl rfl, sgq_1873 (vc_Mo_word_at_s5029_7_1 (v_iv (n_v vs 4)) (v_iv (n_v vs 8)) (v_iv (n_v vs 10)) (v_iv (n_v vs 11)) (v_iv (n_v vs 16)) (v_iv (n_v vs 17)) (v_iv (n_v vs 18)) (v_iv (n_v vs 19)) (v_iv (n_v vs 23)) (v_iv (n_v vs 24)) (v_iv (n_v vs 25)) (v_iv (n_v vs 26)) (v_iv (n_v vs 30)) (v_iv (n_v vs 31)) (v_iv (n_v vs 32)) (v_iv (n_v vs 34)) (w_ei ws (w_ar ws (n_v vs 0) 1)) (w_fi ws (n_v vs 0) 10) (w_ei ws (w_ar ws (n_v vs 0) 162)) (w_fi ws (n_v vs 0) 158) (w_ei ws (w_ar ws (n_v vs 0) 163)) (w_ei ws (w_ar ws (n_v vs 0) 160)) (w_fi ws (n_v vs 0) 8) k4 k8 k10 k11 k16 k17 k18 k19 k23 k24 k25 k26 k30 k31 k32 k34 d0 d1 d2 d3 d4 (shm_541 f4) (shm_542 f5) h7 g8 (shm_55 f13) (shm_56 f14) (shm_541 f15) (shm_542 f16) h18 (shm_87 f22) (shm_88 f23) (shm_541 f24) (shm_542 f25) h27 (shm_14 f30) h31 h32 kz_0_8 kz_0_10 kz_0_158)⟩
  refine ⟨(fun _ h => (by cases h)), [], trivial, ?_, (fun _ h => (by cases h))⟩
  rw [List.append_nil]
  exact List.forall_mem_cons.mpr ⟨⟨show (20 : Nat) < 100 from by decide, nf0⟩, List.forall_mem_cons.mpr ⟨⟨show (20 : Nat) < 100 from by decide, nf1⟩, (fun _ h => (by cases h))⟩⟩
set_option maxHeartbeats 4000000 in
theorem vc_Mo_word_at_s5029_8_0 (x2 : Int) (x4 : Int) (x5 : Int) (x6 : Int) (x8 : Int) (x10 : Int) (x11 : Int) (x12 : Int) (x14 : Int) (x15 : Int) (x16 : Int) (x17 : Int) (x18 : Int) (x19 : Int) (x21 : Int) (x22 : Int) (x23 : Int) (x24 : Int) (x25 : Int) (x26 : Int) (x28 : Int) (x29 : Int) (x30 : Int) (x31 : Int) (x32 : Int) (x33 : Int) (x34 : Int) (tape_0 : Int → Int) (limit_0 : Int) (tokenPlace_0 : Int → Int) (cur_0 : Int) (tokenEnd_0 : Int → Int) (tokenKind_0 : Int → Int) (fault_0 : Int) (k2 : 0 ≤ x2 ∧ x2 ≤ 0) (k4 : 0 ≤ x4 ∧ x4 ≤ 2009) (k5 : 1 ≤ x5 ∧ x5 ≤ 1) (k6 : 1 ≤ x6 ∧ x6 ≤ 1) (k8 : 4 ≤ x8 ∧ x8 ≤ 2000) (k10 : 0 ≤ x10 ∧ x10 ≤ 2000) (k11 : 4 ≤ x11 ∧ x11 ≤ 4) (k12 : 4 ≤ x12 ∧ x12 ≤ 4) (k14 : 0 ≤ x14 ∧ x14 ≤ 0) (k15 : 4 ≤ x15 ∧ x15 ≤ 4) (k16 : 0 ≤ x16 ∧ x16 ≤ 1999) (k17 : 0 ≤ x17 ∧ x17 ≤ 1999) (k18 : 0 ≤ x18 ∧ x18 ≤ 255) (k19 : 0 ≤ x19 ∧ x19 ≤ 255) (k21 : 1 ≤ x21 ∧ x21 ≤ 1) (k22 : 4 ≤ x22 ∧ x22 ≤ 4) (k23 : 0 ≤ x23 ∧ x23 ≤ 1998) (k24 : 1 ≤ x24 ∧ x24 ≤ 1999) (k25 : 0 ≤ x25 ∧ x25 ≤ 255) (k26 : 0 ≤ x26 ∧ x26 ≤ 255) (k28 : 2 ≤ x28 ∧ x28 ≤ 2) (k29 : 4 ≤ x29 ∧ x29 ≤ 4) (k30 : 0 ≤ x30 ∧ x30 ≤ 1997) (k31 : 2 ≤ x31 ∧ x31 ≤ 1999) (k32 : 0 ≤ x32 ∧ x32 ≤ 255) (k33 : 0 ≤ x33 ∧ x33 ≤ 65535) (k34 : 0 ≤ x34 ∧ x34 ≤ 0) (d0 : x30 + 2 ≤ x31 ∧ x31 ≤ x30 + 2) (d1 : x26 + 0 ≤ x25 ∧ x25 ≤ x26 + 0) (d2 : x23 + 1 ≤ x24 ∧ x24 ≤ x23 + 1) (d3 : x19 + 0 ≤ x18 ∧ x18 ≤ x19 + 0) (d4 : x16 + 0 ≤ x17 ∧ x17 ≤ x16 + 0) (f0 : x34 = 0) (f1 : x32 ≠ x33) (f2 : 1 * x33 + 0 ≤ 114) (f3 : (-1) * x33 + 0 ≤ (-114)) (f4 : ((x31 + 1) ≤ limit_0) → (x32 = (tape_0 (x31) % 256))) (f5 : (limit_0 ≤ x31) → (x32 = (-1))) (f6 : x31 = x30 + x28) (h7 : x30 = tokenPlace_0 (x4)) (g8 : x4 = cur_0) (f10 : x28 < x29) (f11 : x28 = x21 + 1) (f12 : x25 = x26) (f13 : 1 * x26 + 0 ≤ 111) (f14 : (-1) * x26 + 0 ≤ (-111)) (f15 : ((x24 + 1) ≤ limit_0) → (x25 = (tape_0 (x24) % 256))) (f16 : (limit_0 ≤ x24) → (x25 = (-1))) (f17 : x24 = x23 + x21) (h18 : x23 = tokenPlace_0 (x4)) (f19 : x21 < x22) (f20 : x21 = x14 + 1) (f21 : x18 = x19) (f22 : 1 * x19 + 0 ≤ 99) (f23 : (-1) * x19 + 0 ≤ (-99)) (f24 : ((x17 + 1) ≤ limit_0) → (x18 = (tape_0 (x17) % 256))) (f25 : (limit_0 ≤ x17) → (x18 = (-1))) (f26 : x17 = x16 + x14) (h27 : x16 = tokenPlace_0 (x4)) (f28 : x14 < x15) (f29 : x11 = x12) (f30 : x11 = x8 - x10) (h31 : x10 = tokenPlace_0 (x4)) (h32 : x8 = tokenEnd_0 (x4)) (f34 : x5 = x6) (h35 : x5 = tokenKind_0 (x4)) (f37 : x2 = 0) (g38 : x2 = fault_0) (hK_0_1 : ∀ j : Int, 0 ≤ j → j < 2000 → (-128) ≤ tape_0 j ∧ tape_0 j ≤ 127) (hK_0_160 : ∀ j : Int, 0 ≤ j → j < 2010 → 0 ≤ tokenKind_0 j ∧ tokenKind_0 j ≤ 4) (hK_0_162 : ∀ j : Int, 0 ≤ j → j < 2010 → 0 ≤ tokenPlace_0 j ∧ tokenPlace_0 j ≤ 2000) (hK_0_163 : ∀ j : Int, 0 ≤ j → j < 2010 → 0 ≤ tokenEnd_0 j ∧ tokenEnd_0 j ≤ 2000) (kz_0_8 : 0 ≤ fault_0 ∧ fault_0 ≤ 5) (kz_0_10 : 0 ≤ limit_0 ∧ limit_0 ≤ 2000) (kz_0_158 : 0 ≤ cur_0 ∧ cur_0 ≤ 2009) : (x34 = 1) → (tokenKind_0 (cur_0) = 1) := by
  first | assumption | (clear f4 f5 f15 f16 f24 f25 hK_0_1 hK_0_160 hK_0_162 hK_0_163; omega) | (clear hK_0_1 hK_0_160 hK_0_162 hK_0_163; grind) | omega | grind
set_option maxHeartbeats 4000000 in
theorem vc_Mo_word_at_s5029_8_1 (x4 : Int) (x8 : Int) (x10 : Int) (x11 : Int) (x16 : Int) (x17 : Int) (x18 : Int) (x19 : Int) (x23 : Int) (x24 : Int) (x25 : Int) (x26 : Int) (x30 : Int) (x31 : Int) (x32 : Int) (x33 : Int) (x34 : Int) (tape_0 : Int → Int) (limit_0 : Int) (tokenPlace_0 : Int → Int) (cur_0 : Int) (tokenEnd_0 : Int → Int) (tokenKind_0 : Int → Int) (fault_0 : Int) (k4 : 0 ≤ x4 ∧ x4 ≤ 2009) (k8 : 4 ≤ x8 ∧ x8 ≤ 2000) (k10 : 0 ≤ x10 ∧ x10 ≤ 2000) (k11 : 4 ≤ x11 ∧ x11 ≤ 4) (k16 : 0 ≤ x16 ∧ x16 ≤ 1999) (k17 : 0 ≤ x17 ∧ x17 ≤ 1999) (k18 : 0 ≤ x18 ∧ x18 ≤ 255) (k19 : 0 ≤ x19 ∧ x19 ≤ 255) (k23 : 0 ≤ x23 ∧ x23 ≤ 1998) (k24 : 1 ≤ x24 ∧ x24 ≤ 1999) (k25 : 0 ≤ x25 ∧ x25 ≤ 255) (k26 : 0 ≤ x26 ∧ x26 ≤ 255) (k30 : 0 ≤ x30 ∧ x30 ≤ 1997) (k31 : 2 ≤ x31 ∧ x31 ≤ 1999) (k32 : 0 ≤ x32 ∧ x32 ≤ 255) (k33 : 0 ≤ x33 ∧ x33 ≤ 65535) (k34 : 0 ≤ x34 ∧ x34 ≤ 0) (d0 : x30 + 2 ≤ x31 ∧ x31 ≤ x30 + 2) (d1 : x26 + 0 ≤ x25 ∧ x25 ≤ x26 + 0) (d2 : x23 + 1 ≤ x24 ∧ x24 ≤ x23 + 1) (d3 : x19 + 0 ≤ x18 ∧ x18 ≤ x19 + 0) (d4 : x16 + 0 ≤ x17 ∧ x17 ≤ x16 + 0) (f1 : x32 ≠ x33) (f2 : 1 * x33 + 0 ≤ 114) (f3 : (-1) * x33 + 0 ≤ (-114)) (f4 : ((x31 + 1) ≤ limit_0) → (x32 = (tape_0 (x31) % 256))) (f5 : (limit_0 ≤ x31) → (x32 = (-1))) (h7 : x30 = tokenPlace_0 (x4)) (g8 : x4 = cur_0) (f13 : 1 * x26 + 0 ≤ 111) (f14 : (-1) * x26 + 0 ≤ (-111)) (f15 : ((x24 + 1) ≤ limit_0) → (x25 = (tape_0 (x24) % 256))) (f16 : (limit_0 ≤ x24) → (x25 = (-1))) (h18 : x23 = tokenPlace_0 (x4)) (f22 : 1 * x19 + 0 ≤ 99) (f23 : (-1) * x19 + 0 ≤ (-99)) (f24 : ((x17 + 1) ≤ limit_0) → (x18 = (tape_0 (x17) % 256))) (f25 : (limit_0 ≤ x17) → (x18 = (-1))) (h27 : x16 = tokenPlace_0 (x4)) (f30 : x11 = x8 - x10) (h31 : x10 = tokenPlace_0 (x4)) (h32 : x8 = tokenEnd_0 (x4)) (kz_0_8 : 0 ≤ fault_0 ∧ fault_0 ≤ 5) (kz_0_10 : 0 ≤ limit_0 ∧ limit_0 ≤ 2000) (kz_0_158 : 0 ≤ cur_0 ∧ cur_0 ≤ 2009) : Wqcore (fault_0) (cur_0) (limit_0) (tokenKind_0) (tokenPlace_0) (tokenEnd_0) (tape_0) (x34) := by
  first
    | exact ⟨fun z => by omega, fun z => by have := z.1; omega⟩
    | (have e := (‹x4 = cur_0›)
       rw [← e]
       refine ⟨fun z => ⟨by omega, wdS4.2 ⟨by omega, by omega, by omega, by rw [show tokenPlace_0 x4 + 0 = x17 by omega]; omega, by rw [show tokenPlace_0 x4 + 1 = x24 by omega]; omega, by rw [show tokenPlace_0 x4 + 2 = x31 by omega]; omega, by rw [show tokenPlace_0 x4 + 3 = x38 by omega]; omega⟩⟩, fun z => by omega⟩)
    | (have e := (‹x4 = cur_0›)
       rw [← e]
       refine ⟨fun z => by omega, fun z => ?_⟩
       have w := wdS4.1 z.2
       try (have q0 : tokenPlace_0 x4 + 0 = x17 := (by omega); rw [q0] at w)
       try (have q1 : tokenPlace_0 x4 + 1 = x24 := (by omega); rw [q1] at w)
       try (have q2 : tokenPlace_0 x4 + 2 = x31 := (by omega); rw [q2] at w)
       try (have q3 : tokenPlace_0 x4 + 3 = x38 := (by omega); rw [q3] at w)
       omega)
  
def o_Mo_word_at_s5029_8 : or_T := (102, 37, [(0, (2, 0, 0, [165])), (2, (0, 0, 0, [])), (3, (2, 0, 0, [274])), (4, (0, 0, 2009, [])), (5, (0, 1, 1, [])), (6, (0, 1, 1, [])), (7, (2, 0, 0, [277])), (8, (0, 4, 2000, [])), (9, (2, 0, 0, [276])), (10, (0, 0, 2000, [])), (11, (0, 4, 4, [])), (12, (0, 4, 4, [])), (14, (0, 0, 0, [])), (15, (0, 4, 4, [])), (16, (0, 0, 1999, [])), (17, (0, 0, 1999, [])), (18, (0, 0, 255, [])), (19, (0, 0, 255, [])), (21, (0, 1, 1, [])), (22, (0, 4, 4, [])), (23, (0, 0, 1998, [])), (24, (0, 1, 1999, [])), (25, (0, 0, 255, [])), (26, (0, 0, 255, [])), (28, (0, 2, 2, [])), (29, (0, 4, 4, [])), (30, (0, 0, 1997, [])), (31, (0, 2, 1999, [])), (32, (0, 0, 255, [])), (33, (0, 0, 65535, [])), (34, (0, 0, 0, []))], [(8, [34], [0]), (7, [32, 33], [1]), (23, [33], [114, 1]), (23, [33], [-114, -1]), (20, [31, 0, 32], [50, 1, 1, 1010, 1001, 4, 11, 0, 6, 4, 2, 1, 0, 0, 1, 2, 1, 10, 1, 2, 1, 2, 9, 5, 3, 1, 1, 1, 0, 0, 256]), (20, [0, 31, 32], [50, 1, 0, 10, 4, 7, 0, 3, 2, 0, 10, 1, 1, 1, 2, 1, 2, 0, -1]), (1, [31, 30, 28], []), (10, [30, 9, 4], []), (9, [4, 0], [158]), (9, [9, 0], [162]), (7, [28, 29], [2]), (6, [28, 21], [1]), (7, [25, 26], [0]), (23, [26], [111, 1]), (23, [26], [-111, -1]), (20, [24, 0, 25], [50, 1, 1, 1010, 1001, 4, 11, 0, 6, 4, 2, 1, 0, 0, 1, 2, 1, 10, 1, 2, 1, 2, 9, 5, 3, 1, 1, 1, 0, 0, 256]), (20, [0, 24, 25], [50, 1, 0, 10, 4, 7, 0, 3, 2, 0, 10, 1, 1, 1, 2, 1, 2, 0, -1]), (1, [24, 23, 21], []), (10, [23, 9, 4], []), (7, [21, 22], [2]), (6, [21, 14], [1]), (7, [18, 19], [0]), (23, [19], [99, 1]), (23, [19], [-99, -1]), (20, [17, 0, 18], [50, 1, 1, 1010, 1001, 4, 11, 0, 6, 4, 2, 1, 0, 0, 1, 2, 1, 10, 1, 2, 1, 2, 9, 5, 3, 1, 1, 1, 0, 0, 256]), (20, [0, 17, 18], [50, 1, 0, 10, 4, 7, 0, 3, 2, 0, 10, 1, 1, 1, 2, 1, 2, 0, -1]), (1, [17, 16, 14], []), (10, [16, 9, 4], []), (7, [14, 15], [2]), (7, [11, 12], [0]), (2, [11, 8, 10], []), (10, [10, 9, 4], []), (10, [8, 7, 4], []), (9, [7, 0], [163]), (7, [5, 6], [0]), (10, [5, 3, 4], []), (9, [3, 0], [160]), (8, [2], [0]), (9, [2, 0], [8])], [], [], [(20, [34, 0], [50, 1, 1, 1158, 1160, 4, 6, 1, 2, 1, 0, 0, 1, 1, 6, 3, 1, 160, 2, 1, 158, 0, 1]), (20, [0, 34], [60, 3, 4, 34, 8, 158, 10, 160, 162, 163, 1])], [], [(31, 30, 2, 2), (25, 26, 0, 0), (24, 23, 1, 1), (18, 19, 0, 0), (17, 16, 0, 0)])
theorem oo_Mo_word_at_s5029_8 {kA : Nat → ClassId} : or_ok PRD kA GG o_Mo_word_at_s5029_8 := by
  refine or_mk fun A ta ws vs hD hth hl => ?_
  intro t0 r0 t2 k2 t3 r3 t4 k4 t5 k5 t6 k6 t7 r7 t8 k8 t9 r9 t10 k10 t11 k11 t12 k12 t14 k14 t15 k15 t16 k16 t17 k17 t18 k18 t19 k19 t21 k21 t22 k22 t23 k23 t24 k24 t25 k25 t26 k26 t28 k28 t29 k29 t30 k30 t31 k31 t32 k32 t33 k33 t34 k34 d0 d1 d2 d3 d4 f0 f1 f2 f3 f4 f5 f6 f7 f8 f9 f10 f11 f12 f13 f14 f15 f16 f17 f18 f19 f20 f21 f22 f23 f24 f25 f26 f27 f28 f29 f30 f31 f32 f33 f34 f35 f36 f37 f38
  replace f7 := shm_107 f7
  replace f8 := shm_286 f8
  replace f9 := shm_301 f9
  replace f18 := shm_107 f18
  replace f27 := shm_107 f27
  replace f31 := shm_107 f31
  replace f32 := shm_107 f32
  replace f33 := shm_1332 f33
  replace f35 := shm_107 f35
  replace f36 := shm_327 f36
  replace f38 := shm_293 f38
  have cr_0_1 := fdq_39 hD hth r0
  have cr_0_160 := fdq_33 hD hth r0
  have cr_0_162 := fdq_41 hD hth r0
  have cr_0_163 := fdq_42 hD hth r0
  have ad_9 : v_ad (n_v vs 9) = w_ar ws (n_v vs 0) 162 := congrArg v_ad f9
  have ad_7 : v_ad (n_v vs 7) = w_ar ws (n_v vs 0) 163 := congrArg v_ad f33
  have ad_3 : v_ad (n_v vs 3) = w_ar ws (n_v vs 0) 160 := congrArg v_ad f36
  simp only [ad_9] at f7
  have h7 : v_iv (n_v vs 30) = w_ei ws (w_ar ws (n_v vs 0) 162) (v_iv (n_v vs 4)) := f7
  have g8 : v_iv (n_v vs 4) = w_fi ws (n_v vs 0) 158 := congrArg v_iv f8
  simp only [ad_9] at f18
  have h18 : v_iv (n_v vs 23) = w_ei ws (w_ar ws (n_v vs 0) 162) (v_iv (n_v vs 4)) := f18
  simp only [ad_9] at f27
  have h27 : v_iv (n_v vs 16) = w_ei ws (w_ar ws (n_v vs 0) 162) (v_iv (n_v vs 4)) := f27
  simp only [ad_9] at f31
  have h31 : v_iv (n_v vs 10) = w_ei ws (w_ar ws (n_v vs 0) 162) (v_iv (n_v vs 4)) := f31
  simp only [ad_7] at f32
  have h32 : v_iv (n_v vs 8) = w_ei ws (w_ar ws (n_v vs 0) 163) (v_iv (n_v vs 4)) := f32
  simp only [ad_3] at f35
  have h35 : v_iv (n_v vs 5) = w_ei ws (w_ar ws (n_v vs 0) 160) (v_iv (n_v vs 4)) := f35
  have g38 : v_iv (n_v vs 2) = w_fi ws (n_v vs 0) 8 := congrArg v_iv f38
  have hK_0_1 := elq_7 hD hth cr_0_1
  have hK_0_160 := elq_6 hD hth cr_0_160
  have hK_0_162 := elq_8 hD hth cr_0_162
  have hK_0_163 := elq_9 hD hth cr_0_163
  have kz_0_8 := fdq_34 hD hth r0
  have kz_0_10 := fdq_43 hD hth r0
  have kz_0_158 := fdq_36 hD hth r0
  have nf0 : fc_1 PRD (20, [34, 0], [50, 1, 1, 1158, 1160, 4, 6, 1, 2, 1, 0, 0, 1, 1, 6, 3, 1, 160, 2, 1, 158, 0, 1]) ws (vs) := ⟨nf_in hl rfl, sgq_287 (vc_Mo_word_at_s5029_8_0 (v_iv (n_v vs 2)) (v_iv (n_v vs 4)) (v_iv (n_v vs 5)) (v_iv (n_v vs 6)) (v_iv (n_v vs 8)) (v_iv (n_v vs 10)) (v_iv (n_v vs 11)) (v_iv (n_v vs 12)) (v_iv (n_v vs 14)) (v_iv (n_v vs 15)) (v_iv (n_v vs 16)) (v_iv (n_v vs 17)) (v_iv (n_v vs 18)) (v_iv (n_v vs 19)) (v_iv (n_v vs 21)) (v_iv (n_v vs 22)) (v_iv (n_v vs 23)) (v_iv (n_v vs 24)) (v_iv (n_v vs 25)) (v_iv (n_v vs 26)) (v_iv (n_v vs 28)) (v_iv (n_v vs 29)) (v_iv (n_v vs 30)) (v_iv (n_v vs 31)) (v_iv (n_v vs 32)) (v_iv (n_v vs 33)) (v_iv (n_v vs 34)) (w_ei ws (w_ar ws (n_v vs 0) 1)) (w_fi ws (n_v vs 0) 10) (w_ei ws (w_ar ws (n_v vs 0) 162)) (w_fi ws (n_v vs 0) 158) (w_ei ws (w_ar ws (n_v vs 0) 163)) (w_ei ws (w_ar ws (n_v vs 0) 160)) (w_fi ws (n_v vs 0) 8) k2 k4 k5 k6 k8 k10 k11 k12 k14 k15 k16 k17 k18 k19 k21 k22 k23 k24 k25 k26 k28 k29 k30 k31 k32 k33 k34 d0 d1 d2 d3 d4 (shm_192 f0) (shm_40 f1) (shm_63 f2) (shm_64 f3) (shm_541 f4) (shm_542 f5) (shm_12 f6) h7 g8 (shm_6 f10) (shm_4 f11) (shm_37 f12) (shm_55 f13) (shm_56 f14) (shm_541 f15) (shm_542 f16) (shm_12 f17) h18 (shm_6 f19) (shm_4 f20) (shm_37 f21) (shm_87 f22) (shm_88 f23) (shm_541 f24) (shm_542 f25) (shm_12 f26) h27 (shm_6 f28) (shm_37 f29) (shm_14 f30) h31 h32 (shm_37 f34) h35 (shm_192 f37) g38 hK_0_1 hK_0_160 hK_0_162 hK_0_163 kz_0_8 kz_0_10 kz_0_158)⟩
  have nf1 : fc_1 PRD (20, [0, 34], [60, 3, 4, 34, 8, 158, 10, 160, 162, 163, 1]) ws (vs) := ⟨nf_in hl rfl, sgq_1873 (vc_Mo_word_at_s5029_8_1 (v_iv (n_v vs 4)) (v_iv (n_v vs 8)) (v_iv (n_v vs 10)) (v_iv (n_v vs 11)) (v_iv (n_v vs 16)) (v_iv (n_v vs 17)) (v_iv (n_v vs 18)) (v_iv (n_v vs 19)) (v_iv (n_v vs 23)) (v_iv (n_v vs 24)) (v_iv (n_v vs 25)) (v_iv (n_v vs 26)) (v_iv (n_v vs 30)) (v_iv (n_v vs 31)) (v_iv (n_v vs 32)) (v_iv (n_v vs 33)) (v_iv (n_v vs 34)) (w_ei ws (w_ar ws (n_v vs 0) 1)) (w_fi ws (n_v vs 0) 10) (w_ei ws (w_ar ws (n_v vs 0) 162)) (w_fi ws (n_v vs 0) 158) (w_ei ws (w_ar ws (n_v vs 0) 163)) (w_ei ws (w_ar ws (n_v vs 0) 160)) (w_fi ws (n_v vs 0) 8) k4 k8 k10 k11 k16 k17 k18 k19 k23 k24 k25 k26 k30 k31 k32 k33 k34 d0 d1 d2 d3 d4 (shm_40 f1) (shm_63 f2) (shm_64 f3) (shm_541 f4) (shm_542 f5) h7 g8 (shm_55 f13) (shm_56 f14) (shm_541 f15) (shm_542 f16) h18 (shm_87 f22) (shm_88 f23) (shm_541 f24) (shm_542 f25) h27 (shm_14 f30) h31 h32 kz_0_8 kz_0_10 kz_0_158)⟩
  refine ⟨(fun _ h => (by cases h)), [], trivial, ?_, (fun _ h => (by cases h))⟩
  rw [List.append_nil]
  exact List.forall_mem_cons.mpr ⟨⟨show (20 : Nat) < 100 from by decide, nf0⟩, List.forall_mem_cons.mpr ⟨⟨show (20 : Nat) < 100 from by decide, nf1⟩, (fun _ h => (by cases h))⟩⟩
set_option maxHeartbeats 4000000 in
theorem vc_Mo_word_at_s5029_9_0 (x2 : Int) (x4 : Int) (x5 : Int) (x6 : Int) (x8 : Int) (x10 : Int) (x11 : Int) (x12 : Int) (x14 : Int) (x15 : Int) (x16 : Int) (x17 : Int) (x18 : Int) (x19 : Int) (x21 : Int) (x22 : Int) (x23 : Int) (x24 : Int) (x25 : Int) (x26 : Int) (x28 : Int) (x29 : Int) (x30 : Int) (x31 : Int) (x32 : Int) (x33 : Int) (x35 : Int) (x36 : Int) (x37 : Int) (x38 : Int) (x39 : Int) (x40 : Int) (x41 : Int) (tape_0 : Int → Int) (limit_0 : Int) (tokenPlace_0 : Int → Int) (cur_0 : Int) (tokenEnd_0 : Int → Int) (tokenKind_0 : Int → Int) (fault_0 : Int) (k2 : 0 ≤ x2 ∧ x2 ≤ 0) (k4 : 0 ≤ x4 ∧ x4 ≤ 2009) (k5 : 1 ≤ x5 ∧ x5 ≤ 1) (k6 : 1 ≤ x6 ∧ x6 ≤ 1) (k8 : 4 ≤ x8 ∧ x8 ≤ 2000) (k10 : 0 ≤ x10 ∧ x10 ≤ 2000) (k11 : 4 ≤ x11 ∧ x11 ≤ 4) (k12 : 4 ≤ x12 ∧ x12 ≤ 4) (k14 : 0 ≤ x14 ∧ x14 ≤ 0) (k15 : 4 ≤ x15 ∧ x15 ≤ 4) (k16 : 0 ≤ x16 ∧ x16 ≤ 1999) (k17 : 0 ≤ x17 ∧ x17 ≤ 1999) (k18 : 0 ≤ x18 ∧ x18 ≤ 255) (k19 : 0 ≤ x19 ∧ x19 ≤ 255) (k21 : 1 ≤ x21 ∧ x21 ≤ 1) (k22 : 4 ≤ x22 ∧ x22 ≤ 4) (k23 : 0 ≤ x23 ∧ x23 ≤ 1998) (k24 : 1 ≤ x24 ∧ x24 ≤ 1999) (k25 : 0 ≤ x25 ∧ x25 ≤ 255) (k26 : 0 ≤ x26 ∧ x26 ≤ 255) (k28 : 2 ≤ x28 ∧ x28 ≤ 2) (k29 : 4 ≤ x29 ∧ x29 ≤ 4) (k30 : 0 ≤ x30 ∧ x30 ≤ 1997) (k31 : 2 ≤ x31 ∧ x31 ≤ 1999) (k32 : 0 ≤ x32 ∧ x32 ≤ 255) (k33 : 0 ≤ x33 ∧ x33 ≤ 255) (k35 : 3 ≤ x35 ∧ x35 ≤ 3) (k36 : 4 ≤ x36 ∧ x36 ≤ 4) (k37 : 0 ≤ x37 ∧ x37 ≤ 2000) (k38 : 3 ≤ x38 ∧ x38 ≤ 2003) (k39 : (-1) ≤ x39 ∧ x39 ≤ (-1)) (k40 : 0 ≤ x40 ∧ x40 ≤ 65535) (k41 : 0 ≤ x41 ∧ x41 ≤ 0) (d0 : x37 + 3 ≤ x38 ∧ x38 ≤ x37 + 3) (d1 : x33 + 0 ≤ x32 ∧ x32 ≤ x33 + 0) (d2 : x30 + 2 ≤ x31 ∧ x31 ≤ x30 + 2) (d3 : x26 + 0 ≤ x25 ∧ x25 ≤ x26 + 0) (d4 : x23 + 1 ≤ x24 ∧ x24 ≤ x23 + 1) (d5 : x19 + 0 ≤ x18 ∧ x18 ≤ x19 + 0) (d6 : x16 + 0 ≤ x17 ∧ x17 ≤ x16 + 0) (f0 : x39 ≠ x40) (f1 : 1 * x40 + 0 ≤ 101) (f2 : (-1) * x40 + 0 ≤ (-101)) (f3 : ((x38 + 1) ≤ limit_0) → (x39 = (tape_0 (x38) % 256))) (f4 : (limit_0 ≤ x38) → (x39 = (-1))) (f5 : x38 = x37 + x35) (h6 : x37 = tokenPlace_0 (x4)) (g7 : x4 = cur_0) (f9 : x35 < x36) (f10 : x35 = x28 + 1) (f11 : x32 = x33) (f12 : 1 * x33 + 0 ≤ 114) (f13 : (-1) * x33 + 0 ≤ (-114)) (f14 : ((x31 + 1) ≤ limit_0) → (x32 = (tape_0 (x31) % 256))) (f15 : (limit_0 ≤ x31) → (x32 = (-1))) (f16 : x31 = x30 + x28) (h17 : x30 = tokenPlace_0 (x4)) (f18 : x28 < x29) (f19 : x28 = x21 + 1) (f20 : x25 = x26) (f21 : 1 * x26 + 0 ≤ 111) (f22 : (-1) * x26 + 0 ≤ (-111)) (f23 : ((x24 + 1) ≤ limit_0) → (x25 = (tape_0 (x24) % 256))) (f24 : (limit_0 ≤ x24) → (x25 = (-1))) (f25 : x24 = x23 + x21) (h26 : x23 = tokenPlace_0 (x4)) (f27 : x21 < x22) (f28 : x21 = x14 + 1) (f29 : x18 = x19) (f30 : 1 * x19 + 0 ≤ 99) (f31 : (-1) * x19 + 0 ≤ (-99)) (f32 : ((x17 + 1) ≤ limit_0) → (x18 = (tape_0 (x17) % 256))) (f33 : (limit_0 ≤ x17) → (x18 = (-1))) (f34 : x17 = x16 + x14) (h35 : x16 = tokenPlace_0 (x4)) (f36 : x14 < x15) (f37 : x11 = x12) (f38 : x11 = x8 - x10) (h39 : x10 = tokenPlace_0 (x4)) (h40 : x8 = tokenEnd_0 (x4)) (f42 : x5 = x6) (h43 : x5 = tokenKind_0 (x4)) (f45 : x2 = 0) (g46 : x2 = fault_0) (hK_0_1 : ∀ j : Int, 0 ≤ j → j < 2000 → (-128) ≤ tape_0 j ∧ tape_0 j ≤ 127) (hK_0_160 : ∀ j : Int, 0 ≤ j → j < 2010 → 0 ≤ tokenKind_0 j ∧ tokenKind_0 j ≤ 4) (hK_0_162 : ∀ j : Int, 0 ≤ j → j < 2010 → 0 ≤ tokenPlace_0 j ∧ tokenPlace_0 j ≤ 2000) (hK_0_163 : ∀ j : Int, 0 ≤ j → j < 2010 → 0 ≤ tokenEnd_0 j ∧ tokenEnd_0 j ≤ 2000) (kz_0_8 : 0 ≤ fault_0 ∧ fault_0 ≤ 5) (kz_0_10 : 0 ≤ limit_0 ∧ limit_0 ≤ 2000) (kz_0_158 : 0 ≤ cur_0 ∧ cur_0 ≤ 2009) : (x41 = 1) → (tokenKind_0 (cur_0) = 1) := by
  first | assumption | (clear f3 f4 f14 f15 f23 f24 f32 f33 hK_0_1 hK_0_160 hK_0_162 hK_0_163; omega) | (clear hK_0_1 hK_0_160 hK_0_162 hK_0_163; grind) | omega | grind
set_option maxHeartbeats 4000000 in
theorem vc_Mo_word_at_s5029_9_1 (x4 : Int) (x8 : Int) (x10 : Int) (x11 : Int) (x16 : Int) (x17 : Int) (x18 : Int) (x19 : Int) (x23 : Int) (x24 : Int) (x25 : Int) (x26 : Int) (x30 : Int) (x31 : Int) (x32 : Int) (x33 : Int) (x37 : Int) (x38 : Int) (x39 : Int) (x41 : Int) (tape_0 : Int → Int) (limit_0 : Int) (tokenPlace_0 : Int → Int) (cur_0 : Int) (tokenEnd_0 : Int → Int) (tokenKind_0 : Int → Int) (fault_0 : Int) (k4 : 0 ≤ x4 ∧ x4 ≤ 2009) (k8 : 4 ≤ x8 ∧ x8 ≤ 2000) (k10 : 0 ≤ x10 ∧ x10 ≤ 2000) (k11 : 4 ≤ x11 ∧ x11 ≤ 4) (k16 : 0 ≤ x16 ∧ x16 ≤ 1999) (k17 : 0 ≤ x17 ∧ x17 ≤ 1999) (k18 : 0 ≤ x18 ∧ x18 ≤ 255) (k19 : 0 ≤ x19 ∧ x19 ≤ 255) (k23 : 0 ≤ x23 ∧ x23 ≤ 1998) (k24 : 1 ≤ x24 ∧ x24 ≤ 1999) (k25 : 0 ≤ x25 ∧ x25 ≤ 255) (k26 : 0 ≤ x26 ∧ x26 ≤ 255) (k30 : 0 ≤ x30 ∧ x30 ≤ 1997) (k31 : 2 ≤ x31 ∧ x31 ≤ 1999) (k32 : 0 ≤ x32 ∧ x32 ≤ 255) (k33 : 0 ≤ x33 ∧ x33 ≤ 255) (k37 : 0 ≤ x37 ∧ x37 ≤ 2000) (k38 : 3 ≤ x38 ∧ x38 ≤ 2003) (k39 : (-1) ≤ x39 ∧ x39 ≤ (-1)) (k41 : 0 ≤ x41 ∧ x41 ≤ 0) (d0 : x37 + 3 ≤ x38 ∧ x38 ≤ x37 + 3) (d1 : x33 + 0 ≤ x32 ∧ x32 ≤ x33 + 0) (d2 : x30 + 2 ≤ x31 ∧ x31 ≤ x30 + 2) (d3 : x26 + 0 ≤ x25 ∧ x25 ≤ x26 + 0) (d4 : x23 + 1 ≤ x24 ∧ x24 ≤ x23 + 1) (d5 : x19 + 0 ≤ x18 ∧ x18 ≤ x19 + 0) (d6 : x16 + 0 ≤ x17 ∧ x17 ≤ x16 + 0) (f3 : ((x38 + 1) ≤ limit_0) → (x39 = (tape_0 (x38) % 256))) (f4 : (limit_0 ≤ x38) → (x39 = (-1))) (h6 : x37 = tokenPlace_0 (x4)) (g7 : x4 = cur_0) (f12 : 1 * x33 + 0 ≤ 114) (f13 : (-1) * x33 + 0 ≤ (-114)) (f14 : ((x31 + 1) ≤ limit_0) → (x32 = (tape_0 (x31) % 256))) (f15 : (limit_0 ≤ x31) → (x32 = (-1))) (h17 : x30 = tokenPlace_0 (x4)) (f21 : 1 * x26 + 0 ≤ 111) (f22 : (-1) * x26 + 0 ≤ (-111)) (f23 : ((x24 + 1) ≤ limit_0) → (x25 = (tape_0 (x24) % 256))) (f24 : (limit_0 ≤ x24) → (x25 = (-1))) (h26 : x23 = tokenPlace_0 (x4)) (f30 : 1 * x19 + 0 ≤ 99) (f31 : (-1) * x19 + 0 ≤ (-99)) (f32 : ((x17 + 1) ≤ limit_0) → (x18 = (tape_0 (x17) % 256))) (f33 : (limit_0 ≤ x17) → (x18 = (-1))) (h35 : x16 = tokenPlace_0 (x4)) (f38 : x11 = x8 - x10) (h39 : x10 = tokenPlace_0 (x4)) (h40 : x8 = tokenEnd_0 (x4)) (kz_0_8 : 0 ≤ fault_0 ∧ fault_0 ≤ 5) (kz_0_10 : 0 ≤ limit_0 ∧ limit_0 ≤ 2000) (kz_0_158 : 0 ≤ cur_0 ∧ cur_0 ≤ 2009) : Wqcore (fault_0) (cur_0) (limit_0) (tokenKind_0) (tokenPlace_0) (tokenEnd_0) (tape_0) (x41) := by
  first
    | exact ⟨fun z => by omega, fun z => by have := z.1; omega⟩
    | (have e := (‹x4 = cur_0›)
       rw [← e]
       refine ⟨fun z => ⟨by omega, wdS4.2 ⟨by omega, by omega, by omega, by rw [show tokenPlace_0 x4 + 0 = x17 by omega]; omega, by rw [show tokenPlace_0 x4 + 1 = x24 by omega]; omega, by rw [show tokenPlace_0 x4 + 2 = x31 by omega]; omega, by rw [show tokenPlace_0 x4 + 3 = x38 by omega]; omega⟩⟩, fun z => by omega⟩)
    | (have e := (‹x4 = cur_0›)
       rw [← e]
       refine ⟨fun z => by omega, fun z => ?_⟩
       have w := wdS4.1 z.2
       try (have q0 : tokenPlace_0 x4 + 0 = x17 := (by omega); rw [q0] at w)
       try (have q1 : tokenPlace_0 x4 + 1 = x24 := (by omega); rw [q1] at w)
       try (have q2 : tokenPlace_0 x4 + 2 = x31 := (by omega); rw [q2] at w)
       try (have q3 : tokenPlace_0 x4 + 3 = x38 := (by omega); rw [q3] at w)
       omega)
  
def o_Mo_word_at_s5029_9 : or_T := (102, 44, [(0, (2, 0, 0, [165])), (2, (0, 0, 0, [])), (3, (2, 0, 0, [274])), (4, (0, 0, 2009, [])), (5, (0, 1, 1, [])), (6, (0, 1, 1, [])), (7, (2, 0, 0, [277])), (8, (0, 4, 2000, [])), (9, (2, 0, 0, [276])), (10, (0, 0, 2000, [])), (11, (0, 4, 4, [])), (12, (0, 4, 4, [])), (14, (0, 0, 0, [])), (15, (0, 4, 4, [])), (16, (0, 0, 1999, [])), (17, (0, 0, 1999, [])), (18, (0, 0, 255, [])), (19, (0, 0, 255, [])), (21, (0, 1, 1, [])), (22, (0, 4, 4, [])), (23, (0, 0, 1998, [])), (24, (0, 1, 1999, [])), (25, (0, 0, 255, [])), (26, (0, 0, 255, [])), (28, (0, 2, 2, [])), (29, (0, 4, 4, [])), (30, (0, 0, 1997, [])), (31, (0, 2, 1999, [])), (32, (0, 0, 255, [])), (33, (0, 0, 255, [])), (35, (0, 3, 3, [])), (36, (0, 4, 4, [])), (37, (0, 0, 2000, [])), (38, (0, 3, 2003, [])), (39, (0, -1, -1, [])), (40, (0, 0, 65535, [])), (41, (0, 0, 0, []))], [(7, [39, 40], [1]), (23, [40], [101, 1]), (23, [40], [-101, -1]), (20, [38, 0, 39], [50, 1, 1, 1010, 1001, 4, 11, 0, 6, 4, 2, 1, 0, 0, 1, 2, 1, 10, 1, 2, 1, 2, 9, 5, 3, 1, 1, 1, 0, 0, 256]), (20, [0, 38, 39], [50, 1, 0, 10, 4, 7, 0, 3, 2, 0, 10, 1, 1, 1, 2, 1, 2, 0, -1]), (1, [38, 37, 35], []), (10, [37, 9, 4], []), (9, [4, 0], [158]), (9, [9, 0], [162]), (7, [35, 36], [2]), (6, [35, 28], [1]), (7, [32, 33], [0]), (23, [33], [114, 1]), (23, [33], [-114, -1]), (20, [31, 0, 32], [50, 1, 1, 1010, 1001, 4, 11, 0, 6, 4, 2, 1, 0, 0, 1, 2, 1, 10, 1, 2, 1, 2, 9, 5, 3, 1, 1, 1, 0, 0, 256]), (20, [0, 31, 32], [50, 1, 0, 10, 4, 7, 0, 3, 2, 0, 10, 1, 1, 1, 2, 1, 2, 0, -1]), (1, [31, 30, 28], []), (10, [30, 9, 4], []), (7, [28, 29], [2]), (6, [28, 21], [1]), (7, [25, 26], [0]), (23, [26], [111, 1]), (23, [26], [-111, -1]), (20, [24, 0, 25], [50, 1, 1, 1010, 1001, 4, 11, 0, 6, 4, 2, 1, 0, 0, 1, 2, 1, 10, 1, 2, 1, 2, 9, 5, 3, 1, 1, 1, 0, 0, 256]), (20, [0, 24, 25], [50, 1, 0, 10, 4, 7, 0, 3, 2, 0, 10, 1, 1, 1, 2, 1, 2, 0, -1]), (1, [24, 23, 21], []), (10, [23, 9, 4], []), (7, [21, 22], [2]), (6, [21, 14], [1]), (7, [18, 19], [0]), (23, [19], [99, 1]), (23, [19], [-99, -1]), (20, [17, 0, 18], [50, 1, 1, 1010, 1001, 4, 11, 0, 6, 4, 2, 1, 0, 0, 1, 2, 1, 10, 1, 2, 1, 2, 9, 5, 3, 1, 1, 1, 0, 0, 256]), (20, [0, 17, 18], [50, 1, 0, 10, 4, 7, 0, 3, 2, 0, 10, 1, 1, 1, 2, 1, 2, 0, -1]), (1, [17, 16, 14], []), (10, [16, 9, 4], []), (7, [14, 15], [2]), (7, [11, 12], [0]), (2, [11, 8, 10], []), (10, [10, 9, 4], []), (10, [8, 7, 4], []), (9, [7, 0], [163]), (7, [5, 6], [0]), (10, [5, 3, 4], []), (9, [3, 0], [160]), (8, [2], [0]), (9, [2, 0], [8])], [], [], [(20, [41, 0], [50, 1, 1, 1158, 1160, 4, 6, 1, 2, 1, 0, 0, 1, 1, 6, 3, 1, 160, 2, 1, 158, 0, 1]), (20, [0, 41], [60, 3, 4, 34, 8, 158, 10, 160, 162, 163, 1])], [], [(38, 37, 3, 3), (32, 33, 0, 0), (31, 30, 2, 2), (25, 26, 0, 0), (24, 23, 1, 1), (18, 19, 0, 0), (17, 16, 0, 0)])
theorem oo_Mo_word_at_s5029_9 {kA : Nat → ClassId} : or_ok PRD kA GG o_Mo_word_at_s5029_9 := by
  refine or_mk fun A ta ws vs hD hth hl => ?_
  intro t0 r0 t2 k2 t3 r3 t4 k4 t5 k5 t6 k6 t7 r7 t8 k8 t9 r9 t10 k10 t11 k11 t12 k12 t14 k14 t15 k15 t16 k16 t17 k17 t18 k18 t19 k19 t21 k21 t22 k22 t23 k23 t24 k24 t25 k25 t26 k26 t28 k28 t29 k29 t30 k30 t31 k31 t32 k32 t33 k33 t35 k35 t36 k36 t37 k37 t38 k38 t39 k39 t40 k40 t41 k41 d0 d1 d2 d3 d4 d5 d6 f0 f1 f2 f3 f4 f5 f6 f7 f8 f9 f10 f11 f12 f13 f14 f15 f16 f17 f18 f19 f20 f21 f22 f23 f24 f25 f26 f27 f28 f29 f30 f31 f32 f33 f34 f35 f36 f37 f38 f39 f40 f41 f42 f43 f44 f45 f46
  replace f6 := shm_107 f6
  replace f7 := shm_286 f7
  replace f8 := shm_301 f8
  replace f17 := shm_107 f17
  replace f26 := shm_107 f26
  replace f35 := shm_107 f35
  replace f39 := shm_107 f39
  replace f40 := shm_107 f40
  replace f41 := shm_1332 f41
  replace f43 := shm_107 f43
  replace f44 := shm_327 f44
  replace f46 := shm_293 f46
  have cr_0_1 := fdq_39 hD hth r0
  have cr_0_160 := fdq_33 hD hth r0
  have cr_0_162 := fdq_41 hD hth r0
  have cr_0_163 := fdq_42 hD hth r0
  have ad_9 : v_ad (n_v vs 9) = w_ar ws (n_v vs 0) 162 := congrArg v_ad f8
  have ad_7 : v_ad (n_v vs 7) = w_ar ws (n_v vs 0) 163 := congrArg v_ad f41
  have ad_3 : v_ad (n_v vs 3) = w_ar ws (n_v vs 0) 160 := congrArg v_ad f44
  simp only [ad_9] at f6
  have h6 : v_iv (n_v vs 37) = w_ei ws (w_ar ws (n_v vs 0) 162) (v_iv (n_v vs 4)) := f6
  have g7 : v_iv (n_v vs 4) = w_fi ws (n_v vs 0) 158 := congrArg v_iv f7
  simp only [ad_9] at f17
  have h17 : v_iv (n_v vs 30) = w_ei ws (w_ar ws (n_v vs 0) 162) (v_iv (n_v vs 4)) := f17
  simp only [ad_9] at f26
  have h26 : v_iv (n_v vs 23) = w_ei ws (w_ar ws (n_v vs 0) 162) (v_iv (n_v vs 4)) := f26
  simp only [ad_9] at f35
  have h35 : v_iv (n_v vs 16) = w_ei ws (w_ar ws (n_v vs 0) 162) (v_iv (n_v vs 4)) := f35
  simp only [ad_9] at f39
  have h39 : v_iv (n_v vs 10) = w_ei ws (w_ar ws (n_v vs 0) 162) (v_iv (n_v vs 4)) := f39
  simp only [ad_7] at f40
  have h40 : v_iv (n_v vs 8) = w_ei ws (w_ar ws (n_v vs 0) 163) (v_iv (n_v vs 4)) := f40
  simp only [ad_3] at f43
  have h43 : v_iv (n_v vs 5) = w_ei ws (w_ar ws (n_v vs 0) 160) (v_iv (n_v vs 4)) := f43
  have g46 : v_iv (n_v vs 2) = w_fi ws (n_v vs 0) 8 := congrArg v_iv f46
  have hK_0_1 := elq_7 hD hth cr_0_1
  have hK_0_160 := elq_6 hD hth cr_0_160
  have hK_0_162 := elq_8 hD hth cr_0_162
  have hK_0_163 := elq_9 hD hth cr_0_163
  have kz_0_8 := fdq_34 hD hth r0
  have kz_0_10 := fdq_43 hD hth r0
  have kz_0_158 := fdq_36 hD hth r0
  have nf0 : fc_1 PRD (20, [41, 0], [50, 1, 1, 1158, 1160, 4, 6, 1, 2, 1, 0, 0, 1, 1, 6, 3, 1, 160, 2, 1, 158, 0, 1]) ws (vs) := ⟨nf_in hl rfl, sgq_287 (vc_Mo_word_at_s5029_9_0 (v_iv (n_v vs 2)) (v_iv (n_v vs 4)) (v_iv (n_v vs 5)) (v_iv (n_v vs 6)) (v_iv (n_v vs 8)) (v_iv (n_v vs 10)) (v_iv (n_v vs 11)) (v_iv (n_v vs 12)) (v_iv (n_v vs 14)) (v_iv (n_v vs 15)) (v_iv (n_v vs 16)) (v_iv (n_v vs 17)) (v_iv (n_v vs 18)) (v_iv (n_v vs 19)) (v_iv (n_v vs 21)) (v_iv (n_v vs 22)) (v_iv (n_v vs 23)) (v_iv (n_v vs 24)) (v_iv (n_v vs 25)) (v_iv (n_v vs 26)) (v_iv (n_v vs 28)) (v_iv (n_v vs 29)) (v_iv (n_v vs 30)) (v_iv (n_v vs 31)) (v_iv (n_v vs 32)) (v_iv (n_v vs 33)) (v_iv (n_v vs 35)) (v_iv (n_v vs 36)) (v_iv (n_v vs 37)) (v_iv (n_v vs 38)) (v_iv (n_v vs 39)) (v_iv (n_v vs 40)) (v_iv (n_v vs 41)) (w_ei ws (w_ar ws (n_v vs 0) 1)) (w_fi ws (n_v vs 0) 10) (w_ei ws (w_ar ws (n_v vs 0) 162)) (w_fi ws (n_v vs 0) 158) (w_ei ws (w_ar ws (n_v vs 0) 163)) (w_ei ws (w_ar ws (n_v vs 0) 160)) (w_fi ws (n_v vs 0) 8) k2 k4 k5 k6 k8 k10 k11 k12 k14 k15 k16 k17 k18 k19 k21 k22 k23 k24 k25 k26 k28 k29 k30 k31 k32 k33 k35 k36 k37 k38 k39 k40 k41 d0 d1 d2 d3 d4 d5 d6 (shm_40 f0) (shm_59 f1) (shm_60 f2) (shm_541 f3) (shm_542 f4) (shm_12 f5) h6 g7 (shm_6 f9) (shm_4 f10) (shm_37 f11) (shm_63 f12) (shm_64 f13) (shm_541 f14) (shm_542 f15) (shm_12 f16) h17 (shm_6 f18) (shm_4 f19) (shm_37 f20) (shm_55 f21) (shm_56 f22) (shm_541 f23) (shm_542 f24) (shm_12 f25) h26 (shm_6 f27) (shm_4 f28) (shm_37 f29) (shm_87 f30) (shm_88 f31) (shm_541 f32) (shm_542 f33) (shm_12 f34) h35 (shm_6 f36) (shm_37 f37) (shm_14 f38) h39 h40 (shm_37 f42) h43 (shm_192 f45) g46 hK_0_1 hK_0_160 hK_0_162 hK_0_163 kz_0_8 kz_0_10 kz_0_158)⟩
  have nf1 : fc_1 PRD (20, [0, 41], [60, 3, 4, 34, 8, 158, 10, 160, 162, 163, 1]) ws (vs) := ⟨nf_in hl rfl, sgq_1873 (vc_Mo_word_at_s5029_9_1 (v_iv (n_v vs 4)) (v_iv (n_v vs 8)) (v_iv (n_v vs 10)) (v_iv (n_v vs 11)) (v_iv (n_v vs 16)) (v_iv (n_v vs 17)) (v_iv (n_v vs 18)) (v_iv (n_v vs 19)) (v_iv (n_v vs 23)) (v_iv (n_v vs 24)) (v_iv (n_v vs 25)) (v_iv (n_v vs 26)) (v_iv (n_v vs 30)) (v_iv (n_v vs 31)) (v_iv (n_v vs 32)) (v_iv (n_v vs 33)) (v_iv (n_v vs 37)) (v_iv (n_v vs 38)) (v_iv (n_v vs 39)) (v_iv (n_v vs 41)) (w_ei ws (w_ar ws (n_v vs 0) 1)) (w_fi ws (n_v vs 0) 10) (w_ei ws (w_ar ws (n_v vs 0) 162)) (w_fi ws (n_v vs 0) 158) (w_ei ws (w_ar ws (n_v vs 0) 163)) (w_ei ws (w_ar ws (n_v vs 0) 160)) (w_fi ws (n_v vs 0) 8) k4 k8 k10 k11 k16 k17 k18 k19 k23 k24 k25 k26 k30 k31 k32 k33 k37 k38 k39 k41 d0 d1 d2 d3 d4 d5 d6 (shm_541 f3) (shm_542 f4) h6 g7 (shm_63 f12) (shm_64 f13) (shm_541 f14) (shm_542 f15) h17 (shm_55 f21) (shm_56 f22) (shm_541 f23) (shm_542 f24) h26 (shm_87 f30) (shm_88 f31) (shm_541 f32) (shm_542 f33) h35 (shm_14 f38) h39 h40 kz_0_8 kz_0_10 kz_0_158)⟩
  refine ⟨(fun _ h => (by cases h)), [], trivial, ?_, (fun _ h => (by cases h))⟩
  rw [List.append_nil]
  exact List.forall_mem_cons.mpr ⟨⟨show (20 : Nat) < 100 from by decide, nf0⟩, List.forall_mem_cons.mpr ⟨⟨show (20 : Nat) < 100 from by decide, nf1⟩, (fun _ h => (by cases h))⟩⟩
