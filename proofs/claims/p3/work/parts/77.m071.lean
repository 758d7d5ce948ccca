section

set_option maxHeartbeats 4000000 in
theorem vc_Sy_compileTest_at_k11_2_0 (kind_0 : Int) (number_0 : Int) (f0 : (kind_0 ≠ 3) ∨ (number_0 ≤ 9999)) (kz_0_6 : 0 ≤ kind_0 ∧ kind_0 ≤ 127) (kz_0_8 : 0 ≤ number_0 ∧ number_0 ≤ 1000000) : (kind_0 ≠ 3) ∨ (number_0 ≤ 9999) := by
  first
    | omega
  
def o_Sy_compileTest_at_k11_2 : or_T := (56, 11, [(0, (2, 0, 0, [11]))], [(20, [3], [50, 2, 0, 6, 8, 3, 7, 7, 3, 2, 0, 6, 0, 3, 0, 3, 2, 0, 8, 0, 9999]), (24, [0, 3], [])], [], [], [(20, [0], [50, 2, 0, 6, 8, 3, 7, 7, 3, 2, 0, 6, 0, 3, 0, 3, 2, 0, 8, 0, 9999])], [], [])
theorem oo_Sy_compileTest_at_k11_2 {kA : Nat → ClassId} : or_ok PRD kA GG o_Sy_compileTest_at_k11_2 := by
  refine or_mk fun A ta ws vs hD hth hl => ?_
  intro t0 r0 f0 f1
  replace f0 := shm_1840 f0
  replace f1 := shm_5 f1
  have q3 : n_v vs 3 = n_v vs 0 := f1.symm
  simp only [q3] at f0
  have kz_0_6 := fdq_313 hD hth r0
  have kz_0_8 := fdq_314 hD hth r0
  have nf0 : fc_1 PRD (20, [0], [50, 2, 0, 6, 8, 3, 7, 7, 3, 2, 0, 6, 0, 3, 0, 3, 2, 0, 8, 0, 9999]) ws (vs) := ⟨nf_in hl rfl, sgq_1840 (vc_Sy_compileTest_at_k11_2_0 (w_fi ws (n_v vs 0) 6) (w_fi ws (n_v vs 0) 8) f0 kz_0_6 kz_0_8)⟩
  refine ⟨(fun _ h => (by cases h)), [], trivial, ?_, (fun _ h => (by cases h))⟩
  rw [List.append_nil]
  exact List.forall_mem_cons.mpr ⟨⟨show (20 : Nat) < 100 from by decide, nf0⟩, (fun _ h => (by cases h))⟩
set_option maxHeartbeats 4000000 in
theorem vc_Sy_compileTest_at_k11_3_0 (x11 : Int) (x12 : Int) (k11 : 10 ≤ x11 ∧ x11 ≤ 10) (k12 : 0 ≤ x12 ∧ x12 ≤ 0) : (0 ≤ x11) ∧ ((0 ≤ x12) ∧ (((x11 * 65536) + x12) ≤ 851970)) := by
  first
    | omega
  
def o_Sy_compileTest_at_k11_3 : or_T := (46, 13, [(11, (0, 10, 10, [])), (12, (0, 0, 0, []))], [], [], [], [(20, [11, 12], [50, 0, 0, 2, 6, 0, 2, 0, 0, 1, 0, 2, 6, 0, 2, 0, 0, 1, 1, 0, 10, 4, 6, 6, 2, 1, 0, 0, 65536, 1, 1, 0, 851970])], [], [])
theorem oo_Sy_compileTest_at_k11_3 {kA : Nat → ClassId} : or_ok PRD kA GG o_Sy_compileTest_at_k11_3 := by
  refine or_mk fun A ta ws vs hD hth hl => ?_
  intro t11 k11 t12 k12
  have nf0 : fc_1 PRD (20, [11, 12], [50, 0, 0, 2, 6, 0, 2, 0, 0, 1, 0, 2, 6, 0, 2, 0, 0, 1, 1, 0, 10, 4, 6, 6, 2, 1, 0, 0, 65536, 1, 1, 0, 851970]) ws (vs) := ⟨nf_in hl rfl, sgq_493 (vc_Sy_compileTest_at_k11_3_0 (v_iv (n_v vs 11)) (v_iv (n_v vs 12)) k11 k12)⟩
  refine ⟨(fun _ h => (by cases h)), [], trivial, ?_, (fun _ h => (by cases h))⟩
  rw [List.append_nil]
  exact List.forall_mem_cons.mpr ⟨⟨show (20 : Nat) < 100 from by decide, nf0⟩, (fun _ h => (by cases h))⟩
set_option maxHeartbeats 4000000 in
theorem vc_Sy_compileTest_at_k11_4_0 (kind_0 : Int) (number_0 : Int) (f1 : (kind_0 ≠ 3) ∨ (number_0 ≤ 9999)) (kz_0_6 : 0 ≤ kind_0 ∧ kind_0 ≤ 127) (kz_0_8 : 0 ≤ number_0 ∧ number_0 ≤ 1000000) : (kind_0 ≠ 3) ∨ (number_0 ≤ 9999) := by
  first
    | omega
  
def o_Sy_compileTest_at_k11_4 : or_T := (41, 12, [(0, (2, 0, 0, [11]))], [(24, [0, 3], []), (20, [3], [50, 2, 0, 6, 8, 3, 7, 7, 3, 2, 0, 6, 0, 3, 0, 3, 2, 0, 8, 0, 9999])], [], [], [(20, [0], [50, 2, 0, 6, 8, 3, 7, 7, 3, 2, 0, 6, 0, 3, 0, 3, 2, 0, 8, 0, 9999])], [], [])
theorem oo_Sy_compileTest_at_k11_4 {kA : Nat → ClassId} : or_ok PRD kA GG o_Sy_compileTest_at_k11_4 := by
  refine or_mk fun A ta ws vs hD hth hl => ?_
  intro t0 r0 f0 f1
  replace f0 := shm_5 f0
  replace f1 := shm_1840 f1
  have q3 : n_v vs 3 = n_v vs 0 := f0.symm
  simp only [q3] at f1
  have kz_0_6 := fdq_313 hD hth r0
  have kz_0_8 := fdq_314 hD hth r0
  have nf0 : fc_1 PRD (20, [0], [50, 2, 0, 6, 8, 3, 7, 7, 3, 2, 0, 6, 0, 3, 0, 3, 2, 0, 8, 0, 9999]) ws (vs) := ⟨nf_in hl rfl, sgq_1840 (vc_Sy_compileTest_at_k11_4_0 (w_fi ws (n_v vs 0) 6) (w_fi ws (n_v vs 0) 8) f1 kz_0_6 kz_0_8)⟩
  refine ⟨(fun _ h => (by cases h)), [], trivial, ?_, (fun _ h => (by cases h))⟩
  rw [List.append_nil]
  exact List.forall_mem_cons.mpr ⟨⟨show (20 : Nat) < 100 from by decide, nf0⟩, (fun _ h => (by cases h))⟩
def n_Sy_compileTest_at_k11_an : List an_T := [(12, [(0, (2, 0, 0, [11])), (1, (0, 11, 11, [])), (2, (0, 0, 2000, []))], [], (0, 0), [(0, 0, 99988), (1, 5, 2000), (0, 0, 100000)], [], [((0, 3), (2, 0, 0, [109]))], [(2, 0, 0, [11]), (0, 11, 11, []), (2, 0, 0, [109])], 0, [], [(20, [3], [50, 2, 0, 6, 8, 3, 7, 7, 3, 2, 0, 6, 0, 3, 0, 3, 2, 0, 8, 0, 9999]), (24, [0, 3], [])])]
def t_Sy_compileTest_at_k11_ct : ct_L := [(1, 69, e_Sy_advance), (1, 128, e_Sy_emit), (10, 140, e_Sy_compileBoth_at_k11), (70, 114, e_Sy_wordIn_at_s5011), (106, 140, e_Sy_compileBoth_at_k11), (1000000, 143, en_ro [] (2, 0, 0, [5011]))]
set_option maxRecDepth 100000 in
theorem c_Sy_compileTest_at_k11 {l : Launch} {D : va_G} {kA : Nat → ClassId} (h_Sy_advance : ct_ok PRD l D kA GG y_Sy_advance z_Sy_advance e_Sy_advance) (h_Sy_compileBoth_at_k11 : ct_ok PRD l D kA GG y_Sy_compileBoth_at_k11 z_Sy_compileBoth_at_k11 e_Sy_compileBoth_at_k11) (h_Sy_emit : ct_ok PRD l D kA GG y_Sy_emit z_Sy_emit e_Sy_emit) (h_Sy_wordIn_at_s5011 : ct_ok PRD l D kA GG y_Sy_wordIn_at_s5011 z_Sy_wordIn_at_s5011 e_Sy_wordIn_at_s5011) : ct_ok PRD l D kA GG y_Sy_compileTest_at_k11 z_Sy_compileTest_at_k11 e_Sy_compileTest_at_k11 := chk_all_ok (FT := []) (PT := []) (CT := t_Sy_compileTest_at_k11_ct) (KT := []) (NT := []) (AN := n_Sy_compileTest_at_k11_an) (OT := [o_Sy_compileTest_at_k11_0, o_Sy_compileTest_at_k11_1, o_Sy_compileTest_at_k11_2, o_Sy_compileTest_at_k11_3, o_Sy_compileTest_at_k11_4]) 3 200 (List.forall_mem_cons.mpr ⟨oo_Sy_compileTest_at_k11_0, List.forall_mem_cons.mpr ⟨oo_Sy_compileTest_at_k11_1, List.forall_mem_cons.mpr ⟨oo_Sy_compileTest_at_k11_2, List.forall_mem_cons.mpr ⟨oo_Sy_compileTest_at_k11_3, List.forall_mem_cons.mpr ⟨oo_Sy_compileTest_at_k11_4, List.forall_mem_nil _⟩⟩⟩⟩⟩) (by decide +kernel) ⟨List.forall_mem_nil _, List.forall_mem_nil _, List.forall_mem_cons.mpr ⟨cl_virtual (y := y_Sy_advance) (ci := 11) rfl rfl ⟨_, _, rfl⟩ (by decide +kernel) h_Sy_advance wm_2158 wm_23 wm_2155 wm_2157 wv_10_10 ⟨by decide, by decide, by decide +kernel⟩ (by decide), List.forall_mem_cons.mpr ⟨cl_virtual (y := y_Sy_emit) (ci := 11) rfl rfl ⟨_, _, rfl⟩ (by decide +kernel) h_Sy_emit wm_2258 wm_23 wm_2255 wm_2257 wv_11_2 ⟨by decide, by decide, by decide +kernel⟩ (by decide), List.forall_mem_cons.mpr ⟨cl_virtual (y := y_Sy_compileBoth_at_k11) (ci := 11) rfl rfl ⟨_, _, rfl⟩ (by decide +kernel) h_Sy_compileBoth_at_k11 wm_2249 wm_23 wm_2246 wm_2248 wv_11_0 ⟨by decide, by decide, by decide +kernel⟩ (by decide), List.forall_mem_cons.mpr ⟨cl_virtual (y := y_Sy_wordIn_at_s5011) (ci := 11) rfl rfl ⟨_, _, rfl⟩ (by decide +kernel) h_Sy_wordIn_at_s5011 wm_2229 wm_23 wm_2226 wm_2228 wv_10_12 ⟨by decide, by decide, by decide +kernel⟩ (by decide), List.forall_mem_cons.mpr ⟨cl_virtual (y := y_Sy_compileBoth_at_k11) (ci := 11) rfl rfl ⟨_, _, rfl⟩ (by decide +kernel) h_Sy_compileBoth_at_k11 wm_2249 wm_23 wm_2246 wm_2248 wv_11_0 ⟨by decide, by decide, by decide +kernel⟩ (by decide), List.forall_mem_cons.mpr ⟨cl_ldc (own := "DrawingHouse$Styler") (idx := 143) (i := 11) (tx := "or ") (by decide +kernel) (by decide +kernel) (by decide +kernel), List.forall_mem_nil _⟩⟩⟩⟩⟩⟩, List.forall_mem_nil _, List.forall_mem_nil _, GG_pl⟩ (by decide +kernel)
def o_Sy_compileTest_at_k12_0 : or_T := (12, 5, [], [], [], [], [(24, [0, 0], [])], [], [])
theorem oo_Sy_compileTest_at_k12_0 {kA : Nat → ClassId} : or_ok PRD kA GG o_Sy_compileTest_at_k12_0 := by
  refine or_mk fun A ta ws vs hD hth hl => ?_
  have nf0 : fc_1 PRD (24, [0, 0], []) ws (vs) := by
    refine ⟨nf_in hl rfl, sgq_1 ?_⟩
    · show n_v vs 0 = n_v vs 0
      first | rfl | simp only [true_and]
  refine ⟨(fun _ h => (by cases h)), [], trivial, ?_, (fun _ h => (by cases h))⟩
  rw [List.append_nil]
  exact List.forall_mem_cons.mpr ⟨⟨show (24 : Nat) < 100 from by decide, nf0⟩, (fun _ h => (by cases h))⟩
set_option maxHeartbeats 4000000 in
theorem vc_Sy_compileTest_at_k12_1_0 (kind_0 : Int) (number_0 : Int) (f0 : (kind_0 ≠ 3) ∨ (number_0 ≤ 9999)) (kz_0_6 : 0 ≤ kind_0 ∧ kind_0 ≤ 127) (kz_0_8 : 0 ≤ number_0 ∧ number_0 ≤ 1000000) : (kind_0 ≠ 3) ∨ (number_0 ≤ 9999) := by
  first
    | omega
  
def o_Sy_compileTest_at_k12_1 : or_T := (56, 9, [(0, (2, 0, 0, [11]))], [(20, [3], [50, 2, 0, 6, 8, 3, 7, 7, 3, 2, 0, 6, 0, 3, 0, 3, 2, 0, 8, 0, 9999]), (24, [0, 3], [])], [], [], [(20, [0], [50, 2, 0, 6, 8, 3, 7, 7, 3, 2, 0, 6, 0, 3, 0, 3, 2, 0, 8, 0, 9999])], [], [])
theorem oo_Sy_compileTest_at_k12_1 {kA : Nat → ClassId} : or_ok PRD kA GG o_Sy_compileTest_at_k12_1 := by
  refine or_mk fun A ta ws vs hD hth hl => ?_
  intro t0 r0 f0 f1
  replace f0 := shm_1840 f0
  replace f1 := shm_5 f1
  have q3 : n_v vs 3 = n_v vs 0 := f1.symm
  simp only [q3] at f0
  have kz_0_6 := fdq_313 hD hth r0
  have kz_0_8 := fdq_314 hD hth r0
  have nf0 : fc_1 PRD (20, [0], [50, 2, 0, 6, 8, 3, 7, 7, 3, 2, 0, 6, 0, 3, 0, 3, 2, 0, 8, 0, 9999]) ws (vs) := ⟨nf_in hl rfl, sgq_1840 (vc_Sy_compileTest_at_k12_1_0 (w_fi ws (n_v vs 0) 6) (w_fi ws (n_v vs 0) 8) f0 kz_0_6 kz_0_8)⟩
  refine ⟨(fun _ h => (by cases h)), [], trivial, ?_, (fun _ h => (by cases h))⟩
  rw [List.append_nil]
  exact List.forall_mem_cons.mpr ⟨⟨show (20 : Nat) < 100 from by decide, nf0⟩, (fun _ h => (by cases h))⟩
set_option maxHeartbeats 4000000 in
theorem vc_Sy_compileTest_at_k12_2_0 (kind_0 : Int) (number_0 : Int) (f0 : (kind_0 ≠ 3) ∨ (number_0 ≤ 9999)) (kz_0_6 : 0 ≤ kind_0 ∧ kind_0 ≤ 127) (kz_0_8 : 0 ≤ number_0 ∧ number_0 ≤ 1000000) : (kind_0 ≠ 3) ∨ (number_0 ≤ 9999) := by
  first
    | omega
  
def o_Sy_compileTest_at_k12_2 : or_T := (56, 11, [(0, (2, 0, 0, [11]))], [(20, [3], [50, 2, 0, 6, 8, 3, 7, 7, 3, 2, 0, 6, 0, 3, 0, 3, 2, 0, 8, 0, 9999]), (24, [0, 3], [])], [], [], [(20, [0], [50, 2, 0, 6, 8, 3, 7, 7, 3, 2, 0, 6, 0, 3, 0, 3, 2, 0, 8, 0, 9999])], [], [])
theorem oo_Sy_compileTest_at_k12_2 {kA : Nat → ClassId} : or_ok PRD kA GG o_Sy_compileTest_at_k12_2 := by
  refine or_mk fun A ta ws vs hD hth hl => ?_
  intro t0 r0 f0 f1
  replace f0 := shm_1840 f0
  replace f1 := shm_5 f1
  have q3 : n_v vs 3 = n_v vs 0 := f1.symm
  simp only [q3] at f0
  have kz_0_6 := fdq_313 hD hth r0
  have kz_0_8 := fdq_314 hD hth r0
  have nf0 : fc_1 PRD (20, [0], [50, 2, 0, 6, 8, 3, 7, 7, 3, 2, 0, 6, 0, 3, 0, 3, 2, 0, 8, 0, 9999]) ws (vs) := ⟨nf_in hl rfl, sgq_1840 (vc_Sy_compileTest_at_k12_2_0 (w_fi ws (n_v vs 0) 6) (w_fi ws (n_v vs 0) 8) f0 kz_0_6 kz_0_8)⟩
  refine ⟨(fun _ h => (by cases h)), [], trivial, ?_, (fun _ h => (by cases h))⟩
  rw [List.append_nil]
  exact List.forall_mem_cons.mpr ⟨⟨show (20 : Nat) < 100 from by decide, nf0⟩, (fun _ h => (by cases h))⟩
set_option maxHeartbeats 4000000 in
theorem vc_Sy_compileTest_at_k12_3_0 (x11 : Int) (x12 : Int) (k11 : 10 ≤ x11 ∧ x11 ≤ 10) (k12 : 0 ≤ x12 ∧ x12 ≤ 0) : (0 ≤ x11) ∧ ((0 ≤ x12) ∧ (((x11 * 65536) + x12) ≤ 851970)) := by
  first
    | omega
  
def o_Sy_compileTest_at_k12_3 : or_T := (46, 13, [(11, (0, 10, 10, [])), (12, (0, 0, 0, []))], [], [], [], [(20, [11, 12], [50, 0, 0, 2, 6, 0, 2, 0, 0, 1, 0, 2, 6, 0, 2, 0, 0, 1, 1, 0, 10, 4, 6, 6, 2, 1, 0, 0, 65536, 1, 1, 0, 851970])], [], [])
theorem oo_Sy_compileTest_at_k12_3 {kA : Nat → ClassId} : or_ok PRD kA GG o_Sy_compileTest_at_k12_3 := by
  refine or_mk fun A ta ws vs hD hth hl => ?_
  intro t11 k11 t12 k12
  have nf0 : fc_1 PRD (20, [11, 12], [50, 0, 0, 2, 6, 0, 2, 0, 0, 1, 0, 2, 6, 0, 2, 0, 0, 1, 1, 0, 10, 4, 6, 6, 2, 1, 0, 0, 65536, 1, 1, 0, 851970]) ws (vs) := ⟨nf_in hl rfl, sgq_493 (vc_Sy_compileTest_at_k12_3_0 (v_iv (n_v vs 11)) (v_iv (n_v vs 12)) k11 k12)⟩
  refine ⟨(fun _ h => (by cases h)), [], trivial, ?_, (fun _ h => (by cases h))⟩
  rw [List.append_nil]
  exact List.forall_mem_cons.mpr ⟨⟨show (20 : Nat) < 100 from by decide, nf0⟩, (fun _ h => (by cases h))⟩
set_option maxHeartbeats 4000000 in
theorem vc_Sy_compileTest_at_k12_4_0 (kind_0 : Int) (number_0 : Int) (f1 : (kind_0 ≠ 3) ∨ (number_0 ≤ 9999)) (kz_0_6 : 0 ≤ kind_0 ∧ kind_0 ≤ 127) (kz_0_8 : 0 ≤ number_0 ∧ number_0 ≤ 1000000) : (kind_0 ≠ 3) ∨ (number_0 ≤ 9999) := by
  first
    | omega
  
def o_Sy_compileTest_at_k12_4 : or_T := (41, 12, [(0, (2, 0, 0, [11]))], [(24, [0, 3], []), (20, [3], [50, 2, 0, 6, 8, 3, 7, 7, 3, 2, 0, 6, 0, 3, 0, 3, 2, 0, 8, 0, 9999])], [], [], [(20, [0], [50, 2, 0, 6, 8, 3, 7, 7, 3, 2, 0, 6, 0, 3, 0, 3, 2, 0, 8, 0, 9999])], [], [])
theorem oo_Sy_compileTest_at_k12_4 {kA : Nat → ClassId} : or_ok PRD kA GG o_Sy_compileTest_at_k12_4 := by
  refine or_mk fun A ta ws vs hD hth hl => ?_
  intro t0 r0 f0 f1
  replace f0 := shm_5 f0
  replace f1 := shm_1840 f1
  have q3 : n_v vs 3 = n_v vs 0 := f0.symm
  simp only [q3] at f1
  have kz_0_6 := fdq_313 hD hth r0
  have kz_0_8 := fdq_314 hD hth r0
  have nf0 : fc_1 PRD (20, [0], [50, 2, 0, 6, 8, 3, 7, 7, 3, 2, 0, 6, 0, 3, 0, 3, 2, 0, 8, 0, 9999]) ws (vs) := ⟨nf_in hl rfl, sgq_1840 (vc_Sy_compileTest_at_k12_4_0 (w_fi ws (n_v vs 0) 6) (w_fi ws (n_v vs 0) 8) f1 kz_0_6 kz_0_8)⟩
  refine ⟨(fun _ h => (by cases h)), [], trivial, ?_, (fun _ h => (by cases h))⟩
  rw [List.append_nil]
  exact List.forall_mem_cons.mpr ⟨⟨show (20 : Nat) < 100 from by decide, nf0⟩, (fun _ h => (by cases h))⟩
def n_Sy_compileTest_at_k12_an : List an_T := [(12, [(0, (2, 0, 0, [11])), (1, (0, 12, 12, [])), (2, (0, 0, 2000, []))], [], (0, 0), [(0, 0, 99988), (1, 5, 2000), (0, 0, 100000)], [], [((0, 3), (2, 0, 0, [109]))], [(2, 0, 0, [11]), (0, 12, 12, []), (2, 0, 0, [109])], 0, [], [(20, [3], [50, 2, 0, 6, 8, 3, 7, 7, 3, 2, 0, 6, 0, 3, 0, 3, 2, 0, 8, 0, 9999]), (24, [0, 3], [])])]
def t_Sy_compileTest_at_k12_ct : ct_L := [(1, 69, e_Sy_advance), (1, 128, e_Sy_emit), (10, 140, e_Sy_compileBoth_at_k12), (70, 114, e_Sy_wordIn_at_s5011), (106, 140, e_Sy_compileBoth_at_k12), (1000000, 143, en_ro [] (2, 0, 0, [5011]))]
set_option maxRecDepth 100000 in
theorem c_Sy_compileTest_at_k12 {l : Launch} {D : va_G} {kA : Nat → ClassId} (h_Sy_advance : ct_ok PRD l D kA GG y_Sy_advance z_Sy_advance e_Sy_advance) (h_Sy_compileBoth_at_k12 : ct_ok PRD l D kA GG y_Sy_compileBoth_at_k12 z_Sy_compileBoth_at_k12 e_Sy_compileBoth_at_k12) (h_Sy_emit : ct_ok PRD l D kA GG y_Sy_emit z_Sy_emit e_Sy_emit) (h_Sy_wordIn_at_s5011 : ct_ok PRD l D kA GG y_Sy_wordIn_at_s5011 z_Sy_wordIn_at_s5011 e_Sy_wordIn_at_s5011) : ct_ok PRD l D kA GG y_Sy_compileTest_at_k12 z_Sy_compileTest_at_k12 e_Sy_compileTest_at_k12 := chk_all_ok (FT := []) (PT := []) (CT := t_Sy_compileTest_at_k12_ct) (KT := []) (NT := []) (AN := n_Sy_compileTest_at_k12_an) (OT := [o_Sy_compileTest_at_k12_0, o_Sy_compileTest_at_k12_1, o_Sy_compileTest_at_k12_2, o_Sy_compileTest_at_k12_3, o_Sy_compileTest_at_k12_4]) 3 200 (List.forall_mem_cons.mpr ⟨oo_Sy_compileTest_at_k12_0, List.forall_mem_cons.mpr ⟨oo_Sy_compileTest_at_k12_1, List.forall_mem_cons.mpr ⟨oo_Sy_compileTest_at_k12_2, List.forall_mem_cons.mpr ⟨oo_Sy_compileTest_at_k12_3, List.forall_mem_cons.mpr ⟨oo_Sy_compileTest_at_k12_4, List.forall_mem_nil _⟩⟩⟩⟩⟩) (by decide +kernel) ⟨List.forall_mem_nil _, List.forall_mem_nil _, List.forall_mem_cons.mpr ⟨cl_virtual (y := y_Sy_advance) (ci := 11) rfl rfl ⟨_, _, rfl⟩ (by decide +kernel) h_Sy_advance wm_2158 wm_23 wm_2155 wm_2157 wv_10_10 ⟨by decide, by decide, by decide +kernel⟩ (by decide), List.forall_mem_cons.mpr ⟨cl_virtual (y := y_Sy_emit) (ci := 11) rfl rfl ⟨_, _, rfl⟩ (by decide +kernel) h_Sy_emit wm_2258 wm_23 wm_2255 wm_2257 wv_11_2 ⟨by decide, by decide, by decide +kernel⟩ (by decide), List.forall_mem_cons.mpr ⟨cl_virtual (y := y_Sy_compileBoth_at_k12) (ci := 11) rfl rfl ⟨_, _, rfl⟩ (by decide +kernel) h_Sy_compileBoth_at_k12 wm_2249 wm_23 wm_2246 wm_2248 wv_11_0 ⟨by decide, by decide, by decide +kernel⟩ (by decide), List.forall_mem_cons.mpr ⟨cl_virtual (y := y_Sy_wordIn_at_s5011) (ci := 11) rfl rfl ⟨_, _, rfl⟩ (by decide +kernel) h_Sy_wordIn_at_s5011 wm_2229 wm_23 wm_2226 wm_2228 wv_10_12 ⟨by decide, by decide, by decide +kernel⟩ (by decide), List.forall_mem_cons.mpr ⟨cl_virtual (y := y_Sy_compileBoth_at_k12) (ci := 11) rfl rfl ⟨_, _, rfl⟩ (by decide +kernel) h_Sy_compileBoth_at_k12 wm_2249 wm_23 wm_2246 wm_2248 wv_11_0 ⟨by decide, by decide, by decide +kernel⟩ (by decide), List.forall_mem_cons.mpr ⟨cl_ldc (own := "DrawingHouse$Styler") (idx := 143) (i := 11) (tx := "or ") (by decide +kernel) (by decide +kernel) (by decide +kernel), List.forall_mem_nil _⟩⟩⟩⟩⟩⟩, List.forall_mem_nil _, List.forall_mem_nil _, GG_pl⟩ (by decide +kernel)
def o_Sy_compileTest_at_k2_0 : or_T := (12, 5, [], [], [], [], [(24, [0, 0], [])], [], [])
theorem oo_Sy_compileTest_at_k2_0 {kA : Nat → ClassId} : or_ok PRD kA GG o_Sy_compileTest_at_k2_0 := by
  refine or_mk fun A ta ws vs hD hth hl => ?_
  have nf0 : fc_1 PRD (24, [0, 0], []) ws (vs) := by
    refine ⟨nf_in hl rfl, sgq_1 ?_⟩
    · show n_v vs 0 = n_v vs 0
      first | rfl | simp only [true_and]
  refine ⟨(fun _ h => (by cases h)), [], trivial, ?_, (fun _ h => (by cases h))⟩
  rw [List.append_nil]
  exact List.forall_mem_cons.mpr ⟨⟨show (24 : Nat) < 100 from by decide, nf0⟩, (fun _ h => (by cases h))⟩
set_option maxHeartbeats 4000000 in
theorem vc_Sy_compileTest_at_k2_1_0 (kind_0 : Int) (number_0 : Int) (f0 : (kind_0 ≠ 3) ∨ (number_0 ≤ 9999)) (kz_0_6 : 0 ≤ kind_0 ∧ kind_0 ≤ 127) (kz_0_8 : 0 ≤ number_0 ∧ number_0 ≤ 1000000) : (kind_0 ≠ 3) ∨ (number_0 ≤ 9999) := by
  first
    | omega
  
def o_Sy_compileTest_at_k2_1 : or_T := (56, 9, [(0, (2, 0, 0, [11]))], [(20, [3], [50, 2, 0, 6, 8, 3, 7, 7, 3, 2, 0, 6, 0, 3, 0, 3, 2, 0, 8, 0, 9999]), (24, [0, 3], [])], [], [], [(20, [0], [50, 2, 0, 6, 8, 3, 7, 7, 3, 2, 0, 6, 0, 3, 0, 3, 2, 0, 8, 0, 9999])], [], [])
theorem oo_Sy_compileTest_at_k2_1 {kA : Nat → ClassId} : or_ok PRD kA GG o_Sy_compileTest_at_k2_1 := by
  refine or_mk fun A ta ws vs hD hth hl => ?_
  intro t0 r0 f0 f1
  replace f0 := shm_1840 f0
  replace f1 := shm_5 f1
  have q3 : n_v vs 3 = n_v vs 0 := f1.symm
  simp only [q3] at f0
  have kz_0_6 := fdq_313 hD hth r0
  have kz_0_8 := fdq_314 hD hth r0
  have nf0 : fc_1 PRD (20, [0], [50, 2, 0, 6, 8, 3, 7, 7, 3, 2, 0, 6, 0, 3, 0, 3, 2, 0, 8, 0, 9999]) ws (vs) := ⟨nf_in hl rfl, sgq_1840 (vc_Sy_compileTest_at_k2_1_0 (w_fi ws (n_v vs 0) 6) (w_fi ws (n_v vs 0) 8) f0 kz_0_6 kz_0_8)⟩
  refine ⟨(fun _ h => (by cases h)), [], trivial, ?_, (fun _ h => (by cases h))⟩
  rw [List.append_nil]
  exact List.forall_mem_cons.mpr ⟨⟨show (20 : Nat) < 100 from by decide, nf0⟩, (fun _ h => (by cases h))⟩
set_option maxHeartbeats 4000000 in
theorem vc_Sy_compileTest_at_k2_2_0 (kind_0 : Int) (number_0 : Int) (f0 : (kind_0 ≠ 3) ∨ (number_0 ≤ 9999)) (kz_0_6 : 0 ≤ kind_0 ∧ kind_0 ≤ 127) (kz_0_8 : 0 ≤ number_0 ∧ number_0 ≤ 1000000) : (kind_0 ≠ 3) ∨ (number_0 ≤ 9999) := by
  first
    | omega
  
def o_Sy_compileTest_at_k2_2 : or_T := (56, 11, [(0, (2, 0, 0, [11]))], [(20, [3], [50, 2, 0, 6, 8, 3, 7, 7, 3, 2, 0, 6, 0, 3, 0, 3, 2, 0, 8, 0, 9999]), (24, [0, 3], [])], [], [], [(20, [0], [50, 2, 0, 6, 8, 3, 7, 7, 3, 2, 0, 6, 0, 3, 0, 3, 2, 0, 8, 0, 9999])], [], [])
theorem oo_Sy_compileTest_at_k2_2 {kA : Nat → ClassId} : or_ok PRD kA GG o_Sy_compileTest_at_k2_2 := by
  refine or_mk fun A ta ws vs hD hth hl => ?_
  intro t0 r0 f0 f1
  replace f0 := shm_1840 f0
  replace f1 := shm_5 f1
  have q3 : n_v vs 3 = n_v vs 0 := f1.symm
  simp only [q3] at f0
  have kz_0_6 := fdq_313 hD hth r0
  have kz_0_8 := fdq_314 hD hth r0
  have nf0 : fc_1 PRD (20, [0], [50, 2, 0, 6, 8, 3, 7, 7, 3, 2, 0, 6, 0, 3, 0, 3, 2, 0, 8, 0, 9999]) ws (vs) := ⟨nf_in hl rfl, sgq_1840 (vc_Sy_compileTest_at_k2_2_0 (w_fi ws (n_v vs 0) 6) (w_fi ws (n_v vs 0) 8) f0 kz_0_6 kz_0_8)⟩
  refine ⟨(fun _ h => (by cases h)), [], trivial, ?_, (fun _ h => (by cases h))⟩
  rw [List.append_nil]
  exact List.forall_mem_cons.mpr ⟨⟨show (20 : Nat) < 100 from by decide, nf0⟩, (fun _ h => (by cases h))⟩
set_option maxHeartbeats 4000000 in
theorem vc_Sy_compileTest_at_k2_3_0 (x11 : Int) (x12 : Int) (k11 : 10 ≤ x11 ∧ x11 ≤ 10) (k12 : 0 ≤ x12 ∧ x12 ≤ 0) : (0 ≤ x11) ∧ ((0 ≤ x12) ∧ (((x11 * 65536) + x12) ≤ 851970)) := by
  first
    | omega
  
def o_Sy_compileTest_at_k2_3 : or_T := (46, 13, [(11, (0, 10, 10, [])), (12, (0, 0, 0, []))], [], [], [], [(20, [11, 12], [50, 0, 0, 2, 6, 0, 2, 0, 0, 1, 0, 2, 6, 0, 2, 0, 0, 1, 1, 0, 10, 4, 6, 6, 2, 1, 0, 0, 65536, 1, 1, 0, 851970])], [], [])
theorem oo_Sy_compileTest_at_k2_3 {kA : Nat → ClassId} : or_ok PRD kA GG o_Sy_compileTest_at_k2_3 := by
  refine or_mk fun A ta ws vs hD hth hl => ?_
  intro t11 k11 t12 k12
  have nf0 : fc_1 PRD (20, [11, 12], [50, 0, 0, 2, 6, 0, 2, 0, 0, 1, 0, 2, 6, 0, 2, 0, 0, 1, 1, 0, 10, 4, 6, 6, 2, 1, 0, 0, 65536, 1, 1, 0, 851970]) ws (vs) := ⟨nf_in hl rfl, sgq_493 (vc_Sy_compileTest_at_k2_3_0 (v_iv (n_v vs 11)) (v_iv (n_v vs 12)) k11 k12)⟩
  refine ⟨(fun _ h => (by cases h)), [], trivial, ?_, (fun _ h => (by cases h))⟩
  rw [List.append_nil]
  exact List.forall_mem_cons.mpr ⟨⟨show (20 : Nat) < 100 from by decide, nf0⟩, (fun _ h => (by cases h))⟩
set_option maxHeartbeats 4000000 in
theorem vc_Sy_compileTest_at_k2_4_0 (kind_0 : Int) (number_0 : Int) (f1 : (kind_0 ≠ 3) ∨ (number_0 ≤ 9999)) (kz_0_6 : 0 ≤ kind_0 ∧ kind_0 ≤ 127) (kz_0_8 : 0 ≤ number_0 ∧ number_0 ≤ 1000000) : (kind_0 ≠ 3) ∨ (number_0 ≤ 9999) := by
  first
    | omega
  
def o_Sy_compileTest_at_k2_4 : or_T := (41, 12, [(0, (2, 0, 0, [11]))], [(24, [0, 3], []), (20, [3], [50, 2, 0, 6, 8, 3, 7, 7, 3, 2, 0, 6, 0, 3, 0, 3, 2, 0, 8, 0, 9999])], [], [], [(20, [0], [50, 2, 0, 6, 8, 3, 7, 7, 3, 2, 0, 6, 0, 3, 0, 3, 2, 0, 8, 0, 9999])], [], [])
theorem oo_Sy_compileTest_at_k2_4 {kA : Nat → ClassId} : or_ok PRD kA GG o_Sy_compileTest_at_k2_4 := by
  refine or_mk fun A ta ws vs hD hth hl => ?_
  intro t0 r0 f0 f1
  replace f0 := shm_5 f0
  replace f1 := shm_1840 f1
  have q3 : n_v vs 3 = n_v vs 0 := f0.symm
  simp only [q3] at f1
  have kz_0_6 := fdq_313 hD hth r0
  have kz_0_8 := fdq_314 hD hth r0
  have nf0 : fc_1 PRD (20, [0], [50, 2, 0, 6, 8, 3, 7, 7, 3, 2, 0, 6, 0, 3, 0, 3, 2, 0, 8, 0, 9999]) ws (vs) := ⟨nf_in hl rfl, sgq_1840 (vc_Sy_compileTest_at_k2_4_0 (w_fi ws (n_v vs 0) 6) (w_fi ws (n_v vs 0) 8) f1 kz_0_6 kz_0_8)⟩
  refine ⟨(fun _ h => (by cases h)), [], trivial, ?_, (fun _ h => (by cases h))⟩
  rw [List.append_nil]
  exact List.forall_mem_cons.mpr ⟨⟨show (20 : Nat) < 100 from by decide, nf0⟩, (fun _ h => (by cases h))⟩
def n_Sy_compileTest_at_k2_an : List an_T := [(12, [(0, (2, 0, 0, [11])), (1, (0, 2, 2, [])), (2, (0, 0, 2000, []))], [], (0, 0), [(0, 0, 99988), (1, 5, 2000), (0, 0, 100000)], [], [((0, 3), (2, 0, 0, [109]))], [(2, 0, 0, [11]), (0, 2, 2, []), (2, 0, 0, [109])], 0, [], [(20, [3], [50, 2, 0, 6, 8, 3, 7, 7, 3, 2, 0, 6, 0, 3, 0, 3, 2, 0, 8, 0, 9999]), (24, [0, 3], [])])]
def t_Sy_compileTest_at_k2_ct : ct_L := [(1, 69, e_Sy_advance), (1, 128, e_Sy_emit), (10, 140, e_Sy_compileBoth_at_k2), (70, 114, e_Sy_wordIn_at_s5011), (106, 140, e_Sy_compileBoth_at_k2), (1000000, 143, en_ro [] (2, 0, 0, [5011]))]
set_option maxRecDepth 100000 in
theorem c_Sy_compileTest_at_k2 {l : Launch} {D : va_G} {kA : Nat → ClassId} (h_Sy_advance : ct_ok PRD l D kA GG y_Sy_advance z_Sy_advance e_Sy_advance) (h_Sy_compileBoth_at_k2 : ct_ok PRD l D kA GG y_Sy_compileBoth_at_k2 z_Sy_compileBoth_at_k2 e_Sy_compileBoth_at_k2) (h_Sy_emit : ct_ok PRD l D kA GG y_Sy_emit z_Sy_emit e_Sy_emit) (h_Sy_wordIn_at_s5011 : ct_ok PRD l D kA GG y_Sy_wordIn_at_s5011 z_Sy_wordIn_at_s5011 e_Sy_wordIn_at_s5011) : ct_ok PRD l D kA GG y_Sy_compileTest_at_k2 z_Sy_compileTest_at_k2 e_Sy_compileTest_at_k2 := chk_all_ok (FT := []) (PT := []) (CT := t_Sy_compileTest_at_k2_ct) (KT := []) (NT := []) (AN := n_Sy_compileTest_at_k2_an) (OT := [o_Sy_compileTest_at_k2_0, o_Sy_compileTest_at_k2_1, o_Sy_compileTest_at_k2_2, o_Sy_compileTest_at_k2_3, o_Sy_compileTest_at_k2_4]) 3 200 (List.forall_mem_cons.mpr ⟨oo_Sy_compileTest_at_k2_0, List.forall_mem_cons.mpr ⟨oo_Sy_compileTest_at_k2_1, List.forall_mem_cons.mpr ⟨oo_Sy_compileTest_at_k2_2, List.forall_mem_cons.mpr ⟨oo_Sy_compileTest_at_k2_3, List.forall_mem_cons.mpr ⟨oo_Sy_compileTest_at_k2_4, List.forall_mem_nil _⟩⟩⟩⟩⟩) (by decide +kernel) ⟨List.forall_mem_nil _, List.forall_mem_nil _, List.forall_mem_cons.mpr ⟨cl_virtual (y := y_Sy_advance) (ci := 11) rfl rfl ⟨_, _, rfl⟩ (by decide +kernel) h_Sy_advance wm_2158 wm_23 wm_2155 wm_2157 wv_10_10 ⟨by decide, by decide, by decide +kernel⟩ (by decide), List.forall_mem_cons.mpr ⟨cl_virtual (y := y_Sy_emit) (ci := 11) rfl rfl ⟨_, _, rfl⟩ (by decide +kernel) h_Sy_emit wm_2258 wm_23 wm_2255 wm_2257 wv_11_2 ⟨by decide, by decide, by decide +kernel⟩ (by decide), List.forall_mem_cons.mpr ⟨cl_virtual (y := y_Sy_compileBoth_at_k2) (ci := 11) rfl rfl ⟨_, _, rfl⟩ (by decide +kernel) h_Sy_compileBoth_at_k2 wm_2249 wm_23 wm_2246 wm_2248 wv_11_0 ⟨by decide, by decide, by decide +kernel⟩ (by decide), List.forall_mem_cons.mpr ⟨cl_virtual (y := y_Sy_wordIn_at_s5011) (ci := 11) rfl rfl ⟨_, _, rfl⟩ (by decide +kernel) h_Sy_wordIn_at_s5011 wm_2229 wm_23 wm_2226 wm_2228 wv_10_12 ⟨by decide, by decide, by decide +kernel⟩ (by decide), List.forall_mem_cons.mpr ⟨cl_virtual (y := y_Sy_compileBoth_at_k2) (ci := 11) rfl rfl ⟨_, _, rfl⟩ (by decide +kernel) h_Sy_compileBoth_at_k2 wm_2249 wm_23 wm_2246 wm_2248 wv_11_0 ⟨by decide, by decide, by decide +kernel⟩ (by decide), List.forall_mem_cons.mpr ⟨cl_ldc (own := "DrawingHouse$Styler") (idx := 143) (i := 11) (tx := "or ") (by decide +kernel) (by decide +kernel) (by decide +kernel), List.forall_mem_nil _⟩⟩⟩⟩⟩⟩, List.forall_mem_nil _, List.forall_mem_nil _, GG_pl⟩ (by decide +kernel)
def o_Sy_compileTest_at_k3_0 : or_T := (12, 5, [], [], [], [], [(24, [0, 0], [])], [], [])
theorem oo_Sy_compileTest_at_k3_0 {kA : Nat → ClassId} : or_ok PRD kA GG o_Sy_compileTest_at_k3_0 := by
  refine or_mk fun A ta ws vs hD hth hl => ?_
  have nf0 : fc_1 PRD (24, [0, 0], []) ws (vs) := by
    refine ⟨nf_in hl rfl, sgq_1 ?_⟩
    · show n_v vs 0 = n_v vs 0
      first | rfl | simp only [true_and]
  refine ⟨(fun _ h => (by cases h)), [], trivial, ?_, (fun _ h => (by cases h))⟩
  rw [List.append_nil]
  exact List.forall_mem_cons.mpr ⟨⟨show (24 : Nat) < 100 from by decide, nf0⟩, (fun _ h => (by cases h))⟩
set_option maxHeartbeats 4000000 in
theorem vc_Sy_compileTest_at_k3_1_0 (kind_0 : Int) (number_0 : Int) (f0 : (kind_0 ≠ 3) ∨ (number_0 ≤ 9999)) (kz_0_6 : 0 ≤ kind_0 ∧ kind_0 ≤ 127) (kz_0_8 : 0 ≤ number_0 ∧ number_0 ≤ 1000000) : (kind_0 ≠ 3) ∨ (number_0 ≤ 9999) := by
  first
    | omega
  
def o_Sy_compileTest_at_k3_1 : or_T := (56, 9, [(0, (2, 0, 0, [11]))], [(20, [3], [50, 2, 0, 6, 8, 3, 7, 7, 3, 2, 0, 6, 0, 3, 0, 3, 2, 0, 8, 0, 9999]), (24, [0, 3], [])], [], [], [(20, [0], [50, 2, 0, 6, 8, 3, 7, 7, 3, 2, 0, 6, 0, 3, 0, 3, 2, 0, 8, 0, 9999])], [], [])
theorem oo_Sy_compileTest_at_k3_1 {kA : Nat → ClassId} : or_ok PRD kA GG o_Sy_compileTest_at_k3_1 := by
  refine or_mk fun A ta ws vs hD hth hl => ?_
  intro t0 r0 f0 f1
  replace f0 := shm_1840 f0
  replace f1 := shm_5 f1
  have q3 : n_v vs 3 = n_v vs 0 := f1.symm
  simp only [q3] at f0
  have kz_0_6 := fdq_313 hD hth r0
  have kz_0_8 := fdq_314 hD hth r0
  have nf0 : fc_1 PRD (20, [0], [50, 2, 0, 6, 8, 3, 7, 7, 3, 2, 0, 6, 0, 3, 0, 3, 2, 0, 8, 0, 9999]) ws (vs) := ⟨nf_in hl rfl, sgq_1840 (vc_Sy_compileTest_at_k3_1_0 (w_fi ws (n_v vs 0) 6) (w_fi ws (n_v vs 0) 8) f0 kz_0_6 kz_0_8)⟩
  refine ⟨(fun _ h => (by cases h)), [], trivial, ?_, (fun _ h => (by cases h))⟩
  rw [List.append_nil]
  exact List.forall_mem_cons.mpr ⟨⟨show (20 : Nat) < 100 from by decide, nf0⟩, (fun _ h => (by cases h))⟩
set_option maxHeartbeats 4000000 in
theorem vc_Sy_compileTest_at_k3_2_0 (kind_0 : Int) (number_0 : Int) (f0 : (kind_0 ≠ 3) ∨ (number_0 ≤ 9999)) (kz_0_6 : 0 ≤ kind_0 ∧ kind_0 ≤ 127) (kz_0_8 : 0 ≤ number_0 ∧ number_0 ≤ 1000000) : (kind_0 ≠ 3) ∨ (number_0 ≤ 9999) := by
  first
    | omega
  
def o_Sy_compileTest_at_k3_2 : or_T := (56, 11, [(0, (2, 0, 0, [11]))], [(20, [3], [50, 2, 0, 6, 8, 3, 7, 7, 3, 2, 0, 6, 0, 3, 0, 3, 2, 0, 8, 0, 9999]), (24, [0, 3], [])], [], [], [(20, [0], [50, 2, 0, 6, 8, 3, 7, 7, 3, 2, 0, 6, 0, 3, 0, 3, 2, 0, 8, 0, 9999])], [], [])
theorem oo_Sy_compileTest_at_k3_2 {kA : Nat → ClassId} : or_ok PRD kA GG o_Sy_compileTest_at_k3_2 := by
  refine or_mk fun A ta ws vs hD hth hl => ?_
  intro t0 r0 f0 f1
  replace f0 := shm_1840 f0
  replace f1 := shm_5 f1
  have q3 : n_v vs 3 = n_v vs 0 := f1.symm
  simp only [q3] at f0
  have kz_0_6 := fdq_313 hD hth r0
  have kz_0_8 := fdq_314 hD hth r0
  have nf0 : fc_1 PRD (20, [0], [50, 2, 0, 6, 8, 3, 7, 7, 3, 2, 0, 6, 0, 3, 0, 3, 2, 0, 8, 0, 9999]) ws (vs) := ⟨nf_in hl rfl, sgq_1840 (vc_Sy_compileTest_at_k3_2_0 (w_fi ws (n_v vs 0) 6) (w_fi ws (n_v vs 0) 8) f0 kz_0_6 kz_0_8)⟩
  refine ⟨(fun _ h => (by cases h)), [], trivial, ?_, (fun _ h => (by cases h))⟩
  rw [List.append_nil]
  exact List.forall_mem_cons.mpr ⟨⟨show (20 : Nat) < 100 from by decide, nf0⟩, (fun _ h => (by cases h))⟩
set_option maxHeartbeats 4000000 in
theorem vc_Sy_compileTest_at_k3_3_0 (x11 : Int) (x12 : Int) (k11 : 10 ≤ x11 ∧ x11 ≤ 10) (k12 : 0 ≤ x12 ∧ x12 ≤ 0) : (0 ≤ x11) ∧ ((0 ≤ x12) ∧ (((x11 * 65536) + x12) ≤ 851970)) := by
  first
    | omega
  
def o_Sy_compileTest_at_k3_3 : or_T := (46, 13, [(11, (0, 10, 10, [])), (12, (0, 0, 0, []))], [], [], [], [(20, [11, 12], [50, 0, 0, 2, 6, 0, 2, 0, 0, 1, 0, 2, 6, 0, 2, 0, 0, 1, 1, 0, 10, 4, 6, 6, 2, 1, 0, 0, 65536, 1, 1, 0, 851970])], [], [])
theorem oo_Sy_compileTest_at_k3_3 {kA : Nat → ClassId} : or_ok PRD kA GG o_Sy_compileTest_at_k3_3 := by
  refine or_mk fun A ta ws vs hD hth hl => ?_
  intro t11 k11 t12 k12
  have nf0 : fc_1 PRD (20, [11, 12], [50, 0, 0, 2, 6, 0, 2, 0, 0, 1, 0, 2, 6, 0, 2, 0, 0, 1, 1, 0, 10, 4, 6, 6, 2, 1, 0, 0, 65536, 1, 1, 0, 851970]) ws (vs) := ⟨nf_in hl rfl, sgq_493 (vc_Sy_compileTest_at_k3_3_0 (v_iv (n_v vs 11)) (v_iv (n_v vs 12)) k11 k12)⟩
  refine ⟨(fun _ h => (by cases h)), [], trivial, ?_, (fun _ h => (by cases h))⟩
  rw [List.append_nil]
  exact List.forall_mem_cons.mpr ⟨⟨show (20 : Nat) < 100 from by decide, nf0⟩, (fun _ h => (by cases h))⟩
set_option maxHeartbeats 4000000 in
theorem vc_Sy_compileTest_at_k3_4_0 (kind_0 : Int) (number_0 : Int) (f1 : (kind_0 ≠ 3) ∨ (number_0 ≤ 9999)) (kz_0_6 : 0 ≤ kind_0 ∧ kind_0 ≤ 127) (kz_0_8 : 0 ≤ number_0 ∧ number_0 ≤ 1000000) : (kind_0 ≠ 3) ∨ (number_0 ≤ 9999) := by
  first
    | omega
  
def o_Sy_compileTest_at_k3_4 : or_T := (41, 12, [(0, (2, 0, 0, [11]))], [(24, [0, 3], []), (20, [3], [50, 2, 0, 6, 8, 3, 7, 7, 3, 2, 0, 6, 0, 3, 0, 3, 2, 0, 8, 0, 9999])], [], [], [(20, [0], [50, 2, 0, 6, 8, 3, 7, 7, 3, 2, 0, 6, 0, 3, 0, 3, 2, 0, 8, 0, 9999])], [], [])
theorem oo_Sy_compileTest_at_k3_4 {kA : Nat → ClassId} : or_ok PRD kA GG o_Sy_compileTest_at_k3_4 := by
  refine or_mk fun A ta ws vs hD hth hl => ?_
  intro t0 r0 f0 f1
  replace f0 := shm_5 f0
  replace f1 := shm_1840 f1
  have q3 : n_v vs 3 = n_v vs 0 := f0.symm
  simp only [q3] at f1
  have kz_0_6 := fdq_313 hD hth r0
  have kz_0_8 := fdq_314 hD hth r0
  have nf0 : fc_1 PRD (20, [0], [50, 2, 0, 6, 8, 3, 7, 7, 3, 2, 0, 6, 0, 3, 0, 3, 2, 0, 8, 0, 9999]) ws (vs) := ⟨nf_in hl rfl, sgq_1840 (vc_Sy_compileTest_at_k3_4_0 (w_fi ws (n_v vs 0) 6) (w_fi ws (n_v vs 0) 8) f1 kz_0_6 kz_0_8)⟩
  refine ⟨(fun _ h => (by cases h)), [], trivial, ?_, (fun _ h => (by cases h))⟩
  rw [List.append_nil]
  exact List.forall_mem_cons.mpr ⟨⟨show (20 : Nat) < 100 from by decide, nf0⟩, (fun _ h => (by cases h))⟩
def n_Sy_compileTest_at_k3_an : List an_T := [(12, [(0, (2, 0, 0, [11])), (1, (0, 3, 3, [])), (2, (0, 0, 2000, []))], [], (0, 0), [(0, 0, 99988), (1, 5, 2000), (0, 0, 100000)], [], [((0, 3), (2, 0, 0, [109]))], [(2, 0, 0, [11]), (0, 3, 3, []), (2, 0, 0, [109])], 0, [], [(20, [3], [50, 2, 0, 6, 8, 3, 7, 7, 3, 2, 0, 6, 0, 3, 0, 3, 2, 0, 8, 0, 9999]), (24, [0, 3], [])])]
def t_Sy_compileTest_at_k3_ct : ct_L := [(1, 69, e_Sy_advance), (1, 128, e_Sy_emit), (10, 140, e_Sy_compileBoth_at_k3), (70, 114, e_Sy_wordIn_at_s5011), (106, 140, e_Sy_compileBoth_at_k3), (1000000, 143, en_ro [] (2, 0, 0, [5011]))]
set_option maxRecDepth 100000 in
theorem c_Sy_compileTest_at_k3 {l : Launch} {D : va_G} {kA : Nat → ClassId} (h_Sy_advance : ct_ok PRD l D kA GG y_Sy_advance z_Sy_advance e_Sy_advance) (h_Sy_compileBoth_at_k3 : ct_ok PRD l D kA GG y_Sy_compileBoth_at_k3 z_Sy_compileBoth_at_k3 e_Sy_compileBoth_at_k3) (h_Sy_emit : ct_ok PRD l D kA GG y_Sy_emit z_Sy_emit e_Sy_emit) (h_Sy_wordIn_at_s5011 : ct_ok PRD l D kA GG y_Sy_wordIn_at_s5011 z_Sy_wordIn_at_s5011 e_Sy_wordIn_at_s5011) : ct_ok PRD l D kA GG y_Sy_compileTest_at_k3 z_Sy_compileTest_at_k3 e_Sy_compileTest_at_k3 := chk_all_ok (FT := []) (PT := []) (CT := t_Sy_compileTest_at_k3_ct) (KT := []) (NT := []) (AN := n_Sy_compileTest_at_k3_an) (OT := [o_Sy_compileTest_at_k3_0, o_Sy_compileTest_at_k3_1, o_Sy_compileTest_at_k3_2, o_Sy_compileTest_at_k3_3, o_Sy_compileTest_at_k3_4]) 3 200 (List.forall_mem_cons.mpr ⟨oo_Sy_compileTest_at_k3_0, List.forall_mem_cons.mpr ⟨oo_Sy_compileTest_at_k3_1, List.forall_mem_cons.mpr ⟨oo_Sy_compileTest_at_k3_2, List.forall_mem_cons.mpr ⟨oo_Sy_compileTest_at_k3_3, List.forall_mem_cons.mpr ⟨oo_Sy_compileTest_at_k3_4, List.forall_mem_nil _⟩⟩⟩⟩⟩) (by decide +kernel) ⟨List.forall_mem_nil _, List.forall_mem_nil _, List.forall_mem_cons.mpr ⟨cl_virtual (y := y_Sy_advance) (ci := 11) rfl rfl ⟨_, _, rfl⟩ (by decide +kernel) h_Sy_advance wm_2158 wm_23 wm_2155 wm_2157 wv_10_10 ⟨by decide, by decide, by decide +kernel⟩ (by decide), List.forall_mem_cons.mpr ⟨cl_virtual (y := y_Sy_emit) (ci := 11) rfl rfl ⟨_, _, rfl⟩ (by decide +kernel) h_Sy_emit wm_2258 wm_23 wm_2255 wm_2257 wv_11_2 ⟨by decide, by decide, by decide +kernel⟩ (by decide), List.forall_mem_cons.mpr ⟨cl_virtual (y := y_Sy_compileBoth_at_k3) (ci := 11) rfl rfl ⟨_, _, rfl⟩ (by decide +kernel) h_Sy_compileBoth_at_k3 wm_2249 wm_23 wm_2246 wm_2248 wv_11_0 ⟨by decide, by decide, by decide +kernel⟩ (by decide), List.forall_mem_cons.mpr ⟨cl_virtual (y := y_Sy_wordIn_at_s5011) (ci := 11) rfl rfl ⟨_, _, rfl⟩ (by decide +kernel) h_Sy_wordIn_at_s5011 wm_2229 wm_23 wm_2226 wm_2228 wv_10_12 ⟨by decide, by decide, by decide +kernel⟩ (by decide), List.forall_mem_cons.mpr ⟨cl_virtual (y := y_Sy_compileBoth_at_k3) (ci := 11) rfl rfl ⟨_, _, rfl⟩ (by decide +kernel) h_Sy_compileBoth_at_k3 wm_2249 wm_23 wm_2246 wm_2248 wv_11_0 ⟨by decide, by decide, by decide +kernel⟩ (by decide), List.forall_mem_cons.mpr ⟨cl_ldc (own := "DrawingHouse$Styler") (idx := 143) (i := 11) (tx := "or ") (by decide +kernel) (by decide +kernel) (by decide +kernel), List.forall_mem_nil _⟩⟩⟩⟩⟩⟩, List.forall_mem_nil _, List.forall_mem_nil _, GG_pl⟩ (by decide +kernel)
def o_Sy_compileTest_at_k4_0 : or_T := (12, 5, [], [], [], [], [(24, [0, 0], [])], [], [])
theorem oo_Sy_compileTest_at_k4_0 {kA : Nat → ClassId} : or_ok PRD kA GG o_Sy_compileTest_at_k4_0 := by
  refine or_mk fun A ta ws vs hD hth hl => ?_
  have nf0 : fc_1 PRD (24, [0, 0], []) ws (vs) := by
    refine ⟨nf_in hl rfl, sgq_1 ?_⟩
    · show n_v vs 0 = n_v vs 0
      first | rfl | simp only [true_and]
  refine ⟨(fun _ h => (by cases h)), [], trivial, ?_, (fun _ h => (by cases h))⟩
  rw [List.append_nil]
  exact List.forall_mem_cons.mpr ⟨⟨show (24 : Nat) < 100 from by decide, nf0⟩, (fun _ h => (by cases h))⟩
set_option maxHeartbeats 4000000 in
theorem vc_Sy_compileTest_at_k4_1_0 (kind_0 : Int) (number_0 : Int) (f0 : (kind_0 ≠ 3) ∨ (number_0 ≤ 9999)) (kz_0_6 : 0 ≤ kind_0 ∧ kind_0 ≤ 127) (kz_0_8 : 0 ≤ number_0 ∧ number_0 ≤ 1000000) : (kind_0 ≠ 3) ∨ (number_0 ≤ 9999) := by
  first
    | omega
  
def o_Sy_compileTest_at_k4_1 : or_T := (56, 9, [(0, (2, 0, 0, [11]))], [(20, [3], [50, 2, 0, 6, 8, 3, 7, 7, 3, 2, 0, 6, 0, 3, 0, 3, 2, 0, 8, 0, 9999]), (24, [0, 3], [])], [], [], [(20, [0], [50, 2, 0, 6, 8, 3, 7, 7, 3, 2, 0, 6, 0, 3, 0, 3, 2, 0, 8, 0, 9999])], [], [])
theorem oo_Sy_compileTest_at_k4_1 {kA : Nat → ClassId} : or_ok PRD kA GG o_Sy_compileTest_at_k4_1 := by
  refine or_mk fun A ta ws vs hD hth hl => ?_
  intro t0 r0 f0 f1
  replace f0 := shm_1840 f0
  replace f1 := shm_5 f1
  have q3 : n_v vs 3 = n_v vs 0 := f1.symm
  simp only [q3] at f0
  have kz_0_6 := fdq_313 hD hth r0
  have kz_0_8 := fdq_314 hD hth r0
  have nf0 : fc_1 PRD (20, [0], [50, 2, 0, 6, 8, 3, 7, 7, 3, 2, 0, 6, 0, 3, 0, 3, 2, 0, 8, 0, 9999]) ws (vs) := ⟨nf_in hl rfl, sgq_1840 (vc_Sy_compileTest_at_k4_1_0 (w_fi ws (n_v vs 0) 6) (w_fi ws (n_v vs 0) 8) f0 kz_0_6 kz_0_8)⟩
  refine ⟨(fun _ h => (by cases h)), [], trivial, ?_, (fun _ h => (by cases h))⟩
  rw [List.append_nil]
  exact List.forall_mem_cons.mpr ⟨⟨show (20 : Nat) < 100 from by decide, nf0⟩, (fun _ h => (by cases h))⟩
set_option maxHeartbeats 4000000 in
theorem vc_Sy_compileTest_at_k4_2_0 (kind_0 : Int) (number_0 : Int) (f0 : (kind_0 ≠ 3) ∨ (number_0 ≤ 9999)) (kz_0_6 : 0 ≤ kind_0 ∧ kind_0 ≤ 127) (kz_0_8 : 0 ≤ number_0 ∧ number_0 ≤ 1000000) : (kind_0 ≠ 3) ∨ (number_0 ≤ 9999) := by
  first
    | omega
  
def o_Sy_compileTest_at_k4_2 : or_T := (56, 11, [(0, (2, 0, 0, [11]))], [(20, [3], [50, 2, 0, 6, 8, 3, 7, 7, 3, 2, 0, 6, 0, 3, 0, 3, 2, 0, 8, 0, 9999]), (24, [0, 3], [])], [], [], [(20, [0], [50, 2, 0, 6, 8, 3, 7, 7, 3, 2, 0, 6, 0, 3, 0, 3, 2, 0, 8, 0, 9999])], [], [])
theorem oo_Sy_compileTest_at_k4_2 {kA : Nat → ClassId} : or_ok PRD kA GG o_Sy_compileTest_at_k4_2 := by
  refine or_mk fun A ta ws vs hD hth hl => ?_
  intro t0 r0 f0 f1
  replace f0 := shm_1840 f0
  replace f1 := shm_5 f1
  have q3 : n_v vs 3 = n_v vs 0 := f1.symm
  simp only [q3] at f0
  have kz_0_6 := fdq_313 hD hth r0
  have kz_0_8 := fdq_314 hD hth r0
  have nf0 : fc_1 PRD (20, [0], [50, 2, 0, 6, 8, 3, 7, 7, 3, 2, 0, 6, 0, 3, 0, 3, 2, 0, 8, 0, 9999]) ws (vs) := ⟨nf_in hl rfl, sgq_1840 (vc_Sy_compileTest_at_k4_2_0 (w_fi ws (n_v vs 0) 6) (w_fi ws (n_v vs 0) 8) f0 kz_0_6 kz_0_8)⟩
  refine ⟨(fun _ h => (by cases h)), [], trivial, ?_, (fun _ h => (by cases h))⟩
  rw [List.append_nil]
  exact List.forall_mem_cons.mpr ⟨⟨show (20 : Nat) < 100 from by decide, nf0⟩, (fun _ h => (by cases h))⟩
set_option maxHeartbeats 4000000 in
theorem vc_Sy_compileTest_at_k4_3_0 (x11 : Int) (x12 : Int) (k11 : 10 ≤ x11 ∧ x11 ≤ 10) (k12 : 0 ≤ x12 ∧ x12 ≤ 0) : (0 ≤ x11) ∧ ((0 ≤ x12) ∧ (((x11 * 65536) + x12) ≤ 851970)) := by
  first
    | omega
  
def o_Sy_compileTest_at_k4_3 : or_T := (46, 13, [(11, (0, 10, 10, [])), (12, (0, 0, 0, []))], [], [], [], [(20, [11, 12], [50, 0, 0, 2, 6, 0, 2, 0, 0, 1, 0, 2, 6, 0, 2, 0, 0, 1, 1, 0, 10, 4, 6, 6, 2, 1, 0, 0, 65536, 1, 1, 0, 851970])], [], [])
theorem oo_Sy_compileTest_at_k4_3 {kA : Nat → ClassId} : or_ok PRD kA GG o_Sy_compileTest_at_k4_3 := by
  refine or_mk fun A ta ws vs hD hth hl => ?_
  intro t11 k11 t12 k12
  have nf0 : fc_1 PRD (20, [11, 12], [50, 0, 0, 2, 6, 0, 2, 0, 0, 1, 0, 2, 6, 0, 2, 0, 0, 1, 1, 0, 10, 4, 6, 6, 2, 1, 0, 0, 65536, 1, 1, 0, 851970]) ws (vs) := ⟨nf_in hl rfl, sgq_493 (vc_Sy_compileTest_at_k4_3_0 (v_iv (n_v vs 11)) (v_iv (n_v vs 12)) k11 k12)⟩
  refine ⟨(fun _ h => (by cases h)), [], trivial, ?_, (fun _ h => (by cases h))⟩
  rw [List.append_nil]
  exact List.forall_mem_cons.mpr ⟨⟨show (20 : Nat) < 100 from by decide, nf0⟩, (fun _ h => (by cases h))⟩
set_option maxHeartbeats 4000000 in
theorem vc_Sy_compileTest_at_k4_4_0 (kind_0 : Int) (number_0 : Int) (f1 : (kind_0 ≠ 3) ∨ (number_0 ≤ 9999)) (kz_0_6 : 0 ≤ kind_0 ∧ kind_0 ≤ 127) (kz_0_8 : 0 ≤ number_0 ∧ number_0 ≤ 1000000) : (kind_0 ≠ 3) ∨ (number_0 ≤ 9999) := by
  first
    | omega
  
def o_Sy_compileTest_at_k4_4 : or_T := (41, 12, [(0, (2, 0, 0, [11]))], [(24, [0, 3], []), (20, [3], [50, 2, 0, 6, 8, 3, 7, 7, 3, 2, 0, 6, 0, 3, 0, 3, 2, 0, 8, 0, 9999])], [], [], [(20, [0], [50, 2, 0, 6, 8, 3, 7, 7, 3, 2, 0, 6, 0, 3, 0, 3, 2, 0, 8, 0, 9999])], [], [])
theorem oo_Sy_compileTest_at_k4_4 {kA : Nat → ClassId} : or_ok PRD kA GG o_Sy_compileTest_at_k4_4 := by
  refine or_mk fun A ta ws vs hD hth hl => ?_
  intro t0 r0 f0 f1
  replace f0 := shm_5 f0
  replace f1 := shm_1840 f1
  have q3 : n_v vs 3 = n_v vs 0 := f0.symm
  simp only [q3] at f1
  have kz_0_6 := fdq_313 hD hth r0
  have kz_0_8 := fdq_314 hD hth r0
  have nf0 : fc_1 PRD (20, [0], [50, 2, 0, 6, 8, 3, 7, 7, 3, 2, 0, 6, 0, 3, 0, 3, 2, 0, 8, 0, 9999]) ws (vs) := ⟨nf_in hl rfl, sgq_1840 (vc_Sy_compileTest_at_k4_4_0 (w_fi ws (n_v vs 0) 6) (w_fi ws (n_v vs 0) 8) f1 kz_0_6 kz_0_8)⟩
  refine ⟨(fun _ h => (by cases h)), [], trivial, ?_, (fun _ h => (by cases h))⟩
  rw [List.append_nil]
  exact List.forall_mem_cons.mpr ⟨⟨show (20 : Nat) < 100 from by decide, nf0⟩, (fun _ h => (by cases h))⟩
def n_Sy_compileTest_at_k4_an : List an_T := [(12, [(0, (2, 0, 0, [11])), (1, (0, 4, 4, [])), (2, (0, 0, 2000, []))], [], (0, 0), [(0, 0, 99988), (1, 5, 2000), (0, 0, 100000)], [], [((0, 3), (2, 0, 0, [109]))], [(2, 0, 0, [11]), (0, 4, 4, []), (2, 0, 0, [109])], 0, [], [(20, [3], [50, 2, 0, 6, 8, 3, 7, 7, 3, 2, 0, 6, 0, 3, 0, 3, 2, 0, 8, 0, 9999]), (24, [0, 3], [])])]
def t_Sy_compileTest_at_k4_ct : ct_L := [(1, 69, e_Sy_advance), (1, 128, e_Sy_emit), (10, 140, e_Sy_compileBoth_at_k4), (70, 114, e_Sy_wordIn_at_s5011), (106, 140, e_Sy_compileBoth_at_k4), (1000000, 143, en_ro [] (2, 0, 0, [5011]))]
set_option maxRecDepth 100000 in
theorem c_Sy_compileTest_at_k4 {l : Launch} {D : va_G} {kA : Nat → ClassId} (h_Sy_advance : ct_ok PRD l D kA GG y_Sy_advance z_Sy_advance e_Sy_advance) (h_Sy_compileBoth_at_k4 : ct_ok PRD l D kA GG y_Sy_compileBoth_at_k4 z_Sy_compileBoth_at_k4 e_Sy_compileBoth_at_k4) (h_Sy_emit : ct_ok PRD l D kA GG y_Sy_emit z_Sy_emit e_Sy_emit) (h_Sy_wordIn_at_s5011 : ct_ok PRD l D kA GG y_Sy_wordIn_at_s5011 z_Sy_wordIn_at_s5011 e_Sy_wordIn_at_s5011) : ct_ok PRD l D kA GG y_Sy_compileTest_at_k4 z_Sy_compileTest_at_k4 e_Sy_compileTest_at_k4 := chk_all_ok (FT := []) (PT := []) (CT := t_Sy_compileTest_at_k4_ct) (KT := []) (NT := []) (AN := n_Sy_compileTest_at_k4_an) (OT := [o_Sy_compileTest_at_k4_0, o_Sy_compileTest_at_k4_1, o_Sy_compileTest_at_k4_2, o_Sy_compileTest_at_k4_3, o_Sy_compileTest_at_k4_4]) 3 200 (List.forall_mem_cons.mpr ⟨oo_Sy_compileTest_at_k4_0, List.forall_mem_cons.mpr ⟨oo_Sy_compileTest_at_k4_1, List.forall_mem_cons.mpr ⟨oo_Sy_compileTest_at_k4_2, List.forall_mem_cons.mpr ⟨oo_Sy_compileTest_at_k4_3, List.forall_mem_cons.mpr ⟨oo_Sy_compileTest_at_k4_4, List.forall_mem_nil _⟩⟩⟩⟩⟩) (by decide +kernel) ⟨List.forall_mem_nil _, List.forall_mem_nil _, List.forall_mem_cons.mpr ⟨cl_virtual (y := y_Sy_advance) (ci := 11) rfl rfl ⟨_, _, rfl⟩ (by decide +kernel) h_Sy_advance wm_2158 wm_23 wm_2155 wm_2157 wv_10_10 ⟨by decide, by decide, by decide +kernel⟩ (by decide), List.forall_mem_cons.mpr ⟨cl_virtual (y := y_Sy_emit) (ci := 11) rfl rfl ⟨_, _, rfl⟩ (by decide +kernel) h_Sy_emit wm_2258 wm_23 wm_2255 wm_2257 wv_11_2 ⟨by decide, by decide, by decide +kernel⟩ (by decide), List.forall_mem_cons.mpr ⟨cl_virtual (y := y_Sy_compileBoth_at_k4) (ci := 11) rfl rfl ⟨_, _, rfl⟩ (by decide +kernel) h_Sy_compileBoth_at_k4 wm_2249 wm_23 wm_2246 wm_2248 wv_11_0 ⟨by decide, by decide, by decide +kernel⟩ (by decide), List.forall_mem_cons.mpr ⟨cl_virtual (y := y_Sy_wordIn_at_s5011) (ci := 11) rfl rfl ⟨_, _, rfl⟩ (by decide +kernel) h_Sy_wordIn_at_s5011 wm_2229 wm_23 wm_2226 wm_2228 wv_10_12 ⟨by decide, by decide, by decide +kernel⟩ (by decide), List.forall_mem_cons.mpr ⟨cl_virtual (y := y_Sy_compileBoth_at_k4) (ci := 11) rfl rfl ⟨_, _, rfl⟩ (by decide +kernel) h_Sy_compileBoth_at_k4 wm_2249 wm_23 wm_2246 wm_2248 wv_11_0 ⟨by decide, by decide, by decide +kernel⟩ (by decide), List.forall_mem_cons.mpr ⟨cl_ldc (own := "DrawingHouse$Styler") (idx := 143) (i := 11) (tx := "or ") (by decide +kernel) (by decide +kernel) (by decide +kernel), List.forall_mem_nil _⟩⟩⟩⟩⟩⟩, List.forall_mem_nil _, List.forall_mem_nil _, GG_pl⟩ (by decide +kernel)
def o_Sy_compileTest_at_k5_0 : or_T := (12, 5, [], [], [], [], [(24, [0, 0], [])], [], [])
theorem oo_Sy_compileTest_at_k5_0 {kA : Nat → ClassId} : or_ok PRD kA GG o_Sy_compileTest_at_k5_0 := by
  refine or_mk fun A ta ws vs hD hth hl => ?_
  have nf0 : fc_1 PRD (24, [0, 0], []) ws (vs) := by
    refine ⟨nf_in hl rfl, sgq_1 ?_⟩
    · show n_v vs 0 = n_v vs 0
      first | rfl | simp only [true_and]
  refine ⟨(fun _ h => (by cases h)), [], trivial, ?_, (fun _ h => (by cases h))⟩
  rw [List.append_nil]
  exact List.forall_mem_cons.mpr ⟨⟨show (24 : Nat) < 100 from by decide, nf0⟩, (fun _ h => (by cases h))⟩
set_option maxHeartbeats 4000000 in
theorem vc_Sy_compileTest_at_k5_1_0 (kind_0 : Int) (number_0 : Int) (f0 : (kind_0 ≠ 3) ∨ (number_0 ≤ 9999)) (kz_0_6 : 0 ≤ kind_0 ∧ kind_0 ≤ 127) (kz_0_8 : 0 ≤ number_0 ∧ number_0 ≤ 1000000) : (kind_0 ≠ 3) ∨ (number_0 ≤ 9999) := by
  first
    | omega
  
def o_Sy_compileTest_at_k5_1 : or_T := (56, 9, [(0, (2, 0, 0, [11]))], [(20, [3], [50, 2, 0, 6, 8, 3, 7, 7, 3, 2, 0, 6, 0, 3, 0, 3, 2, 0, 8, 0, 9999]), (24, [0, 3], [])], [], [], [(20, [0], [50, 2, 0, 6, 8, 3, 7, 7, 3, 2, 0, 6, 0, 3, 0, 3, 2, 0, 8, 0, 9999])], [], [])
theorem oo_Sy_compileTest_at_k5_1 {kA : Nat → ClassId} : or_ok PRD kA GG o_Sy_compileTest_at_k5_1 := by
  refine or_mk fun A ta ws vs hD hth hl => ?_
  intro t0 r0 f0 f1
  replace f0 := shm_1840 f0
  replace f1 := shm_5 f1
  have q3 : n_v vs 3 = n_v vs 0 := f1.symm
  simp only [q3] at f0
  have kz_0_6 := fdq_313 hD hth r0
  have kz_0_8 := fdq_314 hD hth r0
  have nf0 : fc_1 PRD (20, [0], [50, 2, 0, 6, 8, 3, 7, 7, 3, 2, 0, 6, 0, 3, 0, 3, 2, 0, 8, 0, 9999]) ws (vs) := ⟨nf_in hl rfl, sgq_1840 (vc_Sy_compileTest_at_k5_1_0 (w_fi ws (n_v vs 0) 6) (w_fi ws (n_v vs 0) 8) f0 kz_0_6 kz_0_8)⟩
  refine ⟨(fun _ h => (by cases h)), [], trivial, ?_, (fun _ h => (by cases h))⟩
  rw [List.append_nil]
  exact List.forall_mem_cons.mpr ⟨⟨show (20 : Nat) < 100 from by decide, nf0⟩, (fun _ h => (by cases h))⟩
set_option maxHeartbeats 4000000 in
theorem vc_Sy_compileTest_at_k5_2_0 (kind_0 : Int) (number_0 : Int) (f0 : (kind_0 ≠ 3) ∨ (number_0 ≤ 9999)) (kz_0_6 : 0 ≤ kind_0 ∧ kind_0 ≤ 127) (kz_0_8 : 0 ≤ number_0 ∧ number_0 ≤ 1000000) : (kind_0 ≠ 3) ∨ (number_0 ≤ 9999) := by
  first
    | omega
  
def o_Sy_compileTest_at_k5_2 : or_T := (56, 11, [(0, (2, 0, 0, [11]))], [(20, [3], [50, 2, 0, 6, 8, 3, 7, 7, 3, 2, 0, 6, 0, 3, 0, 3, 2, 0, 8, 0, 9999]), (24, [0, 3], [])], [], [], [(20, [0], [50, 2, 0, 6, 8, 3, 7, 7, 3, 2, 0, 6, 0, 3, 0, 3, 2, 0, 8, 0, 9999])], [], [])
theorem oo_Sy_compileTest_at_k5_2 {kA : Nat → ClassId} : or_ok PRD kA GG o_Sy_compileTest_at_k5_2 := by
  refine or_mk fun A ta ws vs hD hth hl => ?_
  intro t0 r0 f0 f1
  replace f0 := shm_1840 f0
  replace f1 := shm_5 f1
  have q3 : n_v vs 3 = n_v vs 0 := f1.symm
  simp only [q3] at f0
  have kz_0_6 := fdq_313 hD hth r0
  have kz_0_8 := fdq_314 hD hth r0
  have nf0 : fc_1 PRD (20, [0], [50, 2, 0, 6, 8, 3, 7, 7, 3, 2, 0, 6, 0, 3, 0, 3, 2, 0, 8, 0, 9999]) ws (vs) := ⟨nf_in hl rfl, sgq_1840 (vc_Sy_compileTest_at_k5_2_0 (w_fi ws (n_v vs 0) 6) (w_fi ws (n_v vs 0) 8) f0 kz_0_6 kz_0_8)⟩
  refine ⟨(fun _ h => (by cases h)), [], trivial, ?_, (fun _ h => (by cases h))⟩
  rw [List.append_nil]
  exact List.forall_mem_cons.mpr ⟨⟨show (20 : Nat) < 100 from by decide, nf0⟩, (fun _ h => (by cases h))⟩
set_option maxHeartbeats 4000000 in
theorem vc_Sy_compileTest_at_k5_3_0 (x11 : Int) (x12 : Int) (k11 : 10 ≤ x11 ∧ x11 ≤ 10) (k12 : 0 ≤ x12 ∧ x12 ≤ 0) : (0 ≤ x11) ∧ ((0 ≤ x12) ∧ (((x11 * 65536) + x12) ≤ 851970)) := by
  first
    | omega
  
def o_Sy_compileTest_at_k5_3 : or_T := (46, 13, [(11, (0, 10, 10, [])), (12, (0, 0, 0, []))], [], [], [], [(20, [11, 12], [50, 0, 0, 2, 6, 0, 2, 0, 0, 1, 0, 2, 6, 0, 2, 0, 0, 1, 1, 0, 10, 4, 6, 6, 2, 1, 0, 0, 65536, 1, 1, 0, 851970])], [], [])
theorem oo_Sy_compileTest_at_k5_3 {kA : Nat → ClassId} : or_ok PRD kA GG o_Sy_compileTest_at_k5_3 := by
  refine or_mk fun A ta ws vs hD hth hl => ?_
  intro t11 k11 t12 k12
  have nf0 : fc_1 PRD (20, [11, 12], [50, 0, 0, 2, 6, 0, 2, 0, 0, 1, 0, 2, 6, 0, 2, 0, 0, 1, 1, 0, 10, 4, 6, 6, 2, 1, 0, 0, 65536, 1, 1, 0, 851970]) ws (vs) := ⟨nf_in hl rfl, sgq_493 (vc_Sy_compileTest_at_k5_3_0 (v_iv (n_v vs 11)) (v_iv (n_v vs 12)) k11 k12)⟩
  refine ⟨(fun _ h => (by cases h)), [], trivial, ?_, (fun _ h => (by cases h))⟩
  rw [List.append_nil]
  exact List.forall_mem_cons.mpr ⟨⟨show (20 : Nat) < 100 from by decide, nf0⟩, (fun _ h => (by cases h))⟩
set_option maxHeartbeats 4000000 in
theorem vc_Sy_compileTest_at_k5_4_0 (kind_0 : Int) (number_0 : Int) (f1 : (kind_0 ≠ 3) ∨ (number_0 ≤ 9999)) (kz_0_6 : 0 ≤ kind_0 ∧ kind_0 ≤ 127) (kz_0_8 : 0 ≤ number_0 ∧ number_0 ≤ 1000000) : (kind_0 ≠ 3) ∨ (number_0 ≤ 9999) := by
  first
    | omega
  
def o_Sy_compileTest_at_k5_4 : or_T := (41, 12, [(0, (2, 0, 0, [11]))], [(24, [0, 3], []), (20, [3], [50, 2, 0, 6, 8, 3, 7, 7, 3, 2, 0, 6, 0, 3, 0, 3, 2, 0, 8, 0, 9999])], [], [], [(20, [0], [50, 2, 0, 6, 8, 3, 7, 7, 3, 2, 0, 6, 0, 3, 0, 3, 2, 0, 8, 0, 9999])], [], [])
theorem oo_Sy_compileTest_at_k5_4 {kA : Nat → ClassId} : or_ok PRD kA GG o_Sy_compileTest_at_k5_4 := by
  refine or_mk fun A ta ws vs hD hth hl => ?_
  intro t0 r0 f0 f1
  replace f0 := shm_5 f0
  replace f1 := shm_1840 f1
  have q3 : n_v vs 3 = n_v vs 0 := f0.symm
  simp only [q3] at f1
  have kz_0_6 := fdq_313 hD hth r0
  have kz_0_8 := fdq_314 hD hth r0
  have nf0 : fc_1 PRD (20, [0], [50, 2, 0, 6, 8, 3, 7, 7, 3, 2, 0, 6, 0, 3, 0, 3, 2, 0, 8, 0, 9999]) ws (vs) := ⟨nf_in hl rfl, sgq_1840 (vc_Sy_compileTest_at_k5_4_0 (w_fi ws (n_v vs 0) 6) (w_fi ws (n_v vs 0) 8) f1 kz_0_6 kz_0_8)⟩
  refine ⟨(fun _ h => (by cases h)), [], trivial, ?_, (fun _ h => (by cases h))⟩
  rw [List.append_nil]
  exact List.forall_mem_cons.mpr ⟨⟨show (20 : Nat) < 100 from by decide, nf0⟩, (fun _ h => (by cases h))⟩
def n_Sy_compileTest_at_k5_an : List an_T := [(12, [(0, (2, 0, 0, [11])), (1, (0, 5, 5, [])), (2, (0, 0, 2000, []))], [], (0, 0), [(0, 0, 99988), (1, 5, 2000), (0, 0, 100000)], [], [((0, 3), (2, 0, 0, [109]))], [(2, 0, 0, [11]), (0, 5, 5, []), (2, 0, 0, [109])], 0, [], [(20, [3], [50, 2, 0, 6, 8, 3, 7, 7, 3, 2, 0, 6, 0, 3, 0, 3, 2, 0, 8, 0, 9999]), (24, [0, 3], [])])]
def t_Sy_compileTest_at_k5_ct : ct_L := [(1, 69, e_Sy_advance), (1, 128, e_Sy_emit), (10, 140, e_Sy_compileBoth_at_k5), (70, 114, e_Sy_wordIn_at_s5011), (106, 140, e_Sy_compileBoth_at_k5), (1000000, 143, en_ro [] (2, 0, 0, [5011]))]
set_option maxRecDepth 100000 in
theorem c_Sy_compileTest_at_k5 {l : Launch} {D : va_G} {kA : Nat → ClassId} (h_Sy_advance : ct_ok PRD l D kA GG y_Sy_advance z_Sy_advance e_Sy_advance) (h_Sy_compileBoth_at_k5 : ct_ok PRD l D kA GG y_Sy_compileBoth_at_k5 z_Sy_compileBoth_at_k5 e_Sy_compileBoth_at_k5) (h_Sy_emit : ct_ok PRD l D kA GG y_Sy_emit z_Sy_emit e_Sy_emit) (h_Sy_wordIn_at_s5011 : ct_ok PRD l D kA GG y_Sy_wordIn_at_s5011 z_Sy_wordIn_at_s5011 e_Sy_wordIn_at_s5011) : ct_ok PRD l D kA GG y_Sy_compileTest_at_k5 z_Sy_compileTest_at_k5 e_Sy_compileTest_at_k5 := chk_all_ok (FT := []) (PT := []) (CT := t_Sy_compileTest_at_k5_ct) (KT := []) (NT := []) (AN := n_Sy_compileTest_at_k5_an) (OT := [o_Sy_compileTest_at_k5_0, o_Sy_compileTest_at_k5_1, o_Sy_compileTest_at_k5_2, o_Sy_compileTest_at_k5_3, o_Sy_compileTest_at_k5_4]) 3 200 (List.forall_mem_cons.mpr ⟨oo_Sy_compileTest_at_k5_0, List.forall_mem_cons.mpr ⟨oo_Sy_compileTest_at_k5_1, List.forall_mem_cons.mpr ⟨oo_Sy_compileTest_at_k5_2, List.forall_mem_cons.mpr ⟨oo_Sy_compileTest_at_k5_3, List.forall_mem_cons.mpr ⟨oo_Sy_compileTest_at_k5_4, List.forall_mem_nil _⟩⟩⟩⟩⟩) (by decide +kernel) ⟨List.forall_mem_nil _, List.forall_mem_nil _, List.forall_mem_cons.mpr ⟨cl_virtual (y := y_Sy_advance) (ci := 11) rfl rfl ⟨_, _, rfl⟩ (by decide +kernel) h_Sy_advance wm_2158 wm_23 wm_2155 wm_2157 wv_10_10 ⟨by decide, by decide, by decide +kernel⟩ (by decide), List.forall_mem_cons.mpr ⟨cl_virtual (y := y_Sy_emit) (ci := 11) rfl rfl ⟨_, _, rfl⟩ (by decide +kernel) h_Sy_emit wm_2258 wm_23 wm_2255 wm_2257 wv_11_2 ⟨by decide, by decide, by decide +kernel⟩ (by decide), List.forall_mem_cons.mpr ⟨cl_virtual (y := y_Sy_compileBoth_at_k5) (ci := 11) rfl rfl ⟨_, _, rfl⟩ (by decide +kernel) h_Sy_compileBoth_at_k5 wm_2249 wm_23 wm_2246 wm_2248 wv_11_0 ⟨by decide, by decide, by decide +kernel⟩ (by decide), List.forall_mem_cons.mpr ⟨cl_virtual (y := y_Sy_wordIn_at_s5011) (ci := 11) rfl rfl ⟨_, _, rfl⟩ (by decide +kernel) h_Sy_wordIn_at_s5011 wm_2229 wm_23 wm_2226 wm_2228 wv_10_12 ⟨by decide, by decide, by decide +kernel⟩ (by decide), List.forall_mem_cons.mpr ⟨cl_virtual (y := y_Sy_compileBoth_at_k5) (ci := 11) rfl rfl ⟨_, _, rfl⟩ (by decide +kernel) h_Sy_compileBoth_at_k5 wm_2249 wm_23 wm_2246 wm_2248 wv_11_0 ⟨by decide, by decide, by decide +kernel⟩ (by decide), List.forall_mem_cons.mpr ⟨cl_ldc (own := "DrawingHouse$Styler") (idx := 143) (i := 11) (tx := "or ") (by decide +kernel) (by decide +kernel) (by decide +kernel), List.forall_mem_nil _⟩⟩⟩⟩⟩⟩, List.forall_mem_nil _, List.forall_mem_nil _, GG_pl⟩ (by decide +kernel)
def o_Sy_compileTest_at_k6_0 : or_T := (12, 5, [], [], [], [], [(24, [0, 0], [])], [], [])
theorem oo_Sy_compileTest_at_k6_0 {kA : Nat → ClassId} : or_ok PRD kA GG o_Sy_compileTest_at_k6_0 := by
  refine or_mk fun A ta ws vs hD hth hl => ?_
  have nf0 : fc_1 PRD (24, [0, 0], []) ws (vs) := by
    refine ⟨nf_in hl rfl, sgq_1 ?_⟩
    · show n_v vs 0 = n_v vs 0
      first | rfl | simp only [true_and]
  refine ⟨(fun _ h => (by cases h)), [], trivial, ?_, (fun _ h => (by cases h))⟩
  rw [List.append_nil]
  exact List.forall_mem_cons.mpr ⟨⟨show (24 : Nat) < 100 from by decide, nf0⟩, (fun _ h => (by cases h))⟩
set_option maxHeartbeats 4000000 in
theorem vc_Sy_compileTest_at_k6_1_0 (kind_0 : Int) (number_0 : Int) (f0 : (kind_0 ≠ 3) ∨ (number_0 ≤ 9999)) (kz_0_6 : 0 ≤ kind_0 ∧ kind_0 ≤ 127) (kz_0_8 : 0 ≤ number_0 ∧ number_0 ≤ 1000000) : (kind_0 ≠ 3) ∨ (number_0 ≤ 9999) := by
  first
    | omega
  
def o_Sy_compileTest_at_k6_1 : or_T := (56, 9, [(0, (2, 0, 0, [11]))], [(20, [3], [50, 2, 0, 6, 8, 3, 7, 7, 3, 2, 0, 6, 0, 3, 0, 3, 2, 0, 8, 0, 9999]), (24, [0, 3], [])], [], [], [(20, [0], [50, 2, 0, 6, 8, 3, 7, 7, 3, 2, 0, 6, 0, 3, 0, 3, 2, 0, 8, 0, 9999])], [], [])
theorem oo_Sy_compileTest_at_k6_1 {kA : Nat → ClassId} : or_ok PRD kA GG o_Sy_compileTest_at_k6_1 := by
  refine or_mk fun A ta ws vs hD hth hl => ?_
  intro t0 r0 f0 f1
  replace f0 := shm_1840 f0
  replace f1 := shm_5 f1
  have q3 : n_v vs 3 = n_v vs 0 := f1.symm
  simp only [q3] at f0
  have kz_0_6 := fdq_313 hD hth r0
  have kz_0_8 := fdq_314 hD hth r0
  have nf0 : fc_1 PRD (20, [0], [50, 2, 0, 6, 8, 3, 7, 7, 3, 2, 0, 6, 0, 3, 0, 3, 2, 0, 8, 0, 9999]) ws (vs) := ⟨nf_in hl rfl, sgq_1840 (vc_Sy_compileTest_at_k6_1_0 (w_fi ws (n_v vs 0) 6) (w_fi ws (n_v vs 0) 8) f0 kz_0_6 kz_0_8)⟩
  refine ⟨(fun _ h => (by cases h)), [], trivial, ?_, (fun _ h => (by cases h))⟩
  rw [List.append_nil]
  exact List.forall_mem_cons.mpr ⟨⟨show (20 : Nat) < 100 from by decide, nf0⟩, (fun _ h => (by cases h))⟩
set_option maxHeartbeats 4000000 in
theorem vc_Sy_compileTest_at_k6_2_0 (kind_0 : Int) (number_0 : Int) (f0 : (kind_0 ≠ 3) ∨ (number_0 ≤ 9999)) (kz_0_6 : 0 ≤ kind_0 ∧ kind_0 ≤ 127) (kz_0_8 : 0 ≤ number_0 ∧ number_0 ≤ 1000000) : (kind_0 ≠ 3) ∨ (number_0 ≤ 9999) := by
  first
    | omega
  
def o_Sy_compileTest_at_k6_2 : or_T := (56, 11, [(0, (2, 0, 0, [11]))], [(20, [3], [50, 2, 0, 6, 8, 3, 7, 7, 3, 2, 0, 6, 0, 3, 0, 3, 2, 0, 8, 0, 9999]), (24, [0, 3], [])], [], [], [(20, [0], [50, 2, 0, 6, 8, 3, 7, 7, 3, 2, 0, 6, 0, 3, 0, 3, 2, 0, 8, 0, 9999])], [], [])
theorem oo_Sy_compileTest_at_k6_2 {kA : Nat → ClassId} : or_ok PRD kA GG o_Sy_compileTest_at_k6_2 := by
  refine or_mk fun A ta ws vs hD hth hl => ?_
  intro t0 r0 f0 f1
  replace f0 := shm_1840 f0
  replace f1 := shm_5 f1
  have q3 : n_v vs 3 = n_v vs 0 := f1.symm
  simp only [q3] at f0
  have kz_0_6 := fdq_313 hD hth r0
  have kz_0_8 := fdq_314 hD hth r0
  have nf0 : fc_1 PRD (20, [0], [50, 2, 0, 6, 8, 3, 7, 7, 3, 2, 0, 6, 0, 3, 0, 3, 2, 0, 8, 0, 9999]) ws (vs) := ⟨nf_in hl rfl, sgq_1840 (vc_Sy_compileTest_at_k6_2_0 (w_fi ws (n_v vs 0) 6) (w_fi ws (n_v vs 0) 8) f0 kz_0_6 kz_0_8)⟩
  refine ⟨(fun _ h => (by cases h)), [], trivial, ?_, (fun _ h => (by cases h))⟩
  rw [List.append_nil]
  exact List.forall_mem_cons.mpr ⟨⟨show (20 : Nat) < 100 from by decide, nf0⟩, (fun _ h => (by cases h))⟩
set_option maxHeartbeats 4000000 in
theorem vc_Sy_compileTest_at_k6_3_0 (x11 : Int) (x12 : Int) (k11 : 10 ≤ x11 ∧ x11 ≤ 10) (k12 : 0 ≤ x12 ∧ x12 ≤ 0) : (0 ≤ x11) ∧ ((0 ≤ x12) ∧ (((x11 * 65536) + x12) ≤ 851970)) := by
  first
    | omega
  
def o_Sy_compileTest_at_k6_3 : or_T := (46, 13, [(11, (0, 10, 10, [])), (12, (0, 0, 0, []))], [], [], [], [(20, [11, 12], [50, 0, 0, 2, 6, 0, 2, 0, 0, 1, 0, 2, 6, 0, 2, 0, 0, 1, 1, 0, 10, 4, 6, 6, 2, 1, 0, 0, 65536, 1, 1, 0, 851970])], [], [])
theorem oo_Sy_compileTest_at_k6_3 {kA : Nat → ClassId} : or_ok PRD kA GG o_Sy_compileTest_at_k6_3 := by
  refine or_mk fun A ta ws vs hD hth hl => ?_
  intro t11 k11 t12 k12
  have nf0 : fc_1 PRD (20, [11, 12], [50, 0, 0, 2, 6, 0, 2, 0, 0, 1, 0, 2, 6, 0, 2, 0, 0, 1, 1, 0, 10, 4, 6, 6, 2, 1, 0, 0, 65536, 1, 1, 0, 851970]) ws (vs) := ⟨nf_in hl rfl, sgq_493 (vc_Sy_compileTest_at_k6_3_0 (v_iv (n_v vs 11)) (v_iv (n_v vs 12)) k11 k12)⟩
  refine ⟨(fun _ h => (by cases h)), [], trivial, ?_, (fun _ h => (by cases h))⟩
  rw [List.append_nil]
  exact List.forall_mem_cons.mpr ⟨⟨show (20 : Nat) < 100 from by decide, nf0⟩, (fun _ h => (by cases h))⟩
set_option maxHeartbeats 4000000 in
theorem vc_Sy_compileTest_at_k6_4_0 (kind_0 : Int) (number_0 : Int) (f1 : (kind_0 ≠ 3) ∨ (number_0 ≤ 9999)) (kz_0_6 : 0 ≤ kind_0 ∧ kind_0 ≤ 127) (kz_0_8 : 0 ≤ number_0 ∧ number_0 ≤ 1000000) : (kind_0 ≠ 3) ∨ (number_0 ≤ 9999) := by
  first
    | omega
  
def o_Sy_compileTest_at_k6_4 : or_T := (41, 12, [(0, (2, 0, 0, [11]))], [(24, [0, 3], []), (20, [3], [50, 2, 0, 6, 8, 3, 7, 7, 3, 2, 0, 6, 0, 3, 0, 3, 2, 0, 8, 0, 9999])], [], [], [(20, [0], [50, 2, 0, 6, 8, 3, 7, 7, 3, 2, 0, 6, 0, 3, 0, 3, 2, 0, 8, 0, 9999])], [], [])
theorem oo_Sy_compileTest_at_k6_4 {kA : Nat → ClassId} : or_ok PRD kA GG o_Sy_compileTest_at_k6_4 := by
  refine or_mk fun A ta ws vs hD hth hl => ?_
  intro t0 r0 f0 f1
  replace f0 := shm_5 f0
  replace f1 := shm_1840 f1
  have q3 : n_v vs 3 = n_v vs 0 := f0.symm
  simp only [q3] at f1
  have kz_0_6 := fdq_313 hD hth r0
  have kz_0_8 := fdq_314 hD hth r0
  have nf0 : fc_1 PRD (20, [0], [50, 2, 0, 6, 8, 3, 7, 7, 3, 2, 0, 6, 0, 3, 0, 3, 2, 0, 8, 0, 9999]) ws (vs) := ⟨nf_in hl rfl, sgq_1840 (vc_Sy_compileTest_at_k6_4_0 (w_fi ws (n_v vs 0) 6) (w_fi ws (n_v vs 0) 8) f1 kz_0_6 kz_0_8)⟩
  refine ⟨(fun _ h => (by cases h)), [], trivial, ?_, (fun _ h => (by cases h))⟩
  rw [List.append_nil]
  exact List.forall_mem_cons.mpr ⟨⟨show (20 : Nat) < 100 from by decide, nf0⟩, (fun _ h => (by cases h))⟩
def n_Sy_compileTest_at_k6_an : List an_T := [(12, [(0, (2, 0, 0, [11])), (1, (0, 6, 6, [])), (2, (0, 0, 2000, []))], [], (0, 0), [(0, 0, 99988), (1, 5, 2000), (0, 0, 100000)], [], [((0, 3), (2, 0, 0, [109]))], [(2, 0, 0, [11]), (0, 6, 6, []), (2, 0, 0, [109])], 0, [], [(20, [3], [50, 2, 0, 6, 8, 3, 7, 7, 3, 2, 0, 6, 0, 3, 0, 3, 2, 0, 8, 0, 9999]), (24, [0, 3], [])])]
def t_Sy_compileTest_at_k6_ct : ct_L := [(1, 69, e_Sy_advance), (1, 128, e_Sy_emit), (10, 140, e_Sy_compileBoth_at_k6), (70, 114, e_Sy_wordIn_at_s5011), (106, 140, e_Sy_compileBoth_at_k6), (1000000, 143, en_ro [] (2, 0, 0, [5011]))]
set_option maxRecDepth 100000 in
theorem c_Sy_compileTest_at_k6 {l : Launch} {D : va_G} {kA : Nat → ClassId} (h_Sy_advance : ct_ok PRD l D kA GG y_Sy_advance z_Sy_advance e_Sy_advance) (h_Sy_compileBoth_at_k6 : ct_ok PRD l D kA GG y_Sy_compileBoth_at_k6 z_Sy_compileBoth_at_k6 e_Sy_compileBoth_at_k6) (h_Sy_emit : ct_ok PRD l D kA GG y_Sy_emit z_Sy_emit e_Sy_emit) (h_Sy_wordIn_at_s5011 : ct_ok PRD l D kA GG y_Sy_wordIn_at_s5011 z_Sy_wordIn_at_s5011 e_Sy_wordIn_at_s5011) : ct_ok PRD l D kA GG y_Sy_compileTest_at_k6 z_Sy_compileTest_at_k6 e_Sy_compileTest_at_k6 := chk_all_ok (FT := []) (PT := []) (CT := t_Sy_compileTest_at_k6_ct) (KT := []) (NT := []) (AN := n_Sy_compileTest_at_k6_an) (OT := [o_Sy_compileTest_at_k6_0, o_Sy_compileTest_at_k6_1, o_Sy_compileTest_at_k6_2, o_Sy_compileTest_at_k6_3, o_Sy_compileTest_at_k6_4]) 3 200 (List.forall_mem_cons.mpr ⟨oo_Sy_compileTest_at_k6_0, List.forall_mem_cons.mpr ⟨oo_Sy_compileTest_at_k6_1, List.forall_mem_cons.mpr ⟨oo_Sy_compileTest_at_k6_2, List.forall_mem_cons.mpr ⟨oo_Sy_compileTest_at_k6_3, List.forall_mem_cons.mpr ⟨oo_Sy_compileTest_at_k6_4, List.forall_mem_nil _⟩⟩⟩⟩⟩) (by decide +kernel) ⟨List.forall_mem_nil _, List.forall_mem_nil _, List.forall_mem_cons.mpr ⟨cl_virtual (y := y_Sy_advance) (ci := 11) rfl rfl ⟨_, _, rfl⟩ (by decide +kernel) h_Sy_advance wm_2158 wm_23 wm_2155 wm_2157 wv_10_10 ⟨by decide, by decide, by decide +kernel⟩ (by decide), List.forall_mem_cons.mpr ⟨cl_virtual (y := y_Sy_emit) (ci := 11) rfl rfl ⟨_, _, rfl⟩ (by decide +kernel) h_Sy_emit wm_2258 wm_23 wm_2255 wm_2257 wv_11_2 ⟨by decide, by decide, by decide +kernel⟩ (by decide), List.forall_mem_cons.mpr ⟨cl_virtual (y := y_Sy_compileBoth_at_k6) (ci := 11) rfl rfl ⟨_, _, rfl⟩ (by decide +kernel) h_Sy_compileBoth_at_k6 wm_2249 wm_23 wm_2246 wm_2248 wv_11_0 ⟨by decide, by decide, by decide +kernel⟩ (by decide), List.forall_mem_cons.mpr ⟨cl_virtual (y := y_Sy_wordIn_at_s5011) (ci := 11) rfl rfl ⟨_, _, rfl⟩ (by decide +kernel) h_Sy_wordIn_at_s5011 wm_2229 wm_23 wm_2226 wm_2228 wv_10_12 ⟨by decide, by decide, by decide +kernel⟩ (by decide), List.forall_mem_cons.mpr ⟨cl_virtual (y := y_Sy_compileBoth_at_k6) (ci := 11) rfl rfl ⟨_, _, rfl⟩ (by decide +kernel) h_Sy_compileBoth_at_k6 wm_2249 wm_23 wm_2246 wm_2248 wv_11_0 ⟨by decide, by decide, by decide +kernel⟩ (by decide), List.forall_mem_cons.mpr ⟨cl_ldc (own := "DrawingHouse$Styler") (idx := 143) (i := 11) (tx := "or ") (by decide +kernel) (by decide +kernel) (by decide +kernel), List.forall_mem_nil _⟩⟩⟩⟩⟩⟩, List.forall_mem_nil _, List.forall_mem_nil _, GG_pl⟩ (by decide +kernel)
def o_Sy_compileTest_at_k7_0 : or_T := (12, 5, [], [], [], [], [(24, [0, 0], [])], [], [])
theorem oo_Sy_compileTest_at_k7_0 {kA : Nat → ClassId} : or_ok PRD kA GG o_Sy_compileTest_at_k7_0 := by
  refine or_mk fun A ta ws vs hD hth hl => ?_
  have nf0 : fc_1 PRD (24, [0, 0], []) ws (vs) := by
    refine ⟨nf_in hl rfl, sgq_1 ?_⟩
    · show n_v vs 0 = n_v vs 0
      first | rfl | simp only [true_and]
  refine ⟨(fun _ h => (by cases h)), [], trivial, ?_, (fun _ h => (by cases h))⟩
  rw [List.append_nil]
  exact List.forall_mem_cons.mpr ⟨⟨show (24 : Nat) < 100 from by decide, nf0⟩, (fun _ h => (by cases h))⟩
set_option maxHeartbeats 4000000 in
theorem vc_Sy_compileTest_at_k7_1_0 (kind_0 : Int) (number_0 : Int) (f0 : (kind_0 ≠ 3) ∨ (number_0 ≤ 9999)) (kz_0_6 : 0 ≤ kind_0 ∧ kind_0 ≤ 127) (kz_0_8 : 0 ≤ number_0 ∧ number_0 ≤ 1000000) : (kind_0 ≠ 3) ∨ (number_0 ≤ 9999) := by
  first
    | omega
  
def o_Sy_compileTest_at_k7_1 : or_T := (56, 9, [(0, (2, 0, 0, [11]))], [(20, [3], [50, 2, 0, 6, 8, 3, 7, 7, 3, 2, 0, 6, 0, 3, 0, 3, 2, 0, 8, 0, 9999]), (24, [0, 3], [])], [], [], [(20, [0], [50, 2, 0, 6, 8, 3, 7, 7, 3, 2, 0, 6, 0, 3, 0, 3, 2, 0, 8, 0, 9999])], [], [])
theorem oo_Sy_compileTest_at_k7_1 {kA : Nat → ClassId} : or_ok PRD kA GG o_Sy_compileTest_at_k7_1 := by
  refine or_mk fun A ta ws vs hD hth hl => ?_
  intro t0 r0 f0 f1
  replace f0 := shm_1840 f0
  replace f1 := shm_5 f1
  have q3 : n_v vs 3 = n_v vs 0 := f1.symm
  simp only [q3] at f0
  have kz_0_6 := fdq_313 hD hth r0
  have kz_0_8 := fdq_314 hD hth r0
  have nf0 : fc_1 PRD (20, [0], [50, 2, 0, 6, 8, 3, 7, 7, 3, 2, 0, 6, 0, 3, 0, 3, 2, 0, 8, 0, 9999]) ws (vs) := ⟨nf_in hl rfl, sgq_1840 (vc_Sy_compileTest_at_k7_1_0 (w_fi ws (n_v vs 0) 6) (w_fi ws (n_v vs 0) 8) f0 kz_0_6 kz_0_8)⟩
  refine ⟨(fun _ h => (by cases h)), [], trivial, ?_, (fun _ h => (by cases h))⟩
  rw [List.append_nil]
  exact List.forall_mem_cons.mpr ⟨⟨show (20 : Nat) < 100 from by decide, nf0⟩, (fun _ h => (by cases h))⟩
set_option maxHeartbeats 4000000 in
theorem vc_Sy_compileTest_at_k7_2_0 (kind_0 : Int) (number_0 : Int) (f0 : (kind_0 ≠ 3) ∨ (number_0 ≤ 9999)) (kz_0_6 : 0 ≤ kind_0 ∧ kind_0 ≤ 127) (kz_0_8 : 0 ≤ number_0 ∧ number_0 ≤ 1000000) : (kind_0 ≠ 3) ∨ (number_0 ≤ 9999) := by
  first
    | omega
  
def o_Sy_compileTest_at_k7_2 : or_T := (56, 11, [(0, (2, 0, 0, [11]))], [(20, [3], [50, 2, 0, 6, 8, 3, 7, 7, 3, 2, 0, 6, 0, 3, 0, 3, 2, 0, 8, 0, 9999]), (24, [0, 3], [])], [], [], [(20, [0], [50, 2, 0, 6, 8, 3, 7, 7, 3, 2, 0, 6, 0, 3, 0, 3, 2, 0, 8, 0, 9999])], [], [])
theorem oo_Sy_compileTest_at_k7_2 {kA : Nat → ClassId} : or_ok PRD kA GG o_Sy_compileTest_at_k7_2 := by
  refine or_mk fun A ta ws vs hD hth hl => ?_
  intro t0 r0 f0 f1
  replace f0 := shm_1840 f0
  replace f1 := shm_5 f1
  have q3 : n_v vs 3 = n_v vs 0 := f1.symm
  simp only [q3] at f0
  have kz_0_6 := fdq_313 hD hth r0
  have kz_0_8 := fdq_314 hD hth r0
  have nf0 : fc_1 PRD (20, [0], [50, 2, 0, 6, 8, 3, 7, 7, 3, 2, 0, 6, 0, 3, 0, 3, 2, 0, 8, 0, 9999]) ws (vs) := ⟨nf_in hl rfl, sgq_1840 (vc_Sy_compileTest_at_k7_2_0 (w_fi ws (n_v vs 0) 6) (w_fi ws (n_v vs 0) 8) f0 kz_0_6 kz_0_8)⟩
  refine ⟨(fun _ h => (by cases h)), [], trivial, ?_, (fun _ h => (by cases h))⟩
  rw [List.append_nil]
  exact List.forall_mem_cons.mpr ⟨⟨show (20 : Nat) < 100 from by decide, nf0⟩, (fun _ h => (by cases h))⟩
set_option maxHeartbeats 4000000 in
theorem vc_Sy_compileTest_at_k7_3_0 (x11 : Int) (x12 : Int) (k11 : 10 ≤ x11 ∧ x11 ≤ 10) (k12 : 0 ≤ x12 ∧ x12 ≤ 0) : (0 ≤ x11) ∧ ((0 ≤ x12) ∧ (((x11 * 65536) + x12) ≤ 851970)) := by
  first
    | omega
  
def o_Sy_compileTest_at_k7_3 : or_T := (46, 13, [(11, (0, 10, 10, [])), (12, (0, 0, 0, []))], [], [], [], [(20, [11, 12], [50, 0, 0, 2, 6, 0, 2, 0, 0, 1, 0, 2, 6, 0, 2, 0, 0, 1, 1, 0, 10, 4, 6, 6, 2, 1, 0, 0, 65536, 1, 1, 0, 851970])], [], [])
theorem oo_Sy_compileTest_at_k7_3 {kA : Nat → ClassId} : or_ok PRD kA GG o_Sy_compileTest_at_k7_3 := by
  refine or_mk fun A ta ws vs hD hth hl => ?_
  intro t11 k11 t12 k12
  have nf0 : fc_1 PRD (20, [11, 12], [50, 0, 0, 2, 6, 0, 2, 0, 0, 1, 0, 2, 6, 0, 2, 0, 0, 1, 1, 0, 10, 4, 6, 6, 2, 1, 0, 0, 65536, 1, 1, 0, 851970]) ws (vs) := ⟨nf_in hl rfl, sgq_493 (vc_Sy_compileTest_at_k7_3_0 (v_iv (n_v vs 11)) (v_iv (n_v vs 12)) k11 k12)⟩
  refine ⟨(fun _ h => (by cases h)), [], trivial, ?_, (fun _ h => (by cases h))⟩
  rw [List.append_nil]
  exact List.forall_mem_cons.mpr ⟨⟨show (20 : Nat) < 100 from by decide, nf0⟩, (fun _ h => (by cases h))⟩
set_option maxHeartbeats 4000000 in
theorem vc_Sy_compileTest_at_k7_4_0 (kind_0 : Int) (number_0 : Int) (f1 : (kind_0 ≠ 3) ∨ (number_0 ≤ 9999)) (kz_0_6 : 0 ≤ kind_0 ∧ kind_0 ≤ 127) (kz_0_8 : 0 ≤ number_0 ∧ number_0 ≤ 1000000) : (kind_0 ≠ 3) ∨ (number_0 ≤ 9999) := by
  first
    | omega
  
def o_Sy_compileTest_at_k7_4 : or_T := (41, 12, [(0, (2, 0, 0, [11]))], [(24, [0, 3], []), (20, [3], [50, 2, 0, 6, 8, 3, 7, 7, 3, 2, 0, 6, 0, 3, 0, 3, 2, 0, 8, 0, 9999])], [], [], [(20, [0], [50, 2, 0, 6, 8, 3, 7, 7, 3, 2, 0, 6, 0, 3, 0, 3, 2, 0, 8, 0, 9999])], [], [])
theorem oo_Sy_compileTest_at_k7_4 {kA : Nat → ClassId} : or_ok PRD kA GG o_Sy_compileTest_at_k7_4 := by
  refine or_mk fun A ta ws vs hD hth hl => ?_
  intro t0 r0 f0 f1
  replace f0 := shm_5 f0
  replace f1 := shm_1840 f1
  have q3 : n_v vs 3 = n_v vs 0 := f0.symm
  simp only [q3] at f1
  have kz_0_6 := fdq_313 hD hth r0
  have kz_0_8 := fdq_314 hD hth r0
  have nf0 : fc_1 PRD (20, [0], [50, 2, 0, 6, 8, 3, 7, 7, 3, 2, 0, 6, 0, 3, 0, 3, 2, 0, 8, 0, 9999]) ws (vs) := ⟨nf_in hl rfl, sgq_1840 (vc_Sy_compileTest_at_k7_4_0 (w_fi ws (n_v vs 0) 6) (w_fi ws (n_v vs 0) 8) f1 kz_0_6 kz_0_8)⟩
  refine ⟨(fun _ h => (by cases h)), [], trivial, ?_, (fun _ h => (by cases h))⟩
  rw [List.append_nil]
  exact List.forall_mem_cons.mpr ⟨⟨show (20 : Nat) < 100 from by decide, nf0⟩, (fun _ h => (by cases h))⟩
def n_Sy_compileTest_at_k7_an : List an_T := [(12, [(0, (2, 0, 0, [11])), (1, (0, 7, 7, [])), (2, (0, 0, 2000, []))], [], (0, 0), [(0, 0, 99988), (1, 5, 2000), (0, 0, 100000)], [], [((0, 3), (2, 0, 0, [109]))], [(2, 0, 0, [11]), (0, 7, 7, []), (2, 0, 0, [109])], 0, [], [(20, [3], [50, 2, 0, 6, 8, 3, 7, 7, 3, 2, 0, 6, 0, 3, 0, 3, 2, 0, 8, 0, 9999]), (24, [0, 3], [])])]
def t_Sy_compileTest_at_k7_ct : ct_L := [(1, 69, e_Sy_advance), (1, 128, e_Sy_emit), (10, 140, e_Sy_compileBoth_at_k7), (70, 114, e_Sy_wordIn_at_s5011), (106, 140, e_Sy_compileBoth_at_k7), (1000000, 143, en_ro [] (2, 0, 0, [5011]))]
set_option maxRecDepth 100000 in
theorem c_Sy_compileTest_at_k7 {l : Launch} {D : va_G} {kA : Nat → ClassId} (h_Sy_advance : ct_ok PRD l D kA GG y_Sy_advance z_Sy_advance e_Sy_advance) (h_Sy_compileBoth_at_k7 : ct_ok PRD l D kA GG y_Sy_compileBoth_at_k7 z_Sy_compileBoth_at_k7 e_Sy_compileBoth_at_k7) (h_Sy_emit : ct_ok PRD l D kA GG y_Sy_emit z_Sy_emit e_Sy_emit) (h_Sy_wordIn_at_s5011 : ct_ok PRD l D kA GG y_Sy_wordIn_at_s5011 z_Sy_wordIn_at_s5011 e_Sy_wordIn_at_s5011) : ct_ok PRD l D kA GG y_Sy_compileTest_at_k7 z_Sy_compileTest_at_k7 e_Sy_compileTest_at_k7 := chk_all_ok (FT := []) (PT := []) (CT := t_Sy_compileTest_at_k7_ct) (KT := []) (NT := []) (AN := n_Sy_compileTest_at_k7_an) (OT := [o_Sy_compileTest_at_k7_0, o_Sy_compileTest_at_k7_1, o_Sy_compileTest_at_k7_2, o_Sy_compileTest_at_k7_3, o_Sy_compileTest_at_k7_4]) 3 200 (List.forall_mem_cons.mpr ⟨oo_Sy_compileTest_at_k7_0, List.forall_mem_cons.mpr ⟨oo_Sy_compileTest_at_k7_1, List.forall_mem_cons.mpr ⟨oo_Sy_compileTest_at_k7_2, List.forall_mem_cons.mpr ⟨oo_Sy_compileTest_at_k7_3, List.forall_mem_cons.mpr ⟨oo_Sy_compileTest_at_k7_4, List.forall_mem_nil _⟩⟩⟩⟩⟩) (by decide +kernel) ⟨List.forall_mem_nil _, List.forall_mem_nil _, List.forall_mem_cons.mpr ⟨cl_virtual (y := y_Sy_advance) (ci := 11) rfl rfl ⟨_, _, rfl⟩ (by decide +kernel) h_Sy_advance wm_2158 wm_23 wm_2155 wm_2157 wv_10_10 ⟨by decide, by decide, by decide +kernel⟩ (by decide), List.forall_mem_cons.mpr ⟨cl_virtual (y := y_Sy_emit) (ci := 11) rfl rfl ⟨_, _, rfl⟩ (by decide +kernel) h_Sy_emit wm_2258 wm_23 wm_2255 wm_2257 wv_11_2 ⟨by decide, by decide, by decide +kernel⟩ (by decide), List.forall_mem_cons.mpr ⟨cl_virtual (y := y_Sy_compileBoth_at_k7) (ci := 11) rfl rfl ⟨_, _, rfl⟩ (by decide +kernel) h_Sy_compileBoth_at_k7 wm_2249 wm_23 wm_2246 wm_2248 wv_11_0 ⟨by decide, by decide, by decide +kernel⟩ (by decide), List.forall_mem_cons.mpr ⟨cl_virtual (y := y_Sy_wordIn_at_s5011) (ci := 11) rfl rfl ⟨_, _, rfl⟩ (by decide +kernel) h_Sy_wordIn_at_s5011 wm_2229 wm_23 wm_2226 wm_2228 wv_10_12 ⟨by decide, by decide, by decide +kernel⟩ (by decide), List.forall_mem_cons.mpr ⟨cl_virtual (y := y_Sy_compileBoth_at_k7) (ci := 11) rfl rfl ⟨_, _, rfl⟩ (by decide +kernel) h_Sy_compileBoth_at_k7 wm_2249 wm_23 wm_2246 wm_2248 wv_11_0 ⟨by decide, by decide, by decide +kernel⟩ (by decide), List.forall_mem_cons.mpr ⟨cl_ldc (own := "DrawingHouse$Styler") (idx := 143) (i := 11) (tx := "or ") (by decide +kernel) (by decide +kernel) (by decide +kernel), List.forall_mem_nil _⟩⟩⟩⟩⟩⟩, List.forall_mem_nil _, List.forall_mem_nil _, GG_pl⟩ (by decide +kernel)
def o_Sy_compileTest_at_k8_0 : or_T := (12, 5, [], [], [], [], [(24, [0, 0], [])], [], [])
theorem oo_Sy_compileTest_at_k8_0 {kA : Nat → ClassId} : or_ok PRD kA GG o_Sy_compileTest_at_k8_0 := by
  refine or_mk fun A ta ws vs hD hth hl => ?_
  have nf0 : fc_1 PRD (24, [0, 0], []) ws (vs) := by
    refine ⟨nf_in hl rfl, sgq_1 ?_⟩
    · show n_v vs 0 = n_v vs 0
      first | rfl | simp only [true_and]
  refine ⟨(fun _ h => (by cases h)), [], trivial, ?_, (fun _ h => (by cases h))⟩
  rw [List.append_nil]
  exact List.forall_mem_cons.mpr ⟨⟨show (24 : Nat) < 100 from by decide, nf0⟩, (fun _ h => (by cases h))⟩
set_option maxHeartbeats 4000000 in
theorem vc_Sy_compileTest_at_k8_1_0 (kind_0 : Int) (number_0 : Int) (f0 : (kind_0 ≠ 3) ∨ (number_0 ≤ 9999)) (kz_0_6 : 0 ≤ kind_0 ∧ kind_0 ≤ 127) (kz_0_8 : 0 ≤ number_0 ∧ number_0 ≤ 1000000) : (kind_0 ≠ 3) ∨ (number_0 ≤ 9999) := by
  first
    | omega
  
def o_Sy_compileTest_at_k8_1 : or_T := (56, 9, [(0, (2, 0, 0, [11]))], [(20, [3], [50, 2, 0, 6, 8, 3, 7, 7, 3, 2, 0, 6, 0, 3, 0, 3, 2, 0, 8, 0, 9999]), (24, [0, 3], [])], [], [], [(20, [0], [50, 2, 0, 6, 8, 3, 7, 7, 3, 2, 0, 6, 0, 3, 0, 3, 2, 0, 8, 0, 9999])], [], [])
theorem oo_Sy_compileTest_at_k8_1 {kA : Nat → ClassId} : or_ok PRD kA GG o_Sy_compileTest_at_k8_1 := by
  refine or_mk fun A ta ws vs hD hth hl => ?_
  intro t0 r0 f0 f1
  replace f0 := shm_1840 f0
  replace f1 := shm_5 f1
  have q3 : n_v vs 3 = n_v vs 0 := f1.symm
  simp only [q3] at f0
  have kz_0_6 := fdq_313 hD hth r0
  have kz_0_8 := fdq_314 hD hth r0
  have nf0 : fc_1 PRD (20, [0], [50, 2, 0, 6, 8, 3, 7, 7, 3, 2, 0, 6, 0, 3, 0, 3, 2, 0, 8, 0, 9999]) ws (vs) := ⟨nf_in hl rfl, sgq_1840 (vc_Sy_compileTest_at_k8_1_0 (w_fi ws (n_v vs 0) 6) (w_fi ws (n_v vs 0) 8) f0 kz_0_6 kz_0_8)⟩
  refine ⟨(fun _ h => (by cases h)), [], trivial, ?_, (fun _ h => (by cases h))⟩
  rw [List.append_nil]
  exact List.forall_mem_cons.mpr ⟨⟨show (20 : Nat) < 100 from by decide, nf0⟩, (fun _ h => (by cases h))⟩
set_option maxHeartbeats 4000000 in
theorem vc_Sy_compileTest_at_k8_2_0 (kind_0 : Int) (number_0 : Int) (f0 : (kind_0 ≠ 3) ∨ (number_0 ≤ 9999)) (kz_0_6 : 0 ≤ kind_0 ∧ kind_0 ≤ 127) (kz_0_8 : 0 ≤ number_0 ∧ number_0 ≤ 1000000) : (kind_0 ≠ 3) ∨ (number_0 ≤ 9999) := by
  first
    | omega
  
def o_Sy_compileTest_at_k8_2 : or_T := (56, 11, [(0, (2, 0, 0, [11]))], [(20, [3], [50, 2, 0, 6, 8, 3, 7, 7, 3, 2, 0, 6, 0, 3, 0, 3, 2, 0, 8, 0, 9999]), (24, [0, 3], [])], [], [], [(20, [0], [50, 2, 0, 6, 8, 3, 7, 7, 3, 2, 0, 6, 0, 3, 0, 3, 2, 0, 8, 0, 9999])], [], [])
theorem oo_Sy_compileTest_at_k8_2 {kA : Nat → ClassId} : or_ok PRD kA GG o_Sy_compileTest_at_k8_2 := by
  refine or_mk fun A ta ws vs hD hth hl => ?_
  intro t0 r0 f0 f1
  replace f0 := shm_1840 f0
  replace f1 := shm_5 f1
  have q3 : n_v vs 3 = n_v vs 0 := f1.symm
  simp only [q3] at f0
  have kz_0_6 := fdq_313 hD hth r0
  have kz_0_8 := fdq_314 hD hth r0
  have nf0 : fc_1 PRD (20, [0], [50, 2, 0, 6, 8, 3, 7, 7, 3, 2, 0, 6, 0, 3, 0, 3, 2, 0, 8, 0, 9999]) ws (vs) := ⟨nf_in hl rfl, sgq_1840 (vc_Sy_compileTest_at_k8_2_0 (w_fi ws (n_v vs 0) 6) (w_fi ws (n_v vs 0) 8) f0 kz_0_6 kz_0_8)⟩
  refine ⟨(fun _ h => (by cases h)), [], trivial, ?_, (fun _ h => (by cases h))⟩
  rw [List.append_nil]
  exact List.forall_mem_cons.mpr ⟨⟨show (20 : Nat) < 100 from by decide, nf0⟩, (fun _ h => (by cases h))⟩
set_option maxHeartbeats 4000000 in
theorem vc_Sy_compileTest_at_k8_3_0 (x11 : Int) (x12 : Int) (k11 : 10 ≤ x11 ∧ x11 ≤ 10) (k12 : 0 ≤ x12 ∧ x12 ≤ 0) : (0 ≤ x11) ∧ ((0 ≤ x12) ∧ (((x11 * 65536) + x12) ≤ 851970)) := by
  first
    | omega
  
def o_Sy_compileTest_at_k8_3 : or_T := (46, 13, [(11, (0, 10, 10, [])), (12, (0, 0, 0, []))], [], [], [], [(20, [11, 12], [50, 0, 0, 2, 6, 0, 2, 0, 0, 1, 0, 2, 6, 0, 2, 0, 0, 1, 1, 0, 10, 4, 6, 6, 2, 1, 0, 0, 65536, 1, 1, 0, 851970])], [], [])
theorem oo_Sy_compileTest_at_k8_3 {kA : Nat → ClassId} : or_ok PRD kA GG o_Sy_compileTest_at_k8_3 := by
  refine or_mk fun A ta ws vs hD hth hl => ?_
  intro t11 k11 t12 k12
  have nf0 : fc_1 PRD (20, [11, 12], [50, 0, 0, 2, 6, 0, 2, 0, 0, 1, 0, 2, 6, 0, 2, 0, 0, 1, 1, 0, 10, 4, 6, 6, 2, 1, 0, 0, 65536, 1, 1, 0, 851970]) ws (vs) := ⟨nf_in hl rfl, sgq_493 (vc_Sy_compileTest_at_k8_3_0 (v_iv (n_v vs 11)) (v_iv (n_v vs 12)) k11 k12)⟩
  refine ⟨(fun _ h => (by cases h)), [], trivial, ?_, (fun _ h => (by cases h))⟩
  rw [List.append_nil]
  exact List.forall_mem_cons.mpr ⟨⟨show (20 : Nat) < 100 from by decide, nf0⟩, (fun _ h => (by cases h))⟩
set_option maxHeartbeats 4000000 in
theorem vc_Sy_compileTest_at_k8_4_0 (kind_0 : Int) (number_0 : Int) (f1 : (kind_0 ≠ 3) ∨ (number_0 ≤ 9999)) (kz_0_6 : 0 ≤ kind_0 ∧ kind_0 ≤ 127) (kz_0_8 : 0 ≤ number_0 ∧ number_0 ≤ 1000000) : (kind_0 ≠ 3) ∨ (number_0 ≤ 9999) := by
  first
    | omega
  
def o_Sy_compileTest_at_k8_4 : or_T := (41, 12, [(0, (2, 0, 0, [11]))], [(24, [0, 3], []), (20, [3], [50, 2, 0, 6, 8, 3, 7, 7, 3, 2, 0, 6, 0, 3, 0, 3, 2, 0, 8, 0, 9999])], [], [], [(20, [0], [50, 2, 0, 6, 8, 3, 7, 7, 3, 2, 0, 6, 0, 3, 0, 3, 2, 0, 8, 0, 9999])], [], [])
theorem oo_Sy_compileTest_at_k8_4 {kA : Nat → ClassId} : or_ok PRD kA GG o_Sy_compileTest_at_k8_4 := by
  refine or_mk fun A ta ws vs hD hth hl => ?_
  intro t0 r0 f0 f1
  replace f0 := shm_5 f0
  replace f1 := shm_1840 f1
  have q3 : n_v vs 3 = n_v vs 0 := f0.symm
  simp only [q3] at f1
  have kz_0_6 := fdq_313 hD hth r0
  have kz_0_8 := fdq_314 hD hth r0
  have nf0 : fc_1 PRD (20, [0], [50, 2, 0, 6, 8, 3, 7, 7, 3, 2, 0, 6, 0, 3, 0, 3, 2, 0, 8, 0, 9999]) ws (vs) := ⟨nf_in hl rfl, sgq_1840 (vc_Sy_compileTest_at_k8_4_0 (w_fi ws (n_v vs 0) 6) (w_fi ws (n_v vs 0) 8) f1 kz_0_6 kz_0_8)⟩
  refine ⟨(fun _ h => (by cases h)), [], trivial, ?_, (fun _ h => (by cases h))⟩
  rw [List.append_nil]
  exact List.forall_mem_cons.mpr ⟨⟨show (20 : Nat) < 100 from by decide, nf0⟩, (fun _ h => (by cases h))⟩
def n_Sy_compileTest_at_k8_an : List an_T := [(12, [(0, (2, 0, 0, [11])), (1, (0, 8, 8, [])), (2, (0, 0, 2000, []))], [], (0, 0), [(0, 0, 99988), (1, 5, 2000), (0, 0, 100000)], [], [((0, 3), (2, 0, 0, [109]))], [(2, 0, 0, [11]), (0, 8, 8, []), (2, 0, 0, [109])], 0, [], [(20, [3], [50, 2, 0, 6, 8, 3, 7, 7, 3, 2, 0, 6, 0, 3, 0, 3, 2, 0, 8, 0, 9999]), (24, [0, 3], [])])]
def t_Sy_compileTest_at_k8_ct : ct_L := [(1, 69, e_Sy_advance), (1, 128, e_Sy_emit), (10, 140, e_Sy_compileBoth_at_k8), (70, 114, e_Sy_wordIn_at_s5011), (106, 140, e_Sy_compileBoth_at_k8), (1000000, 143, en_ro [] (2, 0, 0, [5011]))]
set_option maxRecDepth 100000 in
theorem c_Sy_compileTest_at_k8 {l : Launch} {D : va_G} {kA : Nat → ClassId} (h_Sy_advance : ct_ok PRD l D kA GG y_Sy_advance z_Sy_advance e_Sy_advance) (h_Sy_compileBoth_at_k8 : ct_ok PRD l D kA GG y_Sy_compileBoth_at_k8 z_Sy_compileBoth_at_k8 e_Sy_compileBoth_at_k8) (h_Sy_emit : ct_ok PRD l D kA GG y_Sy_emit z_Sy_emit e_Sy_emit) (h_Sy_wordIn_at_s5011 : ct_ok PRD l D kA GG y_Sy_wordIn_at_s5011 z_Sy_wordIn_at_s5011 e_Sy_wordIn_at_s5011) : ct_ok PRD l D kA GG y_Sy_compileTest_at_k8 z_Sy_compileTest_at_k8 e_Sy_compileTest_at_k8 := chk_all_ok (FT := []) (PT := []) (CT := t_Sy_compileTest_at_k8_ct) (KT := []) (NT := []) (AN := n_Sy_compileTest_at_k8_an) (OT := [o_Sy_compileTest_at_k8_0, o_Sy_compileTest_at_k8_1, o_Sy_compileTest_at_k8_2, o_Sy_compileTest_at_k8_3, o_Sy_compileTest_at_k8_4]) 3 200 (List.forall_mem_cons.mpr ⟨oo_Sy_compileTest_at_k8_0, List.forall_mem_cons.mpr ⟨oo_Sy_compileTest_at_k8_1, List.forall_mem_cons.mpr ⟨oo_Sy_compileTest_at_k8_2, List.forall_mem_cons.mpr ⟨oo_Sy_compileTest_at_k8_3, List.forall_mem_cons.mpr ⟨oo_Sy_compileTest_at_k8_4, List.forall_mem_nil _⟩⟩⟩⟩⟩) (by decide +kernel) ⟨List.forall_mem_nil _, List.forall_mem_nil _, List.forall_mem_cons.mpr ⟨cl_virtual (y := y_Sy_advance) (ci := 11) rfl rfl ⟨_, _, rfl⟩ (by decide +kernel) h_Sy_advance wm_2158 wm_23 wm_2155 wm_2157 wv_10_10 ⟨by decide, by decide, by decide +kernel⟩ (by decide), List.forall_mem_cons.mpr ⟨cl_virtual (y := y_Sy_emit) (ci := 11) rfl rfl ⟨_, _, rfl⟩ (by decide +kernel) h_Sy_emit wm_2258 wm_23 wm_2255 wm_2257 wv_11_2 ⟨by decide, by decide, by decide +kernel⟩ (by decide), List.forall_mem_cons.mpr ⟨cl_virtual (y := y_Sy_compileBoth_at_k8) (ci := 11) rfl rfl ⟨_, _, rfl⟩ (by decide +kernel) h_Sy_compileBoth_at_k8 wm_2249 wm_23 wm_2246 wm_2248 wv_11_0 ⟨by decide, by decide, by decide +kernel⟩ (by decide), List.forall_mem_cons.mpr ⟨cl_virtual (y := y_Sy_wordIn_at_s5011) (ci := 11) rfl rfl ⟨_, _, rfl⟩ (by decide +kernel) h_Sy_wordIn_at_s5011 wm_2229 wm_23 wm_2226 wm_2228 wv_10_12 ⟨by decide, by decide, by decide +kernel⟩ (by decide), List.forall_mem_cons.mpr ⟨cl_virtual (y := y_Sy_compileBoth_at_k8) (ci := 11) rfl rfl ⟨_, _, rfl⟩ (by decide +kernel) h_Sy_compileBoth_at_k8 wm_2249 wm_23 wm_2246 wm_2248 wv_11_0 ⟨by decide, by decide, by decide +kernel⟩ (by decide), List.forall_mem_cons.mpr ⟨cl_ldc (own := "DrawingHouse$Styler") (idx := 143) (i := 11) (tx := "or ") (by decide +kernel) (by decide +kernel) (by decide +kernel), List.forall_mem_nil _⟩⟩⟩⟩⟩⟩, List.forall_mem_nil _, List.forall_mem_nil _, GG_pl⟩ (by decide +kernel)
def o_Sy_compileTest_at_k9_0 : or_T := (12, 5, [], [], [], [], [(24, [0, 0], [])], [], [])
theorem oo_Sy_compileTest_at_k9_0 {kA : Nat → ClassId} : or_ok PRD kA GG o_Sy_compileTest_at_k9_0 := by
  refine or_mk fun A ta ws vs hD hth hl => ?_
  have nf0 : fc_1 PRD (24, [0, 0], []) ws (vs) := by
    refine ⟨nf_in hl rfl, sgq_1 ?_⟩
    · show n_v vs 0 = n_v vs 0
      first | rfl | simp only [true_and]
  refine ⟨(fun _ h => (by cases h)), [], trivial, ?_, (fun _ h => (by cases h))⟩
  rw [List.append_nil]
  exact List.forall_mem_cons.mpr ⟨⟨show (24 : Nat) < 100 from by decide, nf0⟩, (fun _ h => (by cases h))⟩
set_option maxHeartbeats 4000000 in
theorem vc_Sy_compileTest_at_k9_1_0 (kind_0 : Int) (number_0 : Int) (f0 : (kind_0 ≠ 3) ∨ (number_0 ≤ 9999)) (kz_0_6 : 0 ≤ kind_0 ∧ kind_0 ≤ 127) (kz_0_8 : 0 ≤ number_0 ∧ number_0 ≤ 1000000) : (kind_0 ≠ 3) ∨ (number_0 ≤ 9999) := by
  first
    | omega
  
def o_Sy_compileTest_at_k9_1 : or_T := (56, 9, [(0, (2, 0, 0, [11]))], [(20, [3], [50, 2, 0, 6, 8, 3, 7, 7, 3, 2, 0, 6, 0, 3, 0, 3, 2, 0, 8, 0, 9999]), (24, [0, 3], [])], [], [], [(20, [0], [50, 2, 0, 6, 8, 3, 7, 7, 3, 2, 0, 6, 0, 3, 0, 3, 2, 0, 8, 0, 9999])], [], [])
theorem oo_Sy_compileTest_at_k9_1 {kA : Nat → ClassId} : or_ok PRD kA GG o_Sy_compileTest_at_k9_1 := by
  refine or_mk fun A ta ws vs hD hth hl => ?_
  intro t0 r0 f0 f1
  replace f0 := shm_1840 f0
  replace f1 := shm_5 f1
  have q3 : n_v vs 3 = n_v vs 0 := f1.symm
  simp only [q3] at f0
  have kz_0_6 := fdq_313 hD hth r0
  have kz_0_8 := fdq_314 hD hth r0
  have nf0 : fc_1 PRD (20, [0], [50, 2, 0, 6, 8, 3, 7, 7, 3, 2, 0, 6, 0, 3, 0, 3, 2, 0, 8, 0, 9999]) ws (vs) := ⟨nf_in hl rfl, sgq_1840 (vc_Sy_compileTest_at_k9_1_0 (w_fi ws (n_v vs 0) 6) (w_fi ws (n_v vs 0) 8) f0 kz_0_6 kz_0_8)⟩
  refine ⟨(fun _ h => (by cases h)), [], trivial, ?_, (fun _ h => (by cases h))⟩
  rw [List.append_nil]
  exact List.forall_mem_cons.mpr ⟨⟨show (20 : Nat) < 100 from by decide, nf0⟩, (fun _ h => (by cases h))⟩
set_option maxHeartbeats 4000000 in
theorem vc_Sy_compileTest_at_k9_2_0 (kind_0 : Int) (number_0 : Int) (f0 : (kind_0 ≠ 3) ∨ (number_0 ≤ 9999)) (kz_0_6 : 0 ≤ kind_0 ∧ kind_0 ≤ 127) (kz_0_8 : 0 ≤ number_0 ∧ number_0 ≤ 1000000) : (kind_0 ≠ 3) ∨ (number_0 ≤ 9999) := by
  first
    | omega
  
def o_Sy_compileTest_at_k9_2 : or_T := (56, 11, [(0, (2, 0, 0, [11]))], [(20, [3], [50, 2, 0, 6, 8, 3, 7, 7, 3, 2, 0, 6, 0, 3, 0, 3, 2, 0, 8, 0, 9999]), (24, [0, 3], [])], [], [], [(20, [0], [50, 2, 0, 6, 8, 3, 7, 7, 3, 2, 0, 6, 0, 3, 0, 3, 2, 0, 8, 0, 9999])], [], [])
theorem oo_Sy_compileTest_at_k9_2 {kA : Nat → ClassId} : or_ok PRD kA GG o_Sy_compileTest_at_k9_2 := by
  refine or_mk fun A ta ws vs hD hth hl => ?_
  intro t0 r0 f0 f1
  replace f0 := shm_1840 f0
  replace f1 := shm_5 f1
  have q3 : n_v vs 3 = n_v vs 0 := f1.symm
  simp only [q3] at f0
  have kz_0_6 := fdq_313 hD hth r0
  have kz_0_8 := fdq_314 hD hth r0
  have nf0 : fc_1 PRD (20, [0], [50, 2, 0, 6, 8, 3, 7, 7, 3, 2, 0, 6, 0, 3, 0, 3, 2, 0, 8, 0, 9999]) ws (vs) := ⟨nf_in hl rfl, sgq_1840 (vc_Sy_compileTest_at_k9_2_0 (w_fi ws (n_v vs 0) 6) (w_fi ws (n_v vs 0) 8) f0 kz_0_6 kz_0_8)⟩
  refine ⟨(fun _ h => (by cases h)), [], trivial, ?_, (fun _ h => (by cases h))⟩
  rw [List.append_nil]
  exact List.forall_mem_cons.mpr ⟨⟨show (20 : Nat) < 100 from by decide, nf0⟩, (fun _ h => (by cases h))⟩
set_option maxHeartbeats 4000000 in
theorem vc_Sy_compileTest_at_k9_3_0 (x11 : Int) (x12 : Int) (k11 : 10 ≤ x11 ∧ x11 ≤ 10) (k12 : 0 ≤ x12 ∧ x12 ≤ 0) : (0 ≤ x11) ∧ ((0 ≤ x12) ∧ (((x11 * 65536) + x12) ≤ 851970)) := by
  first
    | omega
  
def o_Sy_compileTest_at_k9_3 : or_T := (46, 13, [(11, (0, 10, 10, [])), (12, (0, 0, 0, []))], [], [], [], [(20, [11, 12], [50, 0, 0, 2, 6, 0, 2, 0, 0, 1, 0, 2, 6, 0, 2, 0, 0, 1, 1, 0, 10, 4, 6, 6, 2, 1, 0, 0, 65536, 1, 1, 0, 851970])], [], [])
theorem oo_Sy_compileTest_at_k9_3 {kA : Nat → ClassId} : or_ok PRD kA GG o_Sy_compileTest_at_k9_3 := by
  refine or_mk fun A ta ws vs hD hth hl => ?_
  intro t11 k11 t12 k12
  have nf0 : fc_1 PRD (20, [11, 12], [50, 0, 0, 2, 6, 0, 2, 0, 0, 1, 0, 2, 6, 0, 2, 0, 0, 1, 1, 0, 10, 4, 6, 6, 2, 1, 0, 0, 65536, 1, 1, 0, 851970]) ws (vs) := ⟨nf_in hl rfl, sgq_493 (vc_Sy_compileTest_at_k9_3_0 (v_iv (n_v vs 11)) (v_iv (n_v vs 12)) k11 k12)⟩
  refine ⟨(fun _ h => (by cases h)), [], trivial, ?_, (fun _ h => (by cases h))⟩
  rw [List.append_nil]
  exact List.forall_mem_cons.mpr ⟨⟨show (20 : Nat) < 100 from by decide, nf0⟩, (fun _ h => (by cases h))⟩
set_option maxHeartbeats 4000000 in
theorem vc_Sy_compileTest_at_k9_4_0 (kind_0 : Int) (number_0 : Int) (f1 : (kind_0 ≠ 3) ∨ (number_0 ≤ 9999)) (kz_0_6 : 0 ≤ kind_0 ∧ kind_0 ≤ 127) (kz_0_8 : 0 ≤ number_0 ∧ number_0 ≤ 1000000) : (kind_0 ≠ 3) ∨ (number_0 ≤ 9999) := by
  first
    | omega
  
def o_Sy_compileTest_at_k9_4 : or_T := (41, 12, [(0, (2, 0, 0, [11]))], [(24, [0, 3], []), (20, [3], [50, 2, 0, 6, 8, 3, 7, 7, 3, 2, 0, 6, 0, 3, 0, 3, 2, 0, 8, 0, 9999])], [], [], [(20, [0], [50, 2, 0, 6, 8, 3, 7, 7, 3, 2, 0, 6, 0, 3, 0, 3, 2, 0, 8, 0, 9999])], [], [])
theorem oo_Sy_compileTest_at_k9_4 {kA : Nat → ClassId} : or_ok PRD kA GG o_Sy_compileTest_at_k9_4 := by
  refine or_mk fun A ta ws vs hD hth hl => ?_
  intro t0 r0 f0 f1
  replace f0 := shm_5 f0
  replace f1 := shm_1840 f1
  have q3 : n_v vs 3 = n_v vs 0 := f0.symm
  simp only [q3] at f1
  have kz_0_6 := fdq_313 hD hth r0
  have kz_0_8 := fdq_314 hD hth r0
  have nf0 : fc_1 PRD (20, [0], [50, 2, 0, 6, 8, 3, 7, 7, 3, 2, 0, 6, 0, 3, 0, 3, 2, 0, 8, 0, 9999]) ws (vs) := ⟨nf_in hl rfl, sgq_1840 (vc_Sy_compileTest_at_k9_4_0 (w_fi ws (n_v vs 0) 6) (w_fi ws (n_v vs 0) 8) f1 kz_0_6 kz_0_8)⟩
  refine ⟨(fun _ h => (by cases h)), [], trivial, ?_, (fun _ h => (by cases h))⟩
  rw [List.append_nil]
  exact List.forall_mem_cons.mpr ⟨⟨show (20 : Nat) < 100 from by decide, nf0⟩, (fun _ h => (by cases h))⟩
def n_Sy_compileTest_at_k9_an : List an_T := [(12, [(0, (2, 0, 0, [11])), (1, (0, 9, 9, [])), (2, (0, 0, 2000, []))], [], (0, 0), [(0, 0, 99988), (1, 5, 2000), (0, 0, 100000)], [], [((0, 3), (2, 0, 0, [109]))], [(2, 0, 0, [11]), (0, 9, 9, []), (2, 0, 0, [109])], 0, [], [(20, [3], [50, 2, 0, 6, 8, 3, 7, 7, 3, 2, 0, 6, 0, 3, 0, 3, 2, 0, 8, 0, 9999]), (24, [0, 3], [])])]
def t_Sy_compileTest_at_k9_ct : ct_L := [(1, 69, e_Sy_advance), (1, 128, e_Sy_emit), (10, 140, e_Sy_compileBoth_at_k9), (70, 114, e_Sy_wordIn_at_s5011), (106, 140, e_Sy_compileBoth_at_k9), (1000000, 143, en_ro [] (2, 0, 0, [5011]))]
set_option maxRecDepth 100000 in
theorem c_Sy_compileTest_at_k9 {l : Launch} {D : va_G} {kA : Nat → ClassId} (h_Sy_advance : ct_ok PRD l D kA GG y_Sy_advance z_Sy_advance e_Sy_advance) (h_Sy_compileBoth_at_k9 : ct_ok PRD l D kA GG y_Sy_compileBoth_at_k9 z_Sy_compileBoth_at_k9 e_Sy_compileBoth_at_k9) (h_Sy_emit : ct_ok PRD l D kA GG y_Sy_emit z_Sy_emit e_Sy_emit) (h_Sy_wordIn_at_s5011 : ct_ok PRD l D kA GG y_Sy_wordIn_at_s5011 z_Sy_wordIn_at_s5011 e_Sy_wordIn_at_s5011) : ct_ok PRD l D kA GG y_Sy_compileTest_at_k9 z_Sy_compileTest_at_k9 e_Sy_compileTest_at_k9 := chk_all_ok (FT := []) (PT := []) (CT := t_Sy_compileTest_at_k9_ct) (KT := []) (NT := []) (AN := n_Sy_compileTest_at_k9_an) (OT := [o_Sy_compileTest_at_k9_0, o_Sy_compileTest_at_k9_1, o_Sy_compileTest_at_k9_2, o_Sy_compileTest_at_k9_3, o_Sy_compileTest_at_k9_4]) 3 200 (List.forall_mem_cons.mpr ⟨oo_Sy_compileTest_at_k9_0, List.forall_mem_cons.mpr ⟨oo_Sy_compileTest_at_k9_1, List.forall_mem_cons.mpr ⟨oo_Sy_compileTest_at_k9_2, List.forall_mem_cons.mpr ⟨oo_Sy_compileTest_at_k9_3, List.forall_mem_cons.mpr ⟨oo_Sy_compileTest_at_k9_4, List.forall_mem_nil _⟩⟩⟩⟩⟩) (by decide +kernel) ⟨List.forall_mem_nil _, List.forall_mem_nil _, List.forall_mem_cons.mpr ⟨cl_virtual (y := y_Sy_advance) (ci := 11) rfl rfl ⟨_, _, rfl⟩ (by decide +kernel) h_Sy_advance wm_2158 wm_23 wm_2155 wm_2157 wv_10_10 ⟨by decide, by decide, by decide +kernel⟩ (by decide), List.forall_mem_cons.mpr ⟨cl_virtual (y := y_Sy_emit) (ci := 11) rfl rfl ⟨_, _, rfl⟩ (by decide +kernel) h_Sy_emit wm_2258 wm_23 wm_2255 wm_2257 wv_11_2 ⟨by decide, by decide, by decide +kernel⟩ (by decide), List.forall_mem_cons.mpr ⟨cl_virtual (y := y_Sy_compileBoth_at_k9) (ci := 11) rfl rfl ⟨_, _, rfl⟩ (by decide +kernel) h_Sy_compileBoth_at_k9 wm_2249 wm_23 wm_2246 wm_2248 wv_11_0 ⟨by decide, by decide, by decide +kernel⟩ (by decide), List.forall_mem_cons.mpr ⟨cl_virtual (y := y_Sy_wordIn_at_s5011) (ci := 11) rfl rfl ⟨_, _, rfl⟩ (by decide +kernel) h_Sy_wordIn_at_s5011 wm_2229 wm_23 wm_2226 wm_2228 wv_10_12 ⟨by decide, by decide, by decide +kernel⟩ (by decide), List.forall_mem_cons.mpr ⟨cl_virtual (y := y_Sy_compileBoth_at_k9) (ci := 11) rfl rfl ⟨_, _, rfl⟩ (by decide +kernel) h_Sy_compileBoth_at_k9 wm_2249 wm_23 wm_2246 wm_2248 wv_11_0 ⟨by decide, by decide, by decide +kernel⟩ (by decide), List.forall_mem_cons.mpr ⟨cl_ldc (own := "DrawingHouse$Styler") (idx := 143) (i := 11) (tx := "or ") (by decide +kernel) (by decide +kernel) (by decide +kernel), List.forall_mem_nil _⟩⟩⟩⟩⟩⟩, List.forall_mem_nil _, List.forall_mem_nil _, GG_pl⟩ (by decide +kernel)

set_option maxHeartbeats 4000000 in
theorem vc_Mo_edgeItem_0_0 (x2 : Int) (r_0 : Int) (gx : Int) (k2 : 0 ≤ x2 ∧ x2 ≤ 2000) (ex2 : gx = x2) : 1 * gx + ((-1) * x2 + 0) ≤ 0 := by
  first
    | omega
    | (have q1 := (hE_0_2_1 (r_0 + 2) (by omega)).2 (by omega)
       have q2 := (hE_0_2_2 (r_0 + 2) (by omega)).2 (by omega)
       omega)
    | (have q1 := (hE_0_2_1 (r_0 + 1) (by omega)).2 (by omega)
       have q2 := (hE_0_2_2 (r_0 + 1) (by omega)).2 (by omega)
       omega)
    | (have q1 := (hE_0_2_1 (r_0 + 2) (by omega)).2 (by omega)
       omega)
    | (have q1 := (hE_0_2_1 (r_0 + 1) (by omega)).2 (by omega)
       omega)
    | (have q1 := (hE_0_2_1 (r_0 + 2) (by omega)).2 (by omega)
       have q2 := (hE_0_2_2 (r_0 + 2) (by omega)).2 (by omega)
       have q3 := (hE_0_2_3 (r_0 + 2) (by omega)).1 (by omega)
       omega)
    | (have q1 := (hE_0_2_1 (r_0 + 2) (by omega)).2 (by omega)
       have q2 := (hE_0_2_2 (r_0 + 2) (by omega)).2 (by omega)
       have q3 := (hE_0_2_3 (r_0 + 2) (by omega)).2 (by omega)
       omega)
set_option maxHeartbeats 4000000 in
theorem vc_Mo_edgeItem_0_1 (x2 : Int) (r_0 : Int) (gx : Int) (k2 : 0 ≤ x2 ∧ x2 ≤ 2000) (ex2 : gx = x2) : (-1) * gx + (1 * x2 + 0) ≤ 0 := by
  first
    | omega
    | (have q1 := (hE_0_2_1 (r_0 + 2) (by omega)).2 (by omega)
       have q2 := (hE_0_2_2 (r_0 + 2) (by omega)).2 (by omega)
       omega)
    | (have q1 := (hE_0_2_1 (r_0 + 1) (by omega)).2 (by omega)
       have q2 := (hE_0_2_2 (r_0 + 1) (by omega)).2 (by omega)
       omega)
    | (have q1 := (hE_0_2_1 (r_0 + 2) (by omega)).2 (by omega)
       omega)
    | (have q1 := (hE_0_2_1 (r_0 + 1) (by omega)).2 (by omega)
       omega)
    | (have q1 := (hE_0_2_1 (r_0 + 2) (by omega)).2 (by omega)
       have q2 := (hE_0_2_2 (r_0 + 2) (by omega)).2 (by omega)
       have q3 := (hE_0_2_3 (r_0 + 2) (by omega)).1 (by omega)
       omega)
    | (have q1 := (hE_0_2_1 (r_0 + 2) (by omega)).2 (by omega)
       have q2 := (hE_0_2_2 (r_0 + 2) (by omega)).2 (by omega)
       have q3 := (hE_0_2_3 (r_0 + 2) (by omega)).2 (by omega)
       omega)
set_option maxHeartbeats 4000000 in
theorem vc_Mo_edgeItem_0_2 (x3 : Int) (r_0 : Int) (gu : Int) (k3 : 0 ≤ x3 ∧ x3 ≤ 4) (eu2 : gu = x3) : 1 * gu + ((-1) * x3 + 0) ≤ 0 := by
  first
    | omega
    | (have q1 := (hE_0_2_1 (r_0 + 2) (by omega)).2 (by omega)
       have q2 := (hE_0_2_2 (r_0 + 2) (by omega)).2 (by omega)
       omega)
    | (have q1 := (hE_0_2_1 (r_0 + 1) (by omega)).2 (by omega)
       have q2 := (hE_0_2_2 (r_0 + 1) (by omega)).2 (by omega)
       omega)
    | (have q1 := (hE_0_2_1 (r_0 + 2) (by omega)).2 (by omega)
       omega)
    | (have q1 := (hE_0_2_1 (r_0 + 1) (by omega)).2 (by omega)
       omega)
    | (have q1 := (hE_0_2_1 (r_0 + 2) (by omega)).2 (by omega)
       have q2 := (hE_0_2_2 (r_0 + 2) (by omega)).2 (by omega)
       have q3 := (hE_0_2_3 (r_0 + 2) (by omega)).1 (by omega)
       omega)
    | (have q1 := (hE_0_2_1 (r_0 + 2) (by omega)).2 (by omega)
       have q2 := (hE_0_2_2 (r_0 + 2) (by omega)).2 (by omega)
       have q3 := (hE_0_2_3 (r_0 + 2) (by omega)).2 (by omega)
       omega)
set_option maxHeartbeats 4000000 in
theorem vc_Mo_edgeItem_0_3 (x3 : Int) (r_0 : Int) (gu : Int) (k3 : 0 ≤ x3 ∧ x3 ≤ 4) (eu2 : gu = x3) : (-1) * gu + (1 * x3 + 0) ≤ 0 := by
  first
    | omega
    | (have q1 := (hE_0_2_1 (r_0 + 2) (by omega)).2 (by omega)
       have q2 := (hE_0_2_2 (r_0 + 2) (by omega)).2 (by omega)
       omega)
    | (have q1 := (hE_0_2_1 (r_0 + 1) (by omega)).2 (by omega)
       have q2 := (hE_0_2_2 (r_0 + 1) (by omega)).2 (by omega)
       omega)
    | (have q1 := (hE_0_2_1 (r_0 + 2) (by omega)).2 (by omega)
       omega)
    | (have q1 := (hE_0_2_1 (r_0 + 1) (by omega)).2 (by omega)
       omega)
    | (have q1 := (hE_0_2_1 (r_0 + 2) (by omega)).2 (by omega)
       have q2 := (hE_0_2_2 (r_0 + 2) (by omega)).2 (by omega)
       have q3 := (hE_0_2_3 (r_0 + 2) (by omega)).1 (by omega)
       omega)
    | (have q1 := (hE_0_2_1 (r_0 + 2) (by omega)).2 (by omega)
       have q2 := (hE_0_2_2 (r_0 + 2) (by omega)).2 (by omega)
       have q3 := (hE_0_2_3 (r_0 + 2) (by omega)).2 (by omega)
       omega)
set_option maxHeartbeats 4000000 in
theorem vc_Mo_edgeItem_0_4 (from_0 : Int) (pos_0 : Int) (r_0 : Int) (f0 : 1 * from_0 + ((-1) * pos_0 + 0) ≤ 0) (kz_0_11 : 0 ≤ pos_0 ∧ pos_0 ≤ 2000) (kz_0_15 : 0 ≤ from_0 ∧ from_0 ≤ 2000) : 1 * from_0 + ((-1) * pos_0 + 0) ≤ 0 := by
  first
    | omega
    | (have q1 := (hE_0_2_1 (r_0 + 2) (by omega)).2 (by omega)
       have q2 := (hE_0_2_2 (r_0 + 2) (by omega)).2 (by omega)
       omega)
    | (have q1 := (hE_0_2_1 (r_0 + 1) (by omega)).2 (by omega)
       have q2 := (hE_0_2_2 (r_0 + 1) (by omega)).2 (by omega)
       omega)
    | (have q1 := (hE_0_2_1 (r_0 + 2) (by omega)).2 (by omega)
       omega)
    | (have q1 := (hE_0_2_1 (r_0 + 1) (by omega)).2 (by omega)
       omega)
    | (have q1 := (hE_0_2_1 (r_0 + 2) (by omega)).2 (by omega)
       have q2 := (hE_0_2_2 (r_0 + 2) (by omega)).2 (by omega)
       have q3 := (hE_0_2_3 (r_0 + 2) (by omega)).1 (by omega)
       omega)
    | (have q1 := (hE_0_2_1 (r_0 + 2) (by omega)).2 (by omega)
       have q2 := (hE_0_2_2 (r_0 + 2) (by omega)).2 (by omega)
       have q3 := (hE_0_2_3 (r_0 + 2) (by omega)).2 (by omega)
       omega)
set_option maxHeartbeats 4000000 in
theorem vc_Mo_edgeItem_0_5 (from_0 : Int) (pos_0 : Int) (kind_0 : Int) (r_0 : Int) (f1 : ((kind_0 = 1) → (pos_0 ≤ (from_0 + 8))) ∧ ((kind_0 = 0) ∨ ((from_0 + 1) ≤ pos_0))) (kz_0_11 : 0 ≤ pos_0 ∧ pos_0 ≤ 2000) (kz_0_12 : 0 ≤ kind_0 ∧ kind_0 ≤ 4) (kz_0_15 : 0 ≤ from_0 ∧ from_0 ≤ 2000) : ((kind_0 = 1) → (pos_0 ≤ (from_0 + 8))) ∧ ((kind_0 = 0) ∨ ((from_0 + 1) ≤ pos_0)) := by
  first
    | omega
    | (have q1 := (hE_0_2_1 (r_0 + 2) (by omega)).2 (by omega)
       have q2 := (hE_0_2_2 (r_0 + 2) (by omega)).2 (by omega)
       omega)
    | (have q1 := (hE_0_2_1 (r_0 + 1) (by omega)).2 (by omega)
       have q2 := (hE_0_2_2 (r_0 + 1) (by omega)).2 (by omega)
       omega)
    | (have q1 := (hE_0_2_1 (r_0 + 2) (by omega)).2 (by omega)
       omega)
    | (have q1 := (hE_0_2_1 (r_0 + 1) (by omega)).2 (by omega)
       omega)
    | (have q1 := (hE_0_2_1 (r_0 + 2) (by omega)).2 (by omega)
       have q2 := (hE_0_2_2 (r_0 + 2) (by omega)).2 (by omega)
       have q3 := (hE_0_2_3 (r_0 + 2) (by omega)).1 (by omega)
       omega)
    | (have q1 := (hE_0_2_1 (r_0 + 2) (by omega)).2 (by omega)
       have q2 := (hE_0_2_2 (r_0 + 2) (by omega)).2 (by omega)
       have q3 := (hE_0_2_3 (r_0 + 2) (by omega)).2 (by omega)
       omega)
set_option maxHeartbeats 4000000 in
theorem vc_Mo_edgeItem_0_6 (x2 : Int) (pos_0 : Int) (r_0 : Int) (gx : Int) (k2 : 0 ≤ x2 ∧ x2 ≤ 2000) (f2 : 1 * x2 + ((-1) * pos_0 + 0) ≤ 0) (kz_0_11 : 0 ≤ pos_0 ∧ pos_0 ≤ 2000) (ex2 : gx = x2) : 1 * gx + ((-1) * pos_0 + 0) ≤ 0 := by
  first
    | omega
    | (have q1 := (hE_0_2_1 (r_0 + 2) (by omega)).2 (by omega)
       have q2 := (hE_0_2_2 (r_0 + 2) (by omega)).2 (by omega)
       omega)
    | (have q1 := (hE_0_2_1 (r_0 + 1) (by omega)).2 (by omega)
       have q2 := (hE_0_2_2 (r_0 + 1) (by omega)).2 (by omega)
       omega)
    | (have q1 := (hE_0_2_1 (r_0 + 2) (by omega)).2 (by omega)
       omega)
    | (have q1 := (hE_0_2_1 (r_0 + 1) (by omega)).2 (by omega)
       omega)
    | (have q1 := (hE_0_2_1 (r_0 + 2) (by omega)).2 (by omega)
       have q2 := (hE_0_2_2 (r_0 + 2) (by omega)).2 (by omega)
       have q3 := (hE_0_2_3 (r_0 + 2) (by omega)).1 (by omega)
       omega)
    | (have q1 := (hE_0_2_1 (r_0 + 2) (by omega)).2 (by omega)
       have q2 := (hE_0_2_2 (r_0 + 2) (by omega)).2 (by omega)
       have q3 := (hE_0_2_3 (r_0 + 2) (by omega)).2 (by omega)
       omega)
set_option maxHeartbeats 4000000 in
theorem vc_Mo_edgeItem_0_7 (from_0 : Int) (pos_0 : Int) (kind_0 : Int) (r_0 : Int) (gy : Int) (f0 : 1 * from_0 + ((-1) * pos_0 + 0) ≤ 0) (f1 : ((kind_0 = 1) → (pos_0 ≤ (from_0 + 8))) ∧ ((kind_0 = 0) ∨ ((from_0 + 1) ≤ pos_0))) (kz_0_11 : 0 ≤ pos_0 ∧ pos_0 ≤ 2000) (kz_0_12 : 0 ≤ kind_0 ∧ kind_0 ≤ 4) (kz_0_15 : 0 ≤ from_0 ∧ from_0 ≤ 2000) (ey2 : gy = from_0) : (kind_0 = 0) ∨ ((gy + 1) ≤ pos_0) := by
  first
    | omega
    | (have q1 := (hE_0_2_1 (r_0 + 2) (by omega)).2 (by omega)
       have q2 := (hE_0_2_2 (r_0 + 2) (by omega)).2 (by omega)
       omega)
    | (have q1 := (hE_0_2_1 (r_0 + 1) (by omega)).2 (by omega)
       have q2 := (hE_0_2_2 (r_0 + 1) (by omega)).2 (by omega)
       omega)
    | (have q1 := (hE_0_2_1 (r_0 + 2) (by omega)).2 (by omega)
       omega)
    | (have q1 := (hE_0_2_1 (r_0 + 1) (by omega)).2 (by omega)
       omega)
    | (have q1 := (hE_0_2_1 (r_0 + 2) (by omega)).2 (by omega)
       have q2 := (hE_0_2_2 (r_0 + 2) (by omega)).2 (by omega)
       have q3 := (hE_0_2_3 (r_0 + 2) (by omega)).1 (by omega)
       omega)
    | (have q1 := (hE_0_2_1 (r_0 + 2) (by omega)).2 (by omega)
       have q2 := (hE_0_2_2 (r_0 + 2) (by omega)).2 (by omega)
       have q3 := (hE_0_2_3 (r_0 + 2) (by omega)).2 (by omega)
       omega)
set_option maxHeartbeats 4000000 in
theorem vc_Mo_edgeItem_0_8 (x1 : Int) (all_0 : Int → Int) (r_0 : Int) (k1 : 0 ≤ x1 ∧ x1 ≤ 7) (f3 : (x1 + 1) ≤ all_0 ((r_0 + 2))) : (x1 + 1) ≤ all_0 ((r_0 + 2)) := by
  first
    | omega
    | (have q1 := (hE_0_2_1 (r_0 + 2) (by omega)).2 (by omega)
       have q2 := (hE_0_2_2 (r_0 + 2) (by omega)).2 (by omega)
       omega)
    | (have q1 := (hE_0_2_1 (r_0 + 1) (by omega)).2 (by omega)
       have q2 := (hE_0_2_2 (r_0 + 1) (by omega)).2 (by omega)
       omega)
    | (have q1 := (hE_0_2_1 (r_0 + 2) (by omega)).2 (by omega)
       omega)
    | (have q1 := (hE_0_2_1 (r_0 + 1) (by omega)).2 (by omega)
       omega)
    | (have q1 := (hE_0_2_1 (r_0 + 2) (by omega)).2 (by omega)
       have q2 := (hE_0_2_2 (r_0 + 2) (by omega)).2 (by omega)
       have q3 := (hE_0_2_3 (r_0 + 2) (by omega)).1 (by omega)
       omega)
    | (have q1 := (hE_0_2_1 (r_0 + 2) (by omega)).2 (by omega)
       have q2 := (hE_0_2_2 (r_0 + 2) (by omega)).2 (by omega)
       have q3 := (hE_0_2_3 (r_0 + 2) (by omega)).2 (by omega)
       omega)
set_option maxHeartbeats 4000000 in
theorem vc_Mo_edgeItem_0_9 (all_0 : Int → Int) (r_0 : Int) (now_0 : Int → Int) (latest_0 : Int → Int) (f4 : RWS (r_0) (all_0) (now_0) (latest_0)) : RWS (r_0) (all_0) (now_0) (latest_0) := by
  first
    | assumption
set_option maxHeartbeats 4000000 in
theorem vc_Mo_edgeItem_0_10 (x4 : Int) (all_0 : Int → Int) (r_0 : Int) (k4 : (-1) ≤ x4 ∧ x4 ≤ (-1)) : MEB (r_0) (all_0) (x4) := by
  intro q; exfalso; omega
set_option maxHeartbeats 4000000 in
theorem vc_Mo_edgeItem_0_11 (x1 : Int) (x2 : Int) (x3 : Int) (from_0 : Int) (pos_0 : Int) (kind_0 : Int) (all_0 : Int → Int) (r_0 : Int) (tape_0 : Int → Int) (limit_0 : Int) (place_0 : Int) (value_0 : Int) (fault_0 : Int) (gx : Int) (gy : Int) (gu : Int) (k1 : 0 ≤ x1 ∧ x1 ≤ 7) (k2 : 0 ≤ x2 ∧ x2 ≤ 2000) (k3 : 0 ≤ x3 ∧ x3 ≤ 4) (f5 : zRSE (limit_0) (pos_0) (kind_0) (place_0) (value_0) (from_0) (fault_0) (r_0) (tape_0) (all_0) (x1) (x3)) (kz_0_8 : 0 ≤ fault_0 ∧ fault_0 ≤ 5) (kz_0_10 : 0 ≤ limit_0 ∧ limit_0 ≤ 2000) (kz_0_11 : 0 ≤ pos_0 ∧ pos_0 ≤ 2000) (kz_0_12 : 0 ≤ kind_0 ∧ kind_0 ≤ 4) (kz_0_13 : 0 ≤ place_0 ∧ place_0 ≤ 2000) (kz_0_14 : (-49) ≤ value_0 ∧ value_0 ≤ 1048575) (kz_0_15 : 0 ≤ from_0 ∧ from_0 ≤ 2000) (ex2 : gx = x2) (ey2 : gy = from_0) (eu2 : gu = x3) : zRSE (limit_0) (pos_0) (kind_0) (place_0) (value_0) (from_0) (fault_0) (r_0) (tape_0) (all_0) (x1) (gu) := by
  first | subst ex2 | skip
  first | subst ey2 | skip
  first | subst eu2 | skip
  assumption
def o_Mo_edgeItem_0 : or_T := (3, 5, [(0, (2, 0, 0, [165])), (1, (0, 0, 7, [])), (2, (0, 0, 2000, [])), (3, (0, 0, 4, [])), (4, (0, -1, -1, []))], [(20, [0, 0], [30, 0, 1, 1, 15, -1, 1, 11]), (20, [0], [50, 3, 0, 12, 11, 15, 2, 21, 4, 7, 1, 3, 2, 0, 12, 0, 1, 0, 3, 2, 0, 11, 4, 3, 2, 0, 15, 0, 8, 3, 7, 1, 3, 2, 0, 12, 0, 0, 0, 7, 4, 3, 2, 0, 15, 0, 1, 2, 0, 11]), (20, [2, 0], [30, 0, 1, 0, 0, -1, 1, 11]), (20, [1, 0], [50, 1, 1, 1005, 1002, 0, 6, 4, 2, 1, 0, 0, 1, 3, 1, 2, 4, 3, 2, 1, 5, 0, 2]), (20, [0], [60, 1, 3, 199, 5, 2, 3, 4]), (20, [0, 1, 3], [60, 8, 2, 991, 10, 11, 12, 13, 14, 15, 8, 5, 1, 2])], [], [(0, 0, 2000, []), (0, 0, 2000, []), (0, 0, 4, [])], [(23, [5, 2], [0, 1, -1]), (23, [5, 2], [0, -1, 1]), (23, [7, 3], [0, 1, -1]), (23, [7, 3], [0, -1, 1]), (20, [0, 0], [30, 0, 1, 1, 15, -1, 1, 11]), (20, [0], [50, 3, 0, 12, 11, 15, 2, 21, 4, 7, 1, 3, 2, 0, 12, 0, 1, 0, 3, 2, 0, 11, 4, 3, 2, 0, 15, 0, 8, 3, 7, 1, 3, 2, 0, 12, 0, 0, 0, 7, 4, 3, 2, 0, 15, 0, 1, 2, 0, 11]), (20, [5, 0], [30, 0, 1, 0, 0, -1, 1, 11]), (20, [0, 6], [50, 2, 0, 12, 11, 3, 7, 1, 3, 2, 0, 12, 0, 0, 0, 6, 4, 2, 1, 1, 0, 1, 2, 0, 11]), (20, [1, 0], [50, 1, 1, 1005, 1002, 0, 6, 4, 2, 1, 0, 0, 1, 3, 1, 2, 4, 3, 2, 1, 5, 0, 2]), (20, [0], [60, 1, 3, 199, 5, 2, 3, 4]), (20, [0, 4], [60, 1, 1, 241, 5, 2]), (20, [0, 1, 7], [60, 8, 2, 991, 10, 11, 12, 13, 14, 15, 8, 5, 1, 2])], [], [])
theorem oo_Mo_edgeItem_0 {kA : Nat → ClassId} : or_ok PRD kA GG o_Mo_edgeItem_0 := by
  refine or_mk fun A ta ws vs hD hth hl => ?_
  intro t0 r0 t1 k1 t2 k2 t3 k3 t4 k4 f0 f1 f2 f3 f4 f5
  replace f0 := shm_1437 f0
  replace f1 := shm_1438 f1
  replace f2 := shm_1431 f2
  replace f3 := shm_1009 f3
  replace f4 := shm_980 f4
  replace f5 := shm_2113 f5
  have kz_0_8 := fdq_34 hD hth r0
  have kz_0_10 := fdq_43 hD hth r0
  have kz_0_11 := fdq_237 hD hth r0
  have kz_0_12 := fdq_187 hD hth r0
  have kz_0_13 := fdq_238 hD hth r0
  have kz_0_14 := fdq_188 hD hth r0
  have kz_0_15 := fdq_239 hD hth r0
  obtain ⟨x, ex, hx⟩ := iv_ex (ta := ta) (lo := 0) (hi := 2000) (z := v_iv (n_v vs 2)) (by omega) (by omega) (by omega) (by omega)
  have ex2 : v_iv (Value.int x) = v_iv (n_v vs 2) := ex
  have ex3 : 0 ≤ v_iv (Value.int x) ∧ v_iv (Value.int x) ≤ 2000 := tv_rng hx
  obtain ⟨y, ey, hy⟩ := iv_ex (ta := ta) (lo := 0) (hi := 2000) (z := w_fi ws (n_v vs 0) 15) (by omega) (by omega) (by omega) (by omega)
  have ey2 : v_iv (Value.int y) = w_fi ws (n_v vs 0) 15 := ey
  have ey3 : 0 ≤ v_iv (Value.int y) ∧ v_iv (Value.int y) ≤ 2000 := tv_rng hy
  obtain ⟨u, eu, hu⟩ := iv_ex (ta := ta) (lo := 0) (hi := 4) (z := v_iv (n_v vs 3)) (by omega) (by omega) (by omega) (by omega)
  have eu2 : v_iv (Value.int u) = v_iv (n_v vs 3) := eu
  have eu3 : 0 ≤ v_iv (Value.int u) ∧ v_iv (Value.int u) ≤ 4 := tv_rng hu
  have e_0 : n_v (vs ++ [Value.int x, Value.int y, Value.int u]) 0 = n_v vs 0 := n_v_old (by rw [hl]; decide)
  have e_1 : n_v (vs ++ [Value.int x, Value.int y, Value.int u]) 1 = n_v vs 1 := n_v_old (by rw [hl]; decide)
  have e_2 : n_v (vs ++ [Value.int x, Value.int y, Value.int u]) 2 = n_v vs 2 := n_v_old (by rw [hl]; decide)
  have e_3 : n_v (vs ++ [Value.int x, Value.int y, Value.int u]) 3 = n_v vs 3 := n_v_old (by rw [hl]; decide)
  have e_4 : n_v (vs ++ [Value.int x, Value.int y, Value.int u]) 4 = n_v vs 4 := n_v_old (by rw [hl]; decide)
  have e_5 : n_v (vs ++ [Value.int x, Value.int y, Value.int u]) 5 = Value.int x := n_v_newk (k := 0) hl rfl
  have e_6 : n_v (vs ++ [Value.int x, Value.int y, Value.int u]) 6 = Value.int y := n_v_newk (k := 1) hl rfl
  have e_7 : n_v (vs ++ [Value.int x, Value.int y, Value.int u]) 7 = Value.int u := n_v_newk (k := 2) hl rfl
  have nf0 : fc_1 PRD (23, [5, 2], [0, 1, -1]) ws (vs ++ [Value.int x, Value.int y, Value.int u]) := by
    refine ⟨nf_inA hl rfl, sgq_7 ?_⟩
    · show 1 * v_iv (n_v (vs ++ [Value.int x, Value.int y, Value.int u]) 5) + ((-1) * v_iv (n_v (vs ++ [Value.int x, Value.int y, Value.int u]) 2) + 0) ≤ 0
      simp only [e_2, e_5]
      exact vc_Mo_edgeItem_0_0 (v_iv (n_v vs 2)) (w_fi ws (n_v vs 0) 5) (v_iv (Value.int x)) k2 ex2
  have nf1 : fc_1 PRD (23, [5, 2], [0, -1, 1]) ws (vs ++ [Value.int x, Value.int y, Value.int u]) := by
    refine ⟨nf_inA hl rfl, sgq_22 ?_⟩
    · show (-1) * v_iv (n_v (vs ++ [Value.int x, Value.int y, Value.int u]) 5) + (1 * v_iv (n_v (vs ++ [Value.int x, Value.int y, Value.int u]) 2) + 0) ≤ 0
      simp only [e_2, e_5]
      exact vc_Mo_edgeItem_0_1 (v_iv (n_v vs 2)) (w_fi ws (n_v vs 0) 5) (v_iv (Value.int x)) k2 ex2
  have nf2 : fc_1 PRD (23, [7, 3], [0, 1, -1]) ws (vs ++ [Value.int x, Value.int y, Value.int u]) := by
    refine ⟨nf_inA hl rfl, sgq_7 ?_⟩
    · show 1 * v_iv (n_v (vs ++ [Value.int x, Value.int y, Value.int u]) 7) + ((-1) * v_iv (n_v (vs ++ [Value.int x, Value.int y, Value.int u]) 3) + 0) ≤ 0
      simp only [e_3, e_7]
      exact vc_Mo_edgeItem_0_2 (v_iv (n_v vs 3)) (w_fi ws (n_v vs 0) 5) (v_iv (Value.int u)) k3 eu2
  have nf3 : fc_1 PRD (23, [7, 3], [0, -1, 1]) ws (vs ++ [Value.int x, Value.int y, Value.int u]) := by
    refine ⟨nf_inA hl rfl, sgq_22 ?_⟩
    · show (-1) * v_iv (n_v (vs ++ [Value.int x, Value.int y, Value.int u]) 7) + (1 * v_iv (n_v (vs ++ [Value.int x, Value.int y, Value.int u]) 3) + 0) ≤ 0
      simp only [e_3, e_7]
      exact vc_Mo_edgeItem_0_3 (v_iv (n_v vs 3)) (w_fi ws (n_v vs 0) 5) (v_iv (Value.int u)) k3 eu2
  have nf4 : fc_1 PRD (20, [0, 0], [30, 0, 1, 1, 15, -1, 1, 11]) ws (vs ++ [Value.int x, Value.int y, Value.int u]) := by
    refine ⟨nf_inA hl rfl, sgq_1437 ?_⟩
    · show 1 * w_fi ws (n_v (vs ++ [Value.int x, Value.int y, Value.int u]) 0) 15 + ((-1) * w_fi ws (n_v (vs ++ [Value.int x, Value.int y, Value.int u]) 0) 11 + 0) ≤ 0
      rw [e_0]
      exact vc_Mo_edgeItem_0_4 (w_fi ws (n_v vs 0) 15) (w_fi ws (n_v vs 0) 11) (w_fi ws (n_v vs 0) 5) f0 kz_0_11 kz_0_15
  have nf5 : fc_1 PRD (20, [0], [50, 3, 0, 12, 11, 15, 2, 21, 4, 7, 1, 3, 2, 0, 12, 0, 1, 0, 3, 2, 0, 11, 4, 3, 2, 0, 15, 0, 8, 3, 7, 1, 3, 2, 0, 12, 0, 0, 0, 7, 4, 3, 2, 0, 15, 0, 1, 2, 0, 11]) ws (vs ++ [Value.int x, Value.int y, Value.int u]) := by
    refine ⟨nf_inA hl rfl, sgq_1438 ?_⟩
    · show ((w_fi ws (n_v (vs ++ [Value.int x, Value.int y, Value.int u]) 0) 12 = 1) → (w_fi ws (n_v (vs ++ [Value.int x, Value.int y, Value.int u]) 0) 11 ≤ (w_fi ws (n_v (vs ++ [Value.int x, Value.int y, Value.int u]) 0) 15 + 8))) ∧ ((w_fi ws (n_v (vs ++ [Value.int x, Value.int y, Value.int u]) 0) 12 = 0) ∨ ((w_fi ws (n_v (vs ++ [Value.int x, Value.int y, Value.int u]) 0) 15 + 1) ≤ w_fi ws (n_v (vs ++ [Value.int x, Value.int y, Value.int u]) 0) 11))
      rw [e_0]
      exact vc_Mo_edgeItem_0_5 (w_fi ws (n_v vs 0) 15) (w_fi ws (n_v vs 0) 11) (w_fi ws (n_v vs 0) 12) (w_fi ws (n_v vs 0) 5) f1 kz_0_11 kz_0_12 kz_0_15
  have nf6 : fc_1 PRD (20, [5, 0], [30, 0, 1, 0, 0, -1, 1, 11]) ws (vs ++ [Value.int x, Value.int y, Value.int u]) := by
    refine ⟨nf_inA hl rfl, sgq_1431 ?_⟩
    · show 1 * v_iv (n_v (vs ++ [Value.int x, Value.int y, Value.int u]) 5) + ((-1) * w_fi ws (n_v (vs ++ [Value.int x, Value.int y, Value.int u]) 0) 11 + 0) ≤ 0
      simp only [e_0, e_5]
      exact vc_Mo_edgeItem_0_6 (v_iv (n_v vs 2)) (w_fi ws (n_v vs 0) 11) (w_fi ws (n_v vs 0) 5) (v_iv (Value.int x)) k2 f2 kz_0_11 ex2
  have nf7 : fc_1 PRD (20, [0, 6], [50, 2, 0, 12, 11, 3, 7, 1, 3, 2, 0, 12, 0, 0, 0, 6, 4, 2, 1, 1, 0, 1, 2, 0, 11]) ws (vs ++ [Value.int x, Value.int y, Value.int u]) := by
    refine ⟨nf_inA hl rfl, sgq_2111 ?_⟩
    · show (w_fi ws (n_v (vs ++ [Value.int x, Value.int y, Value.int u]) 0) 12 = 0) ∨ ((v_iv (n_v (vs ++ [Value.int x, Value.int y, Value.int u]) 6) + 1) ≤ w_fi ws (n_v (vs ++ [Value.int x, Value.int y, Value.int u]) 0) 11)
      simp only [e_0, e_6]
      exact vc_Mo_edgeItem_0_7 (w_fi ws (n_v vs 0) 15) (w_fi ws (n_v vs 0) 11) (w_fi ws (n_v vs 0) 12) (w_fi ws (n_v vs 0) 5) (v_iv (Value.int y)) f0 f1 kz_0_11 kz_0_12 kz_0_15 ey2
  have nf8 : fc_1 PRD (20, [1, 0], [50, 1, 1, 1005, 1002, 0, 6, 4, 2, 1, 0, 0, 1, 3, 1, 2, 4, 3, 2, 1, 5, 0, 2]) ws (vs ++ [Value.int x, Value.int y, Value.int u]) := by
    refine ⟨nf_inA hl rfl, sgq_1009 ?_⟩
    · show (v_iv (n_v (vs ++ [Value.int x, Value.int y, Value.int u]) 1) + 1) ≤ w_ei ws (w_ar ws (n_v (vs ++ [Value.int x, Value.int y, Value.int u]) 0) 2) ((w_fi ws (n_v (vs ++ [Value.int x, Value.int y, Value.int u]) 0) 5 + 2))
      simp only [e_0, e_1]
      exact vc_Mo_edgeItem_0_8 (v_iv (n_v vs 1)) (w_ei ws (w_ar ws (n_v vs 0) 2)) (w_fi ws (n_v vs 0) 5) k1 f3
  have nf9 : fc_1 PRD (20, [0], [60, 1, 3, 199, 5, 2, 3, 4]) ws (vs ++ [Value.int x, Value.int y, Value.int u]) := by
    refine ⟨nf_inA hl rfl, sgq_980 ?_⟩
    · show RWS (w_fi ws (n_v (vs ++ [Value.int x, Value.int y, Value.int u]) 0) 5) (w_ei ws (w_ar ws (n_v (vs ++ [Value.int x, Value.int y, Value.int u]) 0) 2)) (w_ei ws (w_ar ws (n_v (vs ++ [Value.int x, Value.int y, Value.int u]) 0) 3)) (w_ei ws (w_ar ws (n_v (vs ++ [Value.int x, Value.int y, Value.int u]) 0) 4))
      rw [e_0]
      exact vc_Mo_edgeItem_0_9 (w_ei ws (w_ar ws (n_v vs 0) 2)) (w_fi ws (n_v vs 0) 5) (w_ei ws (w_ar ws (n_v vs 0) 3)) (w_ei ws (w_ar ws (n_v vs 0) 4)) f4
  have nf10 : fc_1 PRD (20, [0, 4], [60, 1, 1, 241, 5, 2]) ws (vs ++ [Value.int x, Value.int y, Value.int u]) := by
    refine ⟨nf_inA hl rfl, sgq_2112 ?_⟩
    · show MEB (w_fi ws (n_v (vs ++ [Value.int x, Value.int y, Value.int u]) 0) 5) (w_ei ws (w_ar ws (n_v (vs ++ [Value.int x, Value.int y, Value.int u]) 0) 2)) (v_iv (n_v (vs ++ [Value.int x, Value.int y, Value.int u]) 4))
      simp only [e_0, e_4]
      exact vc_Mo_edgeItem_0_10 (v_iv (n_v vs 4)) (w_ei ws (w_ar ws (n_v vs 0) 2)) (w_fi ws (n_v vs 0) 5) k4
  have nf11 : fc_1 PRD (20, [0, 1, 7], [60, 8, 2, 991, 10, 11, 12, 13, 14, 15, 8, 5, 1, 2]) ws (vs ++ [Value.int x, Value.int y, Value.int u]) := by
    refine ⟨nf_inA hl rfl, sgq_2113 ?_⟩
    · show zRSE (w_fi ws (n_v (vs ++ [Value.int x, Value.int y, Value.int u]) 0) 10) (w_fi ws (n_v (vs ++ [Value.int x, Value.int y, Value.int u]) 0) 11) (w_fi ws (n_v (vs ++ [Value.int x, Value.int y, Value.int u]) 0) 12) (w_fi ws (n_v (vs ++ [Value.int x, Value.int y, Value.int u]) 0) 13) (w_fi ws (n_v (vs ++ [Value.int x, Value.int y, Value.int u]) 0) 14) (w_fi ws (n_v (vs ++ [Value.int x, Value.int y, Value.int u]) 0) 15) (w_fi ws (n_v (vs ++ [Value.int x, Value.int y, Value.int u]) 0) 8) (w_fi ws (n_v (vs ++ [Value.int x, Value.int y, Value.int u]) 0) 5) (w_ei ws (w_ar ws (n_v (vs ++ [Value.int x, Value.int y, Value.int u]) 0) 1)) (w_ei ws (w_ar ws (n_v (vs ++ [Value.int x, Value.int y, Value.int u]) 0) 2)) (v_iv (n_v (vs ++ [Value.int x, Value.int y, Value.int u]) 1)) (v_iv (n_v (vs ++ [Value.int x, Value.int y, Value.int u]) 7))
      simp only [e_0, e_1, e_7]
      exact vc_Mo_edgeItem_0_11 (v_iv (n_v vs 1)) (v_iv (n_v vs 2)) (v_iv (n_v vs 3)) (w_fi ws (n_v vs 0) 15) (w_fi ws (n_v vs 0) 11) (w_fi ws (n_v vs 0) 12) (w_ei ws (w_ar ws (n_v vs 0) 2)) (w_fi ws (n_v vs 0) 5) (w_ei ws (w_ar ws (n_v vs 0) 1)) (w_fi ws (n_v vs 0) 10) (w_fi ws (n_v vs 0) 13) (w_fi ws (n_v vs 0) 14) (w_fi ws (n_v vs 0) 8) (v_iv (Value.int x)) (v_iv (Value.int y)) (v_iv (Value.int u)) k1 k2 k3 f5 kz_0_8 kz_0_10 kz_0_11 kz_0_12 kz_0_13 kz_0_14 kz_0_15 ex2 ey2 eu2
  exact ⟨(fun _ h => (by cases h)), [Value.int x, Value.int y, Value.int u], ag_three hx hy hu, List.forall_mem_cons.mpr ⟨⟨show (23 : Nat) < 100 from by decide, nf0⟩, List.forall_mem_cons.mpr ⟨⟨show (23 : Nat) < 100 from by decide, nf1⟩, List.forall_mem_cons.mpr ⟨⟨show (23 : Nat) < 100 from by decide, nf2⟩, List.forall_mem_cons.mpr ⟨⟨show (23 : Nat) < 100 from by decide, nf3⟩, List.forall_mem_cons.mpr ⟨⟨show (20 : Nat) < 100 from by decide, nf4⟩, List.forall_mem_cons.mpr ⟨⟨show (20 : Nat) < 100 from by decide, nf5⟩, List.forall_mem_cons.mpr ⟨⟨show (20 : Nat) < 100 from by decide, nf6⟩, List.forall_mem_cons.mpr ⟨⟨show (20 : Nat) < 100 from by decide, nf7⟩, List.forall_mem_cons.mpr ⟨⟨show (20 : Nat) < 100 from by decide, nf8⟩, List.forall_mem_cons.mpr ⟨⟨show (20 : Nat) < 100 from by decide, nf9⟩, List.forall_mem_cons.mpr ⟨⟨show (20 : Nat) < 100 from by decide, nf10⟩, List.forall_mem_cons.mpr ⟨⟨show (20 : Nat) < 100 from by decide, nf11⟩, (fun _ h => (by cases h))⟩⟩⟩⟩⟩⟩⟩⟩⟩⟩⟩⟩, (fun _ h => (by cases h))⟩
set_option maxHeartbeats 4000000 in
theorem vc_Mo_edgeItem_1_0 (x1 : Int) (all_0 : Int → Int) (r_0 : Int) (k1 : 0 ≤ x1 ∧ x1 ≤ 7) (f15 : (x1 + 1) ≤ all_0 ((r_0 + 2))) : (x1 + 1) ≤ all_0 ((r_0 + 2)) := by
  first
    | omega
    | (have q1 := (hE_0_2_1 (r_0 + 2) (by omega)).2 (by omega)
       have q2 := (hE_0_2_2 (r_0 + 2) (by omega)).2 (by omega)
       omega)
    | (have q1 := (hE_0_2_1 (r_0 + 1) (by omega)).2 (by omega)
       have q2 := (hE_0_2_2 (r_0 + 1) (by omega)).2 (by omega)
       omega)
    | (have q1 := (hE_0_2_1 (r_0 + 2) (by omega)).2 (by omega)
       omega)
    | (have q1 := (hE_0_2_1 (r_0 + 1) (by omega)).2 (by omega)
       omega)
    | (have q1 := (hE_0_2_1 (r_0 + 2) (by omega)).2 (by omega)
       have q2 := (hE_0_2_2 (r_0 + 2) (by omega)).2 (by omega)
       have q3 := (hE_0_2_3 (r_0 + 2) (by omega)).1 (by omega)
       omega)
    | (have q1 := (hE_0_2_1 (r_0 + 2) (by omega)).2 (by omega)
       have q2 := (hE_0_2_2 (r_0 + 2) (by omega)).2 (by omega)
       have q3 := (hE_0_2_3 (r_0 + 2) (by omega)).2 (by omega)
       omega)
set_option maxHeartbeats 4000000 in
theorem vc_Mo_edgeItem_1_1 (r_0 : Int) (from_0 : Int) (pos_0 : Int) (f8 : 1 * from_0 + ((-1) * pos_0 + 0) ≤ 0) (kz_0_11 : 0 ≤ pos_0 ∧ pos_0 ≤ 2000) (kz_0_15 : 0 ≤ from_0 ∧ from_0 ≤ 2000) : 1 * from_0 + ((-1) * pos_0 + 0) ≤ 0 := by
  first
    | omega
    | (have q1 := (hE_0_2_1 (r_0 + 2) (by omega)).2 (by omega)
       have q2 := (hE_0_2_2 (r_0 + 2) (by omega)).2 (by omega)
       omega)
    | (have q1 := (hE_0_2_1 (r_0 + 1) (by omega)).2 (by omega)
       have q2 := (hE_0_2_2 (r_0 + 1) (by omega)).2 (by omega)
       omega)
    | (have q1 := (hE_0_2_1 (r_0 + 2) (by omega)).2 (by omega)
       omega)
    | (have q1 := (hE_0_2_1 (r_0 + 1) (by omega)).2 (by omega)
       omega)
    | (have q1 := (hE_0_2_1 (r_0 + 2) (by omega)).2 (by omega)
       have q2 := (hE_0_2_2 (r_0 + 2) (by omega)).2 (by omega)
       have q3 := (hE_0_2_3 (r_0 + 2) (by omega)).1 (by omega)
       omega)
    | (have q1 := (hE_0_2_1 (r_0 + 2) (by omega)).2 (by omega)
       have q2 := (hE_0_2_2 (r_0 + 2) (by omega)).2 (by omega)
       have q3 := (hE_0_2_3 (r_0 + 2) (by omega)).2 (by omega)
       omega)
set_option maxHeartbeats 4000000 in
theorem vc_Mo_edgeItem_1_2 (r_0 : Int) (from_0 : Int) (pos_0 : Int) (kind_0 : Int) (f9 : ((kind_0 = 1) → (pos_0 ≤ (from_0 + 8))) ∧ ((kind_0 = 0) ∨ ((from_0 + 1) ≤ pos_0))) (kz_0_11 : 0 ≤ pos_0 ∧ pos_0 ≤ 2000) (kz_0_12 : 0 ≤ kind_0 ∧ kind_0 ≤ 4) (kz_0_15 : 0 ≤ from_0 ∧ from_0 ≤ 2000) : ((kind_0 = 1) → (pos_0 ≤ (from_0 + 8))) ∧ ((kind_0 = 0) ∨ ((from_0 + 1) ≤ pos_0)) := by
  first
    | omega
    | (have q1 := (hE_0_2_1 (r_0 + 2) (by omega)).2 (by omega)
       have q2 := (hE_0_2_2 (r_0 + 2) (by omega)).2 (by omega)
       omega)
    | (have q1 := (hE_0_2_1 (r_0 + 1) (by omega)).2 (by omega)
       have q2 := (hE_0_2_2 (r_0 + 1) (by omega)).2 (by omega)
       omega)
    | (have q1 := (hE_0_2_1 (r_0 + 2) (by omega)).2 (by omega)
       omega)
    | (have q1 := (hE_0_2_1 (r_0 + 1) (by omega)).2 (by omega)
       omega)
    | (have q1 := (hE_0_2_1 (r_0 + 2) (by omega)).2 (by omega)
       have q2 := (hE_0_2_2 (r_0 + 2) (by omega)).2 (by omega)
       have q3 := (hE_0_2_3 (r_0 + 2) (by omega)).1 (by omega)
       omega)
    | (have q1 := (hE_0_2_1 (r_0 + 2) (by omega)).2 (by omega)
       have q2 := (hE_0_2_2 (r_0 + 2) (by omega)).2 (by omega)
       have q3 := (hE_0_2_3 (r_0 + 2) (by omega)).2 (by omega)
       omega)
set_option maxHeartbeats 4000000 in
theorem vc_Mo_edgeItem_1_3 (x2 : Int) (x5 : Int) (r_0 : Int) (pos_0 : Int) (gx : Int) (k2 : 0 ≤ x2 ∧ x2 ≤ 2000) (k5 : 0 ≤ x5 ∧ x5 ≤ 2000) (f4 : 1 * x5 + ((-1) * x2 + 0) ≤ 0) (f5 : (-1) * x5 + (1 * x2 + 0) ≤ 0) (f10 : 1 * x5 + ((-1) * pos_0 + 0) ≤ 0) (kz_0_11 : 0 ≤ pos_0 ∧ pos_0 ≤ 2000) (ex2 : gx = 2000 + ((-1) * pos_0 + 0)) : 1 * x2 + ((-1) * pos_0 + 0) ≤ 0 := by
  first
    | omega
    | (have q1 := (hE_0_2_1 (r_0 + 2) (by omega)).2 (by omega)
       have q2 := (hE_0_2_2 (r_0 + 2) (by omega)).2 (by omega)
       omega)
    | (have q1 := (hE_0_2_1 (r_0 + 1) (by omega)).2 (by omega)
       have q2 := (hE_0_2_2 (r_0 + 1) (by omega)).2 (by omega)
       omega)
    | (have q1 := (hE_0_2_1 (r_0 + 2) (by omega)).2 (by omega)
       omega)
    | (have q1 := (hE_0_2_1 (r_0 + 1) (by omega)).2 (by omega)
       omega)
    | (have q1 := (hE_0_2_1 (r_0 + 2) (by omega)).2 (by omega)
       have q2 := (hE_0_2_2 (r_0 + 2) (by omega)).2 (by omega)
       have q3 := (hE_0_2_3 (r_0 + 2) (by omega)).1 (by omega)
       omega)
    | (have q1 := (hE_0_2_1 (r_0 + 2) (by omega)).2 (by omega)
       have q2 := (hE_0_2_2 (r_0 + 2) (by omega)).2 (by omega)
       have q3 := (hE_0_2_3 (r_0 + 2) (by omega)).2 (by omega)
       omega)
set_option maxHeartbeats 4000000 in
theorem vc_Mo_edgeItem_1_4 (x2 : Int) (x10 : Int) (fault_0 : Int) (r_0 : Int) (pos_0 : Int) (kind_0 : Int) (k2 : 0 ≤ x2 ∧ x2 ≤ 2000) (k10 : 1 ≤ x10 ∧ x10 ≤ 5) (g1 : x10 = fault_0) (kz_0_8 : 0 ≤ fault_0 ∧ fault_0 ≤ 5) (kz_0_11 : 0 ≤ pos_0 ∧ pos_0 ≤ 2000) (kz_0_12 : 0 ≤ kind_0 ∧ kind_0 ≤ 4) : (1 ≤ fault_0) ∨ ((kind_0 = 0) ∨ ((x2 + 1) ≤ pos_0)) := by
  first
    | omega
    | (have q1 := (hE_0_2_1 (r_0 + 2) (by omega)).2 (by omega)
       have q2 := (hE_0_2_2 (r_0 + 2) (by omega)).2 (by omega)
       omega)
    | (have q1 := (hE_0_2_1 (r_0 + 1) (by omega)).2 (by omega)
       have q2 := (hE_0_2_2 (r_0 + 1) (by omega)).2 (by omega)
       omega)
    | (have q1 := (hE_0_2_1 (r_0 + 2) (by omega)).2 (by omega)
       omega)
    | (have q1 := (hE_0_2_1 (r_0 + 1) (by omega)).2 (by omega)
       omega)
    | (have q1 := (hE_0_2_1 (r_0 + 2) (by omega)).2 (by omega)
       have q2 := (hE_0_2_2 (r_0 + 2) (by omega)).2 (by omega)
       have q3 := (hE_0_2_3 (r_0 + 2) (by omega)).1 (by omega)
       omega)
    | (have q1 := (hE_0_2_1 (r_0 + 2) (by omega)).2 (by omega)
       have q2 := (hE_0_2_2 (r_0 + 2) (by omega)).2 (by omega)
       have q3 := (hE_0_2_3 (r_0 + 2) (by omega)).2 (by omega)
       omega)
set_option maxHeartbeats 4000000 in
theorem vc_Mo_edgeItem_1_5 (x8 : Int) (fault_0 : Int) (r_0 : Int) (k8 : (-1) ≤ x8 ∧ x8 ≤ 23) (f13 : ((-1) * fault_0 + 0 ≤ (-1)) ∨ ((-1) * x8 + 0 ≤ 0)) (kz_0_8 : 0 ≤ fault_0 ∧ fault_0 ≤ 5) : ((-1) * fault_0 + 0 ≤ (-1)) ∨ ((-1) * x8 + 0 ≤ 0) := by
  first
    | omega
    | (have q1 := (hE_0_2_1 (r_0 + 2) (by omega)).2 (by omega)
       have q2 := (hE_0_2_2 (r_0 + 2) (by omega)).2 (by omega)
       omega)
    | (have q1 := (hE_0_2_1 (r_0 + 1) (by omega)).2 (by omega)
       have q2 := (hE_0_2_2 (r_0 + 1) (by omega)).2 (by omega)
       omega)
    | (have q1 := (hE_0_2_1 (r_0 + 2) (by omega)).2 (by omega)
       omega)
    | (have q1 := (hE_0_2_1 (r_0 + 1) (by omega)).2 (by omega)
       omega)
    | (have q1 := (hE_0_2_1 (r_0 + 2) (by omega)).2 (by omega)
       have q2 := (hE_0_2_2 (r_0 + 2) (by omega)).2 (by omega)
       have q3 := (hE_0_2_3 (r_0 + 2) (by omega)).1 (by omega)
       omega)
    | (have q1 := (hE_0_2_1 (r_0 + 2) (by omega)).2 (by omega)
       have q2 := (hE_0_2_2 (r_0 + 2) (by omega)).2 (by omega)
       have q3 := (hE_0_2_3 (r_0 + 2) (by omega)).2 (by omega)
       omega)
set_option maxHeartbeats 4000000 in
theorem vc_Mo_edgeItem_1_6 (all_0 : Int → Int) (r_0 : Int) (now_0 : Int → Int) (latest_0 : Int → Int) (f16 : RWS (r_0) (all_0) (now_0) (latest_0)) : RWS (r_0) (all_0) (now_0) (latest_0) := by
  first
    | assumption
set_option maxHeartbeats 4000000 in
theorem vc_Mo_edgeItem_1_7 (x8 : Int) (x10 : Int) (fault_0 : Int) (all_0 : Int → Int) (r_0 : Int) (k8 : (-1) ≤ x8 ∧ x8 ≤ 23) (k10 : 1 ≤ x10 ∧ x10 ≤ 5) (g1 : x10 = fault_0) (kz_0_8 : 0 ≤ fault_0 ∧ fault_0 ≤ 5) : EDI (r_0) (fault_0) (all_0) (x8) := by
  first
    | (intro q; exfalso; omega)
    | exact fun q => (‹MET _ _ _ _ _› (by omega)).1
    | exact fun q => ‹NDA _ _ _›
set_option maxHeartbeats 4000000 in
theorem vc_Mo_edgeItem_1_8 (x1 : Int) (x2 : Int) (x3 : Int) (x5 : Int) (x7 : Int) (x8 : Int) (x9 : Int) (x10 : Int) (fault_0 : Int) (all_0 : Int → Int) (r_0 : Int) (from_0 : Int) (pos_0 : Int) (kind_0 : Int) (tape_0 : Int → Int) (limit_0 : Int) (place_0 : Int) (value_0 : Int) (faultPlace_0 : Int) (k1 : 0 ≤ x1 ∧ x1 ≤ 7) (k2 : 0 ≤ x2 ∧ x2 ≤ 2000) (k3 : 0 ≤ x3 ∧ x3 ≤ 4) (k5 : 0 ≤ x5 ∧ x5 ≤ 2000) (k7 : 0 ≤ x7 ∧ x7 ≤ 4) (k8 : (-1) ≤ x8 ∧ x8 ≤ 23) (k9 : 0 ≤ x9 ∧ x9 ≤ 48) (k10 : 1 ≤ x10 ∧ x10 ≤ 5) (f0 : x10 ≠ 0) (g1 : x10 = fault_0) (f2 : 1 * x9 + ((-1) * all_0 (r_0 + 1) + 0) ≤ 0) (f3 : (-1) * x9 + (1 * all_0 (r_0 + 1) + 0) ≤ 0) (f4 : 1 * x5 + ((-1) * x2 + 0) ≤ 0) (f5 : (-1) * x5 + (1 * x2 + 0) ≤ 0) (f6 : 1 * x7 + ((-1) * x3 + 0) ≤ 0) (f7 : (-1) * x7 + (1 * x3 + 0) ≤ 0) (f18 : zOS3 (limit_0) (pos_0) (kind_0) (place_0) (value_0) (from_0) (fault_0) (faultPlace_0) (r_0) (tape_0) (all_0) (x8) (x1) (x7)) (kz_0_8 : 0 ≤ fault_0 ∧ fault_0 ≤ 5) (kz_0_9 : 0 ≤ faultPlace_0 ∧ faultPlace_0 ≤ 2000) (kz_0_10 : 0 ≤ limit_0 ∧ limit_0 ≤ 2000) (kz_0_11 : 0 ≤ pos_0 ∧ pos_0 ≤ 2000) (kz_0_12 : 0 ≤ kind_0 ∧ kind_0 ≤ 4) (kz_0_13 : 0 ≤ place_0 ∧ place_0 ≤ 2000) (kz_0_14 : (-49) ≤ value_0 ∧ value_0 ≤ 1048575) (kz_0_15 : 0 ≤ from_0 ∧ from_0 ≤ 2000) : zOSL (limit_0) (pos_0) (kind_0) (place_0) (value_0) (from_0) (fault_0) (faultPlace_0) (r_0) (tape_0) (all_0) (x8) (x9) (x1) (x3) := by
  first | (have el_x5 : x5 = x2 := by omega); subst el_x5 | skip
  first | (have el_x7 : x7 = x3 := by omega); subst el_x7 | skip
  first | subst g1 | skip
  first
    | (refine Or.inl (fs_w ?_ ?_ (by assumption)) <;> assumption)
    | (have a := sgq_t (C := 45) (‹SGQ _ _ _ x11 _›) (by omega) (by omega); exact ed_head ‹zOS3 _ _ _ _ _ _ _ _ _ _ _ _ _ _› (by omega) (Or.inr ⟨a.2.1, Or.inl a.2.2⟩))
    | (have a := sgq_t (C := 62) (‹SGQ _ _ _ x13 _›) (by omega) (by omega); exact ed_head ‹zOS3 _ _ _ _ _ _ _ _ _ _ _ _ _ _› (by omega) (Or.inr ⟨a.2.1, Or.inr a.2.2⟩))
    | exact Or.inr (Or.inl ‹zRS8 _ _ _ _ _ _ _ _ _ _ _ _ _ _›)
    | exact ed_head ‹zOS3 _ _ _ _ _ _ _ _ _ _ _ _ _ _› (by omega) (Or.inl (by omega))
    | exact ed_head ‹zOS3 _ _ _ _ _ _ _ _ _ _ _ _ _ _› (by omega) (Or.inr ⟨by omega, by omega⟩)
    | exact ed_head ‹zOS3 _ _ _ _ _ _ _ _ _ _ _ _ _ _› (by simp only [Int.add_zero] at *; omega) (Or.inr ⟨by omega, by omega⟩)
    | (exfalso; omega)
set_option maxHeartbeats 4000000 in
theorem vc_Mo_edgeItem_1_11 (r_0 : Int) (pos_0 : Int) (gx : Int) (kz_0_11 : 0 ≤ pos_0 ∧ pos_0 ≤ 2000) (ex2 : gx = 2000 + ((-1) * pos_0 + 0)) : 1 * gx + (1 * pos_0 + 0) ≤ 2000 := by
  first
    | omega
    | (have q1 := (hE_0_2_1 (r_0 + 2) (by omega)).2 (by omega)
       have q2 := (hE_0_2_2 (r_0 + 2) (by omega)).2 (by omega)
       omega)
    | (have q1 := (hE_0_2_1 (r_0 + 1) (by omega)).2 (by omega)
       have q2 := (hE_0_2_2 (r_0 + 1) (by omega)).2 (by omega)
       omega)
    | (have q1 := (hE_0_2_1 (r_0 + 2) (by omega)).2 (by omega)
       omega)
    | (have q1 := (hE_0_2_1 (r_0 + 1) (by omega)).2 (by omega)
       omega)
    | (have q1 := (hE_0_2_1 (r_0 + 2) (by omega)).2 (by omega)
       have q2 := (hE_0_2_2 (r_0 + 2) (by omega)).2 (by omega)
       have q3 := (hE_0_2_3 (r_0 + 2) (by omega)).1 (by omega)
       omega)
    | (have q1 := (hE_0_2_1 (r_0 + 2) (by omega)).2 (by omega)
       have q2 := (hE_0_2_2 (r_0 + 2) (by omega)).2 (by omega)
       have q3 := (hE_0_2_3 (r_0 + 2) (by omega)).2 (by omega)
       omega)
set_option maxHeartbeats 4000000 in
theorem vc_Mo_edgeItem_1_12 (r_0 : Int) (pos_0 : Int) (gx : Int) (kz_0_11 : 0 ≤ pos_0 ∧ pos_0 ≤ 2000) (ex2 : gx = 2000 + ((-1) * pos_0 + 0)) : (-1) * gx + ((-1) * pos_0 + 0) ≤ (-2000) := by
  first
    | omega
    | (have q1 := (hE_0_2_1 (r_0 + 2) (by omega)).2 (by omega)
       have q2 := (hE_0_2_2 (r_0 + 2) (by omega)).2 (by omega)
       omega)
    | (have q1 := (hE_0_2_1 (r_0 + 1) (by omega)).2 (by omega)
       have q2 := (hE_0_2_2 (r_0 + 1) (by omega)).2 (by omega)
       omega)
    | (have q1 := (hE_0_2_1 (r_0 + 2) (by omega)).2 (by omega)
       omega)
    | (have q1 := (hE_0_2_1 (r_0 + 1) (by omega)).2 (by omega)
       omega)
    | (have q1 := (hE_0_2_1 (r_0 + 2) (by omega)).2 (by omega)
       have q2 := (hE_0_2_2 (r_0 + 2) (by omega)).2 (by omega)
       have q3 := (hE_0_2_3 (r_0 + 2) (by omega)).1 (by omega)
       omega)
    | (have q1 := (hE_0_2_1 (r_0 + 2) (by omega)).2 (by omega)
       have q2 := (hE_0_2_2 (r_0 + 2) (by omega)).2 (by omega)
       have q3 := (hE_0_2_3 (r_0 + 2) (by omega)).2 (by omega)
       omega)
def o_Mo_edgeItem_1 : or_T := (46, 11, [(0, (2, 0, 0, [165])), (1, (0, 0, 7, [])), (2, (0, 0, 2000, [])), (3, (0, 0, 4, [])), (5, (0, 0, 2000, [])), (7, (0, 0, 4, [])), (8, (0, -1, 23, [])), (9, (0, 0, 48, [])), (10, (0, 1, 5, []))], [(8, [10], [1]), (9, [10, 0], [8]), (20, [9, 0], [30, 0, 1, 0, 0, -1, 3, 2005001]), (20, [9, 0], [30, 0, -1, 0, 0, 1, 3, 2005001]), (23, [5, 2], [0, 1, -1]), (23, [5, 2], [0, -1, 1]), (23, [7, 3], [0, 1, -1]), (23, [7, 3], [0, -1, 1]), (20, [0, 0], [30, 0, 1, 1, 15, -1, 1, 11]), (20, [0], [50, 3, 0, 12, 11, 15, 2, 21, 4, 7, 1, 3, 2, 0, 12, 0, 1, 0, 3, 2, 0, 11, 4, 3, 2, 0, 15, 0, 8, 3, 7, 1, 3, 2, 0, 12, 0, 0, 0, 7, 4, 3, 2, 0, 15, 0, 1, 2, 0, 11]), (20, [5, 0], [30, 0, 1, 0, 0, -1, 1, 11]), (20, [0, 8], [31, 1, -1, -1, 1, 8, 0, -1, 0, 0]), (20, [1, 0], [50, 1, 1, 1005, 1002, 0, 6, 4, 2, 1, 0, 0, 1, 3, 1, 2, 4, 3, 2, 1, 5, 0, 2]), (20, [0], [60, 1, 3, 199, 5, 2, 3, 4]), (20, [0, 8, 1, 7], [60, 9, 2, 1010, 10, 11, 12, 13, 14, 15, 8, 9, 5, 1, 2])], [], [(0, 0, 2000, [])], [(20, [1, 0], [50, 1, 1, 1005, 1002, 0, 6, 4, 2, 1, 0, 0, 1, 3, 1, 2, 4, 3, 2, 1, 5, 0, 2]), (20, [0, 0], [30, 0, 1, 1, 15, -1, 1, 11]), (20, [0], [50, 3, 0, 12, 11, 15, 2, 21, 4, 7, 1, 3, 2, 0, 12, 0, 1, 0, 3, 2, 0, 11, 4, 3, 2, 0, 15, 0, 8, 3, 7, 1, 3, 2, 0, 12, 0, 0, 0, 7, 4, 3, 2, 0, 15, 0, 1, 2, 0, 11]), (20, [2, 0], [30, 0, 1, 0, 0, -1, 1, 11]), (20, [0, 2], [50, 3, 0, 8, 12, 11, 3, 7, 0, 2, 0, 1, 2, 0, 8, 3, 7, 1, 3, 2, 0, 12, 0, 0, 0, 6, 4, 2, 1, 1, 0, 1, 2, 0, 11]), (20, [0, 8], [31, 1, -1, -1, 1, 8, 0, -1, 0, 0]), (20, [0], [60, 1, 3, 199, 5, 2, 3, 4]), (20, [0, 8], [60, 2, 1, 242, 5, 8, 2]), (20, [0, 8, 9, 1, 3], [60, 9, 2, 1012, 10, 11, 12, 13, 14, 15, 8, 9, 5, 1, 2]), (24, [0, 0], []), (24, [1, 1], []), (20, [11, 0], [30, 2000, 1, 0, 0, 1, 1, 11]), (20, [11, 0], [30, -2000, -1, 0, 0, -1, 1, 11])], [], [])
theorem oo_Mo_edgeItem_1 {kA : Nat → ClassId} : or_ok PRD kA GG o_Mo_edgeItem_1 := by
  refine or_mk fun A ta ws vs hD hth hl => ?_
  intro t0 r0 t1 k1 t2 k2 t3 k3 t5 k5 t7 k7 t8 k8 t9 k9 t10 k10 f0 f1 f2 f3 f4 f5 f6 f7 f8 f9 f10 f13 f15 f16 f18
  replace f0 := shm_142 f0
  replace f1 := shm_293 f1
  replace f2 := shm_121 f2
  replace f3 := shm_122 f3
  replace f4 := shm_7 f4
  replace f5 := shm_22 f5
  replace f6 := shm_7 f6
  replace f7 := shm_22 f7
  replace f8 := shm_1437 f8
  replace f9 := shm_1438 f9
  replace f10 := shm_1431 f10
  replace f13 := shm_2117 f13
  replace f15 := shm_1009 f15
  replace f16 := shm_980 f16
  replace f18 := shm_2120 f18
  have g1 : v_iv (n_v vs 10) = w_fi ws (n_v vs 0) 8 := congrArg v_iv f1
  have kz_0_8 := fdq_34 hD hth r0
  have kz_0_9 := fdq_44 hD hth r0
  have kz_0_10 := fdq_43 hD hth r0
  have kz_0_11 := fdq_237 hD hth r0
  have kz_0_12 := fdq_187 hD hth r0
  have kz_0_13 := fdq_238 hD hth r0
  have kz_0_14 := fdq_188 hD hth r0
  have kz_0_15 := fdq_239 hD hth r0
  obtain ⟨x, ex, hx⟩ := iv_ex (ta := ta) (lo := 0) (hi := 2000) (z := 2000 + ((-1) * w_fi ws (n_v vs 0) 11 + 0)) (by omega) (by omega) (by omega) (by omega)
  have ex2 : v_iv (Value.int x) = 2000 + ((-1) * w_fi ws (n_v vs 0) 11 + 0) := ex
  have ex3 : 0 ≤ v_iv (Value.int x) ∧ v_iv (Value.int x) ≤ 2000 := tv_rng hx
  have e_0 : n_v (vs ++ [Value.int x]) 0 = n_v vs 0 := n_v_old (by rw [hl]; decide)
  have e_1 : n_v (vs ++ [Value.int x]) 1 = n_v vs 1 := n_v_old (by rw [hl]; decide)
  have e_2 : n_v (vs ++ [Value.int x]) 2 = n_v vs 2 := n_v_old (by rw [hl]; decide)
  have e_3 : n_v (vs ++ [Value.int x]) 3 = n_v vs 3 := n_v_old (by rw [hl]; decide)
  have e_8 : n_v (vs ++ [Value.int x]) 8 = n_v vs 8 := n_v_old (by rw [hl]; decide)
  have e_9 : n_v (vs ++ [Value.int x]) 9 = n_v vs 9 := n_v_old (by rw [hl]; decide)
  have e_11 : n_v (vs ++ [Value.int x]) 11 = Value.int x := n_v_new hl
  have nf0 : fc_1 PRD (20, [1, 0], [50, 1, 1, 1005, 1002, 0, 6, 4, 2, 1, 0, 0, 1, 3, 1, 2, 4, 3, 2, 1, 5, 0, 2]) ws (vs ++ [Value.int x]) := by
    refine ⟨nf_inA hl rfl, sgq_1009 ?_⟩
    · show (v_iv (n_v (vs ++ [Value.int x]) 1) + 1) ≤ w_ei ws (w_ar ws (n_v (vs ++ [Value.int x]) 0) 2) ((w_fi ws (n_v (vs ++ [Value.int x]) 0) 5 + 2))
      simp only [e_0, e_1]
      exact vc_Mo_edgeItem_1_0 (v_iv (n_v vs 1)) (w_ei ws (w_ar ws (n_v vs 0) 2)) (w_fi ws (n_v vs 0) 5) k1 f15
  have nf1 : fc_1 PRD (20, [0, 0], [30, 0, 1, 1, 15, -1, 1, 11]) ws (vs ++ [Value.int x]) := by
    refine ⟨nf_inA hl rfl, sgq_1437 ?_⟩
    · show 1 * w_fi ws (n_v (vs ++ [Value.int x]) 0) 15 + ((-1) * w_fi ws (n_v (vs ++ [Value.int x]) 0) 11 + 0) ≤ 0
      rw [e_0]
      exact vc_Mo_edgeItem_1_1 (w_fi ws (n_v vs 0) 5) (w_fi ws (n_v vs 0) 15) (w_fi ws (n_v vs 0) 11) f8 kz_0_11 kz_0_15
  have nf2 : fc_1 PRD (20, [0], [50, 3, 0, 12, 11, 15, 2, 21, 4, 7, 1, 3, 2, 0, 12, 0, 1, 0, 3, 2, 0, 11, 4, 3, 2, 0, 15, 0, 8, 3, 7, 1, 3, 2, 0, 12, 0, 0, 0, 7, 4, 3, 2, 0, 15, 0, 1, 2, 0, 11]) ws (vs ++ [Value.int x]) := by
    refine ⟨nf_inA hl rfl, sgq_1438 ?_⟩
    · show ((w_fi ws (n_v (vs ++ [Value.int x]) 0) 12 = 1) → (w_fi ws (n_v (vs ++ [Value.int x]) 0) 11 ≤ (w_fi ws (n_v (vs ++ [Value.int x]) 0) 15 + 8))) ∧ ((w_fi ws (n_v (vs ++ [Value.int x]) 0) 12 = 0) ∨ ((w_fi ws (n_v (vs ++ [Value.int x]) 0) 15 + 1) ≤ w_fi ws (n_v (vs ++ [Value.int x]) 0) 11))
      rw [e_0]
      exact vc_Mo_edgeItem_1_2 (w_fi ws (n_v vs 0) 5) (w_fi ws (n_v vs 0) 15) (w_fi ws (n_v vs 0) 11) (w_fi ws (n_v vs 0) 12) f9 kz_0_11 kz_0_12 kz_0_15
  have nf3 : fc_1 PRD (20, [2, 0], [30, 0, 1, 0, 0, -1, 1, 11]) ws (vs ++ [Value.int x]) := by
    refine ⟨nf_inA hl rfl, sgq_1431 ?_⟩
    · show 1 * v_iv (n_v (vs ++ [Value.int x]) 2) + ((-1) * w_fi ws (n_v (vs ++ [Value.int x]) 0) 11 + 0) ≤ 0
      simp only [e_0, e_2]
      exact vc_Mo_edgeItem_1_3 (v_iv (n_v vs 2)) (v_iv (n_v vs 5)) (w_fi ws (n_v vs 0) 5) (w_fi ws (n_v vs 0) 11) (v_iv (Value.int x)) k2 k5 f4 f5 f10 kz_0_11 ex2
  have nf4 : fc_1 PRD (20, [0, 2], [50, 3, 0, 8, 12, 11, 3, 7, 0, 2, 0, 1, 2, 0, 8, 3, 7, 1, 3, 2, 0, 12, 0, 0, 0, 6, 4, 2, 1, 1, 0, 1, 2, 0, 11]) ws (vs ++ [Value.int x]) := by
    refine ⟨nf_inA hl rfl, sgq_1722 ?_⟩
    · show (1 ≤ w_fi ws (n_v (vs ++ [Value.int x]) 0) 8) ∨ ((w_fi ws (n_v (vs ++ [Value.int x]) 0) 12 = 0) ∨ ((v_iv (n_v (vs ++ [Value.int x]) 2) + 1) ≤ w_fi ws (n_v (vs ++ [Value.int x]) 0) 11))
      simp only [e_0, e_2]
      exact vc_Mo_edgeItem_1_4 (v_iv (n_v vs 2)) (v_iv (n_v vs 10)) (w_fi ws (n_v vs 0) 8) (w_fi ws (n_v vs 0) 5) (w_fi ws (n_v vs 0) 11) (w_fi ws (n_v vs 0) 12) k2 k10 g1 kz_0_8 kz_0_11 kz_0_12
  have nf5 : fc_1 PRD (20, [0, 8], [31, 1, -1, -1, 1, 8, 0, -1, 0, 0]) ws (vs ++ [Value.int x]) := by
    refine ⟨nf_inA hl rfl, sgq_2117 ?_⟩
    · show ((-1) * w_fi ws (n_v (vs ++ [Value.int x]) 0) 8 + 0 ≤ (-1)) ∨ ((-1) * v_iv (n_v (vs ++ [Value.int x]) 8) + 0 ≤ 0)
      simp only [e_0, e_8]
      exact vc_Mo_edgeItem_1_5 (v_iv (n_v vs 8)) (w_fi ws (n_v vs 0) 8) (w_fi ws (n_v vs 0) 5) k8 f13 kz_0_8
  have nf6 : fc_1 PRD (20, [0], [60, 1, 3, 199, 5, 2, 3, 4]) ws (vs ++ [Value.int x]) := by
    refine ⟨nf_inA hl rfl, sgq_980 ?_⟩
    · show RWS (w_fi ws (n_v (vs ++ [Value.int x]) 0) 5) (w_ei ws (w_ar ws (n_v (vs ++ [Value.int x]) 0) 2)) (w_ei ws (w_ar ws (n_v (vs ++ [Value.int x]) 0) 3)) (w_ei ws (w_ar ws (n_v (vs ++ [Value.int x]) 0) 4))
      rw [e_0]
      exact vc_Mo_edgeItem_1_6 (w_ei ws (w_ar ws (n_v vs 0) 2)) (w_fi ws (n_v vs 0) 5) (w_ei ws (w_ar ws (n_v vs 0) 3)) (w_ei ws (w_ar ws (n_v vs 0) 4)) f16
  have nf7 : fc_1 PRD (20, [0, 8], [60, 2, 1, 242, 5, 8, 2]) ws (vs ++ [Value.int x]) := by
    refine ⟨nf_inA hl rfl, sgq_2152 ?_⟩
    · show EDI (w_fi ws (n_v (vs ++ [Value.int x]) 0) 5) (w_fi ws (n_v (vs ++ [Value.int x]) 0) 8) (w_ei ws (w_ar ws (n_v (vs ++ [Value.int x]) 0) 2)) (v_iv (n_v (vs ++ [Value.int x]) 8))
      simp only [e_0, e_8]
      exact vc_Mo_edgeItem_1_7 (v_iv (n_v vs 8)) (v_iv (n_v vs 10)) (w_fi ws (n_v vs 0) 8) (w_ei ws (w_ar ws (n_v vs 0) 2)) (w_fi ws (n_v vs 0) 5) k8 k10 g1 kz_0_8
  have nf8 : fc_1 PRD (20, [0, 8, 9, 1, 3], [60, 9, 2, 1012, 10, 11, 12, 13, 14, 15, 8, 9, 5, 1, 2]) ws (vs ++ [Value.int x]) := by
    refine ⟨nf_inA hl rfl, sgq_2153 ?_⟩
    · show zOSL (w_fi ws (n_v (vs ++ [Value.int x]) 0) 10) (w_fi ws (n_v (vs ++ [Value.int x]) 0) 11) (w_fi ws (n_v (vs ++ [Value.int x]) 0) 12) (w_fi ws (n_v (vs ++ [Value.int x]) 0) 13) (w_fi ws (n_v (vs ++ [Value.int x]) 0) 14) (w_fi ws (n_v (vs ++ [Value.int x]) 0) 15) (w_fi ws (n_v (vs ++ [Value.int x]) 0) 8) (w_fi ws (n_v (vs ++ [Value.int x]) 0) 9) (w_fi ws (n_v (vs ++ [Value.int x]) 0) 5) (w_ei ws (w_ar ws (n_v (vs ++ [Value.int x]) 0) 1)) (w_ei ws (w_ar ws (n_v (vs ++ [Value.int x]) 0) 2)) (v_iv (n_v (vs ++ [Value.int x]) 8)) (v_iv (n_v (vs ++ [Value.int x]) 9)) (v_iv (n_v (vs ++ [Value.int x]) 1)) (v_iv (n_v (vs ++ [Value.int x]) 3))
      simp only [e_0, e_1, e_3, e_8, e_9]
      exact vc_Mo_edgeItem_1_8 (v_iv (n_v vs 1)) (v_iv (n_v vs 2)) (v_iv (n_v vs 3)) (v_iv (n_v vs 5)) (v_iv (n_v vs 7)) (v_iv (n_v vs 8)) (v_iv (n_v vs 9)) (v_iv (n_v vs 10)) (w_fi ws (n_v vs 0) 8) (w_ei ws (w_ar ws (n_v vs 0) 2)) (w_fi ws (n_v vs 0) 5) (w_fi ws (n_v vs 0) 15) (w_fi ws (n_v vs 0) 11) (w_fi ws (n_v vs 0) 12) (w_ei ws (w_ar ws (n_v vs 0) 1)) (w_fi ws (n_v vs 0) 10) (w_fi ws (n_v vs 0) 13) (w_fi ws (n_v vs 0) 14) (w_fi ws (n_v vs 0) 9) k1 k2 k3 k5 k7 k8 k9 k10 f0 g1 f2 f3 f4 f5 f6 f7 f18 kz_0_8 kz_0_9 kz_0_10 kz_0_11 kz_0_12 kz_0_13 kz_0_14 kz_0_15
  have nf9 : fc_1 PRD (24, [0, 0], []) ws (vs ++ [Value.int x]) := by
    refine ⟨nf_inA hl rfl, sgq_1 ?_⟩
    · show n_v (vs ++ [Value.int x]) 0 = n_v (vs ++ [Value.int x]) 0
      first | rfl | simp only [e_0]
  have nf10 : fc_1 PRD (24, [1, 1], []) ws (vs ++ [Value.int x]) := by
    refine ⟨nf_inA hl rfl, sgq_1 ?_⟩
    · show n_v (vs ++ [Value.int x]) 1 = n_v (vs ++ [Value.int x]) 1
      first | rfl | simp only [e_1]
  have nf11 : fc_1 PRD (20, [11, 0], [30, 2000, 1, 0, 0, 1, 1, 11]) ws (vs ++ [Value.int x]) := by
    refine ⟨nf_inA hl rfl, sgq_2007 ?_⟩
    · show 1 * v_iv (n_v (vs ++ [Value.int x]) 11) + (1 * w_fi ws (n_v (vs ++ [Value.int x]) 0) 11 + 0) ≤ 2000
      simp only [e_0, e_11]
      exact vc_Mo_edgeItem_1_11 (w_fi ws (n_v vs 0) 5) (w_fi ws (n_v vs 0) 11) (v_iv (Value.int x)) kz_0_11 ex2
  have nf12 : fc_1 PRD (20, [11, 0], [30, -2000, -1, 0, 0, -1, 1, 11]) ws (vs ++ [Value.int x]) := by
    refine ⟨nf_inA hl rfl, sgq_2008 ?_⟩
    · show (-1) * v_iv (n_v (vs ++ [Value.int x]) 11) + ((-1) * w_fi ws (n_v (vs ++ [Value.int x]) 0) 11 + 0) ≤ (-2000)
      simp only [e_0, e_11]
      exact vc_Mo_edgeItem_1_12 (w_fi ws (n_v vs 0) 5) (w_fi ws (n_v vs 0) 11) (v_iv (Value.int x)) kz_0_11 ex2
  exact ⟨(fun _ h => (by cases h)), [Value.int x], ag_one hx, List.forall_mem_cons.mpr ⟨⟨show (20 : Nat) < 100 from by decide, nf0⟩, List.forall_mem_cons.mpr ⟨⟨show (20 : Nat) < 100 from by decide, nf1⟩, List.forall_mem_cons.mpr ⟨⟨show (20 : Nat) < 100 from by decide, nf2⟩, List.forall_mem_cons.mpr ⟨⟨show (20 : Nat) < 100 from by decide, nf3⟩, List.forall_mem_cons.mpr ⟨⟨show (20 : Nat) < 100 from by decide, nf4⟩, List.forall_mem_cons.mpr ⟨⟨show (20 : Nat) < 100 from by decide, nf5⟩, List.forall_mem_cons.mpr ⟨⟨show (20 : Nat) < 100 from by decide, nf6⟩, List.forall_mem_cons.mpr ⟨⟨show (20 : Nat) < 100 from by decide, nf7⟩, List.forall_mem_cons.mpr ⟨⟨show (20 : Nat) < 100 from by decide, nf8⟩, List.forall_mem_cons.mpr ⟨⟨show (24 : Nat) < 100 from by decide, nf9⟩, List.forall_mem_cons.mpr ⟨⟨show (24 : Nat) < 100 from by decide, nf10⟩, List.forall_mem_cons.mpr ⟨⟨show (20 : Nat) < 100 from by decide, nf11⟩, List.forall_mem_cons.mpr ⟨⟨show (20 : Nat) < 100 from by decide, nf12⟩, (fun _ h => (by cases h))⟩⟩⟩⟩⟩⟩⟩⟩⟩⟩⟩⟩⟩, (fun _ h => (by cases h))⟩
set_option maxHeartbeats 4000000 in
theorem vc_Mo_edgeItem_2_0 (x1 : Int) (x2 : Int) (x3 : Int) (x5 : Int) (x7 : Int) (x8 : Int) (x10 : Int) (x11 : Int) (x12 : Int) (x13 : Int) (x14 : Int) (x15 : Int) (x16 : Int) (place_0 : Int) (kind_0 : Int) (fault_0 : Int) (value_0 : Int) (all_0 : Int → Int) (r_0 : Int) (from_0 : Int) (pos_0 : Int) (tape_0 : Int → Int) (limit_0 : Int) (faultPlace_0 : Int) (gx : Int) (k1 : 0 ≤ x1 ∧ x1 ≤ 7) (k2 : 0 ≤ x2 ∧ x2 ≤ 2000) (k3 : 0 ≤ x3 ∧ x3 ≤ 4) (k5 : 0 ≤ x5 ∧ x5 ≤ 2000) (k7 : 0 ≤ x7 ∧ x7 ≤ 4) (k8 : (-1) ≤ x8 ∧ x8 ≤ 23) (k10 : 0 ≤ x10 ∧ x10 ≤ 0) (k11 : 45 ≤ x11 ∧ x11 ≤ 45) (k12 : 0 ≤ x12 ∧ x12 ≤ 0) (k13 : 62 ≤ x13 ∧ x13 ≤ 62) (k14 : 0 ≤ x14 ∧ x14 ≤ 0) (k15 : 1 ≤ x15 ∧ x15 ≤ 1) (k16 : 0 ≤ x16 ∧ x16 ≤ 2000) (g0 : x16 = place_0) (f1 : x14 = 0) (f3 : SGQ (fault_0) (kind_0) (value_0) (x13) (x14)) (f4 : x12 = 0) (f6 : SGQ (fault_0) (kind_0) (value_0) (x11) (x12)) (f7 : x10 = 0) (g8 : x10 = fault_0) (f11 : 1 * x5 + ((-1) * x2 + 0) ≤ 0) (f12 : (-1) * x5 + (1 * x2 + 0) ≤ 0) (f13 : 1 * x7 + ((-1) * x3 + 0) ≤ 0) (f14 : (-1) * x7 + (1 * x3 + 0) ≤ 0) (f25 : zOS3 (limit_0) (pos_0) (kind_0) (place_0) (value_0) (from_0) (fault_0) (faultPlace_0) (r_0) (tape_0) (all_0) (x8) (x1) (x7)) (kz_0_8 : 0 ≤ fault_0 ∧ fault_0 ≤ 5) (kz_0_9 : 0 ≤ faultPlace_0 ∧ faultPlace_0 ≤ 2000) (kz_0_10 : 0 ≤ limit_0 ∧ limit_0 ≤ 2000) (kz_0_11 : 0 ≤ pos_0 ∧ pos_0 ≤ 2000) (kz_0_12 : 0 ≤ kind_0 ∧ kind_0 ≤ 4) (kz_0_13 : 0 ≤ place_0 ∧ place_0 ≤ 2000) (kz_0_14 : (-49) ≤ value_0 ∧ value_0 ≤ 1048575) (kz_0_15 : 0 ≤ from_0 ∧ from_0 ≤ 2000) (ex2 : gx = fault_0) : FSX (limit_0) (tape_0) (x15) (x16) := by
  first | (have el_x5 : x5 = x2 := by omega); subst el_x5 | skip
  first | (have el_x7 : x7 = x3 := by omega); subst el_x7 | skip
  first | subst g0 | skip
  first | subst g8 | skip
  first | subst ex2 | skip
  first
    | (have a := sgq_f (C := 45) (‹SGQ _ _ _ x11 _›) (by omega) (by omega) (by omega)
       have b := sgq_f (C := 62) (‹SGQ _ _ _ x13 _›) (by omega) (by omega) (by omega)
       refine fsx_cg (ed_no ‹zOS3 _ _ _ _ _ _ _ _ _ _ _ _ _ _› (by omega) (fun q => ?_)) (by omega) (by omega)
       rcases q.2 with e | e
       · exact a ⟨q.1, e⟩
       · exact b ⟨q.1, e⟩)
    | (exfalso; omega)
set_option maxHeartbeats 4000000 in
theorem vc_Mo_edgeItem_2_1 (x10 : Int) (fault_0 : Int) (r_0 : Int) (gx : Int) (k10 : 0 ≤ x10 ∧ x10 ≤ 0) (g8 : x10 = fault_0) (kz_0_8 : 0 ≤ fault_0 ∧ fault_0 ≤ 5) (ex2 : gx = fault_0) : 1 * fault_0 + ((-1) * gx + 0) ≤ 0 := by
  first
    | omega
    | (have q1 := (hE_0_2_1 (r_0 + 2) (by omega)).2 (by omega)
       have q2 := (hE_0_2_2 (r_0 + 2) (by omega)).2 (by omega)
       omega)
    | (have q1 := (hE_0_2_1 (r_0 + 1) (by omega)).2 (by omega)
       have q2 := (hE_0_2_2 (r_0 + 1) (by omega)).2 (by omega)
       omega)
    | (have q1 := (hE_0_2_1 (r_0 + 2) (by omega)).2 (by omega)
       omega)
    | (have q1 := (hE_0_2_1 (r_0 + 1) (by omega)).2 (by omega)
       omega)
    | (have q1 := (hE_0_2_1 (r_0 + 2) (by omega)).2 (by omega)
       have q2 := (hE_0_2_2 (r_0 + 2) (by omega)).2 (by omega)
       have q3 := (hE_0_2_3 (r_0 + 2) (by omega)).1 (by omega)
       omega)
    | (have q1 := (hE_0_2_1 (r_0 + 2) (by omega)).2 (by omega)
       have q2 := (hE_0_2_2 (r_0 + 2) (by omega)).2 (by omega)
       have q3 := (hE_0_2_3 (r_0 + 2) (by omega)).2 (by omega)
       omega)
set_option maxHeartbeats 4000000 in
theorem vc_Mo_edgeItem_2_2 (x10 : Int) (fault_0 : Int) (r_0 : Int) (gx : Int) (k10 : 0 ≤ x10 ∧ x10 ≤ 0) (g8 : x10 = fault_0) (kz_0_8 : 0 ≤ fault_0 ∧ fault_0 ≤ 5) (ex2 : gx = fault_0) : (-1) * fault_0 + (1 * gx + 0) ≤ 0 := by
  first
    | omega
    | (have q1 := (hE_0_2_1 (r_0 + 2) (by omega)).2 (by omega)
       have q2 := (hE_0_2_2 (r_0 + 2) (by omega)).2 (by omega)
       omega)
    | (have q1 := (hE_0_2_1 (r_0 + 1) (by omega)).2 (by omega)
       have q2 := (hE_0_2_2 (r_0 + 1) (by omega)).2 (by omega)
       omega)
    | (have q1 := (hE_0_2_1 (r_0 + 2) (by omega)).2 (by omega)
       omega)
    | (have q1 := (hE_0_2_1 (r_0 + 1) (by omega)).2 (by omega)
       omega)
    | (have q1 := (hE_0_2_1 (r_0 + 2) (by omega)).2 (by omega)
       have q2 := (hE_0_2_2 (r_0 + 2) (by omega)).2 (by omega)
       have q3 := (hE_0_2_3 (r_0 + 2) (by omega)).1 (by omega)
       omega)
    | (have q1 := (hE_0_2_1 (r_0 + 2) (by omega)).2 (by omega)
       have q2 := (hE_0_2_2 (r_0 + 2) (by omega)).2 (by omega)
       have q3 := (hE_0_2_3 (r_0 + 2) (by omega)).2 (by omega)
       omega)
set_option maxHeartbeats 4000000 in
theorem vc_Mo_edgeItem_2_3 (x10 : Int) (fault_0 : Int) (gx : Int) (k10 : 0 ≤ x10 ∧ x10 ≤ 0) (g8 : x10 = fault_0) (kz_0_8 : 0 ≤ fault_0 ∧ fault_0 ≤ 5) (ex2 : gx = fault_0) : ZH0 (gx) := by
  first
    | exact ⟨by omega, by omega, trivial⟩
def o_Mo_edgeItem_2 : or_T := (43, 17, [(0, (2, 0, 0, [165])), (1, (0, 0, 7, [])), (2, (0, 0, 2000, [])), (3, (0, 0, 4, [])), (5, (0, 0, 2000, [])), (7, (0, 0, 4, [])), (8, (0, -1, 23, [])), (10, (0, 0, 0, [])), (11, (0, 45, 45, [])), (12, (0, 0, 0, [])), (13, (0, 62, 62, [])), (14, (0, 0, 0, [])), (15, (0, 1, 1, [])), (16, (0, 0, 2000, []))], [(9, [16, 0], [13]), (8, [14], [0]), (20, [0, 13, 14], [60, 3, 0, 963, 8, 12, 14]), (8, [12], [0]), (20, [0, 11, 12], [60, 3, 0, 963, 8, 12, 14]), (8, [10], [0]), (9, [10, 0], [8]), (23, [5, 2], [0, 1, -1]), (23, [5, 2], [0, -1, 1]), (23, [7, 3], [0, 1, -1]), (23, [7, 3], [0, -1, 1]), (20, [0, 8, 1, 7], [60, 9, 2, 1010, 10, 11, 12, 13, 14, 15, 8, 9, 5, 1, 2])], [], [(0, 0, 5, [])], [(20, [0, 15, 16], [60, 1, 1, 1026, 10, 1]), (20, [0, 17], [30, 0, 1, 1, 8, -1, 0, 0]), (20, [0, 17], [30, 0, -1, 1, 8, 1, 0, 0]), (20, [17], [61, 0, 1029])], [], [])
theorem oo_Mo_edgeItem_2 {kA : Nat → ClassId} : or_ok PRD kA GG o_Mo_edgeItem_2 := by
  refine or_mk fun A ta ws vs hD hth hl => ?_
  intro t0 r0 t1 k1 t2 k2 t3 k3 t5 k5 t7 k7 t8 k8 t10 k10 t11 k11 t12 k12 t13 k13 t14 k14 t15 k15 t16 k16 f0 f1 f3 f4 f6 f7 f8 f11 f12 f13 f14 f25
  replace f0 := shm_361 f0
  replace f1 := shm_192 f1
  replace f3 := shm_731 f3
  replace f4 := shm_192 f4
  replace f6 := shm_731 f6
  replace f7 := shm_192 f7
  replace f8 := shm_293 f8
  replace f11 := shm_7 f11
  replace f12 := shm_22 f12
  replace f13 := shm_7 f13
  replace f14 := shm_22 f14
  replace f25 := shm_2120 f25
  have g0 : v_iv (n_v vs 16) = w_fi ws (n_v vs 0) 13 := congrArg v_iv f0
  have g8 : v_iv (n_v vs 10) = w_fi ws (n_v vs 0) 8 := congrArg v_iv f8
  have kz_0_8 := fdq_34 hD hth r0
  have kz_0_9 := fdq_44 hD hth r0
  have kz_0_10 := fdq_43 hD hth r0
  have kz_0_11 := fdq_237 hD hth r0
  have kz_0_12 := fdq_187 hD hth r0
  have kz_0_13 := fdq_238 hD hth r0
  have kz_0_14 := fdq_188 hD hth r0
  have kz_0_15 := fdq_239 hD hth r0
  obtain ⟨x, ex, hx⟩ := iv_ex (ta := ta) (lo := 0) (hi := 5) (z := w_fi ws (n_v vs 0) 8) (by omega) (by omega) (by omega) (by omega)
  have ex2 : v_iv (Value.int x) = w_fi ws (n_v vs 0) 8 := ex
  have ex3 : 0 ≤ v_iv (Value.int x) ∧ v_iv (Value.int x) ≤ 5 := tv_rng hx
  have e_0 : n_v (vs ++ [Value.int x]) 0 = n_v vs 0 := n_v_old (by rw [hl]; decide)
  have e_15 : n_v (vs ++ [Value.int x]) 15 = n_v vs 15 := n_v_old (by rw [hl]; decide)
  have e_16 : n_v (vs ++ [Value.int x]) 16 = n_v vs 16 := n_v_old (by rw [hl]; decide)
  have e_17 : n_v (vs ++ [Value.int x]) 17 = Value.int x := n_v_new hl
  have nf0 : fc_1 PRD (20, [0, 15, 16], [60, 1, 1, 1026, 10, 1]) ws (vs ++ [Value.int x]) := by
    refine ⟨nf_inA hl rfl, sgq_1724 ?_⟩
    · show FSX (w_fi ws (n_v (vs ++ [Value.int x]) 0) 10) (w_ei ws (w_ar ws (n_v (vs ++ [Value.int x]) 0) 1)) (v_iv (n_v (vs ++ [Value.int x]) 15)) (v_iv (n_v (vs ++ [Value.int x]) 16))
      simp only [e_0, e_15, e_16]
      exact vc_Mo_edgeItem_2_0 (v_iv (n_v vs 1)) (v_iv (n_v vs 2)) (v_iv (n_v vs 3)) (v_iv (n_v vs 5)) (v_iv (n_v vs 7)) (v_iv (n_v vs 8)) (v_iv (n_v vs 10)) (v_iv (n_v vs 11)) (v_iv (n_v vs 12)) (v_iv (n_v vs 13)) (v_iv (n_v vs 14)) (v_iv (n_v vs 15)) (v_iv (n_v vs 16)) (w_fi ws (n_v vs 0) 13) (w_fi ws (n_v vs 0) 12) (w_fi ws (n_v vs 0) 8) (w_fi ws (n_v vs 0) 14) (w_ei ws (w_ar ws (n_v vs 0) 2)) (w_fi ws (n_v vs 0) 5) (w_fi ws (n_v vs 0) 15) (w_fi ws (n_v vs 0) 11) (w_ei ws (w_ar ws (n_v vs 0) 1)) (w_fi ws (n_v vs 0) 10) (w_fi ws (n_v vs 0) 9) (v_iv (Value.int x)) k1 k2 k3 k5 k7 k8 k10 k11 k12 k13 k14 k15 k16 g0 f1 f3 f4 f6 f7 g8 f11 f12 f13 f14 f25 kz_0_8 kz_0_9 kz_0_10 kz_0_11 kz_0_12 kz_0_13 kz_0_14 kz_0_15 ex2
  have nf1 : fc_1 PRD (20, [0, 17], [30, 0, 1, 1, 8, -1, 0, 0]) ws (vs ++ [Value.int x]) := by
    refine ⟨nf_inA hl rfl, sgq_303 ?_⟩
    · show 1 * w_fi ws (n_v (vs ++ [Value.int x]) 0) 8 + ((-1) * v_iv (n_v (vs ++ [Value.int x]) 17) + 0) ≤ 0
      simp only [e_0, e_17]
      exact vc_Mo_edgeItem_2_1 (v_iv (n_v vs 10)) (w_fi ws (n_v vs 0) 8) (w_fi ws (n_v vs 0) 5) (v_iv (Value.int x)) k10 g8 kz_0_8 ex2
  have nf2 : fc_1 PRD (20, [0, 17], [30, 0, -1, 1, 8, 1, 0, 0]) ws (vs ++ [Value.int x]) := by
    refine ⟨nf_inA hl rfl, sgq_304 ?_⟩
    · show (-1) * w_fi ws (n_v (vs ++ [Value.int x]) 0) 8 + (1 * v_iv (n_v (vs ++ [Value.int x]) 17) + 0) ≤ 0
      simp only [e_0, e_17]
      exact vc_Mo_edgeItem_2_2 (v_iv (n_v vs 10)) (w_fi ws (n_v vs 0) 8) (w_fi ws (n_v vs 0) 5) (v_iv (Value.int x)) k10 g8 kz_0_8 ex2
  have nf3 : fc_1 PRD (20, [17], [61, 0, 1029]) ws (vs ++ [Value.int x]) := by
    refine ⟨nf_inA hl rfl, sgq_1725 ?_⟩
    · show ZH0 (v_iv (n_v (vs ++ [Value.int x]) 17))
      rw [e_17]
      exact vc_Mo_edgeItem_2_3 (v_iv (n_v vs 10)) (w_fi ws (n_v vs 0) 8) (v_iv (Value.int x)) k10 g8 kz_0_8 ex2
  exact ⟨(fun _ h => (by cases h)), [Value.int x], ag_one hx, List.forall_mem_cons.mpr ⟨⟨show (20 : Nat) < 100 from by decide, nf0⟩, List.forall_mem_cons.mpr ⟨⟨show (20 : Nat) < 100 from by decide, nf1⟩, List.forall_mem_cons.mpr ⟨⟨show (20 : Nat) < 100 from by decide, nf2⟩, List.forall_mem_cons.mpr ⟨⟨show (20 : Nat) < 100 from by decide, nf3⟩, (fun _ h => (by cases h))⟩⟩⟩⟩, (fun _ h => (by cases h))⟩
set_option maxHeartbeats 4000000 in
theorem vc_Mo_edgeItem_3_0 (x1 : Int) (all_0 : Int → Int) (r_0 : Int) (k1 : 0 ≤ x1 ∧ x1 ≤ 7) (f12 : (x1 + 1) ≤ all_0 ((r_0 + 2))) : (x1 + 1) ≤ all_0 ((r_0 + 2)) := by
  first
    | omega
    | (have q1 := (hE_0_2_1 (r_0 + 2) (by omega)).2 (by omega)
       have q2 := (hE_0_2_2 (r_0 + 2) (by omega)).2 (by omega)
       omega)
    | (have q1 := (hE_0_2_1 (r_0 + 1) (by omega)).2 (by omega)
       have q2 := (hE_0_2_2 (r_0 + 1) (by omega)).2 (by omega)
       omega)
    | (have q1 := (hE_0_2_1 (r_0 + 2) (by omega)).2 (by omega)
       omega)
    | (have q1 := (hE_0_2_1 (r_0 + 1) (by omega)).2 (by omega)
       omega)
    | (have q1 := (hE_0_2_1 (r_0 + 2) (by omega)).2 (by omega)
       have q2 := (hE_0_2_2 (r_0 + 2) (by omega)).2 (by omega)
       have q3 := (hE_0_2_3 (r_0 + 2) (by omega)).1 (by omega)
       omega)
    | (have q1 := (hE_0_2_1 (r_0 + 2) (by omega)).2 (by omega)
       have q2 := (hE_0_2_2 (r_0 + 2) (by omega)).2 (by omega)
       have q3 := (hE_0_2_3 (r_0 + 2) (by omega)).2 (by omega)
       omega)
set_option maxHeartbeats 4000000 in
theorem vc_Mo_edgeItem_3_1 (r_0 : Int) (from_0 : Int) (pos_0 : Int) (f9 : 1 * from_0 + ((-1) * pos_0 + 0) ≤ 0) (kz_0_11 : 0 ≤ pos_0 ∧ pos_0 ≤ 2000) (kz_0_15 : 0 ≤ from_0 ∧ from_0 ≤ 2000) : 1 * from_0 + ((-1) * pos_0 + 0) ≤ 0 := by
  first
    | omega
    | (have q1 := (hE_0_2_1 (r_0 + 2) (by omega)).2 (by omega)
       have q2 := (hE_0_2_2 (r_0 + 2) (by omega)).2 (by omega)
       omega)
    | (have q1 := (hE_0_2_1 (r_0 + 1) (by omega)).2 (by omega)
       have q2 := (hE_0_2_2 (r_0 + 1) (by omega)).2 (by omega)
       omega)
    | (have q1 := (hE_0_2_1 (r_0 + 2) (by omega)).2 (by omega)
       omega)
    | (have q1 := (hE_0_2_1 (r_0 + 1) (by omega)).2 (by omega)
       omega)
    | (have q1 := (hE_0_2_1 (r_0 + 2) (by omega)).2 (by omega)
       have q2 := (hE_0_2_2 (r_0 + 2) (by omega)).2 (by omega)
       have q3 := (hE_0_2_3 (r_0 + 2) (by omega)).1 (by omega)
       omega)
    | (have q1 := (hE_0_2_1 (r_0 + 2) (by omega)).2 (by omega)
       have q2 := (hE_0_2_2 (r_0 + 2) (by omega)).2 (by omega)
       have q3 := (hE_0_2_3 (r_0 + 2) (by omega)).2 (by omega)
       omega)
set_option maxHeartbeats 4000000 in
theorem vc_Mo_edgeItem_3_2 (r_0 : Int) (from_0 : Int) (pos_0 : Int) (kind_0 : Int) (f10 : ((kind_0 = 1) → (pos_0 ≤ (from_0 + 8))) ∧ ((kind_0 = 0) ∨ ((from_0 + 1) ≤ pos_0))) (kz_0_11 : 0 ≤ pos_0 ∧ pos_0 ≤ 2000) (kz_0_12 : 0 ≤ kind_0 ∧ kind_0 ≤ 4) (kz_0_15 : 0 ≤ from_0 ∧ from_0 ≤ 2000) : ((kind_0 = 1) → (pos_0 ≤ (from_0 + 8))) ∧ ((kind_0 = 0) ∨ ((from_0 + 1) ≤ pos_0)) := by
  first
    | omega
    | (have q1 := (hE_0_2_1 (r_0 + 2) (by omega)).2 (by omega)
       have q2 := (hE_0_2_2 (r_0 + 2) (by omega)).2 (by omega)
       omega)
    | (have q1 := (hE_0_2_1 (r_0 + 1) (by omega)).2 (by omega)
       have q2 := (hE_0_2_2 (r_0 + 1) (by omega)).2 (by omega)
       omega)
    | (have q1 := (hE_0_2_1 (r_0 + 2) (by omega)).2 (by omega)
       omega)
    | (have q1 := (hE_0_2_1 (r_0 + 1) (by omega)).2 (by omega)
       omega)
    | (have q1 := (hE_0_2_1 (r_0 + 2) (by omega)).2 (by omega)
       have q2 := (hE_0_2_2 (r_0 + 2) (by omega)).2 (by omega)
       have q3 := (hE_0_2_3 (r_0 + 2) (by omega)).1 (by omega)
       omega)
    | (have q1 := (hE_0_2_1 (r_0 + 2) (by omega)).2 (by omega)
       have q2 := (hE_0_2_2 (r_0 + 2) (by omega)).2 (by omega)
       have q3 := (hE_0_2_3 (r_0 + 2) (by omega)).2 (by omega)
       omega)
set_option maxHeartbeats 4000000 in
theorem vc_Mo_edgeItem_3_3 (x2 : Int) (x5 : Int) (r_0 : Int) (pos_0 : Int) (gx : Int) (k2 : 0 ≤ x2 ∧ x2 ≤ 2000) (k5 : 0 ≤ x5 ∧ x5 ≤ 2000) (f5 : 1 * x5 + ((-1) * x2 + 0) ≤ 0) (f6 : (-1) * x5 + (1 * x2 + 0) ≤ 0) (f11 : 1 * x5 + ((-1) * pos_0 + 0) ≤ 0) (kz_0_11 : 0 ≤ pos_0 ∧ pos_0 ≤ 2000) (ex2 : gx = 2000 + ((-1) * pos_0 + 0)) : 1 * x2 + ((-1) * pos_0 + 0) ≤ 0 := by
  first
    | omega
    | (have q1 := (hE_0_2_1 (r_0 + 2) (by omega)).2 (by omega)
       have q2 := (hE_0_2_2 (r_0 + 2) (by omega)).2 (by omega)
       omega)
    | (have q1 := (hE_0_2_1 (r_0 + 1) (by omega)).2 (by omega)
       have q2 := (hE_0_2_2 (r_0 + 1) (by omega)).2 (by omega)
       omega)
    | (have q1 := (hE_0_2_1 (r_0 + 2) (by omega)).2 (by omega)
       omega)
    | (have q1 := (hE_0_2_1 (r_0 + 1) (by omega)).2 (by omega)
       omega)
    | (have q1 := (hE_0_2_1 (r_0 + 2) (by omega)).2 (by omega)
       have q2 := (hE_0_2_2 (r_0 + 2) (by omega)).2 (by omega)
       have q3 := (hE_0_2_3 (r_0 + 2) (by omega)).1 (by omega)
       omega)
    | (have q1 := (hE_0_2_1 (r_0 + 2) (by omega)).2 (by omega)
       have q2 := (hE_0_2_2 (r_0 + 2) (by omega)).2 (by omega)
       have q3 := (hE_0_2_3 (r_0 + 2) (by omega)).2 (by omega)
       omega)
set_option maxHeartbeats 4000000 in
theorem vc_Mo_edgeItem_3_4 (x2 : Int) (r_0 : Int) (pos_0 : Int) (kind_0 : Int) (fault_0 : Int) (k2 : 0 ≤ x2 ∧ x2 ≤ 2000) (f14 : (-1) * fault_0 + 0 ≤ (-1)) (kz_0_8 : 0 ≤ fault_0 ∧ fault_0 ≤ 5) (kz_0_11 : 0 ≤ pos_0 ∧ pos_0 ≤ 2000) (kz_0_12 : 0 ≤ kind_0 ∧ kind_0 ≤ 4) : (1 ≤ fault_0) ∨ ((kind_0 = 0) ∨ ((x2 + 1) ≤ pos_0)) := by
  first
    | omega
    | (have q1 := (hE_0_2_1 (r_0 + 2) (by omega)).2 (by omega)
       have q2 := (hE_0_2_2 (r_0 + 2) (by omega)).2 (by omega)
       omega)
    | (have q1 := (hE_0_2_1 (r_0 + 1) (by omega)).2 (by omega)
       have q2 := (hE_0_2_2 (r_0 + 1) (by omega)).2 (by omega)
       omega)
    | (have q1 := (hE_0_2_1 (r_0 + 2) (by omega)).2 (by omega)
       omega)
    | (have q1 := (hE_0_2_1 (r_0 + 1) (by omega)).2 (by omega)
       omega)
    | (have q1 := (hE_0_2_1 (r_0 + 2) (by omega)).2 (by omega)
       have q2 := (hE_0_2_2 (r_0 + 2) (by omega)).2 (by omega)
       have q3 := (hE_0_2_3 (r_0 + 2) (by omega)).1 (by omega)
       omega)
    | (have q1 := (hE_0_2_1 (r_0 + 2) (by omega)).2 (by omega)
       have q2 := (hE_0_2_2 (r_0 + 2) (by omega)).2 (by omega)
       have q3 := (hE_0_2_3 (r_0 + 2) (by omega)).2 (by omega)
       omega)
set_option maxHeartbeats 4000000 in
theorem vc_Mo_edgeItem_3_5 (x8 : Int) (r_0 : Int) (fault_0 : Int) (k8 : (-1) ≤ x8 ∧ x8 ≤ 23) (f14 : (-1) * fault_0 + 0 ≤ (-1)) (kz_0_8 : 0 ≤ fault_0 ∧ fault_0 ≤ 5) : ((-1) * fault_0 + 0 ≤ (-1)) ∨ ((-1) * x8 + 0 ≤ 0) := by
  first
    | omega
    | (have q1 := (hE_0_2_1 (r_0 + 2) (by omega)).2 (by omega)
       have q2 := (hE_0_2_2 (r_0 + 2) (by omega)).2 (by omega)
       omega)
    | (have q1 := (hE_0_2_1 (r_0 + 1) (by omega)).2 (by omega)
       have q2 := (hE_0_2_2 (r_0 + 1) (by omega)).2 (by omega)
       omega)
    | (have q1 := (hE_0_2_1 (r_0 + 2) (by omega)).2 (by omega)
       omega)
    | (have q1 := (hE_0_2_1 (r_0 + 1) (by omega)).2 (by omega)
       omega)
    | (have q1 := (hE_0_2_1 (r_0 + 2) (by omega)).2 (by omega)
       have q2 := (hE_0_2_2 (r_0 + 2) (by omega)).2 (by omega)
       have q3 := (hE_0_2_3 (r_0 + 2) (by omega)).1 (by omega)
       omega)
    | (have q1 := (hE_0_2_1 (r_0 + 2) (by omega)).2 (by omega)
       have q2 := (hE_0_2_2 (r_0 + 2) (by omega)).2 (by omega)
       have q3 := (hE_0_2_3 (r_0 + 2) (by omega)).2 (by omega)
       omega)
set_option maxHeartbeats 4000000 in
theorem vc_Mo_edgeItem_3_6 (all_0 : Int → Int) (r_0 : Int) (now_0 : Int → Int) (latest_0 : Int → Int) (f13 : RWS (r_0) (all_0) (now_0) (latest_0)) : RWS (r_0) (all_0) (now_0) (latest_0) := by
  first
    | assumption
set_option maxHeartbeats 4000000 in
theorem vc_Mo_edgeItem_3_7 (x8 : Int) (all_0 : Int → Int) (r_0 : Int) (fault_0 : Int) (k8 : (-1) ≤ x8 ∧ x8 ≤ 23) (f14 : (-1) * fault_0 + 0 ≤ (-1)) (kz_0_8 : 0 ≤ fault_0 ∧ fault_0 ≤ 5) : EDI (r_0) (fault_0) (all_0) (x8) := by
  first
    | (intro q; exfalso; omega)
    | exact fun q => (‹MET _ _ _ _ _› (by omega)).1
    | exact fun q => ‹NDA _ _ _›
set_option maxHeartbeats 4000000 in
theorem vc_Mo_edgeItem_3_8 (x1 : Int) (x2 : Int) (x3 : Int) (x5 : Int) (x7 : Int) (x8 : Int) (x9 : Int) (x15 : Int) (x16 : Int) (x17 : Int) (place_0 : Int) (tape_0 : Int → Int) (limit_0 : Int) (all_0 : Int → Int) (r_0 : Int) (from_0 : Int) (pos_0 : Int) (kind_0 : Int) (fault_0 : Int) (faultPlace_0 : Int) (value_0 : Int) (k1 : 0 ≤ x1 ∧ x1 ≤ 7) (k2 : 0 ≤ x2 ∧ x2 ≤ 2000) (k3 : 0 ≤ x3 ∧ x3 ≤ 4) (k5 : 0 ≤ x5 ∧ x5 ≤ 2000) (k7 : 0 ≤ x7 ∧ x7 ≤ 4) (k8 : (-1) ≤ x8 ∧ x8 ≤ 23) (k9 : 0 ≤ x9 ∧ x9 ≤ 48) (k15 : 1 ≤ x15 ∧ x15 ≤ 1) (k16 : 0 ≤ x16 ∧ x16 ≤ 2000) (k17 : 0 ≤ x17 ∧ x17 ≤ 5) (g0 : x16 = place_0) (f1 : FSX (limit_0) (tape_0) (x15) (x16)) (f2 : ZH0 (x17)) (f5 : 1 * x5 + ((-1) * x2 + 0) ≤ 0) (f6 : (-1) * x5 + (1 * x2 + 0) ≤ 0) (f7 : 1 * x7 + ((-1) * x3 + 0) ≤ 0) (f8 : (-1) * x7 + (1 * x3 + 0) ≤ 0) (f15 : ((1 ≤ x17) ∧ (fault_0 = x17)) ∨ ((x17 = 0) ∧ ((fault_0 = x15) ∧ (faultPlace_0 = x16)))) (kz_0_8 : 0 ≤ fault_0 ∧ fault_0 ≤ 5) (kz_0_9 : 0 ≤ faultPlace_0 ∧ faultPlace_0 ≤ 2000) (kz_0_10 : 0 ≤ limit_0 ∧ limit_0 ≤ 2000) (kz_0_11 : 0 ≤ pos_0 ∧ pos_0 ≤ 2000) (kz_0_12 : 0 ≤ kind_0 ∧ kind_0 ≤ 4) (kz_0_13 : 0 ≤ place_0 ∧ place_0 ≤ 2000) (kz_0_14 : (-49) ≤ value_0 ∧ value_0 ≤ 1048575) (kz_0_15 : 0 ≤ from_0 ∧ from_0 ≤ 2000) : zOSL (limit_0) (pos_0) (kind_0) (place_0) (value_0) (from_0) (fault_0) (faultPlace_0) (r_0) (tape_0) (all_0) (x8) (x9) (x1) (x3) := by
  first | (have el_x5 : x5 = x2 := by omega); subst el_x5 | skip
  first | (have el_x7 : x7 = x3 := by omega); subst el_x7 | skip
  first | subst g0 | skip
  first
    | (refine Or.inl (fs_w ?_ ?_ (by assumption)) <;> assumption)
    | (have a := sgq_t (C := 45) (‹SGQ _ _ _ x11 _›) (by omega) (by omega); exact ed_head ‹zOS3 _ _ _ _ _ _ _ _ _ _ _ _ _ _› (by omega) (Or.inr ⟨a.2.1, Or.inl a.2.2⟩))
    | (have a := sgq_t (C := 62) (‹SGQ _ _ _ x13 _›) (by omega) (by omega); exact ed_head ‹zOS3 _ _ _ _ _ _ _ _ _ _ _ _ _ _› (by omega) (Or.inr ⟨a.2.1, Or.inr a.2.2⟩))
    | exact Or.inr (Or.inl ‹zRS8 _ _ _ _ _ _ _ _ _ _ _ _ _ _›)
    | exact ed_head ‹zOS3 _ _ _ _ _ _ _ _ _ _ _ _ _ _› (by omega) (Or.inl (by omega))
    | exact ed_head ‹zOS3 _ _ _ _ _ _ _ _ _ _ _ _ _ _› (by omega) (Or.inr ⟨by omega, by omega⟩)
    | exact ed_head ‹zOS3 _ _ _ _ _ _ _ _ _ _ _ _ _ _› (by simp only [Int.add_zero] at *; omega) (Or.inr ⟨by omega, by omega⟩)
    | (exfalso; omega)
set_option maxHeartbeats 4000000 in
theorem vc_Mo_edgeItem_3_11 (r_0 : Int) (pos_0 : Int) (gx : Int) (kz_0_11 : 0 ≤ pos_0 ∧ pos_0 ≤ 2000) (ex2 : gx = 2000 + ((-1) * pos_0 + 0)) : 1 * gx + (1 * pos_0 + 0) ≤ 2000 := by
  first
    | omega
    | (have q1 := (hE_0_2_1 (r_0 + 2) (by omega)).2 (by omega)
       have q2 := (hE_0_2_2 (r_0 + 2) (by omega)).2 (by omega)
       omega)
    | (have q1 := (hE_0_2_1 (r_0 + 1) (by omega)).2 (by omega)
       have q2 := (hE_0_2_2 (r_0 + 1) (by omega)).2 (by omega)
       omega)
    | (have q1 := (hE_0_2_1 (r_0 + 2) (by omega)).2 (by omega)
       omega)
    | (have q1 := (hE_0_2_1 (r_0 + 1) (by omega)).2 (by omega)
       omega)
    | (have q1 := (hE_0_2_1 (r_0 + 2) (by omega)).2 (by omega)
       have q2 := (hE_0_2_2 (r_0 + 2) (by omega)).2 (by omega)
       have q3 := (hE_0_2_3 (r_0 + 2) (by omega)).1 (by omega)
       omega)
    | (have q1 := (hE_0_2_1 (r_0 + 2) (by omega)).2 (by omega)
       have q2 := (hE_0_2_2 (r_0 + 2) (by omega)).2 (by omega)
       have q3 := (hE_0_2_3 (r_0 + 2) (by omega)).2 (by omega)
       omega)
set_option maxHeartbeats 4000000 in
theorem vc_Mo_edgeItem_3_12 (r_0 : Int) (pos_0 : Int) (gx : Int) (kz_0_11 : 0 ≤ pos_0 ∧ pos_0 ≤ 2000) (ex2 : gx = 2000 + ((-1) * pos_0 + 0)) : (-1) * gx + ((-1) * pos_0 + 0) ≤ (-2000) := by
  first
    | omega
    | (have q1 := (hE_0_2_1 (r_0 + 2) (by omega)).2 (by omega)
       have q2 := (hE_0_2_2 (r_0 + 2) (by omega)).2 (by omega)
       omega)
    | (have q1 := (hE_0_2_1 (r_0 + 1) (by omega)).2 (by omega)
       have q2 := (hE_0_2_2 (r_0 + 1) (by omega)).2 (by omega)
       omega)
    | (have q1 := (hE_0_2_1 (r_0 + 2) (by omega)).2 (by omega)
       omega)
    | (have q1 := (hE_0_2_1 (r_0 + 1) (by omega)).2 (by omega)
       omega)
    | (have q1 := (hE_0_2_1 (r_0 + 2) (by omega)).2 (by omega)
       have q2 := (hE_0_2_2 (r_0 + 2) (by omega)).2 (by omega)
       have q3 := (hE_0_2_3 (r_0 + 2) (by omega)).1 (by omega)
       omega)
    | (have q1 := (hE_0_2_1 (r_0 + 2) (by omega)).2 (by omega)
       have q2 := (hE_0_2_2 (r_0 + 2) (by omega)).2 (by omega)
       have q3 := (hE_0_2_3 (r_0 + 2) (by omega)).2 (by omega)
       omega)
def o_Mo_edgeItem_3 : or_T := (46, 18, [(0, (2, 0, 0, [165])), (1, (0, 0, 7, [])), (2, (0, 0, 2000, [])), (3, (0, 0, 4, [])), (5, (0, 0, 2000, [])), (7, (0, 0, 4, [])), (8, (0, -1, 23, [])), (9, (0, 0, 48, [])), (15, (0, 1, 1, [])), (16, (0, 0, 2000, [])), (17, (0, 0, 5, []))], [(9, [16, 0], [13]), (20, [0, 15, 16], [60, 1, 1, 1026, 10, 1]), (20, [17], [61, 0, 1029]), (23, [5, 2], [0, 1, -1]), (23, [5, 2], [0, -1, 1]), (23, [7, 3], [0, 1, -1]), (23, [7, 3], [0, -1, 1]), (20, [0, 0], [30, 0, 1, 1, 15, -1, 1, 11]), (20, [0], [50, 3, 0, 12, 11, 15, 2, 21, 4, 7, 1, 3, 2, 0, 12, 0, 1, 0, 3, 2, 0, 11, 4, 3, 2, 0, 15, 0, 8, 3, 7, 1, 3, 2, 0, 12, 0, 0, 0, 7, 4, 3, 2, 0, 15, 0, 1, 2, 0, 11]), (20, [5, 0], [30, 0, 1, 0, 0, -1, 1, 11]), (20, [1, 0], [50, 1, 1, 1005, 1002, 0, 6, 4, 2, 1, 0, 0, 1, 3, 1, 2, 4, 3, 2, 1, 5, 0, 2]), (20, [0], [60, 1, 3, 199, 5, 2, 3, 4]), (20, [0], [30, -1, -1, 1, 8]), (20, [17, 0, 15, 16], [50, 2, 0, 1008, 1009, 3, 15, 2, 6, 0, 2, 0, 1, 1, 0, 1, 3, 2, 1, 8, 1, 0, 2, 6, 1, 2, 1, 0, 0, 0, 2, 7, 1, 3, 2, 1, 8, 1, 2, 1, 3, 2, 1, 9, 1, 3])], [], [(0, 0, 2000, [])], [(20, [1, 0], [50, 1, 1, 1005, 1002, 0, 6, 4, 2, 1, 0, 0, 1, 3, 1, 2, 4, 3, 2, 1, 5, 0, 2]), (20, [0, 0], [30, 0, 1, 1, 15, -1, 1, 11]), (20, [0], [50, 3, 0, 12, 11, 15, 2, 21, 4, 7, 1, 3, 2, 0, 12, 0, 1, 0, 3, 2, 0, 11, 4, 3, 2, 0, 15, 0, 8, 3, 7, 1, 3, 2, 0, 12, 0, 0, 0, 7, 4, 3, 2, 0, 15, 0, 1, 2, 0, 11]), (20, [2, 0], [30, 0, 1, 0, 0, -1, 1, 11]), (20, [0, 2], [50, 3, 0, 8, 12, 11, 3, 7, 0, 2, 0, 1, 2, 0, 8, 3, 7, 1, 3, 2, 0, 12, 0, 0, 0, 6, 4, 2, 1, 1, 0, 1, 2, 0, 11]), (20, [0, 8], [31, 1, -1, -1, 1, 8, 0, -1, 0, 0]), (20, [0], [60, 1, 3, 199, 5, 2, 3, 4]), (20, [0, 8], [60, 2, 1, 242, 5, 8, 2]), (20, [0, 8, 9, 1, 3], [60, 9, 2, 1012, 10, 11, 12, 13, 14, 15, 8, 9, 5, 1, 2]), (24, [0, 0], []), (24, [1, 1], []), (20, [18, 0], [30, 2000, 1, 0, 0, 1, 1, 11]), (20, [18, 0], [30, -2000, -1, 0, 0, -1, 1, 11])], [], [])
theorem oo_Mo_edgeItem_3 {kA : Nat → ClassId} : or_ok PRD kA GG o_Mo_edgeItem_3 := by
  refine or_mk fun A ta ws vs hD hth hl => ?_
  intro t0 r0 t1 k1 t2 k2 t3 k3 t5 k5 t7 k7 t8 k8 t9 k9 t15 k15 t16 k16 t17 k17 f0 f1 f2 f5 f6 f7 f8 f9 f10 f11 f12 f13 f14 f15
  replace f0 := shm_361 f0
  replace f1 := shm_1724 f1
  replace f2 := shm_1725 f2
  replace f5 := shm_7 f5
  replace f6 := shm_22 f6
  replace f7 := shm_7 f7
  replace f8 := shm_22 f8
  replace f9 := shm_1437 f9
  replace f10 := shm_1438 f10
  replace f11 := shm_1431 f11
  replace f12 := shm_1009 f12
  replace f13 := shm_980 f13
  replace f14 := shm_305 f14
  replace f15 := shm_306 f15
  have g0 : v_iv (n_v vs 16) = w_fi ws (n_v vs 0) 13 := congrArg v_iv f0
  have kz_0_8 := fdq_34 hD hth r0
  have kz_0_9 := fdq_44 hD hth r0
  have kz_0_10 := fdq_43 hD hth r0
  have kz_0_11 := fdq_237 hD hth r0
  have kz_0_12 := fdq_187 hD hth r0
  have kz_0_13 := fdq_238 hD hth r0
  have kz_0_14 := fdq_188 hD hth r0
  have kz_0_15 := fdq_239 hD hth r0
  obtain ⟨x, ex, hx⟩ := iv_ex (ta := ta) (lo := 0) (hi := 2000) (z := 2000 + ((-1) * w_fi ws (n_v vs 0) 11 + 0)) (by omega) (by omega) (by omega) (by omega)
  have ex2 : v_iv (Value.int x) = 2000 + ((-1) * w_fi ws (n_v vs 0) 11 + 0) := ex
  have ex3 : 0 ≤ v_iv (Value.int x) ∧ v_iv (Value.int x) ≤ 2000 := tv_rng hx
  have e_0 : n_v (vs ++ [Value.int x]) 0 = n_v vs 0 := n_v_old (by rw [hl]; decide)
  have e_1 : n_v (vs ++ [Value.int x]) 1 = n_v vs 1 := n_v_old (by rw [hl]; decide)
  have e_2 : n_v (vs ++ [Value.int x]) 2 = n_v vs 2 := n_v_old (by rw [hl]; decide)
  have e_3 : n_v (vs ++ [Value.int x]) 3 = n_v vs 3 := n_v_old (by rw [hl]; decide)
  have e_8 : n_v (vs ++ [Value.int x]) 8 = n_v vs 8 := n_v_old (by rw [hl]; decide)
  have e_9 : n_v (vs ++ [Value.int x]) 9 = n_v vs 9 := n_v_old (by rw [hl]; decide)
  have e_18 : n_v (vs ++ [Value.int x]) 18 = Value.int x := n_v_new hl
  have nf0 : fc_1 PRD (20, [1, 0], [50, 1, 1, 1005, 1002, 0, 6, 4, 2, 1, 0, 0, 1, 3, 1, 2, 4, 3, 2, 1, 5, 0, 2]) ws (vs ++ [Value.int x]) := by
    refine ⟨nf_inA hl rfl, sgq_1009 ?_⟩
    · show (v_iv (n_v (vs ++ [Value.int x]) 1) + 1) ≤ w_ei ws (w_ar ws (n_v (vs ++ [Value.int x]) 0) 2) ((w_fi ws (n_v (vs ++ [Value.int x]) 0) 5 + 2))
      simp only [e_0, e_1]
      exact vc_Mo_edgeItem_3_0 (v_iv (n_v vs 1)) (w_ei ws (w_ar ws (n_v vs 0) 2)) (w_fi ws (n_v vs 0) 5) k1 f12
  have nf1 : fc_1 PRD (20, [0, 0], [30, 0, 1, 1, 15, -1, 1, 11]) ws (vs ++ [Value.int x]) := by
    refine ⟨nf_inA hl rfl, sgq_1437 ?_⟩
    · show 1 * w_fi ws (n_v (vs ++ [Value.int x]) 0) 15 + ((-1) * w_fi ws (n_v (vs ++ [Value.int x]) 0) 11 + 0) ≤ 0
      rw [e_0]
      exact vc_Mo_edgeItem_3_1 (w_fi ws (n_v vs 0) 5) (w_fi ws (n_v vs 0) 15) (w_fi ws (n_v vs 0) 11) f9 kz_0_11 kz_0_15
  have nf2 : fc_1 PRD (20, [0], [50, 3, 0, 12, 11, 15, 2, 21, 4, 7, 1, 3, 2, 0, 12, 0, 1, 0, 3, 2, 0, 11, 4, 3, 2, 0, 15, 0, 8, 3, 7, 1, 3, 2, 0, 12, 0, 0, 0, 7, 4, 3, 2, 0, 15, 0, 1, 2, 0, 11]) ws (vs ++ [Value.int x]) := by
    refine ⟨nf_inA hl rfl, sgq_1438 ?_⟩
    · show ((w_fi ws (n_v (vs ++ [Value.int x]) 0) 12 = 1) → (w_fi ws (n_v (vs ++ [Value.int x]) 0) 11 ≤ (w_fi ws (n_v (vs ++ [Value.int x]) 0) 15 + 8))) ∧ ((w_fi ws (n_v (vs ++ [Value.int x]) 0) 12 = 0) ∨ ((w_fi ws (n_v (vs ++ [Value.int x]) 0) 15 + 1) ≤ w_fi ws (n_v (vs ++ [Value.int x]) 0) 11))
      rw [e_0]
      exact vc_Mo_edgeItem_3_2 (w_fi ws (n_v vs 0) 5) (w_fi ws (n_v vs 0) 15) (w_fi ws (n_v vs 0) 11) (w_fi ws (n_v vs 0) 12) f10 kz_0_11 kz_0_12 kz_0_15
  have nf3 : fc_1 PRD (20, [2, 0], [30, 0, 1, 0, 0, -1, 1, 11]) ws (vs ++ [Value.int x]) := by
    refine ⟨nf_inA hl rfl, sgq_1431 ?_⟩
    · show 1 * v_iv (n_v (vs ++ [Value.int x]) 2) + ((-1) * w_fi ws (n_v (vs ++ [Value.int x]) 0) 11 + 0) ≤ 0
      simp only [e_0, e_2]
      exact vc_Mo_edgeItem_3_3 (v_iv (n_v vs 2)) (v_iv (n_v vs 5)) (w_fi ws (n_v vs 0) 5) (w_fi ws (n_v vs 0) 11) (v_iv (Value.int x)) k2 k5 f5 f6 f11 kz_0_11 ex2
  have nf4 : fc_1 PRD (20, [0, 2], [50, 3, 0, 8, 12, 11, 3, 7, 0, 2, 0, 1, 2, 0, 8, 3, 7, 1, 3, 2, 0, 12, 0, 0, 0, 6, 4, 2, 1, 1, 0, 1, 2, 0, 11]) ws (vs ++ [Value.int x]) := by
    refine ⟨nf_inA hl rfl, sgq_1722 ?_⟩
    · show (1 ≤ w_fi ws (n_v (vs ++ [Value.int x]) 0) 8) ∨ ((w_fi ws (n_v (vs ++ [Value.int x]) 0) 12 = 0) ∨ ((v_iv (n_v (vs ++ [Value.int x]) 2) + 1) ≤ w_fi ws (n_v (vs ++ [Value.int x]) 0) 11))
      simp only [e_0, e_2]
      exact vc_Mo_edgeItem_3_4 (v_iv (n_v vs 2)) (w_fi ws (n_v vs 0) 5) (w_fi ws (n_v vs 0) 11) (w_fi ws (n_v vs 0) 12) (w_fi ws (n_v vs 0) 8) k2 f14 kz_0_8 kz_0_11 kz_0_12
  have nf5 : fc_1 PRD (20, [0, 8], [31, 1, -1, -1, 1, 8, 0, -1, 0, 0]) ws (vs ++ [Value.int x]) := by
    refine ⟨nf_inA hl rfl, sgq_2117 ?_⟩
    · show ((-1) * w_fi ws (n_v (vs ++ [Value.int x]) 0) 8 + 0 ≤ (-1)) ∨ ((-1) * v_iv (n_v (vs ++ [Value.int x]) 8) + 0 ≤ 0)
      simp only [e_0, e_8]
      exact vc_Mo_edgeItem_3_5 (v_iv (n_v vs 8)) (w_fi ws (n_v vs 0) 5) (w_fi ws (n_v vs 0) 8) k8 f14 kz_0_8
  have nf6 : fc_1 PRD (20, [0], [60, 1, 3, 199, 5, 2, 3, 4]) ws (vs ++ [Value.int x]) := by
    refine ⟨nf_inA hl rfl, sgq_980 ?_⟩
    · show RWS (w_fi ws (n_v (vs ++ [Value.int x]) 0) 5) (w_ei ws (w_ar ws (n_v (vs ++ [Value.int x]) 0) 2)) (w_ei ws (w_ar ws (n_v (vs ++ [Value.int x]) 0) 3)) (w_ei ws (w_ar ws (n_v (vs ++ [Value.int x]) 0) 4))
      rw [e_0]
      exact vc_Mo_edgeItem_3_6 (w_ei ws (w_ar ws (n_v vs 0) 2)) (w_fi ws (n_v vs 0) 5) (w_ei ws (w_ar ws (n_v vs 0) 3)) (w_ei ws (w_ar ws (n_v vs 0) 4)) f13
  have nf7 : fc_1 PRD (20, [0, 8], [60, 2, 1, 242, 5, 8, 2]) ws (vs ++ [Value.int x]) := by
    refine ⟨nf_inA hl rfl, sgq_2152 ?_⟩
    · show EDI (w_fi ws (n_v (vs ++ [Value.int x]) 0) 5) (w_fi ws (n_v (vs ++ [Value.int x]) 0) 8) (w_ei ws (w_ar ws (n_v (vs ++ [Value.int x]) 0) 2)) (v_iv (n_v (vs ++ [Value.int x]) 8))
      simp only [e_0, e_8]
      exact vc_Mo_edgeItem_3_7 (v_iv (n_v vs 8)) (w_ei ws (w_ar ws (n_v vs 0) 2)) (w_fi ws (n_v vs 0) 5) (w_fi ws (n_v vs 0) 8) k8 f14 kz_0_8
  have nf8 : fc_1 PRD (20, [0, 8, 9, 1, 3], [60, 9, 2, 1012, 10, 11, 12, 13, 14, 15, 8, 9, 5, 1, 2]) ws (vs ++ [Value.int x]) := by
    refine ⟨nf_inA hl rfl, sgq_2153 ?_⟩
    · show zOSL (w_fi ws (n_v (vs ++ [Value.int x]) 0) 10) (w_fi ws (n_v (vs ++ [Value.int x]) 0) 11) (w_fi ws (n_v (vs ++ [Value.int x]) 0) 12) (w_fi ws (n_v (vs ++ [Value.int x]) 0) 13) (w_fi ws (n_v (vs ++ [Value.int x]) 0) 14) (w_fi ws (n_v (vs ++ [Value.int x]) 0) 15) (w_fi ws (n_v (vs ++ [Value.int x]) 0) 8) (w_fi ws (n_v (vs ++ [Value.int x]) 0) 9) (w_fi ws (n_v (vs ++ [Value.int x]) 0) 5) (w_ei ws (w_ar ws (n_v (vs ++ [Value.int x]) 0) 1)) (w_ei ws (w_ar ws (n_v (vs ++ [Value.int x]) 0) 2)) (v_iv (n_v (vs ++ [Value.int x]) 8)) (v_iv (n_v (vs ++ [Value.int x]) 9)) (v_iv (n_v (vs ++ [Value.int x]) 1)) (v_iv (n_v (vs ++ [Value.int x]) 3))
      simp only [e_0, e_1, e_3, e_8, e_9]
      exact vc_Mo_edgeItem_3_8 (v_iv (n_v vs 1)) (v_iv (n_v vs 2)) (v_iv (n_v vs 3)) (v_iv (n_v vs 5)) (v_iv (n_v vs 7)) (v_iv (n_v vs 8)) (v_iv (n_v vs 9)) (v_iv (n_v vs 15)) (v_iv (n_v vs 16)) (v_iv (n_v vs 17)) (w_fi ws (n_v vs 0) 13) (w_ei ws (w_ar ws (n_v vs 0) 1)) (w_fi ws (n_v vs 0) 10) (w_ei ws (w_ar ws (n_v vs 0) 2)) (w_fi ws (n_v vs 0) 5) (w_fi ws (n_v vs 0) 15) (w_fi ws (n_v vs 0) 11) (w_fi ws (n_v vs 0) 12) (w_fi ws (n_v vs 0) 8) (w_fi ws (n_v vs 0) 9) (w_fi ws (n_v vs 0) 14) k1 k2 k3 k5 k7 k8 k9 k15 k16 k17 g0 f1 f2 f5 f6 f7 f8 f15 kz_0_8 kz_0_9 kz_0_10 kz_0_11 kz_0_12 kz_0_13 kz_0_14 kz_0_15
  have nf9 : fc_1 PRD (24, [0, 0], []) ws (vs ++ [Value.int x]) := by
    refine ⟨nf_inA hl rfl, sgq_1 ?_⟩
    · show n_v (vs ++ [Value.int x]) 0 = n_v (vs ++ [Value.int x]) 0
      first | rfl | simp only [e_0]
  have nf10 : fc_1 PRD (24, [1, 1], []) ws (vs ++ [Value.int x]) := by
    refine ⟨nf_inA hl rfl, sgq_1 ?_⟩
    · show n_v (vs ++ [Value.int x]) 1 = n_v (vs ++ [Value.int x]) 1
      first | rfl | simp only [e_1]
  have nf11 : fc_1 PRD (20, [18, 0], [30, 2000, 1, 0, 0, 1, 1, 11]) ws (vs ++ [Value.int x]) := by
    refine ⟨nf_inA hl rfl, sgq_2007 ?_⟩
    · show 1 * v_iv (n_v (vs ++ [Value.int x]) 18) + (1 * w_fi ws (n_v (vs ++ [Value.int x]) 0) 11 + 0) ≤ 2000
      simp only [e_0, e_18]
      exact vc_Mo_edgeItem_3_11 (w_fi ws (n_v vs 0) 5) (w_fi ws (n_v vs 0) 11) (v_iv (Value.int x)) kz_0_11 ex2
  have nf12 : fc_1 PRD (20, [18, 0], [30, -2000, -1, 0, 0, -1, 1, 11]) ws (vs ++ [Value.int x]) := by
    refine ⟨nf_inA hl rfl, sgq_2008 ?_⟩
    · show (-1) * v_iv (n_v (vs ++ [Value.int x]) 18) + ((-1) * w_fi ws (n_v (vs ++ [Value.int x]) 0) 11 + 0) ≤ (-2000)
      simp only [e_0, e_18]
      exact vc_Mo_edgeItem_3_12 (w_fi ws (n_v vs 0) 5) (w_fi ws (n_v vs 0) 11) (v_iv (Value.int x)) kz_0_11 ex2
  exact ⟨(fun _ h => (by cases h)), [Value.int x], ag_one hx, List.forall_mem_cons.mpr ⟨⟨show (20 : Nat) < 100 from by decide, nf0⟩, List.forall_mem_cons.mpr ⟨⟨show (20 : Nat) < 100 from by decide, nf1⟩, List.forall_mem_cons.mpr ⟨⟨show (20 : Nat) < 100 from by decide, nf2⟩, List.forall_mem_cons.mpr ⟨⟨show (20 : Nat) < 100 from by decide, nf3⟩, List.forall_mem_cons.mpr ⟨⟨show (20 : Nat) < 100 from by decide, nf4⟩, List.forall_mem_cons.mpr ⟨⟨show (20 : Nat) < 100 from by decide, nf5⟩, List.forall_mem_cons.mpr ⟨⟨show (20 : Nat) < 100 from by decide, nf6⟩, List.forall_mem_cons.mpr ⟨⟨show (20 : Nat) < 100 from by decide, nf7⟩, List.forall_mem_cons.mpr ⟨⟨show (20 : Nat) < 100 from by decide, nf8⟩, List.forall_mem_cons.mpr ⟨⟨show (24 : Nat) < 100 from by decide, nf9⟩, List.forall_mem_cons.mpr ⟨⟨show (24 : Nat) < 100 from by decide, nf10⟩, List.forall_mem_cons.mpr ⟨⟨show (20 : Nat) < 100 from by decide, nf11⟩, List.forall_mem_cons.mpr ⟨⟨show (20 : Nat) < 100 from by decide, nf12⟩, (fun _ h => (by cases h))⟩⟩⟩⟩⟩⟩⟩⟩⟩⟩⟩⟩⟩, (fun _ h => (by cases h))⟩
set_option maxHeartbeats 4000000 in
theorem vc_Mo_edgeItem_4_0 (x1 : Int) (all_0 : Int → Int) (r_0 : Int) (k1 : 0 ≤ x1 ∧ x1 ≤ 7) (f21 : (x1 + 1) ≤ all_0 ((r_0 + 2))) : (x1 + 1) ≤ all_0 ((r_0 + 2)) := by
  first
    | omega
    | (have q1 := (hE_0_2_1 (r_0 + 2) (by omega)).2 (by omega)
       have q2 := (hE_0_2_2 (r_0 + 2) (by omega)).2 (by omega)
       omega)
    | (have q1 := (hE_0_2_1 (r_0 + 1) (by omega)).2 (by omega)
       have q2 := (hE_0_2_2 (r_0 + 1) (by omega)).2 (by omega)
       omega)
    | (have q1 := (hE_0_2_1 (r_0 + 2) (by omega)).2 (by omega)
       omega)
    | (have q1 := (hE_0_2_1 (r_0 + 1) (by omega)).2 (by omega)
       omega)
    | (have q1 := (hE_0_2_1 (r_0 + 2) (by omega)).2 (by omega)
       have q2 := (hE_0_2_2 (r_0 + 2) (by omega)).2 (by omega)
       have q3 := (hE_0_2_3 (r_0 + 2) (by omega)).1 (by omega)
       omega)
    | (have q1 := (hE_0_2_1 (r_0 + 2) (by omega)).2 (by omega)
       have q2 := (hE_0_2_2 (r_0 + 2) (by omega)).2 (by omega)
       have q3 := (hE_0_2_3 (r_0 + 2) (by omega)).2 (by omega)
       omega)
set_option maxHeartbeats 4000000 in
theorem vc_Mo_edgeItem_4_1 (r_0 : Int) (from_0 : Int) (pos_0 : Int) (f14 : 1 * from_0 + ((-1) * pos_0 + 0) ≤ 0) (kz_0_11 : 0 ≤ pos_0 ∧ pos_0 ≤ 2000) (kz_0_15 : 0 ≤ from_0 ∧ from_0 ≤ 2000) : 1 * from_0 + ((-1) * pos_0 + 0) ≤ 0 := by
  first
    | omega
    | (have q1 := (hE_0_2_1 (r_0 + 2) (by omega)).2 (by omega)
       have q2 := (hE_0_2_2 (r_0 + 2) (by omega)).2 (by omega)
       omega)
    | (have q1 := (hE_0_2_1 (r_0 + 1) (by omega)).2 (by omega)
       have q2 := (hE_0_2_2 (r_0 + 1) (by omega)).2 (by omega)
       omega)
    | (have q1 := (hE_0_2_1 (r_0 + 2) (by omega)).2 (by omega)
       omega)
    | (have q1 := (hE_0_2_1 (r_0 + 1) (by omega)).2 (by omega)
       omega)
    | (have q1 := (hE_0_2_1 (r_0 + 2) (by omega)).2 (by omega)
       have q2 := (hE_0_2_2 (r_0 + 2) (by omega)).2 (by omega)
       have q3 := (hE_0_2_3 (r_0 + 2) (by omega)).1 (by omega)
       omega)
    | (have q1 := (hE_0_2_1 (r_0 + 2) (by omega)).2 (by omega)
       have q2 := (hE_0_2_2 (r_0 + 2) (by omega)).2 (by omega)
       have q3 := (hE_0_2_3 (r_0 + 2) (by omega)).2 (by omega)
       omega)
set_option maxHeartbeats 4000000 in
theorem vc_Mo_edgeItem_4_2 (kind_0 : Int) (r_0 : Int) (from_0 : Int) (pos_0 : Int) (f15 : ((kind_0 = 1) → (pos_0 ≤ (from_0 + 8))) ∧ ((kind_0 = 0) ∨ ((from_0 + 1) ≤ pos_0))) (kz_0_11 : 0 ≤ pos_0 ∧ pos_0 ≤ 2000) (kz_0_12 : 0 ≤ kind_0 ∧ kind_0 ≤ 4) (kz_0_15 : 0 ≤ from_0 ∧ from_0 ≤ 2000) : ((kind_0 = 1) → (pos_0 ≤ (from_0 + 8))) ∧ ((kind_0 = 0) ∨ ((from_0 + 1) ≤ pos_0)) := by
  first
    | omega
    | (have q1 := (hE_0_2_1 (r_0 + 2) (by omega)).2 (by omega)
       have q2 := (hE_0_2_2 (r_0 + 2) (by omega)).2 (by omega)
       omega)
    | (have q1 := (hE_0_2_1 (r_0 + 1) (by omega)).2 (by omega)
       have q2 := (hE_0_2_2 (r_0 + 1) (by omega)).2 (by omega)
       omega)
    | (have q1 := (hE_0_2_1 (r_0 + 2) (by omega)).2 (by omega)
       omega)
    | (have q1 := (hE_0_2_1 (r_0 + 1) (by omega)).2 (by omega)
       omega)
    | (have q1 := (hE_0_2_1 (r_0 + 2) (by omega)).2 (by omega)
       have q2 := (hE_0_2_2 (r_0 + 2) (by omega)).2 (by omega)
       have q3 := (hE_0_2_3 (r_0 + 2) (by omega)).1 (by omega)
       omega)
    | (have q1 := (hE_0_2_1 (r_0 + 2) (by omega)).2 (by omega)
       have q2 := (hE_0_2_2 (r_0 + 2) (by omega)).2 (by omega)
       have q3 := (hE_0_2_3 (r_0 + 2) (by omega)).2 (by omega)
       omega)
set_option maxHeartbeats 4000000 in
theorem vc_Mo_edgeItem_4_3 (x2 : Int) (x5 : Int) (r_0 : Int) (pos_0 : Int) (gx : Int) (k2 : 0 ≤ x2 ∧ x2 ≤ 2000) (k5 : 0 ≤ x5 ∧ x5 ≤ 2000) (f10 : 1 * x5 + ((-1) * x2 + 0) ≤ 0) (f11 : (-1) * x5 + (1 * x2 + 0) ≤ 0) (f16 : 1 * x5 + ((-1) * pos_0 + 0) ≤ 0) (kz_0_11 : 0 ≤ pos_0 ∧ pos_0 ≤ 2000) (ex2 : gx = 2000 + ((-1) * pos_0 + 0)) : 1 * x2 + ((-1) * pos_0 + 0) ≤ 0 := by
  first
    | omega
    | (have q1 := (hE_0_2_1 (r_0 + 2) (by omega)).2 (by omega)
       have q2 := (hE_0_2_2 (r_0 + 2) (by omega)).2 (by omega)
       omega)
    | (have q1 := (hE_0_2_1 (r_0 + 1) (by omega)).2 (by omega)
       have q2 := (hE_0_2_2 (r_0 + 1) (by omega)).2 (by omega)
       omega)
    | (have q1 := (hE_0_2_1 (r_0 + 2) (by omega)).2 (by omega)
       omega)
    | (have q1 := (hE_0_2_1 (r_0 + 1) (by omega)).2 (by omega)
       omega)
    | (have q1 := (hE_0_2_1 (r_0 + 2) (by omega)).2 (by omega)
       have q2 := (hE_0_2_2 (r_0 + 2) (by omega)).2 (by omega)
       have q3 := (hE_0_2_3 (r_0 + 2) (by omega)).1 (by omega)
       omega)
    | (have q1 := (hE_0_2_1 (r_0 + 2) (by omega)).2 (by omega)
       have q2 := (hE_0_2_2 (r_0 + 2) (by omega)).2 (by omega)
       have q3 := (hE_0_2_3 (r_0 + 2) (by omega)).2 (by omega)
       omega)
set_option maxHeartbeats 4000000 in
theorem vc_Mo_edgeItem_4_4 (x2 : Int) (x4 : Int) (x5 : Int) (x6 : Int) (x8 : Int) (x10 : Int) (kind_0 : Int) (fault_0 : Int) (all_0 : Int → Int) (r_0 : Int) (pos_0 : Int) (gx : Int) (k2 : 0 ≤ x2 ∧ x2 ≤ 2000) (k4 : (-1) ≤ x4 ∧ x4 ≤ (-1)) (k5 : 0 ≤ x5 ∧ x5 ≤ 2000) (k6 : 0 ≤ x6 ∧ x6 ≤ 2000) (k8 : (-1) ≤ x8 ∧ x8 ≤ 23) (k10 : 0 ≤ x10 ∧ x10 ≤ 0) (g7 : x10 = fault_0) (f10 : 1 * x5 + ((-1) * x2 + 0) ≤ 0) (f11 : (-1) * x5 + (1 * x2 + 0) ≤ 0) (f16 : 1 * x5 + ((-1) * pos_0 + 0) ≤ 0) (f17 : (1 ≤ fault_0) ∨ ((kind_0 = 0) ∨ ((x5 + 1) ≤ pos_0))) (f18 : (1 ≤ fault_0) ∨ ((x6 + 1) ≤ pos_0)) (f19 : ((-1) * fault_0 + 0 ≤ (-1)) ∨ ((-1) * x8 + 0 ≤ 0)) (f20 : (1 ≤ fault_0) ∨ ((x4 ≤ (-1)) ∨ (all_0 ((r_0 + 1)) ≤ 47))) (kz_0_8 : 0 ≤ fault_0 ∧ fault_0 ≤ 5) (kz_0_11 : 0 ≤ pos_0 ∧ pos_0 ≤ 2000) (kz_0_12 : 0 ≤ kind_0 ∧ kind_0 ≤ 4) (ex2 : gx = 2000 + ((-1) * pos_0 + 0)) : (1 ≤ fault_0) ∨ ((kind_0 = 0) ∨ ((x2 + 1) ≤ pos_0)) := by
  first
    | omega
    | (have q1 := (hE_0_2_1 (r_0 + 2) (by omega)).2 (by omega)
       have q2 := (hE_0_2_2 (r_0 + 2) (by omega)).2 (by omega)
       omega)
    | (have q1 := (hE_0_2_1 (r_0 + 1) (by omega)).2 (by omega)
       have q2 := (hE_0_2_2 (r_0 + 1) (by omega)).2 (by omega)
       omega)
    | (have q1 := (hE_0_2_1 (r_0 + 2) (by omega)).2 (by omega)
       omega)
    | (have q1 := (hE_0_2_1 (r_0 + 1) (by omega)).2 (by omega)
       omega)
    | (have q1 := (hE_0_2_1 (r_0 + 2) (by omega)).2 (by omega)
       have q2 := (hE_0_2_2 (r_0 + 2) (by omega)).2 (by omega)
       have q3 := (hE_0_2_3 (r_0 + 2) (by omega)).1 (by omega)
       omega)
    | (have q1 := (hE_0_2_1 (r_0 + 2) (by omega)).2 (by omega)
       have q2 := (hE_0_2_2 (r_0 + 2) (by omega)).2 (by omega)
       have q3 := (hE_0_2_3 (r_0 + 2) (by omega)).2 (by omega)
       omega)
set_option maxHeartbeats 4000000 in
theorem vc_Mo_edgeItem_4_5 (x8 : Int) (fault_0 : Int) (r_0 : Int) (k8 : (-1) ≤ x8 ∧ x8 ≤ 23) (f19 : ((-1) * fault_0 + 0 ≤ (-1)) ∨ ((-1) * x8 + 0 ≤ 0)) (kz_0_8 : 0 ≤ fault_0 ∧ fault_0 ≤ 5) : ((-1) * fault_0 + 0 ≤ (-1)) ∨ ((-1) * x8 + 0 ≤ 0) := by
  first
    | omega
    | (have q1 := (hE_0_2_1 (r_0 + 2) (by omega)).2 (by omega)
       have q2 := (hE_0_2_2 (r_0 + 2) (by omega)).2 (by omega)
       omega)
    | (have q1 := (hE_0_2_1 (r_0 + 1) (by omega)).2 (by omega)
       have q2 := (hE_0_2_2 (r_0 + 1) (by omega)).2 (by omega)
       omega)
    | (have q1 := (hE_0_2_1 (r_0 + 2) (by omega)).2 (by omega)
       omega)
    | (have q1 := (hE_0_2_1 (r_0 + 1) (by omega)).2 (by omega)
       omega)
    | (have q1 := (hE_0_2_1 (r_0 + 2) (by omega)).2 (by omega)
       have q2 := (hE_0_2_2 (r_0 + 2) (by omega)).2 (by omega)
       have q3 := (hE_0_2_3 (r_0 + 2) (by omega)).1 (by omega)
       omega)
    | (have q1 := (hE_0_2_1 (r_0 + 2) (by omega)).2 (by omega)
       have q2 := (hE_0_2_2 (r_0 + 2) (by omega)).2 (by omega)
       have q3 := (hE_0_2_3 (r_0 + 2) (by omega)).2 (by omega)
       omega)
set_option maxHeartbeats 4000000 in
theorem vc_Mo_edgeItem_4_6 (all_0 : Int → Int) (r_0 : Int) (now_0 : Int → Int) (latest_0 : Int → Int) (f22 : RWS (r_0) (all_0) (now_0) (latest_0)) : RWS (r_0) (all_0) (now_0) (latest_0) := by
  first
    | assumption
set_option maxHeartbeats 4000000 in
theorem vc_Mo_edgeItem_4_7 (x4 : Int) (x8 : Int) (fault_0 : Int) (all_0 : Int → Int) (r_0 : Int) (k4 : (-1) ≤ x4 ∧ x4 ≤ (-1)) (k8 : (-1) ≤ x8 ∧ x8 ≤ 23) (f23 : MET (r_0) (fault_0) (all_0) (x4) (x8)) (kz_0_8 : 0 ≤ fault_0 ∧ fault_0 ≤ 5) : EDI (r_0) (fault_0) (all_0) (x8) := by
  first
    | (intro q; exfalso; omega)
    | exact fun q => (‹MET _ _ _ _ _› (by omega)).1
    | exact fun q => ‹NDA _ _ _›
set_option maxHeartbeats 4000000 in
theorem vc_Mo_edgeItem_4_8 (x1 : Int) (x2 : Int) (x3 : Int) (x5 : Int) (x7 : Int) (x8 : Int) (x9 : Int) (x10 : Int) (x11 : Int) (x13 : Int) (x14 : Int) (kind_0 : Int) (fault_0 : Int) (value_0 : Int) (all_0 : Int → Int) (r_0 : Int) (from_0 : Int) (pos_0 : Int) (tape_0 : Int → Int) (limit_0 : Int) (place_0 : Int) (faultPlace_0 : Int) (k1 : 0 ≤ x1 ∧ x1 ≤ 7) (k2 : 0 ≤ x2 ∧ x2 ≤ 2000) (k3 : 0 ≤ x3 ∧ x3 ≤ 4) (k5 : 0 ≤ x5 ∧ x5 ≤ 2000) (k7 : 0 ≤ x7 ∧ x7 ≤ 4) (k8 : (-1) ≤ x8 ∧ x8 ≤ 23) (k9 : 0 ≤ x9 ∧ x9 ≤ 48) (k10 : 0 ≤ x10 ∧ x10 ≤ 0) (k13 : 62 ≤ x13 ∧ x13 ≤ 62) (k14 : 1 ≤ x14 ∧ x14 ≤ 1) (f0 : x14 ≠ 0) (f2 : SGQ (fault_0) (kind_0) (value_0) (x13) (x14)) (g7 : x10 = fault_0) (f8 : 1 * x9 + ((-1) * all_0 (r_0 + 1) + 0) ≤ 0) (f9 : (-1) * x9 + (1 * all_0 (r_0 + 1) + 0) ≤ 0) (f10 : 1 * x5 + ((-1) * x2 + 0) ≤ 0) (f11 : (-1) * x5 + (1 * x2 + 0) ≤ 0) (f12 : 1 * x7 + ((-1) * x3 + 0) ≤ 0) (f13 : (-1) * x7 + (1 * x3 + 0) ≤ 0) (f24 : zOS3 (limit_0) (pos_0) (kind_0) (place_0) (value_0) (from_0) (fault_0) (faultPlace_0) (r_0) (tape_0) (all_0) (x8) (x1) (x7)) (kz_0_8 : 0 ≤ fault_0 ∧ fault_0 ≤ 5) (kz_0_9 : 0 ≤ faultPlace_0 ∧ faultPlace_0 ≤ 2000) (kz_0_10 : 0 ≤ limit_0 ∧ limit_0 ≤ 2000) (kz_0_11 : 0 ≤ pos_0 ∧ pos_0 ≤ 2000) (kz_0_12 : 0 ≤ kind_0 ∧ kind_0 ≤ 4) (kz_0_13 : 0 ≤ place_0 ∧ place_0 ≤ 2000) (kz_0_14 : (-49) ≤ value_0 ∧ value_0 ≤ 1048575) (kz_0_15 : 0 ≤ from_0 ∧ from_0 ≤ 2000) : zOSL (limit_0) (pos_0) (kind_0) (place_0) (value_0) (from_0) (fault_0) (faultPlace_0) (r_0) (tape_0) (all_0) (x8) (x9) (x1) (x3) := by
  first | (have el_x5 : x5 = x2 := by omega); subst el_x5 | skip
  first | (have el_x7 : x7 = x3 := by omega); subst el_x7 | skip
  first | subst g7 | skip
  first
    | (refine Or.inl (fs_w ?_ ?_ (by assumption)) <;> assumption)
    | (have a := sgq_t (C := 45) (‹SGQ _ _ _ x11 _›) (by omega) (by omega); exact ed_head ‹zOS3 _ _ _ _ _ _ _ _ _ _ _ _ _ _› (by omega) (Or.inr ⟨a.2.1, Or.inl a.2.2⟩))
    | (have a := sgq_t (C := 62) (‹SGQ _ _ _ x13 _›) (by omega) (by omega); exact ed_head ‹zOS3 _ _ _ _ _ _ _ _ _ _ _ _ _ _› (by omega) (Or.inr ⟨a.2.1, Or.inr a.2.2⟩))
    | exact Or.inr (Or.inl ‹zRS8 _ _ _ _ _ _ _ _ _ _ _ _ _ _›)
    | exact ed_head ‹zOS3 _ _ _ _ _ _ _ _ _ _ _ _ _ _› (by omega) (Or.inl (by omega))
    | exact ed_head ‹zOS3 _ _ _ _ _ _ _ _ _ _ _ _ _ _› (by omega) (Or.inr ⟨by omega, by omega⟩)
    | exact ed_head ‹zOS3 _ _ _ _ _ _ _ _ _ _ _ _ _ _› (by simp only [Int.add_zero] at *; omega) (Or.inr ⟨by omega, by omega⟩)
    | (exfalso; omega)
set_option maxHeartbeats 4000000 in
theorem vc_Mo_edgeItem_4_11 (r_0 : Int) (pos_0 : Int) (gx : Int) (kz_0_11 : 0 ≤ pos_0 ∧ pos_0 ≤ 2000) (ex2 : gx = 2000 + ((-1) * pos_0 + 0)) : 1 * gx + (1 * pos_0 + 0) ≤ 2000 := by
  first
    | omega
    | (have q1 := (hE_0_2_1 (r_0 + 2) (by omega)).2 (by omega)
       have q2 := (hE_0_2_2 (r_0 + 2) (by omega)).2 (by omega)
       omega)
    | (have q1 := (hE_0_2_1 (r_0 + 1) (by omega)).2 (by omega)
       have q2 := (hE_0_2_2 (r_0 + 1) (by omega)).2 (by omega)
       omega)
    | (have q1 := (hE_0_2_1 (r_0 + 2) (by omega)).2 (by omega)
       omega)
    | (have q1 := (hE_0_2_1 (r_0 + 1) (by omega)).2 (by omega)
       omega)
    | (have q1 := (hE_0_2_1 (r_0 + 2) (by omega)).2 (by omega)
       have q2 := (hE_0_2_2 (r_0 + 2) (by omega)).2 (by omega)
       have q3 := (hE_0_2_3 (r_0 + 2) (by omega)).1 (by omega)
       omega)
    | (have q1 := (hE_0_2_1 (r_0 + 2) (by omega)).2 (by omega)
       have q2 := (hE_0_2_2 (r_0 + 2) (by omega)).2 (by omega)
       have q3 := (hE_0_2_3 (r_0 + 2) (by omega)).2 (by omega)
       omega)
set_option maxHeartbeats 4000000 in
theorem vc_Mo_edgeItem_4_12 (r_0 : Int) (pos_0 : Int) (gx : Int) (kz_0_11 : 0 ≤ pos_0 ∧ pos_0 ≤ 2000) (ex2 : gx = 2000 + ((-1) * pos_0 + 0)) : (-1) * gx + ((-1) * pos_0 + 0) ≤ (-2000) := by
  first
    | omega
    | (have q1 := (hE_0_2_1 (r_0 + 2) (by omega)).2 (by omega)
       have q2 := (hE_0_2_2 (r_0 + 2) (by omega)).2 (by omega)
       omega)
    | (have q1 := (hE_0_2_1 (r_0 + 1) (by omega)).2 (by omega)
       have q2 := (hE_0_2_2 (r_0 + 1) (by omega)).2 (by omega)
       omega)
    | (have q1 := (hE_0_2_1 (r_0 + 2) (by omega)).2 (by omega)
       omega)
    | (have q1 := (hE_0_2_1 (r_0 + 1) (by omega)).2 (by omega)
       omega)
    | (have q1 := (hE_0_2_1 (r_0 + 2) (by omega)).2 (by omega)
       have q2 := (hE_0_2_2 (r_0 + 2) (by omega)).2 (by omega)
       have q3 := (hE_0_2_3 (r_0 + 2) (by omega)).1 (by omega)
       omega)
    | (have q1 := (hE_0_2_1 (r_0 + 2) (by omega)).2 (by omega)
       have q2 := (hE_0_2_2 (r_0 + 2) (by omega)).2 (by omega)
       have q3 := (hE_0_2_3 (r_0 + 2) (by omega)).2 (by omega)
       omega)
def o_Mo_edgeItem_4 : or_T := (46, 15, [(0, (2, 0, 0, [165])), (1, (0, 0, 7, [])), (2, (0, 0, 2000, [])), (3, (0, 0, 4, [])), (4, (0, -1, -1, [])), (5, (0, 0, 2000, [])), (6, (0, 0, 2000, [])), (7, (0, 0, 4, [])), (8, (0, -1, 23, [])), (9, (0, 0, 48, [])), (10, (0, 0, 0, [])), (13, (0, 62, 62, [])), (14, (0, 1, 1, []))], [(8, [14], [1]), (20, [0, 13, 14], [60, 3, 0, 963, 8, 12, 14]), (9, [10, 0], [8]), (20, [9, 0], [30, 0, 1, 0, 0, -1, 3, 2005001]), (20, [9, 0], [30, 0, -1, 0, 0, 1, 3, 2005001]), (23, [5, 2], [0, 1, -1]), (23, [5, 2], [0, -1, 1]), (23, [7, 3], [0, 1, -1]), (23, [7, 3], [0, -1, 1]), (20, [0, 0], [30, 0, 1, 1, 15, -1, 1, 11]), (20, [0], [50, 3, 0, 12, 11, 15, 2, 21, 4, 7, 1, 3, 2, 0, 12, 0, 1, 0, 3, 2, 0, 11, 4, 3, 2, 0, 15, 0, 8, 3, 7, 1, 3, 2, 0, 12, 0, 0, 0, 7, 4, 3, 2, 0, 15, 0, 1, 2, 0, 11]), (20, [5, 0], [30, 0, 1, 0, 0, -1, 1, 11]), (20, [0, 5], [50, 3, 0, 8, 12, 11, 3, 7, 0, 2, 0, 1, 2, 0, 8, 3, 7, 1, 3, 2, 0, 12, 0, 0, 0, 6, 4, 2, 1, 1, 0, 1, 2, 0, 11]), (20, [0, 6], [50, 2, 0, 8, 11, 3, 7, 0, 2, 0, 1, 2, 0, 8, 0, 6, 4, 2, 1, 1, 0, 1, 2, 0, 11]), (20, [0, 8], [31, 1, -1, -1, 1, 8, 0, -1, 0, 0]), (20, [0, 4], [50, 2, 1, 8, 5, 2, 3, 7, 0, 2, 0, 1, 2, 0, 8, 3, 6, 0, 2, 1, 1, 0, -1, 0, 10, 3, 0, 2, 4, 3, 2, 0, 5, 0, 1, 0, 47]), (20, [1, 0], [50, 1, 1, 1005, 1002, 0, 6, 4, 2, 1, 0, 0, 1, 3, 1, 2, 4, 3, 2, 1, 5, 0, 2]), (20, [0], [60, 1, 3, 199, 5, 2, 3, 4]), (20, [0, 4, 8], [60, 2, 1, 240, 5, 8, 2]), (20, [0, 8, 1, 7], [60, 9, 2, 1010, 10, 11, 12, 13, 14, 15, 8, 9, 5, 1, 2])], [], [(0, 0, 2000, [])], [(20, [1, 0], [50, 1, 1, 1005, 1002, 0, 6, 4, 2, 1, 0, 0, 1, 3, 1, 2, 4, 3, 2, 1, 5, 0, 2]), (20, [0, 0], [30, 0, 1, 1, 15, -1, 1, 11]), (20, [0], [50, 3, 0, 12, 11, 15, 2, 21, 4, 7, 1, 3, 2, 0, 12, 0, 1, 0, 3, 2, 0, 11, 4, 3, 2, 0, 15, 0, 8, 3, 7, 1, 3, 2, 0, 12, 0, 0, 0, 7, 4, 3, 2, 0, 15, 0, 1, 2, 0, 11]), (20, [2, 0], [30, 0, 1, 0, 0, -1, 1, 11]), (20, [0, 2], [50, 3, 0, 8, 12, 11, 3, 7, 0, 2, 0, 1, 2, 0, 8, 3, 7, 1, 3, 2, 0, 12, 0, 0, 0, 6, 4, 2, 1, 1, 0, 1, 2, 0, 11]), (20, [0, 8], [31, 1, -1, -1, 1, 8, 0, -1, 0, 0]), (20, [0], [60, 1, 3, 199, 5, 2, 3, 4]), (20, [0, 8], [60, 2, 1, 242, 5, 8, 2]), (20, [0, 8, 9, 1, 3], [60, 9, 2, 1012, 10, 11, 12, 13, 14, 15, 8, 9, 5, 1, 2]), (24, [0, 0], []), (24, [1, 1], []), (20, [15, 0], [30, 2000, 1, 0, 0, 1, 1, 11]), (20, [15, 0], [30, -2000, -1, 0, 0, -1, 1, 11])], [], [])
theorem oo_Mo_edgeItem_4 {kA : Nat → ClassId} : or_ok PRD kA GG o_Mo_edgeItem_4 := by
  refine or_mk fun A ta ws vs hD hth hl => ?_
  intro t0 r0 t1 k1 t2 k2 t3 k3 t4 k4 t5 k5 t6 k6 t7 k7 t8 k8 t9 k9 t10 k10 t13 k13 t14 k14 f0 f2 f7 f8 f9 f10 f11 f12 f13 f14 f15 f16 f17 f18 f19 f20 f21 f22 f23 f24
  replace f0 := shm_142 f0
  replace f2 := shm_731 f2
  replace f7 := shm_293 f7
  replace f8 := shm_121 f8
  replace f9 := shm_122 f9
  replace f10 := shm_7 f10
  replace f11 := shm_22 f11
  replace f12 := shm_7 f12
  replace f13 := shm_22 f13
  replace f14 := shm_1437 f14
  replace f15 := shm_1438 f15
  replace f16 := shm_1431 f16
  replace f17 := shm_1722 f17
  replace f18 := shm_1726 f18
  replace f19 := shm_2117 f19
  replace f20 := shm_2118 f20
  replace f21 := shm_1009 f21
  replace f22 := shm_980 f22
  replace f23 := shm_2119 f23
  replace f24 := shm_2120 f24
  have g7 : v_iv (n_v vs 10) = w_fi ws (n_v vs 0) 8 := congrArg v_iv f7
  have kz_0_8 := fdq_34 hD hth r0
  have kz_0_9 := fdq_44 hD hth r0
  have kz_0_10 := fdq_43 hD hth r0
  have kz_0_11 := fdq_237 hD hth r0
  have kz_0_12 := fdq_187 hD hth r0
  have kz_0_13 := fdq_238 hD hth r0
  have kz_0_14 := fdq_188 hD hth r0
  have kz_0_15 := fdq_239 hD hth r0
  obtain ⟨x, ex, hx⟩ := iv_ex (ta := ta) (lo := 0) (hi := 2000) (z := 2000 + ((-1) * w_fi ws (n_v vs 0) 11 + 0)) (by omega) (by omega) (by omega) (by omega)
  have ex2 : v_iv (Value.int x) = 2000 + ((-1) * w_fi ws (n_v vs 0) 11 + 0) := ex
  have ex3 : 0 ≤ v_iv (Value.int x) ∧ v_iv (Value.int x) ≤ 2000 := tv_rng hx
  have e_0 : n_v (vs ++ [Value.int x]) 0 = n_v vs 0 := n_v_old (by rw [hl]; decide)
  have e_1 : n_v (vs ++ [Value.int x]) 1 = n_v vs 1 := n_v_old (by rw [hl]; decide)
  have e_2 : n_v (vs ++ [Value.int x]) 2 = n_v vs 2 := n_v_old (by rw [hl]; decide)
  have e_3 : n_v (vs ++ [Value.int x]) 3 = n_v vs 3 := n_v_old (by rw [hl]; decide)
  have e_8 : n_v (vs ++ [Value.int x]) 8 = n_v vs 8 := n_v_old (by rw [hl]; decide)
  have e_9 : n_v (vs ++ [Value.int x]) 9 = n_v vs 9 := n_v_old (by rw [hl]; decide)
  have e_15 : n_v (vs ++ [Value.int x]) 15 = Value.int x := n_v_new hl
  have nf0 : fc_1 PRD (20, [1, 0], [50, 1, 1, 1005, 1002, 0, 6, 4, 2, 1, 0, 0, 1, 3, 1, 2, 4, 3, 2, 1, 5, 0, 2]) ws (vs ++ [Value.int x]) := by
    refine ⟨nf_inA hl rfl, sgq_1009 ?_⟩
    · show (v_iv (n_v (vs ++ [Value.int x]) 1) + 1) ≤ w_ei ws (w_ar ws (n_v (vs ++ [Value.int x]) 0) 2) ((w_fi ws (n_v (vs ++ [Value.int x]) 0) 5 + 2))
      simp only [e_0, e_1]
      exact vc_Mo_edgeItem_4_0 (v_iv (n_v vs 1)) (w_ei ws (w_ar ws (n_v vs 0) 2)) (w_fi ws (n_v vs 0) 5) k1 f21
  have nf1 : fc_1 PRD (20, [0, 0], [30, 0, 1, 1, 15, -1, 1, 11]) ws (vs ++ [Value.int x]) := by
    refine ⟨nf_inA hl rfl, sgq_1437 ?_⟩
    · show 1 * w_fi ws (n_v (vs ++ [Value.int x]) 0) 15 + ((-1) * w_fi ws (n_v (vs ++ [Value.int x]) 0) 11 + 0) ≤ 0
      rw [e_0]
      exact vc_Mo_edgeItem_4_1 (w_fi ws (n_v vs 0) 5) (w_fi ws (n_v vs 0) 15) (w_fi ws (n_v vs 0) 11) f14 kz_0_11 kz_0_15
  have nf2 : fc_1 PRD (20, [0], [50, 3, 0, 12, 11, 15, 2, 21, 4, 7, 1, 3, 2, 0, 12, 0, 1, 0, 3, 2, 0, 11, 4, 3, 2, 0, 15, 0, 8, 3, 7, 1, 3, 2, 0, 12, 0, 0, 0, 7, 4, 3, 2, 0, 15, 0, 1, 2, 0, 11]) ws (vs ++ [Value.int x]) := by
    refine ⟨nf_inA hl rfl, sgq_1438 ?_⟩
    · show ((w_fi ws (n_v (vs ++ [Value.int x]) 0) 12 = 1) → (w_fi ws (n_v (vs ++ [Value.int x]) 0) 11 ≤ (w_fi ws (n_v (vs ++ [Value.int x]) 0) 15 + 8))) ∧ ((w_fi ws (n_v (vs ++ [Value.int x]) 0) 12 = 0) ∨ ((w_fi ws (n_v (vs ++ [Value.int x]) 0) 15 + 1) ≤ w_fi ws (n_v (vs ++ [Value.int x]) 0) 11))
      rw [e_0]
      exact vc_Mo_edgeItem_4_2 (w_fi ws (n_v vs 0) 12) (w_fi ws (n_v vs 0) 5) (w_fi ws (n_v vs 0) 15) (w_fi ws (n_v vs 0) 11) f15 kz_0_11 kz_0_12 kz_0_15
  have nf3 : fc_1 PRD (20, [2, 0], [30, 0, 1, 0, 0, -1, 1, 11]) ws (vs ++ [Value.int x]) := by
    refine ⟨nf_inA hl rfl, sgq_1431 ?_⟩
    · show 1 * v_iv (n_v (vs ++ [Value.int x]) 2) + ((-1) * w_fi ws (n_v (vs ++ [Value.int x]) 0) 11 + 0) ≤ 0
      simp only [e_0, e_2]
      exact vc_Mo_edgeItem_4_3 (v_iv (n_v vs 2)) (v_iv (n_v vs 5)) (w_fi ws (n_v vs 0) 5) (w_fi ws (n_v vs 0) 11) (v_iv (Value.int x)) k2 k5 f10 f11 f16 kz_0_11 ex2
  have nf4 : fc_1 PRD (20, [0, 2], [50, 3, 0, 8, 12, 11, 3, 7, 0, 2, 0, 1, 2, 0, 8, 3, 7, 1, 3, 2, 0, 12, 0, 0, 0, 6, 4, 2, 1, 1, 0, 1, 2, 0, 11]) ws (vs ++ [Value.int x]) := by
    refine ⟨nf_inA hl rfl, sgq_1722 ?_⟩
    · show (1 ≤ w_fi ws (n_v (vs ++ [Value.int x]) 0) 8) ∨ ((w_fi ws (n_v (vs ++ [Value.int x]) 0) 12 = 0) ∨ ((v_iv (n_v (vs ++ [Value.int x]) 2) + 1) ≤ w_fi ws (n_v (vs ++ [Value.int x]) 0) 11))
      simp only [e_0, e_2]
      exact vc_Mo_edgeItem_4_4 (v_iv (n_v vs 2)) (v_iv (n_v vs 4)) (v_iv (n_v vs 5)) (v_iv (n_v vs 6)) (v_iv (n_v vs 8)) (v_iv (n_v vs 10)) (w_fi ws (n_v vs 0) 12) (w_fi ws (n_v vs 0) 8) (w_ei ws (w_ar ws (n_v vs 0) 2)) (w_fi ws (n_v vs 0) 5) (w_fi ws (n_v vs 0) 11) (v_iv (Value.int x)) k2 k4 k5 k6 k8 k10 g7 f10 f11 f16 f17 f18 f19 f20 kz_0_8 kz_0_11 kz_0_12 ex2
  have nf5 : fc_1 PRD (20, [0, 8], [31, 1, -1, -1, 1, 8, 0, -1, 0, 0]) ws (vs ++ [Value.int x]) := by
    refine ⟨nf_inA hl rfl, sgq_2117 ?_⟩
    · show ((-1) * w_fi ws (n_v (vs ++ [Value.int x]) 0) 8 + 0 ≤ (-1)) ∨ ((-1) * v_iv (n_v (vs ++ [Value.int x]) 8) + 0 ≤ 0)
      simp only [e_0, e_8]
      exact vc_Mo_edgeItem_4_5 (v_iv (n_v vs 8)) (w_fi ws (n_v vs 0) 8) (w_fi ws (n_v vs 0) 5) k8 f19 kz_0_8
  have nf6 : fc_1 PRD (20, [0], [60, 1, 3, 199, 5, 2, 3, 4]) ws (vs ++ [Value.int x]) := by
    refine ⟨nf_inA hl rfl, sgq_980 ?_⟩
    · show RWS (w_fi ws (n_v (vs ++ [Value.int x]) 0) 5) (w_ei ws (w_ar ws (n_v (vs ++ [Value.int x]) 0) 2)) (w_ei ws (w_ar ws (n_v (vs ++ [Value.int x]) 0) 3)) (w_ei ws (w_ar ws (n_v (vs ++ [Value.int x]) 0) 4))
      rw [e_0]
      exact vc_Mo_edgeItem_4_6 (w_ei ws (w_ar ws (n_v vs 0) 2)) (w_fi ws (n_v vs 0) 5) (w_ei ws (w_ar ws (n_v vs 0) 3)) (w_ei ws (w_ar ws (n_v vs 0) 4)) f22
  have nf7 : fc_1 PRD (20, [0, 8], [60, 2, 1, 242, 5, 8, 2]) ws (vs ++ [Value.int x]) := by
    refine ⟨nf_inA hl rfl, sgq_2152 ?_⟩
    · show EDI (w_fi ws (n_v (vs ++ [Value.int x]) 0) 5) (w_fi ws (n_v (vs ++ [Value.int x]) 0) 8) (w_ei ws (w_ar ws (n_v (vs ++ [Value.int x]) 0) 2)) (v_iv (n_v (vs ++ [Value.int x]) 8))
      simp only [e_0, e_8]
      exact vc_Mo_edgeItem_4_7 (v_iv (n_v vs 4)) (v_iv (n_v vs 8)) (w_fi ws (n_v vs 0) 8) (w_ei ws (w_ar ws (n_v vs 0) 2)) (w_fi ws (n_v vs 0) 5) k4 k8 f23 kz_0_8
  have nf8 : fc_1 PRD (20, [0, 8, 9, 1, 3], [60, 9, 2, 1012, 10, 11, 12, 13, 14, 15, 8, 9, 5, 1, 2]) ws (vs ++ [Value.int x]) := by
    refine ⟨nf_inA hl rfl, sgq_2153 ?_⟩
    · show zOSL (w_fi ws (n_v (vs ++ [Value.int x]) 0) 10) (w_fi ws (n_v (vs ++ [Value.int x]) 0) 11) (w_fi ws (n_v (vs ++ [Value.int x]) 0) 12) (w_fi ws (n_v (vs ++ [Value.int x]) 0) 13) (w_fi ws (n_v (vs ++ [Value.int x]) 0) 14) (w_fi ws (n_v (vs ++ [Value.int x]) 0) 15) (w_fi ws (n_v (vs ++ [Value.int x]) 0) 8) (w_fi ws (n_v (vs ++ [Value.int x]) 0) 9) (w_fi ws (n_v (vs ++ [Value.int x]) 0) 5) (w_ei ws (w_ar ws (n_v (vs ++ [Value.int x]) 0) 1)) (w_ei ws (w_ar ws (n_v (vs ++ [Value.int x]) 0) 2)) (v_iv (n_v (vs ++ [Value.int x]) 8)) (v_iv (n_v (vs ++ [Value.int x]) 9)) (v_iv (n_v (vs ++ [Value.int x]) 1)) (v_iv (n_v (vs ++ [Value.int x]) 3))
      simp only [e_0, e_1, e_3, e_8, e_9]
      exact vc_Mo_edgeItem_4_8 (v_iv (n_v vs 1)) (v_iv (n_v vs 2)) (v_iv (n_v vs 3)) (v_iv (n_v vs 5)) (v_iv (n_v vs 7)) (v_iv (n_v vs 8)) (v_iv (n_v vs 9)) (v_iv (n_v vs 10)) (v_iv (n_v vs 11)) (v_iv (n_v vs 13)) (v_iv (n_v vs 14)) (w_fi ws (n_v vs 0) 12) (w_fi ws (n_v vs 0) 8) (w_fi ws (n_v vs 0) 14) (w_ei ws (w_ar ws (n_v vs 0) 2)) (w_fi ws (n_v vs 0) 5) (w_fi ws (n_v vs 0) 15) (w_fi ws (n_v vs 0) 11) (w_ei ws (w_ar ws (n_v vs 0) 1)) (w_fi ws (n_v vs 0) 10) (w_fi ws (n_v vs 0) 13) (w_fi ws (n_v vs 0) 9) k1 k2 k3 k5 k7 k8 k9 k10 k13 k14 f0 f2 g7 f8 f9 f10 f11 f12 f13 f24 kz_0_8 kz_0_9 kz_0_10 kz_0_11 kz_0_12 kz_0_13 kz_0_14 kz_0_15
  have nf9 : fc_1 PRD (24, [0, 0], []) ws (vs ++ [Value.int x]) := by
    refine ⟨nf_inA hl rfl, sgq_1 ?_⟩
    · show n_v (vs ++ [Value.int x]) 0 = n_v (vs ++ [Value.int x]) 0
      first | rfl | simp only [e_0]
  have nf10 : fc_1 PRD (24, [1, 1], []) ws (vs ++ [Value.int x]) := by
    refine ⟨nf_inA hl rfl, sgq_1 ?_⟩
    · show n_v (vs ++ [Value.int x]) 1 = n_v (vs ++ [Value.int x]) 1
      first | rfl | simp only [e_1]
  have nf11 : fc_1 PRD (20, [15, 0], [30, 2000, 1, 0, 0, 1, 1, 11]) ws (vs ++ [Value.int x]) := by
    refine ⟨nf_inA hl rfl, sgq_2007 ?_⟩
    · show 1 * v_iv (n_v (vs ++ [Value.int x]) 15) + (1 * w_fi ws (n_v (vs ++ [Value.int x]) 0) 11 + 0) ≤ 2000
      simp only [e_0, e_15]
      exact vc_Mo_edgeItem_4_11 (w_fi ws (n_v vs 0) 5) (w_fi ws (n_v vs 0) 11) (v_iv (Value.int x)) kz_0_11 ex2
  have nf12 : fc_1 PRD (20, [15, 0], [30, -2000, -1, 0, 0, -1, 1, 11]) ws (vs ++ [Value.int x]) := by
    refine ⟨nf_inA hl rfl, sgq_2008 ?_⟩
    · show (-1) * v_iv (n_v (vs ++ [Value.int x]) 15) + ((-1) * w_fi ws (n_v (vs ++ [Value.int x]) 0) 11 + 0) ≤ (-2000)
      simp only [e_0, e_15]
      exact vc_Mo_edgeItem_4_12 (w_fi ws (n_v vs 0) 5) (w_fi ws (n_v vs 0) 11) (v_iv (Value.int x)) kz_0_11 ex2
  exact ⟨(fun _ h => (by cases h)), [Value.int x], ag_one hx, List.forall_mem_cons.mpr ⟨⟨show (20 : Nat) < 100 from by decide, nf0⟩, List.forall_mem_cons.mpr ⟨⟨show (20 : Nat) < 100 from by decide, nf1⟩, List.forall_mem_cons.mpr ⟨⟨show (20 : Nat) < 100 from by decide, nf2⟩, List.forall_mem_cons.mpr ⟨⟨show (20 : Nat) < 100 from by decide, nf3⟩, List.forall_mem_cons.mpr ⟨⟨show (20 : Nat) < 100 from by decide, nf4⟩, List.forall_mem_cons.mpr ⟨⟨show (20 : Nat) < 100 from by decide, nf5⟩, List.forall_mem_cons.mpr ⟨⟨show (20 : Nat) < 100 from by decide, nf6⟩, List.forall_mem_cons.mpr ⟨⟨show (20 : Nat) < 100 from by decide, nf7⟩, List.forall_mem_cons.mpr ⟨⟨show (20 : Nat) < 100 from by decide, nf8⟩, List.forall_mem_cons.mpr ⟨⟨show (24 : Nat) < 100 from by decide, nf9⟩, List.forall_mem_cons.mpr ⟨⟨show (24 : Nat) < 100 from by decide, nf10⟩, List.forall_mem_cons.mpr ⟨⟨show (20 : Nat) < 100 from by decide, nf11⟩, List.forall_mem_cons.mpr ⟨⟨show (20 : Nat) < 100 from by decide, nf12⟩, (fun _ h => (by cases h))⟩⟩⟩⟩⟩⟩⟩⟩⟩⟩⟩⟩⟩, (fun _ h => (by cases h))⟩
set_option maxHeartbeats 4000000 in
theorem vc_Mo_edgeItem_5_0 (x1 : Int) (all_0 : Int → Int) (r_0 : Int) (k1 : 0 ≤ x1 ∧ x1 ≤ 7) (f18 : (x1 + 1) ≤ all_0 ((r_0 + 2))) : (x1 + 1) ≤ all_0 ((r_0 + 2)) := by
  first
    | omega
    | (have q1 := (hE_0_2_1 (r_0 + 2) (by omega)).2 (by omega)
       have q2 := (hE_0_2_2 (r_0 + 2) (by omega)).2 (by omega)
       omega)
    | (have q1 := (hE_0_2_1 (r_0 + 1) (by omega)).2 (by omega)
       have q2 := (hE_0_2_2 (r_0 + 1) (by omega)).2 (by omega)
       omega)
    | (have q1 := (hE_0_2_1 (r_0 + 2) (by omega)).2 (by omega)
       omega)
    | (have q1 := (hE_0_2_1 (r_0 + 1) (by omega)).2 (by omega)
       omega)
    | (have q1 := (hE_0_2_1 (r_0 + 2) (by omega)).2 (by omega)
       have q2 := (hE_0_2_2 (r_0 + 2) (by omega)).2 (by omega)
       have q3 := (hE_0_2_3 (r_0 + 2) (by omega)).1 (by omega)
       omega)
    | (have q1 := (hE_0_2_1 (r_0 + 2) (by omega)).2 (by omega)
       have q2 := (hE_0_2_2 (r_0 + 2) (by omega)).2 (by omega)
       have q3 := (hE_0_2_3 (r_0 + 2) (by omega)).2 (by omega)
       omega)
set_option maxHeartbeats 4000000 in
theorem vc_Mo_edgeItem_5_1 (r_0 : Int) (from_0 : Int) (pos_0 : Int) (f11 : 1 * from_0 + ((-1) * pos_0 + 0) ≤ 0) (kz_0_11 : 0 ≤ pos_0 ∧ pos_0 ≤ 2000) (kz_0_15 : 0 ≤ from_0 ∧ from_0 ≤ 2000) : 1 * from_0 + ((-1) * pos_0 + 0) ≤ 0 := by
  first
    | omega
    | (have q1 := (hE_0_2_1 (r_0 + 2) (by omega)).2 (by omega)
       have q2 := (hE_0_2_2 (r_0 + 2) (by omega)).2 (by omega)
       omega)
    | (have q1 := (hE_0_2_1 (r_0 + 1) (by omega)).2 (by omega)
       have q2 := (hE_0_2_2 (r_0 + 1) (by omega)).2 (by omega)
       omega)
    | (have q1 := (hE_0_2_1 (r_0 + 2) (by omega)).2 (by omega)
       omega)
    | (have q1 := (hE_0_2_1 (r_0 + 1) (by omega)).2 (by omega)
       omega)
    | (have q1 := (hE_0_2_1 (r_0 + 2) (by omega)).2 (by omega)
       have q2 := (hE_0_2_2 (r_0 + 2) (by omega)).2 (by omega)
       have q3 := (hE_0_2_3 (r_0 + 2) (by omega)).1 (by omega)
       omega)
    | (have q1 := (hE_0_2_1 (r_0 + 2) (by omega)).2 (by omega)
       have q2 := (hE_0_2_2 (r_0 + 2) (by omega)).2 (by omega)
       have q3 := (hE_0_2_3 (r_0 + 2) (by omega)).2 (by omega)
       omega)
set_option maxHeartbeats 4000000 in
theorem vc_Mo_edgeItem_5_2 (kind_0 : Int) (r_0 : Int) (from_0 : Int) (pos_0 : Int) (f12 : ((kind_0 = 1) → (pos_0 ≤ (from_0 + 8))) ∧ ((kind_0 = 0) ∨ ((from_0 + 1) ≤ pos_0))) (kz_0_11 : 0 ≤ pos_0 ∧ pos_0 ≤ 2000) (kz_0_12 : 0 ≤ kind_0 ∧ kind_0 ≤ 4) (kz_0_15 : 0 ≤ from_0 ∧ from_0 ≤ 2000) : ((kind_0 = 1) → (pos_0 ≤ (from_0 + 8))) ∧ ((kind_0 = 0) ∨ ((from_0 + 1) ≤ pos_0)) := by
  first
    | omega
    | (have q1 := (hE_0_2_1 (r_0 + 2) (by omega)).2 (by omega)
       have q2 := (hE_0_2_2 (r_0 + 2) (by omega)).2 (by omega)
       omega)
    | (have q1 := (hE_0_2_1 (r_0 + 1) (by omega)).2 (by omega)
       have q2 := (hE_0_2_2 (r_0 + 1) (by omega)).2 (by omega)
       omega)
    | (have q1 := (hE_0_2_1 (r_0 + 2) (by omega)).2 (by omega)
       omega)
    | (have q1 := (hE_0_2_1 (r_0 + 1) (by omega)).2 (by omega)
       omega)
    | (have q1 := (hE_0_2_1 (r_0 + 2) (by omega)).2 (by omega)
       have q2 := (hE_0_2_2 (r_0 + 2) (by omega)).2 (by omega)
       have q3 := (hE_0_2_3 (r_0 + 2) (by omega)).1 (by omega)
       omega)
    | (have q1 := (hE_0_2_1 (r_0 + 2) (by omega)).2 (by omega)
       have q2 := (hE_0_2_2 (r_0 + 2) (by omega)).2 (by omega)
       have q3 := (hE_0_2_3 (r_0 + 2) (by omega)).2 (by omega)
       omega)
set_option maxHeartbeats 4000000 in
theorem vc_Mo_edgeItem_5_3 (x2 : Int) (x5 : Int) (r_0 : Int) (pos_0 : Int) (gx : Int) (k2 : 0 ≤ x2 ∧ x2 ≤ 2000) (k5 : 0 ≤ x5 ∧ x5 ≤ 2000) (f7 : 1 * x5 + ((-1) * x2 + 0) ≤ 0) (f8 : (-1) * x5 + (1 * x2 + 0) ≤ 0) (f13 : 1 * x5 + ((-1) * pos_0 + 0) ≤ 0) (kz_0_11 : 0 ≤ pos_0 ∧ pos_0 ≤ 2000) (ex2 : gx = 2000 + ((-1) * pos_0 + 0)) : 1 * x2 + ((-1) * pos_0 + 0) ≤ 0 := by
  first
    | omega
    | (have q1 := (hE_0_2_1 (r_0 + 2) (by omega)).2 (by omega)
       have q2 := (hE_0_2_2 (r_0 + 2) (by omega)).2 (by omega)
       omega)
    | (have q1 := (hE_0_2_1 (r_0 + 1) (by omega)).2 (by omega)
       have q2 := (hE_0_2_2 (r_0 + 1) (by omega)).2 (by omega)
       omega)
    | (have q1 := (hE_0_2_1 (r_0 + 2) (by omega)).2 (by omega)
       omega)
    | (have q1 := (hE_0_2_1 (r_0 + 1) (by omega)).2 (by omega)
       omega)
    | (have q1 := (hE_0_2_1 (r_0 + 2) (by omega)).2 (by omega)
       have q2 := (hE_0_2_2 (r_0 + 2) (by omega)).2 (by omega)
       have q3 := (hE_0_2_3 (r_0 + 2) (by omega)).1 (by omega)
       omega)
    | (have q1 := (hE_0_2_1 (r_0 + 2) (by omega)).2 (by omega)
       have q2 := (hE_0_2_2 (r_0 + 2) (by omega)).2 (by omega)
       have q3 := (hE_0_2_3 (r_0 + 2) (by omega)).2 (by omega)
       omega)
set_option maxHeartbeats 4000000 in
theorem vc_Mo_edgeItem_5_4 (x2 : Int) (x4 : Int) (x5 : Int) (x6 : Int) (x8 : Int) (x10 : Int) (kind_0 : Int) (fault_0 : Int) (all_0 : Int → Int) (r_0 : Int) (pos_0 : Int) (gx : Int) (k2 : 0 ≤ x2 ∧ x2 ≤ 2000) (k4 : (-1) ≤ x4 ∧ x4 ≤ (-1)) (k5 : 0 ≤ x5 ∧ x5 ≤ 2000) (k6 : 0 ≤ x6 ∧ x6 ≤ 2000) (k8 : (-1) ≤ x8 ∧ x8 ≤ 23) (k10 : 0 ≤ x10 ∧ x10 ≤ 0) (g4 : x10 = fault_0) (f7 : 1 * x5 + ((-1) * x2 + 0) ≤ 0) (f8 : (-1) * x5 + (1 * x2 + 0) ≤ 0) (f13 : 1 * x5 + ((-1) * pos_0 + 0) ≤ 0) (f14 : (1 ≤ fault_0) ∨ ((kind_0 = 0) ∨ ((x5 + 1) ≤ pos_0))) (f15 : (1 ≤ fault_0) ∨ ((x6 + 1) ≤ pos_0)) (f16 : ((-1) * fault_0 + 0 ≤ (-1)) ∨ ((-1) * x8 + 0 ≤ 0)) (f17 : (1 ≤ fault_0) ∨ ((x4 ≤ (-1)) ∨ (all_0 ((r_0 + 1)) ≤ 47))) (kz_0_8 : 0 ≤ fault_0 ∧ fault_0 ≤ 5) (kz_0_11 : 0 ≤ pos_0 ∧ pos_0 ≤ 2000) (kz_0_12 : 0 ≤ kind_0 ∧ kind_0 ≤ 4) (ex2 : gx = 2000 + ((-1) * pos_0 + 0)) : (1 ≤ fault_0) ∨ ((kind_0 = 0) ∨ ((x2 + 1) ≤ pos_0)) := by
  first
    | omega
    | (have q1 := (hE_0_2_1 (r_0 + 2) (by omega)).2 (by omega)
       have q2 := (hE_0_2_2 (r_0 + 2) (by omega)).2 (by omega)
       omega)
    | (have q1 := (hE_0_2_1 (r_0 + 1) (by omega)).2 (by omega)
       have q2 := (hE_0_2_2 (r_0 + 1) (by omega)).2 (by omega)
       omega)
    | (have q1 := (hE_0_2_1 (r_0 + 2) (by omega)).2 (by omega)
       omega)
    | (have q1 := (hE_0_2_1 (r_0 + 1) (by omega)).2 (by omega)
       omega)
    | (have q1 := (hE_0_2_1 (r_0 + 2) (by omega)).2 (by omega)
       have q2 := (hE_0_2_2 (r_0 + 2) (by omega)).2 (by omega)
       have q3 := (hE_0_2_3 (r_0 + 2) (by omega)).1 (by omega)
       omega)
    | (have q1 := (hE_0_2_1 (r_0 + 2) (by omega)).2 (by omega)
       have q2 := (hE_0_2_2 (r_0 + 2) (by omega)).2 (by omega)
       have q3 := (hE_0_2_3 (r_0 + 2) (by omega)).2 (by omega)
       omega)
set_option maxHeartbeats 4000000 in
theorem vc_Mo_edgeItem_5_5 (x8 : Int) (fault_0 : Int) (r_0 : Int) (k8 : (-1) ≤ x8 ∧ x8 ≤ 23) (f16 : ((-1) * fault_0 + 0 ≤ (-1)) ∨ ((-1) * x8 + 0 ≤ 0)) (kz_0_8 : 0 ≤ fault_0 ∧ fault_0 ≤ 5) : ((-1) * fault_0 + 0 ≤ (-1)) ∨ ((-1) * x8 + 0 ≤ 0) := by
  first
    | omega
    | (have q1 := (hE_0_2_1 (r_0 + 2) (by omega)).2 (by omega)
       have q2 := (hE_0_2_2 (r_0 + 2) (by omega)).2 (by omega)
       omega)
    | (have q1 := (hE_0_2_1 (r_0 + 1) (by omega)).2 (by omega)
       have q2 := (hE_0_2_2 (r_0 + 1) (by omega)).2 (by omega)
       omega)
    | (have q1 := (hE_0_2_1 (r_0 + 2) (by omega)).2 (by omega)
       omega)
    | (have q1 := (hE_0_2_1 (r_0 + 1) (by omega)).2 (by omega)
       omega)
    | (have q1 := (hE_0_2_1 (r_0 + 2) (by omega)).2 (by omega)
       have q2 := (hE_0_2_2 (r_0 + 2) (by omega)).2 (by omega)
       have q3 := (hE_0_2_3 (r_0 + 2) (by omega)).1 (by omega)
       omega)
    | (have q1 := (hE_0_2_1 (r_0 + 2) (by omega)).2 (by omega)
       have q2 := (hE_0_2_2 (r_0 + 2) (by omega)).2 (by omega)
       have q3 := (hE_0_2_3 (r_0 + 2) (by omega)).2 (by omega)
       omega)
set_option maxHeartbeats 4000000 in
theorem vc_Mo_edgeItem_5_6 (all_0 : Int → Int) (r_0 : Int) (now_0 : Int → Int) (latest_0 : Int → Int) (f19 : RWS (r_0) (all_0) (now_0) (latest_0)) : RWS (r_0) (all_0) (now_0) (latest_0) := by
  first
    | assumption
set_option maxHeartbeats 4000000 in
theorem vc_Mo_edgeItem_5_7 (x4 : Int) (x8 : Int) (fault_0 : Int) (all_0 : Int → Int) (r_0 : Int) (k4 : (-1) ≤ x4 ∧ x4 ≤ (-1)) (k8 : (-1) ≤ x8 ∧ x8 ≤ 23) (f20 : MET (r_0) (fault_0) (all_0) (x4) (x8)) (kz_0_8 : 0 ≤ fault_0 ∧ fault_0 ≤ 5) : EDI (r_0) (fault_0) (all_0) (x8) := by
  first
    | (intro q; exfalso; omega)
    | exact fun q => (‹MET _ _ _ _ _› (by omega)).1
    | exact fun q => ‹NDA _ _ _›
set_option maxHeartbeats 4000000 in
theorem vc_Mo_edgeItem_5_8 (x1 : Int) (x2 : Int) (x3 : Int) (x5 : Int) (x7 : Int) (x8 : Int) (x9 : Int) (x10 : Int) (x11 : Int) (x12 : Int) (kind_0 : Int) (fault_0 : Int) (value_0 : Int) (all_0 : Int → Int) (r_0 : Int) (from_0 : Int) (pos_0 : Int) (tape_0 : Int → Int) (limit_0 : Int) (place_0 : Int) (faultPlace_0 : Int) (k1 : 0 ≤ x1 ∧ x1 ≤ 7) (k2 : 0 ≤ x2 ∧ x2 ≤ 2000) (k3 : 0 ≤ x3 ∧ x3 ≤ 4) (k5 : 0 ≤ x5 ∧ x5 ≤ 2000) (k7 : 0 ≤ x7 ∧ x7 ≤ 4) (k8 : (-1) ≤ x8 ∧ x8 ≤ 23) (k9 : 0 ≤ x9 ∧ x9 ≤ 48) (k10 : 0 ≤ x10 ∧ x10 ≤ 0) (k11 : 45 ≤ x11 ∧ x11 ≤ 45) (k12 : 1 ≤ x12 ∧ x12 ≤ 1) (f0 : x12 ≠ 0) (f2 : SGQ (fault_0) (kind_0) (value_0) (x11) (x12)) (g4 : x10 = fault_0) (f5 : 1 * x9 + ((-1) * all_0 (r_0 + 1) + 0) ≤ 0) (f6 : (-1) * x9 + (1 * all_0 (r_0 + 1) + 0) ≤ 0) (f7 : 1 * x5 + ((-1) * x2 + 0) ≤ 0) (f8 : (-1) * x5 + (1 * x2 + 0) ≤ 0) (f9 : 1 * x7 + ((-1) * x3 + 0) ≤ 0) (f10 : (-1) * x7 + (1 * x3 + 0) ≤ 0) (f21 : zOS3 (limit_0) (pos_0) (kind_0) (place_0) (value_0) (from_0) (fault_0) (faultPlace_0) (r_0) (tape_0) (all_0) (x8) (x1) (x7)) (kz_0_8 : 0 ≤ fault_0 ∧ fault_0 ≤ 5) (kz_0_9 : 0 ≤ faultPlace_0 ∧ faultPlace_0 ≤ 2000) (kz_0_10 : 0 ≤ limit_0 ∧ limit_0 ≤ 2000) (kz_0_11 : 0 ≤ pos_0 ∧ pos_0 ≤ 2000) (kz_0_12 : 0 ≤ kind_0 ∧ kind_0 ≤ 4) (kz_0_13 : 0 ≤ place_0 ∧ place_0 ≤ 2000) (kz_0_14 : (-49) ≤ value_0 ∧ value_0 ≤ 1048575) (kz_0_15 : 0 ≤ from_0 ∧ from_0 ≤ 2000) : zOSL (limit_0) (pos_0) (kind_0) (place_0) (value_0) (from_0) (fault_0) (faultPlace_0) (r_0) (tape_0) (all_0) (x8) (x9) (x1) (x3) := by
  first | (have el_x5 : x5 = x2 := by omega); subst el_x5 | skip
  first | (have el_x7 : x7 = x3 := by omega); subst el_x7 | skip
  first | subst g4 | skip
  first
    | (refine Or.inl (fs_w ?_ ?_ (by assumption)) <;> assumption)
    | (have a := sgq_t (C := 45) (‹SGQ _ _ _ x11 _›) (by omega) (by omega); exact ed_head ‹zOS3 _ _ _ _ _ _ _ _ _ _ _ _ _ _› (by omega) (Or.inr ⟨a.2.1, Or.inl a.2.2⟩))
    | (have a := sgq_t (C := 62) (‹SGQ _ _ _ x13 _›) (by omega) (by omega); exact ed_head ‹zOS3 _ _ _ _ _ _ _ _ _ _ _ _ _ _› (by omega) (Or.inr ⟨a.2.1, Or.inr a.2.2⟩))
    | exact Or.inr (Or.inl ‹zRS8 _ _ _ _ _ _ _ _ _ _ _ _ _ _›)
    | exact ed_head ‹zOS3 _ _ _ _ _ _ _ _ _ _ _ _ _ _› (by omega) (Or.inl (by omega))
    | exact ed_head ‹zOS3 _ _ _ _ _ _ _ _ _ _ _ _ _ _› (by omega) (Or.inr ⟨by omega, by omega⟩)
    | exact ed_head ‹zOS3 _ _ _ _ _ _ _ _ _ _ _ _ _ _› (by simp only [Int.add_zero] at *; omega) (Or.inr ⟨by omega, by omega⟩)
    | (exfalso; omega)
set_option maxHeartbeats 4000000 in
theorem vc_Mo_edgeItem_5_11 (r_0 : Int) (pos_0 : Int) (gx : Int) (kz_0_11 : 0 ≤ pos_0 ∧ pos_0 ≤ 2000) (ex2 : gx = 2000 + ((-1) * pos_0 + 0)) : 1 * gx + (1 * pos_0 + 0) ≤ 2000 := by
  first
    | omega
    | (have q1 := (hE_0_2_1 (r_0 + 2) (by omega)).2 (by omega)
       have q2 := (hE_0_2_2 (r_0 + 2) (by omega)).2 (by omega)
       omega)
    | (have q1 := (hE_0_2_1 (r_0 + 1) (by omega)).2 (by omega)
       have q2 := (hE_0_2_2 (r_0 + 1) (by omega)).2 (by omega)
       omega)
    | (have q1 := (hE_0_2_1 (r_0 + 2) (by omega)).2 (by omega)
       omega)
    | (have q1 := (hE_0_2_1 (r_0 + 1) (by omega)).2 (by omega)
       omega)
    | (have q1 := (hE_0_2_1 (r_0 + 2) (by omega)).2 (by omega)
       have q2 := (hE_0_2_2 (r_0 + 2) (by omega)).2 (by omega)
       have q3 := (hE_0_2_3 (r_0 + 2) (by omega)).1 (by omega)
       omega)
    | (have q1 := (hE_0_2_1 (r_0 + 2) (by omega)).2 (by omega)
       have q2 := (hE_0_2_2 (r_0 + 2) (by omega)).2 (by omega)
       have q3 := (hE_0_2_3 (r_0 + 2) (by omega)).2 (by omega)
       omega)
set_option maxHeartbeats 4000000 in
theorem vc_Mo_edgeItem_5_12 (r_0 : Int) (pos_0 : Int) (gx : Int) (kz_0_11 : 0 ≤ pos_0 ∧ pos_0 ≤ 2000) (ex2 : gx = 2000 + ((-1) * pos_0 + 0)) : (-1) * gx + ((-1) * pos_0 + 0) ≤ (-2000) := by
  first
    | omega
    | (have q1 := (hE_0_2_1 (r_0 + 2) (by omega)).2 (by omega)
       have q2 := (hE_0_2_2 (r_0 + 2) (by omega)).2 (by omega)
       omega)
    | (have q1 := (hE_0_2_1 (r_0 + 1) (by omega)).2 (by omega)
       have q2 := (hE_0_2_2 (r_0 + 1) (by omega)).2 (by omega)
       omega)
    | (have q1 := (hE_0_2_1 (r_0 + 2) (by omega)).2 (by omega)
       omega)
    | (have q1 := (hE_0_2_1 (r_0 + 1) (by omega)).2 (by omega)
       omega)
    | (have q1 := (hE_0_2_1 (r_0 + 2) (by omega)).2 (by omega)
       have q2 := (hE_0_2_2 (r_0 + 2) (by omega)).2 (by omega)
       have q3 := (hE_0_2_3 (r_0 + 2) (by omega)).1 (by omega)
       omega)
    | (have q1 := (hE_0_2_1 (r_0 + 2) (by omega)).2 (by omega)
       have q2 := (hE_0_2_2 (r_0 + 2) (by omega)).2 (by omega)
       have q3 := (hE_0_2_3 (r_0 + 2) (by omega)).2 (by omega)
       omega)
def o_Mo_edgeItem_5 : or_T := (46, 13, [(0, (2, 0, 0, [165])), (1, (0, 0, 7, [])), (2, (0, 0, 2000, [])), (3, (0, 0, 4, [])), (4, (0, -1, -1, [])), (5, (0, 0, 2000, [])), (6, (0, 0, 2000, [])), (7, (0, 0, 4, [])), (8, (0, -1, 23, [])), (9, (0, 0, 48, [])), (10, (0, 0, 0, [])), (11, (0, 45, 45, [])), (12, (0, 1, 1, []))], [(8, [12], [1]), (20, [0, 11, 12], [60, 3, 0, 963, 8, 12, 14]), (9, [10, 0], [8]), (20, [9, 0], [30, 0, 1, 0, 0, -1, 3, 2005001]), (20, [9, 0], [30, 0, -1, 0, 0, 1, 3, 2005001]), (23, [5, 2], [0, 1, -1]), (23, [5, 2], [0, -1, 1]), (23, [7, 3], [0, 1, -1]), (23, [7, 3], [0, -1, 1]), (20, [0, 0], [30, 0, 1, 1, 15, -1, 1, 11]), (20, [0], [50, 3, 0, 12, 11, 15, 2, 21, 4, 7, 1, 3, 2, 0, 12, 0, 1, 0, 3, 2, 0, 11, 4, 3, 2, 0, 15, 0, 8, 3, 7, 1, 3, 2, 0, 12, 0, 0, 0, 7, 4, 3, 2, 0, 15, 0, 1, 2, 0, 11]), (20, [5, 0], [30, 0, 1, 0, 0, -1, 1, 11]), (20, [0, 5], [50, 3, 0, 8, 12, 11, 3, 7, 0, 2, 0, 1, 2, 0, 8, 3, 7, 1, 3, 2, 0, 12, 0, 0, 0, 6, 4, 2, 1, 1, 0, 1, 2, 0, 11]), (20, [0, 6], [50, 2, 0, 8, 11, 3, 7, 0, 2, 0, 1, 2, 0, 8, 0, 6, 4, 2, 1, 1, 0, 1, 2, 0, 11]), (20, [0, 8], [31, 1, -1, -1, 1, 8, 0, -1, 0, 0]), (20, [0, 4], [50, 2, 1, 8, 5, 2, 3, 7, 0, 2, 0, 1, 2, 0, 8, 3, 6, 0, 2, 1, 1, 0, -1, 0, 10, 3, 0, 2, 4, 3, 2, 0, 5, 0, 1, 0, 47]), (20, [1, 0], [50, 1, 1, 1005, 1002, 0, 6, 4, 2, 1, 0, 0, 1, 3, 1, 2, 4, 3, 2, 1, 5, 0, 2]), (20, [0], [60, 1, 3, 199, 5, 2, 3, 4]), (20, [0, 4, 8], [60, 2, 1, 240, 5, 8, 2]), (20, [0, 8, 1, 7], [60, 9, 2, 1010, 10, 11, 12, 13, 14, 15, 8, 9, 5, 1, 2])], [], [(0, 0, 2000, [])], [(20, [1, 0], [50, 1, 1, 1005, 1002, 0, 6, 4, 2, 1, 0, 0, 1, 3, 1, 2, 4, 3, 2, 1, 5, 0, 2]), (20, [0, 0], [30, 0, 1, 1, 15, -1, 1, 11]), (20, [0], [50, 3, 0, 12, 11, 15, 2, 21, 4, 7, 1, 3, 2, 0, 12, 0, 1, 0, 3, 2, 0, 11, 4, 3, 2, 0, 15, 0, 8, 3, 7, 1, 3, 2, 0, 12, 0, 0, 0, 7, 4, 3, 2, 0, 15, 0, 1, 2, 0, 11]), (20, [2, 0], [30, 0, 1, 0, 0, -1, 1, 11]), (20, [0, 2], [50, 3, 0, 8, 12, 11, 3, 7, 0, 2, 0, 1, 2, 0, 8, 3, 7, 1, 3, 2, 0, 12, 0, 0, 0, 6, 4, 2, 1, 1, 0, 1, 2, 0, 11]), (20, [0, 8], [31, 1, -1, -1, 1, 8, 0, -1, 0, 0]), (20, [0], [60, 1, 3, 199, 5, 2, 3, 4]), (20, [0, 8], [60, 2, 1, 242, 5, 8, 2]), (20, [0, 8, 9, 1, 3], [60, 9, 2, 1012, 10, 11, 12, 13, 14, 15, 8, 9, 5, 1, 2]), (24, [0, 0], []), (24, [1, 1], []), (20, [13, 0], [30, 2000, 1, 0, 0, 1, 1, 11]), (20, [13, 0], [30, -2000, -1, 0, 0, -1, 1, 11])], [], [])
theorem oo_Mo_edgeItem_5 {kA : Nat → ClassId} : or_ok PRD kA GG o_Mo_edgeItem_5 := by
  refine or_mk fun A ta ws vs hD hth hl => ?_
  intro t0 r0 t1 k1 t2 k2 t3 k3 t4 k4 t5 k5 t6 k6 t7 k7 t8 k8 t9 k9 t10 k10 t11 k11 t12 k12 f0 f2 f4 f5 f6 f7 f8 f9 f10 f11 f12 f13 f14 f15 f16 f17 f18 f19 f20 f21
  replace f0 := shm_142 f0
  replace f2 := shm_731 f2
  replace f4 := shm_293 f4
  replace f5 := shm_121 f5
  replace f6 := shm_122 f6
  replace f7 := shm_7 f7
  replace f8 := shm_22 f8
  replace f9 := shm_7 f9
  replace f10 := shm_22 f10
  replace f11 := shm_1437 f11
  replace f12 := shm_1438 f12
  replace f13 := shm_1431 f13
  replace f14 := shm_1722 f14
  replace f15 := shm_1726 f15
  replace f16 := shm_2117 f16
  replace f17 := shm_2118 f17
  replace f18 := shm_1009 f18
  replace f19 := shm_980 f19
  replace f20 := shm_2119 f20
  replace f21 := shm_2120 f21
  have g4 : v_iv (n_v vs 10) = w_fi ws (n_v vs 0) 8 := congrArg v_iv f4
  have kz_0_8 := fdq_34 hD hth r0
  have kz_0_9 := fdq_44 hD hth r0
  have kz_0_10 := fdq_43 hD hth r0
  have kz_0_11 := fdq_237 hD hth r0
  have kz_0_12 := fdq_187 hD hth r0
  have kz_0_13 := fdq_238 hD hth r0
  have kz_0_14 := fdq_188 hD hth r0
  have kz_0_15 := fdq_239 hD hth r0
  obtain ⟨x, ex, hx⟩ := iv_ex (ta := ta) (lo := 0) (hi := 2000) (z := 2000 + ((-1) * w_fi ws (n_v vs 0) 11 + 0)) (by omega) (by omega) (by omega) (by omega)
  have ex2 : v_iv (Value.int x) = 2000 + ((-1) * w_fi ws (n_v vs 0) 11 + 0) := ex
  have ex3 : 0 ≤ v_iv (Value.int x) ∧ v_iv (Value.int x) ≤ 2000 := tv_rng hx
  have e_0 : n_v (vs ++ [Value.int x]) 0 = n_v vs 0 := n_v_old (by rw [hl]; decide)
  have e_1 : n_v (vs ++ [Value.int x]) 1 = n_v vs 1 := n_v_old (by rw [hl]; decide)
  have e_2 : n_v (vs ++ [Value.int x]) 2 = n_v vs 2 := n_v_old (by rw [hl]; decide)
  have e_3 : n_v (vs ++ [Value.int x]) 3 = n_v vs 3 := n_v_old (by rw [hl]; decide)
  have e_8 : n_v (vs ++ [Value.int x]) 8 = n_v vs 8 := n_v_old (by rw [hl]; decide)
  have e_9 : n_v (vs ++ [Value.int x]) 9 = n_v vs 9 := n_v_old (by rw [hl]; decide)
  have e_13 : n_v (vs ++ [Value.int x]) 13 = Value.int x := n_v_new hl
  have nf0 : fc_1 PRD (20, [1, 0], [50, 1, 1, 1005, 1002, 0, 6, 4, 2, 1, 0, 0, 1, 3, 1, 2, 4, 3, 2, 1, 5, 0, 2]) ws (vs ++ [Value.int x]) := by
    refine ⟨nf_inA hl rfl, sgq_1009 ?_⟩
    · show (v_iv (n_v (vs ++ [Value.int x]) 1) + 1) ≤ w_ei ws (w_ar ws (n_v (vs ++ [Value.int x]) 0) 2) ((w_fi ws (n_v (vs ++ [Value.int x]) 0) 5 + 2))
      simp only [e_0, e_1]
      exact vc_Mo_edgeItem_5_0 (v_iv (n_v vs 1)) (w_ei ws (w_ar ws (n_v vs 0) 2)) (w_fi ws (n_v vs 0) 5) k1 f18
  have nf1 : fc_1 PRD (20, [0, 0], [30, 0, 1, 1, 15, -1, 1, 11]) ws (vs ++ [Value.int x]) := by
    refine ⟨nf_inA hl rfl, sgq_1437 ?_⟩
    · show 1 * w_fi ws (n_v (vs ++ [Value.int x]) 0) 15 + ((-1) * w_fi ws (n_v (vs ++ [Value.int x]) 0) 11 + 0) ≤ 0
      rw [e_0]
      exact vc_Mo_edgeItem_5_1 (w_fi ws (n_v vs 0) 5) (w_fi ws (n_v vs 0) 15) (w_fi ws (n_v vs 0) 11) f11 kz_0_11 kz_0_15
  have nf2 : fc_1 PRD (20, [0], [50, 3, 0, 12, 11, 15, 2, 21, 4, 7, 1, 3, 2, 0, 12, 0, 1, 0, 3, 2, 0, 11, 4, 3, 2, 0, 15, 0, 8, 3, 7, 1, 3, 2, 0, 12, 0, 0, 0, 7, 4, 3, 2, 0, 15, 0, 1, 2, 0, 11]) ws (vs ++ [Value.int x]) := by
    refine ⟨nf_inA hl rfl, sgq_1438 ?_⟩
    · show ((w_fi ws (n_v (vs ++ [Value.int x]) 0) 12 = 1) → (w_fi ws (n_v (vs ++ [Value.int x]) 0) 11 ≤ (w_fi ws (n_v (vs ++ [Value.int x]) 0) 15 + 8))) ∧ ((w_fi ws (n_v (vs ++ [Value.int x]) 0) 12 = 0) ∨ ((w_fi ws (n_v (vs ++ [Value.int x]) 0) 15 + 1) ≤ w_fi ws (n_v (vs ++ [Value.int x]) 0) 11))
      rw [e_0]
      exact vc_Mo_edgeItem_5_2 (w_fi ws (n_v vs 0) 12) (w_fi ws (n_v vs 0) 5) (w_fi ws (n_v vs 0) 15) (w_fi ws (n_v vs 0) 11) f12 kz_0_11 kz_0_12 kz_0_15
  have nf3 : fc_1 PRD (20, [2, 0], [30, 0, 1, 0, 0, -1, 1, 11]) ws (vs ++ [Value.int x]) := by
    refine ⟨nf_inA hl rfl, sgq_1431 ?_⟩
    · show 1 * v_iv (n_v (vs ++ [Value.int x]) 2) + ((-1) * w_fi ws (n_v (vs ++ [Value.int x]) 0) 11 + 0) ≤ 0
      simp only [e_0, e_2]
      exact vc_Mo_edgeItem_5_3 (v_iv (n_v vs 2)) (v_iv (n_v vs 5)) (w_fi ws (n_v vs 0) 5) (w_fi ws (n_v vs 0) 11) (v_iv (Value.int x)) k2 k5 f7 f8 f13 kz_0_11 ex2
  have nf4 : fc_1 PRD (20, [0, 2], [50, 3, 0, 8, 12, 11, 3, 7, 0, 2, 0, 1, 2, 0, 8, 3, 7, 1, 3, 2, 0, 12, 0, 0, 0, 6, 4, 2, 1, 1, 0, 1, 2, 0, 11]) ws (vs ++ [Value.int x]) := by
    refine ⟨nf_inA hl rfl, sgq_1722 ?_⟩
    · show (1 ≤ w_fi ws (n_v (vs ++ [Value.int x]) 0) 8) ∨ ((w_fi ws (n_v (vs ++ [Value.int x]) 0) 12 = 0) ∨ ((v_iv (n_v (vs ++ [Value.int x]) 2) + 1) ≤ w_fi ws (n_v (vs ++ [Value.int x]) 0) 11))
      simp only [e_0, e_2]
      exact vc_Mo_edgeItem_5_4 (v_iv (n_v vs 2)) (v_iv (n_v vs 4)) (v_iv (n_v vs 5)) (v_iv (n_v vs 6)) (v_iv (n_v vs 8)) (v_iv (n_v vs 10)) (w_fi ws (n_v vs 0) 12) (w_fi ws (n_v vs 0) 8) (w_ei ws (w_ar ws (n_v vs 0) 2)) (w_fi ws (n_v vs 0) 5) (w_fi ws (n_v vs 0) 11) (v_iv (Value.int x)) k2 k4 k5 k6 k8 k10 g4 f7 f8 f13 f14 f15 f16 f17 kz_0_8 kz_0_11 kz_0_12 ex2
  have nf5 : fc_1 PRD (20, [0, 8], [31, 1, -1, -1, 1, 8, 0, -1, 0, 0]) ws (vs ++ [Value.int x]) := by
    refine ⟨nf_inA hl rfl, sgq_2117 ?_⟩
    · show ((-1) * w_fi ws (n_v (vs ++ [Value.int x]) 0) 8 + 0 ≤ (-1)) ∨ ((-1) * v_iv (n_v (vs ++ [Value.int x]) 8) + 0 ≤ 0)
      simp only [e_0, e_8]
      exact vc_Mo_edgeItem_5_5 (v_iv (n_v vs 8)) (w_fi ws (n_v vs 0) 8) (w_fi ws (n_v vs 0) 5) k8 f16 kz_0_8
  have nf6 : fc_1 PRD (20, [0], [60, 1, 3, 199, 5, 2, 3, 4]) ws (vs ++ [Value.int x]) := by
    refine ⟨nf_inA hl rfl, sgq_980 ?_⟩
    · show RWS (w_fi ws (n_v (vs ++ [Value.int x]) 0) 5) (w_ei ws (w_ar ws (n_v (vs ++ [Value.int x]) 0) 2)) (w_ei ws (w_ar ws (n_v (vs ++ [Value.int x]) 0) 3)) (w_ei ws (w_ar ws (n_v (vs ++ [Value.int x]) 0) 4))
      rw [e_0]
      exact vc_Mo_edgeItem_5_6 (w_ei ws (w_ar ws (n_v vs 0) 2)) (w_fi ws (n_v vs 0) 5) (w_ei ws (w_ar ws (n_v vs 0) 3)) (w_ei ws (w_ar ws (n_v vs 0) 4)) f19
  have nf7 : fc_1 PRD (20, [0, 8], [60, 2, 1, 242, 5, 8, 2]) ws (vs ++ [Value.int x]) := by
    refine ⟨nf_inA hl rfl, sgq_2152 ?_⟩
    · show EDI (w_fi ws (n_v (vs ++ [Value.int x]) 0) 5) (w_fi ws (n_v (vs ++ [Value.int x]) 0) 8) (w_ei ws (w_ar ws (n_v (vs ++ [Value.int x]) 0) 2)) (v_iv (n_v (vs ++ [Value.int x]) 8))
      simp only [e_0, e_8]
      exact vc_Mo_edgeItem_5_7 (v_iv (n_v vs 4)) (v_iv (n_v vs 8)) (w_fi ws (n_v vs 0) 8) (w_ei ws (w_ar ws (n_v vs 0) 2)) (w_fi ws (n_v vs 0) 5) k4 k8 f20 kz_0_8
  have nf8 : fc_1 PRD (20, [0, 8, 9, 1, 3], [60, 9, 2, 1012, 10, 11, 12, 13, 14, 15, 8, 9, 5, 1, 2]) ws (vs ++ [Value.int x]) := by
    refine ⟨nf_inA hl rfl, sgq_2153 ?_⟩
    · show zOSL (w_fi ws (n_v (vs ++ [Value.int x]) 0) 10) (w_fi ws (n_v (vs ++ [Value.int x]) 0) 11) (w_fi ws (n_v (vs ++ [Value.int x]) 0) 12) (w_fi ws (n_v (vs ++ [Value.int x]) 0) 13) (w_fi ws (n_v (vs ++ [Value.int x]) 0) 14) (w_fi ws (n_v (vs ++ [Value.int x]) 0) 15) (w_fi ws (n_v (vs ++ [Value.int x]) 0) 8) (w_fi ws (n_v (vs ++ [Value.int x]) 0) 9) (w_fi ws (n_v (vs ++ [Value.int x]) 0) 5) (w_ei ws (w_ar ws (n_v (vs ++ [Value.int x]) 0) 1)) (w_ei ws (w_ar ws (n_v (vs ++ [Value.int x]) 0) 2)) (v_iv (n_v (vs ++ [Value.int x]) 8)) (v_iv (n_v (vs ++ [Value.int x]) 9)) (v_iv (n_v (vs ++ [Value.int x]) 1)) (v_iv (n_v (vs ++ [Value.int x]) 3))
      simp only [e_0, e_1, e_3, e_8, e_9]
      exact vc_Mo_edgeItem_5_8 (v_iv (n_v vs 1)) (v_iv (n_v vs 2)) (v_iv (n_v vs 3)) (v_iv (n_v vs 5)) (v_iv (n_v vs 7)) (v_iv (n_v vs 8)) (v_iv (n_v vs 9)) (v_iv (n_v vs 10)) (v_iv (n_v vs 11)) (v_iv (n_v vs 12)) (w_fi ws (n_v vs 0) 12) (w_fi ws (n_v vs 0) 8) (w_fi ws (n_v vs 0) 14) (w_ei ws (w_ar ws (n_v vs 0) 2)) (w_fi ws (n_v vs 0) 5) (w_fi ws (n_v vs 0) 15) (w_fi ws (n_v vs 0) 11) (w_ei ws (w_ar ws (n_v vs 0) 1)) (w_fi ws (n_v vs 0) 10) (w_fi ws (n_v vs 0) 13) (w_fi ws (n_v vs 0) 9) k1 k2 k3 k5 k7 k8 k9 k10 k11 k12 f0 f2 g4 f5 f6 f7 f8 f9 f10 f21 kz_0_8 kz_0_9 kz_0_10 kz_0_11 kz_0_12 kz_0_13 kz_0_14 kz_0_15
  have nf9 : fc_1 PRD (24, [0, 0], []) ws (vs ++ [Value.int x]) := by
    refine ⟨nf_inA hl rfl, sgq_1 ?_⟩
    · show n_v (vs ++ [Value.int x]) 0 = n_v (vs ++ [Value.int x]) 0
      first | rfl | simp only [e_0]
  have nf10 : fc_1 PRD (24, [1, 1], []) ws (vs ++ [Value.int x]) := by
    refine ⟨nf_inA hl rfl, sgq_1 ?_⟩
    · show n_v (vs ++ [Value.int x]) 1 = n_v (vs ++ [Value.int x]) 1
      first | rfl | simp only [e_1]
  have nf11 : fc_1 PRD (20, [13, 0], [30, 2000, 1, 0, 0, 1, 1, 11]) ws (vs ++ [Value.int x]) := by
    refine ⟨nf_inA hl rfl, sgq_2007 ?_⟩
    · show 1 * v_iv (n_v (vs ++ [Value.int x]) 13) + (1 * w_fi ws (n_v (vs ++ [Value.int x]) 0) 11 + 0) ≤ 2000
      simp only [e_0, e_13]
      exact vc_Mo_edgeItem_5_11 (w_fi ws (n_v vs 0) 5) (w_fi ws (n_v vs 0) 11) (v_iv (Value.int x)) kz_0_11 ex2
  have nf12 : fc_1 PRD (20, [13, 0], [30, -2000, -1, 0, 0, -1, 1, 11]) ws (vs ++ [Value.int x]) := by
    refine ⟨nf_inA hl rfl, sgq_2008 ?_⟩
    · show (-1) * v_iv (n_v (vs ++ [Value.int x]) 13) + ((-1) * w_fi ws (n_v (vs ++ [Value.int x]) 0) 11 + 0) ≤ (-2000)
      simp only [e_0, e_13]
      exact vc_Mo_edgeItem_5_12 (w_fi ws (n_v vs 0) 5) (w_fi ws (n_v vs 0) 11) (v_iv (Value.int x)) kz_0_11 ex2
  exact ⟨(fun _ h => (by cases h)), [Value.int x], ag_one hx, List.forall_mem_cons.mpr ⟨⟨show (20 : Nat) < 100 from by decide, nf0⟩, List.forall_mem_cons.mpr ⟨⟨show (20 : Nat) < 100 from by decide, nf1⟩, List.forall_mem_cons.mpr ⟨⟨show (20 : Nat) < 100 from by decide, nf2⟩, List.forall_mem_cons.mpr ⟨⟨show (20 : Nat) < 100 from by decide, nf3⟩, List.forall_mem_cons.mpr ⟨⟨show (20 : Nat) < 100 from by decide, nf4⟩, List.forall_mem_cons.mpr ⟨⟨show (20 : Nat) < 100 from by decide, nf5⟩, List.forall_mem_cons.mpr ⟨⟨show (20 : Nat) < 100 from by decide, nf6⟩, List.forall_mem_cons.mpr ⟨⟨show (20 : Nat) < 100 from by decide, nf7⟩, List.forall_mem_cons.mpr ⟨⟨show (20 : Nat) < 100 from by decide, nf8⟩, List.forall_mem_cons.mpr ⟨⟨show (24 : Nat) < 100 from by decide, nf9⟩, List.forall_mem_cons.mpr ⟨⟨show (24 : Nat) < 100 from by decide, nf10⟩, List.forall_mem_cons.mpr ⟨⟨show (20 : Nat) < 100 from by decide, nf11⟩, List.forall_mem_cons.mpr ⟨⟨show (20 : Nat) < 100 from by decide, nf12⟩, (fun _ h => (by cases h))⟩⟩⟩⟩⟩⟩⟩⟩⟩⟩⟩⟩⟩, (fun _ h => (by cases h))⟩
set_option maxHeartbeats 4000000 in
theorem vc_Mo_edgeItem_6_0 (x2 : Int) (r_0 : Int) (gx : Int) (k2 : 0 ≤ x2 ∧ x2 ≤ 2000) (ex2 : gx = x2) : 1 * gx + ((-1) * x2 + 0) ≤ 0 := by
  first
    | omega
    | (have q1 := (hE_0_2_1 (r_0 + 2) (by omega)).2 (by omega)
       have q2 := (hE_0_2_2 (r_0 + 2) (by omega)).2 (by omega)
       omega)
    | (have q1 := (hE_0_2_1 (r_0 + 1) (by omega)).2 (by omega)
       have q2 := (hE_0_2_2 (r_0 + 1) (by omega)).2 (by omega)
       omega)
    | (have q1 := (hE_0_2_1 (r_0 + 2) (by omega)).2 (by omega)
       omega)
    | (have q1 := (hE_0_2_1 (r_0 + 1) (by omega)).2 (by omega)
       omega)
    | (have q1 := (hE_0_2_1 (r_0 + 2) (by omega)).2 (by omega)
       have q2 := (hE_0_2_2 (r_0 + 2) (by omega)).2 (by omega)
       have q3 := (hE_0_2_3 (r_0 + 2) (by omega)).1 (by omega)
       omega)
    | (have q1 := (hE_0_2_1 (r_0 + 2) (by omega)).2 (by omega)
       have q2 := (hE_0_2_2 (r_0 + 2) (by omega)).2 (by omega)
       have q3 := (hE_0_2_3 (r_0 + 2) (by omega)).2 (by omega)
       omega)
set_option maxHeartbeats 4000000 in
theorem vc_Mo_edgeItem_6_1 (x2 : Int) (r_0 : Int) (gx : Int) (k2 : 0 ≤ x2 ∧ x2 ≤ 2000) (ex2 : gx = x2) : (-1) * gx + (1 * x2 + 0) ≤ 0 := by
  first
    | omega
    | (have q1 := (hE_0_2_1 (r_0 + 2) (by omega)).2 (by omega)
       have q2 := (hE_0_2_2 (r_0 + 2) (by omega)).2 (by omega)
       omega)
    | (have q1 := (hE_0_2_1 (r_0 + 1) (by omega)).2 (by omega)
       have q2 := (hE_0_2_2 (r_0 + 1) (by omega)).2 (by omega)
       omega)
    | (have q1 := (hE_0_2_1 (r_0 + 2) (by omega)).2 (by omega)
       omega)
    | (have q1 := (hE_0_2_1 (r_0 + 1) (by omega)).2 (by omega)
       omega)
    | (have q1 := (hE_0_2_1 (r_0 + 2) (by omega)).2 (by omega)
       have q2 := (hE_0_2_2 (r_0 + 2) (by omega)).2 (by omega)
       have q3 := (hE_0_2_3 (r_0 + 2) (by omega)).1 (by omega)
       omega)
    | (have q1 := (hE_0_2_1 (r_0 + 2) (by omega)).2 (by omega)
       have q2 := (hE_0_2_2 (r_0 + 2) (by omega)).2 (by omega)
       have q3 := (hE_0_2_3 (r_0 + 2) (by omega)).2 (by omega)
       omega)
set_option maxHeartbeats 4000000 in
theorem vc_Mo_edgeItem_6_2 (x7 : Int) (r_0 : Int) (gy : Int) (k7 : 0 ≤ x7 ∧ x7 ≤ 48) (ey2 : gy = x7) : 1 * gy + ((-1) * x7 + 0) ≤ 0 := by
  first
    | omega
    | (have q1 := (hE_0_2_1 (r_0 + 2) (by omega)).2 (by omega)
       have q2 := (hE_0_2_2 (r_0 + 2) (by omega)).2 (by omega)
       omega)
    | (have q1 := (hE_0_2_1 (r_0 + 1) (by omega)).2 (by omega)
       have q2 := (hE_0_2_2 (r_0 + 1) (by omega)).2 (by omega)
       omega)
    | (have q1 := (hE_0_2_1 (r_0 + 2) (by omega)).2 (by omega)
       omega)
    | (have q1 := (hE_0_2_1 (r_0 + 1) (by omega)).2 (by omega)
       omega)
    | (have q1 := (hE_0_2_1 (r_0 + 2) (by omega)).2 (by omega)
       have q2 := (hE_0_2_2 (r_0 + 2) (by omega)).2 (by omega)
       have q3 := (hE_0_2_3 (r_0 + 2) (by omega)).1 (by omega)
       omega)
    | (have q1 := (hE_0_2_1 (r_0 + 2) (by omega)).2 (by omega)
       have q2 := (hE_0_2_2 (r_0 + 2) (by omega)).2 (by omega)
       have q3 := (hE_0_2_3 (r_0 + 2) (by omega)).2 (by omega)
       omega)
set_option maxHeartbeats 4000000 in
theorem vc_Mo_edgeItem_6_3 (x7 : Int) (r_0 : Int) (gy : Int) (k7 : 0 ≤ x7 ∧ x7 ≤ 48) (ey2 : gy = x7) : (-1) * gy + (1 * x7 + 0) ≤ 0 := by
  first
    | omega
    | (have q1 := (hE_0_2_1 (r_0 + 2) (by omega)).2 (by omega)
       have q2 := (hE_0_2_2 (r_0 + 2) (by omega)).2 (by omega)
       omega)
    | (have q1 := (hE_0_2_1 (r_0 + 1) (by omega)).2 (by omega)
       have q2 := (hE_0_2_2 (r_0 + 1) (by omega)).2 (by omega)
       omega)
    | (have q1 := (hE_0_2_1 (r_0 + 2) (by omega)).2 (by omega)
       omega)
    | (have q1 := (hE_0_2_1 (r_0 + 1) (by omega)).2 (by omega)
       omega)
    | (have q1 := (hE_0_2_1 (r_0 + 2) (by omega)).2 (by omega)
       have q2 := (hE_0_2_2 (r_0 + 2) (by omega)).2 (by omega)
       have q3 := (hE_0_2_3 (r_0 + 2) (by omega)).1 (by omega)
       omega)
    | (have q1 := (hE_0_2_1 (r_0 + 2) (by omega)).2 (by omega)
       have q2 := (hE_0_2_2 (r_0 + 2) (by omega)).2 (by omega)
       have q3 := (hE_0_2_3 (r_0 + 2) (by omega)).2 (by omega)
       omega)
set_option maxHeartbeats 4000000 in
theorem vc_Mo_edgeItem_6_4 (x1 : Int) (x5 : Int) (r_0 : Int) (gu : Int) (k1 : 0 ≤ x1 ∧ x1 ≤ 7) (k5 : 0 ≤ x5 ∧ x5 ≤ 7) (d0 : x5 + (-4294967296) ≤ x1 ∧ x1 ≤ x5 + 0) (d1 : x1 + (-4294967296) ≤ x5 ∧ x5 ≤ x1 + 0) (eu2 : gu = x1) : 1 * gu + ((-1) * x1 + 0) ≤ 0 := by
  first
    | omega
    | (have q1 := (hE_0_2_1 (r_0 + 2) (by omega)).2 (by omega)
       have q2 := (hE_0_2_2 (r_0 + 2) (by omega)).2 (by omega)
       omega)
    | (have q1 := (hE_0_2_1 (r_0 + 1) (by omega)).2 (by omega)
       have q2 := (hE_0_2_2 (r_0 + 1) (by omega)).2 (by omega)
       omega)
    | (have q1 := (hE_0_2_1 (r_0 + 2) (by omega)).2 (by omega)
       omega)
    | (have q1 := (hE_0_2_1 (r_0 + 1) (by omega)).2 (by omega)
       omega)
    | (have q1 := (hE_0_2_1 (r_0 + 2) (by omega)).2 (by omega)
       have q2 := (hE_0_2_2 (r_0 + 2) (by omega)).2 (by omega)
       have q3 := (hE_0_2_3 (r_0 + 2) (by omega)).1 (by omega)
       omega)
    | (have q1 := (hE_0_2_1 (r_0 + 2) (by omega)).2 (by omega)
       have q2 := (hE_0_2_2 (r_0 + 2) (by omega)).2 (by omega)
       have q3 := (hE_0_2_3 (r_0 + 2) (by omega)).2 (by omega)
       omega)
set_option maxHeartbeats 4000000 in
theorem vc_Mo_edgeItem_6_5 (x1 : Int) (x5 : Int) (r_0 : Int) (gu : Int) (k1 : 0 ≤ x1 ∧ x1 ≤ 7) (k5 : 0 ≤ x5 ∧ x5 ≤ 7) (d0 : x5 + (-4294967296) ≤ x1 ∧ x1 ≤ x5 + 0) (d1 : x1 + (-4294967296) ≤ x5 ∧ x5 ≤ x1 + 0) (eu2 : gu = x1) : (-1) * gu + (1 * x1 + 0) ≤ 0 := by
  first
    | omega
    | (have q1 := (hE_0_2_1 (r_0 + 2) (by omega)).2 (by omega)
       have q2 := (hE_0_2_2 (r_0 + 2) (by omega)).2 (by omega)
       omega)
    | (have q1 := (hE_0_2_1 (r_0 + 1) (by omega)).2 (by omega)
       have q2 := (hE_0_2_2 (r_0 + 1) (by omega)).2 (by omega)
       omega)
    | (have q1 := (hE_0_2_1 (r_0 + 2) (by omega)).2 (by omega)
       omega)
    | (have q1 := (hE_0_2_1 (r_0 + 1) (by omega)).2 (by omega)
       omega)
    | (have q1 := (hE_0_2_1 (r_0 + 2) (by omega)).2 (by omega)
       have q2 := (hE_0_2_2 (r_0 + 2) (by omega)).2 (by omega)
       have q3 := (hE_0_2_3 (r_0 + 2) (by omega)).1 (by omega)
       omega)
    | (have q1 := (hE_0_2_1 (r_0 + 2) (by omega)).2 (by omega)
       have q2 := (hE_0_2_2 (r_0 + 2) (by omega)).2 (by omega)
       have q3 := (hE_0_2_3 (r_0 + 2) (by omega)).2 (by omega)
       omega)
set_option maxHeartbeats 4000000 in
theorem vc_Mo_edgeItem_6_6 (x3 : Int) (r_0 : Int) (gw : Int) (k3 : 0 ≤ x3 ∧ x3 ≤ 4) (ew2 : gw = x3) : 1 * gw + ((-1) * x3 + 0) ≤ 0 := by
  first
    | omega
    | (have q1 := (hE_0_2_1 (r_0 + 2) (by omega)).2 (by omega)
       have q2 := (hE_0_2_2 (r_0 + 2) (by omega)).2 (by omega)
       omega)
    | (have q1 := (hE_0_2_1 (r_0 + 1) (by omega)).2 (by omega)
       have q2 := (hE_0_2_2 (r_0 + 1) (by omega)).2 (by omega)
       omega)
    | (have q1 := (hE_0_2_1 (r_0 + 2) (by omega)).2 (by omega)
       omega)
    | (have q1 := (hE_0_2_1 (r_0 + 1) (by omega)).2 (by omega)
       omega)
    | (have q1 := (hE_0_2_1 (r_0 + 2) (by omega)).2 (by omega)
       have q2 := (hE_0_2_2 (r_0 + 2) (by omega)).2 (by omega)
       have q3 := (hE_0_2_3 (r_0 + 2) (by omega)).1 (by omega)
       omega)
    | (have q1 := (hE_0_2_1 (r_0 + 2) (by omega)).2 (by omega)
       have q2 := (hE_0_2_2 (r_0 + 2) (by omega)).2 (by omega)
       have q3 := (hE_0_2_3 (r_0 + 2) (by omega)).2 (by omega)
       omega)
set_option maxHeartbeats 4000000 in
theorem vc_Mo_edgeItem_6_7 (x3 : Int) (r_0 : Int) (gw : Int) (k3 : 0 ≤ x3 ∧ x3 ≤ 4) (ew2 : gw = x3) : (-1) * gw + (1 * x3 + 0) ≤ 0 := by
  first
    | omega
    | (have q1 := (hE_0_2_1 (r_0 + 2) (by omega)).2 (by omega)
       have q2 := (hE_0_2_2 (r_0 + 2) (by omega)).2 (by omega)
       omega)
    | (have q1 := (hE_0_2_1 (r_0 + 1) (by omega)).2 (by omega)
       have q2 := (hE_0_2_2 (r_0 + 1) (by omega)).2 (by omega)
       omega)
    | (have q1 := (hE_0_2_1 (r_0 + 2) (by omega)).2 (by omega)
       omega)
    | (have q1 := (hE_0_2_1 (r_0 + 1) (by omega)).2 (by omega)
       omega)
    | (have q1 := (hE_0_2_1 (r_0 + 2) (by omega)).2 (by omega)
       have q2 := (hE_0_2_2 (r_0 + 2) (by omega)).2 (by omega)
       have q3 := (hE_0_2_3 (r_0 + 2) (by omega)).1 (by omega)
       omega)
    | (have q1 := (hE_0_2_1 (r_0 + 2) (by omega)).2 (by omega)
       have q2 := (hE_0_2_2 (r_0 + 2) (by omega)).2 (by omega)
       have q3 := (hE_0_2_3 (r_0 + 2) (by omega)).2 (by omega)
       omega)
set_option maxHeartbeats 4000000 in
theorem vc_Mo_edgeItem_6_8 (r_0 : Int) (from_0 : Int) (pos_0 : Int) (f7 : 1 * from_0 + ((-1) * pos_0 + 0) ≤ 0) (kz_0_11 : 0 ≤ pos_0 ∧ pos_0 ≤ 2000) (kz_0_15 : 0 ≤ from_0 ∧ from_0 ≤ 2000) : 1 * from_0 + ((-1) * pos_0 + 0) ≤ 0 := by
  first
    | omega
    | (have q1 := (hE_0_2_1 (r_0 + 2) (by omega)).2 (by omega)
       have q2 := (hE_0_2_2 (r_0 + 2) (by omega)).2 (by omega)
       omega)
    | (have q1 := (hE_0_2_1 (r_0 + 1) (by omega)).2 (by omega)
       have q2 := (hE_0_2_2 (r_0 + 1) (by omega)).2 (by omega)
       omega)
    | (have q1 := (hE_0_2_1 (r_0 + 2) (by omega)).2 (by omega)
       omega)
    | (have q1 := (hE_0_2_1 (r_0 + 1) (by omega)).2 (by omega)
       omega)
    | (have q1 := (hE_0_2_1 (r_0 + 2) (by omega)).2 (by omega)
       have q2 := (hE_0_2_2 (r_0 + 2) (by omega)).2 (by omega)
       have q3 := (hE_0_2_3 (r_0 + 2) (by omega)).1 (by omega)
       omega)
    | (have q1 := (hE_0_2_1 (r_0 + 2) (by omega)).2 (by omega)
       have q2 := (hE_0_2_2 (r_0 + 2) (by omega)).2 (by omega)
       have q3 := (hE_0_2_3 (r_0 + 2) (by omega)).2 (by omega)
       omega)
set_option maxHeartbeats 4000000 in
theorem vc_Mo_edgeItem_6_9 (kind_0 : Int) (r_0 : Int) (from_0 : Int) (pos_0 : Int) (f8 : ((kind_0 = 1) → (pos_0 ≤ (from_0 + 8))) ∧ ((kind_0 = 0) ∨ ((from_0 + 1) ≤ pos_0))) (kz_0_11 : 0 ≤ pos_0 ∧ pos_0 ≤ 2000) (kz_0_12 : 0 ≤ kind_0 ∧ kind_0 ≤ 4) (kz_0_15 : 0 ≤ from_0 ∧ from_0 ≤ 2000) : ((kind_0 = 1) → (pos_0 ≤ (from_0 + 8))) ∧ ((kind_0 = 0) ∨ ((from_0 + 1) ≤ pos_0)) := by
  first
    | omega
    | (have q1 := (hE_0_2_1 (r_0 + 2) (by omega)).2 (by omega)
       have q2 := (hE_0_2_2 (r_0 + 2) (by omega)).2 (by omega)
       omega)
    | (have q1 := (hE_0_2_1 (r_0 + 1) (by omega)).2 (by omega)
       have q2 := (hE_0_2_2 (r_0 + 1) (by omega)).2 (by omega)
       omega)
    | (have q1 := (hE_0_2_1 (r_0 + 2) (by omega)).2 (by omega)
       omega)
    | (have q1 := (hE_0_2_1 (r_0 + 1) (by omega)).2 (by omega)
       omega)
    | (have q1 := (hE_0_2_1 (r_0 + 2) (by omega)).2 (by omega)
       have q2 := (hE_0_2_2 (r_0 + 2) (by omega)).2 (by omega)
       have q3 := (hE_0_2_3 (r_0 + 2) (by omega)).1 (by omega)
       omega)
    | (have q1 := (hE_0_2_1 (r_0 + 2) (by omega)).2 (by omega)
       have q2 := (hE_0_2_2 (r_0 + 2) (by omega)).2 (by omega)
       have q3 := (hE_0_2_3 (r_0 + 2) (by omega)).2 (by omega)
       omega)
set_option maxHeartbeats 4000000 in
theorem vc_Mo_edgeItem_6_10 (x2 : Int) (r_0 : Int) (pos_0 : Int) (gx : Int) (k2 : 0 ≤ x2 ∧ x2 ≤ 2000) (f9 : 1 * x2 + ((-1) * pos_0 + 0) ≤ 0) (kz_0_11 : 0 ≤ pos_0 ∧ pos_0 ≤ 2000) (ex2 : gx = x2) : 1 * gx + ((-1) * pos_0 + 0) ≤ 0 := by
  first
    | omega
    | (have q1 := (hE_0_2_1 (r_0 + 2) (by omega)).2 (by omega)
       have q2 := (hE_0_2_2 (r_0 + 2) (by omega)).2 (by omega)
       omega)
    | (have q1 := (hE_0_2_1 (r_0 + 1) (by omega)).2 (by omega)
       have q2 := (hE_0_2_2 (r_0 + 1) (by omega)).2 (by omega)
       omega)
    | (have q1 := (hE_0_2_1 (r_0 + 2) (by omega)).2 (by omega)
       omega)
    | (have q1 := (hE_0_2_1 (r_0 + 1) (by omega)).2 (by omega)
       omega)
    | (have q1 := (hE_0_2_1 (r_0 + 2) (by omega)).2 (by omega)
       have q2 := (hE_0_2_2 (r_0 + 2) (by omega)).2 (by omega)
       have q3 := (hE_0_2_3 (r_0 + 2) (by omega)).1 (by omega)
       omega)
    | (have q1 := (hE_0_2_1 (r_0 + 2) (by omega)).2 (by omega)
       have q2 := (hE_0_2_2 (r_0 + 2) (by omega)).2 (by omega)
       have q3 := (hE_0_2_3 (r_0 + 2) (by omega)).2 (by omega)
       omega)
set_option maxHeartbeats 4000000 in
theorem vc_Mo_edgeItem_6_11 (x2 : Int) (x6 : Int) (kind_0 : Int) (fault_0 : Int) (r_0 : Int) (pos_0 : Int) (gx : Int) (k2 : 0 ≤ x2 ∧ x2 ≤ 2000) (k6 : (-1) ≤ x6 ∧ x6 ≤ 23) (f9 : 1 * x2 + ((-1) * pos_0 + 0) ≤ 0) (f10 : (1 ≤ fault_0) ∨ ((kind_0 = 0) ∨ ((x2 + 1) ≤ pos_0))) (f11 : ((-1) * fault_0 + 0 ≤ (-1)) ∨ ((-1) * x6 + 0 ≤ 0)) (kz_0_8 : 0 ≤ fault_0 ∧ fault_0 ≤ 5) (kz_0_11 : 0 ≤ pos_0 ∧ pos_0 ≤ 2000) (kz_0_12 : 0 ≤ kind_0 ∧ kind_0 ≤ 4) (ex2 : gx = x2) : (1 ≤ fault_0) ∨ ((kind_0 = 0) ∨ ((gx + 1) ≤ pos_0)) := by
  first
    | omega
    | (have q1 := (hE_0_2_1 (r_0 + 2) (by omega)).2 (by omega)
       have q2 := (hE_0_2_2 (r_0 + 2) (by omega)).2 (by omega)
       omega)
    | (have q1 := (hE_0_2_1 (r_0 + 1) (by omega)).2 (by omega)
       have q2 := (hE_0_2_2 (r_0 + 1) (by omega)).2 (by omega)
       omega)
    | (have q1 := (hE_0_2_1 (r_0 + 2) (by omega)).2 (by omega)
       omega)
    | (have q1 := (hE_0_2_1 (r_0 + 1) (by omega)).2 (by omega)
       omega)
    | (have q1 := (hE_0_2_1 (r_0 + 2) (by omega)).2 (by omega)
       have q2 := (hE_0_2_2 (r_0 + 2) (by omega)).2 (by omega)
       have q3 := (hE_0_2_3 (r_0 + 2) (by omega)).1 (by omega)
       omega)
    | (have q1 := (hE_0_2_1 (r_0 + 2) (by omega)).2 (by omega)
       have q2 := (hE_0_2_2 (r_0 + 2) (by omega)).2 (by omega)
       have q3 := (hE_0_2_3 (r_0 + 2) (by omega)).2 (by omega)
       omega)
set_option maxHeartbeats 4000000 in
theorem vc_Mo_edgeItem_6_12 (x7 : Int) (fault_0 : Int) (r_0 : Int) (gy : Int) (k7 : 0 ≤ x7 ∧ x7 ≤ 48) (kz_0_8 : 0 ≤ fault_0 ∧ fault_0 ≤ 5) (ey2 : gy = x7) : (1 ≤ fault_0) ∨ (0 ≤ gy) := by
  first
    | omega
    | (have q1 := (hE_0_2_1 (r_0 + 2) (by omega)).2 (by omega)
       have q2 := (hE_0_2_2 (r_0 + 2) (by omega)).2 (by omega)
       omega)
    | (have q1 := (hE_0_2_1 (r_0 + 1) (by omega)).2 (by omega)
       have q2 := (hE_0_2_2 (r_0 + 1) (by omega)).2 (by omega)
       omega)
    | (have q1 := (hE_0_2_1 (r_0 + 2) (by omega)).2 (by omega)
       omega)
    | (have q1 := (hE_0_2_1 (r_0 + 1) (by omega)).2 (by omega)
       omega)
    | (have q1 := (hE_0_2_1 (r_0 + 2) (by omega)).2 (by omega)
       have q2 := (hE_0_2_2 (r_0 + 2) (by omega)).2 (by omega)
       have q3 := (hE_0_2_3 (r_0 + 2) (by omega)).1 (by omega)
       omega)
    | (have q1 := (hE_0_2_1 (r_0 + 2) (by omega)).2 (by omega)
       have q2 := (hE_0_2_2 (r_0 + 2) (by omega)).2 (by omega)
       have q3 := (hE_0_2_3 (r_0 + 2) (by omega)).2 (by omega)
       omega)
set_option maxHeartbeats 4000000 in
theorem vc_Mo_edgeItem_6_13 (x1 : Int) (x2 : Int) (x3 : Int) (x6 : Int) (x7 : Int) (x9 : Int) (x10 : Int) (x11 : Int) (x12 : Int) (kind_0 : Int) (fault_0 : Int) (value_0 : Int) (all_0 : Int → Int) (r_0 : Int) (from_0 : Int) (pos_0 : Int) (tape_0 : Int → Int) (limit_0 : Int) (place_0 : Int) (faultPlace_0 : Int) (gx : Int) (gy : Int) (gu : Int) (gw : Int) (k1 : 0 ≤ x1 ∧ x1 ≤ 7) (k2 : 0 ≤ x2 ∧ x2 ≤ 2000) (k3 : 0 ≤ x3 ∧ x3 ≤ 4) (k6 : (-1) ≤ x6 ∧ x6 ≤ 23) (k7 : 0 ≤ x7 ∧ x7 ≤ 48) (k9 : 45 ≤ x9 ∧ x9 ≤ 45) (k10 : 0 ≤ x10 ∧ x10 ≤ 0) (k11 : 62 ≤ x11 ∧ x11 ≤ 62) (k12 : 0 ≤ x12 ∧ x12 ≤ 0) (f0 : x12 = 0) (f2 : SGQ (fault_0) (kind_0) (value_0) (x11) (x12)) (f3 : x10 = 0) (f5 : SGQ (fault_0) (kind_0) (value_0) (x9) (x10)) (f14 : zOSL (limit_0) (pos_0) (kind_0) (place_0) (value_0) (from_0) (fault_0) (faultPlace_0) (r_0) (tape_0) (all_0) (x6) (x7) (x1) (x3)) (kz_0_8 : 0 ≤ fault_0 ∧ fault_0 ≤ 5) (kz_0_9 : 0 ≤ faultPlace_0 ∧ faultPlace_0 ≤ 2000) (kz_0_10 : 0 ≤ limit_0 ∧ limit_0 ≤ 2000) (kz_0_11 : 0 ≤ pos_0 ∧ pos_0 ≤ 2000) (kz_0_12 : 0 ≤ kind_0 ∧ kind_0 ≤ 4) (kz_0_13 : 0 ≤ place_0 ∧ place_0 ≤ 2000) (kz_0_14 : (-49) ≤ value_0 ∧ value_0 ≤ 1048575) (kz_0_15 : 0 ≤ from_0 ∧ from_0 ≤ 2000) (ex2 : gx = x2) (ey2 : gy = x7) (eu2 : gu = x1) (ew2 : gw = x3) : zOBw (limit_0) (pos_0) (kind_0) (place_0) (value_0) (from_0) (fault_0) (faultPlace_0) (r_0) (tape_0) (all_0) (gy) (gu) (gw) := by
  first | subst ex2 | skip
  first | subst ey2 | skip
  first | subst eu2 | skip
  first | subst ew2 | skip
  first
    | exact ed_ob ‹zOSL _ _ _ _ _ _ _ _ _ _ _ _ _ _ _› (fun f0 q => by
        have a := sgq_f (C := 45) (‹SGQ _ _ _ x9 _›) (by omega) f0 (by omega)
        have b := sgq_f (C := 62) (‹SGQ _ _ _ x11 _›) (by omega) f0 (by omega)
        rcases q.2 with e | e
        · exact a ⟨q.1, e⟩
        · exact b ⟨q.1, e⟩)
    | exact ed_ob ‹zOSL _ _ _ _ _ _ _ _ _ _ _ _ _ _ _› (fun _ => by omega)
    | exact ed_ob ‹zOSL _ _ _ _ _ _ _ _ _ _ _ _ _ _ _› (by omega)
def o_Mo_edgeItem_6 : or_T := (121, 15, [(0, (2, 0, 0, [165])), (1, (0, 0, 7, [])), (2, (0, 0, 2000, [])), (3, (0, 0, 4, [])), (5, (0, 0, 7, [])), (6, (0, -1, 23, [])), (7, (0, 0, 48, [])), (9, (0, 45, 45, [])), (10, (0, 0, 0, [])), (11, (0, 62, 62, [])), (12, (0, 0, 0, []))], [(8, [12], [0]), (20, [4, 11, 12], [60, 3, 0, 963, 8, 12, 14]), (8, [10], [0]), (20, [4, 9, 10], [60, 3, 0, 963, 8, 12, 14]), (20, [4, 4], [30, 0, 1, 1, 15, -1, 1, 11]), (20, [4], [50, 3, 0, 12, 11, 15, 2, 21, 4, 7, 1, 3, 2, 0, 12, 0, 1, 0, 3, 2, 0, 11, 4, 3, 2, 0, 15, 0, 8, 3, 7, 1, 3, 2, 0, 12, 0, 0, 0, 7, 4, 3, 2, 0, 15, 0, 1, 2, 0, 11]), (20, [2, 4], [30, 0, 1, 0, 0, -1, 1, 11]), (20, [4, 2], [50, 3, 0, 8, 12, 11, 3, 7, 0, 2, 0, 1, 2, 0, 8, 3, 7, 1, 3, 2, 0, 12, 0, 0, 0, 6, 4, 2, 1, 1, 0, 1, 2, 0, 11]), (20, [4, 6], [31, 1, -1, -1, 1, 8, 0, -1, 0, 0]), (20, [4, 6, 7, 5, 3], [60, 9, 2, 1012, 10, 11, 12, 13, 14, 15, 8, 9, 5, 1, 2]), (24, [0, 4], []), (24, [1, 5], [])], [], [(0, 0, 2000, []), (0, -1, 48, []), (0, 0, 7, []), (0, 0, 4, [])], [(23, [15, 2], [0, 1, -1]), (23, [15, 2], [0, -1, 1]), (23, [16, 7], [0, 1, -1]), (23, [16, 7], [0, -1, 1]), (23, [17, 5], [0, 1, -1]), (23, [17, 5], [0, -1, 1]), (23, [18, 3], [0, 1, -1]), (23, [18, 3], [0, -1, 1]), (20, [4, 4], [30, 0, 1, 1, 15, -1, 1, 11]), (20, [4], [50, 3, 0, 12, 11, 15, 2, 21, 4, 7, 1, 3, 2, 0, 12, 0, 1, 0, 3, 2, 0, 11, 4, 3, 2, 0, 15, 0, 8, 3, 7, 1, 3, 2, 0, 12, 0, 0, 0, 7, 4, 3, 2, 0, 15, 0, 1, 2, 0, 11]), (20, [15, 4], [30, 0, 1, 0, 0, -1, 1, 11]), (20, [4, 15], [50, 3, 0, 8, 12, 11, 3, 7, 0, 2, 0, 1, 2, 0, 8, 3, 7, 1, 3, 2, 0, 12, 0, 0, 0, 6, 4, 2, 1, 1, 0, 1, 2, 0, 11]), (20, [4, 16], [50, 1, 0, 8, 3, 7, 0, 2, 0, 1, 2, 0, 8, 0, 2, 0, 0, 1, 1]), (20, [4, 16, 17, 18], [60, 9, 2, 1016, 10, 11, 12, 13, 14, 15, 8, 9, 5, 1, 2])], [], [(1, 5, -4294967296, 0), (5, 1, -4294967296, 0)])
theorem oo_Mo_edgeItem_6 {kA : Nat → ClassId} : or_ok PRD kA GG o_Mo_edgeItem_6 := by
  refine or_mk fun A ta ws vs hD hth hl => ?_
  intro t0 r0 t1 k1 t2 k2 t3 k3 t5 k5 t6 k6 t7 k7 t9 k9 t10 k10 t11 k11 t12 k12 d0 d1 f0 f2 f3 f5 f7 f8 f9 f10 f11 f14 f15 f16
  replace f0 := shm_192 f0
  replace f2 := shm_731 f2
  replace f3 := shm_192 f3
  replace f5 := shm_731 f5
  replace f7 := shm_1437 f7
  replace f8 := shm_1438 f8
  replace f9 := shm_1431 f9
  replace f10 := shm_1722 f10
  replace f11 := shm_2117 f11
  replace f14 := shm_2153 f14
  replace f15 := shm_5 f15
  replace f16 := shm_5 f16
  have q4 : n_v vs 4 = n_v vs 0 := f15.symm
  have q5 : n_v vs 5 = n_v vs 1 := f16.symm
  simp only [q4, q5] at f2 f5 f7 f8 f9 f10 f11 f14
  have kz_0_8 := fdq_34 hD hth r0
  have kz_0_9 := fdq_44 hD hth r0
  have kz_0_10 := fdq_43 hD hth r0
  have kz_0_11 := fdq_237 hD hth r0
  have kz_0_12 := fdq_187 hD hth r0
  have kz_0_13 := fdq_238 hD hth r0
  have kz_0_14 := fdq_188 hD hth r0
  have kz_0_15 := fdq_239 hD hth r0
  obtain ⟨x, ex, hx⟩ := iv_ex (ta := ta) (lo := 0) (hi := 2000) (z := v_iv (n_v vs 2)) (by omega) (by omega) (by omega) (by omega)
  have ex2 : v_iv (Value.int x) = v_iv (n_v vs 2) := ex
  have ex3 : 0 ≤ v_iv (Value.int x) ∧ v_iv (Value.int x) ≤ 2000 := tv_rng hx
  obtain ⟨y, ey, hy⟩ := iv_ex (ta := ta) (lo := (-1)) (hi := 48) (z := v_iv (n_v vs 7)) (by omega) (by omega) (by omega) (by omega)
  have ey2 : v_iv (Value.int y) = v_iv (n_v vs 7) := ey
  have ey3 : (-1) ≤ v_iv (Value.int y) ∧ v_iv (Value.int y) ≤ 48 := tv_rng hy
  obtain ⟨u, eu, hu⟩ := iv_ex (ta := ta) (lo := 0) (hi := 7) (z := v_iv (n_v vs 1)) (by omega) (by omega) (by omega) (by omega)
  have eu2 : v_iv (Value.int u) = v_iv (n_v vs 1) := eu
  have eu3 : 0 ≤ v_iv (Value.int u) ∧ v_iv (Value.int u) ≤ 7 := tv_rng hu
  obtain ⟨w, ew, hw⟩ := iv_ex (ta := ta) (lo := 0) (hi := 4) (z := v_iv (n_v vs 3)) (by omega) (by omega) (by omega) (by omega)
  have ew2 : v_iv (Value.int w) = v_iv (n_v vs 3) := ew
  have ew3 : 0 ≤ v_iv (Value.int w) ∧ v_iv (Value.int w) ≤ 4 := tv_rng hw
  have e_2 : n_v (vs ++ [Value.int x, Value.int y, Value.int u, Value.int w]) 2 = n_v vs 2 := n_v_old (by rw [hl]; decide)
  have e_3 : n_v (vs ++ [Value.int x, Value.int y, Value.int u, Value.int w]) 3 = n_v vs 3 := n_v_old (by rw [hl]; decide)
  have e_4 : n_v (vs ++ [Value.int x, Value.int y, Value.int u, Value.int w]) 4 = n_v vs 4 := n_v_old (by rw [hl]; decide)
  have e_5 : n_v (vs ++ [Value.int x, Value.int y, Value.int u, Value.int w]) 5 = n_v vs 5 := n_v_old (by rw [hl]; decide)
  have e_7 : n_v (vs ++ [Value.int x, Value.int y, Value.int u, Value.int w]) 7 = n_v vs 7 := n_v_old (by rw [hl]; decide)
  have e_15 : n_v (vs ++ [Value.int x, Value.int y, Value.int u, Value.int w]) 15 = Value.int x := n_v_newk (k := 0) hl rfl
  have e_16 : n_v (vs ++ [Value.int x, Value.int y, Value.int u, Value.int w]) 16 = Value.int y := n_v_newk (k := 1) hl rfl
  have e_17 : n_v (vs ++ [Value.int x, Value.int y, Value.int u, Value.int w]) 17 = Value.int u := n_v_newk (k := 2) hl rfl
  have e_18 : n_v (vs ++ [Value.int x, Value.int y, Value.int u, Value.int w]) 18 = Value.int w := n_v_newk (k := 3) hl rfl
  have nf0 : fc_1 PRD (23, [15, 2], [0, 1, -1]) ws (vs ++ [Value.int x, Value.int y, Value.int u, Value.int w]) := by
    refine ⟨nf_inA hl rfl, sgq_7 ?_⟩
    · show 1 * v_iv (n_v (vs ++ [Value.int x, Value.int y, Value.int u, Value.int w]) 15) + ((-1) * v_iv (n_v (vs ++ [Value.int x, Value.int y, Value.int u, Value.int w]) 2) + 0) ≤ 0
      simp only [e_2, e_15]
      exact vc_Mo_edgeItem_6_0 (v_iv (n_v vs 2)) (w_fi ws (n_v vs 0) 5) (v_iv (Value.int x)) k2 ex2
  have nf1 : fc_1 PRD (23, [15, 2], [0, -1, 1]) ws (vs ++ [Value.int x, Value.int y, Value.int u, Value.int w]) := by
    refine ⟨nf_inA hl rfl, sgq_22 ?_⟩
    · show (-1) * v_iv (n_v (vs ++ [Value.int x, Value.int y, Value.int u, Value.int w]) 15) + (1 * v_iv (n_v (vs ++ [Value.int x, Value.int y, Value.int u, Value.int w]) 2) + 0) ≤ 0
      simp only [e_2, e_15]
      exact vc_Mo_edgeItem_6_1 (v_iv (n_v vs 2)) (w_fi ws (n_v vs 0) 5) (v_iv (Value.int x)) k2 ex2
  have nf2 : fc_1 PRD (23, [16, 7], [0, 1, -1]) ws (vs ++ [Value.int x, Value.int y, Value.int u, Value.int w]) := by
    refine ⟨nf_inA hl rfl, sgq_7 ?_⟩
    · show 1 * v_iv (n_v (vs ++ [Value.int x, Value.int y, Value.int u, Value.int w]) 16) + ((-1) * v_iv (n_v (vs ++ [Value.int x, Value.int y, Value.int u, Value.int w]) 7) + 0) ≤ 0
      simp only [e_7, e_16]
      exact vc_Mo_edgeItem_6_2 (v_iv (n_v vs 7)) (w_fi ws (n_v vs 0) 5) (v_iv (Value.int y)) k7 ey2
  have nf3 : fc_1 PRD (23, [16, 7], [0, -1, 1]) ws (vs ++ [Value.int x, Value.int y, Value.int u, Value.int w]) := by
    refine ⟨nf_inA hl rfl, sgq_22 ?_⟩
    · show (-1) * v_iv (n_v (vs ++ [Value.int x, Value.int y, Value.int u, Value.int w]) 16) + (1 * v_iv (n_v (vs ++ [Value.int x, Value.int y, Value.int u, Value.int w]) 7) + 0) ≤ 0
      simp only [e_7, e_16]
      exact vc_Mo_edgeItem_6_3 (v_iv (n_v vs 7)) (w_fi ws (n_v vs 0) 5) (v_iv (Value.int y)) k7 ey2
  have nf4 : fc_1 PRD (23, [17, 5], [0, 1, -1]) ws (vs ++ [Value.int x, Value.int y, Value.int u, Value.int w]) := by
    refine ⟨nf_inA hl rfl, sgq_7 ?_⟩
    · show 1 * v_iv (n_v (vs ++ [Value.int x, Value.int y, Value.int u, Value.int w]) 17) + ((-1) * v_iv (n_v (vs ++ [Value.int x, Value.int y, Value.int u, Value.int w]) 5) + 0) ≤ 0
      simp only [e_5, e_17, q5]
      exact vc_Mo_edgeItem_6_4 (v_iv (n_v vs 1)) (v_iv (n_v vs 5)) (w_fi ws (n_v vs 0) 5) (v_iv (Value.int u)) k1 k5 d0 d1 eu2
  have nf5 : fc_1 PRD (23, [17, 5], [0, -1, 1]) ws (vs ++ [Value.int x, Value.int y, Value.int u, Value.int w]) := by
    refine ⟨nf_inA hl rfl, sgq_22 ?_⟩
    · show (-1) * v_iv (n_v (vs ++ [Value.int x, Value.int y, Value.int u, Value.int w]) 17) + (1 * v_iv (n_v (vs ++ [Value.int x, Value.int y, Value.int u, Value.int w]) 5) + 0) ≤ 0
      simp only [e_5, e_17, q5]
      exact vc_Mo_edgeItem_6_5 (v_iv (n_v vs 1)) (v_iv (n_v vs 5)) (w_fi ws (n_v vs 0) 5) (v_iv (Value.int u)) k1 k5 d0 d1 eu2
  have nf6 : fc_1 PRD (23, [18, 3], [0, 1, -1]) ws (vs ++ [Value.int x, Value.int y, Value.int u, Value.int w]) := by
    refine ⟨nf_inA hl rfl, sgq_7 ?_⟩
    · show 1 * v_iv (n_v (vs ++ [Value.int x, Value.int y, Value.int u, Value.int w]) 18) + ((-1) * v_iv (n_v (vs ++ [Value.int x, Value.int y, Value.int u, Value.int w]) 3) + 0) ≤ 0
      simp only [e_3, e_18]
      exact vc_Mo_edgeItem_6_6 (v_iv (n_v vs 3)) (w_fi ws (n_v vs 0) 5) (v_iv (Value.int w)) k3 ew2
  have nf7 : fc_1 PRD (23, [18, 3], [0, -1, 1]) ws (vs ++ [Value.int x, Value.int y, Value.int u, Value.int w]) := by
    refine ⟨nf_inA hl rfl, sgq_22 ?_⟩
    · show (-1) * v_iv (n_v (vs ++ [Value.int x, Value.int y, Value.int u, Value.int w]) 18) + (1 * v_iv (n_v (vs ++ [Value.int x, Value.int y, Value.int u, Value.int w]) 3) + 0) ≤ 0
      simp only [e_3, e_18]
      exact vc_Mo_edgeItem_6_7 (v_iv (n_v vs 3)) (w_fi ws (n_v vs 0) 5) (v_iv (Value.int w)) k3 ew2
  have nf8 : fc_1 PRD (20, [4, 4], [30, 0, 1, 1, 15, -1, 1, 11]) ws (vs ++ [Value.int x, Value.int y, Value.int u, Value.int w]) := by
    refine ⟨nf_inA hl rfl, sgq_1437 ?_⟩
    · show 1 * w_fi ws (n_v (vs ++ [Value.int x, Value.int y, Value.int u, Value.int w]) 4) 15 + ((-1) * w_fi ws (n_v (vs ++ [Value.int x, Value.int y, Value.int u, Value.int w]) 4) 11 + 0) ≤ 0
      simp only [e_4, q4]
      exact vc_Mo_edgeItem_6_8 (w_fi ws (n_v vs 0) 5) (w_fi ws (n_v vs 0) 15) (w_fi ws (n_v vs 0) 11) f7 kz_0_11 kz_0_15
  have nf9 : fc_1 PRD (20, [4], [50, 3, 0, 12, 11, 15, 2, 21, 4, 7, 1, 3, 2, 0, 12, 0, 1, 0, 3, 2, 0, 11, 4, 3, 2, 0, 15, 0, 8, 3, 7, 1, 3, 2, 0, 12, 0, 0, 0, 7, 4, 3, 2, 0, 15, 0, 1, 2, 0, 11]) ws (vs ++ [Value.int x, Value.int y, Value.int u, Value.int w]) := by
    refine ⟨nf_inA hl rfl, sgq_1438 ?_⟩
    · show ((w_fi ws (n_v (vs ++ [Value.int x, Value.int y, Value.int u, Value.int w]) 4) 12 = 1) → (w_fi ws (n_v (vs ++ [Value.int x, Value.int y, Value.int u, Value.int w]) 4) 11 ≤ (w_fi ws (n_v (vs ++ [Value.int x, Value.int y, Value.int u, Value.int w]) 4) 15 + 8))) ∧ ((w_fi ws (n_v (vs ++ [Value.int x, Value.int y, Value.int u, Value.int w]) 4) 12 = 0) ∨ ((w_fi ws (n_v (vs ++ [Value.int x, Value.int y, Value.int u, Value.int w]) 4) 15 + 1) ≤ w_fi ws (n_v (vs ++ [Value.int x, Value.int y, Value.int u, Value.int w]) 4) 11))
      simp only [e_4, q4]
      exact vc_Mo_edgeItem_6_9 (w_fi ws (n_v vs 0) 12) (w_fi ws (n_v vs 0) 5) (w_fi ws (n_v vs 0) 15) (w_fi ws (n_v vs 0) 11) f8 kz_0_11 kz_0_12 kz_0_15
  have nf10 : fc_1 PRD (20, [15, 4], [30, 0, 1, 0, 0, -1, 1, 11]) ws (vs ++ [Value.int x, Value.int y, Value.int u, Value.int w]) := by
    refine ⟨nf_inA hl rfl, sgq_1431 ?_⟩
    · show 1 * v_iv (n_v (vs ++ [Value.int x, Value.int y, Value.int u, Value.int w]) 15) + ((-1) * w_fi ws (n_v (vs ++ [Value.int x, Value.int y, Value.int u, Value.int w]) 4) 11 + 0) ≤ 0
      simp only [e_4, e_15, q4]
      exact vc_Mo_edgeItem_6_10 (v_iv (n_v vs 2)) (w_fi ws (n_v vs 0) 5) (w_fi ws (n_v vs 0) 11) (v_iv (Value.int x)) k2 f9 kz_0_11 ex2
  have nf11 : fc_1 PRD (20, [4, 15], [50, 3, 0, 8, 12, 11, 3, 7, 0, 2, 0, 1, 2, 0, 8, 3, 7, 1, 3, 2, 0, 12, 0, 0, 0, 6, 4, 2, 1, 1, 0, 1, 2, 0, 11]) ws (vs ++ [Value.int x, Value.int y, Value.int u, Value.int w]) := by
    refine ⟨nf_inA hl rfl, sgq_1722 ?_⟩
    · show (1 ≤ w_fi ws (n_v (vs ++ [Value.int x, Value.int y, Value.int u, Value.int w]) 4) 8) ∨ ((w_fi ws (n_v (vs ++ [Value.int x, Value.int y, Value.int u, Value.int w]) 4) 12 = 0) ∨ ((v_iv (n_v (vs ++ [Value.int x, Value.int y, Value.int u, Value.int w]) 15) + 1) ≤ w_fi ws (n_v (vs ++ [Value.int x, Value.int y, Value.int u, Value.int w]) 4) 11))
      simp only [e_4, e_15, q4]
      exact vc_Mo_edgeItem_6_11 (v_iv (n_v vs 2)) (v_iv (n_v vs 6)) (w_fi ws (n_v vs 0) 12) (w_fi ws (n_v vs 0) 8) (w_fi ws (n_v vs 0) 5) (w_fi ws (n_v vs 0) 11) (v_iv (Value.int x)) k2 k6 f9 f10 f11 kz_0_8 kz_0_11 kz_0_12 ex2
  have nf12 : fc_1 PRD (20, [4, 16], [50, 1, 0, 8, 3, 7, 0, 2, 0, 1, 2, 0, 8, 0, 2, 0, 0, 1, 1]) ws (vs ++ [Value.int x, Value.int y, Value.int u, Value.int w]) := by
    refine ⟨nf_inA hl rfl, sgq_2000 ?_⟩
    · show (1 ≤ w_fi ws (n_v (vs ++ [Value.int x, Value.int y, Value.int u, Value.int w]) 4) 8) ∨ (0 ≤ v_iv (n_v (vs ++ [Value.int x, Value.int y, Value.int u, Value.int w]) 16))
      simp only [e_4, e_16, q4]
      exact vc_Mo_edgeItem_6_12 (v_iv (n_v vs 7)) (w_fi ws (n_v vs 0) 8) (w_fi ws (n_v vs 0) 5) (v_iv (Value.int y)) k7 kz_0_8 ey2
  have nf13 : fc_1 PRD (20, [4, 16, 17, 18], [60, 9, 2, 1016, 10, 11, 12, 13, 14, 15, 8, 9, 5, 1, 2]) ws (vs ++ [Value.int x, Value.int y, Value.int u, Value.int w]) := by
    refine ⟨nf_inA hl rfl, sgq_2015 ?_⟩
    · show zOBw (w_fi ws (n_v (vs ++ [Value.int x, Value.int y, Value.int u, Value.int w]) 4) 10) (w_fi ws (n_v (vs ++ [Value.int x, Value.int y, Value.int u, Value.int w]) 4) 11) (w_fi ws (n_v (vs ++ [Value.int x, Value.int y, Value.int u, Value.int w]) 4) 12) (w_fi ws (n_v (vs ++ [Value.int x, Value.int y, Value.int u, Value.int w]) 4) 13) (w_fi ws (n_v (vs ++ [Value.int x, Value.int y, Value.int u, Value.int w]) 4) 14) (w_fi ws (n_v (vs ++ [Value.int x, Value.int y, Value.int u, Value.int w]) 4) 15) (w_fi ws (n_v (vs ++ [Value.int x, Value.int y, Value.int u, Value.int w]) 4) 8) (w_fi ws (n_v (vs ++ [Value.int x, Value.int y, Value.int u, Value.int w]) 4) 9) (w_fi ws (n_v (vs ++ [Value.int x, Value.int y, Value.int u, Value.int w]) 4) 5) (w_ei ws (w_ar ws (n_v (vs ++ [Value.int x, Value.int y, Value.int u, Value.int w]) 4) 1)) (w_ei ws (w_ar ws (n_v (vs ++ [Value.int x, Value.int y, Value.int u, Value.int w]) 4) 2)) (v_iv (n_v (vs ++ [Value.int x, Value.int y, Value.int u, Value.int w]) 16)) (v_iv (n_v (vs ++ [Value.int x, Value.int y, Value.int u, Value.int w]) 17)) (v_iv (n_v (vs ++ [Value.int x, Value.int y, Value.int u, Value.int w]) 18))
      simp only [e_4, e_16, e_17, e_18, q4]
      exact vc_Mo_edgeItem_6_13 (v_iv (n_v vs 1)) (v_iv (n_v vs 2)) (v_iv (n_v vs 3)) (v_iv (n_v vs 6)) (v_iv (n_v vs 7)) (v_iv (n_v vs 9)) (v_iv (n_v vs 10)) (v_iv (n_v vs 11)) (v_iv (n_v vs 12)) (w_fi ws (n_v vs 0) 12) (w_fi ws (n_v vs 0) 8) (w_fi ws (n_v vs 0) 14) (w_ei ws (w_ar ws (n_v vs 0) 2)) (w_fi ws (n_v vs 0) 5) (w_fi ws (n_v vs 0) 15) (w_fi ws (n_v vs 0) 11) (w_ei ws (w_ar ws (n_v vs 0) 1)) (w_fi ws (n_v vs 0) 10) (w_fi ws (n_v vs 0) 13) (w_fi ws (n_v vs 0) 9) (v_iv (Value.int x)) (v_iv (Value.int y)) (v_iv (Value.int u)) (v_iv (Value.int w)) k1 k2 k3 k6 k7 k9 k10 k11 k12 f0 f2 f3 f5 f14 kz_0_8 kz_0_9 kz_0_10 kz_0_11 kz_0_12 kz_0_13 kz_0_14 kz_0_15 ex2 ey2 eu2 ew2
  exact ⟨(fun _ h => (by cases h)), [Value.int x, Value.int y, Value.int u, Value.int w], ag_four hx hy hu hw, List.forall_mem_cons.mpr ⟨⟨show (23 : Nat) < 100 from by decide, nf0⟩, List.forall_mem_cons.mpr ⟨⟨show (23 : Nat) < 100 from by decide, nf1⟩, List.forall_mem_cons.mpr ⟨⟨show (23 : Nat) < 100 from by decide, nf2⟩, List.forall_mem_cons.mpr ⟨⟨show (23 : Nat) < 100 from by decide, nf3⟩, List.forall_mem_cons.mpr ⟨⟨show (23 : Nat) < 100 from by decide, nf4⟩, List.forall_mem_cons.mpr ⟨⟨show (23 : Nat) < 100 from by decide, nf5⟩, List.forall_mem_cons.mpr ⟨⟨show (23 : Nat) < 100 from by decide, nf6⟩, List.forall_mem_cons.mpr ⟨⟨show (23 : Nat) < 100 from by decide, nf7⟩, List.forall_mem_cons.mpr ⟨⟨show (20 : Nat) < 100 from by decide, nf8⟩, List.forall_mem_cons.mpr ⟨⟨show (20 : Nat) < 100 from by decide, nf9⟩, List.forall_mem_cons.mpr ⟨⟨show (20 : Nat) < 100 from by decide, nf10⟩, List.forall_mem_cons.mpr ⟨⟨show (20 : Nat) < 100 from by decide, nf11⟩, List.forall_mem_cons.mpr ⟨⟨show (20 : Nat) < 100 from by decide, nf12⟩, List.forall_mem_cons.mpr ⟨⟨show (20 : Nat) < 100 from by decide, nf13⟩, (fun _ h => (by cases h))⟩⟩⟩⟩⟩⟩⟩⟩⟩⟩⟩⟩⟩⟩, (fun _ h => (by cases h))⟩
set_option maxHeartbeats 4000000 in
theorem vc_Mo_edgeItem_7_0 (x14 : Int) (x19 : Int) (r_0 : Int) (k14 : 9 ≤ x14 ∧ x14 ≤ 9) (k19 : (-49) ≤ x19 ∧ x19 ≤ 1048575) (f17 : 1 * x19 + ((-1) * x14 + 0) ≤ 0) (f18 : (-1) * x19 + 0 ≤ 0) : 1 * x19 + 0 ≤ 9 := by
  first
    | omega
    | (have q1 := (hE_0_2_1 (r_0 + 2) (by omega)).2 (by omega)
       have q2 := (hE_0_2_2 (r_0 + 2) (by omega)).2 (by omega)
       omega)
    | (have q1 := (hE_0_2_1 (r_0 + 1) (by omega)).2 (by omega)
       have q2 := (hE_0_2_2 (r_0 + 1) (by omega)).2 (by omega)
       omega)
    | (have q1 := (hE_0_2_1 (r_0 + 2) (by omega)).2 (by omega)
       omega)
    | (have q1 := (hE_0_2_1 (r_0 + 1) (by omega)).2 (by omega)
       omega)
    | (have q1 := (hE_0_2_1 (r_0 + 2) (by omega)).2 (by omega)
       have q2 := (hE_0_2_2 (r_0 + 2) (by omega)).2 (by omega)
       have q3 := (hE_0_2_3 (r_0 + 2) (by omega)).1 (by omega)
       omega)
    | (have q1 := (hE_0_2_1 (r_0 + 2) (by omega)).2 (by omega)
       have q2 := (hE_0_2_2 (r_0 + 2) (by omega)).2 (by omega)
       have q3 := (hE_0_2_3 (r_0 + 2) (by omega)).2 (by omega)
       omega)
def o_Mo_edgeItem_7 : or_T := (126, 20, [(14, (0, 9, 9, [])), (19, (0, -49, 1048575, []))], [(20, [19, 14], [30, 0, 1, 0, 0, -1, 0, 0]), (20, [19], [30, 0, -1, 0, 0])], [], [], [(23, [19], [9, 1])], [], [])
theorem oo_Mo_edgeItem_7 {kA : Nat → ClassId} : or_ok PRD kA GG o_Mo_edgeItem_7 := by
  refine or_mk fun A ta ws vs hD hth hl => ?_
  intro t14 k14 t19 k19 f17 f18
  have nf0 : fc_1 PRD (23, [19], [9, 1]) ws (vs) := ⟨nf_in hl rfl, sgq_2154 (vc_Mo_edgeItem_7_0 (v_iv (n_v vs 14)) (v_iv (n_v vs 19)) (w_fi ws (n_v vs 0) 5) k14 k19 (shm_201 f17) (shm_2002 f18))⟩
  refine ⟨(fun _ h => (by cases h)), [], trivial, ?_, (fun _ h => (by cases h))⟩
  rw [List.append_nil]
  exact List.forall_mem_cons.mpr ⟨⟨show (23 : Nat) < 100 from by decide, nf0⟩, (fun _ h => (by cases h))⟩
set_option maxHeartbeats 4000000 in
theorem vc_Mo_edgeItem_8_0 (x2 : Int) (x15 : Int) (r_0 : Int) (pos_0 : Int) (k2 : 0 ≤ x2 ∧ x2 ≤ 2000) (k15 : 0 ≤ x15 ∧ x15 ≤ 2000) (f1 : 1 * x15 + ((-1) * x2 + 0) ≤ 0) (f2 : (-1) * x15 + (1 * x2 + 0) ≤ 0) (f15 : 1 * x15 + ((-1) * pos_0 + 0) ≤ 0) (kz_0_11 : 0 ≤ pos_0 ∧ pos_0 ≤ 2000) : 1 * x2 + ((-1) * pos_0 + 0) ≤ 0 := by
  first
    | omega
    | (have q1 := (hE_0_2_1 (r_0 + 2) (by omega)).2 (by omega)
       have q2 := (hE_0_2_2 (r_0 + 2) (by omega)).2 (by omega)
       omega)
    | (have q1 := (hE_0_2_1 (r_0 + 1) (by omega)).2 (by omega)
       have q2 := (hE_0_2_2 (r_0 + 1) (by omega)).2 (by omega)
       omega)
    | (have q1 := (hE_0_2_1 (r_0 + 2) (by omega)).2 (by omega)
       omega)
    | (have q1 := (hE_0_2_1 (r_0 + 1) (by omega)).2 (by omega)
       omega)
    | (have q1 := (hE_0_2_1 (r_0 + 2) (by omega)).2 (by omega)
       have q2 := (hE_0_2_2 (r_0 + 2) (by omega)).2 (by omega)
       have q3 := (hE_0_2_3 (r_0 + 2) (by omega)).1 (by omega)
       omega)
    | (have q1 := (hE_0_2_1 (r_0 + 2) (by omega)).2 (by omega)
       have q2 := (hE_0_2_2 (r_0 + 2) (by omega)).2 (by omega)
       have q3 := (hE_0_2_3 (r_0 + 2) (by omega)).2 (by omega)
       omega)
set_option maxHeartbeats 4000000 in
theorem vc_Mo_edgeItem_8_1 (x2 : Int) (x15 : Int) (x16 : Int) (r_0 : Int) (pos_0 : Int) (kind_0 : Int) (fault_0 : Int) (k2 : 0 ≤ x2 ∧ x2 ≤ 2000) (k15 : 0 ≤ x15 ∧ x15 ≤ 2000) (k16 : (-1) ≤ x16 ∧ x16 ≤ 48) (f1 : 1 * x15 + ((-1) * x2 + 0) ≤ 0) (f2 : (-1) * x15 + (1 * x2 + 0) ≤ 0) (f15 : 1 * x15 + ((-1) * pos_0 + 0) ≤ 0) (f16 : (1 ≤ fault_0) ∨ ((kind_0 = 0) ∨ ((x15 + 1) ≤ pos_0))) (f17 : (1 ≤ fault_0) ∨ (0 ≤ x16)) (kz_0_8 : 0 ≤ fault_0 ∧ fault_0 ≤ 5) (kz_0_11 : 0 ≤ pos_0 ∧ pos_0 ≤ 2000) (kz_0_12 : 0 ≤ kind_0 ∧ kind_0 ≤ 4) : (1 ≤ fault_0) ∨ ((kind_0 = 0) ∨ ((x2 + 1) ≤ pos_0)) := by
  first
    | omega
    | (have q1 := (hE_0_2_1 (r_0 + 2) (by omega)).2 (by omega)
       have q2 := (hE_0_2_2 (r_0 + 2) (by omega)).2 (by omega)
       omega)
    | (have q1 := (hE_0_2_1 (r_0 + 1) (by omega)).2 (by omega)
       have q2 := (hE_0_2_2 (r_0 + 1) (by omega)).2 (by omega)
       omega)
    | (have q1 := (hE_0_2_1 (r_0 + 2) (by omega)).2 (by omega)
       omega)
    | (have q1 := (hE_0_2_1 (r_0 + 1) (by omega)).2 (by omega)
       omega)
    | (have q1 := (hE_0_2_1 (r_0 + 2) (by omega)).2 (by omega)
       have q2 := (hE_0_2_2 (r_0 + 2) (by omega)).2 (by omega)
       have q3 := (hE_0_2_3 (r_0 + 2) (by omega)).1 (by omega)
       omega)
    | (have q1 := (hE_0_2_1 (r_0 + 2) (by omega)).2 (by omega)
       have q2 := (hE_0_2_2 (r_0 + 2) (by omega)).2 (by omega)
       have q3 := (hE_0_2_3 (r_0 + 2) (by omega)).2 (by omega)
       omega)
set_option maxHeartbeats 4000000 in
theorem vc_Mo_edgeItem_8_2 (x1 : Int) (x2 : Int) (x3 : Int) (x5 : Int) (x7 : Int) (x15 : Int) (x16 : Int) (x17 : Int) (x18 : Int) (x19 : Int) (all_0 : Int → Int) (r_0 : Int) (from_0 : Int) (pos_0 : Int) (kind_0 : Int) (fault_0 : Int) (tape_0 : Int → Int) (limit_0 : Int) (place_0 : Int) (value_0 : Int) (faultPlace_0 : Int) (k1 : 0 ≤ x1 ∧ x1 ≤ 7) (k2 : 0 ≤ x2 ∧ x2 ≤ 2000) (k3 : 0 ≤ x3 ∧ x3 ≤ 4) (k5 : 0 ≤ x5 ∧ x5 ≤ 7) (k7 : 0 ≤ x7 ∧ x7 ≤ 48) (k15 : 0 ≤ x15 ∧ x15 ≤ 2000) (k16 : (-1) ≤ x16 ∧ x16 ≤ 48) (k17 : 0 ≤ x17 ∧ x17 ≤ 7) (k18 : 0 ≤ x18 ∧ x18 ≤ 4) (k19 : (-49) ≤ x19 ∧ x19 ≤ 1048575) (d0 : x5 + (-4294967296) ≤ x1 ∧ x1 ≤ x5 + 0) (d1 : x1 + (-4294967296) ≤ x5 ∧ x5 ≤ x1 + 0) (f1 : 1 * x15 + ((-1) * x2 + 0) ≤ 0) (f2 : (-1) * x15 + (1 * x2 + 0) ≤ 0) (f3 : 1 * x16 + ((-1) * x7 + 0) ≤ 0) (f4 : (-1) * x16 + (1 * x7 + 0) ≤ 0) (f5 : 1 * x17 + ((-1) * x1 + 0) ≤ 0) (f6 : (-1) * x17 + (1 * x1 + 0) ≤ 0) (f7 : 1 * x18 + ((-1) * x3 + 0) ≤ 0) (f8 : (-1) * x18 + (1 * x3 + 0) ≤ 0) (f20 : zOFw (limit_0) (pos_0) (kind_0) (place_0) (value_0) (from_0) (fault_0) (faultPlace_0) (r_0) (tape_0) (all_0) (x16) (x19) (x17) (x18)) (kz_0_8 : 0 ≤ fault_0 ∧ fault_0 ≤ 5) (kz_0_9 : 0 ≤ faultPlace_0 ∧ faultPlace_0 ≤ 2000) (kz_0_10 : 0 ≤ limit_0 ∧ limit_0 ≤ 2000) (kz_0_11 : 0 ≤ pos_0 ∧ pos_0 ≤ 2000) (kz_0_12 : 0 ≤ kind_0 ∧ kind_0 ≤ 4) (kz_0_13 : 0 ≤ place_0 ∧ place_0 ≤ 2000) (kz_0_14 : (-49) ≤ value_0 ∧ value_0 ≤ 1048575) (kz_0_15 : 0 ≤ from_0 ∧ from_0 ≤ 2000) : zOWQ (limit_0) (pos_0) (kind_0) (place_0) (value_0) (from_0) (fault_0) (faultPlace_0) (r_0) (tape_0) (all_0) (x7) (x19) (x7) (x1) (x3) := by
  first | (have el_x15 : x15 = x2 := by omega); subst el_x15 | skip
  first | (have el_x16 : x16 = x7 := by omega); subst el_x16 | skip
  first | (have el_x17 : x17 = x1 := by omega); subst el_x17 | skip
  first | (have el_x18 : x18 = x3 := by omega); subst el_x18 | skip
  first
    | exact ed_w0 ‹zOFw _ _ _ _ _ _ _ _ _ _ _ _ _ _ _› (by omega) (by omega)
    | exact ed_w1 ‹zOWQ _ _ _ _ _ _ _ _ _ _ _ _ _ _ _ _› (by omega) (by omega) (by omega) (by omega) (by omega) (by omega) (by assumption) (by omega) (by omega) (by omega)
def o_Mo_edgeItem_8 : or_T := (129, 20, [(0, (2, 0, 0, [165])), (1, (0, 0, 7, [])), (2, (0, 0, 2000, [])), (3, (0, 0, 4, [])), (5, (0, 0, 7, [])), (7, (0, 0, 48, [])), (15, (0, 0, 2000, [])), (16, (0, -1, 48, [])), (17, (0, 0, 7, [])), (18, (0, 0, 4, [])), (19, (0, -49, 1048575, []))], [(23, [15, 2], [0, 1, -1]), (23, [15, 2], [0, -1, 1]), (23, [16, 7], [0, 1, -1]), (23, [16, 7], [0, -1, 1]), (23, [17, 5], [0, 1, -1]), (23, [17, 5], [0, -1, 1]), (23, [18, 3], [0, 1, -1]), (23, [18, 3], [0, -1, 1]), (24, [0, 4], []), (24, [1, 5], []), (20, [15, 4], [30, 0, 1, 0, 0, -1, 1, 11]), (20, [4, 15], [50, 3, 0, 8, 12, 11, 3, 7, 0, 2, 0, 1, 2, 0, 8, 3, 7, 1, 3, 2, 0, 12, 0, 0, 0, 6, 4, 2, 1, 1, 0, 1, 2, 0, 11]), (20, [4, 16], [50, 1, 0, 8, 3, 7, 0, 2, 0, 1, 2, 0, 8, 0, 2, 0, 0, 1, 1]), (20, [4, 16, 19, 17, 18], [60, 9, 2, 1014, 10, 11, 12, 13, 14, 15, 8, 9, 5, 1, 2])], [], [], [(20, [2, 4], [30, 0, 1, 0, 0, -1, 1, 11]), (20, [4, 2], [50, 3, 0, 8, 12, 11, 3, 7, 0, 2, 0, 1, 2, 0, 8, 3, 7, 1, 3, 2, 0, 12, 0, 0, 0, 6, 4, 2, 1, 1, 0, 1, 2, 0, 11]), (20, [4, 7, 19, 7, 5, 3], [60, 9, 2, 1017, 10, 11, 12, 13, 14, 15, 8, 9, 5, 1, 2])], [], [(1, 5, -4294967296, 0), (5, 1, -4294967296, 0)])
theorem oo_Mo_edgeItem_8 {kA : Nat → ClassId} : or_ok PRD kA GG o_Mo_edgeItem_8 := by
  refine or_mk fun A ta ws vs hD hth hl => ?_
  intro t0 r0 t1 k1 t2 k2 t3 k3 t5 k5 t7 k7 t15 k15 t16 k16 t17 k17 t18 k18 t19 k19 d0 d1 f1 f2 f3 f4 f5 f6 f7 f8 f11 f12 f15 f16 f17 f20
  replace f1 := shm_7 f1
  replace f2 := shm_22 f2
  replace f3 := shm_7 f3
  replace f4 := shm_22 f4
  replace f5 := shm_7 f5
  replace f6 := shm_22 f6
  replace f7 := shm_7 f7
  replace f8 := shm_22 f8
  replace f11 := shm_5 f11
  replace f12 := shm_5 f12
  replace f15 := shm_1431 f15
  replace f16 := shm_1722 f16
  replace f17 := shm_2000 f17
  replace f20 := shm_2016 f20
  have q4 : n_v vs 4 = n_v vs 0 := f11.symm
  have q5 : n_v vs 5 = n_v vs 1 := f12.symm
  simp only [q5, q4] at f5 f6 f15 f16 f17 f20
  have kz_0_8 := fdq_34 hD hth r0
  have kz_0_9 := fdq_44 hD hth r0
  have kz_0_10 := fdq_43 hD hth r0
  have kz_0_11 := fdq_237 hD hth r0
  have kz_0_12 := fdq_187 hD hth r0
  have kz_0_13 := fdq_238 hD hth r0
  have kz_0_14 := fdq_188 hD hth r0
  have kz_0_15 := fdq_239 hD hth r0
  have nf0 : fc_1 PRD (20, [2, 4], [30, 0, 1, 0, 0, -1, 1, 11]) ws (vs) := by
    refine ⟨nf_in hl rfl, sgq_1431 ?_⟩
    · show 1 * v_iv (n_v vs 2) + ((-1) * w_fi ws (n_v vs 4) 11 + 0) ≤ 0
      rw [q4]
      exact vc_Mo_edgeItem_8_0 (v_iv (n_v vs 2)) (v_iv (n_v vs 15)) (w_fi ws (n_v vs 0) 5) (w_fi ws (n_v vs 0) 11) k2 k15 f1 f2 f15 kz_0_11
  have nf1 : fc_1 PRD (20, [4, 2], [50, 3, 0, 8, 12, 11, 3, 7, 0, 2, 0, 1, 2, 0, 8, 3, 7, 1, 3, 2, 0, 12, 0, 0, 0, 6, 4, 2, 1, 1, 0, 1, 2, 0, 11]) ws (vs) := by
    refine ⟨nf_in hl rfl, sgq_1722 ?_⟩
    · show (1 ≤ w_fi ws (n_v vs 4) 8) ∨ ((w_fi ws (n_v vs 4) 12 = 0) ∨ ((v_iv (n_v vs 2) + 1) ≤ w_fi ws (n_v vs 4) 11))
      rw [q4]
      exact vc_Mo_edgeItem_8_1 (v_iv (n_v vs 2)) (v_iv (n_v vs 15)) (v_iv (n_v vs 16)) (w_fi ws (n_v vs 0) 5) (w_fi ws (n_v vs 0) 11) (w_fi ws (n_v vs 0) 12) (w_fi ws (n_v vs 0) 8) k2 k15 k16 f1 f2 f15 f16 f17 kz_0_8 kz_0_11 kz_0_12
  have nf2 : fc_1 PRD (20, [4, 7, 19, 7, 5, 3], [60, 9, 2, 1017, 10, 11, 12, 13, 14, 15, 8, 9, 5, 1, 2]) ws (vs) := by
    refine ⟨nf_in hl rfl, sgq_2155 ?_⟩
    · show zOWQ (w_fi ws (n_v vs 4) 10) (w_fi ws (n_v vs 4) 11) (w_fi ws (n_v vs 4) 12) (w_fi ws (n_v vs 4) 13) (w_fi ws (n_v vs 4) 14) (w_fi ws (n_v vs 4) 15) (w_fi ws (n_v vs 4) 8) (w_fi ws (n_v vs 4) 9) (w_fi ws (n_v vs 4) 5) (w_ei ws (w_ar ws (n_v vs 4) 1)) (w_ei ws (w_ar ws (n_v vs 4) 2)) (v_iv (n_v vs 7)) (v_iv (n_v vs 19)) (v_iv (n_v vs 7)) (v_iv (n_v vs 5)) (v_iv (n_v vs 3))
      simp only [q4, q5]
      exact vc_Mo_edgeItem_8_2 (v_iv (n_v vs 1)) (v_iv (n_v vs 2)) (v_iv (n_v vs 3)) (v_iv (n_v vs 5)) (v_iv (n_v vs 7)) (v_iv (n_v vs 15)) (v_iv (n_v vs 16)) (v_iv (n_v vs 17)) (v_iv (n_v vs 18)) (v_iv (n_v vs 19)) (w_ei ws (w_ar ws (n_v vs 0) 2)) (w_fi ws (n_v vs 0) 5) (w_fi ws (n_v vs 0) 15) (w_fi ws (n_v vs 0) 11) (w_fi ws (n_v vs 0) 12) (w_fi ws (n_v vs 0) 8) (w_ei ws (w_ar ws (n_v vs 0) 1)) (w_fi ws (n_v vs 0) 10) (w_fi ws (n_v vs 0) 13) (w_fi ws (n_v vs 0) 14) (w_fi ws (n_v vs 0) 9) k1 k2 k3 k5 k7 k15 k16 k17 k18 k19 d0 d1 f1 f2 f3 f4 f5 f6 f7 f8 f20 kz_0_8 kz_0_9 kz_0_10 kz_0_11 kz_0_12 kz_0_13 kz_0_14 kz_0_15
  refine ⟨(fun _ h => (by cases h)), [], trivial, ?_, (fun _ h => (by cases h))⟩
  rw [List.append_nil]
  exact List.forall_mem_cons.mpr ⟨⟨show (20 : Nat) < 100 from by decide, nf0⟩, List.forall_mem_cons.mpr ⟨⟨show (20 : Nat) < 100 from by decide, nf1⟩, List.forall_mem_cons.mpr ⟨⟨show (20 : Nat) < 100 from by decide, nf2⟩, (fun _ h => (by cases h))⟩⟩⟩
set_option maxHeartbeats 4000000 in
theorem vc_Mo_edgeItem_9_0 (x2 : Int) (x6 : Int) (x10 : Int) (x12 : Int) (kind_0 : Int) (fault_0 : Int) (r_0 : Int) (from_0 : Int) (pos_0 : Int) (k2 : 0 ≤ x2 ∧ x2 ≤ 2000) (k6 : (-1) ≤ x6 ∧ x6 ≤ 23) (k10 : 0 ≤ x10 ∧ x10 ≤ 0) (k12 : 1 ≤ x12 ∧ x12 ≤ 1) (f3 : (x12 = 1) → ((kind_0 = 3) ∧ (fault_0 = 0))) (f6 : (x10 = 1) → ((kind_0 = 3) ∧ (fault_0 = 0))) (f10 : ((kind_0 = 1) → (pos_0 ≤ (from_0 + 8))) ∧ ((kind_0 = 0) ∨ ((from_0 + 1) ≤ pos_0))) (f12 : (1 ≤ fault_0) ∨ ((kind_0 = 0) ∨ ((x2 + 1) ≤ pos_0))) (f13 : ((-1) * fault_0 + 0 ≤ (-1)) ∨ ((-1) * x6 + 0 ≤ 0)) (kz_0_8 : 0 ≤ fault_0 ∧ fault_0 ≤ 5) (kz_0_11 : 0 ≤ pos_0 ∧ pos_0 ≤ 2000) (kz_0_12 : 0 ≤ kind_0 ∧ kind_0 ≤ 4) (kz_0_15 : 0 ≤ from_0 ∧ from_0 ≤ 2000) : (-1) * x6 + 0 ≤ 0 := by
  first
    | omega
    | (have q1 := (hE_0_2_1 (r_0 + 2) (by omega)).2 (by omega)
       have q2 := (hE_0_2_2 (r_0 + 2) (by omega)).2 (by omega)
       omega)
    | (have q1 := (hE_0_2_1 (r_0 + 1) (by omega)).2 (by omega)
       have q2 := (hE_0_2_2 (r_0 + 1) (by omega)).2 (by omega)
       omega)
    | (have q1 := (hE_0_2_1 (r_0 + 2) (by omega)).2 (by omega)
       omega)
    | (have q1 := (hE_0_2_1 (r_0 + 1) (by omega)).2 (by omega)
       omega)
    | (have q1 := (hE_0_2_1 (r_0 + 2) (by omega)).2 (by omega)
       have q2 := (hE_0_2_2 (r_0 + 2) (by omega)).2 (by omega)
       have q3 := (hE_0_2_3 (r_0 + 2) (by omega)).1 (by omega)
       omega)
    | (have q1 := (hE_0_2_1 (r_0 + 2) (by omega)).2 (by omega)
       have q2 := (hE_0_2_2 (r_0 + 2) (by omega)).2 (by omega)
       have q3 := (hE_0_2_3 (r_0 + 2) (by omega)).2 (by omega)
       omega)
set_option maxHeartbeats 4000000 in
theorem vc_Mo_edgeItem_9_1 (x2 : Int) (x6 : Int) (x10 : Int) (x12 : Int) (kind_0 : Int) (fault_0 : Int) (r_0 : Int) (from_0 : Int) (pos_0 : Int) (k2 : 0 ≤ x2 ∧ x2 ≤ 2000) (k6 : (-1) ≤ x6 ∧ x6 ≤ 23) (k10 : 0 ≤ x10 ∧ x10 ≤ 0) (k12 : 1 ≤ x12 ∧ x12 ≤ 1) (f3 : (x12 = 1) → ((kind_0 = 3) ∧ (fault_0 = 0))) (f6 : (x10 = 1) → ((kind_0 = 3) ∧ (fault_0 = 0))) (f10 : ((kind_0 = 1) → (pos_0 ≤ (from_0 + 8))) ∧ ((kind_0 = 0) ∨ ((from_0 + 1) ≤ pos_0))) (f12 : (1 ≤ fault_0) ∨ ((kind_0 = 0) ∨ ((x2 + 1) ≤ pos_0))) (f13 : ((-1) * fault_0 + 0 ≤ (-1)) ∨ ((-1) * x6 + 0 ≤ 0)) (kz_0_8 : 0 ≤ fault_0 ∧ fault_0 ≤ 5) (kz_0_11 : 0 ≤ pos_0 ∧ pos_0 ≤ 2000) (kz_0_12 : 0 ≤ kind_0 ∧ kind_0 ≤ 4) (kz_0_15 : 0 ≤ from_0 ∧ from_0 ≤ 2000) : fault_0 = 0 := by
  first
    | omega
    | (have q1 := (hE_0_2_1 (r_0 + 2) (by omega)).2 (by omega)
       have q2 := (hE_0_2_2 (r_0 + 2) (by omega)).2 (by omega)
       omega)
    | (have q1 := (hE_0_2_1 (r_0 + 1) (by omega)).2 (by omega)
       have q2 := (hE_0_2_2 (r_0 + 1) (by omega)).2 (by omega)
       omega)
    | (have q1 := (hE_0_2_1 (r_0 + 2) (by omega)).2 (by omega)
       omega)
    | (have q1 := (hE_0_2_1 (r_0 + 1) (by omega)).2 (by omega)
       omega)
    | (have q1 := (hE_0_2_1 (r_0 + 2) (by omega)).2 (by omega)
       have q2 := (hE_0_2_2 (r_0 + 2) (by omega)).2 (by omega)
       have q3 := (hE_0_2_3 (r_0 + 2) (by omega)).1 (by omega)
       omega)
    | (have q1 := (hE_0_2_1 (r_0 + 2) (by omega)).2 (by omega)
       have q2 := (hE_0_2_2 (r_0 + 2) (by omega)).2 (by omega)
       have q3 := (hE_0_2_3 (r_0 + 2) (by omega)).2 (by omega)
       omega)
def o_Mo_edgeItem_9 : or_T := (80, 16, [(0, (2, 0, 0, [165])), (1, (0, 0, 7, [])), (2, (0, 0, 2000, [])), (3, (0, 0, 4, [])), (4, (2, 0, 0, [165])), (5, (0, 0, 7, [])), (6, (0, -1, 23, [])), (7, (0, 0, 48, [])), (8, (0, 0, 2000, [])), (9, (0, 45, 45, [])), (10, (0, 0, 0, [])), (11, (0, 62, 62, [])), (12, (0, 1, 1, [])), (13, (0, -49, 1048575, [])), (14, (0, 62, 62, []))], [(7, [13, 14], [1]), (9, [13, 4], [14]), (8, [12], [1]), (20, [12, 4], [50, 2, 0, 1012, 1008, 4, 6, 1, 2, 1, 0, 0, 1, 2, 7, 1, 3, 2, 1, 12, 0, 3, 1, 3, 2, 1, 8, 0, 0]), (20, [4, 11, 12], [60, 3, 0, 963, 8, 12, 14]), (8, [10], [0]), (20, [10, 4], [50, 2, 0, 1012, 1008, 4, 6, 1, 2, 1, 0, 0, 1, 2, 7, 1, 3, 2, 1, 12, 0, 3, 1, 3, 2, 1, 8, 0, 0]), (20, [4, 9, 10], [60, 3, 0, 963, 8, 12, 14]), (20, [5, 4], [50, 1, 1, 1005, 1002, 0, 6, 4, 2, 1, 0, 0, 1, 3, 1, 2, 4, 3, 2, 1, 5, 0, 2]), (20, [4, 4], [30, 0, 1, 1, 15, -1, 1, 11]), (20, [4], [50, 3, 0, 12, 11, 15, 2, 21, 4, 7, 1, 3, 2, 0, 12, 0, 1, 0, 3, 2, 0, 11, 4, 3, 2, 0, 15, 0, 8, 3, 7, 1, 3, 2, 0, 12, 0, 0, 0, 7, 4, 3, 2, 0, 15, 0, 1, 2, 0, 11]), (20, [2, 4], [30, 0, 1, 0, 0, -1, 1, 11]), (20, [4, 2], [50, 3, 0, 8, 12, 11, 3, 7, 0, 2, 0, 1, 2, 0, 8, 3, 7, 1, 3, 2, 0, 12, 0, 0, 0, 6, 4, 2, 1, 1, 0, 1, 2, 0, 11]), (20, [4, 6], [31, 1, -1, -1, 1, 8, 0, -1, 0, 0]), (20, [4], [60, 1, 3, 199, 5, 2, 3, 4]), (20, [4, 6], [60, 2, 1, 242, 5, 8, 2]), (20, [4, 6, 7, 5, 3], [60, 9, 2, 1012, 10, 11, 12, 13, 14, 15, 8, 9, 5, 1, 2]), (24, [0, 4], []), (24, [1, 5], []), (20, [8, 4], [30, 2000, 1, 0, 0, 1, 1, 11]), (20, [8, 4], [30, -2000, -1, 0, 0, -1, 1, 11])], [], [], [(23, [6], [0, -1]), (20, [4], [50, 1, 0, 8, 1, 3, 2, 0, 8, 0, 0])], [], [(1, 5, -4294967296, 0), (5, 1, -4294967296, 0)])
theorem oo_Mo_edgeItem_9 {kA : Nat → ClassId} : or_ok PRD kA GG o_Mo_edgeItem_9 := by
  refine or_mk fun A ta ws vs hD hth hl => ?_
  intro t0 r0 t1 k1 t2 k2 t3 k3 t4 r4 t5 k5 t6 k6 t7 k7 t8 k8 t9 k9 t10 k10 t11 k11 t12 k12 t13 k13 t14 k14 d0 d1 f0 f1 f2 f3 f4 f5 f6 f7 f8 f9 f10 f11 f12 f13 f14 f15 f16 f17 f18 f19 f20
  replace f3 := shm_730 f3
  replace f6 := shm_730 f6
  replace f10 := shm_1438 f10
  replace f12 := shm_1722 f12
  replace f13 := shm_2117 f13
  replace f17 := shm_5 f17
  have q4 : n_v vs 4 = n_v vs 0 := f17.symm
  simp only [q4] at f3 f6 f10 f12 f13
  have kz_0_8 := fdq_34 hD hth r0
  have kz_0_11 := fdq_237 hD hth r0
  have kz_0_12 := fdq_187 hD hth r0
  have kz_0_15 := fdq_239 hD hth r0
  have nf0 : fc_1 PRD (23, [6], [0, -1]) ws (vs) := ⟨nf_in hl rfl, sgq_1043 (vc_Mo_edgeItem_9_0 (v_iv (n_v vs 2)) (v_iv (n_v vs 6)) (v_iv (n_v vs 10)) (v_iv (n_v vs 12)) (w_fi ws (n_v vs 0) 12) (w_fi ws (n_v vs 0) 8) (w_fi ws (n_v vs 0) 5) (w_fi ws (n_v vs 0) 15) (w_fi ws (n_v vs 0) 11) k2 k6 k10 k12 f3 f6 f10 f12 f13 kz_0_8 kz_0_11 kz_0_12 kz_0_15)⟩
  have nf1 : fc_1 PRD (20, [4], [50, 1, 0, 8, 1, 3, 2, 0, 8, 0, 0]) ws (vs) := by
    refine ⟨nf_in hl rfl, sgq_2156 ?_⟩
    · show w_fi ws (n_v vs 4) 8 = 0
      rw [q4]
      exact vc_Mo_edgeItem_9_1 (v_iv (n_v vs 2)) (v_iv (n_v vs 6)) (v_iv (n_v vs 10)) (v_iv (n_v vs 12)) (w_fi ws (n_v vs 0) 12) (w_fi ws (n_v vs 0) 8) (w_fi ws (n_v vs 0) 5) (w_fi ws (n_v vs 0) 15) (w_fi ws (n_v vs 0) 11) k2 k6 k10 k12 f3 f6 f10 f12 f13 kz_0_8 kz_0_11 kz_0_12 kz_0_15
  refine ⟨(fun _ h => (by cases h)), [], trivial, ?_, (fun _ h => (by cases h))⟩
  rw [List.append_nil]
  exact List.forall_mem_cons.mpr ⟨⟨show (23 : Nat) < 100 from by decide, nf0⟩, List.forall_mem_cons.mpr ⟨⟨show (20 : Nat) < 100 from by decide, nf1⟩, (fun _ h => (by cases h))⟩⟩
set_option maxHeartbeats 4000000 in
theorem vc_Mo_edgeItem_10_0 (r_0 : Int) (pos_0 : Int) (gx : Int) (kz_0_11 : 0 ≤ pos_0 ∧ pos_0 ≤ 2000) (ex2 : gx = pos_0) : 1 * gx + ((-1) * pos_0 + 0) ≤ 0 := by
  first
    | omega
    | (have q1 := (hE_0_2_1 (r_0 + 2) (by omega)).2 (by omega)
       have q2 := (hE_0_2_2 (r_0 + 2) (by omega)).2 (by omega)
       omega)
    | (have q1 := (hE_0_2_1 (r_0 + 1) (by omega)).2 (by omega)
       have q2 := (hE_0_2_2 (r_0 + 1) (by omega)).2 (by omega)
       omega)
    | (have q1 := (hE_0_2_1 (r_0 + 2) (by omega)).2 (by omega)
       omega)
    | (have q1 := (hE_0_2_1 (r_0 + 1) (by omega)).2 (by omega)
       omega)
    | (have q1 := (hE_0_2_1 (r_0 + 2) (by omega)).2 (by omega)
       have q2 := (hE_0_2_2 (r_0 + 2) (by omega)).2 (by omega)
       have q3 := (hE_0_2_3 (r_0 + 2) (by omega)).1 (by omega)
       omega)
    | (have q1 := (hE_0_2_1 (r_0 + 2) (by omega)).2 (by omega)
       have q2 := (hE_0_2_2 (r_0 + 2) (by omega)).2 (by omega)
       have q3 := (hE_0_2_3 (r_0 + 2) (by omega)).2 (by omega)
       omega)
set_option maxHeartbeats 4000000 in
theorem vc_Mo_edgeItem_10_1 (r_0 : Int) (pos_0 : Int) (gx : Int) (kz_0_11 : 0 ≤ pos_0 ∧ pos_0 ≤ 2000) (ex2 : gx = pos_0) : gx = pos_0 := by
  first
    | omega
    | (have q1 := (hE_0_2_1 (r_0 + 2) (by omega)).2 (by omega)
       have q2 := (hE_0_2_2 (r_0 + 2) (by omega)).2 (by omega)
       omega)
    | (have q1 := (hE_0_2_1 (r_0 + 1) (by omega)).2 (by omega)
       have q2 := (hE_0_2_2 (r_0 + 1) (by omega)).2 (by omega)
       omega)
    | (have q1 := (hE_0_2_1 (r_0 + 2) (by omega)).2 (by omega)
       omega)
    | (have q1 := (hE_0_2_1 (r_0 + 1) (by omega)).2 (by omega)
       omega)
    | (have q1 := (hE_0_2_1 (r_0 + 2) (by omega)).2 (by omega)
       have q2 := (hE_0_2_2 (r_0 + 2) (by omega)).2 (by omega)
       have q3 := (hE_0_2_3 (r_0 + 2) (by omega)).1 (by omega)
       omega)
    | (have q1 := (hE_0_2_1 (r_0 + 2) (by omega)).2 (by omega)
       have q2 := (hE_0_2_2 (r_0 + 2) (by omega)).2 (by omega)
       have q3 := (hE_0_2_3 (r_0 + 2) (by omega)).2 (by omega)
       omega)
set_option maxHeartbeats 4000000 in
theorem vc_Mo_edgeItem_10_2 (x1 : Int) (x3 : Int) (x6 : Int) (x7 : Int) (fault_0 : Int) (value_0 : Int) (kind_0 : Int) (all_0 : Int → Int) (r_0 : Int) (from_0 : Int) (pos_0 : Int) (tape_0 : Int → Int) (limit_0 : Int) (place_0 : Int) (faultPlace_0 : Int) (k1 : 0 ≤ x1 ∧ x1 ≤ 7) (k3 : 0 ≤ x3 ∧ x3 ≤ 4) (k6 : (-1) ≤ x6 ∧ x6 ≤ 23) (k7 : 0 ≤ x7 ∧ x7 ≤ 48) (f1 : fault_0 = 0) (f18 : zOSL (limit_0) (pos_0) (kind_0) (place_0) (value_0) (from_0) (fault_0) (faultPlace_0) (r_0) (tape_0) (all_0) (x6) (x7) (x1) (x3)) (kz_0_8 : 0 ≤ fault_0 ∧ fault_0 ≤ 5) (kz_0_9 : 0 ≤ faultPlace_0 ∧ faultPlace_0 ≤ 2000) (kz_0_10 : 0 ≤ limit_0 ∧ limit_0 ≤ 2000) (kz_0_11 : 0 ≤ pos_0 ∧ pos_0 ≤ 2000) (kz_0_12 : 0 ≤ kind_0 ∧ kind_0 ≤ 4) (kz_0_13 : 0 ≤ place_0 ∧ place_0 ≤ 2000) (kz_0_14 : (-49) ≤ value_0 ∧ value_0 ≤ 1048575) (kz_0_15 : 0 ≤ from_0 ∧ from_0 ≤ 2000) : ZLM (limit_0) (pos_0) := by
  exact ed_lim ‹zOSL _ _ _ _ _ _ _ _ _ _ _ _ _ _ _› (by omega)
set_option maxHeartbeats 4000000 in
theorem vc_Mo_edgeItem_10_3 (x2 : Int) (x6 : Int) (x10 : Int) (x12 : Int) (fault_0 : Int) (kind_0 : Int) (r_0 : Int) (from_0 : Int) (pos_0 : Int) (gx : Int) (k2 : 0 ≤ x2 ∧ x2 ≤ 2000) (k6 : (-1) ≤ x6 ∧ x6 ≤ 23) (k10 : 0 ≤ x10 ∧ x10 ≤ 0) (k12 : 1 ≤ x12 ∧ x12 ≤ 1) (f1 : fault_0 = 0) (f5 : (x12 = 1) → ((kind_0 = 3) ∧ (fault_0 = 0))) (f8 : (x10 = 1) → ((kind_0 = 3) ∧ (fault_0 = 0))) (f12 : ((kind_0 = 1) → (pos_0 ≤ (from_0 + 8))) ∧ ((kind_0 = 0) ∨ ((from_0 + 1) ≤ pos_0))) (f13 : 1 * x2 + ((-1) * pos_0 + 0) ≤ 0) (f14 : (1 ≤ fault_0) ∨ ((kind_0 = 0) ∨ ((x2 + 1) ≤ pos_0))) (f15 : ((-1) * fault_0 + 0 ≤ (-1)) ∨ ((-1) * x6 + 0 ≤ 0)) (kz_0_8 : 0 ≤ fault_0 ∧ fault_0 ≤ 5) (kz_0_11 : 0 ≤ pos_0 ∧ pos_0 ≤ 2000) (kz_0_12 : 0 ≤ kind_0 ∧ kind_0 ≤ 4) (kz_0_15 : 0 ≤ from_0 ∧ from_0 ≤ 2000) (ex2 : gx = pos_0) : 1 * x2 + ((-1) * gx + 0) ≤ (-1) := by
  first
    | omega
    | (have q1 := (hE_0_2_1 (r_0 + 2) (by omega)).2 (by omega)
       have q2 := (hE_0_2_2 (r_0 + 2) (by omega)).2 (by omega)
       omega)
    | (have q1 := (hE_0_2_1 (r_0 + 1) (by omega)).2 (by omega)
       have q2 := (hE_0_2_2 (r_0 + 1) (by omega)).2 (by omega)
       omega)
    | (have q1 := (hE_0_2_1 (r_0 + 2) (by omega)).2 (by omega)
       omega)
    | (have q1 := (hE_0_2_1 (r_0 + 1) (by omega)).2 (by omega)
       omega)
    | (have q1 := (hE_0_2_1 (r_0 + 2) (by omega)).2 (by omega)
       have q2 := (hE_0_2_2 (r_0 + 2) (by omega)).2 (by omega)
       have q3 := (hE_0_2_3 (r_0 + 2) (by omega)).1 (by omega)
       omega)
    | (have q1 := (hE_0_2_1 (r_0 + 2) (by omega)).2 (by omega)
       have q2 := (hE_0_2_2 (r_0 + 2) (by omega)).2 (by omega)
       have q3 := (hE_0_2_3 (r_0 + 2) (by omega)).2 (by omega)
       omega)
set_option maxHeartbeats 4000000 in
theorem vc_Mo_edgeItem_10_4 (x8 : Int) (r_0 : Int) (pos_0 : Int) (gx : Int) (k8 : 0 ≤ x8 ∧ x8 ≤ 2000) (f21 : 1 * x8 + (1 * pos_0 + 0) ≤ 2000) (f22 : (-1) * x8 + ((-1) * pos_0 + 0) ≤ (-2000)) (kz_0_11 : 0 ≤ pos_0 ∧ pos_0 ≤ 2000) (ex2 : gx = pos_0) : (-1) * x8 + ((-1) * gx + 0) ≤ (-2000) := by
  first
    | omega
    | (have q1 := (hE_0_2_1 (r_0 + 2) (by omega)).2 (by omega)
       have q2 := (hE_0_2_2 (r_0 + 2) (by omega)).2 (by omega)
       omega)
    | (have q1 := (hE_0_2_1 (r_0 + 1) (by omega)).2 (by omega)
       have q2 := (hE_0_2_2 (r_0 + 1) (by omega)).2 (by omega)
       omega)
    | (have q1 := (hE_0_2_1 (r_0 + 2) (by omega)).2 (by omega)
       omega)
    | (have q1 := (hE_0_2_1 (r_0 + 1) (by omega)).2 (by omega)
       omega)
    | (have q1 := (hE_0_2_1 (r_0 + 2) (by omega)).2 (by omega)
       have q2 := (hE_0_2_2 (r_0 + 2) (by omega)).2 (by omega)
       have q3 := (hE_0_2_3 (r_0 + 2) (by omega)).1 (by omega)
       omega)
    | (have q1 := (hE_0_2_1 (r_0 + 2) (by omega)).2 (by omega)
       have q2 := (hE_0_2_2 (r_0 + 2) (by omega)).2 (by omega)
       have q3 := (hE_0_2_3 (r_0 + 2) (by omega)).2 (by omega)
       omega)
set_option maxHeartbeats 4000000 in
theorem vc_Mo_edgeItem_10_5 (x1 : Int) (x2 : Int) (x3 : Int) (x6 : Int) (x7 : Int) (x9 : Int) (x10 : Int) (x11 : Int) (x12 : Int) (x13 : Int) (x14 : Int) (x15 : Int) (fault_0 : Int) (value_0 : Int) (kind_0 : Int) (all_0 : Int → Int) (r_0 : Int) (from_0 : Int) (pos_0 : Int) (tape_0 : Int → Int) (limit_0 : Int) (gx : Int) (k1 : 0 ≤ x1 ∧ x1 ≤ 7) (k2 : 0 ≤ x2 ∧ x2 ≤ 2000) (k3 : 0 ≤ x3 ∧ x3 ≤ 4) (k6 : (-1) ≤ x6 ∧ x6 ≤ 23) (k7 : 0 ≤ x7 ∧ x7 ≤ 48) (k10 : 0 ≤ x10 ∧ x10 ≤ 0) (k11 : 62 ≤ x11 ∧ x11 ≤ 62) (k12 : 1 ≤ x12 ∧ x12 ≤ 1) (k13 : (-49) ≤ x13 ∧ x13 ≤ 1048575) (k14 : 62 ≤ x14 ∧ x14 ≤ 62) (k15 : 0 ≤ x15 ∧ x15 ≤ 0) (f1 : fault_0 = 0) (f2 : x13 ≠ x14) (g3 : x13 = value_0) (f4 : x12 ≠ 0) (f5 : (x12 = 1) → ((kind_0 = 3) ∧ (fault_0 = 0))) (f6 : SGQ (fault_0) (kind_0) (value_0) (x11) (x12)) (f8 : (x10 = 1) → ((kind_0 = 3) ∧ (fault_0 = 0))) (f12 : ((kind_0 = 1) → (pos_0 ≤ (from_0 + 8))) ∧ ((kind_0 = 0) ∨ ((from_0 + 1) ≤ pos_0))) (f14 : (1 ≤ fault_0) ∨ ((kind_0 = 0) ∨ ((x2 + 1) ≤ pos_0))) (f15 : ((-1) * fault_0 + 0 ≤ (-1)) ∨ ((-1) * x6 + 0 ≤ 0)) (kz_0_8 : 0 ≤ fault_0 ∧ fault_0 ≤ 5) (kz_0_10 : 0 ≤ limit_0 ∧ limit_0 ≤ 2000) (kz_0_11 : 0 ≤ pos_0 ∧ pos_0 ≤ 2000) (kz_0_12 : 0 ≤ kind_0 ∧ kind_0 ≤ 4) (kz_0_14 : (-49) ≤ value_0 ∧ value_0 ≤ 1048575) (kz_0_15 : 0 ≤ from_0 ∧ from_0 ≤ 2000) (ex2 : gx = pos_0) : zTS4 (limit_0) (fault_0) (r_0) (tape_0) (all_0) (x6) (x7) (x15) (x1) (x3) (gx) := by
  first | subst g3 | skip
  first | subst ex2 | skip
  first
    | (exfalso; have a := (sgq_t (C := 62) (‹SGQ _ _ _ x11 _›) (by omega) (by omega)).2.2; omega)
    | (exfalso; have a := (sgq_t (C := 45) (‹SGQ _ _ _ x9 _›) (by omega) (by omega)).2.2; omega)
    | exact ed_next ‹zOSL _ _ _ _ _ _ _ _ _ _ _ _ _ _ _› (by omega) (by omega) (by omega) (by omega) (by omega) (by omega)
    | (have a := (sgq_t (C := 45) (‹SGQ _ _ _ x9 _›) (by omega) (by omega)).2.2; exact ed_next ‹zOSL _ _ _ _ _ _ _ _ _ _ _ _ _ _ _› (by omega) (by omega) (by omega) (by omega) (by omega) (by omega))
    | (have a := (sgq_t (C := 62) (‹SGQ _ _ _ x11 _›) (by omega) (by omega)).2.2; exact ed_next ‹zOSL _ _ _ _ _ _ _ _ _ _ _ _ _ _ _› (by omega) (by omega) (by omega) (by omega) (by omega) (by omega))
set_option maxHeartbeats 4000000 in
theorem vc_Mo_edgeItem_10_6 (x2 : Int) (r_0 : Int) (pos_0 : Int) (gx : Int) (k2 : 0 ≤ x2 ∧ x2 ≤ 2000) (f13 : 1 * x2 + ((-1) * pos_0 + 0) ≤ 0) (kz_0_11 : 0 ≤ pos_0 ∧ pos_0 ≤ 2000) (ex2 : gx = pos_0) : 1 * x2 + ((-1) * gx + 0) ≤ 0 := by
  first
    | omega
    | (have q1 := (hE_0_2_1 (r_0 + 2) (by omega)).2 (by omega)
       have q2 := (hE_0_2_2 (r_0 + 2) (by omega)).2 (by omega)
       omega)
    | (have q1 := (hE_0_2_1 (r_0 + 1) (by omega)).2 (by omega)
       have q2 := (hE_0_2_2 (r_0 + 1) (by omega)).2 (by omega)
       omega)
    | (have q1 := (hE_0_2_1 (r_0 + 2) (by omega)).2 (by omega)
       omega)
    | (have q1 := (hE_0_2_1 (r_0 + 1) (by omega)).2 (by omega)
       omega)
    | (have q1 := (hE_0_2_1 (r_0 + 2) (by omega)).2 (by omega)
       have q2 := (hE_0_2_2 (r_0 + 2) (by omega)).2 (by omega)
       have q3 := (hE_0_2_3 (r_0 + 2) (by omega)).1 (by omega)
       omega)
    | (have q1 := (hE_0_2_1 (r_0 + 2) (by omega)).2 (by omega)
       have q2 := (hE_0_2_2 (r_0 + 2) (by omega)).2 (by omega)
       have q3 := (hE_0_2_3 (r_0 + 2) (by omega)).2 (by omega)
       omega)
def o_Mo_edgeItem_10 : or_T := (81, 16, [(0, (2, 0, 0, [165])), (1, (0, 0, 7, [])), (2, (0, 0, 2000, [])), (3, (0, 0, 4, [])), (4, (2, 0, 0, [165])), (5, (0, 0, 7, [])), (6, (0, -1, 23, [])), (7, (0, 0, 48, [])), (8, (0, 0, 2000, [])), (9, (0, 45, 45, [])), (10, (0, 0, 0, [])), (11, (0, 62, 62, [])), (12, (0, 1, 1, [])), (13, (0, -49, 1048575, [])), (14, (0, 62, 62, [])), (15, (0, 0, 0, []))], [(23, [6], [0, -1]), (20, [4], [50, 1, 0, 8, 1, 3, 2, 0, 8, 0, 0]), (7, [13, 14], [1]), (9, [13, 4], [14]), (8, [12], [1]), (20, [12, 4], [50, 2, 0, 1012, 1008, 4, 6, 1, 2, 1, 0, 0, 1, 2, 7, 1, 3, 2, 1, 12, 0, 3, 1, 3, 2, 1, 8, 0, 0]), (20, [4, 11, 12], [60, 3, 0, 963, 8, 12, 14]), (8, [10], [0]), (20, [10, 4], [50, 2, 0, 1012, 1008, 4, 6, 1, 2, 1, 0, 0, 1, 2, 7, 1, 3, 2, 1, 12, 0, 3, 1, 3, 2, 1, 8, 0, 0]), (20, [4, 9, 10], [60, 3, 0, 963, 8, 12, 14]), (20, [5, 4], [50, 1, 1, 1005, 1002, 0, 6, 4, 2, 1, 0, 0, 1, 3, 1, 2, 4, 3, 2, 1, 5, 0, 2]), (20, [4, 4], [30, 0, 1, 1, 15, -1, 1, 11]), (20, [4], [50, 3, 0, 12, 11, 15, 2, 21, 4, 7, 1, 3, 2, 0, 12, 0, 1, 0, 3, 2, 0, 11, 4, 3, 2, 0, 15, 0, 8, 3, 7, 1, 3, 2, 0, 12, 0, 0, 0, 7, 4, 3, 2, 0, 15, 0, 1, 2, 0, 11]), (20, [2, 4], [30, 0, 1, 0, 0, -1, 1, 11]), (20, [4, 2], [50, 3, 0, 8, 12, 11, 3, 7, 0, 2, 0, 1, 2, 0, 8, 3, 7, 1, 3, 2, 0, 12, 0, 0, 0, 6, 4, 2, 1, 1, 0, 1, 2, 0, 11]), (20, [4, 6], [31, 1, -1, -1, 1, 8, 0, -1, 0, 0]), (20, [4], [60, 1, 3, 199, 5, 2, 3, 4]), (20, [4, 6], [60, 2, 1, 242, 5, 8, 2]), (20, [4, 6, 7, 5, 3], [60, 9, 2, 1012, 10, 11, 12, 13, 14, 15, 8, 9, 5, 1, 2]), (24, [0, 4], []), (24, [1, 5], []), (20, [8, 4], [30, 2000, 1, 0, 0, 1, 1, 11]), (20, [8, 4], [30, -2000, -1, 0, 0, -1, 1, 11])], [], [(0, 0, 2000, [])], [(20, [16, 4], [30, 0, 1, 0, 0, -1, 1, 11]), (20, [16, 4], [50, 1, 0, 1011, 1, 2, 1, 0, 2, 1, 11]), (20, [4], [60, 2, 0, 947, 10, 11]), (23, [2, 16], [-1, 1, -1]), (23, [8, 16], [-2000, -1, -1]), (20, [4, 6, 7, 15, 5, 3, 16], [60, 3, 2, 973, 10, 8, 5, 1, 2]), (20, [2, 16], [30, 0, 1, 0, 0, -1, 0, 0])], [], [(1, 5, -4294967296, 0), (5, 1, -4294967296, 0)])
theorem oo_Mo_edgeItem_10 {kA : Nat → ClassId} : or_ok PRD kA GG o_Mo_edgeItem_10 := by
  refine or_mk fun A ta ws vs hD hth hl => ?_
  intro t0 r0 t1 k1 t2 k2 t3 k3 t4 r4 t5 k5 t6 k6 t7 k7 t8 k8 t9 k9 t10 k10 t11 k11 t12 k12 t13 k13 t14 k14 t15 k15 d0 d1 f0 f1 f2 f3 f4 f5 f6 f7 f8 f9 f10 f11 f12 f13 f14 f15 f16 f17 f18 f19 f20 f21 f22
  replace f1 := shm_2156 f1
  replace f2 := shm_40 f2
  replace f3 := shm_115 f3
  replace f4 := shm_142 f4
  replace f5 := shm_730 f5
  replace f6 := shm_731 f6
  replace f8 := shm_730 f8
  replace f12 := shm_1438 f12
  replace f13 := shm_1431 f13
  replace f14 := shm_1722 f14
  replace f15 := shm_2117 f15
  replace f18 := shm_2153 f18
  replace f19 := shm_5 f19
  replace f20 := shm_5 f20
  replace f21 := shm_2007 f21
  replace f22 := shm_2008 f22
  have q4 : n_v vs 4 = n_v vs 0 := f19.symm
  have q5 : n_v vs 5 = n_v vs 1 := f20.symm
  simp only [q4, q5] at f1 f3 f5 f6 f8 f12 f13 f14 f15 f18 f21 f22
  have g3 : v_iv (n_v vs 13) = w_fi ws (n_v vs 0) 14 := congrArg v_iv f3
  have kz_0_8 := fdq_34 hD hth r0
  have kz_0_9 := fdq_44 hD hth r0
  have kz_0_10 := fdq_43 hD hth r0
  have kz_0_11 := fdq_237 hD hth r0
  have kz_0_12 := fdq_187 hD hth r0
  have kz_0_13 := fdq_238 hD hth r0
  have kz_0_14 := fdq_188 hD hth r0
  have kz_0_15 := fdq_239 hD hth r0
  obtain ⟨x, ex, hx⟩ := iv_ex (ta := ta) (lo := 0) (hi := 2000) (z := w_fi ws (n_v vs 0) 11) (by omega) (by omega) (by omega) (by omega)
  have ex2 : v_iv (Value.int x) = w_fi ws (n_v vs 0) 11 := ex
  have ex3 : 0 ≤ v_iv (Value.int x) ∧ v_iv (Value.int x) ≤ 2000 := tv_rng hx
  have e_2 : n_v (vs ++ [Value.int x]) 2 = n_v vs 2 := n_v_old (by rw [hl]; decide)
  have e_3 : n_v (vs ++ [Value.int x]) 3 = n_v vs 3 := n_v_old (by rw [hl]; decide)
  have e_4 : n_v (vs ++ [Value.int x]) 4 = n_v vs 4 := n_v_old (by rw [hl]; decide)
  have e_5 : n_v (vs ++ [Value.int x]) 5 = n_v vs 5 := n_v_old (by rw [hl]; decide)
  have e_6 : n_v (vs ++ [Value.int x]) 6 = n_v vs 6 := n_v_old (by rw [hl]; decide)
  have e_7 : n_v (vs ++ [Value.int x]) 7 = n_v vs 7 := n_v_old (by rw [hl]; decide)
  have e_8 : n_v (vs ++ [Value.int x]) 8 = n_v vs 8 := n_v_old (by rw [hl]; decide)
  have e_15 : n_v (vs ++ [Value.int x]) 15 = n_v vs 15 := n_v_old (by rw [hl]; decide)
  have e_16 : n_v (vs ++ [Value.int x]) 16 = Value.int x := n_v_new hl
  have nf0 : fc_1 PRD (20, [16, 4], [30, 0, 1, 0, 0, -1, 1, 11]) ws (vs ++ [Value.int x]) := by
    refine ⟨nf_inA hl rfl, sgq_1431 ?_⟩
    · show 1 * v_iv (n_v (vs ++ [Value.int x]) 16) + ((-1) * w_fi ws (n_v (vs ++ [Value.int x]) 4) 11 + 0) ≤ 0
      simp only [e_4, e_16, q4]
      exact vc_Mo_edgeItem_10_0 (w_fi ws (n_v vs 0) 5) (w_fi ws (n_v vs 0) 11) (v_iv (Value.int x)) kz_0_11 ex2
  have nf1 : fc_1 PRD (20, [16, 4], [50, 1, 0, 1011, 1, 2, 1, 0, 2, 1, 11]) ws (vs ++ [Value.int x]) := by
    refine ⟨nf_inA hl rfl, sgq_1432 ?_⟩
    · show v_iv (n_v (vs ++ [Value.int x]) 16) = w_fi ws (n_v (vs ++ [Value.int x]) 4) 11
      simp only [e_4, e_16, q4]
      exact vc_Mo_edgeItem_10_1 (w_fi ws (n_v vs 0) 5) (w_fi ws (n_v vs 0) 11) (v_iv (Value.int x)) kz_0_11 ex2
  have nf2 : fc_1 PRD (20, [4], [60, 2, 0, 947, 10, 11]) ws (vs ++ [Value.int x]) := by
    refine ⟨nf_inA hl rfl, sgq_1433 ?_⟩
    · show ZLM (w_fi ws (n_v (vs ++ [Value.int x]) 4) 10) (w_fi ws (n_v (vs ++ [Value.int x]) 4) 11)
      simp only [e_4, q4]
      exact vc_Mo_edgeItem_10_2 (v_iv (n_v vs 1)) (v_iv (n_v vs 3)) (v_iv (n_v vs 6)) (v_iv (n_v vs 7)) (w_fi ws (n_v vs 0) 8) (w_fi ws (n_v vs 0) 14) (w_fi ws (n_v vs 0) 12) (w_ei ws (w_ar ws (n_v vs 0) 2)) (w_fi ws (n_v vs 0) 5) (w_fi ws (n_v vs 0) 15) (w_fi ws (n_v vs 0) 11) (w_ei ws (w_ar ws (n_v vs 0) 1)) (w_fi ws (n_v vs 0) 10) (w_fi ws (n_v vs 0) 13) (w_fi ws (n_v vs 0) 9) k1 k3 k6 k7 f1 f18 kz_0_8 kz_0_9 kz_0_10 kz_0_11 kz_0_12 kz_0_13 kz_0_14 kz_0_15
  have nf3 : fc_1 PRD (23, [2, 16], [-1, 1, -1]) ws (vs ++ [Value.int x]) := by
    refine ⟨nf_inA hl rfl, sgq_193 ?_⟩
    · show 1 * v_iv (n_v (vs ++ [Value.int x]) 2) + ((-1) * v_iv (n_v (vs ++ [Value.int x]) 16) + 0) ≤ (-1)
      simp only [e_2, e_16]
      exact vc_Mo_edgeItem_10_3 (v_iv (n_v vs 2)) (v_iv (n_v vs 6)) (v_iv (n_v vs 10)) (v_iv (n_v vs 12)) (w_fi ws (n_v vs 0) 8) (w_fi ws (n_v vs 0) 12) (w_fi ws (n_v vs 0) 5) (w_fi ws (n_v vs 0) 15) (w_fi ws (n_v vs 0) 11) (v_iv (Value.int x)) k2 k6 k10 k12 f1 f5 f8 f12 f13 f14 f15 kz_0_8 kz_0_11 kz_0_12 kz_0_15 ex2
  have nf4 : fc_1 PRD (23, [8, 16], [-2000, -1, -1]) ws (vs ++ [Value.int x]) := by
    refine ⟨nf_inA hl rfl, sgq_2009 ?_⟩
    · show (-1) * v_iv (n_v (vs ++ [Value.int x]) 8) + ((-1) * v_iv (n_v (vs ++ [Value.int x]) 16) + 0) ≤ (-2000)
      simp only [e_8, e_16]
      exact vc_Mo_edgeItem_10_4 (v_iv (n_v vs 8)) (w_fi ws (n_v vs 0) 5) (w_fi ws (n_v vs 0) 11) (v_iv (Value.int x)) k8 f21 f22 kz_0_11 ex2
  have nf5 : fc_1 PRD (20, [4, 6, 7, 15, 5, 3, 16], [60, 3, 2, 973, 10, 8, 5, 1, 2]) ws (vs ++ [Value.int x]) := by
    refine ⟨nf_inA hl rfl, sgq_2157 ?_⟩
    · show zTS4 (w_fi ws (n_v (vs ++ [Value.int x]) 4) 10) (w_fi ws (n_v (vs ++ [Value.int x]) 4) 8) (w_fi ws (n_v (vs ++ [Value.int x]) 4) 5) (w_ei ws (w_ar ws (n_v (vs ++ [Value.int x]) 4) 1)) (w_ei ws (w_ar ws (n_v (vs ++ [Value.int x]) 4) 2)) (v_iv (n_v (vs ++ [Value.int x]) 6)) (v_iv (n_v (vs ++ [Value.int x]) 7)) (v_iv (n_v (vs ++ [Value.int x]) 15)) (v_iv (n_v (vs ++ [Value.int x]) 5)) (v_iv (n_v (vs ++ [Value.int x]) 3)) (v_iv (n_v (vs ++ [Value.int x]) 16))
      simp only [e_3, e_4, e_5, e_6, e_7, e_15, e_16, q4, q5]
      exact vc_Mo_edgeItem_10_5 (v_iv (n_v vs 1)) (v_iv (n_v vs 2)) (v_iv (n_v vs 3)) (v_iv (n_v vs 6)) (v_iv (n_v vs 7)) (v_iv (n_v vs 9)) (v_iv (n_v vs 10)) (v_iv (n_v vs 11)) (v_iv (n_v vs 12)) (v_iv (n_v vs 13)) (v_iv (n_v vs 14)) (v_iv (n_v vs 15)) (w_fi ws (n_v vs 0) 8) (w_fi ws (n_v vs 0) 14) (w_fi ws (n_v vs 0) 12) (w_ei ws (w_ar ws (n_v vs 0) 2)) (w_fi ws (n_v vs 0) 5) (w_fi ws (n_v vs 0) 15) (w_fi ws (n_v vs 0) 11) (w_ei ws (w_ar ws (n_v vs 0) 1)) (w_fi ws (n_v vs 0) 10) (v_iv (Value.int x)) k1 k2 k3 k6 k7 k10 k11 k12 k13 k14 k15 f1 f2 g3 f4 f5 f6 f8 f12 f14 f15 kz_0_8 kz_0_10 kz_0_11 kz_0_12 kz_0_14 kz_0_15 ex2
  have nf6 : fc_1 PRD (20, [2, 16], [30, 0, 1, 0, 0, -1, 0, 0]) ws (vs ++ [Value.int x]) := by
    refine ⟨nf_inA hl rfl, sgq_201 ?_⟩
    · show 1 * v_iv (n_v (vs ++ [Value.int x]) 2) + ((-1) * v_iv (n_v (vs ++ [Value.int x]) 16) + 0) ≤ 0
      simp only [e_2, e_16]
      exact vc_Mo_edgeItem_10_6 (v_iv (n_v vs 2)) (w_fi ws (n_v vs 0) 5) (w_fi ws (n_v vs 0) 11) (v_iv (Value.int x)) k2 f13 kz_0_11 ex2
  exact ⟨(fun _ h => (by cases h)), [Value.int x], ag_one hx, List.forall_mem_cons.mpr ⟨⟨show (20 : Nat) < 100 from by decide, nf0⟩, List.forall_mem_cons.mpr ⟨⟨show (20 : Nat) < 100 from by decide, nf1⟩, List.forall_mem_cons.mpr ⟨⟨show (20 : Nat) < 100 from by decide, nf2⟩, List.forall_mem_cons.mpr ⟨⟨show (23 : Nat) < 100 from by decide, nf3⟩, List.forall_mem_cons.mpr ⟨⟨show (23 : Nat) < 100 from by decide, nf4⟩, List.forall_mem_cons.mpr ⟨⟨show (20 : Nat) < 100 from by decide, nf5⟩, List.forall_mem_cons.mpr ⟨⟨show (20 : Nat) < 100 from by decide, nf6⟩, (fun _ h => (by cases h))⟩⟩⟩⟩⟩⟩⟩, (fun _ h => (by cases h))⟩
set_option maxHeartbeats 4000000 in
theorem vc_Mo_edgeItem_11_0 (x2 : Int) (r_0 : Int) (gx : Int) (k2 : 0 ≤ x2 ∧ x2 ≤ 2000) (ex2 : gx = x2) : 1 * gx + ((-1) * x2 + 0) ≤ 0 := by
  first
    | omega
    | (have q1 := (hE_0_2_1 (r_0 + 2) (by omega)).2 (by omega)
       have q2 := (hE_0_2_2 (r_0 + 2) (by omega)).2 (by omega)
       omega)
    | (have q1 := (hE_0_2_1 (r_0 + 1) (by omega)).2 (by omega)
       have q2 := (hE_0_2_2 (r_0 + 1) (by omega)).2 (by omega)
       omega)
    | (have q1 := (hE_0_2_1 (r_0 + 2) (by omega)).2 (by omega)
       omega)
    | (have q1 := (hE_0_2_1 (r_0 + 1) (by omega)).2 (by omega)
       omega)
    | (have q1 := (hE_0_2_1 (r_0 + 2) (by omega)).2 (by omega)
       have q2 := (hE_0_2_2 (r_0 + 2) (by omega)).2 (by omega)
       have q3 := (hE_0_2_3 (r_0 + 2) (by omega)).1 (by omega)
       omega)
    | (have q1 := (hE_0_2_1 (r_0 + 2) (by omega)).2 (by omega)
       have q2 := (hE_0_2_2 (r_0 + 2) (by omega)).2 (by omega)
       have q3 := (hE_0_2_3 (r_0 + 2) (by omega)).2 (by omega)
       omega)
set_option maxHeartbeats 4000000 in
theorem vc_Mo_edgeItem_11_1 (x2 : Int) (r_0 : Int) (gx : Int) (k2 : 0 ≤ x2 ∧ x2 ≤ 2000) (ex2 : gx = x2) : (-1) * gx + (1 * x2 + 0) ≤ 0 := by
  first
    | omega
    | (have q1 := (hE_0_2_1 (r_0 + 2) (by omega)).2 (by omega)
       have q2 := (hE_0_2_2 (r_0 + 2) (by omega)).2 (by omega)
       omega)
    | (have q1 := (hE_0_2_1 (r_0 + 1) (by omega)).2 (by omega)
       have q2 := (hE_0_2_2 (r_0 + 1) (by omega)).2 (by omega)
       omega)
    | (have q1 := (hE_0_2_1 (r_0 + 2) (by omega)).2 (by omega)
       omega)
    | (have q1 := (hE_0_2_1 (r_0 + 1) (by omega)).2 (by omega)
       omega)
    | (have q1 := (hE_0_2_1 (r_0 + 2) (by omega)).2 (by omega)
       have q2 := (hE_0_2_2 (r_0 + 2) (by omega)).2 (by omega)
       have q3 := (hE_0_2_3 (r_0 + 2) (by omega)).1 (by omega)
       omega)
    | (have q1 := (hE_0_2_1 (r_0 + 2) (by omega)).2 (by omega)
       have q2 := (hE_0_2_2 (r_0 + 2) (by omega)).2 (by omega)
       have q3 := (hE_0_2_3 (r_0 + 2) (by omega)).2 (by omega)
       omega)
set_option maxHeartbeats 4000000 in
theorem vc_Mo_edgeItem_11_2 (x3 : Int) (r_0 : Int) (gu : Int) (k3 : 0 ≤ x3 ∧ x3 ≤ 4) (eu2 : gu = x3) : 1 * gu + ((-1) * x3 + 0) ≤ 0 := by
  first
    | omega
    | (have q1 := (hE_0_2_1 (r_0 + 2) (by omega)).2 (by omega)
       have q2 := (hE_0_2_2 (r_0 + 2) (by omega)).2 (by omega)
       omega)
    | (have q1 := (hE_0_2_1 (r_0 + 1) (by omega)).2 (by omega)
       have q2 := (hE_0_2_2 (r_0 + 1) (by omega)).2 (by omega)
       omega)
    | (have q1 := (hE_0_2_1 (r_0 + 2) (by omega)).2 (by omega)
       omega)
    | (have q1 := (hE_0_2_1 (r_0 + 1) (by omega)).2 (by omega)
       omega)
    | (have q1 := (hE_0_2_1 (r_0 + 2) (by omega)).2 (by omega)
       have q2 := (hE_0_2_2 (r_0 + 2) (by omega)).2 (by omega)
       have q3 := (hE_0_2_3 (r_0 + 2) (by omega)).1 (by omega)
       omega)
    | (have q1 := (hE_0_2_1 (r_0 + 2) (by omega)).2 (by omega)
       have q2 := (hE_0_2_2 (r_0 + 2) (by omega)).2 (by omega)
       have q3 := (hE_0_2_3 (r_0 + 2) (by omega)).2 (by omega)
       omega)
set_option maxHeartbeats 4000000 in
theorem vc_Mo_edgeItem_11_3 (x3 : Int) (r_0 : Int) (gu : Int) (k3 : 0 ≤ x3 ∧ x3 ≤ 4) (eu2 : gu = x3) : (-1) * gu + (1 * x3 + 0) ≤ 0 := by
  first
    | omega
    | (have q1 := (hE_0_2_1 (r_0 + 2) (by omega)).2 (by omega)
       have q2 := (hE_0_2_2 (r_0 + 2) (by omega)).2 (by omega)
       omega)
    | (have q1 := (hE_0_2_1 (r_0 + 1) (by omega)).2 (by omega)
       have q2 := (hE_0_2_2 (r_0 + 1) (by omega)).2 (by omega)
       omega)
    | (have q1 := (hE_0_2_1 (r_0 + 2) (by omega)).2 (by omega)
       omega)
    | (have q1 := (hE_0_2_1 (r_0 + 1) (by omega)).2 (by omega)
       omega)
    | (have q1 := (hE_0_2_1 (r_0 + 2) (by omega)).2 (by omega)
       have q2 := (hE_0_2_2 (r_0 + 2) (by omega)).2 (by omega)
       have q3 := (hE_0_2_3 (r_0 + 2) (by omega)).1 (by omega)
       omega)
    | (have q1 := (hE_0_2_1 (r_0 + 2) (by omega)).2 (by omega)
       have q2 := (hE_0_2_2 (r_0 + 2) (by omega)).2 (by omega)
       have q3 := (hE_0_2_3 (r_0 + 2) (by omega)).2 (by omega)
       omega)
set_option maxHeartbeats 4000000 in
theorem vc_Mo_edgeItem_11_4 (x7 : Int) (r_0 : Int) (gw : Int) (k7 : 0 ≤ x7 ∧ x7 ≤ 48) (ew2 : gw = x7) : 1 * gw + ((-1) * x7 + 0) ≤ 0 := by
  first
    | omega
    | (have q1 := (hE_0_2_1 (r_0 + 2) (by omega)).2 (by omega)
       have q2 := (hE_0_2_2 (r_0 + 2) (by omega)).2 (by omega)
       omega)
    | (have q1 := (hE_0_2_1 (r_0 + 1) (by omega)).2 (by omega)
       have q2 := (hE_0_2_2 (r_0 + 1) (by omega)).2 (by omega)
       omega)
    | (have q1 := (hE_0_2_1 (r_0 + 2) (by omega)).2 (by omega)
       omega)
    | (have q1 := (hE_0_2_1 (r_0 + 1) (by omega)).2 (by omega)
       omega)
    | (have q1 := (hE_0_2_1 (r_0 + 2) (by omega)).2 (by omega)
       have q2 := (hE_0_2_2 (r_0 + 2) (by omega)).2 (by omega)
       have q3 := (hE_0_2_3 (r_0 + 2) (by omega)).1 (by omega)
       omega)
    | (have q1 := (hE_0_2_1 (r_0 + 2) (by omega)).2 (by omega)
       have q2 := (hE_0_2_2 (r_0 + 2) (by omega)).2 (by omega)
       have q3 := (hE_0_2_3 (r_0 + 2) (by omega)).2 (by omega)
       omega)
set_option maxHeartbeats 4000000 in
theorem vc_Mo_edgeItem_11_5 (x7 : Int) (r_0 : Int) (gw : Int) (k7 : 0 ≤ x7 ∧ x7 ≤ 48) (ew2 : gw = x7) : (-1) * gw + (1 * x7 + 0) ≤ 0 := by
  first
    | omega
    | (have q1 := (hE_0_2_1 (r_0 + 2) (by omega)).2 (by omega)
       have q2 := (hE_0_2_2 (r_0 + 2) (by omega)).2 (by omega)
       omega)
    | (have q1 := (hE_0_2_1 (r_0 + 1) (by omega)).2 (by omega)
       have q2 := (hE_0_2_2 (r_0 + 1) (by omega)).2 (by omega)
       omega)
    | (have q1 := (hE_0_2_1 (r_0 + 2) (by omega)).2 (by omega)
       omega)
    | (have q1 := (hE_0_2_1 (r_0 + 1) (by omega)).2 (by omega)
       omega)
    | (have q1 := (hE_0_2_1 (r_0 + 2) (by omega)).2 (by omega)
       have q2 := (hE_0_2_2 (r_0 + 2) (by omega)).2 (by omega)
       have q3 := (hE_0_2_3 (r_0 + 2) (by omega)).1 (by omega)
       omega)
    | (have q1 := (hE_0_2_1 (r_0 + 2) (by omega)).2 (by omega)
       have q2 := (hE_0_2_2 (r_0 + 2) (by omega)).2 (by omega)
       have q3 := (hE_0_2_3 (r_0 + 2) (by omega)).2 (by omega)
       omega)
set_option maxHeartbeats 4000000 in
theorem vc_Mo_edgeItem_11_6 (x15 : Int) (r_0 : Int) (gc : Int) (k15 : 0 ≤ x15 ∧ x15 ≤ 0) (ec2 : gc = x15) : 1 * gc + ((-1) * x15 + 0) ≤ 0 := by
  first
    | omega
    | (have q1 := (hE_0_2_1 (r_0 + 2) (by omega)).2 (by omega)
       have q2 := (hE_0_2_2 (r_0 + 2) (by omega)).2 (by omega)
       omega)
    | (have q1 := (hE_0_2_1 (r_0 + 1) (by omega)).2 (by omega)
       have q2 := (hE_0_2_2 (r_0 + 1) (by omega)).2 (by omega)
       omega)
    | (have q1 := (hE_0_2_1 (r_0 + 2) (by omega)).2 (by omega)
       omega)
    | (have q1 := (hE_0_2_1 (r_0 + 1) (by omega)).2 (by omega)
       omega)
    | (have q1 := (hE_0_2_1 (r_0 + 2) (by omega)).2 (by omega)
       have q2 := (hE_0_2_2 (r_0 + 2) (by omega)).2 (by omega)
       have q3 := (hE_0_2_3 (r_0 + 2) (by omega)).1 (by omega)
       omega)
    | (have q1 := (hE_0_2_1 (r_0 + 2) (by omega)).2 (by omega)
       have q2 := (hE_0_2_2 (r_0 + 2) (by omega)).2 (by omega)
       have q3 := (hE_0_2_3 (r_0 + 2) (by omega)).2 (by omega)
       omega)
set_option maxHeartbeats 4000000 in
theorem vc_Mo_edgeItem_11_7 (x15 : Int) (r_0 : Int) (gc : Int) (k15 : 0 ≤ x15 ∧ x15 ≤ 0) (ec2 : gc = x15) : (-1) * gc + (1 * x15 + 0) ≤ 0 := by
  first
    | omega
    | (have q1 := (hE_0_2_1 (r_0 + 2) (by omega)).2 (by omega)
       have q2 := (hE_0_2_2 (r_0 + 2) (by omega)).2 (by omega)
       omega)
    | (have q1 := (hE_0_2_1 (r_0 + 1) (by omega)).2 (by omega)
       have q2 := (hE_0_2_2 (r_0 + 1) (by omega)).2 (by omega)
       omega)
    | (have q1 := (hE_0_2_1 (r_0 + 2) (by omega)).2 (by omega)
       omega)
    | (have q1 := (hE_0_2_1 (r_0 + 1) (by omega)).2 (by omega)
       omega)
    | (have q1 := (hE_0_2_1 (r_0 + 2) (by omega)).2 (by omega)
       have q2 := (hE_0_2_2 (r_0 + 2) (by omega)).2 (by omega)
       have q3 := (hE_0_2_3 (r_0 + 2) (by omega)).1 (by omega)
       omega)
    | (have q1 := (hE_0_2_1 (r_0 + 2) (by omega)).2 (by omega)
       have q2 := (hE_0_2_2 (r_0 + 2) (by omega)).2 (by omega)
       have q3 := (hE_0_2_3 (r_0 + 2) (by omega)).2 (by omega)
       omega)
set_option maxHeartbeats 4000000 in
theorem vc_Mo_edgeItem_11_8 (r_0 : Int) (from_0 : Int) (pos_0 : Int) (f12 : 1 * from_0 + ((-1) * pos_0 + 0) ≤ 0) (kz_0_11 : 0 ≤ pos_0 ∧ pos_0 ≤ 2000) (kz_0_15 : 0 ≤ from_0 ∧ from_0 ≤ 2000) : 1 * from_0 + ((-1) * pos_0 + 0) ≤ 0 := by
  first
    | omega
    | (have q1 := (hE_0_2_1 (r_0 + 2) (by omega)).2 (by omega)
       have q2 := (hE_0_2_2 (r_0 + 2) (by omega)).2 (by omega)
       omega)
    | (have q1 := (hE_0_2_1 (r_0 + 1) (by omega)).2 (by omega)
       have q2 := (hE_0_2_2 (r_0 + 1) (by omega)).2 (by omega)
       omega)
    | (have q1 := (hE_0_2_1 (r_0 + 2) (by omega)).2 (by omega)
       omega)
    | (have q1 := (hE_0_2_1 (r_0 + 1) (by omega)).2 (by omega)
       omega)
    | (have q1 := (hE_0_2_1 (r_0 + 2) (by omega)).2 (by omega)
       have q2 := (hE_0_2_2 (r_0 + 2) (by omega)).2 (by omega)
       have q3 := (hE_0_2_3 (r_0 + 2) (by omega)).1 (by omega)
       omega)
    | (have q1 := (hE_0_2_1 (r_0 + 2) (by omega)).2 (by omega)
       have q2 := (hE_0_2_2 (r_0 + 2) (by omega)).2 (by omega)
       have q3 := (hE_0_2_3 (r_0 + 2) (by omega)).2 (by omega)
       omega)
set_option maxHeartbeats 4000000 in
theorem vc_Mo_edgeItem_11_9 (r_0 : Int) (from_0 : Int) (pos_0 : Int) (kind_0 : Int) (f13 : ((kind_0 = 1) → (pos_0 ≤ (from_0 + 8))) ∧ ((kind_0 = 0) ∨ ((from_0 + 1) ≤ pos_0))) (kz_0_11 : 0 ≤ pos_0 ∧ pos_0 ≤ 2000) (kz_0_12 : 0 ≤ kind_0 ∧ kind_0 ≤ 4) (kz_0_15 : 0 ≤ from_0 ∧ from_0 ≤ 2000) : ((kind_0 = 1) → (pos_0 ≤ (from_0 + 8))) ∧ ((kind_0 = 0) ∨ ((from_0 + 1) ≤ pos_0)) := by
  first
    | omega
    | (have q1 := (hE_0_2_1 (r_0 + 2) (by omega)).2 (by omega)
       have q2 := (hE_0_2_2 (r_0 + 2) (by omega)).2 (by omega)
       omega)
    | (have q1 := (hE_0_2_1 (r_0 + 1) (by omega)).2 (by omega)
       have q2 := (hE_0_2_2 (r_0 + 1) (by omega)).2 (by omega)
       omega)
    | (have q1 := (hE_0_2_1 (r_0 + 2) (by omega)).2 (by omega)
       omega)
    | (have q1 := (hE_0_2_1 (r_0 + 1) (by omega)).2 (by omega)
       omega)
    | (have q1 := (hE_0_2_1 (r_0 + 2) (by omega)).2 (by omega)
       have q2 := (hE_0_2_2 (r_0 + 2) (by omega)).2 (by omega)
       have q3 := (hE_0_2_3 (r_0 + 2) (by omega)).1 (by omega)
       omega)
    | (have q1 := (hE_0_2_1 (r_0 + 2) (by omega)).2 (by omega)
       have q2 := (hE_0_2_2 (r_0 + 2) (by omega)).2 (by omega)
       have q3 := (hE_0_2_3 (r_0 + 2) (by omega)).2 (by omega)
       omega)
set_option maxHeartbeats 4000000 in
theorem vc_Mo_edgeItem_11_10 (x2 : Int) (x16 : Int) (r_0 : Int) (from_0 : Int) (pos_0 : Int) (gx : Int) (gy : Int) (k2 : 0 ≤ x2 ∧ x2 ≤ 2000) (k16 : 0 ≤ x16 ∧ x16 ≤ 2000) (f0 : 1 * x2 + ((-1) * x16 + 0) ≤ (-1)) (f12 : 1 * from_0 + ((-1) * pos_0 + 0) ≤ 0) (f14 : 1 * x16 + ((-1) * from_0 + 0) ≤ 0) (kz_0_11 : 0 ≤ pos_0 ∧ pos_0 ≤ 2000) (kz_0_15 : 0 ≤ from_0 ∧ from_0 ≤ 2000) (ex2 : gx = x2) (ey2 : gy = from_0) : 1 * gx + ((-1) * pos_0 + 0) ≤ 0 := by
  first
    | omega
    | (have q1 := (hE_0_2_1 (r_0 + 2) (by omega)).2 (by omega)
       have q2 := (hE_0_2_2 (r_0 + 2) (by omega)).2 (by omega)
       omega)
    | (have q1 := (hE_0_2_1 (r_0 + 1) (by omega)).2 (by omega)
       have q2 := (hE_0_2_2 (r_0 + 1) (by omega)).2 (by omega)
       omega)
    | (have q1 := (hE_0_2_1 (r_0 + 2) (by omega)).2 (by omega)
       omega)
    | (have q1 := (hE_0_2_1 (r_0 + 1) (by omega)).2 (by omega)
       omega)
    | (have q1 := (hE_0_2_1 (r_0 + 2) (by omega)).2 (by omega)
       have q2 := (hE_0_2_2 (r_0 + 2) (by omega)).2 (by omega)
       have q3 := (hE_0_2_3 (r_0 + 2) (by omega)).1 (by omega)
       omega)
    | (have q1 := (hE_0_2_1 (r_0 + 2) (by omega)).2 (by omega)
       have q2 := (hE_0_2_2 (r_0 + 2) (by omega)).2 (by omega)
       have q3 := (hE_0_2_3 (r_0 + 2) (by omega)).2 (by omega)
       omega)
set_option maxHeartbeats 4000000 in
theorem vc_Mo_edgeItem_11_11 (r_0 : Int) (from_0 : Int) (pos_0 : Int) (kind_0 : Int) (gy : Int) (f12 : 1 * from_0 + ((-1) * pos_0 + 0) ≤ 0) (f13 : ((kind_0 = 1) → (pos_0 ≤ (from_0 + 8))) ∧ ((kind_0 = 0) ∨ ((from_0 + 1) ≤ pos_0))) (kz_0_11 : 0 ≤ pos_0 ∧ pos_0 ≤ 2000) (kz_0_12 : 0 ≤ kind_0 ∧ kind_0 ≤ 4) (kz_0_15 : 0 ≤ from_0 ∧ from_0 ≤ 2000) (ey2 : gy = from_0) : (kind_0 = 0) ∨ ((gy + 1) ≤ pos_0) := by
  first
    | omega
    | (have q1 := (hE_0_2_1 (r_0 + 2) (by omega)).2 (by omega)
       have q2 := (hE_0_2_2 (r_0 + 2) (by omega)).2 (by omega)
       omega)
    | (have q1 := (hE_0_2_1 (r_0 + 1) (by omega)).2 (by omega)
       have q2 := (hE_0_2_2 (r_0 + 1) (by omega)).2 (by omega)
       omega)
    | (have q1 := (hE_0_2_1 (r_0 + 2) (by omega)).2 (by omega)
       omega)
    | (have q1 := (hE_0_2_1 (r_0 + 1) (by omega)).2 (by omega)
       omega)
    | (have q1 := (hE_0_2_1 (r_0 + 2) (by omega)).2 (by omega)
       have q2 := (hE_0_2_2 (r_0 + 2) (by omega)).2 (by omega)
       have q3 := (hE_0_2_3 (r_0 + 2) (by omega)).1 (by omega)
       omega)
    | (have q1 := (hE_0_2_1 (r_0 + 2) (by omega)).2 (by omega)
       have q2 := (hE_0_2_2 (r_0 + 2) (by omega)).2 (by omega)
       have q3 := (hE_0_2_3 (r_0 + 2) (by omega)).2 (by omega)
       omega)
set_option maxHeartbeats 4000000 in
theorem vc_Mo_edgeItem_11_12 (x1 : Int) (all_0 : Int → Int) (r_0 : Int) (k1 : 0 ≤ x1 ∧ x1 ≤ 7) (f6 : (x1 + 1) ≤ all_0 ((r_0 + 2))) : (x1 + 1) ≤ all_0 ((r_0 + 2)) := by
  first
    | omega
    | (have q1 := (hE_0_2_1 (r_0 + 2) (by omega)).2 (by omega)
       have q2 := (hE_0_2_2 (r_0 + 2) (by omega)).2 (by omega)
       omega)
    | (have q1 := (hE_0_2_1 (r_0 + 1) (by omega)).2 (by omega)
       have q2 := (hE_0_2_2 (r_0 + 1) (by omega)).2 (by omega)
       omega)
    | (have q1 := (hE_0_2_1 (r_0 + 2) (by omega)).2 (by omega)
       omega)
    | (have q1 := (hE_0_2_1 (r_0 + 1) (by omega)).2 (by omega)
       omega)
    | (have q1 := (hE_0_2_1 (r_0 + 2) (by omega)).2 (by omega)
       have q2 := (hE_0_2_2 (r_0 + 2) (by omega)).2 (by omega)
       have q3 := (hE_0_2_3 (r_0 + 2) (by omega)).1 (by omega)
       omega)
    | (have q1 := (hE_0_2_1 (r_0 + 2) (by omega)).2 (by omega)
       have q2 := (hE_0_2_2 (r_0 + 2) (by omega)).2 (by omega)
       have q3 := (hE_0_2_3 (r_0 + 2) (by omega)).2 (by omega)
       omega)
set_option maxHeartbeats 4000000 in
theorem vc_Mo_edgeItem_11_13 (all_0 : Int → Int) (r_0 : Int) (now_0 : Int → Int) (latest_0 : Int → Int) (f8 : RWS (r_0) (all_0) (now_0) (latest_0)) : RWS (r_0) (all_0) (now_0) (latest_0) := by
  first
    | assumption
set_option maxHeartbeats 4000000 in
theorem vc_Mo_edgeItem_11_14 (x6 : Int) (all_0 : Int → Int) (fault_0 : Int) (r_0 : Int) (k6 : (-1) ≤ x6 ∧ x6 ≤ 23) (f5 : fault_0 = 0) (f9 : EDI (r_0) (fault_0) (all_0) (x6)) (kz_0_8 : 0 ≤ fault_0 ∧ fault_0 ≤ 5) : MEB (r_0) (all_0) (x6) := by
  intro q
  exact (‹EDI _ _ _ _› (by omega)).2
set_option maxHeartbeats 4000000 in
theorem vc_Mo_edgeItem_11_15 (x1 : Int) (x2 : Int) (x3 : Int) (x6 : Int) (x7 : Int) (x15 : Int) (x16 : Int) (tape_0 : Int → Int) (all_0 : Int → Int) (limit_0 : Int) (fault_0 : Int) (r_0 : Int) (from_0 : Int) (pos_0 : Int) (kind_0 : Int) (place_0 : Int) (value_0 : Int) (gx : Int) (gy : Int) (gu : Int) (gw : Int) (gc : Int) (k1 : 0 ≤ x1 ∧ x1 ≤ 7) (k2 : 0 ≤ x2 ∧ x2 ≤ 2000) (k3 : 0 ≤ x3 ∧ x3 ≤ 4) (k6 : (-1) ≤ x6 ∧ x6 ≤ 23) (k7 : 0 ≤ x7 ∧ x7 ≤ 48) (k15 : 0 ≤ x15 ∧ x15 ≤ 0) (k16 : 0 ≤ x16 ∧ x16 ≤ 2000) (f2 : zTS4 (limit_0) (fault_0) (r_0) (tape_0) (all_0) (x6) (x7) (x15) (x1) (x3) (x16)) (f15 : TKR (limit_0) (pos_0) (kind_0) (place_0) (value_0) (from_0) (tape_0) (x16)) (kz_0_8 : 0 ≤ fault_0 ∧ fault_0 ≤ 5) (kz_0_10 : 0 ≤ limit_0 ∧ limit_0 ≤ 2000) (kz_0_11 : 0 ≤ pos_0 ∧ pos_0 ≤ 2000) (kz_0_12 : 0 ≤ kind_0 ∧ kind_0 ≤ 4) (kz_0_13 : 0 ≤ place_0 ∧ place_0 ≤ 2000) (kz_0_14 : (-49) ≤ value_0 ∧ value_0 ≤ 1048575) (kz_0_15 : 0 ≤ from_0 ∧ from_0 ≤ 2000) (ex2 : gx = x2) (ey2 : gy = from_0) (eu2 : gu = x3) (ew2 : gw = x7) (ec2 : gc = x15) : zRS4 (limit_0) (pos_0) (kind_0) (place_0) (value_0) (from_0) (fault_0) (r_0) (tape_0) (all_0) (x6) (gw) (gc) (x1) (gu) := by
  first | subst ex2 | skip
  first | subst ey2 | skip
  first | subst eu2 | skip
  first | subst ew2 | skip
  first | subst ec2 | skip
  exact rsq_of ‹zTS4 _ _ _ _ _ _ _ _ _ _ _› ‹TKR _ _ _ _ _ _ _ _›
set_option maxHeartbeats 4000000 in
theorem vc_Mo_edgeItem_11_16 (x6 : Int) (r_0 : Int) (k6 : (-1) ≤ x6 ∧ x6 ≤ 23) (f4 : (-1) * x6 + 0 ≤ 0) : 0 ≤ x6 := by
  first
    | omega
    | (have q1 := (hE_0_2_1 (r_0 + 2) (by omega)).2 (by omega)
       have q2 := (hE_0_2_2 (r_0 + 2) (by omega)).2 (by omega)
       omega)
    | (have q1 := (hE_0_2_1 (r_0 + 1) (by omega)).2 (by omega)
       have q2 := (hE_0_2_2 (r_0 + 1) (by omega)).2 (by omega)
       omega)
    | (have q1 := (hE_0_2_1 (r_0 + 2) (by omega)).2 (by omega)
       omega)
    | (have q1 := (hE_0_2_1 (r_0 + 1) (by omega)).2 (by omega)
       omega)
    | (have q1 := (hE_0_2_1 (r_0 + 2) (by omega)).2 (by omega)
       have q2 := (hE_0_2_2 (r_0 + 2) (by omega)).2 (by omega)
       have q3 := (hE_0_2_3 (r_0 + 2) (by omega)).1 (by omega)
       omega)
    | (have q1 := (hE_0_2_1 (r_0 + 2) (by omega)).2 (by omega)
       have q2 := (hE_0_2_2 (r_0 + 2) (by omega)).2 (by omega)
       have q3 := (hE_0_2_3 (r_0 + 2) (by omega)).2 (by omega)
       omega)
set_option maxHeartbeats 4000000 in
theorem vc_Mo_edgeItem_11_17 (x8 : Int) (x16 : Int) (r_0 : Int) (from_0 : Int) (gy : Int) (k8 : 0 ≤ x8 ∧ x8 ≤ 2000) (k16 : 0 ≤ x16 ∧ x16 ≤ 2000) (f1 : (-1) * x8 + ((-1) * x16 + 0) ≤ (-2000)) (f14 : 1 * x16 + ((-1) * from_0 + 0) ≤ 0) (kz_0_15 : 0 ≤ from_0 ∧ from_0 ≤ 2000) (ey2 : gy = from_0) : (-1) * x8 + ((-1) * gy + 0) ≤ (-2000) := by
  first
    | omega
    | (have q1 := (hE_0_2_1 (r_0 + 2) (by omega)).2 (by omega)
       have q2 := (hE_0_2_2 (r_0 + 2) (by omega)).2 (by omega)
       omega)
    | (have q1 := (hE_0_2_1 (r_0 + 1) (by omega)).2 (by omega)
       have q2 := (hE_0_2_2 (r_0 + 1) (by omega)).2 (by omega)
       omega)
    | (have q1 := (hE_0_2_1 (r_0 + 2) (by omega)).2 (by omega)
       omega)
    | (have q1 := (hE_0_2_1 (r_0 + 1) (by omega)).2 (by omega)
       omega)
    | (have q1 := (hE_0_2_1 (r_0 + 2) (by omega)).2 (by omega)
       have q2 := (hE_0_2_2 (r_0 + 2) (by omega)).2 (by omega)
       have q3 := (hE_0_2_3 (r_0 + 2) (by omega)).1 (by omega)
       omega)
    | (have q1 := (hE_0_2_1 (r_0 + 2) (by omega)).2 (by omega)
       have q2 := (hE_0_2_2 (r_0 + 2) (by omega)).2 (by omega)
       have q3 := (hE_0_2_3 (r_0 + 2) (by omega)).2 (by omega)
       omega)
set_option maxHeartbeats 4000000 in
theorem vc_Mo_edgeItem_11_18 (x2 : Int) (x16 : Int) (r_0 : Int) (from_0 : Int) (gx : Int) (gy : Int) (k2 : 0 ≤ x2 ∧ x2 ≤ 2000) (k16 : 0 ≤ x16 ∧ x16 ≤ 2000) (f0 : 1 * x2 + ((-1) * x16 + 0) ≤ (-1)) (f14 : 1 * x16 + ((-1) * from_0 + 0) ≤ 0) (kz_0_15 : 0 ≤ from_0 ∧ from_0 ≤ 2000) (ex2 : gx = x2) (ey2 : gy = from_0) : 1 * x2 + ((-1) * gy + 0) ≤ (-1) := by
  first
    | omega
    | (have q1 := (hE_0_2_1 (r_0 + 2) (by omega)).2 (by omega)
       have q2 := (hE_0_2_2 (r_0 + 2) (by omega)).2 (by omega)
       omega)
    | (have q1 := (hE_0_2_1 (r_0 + 1) (by omega)).2 (by omega)
       have q2 := (hE_0_2_2 (r_0 + 1) (by omega)).2 (by omega)
       omega)
    | (have q1 := (hE_0_2_1 (r_0 + 2) (by omega)).2 (by omega)
       omega)
    | (have q1 := (hE_0_2_1 (r_0 + 1) (by omega)).2 (by omega)
       omega)
    | (have q1 := (hE_0_2_1 (r_0 + 2) (by omega)).2 (by omega)
       have q2 := (hE_0_2_2 (r_0 + 2) (by omega)).2 (by omega)
       have q3 := (hE_0_2_3 (r_0 + 2) (by omega)).1 (by omega)
       omega)
    | (have q1 := (hE_0_2_1 (r_0 + 2) (by omega)).2 (by omega)
       have q2 := (hE_0_2_2 (r_0 + 2) (by omega)).2 (by omega)
       have q3 := (hE_0_2_3 (r_0 + 2) (by omega)).2 (by omega)
       omega)
def o_Mo_edgeItem_11 : or_T := (87, 17, [(0, (2, 0, 0, [165])), (1, (0, 0, 7, [])), (2, (0, 0, 2000, [])), (3, (0, 0, 4, [])), (4, (2, 0, 0, [165])), (5, (0, 0, 7, [])), (6, (0, -1, 23, [])), (7, (0, 0, 48, [])), (8, (0, 0, 2000, [])), (15, (0, 0, 0, [])), (16, (0, 0, 2000, []))], [(23, [2, 16], [-1, 1, -1]), (23, [8, 16], [-2000, -1, -1]), (20, [4, 6, 7, 15, 5, 3, 16], [60, 3, 2, 973, 10, 8, 5, 1, 2]), (20, [2, 16], [30, 0, 1, 0, 0, -1, 0, 0]), (23, [6], [0, -1]), (20, [4], [50, 1, 0, 8, 1, 3, 2, 0, 8, 0, 0]), (20, [5, 4], [50, 1, 1, 1005, 1002, 0, 6, 4, 2, 1, 0, 0, 1, 3, 1, 2, 4, 3, 2, 1, 5, 0, 2]), (20, [4, 6], [31, 1, -1, -1, 1, 8, 0, -1, 0, 0]), (20, [4], [60, 1, 3, 199, 5, 2, 3, 4]), (20, [4, 6], [60, 2, 1, 242, 5, 8, 2]), (24, [0, 4], []), (24, [1, 5], []), (20, [4, 4], [30, 0, 1, 1, 15, -1, 1, 11]), (20, [4], [50, 3, 0, 12, 11, 15, 2, 21, 4, 7, 1, 3, 2, 0, 12, 0, 1, 0, 3, 2, 0, 11, 4, 3, 2, 0, 15, 0, 8, 3, 7, 1, 3, 2, 0, 12, 0, 0, 0, 7, 4, 3, 2, 0, 15, 0, 1, 2, 0, 11]), (20, [16, 4], [30, 0, 1, 0, 0, -1, 1, 15]), (20, [4, 16], [60, 6, 1, 948, 10, 11, 12, 13, 14, 15, 1]), (102, [16], [0, 165011, 165012, 165013, 165014, 165015]), (23, [2, 16], [-1, 1, -1]), (23, [8, 16], [-2000, -1, -1]), (23, [6], [0, -1])], [], [(0, 0, 2000, []), (0, 0, 2000, []), (0, 0, 4, []), (0, 0, 48, []), (0, 0, 1, [])], [(23, [17, 2], [0, 1, -1]), (23, [17, 2], [0, -1, 1]), (23, [19, 3], [0, 1, -1]), (23, [19, 3], [0, -1, 1]), (23, [20, 7], [0, 1, -1]), (23, [20, 7], [0, -1, 1]), (23, [21, 15], [0, 1, -1]), (23, [21, 15], [0, -1, 1]), (20, [4, 4], [30, 0, 1, 1, 15, -1, 1, 11]), (20, [4], [50, 3, 0, 12, 11, 15, 2, 21, 4, 7, 1, 3, 2, 0, 12, 0, 1, 0, 3, 2, 0, 11, 4, 3, 2, 0, 15, 0, 8, 3, 7, 1, 3, 2, 0, 12, 0, 0, 0, 7, 4, 3, 2, 0, 15, 0, 1, 2, 0, 11]), (20, [17, 4], [30, 0, 1, 0, 0, -1, 1, 11]), (20, [4, 18], [50, 2, 0, 12, 11, 3, 7, 1, 3, 2, 0, 12, 0, 0, 0, 6, 4, 2, 1, 1, 0, 1, 2, 0, 11]), (20, [5, 4], [50, 1, 1, 1005, 1002, 0, 6, 4, 2, 1, 0, 0, 1, 3, 1, 2, 4, 3, 2, 1, 5, 0, 2]), (20, [4], [60, 1, 3, 199, 5, 2, 3, 4]), (20, [4, 6], [60, 1, 1, 241, 5, 2]), (20, [4, 6, 20, 21, 5, 19], [60, 8, 2, 993, 10, 11, 12, 13, 14, 15, 8, 5, 1, 2]), (20, [6], [50, 0, 0, 0, 2, 0, 0, 1, 0]), (23, [8, 18], [-2000, -1, -1]), (23, [2, 18], [-1, 1, -1])], [], [(1, 5, -4294967296, 0), (5, 1, -4294967296, 0)])
theorem oo_Mo_edgeItem_11 {kA : Nat → ClassId} : or_ok PRD kA GG o_Mo_edgeItem_11 := by
  refine or_mk fun A ta ws vs hD hth hl => ?_
  intro t0 r0 t1 k1 t2 k2 t3 k3 t4 r4 t5 k5 t6 k6 t7 k7 t8 k8 t15 k15 t16 k16 d0 d1 f0 f1 f2 f3 f4 f5 f6 f7 f8 f9 f10 f11 f12 f13 f14 f15 ta1 w1 le1 s1 f17 f18 f19
  replace f0 := shm_193 f0
  replace f1 := shm_2009 f1
  replace f2 := shm_2157 f2
  replace f4 := shm_1043 f4
  replace f5 := shm_2156 f5
  replace f6 := shm_1009 f6
  replace f8 := shm_980 f8
  replace f9 := shm_2152 f9
  replace f10 := shm_5 f10
  replace f11 := shm_5 f11
  replace f12 := shm_1437 f12
  replace f13 := shm_1438 f13
  replace f14 := shm_1436 f14
  replace f15 := shm_1439 f15
  have q4 : n_v vs 4 = n_v vs 0 := f10.symm
  have q5 : n_v vs 5 = n_v vs 1 := f11.symm
  simp only [q4, q5] at f2 f5 f6 f8 f9 f12 f13 f14 f15
  have kz_0_8 := fdq_34 hD hth r0
  have kz_0_10 := fdq_43 hD hth r0
  have kz_0_11 := fdq_237 hD hth r0
  have kz_0_12 := fdq_187 hD hth r0
  have kz_0_13 := fdq_238 hD hth r0
  have kz_0_14 := fdq_188 hD hth r0
  have kz_0_15 := fdq_239 hD hth r0
  obtain ⟨x, ex, hx⟩ := iv_ex (ta := ta) (lo := 0) (hi := 2000) (z := v_iv (n_v vs 2)) (by omega) (by omega) (by omega) (by omega)
  have ex2 : v_iv (Value.int x) = v_iv (n_v vs 2) := ex
  have ex3 : 0 ≤ v_iv (Value.int x) ∧ v_iv (Value.int x) ≤ 2000 := tv_rng hx
  obtain ⟨y, ey, hy⟩ := iv_ex (ta := ta) (lo := 0) (hi := 2000) (z := w_fi ws (n_v vs 0) 15) (by omega) (by omega) (by omega) (by omega)
  have ey2 : v_iv (Value.int y) = w_fi ws (n_v vs 0) 15 := ey
  have ey3 : 0 ≤ v_iv (Value.int y) ∧ v_iv (Value.int y) ≤ 2000 := tv_rng hy
  obtain ⟨u, eu, hu⟩ := iv_ex (ta := ta) (lo := 0) (hi := 4) (z := v_iv (n_v vs 3)) (by omega) (by omega) (by omega) (by omega)
  have eu2 : v_iv (Value.int u) = v_iv (n_v vs 3) := eu
  have eu3 : 0 ≤ v_iv (Value.int u) ∧ v_iv (Value.int u) ≤ 4 := tv_rng hu
  obtain ⟨w, ew, hw⟩ := iv_ex (ta := ta) (lo := 0) (hi := 48) (z := v_iv (n_v vs 7)) (by omega) (by omega) (by omega) (by omega)
  have ew2 : v_iv (Value.int w) = v_iv (n_v vs 7) := ew
  have ew3 : 0 ≤ v_iv (Value.int w) ∧ v_iv (Value.int w) ≤ 48 := tv_rng hw
  obtain ⟨c, ec, hc⟩ := iv_ex (ta := ta) (lo := 0) (hi := 1) (z := v_iv (n_v vs 15)) (by omega) (by omega) (by omega) (by omega)
  have ec2 : v_iv (Value.int c) = v_iv (n_v vs 15) := ec
  have ec3 : 0 ≤ v_iv (Value.int c) ∧ v_iv (Value.int c) ≤ 1 := tv_rng hc
  have e_2 : n_v (vs ++ [Value.int x, Value.int y, Value.int u, Value.int w, Value.int c]) 2 = n_v vs 2 := n_v_old (by rw [hl]; decide)
  have e_3 : n_v (vs ++ [Value.int x, Value.int y, Value.int u, Value.int w, Value.int c]) 3 = n_v vs 3 := n_v_old (by rw [hl]; decide)
  have e_4 : n_v (vs ++ [Value.int x, Value.int y, Value.int u, Value.int w, Value.int c]) 4 = n_v vs 4 := n_v_old (by rw [hl]; decide)
  have e_5 : n_v (vs ++ [Value.int x, Value.int y, Value.int u, Value.int w, Value.int c]) 5 = n_v vs 5 := n_v_old (by rw [hl]; decide)
  have e_6 : n_v (vs ++ [Value.int x, Value.int y, Value.int u, Value.int w, Value.int c]) 6 = n_v vs 6 := n_v_old (by rw [hl]; decide)
  have e_7 : n_v (vs ++ [Value.int x, Value.int y, Value.int u, Value.int w, Value.int c]) 7 = n_v vs 7 := n_v_old (by rw [hl]; decide)
  have e_8 : n_v (vs ++ [Value.int x, Value.int y, Value.int u, Value.int w, Value.int c]) 8 = n_v vs 8 := n_v_old (by rw [hl]; decide)
  have e_15 : n_v (vs ++ [Value.int x, Value.int y, Value.int u, Value.int w, Value.int c]) 15 = n_v vs 15 := n_v_old (by rw [hl]; decide)
  have e_17 : n_v (vs ++ [Value.int x, Value.int y, Value.int u, Value.int w, Value.int c]) 17 = Value.int x := n_v_newk (k := 0) hl rfl
  have e_18 : n_v (vs ++ [Value.int x, Value.int y, Value.int u, Value.int w, Value.int c]) 18 = Value.int y := n_v_newk (k := 1) hl rfl
  have e_19 : n_v (vs ++ [Value.int x, Value.int y, Value.int u, Value.int w, Value.int c]) 19 = Value.int u := n_v_newk (k := 2) hl rfl
  have e_20 : n_v (vs ++ [Value.int x, Value.int y, Value.int u, Value.int w, Value.int c]) 20 = Value.int w := n_v_newk (k := 3) hl rfl
  have e_21 : n_v (vs ++ [Value.int x, Value.int y, Value.int u, Value.int w, Value.int c]) 21 = Value.int c := n_v_newk (k := 4) hl rfl
  have nf0 : fc_1 PRD (23, [17, 2], [0, 1, -1]) ws (vs ++ [Value.int x, Value.int y, Value.int u, Value.int w, Value.int c]) := by
    refine ⟨nf_inA hl rfl, sgq_7 ?_⟩
    · show 1 * v_iv (n_v (vs ++ [Value.int x, Value.int y, Value.int u, Value.int w, Value.int c]) 17) + ((-1) * v_iv (n_v (vs ++ [Value.int x, Value.int y, Value.int u, Value.int w, Value.int c]) 2) + 0) ≤ 0
      simp only [e_2, e_17]
      exact vc_Mo_edgeItem_11_0 (v_iv (n_v vs 2)) (w_fi ws (n_v vs 0) 5) (v_iv (Value.int x)) k2 ex2
  have nf1 : fc_1 PRD (23, [17, 2], [0, -1, 1]) ws (vs ++ [Value.int x, Value.int y, Value.int u, Value.int w, Value.int c]) := by
    refine ⟨nf_inA hl rfl, sgq_22 ?_⟩
    · show (-1) * v_iv (n_v (vs ++ [Value.int x, Value.int y, Value.int u, Value.int w, Value.int c]) 17) + (1 * v_iv (n_v (vs ++ [Value.int x, Value.int y, Value.int u, Value.int w, Value.int c]) 2) + 0) ≤ 0
      simp only [e_2, e_17]
      exact vc_Mo_edgeItem_11_1 (v_iv (n_v vs 2)) (w_fi ws (n_v vs 0) 5) (v_iv (Value.int x)) k2 ex2
  have nf2 : fc_1 PRD (23, [19, 3], [0, 1, -1]) ws (vs ++ [Value.int x, Value.int y, Value.int u, Value.int w, Value.int c]) := by
    refine ⟨nf_inA hl rfl, sgq_7 ?_⟩
    · show 1 * v_iv (n_v (vs ++ [Value.int x, Value.int y, Value.int u, Value.int w, Value.int c]) 19) + ((-1) * v_iv (n_v (vs ++ [Value.int x, Value.int y, Value.int u, Value.int w, Value.int c]) 3) + 0) ≤ 0
      simp only [e_3, e_19]
      exact vc_Mo_edgeItem_11_2 (v_iv (n_v vs 3)) (w_fi ws (n_v vs 0) 5) (v_iv (Value.int u)) k3 eu2
  have nf3 : fc_1 PRD (23, [19, 3], [0, -1, 1]) ws (vs ++ [Value.int x, Value.int y, Value.int u, Value.int w, Value.int c]) := by
    refine ⟨nf_inA hl rfl, sgq_22 ?_⟩
    · show (-1) * v_iv (n_v (vs ++ [Value.int x, Value.int y, Value.int u, Value.int w, Value.int c]) 19) + (1 * v_iv (n_v (vs ++ [Value.int x, Value.int y, Value.int u, Value.int w, Value.int c]) 3) + 0) ≤ 0
      simp only [e_3, e_19]
      exact vc_Mo_edgeItem_11_3 (v_iv (n_v vs 3)) (w_fi ws (n_v vs 0) 5) (v_iv (Value.int u)) k3 eu2
  have nf4 : fc_1 PRD (23, [20, 7], [0, 1, -1]) ws (vs ++ [Value.int x, Value.int y, Value.int u, Value.int w, Value.int c]) := by
    refine ⟨nf_inA hl rfl, sgq_7 ?_⟩
    · show 1 * v_iv (n_v (vs ++ [Value.int x, Value.int y, Value.int u, Value.int w, Value.int c]) 20) + ((-1) * v_iv (n_v (vs ++ [Value.int x, Value.int y, Value.int u, Value.int w, Value.int c]) 7) + 0) ≤ 0
      simp only [e_7, e_20]
      exact vc_Mo_edgeItem_11_4 (v_iv (n_v vs 7)) (w_fi ws (n_v vs 0) 5) (v_iv (Value.int w)) k7 ew2
  have nf5 : fc_1 PRD (23, [20, 7], [0, -1, 1]) ws (vs ++ [Value.int x, Value.int y, Value.int u, Value.int w, Value.int c]) := by
    refine ⟨nf_inA hl rfl, sgq_22 ?_⟩
    · show (-1) * v_iv (n_v (vs ++ [Value.int x, Value.int y, Value.int u, Value.int w, Value.int c]) 20) + (1 * v_iv (n_v (vs ++ [Value.int x, Value.int y, Value.int u, Value.int w, Value.int c]) 7) + 0) ≤ 0
      simp only [e_7, e_20]
      exact vc_Mo_edgeItem_11_5 (v_iv (n_v vs 7)) (w_fi ws (n_v vs 0) 5) (v_iv (Value.int w)) k7 ew2
  have nf6 : fc_1 PRD (23, [21, 15], [0, 1, -1]) ws (vs ++ [Value.int x, Value.int y, Value.int u, Value.int w, Value.int c]) := by
    refine ⟨nf_inA hl rfl, sgq_7 ?_⟩
    · show 1 * v_iv (n_v (vs ++ [Value.int x, Value.int y, Value.int u, Value.int w, Value.int c]) 21) + ((-1) * v_iv (n_v (vs ++ [Value.int x, Value.int y, Value.int u, Value.int w, Value.int c]) 15) + 0) ≤ 0
      simp only [e_15, e_21]
      exact vc_Mo_edgeItem_11_6 (v_iv (n_v vs 15)) (w_fi ws (n_v vs 0) 5) (v_iv (Value.int c)) k15 ec2
  have nf7 : fc_1 PRD (23, [21, 15], [0, -1, 1]) ws (vs ++ [Value.int x, Value.int y, Value.int u, Value.int w, Value.int c]) := by
    refine ⟨nf_inA hl rfl, sgq_22 ?_⟩
    · show (-1) * v_iv (n_v (vs ++ [Value.int x, Value.int y, Value.int u, Value.int w, Value.int c]) 21) + (1 * v_iv (n_v (vs ++ [Value.int x, Value.int y, Value.int u, Value.int w, Value.int c]) 15) + 0) ≤ 0
      simp only [e_15, e_21]
      exact vc_Mo_edgeItem_11_7 (v_iv (n_v vs 15)) (w_fi ws (n_v vs 0) 5) (v_iv (Value.int c)) k15 ec2
  have nf8 : fc_1 PRD (20, [4, 4], [30, 0, 1, 1, 15, -1, 1, 11]) ws (vs ++ [Value.int x, Value.int y, Value.int u, Value.int w, Value.int c]) := by
    refine ⟨nf_inA hl rfl, sgq_1437 ?_⟩
    · show 1 * w_fi ws (n_v (vs ++ [Value.int x, Value.int y, Value.int u, Value.int w, Value.int c]) 4) 15 + ((-1) * w_fi ws (n_v (vs ++ [Value.int x, Value.int y, Value.int u, Value.int w, Value.int c]) 4) 11 + 0) ≤ 0
      simp only [e_4, q4]
      exact vc_Mo_edgeItem_11_8 (w_fi ws (n_v vs 0) 5) (w_fi ws (n_v vs 0) 15) (w_fi ws (n_v vs 0) 11) f12 kz_0_11 kz_0_15
  have nf9 : fc_1 PRD (20, [4], [50, 3, 0, 12, 11, 15, 2, 21, 4, 7, 1, 3, 2, 0, 12, 0, 1, 0, 3, 2, 0, 11, 4, 3, 2, 0, 15, 0, 8, 3, 7, 1, 3, 2, 0, 12, 0, 0, 0, 7, 4, 3, 2, 0, 15, 0, 1, 2, 0, 11]) ws (vs ++ [Value.int x, Value.int y, Value.int u, Value.int w, Value.int c]) := by
    refine ⟨nf_inA hl rfl, sgq_1438 ?_⟩
    · show ((w_fi ws (n_v (vs ++ [Value.int x, Value.int y, Value.int u, Value.int w, Value.int c]) 4) 12 = 1) → (w_fi ws (n_v (vs ++ [Value.int x, Value.int y, Value.int u, Value.int w, Value.int c]) 4) 11 ≤ (w_fi ws (n_v (vs ++ [Value.int x, Value.int y, Value.int u, Value.int w, Value.int c]) 4) 15 + 8))) ∧ ((w_fi ws (n_v (vs ++ [Value.int x, Value.int y, Value.int u, Value.int w, Value.int c]) 4) 12 = 0) ∨ ((w_fi ws (n_v (vs ++ [Value.int x, Value.int y, Value.int u, Value.int w, Value.int c]) 4) 15 + 1) ≤ w_fi ws (n_v (vs ++ [Value.int x, Value.int y, Value.int u, Value.int w, Value.int c]) 4) 11))
      simp only [e_4, q4]
      exact vc_Mo_edgeItem_11_9 (w_fi ws (n_v vs 0) 5) (w_fi ws (n_v vs 0) 15) (w_fi ws (n_v vs 0) 11) (w_fi ws (n_v vs 0) 12) f13 kz_0_11 kz_0_12 kz_0_15
  have nf10 : fc_1 PRD (20, [17, 4], [30, 0, 1, 0, 0, -1, 1, 11]) ws (vs ++ [Value.int x, Value.int y, Value.int u, Value.int w, Value.int c]) := by
    refine ⟨nf_inA hl rfl, sgq_1431 ?_⟩
    · show 1 * v_iv (n_v (vs ++ [Value.int x, Value.int y, Value.int u, Value.int w, Value.int c]) 17) + ((-1) * w_fi ws (n_v (vs ++ [Value.int x, Value.int y, Value.int u, Value.int w, Value.int c]) 4) 11 + 0) ≤ 0
      simp only [e_4, e_17, q4]
      exact vc_Mo_edgeItem_11_10 (v_iv (n_v vs 2)) (v_iv (n_v vs 16)) (w_fi ws (n_v vs 0) 5) (w_fi ws (n_v vs 0) 15) (w_fi ws (n_v vs 0) 11) (v_iv (Value.int x)) (v_iv (Value.int y)) k2 k16 f0 f12 f14 kz_0_11 kz_0_15 ex2 ey2
  have nf11 : fc_1 PRD (20, [4, 18], [50, 2, 0, 12, 11, 3, 7, 1, 3, 2, 0, 12, 0, 0, 0, 6, 4, 2, 1, 1, 0, 1, 2, 0, 11]) ws (vs ++ [Value.int x, Value.int y, Value.int u, Value.int w, Value.int c]) := by
    refine ⟨nf_inA hl rfl, sgq_2111 ?_⟩
    · show (w_fi ws (n_v (vs ++ [Value.int x, Value.int y, Value.int u, Value.int w, Value.int c]) 4) 12 = 0) ∨ ((v_iv (n_v (vs ++ [Value.int x, Value.int y, Value.int u, Value.int w, Value.int c]) 18) + 1) ≤ w_fi ws (n_v (vs ++ [Value.int x, Value.int y, Value.int u, Value.int w, Value.int c]) 4) 11)
      simp only [e_4, e_18, q4]
      exact vc_Mo_edgeItem_11_11 (w_fi ws (n_v vs 0) 5) (w_fi ws (n_v vs 0) 15) (w_fi ws (n_v vs 0) 11) (w_fi ws (n_v vs 0) 12) (v_iv (Value.int y)) f12 f13 kz_0_11 kz_0_12 kz_0_15 ey2
  have nf12 : fc_1 PRD (20, [5, 4], [50, 1, 1, 1005, 1002, 0, 6, 4, 2, 1, 0, 0, 1, 3, 1, 2, 4, 3, 2, 1, 5, 0, 2]) ws (vs ++ [Value.int x, Value.int y, Value.int u, Value.int w, Value.int c]) := by
    refine ⟨nf_inA hl rfl, sgq_1009 ?_⟩
    · show (v_iv (n_v (vs ++ [Value.int x, Value.int y, Value.int u, Value.int w, Value.int c]) 5) + 1) ≤ w_ei ws (w_ar ws (n_v (vs ++ [Value.int x, Value.int y, Value.int u, Value.int w, Value.int c]) 4) 2) ((w_fi ws (n_v (vs ++ [Value.int x, Value.int y, Value.int u, Value.int w, Value.int c]) 4) 5 + 2))
      simp only [e_4, e_5, q4, q5]
      exact vc_Mo_edgeItem_11_12 (v_iv (n_v vs 1)) (w_ei ws (w_ar ws (n_v vs 0) 2)) (w_fi ws (n_v vs 0) 5) k1 f6
  have nf13 : fc_1 PRD (20, [4], [60, 1, 3, 199, 5, 2, 3, 4]) ws (vs ++ [Value.int x, Value.int y, Value.int u, Value.int w, Value.int c]) := by
    refine ⟨nf_inA hl rfl, sgq_980 ?_⟩
    · show RWS (w_fi ws (n_v (vs ++ [Value.int x, Value.int y, Value.int u, Value.int w, Value.int c]) 4) 5) (w_ei ws (w_ar ws (n_v (vs ++ [Value.int x, Value.int y, Value.int u, Value.int w, Value.int c]) 4) 2)) (w_ei ws (w_ar ws (n_v (vs ++ [Value.int x, Value.int y, Value.int u, Value.int w, Value.int c]) 4) 3)) (w_ei ws (w_ar ws (n_v (vs ++ [Value.int x, Value.int y, Value.int u, Value.int w, Value.int c]) 4) 4))
      simp only [e_4, q4]
      exact vc_Mo_edgeItem_11_13 (w_ei ws (w_ar ws (n_v vs 0) 2)) (w_fi ws (n_v vs 0) 5) (w_ei ws (w_ar ws (n_v vs 0) 3)) (w_ei ws (w_ar ws (n_v vs 0) 4)) f8
  have nf14 : fc_1 PRD (20, [4, 6], [60, 1, 1, 241, 5, 2]) ws (vs ++ [Value.int x, Value.int y, Value.int u, Value.int w, Value.int c]) := by
    refine ⟨nf_inA hl rfl, sgq_2112 ?_⟩
    · show MEB (w_fi ws (n_v (vs ++ [Value.int x, Value.int y, Value.int u, Value.int w, Value.int c]) 4) 5) (w_ei ws (w_ar ws (n_v (vs ++ [Value.int x, Value.int y, Value.int u, Value.int w, Value.int c]) 4) 2)) (v_iv (n_v (vs ++ [Value.int x, Value.int y, Value.int u, Value.int w, Value.int c]) 6))
      simp only [e_4, e_6, q4]
      exact vc_Mo_edgeItem_11_14 (v_iv (n_v vs 6)) (w_ei ws (w_ar ws (n_v vs 0) 2)) (w_fi ws (n_v vs 0) 8) (w_fi ws (n_v vs 0) 5) k6 f5 f9 kz_0_8
  have nf15 : fc_1 PRD (20, [4, 6, 20, 21, 5, 19], [60, 8, 2, 993, 10, 11, 12, 13, 14, 15, 8, 5, 1, 2]) ws (vs ++ [Value.int x, Value.int y, Value.int u, Value.int w, Value.int c]) := by
    refine ⟨nf_inA hl rfl, sgq_2126 ?_⟩
    · show zRS4 (w_fi ws (n_v (vs ++ [Value.int x, Value.int y, Value.int u, Value.int w, Value.int c]) 4) 10) (w_fi ws (n_v (vs ++ [Value.int x, Value.int y, Value.int u, Value.int w, Value.int c]) 4) 11) (w_fi ws (n_v (vs ++ [Value.int x, Value.int y, Value.int u, Value.int w, Value.int c]) 4) 12) (w_fi ws (n_v (vs ++ [Value.int x, Value.int y, Value.int u, Value.int w, Value.int c]) 4) 13) (w_fi ws (n_v (vs ++ [Value.int x, Value.int y, Value.int u, Value.int w, Value.int c]) 4) 14) (w_fi ws (n_v (vs ++ [Value.int x, Value.int y, Value.int u, Value.int w, Value.int c]) 4) 15) (w_fi ws (n_v (vs ++ [Value.int x, Value.int y, Value.int u, Value.int w, Value.int c]) 4) 8) (w_fi ws (n_v (vs ++ [Value.int x, Value.int y, Value.int u, Value.int w, Value.int c]) 4) 5) (w_ei ws (w_ar ws (n_v (vs ++ [Value.int x, Value.int y, Value.int u, Value.int w, Value.int c]) 4) 1)) (w_ei ws (w_ar ws (n_v (vs ++ [Value.int x, Value.int y, Value.int u, Value.int w, Value.int c]) 4) 2)) (v_iv (n_v (vs ++ [Value.int x, Value.int y, Value.int u, Value.int w, Value.int c]) 6)) (v_iv (n_v (vs ++ [Value.int x, Value.int y, Value.int u, Value.int w, Value.int c]) 20)) (v_iv (n_v (vs ++ [Value.int x, Value.int y, Value.int u, Value.int w, Value.int c]) 21)) (v_iv (n_v (vs ++ [Value.int x, Value.int y, Value.int u, Value.int w, Value.int c]) 5)) (v_iv (n_v (vs ++ [Value.int x, Value.int y, Value.int u, Value.int w, Value.int c]) 19))
      simp only [e_4, e_5, e_6, e_19, e_20, e_21, q4, q5]
      exact vc_Mo_edgeItem_11_15 (v_iv (n_v vs 1)) (v_iv (n_v vs 2)) (v_iv (n_v vs 3)) (v_iv (n_v vs 6)) (v_iv (n_v vs 7)) (v_iv (n_v vs 15)) (v_iv (n_v vs 16)) (w_ei ws (w_ar ws (n_v vs 0) 1)) (w_ei ws (w_ar ws (n_v vs 0) 2)) (w_fi ws (n_v vs 0) 10) (w_fi ws (n_v vs 0) 8) (w_fi ws (n_v vs 0) 5) (w_fi ws (n_v vs 0) 15) (w_fi ws (n_v vs 0) 11) (w_fi ws (n_v vs 0) 12) (w_fi ws (n_v vs 0) 13) (w_fi ws (n_v vs 0) 14) (v_iv (Value.int x)) (v_iv (Value.int y)) (v_iv (Value.int u)) (v_iv (Value.int w)) (v_iv (Value.int c)) k1 k2 k3 k6 k7 k15 k16 f2 f15 kz_0_8 kz_0_10 kz_0_11 kz_0_12 kz_0_13 kz_0_14 kz_0_15 ex2 ey2 eu2 ew2 ec2
  have nf16 : fc_1 PRD (20, [6], [50, 0, 0, 0, 2, 0, 0, 1, 0]) ws (vs ++ [Value.int x, Value.int y, Value.int u, Value.int w, Value.int c]) := by
    refine ⟨nf_inA hl rfl, sgq_722 ?_⟩
    · show 0 ≤ v_iv (n_v (vs ++ [Value.int x, Value.int y, Value.int u, Value.int w, Value.int c]) 6)
      rw [e_6]
      exact vc_Mo_edgeItem_11_16 (v_iv (n_v vs 6)) (w_fi ws (n_v vs 0) 5) k6 f4
  have nf17 : fc_1 PRD (23, [8, 18], [-2000, -1, -1]) ws (vs ++ [Value.int x, Value.int y, Value.int u, Value.int w, Value.int c]) := by
    refine ⟨nf_inA hl rfl, sgq_2009 ?_⟩
    · show (-1) * v_iv (n_v (vs ++ [Value.int x, Value.int y, Value.int u, Value.int w, Value.int c]) 8) + ((-1) * v_iv (n_v (vs ++ [Value.int x, Value.int y, Value.int u, Value.int w, Value.int c]) 18) + 0) ≤ (-2000)
      simp only [e_8, e_18]
      exact vc_Mo_edgeItem_11_17 (v_iv (n_v vs 8)) (v_iv (n_v vs 16)) (w_fi ws (n_v vs 0) 5) (w_fi ws (n_v vs 0) 15) (v_iv (Value.int y)) k8 k16 f1 f14 kz_0_15 ey2
  have nf18 : fc_1 PRD (23, [2, 18], [-1, 1, -1]) ws (vs ++ [Value.int x, Value.int y, Value.int u, Value.int w, Value.int c]) := by
    refine ⟨nf_inA hl rfl, sgq_193 ?_⟩
    · show 1 * v_iv (n_v (vs ++ [Value.int x, Value.int y, Value.int u, Value.int w, Value.int c]) 2) + ((-1) * v_iv (n_v (vs ++ [Value.int x, Value.int y, Value.int u, Value.int w, Value.int c]) 18) + 0) ≤ (-1)
      simp only [e_2, e_18]
      exact vc_Mo_edgeItem_11_18 (v_iv (n_v vs 2)) (v_iv (n_v vs 16)) (w_fi ws (n_v vs 0) 5) (w_fi ws (n_v vs 0) 15) (v_iv (Value.int x)) (v_iv (Value.int y)) k2 k16 f0 f14 kz_0_15 ex2 ey2
  exact ⟨(fun _ h => (by cases h)), [Value.int x, Value.int y, Value.int u, Value.int w, Value.int c], ag_five hx hy hu hw hc, List.forall_mem_cons.mpr ⟨⟨show (23 : Nat) < 100 from by decide, nf0⟩, List.forall_mem_cons.mpr ⟨⟨show (23 : Nat) < 100 from by decide, nf1⟩, List.forall_mem_cons.mpr ⟨⟨show (23 : Nat) < 100 from by decide, nf2⟩, List.forall_mem_cons.mpr ⟨⟨show (23 : Nat) < 100 from by decide, nf3⟩, List.forall_mem_cons.mpr ⟨⟨show (23 : Nat) < 100 from by decide, nf4⟩, List.forall_mem_cons.mpr ⟨⟨show (23 : Nat) < 100 from by decide, nf5⟩, List.forall_mem_cons.mpr ⟨⟨show (23 : Nat) < 100 from by decide, nf6⟩, List.forall_mem_cons.mpr ⟨⟨show (23 : Nat) < 100 from by decide, nf7⟩, List.forall_mem_cons.mpr ⟨⟨show (20 : Nat) < 100 from by decide, nf8⟩, List.forall_mem_cons.mpr ⟨⟨show (20 : Nat) < 100 from by decide, nf9⟩, List.forall_mem_cons.mpr ⟨⟨show (20 : Nat) < 100 from by decide, nf10⟩, List.forall_mem_cons.mpr ⟨⟨show (20 : Nat) < 100 from by decide, nf11⟩, List.forall_mem_cons.mpr ⟨⟨show (20 : Nat) < 100 from by decide, nf12⟩, List.forall_mem_cons.mpr ⟨⟨show (20 : Nat) < 100 from by decide, nf13⟩, List.forall_mem_cons.mpr ⟨⟨show (20 : Nat) < 100 from by decide, nf14⟩, List.forall_mem_cons.mpr ⟨⟨show (20 : Nat) < 100 from by decide, nf15⟩, List.forall_mem_cons.mpr ⟨⟨show (20 : Nat) < 100 from by decide, nf16⟩, List.forall_mem_cons.mpr ⟨⟨show (23 : Nat) < 100 from by decide, nf17⟩, List.forall_mem_cons.mpr ⟨⟨show (23 : Nat) < 100 from by decide, nf18⟩, (fun _ h => (by cases h))⟩⟩⟩⟩⟩⟩⟩⟩⟩⟩⟩⟩⟩⟩⟩⟩⟩⟩⟩, (fun _ h => (by cases h))⟩
set_option maxHeartbeats 4000000 in
theorem vc_Mo_edgeItem_12_0 (x6 : Int) (x22 : Int) (x23 : Int) (fault_0 : Int) (all_0 : Int → Int) (r_0 : Int) (k6 : (-1) ≤ x6 ∧ x6 ≤ 23) (k22 : (-1) ≤ x22 ∧ x22 ≤ 23) (k23 : 0 ≤ x23 ∧ x23 ≤ 0) (g1 : x23 = fault_0) (f10 : 0 ≤ x6) (f24 : ((-1) * fault_0 + 0 ≤ (-1)) ∨ ((-1) * x22 + 0 ≤ 0)) (f25 : (1 ≤ fault_0) ∨ ((x6 ≤ (-1)) ∨ (all_0 ((r_0 + 1)) ≤ 47))) (kz_0_8 : 0 ≤ fault_0 ∧ fault_0 ≤ 5) : (-1) * x22 + 0 ≤ 0 := by
  first
    | omega
    | (have q1 := (hE_0_2_1 (r_0 + 2) (by omega)).2 (by omega)
       have q2 := (hE_0_2_2 (r_0 + 2) (by omega)).2 (by omega)
       omega)
    | (have q1 := (hE_0_2_1 (r_0 + 1) (by omega)).2 (by omega)
       have q2 := (hE_0_2_2 (r_0 + 1) (by omega)).2 (by omega)
       omega)
    | (have q1 := (hE_0_2_1 (r_0 + 2) (by omega)).2 (by omega)
       omega)
    | (have q1 := (hE_0_2_1 (r_0 + 1) (by omega)).2 (by omega)
       omega)
    | (have q1 := (hE_0_2_1 (r_0 + 2) (by omega)).2 (by omega)
       have q2 := (hE_0_2_2 (r_0 + 2) (by omega)).2 (by omega)
       have q3 := (hE_0_2_3 (r_0 + 2) (by omega)).1 (by omega)
       omega)
    | (have q1 := (hE_0_2_1 (r_0 + 2) (by omega)).2 (by omega)
       have q2 := (hE_0_2_2 (r_0 + 2) (by omega)).2 (by omega)
       have q3 := (hE_0_2_3 (r_0 + 2) (by omega)).2 (by omega)
       omega)
def o_Mo_edgeItem_12 : or_T := (100, 24, [(0, (2, 0, 0, [165])), (1, (0, 0, 7, [])), (2, (0, 0, 2000, [])), (3, (0, 0, 4, [])), (4, (2, 0, 0, [165])), (5, (0, 0, 7, [])), (6, (0, -1, 23, [])), (7, (0, 0, 48, [])), (8, (0, 0, 2000, [])), (15, (0, 0, 0, [])), (16, (0, 0, 2000, [])), (17, (0, 0, 2000, [])), (18, (0, 0, 2000, [])), (19, (0, 0, 4, [])), (20, (0, 0, 48, [])), (21, (0, 0, 1, [])), (22, (0, -1, 23, [])), (23, (0, 0, 0, []))], [(8, [23], [5]), (9, [23, 4], [8]), (23, [17, 2], [0, 1, -1]), (23, [17, 2], [0, -1, 1]), (23, [19, 3], [0, 1, -1]), (23, [19, 3], [0, -1, 1]), (23, [20, 7], [0, 1, -1]), (23, [20, 7], [0, -1, 1]), (23, [21, 15], [0, 1, -1]), (23, [21, 15], [0, -1, 1]), (20, [6], [50, 0, 0, 0, 2, 0, 0, 1, 0]), (23, [8, 18], [-2000, -1, -1]), (23, [2, 18], [-1, 1, -1]), (23, [2, 16], [-1, 1, -1]), (23, [8, 16], [-2000, -1, -1]), (20, [2, 16], [30, 0, 1, 0, 0, -1, 0, 0]), (23, [6], [0, -1]), (24, [0, 4], []), (24, [1, 5], []), (20, [4, 4], [30, 0, 1, 1, 15, -1, 1, 11]), (20, [4], [50, 3, 0, 12, 11, 15, 2, 21, 4, 7, 1, 3, 2, 0, 12, 0, 1, 0, 3, 2, 0, 11, 4, 3, 2, 0, 15, 0, 8, 3, 7, 1, 3, 2, 0, 12, 0, 0, 0, 7, 4, 3, 2, 0, 15, 0, 1, 2, 0, 11]), (20, [17, 4], [30, 0, 1, 0, 0, -1, 1, 11]), (20, [4, 17], [50, 3, 0, 8, 12, 11, 3, 7, 0, 2, 0, 1, 2, 0, 8, 3, 7, 1, 3, 2, 0, 12, 0, 0, 0, 6, 4, 2, 1, 1, 0, 1, 2, 0, 11]), (20, [4, 18], [50, 2, 0, 8, 11, 3, 7, 0, 2, 0, 1, 2, 0, 8, 0, 6, 4, 2, 1, 1, 0, 1, 2, 0, 11]), (20, [4, 22], [31, 1, -1, -1, 1, 8, 0, -1, 0, 0]), (20, [4, 6], [50, 2, 1, 8, 5, 2, 3, 7, 0, 2, 0, 1, 2, 0, 8, 3, 6, 0, 2, 1, 1, 0, -1, 0, 10, 3, 0, 2, 4, 3, 2, 0, 5, 0, 1, 0, 47]), (20, [5, 4], [50, 1, 1, 1005, 1002, 0, 6, 4, 2, 1, 0, 0, 1, 3, 1, 2, 4, 3, 2, 1, 5, 0, 2]), (20, [4], [60, 1, 3, 199, 5, 2, 3, 4]), (20, [4, 6, 22], [60, 2, 1, 240, 5, 8, 2]), (20, [4, 22, 20, 6, 21, 5, 19], [60, 9, 2, 1011, 10, 11, 12, 13, 14, 15, 8, 9, 5, 1, 2]), (102, [21], [187072209578355573530071658587684226515959365500928, 165008, 165009, 165011, 165012, 165013, 165014, 165015]), (23, [17, 2], [0, 1, -1]), (23, [17, 2], [0, -1, 1]), (23, [19, 3], [0, 1, -1]), (23, [19, 3], [0, -1, 1]), (23, [20, 7], [0, 1, -1]), (23, [20, 7], [0, -1, 1]), (23, [21, 15], [0, 1, -1]), (23, [21, 15], [0, -1, 1]), (23, [8, 18], [-2000, -1, -1]), (23, [2, 18], [-1, 1, -1]), (23, [2, 16], [-1, 1, -1]), (23, [8, 16], [-2000, -1, -1]), (23, [6], [0, -1]), (102, [16], [0, 165011, 165012, 165013, 165014, 165015]), (23, [2, 16], [-1, 1, -1]), (23, [8, 16], [-2000, -1, -1]), (23, [6], [0, -1])], [], [], [(23, [22], [0, -1])], [], [(1, 5, -4294967296, 0), (5, 1, -4294967296, 0)])
theorem oo_Mo_edgeItem_12 {kA : Nat → ClassId} : or_ok PRD kA GG o_Mo_edgeItem_12 := by
  refine or_mk fun A ta ws vs hD hth hl => ?_
  intro t0 r0 t1 k1 t2 k2 t3 k3 t4 r4 t5 k5 t6 k6 t7 k7 t8 k8 t15 k15 t16 k16 t17 k17 t18 k18 t19 k19 t20 k20 t21 k21 t22 k22 t23 k23 d0 d1 f0 f1 f2 f3 f4 f5 f6 f7 f8 f9 f10 f11 f12 f13 f14 f15 f16 f17 f18 f19 f20 f21 f22 f23 f24 f25 f26 f27 f28 f29 ta1 w1 le1 s1 f31 f32 f33 f34 f35 f36 f37 f38 f39 f40 f41 f42 f43 ta2 w2 le2 s2 f45 f46 f47
  replace f1 := shm_293 f1
  replace f17 := shm_5 f17
  replace f24 := shm_2117 f24
  replace f25 := shm_2118 f25
  have q4 : n_v vs 4 = n_v vs 0 := f17.symm
  simp only [q4] at f1 f24 f25
  have g1 : v_iv (n_v vs 23) = w_fi ws (n_v vs 0) 8 := congrArg v_iv f1
  have kz_0_8 := fdq_34 hD hth r0
  have nf0 : fc_1 PRD (23, [22], [0, -1]) ws (vs) := ⟨nf_in hl rfl, sgq_1043 (vc_Mo_edgeItem_12_0 (v_iv (n_v vs 6)) (v_iv (n_v vs 22)) (v_iv (n_v vs 23)) (w_fi ws (n_v vs 0) 8) (w_ei ws (w_ar ws (n_v vs 0) 2)) (w_fi ws (n_v vs 0) 5) k6 k22 k23 g1 (shm_722 f10) f24 f25 kz_0_8)⟩
  refine ⟨(fun _ h => (by cases h)), [], trivial, ?_, (fun _ h => (by cases h))⟩
  rw [List.append_nil]
  exact List.forall_mem_cons.mpr ⟨⟨show (23 : Nat) < 100 from by decide, nf0⟩, (fun _ h => (by cases h))⟩
set_option maxHeartbeats 4000000 in
theorem vc_Mo_edgeItem_13_r0 (x22 : Int) (r_0 : Int) (k22 : (-1) ≤ x22 ∧ x22 ≤ 23) (f0 : (-1) * x22 + 0 ≤ 0) : 0 ≤ x22 ∧ x22 ≤ 23 := by
  first
    | omega
    | (have q1 := (hE_0_2_1 (r_0 + 2) (by omega)).2 (by omega)
       have q2 := (hE_0_2_2 (r_0 + 2) (by omega)).2 (by omega)
       omega)
    | (have q1 := (hE_0_2_1 (r_0 + 1) (by omega)).2 (by omega)
       have q2 := (hE_0_2_2 (r_0 + 1) (by omega)).2 (by omega)
       omega)
    | (have q1 := (hE_0_2_1 (r_0 + 2) (by omega)).2 (by omega)
       omega)
    | (have q1 := (hE_0_2_1 (r_0 + 1) (by omega)).2 (by omega)
       omega)
    | (have q1 := (hE_0_2_1 (r_0 + 2) (by omega)).2 (by omega)
       have q2 := (hE_0_2_2 (r_0 + 2) (by omega)).2 (by omega)
       have q3 := (hE_0_2_3 (r_0 + 2) (by omega)).1 (by omega)
       omega)
    | (have q1 := (hE_0_2_1 (r_0 + 2) (by omega)).2 (by omega)
       have q2 := (hE_0_2_2 (r_0 + 2) (by omega)).2 (by omega)
       have q3 := (hE_0_2_3 (r_0 + 2) (by omega)).2 (by omega)
       omega)
set_option maxHeartbeats 4000000 in
theorem vc_Mo_edgeItem_13_r1 (x6 : Int) (r_0 : Int) (k6 : (-1) ≤ x6 ∧ x6 ≤ 23) (f11 : 0 ≤ x6) : 0 ≤ x6 ∧ x6 ≤ 23 := by
  first
    | omega
    | (have q1 := (hE_0_2_1 (r_0 + 2) (by omega)).2 (by omega)
       have q2 := (hE_0_2_2 (r_0 + 2) (by omega)).2 (by omega)
       omega)
    | (have q1 := (hE_0_2_1 (r_0 + 1) (by omega)).2 (by omega)
       have q2 := (hE_0_2_2 (r_0 + 1) (by omega)).2 (by omega)
       omega)
    | (have q1 := (hE_0_2_1 (r_0 + 2) (by omega)).2 (by omega)
       omega)
    | (have q1 := (hE_0_2_1 (r_0 + 1) (by omega)).2 (by omega)
       omega)
    | (have q1 := (hE_0_2_1 (r_0 + 2) (by omega)).2 (by omega)
       have q2 := (hE_0_2_2 (r_0 + 2) (by omega)).2 (by omega)
       have q3 := (hE_0_2_3 (r_0 + 2) (by omega)).1 (by omega)
       omega)
    | (have q1 := (hE_0_2_1 (r_0 + 2) (by omega)).2 (by omega)
       have q2 := (hE_0_2_2 (r_0 + 2) (by omega)).2 (by omega)
       have q3 := (hE_0_2_3 (r_0 + 2) (by omega)).2 (by omega)
       omega)
set_option maxHeartbeats 4000000 in
theorem vc_Mo_edgeItem_13_0 (x1 : Int) (x5 : Int) (r_0 : Int) (gx : Int) (k1 : 0 ≤ x1 ∧ x1 ≤ 7) (k5 : 0 ≤ x5 ∧ x5 ≤ 7) (d0 : x5 + (-4294967296) ≤ x1 ∧ x1 ≤ x5 + 0) (d1 : x1 + (-4294967296) ≤ x5 ∧ x5 ≤ x1 + 0) (ex2 : gx = x1) : 1 * gx + ((-1) * x1 + 0) ≤ 0 := by
  first
    | omega
    | (have q1 := (hE_0_2_1 (r_0 + 2) (by omega)).2 (by omega)
       have q2 := (hE_0_2_2 (r_0 + 2) (by omega)).2 (by omega)
       omega)
    | (have q1 := (hE_0_2_1 (r_0 + 1) (by omega)).2 (by omega)
       have q2 := (hE_0_2_2 (r_0 + 1) (by omega)).2 (by omega)
       omega)
    | (have q1 := (hE_0_2_1 (r_0 + 2) (by omega)).2 (by omega)
       omega)
    | (have q1 := (hE_0_2_1 (r_0 + 1) (by omega)).2 (by omega)
       omega)
    | (have q1 := (hE_0_2_1 (r_0 + 2) (by omega)).2 (by omega)
       have q2 := (hE_0_2_2 (r_0 + 2) (by omega)).2 (by omega)
       have q3 := (hE_0_2_3 (r_0 + 2) (by omega)).1 (by omega)
       omega)
    | (have q1 := (hE_0_2_1 (r_0 + 2) (by omega)).2 (by omega)
       have q2 := (hE_0_2_2 (r_0 + 2) (by omega)).2 (by omega)
       have q3 := (hE_0_2_3 (r_0 + 2) (by omega)).2 (by omega)
       omega)
set_option maxHeartbeats 4000000 in
theorem vc_Mo_edgeItem_13_1 (x1 : Int) (x5 : Int) (r_0 : Int) (gx : Int) (k1 : 0 ≤ x1 ∧ x1 ≤ 7) (k5 : 0 ≤ x5 ∧ x5 ≤ 7) (d0 : x5 + (-4294967296) ≤ x1 ∧ x1 ≤ x5 + 0) (d1 : x1 + (-4294967296) ≤ x5 ∧ x5 ≤ x1 + 0) (ex2 : gx = x1) : (-1) * gx + (1 * x1 + 0) ≤ 0 := by
  first
    | omega
    | (have q1 := (hE_0_2_1 (r_0 + 2) (by omega)).2 (by omega)
       have q2 := (hE_0_2_2 (r_0 + 2) (by omega)).2 (by omega)
       omega)
    | (have q1 := (hE_0_2_1 (r_0 + 1) (by omega)).2 (by omega)
       have q2 := (hE_0_2_2 (r_0 + 1) (by omega)).2 (by omega)
       omega)
    | (have q1 := (hE_0_2_1 (r_0 + 2) (by omega)).2 (by omega)
       omega)
    | (have q1 := (hE_0_2_1 (r_0 + 1) (by omega)).2 (by omega)
       omega)
    | (have q1 := (hE_0_2_1 (r_0 + 2) (by omega)).2 (by omega)
       have q2 := (hE_0_2_2 (r_0 + 2) (by omega)).2 (by omega)
       have q3 := (hE_0_2_3 (r_0 + 2) (by omega)).1 (by omega)
       omega)
    | (have q1 := (hE_0_2_1 (r_0 + 2) (by omega)).2 (by omega)
       have q2 := (hE_0_2_2 (r_0 + 2) (by omega)).2 (by omega)
       have q3 := (hE_0_2_3 (r_0 + 2) (by omega)).2 (by omega)
       omega)
set_option maxHeartbeats 4000000 in
theorem vc_Mo_edgeItem_13_2 (x3 : Int) (x19 : Int) (r_0 : Int) (gy : Int) (k3 : 0 ≤ x3 ∧ x3 ≤ 4) (k19 : 0 ≤ x19 ∧ x19 ≤ 4) (f5 : 1 * x19 + ((-1) * x3 + 0) ≤ 0) (f6 : (-1) * x19 + (1 * x3 + 0) ≤ 0) (ey2 : gy = x3) : 1 * gy + ((-1) * x3 + 0) ≤ 0 := by
  first
    | omega
    | (have q1 := (hE_0_2_1 (r_0 + 2) (by omega)).2 (by omega)
       have q2 := (hE_0_2_2 (r_0 + 2) (by omega)).2 (by omega)
       omega)
    | (have q1 := (hE_0_2_1 (r_0 + 1) (by omega)).2 (by omega)
       have q2 := (hE_0_2_2 (r_0 + 1) (by omega)).2 (by omega)
       omega)
    | (have q1 := (hE_0_2_1 (r_0 + 2) (by omega)).2 (by omega)
       omega)
    | (have q1 := (hE_0_2_1 (r_0 + 1) (by omega)).2 (by omega)
       omega)
    | (have q1 := (hE_0_2_1 (r_0 + 2) (by omega)).2 (by omega)
       have q2 := (hE_0_2_2 (r_0 + 2) (by omega)).2 (by omega)
       have q3 := (hE_0_2_3 (r_0 + 2) (by omega)).1 (by omega)
       omega)
    | (have q1 := (hE_0_2_1 (r_0 + 2) (by omega)).2 (by omega)
       have q2 := (hE_0_2_2 (r_0 + 2) (by omega)).2 (by omega)
       have q3 := (hE_0_2_3 (r_0 + 2) (by omega)).2 (by omega)
       omega)
set_option maxHeartbeats 4000000 in
theorem vc_Mo_edgeItem_13_3 (x3 : Int) (x19 : Int) (r_0 : Int) (gy : Int) (k3 : 0 ≤ x3 ∧ x3 ≤ 4) (k19 : 0 ≤ x19 ∧ x19 ≤ 4) (f5 : 1 * x19 + ((-1) * x3 + 0) ≤ 0) (f6 : (-1) * x19 + (1 * x3 + 0) ≤ 0) (ey2 : gy = x3) : (-1) * gy + (1 * x3 + 0) ≤ 0 := by
  first
    | omega
    | (have q1 := (hE_0_2_1 (r_0 + 2) (by omega)).2 (by omega)
       have q2 := (hE_0_2_2 (r_0 + 2) (by omega)).2 (by omega)
       omega)
    | (have q1 := (hE_0_2_1 (r_0 + 1) (by omega)).2 (by omega)
       have q2 := (hE_0_2_2 (r_0 + 1) (by omega)).2 (by omega)
       omega)
    | (have q1 := (hE_0_2_1 (r_0 + 2) (by omega)).2 (by omega)
       omega)
    | (have q1 := (hE_0_2_1 (r_0 + 1) (by omega)).2 (by omega)
       omega)
    | (have q1 := (hE_0_2_1 (r_0 + 2) (by omega)).2 (by omega)
       have q2 := (hE_0_2_2 (r_0 + 2) (by omega)).2 (by omega)
       have q3 := (hE_0_2_3 (r_0 + 2) (by omega)).1 (by omega)
       omega)
    | (have q1 := (hE_0_2_1 (r_0 + 2) (by omega)).2 (by omega)
       have q2 := (hE_0_2_2 (r_0 + 2) (by omega)).2 (by omega)
       have q3 := (hE_0_2_3 (r_0 + 2) (by omega)).2 (by omega)
       omega)
set_option maxHeartbeats 4000000 in
theorem vc_Mo_edgeItem_13_4 (x7 : Int) (x20 : Int) (r_0 : Int) (gu : Int) (k7 : 0 ≤ x7 ∧ x7 ≤ 48) (k20 : 0 ≤ x20 ∧ x20 ≤ 48) (f7 : 1 * x20 + ((-1) * x7 + 0) ≤ 0) (f8 : (-1) * x20 + (1 * x7 + 0) ≤ 0) (eu2 : gu = x7) : 1 * gu + ((-1) * x7 + 0) ≤ 0 := by
  first
    | omega
    | (have q1 := (hE_0_2_1 (r_0 + 2) (by omega)).2 (by omega)
       have q2 := (hE_0_2_2 (r_0 + 2) (by omega)).2 (by omega)
       omega)
    | (have q1 := (hE_0_2_1 (r_0 + 1) (by omega)).2 (by omega)
       have q2 := (hE_0_2_2 (r_0 + 1) (by omega)).2 (by omega)
       omega)
    | (have q1 := (hE_0_2_1 (r_0 + 2) (by omega)).2 (by omega)
       omega)
    | (have q1 := (hE_0_2_1 (r_0 + 1) (by omega)).2 (by omega)
       omega)
    | (have q1 := (hE_0_2_1 (r_0 + 2) (by omega)).2 (by omega)
       have q2 := (hE_0_2_2 (r_0 + 2) (by omega)).2 (by omega)
       have q3 := (hE_0_2_3 (r_0 + 2) (by omega)).1 (by omega)
       omega)
    | (have q1 := (hE_0_2_1 (r_0 + 2) (by omega)).2 (by omega)
       have q2 := (hE_0_2_2 (r_0 + 2) (by omega)).2 (by omega)
       have q3 := (hE_0_2_3 (r_0 + 2) (by omega)).2 (by omega)
       omega)
set_option maxHeartbeats 4000000 in
theorem vc_Mo_edgeItem_13_5 (x7 : Int) (x20 : Int) (r_0 : Int) (gu : Int) (k7 : 0 ≤ x7 ∧ x7 ≤ 48) (k20 : 0 ≤ x20 ∧ x20 ≤ 48) (f7 : 1 * x20 + ((-1) * x7 + 0) ≤ 0) (f8 : (-1) * x20 + (1 * x7 + 0) ≤ 0) (eu2 : gu = x7) : (-1) * gu + (1 * x7 + 0) ≤ 0 := by
  first
    | omega
    | (have q1 := (hE_0_2_1 (r_0 + 2) (by omega)).2 (by omega)
       have q2 := (hE_0_2_2 (r_0 + 2) (by omega)).2 (by omega)
       omega)
    | (have q1 := (hE_0_2_1 (r_0 + 1) (by omega)).2 (by omega)
       have q2 := (hE_0_2_2 (r_0 + 1) (by omega)).2 (by omega)
       omega)
    | (have q1 := (hE_0_2_1 (r_0 + 2) (by omega)).2 (by omega)
       omega)
    | (have q1 := (hE_0_2_1 (r_0 + 1) (by omega)).2 (by omega)
       omega)
    | (have q1 := (hE_0_2_1 (r_0 + 2) (by omega)).2 (by omega)
       have q2 := (hE_0_2_2 (r_0 + 2) (by omega)).2 (by omega)
       have q3 := (hE_0_2_3 (r_0 + 2) (by omega)).1 (by omega)
       omega)
    | (have q1 := (hE_0_2_1 (r_0 + 2) (by omega)).2 (by omega)
       have q2 := (hE_0_2_2 (r_0 + 2) (by omega)).2 (by omega)
       have q3 := (hE_0_2_3 (r_0 + 2) (by omega)).2 (by omega)
       omega)
set_option maxHeartbeats 4000000 in
theorem vc_Mo_edgeItem_13_6 (x6 : Int) (x23 : Int) (fault_0 : Int) (all_0 : Int → Int) (r_0 : Int) (k6 : (-1) ≤ x6 ∧ x6 ≤ 23) (k23 : 0 ≤ x23 ∧ x23 ≤ 0) (g2 : x23 = fault_0) (f11 : 0 ≤ x6) (f26 : (1 ≤ fault_0) ∨ ((x6 ≤ (-1)) ∨ (all_0 ((r_0 + 1)) ≤ 47))) (kz_0_8 : 0 ≤ fault_0 ∧ fault_0 ≤ 5) : 1 * all_0 (r_0 + 1) + 0 ≤ 47 := by
  first
    | omega
    | (have q1 := (hE_0_2_1 (r_0 + 2) (by omega)).2 (by omega)
       have q2 := (hE_0_2_2 (r_0 + 2) (by omega)).2 (by omega)
       omega)
    | (have q1 := (hE_0_2_1 (r_0 + 1) (by omega)).2 (by omega)
       have q2 := (hE_0_2_2 (r_0 + 1) (by omega)).2 (by omega)
       omega)
    | (have q1 := (hE_0_2_1 (r_0 + 2) (by omega)).2 (by omega)
       omega)
    | (have q1 := (hE_0_2_1 (r_0 + 1) (by omega)).2 (by omega)
       omega)
    | (have q1 := (hE_0_2_1 (r_0 + 2) (by omega)).2 (by omega)
       have q2 := (hE_0_2_2 (r_0 + 2) (by omega)).2 (by omega)
       have q3 := (hE_0_2_3 (r_0 + 2) (by omega)).1 (by omega)
       omega)
    | (have q1 := (hE_0_2_1 (r_0 + 2) (by omega)).2 (by omega)
       have q2 := (hE_0_2_2 (r_0 + 2) (by omega)).2 (by omega)
       have q3 := (hE_0_2_3 (r_0 + 2) (by omega)).2 (by omega)
       omega)
set_option maxHeartbeats 4000000 in
theorem vc_Mo_edgeItem_13_7 (all_0 : Int → Int) (r_0 : Int) (now_0 : Int → Int) (latest_0 : Int → Int) (f28 : RWS (r_0) (all_0) (now_0) (latest_0)) : RWS (r_0) (all_0) (now_0) (latest_0) := by
  first
    | assumption
set_option maxHeartbeats 4000000 in
theorem vc_Mo_edgeItem_13_8 (x6 : Int) (x22 : Int) (x23 : Int) (fault_0 : Int) (all_0 : Int → Int) (r_0 : Int) (k6 : (-1) ≤ x6 ∧ x6 ≤ 23) (k22 : (-1) ≤ x22 ∧ x22 ≤ 23) (k23 : 0 ≤ x23 ∧ x23 ≤ 0) (g2 : x23 = fault_0) (f11 : 0 ≤ x6) (f29 : MET (r_0) (fault_0) (all_0) (x6) (x22)) (kz_0_8 : 0 ≤ fault_0 ∧ fault_0 ≤ 5) : NWE (r_0) (all_0) (x6) (x22) := by
  have h := (‹MET _ _ _ _ _› (by omega)).2 (by omega)
  first
    | exact h
set_option maxHeartbeats 4000000 in
theorem vc_Mo_edgeItem_13_9 (x1 : Int) (x5 : Int) (all_0 : Int → Int) (r_0 : Int) (gx : Int) (k1 : 0 ≤ x1 ∧ x1 ≤ 7) (k5 : 0 ≤ x5 ∧ x5 ≤ 7) (d0 : x5 + (-4294967296) ≤ x1 ∧ x1 ≤ x5 + 0) (d1 : x1 + (-4294967296) ≤ x5 ∧ x5 ≤ x1 + 0) (f27 : (x1 + 1) ≤ all_0 ((r_0 + 2))) (ex2 : gx = x1) : (gx + 1) ≤ all_0 ((r_0 + 2)) := by
  first
    | omega
    | (have q1 := (hE_0_2_1 (r_0 + 2) (by omega)).2 (by omega)
       have q2 := (hE_0_2_2 (r_0 + 2) (by omega)).2 (by omega)
       omega)
    | (have q1 := (hE_0_2_1 (r_0 + 1) (by omega)).2 (by omega)
       have q2 := (hE_0_2_2 (r_0 + 1) (by omega)).2 (by omega)
       omega)
    | (have q1 := (hE_0_2_1 (r_0 + 2) (by omega)).2 (by omega)
       omega)
    | (have q1 := (hE_0_2_1 (r_0 + 1) (by omega)).2 (by omega)
       omega)
    | (have q1 := (hE_0_2_1 (r_0 + 2) (by omega)).2 (by omega)
       have q2 := (hE_0_2_2 (r_0 + 2) (by omega)).2 (by omega)
       have q3 := (hE_0_2_3 (r_0 + 2) (by omega)).1 (by omega)
       omega)
    | (have q1 := (hE_0_2_1 (r_0 + 2) (by omega)).2 (by omega)
       have q2 := (hE_0_2_2 (r_0 + 2) (by omega)).2 (by omega)
       have q3 := (hE_0_2_3 (r_0 + 2) (by omega)).2 (by omega)
       omega)
set_option maxHeartbeats 4000000 in
theorem vc_Mo_edgeItem_13_10 (x1 : Int) (x2 : Int) (x3 : Int) (x6 : Int) (x7 : Int) (x15 : Int) (x17 : Int) (x19 : Int) (x20 : Int) (x21 : Int) (x22 : Int) (x23 : Int) (fault_0 : Int) (from_0 : Int) (pos_0 : Int) (kind_0 : Int) (all_0 : Int → Int) (r_0 : Int) (tape_0 : Int → Int) (limit_0 : Int) (place_0 : Int) (value_0 : Int) (faultPlace_0 : Int) (gx : Int) (gy : Int) (gu : Int) (k1 : 0 ≤ x1 ∧ x1 ≤ 7) (k2 : 0 ≤ x2 ∧ x2 ≤ 2000) (k3 : 0 ≤ x3 ∧ x3 ≤ 4) (k6 : (-1) ≤ x6 ∧ x6 ≤ 23) (k7 : 0 ≤ x7 ∧ x7 ≤ 48) (k15 : 0 ≤ x15 ∧ x15 ≤ 0) (k17 : 0 ≤ x17 ∧ x17 ≤ 2000) (k19 : 0 ≤ x19 ∧ x19 ≤ 4) (k20 : 0 ≤ x20 ∧ x20 ≤ 48) (k21 : 0 ≤ x21 ∧ x21 ≤ 1) (k22 : (-1) ≤ x22 ∧ x22 ≤ 23) (k23 : 0 ≤ x23 ∧ x23 ≤ 0) (f1 : x23 ≤ 0) (g2 : x23 = fault_0) (f3 : 1 * x17 + ((-1) * x2 + 0) ≤ 0) (f4 : (-1) * x17 + (1 * x2 + 0) ≤ 0) (f5 : 1 * x19 + ((-1) * x3 + 0) ≤ 0) (f6 : (-1) * x19 + (1 * x3 + 0) ≤ 0) (f7 : 1 * x20 + ((-1) * x7 + 0) ≤ 0) (f8 : (-1) * x20 + (1 * x7 + 0) ≤ 0) (f9 : 1 * x21 + ((-1) * x15 + 0) ≤ 0) (f30 : zOP8 (limit_0) (pos_0) (kind_0) (place_0) (value_0) (from_0) (fault_0) (faultPlace_0) (r_0) (tape_0) (all_0) (x22) (x20) (x6) (x21) (x1) (x19)) (kz_0_8 : 0 ≤ fault_0 ∧ fault_0 ≤ 5) (kz_0_9 : 0 ≤ faultPlace_0 ∧ faultPlace_0 ≤ 2000) (kz_0_10 : 0 ≤ limit_0 ∧ limit_0 ≤ 2000) (kz_0_11 : 0 ≤ pos_0 ∧ pos_0 ≤ 2000) (kz_0_12 : 0 ≤ kind_0 ∧ kind_0 ≤ 4) (kz_0_13 : 0 ≤ place_0 ∧ place_0 ≤ 2000) (kz_0_14 : (-49) ≤ value_0 ∧ value_0 ≤ 1048575) (kz_0_15 : 0 ≤ from_0 ∧ from_0 ≤ 2000) (ex2 : gx = x1) (ey2 : gy = x3) (eu2 : gu = x7) : zRP8 (limit_0) (pos_0) (kind_0) (place_0) (value_0) (from_0) (fault_0) (r_0) (tape_0) (all_0) (x22) (gu) (x6) (x15) (gx) (gy) := by
  first | (have el_x17 : x17 = x2 := by omega); subst el_x17 | skip
  first | (have el_x19 : x19 = x3 := by omega); subst el_x19 | skip
  first | (have el_x20 : x20 = x7 := by omega); subst el_x20 | skip
  first | (have el_x21 : x21 = x15 := by omega); subst el_x21 | skip
  first | subst g2 | skip
  first | subst ex2 | skip
  first | subst ey2 | skip
  first | subst eu2 | skip
  exact (‹zOP8 _ _ _ _ _ _ _ _ _ _ _ _ _ _ _ _ _›).resolve_left (fs_n (by omega))
set_option maxHeartbeats 4000000 in
theorem vc_Mo_edgeItem_13_11 (x2 : Int) (x6 : Int) (x17 : Int) (x18 : Int) (x22 : Int) (x23 : Int) (fault_0 : Int) (pos_0 : Int) (all_0 : Int → Int) (r_0 : Int) (k2 : 0 ≤ x2 ∧ x2 ≤ 2000) (k6 : (-1) ≤ x6 ∧ x6 ≤ 23) (k17 : 0 ≤ x17 ∧ x17 ≤ 2000) (k18 : 0 ≤ x18 ∧ x18 ≤ 2000) (k22 : (-1) ≤ x22 ∧ x22 ≤ 23) (k23 : 0 ≤ x23 ∧ x23 ≤ 0) (g2 : x23 = fault_0) (f3 : 1 * x17 + ((-1) * x2 + 0) ≤ 0) (f4 : (-1) * x17 + (1 * x2 + 0) ≤ 0) (f11 : 0 ≤ x6) (f13 : 1 * x2 + ((-1) * x18 + 0) ≤ (-1)) (f22 : 1 * x17 + ((-1) * pos_0 + 0) ≤ 0) (f24 : (1 ≤ fault_0) ∨ ((x18 + 1) ≤ pos_0)) (f25 : ((-1) * fault_0 + 0 ≤ (-1)) ∨ ((-1) * x22 + 0 ≤ 0)) (f26 : (1 ≤ fault_0) ∨ ((x6 ≤ (-1)) ∨ (all_0 ((r_0 + 1)) ≤ 47))) (kz_0_8 : 0 ≤ fault_0 ∧ fault_0 ≤ 5) (kz_0_11 : 0 ≤ pos_0 ∧ pos_0 ≤ 2000) : 1 * x2 + ((-1) * pos_0 + 0) ≤ (-1) := by
  first
    | omega
    | (have q1 := (hE_0_2_1 (r_0 + 2) (by omega)).2 (by omega)
       have q2 := (hE_0_2_2 (r_0 + 2) (by omega)).2 (by omega)
       omega)
    | (have q1 := (hE_0_2_1 (r_0 + 1) (by omega)).2 (by omega)
       have q2 := (hE_0_2_2 (r_0 + 1) (by omega)).2 (by omega)
       omega)
    | (have q1 := (hE_0_2_1 (r_0 + 2) (by omega)).2 (by omega)
       omega)
    | (have q1 := (hE_0_2_1 (r_0 + 1) (by omega)).2 (by omega)
       omega)
    | (have q1 := (hE_0_2_1 (r_0 + 2) (by omega)).2 (by omega)
       have q2 := (hE_0_2_2 (r_0 + 2) (by omega)).2 (by omega)
       have q3 := (hE_0_2_3 (r_0 + 2) (by omega)).1 (by omega)
       omega)
    | (have q1 := (hE_0_2_1 (r_0 + 2) (by omega)).2 (by omega)
       have q2 := (hE_0_2_2 (r_0 + 2) (by omega)).2 (by omega)
       have q3 := (hE_0_2_3 (r_0 + 2) (by omega)).2 (by omega)
       omega)
set_option maxHeartbeats 4000000 in
theorem vc_Mo_edgeItem_13_12 (x6 : Int) (x8 : Int) (x18 : Int) (x22 : Int) (x23 : Int) (fault_0 : Int) (pos_0 : Int) (all_0 : Int → Int) (r_0 : Int) (k6 : (-1) ≤ x6 ∧ x6 ≤ 23) (k8 : 0 ≤ x8 ∧ x8 ≤ 2000) (k18 : 0 ≤ x18 ∧ x18 ≤ 2000) (k22 : (-1) ≤ x22 ∧ x22 ≤ 23) (k23 : 0 ≤ x23 ∧ x23 ≤ 0) (g2 : x23 = fault_0) (f11 : 0 ≤ x6) (f12 : (-1) * x8 + ((-1) * x18 + 0) ≤ (-2000)) (f24 : (1 ≤ fault_0) ∨ ((x18 + 1) ≤ pos_0)) (f25 : ((-1) * fault_0 + 0 ≤ (-1)) ∨ ((-1) * x22 + 0 ≤ 0)) (f26 : (1 ≤ fault_0) ∨ ((x6 ≤ (-1)) ∨ (all_0 ((r_0 + 1)) ≤ 47))) (kz_0_8 : 0 ≤ fault_0 ∧ fault_0 ≤ 5) (kz_0_11 : 0 ≤ pos_0 ∧ pos_0 ≤ 2000) : (-1) * x8 + ((-1) * pos_0 + 0) ≤ (-2001) := by
  first
    | omega
    | (have q1 := (hE_0_2_1 (r_0 + 2) (by omega)).2 (by omega)
       have q2 := (hE_0_2_2 (r_0 + 2) (by omega)).2 (by omega)
       omega)
    | (have q1 := (hE_0_2_1 (r_0 + 1) (by omega)).2 (by omega)
       have q2 := (hE_0_2_2 (r_0 + 1) (by omega)).2 (by omega)
       omega)
    | (have q1 := (hE_0_2_1 (r_0 + 2) (by omega)).2 (by omega)
       omega)
    | (have q1 := (hE_0_2_1 (r_0 + 1) (by omega)).2 (by omega)
       omega)
    | (have q1 := (hE_0_2_1 (r_0 + 2) (by omega)).2 (by omega)
       have q2 := (hE_0_2_2 (r_0 + 2) (by omega)).2 (by omega)
       have q3 := (hE_0_2_3 (r_0 + 2) (by omega)).1 (by omega)
       omega)
    | (have q1 := (hE_0_2_1 (r_0 + 2) (by omega)).2 (by omega)
       have q2 := (hE_0_2_2 (r_0 + 2) (by omega)).2 (by omega)
       have q3 := (hE_0_2_3 (r_0 + 2) (by omega)).2 (by omega)
       omega)
def o_Mo_edgeItem_13 : or_T := (106, 24, [(0, (2, 0, 0, [165])), (1, (0, 0, 7, [])), (2, (0, 0, 2000, [])), (3, (0, 0, 4, [])), (4, (2, 0, 0, [165])), (5, (0, 0, 7, [])), (6, (0, -1, 23, [])), (7, (0, 0, 48, [])), (8, (0, 0, 2000, [])), (15, (0, 0, 0, [])), (16, (0, 0, 2000, [])), (17, (0, 0, 2000, [])), (18, (0, 0, 2000, [])), (19, (0, 0, 4, [])), (20, (0, 0, 48, [])), (21, (0, 0, 1, [])), (22, (0, -1, 23, [])), (23, (0, 0, 0, []))], [(23, [22], [0, -1]), (8, [23], [5]), (9, [23, 4], [8]), (23, [17, 2], [0, 1, -1]), (23, [17, 2], [0, -1, 1]), (23, [19, 3], [0, 1, -1]), (23, [19, 3], [0, -1, 1]), (23, [20, 7], [0, 1, -1]), (23, [20, 7], [0, -1, 1]), (23, [21, 15], [0, 1, -1]), (23, [21, 15], [0, -1, 1]), (20, [6], [50, 0, 0, 0, 2, 0, 0, 1, 0]), (23, [8, 18], [-2000, -1, -1]), (23, [2, 18], [-1, 1, -1]), (23, [2, 16], [-1, 1, -1]), (23, [8, 16], [-2000, -1, -1]), (20, [2, 16], [30, 0, 1, 0, 0, -1, 0, 0]), (23, [6], [0, -1]), (24, [0, 4], []), (24, [1, 5], []), (20, [4, 4], [30, 0, 1, 1, 15, -1, 1, 11]), (20, [4], [50, 3, 0, 12, 11, 15, 2, 21, 4, 7, 1, 3, 2, 0, 12, 0, 1, 0, 3, 2, 0, 11, 4, 3, 2, 0, 15, 0, 8, 3, 7, 1, 3, 2, 0, 12, 0, 0, 0, 7, 4, 3, 2, 0, 15, 0, 1, 2, 0, 11]), (20, [17, 4], [30, 0, 1, 0, 0, -1, 1, 11]), (20, [4, 17], [50, 3, 0, 8, 12, 11, 3, 7, 0, 2, 0, 1, 2, 0, 8, 3, 7, 1, 3, 2, 0, 12, 0, 0, 0, 6, 4, 2, 1, 1, 0, 1, 2, 0, 11]), (20, [4, 18], [50, 2, 0, 8, 11, 3, 7, 0, 2, 0, 1, 2, 0, 8, 0, 6, 4, 2, 1, 1, 0, 1, 2, 0, 11]), (20, [4, 22], [31, 1, -1, -1, 1, 8, 0, -1, 0, 0]), (20, [4, 6], [50, 2, 1, 8, 5, 2, 3, 7, 0, 2, 0, 1, 2, 0, 8, 3, 6, 0, 2, 1, 1, 0, -1, 0, 10, 3, 0, 2, 4, 3, 2, 0, 5, 0, 1, 0, 47]), (20, [5, 4], [50, 1, 1, 1005, 1002, 0, 6, 4, 2, 1, 0, 0, 1, 3, 1, 2, 4, 3, 2, 1, 5, 0, 2]), (20, [4], [60, 1, 3, 199, 5, 2, 3, 4]), (20, [4, 6, 22], [60, 2, 1, 240, 5, 8, 2]), (20, [4, 22, 20, 6, 21, 5, 19], [60, 9, 2, 1011, 10, 11, 12, 13, 14, 15, 8, 9, 5, 1, 2]), (102, [21], [187072209578355573530071658587684226515959365500928, 165008, 165009, 165011, 165012, 165013, 165014, 165015]), (23, [17, 2], [0, 1, -1]), (23, [17, 2], [0, -1, 1]), (23, [19, 3], [0, 1, -1]), (23, [19, 3], [0, -1, 1]), (23, [20, 7], [0, 1, -1]), (23, [20, 7], [0, -1, 1]), (23, [21, 15], [0, 1, -1]), (23, [21, 15], [0, -1, 1]), (23, [8, 18], [-2000, -1, -1]), (23, [2, 18], [-1, 1, -1]), (23, [2, 16], [-1, 1, -1]), (23, [8, 16], [-2000, -1, -1]), (23, [6], [0, -1]), (102, [16], [0, 165011, 165012, 165013, 165014, 165015]), (23, [2, 16], [-1, 1, -1]), (23, [8, 16], [-2000, -1, -1]), (23, [6], [0, -1])], [(22, (0, 0, 23, [])), (6, (0, 0, 23, []))], [(0, 0, 7, []), (0, 0, 4, []), (0, 0, 48, [])], [(23, [24, 5], [0, 1, -1]), (23, [24, 5], [0, -1, 1]), (23, [25, 3], [0, 1, -1]), (23, [25, 3], [0, -1, 1]), (23, [26, 7], [0, 1, -1]), (23, [26, 7], [0, -1, 1]), (20, [4], [30, 47, 1, 3, 2005001]), (20, [4], [60, 1, 3, 199, 5, 2, 3, 4]), (20, [4, 6, 22], [60, 1, 1, 203, 5, 2]), (20, [24, 4], [50, 1, 1, 1005, 1002, 0, 6, 4, 2, 1, 0, 0, 1, 3, 1, 2, 4, 3, 2, 1, 5, 0, 2]), (20, [4, 22, 26, 6, 15, 24, 25], [60, 8, 2, 994, 10, 11, 12, 13, 14, 15, 8, 5, 1, 2]), (20, [2, 4], [30, -1, 1, 0, 0, -1, 1, 11]), (20, [8, 4], [30, -2001, -1, 0, 0, -1, 1, 11])], [], [(1, 5, -4294967296, 0), (5, 1, -4294967296, 0)])
theorem oo_Mo_edgeItem_13 {kA : Nat → ClassId} : or_ok PRD kA GG o_Mo_edgeItem_13 := by
  refine or_mk fun A ta ws vs hD hth hl => ?_
  intro t0 r0 t1 k1 t2 k2 t3 k3 t4 r4 t5 k5 t6 k6 t7 k7 t8 k8 t15 k15 t16 k16 t17 k17 t18 k18 t19 k19 t20 k20 t21 k21 t22 k22 t23 k23 d0 d1 f0 f1 f2 f3 f4 f5 f6 f7 f8 f9 f10 f11 f12 f13 f14 f15 f16 f17 f18 f19 f20 f21 f22 f23 f24 f25 f26 f27 f28 f29 f30 ta1 w1 le1 s1 f32 f33 f34 f35 f36 f37 f38 f39 f40 f41 f42 f43 f44 ta2 w2 le2 s2 f46 f47 f48
  replace f0 := shm_1043 f0
  replace f1 := shm_295 f1
  replace f2 := shm_293 f2
  replace f3 := shm_7 f3
  replace f4 := shm_22 f4
  replace f5 := shm_7 f5
  replace f6 := shm_22 f6
  replace f7 := shm_7 f7
  replace f8 := shm_22 f8
  replace f9 := shm_7 f9
  replace f11 := shm_722 f11
  replace f12 := shm_2009 f12
  replace f13 := shm_193 f13
  replace f18 := shm_5 f18
  replace f19 := shm_5 f19
  replace f22 := shm_1431 f22
  replace f24 := shm_1726 f24
  replace f25 := shm_2117 f25
  replace f26 := shm_2118 f26
  replace f27 := shm_1009 f27
  replace f28 := shm_980 f28
  replace f29 := shm_2119 f29
  replace f30 := shm_2128 f30
  have q4 : n_v vs 4 = n_v vs 0 := f18.symm
  have q5 : n_v vs 5 = n_v vs 1 := f19.symm
  simp only [q4, q5] at f2 f22 f24 f25 f26 f27 f28 f29 f30
  have g2 : v_iv (n_v vs 23) = w_fi ws (n_v vs 0) 8 := congrArg v_iv f2
  have kz_0_8 := fdq_34 hD hth r0
  have kz_0_9 := fdq_44 hD hth r0
  have kz_0_10 := fdq_43 hD hth r0
  have kz_0_11 := fdq_237 hD hth r0
  have kz_0_12 := fdq_187 hD hth r0
  have kz_0_13 := fdq_238 hD hth r0
  have kz_0_14 := fdq_188 hD hth r0
  have kz_0_15 := fdq_239 hD hth r0
  obtain ⟨x, ex, hx⟩ := iv_ex (ta := ta) (lo := 0) (hi := 7) (z := v_iv (n_v vs 1)) (by omega) (by omega) (by omega) (by omega)
  have ex2 : v_iv (Value.int x) = v_iv (n_v vs 1) := ex
  have ex3 : 0 ≤ v_iv (Value.int x) ∧ v_iv (Value.int x) ≤ 7 := tv_rng hx
  obtain ⟨y, ey, hy⟩ := iv_ex (ta := ta) (lo := 0) (hi := 4) (z := v_iv (n_v vs 3)) (by omega) (by omega) (by omega) (by omega)
  have ey2 : v_iv (Value.int y) = v_iv (n_v vs 3) := ey
  have ey3 : 0 ≤ v_iv (Value.int y) ∧ v_iv (Value.int y) ≤ 4 := tv_rng hy
  obtain ⟨u, eu, hu⟩ := iv_ex (ta := ta) (lo := 0) (hi := 48) (z := v_iv (n_v vs 7)) (by omega) (by omega) (by omega) (by omega)
  have eu2 : v_iv (Value.int u) = v_iv (n_v vs 7) := eu
  have eu3 : 0 ≤ v_iv (Value.int u) ∧ v_iv (Value.int u) ≤ 48 := tv_rng hu
  have hrf0 : 0 ≤ v_iv (n_v vs 22) ∧ v_iv (n_v vs 22) ≤ 23 := vc_Mo_edgeItem_13_r0 (v_iv (n_v vs 22)) (w_fi ws (n_v vs 0) 5) k22 f0
  have hrf1 : 0 ≤ v_iv (n_v vs 6) ∧ v_iv (n_v vs 6) ≤ 23 := vc_Mo_edgeItem_13_r1 (v_iv (n_v vs 6)) (w_fi ws (n_v vs 0) 5) k6 f11
  have e_2 : n_v (vs ++ [Value.int x, Value.int y, Value.int u]) 2 = n_v vs 2 := n_v_old (by rw [hl]; decide)
  have e_3 : n_v (vs ++ [Value.int x, Value.int y, Value.int u]) 3 = n_v vs 3 := n_v_old (by rw [hl]; decide)
  have e_4 : n_v (vs ++ [Value.int x, Value.int y, Value.int u]) 4 = n_v vs 4 := n_v_old (by rw [hl]; decide)
  have e_5 : n_v (vs ++ [Value.int x, Value.int y, Value.int u]) 5 = n_v vs 5 := n_v_old (by rw [hl]; decide)
  have e_6 : n_v (vs ++ [Value.int x, Value.int y, Value.int u]) 6 = n_v vs 6 := n_v_old (by rw [hl]; decide)
  have e_7 : n_v (vs ++ [Value.int x, Value.int y, Value.int u]) 7 = n_v vs 7 := n_v_old (by rw [hl]; decide)
  have e_8 : n_v (vs ++ [Value.int x, Value.int y, Value.int u]) 8 = n_v vs 8 := n_v_old (by rw [hl]; decide)
  have e_15 : n_v (vs ++ [Value.int x, Value.int y, Value.int u]) 15 = n_v vs 15 := n_v_old (by rw [hl]; decide)
  have e_22 : n_v (vs ++ [Value.int x, Value.int y, Value.int u]) 22 = n_v vs 22 := n_v_old (by rw [hl]; decide)
  have e_24 : n_v (vs ++ [Value.int x, Value.int y, Value.int u]) 24 = Value.int x := n_v_newk (k := 0) hl rfl
  have e_25 : n_v (vs ++ [Value.int x, Value.int y, Value.int u]) 25 = Value.int y := n_v_newk (k := 1) hl rfl
  have e_26 : n_v (vs ++ [Value.int x, Value.int y, Value.int u]) 26 = Value.int u := n_v_newk (k := 2) hl rfl
  have nf0 : fc_1 PRD (23, [24, 5], [0, 1, -1]) ws (vs ++ [Value.int x, Value.int y, Value.int u]) := by
    refine ⟨nf_inA hl rfl, sgq_7 ?_⟩
    · show 1 * v_iv (n_v (vs ++ [Value.int x, Value.int y, Value.int u]) 24) + ((-1) * v_iv (n_v (vs ++ [Value.int x, Value.int y, Value.int u]) 5) + 0) ≤ 0
      simp only [e_5, e_24, q5]
      exact vc_Mo_edgeItem_13_0 (v_iv (n_v vs 1)) (v_iv (n_v vs 5)) (w_fi ws (n_v vs 0) 5) (v_iv (Value.int x)) k1 k5 d0 d1 ex2
  have nf1 : fc_1 PRD (23, [24, 5], [0, -1, 1]) ws (vs ++ [Value.int x, Value.int y, Value.int u]) := by
    refine ⟨nf_inA hl rfl, sgq_22 ?_⟩
    · show (-1) * v_iv (n_v (vs ++ [Value.int x, Value.int y, Value.int u]) 24) + (1 * v_iv (n_v (vs ++ [Value.int x, Value.int y, Value.int u]) 5) + 0) ≤ 0
      simp only [e_5, e_24, q5]
      exact vc_Mo_edgeItem_13_1 (v_iv (n_v vs 1)) (v_iv (n_v vs 5)) (w_fi ws (n_v vs 0) 5) (v_iv (Value.int x)) k1 k5 d0 d1 ex2
  have nf2 : fc_1 PRD (23, [25, 3], [0, 1, -1]) ws (vs ++ [Value.int x, Value.int y, Value.int u]) := by
    refine ⟨nf_inA hl rfl, sgq_7 ?_⟩
    · show 1 * v_iv (n_v (vs ++ [Value.int x, Value.int y, Value.int u]) 25) + ((-1) * v_iv (n_v (vs ++ [Value.int x, Value.int y, Value.int u]) 3) + 0) ≤ 0
      simp only [e_3, e_25]
      exact vc_Mo_edgeItem_13_2 (v_iv (n_v vs 3)) (v_iv (n_v vs 19)) (w_fi ws (n_v vs 0) 5) (v_iv (Value.int y)) k3 k19 f5 f6 ey2
  have nf3 : fc_1 PRD (23, [25, 3], [0, -1, 1]) ws (vs ++ [Value.int x, Value.int y, Value.int u]) := by
    refine ⟨nf_inA hl rfl, sgq_22 ?_⟩
    · show (-1) * v_iv (n_v (vs ++ [Value.int x, Value.int y, Value.int u]) 25) + (1 * v_iv (n_v (vs ++ [Value.int x, Value.int y, Value.int u]) 3) + 0) ≤ 0
      simp only [e_3, e_25]
      exact vc_Mo_edgeItem_13_3 (v_iv (n_v vs 3)) (v_iv (n_v vs 19)) (w_fi ws (n_v vs 0) 5) (v_iv (Value.int y)) k3 k19 f5 f6 ey2
  have nf4 : fc_1 PRD (23, [26, 7], [0, 1, -1]) ws (vs ++ [Value.int x, Value.int y, Value.int u]) := by
    refine ⟨nf_inA hl rfl, sgq_7 ?_⟩
    · show 1 * v_iv (n_v (vs ++ [Value.int x, Value.int y, Value.int u]) 26) + ((-1) * v_iv (n_v (vs ++ [Value.int x, Value.int y, Value.int u]) 7) + 0) ≤ 0
      simp only [e_7, e_26]
      exact vc_Mo_edgeItem_13_4 (v_iv (n_v vs 7)) (v_iv (n_v vs 20)) (w_fi ws (n_v vs 0) 5) (v_iv (Value.int u)) k7 k20 f7 f8 eu2
  have nf5 : fc_1 PRD (23, [26, 7], [0, -1, 1]) ws (vs ++ [Value.int x, Value.int y, Value.int u]) := by
    refine ⟨nf_inA hl rfl, sgq_22 ?_⟩
    · show (-1) * v_iv (n_v (vs ++ [Value.int x, Value.int y, Value.int u]) 26) + (1 * v_iv (n_v (vs ++ [Value.int x, Value.int y, Value.int u]) 7) + 0) ≤ 0
      simp only [e_7, e_26]
      exact vc_Mo_edgeItem_13_5 (v_iv (n_v vs 7)) (v_iv (n_v vs 20)) (w_fi ws (n_v vs 0) 5) (v_iv (Value.int u)) k7 k20 f7 f8 eu2
  have nf6 : fc_1 PRD (20, [4], [30, 47, 1, 3, 2005001]) ws (vs ++ [Value.int x, Value.int y, Value.int u]) := by
    refine ⟨nf_inA hl rfl, sgq_1007 ?_⟩
    · show 1 * w_el ws (w_ar ws (n_v (vs ++ [Value.int x, Value.int y, Value.int u]) 4) 2) (w_fi ws (n_v (vs ++ [Value.int x, Value.int y, Value.int u]) 4) 5 + 1).toNat + 0 ≤ 47
      simp only [e_4, q4]
      exact vc_Mo_edgeItem_13_6 (v_iv (n_v vs 6)) (v_iv (n_v vs 23)) (w_fi ws (n_v vs 0) 8) (w_ei ws (w_ar ws (n_v vs 0) 2)) (w_fi ws (n_v vs 0) 5) k6 k23 g2 f11 f26 kz_0_8
  have nf7 : fc_1 PRD (20, [4], [60, 1, 3, 199, 5, 2, 3, 4]) ws (vs ++ [Value.int x, Value.int y, Value.int u]) := by
    refine ⟨nf_inA hl rfl, sgq_980 ?_⟩
    · show RWS (w_fi ws (n_v (vs ++ [Value.int x, Value.int y, Value.int u]) 4) 5) (w_ei ws (w_ar ws (n_v (vs ++ [Value.int x, Value.int y, Value.int u]) 4) 2)) (w_ei ws (w_ar ws (n_v (vs ++ [Value.int x, Value.int y, Value.int u]) 4) 3)) (w_ei ws (w_ar ws (n_v (vs ++ [Value.int x, Value.int y, Value.int u]) 4) 4))
      simp only [e_4, q4]
      exact vc_Mo_edgeItem_13_7 (w_ei ws (w_ar ws (n_v vs 0) 2)) (w_fi ws (n_v vs 0) 5) (w_ei ws (w_ar ws (n_v vs 0) 3)) (w_ei ws (w_ar ws (n_v vs 0) 4)) f28
  have nf8 : fc_1 PRD (20, [4, 6, 22], [60, 1, 1, 203, 5, 2]) ws (vs ++ [Value.int x, Value.int y, Value.int u]) := by
    refine ⟨nf_inA hl rfl, sgq_1008 ?_⟩
    · show NWE (w_fi ws (n_v (vs ++ [Value.int x, Value.int y, Value.int u]) 4) 5) (w_ei ws (w_ar ws (n_v (vs ++ [Value.int x, Value.int y, Value.int u]) 4) 2)) (v_iv (n_v (vs ++ [Value.int x, Value.int y, Value.int u]) 6)) (v_iv (n_v (vs ++ [Value.int x, Value.int y, Value.int u]) 22))
      simp only [e_4, e_6, e_22, q4]
      exact vc_Mo_edgeItem_13_8 (v_iv (n_v vs 6)) (v_iv (n_v vs 22)) (v_iv (n_v vs 23)) (w_fi ws (n_v vs 0) 8) (w_ei ws (w_ar ws (n_v vs 0) 2)) (w_fi ws (n_v vs 0) 5) k6 k22 k23 g2 f11 f29 kz_0_8
  have nf9 : fc_1 PRD (20, [24, 4], [50, 1, 1, 1005, 1002, 0, 6, 4, 2, 1, 0, 0, 1, 3, 1, 2, 4, 3, 2, 1, 5, 0, 2]) ws (vs ++ [Value.int x, Value.int y, Value.int u]) := by
    refine ⟨nf_inA hl rfl, sgq_1009 ?_⟩
    · show (v_iv (n_v (vs ++ [Value.int x, Value.int y, Value.int u]) 24) + 1) ≤ w_ei ws (w_ar ws (n_v (vs ++ [Value.int x, Value.int y, Value.int u]) 4) 2) ((w_fi ws (n_v (vs ++ [Value.int x, Value.int y, Value.int u]) 4) 5 + 2))
      simp only [e_4, e_24, q4]
      exact vc_Mo_edgeItem_13_9 (v_iv (n_v vs 1)) (v_iv (n_v vs 5)) (w_ei ws (w_ar ws (n_v vs 0) 2)) (w_fi ws (n_v vs 0) 5) (v_iv (Value.int x)) k1 k5 d0 d1 f27 ex2
  have nf10 : fc_1 PRD (20, [4, 22, 26, 6, 15, 24, 25], [60, 8, 2, 994, 10, 11, 12, 13, 14, 15, 8, 5, 1, 2]) ws (vs ++ [Value.int x, Value.int y, Value.int u]) := by
    refine ⟨nf_inA hl rfl, sgq_1010 ?_⟩
    · show zRP8 (w_fi ws (n_v (vs ++ [Value.int x, Value.int y, Value.int u]) 4) 10) (w_fi ws (n_v (vs ++ [Value.int x, Value.int y, Value.int u]) 4) 11) (w_fi ws (n_v (vs ++ [Value.int x, Value.int y, Value.int u]) 4) 12) (w_fi ws (n_v (vs ++ [Value.int x, Value.int y, Value.int u]) 4) 13) (w_fi ws (n_v (vs ++ [Value.int x, Value.int y, Value.int u]) 4) 14) (w_fi ws (n_v (vs ++ [Value.int x, Value.int y, Value.int u]) 4) 15) (w_fi ws (n_v (vs ++ [Value.int x, Value.int y, Value.int u]) 4) 8) (w_fi ws (n_v (vs ++ [Value.int x, Value.int y, Value.int u]) 4) 5) (w_ei ws (w_ar ws (n_v (vs ++ [Value.int x, Value.int y, Value.int u]) 4) 1)) (w_ei ws (w_ar ws (n_v (vs ++ [Value.int x, Value.int y, Value.int u]) 4) 2)) (v_iv (n_v (vs ++ [Value.int x, Value.int y, Value.int u]) 22)) (v_iv (n_v (vs ++ [Value.int x, Value.int y, Value.int u]) 26)) (v_iv (n_v (vs ++ [Value.int x, Value.int y, Value.int u]) 6)) (v_iv (n_v (vs ++ [Value.int x, Value.int y, Value.int u]) 15)) (v_iv (n_v (vs ++ [Value.int x, Value.int y, Value.int u]) 24)) (v_iv (n_v (vs ++ [Value.int x, Value.int y, Value.int u]) 25))
      simp only [e_4, e_6, e_15, e_22, e_24, e_25, e_26, q4]
      exact vc_Mo_edgeItem_13_10 (v_iv (n_v vs 1)) (v_iv (n_v vs 2)) (v_iv (n_v vs 3)) (v_iv (n_v vs 6)) (v_iv (n_v vs 7)) (v_iv (n_v vs 15)) (v_iv (n_v vs 17)) (v_iv (n_v vs 19)) (v_iv (n_v vs 20)) (v_iv (n_v vs 21)) (v_iv (n_v vs 22)) (v_iv (n_v vs 23)) (w_fi ws (n_v vs 0) 8) (w_fi ws (n_v vs 0) 15) (w_fi ws (n_v vs 0) 11) (w_fi ws (n_v vs 0) 12) (w_ei ws (w_ar ws (n_v vs 0) 2)) (w_fi ws (n_v vs 0) 5) (w_ei ws (w_ar ws (n_v vs 0) 1)) (w_fi ws (n_v vs 0) 10) (w_fi ws (n_v vs 0) 13) (w_fi ws (n_v vs 0) 14) (w_fi ws (n_v vs 0) 9) (v_iv (Value.int x)) (v_iv (Value.int y)) (v_iv (Value.int u)) k1 k2 k3 k6 k7 k15 k17 k19 k20 k21 k22 k23 f1 g2 f3 f4 f5 f6 f7 f8 f9 f30 kz_0_8 kz_0_9 kz_0_10 kz_0_11 kz_0_12 kz_0_13 kz_0_14 kz_0_15 ex2 ey2 eu2
  have nf11 : fc_1 PRD (20, [2, 4], [30, -1, 1, 0, 0, -1, 1, 11]) ws (vs ++ [Value.int x, Value.int y, Value.int u]) := by
    refine ⟨nf_inA hl rfl, sgq_2005 ?_⟩
    · show 1 * v_iv (n_v (vs ++ [Value.int x, Value.int y, Value.int u]) 2) + ((-1) * w_fi ws (n_v (vs ++ [Value.int x, Value.int y, Value.int u]) 4) 11 + 0) ≤ (-1)
      simp only [e_2, e_4, q4]
      exact vc_Mo_edgeItem_13_11 (v_iv (n_v vs 2)) (v_iv (n_v vs 6)) (v_iv (n_v vs 17)) (v_iv (n_v vs 18)) (v_iv (n_v vs 22)) (v_iv (n_v vs 23)) (w_fi ws (n_v vs 0) 8) (w_fi ws (n_v vs 0) 11) (w_ei ws (w_ar ws (n_v vs 0) 2)) (w_fi ws (n_v vs 0) 5) k2 k6 k17 k18 k22 k23 g2 f3 f4 f11 f13 f22 f24 f25 f26 kz_0_8 kz_0_11
  have nf12 : fc_1 PRD (20, [8, 4], [30, -2001, -1, 0, 0, -1, 1, 11]) ws (vs ++ [Value.int x, Value.int y, Value.int u]) := by
    refine ⟨nf_inA hl rfl, sgq_2013 ?_⟩
    · show (-1) * v_iv (n_v (vs ++ [Value.int x, Value.int y, Value.int u]) 8) + ((-1) * w_fi ws (n_v (vs ++ [Value.int x, Value.int y, Value.int u]) 4) 11 + 0) ≤ (-2001)
      simp only [e_4, e_8, q4]
      exact vc_Mo_edgeItem_13_12 (v_iv (n_v vs 6)) (v_iv (n_v vs 8)) (v_iv (n_v vs 18)) (v_iv (n_v vs 22)) (v_iv (n_v vs 23)) (w_fi ws (n_v vs 0) 8) (w_fi ws (n_v vs 0) 11) (w_ei ws (w_ar ws (n_v vs 0) 2)) (w_fi ws (n_v vs 0) 5) k6 k8 k18 k22 k23 g2 f11 f12 f24 f25 f26 kz_0_8 kz_0_11
  have rf22 : tv_ok ta (0, 0, 23, []) (n_v vs 22) := tv_in t22 (by first | omega | grind) (by first | omega | grind)
  have rf6 : tv_ok ta (0, 0, 23, []) (n_v vs 6) := tv_in t6 (by first | omega | grind) (by first | omega | grind)
  exact ⟨List.forall_mem_cons.mpr ⟨rf22, List.forall_mem_cons.mpr ⟨rf6, (fun _ h => (by cases h))⟩⟩, [Value.int x, Value.int y, Value.int u], ag_three hx hy hu, List.forall_mem_cons.mpr ⟨⟨show (23 : Nat) < 100 from by decide, nf0⟩, List.forall_mem_cons.mpr ⟨⟨show (23 : Nat) < 100 from by decide, nf1⟩, List.forall_mem_cons.mpr ⟨⟨show (23 : Nat) < 100 from by decide, nf2⟩, List.forall_mem_cons.mpr ⟨⟨show (23 : Nat) < 100 from by decide, nf3⟩, List.forall_mem_cons.mpr ⟨⟨show (23 : Nat) < 100 from by decide, nf4⟩, List.forall_mem_cons.mpr ⟨⟨show (23 : Nat) < 100 from by decide, nf5⟩, List.forall_mem_cons.mpr ⟨⟨show (20 : Nat) < 100 from by decide, nf6⟩, List.forall_mem_cons.mpr ⟨⟨show (20 : Nat) < 100 from by decide, nf7⟩, List.forall_mem_cons.mpr ⟨⟨show (20 : Nat) < 100 from by decide, nf8⟩, List.forall_mem_cons.mpr ⟨⟨show (20 : Nat) < 100 from by decide, nf9⟩, List.forall_mem_cons.mpr ⟨⟨show (20 : Nat) < 100 from by decide, nf10⟩, List.forall_mem_cons.mpr ⟨⟨show (20 : Nat) < 100 from by decide, nf11⟩, List.forall_mem_cons.mpr ⟨⟨show (20 : Nat) < 100 from by decide, nf12⟩, (fun _ h => (by cases h))⟩⟩⟩⟩⟩⟩⟩⟩⟩⟩⟩⟩⟩, (fun _ h => (by cases h))⟩
set_option maxHeartbeats 4000000 in
theorem vc_Mo_edgeItem_14_0 (x1 : Int) (x5 : Int) (x24 : Int) (all_0 : Int → Int) (r_0 : Int) (k1 : 0 ≤ x1 ∧ x1 ≤ 7) (k5 : 0 ≤ x5 ∧ x5 ≤ 7) (k24 : 0 ≤ x24 ∧ x24 ≤ 7) (d0 : x5 + (-4294967296) ≤ x1 ∧ x1 ≤ x5 + 0) (d1 : x1 + (-4294967296) ≤ x5 ∧ x5 ≤ x1 + 0) (f1 : 1 * x24 + ((-1) * x1 + 0) ≤ 0) (f2 : (-1) * x24 + (1 * x1 + 0) ≤ 0) (f33 : (x24 + 1) ≤ all_0 ((r_0 + 2))) : (x1 + 1) ≤ all_0 ((r_0 + 2)) := by
  first
    | omega
    | (have q1 := (hE_0_2_1 (r_0 + 2) (by omega)).2 (by omega)
       have q2 := (hE_0_2_2 (r_0 + 2) (by omega)).2 (by omega)
       omega)
    | (have q1 := (hE_0_2_1 (r_0 + 1) (by omega)).2 (by omega)
       have q2 := (hE_0_2_2 (r_0 + 1) (by omega)).2 (by omega)
       omega)
    | (have q1 := (hE_0_2_1 (r_0 + 2) (by omega)).2 (by omega)
       omega)
    | (have q1 := (hE_0_2_1 (r_0 + 1) (by omega)).2 (by omega)
       omega)
    | (have q1 := (hE_0_2_1 (r_0 + 2) (by omega)).2 (by omega)
       have q2 := (hE_0_2_2 (r_0 + 2) (by omega)).2 (by omega)
       have q3 := (hE_0_2_3 (r_0 + 2) (by omega)).1 (by omega)
       omega)
    | (have q1 := (hE_0_2_1 (r_0 + 2) (by omega)).2 (by omega)
       have q2 := (hE_0_2_2 (r_0 + 2) (by omega)).2 (by omega)
       have q3 := (hE_0_2_3 (r_0 + 2) (by omega)).2 (by omega)
       omega)
set_option maxHeartbeats 4000000 in
theorem vc_Mo_edgeItem_14_1 (pos_0 : Int) (from_0 : Int) (r_0 : Int) (f25 : 1 * from_0 + ((-1) * pos_0 + 0) ≤ 0) (kz_0_11 : 0 ≤ pos_0 ∧ pos_0 ≤ 2000) (kz_0_15 : 0 ≤ from_0 ∧ from_0 ≤ 2000) : 1 * from_0 + ((-1) * pos_0 + 0) ≤ 0 := by
  first
    | omega
    | (have q1 := (hE_0_2_1 (r_0 + 2) (by omega)).2 (by omega)
       have q2 := (hE_0_2_2 (r_0 + 2) (by omega)).2 (by omega)
       omega)
    | (have q1 := (hE_0_2_1 (r_0 + 1) (by omega)).2 (by omega)
       have q2 := (hE_0_2_2 (r_0 + 1) (by omega)).2 (by omega)
       omega)
    | (have q1 := (hE_0_2_1 (r_0 + 2) (by omega)).2 (by omega)
       omega)
    | (have q1 := (hE_0_2_1 (r_0 + 1) (by omega)).2 (by omega)
       omega)
    | (have q1 := (hE_0_2_1 (r_0 + 2) (by omega)).2 (by omega)
       have q2 := (hE_0_2_2 (r_0 + 2) (by omega)).2 (by omega)
       have q3 := (hE_0_2_3 (r_0 + 2) (by omega)).1 (by omega)
       omega)
    | (have q1 := (hE_0_2_1 (r_0 + 2) (by omega)).2 (by omega)
       have q2 := (hE_0_2_2 (r_0 + 2) (by omega)).2 (by omega)
       have q3 := (hE_0_2_3 (r_0 + 2) (by omega)).2 (by omega)
       omega)
set_option maxHeartbeats 4000000 in
theorem vc_Mo_edgeItem_14_2 (pos_0 : Int) (from_0 : Int) (kind_0 : Int) (r_0 : Int) (f26 : ((kind_0 = 1) → (pos_0 ≤ (from_0 + 8))) ∧ ((kind_0 = 0) ∨ ((from_0 + 1) ≤ pos_0))) (kz_0_11 : 0 ≤ pos_0 ∧ pos_0 ≤ 2000) (kz_0_12 : 0 ≤ kind_0 ∧ kind_0 ≤ 4) (kz_0_15 : 0 ≤ from_0 ∧ from_0 ≤ 2000) : ((kind_0 = 1) → (pos_0 ≤ (from_0 + 8))) ∧ ((kind_0 = 0) ∨ ((from_0 + 1) ≤ pos_0)) := by
  first
    | omega
    | (have q1 := (hE_0_2_1 (r_0 + 2) (by omega)).2 (by omega)
       have q2 := (hE_0_2_2 (r_0 + 2) (by omega)).2 (by omega)
       omega)
    | (have q1 := (hE_0_2_1 (r_0 + 1) (by omega)).2 (by omega)
       have q2 := (hE_0_2_2 (r_0 + 1) (by omega)).2 (by omega)
       omega)
    | (have q1 := (hE_0_2_1 (r_0 + 2) (by omega)).2 (by omega)
       omega)
    | (have q1 := (hE_0_2_1 (r_0 + 1) (by omega)).2 (by omega)
       omega)
    | (have q1 := (hE_0_2_1 (r_0 + 2) (by omega)).2 (by omega)
       have q2 := (hE_0_2_2 (r_0 + 2) (by omega)).2 (by omega)
       have q3 := (hE_0_2_3 (r_0 + 2) (by omega)).1 (by omega)
       omega)
    | (have q1 := (hE_0_2_1 (r_0 + 2) (by omega)).2 (by omega)
       have q2 := (hE_0_2_2 (r_0 + 2) (by omega)).2 (by omega)
       have q3 := (hE_0_2_3 (r_0 + 2) (by omega)).2 (by omega)
       omega)
set_option maxHeartbeats 4000000 in
theorem vc_Mo_edgeItem_14_3 (x2 : Int) (pos_0 : Int) (r_0 : Int) (k2 : 0 ≤ x2 ∧ x2 ≤ 2000) (f7 : 1 * x2 + ((-1) * pos_0 + 0) ≤ (-1)) (kz_0_11 : 0 ≤ pos_0 ∧ pos_0 ≤ 2000) : 1 * x2 + ((-1) * pos_0 + 0) ≤ (-1) := by
  first
    | omega
    | (have q1 := (hE_0_2_1 (r_0 + 2) (by omega)).2 (by omega)
       have q2 := (hE_0_2_2 (r_0 + 2) (by omega)).2 (by omega)
       omega)
    | (have q1 := (hE_0_2_1 (r_0 + 1) (by omega)).2 (by omega)
       have q2 := (hE_0_2_2 (r_0 + 1) (by omega)).2 (by omega)
       omega)
    | (have q1 := (hE_0_2_1 (r_0 + 2) (by omega)).2 (by omega)
       omega)
    | (have q1 := (hE_0_2_1 (r_0 + 1) (by omega)).2 (by omega)
       omega)
    | (have q1 := (hE_0_2_1 (r_0 + 2) (by omega)).2 (by omega)
       have q2 := (hE_0_2_2 (r_0 + 2) (by omega)).2 (by omega)
       have q3 := (hE_0_2_3 (r_0 + 2) (by omega)).1 (by omega)
       omega)
    | (have q1 := (hE_0_2_1 (r_0 + 2) (by omega)).2 (by omega)
       have q2 := (hE_0_2_2 (r_0 + 2) (by omega)).2 (by omega)
       have q3 := (hE_0_2_3 (r_0 + 2) (by omega)).2 (by omega)
       omega)
set_option maxHeartbeats 4000000 in
theorem vc_Mo_edgeItem_14_4 (x8 : Int) (pos_0 : Int) (r_0 : Int) (gx : Int) (k8 : 0 ≤ x8 ∧ x8 ≤ 2000) (f8 : (-1) * x8 + ((-1) * pos_0 + 0) ≤ (-2001)) (kz_0_11 : 0 ≤ pos_0 ∧ pos_0 ≤ 2000) (ex2 : gx = 0 + (1 * x8 + 0)) : (-1) * gx + ((-1) * pos_0 + 0) ≤ (-2001) := by
  first
    | omega
    | (have q1 := (hE_0_2_1 (r_0 + 2) (by omega)).2 (by omega)
       have q2 := (hE_0_2_2 (r_0 + 2) (by omega)).2 (by omega)
       omega)
    | (have q1 := (hE_0_2_1 (r_0 + 1) (by omega)).2 (by omega)
       have q2 := (hE_0_2_2 (r_0 + 1) (by omega)).2 (by omega)
       omega)
    | (have q1 := (hE_0_2_1 (r_0 + 2) (by omega)).2 (by omega)
       omega)
    | (have q1 := (hE_0_2_1 (r_0 + 1) (by omega)).2 (by omega)
       omega)
    | (have q1 := (hE_0_2_1 (r_0 + 2) (by omega)).2 (by omega)
       have q2 := (hE_0_2_2 (r_0 + 2) (by omega)).2 (by omega)
       have q3 := (hE_0_2_3 (r_0 + 2) (by omega)).1 (by omega)
       omega)
    | (have q1 := (hE_0_2_1 (r_0 + 2) (by omega)).2 (by omega)
       have q2 := (hE_0_2_2 (r_0 + 2) (by omega)).2 (by omega)
       have q3 := (hE_0_2_3 (r_0 + 2) (by omega)).2 (by omega)
       omega)
set_option maxHeartbeats 4000000 in
theorem vc_Mo_edgeItem_14_5 (x22 : Int) (r_0 : Int) (k22 : 0 ≤ x22 ∧ x22 ≤ 23) (f42 : (-1) * x22 + 0 ≤ 0) : (-1) * x22 + 0 ≤ 0 := by
  first
    | omega
    | (have q1 := (hE_0_2_1 (r_0 + 2) (by omega)).2 (by omega)
       have q2 := (hE_0_2_2 (r_0 + 2) (by omega)).2 (by omega)
       omega)
    | (have q1 := (hE_0_2_1 (r_0 + 1) (by omega)).2 (by omega)
       have q2 := (hE_0_2_2 (r_0 + 1) (by omega)).2 (by omega)
       omega)
    | (have q1 := (hE_0_2_1 (r_0 + 2) (by omega)).2 (by omega)
       omega)
    | (have q1 := (hE_0_2_1 (r_0 + 1) (by omega)).2 (by omega)
       omega)
    | (have q1 := (hE_0_2_1 (r_0 + 2) (by omega)).2 (by omega)
       have q2 := (hE_0_2_2 (r_0 + 2) (by omega)).2 (by omega)
       have q3 := (hE_0_2_3 (r_0 + 2) (by omega)).1 (by omega)
       omega)
    | (have q1 := (hE_0_2_1 (r_0 + 2) (by omega)).2 (by omega)
       have q2 := (hE_0_2_2 (r_0 + 2) (by omega)).2 (by omega)
       have q3 := (hE_0_2_3 (r_0 + 2) (by omega)).2 (by omega)
       omega)
set_option maxHeartbeats 4000000 in
theorem vc_Mo_edgeItem_14_6 (all_0 : Int → Int) (now_0 : Int → Int) (latest_0 : Int → Int) (r_0 : Int) (f31 : RWS (r_0) (all_0) (now_0) (latest_0)) : RWS (r_0) (all_0) (now_0) (latest_0) := by
  first
    | assumption
set_option maxHeartbeats 4000000 in
theorem vc_Mo_edgeItem_14_7 (x22 : Int) (all_0 : Int → Int) (r_0 : Int) (k22 : 0 ≤ x22 ∧ x22 ≤ 23) (f32 : NDA (r_0) (all_0) (x22)) : NDA (r_0) (all_0) (x22) := by
  first
    | assumption
set_option maxHeartbeats 4000000 in
theorem vc_Mo_edgeItem_14_8 (x1 : Int) (x2 : Int) (x3 : Int) (x5 : Int) (x7 : Int) (x17 : Int) (x19 : Int) (x20 : Int) (x22 : Int) (x23 : Int) (x24 : Int) (x25 : Int) (x26 : Int) (fault_0 : Int) (pos_0 : Int) (from_0 : Int) (kind_0 : Int) (all_0 : Int → Int) (r_0 : Int) (tape_0 : Int → Int) (limit_0 : Int) (place_0 : Int) (value_0 : Int) (k1 : 0 ≤ x1 ∧ x1 ≤ 7) (k2 : 0 ≤ x2 ∧ x2 ≤ 2000) (k3 : 0 ≤ x3 ∧ x3 ≤ 4) (k5 : 0 ≤ x5 ∧ x5 ≤ 7) (k7 : 0 ≤ x7 ∧ x7 ≤ 48) (k17 : 0 ≤ x17 ∧ x17 ≤ 2000) (k22 : 0 ≤ x22 ∧ x22 ≤ 23) (k23 : 0 ≤ x23 ∧ x23 ≤ 0) (k24 : 0 ≤ x24 ∧ x24 ≤ 7) (k25 : 0 ≤ x25 ∧ x25 ≤ 4) (k26 : 0 ≤ x26 ∧ x26 ≤ 48) (d0 : x5 + (-4294967296) ≤ x1 ∧ x1 ≤ x5 + 0) (d1 : x1 + (-4294967296) ≤ x5 ∧ x5 ≤ x1 + 0) (g0 : x23 = fault_0) (f1 : 1 * x24 + ((-1) * x1 + 0) ≤ 0) (f2 : (-1) * x24 + (1 * x1 + 0) ≤ 0) (f3 : 1 * x25 + ((-1) * x3 + 0) ≤ 0) (f4 : (-1) * x25 + (1 * x3 + 0) ≤ 0) (f5 : 1 * x26 + ((-1) * x7 + 0) ≤ 0) (f6 : (-1) * x26 + (1 * x7 + 0) ≤ 0) (f10 : 1 * x17 + ((-1) * x2 + 0) ≤ 0) (f11 : (-1) * x17 + (1 * x2 + 0) ≤ 0) (f34 : zRS8 (limit_0) (pos_0) (kind_0) (place_0) (value_0) (from_0) (fault_0) (r_0) (tape_0) (all_0) (x22) (x26) (x24) (x25)) (kz_0_8 : 0 ≤ fault_0 ∧ fault_0 ≤ 5) (kz_0_10 : 0 ≤ limit_0 ∧ limit_0 ≤ 2000) (kz_0_11 : 0 ≤ pos_0 ∧ pos_0 ≤ 2000) (kz_0_12 : 0 ≤ kind_0 ∧ kind_0 ≤ 4) (kz_0_13 : 0 ≤ place_0 ∧ place_0 ≤ 2000) (kz_0_14 : (-49) ≤ value_0 ∧ value_0 ≤ 1048575) (kz_0_15 : 0 ≤ from_0 ∧ from_0 ≤ 2000) : zRS8 (limit_0) (pos_0) (kind_0) (place_0) (value_0) (from_0) (fault_0) (r_0) (tape_0) (all_0) (x22) (x7) (x1) (x3) := by
  first | (have el_x24 : x24 = x1 := by omega); subst el_x24 | skip
  first | (have el_x25 : x25 = x3 := by omega); subst el_x25 | skip
  first | (have el_x26 : x26 = x7 := by omega); subst el_x26 | skip
  first | (have el_x17 : x17 = x2 := by omega); subst el_x17 | skip
  first | (have el_x19 : x19 = x3 := by omega); subst el_x19 | skip
  first | (have el_x20 : x20 = x7 := by omega); subst el_x20 | skip
  first | subst g0 | skip
  assumption
def o_Mo_edgeItem_14 : or_T := (109, 27, [(0, (2, 0, 0, [165])), (1, (0, 0, 7, [])), (2, (0, 0, 2000, [])), (3, (0, 0, 4, [])), (4, (2, 0, 0, [165])), (5, (0, 0, 7, [])), (6, (0, 0, 23, [])), (7, (0, 0, 48, [])), (8, (0, 0, 2000, [])), (16, (0, 0, 2000, [])), (17, (0, 0, 2000, [])), (18, (0, 0, 2000, [])), (19, (0, 0, 4, [])), (20, (0, 0, 48, [])), (22, (0, 0, 23, [])), (23, (0, 0, 0, [])), (24, (0, 0, 7, [])), (25, (0, 0, 4, [])), (26, (0, 0, 48, []))], [(9, [23, 4], [8]), (23, [24, 5], [0, 1, -1]), (23, [24, 5], [0, -1, 1]), (23, [25, 3], [0, 1, -1]), (23, [25, 3], [0, -1, 1]), (23, [26, 7], [0, 1, -1]), (23, [26, 7], [0, -1, 1]), (20, [2, 4], [30, -1, 1, 0, 0, -1, 1, 11]), (20, [8, 4], [30, -2001, -1, 0, 0, -1, 1, 11]), (23, [22], [0, -1]), (23, [17, 2], [0, 1, -1]), (23, [17, 2], [0, -1, 1]), (23, [19, 3], [0, 1, -1]), (23, [19, 3], [0, -1, 1]), (23, [20, 7], [0, 1, -1]), (23, [20, 7], [0, -1, 1]), (20, [6], [50, 0, 0, 0, 2, 0, 0, 1, 0]), (23, [8, 18], [-2000, -1, -1]), (23, [2, 18], [-1, 1, -1]), (23, [2, 16], [-1, 1, -1]), (23, [8, 16], [-2000, -1, -1]), (20, [2, 16], [30, 0, 1, 0, 0, -1, 0, 0]), (23, [6], [0, -1]), (24, [0, 4], []), (24, [1, 5], []), (20, [4, 4], [30, 0, 1, 1, 15, -1, 1, 11]), (20, [4], [50, 3, 0, 12, 11, 15, 2, 21, 4, 7, 1, 3, 2, 0, 12, 0, 1, 0, 3, 2, 0, 11, 4, 3, 2, 0, 15, 0, 8, 3, 7, 1, 3, 2, 0, 12, 0, 0, 0, 7, 4, 3, 2, 0, 15, 0, 1, 2, 0, 11]), (20, [17, 4], [30, 0, 1, 0, 0, -1, 1, 11]), (20, [4, 17], [50, 3, 0, 8, 12, 11, 3, 7, 0, 2, 0, 1, 2, 0, 8, 3, 7, 1, 3, 2, 0, 12, 0, 0, 0, 6, 4, 2, 1, 1, 0, 1, 2, 0, 11]), (20, [4, 18], [50, 2, 0, 8, 11, 3, 7, 0, 2, 0, 1, 2, 0, 8, 0, 6, 4, 2, 1, 1, 0, 1, 2, 0, 11]), (20, [4, 22], [31, 1, -1, -1, 1, 8, 0, -1, 0, 0]), (20, [4], [60, 1, 3, 199, 5, 2, 3, 4]), (20, [4, 22], [60, 1, 1, 208, 5, 2]), (20, [24, 4], [50, 1, 1, 1005, 1002, 0, 6, 4, 2, 1, 0, 0, 1, 3, 1, 2, 4, 3, 2, 1, 5, 0, 2]), (20, [4, 22, 26, 24, 25], [60, 8, 2, 968, 10, 11, 12, 13, 14, 15, 8, 5, 1, 2]), (102, [26], [187072209578355573530071658587684226515959365500928]), (23, [24, 5], [0, 1, -1]), (23, [24, 5], [0, -1, 1]), (23, [25, 3], [0, 1, -1]), (23, [25, 3], [0, -1, 1]), (23, [26, 7], [0, 1, -1]), (23, [26, 7], [0, -1, 1]), (23, [22], [0, -1]), (8, [23], [5]), (23, [17, 2], [0, 1, -1]), (23, [17, 2], [0, -1, 1]), (23, [19, 3], [0, 1, -1]), (23, [19, 3], [0, -1, 1]), (23, [20, 7], [0, 1, -1]), (23, [20, 7], [0, -1, 1]), (23, [8, 18], [-2000, -1, -1]), (23, [2, 18], [-1, 1, -1]), (23, [2, 16], [-1, 1, -1]), (23, [8, 16], [-2000, -1, -1]), (23, [6], [0, -1]), (102, [21], [187072209578355573530071658587684226515959365500928, 165008, 165009, 165011, 165012, 165013, 165014, 165015]), (23, [17, 2], [0, 1, -1]), (23, [17, 2], [0, -1, 1]), (23, [19, 3], [0, 1, -1]), (23, [19, 3], [0, -1, 1]), (23, [20, 7], [0, 1, -1]), (23, [20, 7], [0, -1, 1]), (23, [8, 18], [-2000, -1, -1]), (23, [2, 18], [-1, 1, -1]), (23, [2, 16], [-1, 1, -1]), (23, [8, 16], [-2000, -1, -1]), (23, [6], [0, -1]), (102, [16], [0, 165011, 165012, 165013, 165014, 165015]), (23, [2, 16], [-1, 1, -1]), (23, [8, 16], [-2000, -1, -1]), (23, [6], [0, -1])], [], [(0, 0, 2000, [])], [(20, [5, 4], [50, 1, 1, 1005, 1002, 0, 6, 4, 2, 1, 0, 0, 1, 3, 1, 2, 4, 3, 2, 1, 5, 0, 2]), (20, [4, 4], [30, 0, 1, 1, 15, -1, 1, 11]), (20, [4], [50, 3, 0, 12, 11, 15, 2, 21, 4, 7, 1, 3, 2, 0, 12, 0, 1, 0, 3, 2, 0, 11, 4, 3, 2, 0, 15, 0, 8, 3, 7, 1, 3, 2, 0, 12, 0, 0, 0, 7, 4, 3, 2, 0, 15, 0, 1, 2, 0, 11]), (20, [2, 4], [30, -1, 1, 0, 0, -1, 1, 11]), (20, [27, 4], [30, -2001, -1, 0, 0, -1, 1, 11]), (23, [22], [0, -1]), (20, [4], [60, 1, 3, 199, 5, 2, 3, 4]), (20, [4, 22], [60, 1, 1, 208, 5, 2]), (20, [4, 22, 7, 5, 3], [60, 8, 2, 968, 10, 11, 12, 13, 14, 15, 8, 5, 1, 2]), (24, [0, 4], []), (24, [1, 5], [])], [(27, 8, 0, 0)], [(1, 5, -4294967296, 0), (5, 1, -4294967296, 0)])
theorem oo_Mo_edgeItem_14 {kA : Nat → ClassId} : or_ok PRD kA GG o_Mo_edgeItem_14 := by
  refine or_mk fun A ta ws vs hD hth hl => ?_
  intro t0 r0 t1 k1 t2 k2 t3 k3 t4 r4 t5 k5 t6 k6 t7 k7 t8 k8 t16 k16 t17 k17 t18 k18 t19 k19 t20 k20 t22 k22 t23 k23 t24 k24 t25 k25 t26 k26 d0 d1 f0 f1 f2 f3 f4 f5 f6 f7 f8 f9 f10 f11 f12 f13 f14 f15 f16 f17 f18 f19 f20 f21 f22 f23 f24 f25 f26 f27 f28 f29 f30 f31 f32 f33 f34 ta1 w1 le1 s1 f36 f37 f38 f39 f40 f41 f42 f43 f44 f45 f46 f47 f48 f49 f50 f51 f52 f53 f54 ta2 w2 le2 s2 f56 f57 f58 f59 f60 f61 f62 f63 f64 f65 f66 ta3 w3 le3 s3 f68 f69 f70
  replace f0 := shm_293 f0
  replace f1 := shm_7 f1
  replace f2 := shm_22 f2
  replace f3 := shm_7 f3
  replace f4 := shm_22 f4
  replace f5 := shm_7 f5
  replace f6 := shm_22 f6
  replace f7 := shm_2005 f7
  replace f8 := shm_2013 f8
  replace f9 := shm_1043 f9
  replace f10 := shm_7 f10
  replace f11 := shm_22 f11
  replace f12 := shm_7 f12
  replace f13 := shm_22 f13
  replace f14 := shm_7 f14
  replace f15 := shm_22 f15
  replace f16 := shm_722 f16
  replace f17 := shm_2009 f17
  replace f18 := shm_193 f18
  replace f19 := shm_193 f19
  replace f20 := shm_2009 f20
  replace f21 := shm_201 f21
  replace f22 := shm_1043 f22
  replace f23 := shm_5 f23
  replace f24 := shm_5 f24
  replace f25 := shm_1437 f25
  replace f26 := shm_1438 f26
  replace f27 := shm_1431 f27
  replace f28 := shm_1722 f28
  replace f29 := shm_1726 f29
  replace f30 := shm_2117 f30
  replace f31 := shm_980 f31
  replace f32 := shm_983 f32
  replace f33 := shm_1009 f33
  replace f34 := shm_1011 f34
  replace f36 := shm_7 f36
  replace f37 := shm_22 f37
  replace f38 := shm_7 f38
  replace f39 := shm_22 f39
  replace f40 := shm_7 f40
  replace f41 := shm_22 f41
  replace f42 := shm_1043 f42
  replace f43 := shm_295 f43
  replace f44 := shm_7 f44
  replace f45 := shm_22 f45
  replace f46 := shm_7 f46
  replace f47 := shm_22 f47
  replace f48 := shm_7 f48
  replace f49 := shm_22 f49
  replace f50 := shm_2009 f50
  replace f51 := shm_193 f51
  replace f52 := shm_193 f52
  replace f53 := shm_2009 f53
  replace f54 := shm_1043 f54
  replace f56 := shm_7 f56
  replace f57 := shm_22 f57
  replace f58 := shm_7 f58
  replace f59 := shm_22 f59
  replace f60 := shm_7 f60
  replace f61 := shm_22 f61
  replace f62 := shm_2009 f62
  replace f63 := shm_193 f63
  replace f64 := shm_193 f64
  replace f65 := shm_2009 f65
  replace f66 := shm_1043 f66
  replace f68 := shm_193 f68
  replace f69 := shm_2009 f69
  replace f70 := shm_1043 f70
  have q4 : n_v vs 4 = n_v vs 0 := f23.symm
  have q5 : n_v vs 5 = n_v vs 1 := f24.symm
  simp only [q4, q5] at f0 f1 f2 f7 f8 f25 f26 f27 f28 f29 f30 f31 f32 f33 f34 f36 f37
  have cr_0_1 := fdq_39 hD hth r0
  have cr_0_2 := fdq_10 hD hth r0
  have cr_0_3 := fdq_142 hD hth r0
  have cr_0_4 := fdq_143 hD hth r0
  have g0 : v_iv (n_v vs 23) = w_fi ws (n_v vs 0) 8 := congrArg v_iv f0
  have hK_0_1 := elq_7 hD hth cr_0_1
  have hK_0_3 := elq_80 hD hth cr_0_3
  have hK_0_4 := elq_81 hD hth cr_0_4
  have kz_0_8 := fdq_34 hD hth r0
  have kz_0_10 := fdq_43 hD hth r0
  have kz_0_11 := fdq_237 hD hth r0
  have kz_0_12 := fdq_187 hD hth r0
  have kz_0_13 := fdq_238 hD hth r0
  have kz_0_14 := fdq_188 hD hth r0
  have kz_0_15 := fdq_239 hD hth r0
  obtain ⟨x, ex, hx⟩ := iv_ex (ta := ta) (lo := 0) (hi := 2000) (z := 0 + (1 * v_iv (n_v vs 8) + 0)) (by omega) (by omega) (by omega) (by omega)
  have ex2 : v_iv (Value.int x) = 0 + (1 * v_iv (n_v vs 8) + 0) := ex
  have ex3 : 0 ≤ v_iv (Value.int x) ∧ v_iv (Value.int x) ≤ 2000 := tv_rng hx
  have e_0 : n_v (vs ++ [Value.int x]) 0 = n_v vs 0 := n_v_old (by rw [hl]; decide)
  have e_1 : n_v (vs ++ [Value.int x]) 1 = n_v vs 1 := n_v_old (by rw [hl]; decide)
  have e_2 : n_v (vs ++ [Value.int x]) 2 = n_v vs 2 := n_v_old (by rw [hl]; decide)
  have e_3 : n_v (vs ++ [Value.int x]) 3 = n_v vs 3 := n_v_old (by rw [hl]; decide)
  have e_4 : n_v (vs ++ [Value.int x]) 4 = n_v vs 4 := n_v_old (by rw [hl]; decide)
  have e_5 : n_v (vs ++ [Value.int x]) 5 = n_v vs 5 := n_v_old (by rw [hl]; decide)
  have e_7 : n_v (vs ++ [Value.int x]) 7 = n_v vs 7 := n_v_old (by rw [hl]; decide)
  have e_22 : n_v (vs ++ [Value.int x]) 22 = n_v vs 22 := n_v_old (by rw [hl]; decide)
  have e_27 : n_v (vs ++ [Value.int x]) 27 = Value.int x := n_v_new hl
  have nf0 : fc_1 PRD (20, [5, 4], [50, 1, 1, 1005, 1002, 0, 6, 4, 2, 1, 0, 0, 1, 3, 1, 2, 4, 3, 2, 1, 5, 0, 2]) ws (vs ++ [Value.int x]) := by
    refine ⟨nf_inA hl rfl, sgq_1009 ?_⟩
    · show (v_iv (n_v (vs ++ [Value.int x]) 5) + 1) ≤ w_ei ws (w_ar ws (n_v (vs ++ [Value.int x]) 4) 2) ((w_fi ws (n_v (vs ++ [Value.int x]) 4) 5 + 2))
      simp only [e_4, e_5, q4, q5]
      exact vc_Mo_edgeItem_14_0 (v_iv (n_v vs 1)) (v_iv (n_v vs 5)) (v_iv (n_v vs 24)) (w_ei ws (w_ar ws (n_v vs 0) 2)) (w_fi ws (n_v vs 0) 5) k1 k5 k24 d0 d1 f1 f2 f33
  have nf1 : fc_1 PRD (20, [4, 4], [30, 0, 1, 1, 15, -1, 1, 11]) ws (vs ++ [Value.int x]) := by
    refine ⟨nf_inA hl rfl, sgq_1437 ?_⟩
    · show 1 * w_fi ws (n_v (vs ++ [Value.int x]) 4) 15 + ((-1) * w_fi ws (n_v (vs ++ [Value.int x]) 4) 11 + 0) ≤ 0
      simp only [e_4, q4]
      exact vc_Mo_edgeItem_14_1 (w_fi ws (n_v vs 0) 11) (w_fi ws (n_v vs 0) 15) (w_fi ws (n_v vs 0) 5) f25 kz_0_11 kz_0_15
  have nf2 : fc_1 PRD (20, [4], [50, 3, 0, 12, 11, 15, 2, 21, 4, 7, 1, 3, 2, 0, 12, 0, 1, 0, 3, 2, 0, 11, 4, 3, 2, 0, 15, 0, 8, 3, 7, 1, 3, 2, 0, 12, 0, 0, 0, 7, 4, 3, 2, 0, 15, 0, 1, 2, 0, 11]) ws (vs ++ [Value.int x]) := by
    refine ⟨nf_inA hl rfl, sgq_1438 ?_⟩
    · show ((w_fi ws (n_v (vs ++ [Value.int x]) 4) 12 = 1) → (w_fi ws (n_v (vs ++ [Value.int x]) 4) 11 ≤ (w_fi ws (n_v (vs ++ [Value.int x]) 4) 15 + 8))) ∧ ((w_fi ws (n_v (vs ++ [Value.int x]) 4) 12 = 0) ∨ ((w_fi ws (n_v (vs ++ [Value.int x]) 4) 15 + 1) ≤ w_fi ws (n_v (vs ++ [Value.int x]) 4) 11))
      simp only [e_4, q4]
      exact vc_Mo_edgeItem_14_2 (w_fi ws (n_v vs 0) 11) (w_fi ws (n_v vs 0) 15) (w_fi ws (n_v vs 0) 12) (w_fi ws (n_v vs 0) 5) f26 kz_0_11 kz_0_12 kz_0_15
  have nf3 : fc_1 PRD (20, [2, 4], [30, -1, 1, 0, 0, -1, 1, 11]) ws (vs ++ [Value.int x]) := by
    refine ⟨nf_inA hl rfl, sgq_2005 ?_⟩
    · show 1 * v_iv (n_v (vs ++ [Value.int x]) 2) + ((-1) * w_fi ws (n_v (vs ++ [Value.int x]) 4) 11 + 0) ≤ (-1)
      simp only [e_2, e_4, q4]
      exact vc_Mo_edgeItem_14_3 (v_iv (n_v vs 2)) (w_fi ws (n_v vs 0) 11) (w_fi ws (n_v vs 0) 5) k2 f7 kz_0_11
  have nf4 : fc_1 PRD (20, [27, 4], [30, -2001, -1, 0, 0, -1, 1, 11]) ws (vs ++ [Value.int x]) := by
    refine ⟨nf_inA hl rfl, sgq_2013 ?_⟩
    · show (-1) * v_iv (n_v (vs ++ [Value.int x]) 27) + ((-1) * w_fi ws (n_v (vs ++ [Value.int x]) 4) 11 + 0) ≤ (-2001)
      simp only [e_4, e_27, q4]
      exact vc_Mo_edgeItem_14_4 (v_iv (n_v vs 8)) (w_fi ws (n_v vs 0) 11) (w_fi ws (n_v vs 0) 5) (v_iv (Value.int x)) k8 f8 kz_0_11 ex2
  have nf5 : fc_1 PRD (23, [22], [0, -1]) ws (vs ++ [Value.int x]) := by
    refine ⟨nf_inA hl rfl, sgq_1043 ?_⟩
    · show (-1) * v_iv (n_v (vs ++ [Value.int x]) 22) + 0 ≤ 0
      rw [e_22]
      exact vc_Mo_edgeItem_14_5 (v_iv (n_v vs 22)) (w_fi ws (n_v vs 0) 5) k22 f42
  have nf6 : fc_1 PRD (20, [4], [60, 1, 3, 199, 5, 2, 3, 4]) ws (vs ++ [Value.int x]) := by
    refine ⟨nf_inA hl rfl, sgq_980 ?_⟩
    · show RWS (w_fi ws (n_v (vs ++ [Value.int x]) 4) 5) (w_ei ws (w_ar ws (n_v (vs ++ [Value.int x]) 4) 2)) (w_ei ws (w_ar ws (n_v (vs ++ [Value.int x]) 4) 3)) (w_ei ws (w_ar ws (n_v (vs ++ [Value.int x]) 4) 4))
      simp only [e_4, q4]
      exact vc_Mo_edgeItem_14_6 (w_ei ws (w_ar ws (n_v vs 0) 2)) (w_ei ws (w_ar ws (n_v vs 0) 3)) (w_ei ws (w_ar ws (n_v vs 0) 4)) (w_fi ws (n_v vs 0) 5) f31
  have nf7 : fc_1 PRD (20, [4, 22], [60, 1, 1, 208, 5, 2]) ws (vs ++ [Value.int x]) := by
    refine ⟨nf_inA hl rfl, sgq_983 ?_⟩
    · show NDA (w_fi ws (n_v (vs ++ [Value.int x]) 4) 5) (w_ei ws (w_ar ws (n_v (vs ++ [Value.int x]) 4) 2)) (v_iv (n_v (vs ++ [Value.int x]) 22))
      simp only [e_4, e_22, q4]
      exact vc_Mo_edgeItem_14_7 (v_iv (n_v vs 22)) (w_ei ws (w_ar ws (n_v vs 0) 2)) (w_fi ws (n_v vs 0) 5) k22 f32
  have nf8 : fc_1 PRD (20, [4, 22, 7, 5, 3], [60, 8, 2, 968, 10, 11, 12, 13, 14, 15, 8, 5, 1, 2]) ws (vs ++ [Value.int x]) := by
    refine ⟨nf_inA hl rfl, sgq_1011 ?_⟩
    · show zRS8 (w_fi ws (n_v (vs ++ [Value.int x]) 4) 10) (w_fi ws (n_v (vs ++ [Value.int x]) 4) 11) (w_fi ws (n_v (vs ++ [Value.int x]) 4) 12) (w_fi ws (n_v (vs ++ [Value.int x]) 4) 13) (w_fi ws (n_v (vs ++ [Value.int x]) 4) 14) (w_fi ws (n_v (vs ++ [Value.int x]) 4) 15) (w_fi ws (n_v (vs ++ [Value.int x]) 4) 8) (w_fi ws (n_v (vs ++ [Value.int x]) 4) 5) (w_ei ws (w_ar ws (n_v (vs ++ [Value.int x]) 4) 1)) (w_ei ws (w_ar ws (n_v (vs ++ [Value.int x]) 4) 2)) (v_iv (n_v (vs ++ [Value.int x]) 22)) (v_iv (n_v (vs ++ [Value.int x]) 7)) (v_iv (n_v (vs ++ [Value.int x]) 5)) (v_iv (n_v (vs ++ [Value.int x]) 3))
      simp only [e_3, e_4, e_5, e_7, e_22, q4, q5]
      exact vc_Mo_edgeItem_14_8 (v_iv (n_v vs 1)) (v_iv (n_v vs 2)) (v_iv (n_v vs 3)) (v_iv (n_v vs 5)) (v_iv (n_v vs 7)) (v_iv (n_v vs 17)) (v_iv (n_v vs 19)) (v_iv (n_v vs 20)) (v_iv (n_v vs 22)) (v_iv (n_v vs 23)) (v_iv (n_v vs 24)) (v_iv (n_v vs 25)) (v_iv (n_v vs 26)) (w_fi ws (n_v vs 0) 8) (w_fi ws (n_v vs 0) 11) (w_fi ws (n_v vs 0) 15) (w_fi ws (n_v vs 0) 12) (w_ei ws (w_ar ws (n_v vs 0) 2)) (w_fi ws (n_v vs 0) 5) (w_ei ws (w_ar ws (n_v vs 0) 1)) (w_fi ws (n_v vs 0) 10) (w_fi ws (n_v vs 0) 13) (w_fi ws (n_v vs 0) 14) k1 k2 k3 k5 k7 k17 k22 k23 k24 k25 k26 d0 d1 g0 f1 f2 f3 f4 f5 f6 f10 f11 f34 kz_0_8 kz_0_10 kz_0_11 kz_0_12 kz_0_13 kz_0_14 kz_0_15
  have nf9 : fc_1 PRD (24, [0, 4], []) ws (vs ++ [Value.int x]) := by
    refine ⟨nf_inA hl rfl, sgq_5 ?_⟩
    · show n_v (vs ++ [Value.int x]) 0 = n_v (vs ++ [Value.int x]) 4
      first | rfl | simp only [e_0, e_4, q4, q5]
  have nf10 : fc_1 PRD (24, [1, 5], []) ws (vs ++ [Value.int x]) := by
    refine ⟨nf_inA hl rfl, sgq_5 ?_⟩
    · show n_v (vs ++ [Value.int x]) 1 = n_v (vs ++ [Value.int x]) 5
      first | rfl | simp only [e_1, e_5, q4, q5]
  obtain ⟨x0, e0, _, _⟩ := tv_int t8 rfl
  have e1 : v_iv (n_v vs 8) = x0.toInt := by rw [e0]; rfl
  have ho : sy_ofs (vs ++ [Value.int x]) (27, 8, 0, 0) := by
    refine ⟨x, x0, by rw [List.getElem?_append_right (by rw [hl]; decide), hl]; rfl, ?_, ?_, ?_⟩
    · rw [List.getElem?_append_left (by rw [hl]; decide)]; exact n_v_some (by rw [hl]; decide) e0
    · show x0.toInt + 0 ≤ x.toInt; omega
    · show x.toInt ≤ x0.toInt + 0; omega
  exact ⟨(fun _ h => (by cases h)), [Value.int x], ag_one hx, List.forall_mem_cons.mpr ⟨⟨show (20 : Nat) < 100 from by decide, nf0⟩, List.forall_mem_cons.mpr ⟨⟨show (20 : Nat) < 100 from by decide, nf1⟩, List.forall_mem_cons.mpr ⟨⟨show (20 : Nat) < 100 from by decide, nf2⟩, List.forall_mem_cons.mpr ⟨⟨show (20 : Nat) < 100 from by decide, nf3⟩, List.forall_mem_cons.mpr ⟨⟨show (20 : Nat) < 100 from by decide, nf4⟩, List.forall_mem_cons.mpr ⟨⟨show (23 : Nat) < 100 from by decide, nf5⟩, List.forall_mem_cons.mpr ⟨⟨show (20 : Nat) < 100 from by decide, nf6⟩, List.forall_mem_cons.mpr ⟨⟨show (20 : Nat) < 100 from by decide, nf7⟩, List.forall_mem_cons.mpr ⟨⟨show (20 : Nat) < 100 from by decide, nf8⟩, List.forall_mem_cons.mpr ⟨⟨show (24 : Nat) < 100 from by decide, nf9⟩, List.forall_mem_cons.mpr ⟨⟨show (24 : Nat) < 100 from by decide, nf10⟩, (fun _ h => (by cases h))⟩⟩⟩⟩⟩⟩⟩⟩⟩⟩⟩, List.forall_mem_cons.mpr ⟨ho, (fun _ h => (by cases h))⟩⟩
set_option maxHeartbeats 4000000 in
theorem vc_Mo_edgeItem_15_0 (from_0 : Int) (pos_0 : Int) (r_0 : Int) (f19 : 1 * from_0 + ((-1) * pos_0 + 0) ≤ 0) (kz_0_11 : 0 ≤ pos_0 ∧ pos_0 ≤ 2000) (kz_0_15 : 0 ≤ from_0 ∧ from_0 ≤ 2000) : 1 * from_0 + ((-1) * pos_0 + 0) ≤ 0 := by
  first
    | omega
    | (have q1 := (hE_0_2_1 (r_0 + 2) (by omega)).2 (by omega)
       have q2 := (hE_0_2_2 (r_0 + 2) (by omega)).2 (by omega)
       omega)
    | (have q1 := (hE_0_2_1 (r_0 + 1) (by omega)).2 (by omega)
       have q2 := (hE_0_2_2 (r_0 + 1) (by omega)).2 (by omega)
       omega)
    | (have q1 := (hE_0_2_1 (r_0 + 2) (by omega)).2 (by omega)
       omega)
    | (have q1 := (hE_0_2_1 (r_0 + 1) (by omega)).2 (by omega)
       omega)
    | (have q1 := (hE_0_2_1 (r_0 + 2) (by omega)).2 (by omega)
       have q2 := (hE_0_2_2 (r_0 + 2) (by omega)).2 (by omega)
       have q3 := (hE_0_2_3 (r_0 + 2) (by omega)).1 (by omega)
       omega)
    | (have q1 := (hE_0_2_1 (r_0 + 2) (by omega)).2 (by omega)
       have q2 := (hE_0_2_2 (r_0 + 2) (by omega)).2 (by omega)
       have q3 := (hE_0_2_3 (r_0 + 2) (by omega)).2 (by omega)
       omega)
set_option maxHeartbeats 4000000 in
theorem vc_Mo_edgeItem_15_1 (from_0 : Int) (pos_0 : Int) (kind_0 : Int) (r_0 : Int) (f20 : ((kind_0 = 1) → (pos_0 ≤ (from_0 + 8))) ∧ ((kind_0 = 0) ∨ ((from_0 + 1) ≤ pos_0))) (kz_0_11 : 0 ≤ pos_0 ∧ pos_0 ≤ 2000) (kz_0_12 : 0 ≤ kind_0 ∧ kind_0 ≤ 4) (kz_0_15 : 0 ≤ from_0 ∧ from_0 ≤ 2000) : ((kind_0 = 1) → (pos_0 ≤ (from_0 + 8))) ∧ ((kind_0 = 0) ∨ ((from_0 + 1) ≤ pos_0)) := by
  first
    | omega
    | (have q1 := (hE_0_2_1 (r_0 + 2) (by omega)).2 (by omega)
       have q2 := (hE_0_2_2 (r_0 + 2) (by omega)).2 (by omega)
       omega)
    | (have q1 := (hE_0_2_1 (r_0 + 1) (by omega)).2 (by omega)
       have q2 := (hE_0_2_2 (r_0 + 1) (by omega)).2 (by omega)
       omega)
    | (have q1 := (hE_0_2_1 (r_0 + 2) (by omega)).2 (by omega)
       omega)
    | (have q1 := (hE_0_2_1 (r_0 + 1) (by omega)).2 (by omega)
       omega)
    | (have q1 := (hE_0_2_1 (r_0 + 2) (by omega)).2 (by omega)
       have q2 := (hE_0_2_2 (r_0 + 2) (by omega)).2 (by omega)
       have q3 := (hE_0_2_3 (r_0 + 2) (by omega)).1 (by omega)
       omega)
    | (have q1 := (hE_0_2_1 (r_0 + 2) (by omega)).2 (by omega)
       have q2 := (hE_0_2_2 (r_0 + 2) (by omega)).2 (by omega)
       have q3 := (hE_0_2_3 (r_0 + 2) (by omega)).2 (by omega)
       omega)
set_option maxHeartbeats 4000000 in
theorem vc_Mo_edgeItem_15_2 (x2 : Int) (x17 : Int) (pos_0 : Int) (r_0 : Int) (k2 : 0 ≤ x2 ∧ x2 ≤ 2000) (k17 : 0 ≤ x17 ∧ x17 ≤ 2000) (f2 : 1 * x17 + ((-1) * x2 + 0) ≤ 0) (f3 : (-1) * x17 + (1 * x2 + 0) ≤ 0) (f21 : 1 * x17 + ((-1) * pos_0 + 0) ≤ 0) (kz_0_11 : 0 ≤ pos_0 ∧ pos_0 ≤ 2000) : 1 * x2 + ((-1) * pos_0 + 0) ≤ 0 := by
  first
    | omega
    | (have q1 := (hE_0_2_1 (r_0 + 2) (by omega)).2 (by omega)
       have q2 := (hE_0_2_2 (r_0 + 2) (by omega)).2 (by omega)
       omega)
    | (have q1 := (hE_0_2_1 (r_0 + 1) (by omega)).2 (by omega)
       have q2 := (hE_0_2_2 (r_0 + 1) (by omega)).2 (by omega)
       omega)
    | (have q1 := (hE_0_2_1 (r_0 + 2) (by omega)).2 (by omega)
       omega)
    | (have q1 := (hE_0_2_1 (r_0 + 1) (by omega)).2 (by omega)
       omega)
    | (have q1 := (hE_0_2_1 (r_0 + 2) (by omega)).2 (by omega)
       have q2 := (hE_0_2_2 (r_0 + 2) (by omega)).2 (by omega)
       have q3 := (hE_0_2_3 (r_0 + 2) (by omega)).1 (by omega)
       omega)
    | (have q1 := (hE_0_2_1 (r_0 + 2) (by omega)).2 (by omega)
       have q2 := (hE_0_2_2 (r_0 + 2) (by omega)).2 (by omega)
       have q3 := (hE_0_2_3 (r_0 + 2) (by omega)).2 (by omega)
       omega)
set_option maxHeartbeats 4000000 in
theorem vc_Mo_edgeItem_15_3 (x2 : Int) (x23 : Int) (fault_0 : Int) (pos_0 : Int) (r_0 : Int) (k2 : 0 ≤ x2 ∧ x2 ≤ 2000) (k23 : 1 ≤ x23 ∧ x23 ≤ 5) (g1 : x23 = fault_0) (kz_0_8 : 0 ≤ fault_0 ∧ fault_0 ≤ 5) (kz_0_11 : 0 ≤ pos_0 ∧ pos_0 ≤ 2000) : (1 ≤ fault_0) ∨ ((x2 + 1) ≤ pos_0) := by
  first
    | omega
    | (have q1 := (hE_0_2_1 (r_0 + 2) (by omega)).2 (by omega)
       have q2 := (hE_0_2_2 (r_0 + 2) (by omega)).2 (by omega)
       omega)
    | (have q1 := (hE_0_2_1 (r_0 + 1) (by omega)).2 (by omega)
       have q2 := (hE_0_2_2 (r_0 + 1) (by omega)).2 (by omega)
       omega)
    | (have q1 := (hE_0_2_1 (r_0 + 2) (by omega)).2 (by omega)
       omega)
    | (have q1 := (hE_0_2_1 (r_0 + 1) (by omega)).2 (by omega)
       omega)
    | (have q1 := (hE_0_2_1 (r_0 + 2) (by omega)).2 (by omega)
       have q2 := (hE_0_2_2 (r_0 + 2) (by omega)).2 (by omega)
       have q3 := (hE_0_2_3 (r_0 + 2) (by omega)).1 (by omega)
       omega)
    | (have q1 := (hE_0_2_1 (r_0 + 2) (by omega)).2 (by omega)
       have q2 := (hE_0_2_2 (r_0 + 2) (by omega)).2 (by omega)
       have q3 := (hE_0_2_3 (r_0 + 2) (by omega)).2 (by omega)
       omega)
set_option maxHeartbeats 4000000 in
theorem vc_Mo_edgeItem_15_4 (x1 : Int) (all_0 : Int → Int) (r_0 : Int) (k1 : 0 ≤ x1 ∧ x1 ≤ 7) (f26 : (x1 + 1) ≤ all_0 ((r_0 + 2))) : (x1 + 1) ≤ all_0 ((r_0 + 2)) := by
  first
    | omega
    | (have q1 := (hE_0_2_1 (r_0 + 2) (by omega)).2 (by omega)
       have q2 := (hE_0_2_2 (r_0 + 2) (by omega)).2 (by omega)
       omega)
    | (have q1 := (hE_0_2_1 (r_0 + 1) (by omega)).2 (by omega)
       have q2 := (hE_0_2_2 (r_0 + 1) (by omega)).2 (by omega)
       omega)
    | (have q1 := (hE_0_2_1 (r_0 + 2) (by omega)).2 (by omega)
       omega)
    | (have q1 := (hE_0_2_1 (r_0 + 1) (by omega)).2 (by omega)
       omega)
    | (have q1 := (hE_0_2_1 (r_0 + 2) (by omega)).2 (by omega)
       have q2 := (hE_0_2_2 (r_0 + 2) (by omega)).2 (by omega)
       have q3 := (hE_0_2_3 (r_0 + 2) (by omega)).1 (by omega)
       omega)
    | (have q1 := (hE_0_2_1 (r_0 + 2) (by omega)).2 (by omega)
       have q2 := (hE_0_2_2 (r_0 + 2) (by omega)).2 (by omega)
       have q3 := (hE_0_2_3 (r_0 + 2) (by omega)).2 (by omega)
       omega)
set_option maxHeartbeats 4000000 in
theorem vc_Mo_edgeItem_15_5 (all_0 : Int → Int) (r_0 : Int) (now_0 : Int → Int) (latest_0 : Int → Int) (f27 : RWS (r_0) (all_0) (now_0) (latest_0)) : RWS (r_0) (all_0) (now_0) (latest_0) := by
  first
    | assumption
set_option maxHeartbeats 4000000 in
theorem vc_Mo_edgeItem_15_6 (x1 : Int) (x2 : Int) (x3 : Int) (x6 : Int) (x7 : Int) (x15 : Int) (x17 : Int) (x19 : Int) (x20 : Int) (x21 : Int) (x22 : Int) (x23 : Int) (fault_0 : Int) (from_0 : Int) (pos_0 : Int) (kind_0 : Int) (all_0 : Int → Int) (r_0 : Int) (tape_0 : Int → Int) (limit_0 : Int) (place_0 : Int) (value_0 : Int) (faultPlace_0 : Int) (k1 : 0 ≤ x1 ∧ x1 ≤ 7) (k2 : 0 ≤ x2 ∧ x2 ≤ 2000) (k3 : 0 ≤ x3 ∧ x3 ≤ 4) (k6 : (-1) ≤ x6 ∧ x6 ≤ 23) (k7 : 0 ≤ x7 ∧ x7 ≤ 48) (k15 : 0 ≤ x15 ∧ x15 ≤ 0) (k17 : 0 ≤ x17 ∧ x17 ≤ 2000) (k19 : 0 ≤ x19 ∧ x19 ≤ 4) (k20 : 0 ≤ x20 ∧ x20 ≤ 48) (k21 : 0 ≤ x21 ∧ x21 ≤ 1) (k22 : (-1) ≤ x22 ∧ x22 ≤ 23) (k23 : 1 ≤ x23 ∧ x23 ≤ 5) (g1 : x23 = fault_0) (f2 : 1 * x17 + ((-1) * x2 + 0) ≤ 0) (f3 : (-1) * x17 + (1 * x2 + 0) ≤ 0) (f4 : 1 * x19 + ((-1) * x3 + 0) ≤ 0) (f5 : (-1) * x19 + (1 * x3 + 0) ≤ 0) (f6 : 1 * x20 + ((-1) * x7 + 0) ≤ 0) (f7 : (-1) * x20 + (1 * x7 + 0) ≤ 0) (f8 : 1 * x21 + ((-1) * x15 + 0) ≤ 0) (f29 : zOP8 (limit_0) (pos_0) (kind_0) (place_0) (value_0) (from_0) (fault_0) (faultPlace_0) (r_0) (tape_0) (all_0) (x22) (x20) (x6) (x21) (x1) (x19)) (kz_0_8 : 0 ≤ fault_0 ∧ fault_0 ≤ 5) (kz_0_9 : 0 ≤ faultPlace_0 ∧ faultPlace_0 ≤ 2000) (kz_0_10 : 0 ≤ limit_0 ∧ limit_0 ≤ 2000) (kz_0_11 : 0 ≤ pos_0 ∧ pos_0 ≤ 2000) (kz_0_12 : 0 ≤ kind_0 ∧ kind_0 ≤ 4) (kz_0_13 : 0 ≤ place_0 ∧ place_0 ≤ 2000) (kz_0_14 : (-49) ≤ value_0 ∧ value_0 ≤ 1048575) (kz_0_15 : 0 ≤ from_0 ∧ from_0 ≤ 2000) : zOS0 (limit_0) (pos_0) (kind_0) (place_0) (value_0) (from_0) (fault_0) (faultPlace_0) (r_0) (tape_0) (all_0) (x1) (x3) := by
  first | (have el_x17 : x17 = x2 := by omega); subst el_x17 | skip
  first | (have el_x19 : x19 = x3 := by omega); subst el_x19 | skip
  first | (have el_x20 : x20 = x7 := by omega); subst el_x20 | skip
  first | (have el_x21 : x21 = x15 := by omega); subst el_x21 | skip
  first | subst g1 | skip
  first
    | assumption
    | exact ed_back ‹zOP8 _ _ _ _ _ _ _ _ _ _ _ _ _ _ _ _ _› (by omega)
def o_Mo_edgeItem_15 : or_T := (99, 24, [(0, (2, 0, 0, [165])), (1, (0, 0, 7, [])), (2, (0, 0, 2000, [])), (3, (0, 0, 4, [])), (4, (2, 0, 0, [165])), (5, (0, 0, 7, [])), (6, (0, -1, 23, [])), (7, (0, 0, 48, [])), (8, (0, 0, 2000, [])), (15, (0, 0, 0, [])), (16, (0, 0, 2000, [])), (17, (0, 0, 2000, [])), (18, (0, 0, 2000, [])), (19, (0, 0, 4, [])), (20, (0, 0, 48, [])), (21, (0, 0, 1, [])), (22, (0, -1, 23, [])), (23, (0, 1, 5, []))], [(8, [23], [4]), (9, [23, 4], [8]), (23, [17, 2], [0, 1, -1]), (23, [17, 2], [0, -1, 1]), (23, [19, 3], [0, 1, -1]), (23, [19, 3], [0, -1, 1]), (23, [20, 7], [0, 1, -1]), (23, [20, 7], [0, -1, 1]), (23, [21, 15], [0, 1, -1]), (23, [21, 15], [0, -1, 1]), (20, [6], [50, 0, 0, 0, 2, 0, 0, 1, 0]), (23, [8, 18], [-2000, -1, -1]), (23, [2, 18], [-1, 1, -1]), (23, [2, 16], [-1, 1, -1]), (23, [8, 16], [-2000, -1, -1]), (20, [2, 16], [30, 0, 1, 0, 0, -1, 0, 0]), (23, [6], [0, -1]), (24, [0, 4], []), (24, [1, 5], []), (20, [4, 4], [30, 0, 1, 1, 15, -1, 1, 11]), (20, [4], [50, 3, 0, 12, 11, 15, 2, 21, 4, 7, 1, 3, 2, 0, 12, 0, 1, 0, 3, 2, 0, 11, 4, 3, 2, 0, 15, 0, 8, 3, 7, 1, 3, 2, 0, 12, 0, 0, 0, 7, 4, 3, 2, 0, 15, 0, 1, 2, 0, 11]), (20, [17, 4], [30, 0, 1, 0, 0, -1, 1, 11]), (20, [4, 17], [50, 3, 0, 8, 12, 11, 3, 7, 0, 2, 0, 1, 2, 0, 8, 3, 7, 1, 3, 2, 0, 12, 0, 0, 0, 6, 4, 2, 1, 1, 0, 1, 2, 0, 11]), (20, [4, 18], [50, 2, 0, 8, 11, 3, 7, 0, 2, 0, 1, 2, 0, 8, 0, 6, 4, 2, 1, 1, 0, 1, 2, 0, 11]), (20, [4, 22], [31, 1, -1, -1, 1, 8, 0, -1, 0, 0]), (20, [4, 6], [50, 2, 1, 8, 5, 2, 3, 7, 0, 2, 0, 1, 2, 0, 8, 3, 6, 0, 2, 1, 1, 0, -1, 0, 10, 3, 0, 2, 4, 3, 2, 0, 5, 0, 1, 0, 47]), (20, [5, 4], [50, 1, 1, 1005, 1002, 0, 6, 4, 2, 1, 0, 0, 1, 3, 1, 2, 4, 3, 2, 1, 5, 0, 2]), (20, [4], [60, 1, 3, 199, 5, 2, 3, 4]), (20, [4, 6, 22], [60, 2, 1, 240, 5, 8, 2]), (20, [4, 22, 20, 6, 21, 5, 19], [60, 9, 2, 1011, 10, 11, 12, 13, 14, 15, 8, 9, 5, 1, 2]), (102, [21], [187072209578355573530071658587684226515959365500928, 165008, 165009, 165011, 165012, 165013, 165014, 165015]), (23, [17, 2], [0, 1, -1]), (23, [17, 2], [0, -1, 1]), (23, [19, 3], [0, 1, -1]), (23, [19, 3], [0, -1, 1]), (23, [20, 7], [0, 1, -1]), (23, [20, 7], [0, -1, 1]), (23, [21, 15], [0, 1, -1]), (23, [21, 15], [0, -1, 1]), (23, [8, 18], [-2000, -1, -1]), (23, [2, 18], [-1, 1, -1]), (23, [2, 16], [-1, 1, -1]), (23, [8, 16], [-2000, -1, -1]), (23, [6], [0, -1]), (102, [16], [0, 165011, 165012, 165013, 165014, 165015]), (23, [2, 16], [-1, 1, -1]), (23, [8, 16], [-2000, -1, -1]), (23, [6], [0, -1])], [], [], [(20, [0, 0], [30, 0, 1, 1, 15, -1, 1, 11]), (20, [0], [50, 3, 0, 12, 11, 15, 2, 21, 4, 7, 1, 3, 2, 0, 12, 0, 1, 0, 3, 2, 0, 11, 4, 3, 2, 0, 15, 0, 8, 3, 7, 1, 3, 2, 0, 12, 0, 0, 0, 7, 4, 3, 2, 0, 15, 0, 1, 2, 0, 11]), (20, [2, 0], [30, 0, 1, 0, 0, -1, 1, 11]), (20, [0, 2], [50, 2, 0, 8, 11, 3, 7, 0, 2, 0, 1, 2, 0, 8, 0, 6, 4, 2, 1, 1, 0, 1, 2, 0, 11]), (20, [1, 0], [50, 1, 1, 1005, 1002, 0, 6, 4, 2, 1, 0, 0, 1, 3, 1, 2, 4, 3, 2, 1, 5, 0, 2]), (20, [0], [60, 1, 3, 199, 5, 2, 3, 4]), (20, [0, 1, 3], [60, 9, 2, 1007, 10, 11, 12, 13, 14, 15, 8, 9, 5, 1, 2])], [], [(1, 5, -4294967296, 0), (5, 1, -4294967296, 0)])
theorem oo_Mo_edgeItem_15 {kA : Nat → ClassId} : or_ok PRD kA GG o_Mo_edgeItem_15 := by
  refine or_mk fun A ta ws vs hD hth hl => ?_
  intro t0 r0 t1 k1 t2 k2 t3 k3 t4 r4 t5 k5 t6 k6 t7 k7 t8 k8 t15 k15 t16 k16 t17 k17 t18 k18 t19 k19 t20 k20 t21 k21 t22 k22 t23 k23 d0 d1 f0 f1 f2 f3 f4 f5 f6 f7 f8 f9 f10 f11 f12 f13 f14 f15 f16 f17 f18 f19 f20 f21 f22 f23 f24 f25 f26 f27 f28 f29 ta1 w1 le1 s1 f31 f32 f33 f34 f35 f36 f37 f38 f39 f40 f41 f42 f43 ta2 w2 le2 s2 f45 f46 f47
  replace f1 := shm_293 f1
  replace f17 := shm_5 f17
  replace f18 := shm_5 f18
  replace f19 := shm_1437 f19
  replace f20 := shm_1438 f20
  replace f21 := shm_1431 f21
  replace f26 := shm_1009 f26
  replace f27 := shm_980 f27
  replace f29 := shm_2128 f29
  have q4 : n_v vs 4 = n_v vs 0 := f17.symm
  have q5 : n_v vs 5 = n_v vs 1 := f18.symm
  simp only [q4, q5] at f1 f19 f20 f21 f26 f27 f29
  have g1 : v_iv (n_v vs 23) = w_fi ws (n_v vs 0) 8 := congrArg v_iv f1
  have kz_0_8 := fdq_34 hD hth r0
  have kz_0_9 := fdq_44 hD hth r0
  have kz_0_10 := fdq_43 hD hth r0
  have kz_0_11 := fdq_237 hD hth r0
  have kz_0_12 := fdq_187 hD hth r0
  have kz_0_13 := fdq_238 hD hth r0
  have kz_0_14 := fdq_188 hD hth r0
  have kz_0_15 := fdq_239 hD hth r0
  have nf0 : fc_1 PRD (20, [0, 0], [30, 0, 1, 1, 15, -1, 1, 11]) ws (vs) := ⟨nf_in hl rfl, sgq_1437 (vc_Mo_edgeItem_15_0 (w_fi ws (n_v vs 0) 15) (w_fi ws (n_v vs 0) 11) (w_fi ws (n_v vs 0) 5) f19 kz_0_11 kz_0_15)⟩
  have nf1 : fc_1 PRD (20, [0], [50, 3, 0, 12, 11, 15, 2, 21, 4, 7, 1, 3, 2, 0, 12, 0, 1, 0, 3, 2, 0, 11, 4, 3, 2, 0, 15, 0, 8, 3, 7, 1, 3, 2, 0, 12, 0, 0, 0, 7, 4, 3, 2, 0, 15, 0, 1, 2, 0, 11]) ws (vs) := ⟨nf_in hl rfl, sgq_1438 (vc_Mo_edgeItem_15_1 (w_fi ws (n_v vs 0) 15) (w_fi ws (n_v vs 0) 11) (w_fi ws (n_v vs 0) 12) (w_fi ws (n_v vs 0) 5) f20 kz_0_11 kz_0_12 kz_0_15)⟩
  have nf2 : fc_1 PRD (20, [2, 0], [30, 0, 1, 0, 0, -1, 1, 11]) ws (vs) := ⟨nf_in hl rfl, sgq_1431 (vc_Mo_edgeItem_15_2 (v_iv (n_v vs 2)) (v_iv (n_v vs 17)) (w_fi ws (n_v vs 0) 11) (w_fi ws (n_v vs 0) 5) k2 k17 (shm_7 f2) (shm_22 f3) f21 kz_0_11)⟩
  have nf3 : fc_1 PRD (20, [0, 2], [50, 2, 0, 8, 11, 3, 7, 0, 2, 0, 1, 2, 0, 8, 0, 6, 4, 2, 1, 1, 0, 1, 2, 0, 11]) ws (vs) := ⟨nf_in hl rfl, sgq_1726 (vc_Mo_edgeItem_15_3 (v_iv (n_v vs 2)) (v_iv (n_v vs 23)) (w_fi ws (n_v vs 0) 8) (w_fi ws (n_v vs 0) 11) (w_fi ws (n_v vs 0) 5) k2 k23 g1 kz_0_8 kz_0_11)⟩
  have nf4 : fc_1 PRD (20, [1, 0], [50, 1, 1, 1005, 1002, 0, 6, 4, 2, 1, 0, 0, 1, 3, 1, 2, 4, 3, 2, 1, 5, 0, 2]) ws (vs) := ⟨nf_in hl rfl, sgq_1009 (vc_Mo_edgeItem_15_4 (v_iv (n_v vs 1)) (w_ei ws (w_ar ws (n_v vs 0) 2)) (w_fi ws (n_v vs 0) 5) k1 f26)⟩
  have nf5 : fc_1 PRD (20, [0], [60, 1, 3, 199, 5, 2, 3, 4]) ws (vs) := ⟨nf_in hl rfl, sgq_980 (vc_Mo_edgeItem_15_5 (w_ei ws (w_ar ws (n_v vs 0) 2)) (w_fi ws (n_v vs 0) 5) (w_ei ws (w_ar ws (n_v vs 0) 3)) (w_ei ws (w_ar ws (n_v vs 0) 4)) f27)⟩
  have nf6 : fc_1 PRD (20, [0, 1, 3], [60, 9, 2, 1007, 10, 11, 12, 13, 14, 15, 8, 9, 5, 1, 2]) ws (vs) := ⟨nf_in hl rfl, sgq_1727 (vc_Mo_edgeItem_15_6 (v_iv (n_v vs 1)) (v_iv (n_v vs 2)) (v_iv (n_v vs 3)) (v_iv (n_v vs 6)) (v_iv (n_v vs 7)) (v_iv (n_v vs 15)) (v_iv (n_v vs 17)) (v_iv (n_v vs 19)) (v_iv (n_v vs 20)) (v_iv (n_v vs 21)) (v_iv (n_v vs 22)) (v_iv (n_v vs 23)) (w_fi ws (n_v vs 0) 8) (w_fi ws (n_v vs 0) 15) (w_fi ws (n_v vs 0) 11) (w_fi ws (n_v vs 0) 12) (w_ei ws (w_ar ws (n_v vs 0) 2)) (w_fi ws (n_v vs 0) 5) (w_ei ws (w_ar ws (n_v vs 0) 1)) (w_fi ws (n_v vs 0) 10) (w_fi ws (n_v vs 0) 13) (w_fi ws (n_v vs 0) 14) (w_fi ws (n_v vs 0) 9) k1 k2 k3 k6 k7 k15 k17 k19 k20 k21 k22 k23 g1 (shm_7 f2) (shm_22 f3) (shm_7 f4) (shm_22 f5) (shm_7 f6) (shm_22 f7) (shm_7 f8) f29 kz_0_8 kz_0_9 kz_0_10 kz_0_11 kz_0_12 kz_0_13 kz_0_14 kz_0_15)⟩
  refine ⟨(fun _ h => (by cases h)), [], trivial, ?_, (fun _ h => (by cases h))⟩
  rw [List.append_nil]
  exact List.forall_mem_cons.mpr ⟨⟨show (20 : Nat) < 100 from by decide, nf0⟩, List.forall_mem_cons.mpr ⟨⟨show (20 : Nat) < 100 from by decide, nf1⟩, List.forall_mem_cons.mpr ⟨⟨show (20 : Nat) < 100 from by decide, nf2⟩, List.forall_mem_cons.mpr ⟨⟨show (20 : Nat) < 100 from by decide, nf3⟩, List.forall_mem_cons.mpr ⟨⟨show (20 : Nat) < 100 from by decide, nf4⟩, List.forall_mem_cons.mpr ⟨⟨show (20 : Nat) < 100 from by decide, nf5⟩, List.forall_mem_cons.mpr ⟨⟨show (20 : Nat) < 100 from by decide, nf6⟩, (fun _ h => (by cases h))⟩⟩⟩⟩⟩⟩⟩
set_option maxHeartbeats 4000000 in
theorem vc_Mo_edgeItem_16_0 (x2 : Int) (x6 : Int) (x10 : Int) (x12 : Int) (kind_0 : Int) (fault_0 : Int) (r_0 : Int) (from_0 : Int) (pos_0 : Int) (k2 : 0 ≤ x2 ∧ x2 ≤ 2000) (k6 : (-1) ≤ x6 ∧ x6 ≤ 23) (k10 : 0 ≤ x10 ∧ x10 ≤ 0) (k12 : 1 ≤ x12 ∧ x12 ≤ 1) (f3 : (x12 = 1) → ((kind_0 = 3) ∧ (fault_0 = 0))) (f6 : (x10 = 1) → ((kind_0 = 3) ∧ (fault_0 = 0))) (f10 : ((kind_0 = 1) → (pos_0 ≤ (from_0 + 8))) ∧ ((kind_0 = 0) ∨ ((from_0 + 1) ≤ pos_0))) (f12 : (1 ≤ fault_0) ∨ ((kind_0 = 0) ∨ ((x2 + 1) ≤ pos_0))) (f13 : ((-1) * fault_0 + 0 ≤ (-1)) ∨ ((-1) * x6 + 0 ≤ 0)) (kz_0_8 : 0 ≤ fault_0 ∧ fault_0 ≤ 5) (kz_0_11 : 0 ≤ pos_0 ∧ pos_0 ≤ 2000) (kz_0_12 : 0 ≤ kind_0 ∧ kind_0 ≤ 4) (kz_0_15 : 0 ≤ from_0 ∧ from_0 ≤ 2000) : (-1) * x6 + 0 ≤ 0 := by
  first
    | omega
    | (have q1 := (hE_0_2_1 (r_0 + 2) (by omega)).2 (by omega)
       have q2 := (hE_0_2_2 (r_0 + 2) (by omega)).2 (by omega)
       omega)
    | (have q1 := (hE_0_2_1 (r_0 + 1) (by omega)).2 (by omega)
       have q2 := (hE_0_2_2 (r_0 + 1) (by omega)).2 (by omega)
       omega)
    | (have q1 := (hE_0_2_1 (r_0 + 2) (by omega)).2 (by omega)
       omega)
    | (have q1 := (hE_0_2_1 (r_0 + 1) (by omega)).2 (by omega)
       omega)
    | (have q1 := (hE_0_2_1 (r_0 + 2) (by omega)).2 (by omega)
       have q2 := (hE_0_2_2 (r_0 + 2) (by omega)).2 (by omega)
       have q3 := (hE_0_2_3 (r_0 + 2) (by omega)).1 (by omega)
       omega)
    | (have q1 := (hE_0_2_1 (r_0 + 2) (by omega)).2 (by omega)
       have q2 := (hE_0_2_2 (r_0 + 2) (by omega)).2 (by omega)
       have q3 := (hE_0_2_3 (r_0 + 2) (by omega)).2 (by omega)
       omega)
set_option maxHeartbeats 4000000 in
theorem vc_Mo_edgeItem_16_1 (x2 : Int) (x6 : Int) (x10 : Int) (x12 : Int) (kind_0 : Int) (fault_0 : Int) (r_0 : Int) (from_0 : Int) (pos_0 : Int) (k2 : 0 ≤ x2 ∧ x2 ≤ 2000) (k6 : (-1) ≤ x6 ∧ x6 ≤ 23) (k10 : 0 ≤ x10 ∧ x10 ≤ 0) (k12 : 1 ≤ x12 ∧ x12 ≤ 1) (f3 : (x12 = 1) → ((kind_0 = 3) ∧ (fault_0 = 0))) (f6 : (x10 = 1) → ((kind_0 = 3) ∧ (fault_0 = 0))) (f10 : ((kind_0 = 1) → (pos_0 ≤ (from_0 + 8))) ∧ ((kind_0 = 0) ∨ ((from_0 + 1) ≤ pos_0))) (f12 : (1 ≤ fault_0) ∨ ((kind_0 = 0) ∨ ((x2 + 1) ≤ pos_0))) (f13 : ((-1) * fault_0 + 0 ≤ (-1)) ∨ ((-1) * x6 + 0 ≤ 0)) (kz_0_8 : 0 ≤ fault_0 ∧ fault_0 ≤ 5) (kz_0_11 : 0 ≤ pos_0 ∧ pos_0 ≤ 2000) (kz_0_12 : 0 ≤ kind_0 ∧ kind_0 ≤ 4) (kz_0_15 : 0 ≤ from_0 ∧ from_0 ≤ 2000) : fault_0 = 0 := by
  first
    | omega
    | (have q1 := (hE_0_2_1 (r_0 + 2) (by omega)).2 (by omega)
       have q2 := (hE_0_2_2 (r_0 + 2) (by omega)).2 (by omega)
       omega)
    | (have q1 := (hE_0_2_1 (r_0 + 1) (by omega)).2 (by omega)
       have q2 := (hE_0_2_2 (r_0 + 1) (by omega)).2 (by omega)
       omega)
    | (have q1 := (hE_0_2_1 (r_0 + 2) (by omega)).2 (by omega)
       omega)
    | (have q1 := (hE_0_2_1 (r_0 + 1) (by omega)).2 (by omega)
       omega)
    | (have q1 := (hE_0_2_1 (r_0 + 2) (by omega)).2 (by omega)
       have q2 := (hE_0_2_2 (r_0 + 2) (by omega)).2 (by omega)
       have q3 := (hE_0_2_3 (r_0 + 2) (by omega)).1 (by omega)
       omega)
    | (have q1 := (hE_0_2_1 (r_0 + 2) (by omega)).2 (by omega)
       have q2 := (hE_0_2_2 (r_0 + 2) (by omega)).2 (by omega)
       have q3 := (hE_0_2_3 (r_0 + 2) (by omega)).2 (by omega)
       omega)
def o_Mo_edgeItem_16 : or_T := (80, 16, [(0, (2, 0, 0, [165])), (1, (0, 0, 7, [])), (2, (0, 0, 2000, [])), (3, (0, 0, 4, [])), (4, (2, 0, 0, [165])), (5, (0, 0, 7, [])), (6, (0, -1, 23, [])), (7, (0, 0, 48, [])), (8, (0, 0, 2000, [])), (9, (0, 45, 45, [])), (10, (0, 0, 0, [])), (11, (0, 62, 62, [])), (12, (0, 1, 1, [])), (13, (0, 62, 62, [])), (14, (0, 62, 62, []))], [(7, [13, 14], [0]), (9, [13, 4], [14]), (8, [12], [1]), (20, [12, 4], [50, 2, 0, 1012, 1008, 4, 6, 1, 2, 1, 0, 0, 1, 2, 7, 1, 3, 2, 1, 12, 0, 3, 1, 3, 2, 1, 8, 0, 0]), (20, [4, 11, 12], [60, 3, 0, 963, 8, 12, 14]), (8, [10], [0]), (20, [10, 4], [50, 2, 0, 1012, 1008, 4, 6, 1, 2, 1, 0, 0, 1, 2, 7, 1, 3, 2, 1, 12, 0, 3, 1, 3, 2, 1, 8, 0, 0]), (20, [4, 9, 10], [60, 3, 0, 963, 8, 12, 14]), (20, [5, 4], [50, 1, 1, 1005, 1002, 0, 6, 4, 2, 1, 0, 0, 1, 3, 1, 2, 4, 3, 2, 1, 5, 0, 2]), (20, [4, 4], [30, 0, 1, 1, 15, -1, 1, 11]), (20, [4], [50, 3, 0, 12, 11, 15, 2, 21, 4, 7, 1, 3, 2, 0, 12, 0, 1, 0, 3, 2, 0, 11, 4, 3, 2, 0, 15, 0, 8, 3, 7, 1, 3, 2, 0, 12, 0, 0, 0, 7, 4, 3, 2, 0, 15, 0, 1, 2, 0, 11]), (20, [2, 4], [30, 0, 1, 0, 0, -1, 1, 11]), (20, [4, 2], [50, 3, 0, 8, 12, 11, 3, 7, 0, 2, 0, 1, 2, 0, 8, 3, 7, 1, 3, 2, 0, 12, 0, 0, 0, 6, 4, 2, 1, 1, 0, 1, 2, 0, 11]), (20, [4, 6], [31, 1, -1, -1, 1, 8, 0, -1, 0, 0]), (20, [4], [60, 1, 3, 199, 5, 2, 3, 4]), (20, [4, 6], [60, 2, 1, 242, 5, 8, 2]), (20, [4, 6, 7, 5, 3], [60, 9, 2, 1012, 10, 11, 12, 13, 14, 15, 8, 9, 5, 1, 2]), (24, [0, 4], []), (24, [1, 5], []), (20, [8, 4], [30, 2000, 1, 0, 0, 1, 1, 11]), (20, [8, 4], [30, -2000, -1, 0, 0, -1, 1, 11])], [], [], [(23, [6], [0, -1]), (20, [4], [50, 1, 0, 8, 1, 3, 2, 0, 8, 0, 0])], [], [(1, 5, -4294967296, 0), (5, 1, -4294967296, 0)])
theorem oo_Mo_edgeItem_16 {kA : Nat → ClassId} : or_ok PRD kA GG o_Mo_edgeItem_16 := by
  refine or_mk fun A ta ws vs hD hth hl => ?_
  intro t0 r0 t1 k1 t2 k2 t3 k3 t4 r4 t5 k5 t6 k6 t7 k7 t8 k8 t9 k9 t10 k10 t11 k11 t12 k12 t13 k13 t14 k14 d0 d1 f0 f1 f2 f3 f4 f5 f6 f7 f8 f9 f10 f11 f12 f13 f14 f15 f16 f17 f18 f19 f20
  replace f3 := shm_730 f3
  replace f6 := shm_730 f6
  replace f10 := shm_1438 f10
  replace f12 := shm_1722 f12
  replace f13 := shm_2117 f13
  replace f17 := shm_5 f17
  have q4 : n_v vs 4 = n_v vs 0 := f17.symm
  simp only [q4] at f3 f6 f10 f12 f13
  have kz_0_8 := fdq_34 hD hth r0
  have kz_0_11 := fdq_237 hD hth r0
  have kz_0_12 := fdq_187 hD hth r0
  have kz_0_15 := fdq_239 hD hth r0
  have nf0 : fc_1 PRD (23, [6], [0, -1]) ws (vs) := ⟨nf_in hl rfl, sgq_1043 (vc_Mo_edgeItem_16_0 (v_iv (n_v vs 2)) (v_iv (n_v vs 6)) (v_iv (n_v vs 10)) (v_iv (n_v vs 12)) (w_fi ws (n_v vs 0) 12) (w_fi ws (n_v vs 0) 8) (w_fi ws (n_v vs 0) 5) (w_fi ws (n_v vs 0) 15) (w_fi ws (n_v vs 0) 11) k2 k6 k10 k12 f3 f6 f10 f12 f13 kz_0_8 kz_0_11 kz_0_12 kz_0_15)⟩
  have nf1 : fc_1 PRD (20, [4], [50, 1, 0, 8, 1, 3, 2, 0, 8, 0, 0]) ws (vs) := by
    refine ⟨nf_in hl rfl, sgq_2156 ?_⟩
    · show w_fi ws (n_v vs 4) 8 = 0
      rw [q4]
      exact vc_Mo_edgeItem_16_1 (v_iv (n_v vs 2)) (v_iv (n_v vs 6)) (v_iv (n_v vs 10)) (v_iv (n_v vs 12)) (w_fi ws (n_v vs 0) 12) (w_fi ws (n_v vs 0) 8) (w_fi ws (n_v vs 0) 5) (w_fi ws (n_v vs 0) 15) (w_fi ws (n_v vs 0) 11) k2 k6 k10 k12 f3 f6 f10 f12 f13 kz_0_8 kz_0_11 kz_0_12 kz_0_15
  refine ⟨(fun _ h => (by cases h)), [], trivial, ?_, (fun _ h => (by cases h))⟩
  rw [List.append_nil]
  exact List.forall_mem_cons.mpr ⟨⟨show (23 : Nat) < 100 from by decide, nf0⟩, List.forall_mem_cons.mpr ⟨⟨show (20 : Nat) < 100 from by decide, nf1⟩, (fun _ h => (by cases h))⟩⟩
set_option maxHeartbeats 4000000 in
theorem vc_Mo_edgeItem_17_0 (r_0 : Int) (pos_0 : Int) (gx : Int) (kz_0_11 : 0 ≤ pos_0 ∧ pos_0 ≤ 2000) (ex2 : gx = pos_0) : 1 * gx + ((-1) * pos_0 + 0) ≤ 0 := by
  first
    | omega
    | (have q1 := (hE_0_2_1 (r_0 + 2) (by omega)).2 (by omega)
       have q2 := (hE_0_2_2 (r_0 + 2) (by omega)).2 (by omega)
       omega)
    | (have q1 := (hE_0_2_1 (r_0 + 1) (by omega)).2 (by omega)
       have q2 := (hE_0_2_2 (r_0 + 1) (by omega)).2 (by omega)
       omega)
    | (have q1 := (hE_0_2_1 (r_0 + 2) (by omega)).2 (by omega)
       omega)
    | (have q1 := (hE_0_2_1 (r_0 + 1) (by omega)).2 (by omega)
       omega)
    | (have q1 := (hE_0_2_1 (r_0 + 2) (by omega)).2 (by omega)
       have q2 := (hE_0_2_2 (r_0 + 2) (by omega)).2 (by omega)
       have q3 := (hE_0_2_3 (r_0 + 2) (by omega)).1 (by omega)
       omega)
    | (have q1 := (hE_0_2_1 (r_0 + 2) (by omega)).2 (by omega)
       have q2 := (hE_0_2_2 (r_0 + 2) (by omega)).2 (by omega)
       have q3 := (hE_0_2_3 (r_0 + 2) (by omega)).2 (by omega)
       omega)
set_option maxHeartbeats 4000000 in
theorem vc_Mo_edgeItem_17_1 (r_0 : Int) (pos_0 : Int) (gx : Int) (kz_0_11 : 0 ≤ pos_0 ∧ pos_0 ≤ 2000) (ex2 : gx = pos_0) : gx = pos_0 := by
  first
    | omega
    | (have q1 := (hE_0_2_1 (r_0 + 2) (by omega)).2 (by omega)
       have q2 := (hE_0_2_2 (r_0 + 2) (by omega)).2 (by omega)
       omega)
    | (have q1 := (hE_0_2_1 (r_0 + 1) (by omega)).2 (by omega)
       have q2 := (hE_0_2_2 (r_0 + 1) (by omega)).2 (by omega)
       omega)
    | (have q1 := (hE_0_2_1 (r_0 + 2) (by omega)).2 (by omega)
       omega)
    | (have q1 := (hE_0_2_1 (r_0 + 1) (by omega)).2 (by omega)
       omega)
    | (have q1 := (hE_0_2_1 (r_0 + 2) (by omega)).2 (by omega)
       have q2 := (hE_0_2_2 (r_0 + 2) (by omega)).2 (by omega)
       have q3 := (hE_0_2_3 (r_0 + 2) (by omega)).1 (by omega)
       omega)
    | (have q1 := (hE_0_2_1 (r_0 + 2) (by omega)).2 (by omega)
       have q2 := (hE_0_2_2 (r_0 + 2) (by omega)).2 (by omega)
       have q3 := (hE_0_2_3 (r_0 + 2) (by omega)).2 (by omega)
       omega)
end
section

set_option maxHeartbeats 4000000 in
theorem vc_Mo_edgeItem_17_2 (x1 : Int) (x3 : Int) (x6 : Int) (x7 : Int) (fault_0 : Int) (value_0 : Int) (kind_0 : Int) (all_0 : Int → Int) (r_0 : Int) (from_0 : Int) (pos_0 : Int) (tape_0 : Int → Int) (limit_0 : Int) (place_0 : Int) (faultPlace_0 : Int) (k1 : 0 ≤ x1 ∧ x1 ≤ 7) (k3 : 0 ≤ x3 ∧ x3 ≤ 4) (k6 : (-1) ≤ x6 ∧ x6 ≤ 23) (k7 : 0 ≤ x7 ∧ x7 ≤ 48) (f1 : fault_0 = 0) (f18 : zOSL (limit_0) (pos_0) (kind_0) (place_0) (value_0) (from_0) (fault_0) (faultPlace_0) (r_0) (tape_0) (all_0) (x6) (x7) (x1) (x3)) (kz_0_8 : 0 ≤ fault_0 ∧ fault_0 ≤ 5) (kz_0_9 : 0 ≤ faultPlace_0 ∧ faultPlace_0 ≤ 2000) (kz_0_10 : 0 ≤ limit_0 ∧ limit_0 ≤ 2000) (kz_0_11 : 0 ≤ pos_0 ∧ pos_0 ≤ 2000) (kz_0_12 : 0 ≤ kind_0 ∧ kind_0 ≤ 4) (kz_0_13 : 0 ≤ place_0 ∧ place_0 ≤ 2000) (kz_0_14 : (-49) ≤ value_0 ∧ value_0 ≤ 1048575) (kz_0_15 : 0 ≤ from_0 ∧ from_0 ≤ 2000) : ZLM (limit_0) (pos_0) := by
  exact ed_lim ‹zOSL _ _ _ _ _ _ _ _ _ _ _ _ _ _ _› (by omega)
set_option maxHeartbeats 4000000 in
theorem vc_Mo_edgeItem_17_3 (x2 : Int) (x6 : Int) (x10 : Int) (x12 : Int) (fault_0 : Int) (kind_0 : Int) (r_0 : Int) (from_0 : Int) (pos_0 : Int) (gx : Int) (k2 : 0 ≤ x2 ∧ x2 ≤ 2000) (k6 : (-1) ≤ x6 ∧ x6 ≤ 23) (k10 : 0 ≤ x10 ∧ x10 ≤ 0) (k12 : 1 ≤ x12 ∧ x12 ≤ 1) (f1 : fault_0 = 0) (f5 : (x12 = 1) → ((kind_0 = 3) ∧ (fault_0 = 0))) (f8 : (x10 = 1) → ((kind_0 = 3) ∧ (fault_0 = 0))) (f12 : ((kind_0 = 1) → (pos_0 ≤ (from_0 + 8))) ∧ ((kind_0 = 0) ∨ ((from_0 + 1) ≤ pos_0))) (f13 : 1 * x2 + ((-1) * pos_0 + 0) ≤ 0) (f14 : (1 ≤ fault_0) ∨ ((kind_0 = 0) ∨ ((x2 + 1) ≤ pos_0))) (f15 : ((-1) * fault_0 + 0 ≤ (-1)) ∨ ((-1) * x6 + 0 ≤ 0)) (kz_0_8 : 0 ≤ fault_0 ∧ fault_0 ≤ 5) (kz_0_11 : 0 ≤ pos_0 ∧ pos_0 ≤ 2000) (kz_0_12 : 0 ≤ kind_0 ∧ kind_0 ≤ 4) (kz_0_15 : 0 ≤ from_0 ∧ from_0 ≤ 2000) (ex2 : gx = pos_0) : 1 * x2 + ((-1) * gx + 0) ≤ (-1) := by
  first
    | omega
    | (have q1 := (hE_0_2_1 (r_0 + 2) (by omega)).2 (by omega)
       have q2 := (hE_0_2_2 (r_0 + 2) (by omega)).2 (by omega)
       omega)
    | (have q1 := (hE_0_2_1 (r_0 + 1) (by omega)).2 (by omega)
       have q2 := (hE_0_2_2 (r_0 + 1) (by omega)).2 (by omega)
       omega)
    | (have q1 := (hE_0_2_1 (r_0 + 2) (by omega)).2 (by omega)
       omega)
    | (have q1 := (hE_0_2_1 (r_0 + 1) (by omega)).2 (by omega)
       omega)
    | (have q1 := (hE_0_2_1 (r_0 + 2) (by omega)).2 (by omega)
       have q2 := (hE_0_2_2 (r_0 + 2) (by omega)).2 (by omega)
       have q3 := (hE_0_2_3 (r_0 + 2) (by omega)).1 (by omega)
       omega)
    | (have q1 := (hE_0_2_1 (r_0 + 2) (by omega)).2 (by omega)
       have q2 := (hE_0_2_2 (r_0 + 2) (by omega)).2 (by omega)
       have q3 := (hE_0_2_3 (r_0 + 2) (by omega)).2 (by omega)
       omega)
set_option maxHeartbeats 4000000 in
theorem vc_Mo_edgeItem_17_4 (x8 : Int) (r_0 : Int) (pos_0 : Int) (gx : Int) (k8 : 0 ≤ x8 ∧ x8 ≤ 2000) (f21 : 1 * x8 + (1 * pos_0 + 0) ≤ 2000) (f22 : (-1) * x8 + ((-1) * pos_0 + 0) ≤ (-2000)) (kz_0_11 : 0 ≤ pos_0 ∧ pos_0 ≤ 2000) (ex2 : gx = pos_0) : (-1) * x8 + ((-1) * gx + 0) ≤ (-2000) := by
  first
    | omega
    | (have q1 := (hE_0_2_1 (r_0 + 2) (by omega)).2 (by omega)
       have q2 := (hE_0_2_2 (r_0 + 2) (by omega)).2 (by omega)
       omega)
    | (have q1 := (hE_0_2_1 (r_0 + 1) (by omega)).2 (by omega)
       have q2 := (hE_0_2_2 (r_0 + 1) (by omega)).2 (by omega)
       omega)
    | (have q1 := (hE_0_2_1 (r_0 + 2) (by omega)).2 (by omega)
       omega)
    | (have q1 := (hE_0_2_1 (r_0 + 1) (by omega)).2 (by omega)
       omega)
    | (have q1 := (hE_0_2_1 (r_0 + 2) (by omega)).2 (by omega)
       have q2 := (hE_0_2_2 (r_0 + 2) (by omega)).2 (by omega)
       have q3 := (hE_0_2_3 (r_0 + 2) (by omega)).1 (by omega)
       omega)
    | (have q1 := (hE_0_2_1 (r_0 + 2) (by omega)).2 (by omega)
       have q2 := (hE_0_2_2 (r_0 + 2) (by omega)).2 (by omega)
       have q3 := (hE_0_2_3 (r_0 + 2) (by omega)).2 (by omega)
       omega)
set_option maxHeartbeats 4000000 in
theorem vc_Mo_edgeItem_17_5 (x1 : Int) (x2 : Int) (x3 : Int) (x6 : Int) (x7 : Int) (x9 : Int) (x10 : Int) (x11 : Int) (x12 : Int) (x13 : Int) (x15 : Int) (fault_0 : Int) (value_0 : Int) (kind_0 : Int) (all_0 : Int → Int) (r_0 : Int) (from_0 : Int) (pos_0 : Int) (tape_0 : Int → Int) (limit_0 : Int) (place_0 : Int) (faultPlace_0 : Int) (gx : Int) (k1 : 0 ≤ x1 ∧ x1 ≤ 7) (k2 : 0 ≤ x2 ∧ x2 ≤ 2000) (k3 : 0 ≤ x3 ∧ x3 ≤ 4) (k6 : (-1) ≤ x6 ∧ x6 ≤ 23) (k7 : 0 ≤ x7 ∧ x7 ≤ 48) (k10 : 0 ≤ x10 ∧ x10 ≤ 0) (k12 : 1 ≤ x12 ∧ x12 ≤ 1) (k13 : 62 ≤ x13 ∧ x13 ≤ 62) (k15 : 1 ≤ x15 ∧ x15 ≤ 1) (f1 : fault_0 = 0) (g3 : x13 = value_0) (f5 : (x12 = 1) → ((kind_0 = 3) ∧ (fault_0 = 0))) (f8 : (x10 = 1) → ((kind_0 = 3) ∧ (fault_0 = 0))) (f12 : ((kind_0 = 1) → (pos_0 ≤ (from_0 + 8))) ∧ ((kind_0 = 0) ∨ ((from_0 + 1) ≤ pos_0))) (f14 : (1 ≤ fault_0) ∨ ((kind_0 = 0) ∨ ((x2 + 1) ≤ pos_0))) (f15 : ((-1) * fault_0 + 0 ≤ (-1)) ∨ ((-1) * x6 + 0 ≤ 0)) (f18 : zOSL (limit_0) (pos_0) (kind_0) (place_0) (value_0) (from_0) (fault_0) (faultPlace_0) (r_0) (tape_0) (all_0) (x6) (x7) (x1) (x3)) (kz_0_8 : 0 ≤ fault_0 ∧ fault_0 ≤ 5) (kz_0_9 : 0 ≤ faultPlace_0 ∧ faultPlace_0 ≤ 2000) (kz_0_10 : 0 ≤ limit_0 ∧ limit_0 ≤ 2000) (kz_0_11 : 0 ≤ pos_0 ∧ pos_0 ≤ 2000) (kz_0_12 : 0 ≤ kind_0 ∧ kind_0 ≤ 4) (kz_0_13 : 0 ≤ place_0 ∧ place_0 ≤ 2000) (kz_0_14 : (-49) ≤ value_0 ∧ value_0 ≤ 1048575) (kz_0_15 : 0 ≤ from_0 ∧ from_0 ≤ 2000) (ex2 : gx = pos_0) : zTS4 (limit_0) (fault_0) (r_0) (tape_0) (all_0) (x6) (x7) (x15) (x1) (x3) (gx) := by
  first | subst g3 | skip
  first | subst ex2 | skip
  first
    | (exfalso; have a := (sgq_t (C := 62) (‹SGQ _ _ _ x11 _›) (by omega) (by omega)).2.2; omega)
    | (exfalso; have a := (sgq_t (C := 45) (‹SGQ _ _ _ x9 _›) (by omega) (by omega)).2.2; omega)
    | exact ed_next ‹zOSL _ _ _ _ _ _ _ _ _ _ _ _ _ _ _› (by omega) (by omega) (by omega) (by omega) (by omega) (by omega)
    | (have a := (sgq_t (C := 45) (‹SGQ _ _ _ x9 _›) (by omega) (by omega)).2.2; exact ed_next ‹zOSL _ _ _ _ _ _ _ _ _ _ _ _ _ _ _› (by omega) (by omega) (by omega) (by omega) (by omega) (by omega))
    | (have a := (sgq_t (C := 62) (‹SGQ _ _ _ x11 _›) (by omega) (by omega)).2.2; exact ed_next ‹zOSL _ _ _ _ _ _ _ _ _ _ _ _ _ _ _› (by omega) (by omega) (by omega) (by omega) (by omega) (by omega))
set_option maxHeartbeats 4000000 in
theorem vc_Mo_edgeItem_17_6 (x2 : Int) (r_0 : Int) (pos_0 : Int) (gx : Int) (k2 : 0 ≤ x2 ∧ x2 ≤ 2000) (f13 : 1 * x2 + ((-1) * pos_0 + 0) ≤ 0) (kz_0_11 : 0 ≤ pos_0 ∧ pos_0 ≤ 2000) (ex2 : gx = pos_0) : 1 * x2 + ((-1) * gx + 0) ≤ 0 := by
  first
    | omega
    | (have q1 := (hE_0_2_1 (r_0 + 2) (by omega)).2 (by omega)
       have q2 := (hE_0_2_2 (r_0 + 2) (by omega)).2 (by omega)
       omega)
    | (have q1 := (hE_0_2_1 (r_0 + 1) (by omega)).2 (by omega)
       have q2 := (hE_0_2_2 (r_0 + 1) (by omega)).2 (by omega)
       omega)
    | (have q1 := (hE_0_2_1 (r_0 + 2) (by omega)).2 (by omega)
       omega)
    | (have q1 := (hE_0_2_1 (r_0 + 1) (by omega)).2 (by omega)
       omega)
    | (have q1 := (hE_0_2_1 (r_0 + 2) (by omega)).2 (by omega)
       have q2 := (hE_0_2_2 (r_0 + 2) (by omega)).2 (by omega)
       have q3 := (hE_0_2_3 (r_0 + 2) (by omega)).1 (by omega)
       omega)
    | (have q1 := (hE_0_2_1 (r_0 + 2) (by omega)).2 (by omega)
       have q2 := (hE_0_2_2 (r_0 + 2) (by omega)).2 (by omega)
       have q3 := (hE_0_2_3 (r_0 + 2) (by omega)).2 (by omega)
       omega)
def o_Mo_edgeItem_17 : or_T := (81, 16, [(0, (2, 0, 0, [165])), (1, (0, 0, 7, [])), (2, (0, 0, 2000, [])), (3, (0, 0, 4, [])), (4, (2, 0, 0, [165])), (5, (0, 0, 7, [])), (6, (0, -1, 23, [])), (7, (0, 0, 48, [])), (8, (0, 0, 2000, [])), (9, (0, 45, 45, [])), (10, (0, 0, 0, [])), (11, (0, 62, 62, [])), (12, (0, 1, 1, [])), (13, (0, 62, 62, [])), (14, (0, 62, 62, [])), (15, (0, 1, 1, []))], [(23, [6], [0, -1]), (20, [4], [50, 1, 0, 8, 1, 3, 2, 0, 8, 0, 0]), (7, [13, 14], [0]), (9, [13, 4], [14]), (8, [12], [1]), (20, [12, 4], [50, 2, 0, 1012, 1008, 4, 6, 1, 2, 1, 0, 0, 1, 2, 7, 1, 3, 2, 1, 12, 0, 3, 1, 3, 2, 1, 8, 0, 0]), (20, [4, 11, 12], [60, 3, 0, 963, 8, 12, 14]), (8, [10], [0]), (20, [10, 4], [50, 2, 0, 1012, 1008, 4, 6, 1, 2, 1, 0, 0, 1, 2, 7, 1, 3, 2, 1, 12, 0, 3, 1, 3, 2, 1, 8, 0, 0]), (20, [4, 9, 10], [60, 3, 0, 963, 8, 12, 14]), (20, [5, 4], [50, 1, 1, 1005, 1002, 0, 6, 4, 2, 1, 0, 0, 1, 3, 1, 2, 4, 3, 2, 1, 5, 0, 2]), (20, [4, 4], [30, 0, 1, 1, 15, -1, 1, 11]), (20, [4], [50, 3, 0, 12, 11, 15, 2, 21, 4, 7, 1, 3, 2, 0, 12, 0, 1, 0, 3, 2, 0, 11, 4, 3, 2, 0, 15, 0, 8, 3, 7, 1, 3, 2, 0, 12, 0, 0, 0, 7, 4, 3, 2, 0, 15, 0, 1, 2, 0, 11]), (20, [2, 4], [30, 0, 1, 0, 0, -1, 1, 11]), (20, [4, 2], [50, 3, 0, 8, 12, 11, 3, 7, 0, 2, 0, 1, 2, 0, 8, 3, 7, 1, 3, 2, 0, 12, 0, 0, 0, 6, 4, 2, 1, 1, 0, 1, 2, 0, 11]), (20, [4, 6], [31, 1, -1, -1, 1, 8, 0, -1, 0, 0]), (20, [4], [60, 1, 3, 199, 5, 2, 3, 4]), (20, [4, 6], [60, 2, 1, 242, 5, 8, 2]), (20, [4, 6, 7, 5, 3], [60, 9, 2, 1012, 10, 11, 12, 13, 14, 15, 8, 9, 5, 1, 2]), (24, [0, 4], []), (24, [1, 5], []), (20, [8, 4], [30, 2000, 1, 0, 0, 1, 1, 11]), (20, [8, 4], [30, -2000, -1, 0, 0, -1, 1, 11])], [], [(0, 0, 2000, [])], [(20, [16, 4], [30, 0, 1, 0, 0, -1, 1, 11]), (20, [16, 4], [50, 1, 0, 1011, 1, 2, 1, 0, 2, 1, 11]), (20, [4], [60, 2, 0, 947, 10, 11]), (23, [2, 16], [-1, 1, -1]), (23, [8, 16], [-2000, -1, -1]), (20, [4, 6, 7, 15, 5, 3, 16], [60, 3, 2, 973, 10, 8, 5, 1, 2]), (20, [2, 16], [30, 0, 1, 0, 0, -1, 0, 0])], [], [(1, 5, -4294967296, 0), (5, 1, -4294967296, 0)])
theorem oo_Mo_edgeItem_17 {kA : Nat → ClassId} : or_ok PRD kA GG o_Mo_edgeItem_17 := by
  refine or_mk fun A ta ws vs hD hth hl => ?_
  intro t0 r0 t1 k1 t2 k2 t3 k3 t4 r4 t5 k5 t6 k6 t7 k7 t8 k8 t9 k9 t10 k10 t11 k11 t12 k12 t13 k13 t14 k14 t15 k15 d0 d1 f0 f1 f2 f3 f4 f5 f6 f7 f8 f9 f10 f11 f12 f13 f14 f15 f16 f17 f18 f19 f20 f21 f22
  replace f1 := shm_2156 f1
  replace f3 := shm_115 f3
  replace f5 := shm_730 f5
  replace f8 := shm_730 f8
  replace f12 := shm_1438 f12
  replace f13 := shm_1431 f13
  replace f14 := shm_1722 f14
  replace f15 := shm_2117 f15
  replace f18 := shm_2153 f18
  replace f19 := shm_5 f19
  replace f20 := shm_5 f20
  replace f21 := shm_2007 f21
  replace f22 := shm_2008 f22
  have q4 : n_v vs 4 = n_v vs 0 := f19.symm
  have q5 : n_v vs 5 = n_v vs 1 := f20.symm
  simp only [q4, q5] at f1 f3 f5 f8 f12 f13 f14 f15 f18 f21 f22
  have g3 : v_iv (n_v vs 13) = w_fi ws (n_v vs 0) 14 := congrArg v_iv f3
  have kz_0_8 := fdq_34 hD hth r0
  have kz_0_9 := fdq_44 hD hth r0
  have kz_0_10 := fdq_43 hD hth r0
  have kz_0_11 := fdq_237 hD hth r0
  have kz_0_12 := fdq_187 hD hth r0
  have kz_0_13 := fdq_238 hD hth r0
  have kz_0_14 := fdq_188 hD hth r0
  have kz_0_15 := fdq_239 hD hth r0
  obtain ⟨x, ex, hx⟩ := iv_ex (ta := ta) (lo := 0) (hi := 2000) (z := w_fi ws (n_v vs 0) 11) (by omega) (by omega) (by omega) (by omega)
  have ex2 : v_iv (Value.int x) = w_fi ws (n_v vs 0) 11 := ex
  have ex3 : 0 ≤ v_iv (Value.int x) ∧ v_iv (Value.int x) ≤ 2000 := tv_rng hx
  have e_2 : n_v (vs ++ [Value.int x]) 2 = n_v vs 2 := n_v_old (by rw [hl]; decide)
  have e_3 : n_v (vs ++ [Value.int x]) 3 = n_v vs 3 := n_v_old (by rw [hl]; decide)
  have e_4 : n_v (vs ++ [Value.int x]) 4 = n_v vs 4 := n_v_old (by rw [hl]; decide)
  have e_5 : n_v (vs ++ [Value.int x]) 5 = n_v vs 5 := n_v_old (by rw [hl]; decide)
  have e_6 : n_v (vs ++ [Value.int x]) 6 = n_v vs 6 := n_v_old (by rw [hl]; decide)
  have e_7 : n_v (vs ++ [Value.int x]) 7 = n_v vs 7 := n_v_old (by rw [hl]; decide)
  have e_8 : n_v (vs ++ [Value.int x]) 8 = n_v vs 8 := n_v_old (by rw [hl]; decide)
  have e_15 : n_v (vs ++ [Value.int x]) 15 = n_v vs 15 := n_v_old (by rw [hl]; decide)
  have e_16 : n_v (vs ++ [Value.int x]) 16 = Value.int x := n_v_new hl
  have nf0 : fc_1 PRD (20, [16, 4], [30, 0, 1, 0, 0, -1, 1, 11]) ws (vs ++ [Value.int x]) := by
    refine ⟨nf_inA hl rfl, sgq_1431 ?_⟩
    · show 1 * v_iv (n_v (vs ++ [Value.int x]) 16) + ((-1) * w_fi ws (n_v (vs ++ [Value.int x]) 4) 11 + 0) ≤ 0
      simp only [e_4, e_16, q4]
      exact vc_Mo_edgeItem_17_0 (w_fi ws (n_v vs 0) 5) (w_fi ws (n_v vs 0) 11) (v_iv (Value.int x)) kz_0_11 ex2
  have nf1 : fc_1 PRD (20, [16, 4], [50, 1, 0, 1011, 1, 2, 1, 0, 2, 1, 11]) ws (vs ++ [Value.int x]) := by
    refine ⟨nf_inA hl rfl, sgq_1432 ?_⟩
    · show v_iv (n_v (vs ++ [Value.int x]) 16) = w_fi ws (n_v (vs ++ [Value.int x]) 4) 11
      simp only [e_4, e_16, q4]
      exact vc_Mo_edgeItem_17_1 (w_fi ws (n_v vs 0) 5) (w_fi ws (n_v vs 0) 11) (v_iv (Value.int x)) kz_0_11 ex2
  have nf2 : fc_1 PRD (20, [4], [60, 2, 0, 947, 10, 11]) ws (vs ++ [Value.int x]) := by
    refine ⟨nf_inA hl rfl, sgq_1433 ?_⟩
    · show ZLM (w_fi ws (n_v (vs ++ [Value.int x]) 4) 10) (w_fi ws (n_v (vs ++ [Value.int x]) 4) 11)
      simp only [e_4, q4]
      exact vc_Mo_edgeItem_17_2 (v_iv (n_v vs 1)) (v_iv (n_v vs 3)) (v_iv (n_v vs 6)) (v_iv (n_v vs 7)) (w_fi ws (n_v vs 0) 8) (w_fi ws (n_v vs 0) 14) (w_fi ws (n_v vs 0) 12) (w_ei ws (w_ar ws (n_v vs 0) 2)) (w_fi ws (n_v vs 0) 5) (w_fi ws (n_v vs 0) 15) (w_fi ws (n_v vs 0) 11) (w_ei ws (w_ar ws (n_v vs 0) 1)) (w_fi ws (n_v vs 0) 10) (w_fi ws (n_v vs 0) 13) (w_fi ws (n_v vs 0) 9) k1 k3 k6 k7 f1 f18 kz_0_8 kz_0_9 kz_0_10 kz_0_11 kz_0_12 kz_0_13 kz_0_14 kz_0_15
  have nf3 : fc_1 PRD (23, [2, 16], [-1, 1, -1]) ws (vs ++ [Value.int x]) := by
    refine ⟨nf_inA hl rfl, sgq_193 ?_⟩
    · show 1 * v_iv (n_v (vs ++ [Value.int x]) 2) + ((-1) * v_iv (n_v (vs ++ [Value.int x]) 16) + 0) ≤ (-1)
      simp only [e_2, e_16]
      exact vc_Mo_edgeItem_17_3 (v_iv (n_v vs 2)) (v_iv (n_v vs 6)) (v_iv (n_v vs 10)) (v_iv (n_v vs 12)) (w_fi ws (n_v vs 0) 8) (w_fi ws (n_v vs 0) 12) (w_fi ws (n_v vs 0) 5) (w_fi ws (n_v vs 0) 15) (w_fi ws (n_v vs 0) 11) (v_iv (Value.int x)) k2 k6 k10 k12 f1 f5 f8 f12 f13 f14 f15 kz_0_8 kz_0_11 kz_0_12 kz_0_15 ex2
  have nf4 : fc_1 PRD (23, [8, 16], [-2000, -1, -1]) ws (vs ++ [Value.int x]) := by
    refine ⟨nf_inA hl rfl, sgq_2009 ?_⟩
    · show (-1) * v_iv (n_v (vs ++ [Value.int x]) 8) + ((-1) * v_iv (n_v (vs ++ [Value.int x]) 16) + 0) ≤ (-2000)
      simp only [e_8, e_16]
      exact vc_Mo_edgeItem_17_4 (v_iv (n_v vs 8)) (w_fi ws (n_v vs 0) 5) (w_fi ws (n_v vs 0) 11) (v_iv (Value.int x)) k8 f21 f22 kz_0_11 ex2
  have nf5 : fc_1 PRD (20, [4, 6, 7, 15, 5, 3, 16], [60, 3, 2, 973, 10, 8, 5, 1, 2]) ws (vs ++ [Value.int x]) := by
    refine ⟨nf_inA hl rfl, sgq_2157 ?_⟩
    · show zTS4 (w_fi ws (n_v (vs ++ [Value.int x]) 4) 10) (w_fi ws (n_v (vs ++ [Value.int x]) 4) 8) (w_fi ws (n_v (vs ++ [Value.int x]) 4) 5) (w_ei ws (w_ar ws (n_v (vs ++ [Value.int x]) 4) 1)) (w_ei ws (w_ar ws (n_v (vs ++ [Value.int x]) 4) 2)) (v_iv (n_v (vs ++ [Value.int x]) 6)) (v_iv (n_v (vs ++ [Value.int x]) 7)) (v_iv (n_v (vs ++ [Value.int x]) 15)) (v_iv (n_v (vs ++ [Value.int x]) 5)) (v_iv (n_v (vs ++ [Value.int x]) 3)) (v_iv (n_v (vs ++ [Value.int x]) 16))
      simp only [e_3, e_4, e_5, e_6, e_7, e_15, e_16, q4, q5]
      exact vc_Mo_edgeItem_17_5 (v_iv (n_v vs 1)) (v_iv (n_v vs 2)) (v_iv (n_v vs 3)) (v_iv (n_v vs 6)) (v_iv (n_v vs 7)) (v_iv (n_v vs 9)) (v_iv (n_v vs 10)) (v_iv (n_v vs 11)) (v_iv (n_v vs 12)) (v_iv (n_v vs 13)) (v_iv (n_v vs 15)) (w_fi ws (n_v vs 0) 8) (w_fi ws (n_v vs 0) 14) (w_fi ws (n_v vs 0) 12) (w_ei ws (w_ar ws (n_v vs 0) 2)) (w_fi ws (n_v vs 0) 5) (w_fi ws (n_v vs 0) 15) (w_fi ws (n_v vs 0) 11) (w_ei ws (w_ar ws (n_v vs 0) 1)) (w_fi ws (n_v vs 0) 10) (w_fi ws (n_v vs 0) 13) (w_fi ws (n_v vs 0) 9) (v_iv (Value.int x)) k1 k2 k3 k6 k7 k10 k12 k13 k15 f1 g3 f5 f8 f12 f14 f15 f18 kz_0_8 kz_0_9 kz_0_10 kz_0_11 kz_0_12 kz_0_13 kz_0_14 kz_0_15 ex2
  have nf6 : fc_1 PRD (20, [2, 16], [30, 0, 1, 0, 0, -1, 0, 0]) ws (vs ++ [Value.int x]) := by
    refine ⟨nf_inA hl rfl, sgq_201 ?_⟩
    · show 1 * v_iv (n_v (vs ++ [Value.int x]) 2) + ((-1) * v_iv (n_v (vs ++ [Value.int x]) 16) + 0) ≤ 0
      simp only [e_2, e_16]
      exact vc_Mo_edgeItem_17_6 (v_iv (n_v vs 2)) (w_fi ws (n_v vs 0) 5) (w_fi ws (n_v vs 0) 11) (v_iv (Value.int x)) k2 f13 kz_0_11 ex2
  exact ⟨(fun _ h => (by cases h)), [Value.int x], ag_one hx, List.forall_mem_cons.mpr ⟨⟨show (20 : Nat) < 100 from by decide, nf0⟩, List.forall_mem_cons.mpr ⟨⟨show (20 : Nat) < 100 from by decide, nf1⟩, List.forall_mem_cons.mpr ⟨⟨show (20 : Nat) < 100 from by decide, nf2⟩, List.forall_mem_cons.mpr ⟨⟨show (23 : Nat) < 100 from by decide, nf3⟩, List.forall_mem_cons.mpr ⟨⟨show (23 : Nat) < 100 from by decide, nf4⟩, List.forall_mem_cons.mpr ⟨⟨show (20 : Nat) < 100 from by decide, nf5⟩, List.forall_mem_cons.mpr ⟨⟨show (20 : Nat) < 100 from by decide, nf6⟩, (fun _ h => (by cases h))⟩⟩⟩⟩⟩⟩⟩, (fun _ h => (by cases h))⟩
set_option maxHeartbeats 4000000 in
theorem vc_Mo_edgeItem_18_0 (x2 : Int) (r_0 : Int) (gx : Int) (k2 : 0 ≤ x2 ∧ x2 ≤ 2000) (ex2 : gx = x2) : 1 * gx + ((-1) * x2 + 0) ≤ 0 := by
  first
    | omega
    | (have q1 := (hE_0_2_1 (r_0 + 2) (by omega)).2 (by omega)
       have q2 := (hE_0_2_2 (r_0 + 2) (by omega)).2 (by omega)
       omega)
    | (have q1 := (hE_0_2_1 (r_0 + 1) (by omega)).2 (by omega)
       have q2 := (hE_0_2_2 (r_0 + 1) (by omega)).2 (by omega)
       omega)
    | (have q1 := (hE_0_2_1 (r_0 + 2) (by omega)).2 (by omega)
       omega)
    | (have q1 := (hE_0_2_1 (r_0 + 1) (by omega)).2 (by omega)
       omega)
    | (have q1 := (hE_0_2_1 (r_0 + 2) (by omega)).2 (by omega)
       have q2 := (hE_0_2_2 (r_0 + 2) (by omega)).2 (by omega)
       have q3 := (hE_0_2_3 (r_0 + 2) (by omega)).1 (by omega)
       omega)
    | (have q1 := (hE_0_2_1 (r_0 + 2) (by omega)).2 (by omega)
       have q2 := (hE_0_2_2 (r_0 + 2) (by omega)).2 (by omega)
       have q3 := (hE_0_2_3 (r_0 + 2) (by omega)).2 (by omega)
       omega)
set_option maxHeartbeats 4000000 in
theorem vc_Mo_edgeItem_18_1 (x2 : Int) (r_0 : Int) (gx : Int) (k2 : 0 ≤ x2 ∧ x2 ≤ 2000) (ex2 : gx = x2) : (-1) * gx + (1 * x2 + 0) ≤ 0 := by
  first
    | omega
    | (have q1 := (hE_0_2_1 (r_0 + 2) (by omega)).2 (by omega)
       have q2 := (hE_0_2_2 (r_0 + 2) (by omega)).2 (by omega)
       omega)
    | (have q1 := (hE_0_2_1 (r_0 + 1) (by omega)).2 (by omega)
       have q2 := (hE_0_2_2 (r_0 + 1) (by omega)).2 (by omega)
       omega)
    | (have q1 := (hE_0_2_1 (r_0 + 2) (by omega)).2 (by omega)
       omega)
    | (have q1 := (hE_0_2_1 (r_0 + 1) (by omega)).2 (by omega)
       omega)
    | (have q1 := (hE_0_2_1 (r_0 + 2) (by omega)).2 (by omega)
       have q2 := (hE_0_2_2 (r_0 + 2) (by omega)).2 (by omega)
       have q3 := (hE_0_2_3 (r_0 + 2) (by omega)).1 (by omega)
       omega)
    | (have q1 := (hE_0_2_1 (r_0 + 2) (by omega)).2 (by omega)
       have q2 := (hE_0_2_2 (r_0 + 2) (by omega)).2 (by omega)
       have q3 := (hE_0_2_3 (r_0 + 2) (by omega)).2 (by omega)
       omega)
set_option maxHeartbeats 4000000 in
theorem vc_Mo_edgeItem_18_2 (x3 : Int) (r_0 : Int) (gu : Int) (k3 : 0 ≤ x3 ∧ x3 ≤ 4) (eu2 : gu = x3) : 1 * gu + ((-1) * x3 + 0) ≤ 0 := by
  first
    | omega
    | (have q1 := (hE_0_2_1 (r_0 + 2) (by omega)).2 (by omega)
       have q2 := (hE_0_2_2 (r_0 + 2) (by omega)).2 (by omega)
       omega)
    | (have q1 := (hE_0_2_1 (r_0 + 1) (by omega)).2 (by omega)
       have q2 := (hE_0_2_2 (r_0 + 1) (by omega)).2 (by omega)
       omega)
    | (have q1 := (hE_0_2_1 (r_0 + 2) (by omega)).2 (by omega)
       omega)
    | (have q1 := (hE_0_2_1 (r_0 + 1) (by omega)).2 (by omega)
       omega)
    | (have q1 := (hE_0_2_1 (r_0 + 2) (by omega)).2 (by omega)
       have q2 := (hE_0_2_2 (r_0 + 2) (by omega)).2 (by omega)
       have q3 := (hE_0_2_3 (r_0 + 2) (by omega)).1 (by omega)
       omega)
    | (have q1 := (hE_0_2_1 (r_0 + 2) (by omega)).2 (by omega)
       have q2 := (hE_0_2_2 (r_0 + 2) (by omega)).2 (by omega)
       have q3 := (hE_0_2_3 (r_0 + 2) (by omega)).2 (by omega)
       omega)
set_option maxHeartbeats 4000000 in
theorem vc_Mo_edgeItem_18_3 (x3 : Int) (r_0 : Int) (gu : Int) (k3 : 0 ≤ x3 ∧ x3 ≤ 4) (eu2 : gu = x3) : (-1) * gu + (1 * x3 + 0) ≤ 0 := by
  first
    | omega
    | (have q1 := (hE_0_2_1 (r_0 + 2) (by omega)).2 (by omega)
       have q2 := (hE_0_2_2 (r_0 + 2) (by omega)).2 (by omega)
       omega)
    | (have q1 := (hE_0_2_1 (r_0 + 1) (by omega)).2 (by omega)
       have q2 := (hE_0_2_2 (r_0 + 1) (by omega)).2 (by omega)
       omega)
    | (have q1 := (hE_0_2_1 (r_0 + 2) (by omega)).2 (by omega)
       omega)
    | (have q1 := (hE_0_2_1 (r_0 + 1) (by omega)).2 (by omega)
       omega)
    | (have q1 := (hE_0_2_1 (r_0 + 2) (by omega)).2 (by omega)
       have q2 := (hE_0_2_2 (r_0 + 2) (by omega)).2 (by omega)
       have q3 := (hE_0_2_3 (r_0 + 2) (by omega)).1 (by omega)
       omega)
    | (have q1 := (hE_0_2_1 (r_0 + 2) (by omega)).2 (by omega)
       have q2 := (hE_0_2_2 (r_0 + 2) (by omega)).2 (by omega)
       have q3 := (hE_0_2_3 (r_0 + 2) (by omega)).2 (by omega)
       omega)
set_option maxHeartbeats 4000000 in
theorem vc_Mo_edgeItem_18_4 (x7 : Int) (r_0 : Int) (gw : Int) (k7 : 0 ≤ x7 ∧ x7 ≤ 48) (ew2 : gw = x7) : 1 * gw + ((-1) * x7 + 0) ≤ 0 := by
  first
    | omega
    | (have q1 := (hE_0_2_1 (r_0 + 2) (by omega)).2 (by omega)
       have q2 := (hE_0_2_2 (r_0 + 2) (by omega)).2 (by omega)
       omega)
    | (have q1 := (hE_0_2_1 (r_0 + 1) (by omega)).2 (by omega)
       have q2 := (hE_0_2_2 (r_0 + 1) (by omega)).2 (by omega)
       omega)
    | (have q1 := (hE_0_2_1 (r_0 + 2) (by omega)).2 (by omega)
       omega)
    | (have q1 := (hE_0_2_1 (r_0 + 1) (by omega)).2 (by omega)
       omega)
    | (have q1 := (hE_0_2_1 (r_0 + 2) (by omega)).2 (by omega)
       have q2 := (hE_0_2_2 (r_0 + 2) (by omega)).2 (by omega)
       have q3 := (hE_0_2_3 (r_0 + 2) (by omega)).1 (by omega)
       omega)
    | (have q1 := (hE_0_2_1 (r_0 + 2) (by omega)).2 (by omega)
       have q2 := (hE_0_2_2 (r_0 + 2) (by omega)).2 (by omega)
       have q3 := (hE_0_2_3 (r_0 + 2) (by omega)).2 (by omega)
       omega)
set_option maxHeartbeats 4000000 in
theorem vc_Mo_edgeItem_18_5 (x7 : Int) (r_0 : Int) (gw : Int) (k7 : 0 ≤ x7 ∧ x7 ≤ 48) (ew2 : gw = x7) : (-1) * gw + (1 * x7 + 0) ≤ 0 := by
  first
    | omega
    | (have q1 := (hE_0_2_1 (r_0 + 2) (by omega)).2 (by omega)
       have q2 := (hE_0_2_2 (r_0 + 2) (by omega)).2 (by omega)
       omega)
    | (have q1 := (hE_0_2_1 (r_0 + 1) (by omega)).2 (by omega)
       have q2 := (hE_0_2_2 (r_0 + 1) (by omega)).2 (by omega)
       omega)
    | (have q1 := (hE_0_2_1 (r_0 + 2) (by omega)).2 (by omega)
       omega)
    | (have q1 := (hE_0_2_1 (r_0 + 1) (by omega)).2 (by omega)
       omega)
    | (have q1 := (hE_0_2_1 (r_0 + 2) (by omega)).2 (by omega)
       have q2 := (hE_0_2_2 (r_0 + 2) (by omega)).2 (by omega)
       have q3 := (hE_0_2_3 (r_0 + 2) (by omega)).1 (by omega)
       omega)
    | (have q1 := (hE_0_2_1 (r_0 + 2) (by omega)).2 (by omega)
       have q2 := (hE_0_2_2 (r_0 + 2) (by omega)).2 (by omega)
       have q3 := (hE_0_2_3 (r_0 + 2) (by omega)).2 (by omega)
       omega)
set_option maxHeartbeats 4000000 in
theorem vc_Mo_edgeItem_18_6 (x15 : Int) (r_0 : Int) (gc : Int) (k15 : 1 ≤ x15 ∧ x15 ≤ 1) (ec2 : gc = x15) : 1 * gc + ((-1) * x15 + 0) ≤ 0 := by
  first
    | omega
    | (have q1 := (hE_0_2_1 (r_0 + 2) (by omega)).2 (by omega)
       have q2 := (hE_0_2_2 (r_0 + 2) (by omega)).2 (by omega)
       omega)
    | (have q1 := (hE_0_2_1 (r_0 + 1) (by omega)).2 (by omega)
       have q2 := (hE_0_2_2 (r_0 + 1) (by omega)).2 (by omega)
       omega)
    | (have q1 := (hE_0_2_1 (r_0 + 2) (by omega)).2 (by omega)
       omega)
    | (have q1 := (hE_0_2_1 (r_0 + 1) (by omega)).2 (by omega)
       omega)
    | (have q1 := (hE_0_2_1 (r_0 + 2) (by omega)).2 (by omega)
       have q2 := (hE_0_2_2 (r_0 + 2) (by omega)).2 (by omega)
       have q3 := (hE_0_2_3 (r_0 + 2) (by omega)).1 (by omega)
       omega)
    | (have q1 := (hE_0_2_1 (r_0 + 2) (by omega)).2 (by omega)
       have q2 := (hE_0_2_2 (r_0 + 2) (by omega)).2 (by omega)
       have q3 := (hE_0_2_3 (r_0 + 2) (by omega)).2 (by omega)
       omega)
set_option maxHeartbeats 4000000 in
theorem vc_Mo_edgeItem_18_7 (x15 : Int) (r_0 : Int) (gc : Int) (k15 : 1 ≤ x15 ∧ x15 ≤ 1) (ec2 : gc = x15) : (-1) * gc + (1 * x15 + 0) ≤ 0 := by
  first
    | omega
    | (have q1 := (hE_0_2_1 (r_0 + 2) (by omega)).2 (by omega)
       have q2 := (hE_0_2_2 (r_0 + 2) (by omega)).2 (by omega)
       omega)
    | (have q1 := (hE_0_2_1 (r_0 + 1) (by omega)).2 (by omega)
       have q2 := (hE_0_2_2 (r_0 + 1) (by omega)).2 (by omega)
       omega)
    | (have q1 := (hE_0_2_1 (r_0 + 2) (by omega)).2 (by omega)
       omega)
    | (have q1 := (hE_0_2_1 (r_0 + 1) (by omega)).2 (by omega)
       omega)
    | (have q1 := (hE_0_2_1 (r_0 + 2) (by omega)).2 (by omega)
       have q2 := (hE_0_2_2 (r_0 + 2) (by omega)).2 (by omega)
       have q3 := (hE_0_2_3 (r_0 + 2) (by omega)).1 (by omega)
       omega)
    | (have q1 := (hE_0_2_1 (r_0 + 2) (by omega)).2 (by omega)
       have q2 := (hE_0_2_2 (r_0 + 2) (by omega)).2 (by omega)
       have q3 := (hE_0_2_3 (r_0 + 2) (by omega)).2 (by omega)
       omega)
set_option maxHeartbeats 4000000 in
theorem vc_Mo_edgeItem_18_8 (r_0 : Int) (from_0 : Int) (pos_0 : Int) (f12 : 1 * from_0 + ((-1) * pos_0 + 0) ≤ 0) (kz_0_11 : 0 ≤ pos_0 ∧ pos_0 ≤ 2000) (kz_0_15 : 0 ≤ from_0 ∧ from_0 ≤ 2000) : 1 * from_0 + ((-1) * pos_0 + 0) ≤ 0 := by
  first
    | omega
    | (have q1 := (hE_0_2_1 (r_0 + 2) (by omega)).2 (by omega)
       have q2 := (hE_0_2_2 (r_0 + 2) (by omega)).2 (by omega)
       omega)
    | (have q1 := (hE_0_2_1 (r_0 + 1) (by omega)).2 (by omega)
       have q2 := (hE_0_2_2 (r_0 + 1) (by omega)).2 (by omega)
       omega)
    | (have q1 := (hE_0_2_1 (r_0 + 2) (by omega)).2 (by omega)
       omega)
    | (have q1 := (hE_0_2_1 (r_0 + 1) (by omega)).2 (by omega)
       omega)
    | (have q1 := (hE_0_2_1 (r_0 + 2) (by omega)).2 (by omega)
       have q2 := (hE_0_2_2 (r_0 + 2) (by omega)).2 (by omega)
       have q3 := (hE_0_2_3 (r_0 + 2) (by omega)).1 (by omega)
       omega)
    | (have q1 := (hE_0_2_1 (r_0 + 2) (by omega)).2 (by omega)
       have q2 := (hE_0_2_2 (r_0 + 2) (by omega)).2 (by omega)
       have q3 := (hE_0_2_3 (r_0 + 2) (by omega)).2 (by omega)
       omega)
set_option maxHeartbeats 4000000 in
theorem vc_Mo_edgeItem_18_9 (r_0 : Int) (from_0 : Int) (pos_0 : Int) (kind_0 : Int) (f13 : ((kind_0 = 1) → (pos_0 ≤ (from_0 + 8))) ∧ ((kind_0 = 0) ∨ ((from_0 + 1) ≤ pos_0))) (kz_0_11 : 0 ≤ pos_0 ∧ pos_0 ≤ 2000) (kz_0_12 : 0 ≤ kind_0 ∧ kind_0 ≤ 4) (kz_0_15 : 0 ≤ from_0 ∧ from_0 ≤ 2000) : ((kind_0 = 1) → (pos_0 ≤ (from_0 + 8))) ∧ ((kind_0 = 0) ∨ ((from_0 + 1) ≤ pos_0)) := by
  first
    | omega
    | (have q1 := (hE_0_2_1 (r_0 + 2) (by omega)).2 (by omega)
       have q2 := (hE_0_2_2 (r_0 + 2) (by omega)).2 (by omega)
       omega)
    | (have q1 := (hE_0_2_1 (r_0 + 1) (by omega)).2 (by omega)
       have q2 := (hE_0_2_2 (r_0 + 1) (by omega)).2 (by omega)
       omega)
    | (have q1 := (hE_0_2_1 (r_0 + 2) (by omega)).2 (by omega)
       omega)
    | (have q1 := (hE_0_2_1 (r_0 + 1) (by omega)).2 (by omega)
       omega)
    | (have q1 := (hE_0_2_1 (r_0 + 2) (by omega)).2 (by omega)
       have q2 := (hE_0_2_2 (r_0 + 2) (by omega)).2 (by omega)
       have q3 := (hE_0_2_3 (r_0 + 2) (by omega)).1 (by omega)
       omega)
    | (have q1 := (hE_0_2_1 (r_0 + 2) (by omega)).2 (by omega)
       have q2 := (hE_0_2_2 (r_0 + 2) (by omega)).2 (by omega)
       have q3 := (hE_0_2_3 (r_0 + 2) (by omega)).2 (by omega)
       omega)
set_option maxHeartbeats 4000000 in
theorem vc_Mo_edgeItem_18_10 (x2 : Int) (x16 : Int) (r_0 : Int) (from_0 : Int) (pos_0 : Int) (gx : Int) (gy : Int) (k2 : 0 ≤ x2 ∧ x2 ≤ 2000) (k16 : 0 ≤ x16 ∧ x16 ≤ 2000) (f0 : 1 * x2 + ((-1) * x16 + 0) ≤ (-1)) (f12 : 1 * from_0 + ((-1) * pos_0 + 0) ≤ 0) (f14 : 1 * x16 + ((-1) * from_0 + 0) ≤ 0) (kz_0_11 : 0 ≤ pos_0 ∧ pos_0 ≤ 2000) (kz_0_15 : 0 ≤ from_0 ∧ from_0 ≤ 2000) (ex2 : gx = x2) (ey2 : gy = from_0) : 1 * gx + ((-1) * pos_0 + 0) ≤ 0 := by
  first
    | omega
    | (have q1 := (hE_0_2_1 (r_0 + 2) (by omega)).2 (by omega)
       have q2 := (hE_0_2_2 (r_0 + 2) (by omega)).2 (by omega)
       omega)
    | (have q1 := (hE_0_2_1 (r_0 + 1) (by omega)).2 (by omega)
       have q2 := (hE_0_2_2 (r_0 + 1) (by omega)).2 (by omega)
       omega)
    | (have q1 := (hE_0_2_1 (r_0 + 2) (by omega)).2 (by omega)
       omega)
    | (have q1 := (hE_0_2_1 (r_0 + 1) (by omega)).2 (by omega)
       omega)
    | (have q1 := (hE_0_2_1 (r_0 + 2) (by omega)).2 (by omega)
       have q2 := (hE_0_2_2 (r_0 + 2) (by omega)).2 (by omega)
       have q3 := (hE_0_2_3 (r_0 + 2) (by omega)).1 (by omega)
       omega)
    | (have q1 := (hE_0_2_1 (r_0 + 2) (by omega)).2 (by omega)
       have q2 := (hE_0_2_2 (r_0 + 2) (by omega)).2 (by omega)
       have q3 := (hE_0_2_3 (r_0 + 2) (by omega)).2 (by omega)
       omega)
set_option maxHeartbeats 4000000 in
theorem vc_Mo_edgeItem_18_11 (r_0 : Int) (from_0 : Int) (pos_0 : Int) (kind_0 : Int) (gy : Int) (f12 : 1 * from_0 + ((-1) * pos_0 + 0) ≤ 0) (f13 : ((kind_0 = 1) → (pos_0 ≤ (from_0 + 8))) ∧ ((kind_0 = 0) ∨ ((from_0 + 1) ≤ pos_0))) (kz_0_11 : 0 ≤ pos_0 ∧ pos_0 ≤ 2000) (kz_0_12 : 0 ≤ kind_0 ∧ kind_0 ≤ 4) (kz_0_15 : 0 ≤ from_0 ∧ from_0 ≤ 2000) (ey2 : gy = from_0) : (kind_0 = 0) ∨ ((gy + 1) ≤ pos_0) := by
  first
    | omega
    | (have q1 := (hE_0_2_1 (r_0 + 2) (by omega)).2 (by omega)
       have q2 := (hE_0_2_2 (r_0 + 2) (by omega)).2 (by omega)
       omega)
    | (have q1 := (hE_0_2_1 (r_0 + 1) (by omega)).2 (by omega)
       have q2 := (hE_0_2_2 (r_0 + 1) (by omega)).2 (by omega)
       omega)
    | (have q1 := (hE_0_2_1 (r_0 + 2) (by omega)).2 (by omega)
       omega)
    | (have q1 := (hE_0_2_1 (r_0 + 1) (by omega)).2 (by omega)
       omega)
    | (have q1 := (hE_0_2_1 (r_0 + 2) (by omega)).2 (by omega)
       have q2 := (hE_0_2_2 (r_0 + 2) (by omega)).2 (by omega)
       have q3 := (hE_0_2_3 (r_0 + 2) (by omega)).1 (by omega)
       omega)
    | (have q1 := (hE_0_2_1 (r_0 + 2) (by omega)).2 (by omega)
       have q2 := (hE_0_2_2 (r_0 + 2) (by omega)).2 (by omega)
       have q3 := (hE_0_2_3 (r_0 + 2) (by omega)).2 (by omega)
       omega)
set_option maxHeartbeats 4000000 in
theorem vc_Mo_edgeItem_18_12 (x1 : Int) (all_0 : Int → Int) (r_0 : Int) (k1 : 0 ≤ x1 ∧ x1 ≤ 7) (f6 : (x1 + 1) ≤ all_0 ((r_0 + 2))) : (x1 + 1) ≤ all_0 ((r_0 + 2)) := by
  first
    | omega
    | (have q1 := (hE_0_2_1 (r_0 + 2) (by omega)).2 (by omega)
       have q2 := (hE_0_2_2 (r_0 + 2) (by omega)).2 (by omega)
       omega)
    | (have q1 := (hE_0_2_1 (r_0 + 1) (by omega)).2 (by omega)
       have q2 := (hE_0_2_2 (r_0 + 1) (by omega)).2 (by omega)
       omega)
    | (have q1 := (hE_0_2_1 (r_0 + 2) (by omega)).2 (by omega)
       omega)
    | (have q1 := (hE_0_2_1 (r_0 + 1) (by omega)).2 (by omega)
       omega)
    | (have q1 := (hE_0_2_1 (r_0 + 2) (by omega)).2 (by omega)
       have q2 := (hE_0_2_2 (r_0 + 2) (by omega)).2 (by omega)
       have q3 := (hE_0_2_3 (r_0 + 2) (by omega)).1 (by omega)
       omega)
    | (have q1 := (hE_0_2_1 (r_0 + 2) (by omega)).2 (by omega)
       have q2 := (hE_0_2_2 (r_0 + 2) (by omega)).2 (by omega)
       have q3 := (hE_0_2_3 (r_0 + 2) (by omega)).2 (by omega)
       omega)
set_option maxHeartbeats 4000000 in
theorem vc_Mo_edgeItem_18_13 (all_0 : Int → Int) (r_0 : Int) (now_0 : Int → Int) (latest_0 : Int → Int) (f8 : RWS (r_0) (all_0) (now_0) (latest_0)) : RWS (r_0) (all_0) (now_0) (latest_0) := by
  first
    | assumption
set_option maxHeartbeats 4000000 in
theorem vc_Mo_edgeItem_18_14 (x6 : Int) (all_0 : Int → Int) (fault_0 : Int) (r_0 : Int) (k6 : (-1) ≤ x6 ∧ x6 ≤ 23) (f5 : fault_0 = 0) (f9 : EDI (r_0) (fault_0) (all_0) (x6)) (kz_0_8 : 0 ≤ fault_0 ∧ fault_0 ≤ 5) : MEB (r_0) (all_0) (x6) := by
  intro q
  exact (‹EDI _ _ _ _› (by omega)).2
set_option maxHeartbeats 4000000 in
theorem vc_Mo_edgeItem_18_15 (x1 : Int) (x2 : Int) (x3 : Int) (x6 : Int) (x7 : Int) (x15 : Int) (x16 : Int) (tape_0 : Int → Int) (all_0 : Int → Int) (limit_0 : Int) (fault_0 : Int) (r_0 : Int) (from_0 : Int) (pos_0 : Int) (kind_0 : Int) (place_0 : Int) (value_0 : Int) (gx : Int) (gy : Int) (gu : Int) (gw : Int) (gc : Int) (k1 : 0 ≤ x1 ∧ x1 ≤ 7) (k2 : 0 ≤ x2 ∧ x2 ≤ 2000) (k3 : 0 ≤ x3 ∧ x3 ≤ 4) (k6 : (-1) ≤ x6 ∧ x6 ≤ 23) (k7 : 0 ≤ x7 ∧ x7 ≤ 48) (k15 : 1 ≤ x15 ∧ x15 ≤ 1) (k16 : 0 ≤ x16 ∧ x16 ≤ 2000) (f2 : zTS4 (limit_0) (fault_0) (r_0) (tape_0) (all_0) (x6) (x7) (x15) (x1) (x3) (x16)) (f15 : TKR (limit_0) (pos_0) (kind_0) (place_0) (value_0) (from_0) (tape_0) (x16)) (kz_0_8 : 0 ≤ fault_0 ∧ fault_0 ≤ 5) (kz_0_10 : 0 ≤ limit_0 ∧ limit_0 ≤ 2000) (kz_0_11 : 0 ≤ pos_0 ∧ pos_0 ≤ 2000) (kz_0_12 : 0 ≤ kind_0 ∧ kind_0 ≤ 4) (kz_0_13 : 0 ≤ place_0 ∧ place_0 ≤ 2000) (kz_0_14 : (-49) ≤ value_0 ∧ value_0 ≤ 1048575) (kz_0_15 : 0 ≤ from_0 ∧ from_0 ≤ 2000) (ex2 : gx = x2) (ey2 : gy = from_0) (eu2 : gu = x3) (ew2 : gw = x7) (ec2 : gc = x15) : zRS4 (limit_0) (pos_0) (kind_0) (place_0) (value_0) (from_0) (fault_0) (r_0) (tape_0) (all_0) (x6) (gw) (gc) (x1) (gu) := by
  first | subst ex2 | skip
  first | subst ey2 | skip
  first | subst eu2 | skip
  first | subst ew2 | skip
  first | subst ec2 | skip
  exact rsq_of ‹zTS4 _ _ _ _ _ _ _ _ _ _ _› ‹TKR _ _ _ _ _ _ _ _›
set_option maxHeartbeats 4000000 in
theorem vc_Mo_edgeItem_18_16 (x6 : Int) (r_0 : Int) (k6 : (-1) ≤ x6 ∧ x6 ≤ 23) (f4 : (-1) * x6 + 0 ≤ 0) : 0 ≤ x6 := by
  first
    | omega
    | (have q1 := (hE_0_2_1 (r_0 + 2) (by omega)).2 (by omega)
       have q2 := (hE_0_2_2 (r_0 + 2) (by omega)).2 (by omega)
       omega)
    | (have q1 := (hE_0_2_1 (r_0 + 1) (by omega)).2 (by omega)
       have q2 := (hE_0_2_2 (r_0 + 1) (by omega)).2 (by omega)
       omega)
    | (have q1 := (hE_0_2_1 (r_0 + 2) (by omega)).2 (by omega)
       omega)
    | (have q1 := (hE_0_2_1 (r_0 + 1) (by omega)).2 (by omega)
       omega)
    | (have q1 := (hE_0_2_1 (r_0 + 2) (by omega)).2 (by omega)
       have q2 := (hE_0_2_2 (r_0 + 2) (by omega)).2 (by omega)
       have q3 := (hE_0_2_3 (r_0 + 2) (by omega)).1 (by omega)
       omega)
    | (have q1 := (hE_0_2_1 (r_0 + 2) (by omega)).2 (by omega)
       have q2 := (hE_0_2_2 (r_0 + 2) (by omega)).2 (by omega)
       have q3 := (hE_0_2_3 (r_0 + 2) (by omega)).2 (by omega)
       omega)
set_option maxHeartbeats 4000000 in
theorem vc_Mo_edgeItem_18_17 (x8 : Int) (x16 : Int) (r_0 : Int) (from_0 : Int) (gy : Int) (k8 : 0 ≤ x8 ∧ x8 ≤ 2000) (k16 : 0 ≤ x16 ∧ x16 ≤ 2000) (f1 : (-1) * x8 + ((-1) * x16 + 0) ≤ (-2000)) (f14 : 1 * x16 + ((-1) * from_0 + 0) ≤ 0) (kz_0_15 : 0 ≤ from_0 ∧ from_0 ≤ 2000) (ey2 : gy = from_0) : (-1) * x8 + ((-1) * gy + 0) ≤ (-2000) := by
  first
    | omega
    | (have q1 := (hE_0_2_1 (r_0 + 2) (by omega)).2 (by omega)
       have q2 := (hE_0_2_2 (r_0 + 2) (by omega)).2 (by omega)
       omega)
    | (have q1 := (hE_0_2_1 (r_0 + 1) (by omega)).2 (by omega)
       have q2 := (hE_0_2_2 (r_0 + 1) (by omega)).2 (by omega)
       omega)
    | (have q1 := (hE_0_2_1 (r_0 + 2) (by omega)).2 (by omega)
       omega)
    | (have q1 := (hE_0_2_1 (r_0 + 1) (by omega)).2 (by omega)
       omega)
    | (have q1 := (hE_0_2_1 (r_0 + 2) (by omega)).2 (by omega)
       have q2 := (hE_0_2_2 (r_0 + 2) (by omega)).2 (by omega)
       have q3 := (hE_0_2_3 (r_0 + 2) (by omega)).1 (by omega)
       omega)
    | (have q1 := (hE_0_2_1 (r_0 + 2) (by omega)).2 (by omega)
       have q2 := (hE_0_2_2 (r_0 + 2) (by omega)).2 (by omega)
       have q3 := (hE_0_2_3 (r_0 + 2) (by omega)).2 (by omega)
       omega)
set_option maxHeartbeats 4000000 in
theorem vc_Mo_edgeItem_18_18 (x2 : Int) (x16 : Int) (r_0 : Int) (from_0 : Int) (gx : Int) (gy : Int) (k2 : 0 ≤ x2 ∧ x2 ≤ 2000) (k16 : 0 ≤ x16 ∧ x16 ≤ 2000) (f0 : 1 * x2 + ((-1) * x16 + 0) ≤ (-1)) (f14 : 1 * x16 + ((-1) * from_0 + 0) ≤ 0) (kz_0_15 : 0 ≤ from_0 ∧ from_0 ≤ 2000) (ex2 : gx = x2) (ey2 : gy = from_0) : 1 * x2 + ((-1) * gy + 0) ≤ (-1) := by
  first
    | omega
    | (have q1 := (hE_0_2_1 (r_0 + 2) (by omega)).2 (by omega)
       have q2 := (hE_0_2_2 (r_0 + 2) (by omega)).2 (by omega)
       omega)
    | (have q1 := (hE_0_2_1 (r_0 + 1) (by omega)).2 (by omega)
       have q2 := (hE_0_2_2 (r_0 + 1) (by omega)).2 (by omega)
       omega)
    | (have q1 := (hE_0_2_1 (r_0 + 2) (by omega)).2 (by omega)
       omega)
    | (have q1 := (hE_0_2_1 (r_0 + 1) (by omega)).2 (by omega)
       omega)
    | (have q1 := (hE_0_2_1 (r_0 + 2) (by omega)).2 (by omega)
       have q2 := (hE_0_2_2 (r_0 + 2) (by omega)).2 (by omega)
       have q3 := (hE_0_2_3 (r_0 + 2) (by omega)).1 (by omega)
       omega)
    | (have q1 := (hE_0_2_1 (r_0 + 2) (by omega)).2 (by omega)
       have q2 := (hE_0_2_2 (r_0 + 2) (by omega)).2 (by omega)
       have q3 := (hE_0_2_3 (r_0 + 2) (by omega)).2 (by omega)
       omega)
def o_Mo_edgeItem_18 : or_T := (87, 17, [(0, (2, 0, 0, [165])), (1, (0, 0, 7, [])), (2, (0, 0, 2000, [])), (3, (0, 0, 4, [])), (4, (2, 0, 0, [165])), (5, (0, 0, 7, [])), (6, (0, -1, 23, [])), (7, (0, 0, 48, [])), (8, (0, 0, 2000, [])), (15, (0, 1, 1, [])), (16, (0, 0, 2000, []))], [(23, [2, 16], [-1, 1, -1]), (23, [8, 16], [-2000, -1, -1]), (20, [4, 6, 7, 15, 5, 3, 16], [60, 3, 2, 973, 10, 8, 5, 1, 2]), (20, [2, 16], [30, 0, 1, 0, 0, -1, 0, 0]), (23, [6], [0, -1]), (20, [4], [50, 1, 0, 8, 1, 3, 2, 0, 8, 0, 0]), (20, [5, 4], [50, 1, 1, 1005, 1002, 0, 6, 4, 2, 1, 0, 0, 1, 3, 1, 2, 4, 3, 2, 1, 5, 0, 2]), (20, [4, 6], [31, 1, -1, -1, 1, 8, 0, -1, 0, 0]), (20, [4], [60, 1, 3, 199, 5, 2, 3, 4]), (20, [4, 6], [60, 2, 1, 242, 5, 8, 2]), (24, [0, 4], []), (24, [1, 5], []), (20, [4, 4], [30, 0, 1, 1, 15, -1, 1, 11]), (20, [4], [50, 3, 0, 12, 11, 15, 2, 21, 4, 7, 1, 3, 2, 0, 12, 0, 1, 0, 3, 2, 0, 11, 4, 3, 2, 0, 15, 0, 8, 3, 7, 1, 3, 2, 0, 12, 0, 0, 0, 7, 4, 3, 2, 0, 15, 0, 1, 2, 0, 11]), (20, [16, 4], [30, 0, 1, 0, 0, -1, 1, 15]), (20, [4, 16], [60, 6, 1, 948, 10, 11, 12, 13, 14, 15, 1]), (102, [16], [0, 165011, 165012, 165013, 165014, 165015]), (23, [2, 16], [-1, 1, -1]), (23, [8, 16], [-2000, -1, -1]), (23, [6], [0, -1])], [], [(0, 0, 2000, []), (0, 0, 2000, []), (0, 0, 4, []), (0, 0, 48, []), (0, 0, 1, [])], [(23, [17, 2], [0, 1, -1]), (23, [17, 2], [0, -1, 1]), (23, [19, 3], [0, 1, -1]), (23, [19, 3], [0, -1, 1]), (23, [20, 7], [0, 1, -1]), (23, [20, 7], [0, -1, 1]), (23, [21, 15], [0, 1, -1]), (23, [21, 15], [0, -1, 1]), (20, [4, 4], [30, 0, 1, 1, 15, -1, 1, 11]), (20, [4], [50, 3, 0, 12, 11, 15, 2, 21, 4, 7, 1, 3, 2, 0, 12, 0, 1, 0, 3, 2, 0, 11, 4, 3, 2, 0, 15, 0, 8, 3, 7, 1, 3, 2, 0, 12, 0, 0, 0, 7, 4, 3, 2, 0, 15, 0, 1, 2, 0, 11]), (20, [17, 4], [30, 0, 1, 0, 0, -1, 1, 11]), (20, [4, 18], [50, 2, 0, 12, 11, 3, 7, 1, 3, 2, 0, 12, 0, 0, 0, 6, 4, 2, 1, 1, 0, 1, 2, 0, 11]), (20, [5, 4], [50, 1, 1, 1005, 1002, 0, 6, 4, 2, 1, 0, 0, 1, 3, 1, 2, 4, 3, 2, 1, 5, 0, 2]), (20, [4], [60, 1, 3, 199, 5, 2, 3, 4]), (20, [4, 6], [60, 1, 1, 241, 5, 2]), (20, [4, 6, 20, 21, 5, 19], [60, 8, 2, 993, 10, 11, 12, 13, 14, 15, 8, 5, 1, 2]), (20, [6], [50, 0, 0, 0, 2, 0, 0, 1, 0]), (23, [8, 18], [-2000, -1, -1]), (23, [2, 18], [-1, 1, -1])], [], [(1, 5, -4294967296, 0), (5, 1, -4294967296, 0)])
theorem oo_Mo_edgeItem_18 {kA : Nat → ClassId} : or_ok PRD kA GG o_Mo_edgeItem_18 := by
  refine or_mk fun A ta ws vs hD hth hl => ?_
  intro t0 r0 t1 k1 t2 k2 t3 k3 t4 r4 t5 k5 t6 k6 t7 k7 t8 k8 t15 k15 t16 k16 d0 d1 f0 f1 f2 f3 f4 f5 f6 f7 f8 f9 f10 f11 f12 f13 f14 f15 ta1 w1 le1 s1 f17 f18 f19
  replace f0 := shm_193 f0
  replace f1 := shm_2009 f1
  replace f2 := shm_2157 f2
  replace f4 := shm_1043 f4
  replace f5 := shm_2156 f5
  replace f6 := shm_1009 f6
  replace f8 := shm_980 f8
  replace f9 := shm_2152 f9
  replace f10 := shm_5 f10
  replace f11 := shm_5 f11
  replace f12 := shm_1437 f12
  replace f13 := shm_1438 f13
  replace f14 := shm_1436 f14
  replace f15 := shm_1439 f15
  have q4 : n_v vs 4 = n_v vs 0 := f10.symm
  have q5 : n_v vs 5 = n_v vs 1 := f11.symm
  simp only [q4, q5] at f2 f5 f6 f8 f9 f12 f13 f14 f15
  have kz_0_8 := fdq_34 hD hth r0
  have kz_0_10 := fdq_43 hD hth r0
  have kz_0_11 := fdq_237 hD hth r0
  have kz_0_12 := fdq_187 hD hth r0
  have kz_0_13 := fdq_238 hD hth r0
  have kz_0_14 := fdq_188 hD hth r0
  have kz_0_15 := fdq_239 hD hth r0
  obtain ⟨x, ex, hx⟩ := iv_ex (ta := ta) (lo := 0) (hi := 2000) (z := v_iv (n_v vs 2)) (by omega) (by omega) (by omega) (by omega)
  have ex2 : v_iv (Value.int x) = v_iv (n_v vs 2) := ex
  have ex3 : 0 ≤ v_iv (Value.int x) ∧ v_iv (Value.int x) ≤ 2000 := tv_rng hx
  obtain ⟨y, ey, hy⟩ := iv_ex (ta := ta) (lo := 0) (hi := 2000) (z := w_fi ws (n_v vs 0) 15) (by omega) (by omega) (by omega) (by omega)
  have ey2 : v_iv (Value.int y) = w_fi ws (n_v vs 0) 15 := ey
  have ey3 : 0 ≤ v_iv (Value.int y) ∧ v_iv (Value.int y) ≤ 2000 := tv_rng hy
  obtain ⟨u, eu, hu⟩ := iv_ex (ta := ta) (lo := 0) (hi := 4) (z := v_iv (n_v vs 3)) (by omega) (by omega) (by omega) (by omega)
  have eu2 : v_iv (Value.int u) = v_iv (n_v vs 3) := eu
  have eu3 : 0 ≤ v_iv (Value.int u) ∧ v_iv (Value.int u) ≤ 4 := tv_rng hu
  obtain ⟨w, ew, hw⟩ := iv_ex (ta := ta) (lo := 0) (hi := 48) (z := v_iv (n_v vs 7)) (by omega) (by omega) (by omega) (by omega)
  have ew2 : v_iv (Value.int w) = v_iv (n_v vs 7) := ew
  have ew3 : 0 ≤ v_iv (Value.int w) ∧ v_iv (Value.int w) ≤ 48 := tv_rng hw
  obtain ⟨c, ec, hc⟩ := iv_ex (ta := ta) (lo := 0) (hi := 1) (z := v_iv (n_v vs 15)) (by omega) (by omega) (by omega) (by omega)
  have ec2 : v_iv (Value.int c) = v_iv (n_v vs 15) := ec
  have ec3 : 0 ≤ v_iv (Value.int c) ∧ v_iv (Value.int c) ≤ 1 := tv_rng hc
  have e_2 : n_v (vs ++ [Value.int x, Value.int y, Value.int u, Value.int w, Value.int c]) 2 = n_v vs 2 := n_v_old (by rw [hl]; decide)
  have e_3 : n_v (vs ++ [Value.int x, Value.int y, Value.int u, Value.int w, Value.int c]) 3 = n_v vs 3 := n_v_old (by rw [hl]; decide)
  have e_4 : n_v (vs ++ [Value.int x, Value.int y, Value.int u, Value.int w, Value.int c]) 4 = n_v vs 4 := n_v_old (by rw [hl]; decide)
  have e_5 : n_v (vs ++ [Value.int x, Value.int y, Value.int u, Value.int w, Value.int c]) 5 = n_v vs 5 := n_v_old (by rw [hl]; decide)
  have e_6 : n_v (vs ++ [Value.int x, Value.int y, Value.int u, Value.int w, Value.int c]) 6 = n_v vs 6 := n_v_old (by rw [hl]; decide)
  have e_7 : n_v (vs ++ [Value.int x, Value.int y, Value.int u, Value.int w, Value.int c]) 7 = n_v vs 7 := n_v_old (by rw [hl]; decide)
  have e_8 : n_v (vs ++ [Value.int x, Value.int y, Value.int u, Value.int w, Value.int c]) 8 = n_v vs 8 := n_v_old (by rw [hl]; decide)
  have e_15 : n_v (vs ++ [Value.int x, Value.int y, Value.int u, Value.int w, Value.int c]) 15 = n_v vs 15 := n_v_old (by rw [hl]; decide)
  have e_17 : n_v (vs ++ [Value.int x, Value.int y, Value.int u, Value.int w, Value.int c]) 17 = Value.int x := n_v_newk (k := 0) hl rfl
  have e_18 : n_v (vs ++ [Value.int x, Value.int y, Value.int u, Value.int w, Value.int c]) 18 = Value.int y := n_v_newk (k := 1) hl rfl
  have e_19 : n_v (vs ++ [Value.int x, Value.int y, Value.int u, Value.int w, Value.int c]) 19 = Value.int u := n_v_newk (k := 2) hl rfl
  have e_20 : n_v (vs ++ [Value.int x, Value.int y, Value.int u, Value.int w, Value.int c]) 20 = Value.int w := n_v_newk (k := 3) hl rfl
  have e_21 : n_v (vs ++ [Value.int x, Value.int y, Value.int u, Value.int w, Value.int c]) 21 = Value.int c := n_v_newk (k := 4) hl rfl
  have nf0 : fc_1 PRD (23, [17, 2], [0, 1, -1]) ws (vs ++ [Value.int x, Value.int y, Value.int u, Value.int w, Value.int c]) := by
    refine ⟨nf_inA hl rfl, sgq_7 ?_⟩
    · show 1 * v_iv (n_v (vs ++ [Value.int x, Value.int y, Value.int u, Value.int w, Value.int c]) 17) + ((-1) * v_iv (n_v (vs ++ [Value.int x, Value.int y, Value.int u, Value.int w, Value.int c]) 2) + 0) ≤ 0
      simp only [e_2, e_17]
      exact vc_Mo_edgeItem_18_0 (v_iv (n_v vs 2)) (w_fi ws (n_v vs 0) 5) (v_iv (Value.int x)) k2 ex2
  have nf1 : fc_1 PRD (23, [17, 2], [0, -1, 1]) ws (vs ++ [Value.int x, Value.int y, Value.int u, Value.int w, Value.int c]) := by
    refine ⟨nf_inA hl rfl, sgq_22 ?_⟩
    · show (-1) * v_iv (n_v (vs ++ [Value.int x, Value.int y, Value.int u, Value.int w, Value.int c]) 17) + (1 * v_iv (n_v (vs ++ [Value.int x, Value.int y, Value.int u, Value.int w, Value.int c]) 2) + 0) ≤ 0
      simp only [e_2, e_17]
      exact vc_Mo_edgeItem_18_1 (v_iv (n_v vs 2)) (w_fi ws (n_v vs 0) 5) (v_iv (Value.int x)) k2 ex2
  have nf2 : fc_1 PRD (23, [19, 3], [0, 1, -1]) ws (vs ++ [Value.int x, Value.int y, Value.int u, Value.int w, Value.int c]) := by
    refine ⟨nf_inA hl rfl, sgq_7 ?_⟩
    · show 1 * v_iv (n_v (vs ++ [Value.int x, Value.int y, Value.int u, Value.int w, Value.int c]) 19) + ((-1) * v_iv (n_v (vs ++ [Value.int x, Value.int y, Value.int u, Value.int w, Value.int c]) 3) + 0) ≤ 0
      simp only [e_3, e_19]
      exact vc_Mo_edgeItem_18_2 (v_iv (n_v vs 3)) (w_fi ws (n_v vs 0) 5) (v_iv (Value.int u)) k3 eu2
  have nf3 : fc_1 PRD (23, [19, 3], [0, -1, 1]) ws (vs ++ [Value.int x, Value.int y, Value.int u, Value.int w, Value.int c]) := by
    refine ⟨nf_inA hl rfl, sgq_22 ?_⟩
    · show (-1) * v_iv (n_v (vs ++ [Value.int x, Value.int y, Value.int u, Value.int w, Value.int c]) 19) + (1 * v_iv (n_v (vs ++ [Value.int x, Value.int y, Value.int u, Value.int w, Value.int c]) 3) + 0) ≤ 0
      simp only [e_3, e_19]
      exact vc_Mo_edgeItem_18_3 (v_iv (n_v vs 3)) (w_fi ws (n_v vs 0) 5) (v_iv (Value.int u)) k3 eu2
  have nf4 : fc_1 PRD (23, [20, 7], [0, 1, -1]) ws (vs ++ [Value.int x, Value.int y, Value.int u, Value.int w, Value.int c]) := by
    refine ⟨nf_inA hl rfl, sgq_7 ?_⟩
    · show 1 * v_iv (n_v (vs ++ [Value.int x, Value.int y, Value.int u, Value.int w, Value.int c]) 20) + ((-1) * v_iv (n_v (vs ++ [Value.int x, Value.int y, Value.int u, Value.int w, Value.int c]) 7) + 0) ≤ 0
      simp only [e_7, e_20]
      exact vc_Mo_edgeItem_18_4 (v_iv (n_v vs 7)) (w_fi ws (n_v vs 0) 5) (v_iv (Value.int w)) k7 ew2
  have nf5 : fc_1 PRD (23, [20, 7], [0, -1, 1]) ws (vs ++ [Value.int x, Value.int y, Value.int u, Value.int w, Value.int c]) := by
    refine ⟨nf_inA hl rfl, sgq_22 ?_⟩
    · show (-1) * v_iv (n_v (vs ++ [Value.int x, Value.int y, Value.int u, Value.int w, Value.int c]) 20) + (1 * v_iv (n_v (vs ++ [Value.int x, Value.int y, Value.int u, Value.int w, Value.int c]) 7) + 0) ≤ 0
      simp only [e_7, e_20]
      exact vc_Mo_edgeItem_18_5 (v_iv (n_v vs 7)) (w_fi ws (n_v vs 0) 5) (v_iv (Value.int w)) k7 ew2
  have nf6 : fc_1 PRD (23, [21, 15], [0, 1, -1]) ws (vs ++ [Value.int x, Value.int y, Value.int u, Value.int w, Value.int c]) := by
    refine ⟨nf_inA hl rfl, sgq_7 ?_⟩
    · show 1 * v_iv (n_v (vs ++ [Value.int x, Value.int y, Value.int u, Value.int w, Value.int c]) 21) + ((-1) * v_iv (n_v (vs ++ [Value.int x, Value.int y, Value.int u, Value.int w, Value.int c]) 15) + 0) ≤ 0
      simp only [e_15, e_21]
      exact vc_Mo_edgeItem_18_6 (v_iv (n_v vs 15)) (w_fi ws (n_v vs 0) 5) (v_iv (Value.int c)) k15 ec2
  have nf7 : fc_1 PRD (23, [21, 15], [0, -1, 1]) ws (vs ++ [Value.int x, Value.int y, Value.int u, Value.int w, Value.int c]) := by
    refine ⟨nf_inA hl rfl, sgq_22 ?_⟩
    · show (-1) * v_iv (n_v (vs ++ [Value.int x, Value.int y, Value.int u, Value.int w, Value.int c]) 21) + (1 * v_iv (n_v (vs ++ [Value.int x, Value.int y, Value.int u, Value.int w, Value.int c]) 15) + 0) ≤ 0
      simp only [e_15, e_21]
      exact vc_Mo_edgeItem_18_7 (v_iv (n_v vs 15)) (w_fi ws (n_v vs 0) 5) (v_iv (Value.int c)) k15 ec2
  have nf8 : fc_1 PRD (20, [4, 4], [30, 0, 1, 1, 15, -1, 1, 11]) ws (vs ++ [Value.int x, Value.int y, Value.int u, Value.int w, Value.int c]) := by
    refine ⟨nf_inA hl rfl, sgq_1437 ?_⟩
    · show 1 * w_fi ws (n_v (vs ++ [Value.int x, Value.int y, Value.int u, Value.int w, Value.int c]) 4) 15 + ((-1) * w_fi ws (n_v (vs ++ [Value.int x, Value.int y, Value.int u, Value.int w, Value.int c]) 4) 11 + 0) ≤ 0
      simp only [e_4, q4]
      exact vc_Mo_edgeItem_18_8 (w_fi ws (n_v vs 0) 5) (w_fi ws (n_v vs 0) 15) (w_fi ws (n_v vs 0) 11) f12 kz_0_11 kz_0_15
  have nf9 : fc_1 PRD (20, [4], [50, 3, 0, 12, 11, 15, 2, 21, 4, 7, 1, 3, 2, 0, 12, 0, 1, 0, 3, 2, 0, 11, 4, 3, 2, 0, 15, 0, 8, 3, 7, 1, 3, 2, 0, 12, 0, 0, 0, 7, 4, 3, 2, 0, 15, 0, 1, 2, 0, 11]) ws (vs ++ [Value.int x, Value.int y, Value.int u, Value.int w, Value.int c]) := by
    refine ⟨nf_inA hl rfl, sgq_1438 ?_⟩
    · show ((w_fi ws (n_v (vs ++ [Value.int x, Value.int y, Value.int u, Value.int w, Value.int c]) 4) 12 = 1) → (w_fi ws (n_v (vs ++ [Value.int x, Value.int y, Value.int u, Value.int w, Value.int c]) 4) 11 ≤ (w_fi ws (n_v (vs ++ [Value.int x, Value.int y, Value.int u, Value.int w, Value.int c]) 4) 15 + 8))) ∧ ((w_fi ws (n_v (vs ++ [Value.int x, Value.int y, Value.int u, Value.int w, Value.int c]) 4) 12 = 0) ∨ ((w_fi ws (n_v (vs ++ [Value.int x, Value.int y, Value.int u, Value.int w, Value.int c]) 4) 15 + 1) ≤ w_fi ws (n_v (vs ++ [Value.int x, Value.int y, Value.int u, Value.int w, Value.int c]) 4) 11))
      simp only [e_4, q4]
      exact vc_Mo_edgeItem_18_9 (w_fi ws (n_v vs 0) 5) (w_fi ws (n_v vs 0) 15) (w_fi ws (n_v vs 0) 11) (w_fi ws (n_v vs 0) 12) f13 kz_0_11 kz_0_12 kz_0_15
  have nf10 : fc_1 PRD (20, [17, 4], [30, 0, 1, 0, 0, -1, 1, 11]) ws (vs ++ [Value.int x, Value.int y, Value.int u, Value.int w, Value.int c]) := by
    refine ⟨nf_inA hl rfl, sgq_1431 ?_⟩
    · show 1 * v_iv (n_v (vs ++ [Value.int x, Value.int y, Value.int u, Value.int w, Value.int c]) 17) + ((-1) * w_fi ws (n_v (vs ++ [Value.int x, Value.int y, Value.int u, Value.int w, Value.int c]) 4) 11 + 0) ≤ 0
      simp only [e_4, e_17, q4]
      exact vc_Mo_edgeItem_18_10 (v_iv (n_v vs 2)) (v_iv (n_v vs 16)) (w_fi ws (n_v vs 0) 5) (w_fi ws (n_v vs 0) 15) (w_fi ws (n_v vs 0) 11) (v_iv (Value.int x)) (v_iv (Value.int y)) k2 k16 f0 f12 f14 kz_0_11 kz_0_15 ex2 ey2
  have nf11 : fc_1 PRD (20, [4, 18], [50, 2, 0, 12, 11, 3, 7, 1, 3, 2, 0, 12, 0, 0, 0, 6, 4, 2, 1, 1, 0, 1, 2, 0, 11]) ws (vs ++ [Value.int x, Value.int y, Value.int u, Value.int w, Value.int c]) := by
    refine ⟨nf_inA hl rfl, sgq_2111 ?_⟩
    · show (w_fi ws (n_v (vs ++ [Value.int x, Value.int y, Value.int u, Value.int w, Value.int c]) 4) 12 = 0) ∨ ((v_iv (n_v (vs ++ [Value.int x, Value.int y, Value.int u, Value.int w, Value.int c]) 18) + 1) ≤ w_fi ws (n_v (vs ++ [Value.int x, Value.int y, Value.int u, Value.int w, Value.int c]) 4) 11)
      simp only [e_4, e_18, q4]
      exact vc_Mo_edgeItem_18_11 (w_fi ws (n_v vs 0) 5) (w_fi ws (n_v vs 0) 15) (w_fi ws (n_v vs 0) 11) (w_fi ws (n_v vs 0) 12) (v_iv (Value.int y)) f12 f13 kz_0_11 kz_0_12 kz_0_15 ey2
  have nf12 : fc_1 PRD (20, [5, 4], [50, 1, 1, 1005, 1002, 0, 6, 4, 2, 1, 0, 0, 1, 3, 1, 2, 4, 3, 2, 1, 5, 0, 2]) ws (vs ++ [Value.int x, Value.int y, Value.int u, Value.int w, Value.int c]) := by
    refine ⟨nf_inA hl rfl, sgq_1009 ?_⟩
    · show (v_iv (n_v (vs ++ [Value.int x, Value.int y, Value.int u, Value.int w, Value.int c]) 5) + 1) ≤ w_ei ws (w_ar ws (n_v (vs ++ [Value.int x, Value.int y, Value.int u, Value.int w, Value.int c]) 4) 2) ((w_fi ws (n_v (vs ++ [Value.int x, Value.int y, Value.int u, Value.int w, Value.int c]) 4) 5 + 2))
      simp only [e_4, e_5, q4, q5]
      exact vc_Mo_edgeItem_18_12 (v_iv (n_v vs 1)) (w_ei ws (w_ar ws (n_v vs 0) 2)) (w_fi ws (n_v vs 0) 5) k1 f6
  have nf13 : fc_1 PRD (20, [4], [60, 1, 3, 199, 5, 2, 3, 4]) ws (vs ++ [Value.int x, Value.int y, Value.int u, Value.int w, Value.int c]) := by
    refine ⟨nf_inA hl rfl, sgq_980 ?_⟩
    · show RWS (w_fi ws (n_v (vs ++ [Value.int x, Value.int y, Value.int u, Value.int w, Value.int c]) 4) 5) (w_ei ws (w_ar ws (n_v (vs ++ [Value.int x, Value.int y, Value.int u, Value.int w, Value.int c]) 4) 2)) (w_ei ws (w_ar ws (n_v (vs ++ [Value.int x, Value.int y, Value.int u, Value.int w, Value.int c]) 4) 3)) (w_ei ws (w_ar ws (n_v (vs ++ [Value.int x, Value.int y, Value.int u, Value.int w, Value.int c]) 4) 4))
      simp only [e_4, q4]
      exact vc_Mo_edgeItem_18_13 (w_ei ws (w_ar ws (n_v vs 0) 2)) (w_fi ws (n_v vs 0) 5) (w_ei ws (w_ar ws (n_v vs 0) 3)) (w_ei ws (w_ar ws (n_v vs 0) 4)) f8
  have nf14 : fc_1 PRD (20, [4, 6], [60, 1, 1, 241, 5, 2]) ws (vs ++ [Value.int x, Value.int y, Value.int u, Value.int w, Value.int c]) := by
    refine ⟨nf_inA hl rfl, sgq_2112 ?_⟩
    · show MEB (w_fi ws (n_v (vs ++ [Value.int x, Value.int y, Value.int u, Value.int w, Value.int c]) 4) 5) (w_ei ws (w_ar ws (n_v (vs ++ [Value.int x, Value.int y, Value.int u, Value.int w, Value.int c]) 4) 2)) (v_iv (n_v (vs ++ [Value.int x, Value.int y, Value.int u, Value.int w, Value.int c]) 6))
      simp only [e_4, e_6, q4]
      exact vc_Mo_edgeItem_18_14 (v_iv (n_v vs 6)) (w_ei ws (w_ar ws (n_v vs 0) 2)) (w_fi ws (n_v vs 0) 8) (w_fi ws (n_v vs 0) 5) k6 f5 f9 kz_0_8
  have nf15 : fc_1 PRD (20, [4, 6, 20, 21, 5, 19], [60, 8, 2, 993, 10, 11, 12, 13, 14, 15, 8, 5, 1, 2]) ws (vs ++ [Value.int x, Value.int y, Value.int u, Value.int w, Value.int c]) := by
    refine ⟨nf_inA hl rfl, sgq_2126 ?_⟩
    · show zRS4 (w_fi ws (n_v (vs ++ [Value.int x, Value.int y, Value.int u, Value.int w, Value.int c]) 4) 10) (w_fi ws (n_v (vs ++ [Value.int x, Value.int y, Value.int u, Value.int w, Value.int c]) 4) 11) (w_fi ws (n_v (vs ++ [Value.int x, Value.int y, Value.int u, Value.int w, Value.int c]) 4) 12) (w_fi ws (n_v (vs ++ [Value.int x, Value.int y, Value.int u, Value.int w, Value.int c]) 4) 13) (w_fi ws (n_v (vs ++ [Value.int x, Value.int y, Value.int u, Value.int w, Value.int c]) 4) 14) (w_fi ws (n_v (vs ++ [Value.int x, Value.int y, Value.int u, Value.int w, Value.int c]) 4) 15) (w_fi ws (n_v (vs ++ [Value.int x, Value.int y, Value.int u, Value.int w, Value.int c]) 4) 8) (w_fi ws (n_v (vs ++ [Value.int x, Value.int y, Value.int u, Value.int w, Value.int c]) 4) 5) (w_ei ws (w_ar ws (n_v (vs ++ [Value.int x, Value.int y, Value.int u, Value.int w, Value.int c]) 4) 1)) (w_ei ws (w_ar ws (n_v (vs ++ [Value.int x, Value.int y, Value.int u, Value.int w, Value.int c]) 4) 2)) (v_iv (n_v (vs ++ [Value.int x, Value.int y, Value.int u, Value.int w, Value.int c]) 6)) (v_iv (n_v (vs ++ [Value.int x, Value.int y, Value.int u, Value.int w, Value.int c]) 20)) (v_iv (n_v (vs ++ [Value.int x, Value.int y, Value.int u, Value.int w, Value.int c]) 21)) (v_iv (n_v (vs ++ [Value.int x, Value.int y, Value.int u, Value.int w, Value.int c]) 5)) (v_iv (n_v (vs ++ [Value.int x, Value.int y, Value.int u, Value.int w, Value.int c]) 19))
      simp only [e_4, e_5, e_6, e_19, e_20, e_21, q4, q5]
      exact vc_Mo_edgeItem_18_15 (v_iv (n_v vs 1)) (v_iv (n_v vs 2)) (v_iv (n_v vs 3)) (v_iv (n_v vs 6)) (v_iv (n_v vs 7)) (v_iv (n_v vs 15)) (v_iv (n_v vs 16)) (w_ei ws (w_ar ws (n_v vs 0) 1)) (w_ei ws (w_ar ws (n_v vs 0) 2)) (w_fi ws (n_v vs 0) 10) (w_fi ws (n_v vs 0) 8) (w_fi ws (n_v vs 0) 5) (w_fi ws (n_v vs 0) 15) (w_fi ws (n_v vs 0) 11) (w_fi ws (n_v vs 0) 12) (w_fi ws (n_v vs 0) 13) (w_fi ws (n_v vs 0) 14) (v_iv (Value.int x)) (v_iv (Value.int y)) (v_iv (Value.int u)) (v_iv (Value.int w)) (v_iv (Value.int c)) k1 k2 k3 k6 k7 k15 k16 f2 f15 kz_0_8 kz_0_10 kz_0_11 kz_0_12 kz_0_13 kz_0_14 kz_0_15 ex2 ey2 eu2 ew2 ec2
  have nf16 : fc_1 PRD (20, [6], [50, 0, 0, 0, 2, 0, 0, 1, 0]) ws (vs ++ [Value.int x, Value.int y, Value.int u, Value.int w, Value.int c]) := by
    refine ⟨nf_inA hl rfl, sgq_722 ?_⟩
    · show 0 ≤ v_iv (n_v (vs ++ [Value.int x, Value.int y, Value.int u, Value.int w, Value.int c]) 6)
      rw [e_6]
      exact vc_Mo_edgeItem_18_16 (v_iv (n_v vs 6)) (w_fi ws (n_v vs 0) 5) k6 f4
  have nf17 : fc_1 PRD (23, [8, 18], [-2000, -1, -1]) ws (vs ++ [Value.int x, Value.int y, Value.int u, Value.int w, Value.int c]) := by
    refine ⟨nf_inA hl rfl, sgq_2009 ?_⟩
    · show (-1) * v_iv (n_v (vs ++ [Value.int x, Value.int y, Value.int u, Value.int w, Value.int c]) 8) + ((-1) * v_iv (n_v (vs ++ [Value.int x, Value.int y, Value.int u, Value.int w, Value.int c]) 18) + 0) ≤ (-2000)
      simp only [e_8, e_18]
      exact vc_Mo_edgeItem_18_17 (v_iv (n_v vs 8)) (v_iv (n_v vs 16)) (w_fi ws (n_v vs 0) 5) (w_fi ws (n_v vs 0) 15) (v_iv (Value.int y)) k8 k16 f1 f14 kz_0_15 ey2
  have nf18 : fc_1 PRD (23, [2, 18], [-1, 1, -1]) ws (vs ++ [Value.int x, Value.int y, Value.int u, Value.int w, Value.int c]) := by
    refine ⟨nf_inA hl rfl, sgq_193 ?_⟩
    · show 1 * v_iv (n_v (vs ++ [Value.int x, Value.int y, Value.int u, Value.int w, Value.int c]) 2) + ((-1) * v_iv (n_v (vs ++ [Value.int x, Value.int y, Value.int u, Value.int w, Value.int c]) 18) + 0) ≤ (-1)
      simp only [e_2, e_18]
      exact vc_Mo_edgeItem_18_18 (v_iv (n_v vs 2)) (v_iv (n_v vs 16)) (w_fi ws (n_v vs 0) 5) (w_fi ws (n_v vs 0) 15) (v_iv (Value.int x)) (v_iv (Value.int y)) k2 k16 f0 f14 kz_0_15 ex2 ey2
  exact ⟨(fun _ h => (by cases h)), [Value.int x, Value.int y, Value.int u, Value.int w, Value.int c], ag_five hx hy hu hw hc, List.forall_mem_cons.mpr ⟨⟨show (23 : Nat) < 100 from by decide, nf0⟩, List.forall_mem_cons.mpr ⟨⟨show (23 : Nat) < 100 from by decide, nf1⟩, List.forall_mem_cons.mpr ⟨⟨show (23 : Nat) < 100 from by decide, nf2⟩, List.forall_mem_cons.mpr ⟨⟨show (23 : Nat) < 100 from by decide, nf3⟩, List.forall_mem_cons.mpr ⟨⟨show (23 : Nat) < 100 from by decide, nf4⟩, List.forall_mem_cons.mpr ⟨⟨show (23 : Nat) < 100 from by decide, nf5⟩, List.forall_mem_cons.mpr ⟨⟨show (23 : Nat) < 100 from by decide, nf6⟩, List.forall_mem_cons.mpr ⟨⟨show (23 : Nat) < 100 from by decide, nf7⟩, List.forall_mem_cons.mpr ⟨⟨show (20 : Nat) < 100 from by decide, nf8⟩, List.forall_mem_cons.mpr ⟨⟨show (20 : Nat) < 100 from by decide, nf9⟩, List.forall_mem_cons.mpr ⟨⟨show (20 : Nat) < 100 from by decide, nf10⟩, List.forall_mem_cons.mpr ⟨⟨show (20 : Nat) < 100 from by decide, nf11⟩, List.forall_mem_cons.mpr ⟨⟨show (20 : Nat) < 100 from by decide, nf12⟩, List.forall_mem_cons.mpr ⟨⟨show (20 : Nat) < 100 from by decide, nf13⟩, List.forall_mem_cons.mpr ⟨⟨show (20 : Nat) < 100 from by decide, nf14⟩, List.forall_mem_cons.mpr ⟨⟨show (20 : Nat) < 100 from by decide, nf15⟩, List.forall_mem_cons.mpr ⟨⟨show (20 : Nat) < 100 from by decide, nf16⟩, List.forall_mem_cons.mpr ⟨⟨show (23 : Nat) < 100 from by decide, nf17⟩, List.forall_mem_cons.mpr ⟨⟨show (23 : Nat) < 100 from by decide, nf18⟩, (fun _ h => (by cases h))⟩⟩⟩⟩⟩⟩⟩⟩⟩⟩⟩⟩⟩⟩⟩⟩⟩⟩⟩, (fun _ h => (by cases h))⟩
set_option maxHeartbeats 4000000 in
theorem vc_Mo_edgeItem_19_0 (x6 : Int) (x22 : Int) (x23 : Int) (fault_0 : Int) (all_0 : Int → Int) (r_0 : Int) (k6 : (-1) ≤ x6 ∧ x6 ≤ 23) (k22 : (-1) ≤ x22 ∧ x22 ≤ 23) (k23 : 0 ≤ x23 ∧ x23 ≤ 0) (g1 : x23 = fault_0) (f10 : 0 ≤ x6) (f24 : ((-1) * fault_0 + 0 ≤ (-1)) ∨ ((-1) * x22 + 0 ≤ 0)) (f25 : (1 ≤ fault_0) ∨ ((x6 ≤ (-1)) ∨ (all_0 ((r_0 + 1)) ≤ 47))) (kz_0_8 : 0 ≤ fault_0 ∧ fault_0 ≤ 5) : (-1) * x22 + 0 ≤ 0 := by
  first
    | omega
    | (have q1 := (hE_0_2_1 (r_0 + 2) (by omega)).2 (by omega)
       have q2 := (hE_0_2_2 (r_0 + 2) (by omega)).2 (by omega)
       omega)
    | (have q1 := (hE_0_2_1 (r_0 + 1) (by omega)).2 (by omega)
       have q2 := (hE_0_2_2 (r_0 + 1) (by omega)).2 (by omega)
       omega)
    | (have q1 := (hE_0_2_1 (r_0 + 2) (by omega)).2 (by omega)
       omega)
    | (have q1 := (hE_0_2_1 (r_0 + 1) (by omega)).2 (by omega)
       omega)
    | (have q1 := (hE_0_2_1 (r_0 + 2) (by omega)).2 (by omega)
       have q2 := (hE_0_2_2 (r_0 + 2) (by omega)).2 (by omega)
       have q3 := (hE_0_2_3 (r_0 + 2) (by omega)).1 (by omega)
       omega)
    | (have q1 := (hE_0_2_1 (r_0 + 2) (by omega)).2 (by omega)
       have q2 := (hE_0_2_2 (r_0 + 2) (by omega)).2 (by omega)
       have q3 := (hE_0_2_3 (r_0 + 2) (by omega)).2 (by omega)
       omega)
def o_Mo_edgeItem_19 : or_T := (100, 24, [(0, (2, 0, 0, [165])), (1, (0, 0, 7, [])), (2, (0, 0, 2000, [])), (3, (0, 0, 4, [])), (4, (2, 0, 0, [165])), (5, (0, 0, 7, [])), (6, (0, -1, 23, [])), (7, (0, 0, 48, [])), (8, (0, 0, 2000, [])), (15, (0, 1, 1, [])), (16, (0, 0, 2000, [])), (17, (0, 0, 2000, [])), (18, (0, 0, 2000, [])), (19, (0, 0, 4, [])), (20, (0, 0, 48, [])), (21, (0, 0, 1, [])), (22, (0, -1, 23, [])), (23, (0, 0, 0, []))], [(8, [23], [5]), (9, [23, 4], [8]), (23, [17, 2], [0, 1, -1]), (23, [17, 2], [0, -1, 1]), (23, [19, 3], [0, 1, -1]), (23, [19, 3], [0, -1, 1]), (23, [20, 7], [0, 1, -1]), (23, [20, 7], [0, -1, 1]), (23, [21, 15], [0, 1, -1]), (23, [21, 15], [0, -1, 1]), (20, [6], [50, 0, 0, 0, 2, 0, 0, 1, 0]), (23, [8, 18], [-2000, -1, -1]), (23, [2, 18], [-1, 1, -1]), (23, [2, 16], [-1, 1, -1]), (23, [8, 16], [-2000, -1, -1]), (20, [2, 16], [30, 0, 1, 0, 0, -1, 0, 0]), (23, [6], [0, -1]), (24, [0, 4], []), (24, [1, 5], []), (20, [4, 4], [30, 0, 1, 1, 15, -1, 1, 11]), (20, [4], [50, 3, 0, 12, 11, 15, 2, 21, 4, 7, 1, 3, 2, 0, 12, 0, 1, 0, 3, 2, 0, 11, 4, 3, 2, 0, 15, 0, 8, 3, 7, 1, 3, 2, 0, 12, 0, 0, 0, 7, 4, 3, 2, 0, 15, 0, 1, 2, 0, 11]), (20, [17, 4], [30, 0, 1, 0, 0, -1, 1, 11]), (20, [4, 17], [50, 3, 0, 8, 12, 11, 3, 7, 0, 2, 0, 1, 2, 0, 8, 3, 7, 1, 3, 2, 0, 12, 0, 0, 0, 6, 4, 2, 1, 1, 0, 1, 2, 0, 11]), (20, [4, 18], [50, 2, 0, 8, 11, 3, 7, 0, 2, 0, 1, 2, 0, 8, 0, 6, 4, 2, 1, 1, 0, 1, 2, 0, 11]), (20, [4, 22], [31, 1, -1, -1, 1, 8, 0, -1, 0, 0]), (20, [4, 6], [50, 2, 1, 8, 5, 2, 3, 7, 0, 2, 0, 1, 2, 0, 8, 3, 6, 0, 2, 1, 1, 0, -1, 0, 10, 3, 0, 2, 4, 3, 2, 0, 5, 0, 1, 0, 47]), (20, [5, 4], [50, 1, 1, 1005, 1002, 0, 6, 4, 2, 1, 0, 0, 1, 3, 1, 2, 4, 3, 2, 1, 5, 0, 2]), (20, [4], [60, 1, 3, 199, 5, 2, 3, 4]), (20, [4, 6, 22], [60, 2, 1, 240, 5, 8, 2]), (20, [4, 22, 20, 6, 21, 5, 19], [60, 9, 2, 1011, 10, 11, 12, 13, 14, 15, 8, 9, 5, 1, 2]), (102, [21], [187072209578355573530071658587684226515959365500928, 165008, 165009, 165011, 165012, 165013, 165014, 165015]), (23, [17, 2], [0, 1, -1]), (23, [17, 2], [0, -1, 1]), (23, [19, 3], [0, 1, -1]), (23, [19, 3], [0, -1, 1]), (23, [20, 7], [0, 1, -1]), (23, [20, 7], [0, -1, 1]), (23, [21, 15], [0, 1, -1]), (23, [21, 15], [0, -1, 1]), (23, [8, 18], [-2000, -1, -1]), (23, [2, 18], [-1, 1, -1]), (23, [2, 16], [-1, 1, -1]), (23, [8, 16], [-2000, -1, -1]), (23, [6], [0, -1]), (102, [16], [0, 165011, 165012, 165013, 165014, 165015]), (23, [2, 16], [-1, 1, -1]), (23, [8, 16], [-2000, -1, -1]), (23, [6], [0, -1])], [], [], [(23, [22], [0, -1])], [], [(1, 5, -4294967296, 0), (5, 1, -4294967296, 0)])
theorem oo_Mo_edgeItem_19 {kA : Nat → ClassId} : or_ok PRD kA GG o_Mo_edgeItem_19 := by
  refine or_mk fun A ta ws vs hD hth hl => ?_
  intro t0 r0 t1 k1 t2 k2 t3 k3 t4 r4 t5 k5 t6 k6 t7 k7 t8 k8 t15 k15 t16 k16 t17 k17 t18 k18 t19 k19 t20 k20 t21 k21 t22 k22 t23 k23 d0 d1 f0 f1 f2 f3 f4 f5 f6 f7 f8 f9 f10 f11 f12 f13 f14 f15 f16 f17 f18 f19 f20 f21 f22 f23 f24 f25 f26 f27 f28 f29 ta1 w1 le1 s1 f31 f32 f33 f34 f35 f36 f37 f38 f39 f40 f41 f42 f43 ta2 w2 le2 s2 f45 f46 f47
  replace f1 := shm_293 f1
  replace f17 := shm_5 f17
  replace f24 := shm_2117 f24
  replace f25 := shm_2118 f25
  have q4 : n_v vs 4 = n_v vs 0 := f17.symm
  simp only [q4] at f1 f24 f25
  have g1 : v_iv (n_v vs 23) = w_fi ws (n_v vs 0) 8 := congrArg v_iv f1
  have kz_0_8 := fdq_34 hD hth r0
  have nf0 : fc_1 PRD (23, [22], [0, -1]) ws (vs) := ⟨nf_in hl rfl, sgq_1043 (vc_Mo_edgeItem_19_0 (v_iv (n_v vs 6)) (v_iv (n_v vs 22)) (v_iv (n_v vs 23)) (w_fi ws (n_v vs 0) 8) (w_ei ws (w_ar ws (n_v vs 0) 2)) (w_fi ws (n_v vs 0) 5) k6 k22 k23 g1 (shm_722 f10) f24 f25 kz_0_8)⟩
  refine ⟨(fun _ h => (by cases h)), [], trivial, ?_, (fun _ h => (by cases h))⟩
  rw [List.append_nil]
  exact List.forall_mem_cons.mpr ⟨⟨show (23 : Nat) < 100 from by decide, nf0⟩, (fun _ h => (by cases h))⟩
set_option maxHeartbeats 4000000 in
theorem vc_Mo_edgeItem_20_r0 (x22 : Int) (r_0 : Int) (k22 : (-1) ≤ x22 ∧ x22 ≤ 23) (f0 : (-1) * x22 + 0 ≤ 0) : 0 ≤ x22 ∧ x22 ≤ 23 := by
  first
    | omega
    | (have q1 := (hE_0_2_1 (r_0 + 2) (by omega)).2 (by omega)
       have q2 := (hE_0_2_2 (r_0 + 2) (by omega)).2 (by omega)
       omega)
    | (have q1 := (hE_0_2_1 (r_0 + 1) (by omega)).2 (by omega)
       have q2 := (hE_0_2_2 (r_0 + 1) (by omega)).2 (by omega)
       omega)
    | (have q1 := (hE_0_2_1 (r_0 + 2) (by omega)).2 (by omega)
       omega)
    | (have q1 := (hE_0_2_1 (r_0 + 1) (by omega)).2 (by omega)
       omega)
    | (have q1 := (hE_0_2_1 (r_0 + 2) (by omega)).2 (by omega)
       have q2 := (hE_0_2_2 (r_0 + 2) (by omega)).2 (by omega)
       have q3 := (hE_0_2_3 (r_0 + 2) (by omega)).1 (by omega)
       omega)
    | (have q1 := (hE_0_2_1 (r_0 + 2) (by omega)).2 (by omega)
       have q2 := (hE_0_2_2 (r_0 + 2) (by omega)).2 (by omega)
       have q3 := (hE_0_2_3 (r_0 + 2) (by omega)).2 (by omega)
       omega)
set_option maxHeartbeats 4000000 in
theorem vc_Mo_edgeItem_20_r1 (x6 : Int) (r_0 : Int) (k6 : (-1) ≤ x6 ∧ x6 ≤ 23) (f11 : 0 ≤ x6) : 0 ≤ x6 ∧ x6 ≤ 23 := by
  first
    | omega
    | (have q1 := (hE_0_2_1 (r_0 + 2) (by omega)).2 (by omega)
       have q2 := (hE_0_2_2 (r_0 + 2) (by omega)).2 (by omega)
       omega)
    | (have q1 := (hE_0_2_1 (r_0 + 1) (by omega)).2 (by omega)
       have q2 := (hE_0_2_2 (r_0 + 1) (by omega)).2 (by omega)
       omega)
    | (have q1 := (hE_0_2_1 (r_0 + 2) (by omega)).2 (by omega)
       omega)
    | (have q1 := (hE_0_2_1 (r_0 + 1) (by omega)).2 (by omega)
       omega)
    | (have q1 := (hE_0_2_1 (r_0 + 2) (by omega)).2 (by omega)
       have q2 := (hE_0_2_2 (r_0 + 2) (by omega)).2 (by omega)
       have q3 := (hE_0_2_3 (r_0 + 2) (by omega)).1 (by omega)
       omega)
    | (have q1 := (hE_0_2_1 (r_0 + 2) (by omega)).2 (by omega)
       have q2 := (hE_0_2_2 (r_0 + 2) (by omega)).2 (by omega)
       have q3 := (hE_0_2_3 (r_0 + 2) (by omega)).2 (by omega)
       omega)
set_option maxHeartbeats 4000000 in
theorem vc_Mo_edgeItem_20_0 (x1 : Int) (x5 : Int) (r_0 : Int) (gx : Int) (k1 : 0 ≤ x1 ∧ x1 ≤ 7) (k5 : 0 ≤ x5 ∧ x5 ≤ 7) (d0 : x5 + (-4294967296) ≤ x1 ∧ x1 ≤ x5 + 0) (d1 : x1 + (-4294967296) ≤ x5 ∧ x5 ≤ x1 + 0) (ex2 : gx = x1) : 1 * gx + ((-1) * x1 + 0) ≤ 0 := by
  first
    | omega
    | (have q1 := (hE_0_2_1 (r_0 + 2) (by omega)).2 (by omega)
       have q2 := (hE_0_2_2 (r_0 + 2) (by omega)).2 (by omega)
       omega)
    | (have q1 := (hE_0_2_1 (r_0 + 1) (by omega)).2 (by omega)
       have q2 := (hE_0_2_2 (r_0 + 1) (by omega)).2 (by omega)
       omega)
    | (have q1 := (hE_0_2_1 (r_0 + 2) (by omega)).2 (by omega)
       omega)
    | (have q1 := (hE_0_2_1 (r_0 + 1) (by omega)).2 (by omega)
       omega)
    | (have q1 := (hE_0_2_1 (r_0 + 2) (by omega)).2 (by omega)
       have q2 := (hE_0_2_2 (r_0 + 2) (by omega)).2 (by omega)
       have q3 := (hE_0_2_3 (r_0 + 2) (by omega)).1 (by omega)
       omega)
    | (have q1 := (hE_0_2_1 (r_0 + 2) (by omega)).2 (by omega)
       have q2 := (hE_0_2_2 (r_0 + 2) (by omega)).2 (by omega)
       have q3 := (hE_0_2_3 (r_0 + 2) (by omega)).2 (by omega)
       omega)
set_option maxHeartbeats 4000000 in
theorem vc_Mo_edgeItem_20_1 (x1 : Int) (x5 : Int) (r_0 : Int) (gx : Int) (k1 : 0 ≤ x1 ∧ x1 ≤ 7) (k5 : 0 ≤ x5 ∧ x5 ≤ 7) (d0 : x5 + (-4294967296) ≤ x1 ∧ x1 ≤ x5 + 0) (d1 : x1 + (-4294967296) ≤ x5 ∧ x5 ≤ x1 + 0) (ex2 : gx = x1) : (-1) * gx + (1 * x1 + 0) ≤ 0 := by
  first
    | omega
    | (have q1 := (hE_0_2_1 (r_0 + 2) (by omega)).2 (by omega)
       have q2 := (hE_0_2_2 (r_0 + 2) (by omega)).2 (by omega)
       omega)
    | (have q1 := (hE_0_2_1 (r_0 + 1) (by omega)).2 (by omega)
       have q2 := (hE_0_2_2 (r_0 + 1) (by omega)).2 (by omega)
       omega)
    | (have q1 := (hE_0_2_1 (r_0 + 2) (by omega)).2 (by omega)
       omega)
    | (have q1 := (hE_0_2_1 (r_0 + 1) (by omega)).2 (by omega)
       omega)
    | (have q1 := (hE_0_2_1 (r_0 + 2) (by omega)).2 (by omega)
       have q2 := (hE_0_2_2 (r_0 + 2) (by omega)).2 (by omega)
       have q3 := (hE_0_2_3 (r_0 + 2) (by omega)).1 (by omega)
       omega)
    | (have q1 := (hE_0_2_1 (r_0 + 2) (by omega)).2 (by omega)
       have q2 := (hE_0_2_2 (r_0 + 2) (by omega)).2 (by omega)
       have q3 := (hE_0_2_3 (r_0 + 2) (by omega)).2 (by omega)
       omega)
set_option maxHeartbeats 4000000 in
theorem vc_Mo_edgeItem_20_2 (x3 : Int) (x19 : Int) (r_0 : Int) (gy : Int) (k3 : 0 ≤ x3 ∧ x3 ≤ 4) (k19 : 0 ≤ x19 ∧ x19 ≤ 4) (f5 : 1 * x19 + ((-1) * x3 + 0) ≤ 0) (f6 : (-1) * x19 + (1 * x3 + 0) ≤ 0) (ey2 : gy = x3) : 1 * gy + ((-1) * x3 + 0) ≤ 0 := by
  first
    | omega
    | (have q1 := (hE_0_2_1 (r_0 + 2) (by omega)).2 (by omega)
       have q2 := (hE_0_2_2 (r_0 + 2) (by omega)).2 (by omega)
       omega)
    | (have q1 := (hE_0_2_1 (r_0 + 1) (by omega)).2 (by omega)
       have q2 := (hE_0_2_2 (r_0 + 1) (by omega)).2 (by omega)
       omega)
    | (have q1 := (hE_0_2_1 (r_0 + 2) (by omega)).2 (by omega)
       omega)
    | (have q1 := (hE_0_2_1 (r_0 + 1) (by omega)).2 (by omega)
       omega)
    | (have q1 := (hE_0_2_1 (r_0 + 2) (by omega)).2 (by omega)
       have q2 := (hE_0_2_2 (r_0 + 2) (by omega)).2 (by omega)
       have q3 := (hE_0_2_3 (r_0 + 2) (by omega)).1 (by omega)
       omega)
    | (have q1 := (hE_0_2_1 (r_0 + 2) (by omega)).2 (by omega)
       have q2 := (hE_0_2_2 (r_0 + 2) (by omega)).2 (by omega)
       have q3 := (hE_0_2_3 (r_0 + 2) (by omega)).2 (by omega)
       omega)
set_option maxHeartbeats 4000000 in
theorem vc_Mo_edgeItem_20_3 (x3 : Int) (x19 : Int) (r_0 : Int) (gy : Int) (k3 : 0 ≤ x3 ∧ x3 ≤ 4) (k19 : 0 ≤ x19 ∧ x19 ≤ 4) (f5 : 1 * x19 + ((-1) * x3 + 0) ≤ 0) (f6 : (-1) * x19 + (1 * x3 + 0) ≤ 0) (ey2 : gy = x3) : (-1) * gy + (1 * x3 + 0) ≤ 0 := by
  first
    | omega
    | (have q1 := (hE_0_2_1 (r_0 + 2) (by omega)).2 (by omega)
       have q2 := (hE_0_2_2 (r_0 + 2) (by omega)).2 (by omega)
       omega)
    | (have q1 := (hE_0_2_1 (r_0 + 1) (by omega)).2 (by omega)
       have q2 := (hE_0_2_2 (r_0 + 1) (by omega)).2 (by omega)
       omega)
    | (have q1 := (hE_0_2_1 (r_0 + 2) (by omega)).2 (by omega)
       omega)
    | (have q1 := (hE_0_2_1 (r_0 + 1) (by omega)).2 (by omega)
       omega)
    | (have q1 := (hE_0_2_1 (r_0 + 2) (by omega)).2 (by omega)
       have q2 := (hE_0_2_2 (r_0 + 2) (by omega)).2 (by omega)
       have q3 := (hE_0_2_3 (r_0 + 2) (by omega)).1 (by omega)
       omega)
    | (have q1 := (hE_0_2_1 (r_0 + 2) (by omega)).2 (by omega)
       have q2 := (hE_0_2_2 (r_0 + 2) (by omega)).2 (by omega)
       have q3 := (hE_0_2_3 (r_0 + 2) (by omega)).2 (by omega)
       omega)
set_option maxHeartbeats 4000000 in
theorem vc_Mo_edgeItem_20_4 (x7 : Int) (x20 : Int) (r_0 : Int) (gu : Int) (k7 : 0 ≤ x7 ∧ x7 ≤ 48) (k20 : 0 ≤ x20 ∧ x20 ≤ 48) (f7 : 1 * x20 + ((-1) * x7 + 0) ≤ 0) (f8 : (-1) * x20 + (1 * x7 + 0) ≤ 0) (eu2 : gu = x7) : 1 * gu + ((-1) * x7 + 0) ≤ 0 := by
  first
    | omega
    | (have q1 := (hE_0_2_1 (r_0 + 2) (by omega)).2 (by omega)
       have q2 := (hE_0_2_2 (r_0 + 2) (by omega)).2 (by omega)
       omega)
    | (have q1 := (hE_0_2_1 (r_0 + 1) (by omega)).2 (by omega)
       have q2 := (hE_0_2_2 (r_0 + 1) (by omega)).2 (by omega)
       omega)
    | (have q1 := (hE_0_2_1 (r_0 + 2) (by omega)).2 (by omega)
       omega)
    | (have q1 := (hE_0_2_1 (r_0 + 1) (by omega)).2 (by omega)
       omega)
    | (have q1 := (hE_0_2_1 (r_0 + 2) (by omega)).2 (by omega)
       have q2 := (hE_0_2_2 (r_0 + 2) (by omega)).2 (by omega)
       have q3 := (hE_0_2_3 (r_0 + 2) (by omega)).1 (by omega)
       omega)
    | (have q1 := (hE_0_2_1 (r_0 + 2) (by omega)).2 (by omega)
       have q2 := (hE_0_2_2 (r_0 + 2) (by omega)).2 (by omega)
       have q3 := (hE_0_2_3 (r_0 + 2) (by omega)).2 (by omega)
       omega)
set_option maxHeartbeats 4000000 in
theorem vc_Mo_edgeItem_20_5 (x7 : Int) (x20 : Int) (r_0 : Int) (gu : Int) (k7 : 0 ≤ x7 ∧ x7 ≤ 48) (k20 : 0 ≤ x20 ∧ x20 ≤ 48) (f7 : 1 * x20 + ((-1) * x7 + 0) ≤ 0) (f8 : (-1) * x20 + (1 * x7 + 0) ≤ 0) (eu2 : gu = x7) : (-1) * gu + (1 * x7 + 0) ≤ 0 := by
  first
    | omega
    | (have q1 := (hE_0_2_1 (r_0 + 2) (by omega)).2 (by omega)
       have q2 := (hE_0_2_2 (r_0 + 2) (by omega)).2 (by omega)
       omega)
    | (have q1 := (hE_0_2_1 (r_0 + 1) (by omega)).2 (by omega)
       have q2 := (hE_0_2_2 (r_0 + 1) (by omega)).2 (by omega)
       omega)
    | (have q1 := (hE_0_2_1 (r_0 + 2) (by omega)).2 (by omega)
       omega)
    | (have q1 := (hE_0_2_1 (r_0 + 1) (by omega)).2 (by omega)
       omega)
    | (have q1 := (hE_0_2_1 (r_0 + 2) (by omega)).2 (by omega)
       have q2 := (hE_0_2_2 (r_0 + 2) (by omega)).2 (by omega)
       have q3 := (hE_0_2_3 (r_0 + 2) (by omega)).1 (by omega)
       omega)
    | (have q1 := (hE_0_2_1 (r_0 + 2) (by omega)).2 (by omega)
       have q2 := (hE_0_2_2 (r_0 + 2) (by omega)).2 (by omega)
       have q3 := (hE_0_2_3 (r_0 + 2) (by omega)).2 (by omega)
       omega)
set_option maxHeartbeats 4000000 in
theorem vc_Mo_edgeItem_20_6 (x6 : Int) (x23 : Int) (fault_0 : Int) (all_0 : Int → Int) (r_0 : Int) (k6 : (-1) ≤ x6 ∧ x6 ≤ 23) (k23 : 0 ≤ x23 ∧ x23 ≤ 0) (g2 : x23 = fault_0) (f11 : 0 ≤ x6) (f26 : (1 ≤ fault_0) ∨ ((x6 ≤ (-1)) ∨ (all_0 ((r_0 + 1)) ≤ 47))) (kz_0_8 : 0 ≤ fault_0 ∧ fault_0 ≤ 5) : 1 * all_0 (r_0 + 1) + 0 ≤ 47 := by
  first
    | omega
    | (have q1 := (hE_0_2_1 (r_0 + 2) (by omega)).2 (by omega)
       have q2 := (hE_0_2_2 (r_0 + 2) (by omega)).2 (by omega)
       omega)
    | (have q1 := (hE_0_2_1 (r_0 + 1) (by omega)).2 (by omega)
       have q2 := (hE_0_2_2 (r_0 + 1) (by omega)).2 (by omega)
       omega)
    | (have q1 := (hE_0_2_1 (r_0 + 2) (by omega)).2 (by omega)
       omega)
    | (have q1 := (hE_0_2_1 (r_0 + 1) (by omega)).2 (by omega)
       omega)
    | (have q1 := (hE_0_2_1 (r_0 + 2) (by omega)).2 (by omega)
       have q2 := (hE_0_2_2 (r_0 + 2) (by omega)).2 (by omega)
       have q3 := (hE_0_2_3 (r_0 + 2) (by omega)).1 (by omega)
       omega)
    | (have q1 := (hE_0_2_1 (r_0 + 2) (by omega)).2 (by omega)
       have q2 := (hE_0_2_2 (r_0 + 2) (by omega)).2 (by omega)
       have q3 := (hE_0_2_3 (r_0 + 2) (by omega)).2 (by omega)
       omega)
set_option maxHeartbeats 4000000 in
theorem vc_Mo_edgeItem_20_7 (all_0 : Int → Int) (r_0 : Int) (now_0 : Int → Int) (latest_0 : Int → Int) (f28 : RWS (r_0) (all_0) (now_0) (latest_0)) : RWS (r_0) (all_0) (now_0) (latest_0) := by
  first
    | assumption
set_option maxHeartbeats 4000000 in
theorem vc_Mo_edgeItem_20_8 (x6 : Int) (x22 : Int) (x23 : Int) (fault_0 : Int) (all_0 : Int → Int) (r_0 : Int) (k6 : (-1) ≤ x6 ∧ x6 ≤ 23) (k22 : (-1) ≤ x22 ∧ x22 ≤ 23) (k23 : 0 ≤ x23 ∧ x23 ≤ 0) (g2 : x23 = fault_0) (f11 : 0 ≤ x6) (f29 : MET (r_0) (fault_0) (all_0) (x6) (x22)) (kz_0_8 : 0 ≤ fault_0 ∧ fault_0 ≤ 5) : NWE (r_0) (all_0) (x6) (x22) := by
  have h := (‹MET _ _ _ _ _› (by omega)).2 (by omega)
  first
    | exact h
set_option maxHeartbeats 4000000 in
theorem vc_Mo_edgeItem_20_9 (x1 : Int) (x5 : Int) (all_0 : Int → Int) (r_0 : Int) (gx : Int) (k1 : 0 ≤ x1 ∧ x1 ≤ 7) (k5 : 0 ≤ x5 ∧ x5 ≤ 7) (d0 : x5 + (-4294967296) ≤ x1 ∧ x1 ≤ x5 + 0) (d1 : x1 + (-4294967296) ≤ x5 ∧ x5 ≤ x1 + 0) (f27 : (x1 + 1) ≤ all_0 ((r_0 + 2))) (ex2 : gx = x1) : (gx + 1) ≤ all_0 ((r_0 + 2)) := by
  first
    | omega
    | (have q1 := (hE_0_2_1 (r_0 + 2) (by omega)).2 (by omega)
       have q2 := (hE_0_2_2 (r_0 + 2) (by omega)).2 (by omega)
       omega)
    | (have q1 := (hE_0_2_1 (r_0 + 1) (by omega)).2 (by omega)
       have q2 := (hE_0_2_2 (r_0 + 1) (by omega)).2 (by omega)
       omega)
    | (have q1 := (hE_0_2_1 (r_0 + 2) (by omega)).2 (by omega)
       omega)
    | (have q1 := (hE_0_2_1 (r_0 + 1) (by omega)).2 (by omega)
       omega)
    | (have q1 := (hE_0_2_1 (r_0 + 2) (by omega)).2 (by omega)
       have q2 := (hE_0_2_2 (r_0 + 2) (by omega)).2 (by omega)
       have q3 := (hE_0_2_3 (r_0 + 2) (by omega)).1 (by omega)
       omega)
    | (have q1 := (hE_0_2_1 (r_0 + 2) (by omega)).2 (by omega)
       have q2 := (hE_0_2_2 (r_0 + 2) (by omega)).2 (by omega)
       have q3 := (hE_0_2_3 (r_0 + 2) (by omega)).2 (by omega)
       omega)
set_option maxHeartbeats 4000000 in
theorem vc_Mo_edgeItem_20_10 (x1 : Int) (x2 : Int) (x3 : Int) (x6 : Int) (x7 : Int) (x15 : Int) (x17 : Int) (x19 : Int) (x20 : Int) (x21 : Int) (x22 : Int) (x23 : Int) (fault_0 : Int) (from_0 : Int) (pos_0 : Int) (kind_0 : Int) (all_0 : Int → Int) (r_0 : Int) (tape_0 : Int → Int) (limit_0 : Int) (place_0 : Int) (value_0 : Int) (faultPlace_0 : Int) (gx : Int) (gy : Int) (gu : Int) (k1 : 0 ≤ x1 ∧ x1 ≤ 7) (k2 : 0 ≤ x2 ∧ x2 ≤ 2000) (k3 : 0 ≤ x3 ∧ x3 ≤ 4) (k6 : (-1) ≤ x6 ∧ x6 ≤ 23) (k7 : 0 ≤ x7 ∧ x7 ≤ 48) (k15 : 1 ≤ x15 ∧ x15 ≤ 1) (k17 : 0 ≤ x17 ∧ x17 ≤ 2000) (k19 : 0 ≤ x19 ∧ x19 ≤ 4) (k20 : 0 ≤ x20 ∧ x20 ≤ 48) (k21 : 0 ≤ x21 ∧ x21 ≤ 1) (k22 : (-1) ≤ x22 ∧ x22 ≤ 23) (k23 : 0 ≤ x23 ∧ x23 ≤ 0) (f1 : x23 ≤ 0) (g2 : x23 = fault_0) (f3 : 1 * x17 + ((-1) * x2 + 0) ≤ 0) (f4 : (-1) * x17 + (1 * x2 + 0) ≤ 0) (f5 : 1 * x19 + ((-1) * x3 + 0) ≤ 0) (f6 : (-1) * x19 + (1 * x3 + 0) ≤ 0) (f7 : 1 * x20 + ((-1) * x7 + 0) ≤ 0) (f8 : (-1) * x20 + (1 * x7 + 0) ≤ 0) (f10 : (-1) * x21 + (1 * x15 + 0) ≤ 0) (f30 : zOP8 (limit_0) (pos_0) (kind_0) (place_0) (value_0) (from_0) (fault_0) (faultPlace_0) (r_0) (tape_0) (all_0) (x22) (x20) (x6) (x21) (x1) (x19)) (kz_0_8 : 0 ≤ fault_0 ∧ fault_0 ≤ 5) (kz_0_9 : 0 ≤ faultPlace_0 ∧ faultPlace_0 ≤ 2000) (kz_0_10 : 0 ≤ limit_0 ∧ limit_0 ≤ 2000) (kz_0_11 : 0 ≤ pos_0 ∧ pos_0 ≤ 2000) (kz_0_12 : 0 ≤ kind_0 ∧ kind_0 ≤ 4) (kz_0_13 : 0 ≤ place_0 ∧ place_0 ≤ 2000) (kz_0_14 : (-49) ≤ value_0 ∧ value_0 ≤ 1048575) (kz_0_15 : 0 ≤ from_0 ∧ from_0 ≤ 2000) (ex2 : gx = x1) (ey2 : gy = x3) (eu2 : gu = x7) : zRP8 (limit_0) (pos_0) (kind_0) (place_0) (value_0) (from_0) (fault_0) (r_0) (tape_0) (all_0) (x22) (gu) (x6) (x15) (gx) (gy) := by
  first | (have el_x17 : x17 = x2 := by omega); subst el_x17 | skip
  first | (have el_x19 : x19 = x3 := by omega); subst el_x19 | skip
  first | (have el_x20 : x20 = x7 := by omega); subst el_x20 | skip
  first | (have el_x21 : x21 = x15 := by omega); subst el_x21 | skip
  first | subst g2 | skip
  first | subst ex2 | skip
  first | subst ey2 | skip
  first | subst eu2 | skip
  exact (‹zOP8 _ _ _ _ _ _ _ _ _ _ _ _ _ _ _ _ _›).resolve_left (fs_n (by omega))
set_option maxHeartbeats 4000000 in
theorem vc_Mo_edgeItem_20_11 (x2 : Int) (x6 : Int) (x17 : Int) (x18 : Int) (x22 : Int) (x23 : Int) (fault_0 : Int) (pos_0 : Int) (all_0 : Int → Int) (r_0 : Int) (k2 : 0 ≤ x2 ∧ x2 ≤ 2000) (k6 : (-1) ≤ x6 ∧ x6 ≤ 23) (k17 : 0 ≤ x17 ∧ x17 ≤ 2000) (k18 : 0 ≤ x18 ∧ x18 ≤ 2000) (k22 : (-1) ≤ x22 ∧ x22 ≤ 23) (k23 : 0 ≤ x23 ∧ x23 ≤ 0) (g2 : x23 = fault_0) (f3 : 1 * x17 + ((-1) * x2 + 0) ≤ 0) (f4 : (-1) * x17 + (1 * x2 + 0) ≤ 0) (f11 : 0 ≤ x6) (f13 : 1 * x2 + ((-1) * x18 + 0) ≤ (-1)) (f22 : 1 * x17 + ((-1) * pos_0 + 0) ≤ 0) (f24 : (1 ≤ fault_0) ∨ ((x18 + 1) ≤ pos_0)) (f25 : ((-1) * fault_0 + 0 ≤ (-1)) ∨ ((-1) * x22 + 0 ≤ 0)) (f26 : (1 ≤ fault_0) ∨ ((x6 ≤ (-1)) ∨ (all_0 ((r_0 + 1)) ≤ 47))) (kz_0_8 : 0 ≤ fault_0 ∧ fault_0 ≤ 5) (kz_0_11 : 0 ≤ pos_0 ∧ pos_0 ≤ 2000) : 1 * x2 + ((-1) * pos_0 + 0) ≤ (-1) := by
  first
    | omega
    | (have q1 := (hE_0_2_1 (r_0 + 2) (by omega)).2 (by omega)
       have q2 := (hE_0_2_2 (r_0 + 2) (by omega)).2 (by omega)
       omega)
    | (have q1 := (hE_0_2_1 (r_0 + 1) (by omega)).2 (by omega)
       have q2 := (hE_0_2_2 (r_0 + 1) (by omega)).2 (by omega)
       omega)
    | (have q1 := (hE_0_2_1 (r_0 + 2) (by omega)).2 (by omega)
       omega)
    | (have q1 := (hE_0_2_1 (r_0 + 1) (by omega)).2 (by omega)
       omega)
    | (have q1 := (hE_0_2_1 (r_0 + 2) (by omega)).2 (by omega)
       have q2 := (hE_0_2_2 (r_0 + 2) (by omega)).2 (by omega)
       have q3 := (hE_0_2_3 (r_0 + 2) (by omega)).1 (by omega)
       omega)
    | (have q1 := (hE_0_2_1 (r_0 + 2) (by omega)).2 (by omega)
       have q2 := (hE_0_2_2 (r_0 + 2) (by omega)).2 (by omega)
       have q3 := (hE_0_2_3 (r_0 + 2) (by omega)).2 (by omega)
       omega)
set_option maxHeartbeats 4000000 in
theorem vc_Mo_edgeItem_20_12 (x6 : Int) (x8 : Int) (x18 : Int) (x22 : Int) (x23 : Int) (fault_0 : Int) (pos_0 : Int) (all_0 : Int → Int) (r_0 : Int) (k6 : (-1) ≤ x6 ∧ x6 ≤ 23) (k8 : 0 ≤ x8 ∧ x8 ≤ 2000) (k18 : 0 ≤ x18 ∧ x18 ≤ 2000) (k22 : (-1) ≤ x22 ∧ x22 ≤ 23) (k23 : 0 ≤ x23 ∧ x23 ≤ 0) (g2 : x23 = fault_0) (f11 : 0 ≤ x6) (f12 : (-1) * x8 + ((-1) * x18 + 0) ≤ (-2000)) (f24 : (1 ≤ fault_0) ∨ ((x18 + 1) ≤ pos_0)) (f25 : ((-1) * fault_0 + 0 ≤ (-1)) ∨ ((-1) * x22 + 0 ≤ 0)) (f26 : (1 ≤ fault_0) ∨ ((x6 ≤ (-1)) ∨ (all_0 ((r_0 + 1)) ≤ 47))) (kz_0_8 : 0 ≤ fault_0 ∧ fault_0 ≤ 5) (kz_0_11 : 0 ≤ pos_0 ∧ pos_0 ≤ 2000) : (-1) * x8 + ((-1) * pos_0 + 0) ≤ (-2001) := by
  first
    | omega
    | (have q1 := (hE_0_2_1 (r_0 + 2) (by omega)).2 (by omega)
       have q2 := (hE_0_2_2 (r_0 + 2) (by omega)).2 (by omega)
       omega)
    | (have q1 := (hE_0_2_1 (r_0 + 1) (by omega)).2 (by omega)
       have q2 := (hE_0_2_2 (r_0 + 1) (by omega)).2 (by omega)
       omega)
    | (have q1 := (hE_0_2_1 (r_0 + 2) (by omega)).2 (by omega)
       omega)
    | (have q1 := (hE_0_2_1 (r_0 + 1) (by omega)).2 (by omega)
       omega)
    | (have q1 := (hE_0_2_1 (r_0 + 2) (by omega)).2 (by omega)
       have q2 := (hE_0_2_2 (r_0 + 2) (by omega)).2 (by omega)
       have q3 := (hE_0_2_3 (r_0 + 2) (by omega)).1 (by omega)
       omega)
    | (have q1 := (hE_0_2_1 (r_0 + 2) (by omega)).2 (by omega)
       have q2 := (hE_0_2_2 (r_0 + 2) (by omega)).2 (by omega)
       have q3 := (hE_0_2_3 (r_0 + 2) (by omega)).2 (by omega)
       omega)
def o_Mo_edgeItem_20 : or_T := (106, 24, [(0, (2, 0, 0, [165])), (1, (0, 0, 7, [])), (2, (0, 0, 2000, [])), (3, (0, 0, 4, [])), (4, (2, 0, 0, [165])), (5, (0, 0, 7, [])), (6, (0, -1, 23, [])), (7, (0, 0, 48, [])), (8, (0, 0, 2000, [])), (15, (0, 1, 1, [])), (16, (0, 0, 2000, [])), (17, (0, 0, 2000, [])), (18, (0, 0, 2000, [])), (19, (0, 0, 4, [])), (20, (0, 0, 48, [])), (21, (0, 0, 1, [])), (22, (0, -1, 23, [])), (23, (0, 0, 0, []))], [(23, [22], [0, -1]), (8, [23], [5]), (9, [23, 4], [8]), (23, [17, 2], [0, 1, -1]), (23, [17, 2], [0, -1, 1]), (23, [19, 3], [0, 1, -1]), (23, [19, 3], [0, -1, 1]), (23, [20, 7], [0, 1, -1]), (23, [20, 7], [0, -1, 1]), (23, [21, 15], [0, 1, -1]), (23, [21, 15], [0, -1, 1]), (20, [6], [50, 0, 0, 0, 2, 0, 0, 1, 0]), (23, [8, 18], [-2000, -1, -1]), (23, [2, 18], [-1, 1, -1]), (23, [2, 16], [-1, 1, -1]), (23, [8, 16], [-2000, -1, -1]), (20, [2, 16], [30, 0, 1, 0, 0, -1, 0, 0]), (23, [6], [0, -1]), (24, [0, 4], []), (24, [1, 5], []), (20, [4, 4], [30, 0, 1, 1, 15, -1, 1, 11]), (20, [4], [50, 3, 0, 12, 11, 15, 2, 21, 4, 7, 1, 3, 2, 0, 12, 0, 1, 0, 3, 2, 0, 11, 4, 3, 2, 0, 15, 0, 8, 3, 7, 1, 3, 2, 0, 12, 0, 0, 0, 7, 4, 3, 2, 0, 15, 0, 1, 2, 0, 11]), (20, [17, 4], [30, 0, 1, 0, 0, -1, 1, 11]), (20, [4, 17], [50, 3, 0, 8, 12, 11, 3, 7, 0, 2, 0, 1, 2, 0, 8, 3, 7, 1, 3, 2, 0, 12, 0, 0, 0, 6, 4, 2, 1, 1, 0, 1, 2, 0, 11]), (20, [4, 18], [50, 2, 0, 8, 11, 3, 7, 0, 2, 0, 1, 2, 0, 8, 0, 6, 4, 2, 1, 1, 0, 1, 2, 0, 11]), (20, [4, 22], [31, 1, -1, -1, 1, 8, 0, -1, 0, 0]), (20, [4, 6], [50, 2, 1, 8, 5, 2, 3, 7, 0, 2, 0, 1, 2, 0, 8, 3, 6, 0, 2, 1, 1, 0, -1, 0, 10, 3, 0, 2, 4, 3, 2, 0, 5, 0, 1, 0, 47]), (20, [5, 4], [50, 1, 1, 1005, 1002, 0, 6, 4, 2, 1, 0, 0, 1, 3, 1, 2, 4, 3, 2, 1, 5, 0, 2]), (20, [4], [60, 1, 3, 199, 5, 2, 3, 4]), (20, [4, 6, 22], [60, 2, 1, 240, 5, 8, 2]), (20, [4, 22, 20, 6, 21, 5, 19], [60, 9, 2, 1011, 10, 11, 12, 13, 14, 15, 8, 9, 5, 1, 2]), (102, [21], [187072209578355573530071658587684226515959365500928, 165008, 165009, 165011, 165012, 165013, 165014, 165015]), (23, [17, 2], [0, 1, -1]), (23, [17, 2], [0, -1, 1]), (23, [19, 3], [0, 1, -1]), (23, [19, 3], [0, -1, 1]), (23, [20, 7], [0, 1, -1]), (23, [20, 7], [0, -1, 1]), (23, [21, 15], [0, 1, -1]), (23, [21, 15], [0, -1, 1]), (23, [8, 18], [-2000, -1, -1]), (23, [2, 18], [-1, 1, -1]), (23, [2, 16], [-1, 1, -1]), (23, [8, 16], [-2000, -1, -1]), (23, [6], [0, -1]), (102, [16], [0, 165011, 165012, 165013, 165014, 165015]), (23, [2, 16], [-1, 1, -1]), (23, [8, 16], [-2000, -1, -1]), (23, [6], [0, -1])], [(22, (0, 0, 23, [])), (6, (0, 0, 23, []))], [(0, 0, 7, []), (0, 0, 4, []), (0, 0, 48, [])], [(23, [24, 5], [0, 1, -1]), (23, [24, 5], [0, -1, 1]), (23, [25, 3], [0, 1, -1]), (23, [25, 3], [0, -1, 1]), (23, [26, 7], [0, 1, -1]), (23, [26, 7], [0, -1, 1]), (20, [4], [30, 47, 1, 3, 2005001]), (20, [4], [60, 1, 3, 199, 5, 2, 3, 4]), (20, [4, 6, 22], [60, 1, 1, 203, 5, 2]), (20, [24, 4], [50, 1, 1, 1005, 1002, 0, 6, 4, 2, 1, 0, 0, 1, 3, 1, 2, 4, 3, 2, 1, 5, 0, 2]), (20, [4, 22, 26, 6, 15, 24, 25], [60, 8, 2, 994, 10, 11, 12, 13, 14, 15, 8, 5, 1, 2]), (20, [2, 4], [30, -1, 1, 0, 0, -1, 1, 11]), (20, [8, 4], [30, -2001, -1, 0, 0, -1, 1, 11])], [], [(1, 5, -4294967296, 0), (5, 1, -4294967296, 0)])
theorem oo_Mo_edgeItem_20 {kA : Nat → ClassId} : or_ok PRD kA GG o_Mo_edgeItem_20 := by
  refine or_mk fun A ta ws vs hD hth hl => ?_
  intro t0 r0 t1 k1 t2 k2 t3 k3 t4 r4 t5 k5 t6 k6 t7 k7 t8 k8 t15 k15 t16 k16 t17 k17 t18 k18 t19 k19 t20 k20 t21 k21 t22 k22 t23 k23 d0 d1 f0 f1 f2 f3 f4 f5 f6 f7 f8 f9 f10 f11 f12 f13 f14 f15 f16 f17 f18 f19 f20 f21 f22 f23 f24 f25 f26 f27 f28 f29 f30 ta1 w1 le1 s1 f32 f33 f34 f35 f36 f37 f38 f39 f40 f41 f42 f43 f44 ta2 w2 le2 s2 f46 f47 f48
  replace f0 := shm_1043 f0
  replace f1 := shm_295 f1
  replace f2 := shm_293 f2
  replace f3 := shm_7 f3
  replace f4 := shm_22 f4
  replace f5 := shm_7 f5
  replace f6 := shm_22 f6
  replace f7 := shm_7 f7
  replace f8 := shm_22 f8
  replace f10 := shm_22 f10
  replace f11 := shm_722 f11
  replace f12 := shm_2009 f12
  replace f13 := shm_193 f13
  replace f18 := shm_5 f18
  replace f19 := shm_5 f19
  replace f22 := shm_1431 f22
  replace f24 := shm_1726 f24
  replace f25 := shm_2117 f25
  replace f26 := shm_2118 f26
  replace f27 := shm_1009 f27
  replace f28 := shm_980 f28
  replace f29 := shm_2119 f29
  replace f30 := shm_2128 f30
  have q4 : n_v vs 4 = n_v vs 0 := f18.symm
  have q5 : n_v vs 5 = n_v vs 1 := f19.symm
  simp only [q4, q5] at f2 f22 f24 f25 f26 f27 f28 f29 f30
  have g2 : v_iv (n_v vs 23) = w_fi ws (n_v vs 0) 8 := congrArg v_iv f2
  have kz_0_8 := fdq_34 hD hth r0
  have kz_0_9 := fdq_44 hD hth r0
  have kz_0_10 := fdq_43 hD hth r0
  have kz_0_11 := fdq_237 hD hth r0
  have kz_0_12 := fdq_187 hD hth r0
  have kz_0_13 := fdq_238 hD hth r0
  have kz_0_14 := fdq_188 hD hth r0
  have kz_0_15 := fdq_239 hD hth r0
  obtain ⟨x, ex, hx⟩ := iv_ex (ta := ta) (lo := 0) (hi := 7) (z := v_iv (n_v vs 1)) (by omega) (by omega) (by omega) (by omega)
  have ex2 : v_iv (Value.int x) = v_iv (n_v vs 1) := ex
  have ex3 : 0 ≤ v_iv (Value.int x) ∧ v_iv (Value.int x) ≤ 7 := tv_rng hx
  obtain ⟨y, ey, hy⟩ := iv_ex (ta := ta) (lo := 0) (hi := 4) (z := v_iv (n_v vs 3)) (by omega) (by omega) (by omega) (by omega)
  have ey2 : v_iv (Value.int y) = v_iv (n_v vs 3) := ey
  have ey3 : 0 ≤ v_iv (Value.int y) ∧ v_iv (Value.int y) ≤ 4 := tv_rng hy
  obtain ⟨u, eu, hu⟩ := iv_ex (ta := ta) (lo := 0) (hi := 48) (z := v_iv (n_v vs 7)) (by omega) (by omega) (by omega) (by omega)
  have eu2 : v_iv (Value.int u) = v_iv (n_v vs 7) := eu
  have eu3 : 0 ≤ v_iv (Value.int u) ∧ v_iv (Value.int u) ≤ 48 := tv_rng hu
  have hrf0 : 0 ≤ v_iv (n_v vs 22) ∧ v_iv (n_v vs 22) ≤ 23 := vc_Mo_edgeItem_20_r0 (v_iv (n_v vs 22)) (w_fi ws (n_v vs 0) 5) k22 f0
  have hrf1 : 0 ≤ v_iv (n_v vs 6) ∧ v_iv (n_v vs 6) ≤ 23 := vc_Mo_edgeItem_20_r1 (v_iv (n_v vs 6)) (w_fi ws (n_v vs 0) 5) k6 f11
  have e_2 : n_v (vs ++ [Value.int x, Value.int y, Value.int u]) 2 = n_v vs 2 := n_v_old (by rw [hl]; decide)
  have e_3 : n_v (vs ++ [Value.int x, Value.int y, Value.int u]) 3 = n_v vs 3 := n_v_old (by rw [hl]; decide)
  have e_4 : n_v (vs ++ [Value.int x, Value.int y, Value.int u]) 4 = n_v vs 4 := n_v_old (by rw [hl]; decide)
  have e_5 : n_v (vs ++ [Value.int x, Value.int y, Value.int u]) 5 = n_v vs 5 := n_v_old (by rw [hl]; decide)
  have e_6 : n_v (vs ++ [Value.int x, Value.int y, Value.int u]) 6 = n_v vs 6 := n_v_old (by rw [hl]; decide)
  have e_7 : n_v (vs ++ [Value.int x, Value.int y, Value.int u]) 7 = n_v vs 7 := n_v_old (by rw [hl]; decide)
  have e_8 : n_v (vs ++ [Value.int x, Value.int y, Value.int u]) 8 = n_v vs 8 := n_v_old (by rw [hl]; decide)
  have e_15 : n_v (vs ++ [Value.int x, Value.int y, Value.int u]) 15 = n_v vs 15 := n_v_old (by rw [hl]; decide)
  have e_22 : n_v (vs ++ [Value.int x, Value.int y, Value.int u]) 22 = n_v vs 22 := n_v_old (by rw [hl]; decide)
  have e_24 : n_v (vs ++ [Value.int x, Value.int y, Value.int u]) 24 = Value.int x := n_v_newk (k := 0) hl rfl
  have e_25 : n_v (vs ++ [Value.int x, Value.int y, Value.int u]) 25 = Value.int y := n_v_newk (k := 1) hl rfl
  have e_26 : n_v (vs ++ [Value.int x, Value.int y, Value.int u]) 26 = Value.int u := n_v_newk (k := 2) hl rfl
  have nf0 : fc_1 PRD (23, [24, 5], [0, 1, -1]) ws (vs ++ [Value.int x, Value.int y, Value.int u]) := by
    refine ⟨nf_inA hl rfl, sgq_7 ?_⟩
    · show 1 * v_iv (n_v (vs ++ [Value.int x, Value.int y, Value.int u]) 24) + ((-1) * v_iv (n_v (vs ++ [Value.int x, Value.int y, Value.int u]) 5) + 0) ≤ 0
      simp only [e_5, e_24, q5]
      exact vc_Mo_edgeItem_20_0 (v_iv (n_v vs 1)) (v_iv (n_v vs 5)) (w_fi ws (n_v vs 0) 5) (v_iv (Value.int x)) k1 k5 d0 d1 ex2
  have nf1 : fc_1 PRD (23, [24, 5], [0, -1, 1]) ws (vs ++ [Value.int x, Value.int y, Value.int u]) := by
    refine ⟨nf_inA hl rfl, sgq_22 ?_⟩
    · show (-1) * v_iv (n_v (vs ++ [Value.int x, Value.int y, Value.int u]) 24) + (1 * v_iv (n_v (vs ++ [Value.int x, Value.int y, Value.int u]) 5) + 0) ≤ 0
      simp only [e_5, e_24, q5]
      exact vc_Mo_edgeItem_20_1 (v_iv (n_v vs 1)) (v_iv (n_v vs 5)) (w_fi ws (n_v vs 0) 5) (v_iv (Value.int x)) k1 k5 d0 d1 ex2
  have nf2 : fc_1 PRD (23, [25, 3], [0, 1, -1]) ws (vs ++ [Value.int x, Value.int y, Value.int u]) := by
    refine ⟨nf_inA hl rfl, sgq_7 ?_⟩
    · show 1 * v_iv (n_v (vs ++ [Value.int x, Value.int y, Value.int u]) 25) + ((-1) * v_iv (n_v (vs ++ [Value.int x, Value.int y, Value.int u]) 3) + 0) ≤ 0
      simp only [e_3, e_25]
      exact vc_Mo_edgeItem_20_2 (v_iv (n_v vs 3)) (v_iv (n_v vs 19)) (w_fi ws (n_v vs 0) 5) (v_iv (Value.int y)) k3 k19 f5 f6 ey2
  have nf3 : fc_1 PRD (23, [25, 3], [0, -1, 1]) ws (vs ++ [Value.int x, Value.int y, Value.int u]) := by
    refine ⟨nf_inA hl rfl, sgq_22 ?_⟩
    · show (-1) * v_iv (n_v (vs ++ [Value.int x, Value.int y, Value.int u]) 25) + (1 * v_iv (n_v (vs ++ [Value.int x, Value.int y, Value.int u]) 3) + 0) ≤ 0
      simp only [e_3, e_25]
      exact vc_Mo_edgeItem_20_3 (v_iv (n_v vs 3)) (v_iv (n_v vs 19)) (w_fi ws (n_v vs 0) 5) (v_iv (Value.int y)) k3 k19 f5 f6 ey2
  have nf4 : fc_1 PRD (23, [26, 7], [0, 1, -1]) ws (vs ++ [Value.int x, Value.int y, Value.int u]) := by
    refine ⟨nf_inA hl rfl, sgq_7 ?_⟩
    · show 1 * v_iv (n_v (vs ++ [Value.int x, Value.int y, Value.int u]) 26) + ((-1) * v_iv (n_v (vs ++ [Value.int x, Value.int y, Value.int u]) 7) + 0) ≤ 0
      simp only [e_7, e_26]
      exact vc_Mo_edgeItem_20_4 (v_iv (n_v vs 7)) (v_iv (n_v vs 20)) (w_fi ws (n_v vs 0) 5) (v_iv (Value.int u)) k7 k20 f7 f8 eu2
  have nf5 : fc_1 PRD (23, [26, 7], [0, -1, 1]) ws (vs ++ [Value.int x, Value.int y, Value.int u]) := by
    refine ⟨nf_inA hl rfl, sgq_22 ?_⟩
    · show (-1) * v_iv (n_v (vs ++ [Value.int x, Value.int y, Value.int u]) 26) + (1 * v_iv (n_v (vs ++ [Value.int x, Value.int y, Value.int u]) 7) + 0) ≤ 0
      simp only [e_7, e_26]
      exact vc_Mo_edgeItem_20_5 (v_iv (n_v vs 7)) (v_iv (n_v vs 20)) (w_fi ws (n_v vs 0) 5) (v_iv (Value.int u)) k7 k20 f7 f8 eu2
  have nf6 : fc_1 PRD (20, [4], [30, 47, 1, 3, 2005001]) ws (vs ++ [Value.int x, Value.int y, Value.int u]) := by
    refine ⟨nf_inA hl rfl, sgq_1007 ?_⟩
    · show 1 * w_el ws (w_ar ws (n_v (vs ++ [Value.int x, Value.int y, Value.int u]) 4) 2) (w_fi ws (n_v (vs ++ [Value.int x, Value.int y, Value.int u]) 4) 5 + 1).toNat + 0 ≤ 47
      simp only [e_4, q4]
      exact vc_Mo_edgeItem_20_6 (v_iv (n_v vs 6)) (v_iv (n_v vs 23)) (w_fi ws (n_v vs 0) 8) (w_ei ws (w_ar ws (n_v vs 0) 2)) (w_fi ws (n_v vs 0) 5) k6 k23 g2 f11 f26 kz_0_8
  have nf7 : fc_1 PRD (20, [4], [60, 1, 3, 199, 5, 2, 3, 4]) ws (vs ++ [Value.int x, Value.int y, Value.int u]) := by
    refine ⟨nf_inA hl rfl, sgq_980 ?_⟩
    · show RWS (w_fi ws (n_v (vs ++ [Value.int x, Value.int y, Value.int u]) 4) 5) (w_ei ws (w_ar ws (n_v (vs ++ [Value.int x, Value.int y, Value.int u]) 4) 2)) (w_ei ws (w_ar ws (n_v (vs ++ [Value.int x, Value.int y, Value.int u]) 4) 3)) (w_ei ws (w_ar ws (n_v (vs ++ [Value.int x, Value.int y, Value.int u]) 4) 4))
      simp only [e_4, q4]
      exact vc_Mo_edgeItem_20_7 (w_ei ws (w_ar ws (n_v vs 0) 2)) (w_fi ws (n_v vs 0) 5) (w_ei ws (w_ar ws (n_v vs 0) 3)) (w_ei ws (w_ar ws (n_v vs 0) 4)) f28
  have nf8 : fc_1 PRD (20, [4, 6, 22], [60, 1, 1, 203, 5, 2]) ws (vs ++ [Value.int x, Value.int y, Value.int u]) := by
    refine ⟨nf_inA hl rfl, sgq_1008 ?_⟩
    · show NWE (w_fi ws (n_v (vs ++ [Value.int x, Value.int y, Value.int u]) 4) 5) (w_ei ws (w_ar ws (n_v (vs ++ [Value.int x, Value.int y, Value.int u]) 4) 2)) (v_iv (n_v (vs ++ [Value.int x, Value.int y, Value.int u]) 6)) (v_iv (n_v (vs ++ [Value.int x, Value.int y, Value.int u]) 22))
      simp only [e_4, e_6, e_22, q4]
      exact vc_Mo_edgeItem_20_8 (v_iv (n_v vs 6)) (v_iv (n_v vs 22)) (v_iv (n_v vs 23)) (w_fi ws (n_v vs 0) 8) (w_ei ws (w_ar ws (n_v vs 0) 2)) (w_fi ws (n_v vs 0) 5) k6 k22 k23 g2 f11 f29 kz_0_8
  have nf9 : fc_1 PRD (20, [24, 4], [50, 1, 1, 1005, 1002, 0, 6, 4, 2, 1, 0, 0, 1, 3, 1, 2, 4, 3, 2, 1, 5, 0, 2]) ws (vs ++ [Value.int x, Value.int y, Value.int u]) := by
    refine ⟨nf_inA hl rfl, sgq_1009 ?_⟩
    · show (v_iv (n_v (vs ++ [Value.int x, Value.int y, Value.int u]) 24) + 1) ≤ w_ei ws (w_ar ws (n_v (vs ++ [Value.int x, Value.int y, Value.int u]) 4) 2) ((w_fi ws (n_v (vs ++ [Value.int x, Value.int y, Value.int u]) 4) 5 + 2))
      simp only [e_4, e_24, q4]
      exact vc_Mo_edgeItem_20_9 (v_iv (n_v vs 1)) (v_iv (n_v vs 5)) (w_ei ws (w_ar ws (n_v vs 0) 2)) (w_fi ws (n_v vs 0) 5) (v_iv (Value.int x)) k1 k5 d0 d1 f27 ex2
  have nf10 : fc_1 PRD (20, [4, 22, 26, 6, 15, 24, 25], [60, 8, 2, 994, 10, 11, 12, 13, 14, 15, 8, 5, 1, 2]) ws (vs ++ [Value.int x, Value.int y, Value.int u]) := by
    refine ⟨nf_inA hl rfl, sgq_1010 ?_⟩
    · show zRP8 (w_fi ws (n_v (vs ++ [Value.int x, Value.int y, Value.int u]) 4) 10) (w_fi ws (n_v (vs ++ [Value.int x, Value.int y, Value.int u]) 4) 11) (w_fi ws (n_v (vs ++ [Value.int x, Value.int y, Value.int u]) 4) 12) (w_fi ws (n_v (vs ++ [Value.int x, Value.int y, Value.int u]) 4) 13) (w_fi ws (n_v (vs ++ [Value.int x, Value.int y, Value.int u]) 4) 14) (w_fi ws (n_v (vs ++ [Value.int x, Value.int y, Value.int u]) 4) 15) (w_fi ws (n_v (vs ++ [Value.int x, Value.int y, Value.int u]) 4) 8) (w_fi ws (n_v (vs ++ [Value.int x, Value.int y, Value.int u]) 4) 5) (w_ei ws (w_ar ws (n_v (vs ++ [Value.int x, Value.int y, Value.int u]) 4) 1)) (w_ei ws (w_ar ws (n_v (vs ++ [Value.int x, Value.int y, Value.int u]) 4) 2)) (v_iv (n_v (vs ++ [Value.int x, Value.int y, Value.int u]) 22)) (v_iv (n_v (vs ++ [Value.int x, Value.int y, Value.int u]) 26)) (v_iv (n_v (vs ++ [Value.int x, Value.int y, Value.int u]) 6)) (v_iv (n_v (vs ++ [Value.int x, Value.int y, Value.int u]) 15)) (v_iv (n_v (vs ++ [Value.int x, Value.int y, Value.int u]) 24)) (v_iv (n_v (vs ++ [Value.int x, Value.int y, Value.int u]) 25))
      simp only [e_4, e_6, e_15, e_22, e_24, e_25, e_26, q4]
      exact vc_Mo_edgeItem_20_10 (v_iv (n_v vs 1)) (v_iv (n_v vs 2)) (v_iv (n_v vs 3)) (v_iv (n_v vs 6)) (v_iv (n_v vs 7)) (v_iv (n_v vs 15)) (v_iv (n_v vs 17)) (v_iv (n_v vs 19)) (v_iv (n_v vs 20)) (v_iv (n_v vs 21)) (v_iv (n_v vs 22)) (v_iv (n_v vs 23)) (w_fi ws (n_v vs 0) 8) (w_fi ws (n_v vs 0) 15) (w_fi ws (n_v vs 0) 11) (w_fi ws (n_v vs 0) 12) (w_ei ws (w_ar ws (n_v vs 0) 2)) (w_fi ws (n_v vs 0) 5) (w_ei ws (w_ar ws (n_v vs 0) 1)) (w_fi ws (n_v vs 0) 10) (w_fi ws (n_v vs 0) 13) (w_fi ws (n_v vs 0) 14) (w_fi ws (n_v vs 0) 9) (v_iv (Value.int x)) (v_iv (Value.int y)) (v_iv (Value.int u)) k1 k2 k3 k6 k7 k15 k17 k19 k20 k21 k22 k23 f1 g2 f3 f4 f5 f6 f7 f8 f10 f30 kz_0_8 kz_0_9 kz_0_10 kz_0_11 kz_0_12 kz_0_13 kz_0_14 kz_0_15 ex2 ey2 eu2
  have nf11 : fc_1 PRD (20, [2, 4], [30, -1, 1, 0, 0, -1, 1, 11]) ws (vs ++ [Value.int x, Value.int y, Value.int u]) := by
    refine ⟨nf_inA hl rfl, sgq_2005 ?_⟩
    · show 1 * v_iv (n_v (vs ++ [Value.int x, Value.int y, Value.int u]) 2) + ((-1) * w_fi ws (n_v (vs ++ [Value.int x, Value.int y, Value.int u]) 4) 11 + 0) ≤ (-1)
      simp only [e_2, e_4, q4]
      exact vc_Mo_edgeItem_20_11 (v_iv (n_v vs 2)) (v_iv (n_v vs 6)) (v_iv (n_v vs 17)) (v_iv (n_v vs 18)) (v_iv (n_v vs 22)) (v_iv (n_v vs 23)) (w_fi ws (n_v vs 0) 8) (w_fi ws (n_v vs 0) 11) (w_ei ws (w_ar ws (n_v vs 0) 2)) (w_fi ws (n_v vs 0) 5) k2 k6 k17 k18 k22 k23 g2 f3 f4 f11 f13 f22 f24 f25 f26 kz_0_8 kz_0_11
  have nf12 : fc_1 PRD (20, [8, 4], [30, -2001, -1, 0, 0, -1, 1, 11]) ws (vs ++ [Value.int x, Value.int y, Value.int u]) := by
    refine ⟨nf_inA hl rfl, sgq_2013 ?_⟩
    · show (-1) * v_iv (n_v (vs ++ [Value.int x, Value.int y, Value.int u]) 8) + ((-1) * w_fi ws (n_v (vs ++ [Value.int x, Value.int y, Value.int u]) 4) 11 + 0) ≤ (-2001)
      simp only [e_4, e_8, q4]
      exact vc_Mo_edgeItem_20_12 (v_iv (n_v vs 6)) (v_iv (n_v vs 8)) (v_iv (n_v vs 18)) (v_iv (n_v vs 22)) (v_iv (n_v vs 23)) (w_fi ws (n_v vs 0) 8) (w_fi ws (n_v vs 0) 11) (w_ei ws (w_ar ws (n_v vs 0) 2)) (w_fi ws (n_v vs 0) 5) k6 k8 k18 k22 k23 g2 f11 f12 f24 f25 f26 kz_0_8 kz_0_11
  have rf22 : tv_ok ta (0, 0, 23, []) (n_v vs 22) := tv_in t22 (by first | omega | grind) (by first | omega | grind)
  have rf6 : tv_ok ta (0, 0, 23, []) (n_v vs 6) := tv_in t6 (by first | omega | grind) (by first | omega | grind)
  exact ⟨List.forall_mem_cons.mpr ⟨rf22, List.forall_mem_cons.mpr ⟨rf6, (fun _ h => (by cases h))⟩⟩, [Value.int x, Value.int y, Value.int u], ag_three hx hy hu, List.forall_mem_cons.mpr ⟨⟨show (23 : Nat) < 100 from by decide, nf0⟩, List.forall_mem_cons.mpr ⟨⟨show (23 : Nat) < 100 from by decide, nf1⟩, List.forall_mem_cons.mpr ⟨⟨show (23 : Nat) < 100 from by decide, nf2⟩, List.forall_mem_cons.mpr ⟨⟨show (23 : Nat) < 100 from by decide, nf3⟩, List.forall_mem_cons.mpr ⟨⟨show (23 : Nat) < 100 from by decide, nf4⟩, List.forall_mem_cons.mpr ⟨⟨show (23 : Nat) < 100 from by decide, nf5⟩, List.forall_mem_cons.mpr ⟨⟨show (20 : Nat) < 100 from by decide, nf6⟩, List.forall_mem_cons.mpr ⟨⟨show (20 : Nat) < 100 from by decide, nf7⟩, List.forall_mem_cons.mpr ⟨⟨show (20 : Nat) < 100 from by decide, nf8⟩, List.forall_mem_cons.mpr ⟨⟨show (20 : Nat) < 100 from by decide, nf9⟩, List.forall_mem_cons.mpr ⟨⟨show (20 : Nat) < 100 from by decide, nf10⟩, List.forall_mem_cons.mpr ⟨⟨show (20 : Nat) < 100 from by decide, nf11⟩, List.forall_mem_cons.mpr ⟨⟨show (20 : Nat) < 100 from by decide, nf12⟩, (fun _ h => (by cases h))⟩⟩⟩⟩⟩⟩⟩⟩⟩⟩⟩⟩⟩, (fun _ h => (by cases h))⟩
set_option maxHeartbeats 4000000 in
theorem vc_Mo_edgeItem_21_0 (from_0 : Int) (pos_0 : Int) (r_0 : Int) (f19 : 1 * from_0 + ((-1) * pos_0 + 0) ≤ 0) (kz_0_11 : 0 ≤ pos_0 ∧ pos_0 ≤ 2000) (kz_0_15 : 0 ≤ from_0 ∧ from_0 ≤ 2000) : 1 * from_0 + ((-1) * pos_0 + 0) ≤ 0 := by
  first
    | omega
    | (have q1 := (hE_0_2_1 (r_0 + 2) (by omega)).2 (by omega)
       have q2 := (hE_0_2_2 (r_0 + 2) (by omega)).2 (by omega)
       omega)
    | (have q1 := (hE_0_2_1 (r_0 + 1) (by omega)).2 (by omega)
       have q2 := (hE_0_2_2 (r_0 + 1) (by omega)).2 (by omega)
       omega)
    | (have q1 := (hE_0_2_1 (r_0 + 2) (by omega)).2 (by omega)
       omega)
    | (have q1 := (hE_0_2_1 (r_0 + 1) (by omega)).2 (by omega)
       omega)
    | (have q1 := (hE_0_2_1 (r_0 + 2) (by omega)).2 (by omega)
       have q2 := (hE_0_2_2 (r_0 + 2) (by omega)).2 (by omega)
       have q3 := (hE_0_2_3 (r_0 + 2) (by omega)).1 (by omega)
       omega)
    | (have q1 := (hE_0_2_1 (r_0 + 2) (by omega)).2 (by omega)
       have q2 := (hE_0_2_2 (r_0 + 2) (by omega)).2 (by omega)
       have q3 := (hE_0_2_3 (r_0 + 2) (by omega)).2 (by omega)
       omega)
set_option maxHeartbeats 4000000 in
theorem vc_Mo_edgeItem_21_1 (from_0 : Int) (pos_0 : Int) (kind_0 : Int) (r_0 : Int) (f20 : ((kind_0 = 1) → (pos_0 ≤ (from_0 + 8))) ∧ ((kind_0 = 0) ∨ ((from_0 + 1) ≤ pos_0))) (kz_0_11 : 0 ≤ pos_0 ∧ pos_0 ≤ 2000) (kz_0_12 : 0 ≤ kind_0 ∧ kind_0 ≤ 4) (kz_0_15 : 0 ≤ from_0 ∧ from_0 ≤ 2000) : ((kind_0 = 1) → (pos_0 ≤ (from_0 + 8))) ∧ ((kind_0 = 0) ∨ ((from_0 + 1) ≤ pos_0)) := by
  first
    | omega
    | (have q1 := (hE_0_2_1 (r_0 + 2) (by omega)).2 (by omega)
       have q2 := (hE_0_2_2 (r_0 + 2) (by omega)).2 (by omega)
       omega)
    | (have q1 := (hE_0_2_1 (r_0 + 1) (by omega)).2 (by omega)
       have q2 := (hE_0_2_2 (r_0 + 1) (by omega)).2 (by omega)
       omega)
    | (have q1 := (hE_0_2_1 (r_0 + 2) (by omega)).2 (by omega)
       omega)
    | (have q1 := (hE_0_2_1 (r_0 + 1) (by omega)).2 (by omega)
       omega)
    | (have q1 := (hE_0_2_1 (r_0 + 2) (by omega)).2 (by omega)
       have q2 := (hE_0_2_2 (r_0 + 2) (by omega)).2 (by omega)
       have q3 := (hE_0_2_3 (r_0 + 2) (by omega)).1 (by omega)
       omega)
    | (have q1 := (hE_0_2_1 (r_0 + 2) (by omega)).2 (by omega)
       have q2 := (hE_0_2_2 (r_0 + 2) (by omega)).2 (by omega)
       have q3 := (hE_0_2_3 (r_0 + 2) (by omega)).2 (by omega)
       omega)
set_option maxHeartbeats 4000000 in
theorem vc_Mo_edgeItem_21_2 (x2 : Int) (x17 : Int) (pos_0 : Int) (r_0 : Int) (k2 : 0 ≤ x2 ∧ x2 ≤ 2000) (k17 : 0 ≤ x17 ∧ x17 ≤ 2000) (f2 : 1 * x17 + ((-1) * x2 + 0) ≤ 0) (f3 : (-1) * x17 + (1 * x2 + 0) ≤ 0) (f21 : 1 * x17 + ((-1) * pos_0 + 0) ≤ 0) (kz_0_11 : 0 ≤ pos_0 ∧ pos_0 ≤ 2000) : 1 * x2 + ((-1) * pos_0 + 0) ≤ 0 := by
  first
    | omega
    | (have q1 := (hE_0_2_1 (r_0 + 2) (by omega)).2 (by omega)
       have q2 := (hE_0_2_2 (r_0 + 2) (by omega)).2 (by omega)
       omega)
    | (have q1 := (hE_0_2_1 (r_0 + 1) (by omega)).2 (by omega)
       have q2 := (hE_0_2_2 (r_0 + 1) (by omega)).2 (by omega)
       omega)
    | (have q1 := (hE_0_2_1 (r_0 + 2) (by omega)).2 (by omega)
       omega)
    | (have q1 := (hE_0_2_1 (r_0 + 1) (by omega)).2 (by omega)
       omega)
    | (have q1 := (hE_0_2_1 (r_0 + 2) (by omega)).2 (by omega)
       have q2 := (hE_0_2_2 (r_0 + 2) (by omega)).2 (by omega)
       have q3 := (hE_0_2_3 (r_0 + 2) (by omega)).1 (by omega)
       omega)
    | (have q1 := (hE_0_2_1 (r_0 + 2) (by omega)).2 (by omega)
       have q2 := (hE_0_2_2 (r_0 + 2) (by omega)).2 (by omega)
       have q3 := (hE_0_2_3 (r_0 + 2) (by omega)).2 (by omega)
       omega)
set_option maxHeartbeats 4000000 in
theorem vc_Mo_edgeItem_21_3 (x2 : Int) (x23 : Int) (fault_0 : Int) (pos_0 : Int) (r_0 : Int) (k2 : 0 ≤ x2 ∧ x2 ≤ 2000) (k23 : 1 ≤ x23 ∧ x23 ≤ 5) (g1 : x23 = fault_0) (kz_0_8 : 0 ≤ fault_0 ∧ fault_0 ≤ 5) (kz_0_11 : 0 ≤ pos_0 ∧ pos_0 ≤ 2000) : (1 ≤ fault_0) ∨ ((x2 + 1) ≤ pos_0) := by
  first
    | omega
    | (have q1 := (hE_0_2_1 (r_0 + 2) (by omega)).2 (by omega)
       have q2 := (hE_0_2_2 (r_0 + 2) (by omega)).2 (by omega)
       omega)
    | (have q1 := (hE_0_2_1 (r_0 + 1) (by omega)).2 (by omega)
       have q2 := (hE_0_2_2 (r_0 + 1) (by omega)).2 (by omega)
       omega)
    | (have q1 := (hE_0_2_1 (r_0 + 2) (by omega)).2 (by omega)
       omega)
    | (have q1 := (hE_0_2_1 (r_0 + 1) (by omega)).2 (by omega)
       omega)
    | (have q1 := (hE_0_2_1 (r_0 + 2) (by omega)).2 (by omega)
       have q2 := (hE_0_2_2 (r_0 + 2) (by omega)).2 (by omega)
       have q3 := (hE_0_2_3 (r_0 + 2) (by omega)).1 (by omega)
       omega)
    | (have q1 := (hE_0_2_1 (r_0 + 2) (by omega)).2 (by omega)
       have q2 := (hE_0_2_2 (r_0 + 2) (by omega)).2 (by omega)
       have q3 := (hE_0_2_3 (r_0 + 2) (by omega)).2 (by omega)
       omega)
set_option maxHeartbeats 4000000 in
theorem vc_Mo_edgeItem_21_4 (x1 : Int) (all_0 : Int → Int) (r_0 : Int) (k1 : 0 ≤ x1 ∧ x1 ≤ 7) (f26 : (x1 + 1) ≤ all_0 ((r_0 + 2))) : (x1 + 1) ≤ all_0 ((r_0 + 2)) := by
  first
    | omega
    | (have q1 := (hE_0_2_1 (r_0 + 2) (by omega)).2 (by omega)
       have q2 := (hE_0_2_2 (r_0 + 2) (by omega)).2 (by omega)
       omega)
    | (have q1 := (hE_0_2_1 (r_0 + 1) (by omega)).2 (by omega)
       have q2 := (hE_0_2_2 (r_0 + 1) (by omega)).2 (by omega)
       omega)
    | (have q1 := (hE_0_2_1 (r_0 + 2) (by omega)).2 (by omega)
       omega)
    | (have q1 := (hE_0_2_1 (r_0 + 1) (by omega)).2 (by omega)
       omega)
    | (have q1 := (hE_0_2_1 (r_0 + 2) (by omega)).2 (by omega)
       have q2 := (hE_0_2_2 (r_0 + 2) (by omega)).2 (by omega)
       have q3 := (hE_0_2_3 (r_0 + 2) (by omega)).1 (by omega)
       omega)
    | (have q1 := (hE_0_2_1 (r_0 + 2) (by omega)).2 (by omega)
       have q2 := (hE_0_2_2 (r_0 + 2) (by omega)).2 (by omega)
       have q3 := (hE_0_2_3 (r_0 + 2) (by omega)).2 (by omega)
       omega)
set_option maxHeartbeats 4000000 in
theorem vc_Mo_edgeItem_21_5 (all_0 : Int → Int) (r_0 : Int) (now_0 : Int → Int) (latest_0 : Int → Int) (f27 : RWS (r_0) (all_0) (now_0) (latest_0)) : RWS (r_0) (all_0) (now_0) (latest_0) := by
  first
    | assumption
set_option maxHeartbeats 4000000 in
theorem vc_Mo_edgeItem_21_6 (x1 : Int) (x2 : Int) (x3 : Int) (x6 : Int) (x7 : Int) (x15 : Int) (x17 : Int) (x19 : Int) (x20 : Int) (x21 : Int) (x22 : Int) (x23 : Int) (fault_0 : Int) (from_0 : Int) (pos_0 : Int) (kind_0 : Int) (all_0 : Int → Int) (r_0 : Int) (tape_0 : Int → Int) (limit_0 : Int) (place_0 : Int) (value_0 : Int) (faultPlace_0 : Int) (k1 : 0 ≤ x1 ∧ x1 ≤ 7) (k2 : 0 ≤ x2 ∧ x2 ≤ 2000) (k3 : 0 ≤ x3 ∧ x3 ≤ 4) (k6 : (-1) ≤ x6 ∧ x6 ≤ 23) (k7 : 0 ≤ x7 ∧ x7 ≤ 48) (k15 : 1 ≤ x15 ∧ x15 ≤ 1) (k17 : 0 ≤ x17 ∧ x17 ≤ 2000) (k19 : 0 ≤ x19 ∧ x19 ≤ 4) (k20 : 0 ≤ x20 ∧ x20 ≤ 48) (k21 : 0 ≤ x21 ∧ x21 ≤ 1) (k22 : (-1) ≤ x22 ∧ x22 ≤ 23) (k23 : 1 ≤ x23 ∧ x23 ≤ 5) (g1 : x23 = fault_0) (f2 : 1 * x17 + ((-1) * x2 + 0) ≤ 0) (f3 : (-1) * x17 + (1 * x2 + 0) ≤ 0) (f4 : 1 * x19 + ((-1) * x3 + 0) ≤ 0) (f5 : (-1) * x19 + (1 * x3 + 0) ≤ 0) (f6 : 1 * x20 + ((-1) * x7 + 0) ≤ 0) (f7 : (-1) * x20 + (1 * x7 + 0) ≤ 0) (f9 : (-1) * x21 + (1 * x15 + 0) ≤ 0) (f29 : zOP8 (limit_0) (pos_0) (kind_0) (place_0) (value_0) (from_0) (fault_0) (faultPlace_0) (r_0) (tape_0) (all_0) (x22) (x20) (x6) (x21) (x1) (x19)) (kz_0_8 : 0 ≤ fault_0 ∧ fault_0 ≤ 5) (kz_0_9 : 0 ≤ faultPlace_0 ∧ faultPlace_0 ≤ 2000) (kz_0_10 : 0 ≤ limit_0 ∧ limit_0 ≤ 2000) (kz_0_11 : 0 ≤ pos_0 ∧ pos_0 ≤ 2000) (kz_0_12 : 0 ≤ kind_0 ∧ kind_0 ≤ 4) (kz_0_13 : 0 ≤ place_0 ∧ place_0 ≤ 2000) (kz_0_14 : (-49) ≤ value_0 ∧ value_0 ≤ 1048575) (kz_0_15 : 0 ≤ from_0 ∧ from_0 ≤ 2000) : zOS0 (limit_0) (pos_0) (kind_0) (place_0) (value_0) (from_0) (fault_0) (faultPlace_0) (r_0) (tape_0) (all_0) (x1) (x3) := by
  first | (have el_x17 : x17 = x2 := by omega); subst el_x17 | skip
  first | (have el_x19 : x19 = x3 := by omega); subst el_x19 | skip
  first | (have el_x20 : x20 = x7 := by omega); subst el_x20 | skip
  first | (have el_x21 : x21 = x15 := by omega); subst el_x21 | skip
  first | subst g1 | skip
  first
    | assumption
    | exact ed_back ‹zOP8 _ _ _ _ _ _ _ _ _ _ _ _ _ _ _ _ _› (by omega)
def o_Mo_edgeItem_21 : or_T := (99, 24, [(0, (2, 0, 0, [165])), (1, (0, 0, 7, [])), (2, (0, 0, 2000, [])), (3, (0, 0, 4, [])), (4, (2, 0, 0, [165])), (5, (0, 0, 7, [])), (6, (0, -1, 23, [])), (7, (0, 0, 48, [])), (8, (0, 0, 2000, [])), (15, (0, 1, 1, [])), (16, (0, 0, 2000, [])), (17, (0, 0, 2000, [])), (18, (0, 0, 2000, [])), (19, (0, 0, 4, [])), (20, (0, 0, 48, [])), (21, (0, 0, 1, [])), (22, (0, -1, 23, [])), (23, (0, 1, 5, []))], [(8, [23], [4]), (9, [23, 4], [8]), (23, [17, 2], [0, 1, -1]), (23, [17, 2], [0, -1, 1]), (23, [19, 3], [0, 1, -1]), (23, [19, 3], [0, -1, 1]), (23, [20, 7], [0, 1, -1]), (23, [20, 7], [0, -1, 1]), (23, [21, 15], [0, 1, -1]), (23, [21, 15], [0, -1, 1]), (20, [6], [50, 0, 0, 0, 2, 0, 0, 1, 0]), (23, [8, 18], [-2000, -1, -1]), (23, [2, 18], [-1, 1, -1]), (23, [2, 16], [-1, 1, -1]), (23, [8, 16], [-2000, -1, -1]), (20, [2, 16], [30, 0, 1, 0, 0, -1, 0, 0]), (23, [6], [0, -1]), (24, [0, 4], []), (24, [1, 5], []), (20, [4, 4], [30, 0, 1, 1, 15, -1, 1, 11]), (20, [4], [50, 3, 0, 12, 11, 15, 2, 21, 4, 7, 1, 3, 2, 0, 12, 0, 1, 0, 3, 2, 0, 11, 4, 3, 2, 0, 15, 0, 8, 3, 7, 1, 3, 2, 0, 12, 0, 0, 0, 7, 4, 3, 2, 0, 15, 0, 1, 2, 0, 11]), (20, [17, 4], [30, 0, 1, 0, 0, -1, 1, 11]), (20, [4, 17], [50, 3, 0, 8, 12, 11, 3, 7, 0, 2, 0, 1, 2, 0, 8, 3, 7, 1, 3, 2, 0, 12, 0, 0, 0, 6, 4, 2, 1, 1, 0, 1, 2, 0, 11]), (20, [4, 18], [50, 2, 0, 8, 11, 3, 7, 0, 2, 0, 1, 2, 0, 8, 0, 6, 4, 2, 1, 1, 0, 1, 2, 0, 11]), (20, [4, 22], [31, 1, -1, -1, 1, 8, 0, -1, 0, 0]), (20, [4, 6], [50, 2, 1, 8, 5, 2, 3, 7, 0, 2, 0, 1, 2, 0, 8, 3, 6, 0, 2, 1, 1, 0, -1, 0, 10, 3, 0, 2, 4, 3, 2, 0, 5, 0, 1, 0, 47]), (20, [5, 4], [50, 1, 1, 1005, 1002, 0, 6, 4, 2, 1, 0, 0, 1, 3, 1, 2, 4, 3, 2, 1, 5, 0, 2]), (20, [4], [60, 1, 3, 199, 5, 2, 3, 4]), (20, [4, 6, 22], [60, 2, 1, 240, 5, 8, 2]), (20, [4, 22, 20, 6, 21, 5, 19], [60, 9, 2, 1011, 10, 11, 12, 13, 14, 15, 8, 9, 5, 1, 2]), (102, [21], [187072209578355573530071658587684226515959365500928, 165008, 165009, 165011, 165012, 165013, 165014, 165015]), (23, [17, 2], [0, 1, -1]), (23, [17, 2], [0, -1, 1]), (23, [19, 3], [0, 1, -1]), (23, [19, 3], [0, -1, 1]), (23, [20, 7], [0, 1, -1]), (23, [20, 7], [0, -1, 1]), (23, [21, 15], [0, 1, -1]), (23, [21, 15], [0, -1, 1]), (23, [8, 18], [-2000, -1, -1]), (23, [2, 18], [-1, 1, -1]), (23, [2, 16], [-1, 1, -1]), (23, [8, 16], [-2000, -1, -1]), (23, [6], [0, -1]), (102, [16], [0, 165011, 165012, 165013, 165014, 165015]), (23, [2, 16], [-1, 1, -1]), (23, [8, 16], [-2000, -1, -1]), (23, [6], [0, -1])], [], [], [(20, [0, 0], [30, 0, 1, 1, 15, -1, 1, 11]), (20, [0], [50, 3, 0, 12, 11, 15, 2, 21, 4, 7, 1, 3, 2, 0, 12, 0, 1, 0, 3, 2, 0, 11, 4, 3, 2, 0, 15, 0, 8, 3, 7, 1, 3, 2, 0, 12, 0, 0, 0, 7, 4, 3, 2, 0, 15, 0, 1, 2, 0, 11]), (20, [2, 0], [30, 0, 1, 0, 0, -1, 1, 11]), (20, [0, 2], [50, 2, 0, 8, 11, 3, 7, 0, 2, 0, 1, 2, 0, 8, 0, 6, 4, 2, 1, 1, 0, 1, 2, 0, 11]), (20, [1, 0], [50, 1, 1, 1005, 1002, 0, 6, 4, 2, 1, 0, 0, 1, 3, 1, 2, 4, 3, 2, 1, 5, 0, 2]), (20, [0], [60, 1, 3, 199, 5, 2, 3, 4]), (20, [0, 1, 3], [60, 9, 2, 1007, 10, 11, 12, 13, 14, 15, 8, 9, 5, 1, 2])], [], [(1, 5, -4294967296, 0), (5, 1, -4294967296, 0)])
theorem oo_Mo_edgeItem_21 {kA : Nat → ClassId} : or_ok PRD kA GG o_Mo_edgeItem_21 := by
  refine or_mk fun A ta ws vs hD hth hl => ?_
  intro t0 r0 t1 k1 t2 k2 t3 k3 t4 r4 t5 k5 t6 k6 t7 k7 t8 k8 t15 k15 t16 k16 t17 k17 t18 k18 t19 k19 t20 k20 t21 k21 t22 k22 t23 k23 d0 d1 f0 f1 f2 f3 f4 f5 f6 f7 f8 f9 f10 f11 f12 f13 f14 f15 f16 f17 f18 f19 f20 f21 f22 f23 f24 f25 f26 f27 f28 f29 ta1 w1 le1 s1 f31 f32 f33 f34 f35 f36 f37 f38 f39 f40 f41 f42 f43 ta2 w2 le2 s2 f45 f46 f47
  replace f1 := shm_293 f1
  replace f17 := shm_5 f17
  replace f18 := shm_5 f18
  replace f19 := shm_1437 f19
  replace f20 := shm_1438 f20
  replace f21 := shm_1431 f21
  replace f26 := shm_1009 f26
  replace f27 := shm_980 f27
  replace f29 := shm_2128 f29
  have q4 : n_v vs 4 = n_v vs 0 := f17.symm
  have q5 : n_v vs 5 = n_v vs 1 := f18.symm
  simp only [q4, q5] at f1 f19 f20 f21 f26 f27 f29
  have g1 : v_iv (n_v vs 23) = w_fi ws (n_v vs 0) 8 := congrArg v_iv f1
  have kz_0_8 := fdq_34 hD hth r0
  have kz_0_9 := fdq_44 hD hth r0
  have kz_0_10 := fdq_43 hD hth r0
  have kz_0_11 := fdq_237 hD hth r0
  have kz_0_12 := fdq_187 hD hth r0
  have kz_0_13 := fdq_238 hD hth r0
  have kz_0_14 := fdq_188 hD hth r0
  have kz_0_15 := fdq_239 hD hth r0
  have nf0 : fc_1 PRD (20, [0, 0], [30, 0, 1, 1, 15, -1, 1, 11]) ws (vs) := ⟨nf_in hl rfl, sgq_1437 (vc_Mo_edgeItem_21_0 (w_fi ws (n_v vs 0) 15) (w_fi ws (n_v vs 0) 11) (w_fi ws (n_v vs 0) 5) f19 kz_0_11 kz_0_15)⟩
  have nf1 : fc_1 PRD (20, [0], [50, 3, 0, 12, 11, 15, 2, 21, 4, 7, 1, 3, 2, 0, 12, 0, 1, 0, 3, 2, 0, 11, 4, 3, 2, 0, 15, 0, 8, 3, 7, 1, 3, 2, 0, 12, 0, 0, 0, 7, 4, 3, 2, 0, 15, 0, 1, 2, 0, 11]) ws (vs) := ⟨nf_in hl rfl, sgq_1438 (vc_Mo_edgeItem_21_1 (w_fi ws (n_v vs 0) 15) (w_fi ws (n_v vs 0) 11) (w_fi ws (n_v vs 0) 12) (w_fi ws (n_v vs 0) 5) f20 kz_0_11 kz_0_12 kz_0_15)⟩
  have nf2 : fc_1 PRD (20, [2, 0], [30, 0, 1, 0, 0, -1, 1, 11]) ws (vs) := ⟨nf_in hl rfl, sgq_1431 (vc_Mo_edgeItem_21_2 (v_iv (n_v vs 2)) (v_iv (n_v vs 17)) (w_fi ws (n_v vs 0) 11) (w_fi ws (n_v vs 0) 5) k2 k17 (shm_7 f2) (shm_22 f3) f21 kz_0_11)⟩
  have nf3 : fc_1 PRD (20, [0, 2], [50, 2, 0, 8, 11, 3, 7, 0, 2, 0, 1, 2, 0, 8, 0, 6, 4, 2, 1, 1, 0, 1, 2, 0, 11]) ws (vs) := ⟨nf_in hl rfl, sgq_1726 (vc_Mo_edgeItem_21_3 (v_iv (n_v vs 2)) (v_iv (n_v vs 23)) (w_fi ws (n_v vs 0) 8) (w_fi ws (n_v vs 0) 11) (w_fi ws (n_v vs 0) 5) k2 k23 g1 kz_0_8 kz_0_11)⟩
  have nf4 : fc_1 PRD (20, [1, 0], [50, 1, 1, 1005, 1002, 0, 6, 4, 2, 1, 0, 0, 1, 3, 1, 2, 4, 3, 2, 1, 5, 0, 2]) ws (vs) := ⟨nf_in hl rfl, sgq_1009 (vc_Mo_edgeItem_21_4 (v_iv (n_v vs 1)) (w_ei ws (w_ar ws (n_v vs 0) 2)) (w_fi ws (n_v vs 0) 5) k1 f26)⟩
  have nf5 : fc_1 PRD (20, [0], [60, 1, 3, 199, 5, 2, 3, 4]) ws (vs) := ⟨nf_in hl rfl, sgq_980 (vc_Mo_edgeItem_21_5 (w_ei ws (w_ar ws (n_v vs 0) 2)) (w_fi ws (n_v vs 0) 5) (w_ei ws (w_ar ws (n_v vs 0) 3)) (w_ei ws (w_ar ws (n_v vs 0) 4)) f27)⟩
  have nf6 : fc_1 PRD (20, [0, 1, 3], [60, 9, 2, 1007, 10, 11, 12, 13, 14, 15, 8, 9, 5, 1, 2]) ws (vs) := ⟨nf_in hl rfl, sgq_1727 (vc_Mo_edgeItem_21_6 (v_iv (n_v vs 1)) (v_iv (n_v vs 2)) (v_iv (n_v vs 3)) (v_iv (n_v vs 6)) (v_iv (n_v vs 7)) (v_iv (n_v vs 15)) (v_iv (n_v vs 17)) (v_iv (n_v vs 19)) (v_iv (n_v vs 20)) (v_iv (n_v vs 21)) (v_iv (n_v vs 22)) (v_iv (n_v vs 23)) (w_fi ws (n_v vs 0) 8) (w_fi ws (n_v vs 0) 15) (w_fi ws (n_v vs 0) 11) (w_fi ws (n_v vs 0) 12) (w_ei ws (w_ar ws (n_v vs 0) 2)) (w_fi ws (n_v vs 0) 5) (w_ei ws (w_ar ws (n_v vs 0) 1)) (w_fi ws (n_v vs 0) 10) (w_fi ws (n_v vs 0) 13) (w_fi ws (n_v vs 0) 14) (w_fi ws (n_v vs 0) 9) k1 k2 k3 k6 k7 k15 k17 k19 k20 k21 k22 k23 g1 (shm_7 f2) (shm_22 f3) (shm_7 f4) (shm_22 f5) (shm_7 f6) (shm_22 f7) (shm_22 f9) f29 kz_0_8 kz_0_9 kz_0_10 kz_0_11 kz_0_12 kz_0_13 kz_0_14 kz_0_15)⟩
  refine ⟨(fun _ h => (by cases h)), [], trivial, ?_, (fun _ h => (by cases h))⟩
  rw [List.append_nil]
  exact List.forall_mem_cons.mpr ⟨⟨show (20 : Nat) < 100 from by decide, nf0⟩, List.forall_mem_cons.mpr ⟨⟨show (20 : Nat) < 100 from by decide, nf1⟩, List.forall_mem_cons.mpr ⟨⟨show (20 : Nat) < 100 from by decide, nf2⟩, List.forall_mem_cons.mpr ⟨⟨show (20 : Nat) < 100 from by decide, nf3⟩, List.forall_mem_cons.mpr ⟨⟨show (20 : Nat) < 100 from by decide, nf4⟩, List.forall_mem_cons.mpr ⟨⟨show (20 : Nat) < 100 from by decide, nf5⟩, List.forall_mem_cons.mpr ⟨⟨show (20 : Nat) < 100 from by decide, nf6⟩, (fun _ h => (by cases h))⟩⟩⟩⟩⟩⟩⟩
set_option maxHeartbeats 4000000 in
theorem vc_Mo_edgeItem_22_0 (x2 : Int) (x6 : Int) (x10 : Int) (kind_0 : Int) (fault_0 : Int) (r_0 : Int) (from_0 : Int) (pos_0 : Int) (k2 : 0 ≤ x2 ∧ x2 ≤ 2000) (k6 : (-1) ≤ x6 ∧ x6 ≤ 23) (k10 : 1 ≤ x10 ∧ x10 ≤ 1) (f3 : (x10 = 1) → ((kind_0 = 3) ∧ (fault_0 = 0))) (f7 : ((kind_0 = 1) → (pos_0 ≤ (from_0 + 8))) ∧ ((kind_0 = 0) ∨ ((from_0 + 1) ≤ pos_0))) (f9 : (1 ≤ fault_0) ∨ ((kind_0 = 0) ∨ ((x2 + 1) ≤ pos_0))) (f10 : ((-1) * fault_0 + 0 ≤ (-1)) ∨ ((-1) * x6 + 0 ≤ 0)) (kz_0_8 : 0 ≤ fault_0 ∧ fault_0 ≤ 5) (kz_0_11 : 0 ≤ pos_0 ∧ pos_0 ≤ 2000) (kz_0_12 : 0 ≤ kind_0 ∧ kind_0 ≤ 4) (kz_0_15 : 0 ≤ from_0 ∧ from_0 ≤ 2000) : (-1) * x6 + 0 ≤ 0 := by
  first
    | omega
    | (have q1 := (hE_0_2_1 (r_0 + 2) (by omega)).2 (by omega)
       have q2 := (hE_0_2_2 (r_0 + 2) (by omega)).2 (by omega)
       omega)
    | (have q1 := (hE_0_2_1 (r_0 + 1) (by omega)).2 (by omega)
       have q2 := (hE_0_2_2 (r_0 + 1) (by omega)).2 (by omega)
       omega)
    | (have q1 := (hE_0_2_1 (r_0 + 2) (by omega)).2 (by omega)
       omega)
    | (have q1 := (hE_0_2_1 (r_0 + 1) (by omega)).2 (by omega)
       omega)
    | (have q1 := (hE_0_2_1 (r_0 + 2) (by omega)).2 (by omega)
       have q2 := (hE_0_2_2 (r_0 + 2) (by omega)).2 (by omega)
       have q3 := (hE_0_2_3 (r_0 + 2) (by omega)).1 (by omega)
       omega)
    | (have q1 := (hE_0_2_1 (r_0 + 2) (by omega)).2 (by omega)
       have q2 := (hE_0_2_2 (r_0 + 2) (by omega)).2 (by omega)
       have q3 := (hE_0_2_3 (r_0 + 2) (by omega)).2 (by omega)
       omega)
set_option maxHeartbeats 4000000 in
theorem vc_Mo_edgeItem_22_1 (x2 : Int) (x6 : Int) (x10 : Int) (kind_0 : Int) (fault_0 : Int) (r_0 : Int) (from_0 : Int) (pos_0 : Int) (k2 : 0 ≤ x2 ∧ x2 ≤ 2000) (k6 : (-1) ≤ x6 ∧ x6 ≤ 23) (k10 : 1 ≤ x10 ∧ x10 ≤ 1) (f3 : (x10 = 1) → ((kind_0 = 3) ∧ (fault_0 = 0))) (f7 : ((kind_0 = 1) → (pos_0 ≤ (from_0 + 8))) ∧ ((kind_0 = 0) ∨ ((from_0 + 1) ≤ pos_0))) (f9 : (1 ≤ fault_0) ∨ ((kind_0 = 0) ∨ ((x2 + 1) ≤ pos_0))) (f10 : ((-1) * fault_0 + 0 ≤ (-1)) ∨ ((-1) * x6 + 0 ≤ 0)) (kz_0_8 : 0 ≤ fault_0 ∧ fault_0 ≤ 5) (kz_0_11 : 0 ≤ pos_0 ∧ pos_0 ≤ 2000) (kz_0_12 : 0 ≤ kind_0 ∧ kind_0 ≤ 4) (kz_0_15 : 0 ≤ from_0 ∧ from_0 ≤ 2000) : fault_0 = 0 := by
  first
    | omega
    | (have q1 := (hE_0_2_1 (r_0 + 2) (by omega)).2 (by omega)
       have q2 := (hE_0_2_2 (r_0 + 2) (by omega)).2 (by omega)
       omega)
    | (have q1 := (hE_0_2_1 (r_0 + 1) (by omega)).2 (by omega)
       have q2 := (hE_0_2_2 (r_0 + 1) (by omega)).2 (by omega)
       omega)
    | (have q1 := (hE_0_2_1 (r_0 + 2) (by omega)).2 (by omega)
       omega)
    | (have q1 := (hE_0_2_1 (r_0 + 1) (by omega)).2 (by omega)
       omega)
    | (have q1 := (hE_0_2_1 (r_0 + 2) (by omega)).2 (by omega)
       have q2 := (hE_0_2_2 (r_0 + 2) (by omega)).2 (by omega)
       have q3 := (hE_0_2_3 (r_0 + 2) (by omega)).1 (by omega)
       omega)
    | (have q1 := (hE_0_2_1 (r_0 + 2) (by omega)).2 (by omega)
       have q2 := (hE_0_2_2 (r_0 + 2) (by omega)).2 (by omega)
       have q3 := (hE_0_2_3 (r_0 + 2) (by omega)).2 (by omega)
       omega)
def o_Mo_edgeItem_22 : or_T := (80, 14, [(0, (2, 0, 0, [165])), (1, (0, 0, 7, [])), (2, (0, 0, 2000, [])), (3, (0, 0, 4, [])), (4, (2, 0, 0, [165])), (5, (0, 0, 7, [])), (6, (0, -1, 23, [])), (7, (0, 0, 48, [])), (8, (0, 0, 2000, [])), (9, (0, 45, 45, [])), (10, (0, 1, 1, [])), (11, (0, -49, 1048575, [])), (12, (0, 62, 62, []))], [(7, [11, 12], [1]), (9, [11, 4], [14]), (8, [10], [1]), (20, [10, 4], [50, 2, 0, 1012, 1008, 4, 6, 1, 2, 1, 0, 0, 1, 2, 7, 1, 3, 2, 1, 12, 0, 3, 1, 3, 2, 1, 8, 0, 0]), (20, [4, 9, 10], [60, 3, 0, 963, 8, 12, 14]), (20, [5, 4], [50, 1, 1, 1005, 1002, 0, 6, 4, 2, 1, 0, 0, 1, 3, 1, 2, 4, 3, 2, 1, 5, 0, 2]), (20, [4, 4], [30, 0, 1, 1, 15, -1, 1, 11]), (20, [4], [50, 3, 0, 12, 11, 15, 2, 21, 4, 7, 1, 3, 2, 0, 12, 0, 1, 0, 3, 2, 0, 11, 4, 3, 2, 0, 15, 0, 8, 3, 7, 1, 3, 2, 0, 12, 0, 0, 0, 7, 4, 3, 2, 0, 15, 0, 1, 2, 0, 11]), (20, [2, 4], [30, 0, 1, 0, 0, -1, 1, 11]), (20, [4, 2], [50, 3, 0, 8, 12, 11, 3, 7, 0, 2, 0, 1, 2, 0, 8, 3, 7, 1, 3, 2, 0, 12, 0, 0, 0, 6, 4, 2, 1, 1, 0, 1, 2, 0, 11]), (20, [4, 6], [31, 1, -1, -1, 1, 8, 0, -1, 0, 0]), (20, [4], [60, 1, 3, 199, 5, 2, 3, 4]), (20, [4, 6], [60, 2, 1, 242, 5, 8, 2]), (20, [4, 6, 7, 5, 3], [60, 9, 2, 1012, 10, 11, 12, 13, 14, 15, 8, 9, 5, 1, 2]), (24, [0, 4], []), (24, [1, 5], []), (20, [8, 4], [30, 2000, 1, 0, 0, 1, 1, 11]), (20, [8, 4], [30, -2000, -1, 0, 0, -1, 1, 11])], [], [], [(23, [6], [0, -1]), (20, [4], [50, 1, 0, 8, 1, 3, 2, 0, 8, 0, 0])], [], [(1, 5, -4294967296, 0), (5, 1, -4294967296, 0)])
theorem oo_Mo_edgeItem_22 {kA : Nat → ClassId} : or_ok PRD kA GG o_Mo_edgeItem_22 := by
  refine or_mk fun A ta ws vs hD hth hl => ?_
  intro t0 r0 t1 k1 t2 k2 t3 k3 t4 r4 t5 k5 t6 k6 t7 k7 t8 k8 t9 k9 t10 k10 t11 k11 t12 k12 d0 d1 f0 f1 f2 f3 f4 f5 f6 f7 f8 f9 f10 f11 f12 f13 f14 f15 f16 f17
  replace f3 := shm_730 f3
  replace f7 := shm_1438 f7
  replace f9 := shm_1722 f9
  replace f10 := shm_2117 f10
  replace f14 := shm_5 f14
  have q4 : n_v vs 4 = n_v vs 0 := f14.symm
  simp only [q4] at f3 f7 f9 f10
  have kz_0_8 := fdq_34 hD hth r0
  have kz_0_11 := fdq_237 hD hth r0
  have kz_0_12 := fdq_187 hD hth r0
  have kz_0_15 := fdq_239 hD hth r0
  have nf0 : fc_1 PRD (23, [6], [0, -1]) ws (vs) := ⟨nf_in hl rfl, sgq_1043 (vc_Mo_edgeItem_22_0 (v_iv (n_v vs 2)) (v_iv (n_v vs 6)) (v_iv (n_v vs 10)) (w_fi ws (n_v vs 0) 12) (w_fi ws (n_v vs 0) 8) (w_fi ws (n_v vs 0) 5) (w_fi ws (n_v vs 0) 15) (w_fi ws (n_v vs 0) 11) k2 k6 k10 f3 f7 f9 f10 kz_0_8 kz_0_11 kz_0_12 kz_0_15)⟩
  have nf1 : fc_1 PRD (20, [4], [50, 1, 0, 8, 1, 3, 2, 0, 8, 0, 0]) ws (vs) := by
    refine ⟨nf_in hl rfl, sgq_2156 ?_⟩
    · show w_fi ws (n_v vs 4) 8 = 0
      rw [q4]
      exact vc_Mo_edgeItem_22_1 (v_iv (n_v vs 2)) (v_iv (n_v vs 6)) (v_iv (n_v vs 10)) (w_fi ws (n_v vs 0) 12) (w_fi ws (n_v vs 0) 8) (w_fi ws (n_v vs 0) 5) (w_fi ws (n_v vs 0) 15) (w_fi ws (n_v vs 0) 11) k2 k6 k10 f3 f7 f9 f10 kz_0_8 kz_0_11 kz_0_12 kz_0_15
  refine ⟨(fun _ h => (by cases h)), [], trivial, ?_, (fun _ h => (by cases h))⟩
  rw [List.append_nil]
  exact List.forall_mem_cons.mpr ⟨⟨show (23 : Nat) < 100 from by decide, nf0⟩, List.forall_mem_cons.mpr ⟨⟨show (20 : Nat) < 100 from by decide, nf1⟩, (fun _ h => (by cases h))⟩⟩
set_option maxHeartbeats 4000000 in
theorem vc_Mo_edgeItem_23_0 (r_0 : Int) (pos_0 : Int) (gx : Int) (kz_0_11 : 0 ≤ pos_0 ∧ pos_0 ≤ 2000) (ex2 : gx = pos_0) : 1 * gx + ((-1) * pos_0 + 0) ≤ 0 := by
  first
    | omega
    | (have q1 := (hE_0_2_1 (r_0 + 2) (by omega)).2 (by omega)
       have q2 := (hE_0_2_2 (r_0 + 2) (by omega)).2 (by omega)
       omega)
    | (have q1 := (hE_0_2_1 (r_0 + 1) (by omega)).2 (by omega)
       have q2 := (hE_0_2_2 (r_0 + 1) (by omega)).2 (by omega)
       omega)
    | (have q1 := (hE_0_2_1 (r_0 + 2) (by omega)).2 (by omega)
       omega)
    | (have q1 := (hE_0_2_1 (r_0 + 1) (by omega)).2 (by omega)
       omega)
    | (have q1 := (hE_0_2_1 (r_0 + 2) (by omega)).2 (by omega)
       have q2 := (hE_0_2_2 (r_0 + 2) (by omega)).2 (by omega)
       have q3 := (hE_0_2_3 (r_0 + 2) (by omega)).1 (by omega)
       omega)
    | (have q1 := (hE_0_2_1 (r_0 + 2) (by omega)).2 (by omega)
       have q2 := (hE_0_2_2 (r_0 + 2) (by omega)).2 (by omega)
       have q3 := (hE_0_2_3 (r_0 + 2) (by omega)).2 (by omega)
       omega)
set_option maxHeartbeats 4000000 in
theorem vc_Mo_edgeItem_23_1 (r_0 : Int) (pos_0 : Int) (gx : Int) (kz_0_11 : 0 ≤ pos_0 ∧ pos_0 ≤ 2000) (ex2 : gx = pos_0) : gx = pos_0 := by
  first
    | omega
    | (have q1 := (hE_0_2_1 (r_0 + 2) (by omega)).2 (by omega)
       have q2 := (hE_0_2_2 (r_0 + 2) (by omega)).2 (by omega)
       omega)
    | (have q1 := (hE_0_2_1 (r_0 + 1) (by omega)).2 (by omega)
       have q2 := (hE_0_2_2 (r_0 + 1) (by omega)).2 (by omega)
       omega)
    | (have q1 := (hE_0_2_1 (r_0 + 2) (by omega)).2 (by omega)
       omega)
    | (have q1 := (hE_0_2_1 (r_0 + 1) (by omega)).2 (by omega)
       omega)
    | (have q1 := (hE_0_2_1 (r_0 + 2) (by omega)).2 (by omega)
       have q2 := (hE_0_2_2 (r_0 + 2) (by omega)).2 (by omega)
       have q3 := (hE_0_2_3 (r_0 + 2) (by omega)).1 (by omega)
       omega)
    | (have q1 := (hE_0_2_1 (r_0 + 2) (by omega)).2 (by omega)
       have q2 := (hE_0_2_2 (r_0 + 2) (by omega)).2 (by omega)
       have q3 := (hE_0_2_3 (r_0 + 2) (by omega)).2 (by omega)
       omega)
set_option maxHeartbeats 4000000 in
theorem vc_Mo_edgeItem_23_2 (x1 : Int) (x3 : Int) (x6 : Int) (x7 : Int) (fault_0 : Int) (value_0 : Int) (kind_0 : Int) (all_0 : Int → Int) (r_0 : Int) (from_0 : Int) (pos_0 : Int) (tape_0 : Int → Int) (limit_0 : Int) (place_0 : Int) (faultPlace_0 : Int) (k1 : 0 ≤ x1 ∧ x1 ≤ 7) (k3 : 0 ≤ x3 ∧ x3 ≤ 4) (k6 : (-1) ≤ x6 ∧ x6 ≤ 23) (k7 : 0 ≤ x7 ∧ x7 ≤ 48) (f1 : fault_0 = 0) (f15 : zOSL (limit_0) (pos_0) (kind_0) (place_0) (value_0) (from_0) (fault_0) (faultPlace_0) (r_0) (tape_0) (all_0) (x6) (x7) (x1) (x3)) (kz_0_8 : 0 ≤ fault_0 ∧ fault_0 ≤ 5) (kz_0_9 : 0 ≤ faultPlace_0 ∧ faultPlace_0 ≤ 2000) (kz_0_10 : 0 ≤ limit_0 ∧ limit_0 ≤ 2000) (kz_0_11 : 0 ≤ pos_0 ∧ pos_0 ≤ 2000) (kz_0_12 : 0 ≤ kind_0 ∧ kind_0 ≤ 4) (kz_0_13 : 0 ≤ place_0 ∧ place_0 ≤ 2000) (kz_0_14 : (-49) ≤ value_0 ∧ value_0 ≤ 1048575) (kz_0_15 : 0 ≤ from_0 ∧ from_0 ≤ 2000) : ZLM (limit_0) (pos_0) := by
  exact ed_lim ‹zOSL _ _ _ _ _ _ _ _ _ _ _ _ _ _ _› (by omega)
set_option maxHeartbeats 4000000 in
theorem vc_Mo_edgeItem_23_3 (x2 : Int) (x6 : Int) (x10 : Int) (fault_0 : Int) (kind_0 : Int) (r_0 : Int) (from_0 : Int) (pos_0 : Int) (gx : Int) (k2 : 0 ≤ x2 ∧ x2 ≤ 2000) (k6 : (-1) ≤ x6 ∧ x6 ≤ 23) (k10 : 1 ≤ x10 ∧ x10 ≤ 1) (f1 : fault_0 = 0) (f5 : (x10 = 1) → ((kind_0 = 3) ∧ (fault_0 = 0))) (f9 : ((kind_0 = 1) → (pos_0 ≤ (from_0 + 8))) ∧ ((kind_0 = 0) ∨ ((from_0 + 1) ≤ pos_0))) (f10 : 1 * x2 + ((-1) * pos_0 + 0) ≤ 0) (f11 : (1 ≤ fault_0) ∨ ((kind_0 = 0) ∨ ((x2 + 1) ≤ pos_0))) (f12 : ((-1) * fault_0 + 0 ≤ (-1)) ∨ ((-1) * x6 + 0 ≤ 0)) (kz_0_8 : 0 ≤ fault_0 ∧ fault_0 ≤ 5) (kz_0_11 : 0 ≤ pos_0 ∧ pos_0 ≤ 2000) (kz_0_12 : 0 ≤ kind_0 ∧ kind_0 ≤ 4) (kz_0_15 : 0 ≤ from_0 ∧ from_0 ≤ 2000) (ex2 : gx = pos_0) : 1 * x2 + ((-1) * gx + 0) ≤ (-1) := by
  first
    | omega
    | (have q1 := (hE_0_2_1 (r_0 + 2) (by omega)).2 (by omega)
       have q2 := (hE_0_2_2 (r_0 + 2) (by omega)).2 (by omega)
       omega)
    | (have q1 := (hE_0_2_1 (r_0 + 1) (by omega)).2 (by omega)
       have q2 := (hE_0_2_2 (r_0 + 1) (by omega)).2 (by omega)
       omega)
    | (have q1 := (hE_0_2_1 (r_0 + 2) (by omega)).2 (by omega)
       omega)
    | (have q1 := (hE_0_2_1 (r_0 + 1) (by omega)).2 (by omega)
       omega)
    | (have q1 := (hE_0_2_1 (r_0 + 2) (by omega)).2 (by omega)
       have q2 := (hE_0_2_2 (r_0 + 2) (by omega)).2 (by omega)
       have q3 := (hE_0_2_3 (r_0 + 2) (by omega)).1 (by omega)
       omega)
    | (have q1 := (hE_0_2_1 (r_0 + 2) (by omega)).2 (by omega)
       have q2 := (hE_0_2_2 (r_0 + 2) (by omega)).2 (by omega)
       have q3 := (hE_0_2_3 (r_0 + 2) (by omega)).2 (by omega)
       omega)
set_option maxHeartbeats 4000000 in
theorem vc_Mo_edgeItem_23_4 (x8 : Int) (r_0 : Int) (pos_0 : Int) (gx : Int) (k8 : 0 ≤ x8 ∧ x8 ≤ 2000) (f18 : 1 * x8 + (1 * pos_0 + 0) ≤ 2000) (f19 : (-1) * x8 + ((-1) * pos_0 + 0) ≤ (-2000)) (kz_0_11 : 0 ≤ pos_0 ∧ pos_0 ≤ 2000) (ex2 : gx = pos_0) : (-1) * x8 + ((-1) * gx + 0) ≤ (-2000) := by
  first
    | omega
    | (have q1 := (hE_0_2_1 (r_0 + 2) (by omega)).2 (by omega)
       have q2 := (hE_0_2_2 (r_0 + 2) (by omega)).2 (by omega)
       omega)
    | (have q1 := (hE_0_2_1 (r_0 + 1) (by omega)).2 (by omega)
       have q2 := (hE_0_2_2 (r_0 + 1) (by omega)).2 (by omega)
       omega)
    | (have q1 := (hE_0_2_1 (r_0 + 2) (by omega)).2 (by omega)
       omega)
    | (have q1 := (hE_0_2_1 (r_0 + 1) (by omega)).2 (by omega)
       omega)
    | (have q1 := (hE_0_2_1 (r_0 + 2) (by omega)).2 (by omega)
       have q2 := (hE_0_2_2 (r_0 + 2) (by omega)).2 (by omega)
       have q3 := (hE_0_2_3 (r_0 + 2) (by omega)).1 (by omega)
       omega)
    | (have q1 := (hE_0_2_1 (r_0 + 2) (by omega)).2 (by omega)
       have q2 := (hE_0_2_2 (r_0 + 2) (by omega)).2 (by omega)
       have q3 := (hE_0_2_3 (r_0 + 2) (by omega)).2 (by omega)
       omega)
set_option maxHeartbeats 4000000 in
theorem vc_Mo_edgeItem_23_5 (x1 : Int) (x2 : Int) (x3 : Int) (x6 : Int) (x7 : Int) (x9 : Int) (x10 : Int) (x11 : Int) (x13 : Int) (fault_0 : Int) (value_0 : Int) (kind_0 : Int) (all_0 : Int → Int) (r_0 : Int) (from_0 : Int) (pos_0 : Int) (tape_0 : Int → Int) (limit_0 : Int) (place_0 : Int) (faultPlace_0 : Int) (gx : Int) (k1 : 0 ≤ x1 ∧ x1 ≤ 7) (k2 : 0 ≤ x2 ∧ x2 ≤ 2000) (k3 : 0 ≤ x3 ∧ x3 ≤ 4) (k6 : (-1) ≤ x6 ∧ x6 ≤ 23) (k7 : 0 ≤ x7 ∧ x7 ≤ 48) (k9 : 45 ≤ x9 ∧ x9 ≤ 45) (k10 : 1 ≤ x10 ∧ x10 ≤ 1) (k11 : (-49) ≤ x11 ∧ x11 ≤ 1048575) (k13 : 0 ≤ x13 ∧ x13 ≤ 0) (f1 : fault_0 = 0) (g3 : x11 = value_0) (f4 : x10 ≠ 0) (f5 : (x10 = 1) → ((kind_0 = 3) ∧ (fault_0 = 0))) (f6 : SGQ (fault_0) (kind_0) (value_0) (x9) (x10)) (f9 : ((kind_0 = 1) → (pos_0 ≤ (from_0 + 8))) ∧ ((kind_0 = 0) ∨ ((from_0 + 1) ≤ pos_0))) (f11 : (1 ≤ fault_0) ∨ ((kind_0 = 0) ∨ ((x2 + 1) ≤ pos_0))) (f12 : ((-1) * fault_0 + 0 ≤ (-1)) ∨ ((-1) * x6 + 0 ≤ 0)) (f15 : zOSL (limit_0) (pos_0) (kind_0) (place_0) (value_0) (from_0) (fault_0) (faultPlace_0) (r_0) (tape_0) (all_0) (x6) (x7) (x1) (x3)) (kz_0_8 : 0 ≤ fault_0 ∧ fault_0 ≤ 5) (kz_0_9 : 0 ≤ faultPlace_0 ∧ faultPlace_0 ≤ 2000) (kz_0_10 : 0 ≤ limit_0 ∧ limit_0 ≤ 2000) (kz_0_11 : 0 ≤ pos_0 ∧ pos_0 ≤ 2000) (kz_0_12 : 0 ≤ kind_0 ∧ kind_0 ≤ 4) (kz_0_13 : 0 ≤ place_0 ∧ place_0 ≤ 2000) (kz_0_14 : (-49) ≤ value_0 ∧ value_0 ≤ 1048575) (kz_0_15 : 0 ≤ from_0 ∧ from_0 ≤ 2000) (ex2 : gx = pos_0) : zTS4 (limit_0) (fault_0) (r_0) (tape_0) (all_0) (x6) (x7) (x13) (x1) (x3) (gx) := by
  first | subst g3 | skip
  first | subst ex2 | skip
  first
    | (exfalso; have a := (sgq_t (C := 62) (‹SGQ _ _ _ x11 _›) (by omega) (by omega)).2.2; omega)
    | (exfalso; have a := (sgq_t (C := 45) (‹SGQ _ _ _ x9 _›) (by omega) (by omega)).2.2; omega)
    | exact ed_next ‹zOSL _ _ _ _ _ _ _ _ _ _ _ _ _ _ _› (by omega) (by omega) (by omega) (by omega) (by omega) (by omega)
    | (have a := (sgq_t (C := 45) (‹SGQ _ _ _ x9 _›) (by omega) (by omega)).2.2; exact ed_next ‹zOSL _ _ _ _ _ _ _ _ _ _ _ _ _ _ _› (by omega) (by omega) (by omega) (by omega) (by omega) (by omega))
    | (have a := (sgq_t (C := 62) (‹SGQ _ _ _ x11 _›) (by omega) (by omega)).2.2; exact ed_next ‹zOSL _ _ _ _ _ _ _ _ _ _ _ _ _ _ _› (by omega) (by omega) (by omega) (by omega) (by omega) (by omega))
set_option maxHeartbeats 4000000 in
theorem vc_Mo_edgeItem_23_6 (x2 : Int) (r_0 : Int) (pos_0 : Int) (gx : Int) (k2 : 0 ≤ x2 ∧ x2 ≤ 2000) (f10 : 1 * x2 + ((-1) * pos_0 + 0) ≤ 0) (kz_0_11 : 0 ≤ pos_0 ∧ pos_0 ≤ 2000) (ex2 : gx = pos_0) : 1 * x2 + ((-1) * gx + 0) ≤ 0 := by
  first
    | omega
    | (have q1 := (hE_0_2_1 (r_0 + 2) (by omega)).2 (by omega)
       have q2 := (hE_0_2_2 (r_0 + 2) (by omega)).2 (by omega)
       omega)
    | (have q1 := (hE_0_2_1 (r_0 + 1) (by omega)).2 (by omega)
       have q2 := (hE_0_2_2 (r_0 + 1) (by omega)).2 (by omega)
       omega)
    | (have q1 := (hE_0_2_1 (r_0 + 2) (by omega)).2 (by omega)
       omega)
    | (have q1 := (hE_0_2_1 (r_0 + 1) (by omega)).2 (by omega)
       omega)
    | (have q1 := (hE_0_2_1 (r_0 + 2) (by omega)).2 (by omega)
       have q2 := (hE_0_2_2 (r_0 + 2) (by omega)).2 (by omega)
       have q3 := (hE_0_2_3 (r_0 + 2) (by omega)).1 (by omega)
       omega)
    | (have q1 := (hE_0_2_1 (r_0 + 2) (by omega)).2 (by omega)
       have q2 := (hE_0_2_2 (r_0 + 2) (by omega)).2 (by omega)
       have q3 := (hE_0_2_3 (r_0 + 2) (by omega)).2 (by omega)
       omega)
def o_Mo_edgeItem_23 : or_T := (81, 14, [(0, (2, 0, 0, [165])), (1, (0, 0, 7, [])), (2, (0, 0, 2000, [])), (3, (0, 0, 4, [])), (4, (2, 0, 0, [165])), (5, (0, 0, 7, [])), (6, (0, -1, 23, [])), (7, (0, 0, 48, [])), (8, (0, 0, 2000, [])), (9, (0, 45, 45, [])), (10, (0, 1, 1, [])), (11, (0, -49, 1048575, [])), (12, (0, 62, 62, [])), (13, (0, 0, 0, []))], [(23, [6], [0, -1]), (20, [4], [50, 1, 0, 8, 1, 3, 2, 0, 8, 0, 0]), (7, [11, 12], [1]), (9, [11, 4], [14]), (8, [10], [1]), (20, [10, 4], [50, 2, 0, 1012, 1008, 4, 6, 1, 2, 1, 0, 0, 1, 2, 7, 1, 3, 2, 1, 12, 0, 3, 1, 3, 2, 1, 8, 0, 0]), (20, [4, 9, 10], [60, 3, 0, 963, 8, 12, 14]), (20, [5, 4], [50, 1, 1, 1005, 1002, 0, 6, 4, 2, 1, 0, 0, 1, 3, 1, 2, 4, 3, 2, 1, 5, 0, 2]), (20, [4, 4], [30, 0, 1, 1, 15, -1, 1, 11]), (20, [4], [50, 3, 0, 12, 11, 15, 2, 21, 4, 7, 1, 3, 2, 0, 12, 0, 1, 0, 3, 2, 0, 11, 4, 3, 2, 0, 15, 0, 8, 3, 7, 1, 3, 2, 0, 12, 0, 0, 0, 7, 4, 3, 2, 0, 15, 0, 1, 2, 0, 11]), (20, [2, 4], [30, 0, 1, 0, 0, -1, 1, 11]), (20, [4, 2], [50, 3, 0, 8, 12, 11, 3, 7, 0, 2, 0, 1, 2, 0, 8, 3, 7, 1, 3, 2, 0, 12, 0, 0, 0, 6, 4, 2, 1, 1, 0, 1, 2, 0, 11]), (20, [4, 6], [31, 1, -1, -1, 1, 8, 0, -1, 0, 0]), (20, [4], [60, 1, 3, 199, 5, 2, 3, 4]), (20, [4, 6], [60, 2, 1, 242, 5, 8, 2]), (20, [4, 6, 7, 5, 3], [60, 9, 2, 1012, 10, 11, 12, 13, 14, 15, 8, 9, 5, 1, 2]), (24, [0, 4], []), (24, [1, 5], []), (20, [8, 4], [30, 2000, 1, 0, 0, 1, 1, 11]), (20, [8, 4], [30, -2000, -1, 0, 0, -1, 1, 11])], [], [(0, 0, 2000, [])], [(20, [14, 4], [30, 0, 1, 0, 0, -1, 1, 11]), (20, [14, 4], [50, 1, 0, 1011, 1, 2, 1, 0, 2, 1, 11]), (20, [4], [60, 2, 0, 947, 10, 11]), (23, [2, 14], [-1, 1, -1]), (23, [8, 14], [-2000, -1, -1]), (20, [4, 6, 7, 13, 5, 3, 14], [60, 3, 2, 973, 10, 8, 5, 1, 2]), (20, [2, 14], [30, 0, 1, 0, 0, -1, 0, 0])], [], [(1, 5, -4294967296, 0), (5, 1, -4294967296, 0)])
theorem oo_Mo_edgeItem_23 {kA : Nat → ClassId} : or_ok PRD kA GG o_Mo_edgeItem_23 := by
  refine or_mk fun A ta ws vs hD hth hl => ?_
  intro t0 r0 t1 k1 t2 k2 t3 k3 t4 r4 t5 k5 t6 k6 t7 k7 t8 k8 t9 k9 t10 k10 t11 k11 t12 k12 t13 k13 d0 d1 f0 f1 f2 f3 f4 f5 f6 f7 f8 f9 f10 f11 f12 f13 f14 f15 f16 f17 f18 f19
  replace f1 := shm_2156 f1
  replace f3 := shm_115 f3
  replace f4 := shm_142 f4
  replace f5 := shm_730 f5
  replace f6 := shm_731 f6
  replace f9 := shm_1438 f9
  replace f10 := shm_1431 f10
  replace f11 := shm_1722 f11
  replace f12 := shm_2117 f12
  replace f15 := shm_2153 f15
  replace f16 := shm_5 f16
  replace f17 := shm_5 f17
  replace f18 := shm_2007 f18
  replace f19 := shm_2008 f19
  have q4 : n_v vs 4 = n_v vs 0 := f16.symm
  have q5 : n_v vs 5 = n_v vs 1 := f17.symm
  simp only [q4, q5] at f1 f3 f5 f6 f9 f10 f11 f12 f15 f18 f19
  have g3 : v_iv (n_v vs 11) = w_fi ws (n_v vs 0) 14 := congrArg v_iv f3
  have kz_0_8 := fdq_34 hD hth r0
  have kz_0_9 := fdq_44 hD hth r0
  have kz_0_10 := fdq_43 hD hth r0
  have kz_0_11 := fdq_237 hD hth r0
  have kz_0_12 := fdq_187 hD hth r0
  have kz_0_13 := fdq_238 hD hth r0
  have kz_0_14 := fdq_188 hD hth r0
  have kz_0_15 := fdq_239 hD hth r0
  obtain ⟨x, ex, hx⟩ := iv_ex (ta := ta) (lo := 0) (hi := 2000) (z := w_fi ws (n_v vs 0) 11) (by omega) (by omega) (by omega) (by omega)
  have ex2 : v_iv (Value.int x) = w_fi ws (n_v vs 0) 11 := ex
  have ex3 : 0 ≤ v_iv (Value.int x) ∧ v_iv (Value.int x) ≤ 2000 := tv_rng hx
  have e_2 : n_v (vs ++ [Value.int x]) 2 = n_v vs 2 := n_v_old (by rw [hl]; decide)
  have e_3 : n_v (vs ++ [Value.int x]) 3 = n_v vs 3 := n_v_old (by rw [hl]; decide)
  have e_4 : n_v (vs ++ [Value.int x]) 4 = n_v vs 4 := n_v_old (by rw [hl]; decide)
  have e_5 : n_v (vs ++ [Value.int x]) 5 = n_v vs 5 := n_v_old (by rw [hl]; decide)
  have e_6 : n_v (vs ++ [Value.int x]) 6 = n_v vs 6 := n_v_old (by rw [hl]; decide)
  have e_7 : n_v (vs ++ [Value.int x]) 7 = n_v vs 7 := n_v_old (by rw [hl]; decide)
  have e_8 : n_v (vs ++ [Value.int x]) 8 = n_v vs 8 := n_v_old (by rw [hl]; decide)
  have e_13 : n_v (vs ++ [Value.int x]) 13 = n_v vs 13 := n_v_old (by rw [hl]; decide)
  have e_14 : n_v (vs ++ [Value.int x]) 14 = Value.int x := n_v_new hl
  have nf0 : fc_1 PRD (20, [14, 4], [30, 0, 1, 0, 0, -1, 1, 11]) ws (vs ++ [Value.int x]) := by
    refine ⟨nf_inA hl rfl, sgq_1431 ?_⟩
    · show 1 * v_iv (n_v (vs ++ [Value.int x]) 14) + ((-1) * w_fi ws (n_v (vs ++ [Value.int x]) 4) 11 + 0) ≤ 0
      simp only [e_4, e_14, q4]
      exact vc_Mo_edgeItem_23_0 (w_fi ws (n_v vs 0) 5) (w_fi ws (n_v vs 0) 11) (v_iv (Value.int x)) kz_0_11 ex2
  have nf1 : fc_1 PRD (20, [14, 4], [50, 1, 0, 1011, 1, 2, 1, 0, 2, 1, 11]) ws (vs ++ [Value.int x]) := by
    refine ⟨nf_inA hl rfl, sgq_1432 ?_⟩
    · show v_iv (n_v (vs ++ [Value.int x]) 14) = w_fi ws (n_v (vs ++ [Value.int x]) 4) 11
      simp only [e_4, e_14, q4]
      exact vc_Mo_edgeItem_23_1 (w_fi ws (n_v vs 0) 5) (w_fi ws (n_v vs 0) 11) (v_iv (Value.int x)) kz_0_11 ex2
  have nf2 : fc_1 PRD (20, [4], [60, 2, 0, 947, 10, 11]) ws (vs ++ [Value.int x]) := by
    refine ⟨nf_inA hl rfl, sgq_1433 ?_⟩
    · show ZLM (w_fi ws (n_v (vs ++ [Value.int x]) 4) 10) (w_fi ws (n_v (vs ++ [Value.int x]) 4) 11)
      simp only [e_4, q4]
      exact vc_Mo_edgeItem_23_2 (v_iv (n_v vs 1)) (v_iv (n_v vs 3)) (v_iv (n_v vs 6)) (v_iv (n_v vs 7)) (w_fi ws (n_v vs 0) 8) (w_fi ws (n_v vs 0) 14) (w_fi ws (n_v vs 0) 12) (w_ei ws (w_ar ws (n_v vs 0) 2)) (w_fi ws (n_v vs 0) 5) (w_fi ws (n_v vs 0) 15) (w_fi ws (n_v vs 0) 11) (w_ei ws (w_ar ws (n_v vs 0) 1)) (w_fi ws (n_v vs 0) 10) (w_fi ws (n_v vs 0) 13) (w_fi ws (n_v vs 0) 9) k1 k3 k6 k7 f1 f15 kz_0_8 kz_0_9 kz_0_10 kz_0_11 kz_0_12 kz_0_13 kz_0_14 kz_0_15
  have nf3 : fc_1 PRD (23, [2, 14], [-1, 1, -1]) ws (vs ++ [Value.int x]) := by
    refine ⟨nf_inA hl rfl, sgq_193 ?_⟩
    · show 1 * v_iv (n_v (vs ++ [Value.int x]) 2) + ((-1) * v_iv (n_v (vs ++ [Value.int x]) 14) + 0) ≤ (-1)
      simp only [e_2, e_14]
      exact vc_Mo_edgeItem_23_3 (v_iv (n_v vs 2)) (v_iv (n_v vs 6)) (v_iv (n_v vs 10)) (w_fi ws (n_v vs 0) 8) (w_fi ws (n_v vs 0) 12) (w_fi ws (n_v vs 0) 5) (w_fi ws (n_v vs 0) 15) (w_fi ws (n_v vs 0) 11) (v_iv (Value.int x)) k2 k6 k10 f1 f5 f9 f10 f11 f12 kz_0_8 kz_0_11 kz_0_12 kz_0_15 ex2
  have nf4 : fc_1 PRD (23, [8, 14], [-2000, -1, -1]) ws (vs ++ [Value.int x]) := by
    refine ⟨nf_inA hl rfl, sgq_2009 ?_⟩
    · show (-1) * v_iv (n_v (vs ++ [Value.int x]) 8) + ((-1) * v_iv (n_v (vs ++ [Value.int x]) 14) + 0) ≤ (-2000)
      simp only [e_8, e_14]
      exact vc_Mo_edgeItem_23_4 (v_iv (n_v vs 8)) (w_fi ws (n_v vs 0) 5) (w_fi ws (n_v vs 0) 11) (v_iv (Value.int x)) k8 f18 f19 kz_0_11 ex2
  have nf5 : fc_1 PRD (20, [4, 6, 7, 13, 5, 3, 14], [60, 3, 2, 973, 10, 8, 5, 1, 2]) ws (vs ++ [Value.int x]) := by
    refine ⟨nf_inA hl rfl, sgq_2157 ?_⟩
    · show zTS4 (w_fi ws (n_v (vs ++ [Value.int x]) 4) 10) (w_fi ws (n_v (vs ++ [Value.int x]) 4) 8) (w_fi ws (n_v (vs ++ [Value.int x]) 4) 5) (w_ei ws (w_ar ws (n_v (vs ++ [Value.int x]) 4) 1)) (w_ei ws (w_ar ws (n_v (vs ++ [Value.int x]) 4) 2)) (v_iv (n_v (vs ++ [Value.int x]) 6)) (v_iv (n_v (vs ++ [Value.int x]) 7)) (v_iv (n_v (vs ++ [Value.int x]) 13)) (v_iv (n_v (vs ++ [Value.int x]) 5)) (v_iv (n_v (vs ++ [Value.int x]) 3)) (v_iv (n_v (vs ++ [Value.int x]) 14))
      simp only [e_3, e_4, e_5, e_6, e_7, e_13, e_14, q4, q5]
      exact vc_Mo_edgeItem_23_5 (v_iv (n_v vs 1)) (v_iv (n_v vs 2)) (v_iv (n_v vs 3)) (v_iv (n_v vs 6)) (v_iv (n_v vs 7)) (v_iv (n_v vs 9)) (v_iv (n_v vs 10)) (v_iv (n_v vs 11)) (v_iv (n_v vs 13)) (w_fi ws (n_v vs 0) 8) (w_fi ws (n_v vs 0) 14) (w_fi ws (n_v vs 0) 12) (w_ei ws (w_ar ws (n_v vs 0) 2)) (w_fi ws (n_v vs 0) 5) (w_fi ws (n_v vs 0) 15) (w_fi ws (n_v vs 0) 11) (w_ei ws (w_ar ws (n_v vs 0) 1)) (w_fi ws (n_v vs 0) 10) (w_fi ws (n_v vs 0) 13) (w_fi ws (n_v vs 0) 9) (v_iv (Value.int x)) k1 k2 k3 k6 k7 k9 k10 k11 k13 f1 g3 f4 f5 f6 f9 f11 f12 f15 kz_0_8 kz_0_9 kz_0_10 kz_0_11 kz_0_12 kz_0_13 kz_0_14 kz_0_15 ex2
  have nf6 : fc_1 PRD (20, [2, 14], [30, 0, 1, 0, 0, -1, 0, 0]) ws (vs ++ [Value.int x]) := by
    refine ⟨nf_inA hl rfl, sgq_201 ?_⟩
    · show 1 * v_iv (n_v (vs ++ [Value.int x]) 2) + ((-1) * v_iv (n_v (vs ++ [Value.int x]) 14) + 0) ≤ 0
      simp only [e_2, e_14]
      exact vc_Mo_edgeItem_23_6 (v_iv (n_v vs 2)) (w_fi ws (n_v vs 0) 5) (w_fi ws (n_v vs 0) 11) (v_iv (Value.int x)) k2 f10 kz_0_11 ex2
  exact ⟨(fun _ h => (by cases h)), [Value.int x], ag_one hx, List.forall_mem_cons.mpr ⟨⟨show (20 : Nat) < 100 from by decide, nf0⟩, List.forall_mem_cons.mpr ⟨⟨show (20 : Nat) < 100 from by decide, nf1⟩, List.forall_mem_cons.mpr ⟨⟨show (20 : Nat) < 100 from by decide, nf2⟩, List.forall_mem_cons.mpr ⟨⟨show (23 : Nat) < 100 from by decide, nf3⟩, List.forall_mem_cons.mpr ⟨⟨show (23 : Nat) < 100 from by decide, nf4⟩, List.forall_mem_cons.mpr ⟨⟨show (20 : Nat) < 100 from by decide, nf5⟩, List.forall_mem_cons.mpr ⟨⟨show (20 : Nat) < 100 from by decide, nf6⟩, (fun _ h => (by cases h))⟩⟩⟩⟩⟩⟩⟩, (fun _ h => (by cases h))⟩
set_option maxHeartbeats 4000000 in
theorem vc_Mo_edgeItem_24_0 (x2 : Int) (r_0 : Int) (gx : Int) (k2 : 0 ≤ x2 ∧ x2 ≤ 2000) (ex2 : gx = x2) : 1 * gx + ((-1) * x2 + 0) ≤ 0 := by
  first
    | omega
    | (have q1 := (hE_0_2_1 (r_0 + 2) (by omega)).2 (by omega)
       have q2 := (hE_0_2_2 (r_0 + 2) (by omega)).2 (by omega)
       omega)
    | (have q1 := (hE_0_2_1 (r_0 + 1) (by omega)).2 (by omega)
       have q2 := (hE_0_2_2 (r_0 + 1) (by omega)).2 (by omega)
       omega)
    | (have q1 := (hE_0_2_1 (r_0 + 2) (by omega)).2 (by omega)
       omega)
    | (have q1 := (hE_0_2_1 (r_0 + 1) (by omega)).2 (by omega)
       omega)
    | (have q1 := (hE_0_2_1 (r_0 + 2) (by omega)).2 (by omega)
       have q2 := (hE_0_2_2 (r_0 + 2) (by omega)).2 (by omega)
       have q3 := (hE_0_2_3 (r_0 + 2) (by omega)).1 (by omega)
       omega)
    | (have q1 := (hE_0_2_1 (r_0 + 2) (by omega)).2 (by omega)
       have q2 := (hE_0_2_2 (r_0 + 2) (by omega)).2 (by omega)
       have q3 := (hE_0_2_3 (r_0 + 2) (by omega)).2 (by omega)
       omega)
set_option maxHeartbeats 4000000 in
theorem vc_Mo_edgeItem_24_1 (x2 : Int) (r_0 : Int) (gx : Int) (k2 : 0 ≤ x2 ∧ x2 ≤ 2000) (ex2 : gx = x2) : (-1) * gx + (1 * x2 + 0) ≤ 0 := by
  first
    | omega
    | (have q1 := (hE_0_2_1 (r_0 + 2) (by omega)).2 (by omega)
       have q2 := (hE_0_2_2 (r_0 + 2) (by omega)).2 (by omega)
       omega)
    | (have q1 := (hE_0_2_1 (r_0 + 1) (by omega)).2 (by omega)
       have q2 := (hE_0_2_2 (r_0 + 1) (by omega)).2 (by omega)
       omega)
    | (have q1 := (hE_0_2_1 (r_0 + 2) (by omega)).2 (by omega)
       omega)
    | (have q1 := (hE_0_2_1 (r_0 + 1) (by omega)).2 (by omega)
       omega)
    | (have q1 := (hE_0_2_1 (r_0 + 2) (by omega)).2 (by omega)
       have q2 := (hE_0_2_2 (r_0 + 2) (by omega)).2 (by omega)
       have q3 := (hE_0_2_3 (r_0 + 2) (by omega)).1 (by omega)
       omega)
    | (have q1 := (hE_0_2_1 (r_0 + 2) (by omega)).2 (by omega)
       have q2 := (hE_0_2_2 (r_0 + 2) (by omega)).2 (by omega)
       have q3 := (hE_0_2_3 (r_0 + 2) (by omega)).2 (by omega)
       omega)
set_option maxHeartbeats 4000000 in
theorem vc_Mo_edgeItem_24_2 (x3 : Int) (r_0 : Int) (gu : Int) (k3 : 0 ≤ x3 ∧ x3 ≤ 4) (eu2 : gu = x3) : 1 * gu + ((-1) * x3 + 0) ≤ 0 := by
  first
    | omega
    | (have q1 := (hE_0_2_1 (r_0 + 2) (by omega)).2 (by omega)
       have q2 := (hE_0_2_2 (r_0 + 2) (by omega)).2 (by omega)
       omega)
    | (have q1 := (hE_0_2_1 (r_0 + 1) (by omega)).2 (by omega)
       have q2 := (hE_0_2_2 (r_0 + 1) (by omega)).2 (by omega)
       omega)
    | (have q1 := (hE_0_2_1 (r_0 + 2) (by omega)).2 (by omega)
       omega)
    | (have q1 := (hE_0_2_1 (r_0 + 1) (by omega)).2 (by omega)
       omega)
    | (have q1 := (hE_0_2_1 (r_0 + 2) (by omega)).2 (by omega)
       have q2 := (hE_0_2_2 (r_0 + 2) (by omega)).2 (by omega)
       have q3 := (hE_0_2_3 (r_0 + 2) (by omega)).1 (by omega)
       omega)
    | (have q1 := (hE_0_2_1 (r_0 + 2) (by omega)).2 (by omega)
       have q2 := (hE_0_2_2 (r_0 + 2) (by omega)).2 (by omega)
       have q3 := (hE_0_2_3 (r_0 + 2) (by omega)).2 (by omega)
       omega)
set_option maxHeartbeats 4000000 in
theorem vc_Mo_edgeItem_24_3 (x3 : Int) (r_0 : Int) (gu : Int) (k3 : 0 ≤ x3 ∧ x3 ≤ 4) (eu2 : gu = x3) : (-1) * gu + (1 * x3 + 0) ≤ 0 := by
  first
    | omega
    | (have q1 := (hE_0_2_1 (r_0 + 2) (by omega)).2 (by omega)
       have q2 := (hE_0_2_2 (r_0 + 2) (by omega)).2 (by omega)
       omega)
    | (have q1 := (hE_0_2_1 (r_0 + 1) (by omega)).2 (by omega)
       have q2 := (hE_0_2_2 (r_0 + 1) (by omega)).2 (by omega)
       omega)
    | (have q1 := (hE_0_2_1 (r_0 + 2) (by omega)).2 (by omega)
       omega)
    | (have q1 := (hE_0_2_1 (r_0 + 1) (by omega)).2 (by omega)
       omega)
    | (have q1 := (hE_0_2_1 (r_0 + 2) (by omega)).2 (by omega)
       have q2 := (hE_0_2_2 (r_0 + 2) (by omega)).2 (by omega)
       have q3 := (hE_0_2_3 (r_0 + 2) (by omega)).1 (by omega)
       omega)
    | (have q1 := (hE_0_2_1 (r_0 + 2) (by omega)).2 (by omega)
       have q2 := (hE_0_2_2 (r_0 + 2) (by omega)).2 (by omega)
       have q3 := (hE_0_2_3 (r_0 + 2) (by omega)).2 (by omega)
       omega)
set_option maxHeartbeats 4000000 in
theorem vc_Mo_edgeItem_24_4 (x7 : Int) (r_0 : Int) (gw : Int) (k7 : 0 ≤ x7 ∧ x7 ≤ 48) (ew2 : gw = x7) : 1 * gw + ((-1) * x7 + 0) ≤ 0 := by
  first
    | omega
    | (have q1 := (hE_0_2_1 (r_0 + 2) (by omega)).2 (by omega)
       have q2 := (hE_0_2_2 (r_0 + 2) (by omega)).2 (by omega)
       omega)
    | (have q1 := (hE_0_2_1 (r_0 + 1) (by omega)).2 (by omega)
       have q2 := (hE_0_2_2 (r_0 + 1) (by omega)).2 (by omega)
       omega)
    | (have q1 := (hE_0_2_1 (r_0 + 2) (by omega)).2 (by omega)
       omega)
    | (have q1 := (hE_0_2_1 (r_0 + 1) (by omega)).2 (by omega)
       omega)
    | (have q1 := (hE_0_2_1 (r_0 + 2) (by omega)).2 (by omega)
       have q2 := (hE_0_2_2 (r_0 + 2) (by omega)).2 (by omega)
       have q3 := (hE_0_2_3 (r_0 + 2) (by omega)).1 (by omega)
       omega)
    | (have q1 := (hE_0_2_1 (r_0 + 2) (by omega)).2 (by omega)
       have q2 := (hE_0_2_2 (r_0 + 2) (by omega)).2 (by omega)
       have q3 := (hE_0_2_3 (r_0 + 2) (by omega)).2 (by omega)
       omega)
set_option maxHeartbeats 4000000 in
theorem vc_Mo_edgeItem_24_5 (x7 : Int) (r_0 : Int) (gw : Int) (k7 : 0 ≤ x7 ∧ x7 ≤ 48) (ew2 : gw = x7) : (-1) * gw + (1 * x7 + 0) ≤ 0 := by
  first
    | omega
    | (have q1 := (hE_0_2_1 (r_0 + 2) (by omega)).2 (by omega)
       have q2 := (hE_0_2_2 (r_0 + 2) (by omega)).2 (by omega)
       omega)
    | (have q1 := (hE_0_2_1 (r_0 + 1) (by omega)).2 (by omega)
       have q2 := (hE_0_2_2 (r_0 + 1) (by omega)).2 (by omega)
       omega)
    | (have q1 := (hE_0_2_1 (r_0 + 2) (by omega)).2 (by omega)
       omega)
    | (have q1 := (hE_0_2_1 (r_0 + 1) (by omega)).2 (by omega)
       omega)
    | (have q1 := (hE_0_2_1 (r_0 + 2) (by omega)).2 (by omega)
       have q2 := (hE_0_2_2 (r_0 + 2) (by omega)).2 (by omega)
       have q3 := (hE_0_2_3 (r_0 + 2) (by omega)).1 (by omega)
       omega)
    | (have q1 := (hE_0_2_1 (r_0 + 2) (by omega)).2 (by omega)
       have q2 := (hE_0_2_2 (r_0 + 2) (by omega)).2 (by omega)
       have q3 := (hE_0_2_3 (r_0 + 2) (by omega)).2 (by omega)
       omega)
set_option maxHeartbeats 4000000 in
theorem vc_Mo_edgeItem_24_6 (x13 : Int) (r_0 : Int) (gc : Int) (k13 : 0 ≤ x13 ∧ x13 ≤ 0) (ec2 : gc = x13) : 1 * gc + ((-1) * x13 + 0) ≤ 0 := by
  first
    | omega
    | (have q1 := (hE_0_2_1 (r_0 + 2) (by omega)).2 (by omega)
       have q2 := (hE_0_2_2 (r_0 + 2) (by omega)).2 (by omega)
       omega)
    | (have q1 := (hE_0_2_1 (r_0 + 1) (by omega)).2 (by omega)
       have q2 := (hE_0_2_2 (r_0 + 1) (by omega)).2 (by omega)
       omega)
    | (have q1 := (hE_0_2_1 (r_0 + 2) (by omega)).2 (by omega)
       omega)
    | (have q1 := (hE_0_2_1 (r_0 + 1) (by omega)).2 (by omega)
       omega)
    | (have q1 := (hE_0_2_1 (r_0 + 2) (by omega)).2 (by omega)
       have q2 := (hE_0_2_2 (r_0 + 2) (by omega)).2 (by omega)
       have q3 := (hE_0_2_3 (r_0 + 2) (by omega)).1 (by omega)
       omega)
    | (have q1 := (hE_0_2_1 (r_0 + 2) (by omega)).2 (by omega)
       have q2 := (hE_0_2_2 (r_0 + 2) (by omega)).2 (by omega)
       have q3 := (hE_0_2_3 (r_0 + 2) (by omega)).2 (by omega)
       omega)
set_option maxHeartbeats 4000000 in
theorem vc_Mo_edgeItem_24_7 (x13 : Int) (r_0 : Int) (gc : Int) (k13 : 0 ≤ x13 ∧ x13 ≤ 0) (ec2 : gc = x13) : (-1) * gc + (1 * x13 + 0) ≤ 0 := by
  first
    | omega
    | (have q1 := (hE_0_2_1 (r_0 + 2) (by omega)).2 (by omega)
       have q2 := (hE_0_2_2 (r_0 + 2) (by omega)).2 (by omega)
       omega)
    | (have q1 := (hE_0_2_1 (r_0 + 1) (by omega)).2 (by omega)
       have q2 := (hE_0_2_2 (r_0 + 1) (by omega)).2 (by omega)
       omega)
    | (have q1 := (hE_0_2_1 (r_0 + 2) (by omega)).2 (by omega)
       omega)
    | (have q1 := (hE_0_2_1 (r_0 + 1) (by omega)).2 (by omega)
       omega)
    | (have q1 := (hE_0_2_1 (r_0 + 2) (by omega)).2 (by omega)
       have q2 := (hE_0_2_2 (r_0 + 2) (by omega)).2 (by omega)
       have q3 := (hE_0_2_3 (r_0 + 2) (by omega)).1 (by omega)
       omega)
    | (have q1 := (hE_0_2_1 (r_0 + 2) (by omega)).2 (by omega)
       have q2 := (hE_0_2_2 (r_0 + 2) (by omega)).2 (by omega)
       have q3 := (hE_0_2_3 (r_0 + 2) (by omega)).2 (by omega)
       omega)
set_option maxHeartbeats 4000000 in
theorem vc_Mo_edgeItem_24_8 (r_0 : Int) (from_0 : Int) (pos_0 : Int) (f12 : 1 * from_0 + ((-1) * pos_0 + 0) ≤ 0) (kz_0_11 : 0 ≤ pos_0 ∧ pos_0 ≤ 2000) (kz_0_15 : 0 ≤ from_0 ∧ from_0 ≤ 2000) : 1 * from_0 + ((-1) * pos_0 + 0) ≤ 0 := by
  first
    | omega
    | (have q1 := (hE_0_2_1 (r_0 + 2) (by omega)).2 (by omega)
       have q2 := (hE_0_2_2 (r_0 + 2) (by omega)).2 (by omega)
       omega)
    | (have q1 := (hE_0_2_1 (r_0 + 1) (by omega)).2 (by omega)
       have q2 := (hE_0_2_2 (r_0 + 1) (by omega)).2 (by omega)
       omega)
    | (have q1 := (hE_0_2_1 (r_0 + 2) (by omega)).2 (by omega)
       omega)
    | (have q1 := (hE_0_2_1 (r_0 + 1) (by omega)).2 (by omega)
       omega)
    | (have q1 := (hE_0_2_1 (r_0 + 2) (by omega)).2 (by omega)
       have q2 := (hE_0_2_2 (r_0 + 2) (by omega)).2 (by omega)
       have q3 := (hE_0_2_3 (r_0 + 2) (by omega)).1 (by omega)
       omega)
    | (have q1 := (hE_0_2_1 (r_0 + 2) (by omega)).2 (by omega)
       have q2 := (hE_0_2_2 (r_0 + 2) (by omega)).2 (by omega)
       have q3 := (hE_0_2_3 (r_0 + 2) (by omega)).2 (by omega)
       omega)
set_option maxHeartbeats 4000000 in
theorem vc_Mo_edgeItem_24_9 (r_0 : Int) (from_0 : Int) (pos_0 : Int) (kind_0 : Int) (f13 : ((kind_0 = 1) → (pos_0 ≤ (from_0 + 8))) ∧ ((kind_0 = 0) ∨ ((from_0 + 1) ≤ pos_0))) (kz_0_11 : 0 ≤ pos_0 ∧ pos_0 ≤ 2000) (kz_0_12 : 0 ≤ kind_0 ∧ kind_0 ≤ 4) (kz_0_15 : 0 ≤ from_0 ∧ from_0 ≤ 2000) : ((kind_0 = 1) → (pos_0 ≤ (from_0 + 8))) ∧ ((kind_0 = 0) ∨ ((from_0 + 1) ≤ pos_0)) := by
  first
    | omega
    | (have q1 := (hE_0_2_1 (r_0 + 2) (by omega)).2 (by omega)
       have q2 := (hE_0_2_2 (r_0 + 2) (by omega)).2 (by omega)
       omega)
    | (have q1 := (hE_0_2_1 (r_0 + 1) (by omega)).2 (by omega)
       have q2 := (hE_0_2_2 (r_0 + 1) (by omega)).2 (by omega)
       omega)
    | (have q1 := (hE_0_2_1 (r_0 + 2) (by omega)).2 (by omega)
       omega)
    | (have q1 := (hE_0_2_1 (r_0 + 1) (by omega)).2 (by omega)
       omega)
    | (have q1 := (hE_0_2_1 (r_0 + 2) (by omega)).2 (by omega)
       have q2 := (hE_0_2_2 (r_0 + 2) (by omega)).2 (by omega)
       have q3 := (hE_0_2_3 (r_0 + 2) (by omega)).1 (by omega)
       omega)
    | (have q1 := (hE_0_2_1 (r_0 + 2) (by omega)).2 (by omega)
       have q2 := (hE_0_2_2 (r_0 + 2) (by omega)).2 (by omega)
       have q3 := (hE_0_2_3 (r_0 + 2) (by omega)).2 (by omega)
       omega)
set_option maxHeartbeats 4000000 in
theorem vc_Mo_edgeItem_24_10 (x2 : Int) (x14 : Int) (r_0 : Int) (from_0 : Int) (pos_0 : Int) (gx : Int) (gy : Int) (k2 : 0 ≤ x2 ∧ x2 ≤ 2000) (k14 : 0 ≤ x14 ∧ x14 ≤ 2000) (f0 : 1 * x2 + ((-1) * x14 + 0) ≤ (-1)) (f12 : 1 * from_0 + ((-1) * pos_0 + 0) ≤ 0) (f14 : 1 * x14 + ((-1) * from_0 + 0) ≤ 0) (kz_0_11 : 0 ≤ pos_0 ∧ pos_0 ≤ 2000) (kz_0_15 : 0 ≤ from_0 ∧ from_0 ≤ 2000) (ex2 : gx = x2) (ey2 : gy = from_0) : 1 * gx + ((-1) * pos_0 + 0) ≤ 0 := by
  first
    | omega
    | (have q1 := (hE_0_2_1 (r_0 + 2) (by omega)).2 (by omega)
       have q2 := (hE_0_2_2 (r_0 + 2) (by omega)).2 (by omega)
       omega)
    | (have q1 := (hE_0_2_1 (r_0 + 1) (by omega)).2 (by omega)
       have q2 := (hE_0_2_2 (r_0 + 1) (by omega)).2 (by omega)
       omega)
    | (have q1 := (hE_0_2_1 (r_0 + 2) (by omega)).2 (by omega)
       omega)
    | (have q1 := (hE_0_2_1 (r_0 + 1) (by omega)).2 (by omega)
       omega)
    | (have q1 := (hE_0_2_1 (r_0 + 2) (by omega)).2 (by omega)
       have q2 := (hE_0_2_2 (r_0 + 2) (by omega)).2 (by omega)
       have q3 := (hE_0_2_3 (r_0 + 2) (by omega)).1 (by omega)
       omega)
    | (have q1 := (hE_0_2_1 (r_0 + 2) (by omega)).2 (by omega)
       have q2 := (hE_0_2_2 (r_0 + 2) (by omega)).2 (by omega)
       have q3 := (hE_0_2_3 (r_0 + 2) (by omega)).2 (by omega)
       omega)
set_option maxHeartbeats 4000000 in
theorem vc_Mo_edgeItem_24_11 (r_0 : Int) (from_0 : Int) (pos_0 : Int) (kind_0 : Int) (gy : Int) (f12 : 1 * from_0 + ((-1) * pos_0 + 0) ≤ 0) (f13 : ((kind_0 = 1) → (pos_0 ≤ (from_0 + 8))) ∧ ((kind_0 = 0) ∨ ((from_0 + 1) ≤ pos_0))) (kz_0_11 : 0 ≤ pos_0 ∧ pos_0 ≤ 2000) (kz_0_12 : 0 ≤ kind_0 ∧ kind_0 ≤ 4) (kz_0_15 : 0 ≤ from_0 ∧ from_0 ≤ 2000) (ey2 : gy = from_0) : (kind_0 = 0) ∨ ((gy + 1) ≤ pos_0) := by
  first
    | omega
    | (have q1 := (hE_0_2_1 (r_0 + 2) (by omega)).2 (by omega)
       have q2 := (hE_0_2_2 (r_0 + 2) (by omega)).2 (by omega)
       omega)
    | (have q1 := (hE_0_2_1 (r_0 + 1) (by omega)).2 (by omega)
       have q2 := (hE_0_2_2 (r_0 + 1) (by omega)).2 (by omega)
       omega)
    | (have q1 := (hE_0_2_1 (r_0 + 2) (by omega)).2 (by omega)
       omega)
    | (have q1 := (hE_0_2_1 (r_0 + 1) (by omega)).2 (by omega)
       omega)
    | (have q1 := (hE_0_2_1 (r_0 + 2) (by omega)).2 (by omega)
       have q2 := (hE_0_2_2 (r_0 + 2) (by omega)).2 (by omega)
       have q3 := (hE_0_2_3 (r_0 + 2) (by omega)).1 (by omega)
       omega)
    | (have q1 := (hE_0_2_1 (r_0 + 2) (by omega)).2 (by omega)
       have q2 := (hE_0_2_2 (r_0 + 2) (by omega)).2 (by omega)
       have q3 := (hE_0_2_3 (r_0 + 2) (by omega)).2 (by omega)
       omega)
set_option maxHeartbeats 4000000 in
theorem vc_Mo_edgeItem_24_12 (x1 : Int) (all_0 : Int → Int) (r_0 : Int) (k1 : 0 ≤ x1 ∧ x1 ≤ 7) (f6 : (x1 + 1) ≤ all_0 ((r_0 + 2))) : (x1 + 1) ≤ all_0 ((r_0 + 2)) := by
  first
    | omega
    | (have q1 := (hE_0_2_1 (r_0 + 2) (by omega)).2 (by omega)
       have q2 := (hE_0_2_2 (r_0 + 2) (by omega)).2 (by omega)
       omega)
    | (have q1 := (hE_0_2_1 (r_0 + 1) (by omega)).2 (by omega)
       have q2 := (hE_0_2_2 (r_0 + 1) (by omega)).2 (by omega)
       omega)
    | (have q1 := (hE_0_2_1 (r_0 + 2) (by omega)).2 (by omega)
       omega)
    | (have q1 := (hE_0_2_1 (r_0 + 1) (by omega)).2 (by omega)
       omega)
    | (have q1 := (hE_0_2_1 (r_0 + 2) (by omega)).2 (by omega)
       have q2 := (hE_0_2_2 (r_0 + 2) (by omega)).2 (by omega)
       have q3 := (hE_0_2_3 (r_0 + 2) (by omega)).1 (by omega)
       omega)
    | (have q1 := (hE_0_2_1 (r_0 + 2) (by omega)).2 (by omega)
       have q2 := (hE_0_2_2 (r_0 + 2) (by omega)).2 (by omega)
       have q3 := (hE_0_2_3 (r_0 + 2) (by omega)).2 (by omega)
       omega)
set_option maxHeartbeats 4000000 in
theorem vc_Mo_edgeItem_24_13 (all_0 : Int → Int) (r_0 : Int) (now_0 : Int → Int) (latest_0 : Int → Int) (f8 : RWS (r_0) (all_0) (now_0) (latest_0)) : RWS (r_0) (all_0) (now_0) (latest_0) := by
  first
    | assumption
set_option maxHeartbeats 4000000 in
theorem vc_Mo_edgeItem_24_14 (x6 : Int) (all_0 : Int → Int) (fault_0 : Int) (r_0 : Int) (k6 : (-1) ≤ x6 ∧ x6 ≤ 23) (f5 : fault_0 = 0) (f9 : EDI (r_0) (fault_0) (all_0) (x6)) (kz_0_8 : 0 ≤ fault_0 ∧ fault_0 ≤ 5) : MEB (r_0) (all_0) (x6) := by
  intro q
  exact (‹EDI _ _ _ _› (by omega)).2
set_option maxHeartbeats 4000000 in
theorem vc_Mo_edgeItem_24_15 (x1 : Int) (x2 : Int) (x3 : Int) (x6 : Int) (x7 : Int) (x13 : Int) (x14 : Int) (tape_0 : Int → Int) (all_0 : Int → Int) (limit_0 : Int) (fault_0 : Int) (r_0 : Int) (from_0 : Int) (pos_0 : Int) (kind_0 : Int) (place_0 : Int) (value_0 : Int) (gx : Int) (gy : Int) (gu : Int) (gw : Int) (gc : Int) (k1 : 0 ≤ x1 ∧ x1 ≤ 7) (k2 : 0 ≤ x2 ∧ x2 ≤ 2000) (k3 : 0 ≤ x3 ∧ x3 ≤ 4) (k6 : (-1) ≤ x6 ∧ x6 ≤ 23) (k7 : 0 ≤ x7 ∧ x7 ≤ 48) (k13 : 0 ≤ x13 ∧ x13 ≤ 0) (k14 : 0 ≤ x14 ∧ x14 ≤ 2000) (f2 : zTS4 (limit_0) (fault_0) (r_0) (tape_0) (all_0) (x6) (x7) (x13) (x1) (x3) (x14)) (f15 : TKR (limit_0) (pos_0) (kind_0) (place_0) (value_0) (from_0) (tape_0) (x14)) (kz_0_8 : 0 ≤ fault_0 ∧ fault_0 ≤ 5) (kz_0_10 : 0 ≤ limit_0 ∧ limit_0 ≤ 2000) (kz_0_11 : 0 ≤ pos_0 ∧ pos_0 ≤ 2000) (kz_0_12 : 0 ≤ kind_0 ∧ kind_0 ≤ 4) (kz_0_13 : 0 ≤ place_0 ∧ place_0 ≤ 2000) (kz_0_14 : (-49) ≤ value_0 ∧ value_0 ≤ 1048575) (kz_0_15 : 0 ≤ from_0 ∧ from_0 ≤ 2000) (ex2 : gx = x2) (ey2 : gy = from_0) (eu2 : gu = x3) (ew2 : gw = x7) (ec2 : gc = x13) : zRS4 (limit_0) (pos_0) (kind_0) (place_0) (value_0) (from_0) (fault_0) (r_0) (tape_0) (all_0) (x6) (gw) (gc) (x1) (gu) := by
  first | subst ex2 | skip
  first | subst ey2 | skip
  first | subst eu2 | skip
  first | subst ew2 | skip
  first | subst ec2 | skip
  exact rsq_of ‹zTS4 _ _ _ _ _ _ _ _ _ _ _› ‹TKR _ _ _ _ _ _ _ _›
set_option maxHeartbeats 4000000 in
theorem vc_Mo_edgeItem_24_16 (x6 : Int) (r_0 : Int) (k6 : (-1) ≤ x6 ∧ x6 ≤ 23) (f4 : (-1) * x6 + 0 ≤ 0) : 0 ≤ x6 := by
  first
    | omega
    | (have q1 := (hE_0_2_1 (r_0 + 2) (by omega)).2 (by omega)
       have q2 := (hE_0_2_2 (r_0 + 2) (by omega)).2 (by omega)
       omega)
    | (have q1 := (hE_0_2_1 (r_0 + 1) (by omega)).2 (by omega)
       have q2 := (hE_0_2_2 (r_0 + 1) (by omega)).2 (by omega)
       omega)
    | (have q1 := (hE_0_2_1 (r_0 + 2) (by omega)).2 (by omega)
       omega)
    | (have q1 := (hE_0_2_1 (r_0 + 1) (by omega)).2 (by omega)
       omega)
    | (have q1 := (hE_0_2_1 (r_0 + 2) (by omega)).2 (by omega)
       have q2 := (hE_0_2_2 (r_0 + 2) (by omega)).2 (by omega)
       have q3 := (hE_0_2_3 (r_0 + 2) (by omega)).1 (by omega)
       omega)
    | (have q1 := (hE_0_2_1 (r_0 + 2) (by omega)).2 (by omega)
       have q2 := (hE_0_2_2 (r_0 + 2) (by omega)).2 (by omega)
       have q3 := (hE_0_2_3 (r_0 + 2) (by omega)).2 (by omega)
       omega)
set_option maxHeartbeats 4000000 in
theorem vc_Mo_edgeItem_24_17 (x8 : Int) (x14 : Int) (r_0 : Int) (from_0 : Int) (gy : Int) (k8 : 0 ≤ x8 ∧ x8 ≤ 2000) (k14 : 0 ≤ x14 ∧ x14 ≤ 2000) (f1 : (-1) * x8 + ((-1) * x14 + 0) ≤ (-2000)) (f14 : 1 * x14 + ((-1) * from_0 + 0) ≤ 0) (kz_0_15 : 0 ≤ from_0 ∧ from_0 ≤ 2000) (ey2 : gy = from_0) : (-1) * x8 + ((-1) * gy + 0) ≤ (-2000) := by
  first
    | omega
    | (have q1 := (hE_0_2_1 (r_0 + 2) (by omega)).2 (by omega)
       have q2 := (hE_0_2_2 (r_0 + 2) (by omega)).2 (by omega)
       omega)
    | (have q1 := (hE_0_2_1 (r_0 + 1) (by omega)).2 (by omega)
       have q2 := (hE_0_2_2 (r_0 + 1) (by omega)).2 (by omega)
       omega)
    | (have q1 := (hE_0_2_1 (r_0 + 2) (by omega)).2 (by omega)
       omega)
    | (have q1 := (hE_0_2_1 (r_0 + 1) (by omega)).2 (by omega)
       omega)
    | (have q1 := (hE_0_2_1 (r_0 + 2) (by omega)).2 (by omega)
       have q2 := (hE_0_2_2 (r_0 + 2) (by omega)).2 (by omega)
       have q3 := (hE_0_2_3 (r_0 + 2) (by omega)).1 (by omega)
       omega)
    | (have q1 := (hE_0_2_1 (r_0 + 2) (by omega)).2 (by omega)
       have q2 := (hE_0_2_2 (r_0 + 2) (by omega)).2 (by omega)
       have q3 := (hE_0_2_3 (r_0 + 2) (by omega)).2 (by omega)
       omega)
set_option maxHeartbeats 4000000 in
theorem vc_Mo_edgeItem_24_18 (x2 : Int) (x14 : Int) (r_0 : Int) (from_0 : Int) (gx : Int) (gy : Int) (k2 : 0 ≤ x2 ∧ x2 ≤ 2000) (k14 : 0 ≤ x14 ∧ x14 ≤ 2000) (f0 : 1 * x2 + ((-1) * x14 + 0) ≤ (-1)) (f14 : 1 * x14 + ((-1) * from_0 + 0) ≤ 0) (kz_0_15 : 0 ≤ from_0 ∧ from_0 ≤ 2000) (ex2 : gx = x2) (ey2 : gy = from_0) : 1 * x2 + ((-1) * gy + 0) ≤ (-1) := by
  first
    | omega
    | (have q1 := (hE_0_2_1 (r_0 + 2) (by omega)).2 (by omega)
       have q2 := (hE_0_2_2 (r_0 + 2) (by omega)).2 (by omega)
       omega)
    | (have q1 := (hE_0_2_1 (r_0 + 1) (by omega)).2 (by omega)
       have q2 := (hE_0_2_2 (r_0 + 1) (by omega)).2 (by omega)
       omega)
    | (have q1 := (hE_0_2_1 (r_0 + 2) (by omega)).2 (by omega)
       omega)
    | (have q1 := (hE_0_2_1 (r_0 + 1) (by omega)).2 (by omega)
       omega)
    | (have q1 := (hE_0_2_1 (r_0 + 2) (by omega)).2 (by omega)
       have q2 := (hE_0_2_2 (r_0 + 2) (by omega)).2 (by omega)
       have q3 := (hE_0_2_3 (r_0 + 2) (by omega)).1 (by omega)
       omega)
    | (have q1 := (hE_0_2_1 (r_0 + 2) (by omega)).2 (by omega)
       have q2 := (hE_0_2_2 (r_0 + 2) (by omega)).2 (by omega)
       have q3 := (hE_0_2_3 (r_0 + 2) (by omega)).2 (by omega)
       omega)
def o_Mo_edgeItem_24 : or_T := (87, 15, [(0, (2, 0, 0, [165])), (1, (0, 0, 7, [])), (2, (0, 0, 2000, [])), (3, (0, 0, 4, [])), (4, (2, 0, 0, [165])), (5, (0, 0, 7, [])), (6, (0, -1, 23, [])), (7, (0, 0, 48, [])), (8, (0, 0, 2000, [])), (13, (0, 0, 0, [])), (14, (0, 0, 2000, []))], [(23, [2, 14], [-1, 1, -1]), (23, [8, 14], [-2000, -1, -1]), (20, [4, 6, 7, 13, 5, 3, 14], [60, 3, 2, 973, 10, 8, 5, 1, 2]), (20, [2, 14], [30, 0, 1, 0, 0, -1, 0, 0]), (23, [6], [0, -1]), (20, [4], [50, 1, 0, 8, 1, 3, 2, 0, 8, 0, 0]), (20, [5, 4], [50, 1, 1, 1005, 1002, 0, 6, 4, 2, 1, 0, 0, 1, 3, 1, 2, 4, 3, 2, 1, 5, 0, 2]), (20, [4, 6], [31, 1, -1, -1, 1, 8, 0, -1, 0, 0]), (20, [4], [60, 1, 3, 199, 5, 2, 3, 4]), (20, [4, 6], [60, 2, 1, 242, 5, 8, 2]), (24, [0, 4], []), (24, [1, 5], []), (20, [4, 4], [30, 0, 1, 1, 15, -1, 1, 11]), (20, [4], [50, 3, 0, 12, 11, 15, 2, 21, 4, 7, 1, 3, 2, 0, 12, 0, 1, 0, 3, 2, 0, 11, 4, 3, 2, 0, 15, 0, 8, 3, 7, 1, 3, 2, 0, 12, 0, 0, 0, 7, 4, 3, 2, 0, 15, 0, 1, 2, 0, 11]), (20, [14, 4], [30, 0, 1, 0, 0, -1, 1, 15]), (20, [4, 14], [60, 6, 1, 948, 10, 11, 12, 13, 14, 15, 1]), (102, [14], [0, 165011, 165012, 165013, 165014, 165015]), (23, [2, 14], [-1, 1, -1]), (23, [8, 14], [-2000, -1, -1]), (23, [6], [0, -1])], [], [(0, 0, 2000, []), (0, 0, 2000, []), (0, 0, 4, []), (0, 0, 48, []), (0, 0, 1, [])], [(23, [15, 2], [0, 1, -1]), (23, [15, 2], [0, -1, 1]), (23, [17, 3], [0, 1, -1]), (23, [17, 3], [0, -1, 1]), (23, [18, 7], [0, 1, -1]), (23, [18, 7], [0, -1, 1]), (23, [19, 13], [0, 1, -1]), (23, [19, 13], [0, -1, 1]), (20, [4, 4], [30, 0, 1, 1, 15, -1, 1, 11]), (20, [4], [50, 3, 0, 12, 11, 15, 2, 21, 4, 7, 1, 3, 2, 0, 12, 0, 1, 0, 3, 2, 0, 11, 4, 3, 2, 0, 15, 0, 8, 3, 7, 1, 3, 2, 0, 12, 0, 0, 0, 7, 4, 3, 2, 0, 15, 0, 1, 2, 0, 11]), (20, [15, 4], [30, 0, 1, 0, 0, -1, 1, 11]), (20, [4, 16], [50, 2, 0, 12, 11, 3, 7, 1, 3, 2, 0, 12, 0, 0, 0, 6, 4, 2, 1, 1, 0, 1, 2, 0, 11]), (20, [5, 4], [50, 1, 1, 1005, 1002, 0, 6, 4, 2, 1, 0, 0, 1, 3, 1, 2, 4, 3, 2, 1, 5, 0, 2]), (20, [4], [60, 1, 3, 199, 5, 2, 3, 4]), (20, [4, 6], [60, 1, 1, 241, 5, 2]), (20, [4, 6, 18, 19, 5, 17], [60, 8, 2, 993, 10, 11, 12, 13, 14, 15, 8, 5, 1, 2]), (20, [6], [50, 0, 0, 0, 2, 0, 0, 1, 0]), (23, [8, 16], [-2000, -1, -1]), (23, [2, 16], [-1, 1, -1])], [], [(1, 5, -4294967296, 0), (5, 1, -4294967296, 0)])
theorem oo_Mo_edgeItem_24 {kA : Nat → ClassId} : or_ok PRD kA GG o_Mo_edgeItem_24 := by
  refine or_mk fun A ta ws vs hD hth hl => ?_
  intro t0 r0 t1 k1 t2 k2 t3 k3 t4 r4 t5 k5 t6 k6 t7 k7 t8 k8 t13 k13 t14 k14 d0 d1 f0 f1 f2 f3 f4 f5 f6 f7 f8 f9 f10 f11 f12 f13 f14 f15 ta1 w1 le1 s1 f17 f18 f19
  replace f0 := shm_193 f0
  replace f1 := shm_2009 f1
  replace f2 := shm_2157 f2
  replace f4 := shm_1043 f4
  replace f5 := shm_2156 f5
  replace f6 := shm_1009 f6
  replace f8 := shm_980 f8
  replace f9 := shm_2152 f9
  replace f10 := shm_5 f10
  replace f11 := shm_5 f11
  replace f12 := shm_1437 f12
  replace f13 := shm_1438 f13
  replace f14 := shm_1436 f14
  replace f15 := shm_1439 f15
  have q4 : n_v vs 4 = n_v vs 0 := f10.symm
  have q5 : n_v vs 5 = n_v vs 1 := f11.symm
  simp only [q4, q5] at f2 f5 f6 f8 f9 f12 f13 f14 f15
  have kz_0_8 := fdq_34 hD hth r0
  have kz_0_10 := fdq_43 hD hth r0
  have kz_0_11 := fdq_237 hD hth r0
  have kz_0_12 := fdq_187 hD hth r0
  have kz_0_13 := fdq_238 hD hth r0
  have kz_0_14 := fdq_188 hD hth r0
  have kz_0_15 := fdq_239 hD hth r0
  obtain ⟨x, ex, hx⟩ := iv_ex (ta := ta) (lo := 0) (hi := 2000) (z := v_iv (n_v vs 2)) (by omega) (by omega) (by omega) (by omega)
  have ex2 : v_iv (Value.int x) = v_iv (n_v vs 2) := ex
  have ex3 : 0 ≤ v_iv (Value.int x) ∧ v_iv (Value.int x) ≤ 2000 := tv_rng hx
  obtain ⟨y, ey, hy⟩ := iv_ex (ta := ta) (lo := 0) (hi := 2000) (z := w_fi ws (n_v vs 0) 15) (by omega) (by omega) (by omega) (by omega)
  have ey2 : v_iv (Value.int y) = w_fi ws (n_v vs 0) 15 := ey
  have ey3 : 0 ≤ v_iv (Value.int y) ∧ v_iv (Value.int y) ≤ 2000 := tv_rng hy
  obtain ⟨u, eu, hu⟩ := iv_ex (ta := ta) (lo := 0) (hi := 4) (z := v_iv (n_v vs 3)) (by omega) (by omega) (by omega) (by omega)
  have eu2 : v_iv (Value.int u) = v_iv (n_v vs 3) := eu
  have eu3 : 0 ≤ v_iv (Value.int u) ∧ v_iv (Value.int u) ≤ 4 := tv_rng hu
  obtain ⟨w, ew, hw⟩ := iv_ex (ta := ta) (lo := 0) (hi := 48) (z := v_iv (n_v vs 7)) (by omega) (by omega) (by omega) (by omega)
  have ew2 : v_iv (Value.int w) = v_iv (n_v vs 7) := ew
  have ew3 : 0 ≤ v_iv (Value.int w) ∧ v_iv (Value.int w) ≤ 48 := tv_rng hw
  obtain ⟨c, ec, hc⟩ := iv_ex (ta := ta) (lo := 0) (hi := 1) (z := v_iv (n_v vs 13)) (by omega) (by omega) (by omega) (by omega)
  have ec2 : v_iv (Value.int c) = v_iv (n_v vs 13) := ec
  have ec3 : 0 ≤ v_iv (Value.int c) ∧ v_iv (Value.int c) ≤ 1 := tv_rng hc
  have e_2 : n_v (vs ++ [Value.int x, Value.int y, Value.int u, Value.int w, Value.int c]) 2 = n_v vs 2 := n_v_old (by rw [hl]; decide)
  have e_3 : n_v (vs ++ [Value.int x, Value.int y, Value.int u, Value.int w, Value.int c]) 3 = n_v vs 3 := n_v_old (by rw [hl]; decide)
  have e_4 : n_v (vs ++ [Value.int x, Value.int y, Value.int u, Value.int w, Value.int c]) 4 = n_v vs 4 := n_v_old (by rw [hl]; decide)
  have e_5 : n_v (vs ++ [Value.int x, Value.int y, Value.int u, Value.int w, Value.int c]) 5 = n_v vs 5 := n_v_old (by rw [hl]; decide)
  have e_6 : n_v (vs ++ [Value.int x, Value.int y, Value.int u, Value.int w, Value.int c]) 6 = n_v vs 6 := n_v_old (by rw [hl]; decide)
  have e_7 : n_v (vs ++ [Value.int x, Value.int y, Value.int u, Value.int w, Value.int c]) 7 = n_v vs 7 := n_v_old (by rw [hl]; decide)
  have e_8 : n_v (vs ++ [Value.int x, Value.int y, Value.int u, Value.int w, Value.int c]) 8 = n_v vs 8 := n_v_old (by rw [hl]; decide)
  have e_13 : n_v (vs ++ [Value.int x, Value.int y, Value.int u, Value.int w, Value.int c]) 13 = n_v vs 13 := n_v_old (by rw [hl]; decide)
  have e_15 : n_v (vs ++ [Value.int x, Value.int y, Value.int u, Value.int w, Value.int c]) 15 = Value.int x := n_v_newk (k := 0) hl rfl
  have e_16 : n_v (vs ++ [Value.int x, Value.int y, Value.int u, Value.int w, Value.int c]) 16 = Value.int y := n_v_newk (k := 1) hl rfl
  have e_17 : n_v (vs ++ [Value.int x, Value.int y, Value.int u, Value.int w, Value.int c]) 17 = Value.int u := n_v_newk (k := 2) hl rfl
  have e_18 : n_v (vs ++ [Value.int x, Value.int y, Value.int u, Value.int w, Value.int c]) 18 = Value.int w := n_v_newk (k := 3) hl rfl
  have e_19 : n_v (vs ++ [Value.int x, Value.int y, Value.int u, Value.int w, Value.int c]) 19 = Value.int c := n_v_newk (k := 4) hl rfl
  have nf0 : fc_1 PRD (23, [15, 2], [0, 1, -1]) ws (vs ++ [Value.int x, Value.int y, Value.int u, Value.int w, Value.int c]) := by
    refine ⟨nf_inA hl rfl, sgq_7 ?_⟩
    · show 1 * v_iv (n_v (vs ++ [Value.int x, Value.int y, Value.int u, Value.int w, Value.int c]) 15) + ((-1) * v_iv (n_v (vs ++ [Value.int x, Value.int y, Value.int u, Value.int w, Value.int c]) 2) + 0) ≤ 0
      simp only [e_2, e_15]
      exact vc_Mo_edgeItem_24_0 (v_iv (n_v vs 2)) (w_fi ws (n_v vs 0) 5) (v_iv (Value.int x)) k2 ex2
  have nf1 : fc_1 PRD (23, [15, 2], [0, -1, 1]) ws (vs ++ [Value.int x, Value.int y, Value.int u, Value.int w, Value.int c]) := by
    refine ⟨nf_inA hl rfl, sgq_22 ?_⟩
    · show (-1) * v_iv (n_v (vs ++ [Value.int x, Value.int y, Value.int u, Value.int w, Value.int c]) 15) + (1 * v_iv (n_v (vs ++ [Value.int x, Value.int y, Value.int u, Value.int w, Value.int c]) 2) + 0) ≤ 0
      simp only [e_2, e_15]
      exact vc_Mo_edgeItem_24_1 (v_iv (n_v vs 2)) (w_fi ws (n_v vs 0) 5) (v_iv (Value.int x)) k2 ex2
  have nf2 : fc_1 PRD (23, [17, 3], [0, 1, -1]) ws (vs ++ [Value.int x, Value.int y, Value.int u, Value.int w, Value.int c]) := by
    refine ⟨nf_inA hl rfl, sgq_7 ?_⟩
    · show 1 * v_iv (n_v (vs ++ [Value.int x, Value.int y, Value.int u, Value.int w, Value.int c]) 17) + ((-1) * v_iv (n_v (vs ++ [Value.int x, Value.int y, Value.int u, Value.int w, Value.int c]) 3) + 0) ≤ 0
      simp only [e_3, e_17]
      exact vc_Mo_edgeItem_24_2 (v_iv (n_v vs 3)) (w_fi ws (n_v vs 0) 5) (v_iv (Value.int u)) k3 eu2
  have nf3 : fc_1 PRD (23, [17, 3], [0, -1, 1]) ws (vs ++ [Value.int x, Value.int y, Value.int u, Value.int w, Value.int c]) := by
    refine ⟨nf_inA hl rfl, sgq_22 ?_⟩
    · show (-1) * v_iv (n_v (vs ++ [Value.int x, Value.int y, Value.int u, Value.int w, Value.int c]) 17) + (1 * v_iv (n_v (vs ++ [Value.int x, Value.int y, Value.int u, Value.int w, Value.int c]) 3) + 0) ≤ 0
      simp only [e_3, e_17]
      exact vc_Mo_edgeItem_24_3 (v_iv (n_v vs 3)) (w_fi ws (n_v vs 0) 5) (v_iv (Value.int u)) k3 eu2
  have nf4 : fc_1 PRD (23, [18, 7], [0, 1, -1]) ws (vs ++ [Value.int x, Value.int y, Value.int u, Value.int w, Value.int c]) := by
    refine ⟨nf_inA hl rfl, sgq_7 ?_⟩
    · show 1 * v_iv (n_v (vs ++ [Value.int x, Value.int y, Value.int u, Value.int w, Value.int c]) 18) + ((-1) * v_iv (n_v (vs ++ [Value.int x, Value.int y, Value.int u, Value.int w, Value.int c]) 7) + 0) ≤ 0
      simp only [e_7, e_18]
      exact vc_Mo_edgeItem_24_4 (v_iv (n_v vs 7)) (w_fi ws (n_v vs 0) 5) (v_iv (Value.int w)) k7 ew2
  have nf5 : fc_1 PRD (23, [18, 7], [0, -1, 1]) ws (vs ++ [Value.int x, Value.int y, Value.int u, Value.int w, Value.int c]) := by
    refine ⟨nf_inA hl rfl, sgq_22 ?_⟩
    · show (-1) * v_iv (n_v (vs ++ [Value.int x, Value.int y, Value.int u, Value.int w, Value.int c]) 18) + (1 * v_iv (n_v (vs ++ [Value.int x, Value.int y, Value.int u, Value.int w, Value.int c]) 7) + 0) ≤ 0
      simp only [e_7, e_18]
      exact vc_Mo_edgeItem_24_5 (v_iv (n_v vs 7)) (w_fi ws (n_v vs 0) 5) (v_iv (Value.int w)) k7 ew2
  have nf6 : fc_1 PRD (23, [19, 13], [0, 1, -1]) ws (vs ++ [Value.int x, Value.int y, Value.int u, Value.int w, Value.int c]) := by
    refine ⟨nf_inA hl rfl, sgq_7 ?_⟩
    · show 1 * v_iv (n_v (vs ++ [Value.int x, Value.int y, Value.int u, Value.int w, Value.int c]) 19) + ((-1) * v_iv (n_v (vs ++ [Value.int x, Value.int y, Value.int u, Value.int w, Value.int c]) 13) + 0) ≤ 0
      simp only [e_13, e_19]
      exact vc_Mo_edgeItem_24_6 (v_iv (n_v vs 13)) (w_fi ws (n_v vs 0) 5) (v_iv (Value.int c)) k13 ec2
  have nf7 : fc_1 PRD (23, [19, 13], [0, -1, 1]) ws (vs ++ [Value.int x, Value.int y, Value.int u, Value.int w, Value.int c]) := by
    refine ⟨nf_inA hl rfl, sgq_22 ?_⟩
    · show (-1) * v_iv (n_v (vs ++ [Value.int x, Value.int y, Value.int u, Value.int w, Value.int c]) 19) + (1 * v_iv (n_v (vs ++ [Value.int x, Value.int y, Value.int u, Value.int w, Value.int c]) 13) + 0) ≤ 0
      simp only [e_13, e_19]
      exact vc_Mo_edgeItem_24_7 (v_iv (n_v vs 13)) (w_fi ws (n_v vs 0) 5) (v_iv (Value.int c)) k13 ec2
  have nf8 : fc_1 PRD (20, [4, 4], [30, 0, 1, 1, 15, -1, 1, 11]) ws (vs ++ [Value.int x, Value.int y, Value.int u, Value.int w, Value.int c]) := by
    refine ⟨nf_inA hl rfl, sgq_1437 ?_⟩
    · show 1 * w_fi ws (n_v (vs ++ [Value.int x, Value.int y, Value.int u, Value.int w, Value.int c]) 4) 15 + ((-1) * w_fi ws (n_v (vs ++ [Value.int x, Value.int y, Value.int u, Value.int w, Value.int c]) 4) 11 + 0) ≤ 0
      simp only [e_4, q4]
      exact vc_Mo_edgeItem_24_8 (w_fi ws (n_v vs 0) 5) (w_fi ws (n_v vs 0) 15) (w_fi ws (n_v vs 0) 11) f12 kz_0_11 kz_0_15
  have nf9 : fc_1 PRD (20, [4], [50, 3, 0, 12, 11, 15, 2, 21, 4, 7, 1, 3, 2, 0, 12, 0, 1, 0, 3, 2, 0, 11, 4, 3, 2, 0, 15, 0, 8, 3, 7, 1, 3, 2, 0, 12, 0, 0, 0, 7, 4, 3, 2, 0, 15, 0, 1, 2, 0, 11]) ws (vs ++ [Value.int x, Value.int y, Value.int u, Value.int w, Value.int c]) := by
    refine ⟨nf_inA hl rfl, sgq_1438 ?_⟩
    · show ((w_fi ws (n_v (vs ++ [Value.int x, Value.int y, Value.int u, Value.int w, Value.int c]) 4) 12 = 1) → (w_fi ws (n_v (vs ++ [Value.int x, Value.int y, Value.int u, Value.int w, Value.int c]) 4) 11 ≤ (w_fi ws (n_v (vs ++ [Value.int x, Value.int y, Value.int u, Value.int w, Value.int c]) 4) 15 + 8))) ∧ ((w_fi ws (n_v (vs ++ [Value.int x, Value.int y, Value.int u, Value.int w, Value.int c]) 4) 12 = 0) ∨ ((w_fi ws (n_v (vs ++ [Value.int x, Value.int y, Value.int u, Value.int w, Value.int c]) 4) 15 + 1) ≤ w_fi ws (n_v (vs ++ [Value.int x, Value.int y, Value.int u, Value.int w, Value.int c]) 4) 11))
      simp only [e_4, q4]
      exact vc_Mo_edgeItem_24_9 (w_fi ws (n_v vs 0) 5) (w_fi ws (n_v vs 0) 15) (w_fi ws (n_v vs 0) 11) (w_fi ws (n_v vs 0) 12) f13 kz_0_11 kz_0_12 kz_0_15
  have nf10 : fc_1 PRD (20, [15, 4], [30, 0, 1, 0, 0, -1, 1, 11]) ws (vs ++ [Value.int x, Value.int y, Value.int u, Value.int w, Value.int c]) := by
    refine ⟨nf_inA hl rfl, sgq_1431 ?_⟩
    · show 1 * v_iv (n_v (vs ++ [Value.int x, Value.int y, Value.int u, Value.int w, Value.int c]) 15) + ((-1) * w_fi ws (n_v (vs ++ [Value.int x, Value.int y, Value.int u, Value.int w, Value.int c]) 4) 11 + 0) ≤ 0
      simp only [e_4, e_15, q4]
      exact vc_Mo_edgeItem_24_10 (v_iv (n_v vs 2)) (v_iv (n_v vs 14)) (w_fi ws (n_v vs 0) 5) (w_fi ws (n_v vs 0) 15) (w_fi ws (n_v vs 0) 11) (v_iv (Value.int x)) (v_iv (Value.int y)) k2 k14 f0 f12 f14 kz_0_11 kz_0_15 ex2 ey2
  have nf11 : fc_1 PRD (20, [4, 16], [50, 2, 0, 12, 11, 3, 7, 1, 3, 2, 0, 12, 0, 0, 0, 6, 4, 2, 1, 1, 0, 1, 2, 0, 11]) ws (vs ++ [Value.int x, Value.int y, Value.int u, Value.int w, Value.int c]) := by
    refine ⟨nf_inA hl rfl, sgq_2111 ?_⟩
    · show (w_fi ws (n_v (vs ++ [Value.int x, Value.int y, Value.int u, Value.int w, Value.int c]) 4) 12 = 0) ∨ ((v_iv (n_v (vs ++ [Value.int x, Value.int y, Value.int u, Value.int w, Value.int c]) 16) + 1) ≤ w_fi ws (n_v (vs ++ [Value.int x, Value.int y, Value.int u, Value.int w, Value.int c]) 4) 11)
      simp only [e_4, e_16, q4]
      exact vc_Mo_edgeItem_24_11 (w_fi ws (n_v vs 0) 5) (w_fi ws (n_v vs 0) 15) (w_fi ws (n_v vs 0) 11) (w_fi ws (n_v vs 0) 12) (v_iv (Value.int y)) f12 f13 kz_0_11 kz_0_12 kz_0_15 ey2
  have nf12 : fc_1 PRD (20, [5, 4], [50, 1, 1, 1005, 1002, 0, 6, 4, 2, 1, 0, 0, 1, 3, 1, 2, 4, 3, 2, 1, 5, 0, 2]) ws (vs ++ [Value.int x, Value.int y, Value.int u, Value.int w, Value.int c]) := by
    refine ⟨nf_inA hl rfl, sgq_1009 ?_⟩
    · show (v_iv (n_v (vs ++ [Value.int x, Value.int y, Value.int u, Value.int w, Value.int c]) 5) + 1) ≤ w_ei ws (w_ar ws (n_v (vs ++ [Value.int x, Value.int y, Value.int u, Value.int w, Value.int c]) 4) 2) ((w_fi ws (n_v (vs ++ [Value.int x, Value.int y, Value.int u, Value.int w, Value.int c]) 4) 5 + 2))
      simp only [e_4, e_5, q4, q5]
      exact vc_Mo_edgeItem_24_12 (v_iv (n_v vs 1)) (w_ei ws (w_ar ws (n_v vs 0) 2)) (w_fi ws (n_v vs 0) 5) k1 f6
  have nf13 : fc_1 PRD (20, [4], [60, 1, 3, 199, 5, 2, 3, 4]) ws (vs ++ [Value.int x, Value.int y, Value.int u, Value.int w, Value.int c]) := by
    refine ⟨nf_inA hl rfl, sgq_980 ?_⟩
    · show RWS (w_fi ws (n_v (vs ++ [Value.int x, Value.int y, Value.int u, Value.int w, Value.int c]) 4) 5) (w_ei ws (w_ar ws (n_v (vs ++ [Value.int x, Value.int y, Value.int u, Value.int w, Value.int c]) 4) 2)) (w_ei ws (w_ar ws (n_v (vs ++ [Value.int x, Value.int y, Value.int u, Value.int w, Value.int c]) 4) 3)) (w_ei ws (w_ar ws (n_v (vs ++ [Value.int x, Value.int y, Value.int u, Value.int w, Value.int c]) 4) 4))
      simp only [e_4, q4]
      exact vc_Mo_edgeItem_24_13 (w_ei ws (w_ar ws (n_v vs 0) 2)) (w_fi ws (n_v vs 0) 5) (w_ei ws (w_ar ws (n_v vs 0) 3)) (w_ei ws (w_ar ws (n_v vs 0) 4)) f8
  have nf14 : fc_1 PRD (20, [4, 6], [60, 1, 1, 241, 5, 2]) ws (vs ++ [Value.int x, Value.int y, Value.int u, Value.int w, Value.int c]) := by
    refine ⟨nf_inA hl rfl, sgq_2112 ?_⟩
    · show MEB (w_fi ws (n_v (vs ++ [Value.int x, Value.int y, Value.int u, Value.int w, Value.int c]) 4) 5) (w_ei ws (w_ar ws (n_v (vs ++ [Value.int x, Value.int y, Value.int u, Value.int w, Value.int c]) 4) 2)) (v_iv (n_v (vs ++ [Value.int x, Value.int y, Value.int u, Value.int w, Value.int c]) 6))
      simp only [e_4, e_6, q4]
      exact vc_Mo_edgeItem_24_14 (v_iv (n_v vs 6)) (w_ei ws (w_ar ws (n_v vs 0) 2)) (w_fi ws (n_v vs 0) 8) (w_fi ws (n_v vs 0) 5) k6 f5 f9 kz_0_8
  have nf15 : fc_1 PRD (20, [4, 6, 18, 19, 5, 17], [60, 8, 2, 993, 10, 11, 12, 13, 14, 15, 8, 5, 1, 2]) ws (vs ++ [Value.int x, Value.int y, Value.int u, Value.int w, Value.int c]) := by
    refine ⟨nf_inA hl rfl, sgq_2126 ?_⟩
    · show zRS4 (w_fi ws (n_v (vs ++ [Value.int x, Value.int y, Value.int u, Value.int w, Value.int c]) 4) 10) (w_fi ws (n_v (vs ++ [Value.int x, Value.int y, Value.int u, Value.int w, Value.int c]) 4) 11) (w_fi ws (n_v (vs ++ [Value.int x, Value.int y, Value.int u, Value.int w, Value.int c]) 4) 12) (w_fi ws (n_v (vs ++ [Value.int x, Value.int y, Value.int u, Value.int w, Value.int c]) 4) 13) (w_fi ws (n_v (vs ++ [Value.int x, Value.int y, Value.int u, Value.int w, Value.int c]) 4) 14) (w_fi ws (n_v (vs ++ [Value.int x, Value.int y, Value.int u, Value.int w, Value.int c]) 4) 15) (w_fi ws (n_v (vs ++ [Value.int x, Value.int y, Value.int u, Value.int w, Value.int c]) 4) 8) (w_fi ws (n_v (vs ++ [Value.int x, Value.int y, Value.int u, Value.int w, Value.int c]) 4) 5) (w_ei ws (w_ar ws (n_v (vs ++ [Value.int x, Value.int y, Value.int u, Value.int w, Value.int c]) 4) 1)) (w_ei ws (w_ar ws (n_v (vs ++ [Value.int x, Value.int y, Value.int u, Value.int w, Value.int c]) 4) 2)) (v_iv (n_v (vs ++ [Value.int x, Value.int y, Value.int u, Value.int w, Value.int c]) 6)) (v_iv (n_v (vs ++ [Value.int x, Value.int y, Value.int u, Value.int w, Value.int c]) 18)) (v_iv (n_v (vs ++ [Value.int x, Value.int y, Value.int u, Value.int w, Value.int c]) 19)) (v_iv (n_v (vs ++ [Value.int x, Value.int y, Value.int u, Value.int w, Value.int c]) 5)) (v_iv (n_v (vs ++ [Value.int x, Value.int y, Value.int u, Value.int w, Value.int c]) 17))
      simp only [e_4, e_5, e_6, e_17, e_18, e_19, q4, q5]
      exact vc_Mo_edgeItem_24_15 (v_iv (n_v vs 1)) (v_iv (n_v vs 2)) (v_iv (n_v vs 3)) (v_iv (n_v vs 6)) (v_iv (n_v vs 7)) (v_iv (n_v vs 13)) (v_iv (n_v vs 14)) (w_ei ws (w_ar ws (n_v vs 0) 1)) (w_ei ws (w_ar ws (n_v vs 0) 2)) (w_fi ws (n_v vs 0) 10) (w_fi ws (n_v vs 0) 8) (w_fi ws (n_v vs 0) 5) (w_fi ws (n_v vs 0) 15) (w_fi ws (n_v vs 0) 11) (w_fi ws (n_v vs 0) 12) (w_fi ws (n_v vs 0) 13) (w_fi ws (n_v vs 0) 14) (v_iv (Value.int x)) (v_iv (Value.int y)) (v_iv (Value.int u)) (v_iv (Value.int w)) (v_iv (Value.int c)) k1 k2 k3 k6 k7 k13 k14 f2 f15 kz_0_8 kz_0_10 kz_0_11 kz_0_12 kz_0_13 kz_0_14 kz_0_15 ex2 ey2 eu2 ew2 ec2
  have nf16 : fc_1 PRD (20, [6], [50, 0, 0, 0, 2, 0, 0, 1, 0]) ws (vs ++ [Value.int x, Value.int y, Value.int u, Value.int w, Value.int c]) := by
    refine ⟨nf_inA hl rfl, sgq_722 ?_⟩
    · show 0 ≤ v_iv (n_v (vs ++ [Value.int x, Value.int y, Value.int u, Value.int w, Value.int c]) 6)
      rw [e_6]
      exact vc_Mo_edgeItem_24_16 (v_iv (n_v vs 6)) (w_fi ws (n_v vs 0) 5) k6 f4
  have nf17 : fc_1 PRD (23, [8, 16], [-2000, -1, -1]) ws (vs ++ [Value.int x, Value.int y, Value.int u, Value.int w, Value.int c]) := by
    refine ⟨nf_inA hl rfl, sgq_2009 ?_⟩
    · show (-1) * v_iv (n_v (vs ++ [Value.int x, Value.int y, Value.int u, Value.int w, Value.int c]) 8) + ((-1) * v_iv (n_v (vs ++ [Value.int x, Value.int y, Value.int u, Value.int w, Value.int c]) 16) + 0) ≤ (-2000)
      simp only [e_8, e_16]
      exact vc_Mo_edgeItem_24_17 (v_iv (n_v vs 8)) (v_iv (n_v vs 14)) (w_fi ws (n_v vs 0) 5) (w_fi ws (n_v vs 0) 15) (v_iv (Value.int y)) k8 k14 f1 f14 kz_0_15 ey2
  have nf18 : fc_1 PRD (23, [2, 16], [-1, 1, -1]) ws (vs ++ [Value.int x, Value.int y, Value.int u, Value.int w, Value.int c]) := by
    refine ⟨nf_inA hl rfl, sgq_193 ?_⟩
    · show 1 * v_iv (n_v (vs ++ [Value.int x, Value.int y, Value.int u, Value.int w, Value.int c]) 2) + ((-1) * v_iv (n_v (vs ++ [Value.int x, Value.int y, Value.int u, Value.int w, Value.int c]) 16) + 0) ≤ (-1)
      simp only [e_2, e_16]
      exact vc_Mo_edgeItem_24_18 (v_iv (n_v vs 2)) (v_iv (n_v vs 14)) (w_fi ws (n_v vs 0) 5) (w_fi ws (n_v vs 0) 15) (v_iv (Value.int x)) (v_iv (Value.int y)) k2 k14 f0 f14 kz_0_15 ex2 ey2
  exact ⟨(fun _ h => (by cases h)), [Value.int x, Value.int y, Value.int u, Value.int w, Value.int c], ag_five hx hy hu hw hc, List.forall_mem_cons.mpr ⟨⟨show (23 : Nat) < 100 from by decide, nf0⟩, List.forall_mem_cons.mpr ⟨⟨show (23 : Nat) < 100 from by decide, nf1⟩, List.forall_mem_cons.mpr ⟨⟨show (23 : Nat) < 100 from by decide, nf2⟩, List.forall_mem_cons.mpr ⟨⟨show (23 : Nat) < 100 from by decide, nf3⟩, List.forall_mem_cons.mpr ⟨⟨show (23 : Nat) < 100 from by decide, nf4⟩, List.forall_mem_cons.mpr ⟨⟨show (23 : Nat) < 100 from by decide, nf5⟩, List.forall_mem_cons.mpr ⟨⟨show (23 : Nat) < 100 from by decide, nf6⟩, List.forall_mem_cons.mpr ⟨⟨show (23 : Nat) < 100 from by decide, nf7⟩, List.forall_mem_cons.mpr ⟨⟨show (20 : Nat) < 100 from by decide, nf8⟩, List.forall_mem_cons.mpr ⟨⟨show (20 : Nat) < 100 from by decide, nf9⟩, List.forall_mem_cons.mpr ⟨⟨show (20 : Nat) < 100 from by decide, nf10⟩, List.forall_mem_cons.mpr ⟨⟨show (20 : Nat) < 100 from by decide, nf11⟩, List.forall_mem_cons.mpr ⟨⟨show (20 : Nat) < 100 from by decide, nf12⟩, List.forall_mem_cons.mpr ⟨⟨show (20 : Nat) < 100 from by decide, nf13⟩, List.forall_mem_cons.mpr ⟨⟨show (20 : Nat) < 100 from by decide, nf14⟩, List.forall_mem_cons.mpr ⟨⟨show (20 : Nat) < 100 from by decide, nf15⟩, List.forall_mem_cons.mpr ⟨⟨show (20 : Nat) < 100 from by decide, nf16⟩, List.forall_mem_cons.mpr ⟨⟨show (23 : Nat) < 100 from by decide, nf17⟩, List.forall_mem_cons.mpr ⟨⟨show (23 : Nat) < 100 from by decide, nf18⟩, (fun _ h => (by cases h))⟩⟩⟩⟩⟩⟩⟩⟩⟩⟩⟩⟩⟩⟩⟩⟩⟩⟩⟩, (fun _ h => (by cases h))⟩
set_option maxHeartbeats 4000000 in
theorem vc_Mo_edgeItem_25_0 (x6 : Int) (x20 : Int) (x21 : Int) (fault_0 : Int) (all_0 : Int → Int) (r_0 : Int) (k6 : (-1) ≤ x6 ∧ x6 ≤ 23) (k20 : (-1) ≤ x20 ∧ x20 ≤ 23) (k21 : 0 ≤ x21 ∧ x21 ≤ 0) (g1 : x21 = fault_0) (f10 : 0 ≤ x6) (f24 : ((-1) * fault_0 + 0 ≤ (-1)) ∨ ((-1) * x20 + 0 ≤ 0)) (f25 : (1 ≤ fault_0) ∨ ((x6 ≤ (-1)) ∨ (all_0 ((r_0 + 1)) ≤ 47))) (kz_0_8 : 0 ≤ fault_0 ∧ fault_0 ≤ 5) : (-1) * x20 + 0 ≤ 0 := by
  first
    | omega
    | (have q1 := (hE_0_2_1 (r_0 + 2) (by omega)).2 (by omega)
       have q2 := (hE_0_2_2 (r_0 + 2) (by omega)).2 (by omega)
       omega)
    | (have q1 := (hE_0_2_1 (r_0 + 1) (by omega)).2 (by omega)
       have q2 := (hE_0_2_2 (r_0 + 1) (by omega)).2 (by omega)
       omega)
    | (have q1 := (hE_0_2_1 (r_0 + 2) (by omega)).2 (by omega)
       omega)
    | (have q1 := (hE_0_2_1 (r_0 + 1) (by omega)).2 (by omega)
       omega)
    | (have q1 := (hE_0_2_1 (r_0 + 2) (by omega)).2 (by omega)
       have q2 := (hE_0_2_2 (r_0 + 2) (by omega)).2 (by omega)
       have q3 := (hE_0_2_3 (r_0 + 2) (by omega)).1 (by omega)
       omega)
    | (have q1 := (hE_0_2_1 (r_0 + 2) (by omega)).2 (by omega)
       have q2 := (hE_0_2_2 (r_0 + 2) (by omega)).2 (by omega)
       have q3 := (hE_0_2_3 (r_0 + 2) (by omega)).2 (by omega)
       omega)
def o_Mo_edgeItem_25 : or_T := (100, 22, [(0, (2, 0, 0, [165])), (1, (0, 0, 7, [])), (2, (0, 0, 2000, [])), (3, (0, 0, 4, [])), (4, (2, 0, 0, [165])), (5, (0, 0, 7, [])), (6, (0, -1, 23, [])), (7, (0, 0, 48, [])), (8, (0, 0, 2000, [])), (13, (0, 0, 0, [])), (14, (0, 0, 2000, [])), (15, (0, 0, 2000, [])), (16, (0, 0, 2000, [])), (17, (0, 0, 4, [])), (18, (0, 0, 48, [])), (19, (0, 0, 1, [])), (20, (0, -1, 23, [])), (21, (0, 0, 0, []))], [(8, [21], [5]), (9, [21, 4], [8]), (23, [15, 2], [0, 1, -1]), (23, [15, 2], [0, -1, 1]), (23, [17, 3], [0, 1, -1]), (23, [17, 3], [0, -1, 1]), (23, [18, 7], [0, 1, -1]), (23, [18, 7], [0, -1, 1]), (23, [19, 13], [0, 1, -1]), (23, [19, 13], [0, -1, 1]), (20, [6], [50, 0, 0, 0, 2, 0, 0, 1, 0]), (23, [8, 16], [-2000, -1, -1]), (23, [2, 16], [-1, 1, -1]), (23, [2, 14], [-1, 1, -1]), (23, [8, 14], [-2000, -1, -1]), (20, [2, 14], [30, 0, 1, 0, 0, -1, 0, 0]), (23, [6], [0, -1]), (24, [0, 4], []), (24, [1, 5], []), (20, [4, 4], [30, 0, 1, 1, 15, -1, 1, 11]), (20, [4], [50, 3, 0, 12, 11, 15, 2, 21, 4, 7, 1, 3, 2, 0, 12, 0, 1, 0, 3, 2, 0, 11, 4, 3, 2, 0, 15, 0, 8, 3, 7, 1, 3, 2, 0, 12, 0, 0, 0, 7, 4, 3, 2, 0, 15, 0, 1, 2, 0, 11]), (20, [15, 4], [30, 0, 1, 0, 0, -1, 1, 11]), (20, [4, 15], [50, 3, 0, 8, 12, 11, 3, 7, 0, 2, 0, 1, 2, 0, 8, 3, 7, 1, 3, 2, 0, 12, 0, 0, 0, 6, 4, 2, 1, 1, 0, 1, 2, 0, 11]), (20, [4, 16], [50, 2, 0, 8, 11, 3, 7, 0, 2, 0, 1, 2, 0, 8, 0, 6, 4, 2, 1, 1, 0, 1, 2, 0, 11]), (20, [4, 20], [31, 1, -1, -1, 1, 8, 0, -1, 0, 0]), (20, [4, 6], [50, 2, 1, 8, 5, 2, 3, 7, 0, 2, 0, 1, 2, 0, 8, 3, 6, 0, 2, 1, 1, 0, -1, 0, 10, 3, 0, 2, 4, 3, 2, 0, 5, 0, 1, 0, 47]), (20, [5, 4], [50, 1, 1, 1005, 1002, 0, 6, 4, 2, 1, 0, 0, 1, 3, 1, 2, 4, 3, 2, 1, 5, 0, 2]), (20, [4], [60, 1, 3, 199, 5, 2, 3, 4]), (20, [4, 6, 20], [60, 2, 1, 240, 5, 8, 2]), (20, [4, 20, 18, 6, 19, 5, 17], [60, 9, 2, 1011, 10, 11, 12, 13, 14, 15, 8, 9, 5, 1, 2]), (102, [19], [187072209578355573530071658587684226515959365500928, 165008, 165009, 165011, 165012, 165013, 165014, 165015]), (23, [15, 2], [0, 1, -1]), (23, [15, 2], [0, -1, 1]), (23, [17, 3], [0, 1, -1]), (23, [17, 3], [0, -1, 1]), (23, [18, 7], [0, 1, -1]), (23, [18, 7], [0, -1, 1]), (23, [19, 13], [0, 1, -1]), (23, [19, 13], [0, -1, 1]), (23, [8, 16], [-2000, -1, -1]), (23, [2, 16], [-1, 1, -1]), (23, [2, 14], [-1, 1, -1]), (23, [8, 14], [-2000, -1, -1]), (23, [6], [0, -1]), (102, [14], [0, 165011, 165012, 165013, 165014, 165015]), (23, [2, 14], [-1, 1, -1]), (23, [8, 14], [-2000, -1, -1]), (23, [6], [0, -1])], [], [], [(23, [20], [0, -1])], [], [(1, 5, -4294967296, 0), (5, 1, -4294967296, 0)])
theorem oo_Mo_edgeItem_25 {kA : Nat → ClassId} : or_ok PRD kA GG o_Mo_edgeItem_25 := by
  refine or_mk fun A ta ws vs hD hth hl => ?_
  intro t0 r0 t1 k1 t2 k2 t3 k3 t4 r4 t5 k5 t6 k6 t7 k7 t8 k8 t13 k13 t14 k14 t15 k15 t16 k16 t17 k17 t18 k18 t19 k19 t20 k20 t21 k21 d0 d1 f0 f1 f2 f3 f4 f5 f6 f7 f8 f9 f10 f11 f12 f13 f14 f15 f16 f17 f18 f19 f20 f21 f22 f23 f24 f25 f26 f27 f28 f29 ta1 w1 le1 s1 f31 f32 f33 f34 f35 f36 f37 f38 f39 f40 f41 f42 f43 ta2 w2 le2 s2 f45 f46 f47
  replace f1 := shm_293 f1
  replace f17 := shm_5 f17
  replace f24 := shm_2117 f24
  replace f25 := shm_2118 f25
  have q4 : n_v vs 4 = n_v vs 0 := f17.symm
  simp only [q4] at f1 f24 f25
  have g1 : v_iv (n_v vs 21) = w_fi ws (n_v vs 0) 8 := congrArg v_iv f1
  have kz_0_8 := fdq_34 hD hth r0
  have nf0 : fc_1 PRD (23, [20], [0, -1]) ws (vs) := ⟨nf_in hl rfl, sgq_1043 (vc_Mo_edgeItem_25_0 (v_iv (n_v vs 6)) (v_iv (n_v vs 20)) (v_iv (n_v vs 21)) (w_fi ws (n_v vs 0) 8) (w_ei ws (w_ar ws (n_v vs 0) 2)) (w_fi ws (n_v vs 0) 5) k6 k20 k21 g1 (shm_722 f10) f24 f25 kz_0_8)⟩
  refine ⟨(fun _ h => (by cases h)), [], trivial, ?_, (fun _ h => (by cases h))⟩
  rw [List.append_nil]
  exact List.forall_mem_cons.mpr ⟨⟨show (23 : Nat) < 100 from by decide, nf0⟩, (fun _ h => (by cases h))⟩
set_option maxHeartbeats 4000000 in
theorem vc_Mo_edgeItem_26_r0 (x20 : Int) (r_0 : Int) (k20 : (-1) ≤ x20 ∧ x20 ≤ 23) (f0 : (-1) * x20 + 0 ≤ 0) : 0 ≤ x20 ∧ x20 ≤ 23 := by
  first
    | omega
    | (have q1 := (hE_0_2_1 (r_0 + 2) (by omega)).2 (by omega)
       have q2 := (hE_0_2_2 (r_0 + 2) (by omega)).2 (by omega)
       omega)
    | (have q1 := (hE_0_2_1 (r_0 + 1) (by omega)).2 (by omega)
       have q2 := (hE_0_2_2 (r_0 + 1) (by omega)).2 (by omega)
       omega)
    | (have q1 := (hE_0_2_1 (r_0 + 2) (by omega)).2 (by omega)
       omega)
    | (have q1 := (hE_0_2_1 (r_0 + 1) (by omega)).2 (by omega)
       omega)
    | (have q1 := (hE_0_2_1 (r_0 + 2) (by omega)).2 (by omega)
       have q2 := (hE_0_2_2 (r_0 + 2) (by omega)).2 (by omega)
       have q3 := (hE_0_2_3 (r_0 + 2) (by omega)).1 (by omega)
       omega)
    | (have q1 := (hE_0_2_1 (r_0 + 2) (by omega)).2 (by omega)
       have q2 := (hE_0_2_2 (r_0 + 2) (by omega)).2 (by omega)
       have q3 := (hE_0_2_3 (r_0 + 2) (by omega)).2 (by omega)
       omega)
set_option maxHeartbeats 4000000 in
theorem vc_Mo_edgeItem_26_r1 (x6 : Int) (r_0 : Int) (k6 : (-1) ≤ x6 ∧ x6 ≤ 23) (f11 : 0 ≤ x6) : 0 ≤ x6 ∧ x6 ≤ 23 := by
  first
    | omega
    | (have q1 := (hE_0_2_1 (r_0 + 2) (by omega)).2 (by omega)
       have q2 := (hE_0_2_2 (r_0 + 2) (by omega)).2 (by omega)
       omega)
    | (have q1 := (hE_0_2_1 (r_0 + 1) (by omega)).2 (by omega)
       have q2 := (hE_0_2_2 (r_0 + 1) (by omega)).2 (by omega)
       omega)
    | (have q1 := (hE_0_2_1 (r_0 + 2) (by omega)).2 (by omega)
       omega)
    | (have q1 := (hE_0_2_1 (r_0 + 1) (by omega)).2 (by omega)
       omega)
    | (have q1 := (hE_0_2_1 (r_0 + 2) (by omega)).2 (by omega)
       have q2 := (hE_0_2_2 (r_0 + 2) (by omega)).2 (by omega)
       have q3 := (hE_0_2_3 (r_0 + 2) (by omega)).1 (by omega)
       omega)
    | (have q1 := (hE_0_2_1 (r_0 + 2) (by omega)).2 (by omega)
       have q2 := (hE_0_2_2 (r_0 + 2) (by omega)).2 (by omega)
       have q3 := (hE_0_2_3 (r_0 + 2) (by omega)).2 (by omega)
       omega)
set_option maxHeartbeats 4000000 in
theorem vc_Mo_edgeItem_26_0 (x1 : Int) (x5 : Int) (r_0 : Int) (gx : Int) (k1 : 0 ≤ x1 ∧ x1 ≤ 7) (k5 : 0 ≤ x5 ∧ x5 ≤ 7) (d0 : x5 + (-4294967296) ≤ x1 ∧ x1 ≤ x5 + 0) (d1 : x1 + (-4294967296) ≤ x5 ∧ x5 ≤ x1 + 0) (ex2 : gx = x1) : 1 * gx + ((-1) * x1 + 0) ≤ 0 := by
  first
    | omega
    | (have q1 := (hE_0_2_1 (r_0 + 2) (by omega)).2 (by omega)
       have q2 := (hE_0_2_2 (r_0 + 2) (by omega)).2 (by omega)
       omega)
    | (have q1 := (hE_0_2_1 (r_0 + 1) (by omega)).2 (by omega)
       have q2 := (hE_0_2_2 (r_0 + 1) (by omega)).2 (by omega)
       omega)
    | (have q1 := (hE_0_2_1 (r_0 + 2) (by omega)).2 (by omega)
       omega)
    | (have q1 := (hE_0_2_1 (r_0 + 1) (by omega)).2 (by omega)
       omega)
    | (have q1 := (hE_0_2_1 (r_0 + 2) (by omega)).2 (by omega)
       have q2 := (hE_0_2_2 (r_0 + 2) (by omega)).2 (by omega)
       have q3 := (hE_0_2_3 (r_0 + 2) (by omega)).1 (by omega)
       omega)
    | (have q1 := (hE_0_2_1 (r_0 + 2) (by omega)).2 (by omega)
       have q2 := (hE_0_2_2 (r_0 + 2) (by omega)).2 (by omega)
       have q3 := (hE_0_2_3 (r_0 + 2) (by omega)).2 (by omega)
       omega)
set_option maxHeartbeats 4000000 in
theorem vc_Mo_edgeItem_26_1 (x1 : Int) (x5 : Int) (r_0 : Int) (gx : Int) (k1 : 0 ≤ x1 ∧ x1 ≤ 7) (k5 : 0 ≤ x5 ∧ x5 ≤ 7) (d0 : x5 + (-4294967296) ≤ x1 ∧ x1 ≤ x5 + 0) (d1 : x1 + (-4294967296) ≤ x5 ∧ x5 ≤ x1 + 0) (ex2 : gx = x1) : (-1) * gx + (1 * x1 + 0) ≤ 0 := by
  first
    | omega
    | (have q1 := (hE_0_2_1 (r_0 + 2) (by omega)).2 (by omega)
       have q2 := (hE_0_2_2 (r_0 + 2) (by omega)).2 (by omega)
       omega)
    | (have q1 := (hE_0_2_1 (r_0 + 1) (by omega)).2 (by omega)
       have q2 := (hE_0_2_2 (r_0 + 1) (by omega)).2 (by omega)
       omega)
    | (have q1 := (hE_0_2_1 (r_0 + 2) (by omega)).2 (by omega)
       omega)
    | (have q1 := (hE_0_2_1 (r_0 + 1) (by omega)).2 (by omega)
       omega)
    | (have q1 := (hE_0_2_1 (r_0 + 2) (by omega)).2 (by omega)
       have q2 := (hE_0_2_2 (r_0 + 2) (by omega)).2 (by omega)
       have q3 := (hE_0_2_3 (r_0 + 2) (by omega)).1 (by omega)
       omega)
    | (have q1 := (hE_0_2_1 (r_0 + 2) (by omega)).2 (by omega)
       have q2 := (hE_0_2_2 (r_0 + 2) (by omega)).2 (by omega)
       have q3 := (hE_0_2_3 (r_0 + 2) (by omega)).2 (by omega)
       omega)
set_option maxHeartbeats 4000000 in
theorem vc_Mo_edgeItem_26_2 (x3 : Int) (x17 : Int) (r_0 : Int) (gy : Int) (k3 : 0 ≤ x3 ∧ x3 ≤ 4) (k17 : 0 ≤ x17 ∧ x17 ≤ 4) (f5 : 1 * x17 + ((-1) * x3 + 0) ≤ 0) (f6 : (-1) * x17 + (1 * x3 + 0) ≤ 0) (ey2 : gy = x3) : 1 * gy + ((-1) * x3 + 0) ≤ 0 := by
  first
    | omega
    | (have q1 := (hE_0_2_1 (r_0 + 2) (by omega)).2 (by omega)
       have q2 := (hE_0_2_2 (r_0 + 2) (by omega)).2 (by omega)
       omega)
    | (have q1 := (hE_0_2_1 (r_0 + 1) (by omega)).2 (by omega)
       have q2 := (hE_0_2_2 (r_0 + 1) (by omega)).2 (by omega)
       omega)
    | (have q1 := (hE_0_2_1 (r_0 + 2) (by omega)).2 (by omega)
       omega)
    | (have q1 := (hE_0_2_1 (r_0 + 1) (by omega)).2 (by omega)
       omega)
    | (have q1 := (hE_0_2_1 (r_0 + 2) (by omega)).2 (by omega)
       have q2 := (hE_0_2_2 (r_0 + 2) (by omega)).2 (by omega)
       have q3 := (hE_0_2_3 (r_0 + 2) (by omega)).1 (by omega)
       omega)
    | (have q1 := (hE_0_2_1 (r_0 + 2) (by omega)).2 (by omega)
       have q2 := (hE_0_2_2 (r_0 + 2) (by omega)).2 (by omega)
       have q3 := (hE_0_2_3 (r_0 + 2) (by omega)).2 (by omega)
       omega)
set_option maxHeartbeats 4000000 in
theorem vc_Mo_edgeItem_26_3 (x3 : Int) (x17 : Int) (r_0 : Int) (gy : Int) (k3 : 0 ≤ x3 ∧ x3 ≤ 4) (k17 : 0 ≤ x17 ∧ x17 ≤ 4) (f5 : 1 * x17 + ((-1) * x3 + 0) ≤ 0) (f6 : (-1) * x17 + (1 * x3 + 0) ≤ 0) (ey2 : gy = x3) : (-1) * gy + (1 * x3 + 0) ≤ 0 := by
  first
    | omega
    | (have q1 := (hE_0_2_1 (r_0 + 2) (by omega)).2 (by omega)
       have q2 := (hE_0_2_2 (r_0 + 2) (by omega)).2 (by omega)
       omega)
    | (have q1 := (hE_0_2_1 (r_0 + 1) (by omega)).2 (by omega)
       have q2 := (hE_0_2_2 (r_0 + 1) (by omega)).2 (by omega)
       omega)
    | (have q1 := (hE_0_2_1 (r_0 + 2) (by omega)).2 (by omega)
       omega)
    | (have q1 := (hE_0_2_1 (r_0 + 1) (by omega)).2 (by omega)
       omega)
    | (have q1 := (hE_0_2_1 (r_0 + 2) (by omega)).2 (by omega)
       have q2 := (hE_0_2_2 (r_0 + 2) (by omega)).2 (by omega)
       have q3 := (hE_0_2_3 (r_0 + 2) (by omega)).1 (by omega)
       omega)
    | (have q1 := (hE_0_2_1 (r_0 + 2) (by omega)).2 (by omega)
       have q2 := (hE_0_2_2 (r_0 + 2) (by omega)).2 (by omega)
       have q3 := (hE_0_2_3 (r_0 + 2) (by omega)).2 (by omega)
       omega)
set_option maxHeartbeats 4000000 in
theorem vc_Mo_edgeItem_26_4 (x7 : Int) (x18 : Int) (r_0 : Int) (gu : Int) (k7 : 0 ≤ x7 ∧ x7 ≤ 48) (k18 : 0 ≤ x18 ∧ x18 ≤ 48) (f7 : 1 * x18 + ((-1) * x7 + 0) ≤ 0) (f8 : (-1) * x18 + (1 * x7 + 0) ≤ 0) (eu2 : gu = x7) : 1 * gu + ((-1) * x7 + 0) ≤ 0 := by
  first
    | omega
    | (have q1 := (hE_0_2_1 (r_0 + 2) (by omega)).2 (by omega)
       have q2 := (hE_0_2_2 (r_0 + 2) (by omega)).2 (by omega)
       omega)
    | (have q1 := (hE_0_2_1 (r_0 + 1) (by omega)).2 (by omega)
       have q2 := (hE_0_2_2 (r_0 + 1) (by omega)).2 (by omega)
       omega)
    | (have q1 := (hE_0_2_1 (r_0 + 2) (by omega)).2 (by omega)
       omega)
    | (have q1 := (hE_0_2_1 (r_0 + 1) (by omega)).2 (by omega)
       omega)
    | (have q1 := (hE_0_2_1 (r_0 + 2) (by omega)).2 (by omega)
       have q2 := (hE_0_2_2 (r_0 + 2) (by omega)).2 (by omega)
       have q3 := (hE_0_2_3 (r_0 + 2) (by omega)).1 (by omega)
       omega)
    | (have q1 := (hE_0_2_1 (r_0 + 2) (by omega)).2 (by omega)
       have q2 := (hE_0_2_2 (r_0 + 2) (by omega)).2 (by omega)
       have q3 := (hE_0_2_3 (r_0 + 2) (by omega)).2 (by omega)
       omega)
set_option maxHeartbeats 4000000 in
theorem vc_Mo_edgeItem_26_5 (x7 : Int) (x18 : Int) (r_0 : Int) (gu : Int) (k7 : 0 ≤ x7 ∧ x7 ≤ 48) (k18 : 0 ≤ x18 ∧ x18 ≤ 48) (f7 : 1 * x18 + ((-1) * x7 + 0) ≤ 0) (f8 : (-1) * x18 + (1 * x7 + 0) ≤ 0) (eu2 : gu = x7) : (-1) * gu + (1 * x7 + 0) ≤ 0 := by
  first
    | omega
    | (have q1 := (hE_0_2_1 (r_0 + 2) (by omega)).2 (by omega)
       have q2 := (hE_0_2_2 (r_0 + 2) (by omega)).2 (by omega)
       omega)
    | (have q1 := (hE_0_2_1 (r_0 + 1) (by omega)).2 (by omega)
       have q2 := (hE_0_2_2 (r_0 + 1) (by omega)).2 (by omega)
       omega)
    | (have q1 := (hE_0_2_1 (r_0 + 2) (by omega)).2 (by omega)
       omega)
    | (have q1 := (hE_0_2_1 (r_0 + 1) (by omega)).2 (by omega)
       omega)
    | (have q1 := (hE_0_2_1 (r_0 + 2) (by omega)).2 (by omega)
       have q2 := (hE_0_2_2 (r_0 + 2) (by omega)).2 (by omega)
       have q3 := (hE_0_2_3 (r_0 + 2) (by omega)).1 (by omega)
       omega)
    | (have q1 := (hE_0_2_1 (r_0 + 2) (by omega)).2 (by omega)
       have q2 := (hE_0_2_2 (r_0 + 2) (by omega)).2 (by omega)
       have q3 := (hE_0_2_3 (r_0 + 2) (by omega)).2 (by omega)
       omega)
set_option maxHeartbeats 4000000 in
theorem vc_Mo_edgeItem_26_6 (x6 : Int) (x21 : Int) (fault_0 : Int) (all_0 : Int → Int) (r_0 : Int) (k6 : (-1) ≤ x6 ∧ x6 ≤ 23) (k21 : 0 ≤ x21 ∧ x21 ≤ 0) (g2 : x21 = fault_0) (f11 : 0 ≤ x6) (f26 : (1 ≤ fault_0) ∨ ((x6 ≤ (-1)) ∨ (all_0 ((r_0 + 1)) ≤ 47))) (kz_0_8 : 0 ≤ fault_0 ∧ fault_0 ≤ 5) : 1 * all_0 (r_0 + 1) + 0 ≤ 47 := by
  first
    | omega
    | (have q1 := (hE_0_2_1 (r_0 + 2) (by omega)).2 (by omega)
       have q2 := (hE_0_2_2 (r_0 + 2) (by omega)).2 (by omega)
       omega)
    | (have q1 := (hE_0_2_1 (r_0 + 1) (by omega)).2 (by omega)
       have q2 := (hE_0_2_2 (r_0 + 1) (by omega)).2 (by omega)
       omega)
    | (have q1 := (hE_0_2_1 (r_0 + 2) (by omega)).2 (by omega)
       omega)
    | (have q1 := (hE_0_2_1 (r_0 + 1) (by omega)).2 (by omega)
       omega)
    | (have q1 := (hE_0_2_1 (r_0 + 2) (by omega)).2 (by omega)
       have q2 := (hE_0_2_2 (r_0 + 2) (by omega)).2 (by omega)
       have q3 := (hE_0_2_3 (r_0 + 2) (by omega)).1 (by omega)
       omega)
    | (have q1 := (hE_0_2_1 (r_0 + 2) (by omega)).2 (by omega)
       have q2 := (hE_0_2_2 (r_0 + 2) (by omega)).2 (by omega)
       have q3 := (hE_0_2_3 (r_0 + 2) (by omega)).2 (by omega)
       omega)
set_option maxHeartbeats 4000000 in
theorem vc_Mo_edgeItem_26_7 (all_0 : Int → Int) (r_0 : Int) (now_0 : Int → Int) (latest_0 : Int → Int) (f28 : RWS (r_0) (all_0) (now_0) (latest_0)) : RWS (r_0) (all_0) (now_0) (latest_0) := by
  first
    | assumption
set_option maxHeartbeats 4000000 in
theorem vc_Mo_edgeItem_26_8 (x6 : Int) (x20 : Int) (x21 : Int) (fault_0 : Int) (all_0 : Int → Int) (r_0 : Int) (k6 : (-1) ≤ x6 ∧ x6 ≤ 23) (k20 : (-1) ≤ x20 ∧ x20 ≤ 23) (k21 : 0 ≤ x21 ∧ x21 ≤ 0) (g2 : x21 = fault_0) (f11 : 0 ≤ x6) (f29 : MET (r_0) (fault_0) (all_0) (x6) (x20)) (kz_0_8 : 0 ≤ fault_0 ∧ fault_0 ≤ 5) : NWE (r_0) (all_0) (x6) (x20) := by
  have h := (‹MET _ _ _ _ _› (by omega)).2 (by omega)
  first
    | exact h
set_option maxHeartbeats 4000000 in
theorem vc_Mo_edgeItem_26_9 (x1 : Int) (x5 : Int) (all_0 : Int → Int) (r_0 : Int) (gx : Int) (k1 : 0 ≤ x1 ∧ x1 ≤ 7) (k5 : 0 ≤ x5 ∧ x5 ≤ 7) (d0 : x5 + (-4294967296) ≤ x1 ∧ x1 ≤ x5 + 0) (d1 : x1 + (-4294967296) ≤ x5 ∧ x5 ≤ x1 + 0) (f27 : (x1 + 1) ≤ all_0 ((r_0 + 2))) (ex2 : gx = x1) : (gx + 1) ≤ all_0 ((r_0 + 2)) := by
  first
    | omega
    | (have q1 := (hE_0_2_1 (r_0 + 2) (by omega)).2 (by omega)
       have q2 := (hE_0_2_2 (r_0 + 2) (by omega)).2 (by omega)
       omega)
    | (have q1 := (hE_0_2_1 (r_0 + 1) (by omega)).2 (by omega)
       have q2 := (hE_0_2_2 (r_0 + 1) (by omega)).2 (by omega)
       omega)
    | (have q1 := (hE_0_2_1 (r_0 + 2) (by omega)).2 (by omega)
       omega)
    | (have q1 := (hE_0_2_1 (r_0 + 1) (by omega)).2 (by omega)
       omega)
    | (have q1 := (hE_0_2_1 (r_0 + 2) (by omega)).2 (by omega)
       have q2 := (hE_0_2_2 (r_0 + 2) (by omega)).2 (by omega)
       have q3 := (hE_0_2_3 (r_0 + 2) (by omega)).1 (by omega)
       omega)
    | (have q1 := (hE_0_2_1 (r_0 + 2) (by omega)).2 (by omega)
       have q2 := (hE_0_2_2 (r_0 + 2) (by omega)).2 (by omega)
       have q3 := (hE_0_2_3 (r_0 + 2) (by omega)).2 (by omega)
       omega)
set_option maxHeartbeats 4000000 in
theorem vc_Mo_edgeItem_26_10 (x1 : Int) (x2 : Int) (x3 : Int) (x6 : Int) (x7 : Int) (x13 : Int) (x15 : Int) (x17 : Int) (x18 : Int) (x19 : Int) (x20 : Int) (x21 : Int) (fault_0 : Int) (from_0 : Int) (pos_0 : Int) (kind_0 : Int) (all_0 : Int → Int) (r_0 : Int) (tape_0 : Int → Int) (limit_0 : Int) (place_0 : Int) (value_0 : Int) (faultPlace_0 : Int) (gx : Int) (gy : Int) (gu : Int) (k1 : 0 ≤ x1 ∧ x1 ≤ 7) (k2 : 0 ≤ x2 ∧ x2 ≤ 2000) (k3 : 0 ≤ x3 ∧ x3 ≤ 4) (k6 : (-1) ≤ x6 ∧ x6 ≤ 23) (k7 : 0 ≤ x7 ∧ x7 ≤ 48) (k13 : 0 ≤ x13 ∧ x13 ≤ 0) (k15 : 0 ≤ x15 ∧ x15 ≤ 2000) (k17 : 0 ≤ x17 ∧ x17 ≤ 4) (k18 : 0 ≤ x18 ∧ x18 ≤ 48) (k19 : 0 ≤ x19 ∧ x19 ≤ 1) (k20 : (-1) ≤ x20 ∧ x20 ≤ 23) (k21 : 0 ≤ x21 ∧ x21 ≤ 0) (f1 : x21 ≤ 0) (g2 : x21 = fault_0) (f3 : 1 * x15 + ((-1) * x2 + 0) ≤ 0) (f4 : (-1) * x15 + (1 * x2 + 0) ≤ 0) (f5 : 1 * x17 + ((-1) * x3 + 0) ≤ 0) (f6 : (-1) * x17 + (1 * x3 + 0) ≤ 0) (f7 : 1 * x18 + ((-1) * x7 + 0) ≤ 0) (f8 : (-1) * x18 + (1 * x7 + 0) ≤ 0) (f9 : 1 * x19 + ((-1) * x13 + 0) ≤ 0) (f30 : zOP8 (limit_0) (pos_0) (kind_0) (place_0) (value_0) (from_0) (fault_0) (faultPlace_0) (r_0) (tape_0) (all_0) (x20) (x18) (x6) (x19) (x1) (x17)) (kz_0_8 : 0 ≤ fault_0 ∧ fault_0 ≤ 5) (kz_0_9 : 0 ≤ faultPlace_0 ∧ faultPlace_0 ≤ 2000) (kz_0_10 : 0 ≤ limit_0 ∧ limit_0 ≤ 2000) (kz_0_11 : 0 ≤ pos_0 ∧ pos_0 ≤ 2000) (kz_0_12 : 0 ≤ kind_0 ∧ kind_0 ≤ 4) (kz_0_13 : 0 ≤ place_0 ∧ place_0 ≤ 2000) (kz_0_14 : (-49) ≤ value_0 ∧ value_0 ≤ 1048575) (kz_0_15 : 0 ≤ from_0 ∧ from_0 ≤ 2000) (ex2 : gx = x1) (ey2 : gy = x3) (eu2 : gu = x7) : zRP8 (limit_0) (pos_0) (kind_0) (place_0) (value_0) (from_0) (fault_0) (r_0) (tape_0) (all_0) (x20) (gu) (x6) (x13) (gx) (gy) := by
  first | (have el_x15 : x15 = x2 := by omega); subst el_x15 | skip
  first | (have el_x17 : x17 = x3 := by omega); subst el_x17 | skip
  first | (have el_x18 : x18 = x7 := by omega); subst el_x18 | skip
  first | (have el_x19 : x19 = x13 := by omega); subst el_x19 | skip
  first | subst g2 | skip
  first | subst ex2 | skip
  first | subst ey2 | skip
  first | subst eu2 | skip
  exact (‹zOP8 _ _ _ _ _ _ _ _ _ _ _ _ _ _ _ _ _›).resolve_left (fs_n (by omega))
set_option maxHeartbeats 4000000 in
theorem vc_Mo_edgeItem_26_11 (x2 : Int) (x6 : Int) (x15 : Int) (x16 : Int) (x20 : Int) (x21 : Int) (fault_0 : Int) (pos_0 : Int) (all_0 : Int → Int) (r_0 : Int) (k2 : 0 ≤ x2 ∧ x2 ≤ 2000) (k6 : (-1) ≤ x6 ∧ x6 ≤ 23) (k15 : 0 ≤ x15 ∧ x15 ≤ 2000) (k16 : 0 ≤ x16 ∧ x16 ≤ 2000) (k20 : (-1) ≤ x20 ∧ x20 ≤ 23) (k21 : 0 ≤ x21 ∧ x21 ≤ 0) (g2 : x21 = fault_0) (f3 : 1 * x15 + ((-1) * x2 + 0) ≤ 0) (f4 : (-1) * x15 + (1 * x2 + 0) ≤ 0) (f11 : 0 ≤ x6) (f13 : 1 * x2 + ((-1) * x16 + 0) ≤ (-1)) (f22 : 1 * x15 + ((-1) * pos_0 + 0) ≤ 0) (f24 : (1 ≤ fault_0) ∨ ((x16 + 1) ≤ pos_0)) (f25 : ((-1) * fault_0 + 0 ≤ (-1)) ∨ ((-1) * x20 + 0 ≤ 0)) (f26 : (1 ≤ fault_0) ∨ ((x6 ≤ (-1)) ∨ (all_0 ((r_0 + 1)) ≤ 47))) (kz_0_8 : 0 ≤ fault_0 ∧ fault_0 ≤ 5) (kz_0_11 : 0 ≤ pos_0 ∧ pos_0 ≤ 2000) : 1 * x2 + ((-1) * pos_0 + 0) ≤ (-1) := by
  first
    | omega
    | (have q1 := (hE_0_2_1 (r_0 + 2) (by omega)).2 (by omega)
       have q2 := (hE_0_2_2 (r_0 + 2) (by omega)).2 (by omega)
       omega)
    | (have q1 := (hE_0_2_1 (r_0 + 1) (by omega)).2 (by omega)
       have q2 := (hE_0_2_2 (r_0 + 1) (by omega)).2 (by omega)
       omega)
    | (have q1 := (hE_0_2_1 (r_0 + 2) (by omega)).2 (by omega)
       omega)
    | (have q1 := (hE_0_2_1 (r_0 + 1) (by omega)).2 (by omega)
       omega)
    | (have q1 := (hE_0_2_1 (r_0 + 2) (by omega)).2 (by omega)
       have q2 := (hE_0_2_2 (r_0 + 2) (by omega)).2 (by omega)
       have q3 := (hE_0_2_3 (r_0 + 2) (by omega)).1 (by omega)
       omega)
    | (have q1 := (hE_0_2_1 (r_0 + 2) (by omega)).2 (by omega)
       have q2 := (hE_0_2_2 (r_0 + 2) (by omega)).2 (by omega)
       have q3 := (hE_0_2_3 (r_0 + 2) (by omega)).2 (by omega)
       omega)
set_option maxHeartbeats 4000000 in
theorem vc_Mo_edgeItem_26_12 (x6 : Int) (x8 : Int) (x16 : Int) (x20 : Int) (x21 : Int) (fault_0 : Int) (pos_0 : Int) (all_0 : Int → Int) (r_0 : Int) (k6 : (-1) ≤ x6 ∧ x6 ≤ 23) (k8 : 0 ≤ x8 ∧ x8 ≤ 2000) (k16 : 0 ≤ x16 ∧ x16 ≤ 2000) (k20 : (-1) ≤ x20 ∧ x20 ≤ 23) (k21 : 0 ≤ x21 ∧ x21 ≤ 0) (g2 : x21 = fault_0) (f11 : 0 ≤ x6) (f12 : (-1) * x8 + ((-1) * x16 + 0) ≤ (-2000)) (f24 : (1 ≤ fault_0) ∨ ((x16 + 1) ≤ pos_0)) (f25 : ((-1) * fault_0 + 0 ≤ (-1)) ∨ ((-1) * x20 + 0 ≤ 0)) (f26 : (1 ≤ fault_0) ∨ ((x6 ≤ (-1)) ∨ (all_0 ((r_0 + 1)) ≤ 47))) (kz_0_8 : 0 ≤ fault_0 ∧ fault_0 ≤ 5) (kz_0_11 : 0 ≤ pos_0 ∧ pos_0 ≤ 2000) : (-1) * x8 + ((-1) * pos_0 + 0) ≤ (-2001) := by
  first
    | omega
    | (have q1 := (hE_0_2_1 (r_0 + 2) (by omega)).2 (by omega)
       have q2 := (hE_0_2_2 (r_0 + 2) (by omega)).2 (by omega)
       omega)
    | (have q1 := (hE_0_2_1 (r_0 + 1) (by omega)).2 (by omega)
       have q2 := (hE_0_2_2 (r_0 + 1) (by omega)).2 (by omega)
       omega)
    | (have q1 := (hE_0_2_1 (r_0 + 2) (by omega)).2 (by omega)
       omega)
    | (have q1 := (hE_0_2_1 (r_0 + 1) (by omega)).2 (by omega)
       omega)
    | (have q1 := (hE_0_2_1 (r_0 + 2) (by omega)).2 (by omega)
       have q2 := (hE_0_2_2 (r_0 + 2) (by omega)).2 (by omega)
       have q3 := (hE_0_2_3 (r_0 + 2) (by omega)).1 (by omega)
       omega)
    | (have q1 := (hE_0_2_1 (r_0 + 2) (by omega)).2 (by omega)
       have q2 := (hE_0_2_2 (r_0 + 2) (by omega)).2 (by omega)
       have q3 := (hE_0_2_3 (r_0 + 2) (by omega)).2 (by omega)
       omega)
def o_Mo_edgeItem_26 : or_T := (106, 22, [(0, (2, 0, 0, [165])), (1, (0, 0, 7, [])), (2, (0, 0, 2000, [])), (3, (0, 0, 4, [])), (4, (2, 0, 0, [165])), (5, (0, 0, 7, [])), (6, (0, -1, 23, [])), (7, (0, 0, 48, [])), (8, (0, 0, 2000, [])), (13, (0, 0, 0, [])), (14, (0, 0, 2000, [])), (15, (0, 0, 2000, [])), (16, (0, 0, 2000, [])), (17, (0, 0, 4, [])), (18, (0, 0, 48, [])), (19, (0, 0, 1, [])), (20, (0, -1, 23, [])), (21, (0, 0, 0, []))], [(23, [20], [0, -1]), (8, [21], [5]), (9, [21, 4], [8]), (23, [15, 2], [0, 1, -1]), (23, [15, 2], [0, -1, 1]), (23, [17, 3], [0, 1, -1]), (23, [17, 3], [0, -1, 1]), (23, [18, 7], [0, 1, -1]), (23, [18, 7], [0, -1, 1]), (23, [19, 13], [0, 1, -1]), (23, [19, 13], [0, -1, 1]), (20, [6], [50, 0, 0, 0, 2, 0, 0, 1, 0]), (23, [8, 16], [-2000, -1, -1]), (23, [2, 16], [-1, 1, -1]), (23, [2, 14], [-1, 1, -1]), (23, [8, 14], [-2000, -1, -1]), (20, [2, 14], [30, 0, 1, 0, 0, -1, 0, 0]), (23, [6], [0, -1]), (24, [0, 4], []), (24, [1, 5], []), (20, [4, 4], [30, 0, 1, 1, 15, -1, 1, 11]), (20, [4], [50, 3, 0, 12, 11, 15, 2, 21, 4, 7, 1, 3, 2, 0, 12, 0, 1, 0, 3, 2, 0, 11, 4, 3, 2, 0, 15, 0, 8, 3, 7, 1, 3, 2, 0, 12, 0, 0, 0, 7, 4, 3, 2, 0, 15, 0, 1, 2, 0, 11]), (20, [15, 4], [30, 0, 1, 0, 0, -1, 1, 11]), (20, [4, 15], [50, 3, 0, 8, 12, 11, 3, 7, 0, 2, 0, 1, 2, 0, 8, 3, 7, 1, 3, 2, 0, 12, 0, 0, 0, 6, 4, 2, 1, 1, 0, 1, 2, 0, 11]), (20, [4, 16], [50, 2, 0, 8, 11, 3, 7, 0, 2, 0, 1, 2, 0, 8, 0, 6, 4, 2, 1, 1, 0, 1, 2, 0, 11]), (20, [4, 20], [31, 1, -1, -1, 1, 8, 0, -1, 0, 0]), (20, [4, 6], [50, 2, 1, 8, 5, 2, 3, 7, 0, 2, 0, 1, 2, 0, 8, 3, 6, 0, 2, 1, 1, 0, -1, 0, 10, 3, 0, 2, 4, 3, 2, 0, 5, 0, 1, 0, 47]), (20, [5, 4], [50, 1, 1, 1005, 1002, 0, 6, 4, 2, 1, 0, 0, 1, 3, 1, 2, 4, 3, 2, 1, 5, 0, 2]), (20, [4], [60, 1, 3, 199, 5, 2, 3, 4]), (20, [4, 6, 20], [60, 2, 1, 240, 5, 8, 2]), (20, [4, 20, 18, 6, 19, 5, 17], [60, 9, 2, 1011, 10, 11, 12, 13, 14, 15, 8, 9, 5, 1, 2]), (102, [19], [187072209578355573530071658587684226515959365500928, 165008, 165009, 165011, 165012, 165013, 165014, 165015]), (23, [15, 2], [0, 1, -1]), (23, [15, 2], [0, -1, 1]), (23, [17, 3], [0, 1, -1]), (23, [17, 3], [0, -1, 1]), (23, [18, 7], [0, 1, -1]), (23, [18, 7], [0, -1, 1]), (23, [19, 13], [0, 1, -1]), (23, [19, 13], [0, -1, 1]), (23, [8, 16], [-2000, -1, -1]), (23, [2, 16], [-1, 1, -1]), (23, [2, 14], [-1, 1, -1]), (23, [8, 14], [-2000, -1, -1]), (23, [6], [0, -1]), (102, [14], [0, 165011, 165012, 165013, 165014, 165015]), (23, [2, 14], [-1, 1, -1]), (23, [8, 14], [-2000, -1, -1]), (23, [6], [0, -1])], [(20, (0, 0, 23, [])), (6, (0, 0, 23, []))], [(0, 0, 7, []), (0, 0, 4, []), (0, 0, 48, [])], [(23, [22, 5], [0, 1, -1]), (23, [22, 5], [0, -1, 1]), (23, [23, 3], [0, 1, -1]), (23, [23, 3], [0, -1, 1]), (23, [24, 7], [0, 1, -1]), (23, [24, 7], [0, -1, 1]), (20, [4], [30, 47, 1, 3, 2005001]), (20, [4], [60, 1, 3, 199, 5, 2, 3, 4]), (20, [4, 6, 20], [60, 1, 1, 203, 5, 2]), (20, [22, 4], [50, 1, 1, 1005, 1002, 0, 6, 4, 2, 1, 0, 0, 1, 3, 1, 2, 4, 3, 2, 1, 5, 0, 2]), (20, [4, 20, 24, 6, 13, 22, 23], [60, 8, 2, 994, 10, 11, 12, 13, 14, 15, 8, 5, 1, 2]), (20, [2, 4], [30, -1, 1, 0, 0, -1, 1, 11]), (20, [8, 4], [30, -2001, -1, 0, 0, -1, 1, 11])], [], [(1, 5, -4294967296, 0), (5, 1, -4294967296, 0)])
theorem oo_Mo_edgeItem_26 {kA : Nat → ClassId} : or_ok PRD kA GG o_Mo_edgeItem_26 := by
  refine or_mk fun A ta ws vs hD hth hl => ?_
  intro t0 r0 t1 k1 t2 k2 t3 k3 t4 r4 t5 k5 t6 k6 t7 k7 t8 k8 t13 k13 t14 k14 t15 k15 t16 k16 t17 k17 t18 k18 t19 k19 t20 k20 t21 k21 d0 d1 f0 f1 f2 f3 f4 f5 f6 f7 f8 f9 f10 f11 f12 f13 f14 f15 f16 f17 f18 f19 f20 f21 f22 f23 f24 f25 f26 f27 f28 f29 f30 ta1 w1 le1 s1 f32 f33 f34 f35 f36 f37 f38 f39 f40 f41 f42 f43 f44 ta2 w2 le2 s2 f46 f47 f48
  replace f0 := shm_1043 f0
  replace f1 := shm_295 f1
  replace f2 := shm_293 f2
  replace f3 := shm_7 f3
  replace f4 := shm_22 f4
  replace f5 := shm_7 f5
  replace f6 := shm_22 f6
  replace f7 := shm_7 f7
  replace f8 := shm_22 f8
  replace f9 := shm_7 f9
  replace f11 := shm_722 f11
  replace f12 := shm_2009 f12
  replace f13 := shm_193 f13
  replace f18 := shm_5 f18
  replace f19 := shm_5 f19
  replace f22 := shm_1431 f22
  replace f24 := shm_1726 f24
  replace f25 := shm_2117 f25
  replace f26 := shm_2118 f26
  replace f27 := shm_1009 f27
  replace f28 := shm_980 f28
  replace f29 := shm_2119 f29
  replace f30 := shm_2128 f30
  have q4 : n_v vs 4 = n_v vs 0 := f18.symm
  have q5 : n_v vs 5 = n_v vs 1 := f19.symm
  simp only [q4, q5] at f2 f22 f24 f25 f26 f27 f28 f29 f30
  have g2 : v_iv (n_v vs 21) = w_fi ws (n_v vs 0) 8 := congrArg v_iv f2
  have kz_0_8 := fdq_34 hD hth r0
  have kz_0_9 := fdq_44 hD hth r0
  have kz_0_10 := fdq_43 hD hth r0
  have kz_0_11 := fdq_237 hD hth r0
  have kz_0_12 := fdq_187 hD hth r0
  have kz_0_13 := fdq_238 hD hth r0
  have kz_0_14 := fdq_188 hD hth r0
  have kz_0_15 := fdq_239 hD hth r0
  obtain ⟨x, ex, hx⟩ := iv_ex (ta := ta) (lo := 0) (hi := 7) (z := v_iv (n_v vs 1)) (by omega) (by omega) (by omega) (by omega)
  have ex2 : v_iv (Value.int x) = v_iv (n_v vs 1) := ex
  have ex3 : 0 ≤ v_iv (Value.int x) ∧ v_iv (Value.int x) ≤ 7 := tv_rng hx
  obtain ⟨y, ey, hy⟩ := iv_ex (ta := ta) (lo := 0) (hi := 4) (z := v_iv (n_v vs 3)) (by omega) (by omega) (by omega) (by omega)
  have ey2 : v_iv (Value.int y) = v_iv (n_v vs 3) := ey
  have ey3 : 0 ≤ v_iv (Value.int y) ∧ v_iv (Value.int y) ≤ 4 := tv_rng hy
  obtain ⟨u, eu, hu⟩ := iv_ex (ta := ta) (lo := 0) (hi := 48) (z := v_iv (n_v vs 7)) (by omega) (by omega) (by omega) (by omega)
  have eu2 : v_iv (Value.int u) = v_iv (n_v vs 7) := eu
  have eu3 : 0 ≤ v_iv (Value.int u) ∧ v_iv (Value.int u) ≤ 48 := tv_rng hu
  have hrf0 : 0 ≤ v_iv (n_v vs 20) ∧ v_iv (n_v vs 20) ≤ 23 := vc_Mo_edgeItem_26_r0 (v_iv (n_v vs 20)) (w_fi ws (n_v vs 0) 5) k20 f0
  have hrf1 : 0 ≤ v_iv (n_v vs 6) ∧ v_iv (n_v vs 6) ≤ 23 := vc_Mo_edgeItem_26_r1 (v_iv (n_v vs 6)) (w_fi ws (n_v vs 0) 5) k6 f11
  have e_2 : n_v (vs ++ [Value.int x, Value.int y, Value.int u]) 2 = n_v vs 2 := n_v_old (by rw [hl]; decide)
  have e_3 : n_v (vs ++ [Value.int x, Value.int y, Value.int u]) 3 = n_v vs 3 := n_v_old (by rw [hl]; decide)
  have e_4 : n_v (vs ++ [Value.int x, Value.int y, Value.int u]) 4 = n_v vs 4 := n_v_old (by rw [hl]; decide)
  have e_5 : n_v (vs ++ [Value.int x, Value.int y, Value.int u]) 5 = n_v vs 5 := n_v_old (by rw [hl]; decide)
  have e_6 : n_v (vs ++ [Value.int x, Value.int y, Value.int u]) 6 = n_v vs 6 := n_v_old (by rw [hl]; decide)
  have e_7 : n_v (vs ++ [Value.int x, Value.int y, Value.int u]) 7 = n_v vs 7 := n_v_old (by rw [hl]; decide)
  have e_8 : n_v (vs ++ [Value.int x, Value.int y, Value.int u]) 8 = n_v vs 8 := n_v_old (by rw [hl]; decide)
  have e_13 : n_v (vs ++ [Value.int x, Value.int y, Value.int u]) 13 = n_v vs 13 := n_v_old (by rw [hl]; decide)
  have e_20 : n_v (vs ++ [Value.int x, Value.int y, Value.int u]) 20 = n_v vs 20 := n_v_old (by rw [hl]; decide)
  have e_22 : n_v (vs ++ [Value.int x, Value.int y, Value.int u]) 22 = Value.int x := n_v_newk (k := 0) hl rfl
  have e_23 : n_v (vs ++ [Value.int x, Value.int y, Value.int u]) 23 = Value.int y := n_v_newk (k := 1) hl rfl
  have e_24 : n_v (vs ++ [Value.int x, Value.int y, Value.int u]) 24 = Value.int u := n_v_newk (k := 2) hl rfl
  have nf0 : fc_1 PRD (23, [22, 5], [0, 1, -1]) ws (vs ++ [Value.int x, Value.int y, Value.int u]) := by
    refine ⟨nf_inA hl rfl, sgq_7 ?_⟩
    · show 1 * v_iv (n_v (vs ++ [Value.int x, Value.int y, Value.int u]) 22) + ((-1) * v_iv (n_v (vs ++ [Value.int x, Value.int y, Value.int u]) 5) + 0) ≤ 0
      simp only [e_5, e_22, q5]
      exact vc_Mo_edgeItem_26_0 (v_iv (n_v vs 1)) (v_iv (n_v vs 5)) (w_fi ws (n_v vs 0) 5) (v_iv (Value.int x)) k1 k5 d0 d1 ex2
  have nf1 : fc_1 PRD (23, [22, 5], [0, -1, 1]) ws (vs ++ [Value.int x, Value.int y, Value.int u]) := by
    refine ⟨nf_inA hl rfl, sgq_22 ?_⟩
    · show (-1) * v_iv (n_v (vs ++ [Value.int x, Value.int y, Value.int u]) 22) + (1 * v_iv (n_v (vs ++ [Value.int x, Value.int y, Value.int u]) 5) + 0) ≤ 0
      simp only [e_5, e_22, q5]
      exact vc_Mo_edgeItem_26_1 (v_iv (n_v vs 1)) (v_iv (n_v vs 5)) (w_fi ws (n_v vs 0) 5) (v_iv (Value.int x)) k1 k5 d0 d1 ex2
  have nf2 : fc_1 PRD (23, [23, 3], [0, 1, -1]) ws (vs ++ [Value.int x, Value.int y, Value.int u]) := by
    refine ⟨nf_inA hl rfl, sgq_7 ?_⟩
    · show 1 * v_iv (n_v (vs ++ [Value.int x, Value.int y, Value.int u]) 23) + ((-1) * v_iv (n_v (vs ++ [Value.int x, Value.int y, Value.int u]) 3) + 0) ≤ 0
      simp only [e_3, e_23]
      exact vc_Mo_edgeItem_26_2 (v_iv (n_v vs 3)) (v_iv (n_v vs 17)) (w_fi ws (n_v vs 0) 5) (v_iv (Value.int y)) k3 k17 f5 f6 ey2
  have nf3 : fc_1 PRD (23, [23, 3], [0, -1, 1]) ws (vs ++ [Value.int x, Value.int y, Value.int u]) := by
    refine ⟨nf_inA hl rfl, sgq_22 ?_⟩
    · show (-1) * v_iv (n_v (vs ++ [Value.int x, Value.int y, Value.int u]) 23) + (1 * v_iv (n_v (vs ++ [Value.int x, Value.int y, Value.int u]) 3) + 0) ≤ 0
      simp only [e_3, e_23]
      exact vc_Mo_edgeItem_26_3 (v_iv (n_v vs 3)) (v_iv (n_v vs 17)) (w_fi ws (n_v vs 0) 5) (v_iv (Value.int y)) k3 k17 f5 f6 ey2
  have nf4 : fc_1 PRD (23, [24, 7], [0, 1, -1]) ws (vs ++ [Value.int x, Value.int y, Value.int u]) := by
    refine ⟨nf_inA hl rfl, sgq_7 ?_⟩
    · show 1 * v_iv (n_v (vs ++ [Value.int x, Value.int y, Value.int u]) 24) + ((-1) * v_iv (n_v (vs ++ [Value.int x, Value.int y, Value.int u]) 7) + 0) ≤ 0
      simp only [e_7, e_24]
      exact vc_Mo_edgeItem_26_4 (v_iv (n_v vs 7)) (v_iv (n_v vs 18)) (w_fi ws (n_v vs 0) 5) (v_iv (Value.int u)) k7 k18 f7 f8 eu2
  have nf5 : fc_1 PRD (23, [24, 7], [0, -1, 1]) ws (vs ++ [Value.int x, Value.int y, Value.int u]) := by
    refine ⟨nf_inA hl rfl, sgq_22 ?_⟩
    · show (-1) * v_iv (n_v (vs ++ [Value.int x, Value.int y, Value.int u]) 24) + (1 * v_iv (n_v (vs ++ [Value.int x, Value.int y, Value.int u]) 7) + 0) ≤ 0
      simp only [e_7, e_24]
      exact vc_Mo_edgeItem_26_5 (v_iv (n_v vs 7)) (v_iv (n_v vs 18)) (w_fi ws (n_v vs 0) 5) (v_iv (Value.int u)) k7 k18 f7 f8 eu2
  have nf6 : fc_1 PRD (20, [4], [30, 47, 1, 3, 2005001]) ws (vs ++ [Value.int x, Value.int y, Value.int u]) := by
    refine ⟨nf_inA hl rfl, sgq_1007 ?_⟩
    · show 1 * w_el ws (w_ar ws (n_v (vs ++ [Value.int x, Value.int y, Value.int u]) 4) 2) (w_fi ws (n_v (vs ++ [Value.int x, Value.int y, Value.int u]) 4) 5 + 1).toNat + 0 ≤ 47
      simp only [e_4, q4]
      exact vc_Mo_edgeItem_26_6 (v_iv (n_v vs 6)) (v_iv (n_v vs 21)) (w_fi ws (n_v vs 0) 8) (w_ei ws (w_ar ws (n_v vs 0) 2)) (w_fi ws (n_v vs 0) 5) k6 k21 g2 f11 f26 kz_0_8
  have nf7 : fc_1 PRD (20, [4], [60, 1, 3, 199, 5, 2, 3, 4]) ws (vs ++ [Value.int x, Value.int y, Value.int u]) := by
    refine ⟨nf_inA hl rfl, sgq_980 ?_⟩
    · show RWS (w_fi ws (n_v (vs ++ [Value.int x, Value.int y, Value.int u]) 4) 5) (w_ei ws (w_ar ws (n_v (vs ++ [Value.int x, Value.int y, Value.int u]) 4) 2)) (w_ei ws (w_ar ws (n_v (vs ++ [Value.int x, Value.int y, Value.int u]) 4) 3)) (w_ei ws (w_ar ws (n_v (vs ++ [Value.int x, Value.int y, Value.int u]) 4) 4))
      simp only [e_4, q4]
      exact vc_Mo_edgeItem_26_7 (w_ei ws (w_ar ws (n_v vs 0) 2)) (w_fi ws (n_v vs 0) 5) (w_ei ws (w_ar ws (n_v vs 0) 3)) (w_ei ws (w_ar ws (n_v vs 0) 4)) f28
  have nf8 : fc_1 PRD (20, [4, 6, 20], [60, 1, 1, 203, 5, 2]) ws (vs ++ [Value.int x, Value.int y, Value.int u]) := by
    refine ⟨nf_inA hl rfl, sgq_1008 ?_⟩
    · show NWE (w_fi ws (n_v (vs ++ [Value.int x, Value.int y, Value.int u]) 4) 5) (w_ei ws (w_ar ws (n_v (vs ++ [Value.int x, Value.int y, Value.int u]) 4) 2)) (v_iv (n_v (vs ++ [Value.int x, Value.int y, Value.int u]) 6)) (v_iv (n_v (vs ++ [Value.int x, Value.int y, Value.int u]) 20))
      simp only [e_4, e_6, e_20, q4]
      exact vc_Mo_edgeItem_26_8 (v_iv (n_v vs 6)) (v_iv (n_v vs 20)) (v_iv (n_v vs 21)) (w_fi ws (n_v vs 0) 8) (w_ei ws (w_ar ws (n_v vs 0) 2)) (w_fi ws (n_v vs 0) 5) k6 k20 k21 g2 f11 f29 kz_0_8
  have nf9 : fc_1 PRD (20, [22, 4], [50, 1, 1, 1005, 1002, 0, 6, 4, 2, 1, 0, 0, 1, 3, 1, 2, 4, 3, 2, 1, 5, 0, 2]) ws (vs ++ [Value.int x, Value.int y, Value.int u]) := by
    refine ⟨nf_inA hl rfl, sgq_1009 ?_⟩
    · show (v_iv (n_v (vs ++ [Value.int x, Value.int y, Value.int u]) 22) + 1) ≤ w_ei ws (w_ar ws (n_v (vs ++ [Value.int x, Value.int y, Value.int u]) 4) 2) ((w_fi ws (n_v (vs ++ [Value.int x, Value.int y, Value.int u]) 4) 5 + 2))
      simp only [e_4, e_22, q4]
      exact vc_Mo_edgeItem_26_9 (v_iv (n_v vs 1)) (v_iv (n_v vs 5)) (w_ei ws (w_ar ws (n_v vs 0) 2)) (w_fi ws (n_v vs 0) 5) (v_iv (Value.int x)) k1 k5 d0 d1 f27 ex2
  have nf10 : fc_1 PRD (20, [4, 20, 24, 6, 13, 22, 23], [60, 8, 2, 994, 10, 11, 12, 13, 14, 15, 8, 5, 1, 2]) ws (vs ++ [Value.int x, Value.int y, Value.int u]) := by
    refine ⟨nf_inA hl rfl, sgq_1010 ?_⟩
    · show zRP8 (w_fi ws (n_v (vs ++ [Value.int x, Value.int y, Value.int u]) 4) 10) (w_fi ws (n_v (vs ++ [Value.int x, Value.int y, Value.int u]) 4) 11) (w_fi ws (n_v (vs ++ [Value.int x, Value.int y, Value.int u]) 4) 12) (w_fi ws (n_v (vs ++ [Value.int x, Value.int y, Value.int u]) 4) 13) (w_fi ws (n_v (vs ++ [Value.int x, Value.int y, Value.int u]) 4) 14) (w_fi ws (n_v (vs ++ [Value.int x, Value.int y, Value.int u]) 4) 15) (w_fi ws (n_v (vs ++ [Value.int x, Value.int y, Value.int u]) 4) 8) (w_fi ws (n_v (vs ++ [Value.int x, Value.int y, Value.int u]) 4) 5) (w_ei ws (w_ar ws (n_v (vs ++ [Value.int x, Value.int y, Value.int u]) 4) 1)) (w_ei ws (w_ar ws (n_v (vs ++ [Value.int x, Value.int y, Value.int u]) 4) 2)) (v_iv (n_v (vs ++ [Value.int x, Value.int y, Value.int u]) 20)) (v_iv (n_v (vs ++ [Value.int x, Value.int y, Value.int u]) 24)) (v_iv (n_v (vs ++ [Value.int x, Value.int y, Value.int u]) 6)) (v_iv (n_v (vs ++ [Value.int x, Value.int y, Value.int u]) 13)) (v_iv (n_v (vs ++ [Value.int x, Value.int y, Value.int u]) 22)) (v_iv (n_v (vs ++ [Value.int x, Value.int y, Value.int u]) 23))
      simp only [e_4, e_6, e_13, e_20, e_22, e_23, e_24, q4]
      exact vc_Mo_edgeItem_26_10 (v_iv (n_v vs 1)) (v_iv (n_v vs 2)) (v_iv (n_v vs 3)) (v_iv (n_v vs 6)) (v_iv (n_v vs 7)) (v_iv (n_v vs 13)) (v_iv (n_v vs 15)) (v_iv (n_v vs 17)) (v_iv (n_v vs 18)) (v_iv (n_v vs 19)) (v_iv (n_v vs 20)) (v_iv (n_v vs 21)) (w_fi ws (n_v vs 0) 8) (w_fi ws (n_v vs 0) 15) (w_fi ws (n_v vs 0) 11) (w_fi ws (n_v vs 0) 12) (w_ei ws (w_ar ws (n_v vs 0) 2)) (w_fi ws (n_v vs 0) 5) (w_ei ws (w_ar ws (n_v vs 0) 1)) (w_fi ws (n_v vs 0) 10) (w_fi ws (n_v vs 0) 13) (w_fi ws (n_v vs 0) 14) (w_fi ws (n_v vs 0) 9) (v_iv (Value.int x)) (v_iv (Value.int y)) (v_iv (Value.int u)) k1 k2 k3 k6 k7 k13 k15 k17 k18 k19 k20 k21 f1 g2 f3 f4 f5 f6 f7 f8 f9 f30 kz_0_8 kz_0_9 kz_0_10 kz_0_11 kz_0_12 kz_0_13 kz_0_14 kz_0_15 ex2 ey2 eu2
  have nf11 : fc_1 PRD (20, [2, 4], [30, -1, 1, 0, 0, -1, 1, 11]) ws (vs ++ [Value.int x, Value.int y, Value.int u]) := by
    refine ⟨nf_inA hl rfl, sgq_2005 ?_⟩
    · show 1 * v_iv (n_v (vs ++ [Value.int x, Value.int y, Value.int u]) 2) + ((-1) * w_fi ws (n_v (vs ++ [Value.int x, Value.int y, Value.int u]) 4) 11 + 0) ≤ (-1)
      simp only [e_2, e_4, q4]
      exact vc_Mo_edgeItem_26_11 (v_iv (n_v vs 2)) (v_iv (n_v vs 6)) (v_iv (n_v vs 15)) (v_iv (n_v vs 16)) (v_iv (n_v vs 20)) (v_iv (n_v vs 21)) (w_fi ws (n_v vs 0) 8) (w_fi ws (n_v vs 0) 11) (w_ei ws (w_ar ws (n_v vs 0) 2)) (w_fi ws (n_v vs 0) 5) k2 k6 k15 k16 k20 k21 g2 f3 f4 f11 f13 f22 f24 f25 f26 kz_0_8 kz_0_11
  have nf12 : fc_1 PRD (20, [8, 4], [30, -2001, -1, 0, 0, -1, 1, 11]) ws (vs ++ [Value.int x, Value.int y, Value.int u]) := by
    refine ⟨nf_inA hl rfl, sgq_2013 ?_⟩
    · show (-1) * v_iv (n_v (vs ++ [Value.int x, Value.int y, Value.int u]) 8) + ((-1) * w_fi ws (n_v (vs ++ [Value.int x, Value.int y, Value.int u]) 4) 11 + 0) ≤ (-2001)
      simp only [e_4, e_8, q4]
      exact vc_Mo_edgeItem_26_12 (v_iv (n_v vs 6)) (v_iv (n_v vs 8)) (v_iv (n_v vs 16)) (v_iv (n_v vs 20)) (v_iv (n_v vs 21)) (w_fi ws (n_v vs 0) 8) (w_fi ws (n_v vs 0) 11) (w_ei ws (w_ar ws (n_v vs 0) 2)) (w_fi ws (n_v vs 0) 5) k6 k8 k16 k20 k21 g2 f11 f12 f24 f25 f26 kz_0_8 kz_0_11
  have rf20 : tv_ok ta (0, 0, 23, []) (n_v vs 20) := tv_in t20 (by first | omega | grind) (by first | omega | grind)
  have rf6 : tv_ok ta (0, 0, 23, []) (n_v vs 6) := tv_in t6 (by first | omega | grind) (by first | omega | grind)
  exact ⟨List.forall_mem_cons.mpr ⟨rf20, List.forall_mem_cons.mpr ⟨rf6, (fun _ h => (by cases h))⟩⟩, [Value.int x, Value.int y, Value.int u], ag_three hx hy hu, List.forall_mem_cons.mpr ⟨⟨show (23 : Nat) < 100 from by decide, nf0⟩, List.forall_mem_cons.mpr ⟨⟨show (23 : Nat) < 100 from by decide, nf1⟩, List.forall_mem_cons.mpr ⟨⟨show (23 : Nat) < 100 from by decide, nf2⟩, List.forall_mem_cons.mpr ⟨⟨show (23 : Nat) < 100 from by decide, nf3⟩, List.forall_mem_cons.mpr ⟨⟨show (23 : Nat) < 100 from by decide, nf4⟩, List.forall_mem_cons.mpr ⟨⟨show (23 : Nat) < 100 from by decide, nf5⟩, List.forall_mem_cons.mpr ⟨⟨show (20 : Nat) < 100 from by decide, nf6⟩, List.forall_mem_cons.mpr ⟨⟨show (20 : Nat) < 100 from by decide, nf7⟩, List.forall_mem_cons.mpr ⟨⟨show (20 : Nat) < 100 from by decide, nf8⟩, List.forall_mem_cons.mpr ⟨⟨show (20 : Nat) < 100 from by decide, nf9⟩, List.forall_mem_cons.mpr ⟨⟨show (20 : Nat) < 100 from by decide, nf10⟩, List.forall_mem_cons.mpr ⟨⟨show (20 : Nat) < 100 from by decide, nf11⟩, List.forall_mem_cons.mpr ⟨⟨show (20 : Nat) < 100 from by decide, nf12⟩, (fun _ h => (by cases h))⟩⟩⟩⟩⟩⟩⟩⟩⟩⟩⟩⟩⟩, (fun _ h => (by cases h))⟩
set_option maxHeartbeats 4000000 in
theorem vc_Mo_edgeItem_27_0 (x1 : Int) (x5 : Int) (x22 : Int) (all_0 : Int → Int) (r_0 : Int) (k1 : 0 ≤ x1 ∧ x1 ≤ 7) (k5 : 0 ≤ x5 ∧ x5 ≤ 7) (k22 : 0 ≤ x22 ∧ x22 ≤ 7) (d0 : x5 + (-4294967296) ≤ x1 ∧ x1 ≤ x5 + 0) (d1 : x1 + (-4294967296) ≤ x5 ∧ x5 ≤ x1 + 0) (f1 : 1 * x22 + ((-1) * x1 + 0) ≤ 0) (f2 : (-1) * x22 + (1 * x1 + 0) ≤ 0) (f33 : (x22 + 1) ≤ all_0 ((r_0 + 2))) : (x1 + 1) ≤ all_0 ((r_0 + 2)) := by
  first
    | omega
    | (have q1 := (hE_0_2_1 (r_0 + 2) (by omega)).2 (by omega)
       have q2 := (hE_0_2_2 (r_0 + 2) (by omega)).2 (by omega)
       omega)
    | (have q1 := (hE_0_2_1 (r_0 + 1) (by omega)).2 (by omega)
       have q2 := (hE_0_2_2 (r_0 + 1) (by omega)).2 (by omega)
       omega)
    | (have q1 := (hE_0_2_1 (r_0 + 2) (by omega)).2 (by omega)
       omega)
    | (have q1 := (hE_0_2_1 (r_0 + 1) (by omega)).2 (by omega)
       omega)
    | (have q1 := (hE_0_2_1 (r_0 + 2) (by omega)).2 (by omega)
       have q2 := (hE_0_2_2 (r_0 + 2) (by omega)).2 (by omega)
       have q3 := (hE_0_2_3 (r_0 + 2) (by omega)).1 (by omega)
       omega)
    | (have q1 := (hE_0_2_1 (r_0 + 2) (by omega)).2 (by omega)
       have q2 := (hE_0_2_2 (r_0 + 2) (by omega)).2 (by omega)
       have q3 := (hE_0_2_3 (r_0 + 2) (by omega)).2 (by omega)
       omega)
set_option maxHeartbeats 4000000 in
theorem vc_Mo_edgeItem_27_1 (pos_0 : Int) (from_0 : Int) (r_0 : Int) (f25 : 1 * from_0 + ((-1) * pos_0 + 0) ≤ 0) (kz_0_11 : 0 ≤ pos_0 ∧ pos_0 ≤ 2000) (kz_0_15 : 0 ≤ from_0 ∧ from_0 ≤ 2000) : 1 * from_0 + ((-1) * pos_0 + 0) ≤ 0 := by
  first
    | omega
    | (have q1 := (hE_0_2_1 (r_0 + 2) (by omega)).2 (by omega)
       have q2 := (hE_0_2_2 (r_0 + 2) (by omega)).2 (by omega)
       omega)
    | (have q1 := (hE_0_2_1 (r_0 + 1) (by omega)).2 (by omega)
       have q2 := (hE_0_2_2 (r_0 + 1) (by omega)).2 (by omega)
       omega)
    | (have q1 := (hE_0_2_1 (r_0 + 2) (by omega)).2 (by omega)
       omega)
    | (have q1 := (hE_0_2_1 (r_0 + 1) (by omega)).2 (by omega)
       omega)
    | (have q1 := (hE_0_2_1 (r_0 + 2) (by omega)).2 (by omega)
       have q2 := (hE_0_2_2 (r_0 + 2) (by omega)).2 (by omega)
       have q3 := (hE_0_2_3 (r_0 + 2) (by omega)).1 (by omega)
       omega)
    | (have q1 := (hE_0_2_1 (r_0 + 2) (by omega)).2 (by omega)
       have q2 := (hE_0_2_2 (r_0 + 2) (by omega)).2 (by omega)
       have q3 := (hE_0_2_3 (r_0 + 2) (by omega)).2 (by omega)
       omega)
set_option maxHeartbeats 4000000 in
theorem vc_Mo_edgeItem_27_2 (pos_0 : Int) (from_0 : Int) (kind_0 : Int) (r_0 : Int) (f26 : ((kind_0 = 1) → (pos_0 ≤ (from_0 + 8))) ∧ ((kind_0 = 0) ∨ ((from_0 + 1) ≤ pos_0))) (kz_0_11 : 0 ≤ pos_0 ∧ pos_0 ≤ 2000) (kz_0_12 : 0 ≤ kind_0 ∧ kind_0 ≤ 4) (kz_0_15 : 0 ≤ from_0 ∧ from_0 ≤ 2000) : ((kind_0 = 1) → (pos_0 ≤ (from_0 + 8))) ∧ ((kind_0 = 0) ∨ ((from_0 + 1) ≤ pos_0)) := by
  first
    | omega
    | (have q1 := (hE_0_2_1 (r_0 + 2) (by omega)).2 (by omega)
       have q2 := (hE_0_2_2 (r_0 + 2) (by omega)).2 (by omega)
       omega)
    | (have q1 := (hE_0_2_1 (r_0 + 1) (by omega)).2 (by omega)
       have q2 := (hE_0_2_2 (r_0 + 1) (by omega)).2 (by omega)
       omega)
    | (have q1 := (hE_0_2_1 (r_0 + 2) (by omega)).2 (by omega)
       omega)
    | (have q1 := (hE_0_2_1 (r_0 + 1) (by omega)).2 (by omega)
       omega)
    | (have q1 := (hE_0_2_1 (r_0 + 2) (by omega)).2 (by omega)
       have q2 := (hE_0_2_2 (r_0 + 2) (by omega)).2 (by omega)
       have q3 := (hE_0_2_3 (r_0 + 2) (by omega)).1 (by omega)
       omega)
    | (have q1 := (hE_0_2_1 (r_0 + 2) (by omega)).2 (by omega)
       have q2 := (hE_0_2_2 (r_0 + 2) (by omega)).2 (by omega)
       have q3 := (hE_0_2_3 (r_0 + 2) (by omega)).2 (by omega)
       omega)
set_option maxHeartbeats 4000000 in
theorem vc_Mo_edgeItem_27_3 (x2 : Int) (pos_0 : Int) (r_0 : Int) (k2 : 0 ≤ x2 ∧ x2 ≤ 2000) (f7 : 1 * x2 + ((-1) * pos_0 + 0) ≤ (-1)) (kz_0_11 : 0 ≤ pos_0 ∧ pos_0 ≤ 2000) : 1 * x2 + ((-1) * pos_0 + 0) ≤ (-1) := by
  first
    | omega
    | (have q1 := (hE_0_2_1 (r_0 + 2) (by omega)).2 (by omega)
       have q2 := (hE_0_2_2 (r_0 + 2) (by omega)).2 (by omega)
       omega)
    | (have q1 := (hE_0_2_1 (r_0 + 1) (by omega)).2 (by omega)
       have q2 := (hE_0_2_2 (r_0 + 1) (by omega)).2 (by omega)
       omega)
    | (have q1 := (hE_0_2_1 (r_0 + 2) (by omega)).2 (by omega)
       omega)
    | (have q1 := (hE_0_2_1 (r_0 + 1) (by omega)).2 (by omega)
       omega)
    | (have q1 := (hE_0_2_1 (r_0 + 2) (by omega)).2 (by omega)
       have q2 := (hE_0_2_2 (r_0 + 2) (by omega)).2 (by omega)
       have q3 := (hE_0_2_3 (r_0 + 2) (by omega)).1 (by omega)
       omega)
    | (have q1 := (hE_0_2_1 (r_0 + 2) (by omega)).2 (by omega)
       have q2 := (hE_0_2_2 (r_0 + 2) (by omega)).2 (by omega)
       have q3 := (hE_0_2_3 (r_0 + 2) (by omega)).2 (by omega)
       omega)
set_option maxHeartbeats 4000000 in
theorem vc_Mo_edgeItem_27_4 (x8 : Int) (pos_0 : Int) (r_0 : Int) (gx : Int) (k8 : 0 ≤ x8 ∧ x8 ≤ 2000) (f8 : (-1) * x8 + ((-1) * pos_0 + 0) ≤ (-2001)) (kz_0_11 : 0 ≤ pos_0 ∧ pos_0 ≤ 2000) (ex2 : gx = 0 + (1 * x8 + 0)) : (-1) * gx + ((-1) * pos_0 + 0) ≤ (-2001) := by
  first
    | omega
    | (have q1 := (hE_0_2_1 (r_0 + 2) (by omega)).2 (by omega)
       have q2 := (hE_0_2_2 (r_0 + 2) (by omega)).2 (by omega)
       omega)
    | (have q1 := (hE_0_2_1 (r_0 + 1) (by omega)).2 (by omega)
       have q2 := (hE_0_2_2 (r_0 + 1) (by omega)).2 (by omega)
       omega)
    | (have q1 := (hE_0_2_1 (r_0 + 2) (by omega)).2 (by omega)
       omega)
    | (have q1 := (hE_0_2_1 (r_0 + 1) (by omega)).2 (by omega)
       omega)
    | (have q1 := (hE_0_2_1 (r_0 + 2) (by omega)).2 (by omega)
       have q2 := (hE_0_2_2 (r_0 + 2) (by omega)).2 (by omega)
       have q3 := (hE_0_2_3 (r_0 + 2) (by omega)).1 (by omega)
       omega)
    | (have q1 := (hE_0_2_1 (r_0 + 2) (by omega)).2 (by omega)
       have q2 := (hE_0_2_2 (r_0 + 2) (by omega)).2 (by omega)
       have q3 := (hE_0_2_3 (r_0 + 2) (by omega)).2 (by omega)
       omega)
set_option maxHeartbeats 4000000 in
theorem vc_Mo_edgeItem_27_5 (x20 : Int) (r_0 : Int) (k20 : 0 ≤ x20 ∧ x20 ≤ 23) (f42 : (-1) * x20 + 0 ≤ 0) : (-1) * x20 + 0 ≤ 0 := by
  first
    | omega
    | (have q1 := (hE_0_2_1 (r_0 + 2) (by omega)).2 (by omega)
       have q2 := (hE_0_2_2 (r_0 + 2) (by omega)).2 (by omega)
       omega)
    | (have q1 := (hE_0_2_1 (r_0 + 1) (by omega)).2 (by omega)
       have q2 := (hE_0_2_2 (r_0 + 1) (by omega)).2 (by omega)
       omega)
    | (have q1 := (hE_0_2_1 (r_0 + 2) (by omega)).2 (by omega)
       omega)
    | (have q1 := (hE_0_2_1 (r_0 + 1) (by omega)).2 (by omega)
       omega)
    | (have q1 := (hE_0_2_1 (r_0 + 2) (by omega)).2 (by omega)
       have q2 := (hE_0_2_2 (r_0 + 2) (by omega)).2 (by omega)
       have q3 := (hE_0_2_3 (r_0 + 2) (by omega)).1 (by omega)
       omega)
    | (have q1 := (hE_0_2_1 (r_0 + 2) (by omega)).2 (by omega)
       have q2 := (hE_0_2_2 (r_0 + 2) (by omega)).2 (by omega)
       have q3 := (hE_0_2_3 (r_0 + 2) (by omega)).2 (by omega)
       omega)
set_option maxHeartbeats 4000000 in
theorem vc_Mo_edgeItem_27_6 (all_0 : Int → Int) (now_0 : Int → Int) (latest_0 : Int → Int) (r_0 : Int) (f31 : RWS (r_0) (all_0) (now_0) (latest_0)) : RWS (r_0) (all_0) (now_0) (latest_0) := by
  first
    | assumption
set_option maxHeartbeats 4000000 in
theorem vc_Mo_edgeItem_27_7 (x20 : Int) (all_0 : Int → Int) (r_0 : Int) (k20 : 0 ≤ x20 ∧ x20 ≤ 23) (f32 : NDA (r_0) (all_0) (x20)) : NDA (r_0) (all_0) (x20) := by
  first
    | assumption
set_option maxHeartbeats 4000000 in
theorem vc_Mo_edgeItem_27_8 (x1 : Int) (x2 : Int) (x3 : Int) (x5 : Int) (x7 : Int) (x15 : Int) (x17 : Int) (x18 : Int) (x20 : Int) (x21 : Int) (x22 : Int) (x23 : Int) (x24 : Int) (fault_0 : Int) (pos_0 : Int) (from_0 : Int) (kind_0 : Int) (all_0 : Int → Int) (r_0 : Int) (tape_0 : Int → Int) (limit_0 : Int) (place_0 : Int) (value_0 : Int) (k1 : 0 ≤ x1 ∧ x1 ≤ 7) (k2 : 0 ≤ x2 ∧ x2 ≤ 2000) (k3 : 0 ≤ x3 ∧ x3 ≤ 4) (k5 : 0 ≤ x5 ∧ x5 ≤ 7) (k7 : 0 ≤ x7 ∧ x7 ≤ 48) (k15 : 0 ≤ x15 ∧ x15 ≤ 2000) (k20 : 0 ≤ x20 ∧ x20 ≤ 23) (k21 : 0 ≤ x21 ∧ x21 ≤ 0) (k22 : 0 ≤ x22 ∧ x22 ≤ 7) (k23 : 0 ≤ x23 ∧ x23 ≤ 4) (k24 : 0 ≤ x24 ∧ x24 ≤ 48) (d0 : x5 + (-4294967296) ≤ x1 ∧ x1 ≤ x5 + 0) (d1 : x1 + (-4294967296) ≤ x5 ∧ x5 ≤ x1 + 0) (g0 : x21 = fault_0) (f1 : 1 * x22 + ((-1) * x1 + 0) ≤ 0) (f2 : (-1) * x22 + (1 * x1 + 0) ≤ 0) (f3 : 1 * x23 + ((-1) * x3 + 0) ≤ 0) (f4 : (-1) * x23 + (1 * x3 + 0) ≤ 0) (f5 : 1 * x24 + ((-1) * x7 + 0) ≤ 0) (f6 : (-1) * x24 + (1 * x7 + 0) ≤ 0) (f10 : 1 * x15 + ((-1) * x2 + 0) ≤ 0) (f11 : (-1) * x15 + (1 * x2 + 0) ≤ 0) (f34 : zRS8 (limit_0) (pos_0) (kind_0) (place_0) (value_0) (from_0) (fault_0) (r_0) (tape_0) (all_0) (x20) (x24) (x22) (x23)) (kz_0_8 : 0 ≤ fault_0 ∧ fault_0 ≤ 5) (kz_0_10 : 0 ≤ limit_0 ∧ limit_0 ≤ 2000) (kz_0_11 : 0 ≤ pos_0 ∧ pos_0 ≤ 2000) (kz_0_12 : 0 ≤ kind_0 ∧ kind_0 ≤ 4) (kz_0_13 : 0 ≤ place_0 ∧ place_0 ≤ 2000) (kz_0_14 : (-49) ≤ value_0 ∧ value_0 ≤ 1048575) (kz_0_15 : 0 ≤ from_0 ∧ from_0 ≤ 2000) : zRS8 (limit_0) (pos_0) (kind_0) (place_0) (value_0) (from_0) (fault_0) (r_0) (tape_0) (all_0) (x20) (x7) (x1) (x3) := by
  first | (have el_x22 : x22 = x1 := by omega); subst el_x22 | skip
  first | (have el_x23 : x23 = x3 := by omega); subst el_x23 | skip
  first | (have el_x24 : x24 = x7 := by omega); subst el_x24 | skip
  first | (have el_x15 : x15 = x2 := by omega); subst el_x15 | skip
  first | (have el_x17 : x17 = x3 := by omega); subst el_x17 | skip
  first | (have el_x18 : x18 = x7 := by omega); subst el_x18 | skip
  first | subst g0 | skip
  assumption
def o_Mo_edgeItem_27 : or_T := (109, 25, [(0, (2, 0, 0, [165])), (1, (0, 0, 7, [])), (2, (0, 0, 2000, [])), (3, (0, 0, 4, [])), (4, (2, 0, 0, [165])), (5, (0, 0, 7, [])), (6, (0, 0, 23, [])), (7, (0, 0, 48, [])), (8, (0, 0, 2000, [])), (14, (0, 0, 2000, [])), (15, (0, 0, 2000, [])), (16, (0, 0, 2000, [])), (17, (0, 0, 4, [])), (18, (0, 0, 48, [])), (20, (0, 0, 23, [])), (21, (0, 0, 0, [])), (22, (0, 0, 7, [])), (23, (0, 0, 4, [])), (24, (0, 0, 48, []))], [(9, [21, 4], [8]), (23, [22, 5], [0, 1, -1]), (23, [22, 5], [0, -1, 1]), (23, [23, 3], [0, 1, -1]), (23, [23, 3], [0, -1, 1]), (23, [24, 7], [0, 1, -1]), (23, [24, 7], [0, -1, 1]), (20, [2, 4], [30, -1, 1, 0, 0, -1, 1, 11]), (20, [8, 4], [30, -2001, -1, 0, 0, -1, 1, 11]), (23, [20], [0, -1]), (23, [15, 2], [0, 1, -1]), (23, [15, 2], [0, -1, 1]), (23, [17, 3], [0, 1, -1]), (23, [17, 3], [0, -1, 1]), (23, [18, 7], [0, 1, -1]), (23, [18, 7], [0, -1, 1]), (20, [6], [50, 0, 0, 0, 2, 0, 0, 1, 0]), (23, [8, 16], [-2000, -1, -1]), (23, [2, 16], [-1, 1, -1]), (23, [2, 14], [-1, 1, -1]), (23, [8, 14], [-2000, -1, -1]), (20, [2, 14], [30, 0, 1, 0, 0, -1, 0, 0]), (23, [6], [0, -1]), (24, [0, 4], []), (24, [1, 5], []), (20, [4, 4], [30, 0, 1, 1, 15, -1, 1, 11]), (20, [4], [50, 3, 0, 12, 11, 15, 2, 21, 4, 7, 1, 3, 2, 0, 12, 0, 1, 0, 3, 2, 0, 11, 4, 3, 2, 0, 15, 0, 8, 3, 7, 1, 3, 2, 0, 12, 0, 0, 0, 7, 4, 3, 2, 0, 15, 0, 1, 2, 0, 11]), (20, [15, 4], [30, 0, 1, 0, 0, -1, 1, 11]), (20, [4, 15], [50, 3, 0, 8, 12, 11, 3, 7, 0, 2, 0, 1, 2, 0, 8, 3, 7, 1, 3, 2, 0, 12, 0, 0, 0, 6, 4, 2, 1, 1, 0, 1, 2, 0, 11]), (20, [4, 16], [50, 2, 0, 8, 11, 3, 7, 0, 2, 0, 1, 2, 0, 8, 0, 6, 4, 2, 1, 1, 0, 1, 2, 0, 11]), (20, [4, 20], [31, 1, -1, -1, 1, 8, 0, -1, 0, 0]), (20, [4], [60, 1, 3, 199, 5, 2, 3, 4]), (20, [4, 20], [60, 1, 1, 208, 5, 2]), (20, [22, 4], [50, 1, 1, 1005, 1002, 0, 6, 4, 2, 1, 0, 0, 1, 3, 1, 2, 4, 3, 2, 1, 5, 0, 2]), (20, [4, 20, 24, 22, 23], [60, 8, 2, 968, 10, 11, 12, 13, 14, 15, 8, 5, 1, 2]), (102, [24], [187072209578355573530071658587684226515959365500928]), (23, [22, 5], [0, 1, -1]), (23, [22, 5], [0, -1, 1]), (23, [23, 3], [0, 1, -1]), (23, [23, 3], [0, -1, 1]), (23, [24, 7], [0, 1, -1]), (23, [24, 7], [0, -1, 1]), (23, [20], [0, -1]), (8, [21], [5]), (23, [15, 2], [0, 1, -1]), (23, [15, 2], [0, -1, 1]), (23, [17, 3], [0, 1, -1]), (23, [17, 3], [0, -1, 1]), (23, [18, 7], [0, 1, -1]), (23, [18, 7], [0, -1, 1]), (23, [8, 16], [-2000, -1, -1]), (23, [2, 16], [-1, 1, -1]), (23, [2, 14], [-1, 1, -1]), (23, [8, 14], [-2000, -1, -1]), (23, [6], [0, -1]), (102, [19], [187072209578355573530071658587684226515959365500928, 165008, 165009, 165011, 165012, 165013, 165014, 165015]), (23, [15, 2], [0, 1, -1]), (23, [15, 2], [0, -1, 1]), (23, [17, 3], [0, 1, -1]), (23, [17, 3], [0, -1, 1]), (23, [18, 7], [0, 1, -1]), (23, [18, 7], [0, -1, 1]), (23, [8, 16], [-2000, -1, -1]), (23, [2, 16], [-1, 1, -1]), (23, [2, 14], [-1, 1, -1]), (23, [8, 14], [-2000, -1, -1]), (23, [6], [0, -1]), (102, [14], [0, 165011, 165012, 165013, 165014, 165015]), (23, [2, 14], [-1, 1, -1]), (23, [8, 14], [-2000, -1, -1]), (23, [6], [0, -1])], [], [(0, 0, 2000, [])], [(20, [5, 4], [50, 1, 1, 1005, 1002, 0, 6, 4, 2, 1, 0, 0, 1, 3, 1, 2, 4, 3, 2, 1, 5, 0, 2]), (20, [4, 4], [30, 0, 1, 1, 15, -1, 1, 11]), (20, [4], [50, 3, 0, 12, 11, 15, 2, 21, 4, 7, 1, 3, 2, 0, 12, 0, 1, 0, 3, 2, 0, 11, 4, 3, 2, 0, 15, 0, 8, 3, 7, 1, 3, 2, 0, 12, 0, 0, 0, 7, 4, 3, 2, 0, 15, 0, 1, 2, 0, 11]), (20, [2, 4], [30, -1, 1, 0, 0, -1, 1, 11]), (20, [25, 4], [30, -2001, -1, 0, 0, -1, 1, 11]), (23, [20], [0, -1]), (20, [4], [60, 1, 3, 199, 5, 2, 3, 4]), (20, [4, 20], [60, 1, 1, 208, 5, 2]), (20, [4, 20, 7, 5, 3], [60, 8, 2, 968, 10, 11, 12, 13, 14, 15, 8, 5, 1, 2]), (24, [0, 4], []), (24, [1, 5], [])], [(25, 8, 0, 0)], [(1, 5, -4294967296, 0), (5, 1, -4294967296, 0)])
theorem oo_Mo_edgeItem_27 {kA : Nat → ClassId} : or_ok PRD kA GG o_Mo_edgeItem_27 := by
  refine or_mk fun A ta ws vs hD hth hl => ?_
  intro t0 r0 t1 k1 t2 k2 t3 k3 t4 r4 t5 k5 t6 k6 t7 k7 t8 k8 t14 k14 t15 k15 t16 k16 t17 k17 t18 k18 t20 k20 t21 k21 t22 k22 t23 k23 t24 k24 d0 d1 f0 f1 f2 f3 f4 f5 f6 f7 f8 f9 f10 f11 f12 f13 f14 f15 f16 f17 f18 f19 f20 f21 f22 f23 f24 f25 f26 f27 f28 f29 f30 f31 f32 f33 f34 ta1 w1 le1 s1 f36 f37 f38 f39 f40 f41 f42 f43 f44 f45 f46 f47 f48 f49 f50 f51 f52 f53 f54 ta2 w2 le2 s2 f56 f57 f58 f59 f60 f61 f62 f63 f64 f65 f66 ta3 w3 le3 s3 f68 f69 f70
  replace f0 := shm_293 f0
  replace f1 := shm_7 f1
  replace f2 := shm_22 f2
  replace f3 := shm_7 f3
  replace f4 := shm_22 f4
  replace f5 := shm_7 f5
  replace f6 := shm_22 f6
  replace f7 := shm_2005 f7
  replace f8 := shm_2013 f8
  replace f9 := shm_1043 f9
  replace f10 := shm_7 f10
  replace f11 := shm_22 f11
  replace f12 := shm_7 f12
  replace f13 := shm_22 f13
  replace f14 := shm_7 f14
  replace f15 := shm_22 f15
  replace f16 := shm_722 f16
  replace f17 := shm_2009 f17
  replace f18 := shm_193 f18
  replace f19 := shm_193 f19
  replace f20 := shm_2009 f20
  replace f21 := shm_201 f21
  replace f22 := shm_1043 f22
  replace f23 := shm_5 f23
  replace f24 := shm_5 f24
  replace f25 := shm_1437 f25
  replace f26 := shm_1438 f26
  replace f27 := shm_1431 f27
  replace f28 := shm_1722 f28
  replace f29 := shm_1726 f29
  replace f30 := shm_2117 f30
  replace f31 := shm_980 f31
  replace f32 := shm_983 f32
  replace f33 := shm_1009 f33
  replace f34 := shm_1011 f34
  replace f36 := shm_7 f36
  replace f37 := shm_22 f37
  replace f38 := shm_7 f38
  replace f39 := shm_22 f39
  replace f40 := shm_7 f40
  replace f41 := shm_22 f41
  replace f42 := shm_1043 f42
  replace f43 := shm_295 f43
  replace f44 := shm_7 f44
  replace f45 := shm_22 f45
  replace f46 := shm_7 f46
  replace f47 := shm_22 f47
  replace f48 := shm_7 f48
  replace f49 := shm_22 f49
  replace f50 := shm_2009 f50
  replace f51 := shm_193 f51
  replace f52 := shm_193 f52
  replace f53 := shm_2009 f53
  replace f54 := shm_1043 f54
  replace f56 := shm_7 f56
  replace f57 := shm_22 f57
  replace f58 := shm_7 f58
  replace f59 := shm_22 f59
  replace f60 := shm_7 f60
  replace f61 := shm_22 f61
  replace f62 := shm_2009 f62
  replace f63 := shm_193 f63
  replace f64 := shm_193 f64
  replace f65 := shm_2009 f65
  replace f66 := shm_1043 f66
  replace f68 := shm_193 f68
  replace f69 := shm_2009 f69
  replace f70 := shm_1043 f70
  have q4 : n_v vs 4 = n_v vs 0 := f23.symm
  have q5 : n_v vs 5 = n_v vs 1 := f24.symm
  simp only [q4, q5] at f0 f1 f2 f7 f8 f25 f26 f27 f28 f29 f30 f31 f32 f33 f34 f36 f37
  have cr_0_1 := fdq_39 hD hth r0
  have cr_0_2 := fdq_10 hD hth r0
  have cr_0_3 := fdq_142 hD hth r0
  have cr_0_4 := fdq_143 hD hth r0
  have g0 : v_iv (n_v vs 21) = w_fi ws (n_v vs 0) 8 := congrArg v_iv f0
  have hK_0_1 := elq_7 hD hth cr_0_1
  have hK_0_3 := elq_80 hD hth cr_0_3
  have hK_0_4 := elq_81 hD hth cr_0_4
  have kz_0_8 := fdq_34 hD hth r0
  have kz_0_10 := fdq_43 hD hth r0
  have kz_0_11 := fdq_237 hD hth r0
  have kz_0_12 := fdq_187 hD hth r0
  have kz_0_13 := fdq_238 hD hth r0
  have kz_0_14 := fdq_188 hD hth r0
  have kz_0_15 := fdq_239 hD hth r0
  obtain ⟨x, ex, hx⟩ := iv_ex (ta := ta) (lo := 0) (hi := 2000) (z := 0 + (1 * v_iv (n_v vs 8) + 0)) (by omega) (by omega) (by omega) (by omega)
  have ex2 : v_iv (Value.int x) = 0 + (1 * v_iv (n_v vs 8) + 0) := ex
  have ex3 : 0 ≤ v_iv (Value.int x) ∧ v_iv (Value.int x) ≤ 2000 := tv_rng hx
  have e_0 : n_v (vs ++ [Value.int x]) 0 = n_v vs 0 := n_v_old (by rw [hl]; decide)
  have e_1 : n_v (vs ++ [Value.int x]) 1 = n_v vs 1 := n_v_old (by rw [hl]; decide)
  have e_2 : n_v (vs ++ [Value.int x]) 2 = n_v vs 2 := n_v_old (by rw [hl]; decide)
  have e_3 : n_v (vs ++ [Value.int x]) 3 = n_v vs 3 := n_v_old (by rw [hl]; decide)
  have e_4 : n_v (vs ++ [Value.int x]) 4 = n_v vs 4 := n_v_old (by rw [hl]; decide)
  have e_5 : n_v (vs ++ [Value.int x]) 5 = n_v vs 5 := n_v_old (by rw [hl]; decide)
  have e_7 : n_v (vs ++ [Value.int x]) 7 = n_v vs 7 := n_v_old (by rw [hl]; decide)
  have e_20 : n_v (vs ++ [Value.int x]) 20 = n_v vs 20 := n_v_old (by rw [hl]; decide)
  have e_25 : n_v (vs ++ [Value.int x]) 25 = Value.int x := n_v_new hl
  have nf0 : fc_1 PRD (20, [5, 4], [50, 1, 1, 1005, 1002, 0, 6, 4, 2, 1, 0, 0, 1, 3, 1, 2, 4, 3, 2, 1, 5, 0, 2]) ws (vs ++ [Value.int x]) := by
    refine ⟨nf_inA hl rfl, sgq_1009 ?_⟩
    · show (v_iv (n_v (vs ++ [Value.int x]) 5) + 1) ≤ w_ei ws (w_ar ws (n_v (vs ++ [Value.int x]) 4) 2) ((w_fi ws (n_v (vs ++ [Value.int x]) 4) 5 + 2))
      simp only [e_4, e_5, q4, q5]
      exact vc_Mo_edgeItem_27_0 (v_iv (n_v vs 1)) (v_iv (n_v vs 5)) (v_iv (n_v vs 22)) (w_ei ws (w_ar ws (n_v vs 0) 2)) (w_fi ws (n_v vs 0) 5) k1 k5 k22 d0 d1 f1 f2 f33
  have nf1 : fc_1 PRD (20, [4, 4], [30, 0, 1, 1, 15, -1, 1, 11]) ws (vs ++ [Value.int x]) := by
    refine ⟨nf_inA hl rfl, sgq_1437 ?_⟩
    · show 1 * w_fi ws (n_v (vs ++ [Value.int x]) 4) 15 + ((-1) * w_fi ws (n_v (vs ++ [Value.int x]) 4) 11 + 0) ≤ 0
      simp only [e_4, q4]
      exact vc_Mo_edgeItem_27_1 (w_fi ws (n_v vs 0) 11) (w_fi ws (n_v vs 0) 15) (w_fi ws (n_v vs 0) 5) f25 kz_0_11 kz_0_15
  have nf2 : fc_1 PRD (20, [4], [50, 3, 0, 12, 11, 15, 2, 21, 4, 7, 1, 3, 2, 0, 12, 0, 1, 0, 3, 2, 0, 11, 4, 3, 2, 0, 15, 0, 8, 3, 7, 1, 3, 2, 0, 12, 0, 0, 0, 7, 4, 3, 2, 0, 15, 0, 1, 2, 0, 11]) ws (vs ++ [Value.int x]) := by
    refine ⟨nf_inA hl rfl, sgq_1438 ?_⟩
    · show ((w_fi ws (n_v (vs ++ [Value.int x]) 4) 12 = 1) → (w_fi ws (n_v (vs ++ [Value.int x]) 4) 11 ≤ (w_fi ws (n_v (vs ++ [Value.int x]) 4) 15 + 8))) ∧ ((w_fi ws (n_v (vs ++ [Value.int x]) 4) 12 = 0) ∨ ((w_fi ws (n_v (vs ++ [Value.int x]) 4) 15 + 1) ≤ w_fi ws (n_v (vs ++ [Value.int x]) 4) 11))
      simp only [e_4, q4]
      exact vc_Mo_edgeItem_27_2 (w_fi ws (n_v vs 0) 11) (w_fi ws (n_v vs 0) 15) (w_fi ws (n_v vs 0) 12) (w_fi ws (n_v vs 0) 5) f26 kz_0_11 kz_0_12 kz_0_15
  have nf3 : fc_1 PRD (20, [2, 4], [30, -1, 1, 0, 0, -1, 1, 11]) ws (vs ++ [Value.int x]) := by
    refine ⟨nf_inA hl rfl, sgq_2005 ?_⟩
    · show 1 * v_iv (n_v (vs ++ [Value.int x]) 2) + ((-1) * w_fi ws (n_v (vs ++ [Value.int x]) 4) 11 + 0) ≤ (-1)
      simp only [e_2, e_4, q4]
      exact vc_Mo_edgeItem_27_3 (v_iv (n_v vs 2)) (w_fi ws (n_v vs 0) 11) (w_fi ws (n_v vs 0) 5) k2 f7 kz_0_11
  have nf4 : fc_1 PRD (20, [25, 4], [30, -2001, -1, 0, 0, -1, 1, 11]) ws (vs ++ [Value.int x]) := by
    refine ⟨nf_inA hl rfl, sgq_2013 ?_⟩
    · show (-1) * v_iv (n_v (vs ++ [Value.int x]) 25) + ((-1) * w_fi ws (n_v (vs ++ [Value.int x]) 4) 11 + 0) ≤ (-2001)
      simp only [e_4, e_25, q4]
      exact vc_Mo_edgeItem_27_4 (v_iv (n_v vs 8)) (w_fi ws (n_v vs 0) 11) (w_fi ws (n_v vs 0) 5) (v_iv (Value.int x)) k8 f8 kz_0_11 ex2
  have nf5 : fc_1 PRD (23, [20], [0, -1]) ws (vs ++ [Value.int x]) := by
    refine ⟨nf_inA hl rfl, sgq_1043 ?_⟩
    · show (-1) * v_iv (n_v (vs ++ [Value.int x]) 20) + 0 ≤ 0
      rw [e_20]
      exact vc_Mo_edgeItem_27_5 (v_iv (n_v vs 20)) (w_fi ws (n_v vs 0) 5) k20 f42
  have nf6 : fc_1 PRD (20, [4], [60, 1, 3, 199, 5, 2, 3, 4]) ws (vs ++ [Value.int x]) := by
    refine ⟨nf_inA hl rfl, sgq_980 ?_⟩
    · show RWS (w_fi ws (n_v (vs ++ [Value.int x]) 4) 5) (w_ei ws (w_ar ws (n_v (vs ++ [Value.int x]) 4) 2)) (w_ei ws (w_ar ws (n_v (vs ++ [Value.int x]) 4) 3)) (w_ei ws (w_ar ws (n_v (vs ++ [Value.int x]) 4) 4))
      simp only [e_4, q4]
      exact vc_Mo_edgeItem_27_6 (w_ei ws (w_ar ws (n_v vs 0) 2)) (w_ei ws (w_ar ws (n_v vs 0) 3)) (w_ei ws (w_ar ws (n_v vs 0) 4)) (w_fi ws (n_v vs 0) 5) f31
  have nf7 : fc_1 PRD (20, [4, 20], [60, 1, 1, 208, 5, 2]) ws (vs ++ [Value.int x]) := by
    refine ⟨nf_inA hl rfl, sgq_983 ?_⟩
    · show NDA (w_fi ws (n_v (vs ++ [Value.int x]) 4) 5) (w_ei ws (w_ar ws (n_v (vs ++ [Value.int x]) 4) 2)) (v_iv (n_v (vs ++ [Value.int x]) 20))
      simp only [e_4, e_20, q4]
      exact vc_Mo_edgeItem_27_7 (v_iv (n_v vs 20)) (w_ei ws (w_ar ws (n_v vs 0) 2)) (w_fi ws (n_v vs 0) 5) k20 f32
  have nf8 : fc_1 PRD (20, [4, 20, 7, 5, 3], [60, 8, 2, 968, 10, 11, 12, 13, 14, 15, 8, 5, 1, 2]) ws (vs ++ [Value.int x]) := by
    refine ⟨nf_inA hl rfl, sgq_1011 ?_⟩
    · show zRS8 (w_fi ws (n_v (vs ++ [Value.int x]) 4) 10) (w_fi ws (n_v (vs ++ [Value.int x]) 4) 11) (w_fi ws (n_v (vs ++ [Value.int x]) 4) 12) (w_fi ws (n_v (vs ++ [Value.int x]) 4) 13) (w_fi ws (n_v (vs ++ [Value.int x]) 4) 14) (w_fi ws (n_v (vs ++ [Value.int x]) 4) 15) (w_fi ws (n_v (vs ++ [Value.int x]) 4) 8) (w_fi ws (n_v (vs ++ [Value.int x]) 4) 5) (w_ei ws (w_ar ws (n_v (vs ++ [Value.int x]) 4) 1)) (w_ei ws (w_ar ws (n_v (vs ++ [Value.int x]) 4) 2)) (v_iv (n_v (vs ++ [Value.int x]) 20)) (v_iv (n_v (vs ++ [Value.int x]) 7)) (v_iv (n_v (vs ++ [Value.int x]) 5)) (v_iv (n_v (vs ++ [Value.int x]) 3))
      simp only [e_3, e_4, e_5, e_7, e_20, q4, q5]
      exact vc_Mo_edgeItem_27_8 (v_iv (n_v vs 1)) (v_iv (n_v vs 2)) (v_iv (n_v vs 3)) (v_iv (n_v vs 5)) (v_iv (n_v vs 7)) (v_iv (n_v vs 15)) (v_iv (n_v vs 17)) (v_iv (n_v vs 18)) (v_iv (n_v vs 20)) (v_iv (n_v vs 21)) (v_iv (n_v vs 22)) (v_iv (n_v vs 23)) (v_iv (n_v vs 24)) (w_fi ws (n_v vs 0) 8) (w_fi ws (n_v vs 0) 11) (w_fi ws (n_v vs 0) 15) (w_fi ws (n_v vs 0) 12) (w_ei ws (w_ar ws (n_v vs 0) 2)) (w_fi ws (n_v vs 0) 5) (w_ei ws (w_ar ws (n_v vs 0) 1)) (w_fi ws (n_v vs 0) 10) (w_fi ws (n_v vs 0) 13) (w_fi ws (n_v vs 0) 14) k1 k2 k3 k5 k7 k15 k20 k21 k22 k23 k24 d0 d1 g0 f1 f2 f3 f4 f5 f6 f10 f11 f34 kz_0_8 kz_0_10 kz_0_11 kz_0_12 kz_0_13 kz_0_14 kz_0_15
  have nf9 : fc_1 PRD (24, [0, 4], []) ws (vs ++ [Value.int x]) := by
    refine ⟨nf_inA hl rfl, sgq_5 ?_⟩
    · show n_v (vs ++ [Value.int x]) 0 = n_v (vs ++ [Value.int x]) 4
      first | rfl | simp only [e_0, e_4, q4, q5]
  have nf10 : fc_1 PRD (24, [1, 5], []) ws (vs ++ [Value.int x]) := by
    refine ⟨nf_inA hl rfl, sgq_5 ?_⟩
    · show n_v (vs ++ [Value.int x]) 1 = n_v (vs ++ [Value.int x]) 5
      first | rfl | simp only [e_1, e_5, q4, q5]
  obtain ⟨x0, e0, _, _⟩ := tv_int t8 rfl
  have e1 : v_iv (n_v vs 8) = x0.toInt := by rw [e0]; rfl
  have ho : sy_ofs (vs ++ [Value.int x]) (25, 8, 0, 0) := by
    refine ⟨x, x0, by rw [List.getElem?_append_right (by rw [hl]; decide), hl]; rfl, ?_, ?_, ?_⟩
    · rw [List.getElem?_append_left (by rw [hl]; decide)]; exact n_v_some (by rw [hl]; decide) e0
    · show x0.toInt + 0 ≤ x.toInt; omega
    · show x.toInt ≤ x0.toInt + 0; omega
  exact ⟨(fun _ h => (by cases h)), [Value.int x], ag_one hx, List.forall_mem_cons.mpr ⟨⟨show (20 : Nat) < 100 from by decide, nf0⟩, List.forall_mem_cons.mpr ⟨⟨show (20 : Nat) < 100 from by decide, nf1⟩, List.forall_mem_cons.mpr ⟨⟨show (20 : Nat) < 100 from by decide, nf2⟩, List.forall_mem_cons.mpr ⟨⟨show (20 : Nat) < 100 from by decide, nf3⟩, List.forall_mem_cons.mpr ⟨⟨show (20 : Nat) < 100 from by decide, nf4⟩, List.forall_mem_cons.mpr ⟨⟨show (23 : Nat) < 100 from by decide, nf5⟩, List.forall_mem_cons.mpr ⟨⟨show (20 : Nat) < 100 from by decide, nf6⟩, List.forall_mem_cons.mpr ⟨⟨show (20 : Nat) < 100 from by decide, nf7⟩, List.forall_mem_cons.mpr ⟨⟨show (20 : Nat) < 100 from by decide, nf8⟩, List.forall_mem_cons.mpr ⟨⟨show (24 : Nat) < 100 from by decide, nf9⟩, List.forall_mem_cons.mpr ⟨⟨show (24 : Nat) < 100 from by decide, nf10⟩, (fun _ h => (by cases h))⟩⟩⟩⟩⟩⟩⟩⟩⟩⟩⟩, List.forall_mem_cons.mpr ⟨ho, (fun _ h => (by cases h))⟩⟩
set_option maxHeartbeats 4000000 in
theorem vc_Mo_edgeItem_28_0 (from_0 : Int) (pos_0 : Int) (r_0 : Int) (f19 : 1 * from_0 + ((-1) * pos_0 + 0) ≤ 0) (kz_0_11 : 0 ≤ pos_0 ∧ pos_0 ≤ 2000) (kz_0_15 : 0 ≤ from_0 ∧ from_0 ≤ 2000) : 1 * from_0 + ((-1) * pos_0 + 0) ≤ 0 := by
  first
    | omega
    | (have q1 := (hE_0_2_1 (r_0 + 2) (by omega)).2 (by omega)
       have q2 := (hE_0_2_2 (r_0 + 2) (by omega)).2 (by omega)
       omega)
    | (have q1 := (hE_0_2_1 (r_0 + 1) (by omega)).2 (by omega)
       have q2 := (hE_0_2_2 (r_0 + 1) (by omega)).2 (by omega)
       omega)
    | (have q1 := (hE_0_2_1 (r_0 + 2) (by omega)).2 (by omega)
       omega)
    | (have q1 := (hE_0_2_1 (r_0 + 1) (by omega)).2 (by omega)
       omega)
    | (have q1 := (hE_0_2_1 (r_0 + 2) (by omega)).2 (by omega)
       have q2 := (hE_0_2_2 (r_0 + 2) (by omega)).2 (by omega)
       have q3 := (hE_0_2_3 (r_0 + 2) (by omega)).1 (by omega)
       omega)
    | (have q1 := (hE_0_2_1 (r_0 + 2) (by omega)).2 (by omega)
       have q2 := (hE_0_2_2 (r_0 + 2) (by omega)).2 (by omega)
       have q3 := (hE_0_2_3 (r_0 + 2) (by omega)).2 (by omega)
       omega)
set_option maxHeartbeats 4000000 in
theorem vc_Mo_edgeItem_28_1 (from_0 : Int) (pos_0 : Int) (kind_0 : Int) (r_0 : Int) (f20 : ((kind_0 = 1) → (pos_0 ≤ (from_0 + 8))) ∧ ((kind_0 = 0) ∨ ((from_0 + 1) ≤ pos_0))) (kz_0_11 : 0 ≤ pos_0 ∧ pos_0 ≤ 2000) (kz_0_12 : 0 ≤ kind_0 ∧ kind_0 ≤ 4) (kz_0_15 : 0 ≤ from_0 ∧ from_0 ≤ 2000) : ((kind_0 = 1) → (pos_0 ≤ (from_0 + 8))) ∧ ((kind_0 = 0) ∨ ((from_0 + 1) ≤ pos_0)) := by
  first
    | omega
    | (have q1 := (hE_0_2_1 (r_0 + 2) (by omega)).2 (by omega)
       have q2 := (hE_0_2_2 (r_0 + 2) (by omega)).2 (by omega)
       omega)
    | (have q1 := (hE_0_2_1 (r_0 + 1) (by omega)).2 (by omega)
       have q2 := (hE_0_2_2 (r_0 + 1) (by omega)).2 (by omega)
       omega)
    | (have q1 := (hE_0_2_1 (r_0 + 2) (by omega)).2 (by omega)
       omega)
    | (have q1 := (hE_0_2_1 (r_0 + 1) (by omega)).2 (by omega)
       omega)
    | (have q1 := (hE_0_2_1 (r_0 + 2) (by omega)).2 (by omega)
       have q2 := (hE_0_2_2 (r_0 + 2) (by omega)).2 (by omega)
       have q3 := (hE_0_2_3 (r_0 + 2) (by omega)).1 (by omega)
       omega)
    | (have q1 := (hE_0_2_1 (r_0 + 2) (by omega)).2 (by omega)
       have q2 := (hE_0_2_2 (r_0 + 2) (by omega)).2 (by omega)
       have q3 := (hE_0_2_3 (r_0 + 2) (by omega)).2 (by omega)
       omega)
set_option maxHeartbeats 4000000 in
theorem vc_Mo_edgeItem_28_2 (x2 : Int) (x15 : Int) (pos_0 : Int) (r_0 : Int) (k2 : 0 ≤ x2 ∧ x2 ≤ 2000) (k15 : 0 ≤ x15 ∧ x15 ≤ 2000) (f2 : 1 * x15 + ((-1) * x2 + 0) ≤ 0) (f3 : (-1) * x15 + (1 * x2 + 0) ≤ 0) (f21 : 1 * x15 + ((-1) * pos_0 + 0) ≤ 0) (kz_0_11 : 0 ≤ pos_0 ∧ pos_0 ≤ 2000) : 1 * x2 + ((-1) * pos_0 + 0) ≤ 0 := by
  first
    | omega
    | (have q1 := (hE_0_2_1 (r_0 + 2) (by omega)).2 (by omega)
       have q2 := (hE_0_2_2 (r_0 + 2) (by omega)).2 (by omega)
       omega)
    | (have q1 := (hE_0_2_1 (r_0 + 1) (by omega)).2 (by omega)
       have q2 := (hE_0_2_2 (r_0 + 1) (by omega)).2 (by omega)
       omega)
    | (have q1 := (hE_0_2_1 (r_0 + 2) (by omega)).2 (by omega)
       omega)
    | (have q1 := (hE_0_2_1 (r_0 + 1) (by omega)).2 (by omega)
       omega)
    | (have q1 := (hE_0_2_1 (r_0 + 2) (by omega)).2 (by omega)
       have q2 := (hE_0_2_2 (r_0 + 2) (by omega)).2 (by omega)
       have q3 := (hE_0_2_3 (r_0 + 2) (by omega)).1 (by omega)
       omega)
    | (have q1 := (hE_0_2_1 (r_0 + 2) (by omega)).2 (by omega)
       have q2 := (hE_0_2_2 (r_0 + 2) (by omega)).2 (by omega)
       have q3 := (hE_0_2_3 (r_0 + 2) (by omega)).2 (by omega)
       omega)
set_option maxHeartbeats 4000000 in
theorem vc_Mo_edgeItem_28_3 (x2 : Int) (x21 : Int) (fault_0 : Int) (pos_0 : Int) (r_0 : Int) (k2 : 0 ≤ x2 ∧ x2 ≤ 2000) (k21 : 1 ≤ x21 ∧ x21 ≤ 5) (g1 : x21 = fault_0) (kz_0_8 : 0 ≤ fault_0 ∧ fault_0 ≤ 5) (kz_0_11 : 0 ≤ pos_0 ∧ pos_0 ≤ 2000) : (1 ≤ fault_0) ∨ ((x2 + 1) ≤ pos_0) := by
  first
    | omega
    | (have q1 := (hE_0_2_1 (r_0 + 2) (by omega)).2 (by omega)
       have q2 := (hE_0_2_2 (r_0 + 2) (by omega)).2 (by omega)
       omega)
    | (have q1 := (hE_0_2_1 (r_0 + 1) (by omega)).2 (by omega)
       have q2 := (hE_0_2_2 (r_0 + 1) (by omega)).2 (by omega)
       omega)
    | (have q1 := (hE_0_2_1 (r_0 + 2) (by omega)).2 (by omega)
       omega)
    | (have q1 := (hE_0_2_1 (r_0 + 1) (by omega)).2 (by omega)
       omega)
    | (have q1 := (hE_0_2_1 (r_0 + 2) (by omega)).2 (by omega)
       have q2 := (hE_0_2_2 (r_0 + 2) (by omega)).2 (by omega)
       have q3 := (hE_0_2_3 (r_0 + 2) (by omega)).1 (by omega)
       omega)
    | (have q1 := (hE_0_2_1 (r_0 + 2) (by omega)).2 (by omega)
       have q2 := (hE_0_2_2 (r_0 + 2) (by omega)).2 (by omega)
       have q3 := (hE_0_2_3 (r_0 + 2) (by omega)).2 (by omega)
       omega)
set_option maxHeartbeats 4000000 in
theorem vc_Mo_edgeItem_28_4 (x1 : Int) (all_0 : Int → Int) (r_0 : Int) (k1 : 0 ≤ x1 ∧ x1 ≤ 7) (f26 : (x1 + 1) ≤ all_0 ((r_0 + 2))) : (x1 + 1) ≤ all_0 ((r_0 + 2)) := by
  first
    | omega
    | (have q1 := (hE_0_2_1 (r_0 + 2) (by omega)).2 (by omega)
       have q2 := (hE_0_2_2 (r_0 + 2) (by omega)).2 (by omega)
       omega)
    | (have q1 := (hE_0_2_1 (r_0 + 1) (by omega)).2 (by omega)
       have q2 := (hE_0_2_2 (r_0 + 1) (by omega)).2 (by omega)
       omega)
    | (have q1 := (hE_0_2_1 (r_0 + 2) (by omega)).2 (by omega)
       omega)
    | (have q1 := (hE_0_2_1 (r_0 + 1) (by omega)).2 (by omega)
       omega)
    | (have q1 := (hE_0_2_1 (r_0 + 2) (by omega)).2 (by omega)
       have q2 := (hE_0_2_2 (r_0 + 2) (by omega)).2 (by omega)
       have q3 := (hE_0_2_3 (r_0 + 2) (by omega)).1 (by omega)
       omega)
    | (have q1 := (hE_0_2_1 (r_0 + 2) (by omega)).2 (by omega)
       have q2 := (hE_0_2_2 (r_0 + 2) (by omega)).2 (by omega)
       have q3 := (hE_0_2_3 (r_0 + 2) (by omega)).2 (by omega)
       omega)
set_option maxHeartbeats 4000000 in
theorem vc_Mo_edgeItem_28_5 (all_0 : Int → Int) (r_0 : Int) (now_0 : Int → Int) (latest_0 : Int → Int) (f27 : RWS (r_0) (all_0) (now_0) (latest_0)) : RWS (r_0) (all_0) (now_0) (latest_0) := by
  first
    | assumption
set_option maxHeartbeats 4000000 in
theorem vc_Mo_edgeItem_28_6 (x1 : Int) (x2 : Int) (x3 : Int) (x6 : Int) (x7 : Int) (x13 : Int) (x15 : Int) (x17 : Int) (x18 : Int) (x19 : Int) (x20 : Int) (x21 : Int) (fault_0 : Int) (from_0 : Int) (pos_0 : Int) (kind_0 : Int) (all_0 : Int → Int) (r_0 : Int) (tape_0 : Int → Int) (limit_0 : Int) (place_0 : Int) (value_0 : Int) (faultPlace_0 : Int) (k1 : 0 ≤ x1 ∧ x1 ≤ 7) (k2 : 0 ≤ x2 ∧ x2 ≤ 2000) (k3 : 0 ≤ x3 ∧ x3 ≤ 4) (k6 : (-1) ≤ x6 ∧ x6 ≤ 23) (k7 : 0 ≤ x7 ∧ x7 ≤ 48) (k13 : 0 ≤ x13 ∧ x13 ≤ 0) (k15 : 0 ≤ x15 ∧ x15 ≤ 2000) (k17 : 0 ≤ x17 ∧ x17 ≤ 4) (k18 : 0 ≤ x18 ∧ x18 ≤ 48) (k19 : 0 ≤ x19 ∧ x19 ≤ 1) (k20 : (-1) ≤ x20 ∧ x20 ≤ 23) (k21 : 1 ≤ x21 ∧ x21 ≤ 5) (g1 : x21 = fault_0) (f2 : 1 * x15 + ((-1) * x2 + 0) ≤ 0) (f3 : (-1) * x15 + (1 * x2 + 0) ≤ 0) (f4 : 1 * x17 + ((-1) * x3 + 0) ≤ 0) (f5 : (-1) * x17 + (1 * x3 + 0) ≤ 0) (f6 : 1 * x18 + ((-1) * x7 + 0) ≤ 0) (f7 : (-1) * x18 + (1 * x7 + 0) ≤ 0) (f8 : 1 * x19 + ((-1) * x13 + 0) ≤ 0) (f29 : zOP8 (limit_0) (pos_0) (kind_0) (place_0) (value_0) (from_0) (fault_0) (faultPlace_0) (r_0) (tape_0) (all_0) (x20) (x18) (x6) (x19) (x1) (x17)) (kz_0_8 : 0 ≤ fault_0 ∧ fault_0 ≤ 5) (kz_0_9 : 0 ≤ faultPlace_0 ∧ faultPlace_0 ≤ 2000) (kz_0_10 : 0 ≤ limit_0 ∧ limit_0 ≤ 2000) (kz_0_11 : 0 ≤ pos_0 ∧ pos_0 ≤ 2000) (kz_0_12 : 0 ≤ kind_0 ∧ kind_0 ≤ 4) (kz_0_13 : 0 ≤ place_0 ∧ place_0 ≤ 2000) (kz_0_14 : (-49) ≤ value_0 ∧ value_0 ≤ 1048575) (kz_0_15 : 0 ≤ from_0 ∧ from_0 ≤ 2000) : zOS0 (limit_0) (pos_0) (kind_0) (place_0) (value_0) (from_0) (fault_0) (faultPlace_0) (r_0) (tape_0) (all_0) (x1) (x3) := by
  first | (have el_x15 : x15 = x2 := by omega); subst el_x15 | skip
  first | (have el_x17 : x17 = x3 := by omega); subst el_x17 | skip
  first | (have el_x18 : x18 = x7 := by omega); subst el_x18 | skip
  first | (have el_x19 : x19 = x13 := by omega); subst el_x19 | skip
  first | subst g1 | skip
  first
    | assumption
    | exact ed_back ‹zOP8 _ _ _ _ _ _ _ _ _ _ _ _ _ _ _ _ _› (by omega)
def o_Mo_edgeItem_28 : or_T := (99, 22, [(0, (2, 0, 0, [165])), (1, (0, 0, 7, [])), (2, (0, 0, 2000, [])), (3, (0, 0, 4, [])), (4, (2, 0, 0, [165])), (5, (0, 0, 7, [])), (6, (0, -1, 23, [])), (7, (0, 0, 48, [])), (8, (0, 0, 2000, [])), (13, (0, 0, 0, [])), (14, (0, 0, 2000, [])), (15, (0, 0, 2000, [])), (16, (0, 0, 2000, [])), (17, (0, 0, 4, [])), (18, (0, 0, 48, [])), (19, (0, 0, 1, [])), (20, (0, -1, 23, [])), (21, (0, 1, 5, []))], [(8, [21], [4]), (9, [21, 4], [8]), (23, [15, 2], [0, 1, -1]), (23, [15, 2], [0, -1, 1]), (23, [17, 3], [0, 1, -1]), (23, [17, 3], [0, -1, 1]), (23, [18, 7], [0, 1, -1]), (23, [18, 7], [0, -1, 1]), (23, [19, 13], [0, 1, -1]), (23, [19, 13], [0, -1, 1]), (20, [6], [50, 0, 0, 0, 2, 0, 0, 1, 0]), (23, [8, 16], [-2000, -1, -1]), (23, [2, 16], [-1, 1, -1]), (23, [2, 14], [-1, 1, -1]), (23, [8, 14], [-2000, -1, -1]), (20, [2, 14], [30, 0, 1, 0, 0, -1, 0, 0]), (23, [6], [0, -1]), (24, [0, 4], []), (24, [1, 5], []), (20, [4, 4], [30, 0, 1, 1, 15, -1, 1, 11]), (20, [4], [50, 3, 0, 12, 11, 15, 2, 21, 4, 7, 1, 3, 2, 0, 12, 0, 1, 0, 3, 2, 0, 11, 4, 3, 2, 0, 15, 0, 8, 3, 7, 1, 3, 2, 0, 12, 0, 0, 0, 7, 4, 3, 2, 0, 15, 0, 1, 2, 0, 11]), (20, [15, 4], [30, 0, 1, 0, 0, -1, 1, 11]), (20, [4, 15], [50, 3, 0, 8, 12, 11, 3, 7, 0, 2, 0, 1, 2, 0, 8, 3, 7, 1, 3, 2, 0, 12, 0, 0, 0, 6, 4, 2, 1, 1, 0, 1, 2, 0, 11]), (20, [4, 16], [50, 2, 0, 8, 11, 3, 7, 0, 2, 0, 1, 2, 0, 8, 0, 6, 4, 2, 1, 1, 0, 1, 2, 0, 11]), (20, [4, 20], [31, 1, -1, -1, 1, 8, 0, -1, 0, 0]), (20, [4, 6], [50, 2, 1, 8, 5, 2, 3, 7, 0, 2, 0, 1, 2, 0, 8, 3, 6, 0, 2, 1, 1, 0, -1, 0, 10, 3, 0, 2, 4, 3, 2, 0, 5, 0, 1, 0, 47]), (20, [5, 4], [50, 1, 1, 1005, 1002, 0, 6, 4, 2, 1, 0, 0, 1, 3, 1, 2, 4, 3, 2, 1, 5, 0, 2]), (20, [4], [60, 1, 3, 199, 5, 2, 3, 4]), (20, [4, 6, 20], [60, 2, 1, 240, 5, 8, 2]), (20, [4, 20, 18, 6, 19, 5, 17], [60, 9, 2, 1011, 10, 11, 12, 13, 14, 15, 8, 9, 5, 1, 2]), (102, [19], [187072209578355573530071658587684226515959365500928, 165008, 165009, 165011, 165012, 165013, 165014, 165015]), (23, [15, 2], [0, 1, -1]), (23, [15, 2], [0, -1, 1]), (23, [17, 3], [0, 1, -1]), (23, [17, 3], [0, -1, 1]), (23, [18, 7], [0, 1, -1]), (23, [18, 7], [0, -1, 1]), (23, [19, 13], [0, 1, -1]), (23, [19, 13], [0, -1, 1]), (23, [8, 16], [-2000, -1, -1]), (23, [2, 16], [-1, 1, -1]), (23, [2, 14], [-1, 1, -1]), (23, [8, 14], [-2000, -1, -1]), (23, [6], [0, -1]), (102, [14], [0, 165011, 165012, 165013, 165014, 165015]), (23, [2, 14], [-1, 1, -1]), (23, [8, 14], [-2000, -1, -1]), (23, [6], [0, -1])], [], [], [(20, [0, 0], [30, 0, 1, 1, 15, -1, 1, 11]), (20, [0], [50, 3, 0, 12, 11, 15, 2, 21, 4, 7, 1, 3, 2, 0, 12, 0, 1, 0, 3, 2, 0, 11, 4, 3, 2, 0, 15, 0, 8, 3, 7, 1, 3, 2, 0, 12, 0, 0, 0, 7, 4, 3, 2, 0, 15, 0, 1, 2, 0, 11]), (20, [2, 0], [30, 0, 1, 0, 0, -1, 1, 11]), (20, [0, 2], [50, 2, 0, 8, 11, 3, 7, 0, 2, 0, 1, 2, 0, 8, 0, 6, 4, 2, 1, 1, 0, 1, 2, 0, 11]), (20, [1, 0], [50, 1, 1, 1005, 1002, 0, 6, 4, 2, 1, 0, 0, 1, 3, 1, 2, 4, 3, 2, 1, 5, 0, 2]), (20, [0], [60, 1, 3, 199, 5, 2, 3, 4]), (20, [0, 1, 3], [60, 9, 2, 1007, 10, 11, 12, 13, 14, 15, 8, 9, 5, 1, 2])], [], [(1, 5, -4294967296, 0), (5, 1, -4294967296, 0)])
theorem oo_Mo_edgeItem_28 {kA : Nat → ClassId} : or_ok PRD kA GG o_Mo_edgeItem_28 := by
  refine or_mk fun A ta ws vs hD hth hl => ?_
  intro t0 r0 t1 k1 t2 k2 t3 k3 t4 r4 t5 k5 t6 k6 t7 k7 t8 k8 t13 k13 t14 k14 t15 k15 t16 k16 t17 k17 t18 k18 t19 k19 t20 k20 t21 k21 d0 d1 f0 f1 f2 f3 f4 f5 f6 f7 f8 f9 f10 f11 f12 f13 f14 f15 f16 f17 f18 f19 f20 f21 f22 f23 f24 f25 f26 f27 f28 f29 ta1 w1 le1 s1 f31 f32 f33 f34 f35 f36 f37 f38 f39 f40 f41 f42 f43 ta2 w2 le2 s2 f45 f46 f47
  replace f1 := shm_293 f1
  replace f17 := shm_5 f17
  replace f18 := shm_5 f18
  replace f19 := shm_1437 f19
  replace f20 := shm_1438 f20
  replace f21 := shm_1431 f21
  replace f26 := shm_1009 f26
  replace f27 := shm_980 f27
  replace f29 := shm_2128 f29
  have q4 : n_v vs 4 = n_v vs 0 := f17.symm
  have q5 : n_v vs 5 = n_v vs 1 := f18.symm
  simp only [q4, q5] at f1 f19 f20 f21 f26 f27 f29
  have g1 : v_iv (n_v vs 21) = w_fi ws (n_v vs 0) 8 := congrArg v_iv f1
  have kz_0_8 := fdq_34 hD hth r0
  have kz_0_9 := fdq_44 hD hth r0
  have kz_0_10 := fdq_43 hD hth r0
  have kz_0_11 := fdq_237 hD hth r0
  have kz_0_12 := fdq_187 hD hth r0
  have kz_0_13 := fdq_238 hD hth r0
  have kz_0_14 := fdq_188 hD hth r0
  have kz_0_15 := fdq_239 hD hth r0
  have nf0 : fc_1 PRD (20, [0, 0], [30, 0, 1, 1, 15, -1, 1, 11]) ws (vs) := ⟨nf_in hl rfl, sgq_1437 (vc_Mo_edgeItem_28_0 (w_fi ws (n_v vs 0) 15) (w_fi ws (n_v vs 0) 11) (w_fi ws (n_v vs 0) 5) f19 kz_0_11 kz_0_15)⟩
  have nf1 : fc_1 PRD (20, [0], [50, 3, 0, 12, 11, 15, 2, 21, 4, 7, 1, 3, 2, 0, 12, 0, 1, 0, 3, 2, 0, 11, 4, 3, 2, 0, 15, 0, 8, 3, 7, 1, 3, 2, 0, 12, 0, 0, 0, 7, 4, 3, 2, 0, 15, 0, 1, 2, 0, 11]) ws (vs) := ⟨nf_in hl rfl, sgq_1438 (vc_Mo_edgeItem_28_1 (w_fi ws (n_v vs 0) 15) (w_fi ws (n_v vs 0) 11) (w_fi ws (n_v vs 0) 12) (w_fi ws (n_v vs 0) 5) f20 kz_0_11 kz_0_12 kz_0_15)⟩
  have nf2 : fc_1 PRD (20, [2, 0], [30, 0, 1, 0, 0, -1, 1, 11]) ws (vs) := ⟨nf_in hl rfl, sgq_1431 (vc_Mo_edgeItem_28_2 (v_iv (n_v vs 2)) (v_iv (n_v vs 15)) (w_fi ws (n_v vs 0) 11) (w_fi ws (n_v vs 0) 5) k2 k15 (shm_7 f2) (shm_22 f3) f21 kz_0_11)⟩
  have nf3 : fc_1 PRD (20, [0, 2], [50, 2, 0, 8, 11, 3, 7, 0, 2, 0, 1, 2, 0, 8, 0, 6, 4, 2, 1, 1, 0, 1, 2, 0, 11]) ws (vs) := ⟨nf_in hl rfl, sgq_1726 (vc_Mo_edgeItem_28_3 (v_iv (n_v vs 2)) (v_iv (n_v vs 21)) (w_fi ws (n_v vs 0) 8) (w_fi ws (n_v vs 0) 11) (w_fi ws (n_v vs 0) 5) k2 k21 g1 kz_0_8 kz_0_11)⟩
  have nf4 : fc_1 PRD (20, [1, 0], [50, 1, 1, 1005, 1002, 0, 6, 4, 2, 1, 0, 0, 1, 3, 1, 2, 4, 3, 2, 1, 5, 0, 2]) ws (vs) := ⟨nf_in hl rfl, sgq_1009 (vc_Mo_edgeItem_28_4 (v_iv (n_v vs 1)) (w_ei ws (w_ar ws (n_v vs 0) 2)) (w_fi ws (n_v vs 0) 5) k1 f26)⟩
  have nf5 : fc_1 PRD (20, [0], [60, 1, 3, 199, 5, 2, 3, 4]) ws (vs) := ⟨nf_in hl rfl, sgq_980 (vc_Mo_edgeItem_28_5 (w_ei ws (w_ar ws (n_v vs 0) 2)) (w_fi ws (n_v vs 0) 5) (w_ei ws (w_ar ws (n_v vs 0) 3)) (w_ei ws (w_ar ws (n_v vs 0) 4)) f27)⟩
  have nf6 : fc_1 PRD (20, [0, 1, 3], [60, 9, 2, 1007, 10, 11, 12, 13, 14, 15, 8, 9, 5, 1, 2]) ws (vs) := ⟨nf_in hl rfl, sgq_1727 (vc_Mo_edgeItem_28_6 (v_iv (n_v vs 1)) (v_iv (n_v vs 2)) (v_iv (n_v vs 3)) (v_iv (n_v vs 6)) (v_iv (n_v vs 7)) (v_iv (n_v vs 13)) (v_iv (n_v vs 15)) (v_iv (n_v vs 17)) (v_iv (n_v vs 18)) (v_iv (n_v vs 19)) (v_iv (n_v vs 20)) (v_iv (n_v vs 21)) (w_fi ws (n_v vs 0) 8) (w_fi ws (n_v vs 0) 15) (w_fi ws (n_v vs 0) 11) (w_fi ws (n_v vs 0) 12) (w_ei ws (w_ar ws (n_v vs 0) 2)) (w_fi ws (n_v vs 0) 5) (w_ei ws (w_ar ws (n_v vs 0) 1)) (w_fi ws (n_v vs 0) 10) (w_fi ws (n_v vs 0) 13) (w_fi ws (n_v vs 0) 14) (w_fi ws (n_v vs 0) 9) k1 k2 k3 k6 k7 k13 k15 k17 k18 k19 k20 k21 g1 (shm_7 f2) (shm_22 f3) (shm_7 f4) (shm_22 f5) (shm_7 f6) (shm_22 f7) (shm_7 f8) f29 kz_0_8 kz_0_9 kz_0_10 kz_0_11 kz_0_12 kz_0_13 kz_0_14 kz_0_15)⟩
  refine ⟨(fun _ h => (by cases h)), [], trivial, ?_, (fun _ h => (by cases h))⟩
  rw [List.append_nil]
  exact List.forall_mem_cons.mpr ⟨⟨show (20 : Nat) < 100 from by decide, nf0⟩, List.forall_mem_cons.mpr ⟨⟨show (20 : Nat) < 100 from by decide, nf1⟩, List.forall_mem_cons.mpr ⟨⟨show (20 : Nat) < 100 from by decide, nf2⟩, List.forall_mem_cons.mpr ⟨⟨show (20 : Nat) < 100 from by decide, nf3⟩, List.forall_mem_cons.mpr ⟨⟨show (20 : Nat) < 100 from by decide, nf4⟩, List.forall_mem_cons.mpr ⟨⟨show (20 : Nat) < 100 from by decide, nf5⟩, List.forall_mem_cons.mpr ⟨⟨show (20 : Nat) < 100 from by decide, nf6⟩, (fun _ h => (by cases h))⟩⟩⟩⟩⟩⟩⟩
set_option maxHeartbeats 4000000 in
theorem vc_Mo_edgeItem_29_0 (x2 : Int) (x6 : Int) (x10 : Int) (kind_0 : Int) (fault_0 : Int) (r_0 : Int) (from_0 : Int) (pos_0 : Int) (k2 : 0 ≤ x2 ∧ x2 ≤ 2000) (k6 : (-1) ≤ x6 ∧ x6 ≤ 23) (k10 : 1 ≤ x10 ∧ x10 ≤ 1) (f3 : (x10 = 1) → ((kind_0 = 3) ∧ (fault_0 = 0))) (f7 : ((kind_0 = 1) → (pos_0 ≤ (from_0 + 8))) ∧ ((kind_0 = 0) ∨ ((from_0 + 1) ≤ pos_0))) (f9 : (1 ≤ fault_0) ∨ ((kind_0 = 0) ∨ ((x2 + 1) ≤ pos_0))) (f10 : ((-1) * fault_0 + 0 ≤ (-1)) ∨ ((-1) * x6 + 0 ≤ 0)) (kz_0_8 : 0 ≤ fault_0 ∧ fault_0 ≤ 5) (kz_0_11 : 0 ≤ pos_0 ∧ pos_0 ≤ 2000) (kz_0_12 : 0 ≤ kind_0 ∧ kind_0 ≤ 4) (kz_0_15 : 0 ≤ from_0 ∧ from_0 ≤ 2000) : (-1) * x6 + 0 ≤ 0 := by
  first
    | omega
    | (have q1 := (hE_0_2_1 (r_0 + 2) (by omega)).2 (by omega)
       have q2 := (hE_0_2_2 (r_0 + 2) (by omega)).2 (by omega)
       omega)
    | (have q1 := (hE_0_2_1 (r_0 + 1) (by omega)).2 (by omega)
       have q2 := (hE_0_2_2 (r_0 + 1) (by omega)).2 (by omega)
       omega)
    | (have q1 := (hE_0_2_1 (r_0 + 2) (by omega)).2 (by omega)
       omega)
    | (have q1 := (hE_0_2_1 (r_0 + 1) (by omega)).2 (by omega)
       omega)
    | (have q1 := (hE_0_2_1 (r_0 + 2) (by omega)).2 (by omega)
       have q2 := (hE_0_2_2 (r_0 + 2) (by omega)).2 (by omega)
       have q3 := (hE_0_2_3 (r_0 + 2) (by omega)).1 (by omega)
       omega)
    | (have q1 := (hE_0_2_1 (r_0 + 2) (by omega)).2 (by omega)
       have q2 := (hE_0_2_2 (r_0 + 2) (by omega)).2 (by omega)
       have q3 := (hE_0_2_3 (r_0 + 2) (by omega)).2 (by omega)
       omega)
set_option maxHeartbeats 4000000 in
theorem vc_Mo_edgeItem_29_1 (x2 : Int) (x6 : Int) (x10 : Int) (kind_0 : Int) (fault_0 : Int) (r_0 : Int) (from_0 : Int) (pos_0 : Int) (k2 : 0 ≤ x2 ∧ x2 ≤ 2000) (k6 : (-1) ≤ x6 ∧ x6 ≤ 23) (k10 : 1 ≤ x10 ∧ x10 ≤ 1) (f3 : (x10 = 1) → ((kind_0 = 3) ∧ (fault_0 = 0))) (f7 : ((kind_0 = 1) → (pos_0 ≤ (from_0 + 8))) ∧ ((kind_0 = 0) ∨ ((from_0 + 1) ≤ pos_0))) (f9 : (1 ≤ fault_0) ∨ ((kind_0 = 0) ∨ ((x2 + 1) ≤ pos_0))) (f10 : ((-1) * fault_0 + 0 ≤ (-1)) ∨ ((-1) * x6 + 0 ≤ 0)) (kz_0_8 : 0 ≤ fault_0 ∧ fault_0 ≤ 5) (kz_0_11 : 0 ≤ pos_0 ∧ pos_0 ≤ 2000) (kz_0_12 : 0 ≤ kind_0 ∧ kind_0 ≤ 4) (kz_0_15 : 0 ≤ from_0 ∧ from_0 ≤ 2000) : fault_0 = 0 := by
  first
    | omega
    | (have q1 := (hE_0_2_1 (r_0 + 2) (by omega)).2 (by omega)
       have q2 := (hE_0_2_2 (r_0 + 2) (by omega)).2 (by omega)
       omega)
    | (have q1 := (hE_0_2_1 (r_0 + 1) (by omega)).2 (by omega)
       have q2 := (hE_0_2_2 (r_0 + 1) (by omega)).2 (by omega)
       omega)
    | (have q1 := (hE_0_2_1 (r_0 + 2) (by omega)).2 (by omega)
       omega)
    | (have q1 := (hE_0_2_1 (r_0 + 1) (by omega)).2 (by omega)
       omega)
    | (have q1 := (hE_0_2_1 (r_0 + 2) (by omega)).2 (by omega)
       have q2 := (hE_0_2_2 (r_0 + 2) (by omega)).2 (by omega)
       have q3 := (hE_0_2_3 (r_0 + 2) (by omega)).1 (by omega)
       omega)
    | (have q1 := (hE_0_2_1 (r_0 + 2) (by omega)).2 (by omega)
       have q2 := (hE_0_2_2 (r_0 + 2) (by omega)).2 (by omega)
       have q3 := (hE_0_2_3 (r_0 + 2) (by omega)).2 (by omega)
       omega)
def o_Mo_edgeItem_29 : or_T := (80, 14, [(0, (2, 0, 0, [165])), (1, (0, 0, 7, [])), (2, (0, 0, 2000, [])), (3, (0, 0, 4, [])), (4, (2, 0, 0, [165])), (5, (0, 0, 7, [])), (6, (0, -1, 23, [])), (7, (0, 0, 48, [])), (8, (0, 0, 2000, [])), (9, (0, 45, 45, [])), (10, (0, 1, 1, [])), (11, (0, 62, 62, [])), (12, (0, 62, 62, []))], [(7, [11, 12], [0]), (9, [11, 4], [14]), (8, [10], [1]), (20, [10, 4], [50, 2, 0, 1012, 1008, 4, 6, 1, 2, 1, 0, 0, 1, 2, 7, 1, 3, 2, 1, 12, 0, 3, 1, 3, 2, 1, 8, 0, 0]), (20, [4, 9, 10], [60, 3, 0, 963, 8, 12, 14]), (20, [5, 4], [50, 1, 1, 1005, 1002, 0, 6, 4, 2, 1, 0, 0, 1, 3, 1, 2, 4, 3, 2, 1, 5, 0, 2]), (20, [4, 4], [30, 0, 1, 1, 15, -1, 1, 11]), (20, [4], [50, 3, 0, 12, 11, 15, 2, 21, 4, 7, 1, 3, 2, 0, 12, 0, 1, 0, 3, 2, 0, 11, 4, 3, 2, 0, 15, 0, 8, 3, 7, 1, 3, 2, 0, 12, 0, 0, 0, 7, 4, 3, 2, 0, 15, 0, 1, 2, 0, 11]), (20, [2, 4], [30, 0, 1, 0, 0, -1, 1, 11]), (20, [4, 2], [50, 3, 0, 8, 12, 11, 3, 7, 0, 2, 0, 1, 2, 0, 8, 3, 7, 1, 3, 2, 0, 12, 0, 0, 0, 6, 4, 2, 1, 1, 0, 1, 2, 0, 11]), (20, [4, 6], [31, 1, -1, -1, 1, 8, 0, -1, 0, 0]), (20, [4], [60, 1, 3, 199, 5, 2, 3, 4]), (20, [4, 6], [60, 2, 1, 242, 5, 8, 2]), (20, [4, 6, 7, 5, 3], [60, 9, 2, 1012, 10, 11, 12, 13, 14, 15, 8, 9, 5, 1, 2]), (24, [0, 4], []), (24, [1, 5], []), (20, [8, 4], [30, 2000, 1, 0, 0, 1, 1, 11]), (20, [8, 4], [30, -2000, -1, 0, 0, -1, 1, 11])], [], [], [(23, [6], [0, -1]), (20, [4], [50, 1, 0, 8, 1, 3, 2, 0, 8, 0, 0])], [], [(1, 5, -4294967296, 0), (5, 1, -4294967296, 0)])
theorem oo_Mo_edgeItem_29 {kA : Nat → ClassId} : or_ok PRD kA GG o_Mo_edgeItem_29 := by
  refine or_mk fun A ta ws vs hD hth hl => ?_
  intro t0 r0 t1 k1 t2 k2 t3 k3 t4 r4 t5 k5 t6 k6 t7 k7 t8 k8 t9 k9 t10 k10 t11 k11 t12 k12 d0 d1 f0 f1 f2 f3 f4 f5 f6 f7 f8 f9 f10 f11 f12 f13 f14 f15 f16 f17
  replace f3 := shm_730 f3
  replace f7 := shm_1438 f7
  replace f9 := shm_1722 f9
  replace f10 := shm_2117 f10
  replace f14 := shm_5 f14
  have q4 : n_v vs 4 = n_v vs 0 := f14.symm
  simp only [q4] at f3 f7 f9 f10
  have kz_0_8 := fdq_34 hD hth r0
  have kz_0_11 := fdq_237 hD hth r0
  have kz_0_12 := fdq_187 hD hth r0
  have kz_0_15 := fdq_239 hD hth r0
  have nf0 : fc_1 PRD (23, [6], [0, -1]) ws (vs) := ⟨nf_in hl rfl, sgq_1043 (vc_Mo_edgeItem_29_0 (v_iv (n_v vs 2)) (v_iv (n_v vs 6)) (v_iv (n_v vs 10)) (w_fi ws (n_v vs 0) 12) (w_fi ws (n_v vs 0) 8) (w_fi ws (n_v vs 0) 5) (w_fi ws (n_v vs 0) 15) (w_fi ws (n_v vs 0) 11) k2 k6 k10 f3 f7 f9 f10 kz_0_8 kz_0_11 kz_0_12 kz_0_15)⟩
  have nf1 : fc_1 PRD (20, [4], [50, 1, 0, 8, 1, 3, 2, 0, 8, 0, 0]) ws (vs) := by
    refine ⟨nf_in hl rfl, sgq_2156 ?_⟩
    · show w_fi ws (n_v vs 4) 8 = 0
      rw [q4]
      exact vc_Mo_edgeItem_29_1 (v_iv (n_v vs 2)) (v_iv (n_v vs 6)) (v_iv (n_v vs 10)) (w_fi ws (n_v vs 0) 12) (w_fi ws (n_v vs 0) 8) (w_fi ws (n_v vs 0) 5) (w_fi ws (n_v vs 0) 15) (w_fi ws (n_v vs 0) 11) k2 k6 k10 f3 f7 f9 f10 kz_0_8 kz_0_11 kz_0_12 kz_0_15
  refine ⟨(fun _ h => (by cases h)), [], trivial, ?_, (fun _ h => (by cases h))⟩
  rw [List.append_nil]
  exact List.forall_mem_cons.mpr ⟨⟨show (23 : Nat) < 100 from by decide, nf0⟩, List.forall_mem_cons.mpr ⟨⟨show (20 : Nat) < 100 from by decide, nf1⟩, (fun _ h => (by cases h))⟩⟩
set_option maxHeartbeats 4000000 in
theorem vc_Mo_edgeItem_30_0 (r_0 : Int) (pos_0 : Int) (gx : Int) (kz_0_11 : 0 ≤ pos_0 ∧ pos_0 ≤ 2000) (ex2 : gx = pos_0) : 1 * gx + ((-1) * pos_0 + 0) ≤ 0 := by
  first
    | omega
    | (have q1 := (hE_0_2_1 (r_0 + 2) (by omega)).2 (by omega)
       have q2 := (hE_0_2_2 (r_0 + 2) (by omega)).2 (by omega)
       omega)
    | (have q1 := (hE_0_2_1 (r_0 + 1) (by omega)).2 (by omega)
       have q2 := (hE_0_2_2 (r_0 + 1) (by omega)).2 (by omega)
       omega)
    | (have q1 := (hE_0_2_1 (r_0 + 2) (by omega)).2 (by omega)
       omega)
    | (have q1 := (hE_0_2_1 (r_0 + 1) (by omega)).2 (by omega)
       omega)
    | (have q1 := (hE_0_2_1 (r_0 + 2) (by omega)).2 (by omega)
       have q2 := (hE_0_2_2 (r_0 + 2) (by omega)).2 (by omega)
       have q3 := (hE_0_2_3 (r_0 + 2) (by omega)).1 (by omega)
       omega)
    | (have q1 := (hE_0_2_1 (r_0 + 2) (by omega)).2 (by omega)
       have q2 := (hE_0_2_2 (r_0 + 2) (by omega)).2 (by omega)
       have q3 := (hE_0_2_3 (r_0 + 2) (by omega)).2 (by omega)
       omega)
set_option maxHeartbeats 4000000 in
theorem vc_Mo_edgeItem_30_1 (r_0 : Int) (pos_0 : Int) (gx : Int) (kz_0_11 : 0 ≤ pos_0 ∧ pos_0 ≤ 2000) (ex2 : gx = pos_0) : gx = pos_0 := by
  first
    | omega
    | (have q1 := (hE_0_2_1 (r_0 + 2) (by omega)).2 (by omega)
       have q2 := (hE_0_2_2 (r_0 + 2) (by omega)).2 (by omega)
       omega)
    | (have q1 := (hE_0_2_1 (r_0 + 1) (by omega)).2 (by omega)
       have q2 := (hE_0_2_2 (r_0 + 1) (by omega)).2 (by omega)
       omega)
    | (have q1 := (hE_0_2_1 (r_0 + 2) (by omega)).2 (by omega)
       omega)
    | (have q1 := (hE_0_2_1 (r_0 + 1) (by omega)).2 (by omega)
       omega)
    | (have q1 := (hE_0_2_1 (r_0 + 2) (by omega)).2 (by omega)
       have q2 := (hE_0_2_2 (r_0 + 2) (by omega)).2 (by omega)
       have q3 := (hE_0_2_3 (r_0 + 2) (by omega)).1 (by omega)
       omega)
    | (have q1 := (hE_0_2_1 (r_0 + 2) (by omega)).2 (by omega)
       have q2 := (hE_0_2_2 (r_0 + 2) (by omega)).2 (by omega)
       have q3 := (hE_0_2_3 (r_0 + 2) (by omega)).2 (by omega)
       omega)
set_option maxHeartbeats 4000000 in
theorem vc_Mo_edgeItem_30_2 (x1 : Int) (x3 : Int) (x6 : Int) (x7 : Int) (fault_0 : Int) (value_0 : Int) (kind_0 : Int) (all_0 : Int → Int) (r_0 : Int) (from_0 : Int) (pos_0 : Int) (tape_0 : Int → Int) (limit_0 : Int) (place_0 : Int) (faultPlace_0 : Int) (k1 : 0 ≤ x1 ∧ x1 ≤ 7) (k3 : 0 ≤ x3 ∧ x3 ≤ 4) (k6 : (-1) ≤ x6 ∧ x6 ≤ 23) (k7 : 0 ≤ x7 ∧ x7 ≤ 48) (f1 : fault_0 = 0) (f15 : zOSL (limit_0) (pos_0) (kind_0) (place_0) (value_0) (from_0) (fault_0) (faultPlace_0) (r_0) (tape_0) (all_0) (x6) (x7) (x1) (x3)) (kz_0_8 : 0 ≤ fault_0 ∧ fault_0 ≤ 5) (kz_0_9 : 0 ≤ faultPlace_0 ∧ faultPlace_0 ≤ 2000) (kz_0_10 : 0 ≤ limit_0 ∧ limit_0 ≤ 2000) (kz_0_11 : 0 ≤ pos_0 ∧ pos_0 ≤ 2000) (kz_0_12 : 0 ≤ kind_0 ∧ kind_0 ≤ 4) (kz_0_13 : 0 ≤ place_0 ∧ place_0 ≤ 2000) (kz_0_14 : (-49) ≤ value_0 ∧ value_0 ≤ 1048575) (kz_0_15 : 0 ≤ from_0 ∧ from_0 ≤ 2000) : ZLM (limit_0) (pos_0) := by
  exact ed_lim ‹zOSL _ _ _ _ _ _ _ _ _ _ _ _ _ _ _› (by omega)
set_option maxHeartbeats 4000000 in
theorem vc_Mo_edgeItem_30_3 (x2 : Int) (x6 : Int) (x10 : Int) (fault_0 : Int) (kind_0 : Int) (r_0 : Int) (from_0 : Int) (pos_0 : Int) (gx : Int) (k2 : 0 ≤ x2 ∧ x2 ≤ 2000) (k6 : (-1) ≤ x6 ∧ x6 ≤ 23) (k10 : 1 ≤ x10 ∧ x10 ≤ 1) (f1 : fault_0 = 0) (f5 : (x10 = 1) → ((kind_0 = 3) ∧ (fault_0 = 0))) (f9 : ((kind_0 = 1) → (pos_0 ≤ (from_0 + 8))) ∧ ((kind_0 = 0) ∨ ((from_0 + 1) ≤ pos_0))) (f10 : 1 * x2 + ((-1) * pos_0 + 0) ≤ 0) (f11 : (1 ≤ fault_0) ∨ ((kind_0 = 0) ∨ ((x2 + 1) ≤ pos_0))) (f12 : ((-1) * fault_0 + 0 ≤ (-1)) ∨ ((-1) * x6 + 0 ≤ 0)) (kz_0_8 : 0 ≤ fault_0 ∧ fault_0 ≤ 5) (kz_0_11 : 0 ≤ pos_0 ∧ pos_0 ≤ 2000) (kz_0_12 : 0 ≤ kind_0 ∧ kind_0 ≤ 4) (kz_0_15 : 0 ≤ from_0 ∧ from_0 ≤ 2000) (ex2 : gx = pos_0) : 1 * x2 + ((-1) * gx + 0) ≤ (-1) := by
  first
    | omega
    | (have q1 := (hE_0_2_1 (r_0 + 2) (by omega)).2 (by omega)
       have q2 := (hE_0_2_2 (r_0 + 2) (by omega)).2 (by omega)
       omega)
    | (have q1 := (hE_0_2_1 (r_0 + 1) (by omega)).2 (by omega)
       have q2 := (hE_0_2_2 (r_0 + 1) (by omega)).2 (by omega)
       omega)
    | (have q1 := (hE_0_2_1 (r_0 + 2) (by omega)).2 (by omega)
       omega)
    | (have q1 := (hE_0_2_1 (r_0 + 1) (by omega)).2 (by omega)
       omega)
    | (have q1 := (hE_0_2_1 (r_0 + 2) (by omega)).2 (by omega)
       have q2 := (hE_0_2_2 (r_0 + 2) (by omega)).2 (by omega)
       have q3 := (hE_0_2_3 (r_0 + 2) (by omega)).1 (by omega)
       omega)
    | (have q1 := (hE_0_2_1 (r_0 + 2) (by omega)).2 (by omega)
       have q2 := (hE_0_2_2 (r_0 + 2) (by omega)).2 (by omega)
       have q3 := (hE_0_2_3 (r_0 + 2) (by omega)).2 (by omega)
       omega)
set_option maxHeartbeats 4000000 in
theorem vc_Mo_edgeItem_30_4 (x8 : Int) (r_0 : Int) (pos_0 : Int) (gx : Int) (k8 : 0 ≤ x8 ∧ x8 ≤ 2000) (f18 : 1 * x8 + (1 * pos_0 + 0) ≤ 2000) (f19 : (-1) * x8 + ((-1) * pos_0 + 0) ≤ (-2000)) (kz_0_11 : 0 ≤ pos_0 ∧ pos_0 ≤ 2000) (ex2 : gx = pos_0) : (-1) * x8 + ((-1) * gx + 0) ≤ (-2000) := by
  first
    | omega
    | (have q1 := (hE_0_2_1 (r_0 + 2) (by omega)).2 (by omega)
       have q2 := (hE_0_2_2 (r_0 + 2) (by omega)).2 (by omega)
       omega)
    | (have q1 := (hE_0_2_1 (r_0 + 1) (by omega)).2 (by omega)
       have q2 := (hE_0_2_2 (r_0 + 1) (by omega)).2 (by omega)
       omega)
    | (have q1 := (hE_0_2_1 (r_0 + 2) (by omega)).2 (by omega)
       omega)
    | (have q1 := (hE_0_2_1 (r_0 + 1) (by omega)).2 (by omega)
       omega)
    | (have q1 := (hE_0_2_1 (r_0 + 2) (by omega)).2 (by omega)
       have q2 := (hE_0_2_2 (r_0 + 2) (by omega)).2 (by omega)
       have q3 := (hE_0_2_3 (r_0 + 2) (by omega)).1 (by omega)
       omega)
    | (have q1 := (hE_0_2_1 (r_0 + 2) (by omega)).2 (by omega)
       have q2 := (hE_0_2_2 (r_0 + 2) (by omega)).2 (by omega)
       have q3 := (hE_0_2_3 (r_0 + 2) (by omega)).2 (by omega)
       omega)
set_option maxHeartbeats 4000000 in
theorem vc_Mo_edgeItem_30_5 (x1 : Int) (x3 : Int) (x6 : Int) (x7 : Int) (x9 : Int) (x10 : Int) (x11 : Int) (x13 : Int) (fault_0 : Int) (value_0 : Int) (kind_0 : Int) (all_0 : Int → Int) (r_0 : Int) (pos_0 : Int) (tape_0 : Int → Int) (limit_0 : Int) (gx : Int) (k1 : 0 ≤ x1 ∧ x1 ≤ 7) (k3 : 0 ≤ x3 ∧ x3 ≤ 4) (k6 : (-1) ≤ x6 ∧ x6 ≤ 23) (k7 : 0 ≤ x7 ∧ x7 ≤ 48) (k9 : 45 ≤ x9 ∧ x9 ≤ 45) (k10 : 1 ≤ x10 ∧ x10 ≤ 1) (k11 : 62 ≤ x11 ∧ x11 ≤ 62) (k13 : 1 ≤ x13 ∧ x13 ≤ 1) (g3 : x11 = value_0) (f4 : x10 ≠ 0) (f6 : SGQ (fault_0) (kind_0) (value_0) (x9) (x10)) (kz_0_8 : 0 ≤ fault_0 ∧ fault_0 ≤ 5) (kz_0_10 : 0 ≤ limit_0 ∧ limit_0 ≤ 2000) (kz_0_11 : 0 ≤ pos_0 ∧ pos_0 ≤ 2000) (kz_0_12 : 0 ≤ kind_0 ∧ kind_0 ≤ 4) (kz_0_14 : (-49) ≤ value_0 ∧ value_0 ≤ 1048575) (ex2 : gx = pos_0) : zTS4 (limit_0) (fault_0) (r_0) (tape_0) (all_0) (x6) (x7) (x13) (x1) (x3) (gx) := by
  first | subst g3 | skip
  first | subst ex2 | skip
  first
    | (exfalso; have a := (sgq_t (C := 62) (‹SGQ _ _ _ x11 _›) (by omega) (by omega)).2.2; omega)
    | (exfalso; have a := (sgq_t (C := 45) (‹SGQ _ _ _ x9 _›) (by omega) (by omega)).2.2; omega)
    | exact ed_next ‹zOSL _ _ _ _ _ _ _ _ _ _ _ _ _ _ _› (by omega) (by omega) (by omega) (by omega) (by omega) (by omega)
    | (have a := (sgq_t (C := 45) (‹SGQ _ _ _ x9 _›) (by omega) (by omega)).2.2; exact ed_next ‹zOSL _ _ _ _ _ _ _ _ _ _ _ _ _ _ _› (by omega) (by omega) (by omega) (by omega) (by omega) (by omega))
    | (have a := (sgq_t (C := 62) (‹SGQ _ _ _ x11 _›) (by omega) (by omega)).2.2; exact ed_next ‹zOSL _ _ _ _ _ _ _ _ _ _ _ _ _ _ _› (by omega) (by omega) (by omega) (by omega) (by omega) (by omega))
set_option maxHeartbeats 4000000 in
theorem vc_Mo_edgeItem_30_6 (x2 : Int) (r_0 : Int) (pos_0 : Int) (gx : Int) (k2 : 0 ≤ x2 ∧ x2 ≤ 2000) (f10 : 1 * x2 + ((-1) * pos_0 + 0) ≤ 0) (kz_0_11 : 0 ≤ pos_0 ∧ pos_0 ≤ 2000) (ex2 : gx = pos_0) : 1 * x2 + ((-1) * gx + 0) ≤ 0 := by
  first
    | omega
    | (have q1 := (hE_0_2_1 (r_0 + 2) (by omega)).2 (by omega)
       have q2 := (hE_0_2_2 (r_0 + 2) (by omega)).2 (by omega)
       omega)
    | (have q1 := (hE_0_2_1 (r_0 + 1) (by omega)).2 (by omega)
       have q2 := (hE_0_2_2 (r_0 + 1) (by omega)).2 (by omega)
       omega)
    | (have q1 := (hE_0_2_1 (r_0 + 2) (by omega)).2 (by omega)
       omega)
    | (have q1 := (hE_0_2_1 (r_0 + 1) (by omega)).2 (by omega)
       omega)
    | (have q1 := (hE_0_2_1 (r_0 + 2) (by omega)).2 (by omega)
       have q2 := (hE_0_2_2 (r_0 + 2) (by omega)).2 (by omega)
       have q3 := (hE_0_2_3 (r_0 + 2) (by omega)).1 (by omega)
       omega)
    | (have q1 := (hE_0_2_1 (r_0 + 2) (by omega)).2 (by omega)
       have q2 := (hE_0_2_2 (r_0 + 2) (by omega)).2 (by omega)
       have q3 := (hE_0_2_3 (r_0 + 2) (by omega)).2 (by omega)
       omega)
def o_Mo_edgeItem_30 : or_T := (81, 14, [(0, (2, 0, 0, [165])), (1, (0, 0, 7, [])), (2, (0, 0, 2000, [])), (3, (0, 0, 4, [])), (4, (2, 0, 0, [165])), (5, (0, 0, 7, [])), (6, (0, -1, 23, [])), (7, (0, 0, 48, [])), (8, (0, 0, 2000, [])), (9, (0, 45, 45, [])), (10, (0, 1, 1, [])), (11, (0, 62, 62, [])), (12, (0, 62, 62, [])), (13, (0, 1, 1, []))], [(23, [6], [0, -1]), (20, [4], [50, 1, 0, 8, 1, 3, 2, 0, 8, 0, 0]), (7, [11, 12], [0]), (9, [11, 4], [14]), (8, [10], [1]), (20, [10, 4], [50, 2, 0, 1012, 1008, 4, 6, 1, 2, 1, 0, 0, 1, 2, 7, 1, 3, 2, 1, 12, 0, 3, 1, 3, 2, 1, 8, 0, 0]), (20, [4, 9, 10], [60, 3, 0, 963, 8, 12, 14]), (20, [5, 4], [50, 1, 1, 1005, 1002, 0, 6, 4, 2, 1, 0, 0, 1, 3, 1, 2, 4, 3, 2, 1, 5, 0, 2]), (20, [4, 4], [30, 0, 1, 1, 15, -1, 1, 11]), (20, [4], [50, 3, 0, 12, 11, 15, 2, 21, 4, 7, 1, 3, 2, 0, 12, 0, 1, 0, 3, 2, 0, 11, 4, 3, 2, 0, 15, 0, 8, 3, 7, 1, 3, 2, 0, 12, 0, 0, 0, 7, 4, 3, 2, 0, 15, 0, 1, 2, 0, 11]), (20, [2, 4], [30, 0, 1, 0, 0, -1, 1, 11]), (20, [4, 2], [50, 3, 0, 8, 12, 11, 3, 7, 0, 2, 0, 1, 2, 0, 8, 3, 7, 1, 3, 2, 0, 12, 0, 0, 0, 6, 4, 2, 1, 1, 0, 1, 2, 0, 11]), (20, [4, 6], [31, 1, -1, -1, 1, 8, 0, -1, 0, 0]), (20, [4], [60, 1, 3, 199, 5, 2, 3, 4]), (20, [4, 6], [60, 2, 1, 242, 5, 8, 2]), (20, [4, 6, 7, 5, 3], [60, 9, 2, 1012, 10, 11, 12, 13, 14, 15, 8, 9, 5, 1, 2]), (24, [0, 4], []), (24, [1, 5], []), (20, [8, 4], [30, 2000, 1, 0, 0, 1, 1, 11]), (20, [8, 4], [30, -2000, -1, 0, 0, -1, 1, 11])], [], [(0, 0, 2000, [])], [(20, [14, 4], [30, 0, 1, 0, 0, -1, 1, 11]), (20, [14, 4], [50, 1, 0, 1011, 1, 2, 1, 0, 2, 1, 11]), (20, [4], [60, 2, 0, 947, 10, 11]), (23, [2, 14], [-1, 1, -1]), (23, [8, 14], [-2000, -1, -1]), (20, [4, 6, 7, 13, 5, 3, 14], [60, 3, 2, 973, 10, 8, 5, 1, 2]), (20, [2, 14], [30, 0, 1, 0, 0, -1, 0, 0])], [], [(1, 5, -4294967296, 0), (5, 1, -4294967296, 0)])
theorem oo_Mo_edgeItem_30 {kA : Nat → ClassId} : or_ok PRD kA GG o_Mo_edgeItem_30 := by
  refine or_mk fun A ta ws vs hD hth hl => ?_
  intro t0 r0 t1 k1 t2 k2 t3 k3 t4 r4 t5 k5 t6 k6 t7 k7 t8 k8 t9 k9 t10 k10 t11 k11 t12 k12 t13 k13 d0 d1 f0 f1 f2 f3 f4 f5 f6 f7 f8 f9 f10 f11 f12 f13 f14 f15 f16 f17 f18 f19
  replace f1 := shm_2156 f1
  replace f3 := shm_115 f3
  replace f4 := shm_142 f4
  replace f5 := shm_730 f5
  replace f6 := shm_731 f6
  replace f9 := shm_1438 f9
  replace f10 := shm_1431 f10
  replace f11 := shm_1722 f11
  replace f12 := shm_2117 f12
  replace f15 := shm_2153 f15
  replace f16 := shm_5 f16
  replace f17 := shm_5 f17
  replace f18 := shm_2007 f18
  replace f19 := shm_2008 f19
  have q4 : n_v vs 4 = n_v vs 0 := f16.symm
  have q5 : n_v vs 5 = n_v vs 1 := f17.symm
  simp only [q4, q5] at f1 f3 f5 f6 f9 f10 f11 f12 f15 f18 f19
  have g3 : v_iv (n_v vs 11) = w_fi ws (n_v vs 0) 14 := congrArg v_iv f3
  have kz_0_8 := fdq_34 hD hth r0
  have kz_0_9 := fdq_44 hD hth r0
  have kz_0_10 := fdq_43 hD hth r0
  have kz_0_11 := fdq_237 hD hth r0
  have kz_0_12 := fdq_187 hD hth r0
  have kz_0_13 := fdq_238 hD hth r0
  have kz_0_14 := fdq_188 hD hth r0
  have kz_0_15 := fdq_239 hD hth r0
  obtain ⟨x, ex, hx⟩ := iv_ex (ta := ta) (lo := 0) (hi := 2000) (z := w_fi ws (n_v vs 0) 11) (by omega) (by omega) (by omega) (by omega)
  have ex2 : v_iv (Value.int x) = w_fi ws (n_v vs 0) 11 := ex
  have ex3 : 0 ≤ v_iv (Value.int x) ∧ v_iv (Value.int x) ≤ 2000 := tv_rng hx
  have e_2 : n_v (vs ++ [Value.int x]) 2 = n_v vs 2 := n_v_old (by rw [hl]; decide)
  have e_3 : n_v (vs ++ [Value.int x]) 3 = n_v vs 3 := n_v_old (by rw [hl]; decide)
  have e_4 : n_v (vs ++ [Value.int x]) 4 = n_v vs 4 := n_v_old (by rw [hl]; decide)
  have e_5 : n_v (vs ++ [Value.int x]) 5 = n_v vs 5 := n_v_old (by rw [hl]; decide)
  have e_6 : n_v (vs ++ [Value.int x]) 6 = n_v vs 6 := n_v_old (by rw [hl]; decide)
  have e_7 : n_v (vs ++ [Value.int x]) 7 = n_v vs 7 := n_v_old (by rw [hl]; decide)
  have e_8 : n_v (vs ++ [Value.int x]) 8 = n_v vs 8 := n_v_old (by rw [hl]; decide)
  have e_13 : n_v (vs ++ [Value.int x]) 13 = n_v vs 13 := n_v_old (by rw [hl]; decide)
  have e_14 : n_v (vs ++ [Value.int x]) 14 = Value.int x := n_v_new hl
  have nf0 : fc_1 PRD (20, [14, 4], [30, 0, 1, 0, 0, -1, 1, 11]) ws (vs ++ [Value.int x]) := by
    refine ⟨nf_inA hl rfl, sgq_1431 ?_⟩
    · show 1 * v_iv (n_v (vs ++ [Value.int x]) 14) + ((-1) * w_fi ws (n_v (vs ++ [Value.int x]) 4) 11 + 0) ≤ 0
      simp only [e_4, e_14, q4]
      exact vc_Mo_edgeItem_30_0 (w_fi ws (n_v vs 0) 5) (w_fi ws (n_v vs 0) 11) (v_iv (Value.int x)) kz_0_11 ex2
  have nf1 : fc_1 PRD (20, [14, 4], [50, 1, 0, 1011, 1, 2, 1, 0, 2, 1, 11]) ws (vs ++ [Value.int x]) := by
    refine ⟨nf_inA hl rfl, sgq_1432 ?_⟩
    · show v_iv (n_v (vs ++ [Value.int x]) 14) = w_fi ws (n_v (vs ++ [Value.int x]) 4) 11
      simp only [e_4, e_14, q4]
      exact vc_Mo_edgeItem_30_1 (w_fi ws (n_v vs 0) 5) (w_fi ws (n_v vs 0) 11) (v_iv (Value.int x)) kz_0_11 ex2
  have nf2 : fc_1 PRD (20, [4], [60, 2, 0, 947, 10, 11]) ws (vs ++ [Value.int x]) := by
    refine ⟨nf_inA hl rfl, sgq_1433 ?_⟩
    · show ZLM (w_fi ws (n_v (vs ++ [Value.int x]) 4) 10) (w_fi ws (n_v (vs ++ [Value.int x]) 4) 11)
      simp only [e_4, q4]
      exact vc_Mo_edgeItem_30_2 (v_iv (n_v vs 1)) (v_iv (n_v vs 3)) (v_iv (n_v vs 6)) (v_iv (n_v vs 7)) (w_fi ws (n_v vs 0) 8) (w_fi ws (n_v vs 0) 14) (w_fi ws (n_v vs 0) 12) (w_ei ws (w_ar ws (n_v vs 0) 2)) (w_fi ws (n_v vs 0) 5) (w_fi ws (n_v vs 0) 15) (w_fi ws (n_v vs 0) 11) (w_ei ws (w_ar ws (n_v vs 0) 1)) (w_fi ws (n_v vs 0) 10) (w_fi ws (n_v vs 0) 13) (w_fi ws (n_v vs 0) 9) k1 k3 k6 k7 f1 f15 kz_0_8 kz_0_9 kz_0_10 kz_0_11 kz_0_12 kz_0_13 kz_0_14 kz_0_15
  have nf3 : fc_1 PRD (23, [2, 14], [-1, 1, -1]) ws (vs ++ [Value.int x]) := by
    refine ⟨nf_inA hl rfl, sgq_193 ?_⟩
    · show 1 * v_iv (n_v (vs ++ [Value.int x]) 2) + ((-1) * v_iv (n_v (vs ++ [Value.int x]) 14) + 0) ≤ (-1)
      simp only [e_2, e_14]
      exact vc_Mo_edgeItem_30_3 (v_iv (n_v vs 2)) (v_iv (n_v vs 6)) (v_iv (n_v vs 10)) (w_fi ws (n_v vs 0) 8) (w_fi ws (n_v vs 0) 12) (w_fi ws (n_v vs 0) 5) (w_fi ws (n_v vs 0) 15) (w_fi ws (n_v vs 0) 11) (v_iv (Value.int x)) k2 k6 k10 f1 f5 f9 f10 f11 f12 kz_0_8 kz_0_11 kz_0_12 kz_0_15 ex2
  have nf4 : fc_1 PRD (23, [8, 14], [-2000, -1, -1]) ws (vs ++ [Value.int x]) := by
    refine ⟨nf_inA hl rfl, sgq_2009 ?_⟩
    · show (-1) * v_iv (n_v (vs ++ [Value.int x]) 8) + ((-1) * v_iv (n_v (vs ++ [Value.int x]) 14) + 0) ≤ (-2000)
      simp only [e_8, e_14]
      exact vc_Mo_edgeItem_30_4 (v_iv (n_v vs 8)) (w_fi ws (n_v vs 0) 5) (w_fi ws (n_v vs 0) 11) (v_iv (Value.int x)) k8 f18 f19 kz_0_11 ex2
  have nf5 : fc_1 PRD (20, [4, 6, 7, 13, 5, 3, 14], [60, 3, 2, 973, 10, 8, 5, 1, 2]) ws (vs ++ [Value.int x]) := by
    refine ⟨nf_inA hl rfl, sgq_2157 ?_⟩
    · show zTS4 (w_fi ws (n_v (vs ++ [Value.int x]) 4) 10) (w_fi ws (n_v (vs ++ [Value.int x]) 4) 8) (w_fi ws (n_v (vs ++ [Value.int x]) 4) 5) (w_ei ws (w_ar ws (n_v (vs ++ [Value.int x]) 4) 1)) (w_ei ws (w_ar ws (n_v (vs ++ [Value.int x]) 4) 2)) (v_iv (n_v (vs ++ [Value.int x]) 6)) (v_iv (n_v (vs ++ [Value.int x]) 7)) (v_iv (n_v (vs ++ [Value.int x]) 13)) (v_iv (n_v (vs ++ [Value.int x]) 5)) (v_iv (n_v (vs ++ [Value.int x]) 3)) (v_iv (n_v (vs ++ [Value.int x]) 14))
      simp only [e_3, e_4, e_5, e_6, e_7, e_13, e_14, q4, q5]
      exact vc_Mo_edgeItem_30_5 (v_iv (n_v vs 1)) (v_iv (n_v vs 3)) (v_iv (n_v vs 6)) (v_iv (n_v vs 7)) (v_iv (n_v vs 9)) (v_iv (n_v vs 10)) (v_iv (n_v vs 11)) (v_iv (n_v vs 13)) (w_fi ws (n_v vs 0) 8) (w_fi ws (n_v vs 0) 14) (w_fi ws (n_v vs 0) 12) (w_ei ws (w_ar ws (n_v vs 0) 2)) (w_fi ws (n_v vs 0) 5) (w_fi ws (n_v vs 0) 11) (w_ei ws (w_ar ws (n_v vs 0) 1)) (w_fi ws (n_v vs 0) 10) (v_iv (Value.int x)) k1 k3 k6 k7 k9 k10 k11 k13 g3 f4 f6 kz_0_8 kz_0_10 kz_0_11 kz_0_12 kz_0_14 ex2
  have nf6 : fc_1 PRD (20, [2, 14], [30, 0, 1, 0, 0, -1, 0, 0]) ws (vs ++ [Value.int x]) := by
    refine ⟨nf_inA hl rfl, sgq_201 ?_⟩
    · show 1 * v_iv (n_v (vs ++ [Value.int x]) 2) + ((-1) * v_iv (n_v (vs ++ [Value.int x]) 14) + 0) ≤ 0
      simp only [e_2, e_14]
      exact vc_Mo_edgeItem_30_6 (v_iv (n_v vs 2)) (w_fi ws (n_v vs 0) 5) (w_fi ws (n_v vs 0) 11) (v_iv (Value.int x)) k2 f10 kz_0_11 ex2
  exact ⟨(fun _ h => (by cases h)), [Value.int x], ag_one hx, List.forall_mem_cons.mpr ⟨⟨show (20 : Nat) < 100 from by decide, nf0⟩, List.forall_mem_cons.mpr ⟨⟨show (20 : Nat) < 100 from by decide, nf1⟩, List.forall_mem_cons.mpr ⟨⟨show (20 : Nat) < 100 from by decide, nf2⟩, List.forall_mem_cons.mpr ⟨⟨show (23 : Nat) < 100 from by decide, nf3⟩, List.forall_mem_cons.mpr ⟨⟨show (23 : Nat) < 100 from by decide, nf4⟩, List.forall_mem_cons.mpr ⟨⟨show (20 : Nat) < 100 from by decide, nf5⟩, List.forall_mem_cons.mpr ⟨⟨show (20 : Nat) < 100 from by decide, nf6⟩, (fun _ h => (by cases h))⟩⟩⟩⟩⟩⟩⟩, (fun _ h => (by cases h))⟩
set_option maxHeartbeats 4000000 in
theorem vc_Mo_edgeItem_31_0 (x2 : Int) (r_0 : Int) (gx : Int) (k2 : 0 ≤ x2 ∧ x2 ≤ 2000) (ex2 : gx = x2) : 1 * gx + ((-1) * x2 + 0) ≤ 0 := by
  first
    | omega
    | (have q1 := (hE_0_2_1 (r_0 + 2) (by omega)).2 (by omega)
       have q2 := (hE_0_2_2 (r_0 + 2) (by omega)).2 (by omega)
       omega)
    | (have q1 := (hE_0_2_1 (r_0 + 1) (by omega)).2 (by omega)
       have q2 := (hE_0_2_2 (r_0 + 1) (by omega)).2 (by omega)
       omega)
    | (have q1 := (hE_0_2_1 (r_0 + 2) (by omega)).2 (by omega)
       omega)
    | (have q1 := (hE_0_2_1 (r_0 + 1) (by omega)).2 (by omega)
       omega)
    | (have q1 := (hE_0_2_1 (r_0 + 2) (by omega)).2 (by omega)
       have q2 := (hE_0_2_2 (r_0 + 2) (by omega)).2 (by omega)
       have q3 := (hE_0_2_3 (r_0 + 2) (by omega)).1 (by omega)
       omega)
    | (have q1 := (hE_0_2_1 (r_0 + 2) (by omega)).2 (by omega)
       have q2 := (hE_0_2_2 (r_0 + 2) (by omega)).2 (by omega)
       have q3 := (hE_0_2_3 (r_0 + 2) (by omega)).2 (by omega)
       omega)
set_option maxHeartbeats 4000000 in
theorem vc_Mo_edgeItem_31_1 (x2 : Int) (r_0 : Int) (gx : Int) (k2 : 0 ≤ x2 ∧ x2 ≤ 2000) (ex2 : gx = x2) : (-1) * gx + (1 * x2 + 0) ≤ 0 := by
  first
    | omega
    | (have q1 := (hE_0_2_1 (r_0 + 2) (by omega)).2 (by omega)
       have q2 := (hE_0_2_2 (r_0 + 2) (by omega)).2 (by omega)
       omega)
    | (have q1 := (hE_0_2_1 (r_0 + 1) (by omega)).2 (by omega)
       have q2 := (hE_0_2_2 (r_0 + 1) (by omega)).2 (by omega)
       omega)
    | (have q1 := (hE_0_2_1 (r_0 + 2) (by omega)).2 (by omega)
       omega)
    | (have q1 := (hE_0_2_1 (r_0 + 1) (by omega)).2 (by omega)
       omega)
    | (have q1 := (hE_0_2_1 (r_0 + 2) (by omega)).2 (by omega)
       have q2 := (hE_0_2_2 (r_0 + 2) (by omega)).2 (by omega)
       have q3 := (hE_0_2_3 (r_0 + 2) (by omega)).1 (by omega)
       omega)
    | (have q1 := (hE_0_2_1 (r_0 + 2) (by omega)).2 (by omega)
       have q2 := (hE_0_2_2 (r_0 + 2) (by omega)).2 (by omega)
       have q3 := (hE_0_2_3 (r_0 + 2) (by omega)).2 (by omega)
       omega)
set_option maxHeartbeats 4000000 in
theorem vc_Mo_edgeItem_31_2 (x3 : Int) (r_0 : Int) (gu : Int) (k3 : 0 ≤ x3 ∧ x3 ≤ 4) (eu2 : gu = x3) : 1 * gu + ((-1) * x3 + 0) ≤ 0 := by
  first
    | omega
    | (have q1 := (hE_0_2_1 (r_0 + 2) (by omega)).2 (by omega)
       have q2 := (hE_0_2_2 (r_0 + 2) (by omega)).2 (by omega)
       omega)
    | (have q1 := (hE_0_2_1 (r_0 + 1) (by omega)).2 (by omega)
       have q2 := (hE_0_2_2 (r_0 + 1) (by omega)).2 (by omega)
       omega)
    | (have q1 := (hE_0_2_1 (r_0 + 2) (by omega)).2 (by omega)
       omega)
    | (have q1 := (hE_0_2_1 (r_0 + 1) (by omega)).2 (by omega)
       omega)
    | (have q1 := (hE_0_2_1 (r_0 + 2) (by omega)).2 (by omega)
       have q2 := (hE_0_2_2 (r_0 + 2) (by omega)).2 (by omega)
       have q3 := (hE_0_2_3 (r_0 + 2) (by omega)).1 (by omega)
       omega)
    | (have q1 := (hE_0_2_1 (r_0 + 2) (by omega)).2 (by omega)
       have q2 := (hE_0_2_2 (r_0 + 2) (by omega)).2 (by omega)
       have q3 := (hE_0_2_3 (r_0 + 2) (by omega)).2 (by omega)
       omega)
set_option maxHeartbeats 4000000 in
theorem vc_Mo_edgeItem_31_3 (x3 : Int) (r_0 : Int) (gu : Int) (k3 : 0 ≤ x3 ∧ x3 ≤ 4) (eu2 : gu = x3) : (-1) * gu + (1 * x3 + 0) ≤ 0 := by
  first
    | omega
    | (have q1 := (hE_0_2_1 (r_0 + 2) (by omega)).2 (by omega)
       have q2 := (hE_0_2_2 (r_0 + 2) (by omega)).2 (by omega)
       omega)
    | (have q1 := (hE_0_2_1 (r_0 + 1) (by omega)).2 (by omega)
       have q2 := (hE_0_2_2 (r_0 + 1) (by omega)).2 (by omega)
       omega)
    | (have q1 := (hE_0_2_1 (r_0 + 2) (by omega)).2 (by omega)
       omega)
    | (have q1 := (hE_0_2_1 (r_0 + 1) (by omega)).2 (by omega)
       omega)
    | (have q1 := (hE_0_2_1 (r_0 + 2) (by omega)).2 (by omega)
       have q2 := (hE_0_2_2 (r_0 + 2) (by omega)).2 (by omega)
       have q3 := (hE_0_2_3 (r_0 + 2) (by omega)).1 (by omega)
       omega)
    | (have q1 := (hE_0_2_1 (r_0 + 2) (by omega)).2 (by omega)
       have q2 := (hE_0_2_2 (r_0 + 2) (by omega)).2 (by omega)
       have q3 := (hE_0_2_3 (r_0 + 2) (by omega)).2 (by omega)
       omega)
set_option maxHeartbeats 4000000 in
theorem vc_Mo_edgeItem_31_4 (x7 : Int) (r_0 : Int) (gw : Int) (k7 : 0 ≤ x7 ∧ x7 ≤ 48) (ew2 : gw = x7) : 1 * gw + ((-1) * x7 + 0) ≤ 0 := by
  first
    | omega
    | (have q1 := (hE_0_2_1 (r_0 + 2) (by omega)).2 (by omega)
       have q2 := (hE_0_2_2 (r_0 + 2) (by omega)).2 (by omega)
       omega)
    | (have q1 := (hE_0_2_1 (r_0 + 1) (by omega)).2 (by omega)
       have q2 := (hE_0_2_2 (r_0 + 1) (by omega)).2 (by omega)
       omega)
    | (have q1 := (hE_0_2_1 (r_0 + 2) (by omega)).2 (by omega)
       omega)
    | (have q1 := (hE_0_2_1 (r_0 + 1) (by omega)).2 (by omega)
       omega)
    | (have q1 := (hE_0_2_1 (r_0 + 2) (by omega)).2 (by omega)
       have q2 := (hE_0_2_2 (r_0 + 2) (by omega)).2 (by omega)
       have q3 := (hE_0_2_3 (r_0 + 2) (by omega)).1 (by omega)
       omega)
    | (have q1 := (hE_0_2_1 (r_0 + 2) (by omega)).2 (by omega)
       have q2 := (hE_0_2_2 (r_0 + 2) (by omega)).2 (by omega)
       have q3 := (hE_0_2_3 (r_0 + 2) (by omega)).2 (by omega)
       omega)
set_option maxHeartbeats 4000000 in
theorem vc_Mo_edgeItem_31_5 (x7 : Int) (r_0 : Int) (gw : Int) (k7 : 0 ≤ x7 ∧ x7 ≤ 48) (ew2 : gw = x7) : (-1) * gw + (1 * x7 + 0) ≤ 0 := by
  first
    | omega
    | (have q1 := (hE_0_2_1 (r_0 + 2) (by omega)).2 (by omega)
       have q2 := (hE_0_2_2 (r_0 + 2) (by omega)).2 (by omega)
       omega)
    | (have q1 := (hE_0_2_1 (r_0 + 1) (by omega)).2 (by omega)
       have q2 := (hE_0_2_2 (r_0 + 1) (by omega)).2 (by omega)
       omega)
    | (have q1 := (hE_0_2_1 (r_0 + 2) (by omega)).2 (by omega)
       omega)
    | (have q1 := (hE_0_2_1 (r_0 + 1) (by omega)).2 (by omega)
       omega)
    | (have q1 := (hE_0_2_1 (r_0 + 2) (by omega)).2 (by omega)
       have q2 := (hE_0_2_2 (r_0 + 2) (by omega)).2 (by omega)
       have q3 := (hE_0_2_3 (r_0 + 2) (by omega)).1 (by omega)
       omega)
    | (have q1 := (hE_0_2_1 (r_0 + 2) (by omega)).2 (by omega)
       have q2 := (hE_0_2_2 (r_0 + 2) (by omega)).2 (by omega)
       have q3 := (hE_0_2_3 (r_0 + 2) (by omega)).2 (by omega)
       omega)
set_option maxHeartbeats 4000000 in
theorem vc_Mo_edgeItem_31_6 (x13 : Int) (r_0 : Int) (gc : Int) (k13 : 1 ≤ x13 ∧ x13 ≤ 1) (ec2 : gc = x13) : 1 * gc + ((-1) * x13 + 0) ≤ 0 := by
  first
    | omega
    | (have q1 := (hE_0_2_1 (r_0 + 2) (by omega)).2 (by omega)
       have q2 := (hE_0_2_2 (r_0 + 2) (by omega)).2 (by omega)
       omega)
    | (have q1 := (hE_0_2_1 (r_0 + 1) (by omega)).2 (by omega)
       have q2 := (hE_0_2_2 (r_0 + 1) (by omega)).2 (by omega)
       omega)
    | (have q1 := (hE_0_2_1 (r_0 + 2) (by omega)).2 (by omega)
       omega)
    | (have q1 := (hE_0_2_1 (r_0 + 1) (by omega)).2 (by omega)
       omega)
    | (have q1 := (hE_0_2_1 (r_0 + 2) (by omega)).2 (by omega)
       have q2 := (hE_0_2_2 (r_0 + 2) (by omega)).2 (by omega)
       have q3 := (hE_0_2_3 (r_0 + 2) (by omega)).1 (by omega)
       omega)
    | (have q1 := (hE_0_2_1 (r_0 + 2) (by omega)).2 (by omega)
       have q2 := (hE_0_2_2 (r_0 + 2) (by omega)).2 (by omega)
       have q3 := (hE_0_2_3 (r_0 + 2) (by omega)).2 (by omega)
       omega)
set_option maxHeartbeats 4000000 in
theorem vc_Mo_edgeItem_31_7 (x13 : Int) (r_0 : Int) (gc : Int) (k13 : 1 ≤ x13 ∧ x13 ≤ 1) (ec2 : gc = x13) : (-1) * gc + (1 * x13 + 0) ≤ 0 := by
  first
    | omega
    | (have q1 := (hE_0_2_1 (r_0 + 2) (by omega)).2 (by omega)
       have q2 := (hE_0_2_2 (r_0 + 2) (by omega)).2 (by omega)
       omega)
    | (have q1 := (hE_0_2_1 (r_0 + 1) (by omega)).2 (by omega)
       have q2 := (hE_0_2_2 (r_0 + 1) (by omega)).2 (by omega)
       omega)
    | (have q1 := (hE_0_2_1 (r_0 + 2) (by omega)).2 (by omega)
       omega)
    | (have q1 := (hE_0_2_1 (r_0 + 1) (by omega)).2 (by omega)
       omega)
    | (have q1 := (hE_0_2_1 (r_0 + 2) (by omega)).2 (by omega)
       have q2 := (hE_0_2_2 (r_0 + 2) (by omega)).2 (by omega)
       have q3 := (hE_0_2_3 (r_0 + 2) (by omega)).1 (by omega)
       omega)
    | (have q1 := (hE_0_2_1 (r_0 + 2) (by omega)).2 (by omega)
       have q2 := (hE_0_2_2 (r_0 + 2) (by omega)).2 (by omega)
       have q3 := (hE_0_2_3 (r_0 + 2) (by omega)).2 (by omega)
       omega)
set_option maxHeartbeats 4000000 in
theorem vc_Mo_edgeItem_31_8 (r_0 : Int) (from_0 : Int) (pos_0 : Int) (f12 : 1 * from_0 + ((-1) * pos_0 + 0) ≤ 0) (kz_0_11 : 0 ≤ pos_0 ∧ pos_0 ≤ 2000) (kz_0_15 : 0 ≤ from_0 ∧ from_0 ≤ 2000) : 1 * from_0 + ((-1) * pos_0 + 0) ≤ 0 := by
  first
    | omega
    | (have q1 := (hE_0_2_1 (r_0 + 2) (by omega)).2 (by omega)
       have q2 := (hE_0_2_2 (r_0 + 2) (by omega)).2 (by omega)
       omega)
    | (have q1 := (hE_0_2_1 (r_0 + 1) (by omega)).2 (by omega)
       have q2 := (hE_0_2_2 (r_0 + 1) (by omega)).2 (by omega)
       omega)
    | (have q1 := (hE_0_2_1 (r_0 + 2) (by omega)).2 (by omega)
       omega)
    | (have q1 := (hE_0_2_1 (r_0 + 1) (by omega)).2 (by omega)
       omega)
    | (have q1 := (hE_0_2_1 (r_0 + 2) (by omega)).2 (by omega)
       have q2 := (hE_0_2_2 (r_0 + 2) (by omega)).2 (by omega)
       have q3 := (hE_0_2_3 (r_0 + 2) (by omega)).1 (by omega)
       omega)
    | (have q1 := (hE_0_2_1 (r_0 + 2) (by omega)).2 (by omega)
       have q2 := (hE_0_2_2 (r_0 + 2) (by omega)).2 (by omega)
       have q3 := (hE_0_2_3 (r_0 + 2) (by omega)).2 (by omega)
       omega)
set_option maxHeartbeats 4000000 in
theorem vc_Mo_edgeItem_31_9 (r_0 : Int) (from_0 : Int) (pos_0 : Int) (kind_0 : Int) (f13 : ((kind_0 = 1) → (pos_0 ≤ (from_0 + 8))) ∧ ((kind_0 = 0) ∨ ((from_0 + 1) ≤ pos_0))) (kz_0_11 : 0 ≤ pos_0 ∧ pos_0 ≤ 2000) (kz_0_12 : 0 ≤ kind_0 ∧ kind_0 ≤ 4) (kz_0_15 : 0 ≤ from_0 ∧ from_0 ≤ 2000) : ((kind_0 = 1) → (pos_0 ≤ (from_0 + 8))) ∧ ((kind_0 = 0) ∨ ((from_0 + 1) ≤ pos_0)) := by
  first
    | omega
    | (have q1 := (hE_0_2_1 (r_0 + 2) (by omega)).2 (by omega)
       have q2 := (hE_0_2_2 (r_0 + 2) (by omega)).2 (by omega)
       omega)
    | (have q1 := (hE_0_2_1 (r_0 + 1) (by omega)).2 (by omega)
       have q2 := (hE_0_2_2 (r_0 + 1) (by omega)).2 (by omega)
       omega)
    | (have q1 := (hE_0_2_1 (r_0 + 2) (by omega)).2 (by omega)
       omega)
    | (have q1 := (hE_0_2_1 (r_0 + 1) (by omega)).2 (by omega)
       omega)
    | (have q1 := (hE_0_2_1 (r_0 + 2) (by omega)).2 (by omega)
       have q2 := (hE_0_2_2 (r_0 + 2) (by omega)).2 (by omega)
       have q3 := (hE_0_2_3 (r_0 + 2) (by omega)).1 (by omega)
       omega)
    | (have q1 := (hE_0_2_1 (r_0 + 2) (by omega)).2 (by omega)
       have q2 := (hE_0_2_2 (r_0 + 2) (by omega)).2 (by omega)
       have q3 := (hE_0_2_3 (r_0 + 2) (by omega)).2 (by omega)
       omega)
set_option maxHeartbeats 4000000 in
theorem vc_Mo_edgeItem_31_10 (x2 : Int) (x14 : Int) (r_0 : Int) (from_0 : Int) (pos_0 : Int) (gx : Int) (gy : Int) (k2 : 0 ≤ x2 ∧ x2 ≤ 2000) (k14 : 0 ≤ x14 ∧ x14 ≤ 2000) (f0 : 1 * x2 + ((-1) * x14 + 0) ≤ (-1)) (f12 : 1 * from_0 + ((-1) * pos_0 + 0) ≤ 0) (f14 : 1 * x14 + ((-1) * from_0 + 0) ≤ 0) (kz_0_11 : 0 ≤ pos_0 ∧ pos_0 ≤ 2000) (kz_0_15 : 0 ≤ from_0 ∧ from_0 ≤ 2000) (ex2 : gx = x2) (ey2 : gy = from_0) : 1 * gx + ((-1) * pos_0 + 0) ≤ 0 := by
  first
    | omega
    | (have q1 := (hE_0_2_1 (r_0 + 2) (by omega)).2 (by omega)
       have q2 := (hE_0_2_2 (r_0 + 2) (by omega)).2 (by omega)
       omega)
    | (have q1 := (hE_0_2_1 (r_0 + 1) (by omega)).2 (by omega)
       have q2 := (hE_0_2_2 (r_0 + 1) (by omega)).2 (by omega)
       omega)
    | (have q1 := (hE_0_2_1 (r_0 + 2) (by omega)).2 (by omega)
       omega)
    | (have q1 := (hE_0_2_1 (r_0 + 1) (by omega)).2 (by omega)
       omega)
    | (have q1 := (hE_0_2_1 (r_0 + 2) (by omega)).2 (by omega)
       have q2 := (hE_0_2_2 (r_0 + 2) (by omega)).2 (by omega)
       have q3 := (hE_0_2_3 (r_0 + 2) (by omega)).1 (by omega)
       omega)
    | (have q1 := (hE_0_2_1 (r_0 + 2) (by omega)).2 (by omega)
       have q2 := (hE_0_2_2 (r_0 + 2) (by omega)).2 (by omega)
       have q3 := (hE_0_2_3 (r_0 + 2) (by omega)).2 (by omega)
       omega)
set_option maxHeartbeats 4000000 in
theorem vc_Mo_edgeItem_31_11 (r_0 : Int) (from_0 : Int) (pos_0 : Int) (kind_0 : Int) (gy : Int) (f12 : 1 * from_0 + ((-1) * pos_0 + 0) ≤ 0) (f13 : ((kind_0 = 1) → (pos_0 ≤ (from_0 + 8))) ∧ ((kind_0 = 0) ∨ ((from_0 + 1) ≤ pos_0))) (kz_0_11 : 0 ≤ pos_0 ∧ pos_0 ≤ 2000) (kz_0_12 : 0 ≤ kind_0 ∧ kind_0 ≤ 4) (kz_0_15 : 0 ≤ from_0 ∧ from_0 ≤ 2000) (ey2 : gy = from_0) : (kind_0 = 0) ∨ ((gy + 1) ≤ pos_0) := by
  first
    | omega
    | (have q1 := (hE_0_2_1 (r_0 + 2) (by omega)).2 (by omega)
       have q2 := (hE_0_2_2 (r_0 + 2) (by omega)).2 (by omega)
       omega)
    | (have q1 := (hE_0_2_1 (r_0 + 1) (by omega)).2 (by omega)
       have q2 := (hE_0_2_2 (r_0 + 1) (by omega)).2 (by omega)
       omega)
    | (have q1 := (hE_0_2_1 (r_0 + 2) (by omega)).2 (by omega)
       omega)
    | (have q1 := (hE_0_2_1 (r_0 + 1) (by omega)).2 (by omega)
       omega)
    | (have q1 := (hE_0_2_1 (r_0 + 2) (by omega)).2 (by omega)
       have q2 := (hE_0_2_2 (r_0 + 2) (by omega)).2 (by omega)
       have q3 := (hE_0_2_3 (r_0 + 2) (by omega)).1 (by omega)
       omega)
    | (have q1 := (hE_0_2_1 (r_0 + 2) (by omega)).2 (by omega)
       have q2 := (hE_0_2_2 (r_0 + 2) (by omega)).2 (by omega)
       have q3 := (hE_0_2_3 (r_0 + 2) (by omega)).2 (by omega)
       omega)
set_option maxHeartbeats 4000000 in
theorem vc_Mo_edgeItem_31_12 (x1 : Int) (all_0 : Int → Int) (r_0 : Int) (k1 : 0 ≤ x1 ∧ x1 ≤ 7) (f6 : (x1 + 1) ≤ all_0 ((r_0 + 2))) : (x1 + 1) ≤ all_0 ((r_0 + 2)) := by
  first
    | omega
    | (have q1 := (hE_0_2_1 (r_0 + 2) (by omega)).2 (by omega)
       have q2 := (hE_0_2_2 (r_0 + 2) (by omega)).2 (by omega)
       omega)
    | (have q1 := (hE_0_2_1 (r_0 + 1) (by omega)).2 (by omega)
       have q2 := (hE_0_2_2 (r_0 + 1) (by omega)).2 (by omega)
       omega)
    | (have q1 := (hE_0_2_1 (r_0 + 2) (by omega)).2 (by omega)
       omega)
    | (have q1 := (hE_0_2_1 (r_0 + 1) (by omega)).2 (by omega)
       omega)
    | (have q1 := (hE_0_2_1 (r_0 + 2) (by omega)).2 (by omega)
       have q2 := (hE_0_2_2 (r_0 + 2) (by omega)).2 (by omega)
       have q3 := (hE_0_2_3 (r_0 + 2) (by omega)).1 (by omega)
       omega)
    | (have q1 := (hE_0_2_1 (r_0 + 2) (by omega)).2 (by omega)
       have q2 := (hE_0_2_2 (r_0 + 2) (by omega)).2 (by omega)
       have q3 := (hE_0_2_3 (r_0 + 2) (by omega)).2 (by omega)
       omega)
set_option maxHeartbeats 4000000 in
theorem vc_Mo_edgeItem_31_13 (all_0 : Int → Int) (r_0 : Int) (now_0 : Int → Int) (latest_0 : Int → Int) (f8 : RWS (r_0) (all_0) (now_0) (latest_0)) : RWS (r_0) (all_0) (now_0) (latest_0) := by
  first
    | assumption
set_option maxHeartbeats 4000000 in
theorem vc_Mo_edgeItem_31_14 (x6 : Int) (all_0 : Int → Int) (fault_0 : Int) (r_0 : Int) (k6 : (-1) ≤ x6 ∧ x6 ≤ 23) (f5 : fault_0 = 0) (f9 : EDI (r_0) (fault_0) (all_0) (x6)) (kz_0_8 : 0 ≤ fault_0 ∧ fault_0 ≤ 5) : MEB (r_0) (all_0) (x6) := by
  intro q
  exact (‹EDI _ _ _ _› (by omega)).2
set_option maxHeartbeats 4000000 in
theorem vc_Mo_edgeItem_31_15 (x1 : Int) (x2 : Int) (x3 : Int) (x6 : Int) (x7 : Int) (x13 : Int) (x14 : Int) (tape_0 : Int → Int) (all_0 : Int → Int) (limit_0 : Int) (fault_0 : Int) (r_0 : Int) (from_0 : Int) (pos_0 : Int) (kind_0 : Int) (place_0 : Int) (value_0 : Int) (gx : Int) (gy : Int) (gu : Int) (gw : Int) (gc : Int) (k1 : 0 ≤ x1 ∧ x1 ≤ 7) (k2 : 0 ≤ x2 ∧ x2 ≤ 2000) (k3 : 0 ≤ x3 ∧ x3 ≤ 4) (k6 : (-1) ≤ x6 ∧ x6 ≤ 23) (k7 : 0 ≤ x7 ∧ x7 ≤ 48) (k13 : 1 ≤ x13 ∧ x13 ≤ 1) (k14 : 0 ≤ x14 ∧ x14 ≤ 2000) (f2 : zTS4 (limit_0) (fault_0) (r_0) (tape_0) (all_0) (x6) (x7) (x13) (x1) (x3) (x14)) (f15 : TKR (limit_0) (pos_0) (kind_0) (place_0) (value_0) (from_0) (tape_0) (x14)) (kz_0_8 : 0 ≤ fault_0 ∧ fault_0 ≤ 5) (kz_0_10 : 0 ≤ limit_0 ∧ limit_0 ≤ 2000) (kz_0_11 : 0 ≤ pos_0 ∧ pos_0 ≤ 2000) (kz_0_12 : 0 ≤ kind_0 ∧ kind_0 ≤ 4) (kz_0_13 : 0 ≤ place_0 ∧ place_0 ≤ 2000) (kz_0_14 : (-49) ≤ value_0 ∧ value_0 ≤ 1048575) (kz_0_15 : 0 ≤ from_0 ∧ from_0 ≤ 2000) (ex2 : gx = x2) (ey2 : gy = from_0) (eu2 : gu = x3) (ew2 : gw = x7) (ec2 : gc = x13) : zRS4 (limit_0) (pos_0) (kind_0) (place_0) (value_0) (from_0) (fault_0) (r_0) (tape_0) (all_0) (x6) (gw) (gc) (x1) (gu) := by
  first | subst ex2 | skip
  first | subst ey2 | skip
  first | subst eu2 | skip
  first | subst ew2 | skip
  first | subst ec2 | skip
  exact rsq_of ‹zTS4 _ _ _ _ _ _ _ _ _ _ _› ‹TKR _ _ _ _ _ _ _ _›
set_option maxHeartbeats 4000000 in
theorem vc_Mo_edgeItem_31_16 (x6 : Int) (r_0 : Int) (k6 : (-1) ≤ x6 ∧ x6 ≤ 23) (f4 : (-1) * x6 + 0 ≤ 0) : 0 ≤ x6 := by
  first
    | omega
    | (have q1 := (hE_0_2_1 (r_0 + 2) (by omega)).2 (by omega)
       have q2 := (hE_0_2_2 (r_0 + 2) (by omega)).2 (by omega)
       omega)
    | (have q1 := (hE_0_2_1 (r_0 + 1) (by omega)).2 (by omega)
       have q2 := (hE_0_2_2 (r_0 + 1) (by omega)).2 (by omega)
       omega)
    | (have q1 := (hE_0_2_1 (r_0 + 2) (by omega)).2 (by omega)
       omega)
    | (have q1 := (hE_0_2_1 (r_0 + 1) (by omega)).2 (by omega)
       omega)
    | (have q1 := (hE_0_2_1 (r_0 + 2) (by omega)).2 (by omega)
       have q2 := (hE_0_2_2 (r_0 + 2) (by omega)).2 (by omega)
       have q3 := (hE_0_2_3 (r_0 + 2) (by omega)).1 (by omega)
       omega)
    | (have q1 := (hE_0_2_1 (r_0 + 2) (by omega)).2 (by omega)
       have q2 := (hE_0_2_2 (r_0 + 2) (by omega)).2 (by omega)
       have q3 := (hE_0_2_3 (r_0 + 2) (by omega)).2 (by omega)
       omega)
set_option maxHeartbeats 4000000 in
theorem vc_Mo_edgeItem_31_17 (x8 : Int) (x14 : Int) (r_0 : Int) (from_0 : Int) (gy : Int) (k8 : 0 ≤ x8 ∧ x8 ≤ 2000) (k14 : 0 ≤ x14 ∧ x14 ≤ 2000) (f1 : (-1) * x8 + ((-1) * x14 + 0) ≤ (-2000)) (f14 : 1 * x14 + ((-1) * from_0 + 0) ≤ 0) (kz_0_15 : 0 ≤ from_0 ∧ from_0 ≤ 2000) (ey2 : gy = from_0) : (-1) * x8 + ((-1) * gy + 0) ≤ (-2000) := by
  first
    | omega
    | (have q1 := (hE_0_2_1 (r_0 + 2) (by omega)).2 (by omega)
       have q2 := (hE_0_2_2 (r_0 + 2) (by omega)).2 (by omega)
       omega)
    | (have q1 := (hE_0_2_1 (r_0 + 1) (by omega)).2 (by omega)
       have q2 := (hE_0_2_2 (r_0 + 1) (by omega)).2 (by omega)
       omega)
    | (have q1 := (hE_0_2_1 (r_0 + 2) (by omega)).2 (by omega)
       omega)
    | (have q1 := (hE_0_2_1 (r_0 + 1) (by omega)).2 (by omega)
       omega)
    | (have q1 := (hE_0_2_1 (r_0 + 2) (by omega)).2 (by omega)
       have q2 := (hE_0_2_2 (r_0 + 2) (by omega)).2 (by omega)
       have q3 := (hE_0_2_3 (r_0 + 2) (by omega)).1 (by omega)
       omega)
    | (have q1 := (hE_0_2_1 (r_0 + 2) (by omega)).2 (by omega)
       have q2 := (hE_0_2_2 (r_0 + 2) (by omega)).2 (by omega)
       have q3 := (hE_0_2_3 (r_0 + 2) (by omega)).2 (by omega)
       omega)
set_option maxHeartbeats 4000000 in
theorem vc_Mo_edgeItem_31_18 (x2 : Int) (x14 : Int) (r_0 : Int) (from_0 : Int) (gx : Int) (gy : Int) (k2 : 0 ≤ x2 ∧ x2 ≤ 2000) (k14 : 0 ≤ x14 ∧ x14 ≤ 2000) (f0 : 1 * x2 + ((-1) * x14 + 0) ≤ (-1)) (f14 : 1 * x14 + ((-1) * from_0 + 0) ≤ 0) (kz_0_15 : 0 ≤ from_0 ∧ from_0 ≤ 2000) (ex2 : gx = x2) (ey2 : gy = from_0) : 1 * x2 + ((-1) * gy + 0) ≤ (-1) := by
  first
    | omega
    | (have q1 := (hE_0_2_1 (r_0 + 2) (by omega)).2 (by omega)
       have q2 := (hE_0_2_2 (r_0 + 2) (by omega)).2 (by omega)
       omega)
    | (have q1 := (hE_0_2_1 (r_0 + 1) (by omega)).2 (by omega)
       have q2 := (hE_0_2_2 (r_0 + 1) (by omega)).2 (by omega)
       omega)
    | (have q1 := (hE_0_2_1 (r_0 + 2) (by omega)).2 (by omega)
       omega)
    | (have q1 := (hE_0_2_1 (r_0 + 1) (by omega)).2 (by omega)
       omega)
    | (have q1 := (hE_0_2_1 (r_0 + 2) (by omega)).2 (by omega)
       have q2 := (hE_0_2_2 (r_0 + 2) (by omega)).2 (by omega)
       have q3 := (hE_0_2_3 (r_0 + 2) (by omega)).1 (by omega)
       omega)
    | (have q1 := (hE_0_2_1 (r_0 + 2) (by omega)).2 (by omega)
       have q2 := (hE_0_2_2 (r_0 + 2) (by omega)).2 (by omega)
       have q3 := (hE_0_2_3 (r_0 + 2) (by omega)).2 (by omega)
       omega)
def o_Mo_edgeItem_31 : or_T := (87, 15, [(0, (2, 0, 0, [165])), (1, (0, 0, 7, [])), (2, (0, 0, 2000, [])), (3, (0, 0, 4, [])), (4, (2, 0, 0, [165])), (5, (0, 0, 7, [])), (6, (0, -1, 23, [])), (7, (0, 0, 48, [])), (8, (0, 0, 2000, [])), (13, (0, 1, 1, [])), (14, (0, 0, 2000, []))], [(23, [2, 14], [-1, 1, -1]), (23, [8, 14], [-2000, -1, -1]), (20, [4, 6, 7, 13, 5, 3, 14], [60, 3, 2, 973, 10, 8, 5, 1, 2]), (20, [2, 14], [30, 0, 1, 0, 0, -1, 0, 0]), (23, [6], [0, -1]), (20, [4], [50, 1, 0, 8, 1, 3, 2, 0, 8, 0, 0]), (20, [5, 4], [50, 1, 1, 1005, 1002, 0, 6, 4, 2, 1, 0, 0, 1, 3, 1, 2, 4, 3, 2, 1, 5, 0, 2]), (20, [4, 6], [31, 1, -1, -1, 1, 8, 0, -1, 0, 0]), (20, [4], [60, 1, 3, 199, 5, 2, 3, 4]), (20, [4, 6], [60, 2, 1, 242, 5, 8, 2]), (24, [0, 4], []), (24, [1, 5], []), (20, [4, 4], [30, 0, 1, 1, 15, -1, 1, 11]), (20, [4], [50, 3, 0, 12, 11, 15, 2, 21, 4, 7, 1, 3, 2, 0, 12, 0, 1, 0, 3, 2, 0, 11, 4, 3, 2, 0, 15, 0, 8, 3, 7, 1, 3, 2, 0, 12, 0, 0, 0, 7, 4, 3, 2, 0, 15, 0, 1, 2, 0, 11]), (20, [14, 4], [30, 0, 1, 0, 0, -1, 1, 15]), (20, [4, 14], [60, 6, 1, 948, 10, 11, 12, 13, 14, 15, 1]), (102, [14], [0, 165011, 165012, 165013, 165014, 165015]), (23, [2, 14], [-1, 1, -1]), (23, [8, 14], [-2000, -1, -1]), (23, [6], [0, -1])], [], [(0, 0, 2000, []), (0, 0, 2000, []), (0, 0, 4, []), (0, 0, 48, []), (0, 0, 1, [])], [(23, [15, 2], [0, 1, -1]), (23, [15, 2], [0, -1, 1]), (23, [17, 3], [0, 1, -1]), (23, [17, 3], [0, -1, 1]), (23, [18, 7], [0, 1, -1]), (23, [18, 7], [0, -1, 1]), (23, [19, 13], [0, 1, -1]), (23, [19, 13], [0, -1, 1]), (20, [4, 4], [30, 0, 1, 1, 15, -1, 1, 11]), (20, [4], [50, 3, 0, 12, 11, 15, 2, 21, 4, 7, 1, 3, 2, 0, 12, 0, 1, 0, 3, 2, 0, 11, 4, 3, 2, 0, 15, 0, 8, 3, 7, 1, 3, 2, 0, 12, 0, 0, 0, 7, 4, 3, 2, 0, 15, 0, 1, 2, 0, 11]), (20, [15, 4], [30, 0, 1, 0, 0, -1, 1, 11]), (20, [4, 16], [50, 2, 0, 12, 11, 3, 7, 1, 3, 2, 0, 12, 0, 0, 0, 6, 4, 2, 1, 1, 0, 1, 2, 0, 11]), (20, [5, 4], [50, 1, 1, 1005, 1002, 0, 6, 4, 2, 1, 0, 0, 1, 3, 1, 2, 4, 3, 2, 1, 5, 0, 2]), (20, [4], [60, 1, 3, 199, 5, 2, 3, 4]), (20, [4, 6], [60, 1, 1, 241, 5, 2]), (20, [4, 6, 18, 19, 5, 17], [60, 8, 2, 993, 10, 11, 12, 13, 14, 15, 8, 5, 1, 2]), (20, [6], [50, 0, 0, 0, 2, 0, 0, 1, 0]), (23, [8, 16], [-2000, -1, -1]), (23, [2, 16], [-1, 1, -1])], [], [(1, 5, -4294967296, 0), (5, 1, -4294967296, 0)])
theorem oo_Mo_edgeItem_31 {kA : Nat → ClassId} : or_ok PRD kA GG o_Mo_edgeItem_31 := by
  refine or_mk fun A ta ws vs hD hth hl => ?_
  intro t0 r0 t1 k1 t2 k2 t3 k3 t4 r4 t5 k5 t6 k6 t7 k7 t8 k8 t13 k13 t14 k14 d0 d1 f0 f1 f2 f3 f4 f5 f6 f7 f8 f9 f10 f11 f12 f13 f14 f15 ta1 w1 le1 s1 f17 f18 f19
  replace f0 := shm_193 f0
  replace f1 := shm_2009 f1
  replace f2 := shm_2157 f2
  replace f4 := shm_1043 f4
  replace f5 := shm_2156 f5
  replace f6 := shm_1009 f6
  replace f8 := shm_980 f8
  replace f9 := shm_2152 f9
  replace f10 := shm_5 f10
  replace f11 := shm_5 f11
  replace f12 := shm_1437 f12
  replace f13 := shm_1438 f13
  replace f14 := shm_1436 f14
  replace f15 := shm_1439 f15
  have q4 : n_v vs 4 = n_v vs 0 := f10.symm
  have q5 : n_v vs 5 = n_v vs 1 := f11.symm
  simp only [q4, q5] at f2 f5 f6 f8 f9 f12 f13 f14 f15
  have kz_0_8 := fdq_34 hD hth r0
  have kz_0_10 := fdq_43 hD hth r0
  have kz_0_11 := fdq_237 hD hth r0
  have kz_0_12 := fdq_187 hD hth r0
  have kz_0_13 := fdq_238 hD hth r0
  have kz_0_14 := fdq_188 hD hth r0
  have kz_0_15 := fdq_239 hD hth r0
  obtain ⟨x, ex, hx⟩ := iv_ex (ta := ta) (lo := 0) (hi := 2000) (z := v_iv (n_v vs 2)) (by omega) (by omega) (by omega) (by omega)
  have ex2 : v_iv (Value.int x) = v_iv (n_v vs 2) := ex
  have ex3 : 0 ≤ v_iv (Value.int x) ∧ v_iv (Value.int x) ≤ 2000 := tv_rng hx
  obtain ⟨y, ey, hy⟩ := iv_ex (ta := ta) (lo := 0) (hi := 2000) (z := w_fi ws (n_v vs 0) 15) (by omega) (by omega) (by omega) (by omega)
  have ey2 : v_iv (Value.int y) = w_fi ws (n_v vs 0) 15 := ey
  have ey3 : 0 ≤ v_iv (Value.int y) ∧ v_iv (Value.int y) ≤ 2000 := tv_rng hy
  obtain ⟨u, eu, hu⟩ := iv_ex (ta := ta) (lo := 0) (hi := 4) (z := v_iv (n_v vs 3)) (by omega) (by omega) (by omega) (by omega)
  have eu2 : v_iv (Value.int u) = v_iv (n_v vs 3) := eu
  have eu3 : 0 ≤ v_iv (Value.int u) ∧ v_iv (Value.int u) ≤ 4 := tv_rng hu
  obtain ⟨w, ew, hw⟩ := iv_ex (ta := ta) (lo := 0) (hi := 48) (z := v_iv (n_v vs 7)) (by omega) (by omega) (by omega) (by omega)
  have ew2 : v_iv (Value.int w) = v_iv (n_v vs 7) := ew
  have ew3 : 0 ≤ v_iv (Value.int w) ∧ v_iv (Value.int w) ≤ 48 := tv_rng hw
  obtain ⟨c, ec, hc⟩ := iv_ex (ta := ta) (lo := 0) (hi := 1) (z := v_iv (n_v vs 13)) (by omega) (by omega) (by omega) (by omega)
  have ec2 : v_iv (Value.int c) = v_iv (n_v vs 13) := ec
  have ec3 : 0 ≤ v_iv (Value.int c) ∧ v_iv (Value.int c) ≤ 1 := tv_rng hc
  have e_2 : n_v (vs ++ [Value.int x, Value.int y, Value.int u, Value.int w, Value.int c]) 2 = n_v vs 2 := n_v_old (by rw [hl]; decide)
  have e_3 : n_v (vs ++ [Value.int x, Value.int y, Value.int u, Value.int w, Value.int c]) 3 = n_v vs 3 := n_v_old (by rw [hl]; decide)
  have e_4 : n_v (vs ++ [Value.int x, Value.int y, Value.int u, Value.int w, Value.int c]) 4 = n_v vs 4 := n_v_old (by rw [hl]; decide)
  have e_5 : n_v (vs ++ [Value.int x, Value.int y, Value.int u, Value.int w, Value.int c]) 5 = n_v vs 5 := n_v_old (by rw [hl]; decide)
  have e_6 : n_v (vs ++ [Value.int x, Value.int y, Value.int u, Value.int w, Value.int c]) 6 = n_v vs 6 := n_v_old (by rw [hl]; decide)
  have e_7 : n_v (vs ++ [Value.int x, Value.int y, Value.int u, Value.int w, Value.int c]) 7 = n_v vs 7 := n_v_old (by rw [hl]; decide)
  have e_8 : n_v (vs ++ [Value.int x, Value.int y, Value.int u, Value.int w, Value.int c]) 8 = n_v vs 8 := n_v_old (by rw [hl]; decide)
  have e_13 : n_v (vs ++ [Value.int x, Value.int y, Value.int u, Value.int w, Value.int c]) 13 = n_v vs 13 := n_v_old (by rw [hl]; decide)
  have e_15 : n_v (vs ++ [Value.int x, Value.int y, Value.int u, Value.int w, Value.int c]) 15 = Value.int x := n_v_newk (k := 0) hl rfl
  have e_16 : n_v (vs ++ [Value.int x, Value.int y, Value.int u, Value.int w, Value.int c]) 16 = Value.int y := n_v_newk (k := 1) hl rfl
  have e_17 : n_v (vs ++ [Value.int x, Value.int y, Value.int u, Value.int w, Value.int c]) 17 = Value.int u := n_v_newk (k := 2) hl rfl
  have e_18 : n_v (vs ++ [Value.int x, Value.int y, Value.int u, Value.int w, Value.int c]) 18 = Value.int w := n_v_newk (k := 3) hl rfl
  have e_19 : n_v (vs ++ [Value.int x, Value.int y, Value.int u, Value.int w, Value.int c]) 19 = Value.int c := n_v_newk (k := 4) hl rfl
  have nf0 : fc_1 PRD (23, [15, 2], [0, 1, -1]) ws (vs ++ [Value.int x, Value.int y, Value.int u, Value.int w, Value.int c]) := by
    refine ⟨nf_inA hl rfl, sgq_7 ?_⟩
    · show 1 * v_iv (n_v (vs ++ [Value.int x, Value.int y, Value.int u, Value.int w, Value.int c]) 15) + ((-1) * v_iv (n_v (vs ++ [Value.int x, Value.int y, Value.int u, Value.int w, Value.int c]) 2) + 0) ≤ 0
      simp only [e_2, e_15]
      exact vc_Mo_edgeItem_31_0 (v_iv (n_v vs 2)) (w_fi ws (n_v vs 0) 5) (v_iv (Value.int x)) k2 ex2
  have nf1 : fc_1 PRD (23, [15, 2], [0, -1, 1]) ws (vs ++ [Value.int x, Value.int y, Value.int u, Value.int w, Value.int c]) := by
    refine ⟨nf_inA hl rfl, sgq_22 ?_⟩
    · show (-1) * v_iv (n_v (vs ++ [Value.int x, Value.int y, Value.int u, Value.int w, Value.int c]) 15) + (1 * v_iv (n_v (vs ++ [Value.int x, Value.int y, Value.int u, Value.int w, Value.int c]) 2) + 0) ≤ 0
      simp only [e_2, e_15]
      exact vc_Mo_edgeItem_31_1 (v_iv (n_v vs 2)) (w_fi ws (n_v vs 0) 5) (v_iv (Value.int x)) k2 ex2
  have nf2 : fc_1 PRD (23, [17, 3], [0, 1, -1]) ws (vs ++ [Value.int x, Value.int y, Value.int u, Value.int w, Value.int c]) := by
    refine ⟨nf_inA hl rfl, sgq_7 ?_⟩
    · show 1 * v_iv (n_v (vs ++ [Value.int x, Value.int y, Value.int u, Value.int w, Value.int c]) 17) + ((-1) * v_iv (n_v (vs ++ [Value.int x, Value.int y, Value.int u, Value.int w, Value.int c]) 3) + 0) ≤ 0
      simp only [e_3, e_17]
      exact vc_Mo_edgeItem_31_2 (v_iv (n_v vs 3)) (w_fi ws (n_v vs 0) 5) (v_iv (Value.int u)) k3 eu2
  have nf3 : fc_1 PRD (23, [17, 3], [0, -1, 1]) ws (vs ++ [Value.int x, Value.int y, Value.int u, Value.int w, Value.int c]) := by
    refine ⟨nf_inA hl rfl, sgq_22 ?_⟩
    · show (-1) * v_iv (n_v (vs ++ [Value.int x, Value.int y, Value.int u, Value.int w, Value.int c]) 17) + (1 * v_iv (n_v (vs ++ [Value.int x, Value.int y, Value.int u, Value.int w, Value.int c]) 3) + 0) ≤ 0
      simp only [e_3, e_17]
      exact vc_Mo_edgeItem_31_3 (v_iv (n_v vs 3)) (w_fi ws (n_v vs 0) 5) (v_iv (Value.int u)) k3 eu2
  have nf4 : fc_1 PRD (23, [18, 7], [0, 1, -1]) ws (vs ++ [Value.int x, Value.int y, Value.int u, Value.int w, Value.int c]) := by
    refine ⟨nf_inA hl rfl, sgq_7 ?_⟩
    · show 1 * v_iv (n_v (vs ++ [Value.int x, Value.int y, Value.int u, Value.int w, Value.int c]) 18) + ((-1) * v_iv (n_v (vs ++ [Value.int x, Value.int y, Value.int u, Value.int w, Value.int c]) 7) + 0) ≤ 0
      simp only [e_7, e_18]
      exact vc_Mo_edgeItem_31_4 (v_iv (n_v vs 7)) (w_fi ws (n_v vs 0) 5) (v_iv (Value.int w)) k7 ew2
  have nf5 : fc_1 PRD (23, [18, 7], [0, -1, 1]) ws (vs ++ [Value.int x, Value.int y, Value.int u, Value.int w, Value.int c]) := by
    refine ⟨nf_inA hl rfl, sgq_22 ?_⟩
    · show (-1) * v_iv (n_v (vs ++ [Value.int x, Value.int y, Value.int u, Value.int w, Value.int c]) 18) + (1 * v_iv (n_v (vs ++ [Value.int x, Value.int y, Value.int u, Value.int w, Value.int c]) 7) + 0) ≤ 0
      simp only [e_7, e_18]
      exact vc_Mo_edgeItem_31_5 (v_iv (n_v vs 7)) (w_fi ws (n_v vs 0) 5) (v_iv (Value.int w)) k7 ew2
  have nf6 : fc_1 PRD (23, [19, 13], [0, 1, -1]) ws (vs ++ [Value.int x, Value.int y, Value.int u, Value.int w, Value.int c]) := by
    refine ⟨nf_inA hl rfl, sgq_7 ?_⟩
    · show 1 * v_iv (n_v (vs ++ [Value.int x, Value.int y, Value.int u, Value.int w, Value.int c]) 19) + ((-1) * v_iv (n_v (vs ++ [Value.int x, Value.int y, Value.int u, Value.int w, Value.int c]) 13) + 0) ≤ 0
      simp only [e_13, e_19]
      exact vc_Mo_edgeItem_31_6 (v_iv (n_v vs 13)) (w_fi ws (n_v vs 0) 5) (v_iv (Value.int c)) k13 ec2
  have nf7 : fc_1 PRD (23, [19, 13], [0, -1, 1]) ws (vs ++ [Value.int x, Value.int y, Value.int u, Value.int w, Value.int c]) := by
    refine ⟨nf_inA hl rfl, sgq_22 ?_⟩
    · show (-1) * v_iv (n_v (vs ++ [Value.int x, Value.int y, Value.int u, Value.int w, Value.int c]) 19) + (1 * v_iv (n_v (vs ++ [Value.int x, Value.int y, Value.int u, Value.int w, Value.int c]) 13) + 0) ≤ 0
      simp only [e_13, e_19]
      exact vc_Mo_edgeItem_31_7 (v_iv (n_v vs 13)) (w_fi ws (n_v vs 0) 5) (v_iv (Value.int c)) k13 ec2
  have nf8 : fc_1 PRD (20, [4, 4], [30, 0, 1, 1, 15, -1, 1, 11]) ws (vs ++ [Value.int x, Value.int y, Value.int u, Value.int w, Value.int c]) := by
    refine ⟨nf_inA hl rfl, sgq_1437 ?_⟩
    · show 1 * w_fi ws (n_v (vs ++ [Value.int x, Value.int y, Value.int u, Value.int w, Value.int c]) 4) 15 + ((-1) * w_fi ws (n_v (vs ++ [Value.int x, Value.int y, Value.int u, Value.int w, Value.int c]) 4) 11 + 0) ≤ 0
      simp only [e_4, q4]
      exact vc_Mo_edgeItem_31_8 (w_fi ws (n_v vs 0) 5) (w_fi ws (n_v vs 0) 15) (w_fi ws (n_v vs 0) 11) f12 kz_0_11 kz_0_15
  have nf9 : fc_1 PRD (20, [4], [50, 3, 0, 12, 11, 15, 2, 21, 4, 7, 1, 3, 2, 0, 12, 0, 1, 0, 3, 2, 0, 11, 4, 3, 2, 0, 15, 0, 8, 3, 7, 1, 3, 2, 0, 12, 0, 0, 0, 7, 4, 3, 2, 0, 15, 0, 1, 2, 0, 11]) ws (vs ++ [Value.int x, Value.int y, Value.int u, Value.int w, Value.int c]) := by
    refine ⟨nf_inA hl rfl, sgq_1438 ?_⟩
    · show ((w_fi ws (n_v (vs ++ [Value.int x, Value.int y, Value.int u, Value.int w, Value.int c]) 4) 12 = 1) → (w_fi ws (n_v (vs ++ [Value.int x, Value.int y, Value.int u, Value.int w, Value.int c]) 4) 11 ≤ (w_fi ws (n_v (vs ++ [Value.int x, Value.int y, Value.int u, Value.int w, Value.int c]) 4) 15 + 8))) ∧ ((w_fi ws (n_v (vs ++ [Value.int x, Value.int y, Value.int u, Value.int w, Value.int c]) 4) 12 = 0) ∨ ((w_fi ws (n_v (vs ++ [Value.int x, Value.int y, Value.int u, Value.int w, Value.int c]) 4) 15 + 1) ≤ w_fi ws (n_v (vs ++ [Value.int x, Value.int y, Value.int u, Value.int w, Value.int c]) 4) 11))
      simp only [e_4, q4]
      exact vc_Mo_edgeItem_31_9 (w_fi ws (n_v vs 0) 5) (w_fi ws (n_v vs 0) 15) (w_fi ws (n_v vs 0) 11) (w_fi ws (n_v vs 0) 12) f13 kz_0_11 kz_0_12 kz_0_15
  have nf10 : fc_1 PRD (20, [15, 4], [30, 0, 1, 0, 0, -1, 1, 11]) ws (vs ++ [Value.int x, Value.int y, Value.int u, Value.int w, Value.int c]) := by
    refine ⟨nf_inA hl rfl, sgq_1431 ?_⟩
    · show 1 * v_iv (n_v (vs ++ [Value.int x, Value.int y, Value.int u, Value.int w, Value.int c]) 15) + ((-1) * w_fi ws (n_v (vs ++ [Value.int x, Value.int y, Value.int u, Value.int w, Value.int c]) 4) 11 + 0) ≤ 0
      simp only [e_4, e_15, q4]
      exact vc_Mo_edgeItem_31_10 (v_iv (n_v vs 2)) (v_iv (n_v vs 14)) (w_fi ws (n_v vs 0) 5) (w_fi ws (n_v vs 0) 15) (w_fi ws (n_v vs 0) 11) (v_iv (Value.int x)) (v_iv (Value.int y)) k2 k14 f0 f12 f14 kz_0_11 kz_0_15 ex2 ey2
  have nf11 : fc_1 PRD (20, [4, 16], [50, 2, 0, 12, 11, 3, 7, 1, 3, 2, 0, 12, 0, 0, 0, 6, 4, 2, 1, 1, 0, 1, 2, 0, 11]) ws (vs ++ [Value.int x, Value.int y, Value.int u, Value.int w, Value.int c]) := by
    refine ⟨nf_inA hl rfl, sgq_2111 ?_⟩
    · show (w_fi ws (n_v (vs ++ [Value.int x, Value.int y, Value.int u, Value.int w, Value.int c]) 4) 12 = 0) ∨ ((v_iv (n_v (vs ++ [Value.int x, Value.int y, Value.int u, Value.int w, Value.int c]) 16) + 1) ≤ w_fi ws (n_v (vs ++ [Value.int x, Value.int y, Value.int u, Value.int w, Value.int c]) 4) 11)
      simp only [e_4, e_16, q4]
      exact vc_Mo_edgeItem_31_11 (w_fi ws (n_v vs 0) 5) (w_fi ws (n_v vs 0) 15) (w_fi ws (n_v vs 0) 11) (w_fi ws (n_v vs 0) 12) (v_iv (Value.int y)) f12 f13 kz_0_11 kz_0_12 kz_0_15 ey2
  have nf12 : fc_1 PRD (20, [5, 4], [50, 1, 1, 1005, 1002, 0, 6, 4, 2, 1, 0, 0, 1, 3, 1, 2, 4, 3, 2, 1, 5, 0, 2]) ws (vs ++ [Value.int x, Value.int y, Value.int u, Value.int w, Value.int c]) := by
    refine ⟨nf_inA hl rfl, sgq_1009 ?_⟩
    · show (v_iv (n_v (vs ++ [Value.int x, Value.int y, Value.int u, Value.int w, Value.int c]) 5) + 1) ≤ w_ei ws (w_ar ws (n_v (vs ++ [Value.int x, Value.int y, Value.int u, Value.int w, Value.int c]) 4) 2) ((w_fi ws (n_v (vs ++ [Value.int x, Value.int y, Value.int u, Value.int w, Value.int c]) 4) 5 + 2))
      simp only [e_4, e_5, q4, q5]
      exact vc_Mo_edgeItem_31_12 (v_iv (n_v vs 1)) (w_ei ws (w_ar ws (n_v vs 0) 2)) (w_fi ws (n_v vs 0) 5) k1 f6
  have nf13 : fc_1 PRD (20, [4], [60, 1, 3, 199, 5, 2, 3, 4]) ws (vs ++ [Value.int x, Value.int y, Value.int u, Value.int w, Value.int c]) := by
    refine ⟨nf_inA hl rfl, sgq_980 ?_⟩
    · show RWS (w_fi ws (n_v (vs ++ [Value.int x, Value.int y, Value.int u, Value.int w, Value.int c]) 4) 5) (w_ei ws (w_ar ws (n_v (vs ++ [Value.int x, Value.int y, Value.int u, Value.int w, Value.int c]) 4) 2)) (w_ei ws (w_ar ws (n_v (vs ++ [Value.int x, Value.int y, Value.int u, Value.int w, Value.int c]) 4) 3)) (w_ei ws (w_ar ws (n_v (vs ++ [Value.int x, Value.int y, Value.int u, Value.int w, Value.int c]) 4) 4))
      simp only [e_4, q4]
      exact vc_Mo_edgeItem_31_13 (w_ei ws (w_ar ws (n_v vs 0) 2)) (w_fi ws (n_v vs 0) 5) (w_ei ws (w_ar ws (n_v vs 0) 3)) (w_ei ws (w_ar ws (n_v vs 0) 4)) f8
  have nf14 : fc_1 PRD (20, [4, 6], [60, 1, 1, 241, 5, 2]) ws (vs ++ [Value.int x, Value.int y, Value.int u, Value.int w, Value.int c]) := by
    refine ⟨nf_inA hl rfl, sgq_2112 ?_⟩
    · show MEB (w_fi ws (n_v (vs ++ [Value.int x, Value.int y, Value.int u, Value.int w, Value.int c]) 4) 5) (w_ei ws (w_ar ws (n_v (vs ++ [Value.int x, Value.int y, Value.int u, Value.int w, Value.int c]) 4) 2)) (v_iv (n_v (vs ++ [Value.int x, Value.int y, Value.int u, Value.int w, Value.int c]) 6))
      simp only [e_4, e_6, q4]
      exact vc_Mo_edgeItem_31_14 (v_iv (n_v vs 6)) (w_ei ws (w_ar ws (n_v vs 0) 2)) (w_fi ws (n_v vs 0) 8) (w_fi ws (n_v vs 0) 5) k6 f5 f9 kz_0_8
  have nf15 : fc_1 PRD (20, [4, 6, 18, 19, 5, 17], [60, 8, 2, 993, 10, 11, 12, 13, 14, 15, 8, 5, 1, 2]) ws (vs ++ [Value.int x, Value.int y, Value.int u, Value.int w, Value.int c]) := by
    refine ⟨nf_inA hl rfl, sgq_2126 ?_⟩
    · show zRS4 (w_fi ws (n_v (vs ++ [Value.int x, Value.int y, Value.int u, Value.int w, Value.int c]) 4) 10) (w_fi ws (n_v (vs ++ [Value.int x, Value.int y, Value.int u, Value.int w, Value.int c]) 4) 11) (w_fi ws (n_v (vs ++ [Value.int x, Value.int y, Value.int u, Value.int w, Value.int c]) 4) 12) (w_fi ws (n_v (vs ++ [Value.int x, Value.int y, Value.int u, Value.int w, Value.int c]) 4) 13) (w_fi ws (n_v (vs ++ [Value.int x, Value.int y, Value.int u, Value.int w, Value.int c]) 4) 14) (w_fi ws (n_v (vs ++ [Value.int x, Value.int y, Value.int u, Value.int w, Value.int c]) 4) 15) (w_fi ws (n_v (vs ++ [Value.int x, Value.int y, Value.int u, Value.int w, Value.int c]) 4) 8) (w_fi ws (n_v (vs ++ [Value.int x, Value.int y, Value.int u, Value.int w, Value.int c]) 4) 5) (w_ei ws (w_ar ws (n_v (vs ++ [Value.int x, Value.int y, Value.int u, Value.int w, Value.int c]) 4) 1)) (w_ei ws (w_ar ws (n_v (vs ++ [Value.int x, Value.int y, Value.int u, Value.int w, Value.int c]) 4) 2)) (v_iv (n_v (vs ++ [Value.int x, Value.int y, Value.int u, Value.int w, Value.int c]) 6)) (v_iv (n_v (vs ++ [Value.int x, Value.int y, Value.int u, Value.int w, Value.int c]) 18)) (v_iv (n_v (vs ++ [Value.int x, Value.int y, Value.int u, Value.int w, Value.int c]) 19)) (v_iv (n_v (vs ++ [Value.int x, Value.int y, Value.int u, Value.int w, Value.int c]) 5)) (v_iv (n_v (vs ++ [Value.int x, Value.int y, Value.int u, Value.int w, Value.int c]) 17))
      simp only [e_4, e_5, e_6, e_17, e_18, e_19, q4, q5]
      exact vc_Mo_edgeItem_31_15 (v_iv (n_v vs 1)) (v_iv (n_v vs 2)) (v_iv (n_v vs 3)) (v_iv (n_v vs 6)) (v_iv (n_v vs 7)) (v_iv (n_v vs 13)) (v_iv (n_v vs 14)) (w_ei ws (w_ar ws (n_v vs 0) 1)) (w_ei ws (w_ar ws (n_v vs 0) 2)) (w_fi ws (n_v vs 0) 10) (w_fi ws (n_v vs 0) 8) (w_fi ws (n_v vs 0) 5) (w_fi ws (n_v vs 0) 15) (w_fi ws (n_v vs 0) 11) (w_fi ws (n_v vs 0) 12) (w_fi ws (n_v vs 0) 13) (w_fi ws (n_v vs 0) 14) (v_iv (Value.int x)) (v_iv (Value.int y)) (v_iv (Value.int u)) (v_iv (Value.int w)) (v_iv (Value.int c)) k1 k2 k3 k6 k7 k13 k14 f2 f15 kz_0_8 kz_0_10 kz_0_11 kz_0_12 kz_0_13 kz_0_14 kz_0_15 ex2 ey2 eu2 ew2 ec2
  have nf16 : fc_1 PRD (20, [6], [50, 0, 0, 0, 2, 0, 0, 1, 0]) ws (vs ++ [Value.int x, Value.int y, Value.int u, Value.int w, Value.int c]) := by
    refine ⟨nf_inA hl rfl, sgq_722 ?_⟩
    · show 0 ≤ v_iv (n_v (vs ++ [Value.int x, Value.int y, Value.int u, Value.int w, Value.int c]) 6)
      rw [e_6]
      exact vc_Mo_edgeItem_31_16 (v_iv (n_v vs 6)) (w_fi ws (n_v vs 0) 5) k6 f4
  have nf17 : fc_1 PRD (23, [8, 16], [-2000, -1, -1]) ws (vs ++ [Value.int x, Value.int y, Value.int u, Value.int w, Value.int c]) := by
    refine ⟨nf_inA hl rfl, sgq_2009 ?_⟩
    · show (-1) * v_iv (n_v (vs ++ [Value.int x, Value.int y, Value.int u, Value.int w, Value.int c]) 8) + ((-1) * v_iv (n_v (vs ++ [Value.int x, Value.int y, Value.int u, Value.int w, Value.int c]) 16) + 0) ≤ (-2000)
      simp only [e_8, e_16]
      exact vc_Mo_edgeItem_31_17 (v_iv (n_v vs 8)) (v_iv (n_v vs 14)) (w_fi ws (n_v vs 0) 5) (w_fi ws (n_v vs 0) 15) (v_iv (Value.int y)) k8 k14 f1 f14 kz_0_15 ey2
  have nf18 : fc_1 PRD (23, [2, 16], [-1, 1, -1]) ws (vs ++ [Value.int x, Value.int y, Value.int u, Value.int w, Value.int c]) := by
    refine ⟨nf_inA hl rfl, sgq_193 ?_⟩
    · show 1 * v_iv (n_v (vs ++ [Value.int x, Value.int y, Value.int u, Value.int w, Value.int c]) 2) + ((-1) * v_iv (n_v (vs ++ [Value.int x, Value.int y, Value.int u, Value.int w, Value.int c]) 16) + 0) ≤ (-1)
      simp only [e_2, e_16]
      exact vc_Mo_edgeItem_31_18 (v_iv (n_v vs 2)) (v_iv (n_v vs 14)) (w_fi ws (n_v vs 0) 5) (w_fi ws (n_v vs 0) 15) (v_iv (Value.int x)) (v_iv (Value.int y)) k2 k14 f0 f14 kz_0_15 ex2 ey2
  exact ⟨(fun _ h => (by cases h)), [Value.int x, Value.int y, Value.int u, Value.int w, Value.int c], ag_five hx hy hu hw hc, List.forall_mem_cons.mpr ⟨⟨show (23 : Nat) < 100 from by decide, nf0⟩, List.forall_mem_cons.mpr ⟨⟨show (23 : Nat) < 100 from by decide, nf1⟩, List.forall_mem_cons.mpr ⟨⟨show (23 : Nat) < 100 from by decide, nf2⟩, List.forall_mem_cons.mpr ⟨⟨show (23 : Nat) < 100 from by decide, nf3⟩, List.forall_mem_cons.mpr ⟨⟨show (23 : Nat) < 100 from by decide, nf4⟩, List.forall_mem_cons.mpr ⟨⟨show (23 : Nat) < 100 from by decide, nf5⟩, List.forall_mem_cons.mpr ⟨⟨show (23 : Nat) < 100 from by decide, nf6⟩, List.forall_mem_cons.mpr ⟨⟨show (23 : Nat) < 100 from by decide, nf7⟩, List.forall_mem_cons.mpr ⟨⟨show (20 : Nat) < 100 from by decide, nf8⟩, List.forall_mem_cons.mpr ⟨⟨show (20 : Nat) < 100 from by decide, nf9⟩, List.forall_mem_cons.mpr ⟨⟨show (20 : Nat) < 100 from by decide, nf10⟩, List.forall_mem_cons.mpr ⟨⟨show (20 : Nat) < 100 from by decide, nf11⟩, List.forall_mem_cons.mpr ⟨⟨show (20 : Nat) < 100 from by decide, nf12⟩, List.forall_mem_cons.mpr ⟨⟨show (20 : Nat) < 100 from by decide, nf13⟩, List.forall_mem_cons.mpr ⟨⟨show (20 : Nat) < 100 from by decide, nf14⟩, List.forall_mem_cons.mpr ⟨⟨show (20 : Nat) < 100 from by decide, nf15⟩, List.forall_mem_cons.mpr ⟨⟨show (20 : Nat) < 100 from by decide, nf16⟩, List.forall_mem_cons.mpr ⟨⟨show (23 : Nat) < 100 from by decide, nf17⟩, List.forall_mem_cons.mpr ⟨⟨show (23 : Nat) < 100 from by decide, nf18⟩, (fun _ h => (by cases h))⟩⟩⟩⟩⟩⟩⟩⟩⟩⟩⟩⟩⟩⟩⟩⟩⟩⟩⟩, (fun _ h => (by cases h))⟩
set_option maxHeartbeats 4000000 in
theorem vc_Mo_edgeItem_32_0 (x6 : Int) (x20 : Int) (x21 : Int) (fault_0 : Int) (all_0 : Int → Int) (r_0 : Int) (k6 : (-1) ≤ x6 ∧ x6 ≤ 23) (k20 : (-1) ≤ x20 ∧ x20 ≤ 23) (k21 : 0 ≤ x21 ∧ x21 ≤ 0) (g1 : x21 = fault_0) (f10 : 0 ≤ x6) (f24 : ((-1) * fault_0 + 0 ≤ (-1)) ∨ ((-1) * x20 + 0 ≤ 0)) (f25 : (1 ≤ fault_0) ∨ ((x6 ≤ (-1)) ∨ (all_0 ((r_0 + 1)) ≤ 47))) (kz_0_8 : 0 ≤ fault_0 ∧ fault_0 ≤ 5) : (-1) * x20 + 0 ≤ 0 := by
  first
    | omega
    | (have q1 := (hE_0_2_1 (r_0 + 2) (by omega)).2 (by omega)
       have q2 := (hE_0_2_2 (r_0 + 2) (by omega)).2 (by omega)
       omega)
    | (have q1 := (hE_0_2_1 (r_0 + 1) (by omega)).2 (by omega)
       have q2 := (hE_0_2_2 (r_0 + 1) (by omega)).2 (by omega)
       omega)
    | (have q1 := (hE_0_2_1 (r_0 + 2) (by omega)).2 (by omega)
       omega)
    | (have q1 := (hE_0_2_1 (r_0 + 1) (by omega)).2 (by omega)
       omega)
    | (have q1 := (hE_0_2_1 (r_0 + 2) (by omega)).2 (by omega)
       have q2 := (hE_0_2_2 (r_0 + 2) (by omega)).2 (by omega)
       have q3 := (hE_0_2_3 (r_0 + 2) (by omega)).1 (by omega)
       omega)
    | (have q1 := (hE_0_2_1 (r_0 + 2) (by omega)).2 (by omega)
       have q2 := (hE_0_2_2 (r_0 + 2) (by omega)).2 (by omega)
       have q3 := (hE_0_2_3 (r_0 + 2) (by omega)).2 (by omega)
       omega)
def o_Mo_edgeItem_32 : or_T := (100, 22, [(0, (2, 0, 0, [165])), (1, (0, 0, 7, [])), (2, (0, 0, 2000, [])), (3, (0, 0, 4, [])), (4, (2, 0, 0, [165])), (5, (0, 0, 7, [])), (6, (0, -1, 23, [])), (7, (0, 0, 48, [])), (8, (0, 0, 2000, [])), (13, (0, 1, 1, [])), (14, (0, 0, 2000, [])), (15, (0, 0, 2000, [])), (16, (0, 0, 2000, [])), (17, (0, 0, 4, [])), (18, (0, 0, 48, [])), (19, (0, 0, 1, [])), (20, (0, -1, 23, [])), (21, (0, 0, 0, []))], [(8, [21], [5]), (9, [21, 4], [8]), (23, [15, 2], [0, 1, -1]), (23, [15, 2], [0, -1, 1]), (23, [17, 3], [0, 1, -1]), (23, [17, 3], [0, -1, 1]), (23, [18, 7], [0, 1, -1]), (23, [18, 7], [0, -1, 1]), (23, [19, 13], [0, 1, -1]), (23, [19, 13], [0, -1, 1]), (20, [6], [50, 0, 0, 0, 2, 0, 0, 1, 0]), (23, [8, 16], [-2000, -1, -1]), (23, [2, 16], [-1, 1, -1]), (23, [2, 14], [-1, 1, -1]), (23, [8, 14], [-2000, -1, -1]), (20, [2, 14], [30, 0, 1, 0, 0, -1, 0, 0]), (23, [6], [0, -1]), (24, [0, 4], []), (24, [1, 5], []), (20, [4, 4], [30, 0, 1, 1, 15, -1, 1, 11]), (20, [4], [50, 3, 0, 12, 11, 15, 2, 21, 4, 7, 1, 3, 2, 0, 12, 0, 1, 0, 3, 2, 0, 11, 4, 3, 2, 0, 15, 0, 8, 3, 7, 1, 3, 2, 0, 12, 0, 0, 0, 7, 4, 3, 2, 0, 15, 0, 1, 2, 0, 11]), (20, [15, 4], [30, 0, 1, 0, 0, -1, 1, 11]), (20, [4, 15], [50, 3, 0, 8, 12, 11, 3, 7, 0, 2, 0, 1, 2, 0, 8, 3, 7, 1, 3, 2, 0, 12, 0, 0, 0, 6, 4, 2, 1, 1, 0, 1, 2, 0, 11]), (20, [4, 16], [50, 2, 0, 8, 11, 3, 7, 0, 2, 0, 1, 2, 0, 8, 0, 6, 4, 2, 1, 1, 0, 1, 2, 0, 11]), (20, [4, 20], [31, 1, -1, -1, 1, 8, 0, -1, 0, 0]), (20, [4, 6], [50, 2, 1, 8, 5, 2, 3, 7, 0, 2, 0, 1, 2, 0, 8, 3, 6, 0, 2, 1, 1, 0, -1, 0, 10, 3, 0, 2, 4, 3, 2, 0, 5, 0, 1, 0, 47]), (20, [5, 4], [50, 1, 1, 1005, 1002, 0, 6, 4, 2, 1, 0, 0, 1, 3, 1, 2, 4, 3, 2, 1, 5, 0, 2]), (20, [4], [60, 1, 3, 199, 5, 2, 3, 4]), (20, [4, 6, 20], [60, 2, 1, 240, 5, 8, 2]), (20, [4, 20, 18, 6, 19, 5, 17], [60, 9, 2, 1011, 10, 11, 12, 13, 14, 15, 8, 9, 5, 1, 2]), (102, [19], [187072209578355573530071658587684226515959365500928, 165008, 165009, 165011, 165012, 165013, 165014, 165015]), (23, [15, 2], [0, 1, -1]), (23, [15, 2], [0, -1, 1]), (23, [17, 3], [0, 1, -1]), (23, [17, 3], [0, -1, 1]), (23, [18, 7], [0, 1, -1]), (23, [18, 7], [0, -1, 1]), (23, [19, 13], [0, 1, -1]), (23, [19, 13], [0, -1, 1]), (23, [8, 16], [-2000, -1, -1]), (23, [2, 16], [-1, 1, -1]), (23, [2, 14], [-1, 1, -1]), (23, [8, 14], [-2000, -1, -1]), (23, [6], [0, -1]), (102, [14], [0, 165011, 165012, 165013, 165014, 165015]), (23, [2, 14], [-1, 1, -1]), (23, [8, 14], [-2000, -1, -1]), (23, [6], [0, -1])], [], [], [(23, [20], [0, -1])], [], [(1, 5, -4294967296, 0), (5, 1, -4294967296, 0)])
theorem oo_Mo_edgeItem_32 {kA : Nat → ClassId} : or_ok PRD kA GG o_Mo_edgeItem_32 := by
  refine or_mk fun A ta ws vs hD hth hl => ?_
  intro t0 r0 t1 k1 t2 k2 t3 k3 t4 r4 t5 k5 t6 k6 t7 k7 t8 k8 t13 k13 t14 k14 t15 k15 t16 k16 t17 k17 t18 k18 t19 k19 t20 k20 t21 k21 d0 d1 f0 f1 f2 f3 f4 f5 f6 f7 f8 f9 f10 f11 f12 f13 f14 f15 f16 f17 f18 f19 f20 f21 f22 f23 f24 f25 f26 f27 f28 f29 ta1 w1 le1 s1 f31 f32 f33 f34 f35 f36 f37 f38 f39 f40 f41 f42 f43 ta2 w2 le2 s2 f45 f46 f47
  replace f1 := shm_293 f1
  replace f17 := shm_5 f17
  replace f24 := shm_2117 f24
  replace f25 := shm_2118 f25
  have q4 : n_v vs 4 = n_v vs 0 := f17.symm
  simp only [q4] at f1 f24 f25
  have g1 : v_iv (n_v vs 21) = w_fi ws (n_v vs 0) 8 := congrArg v_iv f1
  have kz_0_8 := fdq_34 hD hth r0
  have nf0 : fc_1 PRD (23, [20], [0, -1]) ws (vs) := ⟨nf_in hl rfl, sgq_1043 (vc_Mo_edgeItem_32_0 (v_iv (n_v vs 6)) (v_iv (n_v vs 20)) (v_iv (n_v vs 21)) (w_fi ws (n_v vs 0) 8) (w_ei ws (w_ar ws (n_v vs 0) 2)) (w_fi ws (n_v vs 0) 5) k6 k20 k21 g1 (shm_722 f10) f24 f25 kz_0_8)⟩
  refine ⟨(fun _ h => (by cases h)), [], trivial, ?_, (fun _ h => (by cases h))⟩
  rw [List.append_nil]
  exact List.forall_mem_cons.mpr ⟨⟨show (23 : Nat) < 100 from by decide, nf0⟩, (fun _ h => (by cases h))⟩
set_option maxHeartbeats 4000000 in
theorem vc_Mo_edgeItem_33_r0 (x20 : Int) (r_0 : Int) (k20 : (-1) ≤ x20 ∧ x20 ≤ 23) (f0 : (-1) * x20 + 0 ≤ 0) : 0 ≤ x20 ∧ x20 ≤ 23 := by
  first
    | omega
    | (have q1 := (hE_0_2_1 (r_0 + 2) (by omega)).2 (by omega)
       have q2 := (hE_0_2_2 (r_0 + 2) (by omega)).2 (by omega)
       omega)
    | (have q1 := (hE_0_2_1 (r_0 + 1) (by omega)).2 (by omega)
       have q2 := (hE_0_2_2 (r_0 + 1) (by omega)).2 (by omega)
       omega)
    | (have q1 := (hE_0_2_1 (r_0 + 2) (by omega)).2 (by omega)
       omega)
    | (have q1 := (hE_0_2_1 (r_0 + 1) (by omega)).2 (by omega)
       omega)
    | (have q1 := (hE_0_2_1 (r_0 + 2) (by omega)).2 (by omega)
       have q2 := (hE_0_2_2 (r_0 + 2) (by omega)).2 (by omega)
       have q3 := (hE_0_2_3 (r_0 + 2) (by omega)).1 (by omega)
       omega)
    | (have q1 := (hE_0_2_1 (r_0 + 2) (by omega)).2 (by omega)
       have q2 := (hE_0_2_2 (r_0 + 2) (by omega)).2 (by omega)
       have q3 := (hE_0_2_3 (r_0 + 2) (by omega)).2 (by omega)
       omega)
set_option maxHeartbeats 4000000 in
theorem vc_Mo_edgeItem_33_r1 (x6 : Int) (r_0 : Int) (k6 : (-1) ≤ x6 ∧ x6 ≤ 23) (f11 : 0 ≤ x6) : 0 ≤ x6 ∧ x6 ≤ 23 := by
  first
    | omega
    | (have q1 := (hE_0_2_1 (r_0 + 2) (by omega)).2 (by omega)
       have q2 := (hE_0_2_2 (r_0 + 2) (by omega)).2 (by omega)
       omega)
    | (have q1 := (hE_0_2_1 (r_0 + 1) (by omega)).2 (by omega)
       have q2 := (hE_0_2_2 (r_0 + 1) (by omega)).2 (by omega)
       omega)
    | (have q1 := (hE_0_2_1 (r_0 + 2) (by omega)).2 (by omega)
       omega)
    | (have q1 := (hE_0_2_1 (r_0 + 1) (by omega)).2 (by omega)
       omega)
    | (have q1 := (hE_0_2_1 (r_0 + 2) (by omega)).2 (by omega)
       have q2 := (hE_0_2_2 (r_0 + 2) (by omega)).2 (by omega)
       have q3 := (hE_0_2_3 (r_0 + 2) (by omega)).1 (by omega)
       omega)
    | (have q1 := (hE_0_2_1 (r_0 + 2) (by omega)).2 (by omega)
       have q2 := (hE_0_2_2 (r_0 + 2) (by omega)).2 (by omega)
       have q3 := (hE_0_2_3 (r_0 + 2) (by omega)).2 (by omega)
       omega)
set_option maxHeartbeats 4000000 in
theorem vc_Mo_edgeItem_33_0 (x1 : Int) (x5 : Int) (r_0 : Int) (gx : Int) (k1 : 0 ≤ x1 ∧ x1 ≤ 7) (k5 : 0 ≤ x5 ∧ x5 ≤ 7) (d0 : x5 + (-4294967296) ≤ x1 ∧ x1 ≤ x5 + 0) (d1 : x1 + (-4294967296) ≤ x5 ∧ x5 ≤ x1 + 0) (ex2 : gx = x1) : 1 * gx + ((-1) * x1 + 0) ≤ 0 := by
  first
    | omega
    | (have q1 := (hE_0_2_1 (r_0 + 2) (by omega)).2 (by omega)
       have q2 := (hE_0_2_2 (r_0 + 2) (by omega)).2 (by omega)
       omega)
    | (have q1 := (hE_0_2_1 (r_0 + 1) (by omega)).2 (by omega)
       have q2 := (hE_0_2_2 (r_0 + 1) (by omega)).2 (by omega)
       omega)
    | (have q1 := (hE_0_2_1 (r_0 + 2) (by omega)).2 (by omega)
       omega)
    | (have q1 := (hE_0_2_1 (r_0 + 1) (by omega)).2 (by omega)
       omega)
    | (have q1 := (hE_0_2_1 (r_0 + 2) (by omega)).2 (by omega)
       have q2 := (hE_0_2_2 (r_0 + 2) (by omega)).2 (by omega)
       have q3 := (hE_0_2_3 (r_0 + 2) (by omega)).1 (by omega)
       omega)
    | (have q1 := (hE_0_2_1 (r_0 + 2) (by omega)).2 (by omega)
       have q2 := (hE_0_2_2 (r_0 + 2) (by omega)).2 (by omega)
       have q3 := (hE_0_2_3 (r_0 + 2) (by omega)).2 (by omega)
       omega)
set_option maxHeartbeats 4000000 in
theorem vc_Mo_edgeItem_33_1 (x1 : Int) (x5 : Int) (r_0 : Int) (gx : Int) (k1 : 0 ≤ x1 ∧ x1 ≤ 7) (k5 : 0 ≤ x5 ∧ x5 ≤ 7) (d0 : x5 + (-4294967296) ≤ x1 ∧ x1 ≤ x5 + 0) (d1 : x1 + (-4294967296) ≤ x5 ∧ x5 ≤ x1 + 0) (ex2 : gx = x1) : (-1) * gx + (1 * x1 + 0) ≤ 0 := by
  first
    | omega
    | (have q1 := (hE_0_2_1 (r_0 + 2) (by omega)).2 (by omega)
       have q2 := (hE_0_2_2 (r_0 + 2) (by omega)).2 (by omega)
       omega)
    | (have q1 := (hE_0_2_1 (r_0 + 1) (by omega)).2 (by omega)
       have q2 := (hE_0_2_2 (r_0 + 1) (by omega)).2 (by omega)
       omega)
    | (have q1 := (hE_0_2_1 (r_0 + 2) (by omega)).2 (by omega)
       omega)
    | (have q1 := (hE_0_2_1 (r_0 + 1) (by omega)).2 (by omega)
       omega)
    | (have q1 := (hE_0_2_1 (r_0 + 2) (by omega)).2 (by omega)
       have q2 := (hE_0_2_2 (r_0 + 2) (by omega)).2 (by omega)
       have q3 := (hE_0_2_3 (r_0 + 2) (by omega)).1 (by omega)
       omega)
    | (have q1 := (hE_0_2_1 (r_0 + 2) (by omega)).2 (by omega)
       have q2 := (hE_0_2_2 (r_0 + 2) (by omega)).2 (by omega)
       have q3 := (hE_0_2_3 (r_0 + 2) (by omega)).2 (by omega)
       omega)
set_option maxHeartbeats 4000000 in
theorem vc_Mo_edgeItem_33_2 (x3 : Int) (x17 : Int) (r_0 : Int) (gy : Int) (k3 : 0 ≤ x3 ∧ x3 ≤ 4) (k17 : 0 ≤ x17 ∧ x17 ≤ 4) (f5 : 1 * x17 + ((-1) * x3 + 0) ≤ 0) (f6 : (-1) * x17 + (1 * x3 + 0) ≤ 0) (ey2 : gy = x3) : 1 * gy + ((-1) * x3 + 0) ≤ 0 := by
  first
    | omega
    | (have q1 := (hE_0_2_1 (r_0 + 2) (by omega)).2 (by omega)
       have q2 := (hE_0_2_2 (r_0 + 2) (by omega)).2 (by omega)
       omega)
    | (have q1 := (hE_0_2_1 (r_0 + 1) (by omega)).2 (by omega)
       have q2 := (hE_0_2_2 (r_0 + 1) (by omega)).2 (by omega)
       omega)
    | (have q1 := (hE_0_2_1 (r_0 + 2) (by omega)).2 (by omega)
       omega)
    | (have q1 := (hE_0_2_1 (r_0 + 1) (by omega)).2 (by omega)
       omega)
    | (have q1 := (hE_0_2_1 (r_0 + 2) (by omega)).2 (by omega)
       have q2 := (hE_0_2_2 (r_0 + 2) (by omega)).2 (by omega)
       have q3 := (hE_0_2_3 (r_0 + 2) (by omega)).1 (by omega)
       omega)
    | (have q1 := (hE_0_2_1 (r_0 + 2) (by omega)).2 (by omega)
       have q2 := (hE_0_2_2 (r_0 + 2) (by omega)).2 (by omega)
       have q3 := (hE_0_2_3 (r_0 + 2) (by omega)).2 (by omega)
       omega)
set_option maxHeartbeats 4000000 in
theorem vc_Mo_edgeItem_33_3 (x3 : Int) (x17 : Int) (r_0 : Int) (gy : Int) (k3 : 0 ≤ x3 ∧ x3 ≤ 4) (k17 : 0 ≤ x17 ∧ x17 ≤ 4) (f5 : 1 * x17 + ((-1) * x3 + 0) ≤ 0) (f6 : (-1) * x17 + (1 * x3 + 0) ≤ 0) (ey2 : gy = x3) : (-1) * gy + (1 * x3 + 0) ≤ 0 := by
  first
    | omega
    | (have q1 := (hE_0_2_1 (r_0 + 2) (by omega)).2 (by omega)
       have q2 := (hE_0_2_2 (r_0 + 2) (by omega)).2 (by omega)
       omega)
    | (have q1 := (hE_0_2_1 (r_0 + 1) (by omega)).2 (by omega)
       have q2 := (hE_0_2_2 (r_0 + 1) (by omega)).2 (by omega)
       omega)
    | (have q1 := (hE_0_2_1 (r_0 + 2) (by omega)).2 (by omega)
       omega)
    | (have q1 := (hE_0_2_1 (r_0 + 1) (by omega)).2 (by omega)
       omega)
    | (have q1 := (hE_0_2_1 (r_0 + 2) (by omega)).2 (by omega)
       have q2 := (hE_0_2_2 (r_0 + 2) (by omega)).2 (by omega)
       have q3 := (hE_0_2_3 (r_0 + 2) (by omega)).1 (by omega)
       omega)
    | (have q1 := (hE_0_2_1 (r_0 + 2) (by omega)).2 (by omega)
       have q2 := (hE_0_2_2 (r_0 + 2) (by omega)).2 (by omega)
       have q3 := (hE_0_2_3 (r_0 + 2) (by omega)).2 (by omega)
       omega)
set_option maxHeartbeats 4000000 in
theorem vc_Mo_edgeItem_33_4 (x7 : Int) (x18 : Int) (r_0 : Int) (gu : Int) (k7 : 0 ≤ x7 ∧ x7 ≤ 48) (k18 : 0 ≤ x18 ∧ x18 ≤ 48) (f7 : 1 * x18 + ((-1) * x7 + 0) ≤ 0) (f8 : (-1) * x18 + (1 * x7 + 0) ≤ 0) (eu2 : gu = x7) : 1 * gu + ((-1) * x7 + 0) ≤ 0 := by
  first
    | omega
    | (have q1 := (hE_0_2_1 (r_0 + 2) (by omega)).2 (by omega)
       have q2 := (hE_0_2_2 (r_0 + 2) (by omega)).2 (by omega)
       omega)
    | (have q1 := (hE_0_2_1 (r_0 + 1) (by omega)).2 (by omega)
       have q2 := (hE_0_2_2 (r_0 + 1) (by omega)).2 (by omega)
       omega)
    | (have q1 := (hE_0_2_1 (r_0 + 2) (by omega)).2 (by omega)
       omega)
    | (have q1 := (hE_0_2_1 (r_0 + 1) (by omega)).2 (by omega)
       omega)
    | (have q1 := (hE_0_2_1 (r_0 + 2) (by omega)).2 (by omega)
       have q2 := (hE_0_2_2 (r_0 + 2) (by omega)).2 (by omega)
       have q3 := (hE_0_2_3 (r_0 + 2) (by omega)).1 (by omega)
       omega)
    | (have q1 := (hE_0_2_1 (r_0 + 2) (by omega)).2 (by omega)
       have q2 := (hE_0_2_2 (r_0 + 2) (by omega)).2 (by omega)
       have q3 := (hE_0_2_3 (r_0 + 2) (by omega)).2 (by omega)
       omega)
set_option maxHeartbeats 4000000 in
theorem vc_Mo_edgeItem_33_5 (x7 : Int) (x18 : Int) (r_0 : Int) (gu : Int) (k7 : 0 ≤ x7 ∧ x7 ≤ 48) (k18 : 0 ≤ x18 ∧ x18 ≤ 48) (f7 : 1 * x18 + ((-1) * x7 + 0) ≤ 0) (f8 : (-1) * x18 + (1 * x7 + 0) ≤ 0) (eu2 : gu = x7) : (-1) * gu + (1 * x7 + 0) ≤ 0 := by
  first
    | omega
    | (have q1 := (hE_0_2_1 (r_0 + 2) (by omega)).2 (by omega)
       have q2 := (hE_0_2_2 (r_0 + 2) (by omega)).2 (by omega)
       omega)
    | (have q1 := (hE_0_2_1 (r_0 + 1) (by omega)).2 (by omega)
       have q2 := (hE_0_2_2 (r_0 + 1) (by omega)).2 (by omega)
       omega)
    | (have q1 := (hE_0_2_1 (r_0 + 2) (by omega)).2 (by omega)
       omega)
    | (have q1 := (hE_0_2_1 (r_0 + 1) (by omega)).2 (by omega)
       omega)
    | (have q1 := (hE_0_2_1 (r_0 + 2) (by omega)).2 (by omega)
       have q2 := (hE_0_2_2 (r_0 + 2) (by omega)).2 (by omega)
       have q3 := (hE_0_2_3 (r_0 + 2) (by omega)).1 (by omega)
       omega)
    | (have q1 := (hE_0_2_1 (r_0 + 2) (by omega)).2 (by omega)
       have q2 := (hE_0_2_2 (r_0 + 2) (by omega)).2 (by omega)
       have q3 := (hE_0_2_3 (r_0 + 2) (by omega)).2 (by omega)
       omega)
set_option maxHeartbeats 4000000 in
theorem vc_Mo_edgeItem_33_6 (x6 : Int) (x21 : Int) (fault_0 : Int) (all_0 : Int → Int) (r_0 : Int) (k6 : (-1) ≤ x6 ∧ x6 ≤ 23) (k21 : 0 ≤ x21 ∧ x21 ≤ 0) (g2 : x21 = fault_0) (f11 : 0 ≤ x6) (f26 : (1 ≤ fault_0) ∨ ((x6 ≤ (-1)) ∨ (all_0 ((r_0 + 1)) ≤ 47))) (kz_0_8 : 0 ≤ fault_0 ∧ fault_0 ≤ 5) : 1 * all_0 (r_0 + 1) + 0 ≤ 47 := by
  first
    | omega
    | (have q1 := (hE_0_2_1 (r_0 + 2) (by omega)).2 (by omega)
       have q2 := (hE_0_2_2 (r_0 + 2) (by omega)).2 (by omega)
       omega)
    | (have q1 := (hE_0_2_1 (r_0 + 1) (by omega)).2 (by omega)
       have q2 := (hE_0_2_2 (r_0 + 1) (by omega)).2 (by omega)
       omega)
    | (have q1 := (hE_0_2_1 (r_0 + 2) (by omega)).2 (by omega)
       omega)
    | (have q1 := (hE_0_2_1 (r_0 + 1) (by omega)).2 (by omega)
       omega)
    | (have q1 := (hE_0_2_1 (r_0 + 2) (by omega)).2 (by omega)
       have q2 := (hE_0_2_2 (r_0 + 2) (by omega)).2 (by omega)
       have q3 := (hE_0_2_3 (r_0 + 2) (by omega)).1 (by omega)
       omega)
    | (have q1 := (hE_0_2_1 (r_0 + 2) (by omega)).2 (by omega)
       have q2 := (hE_0_2_2 (r_0 + 2) (by omega)).2 (by omega)
       have q3 := (hE_0_2_3 (r_0 + 2) (by omega)).2 (by omega)
       omega)
set_option maxHeartbeats 4000000 in
theorem vc_Mo_edgeItem_33_7 (all_0 : Int → Int) (r_0 : Int) (now_0 : Int → Int) (latest_0 : Int → Int) (f28 : RWS (r_0) (all_0) (now_0) (latest_0)) : RWS (r_0) (all_0) (now_0) (latest_0) := by
  first
    | assumption
set_option maxHeartbeats 4000000 in
theorem vc_Mo_edgeItem_33_8 (x6 : Int) (x20 : Int) (x21 : Int) (fault_0 : Int) (all_0 : Int → Int) (r_0 : Int) (k6 : (-1) ≤ x6 ∧ x6 ≤ 23) (k20 : (-1) ≤ x20 ∧ x20 ≤ 23) (k21 : 0 ≤ x21 ∧ x21 ≤ 0) (g2 : x21 = fault_0) (f11 : 0 ≤ x6) (f29 : MET (r_0) (fault_0) (all_0) (x6) (x20)) (kz_0_8 : 0 ≤ fault_0 ∧ fault_0 ≤ 5) : NWE (r_0) (all_0) (x6) (x20) := by
  have h := (‹MET _ _ _ _ _› (by omega)).2 (by omega)
  first
    | exact h
set_option maxHeartbeats 4000000 in
theorem vc_Mo_edgeItem_33_9 (x1 : Int) (x5 : Int) (all_0 : Int → Int) (r_0 : Int) (gx : Int) (k1 : 0 ≤ x1 ∧ x1 ≤ 7) (k5 : 0 ≤ x5 ∧ x5 ≤ 7) (d0 : x5 + (-4294967296) ≤ x1 ∧ x1 ≤ x5 + 0) (d1 : x1 + (-4294967296) ≤ x5 ∧ x5 ≤ x1 + 0) (f27 : (x1 + 1) ≤ all_0 ((r_0 + 2))) (ex2 : gx = x1) : (gx + 1) ≤ all_0 ((r_0 + 2)) := by
  first
    | omega
    | (have q1 := (hE_0_2_1 (r_0 + 2) (by omega)).2 (by omega)
       have q2 := (hE_0_2_2 (r_0 + 2) (by omega)).2 (by omega)
       omega)
    | (have q1 := (hE_0_2_1 (r_0 + 1) (by omega)).2 (by omega)
       have q2 := (hE_0_2_2 (r_0 + 1) (by omega)).2 (by omega)
       omega)
    | (have q1 := (hE_0_2_1 (r_0 + 2) (by omega)).2 (by omega)
       omega)
    | (have q1 := (hE_0_2_1 (r_0 + 1) (by omega)).2 (by omega)
       omega)
    | (have q1 := (hE_0_2_1 (r_0 + 2) (by omega)).2 (by omega)
       have q2 := (hE_0_2_2 (r_0 + 2) (by omega)).2 (by omega)
       have q3 := (hE_0_2_3 (r_0 + 2) (by omega)).1 (by omega)
       omega)
    | (have q1 := (hE_0_2_1 (r_0 + 2) (by omega)).2 (by omega)
       have q2 := (hE_0_2_2 (r_0 + 2) (by omega)).2 (by omega)
       have q3 := (hE_0_2_3 (r_0 + 2) (by omega)).2 (by omega)
       omega)
set_option maxHeartbeats 4000000 in
theorem vc_Mo_edgeItem_33_10 (x1 : Int) (x2 : Int) (x3 : Int) (x6 : Int) (x7 : Int) (x13 : Int) (x15 : Int) (x17 : Int) (x18 : Int) (x19 : Int) (x20 : Int) (x21 : Int) (fault_0 : Int) (from_0 : Int) (pos_0 : Int) (kind_0 : Int) (all_0 : Int → Int) (r_0 : Int) (tape_0 : Int → Int) (limit_0 : Int) (place_0 : Int) (value_0 : Int) (faultPlace_0 : Int) (gx : Int) (gy : Int) (gu : Int) (k1 : 0 ≤ x1 ∧ x1 ≤ 7) (k2 : 0 ≤ x2 ∧ x2 ≤ 2000) (k3 : 0 ≤ x3 ∧ x3 ≤ 4) (k6 : (-1) ≤ x6 ∧ x6 ≤ 23) (k7 : 0 ≤ x7 ∧ x7 ≤ 48) (k13 : 1 ≤ x13 ∧ x13 ≤ 1) (k15 : 0 ≤ x15 ∧ x15 ≤ 2000) (k17 : 0 ≤ x17 ∧ x17 ≤ 4) (k18 : 0 ≤ x18 ∧ x18 ≤ 48) (k19 : 0 ≤ x19 ∧ x19 ≤ 1) (k20 : (-1) ≤ x20 ∧ x20 ≤ 23) (k21 : 0 ≤ x21 ∧ x21 ≤ 0) (f1 : x21 ≤ 0) (g2 : x21 = fault_0) (f3 : 1 * x15 + ((-1) * x2 + 0) ≤ 0) (f4 : (-1) * x15 + (1 * x2 + 0) ≤ 0) (f5 : 1 * x17 + ((-1) * x3 + 0) ≤ 0) (f6 : (-1) * x17 + (1 * x3 + 0) ≤ 0) (f7 : 1 * x18 + ((-1) * x7 + 0) ≤ 0) (f8 : (-1) * x18 + (1 * x7 + 0) ≤ 0) (f10 : (-1) * x19 + (1 * x13 + 0) ≤ 0) (f30 : zOP8 (limit_0) (pos_0) (kind_0) (place_0) (value_0) (from_0) (fault_0) (faultPlace_0) (r_0) (tape_0) (all_0) (x20) (x18) (x6) (x19) (x1) (x17)) (kz_0_8 : 0 ≤ fault_0 ∧ fault_0 ≤ 5) (kz_0_9 : 0 ≤ faultPlace_0 ∧ faultPlace_0 ≤ 2000) (kz_0_10 : 0 ≤ limit_0 ∧ limit_0 ≤ 2000) (kz_0_11 : 0 ≤ pos_0 ∧ pos_0 ≤ 2000) (kz_0_12 : 0 ≤ kind_0 ∧ kind_0 ≤ 4) (kz_0_13 : 0 ≤ place_0 ∧ place_0 ≤ 2000) (kz_0_14 : (-49) ≤ value_0 ∧ value_0 ≤ 1048575) (kz_0_15 : 0 ≤ from_0 ∧ from_0 ≤ 2000) (ex2 : gx = x1) (ey2 : gy = x3) (eu2 : gu = x7) : zRP8 (limit_0) (pos_0) (kind_0) (place_0) (value_0) (from_0) (fault_0) (r_0) (tape_0) (all_0) (x20) (gu) (x6) (x13) (gx) (gy) := by
  first | (have el_x15 : x15 = x2 := by omega); subst el_x15 | skip
  first | (have el_x17 : x17 = x3 := by omega); subst el_x17 | skip
  first | (have el_x18 : x18 = x7 := by omega); subst el_x18 | skip
  first | (have el_x19 : x19 = x13 := by omega); subst el_x19 | skip
  first | subst g2 | skip
  first | subst ex2 | skip
  first | subst ey2 | skip
  first | subst eu2 | skip
  exact (‹zOP8 _ _ _ _ _ _ _ _ _ _ _ _ _ _ _ _ _›).resolve_left (fs_n (by omega))
set_option maxHeartbeats 4000000 in
theorem vc_Mo_edgeItem_33_11 (x2 : Int) (x6 : Int) (x15 : Int) (x16 : Int) (x20 : Int) (x21 : Int) (fault_0 : Int) (pos_0 : Int) (all_0 : Int → Int) (r_0 : Int) (k2 : 0 ≤ x2 ∧ x2 ≤ 2000) (k6 : (-1) ≤ x6 ∧ x6 ≤ 23) (k15 : 0 ≤ x15 ∧ x15 ≤ 2000) (k16 : 0 ≤ x16 ∧ x16 ≤ 2000) (k20 : (-1) ≤ x20 ∧ x20 ≤ 23) (k21 : 0 ≤ x21 ∧ x21 ≤ 0) (g2 : x21 = fault_0) (f3 : 1 * x15 + ((-1) * x2 + 0) ≤ 0) (f4 : (-1) * x15 + (1 * x2 + 0) ≤ 0) (f11 : 0 ≤ x6) (f13 : 1 * x2 + ((-1) * x16 + 0) ≤ (-1)) (f22 : 1 * x15 + ((-1) * pos_0 + 0) ≤ 0) (f24 : (1 ≤ fault_0) ∨ ((x16 + 1) ≤ pos_0)) (f25 : ((-1) * fault_0 + 0 ≤ (-1)) ∨ ((-1) * x20 + 0 ≤ 0)) (f26 : (1 ≤ fault_0) ∨ ((x6 ≤ (-1)) ∨ (all_0 ((r_0 + 1)) ≤ 47))) (kz_0_8 : 0 ≤ fault_0 ∧ fault_0 ≤ 5) (kz_0_11 : 0 ≤ pos_0 ∧ pos_0 ≤ 2000) : 1 * x2 + ((-1) * pos_0 + 0) ≤ (-1) := by
  first
    | omega
    | (have q1 := (hE_0_2_1 (r_0 + 2) (by omega)).2 (by omega)
       have q2 := (hE_0_2_2 (r_0 + 2) (by omega)).2 (by omega)
       omega)
    | (have q1 := (hE_0_2_1 (r_0 + 1) (by omega)).2 (by omega)
       have q2 := (hE_0_2_2 (r_0 + 1) (by omega)).2 (by omega)
       omega)
    | (have q1 := (hE_0_2_1 (r_0 + 2) (by omega)).2 (by omega)
       omega)
    | (have q1 := (hE_0_2_1 (r_0 + 1) (by omega)).2 (by omega)
       omega)
    | (have q1 := (hE_0_2_1 (r_0 + 2) (by omega)).2 (by omega)
       have q2 := (hE_0_2_2 (r_0 + 2) (by omega)).2 (by omega)
       have q3 := (hE_0_2_3 (r_0 + 2) (by omega)).1 (by omega)
       omega)
    | (have q1 := (hE_0_2_1 (r_0 + 2) (by omega)).2 (by omega)
       have q2 := (hE_0_2_2 (r_0 + 2) (by omega)).2 (by omega)
       have q3 := (hE_0_2_3 (r_0 + 2) (by omega)).2 (by omega)
       omega)
set_option maxHeartbeats 4000000 in
theorem vc_Mo_edgeItem_33_12 (x6 : Int) (x8 : Int) (x16 : Int) (x20 : Int) (x21 : Int) (fault_0 : Int) (pos_0 : Int) (all_0 : Int → Int) (r_0 : Int) (k6 : (-1) ≤ x6 ∧ x6 ≤ 23) (k8 : 0 ≤ x8 ∧ x8 ≤ 2000) (k16 : 0 ≤ x16 ∧ x16 ≤ 2000) (k20 : (-1) ≤ x20 ∧ x20 ≤ 23) (k21 : 0 ≤ x21 ∧ x21 ≤ 0) (g2 : x21 = fault_0) (f11 : 0 ≤ x6) (f12 : (-1) * x8 + ((-1) * x16 + 0) ≤ (-2000)) (f24 : (1 ≤ fault_0) ∨ ((x16 + 1) ≤ pos_0)) (f25 : ((-1) * fault_0 + 0 ≤ (-1)) ∨ ((-1) * x20 + 0 ≤ 0)) (f26 : (1 ≤ fault_0) ∨ ((x6 ≤ (-1)) ∨ (all_0 ((r_0 + 1)) ≤ 47))) (kz_0_8 : 0 ≤ fault_0 ∧ fault_0 ≤ 5) (kz_0_11 : 0 ≤ pos_0 ∧ pos_0 ≤ 2000) : (-1) * x8 + ((-1) * pos_0 + 0) ≤ (-2001) := by
  first
    | omega
    | (have q1 := (hE_0_2_1 (r_0 + 2) (by omega)).2 (by omega)
       have q2 := (hE_0_2_2 (r_0 + 2) (by omega)).2 (by omega)
       omega)
    | (have q1 := (hE_0_2_1 (r_0 + 1) (by omega)).2 (by omega)
       have q2 := (hE_0_2_2 (r_0 + 1) (by omega)).2 (by omega)
       omega)
    | (have q1 := (hE_0_2_1 (r_0 + 2) (by omega)).2 (by omega)
       omega)
    | (have q1 := (hE_0_2_1 (r_0 + 1) (by omega)).2 (by omega)
       omega)
    | (have q1 := (hE_0_2_1 (r_0 + 2) (by omega)).2 (by omega)
       have q2 := (hE_0_2_2 (r_0 + 2) (by omega)).2 (by omega)
       have q3 := (hE_0_2_3 (r_0 + 2) (by omega)).1 (by omega)
       omega)
    | (have q1 := (hE_0_2_1 (r_0 + 2) (by omega)).2 (by omega)
       have q2 := (hE_0_2_2 (r_0 + 2) (by omega)).2 (by omega)
       have q3 := (hE_0_2_3 (r_0 + 2) (by omega)).2 (by omega)
       omega)
def o_Mo_edgeItem_33 : or_T := (106, 22, [(0, (2, 0, 0, [165])), (1, (0, 0, 7, [])), (2, (0, 0, 2000, [])), (3, (0, 0, 4, [])), (4, (2, 0, 0, [165])), (5, (0, 0, 7, [])), (6, (0, -1, 23, [])), (7, (0, 0, 48, [])), (8, (0, 0, 2000, [])), (13, (0, 1, 1, [])), (14, (0, 0, 2000, [])), (15, (0, 0, 2000, [])), (16, (0, 0, 2000, [])), (17, (0, 0, 4, [])), (18, (0, 0, 48, [])), (19, (0, 0, 1, [])), (20, (0, -1, 23, [])), (21, (0, 0, 0, []))], [(23, [20], [0, -1]), (8, [21], [5]), (9, [21, 4], [8]), (23, [15, 2], [0, 1, -1]), (23, [15, 2], [0, -1, 1]), (23, [17, 3], [0, 1, -1]), (23, [17, 3], [0, -1, 1]), (23, [18, 7], [0, 1, -1]), (23, [18, 7], [0, -1, 1]), (23, [19, 13], [0, 1, -1]), (23, [19, 13], [0, -1, 1]), (20, [6], [50, 0, 0, 0, 2, 0, 0, 1, 0]), (23, [8, 16], [-2000, -1, -1]), (23, [2, 16], [-1, 1, -1]), (23, [2, 14], [-1, 1, -1]), (23, [8, 14], [-2000, -1, -1]), (20, [2, 14], [30, 0, 1, 0, 0, -1, 0, 0]), (23, [6], [0, -1]), (24, [0, 4], []), (24, [1, 5], []), (20, [4, 4], [30, 0, 1, 1, 15, -1, 1, 11]), (20, [4], [50, 3, 0, 12, 11, 15, 2, 21, 4, 7, 1, 3, 2, 0, 12, 0, 1, 0, 3, 2, 0, 11, 4, 3, 2, 0, 15, 0, 8, 3, 7, 1, 3, 2, 0, 12, 0, 0, 0, 7, 4, 3, 2, 0, 15, 0, 1, 2, 0, 11]), (20, [15, 4], [30, 0, 1, 0, 0, -1, 1, 11]), (20, [4, 15], [50, 3, 0, 8, 12, 11, 3, 7, 0, 2, 0, 1, 2, 0, 8, 3, 7, 1, 3, 2, 0, 12, 0, 0, 0, 6, 4, 2, 1, 1, 0, 1, 2, 0, 11]), (20, [4, 16], [50, 2, 0, 8, 11, 3, 7, 0, 2, 0, 1, 2, 0, 8, 0, 6, 4, 2, 1, 1, 0, 1, 2, 0, 11]), (20, [4, 20], [31, 1, -1, -1, 1, 8, 0, -1, 0, 0]), (20, [4, 6], [50, 2, 1, 8, 5, 2, 3, 7, 0, 2, 0, 1, 2, 0, 8, 3, 6, 0, 2, 1, 1, 0, -1, 0, 10, 3, 0, 2, 4, 3, 2, 0, 5, 0, 1, 0, 47]), (20, [5, 4], [50, 1, 1, 1005, 1002, 0, 6, 4, 2, 1, 0, 0, 1, 3, 1, 2, 4, 3, 2, 1, 5, 0, 2]), (20, [4], [60, 1, 3, 199, 5, 2, 3, 4]), (20, [4, 6, 20], [60, 2, 1, 240, 5, 8, 2]), (20, [4, 20, 18, 6, 19, 5, 17], [60, 9, 2, 1011, 10, 11, 12, 13, 14, 15, 8, 9, 5, 1, 2]), (102, [19], [187072209578355573530071658587684226515959365500928, 165008, 165009, 165011, 165012, 165013, 165014, 165015]), (23, [15, 2], [0, 1, -1]), (23, [15, 2], [0, -1, 1]), (23, [17, 3], [0, 1, -1]), (23, [17, 3], [0, -1, 1]), (23, [18, 7], [0, 1, -1]), (23, [18, 7], [0, -1, 1]), (23, [19, 13], [0, 1, -1]), (23, [19, 13], [0, -1, 1]), (23, [8, 16], [-2000, -1, -1]), (23, [2, 16], [-1, 1, -1]), (23, [2, 14], [-1, 1, -1]), (23, [8, 14], [-2000, -1, -1]), (23, [6], [0, -1]), (102, [14], [0, 165011, 165012, 165013, 165014, 165015]), (23, [2, 14], [-1, 1, -1]), (23, [8, 14], [-2000, -1, -1]), (23, [6], [0, -1])], [(20, (0, 0, 23, [])), (6, (0, 0, 23, []))], [(0, 0, 7, []), (0, 0, 4, []), (0, 0, 48, [])], [(23, [22, 5], [0, 1, -1]), (23, [22, 5], [0, -1, 1]), (23, [23, 3], [0, 1, -1]), (23, [23, 3], [0, -1, 1]), (23, [24, 7], [0, 1, -1]), (23, [24, 7], [0, -1, 1]), (20, [4], [30, 47, 1, 3, 2005001]), (20, [4], [60, 1, 3, 199, 5, 2, 3, 4]), (20, [4, 6, 20], [60, 1, 1, 203, 5, 2]), (20, [22, 4], [50, 1, 1, 1005, 1002, 0, 6, 4, 2, 1, 0, 0, 1, 3, 1, 2, 4, 3, 2, 1, 5, 0, 2]), (20, [4, 20, 24, 6, 13, 22, 23], [60, 8, 2, 994, 10, 11, 12, 13, 14, 15, 8, 5, 1, 2]), (20, [2, 4], [30, -1, 1, 0, 0, -1, 1, 11]), (20, [8, 4], [30, -2001, -1, 0, 0, -1, 1, 11])], [], [(1, 5, -4294967296, 0), (5, 1, -4294967296, 0)])
theorem oo_Mo_edgeItem_33 {kA : Nat → ClassId} : or_ok PRD kA GG o_Mo_edgeItem_33 := by
  refine or_mk fun A ta ws vs hD hth hl => ?_
  intro t0 r0 t1 k1 t2 k2 t3 k3 t4 r4 t5 k5 t6 k6 t7 k7 t8 k8 t13 k13 t14 k14 t15 k15 t16 k16 t17 k17 t18 k18 t19 k19 t20 k20 t21 k21 d0 d1 f0 f1 f2 f3 f4 f5 f6 f7 f8 f9 f10 f11 f12 f13 f14 f15 f16 f17 f18 f19 f20 f21 f22 f23 f24 f25 f26 f27 f28 f29 f30 ta1 w1 le1 s1 f32 f33 f34 f35 f36 f37 f38 f39 f40 f41 f42 f43 f44 ta2 w2 le2 s2 f46 f47 f48
  replace f0 := shm_1043 f0
  replace f1 := shm_295 f1
  replace f2 := shm_293 f2
  replace f3 := shm_7 f3
  replace f4 := shm_22 f4
  replace f5 := shm_7 f5
  replace f6 := shm_22 f6
  replace f7 := shm_7 f7
  replace f8 := shm_22 f8
  replace f10 := shm_22 f10
  replace f11 := shm_722 f11
  replace f12 := shm_2009 f12
  replace f13 := shm_193 f13
  replace f18 := shm_5 f18
  replace f19 := shm_5 f19
  replace f22 := shm_1431 f22
  replace f24 := shm_1726 f24
  replace f25 := shm_2117 f25
  replace f26 := shm_2118 f26
  replace f27 := shm_1009 f27
  replace f28 := shm_980 f28
  replace f29 := shm_2119 f29
  replace f30 := shm_2128 f30
  have q4 : n_v vs 4 = n_v vs 0 := f18.symm
  have q5 : n_v vs 5 = n_v vs 1 := f19.symm
  simp only [q4, q5] at f2 f22 f24 f25 f26 f27 f28 f29 f30
  have g2 : v_iv (n_v vs 21) = w_fi ws (n_v vs 0) 8 := congrArg v_iv f2
  have kz_0_8 := fdq_34 hD hth r0
  have kz_0_9 := fdq_44 hD hth r0
  have kz_0_10 := fdq_43 hD hth r0
  have kz_0_11 := fdq_237 hD hth r0
  have kz_0_12 := fdq_187 hD hth r0
  have kz_0_13 := fdq_238 hD hth r0
  have kz_0_14 := fdq_188 hD hth r0
  have kz_0_15 := fdq_239 hD hth r0
  obtain ⟨x, ex, hx⟩ := iv_ex (ta := ta) (lo := 0) (hi := 7) (z := v_iv (n_v vs 1)) (by omega) (by omega) (by omega) (by omega)
  have ex2 : v_iv (Value.int x) = v_iv (n_v vs 1) := ex
  have ex3 : 0 ≤ v_iv (Value.int x) ∧ v_iv (Value.int x) ≤ 7 := tv_rng hx
  obtain ⟨y, ey, hy⟩ := iv_ex (ta := ta) (lo := 0) (hi := 4) (z := v_iv (n_v vs 3)) (by omega) (by omega) (by omega) (by omega)
  have ey2 : v_iv (Value.int y) = v_iv (n_v vs 3) := ey
  have ey3 : 0 ≤ v_iv (Value.int y) ∧ v_iv (Value.int y) ≤ 4 := tv_rng hy
  obtain ⟨u, eu, hu⟩ := iv_ex (ta := ta) (lo := 0) (hi := 48) (z := v_iv (n_v vs 7)) (by omega) (by omega) (by omega) (by omega)
  have eu2 : v_iv (Value.int u) = v_iv (n_v vs 7) := eu
  have eu3 : 0 ≤ v_iv (Value.int u) ∧ v_iv (Value.int u) ≤ 48 := tv_rng hu
  have hrf0 : 0 ≤ v_iv (n_v vs 20) ∧ v_iv (n_v vs 20) ≤ 23 := vc_Mo_edgeItem_33_r0 (v_iv (n_v vs 20)) (w_fi ws (n_v vs 0) 5) k20 f0
  have hrf1 : 0 ≤ v_iv (n_v vs 6) ∧ v_iv (n_v vs 6) ≤ 23 := vc_Mo_edgeItem_33_r1 (v_iv (n_v vs 6)) (w_fi ws (n_v vs 0) 5) k6 f11
  have e_2 : n_v (vs ++ [Value.int x, Value.int y, Value.int u]) 2 = n_v vs 2 := n_v_old (by rw [hl]; decide)
  have e_3 : n_v (vs ++ [Value.int x, Value.int y, Value.int u]) 3 = n_v vs 3 := n_v_old (by rw [hl]; decide)
  have e_4 : n_v (vs ++ [Value.int x, Value.int y, Value.int u]) 4 = n_v vs 4 := n_v_old (by rw [hl]; decide)
  have e_5 : n_v (vs ++ [Value.int x, Value.int y, Value.int u]) 5 = n_v vs 5 := n_v_old (by rw [hl]; decide)
  have e_6 : n_v (vs ++ [Value.int x, Value.int y, Value.int u]) 6 = n_v vs 6 := n_v_old (by rw [hl]; decide)
  have e_7 : n_v (vs ++ [Value.int x, Value.int y, Value.int u]) 7 = n_v vs 7 := n_v_old (by rw [hl]; decide)
  have e_8 : n_v (vs ++ [Value.int x, Value.int y, Value.int u]) 8 = n_v vs 8 := n_v_old (by rw [hl]; decide)
  have e_13 : n_v (vs ++ [Value.int x, Value.int y, Value.int u]) 13 = n_v vs 13 := n_v_old (by rw [hl]; decide)
  have e_20 : n_v (vs ++ [Value.int x, Value.int y, Value.int u]) 20 = n_v vs 20 := n_v_old (by rw [hl]; decide)
  have e_22 : n_v (vs ++ [Value.int x, Value.int y, Value.int u]) 22 = Value.int x := n_v_newk (k := 0) hl rfl
  have e_23 : n_v (vs ++ [Value.int x, Value.int y, Value.int u]) 23 = Value.int y := n_v_newk (k := 1) hl rfl
  have e_24 : n_v (vs ++ [Value.int x, Value.int y, Value.int u]) 24 = Value.int u := n_v_newk (k := 2) hl rfl
  have nf0 : fc_1 PRD (23, [22, 5], [0, 1, -1]) ws (vs ++ [Value.int x, Value.int y, Value.int u]) := by
    refine ⟨nf_inA hl rfl, sgq_7 ?_⟩
    · show 1 * v_iv (n_v (vs ++ [Value.int x, Value.int y, Value.int u]) 22) + ((-1) * v_iv (n_v (vs ++ [Value.int x, Value.int y, Value.int u]) 5) + 0) ≤ 0
      simp only [e_5, e_22, q5]
      exact vc_Mo_edgeItem_33_0 (v_iv (n_v vs 1)) (v_iv (n_v vs 5)) (w_fi ws (n_v vs 0) 5) (v_iv (Value.int x)) k1 k5 d0 d1 ex2
  have nf1 : fc_1 PRD (23, [22, 5], [0, -1, 1]) ws (vs ++ [Value.int x, Value.int y, Value.int u]) := by
    refine ⟨nf_inA hl rfl, sgq_22 ?_⟩
    · show (-1) * v_iv (n_v (vs ++ [Value.int x, Value.int y, Value.int u]) 22) + (1 * v_iv (n_v (vs ++ [Value.int x, Value.int y, Value.int u]) 5) + 0) ≤ 0
      simp only [e_5, e_22, q5]
      exact vc_Mo_edgeItem_33_1 (v_iv (n_v vs 1)) (v_iv (n_v vs 5)) (w_fi ws (n_v vs 0) 5) (v_iv (Value.int x)) k1 k5 d0 d1 ex2
  have nf2 : fc_1 PRD (23, [23, 3], [0, 1, -1]) ws (vs ++ [Value.int x, Value.int y, Value.int u]) := by
    refine ⟨nf_inA hl rfl, sgq_7 ?_⟩
    · show 1 * v_iv (n_v (vs ++ [Value.int x, Value.int y, Value.int u]) 23) + ((-1) * v_iv (n_v (vs ++ [Value.int x, Value.int y, Value.int u]) 3) + 0) ≤ 0
      simp only [e_3, e_23]
      exact vc_Mo_edgeItem_33_2 (v_iv (n_v vs 3)) (v_iv (n_v vs 17)) (w_fi ws (n_v vs 0) 5) (v_iv (Value.int y)) k3 k17 f5 f6 ey2
  have nf3 : fc_1 PRD (23, [23, 3], [0, -1, 1]) ws (vs ++ [Value.int x, Value.int y, Value.int u]) := by
    refine ⟨nf_inA hl rfl, sgq_22 ?_⟩
    · show (-1) * v_iv (n_v (vs ++ [Value.int x, Value.int y, Value.int u]) 23) + (1 * v_iv (n_v (vs ++ [Value.int x, Value.int y, Value.int u]) 3) + 0) ≤ 0
      simp only [e_3, e_23]
      exact vc_Mo_edgeItem_33_3 (v_iv (n_v vs 3)) (v_iv (n_v vs 17)) (w_fi ws (n_v vs 0) 5) (v_iv (Value.int y)) k3 k17 f5 f6 ey2
  have nf4 : fc_1 PRD (23, [24, 7], [0, 1, -1]) ws (vs ++ [Value.int x, Value.int y, Value.int u]) := by
    refine ⟨nf_inA hl rfl, sgq_7 ?_⟩
    · show 1 * v_iv (n_v (vs ++ [Value.int x, Value.int y, Value.int u]) 24) + ((-1) * v_iv (n_v (vs ++ [Value.int x, Value.int y, Value.int u]) 7) + 0) ≤ 0
      simp only [e_7, e_24]
      exact vc_Mo_edgeItem_33_4 (v_iv (n_v vs 7)) (v_iv (n_v vs 18)) (w_fi ws (n_v vs 0) 5) (v_iv (Value.int u)) k7 k18 f7 f8 eu2
  have nf5 : fc_1 PRD (23, [24, 7], [0, -1, 1]) ws (vs ++ [Value.int x, Value.int y, Value.int u]) := by
    refine ⟨nf_inA hl rfl, sgq_22 ?_⟩
    · show (-1) * v_iv (n_v (vs ++ [Value.int x, Value.int y, Value.int u]) 24) + (1 * v_iv (n_v (vs ++ [Value.int x, Value.int y, Value.int u]) 7) + 0) ≤ 0
      simp only [e_7, e_24]
      exact vc_Mo_edgeItem_33_5 (v_iv (n_v vs 7)) (v_iv (n_v vs 18)) (w_fi ws (n_v vs 0) 5) (v_iv (Value.int u)) k7 k18 f7 f8 eu2
  have nf6 : fc_1 PRD (20, [4], [30, 47, 1, 3, 2005001]) ws (vs ++ [Value.int x, Value.int y, Value.int u]) := by
    refine ⟨nf_inA hl rfl, sgq_1007 ?_⟩
    · show 1 * w_el ws (w_ar ws (n_v (vs ++ [Value.int x, Value.int y, Value.int u]) 4) 2) (w_fi ws (n_v (vs ++ [Value.int x, Value.int y, Value.int u]) 4) 5 + 1).toNat + 0 ≤ 47
      simp only [e_4, q4]
      exact vc_Mo_edgeItem_33_6 (v_iv (n_v vs 6)) (v_iv (n_v vs 21)) (w_fi ws (n_v vs 0) 8) (w_ei ws (w_ar ws (n_v vs 0) 2)) (w_fi ws (n_v vs 0) 5) k6 k21 g2 f11 f26 kz_0_8
  have nf7 : fc_1 PRD (20, [4], [60, 1, 3, 199, 5, 2, 3, 4]) ws (vs ++ [Value.int x, Value.int y, Value.int u]) := by
    refine ⟨nf_inA hl rfl, sgq_980 ?_⟩
    · show RWS (w_fi ws (n_v (vs ++ [Value.int x, Value.int y, Value.int u]) 4) 5) (w_ei ws (w_ar ws (n_v (vs ++ [Value.int x, Value.int y, Value.int u]) 4) 2)) (w_ei ws (w_ar ws (n_v (vs ++ [Value.int x, Value.int y, Value.int u]) 4) 3)) (w_ei ws (w_ar ws (n_v (vs ++ [Value.int x, Value.int y, Value.int u]) 4) 4))
      simp only [e_4, q4]
      exact vc_Mo_edgeItem_33_7 (w_ei ws (w_ar ws (n_v vs 0) 2)) (w_fi ws (n_v vs 0) 5) (w_ei ws (w_ar ws (n_v vs 0) 3)) (w_ei ws (w_ar ws (n_v vs 0) 4)) f28
  have nf8 : fc_1 PRD (20, [4, 6, 20], [60, 1, 1, 203, 5, 2]) ws (vs ++ [Value.int x, Value.int y, Value.int u]) := by
    refine ⟨nf_inA hl rfl, sgq_1008 ?_⟩
    · show NWE (w_fi ws (n_v (vs ++ [Value.int x, Value.int y, Value.int u]) 4) 5) (w_ei ws (w_ar ws (n_v (vs ++ [Value.int x, Value.int y, Value.int u]) 4) 2)) (v_iv (n_v (vs ++ [Value.int x, Value.int y, Value.int u]) 6)) (v_iv (n_v (vs ++ [Value.int x, Value.int y, Value.int u]) 20))
      simp only [e_4, e_6, e_20, q4]
      exact vc_Mo_edgeItem_33_8 (v_iv (n_v vs 6)) (v_iv (n_v vs 20)) (v_iv (n_v vs 21)) (w_fi ws (n_v vs 0) 8) (w_ei ws (w_ar ws (n_v vs 0) 2)) (w_fi ws (n_v vs 0) 5) k6 k20 k21 g2 f11 f29 kz_0_8
  have nf9 : fc_1 PRD (20, [22, 4], [50, 1, 1, 1005, 1002, 0, 6, 4, 2, 1, 0, 0, 1, 3, 1, 2, 4, 3, 2, 1, 5, 0, 2]) ws (vs ++ [Value.int x, Value.int y, Value.int u]) := by
    refine ⟨nf_inA hl rfl, sgq_1009 ?_⟩
    · show (v_iv (n_v (vs ++ [Value.int x, Value.int y, Value.int u]) 22) + 1) ≤ w_ei ws (w_ar ws (n_v (vs ++ [Value.int x, Value.int y, Value.int u]) 4) 2) ((w_fi ws (n_v (vs ++ [Value.int x, Value.int y, Value.int u]) 4) 5 + 2))
      simp only [e_4, e_22, q4]
      exact vc_Mo_edgeItem_33_9 (v_iv (n_v vs 1)) (v_iv (n_v vs 5)) (w_ei ws (w_ar ws (n_v vs 0) 2)) (w_fi ws (n_v vs 0) 5) (v_iv (Value.int x)) k1 k5 d0 d1 f27 ex2
  have nf10 : fc_1 PRD (20, [4, 20, 24, 6, 13, 22, 23], [60, 8, 2, 994, 10, 11, 12, 13, 14, 15, 8, 5, 1, 2]) ws (vs ++ [Value.int x, Value.int y, Value.int u]) := by
    refine ⟨nf_inA hl rfl, sgq_1010 ?_⟩
    · show zRP8 (w_fi ws (n_v (vs ++ [Value.int x, Value.int y, Value.int u]) 4) 10) (w_fi ws (n_v (vs ++ [Value.int x, Value.int y, Value.int u]) 4) 11) (w_fi ws (n_v (vs ++ [Value.int x, Value.int y, Value.int u]) 4) 12) (w_fi ws (n_v (vs ++ [Value.int x, Value.int y, Value.int u]) 4) 13) (w_fi ws (n_v (vs ++ [Value.int x, Value.int y, Value.int u]) 4) 14) (w_fi ws (n_v (vs ++ [Value.int x, Value.int y, Value.int u]) 4) 15) (w_fi ws (n_v (vs ++ [Value.int x, Value.int y, Value.int u]) 4) 8) (w_fi ws (n_v (vs ++ [Value.int x, Value.int y, Value.int u]) 4) 5) (w_ei ws (w_ar ws (n_v (vs ++ [Value.int x, Value.int y, Value.int u]) 4) 1)) (w_ei ws (w_ar ws (n_v (vs ++ [Value.int x, Value.int y, Value.int u]) 4) 2)) (v_iv (n_v (vs ++ [Value.int x, Value.int y, Value.int u]) 20)) (v_iv (n_v (vs ++ [Value.int x, Value.int y, Value.int u]) 24)) (v_iv (n_v (vs ++ [Value.int x, Value.int y, Value.int u]) 6)) (v_iv (n_v (vs ++ [Value.int x, Value.int y, Value.int u]) 13)) (v_iv (n_v (vs ++ [Value.int x, Value.int y, Value.int u]) 22)) (v_iv (n_v (vs ++ [Value.int x, Value.int y, Value.int u]) 23))
      simp only [e_4, e_6, e_13, e_20, e_22, e_23, e_24, q4]
      exact vc_Mo_edgeItem_33_10 (v_iv (n_v vs 1)) (v_iv (n_v vs 2)) (v_iv (n_v vs 3)) (v_iv (n_v vs 6)) (v_iv (n_v vs 7)) (v_iv (n_v vs 13)) (v_iv (n_v vs 15)) (v_iv (n_v vs 17)) (v_iv (n_v vs 18)) (v_iv (n_v vs 19)) (v_iv (n_v vs 20)) (v_iv (n_v vs 21)) (w_fi ws (n_v vs 0) 8) (w_fi ws (n_v vs 0) 15) (w_fi ws (n_v vs 0) 11) (w_fi ws (n_v vs 0) 12) (w_ei ws (w_ar ws (n_v vs 0) 2)) (w_fi ws (n_v vs 0) 5) (w_ei ws (w_ar ws (n_v vs 0) 1)) (w_fi ws (n_v vs 0) 10) (w_fi ws (n_v vs 0) 13) (w_fi ws (n_v vs 0) 14) (w_fi ws (n_v vs 0) 9) (v_iv (Value.int x)) (v_iv (Value.int y)) (v_iv (Value.int u)) k1 k2 k3 k6 k7 k13 k15 k17 k18 k19 k20 k21 f1 g2 f3 f4 f5 f6 f7 f8 f10 f30 kz_0_8 kz_0_9 kz_0_10 kz_0_11 kz_0_12 kz_0_13 kz_0_14 kz_0_15 ex2 ey2 eu2
  have nf11 : fc_1 PRD (20, [2, 4], [30, -1, 1, 0, 0, -1, 1, 11]) ws (vs ++ [Value.int x, Value.int y, Value.int u]) := by
    refine ⟨nf_inA hl rfl, sgq_2005 ?_⟩
    · show 1 * v_iv (n_v (vs ++ [Value.int x, Value.int y, Value.int u]) 2) + ((-1) * w_fi ws (n_v (vs ++ [Value.int x, Value.int y, Value.int u]) 4) 11 + 0) ≤ (-1)
      simp only [e_2, e_4, q4]
      exact vc_Mo_edgeItem_33_11 (v_iv (n_v vs 2)) (v_iv (n_v vs 6)) (v_iv (n_v vs 15)) (v_iv (n_v vs 16)) (v_iv (n_v vs 20)) (v_iv (n_v vs 21)) (w_fi ws (n_v vs 0) 8) (w_fi ws (n_v vs 0) 11) (w_ei ws (w_ar ws (n_v vs 0) 2)) (w_fi ws (n_v vs 0) 5) k2 k6 k15 k16 k20 k21 g2 f3 f4 f11 f13 f22 f24 f25 f26 kz_0_8 kz_0_11
  have nf12 : fc_1 PRD (20, [8, 4], [30, -2001, -1, 0, 0, -1, 1, 11]) ws (vs ++ [Value.int x, Value.int y, Value.int u]) := by
    refine ⟨nf_inA hl rfl, sgq_2013 ?_⟩
    · show (-1) * v_iv (n_v (vs ++ [Value.int x, Value.int y, Value.int u]) 8) + ((-1) * w_fi ws (n_v (vs ++ [Value.int x, Value.int y, Value.int u]) 4) 11 + 0) ≤ (-2001)
      simp only [e_4, e_8, q4]
      exact vc_Mo_edgeItem_33_12 (v_iv (n_v vs 6)) (v_iv (n_v vs 8)) (v_iv (n_v vs 16)) (v_iv (n_v vs 20)) (v_iv (n_v vs 21)) (w_fi ws (n_v vs 0) 8) (w_fi ws (n_v vs 0) 11) (w_ei ws (w_ar ws (n_v vs 0) 2)) (w_fi ws (n_v vs 0) 5) k6 k8 k16 k20 k21 g2 f11 f12 f24 f25 f26 kz_0_8 kz_0_11
  have rf20 : tv_ok ta (0, 0, 23, []) (n_v vs 20) := tv_in t20 (by first | omega | grind) (by first | omega | grind)
  have rf6 : tv_ok ta (0, 0, 23, []) (n_v vs 6) := tv_in t6 (by first | omega | grind) (by first | omega | grind)
  exact ⟨List.forall_mem_cons.mpr ⟨rf20, List.forall_mem_cons.mpr ⟨rf6, (fun _ h => (by cases h))⟩⟩, [Value.int x, Value.int y, Value.int u], ag_three hx hy hu, List.forall_mem_cons.mpr ⟨⟨show (23 : Nat) < 100 from by decide, nf0⟩, List.forall_mem_cons.mpr ⟨⟨show (23 : Nat) < 100 from by decide, nf1⟩, List.forall_mem_cons.mpr ⟨⟨show (23 : Nat) < 100 from by decide, nf2⟩, List.forall_mem_cons.mpr ⟨⟨show (23 : Nat) < 100 from by decide, nf3⟩, List.forall_mem_cons.mpr ⟨⟨show (23 : Nat) < 100 from by decide, nf4⟩, List.forall_mem_cons.mpr ⟨⟨show (23 : Nat) < 100 from by decide, nf5⟩, List.forall_mem_cons.mpr ⟨⟨show (20 : Nat) < 100 from by decide, nf6⟩, List.forall_mem_cons.mpr ⟨⟨show (20 : Nat) < 100 from by decide, nf7⟩, List.forall_mem_cons.mpr ⟨⟨show (20 : Nat) < 100 from by decide, nf8⟩, List.forall_mem_cons.mpr ⟨⟨show (20 : Nat) < 100 from by decide, nf9⟩, List.forall_mem_cons.mpr ⟨⟨show (20 : Nat) < 100 from by decide, nf10⟩, List.forall_mem_cons.mpr ⟨⟨show (20 : Nat) < 100 from by decide, nf11⟩, List.forall_mem_cons.mpr ⟨⟨show (20 : Nat) < 100 from by decide, nf12⟩, (fun _ h => (by cases h))⟩⟩⟩⟩⟩⟩⟩⟩⟩⟩⟩⟩⟩, (fun _ h => (by cases h))⟩
end
