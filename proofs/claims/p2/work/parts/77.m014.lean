theorem oo_St_addPiece_at_gl_2 {kA : Nat → ClassId} : or_ok PRD kA GG o_St_addPiece_at_gl_2 := by
  refine or_mk fun A ta ws vs hD hth hl => ?_
  intro t0 r0 t1 k1 t2 k2 t3 k3 t4 r4 t5 r5 t6 k6 t7 k7 t10 k10 t11 k11 t14 k14 f0 f1 f2 f3 f4 f5 f6 f7 f8 f9 f10 f11 f12
  replace f0 := shm_5 f0
  replace f1 := shm_5 f1
  replace f2 := shm_469 f2
  replace f5 := shm_5 f5
  replace f6 := shm_5 f6
  replace f7 := shm_469 f7
  replace f12 := shm_471 f12
  have q12 : n_v vs 12 = n_v vs 4 := f0.symm
  have q13 : n_v vs 13 = n_v vs 5 := f1.symm
  have q8 : n_v vs 8 = n_v vs 4 := f5.symm
  have q9 : n_v vs 9 = n_v vs 5 := f6.symm
  simp only [q12, q13, q8, q9] at f2 f7 f12
  have cr_0_2 := fdq_107 hD hth r0
  have cr_0_3 := fdq_108 hD hth r0
  have cr_0_4 := fdq_109 hD hth r0
  have cr_0_5 := fdq_110 hD hth r0
  have cr_4_7 := fdq_52 hD hth r4
  have cr_4_8 := fdq_53 hD hth r4
  have cr_4_9 := fdq_111 hD hth r4
  have cr_5_9 := fdq_80 hD hth r5
  have hK_0_2 := elq_50 hD hth cr_0_2
  have hK_0_3 := elq_51 hD hth cr_0_3
  have hK_0_4 := elq_52 hD hth cr_0_4
  have hK_0_5 := elq_53 hD hth cr_0_5
  have hK_4_7 := elq_10 hD hth cr_4_7
  have hK_4_8 := elq_11 hD hth cr_4_8
  have hK_4_9 := elq_54 hD hth cr_4_9
  have hK_5_9 := elq_35 hD hth cr_5_9
  have kz_0_1 := fdq_112 hD hth r0
  have nf0 : fc_1 PRD (20, [0, 4, 5, 6], [60, 1, 8, 653, 1, 2, 3, 4, 5, 1007, 1008, 1009, 2009]) ws (vs) := ⟨nf_in hl rfl, sgq_892 (vc_St_addPiece_at_gl_2_0 (v_iv (n_v vs 1)) (v_iv (n_v vs 2)) (v_iv (n_v vs 3)) (v_iv (n_v vs 6)) (v_iv (n_v vs 7)) (v_iv (n_v vs 10)) (v_iv (n_v vs 11)) (v_iv (n_v vs 14)) (w_ei ws (w_ar ws (n_v vs 4) 7)) (w_ei ws (w_ar ws (n_v vs 4) 8)) (w_ei ws (w_ar ws (n_v vs 4) 9)) (w_ei ws (w_ar ws (n_v vs 5) 9)) (w_ei ws (w_ar ws (n_v vs 0) 2)) (w_ei ws (w_ar ws (n_v vs 0) 3)) (w_ei ws (w_ar ws (n_v vs 0) 4)) (w_ei ws (w_ar ws (n_v vs 0) 5)) (w_fi ws (n_v vs 0) 1) k1 k2 k3 k6 k7 k10 k11 k14 f2 (shm_470 f3) (shm_891 f4) f7 (shm_470 f8) (shm_48 f9) (shm_893 f10) (shm_470 f11) f12 hK_0_2 hK_0_3 hK_0_4 hK_0_5 hK_4_7 hK_4_8 hK_4_9 hK_5_9 kz_0_1)⟩
  refine ⟨(fun _ h => (by cases h)), [], trivial, ?_, (fun _ h => (by cases h))⟩
  rw [List.append_nil]
  exact List.forall_mem_cons.mpr ⟨⟨show (20 : Nat) < 100 from by decide, nf0⟩, (fun _ h => (by cases h))⟩
def n_St_addPiece_at_gl_an : List an_T := []
def t_St_addPiece_at_gl_ct : ct_L := [(19, 40, e_St_addArc_at_gl), (43, 40, e_St_addArc_at_gl)]
set_option maxRecDepth 100000 in
theorem c_St_addPiece_at_gl {l : Launch} {D : va_G} {kA : Nat → ClassId} (h_St_addArc_at_gl : ct_ok PRD l D kA GG y_St_addArc_at_gl z_St_addArc_at_gl e_St_addArc_at_gl) : ct_ok PRD l D kA GG y_St_addPiece_at_gl z_St_addPiece_at_gl e_St_addPiece_at_gl := chk_all_ok (FT := []) (PT := []) (CT := t_St_addPiece_at_gl_ct) (KT := []) (NT := []) (AN := n_St_addPiece_at_gl_an) (OT := [o_St_addPiece_at_gl_0, o_St_addPiece_at_gl_1, o_St_addPiece_at_gl_2]) 0 200 (List.forall_mem_cons.mpr ⟨oo_St_addPiece_at_gl_0, List.forall_mem_cons.mpr ⟨oo_St_addPiece_at_gl_1, List.forall_mem_cons.mpr ⟨oo_St_addPiece_at_gl_2, List.forall_mem_nil _⟩⟩⟩) (by decide +kernel) ⟨List.forall_mem_nil _, List.forall_mem_nil _, List.forall_mem_cons.mpr ⟨cl_virtual (y := y_St_addArc_at_gl) (ci := 10) rfl rfl ⟨_, _, rfl⟩ (by decide +kernel) h_St_addArc_at_gl wm_1333 wm_19 wm_1330 wm_1332 wv_4_11 ⟨by decide, by decide, by decide +kernel⟩ (by decide), List.forall_mem_cons.mpr ⟨cl_virtual (y := y_St_addArc_at_gl) (ci := 10) rfl rfl ⟨_, _, rfl⟩ (by decide +kernel) h_St_addArc_at_gl wm_1333 wm_19 wm_1330 wm_1332 wv_4_11 ⟨by decide, by decide, by decide +kernel⟩ (by decide), List.forall_mem_nil _⟩⟩, List.forall_mem_nil _, List.forall_mem_nil _, GG_pl⟩ (by decide +kernel)
set_option maxHeartbeats 4000000 in
theorem vc_St_ringInBy_0_0 (x2 : Int) (x3 : Int) (mark_0 : Int → Int) (from_0 : Int → Int) (by_0 : Int → Int) (nodes_0 : Int) (k2 : (-1) ≤ x2 ∧ x2 ≤ (-1)) (k3 : 0 ≤ x3 ∧ x3 ≤ 0) (hT1 : ∀ j : Int, 0 ≤ j → j < x2 + 73 → (-1) ≤ mark_0 j ∧ mark_0 j ≤ (-1)) (hK_0_2 : ∀ j : Int, 0 ≤ j → j < 384 → 0 ≤ from_0 j ∧ from_0 j ≤ 71) (hK_0_7 : ∀ j : Int, 0 ≤ j → j < 72 → (-1) ≤ by_0 j ∧ by_0 j ≤ 383) (hK_0_8 : ∀ j : Int, 0 ≤ j → j < 72 → (-1) ≤ mark_0 j ∧ mark_0 j ≤ 71) (kz_0_0 : 0 ≤ nodes_0 ∧ nodes_0 ≤ 72) : SNO (nodes_0) (from_0) (by_0) (mark_0) (x3) := by
  first
    | exact sno_start (fun w a b => by first | (have q := hT0 w a (by omega); omega) | (have q := hT1 w a (by omega); omega) | (have q := hT2 w a (by omega); omega) | (have q := hT3 w a (by omega); omega)) (by omega) (by omega)
    | (skip; exact sni_next ‹SNI _ _ _ _ _ _ _› (by omega) (by omega) (by omega) (by omega) (by first | (left; omega) | (right; left; omega) | (right; right; omega)) (by first | (left; omega) | (right; omega)) (by omega) (by omega))
  
def o_St_ringInBy_0 : or_T := (10, 4, [(0, (2, 0, 0, [10])), (2, (0, -1, -1, [])), (3, (0, 0, 0, []))], [(9, [1, 0], [8]), (20, [1, 2], [8, -1, -1, 73])], [], [], [(20, [0, 3], [60, 1, 3, 510, 0, 2, 7, 8]), (24, [0, 0], [])], [], [])
theorem oo_St_ringInBy_0 {kA : Nat → ClassId} : or_ok PRD kA GG o_St_ringInBy_0 := by
  refine or_mk fun A ta ws vs hD hth hl => ?_
  intro t0 r0 t2 k2 t3 k3 f0 f1
  replace f0 := shm_143 f0
  replace f1 := shm_30 f1
  have cr_0_2 := fdq_107 hD hth r0
  have cr_0_7 := fdq_115 hD hth r0
  have cr_0_8 := fdq_224 hD hth r0
  have ad_1 : v_ad (n_v vs 1) = w_ar ws (n_v vs 0) 8 := congrArg v_ad f0
  have hT1 : ∀ j : Int, 0 ≤ j → j < v_iv (n_v vs 2) + 73 → (-1) ≤ w_ei ws (w_ar ws (n_v vs 0) 8) j ∧ w_ei ws (w_ar ws (n_v vs 0) 8) j ≤ (-1) := fun j h0 h1 => by have h2 := f1 j.toNat (by omega); rw [ad_1] at h2; exact h2
  have hK_0_2 := elq_50 hD hth cr_0_2
  have hK_0_7 := elq_56 hD hth cr_0_7
  have hK_0_8 := elq_140 hD hth cr_0_8
  have kz_0_0 := fdq_113 hD hth r0
  have nf0 : fc_1 PRD (20, [0, 3], [60, 1, 3, 510, 0, 2, 7, 8]) ws (vs) := ⟨nf_in hl rfl, sgq_894 (vc_St_ringInBy_0_0 (v_iv (n_v vs 2)) (v_iv (n_v vs 3)) (w_ei ws (w_ar ws (n_v vs 0) 8)) (w_ei ws (w_ar ws (n_v vs 0) 2)) (w_ei ws (w_ar ws (n_v vs 0) 7)) (w_fi ws (n_v vs 0) 0) k2 k3 hT1 hK_0_2 hK_0_7 hK_0_8 kz_0_0)⟩
  have nf1 : fc_1 PRD (24, [0, 0], []) ws (vs) := by
    refine ⟨nf_in hl rfl, sgq_1 ?_⟩
    · show n_v vs 0 = n_v vs 0
      first | rfl | simp only [true_and]
  refine ⟨(fun _ h => (by cases h)), [], trivial, ?_, (fun _ h => (by cases h))⟩
  rw [List.append_nil]
  exact List.forall_mem_cons.mpr ⟨⟨show (20 : Nat) < 100 from by decide, nf0⟩, List.forall_mem_cons.mpr ⟨⟨show (24 : Nat) < 100 from by decide, nf1⟩, (fun _ h => (by cases h))⟩⟩
set_option maxHeartbeats 4000000 in
theorem vc_St_ringInBy_1_0 (x2 : Int) (x3 : Int) (x4 : Int) (nodes_0 : Int) (from_0 : Int → Int) (by_0 : Int → Int) (mark_0 : Int → Int) (k2 : 0 ≤ x2 ∧ x2 ≤ 72) (k3 : 0 ≤ x3 ∧ x3 ≤ 72) (k4 : (-1) ≤ x4 ∧ x4 ≤ (-1)) (d0 : x3 + 0 ≤ x2 ∧ x2 ≤ x3 + 4294967296) (f0 : x3 ≤ x2) (g1 : x3 = nodes_0) (f2 : SNO (nodes_0) (from_0) (by_0) (mark_0) (x2)) (hK_0_2 : ∀ j : Int, 0 ≤ j → j < 384 → 0 ≤ from_0 j ∧ from_0 j ≤ 71) (hK_0_7 : ∀ j : Int, 0 ≤ j → j < 72 → (-1) ≤ by_0 j ∧ by_0 j ≤ 383) (hK_0_8 : ∀ j : Int, 0 ≤ j → j < 72 → (-1) ≤ mark_0 j ∧ mark_0 j ≤ 71) (kz_0_0 : 0 ≤ nodes_0 ∧ nodes_0 ≤ 72) : SNB (nodes_0) (from_0) (by_0) (x4) := by
  first
    | exact snb_none ‹SNO _ _ _ _ _› (by omega) (by omega)
    | (skip; exact snb_ring ‹SNI _ _ _ _ _ _ _› rfl (by omega) (by omega) (by omega) (by omega) (by omega))
  
def o_St_ringInBy_1 : or_T := (108, 5, [(0, (2, 0, 0, [10])), (2, (0, 0, 72, [])), (3, (0, 0, 72, [])), (4, (0, -1, -1, []))], [(7, [2, 3], [3]), (9, [3, 1], [0]), (20, [1, 2], [60, 1, 3, 510, 0, 2, 7, 8]), (24, [0, 1], [])], [], [], [(20, [0, 4], [60, 1, 2, 512, 0, 2, 7])], [], [(2, 3, 0, 4294967296)])
theorem oo_St_ringInBy_1 {kA : Nat → ClassId} : or_ok PRD kA GG o_St_ringInBy_1 := by
  refine or_mk fun A ta ws vs hD hth hl => ?_
  intro t0 r0 t2 k2 t3 k3 t4 k4 d0 f0 f1 f2 f3
  replace f1 := shm_175 f1
  replace f2 := shm_894 f2
  replace f3 := shm_5 f3
  have q1 : n_v vs 1 = n_v vs 0 := f3.symm
  simp only [q1] at f1 f2
  have cr_0_2 := fdq_107 hD hth r0
  have cr_0_7 := fdq_115 hD hth r0
  have cr_0_8 := fdq_224 hD hth r0
  have g1 : v_iv (n_v vs 3) = w_fi ws (n_v vs 0) 0 := congrArg v_iv f1
  have hK_0_2 := elq_50 hD hth cr_0_2
  have hK_0_7 := elq_56 hD hth cr_0_7
  have hK_0_8 := elq_140 hD hth cr_0_8
  have kz_0_0 := fdq_113 hD hth r0
  have nf0 : fc_1 PRD (20, [0, 4], [60, 1, 2, 512, 0, 2, 7]) ws (vs) := ⟨nf_in hl rfl, sgq_895 (vc_St_ringInBy_1_0 (v_iv (n_v vs 2)) (v_iv (n_v vs 3)) (v_iv (n_v vs 4)) (w_fi ws (n_v vs 0) 0) (w_ei ws (w_ar ws (n_v vs 0) 2)) (w_ei ws (w_ar ws (n_v vs 0) 7)) (w_ei ws (w_ar ws (n_v vs 0) 8)) k2 k3 k4 d0 (shm_2 f0) g1 f2 hK_0_2 hK_0_7 hK_0_8 kz_0_0)⟩
  refine ⟨(fun _ h => (by cases h)), [], trivial, ?_, (fun _ h => (by cases h))⟩
  rw [List.append_nil]
  exact List.forall_mem_cons.mpr ⟨⟨show (20 : Nat) < 100 from by decide, nf0⟩, (fun _ h => (by cases h))⟩
set_option maxHeartbeats 4000000 in
theorem vc_St_ringInBy_2_0 (x2 : Int) (x3 : Int) (x4 : Int) (nodes_0 : Int) (from_0 : Int → Int) (by_0 : Int → Int) (mark_0 : Int → Int) (k2 : 0 ≤ x2 ∧ x2 ≤ 71) (k3 : 1 ≤ x3 ∧ x3 ≤ 72) (k4 : 0 ≤ x4 ∧ x4 ≤ 0) (d0 : x3 + (-4294967296) ≤ x2 ∧ x2 ≤ x3 + (-1)) (f0 : x2 < x3) (g1 : x3 = nodes_0) (f2 : SNO (nodes_0) (from_0) (by_0) (mark_0) (x2)) (hK_0_2 : ∀ j : Int, 0 ≤ j → j < 384 → 0 ≤ from_0 j ∧ from_0 j ≤ 71) (hK_0_7 : ∀ j : Int, 0 ≤ j → j < 72 → (-1) ≤ by_0 j ∧ by_0 j ≤ 383) (hK_0_8 : ∀ j : Int, 0 ≤ j → j < 72 → (-1) ≤ mark_0 j ∧ mark_0 j ≤ 71) (kz_0_0 : 0 ≤ nodes_0 ∧ nodes_0 ≤ 72) : SNI (nodes_0) (from_0) (by_0) (mark_0) (x2) (x2) (x4) := by
  first
    | exact sni_start ‹SNO _ _ _ _ _› (by omega) (by omega)
    | (skip; exact sni_step ‹SNI _ _ _ _ _ _ _› (by assumption) rfl rfl (by omega) (by omega) (by omega) (by omega) (by first | (left; omega) | (right; exact ⟨by omega, rfl⟩)) (by omega))
  
set_option maxHeartbeats 4000000 in
theorem vc_St_ringInBy_2_1 (x2 : Int) (x3 : Int) (x4 : Int) (nodes_0 : Int) (from_0 : Int → Int) (by_0 : Int → Int) (mark_0 : Int → Int) (k2 : 0 ≤ x2 ∧ x2 ≤ 71) (k3 : 1 ≤ x3 ∧ x3 ≤ 72) (k4 : 0 ≤ x4 ∧ x4 ≤ 0) (d0 : x3 + (-4294967296) ≤ x2 ∧ x2 ≤ x3 + (-1)) (f0 : x2 < x3) (g1 : x3 = nodes_0) (f2 : SNO (nodes_0) (from_0) (by_0) (mark_0) (x2)) (hK_0_2 : ∀ j : Int, 0 ≤ j → j < 384 → 0 ≤ from_0 j ∧ from_0 j ≤ 71) (hK_0_7 : ∀ j : Int, 0 ≤ j → j < 72 → (-1) ≤ by_0 j ∧ by_0 j ≤ 383) (hK_0_8 : ∀ j : Int, 0 ≤ j → j < 72 → (-1) ≤ mark_0 j ∧ mark_0 j ≤ 71) (kz_0_0 : 0 ≤ nodes_0 ∧ nodes_0 ≤ 72) : (x2 + 1) ≤ nodes_0 := by
  omega
def o_St_ringInBy_2 : or_T := (22, 5, [(0, (2, 0, 0, [10])), (2, (0, 0, 71, [])), (3, (0, 1, 72, [])), (4, (0, 0, 0, []))], [(7, [2, 3], [2]), (9, [3, 1], [0]), (20, [1, 2], [60, 1, 3, 510, 0, 2, 7, 8]), (24, [0, 1], [])], [], [], [(20, [1, 2, 2, 4], [60, 1, 3, 511, 0, 2, 7, 8]), (20, [2, 1], [50, 1, 0, 1000, 0, 6, 4, 2, 1, 0, 0, 1, 2, 1, 0])], [], [(2, 3, -4294967296, -1)])
theorem oo_St_ringInBy_2 {kA : Nat → ClassId} : or_ok PRD kA GG o_St_ringInBy_2 := by
  refine or_mk fun A ta ws vs hD hth hl => ?_
  intro t0 r0 t2 k2 t3 k3 t4 k4 d0 f0 f1 f2 f3
  replace f0 := shm_6 f0
  replace f1 := shm_175 f1
  replace f2 := shm_894 f2
  replace f3 := shm_5 f3
  have q1 : n_v vs 1 = n_v vs 0 := f3.symm
  simp only [q1] at f1 f2
  have cr_0_2 := fdq_107 hD hth r0
  have cr_0_7 := fdq_115 hD hth r0
  have cr_0_8 := fdq_224 hD hth r0
  have g1 : v_iv (n_v vs 3) = w_fi ws (n_v vs 0) 0 := congrArg v_iv f1
  have hK_0_2 := elq_50 hD hth cr_0_2
  have hK_0_7 := elq_56 hD hth cr_0_7
  have hK_0_8 := elq_140 hD hth cr_0_8
  have kz_0_0 := fdq_113 hD hth r0
  have nf0 : fc_1 PRD (20, [1, 2, 2, 4], [60, 1, 3, 511, 0, 2, 7, 8]) ws (vs) := by
    refine ⟨nf_in hl rfl, sgq_896 ?_⟩
    · show SNI (w_fi ws (n_v vs 1) 0) (w_ei ws (w_ar ws (n_v vs 1) 2)) (w_ei ws (w_ar ws (n_v vs 1) 7)) (w_ei ws (w_ar ws (n_v vs 1) 8)) (v_iv (n_v vs 2)) (v_iv (n_v vs 2)) (v_iv (n_v vs 4))
      rw [q1]
      exact vc_St_ringInBy_2_0 (v_iv (n_v vs 2)) (v_iv (n_v vs 3)) (v_iv (n_v vs 4)) (w_fi ws (n_v vs 0) 0) (w_ei ws (w_ar ws (n_v vs 0) 2)) (w_ei ws (w_ar ws (n_v vs 0) 7)) (w_ei ws (w_ar ws (n_v vs 0) 8)) k2 k3 k4 d0 f0 g1 f2 hK_0_2 hK_0_7 hK_0_8 kz_0_0
  have nf1 : fc_1 PRD (20, [2, 1], [50, 1, 0, 1000, 0, 6, 4, 2, 1, 0, 0, 1, 2, 1, 0]) ws (vs) := by
    refine ⟨nf_in hl rfl, sgq_897 ?_⟩
    · show (v_iv (n_v vs 2) + 1) ≤ w_fi ws (n_v vs 1) 0
      rw [q1]
      exact vc_St_ringInBy_2_1 (v_iv (n_v vs 2)) (v_iv (n_v vs 3)) (v_iv (n_v vs 4)) (w_fi ws (n_v vs 0) 0) (w_ei ws (w_ar ws (n_v vs 0) 2)) (w_ei ws (w_ar ws (n_v vs 0) 7)) (w_ei ws (w_ar ws (n_v vs 0) 8)) k2 k3 k4 d0 f0 g1 f2 hK_0_2 hK_0_7 hK_0_8 kz_0_0
  refine ⟨(fun _ h => (by cases h)), [], trivial, ?_, (fun _ h => (by cases h))⟩
  rw [List.append_nil]
  exact List.forall_mem_cons.mpr ⟨⟨show (20 : Nat) < 100 from by decide, nf0⟩, List.forall_mem_cons.mpr ⟨⟨show (20 : Nat) < 100 from by decide, nf1⟩, (fun _ h => (by cases h))⟩⟩
set_option maxHeartbeats 4000000 in
theorem vc_St_ringInBy_3_0 (x2 : Int) (x3 : Int) (x4 : Int) (x5 : Int) (x6 : Int) (x7 : Int) (nodes_0 : Int) (from_0 : Int → Int) (by_0 : Int → Int) (mark_0 : Int → Int) (k2 : 0 ≤ x2 ∧ x2 ≤ 71) (k3 : (-1) ≤ x3 ∧ x3 ≤ (-1)) (k4 : 1 ≤ x4 ∧ x4 ≤ 73) (k5 : 0 ≤ x5 ∧ x5 ≤ 72) (k6 : (-1) ≤ x6 ∧ x6 ≤ (-1)) (k7 : 1 ≤ x7 ∧ x7 ≤ 72) (d0 : x2 + 1 ≤ x7 ∧ x7 ≤ x2 + 1) (d1 : x5 + 1 ≤ x4 ∧ x4 ≤ x5 + 4294967296) (f0 : x7 = x2 + 1) (f1 : x3 = x6) (f2 : x5 < x4) (g3 : x5 = nodes_0) (f4 : SNI (nodes_0) (from_0) (by_0) (mark_0) (x2) (x3) (x4)) (f5 : (x2 + 1) ≤ nodes_0) (hK_0_2 : ∀ j : Int, 0 ≤ j → j < 384 → 0 ≤ from_0 j ∧ from_0 j ≤ 71) (hK_0_7 : ∀ j : Int, 0 ≤ j → j < 72 → (-1) ≤ by_0 j ∧ by_0 j ≤ 383) (hK_0_8 : ∀ j : Int, 0 ≤ j → j < 72 → (-1) ≤ mark_0 j ∧ mark_0 j ≤ 71) (kz_0_0 : 0 ≤ nodes_0 ∧ nodes_0 ≤ 72) : SNO (nodes_0) (from_0) (by_0) (mark_0) (x7) := by
  first
    | exact sno_start (fun w a b => by first | (have q := hT0 w a (by omega); omega) | (have q := hT1 w a (by omega); omega) | (have q := hT2 w a (by omega); omega) | (have q := hT3 w a (by omega); omega)) (by omega) (by omega)
    | (skip; exact sni_next ‹SNI _ _ _ _ _ _ _› (by omega) (by omega) (by omega) (by omega) (by first | (left; omega) | (right; left; omega) | (right; right; omega)) (by first | (left; omega) | (right; omega)) (by omega) (by omega))
  
def o_St_ringInBy_3 : or_T := (10, 8, [(0, (2, 0, 0, [10])), (2, (0, 0, 71, [])), (3, (0, -1, -1, [])), (4, (0, 1, 73, [])), (5, (0, 0, 72, [])), (6, (0, -1, -1, [])), (7, (0, 1, 72, []))], [(6, [7, 2], [1]), (7, [3, 6], [0]), (7, [4, 5], [4]), (9, [5, 1], [0]), (20, [1, 2, 3, 4], [60, 1, 3, 511, 0, 2, 7, 8]), (20, [2, 1], [50, 1, 0, 1000, 0, 6, 4, 2, 1, 0, 0, 1, 2, 1, 0]), (24, [0, 1], [])], [], [], [(20, [1, 7], [60, 1, 3, 510, 0, 2, 7, 8])], [], [(7, 2, 1, 1), (4, 5, 1, 4294967296)])
theorem oo_St_ringInBy_3 {kA : Nat → ClassId} : or_ok PRD kA GG o_St_ringInBy_3 := by
  refine or_mk fun A ta ws vs hD hth hl => ?_
  intro t0 r0 t2 k2 t3 k3 t4 k4 t5 k5 t6 k6 t7 k7 d0 d1 f0 f1 f2 f3 f4 f5 f6
  replace f0 := shm_4 f0
  replace f1 := shm_37 f1
  replace f2 := shm_21 f2
  replace f3 := shm_175 f3
  replace f4 := shm_898 f4
  replace f5 := shm_897 f5
  replace f6 := shm_5 f6
  have q1 : n_v vs 1 = n_v vs 0 := f6.symm
  simp only [q1] at f3 f4 f5
  have cr_0_2 := fdq_107 hD hth r0
  have cr_0_7 := fdq_115 hD hth r0
  have cr_0_8 := fdq_224 hD hth r0
  have g3 : v_iv (n_v vs 5) = w_fi ws (n_v vs 0) 0 := congrArg v_iv f3
  have hK_0_2 := elq_50 hD hth cr_0_2
  have hK_0_7 := elq_56 hD hth cr_0_7
  have hK_0_8 := elq_140 hD hth cr_0_8
  have kz_0_0 := fdq_113 hD hth r0
  have nf0 : fc_1 PRD (20, [1, 7], [60, 1, 3, 510, 0, 2, 7, 8]) ws (vs) := by
    refine ⟨nf_in hl rfl, sgq_894 ?_⟩
    · show SNO (w_fi ws (n_v vs 1) 0) (w_ei ws (w_ar ws (n_v vs 1) 2)) (w_ei ws (w_ar ws (n_v vs 1) 7)) (w_ei ws (w_ar ws (n_v vs 1) 8)) (v_iv (n_v vs 7))
      rw [q1]
      exact vc_St_ringInBy_3_0 (v_iv (n_v vs 2)) (v_iv (n_v vs 3)) (v_iv (n_v vs 4)) (v_iv (n_v vs 5)) (v_iv (n_v vs 6)) (v_iv (n_v vs 7)) (w_fi ws (n_v vs 0) 0) (w_ei ws (w_ar ws (n_v vs 0) 2)) (w_ei ws (w_ar ws (n_v vs 0) 7)) (w_ei ws (w_ar ws (n_v vs 0) 8)) k2 k3 k4 k5 k6 k7 d0 d1 f0 f1 f2 g3 f4 f5 hK_0_2 hK_0_7 hK_0_8 kz_0_0
  refine ⟨(fun _ h => (by cases h)), [], trivial, ?_, (fun _ h => (by cases h))⟩
  rw [List.append_nil]
  exact List.forall_mem_cons.mpr ⟨⟨show (20 : Nat) < 100 from by decide, nf0⟩, (fun _ h => (by cases h))⟩
set_option maxHeartbeats 4000000 in
theorem vc_St_ringInBy_4_0 (x2 : Int) (x3 : Int) (x4 : Int) (x5 : Int) (x6 : Int) (x8 : Int) (x9 : Int) (mark_0 : Int → Int) (nodes_0 : Int) (from_0 : Int → Int) (by_0 : Int → Int) (k2 : 0 ≤ x2 ∧ x2 ≤ 71) (k3 : 0 ≤ x3 ∧ x3 ≤ 71) (k4 : 1 ≤ x4 ∧ x4 ≤ 73) (k5 : 0 ≤ x5 ∧ x5 ≤ 72) (k6 : (-1) ≤ x6 ∧ x6 ≤ (-1)) (k8 : (-1) ≤ x8 ∧ x8 ≤ 71) (k9 : 1 ≤ x9 ∧ x9 ≤ 72) (d0 : x2 + 1 ≤ x9 ∧ x9 ≤ x2 + 1) (d1 : x5 + 1 ≤ x4 ∧ x4 ≤ x5 + 4294967296) (f0 : x9 = x2 + 1) (f1 : x8 ≠ x2) (h2 : x8 = mark_0 (x3)) (f4 : x3 ≠ x6) (f5 : x5 < x4) (g6 : x5 = nodes_0) (f7 : SNI (nodes_0) (from_0) (by_0) (mark_0) (x2) (x3) (x4)) (f8 : (x2 + 1) ≤ nodes_0) (hK_0_2 : ∀ j : Int, 0 ≤ j → j < 384 → 0 ≤ from_0 j ∧ from_0 j ≤ 71) (hK_0_7 : ∀ j : Int, 0 ≤ j → j < 72 → (-1) ≤ by_0 j ∧ by_0 j ≤ 383) (hK_0_8 : ∀ j : Int, 0 ≤ j → j < 72 → (-1) ≤ mark_0 j ∧ mark_0 j ≤ 71) (kz_0_0 : 0 ≤ nodes_0 ∧ nodes_0 ≤ 72) : SNO (nodes_0) (from_0) (by_0) (mark_0) (x9) := by
  first
    | exact sno_start (fun w a b => by first | (have q := hT0 w a (by omega); omega) | (have q := hT1 w a (by omega); omega) | (have q := hT2 w a (by omega); omega) | (have q := hT3 w a (by omega); omega)) (by omega) (by omega)
    | (skip; (first | subst h2 | skip); exact sni_next ‹SNI _ _ _ _ _ _ _› (by omega) (by omega) (by omega) (by omega) (by first | (left; omega) | (right; left; omega) | (right; right; omega)) (by first | (left; omega) | (right; omega)) (by omega) (by omega))
  
def o_St_ringInBy_4 : or_T := (10, 10, [(0, (2, 0, 0, [10])), (2, (0, 0, 71, [])), (3, (0, 0, 71, [])), (4, (0, 1, 73, [])), (5, (0, 0, 72, [])), (6, (0, -1, -1, [])), (8, (0, -1, 71, [])), (9, (0, 1, 72, []))], [(6, [9, 2], [1]), (7, [8, 2], [1]), (10, [8, 7, 3], []), (9, [7, 1], [8]), (7, [3, 6], [1]), (7, [4, 5], [4]), (9, [5, 1], [0]), (20, [1, 2, 3, 4], [60, 1, 3, 511, 0, 2, 7, 8]), (20, [2, 1], [50, 1, 0, 1000, 0, 6, 4, 2, 1, 0, 0, 1, 2, 1, 0]), (24, [0, 1], [])], [], [], [(20, [1, 9], [60, 1, 3, 510, 0, 2, 7, 8])], [], [(9, 2, 1, 1), (4, 5, 1, 4294967296)])
theorem oo_St_ringInBy_4 {kA : Nat → ClassId} : or_ok PRD kA GG o_St_ringInBy_4 := by
  refine or_mk fun A ta ws vs hD hth hl => ?_
  intro t0 r0 t2 k2 t3 k3 t4 k4 t5 k5 t6 k6 t8 k8 t9 k9 d0 d1 f0 f1 f2 f3 f4 f5 f6 f7 f8 f9
  replace f0 := shm_4 f0
  replace f1 := shm_40 f1
  replace f2 := shm_106 f2
  replace f3 := shm_143 f3
  replace f4 := shm_40 f4
  replace f5 := shm_21 f5
  replace f6 := shm_175 f6
  replace f7 := shm_898 f7
  replace f8 := shm_897 f8
  replace f9 := shm_5 f9
  have q1 : n_v vs 1 = n_v vs 0 := f9.symm
  simp only [q1] at f3 f6 f7 f8
  have cr_0_2 := fdq_107 hD hth r0
  have cr_0_7 := fdq_115 hD hth r0
  have cr_0_8 := fdq_224 hD hth r0
  have ad_7 : v_ad (n_v vs 7) = w_ar ws (n_v vs 0) 8 := congrArg v_ad f3
  simp only [ad_7] at f2
  have h2 : v_iv (n_v vs 8) = w_ei ws (w_ar ws (n_v vs 0) 8) (v_iv (n_v vs 3)) := f2
  have g6 : v_iv (n_v vs 5) = w_fi ws (n_v vs 0) 0 := congrArg v_iv f6
  have hK_0_2 := elq_50 hD hth cr_0_2
  have hK_0_7 := elq_56 hD hth cr_0_7
  have hK_0_8 := elq_140 hD hth cr_0_8
  have kz_0_0 := fdq_113 hD hth r0
  have nf0 : fc_1 PRD (20, [1, 9], [60, 1, 3, 510, 0, 2, 7, 8]) ws (vs) := by
    refine ⟨nf_in hl rfl, sgq_894 ?_⟩
    · show SNO (w_fi ws (n_v vs 1) 0) (w_ei ws (w_ar ws (n_v vs 1) 2)) (w_ei ws (w_ar ws (n_v vs 1) 7)) (w_ei ws (w_ar ws (n_v vs 1) 8)) (v_iv (n_v vs 9))
      rw [q1]
      exact vc_St_ringInBy_4_0 (v_iv (n_v vs 2)) (v_iv (n_v vs 3)) (v_iv (n_v vs 4)) (v_iv (n_v vs 5)) (v_iv (n_v vs 6)) (v_iv (n_v vs 8)) (v_iv (n_v vs 9)) (w_ei ws (w_ar ws (n_v vs 0) 8)) (w_fi ws (n_v vs 0) 0) (w_ei ws (w_ar ws (n_v vs 0) 2)) (w_ei ws (w_ar ws (n_v vs 0) 7)) k2 k3 k4 k5 k6 k8 k9 d0 d1 f0 f1 h2 f4 f5 g6 f7 f8 hK_0_2 hK_0_7 hK_0_8 kz_0_0
  refine ⟨(fun _ h => (by cases h)), [], trivial, ?_, (fun _ h => (by cases h))⟩
  rw [List.append_nil]
  exact List.forall_mem_cons.mpr ⟨⟨show (20 : Nat) < 100 from by decide, nf0⟩, (fun _ h => (by cases h))⟩
set_option maxHeartbeats 4000000 in
theorem vc_St_ringInBy_5_0 (x2 : Int) (x3 : Int) (x4 : Int) (x5 : Int) (x6 : Int) (x8 : Int) (mark_0 : Int → Int) (nodes_0 : Int) (from_0 : Int → Int) (by_0 : Int → Int) (k2 : 0 ≤ x2 ∧ x2 ≤ 71) (k3 : 0 ≤ x3 ∧ x3 ≤ 71) (k4 : 1 ≤ x4 ∧ x4 ≤ 73) (k5 : 0 ≤ x5 ∧ x5 ≤ 72) (k6 : (-1) ≤ x6 ∧ x6 ≤ (-1)) (k8 : 0 ≤ x8 ∧ x8 ≤ 71) (d0 : x2 + 0 ≤ x8 ∧ x8 ≤ x2 + 0) (d1 : x5 + 1 ≤ x4 ∧ x4 ≤ x5 + 4294967296) (f0 : x8 = x2) (h1 : x8 = mark_0 (x3)) (f3 : x3 ≠ x6) (f4 : x5 < x4) (g5 : x5 = nodes_0) (f6 : SNI (nodes_0) (from_0) (by_0) (mark_0) (x2) (x3) (x4)) (f7 : (x2 + 1) ≤ nodes_0) (hK_0_2 : ∀ j : Int, 0 ≤ j → j < 384 → 0 ≤ from_0 j ∧ from_0 j ≤ 71) (hK_0_7 : ∀ j : Int, 0 ≤ j → j < 72 → (-1) ≤ by_0 j ∧ by_0 j ≤ 383) (hK_0_8 : ∀ j : Int, 0 ≤ j → j < 72 → (-1) ≤ mark_0 j ∧ mark_0 j ≤ 71) (kz_0_0 : 0 ≤ nodes_0 ∧ nodes_0 ≤ 72) : SNB (nodes_0) (from_0) (by_0) (x3) := by
  first
    | exact snb_none ‹SNO _ _ _ _ _› (by omega) (by omega)
    | (skip; (first | subst h1 | skip); exact snb_ring ‹SNI _ _ _ _ _ _ _› rfl (by omega) (by omega) (by omega) (by omega) (by omega))
  
def o_St_ringInBy_5 : or_T := (100, 9, [(0, (2, 0, 0, [10])), (2, (0, 0, 71, [])), (3, (0, 0, 71, [])), (4, (0, 1, 73, [])), (5, (0, 0, 72, [])), (6, (0, -1, -1, [])), (8, (0, 0, 71, []))], [(7, [8, 2], [0]), (10, [8, 7, 3], []), (9, [7, 1], [8]), (7, [3, 6], [1]), (7, [4, 5], [4]), (9, [5, 1], [0]), (20, [1, 2, 3, 4], [60, 1, 3, 511, 0, 2, 7, 8]), (20, [2, 1], [50, 1, 0, 1000, 0, 6, 4, 2, 1, 0, 0, 1, 2, 1, 0]), (24, [0, 1], [])], [], [], [(20, [0, 3], [60, 1, 2, 512, 0, 2, 7])], [], [(8, 2, 0, 0), (4, 5, 1, 4294967296)])
theorem oo_St_ringInBy_5 {kA : Nat → ClassId} : or_ok PRD kA GG o_St_ringInBy_5 := by
  refine or_mk fun A ta ws vs hD hth hl => ?_
  intro t0 r0 t2 k2 t3 k3 t4 k4 t5 k5 t6 k6 t8 k8 d0 d1 f0 f1 f2 f3 f4 f5 f6 f7 f8
  replace f1 := shm_106 f1
  replace f2 := shm_143 f2
  replace f5 := shm_175 f5
  replace f6 := shm_898 f6
  replace f7 := shm_897 f7
  replace f8 := shm_5 f8
  have q1 : n_v vs 1 = n_v vs 0 := f8.symm
  simp only [q1] at f2 f5 f6 f7
  have cr_0_2 := fdq_107 hD hth r0
  have cr_0_7 := fdq_115 hD hth r0
  have cr_0_8 := fdq_224 hD hth r0
  have ad_7 : v_ad (n_v vs 7) = w_ar ws (n_v vs 0) 8 := congrArg v_ad f2
  simp only [ad_7] at f1
  have h1 : v_iv (n_v vs 8) = w_ei ws (w_ar ws (n_v vs 0) 8) (v_iv (n_v vs 3)) := f1
  have g5 : v_iv (n_v vs 5) = w_fi ws (n_v vs 0) 0 := congrArg v_iv f5
  have hK_0_2 := elq_50 hD hth cr_0_2
  have hK_0_7 := elq_56 hD hth cr_0_7
  have hK_0_8 := elq_140 hD hth cr_0_8
  have kz_0_0 := fdq_113 hD hth r0
  have nf0 : fc_1 PRD (20, [0, 3], [60, 1, 2, 512, 0, 2, 7]) ws (vs) := ⟨nf_in hl rfl, sgq_895 (vc_St_ringInBy_5_0 (v_iv (n_v vs 2)) (v_iv (n_v vs 3)) (v_iv (n_v vs 4)) (v_iv (n_v vs 5)) (v_iv (n_v vs 6)) (v_iv (n_v vs 8)) (w_ei ws (w_ar ws (n_v vs 0) 8)) (w_fi ws (n_v vs 0) 0) (w_ei ws (w_ar ws (n_v vs 0) 2)) (w_ei ws (w_ar ws (n_v vs 0) 7)) k2 k3 k4 k5 k6 k8 d0 d1 (shm_37 f0) h1 (shm_40 f3) (shm_21 f4) g5 f6 f7 hK_0_2 hK_0_7 hK_0_8 kz_0_0)⟩
  refine ⟨(fun _ h => (by cases h)), [], trivial, ?_, (fun _ h => (by cases h))⟩
  rw [List.append_nil]
  exact List.forall_mem_cons.mpr ⟨⟨show (20 : Nat) < 100 from by decide, nf0⟩, (fun _ h => (by cases h))⟩
set_option maxHeartbeats 4000000 in
theorem vc_St_ringInBy_6_0 (x2 : Int) (x3 : Int) (x4 : Int) (x5 : Int) (x6 : Int) (x7 : Int) (x8 : Int) (nodes_0 : Int) (from_0 : Int → Int) (by_0 : Int → Int) (mark_0 : Int → Int) (k2 : 0 ≤ x2 ∧ x2 ≤ 71) (k3 : (-1) ≤ x3 ∧ x3 ≤ (-1)) (k4 : 0 ≤ x4 ∧ x4 ≤ 72) (k5 : 0 ≤ x5 ∧ x5 ≤ 72) (k6 : (-1) ≤ x6 ∧ x6 ≤ (-1)) (k7 : (-1) ≤ x7 ∧ x7 ≤ (-1)) (k8 : 1 ≤ x8 ∧ x8 ≤ 72) (d0 : x2 + 1 ≤ x8 ∧ x8 ≤ x2 + 1) (d1 : x5 + (-4294967296) ≤ x4 ∧ x4 ≤ x5 + 0) (f0 : x8 = x2 + 1) (f1 : x3 = x7) (f2 : x3 = x6) (f3 : x4 ≤ x5) (g4 : x5 = nodes_0) (f5 : SNI (nodes_0) (from_0) (by_0) (mark_0) (x2) (x3) (x4)) (f6 : (x2 + 1) ≤ nodes_0) (hK_0_2 : ∀ j : Int, 0 ≤ j → j < 384 → 0 ≤ from_0 j ∧ from_0 j ≤ 71) (hK_0_7 : ∀ j : Int, 0 ≤ j → j < 72 → (-1) ≤ by_0 j ∧ by_0 j ≤ 383) (hK_0_8 : ∀ j : Int, 0 ≤ j → j < 72 → (-1) ≤ mark_0 j ∧ mark_0 j ≤ 71) (kz_0_0 : 0 ≤ nodes_0 ∧ nodes_0 ≤ 72) : SNO (nodes_0) (from_0) (by_0) (mark_0) (x8) := by
  first
    | exact sno_start (fun w a b => by first | (have q := hT0 w a (by omega); omega) | (have q := hT1 w a (by omega); omega) | (have q := hT2 w a (by omega); omega) | (have q := hT3 w a (by omega); omega)) (by omega) (by omega)
    | (skip; exact sni_next ‹SNI _ _ _ _ _ _ _› (by omega) (by omega) (by omega) (by omega) (by first | (left; omega) | (right; left; omega) | (right; right; omega)) (by first | (left; omega) | (right; omega)) (by omega) (by omega))
  
def o_St_ringInBy_6 : or_T := (10, 9, [(0, (2, 0, 0, [10])), (2, (0, 0, 71, [])), (3, (0, -1, -1, [])), (4, (0, 0, 72, [])), (5, (0, 0, 72, [])), (6, (0, -1, -1, [])), (7, (0, -1, -1, [])), (8, (0, 1, 72, []))], [(6, [8, 2], [1]), (7, [3, 7], [0]), (7, [3, 6], [0]), (7, [4, 5], [5]), (9, [5, 1], [0]), (20, [1, 2, 3, 4], [60, 1, 3, 511, 0, 2, 7, 8]), (20, [2, 1], [50, 1, 0, 1000, 0, 6, 4, 2, 1, 0, 0, 1, 2, 1, 0]), (24, [0, 1], [])], [], [], [(20, [1, 8], [60, 1, 3, 510, 0, 2, 7, 8])], [], [(8, 2, 1, 1), (4, 5, -4294967296, 0)])
theorem oo_St_ringInBy_6 {kA : Nat → ClassId} : or_ok PRD kA GG o_St_ringInBy_6 := by
  refine or_mk fun A ta ws vs hD hth hl => ?_
  intro t0 r0 t2 k2 t3 k3 t4 k4 t5 k5 t6 k6 t7 k7 t8 k8 d0 d1 f0 f1 f2 f3 f4 f5 f6 f7
  replace f0 := shm_4 f0
  replace f1 := shm_37 f1
  replace f2 := shm_37 f2
  replace f3 := shm_24 f3
  replace f4 := shm_175 f4
  replace f5 := shm_898 f5
  replace f6 := shm_897 f6
  replace f7 := shm_5 f7
  have q1 : n_v vs 1 = n_v vs 0 := f7.symm
  simp only [q1] at f4 f5 f6
  have cr_0_2 := fdq_107 hD hth r0
  have cr_0_7 := fdq_115 hD hth r0
  have cr_0_8 := fdq_224 hD hth r0
  have g4 : v_iv (n_v vs 5) = w_fi ws (n_v vs 0) 0 := congrArg v_iv f4
  have hK_0_2 := elq_50 hD hth cr_0_2
  have hK_0_7 := elq_56 hD hth cr_0_7
  have hK_0_8 := elq_140 hD hth cr_0_8
  have kz_0_0 := fdq_113 hD hth r0
  have nf0 : fc_1 PRD (20, [1, 8], [60, 1, 3, 510, 0, 2, 7, 8]) ws (vs) := by
    refine ⟨nf_in hl rfl, sgq_894 ?_⟩
    · show SNO (w_fi ws (n_v vs 1) 0) (w_ei ws (w_ar ws (n_v vs 1) 2)) (w_ei ws (w_ar ws (n_v vs 1) 7)) (w_ei ws (w_ar ws (n_v vs 1) 8)) (v_iv (n_v vs 8))
      rw [q1]
      exact vc_St_ringInBy_6_0 (v_iv (n_v vs 2)) (v_iv (n_v vs 3)) (v_iv (n_v vs 4)) (v_iv (n_v vs 5)) (v_iv (n_v vs 6)) (v_iv (n_v vs 7)) (v_iv (n_v vs 8)) (w_fi ws (n_v vs 0) 0) (w_ei ws (w_ar ws (n_v vs 0) 2)) (w_ei ws (w_ar ws (n_v vs 0) 7)) (w_ei ws (w_ar ws (n_v vs 0) 8)) k2 k3 k4 k5 k6 k7 k8 d0 d1 f0 f1 f2 f3 g4 f5 f6 hK_0_2 hK_0_7 hK_0_8 kz_0_0
  refine ⟨(fun _ h => (by cases h)), [], trivial, ?_, (fun _ h => (by cases h))⟩
  rw [List.append_nil]
  exact List.forall_mem_cons.mpr ⟨⟨show (20 : Nat) < 100 from by decide, nf0⟩, (fun _ h => (by cases h))⟩
set_option maxHeartbeats 4000000 in
theorem vc_St_ringInBy_7_0 (x2 : Int) (x3 : Int) (x4 : Int) (x5 : Int) (x6 : Int) (x8 : Int) (x9 : Int) (x10 : Int) (x11 : Int) (x12 : Int) (mark_0 : Int → Int) (nodes_0 : Int) (from_0 : Int → Int) (by_0 : Int → Int) (k2 : 0 ≤ x2 ∧ x2 ≤ 71) (k3 : 0 ≤ x3 ∧ x3 ≤ 71) (k4 : 0 ≤ x4 ∧ x4 ≤ 72) (k5 : 0 ≤ x5 ∧ x5 ≤ 72) (k6 : (-1) ≤ x6 ∧ x6 ≤ (-1)) (k8 : 0 ≤ x8 ∧ x8 ≤ 71) (k9 : (-1) ≤ x9 ∧ x9 ≤ (-1)) (k10 : (-1) ≤ x10 ∧ x10 ≤ (-1)) (k11 : (-1) ≤ x11 ∧ x11 ≤ 71) (k12 : 1 ≤ x12 ∧ x12 ≤ 72) (d0 : x2 + 1 ≤ x12 ∧ x12 ≤ x2 + 1) (d1 : x5 + (-4294967296) ≤ x4 ∧ x4 ≤ x5 + 0) (f0 : x12 = x2 + 1) (f1 : x11 ≠ x2) (h2 : x11 = mark_0 (x3)) (f4 : x3 ≠ x10) (f5 : x8 ≠ x9) (h6 : x8 = mark_0 (x3)) (f7 : x3 ≠ x6) (f8 : x4 ≤ x5) (g9 : x5 = nodes_0) (f10 : SNI (nodes_0) (from_0) (by_0) (mark_0) (x2) (x3) (x4)) (f11 : (x2 + 1) ≤ nodes_0) (hK_0_2 : ∀ j : Int, 0 ≤ j → j < 384 → 0 ≤ from_0 j ∧ from_0 j ≤ 71) (hK_0_7 : ∀ j : Int, 0 ≤ j → j < 72 → (-1) ≤ by_0 j ∧ by_0 j ≤ 383) (hK_0_8 : ∀ j : Int, 0 ≤ j → j < 72 → (-1) ≤ mark_0 j ∧ mark_0 j ≤ 71) (kz_0_0 : 0 ≤ nodes_0 ∧ nodes_0 ≤ 72) : SNO (nodes_0) (from_0) (by_0) (mark_0) (x12) := by
  first
    | exact sno_start (fun w a b => by first | (have q := hT0 w a (by omega); omega) | (have q := hT1 w a (by omega); omega) | (have q := hT2 w a (by omega); omega) | (have q := hT3 w a (by omega); omega)) (by omega) (by omega)
    | (skip; (first | subst h2 | skip); (first | subst h6 | skip); exact sni_next ‹SNI _ _ _ _ _ _ _› (by omega) (by omega) (by omega) (by omega) (by first | (left; omega) | (right; left; omega) | (right; right; omega)) (by first | (left; omega) | (right; omega)) (by omega) (by omega))
  
def o_St_ringInBy_7 : or_T := (10, 13, [(0, (2, 0, 0, [10])), (2, (0, 0, 71, [])), (3, (0, 0, 71, [])), (4, (0, 0, 72, [])), (5, (0, 0, 72, [])), (6, (0, -1, -1, [])), (8, (0, 0, 71, [])), (9, (0, -1, -1, [])), (10, (0, -1, -1, [])), (11, (0, -1, 71, [])), (12, (0, 1, 72, []))], [(6, [12, 2], [1]), (7, [11, 2], [1]), (10, [11, 7, 3], []), (9, [7, 1], [8]), (7, [3, 10], [1]), (7, [8, 9], [1]), (10, [8, 7, 3], []), (7, [3, 6], [1]), (7, [4, 5], [5]), (9, [5, 1], [0]), (20, [1, 2, 3, 4], [60, 1, 3, 511, 0, 2, 7, 8]), (20, [2, 1], [50, 1, 0, 1000, 0, 6, 4, 2, 1, 0, 0, 1, 2, 1, 0]), (24, [0, 1], [])], [], [], [(20, [1, 12], [60, 1, 3, 510, 0, 2, 7, 8])], [], [(12, 2, 1, 1), (4, 5, -4294967296, 0)])
theorem oo_St_ringInBy_7 {kA : Nat → ClassId} : or_ok PRD kA GG o_St_ringInBy_7 := by
  refine or_mk fun A ta ws vs hD hth hl => ?_
  intro t0 r0 t2 k2 t3 k3 t4 k4 t5 k5 t6 k6 t8 k8 t9 k9 t10 k10 t11 k11 t12 k12 d0 d1 f0 f1 f2 f3 f4 f5 f6 f7 f8 f9 f10 f11 f12
  replace f0 := shm_4 f0
  replace f1 := shm_40 f1
  replace f2 := shm_106 f2
  replace f3 := shm_143 f3
  replace f4 := shm_40 f4
  replace f5 := shm_40 f5
  replace f6 := shm_106 f6
  replace f7 := shm_40 f7
  replace f8 := shm_24 f8
  replace f9 := shm_175 f9
  replace f10 := shm_898 f10
  replace f11 := shm_897 f11
  replace f12 := shm_5 f12
  have q1 : n_v vs 1 = n_v vs 0 := f12.symm
  simp only [q1] at f3 f9 f10 f11
  have cr_0_2 := fdq_107 hD hth r0
  have cr_0_7 := fdq_115 hD hth r0
  have cr_0_8 := fdq_224 hD hth r0
  have ad_7 : v_ad (n_v vs 7) = w_ar ws (n_v vs 0) 8 := congrArg v_ad f3
  simp only [ad_7] at f2
  have h2 : v_iv (n_v vs 11) = w_ei ws (w_ar ws (n_v vs 0) 8) (v_iv (n_v vs 3)) := f2
  simp only [ad_7] at f6
  have h6 : v_iv (n_v vs 8) = w_ei ws (w_ar ws (n_v vs 0) 8) (v_iv (n_v vs 3)) := f6
  have g9 : v_iv (n_v vs 5) = w_fi ws (n_v vs 0) 0 := congrArg v_iv f9
  have hK_0_2 := elq_50 hD hth cr_0_2
  have hK_0_7 := elq_56 hD hth cr_0_7
  have hK_0_8 := elq_140 hD hth cr_0_8
  have kz_0_0 := fdq_113 hD hth r0
  have nf0 : fc_1 PRD (20, [1, 12], [60, 1, 3, 510, 0, 2, 7, 8]) ws (vs) := by
    refine ⟨nf_in hl rfl, sgq_894 ?_⟩
    · show SNO (w_fi ws (n_v vs 1) 0) (w_ei ws (w_ar ws (n_v vs 1) 2)) (w_ei ws (w_ar ws (n_v vs 1) 7)) (w_ei ws (w_ar ws (n_v vs 1) 8)) (v_iv (n_v vs 12))
      rw [q1]
      exact vc_St_ringInBy_7_0 (v_iv (n_v vs 2)) (v_iv (n_v vs 3)) (v_iv (n_v vs 4)) (v_iv (n_v vs 5)) (v_iv (n_v vs 6)) (v_iv (n_v vs 8)) (v_iv (n_v vs 9)) (v_iv (n_v vs 10)) (v_iv (n_v vs 11)) (v_iv (n_v vs 12)) (w_ei ws (w_ar ws (n_v vs 0) 8)) (w_fi ws (n_v vs 0) 0) (w_ei ws (w_ar ws (n_v vs 0) 2)) (w_ei ws (w_ar ws (n_v vs 0) 7)) k2 k3 k4 k5 k6 k8 k9 k10 k11 k12 d0 d1 f0 f1 h2 f4 f5 h6 f7 f8 g9 f10 f11 hK_0_2 hK_0_7 hK_0_8 kz_0_0
  refine ⟨(fun _ h => (by cases h)), [], trivial, ?_, (fun _ h => (by cases h))⟩
  rw [List.append_nil]
  exact List.forall_mem_cons.mpr ⟨⟨show (20 : Nat) < 100 from by decide, nf0⟩, (fun _ h => (by cases h))⟩
set_option maxHeartbeats 4000000 in
theorem vc_St_ringInBy_8_0 (x2 : Int) (x3 : Int) (x4 : Int) (x5 : Int) (x6 : Int) (x8 : Int) (x9 : Int) (x10 : Int) (x11 : Int) (mark_0 : Int → Int) (nodes_0 : Int) (from_0 : Int → Int) (by_0 : Int → Int) (k2 : 0 ≤ x2 ∧ x2 ≤ 71) (k3 : 0 ≤ x3 ∧ x3 ≤ 71) (k4 : 0 ≤ x4 ∧ x4 ≤ 72) (k5 : 0 ≤ x5 ∧ x5 ≤ 72) (k6 : (-1) ≤ x6 ∧ x6 ≤ (-1)) (k8 : 0 ≤ x8 ∧ x8 ≤ 71) (k9 : (-1) ≤ x9 ∧ x9 ≤ (-1)) (k10 : (-1) ≤ x10 ∧ x10 ≤ (-1)) (k11 : 0 ≤ x11 ∧ x11 ≤ 71) (d0 : x2 + 0 ≤ x11 ∧ x11 ≤ x2 + 0) (d1 : x5 + (-4294967296) ≤ x4 ∧ x4 ≤ x5 + 0) (f0 : x11 = x2) (h1 : x11 = mark_0 (x3)) (f3 : x3 ≠ x10) (f4 : x8 ≠ x9) (h5 : x8 = mark_0 (x3)) (f6 : x3 ≠ x6) (f7 : x4 ≤ x5) (g8 : x5 = nodes_0) (f9 : SNI (nodes_0) (from_0) (by_0) (mark_0) (x2) (x3) (x4)) (f10 : (x2 + 1) ≤ nodes_0) (hK_0_2 : ∀ j : Int, 0 ≤ j → j < 384 → 0 ≤ from_0 j ∧ from_0 j ≤ 71) (hK_0_7 : ∀ j : Int, 0 ≤ j → j < 72 → (-1) ≤ by_0 j ∧ by_0 j ≤ 383) (hK_0_8 : ∀ j : Int, 0 ≤ j → j < 72 → (-1) ≤ mark_0 j ∧ mark_0 j ≤ 71) (kz_0_0 : 0 ≤ nodes_0 ∧ nodes_0 ≤ 72) : SNB (nodes_0) (from_0) (by_0) (x3) := by
  first
    | exact snb_none ‹SNO _ _ _ _ _› (by omega) (by omega)
    | (skip; (first | subst h1 | skip); (first | subst h5 | skip); exact snb_ring ‹SNI _ _ _ _ _ _ _› rfl (by omega) (by omega) (by omega) (by omega) (by omega))
  
def o_St_ringInBy_8 : or_T := (100, 12, [(0, (2, 0, 0, [10])), (2, (0, 0, 71, [])), (3, (0, 0, 71, [])), (4, (0, 0, 72, [])), (5, (0, 0, 72, [])), (6, (0, -1, -1, [])), (8, (0, 0, 71, [])), (9, (0, -1, -1, [])), (10, (0, -1, -1, [])), (11, (0, 0, 71, []))], [(7, [11, 2], [0]), (10, [11, 7, 3], []), (9, [7, 1], [8]), (7, [3, 10], [1]), (7, [8, 9], [1]), (10, [8, 7, 3], []), (7, [3, 6], [1]), (7, [4, 5], [5]), (9, [5, 1], [0]), (20, [1, 2, 3, 4], [60, 1, 3, 511, 0, 2, 7, 8]), (20, [2, 1], [50, 1, 0, 1000, 0, 6, 4, 2, 1, 0, 0, 1, 2, 1, 0]), (24, [0, 1], [])], [], [], [(20, [0, 3], [60, 1, 2, 512, 0, 2, 7])], [], [(11, 2, 0, 0), (4, 5, -4294967296, 0)])
theorem oo_St_ringInBy_8 {kA : Nat → ClassId} : or_ok PRD kA GG o_St_ringInBy_8 := by
  refine or_mk fun A ta ws vs hD hth hl => ?_
  intro t0 r0 t2 k2 t3 k3 t4 k4 t5 k5 t6 k6 t8 k8 t9 k9 t10 k10 t11 k11 d0 d1 f0 f1 f2 f3 f4 f5 f6 f7 f8 f9 f10 f11
  replace f1 := shm_106 f1
  replace f2 := shm_143 f2
  replace f5 := shm_106 f5
  replace f8 := shm_175 f8
  replace f9 := shm_898 f9
  replace f10 := shm_897 f10
  replace f11 := shm_5 f11
  have q1 : n_v vs 1 = n_v vs 0 := f11.symm
  simp only [q1] at f2 f8 f9 f10
  have cr_0_2 := fdq_107 hD hth r0
  have cr_0_7 := fdq_115 hD hth r0
  have cr_0_8 := fdq_224 hD hth r0
  have ad_7 : v_ad (n_v vs 7) = w_ar ws (n_v vs 0) 8 := congrArg v_ad f2
  simp only [ad_7] at f1
  have h1 : v_iv (n_v vs 11) = w_ei ws (w_ar ws (n_v vs 0) 8) (v_iv (n_v vs 3)) := f1
  simp only [ad_7] at f5
  have h5 : v_iv (n_v vs 8) = w_ei ws (w_ar ws (n_v vs 0) 8) (v_iv (n_v vs 3)) := f5
  have g8 : v_iv (n_v vs 5) = w_fi ws (n_v vs 0) 0 := congrArg v_iv f8
  have hK_0_2 := elq_50 hD hth cr_0_2
  have hK_0_7 := elq_56 hD hth cr_0_7
  have hK_0_8 := elq_140 hD hth cr_0_8
  have kz_0_0 := fdq_113 hD hth r0
  have nf0 : fc_1 PRD (20, [0, 3], [60, 1, 2, 512, 0, 2, 7]) ws (vs) := ⟨nf_in hl rfl, sgq_895 (vc_St_ringInBy_8_0 (v_iv (n_v vs 2)) (v_iv (n_v vs 3)) (v_iv (n_v vs 4)) (v_iv (n_v vs 5)) (v_iv (n_v vs 6)) (v_iv (n_v vs 8)) (v_iv (n_v vs 9)) (v_iv (n_v vs 10)) (v_iv (n_v vs 11)) (w_ei ws (w_ar ws (n_v vs 0) 8)) (w_fi ws (n_v vs 0) 0) (w_ei ws (w_ar ws (n_v vs 0) 2)) (w_ei ws (w_ar ws (n_v vs 0) 7)) k2 k3 k4 k5 k6 k8 k9 k10 k11 d0 d1 (shm_37 f0) h1 (shm_40 f3) (shm_40 f4) h5 (shm_40 f6) (shm_24 f7) g8 f9 f10 hK_0_2 hK_0_7 hK_0_8 kz_0_0)⟩
  refine ⟨(fun _ h => (by cases h)), [], trivial, ?_, (fun _ h => (by cases h))⟩
  rw [List.append_nil]
  exact List.forall_mem_cons.mpr ⟨⟨show (20 : Nat) < 100 from by decide, nf0⟩, (fun _ h => (by cases h))⟩
set_option maxHeartbeats 4000000 in
theorem vc_St_ringInBy_9_r0 (x2 : Int) (x3 : Int) (x4 : Int) (x5 : Int) (x6 : Int) (x8 : Int) (x9 : Int) (x11 : Int) (x12 : Int) (x14 : Int) (nodes_0 : Int) (by_0 : Int → Int) (mark_1 : Int → Int) (from_1 : Int → Int) (by_1 : Int → Int) (nodes_1 : Int) (from_0 : Int → Int) (mark_0 : Int → Int) (k2 : 0 ≤ x2 ∧ x2 ≤ 71) (k3 : 0 ≤ x3 ∧ x3 ≤ 71) (k4 : 0 ≤ x4 ∧ x4 ≤ 72) (k5 : 0 ≤ x5 ∧ x5 ≤ 72) (k6 : (-1) ≤ x6 ∧ x6 ≤ (-1)) (k8 : (-1) ≤ x8 ∧ x8 ≤ (-1)) (k9 : (-1) ≤ x9 ∧ x9 ≤ (-1)) (k11 : 0 ≤ x11 ∧ x11 ≤ 383) (k12 : (-1) ≤ x12 ∧ x12 ≤ (-1)) (k14 : (-1) ≤ x14 ∧ x14 ≤ 383) (d0 : x5 + (-4294967296) ≤ x4 ∧ x4 ≤ x5 + 0) (g1 : x5 = nodes_0) (h2 : x14 = by_0 (x3)) (f5 : x11 ≠ x12) (h6 : x11 = by_0 (x3)) (f7 : (x2 + 1) ≤ nodes_0) (f10 : x8 = x9) (h11 : x8 = mark_1 (x3)) (f12 : x3 ≠ x6) (f13 : x4 ≤ x5) (f14 : SNI (nodes_1) (from_1) (by_1) (mark_1) (x2) (x3) (x4)) (f15 : (x2 + 1) ≤ nodes_1) (fe_0_0_1 : nodes_0 = nodes_1) (hE_0_2_1 : ∀ j : Int, from_0 j = from_1 j) (hK_0_2 : ∀ j : Int, 0 ≤ j → j < 384 → 0 ≤ from_0 j ∧ from_0 j ≤ 71) (hE_0_7_1 : ∀ j : Int, by_0 j = by_1 j) (hK_0_7 : ∀ j : Int, 0 ≤ j → j < 72 → (-1) ≤ by_0 j ∧ by_0 j ≤ 383) (hE_0_8_1 : ∀ j : Int, 0 ≤ j → (j = x3 → mark_0 j = x2) ∧ (j ≠ x3 → mark_0 j = mark_1 j)) (hK_0_8 : ∀ j : Int, 0 ≤ j → j < 72 → (-1) ≤ mark_0 j ∧ mark_0 j ≤ 71) (kz_0_0 : 0 ≤ nodes_0 ∧ nodes_0 ≤ 72) : 0 ≤ x14 ∧ x14 ≤ 383 := by
  subst fe_0_0_1
  have e_hE_0_2_1 := funext hE_0_2_1; subst e_hE_0_2_1
  have e_hE_0_7_1 := funext hE_0_7_1; subst e_hE_0_7_1
  first | subst h2 | skip
  first | subst h6 | skip
  first | subst h11 | skip
  omega
def o_St_ringInBy_9 : or_T := (76, 15, [(0, (2, 0, 0, [10])), (1, (2, 0, 0, [10])), (2, (0, 0, 71, [])), (3, (0, 0, 71, [])), (4, (0, 0, 72, [])), (5, (0, 0, 72, [])), (6, (0, -1, -1, [])), (7, (2, 0, 0, [124])), (8, (0, -1, -1, [])), (9, (0, -1, -1, [])), (10, (2, 0, 0, [123])), (11, (0, 0, 383, [])), (12, (0, -1, -1, [])), (13, (2, 0, 0, [118])), (14, (0, -1, 383, []))], [(9, [7, 1], [8]), (9, [5, 1], [0]), (10, [14, 10, 3], []), (9, [10, 1], [7]), (9, [13, 1], [2]), (7, [11, 12], [1]), (10, [11, 10, 3], []), (20, [2, 1], [50, 1, 0, 1000, 0, 6, 4, 2, 1, 0, 0, 1, 2, 1, 0]), (24, [0, 1], []), (100, [7, 3, 2], []), (7, [8, 9], [0]), (10, [8, 7, 3], []), (7, [3, 6], [1]), (7, [4, 5], [5]), (20, [1, 2, 3, 4], [60, 1, 3, 511, 0, 2, 7, 8]), (20, [2, 1], [50, 1, 0, 1000, 0, 6, 4, 2, 1, 0, 0, 1, 2, 1, 0])], [(14, (0, 0, 383, []))], [], [], [], [(4, 5, -4294967296, 0)])
theorem oo_St_ringInBy_9 {kA : Nat → ClassId} : or_ok PRD kA GG o_St_ringInBy_9 := by
  refine or_mk fun A ta ws vs hD hth hl => ?_
  intro t0 r0 t1 r1 t2 k2 t3 k3 t4 k4 t5 k5 t6 k6 t7 r7 t8 k8 t9 k9 t10 r10 t11 k11 t12 k12 t13 r13 t14 k14 d0 f0 f1 f2 f3 f4 f5 f6 f7 f8 ta1 w1 le1 s1 f10 f11 f12 f13 f14 f15
  replace f0 := shm_143 f0
  replace f1 := shm_175 f1
  replace f2 := shm_106 f2
  replace f3 := shm_216 f3
  replace f6 := shm_106 f6
  replace f7 := shm_897 f7
  replace f8 := shm_5 f8
  have s1 : (∀ b j, w_el ws b j = if b = v_ad (n_v vs 7) ∧ j = (v_iv (n_v vs 3)).toNat then v_iv (n_v vs 2) else w_el w1 b j) ∧ ∀ b k, w_fd ws b k = w_fd w1 b k := s1.2
  replace f11 := shm_106 f11
  replace f14 := shm_898 f14
  replace f15 := shm_897 f15
  have q1 : n_v vs 1 = n_v vs 0 := f8.symm
  simp only [q1] at f0 f1 f3 f7 f14 f15
  have ar_0_2_1 : w_ar w1 (n_v vs 0) 2 = w_ar ws (n_v vs 0) 2 := congrArg v_ad (s1.2 _ _).symm
  have cr_0_2 := fdq_107 hD hth r0
  have ar_0_7_1 : w_ar w1 (n_v vs 0) 7 = w_ar ws (n_v vs 0) 7 := congrArg v_ad (s1.2 _ _).symm
  have cr_0_7 := fdq_115 hD hth r0
  have ar_0_8_1 : w_ar w1 (n_v vs 0) 8 = w_ar ws (n_v vs 0) 8 := congrArg v_ad (s1.2 _ _).symm
  have cr_0_8 := fdq_224 hD hth r0
  have ad_7 : v_ad (n_v vs 7) = w_ar ws (n_v vs 0) 8 := congrArg v_ad f0
  have ad_10 : v_ad (n_v vs 10) = w_ar ws (n_v vs 0) 7 := congrArg v_ad f3
  have g1 : v_iv (n_v vs 5) = w_fi ws (n_v vs 0) 0 := congrArg v_iv f1
  simp only [ad_10] at f2
  have h2 : v_iv (n_v vs 14) = w_ei ws (w_ar ws (n_v vs 0) 7) (v_iv (n_v vs 3)) := f2
  simp only [ad_10] at f6
  have h6 : v_iv (n_v vs 11) = w_ei ws (w_ar ws (n_v vs 0) 7) (v_iv (n_v vs 3)) := f6
  simp only [ad_7] at f11
  have h11 : v_iv (n_v vs 8) = w_ei w1 (w_ar ws (n_v vs 0) 8) (v_iv (n_v vs 3)) := f11
  simp only [ar_0_2_1, ar_0_7_1, ar_0_8_1] at f14
  have fe_0_0_1 : w_fi ws (n_v vs 0) 0 = w_fi w1 (n_v vs 0) 0 := congrArg v_iv (s1.2 _ _)
  have hE_0_2_1 : ∀ j : Int, w_ei ws (w_ar ws (n_v vs 0) 2) j = w_ei w1 (w_ar ws (n_v vs 0) 2) j := el_kp s1.1 r7 cr_0_2 (by decide)
  have hK_0_2 := elq_50 hD hth cr_0_2
  have hE_0_7_1 : ∀ j : Int, w_ei ws (w_ar ws (n_v vs 0) 7) j = w_ei w1 (w_ar ws (n_v vs 0) 7) j := el_kp s1.1 r7 cr_0_7 (by decide)
  have hK_0_7 := elq_56 hD hth cr_0_7
  have hE_0_8_1 : ∀ j : Int, 0 ≤ j → (j = v_iv (n_v vs 3) → w_ei ws (w_ar ws (n_v vs 0) 8) j = v_iv (n_v vs 2)) ∧ (j ≠ v_iv (n_v vs 3) → w_ei ws (w_ar ws (n_v vs 0) 8) j = w_ei w1 (w_ar ws (n_v vs 0) 8) j) := fun j hj => ⟨fun h => by unfold w_ei; rw [s1.1, if_pos ⟨ad_7.symm, by rw [h]⟩], fun h => by unfold w_ei; rw [s1.1, if_neg (fun e => h (by have := e.2; omega))]⟩
  have hK_0_8 := elq_140 hD hth cr_0_8
  have kz_0_0 := fdq_113 hD hth r0
  have hrf0 : 0 ≤ v_iv (n_v vs 14) ∧ v_iv (n_v vs 14) ≤ 383 := vc_St_ringInBy_9_r0 (v_iv (n_v vs 2)) (v_iv (n_v vs 3)) (v_iv (n_v vs 4)) (v_iv (n_v vs 5)) (v_iv (n_v vs 6)) (v_iv (n_v vs 8)) (v_iv (n_v vs 9)) (v_iv (n_v vs 11)) (v_iv (n_v vs 12)) (v_iv (n_v vs 14)) (w_fi ws (n_v vs 0) 0) (w_ei ws (w_ar ws (n_v vs 0) 7)) (w_ei w1 (w_ar ws (n_v vs 0) 8)) (w_ei w1 (w_ar ws (n_v vs 0) 2)) (w_ei w1 (w_ar ws (n_v vs 0) 7)) (w_fi w1 (n_v vs 0) 0) (w_ei ws (w_ar ws (n_v vs 0) 2)) (w_ei ws (w_ar ws (n_v vs 0) 8)) k2 k3 k4 k5 k6 k8 k9 k11 k12 k14 d0 g1 h2 (shm_40 f5) h6 f7 (shm_37 f10) h11 (shm_40 f12) (shm_24 f13) f14 f15 fe_0_0_1 hE_0_2_1 hK_0_2 hE_0_7_1 hK_0_7 hE_0_8_1 hK_0_8 kz_0_0
  have rf14 : tv_ok ta (0, 0, 383, []) (n_v vs 14) := tv_in t14 (by first | omega | grind) (by first | omega | grind)
  refine ⟨List.forall_mem_cons.mpr ⟨rf14, (fun _ h => (by cases h))⟩, [], trivial, ?_, (fun _ h => (by cases h))⟩
  rw [List.append_nil]
  exact (fun _ h => (by cases h))
set_option maxHeartbeats 4000000 in
theorem vc_St_ringInBy_10_0 (x2 : Int) (x3 : Int) (x4 : Int) (x5 : Int) (x6 : Int) (x8 : Int) (x9 : Int) (x11 : Int) (x12 : Int) (x14 : Int) (x15 : Int) (x16 : Int) (nodes_0 : Int) (from_0 : Int → Int) (by_0 : Int → Int) (mark_1 : Int → Int) (from_1 : Int → Int) (by_1 : Int → Int) (nodes_1 : Int) (mark_0 : Int → Int) (k2 : 0 ≤ x2 ∧ x2 ≤ 71) (k3 : 0 ≤ x3 ∧ x3 ≤ 71) (k4 : 0 ≤ x4 ∧ x4 ≤ 72) (k5 : 0 ≤ x5 ∧ x5 ≤ 72) (k6 : (-1) ≤ x6 ∧ x6 ≤ (-1)) (k8 : (-1) ≤ x8 ∧ x8 ≤ (-1)) (k9 : (-1) ≤ x9 ∧ x9 ≤ (-1)) (k11 : 0 ≤ x11 ∧ x11 ≤ 383) (k12 : (-1) ≤ x12 ∧ x12 ≤ (-1)) (k14 : 0 ≤ x14 ∧ x14 ≤ 383) (k15 : 0 ≤ x15 ∧ x15 ≤ 71) (k16 : 1 ≤ x16 ∧ x16 ≤ 73) (d0 : x4 + 1 ≤ x16 ∧ x16 ≤ x4 + 1) (d1 : x5 + (-4294967296) ≤ x16 ∧ x16 ≤ x5 + 1) (d2 : x5 + (-4294967296) ≤ x4 ∧ x4 ≤ x5 + 0) (g1 : x5 = nodes_0) (f2 : x16 = x4 + 1) (h3 : x15 = from_0 (x14)) (h4 : x14 = by_0 (x3)) (f7 : x11 ≠ x12) (h8 : x11 = by_0 (x3)) (f9 : (x2 + 1) ≤ nodes_0) (f12 : x8 = x9) (h13 : x8 = mark_1 (x3)) (f14 : x3 ≠ x6) (f15 : x4 ≤ x5) (f16 : SNI (nodes_1) (from_1) (by_1) (mark_1) (x2) (x3) (x4)) (f17 : (x2 + 1) ≤ nodes_1) (fe_0_0_1 : nodes_0 = nodes_1) (hE_0_2_1 : ∀ j : Int, from_0 j = from_1 j) (hK_0_2 : ∀ j : Int, 0 ≤ j → j < 384 → 0 ≤ from_0 j ∧ from_0 j ≤ 71) (hE_0_7_1 : ∀ j : Int, by_0 j = by_1 j) (hK_0_7 : ∀ j : Int, 0 ≤ j → j < 72 → (-1) ≤ by_0 j ∧ by_0 j ≤ 383) (hE_0_8_1 : ∀ j : Int, 0 ≤ j → (j = x3 → mark_0 j = x2) ∧ (j ≠ x3 → mark_0 j = mark_1 j)) (hK_0_8 : ∀ j : Int, 0 ≤ j → j < 72 → (-1) ≤ mark_0 j ∧ mark_0 j ≤ 71) (kz_0_0 : 0 ≤ nodes_0 ∧ nodes_0 ≤ 72) : SNI (nodes_0) (from_0) (by_0) (mark_0) (x2) (x15) (x16) := by
  subst fe_0_0_1
  have e_hE_0_2_1 := funext hE_0_2_1; subst e_hE_0_2_1
  have e_hE_0_7_1 := funext hE_0_7_1; subst e_hE_0_7_1
  first
    | exact sni_start ‹SNO _ _ _ _ _› (by omega) (by omega)
    | (skip; (first | subst h3 | skip); (first | subst h4 | skip); (first | subst h8 | skip); (first | subst h13 | skip); exact sni_step ‹SNI _ _ _ _ _ _ _› (by assumption) rfl rfl (by omega) (by omega) (by omega) (by omega) (by first | (left; omega) | (right; exact ⟨by omega, rfl⟩)) (by omega))
  
def o_St_ringInBy_10 : or_T := (22, 17, [(0, (2, 0, 0, [10])), (2, (0, 0, 71, [])), (3, (0, 0, 71, [])), (4, (0, 0, 72, [])), (5, (0, 0, 72, [])), (6, (0, -1, -1, [])), (7, (2, 0, 0, [124])), (8, (0, -1, -1, [])), (9, (0, -1, -1, [])), (11, (0, 0, 383, [])), (12, (0, -1, -1, [])), (14, (0, 0, 383, [])), (15, (0, 0, 71, [])), (16, (0, 1, 73, []))], [(9, [7, 1], [8]), (9, [5, 1], [0]), (6, [16, 4], [1]), (10, [15, 13, 14], []), (10, [14, 10, 3], []), (9, [10, 1], [7]), (9, [13, 1], [2]), (7, [11, 12], [1]), (10, [11, 10, 3], []), (20, [2, 1], [50, 1, 0, 1000, 0, 6, 4, 2, 1, 0, 0, 1, 2, 1, 0]), (24, [0, 1], []), (100, [7, 3, 2], []), (7, [8, 9], [0]), (10, [8, 7, 3], []), (7, [3, 6], [1]), (7, [4, 5], [5]), (20, [1, 2, 3, 4], [60, 1, 3, 511, 0, 2, 7, 8]), (20, [2, 1], [50, 1, 0, 1000, 0, 6, 4, 2, 1, 0, 0, 1, 2, 1, 0])], [], [], [(20, [1, 2, 15, 16], [60, 1, 3, 511, 0, 2, 7, 8])], [], [(16, 4, 1, 1), (16, 5, -4294967296, 1), (4, 5, -4294967296, 0)])
theorem oo_St_ringInBy_10 {kA : Nat → ClassId} : or_ok PRD kA GG o_St_ringInBy_10 := by
  refine or_mk fun A ta ws vs hD hth hl => ?_
  intro t0 r0 t2 k2 t3 k3 t4 k4 t5 k5 t6 k6 t7 r7 t8 k8 t9 k9 t11 k11 t12 k12 t14 k14 t15 k15 t16 k16 d0 d1 d2 f0 f1 f2 f3 f4 f5 f6 f7 f8 f9 f10 ta1 w1 le1 s1 f12 f13 f14 f15 f16 f17
  replace f0 := shm_143 f0
  replace f1 := shm_175 f1
  replace f2 := shm_4 f2
  replace f3 := shm_106 f3
  replace f4 := shm_106 f4
  replace f5 := shm_216 f5
  replace f6 := shm_129 f6
  replace f7 := shm_40 f7
  replace f8 := shm_106 f8
  replace f9 := shm_897 f9
  replace f10 := shm_5 f10
  have s1 : (∀ b j, w_el ws b j = if b = v_ad (n_v vs 7) ∧ j = (v_iv (n_v vs 3)).toNat then v_iv (n_v vs 2) else w_el w1 b j) ∧ ∀ b k, w_fd ws b k = w_fd w1 b k := s1.2
  replace f12 := shm_37 f12
  replace f13 := shm_106 f13
  replace f14 := shm_40 f14
  replace f15 := shm_24 f15
  replace f16 := shm_898 f16
  replace f17 := shm_897 f17
  have q1 : n_v vs 1 = n_v vs 0 := f10.symm
  simp only [q1] at f0 f1 f5 f6 f9 f16 f17
  have ar_0_2_1 : w_ar w1 (n_v vs 0) 2 = w_ar ws (n_v vs 0) 2 := congrArg v_ad (s1.2 _ _).symm
  have cr_0_2 := fdq_107 hD hth r0
  have ar_0_7_1 : w_ar w1 (n_v vs 0) 7 = w_ar ws (n_v vs 0) 7 := congrArg v_ad (s1.2 _ _).symm
  have cr_0_7 := fdq_115 hD hth r0
  have ar_0_8_1 : w_ar w1 (n_v vs 0) 8 = w_ar ws (n_v vs 0) 8 := congrArg v_ad (s1.2 _ _).symm
  have cr_0_8 := fdq_224 hD hth r0
  have ad_7 : v_ad (n_v vs 7) = w_ar ws (n_v vs 0) 8 := congrArg v_ad f0
  have ad_10 : v_ad (n_v vs 10) = w_ar ws (n_v vs 0) 7 := congrArg v_ad f5
  have ad_13 : v_ad (n_v vs 13) = w_ar ws (n_v vs 0) 2 := congrArg v_ad f6
  have g1 : v_iv (n_v vs 5) = w_fi ws (n_v vs 0) 0 := congrArg v_iv f1
  simp only [ad_13] at f3
  have h3 : v_iv (n_v vs 15) = w_ei ws (w_ar ws (n_v vs 0) 2) (v_iv (n_v vs 14)) := f3
  simp only [ad_10] at f4
  have h4 : v_iv (n_v vs 14) = w_ei ws (w_ar ws (n_v vs 0) 7) (v_iv (n_v vs 3)) := f4
  simp only [ad_10] at f8
  have h8 : v_iv (n_v vs 11) = w_ei ws (w_ar ws (n_v vs 0) 7) (v_iv (n_v vs 3)) := f8
  simp only [ad_7] at f13
  have h13 : v_iv (n_v vs 8) = w_ei w1 (w_ar ws (n_v vs 0) 8) (v_iv (n_v vs 3)) := f13
  simp only [ar_0_2_1, ar_0_7_1, ar_0_8_1] at f16
  have fe_0_0_1 : w_fi ws (n_v vs 0) 0 = w_fi w1 (n_v vs 0) 0 := congrArg v_iv (s1.2 _ _)
  have hE_0_2_1 : ∀ j : Int, w_ei ws (w_ar ws (n_v vs 0) 2) j = w_ei w1 (w_ar ws (n_v vs 0) 2) j := el_kp s1.1 r7 cr_0_2 (by decide)
  have hK_0_2 := elq_50 hD hth cr_0_2
  have hE_0_7_1 : ∀ j : Int, w_ei ws (w_ar ws (n_v vs 0) 7) j = w_ei w1 (w_ar ws (n_v vs 0) 7) j := el_kp s1.1 r7 cr_0_7 (by decide)
  have hK_0_7 := elq_56 hD hth cr_0_7
  have hE_0_8_1 : ∀ j : Int, 0 ≤ j → (j = v_iv (n_v vs 3) → w_ei ws (w_ar ws (n_v vs 0) 8) j = v_iv (n_v vs 2)) ∧ (j ≠ v_iv (n_v vs 3) → w_ei ws (w_ar ws (n_v vs 0) 8) j = w_ei w1 (w_ar ws (n_v vs 0) 8) j) := fun j hj => ⟨fun h => by unfold w_ei; rw [s1.1, if_pos ⟨ad_7.symm, by rw [h]⟩], fun h => by unfold w_ei; rw [s1.1, if_neg (fun e => h (by have := e.2; omega))]⟩
  have hK_0_8 := elq_140 hD hth cr_0_8
  have kz_0_0 := fdq_113 hD hth r0
  have nf0 : fc_1 PRD (20, [1, 2, 15, 16], [60, 1, 3, 511, 0, 2, 7, 8]) ws (vs) := by
    refine ⟨nf_in hl rfl, sgq_898 ?_⟩
    · show SNI (w_fi ws (n_v vs 1) 0) (w_ei ws (w_ar ws (n_v vs 1) 2)) (w_ei ws (w_ar ws (n_v vs 1) 7)) (w_ei ws (w_ar ws (n_v vs 1) 8)) (v_iv (n_v vs 2)) (v_iv (n_v vs 15)) (v_iv (n_v vs 16))
      rw [q1]
      exact vc_St_ringInBy_10_0 (v_iv (n_v vs 2)) (v_iv (n_v vs 3)) (v_iv (n_v vs 4)) (v_iv (n_v vs 5)) (v_iv (n_v vs 6)) (v_iv (n_v vs 8)) (v_iv (n_v vs 9)) (v_iv (n_v vs 11)) (v_iv (n_v vs 12)) (v_iv (n_v vs 14)) (v_iv (n_v vs 15)) (v_iv (n_v vs 16)) (w_fi ws (n_v vs 0) 0) (w_ei ws (w_ar ws (n_v vs 0) 2)) (w_ei ws (w_ar ws (n_v vs 0) 7)) (w_ei w1 (w_ar ws (n_v vs 0) 8)) (w_ei w1 (w_ar ws (n_v vs 0) 2)) (w_ei w1 (w_ar ws (n_v vs 0) 7)) (w_fi w1 (n_v vs 0) 0) (w_ei ws (w_ar ws (n_v vs 0) 8)) k2 k3 k4 k5 k6 k8 k9 k11 k12 k14 k15 k16 d0 d1 d2 g1 f2 h3 h4 f7 h8 f9 f12 h13 f14 f15 f16 f17 fe_0_0_1 hE_0_2_1 hK_0_2 hE_0_7_1 hK_0_7 hE_0_8_1 hK_0_8 kz_0_0
  refine ⟨(fun _ h => (by cases h)), [], trivial, ?_, (fun _ h => (by cases h))⟩
  rw [List.append_nil]
  exact List.forall_mem_cons.mpr ⟨⟨show (20 : Nat) < 100 from by decide, nf0⟩, (fun _ h => (by cases h))⟩
set_option maxHeartbeats 4000000 in
theorem vc_St_ringInBy_11_0 (x2 : Int) (x3 : Int) (x4 : Int) (x5 : Int) (x6 : Int) (x8 : Int) (x9 : Int) (x11 : Int) (x12 : Int) (x13 : Int) (x14 : Int) (nodes_0 : Int) (by_0 : Int → Int) (mark_1 : Int → Int) (from_1 : Int → Int) (by_1 : Int → Int) (nodes_1 : Int) (from_0 : Int → Int) (mark_0 : Int → Int) (k2 : 0 ≤ x2 ∧ x2 ≤ 71) (k3 : 0 ≤ x3 ∧ x3 ≤ 71) (k4 : 0 ≤ x4 ∧ x4 ≤ 72) (k5 : 0 ≤ x5 ∧ x5 ≤ 72) (k6 : (-1) ≤ x6 ∧ x6 ≤ (-1)) (k8 : (-1) ≤ x8 ∧ x8 ≤ (-1)) (k9 : (-1) ≤ x9 ∧ x9 ≤ (-1)) (k11 : (-1) ≤ x11 ∧ x11 ≤ (-1)) (k12 : (-1) ≤ x12 ∧ x12 ≤ (-1)) (k13 : (-1) ≤ x13 ∧ x13 ≤ (-1)) (k14 : 1 ≤ x14 ∧ x14 ≤ 73) (d0 : x4 + 1 ≤ x14 ∧ x14 ≤ x4 + 1) (d1 : x5 + (-4294967296) ≤ x14 ∧ x14 ≤ x5 + 1) (d2 : x5 + (-4294967296) ≤ x4 ∧ x4 ≤ x5 + 0) (g1 : x5 = nodes_0) (f2 : x14 = x4 + 1) (f3 : x11 = x12) (h4 : x11 = by_0 (x3)) (f6 : (x2 + 1) ≤ nodes_0) (f9 : x8 = x9) (h10 : x8 = mark_1 (x3)) (f11 : x3 ≠ x6) (f12 : x4 ≤ x5) (f13 : SNI (nodes_1) (from_1) (by_1) (mark_1) (x2) (x3) (x4)) (f14 : (x2 + 1) ≤ nodes_1) (fe_0_0_1 : nodes_0 = nodes_1) (hE_0_2_1 : ∀ j : Int, from_0 j = from_1 j) (hK_0_2 : ∀ j : Int, 0 ≤ j → j < 384 → 0 ≤ from_0 j ∧ from_0 j ≤ 71) (hE_0_7_1 : ∀ j : Int, by_0 j = by_1 j) (hK_0_7 : ∀ j : Int, 0 ≤ j → j < 72 → (-1) ≤ by_0 j ∧ by_0 j ≤ 383) (hE_0_8_1 : ∀ j : Int, 0 ≤ j → (j = x3 → mark_0 j = x2) ∧ (j ≠ x3 → mark_0 j = mark_1 j)) (hK_0_8 : ∀ j : Int, 0 ≤ j → j < 72 → (-1) ≤ mark_0 j ∧ mark_0 j ≤ 71) (kz_0_0 : 0 ≤ nodes_0 ∧ nodes_0 ≤ 72) : SNI (nodes_0) (from_0) (by_0) (mark_0) (x2) (x13) (x14) := by
  subst fe_0_0_1
  have e_hE_0_2_1 := funext hE_0_2_1; subst e_hE_0_2_1
  have e_hE_0_7_1 := funext hE_0_7_1; subst e_hE_0_7_1
  first
    | exact sni_start ‹SNO _ _ _ _ _› (by omega) (by omega)
    | (skip; (first | subst h4 | skip); (first | subst h10 | skip); exact sni_step ‹SNI _ _ _ _ _ _ _› (by assumption) rfl rfl (by omega) (by omega) (by omega) (by omega) (by first | (left; omega) | (right; exact ⟨by omega, rfl⟩)) (by omega))
  
def o_St_ringInBy_11 : or_T := (22, 15, [(0, (2, 0, 0, [10])), (2, (0, 0, 71, [])), (3, (0, 0, 71, [])), (4, (0, 0, 72, [])), (5, (0, 0, 72, [])), (6, (0, -1, -1, [])), (7, (2, 0, 0, [124])), (8, (0, -1, -1, [])), (9, (0, -1, -1, [])), (11, (0, -1, -1, [])), (12, (0, -1, -1, [])), (13, (0, -1, -1, [])), (14, (0, 1, 73, []))], [(9, [7, 1], [8]), (9, [5, 1], [0]), (6, [14, 4], [1]), (7, [11, 12], [0]), (10, [11, 10, 3], []), (9, [10, 1], [7]), (20, [2, 1], [50, 1, 0, 1000, 0, 6, 4, 2, 1, 0, 0, 1, 2, 1, 0]), (24, [0, 1], []), (100, [7, 3, 2], []), (7, [8, 9], [0]), (10, [8, 7, 3], []), (7, [3, 6], [1]), (7, [4, 5], [5]), (20, [1, 2, 3, 4], [60, 1, 3, 511, 0, 2, 7, 8]), (20, [2, 1], [50, 1, 0, 1000, 0, 6, 4, 2, 1, 0, 0, 1, 2, 1, 0])], [], [], [(20, [1, 2, 13, 14], [60, 1, 3, 511, 0, 2, 7, 8])], [], [(14, 4, 1, 1), (14, 5, -4294967296, 1), (4, 5, -4294967296, 0)])
theorem oo_St_ringInBy_11 {kA : Nat → ClassId} : or_ok PRD kA GG o_St_ringInBy_11 := by
  refine or_mk fun A ta ws vs hD hth hl => ?_
  intro t0 r0 t2 k2 t3 k3 t4 k4 t5 k5 t6 k6 t7 r7 t8 k8 t9 k9 t11 k11 t12 k12 t13 k13 t14 k14 d0 d1 d2 f0 f1 f2 f3 f4 f5 f6 f7 ta1 w1 le1 s1 f9 f10 f11 f12 f13 f14
  replace f0 := shm_143 f0
  replace f1 := shm_175 f1
  replace f2 := shm_4 f2
  replace f3 := shm_37 f3
  replace f4 := shm_106 f4
  replace f5 := shm_216 f5
  replace f6 := shm_897 f6
  replace f7 := shm_5 f7
  have s1 : (∀ b j, w_el ws b j = if b = v_ad (n_v vs 7) ∧ j = (v_iv (n_v vs 3)).toNat then v_iv (n_v vs 2) else w_el w1 b j) ∧ ∀ b k, w_fd ws b k = w_fd w1 b k := s1.2
  replace f9 := shm_37 f9
  replace f10 := shm_106 f10
  replace f11 := shm_40 f11
  replace f12 := shm_24 f12
  replace f13 := shm_898 f13
  replace f14 := shm_897 f14
  have q1 : n_v vs 1 = n_v vs 0 := f7.symm
  simp only [q1] at f0 f1 f5 f6 f13 f14
  have ar_0_2_1 : w_ar w1 (n_v vs 0) 2 = w_ar ws (n_v vs 0) 2 := congrArg v_ad (s1.2 _ _).symm
  have cr_0_2 := fdq_107 hD hth r0
  have ar_0_7_1 : w_ar w1 (n_v vs 0) 7 = w_ar ws (n_v vs 0) 7 := congrArg v_ad (s1.2 _ _).symm
  have cr_0_7 := fdq_115 hD hth r0
  have ar_0_8_1 : w_ar w1 (n_v vs 0) 8 = w_ar ws (n_v vs 0) 8 := congrArg v_ad (s1.2 _ _).symm
  have cr_0_8 := fdq_224 hD hth r0
  have ad_7 : v_ad (n_v vs 7) = w_ar ws (n_v vs 0) 8 := congrArg v_ad f0
  have ad_10 : v_ad (n_v vs 10) = w_ar ws (n_v vs 0) 7 := congrArg v_ad f5
  have g1 : v_iv (n_v vs 5) = w_fi ws (n_v vs 0) 0 := congrArg v_iv f1
  simp only [ad_10] at f4
  have h4 : v_iv (n_v vs 11) = w_ei ws (w_ar ws (n_v vs 0) 7) (v_iv (n_v vs 3)) := f4
  simp only [ad_7] at f10
  have h10 : v_iv (n_v vs 8) = w_ei w1 (w_ar ws (n_v vs 0) 8) (v_iv (n_v vs 3)) := f10
  simp only [ar_0_2_1, ar_0_7_1, ar_0_8_1] at f13
  have fe_0_0_1 : w_fi ws (n_v vs 0) 0 = w_fi w1 (n_v vs 0) 0 := congrArg v_iv (s1.2 _ _)
  have hE_0_2_1 : ∀ j : Int, w_ei ws (w_ar ws (n_v vs 0) 2) j = w_ei w1 (w_ar ws (n_v vs 0) 2) j := el_kp s1.1 r7 cr_0_2 (by decide)
  have hK_0_2 := elq_50 hD hth cr_0_2
  have hE_0_7_1 : ∀ j : Int, w_ei ws (w_ar ws (n_v vs 0) 7) j = w_ei w1 (w_ar ws (n_v vs 0) 7) j := el_kp s1.1 r7 cr_0_7 (by decide)
  have hK_0_7 := elq_56 hD hth cr_0_7
  have hE_0_8_1 : ∀ j : Int, 0 ≤ j → (j = v_iv (n_v vs 3) → w_ei ws (w_ar ws (n_v vs 0) 8) j = v_iv (n_v vs 2)) ∧ (j ≠ v_iv (n_v vs 3) → w_ei ws (w_ar ws (n_v vs 0) 8) j = w_ei w1 (w_ar ws (n_v vs 0) 8) j) := fun j hj => ⟨fun h => by unfold w_ei; rw [s1.1, if_pos ⟨ad_7.symm, by rw [h]⟩], fun h => by unfold w_ei; rw [s1.1, if_neg (fun e => h (by have := e.2; omega))]⟩
  have hK_0_8 := elq_140 hD hth cr_0_8
  have kz_0_0 := fdq_113 hD hth r0
  have nf0 : fc_1 PRD (20, [1, 2, 13, 14], [60, 1, 3, 511, 0, 2, 7, 8]) ws (vs) := by
    refine ⟨nf_in hl rfl, sgq_898 ?_⟩
    · show SNI (w_fi ws (n_v vs 1) 0) (w_ei ws (w_ar ws (n_v vs 1) 2)) (w_ei ws (w_ar ws (n_v vs 1) 7)) (w_ei ws (w_ar ws (n_v vs 1) 8)) (v_iv (n_v vs 2)) (v_iv (n_v vs 13)) (v_iv (n_v vs 14))
      rw [q1]
      exact vc_St_ringInBy_11_0 (v_iv (n_v vs 2)) (v_iv (n_v vs 3)) (v_iv (n_v vs 4)) (v_iv (n_v vs 5)) (v_iv (n_v vs 6)) (v_iv (n_v vs 8)) (v_iv (n_v vs 9)) (v_iv (n_v vs 11)) (v_iv (n_v vs 12)) (v_iv (n_v vs 13)) (v_iv (n_v vs 14)) (w_fi ws (n_v vs 0) 0) (w_ei ws (w_ar ws (n_v vs 0) 7)) (w_ei w1 (w_ar ws (n_v vs 0) 8)) (w_ei w1 (w_ar ws (n_v vs 0) 2)) (w_ei w1 (w_ar ws (n_v vs 0) 7)) (w_fi w1 (n_v vs 0) 0) (w_ei ws (w_ar ws (n_v vs 0) 2)) (w_ei ws (w_ar ws (n_v vs 0) 8)) k2 k3 k4 k5 k6 k8 k9 k11 k12 k13 k14 d0 d1 d2 g1 f2 f3 h4 f6 f9 h10 f11 f12 f13 f14 fe_0_0_1 hE_0_2_1 hK_0_2 hE_0_7_1 hK_0_7 hE_0_8_1 hK_0_8 kz_0_0
  refine ⟨(fun _ h => (by cases h)), [], trivial, ?_, (fun _ h => (by cases h))⟩
  rw [List.append_nil]
  exact List.forall_mem_cons.mpr ⟨⟨show (20 : Nat) < 100 from by decide, nf0⟩, (fun _ h => (by cases h))⟩
def n_St_ringInBy_an : List an_T := [(10, [(0, (2, 0, 0, [10])), (1, (0, 0, 72, []))], [], (0, 0), [(0, 0, 99990), (1, 2, 72), (0, 0, 100000), (0, 0, 0), (0, 0, 0)], [], [], [(2, 0, 0, [10])], 0, [], [(20, [1, 2], [60, 1, 3, 510, 0, 2, 7, 8]), (24, [0, 1], [])]), (22, [(0, (2, 0, 0, [10])), (1, (0, 0, 71, [])), (2, (0, (Int.negSucc 0), 71, [])), (3, (0, 0, 73, []))], [], (0, 0), [(0, 0, 99990), (1, 2, 72), (0, 0, 99978), (1, 4, 73), (0, 0, 100000)], [], [], [(2, 0, 0, [10])], 0, [], [(20, [1, 2, 3, 4], [60, 1, 3, 511, 0, 2, 7, 8]), (20, [2, 1], [50, 1, 0, 1000, 0, 6, 4, 2, 1, 0, 0, 1, 2, 1, 0]), (24, [0, 1], [])])]
def t_St_ringInBy_ct : ct_L := [(18, 45, e_jArr_fill1_v46)]
set_option maxRecDepth 100000 in
theorem c_St_ringInBy {l : Launch} {D : va_G} {kA : Nat → ClassId} : ct_ok PRD l D kA GG y_St_ringInBy z_St_ringInBy e_St_ringInBy := chk_all_ok (FT := [(9, 10, 0), (18, 10, 2), (34, 10, 7), (37, 10, 8)]) (PT := []) (CT := t_St_ringInBy_ct) (KT := []) (NT := []) (AN := n_St_ringInBy_an) (OT := [o_St_ringInBy_0, o_St_ringInBy_1, o_St_ringInBy_2, o_St_ringInBy_3, o_St_ringInBy_4, o_St_ringInBy_5, o_St_ringInBy_6, o_St_ringInBy_7, o_St_ringInBy_8, o_St_ringInBy_9, o_St_ringInBy_10, o_St_ringInBy_11]) 5 352 (List.forall_mem_cons.mpr ⟨oo_St_ringInBy_0, List.forall_mem_cons.mpr ⟨oo_St_ringInBy_1, List.forall_mem_cons.mpr ⟨oo_St_ringInBy_2, List.forall_mem_cons.mpr ⟨oo_St_ringInBy_3, List.forall_mem_cons.mpr ⟨oo_St_ringInBy_4, List.forall_mem_cons.mpr ⟨oo_St_ringInBy_5, List.forall_mem_cons.mpr ⟨oo_St_ringInBy_6, List.forall_mem_cons.mpr ⟨oo_St_ringInBy_7, List.forall_mem_cons.mpr ⟨oo_St_ringInBy_8, List.forall_mem_cons.mpr ⟨oo_St_ringInBy_9, List.forall_mem_cons.mpr ⟨oo_St_ringInBy_10, List.forall_mem_cons.mpr ⟨oo_St_ringInBy_11, List.forall_mem_nil _⟩⟩⟩⟩⟩⟩⟩⟩⟩⟩⟩⟩) (by decide +kernel) ⟨List.forall_mem_cons.mpr ⟨gf_St_9, List.forall_mem_cons.mpr ⟨gf_St_18, List.forall_mem_cons.mpr ⟨gf_St_34, List.forall_mem_cons.mpr ⟨gf_St_37, List.forall_mem_nil _⟩⟩⟩⟩, List.forall_mem_nil _, List.forall_mem_cons.mpr ⟨cl_static (y := y_jArr_fill1) c_jArr_fill1_v46 wm_55 wm_4 wm_1343 wm_54 ⟨by decide, by decide, by decide +kernel⟩ (by decide), List.forall_mem_nil _⟩, List.forall_mem_nil _, List.forall_mem_nil _, GG_pl⟩ (by decide +kernel)
set_option maxHeartbeats 4000000 in
theorem vc_St_sendRound_at_gl_0_0 (x1 : Int) (x2 : Int) (x3 : Int) (x4 : Int) (from_0 : Int → Int) (to_0 : Int → Int) (room_0 : Int → Int) (gain_0 : Int → Int) (by_0 : Int → Int) (nodes_0 : Int) (arcs_0 : Int) (k1 : 0 ≤ x1 ∧ x1 ≤ 71) (k2 : 0 ≤ x2 ∧ x2 ≤ 9999) (k3 : 1000000000 ≤ x3 ∧ x3 ≤ 1000000000) (k4 : 0 ≤ x4 ∧ x4 ≤ 0) (f0 : RSW (nodes_0) (arcs_0) (from_0) (to_0) (room_0) (gain_0) (by_0)) (f1 : RNG (from_0) (by_0) (x1)) (f2 : FLV (nodes_0) (arcs_0) (from_0) (to_0) (room_0) (gain_0) (x2)) (f3 : (0 ≤ x1) ∧ ((x1 + 1) ≤ nodes_0)) (hK_0_2 : ∀ j : Int, 0 ≤ j → j < 384 → 0 ≤ from_0 j ∧ from_0 j ≤ 71) (hK_0_3 : ∀ j : Int, 0 ≤ j → j < 384 → 0 ≤ to_0 j ∧ to_0 j ≤ 71) (hK_0_4 : ∀ j : Int, 0 ≤ j → j < 384 → (-2147483648) ≤ room_0 j ∧ room_0 j ≤ 2147483647) (hK_0_5 : ∀ j : Int, 0 ≤ j → j < 384 → (-20) ≤ gain_0 j ∧ gain_0 j ≤ 20) (hK_0_7 : ∀ j : Int, 0 ≤ j → j < 72 → (-1) ≤ by_0 j ∧ by_0 j ≤ 383) (kz_0_0 : 0 ≤ nodes_0 ∧ nodes_0 ≤ 72) (kz_0_1 : 0 ≤ arcs_0 ∧ arcs_0 ≤ 384) : SL1 (nodes_0) (arcs_0) (from_0) (to_0) (room_0) (gain_0) (by_0) (x1) (x1) (x4) (x3) := by
  first
    | exact sl1_start ‹RSW _ _ _ _ _ _ _› ‹RNG _ _ _› (by omega) (by omega) (by omega) (by omega) (by omega)
    | (skip; exact sl1_step ‹SL1 _ _ _ _ _ _ _ _ _ _ _› ‹NWL _ _ _ _ _› rfl (by omega) (by omega) (by omega) (by omega) (by omega))
  
set_option maxHeartbeats 4000000 in
theorem vc_St_sendRound_at_gl_0_1 (x1 : Int) (x2 : Int) (x3 : Int) (x4 : Int) (from_0 : Int → Int) (to_0 : Int → Int) (room_0 : Int → Int) (gain_0 : Int → Int) (by_0 : Int → Int) (nodes_0 : Int) (arcs_0 : Int) (k1 : 0 ≤ x1 ∧ x1 ≤ 71) (k2 : 0 ≤ x2 ∧ x2 ≤ 9999) (k3 : 1000000000 ≤ x3 ∧ x3 ≤ 1000000000) (k4 : 0 ≤ x4 ∧ x4 ≤ 0) (f0 : RSW (nodes_0) (arcs_0) (from_0) (to_0) (room_0) (gain_0) (by_0)) (f1 : RNG (from_0) (by_0) (x1)) (f2 : FLV (nodes_0) (arcs_0) (from_0) (to_0) (room_0) (gain_0) (x2)) (f3 : (0 ≤ x1) ∧ ((x1 + 1) ≤ nodes_0)) (hK_0_2 : ∀ j : Int, 0 ≤ j → j < 384 → 0 ≤ from_0 j ∧ from_0 j ≤ 71) (hK_0_3 : ∀ j : Int, 0 ≤ j → j < 384 → 0 ≤ to_0 j ∧ to_0 j ≤ 71) (hK_0_4 : ∀ j : Int, 0 ≤ j → j < 384 → (-2147483648) ≤ room_0 j ∧ room_0 j ≤ 2147483647) (hK_0_5 : ∀ j : Int, 0 ≤ j → j < 384 → (-20) ≤ gain_0 j ∧ gain_0 j ≤ 20) (hK_0_7 : ∀ j : Int, 0 ≤ j → j < 72 → (-1) ≤ by_0 j ∧ by_0 j ≤ 383) (kz_0_0 : 0 ≤ nodes_0 ∧ nodes_0 ≤ 72) (kz_0_1 : 0 ≤ arcs_0 ∧ arcs_0 ≤ 384) : NWL (nodes_0) (arcs_0) (from_0) (to_0) (gain_0) := by
  first
    | assumption
    | exact (‹RSW _ _ _ _ _ _ _›).1
  
def o_St_sendRound_at_gl_0 : or_T := (8, 5, [(0, (2, 0, 0, [10])), (1, (0, 0, 71, [])), (2, (0, 0, 9999, [])), (3, (0, 1000000000, 1000000000, [])), (4, (0, 0, 0, []))], [(20, [0], [60, 2, 5, 529, 0, 1, 2, 3, 4, 5, 7]), (20, [0, 1], [60, 0, 2, 509, 2, 7]), (20, [0, 2], [60, 2, 4, 530, 0, 1, 2, 3, 4, 5]), (20, [1, 0], [50, 1, 0, 1000, 2, 6, 0, 2, 0, 0, 1, 0, 0, 6, 4, 2, 1, 0, 0, 1, 2, 1, 0])], [], [], [(20, [0, 1, 1, 4, 3], [60, 2, 5, 533, 0, 1, 2, 3, 4, 5, 7]), (20, [0], [60, 2, 3, 515, 0, 1, 2, 3, 5]), (24, [0, 0], []), (24, [1, 1], [])], [], [])
theorem oo_St_sendRound_at_gl_0 {kA : Nat → ClassId} : or_ok PRD kA GG o_St_sendRound_at_gl_0 := by
  refine or_mk fun A ta ws vs hD hth hl => ?_
  intro t0 r0 t1 k1 t2 k2 t3 k3 t4 k4 f0 f1 f2 f3
  have cr_0_2 := fdq_107 hD hth r0
  have cr_0_3 := fdq_108 hD hth r0
  have cr_0_4 := fdq_109 hD hth r0
  have cr_0_5 := fdq_110 hD hth r0
  have cr_0_7 := fdq_115 hD hth r0
  have hK_0_2 := elq_50 hD hth cr_0_2
  have hK_0_3 := elq_51 hD hth cr_0_3
  have hK_0_4 := elq_52 hD hth cr_0_4
  have hK_0_5 := elq_53 hD hth cr_0_5
  have hK_0_7 := elq_56 hD hth cr_0_7
  have kz_0_0 := fdq_113 hD hth r0
  have kz_0_1 := fdq_112 hD hth r0
  have nf0 : fc_1 PRD (20, [0, 1, 1, 4, 3], [60, 2, 5, 533, 0, 1, 2, 3, 4, 5, 7]) ws (vs) := ⟨nf_in hl rfl, sgq_902 (vc_St_sendRound_at_gl_0_0 (v_iv (n_v vs 1)) (v_iv (n_v vs 2)) (v_iv (n_v vs 3)) (v_iv (n_v vs 4)) (w_ei ws (w_ar ws (n_v vs 0) 2)) (w_ei ws (w_ar ws (n_v vs 0) 3)) (w_ei ws (w_ar ws (n_v vs 0) 4)) (w_ei ws (w_ar ws (n_v vs 0) 5)) (w_ei ws (w_ar ws (n_v vs 0) 7)) (w_fi ws (n_v vs 0) 0) (w_fi ws (n_v vs 0) 1) k1 k2 k3 k4 (shm_899 f0) (shm_900 f1) (shm_901 f2) (shm_429 f3) hK_0_2 hK_0_3 hK_0_4 hK_0_5 hK_0_7 kz_0_0 kz_0_1)⟩
  have nf1 : fc_1 PRD (20, [0], [60, 2, 3, 515, 0, 1, 2, 3, 5]) ws (vs) := ⟨nf_in hl rfl, sgq_903 (vc_St_sendRound_at_gl_0_1 (v_iv (n_v vs 1)) (v_iv (n_v vs 2)) (v_iv (n_v vs 3)) (v_iv (n_v vs 4)) (w_ei ws (w_ar ws (n_v vs 0) 2)) (w_ei ws (w_ar ws (n_v vs 0) 3)) (w_ei ws (w_ar ws (n_v vs 0) 4)) (w_ei ws (w_ar ws (n_v vs 0) 5)) (w_ei ws (w_ar ws (n_v vs 0) 7)) (w_fi ws (n_v vs 0) 0) (w_fi ws (n_v vs 0) 1) k1 k2 k3 k4 (shm_899 f0) (shm_900 f1) (shm_901 f2) (shm_429 f3) hK_0_2 hK_0_3 hK_0_4 hK_0_5 hK_0_7 kz_0_0 kz_0_1)⟩
  have nf2 : fc_1 PRD (24, [0, 0], []) ws (vs) := by
    refine ⟨nf_in hl rfl, sgq_1 ?_⟩
    · show n_v vs 0 = n_v vs 0
      first | rfl | simp only [true_and]
  have nf3 : fc_1 PRD (24, [1, 1], []) ws (vs) := by
    refine ⟨nf_in hl rfl, sgq_1 ?_⟩
    · show n_v vs 1 = n_v vs 1
      first | rfl | simp only [true_and]
  refine ⟨(fun _ h => (by cases h)), [], trivial, ?_, (fun _ h => (by cases h))⟩
  rw [List.append_nil]
  exact List.forall_mem_cons.mpr ⟨⟨show (20 : Nat) < 100 from by decide, nf0⟩, List.forall_mem_cons.mpr ⟨⟨show (20 : Nat) < 100 from by decide, nf1⟩, List.forall_mem_cons.mpr ⟨⟨show (24 : Nat) < 100 from by decide, nf2⟩, List.forall_mem_cons.mpr ⟨⟨show (24 : Nat) < 100 from by decide, nf3⟩, (fun _ h => (by cases h))⟩⟩⟩⟩
set_option maxHeartbeats 4000000 in
theorem vc_St_sendRound_at_gl_1_0 (x1 : Int) (x2 : Int) (x4 : Int) (x5 : Int) (x6 : Int) (x7 : Int) (x8 : Int) (x9 : Int) (nodes_0 : Int) (from_0 : Int → Int) (to_0 : Int → Int) (room_0 : Int → Int) (gain_0 : Int → Int) (by_0 : Int → Int) (arcs_0 : Int) (k1 : 0 ≤ x1 ∧ x1 ≤ 71) (k2 : 0 ≤ x2 ∧ x2 ≤ 9999) (k4 : 0 ≤ x4 ∧ x4 ≤ 71) (k5 : 1 ≤ x5 ∧ x5 ≤ 1000000000) (k6 : 0 ≤ x6 ∧ x6 ≤ 71) (k7 : 0 ≤ x7 ∧ x7 ≤ 72) (k8 : 0 ≤ x8 ∧ x8 ≤ 72) (k9 : 0 ≤ x9 ∧ x9 ≤ 0) (d0 : x8 + 0 ≤ x7 ∧ x7 ≤ x8 + 4294967296) (d1 : x4 + (-4294967296) ≤ x1 ∧ x1 ≤ x4 + 0) (d2 : x1 + (-4294967296) ≤ x4 ∧ x4 ≤ x1 + 0) (f0 : x8 ≤ x7) (g1 : x8 = nodes_0) (f2 : SL1 (nodes_0) (arcs_0) (from_0) (to_0) (room_0) (gain_0) (by_0) (x1) (x6) (x7) (x5)) (f3 : NWL (nodes_0) (arcs_0) (from_0) (to_0) (gain_0)) (f4 : FLV (nodes_0) (arcs_0) (from_0) (to_0) (room_0) (gain_0) (x2)) (hK_0_2 : ∀ j : Int, 0 ≤ j → j < 384 → 0 ≤ from_0 j ∧ from_0 j ≤ 71) (hK_0_3 : ∀ j : Int, 0 ≤ j → j < 384 → 0 ≤ to_0 j ∧ to_0 j ≤ 71) (hK_0_4 : ∀ j : Int, 0 ≤ j → j < 384 → (-2147483648) ≤ room_0 j ∧ room_0 j ≤ 2147483647) (hK_0_5 : ∀ j : Int, 0 ≤ j → j < 384 → (-20) ≤ gain_0 j ∧ gain_0 j ≤ 20) (hK_0_7 : ∀ j : Int, 0 ≤ j → j < 72 → (-1) ≤ by_0 j ∧ by_0 j ≤ 383) (kz_0_0 : 0 ≤ nodes_0 ∧ nodes_0 ≤ 72) (kz_0_1 : 0 ≤ arcs_0 ∧ arcs_0 ≤ 384) : FLP (nodes_0) (arcs_0) (from_0) (to_0) (room_0) (gain_0) (by_0) (x1) (x6) (x9) (x5) (x2) := by
  first
    | (have q := sl1_few ‹NWL _ _ _ _ _› ‹SL1 _ _ _ _ _ _ _ _ _ _ _›; omega)
    | (skip; exact flp_start (slx_of ‹SL1 _ _ _ _ _ _ _ _ _ _ _› ‹NWL _ _ _ _ _› rfl (by omega) (by omega) (by omega) (by omega)) ‹FLV _ _ _ _ _ _ _› (by omega) (by omega))
    | (skip; exact (flp_step ‹FLP _ _ _ _ _ _ _ _ _ _ _ _› rfl (by assumption) (by omega) (xor_one (by assumption) (by omega) (by omega) (by omega) (by omega) (by omega)) (by assumption) (by omega) rfl (by omega)).1 (by omega))
  
def o_St_sendRound_at_gl_1 : or_T := (62, 10, [(0, (2, 0, 0, [10])), (1, (0, 0, 71, [])), (2, (0, 0, 9999, [])), (4, (0, 0, 71, [])), (5, (0, 1, 1000000000, [])), (6, (0, 0, 71, [])), (7, (0, 0, 72, [])), (8, (0, 0, 72, [])), (9, (0, 0, 0, []))], [(7, [7, 8], [3]), (9, [8, 3], [0]), (20, [3, 4, 6, 7, 5], [60, 2, 5, 533, 0, 1, 2, 3, 4, 5, 7]), (20, [3], [60, 2, 3, 515, 0, 1, 2, 3, 5]), (20, [3, 2], [60, 2, 4, 530, 0, 1, 2, 3, 4, 5]), (24, [0, 3], []), (24, [1, 4], [])], [], [], [(20, [3, 4, 6, 9, 5, 2], [60, 2, 5, 535, 0, 1, 2, 3, 4, 5, 7])], [], [(7, 8, 0, 4294967296), (1, 4, -4294967296, 0), (4, 1, -4294967296, 0)])
theorem oo_St_sendRound_at_gl_1 {kA : Nat → ClassId} : or_ok PRD kA GG o_St_sendRound_at_gl_1 := by
  refine or_mk fun A ta ws vs hD hth hl => ?_
  intro t0 r0 t1 k1 t2 k2 t4 k4 t5 k5 t6 k6 t7 k7 t8 k8 t9 k9 d0 d1 d2 f0 f1 f2 f3 f4 f5 f6
  replace f0 := shm_2 f0
  replace f1 := shm_175 f1
  replace f2 := shm_904 f2
  replace f3 := shm_903 f3
  replace f4 := shm_901 f4
  replace f5 := shm_5 f5
  replace f6 := shm_5 f6
  have q3 : n_v vs 3 = n_v vs 0 := f5.symm
  have q4 : n_v vs 4 = n_v vs 1 := f6.symm
  simp only [q3, q4] at f1 f2 f3 f4
  have cr_0_2 := fdq_107 hD hth r0
  have cr_0_3 := fdq_108 hD hth r0
  have cr_0_4 := fdq_109 hD hth r0
  have cr_0_5 := fdq_110 hD hth r0
  have cr_0_7 := fdq_115 hD hth r0
  have g1 : v_iv (n_v vs 8) = w_fi ws (n_v vs 0) 0 := congrArg v_iv f1
  have hK_0_2 := elq_50 hD hth cr_0_2
  have hK_0_3 := elq_51 hD hth cr_0_3
  have hK_0_4 := elq_52 hD hth cr_0_4
  have hK_0_5 := elq_53 hD hth cr_0_5
  have hK_0_7 := elq_56 hD hth cr_0_7
  have kz_0_0 := fdq_113 hD hth r0
  have kz_0_1 := fdq_112 hD hth r0
  have nf0 : fc_1 PRD (20, [3, 4, 6, 9, 5, 2], [60, 2, 5, 535, 0, 1, 2, 3, 4, 5, 7]) ws (vs) := by
    refine ⟨nf_in hl rfl, sgq_905 ?_⟩
    · show FLP (w_fi ws (n_v vs 3) 0) (w_fi ws (n_v vs 3) 1) (w_ei ws (w_ar ws (n_v vs 3) 2)) (w_ei ws (w_ar ws (n_v vs 3) 3)) (w_ei ws (w_ar ws (n_v vs 3) 4)) (w_ei ws (w_ar ws (n_v vs 3) 5)) (w_ei ws (w_ar ws (n_v vs 3) 7)) (v_iv (n_v vs 4)) (v_iv (n_v vs 6)) (v_iv (n_v vs 9)) (v_iv (n_v vs 5)) (v_iv (n_v vs 2))
      simp only [q3, q4]
      exact vc_St_sendRound_at_gl_1_0 (v_iv (n_v vs 1)) (v_iv (n_v vs 2)) (v_iv (n_v vs 4)) (v_iv (n_v vs 5)) (v_iv (n_v vs 6)) (v_iv (n_v vs 7)) (v_iv (n_v vs 8)) (v_iv (n_v vs 9)) (w_fi ws (n_v vs 0) 0) (w_ei ws (w_ar ws (n_v vs 0) 2)) (w_ei ws (w_ar ws (n_v vs 0) 3)) (w_ei ws (w_ar ws (n_v vs 0) 4)) (w_ei ws (w_ar ws (n_v vs 0) 5)) (w_ei ws (w_ar ws (n_v vs 0) 7)) (w_fi ws (n_v vs 0) 1) k1 k2 k4 k5 k6 k7 k8 k9 d0 d1 d2 f0 g1 f2 f3 f4 hK_0_2 hK_0_3 hK_0_4 hK_0_5 hK_0_7 kz_0_0 kz_0_1
  refine ⟨(fun _ h => (by cases h)), [], trivial, ?_, (fun _ h => (by cases h))⟩
  rw [List.append_nil]
  exact List.forall_mem_cons.mpr ⟨⟨show (20 : Nat) < 100 from by decide, nf0⟩, (fun _ h => (by cases h))⟩
set_option maxHeartbeats 4000000 in
theorem vc_St_sendRound_at_gl_2_r0 (x1 : Int) (x2 : Int) (x4 : Int) (x5 : Int) (x6 : Int) (x7 : Int) (x8 : Int) (x11 : Int) (by_0 : Int → Int) (nodes_0 : Int) (from_0 : Int → Int) (to_0 : Int → Int) (room_0 : Int → Int) (gain_0 : Int → Int) (arcs_0 : Int) (k1 : 0 ≤ x1 ∧ x1 ≤ 71) (k2 : 0 ≤ x2 ∧ x2 ≤ 9999) (k4 : 0 ≤ x4 ∧ x4 ≤ 71) (k5 : 1 ≤ x5 ∧ x5 ≤ 1000000000) (k6 : 0 ≤ x6 ∧ x6 ≤ 71) (k7 : 0 ≤ x7 ∧ x7 ≤ 71) (k8 : 1 ≤ x8 ∧ x8 ≤ 72) (k11 : (-1) ≤ x11 ∧ x11 ≤ 383) (d0 : x8 + (-4294967296) ≤ x7 ∧ x7 ≤ x8 + (-1)) (d1 : x4 + (-4294967296) ≤ x1 ∧ x1 ≤ x4 + 0) (d2 : x1 + (-4294967296) ≤ x4 ∧ x4 ≤ x1 + 0) (h0 : x11 = by_0 (x6)) (f3 : x7 < x8) (g4 : x8 = nodes_0) (f5 : SL1 (nodes_0) (arcs_0) (from_0) (to_0) (room_0) (gain_0) (by_0) (x1) (x6) (x7) (x5)) (f6 : NWL (nodes_0) (arcs_0) (from_0) (to_0) (gain_0)) (f7 : FLV (nodes_0) (arcs_0) (from_0) (to_0) (room_0) (gain_0) (x2)) (hK_0_2 : ∀ j : Int, 0 ≤ j → j < 384 → 0 ≤ from_0 j ∧ from_0 j ≤ 71) (hK_0_3 : ∀ j : Int, 0 ≤ j → j < 384 → 0 ≤ to_0 j ∧ to_0 j ≤ 71) (hK_0_4 : ∀ j : Int, 0 ≤ j → j < 384 → (-2147483648) ≤ room_0 j ∧ room_0 j ≤ 2147483647) (hK_0_5 : ∀ j : Int, 0 ≤ j → j < 384 → (-20) ≤ gain_0 j ∧ gain_0 j ≤ 20) (hK_0_7 : ∀ j : Int, 0 ≤ j → j < 72 → (-1) ≤ by_0 j ∧ by_0 j ≤ 383) (kz_0_0 : 0 ≤ nodes_0 ∧ nodes_0 ≤ 72) (kz_0_1 : 0 ≤ arcs_0 ∧ arcs_0 ≤ 384) : 0 ≤ x11 ∧ x11 ≤ 383 := by
  first
    | (have q := sl1_by ‹NWL _ _ _ _ _› ‹SL1 _ _ _ _ _ _ _ _ _ _ _›; have n := (‹NWL _ _ _ _ _›).2.2.2.1; skip; (first | subst h0 | skip); omega)
    | (have q := flp_by ‹FLP _ _ _ _ _ _ _ _ _ _ _ _›; have n := (‹FLP _ _ _ _ _ _ _ _ _ _ _ _›).2.1.2.2.2.1; skip; (first | subst h0 | skip); omega)
    | (have q := sl1_by ‹NWL _ _ _ _ _› ‹SL1 _ _ _ _ _ _ _ _ _ _ _›; have n := flv_room ‹FLV _ _ _ _ _ _ _› q.1 q.2.1; skip; (first | subst h0 | skip); omega)
    | (have q := flp_by ‹FLP _ _ _ _ _ _ _ _ _ _ _ _›; have n := flp_room ‹FLP _ _ _ _ _ _ _ _ _ _ _ _› q.2.2.1 q.2.2.2.1; skip; (first | subst h0 | skip); omega)
    | (skip; (first | subst h0 | skip); have e := xor_one (x := x16) (by assumption) (by omega) (by have q := flp_by ‹FLP _ _ _ _ _ _ _ _ _ _ _ _›; omega) (by omega) (by omega) (by omega); have q2 := flp_other ‹FLP _ _ _ _ _ _ _ _ _ _ _ _› rfl e (by assumption); omega)
  
def o_St_sendRound_at_gl_2 : or_T := (28, 12, [(0, (2, 0, 0, [10])), (1, (0, 0, 71, [])), (2, (0, 0, 9999, [])), (3, (2, 0, 0, [10])), (4, (0, 0, 71, [])), (5, (0, 1, 1000000000, [])), (6, (0, 0, 71, [])), (7, (0, 0, 71, [])), (8, (0, 1, 72, [])), (9, (2, 0, 0, [120])), (10, (2, 0, 0, [123])), (11, (0, -1, 383, []))], [(10, [11, 10, 6], []), (9, [10, 3], [7]), (9, [9, 3], [4]), (7, [7, 8], [2]), (9, [8, 3], [0]), (20, [3, 4, 6, 7, 5], [60, 2, 5, 533, 0, 1, 2, 3, 4, 5, 7]), (20, [3], [60, 2, 3, 515, 0, 1, 2, 3, 5]), (20, [3, 2], [60, 2, 4, 530, 0, 1, 2, 3, 4, 5]), (24, [0, 3], []), (24, [1, 4], [])], [(11, (0, 0, 383, []))], [], [], [], [(7, 8, -4294967296, -1), (1, 4, -4294967296, 0), (4, 1, -4294967296, 0)])
theorem oo_St_sendRound_at_gl_2 {kA : Nat → ClassId} : or_ok PRD kA GG o_St_sendRound_at_gl_2 := by
  refine or_mk fun A ta ws vs hD hth hl => ?_
  intro t0 r0 t1 k1 t2 k2 t3 r3 t4 k4 t5 k5 t6 k6 t7 k7 t8 k8 t9 r9 t10 r10 t11 k11 d0 d1 d2 f0 f1 f2 f3 f4 f5 f6 f7 f8 f9
  replace f0 := shm_106 f0
  replace f1 := shm_216 f1
  replace f4 := shm_175 f4
  replace f5 := shm_904 f5
  replace f6 := shm_903 f6
  replace f7 := shm_901 f7
  replace f8 := shm_5 f8
  replace f9 := shm_5 f9
  have q3 : n_v vs 3 = n_v vs 0 := f8.symm
  have q4 : n_v vs 4 = n_v vs 1 := f9.symm
  simp only [q3, q4] at f1 f4 f5 f6 f7
  have cr_0_2 := fdq_107 hD hth r0
  have cr_0_3 := fdq_108 hD hth r0
  have cr_0_4 := fdq_109 hD hth r0
  have cr_0_5 := fdq_110 hD hth r0
  have cr_0_7 := fdq_115 hD hth r0
  have ad_10 : v_ad (n_v vs 10) = w_ar ws (n_v vs 0) 7 := congrArg v_ad f1
  simp only [ad_10] at f0
  have h0 : v_iv (n_v vs 11) = w_ei ws (w_ar ws (n_v vs 0) 7) (v_iv (n_v vs 6)) := f0
  have g4 : v_iv (n_v vs 8) = w_fi ws (n_v vs 0) 0 := congrArg v_iv f4
  have hK_0_2 := elq_50 hD hth cr_0_2
  have hK_0_3 := elq_51 hD hth cr_0_3
  have hK_0_4 := elq_52 hD hth cr_0_4
  have hK_0_5 := elq_53 hD hth cr_0_5
  have hK_0_7 := elq_56 hD hth cr_0_7
  have kz_0_0 := fdq_113 hD hth r0
  have kz_0_1 := fdq_112 hD hth r0
  have hrf0 : 0 ≤ v_iv (n_v vs 11) ∧ v_iv (n_v vs 11) ≤ 383 := vc_St_sendRound_at_gl_2_r0 (v_iv (n_v vs 1)) (v_iv (n_v vs 2)) (v_iv (n_v vs 4)) (v_iv (n_v vs 5)) (v_iv (n_v vs 6)) (v_iv (n_v vs 7)) (v_iv (n_v vs 8)) (v_iv (n_v vs 11)) (w_ei ws (w_ar ws (n_v vs 0) 7)) (w_fi ws (n_v vs 0) 0) (w_ei ws (w_ar ws (n_v vs 0) 2)) (w_ei ws (w_ar ws (n_v vs 0) 3)) (w_ei ws (w_ar ws (n_v vs 0) 4)) (w_ei ws (w_ar ws (n_v vs 0) 5)) (w_fi ws (n_v vs 0) 1) k1 k2 k4 k5 k6 k7 k8 k11 d0 d1 d2 h0 (shm_6 f3) g4 f5 f6 f7 hK_0_2 hK_0_3 hK_0_4 hK_0_5 hK_0_7 kz_0_0 kz_0_1
  have rf11 : tv_ok ta (0, 0, 383, []) (n_v vs 11) := tv_in t11 (by first | omega | grind) (by first | omega | grind)
  refine ⟨List.forall_mem_cons.mpr ⟨rf11, (fun _ h => (by cases h))⟩, [], trivial, ?_, (fun _ h => (by cases h))⟩
  rw [List.append_nil]
  exact (fun _ h => (by cases h))
set_option maxHeartbeats 4000000 in
theorem vc_St_sendRound_at_gl_3_r0 (x1 : Int) (x2 : Int) (x4 : Int) (x5 : Int) (x6 : Int) (x7 : Int) (x8 : Int) (x11 : Int) (x12 : Int) (room_0 : Int → Int) (by_0 : Int → Int) (nodes_0 : Int) (from_0 : Int → Int) (to_0 : Int → Int) (gain_0 : Int → Int) (arcs_0 : Int) (k1 : 0 ≤ x1 ∧ x1 ≤ 71) (k2 : 0 ≤ x2 ∧ x2 ≤ 9999) (k4 : 0 ≤ x4 ∧ x4 ≤ 71) (k5 : 1 ≤ x5 ∧ x5 ≤ 1000000000) (k6 : 0 ≤ x6 ∧ x6 ≤ 71) (k7 : 0 ≤ x7 ∧ x7 ≤ 71) (k8 : 1 ≤ x8 ∧ x8 ≤ 72) (k11 : 0 ≤ x11 ∧ x11 ≤ 383) (k12 : (-2147483648) ≤ x12 ∧ x12 ≤ 2147483647) (d0 : x8 + (-4294967296) ≤ x7 ∧ x7 ≤ x8 + (-1)) (d1 : x4 + (-4294967296) ≤ x1 ∧ x1 ≤ x4 + 0) (d2 : x1 + (-4294967296) ≤ x4 ∧ x4 ≤ x1 + 0) (h0 : x12 = room_0 (x11)) (h1 : x11 = by_0 (x6)) (f4 : x7 < x8) (g5 : x8 = nodes_0) (f6 : SL1 (nodes_0) (arcs_0) (from_0) (to_0) (room_0) (gain_0) (by_0) (x1) (x6) (x7) (x5)) (f7 : NWL (nodes_0) (arcs_0) (from_0) (to_0) (gain_0)) (f8 : FLV (nodes_0) (arcs_0) (from_0) (to_0) (room_0) (gain_0) (x2)) (hK_0_2 : ∀ j : Int, 0 ≤ j → j < 384 → 0 ≤ from_0 j ∧ from_0 j ≤ 71) (hK_0_3 : ∀ j : Int, 0 ≤ j → j < 384 → 0 ≤ to_0 j ∧ to_0 j ≤ 71) (hK_0_4 : ∀ j : Int, 0 ≤ j → j < 384 → (-2147483648) ≤ room_0 j ∧ room_0 j ≤ 2147483647) (hK_0_5 : ∀ j : Int, 0 ≤ j → j < 384 → (-20) ≤ gain_0 j ∧ gain_0 j ≤ 20) (hK_0_7 : ∀ j : Int, 0 ≤ j → j < 72 → (-1) ≤ by_0 j ∧ by_0 j ≤ 383) (kz_0_0 : 0 ≤ nodes_0 ∧ nodes_0 ≤ 72) (kz_0_1 : 0 ≤ arcs_0 ∧ arcs_0 ≤ 384) : 1 ≤ x12 ∧ x12 ≤ 1000000000 := by
  first
    | (have q := sl1_by ‹NWL _ _ _ _ _› ‹SL1 _ _ _ _ _ _ _ _ _ _ _›; have n := (‹NWL _ _ _ _ _›).2.2.2.1; skip; (first | subst h0 | skip); (first | subst h1 | skip); omega)
    | (have q := flp_by ‹FLP _ _ _ _ _ _ _ _ _ _ _ _›; have n := (‹FLP _ _ _ _ _ _ _ _ _ _ _ _›).2.1.2.2.2.1; skip; (first | subst h0 | skip); (first | subst h1 | skip); omega)
    | (have q := sl1_by ‹NWL _ _ _ _ _› ‹SL1 _ _ _ _ _ _ _ _ _ _ _›; have n := flv_room ‹FLV _ _ _ _ _ _ _› q.1 q.2.1; skip; (first | subst h0 | skip); (first | subst h1 | skip); omega)
    | (have q := flp_by ‹FLP _ _ _ _ _ _ _ _ _ _ _ _›; have n := flp_room ‹FLP _ _ _ _ _ _ _ _ _ _ _ _› q.2.2.1 q.2.2.2.1; skip; (first | subst h0 | skip); (first | subst h1 | skip); omega)
    | (skip; (first | subst h0 | skip); (first | subst h1 | skip); have e := xor_one (x := x16) (by assumption) (by omega) (by have q := flp_by ‹FLP _ _ _ _ _ _ _ _ _ _ _ _›; omega) (by omega) (by omega) (by omega); have q2 := flp_other ‹FLP _ _ _ _ _ _ _ _ _ _ _ _› rfl e (by assumption); omega)
  
def o_St_sendRound_at_gl_3 : or_T := (29, 13, [(0, (2, 0, 0, [10])), (1, (0, 0, 71, [])), (2, (0, 0, 9999, [])), (3, (2, 0, 0, [10])), (4, (0, 0, 71, [])), (5, (0, 1, 1000000000, [])), (6, (0, 0, 71, [])), (7, (0, 0, 71, [])), (8, (0, 1, 72, [])), (9, (2, 0, 0, [120])), (10, (2, 0, 0, [123])), (11, (0, 0, 383, [])), (12, (0, -2147483648, 2147483647, []))], [(10, [12, 9, 11], []), (10, [11, 10, 6], []), (9, [10, 3], [7]), (9, [9, 3], [4]), (7, [7, 8], [2]), (9, [8, 3], [0]), (20, [3, 4, 6, 7, 5], [60, 2, 5, 533, 0, 1, 2, 3, 4, 5, 7]), (20, [3], [60, 2, 3, 515, 0, 1, 2, 3, 5]), (20, [3, 2], [60, 2, 4, 530, 0, 1, 2, 3, 4, 5]), (24, [0, 3], []), (24, [1, 4], [])], [(12, (0, 1, 1000000000, []))], [], [], [], [(7, 8, -4294967296, -1), (1, 4, -4294967296, 0), (4, 1, -4294967296, 0)])
theorem oo_St_sendRound_at_gl_3 {kA : Nat → ClassId} : or_ok PRD kA GG o_St_sendRound_at_gl_3 := by
  refine or_mk fun A ta ws vs hD hth hl => ?_
  intro t0 r0 t1 k1 t2 k2 t3 r3 t4 k4 t5 k5 t6 k6 t7 k7 t8 k8 t9 r9 t10 r10 t11 k11 t12 k12 d0 d1 d2 f0 f1 f2 f3 f4 f5 f6 f7 f8 f9 f10
  replace f0 := shm_106 f0
  replace f1 := shm_106 f1
  replace f2 := shm_216 f2
  replace f3 := shm_107 f3
  replace f5 := shm_175 f5
  replace f6 := shm_904 f6
  replace f7 := shm_903 f7
  replace f8 := shm_901 f8
  replace f9 := shm_5 f9
  replace f10 := shm_5 f10
  have q3 : n_v vs 3 = n_v vs 0 := f9.symm
  have q4 : n_v vs 4 = n_v vs 1 := f10.symm
  simp only [q3, q4] at f2 f3 f5 f6 f7 f8
  have cr_0_2 := fdq_107 hD hth r0
  have cr_0_3 := fdq_108 hD hth r0
  have cr_0_4 := fdq_109 hD hth r0
  have cr_0_5 := fdq_110 hD hth r0
  have cr_0_7 := fdq_115 hD hth r0
  have ad_10 : v_ad (n_v vs 10) = w_ar ws (n_v vs 0) 7 := congrArg v_ad f2
  have ad_9 : v_ad (n_v vs 9) = w_ar ws (n_v vs 0) 4 := congrArg v_ad f3
  simp only [ad_9] at f0
  have h0 : v_iv (n_v vs 12) = w_ei ws (w_ar ws (n_v vs 0) 4) (v_iv (n_v vs 11)) := f0
  simp only [ad_10] at f1
  have h1 : v_iv (n_v vs 11) = w_ei ws (w_ar ws (n_v vs 0) 7) (v_iv (n_v vs 6)) := f1
  have g5 : v_iv (n_v vs 8) = w_fi ws (n_v vs 0) 0 := congrArg v_iv f5
  have hK_0_2 := elq_50 hD hth cr_0_2
  have hK_0_3 := elq_51 hD hth cr_0_3
  have hK_0_4 := elq_52 hD hth cr_0_4
  have hK_0_5 := elq_53 hD hth cr_0_5
  have hK_0_7 := elq_56 hD hth cr_0_7
  have kz_0_0 := fdq_113 hD hth r0
  have kz_0_1 := fdq_112 hD hth r0
  have hrf0 : 1 ≤ v_iv (n_v vs 12) ∧ v_iv (n_v vs 12) ≤ 1000000000 := vc_St_sendRound_at_gl_3_r0 (v_iv (n_v vs 1)) (v_iv (n_v vs 2)) (v_iv (n_v vs 4)) (v_iv (n_v vs 5)) (v_iv (n_v vs 6)) (v_iv (n_v vs 7)) (v_iv (n_v vs 8)) (v_iv (n_v vs 11)) (v_iv (n_v vs 12)) (w_ei ws (w_ar ws (n_v vs 0) 4)) (w_ei ws (w_ar ws (n_v vs 0) 7)) (w_fi ws (n_v vs 0) 0) (w_ei ws (w_ar ws (n_v vs 0) 2)) (w_ei ws (w_ar ws (n_v vs 0) 3)) (w_ei ws (w_ar ws (n_v vs 0) 5)) (w_fi ws (n_v vs 0) 1) k1 k2 k4 k5 k6 k7 k8 k11 k12 d0 d1 d2 h0 h1 (shm_6 f4) g5 f6 f7 f8 hK_0_2 hK_0_3 hK_0_4 hK_0_5 hK_0_7 kz_0_0 kz_0_1
  have rf12 : tv_ok ta (0, 1, 1000000000, []) (n_v vs 12) := tv_in t12 (by first | omega | grind) (by first | omega | grind)
  refine ⟨List.forall_mem_cons.mpr ⟨rf12, (fun _ h => (by cases h))⟩, [], trivial, ?_, (fun _ h => (by cases h))⟩
  rw [List.append_nil]
  exact (fun _ h => (by cases h))
set_option maxHeartbeats 4000000 in
theorem vc_St_sendRound_at_gl_4_r0 (x1 : Int) (x2 : Int) (x4 : Int) (x5 : Int) (x6 : Int) (x7 : Int) (x8 : Int) (x11 : Int) (x12 : Int) (x13 : Int) (x15 : Int) (by_0 : Int → Int) (room_0 : Int → Int) (nodes_0 : Int) (from_0 : Int → Int) (to_0 : Int → Int) (gain_0 : Int → Int) (arcs_0 : Int) (k1 : 0 ≤ x1 ∧ x1 ≤ 71) (k2 : 0 ≤ x2 ∧ x2 ≤ 9999) (k4 : 0 ≤ x4 ∧ x4 ≤ 71) (k5 : 1 ≤ x5 ∧ x5 ≤ 1000000000) (k6 : 0 ≤ x6 ∧ x6 ≤ 71) (k7 : 0 ≤ x7 ∧ x7 ≤ 71) (k8 : 1 ≤ x8 ∧ x8 ≤ 72) (k11 : 0 ≤ x11 ∧ x11 ≤ 383) (k12 : 1 ≤ x12 ∧ x12 ≤ 1000000000) (k13 : 1 ≤ x13 ∧ x13 ≤ 1000000000) (k15 : (-1) ≤ x15 ∧ x15 ≤ 383) (d0 : x8 + (-4294967296) ≤ x7 ∧ x7 ≤ x8 + (-1)) (d1 : x4 + (-4294967296) ≤ x1 ∧ x1 ≤ x4 + 0) (d2 : x1 + (-4294967296) ≤ x4 ∧ x4 ≤ x1 + 0) (h0 : x15 = by_0 (x6)) (f3 : (-1) * x5 + (1 * x13 + 0) ≤ 0) (f4 : (-1) * x12 + (1 * x13 + 0) ≤ 0) (h5 : x12 = room_0 (x11)) (h6 : x11 = by_0 (x6)) (f8 : x7 < x8) (g9 : x8 = nodes_0) (f10 : SL1 (nodes_0) (arcs_0) (from_0) (to_0) (room_0) (gain_0) (by_0) (x1) (x6) (x7) (x5)) (f11 : NWL (nodes_0) (arcs_0) (from_0) (to_0) (gain_0)) (f12 : FLV (nodes_0) (arcs_0) (from_0) (to_0) (room_0) (gain_0) (x2)) (hK_0_2 : ∀ j : Int, 0 ≤ j → j < 384 → 0 ≤ from_0 j ∧ from_0 j ≤ 71) (hK_0_3 : ∀ j : Int, 0 ≤ j → j < 384 → 0 ≤ to_0 j ∧ to_0 j ≤ 71) (hK_0_4 : ∀ j : Int, 0 ≤ j → j < 384 → (-2147483648) ≤ room_0 j ∧ room_0 j ≤ 2147483647) (hK_0_5 : ∀ j : Int, 0 ≤ j → j < 384 → (-20) ≤ gain_0 j ∧ gain_0 j ≤ 20) (hK_0_7 : ∀ j : Int, 0 ≤ j → j < 72 → (-1) ≤ by_0 j ∧ by_0 j ≤ 383) (kz_0_0 : 0 ≤ nodes_0 ∧ nodes_0 ≤ 72) (kz_0_1 : 0 ≤ arcs_0 ∧ arcs_0 ≤ 384) : 0 ≤ x15 ∧ x15 ≤ 383 := by
  first
    | (have q := sl1_by ‹NWL _ _ _ _ _› ‹SL1 _ _ _ _ _ _ _ _ _ _ _›; have n := (‹NWL _ _ _ _ _›).2.2.2.1; skip; (first | subst h0 | skip); (first | subst h5 | skip); (first | subst h6 | skip); omega)
    | (have q := flp_by ‹FLP _ _ _ _ _ _ _ _ _ _ _ _›; have n := (‹FLP _ _ _ _ _ _ _ _ _ _ _ _›).2.1.2.2.2.1; skip; (first | subst h0 | skip); (first | subst h5 | skip); (first | subst h6 | skip); omega)
    | (have q := sl1_by ‹NWL _ _ _ _ _› ‹SL1 _ _ _ _ _ _ _ _ _ _ _›; have n := flv_room ‹FLV _ _ _ _ _ _ _› q.1 q.2.1; skip; (first | subst h0 | skip); (first | subst h5 | skip); (first | subst h6 | skip); omega)
    | (have q := flp_by ‹FLP _ _ _ _ _ _ _ _ _ _ _ _›; have n := flp_room ‹FLP _ _ _ _ _ _ _ _ _ _ _ _› q.2.2.1 q.2.2.2.1; skip; (first | subst h0 | skip); (first | subst h5 | skip); (first | subst h6 | skip); omega)
    | (skip; (first | subst h0 | skip); (first | subst h5 | skip); (first | subst h6 | skip); have e := xor_one (x := x16) (by assumption) (by omega) (by have q := flp_by ‹FLP _ _ _ _ _ _ _ _ _ _ _ _›; omega) (by omega) (by omega) (by omega); have q2 := flp_other ‹FLP _ _ _ _ _ _ _ _ _ _ _ _› rfl e (by assumption); omega)
  
def o_St_sendRound_at_gl_4 : or_T := (43, 16, [(0, (2, 0, 0, [10])), (1, (0, 0, 71, [])), (2, (0, 0, 9999, [])), (3, (2, 0, 0, [10])), (4, (0, 0, 71, [])), (5, (0, 1, 1000000000, [])), (6, (0, 0, 71, [])), (7, (0, 0, 71, [])), (8, (0, 1, 72, [])), (9, (2, 0, 0, [120])), (10, (2, 0, 0, [123])), (11, (0, 0, 383, [])), (12, (0, 1, 1000000000, [])), (13, (0, 1, 1000000000, [])), (14, (2, 0, 0, [118])), (15, (0, -1, 383, []))], [(10, [15, 10, 6], []), (9, [10, 3], [7]), (9, [14, 3], [2]), (23, [5, 13], [0, -1, 1]), (23, [12, 13], [0, -1, 1]), (10, [12, 9, 11], []), (10, [11, 10, 6], []), (9, [9, 3], [4]), (7, [7, 8], [2]), (9, [8, 3], [0]), (20, [3, 4, 6, 7, 5], [60, 2, 5, 533, 0, 1, 2, 3, 4, 5, 7]), (20, [3], [60, 2, 3, 515, 0, 1, 2, 3, 5]), (20, [3, 2], [60, 2, 4, 530, 0, 1, 2, 3, 4, 5]), (24, [0, 3], []), (24, [1, 4], [])], [(15, (0, 0, 383, []))], [], [], [], [(7, 8, -4294967296, -1), (1, 4, -4294967296, 0), (4, 1, -4294967296, 0)])
theorem oo_St_sendRound_at_gl_4 {kA : Nat → ClassId} : or_ok PRD kA GG o_St_sendRound_at_gl_4 := by
  refine or_mk fun A ta ws vs hD hth hl => ?_
  intro t0 r0 t1 k1 t2 k2 t3 r3 t4 k4 t5 k5 t6 k6 t7 k7 t8 k8 t9 r9 t10 r10 t11 k11 t12 k12 t13 k13 t14 r14 t15 k15 d0 d1 d2 f0 f1 f2 f3 f4 f5 f6 f7 f8 f9 f10 f11 f12 f13 f14
  replace f0 := shm_106 f0
  replace f1 := shm_216 f1
  replace f5 := shm_106 f5
  replace f6 := shm_106 f6
  replace f7 := shm_107 f7
  replace f9 := shm_175 f9
  replace f10 := shm_904 f10
  replace f11 := shm_903 f11
  replace f12 := shm_901 f12
  replace f13 := shm_5 f13
  replace f14 := shm_5 f14
  have q3 : n_v vs 3 = n_v vs 0 := f13.symm
  have q4 : n_v vs 4 = n_v vs 1 := f14.symm
  simp only [q3, q4] at f1 f7 f9 f10 f11 f12
  have cr_0_2 := fdq_107 hD hth r0
  have cr_0_3 := fdq_108 hD hth r0
  have cr_0_4 := fdq_109 hD hth r0
  have cr_0_5 := fdq_110 hD hth r0
  have cr_0_7 := fdq_115 hD hth r0
  have ad_10 : v_ad (n_v vs 10) = w_ar ws (n_v vs 0) 7 := congrArg v_ad f1
  have ad_9 : v_ad (n_v vs 9) = w_ar ws (n_v vs 0) 4 := congrArg v_ad f7
  simp only [ad_10] at f0
  have h0 : v_iv (n_v vs 15) = w_ei ws (w_ar ws (n_v vs 0) 7) (v_iv (n_v vs 6)) := f0
  simp only [ad_9] at f5
  have h5 : v_iv (n_v vs 12) = w_ei ws (w_ar ws (n_v vs 0) 4) (v_iv (n_v vs 11)) := f5
  simp only [ad_10] at f6
  have h6 : v_iv (n_v vs 11) = w_ei ws (w_ar ws (n_v vs 0) 7) (v_iv (n_v vs 6)) := f6
  have g9 : v_iv (n_v vs 8) = w_fi ws (n_v vs 0) 0 := congrArg v_iv f9
  have hK_0_2 := elq_50 hD hth cr_0_2
  have hK_0_3 := elq_51 hD hth cr_0_3
  have hK_0_4 := elq_52 hD hth cr_0_4
  have hK_0_5 := elq_53 hD hth cr_0_5
  have hK_0_7 := elq_56 hD hth cr_0_7
  have kz_0_0 := fdq_113 hD hth r0
  have kz_0_1 := fdq_112 hD hth r0
  have hrf0 : 0 ≤ v_iv (n_v vs 15) ∧ v_iv (n_v vs 15) ≤ 383 := vc_St_sendRound_at_gl_4_r0 (v_iv (n_v vs 1)) (v_iv (n_v vs 2)) (v_iv (n_v vs 4)) (v_iv (n_v vs 5)) (v_iv (n_v vs 6)) (v_iv (n_v vs 7)) (v_iv (n_v vs 8)) (v_iv (n_v vs 11)) (v_iv (n_v vs 12)) (v_iv (n_v vs 13)) (v_iv (n_v vs 15)) (w_ei ws (w_ar ws (n_v vs 0) 7)) (w_ei ws (w_ar ws (n_v vs 0) 4)) (w_fi ws (n_v vs 0) 0) (w_ei ws (w_ar ws (n_v vs 0) 2)) (w_ei ws (w_ar ws (n_v vs 0) 3)) (w_ei ws (w_ar ws (n_v vs 0) 5)) (w_fi ws (n_v vs 0) 1) k1 k2 k4 k5 k6 k7 k8 k11 k12 k13 k15 d0 d1 d2 h0 (shm_22 f3) (shm_22 f4) h5 h6 (shm_6 f8) g9 f10 f11 f12 hK_0_2 hK_0_3 hK_0_4 hK_0_5 hK_0_7 kz_0_0 kz_0_1
  have rf15 : tv_ok ta (0, 0, 383, []) (n_v vs 15) := tv_in t15 (by first | omega | grind) (by first | omega | grind)
  refine ⟨List.forall_mem_cons.mpr ⟨rf15, (fun _ h => (by cases h))⟩, [], trivial, ?_, (fun _ h => (by cases h))⟩
  rw [List.append_nil]
  exact (fun _ h => (by cases h))
set_option maxHeartbeats 4000000 in
theorem vc_St_sendRound_at_gl_5_0 (x1 : Int) (x2 : Int) (x4 : Int) (x5 : Int) (x6 : Int) (x7 : Int) (x8 : Int) (x11 : Int) (x12 : Int) (x13 : Int) (x15 : Int) (x16 : Int) (x17 : Int) (from_0 : Int → Int) (by_0 : Int → Int) (room_0 : Int → Int) (nodes_0 : Int) (to_0 : Int → Int) (gain_0 : Int → Int) (arcs_0 : Int) (k1 : 0 ≤ x1 ∧ x1 ≤ 71) (k2 : 0 ≤ x2 ∧ x2 ≤ 9999) (k4 : 0 ≤ x4 ∧ x4 ≤ 71) (k5 : 1 ≤ x5 ∧ x5 ≤ 1000000000) (k6 : 0 ≤ x6 ∧ x6 ≤ 71) (k7 : 0 ≤ x7 ∧ x7 ≤ 71) (k8 : 1 ≤ x8 ∧ x8 ≤ 72) (k11 : 0 ≤ x11 ∧ x11 ≤ 383) (k12 : 1 ≤ x12 ∧ x12 ≤ 1000000000) (k13 : 1 ≤ x13 ∧ x13 ≤ 1000000000) (k15 : 0 ≤ x15 ∧ x15 ≤ 383) (k16 : 0 ≤ x16 ∧ x16 ≤ 71) (k17 : 1 ≤ x17 ∧ x17 ≤ 72) (d0 : x7 + 1 ≤ x17 ∧ x17 ≤ x7 + 1) (d1 : x8 + (-4294967296) ≤ x17 ∧ x17 ≤ x8 + 0) (d2 : x8 + (-4294967296) ≤ x7 ∧ x7 ≤ x8 + (-1)) (d3 : x4 + (-4294967296) ≤ x1 ∧ x1 ≤ x4 + 0) (d4 : x1 + (-4294967296) ≤ x4 ∧ x4 ≤ x1 + 0) (f0 : x17 = x7 + 1) (f1 : x16 ≠ x1) (h2 : x16 = from_0 (x15)) (h3 : x15 = by_0 (x6)) (f6 : (-1) * x5 + (1 * x13 + 0) ≤ 0) (f7 : (-1) * x12 + (1 * x13 + 0) ≤ 0) (h8 : x12 = room_0 (x11)) (h9 : x11 = by_0 (x6)) (f11 : x7 < x8) (g12 : x8 = nodes_0) (f13 : SL1 (nodes_0) (arcs_0) (from_0) (to_0) (room_0) (gain_0) (by_0) (x1) (x6) (x7) (x5)) (f14 : NWL (nodes_0) (arcs_0) (from_0) (to_0) (gain_0)) (f15 : FLV (nodes_0) (arcs_0) (from_0) (to_0) (room_0) (gain_0) (x2)) (hK_0_2 : ∀ j : Int, 0 ≤ j → j < 384 → 0 ≤ from_0 j ∧ from_0 j ≤ 71) (hK_0_3 : ∀ j : Int, 0 ≤ j → j < 384 → 0 ≤ to_0 j ∧ to_0 j ≤ 71) (hK_0_4 : ∀ j : Int, 0 ≤ j → j < 384 → (-2147483648) ≤ room_0 j ∧ room_0 j ≤ 2147483647) (hK_0_5 : ∀ j : Int, 0 ≤ j → j < 384 → (-20) ≤ gain_0 j ∧ gain_0 j ≤ 20) (hK_0_7 : ∀ j : Int, 0 ≤ j → j < 72 → (-1) ≤ by_0 j ∧ by_0 j ≤ 383) (kz_0_0 : 0 ≤ nodes_0 ∧ nodes_0 ≤ 72) (kz_0_1 : 0 ≤ arcs_0 ∧ arcs_0 ≤ 384) : SL1 (nodes_0) (arcs_0) (from_0) (to_0) (room_0) (gain_0) (by_0) (x1) (x16) (x17) (x13) := by
  first
    | exact sl1_start ‹RSW _ _ _ _ _ _ _› ‹RNG _ _ _› (by omega) (by omega) (by omega) (by omega) (by omega)
    | (skip; (first | subst h2 | skip); (first | subst h3 | skip); (first | subst h8 | skip); (first | subst h9 | skip); exact sl1_step ‹SL1 _ _ _ _ _ _ _ _ _ _ _› ‹NWL _ _ _ _ _› rfl (by omega) (by omega) (by omega) (by omega) (by omega))
  
def o_St_sendRound_at_gl_5 : or_T := (8, 18, [(0, (2, 0, 0, [10])), (1, (0, 0, 71, [])), (2, (0, 0, 9999, [])), (4, (0, 0, 71, [])), (5, (0, 1, 1000000000, [])), (6, (0, 0, 71, [])), (7, (0, 0, 71, [])), (8, (0, 1, 72, [])), (11, (0, 0, 383, [])), (12, (0, 1, 1000000000, [])), (13, (0, 1, 1000000000, [])), (15, (0, 0, 383, [])), (16, (0, 0, 71, [])), (17, (0, 1, 72, []))], [(6, [17, 7], [1]), (7, [16, 4], [1]), (10, [16, 14, 15], []), (10, [15, 10, 6], []), (9, [10, 3], [7]), (9, [14, 3], [2]), (23, [5, 13], [0, -1, 1]), (23, [12, 13], [0, -1, 1]), (10, [12, 9, 11], []), (10, [11, 10, 6], []), (9, [9, 3], [4]), (7, [7, 8], [2]), (9, [8, 3], [0]), (20, [3, 4, 6, 7, 5], [60, 2, 5, 533, 0, 1, 2, 3, 4, 5, 7]), (20, [3], [60, 2, 3, 515, 0, 1, 2, 3, 5]), (20, [3, 2], [60, 2, 4, 530, 0, 1, 2, 3, 4, 5]), (24, [0, 3], []), (24, [1, 4], [])], [], [], [(20, [3, 4, 16, 17, 13], [60, 2, 5, 533, 0, 1, 2, 3, 4, 5, 7])], [], [(17, 7, 1, 1), (17, 8, -4294967296, 0), (7, 8, -4294967296, -1), (1, 4, -4294967296, 0), (4, 1, -4294967296, 0)])
theorem oo_St_sendRound_at_gl_5 {kA : Nat → ClassId} : or_ok PRD kA GG o_St_sendRound_at_gl_5 := by
  refine or_mk fun A ta ws vs hD hth hl => ?_
  intro t0 r0 t1 k1 t2 k2 t4 k4 t5 k5 t6 k6 t7 k7 t8 k8 t11 k11 t12 k12 t13 k13 t15 k15 t16 k16 t17 k17 d0 d1 d2 d3 d4 f0 f1 f2 f3 f4 f5 f6 f7 f8 f9 f10 f11 f12 f13 f14 f15 f16 f17
  replace f0 := shm_4 f0
  replace f1 := shm_40 f1
  replace f2 := shm_106 f2
  replace f3 := shm_106 f3
  replace f4 := shm_216 f4
  replace f5 := shm_129 f5
  replace f6 := shm_22 f6
  replace f7 := shm_22 f7
  replace f8 := shm_106 f8
  replace f9 := shm_106 f9
  replace f10 := shm_107 f10
  replace f11 := shm_6 f11
  replace f12 := shm_175 f12
  replace f13 := shm_904 f13
  replace f14 := shm_903 f14
  replace f15 := shm_901 f15
  replace f16 := shm_5 f16
  replace f17 := shm_5 f17
  have q3 : n_v vs 3 = n_v vs 0 := f16.symm
  have q4 : n_v vs 4 = n_v vs 1 := f17.symm
  simp only [q4, q3] at f1 f4 f5 f10 f12 f13 f14 f15
  have cr_0_2 := fdq_107 hD hth r0
  have cr_0_3 := fdq_108 hD hth r0
  have cr_0_4 := fdq_109 hD hth r0
  have cr_0_5 := fdq_110 hD hth r0
  have cr_0_7 := fdq_115 hD hth r0
  have ad_10 : v_ad (n_v vs 10) = w_ar ws (n_v vs 0) 7 := congrArg v_ad f4
  have ad_14 : v_ad (n_v vs 14) = w_ar ws (n_v vs 0) 2 := congrArg v_ad f5
  have ad_9 : v_ad (n_v vs 9) = w_ar ws (n_v vs 0) 4 := congrArg v_ad f10
  simp only [ad_14] at f2
  have h2 : v_iv (n_v vs 16) = w_ei ws (w_ar ws (n_v vs 0) 2) (v_iv (n_v vs 15)) := f2
  simp only [ad_10] at f3
  have h3 : v_iv (n_v vs 15) = w_ei ws (w_ar ws (n_v vs 0) 7) (v_iv (n_v vs 6)) := f3
  simp only [ad_9] at f8
  have h8 : v_iv (n_v vs 12) = w_ei ws (w_ar ws (n_v vs 0) 4) (v_iv (n_v vs 11)) := f8
  simp only [ad_10] at f9
  have h9 : v_iv (n_v vs 11) = w_ei ws (w_ar ws (n_v vs 0) 7) (v_iv (n_v vs 6)) := f9
  have g12 : v_iv (n_v vs 8) = w_fi ws (n_v vs 0) 0 := congrArg v_iv f12
  have hK_0_2 := elq_50 hD hth cr_0_2
  have hK_0_3 := elq_51 hD hth cr_0_3
  have hK_0_4 := elq_52 hD hth cr_0_4
  have hK_0_5 := elq_53 hD hth cr_0_5
  have hK_0_7 := elq_56 hD hth cr_0_7
  have kz_0_0 := fdq_113 hD hth r0
  have kz_0_1 := fdq_112 hD hth r0
  have nf0 : fc_1 PRD (20, [3, 4, 16, 17, 13], [60, 2, 5, 533, 0, 1, 2, 3, 4, 5, 7]) ws (vs) := by
    refine ⟨nf_in hl rfl, sgq_904 ?_⟩
    · show SL1 (w_fi ws (n_v vs 3) 0) (w_fi ws (n_v vs 3) 1) (w_ei ws (w_ar ws (n_v vs 3) 2)) (w_ei ws (w_ar ws (n_v vs 3) 3)) (w_ei ws (w_ar ws (n_v vs 3) 4)) (w_ei ws (w_ar ws (n_v vs 3) 5)) (w_ei ws (w_ar ws (n_v vs 3) 7)) (v_iv (n_v vs 4)) (v_iv (n_v vs 16)) (v_iv (n_v vs 17)) (v_iv (n_v vs 13))
      simp only [q3, q4]
      exact vc_St_sendRound_at_gl_5_0 (v_iv (n_v vs 1)) (v_iv (n_v vs 2)) (v_iv (n_v vs 4)) (v_iv (n_v vs 5)) (v_iv (n_v vs 6)) (v_iv (n_v vs 7)) (v_iv (n_v vs 8)) (v_iv (n_v vs 11)) (v_iv (n_v vs 12)) (v_iv (n_v vs 13)) (v_iv (n_v vs 15)) (v_iv (n_v vs 16)) (v_iv (n_v vs 17)) (w_ei ws (w_ar ws (n_v vs 0) 2)) (w_ei ws (w_ar ws (n_v vs 0) 7)) (w_ei ws (w_ar ws (n_v vs 0) 4)) (w_fi ws (n_v vs 0) 0) (w_ei ws (w_ar ws (n_v vs 0) 3)) (w_ei ws (w_ar ws (n_v vs 0) 5)) (w_fi ws (n_v vs 0) 1) k1 k2 k4 k5 k6 k7 k8 k11 k12 k13 k15 k16 k17 d0 d1 d2 d3 d4 f0 f1 h2 h3 f6 f7 h8 h9 f11 g12 f13 f14 f15 hK_0_2 hK_0_3 hK_0_4 hK_0_5 hK_0_7 kz_0_0 kz_0_1
  refine ⟨(fun _ h => (by cases h)), [], trivial, ?_, (fun _ h => (by cases h))⟩
  rw [List.append_nil]
  exact List.forall_mem_cons.mpr ⟨⟨show (20 : Nat) < 100 from by decide, nf0⟩, (fun _ h => (by cases h))⟩
set_option maxHeartbeats 4000000 in
theorem vc_St_sendRound_at_gl_6_0 (x1 : Int) (x2 : Int) (x5 : Int) (x6 : Int) (x7 : Int) (x11 : Int) (x12 : Int) (x13 : Int) (x15 : Int) (x16 : Int) (x17 : Int) (from_0 : Int → Int) (by_0 : Int → Int) (room_0 : Int → Int) (nodes_0 : Int) (to_0 : Int → Int) (gain_0 : Int → Int) (arcs_0 : Int) (k1 : 0 ≤ x1 ∧ x1 ≤ 71) (k2 : 0 ≤ x2 ∧ x2 ≤ 9999) (k5 : 1 ≤ x5 ∧ x5 ≤ 1000000000) (k6 : 0 ≤ x6 ∧ x6 ≤ 71) (k7 : 0 ≤ x7 ∧ x7 ≤ 71) (k11 : 0 ≤ x11 ∧ x11 ≤ 383) (k12 : 1 ≤ x12 ∧ x12 ≤ 1000000000) (k13 : 1 ≤ x13 ∧ x13 ≤ 1000000000) (k15 : 0 ≤ x15 ∧ x15 ≤ 383) (k16 : 0 ≤ x16 ∧ x16 ≤ 71) (k17 : 0 ≤ x17 ∧ x17 ≤ 0) (f0 : x16 = x1) (h1 : x16 = from_0 (x15)) (h2 : x15 = by_0 (x6)) (f5 : (-1) * x5 + (1 * x13 + 0) ≤ 0) (f6 : (-1) * x12 + (1 * x13 + 0) ≤ 0) (h7 : x12 = room_0 (x11)) (h8 : x11 = by_0 (x6)) (f12 : SL1 (nodes_0) (arcs_0) (from_0) (to_0) (room_0) (gain_0) (by_0) (x1) (x6) (x7) (x5)) (f13 : NWL (nodes_0) (arcs_0) (from_0) (to_0) (gain_0)) (f14 : FLV (nodes_0) (arcs_0) (from_0) (to_0) (room_0) (gain_0) (x2)) (kz_0_0 : 0 ≤ nodes_0 ∧ nodes_0 ≤ 72) (kz_0_1 : 0 ≤ arcs_0 ∧ arcs_0 ≤ 384) : FLP (nodes_0) (arcs_0) (from_0) (to_0) (room_0) (gain_0) (by_0) (x1) (x16) (x17) (x13) (x2) := by
  first
    | (have q := sl1_few ‹NWL _ _ _ _ _› ‹SL1 _ _ _ _ _ _ _ _ _ _ _›; omega)
    | (skip; (first | subst h1 | skip); (first | subst h2 | skip); (first | subst h7 | skip); (first | subst h8 | skip); exact flp_start (slx_of ‹SL1 _ _ _ _ _ _ _ _ _ _ _› ‹NWL _ _ _ _ _› rfl (by omega) (by omega) (by omega) (by omega)) ‹FLV _ _ _ _ _ _ _› (by omega) (by omega))
    | (skip; (first | subst h1 | skip); (first | subst h2 | skip); (first | subst h7 | skip); (first | subst h8 | skip); exact (flp_step ‹FLP _ _ _ _ _ _ _ _ _ _ _ _› rfl (by assumption) (by omega) (xor_one (by assumption) (by omega) (by omega) (by omega) (by omega) (by omega)) (by assumption) (by omega) rfl (by omega)).1 (by omega))
  
def o_St_sendRound_at_gl_6 : or_T := (62, 18, [(0, (2, 0, 0, [10])), (1, (0, 0, 71, [])), (2, (0, 0, 9999, [])), (5, (0, 1, 1000000000, [])), (6, (0, 0, 71, [])), (7, (0, 0, 71, [])), (11, (0, 0, 383, [])), (12, (0, 1, 1000000000, [])), (13, (0, 1, 1000000000, [])), (15, (0, 0, 383, [])), (16, (0, 0, 71, [])), (17, (0, 0, 0, []))], [(7, [16, 4], [0]), (10, [16, 14, 15], []), (10, [15, 10, 6], []), (9, [10, 3], [7]), (9, [14, 3], [2]), (23, [5, 13], [0, -1, 1]), (23, [12, 13], [0, -1, 1]), (10, [12, 9, 11], []), (10, [11, 10, 6], []), (9, [9, 3], [4]), (20, [3, 4, 6, 7, 5], [60, 2, 5, 533, 0, 1, 2, 3, 4, 5, 7]), (20, [3], [60, 2, 3, 515, 0, 1, 2, 3, 5]), (20, [3, 2], [60, 2, 4, 530, 0, 1, 2, 3, 4, 5]), (24, [0, 3], []), (24, [1, 4], [])], [], [], [(20, [3, 4, 16, 17, 13, 2], [60, 2, 5, 535, 0, 1, 2, 3, 4, 5, 7])], [], [])
theorem oo_St_sendRound_at_gl_6 {kA : Nat → ClassId} : or_ok PRD kA GG o_St_sendRound_at_gl_6 := by
  refine or_mk fun A ta ws vs hD hth hl => ?_
  intro t0 r0 t1 k1 t2 k2 t5 k5 t6 k6 t7 k7 t11 k11 t12 k12 t13 k13 t15 k15 t16 k16 t17 k17 f0 f1 f2 f3 f4 f5 f6 f7 f8 f9 f12 f13 f14 f15 f16
  replace f0 := shm_37 f0
  replace f1 := shm_106 f1
  replace f2 := shm_106 f2
  replace f3 := shm_216 f3
  replace f4 := shm_129 f4
  replace f5 := shm_22 f5
  replace f6 := shm_22 f6
  replace f7 := shm_106 f7
  replace f8 := shm_106 f8
  replace f9 := shm_107 f9
  replace f12 := shm_904 f12
  replace f13 := shm_903 f13
  replace f14 := shm_901 f14
  replace f15 := shm_5 f15
  replace f16 := shm_5 f16
  have q3 : n_v vs 3 = n_v vs 0 := f15.symm
  have q4 : n_v vs 4 = n_v vs 1 := f16.symm
  simp only [q4, q3] at f0 f3 f4 f9 f12 f13 f14
  have ad_10 : v_ad (n_v vs 10) = w_ar ws (n_v vs 0) 7 := congrArg v_ad f3
  have ad_14 : v_ad (n_v vs 14) = w_ar ws (n_v vs 0) 2 := congrArg v_ad f4
  have ad_9 : v_ad (n_v vs 9) = w_ar ws (n_v vs 0) 4 := congrArg v_ad f9
  simp only [ad_14] at f1
  have h1 : v_iv (n_v vs 16) = w_ei ws (w_ar ws (n_v vs 0) 2) (v_iv (n_v vs 15)) := f1
  simp only [ad_10] at f2
  have h2 : v_iv (n_v vs 15) = w_ei ws (w_ar ws (n_v vs 0) 7) (v_iv (n_v vs 6)) := f2
  simp only [ad_9] at f7
  have h7 : v_iv (n_v vs 12) = w_ei ws (w_ar ws (n_v vs 0) 4) (v_iv (n_v vs 11)) := f7
  simp only [ad_10] at f8
  have h8 : v_iv (n_v vs 11) = w_ei ws (w_ar ws (n_v vs 0) 7) (v_iv (n_v vs 6)) := f8
  have kz_0_0 := fdq_113 hD hth r0
  have kz_0_1 := fdq_112 hD hth r0
  have nf0 : fc_1 PRD (20, [3, 4, 16, 17, 13, 2], [60, 2, 5, 535, 0, 1, 2, 3, 4, 5, 7]) ws (vs) := by
    refine ⟨nf_in hl rfl, sgq_905 ?_⟩
    · show FLP (w_fi ws (n_v vs 3) 0) (w_fi ws (n_v vs 3) 1) (w_ei ws (w_ar ws (n_v vs 3) 2)) (w_ei ws (w_ar ws (n_v vs 3) 3)) (w_ei ws (w_ar ws (n_v vs 3) 4)) (w_ei ws (w_ar ws (n_v vs 3) 5)) (w_ei ws (w_ar ws (n_v vs 3) 7)) (v_iv (n_v vs 4)) (v_iv (n_v vs 16)) (v_iv (n_v vs 17)) (v_iv (n_v vs 13)) (v_iv (n_v vs 2))
      simp only [q3, q4]
      exact vc_St_sendRound_at_gl_6_0 (v_iv (n_v vs 1)) (v_iv (n_v vs 2)) (v_iv (n_v vs 5)) (v_iv (n_v vs 6)) (v_iv (n_v vs 7)) (v_iv (n_v vs 11)) (v_iv (n_v vs 12)) (v_iv (n_v vs 13)) (v_iv (n_v vs 15)) (v_iv (n_v vs 16)) (v_iv (n_v vs 17)) (w_ei ws (w_ar ws (n_v vs 0) 2)) (w_ei ws (w_ar ws (n_v vs 0) 7)) (w_ei ws (w_ar ws (n_v vs 0) 4)) (w_fi ws (n_v vs 0) 0) (w_ei ws (w_ar ws (n_v vs 0) 3)) (w_ei ws (w_ar ws (n_v vs 0) 5)) (w_fi ws (n_v vs 0) 1) k1 k2 k5 k6 k7 k11 k12 k13 k15 k16 k17 f0 h1 h2 f5 f6 h7 h8 f12 f13 f14 kz_0_0 kz_0_1
  refine ⟨(fun _ h => (by cases h)), [], trivial, ?_, (fun _ h => (by cases h))⟩
  rw [List.append_nil]
  exact List.forall_mem_cons.mpr ⟨⟨show (20 : Nat) < 100 from by decide, nf0⟩, (fun _ h => (by cases h))⟩
set_option maxHeartbeats 4000000 in
theorem vc_St_sendRound_at_gl_7_0 (x1 : Int) (x2 : Int) (x5 : Int) (x6 : Int) (x7 : Int) (x8 : Int) (nodes_0 : Int) (from_0 : Int → Int) (to_0 : Int → Int) (room_0 : Int → Int) (gain_0 : Int → Int) (by_0 : Int → Int) (arcs_0 : Int) (k1 : 0 ≤ x1 ∧ x1 ≤ 71) (k2 : 0 ≤ x2 ∧ x2 ≤ 9999) (k5 : 1 ≤ x5 ∧ x5 ≤ 1000000000) (k6 : 0 ≤ x6 ∧ x6 ≤ 71) (k7 : 0 ≤ x7 ∧ x7 ≤ 72) (k8 : 0 ≤ x8 ∧ x8 ≤ 72) (d0 : x8 + 0 ≤ x7 ∧ x7 ≤ x8 + 4294967296) (g1 : x8 = nodes_0) (f2 : FLP (nodes_0) (arcs_0) (from_0) (to_0) (room_0) (gain_0) (by_0) (x1) (x6) (x7) (x5) (x2)) (kz_0_0 : 0 ≤ nodes_0 ∧ nodes_0 ≤ 72) (kz_0_1 : 0 ≤ arcs_0 ∧ arcs_0 ≤ 384) : FLV1 (nodes_0) (arcs_0) (from_0) (to_0) (room_0) (gain_0) (x2) := by
  first
    | (have q := flp_few ‹FLP _ _ _ _ _ _ _ _ _ _ _ _›; omega)
    | (skip; exact (flp_step ‹FLP _ _ _ _ _ _ _ _ _ _ _ _› rfl (by assumption) (by omega) (xor_one (by assumption) (by omega) (by omega) (by omega) (by omega) (by omega)) (by assumption) (by omega) rfl rfl).2 (by omega))
  
def o_St_sendRound_at_gl_7 : or_T := (129, 9, [(0, (2, 0, 0, [10])), (1, (0, 0, 71, [])), (2, (0, 0, 9999, [])), (5, (0, 1, 1000000000, [])), (6, (0, 0, 71, [])), (7, (0, 0, 72, [])), (8, (0, 0, 72, []))], [(9, [8, 3], [0]), (20, [3, 4, 6, 7, 5, 2], [60, 2, 5, 535, 0, 1, 2, 3, 4, 5, 7]), (24, [0, 3], []), (24, [1, 4], [])], [], [], [(20, [0, 2], [60, 2, 4, 531, 0, 1, 2, 3, 4, 5])], [], [(7, 8, 0, 4294967296)])
theorem oo_St_sendRound_at_gl_7 {kA : Nat → ClassId} : or_ok PRD kA GG o_St_sendRound_at_gl_7 := by
  refine or_mk fun A ta ws vs hD hth hl => ?_
  intro t0 r0 t1 k1 t2 k2 t5 k5 t6 k6 t7 k7 t8 k8 d0 f1 f2 f3 f4
  replace f1 := shm_175 f1
  replace f2 := shm_905 f2
  replace f3 := shm_5 f3
  replace f4 := shm_5 f4
  have q3 : n_v vs 3 = n_v vs 0 := f3.symm
  have q4 : n_v vs 4 = n_v vs 1 := f4.symm
  simp only [q3, q4] at f1 f2
  have g1 : v_iv (n_v vs 8) = w_fi ws (n_v vs 0) 0 := congrArg v_iv f1
  have kz_0_0 := fdq_113 hD hth r0
  have kz_0_1 := fdq_112 hD hth r0
  have nf0 : fc_1 PRD (20, [0, 2], [60, 2, 4, 531, 0, 1, 2, 3, 4, 5]) ws (vs) := ⟨nf_in hl rfl, sgq_906 (vc_St_sendRound_at_gl_7_0 (v_iv (n_v vs 1)) (v_iv (n_v vs 2)) (v_iv (n_v vs 5)) (v_iv (n_v vs 6)) (v_iv (n_v vs 7)) (v_iv (n_v vs 8)) (w_fi ws (n_v vs 0) 0) (w_ei ws (w_ar ws (n_v vs 0) 2)) (w_ei ws (w_ar ws (n_v vs 0) 3)) (w_ei ws (w_ar ws (n_v vs 0) 4)) (w_ei ws (w_ar ws (n_v vs 0) 5)) (w_ei ws (w_ar ws (n_v vs 0) 7)) (w_fi ws (n_v vs 0) 1) k1 k2 k5 k6 k7 k8 d0 g1 f2 kz_0_0 kz_0_1)⟩
  refine ⟨(fun _ h => (by cases h)), [], trivial, ?_, (fun _ h => (by cases h))⟩
  rw [List.append_nil]
  exact List.forall_mem_cons.mpr ⟨⟨show (20 : Nat) < 100 from by decide, nf0⟩, (fun _ h => (by cases h))⟩
set_option maxHeartbeats 4000000 in
theorem vc_St_sendRound_at_gl_8_r0 (x1 : Int) (x2 : Int) (x5 : Int) (x6 : Int) (x7 : Int) (x11 : Int) (by_0 : Int → Int) (nodes_0 : Int) (from_0 : Int → Int) (to_0 : Int → Int) (room_0 : Int → Int) (gain_0 : Int → Int) (arcs_0 : Int) (k1 : 0 ≤ x1 ∧ x1 ≤ 71) (k2 : 0 ≤ x2 ∧ x2 ≤ 9999) (k5 : 1 ≤ x5 ∧ x5 ≤ 1000000000) (k6 : 0 ≤ x6 ∧ x6 ≤ 71) (k7 : 0 ≤ x7 ∧ x7 ≤ 71) (k11 : (-1) ≤ x11 ∧ x11 ≤ 383) (h0 : x11 = by_0 (x6)) (f5 : FLP (nodes_0) (arcs_0) (from_0) (to_0) (room_0) (gain_0) (by_0) (x1) (x6) (x7) (x5) (x2)) (kz_0_0 : 0 ≤ nodes_0 ∧ nodes_0 ≤ 72) (kz_0_1 : 0 ≤ arcs_0 ∧ arcs_0 ≤ 384) : 0 ≤ x11 ∧ x11 ≤ 383 := by
  first
    | (have q := sl1_by ‹NWL _ _ _ _ _› ‹SL1 _ _ _ _ _ _ _ _ _ _ _›; have n := (‹NWL _ _ _ _ _›).2.2.2.1; skip; (first | subst h0 | skip); omega)
    | (have q := flp_by ‹FLP _ _ _ _ _ _ _ _ _ _ _ _›; have n := (‹FLP _ _ _ _ _ _ _ _ _ _ _ _›).2.1.2.2.2.1; skip; (first | subst h0 | skip); omega)
    | (have q := sl1_by ‹NWL _ _ _ _ _› ‹SL1 _ _ _ _ _ _ _ _ _ _ _›; have n := flv_room ‹FLV _ _ _ _ _ _ _› q.1 q.2.1; skip; (first | subst h0 | skip); omega)
    | (have q := flp_by ‹FLP _ _ _ _ _ _ _ _ _ _ _ _›; have n := flp_room ‹FLP _ _ _ _ _ _ _ _ _ _ _ _› q.2.2.1 q.2.2.2.1; skip; (first | subst h0 | skip); omega)
    | (skip; (first | subst h0 | skip); have e := xor_one (x := x16) (by assumption) (by omega) (by have q := flp_by ‹FLP _ _ _ _ _ _ _ _ _ _ _ _›; omega) (by omega) (by omega) (by omega); have q2 := flp_other ‹FLP _ _ _ _ _ _ _ _ _ _ _ _› rfl e (by assumption); omega)
  
def o_St_sendRound_at_gl_8 : or_T := (81, 12, [(0, (2, 0, 0, [10])), (1, (0, 0, 71, [])), (2, (0, 0, 9999, [])), (3, (2, 0, 0, [10])), (4, (0, 0, 71, [])), (5, (0, 1, 1000000000, [])), (6, (0, 0, 71, [])), (7, (0, 0, 71, [])), (8, (0, 1, 72, [])), (9, (2, 0, 0, [120])), (10, (2, 0, 0, [123])), (11, (0, -1, 383, []))], [(10, [11, 10, 6], []), (9, [10, 3], [7]), (9, [9, 3], [4]), (7, [7, 8], [2]), (9, [8, 3], [0]), (20, [3, 4, 6, 7, 5, 2], [60, 2, 5, 535, 0, 1, 2, 3, 4, 5, 7]), (24, [0, 3], []), (24, [1, 4], [])], [(11, (0, 0, 383, []))], [], [], [], [(7, 8, -4294967296, -1), (1, 4, -4294967296, 0), (4, 1, -4294967296, 0)])
theorem oo_St_sendRound_at_gl_8 {kA : Nat → ClassId} : or_ok PRD kA GG o_St_sendRound_at_gl_8 := by
  refine or_mk fun A ta ws vs hD hth hl => ?_
  intro t0 r0 t1 k1 t2 k2 t3 r3 t4 k4 t5 k5 t6 k6 t7 k7 t8 k8 t9 r9 t10 r10 t11 k11 d0 d1 d2 f0 f1 f2 f3 f4 f5 f6 f7
  replace f0 := shm_106 f0
  replace f1 := shm_216 f1
  replace f5 := shm_905 f5
  replace f6 := shm_5 f6
  replace f7 := shm_5 f7
  have q3 : n_v vs 3 = n_v vs 0 := f6.symm
  have q4 : n_v vs 4 = n_v vs 1 := f7.symm
  simp only [q3, q4] at f1 f5
  have ad_10 : v_ad (n_v vs 10) = w_ar ws (n_v vs 0) 7 := congrArg v_ad f1
  simp only [ad_10] at f0
  have h0 : v_iv (n_v vs 11) = w_ei ws (w_ar ws (n_v vs 0) 7) (v_iv (n_v vs 6)) := f0
  have kz_0_0 := fdq_113 hD hth r0
  have kz_0_1 := fdq_112 hD hth r0
  have hrf0 : 0 ≤ v_iv (n_v vs 11) ∧ v_iv (n_v vs 11) ≤ 383 := vc_St_sendRound_at_gl_8_r0 (v_iv (n_v vs 1)) (v_iv (n_v vs 2)) (v_iv (n_v vs 5)) (v_iv (n_v vs 6)) (v_iv (n_v vs 7)) (v_iv (n_v vs 11)) (w_ei ws (w_ar ws (n_v vs 0) 7)) (w_fi ws (n_v vs 0) 0) (w_ei ws (w_ar ws (n_v vs 0) 2)) (w_ei ws (w_ar ws (n_v vs 0) 3)) (w_ei ws (w_ar ws (n_v vs 0) 4)) (w_ei ws (w_ar ws (n_v vs 0) 5)) (w_fi ws (n_v vs 0) 1) k1 k2 k5 k6 k7 k11 h0 f5 kz_0_0 kz_0_1
  have rf11 : tv_ok ta (0, 0, 383, []) (n_v vs 11) := tv_in t11 (by first | omega | grind) (by first | omega | grind)
  refine ⟨List.forall_mem_cons.mpr ⟨rf11, (fun _ h => (by cases h))⟩, [], trivial, ?_, (fun _ h => (by cases h))⟩
  rw [List.append_nil]
  exact (fun _ h => (by cases h))
set_option maxHeartbeats 4000000 in
theorem vc_St_sendRound_at_gl_9_r0 (x1 : Int) (x2 : Int) (x5 : Int) (x6 : Int) (x7 : Int) (x11 : Int) (x12 : Int) (room_0 : Int → Int) (by_0 : Int → Int) (nodes_0 : Int) (from_0 : Int → Int) (to_0 : Int → Int) (gain_0 : Int → Int) (arcs_0 : Int) (k1 : 0 ≤ x1 ∧ x1 ≤ 71) (k2 : 0 ≤ x2 ∧ x2 ≤ 9999) (k5 : 1 ≤ x5 ∧ x5 ≤ 1000000000) (k6 : 0 ≤ x6 ∧ x6 ≤ 71) (k7 : 0 ≤ x7 ∧ x7 ≤ 71) (k11 : 0 ≤ x11 ∧ x11 ≤ 383) (k12 : (-2147483648) ≤ x12 ∧ x12 ≤ 2147483647) (h0 : x12 = room_0 (x11)) (h1 : x11 = by_0 (x6)) (f6 : FLP (nodes_0) (arcs_0) (from_0) (to_0) (room_0) (gain_0) (by_0) (x1) (x6) (x7) (x5) (x2)) (kz_0_0 : 0 ≤ nodes_0 ∧ nodes_0 ≤ 72) (kz_0_1 : 0 ≤ arcs_0 ∧ arcs_0 ≤ 384) : 1 ≤ x12 ∧ x12 ≤ 1000000000 := by
  first
    | (have q := sl1_by ‹NWL _ _ _ _ _› ‹SL1 _ _ _ _ _ _ _ _ _ _ _›; have n := (‹NWL _ _ _ _ _›).2.2.2.1; skip; (first | subst h0 | skip); (first | subst h1 | skip); omega)
    | (have q := flp_by ‹FLP _ _ _ _ _ _ _ _ _ _ _ _›; have n := (‹FLP _ _ _ _ _ _ _ _ _ _ _ _›).2.1.2.2.2.1; skip; (first | subst h0 | skip); (first | subst h1 | skip); omega)
    | (have q := sl1_by ‹NWL _ _ _ _ _› ‹SL1 _ _ _ _ _ _ _ _ _ _ _›; have n := flv_room ‹FLV _ _ _ _ _ _ _› q.1 q.2.1; skip; (first | subst h0 | skip); (first | subst h1 | skip); omega)
    | (have q := flp_by ‹FLP _ _ _ _ _ _ _ _ _ _ _ _›; have n := flp_room ‹FLP _ _ _ _ _ _ _ _ _ _ _ _› q.2.2.1 q.2.2.2.1; skip; (first | subst h0 | skip); (first | subst h1 | skip); omega)
    | (skip; (first | subst h0 | skip); (first | subst h1 | skip); have e := xor_one (x := x16) (by assumption) (by omega) (by have q := flp_by ‹FLP _ _ _ _ _ _ _ _ _ _ _ _›; omega) (by omega) (by omega) (by omega); have q2 := flp_other ‹FLP _ _ _ _ _ _ _ _ _ _ _ _› rfl e (by assumption); omega)
  
def o_St_sendRound_at_gl_9 : or_T := (83, 13, [(0, (2, 0, 0, [10])), (1, (0, 0, 71, [])), (2, (0, 0, 9999, [])), (3, (2, 0, 0, [10])), (4, (0, 0, 71, [])), (5, (0, 1, 1000000000, [])), (6, (0, 0, 71, [])), (7, (0, 0, 71, [])), (8, (0, 1, 72, [])), (9, (2, 0, 0, [120])), (10, (2, 0, 0, [123])), (11, (0, 0, 383, [])), (12, (0, -2147483648, 2147483647, []))], [(10, [12, 9, 11], []), (10, [11, 10, 6], []), (9, [10, 3], [7]), (9, [9, 3], [4]), (7, [7, 8], [2]), (9, [8, 3], [0]), (20, [3, 4, 6, 7, 5, 2], [60, 2, 5, 535, 0, 1, 2, 3, 4, 5, 7]), (24, [0, 3], []), (24, [1, 4], [])], [(12, (0, 1, 1000000000, []))], [], [], [], [(7, 8, -4294967296, -1), (1, 4, -4294967296, 0), (4, 1, -4294967296, 0)])
theorem oo_St_sendRound_at_gl_9 {kA : Nat → ClassId} : or_ok PRD kA GG o_St_sendRound_at_gl_9 := by
  refine or_mk fun A ta ws vs hD hth hl => ?_
  intro t0 r0 t1 k1 t2 k2 t3 r3 t4 k4 t5 k5 t6 k6 t7 k7 t8 k8 t9 r9 t10 r10 t11 k11 t12 k12 d0 d1 d2 f0 f1 f2 f3 f4 f5 f6 f7 f8
  replace f0 := shm_106 f0
  replace f1 := shm_106 f1
  replace f2 := shm_216 f2
  replace f3 := shm_107 f3
  replace f6 := shm_905 f6
  replace f7 := shm_5 f7
  replace f8 := shm_5 f8
  have q3 : n_v vs 3 = n_v vs 0 := f7.symm
  have q4 : n_v vs 4 = n_v vs 1 := f8.symm
  simp only [q3, q4] at f2 f3 f6
  have ad_10 : v_ad (n_v vs 10) = w_ar ws (n_v vs 0) 7 := congrArg v_ad f2
  have ad_9 : v_ad (n_v vs 9) = w_ar ws (n_v vs 0) 4 := congrArg v_ad f3
  simp only [ad_9] at f0
  have h0 : v_iv (n_v vs 12) = w_ei ws (w_ar ws (n_v vs 0) 4) (v_iv (n_v vs 11)) := f0
  simp only [ad_10] at f1
  have h1 : v_iv (n_v vs 11) = w_ei ws (w_ar ws (n_v vs 0) 7) (v_iv (n_v vs 6)) := f1
  have kz_0_0 := fdq_113 hD hth r0
  have kz_0_1 := fdq_112 hD hth r0
  have hrf0 : 1 ≤ v_iv (n_v vs 12) ∧ v_iv (n_v vs 12) ≤ 1000000000 := vc_St_sendRound_at_gl_9_r0 (v_iv (n_v vs 1)) (v_iv (n_v vs 2)) (v_iv (n_v vs 5)) (v_iv (n_v vs 6)) (v_iv (n_v vs 7)) (v_iv (n_v vs 11)) (v_iv (n_v vs 12)) (w_ei ws (w_ar ws (n_v vs 0) 4)) (w_ei ws (w_ar ws (n_v vs 0) 7)) (w_fi ws (n_v vs 0) 0) (w_ei ws (w_ar ws (n_v vs 0) 2)) (w_ei ws (w_ar ws (n_v vs 0) 3)) (w_ei ws (w_ar ws (n_v vs 0) 5)) (w_fi ws (n_v vs 0) 1) k1 k2 k5 k6 k7 k11 k12 h0 h1 f6 kz_0_0 kz_0_1
  have rf12 : tv_ok ta (0, 1, 1000000000, []) (n_v vs 12) := tv_in t12 (by first | omega | grind) (by first | omega | grind)
  refine ⟨List.forall_mem_cons.mpr ⟨rf12, (fun _ h => (by cases h))⟩, [], trivial, ?_, (fun _ h => (by cases h))⟩
  rw [List.append_nil]
  exact (fun _ h => (by cases h))
set_option maxHeartbeats 4000000 in
theorem vc_St_sendRound_at_gl_10_r0 (x1 : Int) (x2 : Int) (x5 : Int) (x6 : Int) (x7 : Int) (x11 : Int) (x12 : Int) (x13 : Int) (x14 : Int) (x15 : Int) (x16 : Int) (by_0 : Int → Int) (room_1 : Int → Int) (by_1 : Int → Int) (nodes_1 : Int) (from_1 : Int → Int) (to_1 : Int → Int) (gain_1 : Int → Int) (arcs_1 : Int) (nodes_0 : Int) (arcs_0 : Int) (from_0 : Int → Int) (to_0 : Int → Int) (room_0 : Int → Int) (gain_0 : Int → Int) (k1 : 0 ≤ x1 ∧ x1 ≤ 71) (k2 : 0 ≤ x2 ∧ x2 ≤ 9999) (k5 : 1 ≤ x5 ∧ x5 ≤ 1000000000) (k6 : 0 ≤ x6 ∧ x6 ≤ 71) (k7 : 0 ≤ x7 ∧ x7 ≤ 71) (k11 : 0 ≤ x11 ∧ x11 ≤ 383) (k12 : 1 ≤ x12 ∧ x12 ≤ 1000000000) (k13 : (-999999999) ≤ x13 ∧ x13 ≤ 999999999) (k14 : (-1) ≤ x14 ∧ x14 ≤ 383) (k15 : 1 ≤ x15 ∧ x15 ≤ 1) (k16 : (-2147483648) ≤ x16 ∧ x16 ≤ 2147483647) (f0 : bvp (x16) = bvp (x14) ^^^ bvp (x15)) (h1 : x14 = by_0 (x6)) (h8 : x12 = room_1 (x11)) (h9 : x11 = by_1 (x6)) (f12 : FLP (nodes_1) (arcs_1) (from_1) (to_1) (room_1) (gain_1) (by_1) (x1) (x6) (x7) (x5) (x2)) (fe_0_0_1 : nodes_0 = nodes_1) (fe_0_1_1 : arcs_0 = arcs_1) (hE_0_2_1 : ∀ j : Int, from_0 j = from_1 j) (hE_0_3_1 : ∀ j : Int, to_0 j = to_1 j) (hE_0_4_1 : ∀ j : Int, 0 ≤ j → (j = x11 → room_0 j = x13) ∧ (j ≠ x11 → room_0 j = room_1 j)) (hE_0_5_1 : ∀ j : Int, gain_0 j = gain_1 j) (hE_0_7_1 : ∀ j : Int, by_0 j = by_1 j) (kz_0_0 : 0 ≤ nodes_0 ∧ nodes_0 ≤ 72) (kz_0_1 : 0 ≤ arcs_0 ∧ arcs_0 ≤ 384) : 0 ≤ x16 ∧ x16 ≤ 383 := by
  subst fe_0_0_1
  subst fe_0_1_1
  have e_hE_0_2_1 := funext hE_0_2_1; subst e_hE_0_2_1
  have e_hE_0_3_1 := funext hE_0_3_1; subst e_hE_0_3_1
  have e_hE_0_5_1 := funext hE_0_5_1; subst e_hE_0_5_1
  have e_hE_0_7_1 := funext hE_0_7_1; subst e_hE_0_7_1
  first
    | (have q := sl1_by ‹NWL _ _ _ _ _› ‹SL1 _ _ _ _ _ _ _ _ _ _ _›; have n := (‹NWL _ _ _ _ _›).2.2.2.1; skip; (first | subst h1 | skip); (first | subst h8 | skip); (first | subst h9 | skip); omega)
    | (have q := flp_by ‹FLP _ _ _ _ _ _ _ _ _ _ _ _›; have n := (‹FLP _ _ _ _ _ _ _ _ _ _ _ _›).2.1.2.2.2.1; skip; (first | subst h1 | skip); (first | subst h8 | skip); (first | subst h9 | skip); omega)
    | (have q := sl1_by ‹NWL _ _ _ _ _› ‹SL1 _ _ _ _ _ _ _ _ _ _ _›; have n := flv_room ‹FLV _ _ _ _ _ _ _› q.1 q.2.1; skip; (first | subst h1 | skip); (first | subst h8 | skip); (first | subst h9 | skip); omega)
    | (have q := flp_by ‹FLP _ _ _ _ _ _ _ _ _ _ _ _›; have n := flp_room ‹FLP _ _ _ _ _ _ _ _ _ _ _ _› q.2.2.1 q.2.2.2.1; skip; (first | subst h1 | skip); (first | subst h8 | skip); (first | subst h9 | skip); omega)
    | (skip; (first | subst h1 | skip); (first | subst h8 | skip); (first | subst h9 | skip); have e := xor_one (x := x16) (by assumption) (by omega) (by have q := flp_by ‹FLP _ _ _ _ _ _ _ _ _ _ _ _›; omega) (by omega) (by omega) (by omega); have q2 := flp_other ‹FLP _ _ _ _ _ _ _ _ _ _ _ _› rfl e (by assumption); omega)
  
def o_St_sendRound_at_gl_10 : or_T := (98, 17, [(0, (2, 0, 0, [10])), (1, (0, 0, 71, [])), (2, (0, 0, 9999, [])), (3, (2, 0, 0, [10])), (4, (0, 0, 71, [])), (5, (0, 1, 1000000000, [])), (6, (0, 0, 71, [])), (7, (0, 0, 71, [])), (8, (0, 1, 72, [])), (9, (2, 0, 0, [120])), (10, (2, 0, 0, [123])), (11, (0, 0, 383, [])), (12, (0, 1, 1000000000, [])), (13, (0, -999999999, 999999999, [])), (14, (0, -1, 383, [])), (15, (0, 1, 1, [])), (16, (0, -2147483648, 2147483647, []))], [(16, [16, 14, 15], [2]), (10, [14, 10, 6], []), (9, [10, 3], [7]), (9, [9, 3], [4]), (24, [0, 3], []), (24, [1, 4], []), (100, [9, 11, 13], []), (2, [13, 12, 5], []), (10, [12, 9, 11], []), (10, [11, 10, 6], []), (7, [7, 8], [2]), (9, [8, 3], [0]), (20, [3, 4, 6, 7, 5, 2], [60, 2, 5, 535, 0, 1, 2, 3, 4, 5, 7])], [(16, (0, 0, 383, []))], [], [], [], [(13, 12, -1000000000, -1), (7, 8, -4294967296, -1), (1, 4, -4294967296, 0), (4, 1, -4294967296, 0)])
theorem oo_St_sendRound_at_gl_10 {kA : Nat → ClassId} : or_ok PRD kA GG o_St_sendRound_at_gl_10 := by
  refine or_mk fun A ta ws vs hD hth hl => ?_
  intro t0 r0 t1 k1 t2 k2 t3 r3 t4 k4 t5 k5 t6 k6 t7 k7 t8 k8 t9 r9 t10 r10 t11 k11 t12 k12 t13 k13 t14 k14 t15 k15 t16 k16 d0 d1 d2 d3 f0 f1 f2 f3 f4 f5 ta1 w1 le1 s1 f7 f8 f9 f10 f11 f12
  replace f1 := shm_106 f1
  replace f2 := shm_216 f2
  replace f3 := shm_107 f3
  replace f4 := shm_5 f4
  replace f5 := shm_5 f5
  have s1 : (∀ b j, w_el ws b j = if b = v_ad (n_v vs 9) ∧ j = (v_iv (n_v vs 11)).toNat then v_iv (n_v vs 13) else w_el w1 b j) ∧ ∀ b k, w_fd ws b k = w_fd w1 b k := s1.2
  replace f8 := shm_106 f8
  replace f9 := shm_106 f9
  replace f12 := shm_905 f12
  have q3 : n_v vs 3 = n_v vs 0 := f4.symm
  have q4 : n_v vs 4 = n_v vs 1 := f5.symm
  simp only [q3, q4] at f2 f3 f12
  have ar_0_2_1 : w_ar w1 (n_v vs 0) 2 = w_ar ws (n_v vs 0) 2 := congrArg v_ad (s1.2 _ _).symm
  have cr_0_2 := fdq_107 hD hth r0
  have ar_0_3_1 : w_ar w1 (n_v vs 0) 3 = w_ar ws (n_v vs 0) 3 := congrArg v_ad (s1.2 _ _).symm
  have cr_0_3 := fdq_108 hD hth r0
  have ar_0_4_1 : w_ar w1 (n_v vs 0) 4 = w_ar ws (n_v vs 0) 4 := congrArg v_ad (s1.2 _ _).symm
  have ar_0_5_1 : w_ar w1 (n_v vs 0) 5 = w_ar ws (n_v vs 0) 5 := congrArg v_ad (s1.2 _ _).symm
  have cr_0_5 := fdq_110 hD hth r0
  have ar_0_7_1 : w_ar w1 (n_v vs 0) 7 = w_ar ws (n_v vs 0) 7 := congrArg v_ad (s1.2 _ _).symm
  have cr_0_7 := fdq_115 hD hth r0
  have ad_10 : v_ad (n_v vs 10) = w_ar ws (n_v vs 0) 7 := congrArg v_ad f2
  have ad_9 : v_ad (n_v vs 9) = w_ar ws (n_v vs 0) 4 := congrArg v_ad f3
  simp only [ad_10] at f1
  have h1 : v_iv (n_v vs 14) = w_ei ws (w_ar ws (n_v vs 0) 7) (v_iv (n_v vs 6)) := f1
  simp only [ad_9] at f8
  have h8 : v_iv (n_v vs 12) = w_ei w1 (w_ar ws (n_v vs 0) 4) (v_iv (n_v vs 11)) := f8
  simp only [ad_10] at f9
  have h9 : v_iv (n_v vs 11) = w_ei w1 (w_ar ws (n_v vs 0) 7) (v_iv (n_v vs 6)) := f9
  simp only [ar_0_2_1, ar_0_3_1, ar_0_4_1, ar_0_5_1, ar_0_7_1] at f12
  have fe_0_0_1 : w_fi ws (n_v vs 0) 0 = w_fi w1 (n_v vs 0) 0 := congrArg v_iv (s1.2 _ _)
  have fe_0_1_1 : w_fi ws (n_v vs 0) 1 = w_fi w1 (n_v vs 0) 1 := congrArg v_iv (s1.2 _ _)
  have hE_0_2_1 : ∀ j : Int, w_ei ws (w_ar ws (n_v vs 0) 2) j = w_ei w1 (w_ar ws (n_v vs 0) 2) j := el_kp s1.1 r9 cr_0_2 (by decide)
  have hE_0_3_1 : ∀ j : Int, w_ei ws (w_ar ws (n_v vs 0) 3) j = w_ei w1 (w_ar ws (n_v vs 0) 3) j := el_kp s1.1 r9 cr_0_3 (by decide)
  have hE_0_4_1 : ∀ j : Int, 0 ≤ j → (j = v_iv (n_v vs 11) → w_ei ws (w_ar ws (n_v vs 0) 4) j = v_iv (n_v vs 13)) ∧ (j ≠ v_iv (n_v vs 11) → w_ei ws (w_ar ws (n_v vs 0) 4) j = w_ei w1 (w_ar ws (n_v vs 0) 4) j) := fun j hj => ⟨fun h => by unfold w_ei; rw [s1.1, if_pos ⟨ad_9.symm, by rw [h]⟩], fun h => by unfold w_ei; rw [s1.1, if_neg (fun e => h (by have := e.2; omega))]⟩
  have hE_0_5_1 : ∀ j : Int, w_ei ws (w_ar ws (n_v vs 0) 5) j = w_ei w1 (w_ar ws (n_v vs 0) 5) j := el_kp s1.1 r9 cr_0_5 (by decide)
  have hE_0_7_1 : ∀ j : Int, w_ei ws (w_ar ws (n_v vs 0) 7) j = w_ei w1 (w_ar ws (n_v vs 0) 7) j := el_kp s1.1 r9 cr_0_7 (by decide)
  have kz_0_0 := fdq_113 hD hth r0
  have kz_0_1 := fdq_112 hD hth r0
  have hrf0 : 0 ≤ v_iv (n_v vs 16) ∧ v_iv (n_v vs 16) ≤ 383 := vc_St_sendRound_at_gl_10_r0 (v_iv (n_v vs 1)) (v_iv (n_v vs 2)) (v_iv (n_v vs 5)) (v_iv (n_v vs 6)) (v_iv (n_v vs 7)) (v_iv (n_v vs 11)) (v_iv (n_v vs 12)) (v_iv (n_v vs 13)) (v_iv (n_v vs 14)) (v_iv (n_v vs 15)) (v_iv (n_v vs 16)) (w_ei ws (w_ar ws (n_v vs 0) 7)) (w_ei w1 (w_ar ws (n_v vs 0) 4)) (w_ei w1 (w_ar ws (n_v vs 0) 7)) (w_fi w1 (n_v vs 0) 0) (w_ei w1 (w_ar ws (n_v vs 0) 2)) (w_ei w1 (w_ar ws (n_v vs 0) 3)) (w_ei w1 (w_ar ws (n_v vs 0) 5)) (w_fi w1 (n_v vs 0) 1) (w_fi ws (n_v vs 0) 0) (w_fi ws (n_v vs 0) 1) (w_ei ws (w_ar ws (n_v vs 0) 2)) (w_ei ws (w_ar ws (n_v vs 0) 3)) (w_ei ws (w_ar ws (n_v vs 0) 4)) (w_ei ws (w_ar ws (n_v vs 0) 5)) k1 k2 k5 k6 k7 k11 k12 k13 k14 k15 k16 (shm_33 f0) h1 h8 h9 f12 fe_0_0_1 fe_0_1_1 hE_0_2_1 hE_0_3_1 hE_0_4_1 hE_0_5_1 hE_0_7_1 kz_0_0 kz_0_1
  have rf16 : tv_ok ta (0, 0, 383, []) (n_v vs 16) := tv_in t16 (by first | omega | grind) (by first | omega | grind)
  refine ⟨List.forall_mem_cons.mpr ⟨rf16, (fun _ h => (by cases h))⟩, [], trivial, ?_, (fun _ h => (by cases h))⟩
  rw [List.append_nil]
  exact (fun _ h => (by cases h))
set_option maxHeartbeats 4000000 in
theorem vc_St_sendRound_at_gl_11_r0 (x1 : Int) (x2 : Int) (x5 : Int) (x6 : Int) (x7 : Int) (x11 : Int) (x12 : Int) (x13 : Int) (x14 : Int) (x15 : Int) (x16 : Int) (x17 : Int) (room_0 : Int → Int) (by_0 : Int → Int) (room_1 : Int → Int) (by_1 : Int → Int) (nodes_1 : Int) (from_1 : Int → Int) (to_1 : Int → Int) (gain_1 : Int → Int) (arcs_1 : Int) (nodes_0 : Int) (arcs_0 : Int) (from_0 : Int → Int) (to_0 : Int → Int) (gain_0 : Int → Int) (k1 : 0 ≤ x1 ∧ x1 ≤ 71) (k2 : 0 ≤ x2 ∧ x2 ≤ 9999) (k5 : 1 ≤ x5 ∧ x5 ≤ 1000000000) (k6 : 0 ≤ x6 ∧ x6 ≤ 71) (k7 : 0 ≤ x7 ∧ x7 ≤ 71) (k11 : 0 ≤ x11 ∧ x11 ≤ 383) (k12 : 1 ≤ x12 ∧ x12 ≤ 1000000000) (k13 : (-999999999) ≤ x13 ∧ x13 ≤ 999999999) (k14 : (-1) ≤ x14 ∧ x14 ≤ 383) (k15 : 1 ≤ x15 ∧ x15 ≤ 1) (k16 : 0 ≤ x16 ∧ x16 ≤ 383) (k17 : (-2147483648) ≤ x17 ∧ x17 ≤ 2147483647) (h0 : x17 = room_0 (x16)) (f1 : bvp (x16) = bvp (x14) ^^^ bvp (x15)) (h2 : x14 = by_0 (x6)) (h9 : x12 = room_1 (x11)) (h10 : x11 = by_1 (x6)) (f13 : FLP (nodes_1) (arcs_1) (from_1) (to_1) (room_1) (gain_1) (by_1) (x1) (x6) (x7) (x5) (x2)) (fe_0_0_1 : nodes_0 = nodes_1) (fe_0_1_1 : arcs_0 = arcs_1) (hE_0_2_1 : ∀ j : Int, from_0 j = from_1 j) (hE_0_3_1 : ∀ j : Int, to_0 j = to_1 j) (hE_0_4_1 : ∀ j : Int, 0 ≤ j → (j = x11 → room_0 j = x13) ∧ (j ≠ x11 → room_0 j = room_1 j)) (hE_0_5_1 : ∀ j : Int, gain_0 j = gain_1 j) (hE_0_7_1 : ∀ j : Int, by_0 j = by_1 j) (kz_0_0 : 0 ≤ nodes_0 ∧ nodes_0 ≤ 72) (kz_0_1 : 0 ≤ arcs_0 ∧ arcs_0 ≤ 384) : 0 ≤ x17 ∧ x17 ≤ 1000000000 := by
  subst fe_0_0_1
  subst fe_0_1_1
  have e_hE_0_2_1 := funext hE_0_2_1; subst e_hE_0_2_1
  have e_hE_0_3_1 := funext hE_0_3_1; subst e_hE_0_3_1
  have e_hE_0_5_1 := funext hE_0_5_1; subst e_hE_0_5_1
  have e_hE_0_7_1 := funext hE_0_7_1; subst e_hE_0_7_1
  first
    | (have q := sl1_by ‹NWL _ _ _ _ _› ‹SL1 _ _ _ _ _ _ _ _ _ _ _›; have n := (‹NWL _ _ _ _ _›).2.2.2.1; skip; (first | subst h0 | skip); (first | subst h2 | skip); (first | subst h9 | skip); (first | subst h10 | skip); omega)
    | (have q := flp_by ‹FLP _ _ _ _ _ _ _ _ _ _ _ _›; have n := (‹FLP _ _ _ _ _ _ _ _ _ _ _ _›).2.1.2.2.2.1; skip; (first | subst h0 | skip); (first | subst h2 | skip); (first | subst h9 | skip); (first | subst h10 | skip); omega)
    | (have q := sl1_by ‹NWL _ _ _ _ _› ‹SL1 _ _ _ _ _ _ _ _ _ _ _›; have n := flv_room ‹FLV _ _ _ _ _ _ _› q.1 q.2.1; skip; (first | subst h0 | skip); (first | subst h2 | skip); (first | subst h9 | skip); (first | subst h10 | skip); omega)
    | (have q := flp_by ‹FLP _ _ _ _ _ _ _ _ _ _ _ _›; have n := flp_room ‹FLP _ _ _ _ _ _ _ _ _ _ _ _› q.2.2.1 q.2.2.2.1; skip; (first | subst h0 | skip); (first | subst h2 | skip); (first | subst h9 | skip); (first | subst h10 | skip); omega)
    | (skip; (first | subst h0 | skip); (first | subst h2 | skip); (first | subst h9 | skip); (first | subst h10 | skip); have e := xor_one (x := x16) (by assumption) (by omega) (by have q := flp_by ‹FLP _ _ _ _ _ _ _ _ _ _ _ _›; omega) (by omega) (by omega) (by omega); have q2 := flp_other ‹FLP _ _ _ _ _ _ _ _ _ _ _ _› rfl e (by assumption); omega)
  
def o_St_sendRound_at_gl_11 : or_T := (100, 18, [(0, (2, 0, 0, [10])), (1, (0, 0, 71, [])), (2, (0, 0, 9999, [])), (3, (2, 0, 0, [10])), (4, (0, 0, 71, [])), (5, (0, 1, 1000000000, [])), (6, (0, 0, 71, [])), (7, (0, 0, 71, [])), (8, (0, 1, 72, [])), (9, (2, 0, 0, [120])), (10, (2, 0, 0, [123])), (11, (0, 0, 383, [])), (12, (0, 1, 1000000000, [])), (13, (0, -999999999, 999999999, [])), (14, (0, -1, 383, [])), (15, (0, 1, 1, [])), (16, (0, 0, 383, [])), (17, (0, -2147483648, 2147483647, []))], [(10, [17, 9, 16], []), (16, [16, 14, 15], [2]), (10, [14, 10, 6], []), (9, [10, 3], [7]), (9, [9, 3], [4]), (24, [0, 3], []), (24, [1, 4], []), (100, [9, 11, 13], []), (2, [13, 12, 5], []), (10, [12, 9, 11], []), (10, [11, 10, 6], []), (7, [7, 8], [2]), (9, [8, 3], [0]), (20, [3, 4, 6, 7, 5, 2], [60, 2, 5, 535, 0, 1, 2, 3, 4, 5, 7])], [(17, (0, 0, 1000000000, []))], [], [], [], [(13, 12, -1000000000, -1), (7, 8, -4294967296, -1), (1, 4, -4294967296, 0), (4, 1, -4294967296, 0)])
theorem oo_St_sendRound_at_gl_11 {kA : Nat → ClassId} : or_ok PRD kA GG o_St_sendRound_at_gl_11 := by
  refine or_mk fun A ta ws vs hD hth hl => ?_
  intro t0 r0 t1 k1 t2 k2 t3 r3 t4 k4 t5 k5 t6 k6 t7 k7 t8 k8 t9 r9 t10 r10 t11 k11 t12 k12 t13 k13 t14 k14 t15 k15 t16 k16 t17 k17 d0 d1 d2 d3 f0 f1 f2 f3 f4 f5 f6 ta1 w1 le1 s1 f8 f9 f10 f11 f12 f13
  replace f0 := shm_106 f0
  replace f2 := shm_106 f2
  replace f3 := shm_216 f3
  replace f4 := shm_107 f4
  replace f5 := shm_5 f5
  replace f6 := shm_5 f6
  have s1 : (∀ b j, w_el ws b j = if b = v_ad (n_v vs 9) ∧ j = (v_iv (n_v vs 11)).toNat then v_iv (n_v vs 13) else w_el w1 b j) ∧ ∀ b k, w_fd ws b k = w_fd w1 b k := s1.2
  replace f9 := shm_106 f9
  replace f10 := shm_106 f10
  replace f13 := shm_905 f13
  have q3 : n_v vs 3 = n_v vs 0 := f5.symm
  have q4 : n_v vs 4 = n_v vs 1 := f6.symm
  simp only [q3, q4] at f3 f4 f13
  have ar_0_2_1 : w_ar w1 (n_v vs 0) 2 = w_ar ws (n_v vs 0) 2 := congrArg v_ad (s1.2 _ _).symm
  have cr_0_2 := fdq_107 hD hth r0
  have ar_0_3_1 : w_ar w1 (n_v vs 0) 3 = w_ar ws (n_v vs 0) 3 := congrArg v_ad (s1.2 _ _).symm
  have cr_0_3 := fdq_108 hD hth r0
  have ar_0_4_1 : w_ar w1 (n_v vs 0) 4 = w_ar ws (n_v vs 0) 4 := congrArg v_ad (s1.2 _ _).symm
  have ar_0_5_1 : w_ar w1 (n_v vs 0) 5 = w_ar ws (n_v vs 0) 5 := congrArg v_ad (s1.2 _ _).symm
  have cr_0_5 := fdq_110 hD hth r0
  have ar_0_7_1 : w_ar w1 (n_v vs 0) 7 = w_ar ws (n_v vs 0) 7 := congrArg v_ad (s1.2 _ _).symm
  have cr_0_7 := fdq_115 hD hth r0
  have ad_10 : v_ad (n_v vs 10) = w_ar ws (n_v vs 0) 7 := congrArg v_ad f3
  have ad_9 : v_ad (n_v vs 9) = w_ar ws (n_v vs 0) 4 := congrArg v_ad f4
  simp only [ad_9] at f0
  have h0 : v_iv (n_v vs 17) = w_ei ws (w_ar ws (n_v vs 0) 4) (v_iv (n_v vs 16)) := f0
  simp only [ad_10] at f2
  have h2 : v_iv (n_v vs 14) = w_ei ws (w_ar ws (n_v vs 0) 7) (v_iv (n_v vs 6)) := f2
  simp only [ad_9] at f9
  have h9 : v_iv (n_v vs 12) = w_ei w1 (w_ar ws (n_v vs 0) 4) (v_iv (n_v vs 11)) := f9
  simp only [ad_10] at f10
  have h10 : v_iv (n_v vs 11) = w_ei w1 (w_ar ws (n_v vs 0) 7) (v_iv (n_v vs 6)) := f10
  simp only [ar_0_2_1, ar_0_3_1, ar_0_4_1, ar_0_5_1, ar_0_7_1] at f13
  have fe_0_0_1 : w_fi ws (n_v vs 0) 0 = w_fi w1 (n_v vs 0) 0 := congrArg v_iv (s1.2 _ _)
  have fe_0_1_1 : w_fi ws (n_v vs 0) 1 = w_fi w1 (n_v vs 0) 1 := congrArg v_iv (s1.2 _ _)
  have hE_0_2_1 : ∀ j : Int, w_ei ws (w_ar ws (n_v vs 0) 2) j = w_ei w1 (w_ar ws (n_v vs 0) 2) j := el_kp s1.1 r9 cr_0_2 (by decide)
  have hE_0_3_1 : ∀ j : Int, w_ei ws (w_ar ws (n_v vs 0) 3) j = w_ei w1 (w_ar ws (n_v vs 0) 3) j := el_kp s1.1 r9 cr_0_3 (by decide)
  have hE_0_4_1 : ∀ j : Int, 0 ≤ j → (j = v_iv (n_v vs 11) → w_ei ws (w_ar ws (n_v vs 0) 4) j = v_iv (n_v vs 13)) ∧ (j ≠ v_iv (n_v vs 11) → w_ei ws (w_ar ws (n_v vs 0) 4) j = w_ei w1 (w_ar ws (n_v vs 0) 4) j) := fun j hj => ⟨fun h => by unfold w_ei; rw [s1.1, if_pos ⟨ad_9.symm, by rw [h]⟩], fun h => by unfold w_ei; rw [s1.1, if_neg (fun e => h (by have := e.2; omega))]⟩
  have hE_0_5_1 : ∀ j : Int, w_ei ws (w_ar ws (n_v vs 0) 5) j = w_ei w1 (w_ar ws (n_v vs 0) 5) j := el_kp s1.1 r9 cr_0_5 (by decide)
  have hE_0_7_1 : ∀ j : Int, w_ei ws (w_ar ws (n_v vs 0) 7) j = w_ei w1 (w_ar ws (n_v vs 0) 7) j := el_kp s1.1 r9 cr_0_7 (by decide)
  have kz_0_0 := fdq_113 hD hth r0
  have kz_0_1 := fdq_112 hD hth r0
  have hrf0 : 0 ≤ v_iv (n_v vs 17) ∧ v_iv (n_v vs 17) ≤ 1000000000 := vc_St_sendRound_at_gl_11_r0 (v_iv (n_v vs 1)) (v_iv (n_v vs 2)) (v_iv (n_v vs 5)) (v_iv (n_v vs 6)) (v_iv (n_v vs 7)) (v_iv (n_v vs 11)) (v_iv (n_v vs 12)) (v_iv (n_v vs 13)) (v_iv (n_v vs 14)) (v_iv (n_v vs 15)) (v_iv (n_v vs 16)) (v_iv (n_v vs 17)) (w_ei ws (w_ar ws (n_v vs 0) 4)) (w_ei ws (w_ar ws (n_v vs 0) 7)) (w_ei w1 (w_ar ws (n_v vs 0) 4)) (w_ei w1 (w_ar ws (n_v vs 0) 7)) (w_fi w1 (n_v vs 0) 0) (w_ei w1 (w_ar ws (n_v vs 0) 2)) (w_ei w1 (w_ar ws (n_v vs 0) 3)) (w_ei w1 (w_ar ws (n_v vs 0) 5)) (w_fi w1 (n_v vs 0) 1) (w_fi ws (n_v vs 0) 0) (w_fi ws (n_v vs 0) 1) (w_ei ws (w_ar ws (n_v vs 0) 2)) (w_ei ws (w_ar ws (n_v vs 0) 3)) (w_ei ws (w_ar ws (n_v vs 0) 5)) k1 k2 k5 k6 k7 k11 k12 k13 k14 k15 k16 k17 h0 (shm_33 f1) h2 h9 h10 f13 fe_0_0_1 fe_0_1_1 hE_0_2_1 hE_0_3_1 hE_0_4_1 hE_0_5_1 hE_0_7_1 kz_0_0 kz_0_1
  have rf17 : tv_ok ta (0, 0, 1000000000, []) (n_v vs 17) := tv_in t17 (by first | omega | grind) (by first | omega | grind)
  refine ⟨List.forall_mem_cons.mpr ⟨rf17, (fun _ h => (by cases h))⟩, [], trivial, ?_, (fun _ h => (by cases h))⟩
  rw [List.append_nil]
  exact (fun _ h => (by cases h))
set_option maxHeartbeats 4000000 in
theorem vc_St_sendRound_at_gl_12_r0 (x1 : Int) (x2 : Int) (x5 : Int) (x6 : Int) (x7 : Int) (x11 : Int) (x12 : Int) (x14 : Int) (x16 : Int) (x17 : Int) (x20 : Int) (by_0 : Int → Int) (room_1 : Int → Int) (by_1 : Int → Int) (room_2 : Int → Int) (by_2 : Int → Int) (nodes_2 : Int) (from_2 : Int → Int) (to_2 : Int → Int) (gain_2 : Int → Int) (arcs_2 : Int) (nodes_0 : Int) (nodes_1 : Int) (arcs_0 : Int) (arcs_1 : Int) (from_0 : Int → Int) (from_1 : Int → Int) (to_0 : Int → Int) (to_1 : Int → Int) (gain_0 : Int → Int) (gain_1 : Int → Int) (k1 : 0 ≤ x1 ∧ x1 ≤ 71) (k2 : 0 ≤ x2 ∧ x2 ≤ 9999) (k5 : 1 ≤ x5 ∧ x5 ≤ 1000000000) (k6 : 0 ≤ x6 ∧ x6 ≤ 71) (k7 : 0 ≤ x7 ∧ x7 ≤ 71) (k11 : 0 ≤ x11 ∧ x11 ≤ 383) (k12 : 1 ≤ x12 ∧ x12 ≤ 1000000000) (k14 : (-1) ≤ x14 ∧ x14 ≤ 383) (k16 : 0 ≤ x16 ∧ x16 ≤ 383) (k17 : 0 ≤ x17 ∧ x17 ≤ 1000000000) (k20 : (-1) ≤ x20 ∧ x20 ≤ 383) (h0 : x20 = by_0 (x6)) (h7 : x17 = room_1 (x16)) (h9 : x14 = by_1 (x6)) (h13 : x12 = room_2 (x11)) (h14 : x11 = by_2 (x6)) (f17 : FLP (nodes_2) (arcs_2) (from_2) (to_2) (room_2) (gain_2) (by_2) (x1) (x6) (x7) (x5) (x2)) (fe_0_0_1 : nodes_0 = nodes_1) (fe_0_1_1 : arcs_0 = arcs_1) (fe_0_0_2 : nodes_1 = nodes_2) (fe_0_1_2 : arcs_1 = arcs_2) (hE_0_2_1 : ∀ j : Int, from_0 j = from_1 j) (hE_0_2_2 : ∀ j : Int, from_1 j = from_2 j) (hE_0_3_1 : ∀ j : Int, to_0 j = to_1 j) (hE_0_3_2 : ∀ j : Int, to_1 j = to_2 j) (hE_0_5_1 : ∀ j : Int, gain_0 j = gain_1 j) (hE_0_5_2 : ∀ j : Int, gain_1 j = gain_2 j) (hE_0_7_1 : ∀ j : Int, by_0 j = by_1 j) (hE_0_7_2 : ∀ j : Int, by_1 j = by_2 j) (kz_0_0 : 0 ≤ nodes_0 ∧ nodes_0 ≤ 72) (kz_0_1 : 0 ≤ arcs_0 ∧ arcs_0 ≤ 384) : 0 ≤ x20 ∧ x20 ≤ 383 := by
  subst fe_0_0_1
  subst fe_0_1_1
  subst fe_0_0_2
  subst fe_0_1_2
  have e_hE_0_2_1 := funext hE_0_2_1; subst e_hE_0_2_1
  have e_hE_0_2_2 := funext hE_0_2_2; subst e_hE_0_2_2
  have e_hE_0_3_1 := funext hE_0_3_1; subst e_hE_0_3_1
  have e_hE_0_3_2 := funext hE_0_3_2; subst e_hE_0_3_2
  have e_hE_0_5_1 := funext hE_0_5_1; subst e_hE_0_5_1
  have e_hE_0_5_2 := funext hE_0_5_2; subst e_hE_0_5_2
  have e_hE_0_7_1 := funext hE_0_7_1; subst e_hE_0_7_1
  have e_hE_0_7_2 := funext hE_0_7_2; subst e_hE_0_7_2
  first
    | (have q := sl1_by ‹NWL _ _ _ _ _› ‹SL1 _ _ _ _ _ _ _ _ _ _ _›; have n := (‹NWL _ _ _ _ _›).2.2.2.1; skip; (first | subst h0 | skip); (first | subst h7 | skip); (first | subst h9 | skip); (first | subst h13 | skip); (first | subst h14 | skip); omega)
    | (have q := flp_by ‹FLP _ _ _ _ _ _ _ _ _ _ _ _›; have n := (‹FLP _ _ _ _ _ _ _ _ _ _ _ _›).2.1.2.2.2.1; skip; (first | subst h0 | skip); (first | subst h7 | skip); (first | subst h9 | skip); (first | subst h13 | skip); (first | subst h14 | skip); omega)
    | (have q := sl1_by ‹NWL _ _ _ _ _› ‹SL1 _ _ _ _ _ _ _ _ _ _ _›; have n := flv_room ‹FLV _ _ _ _ _ _ _› q.1 q.2.1; skip; (first | subst h0 | skip); (first | subst h7 | skip); (first | subst h9 | skip); (first | subst h13 | skip); (first | subst h14 | skip); omega)
    | (have q := flp_by ‹FLP _ _ _ _ _ _ _ _ _ _ _ _›; have n := flp_room ‹FLP _ _ _ _ _ _ _ _ _ _ _ _› q.2.2.1 q.2.2.2.1; skip; (first | subst h0 | skip); (first | subst h7 | skip); (first | subst h9 | skip); (first | subst h13 | skip); (first | subst h14 | skip); omega)
    | (skip; (first | subst h0 | skip); (first | subst h7 | skip); (first | subst h9 | skip); (first | subst h13 | skip); (first | subst h14 | skip); have e := xor_one (x := x16) (by assumption) (by omega) (by have q := flp_by ‹FLP _ _ _ _ _ _ _ _ _ _ _ _›; omega) (by omega) (by omega) (by omega); have q2 := flp_other ‹FLP _ _ _ _ _ _ _ _ _ _ _ _› rfl e (by assumption); omega)
  
def o_St_sendRound_at_gl_12 : or_T := (113, 21, [(0, (2, 0, 0, [10])), (1, (0, 0, 71, [])), (2, (0, 0, 9999, [])), (3, (2, 0, 0, [10])), (4, (0, 0, 71, [])), (5, (0, 1, 1000000000, [])), (6, (0, 0, 71, [])), (7, (0, 0, 71, [])), (8, (0, 1, 72, [])), (9, (2, 0, 0, [120])), (10, (2, 0, 0, [123])), (11, (0, 0, 383, [])), (12, (0, 1, 1000000000, [])), (13, (0, -999999999, 999999999, [])), (14, (0, -1, 383, [])), (15, (0, 1, 1, [])), (16, (0, 0, 383, [])), (17, (0, 0, 1000000000, [])), (18, (0, 1, 2000000000, [])), (19, (2, 0, 0, [118])), (20, (0, -1, 383, []))], [(10, [20, 10, 6], []), (9, [10, 3], [7]), (9, [19, 3], [2]), (24, [0, 3], []), (24, [1, 4], []), (100, [9, 16, 18], []), (1, [18, 17, 5], []), (10, [17, 9, 16], []), (16, [16, 14, 15], [2]), (10, [14, 10, 6], []), (9, [9, 3], [4]), (100, [9, 11, 13], []), (2, [13, 12, 5], []), (10, [12, 9, 11], []), (10, [11, 10, 6], []), (7, [7, 8], [2]), (9, [8, 3], [0]), (20, [3, 4, 6, 7, 5, 2], [60, 2, 5, 535, 0, 1, 2, 3, 4, 5, 7])], [(20, (0, 0, 383, []))], [], [], [], [(18, 5, 0, 1000000000), (18, 17, 1, 1000000000), (13, 12, -1000000000, -1), (7, 8, -4294967296, -1), (1, 4, -4294967296, 0), (4, 1, -4294967296, 0)])
theorem oo_St_sendRound_at_gl_12 {kA : Nat → ClassId} : or_ok PRD kA GG o_St_sendRound_at_gl_12 := by
  refine or_mk fun A ta ws vs hD hth hl => ?_
  intro t0 r0 t1 k1 t2 k2 t3 r3 t4 k4 t5 k5 t6 k6 t7 k7 t8 k8 t9 r9 t10 r10 t11 k11 t12 k12 t13 k13 t14 k14 t15 k15 t16 k16 t17 k17 t18 k18 t19 r19 t20 k20 d0 d1 d2 d3 d4 d5 f0 f1 f2 f3 f4 ta1 w1 le1 s1 f6 f7 f8 f9 f10 ta2 w2 le2 s2 f12 f13 f14 f15 f16 f17
  replace f0 := shm_106 f0
  replace f1 := shm_216 f1
  replace f3 := shm_5 f3
  replace f4 := shm_5 f4
  have s1 : (∀ b j, w_el ws b j = if b = v_ad (n_v vs 9) ∧ j = (v_iv (n_v vs 16)).toNat then v_iv (n_v vs 18) else w_el w1 b j) ∧ ∀ b k, w_fd ws b k = w_fd w1 b k := s1.2
  replace f7 := shm_106 f7
  replace f9 := shm_106 f9
  replace f10 := shm_107 f10
  have s2 : (∀ b j, w_el w1 b j = if b = v_ad (n_v vs 9) ∧ j = (v_iv (n_v vs 11)).toNat then v_iv (n_v vs 13) else w_el w2 b j) ∧ ∀ b k, w_fd w1 b k = w_fd w2 b k := s2.2
  replace f13 := shm_106 f13
  replace f14 := shm_106 f14
  replace f17 := shm_905 f17
  have q3 : n_v vs 3 = n_v vs 0 := f3.symm
  have q4 : n_v vs 4 = n_v vs 1 := f4.symm
  simp only [q3, q4] at f1 f10 f17
  have ar_0_2_1 : w_ar w1 (n_v vs 0) 2 = w_ar ws (n_v vs 0) 2 := congrArg v_ad (s1.2 _ _).symm
  have ar_0_2_2 : w_ar w2 (n_v vs 0) 2 = w_ar ws (n_v vs 0) 2 := by rw [← ar_0_2_1]; show v_ad (w_fd w2 _ _) = v_ad (w_fd w1 _ _); rw [s2.2]
  have cr_0_2 := fdq_107 hD hth r0
  have ar_0_3_1 : w_ar w1 (n_v vs 0) 3 = w_ar ws (n_v vs 0) 3 := congrArg v_ad (s1.2 _ _).symm
  have ar_0_3_2 : w_ar w2 (n_v vs 0) 3 = w_ar ws (n_v vs 0) 3 := by rw [← ar_0_3_1]; show v_ad (w_fd w2 _ _) = v_ad (w_fd w1 _ _); rw [s2.2]
  have cr_0_3 := fdq_108 hD hth r0
  have ar_0_4_1 : w_ar w1 (n_v vs 0) 4 = w_ar ws (n_v vs 0) 4 := congrArg v_ad (s1.2 _ _).symm
  have ar_0_4_2 : w_ar w2 (n_v vs 0) 4 = w_ar ws (n_v vs 0) 4 := by rw [← ar_0_4_1]; show v_ad (w_fd w2 _ _) = v_ad (w_fd w1 _ _); rw [s2.2]
  have ar_0_5_1 : w_ar w1 (n_v vs 0) 5 = w_ar ws (n_v vs 0) 5 := congrArg v_ad (s1.2 _ _).symm
  have ar_0_5_2 : w_ar w2 (n_v vs 0) 5 = w_ar ws (n_v vs 0) 5 := by rw [← ar_0_5_1]; show v_ad (w_fd w2 _ _) = v_ad (w_fd w1 _ _); rw [s2.2]
  have cr_0_5 := fdq_110 hD hth r0
  have ar_0_7_1 : w_ar w1 (n_v vs 0) 7 = w_ar ws (n_v vs 0) 7 := congrArg v_ad (s1.2 _ _).symm
  have ar_0_7_2 : w_ar w2 (n_v vs 0) 7 = w_ar ws (n_v vs 0) 7 := by rw [← ar_0_7_1]; show v_ad (w_fd w2 _ _) = v_ad (w_fd w1 _ _); rw [s2.2]
  have cr_0_7 := fdq_115 hD hth r0
  have ad_10 : v_ad (n_v vs 10) = w_ar ws (n_v vs 0) 7 := congrArg v_ad f1
  have ad_9 : v_ad (n_v vs 9) = w_ar ws (n_v vs 0) 4 := (congrArg v_ad f10).trans ar_0_4_1
  simp only [ad_10] at f0
  have h0 : v_iv (n_v vs 20) = w_ei ws (w_ar ws (n_v vs 0) 7) (v_iv (n_v vs 6)) := f0
  simp only [ad_9] at f7
  have h7 : v_iv (n_v vs 17) = w_ei w1 (w_ar ws (n_v vs 0) 4) (v_iv (n_v vs 16)) := f7
  simp only [ad_10] at f9
  have h9 : v_iv (n_v vs 14) = w_ei w1 (w_ar ws (n_v vs 0) 7) (v_iv (n_v vs 6)) := f9
  simp only [ad_9] at f13
  have h13 : v_iv (n_v vs 12) = w_ei w2 (w_ar ws (n_v vs 0) 4) (v_iv (n_v vs 11)) := f13
  simp only [ad_10] at f14
  have h14 : v_iv (n_v vs 11) = w_ei w2 (w_ar ws (n_v vs 0) 7) (v_iv (n_v vs 6)) := f14
  simp only [ar_0_2_2, ar_0_3_2, ar_0_4_2, ar_0_5_2, ar_0_7_2] at f17
  have fe_0_0_1 : w_fi ws (n_v vs 0) 0 = w_fi w1 (n_v vs 0) 0 := congrArg v_iv (s1.2 _ _)
  have fe_0_1_1 : w_fi ws (n_v vs 0) 1 = w_fi w1 (n_v vs 0) 1 := congrArg v_iv (s1.2 _ _)
  have fe_0_0_2 : w_fi w1 (n_v vs 0) 0 = w_fi w2 (n_v vs 0) 0 := congrArg v_iv (s2.2 _ _)
  have fe_0_1_2 : w_fi w1 (n_v vs 0) 1 = w_fi w2 (n_v vs 0) 1 := congrArg v_iv (s2.2 _ _)
  have hE_0_2_1 : ∀ j : Int, w_ei ws (w_ar ws (n_v vs 0) 2) j = w_ei w1 (w_ar ws (n_v vs 0) 2) j := el_kp s1.1 r9 cr_0_2 (by decide)
  have hE_0_2_2 : ∀ j : Int, w_ei w1 (w_ar ws (n_v vs 0) 2) j = w_ei w2 (w_ar ws (n_v vs 0) 2) j := el_kp s2.1 r9 cr_0_2 (by decide)
  have hE_0_3_1 : ∀ j : Int, w_ei ws (w_ar ws (n_v vs 0) 3) j = w_ei w1 (w_ar ws (n_v vs 0) 3) j := el_kp s1.1 r9 cr_0_3 (by decide)
  have hE_0_3_2 : ∀ j : Int, w_ei w1 (w_ar ws (n_v vs 0) 3) j = w_ei w2 (w_ar ws (n_v vs 0) 3) j := el_kp s2.1 r9 cr_0_3 (by decide)
  have hE_0_5_1 : ∀ j : Int, w_ei ws (w_ar ws (n_v vs 0) 5) j = w_ei w1 (w_ar ws (n_v vs 0) 5) j := el_kp s1.1 r9 cr_0_5 (by decide)
  have hE_0_5_2 : ∀ j : Int, w_ei w1 (w_ar ws (n_v vs 0) 5) j = w_ei w2 (w_ar ws (n_v vs 0) 5) j := el_kp s2.1 r9 cr_0_5 (by decide)
  have hE_0_7_1 : ∀ j : Int, w_ei ws (w_ar ws (n_v vs 0) 7) j = w_ei w1 (w_ar ws (n_v vs 0) 7) j := el_kp s1.1 r9 cr_0_7 (by decide)
  have hE_0_7_2 : ∀ j : Int, w_ei w1 (w_ar ws (n_v vs 0) 7) j = w_ei w2 (w_ar ws (n_v vs 0) 7) j := el_kp s2.1 r9 cr_0_7 (by decide)
  have kz_0_0 := fdq_113 hD hth r0
  have kz_0_1 := fdq_112 hD hth r0
  have hrf0 : 0 ≤ v_iv (n_v vs 20) ∧ v_iv (n_v vs 20) ≤ 383 := vc_St_sendRound_at_gl_12_r0 (v_iv (n_v vs 1)) (v_iv (n_v vs 2)) (v_iv (n_v vs 5)) (v_iv (n_v vs 6)) (v_iv (n_v vs 7)) (v_iv (n_v vs 11)) (v_iv (n_v vs 12)) (v_iv (n_v vs 14)) (v_iv (n_v vs 16)) (v_iv (n_v vs 17)) (v_iv (n_v vs 20)) (w_ei ws (w_ar ws (n_v vs 0) 7)) (w_ei w1 (w_ar ws (n_v vs 0) 4)) (w_ei w1 (w_ar ws (n_v vs 0) 7)) (w_ei w2 (w_ar ws (n_v vs 0) 4)) (w_ei w2 (w_ar ws (n_v vs 0) 7)) (w_fi w2 (n_v vs 0) 0) (w_ei w2 (w_ar ws (n_v vs 0) 2)) (w_ei w2 (w_ar ws (n_v vs 0) 3)) (w_ei w2 (w_ar ws (n_v vs 0) 5)) (w_fi w2 (n_v vs 0) 1) (w_fi ws (n_v vs 0) 0) (w_fi w1 (n_v vs 0) 0) (w_fi ws (n_v vs 0) 1) (w_fi w1 (n_v vs 0) 1) (w_ei ws (w_ar ws (n_v vs 0) 2)) (w_ei w1 (w_ar ws (n_v vs 0) 2)) (w_ei ws (w_ar ws (n_v vs 0) 3)) (w_ei w1 (w_ar ws (n_v vs 0) 3)) (w_ei ws (w_ar ws (n_v vs 0) 5)) (w_ei w1 (w_ar ws (n_v vs 0) 5)) k1 k2 k5 k6 k7 k11 k12 k14 k16 k17 k20 h0 h7 h9 h13 h14 f17 fe_0_0_1 fe_0_1_1 fe_0_0_2 fe_0_1_2 hE_0_2_1 hE_0_2_2 hE_0_3_1 hE_0_3_2 hE_0_5_1 hE_0_5_2 hE_0_7_1 hE_0_7_2 kz_0_0 kz_0_1
  have rf20 : tv_ok ta (0, 0, 383, []) (n_v vs 20) := tv_in t20 (by first | omega | grind) (by first | omega | grind)
  refine ⟨List.forall_mem_cons.mpr ⟨rf20, (fun _ h => (by cases h))⟩, [], trivial, ?_, (fun _ h => (by cases h))⟩
  rw [List.append_nil]
  exact (fun _ h => (by cases h))
set_option maxHeartbeats 4000000 in
theorem vc_St_sendRound_at_gl_13_0 (x1 : Int) (x2 : Int) (x5 : Int) (x6 : Int) (x7 : Int) (x11 : Int) (x12 : Int) (x13 : Int) (x14 : Int) (x15 : Int) (x16 : Int) (x17 : Int) (x18 : Int) (x20 : Int) (x21 : Int) (x22 : Int) (from_0 : Int → Int) (by_0 : Int → Int) (room_1 : Int → Int) (by_1 : Int → Int) (room_2 : Int → Int) (by_2 : Int → Int) (nodes_2 : Int) (from_2 : Int → Int) (to_2 : Int → Int) (gain_2 : Int → Int) (arcs_2 : Int) (nodes_0 : Int) (nodes_1 : Int) (arcs_0 : Int) (arcs_1 : Int) (from_1 : Int → Int) (to_0 : Int → Int) (to_1 : Int → Int) (room_0 : Int → Int) (gain_0 : Int → Int) (gain_1 : Int → Int) (k1 : 0 ≤ x1 ∧ x1 ≤ 71) (k2 : 0 ≤ x2 ∧ x2 ≤ 9999) (k5 : 1 ≤ x5 ∧ x5 ≤ 1000000000) (k6 : 0 ≤ x6 ∧ x6 ≤ 71) (k7 : 0 ≤ x7 ∧ x7 ≤ 71) (k11 : 0 ≤ x11 ∧ x11 ≤ 383) (k12 : 1 ≤ x12 ∧ x12 ≤ 1000000000) (k13 : (-999999999) ≤ x13 ∧ x13 ≤ 999999999) (k14 : (-1) ≤ x14 ∧ x14 ≤ 383) (k15 : 1 ≤ x15 ∧ x15 ≤ 1) (k16 : 0 ≤ x16 ∧ x16 ≤ 383) (k17 : 0 ≤ x17 ∧ x17 ≤ 1000000000) (k18 : 1 ≤ x18 ∧ x18 ≤ 2000000000) (k20 : 0 ≤ x20 ∧ x20 ≤ 383) (k21 : 0 ≤ x21 ∧ x21 ≤ 71) (k22 : 1 ≤ x22 ∧ x22 ≤ 72) (f0 : x22 = x7 + 1) (f1 : x21 ≠ x1) (h2 : x21 = from_0 (x20)) (h3 : x20 = by_0 (x6)) (f9 : x18 = x17 + x5) (h10 : x17 = room_1 (x16)) (f11 : bvp (x16) = bvp (x14) ^^^ bvp (x15)) (h12 : x14 = by_1 (x6)) (f15 : x13 = x12 - x5) (h16 : x12 = room_2 (x11)) (h17 : x11 = by_2 (x6)) (f20 : FLP (nodes_2) (arcs_2) (from_2) (to_2) (room_2) (gain_2) (by_2) (x1) (x6) (x7) (x5) (x2)) (fe_0_0_1 : nodes_0 = nodes_1) (fe_0_1_1 : arcs_0 = arcs_1) (fe_0_0_2 : nodes_1 = nodes_2) (fe_0_1_2 : arcs_1 = arcs_2) (hE_0_2_1 : ∀ j : Int, from_0 j = from_1 j) (hE_0_2_2 : ∀ j : Int, from_1 j = from_2 j) (hE_0_3_1 : ∀ j : Int, to_0 j = to_1 j) (hE_0_3_2 : ∀ j : Int, to_1 j = to_2 j) (hE_0_4_1 : ∀ j : Int, 0 ≤ j → (j = x16 → room_0 j = x18) ∧ (j ≠ x16 → room_0 j = room_1 j)) (hE_0_4_2 : ∀ j : Int, 0 ≤ j → (j = x11 → room_1 j = x13) ∧ (j ≠ x11 → room_1 j = room_2 j)) (hE_0_5_1 : ∀ j : Int, gain_0 j = gain_1 j) (hE_0_5_2 : ∀ j : Int, gain_1 j = gain_2 j) (hE_0_7_1 : ∀ j : Int, by_0 j = by_1 j) (hE_0_7_2 : ∀ j : Int, by_1 j = by_2 j) (kz_0_0 : 0 ≤ nodes_0 ∧ nodes_0 ≤ 72) (kz_0_1 : 0 ≤ arcs_0 ∧ arcs_0 ≤ 384) : FLP (nodes_0) (arcs_0) (from_0) (to_0) (room_0) (gain_0) (by_0) (x1) (x21) (x22) (x5) (x2) := by
  subst fe_0_0_1
  subst fe_0_1_1
  subst fe_0_0_2
  subst fe_0_1_2
  have e_hE_0_2_1 := funext hE_0_2_1; subst e_hE_0_2_1
  have e_hE_0_2_2 := funext hE_0_2_2; subst e_hE_0_2_2
  have e_hE_0_3_1 := funext hE_0_3_1; subst e_hE_0_3_1
  have e_hE_0_3_2 := funext hE_0_3_2; subst e_hE_0_3_2
  have e_hE_0_5_1 := funext hE_0_5_1; subst e_hE_0_5_1
  have e_hE_0_5_2 := funext hE_0_5_2; subst e_hE_0_5_2
  have e_hE_0_7_1 := funext hE_0_7_1; subst e_hE_0_7_1
  have e_hE_0_7_2 := funext hE_0_7_2; subst e_hE_0_7_2
  first
    | (have q := sl1_few ‹NWL _ _ _ _ _› ‹SL1 _ _ _ _ _ _ _ _ _ _ _›; omega)
    | (skip; (first | subst h2 | skip); (first | subst h3 | skip); (first | subst h10 | skip); (first | subst h12 | skip); (first | subst h16 | skip); (first | subst h17 | skip); exact flp_start (slx_of ‹SL1 _ _ _ _ _ _ _ _ _ _ _› ‹NWL _ _ _ _ _› rfl (by omega) (by omega) (by omega) (by omega)) ‹FLV _ _ _ _ _ _ _› (by omega) (by omega))
    | (skip; (first | subst h2 | skip); (first | subst h3 | skip); (first | subst h10 | skip); (first | subst h12 | skip); (first | subst h16 | skip); (first | subst h17 | skip); exact (flp_step ‹FLP _ _ _ _ _ _ _ _ _ _ _ _› rfl (by assumption) (by omega) (xor_one (by assumption) (by omega) (by omega) (by omega) (by omega) (by omega)) (by assumption) (by omega) rfl (by omega)).1 (by omega))
  
def o_St_sendRound_at_gl_13 : or_T := (62, 23, [(0, (2, 0, 0, [10])), (1, (0, 0, 71, [])), (2, (0, 0, 9999, [])), (5, (0, 1, 1000000000, [])), (6, (0, 0, 71, [])), (7, (0, 0, 71, [])), (9, (2, 0, 0, [120])), (11, (0, 0, 383, [])), (12, (0, 1, 1000000000, [])), (13, (0, -999999999, 999999999, [])), (14, (0, -1, 383, [])), (15, (0, 1, 1, [])), (16, (0, 0, 383, [])), (17, (0, 0, 1000000000, [])), (18, (0, 1, 2000000000, [])), (20, (0, 0, 383, [])), (21, (0, 0, 71, [])), (22, (0, 1, 72, []))], [(6, [22, 7], [1]), (7, [21, 4], [1]), (10, [21, 19, 20], []), (10, [20, 10, 6], []), (9, [10, 3], [7]), (9, [19, 3], [2]), (24, [0, 3], []), (24, [1, 4], []), (100, [9, 16, 18], []), (1, [18, 17, 5], []), (10, [17, 9, 16], []), (16, [16, 14, 15], [2]), (10, [14, 10, 6], []), (9, [9, 3], [4]), (100, [9, 11, 13], []), (2, [13, 12, 5], []), (10, [12, 9, 11], []), (10, [11, 10, 6], []), (20, [3, 4, 6, 7, 5, 2], [60, 2, 5, 535, 0, 1, 2, 3, 4, 5, 7])], [], [], [(20, [3, 4, 21, 22, 5, 2], [60, 2, 5, 535, 0, 1, 2, 3, 4, 5, 7])], [], [(18, 5, 0, 1000000000), (18, 17, 1, 1000000000), (13, 12, -1000000000, -1)])
theorem oo_St_sendRound_at_gl_13 {kA : Nat → ClassId} : or_ok PRD kA GG o_St_sendRound_at_gl_13 := by
  refine or_mk fun A ta ws vs hD hth hl => ?_
  intro t0 r0 t1 k1 t2 k2 t5 k5 t6 k6 t7 k7 t9 r9 t11 k11 t12 k12 t13 k13 t14 k14 t15 k15 t16 k16 t17 k17 t18 k18 t20 k20 t21 k21 t22 k22 d2 d3 d4 f0 f1 f2 f3 f4 f5 f6 f7 ta1 w1 le1 s1 f9 f10 f11 f12 f13 ta2 w2 le2 s2 f15 f16 f17 f20
  replace f0 := shm_4 f0
  replace f1 := shm_40 f1
  replace f2 := shm_106 f2
  replace f3 := shm_106 f3
  replace f4 := shm_216 f4
  replace f5 := shm_129 f5
  replace f6 := shm_5 f6
  replace f7 := shm_5 f7
  have s1 : (∀ b j, w_el ws b j = if b = v_ad (n_v vs 9) ∧ j = (v_iv (n_v vs 16)).toNat then v_iv (n_v vs 18) else w_el w1 b j) ∧ ∀ b k, w_fd ws b k = w_fd w1 b k := s1.2
  replace f9 := shm_12 f9
  replace f10 := shm_106 f10
  replace f11 := shm_33 f11
  replace f12 := shm_106 f12
  replace f13 := shm_107 f13
  have s2 : (∀ b j, w_el w1 b j = if b = v_ad (n_v vs 9) ∧ j = (v_iv (n_v vs 11)).toNat then v_iv (n_v vs 13) else w_el w2 b j) ∧ ∀ b k, w_fd w1 b k = w_fd w2 b k := s2.2
  replace f15 := shm_14 f15
  replace f16 := shm_106 f16
  replace f17 := shm_106 f17
  replace f20 := shm_905 f20
  have q3 : n_v vs 3 = n_v vs 0 := f6.symm
  have q4 : n_v vs 4 = n_v vs 1 := f7.symm
  simp only [q4, q3] at f1 f4 f5 f13 f20
  have ar_0_2_1 : w_ar w1 (n_v vs 0) 2 = w_ar ws (n_v vs 0) 2 := congrArg v_ad (s1.2 _ _).symm
  have ar_0_2_2 : w_ar w2 (n_v vs 0) 2 = w_ar ws (n_v vs 0) 2 := by rw [← ar_0_2_1]; show v_ad (w_fd w2 _ _) = v_ad (w_fd w1 _ _); rw [s2.2]
  have cr_0_2 := fdq_107 hD hth r0
  have ar_0_3_1 : w_ar w1 (n_v vs 0) 3 = w_ar ws (n_v vs 0) 3 := congrArg v_ad (s1.2 _ _).symm
  have ar_0_3_2 : w_ar w2 (n_v vs 0) 3 = w_ar ws (n_v vs 0) 3 := by rw [← ar_0_3_1]; show v_ad (w_fd w2 _ _) = v_ad (w_fd w1 _ _); rw [s2.2]
  have cr_0_3 := fdq_108 hD hth r0
  have ar_0_4_1 : w_ar w1 (n_v vs 0) 4 = w_ar ws (n_v vs 0) 4 := congrArg v_ad (s1.2 _ _).symm
  have ar_0_4_2 : w_ar w2 (n_v vs 0) 4 = w_ar ws (n_v vs 0) 4 := by rw [← ar_0_4_1]; show v_ad (w_fd w2 _ _) = v_ad (w_fd w1 _ _); rw [s2.2]
  have ar_0_5_1 : w_ar w1 (n_v vs 0) 5 = w_ar ws (n_v vs 0) 5 := congrArg v_ad (s1.2 _ _).symm
  have ar_0_5_2 : w_ar w2 (n_v vs 0) 5 = w_ar ws (n_v vs 0) 5 := by rw [← ar_0_5_1]; show v_ad (w_fd w2 _ _) = v_ad (w_fd w1 _ _); rw [s2.2]
  have cr_0_5 := fdq_110 hD hth r0
  have ar_0_7_1 : w_ar w1 (n_v vs 0) 7 = w_ar ws (n_v vs 0) 7 := congrArg v_ad (s1.2 _ _).symm
  have ar_0_7_2 : w_ar w2 (n_v vs 0) 7 = w_ar ws (n_v vs 0) 7 := by rw [← ar_0_7_1]; show v_ad (w_fd w2 _ _) = v_ad (w_fd w1 _ _); rw [s2.2]
  have cr_0_7 := fdq_115 hD hth r0
  have ad_10 : v_ad (n_v vs 10) = w_ar ws (n_v vs 0) 7 := congrArg v_ad f4
  have ad_19 : v_ad (n_v vs 19) = w_ar ws (n_v vs 0) 2 := congrArg v_ad f5
  have ad_9 : v_ad (n_v vs 9) = w_ar ws (n_v vs 0) 4 := (congrArg v_ad f13).trans ar_0_4_1
  simp only [ad_19] at f2
  have h2 : v_iv (n_v vs 21) = w_ei ws (w_ar ws (n_v vs 0) 2) (v_iv (n_v vs 20)) := f2
  simp only [ad_10] at f3
  have h3 : v_iv (n_v vs 20) = w_ei ws (w_ar ws (n_v vs 0) 7) (v_iv (n_v vs 6)) := f3
  simp only [ad_9] at f10
  have h10 : v_iv (n_v vs 17) = w_ei w1 (w_ar ws (n_v vs 0) 4) (v_iv (n_v vs 16)) := f10
  simp only [ad_10] at f12
  have h12 : v_iv (n_v vs 14) = w_ei w1 (w_ar ws (n_v vs 0) 7) (v_iv (n_v vs 6)) := f12
  simp only [ad_9] at f16
  have h16 : v_iv (n_v vs 12) = w_ei w2 (w_ar ws (n_v vs 0) 4) (v_iv (n_v vs 11)) := f16
  simp only [ad_10] at f17
  have h17 : v_iv (n_v vs 11) = w_ei w2 (w_ar ws (n_v vs 0) 7) (v_iv (n_v vs 6)) := f17
  simp only [ar_0_2_2, ar_0_3_2, ar_0_4_2, ar_0_5_2, ar_0_7_2] at f20
  have fe_0_0_1 : w_fi ws (n_v vs 0) 0 = w_fi w1 (n_v vs 0) 0 := congrArg v_iv (s1.2 _ _)
  have fe_0_1_1 : w_fi ws (n_v vs 0) 1 = w_fi w1 (n_v vs 0) 1 := congrArg v_iv (s1.2 _ _)
  have fe_0_0_2 : w_fi w1 (n_v vs 0) 0 = w_fi w2 (n_v vs 0) 0 := congrArg v_iv (s2.2 _ _)
  have fe_0_1_2 : w_fi w1 (n_v vs 0) 1 = w_fi w2 (n_v vs 0) 1 := congrArg v_iv (s2.2 _ _)
  have hE_0_2_1 : ∀ j : Int, w_ei ws (w_ar ws (n_v vs 0) 2) j = w_ei w1 (w_ar ws (n_v vs 0) 2) j := el_kp s1.1 r9 cr_0_2 (by decide)
  have hE_0_2_2 : ∀ j : Int, w_ei w1 (w_ar ws (n_v vs 0) 2) j = w_ei w2 (w_ar ws (n_v vs 0) 2) j := el_kp s2.1 r9 cr_0_2 (by decide)
  have hE_0_3_1 : ∀ j : Int, w_ei ws (w_ar ws (n_v vs 0) 3) j = w_ei w1 (w_ar ws (n_v vs 0) 3) j := el_kp s1.1 r9 cr_0_3 (by decide)
  have hE_0_3_2 : ∀ j : Int, w_ei w1 (w_ar ws (n_v vs 0) 3) j = w_ei w2 (w_ar ws (n_v vs 0) 3) j := el_kp s2.1 r9 cr_0_3 (by decide)
  have hE_0_4_1 : ∀ j : Int, 0 ≤ j → (j = v_iv (n_v vs 16) → w_ei ws (w_ar ws (n_v vs 0) 4) j = v_iv (n_v vs 18)) ∧ (j ≠ v_iv (n_v vs 16) → w_ei ws (w_ar ws (n_v vs 0) 4) j = w_ei w1 (w_ar ws (n_v vs 0) 4) j) := fun j hj => ⟨fun h => by unfold w_ei; rw [s1.1, if_pos ⟨ad_9.symm, by rw [h]⟩], fun h => by unfold w_ei; rw [s1.1, if_neg (fun e => h (by have := e.2; omega))]⟩
  have hE_0_4_2 : ∀ j : Int, 0 ≤ j → (j = v_iv (n_v vs 11) → w_ei w1 (w_ar ws (n_v vs 0) 4) j = v_iv (n_v vs 13)) ∧ (j ≠ v_iv (n_v vs 11) → w_ei w1 (w_ar ws (n_v vs 0) 4) j = w_ei w2 (w_ar ws (n_v vs 0) 4) j) := fun j hj => ⟨fun h => by unfold w_ei; rw [s2.1, if_pos ⟨ad_9.symm, by rw [h]⟩], fun h => by unfold w_ei; rw [s2.1, if_neg (fun e => h (by have := e.2; omega))]⟩
  have hE_0_5_1 : ∀ j : Int, w_ei ws (w_ar ws (n_v vs 0) 5) j = w_ei w1 (w_ar ws (n_v vs 0) 5) j := el_kp s1.1 r9 cr_0_5 (by decide)
  have hE_0_5_2 : ∀ j : Int, w_ei w1 (w_ar ws (n_v vs 0) 5) j = w_ei w2 (w_ar ws (n_v vs 0) 5) j := el_kp s2.1 r9 cr_0_5 (by decide)
  have hE_0_7_1 : ∀ j : Int, w_ei ws (w_ar ws (n_v vs 0) 7) j = w_ei w1 (w_ar ws (n_v vs 0) 7) j := el_kp s1.1 r9 cr_0_7 (by decide)
  have hE_0_7_2 : ∀ j : Int, w_ei w1 (w_ar ws (n_v vs 0) 7) j = w_ei w2 (w_ar ws (n_v vs 0) 7) j := el_kp s2.1 r9 cr_0_7 (by decide)
  have kz_0_0 := fdq_113 hD hth r0
  have kz_0_1 := fdq_112 hD hth r0
  have nf0 : fc_1 PRD (20, [3, 4, 21, 22, 5, 2], [60, 2, 5, 535, 0, 1, 2, 3, 4, 5, 7]) ws (vs) := by
    refine ⟨nf_in hl rfl, sgq_905 ?_⟩
    · show FLP (w_fi ws (n_v vs 3) 0) (w_fi ws (n_v vs 3) 1) (w_ei ws (w_ar ws (n_v vs 3) 2)) (w_ei ws (w_ar ws (n_v vs 3) 3)) (w_ei ws (w_ar ws (n_v vs 3) 4)) (w_ei ws (w_ar ws (n_v vs 3) 5)) (w_ei ws (w_ar ws (n_v vs 3) 7)) (v_iv (n_v vs 4)) (v_iv (n_v vs 21)) (v_iv (n_v vs 22)) (v_iv (n_v vs 5)) (v_iv (n_v vs 2))
      simp only [q3, q4]
      exact vc_St_sendRound_at_gl_13_0 (v_iv (n_v vs 1)) (v_iv (n_v vs 2)) (v_iv (n_v vs 5)) (v_iv (n_v vs 6)) (v_iv (n_v vs 7)) (v_iv (n_v vs 11)) (v_iv (n_v vs 12)) (v_iv (n_v vs 13)) (v_iv (n_v vs 14)) (v_iv (n_v vs 15)) (v_iv (n_v vs 16)) (v_iv (n_v vs 17)) (v_iv (n_v vs 18)) (v_iv (n_v vs 20)) (v_iv (n_v vs 21)) (v_iv (n_v vs 22)) (w_ei ws (w_ar ws (n_v vs 0) 2)) (w_ei ws (w_ar ws (n_v vs 0) 7)) (w_ei w1 (w_ar ws (n_v vs 0) 4)) (w_ei w1 (w_ar ws (n_v vs 0) 7)) (w_ei w2 (w_ar ws (n_v vs 0) 4)) (w_ei w2 (w_ar ws (n_v vs 0) 7)) (w_fi w2 (n_v vs 0) 0) (w_ei w2 (w_ar ws (n_v vs 0) 2)) (w_ei w2 (w_ar ws (n_v vs 0) 3)) (w_ei w2 (w_ar ws (n_v vs 0) 5)) (w_fi w2 (n_v vs 0) 1) (w_fi ws (n_v vs 0) 0) (w_fi w1 (n_v vs 0) 0) (w_fi ws (n_v vs 0) 1) (w_fi w1 (n_v vs 0) 1) (w_ei w1 (w_ar ws (n_v vs 0) 2)) (w_ei ws (w_ar ws (n_v vs 0) 3)) (w_ei w1 (w_ar ws (n_v vs 0) 3)) (w_ei ws (w_ar ws (n_v vs 0) 4)) (w_ei ws (w_ar ws (n_v vs 0) 5)) (w_ei w1 (w_ar ws (n_v vs 0) 5)) k1 k2 k5 k6 k7 k11 k12 k13 k14 k15 k16 k17 k18 k20 k21 k22 f0 f1 h2 h3 f9 h10 f11 h12 f15 h16 h17 f20 fe_0_0_1 fe_0_1_1 fe_0_0_2 fe_0_1_2 hE_0_2_1 hE_0_2_2 hE_0_3_1 hE_0_3_2 hE_0_4_1 hE_0_4_2 hE_0_5_1 hE_0_5_2 hE_0_7_1 hE_0_7_2 kz_0_0 kz_0_1
  refine ⟨(fun _ h => (by cases h)), [], trivial, ?_, (fun _ h => (by cases h))⟩
  rw [List.append_nil]
  exact List.forall_mem_cons.mpr ⟨⟨show (20 : Nat) < 100 from by decide, nf0⟩, (fun _ h => (by cases h))⟩
set_option maxHeartbeats 4000000 in
theorem vc_St_sendRound_at_gl_14_0 (x1 : Int) (x2 : Int) (x5 : Int) (x6 : Int) (x7 : Int) (x11 : Int) (x12 : Int) (x13 : Int) (x14 : Int) (x15 : Int) (x16 : Int) (x17 : Int) (x18 : Int) (x20 : Int) (x21 : Int) (from_0 : Int → Int) (by_0 : Int → Int) (room_1 : Int → Int) (by_1 : Int → Int) (room_2 : Int → Int) (by_2 : Int → Int) (nodes_2 : Int) (from_2 : Int → Int) (to_2 : Int → Int) (gain_2 : Int → Int) (arcs_2 : Int) (nodes_0 : Int) (nodes_1 : Int) (arcs_0 : Int) (arcs_1 : Int) (from_1 : Int → Int) (to_0 : Int → Int) (to_1 : Int → Int) (room_0 : Int → Int) (gain_0 : Int → Int) (gain_1 : Int → Int) (k1 : 0 ≤ x1 ∧ x1 ≤ 71) (k2 : 0 ≤ x2 ∧ x2 ≤ 9999) (k5 : 1 ≤ x5 ∧ x5 ≤ 1000000000) (k6 : 0 ≤ x6 ∧ x6 ≤ 71) (k7 : 0 ≤ x7 ∧ x7 ≤ 71) (k11 : 0 ≤ x11 ∧ x11 ≤ 383) (k12 : 1 ≤ x12 ∧ x12 ≤ 1000000000) (k13 : (-999999999) ≤ x13 ∧ x13 ≤ 999999999) (k14 : (-1) ≤ x14 ∧ x14 ≤ 383) (k15 : 1 ≤ x15 ∧ x15 ≤ 1) (k16 : 0 ≤ x16 ∧ x16 ≤ 383) (k17 : 0 ≤ x17 ∧ x17 ≤ 1000000000) (k18 : 1 ≤ x18 ∧ x18 ≤ 2000000000) (k20 : 0 ≤ x20 ∧ x20 ≤ 383) (k21 : 0 ≤ x21 ∧ x21 ≤ 71) (f0 : x21 = x1) (h1 : x21 = from_0 (x20)) (h2 : x20 = by_0 (x6)) (f8 : x18 = x17 + x5) (h9 : x17 = room_1 (x16)) (f10 : bvp (x16) = bvp (x14) ^^^ bvp (x15)) (h11 : x14 = by_1 (x6)) (f14 : x13 = x12 - x5) (h15 : x12 = room_2 (x11)) (h16 : x11 = by_2 (x6)) (f19 : FLP (nodes_2) (arcs_2) (from_2) (to_2) (room_2) (gain_2) (by_2) (x1) (x6) (x7) (x5) (x2)) (fe_0_0_1 : nodes_0 = nodes_1) (fe_0_1_1 : arcs_0 = arcs_1) (fe_0_0_2 : nodes_1 = nodes_2) (fe_0_1_2 : arcs_1 = arcs_2) (hE_0_2_1 : ∀ j : Int, from_0 j = from_1 j) (hE_0_2_2 : ∀ j : Int, from_1 j = from_2 j) (hE_0_3_1 : ∀ j : Int, to_0 j = to_1 j) (hE_0_3_2 : ∀ j : Int, to_1 j = to_2 j) (hE_0_4_1 : ∀ j : Int, 0 ≤ j → (j = x16 → room_0 j = x18) ∧ (j ≠ x16 → room_0 j = room_1 j)) (hE_0_4_2 : ∀ j : Int, 0 ≤ j → (j = x11 → room_1 j = x13) ∧ (j ≠ x11 → room_1 j = room_2 j)) (hE_0_5_1 : ∀ j : Int, gain_0 j = gain_1 j) (hE_0_5_2 : ∀ j : Int, gain_1 j = gain_2 j) (hE_0_7_1 : ∀ j : Int, by_0 j = by_1 j) (hE_0_7_2 : ∀ j : Int, by_1 j = by_2 j) (kz_0_0 : 0 ≤ nodes_0 ∧ nodes_0 ≤ 72) (kz_0_1 : 0 ≤ arcs_0 ∧ arcs_0 ≤ 384) : FLV1 (nodes_0) (arcs_0) (from_0) (to_0) (room_0) (gain_0) (x2) := by
  subst fe_0_0_1
  subst fe_0_1_1
  subst fe_0_0_2
  subst fe_0_1_2
  have e_hE_0_2_1 := funext hE_0_2_1; subst e_hE_0_2_1
  have e_hE_0_2_2 := funext hE_0_2_2; subst e_hE_0_2_2
  have e_hE_0_3_1 := funext hE_0_3_1; subst e_hE_0_3_1
  have e_hE_0_3_2 := funext hE_0_3_2; subst e_hE_0_3_2
  have e_hE_0_5_1 := funext hE_0_5_1; subst e_hE_0_5_1
  have e_hE_0_5_2 := funext hE_0_5_2; subst e_hE_0_5_2
  have e_hE_0_7_1 := funext hE_0_7_1; subst e_hE_0_7_1
  have e_hE_0_7_2 := funext hE_0_7_2; subst e_hE_0_7_2
  first
    | (have q := flp_few ‹FLP _ _ _ _ _ _ _ _ _ _ _ _›; omega)
    | (skip; (first | subst h1 | skip); (first | subst h2 | skip); (first | subst h9 | skip); (first | subst h11 | skip); (first | subst h15 | skip); (first | subst h16 | skip); exact (flp_step ‹FLP _ _ _ _ _ _ _ _ _ _ _ _› rfl (by assumption) (by omega) (xor_one (by assumption) (by omega) (by omega) (by omega) (by omega) (by omega)) (by assumption) (by omega) rfl rfl).2 (by omega))
  
def o_St_sendRound_at_gl_14 : or_T := (129, 22, [(0, (2, 0, 0, [10])), (1, (0, 0, 71, [])), (2, (0, 0, 9999, [])), (5, (0, 1, 1000000000, [])), (6, (0, 0, 71, [])), (7, (0, 0, 71, [])), (9, (2, 0, 0, [120])), (11, (0, 0, 383, [])), (12, (0, 1, 1000000000, [])), (13, (0, -999999999, 999999999, [])), (14, (0, -1, 383, [])), (15, (0, 1, 1, [])), (16, (0, 0, 383, [])), (17, (0, 0, 1000000000, [])), (18, (0, 1, 2000000000, [])), (20, (0, 0, 383, [])), (21, (0, 0, 71, []))], [(7, [21, 4], [0]), (10, [21, 19, 20], []), (10, [20, 10, 6], []), (9, [10, 3], [7]), (9, [19, 3], [2]), (24, [0, 3], []), (24, [1, 4], []), (100, [9, 16, 18], []), (1, [18, 17, 5], []), (10, [17, 9, 16], []), (16, [16, 14, 15], [2]), (10, [14, 10, 6], []), (9, [9, 3], [4]), (100, [9, 11, 13], []), (2, [13, 12, 5], []), (10, [12, 9, 11], []), (10, [11, 10, 6], []), (20, [3, 4, 6, 7, 5, 2], [60, 2, 5, 535, 0, 1, 2, 3, 4, 5, 7])], [], [], [(20, [0, 2], [60, 2, 4, 531, 0, 1, 2, 3, 4, 5])], [], [(18, 5, 0, 1000000000), (18, 17, 1, 1000000000), (13, 12, -1000000000, -1)])
theorem oo_St_sendRound_at_gl_14 {kA : Nat → ClassId} : or_ok PRD kA GG o_St_sendRound_at_gl_14 := by
  refine or_mk fun A ta ws vs hD hth hl => ?_
  intro t0 r0 t1 k1 t2 k2 t5 k5 t6 k6 t7 k7 t9 r9 t11 k11 t12 k12 t13 k13 t14 k14 t15 k15 t16 k16 t17 k17 t18 k18 t20 k20 t21 k21 d1 d2 d3 f0 f1 f2 f3 f4 f5 f6 ta1 w1 le1 s1 f8 f9 f10 f11 f12 ta2 w2 le2 s2 f14 f15 f16 f19
  replace f0 := shm_37 f0
  replace f1 := shm_106 f1
  replace f2 := shm_106 f2
  replace f3 := shm_216 f3
  replace f4 := shm_129 f4
  replace f5 := shm_5 f5
  replace f6 := shm_5 f6
  have s1 : (∀ b j, w_el ws b j = if b = v_ad (n_v vs 9) ∧ j = (v_iv (n_v vs 16)).toNat then v_iv (n_v vs 18) else w_el w1 b j) ∧ ∀ b k, w_fd ws b k = w_fd w1 b k := s1.2
  replace f9 := shm_106 f9
  replace f11 := shm_106 f11
  replace f12 := shm_107 f12
  have s2 : (∀ b j, w_el w1 b j = if b = v_ad (n_v vs 9) ∧ j = (v_iv (n_v vs 11)).toNat then v_iv (n_v vs 13) else w_el w2 b j) ∧ ∀ b k, w_fd w1 b k = w_fd w2 b k := s2.2
  replace f15 := shm_106 f15
  replace f16 := shm_106 f16
  replace f19 := shm_905 f19
  have q3 : n_v vs 3 = n_v vs 0 := f5.symm
  have q4 : n_v vs 4 = n_v vs 1 := f6.symm
  simp only [q4, q3] at f0 f3 f4 f12 f19
  have ar_0_2_1 : w_ar w1 (n_v vs 0) 2 = w_ar ws (n_v vs 0) 2 := congrArg v_ad (s1.2 _ _).symm
  have ar_0_2_2 : w_ar w2 (n_v vs 0) 2 = w_ar ws (n_v vs 0) 2 := by rw [← ar_0_2_1]; show v_ad (w_fd w2 _ _) = v_ad (w_fd w1 _ _); rw [s2.2]
  have cr_0_2 := fdq_107 hD hth r0
  have ar_0_3_1 : w_ar w1 (n_v vs 0) 3 = w_ar ws (n_v vs 0) 3 := congrArg v_ad (s1.2 _ _).symm
  have ar_0_3_2 : w_ar w2 (n_v vs 0) 3 = w_ar ws (n_v vs 0) 3 := by rw [← ar_0_3_1]; show v_ad (w_fd w2 _ _) = v_ad (w_fd w1 _ _); rw [s2.2]
  have cr_0_3 := fdq_108 hD hth r0
  have ar_0_4_1 : w_ar w1 (n_v vs 0) 4 = w_ar ws (n_v vs 0) 4 := congrArg v_ad (s1.2 _ _).symm
  have ar_0_4_2 : w_ar w2 (n_v vs 0) 4 = w_ar ws (n_v vs 0) 4 := by rw [← ar_0_4_1]; show v_ad (w_fd w2 _ _) = v_ad (w_fd w1 _ _); rw [s2.2]
  have ar_0_5_1 : w_ar w1 (n_v vs 0) 5 = w_ar ws (n_v vs 0) 5 := congrArg v_ad (s1.2 _ _).symm
  have ar_0_5_2 : w_ar w2 (n_v vs 0) 5 = w_ar ws (n_v vs 0) 5 := by rw [← ar_0_5_1]; show v_ad (w_fd w2 _ _) = v_ad (w_fd w1 _ _); rw [s2.2]
  have cr_0_5 := fdq_110 hD hth r0
  have ar_0_7_1 : w_ar w1 (n_v vs 0) 7 = w_ar ws (n_v vs 0) 7 := congrArg v_ad (s1.2 _ _).symm
  have ar_0_7_2 : w_ar w2 (n_v vs 0) 7 = w_ar ws (n_v vs 0) 7 := by rw [← ar_0_7_1]; show v_ad (w_fd w2 _ _) = v_ad (w_fd w1 _ _); rw [s2.2]
  have cr_0_7 := fdq_115 hD hth r0
  have ad_10 : v_ad (n_v vs 10) = w_ar ws (n_v vs 0) 7 := congrArg v_ad f3
  have ad_19 : v_ad (n_v vs 19) = w_ar ws (n_v vs 0) 2 := congrArg v_ad f4
  have ad_9 : v_ad (n_v vs 9) = w_ar ws (n_v vs 0) 4 := (congrArg v_ad f12).trans ar_0_4_1
  simp only [ad_19] at f1
  have h1 : v_iv (n_v vs 21) = w_ei ws (w_ar ws (n_v vs 0) 2) (v_iv (n_v vs 20)) := f1
  simp only [ad_10] at f2
  have h2 : v_iv (n_v vs 20) = w_ei ws (w_ar ws (n_v vs 0) 7) (v_iv (n_v vs 6)) := f2
  simp only [ad_9] at f9
  have h9 : v_iv (n_v vs 17) = w_ei w1 (w_ar ws (n_v vs 0) 4) (v_iv (n_v vs 16)) := f9
  simp only [ad_10] at f11
  have h11 : v_iv (n_v vs 14) = w_ei w1 (w_ar ws (n_v vs 0) 7) (v_iv (n_v vs 6)) := f11
  simp only [ad_9] at f15
  have h15 : v_iv (n_v vs 12) = w_ei w2 (w_ar ws (n_v vs 0) 4) (v_iv (n_v vs 11)) := f15
  simp only [ad_10] at f16
  have h16 : v_iv (n_v vs 11) = w_ei w2 (w_ar ws (n_v vs 0) 7) (v_iv (n_v vs 6)) := f16
  simp only [ar_0_2_2, ar_0_3_2, ar_0_4_2, ar_0_5_2, ar_0_7_2] at f19
  have fe_0_0_1 : w_fi ws (n_v vs 0) 0 = w_fi w1 (n_v vs 0) 0 := congrArg v_iv (s1.2 _ _)
  have fe_0_1_1 : w_fi ws (n_v vs 0) 1 = w_fi w1 (n_v vs 0) 1 := congrArg v_iv (s1.2 _ _)
  have fe_0_0_2 : w_fi w1 (n_v vs 0) 0 = w_fi w2 (n_v vs 0) 0 := congrArg v_iv (s2.2 _ _)
  have fe_0_1_2 : w_fi w1 (n_v vs 0) 1 = w_fi w2 (n_v vs 0) 1 := congrArg v_iv (s2.2 _ _)
  have hE_0_2_1 : ∀ j : Int, w_ei ws (w_ar ws (n_v vs 0) 2) j = w_ei w1 (w_ar ws (n_v vs 0) 2) j := el_kp s1.1 r9 cr_0_2 (by decide)
  have hE_0_2_2 : ∀ j : Int, w_ei w1 (w_ar ws (n_v vs 0) 2) j = w_ei w2 (w_ar ws (n_v vs 0) 2) j := el_kp s2.1 r9 cr_0_2 (by decide)
  have hE_0_3_1 : ∀ j : Int, w_ei ws (w_ar ws (n_v vs 0) 3) j = w_ei w1 (w_ar ws (n_v vs 0) 3) j := el_kp s1.1 r9 cr_0_3 (by decide)
  have hE_0_3_2 : ∀ j : Int, w_ei w1 (w_ar ws (n_v vs 0) 3) j = w_ei w2 (w_ar ws (n_v vs 0) 3) j := el_kp s2.1 r9 cr_0_3 (by decide)
  have hE_0_4_1 : ∀ j : Int, 0 ≤ j → (j = v_iv (n_v vs 16) → w_ei ws (w_ar ws (n_v vs 0) 4) j = v_iv (n_v vs 18)) ∧ (j ≠ v_iv (n_v vs 16) → w_ei ws (w_ar ws (n_v vs 0) 4) j = w_ei w1 (w_ar ws (n_v vs 0) 4) j) := fun j hj => ⟨fun h => by unfold w_ei; rw [s1.1, if_pos ⟨ad_9.symm, by rw [h]⟩], fun h => by unfold w_ei; rw [s1.1, if_neg (fun e => h (by have := e.2; omega))]⟩
  have hE_0_4_2 : ∀ j : Int, 0 ≤ j → (j = v_iv (n_v vs 11) → w_ei w1 (w_ar ws (n_v vs 0) 4) j = v_iv (n_v vs 13)) ∧ (j ≠ v_iv (n_v vs 11) → w_ei w1 (w_ar ws (n_v vs 0) 4) j = w_ei w2 (w_ar ws (n_v vs 0) 4) j) := fun j hj => ⟨fun h => by unfold w_ei; rw [s2.1, if_pos ⟨ad_9.symm, by rw [h]⟩], fun h => by unfold w_ei; rw [s2.1, if_neg (fun e => h (by have := e.2; omega))]⟩
  have hE_0_5_1 : ∀ j : Int, w_ei ws (w_ar ws (n_v vs 0) 5) j = w_ei w1 (w_ar ws (n_v vs 0) 5) j := el_kp s1.1 r9 cr_0_5 (by decide)
  have hE_0_5_2 : ∀ j : Int, w_ei w1 (w_ar ws (n_v vs 0) 5) j = w_ei w2 (w_ar ws (n_v vs 0) 5) j := el_kp s2.1 r9 cr_0_5 (by decide)
  have hE_0_7_1 : ∀ j : Int, w_ei ws (w_ar ws (n_v vs 0) 7) j = w_ei w1 (w_ar ws (n_v vs 0) 7) j := el_kp s1.1 r9 cr_0_7 (by decide)
  have hE_0_7_2 : ∀ j : Int, w_ei w1 (w_ar ws (n_v vs 0) 7) j = w_ei w2 (w_ar ws (n_v vs 0) 7) j := el_kp s2.1 r9 cr_0_7 (by decide)
  have kz_0_0 := fdq_113 hD hth r0
  have kz_0_1 := fdq_112 hD hth r0
  have nf0 : fc_1 PRD (20, [0, 2], [60, 2, 4, 531, 0, 1, 2, 3, 4, 5]) ws (vs) := ⟨nf_in hl rfl, sgq_906 (vc_St_sendRound_at_gl_14_0 (v_iv (n_v vs 1)) (v_iv (n_v vs 2)) (v_iv (n_v vs 5)) (v_iv (n_v vs 6)) (v_iv (n_v vs 7)) (v_iv (n_v vs 11)) (v_iv (n_v vs 12)) (v_iv (n_v vs 13)) (v_iv (n_v vs 14)) (v_iv (n_v vs 15)) (v_iv (n_v vs 16)) (v_iv (n_v vs 17)) (v_iv (n_v vs 18)) (v_iv (n_v vs 20)) (v_iv (n_v vs 21)) (w_ei ws (w_ar ws (n_v vs 0) 2)) (w_ei ws (w_ar ws (n_v vs 0) 7)) (w_ei w1 (w_ar ws (n_v vs 0) 4)) (w_ei w1 (w_ar ws (n_v vs 0) 7)) (w_ei w2 (w_ar ws (n_v vs 0) 4)) (w_ei w2 (w_ar ws (n_v vs 0) 7)) (w_fi w2 (n_v vs 0) 0) (w_ei w2 (w_ar ws (n_v vs 0) 2)) (w_ei w2 (w_ar ws (n_v vs 0) 3)) (w_ei w2 (w_ar ws (n_v vs 0) 5)) (w_fi w2 (n_v vs 0) 1) (w_fi ws (n_v vs 0) 0) (w_fi w1 (n_v vs 0) 0) (w_fi ws (n_v vs 0) 1) (w_fi w1 (n_v vs 0) 1) (w_ei w1 (w_ar ws (n_v vs 0) 2)) (w_ei ws (w_ar ws (n_v vs 0) 3)) (w_ei w1 (w_ar ws (n_v vs 0) 3)) (w_ei ws (w_ar ws (n_v vs 0) 4)) (w_ei ws (w_ar ws (n_v vs 0) 5)) (w_ei w1 (w_ar ws (n_v vs 0) 5)) k1 k2 k5 k6 k7 k11 k12 k13 k14 k15 k16 k17 k18 k20 k21 f0 h1 h2 (shm_12 f8) h9 (shm_33 f10) h11 (shm_14 f14) h15 h16 f19 fe_0_0_1 fe_0_1_1 fe_0_0_2 fe_0_1_2 hE_0_2_1 hE_0_2_2 hE_0_3_1 hE_0_3_2 hE_0_4_1 hE_0_4_2 hE_0_5_1 hE_0_5_2 hE_0_7_1 hE_0_7_2 kz_0_0 kz_0_1)⟩
  refine ⟨(fun _ h => (by cases h)), [], trivial, ?_, (fun _ h => (by cases h))⟩
  rw [List.append_nil]
  exact List.forall_mem_cons.mpr ⟨⟨show (20 : Nat) < 100 from by decide, nf0⟩, (fun _ h => (by cases h))⟩
def n_St_sendRound_at_gl_an : List an_T := [(8, [(0, (2, 0, 0, [10])), (1, (0, 0, 71, [])), (2, (0, 1, 1000000000, [])), (3, (0, 0, 71, [])), (4, (0, 0, 72, []))], [], (0, 0), [(0, 0, 99992), (1, 7, 72), (0, 0, 100000)], [(1, 4, (Int.negSucc 999999999999), 0), (4, 1, (Int.negSucc 999999999999), 0)], [], [(2, 0, 0, [10]), (0, 0, 71, []), (0, 0, 9999, [])], 0, [], [(20, [3, 4, 6, 7, 5], [60, 2, 5, 533, 0, 1, 2, 3, 4, 5, 7]), (20, [3], [60, 2, 3, 515, 0, 1, 2, 3, 5]), (20, [3, 2], [60, 2, 4, 530, 0, 1, 2, 3, 4, 5]), (24, [0, 3], []), (24, [1, 4], [])]), (62, [(0, (2, 0, 0, [10])), (1, (0, 0, 71, [])), (2, (0, 1, 1000000000, [])), (3, (0, 0, 71, [])), (4, (0, 0, 72, []))], [], (0, 0), [(0, 0, 99938), (1, 7, 72), (0, 0, 100000)], [(1, 4, (Int.negSucc 999999999999), 0), (4, 1, (Int.negSucc 999999999999), 0)], [], [(2, 0, 0, [10]), (0, 0, 71, []), (0, 0, 9999, [])], 0, [], [(20, [3, 4, 6, 7, 5, 2], [60, 2, 5, 535, 0, 1, 2, 3, 4, 5, 7]), (24, [0, 3], []), (24, [1, 4], [])])]
def t_St_sendRound_at_gl_ct : ct_L := [(90, 67, e_jMath_min1_v47), (90, 67, e_jMath_min1_v48)]
set_option maxRecDepth 100000 in
theorem c_St_sendRound_at_gl {l : Launch} {D : va_G} {kA : Nat → ClassId} : ct_ok PRD l D kA GG y_St_sendRound_at_gl z_St_sendRound_at_gl e_St_sendRound_at_gl := chk_all_ok (FT := [(9, 10, 0), (18, 10, 2), (25, 10, 4), (34, 10, 7)]) (PT := []) (CT := t_St_sendRound_at_gl_ct) (KT := [(0, 44, .int (1000000000), (0, 1000000000, 1000000000, []))]) (NT := []) (AN := n_St_sendRound_at_gl_an) (OT := [o_St_sendRound_at_gl_0, o_St_sendRound_at_gl_1, o_St_sendRound_at_gl_2, o_St_sendRound_at_gl_3, o_St_sendRound_at_gl_4, o_St_sendRound_at_gl_5, o_St_sendRound_at_gl_6, o_St_sendRound_at_gl_7, o_St_sendRound_at_gl_8, o_St_sendRound_at_gl_9, o_St_sendRound_at_gl_10, o_St_sendRound_at_gl_11, o_St_sendRound_at_gl_12, o_St_sendRound_at_gl_13, o_St_sendRound_at_gl_14]) 3 328 (List.forall_mem_cons.mpr ⟨oo_St_sendRound_at_gl_0, List.forall_mem_cons.mpr ⟨oo_St_sendRound_at_gl_1, List.forall_mem_cons.mpr ⟨oo_St_sendRound_at_gl_2, List.forall_mem_cons.mpr ⟨oo_St_sendRound_at_gl_3, List.forall_mem_cons.mpr ⟨oo_St_sendRound_at_gl_4, List.forall_mem_cons.mpr ⟨oo_St_sendRound_at_gl_5, List.forall_mem_cons.mpr ⟨oo_St_sendRound_at_gl_6, List.forall_mem_cons.mpr ⟨oo_St_sendRound_at_gl_7, List.forall_mem_cons.mpr ⟨oo_St_sendRound_at_gl_8, List.forall_mem_cons.mpr ⟨oo_St_sendRound_at_gl_9, List.forall_mem_cons.mpr ⟨oo_St_sendRound_at_gl_10, List.forall_mem_cons.mpr ⟨oo_St_sendRound_at_gl_11, List.forall_mem_cons.mpr ⟨oo_St_sendRound_at_gl_12, List.forall_mem_cons.mpr ⟨oo_St_sendRound_at_gl_13, List.forall_mem_cons.mpr ⟨oo_St_sendRound_at_gl_14, List.forall_mem_nil _⟩⟩⟩⟩⟩⟩⟩⟩⟩⟩⟩⟩⟩⟩⟩) (by decide +kernel) ⟨List.forall_mem_cons.mpr ⟨gf_St_9, List.forall_mem_cons.mpr ⟨gf_St_18, List.forall_mem_cons.mpr ⟨gf_St_25, List.forall_mem_cons.mpr ⟨gf_St_34, List.forall_mem_nil _⟩⟩⟩⟩, List.forall_mem_nil _, List.forall_mem_cons.mpr ⟨cl_static (y := y_jMath_min1) c_jMath_min1_v47 wm_658 wm_10 wm_1361 wm_657 ⟨by decide, by decide, by decide +kernel⟩ (by decide), List.forall_mem_cons.mpr ⟨cl_static (y := y_jMath_min1) c_jMath_min1_v48 wm_658 wm_10 wm_1361 wm_657 ⟨by decide, by decide, by decide +kernel⟩ (by decide), List.forall_mem_nil _⟩⟩, List.forall_mem_cons.mpr ⟨kx_St_0_44, List.forall_mem_nil _⟩, List.forall_mem_nil _, GG_pl⟩ (by decide +kernel)

set_option maxHeartbeats 4000000 in
theorem vc_St_sendRound_at_gr_0_0 (x1 : Int) (x3 : Int) (from_0 : Int → Int) (by_0 : Int → Int) (k1 : 0 ≤ x1 ∧ x1 ≤ 71) (k3 : 0 ≤ x3 ∧ x3 ≤ 0) : SR1 (from_0) (by_0) (x1) (x1) (x3) := by
  first
    | exact sr1_start (by omega) (by omega)
    | (skip; exact sr1_step ‹SR1 _ _ _ _ _› rfl (by omega))
  
def o_St_sendRound_at_gr_0 : or_T := (8, 4, [(1, (0, 0, 71, [])), (3, (0, 0, 0, []))], [], [], [], [(20, [0, 1, 1, 3], [60, 0, 2, 513, 2, 7])], [], [])
theorem oo_St_sendRound_at_gr_0 {kA : Nat → ClassId} : or_ok PRD kA GG o_St_sendRound_at_gr_0 := by
  refine or_mk fun A ta ws vs hD hth hl => ?_
  intro t1 k1 t3 k3
  have nf0 : fc_1 PRD (20, [0, 1, 1, 3], [60, 0, 2, 513, 2, 7]) ws (vs) := ⟨nf_in hl rfl, sgq_907 (vc_St_sendRound_at_gr_0_0 (v_iv (n_v vs 1)) (v_iv (n_v vs 3)) (w_ei ws (w_ar ws (n_v vs 0) 2)) (w_ei ws (w_ar ws (n_v vs 0) 7)) k1 k3)⟩
  refine ⟨(fun _ h => (by cases h)), [], trivial, ?_, (fun _ h => (by cases h))⟩
  rw [List.append_nil]
  exact List.forall_mem_cons.mpr ⟨⟨show (20 : Nat) < 100 from by decide, nf0⟩, (fun _ h => (by cases h))⟩
set_option maxHeartbeats 4000000 in
theorem vc_St_sendRound_at_gr_1_0 (x1 : Int) (x3 : Int) (x4 : Int) (from_0 : Int → Int) (by_0 : Int → Int) (k1 : 0 ≤ x1 ∧ x1 ≤ 71) (k3 : 0 ≤ x3 ∧ x3 ≤ 71) (k4 : 0 ≤ x4 ∧ x4 ≤ 72) (f2 : SR1 (from_0) (by_0) (x1) (x3) (x4)) : SR2 (from_0) (by_0) (x1) (x3) := by
  first
    | exact sr2_of ‹SR1 _ _ _ _ _›
    | (skip; exact sr2_step (sr2_of ‹SR1 _ _ _ _ _›) rfl)
    | (skip; exact sr2_step ‹SR2 _ _ _ _› rfl)
  
def o_St_sendRound_at_gr_1 : or_T := (62, 7, [(1, (0, 0, 71, [])), (3, (0, 0, 71, [])), (4, (0, 0, 72, []))], [(20, [0, 1, 3, 4], [60, 0, 2, 513, 2, 7])], [], [], [(20, [0, 1, 3], [60, 0, 2, 514, 2, 7])], [], [])
theorem oo_St_sendRound_at_gr_1 {kA : Nat → ClassId} : or_ok PRD kA GG o_St_sendRound_at_gr_1 := by
  refine or_mk fun A ta ws vs hD hth hl => ?_
  intro t1 k1 t3 k3 t4 k4 f2
  have nf0 : fc_1 PRD (20, [0, 1, 3], [60, 0, 2, 514, 2, 7]) ws (vs) := ⟨nf_in hl rfl, sgq_909 (vc_St_sendRound_at_gr_1_0 (v_iv (n_v vs 1)) (v_iv (n_v vs 3)) (v_iv (n_v vs 4)) (w_ei ws (w_ar ws (n_v vs 0) 2)) (w_ei ws (w_ar ws (n_v vs 0) 7)) k1 k3 k4 (shm_908 f2))⟩
  refine ⟨(fun _ h => (by cases h)), [], trivial, ?_, (fun _ h => (by cases h))⟩
  rw [List.append_nil]
  exact List.forall_mem_cons.mpr ⟨⟨show (20 : Nat) < 100 from by decide, nf0⟩, (fun _ h => (by cases h))⟩
set_option maxHeartbeats 4000000 in
theorem vc_St_sendRound_at_gr_2_r0 (x1 : Int) (x3 : Int) (x4 : Int) (x8 : Int) (by_0 : Int → Int) (from_0 : Int → Int) (k1 : 0 ≤ x1 ∧ x1 ≤ 71) (k3 : 0 ≤ x3 ∧ x3 ≤ 71) (k4 : 0 ≤ x4 ∧ x4 ≤ 71) (k8 : (-1) ≤ x8 ∧ x8 ≤ 383) (h0 : x8 = by_0 (x3)) (f4 : SR1 (from_0) (by_0) (x1) (x3) (x4)) (f5 : RNG (from_0) (by_0) (x1)) : 0 ≤ x8 ∧ x8 ≤ 383 := by
  first
    | (have q := sr1_by ‹SR1 _ _ _ _ _› ‹RNG _ _ _›; skip; (first | subst h0 | skip); omega)
    | (have q := sr2_by ‹SR2 _ _ _ _› ‹RNG _ _ _›; skip; (first | subst h0 | skip); omega)
    | (have q := sr2_by ‹SR2 _ _ _ _› ‹RNG _ _ _›; skip; (first | subst h0 | skip); have e := xor_one (x := x13) (by assumption) (by omega) (by omega) (by omega) (by omega) (by omega); split at e <;> omega)
  
def o_St_sendRound_at_gr_2 : or_T := (28, 9, [(0, (2, 0, 0, [10])), (1, (0, 0, 71, [])), (3, (0, 0, 71, [])), (4, (0, 0, 71, [])), (5, (0, 1, 72, [])), (7, (2, 0, 0, [123])), (8, (0, -1, 383, []))], [(10, [8, 7, 3], []), (9, [7, 0], [7]), (7, [4, 5], [2]), (9, [5, 0], [0]), (20, [0, 1, 3, 4], [60, 0, 2, 513, 2, 7]), (20, [0, 1], [60, 0, 2, 509, 2, 7])], [(8, (0, 0, 383, []))], [], [], [], [(4, 5, -4294967296, -1)])
theorem oo_St_sendRound_at_gr_2 {kA : Nat → ClassId} : or_ok PRD kA GG o_St_sendRound_at_gr_2 := by
  refine or_mk fun A ta ws vs hD hth hl => ?_
  intro t0 r0 t1 k1 t3 k3 t4 k4 t5 k5 t7 r7 t8 k8 d0 f0 f1 f2 f3 f4 f5
  replace f0 := shm_106 f0
  replace f1 := shm_216 f1
  have ad_7 : v_ad (n_v vs 7) = w_ar ws (n_v vs 0) 7 := congrArg v_ad f1
  simp only [ad_7] at f0
  have h0 : v_iv (n_v vs 8) = w_ei ws (w_ar ws (n_v vs 0) 7) (v_iv (n_v vs 3)) := f0
  have hrf0 : 0 ≤ v_iv (n_v vs 8) ∧ v_iv (n_v vs 8) ≤ 383 := vc_St_sendRound_at_gr_2_r0 (v_iv (n_v vs 1)) (v_iv (n_v vs 3)) (v_iv (n_v vs 4)) (v_iv (n_v vs 8)) (w_ei ws (w_ar ws (n_v vs 0) 7)) (w_ei ws (w_ar ws (n_v vs 0) 2)) k1 k3 k4 k8 h0 (shm_908 f4) (shm_900 f5)
  have rf8 : tv_ok ta (0, 0, 383, []) (n_v vs 8) := tv_in t8 (by first | omega | grind) (by first | omega | grind)
  refine ⟨List.forall_mem_cons.mpr ⟨rf8, (fun _ h => (by cases h))⟩, [], trivial, ?_, (fun _ h => (by cases h))⟩
  rw [List.append_nil]
  exact (fun _ h => (by cases h))
set_option maxHeartbeats 4000000 in
theorem vc_St_sendRound_at_gr_3_r0 (x1 : Int) (x3 : Int) (x4 : Int) (x8 : Int) (x12 : Int) (by_0 : Int → Int) (from_0 : Int → Int) (k1 : 0 ≤ x1 ∧ x1 ≤ 71) (k3 : 0 ≤ x3 ∧ x3 ≤ 71) (k4 : 0 ≤ x4 ∧ x4 ≤ 71) (k8 : 0 ≤ x8 ∧ x8 ≤ 383) (k12 : (-1) ≤ x12 ∧ x12 ≤ 383) (h0 : x12 = by_0 (x3)) (h3 : x8 = by_0 (x3)) (f6 : SR1 (from_0) (by_0) (x1) (x3) (x4)) (f7 : RNG (from_0) (by_0) (x1)) : 0 ≤ x12 ∧ x12 ≤ 383 := by
  first
    | (have q := sr1_by ‹SR1 _ _ _ _ _› ‹RNG _ _ _›; skip; (first | subst h0 | skip); (first | subst h3 | skip); omega)
    | (have q := sr2_by ‹SR2 _ _ _ _› ‹RNG _ _ _›; skip; (first | subst h0 | skip); (first | subst h3 | skip); omega)
    | (have q := sr2_by ‹SR2 _ _ _ _› ‹RNG _ _ _›; skip; (first | subst h0 | skip); (first | subst h3 | skip); have e := xor_one (x := x13) (by assumption) (by omega) (by omega) (by omega) (by omega) (by omega); split at e <;> omega)
  
def o_St_sendRound_at_gr_3 : or_T := (43, 13, [(0, (2, 0, 0, [10])), (1, (0, 0, 71, [])), (3, (0, 0, 71, [])), (4, (0, 0, 71, [])), (5, (0, 1, 72, [])), (7, (2, 0, 0, [123])), (8, (0, 0, 383, [])), (11, (2, 0, 0, [118])), (12, (0, -1, 383, []))], [(10, [12, 7, 3], []), (9, [7, 0], [7]), (9, [11, 0], [2]), (10, [8, 7, 3], []), (7, [4, 5], [2]), (9, [5, 0], [0]), (20, [0, 1, 3, 4], [60, 0, 2, 513, 2, 7]), (20, [0, 1], [60, 0, 2, 509, 2, 7])], [(12, (0, 0, 383, []))], [], [], [], [(4, 5, -4294967296, -1)])
theorem oo_St_sendRound_at_gr_3 {kA : Nat → ClassId} : or_ok PRD kA GG o_St_sendRound_at_gr_3 := by
  refine or_mk fun A ta ws vs hD hth hl => ?_
  intro t0 r0 t1 k1 t3 k3 t4 k4 t5 k5 t7 r7 t8 k8 t11 r11 t12 k12 d0 f0 f1 f2 f3 f4 f5 f6 f7
  replace f0 := shm_106 f0
  replace f1 := shm_216 f1
  replace f3 := shm_106 f3
  have ad_7 : v_ad (n_v vs 7) = w_ar ws (n_v vs 0) 7 := congrArg v_ad f1
  simp only [ad_7] at f0
  have h0 : v_iv (n_v vs 12) = w_ei ws (w_ar ws (n_v vs 0) 7) (v_iv (n_v vs 3)) := f0
  simp only [ad_7] at f3
  have h3 : v_iv (n_v vs 8) = w_ei ws (w_ar ws (n_v vs 0) 7) (v_iv (n_v vs 3)) := f3
  have hrf0 : 0 ≤ v_iv (n_v vs 12) ∧ v_iv (n_v vs 12) ≤ 383 := vc_St_sendRound_at_gr_3_r0 (v_iv (n_v vs 1)) (v_iv (n_v vs 3)) (v_iv (n_v vs 4)) (v_iv (n_v vs 8)) (v_iv (n_v vs 12)) (w_ei ws (w_ar ws (n_v vs 0) 7)) (w_ei ws (w_ar ws (n_v vs 0) 2)) k1 k3 k4 k8 k12 h0 h3 (shm_908 f6) (shm_900 f7)
  have rf12 : tv_ok ta (0, 0, 383, []) (n_v vs 12) := tv_in t12 (by first | omega | grind) (by first | omega | grind)
  refine ⟨List.forall_mem_cons.mpr ⟨rf12, (fun _ h => (by cases h))⟩, [], trivial, ?_, (fun _ h => (by cases h))⟩
  rw [List.append_nil]
  exact (fun _ h => (by cases h))
set_option maxHeartbeats 4000000 in
theorem vc_St_sendRound_at_gr_4_0 (x1 : Int) (x3 : Int) (x4 : Int) (x8 : Int) (x12 : Int) (x13 : Int) (x14 : Int) (from_0 : Int → Int) (by_0 : Int → Int) (k1 : 0 ≤ x1 ∧ x1 ≤ 71) (k3 : 0 ≤ x3 ∧ x3 ≤ 71) (k4 : 0 ≤ x4 ∧ x4 ≤ 71) (k8 : 0 ≤ x8 ∧ x8 ≤ 383) (k12 : 0 ≤ x12 ∧ x12 ≤ 383) (k13 : 0 ≤ x13 ∧ x13 ≤ 71) (k14 : 1 ≤ x14 ∧ x14 ≤ 72) (f0 : x14 = x4 + 1) (h2 : x13 = from_0 (x12)) (h3 : x12 = by_0 (x3)) (h6 : x8 = by_0 (x3)) (f9 : SR1 (from_0) (by_0) (x1) (x3) (x4)) : SR1 (from_0) (by_0) (x1) (x13) (x14) := by
  first
    | exact sr1_start (by omega) (by omega)
    | (skip; (first | subst h2 | skip); (first | subst h3 | skip); (first | subst h6 | skip); exact sr1_step ‹SR1 _ _ _ _ _› rfl (by omega))
  
def o_St_sendRound_at_gr_4 : or_T := (8, 15, [(1, (0, 0, 71, [])), (3, (0, 0, 71, [])), (4, (0, 0, 71, [])), (8, (0, 0, 383, [])), (12, (0, 0, 383, [])), (13, (0, 0, 71, [])), (14, (0, 1, 72, []))], [(6, [14, 4], [1]), (10, [13, 11, 12], []), (10, [12, 7, 3], []), (9, [7, 0], [7]), (9, [11, 0], [2]), (10, [8, 7, 3], []), (20, [0, 1, 3, 4], [60, 0, 2, 513, 2, 7])], [], [], [(20, [0, 1, 13, 14], [60, 0, 2, 513, 2, 7])], [], [])
theorem oo_St_sendRound_at_gr_4 {kA : Nat → ClassId} : or_ok PRD kA GG o_St_sendRound_at_gr_4 := by
  refine or_mk fun A ta ws vs hD hth hl => ?_
  intro t1 k1 t3 k3 t4 k4 t8 k8 t12 k12 t13 k13 t14 k14 f0 f2 f3 f4 f5 f6 f9
  replace f2 := shm_106 f2
  replace f3 := shm_106 f3
  replace f4 := shm_216 f4
  replace f5 := shm_129 f5
  replace f6 := shm_106 f6
  have ad_7 : v_ad (n_v vs 7) = w_ar ws (n_v vs 0) 7 := congrArg v_ad f4
  have ad_11 : v_ad (n_v vs 11) = w_ar ws (n_v vs 0) 2 := congrArg v_ad f5
  simp only [ad_11] at f2
  have h2 : v_iv (n_v vs 13) = w_ei ws (w_ar ws (n_v vs 0) 2) (v_iv (n_v vs 12)) := f2
  simp only [ad_7] at f3
  have h3 : v_iv (n_v vs 12) = w_ei ws (w_ar ws (n_v vs 0) 7) (v_iv (n_v vs 3)) := f3
  simp only [ad_7] at f6
  have h6 : v_iv (n_v vs 8) = w_ei ws (w_ar ws (n_v vs 0) 7) (v_iv (n_v vs 3)) := f6
  have nf0 : fc_1 PRD (20, [0, 1, 13, 14], [60, 0, 2, 513, 2, 7]) ws (vs) := ⟨nf_in hl rfl, sgq_908 (vc_St_sendRound_at_gr_4_0 (v_iv (n_v vs 1)) (v_iv (n_v vs 3)) (v_iv (n_v vs 4)) (v_iv (n_v vs 8)) (v_iv (n_v vs 12)) (v_iv (n_v vs 13)) (v_iv (n_v vs 14)) (w_ei ws (w_ar ws (n_v vs 0) 2)) (w_ei ws (w_ar ws (n_v vs 0) 7)) k1 k3 k4 k8 k12 k13 k14 (shm_4 f0) h2 h3 h6 (shm_908 f9))⟩
  refine ⟨(fun _ h => (by cases h)), [], trivial, ?_, (fun _ h => (by cases h))⟩
  rw [List.append_nil]
  exact List.forall_mem_cons.mpr ⟨⟨show (20 : Nat) < 100 from by decide, nf0⟩, (fun _ h => (by cases h))⟩
set_option maxHeartbeats 4000000 in
theorem vc_St_sendRound_at_gr_5_0 (x1 : Int) (x3 : Int) (x4 : Int) (x8 : Int) (x12 : Int) (x13 : Int) (from_0 : Int → Int) (by_0 : Int → Int) (k1 : 0 ≤ x1 ∧ x1 ≤ 71) (k3 : 0 ≤ x3 ∧ x3 ≤ 71) (k4 : 0 ≤ x4 ∧ x4 ≤ 71) (k8 : 0 ≤ x8 ∧ x8 ≤ 383) (k12 : 0 ≤ x12 ∧ x12 ≤ 383) (k13 : 0 ≤ x13 ∧ x13 ≤ 71) (h1 : x13 = from_0 (x12)) (h2 : x12 = by_0 (x3)) (h5 : x8 = by_0 (x3)) (f8 : SR1 (from_0) (by_0) (x1) (x3) (x4)) : SR2 (from_0) (by_0) (x1) (x13) := by
  first
    | exact sr2_of ‹SR1 _ _ _ _ _›
    | (skip; (first | subst h1 | skip); (first | subst h2 | skip); (first | subst h5 | skip); exact sr2_step (sr2_of ‹SR1 _ _ _ _ _›) rfl)
    | (skip; (first | subst h1 | skip); (first | subst h2 | skip); (first | subst h5 | skip); exact sr2_step ‹SR2 _ _ _ _› rfl)
  
def o_St_sendRound_at_gr_5 : or_T := (62, 15, [(1, (0, 0, 71, [])), (3, (0, 0, 71, [])), (4, (0, 0, 71, [])), (8, (0, 0, 383, [])), (12, (0, 0, 383, [])), (13, (0, 0, 71, []))], [(10, [13, 11, 12], []), (10, [12, 7, 3], []), (9, [7, 0], [7]), (9, [11, 0], [2]), (10, [8, 7, 3], []), (20, [0, 1, 3, 4], [60, 0, 2, 513, 2, 7])], [], [], [(20, [0, 1, 13], [60, 0, 2, 514, 2, 7])], [], [])
theorem oo_St_sendRound_at_gr_5 {kA : Nat → ClassId} : or_ok PRD kA GG o_St_sendRound_at_gr_5 := by
  refine or_mk fun A ta ws vs hD hth hl => ?_
  intro t1 k1 t3 k3 t4 k4 t8 k8 t12 k12 t13 k13 f1 f2 f3 f4 f5 f8
  replace f1 := shm_106 f1
  replace f2 := shm_106 f2
  replace f3 := shm_216 f3
  replace f4 := shm_129 f4
  replace f5 := shm_106 f5
  have ad_7 : v_ad (n_v vs 7) = w_ar ws (n_v vs 0) 7 := congrArg v_ad f3
  have ad_11 : v_ad (n_v vs 11) = w_ar ws (n_v vs 0) 2 := congrArg v_ad f4
  simp only [ad_11] at f1
  have h1 : v_iv (n_v vs 13) = w_ei ws (w_ar ws (n_v vs 0) 2) (v_iv (n_v vs 12)) := f1
  simp only [ad_7] at f2
  have h2 : v_iv (n_v vs 12) = w_ei ws (w_ar ws (n_v vs 0) 7) (v_iv (n_v vs 3)) := f2
  simp only [ad_7] at f5
  have h5 : v_iv (n_v vs 8) = w_ei ws (w_ar ws (n_v vs 0) 7) (v_iv (n_v vs 3)) := f5
  have nf0 : fc_1 PRD (20, [0, 1, 13], [60, 0, 2, 514, 2, 7]) ws (vs) := ⟨nf_in hl rfl, sgq_909 (vc_St_sendRound_at_gr_5_0 (v_iv (n_v vs 1)) (v_iv (n_v vs 3)) (v_iv (n_v vs 4)) (v_iv (n_v vs 8)) (v_iv (n_v vs 12)) (v_iv (n_v vs 13)) (w_ei ws (w_ar ws (n_v vs 0) 2)) (w_ei ws (w_ar ws (n_v vs 0) 7)) k1 k3 k4 k8 k12 k13 h1 h2 h5 (shm_908 f8))⟩
  refine ⟨(fun _ h => (by cases h)), [], trivial, ?_, (fun _ h => (by cases h))⟩
  rw [List.append_nil]
  exact List.forall_mem_cons.mpr ⟨⟨show (20 : Nat) < 100 from by decide, nf0⟩, (fun _ h => (by cases h))⟩
set_option maxHeartbeats 4000000 in
theorem vc_St_sendRound_at_gr_6_r0 (x1 : Int) (x3 : Int) (x8 : Int) (by_0 : Int → Int) (from_0 : Int → Int) (k1 : 0 ≤ x1 ∧ x1 ≤ 71) (k3 : 0 ≤ x3 ∧ x3 ≤ 71) (k8 : (-1) ≤ x8 ∧ x8 ≤ 383) (h0 : x8 = by_0 (x3)) (f2 : SR2 (from_0) (by_0) (x1) (x3)) (f3 : RNG (from_0) (by_0) (x1)) : 0 ≤ x8 ∧ x8 ≤ 383 := by
  first
    | (have q := sr1_by ‹SR1 _ _ _ _ _› ‹RNG _ _ _›; skip; (first | subst h0 | skip); omega)
    | (have q := sr2_by ‹SR2 _ _ _ _› ‹RNG _ _ _›; skip; (first | subst h0 | skip); omega)
    | (have q := sr2_by ‹SR2 _ _ _ _› ‹RNG _ _ _›; skip; (first | subst h0 | skip); have e := xor_one (x := x13) (by assumption) (by omega) (by omega) (by omega) (by omega) (by omega); split at e <;> omega)
  
def o_St_sendRound_at_gr_6 : or_T := (81, 9, [(0, (2, 0, 0, [10])), (1, (0, 0, 71, [])), (3, (0, 0, 71, [])), (7, (2, 0, 0, [123])), (8, (0, -1, 383, []))], [(10, [8, 7, 3], []), (9, [7, 0], [7]), (20, [0, 1, 3], [60, 0, 2, 514, 2, 7]), (20, [0, 1], [60, 0, 2, 509, 2, 7])], [(8, (0, 0, 383, []))], [], [], [], [])
theorem oo_St_sendRound_at_gr_6 {kA : Nat → ClassId} : or_ok PRD kA GG o_St_sendRound_at_gr_6 := by
  refine or_mk fun A ta ws vs hD hth hl => ?_
  intro t0 r0 t1 k1 t3 k3 t7 r7 t8 k8 f0 f1 f2 f3
  replace f0 := shm_106 f0
  replace f1 := shm_216 f1
  have ad_7 : v_ad (n_v vs 7) = w_ar ws (n_v vs 0) 7 := congrArg v_ad f1
  simp only [ad_7] at f0
  have h0 : v_iv (n_v vs 8) = w_ei ws (w_ar ws (n_v vs 0) 7) (v_iv (n_v vs 3)) := f0
  have hrf0 : 0 ≤ v_iv (n_v vs 8) ∧ v_iv (n_v vs 8) ≤ 383 := vc_St_sendRound_at_gr_6_r0 (v_iv (n_v vs 1)) (v_iv (n_v vs 3)) (v_iv (n_v vs 8)) (w_ei ws (w_ar ws (n_v vs 0) 7)) (w_ei ws (w_ar ws (n_v vs 0) 2)) k1 k3 k8 h0 (shm_909 f2) (shm_900 f3)
  have rf8 : tv_ok ta (0, 0, 383, []) (n_v vs 8) := tv_in t8 (by first | omega | grind) (by first | omega | grind)
  refine ⟨List.forall_mem_cons.mpr ⟨rf8, (fun _ h => (by cases h))⟩, [], trivial, ?_, (fun _ h => (by cases h))⟩
  rw [List.append_nil]
  exact (fun _ h => (by cases h))
set_option maxHeartbeats 4000000 in
theorem vc_St_sendRound_at_gr_7_r0 (x1 : Int) (x3 : Int) (x8 : Int) (x11 : Int) (x12 : Int) (x13 : Int) (by_0 : Int → Int) (from_0 : Int → Int) (by_1 : Int → Int) (from_1 : Int → Int) (k1 : 0 ≤ x1 ∧ x1 ≤ 71) (k3 : 0 ≤ x3 ∧ x3 ≤ 71) (k8 : 0 ≤ x8 ∧ x8 ≤ 383) (k11 : (-1) ≤ x11 ∧ x11 ≤ 383) (k12 : 1 ≤ x12 ∧ x12 ≤ 1) (k13 : (-2147483648) ≤ x13 ∧ x13 ≤ 2147483647) (f0 : bvp (x13) = bvp (x11) ^^^ bvp (x12)) (h1 : x11 = by_0 (x3)) (h7 : x8 = by_1 (x3)) (f8 : SR2 (from_1) (by_1) (x1) (x3)) (f9 : RNG (from_1) (by_1) (x1)) (hE_0_2_1 : ∀ j : Int, from_0 j = from_1 j) (hE_0_7_1 : ∀ j : Int, by_0 j = by_1 j) : 0 ≤ x13 ∧ x13 ≤ 383 := by
  have e_hE_0_2_1 := funext hE_0_2_1; subst e_hE_0_2_1
  have e_hE_0_7_1 := funext hE_0_7_1; subst e_hE_0_7_1
  first
    | (have q := sr1_by ‹SR1 _ _ _ _ _› ‹RNG _ _ _›; skip; (first | subst h1 | skip); (first | subst h7 | skip); omega)
    | (have q := sr2_by ‹SR2 _ _ _ _› ‹RNG _ _ _›; skip; (first | subst h1 | skip); (first | subst h7 | skip); omega)
    | (have q := sr2_by ‹SR2 _ _ _ _› ‹RNG _ _ _›; skip; (first | subst h1 | skip); (first | subst h7 | skip); have e := xor_one (x := x13) (by assumption) (by omega) (by omega) (by omega) (by omega) (by omega); split at e <;> omega)
  
def o_St_sendRound_at_gr_7 : or_T := (98, 14, [(0, (2, 0, 0, [10])), (1, (0, 0, 71, [])), (3, (0, 0, 71, [])), (6, (2, 0, 0, [120])), (7, (2, 0, 0, [123])), (8, (0, 0, 383, [])), (11, (0, -1, 383, [])), (12, (0, 1, 1, [])), (13, (0, -2147483648, 2147483647, []))], [(16, [13, 11, 12], [2]), (10, [11, 7, 3], []), (9, [7, 0], [7]), (9, [6, 0], [4]), (20, [0, 1, 3], [60, 0, 2, 514, 2, 7]), (20, [0, 1], [60, 0, 2, 509, 2, 7]), (100, [6, 8, 10], []), (10, [8, 7, 3], []), (20, [0, 1, 3], [60, 0, 2, 514, 2, 7]), (20, [0, 1], [60, 0, 2, 509, 2, 7])], [(13, (0, 0, 383, []))], [], [], [], [])
theorem oo_St_sendRound_at_gr_7 {kA : Nat → ClassId} : or_ok PRD kA GG o_St_sendRound_at_gr_7 := by
  refine or_mk fun A ta ws vs hD hth hl => ?_
  intro t0 r0 t1 k1 t3 k3 t6 r6 t7 r7 t8 k8 t11 k11 t12 k12 t13 k13 f0 f1 f2 f3 f4 f5 ta1 w1 le1 s1 f7 f8 f9
  replace f1 := shm_106 f1
  replace f2 := shm_216 f2
  have s1 : (∀ b j, w_el ws b j = if b = v_ad (n_v vs 6) ∧ j = (v_iv (n_v vs 8)).toNat then v_iv (n_v vs 10) else w_el w1 b j) ∧ ∀ b k, w_fd ws b k = w_fd w1 b k := s1.2
  replace f7 := shm_106 f7
  replace f8 := shm_909 f8
  replace f9 := shm_900 f9
  have ar_0_2_1 : w_ar w1 (n_v vs 0) 2 = w_ar ws (n_v vs 0) 2 := congrArg v_ad (s1.2 _ _).symm
  have cr_0_2 := fdq_107 hD hth r0
  have ar_0_7_1 : w_ar w1 (n_v vs 0) 7 = w_ar ws (n_v vs 0) 7 := congrArg v_ad (s1.2 _ _).symm
  have cr_0_7 := fdq_115 hD hth r0
  have ad_7 : v_ad (n_v vs 7) = w_ar ws (n_v vs 0) 7 := congrArg v_ad f2
  simp only [ad_7] at f1
  have h1 : v_iv (n_v vs 11) = w_ei ws (w_ar ws (n_v vs 0) 7) (v_iv (n_v vs 3)) := f1
  simp only [ad_7] at f7
  have h7 : v_iv (n_v vs 8) = w_ei w1 (w_ar ws (n_v vs 0) 7) (v_iv (n_v vs 3)) := f7
  simp only [ar_0_2_1, ar_0_7_1] at f8 f9
  have hE_0_2_1 : ∀ j : Int, w_ei ws (w_ar ws (n_v vs 0) 2) j = w_ei w1 (w_ar ws (n_v vs 0) 2) j := el_kp s1.1 r6 cr_0_2 (by decide)
  have hE_0_7_1 : ∀ j : Int, w_ei ws (w_ar ws (n_v vs 0) 7) j = w_ei w1 (w_ar ws (n_v vs 0) 7) j := el_kp s1.1 r6 cr_0_7 (by decide)
  have hrf0 : 0 ≤ v_iv (n_v vs 13) ∧ v_iv (n_v vs 13) ≤ 383 := vc_St_sendRound_at_gr_7_r0 (v_iv (n_v vs 1)) (v_iv (n_v vs 3)) (v_iv (n_v vs 8)) (v_iv (n_v vs 11)) (v_iv (n_v vs 12)) (v_iv (n_v vs 13)) (w_ei ws (w_ar ws (n_v vs 0) 7)) (w_ei ws (w_ar ws (n_v vs 0) 2)) (w_ei w1 (w_ar ws (n_v vs 0) 7)) (w_ei w1 (w_ar ws (n_v vs 0) 2)) k1 k3 k8 k11 k12 k13 (shm_33 f0) h1 h7 f8 f9 hE_0_2_1 hE_0_7_1
  have rf13 : tv_ok ta (0, 0, 383, []) (n_v vs 13) := tv_in t13 (by first | omega | grind) (by first | omega | grind)
  refine ⟨List.forall_mem_cons.mpr ⟨rf13, (fun _ h => (by cases h))⟩, [], trivial, ?_, (fun _ h => (by cases h))⟩
  rw [List.append_nil]
  exact (fun _ h => (by cases h))
set_option maxHeartbeats 4000000 in
theorem vc_St_sendRound_at_gr_8_r0 (x1 : Int) (x3 : Int) (x8 : Int) (x11 : Int) (x13 : Int) (x17 : Int) (by_0 : Int → Int) (from_0 : Int → Int) (by_1 : Int → Int) (from_1 : Int → Int) (by_2 : Int → Int) (from_2 : Int → Int) (k1 : 0 ≤ x1 ∧ x1 ≤ 71) (k3 : 0 ≤ x3 ∧ x3 ≤ 71) (k8 : 0 ≤ x8 ∧ x8 ≤ 383) (k11 : (-1) ≤ x11 ∧ x11 ≤ 383) (k17 : (-1) ≤ x17 ∧ x17 ≤ 383) (h0 : x17 = by_0 (x3)) (h7 : x11 = by_1 (x3)) (h12 : x8 = by_2 (x3)) (f13 : SR2 (from_2) (by_2) (x1) (x3)) (f14 : RNG (from_2) (by_2) (x1)) (hE_0_2_1 : ∀ j : Int, from_0 j = from_1 j) (hE_0_2_2 : ∀ j : Int, from_1 j = from_2 j) (hE_0_7_1 : ∀ j : Int, by_0 j = by_1 j) (hE_0_7_2 : ∀ j : Int, by_1 j = by_2 j) : 0 ≤ x17 ∧ x17 ≤ 383 := by
  have e_hE_0_2_1 := funext hE_0_2_1; subst e_hE_0_2_1
  have e_hE_0_2_2 := funext hE_0_2_2; subst e_hE_0_2_2
  have e_hE_0_7_1 := funext hE_0_7_1; subst e_hE_0_7_1
  have e_hE_0_7_2 := funext hE_0_7_2; subst e_hE_0_7_2
  first
    | (have q := sr1_by ‹SR1 _ _ _ _ _› ‹RNG _ _ _›; skip; (first | subst h0 | skip); (first | subst h7 | skip); (first | subst h12 | skip); omega)
    | (have q := sr2_by ‹SR2 _ _ _ _› ‹RNG _ _ _›; skip; (first | subst h0 | skip); (first | subst h7 | skip); (first | subst h12 | skip); omega)
    | (have q := sr2_by ‹SR2 _ _ _ _› ‹RNG _ _ _›; skip; (first | subst h0 | skip); (first | subst h7 | skip); (first | subst h12 | skip); have e := xor_one (x := x13) (by assumption) (by omega) (by omega) (by omega) (by omega) (by omega); split at e <;> omega)
  
def o_St_sendRound_at_gr_8 : or_T := (113, 18, [(0, (2, 0, 0, [10])), (1, (0, 0, 71, [])), (3, (0, 0, 71, [])), (6, (2, 0, 0, [120])), (7, (2, 0, 0, [123])), (8, (0, 0, 383, [])), (11, (0, -1, 383, [])), (12, (0, 1, 1, [])), (13, (0, 0, 383, [])), (16, (2, 0, 0, [118])), (17, (0, -1, 383, []))], [(10, [17, 7, 3], []), (9, [7, 0], [7]), (9, [16, 0], [2]), (20, [0, 1, 3], [60, 0, 2, 514, 2, 7]), (20, [0, 1], [60, 0, 2, 509, 2, 7]), (100, [6, 13, 15], []), (16, [13, 11, 12], [2]), (10, [11, 7, 3], []), (9, [6, 0], [4]), (20, [0, 1, 3], [60, 0, 2, 514, 2, 7]), (20, [0, 1], [60, 0, 2, 509, 2, 7]), (100, [6, 8, 10], []), (10, [8, 7, 3], []), (20, [0, 1, 3], [60, 0, 2, 514, 2, 7]), (20, [0, 1], [60, 0, 2, 509, 2, 7])], [(17, (0, 0, 383, []))], [], [], [], [])
theorem oo_St_sendRound_at_gr_8 {kA : Nat → ClassId} : or_ok PRD kA GG o_St_sendRound_at_gr_8 := by
  refine or_mk fun A ta ws vs hD hth hl => ?_
  intro t0 r0 t1 k1 t3 k3 t6 r6 t7 r7 t8 k8 t11 k11 t12 k12 t13 k13 t16 r16 t17 k17 f0 f1 f2 f3 f4 ta1 w1 le1 s1 f6 f7 f8 f9 f10 ta2 w2 le2 s2 f12 f13 f14
  replace f0 := shm_106 f0
  replace f1 := shm_216 f1
  have s1 : (∀ b j, w_el ws b j = if b = v_ad (n_v vs 6) ∧ j = (v_iv (n_v vs 13)).toNat then v_iv (n_v vs 15) else w_el w1 b j) ∧ ∀ b k, w_fd ws b k = w_fd w1 b k := s1.2
  replace f7 := shm_106 f7
  have s2 : (∀ b j, w_el w1 b j = if b = v_ad (n_v vs 6) ∧ j = (v_iv (n_v vs 8)).toNat then v_iv (n_v vs 10) else w_el w2 b j) ∧ ∀ b k, w_fd w1 b k = w_fd w2 b k := s2.2
  replace f12 := shm_106 f12
  replace f13 := shm_909 f13
  replace f14 := shm_900 f14
  have ar_0_2_1 : w_ar w1 (n_v vs 0) 2 = w_ar ws (n_v vs 0) 2 := congrArg v_ad (s1.2 _ _).symm
  have ar_0_2_2 : w_ar w2 (n_v vs 0) 2 = w_ar ws (n_v vs 0) 2 := by rw [← ar_0_2_1]; show v_ad (w_fd w2 _ _) = v_ad (w_fd w1 _ _); rw [s2.2]
  have cr_0_2 := fdq_107 hD hth r0
  have ar_0_7_1 : w_ar w1 (n_v vs 0) 7 = w_ar ws (n_v vs 0) 7 := congrArg v_ad (s1.2 _ _).symm
  have ar_0_7_2 : w_ar w2 (n_v vs 0) 7 = w_ar ws (n_v vs 0) 7 := by rw [← ar_0_7_1]; show v_ad (w_fd w2 _ _) = v_ad (w_fd w1 _ _); rw [s2.2]
  have cr_0_7 := fdq_115 hD hth r0
  have ad_7 : v_ad (n_v vs 7) = w_ar ws (n_v vs 0) 7 := congrArg v_ad f1
  simp only [ad_7] at f0
  have h0 : v_iv (n_v vs 17) = w_ei ws (w_ar ws (n_v vs 0) 7) (v_iv (n_v vs 3)) := f0
  simp only [ad_7] at f7
  have h7 : v_iv (n_v vs 11) = w_ei w1 (w_ar ws (n_v vs 0) 7) (v_iv (n_v vs 3)) := f7
  simp only [ar_0_2_1, ar_0_7_1, ad_7] at f12
  have h12 : v_iv (n_v vs 8) = w_ei w2 (w_ar ws (n_v vs 0) 7) (v_iv (n_v vs 3)) := f12
  simp only [ar_0_2_2, ar_0_7_2] at f13 f14
  have hE_0_2_1 : ∀ j : Int, w_ei ws (w_ar ws (n_v vs 0) 2) j = w_ei w1 (w_ar ws (n_v vs 0) 2) j := el_kp s1.1 r6 cr_0_2 (by decide)
  have hE_0_2_2 : ∀ j : Int, w_ei w1 (w_ar ws (n_v vs 0) 2) j = w_ei w2 (w_ar ws (n_v vs 0) 2) j := el_kp s2.1 r6 cr_0_2 (by decide)
  have hE_0_7_1 : ∀ j : Int, w_ei ws (w_ar ws (n_v vs 0) 7) j = w_ei w1 (w_ar ws (n_v vs 0) 7) j := el_kp s1.1 r6 cr_0_7 (by decide)
  have hE_0_7_2 : ∀ j : Int, w_ei w1 (w_ar ws (n_v vs 0) 7) j = w_ei w2 (w_ar ws (n_v vs 0) 7) j := el_kp s2.1 r6 cr_0_7 (by decide)
  have hrf0 : 0 ≤ v_iv (n_v vs 17) ∧ v_iv (n_v vs 17) ≤ 383 := vc_St_sendRound_at_gr_8_r0 (v_iv (n_v vs 1)) (v_iv (n_v vs 3)) (v_iv (n_v vs 8)) (v_iv (n_v vs 11)) (v_iv (n_v vs 13)) (v_iv (n_v vs 17)) (w_ei ws (w_ar ws (n_v vs 0) 7)) (w_ei ws (w_ar ws (n_v vs 0) 2)) (w_ei w1 (w_ar ws (n_v vs 0) 7)) (w_ei w1 (w_ar ws (n_v vs 0) 2)) (w_ei w2 (w_ar ws (n_v vs 0) 7)) (w_ei w2 (w_ar ws (n_v vs 0) 2)) k1 k3 k8 k11 k17 h0 h7 h12 f13 f14 hE_0_2_1 hE_0_2_2 hE_0_7_1 hE_0_7_2
  have rf17 : tv_ok ta (0, 0, 383, []) (n_v vs 17) := tv_in t17 (by first | omega | grind) (by first | omega | grind)
  refine ⟨List.forall_mem_cons.mpr ⟨rf17, (fun _ h => (by cases h))⟩, [], trivial, ?_, (fun _ h => (by cases h))⟩
  rw [List.append_nil]
  exact (fun _ h => (by cases h))
set_option maxHeartbeats 4000000 in
theorem vc_St_sendRound_at_gr_9_0 (x1 : Int) (x3 : Int) (x8 : Int) (x11 : Int) (x17 : Int) (x18 : Int) (from_0 : Int → Int) (by_0 : Int → Int) (by_1 : Int → Int) (from_1 : Int → Int) (by_2 : Int → Int) (from_2 : Int → Int) (k1 : 0 ≤ x1 ∧ x1 ≤ 71) (k3 : 0 ≤ x3 ∧ x3 ≤ 71) (k8 : 0 ≤ x8 ∧ x8 ≤ 383) (k11 : (-1) ≤ x11 ∧ x11 ≤ 383) (k17 : 0 ≤ x17 ∧ x17 ≤ 383) (k18 : 0 ≤ x18 ∧ x18 ≤ 71) (h1 : x18 = from_0 (x17)) (h2 : x17 = by_0 (x3)) (h9 : x11 = by_1 (x3)) (h14 : x8 = by_2 (x3)) (f15 : SR2 (from_2) (by_2) (x1) (x3)) (hE_0_2_1 : ∀ j : Int, from_0 j = from_1 j) (hE_0_2_2 : ∀ j : Int, from_1 j = from_2 j) (hE_0_7_1 : ∀ j : Int, by_0 j = by_1 j) (hE_0_7_2 : ∀ j : Int, by_1 j = by_2 j) : SR2 (from_0) (by_0) (x1) (x18) := by
  have e_hE_0_2_1 := funext hE_0_2_1; subst e_hE_0_2_1
  have e_hE_0_2_2 := funext hE_0_2_2; subst e_hE_0_2_2
  have e_hE_0_7_1 := funext hE_0_7_1; subst e_hE_0_7_1
  have e_hE_0_7_2 := funext hE_0_7_2; subst e_hE_0_7_2
  first
    | exact sr2_of ‹SR1 _ _ _ _ _›
    | (skip; (first | subst h1 | skip); (first | subst h2 | skip); (first | subst h9 | skip); (first | subst h14 | skip); exact sr2_step (sr2_of ‹SR1 _ _ _ _ _›) rfl)
    | (skip; (first | subst h1 | skip); (first | subst h2 | skip); (first | subst h9 | skip); (first | subst h14 | skip); exact sr2_step ‹SR2 _ _ _ _› rfl)
  
def o_St_sendRound_at_gr_9 : or_T := (62, 20, [(0, (2, 0, 0, [10])), (1, (0, 0, 71, [])), (3, (0, 0, 71, [])), (6, (2, 0, 0, [120])), (8, (0, 0, 383, [])), (11, (0, -1, 383, [])), (17, (0, 0, 383, [])), (18, (0, 0, 71, []))], [(10, [18, 16, 17], []), (10, [17, 7, 3], []), (9, [7, 0], [7]), (9, [16, 0], [2]), (100, [6, 13, 15], []), (10, [11, 7, 3], []), (100, [6, 8, 10], []), (10, [8, 7, 3], []), (20, [0, 1, 3], [60, 0, 2, 514, 2, 7])], [], [], [(20, [0, 1, 18], [60, 0, 2, 514, 2, 7])], [], [])
theorem oo_St_sendRound_at_gr_9 {kA : Nat → ClassId} : or_ok PRD kA GG o_St_sendRound_at_gr_9 := by
  refine or_mk fun A ta ws vs hD hth hl => ?_
  intro t0 r0 t1 k1 t3 k3 t6 r6 t8 k8 t11 k11 t17 k17 t18 k18 f1 f2 f3 f4 ta1 w1 le1 s1 f9 ta2 w2 le2 s2 f14 f15
  replace f1 := shm_106 f1
  replace f2 := shm_106 f2
  replace f3 := shm_216 f3
  replace f4 := shm_129 f4
  have s1 : (∀ b j, w_el ws b j = if b = v_ad (n_v vs 6) ∧ j = (v_iv (n_v vs 13)).toNat then v_iv (n_v vs 15) else w_el w1 b j) ∧ ∀ b k, w_fd ws b k = w_fd w1 b k := s1.2
  replace f9 := shm_106 f9
  have s2 : (∀ b j, w_el w1 b j = if b = v_ad (n_v vs 6) ∧ j = (v_iv (n_v vs 8)).toNat then v_iv (n_v vs 10) else w_el w2 b j) ∧ ∀ b k, w_fd w1 b k = w_fd w2 b k := s2.2
  replace f14 := shm_106 f14
  replace f15 := shm_909 f15
  have ar_0_2_1 : w_ar w1 (n_v vs 0) 2 = w_ar ws (n_v vs 0) 2 := congrArg v_ad (s1.2 _ _).symm
  have ar_0_2_2 : w_ar w2 (n_v vs 0) 2 = w_ar ws (n_v vs 0) 2 := by rw [← ar_0_2_1]; show v_ad (w_fd w2 _ _) = v_ad (w_fd w1 _ _); rw [s2.2]
  have cr_0_2 := fdq_107 hD hth r0
  have ar_0_7_1 : w_ar w1 (n_v vs 0) 7 = w_ar ws (n_v vs 0) 7 := congrArg v_ad (s1.2 _ _).symm
  have ar_0_7_2 : w_ar w2 (n_v vs 0) 7 = w_ar ws (n_v vs 0) 7 := by rw [← ar_0_7_1]; show v_ad (w_fd w2 _ _) = v_ad (w_fd w1 _ _); rw [s2.2]
  have cr_0_7 := fdq_115 hD hth r0
  have ad_7 : v_ad (n_v vs 7) = w_ar ws (n_v vs 0) 7 := congrArg v_ad f3
  have ad_16 : v_ad (n_v vs 16) = w_ar ws (n_v vs 0) 2 := congrArg v_ad f4
  simp only [ad_16] at f1
  have h1 : v_iv (n_v vs 18) = w_ei ws (w_ar ws (n_v vs 0) 2) (v_iv (n_v vs 17)) := f1
  simp only [ad_7] at f2
  have h2 : v_iv (n_v vs 17) = w_ei ws (w_ar ws (n_v vs 0) 7) (v_iv (n_v vs 3)) := f2
  simp only [ad_7] at f9
  have h9 : v_iv (n_v vs 11) = w_ei w1 (w_ar ws (n_v vs 0) 7) (v_iv (n_v vs 3)) := f9
  simp only [ar_0_2_1, ar_0_7_1, ad_7] at f14
  have h14 : v_iv (n_v vs 8) = w_ei w2 (w_ar ws (n_v vs 0) 7) (v_iv (n_v vs 3)) := f14
  simp only [ar_0_2_2, ar_0_7_2] at f15
  have hE_0_2_1 : ∀ j : Int, w_ei ws (w_ar ws (n_v vs 0) 2) j = w_ei w1 (w_ar ws (n_v vs 0) 2) j := el_kp s1.1 r6 cr_0_2 (by decide)
  have hE_0_2_2 : ∀ j : Int, w_ei w1 (w_ar ws (n_v vs 0) 2) j = w_ei w2 (w_ar ws (n_v vs 0) 2) j := el_kp s2.1 r6 cr_0_2 (by decide)
  have hE_0_7_1 : ∀ j : Int, w_ei ws (w_ar ws (n_v vs 0) 7) j = w_ei w1 (w_ar ws (n_v vs 0) 7) j := el_kp s1.1 r6 cr_0_7 (by decide)
  have hE_0_7_2 : ∀ j : Int, w_ei w1 (w_ar ws (n_v vs 0) 7) j = w_ei w2 (w_ar ws (n_v vs 0) 7) j := el_kp s2.1 r6 cr_0_7 (by decide)
  have nf0 : fc_1 PRD (20, [0, 1, 18], [60, 0, 2, 514, 2, 7]) ws (vs) := ⟨nf_in hl rfl, sgq_909 (vc_St_sendRound_at_gr_9_0 (v_iv (n_v vs 1)) (v_iv (n_v vs 3)) (v_iv (n_v vs 8)) (v_iv (n_v vs 11)) (v_iv (n_v vs 17)) (v_iv (n_v vs 18)) (w_ei ws (w_ar ws (n_v vs 0) 2)) (w_ei ws (w_ar ws (n_v vs 0) 7)) (w_ei w1 (w_ar ws (n_v vs 0) 7)) (w_ei w1 (w_ar ws (n_v vs 0) 2)) (w_ei w2 (w_ar ws (n_v vs 0) 7)) (w_ei w2 (w_ar ws (n_v vs 0) 2)) k1 k3 k8 k11 k17 k18 h1 h2 h9 h14 f15 hE_0_2_1 hE_0_2_2 hE_0_7_1 hE_0_7_2)⟩
  refine ⟨(fun _ h => (by cases h)), [], trivial, ?_, (fun _ h => (by cases h))⟩
  rw [List.append_nil]
  exact List.forall_mem_cons.mpr ⟨⟨show (20 : Nat) < 100 from by decide, nf0⟩, (fun _ h => (by cases h))⟩
def n_St_sendRound_at_gr_an : List an_T := [(8, [(0, (2, 0, 0, [10])), (1, (0, 0, 71, [])), (2, (0, (Int.negSucc 2147483647), 1000000000, [])), (3, (0, 0, 71, [])), (4, (0, 0, 72, []))], [], (0, 0), [(0, 0, 99992), (1, 4, 72), (0, 0, 100000)], [], [], [], 0, [], [(20, [0, 1, 3, 4], [60, 0, 2, 513, 2, 7]), (20, [0, 1], [60, 0, 2, 509, 2, 7])]), (62, [(0, (2, 0, 0, [10])), (1, (0, 0, 71, [])), (2, (0, (Int.negSucc 2147483647), 1000000000, [])), (3, (0, 0, 71, [])), (4, (0, 0, 72, []))], [], (0, 0), [(0, 0, 99938), (1, 4, 72), (0, 0, 100000)], [], [], [], 0, [], [(20, [0, 1, 3], [60, 0, 2, 514, 2, 7]), (20, [0, 1], [60, 0, 2, 509, 2, 7])])]
def t_St_sendRound_at_gr_ct : ct_L := [(90, 67, e_jMath_min1_v49), (90, 67, e_jMath_min1_v50)]
set_option maxRecDepth 100000 in
theorem c_St_sendRound_at_gr {l : Launch} {D : va_G} {kA : Nat → ClassId} : ct_ok PRD l D kA GG y_St_sendRound_at_gr z_St_sendRound_at_gr e_St_sendRound_at_gr := chk_all_ok (FT := [(9, 10, 0), (18, 10, 2), (25, 10, 4), (34, 10, 7)]) (PT := []) (CT := t_St_sendRound_at_gr_ct) (KT := [(0, 44, .int (1000000000), (0, 1000000000, 1000000000, []))]) (NT := []) (AN := n_St_sendRound_at_gr_an) (OT := [o_St_sendRound_at_gr_0, o_St_sendRound_at_gr_1, o_St_sendRound_at_gr_2, o_St_sendRound_at_gr_3, o_St_sendRound_at_gr_4, o_St_sendRound_at_gr_5, o_St_sendRound_at_gr_6, o_St_sendRound_at_gr_7, o_St_sendRound_at_gr_8, o_St_sendRound_at_gr_9]) 3 328 (List.forall_mem_cons.mpr ⟨oo_St_sendRound_at_gr_0, List.forall_mem_cons.mpr ⟨oo_St_sendRound_at_gr_1, List.forall_mem_cons.mpr ⟨oo_St_sendRound_at_gr_2, List.forall_mem_cons.mpr ⟨oo_St_sendRound_at_gr_3, List.forall_mem_cons.mpr ⟨oo_St_sendRound_at_gr_4, List.forall_mem_cons.mpr ⟨oo_St_sendRound_at_gr_5, List.forall_mem_cons.mpr ⟨oo_St_sendRound_at_gr_6, List.forall_mem_cons.mpr ⟨oo_St_sendRound_at_gr_7, List.forall_mem_cons.mpr ⟨oo_St_sendRound_at_gr_8, List.forall_mem_cons.mpr ⟨oo_St_sendRound_at_gr_9, List.forall_mem_nil _⟩⟩⟩⟩⟩⟩⟩⟩⟩⟩) (by decide +kernel) ⟨List.forall_mem_cons.mpr ⟨gf_St_9, List.forall_mem_cons.mpr ⟨gf_St_18, List.forall_mem_cons.mpr ⟨gf_St_25, List.forall_mem_cons.mpr ⟨gf_St_34, List.forall_mem_nil _⟩⟩⟩⟩, List.forall_mem_nil _, List.forall_mem_cons.mpr ⟨cl_static (y := y_jMath_min1) c_jMath_min1_v49 wm_658 wm_10 wm_1361 wm_657 ⟨by decide, by decide, by decide +kernel⟩ (by decide), List.forall_mem_cons.mpr ⟨cl_static (y := y_jMath_min1) c_jMath_min1_v50 wm_658 wm_10 wm_1361 wm_657 ⟨by decide, by decide, by decide +kernel⟩ (by decide), List.forall_mem_nil _⟩⟩, List.forall_mem_cons.mpr ⟨kx_St_0_44, List.forall_mem_nil _⟩, List.forall_mem_nil _, GG_pl⟩ (by decide +kernel)
set_option maxHeartbeats 4000000 in
theorem vc_Mo_apartNode_0_0 (x1 : Int) (pn_0 : Int) (k1 : 0 ≤ x1 ∧ x1 ≤ 0) (f1 : 1 ≤ pn_0) (kz_0_31 : 0 ≤ pn_0 ∧ pn_0 ≤ 25) : 1 * x1 + ((-1) * pn_0 + 0) ≤ (-1) := by
  omega
def o_Mo_apartNode_0 : or_T := (3, 3, [(0, (2, 0, 0, [165])), (1, (0, 0, 0, []))], [(20, [0], [50, 1, 0, 31, 0, 2, 0, 1, 2, 0, 31])], [], [], [(20, [1, 0], [30, -1, 1, 0, 0, -1, 1, 31])], [], [])
theorem oo_Mo_apartNode_0 {kA : Nat → ClassId} : or_ok PRD kA GG o_Mo_apartNode_0 := by
  refine or_mk fun A ta ws vs hD hth hl => ?_
  intro t0 r0 t1 k1 f1
  have kz_0_31 := fdq_144 hD hth r0
  have nf0 : fc_1 PRD (20, [1, 0], [30, -1, 1, 0, 0, -1, 1, 31]) ws (vs) := ⟨nf_in hl rfl, sgq_545 (vc_Mo_apartNode_0_0 (v_iv (n_v vs 1)) (w_fi ws (n_v vs 0) 31) k1 (shm_910 f1) kz_0_31)⟩
  refine ⟨(fun _ h => (by cases h)), [], trivial, ?_, (fun _ h => (by cases h))⟩
  rw [List.append_nil]
  exact List.forall_mem_cons.mpr ⟨⟨show (20 : Nat) < 100 from by decide, nf0⟩, (fun _ h => (by cases h))⟩
set_option maxHeartbeats 4000000 in
theorem vc_Mo_apartNode_1_0 (x1 : Int) (x2 : Int) (x3 : Int) (pn_0 : Int) (pt_0 : Int → Int) (ph_0 : Int → Int) (pm_0 : Int) (alive_0 : Int → Int) (seen_0 : Int → Int) (k1 : 0 ≤ x1 ∧ x1 ≤ 0) (k2 : (-1) ≤ x2 ∧ x2 ≤ (-1)) (k3 : 0 ≤ x3 ∧ x3 ≤ 0) (f3 : FLD (pn_0) (pm_0) (pt_0) (ph_0) (alive_0) (seen_0) (x1) (x2)) (kz_0_31 : 0 ≤ pn_0 ∧ pn_0 ≤ 25) (kz_0_32 : 0 ≤ pm_0 ∧ pm_0 ≤ 80) : AP1 (pn_0) (pm_0) (pt_0) (ph_0) (alive_0) (seen_0) (x3) := by
  first
    | exact ap1_next ‹AP1 _ _ _ _ _ _ _› (by omega) (by omega)
    | (refine ⟨?_, fun j a b => by exfalso; omega⟩
       have e1 : x1 = 0 := by omega
       have e2 : x2 = -1 := by omega
       rw [← e1, ← e2]; exact ‹FLD _ _ _ _ _ _ _ _›)
def o_Mo_apartNode_1 : or_T := (8, 4, [(0, (2, 0, 0, [165])), (1, (0, 0, 0, [])), (2, (0, -1, -1, [])), (3, (0, 0, 0, []))], [(20, [0, 1, 2], [60, 2, 4, 80, 31, 32, 33, 34, 35, 38])], [], [], [(20, [0, 3], [60, 2, 4, 269, 31, 32, 33, 34, 35, 38]), (24, [0, 0], [])], [], [])
theorem oo_Mo_apartNode_1 {kA : Nat → ClassId} : or_ok PRD kA GG o_Mo_apartNode_1 := by
  refine or_mk fun A ta ws vs hD hth hl => ?_
  intro t0 r0 t1 k1 t2 k2 t3 k3 f3
  have kz_0_31 := fdq_144 hD hth r0
  have kz_0_32 := fdq_139 hD hth r0
  have nf0 : fc_1 PRD (20, [0, 3], [60, 2, 4, 269, 31, 32, 33, 34, 35, 38]) ws (vs) := ⟨nf_in hl rfl, sgq_911 (vc_Mo_apartNode_1_0 (v_iv (n_v vs 1)) (v_iv (n_v vs 2)) (v_iv (n_v vs 3)) (w_fi ws (n_v vs 0) 31) (w_ei ws (w_ar ws (n_v vs 0) 33)) (w_ei ws (w_ar ws (n_v vs 0) 34)) (w_fi ws (n_v vs 0) 32) (w_ei ws (w_ar ws (n_v vs 0) 35)) (w_ei ws (w_ar ws (n_v vs 0) 38)) k1 k2 k3 (shm_570 f3) kz_0_31 kz_0_32)⟩
  have nf1 : fc_1 PRD (24, [0, 0], []) ws (vs) := by
    refine ⟨nf_in hl rfl, sgq_1 ?_⟩
    · show n_v vs 0 = n_v vs 0
      first | rfl | simp only [true_and]
  refine ⟨(fun _ h => (by cases h)), [], trivial, ?_, (fun _ h => (by cases h))⟩
  rw [List.append_nil]
  exact List.forall_mem_cons.mpr ⟨⟨show (20 : Nat) < 100 from by decide, nf0⟩, List.forall_mem_cons.mpr ⟨⟨show (24 : Nat) < 100 from by decide, nf1⟩, (fun _ h => (by cases h))⟩⟩
set_option maxHeartbeats 4000000 in
theorem vc_Mo_apartNode_2_0 (x2 : Int) (x3 : Int) (x4 : Int) (pn_0 : Int) (pt_0 : Int → Int) (ph_0 : Int → Int) (pm_0 : Int) (alive_0 : Int → Int) (seen_0 : Int → Int) (k2 : 0 ≤ x2 ∧ x2 ≤ 25) (k3 : 0 ≤ x3 ∧ x3 ≤ 25) (k4 : (-1) ≤ x4 ∧ x4 ≤ (-1)) (d0 : x3 + 0 ≤ x2 ∧ x2 ≤ x3 + 4294967296) (g1 : x3 = pn_0) (f2 : GOK (pn_0) (pm_0) (pt_0) (ph_0)) (f3 : AP1 (pn_0) (pm_0) (pt_0) (ph_0) (alive_0) (seen_0) (x2)) (kz_0_31 : 0 ≤ pn_0 ∧ pn_0 ≤ 25) (kz_0_32 : 0 ≤ pm_0 ∧ pm_0 ≤ 80) : APN (pn_0) (pm_0) (pt_0) (ph_0) (alive_0) (x4) := by
  exact apn_no ‹GOK _ _ _ _› ‹AP1 _ _ _ _ _ _ _› (by omega) (by omega)
def o_Mo_apartNode_2 : or_T := (34, 5, [(0, (2, 0, 0, [165])), (2, (0, 0, 25, [])), (3, (0, 0, 25, [])), (4, (0, -1, -1, []))], [(9, [3, 1], [31]), (20, [1], [60, 2, 2, 75, 31, 32, 33, 34]), (20, [1, 2], [60, 2, 4, 269, 31, 32, 33, 34, 35, 38]), (24, [0, 1], [])], [], [], [(20, [0, 4], [60, 2, 3, 265, 31, 32, 33, 34, 35])], [], [(2, 3, 0, 4294967296)])
theorem oo_Mo_apartNode_2 {kA : Nat → ClassId} : or_ok PRD kA GG o_Mo_apartNode_2 := by
  refine or_mk fun A ta ws vs hD hth hl => ?_
  intro t0 r0 t2 k2 t3 k3 t4 k4 d0 f1 f2 f3 f4
  replace f1 := shm_565 f1
  replace f2 := shm_563 f2
  replace f3 := shm_911 f3
  replace f4 := shm_5 f4
  have q1 : n_v vs 1 = n_v vs 0 := f4.symm
  simp only [q1] at f1 f2 f3
  have g1 : v_iv (n_v vs 3) = w_fi ws (n_v vs 0) 31 := congrArg v_iv f1
  have kz_0_31 := fdq_144 hD hth r0
  have kz_0_32 := fdq_139 hD hth r0
  have nf0 : fc_1 PRD (20, [0, 4], [60, 2, 3, 265, 31, 32, 33, 34, 35]) ws (vs) := ⟨nf_in hl rfl, sgq_912 (vc_Mo_apartNode_2_0 (v_iv (n_v vs 2)) (v_iv (n_v vs 3)) (v_iv (n_v vs 4)) (w_fi ws (n_v vs 0) 31) (w_ei ws (w_ar ws (n_v vs 0) 33)) (w_ei ws (w_ar ws (n_v vs 0) 34)) (w_fi ws (n_v vs 0) 32) (w_ei ws (w_ar ws (n_v vs 0) 35)) (w_ei ws (w_ar ws (n_v vs 0) 38)) k2 k3 k4 d0 g1 f2 f3 kz_0_31 kz_0_32)⟩
  refine ⟨(fun _ h => (by cases h)), [], trivial, ?_, (fun _ h => (by cases h))⟩
  rw [List.append_nil]
  exact List.forall_mem_cons.mpr ⟨⟨show (20 : Nat) < 100 from by decide, nf0⟩, (fun _ h => (by cases h))⟩
set_option maxHeartbeats 4000000 in
theorem vc_Mo_apartNode_3_0 (x2 : Int) (x5 : Int) (x6 : Int) (seen_0 : Int → Int) (pn_0 : Int) (pt_0 : Int → Int) (ph_0 : Int → Int) (pm_0 : Int) (alive_0 : Int → Int) (k2 : 0 ≤ x2 ∧ x2 ≤ 24) (k5 : 1 ≤ x5 ∧ x5 ≤ 1) (k6 : 1 ≤ x6 ∧ x6 ≤ 25) (f0 : x6 = x2 + 1) (h2 : x5 = seen_0 (x2)) (f7 : AP1 (pn_0) (pm_0) (pt_0) (ph_0) (alive_0) (seen_0) (x2)) (kz_0_31 : 0 ≤ pn_0 ∧ pn_0 ≤ 25) (kz_0_32 : 0 ≤ pm_0 ∧ pm_0 ≤ 80) : AP1 (pn_0) (pm_0) (pt_0) (ph_0) (alive_0) (seen_0) (x6) := by
  first
    | exact ap1_next ‹AP1 _ _ _ _ _ _ _› (by omega) (by omega)
    | (refine ⟨?_, fun j a b => by exfalso; omega⟩
       have e1 : x1 = 0 := by omega
       have e2 : x2 = -1 := by omega
       rw [← e1, ← e2]; exact ‹FLD _ _ _ _ _ _ _ _›)
def o_Mo_apartNode_3 : or_T := (8, 7, [(0, (2, 0, 0, [165])), (2, (0, 0, 24, [])), (5, (0, 1, 1, [])), (6, (0, 1, 25, []))], [(6, [6, 2], [1]), (10, [5, 4, 2], []), (9, [4, 1], [38]), (20, [1, 2], [60, 2, 4, 269, 31, 32, 33, 34, 35, 38]), (24, [0, 1], [])], [], [], [(20, [1, 6], [60, 2, 4, 269, 31, 32, 33, 34, 35, 38])], [], [])
theorem oo_Mo_apartNode_3 {kA : Nat → ClassId} : or_ok PRD kA GG o_Mo_apartNode_3 := by
  refine or_mk fun A ta ws vs hD hth hl => ?_
  intro t0 r0 t2 k2 t5 k5 t6 k6 f0 f2 f3 f7 f8
  replace f0 := shm_4 f0
  replace f2 := shm_106 f2
  replace f3 := shm_569 f3
  replace f7 := shm_911 f7
  replace f8 := shm_5 f8
  have q1 : n_v vs 1 = n_v vs 0 := f8.symm
  simp only [q1] at f3 f7
  have ad_4 : v_ad (n_v vs 4) = w_ar ws (n_v vs 0) 38 := congrArg v_ad f3
  simp only [ad_4] at f2
  have h2 : v_iv (n_v vs 5) = w_ei ws (w_ar ws (n_v vs 0) 38) (v_iv (n_v vs 2)) := f2
  have kz_0_31 := fdq_144 hD hth r0
  have kz_0_32 := fdq_139 hD hth r0
  have nf0 : fc_1 PRD (20, [1, 6], [60, 2, 4, 269, 31, 32, 33, 34, 35, 38]) ws (vs) := by
    refine ⟨nf_in hl rfl, sgq_911 ?_⟩
    · show AP1 (w_fi ws (n_v vs 1) 31) (w_fi ws (n_v vs 1) 32) (w_ei ws (w_ar ws (n_v vs 1) 33)) (w_ei ws (w_ar ws (n_v vs 1) 34)) (w_ei ws (w_ar ws (n_v vs 1) 35)) (w_ei ws (w_ar ws (n_v vs 1) 38)) (v_iv (n_v vs 6))
      rw [q1]
      exact vc_Mo_apartNode_3_0 (v_iv (n_v vs 2)) (v_iv (n_v vs 5)) (v_iv (n_v vs 6)) (w_ei ws (w_ar ws (n_v vs 0) 38)) (w_fi ws (n_v vs 0) 31) (w_ei ws (w_ar ws (n_v vs 0) 33)) (w_ei ws (w_ar ws (n_v vs 0) 34)) (w_fi ws (n_v vs 0) 32) (w_ei ws (w_ar ws (n_v vs 0) 35)) k2 k5 k6 f0 h2 f7 kz_0_31 kz_0_32
  refine ⟨(fun _ h => (by cases h)), [], trivial, ?_, (fun _ h => (by cases h))⟩
  rw [List.append_nil]
  exact List.forall_mem_cons.mpr ⟨⟨show (20 : Nat) < 100 from by decide, nf0⟩, (fun _ h => (by cases h))⟩
set_option maxHeartbeats 4000000 in
theorem vc_Mo_apartNode_4_0 (x2 : Int) (x3 : Int) (x5 : Int) (seen_0 : Int → Int) (pn_0 : Int) (pt_0 : Int → Int) (ph_0 : Int → Int) (pm_0 : Int) (alive_0 : Int → Int) (k2 : 0 ≤ x2 ∧ x2 ≤ 24) (k3 : 1 ≤ x3 ∧ x3 ≤ 25) (k5 : 0 ≤ x5 ∧ x5 ≤ 0) (d0 : x3 + (-4294967296) ≤ x2 ∧ x2 ≤ x3 + (-1)) (h1 : x5 = seen_0 (x2)) (g4 : x3 = pn_0) (f5 : GOK (pn_0) (pm_0) (pt_0) (ph_0)) (f6 : AP1 (pn_0) (pm_0) (pt_0) (ph_0) (alive_0) (seen_0) (x2)) (kz_0_31 : 0 ≤ pn_0 ∧ pn_0 ≤ 25) (kz_0_32 : 0 ≤ pm_0 ∧ pm_0 ≤ 80) : APN (pn_0) (pm_0) (pt_0) (ph_0) (alive_0) (x2) := by
  exact apn_yes ‹GOK _ _ _ _› ‹AP1 _ _ _ _ _ _ _› (by omega) (by omega) (by omega)
def o_Mo_apartNode_4 : or_T := (26, 6, [(0, (2, 0, 0, [165])), (2, (0, 0, 24, [])), (3, (0, 1, 25, [])), (5, (0, 0, 0, []))], [(10, [5, 4, 2], []), (9, [4, 1], [38]), (9, [3, 1], [31]), (20, [1], [60, 2, 2, 75, 31, 32, 33, 34]), (20, [1, 2], [60, 2, 4, 269, 31, 32, 33, 34, 35, 38]), (24, [0, 1], [])], [], [], [(20, [0, 2], [60, 2, 3, 265, 31, 32, 33, 34, 35])], [], [(2, 3, -4294967296, -1)])
theorem oo_Mo_apartNode_4 {kA : Nat → ClassId} : or_ok PRD kA GG o_Mo_apartNode_4 := by
  refine or_mk fun A ta ws vs hD hth hl => ?_
  intro t0 r0 t2 k2 t3 k3 t5 k5 d0 f1 f2 f4 f5 f6 f7
  replace f1 := shm_106 f1
  replace f2 := shm_569 f2
  replace f4 := shm_565 f4
  replace f5 := shm_563 f5
  replace f6 := shm_911 f6
  replace f7 := shm_5 f7
  have q1 : n_v vs 1 = n_v vs 0 := f7.symm
  simp only [q1] at f2 f4 f5 f6
  have ad_4 : v_ad (n_v vs 4) = w_ar ws (n_v vs 0) 38 := congrArg v_ad f2
  simp only [ad_4] at f1
  have h1 : v_iv (n_v vs 5) = w_ei ws (w_ar ws (n_v vs 0) 38) (v_iv (n_v vs 2)) := f1
  have g4 : v_iv (n_v vs 3) = w_fi ws (n_v vs 0) 31 := congrArg v_iv f4
  have kz_0_31 := fdq_144 hD hth r0
  have kz_0_32 := fdq_139 hD hth r0
  have nf0 : fc_1 PRD (20, [0, 2], [60, 2, 3, 265, 31, 32, 33, 34, 35]) ws (vs) := ⟨nf_in hl rfl, sgq_912 (vc_Mo_apartNode_4_0 (v_iv (n_v vs 2)) (v_iv (n_v vs 3)) (v_iv (n_v vs 5)) (w_ei ws (w_ar ws (n_v vs 0) 38)) (w_fi ws (n_v vs 0) 31) (w_ei ws (w_ar ws (n_v vs 0) 33)) (w_ei ws (w_ar ws (n_v vs 0) 34)) (w_fi ws (n_v vs 0) 32) (w_ei ws (w_ar ws (n_v vs 0) 35)) k2 k3 k5 d0 h1 g4 f5 f6 kz_0_31 kz_0_32)⟩
  refine ⟨(fun _ h => (by cases h)), [], trivial, ?_, (fun _ h => (by cases h))⟩
  rw [List.append_nil]
  exact List.forall_mem_cons.mpr ⟨⟨show (20 : Nat) < 100 from by decide, nf0⟩, (fun _ h => (by cases h))⟩
def n_Mo_apartNode_an : List an_T := [(8, [(0, (2, 0, 0, [165])), (1, (0, 0, 25, []))], [], (0, 0), [(0, 0, 99992), (1, 2, 25), (0, 0, 100000)], [], [], [(2, 0, 0, [165])], 0, [], [(20, [1], [60, 2, 2, 75, 31, 32, 33, 34]), (20, [1, 2], [60, 2, 4, 269, 31, 32, 33, 34, 35, 38]), (24, [0, 1], [])])]
def t_Mo_apartNode_ct : ct_L := [(1, 606, e_Mo_flood)]
set_option maxRecDepth 100000 in
theorem c_Mo_apartNode {l : Launch} {D : va_G} {kA : Nat → ClassId} (h_Mo_flood : ct_ok PRD l D kA GG y_Mo_flood z_Mo_flood e_Mo_flood) : ct_ok PRD l D kA GG y_Mo_apartNode z_Mo_apartNode e_Mo_apartNode := chk_all_ok (FT := [(72, 13, 38), (594, 13, 31)]) (PT := []) (CT := t_Mo_apartNode_ct) (KT := []) (NT := []) (AN := n_Mo_apartNode_an) (OT := [o_Mo_apartNode_0, o_Mo_apartNode_1, o_Mo_apartNode_2, o_Mo_apartNode_3, o_Mo_apartNode_4]) 3 200 (List.forall_mem_cons.mpr ⟨oo_Mo_apartNode_0, List.forall_mem_cons.mpr ⟨oo_Mo_apartNode_1, List.forall_mem_cons.mpr ⟨oo_Mo_apartNode_2, List.forall_mem_cons.mpr ⟨oo_Mo_apartNode_3, List.forall_mem_cons.mpr ⟨oo_Mo_apartNode_4, List.forall_mem_nil _⟩⟩⟩⟩⟩) (by decide +kernel) ⟨List.forall_mem_cons.mpr ⟨gf_Mo_72, List.forall_mem_cons.mpr ⟨gf_Mo_594, List.forall_mem_nil _⟩⟩, List.forall_mem_nil _, List.forall_mem_cons.mpr ⟨cl_virtual (y := y_Mo_flood) (ci := 13) rfl rfl ⟨_, _, rfl⟩ (by decide +kernel) h_Mo_flood wm_3167 wm_9 wm_3164 wm_3166 wv_15_1 ⟨by decide, by decide, by decide +kernel⟩ (by decide), List.forall_mem_nil _⟩, List.forall_mem_nil _, List.forall_mem_nil _, GG_pl⟩ (by decide +kernel)

set_option maxHeartbeats 4000000 in
theorem vc_Mo_augment_0_0 (x5 : Int) (cameBy_0 : Int → Int) (k5 : 0 ≤ x5 ∧ x5 ≤ 0) : AU0 (cameBy_0) (x5) := by
  first
    | (intro v a b; exfalso; omega)
    | exact au0_step ‹AU0 _ _› (by omega) (by assumption) (by omega) (by omega)
def o_Mo_augment_0 : or_T := (3, 6, [(5, (0, 0, 0, []))], [], [], [], [(20, [0, 5], [60, 0, 1, 391, 91]), (24, [0, 0], []), (24, [1, 1], []), (24, [2, 2], []), (24, [3, 3], [])], [], [])
theorem oo_Mo_augment_0 {kA : Nat → ClassId} : or_ok PRD kA GG o_Mo_augment_0 := by
  refine or_mk fun A ta ws vs hD hth hl => ?_
  intro t5 k5
  have nf0 : fc_1 PRD (20, [0, 5], [60, 0, 1, 391, 91]) ws (vs) := ⟨nf_in hl rfl, sgq_919 (vc_Mo_augment_0_0 (v_iv (n_v vs 5)) (w_ei ws (w_ar ws (n_v vs 0) 91)) k5)⟩
  have nf1 : fc_1 PRD (24, [0, 0], []) ws (vs) := by
    refine ⟨nf_in hl rfl, sgq_1 ?_⟩
    · show n_v vs 0 = n_v vs 0
      first | rfl | simp only [true_and]
  have nf2 : fc_1 PRD (24, [1, 1], []) ws (vs) := by
    refine ⟨nf_in hl rfl, sgq_1 ?_⟩
    · show n_v vs 1 = n_v vs 1
      first | rfl | simp only [true_and]
  have nf3 : fc_1 PRD (24, [2, 2], []) ws (vs) := by
    refine ⟨nf_in hl rfl, sgq_1 ?_⟩
    · show n_v vs 2 = n_v vs 2
      first | rfl | simp only [true_and]
  have nf4 : fc_1 PRD (24, [3, 3], []) ws (vs) := by
    refine ⟨nf_in hl rfl, sgq_1 ?_⟩
    · show n_v vs 3 = n_v vs 3
      first | rfl | simp only [true_and]
  refine ⟨(fun _ h => (by cases h)), [], trivial, ?_, (fun _ h => (by cases h))⟩
  rw [List.append_nil]
  exact List.forall_mem_cons.mpr ⟨⟨show (20 : Nat) < 100 from by decide, nf0⟩, List.forall_mem_cons.mpr ⟨⟨show (24 : Nat) < 100 from by decide, nf1⟩, List.forall_mem_cons.mpr ⟨⟨show (24 : Nat) < 100 from by decide, nf2⟩, List.forall_mem_cons.mpr ⟨⟨show (24 : Nat) < 100 from by decide, nf3⟩, List.forall_mem_cons.mpr ⟨⟨show (24 : Nat) < 100 from by decide, nf4⟩, (fun _ h => (by cases h))⟩⟩⟩⟩⟩
set_option maxHeartbeats 4000000 in
theorem vc_Mo_augment_1_0 (x1 : Int) (x2 : Int) (pointMany_0 : Int) (flow_0 : Int → Int) (spot_0 : Int → Int) (costA_0 : Int → Int) (costB_0 : Int → Int) (costW_0 : Int → Int) (costPlain_0 : Int → Int) (apartA_0 : Int → Int) (apartB_0 : Int → Int) (apart_0 : Int → Int) (costMany_0 : Int) (apartMany_0 : Int) (pointMany_1 : Int) (flow_1 : Int → Int) (spot_1 : Int → Int) (costA_1 : Int → Int) (costB_1 : Int → Int) (costW_1 : Int → Int) (costPlain_1 : Int → Int) (apartA_1 : Int → Int) (apartB_1 : Int → Int) (apart_1 : Int → Int) (costMany_1 : Int) (apartMany_1 : Int) (pointMany_2 : Int) (flow_2 : Int → Int) (spot_2 : Int → Int) (costA_2 : Int → Int) (costB_2 : Int → Int) (costW_2 : Int → Int) (costPlain_2 : Int → Int) (apartA_2 : Int → Int) (apartB_2 : Int → Int) (apart_2 : Int → Int) (costMany_2 : Int) (apartMany_2 : Int) (cameBy_0 : Int → Int) (cameBy_1 : Int → Int) (queue_1 : Int → Int) (queue_2 : Int → Int) (k1 : 2 ≤ x1 ∧ x1 ≤ 78) (k2 : 0 ≤ x2 ∧ x2 ≤ 76) (f25 : (x2 + 1) ≤ x1) (fe_0_79_1 : pointMany_0 = pointMany_1) (fe_0_80_1 : costMany_0 = costMany_1) (fe_0_81_1 : apartMany_0 = apartMany_1) (fe_0_79_2 : pointMany_1 = pointMany_2) (fe_0_80_2 : costMany_1 = costMany_2) (fe_0_81_2 : apartMany_1 = apartMany_2) (hE_0_82_1 : ∀ j : Int, spot_0 j = spot_1 j) (hE_0_82_2 : ∀ j : Int, spot_1 j = spot_2 j) (hE_0_83_1 : ∀ j : Int, costA_0 j = costA_1 j) (hE_0_83_2 : ∀ j : Int, costA_1 j = costA_2 j) (hE_0_84_1 : ∀ j : Int, costB_0 j = costB_1 j) (hE_0_84_2 : ∀ j : Int, costB_1 j = costB_2 j) (hE_0_85_1 : ∀ j : Int, costW_0 j = costW_1 j) (hE_0_85_2 : ∀ j : Int, costW_1 j = costW_2 j) (hE_0_86_1 : ∀ j : Int, costPlain_0 j = costPlain_1 j) (hE_0_86_2 : ∀ j : Int, costPlain_1 j = costPlain_2 j) (hE_0_87_1 : ∀ j : Int, apartA_0 j = apartA_1 j) (hE_0_87_2 : ∀ j : Int, apartA_1 j = apartA_2 j) (hE_0_88_1 : ∀ j : Int, apartB_0 j = apartB_1 j) (hE_0_88_2 : ∀ j : Int, apartB_1 j = apartB_2 j) (hE_0_89_1 : ∀ j : Int, apart_0 j = apart_1 j) (hE_0_89_2 : ∀ j : Int, apart_1 j = apart_2 j) (hE_0_90_1 : ∀ j : Int, flow_0 j = flow_1 j) (hE_0_90_2 : ∀ j : Int, flow_1 j = flow_2 j) (hE_0_91_1 : ∀ j : Int, cameBy_0 j = cameBy_1 j) (hE_0_92_2 : ∀ j : Int, queue_1 j = queue_2 j) (kz_0_79 : 0 ≤ pointMany_0 ∧ pointMany_0 ≤ 76) (kz_0_80 : 0 ≤ costMany_0 ∧ costMany_0 ≤ 200) (kz_0_81 : 0 ≤ apartMany_0 ∧ apartMany_0 ≤ 200) : (x2 + 1) ≤ x1 := by
  subst fe_0_79_1
  subst fe_0_80_1
  subst fe_0_81_1
  subst fe_0_79_2
  subst fe_0_80_2
  subst fe_0_81_2
  have e_hE_0_82_1 := funext hE_0_82_1; subst e_hE_0_82_1
  have e_hE_0_82_2 := funext hE_0_82_2; subst e_hE_0_82_2
  have e_hE_0_83_1 := funext hE_0_83_1; subst e_hE_0_83_1
  have e_hE_0_83_2 := funext hE_0_83_2; subst e_hE_0_83_2
  have e_hE_0_84_1 := funext hE_0_84_1; subst e_hE_0_84_1
  have e_hE_0_84_2 := funext hE_0_84_2; subst e_hE_0_84_2
  have e_hE_0_85_1 := funext hE_0_85_1; subst e_hE_0_85_1
  have e_hE_0_85_2 := funext hE_0_85_2; subst e_hE_0_85_2
  have e_hE_0_86_1 := funext hE_0_86_1; subst e_hE_0_86_1
  have e_hE_0_86_2 := funext hE_0_86_2; subst e_hE_0_86_2
  have e_hE_0_87_1 := funext hE_0_87_1; subst e_hE_0_87_1
  have e_hE_0_87_2 := funext hE_0_87_2; subst e_hE_0_87_2
  have e_hE_0_88_1 := funext hE_0_88_1; subst e_hE_0_88_1
  have e_hE_0_88_2 := funext hE_0_88_2; subst e_hE_0_88_2
  have e_hE_0_89_1 := funext hE_0_89_1; subst e_hE_0_89_1
  have e_hE_0_89_2 := funext hE_0_89_2; subst e_hE_0_89_2
  have e_hE_0_90_1 := funext hE_0_90_1; subst e_hE_0_90_1
  have e_hE_0_90_2 := funext hE_0_90_2; subst e_hE_0_90_2
  have e_hE_0_91_1 := funext hE_0_91_1; subst e_hE_0_91_1
  have e_hE_0_92_2 := funext hE_0_92_2; subst e_hE_0_92_2
  first
    | omega
    | (have h := au1_len ‹AU1 _ _ _ _ _›; omega)
set_option maxHeartbeats 4000000 in
theorem vc_Mo_augment_1_1 (x1 : Int) (x3 : Int) (pointMany_0 : Int) (flow_0 : Int → Int) (spot_0 : Int → Int) (costA_0 : Int → Int) (costB_0 : Int → Int) (costW_0 : Int → Int) (costPlain_0 : Int → Int) (apartA_0 : Int → Int) (apartB_0 : Int → Int) (apart_0 : Int → Int) (costMany_0 : Int) (apartMany_0 : Int) (pointMany_1 : Int) (flow_1 : Int → Int) (spot_1 : Int → Int) (costA_1 : Int → Int) (costB_1 : Int → Int) (costW_1 : Int → Int) (costPlain_1 : Int → Int) (apartA_1 : Int → Int) (apartB_1 : Int → Int) (apart_1 : Int → Int) (costMany_1 : Int) (apartMany_1 : Int) (pointMany_2 : Int) (flow_2 : Int → Int) (spot_2 : Int → Int) (costA_2 : Int → Int) (costB_2 : Int → Int) (costW_2 : Int → Int) (costPlain_2 : Int → Int) (apartA_2 : Int → Int) (apartB_2 : Int → Int) (apart_2 : Int → Int) (costMany_2 : Int) (apartMany_2 : Int) (cameBy_0 : Int → Int) (cameBy_1 : Int → Int) (queue_1 : Int → Int) (queue_2 : Int → Int) (k1 : 2 ≤ x1 ∧ x1 ≤ 78) (k3 : 1 ≤ x3 ∧ x3 ≤ 77) (f26 : (x3 + 1) ≤ x1) (fe_0_79_1 : pointMany_0 = pointMany_1) (fe_0_80_1 : costMany_0 = costMany_1) (fe_0_81_1 : apartMany_0 = apartMany_1) (fe_0_79_2 : pointMany_1 = pointMany_2) (fe_0_80_2 : costMany_1 = costMany_2) (fe_0_81_2 : apartMany_1 = apartMany_2) (hE_0_82_1 : ∀ j : Int, spot_0 j = spot_1 j) (hE_0_82_2 : ∀ j : Int, spot_1 j = spot_2 j) (hE_0_83_1 : ∀ j : Int, costA_0 j = costA_1 j) (hE_0_83_2 : ∀ j : Int, costA_1 j = costA_2 j) (hE_0_84_1 : ∀ j : Int, costB_0 j = costB_1 j) (hE_0_84_2 : ∀ j : Int, costB_1 j = costB_2 j) (hE_0_85_1 : ∀ j : Int, costW_0 j = costW_1 j) (hE_0_85_2 : ∀ j : Int, costW_1 j = costW_2 j) (hE_0_86_1 : ∀ j : Int, costPlain_0 j = costPlain_1 j) (hE_0_86_2 : ∀ j : Int, costPlain_1 j = costPlain_2 j) (hE_0_87_1 : ∀ j : Int, apartA_0 j = apartA_1 j) (hE_0_87_2 : ∀ j : Int, apartA_1 j = apartA_2 j) (hE_0_88_1 : ∀ j : Int, apartB_0 j = apartB_1 j) (hE_0_88_2 : ∀ j : Int, apartB_1 j = apartB_2 j) (hE_0_89_1 : ∀ j : Int, apart_0 j = apart_1 j) (hE_0_89_2 : ∀ j : Int, apart_1 j = apart_2 j) (hE_0_90_1 : ∀ j : Int, flow_0 j = flow_1 j) (hE_0_90_2 : ∀ j : Int, flow_1 j = flow_2 j) (hE_0_91_1 : ∀ j : Int, cameBy_0 j = cameBy_1 j) (hE_0_92_2 : ∀ j : Int, queue_1 j = queue_2 j) (kz_0_79 : 0 ≤ pointMany_0 ∧ pointMany_0 ≤ 76) (kz_0_80 : 0 ≤ costMany_0 ∧ costMany_0 ≤ 200) (kz_0_81 : 0 ≤ apartMany_0 ∧ apartMany_0 ≤ 200) : (x3 + 1) ≤ x1 := by
  subst fe_0_79_1
  subst fe_0_80_1
  subst fe_0_81_1
  subst fe_0_79_2
  subst fe_0_80_2
  subst fe_0_81_2
  have e_hE_0_82_1 := funext hE_0_82_1; subst e_hE_0_82_1
  have e_hE_0_82_2 := funext hE_0_82_2; subst e_hE_0_82_2
  have e_hE_0_83_1 := funext hE_0_83_1; subst e_hE_0_83_1
  have e_hE_0_83_2 := funext hE_0_83_2; subst e_hE_0_83_2
  have e_hE_0_84_1 := funext hE_0_84_1; subst e_hE_0_84_1
  have e_hE_0_84_2 := funext hE_0_84_2; subst e_hE_0_84_2
  have e_hE_0_85_1 := funext hE_0_85_1; subst e_hE_0_85_1
  have e_hE_0_85_2 := funext hE_0_85_2; subst e_hE_0_85_2
  have e_hE_0_86_1 := funext hE_0_86_1; subst e_hE_0_86_1
  have e_hE_0_86_2 := funext hE_0_86_2; subst e_hE_0_86_2
  have e_hE_0_87_1 := funext hE_0_87_1; subst e_hE_0_87_1
  have e_hE_0_87_2 := funext hE_0_87_2; subst e_hE_0_87_2
  have e_hE_0_88_1 := funext hE_0_88_1; subst e_hE_0_88_1
  have e_hE_0_88_2 := funext hE_0_88_2; subst e_hE_0_88_2
  have e_hE_0_89_1 := funext hE_0_89_1; subst e_hE_0_89_1
  have e_hE_0_89_2 := funext hE_0_89_2; subst e_hE_0_89_2
  have e_hE_0_90_1 := funext hE_0_90_1; subst e_hE_0_90_1
  have e_hE_0_90_2 := funext hE_0_90_2; subst e_hE_0_90_2
  have e_hE_0_91_1 := funext hE_0_91_1; subst e_hE_0_91_1
  have e_hE_0_92_2 := funext hE_0_92_2; subst e_hE_0_92_2
  first
    | omega
    | (have h := au1_len ‹AU1 _ _ _ _ _›; omega)
set_option maxHeartbeats 4000000 in
theorem vc_Mo_augment_1_2 (x1 : Int) (pointMany_0 : Int) (flow_0 : Int → Int) (spot_0 : Int → Int) (costA_0 : Int → Int) (costB_0 : Int → Int) (costW_0 : Int → Int) (costPlain_0 : Int → Int) (apartA_0 : Int → Int) (apartB_0 : Int → Int) (apart_0 : Int → Int) (costMany_0 : Int) (apartMany_0 : Int) (pointMany_1 : Int) (flow_1 : Int → Int) (spot_1 : Int → Int) (costA_1 : Int → Int) (costB_1 : Int → Int) (costW_1 : Int → Int) (costPlain_1 : Int → Int) (apartA_1 : Int → Int) (apartB_1 : Int → Int) (apart_1 : Int → Int) (costMany_1 : Int) (apartMany_1 : Int) (pointMany_2 : Int) (flow_2 : Int → Int) (spot_2 : Int → Int) (costA_2 : Int → Int) (costB_2 : Int → Int) (costW_2 : Int → Int) (costPlain_2 : Int → Int) (apartA_2 : Int → Int) (apartB_2 : Int → Int) (apart_2 : Int → Int) (costMany_2 : Int) (apartMany_2 : Int) (cameBy_0 : Int → Int) (cameBy_1 : Int → Int) (queue_1 : Int → Int) (queue_2 : Int → Int) (k1 : 2 ≤ x1 ∧ x1 ≤ 78) (f27 : x1 ≤ 78) (fe_0_79_1 : pointMany_0 = pointMany_1) (fe_0_80_1 : costMany_0 = costMany_1) (fe_0_81_1 : apartMany_0 = apartMany_1) (fe_0_79_2 : pointMany_1 = pointMany_2) (fe_0_80_2 : costMany_1 = costMany_2) (fe_0_81_2 : apartMany_1 = apartMany_2) (hE_0_82_1 : ∀ j : Int, spot_0 j = spot_1 j) (hE_0_82_2 : ∀ j : Int, spot_1 j = spot_2 j) (hE_0_83_1 : ∀ j : Int, costA_0 j = costA_1 j) (hE_0_83_2 : ∀ j : Int, costA_1 j = costA_2 j) (hE_0_84_1 : ∀ j : Int, costB_0 j = costB_1 j) (hE_0_84_2 : ∀ j : Int, costB_1 j = costB_2 j) (hE_0_85_1 : ∀ j : Int, costW_0 j = costW_1 j) (hE_0_85_2 : ∀ j : Int, costW_1 j = costW_2 j) (hE_0_86_1 : ∀ j : Int, costPlain_0 j = costPlain_1 j) (hE_0_86_2 : ∀ j : Int, costPlain_1 j = costPlain_2 j) (hE_0_87_1 : ∀ j : Int, apartA_0 j = apartA_1 j) (hE_0_87_2 : ∀ j : Int, apartA_1 j = apartA_2 j) (hE_0_88_1 : ∀ j : Int, apartB_0 j = apartB_1 j) (hE_0_88_2 : ∀ j : Int, apartB_1 j = apartB_2 j) (hE_0_89_1 : ∀ j : Int, apart_0 j = apart_1 j) (hE_0_89_2 : ∀ j : Int, apart_1 j = apart_2 j) (hE_0_90_1 : ∀ j : Int, flow_0 j = flow_1 j) (hE_0_90_2 : ∀ j : Int, flow_1 j = flow_2 j) (hE_0_91_1 : ∀ j : Int, cameBy_0 j = cameBy_1 j) (hE_0_92_2 : ∀ j : Int, queue_1 j = queue_2 j) (kz_0_79 : 0 ≤ pointMany_0 ∧ pointMany_0 ≤ 76) (kz_0_80 : 0 ≤ costMany_0 ∧ costMany_0 ≤ 200) (kz_0_81 : 0 ≤ apartMany_0 ∧ apartMany_0 ≤ 200) : x1 ≤ 78 := by
  subst fe_0_79_1
  subst fe_0_80_1
  subst fe_0_81_1
  subst fe_0_79_2
  subst fe_0_80_2
  subst fe_0_81_2
  have e_hE_0_82_1 := funext hE_0_82_1; subst e_hE_0_82_1
  have e_hE_0_82_2 := funext hE_0_82_2; subst e_hE_0_82_2
  have e_hE_0_83_1 := funext hE_0_83_1; subst e_hE_0_83_1
  have e_hE_0_83_2 := funext hE_0_83_2; subst e_hE_0_83_2
  have e_hE_0_84_1 := funext hE_0_84_1; subst e_hE_0_84_1
  have e_hE_0_84_2 := funext hE_0_84_2; subst e_hE_0_84_2
  have e_hE_0_85_1 := funext hE_0_85_1; subst e_hE_0_85_1
  have e_hE_0_85_2 := funext hE_0_85_2; subst e_hE_0_85_2
  have e_hE_0_86_1 := funext hE_0_86_1; subst e_hE_0_86_1
  have e_hE_0_86_2 := funext hE_0_86_2; subst e_hE_0_86_2
  have e_hE_0_87_1 := funext hE_0_87_1; subst e_hE_0_87_1
  have e_hE_0_87_2 := funext hE_0_87_2; subst e_hE_0_87_2
  have e_hE_0_88_1 := funext hE_0_88_1; subst e_hE_0_88_1
  have e_hE_0_88_2 := funext hE_0_88_2; subst e_hE_0_88_2
  have e_hE_0_89_1 := funext hE_0_89_1; subst e_hE_0_89_1
  have e_hE_0_89_2 := funext hE_0_89_2; subst e_hE_0_89_2
  have e_hE_0_90_1 := funext hE_0_90_1; subst e_hE_0_90_1
  have e_hE_0_90_2 := funext hE_0_90_2; subst e_hE_0_90_2
  have e_hE_0_91_1 := funext hE_0_91_1; subst e_hE_0_91_1
  have e_hE_0_92_2 := funext hE_0_92_2; subst e_hE_0_92_2
  first
    | omega
    | (have h := au1_len ‹AU1 _ _ _ _ _›; omega)
set_option maxHeartbeats 4000000 in
theorem vc_Mo_augment_1_3 (x1 : Int) (pointMany_0 : Int) (flow_0 : Int → Int) (spot_0 : Int → Int) (costA_0 : Int → Int) (costB_0 : Int → Int) (costW_0 : Int → Int) (costPlain_0 : Int → Int) (apartA_0 : Int → Int) (apartB_0 : Int → Int) (apart_0 : Int → Int) (costMany_0 : Int) (apartMany_0 : Int) (pointMany_1 : Int) (flow_1 : Int → Int) (spot_1 : Int → Int) (costA_1 : Int → Int) (costB_1 : Int → Int) (costW_1 : Int → Int) (costPlain_1 : Int → Int) (apartA_1 : Int → Int) (apartB_1 : Int → Int) (apart_1 : Int → Int) (costMany_1 : Int) (apartMany_1 : Int) (pointMany_2 : Int) (flow_2 : Int → Int) (spot_2 : Int → Int) (costA_2 : Int → Int) (costB_2 : Int → Int) (costW_2 : Int → Int) (costPlain_2 : Int → Int) (apartA_2 : Int → Int) (apartB_2 : Int → Int) (apart_2 : Int → Int) (costMany_2 : Int) (apartMany_2 : Int) (cameBy_0 : Int → Int) (cameBy_1 : Int → Int) (queue_1 : Int → Int) (queue_2 : Int → Int) (k1 : 2 ≤ x1 ∧ x1 ≤ 78) (f28 : x1 = (pointMany_2 + 2)) (fe_0_79_1 : pointMany_0 = pointMany_1) (fe_0_80_1 : costMany_0 = costMany_1) (fe_0_81_1 : apartMany_0 = apartMany_1) (fe_0_79_2 : pointMany_1 = pointMany_2) (fe_0_80_2 : costMany_1 = costMany_2) (fe_0_81_2 : apartMany_1 = apartMany_2) (hE_0_82_1 : ∀ j : Int, spot_0 j = spot_1 j) (hE_0_82_2 : ∀ j : Int, spot_1 j = spot_2 j) (hE_0_83_1 : ∀ j : Int, costA_0 j = costA_1 j) (hE_0_83_2 : ∀ j : Int, costA_1 j = costA_2 j) (hE_0_84_1 : ∀ j : Int, costB_0 j = costB_1 j) (hE_0_84_2 : ∀ j : Int, costB_1 j = costB_2 j) (hE_0_85_1 : ∀ j : Int, costW_0 j = costW_1 j) (hE_0_85_2 : ∀ j : Int, costW_1 j = costW_2 j) (hE_0_86_1 : ∀ j : Int, costPlain_0 j = costPlain_1 j) (hE_0_86_2 : ∀ j : Int, costPlain_1 j = costPlain_2 j) (hE_0_87_1 : ∀ j : Int, apartA_0 j = apartA_1 j) (hE_0_87_2 : ∀ j : Int, apartA_1 j = apartA_2 j) (hE_0_88_1 : ∀ j : Int, apartB_0 j = apartB_1 j) (hE_0_88_2 : ∀ j : Int, apartB_1 j = apartB_2 j) (hE_0_89_1 : ∀ j : Int, apart_0 j = apart_1 j) (hE_0_89_2 : ∀ j : Int, apart_1 j = apart_2 j) (hE_0_90_1 : ∀ j : Int, flow_0 j = flow_1 j) (hE_0_90_2 : ∀ j : Int, flow_1 j = flow_2 j) (hE_0_91_1 : ∀ j : Int, cameBy_0 j = cameBy_1 j) (hE_0_92_2 : ∀ j : Int, queue_1 j = queue_2 j) (kz_0_79 : 0 ≤ pointMany_0 ∧ pointMany_0 ≤ 76) (kz_0_80 : 0 ≤ costMany_0 ∧ costMany_0 ≤ 200) (kz_0_81 : 0 ≤ apartMany_0 ∧ apartMany_0 ≤ 200) : x1 = (pointMany_0 + 2) := by
  subst fe_0_79_1
  subst fe_0_80_1
  subst fe_0_81_1
  subst fe_0_79_2
  subst fe_0_80_2
  subst fe_0_81_2
  have e_hE_0_82_1 := funext hE_0_82_1; subst e_hE_0_82_1
  have e_hE_0_82_2 := funext hE_0_82_2; subst e_hE_0_82_2
  have e_hE_0_83_1 := funext hE_0_83_1; subst e_hE_0_83_1
  have e_hE_0_83_2 := funext hE_0_83_2; subst e_hE_0_83_2
  have e_hE_0_84_1 := funext hE_0_84_1; subst e_hE_0_84_1
  have e_hE_0_84_2 := funext hE_0_84_2; subst e_hE_0_84_2
  have e_hE_0_85_1 := funext hE_0_85_1; subst e_hE_0_85_1
  have e_hE_0_85_2 := funext hE_0_85_2; subst e_hE_0_85_2
  have e_hE_0_86_1 := funext hE_0_86_1; subst e_hE_0_86_1
  have e_hE_0_86_2 := funext hE_0_86_2; subst e_hE_0_86_2
  have e_hE_0_87_1 := funext hE_0_87_1; subst e_hE_0_87_1
  have e_hE_0_87_2 := funext hE_0_87_2; subst e_hE_0_87_2
  have e_hE_0_88_1 := funext hE_0_88_1; subst e_hE_0_88_1
  have e_hE_0_88_2 := funext hE_0_88_2; subst e_hE_0_88_2
  have e_hE_0_89_1 := funext hE_0_89_1; subst e_hE_0_89_1
  have e_hE_0_89_2 := funext hE_0_89_2; subst e_hE_0_89_2
  have e_hE_0_90_1 := funext hE_0_90_1; subst e_hE_0_90_1
  have e_hE_0_90_2 := funext hE_0_90_2; subst e_hE_0_90_2
  have e_hE_0_91_1 := funext hE_0_91_1; subst e_hE_0_91_1
  have e_hE_0_92_2 := funext hE_0_92_2; subst e_hE_0_92_2
  first
    | omega
    | (have h := au1_len ‹AU1 _ _ _ _ _›; omega)
set_option maxHeartbeats 4000000 in
theorem vc_Mo_augment_1_4 (x2 : Int) (pointMany_0 : Int) (flow_0 : Int → Int) (spot_0 : Int → Int) (costA_0 : Int → Int) (costB_0 : Int → Int) (costW_0 : Int → Int) (costPlain_0 : Int → Int) (apartA_0 : Int → Int) (apartB_0 : Int → Int) (apart_0 : Int → Int) (costMany_0 : Int) (apartMany_0 : Int) (pointMany_1 : Int) (flow_1 : Int → Int) (spot_1 : Int → Int) (costA_1 : Int → Int) (costB_1 : Int → Int) (costW_1 : Int → Int) (costPlain_1 : Int → Int) (apartA_1 : Int → Int) (apartB_1 : Int → Int) (apart_1 : Int → Int) (costMany_1 : Int) (apartMany_1 : Int) (pointMany_2 : Int) (flow_2 : Int → Int) (spot_2 : Int → Int) (costA_2 : Int → Int) (costB_2 : Int → Int) (costW_2 : Int → Int) (costPlain_2 : Int → Int) (apartA_2 : Int → Int) (apartB_2 : Int → Int) (apart_2 : Int → Int) (costMany_2 : Int) (apartMany_2 : Int) (cameBy_0 : Int → Int) (cameBy_1 : Int → Int) (queue_1 : Int → Int) (queue_2 : Int → Int) (k2 : 0 ≤ x2 ∧ x2 ≤ 76) (f29 : x2 = pointMany_2) (fe_0_79_1 : pointMany_0 = pointMany_1) (fe_0_80_1 : costMany_0 = costMany_1) (fe_0_81_1 : apartMany_0 = apartMany_1) (fe_0_79_2 : pointMany_1 = pointMany_2) (fe_0_80_2 : costMany_1 = costMany_2) (fe_0_81_2 : apartMany_1 = apartMany_2) (hE_0_82_1 : ∀ j : Int, spot_0 j = spot_1 j) (hE_0_82_2 : ∀ j : Int, spot_1 j = spot_2 j) (hE_0_83_1 : ∀ j : Int, costA_0 j = costA_1 j) (hE_0_83_2 : ∀ j : Int, costA_1 j = costA_2 j) (hE_0_84_1 : ∀ j : Int, costB_0 j = costB_1 j) (hE_0_84_2 : ∀ j : Int, costB_1 j = costB_2 j) (hE_0_85_1 : ∀ j : Int, costW_0 j = costW_1 j) (hE_0_85_2 : ∀ j : Int, costW_1 j = costW_2 j) (hE_0_86_1 : ∀ j : Int, costPlain_0 j = costPlain_1 j) (hE_0_86_2 : ∀ j : Int, costPlain_1 j = costPlain_2 j) (hE_0_87_1 : ∀ j : Int, apartA_0 j = apartA_1 j) (hE_0_87_2 : ∀ j : Int, apartA_1 j = apartA_2 j) (hE_0_88_1 : ∀ j : Int, apartB_0 j = apartB_1 j) (hE_0_88_2 : ∀ j : Int, apartB_1 j = apartB_2 j) (hE_0_89_1 : ∀ j : Int, apart_0 j = apart_1 j) (hE_0_89_2 : ∀ j : Int, apart_1 j = apart_2 j) (hE_0_90_1 : ∀ j : Int, flow_0 j = flow_1 j) (hE_0_90_2 : ∀ j : Int, flow_1 j = flow_2 j) (hE_0_91_1 : ∀ j : Int, cameBy_0 j = cameBy_1 j) (hE_0_92_2 : ∀ j : Int, queue_1 j = queue_2 j) (kz_0_79 : 0 ≤ pointMany_0 ∧ pointMany_0 ≤ 76) (kz_0_80 : 0 ≤ costMany_0 ∧ costMany_0 ≤ 200) (kz_0_81 : 0 ≤ apartMany_0 ∧ apartMany_0 ≤ 200) : x2 = pointMany_0 := by
  subst fe_0_79_1
  subst fe_0_80_1
  subst fe_0_81_1
  subst fe_0_79_2
  subst fe_0_80_2
  subst fe_0_81_2
  have e_hE_0_82_1 := funext hE_0_82_1; subst e_hE_0_82_1
  have e_hE_0_82_2 := funext hE_0_82_2; subst e_hE_0_82_2
  have e_hE_0_83_1 := funext hE_0_83_1; subst e_hE_0_83_1
  have e_hE_0_83_2 := funext hE_0_83_2; subst e_hE_0_83_2
  have e_hE_0_84_1 := funext hE_0_84_1; subst e_hE_0_84_1
  have e_hE_0_84_2 := funext hE_0_84_2; subst e_hE_0_84_2
  have e_hE_0_85_1 := funext hE_0_85_1; subst e_hE_0_85_1
  have e_hE_0_85_2 := funext hE_0_85_2; subst e_hE_0_85_2
  have e_hE_0_86_1 := funext hE_0_86_1; subst e_hE_0_86_1
  have e_hE_0_86_2 := funext hE_0_86_2; subst e_hE_0_86_2
  have e_hE_0_87_1 := funext hE_0_87_1; subst e_hE_0_87_1
  have e_hE_0_87_2 := funext hE_0_87_2; subst e_hE_0_87_2
  have e_hE_0_88_1 := funext hE_0_88_1; subst e_hE_0_88_1
  have e_hE_0_88_2 := funext hE_0_88_2; subst e_hE_0_88_2
  have e_hE_0_89_1 := funext hE_0_89_1; subst e_hE_0_89_1
  have e_hE_0_89_2 := funext hE_0_89_2; subst e_hE_0_89_2
  have e_hE_0_90_1 := funext hE_0_90_1; subst e_hE_0_90_1
  have e_hE_0_90_2 := funext hE_0_90_2; subst e_hE_0_90_2
  have e_hE_0_91_1 := funext hE_0_91_1; subst e_hE_0_91_1
  have e_hE_0_92_2 := funext hE_0_92_2; subst e_hE_0_92_2
  first
    | omega
    | (have h := au1_len ‹AU1 _ _ _ _ _›; omega)
set_option maxHeartbeats 4000000 in
theorem vc_Mo_augment_1_5 (x3 : Int) (pointMany_0 : Int) (flow_0 : Int → Int) (spot_0 : Int → Int) (costA_0 : Int → Int) (costB_0 : Int → Int) (costW_0 : Int → Int) (costPlain_0 : Int → Int) (apartA_0 : Int → Int) (apartB_0 : Int → Int) (apart_0 : Int → Int) (costMany_0 : Int) (apartMany_0 : Int) (pointMany_1 : Int) (flow_1 : Int → Int) (spot_1 : Int → Int) (costA_1 : Int → Int) (costB_1 : Int → Int) (costW_1 : Int → Int) (costPlain_1 : Int → Int) (apartA_1 : Int → Int) (apartB_1 : Int → Int) (apart_1 : Int → Int) (costMany_1 : Int) (apartMany_1 : Int) (pointMany_2 : Int) (flow_2 : Int → Int) (spot_2 : Int → Int) (costA_2 : Int → Int) (costB_2 : Int → Int) (costW_2 : Int → Int) (costPlain_2 : Int → Int) (apartA_2 : Int → Int) (apartB_2 : Int → Int) (apart_2 : Int → Int) (costMany_2 : Int) (apartMany_2 : Int) (cameBy_0 : Int → Int) (cameBy_1 : Int → Int) (queue_1 : Int → Int) (queue_2 : Int → Int) (k3 : 1 ≤ x3 ∧ x3 ≤ 77) (f30 : x3 = (pointMany_2 + 1)) (fe_0_79_1 : pointMany_0 = pointMany_1) (fe_0_80_1 : costMany_0 = costMany_1) (fe_0_81_1 : apartMany_0 = apartMany_1) (fe_0_79_2 : pointMany_1 = pointMany_2) (fe_0_80_2 : costMany_1 = costMany_2) (fe_0_81_2 : apartMany_1 = apartMany_2) (hE_0_82_1 : ∀ j : Int, spot_0 j = spot_1 j) (hE_0_82_2 : ∀ j : Int, spot_1 j = spot_2 j) (hE_0_83_1 : ∀ j : Int, costA_0 j = costA_1 j) (hE_0_83_2 : ∀ j : Int, costA_1 j = costA_2 j) (hE_0_84_1 : ∀ j : Int, costB_0 j = costB_1 j) (hE_0_84_2 : ∀ j : Int, costB_1 j = costB_2 j) (hE_0_85_1 : ∀ j : Int, costW_0 j = costW_1 j) (hE_0_85_2 : ∀ j : Int, costW_1 j = costW_2 j) (hE_0_86_1 : ∀ j : Int, costPlain_0 j = costPlain_1 j) (hE_0_86_2 : ∀ j : Int, costPlain_1 j = costPlain_2 j) (hE_0_87_1 : ∀ j : Int, apartA_0 j = apartA_1 j) (hE_0_87_2 : ∀ j : Int, apartA_1 j = apartA_2 j) (hE_0_88_1 : ∀ j : Int, apartB_0 j = apartB_1 j) (hE_0_88_2 : ∀ j : Int, apartB_1 j = apartB_2 j) (hE_0_89_1 : ∀ j : Int, apart_0 j = apart_1 j) (hE_0_89_2 : ∀ j : Int, apart_1 j = apart_2 j) (hE_0_90_1 : ∀ j : Int, flow_0 j = flow_1 j) (hE_0_90_2 : ∀ j : Int, flow_1 j = flow_2 j) (hE_0_91_1 : ∀ j : Int, cameBy_0 j = cameBy_1 j) (hE_0_92_2 : ∀ j : Int, queue_1 j = queue_2 j) (kz_0_79 : 0 ≤ pointMany_0 ∧ pointMany_0 ≤ 76) (kz_0_80 : 0 ≤ costMany_0 ∧ costMany_0 ≤ 200) (kz_0_81 : 0 ≤ apartMany_0 ∧ apartMany_0 ≤ 200) : x3 = (pointMany_0 + 1) := by
  subst fe_0_79_1
  subst fe_0_80_1
  subst fe_0_81_1
  subst fe_0_79_2
  subst fe_0_80_2
  subst fe_0_81_2
  have e_hE_0_82_1 := funext hE_0_82_1; subst e_hE_0_82_1
  have e_hE_0_82_2 := funext hE_0_82_2; subst e_hE_0_82_2
  have e_hE_0_83_1 := funext hE_0_83_1; subst e_hE_0_83_1
  have e_hE_0_83_2 := funext hE_0_83_2; subst e_hE_0_83_2
  have e_hE_0_84_1 := funext hE_0_84_1; subst e_hE_0_84_1
  have e_hE_0_84_2 := funext hE_0_84_2; subst e_hE_0_84_2
  have e_hE_0_85_1 := funext hE_0_85_1; subst e_hE_0_85_1
  have e_hE_0_85_2 := funext hE_0_85_2; subst e_hE_0_85_2
  have e_hE_0_86_1 := funext hE_0_86_1; subst e_hE_0_86_1
  have e_hE_0_86_2 := funext hE_0_86_2; subst e_hE_0_86_2
  have e_hE_0_87_1 := funext hE_0_87_1; subst e_hE_0_87_1
  have e_hE_0_87_2 := funext hE_0_87_2; subst e_hE_0_87_2
  have e_hE_0_88_1 := funext hE_0_88_1; subst e_hE_0_88_1
  have e_hE_0_88_2 := funext hE_0_88_2; subst e_hE_0_88_2
  have e_hE_0_89_1 := funext hE_0_89_1; subst e_hE_0_89_1
  have e_hE_0_89_2 := funext hE_0_89_2; subst e_hE_0_89_2
  have e_hE_0_90_1 := funext hE_0_90_1; subst e_hE_0_90_1
  have e_hE_0_90_2 := funext hE_0_90_2; subst e_hE_0_90_2
  have e_hE_0_91_1 := funext hE_0_91_1; subst e_hE_0_91_1
  have e_hE_0_92_2 := funext hE_0_92_2; subst e_hE_0_92_2
  first
    | omega
    | (have h := au1_len ‹AU1 _ _ _ _ _›; omega)
set_option maxHeartbeats 4000000 in
theorem vc_Mo_augment_1_6 (pointMany_0 : Int) (flow_0 : Int → Int) (spot_0 : Int → Int) (costA_0 : Int → Int) (costB_0 : Int → Int) (costW_0 : Int → Int) (costPlain_0 : Int → Int) (apartA_0 : Int → Int) (apartB_0 : Int → Int) (apart_0 : Int → Int) (costMany_0 : Int) (apartMany_0 : Int) (pointMany_1 : Int) (flow_1 : Int → Int) (spot_1 : Int → Int) (costA_1 : Int → Int) (costB_1 : Int → Int) (costW_1 : Int → Int) (costPlain_1 : Int → Int) (apartA_1 : Int → Int) (apartB_1 : Int → Int) (apart_1 : Int → Int) (costMany_1 : Int) (apartMany_1 : Int) (pointMany_2 : Int) (flow_2 : Int → Int) (spot_2 : Int → Int) (costA_2 : Int → Int) (costB_2 : Int → Int) (costW_2 : Int → Int) (costPlain_2 : Int → Int) (apartA_2 : Int → Int) (apartB_2 : Int → Int) (apart_2 : Int → Int) (costMany_2 : Int) (apartMany_2 : Int) (cameBy_0 : Int → Int) (cameBy_1 : Int → Int) (queue_1 : Int → Int) (queue_2 : Int → Int) (f31 : FLO (pointMany_2) (costMany_2) (apartMany_2) (flow_2) (spot_2) (costA_2) (costB_2) (costW_2) (costPlain_2) (apartA_2) (apartB_2) (apart_2)) (fe_0_79_1 : pointMany_0 = pointMany_1) (fe_0_80_1 : costMany_0 = costMany_1) (fe_0_81_1 : apartMany_0 = apartMany_1) (fe_0_79_2 : pointMany_1 = pointMany_2) (fe_0_80_2 : costMany_1 = costMany_2) (fe_0_81_2 : apartMany_1 = apartMany_2) (hE_0_82_1 : ∀ j : Int, spot_0 j = spot_1 j) (hE_0_82_2 : ∀ j : Int, spot_1 j = spot_2 j) (hE_0_83_1 : ∀ j : Int, costA_0 j = costA_1 j) (hE_0_83_2 : ∀ j : Int, costA_1 j = costA_2 j) (hE_0_84_1 : ∀ j : Int, costB_0 j = costB_1 j) (hE_0_84_2 : ∀ j : Int, costB_1 j = costB_2 j) (hE_0_85_1 : ∀ j : Int, costW_0 j = costW_1 j) (hE_0_85_2 : ∀ j : Int, costW_1 j = costW_2 j) (hE_0_86_1 : ∀ j : Int, costPlain_0 j = costPlain_1 j) (hE_0_86_2 : ∀ j : Int, costPlain_1 j = costPlain_2 j) (hE_0_87_1 : ∀ j : Int, apartA_0 j = apartA_1 j) (hE_0_87_2 : ∀ j : Int, apartA_1 j = apartA_2 j) (hE_0_88_1 : ∀ j : Int, apartB_0 j = apartB_1 j) (hE_0_88_2 : ∀ j : Int, apartB_1 j = apartB_2 j) (hE_0_89_1 : ∀ j : Int, apart_0 j = apart_1 j) (hE_0_89_2 : ∀ j : Int, apart_1 j = apart_2 j) (hE_0_90_1 : ∀ j : Int, flow_0 j = flow_1 j) (hE_0_90_2 : ∀ j : Int, flow_1 j = flow_2 j) (hE_0_91_1 : ∀ j : Int, cameBy_0 j = cameBy_1 j) (hE_0_92_2 : ∀ j : Int, queue_1 j = queue_2 j) (kz_0_79 : 0 ≤ pointMany_0 ∧ pointMany_0 ≤ 76) (kz_0_80 : 0 ≤ costMany_0 ∧ costMany_0 ≤ 200) (kz_0_81 : 0 ≤ apartMany_0 ∧ apartMany_0 ≤ 200) : FLO (pointMany_0) (costMany_0) (apartMany_0) (flow_0) (spot_0) (costA_0) (costB_0) (costW_0) (costPlain_0) (apartA_0) (apartB_0) (apart_0) := by
  subst fe_0_79_1
  subst fe_0_80_1
  subst fe_0_81_1
  subst fe_0_79_2
  subst fe_0_80_2
  subst fe_0_81_2
  have e_hE_0_82_1 := funext hE_0_82_1; subst e_hE_0_82_1
  have e_hE_0_82_2 := funext hE_0_82_2; subst e_hE_0_82_2
  have e_hE_0_83_1 := funext hE_0_83_1; subst e_hE_0_83_1
  have e_hE_0_83_2 := funext hE_0_83_2; subst e_hE_0_83_2
  have e_hE_0_84_1 := funext hE_0_84_1; subst e_hE_0_84_1
  have e_hE_0_84_2 := funext hE_0_84_2; subst e_hE_0_84_2
  have e_hE_0_85_1 := funext hE_0_85_1; subst e_hE_0_85_1
  have e_hE_0_85_2 := funext hE_0_85_2; subst e_hE_0_85_2
  have e_hE_0_86_1 := funext hE_0_86_1; subst e_hE_0_86_1
  have e_hE_0_86_2 := funext hE_0_86_2; subst e_hE_0_86_2
  have e_hE_0_87_1 := funext hE_0_87_1; subst e_hE_0_87_1
  have e_hE_0_87_2 := funext hE_0_87_2; subst e_hE_0_87_2
  have e_hE_0_88_1 := funext hE_0_88_1; subst e_hE_0_88_1
  have e_hE_0_88_2 := funext hE_0_88_2; subst e_hE_0_88_2
  have e_hE_0_89_1 := funext hE_0_89_1; subst e_hE_0_89_1
  have e_hE_0_89_2 := funext hE_0_89_2; subst e_hE_0_89_2
  have e_hE_0_90_1 := funext hE_0_90_1; subst e_hE_0_90_1
  have e_hE_0_90_2 := funext hE_0_90_2; subst e_hE_0_90_2
  have e_hE_0_91_1 := funext hE_0_91_1; subst e_hE_0_91_1
  have e_hE_0_92_2 := funext hE_0_92_2; subst e_hE_0_92_2
  first
    | assumption
    | exact (psh_end ‹PSH _ _ _ _ _ _ _ _ _ _ _ _ _ _ _ _› (by omega)).1
set_option maxHeartbeats 4000000 in
theorem vc_Mo_augment_1_7 (x4 : Int) (pointMany_0 : Int) (flow_0 : Int → Int) (spot_0 : Int → Int) (costA_0 : Int → Int) (costB_0 : Int → Int) (costW_0 : Int → Int) (costPlain_0 : Int → Int) (apartA_0 : Int → Int) (apartB_0 : Int → Int) (apart_0 : Int → Int) (costMany_0 : Int) (apartMany_0 : Int) (pointMany_1 : Int) (flow_1 : Int → Int) (spot_1 : Int → Int) (costA_1 : Int → Int) (costB_1 : Int → Int) (costW_1 : Int → Int) (costPlain_1 : Int → Int) (apartA_1 : Int → Int) (apartB_1 : Int → Int) (apart_1 : Int → Int) (costMany_1 : Int) (apartMany_1 : Int) (pointMany_2 : Int) (flow_2 : Int → Int) (spot_2 : Int → Int) (costA_2 : Int → Int) (costB_2 : Int → Int) (costW_2 : Int → Int) (costPlain_2 : Int → Int) (apartA_2 : Int → Int) (apartB_2 : Int → Int) (apart_2 : Int → Int) (costMany_2 : Int) (apartMany_2 : Int) (cameBy_0 : Int → Int) (cameBy_1 : Int → Int) (queue_1 : Int → Int) (queue_2 : Int → Int) (k4 : (-2) ≤ x4 ∧ x4 ≤ 180000001) (f32 : XLE (pointMany_2) (flow_2) (x4)) (fe_0_79_1 : pointMany_0 = pointMany_1) (fe_0_80_1 : costMany_0 = costMany_1) (fe_0_81_1 : apartMany_0 = apartMany_1) (fe_0_79_2 : pointMany_1 = pointMany_2) (fe_0_80_2 : costMany_1 = costMany_2) (fe_0_81_2 : apartMany_1 = apartMany_2) (hE_0_82_1 : ∀ j : Int, spot_0 j = spot_1 j) (hE_0_82_2 : ∀ j : Int, spot_1 j = spot_2 j) (hE_0_83_1 : ∀ j : Int, costA_0 j = costA_1 j) (hE_0_83_2 : ∀ j : Int, costA_1 j = costA_2 j) (hE_0_84_1 : ∀ j : Int, costB_0 j = costB_1 j) (hE_0_84_2 : ∀ j : Int, costB_1 j = costB_2 j) (hE_0_85_1 : ∀ j : Int, costW_0 j = costW_1 j) (hE_0_85_2 : ∀ j : Int, costW_1 j = costW_2 j) (hE_0_86_1 : ∀ j : Int, costPlain_0 j = costPlain_1 j) (hE_0_86_2 : ∀ j : Int, costPlain_1 j = costPlain_2 j) (hE_0_87_1 : ∀ j : Int, apartA_0 j = apartA_1 j) (hE_0_87_2 : ∀ j : Int, apartA_1 j = apartA_2 j) (hE_0_88_1 : ∀ j : Int, apartB_0 j = apartB_1 j) (hE_0_88_2 : ∀ j : Int, apartB_1 j = apartB_2 j) (hE_0_89_1 : ∀ j : Int, apart_0 j = apart_1 j) (hE_0_89_2 : ∀ j : Int, apart_1 j = apart_2 j) (hE_0_90_1 : ∀ j : Int, flow_0 j = flow_1 j) (hE_0_90_2 : ∀ j : Int, flow_1 j = flow_2 j) (hE_0_91_1 : ∀ j : Int, cameBy_0 j = cameBy_1 j) (hE_0_92_2 : ∀ j : Int, queue_1 j = queue_2 j) (kz_0_79 : 0 ≤ pointMany_0 ∧ pointMany_0 ≤ 76) (kz_0_80 : 0 ≤ costMany_0 ∧ costMany_0 ≤ 200) (kz_0_81 : 0 ≤ apartMany_0 ∧ apartMany_0 ≤ 200) : XLE (pointMany_0) (flow_0) (x4) := by
  subst fe_0_79_1
  subst fe_0_80_1
  subst fe_0_81_1
  subst fe_0_79_2
  subst fe_0_80_2
  subst fe_0_81_2
  have e_hE_0_82_1 := funext hE_0_82_1; subst e_hE_0_82_1
  have e_hE_0_82_2 := funext hE_0_82_2; subst e_hE_0_82_2
  have e_hE_0_83_1 := funext hE_0_83_1; subst e_hE_0_83_1
  have e_hE_0_83_2 := funext hE_0_83_2; subst e_hE_0_83_2
  have e_hE_0_84_1 := funext hE_0_84_1; subst e_hE_0_84_1
  have e_hE_0_84_2 := funext hE_0_84_2; subst e_hE_0_84_2
  have e_hE_0_85_1 := funext hE_0_85_1; subst e_hE_0_85_1
  have e_hE_0_85_2 := funext hE_0_85_2; subst e_hE_0_85_2
  have e_hE_0_86_1 := funext hE_0_86_1; subst e_hE_0_86_1
  have e_hE_0_86_2 := funext hE_0_86_2; subst e_hE_0_86_2
  have e_hE_0_87_1 := funext hE_0_87_1; subst e_hE_0_87_1
  have e_hE_0_87_2 := funext hE_0_87_2; subst e_hE_0_87_2
  have e_hE_0_88_1 := funext hE_0_88_1; subst e_hE_0_88_1
  have e_hE_0_88_2 := funext hE_0_88_2; subst e_hE_0_88_2
  have e_hE_0_89_1 := funext hE_0_89_1; subst e_hE_0_89_1
  have e_hE_0_89_2 := funext hE_0_89_2; subst e_hE_0_89_2
  have e_hE_0_90_1 := funext hE_0_90_1; subst e_hE_0_90_1
  have e_hE_0_90_2 := funext hE_0_90_2; subst e_hE_0_90_2
  have e_hE_0_91_1 := funext hE_0_91_1; subst e_hE_0_91_1
  have e_hE_0_92_2 := funext hE_0_92_2; subst e_hE_0_92_2
  assumption
set_option maxHeartbeats 4000000 in
theorem vc_Mo_augment_1_8 (x1 : Int) (x2 : Int) (x9 : Int) (pointMany_0 : Int) (flow_0 : Int → Int) (spot_0 : Int → Int) (costA_0 : Int → Int) (costB_0 : Int → Int) (costW_0 : Int → Int) (costPlain_0 : Int → Int) (apartA_0 : Int → Int) (apartB_0 : Int → Int) (apart_0 : Int → Int) (costMany_0 : Int) (apartMany_0 : Int) (pointMany_1 : Int) (flow_1 : Int → Int) (spot_1 : Int → Int) (costA_1 : Int → Int) (costB_1 : Int → Int) (costW_1 : Int → Int) (costPlain_1 : Int → Int) (apartA_1 : Int → Int) (apartB_1 : Int → Int) (apart_1 : Int → Int) (costMany_1 : Int) (apartMany_1 : Int) (pointMany_2 : Int) (flow_2 : Int → Int) (spot_2 : Int → Int) (costA_2 : Int → Int) (costB_2 : Int → Int) (costW_2 : Int → Int) (costPlain_2 : Int → Int) (apartA_2 : Int → Int) (apartB_2 : Int → Int) (apart_2 : Int → Int) (costMany_2 : Int) (apartMany_2 : Int) (cameBy_2 : Int → Int) (cameBy_0 : Int → Int) (cameBy_1 : Int → Int) (queue_1 : Int → Int) (queue_2 : Int → Int) (k1 : 2 ≤ x1 ∧ x1 ≤ 78) (k2 : 0 ≤ x2 ∧ x2 ≤ 76) (k9 : 2 ≤ x9 ∧ x9 ≤ 78) (f24 : x1 ≤ x9) (f33 : AU0 (cameBy_2) (x9)) (fe_0_79_1 : pointMany_0 = pointMany_1) (fe_0_80_1 : costMany_0 = costMany_1) (fe_0_81_1 : apartMany_0 = apartMany_1) (fe_0_79_2 : pointMany_1 = pointMany_2) (fe_0_80_2 : costMany_1 = costMany_2) (fe_0_81_2 : apartMany_1 = apartMany_2) (hE_0_82_1 : ∀ j : Int, spot_0 j = spot_1 j) (hE_0_82_2 : ∀ j : Int, spot_1 j = spot_2 j) (hE_0_83_1 : ∀ j : Int, costA_0 j = costA_1 j) (hE_0_83_2 : ∀ j : Int, costA_1 j = costA_2 j) (hE_0_84_1 : ∀ j : Int, costB_0 j = costB_1 j) (hE_0_84_2 : ∀ j : Int, costB_1 j = costB_2 j) (hE_0_85_1 : ∀ j : Int, costW_0 j = costW_1 j) (hE_0_85_2 : ∀ j : Int, costW_1 j = costW_2 j) (hE_0_86_1 : ∀ j : Int, costPlain_0 j = costPlain_1 j) (hE_0_86_2 : ∀ j : Int, costPlain_1 j = costPlain_2 j) (hE_0_87_1 : ∀ j : Int, apartA_0 j = apartA_1 j) (hE_0_87_2 : ∀ j : Int, apartA_1 j = apartA_2 j) (hE_0_88_1 : ∀ j : Int, apartB_0 j = apartB_1 j) (hE_0_88_2 : ∀ j : Int, apartB_1 j = apartB_2 j) (hE_0_89_1 : ∀ j : Int, apart_0 j = apart_1 j) (hE_0_89_2 : ∀ j : Int, apart_1 j = apart_2 j) (hE_0_90_1 : ∀ j : Int, flow_0 j = flow_1 j) (hE_0_90_2 : ∀ j : Int, flow_1 j = flow_2 j) (hE_0_91_1 : ∀ j : Int, cameBy_0 j = cameBy_1 j) (hE_0_91_2 : ∀ j : Int, 0 ≤ j → (j = x2 → cameBy_1 j = x2) ∧ (j ≠ x2 → cameBy_1 j = cameBy_2 j)) (hE_0_92_2 : ∀ j : Int, queue_1 j = queue_2 j) (kz_0_79 : 0 ≤ pointMany_0 ∧ pointMany_0 ≤ 76) (kz_0_80 : 0 ≤ costMany_0 ∧ costMany_0 ≤ 200) (kz_0_81 : 0 ≤ apartMany_0 ∧ apartMany_0 ≤ 200) : FPT (flow_0) (cameBy_0) (x1) (x2) := by
  subst fe_0_79_1
  subst fe_0_80_1
  subst fe_0_81_1
  subst fe_0_79_2
  subst fe_0_80_2
  subst fe_0_81_2
  have e_hE_0_82_1 := funext hE_0_82_1; subst e_hE_0_82_1
  have e_hE_0_82_2 := funext hE_0_82_2; subst e_hE_0_82_2
  have e_hE_0_83_1 := funext hE_0_83_1; subst e_hE_0_83_1
  have e_hE_0_83_2 := funext hE_0_83_2; subst e_hE_0_83_2
  have e_hE_0_84_1 := funext hE_0_84_1; subst e_hE_0_84_1
  have e_hE_0_84_2 := funext hE_0_84_2; subst e_hE_0_84_2
  have e_hE_0_85_1 := funext hE_0_85_1; subst e_hE_0_85_1
  have e_hE_0_85_2 := funext hE_0_85_2; subst e_hE_0_85_2
  have e_hE_0_86_1 := funext hE_0_86_1; subst e_hE_0_86_1
  have e_hE_0_86_2 := funext hE_0_86_2; subst e_hE_0_86_2
  have e_hE_0_87_1 := funext hE_0_87_1; subst e_hE_0_87_1
  have e_hE_0_87_2 := funext hE_0_87_2; subst e_hE_0_87_2
  have e_hE_0_88_1 := funext hE_0_88_1; subst e_hE_0_88_1
  have e_hE_0_88_2 := funext hE_0_88_2; subst e_hE_0_88_2
  have e_hE_0_89_1 := funext hE_0_89_1; subst e_hE_0_89_1
  have e_hE_0_89_2 := funext hE_0_89_2; subst e_hE_0_89_2
  have e_hE_0_90_1 := funext hE_0_90_1; subst e_hE_0_90_1
  have e_hE_0_90_2 := funext hE_0_90_2; subst e_hE_0_90_2
  have e_hE_0_91_1 := funext hE_0_91_1; subst e_hE_0_91_1
  have e_hE_0_92_2 := funext hE_0_92_2; subst e_hE_0_92_2
  first
    | assumption
    | exact fpt_start ‹AU0 _ _› (by omega) (by assumption) (by omega)
    | exact fpt_step2 ‹FPT _ _ _ _› (by assumption) rfl (by assumption) (by assumption) (by assumption) (by assumption) (by omega)
set_option maxHeartbeats 4000000 in
theorem vc_Mo_augment_1_9 (x1 : Int) (x2 : Int) (x3 : Int) (x6 : Int) (x7 : Int) (x8 : Int) (x9 : Int) (x12 : Int) (x14 : Int) (pointMany_0 : Int) (flow_0 : Int → Int) (spot_0 : Int → Int) (costA_0 : Int → Int) (costB_0 : Int → Int) (costW_0 : Int → Int) (costPlain_0 : Int → Int) (apartA_0 : Int → Int) (apartB_0 : Int → Int) (apart_0 : Int → Int) (costMany_0 : Int) (apartMany_0 : Int) (pointMany_1 : Int) (flow_1 : Int → Int) (spot_1 : Int → Int) (costA_1 : Int → Int) (costB_1 : Int → Int) (costW_1 : Int → Int) (costPlain_1 : Int → Int) (apartA_1 : Int → Int) (apartB_1 : Int → Int) (apart_1 : Int → Int) (costMany_1 : Int) (apartMany_1 : Int) (pointMany_2 : Int) (flow_2 : Int → Int) (spot_2 : Int → Int) (costA_2 : Int → Int) (costB_2 : Int → Int) (costW_2 : Int → Int) (costPlain_2 : Int → Int) (apartA_2 : Int → Int) (apartB_2 : Int → Int) (apart_2 : Int → Int) (costMany_2 : Int) (apartMany_2 : Int) (cameBy_2 : Int → Int) (cameBy_0 : Int → Int) (cameBy_1 : Int → Int) (queue_0 : Int → Int) (queue_1 : Int → Int) (queue_2 : Int → Int) (k1 : 2 ≤ x1 ∧ x1 ≤ 78) (k2 : 0 ≤ x2 ∧ x2 ≤ 76) (k3 : 1 ≤ x3 ∧ x3 ≤ 77) (k6 : 2 ≤ x6 ∧ x6 ≤ 78) (k7 : 0 ≤ x7 ∧ x7 ≤ 76) (k8 : 1 ≤ x8 ∧ x8 ≤ 77) (k9 : 2 ≤ x9 ∧ x9 ≤ 78) (k12 : 1 ≤ x12 ∧ x12 ≤ 1) (k14 : 0 ≤ x14 ∧ x14 ≤ 0) (d0 : x6 + 0 ≤ x9 ∧ x9 ≤ x6 + 4294967296) (d1 : x6 + (-4294967296) ≤ x1 ∧ x1 ≤ x6 + 0) (d2 : x7 + (-4294967296) ≤ x2 ∧ x2 ≤ x7 + 0) (d3 : x8 + (-4294967296) ≤ x3 ∧ x3 ≤ x8 + 0) (d4 : x1 + (-4294967296) ≤ x6 ∧ x6 ≤ x1 + 0) (d5 : x2 + (-4294967296) ≤ x7 ∧ x7 ≤ x2 + 0) (d6 : x3 + (-4294967296) ≤ x8 ∧ x8 ≤ x3 + 0) (d7 : x1 + (-4294967296) ≤ x9 ∧ x9 ≤ x1 + 0) (f3 : x1 = (pointMany_0 + 2)) (f4 : x2 = pointMany_0) (f5 : x3 = (pointMany_0 + 1)) (f24 : x1 ≤ x9) (f27 : x1 ≤ 78) (f33 : AU0 (cameBy_2) (x9)) (fe_0_79_1 : pointMany_0 = pointMany_1) (fe_0_80_1 : costMany_0 = costMany_1) (fe_0_81_1 : apartMany_0 = apartMany_1) (fe_0_79_2 : pointMany_1 = pointMany_2) (fe_0_80_2 : costMany_1 = costMany_2) (fe_0_81_2 : apartMany_1 = apartMany_2) (hE_0_82_1 : ∀ j : Int, spot_0 j = spot_1 j) (hE_0_82_2 : ∀ j : Int, spot_1 j = spot_2 j) (hE_0_83_1 : ∀ j : Int, costA_0 j = costA_1 j) (hE_0_83_2 : ∀ j : Int, costA_1 j = costA_2 j) (hE_0_84_1 : ∀ j : Int, costB_0 j = costB_1 j) (hE_0_84_2 : ∀ j : Int, costB_1 j = costB_2 j) (hE_0_85_1 : ∀ j : Int, costW_0 j = costW_1 j) (hE_0_85_2 : ∀ j : Int, costW_1 j = costW_2 j) (hE_0_86_1 : ∀ j : Int, costPlain_0 j = costPlain_1 j) (hE_0_86_2 : ∀ j : Int, costPlain_1 j = costPlain_2 j) (hE_0_87_1 : ∀ j : Int, apartA_0 j = apartA_1 j) (hE_0_87_2 : ∀ j : Int, apartA_1 j = apartA_2 j) (hE_0_88_1 : ∀ j : Int, apartB_0 j = apartB_1 j) (hE_0_88_2 : ∀ j : Int, apartB_1 j = apartB_2 j) (hE_0_89_1 : ∀ j : Int, apart_0 j = apart_1 j) (hE_0_89_2 : ∀ j : Int, apart_1 j = apart_2 j) (hE_0_90_1 : ∀ j : Int, flow_0 j = flow_1 j) (hE_0_90_2 : ∀ j : Int, flow_1 j = flow_2 j) (hE_0_91_1 : ∀ j : Int, cameBy_0 j = cameBy_1 j) (hE_0_91_2 : ∀ j : Int, 0 ≤ j → (j = x2 → cameBy_1 j = x2) ∧ (j ≠ x2 → cameBy_1 j = cameBy_2 j)) (hE_0_92_1 : ∀ j : Int, 0 ≤ j → (j = x14 → queue_0 j = x2) ∧ (j ≠ x14 → queue_0 j = queue_1 j)) (hE_0_92_2 : ∀ j : Int, queue_1 j = queue_2 j) (kz_0_79 : 0 ≤ pointMany_0 ∧ pointMany_0 ≤ 76) (kz_0_80 : 0 ≤ costMany_0 ∧ costMany_0 ≤ 200) (kz_0_81 : 0 ≤ apartMany_0 ∧ apartMany_0 ≤ 200) : AU1 (queue_0) (cameBy_0) (x1) (x2) (x12) := by
  subst fe_0_79_1
  subst fe_0_80_1
  subst fe_0_81_1
  subst fe_0_79_2
  subst fe_0_80_2
  subst fe_0_81_2
  have e_hE_0_82_1 := funext hE_0_82_1; subst e_hE_0_82_1
  have e_hE_0_82_2 := funext hE_0_82_2; subst e_hE_0_82_2
  have e_hE_0_83_1 := funext hE_0_83_1; subst e_hE_0_83_1
  have e_hE_0_83_2 := funext hE_0_83_2; subst e_hE_0_83_2
  have e_hE_0_84_1 := funext hE_0_84_1; subst e_hE_0_84_1
  have e_hE_0_84_2 := funext hE_0_84_2; subst e_hE_0_84_2
  have e_hE_0_85_1 := funext hE_0_85_1; subst e_hE_0_85_1
  have e_hE_0_85_2 := funext hE_0_85_2; subst e_hE_0_85_2
  have e_hE_0_86_1 := funext hE_0_86_1; subst e_hE_0_86_1
  have e_hE_0_86_2 := funext hE_0_86_2; subst e_hE_0_86_2
  have e_hE_0_87_1 := funext hE_0_87_1; subst e_hE_0_87_1
  have e_hE_0_87_2 := funext hE_0_87_2; subst e_hE_0_87_2
  have e_hE_0_88_1 := funext hE_0_88_1; subst e_hE_0_88_1
  have e_hE_0_88_2 := funext hE_0_88_2; subst e_hE_0_88_2
  have e_hE_0_89_1 := funext hE_0_89_1; subst e_hE_0_89_1
  have e_hE_0_89_2 := funext hE_0_89_2; subst e_hE_0_89_2
  have e_hE_0_90_1 := funext hE_0_90_1; subst e_hE_0_90_1
  have e_hE_0_90_2 := funext hE_0_90_2; subst e_hE_0_90_2
  have e_hE_0_91_1 := funext hE_0_91_1; subst e_hE_0_91_1
  have e_hE_0_92_2 := funext hE_0_92_2; subst e_hE_0_92_2
  first
    | assumption
    | exact au1_start ‹AU0 _ _› (by omega) (by omega) (by omega) (by omega) (by assumption) (by omega) (by omega) (by assumption) (by omega) (by omega) (by omega)
    | exact ‹AU2 _ _ _ _ _ _›.1
set_option maxHeartbeats 4000000 in
theorem vc_Mo_augment_1_10 (x11 : Int) (pointMany_0 : Int) (flow_0 : Int → Int) (spot_0 : Int → Int) (costA_0 : Int → Int) (costB_0 : Int → Int) (costW_0 : Int → Int) (costPlain_0 : Int → Int) (apartA_0 : Int → Int) (apartB_0 : Int → Int) (apart_0 : Int → Int) (costMany_0 : Int) (apartMany_0 : Int) (pointMany_1 : Int) (flow_1 : Int → Int) (spot_1 : Int → Int) (costA_1 : Int → Int) (costB_1 : Int → Int) (costW_1 : Int → Int) (costPlain_1 : Int → Int) (apartA_1 : Int → Int) (apartB_1 : Int → Int) (apart_1 : Int → Int) (costMany_1 : Int) (apartMany_1 : Int) (pointMany_2 : Int) (flow_2 : Int → Int) (spot_2 : Int → Int) (costA_2 : Int → Int) (costB_2 : Int → Int) (costW_2 : Int → Int) (costPlain_2 : Int → Int) (apartA_2 : Int → Int) (apartB_2 : Int → Int) (apart_2 : Int → Int) (costMany_2 : Int) (apartMany_2 : Int) (cameBy_0 : Int → Int) (cameBy_1 : Int → Int) (queue_1 : Int → Int) (queue_2 : Int → Int) (gx : Int) (k11 : 0 ≤ x11 ∧ x11 ≤ 0) (fe_0_79_1 : pointMany_0 = pointMany_1) (fe_0_80_1 : costMany_0 = costMany_1) (fe_0_81_1 : apartMany_0 = apartMany_1) (fe_0_79_2 : pointMany_1 = pointMany_2) (fe_0_80_2 : costMany_1 = costMany_2) (fe_0_81_2 : apartMany_1 = apartMany_2) (hE_0_82_1 : ∀ j : Int, spot_0 j = spot_1 j) (hE_0_82_2 : ∀ j : Int, spot_1 j = spot_2 j) (hE_0_83_1 : ∀ j : Int, costA_0 j = costA_1 j) (hE_0_83_2 : ∀ j : Int, costA_1 j = costA_2 j) (hE_0_84_1 : ∀ j : Int, costB_0 j = costB_1 j) (hE_0_84_2 : ∀ j : Int, costB_1 j = costB_2 j) (hE_0_85_1 : ∀ j : Int, costW_0 j = costW_1 j) (hE_0_85_2 : ∀ j : Int, costW_1 j = costW_2 j) (hE_0_86_1 : ∀ j : Int, costPlain_0 j = costPlain_1 j) (hE_0_86_2 : ∀ j : Int, costPlain_1 j = costPlain_2 j) (hE_0_87_1 : ∀ j : Int, apartA_0 j = apartA_1 j) (hE_0_87_2 : ∀ j : Int, apartA_1 j = apartA_2 j) (hE_0_88_1 : ∀ j : Int, apartB_0 j = apartB_1 j) (hE_0_88_2 : ∀ j : Int, apartB_1 j = apartB_2 j) (hE_0_89_1 : ∀ j : Int, apart_0 j = apart_1 j) (hE_0_89_2 : ∀ j : Int, apart_1 j = apart_2 j) (hE_0_90_1 : ∀ j : Int, flow_0 j = flow_1 j) (hE_0_90_2 : ∀ j : Int, flow_1 j = flow_2 j) (hE_0_91_1 : ∀ j : Int, cameBy_0 j = cameBy_1 j) (hE_0_92_2 : ∀ j : Int, queue_1 j = queue_2 j) (kz_0_79 : 0 ≤ pointMany_0 ∧ pointMany_0 ≤ 76) (kz_0_80 : 0 ≤ costMany_0 ∧ costMany_0 ≤ 200) (kz_0_81 : 0 ≤ apartMany_0 ∧ apartMany_0 ≤ 200) (ex2 : gx = 79) : (-1) * x11 + ((-1) * gx + 0) ≤ (-78) := by
  subst fe_0_79_1
  subst fe_0_80_1
  subst fe_0_81_1
  subst fe_0_79_2
  subst fe_0_80_2
  subst fe_0_81_2
  have e_hE_0_82_1 := funext hE_0_82_1; subst e_hE_0_82_1
  have e_hE_0_82_2 := funext hE_0_82_2; subst e_hE_0_82_2
  have e_hE_0_83_1 := funext hE_0_83_1; subst e_hE_0_83_1
  have e_hE_0_83_2 := funext hE_0_83_2; subst e_hE_0_83_2
  have e_hE_0_84_1 := funext hE_0_84_1; subst e_hE_0_84_1
  have e_hE_0_84_2 := funext hE_0_84_2; subst e_hE_0_84_2
  have e_hE_0_85_1 := funext hE_0_85_1; subst e_hE_0_85_1
  have e_hE_0_85_2 := funext hE_0_85_2; subst e_hE_0_85_2
  have e_hE_0_86_1 := funext hE_0_86_1; subst e_hE_0_86_1
  have e_hE_0_86_2 := funext hE_0_86_2; subst e_hE_0_86_2
  have e_hE_0_87_1 := funext hE_0_87_1; subst e_hE_0_87_1
  have e_hE_0_87_2 := funext hE_0_87_2; subst e_hE_0_87_2
  have e_hE_0_88_1 := funext hE_0_88_1; subst e_hE_0_88_1
  have e_hE_0_88_2 := funext hE_0_88_2; subst e_hE_0_88_2
  have e_hE_0_89_1 := funext hE_0_89_1; subst e_hE_0_89_1
  have e_hE_0_89_2 := funext hE_0_89_2; subst e_hE_0_89_2
  have e_hE_0_90_1 := funext hE_0_90_1; subst e_hE_0_90_1
  have e_hE_0_90_2 := funext hE_0_90_2; subst e_hE_0_90_2
  have e_hE_0_91_1 := funext hE_0_91_1; subst e_hE_0_91_1
  have e_hE_0_92_2 := funext hE_0_92_2; subst e_hE_0_92_2
  first
    | omega
    | (have h := au1_len ‹AU1 _ _ _ _ _›; omega)
set_option maxHeartbeats 4000000 in
theorem vc_Mo_augment_1_11 (x1 : Int) (x11 : Int) (pointMany_0 : Int) (flow_0 : Int → Int) (spot_0 : Int → Int) (costA_0 : Int → Int) (costB_0 : Int → Int) (costW_0 : Int → Int) (costPlain_0 : Int → Int) (apartA_0 : Int → Int) (apartB_0 : Int → Int) (apart_0 : Int → Int) (costMany_0 : Int) (apartMany_0 : Int) (pointMany_1 : Int) (flow_1 : Int → Int) (spot_1 : Int → Int) (costA_1 : Int → Int) (costB_1 : Int → Int) (costW_1 : Int → Int) (costPlain_1 : Int → Int) (apartA_1 : Int → Int) (apartB_1 : Int → Int) (apart_1 : Int → Int) (costMany_1 : Int) (apartMany_1 : Int) (pointMany_2 : Int) (flow_2 : Int → Int) (spot_2 : Int → Int) (costA_2 : Int → Int) (costB_2 : Int → Int) (costW_2 : Int → Int) (costPlain_2 : Int → Int) (apartA_2 : Int → Int) (apartB_2 : Int → Int) (apart_2 : Int → Int) (costMany_2 : Int) (apartMany_2 : Int) (cameBy_0 : Int → Int) (cameBy_1 : Int → Int) (queue_0 : Int → Int) (queue_1 : Int → Int) (queue_2 : Int → Int) (k1 : 2 ≤ x1 ∧ x1 ≤ 78) (k11 : 0 ≤ x11 ∧ x11 ≤ 0) (fe_0_79_1 : pointMany_0 = pointMany_1) (fe_0_80_1 : costMany_0 = costMany_1) (fe_0_81_1 : apartMany_0 = apartMany_1) (fe_0_79_2 : pointMany_1 = pointMany_2) (fe_0_80_2 : costMany_1 = costMany_2) (fe_0_81_2 : apartMany_1 = apartMany_2) (hE_0_82_1 : ∀ j : Int, spot_0 j = spot_1 j) (hE_0_82_2 : ∀ j : Int, spot_1 j = spot_2 j) (hE_0_83_1 : ∀ j : Int, costA_0 j = costA_1 j) (hE_0_83_2 : ∀ j : Int, costA_1 j = costA_2 j) (hE_0_84_1 : ∀ j : Int, costB_0 j = costB_1 j) (hE_0_84_2 : ∀ j : Int, costB_1 j = costB_2 j) (hE_0_85_1 : ∀ j : Int, costW_0 j = costW_1 j) (hE_0_85_2 : ∀ j : Int, costW_1 j = costW_2 j) (hE_0_86_1 : ∀ j : Int, costPlain_0 j = costPlain_1 j) (hE_0_86_2 : ∀ j : Int, costPlain_1 j = costPlain_2 j) (hE_0_87_1 : ∀ j : Int, apartA_0 j = apartA_1 j) (hE_0_87_2 : ∀ j : Int, apartA_1 j = apartA_2 j) (hE_0_88_1 : ∀ j : Int, apartB_0 j = apartB_1 j) (hE_0_88_2 : ∀ j : Int, apartB_1 j = apartB_2 j) (hE_0_89_1 : ∀ j : Int, apart_0 j = apart_1 j) (hE_0_89_2 : ∀ j : Int, apart_1 j = apart_2 j) (hE_0_90_1 : ∀ j : Int, flow_0 j = flow_1 j) (hE_0_90_2 : ∀ j : Int, flow_1 j = flow_2 j) (hE_0_91_1 : ∀ j : Int, cameBy_0 j = cameBy_1 j) (hE_0_92_2 : ∀ j : Int, queue_1 j = queue_2 j) (kz_0_79 : 0 ≤ pointMany_0 ∧ pointMany_0 ≤ 76) (kz_0_80 : 0 ≤ costMany_0 ∧ costMany_0 ≤ 200) (kz_0_81 : 0 ≤ apartMany_0 ∧ apartMany_0 ≤ 200) : BF1 (flow_0) (queue_0) (cameBy_0) (x1) (x11) := by
  subst fe_0_79_1
  subst fe_0_80_1
  subst fe_0_81_1
  subst fe_0_79_2
  subst fe_0_80_2
  subst fe_0_81_2
  have e_hE_0_82_1 := funext hE_0_82_1; subst e_hE_0_82_1
  have e_hE_0_82_2 := funext hE_0_82_2; subst e_hE_0_82_2
  have e_hE_0_83_1 := funext hE_0_83_1; subst e_hE_0_83_1
  have e_hE_0_83_2 := funext hE_0_83_2; subst e_hE_0_83_2
  have e_hE_0_84_1 := funext hE_0_84_1; subst e_hE_0_84_1
  have e_hE_0_84_2 := funext hE_0_84_2; subst e_hE_0_84_2
  have e_hE_0_85_1 := funext hE_0_85_1; subst e_hE_0_85_1
  have e_hE_0_85_2 := funext hE_0_85_2; subst e_hE_0_85_2
  have e_hE_0_86_1 := funext hE_0_86_1; subst e_hE_0_86_1
  have e_hE_0_86_2 := funext hE_0_86_2; subst e_hE_0_86_2
  have e_hE_0_87_1 := funext hE_0_87_1; subst e_hE_0_87_1
  have e_hE_0_87_2 := funext hE_0_87_2; subst e_hE_0_87_2
  have e_hE_0_88_1 := funext hE_0_88_1; subst e_hE_0_88_1
  have e_hE_0_88_2 := funext hE_0_88_2; subst e_hE_0_88_2
  have e_hE_0_89_1 := funext hE_0_89_1; subst e_hE_0_89_1
  have e_hE_0_89_2 := funext hE_0_89_2; subst e_hE_0_89_2
  have e_hE_0_90_1 := funext hE_0_90_1; subst e_hE_0_90_1
  have e_hE_0_90_2 := funext hE_0_90_2; subst e_hE_0_90_2
  have e_hE_0_91_1 := funext hE_0_91_1; subst e_hE_0_91_1
  have e_hE_0_92_2 := funext hE_0_92_2; subst e_hE_0_92_2
  first
    | assumption
    | exact bf1_zero (by omega)
def o_Mo_augment_1 : or_T := (43, 15, [(0, (2, 0, 0, [165])), (1, (0, 2, 78, [])), (2, (0, 0, 76, [])), (3, (0, 1, 77, [])), (4, (0, -2, 180000001, [])), (6, (0, 2, 78, [])), (7, (0, 0, 76, [])), (8, (0, 1, 77, [])), (9, (0, 2, 78, [])), (10, (2, 0, 0, [228])), (11, (0, 0, 0, [])), (12, (0, 1, 1, [])), (13, (2, 0, 0, [229])), (14, (0, 0, 0, []))], [(20, [6, 5], [50, 1, 0, 1079, 1, 2, 1, 0, 4, 3, 2, 1, 79, 0, 2]), (20, [7, 5], [50, 1, 0, 1079, 1, 2, 1, 0, 2, 1, 79]), (20, [8, 5], [50, 1, 0, 1079, 1, 2, 1, 0, 4, 3, 2, 1, 79, 0, 1]), (24, [0, 5], []), (24, [1, 6], []), (24, [2, 7], []), (24, [3, 8], []), (100, [13, 14, 7], []), (9, [13, 5], [92]), (100, [10, 7, 7], []), (9, [10, 5], [91]), (7, [9, 6], [3]), (20, [7, 6], [50, 0, 0, 0, 6, 4, 2, 1, 0, 0, 1, 1, 1]), (20, [8, 6], [50, 0, 0, 0, 6, 4, 2, 1, 0, 0, 1, 1, 1]), (20, [6], [50, 0, 0, 0, 2, 1, 0, 0, 78]), (20, [6, 5], [50, 1, 0, 1079, 1, 2, 1, 0, 4, 3, 2, 1, 79, 0, 2]), (20, [7, 5], [50, 1, 0, 1079, 1, 2, 1, 0, 2, 1, 79]), (20, [8, 5], [50, 1, 0, 1079, 1, 2, 1, 0, 4, 3, 2, 1, 79, 0, 1]), (20, [5], [60, 3, 9, 397, 79, 80, 81, 90, 82, 83, 84, 85, 86, 87, 88, 89]), (20, [5, 4], [60, 1, 1, 398, 79, 90]), (20, [5, 9], [60, 0, 1, 391, 91])], [], [(0, -2, 79, [])], [(20, [7, 6], [50, 0, 0, 0, 6, 4, 2, 1, 0, 0, 1, 1, 1]), (20, [8, 6], [50, 0, 0, 0, 6, 4, 2, 1, 0, 0, 1, 1, 1]), (20, [6], [50, 0, 0, 0, 2, 1, 0, 0, 78]), (20, [6, 5], [50, 1, 0, 1079, 1, 2, 1, 0, 4, 3, 2, 1, 79, 0, 2]), (20, [7, 5], [50, 1, 0, 1079, 1, 2, 1, 0, 2, 1, 79]), (20, [8, 5], [50, 1, 0, 1079, 1, 2, 1, 0, 4, 3, 2, 1, 79, 0, 1]), (20, [5], [60, 3, 9, 397, 79, 80, 81, 90, 82, 83, 84, 85, 86, 87, 88, 89]), (20, [5, 4], [60, 1, 1, 398, 79, 90]), (20, [5, 6, 7], [60, 0, 2, 401, 90, 91]), (20, [5, 6, 7, 12], [60, 0, 2, 392, 92, 91]), (23, [11, 15], [-78, -1, -1]), (20, [5, 6, 11], [60, 0, 3, 402, 90, 92, 91]), (24, [0, 5], []), (24, [1, 6], []), (24, [2, 7], []), (24, [3, 8], [])], [], [(9, 6, 0, 4294967296), (1, 6, -4294967296, 0), (2, 7, -4294967296, 0), (3, 8, -4294967296, 0), (6, 1, -4294967296, 0), (7, 2, -4294967296, 0), (8, 3, -4294967296, 0), (9, 1, -4294967296, 0)])
theorem oo_Mo_augment_1 {kA : Nat → ClassId} : or_ok PRD kA GG o_Mo_augment_1 := by
  refine or_mk fun A ta ws vs hD hth hl => ?_
  intro t0 r0 t1 k1 t2 k2 t3 k3 t4 k4 t6 k6 t7 k7 t8 k8 t9 k9 t10 r10 t11 k11 t12 k12 t13 r13 t14 k14 d0 d1 d2 d3 d4 d5 d6 d7 f3 f4 f5 f8 f9 f10 f11 ta1 w1 le1 s1 f13 ta2 w2 le2 s2 f23 f24 f25 f26 f27 f28 f29 f30 f31 f32 f33
  replace f3 := shm_914 f3
  replace f4 := shm_915 f4
  replace f5 := shm_916 f5
  replace f8 := shm_5 f8
  replace f9 := shm_5 f9
  replace f10 := shm_5 f10
  replace f11 := shm_5 f11
  have s1 : (∀ b j, w_el ws b j = if b = v_ad (n_v vs 13) ∧ j = (v_iv (n_v vs 14)).toNat then v_iv (n_v vs 7) else w_el w1 b j) ∧ ∀ b k, w_fd ws b k = w_fd w1 b k := s1.2
  replace f13 := shm_920 f13
  have s2 : (∀ b j, w_el w1 b j = if b = v_ad (n_v vs 10) ∧ j = (v_iv (n_v vs 7)).toNat then v_iv (n_v vs 7) else w_el w2 b j) ∧ ∀ b k, w_fd w1 b k = w_fd w2 b k := s2.2
  replace f23 := shm_921 f23
  replace f24 := shm_2 f24
  replace f25 := shm_409 f25
  replace f26 := shm_409 f26
  replace f27 := shm_913 f27
  replace f28 := shm_914 f28
  replace f29 := shm_915 f29
  replace f30 := shm_916 f30
  replace f31 := shm_917 f31
  replace f32 := shm_918 f32
  replace f33 := shm_919 f33
  have q5 : n_v vs 5 = n_v vs 0 := f8.symm
  have q6 : n_v vs 6 = n_v vs 1 := f9.symm
  have q7 : n_v vs 7 = n_v vs 2 := f10.symm
  have q8 : n_v vs 8 = n_v vs 3 := f11.symm
  simp only [q6, q7, q8, q5] at f3 f4 f5
  rw [q7] at s1
  simp only [q5] at f13
  rw [q7] at s2
  simp only [q5, q6, q7, q8] at f23 f24 f25 f26 f27 f28 f29 f30 f31 f32 f33
  have ar_0_82_1 : w_ar w1 (n_v vs 0) 82 = w_ar ws (n_v vs 0) 82 := congrArg v_ad (s1.2 _ _).symm
  have ar_0_82_2 : w_ar w2 (n_v vs 0) 82 = w_ar ws (n_v vs 0) 82 := by rw [← ar_0_82_1]; show v_ad (w_fd w2 _ _) = v_ad (w_fd w1 _ _); rw [s2.2]
  have cr_0_82 := fdq_225 hD hth r0
  have ar_0_83_1 : w_ar w1 (n_v vs 0) 83 = w_ar ws (n_v vs 0) 83 := congrArg v_ad (s1.2 _ _).symm
  have ar_0_83_2 : w_ar w2 (n_v vs 0) 83 = w_ar ws (n_v vs 0) 83 := by rw [← ar_0_83_1]; show v_ad (w_fd w2 _ _) = v_ad (w_fd w1 _ _); rw [s2.2]
  have cr_0_83 := fdq_125 hD hth r0
  have ar_0_84_1 : w_ar w1 (n_v vs 0) 84 = w_ar ws (n_v vs 0) 84 := congrArg v_ad (s1.2 _ _).symm
  have ar_0_84_2 : w_ar w2 (n_v vs 0) 84 = w_ar ws (n_v vs 0) 84 := by rw [← ar_0_84_1]; show v_ad (w_fd w2 _ _) = v_ad (w_fd w1 _ _); rw [s2.2]
  have cr_0_84 := fdq_126 hD hth r0
  have ar_0_85_1 : w_ar w1 (n_v vs 0) 85 = w_ar ws (n_v vs 0) 85 := congrArg v_ad (s1.2 _ _).symm
  have ar_0_85_2 : w_ar w2 (n_v vs 0) 85 = w_ar ws (n_v vs 0) 85 := by rw [← ar_0_85_1]; show v_ad (w_fd w2 _ _) = v_ad (w_fd w1 _ _); rw [s2.2]
  have cr_0_85 := fdq_127 hD hth r0
  have ar_0_86_1 : w_ar w1 (n_v vs 0) 86 = w_ar ws (n_v vs 0) 86 := congrArg v_ad (s1.2 _ _).symm
  have ar_0_86_2 : w_ar w2 (n_v vs 0) 86 = w_ar ws (n_v vs 0) 86 := by rw [← ar_0_86_1]; show v_ad (w_fd w2 _ _) = v_ad (w_fd w1 _ _); rw [s2.2]
  have cr_0_86 := fdq_128 hD hth r0
  have ar_0_87_1 : w_ar w1 (n_v vs 0) 87 = w_ar ws (n_v vs 0) 87 := congrArg v_ad (s1.2 _ _).symm
  have ar_0_87_2 : w_ar w2 (n_v vs 0) 87 = w_ar ws (n_v vs 0) 87 := by rw [← ar_0_87_1]; show v_ad (w_fd w2 _ _) = v_ad (w_fd w1 _ _); rw [s2.2]
  have cr_0_87 := fdq_118 hD hth r0
  have ar_0_88_1 : w_ar w1 (n_v vs 0) 88 = w_ar ws (n_v vs 0) 88 := congrArg v_ad (s1.2 _ _).symm
  have ar_0_88_2 : w_ar w2 (n_v vs 0) 88 = w_ar ws (n_v vs 0) 88 := by rw [← ar_0_88_1]; show v_ad (w_fd w2 _ _) = v_ad (w_fd w1 _ _); rw [s2.2]
  have cr_0_88 := fdq_119 hD hth r0
  have ar_0_89_1 : w_ar w1 (n_v vs 0) 89 = w_ar ws (n_v vs 0) 89 := congrArg v_ad (s1.2 _ _).symm
  have ar_0_89_2 : w_ar w2 (n_v vs 0) 89 = w_ar ws (n_v vs 0) 89 := by rw [← ar_0_89_1]; show v_ad (w_fd w2 _ _) = v_ad (w_fd w1 _ _); rw [s2.2]
  have cr_0_89 := fdq_120 hD hth r0
  have ar_0_90_1 : w_ar w1 (n_v vs 0) 90 = w_ar ws (n_v vs 0) 90 := congrArg v_ad (s1.2 _ _).symm
  have ar_0_90_2 : w_ar w2 (n_v vs 0) 90 = w_ar ws (n_v vs 0) 90 := by rw [← ar_0_90_1]; show v_ad (w_fd w2 _ _) = v_ad (w_fd w1 _ _); rw [s2.2]
  have cr_0_90 := fdq_226 hD hth r0
  have ar_0_91_1 : w_ar w1 (n_v vs 0) 91 = w_ar ws (n_v vs 0) 91 := congrArg v_ad (s1.2 _ _).symm
  have ar_0_91_2 : w_ar w2 (n_v vs 0) 91 = w_ar ws (n_v vs 0) 91 := by rw [← ar_0_91_1]; show v_ad (w_fd w2 _ _) = v_ad (w_fd w1 _ _); rw [s2.2]
  have cr_0_91 := fdq_227 hD hth r0
  have ar_0_92_1 : w_ar w1 (n_v vs 0) 92 = w_ar ws (n_v vs 0) 92 := congrArg v_ad (s1.2 _ _).symm
  have cr_0_92 := fdq_228 hD hth r0
  have ad_13 : v_ad (n_v vs 13) = w_ar ws (n_v vs 0) 92 := (congrArg v_ad f13).trans ar_0_92_1
  have ad_10 : v_ad (n_v vs 10) = w_ar ws (n_v vs 0) 91 := (congrArg v_ad f23).trans ar_0_91_2
  simp only [ar_0_82_1, ar_0_83_1, ar_0_84_1, ar_0_85_1, ar_0_86_1, ar_0_87_1, ar_0_88_1, ar_0_89_1, ar_0_90_1, ar_0_82_2, ar_0_83_2, ar_0_84_2, ar_0_85_2, ar_0_86_2, ar_0_87_2, ar_0_88_2, ar_0_89_2, ar_0_90_2, ar_0_91_2] at f31 f32 f33
  have fe_0_79_1 : w_fi ws (n_v vs 0) 79 = w_fi w1 (n_v vs 0) 79 := congrArg v_iv (s1.2 _ _)
  have fe_0_80_1 : w_fi ws (n_v vs 0) 80 = w_fi w1 (n_v vs 0) 80 := congrArg v_iv (s1.2 _ _)
  have fe_0_81_1 : w_fi ws (n_v vs 0) 81 = w_fi w1 (n_v vs 0) 81 := congrArg v_iv (s1.2 _ _)
  have fe_0_79_2 : w_fi w1 (n_v vs 0) 79 = w_fi w2 (n_v vs 0) 79 := congrArg v_iv (s2.2 _ _)
  have fe_0_80_2 : w_fi w1 (n_v vs 0) 80 = w_fi w2 (n_v vs 0) 80 := congrArg v_iv (s2.2 _ _)
  have fe_0_81_2 : w_fi w1 (n_v vs 0) 81 = w_fi w2 (n_v vs 0) 81 := congrArg v_iv (s2.2 _ _)
  have hE_0_82_1 : ∀ j : Int, w_ei ws (w_ar ws (n_v vs 0) 82) j = w_ei w1 (w_ar ws (n_v vs 0) 82) j := el_kp s1.1 r13 cr_0_82 (by decide)
  have hE_0_82_2 : ∀ j : Int, w_ei w1 (w_ar ws (n_v vs 0) 82) j = w_ei w2 (w_ar ws (n_v vs 0) 82) j := el_kp s2.1 r10 cr_0_82 (by decide)
  have hE_0_83_1 : ∀ j : Int, w_ei ws (w_ar ws (n_v vs 0) 83) j = w_ei w1 (w_ar ws (n_v vs 0) 83) j := el_kp s1.1 r13 cr_0_83 (by decide)
  have hE_0_83_2 : ∀ j : Int, w_ei w1 (w_ar ws (n_v vs 0) 83) j = w_ei w2 (w_ar ws (n_v vs 0) 83) j := el_kp s2.1 r10 cr_0_83 (by decide)
  have hE_0_84_1 : ∀ j : Int, w_ei ws (w_ar ws (n_v vs 0) 84) j = w_ei w1 (w_ar ws (n_v vs 0) 84) j := el_kp s1.1 r13 cr_0_84 (by decide)
  have hE_0_84_2 : ∀ j : Int, w_ei w1 (w_ar ws (n_v vs 0) 84) j = w_ei w2 (w_ar ws (n_v vs 0) 84) j := el_kp s2.1 r10 cr_0_84 (by decide)
  have hE_0_85_1 : ∀ j : Int, w_ei ws (w_ar ws (n_v vs 0) 85) j = w_ei w1 (w_ar ws (n_v vs 0) 85) j := el_kp s1.1 r13 cr_0_85 (by decide)
  have hE_0_85_2 : ∀ j : Int, w_ei w1 (w_ar ws (n_v vs 0) 85) j = w_ei w2 (w_ar ws (n_v vs 0) 85) j := el_kp s2.1 r10 cr_0_85 (by decide)
  have hE_0_86_1 : ∀ j : Int, w_ei ws (w_ar ws (n_v vs 0) 86) j = w_ei w1 (w_ar ws (n_v vs 0) 86) j := el_kp s1.1 r13 cr_0_86 (by decide)
  have hE_0_86_2 : ∀ j : Int, w_ei w1 (w_ar ws (n_v vs 0) 86) j = w_ei w2 (w_ar ws (n_v vs 0) 86) j := el_kp s2.1 r10 cr_0_86 (by decide)
  have hE_0_87_1 : ∀ j : Int, w_ei ws (w_ar ws (n_v vs 0) 87) j = w_ei w1 (w_ar ws (n_v vs 0) 87) j := el_kp s1.1 r13 cr_0_87 (by decide)
  have hE_0_87_2 : ∀ j : Int, w_ei w1 (w_ar ws (n_v vs 0) 87) j = w_ei w2 (w_ar ws (n_v vs 0) 87) j := el_kp s2.1 r10 cr_0_87 (by decide)
  have hE_0_88_1 : ∀ j : Int, w_ei ws (w_ar ws (n_v vs 0) 88) j = w_ei w1 (w_ar ws (n_v vs 0) 88) j := el_kp s1.1 r13 cr_0_88 (by decide)
  have hE_0_88_2 : ∀ j : Int, w_ei w1 (w_ar ws (n_v vs 0) 88) j = w_ei w2 (w_ar ws (n_v vs 0) 88) j := el_kp s2.1 r10 cr_0_88 (by decide)
  have hE_0_89_1 : ∀ j : Int, w_ei ws (w_ar ws (n_v vs 0) 89) j = w_ei w1 (w_ar ws (n_v vs 0) 89) j := el_kp s1.1 r13 cr_0_89 (by decide)
  have hE_0_89_2 : ∀ j : Int, w_ei w1 (w_ar ws (n_v vs 0) 89) j = w_ei w2 (w_ar ws (n_v vs 0) 89) j := el_kp s2.1 r10 cr_0_89 (by decide)
  have hE_0_90_1 : ∀ j : Int, w_ei ws (w_ar ws (n_v vs 0) 90) j = w_ei w1 (w_ar ws (n_v vs 0) 90) j := el_kp s1.1 r13 cr_0_90 (by decide)
  have hE_0_90_2 : ∀ j : Int, w_ei w1 (w_ar ws (n_v vs 0) 90) j = w_ei w2 (w_ar ws (n_v vs 0) 90) j := el_kp s2.1 r10 cr_0_90 (by decide)
  have hE_0_91_1 : ∀ j : Int, w_ei ws (w_ar ws (n_v vs 0) 91) j = w_ei w1 (w_ar ws (n_v vs 0) 91) j := el_kp s1.1 r13 cr_0_91 (by decide)
  have hE_0_91_2 : ∀ j : Int, 0 ≤ j → (j = v_iv (n_v vs 2) → w_ei w1 (w_ar ws (n_v vs 0) 91) j = v_iv (n_v vs 2)) ∧ (j ≠ v_iv (n_v vs 2) → w_ei w1 (w_ar ws (n_v vs 0) 91) j = w_ei w2 (w_ar ws (n_v vs 0) 91) j) := fun j hj => ⟨fun h => by unfold w_ei; rw [s2.1, if_pos ⟨ad_10.symm, by rw [h]⟩], fun h => by unfold w_ei; rw [s2.1, if_neg (fun e => h (by have := e.2; omega))]⟩
  have hE_0_92_1 : ∀ j : Int, 0 ≤ j → (j = v_iv (n_v vs 14) → w_ei ws (w_ar ws (n_v vs 0) 92) j = v_iv (n_v vs 2)) ∧ (j ≠ v_iv (n_v vs 14) → w_ei ws (w_ar ws (n_v vs 0) 92) j = w_ei w1 (w_ar ws (n_v vs 0) 92) j) := fun j hj => ⟨fun h => by unfold w_ei; rw [s1.1, if_pos ⟨ad_13.symm, by rw [h]⟩], fun h => by unfold w_ei; rw [s1.1, if_neg (fun e => h (by have := e.2; omega))]⟩
  have hE_0_92_2 : ∀ j : Int, w_ei w1 (w_ar ws (n_v vs 0) 92) j = w_ei w2 (w_ar ws (n_v vs 0) 92) j := el_kp s2.1 r10 cr_0_92 (by decide)
  have kz_0_79 := fdq_146 hD hth r0
  have kz_0_80 := fdq_130 hD hth r0
  have kz_0_81 := fdq_123 hD hth r0
  obtain ⟨x, ex, hx⟩ := iv_ex (ta := ta) (lo := (-2)) (hi := 79) (z := 79) (by omega) (by omega) (by omega) (by omega)
  have ex2 : v_iv (Value.int x) = 79 := ex
  have ex3 : (-2) ≤ v_iv (Value.int x) ∧ v_iv (Value.int x) ≤ 79 := tv_rng hx
  have e_0 : n_v (vs ++ [Value.int x]) 0 = n_v vs 0 := n_v_old (by rw [hl]; decide)
  have e_1 : n_v (vs ++ [Value.int x]) 1 = n_v vs 1 := n_v_old (by rw [hl]; decide)
  have e_2 : n_v (vs ++ [Value.int x]) 2 = n_v vs 2 := n_v_old (by rw [hl]; decide)
  have e_3 : n_v (vs ++ [Value.int x]) 3 = n_v vs 3 := n_v_old (by rw [hl]; decide)
  have e_4 : n_v (vs ++ [Value.int x]) 4 = n_v vs 4 := n_v_old (by rw [hl]; decide)
  have e_5 : n_v (vs ++ [Value.int x]) 5 = n_v vs 5 := n_v_old (by rw [hl]; decide)
  have e_6 : n_v (vs ++ [Value.int x]) 6 = n_v vs 6 := n_v_old (by rw [hl]; decide)
  have e_7 : n_v (vs ++ [Value.int x]) 7 = n_v vs 7 := n_v_old (by rw [hl]; decide)
  have e_8 : n_v (vs ++ [Value.int x]) 8 = n_v vs 8 := n_v_old (by rw [hl]; decide)
  have e_11 : n_v (vs ++ [Value.int x]) 11 = n_v vs 11 := n_v_old (by rw [hl]; decide)
  have e_12 : n_v (vs ++ [Value.int x]) 12 = n_v vs 12 := n_v_old (by rw [hl]; decide)
  have e_15 : n_v (vs ++ [Value.int x]) 15 = Value.int x := n_v_new hl
  have nf0 : fc_1 PRD (20, [7, 6], [50, 0, 0, 0, 6, 4, 2, 1, 0, 0, 1, 1, 1]) ws (vs ++ [Value.int x]) := by
    refine ⟨nf_inA hl rfl, sgq_409 ?_⟩
    · show (v_iv (n_v (vs ++ [Value.int x]) 7) + 1) ≤ v_iv (n_v (vs ++ [Value.int x]) 6)
      simp only [e_6, e_7, q6, q7]
      exact vc_Mo_augment_1_0 (v_iv (n_v vs 1)) (v_iv (n_v vs 2)) (w_fi ws (n_v vs 0) 79) (w_ei ws (w_ar ws (n_v vs 0) 90)) (w_ei ws (w_ar ws (n_v vs 0) 82)) (w_ei ws (w_ar ws (n_v vs 0) 83)) (w_ei ws (w_ar ws (n_v vs 0) 84)) (w_ei ws (w_ar ws (n_v vs 0) 85)) (w_ei ws (w_ar ws (n_v vs 0) 86)) (w_ei ws (w_ar ws (n_v vs 0) 87)) (w_ei ws (w_ar ws (n_v vs 0) 88)) (w_ei ws (w_ar ws (n_v vs 0) 89)) (w_fi ws (n_v vs 0) 80) (w_fi ws (n_v vs 0) 81) (w_fi w1 (n_v vs 0) 79) (w_ei w1 (w_ar ws (n_v vs 0) 90)) (w_ei w1 (w_ar ws (n_v vs 0) 82)) (w_ei w1 (w_ar ws (n_v vs 0) 83)) (w_ei w1 (w_ar ws (n_v vs 0) 84)) (w_ei w1 (w_ar ws (n_v vs 0) 85)) (w_ei w1 (w_ar ws (n_v vs 0) 86)) (w_ei w1 (w_ar ws (n_v vs 0) 87)) (w_ei w1 (w_ar ws (n_v vs 0) 88)) (w_ei w1 (w_ar ws (n_v vs 0) 89)) (w_fi w1 (n_v vs 0) 80) (w_fi w1 (n_v vs 0) 81) (w_fi w2 (n_v vs 0) 79) (w_ei w2 (w_ar ws (n_v vs 0) 90)) (w_ei w2 (w_ar ws (n_v vs 0) 82)) (w_ei w2 (w_ar ws (n_v vs 0) 83)) (w_ei w2 (w_ar ws (n_v vs 0) 84)) (w_ei w2 (w_ar ws (n_v vs 0) 85)) (w_ei w2 (w_ar ws (n_v vs 0) 86)) (w_ei w2 (w_ar ws (n_v vs 0) 87)) (w_ei w2 (w_ar ws (n_v vs 0) 88)) (w_ei w2 (w_ar ws (n_v vs 0) 89)) (w_fi w2 (n_v vs 0) 80) (w_fi w2 (n_v vs 0) 81) (w_ei ws (w_ar ws (n_v vs 0) 91)) (w_ei w1 (w_ar ws (n_v vs 0) 91)) (w_ei w1 (w_ar ws (n_v vs 0) 92)) (w_ei w2 (w_ar ws (n_v vs 0) 92)) k1 k2 f25 fe_0_79_1 fe_0_80_1 fe_0_81_1 fe_0_79_2 fe_0_80_2 fe_0_81_2 hE_0_82_1 hE_0_82_2 hE_0_83_1 hE_0_83_2 hE_0_84_1 hE_0_84_2 hE_0_85_1 hE_0_85_2 hE_0_86_1 hE_0_86_2 hE_0_87_1 hE_0_87_2 hE_0_88_1 hE_0_88_2 hE_0_89_1 hE_0_89_2 hE_0_90_1 hE_0_90_2 hE_0_91_1 hE_0_92_2 kz_0_79 kz_0_80 kz_0_81
  have nf1 : fc_1 PRD (20, [8, 6], [50, 0, 0, 0, 6, 4, 2, 1, 0, 0, 1, 1, 1]) ws (vs ++ [Value.int x]) := by
    refine ⟨nf_inA hl rfl, sgq_409 ?_⟩
    · show (v_iv (n_v (vs ++ [Value.int x]) 8) + 1) ≤ v_iv (n_v (vs ++ [Value.int x]) 6)
      simp only [e_6, e_8, q6, q8]
      exact vc_Mo_augment_1_1 (v_iv (n_v vs 1)) (v_iv (n_v vs 3)) (w_fi ws (n_v vs 0) 79) (w_ei ws (w_ar ws (n_v vs 0) 90)) (w_ei ws (w_ar ws (n_v vs 0) 82)) (w_ei ws (w_ar ws (n_v vs 0) 83)) (w_ei ws (w_ar ws (n_v vs 0) 84)) (w_ei ws (w_ar ws (n_v vs 0) 85)) (w_ei ws (w_ar ws (n_v vs 0) 86)) (w_ei ws (w_ar ws (n_v vs 0) 87)) (w_ei ws (w_ar ws (n_v vs 0) 88)) (w_ei ws (w_ar ws (n_v vs 0) 89)) (w_fi ws (n_v vs 0) 80) (w_fi ws (n_v vs 0) 81) (w_fi w1 (n_v vs 0) 79) (w_ei w1 (w_ar ws (n_v vs 0) 90)) (w_ei w1 (w_ar ws (n_v vs 0) 82)) (w_ei w1 (w_ar ws (n_v vs 0) 83)) (w_ei w1 (w_ar ws (n_v vs 0) 84)) (w_ei w1 (w_ar ws (n_v vs 0) 85)) (w_ei w1 (w_ar ws (n_v vs 0) 86)) (w_ei w1 (w_ar ws (n_v vs 0) 87)) (w_ei w1 (w_ar ws (n_v vs 0) 88)) (w_ei w1 (w_ar ws (n_v vs 0) 89)) (w_fi w1 (n_v vs 0) 80) (w_fi w1 (n_v vs 0) 81) (w_fi w2 (n_v vs 0) 79) (w_ei w2 (w_ar ws (n_v vs 0) 90)) (w_ei w2 (w_ar ws (n_v vs 0) 82)) (w_ei w2 (w_ar ws (n_v vs 0) 83)) (w_ei w2 (w_ar ws (n_v vs 0) 84)) (w_ei w2 (w_ar ws (n_v vs 0) 85)) (w_ei w2 (w_ar ws (n_v vs 0) 86)) (w_ei w2 (w_ar ws (n_v vs 0) 87)) (w_ei w2 (w_ar ws (n_v vs 0) 88)) (w_ei w2 (w_ar ws (n_v vs 0) 89)) (w_fi w2 (n_v vs 0) 80) (w_fi w2 (n_v vs 0) 81) (w_ei ws (w_ar ws (n_v vs 0) 91)) (w_ei w1 (w_ar ws (n_v vs 0) 91)) (w_ei w1 (w_ar ws (n_v vs 0) 92)) (w_ei w2 (w_ar ws (n_v vs 0) 92)) k1 k3 f26 fe_0_79_1 fe_0_80_1 fe_0_81_1 fe_0_79_2 fe_0_80_2 fe_0_81_2 hE_0_82_1 hE_0_82_2 hE_0_83_1 hE_0_83_2 hE_0_84_1 hE_0_84_2 hE_0_85_1 hE_0_85_2 hE_0_86_1 hE_0_86_2 hE_0_87_1 hE_0_87_2 hE_0_88_1 hE_0_88_2 hE_0_89_1 hE_0_89_2 hE_0_90_1 hE_0_90_2 hE_0_91_1 hE_0_92_2 kz_0_79 kz_0_80 kz_0_81
  have nf2 : fc_1 PRD (20, [6], [50, 0, 0, 0, 2, 1, 0, 0, 78]) ws (vs ++ [Value.int x]) := by
    refine ⟨nf_inA hl rfl, sgq_913 ?_⟩
    · show v_iv (n_v (vs ++ [Value.int x]) 6) ≤ 78
      simp only [e_6, q6]
      exact vc_Mo_augment_1_2 (v_iv (n_v vs 1)) (w_fi ws (n_v vs 0) 79) (w_ei ws (w_ar ws (n_v vs 0) 90)) (w_ei ws (w_ar ws (n_v vs 0) 82)) (w_ei ws (w_ar ws (n_v vs 0) 83)) (w_ei ws (w_ar ws (n_v vs 0) 84)) (w_ei ws (w_ar ws (n_v vs 0) 85)) (w_ei ws (w_ar ws (n_v vs 0) 86)) (w_ei ws (w_ar ws (n_v vs 0) 87)) (w_ei ws (w_ar ws (n_v vs 0) 88)) (w_ei ws (w_ar ws (n_v vs 0) 89)) (w_fi ws (n_v vs 0) 80) (w_fi ws (n_v vs 0) 81) (w_fi w1 (n_v vs 0) 79) (w_ei w1 (w_ar ws (n_v vs 0) 90)) (w_ei w1 (w_ar ws (n_v vs 0) 82)) (w_ei w1 (w_ar ws (n_v vs 0) 83)) (w_ei w1 (w_ar ws (n_v vs 0) 84)) (w_ei w1 (w_ar ws (n_v vs 0) 85)) (w_ei w1 (w_ar ws (n_v vs 0) 86)) (w_ei w1 (w_ar ws (n_v vs 0) 87)) (w_ei w1 (w_ar ws (n_v vs 0) 88)) (w_ei w1 (w_ar ws (n_v vs 0) 89)) (w_fi w1 (n_v vs 0) 80) (w_fi w1 (n_v vs 0) 81) (w_fi w2 (n_v vs 0) 79) (w_ei w2 (w_ar ws (n_v vs 0) 90)) (w_ei w2 (w_ar ws (n_v vs 0) 82)) (w_ei w2 (w_ar ws (n_v vs 0) 83)) (w_ei w2 (w_ar ws (n_v vs 0) 84)) (w_ei w2 (w_ar ws (n_v vs 0) 85)) (w_ei w2 (w_ar ws (n_v vs 0) 86)) (w_ei w2 (w_ar ws (n_v vs 0) 87)) (w_ei w2 (w_ar ws (n_v vs 0) 88)) (w_ei w2 (w_ar ws (n_v vs 0) 89)) (w_fi w2 (n_v vs 0) 80) (w_fi w2 (n_v vs 0) 81) (w_ei ws (w_ar ws (n_v vs 0) 91)) (w_ei w1 (w_ar ws (n_v vs 0) 91)) (w_ei w1 (w_ar ws (n_v vs 0) 92)) (w_ei w2 (w_ar ws (n_v vs 0) 92)) k1 f27 fe_0_79_1 fe_0_80_1 fe_0_81_1 fe_0_79_2 fe_0_80_2 fe_0_81_2 hE_0_82_1 hE_0_82_2 hE_0_83_1 hE_0_83_2 hE_0_84_1 hE_0_84_2 hE_0_85_1 hE_0_85_2 hE_0_86_1 hE_0_86_2 hE_0_87_1 hE_0_87_2 hE_0_88_1 hE_0_88_2 hE_0_89_1 hE_0_89_2 hE_0_90_1 hE_0_90_2 hE_0_91_1 hE_0_92_2 kz_0_79 kz_0_80 kz_0_81
  have nf3 : fc_1 PRD (20, [6, 5], [50, 1, 0, 1079, 1, 2, 1, 0, 4, 3, 2, 1, 79, 0, 2]) ws (vs ++ [Value.int x]) := by
    refine ⟨nf_inA hl rfl, sgq_914 ?_⟩
    · show v_iv (n_v (vs ++ [Value.int x]) 6) = (w_fi ws (n_v (vs ++ [Value.int x]) 5) 79 + 2)
      simp only [e_5, e_6, q5, q6]
      exact vc_Mo_augment_1_3 (v_iv (n_v vs 1)) (w_fi ws (n_v vs 0) 79) (w_ei ws (w_ar ws (n_v vs 0) 90)) (w_ei ws (w_ar ws (n_v vs 0) 82)) (w_ei ws (w_ar ws (n_v vs 0) 83)) (w_ei ws (w_ar ws (n_v vs 0) 84)) (w_ei ws (w_ar ws (n_v vs 0) 85)) (w_ei ws (w_ar ws (n_v vs 0) 86)) (w_ei ws (w_ar ws (n_v vs 0) 87)) (w_ei ws (w_ar ws (n_v vs 0) 88)) (w_ei ws (w_ar ws (n_v vs 0) 89)) (w_fi ws (n_v vs 0) 80) (w_fi ws (n_v vs 0) 81) (w_fi w1 (n_v vs 0) 79) (w_ei w1 (w_ar ws (n_v vs 0) 90)) (w_ei w1 (w_ar ws (n_v vs 0) 82)) (w_ei w1 (w_ar ws (n_v vs 0) 83)) (w_ei w1 (w_ar ws (n_v vs 0) 84)) (w_ei w1 (w_ar ws (n_v vs 0) 85)) (w_ei w1 (w_ar ws (n_v vs 0) 86)) (w_ei w1 (w_ar ws (n_v vs 0) 87)) (w_ei w1 (w_ar ws (n_v vs 0) 88)) (w_ei w1 (w_ar ws (n_v vs 0) 89)) (w_fi w1 (n_v vs 0) 80) (w_fi w1 (n_v vs 0) 81) (w_fi w2 (n_v vs 0) 79) (w_ei w2 (w_ar ws (n_v vs 0) 90)) (w_ei w2 (w_ar ws (n_v vs 0) 82)) (w_ei w2 (w_ar ws (n_v vs 0) 83)) (w_ei w2 (w_ar ws (n_v vs 0) 84)) (w_ei w2 (w_ar ws (n_v vs 0) 85)) (w_ei w2 (w_ar ws (n_v vs 0) 86)) (w_ei w2 (w_ar ws (n_v vs 0) 87)) (w_ei w2 (w_ar ws (n_v vs 0) 88)) (w_ei w2 (w_ar ws (n_v vs 0) 89)) (w_fi w2 (n_v vs 0) 80) (w_fi w2 (n_v vs 0) 81) (w_ei ws (w_ar ws (n_v vs 0) 91)) (w_ei w1 (w_ar ws (n_v vs 0) 91)) (w_ei w1 (w_ar ws (n_v vs 0) 92)) (w_ei w2 (w_ar ws (n_v vs 0) 92)) k1 f28 fe_0_79_1 fe_0_80_1 fe_0_81_1 fe_0_79_2 fe_0_80_2 fe_0_81_2 hE_0_82_1 hE_0_82_2 hE_0_83_1 hE_0_83_2 hE_0_84_1 hE_0_84_2 hE_0_85_1 hE_0_85_2 hE_0_86_1 hE_0_86_2 hE_0_87_1 hE_0_87_2 hE_0_88_1 hE_0_88_2 hE_0_89_1 hE_0_89_2 hE_0_90_1 hE_0_90_2 hE_0_91_1 hE_0_92_2 kz_0_79 kz_0_80 kz_0_81
  have nf4 : fc_1 PRD (20, [7, 5], [50, 1, 0, 1079, 1, 2, 1, 0, 2, 1, 79]) ws (vs ++ [Value.int x]) := by
    refine ⟨nf_inA hl rfl, sgq_915 ?_⟩
    · show v_iv (n_v (vs ++ [Value.int x]) 7) = w_fi ws (n_v (vs ++ [Value.int x]) 5) 79
      simp only [e_5, e_7, q5, q7]
      exact vc_Mo_augment_1_4 (v_iv (n_v vs 2)) (w_fi ws (n_v vs 0) 79) (w_ei ws (w_ar ws (n_v vs 0) 90)) (w_ei ws (w_ar ws (n_v vs 0) 82)) (w_ei ws (w_ar ws (n_v vs 0) 83)) (w_ei ws (w_ar ws (n_v vs 0) 84)) (w_ei ws (w_ar ws (n_v vs 0) 85)) (w_ei ws (w_ar ws (n_v vs 0) 86)) (w_ei ws (w_ar ws (n_v vs 0) 87)) (w_ei ws (w_ar ws (n_v vs 0) 88)) (w_ei ws (w_ar ws (n_v vs 0) 89)) (w_fi ws (n_v vs 0) 80) (w_fi ws (n_v vs 0) 81) (w_fi w1 (n_v vs 0) 79) (w_ei w1 (w_ar ws (n_v vs 0) 90)) (w_ei w1 (w_ar ws (n_v vs 0) 82)) (w_ei w1 (w_ar ws (n_v vs 0) 83)) (w_ei w1 (w_ar ws (n_v vs 0) 84)) (w_ei w1 (w_ar ws (n_v vs 0) 85)) (w_ei w1 (w_ar ws (n_v vs 0) 86)) (w_ei w1 (w_ar ws (n_v vs 0) 87)) (w_ei w1 (w_ar ws (n_v vs 0) 88)) (w_ei w1 (w_ar ws (n_v vs 0) 89)) (w_fi w1 (n_v vs 0) 80) (w_fi w1 (n_v vs 0) 81) (w_fi w2 (n_v vs 0) 79) (w_ei w2 (w_ar ws (n_v vs 0) 90)) (w_ei w2 (w_ar ws (n_v vs 0) 82)) (w_ei w2 (w_ar ws (n_v vs 0) 83)) (w_ei w2 (w_ar ws (n_v vs 0) 84)) (w_ei w2 (w_ar ws (n_v vs 0) 85)) (w_ei w2 (w_ar ws (n_v vs 0) 86)) (w_ei w2 (w_ar ws (n_v vs 0) 87)) (w_ei w2 (w_ar ws (n_v vs 0) 88)) (w_ei w2 (w_ar ws (n_v vs 0) 89)) (w_fi w2 (n_v vs 0) 80) (w_fi w2 (n_v vs 0) 81) (w_ei ws (w_ar ws (n_v vs 0) 91)) (w_ei w1 (w_ar ws (n_v vs 0) 91)) (w_ei w1 (w_ar ws (n_v vs 0) 92)) (w_ei w2 (w_ar ws (n_v vs 0) 92)) k2 f29 fe_0_79_1 fe_0_80_1 fe_0_81_1 fe_0_79_2 fe_0_80_2 fe_0_81_2 hE_0_82_1 hE_0_82_2 hE_0_83_1 hE_0_83_2 hE_0_84_1 hE_0_84_2 hE_0_85_1 hE_0_85_2 hE_0_86_1 hE_0_86_2 hE_0_87_1 hE_0_87_2 hE_0_88_1 hE_0_88_2 hE_0_89_1 hE_0_89_2 hE_0_90_1 hE_0_90_2 hE_0_91_1 hE_0_92_2 kz_0_79 kz_0_80 kz_0_81
  have nf5 : fc_1 PRD (20, [8, 5], [50, 1, 0, 1079, 1, 2, 1, 0, 4, 3, 2, 1, 79, 0, 1]) ws (vs ++ [Value.int x]) := by
    refine ⟨nf_inA hl rfl, sgq_916 ?_⟩
    · show v_iv (n_v (vs ++ [Value.int x]) 8) = (w_fi ws (n_v (vs ++ [Value.int x]) 5) 79 + 1)
      simp only [e_5, e_8, q5, q8]
      exact vc_Mo_augment_1_5 (v_iv (n_v vs 3)) (w_fi ws (n_v vs 0) 79) (w_ei ws (w_ar ws (n_v vs 0) 90)) (w_ei ws (w_ar ws (n_v vs 0) 82)) (w_ei ws (w_ar ws (n_v vs 0) 83)) (w_ei ws (w_ar ws (n_v vs 0) 84)) (w_ei ws (w_ar ws (n_v vs 0) 85)) (w_ei ws (w_ar ws (n_v vs 0) 86)) (w_ei ws (w_ar ws (n_v vs 0) 87)) (w_ei ws (w_ar ws (n_v vs 0) 88)) (w_ei ws (w_ar ws (n_v vs 0) 89)) (w_fi ws (n_v vs 0) 80) (w_fi ws (n_v vs 0) 81) (w_fi w1 (n_v vs 0) 79) (w_ei w1 (w_ar ws (n_v vs 0) 90)) (w_ei w1 (w_ar ws (n_v vs 0) 82)) (w_ei w1 (w_ar ws (n_v vs 0) 83)) (w_ei w1 (w_ar ws (n_v vs 0) 84)) (w_ei w1 (w_ar ws (n_v vs 0) 85)) (w_ei w1 (w_ar ws (n_v vs 0) 86)) (w_ei w1 (w_ar ws (n_v vs 0) 87)) (w_ei w1 (w_ar ws (n_v vs 0) 88)) (w_ei w1 (w_ar ws (n_v vs 0) 89)) (w_fi w1 (n_v vs 0) 80) (w_fi w1 (n_v vs 0) 81) (w_fi w2 (n_v vs 0) 79) (w_ei w2 (w_ar ws (n_v vs 0) 90)) (w_ei w2 (w_ar ws (n_v vs 0) 82)) (w_ei w2 (w_ar ws (n_v vs 0) 83)) (w_ei w2 (w_ar ws (n_v vs 0) 84)) (w_ei w2 (w_ar ws (n_v vs 0) 85)) (w_ei w2 (w_ar ws (n_v vs 0) 86)) (w_ei w2 (w_ar ws (n_v vs 0) 87)) (w_ei w2 (w_ar ws (n_v vs 0) 88)) (w_ei w2 (w_ar ws (n_v vs 0) 89)) (w_fi w2 (n_v vs 0) 80) (w_fi w2 (n_v vs 0) 81) (w_ei ws (w_ar ws (n_v vs 0) 91)) (w_ei w1 (w_ar ws (n_v vs 0) 91)) (w_ei w1 (w_ar ws (n_v vs 0) 92)) (w_ei w2 (w_ar ws (n_v vs 0) 92)) k3 f30 fe_0_79_1 fe_0_80_1 fe_0_81_1 fe_0_79_2 fe_0_80_2 fe_0_81_2 hE_0_82_1 hE_0_82_2 hE_0_83_1 hE_0_83_2 hE_0_84_1 hE_0_84_2 hE_0_85_1 hE_0_85_2 hE_0_86_1 hE_0_86_2 hE_0_87_1 hE_0_87_2 hE_0_88_1 hE_0_88_2 hE_0_89_1 hE_0_89_2 hE_0_90_1 hE_0_90_2 hE_0_91_1 hE_0_92_2 kz_0_79 kz_0_80 kz_0_81
  have nf6 : fc_1 PRD (20, [5], [60, 3, 9, 397, 79, 80, 81, 90, 82, 83, 84, 85, 86, 87, 88, 89]) ws (vs ++ [Value.int x]) := by
    refine ⟨nf_inA hl rfl, sgq_917 ?_⟩
    · show FLO (w_fi ws (n_v (vs ++ [Value.int x]) 5) 79) (w_fi ws (n_v (vs ++ [Value.int x]) 5) 80) (w_fi ws (n_v (vs ++ [Value.int x]) 5) 81) (w_ei ws (w_ar ws (n_v (vs ++ [Value.int x]) 5) 90)) (w_ei ws (w_ar ws (n_v (vs ++ [Value.int x]) 5) 82)) (w_ei ws (w_ar ws (n_v (vs ++ [Value.int x]) 5) 83)) (w_ei ws (w_ar ws (n_v (vs ++ [Value.int x]) 5) 84)) (w_ei ws (w_ar ws (n_v (vs ++ [Value.int x]) 5) 85)) (w_ei ws (w_ar ws (n_v (vs ++ [Value.int x]) 5) 86)) (w_ei ws (w_ar ws (n_v (vs ++ [Value.int x]) 5) 87)) (w_ei ws (w_ar ws (n_v (vs ++ [Value.int x]) 5) 88)) (w_ei ws (w_ar ws (n_v (vs ++ [Value.int x]) 5) 89))
      simp only [e_5, q5]
      exact vc_Mo_augment_1_6 (w_fi ws (n_v vs 0) 79) (w_ei ws (w_ar ws (n_v vs 0) 90)) (w_ei ws (w_ar ws (n_v vs 0) 82)) (w_ei ws (w_ar ws (n_v vs 0) 83)) (w_ei ws (w_ar ws (n_v vs 0) 84)) (w_ei ws (w_ar ws (n_v vs 0) 85)) (w_ei ws (w_ar ws (n_v vs 0) 86)) (w_ei ws (w_ar ws (n_v vs 0) 87)) (w_ei ws (w_ar ws (n_v vs 0) 88)) (w_ei ws (w_ar ws (n_v vs 0) 89)) (w_fi ws (n_v vs 0) 80) (w_fi ws (n_v vs 0) 81) (w_fi w1 (n_v vs 0) 79) (w_ei w1 (w_ar ws (n_v vs 0) 90)) (w_ei w1 (w_ar ws (n_v vs 0) 82)) (w_ei w1 (w_ar ws (n_v vs 0) 83)) (w_ei w1 (w_ar ws (n_v vs 0) 84)) (w_ei w1 (w_ar ws (n_v vs 0) 85)) (w_ei w1 (w_ar ws (n_v vs 0) 86)) (w_ei w1 (w_ar ws (n_v vs 0) 87)) (w_ei w1 (w_ar ws (n_v vs 0) 88)) (w_ei w1 (w_ar ws (n_v vs 0) 89)) (w_fi w1 (n_v vs 0) 80) (w_fi w1 (n_v vs 0) 81) (w_fi w2 (n_v vs 0) 79) (w_ei w2 (w_ar ws (n_v vs 0) 90)) (w_ei w2 (w_ar ws (n_v vs 0) 82)) (w_ei w2 (w_ar ws (n_v vs 0) 83)) (w_ei w2 (w_ar ws (n_v vs 0) 84)) (w_ei w2 (w_ar ws (n_v vs 0) 85)) (w_ei w2 (w_ar ws (n_v vs 0) 86)) (w_ei w2 (w_ar ws (n_v vs 0) 87)) (w_ei w2 (w_ar ws (n_v vs 0) 88)) (w_ei w2 (w_ar ws (n_v vs 0) 89)) (w_fi w2 (n_v vs 0) 80) (w_fi w2 (n_v vs 0) 81) (w_ei ws (w_ar ws (n_v vs 0) 91)) (w_ei w1 (w_ar ws (n_v vs 0) 91)) (w_ei w1 (w_ar ws (n_v vs 0) 92)) (w_ei w2 (w_ar ws (n_v vs 0) 92)) f31 fe_0_79_1 fe_0_80_1 fe_0_81_1 fe_0_79_2 fe_0_80_2 fe_0_81_2 hE_0_82_1 hE_0_82_2 hE_0_83_1 hE_0_83_2 hE_0_84_1 hE_0_84_2 hE_0_85_1 hE_0_85_2 hE_0_86_1 hE_0_86_2 hE_0_87_1 hE_0_87_2 hE_0_88_1 hE_0_88_2 hE_0_89_1 hE_0_89_2 hE_0_90_1 hE_0_90_2 hE_0_91_1 hE_0_92_2 kz_0_79 kz_0_80 kz_0_81
  have nf7 : fc_1 PRD (20, [5, 4], [60, 1, 1, 398, 79, 90]) ws (vs ++ [Value.int x]) := by
    refine ⟨nf_inA hl rfl, sgq_918 ?_⟩
    · show XLE (w_fi ws (n_v (vs ++ [Value.int x]) 5) 79) (w_ei ws (w_ar ws (n_v (vs ++ [Value.int x]) 5) 90)) (v_iv (n_v (vs ++ [Value.int x]) 4))
      simp only [e_4, e_5, q5]
      exact vc_Mo_augment_1_7 (v_iv (n_v vs 4)) (w_fi ws (n_v vs 0) 79) (w_ei ws (w_ar ws (n_v vs 0) 90)) (w_ei ws (w_ar ws (n_v vs 0) 82)) (w_ei ws (w_ar ws (n_v vs 0) 83)) (w_ei ws (w_ar ws (n_v vs 0) 84)) (w_ei ws (w_ar ws (n_v vs 0) 85)) (w_ei ws (w_ar ws (n_v vs 0) 86)) (w_ei ws (w_ar ws (n_v vs 0) 87)) (w_ei ws (w_ar ws (n_v vs 0) 88)) (w_ei ws (w_ar ws (n_v vs 0) 89)) (w_fi ws (n_v vs 0) 80) (w_fi ws (n_v vs 0) 81) (w_fi w1 (n_v vs 0) 79) (w_ei w1 (w_ar ws (n_v vs 0) 90)) (w_ei w1 (w_ar ws (n_v vs 0) 82)) (w_ei w1 (w_ar ws (n_v vs 0) 83)) (w_ei w1 (w_ar ws (n_v vs 0) 84)) (w_ei w1 (w_ar ws (n_v vs 0) 85)) (w_ei w1 (w_ar ws (n_v vs 0) 86)) (w_ei w1 (w_ar ws (n_v vs 0) 87)) (w_ei w1 (w_ar ws (n_v vs 0) 88)) (w_ei w1 (w_ar ws (n_v vs 0) 89)) (w_fi w1 (n_v vs 0) 80) (w_fi w1 (n_v vs 0) 81) (w_fi w2 (n_v vs 0) 79) (w_ei w2 (w_ar ws (n_v vs 0) 90)) (w_ei w2 (w_ar ws (n_v vs 0) 82)) (w_ei w2 (w_ar ws (n_v vs 0) 83)) (w_ei w2 (w_ar ws (n_v vs 0) 84)) (w_ei w2 (w_ar ws (n_v vs 0) 85)) (w_ei w2 (w_ar ws (n_v vs 0) 86)) (w_ei w2 (w_ar ws (n_v vs 0) 87)) (w_ei w2 (w_ar ws (n_v vs 0) 88)) (w_ei w2 (w_ar ws (n_v vs 0) 89)) (w_fi w2 (n_v vs 0) 80) (w_fi w2 (n_v vs 0) 81) (w_ei ws (w_ar ws (n_v vs 0) 91)) (w_ei w1 (w_ar ws (n_v vs 0) 91)) (w_ei w1 (w_ar ws (n_v vs 0) 92)) (w_ei w2 (w_ar ws (n_v vs 0) 92)) k4 f32 fe_0_79_1 fe_0_80_1 fe_0_81_1 fe_0_79_2 fe_0_80_2 fe_0_81_2 hE_0_82_1 hE_0_82_2 hE_0_83_1 hE_0_83_2 hE_0_84_1 hE_0_84_2 hE_0_85_1 hE_0_85_2 hE_0_86_1 hE_0_86_2 hE_0_87_1 hE_0_87_2 hE_0_88_1 hE_0_88_2 hE_0_89_1 hE_0_89_2 hE_0_90_1 hE_0_90_2 hE_0_91_1 hE_0_92_2 kz_0_79 kz_0_80 kz_0_81
  have nf8 : fc_1 PRD (20, [5, 6, 7], [60, 0, 2, 401, 90, 91]) ws (vs ++ [Value.int x]) := by
    refine ⟨nf_inA hl rfl, sgq_922 ?_⟩
    · show FPT (w_ei ws (w_ar ws (n_v (vs ++ [Value.int x]) 5) 90)) (w_ei ws (w_ar ws (n_v (vs ++ [Value.int x]) 5) 91)) (v_iv (n_v (vs ++ [Value.int x]) 6)) (v_iv (n_v (vs ++ [Value.int x]) 7))
      simp only [e_5, e_6, e_7, q5, q6, q7]
      exact vc_Mo_augment_1_8 (v_iv (n_v vs 1)) (v_iv (n_v vs 2)) (v_iv (n_v vs 9)) (w_fi ws (n_v vs 0) 79) (w_ei ws (w_ar ws (n_v vs 0) 90)) (w_ei ws (w_ar ws (n_v vs 0) 82)) (w_ei ws (w_ar ws (n_v vs 0) 83)) (w_ei ws (w_ar ws (n_v vs 0) 84)) (w_ei ws (w_ar ws (n_v vs 0) 85)) (w_ei ws (w_ar ws (n_v vs 0) 86)) (w_ei ws (w_ar ws (n_v vs 0) 87)) (w_ei ws (w_ar ws (n_v vs 0) 88)) (w_ei ws (w_ar ws (n_v vs 0) 89)) (w_fi ws (n_v vs 0) 80) (w_fi ws (n_v vs 0) 81) (w_fi w1 (n_v vs 0) 79) (w_ei w1 (w_ar ws (n_v vs 0) 90)) (w_ei w1 (w_ar ws (n_v vs 0) 82)) (w_ei w1 (w_ar ws (n_v vs 0) 83)) (w_ei w1 (w_ar ws (n_v vs 0) 84)) (w_ei w1 (w_ar ws (n_v vs 0) 85)) (w_ei w1 (w_ar ws (n_v vs 0) 86)) (w_ei w1 (w_ar ws (n_v vs 0) 87)) (w_ei w1 (w_ar ws (n_v vs 0) 88)) (w_ei w1 (w_ar ws (n_v vs 0) 89)) (w_fi w1 (n_v vs 0) 80) (w_fi w1 (n_v vs 0) 81) (w_fi w2 (n_v vs 0) 79) (w_ei w2 (w_ar ws (n_v vs 0) 90)) (w_ei w2 (w_ar ws (n_v vs 0) 82)) (w_ei w2 (w_ar ws (n_v vs 0) 83)) (w_ei w2 (w_ar ws (n_v vs 0) 84)) (w_ei w2 (w_ar ws (n_v vs 0) 85)) (w_ei w2 (w_ar ws (n_v vs 0) 86)) (w_ei w2 (w_ar ws (n_v vs 0) 87)) (w_ei w2 (w_ar ws (n_v vs 0) 88)) (w_ei w2 (w_ar ws (n_v vs 0) 89)) (w_fi w2 (n_v vs 0) 80) (w_fi w2 (n_v vs 0) 81) (w_ei w2 (w_ar ws (n_v vs 0) 91)) (w_ei ws (w_ar ws (n_v vs 0) 91)) (w_ei w1 (w_ar ws (n_v vs 0) 91)) (w_ei w1 (w_ar ws (n_v vs 0) 92)) (w_ei w2 (w_ar ws (n_v vs 0) 92)) k1 k2 k9 f24 f33 fe_0_79_1 fe_0_80_1 fe_0_81_1 fe_0_79_2 fe_0_80_2 fe_0_81_2 hE_0_82_1 hE_0_82_2 hE_0_83_1 hE_0_83_2 hE_0_84_1 hE_0_84_2 hE_0_85_1 hE_0_85_2 hE_0_86_1 hE_0_86_2 hE_0_87_1 hE_0_87_2 hE_0_88_1 hE_0_88_2 hE_0_89_1 hE_0_89_2 hE_0_90_1 hE_0_90_2 hE_0_91_1 hE_0_91_2 hE_0_92_2 kz_0_79 kz_0_80 kz_0_81
  have nf9 : fc_1 PRD (20, [5, 6, 7, 12], [60, 0, 2, 392, 92, 91]) ws (vs ++ [Value.int x]) := by
    refine ⟨nf_inA hl rfl, sgq_923 ?_⟩
    · show AU1 (w_ei ws (w_ar ws (n_v (vs ++ [Value.int x]) 5) 92)) (w_ei ws (w_ar ws (n_v (vs ++ [Value.int x]) 5) 91)) (v_iv (n_v (vs ++ [Value.int x]) 6)) (v_iv (n_v (vs ++ [Value.int x]) 7)) (v_iv (n_v (vs ++ [Value.int x]) 12))
      simp only [e_5, e_6, e_7, e_12, q5, q6, q7]
      exact vc_Mo_augment_1_9 (v_iv (n_v vs 1)) (v_iv (n_v vs 2)) (v_iv (n_v vs 3)) (v_iv (n_v vs 6)) (v_iv (n_v vs 7)) (v_iv (n_v vs 8)) (v_iv (n_v vs 9)) (v_iv (n_v vs 12)) (v_iv (n_v vs 14)) (w_fi ws (n_v vs 0) 79) (w_ei ws (w_ar ws (n_v vs 0) 90)) (w_ei ws (w_ar ws (n_v vs 0) 82)) (w_ei ws (w_ar ws (n_v vs 0) 83)) (w_ei ws (w_ar ws (n_v vs 0) 84)) (w_ei ws (w_ar ws (n_v vs 0) 85)) (w_ei ws (w_ar ws (n_v vs 0) 86)) (w_ei ws (w_ar ws (n_v vs 0) 87)) (w_ei ws (w_ar ws (n_v vs 0) 88)) (w_ei ws (w_ar ws (n_v vs 0) 89)) (w_fi ws (n_v vs 0) 80) (w_fi ws (n_v vs 0) 81) (w_fi w1 (n_v vs 0) 79) (w_ei w1 (w_ar ws (n_v vs 0) 90)) (w_ei w1 (w_ar ws (n_v vs 0) 82)) (w_ei w1 (w_ar ws (n_v vs 0) 83)) (w_ei w1 (w_ar ws (n_v vs 0) 84)) (w_ei w1 (w_ar ws (n_v vs 0) 85)) (w_ei w1 (w_ar ws (n_v vs 0) 86)) (w_ei w1 (w_ar ws (n_v vs 0) 87)) (w_ei w1 (w_ar ws (n_v vs 0) 88)) (w_ei w1 (w_ar ws (n_v vs 0) 89)) (w_fi w1 (n_v vs 0) 80) (w_fi w1 (n_v vs 0) 81) (w_fi w2 (n_v vs 0) 79) (w_ei w2 (w_ar ws (n_v vs 0) 90)) (w_ei w2 (w_ar ws (n_v vs 0) 82)) (w_ei w2 (w_ar ws (n_v vs 0) 83)) (w_ei w2 (w_ar ws (n_v vs 0) 84)) (w_ei w2 (w_ar ws (n_v vs 0) 85)) (w_ei w2 (w_ar ws (n_v vs 0) 86)) (w_ei w2 (w_ar ws (n_v vs 0) 87)) (w_ei w2 (w_ar ws (n_v vs 0) 88)) (w_ei w2 (w_ar ws (n_v vs 0) 89)) (w_fi w2 (n_v vs 0) 80) (w_fi w2 (n_v vs 0) 81) (w_ei w2 (w_ar ws (n_v vs 0) 91)) (w_ei ws (w_ar ws (n_v vs 0) 91)) (w_ei w1 (w_ar ws (n_v vs 0) 91)) (w_ei ws (w_ar ws (n_v vs 0) 92)) (w_ei w1 (w_ar ws (n_v vs 0) 92)) (w_ei w2 (w_ar ws (n_v vs 0) 92)) k1 k2 k3 k6 k7 k8 k9 k12 k14 d0 d1 d2 d3 d4 d5 d6 d7 f3 f4 f5 f24 f27 f33 fe_0_79_1 fe_0_80_1 fe_0_81_1 fe_0_79_2 fe_0_80_2 fe_0_81_2 hE_0_82_1 hE_0_82_2 hE_0_83_1 hE_0_83_2 hE_0_84_1 hE_0_84_2 hE_0_85_1 hE_0_85_2 hE_0_86_1 hE_0_86_2 hE_0_87_1 hE_0_87_2 hE_0_88_1 hE_0_88_2 hE_0_89_1 hE_0_89_2 hE_0_90_1 hE_0_90_2 hE_0_91_1 hE_0_91_2 hE_0_92_1 hE_0_92_2 kz_0_79 kz_0_80 kz_0_81
  have nf10 : fc_1 PRD (23, [11, 15], [-78, -1, -1]) ws (vs ++ [Value.int x]) := by
    refine ⟨nf_inA hl rfl, sgq_924 ?_⟩
    · show (-1) * v_iv (n_v (vs ++ [Value.int x]) 11) + ((-1) * v_iv (n_v (vs ++ [Value.int x]) 15) + 0) ≤ (-78)
      simp only [e_11, e_15]
      exact vc_Mo_augment_1_10 (v_iv (n_v vs 11)) (w_fi ws (n_v vs 0) 79) (w_ei ws (w_ar ws (n_v vs 0) 90)) (w_ei ws (w_ar ws (n_v vs 0) 82)) (w_ei ws (w_ar ws (n_v vs 0) 83)) (w_ei ws (w_ar ws (n_v vs 0) 84)) (w_ei ws (w_ar ws (n_v vs 0) 85)) (w_ei ws (w_ar ws (n_v vs 0) 86)) (w_ei ws (w_ar ws (n_v vs 0) 87)) (w_ei ws (w_ar ws (n_v vs 0) 88)) (w_ei ws (w_ar ws (n_v vs 0) 89)) (w_fi ws (n_v vs 0) 80) (w_fi ws (n_v vs 0) 81) (w_fi w1 (n_v vs 0) 79) (w_ei w1 (w_ar ws (n_v vs 0) 90)) (w_ei w1 (w_ar ws (n_v vs 0) 82)) (w_ei w1 (w_ar ws (n_v vs 0) 83)) (w_ei w1 (w_ar ws (n_v vs 0) 84)) (w_ei w1 (w_ar ws (n_v vs 0) 85)) (w_ei w1 (w_ar ws (n_v vs 0) 86)) (w_ei w1 (w_ar ws (n_v vs 0) 87)) (w_ei w1 (w_ar ws (n_v vs 0) 88)) (w_ei w1 (w_ar ws (n_v vs 0) 89)) (w_fi w1 (n_v vs 0) 80) (w_fi w1 (n_v vs 0) 81) (w_fi w2 (n_v vs 0) 79) (w_ei w2 (w_ar ws (n_v vs 0) 90)) (w_ei w2 (w_ar ws (n_v vs 0) 82)) (w_ei w2 (w_ar ws (n_v vs 0) 83)) (w_ei w2 (w_ar ws (n_v vs 0) 84)) (w_ei w2 (w_ar ws (n_v vs 0) 85)) (w_ei w2 (w_ar ws (n_v vs 0) 86)) (w_ei w2 (w_ar ws (n_v vs 0) 87)) (w_ei w2 (w_ar ws (n_v vs 0) 88)) (w_ei w2 (w_ar ws (n_v vs 0) 89)) (w_fi w2 (n_v vs 0) 80) (w_fi w2 (n_v vs 0) 81) (w_ei ws (w_ar ws (n_v vs 0) 91)) (w_ei w1 (w_ar ws (n_v vs 0) 91)) (w_ei w1 (w_ar ws (n_v vs 0) 92)) (w_ei w2 (w_ar ws (n_v vs 0) 92)) (v_iv (Value.int x)) k11 fe_0_79_1 fe_0_80_1 fe_0_81_1 fe_0_79_2 fe_0_80_2 fe_0_81_2 hE_0_82_1 hE_0_82_2 hE_0_83_1 hE_0_83_2 hE_0_84_1 hE_0_84_2 hE_0_85_1 hE_0_85_2 hE_0_86_1 hE_0_86_2 hE_0_87_1 hE_0_87_2 hE_0_88_1 hE_0_88_2 hE_0_89_1 hE_0_89_2 hE_0_90_1 hE_0_90_2 hE_0_91_1 hE_0_92_2 kz_0_79 kz_0_80 kz_0_81 ex2
  have nf11 : fc_1 PRD (20, [5, 6, 11], [60, 0, 3, 402, 90, 92, 91]) ws (vs ++ [Value.int x]) := by
    refine ⟨nf_inA hl rfl, sgq_925 ?_⟩
    · show BF1 (w_ei ws (w_ar ws (n_v (vs ++ [Value.int x]) 5) 90)) (w_ei ws (w_ar ws (n_v (vs ++ [Value.int x]) 5) 92)) (w_ei ws (w_ar ws (n_v (vs ++ [Value.int x]) 5) 91)) (v_iv (n_v (vs ++ [Value.int x]) 6)) (v_iv (n_v (vs ++ [Value.int x]) 11))
      simp only [e_5, e_6, e_11, q5, q6]
      exact vc_Mo_augment_1_11 (v_iv (n_v vs 1)) (v_iv (n_v vs 11)) (w_fi ws (n_v vs 0) 79) (w_ei ws (w_ar ws (n_v vs 0) 90)) (w_ei ws (w_ar ws (n_v vs 0) 82)) (w_ei ws (w_ar ws (n_v vs 0) 83)) (w_ei ws (w_ar ws (n_v vs 0) 84)) (w_ei ws (w_ar ws (n_v vs 0) 85)) (w_ei ws (w_ar ws (n_v vs 0) 86)) (w_ei ws (w_ar ws (n_v vs 0) 87)) (w_ei ws (w_ar ws (n_v vs 0) 88)) (w_ei ws (w_ar ws (n_v vs 0) 89)) (w_fi ws (n_v vs 0) 80) (w_fi ws (n_v vs 0) 81) (w_fi w1 (n_v vs 0) 79) (w_ei w1 (w_ar ws (n_v vs 0) 90)) (w_ei w1 (w_ar ws (n_v vs 0) 82)) (w_ei w1 (w_ar ws (n_v vs 0) 83)) (w_ei w1 (w_ar ws (n_v vs 0) 84)) (w_ei w1 (w_ar ws (n_v vs 0) 85)) (w_ei w1 (w_ar ws (n_v vs 0) 86)) (w_ei w1 (w_ar ws (n_v vs 0) 87)) (w_ei w1 (w_ar ws (n_v vs 0) 88)) (w_ei w1 (w_ar ws (n_v vs 0) 89)) (w_fi w1 (n_v vs 0) 80) (w_fi w1 (n_v vs 0) 81) (w_fi w2 (n_v vs 0) 79) (w_ei w2 (w_ar ws (n_v vs 0) 90)) (w_ei w2 (w_ar ws (n_v vs 0) 82)) (w_ei w2 (w_ar ws (n_v vs 0) 83)) (w_ei w2 (w_ar ws (n_v vs 0) 84)) (w_ei w2 (w_ar ws (n_v vs 0) 85)) (w_ei w2 (w_ar ws (n_v vs 0) 86)) (w_ei w2 (w_ar ws (n_v vs 0) 87)) (w_ei w2 (w_ar ws (n_v vs 0) 88)) (w_ei w2 (w_ar ws (n_v vs 0) 89)) (w_fi w2 (n_v vs 0) 80) (w_fi w2 (n_v vs 0) 81) (w_ei ws (w_ar ws (n_v vs 0) 91)) (w_ei w1 (w_ar ws (n_v vs 0) 91)) (w_ei ws (w_ar ws (n_v vs 0) 92)) (w_ei w1 (w_ar ws (n_v vs 0) 92)) (w_ei w2 (w_ar ws (n_v vs 0) 92)) k1 k11 fe_0_79_1 fe_0_80_1 fe_0_81_1 fe_0_79_2 fe_0_80_2 fe_0_81_2 hE_0_82_1 hE_0_82_2 hE_0_83_1 hE_0_83_2 hE_0_84_1 hE_0_84_2 hE_0_85_1 hE_0_85_2 hE_0_86_1 hE_0_86_2 hE_0_87_1 hE_0_87_2 hE_0_88_1 hE_0_88_2 hE_0_89_1 hE_0_89_2 hE_0_90_1 hE_0_90_2 hE_0_91_1 hE_0_92_2 kz_0_79 kz_0_80 kz_0_81
  have nf12 : fc_1 PRD (24, [0, 5], []) ws (vs ++ [Value.int x]) := by
    refine ⟨nf_inA hl rfl, sgq_5 ?_⟩
    · show n_v (vs ++ [Value.int x]) 0 = n_v (vs ++ [Value.int x]) 5
      first | rfl | simp only [e_0, e_5, q5, q6, q7, q8]
  have nf13 : fc_1 PRD (24, [1, 6], []) ws (vs ++ [Value.int x]) := by
    refine ⟨nf_inA hl rfl, sgq_5 ?_⟩
    · show n_v (vs ++ [Value.int x]) 1 = n_v (vs ++ [Value.int x]) 6
      first | rfl | simp only [e_1, e_6, q5, q6, q7, q8]
  have nf14 : fc_1 PRD (24, [2, 7], []) ws (vs ++ [Value.int x]) := by
    refine ⟨nf_inA hl rfl, sgq_5 ?_⟩
    · show n_v (vs ++ [Value.int x]) 2 = n_v (vs ++ [Value.int x]) 7
      first | rfl | simp only [e_2, e_7, q5, q6, q7, q8]
  have nf15 : fc_1 PRD (24, [3, 8], []) ws (vs ++ [Value.int x]) := by
    refine ⟨nf_inA hl rfl, sgq_5 ?_⟩
    · show n_v (vs ++ [Value.int x]) 3 = n_v (vs ++ [Value.int x]) 8
      first | rfl | simp only [e_3, e_8, q5, q6, q7, q8]
  exact ⟨(fun _ h => (by cases h)), [Value.int x], ag_one hx, List.forall_mem_cons.mpr ⟨⟨show (20 : Nat) < 100 from by decide, nf0⟩, List.forall_mem_cons.mpr ⟨⟨show (20 : Nat) < 100 from by decide, nf1⟩, List.forall_mem_cons.mpr ⟨⟨show (20 : Nat) < 100 from by decide, nf2⟩, List.forall_mem_cons.mpr ⟨⟨show (20 : Nat) < 100 from by decide, nf3⟩, List.forall_mem_cons.mpr ⟨⟨show (20 : Nat) < 100 from by decide, nf4⟩, List.forall_mem_cons.mpr ⟨⟨show (20 : Nat) < 100 from by decide, nf5⟩, List.forall_mem_cons.mpr ⟨⟨show (20 : Nat) < 100 from by decide, nf6⟩, List.forall_mem_cons.mpr ⟨⟨show (20 : Nat) < 100 from by decide, nf7⟩, List.forall_mem_cons.mpr ⟨⟨show (20 : Nat) < 100 from by decide, nf8⟩, List.forall_mem_cons.mpr ⟨⟨show (20 : Nat) < 100 from by decide, nf9⟩, List.forall_mem_cons.mpr ⟨⟨show (23 : Nat) < 100 from by decide, nf10⟩, List.forall_mem_cons.mpr ⟨⟨show (20 : Nat) < 100 from by decide, nf11⟩, List.forall_mem_cons.mpr ⟨⟨show (24 : Nat) < 100 from by decide, nf12⟩, List.forall_mem_cons.mpr ⟨⟨show (24 : Nat) < 100 from by decide, nf13⟩, List.forall_mem_cons.mpr ⟨⟨show (24 : Nat) < 100 from by decide, nf14⟩, List.forall_mem_cons.mpr ⟨⟨show (24 : Nat) < 100 from by decide, nf15⟩, (fun _ h => (by cases h))⟩⟩⟩⟩⟩⟩⟩⟩⟩⟩⟩⟩⟩⟩⟩⟩, (fun _ h => (by cases h))⟩
set_option maxHeartbeats 4000000 in
theorem vc_Mo_augment_2_0 (x9 : Int) (x11 : Int) (x12 : Int) (pointMany_0 : Int) (flow_0 : Int → Int) (spot_0 : Int → Int) (costA_0 : Int → Int) (costB_0 : Int → Int) (costW_0 : Int → Int) (costPlain_0 : Int → Int) (apartA_0 : Int → Int) (apartB_0 : Int → Int) (apart_0 : Int → Int) (costMany_0 : Int) (apartMany_0 : Int) (pointMany_1 : Int) (flow_1 : Int → Int) (spot_1 : Int → Int) (costA_1 : Int → Int) (costB_1 : Int → Int) (costW_1 : Int → Int) (costPlain_1 : Int → Int) (apartA_1 : Int → Int) (apartB_1 : Int → Int) (apart_1 : Int → Int) (costMany_1 : Int) (apartMany_1 : Int) (cameBy_1 : Int → Int) (cameBy_0 : Int → Int) (k9 : 0 ≤ x9 ∧ x9 ≤ 77) (k11 : (-1) ≤ x11 ∧ x11 ≤ (-1)) (k12 : 1 ≤ x12 ∧ x12 ≤ 78) (f0 : x12 = x9 + 1) (f24 : AU0 (cameBy_1) (x9)) (fe_0_79_1 : pointMany_0 = pointMany_1) (fe_0_80_1 : costMany_0 = costMany_1) (fe_0_81_1 : apartMany_0 = apartMany_1) (hE_0_82_1 : ∀ j : Int, spot_0 j = spot_1 j) (hE_0_83_1 : ∀ j : Int, costA_0 j = costA_1 j) (hE_0_84_1 : ∀ j : Int, costB_0 j = costB_1 j) (hE_0_85_1 : ∀ j : Int, costW_0 j = costW_1 j) (hE_0_86_1 : ∀ j : Int, costPlain_0 j = costPlain_1 j) (hE_0_87_1 : ∀ j : Int, apartA_0 j = apartA_1 j) (hE_0_88_1 : ∀ j : Int, apartB_0 j = apartB_1 j) (hE_0_89_1 : ∀ j : Int, apart_0 j = apart_1 j) (hE_0_90_1 : ∀ j : Int, flow_0 j = flow_1 j) (hE_0_91_1 : ∀ j : Int, 0 ≤ j → (j = x9 → cameBy_0 j = x11) ∧ (j ≠ x9 → cameBy_0 j = cameBy_1 j)) (kz_0_79 : 0 ≤ pointMany_0 ∧ pointMany_0 ≤ 76) (kz_0_80 : 0 ≤ costMany_0 ∧ costMany_0 ≤ 200) (kz_0_81 : 0 ≤ apartMany_0 ∧ apartMany_0 ≤ 200) : AU0 (cameBy_0) (x12) := by
  subst fe_0_79_1
  subst fe_0_80_1
  subst fe_0_81_1
  have e_hE_0_82_1 := funext hE_0_82_1; subst e_hE_0_82_1
  have e_hE_0_83_1 := funext hE_0_83_1; subst e_hE_0_83_1
  have e_hE_0_84_1 := funext hE_0_84_1; subst e_hE_0_84_1
  have e_hE_0_85_1 := funext hE_0_85_1; subst e_hE_0_85_1
  have e_hE_0_86_1 := funext hE_0_86_1; subst e_hE_0_86_1
  have e_hE_0_87_1 := funext hE_0_87_1; subst e_hE_0_87_1
  have e_hE_0_88_1 := funext hE_0_88_1; subst e_hE_0_88_1
  have e_hE_0_89_1 := funext hE_0_89_1; subst e_hE_0_89_1
  have e_hE_0_90_1 := funext hE_0_90_1; subst e_hE_0_90_1
  first
    | (intro v a b; exfalso; omega)
    | exact au0_step ‹AU0 _ _› (by omega) (by assumption) (by omega) (by omega)
def o_Mo_augment_2 : or_T := (3, 13, [(0, (2, 0, 0, [165])), (9, (0, 0, 77, [])), (10, (2, 0, 0, [228])), (11, (0, -1, -1, [])), (12, (0, 1, 78, []))], [(6, [12, 9], [1]), (24, [0, 5], []), (100, [10, 9, 11], []), (9, [10, 5], [91]), (20, [5, 9], [60, 0, 1, 391, 91])], [], [], [(20, [5, 12], [60, 0, 1, 391, 91])], [], [(12, 9, 1, 1), (9, 6, -4294967296, -1), (9, 1, -4294967296, 0), (9, 6, -4294967296, 0)])
theorem oo_Mo_augment_2 {kA : Nat → ClassId} : or_ok PRD kA GG o_Mo_augment_2 := by
  refine or_mk fun A ta ws vs hD hth hl => ?_
  intro t0 r0 t9 k9 t10 r10 t11 k11 t12 k12 d0 d4 d11 d12 f0 f9 ta1 w1 le1 s1 f14 f24
  replace f0 := shm_4 f0
  replace f9 := shm_5 f9
  have s1 : (∀ b j, w_el ws b j = if b = v_ad (n_v vs 10) ∧ j = (v_iv (n_v vs 9)).toNat then v_iv (n_v vs 11) else w_el w1 b j) ∧ ∀ b k, w_fd ws b k = w_fd w1 b k := s1.2
  replace f14 := shm_921 f14
  replace f24 := shm_919 f24
  have q5 : n_v vs 5 = n_v vs 0 := f9.symm
  simp only [q5] at f14 f24
  have ar_0_82_1 : w_ar w1 (n_v vs 0) 82 = w_ar ws (n_v vs 0) 82 := congrArg v_ad (s1.2 _ _).symm
  have cr_0_82 := fdq_225 hD hth r0
  have ar_0_83_1 : w_ar w1 (n_v vs 0) 83 = w_ar ws (n_v vs 0) 83 := congrArg v_ad (s1.2 _ _).symm
  have cr_0_83 := fdq_125 hD hth r0
  have ar_0_84_1 : w_ar w1 (n_v vs 0) 84 = w_ar ws (n_v vs 0) 84 := congrArg v_ad (s1.2 _ _).symm
  have cr_0_84 := fdq_126 hD hth r0
  have ar_0_85_1 : w_ar w1 (n_v vs 0) 85 = w_ar ws (n_v vs 0) 85 := congrArg v_ad (s1.2 _ _).symm
  have cr_0_85 := fdq_127 hD hth r0
  have ar_0_86_1 : w_ar w1 (n_v vs 0) 86 = w_ar ws (n_v vs 0) 86 := congrArg v_ad (s1.2 _ _).symm
  have cr_0_86 := fdq_128 hD hth r0
  have ar_0_87_1 : w_ar w1 (n_v vs 0) 87 = w_ar ws (n_v vs 0) 87 := congrArg v_ad (s1.2 _ _).symm
  have cr_0_87 := fdq_118 hD hth r0
  have ar_0_88_1 : w_ar w1 (n_v vs 0) 88 = w_ar ws (n_v vs 0) 88 := congrArg v_ad (s1.2 _ _).symm
  have cr_0_88 := fdq_119 hD hth r0
  have ar_0_89_1 : w_ar w1 (n_v vs 0) 89 = w_ar ws (n_v vs 0) 89 := congrArg v_ad (s1.2 _ _).symm
  have cr_0_89 := fdq_120 hD hth r0
  have ar_0_90_1 : w_ar w1 (n_v vs 0) 90 = w_ar ws (n_v vs 0) 90 := congrArg v_ad (s1.2 _ _).symm
  have cr_0_90 := fdq_226 hD hth r0
  have ar_0_91_1 : w_ar w1 (n_v vs 0) 91 = w_ar ws (n_v vs 0) 91 := congrArg v_ad (s1.2 _ _).symm
  have ad_10 : v_ad (n_v vs 10) = w_ar ws (n_v vs 0) 91 := (congrArg v_ad f14).trans ar_0_91_1
  simp only [ar_0_82_1, ar_0_83_1, ar_0_84_1, ar_0_85_1, ar_0_86_1, ar_0_87_1, ar_0_88_1, ar_0_89_1, ar_0_90_1, ar_0_91_1] at f24
  have fe_0_79_1 : w_fi ws (n_v vs 0) 79 = w_fi w1 (n_v vs 0) 79 := congrArg v_iv (s1.2 _ _)
  have fe_0_80_1 : w_fi ws (n_v vs 0) 80 = w_fi w1 (n_v vs 0) 80 := congrArg v_iv (s1.2 _ _)
  have fe_0_81_1 : w_fi ws (n_v vs 0) 81 = w_fi w1 (n_v vs 0) 81 := congrArg v_iv (s1.2 _ _)
  have hE_0_82_1 : ∀ j : Int, w_ei ws (w_ar ws (n_v vs 0) 82) j = w_ei w1 (w_ar ws (n_v vs 0) 82) j := el_kp s1.1 r10 cr_0_82 (by decide)
  have hE_0_83_1 : ∀ j : Int, w_ei ws (w_ar ws (n_v vs 0) 83) j = w_ei w1 (w_ar ws (n_v vs 0) 83) j := el_kp s1.1 r10 cr_0_83 (by decide)
  have hE_0_84_1 : ∀ j : Int, w_ei ws (w_ar ws (n_v vs 0) 84) j = w_ei w1 (w_ar ws (n_v vs 0) 84) j := el_kp s1.1 r10 cr_0_84 (by decide)
  have hE_0_85_1 : ∀ j : Int, w_ei ws (w_ar ws (n_v vs 0) 85) j = w_ei w1 (w_ar ws (n_v vs 0) 85) j := el_kp s1.1 r10 cr_0_85 (by decide)
  have hE_0_86_1 : ∀ j : Int, w_ei ws (w_ar ws (n_v vs 0) 86) j = w_ei w1 (w_ar ws (n_v vs 0) 86) j := el_kp s1.1 r10 cr_0_86 (by decide)
  have hE_0_87_1 : ∀ j : Int, w_ei ws (w_ar ws (n_v vs 0) 87) j = w_ei w1 (w_ar ws (n_v vs 0) 87) j := el_kp s1.1 r10 cr_0_87 (by decide)
  have hE_0_88_1 : ∀ j : Int, w_ei ws (w_ar ws (n_v vs 0) 88) j = w_ei w1 (w_ar ws (n_v vs 0) 88) j := el_kp s1.1 r10 cr_0_88 (by decide)
  have hE_0_89_1 : ∀ j : Int, w_ei ws (w_ar ws (n_v vs 0) 89) j = w_ei w1 (w_ar ws (n_v vs 0) 89) j := el_kp s1.1 r10 cr_0_89 (by decide)
  have hE_0_90_1 : ∀ j : Int, w_ei ws (w_ar ws (n_v vs 0) 90) j = w_ei w1 (w_ar ws (n_v vs 0) 90) j := el_kp s1.1 r10 cr_0_90 (by decide)
  have hE_0_91_1 : ∀ j : Int, 0 ≤ j → (j = v_iv (n_v vs 9) → w_ei ws (w_ar ws (n_v vs 0) 91) j = v_iv (n_v vs 11)) ∧ (j ≠ v_iv (n_v vs 9) → w_ei ws (w_ar ws (n_v vs 0) 91) j = w_ei w1 (w_ar ws (n_v vs 0) 91) j) := fun j hj => ⟨fun h => by unfold w_ei; rw [s1.1, if_pos ⟨ad_10.symm, by rw [h]⟩], fun h => by unfold w_ei; rw [s1.1, if_neg (fun e => h (by have := e.2; omega))]⟩
  have kz_0_79 := fdq_146 hD hth r0
  have kz_0_80 := fdq_130 hD hth r0
  have kz_0_81 := fdq_123 hD hth r0
  have nf0 : fc_1 PRD (20, [5, 12], [60, 0, 1, 391, 91]) ws (vs) := by
    refine ⟨nf_in hl rfl, sgq_919 ?_⟩
    · show AU0 (w_ei ws (w_ar ws (n_v vs 5) 91)) (v_iv (n_v vs 12))
      rw [q5]
      exact vc_Mo_augment_2_0 (v_iv (n_v vs 9)) (v_iv (n_v vs 11)) (v_iv (n_v vs 12)) (w_fi ws (n_v vs 0) 79) (w_ei ws (w_ar ws (n_v vs 0) 90)) (w_ei ws (w_ar ws (n_v vs 0) 82)) (w_ei ws (w_ar ws (n_v vs 0) 83)) (w_ei ws (w_ar ws (n_v vs 0) 84)) (w_ei ws (w_ar ws (n_v vs 0) 85)) (w_ei ws (w_ar ws (n_v vs 0) 86)) (w_ei ws (w_ar ws (n_v vs 0) 87)) (w_ei ws (w_ar ws (n_v vs 0) 88)) (w_ei ws (w_ar ws (n_v vs 0) 89)) (w_fi ws (n_v vs 0) 80) (w_fi ws (n_v vs 0) 81) (w_fi w1 (n_v vs 0) 79) (w_ei w1 (w_ar ws (n_v vs 0) 90)) (w_ei w1 (w_ar ws (n_v vs 0) 82)) (w_ei w1 (w_ar ws (n_v vs 0) 83)) (w_ei w1 (w_ar ws (n_v vs 0) 84)) (w_ei w1 (w_ar ws (n_v vs 0) 85)) (w_ei w1 (w_ar ws (n_v vs 0) 86)) (w_ei w1 (w_ar ws (n_v vs 0) 87)) (w_ei w1 (w_ar ws (n_v vs 0) 88)) (w_ei w1 (w_ar ws (n_v vs 0) 89)) (w_fi w1 (n_v vs 0) 80) (w_fi w1 (n_v vs 0) 81) (w_ei w1 (w_ar ws (n_v vs 0) 91)) (w_ei ws (w_ar ws (n_v vs 0) 91)) k9 k11 k12 f0 f24 fe_0_79_1 fe_0_80_1 fe_0_81_1 hE_0_82_1 hE_0_83_1 hE_0_84_1 hE_0_85_1 hE_0_86_1 hE_0_87_1 hE_0_88_1 hE_0_89_1 hE_0_90_1 hE_0_91_1 kz_0_79 kz_0_80 kz_0_81
  refine ⟨(fun _ h => (by cases h)), [], trivial, ?_, (fun _ h => (by cases h))⟩
  rw [List.append_nil]
  exact List.forall_mem_cons.mpr ⟨⟨show (20 : Nat) < 100 from by decide, nf0⟩, (fun _ h => (by cases h))⟩
set_option maxHeartbeats 4000000 in
theorem vc_Mo_augment_3_0 (x1 : Int) (x2 : Int) (k1 : 2 ≤ x1 ∧ x1 ≤ 78) (k2 : 0 ≤ x2 ∧ x2 ≤ 76) (f4 : (x2 + 1) ≤ x1) : (x2 + 1) ≤ x1 := by
  first
    | omega
    | (have h := au1_len ‹AU1 _ _ _ _ _›; omega)
set_option maxHeartbeats 4000000 in
theorem vc_Mo_augment_3_1 (x1 : Int) (x3 : Int) (k1 : 2 ≤ x1 ∧ x1 ≤ 78) (k3 : 1 ≤ x3 ∧ x3 ≤ 77) (f5 : (x3 + 1) ≤ x1) : (x3 + 1) ≤ x1 := by
  first
    | omega
    | (have h := au1_len ‹AU1 _ _ _ _ _›; omega)
set_option maxHeartbeats 4000000 in
theorem vc_Mo_augment_3_2 (x1 : Int) (k1 : 2 ≤ x1 ∧ x1 ≤ 78) (f6 : x1 ≤ 78) : x1 ≤ 78 := by
  first
    | omega
    | (have h := au1_len ‹AU1 _ _ _ _ _›; omega)
set_option maxHeartbeats 4000000 in
theorem vc_Mo_augment_3_3 (x1 : Int) (pointMany_0 : Int) (k1 : 2 ≤ x1 ∧ x1 ≤ 78) (f7 : x1 = (pointMany_0 + 2)) (kz_0_79 : 0 ≤ pointMany_0 ∧ pointMany_0 ≤ 76) : x1 = (pointMany_0 + 2) := by
  first
    | omega
    | (have h := au1_len ‹AU1 _ _ _ _ _›; omega)
set_option maxHeartbeats 4000000 in
theorem vc_Mo_augment_3_4 (x2 : Int) (pointMany_0 : Int) (k2 : 0 ≤ x2 ∧ x2 ≤ 76) (f8 : x2 = pointMany_0) (kz_0_79 : 0 ≤ pointMany_0 ∧ pointMany_0 ≤ 76) : x2 = pointMany_0 := by
  first
    | omega
    | (have h := au1_len ‹AU1 _ _ _ _ _›; omega)
set_option maxHeartbeats 4000000 in
theorem vc_Mo_augment_3_5 (x3 : Int) (pointMany_0 : Int) (k3 : 1 ≤ x3 ∧ x3 ≤ 77) (f9 : x3 = (pointMany_0 + 1)) (kz_0_79 : 0 ≤ pointMany_0 ∧ pointMany_0 ≤ 76) : x3 = (pointMany_0 + 1) := by
  first
    | omega
    | (have h := au1_len ‹AU1 _ _ _ _ _›; omega)
set_option maxHeartbeats 4000000 in
theorem vc_Mo_augment_3_6 (pointMany_0 : Int) (flow_0 : Int → Int) (spot_0 : Int → Int) (costA_0 : Int → Int) (costB_0 : Int → Int) (costW_0 : Int → Int) (costPlain_0 : Int → Int) (apartA_0 : Int → Int) (apartB_0 : Int → Int) (apart_0 : Int → Int) (costMany_0 : Int) (apartMany_0 : Int) (f10 : FLO (pointMany_0) (costMany_0) (apartMany_0) (flow_0) (spot_0) (costA_0) (costB_0) (costW_0) (costPlain_0) (apartA_0) (apartB_0) (apart_0)) (kz_0_79 : 0 ≤ pointMany_0 ∧ pointMany_0 ≤ 76) (kz_0_80 : 0 ≤ costMany_0 ∧ costMany_0 ≤ 200) (kz_0_81 : 0 ≤ apartMany_0 ∧ apartMany_0 ≤ 200) : FLO (pointMany_0) (costMany_0) (apartMany_0) (flow_0) (spot_0) (costA_0) (costB_0) (costW_0) (costPlain_0) (apartA_0) (apartB_0) (apart_0) := by
  first
    | assumption
    | exact (psh_end ‹PSH _ _ _ _ _ _ _ _ _ _ _ _ _ _ _ _› (by omega)).1
set_option maxHeartbeats 4000000 in
theorem vc_Mo_augment_3_7 (x4 : Int) (pointMany_0 : Int) (flow_0 : Int → Int) (k4 : (-2) ≤ x4 ∧ x4 ≤ 180000001) (f11 : XLE (pointMany_0) (flow_0) (x4)) (kz_0_79 : 0 ≤ pointMany_0 ∧ pointMany_0 ≤ 76) : XLE (pointMany_0) (flow_0) (x4) := by
  assumption
set_option maxHeartbeats 4000000 in
theorem vc_Mo_augment_3_8 (x1 : Int) (x2 : Int) (cameBy_0 : Int → Int) (flow_0 : Int → Int) (k1 : 2 ≤ x1 ∧ x1 ≤ 78) (k2 : 0 ≤ x2 ∧ x2 ≤ 76) (f12 : FPT (flow_0) (cameBy_0) (x1) (x2)) : FPT (flow_0) (cameBy_0) (x1) (x2) := by
  first
    | assumption
    | exact fpt_start ‹AU0 _ _› (by omega) (by assumption) (by omega)
    | exact fpt_step2 ‹FPT _ _ _ _› (by assumption) rfl (by assumption) (by assumption) (by assumption) (by assumption) (by omega)
set_option maxHeartbeats 4000000 in
theorem vc_Mo_augment_3_9 (x1 : Int) (x2 : Int) (x3 : Int) (x14 : Int) (cameBy_0 : Int → Int) (flow_0 : Int → Int) (k1 : 2 ≤ x1 ∧ x1 ≤ 78) (k2 : 0 ≤ x2 ∧ x2 ≤ 76) (k3 : 1 ≤ x3 ∧ x3 ≤ 77) (k14 : 1000000 ≤ x14 ∧ x14 ≤ 1000000) : MN1 (flow_0) (cameBy_0) (x1) (x2) (x3) (x3) (x14) := by
  first
    | assumption
    | exact mn1_start (by omega) (by omega)
set_option maxHeartbeats 4000000 in
theorem vc_Mo_augment_3_10 (x1 : Int) (x2 : Int) (x3 : Int) (x6 : Int) (x8 : Int) (x10 : Int) (x13 : Int) (cameBy_0 : Int → Int) (pointMany_0 : Int) (queue_0 : Int → Int) (gx : Int) (k1 : 2 ≤ x1 ∧ x1 ≤ 78) (k2 : 0 ≤ x2 ∧ x2 ≤ 76) (k3 : 1 ≤ x3 ∧ x3 ≤ 77) (k6 : 2 ≤ x6 ∧ x6 ≤ 78) (k8 : 1 ≤ x8 ∧ x8 ≤ 77) (k10 : 1 ≤ x10 ∧ x10 ≤ 78) (k13 : 0 ≤ x13 ∧ x13 ≤ 77) (d1 : x6 + (-4294967296) ≤ x1 ∧ x1 ≤ x6 + 0) (d3 : x8 + (-4294967296) ≤ x3 ∧ x3 ≤ x8 + 0) (d4 : x1 + (-4294967296) ≤ x6 ∧ x6 ≤ x1 + 0) (d6 : x3 + (-4294967296) ≤ x8 ∧ x8 ≤ x3 + 0) (h1 : x13 = cameBy_0 (x3)) (f7 : x1 = (pointMany_0 + 2)) (f9 : x3 = (pointMany_0 + 1)) (f13 : AU1 (queue_0) (cameBy_0) (x1) (x2) (x10)) (kz_0_79 : 0 ≤ pointMany_0 ∧ pointMany_0 ≤ 76) (ex2 : gx = 80) : AUW (queue_0) (cameBy_0) (x1) (x2) (x10) (x3) (gx) := by
  first
    | exact auw_start ‹AU1 _ _ _ _ _› (by omega) (by omega) (by omega) (by omega)
    | (rw [show gx = x13 - 1 by omega]; exact ‹AUX _ _ _ _ _ _ _›)
set_option maxHeartbeats 4000000 in
theorem vc_Mo_augment_3_11 (x1 : Int) (x2 : Int) (x3 : Int) (x6 : Int) (x8 : Int) (x10 : Int) (x13 : Int) (cameBy_0 : Int → Int) (pointMany_0 : Int) (queue_0 : Int → Int) (k1 : 2 ≤ x1 ∧ x1 ≤ 78) (k2 : 0 ≤ x2 ∧ x2 ≤ 76) (k3 : 1 ≤ x3 ∧ x3 ≤ 77) (k6 : 2 ≤ x6 ∧ x6 ≤ 78) (k8 : 1 ≤ x8 ∧ x8 ≤ 77) (k10 : 1 ≤ x10 ∧ x10 ≤ 78) (k13 : 0 ≤ x13 ∧ x13 ≤ 77) (d1 : x6 + (-4294967296) ≤ x1 ∧ x1 ≤ x6 + 0) (d3 : x8 + (-4294967296) ≤ x3 ∧ x3 ≤ x8 + 0) (d4 : x1 + (-4294967296) ≤ x6 ∧ x6 ≤ x1 + 0) (d6 : x3 + (-4294967296) ≤ x8 ∧ x8 ≤ x3 + 0) (h1 : x13 = cameBy_0 (x3)) (f7 : x1 = (pointMany_0 + 2)) (f9 : x3 = (pointMany_0 + 1)) (f13 : AU1 (queue_0) (cameBy_0) (x1) (x2) (x10)) (kz_0_79 : 0 ≤ pointMany_0 ∧ pointMany_0 ≤ 76) : AU2 (queue_0) (cameBy_0) (x1) (x2) (x10) (x3) := by
  first
    | assumption
    | exact au2_of ‹AU1 _ _ _ _ _› (by omega) (by omega) (by omega)
def o_Mo_augment_3 : or_T := (148, 15, [(0, (2, 0, 0, [165])), (1, (0, 2, 78, [])), (2, (0, 0, 76, [])), (3, (0, 1, 77, [])), (4, (0, -2, 180000001, [])), (6, (0, 2, 78, [])), (8, (0, 1, 77, [])), (10, (0, 1, 78, [])), (13, (0, 0, 77, [])), (14, (0, 1000000, 1000000, []))], [(10, [13, 12, 8], []), (9, [12, 5], [91]), (20, [7, 6], [50, 0, 0, 0, 6, 4, 2, 1, 0, 0, 1, 1, 1]), (20, [8, 6], [50, 0, 0, 0, 6, 4, 2, 1, 0, 0, 1, 1, 1]), (20, [6], [50, 0, 0, 0, 2, 1, 0, 0, 78]), (20, [6, 5], [50, 1, 0, 1079, 1, 2, 1, 0, 4, 3, 2, 1, 79, 0, 2]), (20, [7, 5], [50, 1, 0, 1079, 1, 2, 1, 0, 2, 1, 79]), (20, [8, 5], [50, 1, 0, 1079, 1, 2, 1, 0, 4, 3, 2, 1, 79, 0, 1]), (20, [5], [60, 3, 9, 397, 79, 80, 81, 90, 82, 83, 84, 85, 86, 87, 88, 89]), (20, [5, 4], [60, 1, 1, 398, 79, 90]), (20, [5, 6, 7], [60, 0, 2, 401, 90, 91]), (20, [5, 6, 7, 10], [60, 0, 2, 392, 92, 91]), (24, [0, 5], []), (24, [1, 6], []), (24, [2, 7], []), (24, [3, 8], [])], [], [(0, -2, 80, [])], [(20, [7, 6], [50, 0, 0, 0, 6, 4, 2, 1, 0, 0, 1, 1, 1]), (20, [8, 6], [50, 0, 0, 0, 6, 4, 2, 1, 0, 0, 1, 1, 1]), (20, [6], [50, 0, 0, 0, 2, 1, 0, 0, 78]), (20, [6, 5], [50, 1, 0, 1079, 1, 2, 1, 0, 4, 3, 2, 1, 79, 0, 2]), (20, [7, 5], [50, 1, 0, 1079, 1, 2, 1, 0, 2, 1, 79]), (20, [8, 5], [50, 1, 0, 1079, 1, 2, 1, 0, 4, 3, 2, 1, 79, 0, 1]), (20, [5], [60, 3, 9, 397, 79, 80, 81, 90, 82, 83, 84, 85, 86, 87, 88, 89]), (20, [5, 4], [60, 1, 1, 398, 79, 90]), (20, [5, 6, 7], [60, 0, 2, 401, 90, 91]), (20, [5, 6, 7, 8, 8, 14], [60, 0, 2, 407, 90, 91]), (20, [5, 6, 7, 10, 8, 15], [60, 0, 2, 394, 92, 91]), (20, [5, 6, 7, 10, 8], [60, 0, 2, 393, 92, 91]), (24, [0, 5], []), (24, [1, 6], []), (24, [2, 7], []), (24, [3, 8], [])], [], [(1, 6, -4294967296, 0), (3, 8, -4294967296, 0), (6, 1, -4294967296, 0), (8, 3, -4294967296, 0)])
theorem oo_Mo_augment_3 {kA : Nat → ClassId} : or_ok PRD kA GG o_Mo_augment_3 := by
  refine or_mk fun A ta ws vs hD hth hl => ?_
  intro t0 r0 t1 k1 t2 k2 t3 k3 t4 k4 t6 k6 t8 k8 t10 k10 t13 k13 t14 k14 d1 d3 d4 d6 f1 f2 f4 f5 f6 f7 f8 f9 f10 f11 f12 f13 f16 f17 f18 f19
  replace f1 := shm_106 f1
  replace f2 := shm_921 f2
  replace f4 := shm_409 f4
  replace f5 := shm_409 f5
  replace f6 := shm_913 f6
  replace f7 := shm_914 f7
  replace f8 := shm_915 f8
  replace f9 := shm_916 f9
  replace f10 := shm_917 f10
  replace f11 := shm_918 f11
  replace f12 := shm_922 f12
  replace f13 := shm_923 f13
  replace f16 := shm_5 f16
  replace f17 := shm_5 f17
  replace f18 := shm_5 f18
  replace f19 := shm_5 f19
  have q5 : n_v vs 5 = n_v vs 0 := f16.symm
  have q6 : n_v vs 6 = n_v vs 1 := f17.symm
  have q7 : n_v vs 7 = n_v vs 2 := f18.symm
  have q8 : n_v vs 8 = n_v vs 3 := f19.symm
  simp only [q8, q5, q6, q7] at f1 f2 f4 f5 f6 f7 f8 f9 f10 f11 f12 f13
  have ad_12 : v_ad (n_v vs 12) = w_ar ws (n_v vs 0) 91 := congrArg v_ad f2
  simp only [ad_12] at f1
  have h1 : v_iv (n_v vs 13) = w_ei ws (w_ar ws (n_v vs 0) 91) (v_iv (n_v vs 3)) := f1
  have kz_0_79 := fdq_146 hD hth r0
  have kz_0_80 := fdq_130 hD hth r0
  have kz_0_81 := fdq_123 hD hth r0
  obtain ⟨x, ex, hx⟩ := iv_ex (ta := ta) (lo := (-2)) (hi := 80) (z := 80) (by omega) (by omega) (by omega) (by omega)
  have ex2 : v_iv (Value.int x) = 80 := ex
  have ex3 : (-2) ≤ v_iv (Value.int x) ∧ v_iv (Value.int x) ≤ 80 := tv_rng hx
  have e_0 : n_v (vs ++ [Value.int x]) 0 = n_v vs 0 := n_v_old (by rw [hl]; decide)
  have e_1 : n_v (vs ++ [Value.int x]) 1 = n_v vs 1 := n_v_old (by rw [hl]; decide)
  have e_2 : n_v (vs ++ [Value.int x]) 2 = n_v vs 2 := n_v_old (by rw [hl]; decide)
  have e_3 : n_v (vs ++ [Value.int x]) 3 = n_v vs 3 := n_v_old (by rw [hl]; decide)
  have e_4 : n_v (vs ++ [Value.int x]) 4 = n_v vs 4 := n_v_old (by rw [hl]; decide)
  have e_5 : n_v (vs ++ [Value.int x]) 5 = n_v vs 5 := n_v_old (by rw [hl]; decide)
  have e_6 : n_v (vs ++ [Value.int x]) 6 = n_v vs 6 := n_v_old (by rw [hl]; decide)
  have e_7 : n_v (vs ++ [Value.int x]) 7 = n_v vs 7 := n_v_old (by rw [hl]; decide)
  have e_8 : n_v (vs ++ [Value.int x]) 8 = n_v vs 8 := n_v_old (by rw [hl]; decide)
  have e_10 : n_v (vs ++ [Value.int x]) 10 = n_v vs 10 := n_v_old (by rw [hl]; decide)
  have e_14 : n_v (vs ++ [Value.int x]) 14 = n_v vs 14 := n_v_old (by rw [hl]; decide)
  have e_15 : n_v (vs ++ [Value.int x]) 15 = Value.int x := n_v_new hl
  have nf0 : fc_1 PRD (20, [7, 6], [50, 0, 0, 0, 6, 4, 2, 1, 0, 0, 1, 1, 1]) ws (vs ++ [Value.int x]) := by
    refine ⟨nf_inA hl rfl, sgq_409 ?_⟩
    · show (v_iv (n_v (vs ++ [Value.int x]) 7) + 1) ≤ v_iv (n_v (vs ++ [Value.int x]) 6)
      simp only [e_6, e_7, q6, q7]
      exact vc_Mo_augment_3_0 (v_iv (n_v vs 1)) (v_iv (n_v vs 2)) k1 k2 f4
  have nf1 : fc_1 PRD (20, [8, 6], [50, 0, 0, 0, 6, 4, 2, 1, 0, 0, 1, 1, 1]) ws (vs ++ [Value.int x]) := by
    refine ⟨nf_inA hl rfl, sgq_409 ?_⟩
    · show (v_iv (n_v (vs ++ [Value.int x]) 8) + 1) ≤ v_iv (n_v (vs ++ [Value.int x]) 6)
      simp only [e_6, e_8, q6, q8]
      exact vc_Mo_augment_3_1 (v_iv (n_v vs 1)) (v_iv (n_v vs 3)) k1 k3 f5
  have nf2 : fc_1 PRD (20, [6], [50, 0, 0, 0, 2, 1, 0, 0, 78]) ws (vs ++ [Value.int x]) := by
    refine ⟨nf_inA hl rfl, sgq_913 ?_⟩
    · show v_iv (n_v (vs ++ [Value.int x]) 6) ≤ 78
      simp only [e_6, q6]
      exact vc_Mo_augment_3_2 (v_iv (n_v vs 1)) k1 f6
  have nf3 : fc_1 PRD (20, [6, 5], [50, 1, 0, 1079, 1, 2, 1, 0, 4, 3, 2, 1, 79, 0, 2]) ws (vs ++ [Value.int x]) := by
    refine ⟨nf_inA hl rfl, sgq_914 ?_⟩
    · show v_iv (n_v (vs ++ [Value.int x]) 6) = (w_fi ws (n_v (vs ++ [Value.int x]) 5) 79 + 2)
      simp only [e_5, e_6, q5, q6]
      exact vc_Mo_augment_3_3 (v_iv (n_v vs 1)) (w_fi ws (n_v vs 0) 79) k1 f7 kz_0_79
  have nf4 : fc_1 PRD (20, [7, 5], [50, 1, 0, 1079, 1, 2, 1, 0, 2, 1, 79]) ws (vs ++ [Value.int x]) := by
    refine ⟨nf_inA hl rfl, sgq_915 ?_⟩
    · show v_iv (n_v (vs ++ [Value.int x]) 7) = w_fi ws (n_v (vs ++ [Value.int x]) 5) 79
      simp only [e_5, e_7, q5, q7]
      exact vc_Mo_augment_3_4 (v_iv (n_v vs 2)) (w_fi ws (n_v vs 0) 79) k2 f8 kz_0_79
  have nf5 : fc_1 PRD (20, [8, 5], [50, 1, 0, 1079, 1, 2, 1, 0, 4, 3, 2, 1, 79, 0, 1]) ws (vs ++ [Value.int x]) := by
    refine ⟨nf_inA hl rfl, sgq_916 ?_⟩
    · show v_iv (n_v (vs ++ [Value.int x]) 8) = (w_fi ws (n_v (vs ++ [Value.int x]) 5) 79 + 1)
      simp only [e_5, e_8, q5, q8]
      exact vc_Mo_augment_3_5 (v_iv (n_v vs 3)) (w_fi ws (n_v vs 0) 79) k3 f9 kz_0_79
  have nf6 : fc_1 PRD (20, [5], [60, 3, 9, 397, 79, 80, 81, 90, 82, 83, 84, 85, 86, 87, 88, 89]) ws (vs ++ [Value.int x]) := by
    refine ⟨nf_inA hl rfl, sgq_917 ?_⟩
    · show FLO (w_fi ws (n_v (vs ++ [Value.int x]) 5) 79) (w_fi ws (n_v (vs ++ [Value.int x]) 5) 80) (w_fi ws (n_v (vs ++ [Value.int x]) 5) 81) (w_ei ws (w_ar ws (n_v (vs ++ [Value.int x]) 5) 90)) (w_ei ws (w_ar ws (n_v (vs ++ [Value.int x]) 5) 82)) (w_ei ws (w_ar ws (n_v (vs ++ [Value.int x]) 5) 83)) (w_ei ws (w_ar ws (n_v (vs ++ [Value.int x]) 5) 84)) (w_ei ws (w_ar ws (n_v (vs ++ [Value.int x]) 5) 85)) (w_ei ws (w_ar ws (n_v (vs ++ [Value.int x]) 5) 86)) (w_ei ws (w_ar ws (n_v (vs ++ [Value.int x]) 5) 87)) (w_ei ws (w_ar ws (n_v (vs ++ [Value.int x]) 5) 88)) (w_ei ws (w_ar ws (n_v (vs ++ [Value.int x]) 5) 89))
      simp only [e_5, q5]
      exact vc_Mo_augment_3_6 (w_fi ws (n_v vs 0) 79) (w_ei ws (w_ar ws (n_v vs 0) 90)) (w_ei ws (w_ar ws (n_v vs 0) 82)) (w_ei ws (w_ar ws (n_v vs 0) 83)) (w_ei ws (w_ar ws (n_v vs 0) 84)) (w_ei ws (w_ar ws (n_v vs 0) 85)) (w_ei ws (w_ar ws (n_v vs 0) 86)) (w_ei ws (w_ar ws (n_v vs 0) 87)) (w_ei ws (w_ar ws (n_v vs 0) 88)) (w_ei ws (w_ar ws (n_v vs 0) 89)) (w_fi ws (n_v vs 0) 80) (w_fi ws (n_v vs 0) 81) f10 kz_0_79 kz_0_80 kz_0_81
  have nf7 : fc_1 PRD (20, [5, 4], [60, 1, 1, 398, 79, 90]) ws (vs ++ [Value.int x]) := by
    refine ⟨nf_inA hl rfl, sgq_918 ?_⟩
    · show XLE (w_fi ws (n_v (vs ++ [Value.int x]) 5) 79) (w_ei ws (w_ar ws (n_v (vs ++ [Value.int x]) 5) 90)) (v_iv (n_v (vs ++ [Value.int x]) 4))
      simp only [e_4, e_5, q5]
      exact vc_Mo_augment_3_7 (v_iv (n_v vs 4)) (w_fi ws (n_v vs 0) 79) (w_ei ws (w_ar ws (n_v vs 0) 90)) k4 f11 kz_0_79
  have nf8 : fc_1 PRD (20, [5, 6, 7], [60, 0, 2, 401, 90, 91]) ws (vs ++ [Value.int x]) := by
    refine ⟨nf_inA hl rfl, sgq_922 ?_⟩
    · show FPT (w_ei ws (w_ar ws (n_v (vs ++ [Value.int x]) 5) 90)) (w_ei ws (w_ar ws (n_v (vs ++ [Value.int x]) 5) 91)) (v_iv (n_v (vs ++ [Value.int x]) 6)) (v_iv (n_v (vs ++ [Value.int x]) 7))
      simp only [e_5, e_6, e_7, q5, q6, q7]
      exact vc_Mo_augment_3_8 (v_iv (n_v vs 1)) (v_iv (n_v vs 2)) (w_ei ws (w_ar ws (n_v vs 0) 91)) (w_ei ws (w_ar ws (n_v vs 0) 90)) k1 k2 f12
  have nf9 : fc_1 PRD (20, [5, 6, 7, 8, 8, 14], [60, 0, 2, 407, 90, 91]) ws (vs ++ [Value.int x]) := by
    refine ⟨nf_inA hl rfl, sgq_926 ?_⟩
    · show MN1 (w_ei ws (w_ar ws (n_v (vs ++ [Value.int x]) 5) 90)) (w_ei ws (w_ar ws (n_v (vs ++ [Value.int x]) 5) 91)) (v_iv (n_v (vs ++ [Value.int x]) 6)) (v_iv (n_v (vs ++ [Value.int x]) 7)) (v_iv (n_v (vs ++ [Value.int x]) 8)) (v_iv (n_v (vs ++ [Value.int x]) 8)) (v_iv (n_v (vs ++ [Value.int x]) 14))
      simp only [e_5, e_6, e_7, e_8, e_14, q5, q6, q7, q8]
      exact vc_Mo_augment_3_9 (v_iv (n_v vs 1)) (v_iv (n_v vs 2)) (v_iv (n_v vs 3)) (v_iv (n_v vs 14)) (w_ei ws (w_ar ws (n_v vs 0) 91)) (w_ei ws (w_ar ws (n_v vs 0) 90)) k1 k2 k3 k14
  have nf10 : fc_1 PRD (20, [5, 6, 7, 10, 8, 15], [60, 0, 2, 394, 92, 91]) ws (vs ++ [Value.int x]) := by
    refine ⟨nf_inA hl rfl, sgq_927 ?_⟩
    · show AUW (w_ei ws (w_ar ws (n_v (vs ++ [Value.int x]) 5) 92)) (w_ei ws (w_ar ws (n_v (vs ++ [Value.int x]) 5) 91)) (v_iv (n_v (vs ++ [Value.int x]) 6)) (v_iv (n_v (vs ++ [Value.int x]) 7)) (v_iv (n_v (vs ++ [Value.int x]) 10)) (v_iv (n_v (vs ++ [Value.int x]) 8)) (v_iv (n_v (vs ++ [Value.int x]) 15))
      simp only [e_5, e_6, e_7, e_8, e_10, e_15, q5, q6, q7, q8]
      exact vc_Mo_augment_3_10 (v_iv (n_v vs 1)) (v_iv (n_v vs 2)) (v_iv (n_v vs 3)) (v_iv (n_v vs 6)) (v_iv (n_v vs 8)) (v_iv (n_v vs 10)) (v_iv (n_v vs 13)) (w_ei ws (w_ar ws (n_v vs 0) 91)) (w_fi ws (n_v vs 0) 79) (w_ei ws (w_ar ws (n_v vs 0) 92)) (v_iv (Value.int x)) k1 k2 k3 k6 k8 k10 k13 d1 d3 d4 d6 h1 f7 f9 f13 kz_0_79 ex2
  have nf11 : fc_1 PRD (20, [5, 6, 7, 10, 8], [60, 0, 2, 393, 92, 91]) ws (vs ++ [Value.int x]) := by
    refine ⟨nf_inA hl rfl, sgq_928 ?_⟩
    · show AU2 (w_ei ws (w_ar ws (n_v (vs ++ [Value.int x]) 5) 92)) (w_ei ws (w_ar ws (n_v (vs ++ [Value.int x]) 5) 91)) (v_iv (n_v (vs ++ [Value.int x]) 6)) (v_iv (n_v (vs ++ [Value.int x]) 7)) (v_iv (n_v (vs ++ [Value.int x]) 10)) (v_iv (n_v (vs ++ [Value.int x]) 8))
      simp only [e_5, e_6, e_7, e_8, e_10, q5, q6, q7, q8]
      exact vc_Mo_augment_3_11 (v_iv (n_v vs 1)) (v_iv (n_v vs 2)) (v_iv (n_v vs 3)) (v_iv (n_v vs 6)) (v_iv (n_v vs 8)) (v_iv (n_v vs 10)) (v_iv (n_v vs 13)) (w_ei ws (w_ar ws (n_v vs 0) 91)) (w_fi ws (n_v vs 0) 79) (w_ei ws (w_ar ws (n_v vs 0) 92)) k1 k2 k3 k6 k8 k10 k13 d1 d3 d4 d6 h1 f7 f9 f13 kz_0_79
  have nf12 : fc_1 PRD (24, [0, 5], []) ws (vs ++ [Value.int x]) := by
    refine ⟨nf_inA hl rfl, sgq_5 ?_⟩
    · show n_v (vs ++ [Value.int x]) 0 = n_v (vs ++ [Value.int x]) 5
      first | rfl | simp only [e_0, e_5, q5, q6, q7, q8]
  have nf13 : fc_1 PRD (24, [1, 6], []) ws (vs ++ [Value.int x]) := by
    refine ⟨nf_inA hl rfl, sgq_5 ?_⟩
    · show n_v (vs ++ [Value.int x]) 1 = n_v (vs ++ [Value.int x]) 6
      first | rfl | simp only [e_1, e_6, q5, q6, q7, q8]
  have nf14 : fc_1 PRD (24, [2, 7], []) ws (vs ++ [Value.int x]) := by
    refine ⟨nf_inA hl rfl, sgq_5 ?_⟩
    · show n_v (vs ++ [Value.int x]) 2 = n_v (vs ++ [Value.int x]) 7
      first | rfl | simp only [e_2, e_7, q5, q6, q7, q8]
  have nf15 : fc_1 PRD (24, [3, 8], []) ws (vs ++ [Value.int x]) := by
    refine ⟨nf_inA hl rfl, sgq_5 ?_⟩
    · show n_v (vs ++ [Value.int x]) 3 = n_v (vs ++ [Value.int x]) 8
      first | rfl | simp only [e_3, e_8, q5, q6, q7, q8]
  exact ⟨(fun _ h => (by cases h)), [Value.int x], ag_one hx, List.forall_mem_cons.mpr ⟨⟨show (20 : Nat) < 100 from by decide, nf0⟩, List.forall_mem_cons.mpr ⟨⟨show (20 : Nat) < 100 from by decide, nf1⟩, List.forall_mem_cons.mpr ⟨⟨show (20 : Nat) < 100 from by decide, nf2⟩, List.forall_mem_cons.mpr ⟨⟨show (20 : Nat) < 100 from by decide, nf3⟩, List.forall_mem_cons.mpr ⟨⟨show (20 : Nat) < 100 from by decide, nf4⟩, List.forall_mem_cons.mpr ⟨⟨show (20 : Nat) < 100 from by decide, nf5⟩, List.forall_mem_cons.mpr ⟨⟨show (20 : Nat) < 100 from by decide, nf6⟩, List.forall_mem_cons.mpr ⟨⟨show (20 : Nat) < 100 from by decide, nf7⟩, List.forall_mem_cons.mpr ⟨⟨show (20 : Nat) < 100 from by decide, nf8⟩, List.forall_mem_cons.mpr ⟨⟨show (20 : Nat) < 100 from by decide, nf9⟩, List.forall_mem_cons.mpr ⟨⟨show (20 : Nat) < 100 from by decide, nf10⟩, List.forall_mem_cons.mpr ⟨⟨show (20 : Nat) < 100 from by decide, nf11⟩, List.forall_mem_cons.mpr ⟨⟨show (24 : Nat) < 100 from by decide, nf12⟩, List.forall_mem_cons.mpr ⟨⟨show (24 : Nat) < 100 from by decide, nf13⟩, List.forall_mem_cons.mpr ⟨⟨show (24 : Nat) < 100 from by decide, nf14⟩, List.forall_mem_cons.mpr ⟨⟨show (24 : Nat) < 100 from by decide, nf15⟩, (fun _ h => (by cases h))⟩⟩⟩⟩⟩⟩⟩⟩⟩⟩⟩⟩⟩⟩⟩⟩, (fun _ h => (by cases h))⟩
set_option maxHeartbeats 4000000 in
theorem vc_Mo_augment_4_0 (pointMany_0 : Int) (flow_0 : Int → Int) (spot_0 : Int → Int) (costA_0 : Int → Int) (costB_0 : Int → Int) (costW_0 : Int → Int) (costPlain_0 : Int → Int) (apartA_0 : Int → Int) (apartB_0 : Int → Int) (apart_0 : Int → Int) (costMany_0 : Int) (apartMany_0 : Int) (f10 : FLO (pointMany_0) (costMany_0) (apartMany_0) (flow_0) (spot_0) (costA_0) (costB_0) (costW_0) (costPlain_0) (apartA_0) (apartB_0) (apart_0)) (kz_0_79 : 0 ≤ pointMany_0 ∧ pointMany_0 ≤ 76) (kz_0_80 : 0 ≤ costMany_0 ∧ costMany_0 ≤ 200) (kz_0_81 : 0 ≤ apartMany_0 ∧ apartMany_0 ≤ 200) : FLO (pointMany_0) (costMany_0) (apartMany_0) (flow_0) (spot_0) (costA_0) (costB_0) (costW_0) (costPlain_0) (apartA_0) (apartB_0) (apart_0) := by
  first
    | assumption
    | exact (psh_end ‹PSH _ _ _ _ _ _ _ _ _ _ _ _ _ _ _ _› (by omega)).1
set_option maxHeartbeats 4000000 in
theorem vc_Mo_augment_4_1 (x4 : Int) (x14 : Int) (pointMany_0 : Int) (flow_0 : Int → Int) (k4 : (-2) ≤ x4 ∧ x4 ≤ 180000001) (k14 : 0 ≤ x14 ∧ x14 ≤ 0) (kz_0_79 : 0 ≤ pointMany_0 ∧ pointMany_0 ≤ 76) : XLA (pointMany_0) (flow_0) (x14) (x4) := by
  first
    | (intro h; exfalso; omega)
    | (intro _; exact (psh_end ‹PSH _ _ _ _ _ _ _ _ _ _ _ _ _ _ _ _› (by omega)).2)
set_option maxHeartbeats 4000000 in
theorem vc_Mo_augment_4_2 (x1 : Int) (x2 : Int) (x3 : Int) (x9 : Int) (x10 : Int) (x13 : Int) (x14 : Int) (cameBy_0 : Int → Int) (flow_0 : Int → Int) (queue_0 : Int → Int) (k1 : 2 ≤ x1 ∧ x1 ≤ 78) (k2 : 0 ≤ x2 ∧ x2 ≤ 76) (k3 : 1 ≤ x3 ∧ x3 ≤ 77) (k9 : 1 ≤ x9 ∧ x9 ≤ 78) (k10 : 1 ≤ x10 ∧ x10 ≤ 78) (k13 : (-1) ≤ x13 ∧ x13 ≤ (-1)) (k14 : 0 ≤ x14 ∧ x14 ≤ 0) (h1 : x13 = cameBy_0 (x3)) (f3 : x10 ≤ x9) (f12 : FPT (flow_0) (cameBy_0) (x1) (x2)) (f13 : AU1 (queue_0) (cameBy_0) (x1) (x2) (x10)) (f15 : BF1 (flow_0) (queue_0) (cameBy_0) (x1) (x9)) : CTA (flow_0) (cameBy_0) (x1) (x2) (x3) (x14) := by
  first
    | (intro h; exfalso; omega)
    | (intro _; exact cut_of ‹AU1 _ _ _ _ _› ‹FPT _ _ _ _› ‹BF1 _ _ _ _ _› (by omega) (by omega))
def o_Mo_augment_4 : or_T := (139, 15, [(0, (2, 0, 0, [165])), (1, (0, 2, 78, [])), (2, (0, 0, 76, [])), (3, (0, 1, 77, [])), (4, (0, -2, 180000001, [])), (9, (0, 1, 78, [])), (10, (0, 1, 78, [])), (13, (0, -1, -1, [])), (14, (0, 0, 0, []))], [(10, [13, 12, 8], []), (9, [12, 5], [91]), (7, [9, 10], [3]), (20, [5], [60, 3, 9, 397, 79, 80, 81, 90, 82, 83, 84, 85, 86, 87, 88, 89]), (20, [5, 6, 7], [60, 0, 2, 401, 90, 91]), (20, [5, 6, 7, 10], [60, 0, 2, 392, 92, 91]), (20, [5, 6, 9], [60, 0, 3, 402, 90, 92, 91]), (24, [0, 5], []), (24, [1, 6], []), (24, [2, 7], []), (24, [3, 8], [])], [], [], [(20, [0], [60, 3, 9, 397, 79, 80, 81, 90, 82, 83, 84, 85, 86, 87, 88, 89]), (20, [0, 14, 4], [60, 1, 1, 400, 79, 90]), (20, [0, 1, 2, 3, 14], [60, 0, 2, 405, 90, 91])], [], [])
theorem oo_Mo_augment_4 {kA : Nat → ClassId} : or_ok PRD kA GG o_Mo_augment_4 := by
  refine or_mk fun A ta ws vs hD hth hl => ?_
  intro t0 r0 t1 k1 t2 k2 t3 k3 t4 k4 t9 k9 t10 k10 t13 k13 t14 k14 f1 f2 f3 f10 f12 f13 f15 f16 f17 f18 f19
  replace f1 := shm_106 f1
  replace f2 := shm_921 f2
  replace f10 := shm_917 f10
  replace f12 := shm_922 f12
  replace f13 := shm_923 f13
  replace f15 := shm_925 f15
  replace f16 := shm_5 f16
  replace f17 := shm_5 f17
  replace f18 := shm_5 f18
  replace f19 := shm_5 f19
  have q5 : n_v vs 5 = n_v vs 0 := f16.symm
  have q6 : n_v vs 6 = n_v vs 1 := f17.symm
  have q7 : n_v vs 7 = n_v vs 2 := f18.symm
  have q8 : n_v vs 8 = n_v vs 3 := f19.symm
  simp only [q8, q5, q6, q7] at f1 f2 f10 f12 f13 f15
  have ad_12 : v_ad (n_v vs 12) = w_ar ws (n_v vs 0) 91 := congrArg v_ad f2
  simp only [ad_12] at f1
  have h1 : v_iv (n_v vs 13) = w_ei ws (w_ar ws (n_v vs 0) 91) (v_iv (n_v vs 3)) := f1
  have kz_0_79 := fdq_146 hD hth r0
  have kz_0_80 := fdq_130 hD hth r0
  have kz_0_81 := fdq_123 hD hth r0
  have nf0 : fc_1 PRD (20, [0], [60, 3, 9, 397, 79, 80, 81, 90, 82, 83, 84, 85, 86, 87, 88, 89]) ws (vs) := ⟨nf_in hl rfl, sgq_917 (vc_Mo_augment_4_0 (w_fi ws (n_v vs 0) 79) (w_ei ws (w_ar ws (n_v vs 0) 90)) (w_ei ws (w_ar ws (n_v vs 0) 82)) (w_ei ws (w_ar ws (n_v vs 0) 83)) (w_ei ws (w_ar ws (n_v vs 0) 84)) (w_ei ws (w_ar ws (n_v vs 0) 85)) (w_ei ws (w_ar ws (n_v vs 0) 86)) (w_ei ws (w_ar ws (n_v vs 0) 87)) (w_ei ws (w_ar ws (n_v vs 0) 88)) (w_ei ws (w_ar ws (n_v vs 0) 89)) (w_fi ws (n_v vs 0) 80) (w_fi ws (n_v vs 0) 81) f10 kz_0_79 kz_0_80 kz_0_81)⟩
  have nf1 : fc_1 PRD (20, [0, 14, 4], [60, 1, 1, 400, 79, 90]) ws (vs) := ⟨nf_in hl rfl, sgq_929 (vc_Mo_augment_4_1 (v_iv (n_v vs 4)) (v_iv (n_v vs 14)) (w_fi ws (n_v vs 0) 79) (w_ei ws (w_ar ws (n_v vs 0) 90)) k4 k14 kz_0_79)⟩
  have nf2 : fc_1 PRD (20, [0, 1, 2, 3, 14], [60, 0, 2, 405, 90, 91]) ws (vs) := ⟨nf_in hl rfl, sgq_930 (vc_Mo_augment_4_2 (v_iv (n_v vs 1)) (v_iv (n_v vs 2)) (v_iv (n_v vs 3)) (v_iv (n_v vs 9)) (v_iv (n_v vs 10)) (v_iv (n_v vs 13)) (v_iv (n_v vs 14)) (w_ei ws (w_ar ws (n_v vs 0) 91)) (w_ei ws (w_ar ws (n_v vs 0) 90)) (w_ei ws (w_ar ws (n_v vs 0) 92)) k1 k2 k3 k9 k10 k13 k14 h1 (shm_2 f3) f12 f13 f15)⟩
  refine ⟨(fun _ h => (by cases h)), [], trivial, ?_, (fun _ h => (by cases h))⟩
  rw [List.append_nil]
  exact List.forall_mem_cons.mpr ⟨⟨show (20 : Nat) < 100 from by decide, nf0⟩, List.forall_mem_cons.mpr ⟨⟨show (20 : Nat) < 100 from by decide, nf1⟩, List.forall_mem_cons.mpr ⟨⟨show (20 : Nat) < 100 from by decide, nf2⟩, (fun _ h => (by cases h))⟩⟩⟩
set_option maxHeartbeats 4000000 in
theorem vc_Mo_augment_5_r0 (x1 : Int) (x2 : Int) (x6 : Int) (x9 : Int) (x10 : Int) (pointMany_0 : Int) (cameBy_0 : Int → Int) (queue_0 : Int → Int) (k1 : 2 ≤ x1 ∧ x1 ≤ 78) (k2 : 0 ≤ x2 ∧ x2 ≤ 76) (k6 : 2 ≤ x6 ∧ x6 ≤ 78) (k9 : 0 ≤ x9 ∧ x9 ≤ 78) (k10 : 1 ≤ x10 ∧ x10 ≤ 79) (d0 : x10 + (-4294967296) ≤ x9 ∧ x9 ≤ x10 + (-1)) (d1 : x6 + (-4294967296) ≤ x1 ∧ x1 ≤ x6 + 0) (d4 : x1 + (-4294967296) ≤ x6 ∧ x6 ≤ x1 + 0) (f5 : x1 = (pointMany_0 + 2)) (f11 : AU1 (queue_0) (cameBy_0) (x1) (x2) (x10)) (kz_0_79 : 0 ≤ pointMany_0 ∧ pointMany_0 ≤ 76) : 0 ≤ x9 ∧ x9 ≤ 77 := by
  have h := au1_len ‹AU1 _ _ _ _ _›
  omega
def o_Mo_augment_5 : or_T := (54, 13, [(0, (2, 0, 0, [165])), (1, (0, 2, 78, [])), (2, (0, 0, 76, [])), (3, (0, 1, 77, [])), (4, (0, -2, 180000001, [])), (5, (2, 0, 0, [165])), (6, (0, 2, 78, [])), (7, (0, 0, 76, [])), (8, (0, 1, 77, [])), (9, (0, 0, 78, [])), (10, (0, 1, 79, [])), (11, (0, -2, 79, [])), (12, (2, 0, 0, [229]))], [(9, [12, 5], [92]), (7, [9, 10], [2]), (20, [7, 6], [50, 0, 0, 0, 6, 4, 2, 1, 0, 0, 1, 1, 1]), (20, [8, 6], [50, 0, 0, 0, 6, 4, 2, 1, 0, 0, 1, 1, 1]), (20, [6], [50, 0, 0, 0, 2, 1, 0, 0, 78]), (20, [6, 5], [50, 1, 0, 1079, 1, 2, 1, 0, 4, 3, 2, 1, 79, 0, 2]), (20, [7, 5], [50, 1, 0, 1079, 1, 2, 1, 0, 2, 1, 79]), (20, [8, 5], [50, 1, 0, 1079, 1, 2, 1, 0, 4, 3, 2, 1, 79, 0, 1]), (20, [5], [60, 3, 9, 397, 79, 80, 81, 90, 82, 83, 84, 85, 86, 87, 88, 89]), (20, [5, 4], [60, 1, 1, 398, 79, 90]), (20, [5, 6, 7], [60, 0, 2, 401, 90, 91]), (20, [5, 6, 7, 10], [60, 0, 2, 392, 92, 91]), (23, [9, 11], [-78, -1, -1]), (20, [5, 6, 9], [60, 0, 3, 402, 90, 92, 91]), (24, [0, 5], []), (24, [1, 6], []), (24, [2, 7], []), (24, [3, 8], [])], [(9, (0, 0, 77, []))], [], [], [], [(9, 10, -4294967296, -1), (1, 6, -4294967296, 0), (2, 7, -4294967296, 0), (3, 8, -4294967296, 0), (6, 1, -4294967296, 0), (7, 2, -4294967296, 0), (8, 3, -4294967296, 0), (9, 10, -4294967296, 0)])
theorem oo_Mo_augment_5 {kA : Nat → ClassId} : or_ok PRD kA GG o_Mo_augment_5 := by
  refine or_mk fun A ta ws vs hD hth hl => ?_
  intro t0 r0 t1 k1 t2 k2 t3 k3 t4 k4 t5 r5 t6 k6 t7 k7 t8 k8 t9 k9 t10 k10 t11 k11 t12 r12 d0 d1 d2 d3 d4 d5 d6 d7 f0 f1 f2 f3 f4 f5 f6 f7 f8 f9 f10 f11 f12 f13 f14 f15 f16 f17
  replace f5 := shm_914 f5
  replace f11 := shm_923 f11
  replace f14 := shm_5 f14
  replace f15 := shm_5 f15
  replace f16 := shm_5 f16
  have q5 : n_v vs 5 = n_v vs 0 := f14.symm
  have q6 : n_v vs 6 = n_v vs 1 := f15.symm
  have q7 : n_v vs 7 = n_v vs 2 := f16.symm
  simp only [q5, q6, q7] at f5 f11
  have kz_0_79 := fdq_146 hD hth r0
  have hrf0 : 0 ≤ v_iv (n_v vs 9) ∧ v_iv (n_v vs 9) ≤ 77 := vc_Mo_augment_5_r0 (v_iv (n_v vs 1)) (v_iv (n_v vs 2)) (v_iv (n_v vs 6)) (v_iv (n_v vs 9)) (v_iv (n_v vs 10)) (w_fi ws (n_v vs 0) 79) (w_ei ws (w_ar ws (n_v vs 0) 91)) (w_ei ws (w_ar ws (n_v vs 0) 92)) k1 k2 k6 k9 k10 d0 d1 d4 f5 f11 kz_0_79
  have rf9 : tv_ok ta (0, 0, 77, []) (n_v vs 9) := tv_in t9 (by first | omega | grind) (by first | omega | grind)
  refine ⟨List.forall_mem_cons.mpr ⟨rf9, (fun _ h => (by cases h))⟩, [], trivial, ?_, (fun _ h => (by cases h))⟩
  rw [List.append_nil]
  exact (fun _ h => (by cases h))
set_option maxHeartbeats 4000000 in
theorem vc_Mo_augment_6_0 (x1 : Int) (x2 : Int) (x9 : Int) (k1 : 2 ≤ x1 ∧ x1 ≤ 78) (k2 : 0 ≤ x2 ∧ x2 ≤ 76) (f4 : (x2 + 1) ≤ x1) : (x2 + 1) ≤ x1 := by
  first
    | omega
    | (have h := ‹AU1 _ _ _ _ _›.2.2.1 x9 (by omega) (by omega); omega)
    | (have h := au1_len ‹AU1 _ _ _ _ _›; omega)
set_option maxHeartbeats 4000000 in
theorem vc_Mo_augment_6_1 (x1 : Int) (x3 : Int) (x9 : Int) (k1 : 2 ≤ x1 ∧ x1 ≤ 78) (k3 : 1 ≤ x3 ∧ x3 ≤ 77) (f5 : (x3 + 1) ≤ x1) : (x3 + 1) ≤ x1 := by
  first
    | omega
    | (have h := ‹AU1 _ _ _ _ _›.2.2.1 x9 (by omega) (by omega); omega)
    | (have h := au1_len ‹AU1 _ _ _ _ _›; omega)
set_option maxHeartbeats 4000000 in
theorem vc_Mo_augment_6_2 (x1 : Int) (x9 : Int) (k1 : 2 ≤ x1 ∧ x1 ≤ 78) (f6 : x1 ≤ 78) : x1 ≤ 78 := by
  first
    | omega
    | (have h := ‹AU1 _ _ _ _ _›.2.2.1 x9 (by omega) (by omega); omega)
    | (have h := au1_len ‹AU1 _ _ _ _ _›; omega)
set_option maxHeartbeats 4000000 in
theorem vc_Mo_augment_6_3 (x1 : Int) (x9 : Int) (pointMany_0 : Int) (k1 : 2 ≤ x1 ∧ x1 ≤ 78) (f7 : x1 = (pointMany_0 + 2)) (kz_0_79 : 0 ≤ pointMany_0 ∧ pointMany_0 ≤ 76) : x1 = (pointMany_0 + 2) := by
  first
    | omega
    | (have h := ‹AU1 _ _ _ _ _›.2.2.1 x9 (by omega) (by omega); omega)
    | (have h := au1_len ‹AU1 _ _ _ _ _›; omega)
set_option maxHeartbeats 4000000 in
theorem vc_Mo_augment_6_4 (x2 : Int) (x9 : Int) (pointMany_0 : Int) (k2 : 0 ≤ x2 ∧ x2 ≤ 76) (f8 : x2 = pointMany_0) (kz_0_79 : 0 ≤ pointMany_0 ∧ pointMany_0 ≤ 76) : x2 = pointMany_0 := by
  first
    | omega
    | (have h := ‹AU1 _ _ _ _ _›.2.2.1 x9 (by omega) (by omega); omega)
    | (have h := au1_len ‹AU1 _ _ _ _ _›; omega)
set_option maxHeartbeats 4000000 in
theorem vc_Mo_augment_6_5 (x3 : Int) (x9 : Int) (pointMany_0 : Int) (k3 : 1 ≤ x3 ∧ x3 ≤ 77) (f9 : x3 = (pointMany_0 + 1)) (kz_0_79 : 0 ≤ pointMany_0 ∧ pointMany_0 ≤ 76) : x3 = (pointMany_0 + 1) := by
  first
    | omega
    | (have h := ‹AU1 _ _ _ _ _›.2.2.1 x9 (by omega) (by omega); omega)
    | (have h := au1_len ‹AU1 _ _ _ _ _›; omega)
set_option maxHeartbeats 4000000 in
theorem vc_Mo_augment_6_6 (pointMany_0 : Int) (flow_0 : Int → Int) (spot_0 : Int → Int) (costA_0 : Int → Int) (costB_0 : Int → Int) (costW_0 : Int → Int) (costPlain_0 : Int → Int) (apartA_0 : Int → Int) (apartB_0 : Int → Int) (apart_0 : Int → Int) (costMany_0 : Int) (apartMany_0 : Int) (f10 : FLO (pointMany_0) (costMany_0) (apartMany_0) (flow_0) (spot_0) (costA_0) (costB_0) (costW_0) (costPlain_0) (apartA_0) (apartB_0) (apart_0)) (kz_0_79 : 0 ≤ pointMany_0 ∧ pointMany_0 ≤ 76) (kz_0_80 : 0 ≤ costMany_0 ∧ costMany_0 ≤ 200) (kz_0_81 : 0 ≤ apartMany_0 ∧ apartMany_0 ≤ 200) : FLO (pointMany_0) (costMany_0) (apartMany_0) (flow_0) (spot_0) (costA_0) (costB_0) (costW_0) (costPlain_0) (apartA_0) (apartB_0) (apart_0) := by
  first
    | assumption
    | exact (psh_end ‹PSH _ _ _ _ _ _ _ _ _ _ _ _ _ _ _ _› (by omega)).1
set_option maxHeartbeats 4000000 in
theorem vc_Mo_augment_6_7 (x4 : Int) (pointMany_0 : Int) (flow_0 : Int → Int) (k4 : (-2) ≤ x4 ∧ x4 ≤ 180000001) (f11 : XLE (pointMany_0) (flow_0) (x4)) (kz_0_79 : 0 ≤ pointMany_0 ∧ pointMany_0 ≤ 76) : XLE (pointMany_0) (flow_0) (x4) := by
  assumption
set_option maxHeartbeats 4000000 in
theorem vc_Mo_augment_6_8 (x1 : Int) (x2 : Int) (flow_0 : Int → Int) (cameBy_0 : Int → Int) (k1 : 2 ≤ x1 ∧ x1 ≤ 78) (k2 : 0 ≤ x2 ∧ x2 ≤ 76) (f12 : FPT (flow_0) (cameBy_0) (x1) (x2)) : FPT (flow_0) (cameBy_0) (x1) (x2) := by
  first
    | assumption
    | exact fpt_start ‹AU0 _ _› (by omega) (by assumption) (by omega)
    | exact fpt_step2 ‹FPT _ _ _ _› (by assumption) rfl (by assumption) (by assumption) (by assumption) (by assumption) (by omega)
set_option maxHeartbeats 4000000 in
theorem vc_Mo_augment_6_9 (x1 : Int) (x9 : Int) (x13 : Int) (x14 : Int) (queue_0 : Int → Int) (flow_0 : Int → Int) (cameBy_0 : Int → Int) (k1 : 2 ≤ x1 ∧ x1 ≤ 78) (k9 : 0 ≤ x9 ∧ x9 ≤ 77) (k13 : 0 ≤ x13 ∧ x13 ≤ 77) (k14 : 1 ≤ x14 ∧ x14 ≤ 78) (d0 : x9 + 1 ≤ x14 ∧ x14 ≤ x9 + 1) (f0 : x14 = x9 + 1) (h1 : x13 = queue_0 (x9)) (f15 : BF1 (flow_0) (queue_0) (cameBy_0) (x1) (x9)) : BG1 (flow_0) (queue_0) (cameBy_0) (x1) (x14) (x13) := by
  first
    | assumption
    | exact bg1_start ‹BF1 _ _ _ _ _› (by omega) (by assumption) (by assumption)
    | exact bg1_step ‹BG1 _ _ _ _ _ _› (by assumption) (by omega) (by assumption) (by omega)
set_option maxHeartbeats 4000000 in
theorem vc_Mo_augment_6_10 (x1 : Int) (x13 : Int) (x15 : Int) (flow_0 : Int → Int) (cameBy_0 : Int → Int) (k1 : 2 ≤ x1 ∧ x1 ≤ 78) (k13 : 0 ≤ x13 ∧ x13 ≤ 77) (k15 : 0 ≤ x15 ∧ x15 ≤ 0) : BF2 (flow_0) (cameBy_0) (x1) (x13) (x15) := by
  first
    | exact bf2_zero (by omega)
    | exact bf2_skip1 ‹BF2 _ _ _ _ _› (by assumption) (by assumption) (by omega)
    | exact bf2_skip2 ‹BF2 _ _ _ _ _› (by assumption) (by assumption) (by assumption) (by assumption) (by omega)
    | exact bf2_step ‹BF2 _ _ _ _ _› (by assumption) (by assumption) rfl (by omega)
set_option maxHeartbeats 4000000 in
theorem vc_Mo_augment_6_11 (x1 : Int) (x2 : Int) (x9 : Int) (x10 : Int) (x13 : Int) (x14 : Int) (queue_0 : Int → Int) (cameBy_0 : Int → Int) (k1 : 2 ≤ x1 ∧ x1 ≤ 78) (k2 : 0 ≤ x2 ∧ x2 ≤ 76) (k9 : 0 ≤ x9 ∧ x9 ≤ 77) (k10 : 1 ≤ x10 ∧ x10 ≤ 79) (k13 : 0 ≤ x13 ∧ x13 ≤ 77) (k14 : 1 ≤ x14 ∧ x14 ≤ 78) (d0 : x9 + 1 ≤ x14 ∧ x14 ≤ x9 + 1) (h1 : x13 = queue_0 (x9)) (f3 : x9 < x10) (f13 : AU1 (queue_0) (cameBy_0) (x1) (x2) (x10)) : AU2 (queue_0) (cameBy_0) (x1) (x2) (x10) (x13) := by
  first
    | assumption
    | exact au2_start (k := x9) ‹AU1 _ _ _ _ _› (by omega) (by omega) (by assumption)
    | exact au2_step (p := x12) ‹AU2 _ _ _ _ _ _› (by omega) (by omega) (by omega) (by omega) (by assumption) (by omega) (by assumption) (by omega) (by omega)
set_option maxHeartbeats 4000000 in
theorem vc_Mo_augment_6_12 (x1 : Int) (x2 : Int) (x6 : Int) (x9 : Int) (x10 : Int) (x13 : Int) (x14 : Int) (queue_0 : Int → Int) (pointMany_0 : Int) (cameBy_0 : Int → Int) (k1 : 2 ≤ x1 ∧ x1 ≤ 78) (k2 : 0 ≤ x2 ∧ x2 ≤ 76) (k6 : 2 ≤ x6 ∧ x6 ≤ 78) (k9 : 0 ≤ x9 ∧ x9 ≤ 77) (k10 : 1 ≤ x10 ∧ x10 ≤ 79) (k13 : 0 ≤ x13 ∧ x13 ≤ 77) (k14 : 1 ≤ x14 ∧ x14 ≤ 78) (d0 : x9 + 1 ≤ x14 ∧ x14 ≤ x9 + 1) (d4 : x6 + (-4294967296) ≤ x1 ∧ x1 ≤ x6 + 0) (d7 : x1 + (-4294967296) ≤ x6 ∧ x6 ≤ x1 + 0) (h1 : x13 = queue_0 (x9)) (f3 : x9 < x10) (f7 : x1 = (pointMany_0 + 2)) (f13 : AU1 (queue_0) (cameBy_0) (x1) (x2) (x10)) (kz_0_79 : 0 ≤ pointMany_0 ∧ pointMany_0 ≤ 76) : (x13 + 1) ≤ x1 := by
  first
    | omega
    | (have h := ‹AU1 _ _ _ _ _›.2.2.1 x9 (by omega) (by omega); omega)
    | (have h := au1_len ‹AU1 _ _ _ _ _›; omega)
set_option maxHeartbeats 4000000 in
theorem vc_Mo_augment_6_13 (x9 : Int) (x10 : Int) (x14 : Int) (k9 : 0 ≤ x9 ∧ x9 ≤ 77) (k10 : 1 ≤ x10 ∧ x10 ≤ 79) (k14 : 1 ≤ x14 ∧ x14 ≤ 78) (d0 : x9 + 1 ≤ x14 ∧ x14 ≤ x9 + 1) (d1 : x10 + (-4294967296) ≤ x14 ∧ x14 ≤ x10 + 0) (d3 : x10 + (-4294967296) ≤ x9 ∧ x9 ≤ x10 + (-1)) : x14 ≤ x10 := by
  first
    | omega
    | (have h := ‹AU1 _ _ _ _ _›.2.2.1 x9 (by omega) (by omega); omega)
    | (have h := au1_len ‹AU1 _ _ _ _ _›; omega)
set_option maxHeartbeats 4000000 in
theorem vc_Mo_augment_6_14 (x9 : Int) (x11 : Int) (x14 : Int) (gx : Int) (k9 : 0 ≤ x9 ∧ x9 ≤ 77) (k11 : (-2) ≤ x11 ∧ x11 ≤ 79) (k14 : 1 ≤ x14 ∧ x14 ≤ 78) (d0 : x9 + 1 ≤ x14 ∧ x14 ≤ x9 + 1) (f14 : (-1) * x9 + ((-1) * x11 + 0) ≤ (-78)) (ex2 : gx = 0 + (1 * x11 + 0)) : (-1) * x14 + ((-1) * gx + 0) ≤ (-79) := by
  first
    | omega
    | (have h := ‹AU1 _ _ _ _ _›.2.2.1 x9 (by omega) (by omega); omega)
    | (have h := au1_len ‹AU1 _ _ _ _ _›; omega)
set_option maxHeartbeats 4000000 in
theorem vc_Mo_augment_6_15 (x9 : Int) (x11 : Int) (x14 : Int) (gx : Int) (k9 : 0 ≤ x9 ∧ x9 ≤ 77) (k11 : (-2) ≤ x11 ∧ x11 ≤ 79) (k14 : 1 ≤ x14 ∧ x14 ≤ 78) (d0 : x9 + 1 ≤ x14 ∧ x14 ≤ x9 + 1) (f14 : (-1) * x9 + ((-1) * x11 + 0) ≤ (-78)) (ex2 : gx = 0 + (1 * x11 + 0)) : (-1) * gx + 0 ≤ (-1) := by
  first
    | omega
    | (have h := ‹AU1 _ _ _ _ _›.2.2.1 x9 (by omega) (by omega); omega)
    | (have h := au1_len ‹AU1 _ _ _ _ _›; omega)
def o_Mo_augment_6 : or_T := (65, 16, [(0, (2, 0, 0, [165])), (1, (0, 2, 78, [])), (2, (0, 0, 76, [])), (3, (0, 1, 77, [])), (4, (0, -2, 180000001, [])), (5, (2, 0, 0, [165])), (6, (0, 2, 78, [])), (7, (0, 0, 76, [])), (8, (0, 1, 77, [])), (9, (0, 0, 77, [])), (10, (0, 1, 79, [])), (11, (0, -2, 79, [])), (12, (2, 0, 0, [229])), (13, (0, 0, 77, [])), (14, (0, 1, 78, [])), (15, (0, 0, 0, []))], [(6, [14, 9], [1]), (10, [13, 12, 9], []), (9, [12, 5], [92]), (7, [9, 10], [2]), (20, [7, 6], [50, 0, 0, 0, 6, 4, 2, 1, 0, 0, 1, 1, 1]), (20, [8, 6], [50, 0, 0, 0, 6, 4, 2, 1, 0, 0, 1, 1, 1]), (20, [6], [50, 0, 0, 0, 2, 1, 0, 0, 78]), (20, [6, 5], [50, 1, 0, 1079, 1, 2, 1, 0, 4, 3, 2, 1, 79, 0, 2]), (20, [7, 5], [50, 1, 0, 1079, 1, 2, 1, 0, 2, 1, 79]), (20, [8, 5], [50, 1, 0, 1079, 1, 2, 1, 0, 4, 3, 2, 1, 79, 0, 1]), (20, [5], [60, 3, 9, 397, 79, 80, 81, 90, 82, 83, 84, 85, 86, 87, 88, 89]), (20, [5, 4], [60, 1, 1, 398, 79, 90]), (20, [5, 6, 7], [60, 0, 2, 401, 90, 91]), (20, [5, 6, 7, 10], [60, 0, 2, 392, 92, 91]), (23, [9, 11], [-78, -1, -1]), (20, [5, 6, 9], [60, 0, 3, 402, 90, 92, 91]), (24, [0, 5], []), (24, [1, 6], []), (24, [2, 7], []), (24, [3, 8], [])], [], [(0, -2, 79, [])], [(20, [7, 6], [50, 0, 0, 0, 6, 4, 2, 1, 0, 0, 1, 1, 1]), (20, [8, 6], [50, 0, 0, 0, 6, 4, 2, 1, 0, 0, 1, 1, 1]), (20, [6], [50, 0, 0, 0, 2, 1, 0, 0, 78]), (20, [6, 5], [50, 1, 0, 1079, 1, 2, 1, 0, 4, 3, 2, 1, 79, 0, 2]), (20, [7, 5], [50, 1, 0, 1079, 1, 2, 1, 0, 2, 1, 79]), (20, [8, 5], [50, 1, 0, 1079, 1, 2, 1, 0, 4, 3, 2, 1, 79, 0, 1]), (20, [5], [60, 3, 9, 397, 79, 80, 81, 90, 82, 83, 84, 85, 86, 87, 88, 89]), (20, [5, 4], [60, 1, 1, 398, 79, 90]), (20, [5, 6, 7], [60, 0, 2, 401, 90, 91]), (20, [5, 6, 14, 13], [60, 0, 3, 403, 90, 92, 91]), (20, [5, 6, 13, 15], [60, 0, 2, 404, 90, 91]), (20, [5, 6, 7, 10, 13], [60, 0, 2, 393, 92, 91]), (20, [13, 6], [50, 0, 0, 0, 6, 4, 2, 1, 0, 0, 1, 1, 1]), (20, [14, 10], [50, 0, 0, 0, 2, 1, 0, 1, 1]), (23, [14, 16], [-79, -1, -1]), (23, [16], [-1, -1]), (24, [0, 5], []), (24, [1, 6], []), (24, [2, 7], []), (24, [3, 8], [])], [(16, 11, 0, 0)], [(14, 9, 1, 1), (14, 10, -4294967296, 0), (14, 10, -4294967296, 1), (9, 10, -4294967296, -1), (1, 6, -4294967296, 0), (2, 7, -4294967296, 0), (3, 8, -4294967296, 0), (6, 1, -4294967296, 0), (7, 2, -4294967296, 0), (8, 3, -4294967296, 0), (9, 10, -4294967296, 0)])
theorem oo_Mo_augment_6 {kA : Nat → ClassId} : or_ok PRD kA GG o_Mo_augment_6 := by
  refine or_mk fun A ta ws vs hD hth hl => ?_
  intro t0 r0 t1 k1 t2 k2 t3 k3 t4 k4 t5 r5 t6 k6 t7 k7 t8 k8 t9 k9 t10 k10 t11 k11 t12 r12 t13 k13 t14 k14 t15 k15 d0 d1 d2 d3 d4 d5 d6 d7 d8 d9 d10 f0 f1 f2 f3 f4 f5 f6 f7 f8 f9 f10 f11 f12 f13 f14 f15 f16 f17 f18 f19
  replace f0 := shm_4 f0
  replace f1 := shm_106 f1
  replace f2 := shm_920 f2
  replace f3 := shm_6 f3
  replace f4 := shm_409 f4
  replace f5 := shm_409 f5
  replace f6 := shm_913 f6
  replace f7 := shm_914 f7
  replace f8 := shm_915 f8
  replace f9 := shm_916 f9
  replace f10 := shm_917 f10
  replace f11 := shm_918 f11
  replace f12 := shm_922 f12
  replace f13 := shm_923 f13
  replace f14 := shm_924 f14
  replace f15 := shm_925 f15
  replace f16 := shm_5 f16
  replace f17 := shm_5 f17
  replace f18 := shm_5 f18
  replace f19 := shm_5 f19
  have q5 : n_v vs 5 = n_v vs 0 := f16.symm
  have q6 : n_v vs 6 = n_v vs 1 := f17.symm
  have q7 : n_v vs 7 = n_v vs 2 := f18.symm
  have q8 : n_v vs 8 = n_v vs 3 := f19.symm
  simp only [q5, q6, q7, q8] at f2 f4 f5 f6 f7 f8 f9 f10 f11 f12 f13 f15
  have cr_0_82 := fdq_225 hD hth r0
  have cr_0_83 := fdq_125 hD hth r0
  have cr_0_84 := fdq_126 hD hth r0
  have cr_0_85 := fdq_127 hD hth r0
  have cr_0_86 := fdq_128 hD hth r0
  have cr_0_87 := fdq_118 hD hth r0
  have cr_0_88 := fdq_119 hD hth r0
  have cr_0_89 := fdq_120 hD hth r0
  have cr_0_90 := fdq_226 hD hth r0
  have cr_0_91 := fdq_227 hD hth r0
  have cr_0_92 := fdq_228 hD hth r0
  have ad_12 : v_ad (n_v vs 12) = w_ar ws (n_v vs 0) 92 := congrArg v_ad f2
  simp only [ad_12] at f1
  have h1 : v_iv (n_v vs 13) = w_ei ws (w_ar ws (n_v vs 0) 92) (v_iv (n_v vs 9)) := f1
  have hK_0_82 := elq_141 hD hth cr_0_82
  have hK_0_83 := elq_64 hD hth cr_0_83
  have hK_0_84 := elq_65 hD hth cr_0_84
  have hK_0_85 := elq_66 hD hth cr_0_85
  have hK_0_86 := elq_67 hD hth cr_0_86
  have hK_0_87 := elq_59 hD hth cr_0_87
  have hK_0_88 := elq_60 hD hth cr_0_88
  have hK_0_89 := elq_61 hD hth cr_0_89
  have hK_0_90 := elq_142 hD hth cr_0_90
  have hK_0_91 := elq_143 hD hth cr_0_91
  have hK_0_92 := elq_144 hD hth cr_0_92
  have kz_0_79 := fdq_146 hD hth r0
  have kz_0_80 := fdq_130 hD hth r0
  have kz_0_81 := fdq_123 hD hth r0
  obtain ⟨x, ex, hx⟩ := iv_ex (ta := ta) (lo := (-2)) (hi := 79) (z := 0 + (1 * v_iv (n_v vs 11) + 0)) (by omega) (by omega) (by omega) (by omega)
  have ex2 : v_iv (Value.int x) = 0 + (1 * v_iv (n_v vs 11) + 0) := ex
  have ex3 : (-2) ≤ v_iv (Value.int x) ∧ v_iv (Value.int x) ≤ 79 := tv_rng hx
  have e_0 : n_v (vs ++ [Value.int x]) 0 = n_v vs 0 := n_v_old (by rw [hl]; decide)
  have e_1 : n_v (vs ++ [Value.int x]) 1 = n_v vs 1 := n_v_old (by rw [hl]; decide)
  have e_2 : n_v (vs ++ [Value.int x]) 2 = n_v vs 2 := n_v_old (by rw [hl]; decide)
  have e_3 : n_v (vs ++ [Value.int x]) 3 = n_v vs 3 := n_v_old (by rw [hl]; decide)
  have e_4 : n_v (vs ++ [Value.int x]) 4 = n_v vs 4 := n_v_old (by rw [hl]; decide)
  have e_5 : n_v (vs ++ [Value.int x]) 5 = n_v vs 5 := n_v_old (by rw [hl]; decide)
  have e_6 : n_v (vs ++ [Value.int x]) 6 = n_v vs 6 := n_v_old (by rw [hl]; decide)
  have e_7 : n_v (vs ++ [Value.int x]) 7 = n_v vs 7 := n_v_old (by rw [hl]; decide)
  have e_8 : n_v (vs ++ [Value.int x]) 8 = n_v vs 8 := n_v_old (by rw [hl]; decide)
  have e_10 : n_v (vs ++ [Value.int x]) 10 = n_v vs 10 := n_v_old (by rw [hl]; decide)
  have e_13 : n_v (vs ++ [Value.int x]) 13 = n_v vs 13 := n_v_old (by rw [hl]; decide)
  have e_14 : n_v (vs ++ [Value.int x]) 14 = n_v vs 14 := n_v_old (by rw [hl]; decide)
  have e_15 : n_v (vs ++ [Value.int x]) 15 = n_v vs 15 := n_v_old (by rw [hl]; decide)
  have e_16 : n_v (vs ++ [Value.int x]) 16 = Value.int x := n_v_new hl
  have nf0 : fc_1 PRD (20, [7, 6], [50, 0, 0, 0, 6, 4, 2, 1, 0, 0, 1, 1, 1]) ws (vs ++ [Value.int x]) := by
    refine ⟨nf_inA hl rfl, sgq_409 ?_⟩
    · show (v_iv (n_v (vs ++ [Value.int x]) 7) + 1) ≤ v_iv (n_v (vs ++ [Value.int x]) 6)
      simp only [e_6, e_7, q6, q7]
      exact vc_Mo_augment_6_0 (v_iv (n_v vs 1)) (v_iv (n_v vs 2)) (v_iv (n_v vs 9)) k1 k2 f4
  have nf1 : fc_1 PRD (20, [8, 6], [50, 0, 0, 0, 6, 4, 2, 1, 0, 0, 1, 1, 1]) ws (vs ++ [Value.int x]) := by
    refine ⟨nf_inA hl rfl, sgq_409 ?_⟩
    · show (v_iv (n_v (vs ++ [Value.int x]) 8) + 1) ≤ v_iv (n_v (vs ++ [Value.int x]) 6)
      simp only [e_6, e_8, q6, q8]
      exact vc_Mo_augment_6_1 (v_iv (n_v vs 1)) (v_iv (n_v vs 3)) (v_iv (n_v vs 9)) k1 k3 f5
  have nf2 : fc_1 PRD (20, [6], [50, 0, 0, 0, 2, 1, 0, 0, 78]) ws (vs ++ [Value.int x]) := by
    refine ⟨nf_inA hl rfl, sgq_913 ?_⟩
    · show v_iv (n_v (vs ++ [Value.int x]) 6) ≤ 78
      simp only [e_6, q6]
      exact vc_Mo_augment_6_2 (v_iv (n_v vs 1)) (v_iv (n_v vs 9)) k1 f6
  have nf3 : fc_1 PRD (20, [6, 5], [50, 1, 0, 1079, 1, 2, 1, 0, 4, 3, 2, 1, 79, 0, 2]) ws (vs ++ [Value.int x]) := by
    refine ⟨nf_inA hl rfl, sgq_914 ?_⟩
    · show v_iv (n_v (vs ++ [Value.int x]) 6) = (w_fi ws (n_v (vs ++ [Value.int x]) 5) 79 + 2)
      simp only [e_5, e_6, q5, q6]
      exact vc_Mo_augment_6_3 (v_iv (n_v vs 1)) (v_iv (n_v vs 9)) (w_fi ws (n_v vs 0) 79) k1 f7 kz_0_79
  have nf4 : fc_1 PRD (20, [7, 5], [50, 1, 0, 1079, 1, 2, 1, 0, 2, 1, 79]) ws (vs ++ [Value.int x]) := by
    refine ⟨nf_inA hl rfl, sgq_915 ?_⟩
    · show v_iv (n_v (vs ++ [Value.int x]) 7) = w_fi ws (n_v (vs ++ [Value.int x]) 5) 79
      simp only [e_5, e_7, q5, q7]
      exact vc_Mo_augment_6_4 (v_iv (n_v vs 2)) (v_iv (n_v vs 9)) (w_fi ws (n_v vs 0) 79) k2 f8 kz_0_79
  have nf5 : fc_1 PRD (20, [8, 5], [50, 1, 0, 1079, 1, 2, 1, 0, 4, 3, 2, 1, 79, 0, 1]) ws (vs ++ [Value.int x]) := by
    refine ⟨nf_inA hl rfl, sgq_916 ?_⟩
    · show v_iv (n_v (vs ++ [Value.int x]) 8) = (w_fi ws (n_v (vs ++ [Value.int x]) 5) 79 + 1)
      simp only [e_5, e_8, q5, q8]
      exact vc_Mo_augment_6_5 (v_iv (n_v vs 3)) (v_iv (n_v vs 9)) (w_fi ws (n_v vs 0) 79) k3 f9 kz_0_79
  have nf6 : fc_1 PRD (20, [5], [60, 3, 9, 397, 79, 80, 81, 90, 82, 83, 84, 85, 86, 87, 88, 89]) ws (vs ++ [Value.int x]) := by
    refine ⟨nf_inA hl rfl, sgq_917 ?_⟩
    · show FLO (w_fi ws (n_v (vs ++ [Value.int x]) 5) 79) (w_fi ws (n_v (vs ++ [Value.int x]) 5) 80) (w_fi ws (n_v (vs ++ [Value.int x]) 5) 81) (w_ei ws (w_ar ws (n_v (vs ++ [Value.int x]) 5) 90)) (w_ei ws (w_ar ws (n_v (vs ++ [Value.int x]) 5) 82)) (w_ei ws (w_ar ws (n_v (vs ++ [Value.int x]) 5) 83)) (w_ei ws (w_ar ws (n_v (vs ++ [Value.int x]) 5) 84)) (w_ei ws (w_ar ws (n_v (vs ++ [Value.int x]) 5) 85)) (w_ei ws (w_ar ws (n_v (vs ++ [Value.int x]) 5) 86)) (w_ei ws (w_ar ws (n_v (vs ++ [Value.int x]) 5) 87)) (w_ei ws (w_ar ws (n_v (vs ++ [Value.int x]) 5) 88)) (w_ei ws (w_ar ws (n_v (vs ++ [Value.int x]) 5) 89))
      simp only [e_5, q5]
      exact vc_Mo_augment_6_6 (w_fi ws (n_v vs 0) 79) (w_ei ws (w_ar ws (n_v vs 0) 90)) (w_ei ws (w_ar ws (n_v vs 0) 82)) (w_ei ws (w_ar ws (n_v vs 0) 83)) (w_ei ws (w_ar ws (n_v vs 0) 84)) (w_ei ws (w_ar ws (n_v vs 0) 85)) (w_ei ws (w_ar ws (n_v vs 0) 86)) (w_ei ws (w_ar ws (n_v vs 0) 87)) (w_ei ws (w_ar ws (n_v vs 0) 88)) (w_ei ws (w_ar ws (n_v vs 0) 89)) (w_fi ws (n_v vs 0) 80) (w_fi ws (n_v vs 0) 81) f10 kz_0_79 kz_0_80 kz_0_81
  have nf7 : fc_1 PRD (20, [5, 4], [60, 1, 1, 398, 79, 90]) ws (vs ++ [Value.int x]) := by
    refine ⟨nf_inA hl rfl, sgq_918 ?_⟩
    · show XLE (w_fi ws (n_v (vs ++ [Value.int x]) 5) 79) (w_ei ws (w_ar ws (n_v (vs ++ [Value.int x]) 5) 90)) (v_iv (n_v (vs ++ [Value.int x]) 4))
      simp only [e_4, e_5, q5]
      exact vc_Mo_augment_6_7 (v_iv (n_v vs 4)) (w_fi ws (n_v vs 0) 79) (w_ei ws (w_ar ws (n_v vs 0) 90)) k4 f11 kz_0_79
  have nf8 : fc_1 PRD (20, [5, 6, 7], [60, 0, 2, 401, 90, 91]) ws (vs ++ [Value.int x]) := by
    refine ⟨nf_inA hl rfl, sgq_922 ?_⟩
    · show FPT (w_ei ws (w_ar ws (n_v (vs ++ [Value.int x]) 5) 90)) (w_ei ws (w_ar ws (n_v (vs ++ [Value.int x]) 5) 91)) (v_iv (n_v (vs ++ [Value.int x]) 6)) (v_iv (n_v (vs ++ [Value.int x]) 7))
      simp only [e_5, e_6, e_7, q5, q6, q7]
      exact vc_Mo_augment_6_8 (v_iv (n_v vs 1)) (v_iv (n_v vs 2)) (w_ei ws (w_ar ws (n_v vs 0) 90)) (w_ei ws (w_ar ws (n_v vs 0) 91)) k1 k2 f12
  have nf9 : fc_1 PRD (20, [5, 6, 14, 13], [60, 0, 3, 403, 90, 92, 91]) ws (vs ++ [Value.int x]) := by
    refine ⟨nf_inA hl rfl, sgq_931 ?_⟩
    · show BG1 (w_ei ws (w_ar ws (n_v (vs ++ [Value.int x]) 5) 90)) (w_ei ws (w_ar ws (n_v (vs ++ [Value.int x]) 5) 92)) (w_ei ws (w_ar ws (n_v (vs ++ [Value.int x]) 5) 91)) (v_iv (n_v (vs ++ [Value.int x]) 6)) (v_iv (n_v (vs ++ [Value.int x]) 14)) (v_iv (n_v (vs ++ [Value.int x]) 13))
      simp only [e_5, e_6, e_13, e_14, q5, q6]
      exact vc_Mo_augment_6_9 (v_iv (n_v vs 1)) (v_iv (n_v vs 9)) (v_iv (n_v vs 13)) (v_iv (n_v vs 14)) (w_ei ws (w_ar ws (n_v vs 0) 92)) (w_ei ws (w_ar ws (n_v vs 0) 90)) (w_ei ws (w_ar ws (n_v vs 0) 91)) k1 k9 k13 k14 d0 f0 h1 f15
  have nf10 : fc_1 PRD (20, [5, 6, 13, 15], [60, 0, 2, 404, 90, 91]) ws (vs ++ [Value.int x]) := by
    refine ⟨nf_inA hl rfl, sgq_932 ?_⟩
    · show BF2 (w_ei ws (w_ar ws (n_v (vs ++ [Value.int x]) 5) 90)) (w_ei ws (w_ar ws (n_v (vs ++ [Value.int x]) 5) 91)) (v_iv (n_v (vs ++ [Value.int x]) 6)) (v_iv (n_v (vs ++ [Value.int x]) 13)) (v_iv (n_v (vs ++ [Value.int x]) 15))
      simp only [e_5, e_6, e_13, e_15, q5, q6]
      exact vc_Mo_augment_6_10 (v_iv (n_v vs 1)) (v_iv (n_v vs 13)) (v_iv (n_v vs 15)) (w_ei ws (w_ar ws (n_v vs 0) 90)) (w_ei ws (w_ar ws (n_v vs 0) 91)) k1 k13 k15
  have nf11 : fc_1 PRD (20, [5, 6, 7, 10, 13], [60, 0, 2, 393, 92, 91]) ws (vs ++ [Value.int x]) := by
    refine ⟨nf_inA hl rfl, sgq_928 ?_⟩
    · show AU2 (w_ei ws (w_ar ws (n_v (vs ++ [Value.int x]) 5) 92)) (w_ei ws (w_ar ws (n_v (vs ++ [Value.int x]) 5) 91)) (v_iv (n_v (vs ++ [Value.int x]) 6)) (v_iv (n_v (vs ++ [Value.int x]) 7)) (v_iv (n_v (vs ++ [Value.int x]) 10)) (v_iv (n_v (vs ++ [Value.int x]) 13))
      simp only [e_5, e_6, e_7, e_10, e_13, q5, q6, q7]
      exact vc_Mo_augment_6_11 (v_iv (n_v vs 1)) (v_iv (n_v vs 2)) (v_iv (n_v vs 9)) (v_iv (n_v vs 10)) (v_iv (n_v vs 13)) (v_iv (n_v vs 14)) (w_ei ws (w_ar ws (n_v vs 0) 92)) (w_ei ws (w_ar ws (n_v vs 0) 91)) k1 k2 k9 k10 k13 k14 d0 h1 f3 f13
  have nf12 : fc_1 PRD (20, [13, 6], [50, 0, 0, 0, 6, 4, 2, 1, 0, 0, 1, 1, 1]) ws (vs ++ [Value.int x]) := by
    refine ⟨nf_inA hl rfl, sgq_409 ?_⟩
    · show (v_iv (n_v (vs ++ [Value.int x]) 13) + 1) ≤ v_iv (n_v (vs ++ [Value.int x]) 6)
      simp only [e_6, e_13, q6]
      exact vc_Mo_augment_6_12 (v_iv (n_v vs 1)) (v_iv (n_v vs 2)) (v_iv (n_v vs 6)) (v_iv (n_v vs 9)) (v_iv (n_v vs 10)) (v_iv (n_v vs 13)) (v_iv (n_v vs 14)) (w_ei ws (w_ar ws (n_v vs 0) 92)) (w_fi ws (n_v vs 0) 79) (w_ei ws (w_ar ws (n_v vs 0) 91)) k1 k2 k6 k9 k10 k13 k14 d0 d4 d7 h1 f3 f7 f13 kz_0_79
  have nf13 : fc_1 PRD (20, [14, 10], [50, 0, 0, 0, 2, 1, 0, 1, 1]) ws (vs ++ [Value.int x]) := by
    refine ⟨nf_inA hl rfl, sgq_378 ?_⟩
    · show v_iv (n_v (vs ++ [Value.int x]) 14) ≤ v_iv (n_v (vs ++ [Value.int x]) 10)
      simp only [e_10, e_14]
      exact vc_Mo_augment_6_13 (v_iv (n_v vs 9)) (v_iv (n_v vs 10)) (v_iv (n_v vs 14)) k9 k10 k14 d0 d1 d3
  have nf14 : fc_1 PRD (23, [14, 16], [-79, -1, -1]) ws (vs ++ [Value.int x]) := by
    refine ⟨nf_inA hl rfl, sgq_933 ?_⟩
    · show (-1) * v_iv (n_v (vs ++ [Value.int x]) 14) + ((-1) * v_iv (n_v (vs ++ [Value.int x]) 16) + 0) ≤ (-79)
      simp only [e_14, e_16]
      exact vc_Mo_augment_6_14 (v_iv (n_v vs 9)) (v_iv (n_v vs 11)) (v_iv (n_v vs 14)) (v_iv (Value.int x)) k9 k11 k14 d0 f14 ex2
  have nf15 : fc_1 PRD (23, [16], [-1, -1]) ws (vs ++ [Value.int x]) := by
    refine ⟨nf_inA hl rfl, sgq_614 ?_⟩
    · show (-1) * v_iv (n_v (vs ++ [Value.int x]) 16) + 0 ≤ (-1)
      rw [e_16]
      exact vc_Mo_augment_6_15 (v_iv (n_v vs 9)) (v_iv (n_v vs 11)) (v_iv (n_v vs 14)) (v_iv (Value.int x)) k9 k11 k14 d0 f14 ex2
  have nf16 : fc_1 PRD (24, [0, 5], []) ws (vs ++ [Value.int x]) := by
    refine ⟨nf_inA hl rfl, sgq_5 ?_⟩
    · show n_v (vs ++ [Value.int x]) 0 = n_v (vs ++ [Value.int x]) 5
      first | rfl | simp only [e_0, e_5, q5, q6, q7, q8]
  have nf17 : fc_1 PRD (24, [1, 6], []) ws (vs ++ [Value.int x]) := by
    refine ⟨nf_inA hl rfl, sgq_5 ?_⟩
    · show n_v (vs ++ [Value.int x]) 1 = n_v (vs ++ [Value.int x]) 6
      first | rfl | simp only [e_1, e_6, q5, q6, q7, q8]
  have nf18 : fc_1 PRD (24, [2, 7], []) ws (vs ++ [Value.int x]) := by
    refine ⟨nf_inA hl rfl, sgq_5 ?_⟩
    · show n_v (vs ++ [Value.int x]) 2 = n_v (vs ++ [Value.int x]) 7
      first | rfl | simp only [e_2, e_7, q5, q6, q7, q8]
  have nf19 : fc_1 PRD (24, [3, 8], []) ws (vs ++ [Value.int x]) := by
    refine ⟨nf_inA hl rfl, sgq_5 ?_⟩
    · show n_v (vs ++ [Value.int x]) 3 = n_v (vs ++ [Value.int x]) 8
      first | rfl | simp only [e_3, e_8, q5, q6, q7, q8]
  obtain ⟨x0, e0, _, _⟩ := tv_int t11 rfl
  have e1 : v_iv (n_v vs 11) = x0.toInt := by rw [e0]; rfl
  have ho : sy_ofs (vs ++ [Value.int x]) (16, 11, 0, 0) := by
    refine ⟨x, x0, by rw [List.getElem?_append_right (by rw [hl]; decide), hl]; rfl, ?_, ?_, ?_⟩
    · rw [List.getElem?_append_left (by rw [hl]; decide)]; exact n_v_some (by rw [hl]; decide) e0
    · show x0.toInt + 0 ≤ x.toInt; omega
    · show x.toInt ≤ x0.toInt + 0; omega
  exact ⟨(fun _ h => (by cases h)), [Value.int x], ag_one hx, List.forall_mem_cons.mpr ⟨⟨show (20 : Nat) < 100 from by decide, nf0⟩, List.forall_mem_cons.mpr ⟨⟨show (20 : Nat) < 100 from by decide, nf1⟩, List.forall_mem_cons.mpr ⟨⟨show (20 : Nat) < 100 from by decide, nf2⟩, List.forall_mem_cons.mpr ⟨⟨show (20 : Nat) < 100 from by decide, nf3⟩, List.forall_mem_cons.mpr ⟨⟨show (20 : Nat) < 100 from by decide, nf4⟩, List.forall_mem_cons.mpr ⟨⟨show (20 : Nat) < 100 from by decide, nf5⟩, List.forall_mem_cons.mpr ⟨⟨show (20 : Nat) < 100 from by decide, nf6⟩, List.forall_mem_cons.mpr ⟨⟨show (20 : Nat) < 100 from by decide, nf7⟩, List.forall_mem_cons.mpr ⟨⟨show (20 : Nat) < 100 from by decide, nf8⟩, List.forall_mem_cons.mpr ⟨⟨show (20 : Nat) < 100 from by decide, nf9⟩, List.forall_mem_cons.mpr ⟨⟨show (20 : Nat) < 100 from by decide, nf10⟩, List.forall_mem_cons.mpr ⟨⟨show (20 : Nat) < 100 from by decide, nf11⟩, List.forall_mem_cons.mpr ⟨⟨show (20 : Nat) < 100 from by decide, nf12⟩, List.forall_mem_cons.mpr ⟨⟨show (20 : Nat) < 100 from by decide, nf13⟩, List.forall_mem_cons.mpr ⟨⟨show (23 : Nat) < 100 from by decide, nf14⟩, List.forall_mem_cons.mpr ⟨⟨show (23 : Nat) < 100 from by decide, nf15⟩, List.forall_mem_cons.mpr ⟨⟨show (24 : Nat) < 100 from by decide, nf16⟩, List.forall_mem_cons.mpr ⟨⟨show (24 : Nat) < 100 from by decide, nf17⟩, List.forall_mem_cons.mpr ⟨⟨show (24 : Nat) < 100 from by decide, nf18⟩, List.forall_mem_cons.mpr ⟨⟨show (24 : Nat) < 100 from by decide, nf19⟩, (fun _ h => (by cases h))⟩⟩⟩⟩⟩⟩⟩⟩⟩⟩⟩⟩⟩⟩⟩⟩⟩⟩⟩⟩, List.forall_mem_cons.mpr ⟨ho, (fun _ h => (by cases h))⟩⟩
set_option maxHeartbeats 4000000 in
theorem vc_Mo_augment_7_0 (x1 : Int) (x2 : Int) (k1 : 2 ≤ x1 ∧ x1 ≤ 78) (k2 : 0 ≤ x2 ∧ x2 ≤ 76) (f1 : (x2 + 1) ≤ x1) : (x2 + 1) ≤ x1 := by
  first
    | omega
    | (have h := au1_len ‹AU1 _ _ _ _ _›; omega)
set_option maxHeartbeats 4000000 in
theorem vc_Mo_augment_7_1 (x1 : Int) (x3 : Int) (k1 : 2 ≤ x1 ∧ x1 ≤ 78) (k3 : 1 ≤ x3 ∧ x3 ≤ 77) (f2 : (x3 + 1) ≤ x1) : (x3 + 1) ≤ x1 := by
  first
    | omega
    | (have h := au1_len ‹AU1 _ _ _ _ _›; omega)
set_option maxHeartbeats 4000000 in
theorem vc_Mo_augment_7_2 (x1 : Int) (k1 : 2 ≤ x1 ∧ x1 ≤ 78) (f3 : x1 ≤ 78) : x1 ≤ 78 := by
  first
    | omega
    | (have h := au1_len ‹AU1 _ _ _ _ _›; omega)
set_option maxHeartbeats 4000000 in
theorem vc_Mo_augment_7_3 (x1 : Int) (pointMany_0 : Int) (k1 : 2 ≤ x1 ∧ x1 ≤ 78) (f4 : x1 = (pointMany_0 + 2)) (kz_0_79 : 0 ≤ pointMany_0 ∧ pointMany_0 ≤ 76) : x1 = (pointMany_0 + 2) := by
  first
    | omega
    | (have h := au1_len ‹AU1 _ _ _ _ _›; omega)
set_option maxHeartbeats 4000000 in
theorem vc_Mo_augment_7_4 (x2 : Int) (pointMany_0 : Int) (k2 : 0 ≤ x2 ∧ x2 ≤ 76) (f5 : x2 = pointMany_0) (kz_0_79 : 0 ≤ pointMany_0 ∧ pointMany_0 ≤ 76) : x2 = pointMany_0 := by
  first
    | omega
    | (have h := au1_len ‹AU1 _ _ _ _ _›; omega)
set_option maxHeartbeats 4000000 in
theorem vc_Mo_augment_7_5 (x3 : Int) (pointMany_0 : Int) (k3 : 1 ≤ x3 ∧ x3 ≤ 77) (f6 : x3 = (pointMany_0 + 1)) (kz_0_79 : 0 ≤ pointMany_0 ∧ pointMany_0 ≤ 76) : x3 = (pointMany_0 + 1) := by
  first
    | omega
    | (have h := au1_len ‹AU1 _ _ _ _ _›; omega)
set_option maxHeartbeats 4000000 in
theorem vc_Mo_augment_7_6 (pointMany_0 : Int) (flow_0 : Int → Int) (spot_0 : Int → Int) (costA_0 : Int → Int) (costB_0 : Int → Int) (costW_0 : Int → Int) (costPlain_0 : Int → Int) (apartA_0 : Int → Int) (apartB_0 : Int → Int) (apart_0 : Int → Int) (costMany_0 : Int) (apartMany_0 : Int) (f7 : FLO (pointMany_0) (costMany_0) (apartMany_0) (flow_0) (spot_0) (costA_0) (costB_0) (costW_0) (costPlain_0) (apartA_0) (apartB_0) (apart_0)) (kz_0_79 : 0 ≤ pointMany_0 ∧ pointMany_0 ≤ 76) (kz_0_80 : 0 ≤ costMany_0 ∧ costMany_0 ≤ 200) (kz_0_81 : 0 ≤ apartMany_0 ∧ apartMany_0 ≤ 200) : FLO (pointMany_0) (costMany_0) (apartMany_0) (flow_0) (spot_0) (costA_0) (costB_0) (costW_0) (costPlain_0) (apartA_0) (apartB_0) (apart_0) := by
  first
    | assumption
    | exact (psh_end ‹PSH _ _ _ _ _ _ _ _ _ _ _ _ _ _ _ _› (by omega)).1
set_option maxHeartbeats 4000000 in
theorem vc_Mo_augment_7_7 (x4 : Int) (pointMany_0 : Int) (flow_0 : Int → Int) (k4 : (-2) ≤ x4 ∧ x4 ≤ 180000001) (f8 : XLE (pointMany_0) (flow_0) (x4)) (kz_0_79 : 0 ≤ pointMany_0 ∧ pointMany_0 ≤ 76) : XLE (pointMany_0) (flow_0) (x4) := by
  assumption
set_option maxHeartbeats 4000000 in
theorem vc_Mo_augment_7_8 (x1 : Int) (x2 : Int) (flow_0 : Int → Int) (cameBy_0 : Int → Int) (k1 : 2 ≤ x1 ∧ x1 ≤ 78) (k2 : 0 ≤ x2 ∧ x2 ≤ 76) (f9 : FPT (flow_0) (cameBy_0) (x1) (x2)) : FPT (flow_0) (cameBy_0) (x1) (x2) := by
  first
    | assumption
    | exact fpt_start ‹AU0 _ _› (by omega) (by assumption) (by omega)
    | exact fpt_step2 ‹FPT _ _ _ _› (by assumption) rfl (by assumption) (by assumption) (by assumption) (by assumption) (by omega)
set_option maxHeartbeats 4000000 in
theorem vc_Mo_augment_7_9 (x1 : Int) (x2 : Int) (x10 : Int) (x11 : Int) (cameBy_0 : Int → Int) (queue_0 : Int → Int) (k1 : 2 ≤ x1 ∧ x1 ≤ 78) (k2 : 0 ≤ x2 ∧ x2 ≤ 76) (k10 : 1 ≤ x10 ∧ x10 ≤ 79) (k11 : 0 ≤ x11 ∧ x11 ≤ 77) (f12 : AU2 (queue_0) (cameBy_0) (x1) (x2) (x10) (x11)) : AU1 (queue_0) (cameBy_0) (x1) (x2) (x10) := by
  exact ‹AU2 _ _ _ _ _ _›.1
set_option maxHeartbeats 4000000 in
theorem vc_Mo_augment_7_10 (x1 : Int) (x9 : Int) (x11 : Int) (x12 : Int) (flow_0 : Int → Int) (cameBy_0 : Int → Int) (queue_0 : Int → Int) (k1 : 2 ≤ x1 ∧ x1 ≤ 78) (k9 : 1 ≤ x9 ∧ x9 ≤ 78) (k11 : 0 ≤ x11 ∧ x11 ≤ 77) (k12 : 2 ≤ x12 ∧ x12 ≤ 78) (f0 : x1 ≤ x12) (f10 : BG1 (flow_0) (queue_0) (cameBy_0) (x1) (x9) (x11)) (f11 : BF2 (flow_0) (cameBy_0) (x1) (x11) (x12)) : BF1 (flow_0) (queue_0) (cameBy_0) (x1) (x9) := by
  exact bf1_next ‹BG1 _ _ _ _ _ _›.1 ‹BF2 _ _ _ _ _› (by omega) ‹BG1 _ _ _ _ _ _›.2.1.symm (by omega)
set_option maxHeartbeats 4000000 in
theorem vc_Mo_augment_7_11 (x9 : Int) (x13 : Int) (gx : Int) (k9 : 1 ≤ x9 ∧ x9 ≤ 78) (k13 : (-2) ≤ x13 ∧ x13 ≤ 79) (f15 : (-1) * x9 + ((-1) * x13 + 0) ≤ (-79)) (ex2 : gx = 0 + (1 * x13 + 0)) : (-1) * x9 + ((-1) * gx + 0) ≤ (-79) := by
  first
    | omega
    | (have h := au1_len ‹AU1 _ _ _ _ _›; omega)
set_option maxHeartbeats 4000000 in
theorem vc_Mo_augment_7_12 (x13 : Int) (gx : Int) (k13 : (-2) ≤ x13 ∧ x13 ≤ 79) (f16 : (-1) * x13 + 0 ≤ (-1)) (ex2 : gx = 0 + (1 * x13 + 0)) : (-1) * gx + 0 ≤ (-1) := by
  first
    | omega
    | (have h := au1_len ‹AU1 _ _ _ _ _›; omega)
def o_Mo_augment_7 : or_T := (126, 14, [(0, (2, 0, 0, [165])), (1, (0, 2, 78, [])), (2, (0, 0, 76, [])), (3, (0, 1, 77, [])), (4, (0, -2, 180000001, [])), (5, (2, 0, 0, [165])), (6, (0, 2, 78, [])), (7, (0, 0, 76, [])), (8, (0, 1, 77, [])), (9, (0, 1, 78, [])), (10, (0, 1, 79, [])), (11, (0, 0, 77, [])), (12, (0, 2, 78, [])), (13, (0, -2, 79, []))], [(7, [12, 6], [3]), (20, [7, 6], [50, 0, 0, 0, 6, 4, 2, 1, 0, 0, 1, 1, 1]), (20, [8, 6], [50, 0, 0, 0, 6, 4, 2, 1, 0, 0, 1, 1, 1]), (20, [6], [50, 0, 0, 0, 2, 1, 0, 0, 78]), (20, [6, 5], [50, 1, 0, 1079, 1, 2, 1, 0, 4, 3, 2, 1, 79, 0, 2]), (20, [7, 5], [50, 1, 0, 1079, 1, 2, 1, 0, 2, 1, 79]), (20, [8, 5], [50, 1, 0, 1079, 1, 2, 1, 0, 4, 3, 2, 1, 79, 0, 1]), (20, [5], [60, 3, 9, 397, 79, 80, 81, 90, 82, 83, 84, 85, 86, 87, 88, 89]), (20, [5, 4], [60, 1, 1, 398, 79, 90]), (20, [5, 6, 7], [60, 0, 2, 401, 90, 91]), (20, [5, 6, 9, 11], [60, 0, 3, 403, 90, 92, 91]), (20, [5, 6, 11, 12], [60, 0, 2, 404, 90, 91]), (20, [5, 6, 7, 10, 11], [60, 0, 2, 393, 92, 91]), (20, [11, 6], [50, 0, 0, 0, 6, 4, 2, 1, 0, 0, 1, 1, 1]), (20, [9, 10], [50, 0, 0, 0, 2, 1, 0, 1, 1]), (23, [9, 13], [-79, -1, -1]), (23, [13], [-1, -1]), (24, [0, 5], []), (24, [1, 6], []), (24, [2, 7], []), (24, [3, 8], [])], [], [(0, -2, 79, [])], [(20, [7, 6], [50, 0, 0, 0, 6, 4, 2, 1, 0, 0, 1, 1, 1]), (20, [8, 6], [50, 0, 0, 0, 6, 4, 2, 1, 0, 0, 1, 1, 1]), (20, [6], [50, 0, 0, 0, 2, 1, 0, 0, 78]), (20, [6, 5], [50, 1, 0, 1079, 1, 2, 1, 0, 4, 3, 2, 1, 79, 0, 2]), (20, [7, 5], [50, 1, 0, 1079, 1, 2, 1, 0, 2, 1, 79]), (20, [8, 5], [50, 1, 0, 1079, 1, 2, 1, 0, 4, 3, 2, 1, 79, 0, 1]), (20, [5], [60, 3, 9, 397, 79, 80, 81, 90, 82, 83, 84, 85, 86, 87, 88, 89]), (20, [5, 4], [60, 1, 1, 398, 79, 90]), (20, [5, 6, 7], [60, 0, 2, 401, 90, 91]), (20, [5, 6, 7, 10], [60, 0, 2, 392, 92, 91]), (20, [5, 6, 9], [60, 0, 3, 402, 90, 92, 91]), (23, [9, 14], [-79, -1, -1]), (23, [14], [-1, -1]), (24, [0, 5], []), (24, [1, 6], []), (24, [2, 7], []), (24, [3, 8], [])], [(14, 13, 0, 0)], [(12, 6, 0, 4294967296), (1, 6, -4294967296, 0), (2, 7, -4294967296, 0), (3, 8, -4294967296, 0), (6, 1, -4294967296, 0), (7, 2, -4294967296, 0), (8, 3, -4294967296, 0), (9, 10, -4294967296, 0), (12, 1, -4294967296, 0), (12, 6, -4294967296, 0)])
theorem oo_Mo_augment_7 {kA : Nat → ClassId} : or_ok PRD kA GG o_Mo_augment_7 := by
  refine or_mk fun A ta ws vs hD hth hl => ?_
  intro t0 r0 t1 k1 t2 k2 t3 k3 t4 k4 t5 r5 t6 k6 t7 k7 t8 k8 t9 k9 t10 k10 t11 k11 t12 k12 t13 k13 d0 d1 d2 d3 d4 d5 d6 d7 d8 d9 f0 f1 f2 f3 f4 f5 f6 f7 f8 f9 f10 f11 f12 f13 f14 f15 f16 f17 f18 f19 f20
  replace f0 := shm_2 f0
  replace f1 := shm_409 f1
  replace f2 := shm_409 f2
  replace f3 := shm_913 f3
  replace f4 := shm_914 f4
  replace f5 := shm_915 f5
  replace f6 := shm_916 f6
  replace f7 := shm_917 f7
  replace f8 := shm_918 f8
  replace f9 := shm_922 f9
  replace f10 := shm_931 f10
  replace f11 := shm_932 f11
  replace f12 := shm_928 f12
  replace f13 := shm_409 f13
  replace f14 := shm_378 f14
  replace f15 := shm_933 f15
  replace f16 := shm_614 f16
  replace f17 := shm_5 f17
  replace f18 := shm_5 f18
  replace f19 := shm_5 f19
  replace f20 := shm_5 f20
  have q5 : n_v vs 5 = n_v vs 0 := f17.symm
  have q6 : n_v vs 6 = n_v vs 1 := f18.symm
  have q7 : n_v vs 7 = n_v vs 2 := f19.symm
  have q8 : n_v vs 8 = n_v vs 3 := f20.symm
  simp only [q6, q7, q8, q5] at f0 f1 f2 f3 f4 f5 f6 f7 f8 f9 f10 f11 f12 f13
  have cr_0_82 := fdq_225 hD hth r0
  have cr_0_83 := fdq_125 hD hth r0
  have cr_0_84 := fdq_126 hD hth r0
  have cr_0_85 := fdq_127 hD hth r0
  have cr_0_86 := fdq_128 hD hth r0
  have cr_0_87 := fdq_118 hD hth r0
  have cr_0_88 := fdq_119 hD hth r0
  have cr_0_89 := fdq_120 hD hth r0
  have cr_0_90 := fdq_226 hD hth r0
  have cr_0_91 := fdq_227 hD hth r0
  have cr_0_92 := fdq_228 hD hth r0
  have hK_0_82 := elq_141 hD hth cr_0_82
  have hK_0_83 := elq_64 hD hth cr_0_83
  have hK_0_84 := elq_65 hD hth cr_0_84
  have hK_0_85 := elq_66 hD hth cr_0_85
  have hK_0_86 := elq_67 hD hth cr_0_86
  have hK_0_87 := elq_59 hD hth cr_0_87
  have hK_0_88 := elq_60 hD hth cr_0_88
  have hK_0_89 := elq_61 hD hth cr_0_89
  have hK_0_90 := elq_142 hD hth cr_0_90
  have hK_0_91 := elq_143 hD hth cr_0_91
  have hK_0_92 := elq_144 hD hth cr_0_92
  have kz_0_79 := fdq_146 hD hth r0
  have kz_0_80 := fdq_130 hD hth r0
  have kz_0_81 := fdq_123 hD hth r0
  obtain ⟨x, ex, hx⟩ := iv_ex (ta := ta) (lo := (-2)) (hi := 79) (z := 0 + (1 * v_iv (n_v vs 13) + 0)) (by omega) (by omega) (by omega) (by omega)
  have ex2 : v_iv (Value.int x) = 0 + (1 * v_iv (n_v vs 13) + 0) := ex
  have ex3 : (-2) ≤ v_iv (Value.int x) ∧ v_iv (Value.int x) ≤ 79 := tv_rng hx
  have e_0 : n_v (vs ++ [Value.int x]) 0 = n_v vs 0 := n_v_old (by rw [hl]; decide)
  have e_1 : n_v (vs ++ [Value.int x]) 1 = n_v vs 1 := n_v_old (by rw [hl]; decide)
  have e_2 : n_v (vs ++ [Value.int x]) 2 = n_v vs 2 := n_v_old (by rw [hl]; decide)
  have e_3 : n_v (vs ++ [Value.int x]) 3 = n_v vs 3 := n_v_old (by rw [hl]; decide)
  have e_4 : n_v (vs ++ [Value.int x]) 4 = n_v vs 4 := n_v_old (by rw [hl]; decide)
  have e_5 : n_v (vs ++ [Value.int x]) 5 = n_v vs 5 := n_v_old (by rw [hl]; decide)
  have e_6 : n_v (vs ++ [Value.int x]) 6 = n_v vs 6 := n_v_old (by rw [hl]; decide)
  have e_7 : n_v (vs ++ [Value.int x]) 7 = n_v vs 7 := n_v_old (by rw [hl]; decide)
  have e_8 : n_v (vs ++ [Value.int x]) 8 = n_v vs 8 := n_v_old (by rw [hl]; decide)
  have e_9 : n_v (vs ++ [Value.int x]) 9 = n_v vs 9 := n_v_old (by rw [hl]; decide)
  have e_10 : n_v (vs ++ [Value.int x]) 10 = n_v vs 10 := n_v_old (by rw [hl]; decide)
  have e_14 : n_v (vs ++ [Value.int x]) 14 = Value.int x := n_v_new hl
  have nf0 : fc_1 PRD (20, [7, 6], [50, 0, 0, 0, 6, 4, 2, 1, 0, 0, 1, 1, 1]) ws (vs ++ [Value.int x]) := by
    refine ⟨nf_inA hl rfl, sgq_409 ?_⟩
    · show (v_iv (n_v (vs ++ [Value.int x]) 7) + 1) ≤ v_iv (n_v (vs ++ [Value.int x]) 6)
      simp only [e_6, e_7, q6, q7]
      exact vc_Mo_augment_7_0 (v_iv (n_v vs 1)) (v_iv (n_v vs 2)) k1 k2 f1
  have nf1 : fc_1 PRD (20, [8, 6], [50, 0, 0, 0, 6, 4, 2, 1, 0, 0, 1, 1, 1]) ws (vs ++ [Value.int x]) := by
    refine ⟨nf_inA hl rfl, sgq_409 ?_⟩
    · show (v_iv (n_v (vs ++ [Value.int x]) 8) + 1) ≤ v_iv (n_v (vs ++ [Value.int x]) 6)
      simp only [e_6, e_8, q6, q8]
      exact vc_Mo_augment_7_1 (v_iv (n_v vs 1)) (v_iv (n_v vs 3)) k1 k3 f2
  have nf2 : fc_1 PRD (20, [6], [50, 0, 0, 0, 2, 1, 0, 0, 78]) ws (vs ++ [Value.int x]) := by
    refine ⟨nf_inA hl rfl, sgq_913 ?_⟩
    · show v_iv (n_v (vs ++ [Value.int x]) 6) ≤ 78
      simp only [e_6, q6]
      exact vc_Mo_augment_7_2 (v_iv (n_v vs 1)) k1 f3
  have nf3 : fc_1 PRD (20, [6, 5], [50, 1, 0, 1079, 1, 2, 1, 0, 4, 3, 2, 1, 79, 0, 2]) ws (vs ++ [Value.int x]) := by
    refine ⟨nf_inA hl rfl, sgq_914 ?_⟩
    · show v_iv (n_v (vs ++ [Value.int x]) 6) = (w_fi ws (n_v (vs ++ [Value.int x]) 5) 79 + 2)
      simp only [e_5, e_6, q5, q6]
      exact vc_Mo_augment_7_3 (v_iv (n_v vs 1)) (w_fi ws (n_v vs 0) 79) k1 f4 kz_0_79
  have nf4 : fc_1 PRD (20, [7, 5], [50, 1, 0, 1079, 1, 2, 1, 0, 2, 1, 79]) ws (vs ++ [Value.int x]) := by
    refine ⟨nf_inA hl rfl, sgq_915 ?_⟩
    · show v_iv (n_v (vs ++ [Value.int x]) 7) = w_fi ws (n_v (vs ++ [Value.int x]) 5) 79
      simp only [e_5, e_7, q5, q7]
      exact vc_Mo_augment_7_4 (v_iv (n_v vs 2)) (w_fi ws (n_v vs 0) 79) k2 f5 kz_0_79
  have nf5 : fc_1 PRD (20, [8, 5], [50, 1, 0, 1079, 1, 2, 1, 0, 4, 3, 2, 1, 79, 0, 1]) ws (vs ++ [Value.int x]) := by
    refine ⟨nf_inA hl rfl, sgq_916 ?_⟩
    · show v_iv (n_v (vs ++ [Value.int x]) 8) = (w_fi ws (n_v (vs ++ [Value.int x]) 5) 79 + 1)
      simp only [e_5, e_8, q5, q8]
      exact vc_Mo_augment_7_5 (v_iv (n_v vs 3)) (w_fi ws (n_v vs 0) 79) k3 f6 kz_0_79
  have nf6 : fc_1 PRD (20, [5], [60, 3, 9, 397, 79, 80, 81, 90, 82, 83, 84, 85, 86, 87, 88, 89]) ws (vs ++ [Value.int x]) := by
    refine ⟨nf_inA hl rfl, sgq_917 ?_⟩
    · show FLO (w_fi ws (n_v (vs ++ [Value.int x]) 5) 79) (w_fi ws (n_v (vs ++ [Value.int x]) 5) 80) (w_fi ws (n_v (vs ++ [Value.int x]) 5) 81) (w_ei ws (w_ar ws (n_v (vs ++ [Value.int x]) 5) 90)) (w_ei ws (w_ar ws (n_v (vs ++ [Value.int x]) 5) 82)) (w_ei ws (w_ar ws (n_v (vs ++ [Value.int x]) 5) 83)) (w_ei ws (w_ar ws (n_v (vs ++ [Value.int x]) 5) 84)) (w_ei ws (w_ar ws (n_v (vs ++ [Value.int x]) 5) 85)) (w_ei ws (w_ar ws (n_v (vs ++ [Value.int x]) 5) 86)) (w_ei ws (w_ar ws (n_v (vs ++ [Value.int x]) 5) 87)) (w_ei ws (w_ar ws (n_v (vs ++ [Value.int x]) 5) 88)) (w_ei ws (w_ar ws (n_v (vs ++ [Value.int x]) 5) 89))
      simp only [e_5, q5]
      exact vc_Mo_augment_7_6 (w_fi ws (n_v vs 0) 79) (w_ei ws (w_ar ws (n_v vs 0) 90)) (w_ei ws (w_ar ws (n_v vs 0) 82)) (w_ei ws (w_ar ws (n_v vs 0) 83)) (w_ei ws (w_ar ws (n_v vs 0) 84)) (w_ei ws (w_ar ws (n_v vs 0) 85)) (w_ei ws (w_ar ws (n_v vs 0) 86)) (w_ei ws (w_ar ws (n_v vs 0) 87)) (w_ei ws (w_ar ws (n_v vs 0) 88)) (w_ei ws (w_ar ws (n_v vs 0) 89)) (w_fi ws (n_v vs 0) 80) (w_fi ws (n_v vs 0) 81) f7 kz_0_79 kz_0_80 kz_0_81
  have nf7 : fc_1 PRD (20, [5, 4], [60, 1, 1, 398, 79, 90]) ws (vs ++ [Value.int x]) := by
    refine ⟨nf_inA hl rfl, sgq_918 ?_⟩
    · show XLE (w_fi ws (n_v (vs ++ [Value.int x]) 5) 79) (w_ei ws (w_ar ws (n_v (vs ++ [Value.int x]) 5) 90)) (v_iv (n_v (vs ++ [Value.int x]) 4))
      simp only [e_4, e_5, q5]
      exact vc_Mo_augment_7_7 (v_iv (n_v vs 4)) (w_fi ws (n_v vs 0) 79) (w_ei ws (w_ar ws (n_v vs 0) 90)) k4 f8 kz_0_79
  have nf8 : fc_1 PRD (20, [5, 6, 7], [60, 0, 2, 401, 90, 91]) ws (vs ++ [Value.int x]) := by
    refine ⟨nf_inA hl rfl, sgq_922 ?_⟩
    · show FPT (w_ei ws (w_ar ws (n_v (vs ++ [Value.int x]) 5) 90)) (w_ei ws (w_ar ws (n_v (vs ++ [Value.int x]) 5) 91)) (v_iv (n_v (vs ++ [Value.int x]) 6)) (v_iv (n_v (vs ++ [Value.int x]) 7))
      simp only [e_5, e_6, e_7, q5, q6, q7]
      exact vc_Mo_augment_7_8 (v_iv (n_v vs 1)) (v_iv (n_v vs 2)) (w_ei ws (w_ar ws (n_v vs 0) 90)) (w_ei ws (w_ar ws (n_v vs 0) 91)) k1 k2 f9
  have nf9 : fc_1 PRD (20, [5, 6, 7, 10], [60, 0, 2, 392, 92, 91]) ws (vs ++ [Value.int x]) := by
    refine ⟨nf_inA hl rfl, sgq_923 ?_⟩
    · show AU1 (w_ei ws (w_ar ws (n_v (vs ++ [Value.int x]) 5) 92)) (w_ei ws (w_ar ws (n_v (vs ++ [Value.int x]) 5) 91)) (v_iv (n_v (vs ++ [Value.int x]) 6)) (v_iv (n_v (vs ++ [Value.int x]) 7)) (v_iv (n_v (vs ++ [Value.int x]) 10))
      simp only [e_5, e_6, e_7, e_10, q5, q6, q7]
      exact vc_Mo_augment_7_9 (v_iv (n_v vs 1)) (v_iv (n_v vs 2)) (v_iv (n_v vs 10)) (v_iv (n_v vs 11)) (w_ei ws (w_ar ws (n_v vs 0) 91)) (w_ei ws (w_ar ws (n_v vs 0) 92)) k1 k2 k10 k11 f12
  have nf10 : fc_1 PRD (20, [5, 6, 9], [60, 0, 3, 402, 90, 92, 91]) ws (vs ++ [Value.int x]) := by
    refine ⟨nf_inA hl rfl, sgq_925 ?_⟩
    · show BF1 (w_ei ws (w_ar ws (n_v (vs ++ [Value.int x]) 5) 90)) (w_ei ws (w_ar ws (n_v (vs ++ [Value.int x]) 5) 92)) (w_ei ws (w_ar ws (n_v (vs ++ [Value.int x]) 5) 91)) (v_iv (n_v (vs ++ [Value.int x]) 6)) (v_iv (n_v (vs ++ [Value.int x]) 9))
      simp only [e_5, e_6, e_9, q5, q6]
      exact vc_Mo_augment_7_10 (v_iv (n_v vs 1)) (v_iv (n_v vs 9)) (v_iv (n_v vs 11)) (v_iv (n_v vs 12)) (w_ei ws (w_ar ws (n_v vs 0) 90)) (w_ei ws (w_ar ws (n_v vs 0) 91)) (w_ei ws (w_ar ws (n_v vs 0) 92)) k1 k9 k11 k12 f0 f10 f11
  have nf11 : fc_1 PRD (23, [9, 14], [-79, -1, -1]) ws (vs ++ [Value.int x]) := by
    refine ⟨nf_inA hl rfl, sgq_933 ?_⟩
    · show (-1) * v_iv (n_v (vs ++ [Value.int x]) 9) + ((-1) * v_iv (n_v (vs ++ [Value.int x]) 14) + 0) ≤ (-79)
      simp only [e_9, e_14]
      exact vc_Mo_augment_7_11 (v_iv (n_v vs 9)) (v_iv (n_v vs 13)) (v_iv (Value.int x)) k9 k13 f15 ex2
  have nf12 : fc_1 PRD (23, [14], [-1, -1]) ws (vs ++ [Value.int x]) := by
    refine ⟨nf_inA hl rfl, sgq_614 ?_⟩
    · show (-1) * v_iv (n_v (vs ++ [Value.int x]) 14) + 0 ≤ (-1)
      rw [e_14]
      exact vc_Mo_augment_7_12 (v_iv (n_v vs 13)) (v_iv (Value.int x)) k13 f16 ex2
  have nf13 : fc_1 PRD (24, [0, 5], []) ws (vs ++ [Value.int x]) := by
    refine ⟨nf_inA hl rfl, sgq_5 ?_⟩
    · show n_v (vs ++ [Value.int x]) 0 = n_v (vs ++ [Value.int x]) 5
      first | rfl | simp only [e_0, e_5, q5, q6, q7, q8]
  have nf14 : fc_1 PRD (24, [1, 6], []) ws (vs ++ [Value.int x]) := by
    refine ⟨nf_inA hl rfl, sgq_5 ?_⟩
    · show n_v (vs ++ [Value.int x]) 1 = n_v (vs ++ [Value.int x]) 6
      first | rfl | simp only [e_1, e_6, q5, q6, q7, q8]
  have nf15 : fc_1 PRD (24, [2, 7], []) ws (vs ++ [Value.int x]) := by
    refine ⟨nf_inA hl rfl, sgq_5 ?_⟩
    · show n_v (vs ++ [Value.int x]) 2 = n_v (vs ++ [Value.int x]) 7
      first | rfl | simp only [e_2, e_7, q5, q6, q7, q8]
  have nf16 : fc_1 PRD (24, [3, 8], []) ws (vs ++ [Value.int x]) := by
    refine ⟨nf_inA hl rfl, sgq_5 ?_⟩
    · show n_v (vs ++ [Value.int x]) 3 = n_v (vs ++ [Value.int x]) 8
      first | rfl | simp only [e_3, e_8, q5, q6, q7, q8]
  obtain ⟨x0, e0, _, _⟩ := tv_int t13 rfl
  have e1 : v_iv (n_v vs 13) = x0.toInt := by rw [e0]; rfl
  have ho : sy_ofs (vs ++ [Value.int x]) (14, 13, 0, 0) := by
    refine ⟨x, x0, by rw [List.getElem?_append_right (by rw [hl]; decide), hl]; rfl, ?_, ?_, ?_⟩
    · rw [List.getElem?_append_left (by rw [hl]; decide)]; exact n_v_some (by rw [hl]; decide) e0
    · show x0.toInt + 0 ≤ x.toInt; omega
    · show x.toInt ≤ x0.toInt + 0; omega
  exact ⟨(fun _ h => (by cases h)), [Value.int x], ag_one hx, List.forall_mem_cons.mpr ⟨⟨show (20 : Nat) < 100 from by decide, nf0⟩, List.forall_mem_cons.mpr ⟨⟨show (20 : Nat) < 100 from by decide, nf1⟩, List.forall_mem_cons.mpr ⟨⟨show (20 : Nat) < 100 from by decide, nf2⟩, List.forall_mem_cons.mpr ⟨⟨show (20 : Nat) < 100 from by decide, nf3⟩, List.forall_mem_cons.mpr ⟨⟨show (20 : Nat) < 100 from by decide, nf4⟩, List.forall_mem_cons.mpr ⟨⟨show (20 : Nat) < 100 from by decide, nf5⟩, List.forall_mem_cons.mpr ⟨⟨show (20 : Nat) < 100 from by decide, nf6⟩, List.forall_mem_cons.mpr ⟨⟨show (20 : Nat) < 100 from by decide, nf7⟩, List.forall_mem_cons.mpr ⟨⟨show (20 : Nat) < 100 from by decide, nf8⟩, List.forall_mem_cons.mpr ⟨⟨show (20 : Nat) < 100 from by decide, nf9⟩, List.forall_mem_cons.mpr ⟨⟨show (20 : Nat) < 100 from by decide, nf10⟩, List.forall_mem_cons.mpr ⟨⟨show (23 : Nat) < 100 from by decide, nf11⟩, List.forall_mem_cons.mpr ⟨⟨show (23 : Nat) < 100 from by decide, nf12⟩, List.forall_mem_cons.mpr ⟨⟨show (24 : Nat) < 100 from by decide, nf13⟩, List.forall_mem_cons.mpr ⟨⟨show (24 : Nat) < 100 from by decide, nf14⟩, List.forall_mem_cons.mpr ⟨⟨show (24 : Nat) < 100 from by decide, nf15⟩, List.forall_mem_cons.mpr ⟨⟨show (24 : Nat) < 100 from by decide, nf16⟩, (fun _ h => (by cases h))⟩⟩⟩⟩⟩⟩⟩⟩⟩⟩⟩⟩⟩⟩⟩⟩⟩, List.forall_mem_cons.mpr ⟨ho, (fun _ h => (by cases h))⟩⟩
set_option maxHeartbeats 4000000 in
theorem vc_Mo_augment_8_0 (x1 : Int) (x11 : Int) (x12 : Int) (x15 : Int) (x16 : Int) (cameBy_0 : Int → Int) (flow_0 : Int → Int) (k1 : 2 ≤ x1 ∧ x1 ≤ 78) (k11 : 0 ≤ x11 ∧ x11 ≤ 77) (k12 : 0 ≤ x12 ∧ x12 ≤ 77) (k15 : 0 ≤ x15 ∧ x15 ≤ 77) (k16 : 1 ≤ x16 ∧ x16 ≤ 78) (f0 : x16 = x12 + 1) (f1 : 0 ≤ x15) (h2 : x15 = cameBy_0 (x12)) (f15 : BF2 (flow_0) (cameBy_0) (x1) (x11) (x12)) : BF2 (flow_0) (cameBy_0) (x1) (x11) (x16) := by
  first
    | exact bf2_zero (by omega)
    | exact bf2_skip1 ‹BF2 _ _ _ _ _› (by assumption) (by assumption) (by omega)
    | exact bf2_skip2 ‹BF2 _ _ _ _ _› (by assumption) (by assumption) (by assumption) (by assumption) (by omega)
    | exact bf2_step ‹BF2 _ _ _ _ _› (by assumption) (by assumption) rfl (by omega)
def o_Mo_augment_8 : or_T := (65, 17, [(1, (0, 2, 78, [])), (11, (0, 0, 77, [])), (12, (0, 0, 77, [])), (15, (0, 0, 77, [])), (16, (0, 1, 78, []))], [(6, [16, 12], [1]), (8, [15], [3]), (10, [15, 14, 12], []), (9, [14, 5], [91]), (20, [5, 6, 11, 12], [60, 0, 2, 404, 90, 91]), (24, [0, 5], []), (24, [1, 6], [])], [], [], [(20, [5, 6, 11, 16], [60, 0, 2, 404, 90, 91])], [], [])
theorem oo_Mo_augment_8 {kA : Nat → ClassId} : or_ok PRD kA GG o_Mo_augment_8 := by
  refine or_mk fun A ta ws vs hD hth hl => ?_
  intro t1 k1 t11 k11 t12 k12 t15 k15 t16 k16 f0 f1 f2 f3 f15 f21 f22
  replace f0 := shm_4 f0
  replace f1 := shm_32 f1
  replace f2 := shm_106 f2
  replace f3 := shm_921 f3
  replace f15 := shm_932 f15
  replace f21 := shm_5 f21
  replace f22 := shm_5 f22
  have q5 : n_v vs 5 = n_v vs 0 := f21.symm
  have q6 : n_v vs 6 = n_v vs 1 := f22.symm
  simp only [q5, q6] at f3 f15
  have ad_14 : v_ad (n_v vs 14) = w_ar ws (n_v vs 0) 91 := congrArg v_ad f3
  simp only [ad_14] at f2
  have h2 : v_iv (n_v vs 15) = w_ei ws (w_ar ws (n_v vs 0) 91) (v_iv (n_v vs 12)) := f2
  have nf0 : fc_1 PRD (20, [5, 6, 11, 16], [60, 0, 2, 404, 90, 91]) ws (vs) := by
    refine ⟨nf_in hl rfl, sgq_932 ?_⟩
    · show BF2 (w_ei ws (w_ar ws (n_v vs 5) 90)) (w_ei ws (w_ar ws (n_v vs 5) 91)) (v_iv (n_v vs 6)) (v_iv (n_v vs 11)) (v_iv (n_v vs 16))
      simp only [q5, q6]
      exact vc_Mo_augment_8_0 (v_iv (n_v vs 1)) (v_iv (n_v vs 11)) (v_iv (n_v vs 12)) (v_iv (n_v vs 15)) (v_iv (n_v vs 16)) (w_ei ws (w_ar ws (n_v vs 0) 91)) (w_ei ws (w_ar ws (n_v vs 0) 90)) k1 k11 k12 k15 k16 f0 f1 h2 f15
  refine ⟨(fun _ h => (by cases h)), [], trivial, ?_, (fun _ h => (by cases h))⟩
  rw [List.append_nil]
  exact List.forall_mem_cons.mpr ⟨⟨show (20 : Nat) < 100 from by decide, nf0⟩, (fun _ h => (by cases h))⟩
set_option maxHeartbeats 4000000 in
theorem vc_Mo_augment_9_r0 (x1 : Int) (x2 : Int) (x3 : Int) (x6 : Int) (x8 : Int) (x10 : Int) (x11 : Int) (x12 : Int) (x15 : Int) (x17 : Int) (x18 : Int) (cameBy_0 : Int → Int) (pointMany_0 : Int) (queue_0 : Int → Int) (k1 : 2 ≤ x1 ∧ x1 ≤ 78) (k2 : 0 ≤ x2 ∧ x2 ≤ 76) (k3 : 1 ≤ x3 ∧ x3 ≤ 77) (k6 : 2 ≤ x6 ∧ x6 ≤ 78) (k8 : 1 ≤ x8 ∧ x8 ≤ 77) (k10 : 1 ≤ x10 ∧ x10 ≤ 79) (k11 : 0 ≤ x11 ∧ x11 ≤ 77) (k12 : 0 ≤ x12 ∧ x12 ≤ 77) (k15 : (-1) ≤ x15 ∧ x15 ≤ (-1)) (k17 : 0 ≤ x17 ∧ x17 ≤ 6006) (k18 : 0 ≤ x18 ∧ x18 ≤ 6083) (d6 : x6 + (-4294967296) ≤ x1 ∧ x1 ≤ x6 + 0) (d8 : x8 + (-4294967296) ≤ x3 ∧ x3 ≤ x8 + 0) (d9 : x1 + (-4294967296) ≤ x6 ∧ x6 ≤ x1 + 0) (d11 : x3 + (-4294967296) ≤ x8 ∧ x8 ≤ x3 + 0) (f2 : x18 = x17 + x12) (f3 : x17 = x1 * x11) (h6 : x15 = cameBy_0 (x12)) (f8 : x12 < x1) (f12 : x1 = (pointMany_0 + 2)) (f14 : x3 = (pointMany_0 + 1)) (f20 : AU2 (queue_0) (cameBy_0) (x1) (x2) (x10) (x11)) (kz_0_79 : 0 ≤ pointMany_0 ∧ pointMany_0 ≤ 76) : 1 ≤ x10 ∧ x10 ≤ 77 := by
  have h := au1_len ‹AU2 _ _ _ _ _ _›.1
  have h2 := au1_room (v := x12) ‹AU2 _ _ _ _ _ _›.1 (by omega) (by omega) (by omega)
  omega
def o_Mo_augment_9 : or_T := (99, 20, [(0, (2, 0, 0, [165])), (1, (0, 2, 78, [])), (2, (0, 0, 76, [])), (3, (0, 1, 77, [])), (4, (0, -2, 180000001, [])), (5, (2, 0, 0, [165])), (6, (0, 2, 78, [])), (7, (0, 0, 76, [])), (8, (0, 1, 77, [])), (9, (0, 1, 78, [])), (10, (0, 1, 79, [])), (11, (0, 0, 77, [])), (12, (0, 0, 77, [])), (13, (0, -2, 79, [])), (14, (2, 0, 0, [228])), (15, (0, -1, -1, [])), (16, (2, 0, 0, [227])), (17, (0, 0, 6006, [])), (18, (0, 0, 6083, [])), (19, (0, 1, 410000000, []))], [(8, [19], [1]), (10, [19, 16, 18], []), (1, [18, 17, 12], []), (3, [17, 6, 11], []), (9, [16, 5], [90]), (8, [15], [2]), (10, [15, 14, 12], []), (9, [14, 5], [91]), (7, [12, 6], [2]), (20, [7, 6], [50, 0, 0, 0, 6, 4, 2, 1, 0, 0, 1, 1, 1]), (20, [8, 6], [50, 0, 0, 0, 6, 4, 2, 1, 0, 0, 1, 1, 1]), (20, [6], [50, 0, 0, 0, 2, 1, 0, 0, 78]), (20, [6, 5], [50, 1, 0, 1079, 1, 2, 1, 0, 4, 3, 2, 1, 79, 0, 2]), (20, [7, 5], [50, 1, 0, 1079, 1, 2, 1, 0, 2, 1, 79]), (20, [8, 5], [50, 1, 0, 1079, 1, 2, 1, 0, 4, 3, 2, 1, 79, 0, 1]), (20, [5], [60, 3, 9, 397, 79, 80, 81, 90, 82, 83, 84, 85, 86, 87, 88, 89]), (20, [5, 4], [60, 1, 1, 398, 79, 90]), (20, [5, 6, 7], [60, 0, 2, 401, 90, 91]), (20, [5, 6, 9, 11], [60, 0, 3, 403, 90, 92, 91]), (20, [5, 6, 11, 12], [60, 0, 2, 404, 90, 91]), (20, [5, 6, 7, 10, 11], [60, 0, 2, 393, 92, 91]), (20, [11, 6], [50, 0, 0, 0, 6, 4, 2, 1, 0, 0, 1, 1, 1]), (20, [9, 10], [50, 0, 0, 0, 2, 1, 0, 1, 1]), (23, [9, 13], [-79, -1, -1]), (23, [13], [-1, -1]), (24, [0, 5], []), (24, [1, 6], []), (24, [2, 7], []), (24, [3, 8], [])], [(10, (0, 1, 77, []))], [], [], [], [(18, 12, 0, 6006), (18, 6, -4294967296, 6005), (18, 1, -4294967296, 6006), (18, 6, -4294967296, 6006), (18, 17, 0, 77), (12, 6, -4294967296, -1), (1, 6, -4294967296, 0), (2, 7, -4294967296, 0), (3, 8, -4294967296, 0), (6, 1, -4294967296, 0), (7, 2, -4294967296, 0), (8, 3, -4294967296, 0), (9, 10, -4294967296, 0), (12, 1, -4294967296, 0), (12, 6, -4294967296, 0)])
theorem oo_Mo_augment_9 {kA : Nat → ClassId} : or_ok PRD kA GG o_Mo_augment_9 := by
  refine or_mk fun A ta ws vs hD hth hl => ?_
  intro t0 r0 t1 k1 t2 k2 t3 k3 t4 k4 t5 r5 t6 k6 t7 k7 t8 k8 t9 k9 t10 k10 t11 k11 t12 k12 t13 k13 t14 r14 t15 k15 t16 r16 t17 k17 t18 k18 t19 k19 d0 d1 d2 d3 d4 d5 d6 d7 d8 d9 d10 d11 d12 d13 d14 f0 f1 f2 f3 f4 f5 f6 f7 f8 f9 f10 f11 f12 f13 f14 f15 f16 f17 f18 f19 f20 f21 f22 f23 f24 f25 f26 f27 f28
  replace f3 := shm_38 f3
  replace f6 := shm_106 f6
  replace f7 := shm_921 f7
  replace f8 := shm_6 f8
  replace f12 := shm_914 f12
  replace f14 := shm_916 f14
  replace f20 := shm_928 f20
  replace f25 := shm_5 f25
  replace f26 := shm_5 f26
  replace f27 := shm_5 f27
  replace f28 := shm_5 f28
  have q5 : n_v vs 5 = n_v vs 0 := f25.symm
  have q6 : n_v vs 6 = n_v vs 1 := f26.symm
  have q7 : n_v vs 7 = n_v vs 2 := f27.symm
  have q8 : n_v vs 8 = n_v vs 3 := f28.symm
  simp only [q6, q5, q7, q8] at f3 f7 f8 f12 f14 f20
  have ad_14 : v_ad (n_v vs 14) = w_ar ws (n_v vs 0) 91 := congrArg v_ad f7
  simp only [ad_14] at f6
  have h6 : v_iv (n_v vs 15) = w_ei ws (w_ar ws (n_v vs 0) 91) (v_iv (n_v vs 12)) := f6
  have kz_0_79 := fdq_146 hD hth r0
  have hrf0 : 1 ≤ v_iv (n_v vs 10) ∧ v_iv (n_v vs 10) ≤ 77 := vc_Mo_augment_9_r0 (v_iv (n_v vs 1)) (v_iv (n_v vs 2)) (v_iv (n_v vs 3)) (v_iv (n_v vs 6)) (v_iv (n_v vs 8)) (v_iv (n_v vs 10)) (v_iv (n_v vs 11)) (v_iv (n_v vs 12)) (v_iv (n_v vs 15)) (v_iv (n_v vs 17)) (v_iv (n_v vs 18)) (w_ei ws (w_ar ws (n_v vs 0) 91)) (w_fi ws (n_v vs 0) 79) (w_ei ws (w_ar ws (n_v vs 0) 92)) k1 k2 k3 k6 k8 k10 k11 k12 k15 k17 k18 d6 d8 d9 d11 (shm_12 f2) f3 h6 f8 f12 f14 f20 kz_0_79
  have rf10 : tv_ok ta (0, 1, 77, []) (n_v vs 10) := tv_in t10 (by first | omega | grind) (by first | omega | grind)
  refine ⟨List.forall_mem_cons.mpr ⟨rf10, (fun _ h => (by cases h))⟩, [], trivial, ?_, (fun _ h => (by cases h))⟩
  rw [List.append_nil]
  exact (fun _ h => (by cases h))
set_option maxHeartbeats 4000000 in
theorem vc_Mo_augment_10_0 (x1 : Int) (x2 : Int) (x11 : Int) (x12 : Int) (x17 : Int) (x18 : Int) (x19 : Int) (x22 : Int) (pointMany_0 : Int) (flow_0 : Int → Int) (spot_0 : Int → Int) (costA_0 : Int → Int) (costB_0 : Int → Int) (costW_0 : Int → Int) (costPlain_0 : Int → Int) (apartA_0 : Int → Int) (apartB_0 : Int → Int) (apart_0 : Int → Int) (costMany_0 : Int) (apartMany_0 : Int) (pointMany_1 : Int) (flow_1 : Int → Int) (spot_1 : Int → Int) (costA_1 : Int → Int) (costB_1 : Int → Int) (costW_1 : Int → Int) (costPlain_1 : Int → Int) (apartA_1 : Int → Int) (apartB_1 : Int → Int) (apart_1 : Int → Int) (costMany_1 : Int) (apartMany_1 : Int) (flow_2 : Int → Int) (cameBy_2 : Int → Int) (pointMany_2 : Int) (spot_2 : Int → Int) (costA_2 : Int → Int) (costB_2 : Int → Int) (costW_2 : Int → Int) (costPlain_2 : Int → Int) (apartA_2 : Int → Int) (apartB_2 : Int → Int) (apart_2 : Int → Int) (costMany_2 : Int) (apartMany_2 : Int) (queue_2 : Int → Int) (cameBy_0 : Int → Int) (cameBy_1 : Int → Int) (queue_1 : Int → Int) (k1 : 2 ≤ x1 ∧ x1 ≤ 78) (k2 : 0 ≤ x2 ∧ x2 ≤ 76) (k11 : 0 ≤ x11 ∧ x11 ≤ 77) (k12 : 0 ≤ x12 ∧ x12 ≤ 77) (k17 : 0 ≤ x17 ∧ x17 ≤ 6006) (k18 : 0 ≤ x18 ∧ x18 ≤ 6083) (k19 : 1 ≤ x19 ∧ x19 ≤ 410000000) (k22 : 1 ≤ x22 ∧ x22 ≤ 78) (d0 : x12 + 1 ≤ x22 ∧ x22 ≤ x12 + 1) (f34 : x19 ≠ 0) (h35 : x19 = flow_2 (x18)) (f36 : x18 = x17 + x12) (f37 : x17 = x1 * x11) (f50 : FPT (flow_2) (cameBy_2) (x1) (x2)) (fe_0_79_1 : pointMany_0 = pointMany_1) (fe_0_80_1 : costMany_0 = costMany_1) (fe_0_81_1 : apartMany_0 = apartMany_1) (fe_0_79_2 : pointMany_1 = pointMany_2) (fe_0_80_2 : costMany_1 = costMany_2) (fe_0_81_2 : apartMany_1 = apartMany_2) (hE_0_82_1 : ∀ j : Int, spot_0 j = spot_1 j) (hE_0_82_2 : ∀ j : Int, spot_1 j = spot_2 j) (hE_0_83_1 : ∀ j : Int, costA_0 j = costA_1 j) (hE_0_83_2 : ∀ j : Int, costA_1 j = costA_2 j) (hE_0_84_1 : ∀ j : Int, costB_0 j = costB_1 j) (hE_0_84_2 : ∀ j : Int, costB_1 j = costB_2 j) (hE_0_85_1 : ∀ j : Int, costW_0 j = costW_1 j) (hE_0_85_2 : ∀ j : Int, costW_1 j = costW_2 j) (hE_0_86_1 : ∀ j : Int, costPlain_0 j = costPlain_1 j) (hE_0_86_2 : ∀ j : Int, costPlain_1 j = costPlain_2 j) (hE_0_87_1 : ∀ j : Int, apartA_0 j = apartA_1 j) (hE_0_87_2 : ∀ j : Int, apartA_1 j = apartA_2 j) (hE_0_88_1 : ∀ j : Int, apartB_0 j = apartB_1 j) (hE_0_88_2 : ∀ j : Int, apartB_1 j = apartB_2 j) (hE_0_89_1 : ∀ j : Int, apart_0 j = apart_1 j) (hE_0_89_2 : ∀ j : Int, apart_1 j = apart_2 j) (hE_0_90_1 : ∀ j : Int, flow_0 j = flow_1 j) (hE_0_90_2 : ∀ j : Int, flow_1 j = flow_2 j) (hE_0_91_1 : ∀ j : Int, cameBy_0 j = cameBy_1 j) (hE_0_91_2 : ∀ j : Int, 0 ≤ j → (j = x12 → cameBy_1 j = x11) ∧ (j ≠ x12 → cameBy_1 j = cameBy_2 j)) (hE_0_92_2 : ∀ j : Int, queue_1 j = queue_2 j) (kz_0_79 : 0 ≤ pointMany_0 ∧ pointMany_0 ≤ 76) (kz_0_80 : 0 ≤ costMany_0 ∧ costMany_0 ≤ 200) (kz_0_81 : 0 ≤ apartMany_0 ∧ apartMany_0 ≤ 200) : FPT (flow_0) (cameBy_0) (x1) (x2) := by
  subst fe_0_79_1
  subst fe_0_80_1
  subst fe_0_81_1
  subst fe_0_79_2
  subst fe_0_80_2
  subst fe_0_81_2
  have e_hE_0_82_1 := funext hE_0_82_1; subst e_hE_0_82_1
  have e_hE_0_82_2 := funext hE_0_82_2; subst e_hE_0_82_2
  have e_hE_0_83_1 := funext hE_0_83_1; subst e_hE_0_83_1
  have e_hE_0_83_2 := funext hE_0_83_2; subst e_hE_0_83_2
  have e_hE_0_84_1 := funext hE_0_84_1; subst e_hE_0_84_1
  have e_hE_0_84_2 := funext hE_0_84_2; subst e_hE_0_84_2
  have e_hE_0_85_1 := funext hE_0_85_1; subst e_hE_0_85_1
  have e_hE_0_85_2 := funext hE_0_85_2; subst e_hE_0_85_2
  have e_hE_0_86_1 := funext hE_0_86_1; subst e_hE_0_86_1
  have e_hE_0_86_2 := funext hE_0_86_2; subst e_hE_0_86_2
  have e_hE_0_87_1 := funext hE_0_87_1; subst e_hE_0_87_1
  have e_hE_0_87_2 := funext hE_0_87_2; subst e_hE_0_87_2
  have e_hE_0_88_1 := funext hE_0_88_1; subst e_hE_0_88_1
  have e_hE_0_88_2 := funext hE_0_88_2; subst e_hE_0_88_2
  have e_hE_0_89_1 := funext hE_0_89_1; subst e_hE_0_89_1
  have e_hE_0_89_2 := funext hE_0_89_2; subst e_hE_0_89_2
  have e_hE_0_90_1 := funext hE_0_90_1; subst e_hE_0_90_1
  have e_hE_0_90_2 := funext hE_0_90_2; subst e_hE_0_90_2
  have e_hE_0_91_1 := funext hE_0_91_1; subst e_hE_0_91_1
  have e_hE_0_92_2 := funext hE_0_92_2; subst e_hE_0_92_2
  first
    | assumption
    | exact fpt_start ‹AU0 _ _› (by omega) (by assumption) (by omega)
    | exact fpt_step2 ‹FPT _ _ _ _› (by assumption) rfl (by assumption) (by assumption) (by assumption) (by assumption) (by omega)
set_option maxHeartbeats 4000000 in
theorem vc_Mo_augment_10_1 (x1 : Int) (x9 : Int) (x10 : Int) (x11 : Int) (x12 : Int) (pointMany_0 : Int) (flow_0 : Int → Int) (spot_0 : Int → Int) (costA_0 : Int → Int) (costB_0 : Int → Int) (costW_0 : Int → Int) (costPlain_0 : Int → Int) (apartA_0 : Int → Int) (apartB_0 : Int → Int) (apart_0 : Int → Int) (costMany_0 : Int) (apartMany_0 : Int) (pointMany_1 : Int) (flow_1 : Int → Int) (spot_1 : Int → Int) (costA_1 : Int → Int) (costB_1 : Int → Int) (costW_1 : Int → Int) (costPlain_1 : Int → Int) (apartA_1 : Int → Int) (apartB_1 : Int → Int) (apart_1 : Int → Int) (costMany_1 : Int) (apartMany_1 : Int) (flow_2 : Int → Int) (cameBy_2 : Int → Int) (pointMany_2 : Int) (spot_2 : Int → Int) (costA_2 : Int → Int) (costB_2 : Int → Int) (costW_2 : Int → Int) (costPlain_2 : Int → Int) (apartA_2 : Int → Int) (apartB_2 : Int → Int) (apart_2 : Int → Int) (costMany_2 : Int) (apartMany_2 : Int) (queue_2 : Int → Int) (cameBy_0 : Int → Int) (cameBy_1 : Int → Int) (queue_0 : Int → Int) (queue_1 : Int → Int) (k1 : 2 ≤ x1 ∧ x1 ≤ 78) (k9 : 1 ≤ x9 ∧ x9 ≤ 78) (k10 : 1 ≤ x10 ∧ x10 ≤ 77) (k11 : 0 ≤ x11 ∧ x11 ≤ 77) (k12 : 0 ≤ x12 ∧ x12 ≤ 77) (f51 : BG1 (flow_2) (queue_2) (cameBy_2) (x1) (x9) (x11)) (f55 : x9 ≤ x10) (fe_0_79_1 : pointMany_0 = pointMany_1) (fe_0_80_1 : costMany_0 = costMany_1) (fe_0_81_1 : apartMany_0 = apartMany_1) (fe_0_79_2 : pointMany_1 = pointMany_2) (fe_0_80_2 : costMany_1 = costMany_2) (fe_0_81_2 : apartMany_1 = apartMany_2) (hE_0_82_1 : ∀ j : Int, spot_0 j = spot_1 j) (hE_0_82_2 : ∀ j : Int, spot_1 j = spot_2 j) (hE_0_83_1 : ∀ j : Int, costA_0 j = costA_1 j) (hE_0_83_2 : ∀ j : Int, costA_1 j = costA_2 j) (hE_0_84_1 : ∀ j : Int, costB_0 j = costB_1 j) (hE_0_84_2 : ∀ j : Int, costB_1 j = costB_2 j) (hE_0_85_1 : ∀ j : Int, costW_0 j = costW_1 j) (hE_0_85_2 : ∀ j : Int, costW_1 j = costW_2 j) (hE_0_86_1 : ∀ j : Int, costPlain_0 j = costPlain_1 j) (hE_0_86_2 : ∀ j : Int, costPlain_1 j = costPlain_2 j) (hE_0_87_1 : ∀ j : Int, apartA_0 j = apartA_1 j) (hE_0_87_2 : ∀ j : Int, apartA_1 j = apartA_2 j) (hE_0_88_1 : ∀ j : Int, apartB_0 j = apartB_1 j) (hE_0_88_2 : ∀ j : Int, apartB_1 j = apartB_2 j) (hE_0_89_1 : ∀ j : Int, apart_0 j = apart_1 j) (hE_0_89_2 : ∀ j : Int, apart_1 j = apart_2 j) (hE_0_90_1 : ∀ j : Int, flow_0 j = flow_1 j) (hE_0_90_2 : ∀ j : Int, flow_1 j = flow_2 j) (hE_0_91_1 : ∀ j : Int, cameBy_0 j = cameBy_1 j) (hE_0_91_2 : ∀ j : Int, 0 ≤ j → (j = x12 → cameBy_1 j = x11) ∧ (j ≠ x12 → cameBy_1 j = cameBy_2 j)) (hE_0_92_1 : ∀ j : Int, 0 ≤ j → (j = x10 → queue_0 j = x12) ∧ (j ≠ x10 → queue_0 j = queue_1 j)) (hE_0_92_2 : ∀ j : Int, queue_1 j = queue_2 j) (kz_0_79 : 0 ≤ pointMany_0 ∧ pointMany_0 ≤ 76) (kz_0_80 : 0 ≤ costMany_0 ∧ costMany_0 ≤ 200) (kz_0_81 : 0 ≤ apartMany_0 ∧ apartMany_0 ≤ 200) : BG1 (flow_0) (queue_0) (cameBy_0) (x1) (x9) (x11) := by
  subst fe_0_79_1
  subst fe_0_80_1
  subst fe_0_81_1
  subst fe_0_79_2
  subst fe_0_80_2
  subst fe_0_81_2
  have e_hE_0_82_1 := funext hE_0_82_1; subst e_hE_0_82_1
  have e_hE_0_82_2 := funext hE_0_82_2; subst e_hE_0_82_2
  have e_hE_0_83_1 := funext hE_0_83_1; subst e_hE_0_83_1
  have e_hE_0_83_2 := funext hE_0_83_2; subst e_hE_0_83_2
  have e_hE_0_84_1 := funext hE_0_84_1; subst e_hE_0_84_1
  have e_hE_0_84_2 := funext hE_0_84_2; subst e_hE_0_84_2
  have e_hE_0_85_1 := funext hE_0_85_1; subst e_hE_0_85_1
  have e_hE_0_85_2 := funext hE_0_85_2; subst e_hE_0_85_2
  have e_hE_0_86_1 := funext hE_0_86_1; subst e_hE_0_86_1
  have e_hE_0_86_2 := funext hE_0_86_2; subst e_hE_0_86_2
  have e_hE_0_87_1 := funext hE_0_87_1; subst e_hE_0_87_1
  have e_hE_0_87_2 := funext hE_0_87_2; subst e_hE_0_87_2
  have e_hE_0_88_1 := funext hE_0_88_1; subst e_hE_0_88_1
  have e_hE_0_88_2 := funext hE_0_88_2; subst e_hE_0_88_2
  have e_hE_0_89_1 := funext hE_0_89_1; subst e_hE_0_89_1
  have e_hE_0_89_2 := funext hE_0_89_2; subst e_hE_0_89_2
  have e_hE_0_90_1 := funext hE_0_90_1; subst e_hE_0_90_1
  have e_hE_0_90_2 := funext hE_0_90_2; subst e_hE_0_90_2
  have e_hE_0_91_1 := funext hE_0_91_1; subst e_hE_0_91_1
  have e_hE_0_92_2 := funext hE_0_92_2; subst e_hE_0_92_2
  first
    | assumption
    | exact bg1_start ‹BF1 _ _ _ _ _› (by omega) (by assumption) (by assumption)
    | exact bg1_step ‹BG1 _ _ _ _ _ _› (by assumption) (by omega) (by assumption) (by omega)
set_option maxHeartbeats 4000000 in
theorem vc_Mo_augment_10_2 (x1 : Int) (x11 : Int) (x12 : Int) (x22 : Int) (pointMany_0 : Int) (flow_0 : Int → Int) (spot_0 : Int → Int) (costA_0 : Int → Int) (costB_0 : Int → Int) (costW_0 : Int → Int) (costPlain_0 : Int → Int) (apartA_0 : Int → Int) (apartB_0 : Int → Int) (apart_0 : Int → Int) (costMany_0 : Int) (apartMany_0 : Int) (pointMany_1 : Int) (flow_1 : Int → Int) (spot_1 : Int → Int) (costA_1 : Int → Int) (costB_1 : Int → Int) (costW_1 : Int → Int) (costPlain_1 : Int → Int) (apartA_1 : Int → Int) (apartB_1 : Int → Int) (apart_1 : Int → Int) (costMany_1 : Int) (apartMany_1 : Int) (flow_2 : Int → Int) (cameBy_2 : Int → Int) (pointMany_2 : Int) (spot_2 : Int → Int) (costA_2 : Int → Int) (costB_2 : Int → Int) (costW_2 : Int → Int) (costPlain_2 : Int → Int) (apartA_2 : Int → Int) (apartB_2 : Int → Int) (apart_2 : Int → Int) (costMany_2 : Int) (apartMany_2 : Int) (queue_2 : Int → Int) (cameBy_0 : Int → Int) (cameBy_1 : Int → Int) (queue_1 : Int → Int) (k1 : 2 ≤ x1 ∧ x1 ≤ 78) (k11 : 0 ≤ x11 ∧ x11 ≤ 77) (k12 : 0 ≤ x12 ∧ x12 ≤ 77) (k22 : 1 ≤ x22 ∧ x22 ≤ 78) (f0 : x22 = x12 + 1) (f52 : BF2 (flow_2) (cameBy_2) (x1) (x11) (x12)) (fe_0_79_1 : pointMany_0 = pointMany_1) (fe_0_80_1 : costMany_0 = costMany_1) (fe_0_81_1 : apartMany_0 = apartMany_1) (fe_0_79_2 : pointMany_1 = pointMany_2) (fe_0_80_2 : costMany_1 = costMany_2) (fe_0_81_2 : apartMany_1 = apartMany_2) (hE_0_82_1 : ∀ j : Int, spot_0 j = spot_1 j) (hE_0_82_2 : ∀ j : Int, spot_1 j = spot_2 j) (hE_0_83_1 : ∀ j : Int, costA_0 j = costA_1 j) (hE_0_83_2 : ∀ j : Int, costA_1 j = costA_2 j) (hE_0_84_1 : ∀ j : Int, costB_0 j = costB_1 j) (hE_0_84_2 : ∀ j : Int, costB_1 j = costB_2 j) (hE_0_85_1 : ∀ j : Int, costW_0 j = costW_1 j) (hE_0_85_2 : ∀ j : Int, costW_1 j = costW_2 j) (hE_0_86_1 : ∀ j : Int, costPlain_0 j = costPlain_1 j) (hE_0_86_2 : ∀ j : Int, costPlain_1 j = costPlain_2 j) (hE_0_87_1 : ∀ j : Int, apartA_0 j = apartA_1 j) (hE_0_87_2 : ∀ j : Int, apartA_1 j = apartA_2 j) (hE_0_88_1 : ∀ j : Int, apartB_0 j = apartB_1 j) (hE_0_88_2 : ∀ j : Int, apartB_1 j = apartB_2 j) (hE_0_89_1 : ∀ j : Int, apart_0 j = apart_1 j) (hE_0_89_2 : ∀ j : Int, apart_1 j = apart_2 j) (hE_0_90_1 : ∀ j : Int, flow_0 j = flow_1 j) (hE_0_90_2 : ∀ j : Int, flow_1 j = flow_2 j) (hE_0_91_1 : ∀ j : Int, cameBy_0 j = cameBy_1 j) (hE_0_91_2 : ∀ j : Int, 0 ≤ j → (j = x12 → cameBy_1 j = x11) ∧ (j ≠ x12 → cameBy_1 j = cameBy_2 j)) (hE_0_92_2 : ∀ j : Int, queue_1 j = queue_2 j) (kz_0_79 : 0 ≤ pointMany_0 ∧ pointMany_0 ≤ 76) (kz_0_80 : 0 ≤ costMany_0 ∧ costMany_0 ≤ 200) (kz_0_81 : 0 ≤ apartMany_0 ∧ apartMany_0 ≤ 200) : BF2 (flow_0) (cameBy_0) (x1) (x11) (x22) := by
  subst fe_0_79_1
  subst fe_0_80_1
  subst fe_0_81_1
  subst fe_0_79_2
  subst fe_0_80_2
  subst fe_0_81_2
  have e_hE_0_82_1 := funext hE_0_82_1; subst e_hE_0_82_1
  have e_hE_0_82_2 := funext hE_0_82_2; subst e_hE_0_82_2
  have e_hE_0_83_1 := funext hE_0_83_1; subst e_hE_0_83_1
  have e_hE_0_83_2 := funext hE_0_83_2; subst e_hE_0_83_2
  have e_hE_0_84_1 := funext hE_0_84_1; subst e_hE_0_84_1
  have e_hE_0_84_2 := funext hE_0_84_2; subst e_hE_0_84_2
  have e_hE_0_85_1 := funext hE_0_85_1; subst e_hE_0_85_1
  have e_hE_0_85_2 := funext hE_0_85_2; subst e_hE_0_85_2
  have e_hE_0_86_1 := funext hE_0_86_1; subst e_hE_0_86_1
  have e_hE_0_86_2 := funext hE_0_86_2; subst e_hE_0_86_2
  have e_hE_0_87_1 := funext hE_0_87_1; subst e_hE_0_87_1
  have e_hE_0_87_2 := funext hE_0_87_2; subst e_hE_0_87_2
  have e_hE_0_88_1 := funext hE_0_88_1; subst e_hE_0_88_1
  have e_hE_0_88_2 := funext hE_0_88_2; subst e_hE_0_88_2
  have e_hE_0_89_1 := funext hE_0_89_1; subst e_hE_0_89_1
  have e_hE_0_89_2 := funext hE_0_89_2; subst e_hE_0_89_2
  have e_hE_0_90_1 := funext hE_0_90_1; subst e_hE_0_90_1
  have e_hE_0_90_2 := funext hE_0_90_2; subst e_hE_0_90_2
  have e_hE_0_91_1 := funext hE_0_91_1; subst e_hE_0_91_1
  have e_hE_0_92_2 := funext hE_0_92_2; subst e_hE_0_92_2
  first
    | exact bf2_zero (by omega)
    | exact bf2_skip1 ‹BF2 _ _ _ _ _› (by assumption) (by assumption) (by omega)
    | exact bf2_skip2 ‹BF2 _ _ _ _ _› (by assumption) (by assumption) (by assumption) (by assumption) (by omega)
    | exact bf2_step ‹BF2 _ _ _ _ _› (by assumption) (by assumption) rfl (by omega)
set_option maxHeartbeats 4000000 in
theorem vc_Mo_augment_10_3 (x1 : Int) (x2 : Int) (x9 : Int) (x10 : Int) (x11 : Int) (x12 : Int) (x15 : Int) (x21 : Int) (x22 : Int) (pointMany_0 : Int) (flow_0 : Int → Int) (spot_0 : Int → Int) (costA_0 : Int → Int) (costB_0 : Int → Int) (costW_0 : Int → Int) (costPlain_0 : Int → Int) (apartA_0 : Int → Int) (apartB_0 : Int → Int) (apart_0 : Int → Int) (costMany_0 : Int) (apartMany_0 : Int) (pointMany_1 : Int) (flow_1 : Int → Int) (spot_1 : Int → Int) (costA_1 : Int → Int) (costB_1 : Int → Int) (costW_1 : Int → Int) (costPlain_1 : Int → Int) (apartA_1 : Int → Int) (apartB_1 : Int → Int) (apart_1 : Int → Int) (costMany_1 : Int) (apartMany_1 : Int) (flow_2 : Int → Int) (cameBy_2 : Int → Int) (pointMany_2 : Int) (spot_2 : Int → Int) (costA_2 : Int → Int) (costB_2 : Int → Int) (costW_2 : Int → Int) (costPlain_2 : Int → Int) (apartA_2 : Int → Int) (apartB_2 : Int → Int) (apart_2 : Int → Int) (costMany_2 : Int) (apartMany_2 : Int) (queue_2 : Int → Int) (cameBy_0 : Int → Int) (cameBy_1 : Int → Int) (queue_0 : Int → Int) (queue_1 : Int → Int) (k1 : 2 ≤ x1 ∧ x1 ≤ 78) (k2 : 0 ≤ x2 ∧ x2 ≤ 76) (k10 : 1 ≤ x10 ∧ x10 ≤ 77) (k11 : 0 ≤ x11 ∧ x11 ≤ 77) (k12 : 0 ≤ x12 ∧ x12 ≤ 77) (k15 : (-1) ≤ x15 ∧ x15 ≤ (-1)) (k21 : 2 ≤ x21 ∧ x21 ≤ 78) (k22 : 1 ≤ x22 ∧ x22 ≤ 78) (d0 : x12 + 1 ≤ x22 ∧ x22 ≤ x12 + 1) (f1 : x21 = x10 + 1) (h40 : x15 = cameBy_2 (x12)) (f41 : x12 < x1) (f53 : AU2 (queue_2) (cameBy_2) (x1) (x2) (x10) (x11)) (fe_0_79_1 : pointMany_0 = pointMany_1) (fe_0_80_1 : costMany_0 = costMany_1) (fe_0_81_1 : apartMany_0 = apartMany_1) (fe_0_79_2 : pointMany_1 = pointMany_2) (fe_0_80_2 : costMany_1 = costMany_2) (fe_0_81_2 : apartMany_1 = apartMany_2) (hE_0_82_1 : ∀ j : Int, spot_0 j = spot_1 j) (hE_0_82_2 : ∀ j : Int, spot_1 j = spot_2 j) (hE_0_83_1 : ∀ j : Int, costA_0 j = costA_1 j) (hE_0_83_2 : ∀ j : Int, costA_1 j = costA_2 j) (hE_0_84_1 : ∀ j : Int, costB_0 j = costB_1 j) (hE_0_84_2 : ∀ j : Int, costB_1 j = costB_2 j) (hE_0_85_1 : ∀ j : Int, costW_0 j = costW_1 j) (hE_0_85_2 : ∀ j : Int, costW_1 j = costW_2 j) (hE_0_86_1 : ∀ j : Int, costPlain_0 j = costPlain_1 j) (hE_0_86_2 : ∀ j : Int, costPlain_1 j = costPlain_2 j) (hE_0_87_1 : ∀ j : Int, apartA_0 j = apartA_1 j) (hE_0_87_2 : ∀ j : Int, apartA_1 j = apartA_2 j) (hE_0_88_1 : ∀ j : Int, apartB_0 j = apartB_1 j) (hE_0_88_2 : ∀ j : Int, apartB_1 j = apartB_2 j) (hE_0_89_1 : ∀ j : Int, apart_0 j = apart_1 j) (hE_0_89_2 : ∀ j : Int, apart_1 j = apart_2 j) (hE_0_90_1 : ∀ j : Int, flow_0 j = flow_1 j) (hE_0_90_2 : ∀ j : Int, flow_1 j = flow_2 j) (hE_0_91_1 : ∀ j : Int, cameBy_0 j = cameBy_1 j) (hE_0_91_2 : ∀ j : Int, 0 ≤ j → (j = x12 → cameBy_1 j = x11) ∧ (j ≠ x12 → cameBy_1 j = cameBy_2 j)) (hE_0_92_1 : ∀ j : Int, 0 ≤ j → (j = x10 → queue_0 j = x12) ∧ (j ≠ x10 → queue_0 j = queue_1 j)) (hE_0_92_2 : ∀ j : Int, queue_1 j = queue_2 j) (kz_0_79 : 0 ≤ pointMany_0 ∧ pointMany_0 ≤ 76) (kz_0_80 : 0 ≤ costMany_0 ∧ costMany_0 ≤ 200) (kz_0_81 : 0 ≤ apartMany_0 ∧ apartMany_0 ≤ 200) : AU2 (queue_0) (cameBy_0) (x1) (x2) (x21) (x11) := by
  subst fe_0_79_1
  subst fe_0_80_1
  subst fe_0_81_1
  subst fe_0_79_2
  subst fe_0_80_2
  subst fe_0_81_2
  have e_hE_0_82_1 := funext hE_0_82_1; subst e_hE_0_82_1
  have e_hE_0_82_2 := funext hE_0_82_2; subst e_hE_0_82_2
  have e_hE_0_83_1 := funext hE_0_83_1; subst e_hE_0_83_1
  have e_hE_0_83_2 := funext hE_0_83_2; subst e_hE_0_83_2
  have e_hE_0_84_1 := funext hE_0_84_1; subst e_hE_0_84_1
  have e_hE_0_84_2 := funext hE_0_84_2; subst e_hE_0_84_2
  have e_hE_0_85_1 := funext hE_0_85_1; subst e_hE_0_85_1
  have e_hE_0_85_2 := funext hE_0_85_2; subst e_hE_0_85_2
  have e_hE_0_86_1 := funext hE_0_86_1; subst e_hE_0_86_1
  have e_hE_0_86_2 := funext hE_0_86_2; subst e_hE_0_86_2
  have e_hE_0_87_1 := funext hE_0_87_1; subst e_hE_0_87_1
  have e_hE_0_87_2 := funext hE_0_87_2; subst e_hE_0_87_2
  have e_hE_0_88_1 := funext hE_0_88_1; subst e_hE_0_88_1
  have e_hE_0_88_2 := funext hE_0_88_2; subst e_hE_0_88_2
  have e_hE_0_89_1 := funext hE_0_89_1; subst e_hE_0_89_1
  have e_hE_0_89_2 := funext hE_0_89_2; subst e_hE_0_89_2
  have e_hE_0_90_1 := funext hE_0_90_1; subst e_hE_0_90_1
  have e_hE_0_90_2 := funext hE_0_90_2; subst e_hE_0_90_2
  have e_hE_0_91_1 := funext hE_0_91_1; subst e_hE_0_91_1
  have e_hE_0_92_2 := funext hE_0_92_2; subst e_hE_0_92_2
  first
    | assumption
    | exact au2_start (k := x9) ‹AU1 _ _ _ _ _› (by omega) (by omega) (by assumption)
    | exact au2_step (p := x12) ‹AU2 _ _ _ _ _ _› (by omega) (by omega) (by omega) (by omega) (by assumption) (by omega) (by assumption) (by omega) (by omega)
set_option maxHeartbeats 4000000 in
theorem vc_Mo_augment_10_4 (x9 : Int) (x10 : Int) (x21 : Int) (pointMany_0 : Int) (flow_0 : Int → Int) (spot_0 : Int → Int) (costA_0 : Int → Int) (costB_0 : Int → Int) (costW_0 : Int → Int) (costPlain_0 : Int → Int) (apartA_0 : Int → Int) (apartB_0 : Int → Int) (apart_0 : Int → Int) (costMany_0 : Int) (apartMany_0 : Int) (pointMany_1 : Int) (flow_1 : Int → Int) (spot_1 : Int → Int) (costA_1 : Int → Int) (costB_1 : Int → Int) (costW_1 : Int → Int) (costPlain_1 : Int → Int) (apartA_1 : Int → Int) (apartB_1 : Int → Int) (apart_1 : Int → Int) (costMany_1 : Int) (apartMany_1 : Int) (flow_2 : Int → Int) (pointMany_2 : Int) (spot_2 : Int → Int) (costA_2 : Int → Int) (costB_2 : Int → Int) (costW_2 : Int → Int) (costPlain_2 : Int → Int) (apartA_2 : Int → Int) (apartB_2 : Int → Int) (apart_2 : Int → Int) (costMany_2 : Int) (apartMany_2 : Int) (queue_2 : Int → Int) (cameBy_0 : Int → Int) (cameBy_1 : Int → Int) (queue_1 : Int → Int) (k9 : 1 ≤ x9 ∧ x9 ≤ 78) (k10 : 1 ≤ x10 ∧ x10 ≤ 77) (k21 : 2 ≤ x21 ∧ x21 ≤ 78) (d4 : x10 + 1 ≤ x21 ∧ x21 ≤ x10 + 1) (d17 : x10 + (-4294967296) ≤ x9 ∧ x9 ≤ x10 + 0) (fe_0_79_1 : pointMany_0 = pointMany_1) (fe_0_80_1 : costMany_0 = costMany_1) (fe_0_81_1 : apartMany_0 = apartMany_1) (fe_0_79_2 : pointMany_1 = pointMany_2) (fe_0_80_2 : costMany_1 = costMany_2) (fe_0_81_2 : apartMany_1 = apartMany_2) (hE_0_82_1 : ∀ j : Int, spot_0 j = spot_1 j) (hE_0_82_2 : ∀ j : Int, spot_1 j = spot_2 j) (hE_0_83_1 : ∀ j : Int, costA_0 j = costA_1 j) (hE_0_83_2 : ∀ j : Int, costA_1 j = costA_2 j) (hE_0_84_1 : ∀ j : Int, costB_0 j = costB_1 j) (hE_0_84_2 : ∀ j : Int, costB_1 j = costB_2 j) (hE_0_85_1 : ∀ j : Int, costW_0 j = costW_1 j) (hE_0_85_2 : ∀ j : Int, costW_1 j = costW_2 j) (hE_0_86_1 : ∀ j : Int, costPlain_0 j = costPlain_1 j) (hE_0_86_2 : ∀ j : Int, costPlain_1 j = costPlain_2 j) (hE_0_87_1 : ∀ j : Int, apartA_0 j = apartA_1 j) (hE_0_87_2 : ∀ j : Int, apartA_1 j = apartA_2 j) (hE_0_88_1 : ∀ j : Int, apartB_0 j = apartB_1 j) (hE_0_88_2 : ∀ j : Int, apartB_1 j = apartB_2 j) (hE_0_89_1 : ∀ j : Int, apart_0 j = apart_1 j) (hE_0_89_2 : ∀ j : Int, apart_1 j = apart_2 j) (hE_0_90_1 : ∀ j : Int, flow_0 j = flow_1 j) (hE_0_90_2 : ∀ j : Int, flow_1 j = flow_2 j) (hE_0_91_1 : ∀ j : Int, cameBy_0 j = cameBy_1 j) (hE_0_92_2 : ∀ j : Int, queue_1 j = queue_2 j) (kz_0_79 : 0 ≤ pointMany_0 ∧ pointMany_0 ≤ 76) (kz_0_80 : 0 ≤ costMany_0 ∧ costMany_0 ≤ 200) (kz_0_81 : 0 ≤ apartMany_0 ∧ apartMany_0 ≤ 200) : x9 ≤ x21 := by
  subst fe_0_79_1
  subst fe_0_80_1
  subst fe_0_81_1
  subst fe_0_79_2
  subst fe_0_80_2
  subst fe_0_81_2
  have e_hE_0_82_1 := funext hE_0_82_1; subst e_hE_0_82_1
  have e_hE_0_82_2 := funext hE_0_82_2; subst e_hE_0_82_2
  have e_hE_0_83_1 := funext hE_0_83_1; subst e_hE_0_83_1
  have e_hE_0_83_2 := funext hE_0_83_2; subst e_hE_0_83_2
  have e_hE_0_84_1 := funext hE_0_84_1; subst e_hE_0_84_1
  have e_hE_0_84_2 := funext hE_0_84_2; subst e_hE_0_84_2
  have e_hE_0_85_1 := funext hE_0_85_1; subst e_hE_0_85_1
  have e_hE_0_85_2 := funext hE_0_85_2; subst e_hE_0_85_2
  have e_hE_0_86_1 := funext hE_0_86_1; subst e_hE_0_86_1
  have e_hE_0_86_2 := funext hE_0_86_2; subst e_hE_0_86_2
  have e_hE_0_87_1 := funext hE_0_87_1; subst e_hE_0_87_1
  have e_hE_0_87_2 := funext hE_0_87_2; subst e_hE_0_87_2
  have e_hE_0_88_1 := funext hE_0_88_1; subst e_hE_0_88_1
  have e_hE_0_88_2 := funext hE_0_88_2; subst e_hE_0_88_2
  have e_hE_0_89_1 := funext hE_0_89_1; subst e_hE_0_89_1
  have e_hE_0_89_2 := funext hE_0_89_2; subst e_hE_0_89_2
  have e_hE_0_90_1 := funext hE_0_90_1; subst e_hE_0_90_1
  have e_hE_0_90_2 := funext hE_0_90_2; subst e_hE_0_90_2
  have e_hE_0_91_1 := funext hE_0_91_1; subst e_hE_0_91_1
  have e_hE_0_92_2 := funext hE_0_92_2; subst e_hE_0_92_2
  first
    | omega
    | (have h := ‹AU1 _ _ _ _ _›.2.2.1 x9 (by omega) (by omega); omega)
    | (have h := au1_len ‹AU1 _ _ _ _ _›; omega)
def o_Mo_augment_10 : or_T := (65, 23, [(0, (2, 0, 0, [165])), (1, (0, 2, 78, [])), (2, (0, 0, 76, [])), (9, (0, 1, 78, [])), (10, (0, 1, 77, [])), (11, (0, 0, 77, [])), (12, (0, 0, 77, [])), (14, (2, 0, 0, [228])), (15, (0, -1, -1, [])), (17, (0, 0, 6006, [])), (18, (0, 0, 6083, [])), (19, (0, 1, 410000000, [])), (20, (2, 0, 0, [229])), (21, (0, 2, 78, [])), (22, (0, 1, 78, []))], [(6, [22, 12], [1]), (6, [21, 10], [1]), (24, [0, 5], []), (24, [1, 6], []), (24, [2, 7], []), (100, [20, 10, 12], []), (9, [20, 5], [92]), (100, [14, 12, 11], []), (9, [14, 5], [91]), (8, [19], [1]), (10, [19, 16, 18], []), (1, [18, 17, 12], []), (3, [17, 6, 11], []), (9, [16, 5], [90]), (10, [15, 14, 12], []), (7, [12, 6], [2]), (20, [5, 6, 7], [60, 0, 2, 401, 90, 91]), (20, [5, 6, 9, 11], [60, 0, 3, 403, 90, 92, 91]), (20, [5, 6, 11, 12], [60, 0, 2, 404, 90, 91]), (20, [5, 6, 7, 10, 11], [60, 0, 2, 393, 92, 91]), (20, [9, 10], [50, 0, 0, 0, 2, 1, 0, 1, 1])], [], [], [(20, [5, 6, 7], [60, 0, 2, 401, 90, 91]), (20, [5, 6, 9, 11], [60, 0, 3, 403, 90, 92, 91]), (20, [5, 6, 11, 22], [60, 0, 2, 404, 90, 91]), (20, [5, 6, 7, 21, 11], [60, 0, 2, 393, 92, 91]), (20, [9, 21], [50, 0, 0, 0, 2, 1, 0, 1, 1])], [], [(22, 12, 1, 1), (21, 10, 1, 1), (18, 12, 0, 6006), (12, 6, -4294967296, -1), (9, 10, -4294967296, 0), (12, 1, -4294967296, 0), (12, 6, -4294967296, 0)])
theorem oo_Mo_augment_10 {kA : Nat → ClassId} : or_ok PRD kA GG o_Mo_augment_10 := by
  refine or_mk fun A ta ws vs hD hth hl => ?_
  intro t0 r0 t1 k1 t2 k2 t9 k9 t10 k10 t11 k11 t12 k12 t14 r14 t15 k15 t17 k17 t18 k18 t19 k19 t20 r20 t21 k21 t22 k22 d0 d4 d5 d10 d17 d18 d19 f0 f1 f14 f15 f16 ta1 w1 le1 s1 f19 ta2 w2 le2 s2 f33 f34 f35 f36 f37 f38 f40 f41 f50 f51 f52 f53 f55
  replace f0 := shm_4 f0
  replace f1 := shm_4 f1
  replace f14 := shm_5 f14
  replace f15 := shm_5 f15
  replace f16 := shm_5 f16
  have s1 : (∀ b j, w_el ws b j = if b = v_ad (n_v vs 20) ∧ j = (v_iv (n_v vs 10)).toNat then v_iv (n_v vs 12) else w_el w1 b j) ∧ ∀ b k, w_fd ws b k = w_fd w1 b k := s1.2
  replace f19 := shm_920 f19
  have s2 : (∀ b j, w_el w1 b j = if b = v_ad (n_v vs 14) ∧ j = (v_iv (n_v vs 12)).toNat then v_iv (n_v vs 11) else w_el w2 b j) ∧ ∀ b k, w_fd w1 b k = w_fd w2 b k := s2.2
  replace f33 := shm_921 f33
  replace f34 := shm_154 f34
  replace f35 := shm_106 f35
  replace f36 := shm_12 f36
  replace f37 := shm_38 f37
  replace f38 := shm_934 f38
  replace f40 := shm_106 f40
  replace f41 := shm_6 f41
  replace f50 := shm_922 f50
  replace f51 := shm_931 f51
  replace f52 := shm_932 f52
  replace f53 := shm_928 f53
  replace f55 := shm_378 f55
  have q5 : n_v vs 5 = n_v vs 0 := f14.symm
  have q6 : n_v vs 6 = n_v vs 1 := f15.symm
  have q7 : n_v vs 7 = n_v vs 2 := f16.symm
  simp only [q6, q7, q5] at f19 f33 f37 f38 f41 f50 f51 f52 f53
  have ar_0_82_1 : w_ar w1 (n_v vs 0) 82 = w_ar ws (n_v vs 0) 82 := congrArg v_ad (s1.2 _ _).symm
  have ar_0_82_2 : w_ar w2 (n_v vs 0) 82 = w_ar ws (n_v vs 0) 82 := by rw [← ar_0_82_1]; show v_ad (w_fd w2 _ _) = v_ad (w_fd w1 _ _); rw [s2.2]
  have cr_0_82 := fdq_225 hD hth r0
  have ar_0_83_1 : w_ar w1 (n_v vs 0) 83 = w_ar ws (n_v vs 0) 83 := congrArg v_ad (s1.2 _ _).symm
  have ar_0_83_2 : w_ar w2 (n_v vs 0) 83 = w_ar ws (n_v vs 0) 83 := by rw [← ar_0_83_1]; show v_ad (w_fd w2 _ _) = v_ad (w_fd w1 _ _); rw [s2.2]
  have cr_0_83 := fdq_125 hD hth r0
  have ar_0_84_1 : w_ar w1 (n_v vs 0) 84 = w_ar ws (n_v vs 0) 84 := congrArg v_ad (s1.2 _ _).symm
  have ar_0_84_2 : w_ar w2 (n_v vs 0) 84 = w_ar ws (n_v vs 0) 84 := by rw [← ar_0_84_1]; show v_ad (w_fd w2 _ _) = v_ad (w_fd w1 _ _); rw [s2.2]
  have cr_0_84 := fdq_126 hD hth r0
  have ar_0_85_1 : w_ar w1 (n_v vs 0) 85 = w_ar ws (n_v vs 0) 85 := congrArg v_ad (s1.2 _ _).symm
  have ar_0_85_2 : w_ar w2 (n_v vs 0) 85 = w_ar ws (n_v vs 0) 85 := by rw [← ar_0_85_1]; show v_ad (w_fd w2 _ _) = v_ad (w_fd w1 _ _); rw [s2.2]
  have cr_0_85 := fdq_127 hD hth r0
  have ar_0_86_1 : w_ar w1 (n_v vs 0) 86 = w_ar ws (n_v vs 0) 86 := congrArg v_ad (s1.2 _ _).symm
  have ar_0_86_2 : w_ar w2 (n_v vs 0) 86 = w_ar ws (n_v vs 0) 86 := by rw [← ar_0_86_1]; show v_ad (w_fd w2 _ _) = v_ad (w_fd w1 _ _); rw [s2.2]
  have cr_0_86 := fdq_128 hD hth r0
  have ar_0_87_1 : w_ar w1 (n_v vs 0) 87 = w_ar ws (n_v vs 0) 87 := congrArg v_ad (s1.2 _ _).symm
  have ar_0_87_2 : w_ar w2 (n_v vs 0) 87 = w_ar ws (n_v vs 0) 87 := by rw [← ar_0_87_1]; show v_ad (w_fd w2 _ _) = v_ad (w_fd w1 _ _); rw [s2.2]
  have cr_0_87 := fdq_118 hD hth r0
  have ar_0_88_1 : w_ar w1 (n_v vs 0) 88 = w_ar ws (n_v vs 0) 88 := congrArg v_ad (s1.2 _ _).symm
  have ar_0_88_2 : w_ar w2 (n_v vs 0) 88 = w_ar ws (n_v vs 0) 88 := by rw [← ar_0_88_1]; show v_ad (w_fd w2 _ _) = v_ad (w_fd w1 _ _); rw [s2.2]
  have cr_0_88 := fdq_119 hD hth r0
  have ar_0_89_1 : w_ar w1 (n_v vs 0) 89 = w_ar ws (n_v vs 0) 89 := congrArg v_ad (s1.2 _ _).symm
  have ar_0_89_2 : w_ar w2 (n_v vs 0) 89 = w_ar ws (n_v vs 0) 89 := by rw [← ar_0_89_1]; show v_ad (w_fd w2 _ _) = v_ad (w_fd w1 _ _); rw [s2.2]
  have cr_0_89 := fdq_120 hD hth r0
  have ar_0_90_1 : w_ar w1 (n_v vs 0) 90 = w_ar ws (n_v vs 0) 90 := congrArg v_ad (s1.2 _ _).symm
  have ar_0_90_2 : w_ar w2 (n_v vs 0) 90 = w_ar ws (n_v vs 0) 90 := by rw [← ar_0_90_1]; show v_ad (w_fd w2 _ _) = v_ad (w_fd w1 _ _); rw [s2.2]
  have cr_0_90 := fdq_226 hD hth r0
  have ar_0_91_1 : w_ar w1 (n_v vs 0) 91 = w_ar ws (n_v vs 0) 91 := congrArg v_ad (s1.2 _ _).symm
  have ar_0_91_2 : w_ar w2 (n_v vs 0) 91 = w_ar ws (n_v vs 0) 91 := by rw [← ar_0_91_1]; show v_ad (w_fd w2 _ _) = v_ad (w_fd w1 _ _); rw [s2.2]
  have cr_0_91 := fdq_227 hD hth r0
  have ar_0_92_1 : w_ar w1 (n_v vs 0) 92 = w_ar ws (n_v vs 0) 92 := congrArg v_ad (s1.2 _ _).symm
  have ar_0_92_2 : w_ar w2 (n_v vs 0) 92 = w_ar ws (n_v vs 0) 92 := by rw [← ar_0_92_1]; show v_ad (w_fd w2 _ _) = v_ad (w_fd w1 _ _); rw [s2.2]
  have cr_0_92 := fdq_228 hD hth r0
  have ad_20 : v_ad (n_v vs 20) = w_ar ws (n_v vs 0) 92 := (congrArg v_ad f19).trans ar_0_92_1
  have ad_14 : v_ad (n_v vs 14) = w_ar ws (n_v vs 0) 91 := (congrArg v_ad f33).trans ar_0_91_2
  have ad_16 : v_ad (n_v vs 16) = w_ar ws (n_v vs 0) 90 := (congrArg v_ad f38).trans ar_0_90_2
  simp only [ar_0_82_1, ar_0_83_1, ar_0_84_1, ar_0_85_1, ar_0_86_1, ar_0_87_1, ar_0_88_1, ar_0_89_1, ar_0_90_1, ad_16] at f35
  have h35 : v_iv (n_v vs 19) = w_ei w2 (w_ar ws (n_v vs 0) 90) (v_iv (n_v vs 18)) := f35
  simp only [ad_14] at f40
  have h40 : v_iv (n_v vs 15) = w_ei w2 (w_ar ws (n_v vs 0) 91) (v_iv (n_v vs 12)) := f40
  simp only [ar_0_82_2, ar_0_83_2, ar_0_84_2, ar_0_85_2, ar_0_86_2, ar_0_87_2, ar_0_88_2, ar_0_89_2, ar_0_90_2, ar_0_91_2, ar_0_92_2] at f50 f51 f52 f53
  have fe_0_79_1 : w_fi ws (n_v vs 0) 79 = w_fi w1 (n_v vs 0) 79 := congrArg v_iv (s1.2 _ _)
  have fe_0_80_1 : w_fi ws (n_v vs 0) 80 = w_fi w1 (n_v vs 0) 80 := congrArg v_iv (s1.2 _ _)
  have fe_0_81_1 : w_fi ws (n_v vs 0) 81 = w_fi w1 (n_v vs 0) 81 := congrArg v_iv (s1.2 _ _)
  have fe_0_79_2 : w_fi w1 (n_v vs 0) 79 = w_fi w2 (n_v vs 0) 79 := congrArg v_iv (s2.2 _ _)
  have fe_0_80_2 : w_fi w1 (n_v vs 0) 80 = w_fi w2 (n_v vs 0) 80 := congrArg v_iv (s2.2 _ _)
  have fe_0_81_2 : w_fi w1 (n_v vs 0) 81 = w_fi w2 (n_v vs 0) 81 := congrArg v_iv (s2.2 _ _)
  have hE_0_82_1 : ∀ j : Int, w_ei ws (w_ar ws (n_v vs 0) 82) j = w_ei w1 (w_ar ws (n_v vs 0) 82) j := el_kp s1.1 r20 cr_0_82 (by decide)
  have hE_0_82_2 : ∀ j : Int, w_ei w1 (w_ar ws (n_v vs 0) 82) j = w_ei w2 (w_ar ws (n_v vs 0) 82) j := el_kp s2.1 r14 cr_0_82 (by decide)
  have hE_0_83_1 : ∀ j : Int, w_ei ws (w_ar ws (n_v vs 0) 83) j = w_ei w1 (w_ar ws (n_v vs 0) 83) j := el_kp s1.1 r20 cr_0_83 (by decide)
  have hE_0_83_2 : ∀ j : Int, w_ei w1 (w_ar ws (n_v vs 0) 83) j = w_ei w2 (w_ar ws (n_v vs 0) 83) j := el_kp s2.1 r14 cr_0_83 (by decide)
  have hE_0_84_1 : ∀ j : Int, w_ei ws (w_ar ws (n_v vs 0) 84) j = w_ei w1 (w_ar ws (n_v vs 0) 84) j := el_kp s1.1 r20 cr_0_84 (by decide)
  have hE_0_84_2 : ∀ j : Int, w_ei w1 (w_ar ws (n_v vs 0) 84) j = w_ei w2 (w_ar ws (n_v vs 0) 84) j := el_kp s2.1 r14 cr_0_84 (by decide)
  have hE_0_85_1 : ∀ j : Int, w_ei ws (w_ar ws (n_v vs 0) 85) j = w_ei w1 (w_ar ws (n_v vs 0) 85) j := el_kp s1.1 r20 cr_0_85 (by decide)
  have hE_0_85_2 : ∀ j : Int, w_ei w1 (w_ar ws (n_v vs 0) 85) j = w_ei w2 (w_ar ws (n_v vs 0) 85) j := el_kp s2.1 r14 cr_0_85 (by decide)
  have hE_0_86_1 : ∀ j : Int, w_ei ws (w_ar ws (n_v vs 0) 86) j = w_ei w1 (w_ar ws (n_v vs 0) 86) j := el_kp s1.1 r20 cr_0_86 (by decide)
  have hE_0_86_2 : ∀ j : Int, w_ei w1 (w_ar ws (n_v vs 0) 86) j = w_ei w2 (w_ar ws (n_v vs 0) 86) j := el_kp s2.1 r14 cr_0_86 (by decide)
  have hE_0_87_1 : ∀ j : Int, w_ei ws (w_ar ws (n_v vs 0) 87) j = w_ei w1 (w_ar ws (n_v vs 0) 87) j := el_kp s1.1 r20 cr_0_87 (by decide)
  have hE_0_87_2 : ∀ j : Int, w_ei w1 (w_ar ws (n_v vs 0) 87) j = w_ei w2 (w_ar ws (n_v vs 0) 87) j := el_kp s2.1 r14 cr_0_87 (by decide)
  have hE_0_88_1 : ∀ j : Int, w_ei ws (w_ar ws (n_v vs 0) 88) j = w_ei w1 (w_ar ws (n_v vs 0) 88) j := el_kp s1.1 r20 cr_0_88 (by decide)
  have hE_0_88_2 : ∀ j : Int, w_ei w1 (w_ar ws (n_v vs 0) 88) j = w_ei w2 (w_ar ws (n_v vs 0) 88) j := el_kp s2.1 r14 cr_0_88 (by decide)
  have hE_0_89_1 : ∀ j : Int, w_ei ws (w_ar ws (n_v vs 0) 89) j = w_ei w1 (w_ar ws (n_v vs 0) 89) j := el_kp s1.1 r20 cr_0_89 (by decide)
  have hE_0_89_2 : ∀ j : Int, w_ei w1 (w_ar ws (n_v vs 0) 89) j = w_ei w2 (w_ar ws (n_v vs 0) 89) j := el_kp s2.1 r14 cr_0_89 (by decide)
  have hE_0_90_1 : ∀ j : Int, w_ei ws (w_ar ws (n_v vs 0) 90) j = w_ei w1 (w_ar ws (n_v vs 0) 90) j := el_kp s1.1 r20 cr_0_90 (by decide)
  have hE_0_90_2 : ∀ j : Int, w_ei w1 (w_ar ws (n_v vs 0) 90) j = w_ei w2 (w_ar ws (n_v vs 0) 90) j := el_kp s2.1 r14 cr_0_90 (by decide)
  have hE_0_91_1 : ∀ j : Int, w_ei ws (w_ar ws (n_v vs 0) 91) j = w_ei w1 (w_ar ws (n_v vs 0) 91) j := el_kp s1.1 r20 cr_0_91 (by decide)
  have hE_0_91_2 : ∀ j : Int, 0 ≤ j → (j = v_iv (n_v vs 12) → w_ei w1 (w_ar ws (n_v vs 0) 91) j = v_iv (n_v vs 11)) ∧ (j ≠ v_iv (n_v vs 12) → w_ei w1 (w_ar ws (n_v vs 0) 91) j = w_ei w2 (w_ar ws (n_v vs 0) 91) j) := fun j hj => ⟨fun h => by unfold w_ei; rw [s2.1, if_pos ⟨ad_14.symm, by rw [h]⟩], fun h => by unfold w_ei; rw [s2.1, if_neg (fun e => h (by have := e.2; omega))]⟩
  have hE_0_92_1 : ∀ j : Int, 0 ≤ j → (j = v_iv (n_v vs 10) → w_ei ws (w_ar ws (n_v vs 0) 92) j = v_iv (n_v vs 12)) ∧ (j ≠ v_iv (n_v vs 10) → w_ei ws (w_ar ws (n_v vs 0) 92) j = w_ei w1 (w_ar ws (n_v vs 0) 92) j) := fun j hj => ⟨fun h => by unfold w_ei; rw [s1.1, if_pos ⟨ad_20.symm, by rw [h]⟩], fun h => by unfold w_ei; rw [s1.1, if_neg (fun e => h (by have := e.2; omega))]⟩
  have hE_0_92_2 : ∀ j : Int, w_ei w1 (w_ar ws (n_v vs 0) 92) j = w_ei w2 (w_ar ws (n_v vs 0) 92) j := el_kp s2.1 r14 cr_0_92 (by decide)
  have kz_0_79 := fdq_146 hD hth r0
  have kz_0_80 := fdq_130 hD hth r0
  have kz_0_81 := fdq_123 hD hth r0
  have nf0 : fc_1 PRD (20, [5, 6, 7], [60, 0, 2, 401, 90, 91]) ws (vs) := by
    refine ⟨nf_in hl rfl, sgq_922 ?_⟩
    · show FPT (w_ei ws (w_ar ws (n_v vs 5) 90)) (w_ei ws (w_ar ws (n_v vs 5) 91)) (v_iv (n_v vs 6)) (v_iv (n_v vs 7))
      simp only [q5, q6, q7]
      exact vc_Mo_augment_10_0 (v_iv (n_v vs 1)) (v_iv (n_v vs 2)) (v_iv (n_v vs 11)) (v_iv (n_v vs 12)) (v_iv (n_v vs 17)) (v_iv (n_v vs 18)) (v_iv (n_v vs 19)) (v_iv (n_v vs 22)) (w_fi ws (n_v vs 0) 79) (w_ei ws (w_ar ws (n_v vs 0) 90)) (w_ei ws (w_ar ws (n_v vs 0) 82)) (w_ei ws (w_ar ws (n_v vs 0) 83)) (w_ei ws (w_ar ws (n_v vs 0) 84)) (w_ei ws (w_ar ws (n_v vs 0) 85)) (w_ei ws (w_ar ws (n_v vs 0) 86)) (w_ei ws (w_ar ws (n_v vs 0) 87)) (w_ei ws (w_ar ws (n_v vs 0) 88)) (w_ei ws (w_ar ws (n_v vs 0) 89)) (w_fi ws (n_v vs 0) 80) (w_fi ws (n_v vs 0) 81) (w_fi w1 (n_v vs 0) 79) (w_ei w1 (w_ar ws (n_v vs 0) 90)) (w_ei w1 (w_ar ws (n_v vs 0) 82)) (w_ei w1 (w_ar ws (n_v vs 0) 83)) (w_ei w1 (w_ar ws (n_v vs 0) 84)) (w_ei w1 (w_ar ws (n_v vs 0) 85)) (w_ei w1 (w_ar ws (n_v vs 0) 86)) (w_ei w1 (w_ar ws (n_v vs 0) 87)) (w_ei w1 (w_ar ws (n_v vs 0) 88)) (w_ei w1 (w_ar ws (n_v vs 0) 89)) (w_fi w1 (n_v vs 0) 80) (w_fi w1 (n_v vs 0) 81) (w_ei w2 (w_ar ws (n_v vs 0) 90)) (w_ei w2 (w_ar ws (n_v vs 0) 91)) (w_fi w2 (n_v vs 0) 79) (w_ei w2 (w_ar ws (n_v vs 0) 82)) (w_ei w2 (w_ar ws (n_v vs 0) 83)) (w_ei w2 (w_ar ws (n_v vs 0) 84)) (w_ei w2 (w_ar ws (n_v vs 0) 85)) (w_ei w2 (w_ar ws (n_v vs 0) 86)) (w_ei w2 (w_ar ws (n_v vs 0) 87)) (w_ei w2 (w_ar ws (n_v vs 0) 88)) (w_ei w2 (w_ar ws (n_v vs 0) 89)) (w_fi w2 (n_v vs 0) 80) (w_fi w2 (n_v vs 0) 81) (w_ei w2 (w_ar ws (n_v vs 0) 92)) (w_ei ws (w_ar ws (n_v vs 0) 91)) (w_ei w1 (w_ar ws (n_v vs 0) 91)) (w_ei w1 (w_ar ws (n_v vs 0) 92)) k1 k2 k11 k12 k17 k18 k19 k22 d0 f34 h35 f36 f37 f50 fe_0_79_1 fe_0_80_1 fe_0_81_1 fe_0_79_2 fe_0_80_2 fe_0_81_2 hE_0_82_1 hE_0_82_2 hE_0_83_1 hE_0_83_2 hE_0_84_1 hE_0_84_2 hE_0_85_1 hE_0_85_2 hE_0_86_1 hE_0_86_2 hE_0_87_1 hE_0_87_2 hE_0_88_1 hE_0_88_2 hE_0_89_1 hE_0_89_2 hE_0_90_1 hE_0_90_2 hE_0_91_1 hE_0_91_2 hE_0_92_2 kz_0_79 kz_0_80 kz_0_81
  have nf1 : fc_1 PRD (20, [5, 6, 9, 11], [60, 0, 3, 403, 90, 92, 91]) ws (vs) := by
    refine ⟨nf_in hl rfl, sgq_931 ?_⟩
    · show BG1 (w_ei ws (w_ar ws (n_v vs 5) 90)) (w_ei ws (w_ar ws (n_v vs 5) 92)) (w_ei ws (w_ar ws (n_v vs 5) 91)) (v_iv (n_v vs 6)) (v_iv (n_v vs 9)) (v_iv (n_v vs 11))
      simp only [q5, q6]
      exact vc_Mo_augment_10_1 (v_iv (n_v vs 1)) (v_iv (n_v vs 9)) (v_iv (n_v vs 10)) (v_iv (n_v vs 11)) (v_iv (n_v vs 12)) (w_fi ws (n_v vs 0) 79) (w_ei ws (w_ar ws (n_v vs 0) 90)) (w_ei ws (w_ar ws (n_v vs 0) 82)) (w_ei ws (w_ar ws (n_v vs 0) 83)) (w_ei ws (w_ar ws (n_v vs 0) 84)) (w_ei ws (w_ar ws (n_v vs 0) 85)) (w_ei ws (w_ar ws (n_v vs 0) 86)) (w_ei ws (w_ar ws (n_v vs 0) 87)) (w_ei ws (w_ar ws (n_v vs 0) 88)) (w_ei ws (w_ar ws (n_v vs 0) 89)) (w_fi ws (n_v vs 0) 80) (w_fi ws (n_v vs 0) 81) (w_fi w1 (n_v vs 0) 79) (w_ei w1 (w_ar ws (n_v vs 0) 90)) (w_ei w1 (w_ar ws (n_v vs 0) 82)) (w_ei w1 (w_ar ws (n_v vs 0) 83)) (w_ei w1 (w_ar ws (n_v vs 0) 84)) (w_ei w1 (w_ar ws (n_v vs 0) 85)) (w_ei w1 (w_ar ws (n_v vs 0) 86)) (w_ei w1 (w_ar ws (n_v vs 0) 87)) (w_ei w1 (w_ar ws (n_v vs 0) 88)) (w_ei w1 (w_ar ws (n_v vs 0) 89)) (w_fi w1 (n_v vs 0) 80) (w_fi w1 (n_v vs 0) 81) (w_ei w2 (w_ar ws (n_v vs 0) 90)) (w_ei w2 (w_ar ws (n_v vs 0) 91)) (w_fi w2 (n_v vs 0) 79) (w_ei w2 (w_ar ws (n_v vs 0) 82)) (w_ei w2 (w_ar ws (n_v vs 0) 83)) (w_ei w2 (w_ar ws (n_v vs 0) 84)) (w_ei w2 (w_ar ws (n_v vs 0) 85)) (w_ei w2 (w_ar ws (n_v vs 0) 86)) (w_ei w2 (w_ar ws (n_v vs 0) 87)) (w_ei w2 (w_ar ws (n_v vs 0) 88)) (w_ei w2 (w_ar ws (n_v vs 0) 89)) (w_fi w2 (n_v vs 0) 80) (w_fi w2 (n_v vs 0) 81) (w_ei w2 (w_ar ws (n_v vs 0) 92)) (w_ei ws (w_ar ws (n_v vs 0) 91)) (w_ei w1 (w_ar ws (n_v vs 0) 91)) (w_ei ws (w_ar ws (n_v vs 0) 92)) (w_ei w1 (w_ar ws (n_v vs 0) 92)) k1 k9 k10 k11 k12 f51 f55 fe_0_79_1 fe_0_80_1 fe_0_81_1 fe_0_79_2 fe_0_80_2 fe_0_81_2 hE_0_82_1 hE_0_82_2 hE_0_83_1 hE_0_83_2 hE_0_84_1 hE_0_84_2 hE_0_85_1 hE_0_85_2 hE_0_86_1 hE_0_86_2 hE_0_87_1 hE_0_87_2 hE_0_88_1 hE_0_88_2 hE_0_89_1 hE_0_89_2 hE_0_90_1 hE_0_90_2 hE_0_91_1 hE_0_91_2 hE_0_92_1 hE_0_92_2 kz_0_79 kz_0_80 kz_0_81
  have nf2 : fc_1 PRD (20, [5, 6, 11, 22], [60, 0, 2, 404, 90, 91]) ws (vs) := by
    refine ⟨nf_in hl rfl, sgq_932 ?_⟩
    · show BF2 (w_ei ws (w_ar ws (n_v vs 5) 90)) (w_ei ws (w_ar ws (n_v vs 5) 91)) (v_iv (n_v vs 6)) (v_iv (n_v vs 11)) (v_iv (n_v vs 22))
      simp only [q5, q6]
      exact vc_Mo_augment_10_2 (v_iv (n_v vs 1)) (v_iv (n_v vs 11)) (v_iv (n_v vs 12)) (v_iv (n_v vs 22)) (w_fi ws (n_v vs 0) 79) (w_ei ws (w_ar ws (n_v vs 0) 90)) (w_ei ws (w_ar ws (n_v vs 0) 82)) (w_ei ws (w_ar ws (n_v vs 0) 83)) (w_ei ws (w_ar ws (n_v vs 0) 84)) (w_ei ws (w_ar ws (n_v vs 0) 85)) (w_ei ws (w_ar ws (n_v vs 0) 86)) (w_ei ws (w_ar ws (n_v vs 0) 87)) (w_ei ws (w_ar ws (n_v vs 0) 88)) (w_ei ws (w_ar ws (n_v vs 0) 89)) (w_fi ws (n_v vs 0) 80) (w_fi ws (n_v vs 0) 81) (w_fi w1 (n_v vs 0) 79) (w_ei w1 (w_ar ws (n_v vs 0) 90)) (w_ei w1 (w_ar ws (n_v vs 0) 82)) (w_ei w1 (w_ar ws (n_v vs 0) 83)) (w_ei w1 (w_ar ws (n_v vs 0) 84)) (w_ei w1 (w_ar ws (n_v vs 0) 85)) (w_ei w1 (w_ar ws (n_v vs 0) 86)) (w_ei w1 (w_ar ws (n_v vs 0) 87)) (w_ei w1 (w_ar ws (n_v vs 0) 88)) (w_ei w1 (w_ar ws (n_v vs 0) 89)) (w_fi w1 (n_v vs 0) 80) (w_fi w1 (n_v vs 0) 81) (w_ei w2 (w_ar ws (n_v vs 0) 90)) (w_ei w2 (w_ar ws (n_v vs 0) 91)) (w_fi w2 (n_v vs 0) 79) (w_ei w2 (w_ar ws (n_v vs 0) 82)) (w_ei w2 (w_ar ws (n_v vs 0) 83)) (w_ei w2 (w_ar ws (n_v vs 0) 84)) (w_ei w2 (w_ar ws (n_v vs 0) 85)) (w_ei w2 (w_ar ws (n_v vs 0) 86)) (w_ei w2 (w_ar ws (n_v vs 0) 87)) (w_ei w2 (w_ar ws (n_v vs 0) 88)) (w_ei w2 (w_ar ws (n_v vs 0) 89)) (w_fi w2 (n_v vs 0) 80) (w_fi w2 (n_v vs 0) 81) (w_ei w2 (w_ar ws (n_v vs 0) 92)) (w_ei ws (w_ar ws (n_v vs 0) 91)) (w_ei w1 (w_ar ws (n_v vs 0) 91)) (w_ei w1 (w_ar ws (n_v vs 0) 92)) k1 k11 k12 k22 f0 f52 fe_0_79_1 fe_0_80_1 fe_0_81_1 fe_0_79_2 fe_0_80_2 fe_0_81_2 hE_0_82_1 hE_0_82_2 hE_0_83_1 hE_0_83_2 hE_0_84_1 hE_0_84_2 hE_0_85_1 hE_0_85_2 hE_0_86_1 hE_0_86_2 hE_0_87_1 hE_0_87_2 hE_0_88_1 hE_0_88_2 hE_0_89_1 hE_0_89_2 hE_0_90_1 hE_0_90_2 hE_0_91_1 hE_0_91_2 hE_0_92_2 kz_0_79 kz_0_80 kz_0_81
  have nf3 : fc_1 PRD (20, [5, 6, 7, 21, 11], [60, 0, 2, 393, 92, 91]) ws (vs) := by
    refine ⟨nf_in hl rfl, sgq_928 ?_⟩
    · show AU2 (w_ei ws (w_ar ws (n_v vs 5) 92)) (w_ei ws (w_ar ws (n_v vs 5) 91)) (v_iv (n_v vs 6)) (v_iv (n_v vs 7)) (v_iv (n_v vs 21)) (v_iv (n_v vs 11))
      simp only [q5, q6, q7]
      exact vc_Mo_augment_10_3 (v_iv (n_v vs 1)) (v_iv (n_v vs 2)) (v_iv (n_v vs 9)) (v_iv (n_v vs 10)) (v_iv (n_v vs 11)) (v_iv (n_v vs 12)) (v_iv (n_v vs 15)) (v_iv (n_v vs 21)) (v_iv (n_v vs 22)) (w_fi ws (n_v vs 0) 79) (w_ei ws (w_ar ws (n_v vs 0) 90)) (w_ei ws (w_ar ws (n_v vs 0) 82)) (w_ei ws (w_ar ws (n_v vs 0) 83)) (w_ei ws (w_ar ws (n_v vs 0) 84)) (w_ei ws (w_ar ws (n_v vs 0) 85)) (w_ei ws (w_ar ws (n_v vs 0) 86)) (w_ei ws (w_ar ws (n_v vs 0) 87)) (w_ei ws (w_ar ws (n_v vs 0) 88)) (w_ei ws (w_ar ws (n_v vs 0) 89)) (w_fi ws (n_v vs 0) 80) (w_fi ws (n_v vs 0) 81) (w_fi w1 (n_v vs 0) 79) (w_ei w1 (w_ar ws (n_v vs 0) 90)) (w_ei w1 (w_ar ws (n_v vs 0) 82)) (w_ei w1 (w_ar ws (n_v vs 0) 83)) (w_ei w1 (w_ar ws (n_v vs 0) 84)) (w_ei w1 (w_ar ws (n_v vs 0) 85)) (w_ei w1 (w_ar ws (n_v vs 0) 86)) (w_ei w1 (w_ar ws (n_v vs 0) 87)) (w_ei w1 (w_ar ws (n_v vs 0) 88)) (w_ei w1 (w_ar ws (n_v vs 0) 89)) (w_fi w1 (n_v vs 0) 80) (w_fi w1 (n_v vs 0) 81) (w_ei w2 (w_ar ws (n_v vs 0) 90)) (w_ei w2 (w_ar ws (n_v vs 0) 91)) (w_fi w2 (n_v vs 0) 79) (w_ei w2 (w_ar ws (n_v vs 0) 82)) (w_ei w2 (w_ar ws (n_v vs 0) 83)) (w_ei w2 (w_ar ws (n_v vs 0) 84)) (w_ei w2 (w_ar ws (n_v vs 0) 85)) (w_ei w2 (w_ar ws (n_v vs 0) 86)) (w_ei w2 (w_ar ws (n_v vs 0) 87)) (w_ei w2 (w_ar ws (n_v vs 0) 88)) (w_ei w2 (w_ar ws (n_v vs 0) 89)) (w_fi w2 (n_v vs 0) 80) (w_fi w2 (n_v vs 0) 81) (w_ei w2 (w_ar ws (n_v vs 0) 92)) (w_ei ws (w_ar ws (n_v vs 0) 91)) (w_ei w1 (w_ar ws (n_v vs 0) 91)) (w_ei ws (w_ar ws (n_v vs 0) 92)) (w_ei w1 (w_ar ws (n_v vs 0) 92)) k1 k2 k10 k11 k12 k15 k21 k22 d0 f1 h40 f41 f53 fe_0_79_1 fe_0_80_1 fe_0_81_1 fe_0_79_2 fe_0_80_2 fe_0_81_2 hE_0_82_1 hE_0_82_2 hE_0_83_1 hE_0_83_2 hE_0_84_1 hE_0_84_2 hE_0_85_1 hE_0_85_2 hE_0_86_1 hE_0_86_2 hE_0_87_1 hE_0_87_2 hE_0_88_1 hE_0_88_2 hE_0_89_1 hE_0_89_2 hE_0_90_1 hE_0_90_2 hE_0_91_1 hE_0_91_2 hE_0_92_1 hE_0_92_2 kz_0_79 kz_0_80 kz_0_81
  have nf4 : fc_1 PRD (20, [9, 21], [50, 0, 0, 0, 2, 1, 0, 1, 1]) ws (vs) := ⟨nf_in hl rfl, sgq_378 (vc_Mo_augment_10_4 (v_iv (n_v vs 9)) (v_iv (n_v vs 10)) (v_iv (n_v vs 21)) (w_fi ws (n_v vs 0) 79) (w_ei ws (w_ar ws (n_v vs 0) 90)) (w_ei ws (w_ar ws (n_v vs 0) 82)) (w_ei ws (w_ar ws (n_v vs 0) 83)) (w_ei ws (w_ar ws (n_v vs 0) 84)) (w_ei ws (w_ar ws (n_v vs 0) 85)) (w_ei ws (w_ar ws (n_v vs 0) 86)) (w_ei ws (w_ar ws (n_v vs 0) 87)) (w_ei ws (w_ar ws (n_v vs 0) 88)) (w_ei ws (w_ar ws (n_v vs 0) 89)) (w_fi ws (n_v vs 0) 80) (w_fi ws (n_v vs 0) 81) (w_fi w1 (n_v vs 0) 79) (w_ei w1 (w_ar ws (n_v vs 0) 90)) (w_ei w1 (w_ar ws (n_v vs 0) 82)) (w_ei w1 (w_ar ws (n_v vs 0) 83)) (w_ei w1 (w_ar ws (n_v vs 0) 84)) (w_ei w1 (w_ar ws (n_v vs 0) 85)) (w_ei w1 (w_ar ws (n_v vs 0) 86)) (w_ei w1 (w_ar ws (n_v vs 0) 87)) (w_ei w1 (w_ar ws (n_v vs 0) 88)) (w_ei w1 (w_ar ws (n_v vs 0) 89)) (w_fi w1 (n_v vs 0) 80) (w_fi w1 (n_v vs 0) 81) (w_ei w2 (w_ar ws (n_v vs 0) 90)) (w_fi w2 (n_v vs 0) 79) (w_ei w2 (w_ar ws (n_v vs 0) 82)) (w_ei w2 (w_ar ws (n_v vs 0) 83)) (w_ei w2 (w_ar ws (n_v vs 0) 84)) (w_ei w2 (w_ar ws (n_v vs 0) 85)) (w_ei w2 (w_ar ws (n_v vs 0) 86)) (w_ei w2 (w_ar ws (n_v vs 0) 87)) (w_ei w2 (w_ar ws (n_v vs 0) 88)) (w_ei w2 (w_ar ws (n_v vs 0) 89)) (w_fi w2 (n_v vs 0) 80) (w_fi w2 (n_v vs 0) 81) (w_ei w2 (w_ar ws (n_v vs 0) 92)) (w_ei ws (w_ar ws (n_v vs 0) 91)) (w_ei w1 (w_ar ws (n_v vs 0) 91)) (w_ei w1 (w_ar ws (n_v vs 0) 92)) k9 k10 k21 d4 d17 fe_0_79_1 fe_0_80_1 fe_0_81_1 fe_0_79_2 fe_0_80_2 fe_0_81_2 hE_0_82_1 hE_0_82_2 hE_0_83_1 hE_0_83_2 hE_0_84_1 hE_0_84_2 hE_0_85_1 hE_0_85_2 hE_0_86_1 hE_0_86_2 hE_0_87_1 hE_0_87_2 hE_0_88_1 hE_0_88_2 hE_0_89_1 hE_0_89_2 hE_0_90_1 hE_0_90_2 hE_0_91_1 hE_0_92_2 kz_0_79 kz_0_80 kz_0_81)⟩
  refine ⟨(fun _ h => (by cases h)), [], trivial, ?_, (fun _ h => (by cases h))⟩
  rw [List.append_nil]
  exact List.forall_mem_cons.mpr ⟨⟨show (20 : Nat) < 100 from by decide, nf0⟩, List.forall_mem_cons.mpr ⟨⟨show (20 : Nat) < 100 from by decide, nf1⟩, List.forall_mem_cons.mpr ⟨⟨show (20 : Nat) < 100 from by decide, nf2⟩, List.forall_mem_cons.mpr ⟨⟨show (20 : Nat) < 100 from by decide, nf3⟩, List.forall_mem_cons.mpr ⟨⟨show (20 : Nat) < 100 from by decide, nf4⟩, (fun _ h => (by cases h))⟩⟩⟩⟩⟩
set_option maxHeartbeats 4000000 in
theorem vc_Mo_augment_11_0 (x1 : Int) (x11 : Int) (x12 : Int) (x17 : Int) (x18 : Int) (x19 : Int) (x20 : Int) (flow_0 : Int → Int) (cameBy_0 : Int → Int) (k1 : 2 ≤ x1 ∧ x1 ≤ 78) (k11 : 0 ≤ x11 ∧ x11 ≤ 77) (k12 : 0 ≤ x12 ∧ x12 ≤ 77) (k17 : 0 ≤ x17 ∧ x17 ≤ 6006) (k18 : 0 ≤ x18 ∧ x18 ≤ 6083) (k19 : 0 ≤ x19 ∧ x19 ≤ 0) (k20 : 1 ≤ x20 ∧ x20 ≤ 78) (f0 : x20 = x12 + 1) (f1 : x19 = 0) (h2 : x19 = flow_0 (x18)) (f3 : x18 = x17 + x12) (f4 : x17 = x1 * x11) (f20 : BF2 (flow_0) (cameBy_0) (x1) (x11) (x12)) : BF2 (flow_0) (cameBy_0) (x1) (x11) (x20) := by
  first
    | exact bf2_zero (by omega)
    | exact bf2_skip1 ‹BF2 _ _ _ _ _› (by assumption) (by assumption) (by omega)
    | exact bf2_skip2 ‹BF2 _ _ _ _ _› (by assumption) (by assumption) (by assumption) (by assumption) (by omega)
    | exact bf2_step ‹BF2 _ _ _ _ _› (by assumption) (by assumption) rfl (by omega)
def o_Mo_augment_11 : or_T := (65, 21, [(1, (0, 2, 78, [])), (11, (0, 0, 77, [])), (12, (0, 0, 77, [])), (17, (0, 0, 6006, [])), (18, (0, 0, 6083, [])), (19, (0, 0, 0, [])), (20, (0, 1, 78, []))], [(6, [20, 12], [1]), (8, [19], [0]), (10, [19, 16, 18], []), (1, [18, 17, 12], []), (3, [17, 6, 11], []), (9, [16, 5], [90]), (20, [5, 6, 11, 12], [60, 0, 2, 404, 90, 91]), (24, [0, 5], []), (24, [1, 6], [])], [], [], [(20, [5, 6, 11, 20], [60, 0, 2, 404, 90, 91])], [], [])
theorem oo_Mo_augment_11 {kA : Nat → ClassId} : or_ok PRD kA GG o_Mo_augment_11 := by
  refine or_mk fun A ta ws vs hD hth hl => ?_
  intro t1 k1 t11 k11 t12 k12 t17 k17 t18 k18 t19 k19 t20 k20 f0 f1 f2 f3 f4 f5 f20 f26 f27
  replace f0 := shm_4 f0
  replace f1 := shm_210 f1
  replace f2 := shm_106 f2
  replace f3 := shm_12 f3
  replace f4 := shm_38 f4
  replace f5 := shm_934 f5
  replace f20 := shm_932 f20
  replace f26 := shm_5 f26
  replace f27 := shm_5 f27
  have q5 : n_v vs 5 = n_v vs 0 := f26.symm
  have q6 : n_v vs 6 = n_v vs 1 := f27.symm
  simp only [q6, q5] at f4 f5 f20
  have ad_16 : v_ad (n_v vs 16) = w_ar ws (n_v vs 0) 90 := congrArg v_ad f5
  simp only [ad_16] at f2
  have h2 : v_iv (n_v vs 19) = w_ei ws (w_ar ws (n_v vs 0) 90) (v_iv (n_v vs 18)) := f2
  have nf0 : fc_1 PRD (20, [5, 6, 11, 20], [60, 0, 2, 404, 90, 91]) ws (vs) := by
    refine ⟨nf_in hl rfl, sgq_932 ?_⟩
    · show BF2 (w_ei ws (w_ar ws (n_v vs 5) 90)) (w_ei ws (w_ar ws (n_v vs 5) 91)) (v_iv (n_v vs 6)) (v_iv (n_v vs 11)) (v_iv (n_v vs 20))
      simp only [q5, q6]
      exact vc_Mo_augment_11_0 (v_iv (n_v vs 1)) (v_iv (n_v vs 11)) (v_iv (n_v vs 12)) (v_iv (n_v vs 17)) (v_iv (n_v vs 18)) (v_iv (n_v vs 19)) (v_iv (n_v vs 20)) (w_ei ws (w_ar ws (n_v vs 0) 90)) (w_ei ws (w_ar ws (n_v vs 0) 91)) k1 k11 k12 k17 k18 k19 k20 f0 f1 h2 f3 f4 f20
  refine ⟨(fun _ h => (by cases h)), [], trivial, ?_, (fun _ h => (by cases h))⟩
  rw [List.append_nil]
  exact List.forall_mem_cons.mpr ⟨⟨show (20 : Nat) < 100 from by decide, nf0⟩, (fun _ h => (by cases h))⟩

set_option maxHeartbeats 4000000 in
theorem vc_Mo_augment_12_0 (x1 : Int) (x2 : Int) (k1 : 2 ≤ x1 ∧ x1 ≤ 78) (k2 : 0 ≤ x2 ∧ x2 ≤ 76) (f0 : (x2 + 1) ≤ x1) : (x2 + 1) ≤ x1 := by
  first
    | omega
    | (have h := au1_len ‹AU1 _ _ _ _ _›; omega)
set_option maxHeartbeats 4000000 in
theorem vc_Mo_augment_12_1 (x1 : Int) (x3 : Int) (k1 : 2 ≤ x1 ∧ x1 ≤ 78) (k3 : 1 ≤ x3 ∧ x3 ≤ 77) (f1 : (x3 + 1) ≤ x1) : (x3 + 1) ≤ x1 := by
  first
    | omega
    | (have h := au1_len ‹AU1 _ _ _ _ _›; omega)
set_option maxHeartbeats 4000000 in
theorem vc_Mo_augment_12_2 (x1 : Int) (k1 : 2 ≤ x1 ∧ x1 ≤ 78) (f2 : x1 ≤ 78) : x1 ≤ 78 := by
  first
    | omega
    | (have h := au1_len ‹AU1 _ _ _ _ _›; omega)
set_option maxHeartbeats 4000000 in
theorem vc_Mo_augment_12_3 (x1 : Int) (pointMany_0 : Int) (k1 : 2 ≤ x1 ∧ x1 ≤ 78) (f3 : x1 = (pointMany_0 + 2)) (kz_0_79 : 0 ≤ pointMany_0 ∧ pointMany_0 ≤ 76) : x1 = (pointMany_0 + 2) := by
  first
    | omega
    | (have h := au1_len ‹AU1 _ _ _ _ _›; omega)
set_option maxHeartbeats 4000000 in
theorem vc_Mo_augment_12_4 (x2 : Int) (pointMany_0 : Int) (k2 : 0 ≤ x2 ∧ x2 ≤ 76) (f4 : x2 = pointMany_0) (kz_0_79 : 0 ≤ pointMany_0 ∧ pointMany_0 ≤ 76) : x2 = pointMany_0 := by
  first
    | omega
    | (have h := au1_len ‹AU1 _ _ _ _ _›; omega)
set_option maxHeartbeats 4000000 in
theorem vc_Mo_augment_12_5 (x3 : Int) (pointMany_0 : Int) (k3 : 1 ≤ x3 ∧ x3 ≤ 77) (f5 : x3 = (pointMany_0 + 1)) (kz_0_79 : 0 ≤ pointMany_0 ∧ pointMany_0 ≤ 76) : x3 = (pointMany_0 + 1) := by
  first
    | omega
    | (have h := au1_len ‹AU1 _ _ _ _ _›; omega)
set_option maxHeartbeats 4000000 in
theorem vc_Mo_augment_12_6 (pointMany_0 : Int) (flow_0 : Int → Int) (spot_0 : Int → Int) (costA_0 : Int → Int) (costB_0 : Int → Int) (costW_0 : Int → Int) (costPlain_0 : Int → Int) (apartA_0 : Int → Int) (apartB_0 : Int → Int) (apart_0 : Int → Int) (costMany_0 : Int) (apartMany_0 : Int) (f6 : FLO (pointMany_0) (costMany_0) (apartMany_0) (flow_0) (spot_0) (costA_0) (costB_0) (costW_0) (costPlain_0) (apartA_0) (apartB_0) (apart_0)) (kz_0_79 : 0 ≤ pointMany_0 ∧ pointMany_0 ≤ 76) (kz_0_80 : 0 ≤ costMany_0 ∧ costMany_0 ≤ 200) (kz_0_81 : 0 ≤ apartMany_0 ∧ apartMany_0 ≤ 200) : FLO (pointMany_0) (costMany_0) (apartMany_0) (flow_0) (spot_0) (costA_0) (costB_0) (costW_0) (costPlain_0) (apartA_0) (apartB_0) (apart_0) := by
  first
    | assumption
    | exact (psh_end ‹PSH _ _ _ _ _ _ _ _ _ _ _ _ _ _ _ _› (by omega)).1
set_option maxHeartbeats 4000000 in
theorem vc_Mo_augment_12_7 (x4 : Int) (pointMany_0 : Int) (flow_0 : Int → Int) (k4 : (-2) ≤ x4 ∧ x4 ≤ 180000001) (f7 : XLE (pointMany_0) (flow_0) (x4)) (kz_0_79 : 0 ≤ pointMany_0 ∧ pointMany_0 ≤ 76) : XLE (pointMany_0) (flow_0) (x4) := by
  assumption
set_option maxHeartbeats 4000000 in
theorem vc_Mo_augment_12_8 (x1 : Int) (x2 : Int) (flow_0 : Int → Int) (cameBy_0 : Int → Int) (k1 : 2 ≤ x1 ∧ x1 ≤ 78) (k2 : 0 ≤ x2 ∧ x2 ≤ 76) (f8 : FPT (flow_0) (cameBy_0) (x1) (x2)) : FPT (flow_0) (cameBy_0) (x1) (x2) := by
  first
    | assumption
    | exact fpt_start ‹AU0 _ _› (by omega) (by assumption) (by omega)
    | exact fpt_step2 ‹FPT _ _ _ _› (by assumption) rfl (by assumption) (by assumption) (by assumption) (by assumption) (by omega)
set_option maxHeartbeats 4000000 in
theorem vc_Mo_augment_12_9 (x1 : Int) (x2 : Int) (x10 : Int) (cameBy_0 : Int → Int) (queue_0 : Int → Int) (k1 : 2 ≤ x1 ∧ x1 ≤ 78) (k2 : 0 ≤ x2 ∧ x2 ≤ 76) (k10 : 1 ≤ x10 ∧ x10 ≤ 79) (f9 : AU1 (queue_0) (cameBy_0) (x1) (x2) (x10)) : AU1 (queue_0) (cameBy_0) (x1) (x2) (x10) := by
  first
    | assumption
    | exact au1_start ‹AU0 _ _› (by omega) (by omega) (by omega) (by omega) (by assumption) (by omega) (by omega) (by assumption) (by omega) (by omega) (by omega)
    | exact ‹AU2 _ _ _ _ _ _›.1
set_option maxHeartbeats 4000000 in
theorem vc_Mo_augment_12_10 (x9 : Int) (x13 : Int) (gx : Int) (k9 : 1 ≤ x9 ∧ x9 ≤ 78) (k13 : (-2) ≤ x13 ∧ x13 ≤ 79) (f11 : (-1) * x9 + ((-1) * x13 + 0) ≤ (-79)) (ex2 : gx = (-1) + (1 * x13 + 0)) : (-1) * x9 + ((-1) * gx + 0) ≤ (-78) := by
  first
    | omega
    | (have h := au1_len ‹AU1 _ _ _ _ _›; omega)
set_option maxHeartbeats 4000000 in
theorem vc_Mo_augment_12_11 (x1 : Int) (x9 : Int) (flow_0 : Int → Int) (cameBy_0 : Int → Int) (queue_0 : Int → Int) (k1 : 2 ≤ x1 ∧ x1 ≤ 78) (k9 : 1 ≤ x9 ∧ x9 ≤ 78) (f10 : BF1 (flow_0) (queue_0) (cameBy_0) (x1) (x9)) : BF1 (flow_0) (queue_0) (cameBy_0) (x1) (x9) := by
  first
    | assumption
    | exact bf1_zero (by omega)
def o_Mo_augment_12 : or_T := (43, 14, [(0, (2, 0, 0, [165])), (1, (0, 2, 78, [])), (2, (0, 0, 76, [])), (3, (0, 1, 77, [])), (4, (0, -2, 180000001, [])), (5, (2, 0, 0, [165])), (6, (0, 2, 78, [])), (7, (0, 0, 76, [])), (8, (0, 1, 77, [])), (9, (0, 1, 78, [])), (10, (0, 1, 79, [])), (13, (0, -2, 79, []))], [(20, [7, 6], [50, 0, 0, 0, 6, 4, 2, 1, 0, 0, 1, 1, 1]), (20, [8, 6], [50, 0, 0, 0, 6, 4, 2, 1, 0, 0, 1, 1, 1]), (20, [6], [50, 0, 0, 0, 2, 1, 0, 0, 78]), (20, [6, 5], [50, 1, 0, 1079, 1, 2, 1, 0, 4, 3, 2, 1, 79, 0, 2]), (20, [7, 5], [50, 1, 0, 1079, 1, 2, 1, 0, 2, 1, 79]), (20, [8, 5], [50, 1, 0, 1079, 1, 2, 1, 0, 4, 3, 2, 1, 79, 0, 1]), (20, [5], [60, 3, 9, 397, 79, 80, 81, 90, 82, 83, 84, 85, 86, 87, 88, 89]), (20, [5, 4], [60, 1, 1, 398, 79, 90]), (20, [5, 6, 7], [60, 0, 2, 401, 90, 91]), (20, [5, 6, 7, 10], [60, 0, 2, 392, 92, 91]), (20, [5, 6, 9], [60, 0, 3, 402, 90, 92, 91]), (23, [9, 13], [-79, -1, -1]), (23, [13], [-1, -1]), (24, [0, 5], []), (24, [1, 6], []), (24, [2, 7], []), (24, [3, 8], [])], [], [(0, -2, 79, [])], [(20, [7, 6], [50, 0, 0, 0, 6, 4, 2, 1, 0, 0, 1, 1, 1]), (20, [8, 6], [50, 0, 0, 0, 6, 4, 2, 1, 0, 0, 1, 1, 1]), (20, [6], [50, 0, 0, 0, 2, 1, 0, 0, 78]), (20, [6, 5], [50, 1, 0, 1079, 1, 2, 1, 0, 4, 3, 2, 1, 79, 0, 2]), (20, [7, 5], [50, 1, 0, 1079, 1, 2, 1, 0, 2, 1, 79]), (20, [8, 5], [50, 1, 0, 1079, 1, 2, 1, 0, 4, 3, 2, 1, 79, 0, 1]), (20, [5], [60, 3, 9, 397, 79, 80, 81, 90, 82, 83, 84, 85, 86, 87, 88, 89]), (20, [5, 4], [60, 1, 1, 398, 79, 90]), (20, [5, 6, 7], [60, 0, 2, 401, 90, 91]), (20, [5, 6, 7, 10], [60, 0, 2, 392, 92, 91]), (23, [9, 14], [-78, -1, -1]), (20, [5, 6, 9], [60, 0, 3, 402, 90, 92, 91]), (24, [0, 5], []), (24, [1, 6], []), (24, [2, 7], []), (24, [3, 8], [])], [(14, 13, -1000000000000, -1)], [(1, 6, -4294967296, 0), (2, 7, -4294967296, 0), (3, 8, -4294967296, 0), (6, 1, -4294967296, 0), (7, 2, -4294967296, 0), (8, 3, -4294967296, 0), (9, 10, -4294967296, 0)])
theorem oo_Mo_augment_12 {kA : Nat → ClassId} : or_ok PRD kA GG o_Mo_augment_12 := by
  refine or_mk fun A ta ws vs hD hth hl => ?_
  intro t0 r0 t1 k1 t2 k2 t3 k3 t4 k4 t5 r5 t6 k6 t7 k7 t8 k8 t9 k9 t10 k10 t13 k13 d0 d1 d2 d3 d4 d5 d6 f0 f1 f2 f3 f4 f5 f6 f7 f8 f9 f10 f11 f12 f13 f14 f15 f16
  replace f0 := shm_409 f0
  replace f1 := shm_409 f1
  replace f2 := shm_913 f2
  replace f3 := shm_914 f3
  replace f4 := shm_915 f4
  replace f5 := shm_916 f5
  replace f6 := shm_917 f6
  replace f7 := shm_918 f7
  replace f8 := shm_922 f8
  replace f9 := shm_923 f9
  replace f10 := shm_925 f10
  replace f11 := shm_933 f11
  replace f12 := shm_614 f12
  replace f13 := shm_5 f13
  replace f14 := shm_5 f14
  replace f15 := shm_5 f15
  replace f16 := shm_5 f16
  have q5 : n_v vs 5 = n_v vs 0 := f13.symm
  have q6 : n_v vs 6 = n_v vs 1 := f14.symm
  have q7 : n_v vs 7 = n_v vs 2 := f15.symm
  have q8 : n_v vs 8 = n_v vs 3 := f16.symm
  simp only [q6, q7, q8, q5] at f0 f1 f2 f3 f4 f5 f6 f7 f8 f9 f10
  have cr_0_82 := fdq_225 hD hth r0
  have cr_0_83 := fdq_125 hD hth r0
  have cr_0_84 := fdq_126 hD hth r0
  have cr_0_85 := fdq_127 hD hth r0
  have cr_0_86 := fdq_128 hD hth r0
  have cr_0_87 := fdq_118 hD hth r0
  have cr_0_88 := fdq_119 hD hth r0
  have cr_0_89 := fdq_120 hD hth r0
  have cr_0_90 := fdq_226 hD hth r0
  have cr_0_91 := fdq_227 hD hth r0
  have cr_0_92 := fdq_228 hD hth r0
  have hK_0_82 := elq_141 hD hth cr_0_82
  have hK_0_83 := elq_64 hD hth cr_0_83
  have hK_0_84 := elq_65 hD hth cr_0_84
  have hK_0_85 := elq_66 hD hth cr_0_85
  have hK_0_86 := elq_67 hD hth cr_0_86
  have hK_0_87 := elq_59 hD hth cr_0_87
  have hK_0_88 := elq_60 hD hth cr_0_88
  have hK_0_89 := elq_61 hD hth cr_0_89
  have hK_0_90 := elq_142 hD hth cr_0_90
  have hK_0_91 := elq_143 hD hth cr_0_91
  have hK_0_92 := elq_144 hD hth cr_0_92
  have kz_0_79 := fdq_146 hD hth r0
  have kz_0_80 := fdq_130 hD hth r0
  have kz_0_81 := fdq_123 hD hth r0
  obtain ⟨x, ex, hx⟩ := iv_ex (ta := ta) (lo := (-2)) (hi := 79) (z := (-1) + (1 * v_iv (n_v vs 13) + 0)) (by omega) (by omega) (by omega) (by omega)
  have ex2 : v_iv (Value.int x) = (-1) + (1 * v_iv (n_v vs 13) + 0) := ex
  have ex3 : (-2) ≤ v_iv (Value.int x) ∧ v_iv (Value.int x) ≤ 79 := tv_rng hx
  have e_0 : n_v (vs ++ [Value.int x]) 0 = n_v vs 0 := n_v_old (by rw [hl]; decide)
  have e_1 : n_v (vs ++ [Value.int x]) 1 = n_v vs 1 := n_v_old (by rw [hl]; decide)
  have e_2 : n_v (vs ++ [Value.int x]) 2 = n_v vs 2 := n_v_old (by rw [hl]; decide)
  have e_3 : n_v (vs ++ [Value.int x]) 3 = n_v vs 3 := n_v_old (by rw [hl]; decide)
  have e_4 : n_v (vs ++ [Value.int x]) 4 = n_v vs 4 := n_v_old (by rw [hl]; decide)
  have e_5 : n_v (vs ++ [Value.int x]) 5 = n_v vs 5 := n_v_old (by rw [hl]; decide)
  have e_6 : n_v (vs ++ [Value.int x]) 6 = n_v vs 6 := n_v_old (by rw [hl]; decide)
  have e_7 : n_v (vs ++ [Value.int x]) 7 = n_v vs 7 := n_v_old (by rw [hl]; decide)
  have e_8 : n_v (vs ++ [Value.int x]) 8 = n_v vs 8 := n_v_old (by rw [hl]; decide)
  have e_9 : n_v (vs ++ [Value.int x]) 9 = n_v vs 9 := n_v_old (by rw [hl]; decide)
  have e_10 : n_v (vs ++ [Value.int x]) 10 = n_v vs 10 := n_v_old (by rw [hl]; decide)
  have e_14 : n_v (vs ++ [Value.int x]) 14 = Value.int x := n_v_new hl
  have nf0 : fc_1 PRD (20, [7, 6], [50, 0, 0, 0, 6, 4, 2, 1, 0, 0, 1, 1, 1]) ws (vs ++ [Value.int x]) := by
    refine ⟨nf_inA hl rfl, sgq_409 ?_⟩
    · show (v_iv (n_v (vs ++ [Value.int x]) 7) + 1) ≤ v_iv (n_v (vs ++ [Value.int x]) 6)
      simp only [e_6, e_7, q6, q7]
      exact vc_Mo_augment_12_0 (v_iv (n_v vs 1)) (v_iv (n_v vs 2)) k1 k2 f0
  have nf1 : fc_1 PRD (20, [8, 6], [50, 0, 0, 0, 6, 4, 2, 1, 0, 0, 1, 1, 1]) ws (vs ++ [Value.int x]) := by
    refine ⟨nf_inA hl rfl, sgq_409 ?_⟩
    · show (v_iv (n_v (vs ++ [Value.int x]) 8) + 1) ≤ v_iv (n_v (vs ++ [Value.int x]) 6)
      simp only [e_6, e_8, q6, q8]
      exact vc_Mo_augment_12_1 (v_iv (n_v vs 1)) (v_iv (n_v vs 3)) k1 k3 f1
  have nf2 : fc_1 PRD (20, [6], [50, 0, 0, 0, 2, 1, 0, 0, 78]) ws (vs ++ [Value.int x]) := by
    refine ⟨nf_inA hl rfl, sgq_913 ?_⟩
    · show v_iv (n_v (vs ++ [Value.int x]) 6) ≤ 78
      simp only [e_6, q6]
      exact vc_Mo_augment_12_2 (v_iv (n_v vs 1)) k1 f2
  have nf3 : fc_1 PRD (20, [6, 5], [50, 1, 0, 1079, 1, 2, 1, 0, 4, 3, 2, 1, 79, 0, 2]) ws (vs ++ [Value.int x]) := by
    refine ⟨nf_inA hl rfl, sgq_914 ?_⟩
    · show v_iv (n_v (vs ++ [Value.int x]) 6) = (w_fi ws (n_v (vs ++ [Value.int x]) 5) 79 + 2)
      simp only [e_5, e_6, q5, q6]
      exact vc_Mo_augment_12_3 (v_iv (n_v vs 1)) (w_fi ws (n_v vs 0) 79) k1 f3 kz_0_79
  have nf4 : fc_1 PRD (20, [7, 5], [50, 1, 0, 1079, 1, 2, 1, 0, 2, 1, 79]) ws (vs ++ [Value.int x]) := by
    refine ⟨nf_inA hl rfl, sgq_915 ?_⟩
    · show v_iv (n_v (vs ++ [Value.int x]) 7) = w_fi ws (n_v (vs ++ [Value.int x]) 5) 79
      simp only [e_5, e_7, q5, q7]
      exact vc_Mo_augment_12_4 (v_iv (n_v vs 2)) (w_fi ws (n_v vs 0) 79) k2 f4 kz_0_79
  have nf5 : fc_1 PRD (20, [8, 5], [50, 1, 0, 1079, 1, 2, 1, 0, 4, 3, 2, 1, 79, 0, 1]) ws (vs ++ [Value.int x]) := by
    refine ⟨nf_inA hl rfl, sgq_916 ?_⟩
    · show v_iv (n_v (vs ++ [Value.int x]) 8) = (w_fi ws (n_v (vs ++ [Value.int x]) 5) 79 + 1)
      simp only [e_5, e_8, q5, q8]
      exact vc_Mo_augment_12_5 (v_iv (n_v vs 3)) (w_fi ws (n_v vs 0) 79) k3 f5 kz_0_79
  have nf6 : fc_1 PRD (20, [5], [60, 3, 9, 397, 79, 80, 81, 90, 82, 83, 84, 85, 86, 87, 88, 89]) ws (vs ++ [Value.int x]) := by
    refine ⟨nf_inA hl rfl, sgq_917 ?_⟩
    · show FLO (w_fi ws (n_v (vs ++ [Value.int x]) 5) 79) (w_fi ws (n_v (vs ++ [Value.int x]) 5) 80) (w_fi ws (n_v (vs ++ [Value.int x]) 5) 81) (w_ei ws (w_ar ws (n_v (vs ++ [Value.int x]) 5) 90)) (w_ei ws (w_ar ws (n_v (vs ++ [Value.int x]) 5) 82)) (w_ei ws (w_ar ws (n_v (vs ++ [Value.int x]) 5) 83)) (w_ei ws (w_ar ws (n_v (vs ++ [Value.int x]) 5) 84)) (w_ei ws (w_ar ws (n_v (vs ++ [Value.int x]) 5) 85)) (w_ei ws (w_ar ws (n_v (vs ++ [Value.int x]) 5) 86)) (w_ei ws (w_ar ws (n_v (vs ++ [Value.int x]) 5) 87)) (w_ei ws (w_ar ws (n_v (vs ++ [Value.int x]) 5) 88)) (w_ei ws (w_ar ws (n_v (vs ++ [Value.int x]) 5) 89))
      simp only [e_5, q5]
      exact vc_Mo_augment_12_6 (w_fi ws (n_v vs 0) 79) (w_ei ws (w_ar ws (n_v vs 0) 90)) (w_ei ws (w_ar ws (n_v vs 0) 82)) (w_ei ws (w_ar ws (n_v vs 0) 83)) (w_ei ws (w_ar ws (n_v vs 0) 84)) (w_ei ws (w_ar ws (n_v vs 0) 85)) (w_ei ws (w_ar ws (n_v vs 0) 86)) (w_ei ws (w_ar ws (n_v vs 0) 87)) (w_ei ws (w_ar ws (n_v vs 0) 88)) (w_ei ws (w_ar ws (n_v vs 0) 89)) (w_fi ws (n_v vs 0) 80) (w_fi ws (n_v vs 0) 81) f6 kz_0_79 kz_0_80 kz_0_81
  have nf7 : fc_1 PRD (20, [5, 4], [60, 1, 1, 398, 79, 90]) ws (vs ++ [Value.int x]) := by
    refine ⟨nf_inA hl rfl, sgq_918 ?_⟩
    · show XLE (w_fi ws (n_v (vs ++ [Value.int x]) 5) 79) (w_ei ws (w_ar ws (n_v (vs ++ [Value.int x]) 5) 90)) (v_iv (n_v (vs ++ [Value.int x]) 4))
      simp only [e_4, e_5, q5]
      exact vc_Mo_augment_12_7 (v_iv (n_v vs 4)) (w_fi ws (n_v vs 0) 79) (w_ei ws (w_ar ws (n_v vs 0) 90)) k4 f7 kz_0_79
  have nf8 : fc_1 PRD (20, [5, 6, 7], [60, 0, 2, 401, 90, 91]) ws (vs ++ [Value.int x]) := by
    refine ⟨nf_inA hl rfl, sgq_922 ?_⟩
    · show FPT (w_ei ws (w_ar ws (n_v (vs ++ [Value.int x]) 5) 90)) (w_ei ws (w_ar ws (n_v (vs ++ [Value.int x]) 5) 91)) (v_iv (n_v (vs ++ [Value.int x]) 6)) (v_iv (n_v (vs ++ [Value.int x]) 7))
      simp only [e_5, e_6, e_7, q5, q6, q7]
      exact vc_Mo_augment_12_8 (v_iv (n_v vs 1)) (v_iv (n_v vs 2)) (w_ei ws (w_ar ws (n_v vs 0) 90)) (w_ei ws (w_ar ws (n_v vs 0) 91)) k1 k2 f8
  have nf9 : fc_1 PRD (20, [5, 6, 7, 10], [60, 0, 2, 392, 92, 91]) ws (vs ++ [Value.int x]) := by
    refine ⟨nf_inA hl rfl, sgq_923 ?_⟩
    · show AU1 (w_ei ws (w_ar ws (n_v (vs ++ [Value.int x]) 5) 92)) (w_ei ws (w_ar ws (n_v (vs ++ [Value.int x]) 5) 91)) (v_iv (n_v (vs ++ [Value.int x]) 6)) (v_iv (n_v (vs ++ [Value.int x]) 7)) (v_iv (n_v (vs ++ [Value.int x]) 10))
      simp only [e_5, e_6, e_7, e_10, q5, q6, q7]
      exact vc_Mo_augment_12_9 (v_iv (n_v vs 1)) (v_iv (n_v vs 2)) (v_iv (n_v vs 10)) (w_ei ws (w_ar ws (n_v vs 0) 91)) (w_ei ws (w_ar ws (n_v vs 0) 92)) k1 k2 k10 f9
  have nf10 : fc_1 PRD (23, [9, 14], [-78, -1, -1]) ws (vs ++ [Value.int x]) := by
    refine ⟨nf_inA hl rfl, sgq_924 ?_⟩
    · show (-1) * v_iv (n_v (vs ++ [Value.int x]) 9) + ((-1) * v_iv (n_v (vs ++ [Value.int x]) 14) + 0) ≤ (-78)
      simp only [e_9, e_14]
      exact vc_Mo_augment_12_10 (v_iv (n_v vs 9)) (v_iv (n_v vs 13)) (v_iv (Value.int x)) k9 k13 f11 ex2
  have nf11 : fc_1 PRD (20, [5, 6, 9], [60, 0, 3, 402, 90, 92, 91]) ws (vs ++ [Value.int x]) := by
    refine ⟨nf_inA hl rfl, sgq_925 ?_⟩
    · show BF1 (w_ei ws (w_ar ws (n_v (vs ++ [Value.int x]) 5) 90)) (w_ei ws (w_ar ws (n_v (vs ++ [Value.int x]) 5) 92)) (w_ei ws (w_ar ws (n_v (vs ++ [Value.int x]) 5) 91)) (v_iv (n_v (vs ++ [Value.int x]) 6)) (v_iv (n_v (vs ++ [Value.int x]) 9))
      simp only [e_5, e_6, e_9, q5, q6]
      exact vc_Mo_augment_12_11 (v_iv (n_v vs 1)) (v_iv (n_v vs 9)) (w_ei ws (w_ar ws (n_v vs 0) 90)) (w_ei ws (w_ar ws (n_v vs 0) 91)) (w_ei ws (w_ar ws (n_v vs 0) 92)) k1 k9 f10
  have nf12 : fc_1 PRD (24, [0, 5], []) ws (vs ++ [Value.int x]) := by
    refine ⟨nf_inA hl rfl, sgq_5 ?_⟩
    · show n_v (vs ++ [Value.int x]) 0 = n_v (vs ++ [Value.int x]) 5
      first | rfl | simp only [e_0, e_5, q5, q6, q7, q8]
  have nf13 : fc_1 PRD (24, [1, 6], []) ws (vs ++ [Value.int x]) := by
    refine ⟨nf_inA hl rfl, sgq_5 ?_⟩
    · show n_v (vs ++ [Value.int x]) 1 = n_v (vs ++ [Value.int x]) 6
      first | rfl | simp only [e_1, e_6, q5, q6, q7, q8]
  have nf14 : fc_1 PRD (24, [2, 7], []) ws (vs ++ [Value.int x]) := by
    refine ⟨nf_inA hl rfl, sgq_5 ?_⟩
    · show n_v (vs ++ [Value.int x]) 2 = n_v (vs ++ [Value.int x]) 7
      first | rfl | simp only [e_2, e_7, q5, q6, q7, q8]
  have nf15 : fc_1 PRD (24, [3, 8], []) ws (vs ++ [Value.int x]) := by
    refine ⟨nf_inA hl rfl, sgq_5 ?_⟩
    · show n_v (vs ++ [Value.int x]) 3 = n_v (vs ++ [Value.int x]) 8
      first | rfl | simp only [e_3, e_8, q5, q6, q7, q8]
  obtain ⟨x0, e0, _, _⟩ := tv_int t13 rfl
  have e1 : v_iv (n_v vs 13) = x0.toInt := by rw [e0]; rfl
  have ho : sy_ofs (vs ++ [Value.int x]) (14, 13, -1000000000000, -1) := by
    refine ⟨x, x0, by rw [List.getElem?_append_right (by rw [hl]; decide), hl]; rfl, ?_, ?_, ?_⟩
    · rw [List.getElem?_append_left (by rw [hl]; decide)]; exact n_v_some (by rw [hl]; decide) e0
    · show x0.toInt + (-1000000000000) ≤ x.toInt; omega
    · show x.toInt ≤ x0.toInt + (-1); omega
  exact ⟨(fun _ h => (by cases h)), [Value.int x], ag_one hx, List.forall_mem_cons.mpr ⟨⟨show (20 : Nat) < 100 from by decide, nf0⟩, List.forall_mem_cons.mpr ⟨⟨show (20 : Nat) < 100 from by decide, nf1⟩, List.forall_mem_cons.mpr ⟨⟨show (20 : Nat) < 100 from by decide, nf2⟩, List.forall_mem_cons.mpr ⟨⟨show (20 : Nat) < 100 from by decide, nf3⟩, List.forall_mem_cons.mpr ⟨⟨show (20 : Nat) < 100 from by decide, nf4⟩, List.forall_mem_cons.mpr ⟨⟨show (20 : Nat) < 100 from by decide, nf5⟩, List.forall_mem_cons.mpr ⟨⟨show (20 : Nat) < 100 from by decide, nf6⟩, List.forall_mem_cons.mpr ⟨⟨show (20 : Nat) < 100 from by decide, nf7⟩, List.forall_mem_cons.mpr ⟨⟨show (20 : Nat) < 100 from by decide, nf8⟩, List.forall_mem_cons.mpr ⟨⟨show (20 : Nat) < 100 from by decide, nf9⟩, List.forall_mem_cons.mpr ⟨⟨show (23 : Nat) < 100 from by decide, nf10⟩, List.forall_mem_cons.mpr ⟨⟨show (20 : Nat) < 100 from by decide, nf11⟩, List.forall_mem_cons.mpr ⟨⟨show (24 : Nat) < 100 from by decide, nf12⟩, List.forall_mem_cons.mpr ⟨⟨show (24 : Nat) < 100 from by decide, nf13⟩, List.forall_mem_cons.mpr ⟨⟨show (24 : Nat) < 100 from by decide, nf14⟩, List.forall_mem_cons.mpr ⟨⟨show (24 : Nat) < 100 from by decide, nf15⟩, (fun _ h => (by cases h))⟩⟩⟩⟩⟩⟩⟩⟩⟩⟩⟩⟩⟩⟩⟩⟩, List.forall_mem_cons.mpr ⟨ho, (fun _ h => (by cases h))⟩⟩
set_option maxHeartbeats 4000000 in
theorem vc_Mo_augment_13_0 (x1 : Int) (x2 : Int) (k1 : 2 ≤ x1 ∧ x1 ≤ 78) (k2 : 0 ≤ x2 ∧ x2 ≤ 76) (f1 : (x2 + 1) ≤ x1) : (x2 + 1) ≤ x1 := by
  first
    | omega
    | (have h := au1_len ‹AU1 _ _ _ _ _›; omega)
set_option maxHeartbeats 4000000 in
theorem vc_Mo_augment_13_1 (x1 : Int) (x3 : Int) (k1 : 2 ≤ x1 ∧ x1 ≤ 78) (k3 : 1 ≤ x3 ∧ x3 ≤ 77) (f2 : (x3 + 1) ≤ x1) : (x3 + 1) ≤ x1 := by
  first
    | omega
    | (have h := au1_len ‹AU1 _ _ _ _ _›; omega)
set_option maxHeartbeats 4000000 in
theorem vc_Mo_augment_13_2 (x1 : Int) (k1 : 2 ≤ x1 ∧ x1 ≤ 78) (f3 : x1 ≤ 78) : x1 ≤ 78 := by
  first
    | omega
    | (have h := au1_len ‹AU1 _ _ _ _ _›; omega)
set_option maxHeartbeats 4000000 in
theorem vc_Mo_augment_13_3 (x1 : Int) (pointMany_0 : Int) (k1 : 2 ≤ x1 ∧ x1 ≤ 78) (f4 : x1 = (pointMany_0 + 2)) (kz_0_79 : 0 ≤ pointMany_0 ∧ pointMany_0 ≤ 76) : x1 = (pointMany_0 + 2) := by
  first
    | omega
    | (have h := au1_len ‹AU1 _ _ _ _ _›; omega)
set_option maxHeartbeats 4000000 in
theorem vc_Mo_augment_13_4 (x2 : Int) (pointMany_0 : Int) (k2 : 0 ≤ x2 ∧ x2 ≤ 76) (f5 : x2 = pointMany_0) (kz_0_79 : 0 ≤ pointMany_0 ∧ pointMany_0 ≤ 76) : x2 = pointMany_0 := by
  first
    | omega
    | (have h := au1_len ‹AU1 _ _ _ _ _›; omega)
set_option maxHeartbeats 4000000 in
theorem vc_Mo_augment_13_5 (x3 : Int) (pointMany_0 : Int) (k3 : 1 ≤ x3 ∧ x3 ≤ 77) (f6 : x3 = (pointMany_0 + 1)) (kz_0_79 : 0 ≤ pointMany_0 ∧ pointMany_0 ≤ 76) : x3 = (pointMany_0 + 1) := by
  first
    | omega
    | (have h := au1_len ‹AU1 _ _ _ _ _›; omega)
set_option maxHeartbeats 4000000 in
theorem vc_Mo_augment_13_6 (x1 : Int) (x2 : Int) (x3 : Int) (x4 : Int) (x11 : Int) (x12 : Int) (pointMany_0 : Int) (flow_0 : Int → Int) (spot_0 : Int → Int) (costA_0 : Int → Int) (costB_0 : Int → Int) (costW_0 : Int → Int) (costPlain_0 : Int → Int) (apartA_0 : Int → Int) (apartB_0 : Int → Int) (apart_0 : Int → Int) (costMany_0 : Int) (apartMany_0 : Int) (cameBy_0 : Int → Int) (k1 : 2 ≤ x1 ∧ x1 ≤ 78) (k2 : 0 ≤ x2 ∧ x2 ≤ 76) (k3 : 1 ≤ x3 ∧ x3 ≤ 77) (k4 : (-2) ≤ x4 ∧ x4 ≤ 180000001) (k11 : 0 ≤ x11 ∧ x11 ≤ 1000000) (k12 : 0 ≤ x12 ∧ x12 ≤ 76) (f0 : x12 = x2) (f4 : x1 = (pointMany_0 + 2)) (f5 : x2 = pointMany_0) (f6 : x3 = (pointMany_0 + 1)) (f7 : FLO (pointMany_0) (costMany_0) (apartMany_0) (flow_0) (spot_0) (costA_0) (costB_0) (costW_0) (costPlain_0) (apartA_0) (apartB_0) (apart_0)) (f8 : XLE (pointMany_0) (flow_0) (x4)) (f10 : MN1 (flow_0) (cameBy_0) (x1) (x2) (x3) (x12) (x11)) (kz_0_79 : 0 ≤ pointMany_0 ∧ pointMany_0 ≤ 76) (kz_0_80 : 0 ≤ costMany_0 ∧ costMany_0 ≤ 200) (kz_0_81 : 0 ≤ apartMany_0 ∧ apartMany_0 ≤ 200) : PSH (pointMany_0) (costMany_0) (apartMany_0) (flow_0) (cameBy_0) (spot_0) (costA_0) (costB_0) (costW_0) (costPlain_0) (apartA_0) (apartB_0) (apart_0) (x11) (x3) (x4) := by
  first
    | assumption
    | exact psh_start ‹FLO _ _ _ _ _ _ _ _ _ _ _ _› ‹MN1 _ _ _ _ _ _ _› (by omega) ‹XLE _ _ _› (by omega) (by omega) (by omega) (by omega)
set_option maxHeartbeats 4000000 in
theorem vc_Mo_augment_13_7 (x1 : Int) (x2 : Int) (x3 : Int) (x10 : Int) (x13 : Int) (cameBy_0 : Int → Int) (queue_0 : Int → Int) (gx : Int) (k1 : 2 ≤ x1 ∧ x1 ≤ 78) (k2 : 0 ≤ x2 ∧ x2 ≤ 76) (k3 : 1 ≤ x3 ∧ x3 ≤ 77) (k10 : 1 ≤ x10 ∧ x10 ≤ 79) (f12 : AU2 (queue_0) (cameBy_0) (x1) (x2) (x10) (x3)) (ex2 : gx = 80) : AUW (queue_0) (cameBy_0) (x1) (x2) (x10) (x3) (gx) := by
  first
    | exact auw_of ‹AU2 _ _ _ _ _ _› (by omega)
    | (rw [show gx = x13 - 1 by omega]; exact ‹AUX _ _ _ _ _ _ _›)
def o_Mo_augment_13 : or_T := (193, 14, [(0, (2, 0, 0, [165])), (1, (0, 2, 78, [])), (2, (0, 0, 76, [])), (3, (0, 1, 77, [])), (4, (0, -2, 180000001, [])), (5, (2, 0, 0, [165])), (6, (0, 2, 79, [])), (7, (0, 0, 76, [])), (8, (0, 1, 77, [])), (10, (0, 1, 79, [])), (11, (0, 0, 1000000, [])), (12, (0, 0, 76, [])), (13, (0, -2, 80, []))], [(7, [12, 7], [0]), (20, [7, 6], [50, 0, 0, 0, 6, 4, 2, 1, 0, 0, 1, 1, 1]), (20, [8, 6], [50, 0, 0, 0, 6, 4, 2, 1, 0, 0, 1, 1, 1]), (20, [6], [50, 0, 0, 0, 2, 1, 0, 0, 78]), (20, [6, 5], [50, 1, 0, 1079, 1, 2, 1, 0, 4, 3, 2, 1, 79, 0, 2]), (20, [7, 5], [50, 1, 0, 1079, 1, 2, 1, 0, 2, 1, 79]), (20, [8, 5], [50, 1, 0, 1079, 1, 2, 1, 0, 4, 3, 2, 1, 79, 0, 1]), (20, [5], [60, 3, 9, 397, 79, 80, 81, 90, 82, 83, 84, 85, 86, 87, 88, 89]), (20, [5, 4], [60, 1, 1, 398, 79, 90]), (20, [5, 6, 7], [60, 0, 2, 401, 90, 91]), (20, [5, 6, 7, 8, 12, 11], [60, 0, 2, 407, 90, 91]), (20, [5, 6, 7, 10, 12, 13], [60, 0, 2, 394, 92, 91]), (20, [5, 6, 7, 10, 8], [60, 0, 2, 393, 92, 91]), (24, [0, 5], []), (24, [1, 6], []), (24, [2, 7], []), (24, [3, 8], [])], [], [(0, -2, 80, [])], [(20, [7, 6], [50, 0, 0, 0, 6, 4, 2, 1, 0, 0, 1, 1, 1]), (20, [8, 6], [50, 0, 0, 0, 6, 4, 2, 1, 0, 0, 1, 1, 1]), (20, [6], [50, 0, 0, 0, 2, 1, 0, 0, 78]), (20, [6, 5], [50, 1, 0, 1079, 1, 2, 1, 0, 4, 3, 2, 1, 79, 0, 2]), (20, [7, 5], [50, 1, 0, 1079, 1, 2, 1, 0, 2, 1, 79]), (20, [8, 5], [50, 1, 0, 1079, 1, 2, 1, 0, 4, 3, 2, 1, 79, 0, 1]), (20, [5, 11, 8, 4], [60, 3, 10, 408, 79, 80, 81, 90, 91, 82, 83, 84, 85, 86, 87, 88, 89]), (20, [5, 6, 7, 10, 8, 14], [60, 0, 2, 394, 92, 91]), (24, [0, 5], []), (24, [1, 6], []), (24, [2, 7], []), (24, [3, 8], [])], [], [(12, 7, 0, 0), (1, 6, -4294967296, 0), (2, 7, -4294967296, 0), (3, 8, -4294967296, 0), (6, 1, -4294967296, 0), (7, 2, -4294967296, 0), (8, 3, -4294967296, 0)])
theorem oo_Mo_augment_13 {kA : Nat → ClassId} : or_ok PRD kA GG o_Mo_augment_13 := by
  refine or_mk fun A ta ws vs hD hth hl => ?_
  intro t0 r0 t1 k1 t2 k2 t3 k3 t4 k4 t5 r5 t6 k6 t7 k7 t8 k8 t10 k10 t11 k11 t12 k12 t13 k13 d0 d1 d2 d3 d4 d5 d6 f0 f1 f2 f3 f4 f5 f6 f7 f8 f9 f10 f11 f12 f13 f14 f15 f16
  replace f0 := shm_37 f0
  replace f1 := shm_409 f1
  replace f2 := shm_409 f2
  replace f3 := shm_913 f3
  replace f4 := shm_914 f4
  replace f5 := shm_915 f5
  replace f6 := shm_916 f6
  replace f7 := shm_917 f7
  replace f8 := shm_918 f8
  replace f10 := shm_935 f10
  replace f12 := shm_928 f12
  replace f13 := shm_5 f13
  replace f14 := shm_5 f14
  replace f15 := shm_5 f15
  replace f16 := shm_5 f16
  have q5 : n_v vs 5 = n_v vs 0 := f13.symm
  have q6 : n_v vs 6 = n_v vs 1 := f14.symm
  have q7 : n_v vs 7 = n_v vs 2 := f15.symm
  have q8 : n_v vs 8 = n_v vs 3 := f16.symm
  simp only [q7, q6, q8, q5] at f0 f1 f2 f3 f4 f5 f6 f7 f8 f10 f12
  have kz_0_79 := fdq_146 hD hth r0
  have kz_0_80 := fdq_130 hD hth r0
  have kz_0_81 := fdq_123 hD hth r0
  obtain ⟨x, ex, hx⟩ := iv_ex (ta := ta) (lo := (-2)) (hi := 80) (z := 80) (by omega) (by omega) (by omega) (by omega)
  have ex2 : v_iv (Value.int x) = 80 := ex
  have ex3 : (-2) ≤ v_iv (Value.int x) ∧ v_iv (Value.int x) ≤ 80 := tv_rng hx
  have e_0 : n_v (vs ++ [Value.int x]) 0 = n_v vs 0 := n_v_old (by rw [hl]; decide)
  have e_1 : n_v (vs ++ [Value.int x]) 1 = n_v vs 1 := n_v_old (by rw [hl]; decide)
  have e_2 : n_v (vs ++ [Value.int x]) 2 = n_v vs 2 := n_v_old (by rw [hl]; decide)
  have e_3 : n_v (vs ++ [Value.int x]) 3 = n_v vs 3 := n_v_old (by rw [hl]; decide)
  have e_4 : n_v (vs ++ [Value.int x]) 4 = n_v vs 4 := n_v_old (by rw [hl]; decide)
  have e_5 : n_v (vs ++ [Value.int x]) 5 = n_v vs 5 := n_v_old (by rw [hl]; decide)
  have e_6 : n_v (vs ++ [Value.int x]) 6 = n_v vs 6 := n_v_old (by rw [hl]; decide)
  have e_7 : n_v (vs ++ [Value.int x]) 7 = n_v vs 7 := n_v_old (by rw [hl]; decide)
  have e_8 : n_v (vs ++ [Value.int x]) 8 = n_v vs 8 := n_v_old (by rw [hl]; decide)
  have e_10 : n_v (vs ++ [Value.int x]) 10 = n_v vs 10 := n_v_old (by rw [hl]; decide)
  have e_11 : n_v (vs ++ [Value.int x]) 11 = n_v vs 11 := n_v_old (by rw [hl]; decide)
  have e_14 : n_v (vs ++ [Value.int x]) 14 = Value.int x := n_v_new hl
  have nf0 : fc_1 PRD (20, [7, 6], [50, 0, 0, 0, 6, 4, 2, 1, 0, 0, 1, 1, 1]) ws (vs ++ [Value.int x]) := by
    refine ⟨nf_inA hl rfl, sgq_409 ?_⟩
    · show (v_iv (n_v (vs ++ [Value.int x]) 7) + 1) ≤ v_iv (n_v (vs ++ [Value.int x]) 6)
      simp only [e_6, e_7, q6, q7]
      exact vc_Mo_augment_13_0 (v_iv (n_v vs 1)) (v_iv (n_v vs 2)) k1 k2 f1
  have nf1 : fc_1 PRD (20, [8, 6], [50, 0, 0, 0, 6, 4, 2, 1, 0, 0, 1, 1, 1]) ws (vs ++ [Value.int x]) := by
    refine ⟨nf_inA hl rfl, sgq_409 ?_⟩
    · show (v_iv (n_v (vs ++ [Value.int x]) 8) + 1) ≤ v_iv (n_v (vs ++ [Value.int x]) 6)
      simp only [e_6, e_8, q6, q8]
      exact vc_Mo_augment_13_1 (v_iv (n_v vs 1)) (v_iv (n_v vs 3)) k1 k3 f2
  have nf2 : fc_1 PRD (20, [6], [50, 0, 0, 0, 2, 1, 0, 0, 78]) ws (vs ++ [Value.int x]) := by
    refine ⟨nf_inA hl rfl, sgq_913 ?_⟩
    · show v_iv (n_v (vs ++ [Value.int x]) 6) ≤ 78
      simp only [e_6, q6]
      exact vc_Mo_augment_13_2 (v_iv (n_v vs 1)) k1 f3
  have nf3 : fc_1 PRD (20, [6, 5], [50, 1, 0, 1079, 1, 2, 1, 0, 4, 3, 2, 1, 79, 0, 2]) ws (vs ++ [Value.int x]) := by
    refine ⟨nf_inA hl rfl, sgq_914 ?_⟩
    · show v_iv (n_v (vs ++ [Value.int x]) 6) = (w_fi ws (n_v (vs ++ [Value.int x]) 5) 79 + 2)
      simp only [e_5, e_6, q5, q6]
      exact vc_Mo_augment_13_3 (v_iv (n_v vs 1)) (w_fi ws (n_v vs 0) 79) k1 f4 kz_0_79
  have nf4 : fc_1 PRD (20, [7, 5], [50, 1, 0, 1079, 1, 2, 1, 0, 2, 1, 79]) ws (vs ++ [Value.int x]) := by
    refine ⟨nf_inA hl rfl, sgq_915 ?_⟩
    · show v_iv (n_v (vs ++ [Value.int x]) 7) = w_fi ws (n_v (vs ++ [Value.int x]) 5) 79
      simp only [e_5, e_7, q5, q7]
      exact vc_Mo_augment_13_4 (v_iv (n_v vs 2)) (w_fi ws (n_v vs 0) 79) k2 f5 kz_0_79
  have nf5 : fc_1 PRD (20, [8, 5], [50, 1, 0, 1079, 1, 2, 1, 0, 4, 3, 2, 1, 79, 0, 1]) ws (vs ++ [Value.int x]) := by
    refine ⟨nf_inA hl rfl, sgq_916 ?_⟩
    · show v_iv (n_v (vs ++ [Value.int x]) 8) = (w_fi ws (n_v (vs ++ [Value.int x]) 5) 79 + 1)
      simp only [e_5, e_8, q5, q8]
      exact vc_Mo_augment_13_5 (v_iv (n_v vs 3)) (w_fi ws (n_v vs 0) 79) k3 f6 kz_0_79
  have nf6 : fc_1 PRD (20, [5, 11, 8, 4], [60, 3, 10, 408, 79, 80, 81, 90, 91, 82, 83, 84, 85, 86, 87, 88, 89]) ws (vs ++ [Value.int x]) := by
    refine ⟨nf_inA hl rfl, sgq_936 ?_⟩
    · show PSH (w_fi ws (n_v (vs ++ [Value.int x]) 5) 79) (w_fi ws (n_v (vs ++ [Value.int x]) 5) 80) (w_fi ws (n_v (vs ++ [Value.int x]) 5) 81) (w_ei ws (w_ar ws (n_v (vs ++ [Value.int x]) 5) 90)) (w_ei ws (w_ar ws (n_v (vs ++ [Value.int x]) 5) 91)) (w_ei ws (w_ar ws (n_v (vs ++ [Value.int x]) 5) 82)) (w_ei ws (w_ar ws (n_v (vs ++ [Value.int x]) 5) 83)) (w_ei ws (w_ar ws (n_v (vs ++ [Value.int x]) 5) 84)) (w_ei ws (w_ar ws (n_v (vs ++ [Value.int x]) 5) 85)) (w_ei ws (w_ar ws (n_v (vs ++ [Value.int x]) 5) 86)) (w_ei ws (w_ar ws (n_v (vs ++ [Value.int x]) 5) 87)) (w_ei ws (w_ar ws (n_v (vs ++ [Value.int x]) 5) 88)) (w_ei ws (w_ar ws (n_v (vs ++ [Value.int x]) 5) 89)) (v_iv (n_v (vs ++ [Value.int x]) 11)) (v_iv (n_v (vs ++ [Value.int x]) 8)) (v_iv (n_v (vs ++ [Value.int x]) 4))
      simp only [e_4, e_5, e_8, e_11, q5, q8]
      exact vc_Mo_augment_13_6 (v_iv (n_v vs 1)) (v_iv (n_v vs 2)) (v_iv (n_v vs 3)) (v_iv (n_v vs 4)) (v_iv (n_v vs 11)) (v_iv (n_v vs 12)) (w_fi ws (n_v vs 0) 79) (w_ei ws (w_ar ws (n_v vs 0) 90)) (w_ei ws (w_ar ws (n_v vs 0) 82)) (w_ei ws (w_ar ws (n_v vs 0) 83)) (w_ei ws (w_ar ws (n_v vs 0) 84)) (w_ei ws (w_ar ws (n_v vs 0) 85)) (w_ei ws (w_ar ws (n_v vs 0) 86)) (w_ei ws (w_ar ws (n_v vs 0) 87)) (w_ei ws (w_ar ws (n_v vs 0) 88)) (w_ei ws (w_ar ws (n_v vs 0) 89)) (w_fi ws (n_v vs 0) 80) (w_fi ws (n_v vs 0) 81) (w_ei ws (w_ar ws (n_v vs 0) 91)) k1 k2 k3 k4 k11 k12 f0 f4 f5 f6 f7 f8 f10 kz_0_79 kz_0_80 kz_0_81
  have nf7 : fc_1 PRD (20, [5, 6, 7, 10, 8, 14], [60, 0, 2, 394, 92, 91]) ws (vs ++ [Value.int x]) := by
    refine ⟨nf_inA hl rfl, sgq_927 ?_⟩
    · show AUW (w_ei ws (w_ar ws (n_v (vs ++ [Value.int x]) 5) 92)) (w_ei ws (w_ar ws (n_v (vs ++ [Value.int x]) 5) 91)) (v_iv (n_v (vs ++ [Value.int x]) 6)) (v_iv (n_v (vs ++ [Value.int x]) 7)) (v_iv (n_v (vs ++ [Value.int x]) 10)) (v_iv (n_v (vs ++ [Value.int x]) 8)) (v_iv (n_v (vs ++ [Value.int x]) 14))
      simp only [e_5, e_6, e_7, e_8, e_10, e_14, q5, q6, q7, q8]
      exact vc_Mo_augment_13_7 (v_iv (n_v vs 1)) (v_iv (n_v vs 2)) (v_iv (n_v vs 3)) (v_iv (n_v vs 10)) (v_iv (n_v vs 13)) (w_ei ws (w_ar ws (n_v vs 0) 91)) (w_ei ws (w_ar ws (n_v vs 0) 92)) (v_iv (Value.int x)) k1 k2 k3 k10 f12 ex2
  have nf8 : fc_1 PRD (24, [0, 5], []) ws (vs ++ [Value.int x]) := by
    refine ⟨nf_inA hl rfl, sgq_5 ?_⟩
    · show n_v (vs ++ [Value.int x]) 0 = n_v (vs ++ [Value.int x]) 5
      first | rfl | simp only [e_0, e_5, q5, q6, q7, q8]
  have nf9 : fc_1 PRD (24, [1, 6], []) ws (vs ++ [Value.int x]) := by
    refine ⟨nf_inA hl rfl, sgq_5 ?_⟩
    · show n_v (vs ++ [Value.int x]) 1 = n_v (vs ++ [Value.int x]) 6
      first | rfl | simp only [e_1, e_6, q5, q6, q7, q8]
  have nf10 : fc_1 PRD (24, [2, 7], []) ws (vs ++ [Value.int x]) := by
    refine ⟨nf_inA hl rfl, sgq_5 ?_⟩
    · show n_v (vs ++ [Value.int x]) 2 = n_v (vs ++ [Value.int x]) 7
      first | rfl | simp only [e_2, e_7, q5, q6, q7, q8]
  have nf11 : fc_1 PRD (24, [3, 8], []) ws (vs ++ [Value.int x]) := by
    refine ⟨nf_inA hl rfl, sgq_5 ?_⟩
    · show n_v (vs ++ [Value.int x]) 3 = n_v (vs ++ [Value.int x]) 8
      first | rfl | simp only [e_3, e_8, q5, q6, q7, q8]
  exact ⟨(fun _ h => (by cases h)), [Value.int x], ag_one hx, List.forall_mem_cons.mpr ⟨⟨show (20 : Nat) < 100 from by decide, nf0⟩, List.forall_mem_cons.mpr ⟨⟨show (20 : Nat) < 100 from by decide, nf1⟩, List.forall_mem_cons.mpr ⟨⟨show (20 : Nat) < 100 from by decide, nf2⟩, List.forall_mem_cons.mpr ⟨⟨show (20 : Nat) < 100 from by decide, nf3⟩, List.forall_mem_cons.mpr ⟨⟨show (20 : Nat) < 100 from by decide, nf4⟩, List.forall_mem_cons.mpr ⟨⟨show (20 : Nat) < 100 from by decide, nf5⟩, List.forall_mem_cons.mpr ⟨⟨show (20 : Nat) < 100 from by decide, nf6⟩, List.forall_mem_cons.mpr ⟨⟨show (20 : Nat) < 100 from by decide, nf7⟩, List.forall_mem_cons.mpr ⟨⟨show (24 : Nat) < 100 from by decide, nf8⟩, List.forall_mem_cons.mpr ⟨⟨show (24 : Nat) < 100 from by decide, nf9⟩, List.forall_mem_cons.mpr ⟨⟨show (24 : Nat) < 100 from by decide, nf10⟩, List.forall_mem_cons.mpr ⟨⟨show (24 : Nat) < 100 from by decide, nf11⟩, (fun _ h => (by cases h))⟩⟩⟩⟩⟩⟩⟩⟩⟩⟩⟩⟩, (fun _ h => (by cases h))⟩
set_option maxHeartbeats 4000000 in
theorem vc_Mo_augment_14_r0 (x1 : Int) (x2 : Int) (x10 : Int) (x12 : Int) (x13 : Int) (x16 : Int) (cameBy_0 : Int → Int) (queue_0 : Int → Int) (k1 : 2 ≤ x1 ∧ x1 ≤ 78) (k2 : 0 ≤ x2 ∧ x2 ≤ 76) (k10 : 1 ≤ x10 ∧ x10 ≤ 79) (k12 : 0 ≤ x12 ∧ x12 ≤ 77) (k13 : (-2) ≤ x13 ∧ x13 ≤ 80) (k16 : (-1) ≤ x16 ∧ x16 ≤ 77) (h0 : x16 = cameBy_0 (x12)) (f3 : x12 ≠ x2) (f14 : AUW (queue_0) (cameBy_0) (x1) (x2) (x10) (x12) (x13)) : 0 ≤ x16 ∧ x16 ≤ 77 := by
  have h := auw_step (g_zq := 80) ‹AUW _ _ _ _ _ _ _› (by omega) (by assumption) (by omega)
  omega
def o_Mo_augment_14 : or_T := (168, 17, [(0, (2, 0, 0, [165])), (1, (0, 2, 78, [])), (2, (0, 0, 76, [])), (3, (0, 1, 77, [])), (4, (0, -2, 180000001, [])), (5, (2, 0, 0, [165])), (6, (0, 2, 79, [])), (7, (0, 0, 76, [])), (8, (0, 1, 77, [])), (10, (0, 1, 79, [])), (11, (0, 0, 1000000, [])), (12, (0, 0, 77, [])), (13, (0, -2, 80, [])), (14, (2, 0, 0, [227])), (15, (2, 0, 0, [228])), (16, (0, -1, 77, []))], [(10, [16, 15, 12], []), (9, [15, 5], [91]), (9, [14, 5], [90]), (7, [12, 7], [1]), (20, [7, 6], [50, 0, 0, 0, 6, 4, 2, 1, 0, 0, 1, 1, 1]), (20, [8, 6], [50, 0, 0, 0, 6, 4, 2, 1, 0, 0, 1, 1, 1]), (20, [6], [50, 0, 0, 0, 2, 1, 0, 0, 78]), (20, [6, 5], [50, 1, 0, 1079, 1, 2, 1, 0, 4, 3, 2, 1, 79, 0, 2]), (20, [7, 5], [50, 1, 0, 1079, 1, 2, 1, 0, 2, 1, 79]), (20, [8, 5], [50, 1, 0, 1079, 1, 2, 1, 0, 4, 3, 2, 1, 79, 0, 1]), (20, [5], [60, 3, 9, 397, 79, 80, 81, 90, 82, 83, 84, 85, 86, 87, 88, 89]), (20, [5, 4], [60, 1, 1, 398, 79, 90]), (20, [5, 6, 7], [60, 0, 2, 401, 90, 91]), (20, [5, 6, 7, 8, 12, 11], [60, 0, 2, 407, 90, 91]), (20, [5, 6, 7, 10, 12, 13], [60, 0, 2, 394, 92, 91]), (20, [5, 6, 7, 10, 8], [60, 0, 2, 393, 92, 91]), (24, [0, 5], []), (24, [1, 6], []), (24, [2, 7], []), (24, [3, 8], [])], [(16, (0, 0, 77, []))], [], [], [], [(1, 6, -4294967296, 0), (2, 7, -4294967296, 0), (3, 8, -4294967296, 0), (6, 1, -4294967296, 0), (7, 2, -4294967296, 0), (8, 3, -4294967296, 0)])
theorem oo_Mo_augment_14 {kA : Nat → ClassId} : or_ok PRD kA GG o_Mo_augment_14 := by
  refine or_mk fun A ta ws vs hD hth hl => ?_
  intro t0 r0 t1 k1 t2 k2 t3 k3 t4 k4 t5 r5 t6 k6 t7 k7 t8 k8 t10 k10 t11 k11 t12 k12 t13 k13 t14 r14 t15 r15 t16 k16 d0 d1 d2 d3 d4 d5 f0 f1 f2 f3 f4 f5 f6 f7 f8 f9 f10 f11 f12 f13 f14 f15 f16 f17 f18 f19
  replace f0 := shm_106 f0
  replace f1 := shm_921 f1
  replace f3 := shm_40 f3
  replace f14 := shm_927 f14
  replace f16 := shm_5 f16
  replace f17 := shm_5 f17
  replace f18 := shm_5 f18
  have q5 : n_v vs 5 = n_v vs 0 := f16.symm
  have q6 : n_v vs 6 = n_v vs 1 := f17.symm
  have q7 : n_v vs 7 = n_v vs 2 := f18.symm
  simp only [q5, q7, q6] at f1 f3 f14
  have ad_15 : v_ad (n_v vs 15) = w_ar ws (n_v vs 0) 91 := congrArg v_ad f1
  simp only [ad_15] at f0
  have h0 : v_iv (n_v vs 16) = w_ei ws (w_ar ws (n_v vs 0) 91) (v_iv (n_v vs 12)) := f0
  have hrf0 : 0 ≤ v_iv (n_v vs 16) ∧ v_iv (n_v vs 16) ≤ 77 := vc_Mo_augment_14_r0 (v_iv (n_v vs 1)) (v_iv (n_v vs 2)) (v_iv (n_v vs 10)) (v_iv (n_v vs 12)) (v_iv (n_v vs 13)) (v_iv (n_v vs 16)) (w_ei ws (w_ar ws (n_v vs 0) 91)) (w_ei ws (w_ar ws (n_v vs 0) 92)) k1 k2 k10 k12 k13 k16 h0 f3 f14
  have rf16 : tv_ok ta (0, 0, 77, []) (n_v vs 16) := tv_in t16 (by first | omega | grind) (by first | omega | grind)
  refine ⟨List.forall_mem_cons.mpr ⟨rf16, (fun _ h => (by cases h))⟩, [], trivial, ?_, (fun _ h => (by cases h))⟩
  rw [List.append_nil]
  exact (fun _ h => (by cases h))
set_option maxHeartbeats 4000000 in
theorem vc_Mo_augment_15_r0 (x1 : Int) (x2 : Int) (x3 : Int) (x6 : Int) (x8 : Int) (x10 : Int) (x12 : Int) (x13 : Int) (x16 : Int) (x17 : Int) (x18 : Int) (cameBy_0 : Int → Int) (pointMany_0 : Int) (queue_0 : Int → Int) (k1 : 2 ≤ x1 ∧ x1 ≤ 78) (k2 : 0 ≤ x2 ∧ x2 ≤ 76) (k3 : 1 ≤ x3 ∧ x3 ≤ 77) (k6 : 2 ≤ x6 ∧ x6 ≤ 79) (k8 : 1 ≤ x8 ∧ x8 ≤ 77) (k10 : 1 ≤ x10 ∧ x10 ≤ 79) (k12 : 0 ≤ x12 ∧ x12 ≤ 77) (k13 : (-2) ≤ x13 ∧ x13 ≤ 80) (k16 : 0 ≤ x16 ∧ x16 ≤ 77) (k17 : 0 ≤ x17 ∧ x17 ≤ 6083) (k18 : 0 ≤ x18 ∧ x18 ≤ 6160) (d1 : x17 + 0 ≤ x18 ∧ x18 ≤ x17 + 77) (d2 : x6 + (-4294967296) ≤ x1 ∧ x1 ≤ x6 + 0) (d4 : x8 + (-4294967296) ≤ x3 ∧ x3 ≤ x8 + 0) (d5 : x1 + (-4294967296) ≤ x6 ∧ x6 ≤ x1 + 0) (d7 : x3 + (-4294967296) ≤ x8 ∧ x8 ≤ x3 + 0) (f0 : x18 = x17 + x12) (f1 : x17 = x1 * x16) (h2 : x16 = cameBy_0 (x12)) (f8 : x1 ≤ 78) (f9 : x1 = (pointMany_0 + 2)) (f11 : x3 = (pointMany_0 + 1)) (f16 : AUW (queue_0) (cameBy_0) (x1) (x2) (x10) (x12) (x13)) (kz_0_79 : 0 ≤ pointMany_0 ∧ pointMany_0 ≤ 76) : 0 ≤ x18 ∧ x18 ≤ 6083 := by
  have h := auw_bd ‹AUW _ _ _ _ _ _ _›
  refine au_idx (by assumption) (by assumption) ?_ ?_ ?_ ?_ ?_ ?_ <;> omega
def o_Mo_augment_15 : or_T := (172, 19, [(0, (2, 0, 0, [165])), (1, (0, 2, 78, [])), (2, (0, 0, 76, [])), (3, (0, 1, 77, [])), (4, (0, -2, 180000001, [])), (5, (2, 0, 0, [165])), (6, (0, 2, 79, [])), (7, (0, 0, 76, [])), (8, (0, 1, 77, [])), (10, (0, 1, 79, [])), (11, (0, 0, 1000000, [])), (12, (0, 0, 77, [])), (13, (0, -2, 80, [])), (14, (2, 0, 0, [227])), (15, (2, 0, 0, [228])), (16, (0, 0, 77, [])), (17, (0, 0, 6083, [])), (18, (0, 0, 6160, []))], [(1, [18, 17, 12], []), (3, [17, 6, 16], []), (10, [16, 15, 12], []), (9, [15, 5], [91]), (9, [14, 5], [90]), (7, [12, 7], [1]), (20, [7, 6], [50, 0, 0, 0, 6, 4, 2, 1, 0, 0, 1, 1, 1]), (20, [8, 6], [50, 0, 0, 0, 6, 4, 2, 1, 0, 0, 1, 1, 1]), (20, [6], [50, 0, 0, 0, 2, 1, 0, 0, 78]), (20, [6, 5], [50, 1, 0, 1079, 1, 2, 1, 0, 4, 3, 2, 1, 79, 0, 2]), (20, [7, 5], [50, 1, 0, 1079, 1, 2, 1, 0, 2, 1, 79]), (20, [8, 5], [50, 1, 0, 1079, 1, 2, 1, 0, 4, 3, 2, 1, 79, 0, 1]), (20, [5], [60, 3, 9, 397, 79, 80, 81, 90, 82, 83, 84, 85, 86, 87, 88, 89]), (20, [5, 4], [60, 1, 1, 398, 79, 90]), (20, [5, 6, 7], [60, 0, 2, 401, 90, 91]), (20, [5, 6, 7, 8, 12, 11], [60, 0, 2, 407, 90, 91]), (20, [5, 6, 7, 10, 12, 13], [60, 0, 2, 394, 92, 91]), (20, [5, 6, 7, 10, 8], [60, 0, 2, 393, 92, 91]), (24, [0, 5], []), (24, [1, 6], []), (24, [2, 7], []), (24, [3, 8], [])], [(18, (0, 0, 6083, []))], [], [], [], [(18, 12, 0, 6083), (18, 17, 0, 77), (1, 6, -4294967296, 0), (2, 7, -4294967296, 0), (3, 8, -4294967296, 0), (6, 1, -4294967296, 0), (7, 2, -4294967296, 0), (8, 3, -4294967296, 0)])
theorem oo_Mo_augment_15 {kA : Nat → ClassId} : or_ok PRD kA GG o_Mo_augment_15 := by
  refine or_mk fun A ta ws vs hD hth hl => ?_
  intro t0 r0 t1 k1 t2 k2 t3 k3 t4 k4 t5 r5 t6 k6 t7 k7 t8 k8 t10 k10 t11 k11 t12 k12 t13 k13 t14 r14 t15 r15 t16 k16 t17 k17 t18 k18 d0 d1 d2 d3 d4 d5 d6 d7 f0 f1 f2 f3 f4 f5 f6 f7 f8 f9 f10 f11 f12 f13 f14 f15 f16 f17 f18 f19 f20 f21
  replace f1 := shm_38 f1
  replace f2 := shm_106 f2
  replace f3 := shm_921 f3
  replace f8 := shm_913 f8
  replace f9 := shm_914 f9
  replace f11 := shm_916 f11
  replace f16 := shm_927 f16
  replace f18 := shm_5 f18
  replace f19 := shm_5 f19
  replace f20 := shm_5 f20
  replace f21 := shm_5 f21
  have q5 : n_v vs 5 = n_v vs 0 := f18.symm
  have q6 : n_v vs 6 = n_v vs 1 := f19.symm
  have q7 : n_v vs 7 = n_v vs 2 := f20.symm
  have q8 : n_v vs 8 = n_v vs 3 := f21.symm
  simp only [q6, q5, q7, q8] at f1 f3 f8 f9 f11 f16
  have ad_15 : v_ad (n_v vs 15) = w_ar ws (n_v vs 0) 91 := congrArg v_ad f3
  simp only [ad_15] at f2
  have h2 : v_iv (n_v vs 16) = w_ei ws (w_ar ws (n_v vs 0) 91) (v_iv (n_v vs 12)) := f2
  have kz_0_79 := fdq_146 hD hth r0
  have hrf0 : 0 ≤ v_iv (n_v vs 18) ∧ v_iv (n_v vs 18) ≤ 6083 := vc_Mo_augment_15_r0 (v_iv (n_v vs 1)) (v_iv (n_v vs 2)) (v_iv (n_v vs 3)) (v_iv (n_v vs 6)) (v_iv (n_v vs 8)) (v_iv (n_v vs 10)) (v_iv (n_v vs 12)) (v_iv (n_v vs 13)) (v_iv (n_v vs 16)) (v_iv (n_v vs 17)) (v_iv (n_v vs 18)) (w_ei ws (w_ar ws (n_v vs 0) 91)) (w_fi ws (n_v vs 0) 79) (w_ei ws (w_ar ws (n_v vs 0) 92)) k1 k2 k3 k6 k8 k10 k12 k13 k16 k17 k18 d1 d2 d4 d5 d7 (shm_12 f0) f1 h2 f8 f9 f11 f16 kz_0_79
  have rf18 : tv_ok ta (0, 0, 6083, []) (n_v vs 18) := tv_in t18 (by first | omega | grind) (by first | omega | grind)
  refine ⟨List.forall_mem_cons.mpr ⟨rf18, (fun _ h => (by cases h))⟩, [], trivial, ?_, (fun _ h => (by cases h))⟩
  rw [List.append_nil]
  exact (fun _ h => (by cases h))
set_option maxHeartbeats 4000000 in
theorem vc_Mo_augment_16_r0 (x1 : Int) (x2 : Int) (x10 : Int) (x12 : Int) (x13 : Int) (x16 : Int) (x20 : Int) (cameBy_0 : Int → Int) (queue_0 : Int → Int) (k1 : 2 ≤ x1 ∧ x1 ≤ 78) (k2 : 0 ≤ x2 ∧ x2 ≤ 76) (k10 : 1 ≤ x10 ∧ x10 ≤ 79) (k12 : 0 ≤ x12 ∧ x12 ≤ 77) (k13 : (-2) ≤ x13 ∧ x13 ≤ 80) (k16 : 0 ≤ x16 ∧ x16 ≤ 77) (k20 : (-1) ≤ x20 ∧ x20 ≤ 77) (h0 : x20 = cameBy_0 (x12)) (h7 : x16 = cameBy_0 (x12)) (f9 : x12 ≠ x2) (f20 : AUW (queue_0) (cameBy_0) (x1) (x2) (x10) (x12) (x13)) : 0 ≤ x20 ∧ x20 ≤ 77 := by
  have h := auw_step (g_zq := 80) ‹AUW _ _ _ _ _ _ _› (by omega) (by assumption) (by omega)
  omega
def o_Mo_augment_16 : or_T := (185, 21, [(0, (2, 0, 0, [165])), (1, (0, 2, 78, [])), (2, (0, 0, 76, [])), (3, (0, 1, 77, [])), (4, (0, -2, 180000001, [])), (5, (2, 0, 0, [165])), (6, (0, 2, 79, [])), (7, (0, 0, 76, [])), (8, (0, 1, 77, [])), (10, (0, 1, 79, [])), (11, (0, 0, 1000000, [])), (12, (0, 0, 77, [])), (13, (0, -2, 80, [])), (14, (2, 0, 0, [227])), (15, (2, 0, 0, [228])), (16, (0, 0, 77, [])), (17, (0, 0, 6083, [])), (18, (0, 0, 6083, [])), (19, (0, 0, 1000000, [])), (20, (0, -1, 77, []))], [(10, [20, 15, 12], []), (9, [15, 5], [91]), (7, [19, 11], [5]), (7, [19, 19], [5]), (10, [19, 14, 18], []), (1, [18, 17, 12], []), (3, [17, 6, 16], []), (10, [16, 15, 12], []), (9, [14, 5], [90]), (7, [12, 7], [1]), (20, [7, 6], [50, 0, 0, 0, 6, 4, 2, 1, 0, 0, 1, 1, 1]), (20, [8, 6], [50, 0, 0, 0, 6, 4, 2, 1, 0, 0, 1, 1, 1]), (20, [6], [50, 0, 0, 0, 2, 1, 0, 0, 78]), (20, [6, 5], [50, 1, 0, 1079, 1, 2, 1, 0, 4, 3, 2, 1, 79, 0, 2]), (20, [7, 5], [50, 1, 0, 1079, 1, 2, 1, 0, 2, 1, 79]), (20, [8, 5], [50, 1, 0, 1079, 1, 2, 1, 0, 4, 3, 2, 1, 79, 0, 1]), (20, [5], [60, 3, 9, 397, 79, 80, 81, 90, 82, 83, 84, 85, 86, 87, 88, 89]), (20, [5, 4], [60, 1, 1, 398, 79, 90]), (20, [5, 6, 7], [60, 0, 2, 401, 90, 91]), (20, [5, 6, 7, 8, 12, 11], [60, 0, 2, 407, 90, 91]), (20, [5, 6, 7, 10, 12, 13], [60, 0, 2, 394, 92, 91]), (20, [5, 6, 7, 10, 8], [60, 0, 2, 393, 92, 91]), (24, [0, 5], []), (24, [1, 6], []), (24, [2, 7], []), (24, [3, 8], [])], [(20, (0, 0, 77, []))], [], [], [], [(11, 19, 0, 4294967296), (18, 12, 0, 6083), (18, 17, 0, 77), (1, 6, -4294967296, 0), (2, 7, -4294967296, 0), (3, 8, -4294967296, 0), (6, 1, -4294967296, 0), (7, 2, -4294967296, 0), (8, 3, -4294967296, 0)])
theorem oo_Mo_augment_16 {kA : Nat → ClassId} : or_ok PRD kA GG o_Mo_augment_16 := by
  refine or_mk fun A ta ws vs hD hth hl => ?_
  intro t0 r0 t1 k1 t2 k2 t3 k3 t4 k4 t5 r5 t6 k6 t7 k7 t8 k8 t10 k10 t11 k11 t12 k12 t13 k13 t14 r14 t15 r15 t16 k16 t17 k17 t18 k18 t19 k19 t20 k20 d0 d1 d2 d3 d4 d5 d6 d7 d8 f0 f1 f2 f3 f4 f5 f6 f7 f8 f9 f10 f11 f12 f13 f14 f15 f16 f17 f18 f19 f20 f21 f22 f23 f24 f25
  replace f0 := shm_106 f0
  replace f1 := shm_921 f1
  replace f7 := shm_106 f7
  replace f9 := shm_40 f9
  replace f20 := shm_927 f20
  replace f22 := shm_5 f22
  replace f23 := shm_5 f23
  replace f24 := shm_5 f24
  have q5 : n_v vs 5 = n_v vs 0 := f22.symm
  have q6 : n_v vs 6 = n_v vs 1 := f23.symm
  have q7 : n_v vs 7 = n_v vs 2 := f24.symm
  simp only [q5, q6, q7] at f1 f9 f20
  have ad_15 : v_ad (n_v vs 15) = w_ar ws (n_v vs 0) 91 := congrArg v_ad f1
  simp only [ad_15] at f0
  have h0 : v_iv (n_v vs 20) = w_ei ws (w_ar ws (n_v vs 0) 91) (v_iv (n_v vs 12)) := f0
  simp only [ad_15] at f7
  have h7 : v_iv (n_v vs 16) = w_ei ws (w_ar ws (n_v vs 0) 91) (v_iv (n_v vs 12)) := f7
  have hrf0 : 0 ≤ v_iv (n_v vs 20) ∧ v_iv (n_v vs 20) ≤ 77 := vc_Mo_augment_16_r0 (v_iv (n_v vs 1)) (v_iv (n_v vs 2)) (v_iv (n_v vs 10)) (v_iv (n_v vs 12)) (v_iv (n_v vs 13)) (v_iv (n_v vs 16)) (v_iv (n_v vs 20)) (w_ei ws (w_ar ws (n_v vs 0) 91)) (w_ei ws (w_ar ws (n_v vs 0) 92)) k1 k2 k10 k12 k13 k16 k20 h0 h7 f9 f20
  have rf20 : tv_ok ta (0, 0, 77, []) (n_v vs 20) := tv_in t20 (by first | omega | grind) (by first | omega | grind)
  refine ⟨List.forall_mem_cons.mpr ⟨rf20, (fun _ h => (by cases h))⟩, [], trivial, ?_, (fun _ h => (by cases h))⟩
  rw [List.append_nil]
  exact (fun _ h => (by cases h))
set_option maxHeartbeats 4000000 in
theorem vc_Mo_augment_17_0 (x1 : Int) (x2 : Int) (k1 : 2 ≤ x1 ∧ x1 ≤ 78) (k2 : 0 ≤ x2 ∧ x2 ≤ 76) (f10 : (x2 + 1) ≤ x1) : (x2 + 1) ≤ x1 := by
  first
    | omega
    | (have h := auw_step (g_zq := 80) ‹AUW _ _ _ _ _ _ _› (by omega) (by assumption) (by omega); omega)
set_option maxHeartbeats 4000000 in
theorem vc_Mo_augment_17_1 (x1 : Int) (x3 : Int) (k1 : 2 ≤ x1 ∧ x1 ≤ 78) (k3 : 1 ≤ x3 ∧ x3 ≤ 77) (f11 : (x3 + 1) ≤ x1) : (x3 + 1) ≤ x1 := by
  first
    | omega
    | (have h := auw_step (g_zq := 80) ‹AUW _ _ _ _ _ _ _› (by omega) (by assumption) (by omega); omega)
set_option maxHeartbeats 4000000 in
theorem vc_Mo_augment_17_2 (x1 : Int) (k1 : 2 ≤ x1 ∧ x1 ≤ 78) (f12 : x1 ≤ 78) : x1 ≤ 78 := by
  first
    | omega
    | (have h := auw_step (g_zq := 80) ‹AUW _ _ _ _ _ _ _› (by omega) (by assumption) (by omega); omega)
set_option maxHeartbeats 4000000 in
theorem vc_Mo_augment_17_3 (x1 : Int) (pointMany_0 : Int) (k1 : 2 ≤ x1 ∧ x1 ≤ 78) (f13 : x1 = (pointMany_0 + 2)) (kz_0_79 : 0 ≤ pointMany_0 ∧ pointMany_0 ≤ 76) : x1 = (pointMany_0 + 2) := by
  first
    | omega
    | (have h := auw_step (g_zq := 80) ‹AUW _ _ _ _ _ _ _› (by omega) (by assumption) (by omega); omega)
set_option maxHeartbeats 4000000 in
theorem vc_Mo_augment_17_4 (x2 : Int) (pointMany_0 : Int) (k2 : 0 ≤ x2 ∧ x2 ≤ 76) (f14 : x2 = pointMany_0) (kz_0_79 : 0 ≤ pointMany_0 ∧ pointMany_0 ≤ 76) : x2 = pointMany_0 := by
  first
    | omega
    | (have h := auw_step (g_zq := 80) ‹AUW _ _ _ _ _ _ _› (by omega) (by assumption) (by omega); omega)
set_option maxHeartbeats 4000000 in
theorem vc_Mo_augment_17_5 (x3 : Int) (pointMany_0 : Int) (k3 : 1 ≤ x3 ∧ x3 ≤ 77) (f15 : x3 = (pointMany_0 + 1)) (kz_0_79 : 0 ≤ pointMany_0 ∧ pointMany_0 ≤ 76) : x3 = (pointMany_0 + 1) := by
  first
    | omega
    | (have h := auw_step (g_zq := 80) ‹AUW _ _ _ _ _ _ _› (by omega) (by assumption) (by omega); omega)
set_option maxHeartbeats 4000000 in
theorem vc_Mo_augment_17_6 (flow_0 : Int → Int) (pointMany_0 : Int) (spot_0 : Int → Int) (costA_0 : Int → Int) (costB_0 : Int → Int) (costW_0 : Int → Int) (costPlain_0 : Int → Int) (apartA_0 : Int → Int) (apartB_0 : Int → Int) (apart_0 : Int → Int) (costMany_0 : Int) (apartMany_0 : Int) (f16 : FLO (pointMany_0) (costMany_0) (apartMany_0) (flow_0) (spot_0) (costA_0) (costB_0) (costW_0) (costPlain_0) (apartA_0) (apartB_0) (apart_0)) (kz_0_79 : 0 ≤ pointMany_0 ∧ pointMany_0 ≤ 76) (kz_0_80 : 0 ≤ costMany_0 ∧ costMany_0 ≤ 200) (kz_0_81 : 0 ≤ apartMany_0 ∧ apartMany_0 ≤ 200) : FLO (pointMany_0) (costMany_0) (apartMany_0) (flow_0) (spot_0) (costA_0) (costB_0) (costW_0) (costPlain_0) (apartA_0) (apartB_0) (apart_0) := by
  first
    | assumption
    | exact (psh_end ‹PSH _ _ _ _ _ _ _ _ _ _ _ _ _ _ _ _› (by omega)).1
set_option maxHeartbeats 4000000 in
theorem vc_Mo_augment_17_7 (x4 : Int) (flow_0 : Int → Int) (pointMany_0 : Int) (k4 : (-2) ≤ x4 ∧ x4 ≤ 180000001) (f17 : XLE (pointMany_0) (flow_0) (x4)) (kz_0_79 : 0 ≤ pointMany_0 ∧ pointMany_0 ≤ 76) : XLE (pointMany_0) (flow_0) (x4) := by
  assumption
set_option maxHeartbeats 4000000 in
theorem vc_Mo_augment_17_8 (x1 : Int) (x2 : Int) (cameBy_0 : Int → Int) (flow_0 : Int → Int) (k1 : 2 ≤ x1 ∧ x1 ≤ 78) (k2 : 0 ≤ x2 ∧ x2 ≤ 76) (f18 : FPT (flow_0) (cameBy_0) (x1) (x2)) : FPT (flow_0) (cameBy_0) (x1) (x2) := by
  first
    | assumption
    | exact fpt_start ‹AU0 _ _› (by omega) (by assumption) (by omega)
    | exact fpt_step2 ‹FPT _ _ _ _› (by assumption) rfl (by assumption) (by assumption) (by assumption) (by assumption) (by omega)
set_option maxHeartbeats 4000000 in
theorem vc_Mo_augment_17_9 (x1 : Int) (x2 : Int) (x3 : Int) (x10 : Int) (x11 : Int) (x12 : Int) (x13 : Int) (x16 : Int) (x17 : Int) (x18 : Int) (x19 : Int) (x20 : Int) (cameBy_0 : Int → Int) (flow_0 : Int → Int) (pointMany_0 : Int) (spot_0 : Int → Int) (costA_0 : Int → Int) (costB_0 : Int → Int) (costW_0 : Int → Int) (costPlain_0 : Int → Int) (apartA_0 : Int → Int) (apartB_0 : Int → Int) (apart_0 : Int → Int) (costMany_0 : Int) (apartMany_0 : Int) (queue_0 : Int → Int) (k1 : 2 ≤ x1 ∧ x1 ≤ 78) (k2 : 0 ≤ x2 ∧ x2 ≤ 76) (k3 : 1 ≤ x3 ∧ x3 ≤ 77) (k10 : 1 ≤ x10 ∧ x10 ≤ 79) (k11 : 0 ≤ x11 ∧ x11 ≤ 1000000) (k12 : 0 ≤ x12 ∧ x12 ≤ 77) (k13 : (-2) ≤ x13 ∧ x13 ≤ 80) (k16 : 0 ≤ x16 ∧ x16 ≤ 77) (k17 : 0 ≤ x17 ∧ x17 ≤ 6083) (k18 : 0 ≤ x18 ∧ x18 ≤ 6083) (k19 : 0 ≤ x19 ∧ x19 ≤ 1000000) (k20 : 0 ≤ x20 ∧ x20 ≤ 77) (d0 : x19 + 0 ≤ x11 ∧ x11 ≤ x19 + 4294967296) (h0 : x20 = cameBy_0 (x12)) (h4 : x19 = flow_0 (x18)) (f5 : x18 = x17 + x12) (f6 : x17 = x1 * x16) (h7 : x16 = cameBy_0 (x12)) (f9 : x12 ≠ x2) (f13 : x1 = (pointMany_0 + 2)) (f16 : FLO (pointMany_0) (costMany_0) (apartMany_0) (flow_0) (spot_0) (costA_0) (costB_0) (costW_0) (costPlain_0) (apartA_0) (apartB_0) (apart_0)) (f18 : FPT (flow_0) (cameBy_0) (x1) (x2)) (f19 : MN1 (flow_0) (cameBy_0) (x1) (x2) (x3) (x12) (x11)) (f20 : AUW (queue_0) (cameBy_0) (x1) (x2) (x10) (x12) (x13)) (kz_0_79 : 0 ≤ pointMany_0 ∧ pointMany_0 ≤ 76) (kz_0_80 : 0 ≤ costMany_0 ∧ costMany_0 ≤ 200) (kz_0_81 : 0 ≤ apartMany_0 ∧ apartMany_0 ≤ 200) : MN1 (flow_0) (cameBy_0) (x1) (x2) (x3) (x20) (x19) := by
  exact mn1_step2 ‹FLO _ _ _ _ _ _ _ _ _ _ _ _› ‹FPT _ _ _ _› ‹AUW _ _ _ _ _ _ _› ‹MN1 _ _ _ _ _ _ _› (by omega) (by omega) (by assumption) (by assumption) (by assumption) (by assumption) (by assumption) (by omega)
set_option maxHeartbeats 4000000 in
theorem vc_Mo_augment_17_10 (x1 : Int) (x2 : Int) (x10 : Int) (x12 : Int) (x13 : Int) (x20 : Int) (cameBy_0 : Int → Int) (queue_0 : Int → Int) (gx : Int) (k1 : 2 ≤ x1 ∧ x1 ≤ 78) (k2 : 0 ≤ x2 ∧ x2 ≤ 76) (k10 : 1 ≤ x10 ∧ x10 ≤ 79) (k12 : 0 ≤ x12 ∧ x12 ≤ 77) (k13 : (-2) ≤ x13 ∧ x13 ≤ 80) (k20 : 0 ≤ x20 ∧ x20 ≤ 77) (h0 : x20 = cameBy_0 (x12)) (f9 : x12 ≠ x2) (f20 : AUW (queue_0) (cameBy_0) (x1) (x2) (x10) (x12) (x13)) (ex2 : gx = 0 + (1 * x13 + 0)) : AUX (queue_0) (cameBy_0) (x1) (x2) (x10) (x20) (gx) := by
  exact (auw_step ‹AUW _ _ _ _ _ _ _› (by omega) (by assumption) (by omega)).1
set_option maxHeartbeats 4000000 in
theorem vc_Mo_augment_17_11 (x1 : Int) (x2 : Int) (x3 : Int) (x10 : Int) (cameBy_0 : Int → Int) (queue_0 : Int → Int) (k1 : 2 ≤ x1 ∧ x1 ≤ 78) (k2 : 0 ≤ x2 ∧ x2 ≤ 76) (k3 : 1 ≤ x3 ∧ x3 ≤ 77) (k10 : 1 ≤ x10 ∧ x10 ≤ 79) (f21 : AU2 (queue_0) (cameBy_0) (x1) (x2) (x10) (x3)) : AU2 (queue_0) (cameBy_0) (x1) (x2) (x10) (x3) := by
  assumption
set_option maxHeartbeats 4000000 in
theorem vc_Mo_augment_17_12 (x1 : Int) (x2 : Int) (x10 : Int) (x12 : Int) (x13 : Int) (x16 : Int) (cameBy_0 : Int → Int) (queue_0 : Int → Int) (gx : Int) (k1 : 2 ≤ x1 ∧ x1 ≤ 78) (k2 : 0 ≤ x2 ∧ x2 ≤ 76) (k10 : 1 ≤ x10 ∧ x10 ≤ 79) (k12 : 0 ≤ x12 ∧ x12 ≤ 77) (k13 : (-2) ≤ x13 ∧ x13 ≤ 80) (k16 : 0 ≤ x16 ∧ x16 ≤ 77) (h7 : x16 = cameBy_0 (x12)) (f9 : x12 ≠ x2) (f20 : AUW (queue_0) (cameBy_0) (x1) (x2) (x10) (x12) (x13)) (ex2 : gx = 0 + (1 * x13 + 0)) : (-1) * gx + 0 ≤ (-1) := by
  first
    | omega
    | (have h := auw_step (g_zq := 80) ‹AUW _ _ _ _ _ _ _› (by omega) (by assumption) (by omega); omega)
def o_Mo_augment_17 : or_T := (187, 21, [(0, (2, 0, 0, [165])), (1, (0, 2, 78, [])), (2, (0, 0, 76, [])), (3, (0, 1, 77, [])), (4, (0, -2, 180000001, [])), (5, (2, 0, 0, [165])), (6, (0, 2, 79, [])), (7, (0, 0, 76, [])), (8, (0, 1, 77, [])), (10, (0, 1, 79, [])), (11, (0, 0, 1000000, [])), (12, (0, 0, 77, [])), (13, (0, -2, 80, [])), (14, (2, 0, 0, [227])), (15, (2, 0, 0, [228])), (16, (0, 0, 77, [])), (17, (0, 0, 6083, [])), (18, (0, 0, 6083, [])), (19, (0, 0, 1000000, [])), (20, (0, 0, 77, []))], [(10, [20, 15, 12], []), (9, [15, 5], [91]), (7, [19, 11], [5]), (7, [19, 19], [5]), (10, [19, 14, 18], []), (1, [18, 17, 12], []), (3, [17, 6, 16], []), (10, [16, 15, 12], []), (9, [14, 5], [90]), (7, [12, 7], [1]), (20, [7, 6], [50, 0, 0, 0, 6, 4, 2, 1, 0, 0, 1, 1, 1]), (20, [8, 6], [50, 0, 0, 0, 6, 4, 2, 1, 0, 0, 1, 1, 1]), (20, [6], [50, 0, 0, 0, 2, 1, 0, 0, 78]), (20, [6, 5], [50, 1, 0, 1079, 1, 2, 1, 0, 4, 3, 2, 1, 79, 0, 2]), (20, [7, 5], [50, 1, 0, 1079, 1, 2, 1, 0, 2, 1, 79]), (20, [8, 5], [50, 1, 0, 1079, 1, 2, 1, 0, 4, 3, 2, 1, 79, 0, 1]), (20, [5], [60, 3, 9, 397, 79, 80, 81, 90, 82, 83, 84, 85, 86, 87, 88, 89]), (20, [5, 4], [60, 1, 1, 398, 79, 90]), (20, [5, 6, 7], [60, 0, 2, 401, 90, 91]), (20, [5, 6, 7, 8, 12, 11], [60, 0, 2, 407, 90, 91]), (20, [5, 6, 7, 10, 12, 13], [60, 0, 2, 394, 92, 91]), (20, [5, 6, 7, 10, 8], [60, 0, 2, 393, 92, 91]), (24, [0, 5], []), (24, [1, 6], []), (24, [2, 7], []), (24, [3, 8], [])], [], [(0, -2, 80, [])], [(20, [7, 6], [50, 0, 0, 0, 6, 4, 2, 1, 0, 0, 1, 1, 1]), (20, [8, 6], [50, 0, 0, 0, 6, 4, 2, 1, 0, 0, 1, 1, 1]), (20, [6], [50, 0, 0, 0, 2, 1, 0, 0, 78]), (20, [6, 5], [50, 1, 0, 1079, 1, 2, 1, 0, 4, 3, 2, 1, 79, 0, 2]), (20, [7, 5], [50, 1, 0, 1079, 1, 2, 1, 0, 2, 1, 79]), (20, [8, 5], [50, 1, 0, 1079, 1, 2, 1, 0, 4, 3, 2, 1, 79, 0, 1]), (20, [5], [60, 3, 9, 397, 79, 80, 81, 90, 82, 83, 84, 85, 86, 87, 88, 89]), (20, [5, 4], [60, 1, 1, 398, 79, 90]), (20, [5, 6, 7], [60, 0, 2, 401, 90, 91]), (20, [5, 6, 7, 8, 20, 19], [60, 0, 2, 407, 90, 91]), (20, [5, 6, 7, 10, 20, 21], [60, 0, 2, 429, 92, 91]), (20, [5, 6, 7, 10, 8], [60, 0, 2, 393, 92, 91]), (23, [21], [-1, -1]), (24, [0, 5], []), (24, [1, 6], []), (24, [2, 7], []), (24, [3, 8], [])], [(21, 13, 0, 0)], [(11, 19, 0, 4294967296), (18, 12, 0, 6083), (18, 17, 0, 77), (1, 6, -4294967296, 0), (2, 7, -4294967296, 0), (3, 8, -4294967296, 0), (6, 1, -4294967296, 0), (7, 2, -4294967296, 0), (8, 3, -4294967296, 0)])
theorem oo_Mo_augment_17 {kA : Nat → ClassId} : or_ok PRD kA GG o_Mo_augment_17 := by
  refine or_mk fun A ta ws vs hD hth hl => ?_
  intro t0 r0 t1 k1 t2 k2 t3 k3 t4 k4 t5 r5 t6 k6 t7 k7 t8 k8 t10 k10 t11 k11 t12 k12 t13 k13 t14 r14 t15 r15 t16 k16 t17 k17 t18 k18 t19 k19 t20 k20 d0 d1 d2 d3 d4 d5 d6 d7 d8 f0 f1 f2 f3 f4 f5 f6 f7 f8 f9 f10 f11 f12 f13 f14 f15 f16 f17 f18 f19 f20 f21 f22 f23 f24 f25
  replace f0 := shm_106 f0
  replace f1 := shm_921 f1
  replace f2 := shm_24 f2
  replace f3 := shm_134 f3
  replace f4 := shm_106 f4
  replace f5 := shm_12 f5
  replace f6 := shm_38 f6
  replace f7 := shm_106 f7
  replace f8 := shm_934 f8
  replace f9 := shm_40 f9
  replace f10 := shm_409 f10
  replace f11 := shm_409 f11
  replace f12 := shm_913 f12
  replace f13 := shm_914 f13
  replace f14 := shm_915 f14
  replace f15 := shm_916 f15
  replace f16 := shm_917 f16
  replace f17 := shm_918 f17
  replace f18 := shm_922 f18
  replace f19 := shm_935 f19
  replace f20 := shm_927 f20
  replace f21 := shm_928 f21
  replace f22 := shm_5 f22
  replace f23 := shm_5 f23
  replace f24 := shm_5 f24
  replace f25 := shm_5 f25
  have q5 : n_v vs 5 = n_v vs 0 := f22.symm
  have q6 : n_v vs 6 = n_v vs 1 := f23.symm
  have q7 : n_v vs 7 = n_v vs 2 := f24.symm
  have q8 : n_v vs 8 = n_v vs 3 := f25.symm
  simp only [q5, q6, q7, q8] at f1 f6 f8 f9 f10 f11 f12 f13 f14 f15 f16 f17 f18 f19 f20 f21
  have cr_0_82 := fdq_225 hD hth r0
  have cr_0_83 := fdq_125 hD hth r0
  have cr_0_84 := fdq_126 hD hth r0
  have cr_0_85 := fdq_127 hD hth r0
  have cr_0_86 := fdq_128 hD hth r0
  have cr_0_87 := fdq_118 hD hth r0
  have cr_0_88 := fdq_119 hD hth r0
  have cr_0_89 := fdq_120 hD hth r0
  have cr_0_90 := fdq_226 hD hth r0
  have cr_0_91 := fdq_227 hD hth r0
  have cr_0_92 := fdq_228 hD hth r0
  have ad_15 : v_ad (n_v vs 15) = w_ar ws (n_v vs 0) 91 := congrArg v_ad f1
  have ad_14 : v_ad (n_v vs 14) = w_ar ws (n_v vs 0) 90 := congrArg v_ad f8
  simp only [ad_15] at f0
  have h0 : v_iv (n_v vs 20) = w_ei ws (w_ar ws (n_v vs 0) 91) (v_iv (n_v vs 12)) := f0
  simp only [ad_14] at f4
  have h4 : v_iv (n_v vs 19) = w_ei ws (w_ar ws (n_v vs 0) 90) (v_iv (n_v vs 18)) := f4
  simp only [ad_15] at f7
  have h7 : v_iv (n_v vs 16) = w_ei ws (w_ar ws (n_v vs 0) 91) (v_iv (n_v vs 12)) := f7
  have hK_0_82 := elq_141 hD hth cr_0_82
  have hK_0_83 := elq_64 hD hth cr_0_83
  have hK_0_84 := elq_65 hD hth cr_0_84
  have hK_0_85 := elq_66 hD hth cr_0_85
  have hK_0_86 := elq_67 hD hth cr_0_86
  have hK_0_87 := elq_59 hD hth cr_0_87
  have hK_0_88 := elq_60 hD hth cr_0_88
  have hK_0_89 := elq_61 hD hth cr_0_89
  have hK_0_90 := elq_142 hD hth cr_0_90
  have hK_0_91 := elq_143 hD hth cr_0_91
  have hK_0_92 := elq_144 hD hth cr_0_92
  have kz_0_79 := fdq_146 hD hth r0
  have kz_0_80 := fdq_130 hD hth r0
  have kz_0_81 := fdq_123 hD hth r0
  obtain ⟨x, ex, hx⟩ := iv_ex (ta := ta) (lo := (-2)) (hi := 80) (z := 0 + (1 * v_iv (n_v vs 13) + 0)) (by omega) (by omega) (by omega) (by omega)
  have ex2 : v_iv (Value.int x) = 0 + (1 * v_iv (n_v vs 13) + 0) := ex
  have ex3 : (-2) ≤ v_iv (Value.int x) ∧ v_iv (Value.int x) ≤ 80 := tv_rng hx
  have e_0 : n_v (vs ++ [Value.int x]) 0 = n_v vs 0 := n_v_old (by rw [hl]; decide)
  have e_1 : n_v (vs ++ [Value.int x]) 1 = n_v vs 1 := n_v_old (by rw [hl]; decide)
  have e_2 : n_v (vs ++ [Value.int x]) 2 = n_v vs 2 := n_v_old (by rw [hl]; decide)
  have e_3 : n_v (vs ++ [Value.int x]) 3 = n_v vs 3 := n_v_old (by rw [hl]; decide)
  have e_4 : n_v (vs ++ [Value.int x]) 4 = n_v vs 4 := n_v_old (by rw [hl]; decide)
  have e_5 : n_v (vs ++ [Value.int x]) 5 = n_v vs 5 := n_v_old (by rw [hl]; decide)
  have e_6 : n_v (vs ++ [Value.int x]) 6 = n_v vs 6 := n_v_old (by rw [hl]; decide)
  have e_7 : n_v (vs ++ [Value.int x]) 7 = n_v vs 7 := n_v_old (by rw [hl]; decide)
  have e_8 : n_v (vs ++ [Value.int x]) 8 = n_v vs 8 := n_v_old (by rw [hl]; decide)
  have e_10 : n_v (vs ++ [Value.int x]) 10 = n_v vs 10 := n_v_old (by rw [hl]; decide)
  have e_19 : n_v (vs ++ [Value.int x]) 19 = n_v vs 19 := n_v_old (by rw [hl]; decide)
  have e_20 : n_v (vs ++ [Value.int x]) 20 = n_v vs 20 := n_v_old (by rw [hl]; decide)
  have e_21 : n_v (vs ++ [Value.int x]) 21 = Value.int x := n_v_new hl
  have nf0 : fc_1 PRD (20, [7, 6], [50, 0, 0, 0, 6, 4, 2, 1, 0, 0, 1, 1, 1]) ws (vs ++ [Value.int x]) := by
    refine ⟨nf_inA hl rfl, sgq_409 ?_⟩
    · show (v_iv (n_v (vs ++ [Value.int x]) 7) + 1) ≤ v_iv (n_v (vs ++ [Value.int x]) 6)
      simp only [e_6, e_7, q6, q7]
      exact vc_Mo_augment_17_0 (v_iv (n_v vs 1)) (v_iv (n_v vs 2)) k1 k2 f10
  have nf1 : fc_1 PRD (20, [8, 6], [50, 0, 0, 0, 6, 4, 2, 1, 0, 0, 1, 1, 1]) ws (vs ++ [Value.int x]) := by
    refine ⟨nf_inA hl rfl, sgq_409 ?_⟩
    · show (v_iv (n_v (vs ++ [Value.int x]) 8) + 1) ≤ v_iv (n_v (vs ++ [Value.int x]) 6)
      simp only [e_6, e_8, q6, q8]
      exact vc_Mo_augment_17_1 (v_iv (n_v vs 1)) (v_iv (n_v vs 3)) k1 k3 f11
  have nf2 : fc_1 PRD (20, [6], [50, 0, 0, 0, 2, 1, 0, 0, 78]) ws (vs ++ [Value.int x]) := by
    refine ⟨nf_inA hl rfl, sgq_913 ?_⟩
    · show v_iv (n_v (vs ++ [Value.int x]) 6) ≤ 78
      simp only [e_6, q6]
      exact vc_Mo_augment_17_2 (v_iv (n_v vs 1)) k1 f12
  have nf3 : fc_1 PRD (20, [6, 5], [50, 1, 0, 1079, 1, 2, 1, 0, 4, 3, 2, 1, 79, 0, 2]) ws (vs ++ [Value.int x]) := by
    refine ⟨nf_inA hl rfl, sgq_914 ?_⟩
    · show v_iv (n_v (vs ++ [Value.int x]) 6) = (w_fi ws (n_v (vs ++ [Value.int x]) 5) 79 + 2)
      simp only [e_5, e_6, q5, q6]
      exact vc_Mo_augment_17_3 (v_iv (n_v vs 1)) (w_fi ws (n_v vs 0) 79) k1 f13 kz_0_79
  have nf4 : fc_1 PRD (20, [7, 5], [50, 1, 0, 1079, 1, 2, 1, 0, 2, 1, 79]) ws (vs ++ [Value.int x]) := by
    refine ⟨nf_inA hl rfl, sgq_915 ?_⟩
    · show v_iv (n_v (vs ++ [Value.int x]) 7) = w_fi ws (n_v (vs ++ [Value.int x]) 5) 79
      simp only [e_5, e_7, q5, q7]
      exact vc_Mo_augment_17_4 (v_iv (n_v vs 2)) (w_fi ws (n_v vs 0) 79) k2 f14 kz_0_79
  have nf5 : fc_1 PRD (20, [8, 5], [50, 1, 0, 1079, 1, 2, 1, 0, 4, 3, 2, 1, 79, 0, 1]) ws (vs ++ [Value.int x]) := by
    refine ⟨nf_inA hl rfl, sgq_916 ?_⟩
    · show v_iv (n_v (vs ++ [Value.int x]) 8) = (w_fi ws (n_v (vs ++ [Value.int x]) 5) 79 + 1)
      simp only [e_5, e_8, q5, q8]
      exact vc_Mo_augment_17_5 (v_iv (n_v vs 3)) (w_fi ws (n_v vs 0) 79) k3 f15 kz_0_79
  have nf6 : fc_1 PRD (20, [5], [60, 3, 9, 397, 79, 80, 81, 90, 82, 83, 84, 85, 86, 87, 88, 89]) ws (vs ++ [Value.int x]) := by
    refine ⟨nf_inA hl rfl, sgq_917 ?_⟩
    · show FLO (w_fi ws (n_v (vs ++ [Value.int x]) 5) 79) (w_fi ws (n_v (vs ++ [Value.int x]) 5) 80) (w_fi ws (n_v (vs ++ [Value.int x]) 5) 81) (w_ei ws (w_ar ws (n_v (vs ++ [Value.int x]) 5) 90)) (w_ei ws (w_ar ws (n_v (vs ++ [Value.int x]) 5) 82)) (w_ei ws (w_ar ws (n_v (vs ++ [Value.int x]) 5) 83)) (w_ei ws (w_ar ws (n_v (vs ++ [Value.int x]) 5) 84)) (w_ei ws (w_ar ws (n_v (vs ++ [Value.int x]) 5) 85)) (w_ei ws (w_ar ws (n_v (vs ++ [Value.int x]) 5) 86)) (w_ei ws (w_ar ws (n_v (vs ++ [Value.int x]) 5) 87)) (w_ei ws (w_ar ws (n_v (vs ++ [Value.int x]) 5) 88)) (w_ei ws (w_ar ws (n_v (vs ++ [Value.int x]) 5) 89))
      simp only [e_5, q5]
      exact vc_Mo_augment_17_6 (w_ei ws (w_ar ws (n_v vs 0) 90)) (w_fi ws (n_v vs 0) 79) (w_ei ws (w_ar ws (n_v vs 0) 82)) (w_ei ws (w_ar ws (n_v vs 0) 83)) (w_ei ws (w_ar ws (n_v vs 0) 84)) (w_ei ws (w_ar ws (n_v vs 0) 85)) (w_ei ws (w_ar ws (n_v vs 0) 86)) (w_ei ws (w_ar ws (n_v vs 0) 87)) (w_ei ws (w_ar ws (n_v vs 0) 88)) (w_ei ws (w_ar ws (n_v vs 0) 89)) (w_fi ws (n_v vs 0) 80) (w_fi ws (n_v vs 0) 81) f16 kz_0_79 kz_0_80 kz_0_81
  have nf7 : fc_1 PRD (20, [5, 4], [60, 1, 1, 398, 79, 90]) ws (vs ++ [Value.int x]) := by
    refine ⟨nf_inA hl rfl, sgq_918 ?_⟩
    · show XLE (w_fi ws (n_v (vs ++ [Value.int x]) 5) 79) (w_ei ws (w_ar ws (n_v (vs ++ [Value.int x]) 5) 90)) (v_iv (n_v (vs ++ [Value.int x]) 4))
      simp only [e_4, e_5, q5]
      exact vc_Mo_augment_17_7 (v_iv (n_v vs 4)) (w_ei ws (w_ar ws (n_v vs 0) 90)) (w_fi ws (n_v vs 0) 79) k4 f17 kz_0_79
  have nf8 : fc_1 PRD (20, [5, 6, 7], [60, 0, 2, 401, 90, 91]) ws (vs ++ [Value.int x]) := by
    refine ⟨nf_inA hl rfl, sgq_922 ?_⟩
    · show FPT (w_ei ws (w_ar ws (n_v (vs ++ [Value.int x]) 5) 90)) (w_ei ws (w_ar ws (n_v (vs ++ [Value.int x]) 5) 91)) (v_iv (n_v (vs ++ [Value.int x]) 6)) (v_iv (n_v (vs ++ [Value.int x]) 7))
      simp only [e_5, e_6, e_7, q5, q6, q7]
      exact vc_Mo_augment_17_8 (v_iv (n_v vs 1)) (v_iv (n_v vs 2)) (w_ei ws (w_ar ws (n_v vs 0) 91)) (w_ei ws (w_ar ws (n_v vs 0) 90)) k1 k2 f18
  have nf9 : fc_1 PRD (20, [5, 6, 7, 8, 20, 19], [60, 0, 2, 407, 90, 91]) ws (vs ++ [Value.int x]) := by
    refine ⟨nf_inA hl rfl, sgq_935 ?_⟩
    · show MN1 (w_ei ws (w_ar ws (n_v (vs ++ [Value.int x]) 5) 90)) (w_ei ws (w_ar ws (n_v (vs ++ [Value.int x]) 5) 91)) (v_iv (n_v (vs ++ [Value.int x]) 6)) (v_iv (n_v (vs ++ [Value.int x]) 7)) (v_iv (n_v (vs ++ [Value.int x]) 8)) (v_iv (n_v (vs ++ [Value.int x]) 20)) (v_iv (n_v (vs ++ [Value.int x]) 19))
      simp only [e_5, e_6, e_7, e_8, e_19, e_20, q5, q6, q7, q8]
      exact vc_Mo_augment_17_9 (v_iv (n_v vs 1)) (v_iv (n_v vs 2)) (v_iv (n_v vs 3)) (v_iv (n_v vs 10)) (v_iv (n_v vs 11)) (v_iv (n_v vs 12)) (v_iv (n_v vs 13)) (v_iv (n_v vs 16)) (v_iv (n_v vs 17)) (v_iv (n_v vs 18)) (v_iv (n_v vs 19)) (v_iv (n_v vs 20)) (w_ei ws (w_ar ws (n_v vs 0) 91)) (w_ei ws (w_ar ws (n_v vs 0) 90)) (w_fi ws (n_v vs 0) 79) (w_ei ws (w_ar ws (n_v vs 0) 82)) (w_ei ws (w_ar ws (n_v vs 0) 83)) (w_ei ws (w_ar ws (n_v vs 0) 84)) (w_ei ws (w_ar ws (n_v vs 0) 85)) (w_ei ws (w_ar ws (n_v vs 0) 86)) (w_ei ws (w_ar ws (n_v vs 0) 87)) (w_ei ws (w_ar ws (n_v vs 0) 88)) (w_ei ws (w_ar ws (n_v vs 0) 89)) (w_fi ws (n_v vs 0) 80) (w_fi ws (n_v vs 0) 81) (w_ei ws (w_ar ws (n_v vs 0) 92)) k1 k2 k3 k10 k11 k12 k13 k16 k17 k18 k19 k20 d0 h0 h4 f5 f6 h7 f9 f13 f16 f18 f19 f20 kz_0_79 kz_0_80 kz_0_81
  have nf10 : fc_1 PRD (20, [5, 6, 7, 10, 20, 21], [60, 0, 2, 429, 92, 91]) ws (vs ++ [Value.int x]) := by
    refine ⟨nf_inA hl rfl, sgq_937 ?_⟩
    · show AUX (w_ei ws (w_ar ws (n_v (vs ++ [Value.int x]) 5) 92)) (w_ei ws (w_ar ws (n_v (vs ++ [Value.int x]) 5) 91)) (v_iv (n_v (vs ++ [Value.int x]) 6)) (v_iv (n_v (vs ++ [Value.int x]) 7)) (v_iv (n_v (vs ++ [Value.int x]) 10)) (v_iv (n_v (vs ++ [Value.int x]) 20)) (v_iv (n_v (vs ++ [Value.int x]) 21))
      simp only [e_5, e_6, e_7, e_10, e_20, e_21, q5, q6, q7]
      exact vc_Mo_augment_17_10 (v_iv (n_v vs 1)) (v_iv (n_v vs 2)) (v_iv (n_v vs 10)) (v_iv (n_v vs 12)) (v_iv (n_v vs 13)) (v_iv (n_v vs 20)) (w_ei ws (w_ar ws (n_v vs 0) 91)) (w_ei ws (w_ar ws (n_v vs 0) 92)) (v_iv (Value.int x)) k1 k2 k10 k12 k13 k20 h0 f9 f20 ex2
  have nf11 : fc_1 PRD (20, [5, 6, 7, 10, 8], [60, 0, 2, 393, 92, 91]) ws (vs ++ [Value.int x]) := by
    refine ⟨nf_inA hl rfl, sgq_928 ?_⟩
    · show AU2 (w_ei ws (w_ar ws (n_v (vs ++ [Value.int x]) 5) 92)) (w_ei ws (w_ar ws (n_v (vs ++ [Value.int x]) 5) 91)) (v_iv (n_v (vs ++ [Value.int x]) 6)) (v_iv (n_v (vs ++ [Value.int x]) 7)) (v_iv (n_v (vs ++ [Value.int x]) 10)) (v_iv (n_v (vs ++ [Value.int x]) 8))
      simp only [e_5, e_6, e_7, e_8, e_10, q5, q6, q7, q8]
      exact vc_Mo_augment_17_11 (v_iv (n_v vs 1)) (v_iv (n_v vs 2)) (v_iv (n_v vs 3)) (v_iv (n_v vs 10)) (w_ei ws (w_ar ws (n_v vs 0) 91)) (w_ei ws (w_ar ws (n_v vs 0) 92)) k1 k2 k3 k10 f21
  have nf12 : fc_1 PRD (23, [21], [-1, -1]) ws (vs ++ [Value.int x]) := by
    refine ⟨nf_inA hl rfl, sgq_614 ?_⟩
    · show (-1) * v_iv (n_v (vs ++ [Value.int x]) 21) + 0 ≤ (-1)
      rw [e_21]
      exact vc_Mo_augment_17_12 (v_iv (n_v vs 1)) (v_iv (n_v vs 2)) (v_iv (n_v vs 10)) (v_iv (n_v vs 12)) (v_iv (n_v vs 13)) (v_iv (n_v vs 16)) (w_ei ws (w_ar ws (n_v vs 0) 91)) (w_ei ws (w_ar ws (n_v vs 0) 92)) (v_iv (Value.int x)) k1 k2 k10 k12 k13 k16 h7 f9 f20 ex2
  have nf13 : fc_1 PRD (24, [0, 5], []) ws (vs ++ [Value.int x]) := by
    refine ⟨nf_inA hl rfl, sgq_5 ?_⟩
    · show n_v (vs ++ [Value.int x]) 0 = n_v (vs ++ [Value.int x]) 5
      first | rfl | simp only [e_0, e_5, q5, q6, q7, q8]
  have nf14 : fc_1 PRD (24, [1, 6], []) ws (vs ++ [Value.int x]) := by
    refine ⟨nf_inA hl rfl, sgq_5 ?_⟩
    · show n_v (vs ++ [Value.int x]) 1 = n_v (vs ++ [Value.int x]) 6
      first | rfl | simp only [e_1, e_6, q5, q6, q7, q8]
  have nf15 : fc_1 PRD (24, [2, 7], []) ws (vs ++ [Value.int x]) := by
    refine ⟨nf_inA hl rfl, sgq_5 ?_⟩
    · show n_v (vs ++ [Value.int x]) 2 = n_v (vs ++ [Value.int x]) 7
      first | rfl | simp only [e_2, e_7, q5, q6, q7, q8]
  have nf16 : fc_1 PRD (24, [3, 8], []) ws (vs ++ [Value.int x]) := by
    refine ⟨nf_inA hl rfl, sgq_5 ?_⟩
    · show n_v (vs ++ [Value.int x]) 3 = n_v (vs ++ [Value.int x]) 8
      first | rfl | simp only [e_3, e_8, q5, q6, q7, q8]
  obtain ⟨x0, e0, _, _⟩ := tv_int t13 rfl
  have e1 : v_iv (n_v vs 13) = x0.toInt := by rw [e0]; rfl
  have ho : sy_ofs (vs ++ [Value.int x]) (21, 13, 0, 0) := by
    refine ⟨x, x0, by rw [List.getElem?_append_right (by rw [hl]; decide), hl]; rfl, ?_, ?_, ?_⟩
    · rw [List.getElem?_append_left (by rw [hl]; decide)]; exact n_v_some (by rw [hl]; decide) e0
    · show x0.toInt + 0 ≤ x.toInt; omega
    · show x.toInt ≤ x0.toInt + 0; omega
  exact ⟨(fun _ h => (by cases h)), [Value.int x], ag_one hx, List.forall_mem_cons.mpr ⟨⟨show (20 : Nat) < 100 from by decide, nf0⟩, List.forall_mem_cons.mpr ⟨⟨show (20 : Nat) < 100 from by decide, nf1⟩, List.forall_mem_cons.mpr ⟨⟨show (20 : Nat) < 100 from by decide, nf2⟩, List.forall_mem_cons.mpr ⟨⟨show (20 : Nat) < 100 from by decide, nf3⟩, List.forall_mem_cons.mpr ⟨⟨show (20 : Nat) < 100 from by decide, nf4⟩, List.forall_mem_cons.mpr ⟨⟨show (20 : Nat) < 100 from by decide, nf5⟩, List.forall_mem_cons.mpr ⟨⟨show (20 : Nat) < 100 from by decide, nf6⟩, List.forall_mem_cons.mpr ⟨⟨show (20 : Nat) < 100 from by decide, nf7⟩, List.forall_mem_cons.mpr ⟨⟨show (20 : Nat) < 100 from by decide, nf8⟩, List.forall_mem_cons.mpr ⟨⟨show (20 : Nat) < 100 from by decide, nf9⟩, List.forall_mem_cons.mpr ⟨⟨show (20 : Nat) < 100 from by decide, nf10⟩, List.forall_mem_cons.mpr ⟨⟨show (20 : Nat) < 100 from by decide, nf11⟩, List.forall_mem_cons.mpr ⟨⟨show (23 : Nat) < 100 from by decide, nf12⟩, List.forall_mem_cons.mpr ⟨⟨show (24 : Nat) < 100 from by decide, nf13⟩, List.forall_mem_cons.mpr ⟨⟨show (24 : Nat) < 100 from by decide, nf14⟩, List.forall_mem_cons.mpr ⟨⟨show (24 : Nat) < 100 from by decide, nf15⟩, List.forall_mem_cons.mpr ⟨⟨show (24 : Nat) < 100 from by decide, nf16⟩, (fun _ h => (by cases h))⟩⟩⟩⟩⟩⟩⟩⟩⟩⟩⟩⟩⟩⟩⟩⟩⟩, List.forall_mem_cons.mpr ⟨ho, (fun _ h => (by cases h))⟩⟩
set_option maxHeartbeats 4000000 in
theorem vc_Mo_augment_18_r0 (x1 : Int) (x2 : Int) (x10 : Int) (x12 : Int) (x13 : Int) (x16 : Int) (x20 : Int) (cameBy_0 : Int → Int) (queue_0 : Int → Int) (k1 : 2 ≤ x1 ∧ x1 ≤ 78) (k2 : 0 ≤ x2 ∧ x2 ≤ 76) (k10 : 1 ≤ x10 ∧ x10 ≤ 79) (k12 : 0 ≤ x12 ∧ x12 ≤ 77) (k13 : (-2) ≤ x13 ∧ x13 ≤ 80) (k16 : 0 ≤ x16 ∧ x16 ≤ 77) (k20 : (-1) ≤ x20 ∧ x20 ≤ 77) (h0 : x20 = cameBy_0 (x12)) (h7 : x16 = cameBy_0 (x12)) (f9 : x12 ≠ x2) (f20 : AUW (queue_0) (cameBy_0) (x1) (x2) (x10) (x12) (x13)) : 0 ≤ x20 ∧ x20 ≤ 77 := by
  have h := auw_step (g_zq := 80) ‹AUW _ _ _ _ _ _ _› (by omega) (by assumption) (by omega)
  omega
def o_Mo_augment_18 : or_T := (185, 21, [(0, (2, 0, 0, [165])), (1, (0, 2, 78, [])), (2, (0, 0, 76, [])), (3, (0, 1, 77, [])), (4, (0, -2, 180000001, [])), (5, (2, 0, 0, [165])), (6, (0, 2, 79, [])), (7, (0, 0, 76, [])), (8, (0, 1, 77, [])), (10, (0, 1, 79, [])), (11, (0, 0, 1000000, [])), (12, (0, 0, 77, [])), (13, (0, -2, 80, [])), (14, (2, 0, 0, [227])), (15, (2, 0, 0, [228])), (16, (0, 0, 77, [])), (17, (0, 0, 6083, [])), (18, (0, 0, 6083, [])), (19, (0, 1, 410000000, [])), (20, (0, -1, 77, []))], [(10, [20, 15, 12], []), (9, [15, 5], [91]), (7, [11, 11], [5]), (7, [11, 19], [5]), (10, [19, 14, 18], []), (1, [18, 17, 12], []), (3, [17, 6, 16], []), (10, [16, 15, 12], []), (9, [14, 5], [90]), (7, [12, 7], [1]), (20, [7, 6], [50, 0, 0, 0, 6, 4, 2, 1, 0, 0, 1, 1, 1]), (20, [8, 6], [50, 0, 0, 0, 6, 4, 2, 1, 0, 0, 1, 1, 1]), (20, [6], [50, 0, 0, 0, 2, 1, 0, 0, 78]), (20, [6, 5], [50, 1, 0, 1079, 1, 2, 1, 0, 4, 3, 2, 1, 79, 0, 2]), (20, [7, 5], [50, 1, 0, 1079, 1, 2, 1, 0, 2, 1, 79]), (20, [8, 5], [50, 1, 0, 1079, 1, 2, 1, 0, 4, 3, 2, 1, 79, 0, 1]), (20, [5], [60, 3, 9, 397, 79, 80, 81, 90, 82, 83, 84, 85, 86, 87, 88, 89]), (20, [5, 4], [60, 1, 1, 398, 79, 90]), (20, [5, 6, 7], [60, 0, 2, 401, 90, 91]), (20, [5, 6, 7, 8, 12, 11], [60, 0, 2, 407, 90, 91]), (20, [5, 6, 7, 10, 12, 13], [60, 0, 2, 394, 92, 91]), (20, [5, 6, 7, 10, 8], [60, 0, 2, 393, 92, 91]), (24, [0, 5], []), (24, [1, 6], []), (24, [2, 7], []), (24, [3, 8], [])], [(20, (0, 0, 77, []))], [], [], [], [(11, 19, -4294967296, -1), (18, 12, 0, 6083), (18, 17, 0, 77), (1, 6, -4294967296, 0), (2, 7, -4294967296, 0), (3, 8, -4294967296, 0), (6, 1, -4294967296, 0), (7, 2, -4294967296, 0), (8, 3, -4294967296, 0)])
theorem oo_Mo_augment_18 {kA : Nat → ClassId} : or_ok PRD kA GG o_Mo_augment_18 := by
  refine or_mk fun A ta ws vs hD hth hl => ?_
  intro t0 r0 t1 k1 t2 k2 t3 k3 t4 k4 t5 r5 t6 k6 t7 k7 t8 k8 t10 k10 t11 k11 t12 k12 t13 k13 t14 r14 t15 r15 t16 k16 t17 k17 t18 k18 t19 k19 t20 k20 d0 d1 d2 d3 d4 d5 d6 d7 d8 f0 f1 f2 f3 f4 f5 f6 f7 f8 f9 f10 f11 f12 f13 f14 f15 f16 f17 f18 f19 f20 f21 f22 f23 f24 f25
  replace f0 := shm_106 f0
  replace f1 := shm_921 f1
  replace f7 := shm_106 f7
  replace f9 := shm_40 f9
  replace f20 := shm_927 f20
  replace f22 := shm_5 f22
  replace f23 := shm_5 f23
  replace f24 := shm_5 f24
  have q5 : n_v vs 5 = n_v vs 0 := f22.symm
  have q6 : n_v vs 6 = n_v vs 1 := f23.symm
  have q7 : n_v vs 7 = n_v vs 2 := f24.symm
  simp only [q5, q6, q7] at f1 f9 f20
  have ad_15 : v_ad (n_v vs 15) = w_ar ws (n_v vs 0) 91 := congrArg v_ad f1
  simp only [ad_15] at f0
  have h0 : v_iv (n_v vs 20) = w_ei ws (w_ar ws (n_v vs 0) 91) (v_iv (n_v vs 12)) := f0
  simp only [ad_15] at f7
  have h7 : v_iv (n_v vs 16) = w_ei ws (w_ar ws (n_v vs 0) 91) (v_iv (n_v vs 12)) := f7
  have hrf0 : 0 ≤ v_iv (n_v vs 20) ∧ v_iv (n_v vs 20) ≤ 77 := vc_Mo_augment_18_r0 (v_iv (n_v vs 1)) (v_iv (n_v vs 2)) (v_iv (n_v vs 10)) (v_iv (n_v vs 12)) (v_iv (n_v vs 13)) (v_iv (n_v vs 16)) (v_iv (n_v vs 20)) (w_ei ws (w_ar ws (n_v vs 0) 91)) (w_ei ws (w_ar ws (n_v vs 0) 92)) k1 k2 k10 k12 k13 k16 k20 h0 h7 f9 f20
  have rf20 : tv_ok ta (0, 0, 77, []) (n_v vs 20) := tv_in t20 (by first | omega | grind) (by first | omega | grind)
  refine ⟨List.forall_mem_cons.mpr ⟨rf20, (fun _ h => (by cases h))⟩, [], trivial, ?_, (fun _ h => (by cases h))⟩
  rw [List.append_nil]
  exact (fun _ h => (by cases h))
set_option maxHeartbeats 4000000 in
theorem vc_Mo_augment_19_0 (x1 : Int) (x2 : Int) (k1 : 2 ≤ x1 ∧ x1 ≤ 78) (k2 : 0 ≤ x2 ∧ x2 ≤ 76) (f10 : (x2 + 1) ≤ x1) : (x2 + 1) ≤ x1 := by
  first
    | omega
    | (have h := auw_step (g_zq := 80) ‹AUW _ _ _ _ _ _ _› (by omega) (by assumption) (by omega); omega)
set_option maxHeartbeats 4000000 in
theorem vc_Mo_augment_19_1 (x1 : Int) (x3 : Int) (k1 : 2 ≤ x1 ∧ x1 ≤ 78) (k3 : 1 ≤ x3 ∧ x3 ≤ 77) (f11 : (x3 + 1) ≤ x1) : (x3 + 1) ≤ x1 := by
  first
    | omega
    | (have h := auw_step (g_zq := 80) ‹AUW _ _ _ _ _ _ _› (by omega) (by assumption) (by omega); omega)
set_option maxHeartbeats 4000000 in
theorem vc_Mo_augment_19_2 (x1 : Int) (k1 : 2 ≤ x1 ∧ x1 ≤ 78) (f12 : x1 ≤ 78) : x1 ≤ 78 := by
  first
    | omega
    | (have h := auw_step (g_zq := 80) ‹AUW _ _ _ _ _ _ _› (by omega) (by assumption) (by omega); omega)
set_option maxHeartbeats 4000000 in
theorem vc_Mo_augment_19_3 (x1 : Int) (pointMany_0 : Int) (k1 : 2 ≤ x1 ∧ x1 ≤ 78) (f13 : x1 = (pointMany_0 + 2)) (kz_0_79 : 0 ≤ pointMany_0 ∧ pointMany_0 ≤ 76) : x1 = (pointMany_0 + 2) := by
  first
    | omega
    | (have h := auw_step (g_zq := 80) ‹AUW _ _ _ _ _ _ _› (by omega) (by assumption) (by omega); omega)
set_option maxHeartbeats 4000000 in
theorem vc_Mo_augment_19_4 (x2 : Int) (pointMany_0 : Int) (k2 : 0 ≤ x2 ∧ x2 ≤ 76) (f14 : x2 = pointMany_0) (kz_0_79 : 0 ≤ pointMany_0 ∧ pointMany_0 ≤ 76) : x2 = pointMany_0 := by
  first
    | omega
    | (have h := auw_step (g_zq := 80) ‹AUW _ _ _ _ _ _ _› (by omega) (by assumption) (by omega); omega)
set_option maxHeartbeats 4000000 in
theorem vc_Mo_augment_19_5 (x3 : Int) (pointMany_0 : Int) (k3 : 1 ≤ x3 ∧ x3 ≤ 77) (f15 : x3 = (pointMany_0 + 1)) (kz_0_79 : 0 ≤ pointMany_0 ∧ pointMany_0 ≤ 76) : x3 = (pointMany_0 + 1) := by
  first
    | omega
    | (have h := auw_step (g_zq := 80) ‹AUW _ _ _ _ _ _ _› (by omega) (by assumption) (by omega); omega)
set_option maxHeartbeats 4000000 in
theorem vc_Mo_augment_19_6 (flow_0 : Int → Int) (pointMany_0 : Int) (spot_0 : Int → Int) (costA_0 : Int → Int) (costB_0 : Int → Int) (costW_0 : Int → Int) (costPlain_0 : Int → Int) (apartA_0 : Int → Int) (apartB_0 : Int → Int) (apart_0 : Int → Int) (costMany_0 : Int) (apartMany_0 : Int) (f16 : FLO (pointMany_0) (costMany_0) (apartMany_0) (flow_0) (spot_0) (costA_0) (costB_0) (costW_0) (costPlain_0) (apartA_0) (apartB_0) (apart_0)) (kz_0_79 : 0 ≤ pointMany_0 ∧ pointMany_0 ≤ 76) (kz_0_80 : 0 ≤ costMany_0 ∧ costMany_0 ≤ 200) (kz_0_81 : 0 ≤ apartMany_0 ∧ apartMany_0 ≤ 200) : FLO (pointMany_0) (costMany_0) (apartMany_0) (flow_0) (spot_0) (costA_0) (costB_0) (costW_0) (costPlain_0) (apartA_0) (apartB_0) (apart_0) := by
  first
    | assumption
    | exact (psh_end ‹PSH _ _ _ _ _ _ _ _ _ _ _ _ _ _ _ _› (by omega)).1
set_option maxHeartbeats 4000000 in
theorem vc_Mo_augment_19_7 (x4 : Int) (flow_0 : Int → Int) (pointMany_0 : Int) (k4 : (-2) ≤ x4 ∧ x4 ≤ 180000001) (f17 : XLE (pointMany_0) (flow_0) (x4)) (kz_0_79 : 0 ≤ pointMany_0 ∧ pointMany_0 ≤ 76) : XLE (pointMany_0) (flow_0) (x4) := by
  assumption
set_option maxHeartbeats 4000000 in
theorem vc_Mo_augment_19_8 (x1 : Int) (x2 : Int) (cameBy_0 : Int → Int) (flow_0 : Int → Int) (k1 : 2 ≤ x1 ∧ x1 ≤ 78) (k2 : 0 ≤ x2 ∧ x2 ≤ 76) (f18 : FPT (flow_0) (cameBy_0) (x1) (x2)) : FPT (flow_0) (cameBy_0) (x1) (x2) := by
  first
    | assumption
    | exact fpt_start ‹AU0 _ _› (by omega) (by assumption) (by omega)
    | exact fpt_step2 ‹FPT _ _ _ _› (by assumption) rfl (by assumption) (by assumption) (by assumption) (by assumption) (by omega)
set_option maxHeartbeats 4000000 in
theorem vc_Mo_augment_19_9 (x1 : Int) (x2 : Int) (x3 : Int) (x10 : Int) (x11 : Int) (x12 : Int) (x13 : Int) (x16 : Int) (x17 : Int) (x18 : Int) (x19 : Int) (x20 : Int) (cameBy_0 : Int → Int) (flow_0 : Int → Int) (pointMany_0 : Int) (spot_0 : Int → Int) (costA_0 : Int → Int) (costB_0 : Int → Int) (costW_0 : Int → Int) (costPlain_0 : Int → Int) (apartA_0 : Int → Int) (apartB_0 : Int → Int) (apart_0 : Int → Int) (costMany_0 : Int) (apartMany_0 : Int) (queue_0 : Int → Int) (k1 : 2 ≤ x1 ∧ x1 ≤ 78) (k2 : 0 ≤ x2 ∧ x2 ≤ 76) (k3 : 1 ≤ x3 ∧ x3 ≤ 77) (k10 : 1 ≤ x10 ∧ x10 ≤ 79) (k11 : 0 ≤ x11 ∧ x11 ≤ 1000000) (k12 : 0 ≤ x12 ∧ x12 ≤ 77) (k13 : (-2) ≤ x13 ∧ x13 ≤ 80) (k16 : 0 ≤ x16 ∧ x16 ≤ 77) (k17 : 0 ≤ x17 ∧ x17 ≤ 6083) (k18 : 0 ≤ x18 ∧ x18 ≤ 6083) (k19 : 1 ≤ x19 ∧ x19 ≤ 410000000) (k20 : 0 ≤ x20 ∧ x20 ≤ 77) (d0 : x19 + (-4294967296) ≤ x11 ∧ x11 ≤ x19 + (-1)) (h0 : x20 = cameBy_0 (x12)) (h4 : x19 = flow_0 (x18)) (f5 : x18 = x17 + x12) (f6 : x17 = x1 * x16) (h7 : x16 = cameBy_0 (x12)) (f9 : x12 ≠ x2) (f13 : x1 = (pointMany_0 + 2)) (f16 : FLO (pointMany_0) (costMany_0) (apartMany_0) (flow_0) (spot_0) (costA_0) (costB_0) (costW_0) (costPlain_0) (apartA_0) (apartB_0) (apart_0)) (f18 : FPT (flow_0) (cameBy_0) (x1) (x2)) (f19 : MN1 (flow_0) (cameBy_0) (x1) (x2) (x3) (x12) (x11)) (f20 : AUW (queue_0) (cameBy_0) (x1) (x2) (x10) (x12) (x13)) (kz_0_79 : 0 ≤ pointMany_0 ∧ pointMany_0 ≤ 76) (kz_0_80 : 0 ≤ costMany_0 ∧ costMany_0 ≤ 200) (kz_0_81 : 0 ≤ apartMany_0 ∧ apartMany_0 ≤ 200) : MN1 (flow_0) (cameBy_0) (x1) (x2) (x3) (x20) (x11) := by
  exact mn1_step2 ‹FLO _ _ _ _ _ _ _ _ _ _ _ _› ‹FPT _ _ _ _› ‹AUW _ _ _ _ _ _ _› ‹MN1 _ _ _ _ _ _ _› (by omega) (by omega) (by assumption) (by assumption) (by assumption) (by assumption) (by assumption) (by omega)
set_option maxHeartbeats 4000000 in
theorem vc_Mo_augment_19_10 (x1 : Int) (x2 : Int) (x10 : Int) (x12 : Int) (x13 : Int) (x20 : Int) (cameBy_0 : Int → Int) (queue_0 : Int → Int) (gx : Int) (k1 : 2 ≤ x1 ∧ x1 ≤ 78) (k2 : 0 ≤ x2 ∧ x2 ≤ 76) (k10 : 1 ≤ x10 ∧ x10 ≤ 79) (k12 : 0 ≤ x12 ∧ x12 ≤ 77) (k13 : (-2) ≤ x13 ∧ x13 ≤ 80) (k20 : 0 ≤ x20 ∧ x20 ≤ 77) (h0 : x20 = cameBy_0 (x12)) (f9 : x12 ≠ x2) (f20 : AUW (queue_0) (cameBy_0) (x1) (x2) (x10) (x12) (x13)) (ex2 : gx = 0 + (1 * x13 + 0)) : AUX (queue_0) (cameBy_0) (x1) (x2) (x10) (x20) (gx) := by
  exact (auw_step ‹AUW _ _ _ _ _ _ _› (by omega) (by assumption) (by omega)).1
set_option maxHeartbeats 4000000 in
theorem vc_Mo_augment_19_11 (x1 : Int) (x2 : Int) (x3 : Int) (x10 : Int) (cameBy_0 : Int → Int) (queue_0 : Int → Int) (k1 : 2 ≤ x1 ∧ x1 ≤ 78) (k2 : 0 ≤ x2 ∧ x2 ≤ 76) (k3 : 1 ≤ x3 ∧ x3 ≤ 77) (k10 : 1 ≤ x10 ∧ x10 ≤ 79) (f21 : AU2 (queue_0) (cameBy_0) (x1) (x2) (x10) (x3)) : AU2 (queue_0) (cameBy_0) (x1) (x2) (x10) (x3) := by
  assumption
set_option maxHeartbeats 4000000 in
theorem vc_Mo_augment_19_12 (x1 : Int) (x2 : Int) (x10 : Int) (x12 : Int) (x13 : Int) (x16 : Int) (cameBy_0 : Int → Int) (queue_0 : Int → Int) (gx : Int) (k1 : 2 ≤ x1 ∧ x1 ≤ 78) (k2 : 0 ≤ x2 ∧ x2 ≤ 76) (k10 : 1 ≤ x10 ∧ x10 ≤ 79) (k12 : 0 ≤ x12 ∧ x12 ≤ 77) (k13 : (-2) ≤ x13 ∧ x13 ≤ 80) (k16 : 0 ≤ x16 ∧ x16 ≤ 77) (h7 : x16 = cameBy_0 (x12)) (f9 : x12 ≠ x2) (f20 : AUW (queue_0) (cameBy_0) (x1) (x2) (x10) (x12) (x13)) (ex2 : gx = 0 + (1 * x13 + 0)) : (-1) * gx + 0 ≤ (-1) := by
  first
    | omega
    | (have h := auw_step (g_zq := 80) ‹AUW _ _ _ _ _ _ _› (by omega) (by assumption) (by omega); omega)
def o_Mo_augment_19 : or_T := (187, 21, [(0, (2, 0, 0, [165])), (1, (0, 2, 78, [])), (2, (0, 0, 76, [])), (3, (0, 1, 77, [])), (4, (0, -2, 180000001, [])), (5, (2, 0, 0, [165])), (6, (0, 2, 79, [])), (7, (0, 0, 76, [])), (8, (0, 1, 77, [])), (10, (0, 1, 79, [])), (11, (0, 0, 1000000, [])), (12, (0, 0, 77, [])), (13, (0, -2, 80, [])), (14, (2, 0, 0, [227])), (15, (2, 0, 0, [228])), (16, (0, 0, 77, [])), (17, (0, 0, 6083, [])), (18, (0, 0, 6083, [])), (19, (0, 1, 410000000, [])), (20, (0, 0, 77, []))], [(10, [20, 15, 12], []), (9, [15, 5], [91]), (7, [11, 11], [5]), (7, [11, 19], [5]), (10, [19, 14, 18], []), (1, [18, 17, 12], []), (3, [17, 6, 16], []), (10, [16, 15, 12], []), (9, [14, 5], [90]), (7, [12, 7], [1]), (20, [7, 6], [50, 0, 0, 0, 6, 4, 2, 1, 0, 0, 1, 1, 1]), (20, [8, 6], [50, 0, 0, 0, 6, 4, 2, 1, 0, 0, 1, 1, 1]), (20, [6], [50, 0, 0, 0, 2, 1, 0, 0, 78]), (20, [6, 5], [50, 1, 0, 1079, 1, 2, 1, 0, 4, 3, 2, 1, 79, 0, 2]), (20, [7, 5], [50, 1, 0, 1079, 1, 2, 1, 0, 2, 1, 79]), (20, [8, 5], [50, 1, 0, 1079, 1, 2, 1, 0, 4, 3, 2, 1, 79, 0, 1]), (20, [5], [60, 3, 9, 397, 79, 80, 81, 90, 82, 83, 84, 85, 86, 87, 88, 89]), (20, [5, 4], [60, 1, 1, 398, 79, 90]), (20, [5, 6, 7], [60, 0, 2, 401, 90, 91]), (20, [5, 6, 7, 8, 12, 11], [60, 0, 2, 407, 90, 91]), (20, [5, 6, 7, 10, 12, 13], [60, 0, 2, 394, 92, 91]), (20, [5, 6, 7, 10, 8], [60, 0, 2, 393, 92, 91]), (24, [0, 5], []), (24, [1, 6], []), (24, [2, 7], []), (24, [3, 8], [])], [], [(0, -2, 80, [])], [(20, [7, 6], [50, 0, 0, 0, 6, 4, 2, 1, 0, 0, 1, 1, 1]), (20, [8, 6], [50, 0, 0, 0, 6, 4, 2, 1, 0, 0, 1, 1, 1]), (20, [6], [50, 0, 0, 0, 2, 1, 0, 0, 78]), (20, [6, 5], [50, 1, 0, 1079, 1, 2, 1, 0, 4, 3, 2, 1, 79, 0, 2]), (20, [7, 5], [50, 1, 0, 1079, 1, 2, 1, 0, 2, 1, 79]), (20, [8, 5], [50, 1, 0, 1079, 1, 2, 1, 0, 4, 3, 2, 1, 79, 0, 1]), (20, [5], [60, 3, 9, 397, 79, 80, 81, 90, 82, 83, 84, 85, 86, 87, 88, 89]), (20, [5, 4], [60, 1, 1, 398, 79, 90]), (20, [5, 6, 7], [60, 0, 2, 401, 90, 91]), (20, [5, 6, 7, 8, 20, 11], [60, 0, 2, 407, 90, 91]), (20, [5, 6, 7, 10, 20, 21], [60, 0, 2, 429, 92, 91]), (20, [5, 6, 7, 10, 8], [60, 0, 2, 393, 92, 91]), (23, [21], [-1, -1]), (24, [0, 5], []), (24, [1, 6], []), (24, [2, 7], []), (24, [3, 8], [])], [(21, 13, 0, 0)], [(11, 19, -4294967296, -1), (18, 12, 0, 6083), (18, 17, 0, 77), (1, 6, -4294967296, 0), (2, 7, -4294967296, 0), (3, 8, -4294967296, 0), (6, 1, -4294967296, 0), (7, 2, -4294967296, 0), (8, 3, -4294967296, 0)])
theorem oo_Mo_augment_19 {kA : Nat → ClassId} : or_ok PRD kA GG o_Mo_augment_19 := by
  refine or_mk fun A ta ws vs hD hth hl => ?_
  intro t0 r0 t1 k1 t2 k2 t3 k3 t4 k4 t5 r5 t6 k6 t7 k7 t8 k8 t10 k10 t11 k11 t12 k12 t13 k13 t14 r14 t15 r15 t16 k16 t17 k17 t18 k18 t19 k19 t20 k20 d0 d1 d2 d3 d4 d5 d6 d7 d8 f0 f1 f2 f3 f4 f5 f6 f7 f8 f9 f10 f11 f12 f13 f14 f15 f16 f17 f18 f19 f20 f21 f22 f23 f24 f25
  replace f0 := shm_106 f0
  replace f1 := shm_921 f1
  replace f2 := shm_134 f2
  replace f3 := shm_24 f3
  replace f4 := shm_106 f4
  replace f5 := shm_12 f5
  replace f6 := shm_38 f6
  replace f7 := shm_106 f7
  replace f8 := shm_934 f8
  replace f9 := shm_40 f9
  replace f10 := shm_409 f10
  replace f11 := shm_409 f11
  replace f12 := shm_913 f12
  replace f13 := shm_914 f13
  replace f14 := shm_915 f14
  replace f15 := shm_916 f15
  replace f16 := shm_917 f16
  replace f17 := shm_918 f17
  replace f18 := shm_922 f18
  replace f19 := shm_935 f19
  replace f20 := shm_927 f20
  replace f21 := shm_928 f21
  replace f22 := shm_5 f22
  replace f23 := shm_5 f23
  replace f24 := shm_5 f24
  replace f25 := shm_5 f25
  have q5 : n_v vs 5 = n_v vs 0 := f22.symm
  have q6 : n_v vs 6 = n_v vs 1 := f23.symm
  have q7 : n_v vs 7 = n_v vs 2 := f24.symm
  have q8 : n_v vs 8 = n_v vs 3 := f25.symm
  simp only [q5, q6, q7, q8] at f1 f6 f8 f9 f10 f11 f12 f13 f14 f15 f16 f17 f18 f19 f20 f21
  have cr_0_82 := fdq_225 hD hth r0
  have cr_0_83 := fdq_125 hD hth r0
  have cr_0_84 := fdq_126 hD hth r0
  have cr_0_85 := fdq_127 hD hth r0
  have cr_0_86 := fdq_128 hD hth r0
  have cr_0_87 := fdq_118 hD hth r0
  have cr_0_88 := fdq_119 hD hth r0
  have cr_0_89 := fdq_120 hD hth r0
  have cr_0_90 := fdq_226 hD hth r0
  have cr_0_91 := fdq_227 hD hth r0
  have cr_0_92 := fdq_228 hD hth r0
  have ad_15 : v_ad (n_v vs 15) = w_ar ws (n_v vs 0) 91 := congrArg v_ad f1
  have ad_14 : v_ad (n_v vs 14) = w_ar ws (n_v vs 0) 90 := congrArg v_ad f8
  simp only [ad_15] at f0
  have h0 : v_iv (n_v vs 20) = w_ei ws (w_ar ws (n_v vs 0) 91) (v_iv (n_v vs 12)) := f0
  simp only [ad_14] at f4
  have h4 : v_iv (n_v vs 19) = w_ei ws (w_ar ws (n_v vs 0) 90) (v_iv (n_v vs 18)) := f4
  simp only [ad_15] at f7
  have h7 : v_iv (n_v vs 16) = w_ei ws (w_ar ws (n_v vs 0) 91) (v_iv (n_v vs 12)) := f7
  have hK_0_82 := elq_141 hD hth cr_0_82
  have hK_0_83 := elq_64 hD hth cr_0_83
  have hK_0_84 := elq_65 hD hth cr_0_84
  have hK_0_85 := elq_66 hD hth cr_0_85
  have hK_0_86 := elq_67 hD hth cr_0_86
  have hK_0_87 := elq_59 hD hth cr_0_87
  have hK_0_88 := elq_60 hD hth cr_0_88
  have hK_0_89 := elq_61 hD hth cr_0_89
  have hK_0_90 := elq_142 hD hth cr_0_90
  have hK_0_91 := elq_143 hD hth cr_0_91
  have hK_0_92 := elq_144 hD hth cr_0_92
  have kz_0_79 := fdq_146 hD hth r0
  have kz_0_80 := fdq_130 hD hth r0
  have kz_0_81 := fdq_123 hD hth r0
  obtain ⟨x, ex, hx⟩ := iv_ex (ta := ta) (lo := (-2)) (hi := 80) (z := 0 + (1 * v_iv (n_v vs 13) + 0)) (by omega) (by omega) (by omega) (by omega)
  have ex2 : v_iv (Value.int x) = 0 + (1 * v_iv (n_v vs 13) + 0) := ex
  have ex3 : (-2) ≤ v_iv (Value.int x) ∧ v_iv (Value.int x) ≤ 80 := tv_rng hx
  have e_0 : n_v (vs ++ [Value.int x]) 0 = n_v vs 0 := n_v_old (by rw [hl]; decide)
  have e_1 : n_v (vs ++ [Value.int x]) 1 = n_v vs 1 := n_v_old (by rw [hl]; decide)
  have e_2 : n_v (vs ++ [Value.int x]) 2 = n_v vs 2 := n_v_old (by rw [hl]; decide)
  have e_3 : n_v (vs ++ [Value.int x]) 3 = n_v vs 3 := n_v_old (by rw [hl]; decide)
  have e_4 : n_v (vs ++ [Value.int x]) 4 = n_v vs 4 := n_v_old (by rw [hl]; decide)
  have e_5 : n_v (vs ++ [Value.int x]) 5 = n_v vs 5 := n_v_old (by rw [hl]; decide)
  have e_6 : n_v (vs ++ [Value.int x]) 6 = n_v vs 6 := n_v_old (by rw [hl]; decide)
  have e_7 : n_v (vs ++ [Value.int x]) 7 = n_v vs 7 := n_v_old (by rw [hl]; decide)
  have e_8 : n_v (vs ++ [Value.int x]) 8 = n_v vs 8 := n_v_old (by rw [hl]; decide)
  have e_10 : n_v (vs ++ [Value.int x]) 10 = n_v vs 10 := n_v_old (by rw [hl]; decide)
  have e_11 : n_v (vs ++ [Value.int x]) 11 = n_v vs 11 := n_v_old (by rw [hl]; decide)
  have e_20 : n_v (vs ++ [Value.int x]) 20 = n_v vs 20 := n_v_old (by rw [hl]; decide)
  have e_21 : n_v (vs ++ [Value.int x]) 21 = Value.int x := n_v_new hl
  have nf0 : fc_1 PRD (20, [7, 6], [50, 0, 0, 0, 6, 4, 2, 1, 0, 0, 1, 1, 1]) ws (vs ++ [Value.int x]) := by
    refine ⟨nf_inA hl rfl, sgq_409 ?_⟩
    · show (v_iv (n_v (vs ++ [Value.int x]) 7) + 1) ≤ v_iv (n_v (vs ++ [Value.int x]) 6)
      simp only [e_6, e_7, q6, q7]
      exact vc_Mo_augment_19_0 (v_iv (n_v vs 1)) (v_iv (n_v vs 2)) k1 k2 f10
  have nf1 : fc_1 PRD (20, [8, 6], [50, 0, 0, 0, 6, 4, 2, 1, 0, 0, 1, 1, 1]) ws (vs ++ [Value.int x]) := by
    refine ⟨nf_inA hl rfl, sgq_409 ?_⟩
    · show (v_iv (n_v (vs ++ [Value.int x]) 8) + 1) ≤ v_iv (n_v (vs ++ [Value.int x]) 6)
      simp only [e_6, e_8, q6, q8]
      exact vc_Mo_augment_19_1 (v_iv (n_v vs 1)) (v_iv (n_v vs 3)) k1 k3 f11
  have nf2 : fc_1 PRD (20, [6], [50, 0, 0, 0, 2, 1, 0, 0, 78]) ws (vs ++ [Value.int x]) := by
    refine ⟨nf_inA hl rfl, sgq_913 ?_⟩
    · show v_iv (n_v (vs ++ [Value.int x]) 6) ≤ 78
      simp only [e_6, q6]
      exact vc_Mo_augment_19_2 (v_iv (n_v vs 1)) k1 f12
  have nf3 : fc_1 PRD (20, [6, 5], [50, 1, 0, 1079, 1, 2, 1, 0, 4, 3, 2, 1, 79, 0, 2]) ws (vs ++ [Value.int x]) := by
    refine ⟨nf_inA hl rfl, sgq_914 ?_⟩
    · show v_iv (n_v (vs ++ [Value.int x]) 6) = (w_fi ws (n_v (vs ++ [Value.int x]) 5) 79 + 2)
      simp only [e_5, e_6, q5, q6]
      exact vc_Mo_augment_19_3 (v_iv (n_v vs 1)) (w_fi ws (n_v vs 0) 79) k1 f13 kz_0_79
  have nf4 : fc_1 PRD (20, [7, 5], [50, 1, 0, 1079, 1, 2, 1, 0, 2, 1, 79]) ws (vs ++ [Value.int x]) := by
    refine ⟨nf_inA hl rfl, sgq_915 ?_⟩
    · show v_iv (n_v (vs ++ [Value.int x]) 7) = w_fi ws (n_v (vs ++ [Value.int x]) 5) 79
      simp only [e_5, e_7, q5, q7]
      exact vc_Mo_augment_19_4 (v_iv (n_v vs 2)) (w_fi ws (n_v vs 0) 79) k2 f14 kz_0_79
  have nf5 : fc_1 PRD (20, [8, 5], [50, 1, 0, 1079, 1, 2, 1, 0, 4, 3, 2, 1, 79, 0, 1]) ws (vs ++ [Value.int x]) := by
    refine ⟨nf_inA hl rfl, sgq_916 ?_⟩
    · show v_iv (n_v (vs ++ [Value.int x]) 8) = (w_fi ws (n_v (vs ++ [Value.int x]) 5) 79 + 1)
      simp only [e_5, e_8, q5, q8]
      exact vc_Mo_augment_19_5 (v_iv (n_v vs 3)) (w_fi ws (n_v vs 0) 79) k3 f15 kz_0_79
  have nf6 : fc_1 PRD (20, [5], [60, 3, 9, 397, 79, 80, 81, 90, 82, 83, 84, 85, 86, 87, 88, 89]) ws (vs ++ [Value.int x]) := by
    refine ⟨nf_inA hl rfl, sgq_917 ?_⟩
    · show FLO (w_fi ws (n_v (vs ++ [Value.int x]) 5) 79) (w_fi ws (n_v (vs ++ [Value.int x]) 5) 80) (w_fi ws (n_v (vs ++ [Value.int x]) 5) 81) (w_ei ws (w_ar ws (n_v (vs ++ [Value.int x]) 5) 90)) (w_ei ws (w_ar ws (n_v (vs ++ [Value.int x]) 5) 82)) (w_ei ws (w_ar ws (n_v (vs ++ [Value.int x]) 5) 83)) (w_ei ws (w_ar ws (n_v (vs ++ [Value.int x]) 5) 84)) (w_ei ws (w_ar ws (n_v (vs ++ [Value.int x]) 5) 85)) (w_ei ws (w_ar ws (n_v (vs ++ [Value.int x]) 5) 86)) (w_ei ws (w_ar ws (n_v (vs ++ [Value.int x]) 5) 87)) (w_ei ws (w_ar ws (n_v (vs ++ [Value.int x]) 5) 88)) (w_ei ws (w_ar ws (n_v (vs ++ [Value.int x]) 5) 89))
      simp only [e_5, q5]
      exact vc_Mo_augment_19_6 (w_ei ws (w_ar ws (n_v vs 0) 90)) (w_fi ws (n_v vs 0) 79) (w_ei ws (w_ar ws (n_v vs 0) 82)) (w_ei ws (w_ar ws (n_v vs 0) 83)) (w_ei ws (w_ar ws (n_v vs 0) 84)) (w_ei ws (w_ar ws (n_v vs 0) 85)) (w_ei ws (w_ar ws (n_v vs 0) 86)) (w_ei ws (w_ar ws (n_v vs 0) 87)) (w_ei ws (w_ar ws (n_v vs 0) 88)) (w_ei ws (w_ar ws (n_v vs 0) 89)) (w_fi ws (n_v vs 0) 80) (w_fi ws (n_v vs 0) 81) f16 kz_0_79 kz_0_80 kz_0_81
  have nf7 : fc_1 PRD (20, [5, 4], [60, 1, 1, 398, 79, 90]) ws (vs ++ [Value.int x]) := by
    refine ⟨nf_inA hl rfl, sgq_918 ?_⟩
    · show XLE (w_fi ws (n_v (vs ++ [Value.int x]) 5) 79) (w_ei ws (w_ar ws (n_v (vs ++ [Value.int x]) 5) 90)) (v_iv (n_v (vs ++ [Value.int x]) 4))
      simp only [e_4, e_5, q5]
      exact vc_Mo_augment_19_7 (v_iv (n_v vs 4)) (w_ei ws (w_ar ws (n_v vs 0) 90)) (w_fi ws (n_v vs 0) 79) k4 f17 kz_0_79
  have nf8 : fc_1 PRD (20, [5, 6, 7], [60, 0, 2, 401, 90, 91]) ws (vs ++ [Value.int x]) := by
    refine ⟨nf_inA hl rfl, sgq_922 ?_⟩
    · show FPT (w_ei ws (w_ar ws (n_v (vs ++ [Value.int x]) 5) 90)) (w_ei ws (w_ar ws (n_v (vs ++ [Value.int x]) 5) 91)) (v_iv (n_v (vs ++ [Value.int x]) 6)) (v_iv (n_v (vs ++ [Value.int x]) 7))
      simp only [e_5, e_6, e_7, q5, q6, q7]
      exact vc_Mo_augment_19_8 (v_iv (n_v vs 1)) (v_iv (n_v vs 2)) (w_ei ws (w_ar ws (n_v vs 0) 91)) (w_ei ws (w_ar ws (n_v vs 0) 90)) k1 k2 f18
  have nf9 : fc_1 PRD (20, [5, 6, 7, 8, 20, 11], [60, 0, 2, 407, 90, 91]) ws (vs ++ [Value.int x]) := by
    refine ⟨nf_inA hl rfl, sgq_935 ?_⟩
    · show MN1 (w_ei ws (w_ar ws (n_v (vs ++ [Value.int x]) 5) 90)) (w_ei ws (w_ar ws (n_v (vs ++ [Value.int x]) 5) 91)) (v_iv (n_v (vs ++ [Value.int x]) 6)) (v_iv (n_v (vs ++ [Value.int x]) 7)) (v_iv (n_v (vs ++ [Value.int x]) 8)) (v_iv (n_v (vs ++ [Value.int x]) 20)) (v_iv (n_v (vs ++ [Value.int x]) 11))
      simp only [e_5, e_6, e_7, e_8, e_11, e_20, q5, q6, q7, q8]
      exact vc_Mo_augment_19_9 (v_iv (n_v vs 1)) (v_iv (n_v vs 2)) (v_iv (n_v vs 3)) (v_iv (n_v vs 10)) (v_iv (n_v vs 11)) (v_iv (n_v vs 12)) (v_iv (n_v vs 13)) (v_iv (n_v vs 16)) (v_iv (n_v vs 17)) (v_iv (n_v vs 18)) (v_iv (n_v vs 19)) (v_iv (n_v vs 20)) (w_ei ws (w_ar ws (n_v vs 0) 91)) (w_ei ws (w_ar ws (n_v vs 0) 90)) (w_fi ws (n_v vs 0) 79) (w_ei ws (w_ar ws (n_v vs 0) 82)) (w_ei ws (w_ar ws (n_v vs 0) 83)) (w_ei ws (w_ar ws (n_v vs 0) 84)) (w_ei ws (w_ar ws (n_v vs 0) 85)) (w_ei ws (w_ar ws (n_v vs 0) 86)) (w_ei ws (w_ar ws (n_v vs 0) 87)) (w_ei ws (w_ar ws (n_v vs 0) 88)) (w_ei ws (w_ar ws (n_v vs 0) 89)) (w_fi ws (n_v vs 0) 80) (w_fi ws (n_v vs 0) 81) (w_ei ws (w_ar ws (n_v vs 0) 92)) k1 k2 k3 k10 k11 k12 k13 k16 k17 k18 k19 k20 d0 h0 h4 f5 f6 h7 f9 f13 f16 f18 f19 f20 kz_0_79 kz_0_80 kz_0_81
  have nf10 : fc_1 PRD (20, [5, 6, 7, 10, 20, 21], [60, 0, 2, 429, 92, 91]) ws (vs ++ [Value.int x]) := by
    refine ⟨nf_inA hl rfl, sgq_937 ?_⟩
    · show AUX (w_ei ws (w_ar ws (n_v (vs ++ [Value.int x]) 5) 92)) (w_ei ws (w_ar ws (n_v (vs ++ [Value.int x]) 5) 91)) (v_iv (n_v (vs ++ [Value.int x]) 6)) (v_iv (n_v (vs ++ [Value.int x]) 7)) (v_iv (n_v (vs ++ [Value.int x]) 10)) (v_iv (n_v (vs ++ [Value.int x]) 20)) (v_iv (n_v (vs ++ [Value.int x]) 21))
      simp only [e_5, e_6, e_7, e_10, e_20, e_21, q5, q6, q7]
      exact vc_Mo_augment_19_10 (v_iv (n_v vs 1)) (v_iv (n_v vs 2)) (v_iv (n_v vs 10)) (v_iv (n_v vs 12)) (v_iv (n_v vs 13)) (v_iv (n_v vs 20)) (w_ei ws (w_ar ws (n_v vs 0) 91)) (w_ei ws (w_ar ws (n_v vs 0) 92)) (v_iv (Value.int x)) k1 k2 k10 k12 k13 k20 h0 f9 f20 ex2
  have nf11 : fc_1 PRD (20, [5, 6, 7, 10, 8], [60, 0, 2, 393, 92, 91]) ws (vs ++ [Value.int x]) := by
    refine ⟨nf_inA hl rfl, sgq_928 ?_⟩
    · show AU2 (w_ei ws (w_ar ws (n_v (vs ++ [Value.int x]) 5) 92)) (w_ei ws (w_ar ws (n_v (vs ++ [Value.int x]) 5) 91)) (v_iv (n_v (vs ++ [Value.int x]) 6)) (v_iv (n_v (vs ++ [Value.int x]) 7)) (v_iv (n_v (vs ++ [Value.int x]) 10)) (v_iv (n_v (vs ++ [Value.int x]) 8))
      simp only [e_5, e_6, e_7, e_8, e_10, q5, q6, q7, q8]
      exact vc_Mo_augment_19_11 (v_iv (n_v vs 1)) (v_iv (n_v vs 2)) (v_iv (n_v vs 3)) (v_iv (n_v vs 10)) (w_ei ws (w_ar ws (n_v vs 0) 91)) (w_ei ws (w_ar ws (n_v vs 0) 92)) k1 k2 k3 k10 f21
  have nf12 : fc_1 PRD (23, [21], [-1, -1]) ws (vs ++ [Value.int x]) := by
    refine ⟨nf_inA hl rfl, sgq_614 ?_⟩
    · show (-1) * v_iv (n_v (vs ++ [Value.int x]) 21) + 0 ≤ (-1)
      rw [e_21]
      exact vc_Mo_augment_19_12 (v_iv (n_v vs 1)) (v_iv (n_v vs 2)) (v_iv (n_v vs 10)) (v_iv (n_v vs 12)) (v_iv (n_v vs 13)) (v_iv (n_v vs 16)) (w_ei ws (w_ar ws (n_v vs 0) 91)) (w_ei ws (w_ar ws (n_v vs 0) 92)) (v_iv (Value.int x)) k1 k2 k10 k12 k13 k16 h7 f9 f20 ex2
  have nf13 : fc_1 PRD (24, [0, 5], []) ws (vs ++ [Value.int x]) := by
    refine ⟨nf_inA hl rfl, sgq_5 ?_⟩
    · show n_v (vs ++ [Value.int x]) 0 = n_v (vs ++ [Value.int x]) 5
      first | rfl | simp only [e_0, e_5, q5, q6, q7, q8]
  have nf14 : fc_1 PRD (24, [1, 6], []) ws (vs ++ [Value.int x]) := by
    refine ⟨nf_inA hl rfl, sgq_5 ?_⟩
    · show n_v (vs ++ [Value.int x]) 1 = n_v (vs ++ [Value.int x]) 6
      first | rfl | simp only [e_1, e_6, q5, q6, q7, q8]
  have nf15 : fc_1 PRD (24, [2, 7], []) ws (vs ++ [Value.int x]) := by
    refine ⟨nf_inA hl rfl, sgq_5 ?_⟩
    · show n_v (vs ++ [Value.int x]) 2 = n_v (vs ++ [Value.int x]) 7
      first | rfl | simp only [e_2, e_7, q5, q6, q7, q8]
  have nf16 : fc_1 PRD (24, [3, 8], []) ws (vs ++ [Value.int x]) := by
    refine ⟨nf_inA hl rfl, sgq_5 ?_⟩
    · show n_v (vs ++ [Value.int x]) 3 = n_v (vs ++ [Value.int x]) 8
      first | rfl | simp only [e_3, e_8, q5, q6, q7, q8]
  obtain ⟨x0, e0, _, _⟩ := tv_int t13 rfl
  have e1 : v_iv (n_v vs 13) = x0.toInt := by rw [e0]; rfl
  have ho : sy_ofs (vs ++ [Value.int x]) (21, 13, 0, 0) := by
    refine ⟨x, x0, by rw [List.getElem?_append_right (by rw [hl]; decide), hl]; rfl, ?_, ?_, ?_⟩
    · rw [List.getElem?_append_left (by rw [hl]; decide)]; exact n_v_some (by rw [hl]; decide) e0
    · show x0.toInt + 0 ≤ x.toInt; omega
    · show x.toInt ≤ x0.toInt + 0; omega
  exact ⟨(fun _ h => (by cases h)), [Value.int x], ag_one hx, List.forall_mem_cons.mpr ⟨⟨show (20 : Nat) < 100 from by decide, nf0⟩, List.forall_mem_cons.mpr ⟨⟨show (20 : Nat) < 100 from by decide, nf1⟩, List.forall_mem_cons.mpr ⟨⟨show (20 : Nat) < 100 from by decide, nf2⟩, List.forall_mem_cons.mpr ⟨⟨show (20 : Nat) < 100 from by decide, nf3⟩, List.forall_mem_cons.mpr ⟨⟨show (20 : Nat) < 100 from by decide, nf4⟩, List.forall_mem_cons.mpr ⟨⟨show (20 : Nat) < 100 from by decide, nf5⟩, List.forall_mem_cons.mpr ⟨⟨show (20 : Nat) < 100 from by decide, nf6⟩, List.forall_mem_cons.mpr ⟨⟨show (20 : Nat) < 100 from by decide, nf7⟩, List.forall_mem_cons.mpr ⟨⟨show (20 : Nat) < 100 from by decide, nf8⟩, List.forall_mem_cons.mpr ⟨⟨show (20 : Nat) < 100 from by decide, nf9⟩, List.forall_mem_cons.mpr ⟨⟨show (20 : Nat) < 100 from by decide, nf10⟩, List.forall_mem_cons.mpr ⟨⟨show (20 : Nat) < 100 from by decide, nf11⟩, List.forall_mem_cons.mpr ⟨⟨show (23 : Nat) < 100 from by decide, nf12⟩, List.forall_mem_cons.mpr ⟨⟨show (24 : Nat) < 100 from by decide, nf13⟩, List.forall_mem_cons.mpr ⟨⟨show (24 : Nat) < 100 from by decide, nf14⟩, List.forall_mem_cons.mpr ⟨⟨show (24 : Nat) < 100 from by decide, nf15⟩, List.forall_mem_cons.mpr ⟨⟨show (24 : Nat) < 100 from by decide, nf16⟩, (fun _ h => (by cases h))⟩⟩⟩⟩⟩⟩⟩⟩⟩⟩⟩⟩⟩⟩⟩⟩⟩, List.forall_mem_cons.mpr ⟨ho, (fun _ h => (by cases h))⟩⟩
set_option maxHeartbeats 4000000 in
theorem vc_Mo_augment_20_0 (x1 : Int) (x2 : Int) (k1 : 2 ≤ x1 ∧ x1 ≤ 78) (k2 : 0 ≤ x2 ∧ x2 ≤ 76) (f0 : (x2 + 1) ≤ x1) : (x2 + 1) ≤ x1 := by
  first
    | omega
    | (have h := au1_len ‹AU1 _ _ _ _ _›; omega)
set_option maxHeartbeats 4000000 in
theorem vc_Mo_augment_20_1 (x1 : Int) (x3 : Int) (k1 : 2 ≤ x1 ∧ x1 ≤ 78) (k3 : 1 ≤ x3 ∧ x3 ≤ 77) (f1 : (x3 + 1) ≤ x1) : (x3 + 1) ≤ x1 := by
  first
    | omega
    | (have h := au1_len ‹AU1 _ _ _ _ _›; omega)
set_option maxHeartbeats 4000000 in
theorem vc_Mo_augment_20_2 (x1 : Int) (k1 : 2 ≤ x1 ∧ x1 ≤ 78) (f2 : x1 ≤ 78) : x1 ≤ 78 := by
  first
    | omega
    | (have h := au1_len ‹AU1 _ _ _ _ _›; omega)
set_option maxHeartbeats 4000000 in
theorem vc_Mo_augment_20_3 (x1 : Int) (pointMany_0 : Int) (k1 : 2 ≤ x1 ∧ x1 ≤ 78) (f3 : x1 = (pointMany_0 + 2)) (kz_0_79 : 0 ≤ pointMany_0 ∧ pointMany_0 ≤ 76) : x1 = (pointMany_0 + 2) := by
  first
    | omega
    | (have h := au1_len ‹AU1 _ _ _ _ _›; omega)
set_option maxHeartbeats 4000000 in
theorem vc_Mo_augment_20_4 (x2 : Int) (pointMany_0 : Int) (k2 : 0 ≤ x2 ∧ x2 ≤ 76) (f4 : x2 = pointMany_0) (kz_0_79 : 0 ≤ pointMany_0 ∧ pointMany_0 ≤ 76) : x2 = pointMany_0 := by
  first
    | omega
    | (have h := au1_len ‹AU1 _ _ _ _ _›; omega)
set_option maxHeartbeats 4000000 in
theorem vc_Mo_augment_20_5 (x3 : Int) (pointMany_0 : Int) (k3 : 1 ≤ x3 ∧ x3 ≤ 77) (f5 : x3 = (pointMany_0 + 1)) (kz_0_79 : 0 ≤ pointMany_0 ∧ pointMany_0 ≤ 76) : x3 = (pointMany_0 + 1) := by
  first
    | omega
    | (have h := au1_len ‹AU1 _ _ _ _ _›; omega)
set_option maxHeartbeats 4000000 in
theorem vc_Mo_augment_20_6 (pointMany_0 : Int) (flow_0 : Int → Int) (spot_0 : Int → Int) (costA_0 : Int → Int) (costB_0 : Int → Int) (costW_0 : Int → Int) (costPlain_0 : Int → Int) (apartA_0 : Int → Int) (apartB_0 : Int → Int) (apart_0 : Int → Int) (costMany_0 : Int) (apartMany_0 : Int) (f6 : FLO (pointMany_0) (costMany_0) (apartMany_0) (flow_0) (spot_0) (costA_0) (costB_0) (costW_0) (costPlain_0) (apartA_0) (apartB_0) (apart_0)) (kz_0_79 : 0 ≤ pointMany_0 ∧ pointMany_0 ≤ 76) (kz_0_80 : 0 ≤ costMany_0 ∧ costMany_0 ≤ 200) (kz_0_81 : 0 ≤ apartMany_0 ∧ apartMany_0 ≤ 200) : FLO (pointMany_0) (costMany_0) (apartMany_0) (flow_0) (spot_0) (costA_0) (costB_0) (costW_0) (costPlain_0) (apartA_0) (apartB_0) (apart_0) := by
  first
    | assumption
    | exact (psh_end ‹PSH _ _ _ _ _ _ _ _ _ _ _ _ _ _ _ _› (by omega)).1
set_option maxHeartbeats 4000000 in
theorem vc_Mo_augment_20_7 (x4 : Int) (pointMany_0 : Int) (flow_0 : Int → Int) (k4 : (-2) ≤ x4 ∧ x4 ≤ 180000001) (f7 : XLE (pointMany_0) (flow_0) (x4)) (kz_0_79 : 0 ≤ pointMany_0 ∧ pointMany_0 ≤ 76) : XLE (pointMany_0) (flow_0) (x4) := by
  assumption
set_option maxHeartbeats 4000000 in
theorem vc_Mo_augment_20_8 (x1 : Int) (x2 : Int) (flow_0 : Int → Int) (cameBy_0 : Int → Int) (k1 : 2 ≤ x1 ∧ x1 ≤ 78) (k2 : 0 ≤ x2 ∧ x2 ≤ 76) (f8 : FPT (flow_0) (cameBy_0) (x1) (x2)) : FPT (flow_0) (cameBy_0) (x1) (x2) := by
  first
    | assumption
    | exact fpt_start ‹AU0 _ _› (by omega) (by assumption) (by omega)
    | exact fpt_step2 ‹FPT _ _ _ _› (by assumption) rfl (by assumption) (by assumption) (by assumption) (by assumption) (by omega)
set_option maxHeartbeats 4000000 in
theorem vc_Mo_augment_20_9 (x1 : Int) (x2 : Int) (x3 : Int) (x11 : Int) (x12 : Int) (flow_0 : Int → Int) (cameBy_0 : Int → Int) (k1 : 2 ≤ x1 ∧ x1 ≤ 78) (k2 : 0 ≤ x2 ∧ x2 ≤ 76) (k3 : 1 ≤ x3 ∧ x3 ≤ 77) (k11 : 0 ≤ x11 ∧ x11 ≤ 1000000) (k12 : 0 ≤ x12 ∧ x12 ≤ 77) (f9 : MN1 (flow_0) (cameBy_0) (x1) (x2) (x3) (x12) (x11)) : MN1 (flow_0) (cameBy_0) (x1) (x2) (x3) (x12) (x11) := by
  first
    | assumption
    | exact mn1_start (by omega) (by omega)
set_option maxHeartbeats 4000000 in
theorem vc_Mo_augment_20_10 (x1 : Int) (x2 : Int) (x10 : Int) (x12 : Int) (x13 : Int) (cameBy_0 : Int → Int) (queue_0 : Int → Int) (gx : Int) (k1 : 2 ≤ x1 ∧ x1 ≤ 78) (k2 : 0 ≤ x2 ∧ x2 ≤ 76) (k10 : 1 ≤ x10 ∧ x10 ≤ 79) (k12 : 0 ≤ x12 ∧ x12 ≤ 77) (k13 : (-2) ≤ x13 ∧ x13 ≤ 80) (f10 : AUX (queue_0) (cameBy_0) (x1) (x2) (x10) (x12) (x13)) (ex2 : gx = (-1) + (1 * x13 + 0)) : AUW (queue_0) (cameBy_0) (x1) (x2) (x10) (x12) (gx) := by
  first
    | exact auw_start ‹AU1 _ _ _ _ _› (by omega) (by omega) (by omega) (by omega)
    | (rw [show gx = x13 - 1 by omega]; exact ‹AUX _ _ _ _ _ _ _›)
set_option maxHeartbeats 4000000 in
theorem vc_Mo_augment_20_11 (x1 : Int) (x2 : Int) (x3 : Int) (x10 : Int) (cameBy_0 : Int → Int) (queue_0 : Int → Int) (k1 : 2 ≤ x1 ∧ x1 ≤ 78) (k2 : 0 ≤ x2 ∧ x2 ≤ 76) (k3 : 1 ≤ x3 ∧ x3 ≤ 77) (k10 : 1 ≤ x10 ∧ x10 ≤ 79) (f11 : AU2 (queue_0) (cameBy_0) (x1) (x2) (x10) (x3)) : AU2 (queue_0) (cameBy_0) (x1) (x2) (x10) (x3) := by
  first
    | assumption
    | exact au2_of ‹AU1 _ _ _ _ _› (by omega) (by omega) (by omega)
def o_Mo_augment_20 : or_T := (148, 14, [(0, (2, 0, 0, [165])), (1, (0, 2, 78, [])), (2, (0, 0, 76, [])), (3, (0, 1, 77, [])), (4, (0, -2, 180000001, [])), (5, (2, 0, 0, [165])), (6, (0, 2, 79, [])), (7, (0, 0, 76, [])), (8, (0, 1, 77, [])), (10, (0, 1, 79, [])), (11, (0, 0, 1000000, [])), (12, (0, 0, 77, [])), (13, (0, -2, 80, []))], [(20, [7, 6], [50, 0, 0, 0, 6, 4, 2, 1, 0, 0, 1, 1, 1]), (20, [8, 6], [50, 0, 0, 0, 6, 4, 2, 1, 0, 0, 1, 1, 1]), (20, [6], [50, 0, 0, 0, 2, 1, 0, 0, 78]), (20, [6, 5], [50, 1, 0, 1079, 1, 2, 1, 0, 4, 3, 2, 1, 79, 0, 2]), (20, [7, 5], [50, 1, 0, 1079, 1, 2, 1, 0, 2, 1, 79]), (20, [8, 5], [50, 1, 0, 1079, 1, 2, 1, 0, 4, 3, 2, 1, 79, 0, 1]), (20, [5], [60, 3, 9, 397, 79, 80, 81, 90, 82, 83, 84, 85, 86, 87, 88, 89]), (20, [5, 4], [60, 1, 1, 398, 79, 90]), (20, [5, 6, 7], [60, 0, 2, 401, 90, 91]), (20, [5, 6, 7, 8, 12, 11], [60, 0, 2, 407, 90, 91]), (20, [5, 6, 7, 10, 12, 13], [60, 0, 2, 429, 92, 91]), (20, [5, 6, 7, 10, 8], [60, 0, 2, 393, 92, 91]), (23, [13], [-1, -1]), (24, [0, 5], []), (24, [1, 6], []), (24, [2, 7], []), (24, [3, 8], [])], [], [(0, -2, 80, [])], [(20, [7, 6], [50, 0, 0, 0, 6, 4, 2, 1, 0, 0, 1, 1, 1]), (20, [8, 6], [50, 0, 0, 0, 6, 4, 2, 1, 0, 0, 1, 1, 1]), (20, [6], [50, 0, 0, 0, 2, 1, 0, 0, 78]), (20, [6, 5], [50, 1, 0, 1079, 1, 2, 1, 0, 4, 3, 2, 1, 79, 0, 2]), (20, [7, 5], [50, 1, 0, 1079, 1, 2, 1, 0, 2, 1, 79]), (20, [8, 5], [50, 1, 0, 1079, 1, 2, 1, 0, 4, 3, 2, 1, 79, 0, 1]), (20, [5], [60, 3, 9, 397, 79, 80, 81, 90, 82, 83, 84, 85, 86, 87, 88, 89]), (20, [5, 4], [60, 1, 1, 398, 79, 90]), (20, [5, 6, 7], [60, 0, 2, 401, 90, 91]), (20, [5, 6, 7, 8, 12, 11], [60, 0, 2, 407, 90, 91]), (20, [5, 6, 7, 10, 12, 14], [60, 0, 2, 394, 92, 91]), (20, [5, 6, 7, 10, 8], [60, 0, 2, 393, 92, 91]), (24, [0, 5], []), (24, [1, 6], []), (24, [2, 7], []), (24, [3, 8], [])], [(14, 13, -1000000000000, -1)], [(1, 6, -4294967296, 0), (2, 7, -4294967296, 0), (3, 8, -4294967296, 0), (6, 1, -4294967296, 0), (7, 2, -4294967296, 0), (8, 3, -4294967296, 0)])
theorem oo_Mo_augment_20 {kA : Nat → ClassId} : or_ok PRD kA GG o_Mo_augment_20 := by
  refine or_mk fun A ta ws vs hD hth hl => ?_
  intro t0 r0 t1 k1 t2 k2 t3 k3 t4 k4 t5 r5 t6 k6 t7 k7 t8 k8 t10 k10 t11 k11 t12 k12 t13 k13 d0 d1 d2 d3 d4 d5 f0 f1 f2 f3 f4 f5 f6 f7 f8 f9 f10 f11 f12 f13 f14 f15 f16
  replace f0 := shm_409 f0
  replace f1 := shm_409 f1
  replace f2 := shm_913 f2
  replace f3 := shm_914 f3
  replace f4 := shm_915 f4
  replace f5 := shm_916 f5
  replace f6 := shm_917 f6
  replace f7 := shm_918 f7
  replace f8 := shm_922 f8
  replace f9 := shm_935 f9
  replace f10 := shm_937 f10
  replace f11 := shm_928 f11
  replace f12 := shm_614 f12
  replace f13 := shm_5 f13
  replace f14 := shm_5 f14
  replace f15 := shm_5 f15
  replace f16 := shm_5 f16
  have q5 : n_v vs 5 = n_v vs 0 := f13.symm
  have q6 : n_v vs 6 = n_v vs 1 := f14.symm
  have q7 : n_v vs 7 = n_v vs 2 := f15.symm
  have q8 : n_v vs 8 = n_v vs 3 := f16.symm
  simp only [q6, q7, q8, q5] at f0 f1 f2 f3 f4 f5 f6 f7 f8 f9 f10 f11
  have cr_0_82 := fdq_225 hD hth r0
  have cr_0_83 := fdq_125 hD hth r0
  have cr_0_84 := fdq_126 hD hth r0
  have cr_0_85 := fdq_127 hD hth r0
  have cr_0_86 := fdq_128 hD hth r0
  have cr_0_87 := fdq_118 hD hth r0
  have cr_0_88 := fdq_119 hD hth r0
  have cr_0_89 := fdq_120 hD hth r0
  have cr_0_90 := fdq_226 hD hth r0
  have cr_0_91 := fdq_227 hD hth r0
  have cr_0_92 := fdq_228 hD hth r0
  have hK_0_82 := elq_141 hD hth cr_0_82
  have hK_0_83 := elq_64 hD hth cr_0_83
  have hK_0_84 := elq_65 hD hth cr_0_84
  have hK_0_85 := elq_66 hD hth cr_0_85
  have hK_0_86 := elq_67 hD hth cr_0_86
  have hK_0_87 := elq_59 hD hth cr_0_87
  have hK_0_88 := elq_60 hD hth cr_0_88
  have hK_0_89 := elq_61 hD hth cr_0_89
  have hK_0_90 := elq_142 hD hth cr_0_90
  have hK_0_91 := elq_143 hD hth cr_0_91
  have hK_0_92 := elq_144 hD hth cr_0_92
  have kz_0_79 := fdq_146 hD hth r0
  have kz_0_80 := fdq_130 hD hth r0
  have kz_0_81 := fdq_123 hD hth r0
  obtain ⟨x, ex, hx⟩ := iv_ex (ta := ta) (lo := (-2)) (hi := 80) (z := (-1) + (1 * v_iv (n_v vs 13) + 0)) (by omega) (by omega) (by omega) (by omega)
  have ex2 : v_iv (Value.int x) = (-1) + (1 * v_iv (n_v vs 13) + 0) := ex
  have ex3 : (-2) ≤ v_iv (Value.int x) ∧ v_iv (Value.int x) ≤ 80 := tv_rng hx
  have e_0 : n_v (vs ++ [Value.int x]) 0 = n_v vs 0 := n_v_old (by rw [hl]; decide)
  have e_1 : n_v (vs ++ [Value.int x]) 1 = n_v vs 1 := n_v_old (by rw [hl]; decide)
  have e_2 : n_v (vs ++ [Value.int x]) 2 = n_v vs 2 := n_v_old (by rw [hl]; decide)
  have e_3 : n_v (vs ++ [Value.int x]) 3 = n_v vs 3 := n_v_old (by rw [hl]; decide)
  have e_4 : n_v (vs ++ [Value.int x]) 4 = n_v vs 4 := n_v_old (by rw [hl]; decide)
  have e_5 : n_v (vs ++ [Value.int x]) 5 = n_v vs 5 := n_v_old (by rw [hl]; decide)
  have e_6 : n_v (vs ++ [Value.int x]) 6 = n_v vs 6 := n_v_old (by rw [hl]; decide)
  have e_7 : n_v (vs ++ [Value.int x]) 7 = n_v vs 7 := n_v_old (by rw [hl]; decide)
  have e_8 : n_v (vs ++ [Value.int x]) 8 = n_v vs 8 := n_v_old (by rw [hl]; decide)
  have e_10 : n_v (vs ++ [Value.int x]) 10 = n_v vs 10 := n_v_old (by rw [hl]; decide)
  have e_11 : n_v (vs ++ [Value.int x]) 11 = n_v vs 11 := n_v_old (by rw [hl]; decide)
  have e_12 : n_v (vs ++ [Value.int x]) 12 = n_v vs 12 := n_v_old (by rw [hl]; decide)
  have e_14 : n_v (vs ++ [Value.int x]) 14 = Value.int x := n_v_new hl
  have nf0 : fc_1 PRD (20, [7, 6], [50, 0, 0, 0, 6, 4, 2, 1, 0, 0, 1, 1, 1]) ws (vs ++ [Value.int x]) := by
    refine ⟨nf_inA hl rfl, sgq_409 ?_⟩
    · show (v_iv (n_v (vs ++ [Value.int x]) 7) + 1) ≤ v_iv (n_v (vs ++ [Value.int x]) 6)
      simp only [e_6, e_7, q6, q7]
      exact vc_Mo_augment_20_0 (v_iv (n_v vs 1)) (v_iv (n_v vs 2)) k1 k2 f0
  have nf1 : fc_1 PRD (20, [8, 6], [50, 0, 0, 0, 6, 4, 2, 1, 0, 0, 1, 1, 1]) ws (vs ++ [Value.int x]) := by
    refine ⟨nf_inA hl rfl, sgq_409 ?_⟩
    · show (v_iv (n_v (vs ++ [Value.int x]) 8) + 1) ≤ v_iv (n_v (vs ++ [Value.int x]) 6)
      simp only [e_6, e_8, q6, q8]
      exact vc_Mo_augment_20_1 (v_iv (n_v vs 1)) (v_iv (n_v vs 3)) k1 k3 f1
  have nf2 : fc_1 PRD (20, [6], [50, 0, 0, 0, 2, 1, 0, 0, 78]) ws (vs ++ [Value.int x]) := by
    refine ⟨nf_inA hl rfl, sgq_913 ?_⟩
    · show v_iv (n_v (vs ++ [Value.int x]) 6) ≤ 78
      simp only [e_6, q6]
      exact vc_Mo_augment_20_2 (v_iv (n_v vs 1)) k1 f2
  have nf3 : fc_1 PRD (20, [6, 5], [50, 1, 0, 1079, 1, 2, 1, 0, 4, 3, 2, 1, 79, 0, 2]) ws (vs ++ [Value.int x]) := by
    refine ⟨nf_inA hl rfl, sgq_914 ?_⟩
    · show v_iv (n_v (vs ++ [Value.int x]) 6) = (w_fi ws (n_v (vs ++ [Value.int x]) 5) 79 + 2)
      simp only [e_5, e_6, q5, q6]
      exact vc_Mo_augment_20_3 (v_iv (n_v vs 1)) (w_fi ws (n_v vs 0) 79) k1 f3 kz_0_79
  have nf4 : fc_1 PRD (20, [7, 5], [50, 1, 0, 1079, 1, 2, 1, 0, 2, 1, 79]) ws (vs ++ [Value.int x]) := by
    refine ⟨nf_inA hl rfl, sgq_915 ?_⟩
    · show v_iv (n_v (vs ++ [Value.int x]) 7) = w_fi ws (n_v (vs ++ [Value.int x]) 5) 79
      simp only [e_5, e_7, q5, q7]
      exact vc_Mo_augment_20_4 (v_iv (n_v vs 2)) (w_fi ws (n_v vs 0) 79) k2 f4 kz_0_79
  have nf5 : fc_1 PRD (20, [8, 5], [50, 1, 0, 1079, 1, 2, 1, 0, 4, 3, 2, 1, 79, 0, 1]) ws (vs ++ [Value.int x]) := by
    refine ⟨nf_inA hl rfl, sgq_916 ?_⟩
    · show v_iv (n_v (vs ++ [Value.int x]) 8) = (w_fi ws (n_v (vs ++ [Value.int x]) 5) 79 + 1)
      simp only [e_5, e_8, q5, q8]
      exact vc_Mo_augment_20_5 (v_iv (n_v vs 3)) (w_fi ws (n_v vs 0) 79) k3 f5 kz_0_79
  have nf6 : fc_1 PRD (20, [5], [60, 3, 9, 397, 79, 80, 81, 90, 82, 83, 84, 85, 86, 87, 88, 89]) ws (vs ++ [Value.int x]) := by
    refine ⟨nf_inA hl rfl, sgq_917 ?_⟩
    · show FLO (w_fi ws (n_v (vs ++ [Value.int x]) 5) 79) (w_fi ws (n_v (vs ++ [Value.int x]) 5) 80) (w_fi ws (n_v (vs ++ [Value.int x]) 5) 81) (w_ei ws (w_ar ws (n_v (vs ++ [Value.int x]) 5) 90)) (w_ei ws (w_ar ws (n_v (vs ++ [Value.int x]) 5) 82)) (w_ei ws (w_ar ws (n_v (vs ++ [Value.int x]) 5) 83)) (w_ei ws (w_ar ws (n_v (vs ++ [Value.int x]) 5) 84)) (w_ei ws (w_ar ws (n_v (vs ++ [Value.int x]) 5) 85)) (w_ei ws (w_ar ws (n_v (vs ++ [Value.int x]) 5) 86)) (w_ei ws (w_ar ws (n_v (vs ++ [Value.int x]) 5) 87)) (w_ei ws (w_ar ws (n_v (vs ++ [Value.int x]) 5) 88)) (w_ei ws (w_ar ws (n_v (vs ++ [Value.int x]) 5) 89))
      simp only [e_5, q5]
      exact vc_Mo_augment_20_6 (w_fi ws (n_v vs 0) 79) (w_ei ws (w_ar ws (n_v vs 0) 90)) (w_ei ws (w_ar ws (n_v vs 0) 82)) (w_ei ws (w_ar ws (n_v vs 0) 83)) (w_ei ws (w_ar ws (n_v vs 0) 84)) (w_ei ws (w_ar ws (n_v vs 0) 85)) (w_ei ws (w_ar ws (n_v vs 0) 86)) (w_ei ws (w_ar ws (n_v vs 0) 87)) (w_ei ws (w_ar ws (n_v vs 0) 88)) (w_ei ws (w_ar ws (n_v vs 0) 89)) (w_fi ws (n_v vs 0) 80) (w_fi ws (n_v vs 0) 81) f6 kz_0_79 kz_0_80 kz_0_81
  have nf7 : fc_1 PRD (20, [5, 4], [60, 1, 1, 398, 79, 90]) ws (vs ++ [Value.int x]) := by
    refine ⟨nf_inA hl rfl, sgq_918 ?_⟩
    · show XLE (w_fi ws (n_v (vs ++ [Value.int x]) 5) 79) (w_ei ws (w_ar ws (n_v (vs ++ [Value.int x]) 5) 90)) (v_iv (n_v (vs ++ [Value.int x]) 4))
      simp only [e_4, e_5, q5]
      exact vc_Mo_augment_20_7 (v_iv (n_v vs 4)) (w_fi ws (n_v vs 0) 79) (w_ei ws (w_ar ws (n_v vs 0) 90)) k4 f7 kz_0_79
  have nf8 : fc_1 PRD (20, [5, 6, 7], [60, 0, 2, 401, 90, 91]) ws (vs ++ [Value.int x]) := by
    refine ⟨nf_inA hl rfl, sgq_922 ?_⟩
    · show FPT (w_ei ws (w_ar ws (n_v (vs ++ [Value.int x]) 5) 90)) (w_ei ws (w_ar ws (n_v (vs ++ [Value.int x]) 5) 91)) (v_iv (n_v (vs ++ [Value.int x]) 6)) (v_iv (n_v (vs ++ [Value.int x]) 7))
      simp only [e_5, e_6, e_7, q5, q6, q7]
      exact vc_Mo_augment_20_8 (v_iv (n_v vs 1)) (v_iv (n_v vs 2)) (w_ei ws (w_ar ws (n_v vs 0) 90)) (w_ei ws (w_ar ws (n_v vs 0) 91)) k1 k2 f8
  have nf9 : fc_1 PRD (20, [5, 6, 7, 8, 12, 11], [60, 0, 2, 407, 90, 91]) ws (vs ++ [Value.int x]) := by
    refine ⟨nf_inA hl rfl, sgq_935 ?_⟩
    · show MN1 (w_ei ws (w_ar ws (n_v (vs ++ [Value.int x]) 5) 90)) (w_ei ws (w_ar ws (n_v (vs ++ [Value.int x]) 5) 91)) (v_iv (n_v (vs ++ [Value.int x]) 6)) (v_iv (n_v (vs ++ [Value.int x]) 7)) (v_iv (n_v (vs ++ [Value.int x]) 8)) (v_iv (n_v (vs ++ [Value.int x]) 12)) (v_iv (n_v (vs ++ [Value.int x]) 11))
      simp only [e_5, e_6, e_7, e_8, e_11, e_12, q5, q6, q7, q8]
      exact vc_Mo_augment_20_9 (v_iv (n_v vs 1)) (v_iv (n_v vs 2)) (v_iv (n_v vs 3)) (v_iv (n_v vs 11)) (v_iv (n_v vs 12)) (w_ei ws (w_ar ws (n_v vs 0) 90)) (w_ei ws (w_ar ws (n_v vs 0) 91)) k1 k2 k3 k11 k12 f9
  have nf10 : fc_1 PRD (20, [5, 6, 7, 10, 12, 14], [60, 0, 2, 394, 92, 91]) ws (vs ++ [Value.int x]) := by
    refine ⟨nf_inA hl rfl, sgq_927 ?_⟩
    · show AUW (w_ei ws (w_ar ws (n_v (vs ++ [Value.int x]) 5) 92)) (w_ei ws (w_ar ws (n_v (vs ++ [Value.int x]) 5) 91)) (v_iv (n_v (vs ++ [Value.int x]) 6)) (v_iv (n_v (vs ++ [Value.int x]) 7)) (v_iv (n_v (vs ++ [Value.int x]) 10)) (v_iv (n_v (vs ++ [Value.int x]) 12)) (v_iv (n_v (vs ++ [Value.int x]) 14))
      simp only [e_5, e_6, e_7, e_10, e_12, e_14, q5, q6, q7]
      exact vc_Mo_augment_20_10 (v_iv (n_v vs 1)) (v_iv (n_v vs 2)) (v_iv (n_v vs 10)) (v_iv (n_v vs 12)) (v_iv (n_v vs 13)) (w_ei ws (w_ar ws (n_v vs 0) 91)) (w_ei ws (w_ar ws (n_v vs 0) 92)) (v_iv (Value.int x)) k1 k2 k10 k12 k13 f10 ex2
  have nf11 : fc_1 PRD (20, [5, 6, 7, 10, 8], [60, 0, 2, 393, 92, 91]) ws (vs ++ [Value.int x]) := by
    refine ⟨nf_inA hl rfl, sgq_928 ?_⟩
    · show AU2 (w_ei ws (w_ar ws (n_v (vs ++ [Value.int x]) 5) 92)) (w_ei ws (w_ar ws (n_v (vs ++ [Value.int x]) 5) 91)) (v_iv (n_v (vs ++ [Value.int x]) 6)) (v_iv (n_v (vs ++ [Value.int x]) 7)) (v_iv (n_v (vs ++ [Value.int x]) 10)) (v_iv (n_v (vs ++ [Value.int x]) 8))
      simp only [e_5, e_6, e_7, e_8, e_10, q5, q6, q7, q8]
      exact vc_Mo_augment_20_11 (v_iv (n_v vs 1)) (v_iv (n_v vs 2)) (v_iv (n_v vs 3)) (v_iv (n_v vs 10)) (w_ei ws (w_ar ws (n_v vs 0) 91)) (w_ei ws (w_ar ws (n_v vs 0) 92)) k1 k2 k3 k10 f11
  have nf12 : fc_1 PRD (24, [0, 5], []) ws (vs ++ [Value.int x]) := by
    refine ⟨nf_inA hl rfl, sgq_5 ?_⟩
    · show n_v (vs ++ [Value.int x]) 0 = n_v (vs ++ [Value.int x]) 5
      first | rfl | simp only [e_0, e_5, q5, q6, q7, q8]
  have nf13 : fc_1 PRD (24, [1, 6], []) ws (vs ++ [Value.int x]) := by
    refine ⟨nf_inA hl rfl, sgq_5 ?_⟩
    · show n_v (vs ++ [Value.int x]) 1 = n_v (vs ++ [Value.int x]) 6
      first | rfl | simp only [e_1, e_6, q5, q6, q7, q8]
  have nf14 : fc_1 PRD (24, [2, 7], []) ws (vs ++ [Value.int x]) := by
    refine ⟨nf_inA hl rfl, sgq_5 ?_⟩
    · show n_v (vs ++ [Value.int x]) 2 = n_v (vs ++ [Value.int x]) 7
      first | rfl | simp only [e_2, e_7, q5, q6, q7, q8]
  have nf15 : fc_1 PRD (24, [3, 8], []) ws (vs ++ [Value.int x]) := by
    refine ⟨nf_inA hl rfl, sgq_5 ?_⟩
    · show n_v (vs ++ [Value.int x]) 3 = n_v (vs ++ [Value.int x]) 8
      first | rfl | simp only [e_3, e_8, q5, q6, q7, q8]
  obtain ⟨x0, e0, _, _⟩ := tv_int t13 rfl
  have e1 : v_iv (n_v vs 13) = x0.toInt := by rw [e0]; rfl
  have ho : sy_ofs (vs ++ [Value.int x]) (14, 13, -1000000000000, -1) := by
    refine ⟨x, x0, by rw [List.getElem?_append_right (by rw [hl]; decide), hl]; rfl, ?_, ?_, ?_⟩
    · rw [List.getElem?_append_left (by rw [hl]; decide)]; exact n_v_some (by rw [hl]; decide) e0
    · show x0.toInt + (-1000000000000) ≤ x.toInt; omega
    · show x.toInt ≤ x0.toInt + (-1); omega
  exact ⟨(fun _ h => (by cases h)), [Value.int x], ag_one hx, List.forall_mem_cons.mpr ⟨⟨show (20 : Nat) < 100 from by decide, nf0⟩, List.forall_mem_cons.mpr ⟨⟨show (20 : Nat) < 100 from by decide, nf1⟩, List.forall_mem_cons.mpr ⟨⟨show (20 : Nat) < 100 from by decide, nf2⟩, List.forall_mem_cons.mpr ⟨⟨show (20 : Nat) < 100 from by decide, nf3⟩, List.forall_mem_cons.mpr ⟨⟨show (20 : Nat) < 100 from by decide, nf4⟩, List.forall_mem_cons.mpr ⟨⟨show (20 : Nat) < 100 from by decide, nf5⟩, List.forall_mem_cons.mpr ⟨⟨show (20 : Nat) < 100 from by decide, nf6⟩, List.forall_mem_cons.mpr ⟨⟨show (20 : Nat) < 100 from by decide, nf7⟩, List.forall_mem_cons.mpr ⟨⟨show (20 : Nat) < 100 from by decide, nf8⟩, List.forall_mem_cons.mpr ⟨⟨show (20 : Nat) < 100 from by decide, nf9⟩, List.forall_mem_cons.mpr ⟨⟨show (20 : Nat) < 100 from by decide, nf10⟩, List.forall_mem_cons.mpr ⟨⟨show (20 : Nat) < 100 from by decide, nf11⟩, List.forall_mem_cons.mpr ⟨⟨show (24 : Nat) < 100 from by decide, nf12⟩, List.forall_mem_cons.mpr ⟨⟨show (24 : Nat) < 100 from by decide, nf13⟩, List.forall_mem_cons.mpr ⟨⟨show (24 : Nat) < 100 from by decide, nf14⟩, List.forall_mem_cons.mpr ⟨⟨show (24 : Nat) < 100 from by decide, nf15⟩, (fun _ h => (by cases h))⟩⟩⟩⟩⟩⟩⟩⟩⟩⟩⟩⟩⟩⟩⟩⟩, List.forall_mem_cons.mpr ⟨ho, (fun _ h => (by cases h))⟩⟩
set_option maxHeartbeats 4000000 in
theorem vc_Mo_augment_21_0 (x2 : Int) (x4 : Int) (x7 : Int) (x11 : Int) (x12 : Int) (pointMany_0 : Int) (flow_0 : Int → Int) (cameBy_0 : Int → Int) (spot_0 : Int → Int) (costA_0 : Int → Int) (costB_0 : Int → Int) (costW_0 : Int → Int) (costPlain_0 : Int → Int) (apartA_0 : Int → Int) (apartB_0 : Int → Int) (apart_0 : Int → Int) (costMany_0 : Int) (apartMany_0 : Int) (k2 : 0 ≤ x2 ∧ x2 ≤ 76) (k4 : (-2) ≤ x4 ∧ x4 ≤ 180000001) (k7 : 0 ≤ x7 ∧ x7 ≤ 76) (k11 : 0 ≤ x11 ∧ x11 ≤ 1000000) (k12 : 0 ≤ x12 ∧ x12 ≤ 76) (d0 : x7 + 0 ≤ x12 ∧ x12 ≤ x7 + 0) (d2 : x7 + (-4294967296) ≤ x2 ∧ x2 ≤ x7 + 0) (d5 : x2 + (-4294967296) ≤ x7 ∧ x7 ≤ x2 + 0) (f5 : x2 = pointMany_0) (f7 : PSH (pointMany_0) (costMany_0) (apartMany_0) (flow_0) (cameBy_0) (spot_0) (costA_0) (costB_0) (costW_0) (costPlain_0) (apartA_0) (apartB_0) (apart_0) (x11) (x12) (x4)) (kz_0_79 : 0 ≤ pointMany_0 ∧ pointMany_0 ≤ 76) (kz_0_80 : 0 ≤ costMany_0 ∧ costMany_0 ≤ 200) (kz_0_81 : 0 ≤ apartMany_0 ∧ apartMany_0 ≤ 200) : FLO (pointMany_0) (costMany_0) (apartMany_0) (flow_0) (spot_0) (costA_0) (costB_0) (costW_0) (costPlain_0) (apartA_0) (apartB_0) (apart_0) := by
  first
    | assumption
    | exact (psh_end ‹PSH _ _ _ _ _ _ _ _ _ _ _ _ _ _ _ _› (by omega)).1
set_option maxHeartbeats 4000000 in
theorem vc_Mo_augment_21_1 (x2 : Int) (x4 : Int) (x7 : Int) (x11 : Int) (x12 : Int) (x14 : Int) (pointMany_0 : Int) (flow_0 : Int → Int) (cameBy_0 : Int → Int) (spot_0 : Int → Int) (costA_0 : Int → Int) (costB_0 : Int → Int) (costW_0 : Int → Int) (costPlain_0 : Int → Int) (apartA_0 : Int → Int) (apartB_0 : Int → Int) (apart_0 : Int → Int) (costMany_0 : Int) (apartMany_0 : Int) (k2 : 0 ≤ x2 ∧ x2 ≤ 76) (k4 : (-2) ≤ x4 ∧ x4 ≤ 180000001) (k7 : 0 ≤ x7 ∧ x7 ≤ 76) (k11 : 0 ≤ x11 ∧ x11 ≤ 1000000) (k12 : 0 ≤ x12 ∧ x12 ≤ 76) (k14 : 1 ≤ x14 ∧ x14 ≤ 1) (d0 : x7 + 0 ≤ x12 ∧ x12 ≤ x7 + 0) (d2 : x7 + (-4294967296) ≤ x2 ∧ x2 ≤ x7 + 0) (d5 : x2 + (-4294967296) ≤ x7 ∧ x7 ≤ x2 + 0) (f5 : x2 = pointMany_0) (f7 : PSH (pointMany_0) (costMany_0) (apartMany_0) (flow_0) (cameBy_0) (spot_0) (costA_0) (costB_0) (costW_0) (costPlain_0) (apartA_0) (apartB_0) (apart_0) (x11) (x12) (x4)) (kz_0_79 : 0 ≤ pointMany_0 ∧ pointMany_0 ≤ 76) (kz_0_80 : 0 ≤ costMany_0 ∧ costMany_0 ≤ 200) (kz_0_81 : 0 ≤ apartMany_0 ∧ apartMany_0 ≤ 200) : XLA (pointMany_0) (flow_0) (x14) (x4) := by
  first
    | (intro h; exfalso; omega)
    | (intro _; exact (psh_end ‹PSH _ _ _ _ _ _ _ _ _ _ _ _ _ _ _ _› (by omega)).2)
set_option maxHeartbeats 4000000 in
theorem vc_Mo_augment_21_2 (x1 : Int) (x2 : Int) (x3 : Int) (x14 : Int) (flow_0 : Int → Int) (cameBy_0 : Int → Int) (k1 : 2 ≤ x1 ∧ x1 ≤ 78) (k2 : 0 ≤ x2 ∧ x2 ≤ 76) (k3 : 1 ≤ x3 ∧ x3 ≤ 77) (k14 : 1 ≤ x14 ∧ x14 ≤ 1) : CTA (flow_0) (cameBy_0) (x1) (x2) (x3) (x14) := by
  first
    | (intro h; exfalso; omega)
    | (intro _; exact cut_of ‹AU1 _ _ _ _ _› ‹FPT _ _ _ _› ‹BF1 _ _ _ _ _› (by omega) (by omega))
def o_Mo_augment_21 : or_T := (256, 15, [(0, (2, 0, 0, [165])), (1, (0, 2, 78, [])), (2, (0, 0, 76, [])), (3, (0, 1, 77, [])), (4, (0, -2, 180000001, [])), (7, (0, 0, 76, [])), (11, (0, 0, 1000000, [])), (12, (0, 0, 76, [])), (14, (0, 1, 1, []))], [(20, [7, 5], [50, 1, 0, 1079, 1, 2, 1, 0, 2, 1, 79]), (20, [5, 11, 12, 4], [60, 3, 10, 408, 79, 80, 81, 90, 91, 82, 83, 84, 85, 86, 87, 88, 89]), (24, [0, 5], []), (24, [2, 7], [])], [], [], [(20, [0], [60, 3, 9, 397, 79, 80, 81, 90, 82, 83, 84, 85, 86, 87, 88, 89]), (20, [0, 14, 4], [60, 1, 1, 400, 79, 90]), (20, [0, 1, 2, 3, 14], [60, 0, 2, 405, 90, 91])], [], [(12, 7, 0, 0), (2, 7, -4294967296, 0), (7, 2, -4294967296, 0)])
theorem oo_Mo_augment_21 {kA : Nat → ClassId} : or_ok PRD kA GG o_Mo_augment_21 := by
  refine or_mk fun A ta ws vs hD hth hl => ?_
  intro t0 r0 t1 k1 t2 k2 t3 k3 t4 k4 t7 k7 t11 k11 t12 k12 t14 k14 d0 d2 d5 f5 f7 f9 f11
  replace f5 := shm_915 f5
  replace f7 := shm_936 f7
  replace f9 := shm_5 f9
  replace f11 := shm_5 f11
  have q5 : n_v vs 5 = n_v vs 0 := f9.symm
  have q7 : n_v vs 7 = n_v vs 2 := f11.symm
  simp only [q7, q5] at f5 f7
  have kz_0_79 := fdq_146 hD hth r0
  have kz_0_80 := fdq_130 hD hth r0
  have kz_0_81 := fdq_123 hD hth r0
  have nf0 : fc_1 PRD (20, [0], [60, 3, 9, 397, 79, 80, 81, 90, 82, 83, 84, 85, 86, 87, 88, 89]) ws (vs) := ⟨nf_in hl rfl, sgq_917 (vc_Mo_augment_21_0 (v_iv (n_v vs 2)) (v_iv (n_v vs 4)) (v_iv (n_v vs 7)) (v_iv (n_v vs 11)) (v_iv (n_v vs 12)) (w_fi ws (n_v vs 0) 79) (w_ei ws (w_ar ws (n_v vs 0) 90)) (w_ei ws (w_ar ws (n_v vs 0) 91)) (w_ei ws (w_ar ws (n_v vs 0) 82)) (w_ei ws (w_ar ws (n_v vs 0) 83)) (w_ei ws (w_ar ws (n_v vs 0) 84)) (w_ei ws (w_ar ws (n_v vs 0) 85)) (w_ei ws (w_ar ws (n_v vs 0) 86)) (w_ei ws (w_ar ws (n_v vs 0) 87)) (w_ei ws (w_ar ws (n_v vs 0) 88)) (w_ei ws (w_ar ws (n_v vs 0) 89)) (w_fi ws (n_v vs 0) 80) (w_fi ws (n_v vs 0) 81) k2 k4 k7 k11 k12 d0 d2 d5 f5 f7 kz_0_79 kz_0_80 kz_0_81)⟩
  have nf1 : fc_1 PRD (20, [0, 14, 4], [60, 1, 1, 400, 79, 90]) ws (vs) := ⟨nf_in hl rfl, sgq_929 (vc_Mo_augment_21_1 (v_iv (n_v vs 2)) (v_iv (n_v vs 4)) (v_iv (n_v vs 7)) (v_iv (n_v vs 11)) (v_iv (n_v vs 12)) (v_iv (n_v vs 14)) (w_fi ws (n_v vs 0) 79) (w_ei ws (w_ar ws (n_v vs 0) 90)) (w_ei ws (w_ar ws (n_v vs 0) 91)) (w_ei ws (w_ar ws (n_v vs 0) 82)) (w_ei ws (w_ar ws (n_v vs 0) 83)) (w_ei ws (w_ar ws (n_v vs 0) 84)) (w_ei ws (w_ar ws (n_v vs 0) 85)) (w_ei ws (w_ar ws (n_v vs 0) 86)) (w_ei ws (w_ar ws (n_v vs 0) 87)) (w_ei ws (w_ar ws (n_v vs 0) 88)) (w_ei ws (w_ar ws (n_v vs 0) 89)) (w_fi ws (n_v vs 0) 80) (w_fi ws (n_v vs 0) 81) k2 k4 k7 k11 k12 k14 d0 d2 d5 f5 f7 kz_0_79 kz_0_80 kz_0_81)⟩
  have nf2 : fc_1 PRD (20, [0, 1, 2, 3, 14], [60, 0, 2, 405, 90, 91]) ws (vs) := ⟨nf_in hl rfl, sgq_930 (vc_Mo_augment_21_2 (v_iv (n_v vs 1)) (v_iv (n_v vs 2)) (v_iv (n_v vs 3)) (v_iv (n_v vs 14)) (w_ei ws (w_ar ws (n_v vs 0) 90)) (w_ei ws (w_ar ws (n_v vs 0) 91)) k1 k2 k3 k14)⟩
  refine ⟨(fun _ h => (by cases h)), [], trivial, ?_, (fun _ h => (by cases h))⟩
  rw [List.append_nil]
  exact List.forall_mem_cons.mpr ⟨⟨show (20 : Nat) < 100 from by decide, nf0⟩, List.forall_mem_cons.mpr ⟨⟨show (20 : Nat) < 100 from by decide, nf1⟩, List.forall_mem_cons.mpr ⟨⟨show (20 : Nat) < 100 from by decide, nf2⟩, (fun _ h => (by cases h))⟩⟩⟩
set_option maxHeartbeats 4000000 in
theorem vc_Mo_augment_22_r0 (x1 : Int) (x2 : Int) (x10 : Int) (x12 : Int) (x13 : Int) (x16 : Int) (cameBy_0 : Int → Int) (queue_0 : Int → Int) (k1 : 2 ≤ x1 ∧ x1 ≤ 78) (k2 : 0 ≤ x2 ∧ x2 ≤ 76) (k10 : 1 ≤ x10 ∧ x10 ≤ 79) (k12 : 0 ≤ x12 ∧ x12 ≤ 77) (k13 : (-2) ≤ x13 ∧ x13 ≤ 80) (k16 : (-1) ≤ x16 ∧ x16 ≤ 77) (h0 : x16 = cameBy_0 (x12)) (f3 : x12 ≠ x2) (f11 : AUW (queue_0) (cameBy_0) (x1) (x2) (x10) (x12) (x13)) : 0 ≤ x16 ∧ x16 ≤ 77 := by
  have h := auw_step (g_zq := 80) ‹AUW _ _ _ _ _ _ _› (by omega) (by assumption) (by omega)
  omega
def o_Mo_augment_22 : or_T := (211, 17, [(0, (2, 0, 0, [165])), (1, (0, 2, 78, [])), (2, (0, 0, 76, [])), (3, (0, 1, 77, [])), (4, (0, -2, 180000001, [])), (5, (2, 0, 0, [165])), (6, (0, 2, 79, [])), (7, (0, 0, 76, [])), (8, (0, 1, 77, [])), (10, (0, 1, 79, [])), (11, (0, 0, 1000000, [])), (12, (0, 0, 77, [])), (13, (0, -2, 80, [])), (14, (2, 0, 0, [227])), (15, (2, 0, 0, [228])), (16, (0, -1, 77, []))], [(10, [16, 15, 12], []), (9, [15, 5], [91]), (9, [14, 5], [90]), (7, [12, 7], [1]), (20, [7, 6], [50, 0, 0, 0, 6, 4, 2, 1, 0, 0, 1, 1, 1]), (20, [8, 6], [50, 0, 0, 0, 6, 4, 2, 1, 0, 0, 1, 1, 1]), (20, [6], [50, 0, 0, 0, 2, 1, 0, 0, 78]), (20, [6, 5], [50, 1, 0, 1079, 1, 2, 1, 0, 4, 3, 2, 1, 79, 0, 2]), (20, [7, 5], [50, 1, 0, 1079, 1, 2, 1, 0, 2, 1, 79]), (20, [8, 5], [50, 1, 0, 1079, 1, 2, 1, 0, 4, 3, 2, 1, 79, 0, 1]), (20, [5, 11, 12, 4], [60, 3, 10, 408, 79, 80, 81, 90, 91, 82, 83, 84, 85, 86, 87, 88, 89]), (20, [5, 6, 7, 10, 12, 13], [60, 0, 2, 394, 92, 91]), (24, [0, 5], []), (24, [1, 6], []), (24, [2, 7], []), (24, [3, 8], [])], [(16, (0, 0, 77, []))], [], [], [], [(1, 6, -4294967296, 0), (2, 7, -4294967296, 0), (3, 8, -4294967296, 0), (6, 1, -4294967296, 0), (7, 2, -4294967296, 0), (8, 3, -4294967296, 0)])
theorem oo_Mo_augment_22 {kA : Nat → ClassId} : or_ok PRD kA GG o_Mo_augment_22 := by
  refine or_mk fun A ta ws vs hD hth hl => ?_
  intro t0 r0 t1 k1 t2 k2 t3 k3 t4 k4 t5 r5 t6 k6 t7 k7 t8 k8 t10 k10 t11 k11 t12 k12 t13 k13 t14 r14 t15 r15 t16 k16 d0 d1 d2 d3 d4 d5 f0 f1 f2 f3 f4 f5 f6 f7 f8 f9 f10 f11 f12 f13 f14 f15
  replace f0 := shm_106 f0
  replace f1 := shm_921 f1
  replace f3 := shm_40 f3
  replace f11 := shm_927 f11
  replace f12 := shm_5 f12
  replace f13 := shm_5 f13
  replace f14 := shm_5 f14
  have q5 : n_v vs 5 = n_v vs 0 := f12.symm
  have q6 : n_v vs 6 = n_v vs 1 := f13.symm
  have q7 : n_v vs 7 = n_v vs 2 := f14.symm
  simp only [q5, q7, q6] at f1 f3 f11
  have ad_15 : v_ad (n_v vs 15) = w_ar ws (n_v vs 0) 91 := congrArg v_ad f1
  simp only [ad_15] at f0
  have h0 : v_iv (n_v vs 16) = w_ei ws (w_ar ws (n_v vs 0) 91) (v_iv (n_v vs 12)) := f0
  have hrf0 : 0 ≤ v_iv (n_v vs 16) ∧ v_iv (n_v vs 16) ≤ 77 := vc_Mo_augment_22_r0 (v_iv (n_v vs 1)) (v_iv (n_v vs 2)) (v_iv (n_v vs 10)) (v_iv (n_v vs 12)) (v_iv (n_v vs 13)) (v_iv (n_v vs 16)) (w_ei ws (w_ar ws (n_v vs 0) 91)) (w_ei ws (w_ar ws (n_v vs 0) 92)) k1 k2 k10 k12 k13 k16 h0 f3 f11
  have rf16 : tv_ok ta (0, 0, 77, []) (n_v vs 16) := tv_in t16 (by first | omega | grind) (by first | omega | grind)
  refine ⟨List.forall_mem_cons.mpr ⟨rf16, (fun _ h => (by cases h))⟩, [], trivial, ?_, (fun _ h => (by cases h))⟩
  rw [List.append_nil]
  exact (fun _ h => (by cases h))
set_option maxHeartbeats 4000000 in
theorem vc_Mo_augment_23_r0 (x1 : Int) (x2 : Int) (x3 : Int) (x6 : Int) (x8 : Int) (x10 : Int) (x12 : Int) (x13 : Int) (x16 : Int) (x17 : Int) (x18 : Int) (cameBy_0 : Int → Int) (pointMany_0 : Int) (queue_0 : Int → Int) (k1 : 2 ≤ x1 ∧ x1 ≤ 78) (k2 : 0 ≤ x2 ∧ x2 ≤ 76) (k3 : 1 ≤ x3 ∧ x3 ≤ 77) (k6 : 2 ≤ x6 ∧ x6 ≤ 79) (k8 : 1 ≤ x8 ∧ x8 ≤ 77) (k10 : 1 ≤ x10 ∧ x10 ≤ 79) (k12 : 0 ≤ x12 ∧ x12 ≤ 77) (k13 : (-2) ≤ x13 ∧ x13 ≤ 80) (k16 : 0 ≤ x16 ∧ x16 ≤ 77) (k17 : 0 ≤ x17 ∧ x17 ≤ 6083) (k18 : 0 ≤ x18 ∧ x18 ≤ 6160) (d1 : x17 + 0 ≤ x18 ∧ x18 ≤ x17 + 77) (d2 : x6 + (-4294967296) ≤ x1 ∧ x1 ≤ x6 + 0) (d4 : x8 + (-4294967296) ≤ x3 ∧ x3 ≤ x8 + 0) (d5 : x1 + (-4294967296) ≤ x6 ∧ x6 ≤ x1 + 0) (d7 : x3 + (-4294967296) ≤ x8 ∧ x8 ≤ x3 + 0) (f0 : x18 = x17 + x12) (f1 : x17 = x1 * x16) (h2 : x16 = cameBy_0 (x12)) (f8 : x1 ≤ 78) (f9 : x1 = (pointMany_0 + 2)) (f11 : x3 = (pointMany_0 + 1)) (f13 : AUW (queue_0) (cameBy_0) (x1) (x2) (x10) (x12) (x13)) (kz_0_79 : 0 ≤ pointMany_0 ∧ pointMany_0 ≤ 76) : 0 ≤ x18 ∧ x18 ≤ 6083 := by
  have h := auw_bd ‹AUW _ _ _ _ _ _ _›
  refine au_idx (by assumption) (by assumption) ?_ ?_ ?_ ?_ ?_ ?_ <;> omega
def o_Mo_augment_23 : or_T := (215, 19, [(0, (2, 0, 0, [165])), (1, (0, 2, 78, [])), (2, (0, 0, 76, [])), (3, (0, 1, 77, [])), (4, (0, -2, 180000001, [])), (5, (2, 0, 0, [165])), (6, (0, 2, 79, [])), (7, (0, 0, 76, [])), (8, (0, 1, 77, [])), (10, (0, 1, 79, [])), (11, (0, 0, 1000000, [])), (12, (0, 0, 77, [])), (13, (0, -2, 80, [])), (14, (2, 0, 0, [227])), (15, (2, 0, 0, [228])), (16, (0, 0, 77, [])), (17, (0, 0, 6083, [])), (18, (0, 0, 6160, []))], [(1, [18, 17, 12], []), (3, [17, 6, 16], []), (10, [16, 15, 12], []), (9, [15, 5], [91]), (9, [14, 5], [90]), (7, [12, 7], [1]), (20, [7, 6], [50, 0, 0, 0, 6, 4, 2, 1, 0, 0, 1, 1, 1]), (20, [8, 6], [50, 0, 0, 0, 6, 4, 2, 1, 0, 0, 1, 1, 1]), (20, [6], [50, 0, 0, 0, 2, 1, 0, 0, 78]), (20, [6, 5], [50, 1, 0, 1079, 1, 2, 1, 0, 4, 3, 2, 1, 79, 0, 2]), (20, [7, 5], [50, 1, 0, 1079, 1, 2, 1, 0, 2, 1, 79]), (20, [8, 5], [50, 1, 0, 1079, 1, 2, 1, 0, 4, 3, 2, 1, 79, 0, 1]), (20, [5, 11, 12, 4], [60, 3, 10, 408, 79, 80, 81, 90, 91, 82, 83, 84, 85, 86, 87, 88, 89]), (20, [5, 6, 7, 10, 12, 13], [60, 0, 2, 394, 92, 91]), (24, [0, 5], []), (24, [1, 6], []), (24, [2, 7], []), (24, [3, 8], [])], [(18, (0, 0, 6083, []))], [], [], [], [(18, 12, 0, 6083), (18, 17, 0, 77), (1, 6, -4294967296, 0), (2, 7, -4294967296, 0), (3, 8, -4294967296, 0), (6, 1, -4294967296, 0), (7, 2, -4294967296, 0), (8, 3, -4294967296, 0)])
theorem oo_Mo_augment_23 {kA : Nat → ClassId} : or_ok PRD kA GG o_Mo_augment_23 := by
  refine or_mk fun A ta ws vs hD hth hl => ?_
  intro t0 r0 t1 k1 t2 k2 t3 k3 t4 k4 t5 r5 t6 k6 t7 k7 t8 k8 t10 k10 t11 k11 t12 k12 t13 k13 t14 r14 t15 r15 t16 k16 t17 k17 t18 k18 d0 d1 d2 d3 d4 d5 d6 d7 f0 f1 f2 f3 f4 f5 f6 f7 f8 f9 f10 f11 f12 f13 f14 f15 f16 f17
  replace f1 := shm_38 f1
  replace f2 := shm_106 f2
  replace f3 := shm_921 f3
  replace f8 := shm_913 f8
  replace f9 := shm_914 f9
  replace f11 := shm_916 f11
  replace f13 := shm_927 f13
  replace f14 := shm_5 f14
  replace f15 := shm_5 f15
  replace f16 := shm_5 f16
  replace f17 := shm_5 f17
  have q5 : n_v vs 5 = n_v vs 0 := f14.symm
  have q6 : n_v vs 6 = n_v vs 1 := f15.symm
  have q7 : n_v vs 7 = n_v vs 2 := f16.symm
  have q8 : n_v vs 8 = n_v vs 3 := f17.symm
  simp only [q6, q5, q7, q8] at f1 f3 f8 f9 f11 f13
  have ad_15 : v_ad (n_v vs 15) = w_ar ws (n_v vs 0) 91 := congrArg v_ad f3
  simp only [ad_15] at f2
  have h2 : v_iv (n_v vs 16) = w_ei ws (w_ar ws (n_v vs 0) 91) (v_iv (n_v vs 12)) := f2
  have kz_0_79 := fdq_146 hD hth r0
  have hrf0 : 0 ≤ v_iv (n_v vs 18) ∧ v_iv (n_v vs 18) ≤ 6083 := vc_Mo_augment_23_r0 (v_iv (n_v vs 1)) (v_iv (n_v vs 2)) (v_iv (n_v vs 3)) (v_iv (n_v vs 6)) (v_iv (n_v vs 8)) (v_iv (n_v vs 10)) (v_iv (n_v vs 12)) (v_iv (n_v vs 13)) (v_iv (n_v vs 16)) (v_iv (n_v vs 17)) (v_iv (n_v vs 18)) (w_ei ws (w_ar ws (n_v vs 0) 91)) (w_fi ws (n_v vs 0) 79) (w_ei ws (w_ar ws (n_v vs 0) 92)) k1 k2 k3 k6 k8 k10 k12 k13 k16 k17 k18 d1 d2 d4 d5 d7 (shm_12 f0) f1 h2 f8 f9 f11 f13 kz_0_79
  have rf18 : tv_ok ta (0, 0, 6083, []) (n_v vs 18) := tv_in t18 (by first | omega | grind) (by first | omega | grind)
  refine ⟨List.forall_mem_cons.mpr ⟨rf18, (fun _ h => (by cases h))⟩, [], trivial, ?_, (fun _ h => (by cases h))⟩
  rw [List.append_nil]
  exact (fun _ h => (by cases h))
set_option maxHeartbeats 4000000 in
theorem vc_Mo_augment_24_r0 (x1 : Int) (x2 : Int) (x4 : Int) (x10 : Int) (x11 : Int) (x12 : Int) (x13 : Int) (x16 : Int) (x17 : Int) (x18 : Int) (x19 : Int) (x20 : Int) (flow_0 : Int → Int) (cameBy_0 : Int → Int) (pointMany_0 : Int) (spot_0 : Int → Int) (costA_0 : Int → Int) (costB_0 : Int → Int) (costW_0 : Int → Int) (costPlain_0 : Int → Int) (apartA_0 : Int → Int) (apartB_0 : Int → Int) (apart_0 : Int → Int) (costMany_0 : Int) (apartMany_0 : Int) (queue_0 : Int → Int) (k1 : 2 ≤ x1 ∧ x1 ≤ 78) (k2 : 0 ≤ x2 ∧ x2 ≤ 76) (k4 : (-2) ≤ x4 ∧ x4 ≤ 180000001) (k10 : 1 ≤ x10 ∧ x10 ≤ 79) (k11 : 0 ≤ x11 ∧ x11 ≤ 1000000) (k12 : 0 ≤ x12 ∧ x12 ≤ 77) (k13 : (-2) ≤ x13 ∧ x13 ≤ 80) (k16 : 0 ≤ x16 ∧ x16 ≤ 77) (k17 : 0 ≤ x17 ∧ x17 ≤ 6083) (k18 : 0 ≤ x18 ∧ x18 ≤ 6083) (k19 : 0 ≤ x19 ∧ x19 ≤ 410000000) (k20 : (-1000000) ≤ x20 ∧ x20 ≤ 410000000) (f0 : x20 = x19 - x11) (h1 : x19 = flow_0 (x18)) (f2 : x18 = x17 + x12) (f3 : x17 = x1 * x16) (h4 : x16 = cameBy_0 (x12)) (f7 : x12 ≠ x2) (f11 : x1 = (pointMany_0 + 2)) (f12 : x2 = pointMany_0) (f14 : PSH (pointMany_0) (costMany_0) (apartMany_0) (flow_0) (cameBy_0) (spot_0) (costA_0) (costB_0) (costW_0) (costPlain_0) (apartA_0) (apartB_0) (apart_0) (x11) (x12) (x4)) (f15 : AUW (queue_0) (cameBy_0) (x1) (x2) (x10) (x12) (x13)) (kz_0_79 : 0 ≤ pointMany_0 ∧ pointMany_0 ≤ 76) (kz_0_80 : 0 ≤ costMany_0 ∧ costMany_0 ≤ 200) (kz_0_81 : 0 ≤ apartMany_0 ∧ apartMany_0 ≤ 200) : 0 ≤ x20 ∧ x20 ≤ 410000000 := by
  exact psh_bdA ‹PSH _ _ _ _ _ _ _ _ _ _ _ _ _ _ _ _› ‹AUW _ _ _ _ _ _ _› (by omega) (by omega) (by assumption) (by omega) (by assumption) (by assumption) (by assumption) (by assumption)
def o_Mo_augment_24 : or_T := (220, 21, [(0, (2, 0, 0, [165])), (1, (0, 2, 78, [])), (2, (0, 0, 76, [])), (3, (0, 1, 77, [])), (4, (0, -2, 180000001, [])), (5, (2, 0, 0, [165])), (6, (0, 2, 79, [])), (7, (0, 0, 76, [])), (8, (0, 1, 77, [])), (10, (0, 1, 79, [])), (11, (0, 0, 1000000, [])), (12, (0, 0, 77, [])), (13, (0, -2, 80, [])), (14, (2, 0, 0, [227])), (15, (2, 0, 0, [228])), (16, (0, 0, 77, [])), (17, (0, 0, 6083, [])), (18, (0, 0, 6083, [])), (19, (0, 0, 410000000, [])), (20, (0, -1000000, 410000000, []))], [(2, [20, 19, 11], []), (10, [19, 14, 18], []), (1, [18, 17, 12], []), (3, [17, 6, 16], []), (10, [16, 15, 12], []), (9, [15, 5], [91]), (9, [14, 5], [90]), (7, [12, 7], [1]), (20, [7, 6], [50, 0, 0, 0, 6, 4, 2, 1, 0, 0, 1, 1, 1]), (20, [8, 6], [50, 0, 0, 0, 6, 4, 2, 1, 0, 0, 1, 1, 1]), (20, [6], [50, 0, 0, 0, 2, 1, 0, 0, 78]), (20, [6, 5], [50, 1, 0, 1079, 1, 2, 1, 0, 4, 3, 2, 1, 79, 0, 2]), (20, [7, 5], [50, 1, 0, 1079, 1, 2, 1, 0, 2, 1, 79]), (20, [8, 5], [50, 1, 0, 1079, 1, 2, 1, 0, 4, 3, 2, 1, 79, 0, 1]), (20, [5, 11, 12, 4], [60, 3, 10, 408, 79, 80, 81, 90, 91, 82, 83, 84, 85, 86, 87, 88, 89]), (20, [5, 6, 7, 10, 12, 13], [60, 0, 2, 394, 92, 91]), (24, [0, 5], []), (24, [1, 6], []), (24, [2, 7], []), (24, [3, 8], [])], [(20, (0, 0, 410000000, []))], [], [], [], [(20, 19, -1000000, 0), (18, 12, 0, 6083), (18, 17, 0, 77), (1, 6, -4294967296, 0), (2, 7, -4294967296, 0), (3, 8, -4294967296, 0), (6, 1, -4294967296, 0), (7, 2, -4294967296, 0), (8, 3, -4294967296, 0)])
theorem oo_Mo_augment_24 {kA : Nat → ClassId} : or_ok PRD kA GG o_Mo_augment_24 := by
  refine or_mk fun A ta ws vs hD hth hl => ?_
  intro t0 r0 t1 k1 t2 k2 t3 k3 t4 k4 t5 r5 t6 k6 t7 k7 t8 k8 t10 k10 t11 k11 t12 k12 t13 k13 t14 r14 t15 r15 t16 k16 t17 k17 t18 k18 t19 k19 t20 k20 d0 d1 d2 d3 d4 d5 d6 d7 d8 f0 f1 f2 f3 f4 f5 f6 f7 f8 f9 f10 f11 f12 f13 f14 f15 f16 f17 f18 f19
  replace f1 := shm_106 f1
  replace f3 := shm_38 f3
  replace f4 := shm_106 f4
  replace f5 := shm_921 f5
  replace f6 := shm_934 f6
  replace f7 := shm_40 f7
  replace f11 := shm_914 f11
  replace f12 := shm_915 f12
  replace f14 := shm_936 f14
  replace f15 := shm_927 f15
  replace f16 := shm_5 f16
  replace f17 := shm_5 f17
  replace f18 := shm_5 f18
  have q5 : n_v vs 5 = n_v vs 0 := f16.symm
  have q6 : n_v vs 6 = n_v vs 1 := f17.symm
  have q7 : n_v vs 7 = n_v vs 2 := f18.symm
  simp only [q6, q5, q7] at f3 f5 f6 f7 f11 f12 f14 f15
  have ad_15 : v_ad (n_v vs 15) = w_ar ws (n_v vs 0) 91 := congrArg v_ad f5
  have ad_14 : v_ad (n_v vs 14) = w_ar ws (n_v vs 0) 90 := congrArg v_ad f6
  simp only [ad_14] at f1
  have h1 : v_iv (n_v vs 19) = w_ei ws (w_ar ws (n_v vs 0) 90) (v_iv (n_v vs 18)) := f1
  simp only [ad_15] at f4
  have h4 : v_iv (n_v vs 16) = w_ei ws (w_ar ws (n_v vs 0) 91) (v_iv (n_v vs 12)) := f4
  have kz_0_79 := fdq_146 hD hth r0
  have kz_0_80 := fdq_130 hD hth r0
  have kz_0_81 := fdq_123 hD hth r0
  have hrf0 : 0 ≤ v_iv (n_v vs 20) ∧ v_iv (n_v vs 20) ≤ 410000000 := vc_Mo_augment_24_r0 (v_iv (n_v vs 1)) (v_iv (n_v vs 2)) (v_iv (n_v vs 4)) (v_iv (n_v vs 10)) (v_iv (n_v vs 11)) (v_iv (n_v vs 12)) (v_iv (n_v vs 13)) (v_iv (n_v vs 16)) (v_iv (n_v vs 17)) (v_iv (n_v vs 18)) (v_iv (n_v vs 19)) (v_iv (n_v vs 20)) (w_ei ws (w_ar ws (n_v vs 0) 90)) (w_ei ws (w_ar ws (n_v vs 0) 91)) (w_fi ws (n_v vs 0) 79) (w_ei ws (w_ar ws (n_v vs 0) 82)) (w_ei ws (w_ar ws (n_v vs 0) 83)) (w_ei ws (w_ar ws (n_v vs 0) 84)) (w_ei ws (w_ar ws (n_v vs 0) 85)) (w_ei ws (w_ar ws (n_v vs 0) 86)) (w_ei ws (w_ar ws (n_v vs 0) 87)) (w_ei ws (w_ar ws (n_v vs 0) 88)) (w_ei ws (w_ar ws (n_v vs 0) 89)) (w_fi ws (n_v vs 0) 80) (w_fi ws (n_v vs 0) 81) (w_ei ws (w_ar ws (n_v vs 0) 92)) k1 k2 k4 k10 k11 k12 k13 k16 k17 k18 k19 k20 (shm_14 f0) h1 (shm_12 f2) f3 h4 f7 f11 f12 f14 f15 kz_0_79 kz_0_80 kz_0_81
  have rf20 : tv_ok ta (0, 0, 410000000, []) (n_v vs 20) := tv_in t20 (by first | omega | grind) (by first | omega | grind)
  refine ⟨List.forall_mem_cons.mpr ⟨rf20, (fun _ h => (by cases h))⟩, [], trivial, ?_, (fun _ h => (by cases h))⟩
  rw [List.append_nil]
  exact (fun _ h => (by cases h))
set_option maxHeartbeats 4000000 in
theorem vc_Mo_augment_25_r0 (x1 : Int) (x2 : Int) (x10 : Int) (x12 : Int) (x13 : Int) (x16 : Int) (x22 : Int) (cameBy_0 : Int → Int) (pointMany_0 : Int) (queue_0 : Int → Int) (cameBy_1 : Int → Int) (pointMany_1 : Int) (spot_1 : Int → Int) (costA_1 : Int → Int) (costB_1 : Int → Int) (costW_1 : Int → Int) (costPlain_1 : Int → Int) (apartA_1 : Int → Int) (apartB_1 : Int → Int) (apart_1 : Int → Int) (costMany_1 : Int) (apartMany_1 : Int) (queue_1 : Int → Int) (costMany_0 : Int) (apartMany_0 : Int) (spot_0 : Int → Int) (costA_0 : Int → Int) (costB_0 : Int → Int) (costW_0 : Int → Int) (costPlain_0 : Int → Int) (apartA_0 : Int → Int) (apartB_0 : Int → Int) (apart_0 : Int → Int) (k1 : 2 ≤ x1 ∧ x1 ≤ 78) (k2 : 0 ≤ x2 ∧ x2 ≤ 76) (k10 : 1 ≤ x10 ∧ x10 ≤ 79) (k12 : 0 ≤ x12 ∧ x12 ≤ 77) (k13 : (-2) ≤ x13 ∧ x13 ≤ 80) (k16 : 0 ≤ x16 ∧ x16 ≤ 77) (k22 : (-1) ≤ x22 ∧ x22 ≤ 77) (h0 : x22 = cameBy_0 (x12)) (h20 : x16 = cameBy_1 (x12)) (f21 : x12 ≠ x2) (f29 : AUW (queue_1) (cameBy_1) (x1) (x2) (x10) (x12) (x13)) (fe_0_79_1 : pointMany_0 = pointMany_1) (fe_0_80_1 : costMany_0 = costMany_1) (fe_0_81_1 : apartMany_0 = apartMany_1) (hE_0_82_1 : ∀ j : Int, spot_0 j = spot_1 j) (hE_0_83_1 : ∀ j : Int, costA_0 j = costA_1 j) (hE_0_84_1 : ∀ j : Int, costB_0 j = costB_1 j) (hE_0_85_1 : ∀ j : Int, costW_0 j = costW_1 j) (hE_0_86_1 : ∀ j : Int, costPlain_0 j = costPlain_1 j) (hE_0_87_1 : ∀ j : Int, apartA_0 j = apartA_1 j) (hE_0_88_1 : ∀ j : Int, apartB_0 j = apartB_1 j) (hE_0_89_1 : ∀ j : Int, apart_0 j = apart_1 j) (hE_0_91_1 : ∀ j : Int, cameBy_0 j = cameBy_1 j) (hE_0_92_1 : ∀ j : Int, queue_0 j = queue_1 j) (kz_0_79 : 0 ≤ pointMany_0 ∧ pointMany_0 ≤ 76) (kz_0_80 : 0 ≤ costMany_0 ∧ costMany_0 ≤ 200) (kz_0_81 : 0 ≤ apartMany_0 ∧ apartMany_0 ≤ 200) : 0 ≤ x22 ∧ x22 ≤ 77 := by
  subst fe_0_79_1
  subst fe_0_80_1
  subst fe_0_81_1
  have e_hE_0_82_1 := funext hE_0_82_1; subst e_hE_0_82_1
  have e_hE_0_83_1 := funext hE_0_83_1; subst e_hE_0_83_1
  have e_hE_0_84_1 := funext hE_0_84_1; subst e_hE_0_84_1
  have e_hE_0_85_1 := funext hE_0_85_1; subst e_hE_0_85_1
  have e_hE_0_86_1 := funext hE_0_86_1; subst e_hE_0_86_1
  have e_hE_0_87_1 := funext hE_0_87_1; subst e_hE_0_87_1
  have e_hE_0_88_1 := funext hE_0_88_1; subst e_hE_0_88_1
  have e_hE_0_89_1 := funext hE_0_89_1; subst e_hE_0_89_1
  have e_hE_0_91_1 := funext hE_0_91_1; subst e_hE_0_91_1
  have e_hE_0_92_1 := funext hE_0_92_1; subst e_hE_0_92_1
  have h := auw_step (g_zq := 80) ‹AUW _ _ _ _ _ _ _› (by omega) (by assumption) (by omega)
  omega
def o_Mo_augment_25 : or_T := (236, 23, [(0, (2, 0, 0, [165])), (1, (0, 2, 78, [])), (2, (0, 0, 76, [])), (3, (0, 1, 77, [])), (4, (0, -2, 180000001, [])), (5, (2, 0, 0, [165])), (6, (0, 2, 79, [])), (7, (0, 0, 76, [])), (8, (0, 1, 77, [])), (10, (0, 1, 79, [])), (11, (0, 0, 1000000, [])), (12, (0, 0, 77, [])), (13, (0, -2, 80, [])), (14, (2, 0, 0, [227])), (15, (2, 0, 0, [228])), (16, (0, 0, 77, [])), (17, (0, 0, 6083, [])), (18, (0, 0, 6083, [])), (19, (0, 0, 410000000, [])), (20, (0, 0, 410000000, [])), (21, (0, 0, 6083, [])), (22, (0, -1, 77, []))], [(10, [22, 15, 12], []), (9, [15, 5], [91]), (3, [21, 6, 12], []), (9, [14, 5], [90]), (20, [7, 6], [50, 0, 0, 0, 6, 4, 2, 1, 0, 0, 1, 1, 1]), (20, [8, 6], [50, 0, 0, 0, 6, 4, 2, 1, 0, 0, 1, 1, 1]), (20, [6], [50, 0, 0, 0, 2, 1, 0, 0, 78]), (20, [6, 5], [50, 1, 0, 1079, 1, 2, 1, 0, 4, 3, 2, 1, 79, 0, 2]), (20, [7, 5], [50, 1, 0, 1079, 1, 2, 1, 0, 2, 1, 79]), (20, [8, 5], [50, 1, 0, 1079, 1, 2, 1, 0, 4, 3, 2, 1, 79, 0, 1]), (20, [5, 6, 7, 10, 12, 13], [60, 0, 2, 394, 92, 91]), (24, [0, 5], []), (24, [1, 6], []), (24, [2, 7], []), (24, [3, 8], []), (100, [14, 18, 20], []), (2, [20, 19, 11], []), (10, [19, 14, 18], []), (1, [18, 17, 12], []), (3, [17, 6, 16], []), (10, [16, 15, 12], []), (7, [12, 7], [1]), (20, [7, 6], [50, 0, 0, 0, 6, 4, 2, 1, 0, 0, 1, 1, 1]), (20, [8, 6], [50, 0, 0, 0, 6, 4, 2, 1, 0, 0, 1, 1, 1]), (20, [6], [50, 0, 0, 0, 2, 1, 0, 0, 78]), (20, [6, 5], [50, 1, 0, 1079, 1, 2, 1, 0, 4, 3, 2, 1, 79, 0, 2]), (20, [7, 5], [50, 1, 0, 1079, 1, 2, 1, 0, 2, 1, 79]), (20, [8, 5], [50, 1, 0, 1079, 1, 2, 1, 0, 4, 3, 2, 1, 79, 0, 1]), (20, [5, 11, 12, 4], [60, 3, 10, 408, 79, 80, 81, 90, 91, 82, 83, 84, 85, 86, 87, 88, 89]), (20, [5, 6, 7, 10, 12, 13], [60, 0, 2, 394, 92, 91])], [(22, (0, 0, 77, []))], [], [], [], [(20, 19, -1000000, 0), (18, 12, 0, 6083), (18, 17, 0, 77), (1, 6, -4294967296, 0), (2, 7, -4294967296, 0), (3, 8, -4294967296, 0), (6, 1, -4294967296, 0), (7, 2, -4294967296, 0), (8, 3, -4294967296, 0)])
theorem oo_Mo_augment_25 {kA : Nat → ClassId} : or_ok PRD kA GG o_Mo_augment_25 := by
  refine or_mk fun A ta ws vs hD hth hl => ?_
  intro t0 r0 t1 k1 t2 k2 t3 k3 t4 k4 t5 r5 t6 k6 t7 k7 t8 k8 t10 k10 t11 k11 t12 k12 t13 k13 t14 r14 t15 r15 t16 k16 t17 k17 t18 k18 t19 k19 t20 k20 t21 k21 t22 k22 d0 d1 d2 d3 d4 d5 d6 d7 d8 f0 f1 f2 f3 f4 f5 f6 f7 f8 f9 f10 f11 f12 f13 f14 ta1 w1 le1 s1 f16 f17 f18 f19 f20 f21 f22 f23 f24 f25 f26 f27 f28 f29
  replace f0 := shm_106 f0
  replace f1 := shm_921 f1
  replace f11 := shm_5 f11
  replace f12 := shm_5 f12
  replace f13 := shm_5 f13
  have s1 : (∀ b j, w_el ws b j = if b = v_ad (n_v vs 14) ∧ j = (v_iv (n_v vs 18)).toNat then v_iv (n_v vs 20) else w_el w1 b j) ∧ ∀ b k, w_fd ws b k = w_fd w1 b k := s1.2
  replace f20 := shm_106 f20
  replace f21 := shm_40 f21
  replace f29 := shm_927 f29
  have q5 : n_v vs 5 = n_v vs 0 := f11.symm
  have q6 : n_v vs 6 = n_v vs 1 := f12.symm
  have q7 : n_v vs 7 = n_v vs 2 := f13.symm
  simp only [q5, q6, q7] at f1 f21 f29
  have ar_0_82_1 : w_ar w1 (n_v vs 0) 82 = w_ar ws (n_v vs 0) 82 := congrArg v_ad (s1.2 _ _).symm
  have cr_0_82 := fdq_225 hD hth r0
  have ar_0_83_1 : w_ar w1 (n_v vs 0) 83 = w_ar ws (n_v vs 0) 83 := congrArg v_ad (s1.2 _ _).symm
  have cr_0_83 := fdq_125 hD hth r0
  have ar_0_84_1 : w_ar w1 (n_v vs 0) 84 = w_ar ws (n_v vs 0) 84 := congrArg v_ad (s1.2 _ _).symm
  have cr_0_84 := fdq_126 hD hth r0
  have ar_0_85_1 : w_ar w1 (n_v vs 0) 85 = w_ar ws (n_v vs 0) 85 := congrArg v_ad (s1.2 _ _).symm
  have cr_0_85 := fdq_127 hD hth r0
  have ar_0_86_1 : w_ar w1 (n_v vs 0) 86 = w_ar ws (n_v vs 0) 86 := congrArg v_ad (s1.2 _ _).symm
  have cr_0_86 := fdq_128 hD hth r0
  have ar_0_87_1 : w_ar w1 (n_v vs 0) 87 = w_ar ws (n_v vs 0) 87 := congrArg v_ad (s1.2 _ _).symm
  have cr_0_87 := fdq_118 hD hth r0
  have ar_0_88_1 : w_ar w1 (n_v vs 0) 88 = w_ar ws (n_v vs 0) 88 := congrArg v_ad (s1.2 _ _).symm
  have cr_0_88 := fdq_119 hD hth r0
  have ar_0_89_1 : w_ar w1 (n_v vs 0) 89 = w_ar ws (n_v vs 0) 89 := congrArg v_ad (s1.2 _ _).symm
  have cr_0_89 := fdq_120 hD hth r0
  have ar_0_90_1 : w_ar w1 (n_v vs 0) 90 = w_ar ws (n_v vs 0) 90 := congrArg v_ad (s1.2 _ _).symm
  have ar_0_91_1 : w_ar w1 (n_v vs 0) 91 = w_ar ws (n_v vs 0) 91 := congrArg v_ad (s1.2 _ _).symm
  have cr_0_91 := fdq_227 hD hth r0
  have ar_0_92_1 : w_ar w1 (n_v vs 0) 92 = w_ar ws (n_v vs 0) 92 := congrArg v_ad (s1.2 _ _).symm
  have cr_0_92 := fdq_228 hD hth r0
  have ad_15 : v_ad (n_v vs 15) = w_ar ws (n_v vs 0) 91 := congrArg v_ad f1
  simp only [ad_15] at f0
  have h0 : v_iv (n_v vs 22) = w_ei ws (w_ar ws (n_v vs 0) 91) (v_iv (n_v vs 12)) := f0
  simp only [ad_15] at f20
  have h20 : v_iv (n_v vs 16) = w_ei w1 (w_ar ws (n_v vs 0) 91) (v_iv (n_v vs 12)) := f20
  simp only [ar_0_82_1, ar_0_83_1, ar_0_84_1, ar_0_85_1, ar_0_86_1, ar_0_87_1, ar_0_88_1, ar_0_89_1, ar_0_90_1, ar_0_91_1, ar_0_92_1] at f29
  have fe_0_79_1 : w_fi ws (n_v vs 0) 79 = w_fi w1 (n_v vs 0) 79 := congrArg v_iv (s1.2 _ _)
  have fe_0_80_1 : w_fi ws (n_v vs 0) 80 = w_fi w1 (n_v vs 0) 80 := congrArg v_iv (s1.2 _ _)
  have fe_0_81_1 : w_fi ws (n_v vs 0) 81 = w_fi w1 (n_v vs 0) 81 := congrArg v_iv (s1.2 _ _)
  have hE_0_82_1 : ∀ j : Int, w_ei ws (w_ar ws (n_v vs 0) 82) j = w_ei w1 (w_ar ws (n_v vs 0) 82) j := el_kp s1.1 r14 cr_0_82 (by decide)
  have hE_0_83_1 : ∀ j : Int, w_ei ws (w_ar ws (n_v vs 0) 83) j = w_ei w1 (w_ar ws (n_v vs 0) 83) j := el_kp s1.1 r14 cr_0_83 (by decide)
  have hE_0_84_1 : ∀ j : Int, w_ei ws (w_ar ws (n_v vs 0) 84) j = w_ei w1 (w_ar ws (n_v vs 0) 84) j := el_kp s1.1 r14 cr_0_84 (by decide)
  have hE_0_85_1 : ∀ j : Int, w_ei ws (w_ar ws (n_v vs 0) 85) j = w_ei w1 (w_ar ws (n_v vs 0) 85) j := el_kp s1.1 r14 cr_0_85 (by decide)
  have hE_0_86_1 : ∀ j : Int, w_ei ws (w_ar ws (n_v vs 0) 86) j = w_ei w1 (w_ar ws (n_v vs 0) 86) j := el_kp s1.1 r14 cr_0_86 (by decide)
  have hE_0_87_1 : ∀ j : Int, w_ei ws (w_ar ws (n_v vs 0) 87) j = w_ei w1 (w_ar ws (n_v vs 0) 87) j := el_kp s1.1 r14 cr_0_87 (by decide)
  have hE_0_88_1 : ∀ j : Int, w_ei ws (w_ar ws (n_v vs 0) 88) j = w_ei w1 (w_ar ws (n_v vs 0) 88) j := el_kp s1.1 r14 cr_0_88 (by decide)
  have hE_0_89_1 : ∀ j : Int, w_ei ws (w_ar ws (n_v vs 0) 89) j = w_ei w1 (w_ar ws (n_v vs 0) 89) j := el_kp s1.1 r14 cr_0_89 (by decide)
  have hE_0_91_1 : ∀ j : Int, w_ei ws (w_ar ws (n_v vs 0) 91) j = w_ei w1 (w_ar ws (n_v vs 0) 91) j := el_kp s1.1 r14 cr_0_91 (by decide)
  have hE_0_92_1 : ∀ j : Int, w_ei ws (w_ar ws (n_v vs 0) 92) j = w_ei w1 (w_ar ws (n_v vs 0) 92) j := el_kp s1.1 r14 cr_0_92 (by decide)
  have kz_0_79 := fdq_146 hD hth r0
  have kz_0_80 := fdq_130 hD hth r0
  have kz_0_81 := fdq_123 hD hth r0
  have hrf0 : 0 ≤ v_iv (n_v vs 22) ∧ v_iv (n_v vs 22) ≤ 77 := vc_Mo_augment_25_r0 (v_iv (n_v vs 1)) (v_iv (n_v vs 2)) (v_iv (n_v vs 10)) (v_iv (n_v vs 12)) (v_iv (n_v vs 13)) (v_iv (n_v vs 16)) (v_iv (n_v vs 22)) (w_ei ws (w_ar ws (n_v vs 0) 91)) (w_fi ws (n_v vs 0) 79) (w_ei ws (w_ar ws (n_v vs 0) 92)) (w_ei w1 (w_ar ws (n_v vs 0) 91)) (w_fi w1 (n_v vs 0) 79) (w_ei w1 (w_ar ws (n_v vs 0) 82)) (w_ei w1 (w_ar ws (n_v vs 0) 83)) (w_ei w1 (w_ar ws (n_v vs 0) 84)) (w_ei w1 (w_ar ws (n_v vs 0) 85)) (w_ei w1 (w_ar ws (n_v vs 0) 86)) (w_ei w1 (w_ar ws (n_v vs 0) 87)) (w_ei w1 (w_ar ws (n_v vs 0) 88)) (w_ei w1 (w_ar ws (n_v vs 0) 89)) (w_fi w1 (n_v vs 0) 80) (w_fi w1 (n_v vs 0) 81) (w_ei w1 (w_ar ws (n_v vs 0) 92)) (w_fi ws (n_v vs 0) 80) (w_fi ws (n_v vs 0) 81) (w_ei ws (w_ar ws (n_v vs 0) 82)) (w_ei ws (w_ar ws (n_v vs 0) 83)) (w_ei ws (w_ar ws (n_v vs 0) 84)) (w_ei ws (w_ar ws (n_v vs 0) 85)) (w_ei ws (w_ar ws (n_v vs 0) 86)) (w_ei ws (w_ar ws (n_v vs 0) 87)) (w_ei ws (w_ar ws (n_v vs 0) 88)) (w_ei ws (w_ar ws (n_v vs 0) 89)) k1 k2 k10 k12 k13 k16 k22 h0 h20 f21 f29 fe_0_79_1 fe_0_80_1 fe_0_81_1 hE_0_82_1 hE_0_83_1 hE_0_84_1 hE_0_85_1 hE_0_86_1 hE_0_87_1 hE_0_88_1 hE_0_89_1 hE_0_91_1 hE_0_92_1 kz_0_79 kz_0_80 kz_0_81
  have rf22 : tv_ok ta (0, 0, 77, []) (n_v vs 22) := tv_in t22 (by first | omega | grind) (by first | omega | grind)
  refine ⟨List.forall_mem_cons.mpr ⟨rf22, (fun _ h => (by cases h))⟩, [], trivial, ?_, (fun _ h => (by cases h))⟩
  rw [List.append_nil]
  exact (fun _ h => (by cases h))
set_option maxHeartbeats 4000000 in
theorem vc_Mo_augment_26_r0 (x1 : Int) (x2 : Int) (x3 : Int) (x6 : Int) (x8 : Int) (x10 : Int) (x12 : Int) (x13 : Int) (x16 : Int) (x17 : Int) (x18 : Int) (x21 : Int) (x22 : Int) (x23 : Int) (cameBy_0 : Int → Int) (pointMany_0 : Int) (queue_0 : Int → Int) (cameBy_1 : Int → Int) (pointMany_1 : Int) (spot_1 : Int → Int) (costA_1 : Int → Int) (costB_1 : Int → Int) (costW_1 : Int → Int) (costPlain_1 : Int → Int) (apartA_1 : Int → Int) (apartB_1 : Int → Int) (apart_1 : Int → Int) (costMany_1 : Int) (apartMany_1 : Int) (queue_1 : Int → Int) (costMany_0 : Int) (apartMany_0 : Int) (spot_0 : Int → Int) (costA_0 : Int → Int) (costB_0 : Int → Int) (costW_0 : Int → Int) (costPlain_0 : Int → Int) (apartA_0 : Int → Int) (apartB_0 : Int → Int) (apart_0 : Int → Int) (k1 : 2 ≤ x1 ∧ x1 ≤ 78) (k2 : 0 ≤ x2 ∧ x2 ≤ 76) (k3 : 1 ≤ x3 ∧ x3 ≤ 77) (k6 : 2 ≤ x6 ∧ x6 ≤ 79) (k8 : 1 ≤ x8 ∧ x8 ≤ 77) (k10 : 1 ≤ x10 ∧ x10 ≤ 79) (k12 : 0 ≤ x12 ∧ x12 ≤ 77) (k13 : (-2) ≤ x13 ∧ x13 ≤ 80) (k16 : 0 ≤ x16 ∧ x16 ≤ 77) (k17 : 0 ≤ x17 ∧ x17 ≤ 6083) (k18 : 0 ≤ x18 ∧ x18 ≤ 6083) (k21 : 0 ≤ x21 ∧ x21 ≤ 6083) (k22 : 0 ≤ x22 ∧ x22 ≤ 77) (k23 : 0 ≤ x23 ∧ x23 ≤ 6160) (d4 : x17 + 0 ≤ x18 ∧ x18 ≤ x17 + 77) (d5 : x6 + (-4294967296) ≤ x1 ∧ x1 ≤ x6 + 0) (d7 : x8 + (-4294967296) ≤ x3 ∧ x3 ≤ x8 + 0) (d8 : x1 + (-4294967296) ≤ x6 ∧ x6 ≤ x1 + 0) (d10 : x3 + (-4294967296) ≤ x8 ∧ x8 ≤ x3 + 0) (f0 : x23 = x21 + x22) (h1 : x22 = cameBy_0 (x12)) (f3 : x21 = x1 * x12) (f8 : x1 = (pointMany_0 + 2)) (f10 : x3 = (pointMany_0 + 1)) (f19 : x18 = x17 + x12) (f20 : x17 = x1 * x16) (h21 : x16 = cameBy_1 (x12)) (f25 : x1 ≤ 78) (f30 : AUW (queue_1) (cameBy_1) (x1) (x2) (x10) (x12) (x13)) (fe_0_79_1 : pointMany_0 = pointMany_1) (fe_0_80_1 : costMany_0 = costMany_1) (fe_0_81_1 : apartMany_0 = apartMany_1) (hE_0_82_1 : ∀ j : Int, spot_0 j = spot_1 j) (hE_0_83_1 : ∀ j : Int, costA_0 j = costA_1 j) (hE_0_84_1 : ∀ j : Int, costB_0 j = costB_1 j) (hE_0_85_1 : ∀ j : Int, costW_0 j = costW_1 j) (hE_0_86_1 : ∀ j : Int, costPlain_0 j = costPlain_1 j) (hE_0_87_1 : ∀ j : Int, apartA_0 j = apartA_1 j) (hE_0_88_1 : ∀ j : Int, apartB_0 j = apartB_1 j) (hE_0_89_1 : ∀ j : Int, apart_0 j = apart_1 j) (hE_0_91_1 : ∀ j : Int, cameBy_0 j = cameBy_1 j) (hE_0_92_1 : ∀ j : Int, queue_0 j = queue_1 j) (kz_0_79 : 0 ≤ pointMany_0 ∧ pointMany_0 ≤ 76) (kz_0_80 : 0 ≤ costMany_0 ∧ costMany_0 ≤ 200) (kz_0_81 : 0 ≤ apartMany_0 ∧ apartMany_0 ≤ 200) : 0 ≤ x23 ∧ x23 ≤ 6083 := by
  subst fe_0_79_1
  subst fe_0_80_1
  subst fe_0_81_1
  have e_hE_0_82_1 := funext hE_0_82_1; subst e_hE_0_82_1
  have e_hE_0_83_1 := funext hE_0_83_1; subst e_hE_0_83_1
  have e_hE_0_84_1 := funext hE_0_84_1; subst e_hE_0_84_1
  have e_hE_0_85_1 := funext hE_0_85_1; subst e_hE_0_85_1
  have e_hE_0_86_1 := funext hE_0_86_1; subst e_hE_0_86_1
  have e_hE_0_87_1 := funext hE_0_87_1; subst e_hE_0_87_1
  have e_hE_0_88_1 := funext hE_0_88_1; subst e_hE_0_88_1
  have e_hE_0_89_1 := funext hE_0_89_1; subst e_hE_0_89_1
  have e_hE_0_91_1 := funext hE_0_91_1; subst e_hE_0_91_1
  have e_hE_0_92_1 := funext hE_0_92_1; subst e_hE_0_92_1
  have h := auw_bd ‹AUW _ _ _ _ _ _ _›
  refine au_idx (by assumption) (by assumption) ?_ ?_ ?_ ?_ ?_ ?_ <;> omega
def o_Mo_augment_26 : or_T := (237, 24, [(0, (2, 0, 0, [165])), (1, (0, 2, 78, [])), (2, (0, 0, 76, [])), (3, (0, 1, 77, [])), (4, (0, -2, 180000001, [])), (5, (2, 0, 0, [165])), (6, (0, 2, 79, [])), (7, (0, 0, 76, [])), (8, (0, 1, 77, [])), (10, (0, 1, 79, [])), (11, (0, 0, 1000000, [])), (12, (0, 0, 77, [])), (13, (0, -2, 80, [])), (14, (2, 0, 0, [227])), (15, (2, 0, 0, [228])), (16, (0, 0, 77, [])), (17, (0, 0, 6083, [])), (18, (0, 0, 6083, [])), (19, (0, 0, 410000000, [])), (20, (0, 0, 410000000, [])), (21, (0, 0, 6083, [])), (22, (0, 0, 77, [])), (23, (0, 0, 6160, []))], [(1, [23, 21, 22], []), (10, [22, 15, 12], []), (9, [15, 5], [91]), (3, [21, 6, 12], []), (9, [14, 5], [90]), (20, [7, 6], [50, 0, 0, 0, 6, 4, 2, 1, 0, 0, 1, 1, 1]), (20, [8, 6], [50, 0, 0, 0, 6, 4, 2, 1, 0, 0, 1, 1, 1]), (20, [6], [50, 0, 0, 0, 2, 1, 0, 0, 78]), (20, [6, 5], [50, 1, 0, 1079, 1, 2, 1, 0, 4, 3, 2, 1, 79, 0, 2]), (20, [7, 5], [50, 1, 0, 1079, 1, 2, 1, 0, 2, 1, 79]), (20, [8, 5], [50, 1, 0, 1079, 1, 2, 1, 0, 4, 3, 2, 1, 79, 0, 1]), (20, [5, 6, 7, 10, 12, 13], [60, 0, 2, 394, 92, 91]), (24, [0, 5], []), (24, [1, 6], []), (24, [2, 7], []), (24, [3, 8], []), (100, [14, 18, 20], []), (2, [20, 19, 11], []), (10, [19, 14, 18], []), (1, [18, 17, 12], []), (3, [17, 6, 16], []), (10, [16, 15, 12], []), (7, [12, 7], [1]), (20, [7, 6], [50, 0, 0, 0, 6, 4, 2, 1, 0, 0, 1, 1, 1]), (20, [8, 6], [50, 0, 0, 0, 6, 4, 2, 1, 0, 0, 1, 1, 1]), (20, [6], [50, 0, 0, 0, 2, 1, 0, 0, 78]), (20, [6, 5], [50, 1, 0, 1079, 1, 2, 1, 0, 4, 3, 2, 1, 79, 0, 2]), (20, [7, 5], [50, 1, 0, 1079, 1, 2, 1, 0, 2, 1, 79]), (20, [8, 5], [50, 1, 0, 1079, 1, 2, 1, 0, 4, 3, 2, 1, 79, 0, 1]), (20, [5, 11, 12, 4], [60, 3, 10, 408, 79, 80, 81, 90, 91, 82, 83, 84, 85, 86, 87, 88, 89]), (20, [5, 6, 7, 10, 12, 13], [60, 0, 2, 394, 92, 91])], [(23, (0, 0, 6083, []))], [], [], [], [(23, 22, 0, 6083), (23, 21, 0, 77), (20, 19, -1000000, 0), (18, 12, 0, 6083), (18, 17, 0, 77), (1, 6, -4294967296, 0), (2, 7, -4294967296, 0), (3, 8, -4294967296, 0), (6, 1, -4294967296, 0), (7, 2, -4294967296, 0), (8, 3, -4294967296, 0)])
theorem oo_Mo_augment_26 {kA : Nat → ClassId} : or_ok PRD kA GG o_Mo_augment_26 := by
  refine or_mk fun A ta ws vs hD hth hl => ?_
  intro t0 r0 t1 k1 t2 k2 t3 k3 t4 k4 t5 r5 t6 k6 t7 k7 t8 k8 t10 k10 t11 k11 t12 k12 t13 k13 t14 r14 t15 r15 t16 k16 t17 k17 t18 k18 t19 k19 t20 k20 t21 k21 t22 k22 t23 k23 d0 d1 d2 d3 d4 d5 d6 d7 d8 d9 d10 f0 f1 f2 f3 f4 f5 f6 f7 f8 f9 f10 f11 f12 f13 f14 f15 ta1 w1 le1 s1 f17 f18 f19 f20 f21 f22 f23 f24 f25 f26 f27 f28 f29 f30
  replace f1 := shm_106 f1
  replace f2 := shm_921 f2
  replace f3 := shm_38 f3
  replace f8 := shm_914 f8
  replace f10 := shm_916 f10
  replace f12 := shm_5 f12
  replace f13 := shm_5 f13
  replace f14 := shm_5 f14
  replace f15 := shm_5 f15
  have s1 : (∀ b j, w_el ws b j = if b = v_ad (n_v vs 14) ∧ j = (v_iv (n_v vs 18)).toNat then v_iv (n_v vs 20) else w_el w1 b j) ∧ ∀ b k, w_fd ws b k = w_fd w1 b k := s1.2
  replace f20 := shm_38 f20
  replace f21 := shm_106 f21
  replace f25 := shm_913 f25
  replace f30 := shm_927 f30
  have q5 : n_v vs 5 = n_v vs 0 := f12.symm
  have q6 : n_v vs 6 = n_v vs 1 := f13.symm
  have q7 : n_v vs 7 = n_v vs 2 := f14.symm
  have q8 : n_v vs 8 = n_v vs 3 := f15.symm
  simp only [q5, q6, q7, q8] at f2 f3 f8 f10 f20 f25 f30
  have ar_0_82_1 : w_ar w1 (n_v vs 0) 82 = w_ar ws (n_v vs 0) 82 := congrArg v_ad (s1.2 _ _).symm
  have cr_0_82 := fdq_225 hD hth r0
  have ar_0_83_1 : w_ar w1 (n_v vs 0) 83 = w_ar ws (n_v vs 0) 83 := congrArg v_ad (s1.2 _ _).symm
  have cr_0_83 := fdq_125 hD hth r0
  have ar_0_84_1 : w_ar w1 (n_v vs 0) 84 = w_ar ws (n_v vs 0) 84 := congrArg v_ad (s1.2 _ _).symm
  have cr_0_84 := fdq_126 hD hth r0
  have ar_0_85_1 : w_ar w1 (n_v vs 0) 85 = w_ar ws (n_v vs 0) 85 := congrArg v_ad (s1.2 _ _).symm
  have cr_0_85 := fdq_127 hD hth r0
  have ar_0_86_1 : w_ar w1 (n_v vs 0) 86 = w_ar ws (n_v vs 0) 86 := congrArg v_ad (s1.2 _ _).symm
  have cr_0_86 := fdq_128 hD hth r0
  have ar_0_87_1 : w_ar w1 (n_v vs 0) 87 = w_ar ws (n_v vs 0) 87 := congrArg v_ad (s1.2 _ _).symm
  have cr_0_87 := fdq_118 hD hth r0
  have ar_0_88_1 : w_ar w1 (n_v vs 0) 88 = w_ar ws (n_v vs 0) 88 := congrArg v_ad (s1.2 _ _).symm
  have cr_0_88 := fdq_119 hD hth r0
  have ar_0_89_1 : w_ar w1 (n_v vs 0) 89 = w_ar ws (n_v vs 0) 89 := congrArg v_ad (s1.2 _ _).symm
  have cr_0_89 := fdq_120 hD hth r0
  have ar_0_90_1 : w_ar w1 (n_v vs 0) 90 = w_ar ws (n_v vs 0) 90 := congrArg v_ad (s1.2 _ _).symm
  have ar_0_91_1 : w_ar w1 (n_v vs 0) 91 = w_ar ws (n_v vs 0) 91 := congrArg v_ad (s1.2 _ _).symm
  have cr_0_91 := fdq_227 hD hth r0
  have ar_0_92_1 : w_ar w1 (n_v vs 0) 92 = w_ar ws (n_v vs 0) 92 := congrArg v_ad (s1.2 _ _).symm
  have cr_0_92 := fdq_228 hD hth r0
  have ad_15 : v_ad (n_v vs 15) = w_ar ws (n_v vs 0) 91 := congrArg v_ad f2
  simp only [ad_15] at f1
  have h1 : v_iv (n_v vs 22) = w_ei ws (w_ar ws (n_v vs 0) 91) (v_iv (n_v vs 12)) := f1
  simp only [ad_15] at f21
  have h21 : v_iv (n_v vs 16) = w_ei w1 (w_ar ws (n_v vs 0) 91) (v_iv (n_v vs 12)) := f21
  simp only [ar_0_82_1, ar_0_83_1, ar_0_84_1, ar_0_85_1, ar_0_86_1, ar_0_87_1, ar_0_88_1, ar_0_89_1, ar_0_90_1, ar_0_91_1, ar_0_92_1] at f30
  have fe_0_79_1 : w_fi ws (n_v vs 0) 79 = w_fi w1 (n_v vs 0) 79 := congrArg v_iv (s1.2 _ _)
  have fe_0_80_1 : w_fi ws (n_v vs 0) 80 = w_fi w1 (n_v vs 0) 80 := congrArg v_iv (s1.2 _ _)
  have fe_0_81_1 : w_fi ws (n_v vs 0) 81 = w_fi w1 (n_v vs 0) 81 := congrArg v_iv (s1.2 _ _)
  have hE_0_82_1 : ∀ j : Int, w_ei ws (w_ar ws (n_v vs 0) 82) j = w_ei w1 (w_ar ws (n_v vs 0) 82) j := el_kp s1.1 r14 cr_0_82 (by decide)
  have hE_0_83_1 : ∀ j : Int, w_ei ws (w_ar ws (n_v vs 0) 83) j = w_ei w1 (w_ar ws (n_v vs 0) 83) j := el_kp s1.1 r14 cr_0_83 (by decide)
  have hE_0_84_1 : ∀ j : Int, w_ei ws (w_ar ws (n_v vs 0) 84) j = w_ei w1 (w_ar ws (n_v vs 0) 84) j := el_kp s1.1 r14 cr_0_84 (by decide)
  have hE_0_85_1 : ∀ j : Int, w_ei ws (w_ar ws (n_v vs 0) 85) j = w_ei w1 (w_ar ws (n_v vs 0) 85) j := el_kp s1.1 r14 cr_0_85 (by decide)
  have hE_0_86_1 : ∀ j : Int, w_ei ws (w_ar ws (n_v vs 0) 86) j = w_ei w1 (w_ar ws (n_v vs 0) 86) j := el_kp s1.1 r14 cr_0_86 (by decide)
  have hE_0_87_1 : ∀ j : Int, w_ei ws (w_ar ws (n_v vs 0) 87) j = w_ei w1 (w_ar ws (n_v vs 0) 87) j := el_kp s1.1 r14 cr_0_87 (by decide)
  have hE_0_88_1 : ∀ j : Int, w_ei ws (w_ar ws (n_v vs 0) 88) j = w_ei w1 (w_ar ws (n_v vs 0) 88) j := el_kp s1.1 r14 cr_0_88 (by decide)
  have hE_0_89_1 : ∀ j : Int, w_ei ws (w_ar ws (n_v vs 0) 89) j = w_ei w1 (w_ar ws (n_v vs 0) 89) j := el_kp s1.1 r14 cr_0_89 (by decide)
  have hE_0_91_1 : ∀ j : Int, w_ei ws (w_ar ws (n_v vs 0) 91) j = w_ei w1 (w_ar ws (n_v vs 0) 91) j := el_kp s1.1 r14 cr_0_91 (by decide)
  have hE_0_92_1 : ∀ j : Int, w_ei ws (w_ar ws (n_v vs 0) 92) j = w_ei w1 (w_ar ws (n_v vs 0) 92) j := el_kp s1.1 r14 cr_0_92 (by decide)
  have kz_0_79 := fdq_146 hD hth r0
  have kz_0_80 := fdq_130 hD hth r0
  have kz_0_81 := fdq_123 hD hth r0
  have hrf0 : 0 ≤ v_iv (n_v vs 23) ∧ v_iv (n_v vs 23) ≤ 6083 := vc_Mo_augment_26_r0 (v_iv (n_v vs 1)) (v_iv (n_v vs 2)) (v_iv (n_v vs 3)) (v_iv (n_v vs 6)) (v_iv (n_v vs 8)) (v_iv (n_v vs 10)) (v_iv (n_v vs 12)) (v_iv (n_v vs 13)) (v_iv (n_v vs 16)) (v_iv (n_v vs 17)) (v_iv (n_v vs 18)) (v_iv (n_v vs 21)) (v_iv (n_v vs 22)) (v_iv (n_v vs 23)) (w_ei ws (w_ar ws (n_v vs 0) 91)) (w_fi ws (n_v vs 0) 79) (w_ei ws (w_ar ws (n_v vs 0) 92)) (w_ei w1 (w_ar ws (n_v vs 0) 91)) (w_fi w1 (n_v vs 0) 79) (w_ei w1 (w_ar ws (n_v vs 0) 82)) (w_ei w1 (w_ar ws (n_v vs 0) 83)) (w_ei w1 (w_ar ws (n_v vs 0) 84)) (w_ei w1 (w_ar ws (n_v vs 0) 85)) (w_ei w1 (w_ar ws (n_v vs 0) 86)) (w_ei w1 (w_ar ws (n_v vs 0) 87)) (w_ei w1 (w_ar ws (n_v vs 0) 88)) (w_ei w1 (w_ar ws (n_v vs 0) 89)) (w_fi w1 (n_v vs 0) 80) (w_fi w1 (n_v vs 0) 81) (w_ei w1 (w_ar ws (n_v vs 0) 92)) (w_fi ws (n_v vs 0) 80) (w_fi ws (n_v vs 0) 81) (w_ei ws (w_ar ws (n_v vs 0) 82)) (w_ei ws (w_ar ws (n_v vs 0) 83)) (w_ei ws (w_ar ws (n_v vs 0) 84)) (w_ei ws (w_ar ws (n_v vs 0) 85)) (w_ei ws (w_ar ws (n_v vs 0) 86)) (w_ei ws (w_ar ws (n_v vs 0) 87)) (w_ei ws (w_ar ws (n_v vs 0) 88)) (w_ei ws (w_ar ws (n_v vs 0) 89)) k1 k2 k3 k6 k8 k10 k12 k13 k16 k17 k18 k21 k22 k23 d4 d5 d7 d8 d10 (shm_12 f0) h1 f3 f8 f10 (shm_12 f19) f20 h21 f25 f30 fe_0_79_1 fe_0_80_1 fe_0_81_1 hE_0_82_1 hE_0_83_1 hE_0_84_1 hE_0_85_1 hE_0_86_1 hE_0_87_1 hE_0_88_1 hE_0_89_1 hE_0_91_1 hE_0_92_1 kz_0_79 kz_0_80 kz_0_81
  have rf23 : tv_ok ta (0, 0, 6083, []) (n_v vs 23) := tv_in t23 (by first | omega | grind) (by first | omega | grind)
  refine ⟨List.forall_mem_cons.mpr ⟨rf23, (fun _ h => (by cases h))⟩, [], trivial, ?_, (fun _ h => (by cases h))⟩
  rw [List.append_nil]
  exact (fun _ h => (by cases h))

set_option maxHeartbeats 4000000 in
theorem vc_Mo_augment_27_r0 (x1 : Int) (x2 : Int) (x4 : Int) (x10 : Int) (x11 : Int) (x12 : Int) (x13 : Int) (x16 : Int) (x17 : Int) (x18 : Int) (x19 : Int) (x20 : Int) (x21 : Int) (x22 : Int) (x23 : Int) (x24 : Int) (x25 : Int) (flow_0 : Int → Int) (cameBy_0 : Int → Int) (pointMany_0 : Int) (queue_0 : Int → Int) (flow_1 : Int → Int) (cameBy_1 : Int → Int) (pointMany_1 : Int) (spot_1 : Int → Int) (costA_1 : Int → Int) (costB_1 : Int → Int) (costW_1 : Int → Int) (costPlain_1 : Int → Int) (apartA_1 : Int → Int) (apartB_1 : Int → Int) (apart_1 : Int → Int) (costMany_1 : Int) (apartMany_1 : Int) (queue_1 : Int → Int) (costMany_0 : Int) (apartMany_0 : Int) (spot_0 : Int → Int) (costA_0 : Int → Int) (costB_0 : Int → Int) (costW_0 : Int → Int) (costPlain_0 : Int → Int) (apartA_0 : Int → Int) (apartB_0 : Int → Int) (apart_0 : Int → Int) (k1 : 2 ≤ x1 ∧ x1 ≤ 78) (k2 : 0 ≤ x2 ∧ x2 ≤ 76) (k4 : (-2) ≤ x4 ∧ x4 ≤ 180000001) (k10 : 1 ≤ x10 ∧ x10 ≤ 79) (k11 : 0 ≤ x11 ∧ x11 ≤ 1000000) (k12 : 0 ≤ x12 ∧ x12 ≤ 77) (k13 : (-2) ≤ x13 ∧ x13 ≤ 80) (k16 : 0 ≤ x16 ∧ x16 ≤ 77) (k17 : 0 ≤ x17 ∧ x17 ≤ 6083) (k18 : 0 ≤ x18 ∧ x18 ≤ 6083) (k19 : 0 ≤ x19 ∧ x19 ≤ 410000000) (k20 : 0 ≤ x20 ∧ x20 ≤ 410000000) (k21 : 0 ≤ x21 ∧ x21 ≤ 6083) (k22 : 0 ≤ x22 ∧ x22 ≤ 77) (k23 : 0 ≤ x23 ∧ x23 ≤ 6083) (k24 : 0 ≤ x24 ∧ x24 ≤ 410000000) (k25 : 0 ≤ x25 ∧ x25 ≤ 411000000) (f0 : x25 = x24 + x11) (h1 : x24 = flow_0 (x23)) (f2 : x23 = x21 + x22) (h3 : x22 = cameBy_0 (x12)) (f5 : x21 = x1 * x12) (f19 : x20 = x19 - x11) (h20 : x19 = flow_1 (x18)) (f21 : x18 = x17 + x12) (f22 : x17 = x1 * x16) (h23 : x16 = cameBy_1 (x12)) (f24 : x12 ≠ x2) (f28 : x1 = (pointMany_1 + 2)) (f29 : x2 = pointMany_1) (f31 : PSH (pointMany_1) (costMany_1) (apartMany_1) (flow_1) (cameBy_1) (spot_1) (costA_1) (costB_1) (costW_1) (costPlain_1) (apartA_1) (apartB_1) (apart_1) (x11) (x12) (x4)) (f32 : AUW (queue_1) (cameBy_1) (x1) (x2) (x10) (x12) (x13)) (fe_0_79_1 : pointMany_0 = pointMany_1) (fe_0_80_1 : costMany_0 = costMany_1) (fe_0_81_1 : apartMany_0 = apartMany_1) (hE_0_82_1 : ∀ j : Int, spot_0 j = spot_1 j) (hE_0_83_1 : ∀ j : Int, costA_0 j = costA_1 j) (hE_0_84_1 : ∀ j : Int, costB_0 j = costB_1 j) (hE_0_85_1 : ∀ j : Int, costW_0 j = costW_1 j) (hE_0_86_1 : ∀ j : Int, costPlain_0 j = costPlain_1 j) (hE_0_87_1 : ∀ j : Int, apartA_0 j = apartA_1 j) (hE_0_88_1 : ∀ j : Int, apartB_0 j = apartB_1 j) (hE_0_89_1 : ∀ j : Int, apart_0 j = apart_1 j) (hE_0_90_1 : ∀ j : Int, 0 ≤ j → (j = x18 → flow_0 j = x20) ∧ (j ≠ x18 → flow_0 j = flow_1 j)) (hE_0_91_1 : ∀ j : Int, cameBy_0 j = cameBy_1 j) (hE_0_92_1 : ∀ j : Int, queue_0 j = queue_1 j) (kz_0_79 : 0 ≤ pointMany_0 ∧ pointMany_0 ≤ 76) (kz_0_80 : 0 ≤ costMany_0 ∧ costMany_0 ≤ 200) (kz_0_81 : 0 ≤ apartMany_0 ∧ apartMany_0 ≤ 200) : 0 ≤ x25 ∧ x25 ≤ 410000000 := by
  subst fe_0_79_1
  subst fe_0_80_1
  subst fe_0_81_1
  have e_hE_0_82_1 := funext hE_0_82_1; subst e_hE_0_82_1
  have e_hE_0_83_1 := funext hE_0_83_1; subst e_hE_0_83_1
  have e_hE_0_84_1 := funext hE_0_84_1; subst e_hE_0_84_1
  have e_hE_0_85_1 := funext hE_0_85_1; subst e_hE_0_85_1
  have e_hE_0_86_1 := funext hE_0_86_1; subst e_hE_0_86_1
  have e_hE_0_87_1 := funext hE_0_87_1; subst e_hE_0_87_1
  have e_hE_0_88_1 := funext hE_0_88_1; subst e_hE_0_88_1
  have e_hE_0_89_1 := funext hE_0_89_1; subst e_hE_0_89_1
  have e_hE_0_91_1 := funext hE_0_91_1; subst e_hE_0_91_1
  have e_hE_0_92_1 := funext hE_0_92_1; subst e_hE_0_92_1
  exact psh_bdB (z := x16) (z2 := x22) ‹PSH _ _ _ _ _ _ _ _ _ _ _ _ _ _ _ _› ‹AUW _ _ _ _ _ _ _› (by omega) (by omega) (by assumption) (by assumption) (by omega) (by assumption) (by assumption) (by assumption) (by assumption) (by assumption) (by assumption) (by assumption) (by assumption) (by assumption)
def o_Mo_augment_27 : or_T := (242, 26, [(0, (2, 0, 0, [165])), (1, (0, 2, 78, [])), (2, (0, 0, 76, [])), (3, (0, 1, 77, [])), (4, (0, -2, 180000001, [])), (5, (2, 0, 0, [165])), (6, (0, 2, 79, [])), (7, (0, 0, 76, [])), (8, (0, 1, 77, [])), (10, (0, 1, 79, [])), (11, (0, 0, 1000000, [])), (12, (0, 0, 77, [])), (13, (0, -2, 80, [])), (14, (2, 0, 0, [227])), (15, (2, 0, 0, [228])), (16, (0, 0, 77, [])), (17, (0, 0, 6083, [])), (18, (0, 0, 6083, [])), (19, (0, 0, 410000000, [])), (20, (0, 0, 410000000, [])), (21, (0, 0, 6083, [])), (22, (0, 0, 77, [])), (23, (0, 0, 6083, [])), (24, (0, 0, 410000000, [])), (25, (0, 0, 411000000, []))], [(1, [25, 24, 11], []), (10, [24, 14, 23], []), (1, [23, 21, 22], []), (10, [22, 15, 12], []), (9, [15, 5], [91]), (3, [21, 6, 12], []), (9, [14, 5], [90]), (20, [7, 6], [50, 0, 0, 0, 6, 4, 2, 1, 0, 0, 1, 1, 1]), (20, [8, 6], [50, 0, 0, 0, 6, 4, 2, 1, 0, 0, 1, 1, 1]), (20, [6], [50, 0, 0, 0, 2, 1, 0, 0, 78]), (20, [6, 5], [50, 1, 0, 1079, 1, 2, 1, 0, 4, 3, 2, 1, 79, 0, 2]), (20, [7, 5], [50, 1, 0, 1079, 1, 2, 1, 0, 2, 1, 79]), (20, [8, 5], [50, 1, 0, 1079, 1, 2, 1, 0, 4, 3, 2, 1, 79, 0, 1]), (20, [5, 6, 7, 10, 12, 13], [60, 0, 2, 394, 92, 91]), (24, [0, 5], []), (24, [1, 6], []), (24, [2, 7], []), (24, [3, 8], []), (100, [14, 18, 20], []), (2, [20, 19, 11], []), (10, [19, 14, 18], []), (1, [18, 17, 12], []), (3, [17, 6, 16], []), (10, [16, 15, 12], []), (7, [12, 7], [1]), (20, [7, 6], [50, 0, 0, 0, 6, 4, 2, 1, 0, 0, 1, 1, 1]), (20, [8, 6], [50, 0, 0, 0, 6, 4, 2, 1, 0, 0, 1, 1, 1]), (20, [6], [50, 0, 0, 0, 2, 1, 0, 0, 78]), (20, [6, 5], [50, 1, 0, 1079, 1, 2, 1, 0, 4, 3, 2, 1, 79, 0, 2]), (20, [7, 5], [50, 1, 0, 1079, 1, 2, 1, 0, 2, 1, 79]), (20, [8, 5], [50, 1, 0, 1079, 1, 2, 1, 0, 4, 3, 2, 1, 79, 0, 1]), (20, [5, 11, 12, 4], [60, 3, 10, 408, 79, 80, 81, 90, 91, 82, 83, 84, 85, 86, 87, 88, 89]), (20, [5, 6, 7, 10, 12, 13], [60, 0, 2, 394, 92, 91])], [(25, (0, 0, 410000000, []))], [], [], [], [(25, 11, 0, 410000000), (25, 24, 0, 1000000), (23, 22, 0, 6083), (23, 21, 0, 77), (20, 19, -1000000, 0), (18, 12, 0, 6083), (18, 17, 0, 77), (1, 6, -4294967296, 0), (2, 7, -4294967296, 0), (3, 8, -4294967296, 0), (6, 1, -4294967296, 0), (7, 2, -4294967296, 0), (8, 3, -4294967296, 0)])
theorem oo_Mo_augment_27 {kA : Nat → ClassId} : or_ok PRD kA GG o_Mo_augment_27 := by
  refine or_mk fun A ta ws vs hD hth hl => ?_
  intro t0 r0 t1 k1 t2 k2 t3 k3 t4 k4 t5 r5 t6 k6 t7 k7 t8 k8 t10 k10 t11 k11 t12 k12 t13 k13 t14 r14 t15 r15 t16 k16 t17 k17 t18 k18 t19 k19 t20 k20 t21 k21 t22 k22 t23 k23 t24 k24 t25 k25 d0 d1 d2 d3 d4 d5 d6 d7 d8 d9 d10 d11 d12 f0 f1 f2 f3 f4 f5 f6 f7 f8 f9 f10 f11 f12 f13 f14 f15 f16 f17 ta1 w1 le1 s1 f19 f20 f21 f22 f23 f24 f25 f26 f27 f28 f29 f30 f31 f32
  replace f1 := shm_106 f1
  replace f3 := shm_106 f3
  replace f4 := shm_921 f4
  replace f5 := shm_38 f5
  replace f6 := shm_934 f6
  replace f14 := shm_5 f14
  replace f15 := shm_5 f15
  replace f16 := shm_5 f16
  have s1 : (∀ b j, w_el ws b j = if b = v_ad (n_v vs 14) ∧ j = (v_iv (n_v vs 18)).toNat then v_iv (n_v vs 20) else w_el w1 b j) ∧ ∀ b k, w_fd ws b k = w_fd w1 b k := s1.2
  replace f20 := shm_106 f20
  replace f22 := shm_38 f22
  replace f23 := shm_106 f23
  replace f24 := shm_40 f24
  replace f28 := shm_914 f28
  replace f29 := shm_915 f29
  replace f31 := shm_936 f31
  replace f32 := shm_927 f32
  have q5 : n_v vs 5 = n_v vs 0 := f14.symm
  have q6 : n_v vs 6 = n_v vs 1 := f15.symm
  have q7 : n_v vs 7 = n_v vs 2 := f16.symm
  simp only [q5, q6, q7] at f4 f5 f6 f22 f24 f28 f29 f31 f32
  have ar_0_82_1 : w_ar w1 (n_v vs 0) 82 = w_ar ws (n_v vs 0) 82 := congrArg v_ad (s1.2 _ _).symm
  have cr_0_82 := fdq_225 hD hth r0
  have ar_0_83_1 : w_ar w1 (n_v vs 0) 83 = w_ar ws (n_v vs 0) 83 := congrArg v_ad (s1.2 _ _).symm
  have cr_0_83 := fdq_125 hD hth r0
  have ar_0_84_1 : w_ar w1 (n_v vs 0) 84 = w_ar ws (n_v vs 0) 84 := congrArg v_ad (s1.2 _ _).symm
  have cr_0_84 := fdq_126 hD hth r0
  have ar_0_85_1 : w_ar w1 (n_v vs 0) 85 = w_ar ws (n_v vs 0) 85 := congrArg v_ad (s1.2 _ _).symm
  have cr_0_85 := fdq_127 hD hth r0
  have ar_0_86_1 : w_ar w1 (n_v vs 0) 86 = w_ar ws (n_v vs 0) 86 := congrArg v_ad (s1.2 _ _).symm
  have cr_0_86 := fdq_128 hD hth r0
  have ar_0_87_1 : w_ar w1 (n_v vs 0) 87 = w_ar ws (n_v vs 0) 87 := congrArg v_ad (s1.2 _ _).symm
  have cr_0_87 := fdq_118 hD hth r0
  have ar_0_88_1 : w_ar w1 (n_v vs 0) 88 = w_ar ws (n_v vs 0) 88 := congrArg v_ad (s1.2 _ _).symm
  have cr_0_88 := fdq_119 hD hth r0
  have ar_0_89_1 : w_ar w1 (n_v vs 0) 89 = w_ar ws (n_v vs 0) 89 := congrArg v_ad (s1.2 _ _).symm
  have cr_0_89 := fdq_120 hD hth r0
  have ar_0_90_1 : w_ar w1 (n_v vs 0) 90 = w_ar ws (n_v vs 0) 90 := congrArg v_ad (s1.2 _ _).symm
  have ar_0_91_1 : w_ar w1 (n_v vs 0) 91 = w_ar ws (n_v vs 0) 91 := congrArg v_ad (s1.2 _ _).symm
  have cr_0_91 := fdq_227 hD hth r0
  have ar_0_92_1 : w_ar w1 (n_v vs 0) 92 = w_ar ws (n_v vs 0) 92 := congrArg v_ad (s1.2 _ _).symm
  have cr_0_92 := fdq_228 hD hth r0
  have ad_15 : v_ad (n_v vs 15) = w_ar ws (n_v vs 0) 91 := congrArg v_ad f4
  have ad_14 : v_ad (n_v vs 14) = w_ar ws (n_v vs 0) 90 := congrArg v_ad f6
  simp only [ad_14] at f1
  have h1 : v_iv (n_v vs 24) = w_ei ws (w_ar ws (n_v vs 0) 90) (v_iv (n_v vs 23)) := f1
  simp only [ad_15] at f3
  have h3 : v_iv (n_v vs 22) = w_ei ws (w_ar ws (n_v vs 0) 91) (v_iv (n_v vs 12)) := f3
  simp only [ad_14] at f20
  have h20 : v_iv (n_v vs 19) = w_ei w1 (w_ar ws (n_v vs 0) 90) (v_iv (n_v vs 18)) := f20
  simp only [ad_15] at f23
  have h23 : v_iv (n_v vs 16) = w_ei w1 (w_ar ws (n_v vs 0) 91) (v_iv (n_v vs 12)) := f23
  simp only [ar_0_82_1, ar_0_83_1, ar_0_84_1, ar_0_85_1, ar_0_86_1, ar_0_87_1, ar_0_88_1, ar_0_89_1, ar_0_90_1, ar_0_91_1, ar_0_92_1] at f31 f32
  have fe_0_79_1 : w_fi ws (n_v vs 0) 79 = w_fi w1 (n_v vs 0) 79 := congrArg v_iv (s1.2 _ _)
  have fe_0_80_1 : w_fi ws (n_v vs 0) 80 = w_fi w1 (n_v vs 0) 80 := congrArg v_iv (s1.2 _ _)
  have fe_0_81_1 : w_fi ws (n_v vs 0) 81 = w_fi w1 (n_v vs 0) 81 := congrArg v_iv (s1.2 _ _)
  have hE_0_82_1 : ∀ j : Int, w_ei ws (w_ar ws (n_v vs 0) 82) j = w_ei w1 (w_ar ws (n_v vs 0) 82) j := el_kp s1.1 r14 cr_0_82 (by decide)
  have hE_0_83_1 : ∀ j : Int, w_ei ws (w_ar ws (n_v vs 0) 83) j = w_ei w1 (w_ar ws (n_v vs 0) 83) j := el_kp s1.1 r14 cr_0_83 (by decide)
  have hE_0_84_1 : ∀ j : Int, w_ei ws (w_ar ws (n_v vs 0) 84) j = w_ei w1 (w_ar ws (n_v vs 0) 84) j := el_kp s1.1 r14 cr_0_84 (by decide)
  have hE_0_85_1 : ∀ j : Int, w_ei ws (w_ar ws (n_v vs 0) 85) j = w_ei w1 (w_ar ws (n_v vs 0) 85) j := el_kp s1.1 r14 cr_0_85 (by decide)
  have hE_0_86_1 : ∀ j : Int, w_ei ws (w_ar ws (n_v vs 0) 86) j = w_ei w1 (w_ar ws (n_v vs 0) 86) j := el_kp s1.1 r14 cr_0_86 (by decide)
  have hE_0_87_1 : ∀ j : Int, w_ei ws (w_ar ws (n_v vs 0) 87) j = w_ei w1 (w_ar ws (n_v vs 0) 87) j := el_kp s1.1 r14 cr_0_87 (by decide)
  have hE_0_88_1 : ∀ j : Int, w_ei ws (w_ar ws (n_v vs 0) 88) j = w_ei w1 (w_ar ws (n_v vs 0) 88) j := el_kp s1.1 r14 cr_0_88 (by decide)
  have hE_0_89_1 : ∀ j : Int, w_ei ws (w_ar ws (n_v vs 0) 89) j = w_ei w1 (w_ar ws (n_v vs 0) 89) j := el_kp s1.1 r14 cr_0_89 (by decide)
  have hE_0_90_1 : ∀ j : Int, 0 ≤ j → (j = v_iv (n_v vs 18) → w_ei ws (w_ar ws (n_v vs 0) 90) j = v_iv (n_v vs 20)) ∧ (j ≠ v_iv (n_v vs 18) → w_ei ws (w_ar ws (n_v vs 0) 90) j = w_ei w1 (w_ar ws (n_v vs 0) 90) j) := fun j hj => ⟨fun h => by unfold w_ei; rw [s1.1, if_pos ⟨ad_14.symm, by rw [h]⟩], fun h => by unfold w_ei; rw [s1.1, if_neg (fun e => h (by have := e.2; omega))]⟩
  have hE_0_91_1 : ∀ j : Int, w_ei ws (w_ar ws (n_v vs 0) 91) j = w_ei w1 (w_ar ws (n_v vs 0) 91) j := el_kp s1.1 r14 cr_0_91 (by decide)
  have hE_0_92_1 : ∀ j : Int, w_ei ws (w_ar ws (n_v vs 0) 92) j = w_ei w1 (w_ar ws (n_v vs 0) 92) j := el_kp s1.1 r14 cr_0_92 (by decide)
  have kz_0_79 := fdq_146 hD hth r0
  have kz_0_80 := fdq_130 hD hth r0
  have kz_0_81 := fdq_123 hD hth r0
  have hrf0 : 0 ≤ v_iv (n_v vs 25) ∧ v_iv (n_v vs 25) ≤ 410000000 := vc_Mo_augment_27_r0 (v_iv (n_v vs 1)) (v_iv (n_v vs 2)) (v_iv (n_v vs 4)) (v_iv (n_v vs 10)) (v_iv (n_v vs 11)) (v_iv (n_v vs 12)) (v_iv (n_v vs 13)) (v_iv (n_v vs 16)) (v_iv (n_v vs 17)) (v_iv (n_v vs 18)) (v_iv (n_v vs 19)) (v_iv (n_v vs 20)) (v_iv (n_v vs 21)) (v_iv (n_v vs 22)) (v_iv (n_v vs 23)) (v_iv (n_v vs 24)) (v_iv (n_v vs 25)) (w_ei ws (w_ar ws (n_v vs 0) 90)) (w_ei ws (w_ar ws (n_v vs 0) 91)) (w_fi ws (n_v vs 0) 79) (w_ei ws (w_ar ws (n_v vs 0) 92)) (w_ei w1 (w_ar ws (n_v vs 0) 90)) (w_ei w1 (w_ar ws (n_v vs 0) 91)) (w_fi w1 (n_v vs 0) 79) (w_ei w1 (w_ar ws (n_v vs 0) 82)) (w_ei w1 (w_ar ws (n_v vs 0) 83)) (w_ei w1 (w_ar ws (n_v vs 0) 84)) (w_ei w1 (w_ar ws (n_v vs 0) 85)) (w_ei w1 (w_ar ws (n_v vs 0) 86)) (w_ei w1 (w_ar ws (n_v vs 0) 87)) (w_ei w1 (w_ar ws (n_v vs 0) 88)) (w_ei w1 (w_ar ws (n_v vs 0) 89)) (w_fi w1 (n_v vs 0) 80) (w_fi w1 (n_v vs 0) 81) (w_ei w1 (w_ar ws (n_v vs 0) 92)) (w_fi ws (n_v vs 0) 80) (w_fi ws (n_v vs 0) 81) (w_ei ws (w_ar ws (n_v vs 0) 82)) (w_ei ws (w_ar ws (n_v vs 0) 83)) (w_ei ws (w_ar ws (n_v vs 0) 84)) (w_ei ws (w_ar ws (n_v vs 0) 85)) (w_ei ws (w_ar ws (n_v vs 0) 86)) (w_ei ws (w_ar ws (n_v vs 0) 87)) (w_ei ws (w_ar ws (n_v vs 0) 88)) (w_ei ws (w_ar ws (n_v vs 0) 89)) k1 k2 k4 k10 k11 k12 k13 k16 k17 k18 k19 k20 k21 k22 k23 k24 k25 (shm_12 f0) h1 (shm_12 f2) h3 f5 (shm_14 f19) h20 (shm_12 f21) f22 h23 f24 f28 f29 f31 f32 fe_0_79_1 fe_0_80_1 fe_0_81_1 hE_0_82_1 hE_0_83_1 hE_0_84_1 hE_0_85_1 hE_0_86_1 hE_0_87_1 hE_0_88_1 hE_0_89_1 hE_0_90_1 hE_0_91_1 hE_0_92_1 kz_0_79 kz_0_80 kz_0_81
  have rf25 : tv_ok ta (0, 0, 410000000, []) (n_v vs 25) := tv_in t25 (by first | omega | grind) (by first | omega | grind)
  refine ⟨List.forall_mem_cons.mpr ⟨rf25, (fun _ h => (by cases h))⟩, [], trivial, ?_, (fun _ h => (by cases h))⟩
  rw [List.append_nil]
  exact (fun _ h => (by cases h))
set_option maxHeartbeats 4000000 in
theorem vc_Mo_augment_28_r0 (x1 : Int) (x2 : Int) (x10 : Int) (x12 : Int) (x13 : Int) (x16 : Int) (x26 : Int) (cameBy_0 : Int → Int) (pointMany_0 : Int) (queue_0 : Int → Int) (cameBy_1 : Int → Int) (pointMany_1 : Int) (queue_1 : Int → Int) (cameBy_2 : Int → Int) (pointMany_2 : Int) (spot_2 : Int → Int) (costA_2 : Int → Int) (costB_2 : Int → Int) (costW_2 : Int → Int) (costPlain_2 : Int → Int) (apartA_2 : Int → Int) (apartB_2 : Int → Int) (apart_2 : Int → Int) (costMany_2 : Int) (apartMany_2 : Int) (queue_2 : Int → Int) (costMany_0 : Int) (costMany_1 : Int) (apartMany_0 : Int) (apartMany_1 : Int) (spot_0 : Int → Int) (spot_1 : Int → Int) (costA_0 : Int → Int) (costA_1 : Int → Int) (costB_0 : Int → Int) (costB_1 : Int → Int) (costW_0 : Int → Int) (costW_1 : Int → Int) (costPlain_0 : Int → Int) (costPlain_1 : Int → Int) (apartA_0 : Int → Int) (apartA_1 : Int → Int) (apartB_0 : Int → Int) (apartB_1 : Int → Int) (apart_0 : Int → Int) (apart_1 : Int → Int) (k1 : 2 ≤ x1 ∧ x1 ≤ 78) (k2 : 0 ≤ x2 ∧ x2 ≤ 76) (k10 : 1 ≤ x10 ∧ x10 ≤ 79) (k12 : 0 ≤ x12 ∧ x12 ≤ 77) (k13 : (-2) ≤ x13 ∧ x13 ≤ 80) (k16 : 0 ≤ x16 ∧ x16 ≤ 77) (k26 : (-1) ≤ x26 ∧ x26 ≤ 77) (h0 : x26 = cameBy_0 (x12)) (h32 : x16 = cameBy_2 (x12)) (f33 : x12 ≠ x2) (f41 : AUW (queue_2) (cameBy_2) (x1) (x2) (x10) (x12) (x13)) (fe_0_79_1 : pointMany_0 = pointMany_1) (fe_0_80_1 : costMany_0 = costMany_1) (fe_0_81_1 : apartMany_0 = apartMany_1) (fe_0_79_2 : pointMany_1 = pointMany_2) (fe_0_80_2 : costMany_1 = costMany_2) (fe_0_81_2 : apartMany_1 = apartMany_2) (hE_0_82_1 : ∀ j : Int, spot_0 j = spot_1 j) (hE_0_82_2 : ∀ j : Int, spot_1 j = spot_2 j) (hE_0_83_1 : ∀ j : Int, costA_0 j = costA_1 j) (hE_0_83_2 : ∀ j : Int, costA_1 j = costA_2 j) (hE_0_84_1 : ∀ j : Int, costB_0 j = costB_1 j) (hE_0_84_2 : ∀ j : Int, costB_1 j = costB_2 j) (hE_0_85_1 : ∀ j : Int, costW_0 j = costW_1 j) (hE_0_85_2 : ∀ j : Int, costW_1 j = costW_2 j) (hE_0_86_1 : ∀ j : Int, costPlain_0 j = costPlain_1 j) (hE_0_86_2 : ∀ j : Int, costPlain_1 j = costPlain_2 j) (hE_0_87_1 : ∀ j : Int, apartA_0 j = apartA_1 j) (hE_0_87_2 : ∀ j : Int, apartA_1 j = apartA_2 j) (hE_0_88_1 : ∀ j : Int, apartB_0 j = apartB_1 j) (hE_0_88_2 : ∀ j : Int, apartB_1 j = apartB_2 j) (hE_0_89_1 : ∀ j : Int, apart_0 j = apart_1 j) (hE_0_89_2 : ∀ j : Int, apart_1 j = apart_2 j) (hE_0_91_1 : ∀ j : Int, cameBy_0 j = cameBy_1 j) (hE_0_91_2 : ∀ j : Int, cameBy_1 j = cameBy_2 j) (hE_0_92_1 : ∀ j : Int, queue_0 j = queue_1 j) (hE_0_92_2 : ∀ j : Int, queue_1 j = queue_2 j) (kz_0_79 : 0 ≤ pointMany_0 ∧ pointMany_0 ≤ 76) (kz_0_80 : 0 ≤ costMany_0 ∧ costMany_0 ≤ 200) (kz_0_81 : 0 ≤ apartMany_0 ∧ apartMany_0 ≤ 200) : 0 ≤ x26 ∧ x26 ≤ 77 := by
  subst fe_0_79_1
  subst fe_0_80_1
  subst fe_0_81_1
  subst fe_0_79_2
  subst fe_0_80_2
  subst fe_0_81_2
  have e_hE_0_82_1 := funext hE_0_82_1; subst e_hE_0_82_1
  have e_hE_0_82_2 := funext hE_0_82_2; subst e_hE_0_82_2
  have e_hE_0_83_1 := funext hE_0_83_1; subst e_hE_0_83_1
  have e_hE_0_83_2 := funext hE_0_83_2; subst e_hE_0_83_2
  have e_hE_0_84_1 := funext hE_0_84_1; subst e_hE_0_84_1
  have e_hE_0_84_2 := funext hE_0_84_2; subst e_hE_0_84_2
  have e_hE_0_85_1 := funext hE_0_85_1; subst e_hE_0_85_1
  have e_hE_0_85_2 := funext hE_0_85_2; subst e_hE_0_85_2
  have e_hE_0_86_1 := funext hE_0_86_1; subst e_hE_0_86_1
  have e_hE_0_86_2 := funext hE_0_86_2; subst e_hE_0_86_2
  have e_hE_0_87_1 := funext hE_0_87_1; subst e_hE_0_87_1
  have e_hE_0_87_2 := funext hE_0_87_2; subst e_hE_0_87_2
  have e_hE_0_88_1 := funext hE_0_88_1; subst e_hE_0_88_1
  have e_hE_0_88_2 := funext hE_0_88_2; subst e_hE_0_88_2
  have e_hE_0_89_1 := funext hE_0_89_1; subst e_hE_0_89_1
  have e_hE_0_89_2 := funext hE_0_89_2; subst e_hE_0_89_2
  have e_hE_0_91_1 := funext hE_0_91_1; subst e_hE_0_91_1
  have e_hE_0_91_2 := funext hE_0_91_2; subst e_hE_0_91_2
  have e_hE_0_92_1 := funext hE_0_92_1; subst e_hE_0_92_1
  have e_hE_0_92_2 := funext hE_0_92_2; subst e_hE_0_92_2
  have h := auw_step (g_zq := 80) ‹AUW _ _ _ _ _ _ _› (by omega) (by assumption) (by omega)
  omega
def o_Mo_augment_28 : or_T := (250, 27, [(0, (2, 0, 0, [165])), (1, (0, 2, 78, [])), (2, (0, 0, 76, [])), (3, (0, 1, 77, [])), (4, (0, -2, 180000001, [])), (5, (2, 0, 0, [165])), (6, (0, 2, 79, [])), (7, (0, 0, 76, [])), (8, (0, 1, 77, [])), (10, (0, 1, 79, [])), (11, (0, 0, 1000000, [])), (12, (0, 0, 77, [])), (13, (0, -2, 80, [])), (14, (2, 0, 0, [227])), (15, (2, 0, 0, [228])), (16, (0, 0, 77, [])), (17, (0, 0, 6083, [])), (18, (0, 0, 6083, [])), (19, (0, 0, 410000000, [])), (20, (0, 0, 410000000, [])), (21, (0, 0, 6083, [])), (22, (0, 0, 77, [])), (23, (0, 0, 6083, [])), (24, (0, 0, 410000000, [])), (25, (0, 0, 410000000, [])), (26, (0, -1, 77, []))], [(10, [26, 15, 12], []), (9, [15, 5], [91]), (20, [7, 6], [50, 0, 0, 0, 6, 4, 2, 1, 0, 0, 1, 1, 1]), (20, [8, 6], [50, 0, 0, 0, 6, 4, 2, 1, 0, 0, 1, 1, 1]), (20, [6], [50, 0, 0, 0, 2, 1, 0, 0, 78]), (20, [6, 5], [50, 1, 0, 1079, 1, 2, 1, 0, 4, 3, 2, 1, 79, 0, 2]), (20, [7, 5], [50, 1, 0, 1079, 1, 2, 1, 0, 2, 1, 79]), (20, [8, 5], [50, 1, 0, 1079, 1, 2, 1, 0, 4, 3, 2, 1, 79, 0, 1]), (20, [5, 6, 7, 10, 12, 13], [60, 0, 2, 394, 92, 91]), (24, [0, 5], []), (24, [1, 6], []), (24, [2, 7], []), (24, [3, 8], []), (100, [14, 23, 25], []), (1, [25, 24, 11], []), (10, [24, 14, 23], []), (1, [23, 21, 22], []), (10, [22, 15, 12], []), (3, [21, 6, 12], []), (9, [14, 5], [90]), (20, [7, 6], [50, 0, 0, 0, 6, 4, 2, 1, 0, 0, 1, 1, 1]), (20, [8, 6], [50, 0, 0, 0, 6, 4, 2, 1, 0, 0, 1, 1, 1]), (20, [6], [50, 0, 0, 0, 2, 1, 0, 0, 78]), (20, [6, 5], [50, 1, 0, 1079, 1, 2, 1, 0, 4, 3, 2, 1, 79, 0, 2]), (20, [7, 5], [50, 1, 0, 1079, 1, 2, 1, 0, 2, 1, 79]), (20, [8, 5], [50, 1, 0, 1079, 1, 2, 1, 0, 4, 3, 2, 1, 79, 0, 1]), (20, [5, 6, 7, 10, 12, 13], [60, 0, 2, 394, 92, 91]), (100, [14, 18, 20], []), (2, [20, 19, 11], []), (10, [19, 14, 18], []), (1, [18, 17, 12], []), (3, [17, 6, 16], []), (10, [16, 15, 12], []), (7, [12, 7], [1]), (20, [7, 6], [50, 0, 0, 0, 6, 4, 2, 1, 0, 0, 1, 1, 1]), (20, [8, 6], [50, 0, 0, 0, 6, 4, 2, 1, 0, 0, 1, 1, 1]), (20, [6], [50, 0, 0, 0, 2, 1, 0, 0, 78]), (20, [6, 5], [50, 1, 0, 1079, 1, 2, 1, 0, 4, 3, 2, 1, 79, 0, 2]), (20, [7, 5], [50, 1, 0, 1079, 1, 2, 1, 0, 2, 1, 79]), (20, [8, 5], [50, 1, 0, 1079, 1, 2, 1, 0, 4, 3, 2, 1, 79, 0, 1]), (20, [5, 11, 12, 4], [60, 3, 10, 408, 79, 80, 81, 90, 91, 82, 83, 84, 85, 86, 87, 88, 89]), (20, [5, 6, 7, 10, 12, 13], [60, 0, 2, 394, 92, 91])], [(26, (0, 0, 77, []))], [], [], [], [(25, 11, 0, 410000000), (25, 24, 0, 1000000), (23, 22, 0, 6083), (23, 21, 0, 77), (20, 19, -1000000, 0), (18, 12, 0, 6083), (18, 17, 0, 77), (1, 6, -4294967296, 0), (2, 7, -4294967296, 0), (3, 8, -4294967296, 0), (6, 1, -4294967296, 0), (7, 2, -4294967296, 0), (8, 3, -4294967296, 0)])
theorem oo_Mo_augment_28 {kA : Nat → ClassId} : or_ok PRD kA GG o_Mo_augment_28 := by
  refine or_mk fun A ta ws vs hD hth hl => ?_
  intro t0 r0 t1 k1 t2 k2 t3 k3 t4 k4 t5 r5 t6 k6 t7 k7 t8 k8 t10 k10 t11 k11 t12 k12 t13 k13 t14 r14 t15 r15 t16 k16 t17 k17 t18 k18 t19 k19 t20 k20 t21 k21 t22 k22 t23 k23 t24 k24 t25 k25 t26 k26 d0 d1 d2 d3 d4 d5 d6 d7 d8 d9 d10 d11 d12 f0 f1 f2 f3 f4 f5 f6 f7 f8 f9 f10 f11 f12 ta1 w1 le1 s1 f14 f15 f16 f17 f18 f19 f20 f21 f22 f23 f24 f25 f26 ta2 w2 le2 s2 f28 f29 f30 f31 f32 f33 f34 f35 f36 f37 f38 f39 f40 f41
  replace f0 := shm_106 f0
  replace f1 := shm_921 f1
  replace f9 := shm_5 f9
  replace f10 := shm_5 f10
  replace f11 := shm_5 f11
  have s1 : (∀ b j, w_el ws b j = if b = v_ad (n_v vs 14) ∧ j = (v_iv (n_v vs 23)).toNat then v_iv (n_v vs 25) else w_el w1 b j) ∧ ∀ b k, w_fd ws b k = w_fd w1 b k := s1.2
  have s2 : (∀ b j, w_el w1 b j = if b = v_ad (n_v vs 14) ∧ j = (v_iv (n_v vs 18)).toNat then v_iv (n_v vs 20) else w_el w2 b j) ∧ ∀ b k, w_fd w1 b k = w_fd w2 b k := s2.2
  replace f32 := shm_106 f32
  replace f33 := shm_40 f33
  replace f41 := shm_927 f41
  have q5 : n_v vs 5 = n_v vs 0 := f9.symm
  have q6 : n_v vs 6 = n_v vs 1 := f10.symm
  have q7 : n_v vs 7 = n_v vs 2 := f11.symm
  simp only [q5, q6, q7] at f1 f33 f41
  have ar_0_82_1 : w_ar w1 (n_v vs 0) 82 = w_ar ws (n_v vs 0) 82 := congrArg v_ad (s1.2 _ _).symm
  have ar_0_82_2 : w_ar w2 (n_v vs 0) 82 = w_ar ws (n_v vs 0) 82 := by rw [← ar_0_82_1]; show v_ad (w_fd w2 _ _) = v_ad (w_fd w1 _ _); rw [s2.2]
  have cr_0_82 := fdq_225 hD hth r0
  have ar_0_83_1 : w_ar w1 (n_v vs 0) 83 = w_ar ws (n_v vs 0) 83 := congrArg v_ad (s1.2 _ _).symm
  have ar_0_83_2 : w_ar w2 (n_v vs 0) 83 = w_ar ws (n_v vs 0) 83 := by rw [← ar_0_83_1]; show v_ad (w_fd w2 _ _) = v_ad (w_fd w1 _ _); rw [s2.2]
  have cr_0_83 := fdq_125 hD hth r0
  have ar_0_84_1 : w_ar w1 (n_v vs 0) 84 = w_ar ws (n_v vs 0) 84 := congrArg v_ad (s1.2 _ _).symm
  have ar_0_84_2 : w_ar w2 (n_v vs 0) 84 = w_ar ws (n_v vs 0) 84 := by rw [← ar_0_84_1]; show v_ad (w_fd w2 _ _) = v_ad (w_fd w1 _ _); rw [s2.2]
  have cr_0_84 := fdq_126 hD hth r0
  have ar_0_85_1 : w_ar w1 (n_v vs 0) 85 = w_ar ws (n_v vs 0) 85 := congrArg v_ad (s1.2 _ _).symm
  have ar_0_85_2 : w_ar w2 (n_v vs 0) 85 = w_ar ws (n_v vs 0) 85 := by rw [← ar_0_85_1]; show v_ad (w_fd w2 _ _) = v_ad (w_fd w1 _ _); rw [s2.2]
  have cr_0_85 := fdq_127 hD hth r0
  have ar_0_86_1 : w_ar w1 (n_v vs 0) 86 = w_ar ws (n_v vs 0) 86 := congrArg v_ad (s1.2 _ _).symm
  have ar_0_86_2 : w_ar w2 (n_v vs 0) 86 = w_ar ws (n_v vs 0) 86 := by rw [← ar_0_86_1]; show v_ad (w_fd w2 _ _) = v_ad (w_fd w1 _ _); rw [s2.2]
  have cr_0_86 := fdq_128 hD hth r0
  have ar_0_87_1 : w_ar w1 (n_v vs 0) 87 = w_ar ws (n_v vs 0) 87 := congrArg v_ad (s1.2 _ _).symm
  have ar_0_87_2 : w_ar w2 (n_v vs 0) 87 = w_ar ws (n_v vs 0) 87 := by rw [← ar_0_87_1]; show v_ad (w_fd w2 _ _) = v_ad (w_fd w1 _ _); rw [s2.2]
  have cr_0_87 := fdq_118 hD hth r0
  have ar_0_88_1 : w_ar w1 (n_v vs 0) 88 = w_ar ws (n_v vs 0) 88 := congrArg v_ad (s1.2 _ _).symm
  have ar_0_88_2 : w_ar w2 (n_v vs 0) 88 = w_ar ws (n_v vs 0) 88 := by rw [← ar_0_88_1]; show v_ad (w_fd w2 _ _) = v_ad (w_fd w1 _ _); rw [s2.2]
  have cr_0_88 := fdq_119 hD hth r0
  have ar_0_89_1 : w_ar w1 (n_v vs 0) 89 = w_ar ws (n_v vs 0) 89 := congrArg v_ad (s1.2 _ _).symm
  have ar_0_89_2 : w_ar w2 (n_v vs 0) 89 = w_ar ws (n_v vs 0) 89 := by rw [← ar_0_89_1]; show v_ad (w_fd w2 _ _) = v_ad (w_fd w1 _ _); rw [s2.2]
  have cr_0_89 := fdq_120 hD hth r0
  have ar_0_90_1 : w_ar w1 (n_v vs 0) 90 = w_ar ws (n_v vs 0) 90 := congrArg v_ad (s1.2 _ _).symm
  have ar_0_90_2 : w_ar w2 (n_v vs 0) 90 = w_ar ws (n_v vs 0) 90 := by rw [← ar_0_90_1]; show v_ad (w_fd w2 _ _) = v_ad (w_fd w1 _ _); rw [s2.2]
  have ar_0_91_1 : w_ar w1 (n_v vs 0) 91 = w_ar ws (n_v vs 0) 91 := congrArg v_ad (s1.2 _ _).symm
  have ar_0_91_2 : w_ar w2 (n_v vs 0) 91 = w_ar ws (n_v vs 0) 91 := by rw [← ar_0_91_1]; show v_ad (w_fd w2 _ _) = v_ad (w_fd w1 _ _); rw [s2.2]
  have cr_0_91 := fdq_227 hD hth r0
  have ar_0_92_1 : w_ar w1 (n_v vs 0) 92 = w_ar ws (n_v vs 0) 92 := congrArg v_ad (s1.2 _ _).symm
  have ar_0_92_2 : w_ar w2 (n_v vs 0) 92 = w_ar ws (n_v vs 0) 92 := by rw [← ar_0_92_1]; show v_ad (w_fd w2 _ _) = v_ad (w_fd w1 _ _); rw [s2.2]
  have cr_0_92 := fdq_228 hD hth r0
  have ad_15 : v_ad (n_v vs 15) = w_ar ws (n_v vs 0) 91 := congrArg v_ad f1
  simp only [ad_15] at f0
  have h0 : v_iv (n_v vs 26) = w_ei ws (w_ar ws (n_v vs 0) 91) (v_iv (n_v vs 12)) := f0
  simp only [ad_15] at f32
  have h32 : v_iv (n_v vs 16) = w_ei w2 (w_ar ws (n_v vs 0) 91) (v_iv (n_v vs 12)) := f32
  simp only [ar_0_82_2, ar_0_83_2, ar_0_84_2, ar_0_85_2, ar_0_86_2, ar_0_87_2, ar_0_88_2, ar_0_89_2, ar_0_90_2, ar_0_91_2, ar_0_92_2] at f41
  have fe_0_79_1 : w_fi ws (n_v vs 0) 79 = w_fi w1 (n_v vs 0) 79 := congrArg v_iv (s1.2 _ _)
  have fe_0_80_1 : w_fi ws (n_v vs 0) 80 = w_fi w1 (n_v vs 0) 80 := congrArg v_iv (s1.2 _ _)
  have fe_0_81_1 : w_fi ws (n_v vs 0) 81 = w_fi w1 (n_v vs 0) 81 := congrArg v_iv (s1.2 _ _)
  have fe_0_79_2 : w_fi w1 (n_v vs 0) 79 = w_fi w2 (n_v vs 0) 79 := congrArg v_iv (s2.2 _ _)
  have fe_0_80_2 : w_fi w1 (n_v vs 0) 80 = w_fi w2 (n_v vs 0) 80 := congrArg v_iv (s2.2 _ _)
  have fe_0_81_2 : w_fi w1 (n_v vs 0) 81 = w_fi w2 (n_v vs 0) 81 := congrArg v_iv (s2.2 _ _)
  have hE_0_82_1 : ∀ j : Int, w_ei ws (w_ar ws (n_v vs 0) 82) j = w_ei w1 (w_ar ws (n_v vs 0) 82) j := el_kp s1.1 r14 cr_0_82 (by decide)
  have hE_0_82_2 : ∀ j : Int, w_ei w1 (w_ar ws (n_v vs 0) 82) j = w_ei w2 (w_ar ws (n_v vs 0) 82) j := el_kp s2.1 r14 cr_0_82 (by decide)
  have hE_0_83_1 : ∀ j : Int, w_ei ws (w_ar ws (n_v vs 0) 83) j = w_ei w1 (w_ar ws (n_v vs 0) 83) j := el_kp s1.1 r14 cr_0_83 (by decide)
  have hE_0_83_2 : ∀ j : Int, w_ei w1 (w_ar ws (n_v vs 0) 83) j = w_ei w2 (w_ar ws (n_v vs 0) 83) j := el_kp s2.1 r14 cr_0_83 (by decide)
  have hE_0_84_1 : ∀ j : Int, w_ei ws (w_ar ws (n_v vs 0) 84) j = w_ei w1 (w_ar ws (n_v vs 0) 84) j := el_kp s1.1 r14 cr_0_84 (by decide)
  have hE_0_84_2 : ∀ j : Int, w_ei w1 (w_ar ws (n_v vs 0) 84) j = w_ei w2 (w_ar ws (n_v vs 0) 84) j := el_kp s2.1 r14 cr_0_84 (by decide)
  have hE_0_85_1 : ∀ j : Int, w_ei ws (w_ar ws (n_v vs 0) 85) j = w_ei w1 (w_ar ws (n_v vs 0) 85) j := el_kp s1.1 r14 cr_0_85 (by decide)
  have hE_0_85_2 : ∀ j : Int, w_ei w1 (w_ar ws (n_v vs 0) 85) j = w_ei w2 (w_ar ws (n_v vs 0) 85) j := el_kp s2.1 r14 cr_0_85 (by decide)
  have hE_0_86_1 : ∀ j : Int, w_ei ws (w_ar ws (n_v vs 0) 86) j = w_ei w1 (w_ar ws (n_v vs 0) 86) j := el_kp s1.1 r14 cr_0_86 (by decide)
  have hE_0_86_2 : ∀ j : Int, w_ei w1 (w_ar ws (n_v vs 0) 86) j = w_ei w2 (w_ar ws (n_v vs 0) 86) j := el_kp s2.1 r14 cr_0_86 (by decide)
  have hE_0_87_1 : ∀ j : Int, w_ei ws (w_ar ws (n_v vs 0) 87) j = w_ei w1 (w_ar ws (n_v vs 0) 87) j := el_kp s1.1 r14 cr_0_87 (by decide)
  have hE_0_87_2 : ∀ j : Int, w_ei w1 (w_ar ws (n_v vs 0) 87) j = w_ei w2 (w_ar ws (n_v vs 0) 87) j := el_kp s2.1 r14 cr_0_87 (by decide)
  have hE_0_88_1 : ∀ j : Int, w_ei ws (w_ar ws (n_v vs 0) 88) j = w_ei w1 (w_ar ws (n_v vs 0) 88) j := el_kp s1.1 r14 cr_0_88 (by decide)
  have hE_0_88_2 : ∀ j : Int, w_ei w1 (w_ar ws (n_v vs 0) 88) j = w_ei w2 (w_ar ws (n_v vs 0) 88) j := el_kp s2.1 r14 cr_0_88 (by decide)
  have hE_0_89_1 : ∀ j : Int, w_ei ws (w_ar ws (n_v vs 0) 89) j = w_ei w1 (w_ar ws (n_v vs 0) 89) j := el_kp s1.1 r14 cr_0_89 (by decide)
  have hE_0_89_2 : ∀ j : Int, w_ei w1 (w_ar ws (n_v vs 0) 89) j = w_ei w2 (w_ar ws (n_v vs 0) 89) j := el_kp s2.1 r14 cr_0_89 (by decide)
  have hE_0_91_1 : ∀ j : Int, w_ei ws (w_ar ws (n_v vs 0) 91) j = w_ei w1 (w_ar ws (n_v vs 0) 91) j := el_kp s1.1 r14 cr_0_91 (by decide)
  have hE_0_91_2 : ∀ j : Int, w_ei w1 (w_ar ws (n_v vs 0) 91) j = w_ei w2 (w_ar ws (n_v vs 0) 91) j := el_kp s2.1 r14 cr_0_91 (by decide)
  have hE_0_92_1 : ∀ j : Int, w_ei ws (w_ar ws (n_v vs 0) 92) j = w_ei w1 (w_ar ws (n_v vs 0) 92) j := el_kp s1.1 r14 cr_0_92 (by decide)
  have hE_0_92_2 : ∀ j : Int, w_ei w1 (w_ar ws (n_v vs 0) 92) j = w_ei w2 (w_ar ws (n_v vs 0) 92) j := el_kp s2.1 r14 cr_0_92 (by decide)
  have kz_0_79 := fdq_146 hD hth r0
  have kz_0_80 := fdq_130 hD hth r0
  have kz_0_81 := fdq_123 hD hth r0
  have hrf0 : 0 ≤ v_iv (n_v vs 26) ∧ v_iv (n_v vs 26) ≤ 77 := vc_Mo_augment_28_r0 (v_iv (n_v vs 1)) (v_iv (n_v vs 2)) (v_iv (n_v vs 10)) (v_iv (n_v vs 12)) (v_iv (n_v vs 13)) (v_iv (n_v vs 16)) (v_iv (n_v vs 26)) (w_ei ws (w_ar ws (n_v vs 0) 91)) (w_fi ws (n_v vs 0) 79) (w_ei ws (w_ar ws (n_v vs 0) 92)) (w_ei w1 (w_ar ws (n_v vs 0) 91)) (w_fi w1 (n_v vs 0) 79) (w_ei w1 (w_ar ws (n_v vs 0) 92)) (w_ei w2 (w_ar ws (n_v vs 0) 91)) (w_fi w2 (n_v vs 0) 79) (w_ei w2 (w_ar ws (n_v vs 0) 82)) (w_ei w2 (w_ar ws (n_v vs 0) 83)) (w_ei w2 (w_ar ws (n_v vs 0) 84)) (w_ei w2 (w_ar ws (n_v vs 0) 85)) (w_ei w2 (w_ar ws (n_v vs 0) 86)) (w_ei w2 (w_ar ws (n_v vs 0) 87)) (w_ei w2 (w_ar ws (n_v vs 0) 88)) (w_ei w2 (w_ar ws (n_v vs 0) 89)) (w_fi w2 (n_v vs 0) 80) (w_fi w2 (n_v vs 0) 81) (w_ei w2 (w_ar ws (n_v vs 0) 92)) (w_fi ws (n_v vs 0) 80) (w_fi w1 (n_v vs 0) 80) (w_fi ws (n_v vs 0) 81) (w_fi w1 (n_v vs 0) 81) (w_ei ws (w_ar ws (n_v vs 0) 82)) (w_ei w1 (w_ar ws (n_v vs 0) 82)) (w_ei ws (w_ar ws (n_v vs 0) 83)) (w_ei w1 (w_ar ws (n_v vs 0) 83)) (w_ei ws (w_ar ws (n_v vs 0) 84)) (w_ei w1 (w_ar ws (n_v vs 0) 84)) (w_ei ws (w_ar ws (n_v vs 0) 85)) (w_ei w1 (w_ar ws (n_v vs 0) 85)) (w_ei ws (w_ar ws (n_v vs 0) 86)) (w_ei w1 (w_ar ws (n_v vs 0) 86)) (w_ei ws (w_ar ws (n_v vs 0) 87)) (w_ei w1 (w_ar ws (n_v vs 0) 87)) (w_ei ws (w_ar ws (n_v vs 0) 88)) (w_ei w1 (w_ar ws (n_v vs 0) 88)) (w_ei ws (w_ar ws (n_v vs 0) 89)) (w_ei w1 (w_ar ws (n_v vs 0) 89)) k1 k2 k10 k12 k13 k16 k26 h0 h32 f33 f41 fe_0_79_1 fe_0_80_1 fe_0_81_1 fe_0_79_2 fe_0_80_2 fe_0_81_2 hE_0_82_1 hE_0_82_2 hE_0_83_1 hE_0_83_2 hE_0_84_1 hE_0_84_2 hE_0_85_1 hE_0_85_2 hE_0_86_1 hE_0_86_2 hE_0_87_1 hE_0_87_2 hE_0_88_1 hE_0_88_2 hE_0_89_1 hE_0_89_2 hE_0_91_1 hE_0_91_2 hE_0_92_1 hE_0_92_2 kz_0_79 kz_0_80 kz_0_81
  have rf26 : tv_ok ta (0, 0, 77, []) (n_v vs 26) := tv_in t26 (by first | omega | grind) (by first | omega | grind)
  refine ⟨List.forall_mem_cons.mpr ⟨rf26, (fun _ h => (by cases h))⟩, [], trivial, ?_, (fun _ h => (by cases h))⟩
  rw [List.append_nil]
  exact (fun _ h => (by cases h))
set_option maxHeartbeats 4000000 in
theorem vc_Mo_augment_29_0 (x1 : Int) (x2 : Int) (cameBy_0 : Int → Int) (pointMany_0 : Int) (queue_0 : Int → Int) (cameBy_1 : Int → Int) (pointMany_1 : Int) (queue_1 : Int → Int) (cameBy_2 : Int → Int) (pointMany_2 : Int) (spot_2 : Int → Int) (costA_2 : Int → Int) (costB_2 : Int → Int) (costW_2 : Int → Int) (costPlain_2 : Int → Int) (apartA_2 : Int → Int) (apartB_2 : Int → Int) (apart_2 : Int → Int) (costMany_2 : Int) (apartMany_2 : Int) (queue_2 : Int → Int) (costMany_0 : Int) (costMany_1 : Int) (apartMany_0 : Int) (apartMany_1 : Int) (spot_0 : Int → Int) (spot_1 : Int → Int) (costA_0 : Int → Int) (costA_1 : Int → Int) (costB_0 : Int → Int) (costB_1 : Int → Int) (costW_0 : Int → Int) (costW_1 : Int → Int) (costPlain_0 : Int → Int) (costPlain_1 : Int → Int) (apartA_0 : Int → Int) (apartA_1 : Int → Int) (apartB_0 : Int → Int) (apartB_1 : Int → Int) (apart_0 : Int → Int) (apart_1 : Int → Int) (k1 : 2 ≤ x1 ∧ x1 ≤ 78) (k2 : 0 ≤ x2 ∧ x2 ≤ 76) (f34 : (x2 + 1) ≤ x1) (fe_0_79_1 : pointMany_0 = pointMany_1) (fe_0_80_1 : costMany_0 = costMany_1) (fe_0_81_1 : apartMany_0 = apartMany_1) (fe_0_79_2 : pointMany_1 = pointMany_2) (fe_0_80_2 : costMany_1 = costMany_2) (fe_0_81_2 : apartMany_1 = apartMany_2) (hE_0_82_1 : ∀ j : Int, spot_0 j = spot_1 j) (hE_0_82_2 : ∀ j : Int, spot_1 j = spot_2 j) (hE_0_83_1 : ∀ j : Int, costA_0 j = costA_1 j) (hE_0_83_2 : ∀ j : Int, costA_1 j = costA_2 j) (hE_0_84_1 : ∀ j : Int, costB_0 j = costB_1 j) (hE_0_84_2 : ∀ j : Int, costB_1 j = costB_2 j) (hE_0_85_1 : ∀ j : Int, costW_0 j = costW_1 j) (hE_0_85_2 : ∀ j : Int, costW_1 j = costW_2 j) (hE_0_86_1 : ∀ j : Int, costPlain_0 j = costPlain_1 j) (hE_0_86_2 : ∀ j : Int, costPlain_1 j = costPlain_2 j) (hE_0_87_1 : ∀ j : Int, apartA_0 j = apartA_1 j) (hE_0_87_2 : ∀ j : Int, apartA_1 j = apartA_2 j) (hE_0_88_1 : ∀ j : Int, apartB_0 j = apartB_1 j) (hE_0_88_2 : ∀ j : Int, apartB_1 j = apartB_2 j) (hE_0_89_1 : ∀ j : Int, apart_0 j = apart_1 j) (hE_0_89_2 : ∀ j : Int, apart_1 j = apart_2 j) (hE_0_91_1 : ∀ j : Int, cameBy_0 j = cameBy_1 j) (hE_0_91_2 : ∀ j : Int, cameBy_1 j = cameBy_2 j) (hE_0_92_1 : ∀ j : Int, queue_0 j = queue_1 j) (hE_0_92_2 : ∀ j : Int, queue_1 j = queue_2 j) (kz_0_79 : 0 ≤ pointMany_0 ∧ pointMany_0 ≤ 76) (kz_0_80 : 0 ≤ costMany_0 ∧ costMany_0 ≤ 200) (kz_0_81 : 0 ≤ apartMany_0 ∧ apartMany_0 ≤ 200) : (x2 + 1) ≤ x1 := by
  subst fe_0_79_1
  subst fe_0_80_1
  subst fe_0_81_1
  subst fe_0_79_2
  subst fe_0_80_2
  subst fe_0_81_2
  have e_hE_0_82_1 := funext hE_0_82_1; subst e_hE_0_82_1
  have e_hE_0_82_2 := funext hE_0_82_2; subst e_hE_0_82_2
  have e_hE_0_83_1 := funext hE_0_83_1; subst e_hE_0_83_1
  have e_hE_0_83_2 := funext hE_0_83_2; subst e_hE_0_83_2
  have e_hE_0_84_1 := funext hE_0_84_1; subst e_hE_0_84_1
  have e_hE_0_84_2 := funext hE_0_84_2; subst e_hE_0_84_2
  have e_hE_0_85_1 := funext hE_0_85_1; subst e_hE_0_85_1
  have e_hE_0_85_2 := funext hE_0_85_2; subst e_hE_0_85_2
  have e_hE_0_86_1 := funext hE_0_86_1; subst e_hE_0_86_1
  have e_hE_0_86_2 := funext hE_0_86_2; subst e_hE_0_86_2
  have e_hE_0_87_1 := funext hE_0_87_1; subst e_hE_0_87_1
  have e_hE_0_87_2 := funext hE_0_87_2; subst e_hE_0_87_2
  have e_hE_0_88_1 := funext hE_0_88_1; subst e_hE_0_88_1
  have e_hE_0_88_2 := funext hE_0_88_2; subst e_hE_0_88_2
  have e_hE_0_89_1 := funext hE_0_89_1; subst e_hE_0_89_1
  have e_hE_0_89_2 := funext hE_0_89_2; subst e_hE_0_89_2
  have e_hE_0_91_1 := funext hE_0_91_1; subst e_hE_0_91_1
  have e_hE_0_91_2 := funext hE_0_91_2; subst e_hE_0_91_2
  have e_hE_0_92_1 := funext hE_0_92_1; subst e_hE_0_92_1
  have e_hE_0_92_2 := funext hE_0_92_2; subst e_hE_0_92_2
  first
    | omega
    | (have h := auw_step (g_zq := 80) ‹AUW _ _ _ _ _ _ _› (by omega) (by assumption) (by omega); omega)
set_option maxHeartbeats 4000000 in
theorem vc_Mo_augment_29_1 (x1 : Int) (x3 : Int) (cameBy_0 : Int → Int) (pointMany_0 : Int) (queue_0 : Int → Int) (cameBy_1 : Int → Int) (pointMany_1 : Int) (queue_1 : Int → Int) (cameBy_2 : Int → Int) (pointMany_2 : Int) (spot_2 : Int → Int) (costA_2 : Int → Int) (costB_2 : Int → Int) (costW_2 : Int → Int) (costPlain_2 : Int → Int) (apartA_2 : Int → Int) (apartB_2 : Int → Int) (apart_2 : Int → Int) (costMany_2 : Int) (apartMany_2 : Int) (queue_2 : Int → Int) (costMany_0 : Int) (costMany_1 : Int) (apartMany_0 : Int) (apartMany_1 : Int) (spot_0 : Int → Int) (spot_1 : Int → Int) (costA_0 : Int → Int) (costA_1 : Int → Int) (costB_0 : Int → Int) (costB_1 : Int → Int) (costW_0 : Int → Int) (costW_1 : Int → Int) (costPlain_0 : Int → Int) (costPlain_1 : Int → Int) (apartA_0 : Int → Int) (apartA_1 : Int → Int) (apartB_0 : Int → Int) (apartB_1 : Int → Int) (apart_0 : Int → Int) (apart_1 : Int → Int) (k1 : 2 ≤ x1 ∧ x1 ≤ 78) (k3 : 1 ≤ x3 ∧ x3 ≤ 77) (f35 : (x3 + 1) ≤ x1) (fe_0_79_1 : pointMany_0 = pointMany_1) (fe_0_80_1 : costMany_0 = costMany_1) (fe_0_81_1 : apartMany_0 = apartMany_1) (fe_0_79_2 : pointMany_1 = pointMany_2) (fe_0_80_2 : costMany_1 = costMany_2) (fe_0_81_2 : apartMany_1 = apartMany_2) (hE_0_82_1 : ∀ j : Int, spot_0 j = spot_1 j) (hE_0_82_2 : ∀ j : Int, spot_1 j = spot_2 j) (hE_0_83_1 : ∀ j : Int, costA_0 j = costA_1 j) (hE_0_83_2 : ∀ j : Int, costA_1 j = costA_2 j) (hE_0_84_1 : ∀ j : Int, costB_0 j = costB_1 j) (hE_0_84_2 : ∀ j : Int, costB_1 j = costB_2 j) (hE_0_85_1 : ∀ j : Int, costW_0 j = costW_1 j) (hE_0_85_2 : ∀ j : Int, costW_1 j = costW_2 j) (hE_0_86_1 : ∀ j : Int, costPlain_0 j = costPlain_1 j) (hE_0_86_2 : ∀ j : Int, costPlain_1 j = costPlain_2 j) (hE_0_87_1 : ∀ j : Int, apartA_0 j = apartA_1 j) (hE_0_87_2 : ∀ j : Int, apartA_1 j = apartA_2 j) (hE_0_88_1 : ∀ j : Int, apartB_0 j = apartB_1 j) (hE_0_88_2 : ∀ j : Int, apartB_1 j = apartB_2 j) (hE_0_89_1 : ∀ j : Int, apart_0 j = apart_1 j) (hE_0_89_2 : ∀ j : Int, apart_1 j = apart_2 j) (hE_0_91_1 : ∀ j : Int, cameBy_0 j = cameBy_1 j) (hE_0_91_2 : ∀ j : Int, cameBy_1 j = cameBy_2 j) (hE_0_92_1 : ∀ j : Int, queue_0 j = queue_1 j) (hE_0_92_2 : ∀ j : Int, queue_1 j = queue_2 j) (kz_0_79 : 0 ≤ pointMany_0 ∧ pointMany_0 ≤ 76) (kz_0_80 : 0 ≤ costMany_0 ∧ costMany_0 ≤ 200) (kz_0_81 : 0 ≤ apartMany_0 ∧ apartMany_0 ≤ 200) : (x3 + 1) ≤ x1 := by
  subst fe_0_79_1
  subst fe_0_80_1
  subst fe_0_81_1
  subst fe_0_79_2
  subst fe_0_80_2
  subst fe_0_81_2
  have e_hE_0_82_1 := funext hE_0_82_1; subst e_hE_0_82_1
  have e_hE_0_82_2 := funext hE_0_82_2; subst e_hE_0_82_2
  have e_hE_0_83_1 := funext hE_0_83_1; subst e_hE_0_83_1
  have e_hE_0_83_2 := funext hE_0_83_2; subst e_hE_0_83_2
  have e_hE_0_84_1 := funext hE_0_84_1; subst e_hE_0_84_1
  have e_hE_0_84_2 := funext hE_0_84_2; subst e_hE_0_84_2
  have e_hE_0_85_1 := funext hE_0_85_1; subst e_hE_0_85_1
  have e_hE_0_85_2 := funext hE_0_85_2; subst e_hE_0_85_2
  have e_hE_0_86_1 := funext hE_0_86_1; subst e_hE_0_86_1
  have e_hE_0_86_2 := funext hE_0_86_2; subst e_hE_0_86_2
  have e_hE_0_87_1 := funext hE_0_87_1; subst e_hE_0_87_1
  have e_hE_0_87_2 := funext hE_0_87_2; subst e_hE_0_87_2
  have e_hE_0_88_1 := funext hE_0_88_1; subst e_hE_0_88_1
  have e_hE_0_88_2 := funext hE_0_88_2; subst e_hE_0_88_2
  have e_hE_0_89_1 := funext hE_0_89_1; subst e_hE_0_89_1
  have e_hE_0_89_2 := funext hE_0_89_2; subst e_hE_0_89_2
  have e_hE_0_91_1 := funext hE_0_91_1; subst e_hE_0_91_1
  have e_hE_0_91_2 := funext hE_0_91_2; subst e_hE_0_91_2
  have e_hE_0_92_1 := funext hE_0_92_1; subst e_hE_0_92_1
  have e_hE_0_92_2 := funext hE_0_92_2; subst e_hE_0_92_2
  first
    | omega
    | (have h := auw_step (g_zq := 80) ‹AUW _ _ _ _ _ _ _› (by omega) (by assumption) (by omega); omega)
set_option maxHeartbeats 4000000 in
theorem vc_Mo_augment_29_2 (x1 : Int) (cameBy_0 : Int → Int) (pointMany_0 : Int) (queue_0 : Int → Int) (cameBy_1 : Int → Int) (pointMany_1 : Int) (queue_1 : Int → Int) (cameBy_2 : Int → Int) (pointMany_2 : Int) (spot_2 : Int → Int) (costA_2 : Int → Int) (costB_2 : Int → Int) (costW_2 : Int → Int) (costPlain_2 : Int → Int) (apartA_2 : Int → Int) (apartB_2 : Int → Int) (apart_2 : Int → Int) (costMany_2 : Int) (apartMany_2 : Int) (queue_2 : Int → Int) (costMany_0 : Int) (costMany_1 : Int) (apartMany_0 : Int) (apartMany_1 : Int) (spot_0 : Int → Int) (spot_1 : Int → Int) (costA_0 : Int → Int) (costA_1 : Int → Int) (costB_0 : Int → Int) (costB_1 : Int → Int) (costW_0 : Int → Int) (costW_1 : Int → Int) (costPlain_0 : Int → Int) (costPlain_1 : Int → Int) (apartA_0 : Int → Int) (apartA_1 : Int → Int) (apartB_0 : Int → Int) (apartB_1 : Int → Int) (apart_0 : Int → Int) (apart_1 : Int → Int) (k1 : 2 ≤ x1 ∧ x1 ≤ 78) (f36 : x1 ≤ 78) (fe_0_79_1 : pointMany_0 = pointMany_1) (fe_0_80_1 : costMany_0 = costMany_1) (fe_0_81_1 : apartMany_0 = apartMany_1) (fe_0_79_2 : pointMany_1 = pointMany_2) (fe_0_80_2 : costMany_1 = costMany_2) (fe_0_81_2 : apartMany_1 = apartMany_2) (hE_0_82_1 : ∀ j : Int, spot_0 j = spot_1 j) (hE_0_82_2 : ∀ j : Int, spot_1 j = spot_2 j) (hE_0_83_1 : ∀ j : Int, costA_0 j = costA_1 j) (hE_0_83_2 : ∀ j : Int, costA_1 j = costA_2 j) (hE_0_84_1 : ∀ j : Int, costB_0 j = costB_1 j) (hE_0_84_2 : ∀ j : Int, costB_1 j = costB_2 j) (hE_0_85_1 : ∀ j : Int, costW_0 j = costW_1 j) (hE_0_85_2 : ∀ j : Int, costW_1 j = costW_2 j) (hE_0_86_1 : ∀ j : Int, costPlain_0 j = costPlain_1 j) (hE_0_86_2 : ∀ j : Int, costPlain_1 j = costPlain_2 j) (hE_0_87_1 : ∀ j : Int, apartA_0 j = apartA_1 j) (hE_0_87_2 : ∀ j : Int, apartA_1 j = apartA_2 j) (hE_0_88_1 : ∀ j : Int, apartB_0 j = apartB_1 j) (hE_0_88_2 : ∀ j : Int, apartB_1 j = apartB_2 j) (hE_0_89_1 : ∀ j : Int, apart_0 j = apart_1 j) (hE_0_89_2 : ∀ j : Int, apart_1 j = apart_2 j) (hE_0_91_1 : ∀ j : Int, cameBy_0 j = cameBy_1 j) (hE_0_91_2 : ∀ j : Int, cameBy_1 j = cameBy_2 j) (hE_0_92_1 : ∀ j : Int, queue_0 j = queue_1 j) (hE_0_92_2 : ∀ j : Int, queue_1 j = queue_2 j) (kz_0_79 : 0 ≤ pointMany_0 ∧ pointMany_0 ≤ 76) (kz_0_80 : 0 ≤ costMany_0 ∧ costMany_0 ≤ 200) (kz_0_81 : 0 ≤ apartMany_0 ∧ apartMany_0 ≤ 200) : x1 ≤ 78 := by
  subst fe_0_79_1
  subst fe_0_80_1
  subst fe_0_81_1
  subst fe_0_79_2
  subst fe_0_80_2
  subst fe_0_81_2
  have e_hE_0_82_1 := funext hE_0_82_1; subst e_hE_0_82_1
  have e_hE_0_82_2 := funext hE_0_82_2; subst e_hE_0_82_2
  have e_hE_0_83_1 := funext hE_0_83_1; subst e_hE_0_83_1
  have e_hE_0_83_2 := funext hE_0_83_2; subst e_hE_0_83_2
  have e_hE_0_84_1 := funext hE_0_84_1; subst e_hE_0_84_1
  have e_hE_0_84_2 := funext hE_0_84_2; subst e_hE_0_84_2
  have e_hE_0_85_1 := funext hE_0_85_1; subst e_hE_0_85_1
  have e_hE_0_85_2 := funext hE_0_85_2; subst e_hE_0_85_2
  have e_hE_0_86_1 := funext hE_0_86_1; subst e_hE_0_86_1
  have e_hE_0_86_2 := funext hE_0_86_2; subst e_hE_0_86_2
  have e_hE_0_87_1 := funext hE_0_87_1; subst e_hE_0_87_1
  have e_hE_0_87_2 := funext hE_0_87_2; subst e_hE_0_87_2
  have e_hE_0_88_1 := funext hE_0_88_1; subst e_hE_0_88_1
  have e_hE_0_88_2 := funext hE_0_88_2; subst e_hE_0_88_2
  have e_hE_0_89_1 := funext hE_0_89_1; subst e_hE_0_89_1
  have e_hE_0_89_2 := funext hE_0_89_2; subst e_hE_0_89_2
  have e_hE_0_91_1 := funext hE_0_91_1; subst e_hE_0_91_1
  have e_hE_0_91_2 := funext hE_0_91_2; subst e_hE_0_91_2
  have e_hE_0_92_1 := funext hE_0_92_1; subst e_hE_0_92_1
  have e_hE_0_92_2 := funext hE_0_92_2; subst e_hE_0_92_2
  first
    | omega
    | (have h := auw_step (g_zq := 80) ‹AUW _ _ _ _ _ _ _› (by omega) (by assumption) (by omega); omega)
set_option maxHeartbeats 4000000 in
theorem vc_Mo_augment_29_3 (x1 : Int) (cameBy_0 : Int → Int) (pointMany_0 : Int) (queue_0 : Int → Int) (cameBy_1 : Int → Int) (pointMany_1 : Int) (queue_1 : Int → Int) (cameBy_2 : Int → Int) (pointMany_2 : Int) (spot_2 : Int → Int) (costA_2 : Int → Int) (costB_2 : Int → Int) (costW_2 : Int → Int) (costPlain_2 : Int → Int) (apartA_2 : Int → Int) (apartB_2 : Int → Int) (apart_2 : Int → Int) (costMany_2 : Int) (apartMany_2 : Int) (queue_2 : Int → Int) (costMany_0 : Int) (costMany_1 : Int) (apartMany_0 : Int) (apartMany_1 : Int) (spot_0 : Int → Int) (spot_1 : Int → Int) (costA_0 : Int → Int) (costA_1 : Int → Int) (costB_0 : Int → Int) (costB_1 : Int → Int) (costW_0 : Int → Int) (costW_1 : Int → Int) (costPlain_0 : Int → Int) (costPlain_1 : Int → Int) (apartA_0 : Int → Int) (apartA_1 : Int → Int) (apartB_0 : Int → Int) (apartB_1 : Int → Int) (apart_0 : Int → Int) (apart_1 : Int → Int) (k1 : 2 ≤ x1 ∧ x1 ≤ 78) (f37 : x1 = (pointMany_2 + 2)) (fe_0_79_1 : pointMany_0 = pointMany_1) (fe_0_80_1 : costMany_0 = costMany_1) (fe_0_81_1 : apartMany_0 = apartMany_1) (fe_0_79_2 : pointMany_1 = pointMany_2) (fe_0_80_2 : costMany_1 = costMany_2) (fe_0_81_2 : apartMany_1 = apartMany_2) (hE_0_82_1 : ∀ j : Int, spot_0 j = spot_1 j) (hE_0_82_2 : ∀ j : Int, spot_1 j = spot_2 j) (hE_0_83_1 : ∀ j : Int, costA_0 j = costA_1 j) (hE_0_83_2 : ∀ j : Int, costA_1 j = costA_2 j) (hE_0_84_1 : ∀ j : Int, costB_0 j = costB_1 j) (hE_0_84_2 : ∀ j : Int, costB_1 j = costB_2 j) (hE_0_85_1 : ∀ j : Int, costW_0 j = costW_1 j) (hE_0_85_2 : ∀ j : Int, costW_1 j = costW_2 j) (hE_0_86_1 : ∀ j : Int, costPlain_0 j = costPlain_1 j) (hE_0_86_2 : ∀ j : Int, costPlain_1 j = costPlain_2 j) (hE_0_87_1 : ∀ j : Int, apartA_0 j = apartA_1 j) (hE_0_87_2 : ∀ j : Int, apartA_1 j = apartA_2 j) (hE_0_88_1 : ∀ j : Int, apartB_0 j = apartB_1 j) (hE_0_88_2 : ∀ j : Int, apartB_1 j = apartB_2 j) (hE_0_89_1 : ∀ j : Int, apart_0 j = apart_1 j) (hE_0_89_2 : ∀ j : Int, apart_1 j = apart_2 j) (hE_0_91_1 : ∀ j : Int, cameBy_0 j = cameBy_1 j) (hE_0_91_2 : ∀ j : Int, cameBy_1 j = cameBy_2 j) (hE_0_92_1 : ∀ j : Int, queue_0 j = queue_1 j) (hE_0_92_2 : ∀ j : Int, queue_1 j = queue_2 j) (kz_0_79 : 0 ≤ pointMany_0 ∧ pointMany_0 ≤ 76) (kz_0_80 : 0 ≤ costMany_0 ∧ costMany_0 ≤ 200) (kz_0_81 : 0 ≤ apartMany_0 ∧ apartMany_0 ≤ 200) : x1 = (pointMany_0 + 2) := by
  subst fe_0_79_1
  subst fe_0_80_1
  subst fe_0_81_1
  subst fe_0_79_2
  subst fe_0_80_2
  subst fe_0_81_2
  have e_hE_0_82_1 := funext hE_0_82_1; subst e_hE_0_82_1
  have e_hE_0_82_2 := funext hE_0_82_2; subst e_hE_0_82_2
  have e_hE_0_83_1 := funext hE_0_83_1; subst e_hE_0_83_1
  have e_hE_0_83_2 := funext hE_0_83_2; subst e_hE_0_83_2
  have e_hE_0_84_1 := funext hE_0_84_1; subst e_hE_0_84_1
  have e_hE_0_84_2 := funext hE_0_84_2; subst e_hE_0_84_2
  have e_hE_0_85_1 := funext hE_0_85_1; subst e_hE_0_85_1
  have e_hE_0_85_2 := funext hE_0_85_2; subst e_hE_0_85_2
  have e_hE_0_86_1 := funext hE_0_86_1; subst e_hE_0_86_1
  have e_hE_0_86_2 := funext hE_0_86_2; subst e_hE_0_86_2
  have e_hE_0_87_1 := funext hE_0_87_1; subst e_hE_0_87_1
  have e_hE_0_87_2 := funext hE_0_87_2; subst e_hE_0_87_2
  have e_hE_0_88_1 := funext hE_0_88_1; subst e_hE_0_88_1
  have e_hE_0_88_2 := funext hE_0_88_2; subst e_hE_0_88_2
  have e_hE_0_89_1 := funext hE_0_89_1; subst e_hE_0_89_1
  have e_hE_0_89_2 := funext hE_0_89_2; subst e_hE_0_89_2
  have e_hE_0_91_1 := funext hE_0_91_1; subst e_hE_0_91_1
  have e_hE_0_91_2 := funext hE_0_91_2; subst e_hE_0_91_2
  have e_hE_0_92_1 := funext hE_0_92_1; subst e_hE_0_92_1
  have e_hE_0_92_2 := funext hE_0_92_2; subst e_hE_0_92_2
  first
    | omega
    | (have h := auw_step (g_zq := 80) ‹AUW _ _ _ _ _ _ _› (by omega) (by assumption) (by omega); omega)
set_option maxHeartbeats 4000000 in
theorem vc_Mo_augment_29_4 (x2 : Int) (cameBy_0 : Int → Int) (pointMany_0 : Int) (queue_0 : Int → Int) (cameBy_1 : Int → Int) (pointMany_1 : Int) (queue_1 : Int → Int) (cameBy_2 : Int → Int) (pointMany_2 : Int) (spot_2 : Int → Int) (costA_2 : Int → Int) (costB_2 : Int → Int) (costW_2 : Int → Int) (costPlain_2 : Int → Int) (apartA_2 : Int → Int) (apartB_2 : Int → Int) (apart_2 : Int → Int) (costMany_2 : Int) (apartMany_2 : Int) (queue_2 : Int → Int) (costMany_0 : Int) (costMany_1 : Int) (apartMany_0 : Int) (apartMany_1 : Int) (spot_0 : Int → Int) (spot_1 : Int → Int) (costA_0 : Int → Int) (costA_1 : Int → Int) (costB_0 : Int → Int) (costB_1 : Int → Int) (costW_0 : Int → Int) (costW_1 : Int → Int) (costPlain_0 : Int → Int) (costPlain_1 : Int → Int) (apartA_0 : Int → Int) (apartA_1 : Int → Int) (apartB_0 : Int → Int) (apartB_1 : Int → Int) (apart_0 : Int → Int) (apart_1 : Int → Int) (k2 : 0 ≤ x2 ∧ x2 ≤ 76) (f38 : x2 = pointMany_2) (fe_0_79_1 : pointMany_0 = pointMany_1) (fe_0_80_1 : costMany_0 = costMany_1) (fe_0_81_1 : apartMany_0 = apartMany_1) (fe_0_79_2 : pointMany_1 = pointMany_2) (fe_0_80_2 : costMany_1 = costMany_2) (fe_0_81_2 : apartMany_1 = apartMany_2) (hE_0_82_1 : ∀ j : Int, spot_0 j = spot_1 j) (hE_0_82_2 : ∀ j : Int, spot_1 j = spot_2 j) (hE_0_83_1 : ∀ j : Int, costA_0 j = costA_1 j) (hE_0_83_2 : ∀ j : Int, costA_1 j = costA_2 j) (hE_0_84_1 : ∀ j : Int, costB_0 j = costB_1 j) (hE_0_84_2 : ∀ j : Int, costB_1 j = costB_2 j) (hE_0_85_1 : ∀ j : Int, costW_0 j = costW_1 j) (hE_0_85_2 : ∀ j : Int, costW_1 j = costW_2 j) (hE_0_86_1 : ∀ j : Int, costPlain_0 j = costPlain_1 j) (hE_0_86_2 : ∀ j : Int, costPlain_1 j = costPlain_2 j) (hE_0_87_1 : ∀ j : Int, apartA_0 j = apartA_1 j) (hE_0_87_2 : ∀ j : Int, apartA_1 j = apartA_2 j) (hE_0_88_1 : ∀ j : Int, apartB_0 j = apartB_1 j) (hE_0_88_2 : ∀ j : Int, apartB_1 j = apartB_2 j) (hE_0_89_1 : ∀ j : Int, apart_0 j = apart_1 j) (hE_0_89_2 : ∀ j : Int, apart_1 j = apart_2 j) (hE_0_91_1 : ∀ j : Int, cameBy_0 j = cameBy_1 j) (hE_0_91_2 : ∀ j : Int, cameBy_1 j = cameBy_2 j) (hE_0_92_1 : ∀ j : Int, queue_0 j = queue_1 j) (hE_0_92_2 : ∀ j : Int, queue_1 j = queue_2 j) (kz_0_79 : 0 ≤ pointMany_0 ∧ pointMany_0 ≤ 76) (kz_0_80 : 0 ≤ costMany_0 ∧ costMany_0 ≤ 200) (kz_0_81 : 0 ≤ apartMany_0 ∧ apartMany_0 ≤ 200) : x2 = pointMany_0 := by
  subst fe_0_79_1
  subst fe_0_80_1
  subst fe_0_81_1
  subst fe_0_79_2
  subst fe_0_80_2
  subst fe_0_81_2
  have e_hE_0_82_1 := funext hE_0_82_1; subst e_hE_0_82_1
  have e_hE_0_82_2 := funext hE_0_82_2; subst e_hE_0_82_2
  have e_hE_0_83_1 := funext hE_0_83_1; subst e_hE_0_83_1
  have e_hE_0_83_2 := funext hE_0_83_2; subst e_hE_0_83_2
  have e_hE_0_84_1 := funext hE_0_84_1; subst e_hE_0_84_1
  have e_hE_0_84_2 := funext hE_0_84_2; subst e_hE_0_84_2
  have e_hE_0_85_1 := funext hE_0_85_1; subst e_hE_0_85_1
  have e_hE_0_85_2 := funext hE_0_85_2; subst e_hE_0_85_2
  have e_hE_0_86_1 := funext hE_0_86_1; subst e_hE_0_86_1
  have e_hE_0_86_2 := funext hE_0_86_2; subst e_hE_0_86_2
  have e_hE_0_87_1 := funext hE_0_87_1; subst e_hE_0_87_1
  have e_hE_0_87_2 := funext hE_0_87_2; subst e_hE_0_87_2
  have e_hE_0_88_1 := funext hE_0_88_1; subst e_hE_0_88_1
  have e_hE_0_88_2 := funext hE_0_88_2; subst e_hE_0_88_2
  have e_hE_0_89_1 := funext hE_0_89_1; subst e_hE_0_89_1
  have e_hE_0_89_2 := funext hE_0_89_2; subst e_hE_0_89_2
  have e_hE_0_91_1 := funext hE_0_91_1; subst e_hE_0_91_1
  have e_hE_0_91_2 := funext hE_0_91_2; subst e_hE_0_91_2
  have e_hE_0_92_1 := funext hE_0_92_1; subst e_hE_0_92_1
  have e_hE_0_92_2 := funext hE_0_92_2; subst e_hE_0_92_2
  first
    | omega
    | (have h := auw_step (g_zq := 80) ‹AUW _ _ _ _ _ _ _› (by omega) (by assumption) (by omega); omega)
set_option maxHeartbeats 4000000 in
theorem vc_Mo_augment_29_5 (x3 : Int) (cameBy_0 : Int → Int) (pointMany_0 : Int) (queue_0 : Int → Int) (cameBy_1 : Int → Int) (pointMany_1 : Int) (queue_1 : Int → Int) (cameBy_2 : Int → Int) (pointMany_2 : Int) (spot_2 : Int → Int) (costA_2 : Int → Int) (costB_2 : Int → Int) (costW_2 : Int → Int) (costPlain_2 : Int → Int) (apartA_2 : Int → Int) (apartB_2 : Int → Int) (apart_2 : Int → Int) (costMany_2 : Int) (apartMany_2 : Int) (queue_2 : Int → Int) (costMany_0 : Int) (costMany_1 : Int) (apartMany_0 : Int) (apartMany_1 : Int) (spot_0 : Int → Int) (spot_1 : Int → Int) (costA_0 : Int → Int) (costA_1 : Int → Int) (costB_0 : Int → Int) (costB_1 : Int → Int) (costW_0 : Int → Int) (costW_1 : Int → Int) (costPlain_0 : Int → Int) (costPlain_1 : Int → Int) (apartA_0 : Int → Int) (apartA_1 : Int → Int) (apartB_0 : Int → Int) (apartB_1 : Int → Int) (apart_0 : Int → Int) (apart_1 : Int → Int) (k3 : 1 ≤ x3 ∧ x3 ≤ 77) (f39 : x3 = (pointMany_2 + 1)) (fe_0_79_1 : pointMany_0 = pointMany_1) (fe_0_80_1 : costMany_0 = costMany_1) (fe_0_81_1 : apartMany_0 = apartMany_1) (fe_0_79_2 : pointMany_1 = pointMany_2) (fe_0_80_2 : costMany_1 = costMany_2) (fe_0_81_2 : apartMany_1 = apartMany_2) (hE_0_82_1 : ∀ j : Int, spot_0 j = spot_1 j) (hE_0_82_2 : ∀ j : Int, spot_1 j = spot_2 j) (hE_0_83_1 : ∀ j : Int, costA_0 j = costA_1 j) (hE_0_83_2 : ∀ j : Int, costA_1 j = costA_2 j) (hE_0_84_1 : ∀ j : Int, costB_0 j = costB_1 j) (hE_0_84_2 : ∀ j : Int, costB_1 j = costB_2 j) (hE_0_85_1 : ∀ j : Int, costW_0 j = costW_1 j) (hE_0_85_2 : ∀ j : Int, costW_1 j = costW_2 j) (hE_0_86_1 : ∀ j : Int, costPlain_0 j = costPlain_1 j) (hE_0_86_2 : ∀ j : Int, costPlain_1 j = costPlain_2 j) (hE_0_87_1 : ∀ j : Int, apartA_0 j = apartA_1 j) (hE_0_87_2 : ∀ j : Int, apartA_1 j = apartA_2 j) (hE_0_88_1 : ∀ j : Int, apartB_0 j = apartB_1 j) (hE_0_88_2 : ∀ j : Int, apartB_1 j = apartB_2 j) (hE_0_89_1 : ∀ j : Int, apart_0 j = apart_1 j) (hE_0_89_2 : ∀ j : Int, apart_1 j = apart_2 j) (hE_0_91_1 : ∀ j : Int, cameBy_0 j = cameBy_1 j) (hE_0_91_2 : ∀ j : Int, cameBy_1 j = cameBy_2 j) (hE_0_92_1 : ∀ j : Int, queue_0 j = queue_1 j) (hE_0_92_2 : ∀ j : Int, queue_1 j = queue_2 j) (kz_0_79 : 0 ≤ pointMany_0 ∧ pointMany_0 ≤ 76) (kz_0_80 : 0 ≤ costMany_0 ∧ costMany_0 ≤ 200) (kz_0_81 : 0 ≤ apartMany_0 ∧ apartMany_0 ≤ 200) : x3 = (pointMany_0 + 1) := by
  subst fe_0_79_1
  subst fe_0_80_1
  subst fe_0_81_1
  subst fe_0_79_2
  subst fe_0_80_2
  subst fe_0_81_2
  have e_hE_0_82_1 := funext hE_0_82_1; subst e_hE_0_82_1
  have e_hE_0_82_2 := funext hE_0_82_2; subst e_hE_0_82_2
  have e_hE_0_83_1 := funext hE_0_83_1; subst e_hE_0_83_1
  have e_hE_0_83_2 := funext hE_0_83_2; subst e_hE_0_83_2
  have e_hE_0_84_1 := funext hE_0_84_1; subst e_hE_0_84_1
  have e_hE_0_84_2 := funext hE_0_84_2; subst e_hE_0_84_2
  have e_hE_0_85_1 := funext hE_0_85_1; subst e_hE_0_85_1
  have e_hE_0_85_2 := funext hE_0_85_2; subst e_hE_0_85_2
  have e_hE_0_86_1 := funext hE_0_86_1; subst e_hE_0_86_1
  have e_hE_0_86_2 := funext hE_0_86_2; subst e_hE_0_86_2
  have e_hE_0_87_1 := funext hE_0_87_1; subst e_hE_0_87_1
  have e_hE_0_87_2 := funext hE_0_87_2; subst e_hE_0_87_2
  have e_hE_0_88_1 := funext hE_0_88_1; subst e_hE_0_88_1
  have e_hE_0_88_2 := funext hE_0_88_2; subst e_hE_0_88_2
  have e_hE_0_89_1 := funext hE_0_89_1; subst e_hE_0_89_1
  have e_hE_0_89_2 := funext hE_0_89_2; subst e_hE_0_89_2
  have e_hE_0_91_1 := funext hE_0_91_1; subst e_hE_0_91_1
  have e_hE_0_91_2 := funext hE_0_91_2; subst e_hE_0_91_2
  have e_hE_0_92_1 := funext hE_0_92_1; subst e_hE_0_92_1
  have e_hE_0_92_2 := funext hE_0_92_2; subst e_hE_0_92_2
  first
    | omega
    | (have h := auw_step (g_zq := 80) ‹AUW _ _ _ _ _ _ _› (by omega) (by assumption) (by omega); omega)
set_option maxHeartbeats 4000000 in
theorem vc_Mo_augment_29_6 (x1 : Int) (x2 : Int) (x4 : Int) (x10 : Int) (x11 : Int) (x12 : Int) (x13 : Int) (x16 : Int) (x17 : Int) (x18 : Int) (x19 : Int) (x20 : Int) (x21 : Int) (x22 : Int) (x23 : Int) (x24 : Int) (x25 : Int) (x26 : Int) (cameBy_0 : Int → Int) (pointMany_0 : Int) (queue_0 : Int → Int) (flow_1 : Int → Int) (cameBy_1 : Int → Int) (pointMany_1 : Int) (queue_1 : Int → Int) (flow_2 : Int → Int) (cameBy_2 : Int → Int) (pointMany_2 : Int) (spot_2 : Int → Int) (costA_2 : Int → Int) (costB_2 : Int → Int) (costW_2 : Int → Int) (costPlain_2 : Int → Int) (apartA_2 : Int → Int) (apartB_2 : Int → Int) (apart_2 : Int → Int) (costMany_2 : Int) (apartMany_2 : Int) (queue_2 : Int → Int) (costMany_0 : Int) (costMany_1 : Int) (apartMany_0 : Int) (apartMany_1 : Int) (spot_0 : Int → Int) (spot_1 : Int → Int) (costA_0 : Int → Int) (costA_1 : Int → Int) (costB_0 : Int → Int) (costB_1 : Int → Int) (costW_0 : Int → Int) (costW_1 : Int → Int) (costPlain_0 : Int → Int) (costPlain_1 : Int → Int) (apartA_0 : Int → Int) (apartA_1 : Int → Int) (apartB_0 : Int → Int) (apartB_1 : Int → Int) (apart_0 : Int → Int) (apart_1 : Int → Int) (flow_0 : Int → Int) (k1 : 2 ≤ x1 ∧ x1 ≤ 78) (k2 : 0 ≤ x2 ∧ x2 ≤ 76) (k4 : (-2) ≤ x4 ∧ x4 ≤ 180000001) (k10 : 1 ≤ x10 ∧ x10 ≤ 79) (k11 : 0 ≤ x11 ∧ x11 ≤ 1000000) (k12 : 0 ≤ x12 ∧ x12 ≤ 77) (k13 : (-2) ≤ x13 ∧ x13 ≤ 80) (k16 : 0 ≤ x16 ∧ x16 ≤ 77) (k17 : 0 ≤ x17 ∧ x17 ≤ 6083) (k18 : 0 ≤ x18 ∧ x18 ≤ 6083) (k19 : 0 ≤ x19 ∧ x19 ≤ 410000000) (k20 : 0 ≤ x20 ∧ x20 ≤ 410000000) (k21 : 0 ≤ x21 ∧ x21 ≤ 6083) (k22 : 0 ≤ x22 ∧ x22 ≤ 77) (k23 : 0 ≤ x23 ∧ x23 ≤ 6083) (k24 : 0 ≤ x24 ∧ x24 ≤ 410000000) (k25 : 0 ≤ x25 ∧ x25 ≤ 410000000) (k26 : 0 ≤ x26 ∧ x26 ≤ 77) (h0 : x26 = cameBy_0 (x12)) (f14 : x25 = x24 + x11) (h15 : x24 = flow_1 (x23)) (f16 : x23 = x21 + x22) (h17 : x22 = cameBy_1 (x12)) (f18 : x21 = x1 * x12) (f28 : x20 = x19 - x11) (h29 : x19 = flow_2 (x18)) (f30 : x18 = x17 + x12) (f31 : x17 = x1 * x16) (h32 : x16 = cameBy_2 (x12)) (f33 : x12 ≠ x2) (f37 : x1 = (pointMany_2 + 2)) (f38 : x2 = pointMany_2) (f40 : PSH (pointMany_2) (costMany_2) (apartMany_2) (flow_2) (cameBy_2) (spot_2) (costA_2) (costB_2) (costW_2) (costPlain_2) (apartA_2) (apartB_2) (apart_2) (x11) (x12) (x4)) (f41 : AUW (queue_2) (cameBy_2) (x1) (x2) (x10) (x12) (x13)) (fe_0_79_1 : pointMany_0 = pointMany_1) (fe_0_80_1 : costMany_0 = costMany_1) (fe_0_81_1 : apartMany_0 = apartMany_1) (fe_0_79_2 : pointMany_1 = pointMany_2) (fe_0_80_2 : costMany_1 = costMany_2) (fe_0_81_2 : apartMany_1 = apartMany_2) (hE_0_82_1 : ∀ j : Int, spot_0 j = spot_1 j) (hE_0_82_2 : ∀ j : Int, spot_1 j = spot_2 j) (hE_0_83_1 : ∀ j : Int, costA_0 j = costA_1 j) (hE_0_83_2 : ∀ j : Int, costA_1 j = costA_2 j) (hE_0_84_1 : ∀ j : Int, costB_0 j = costB_1 j) (hE_0_84_2 : ∀ j : Int, costB_1 j = costB_2 j) (hE_0_85_1 : ∀ j : Int, costW_0 j = costW_1 j) (hE_0_85_2 : ∀ j : Int, costW_1 j = costW_2 j) (hE_0_86_1 : ∀ j : Int, costPlain_0 j = costPlain_1 j) (hE_0_86_2 : ∀ j : Int, costPlain_1 j = costPlain_2 j) (hE_0_87_1 : ∀ j : Int, apartA_0 j = apartA_1 j) (hE_0_87_2 : ∀ j : Int, apartA_1 j = apartA_2 j) (hE_0_88_1 : ∀ j : Int, apartB_0 j = apartB_1 j) (hE_0_88_2 : ∀ j : Int, apartB_1 j = apartB_2 j) (hE_0_89_1 : ∀ j : Int, apart_0 j = apart_1 j) (hE_0_89_2 : ∀ j : Int, apart_1 j = apart_2 j) (hE_0_90_1 : ∀ j : Int, 0 ≤ j → (j = x23 → flow_0 j = x25) ∧ (j ≠ x23 → flow_0 j = flow_1 j)) (hE_0_90_2 : ∀ j : Int, 0 ≤ j → (j = x18 → flow_1 j = x20) ∧ (j ≠ x18 → flow_1 j = flow_2 j)) (hE_0_91_1 : ∀ j : Int, cameBy_0 j = cameBy_1 j) (hE_0_91_2 : ∀ j : Int, cameBy_1 j = cameBy_2 j) (hE_0_92_1 : ∀ j : Int, queue_0 j = queue_1 j) (hE_0_92_2 : ∀ j : Int, queue_1 j = queue_2 j) (kz_0_79 : 0 ≤ pointMany_0 ∧ pointMany_0 ≤ 76) (kz_0_80 : 0 ≤ costMany_0 ∧ costMany_0 ≤ 200) (kz_0_81 : 0 ≤ apartMany_0 ∧ apartMany_0 ≤ 200) : PSH (pointMany_0) (costMany_0) (apartMany_0) (flow_0) (cameBy_0) (spot_0) (costA_0) (costB_0) (costW_0) (costPlain_0) (apartA_0) (apartB_0) (apart_0) (x11) (x26) (x4) := by
  subst fe_0_79_1
  subst fe_0_80_1
  subst fe_0_81_1
  subst fe_0_79_2
  subst fe_0_80_2
  subst fe_0_81_2
  have e_hE_0_82_1 := funext hE_0_82_1; subst e_hE_0_82_1
  have e_hE_0_82_2 := funext hE_0_82_2; subst e_hE_0_82_2
  have e_hE_0_83_1 := funext hE_0_83_1; subst e_hE_0_83_1
  have e_hE_0_83_2 := funext hE_0_83_2; subst e_hE_0_83_2
  have e_hE_0_84_1 := funext hE_0_84_1; subst e_hE_0_84_1
  have e_hE_0_84_2 := funext hE_0_84_2; subst e_hE_0_84_2
  have e_hE_0_85_1 := funext hE_0_85_1; subst e_hE_0_85_1
  have e_hE_0_85_2 := funext hE_0_85_2; subst e_hE_0_85_2
  have e_hE_0_86_1 := funext hE_0_86_1; subst e_hE_0_86_1
  have e_hE_0_86_2 := funext hE_0_86_2; subst e_hE_0_86_2
  have e_hE_0_87_1 := funext hE_0_87_1; subst e_hE_0_87_1
  have e_hE_0_87_2 := funext hE_0_87_2; subst e_hE_0_87_2
  have e_hE_0_88_1 := funext hE_0_88_1; subst e_hE_0_88_1
  have e_hE_0_88_2 := funext hE_0_88_2; subst e_hE_0_88_2
  have e_hE_0_89_1 := funext hE_0_89_1; subst e_hE_0_89_1
  have e_hE_0_89_2 := funext hE_0_89_2; subst e_hE_0_89_2
  have e_hE_0_91_1 := funext hE_0_91_1; subst e_hE_0_91_1
  have e_hE_0_91_2 := funext hE_0_91_2; subst e_hE_0_91_2
  have e_hE_0_92_1 := funext hE_0_92_1; subst e_hE_0_92_1
  have e_hE_0_92_2 := funext hE_0_92_2; subst e_hE_0_92_2
  exact psh_stepA (z := x16) (z2 := x22) ‹PSH _ _ _ _ _ _ _ _ _ _ _ _ _ _ _ _› ‹AUW _ _ _ _ _ _ _› (by omega) (by omega) (by assumption) (by assumption) (by assumption) (by omega) (by assumption) (by assumption) (by assumption) (by assumption) (by assumption) (by assumption) (by assumption) (by assumption) (by assumption) (by assumption)
set_option maxHeartbeats 4000000 in
theorem vc_Mo_augment_29_7 (x1 : Int) (x2 : Int) (x10 : Int) (x12 : Int) (x13 : Int) (x26 : Int) (cameBy_0 : Int → Int) (pointMany_0 : Int) (queue_0 : Int → Int) (cameBy_1 : Int → Int) (pointMany_1 : Int) (queue_1 : Int → Int) (cameBy_2 : Int → Int) (pointMany_2 : Int) (spot_2 : Int → Int) (costA_2 : Int → Int) (costB_2 : Int → Int) (costW_2 : Int → Int) (costPlain_2 : Int → Int) (apartA_2 : Int → Int) (apartB_2 : Int → Int) (apart_2 : Int → Int) (costMany_2 : Int) (apartMany_2 : Int) (queue_2 : Int → Int) (costMany_0 : Int) (costMany_1 : Int) (apartMany_0 : Int) (apartMany_1 : Int) (spot_0 : Int → Int) (spot_1 : Int → Int) (costA_0 : Int → Int) (costA_1 : Int → Int) (costB_0 : Int → Int) (costB_1 : Int → Int) (costW_0 : Int → Int) (costW_1 : Int → Int) (costPlain_0 : Int → Int) (costPlain_1 : Int → Int) (apartA_0 : Int → Int) (apartA_1 : Int → Int) (apartB_0 : Int → Int) (apartB_1 : Int → Int) (apart_0 : Int → Int) (apart_1 : Int → Int) (gx : Int) (k1 : 2 ≤ x1 ∧ x1 ≤ 78) (k2 : 0 ≤ x2 ∧ x2 ≤ 76) (k10 : 1 ≤ x10 ∧ x10 ≤ 79) (k12 : 0 ≤ x12 ∧ x12 ≤ 77) (k13 : (-2) ≤ x13 ∧ x13 ≤ 80) (k26 : 0 ≤ x26 ∧ x26 ≤ 77) (h0 : x26 = cameBy_0 (x12)) (f33 : x12 ≠ x2) (f41 : AUW (queue_2) (cameBy_2) (x1) (x2) (x10) (x12) (x13)) (fe_0_79_1 : pointMany_0 = pointMany_1) (fe_0_80_1 : costMany_0 = costMany_1) (fe_0_81_1 : apartMany_0 = apartMany_1) (fe_0_79_2 : pointMany_1 = pointMany_2) (fe_0_80_2 : costMany_1 = costMany_2) (fe_0_81_2 : apartMany_1 = apartMany_2) (hE_0_82_1 : ∀ j : Int, spot_0 j = spot_1 j) (hE_0_82_2 : ∀ j : Int, spot_1 j = spot_2 j) (hE_0_83_1 : ∀ j : Int, costA_0 j = costA_1 j) (hE_0_83_2 : ∀ j : Int, costA_1 j = costA_2 j) (hE_0_84_1 : ∀ j : Int, costB_0 j = costB_1 j) (hE_0_84_2 : ∀ j : Int, costB_1 j = costB_2 j) (hE_0_85_1 : ∀ j : Int, costW_0 j = costW_1 j) (hE_0_85_2 : ∀ j : Int, costW_1 j = costW_2 j) (hE_0_86_1 : ∀ j : Int, costPlain_0 j = costPlain_1 j) (hE_0_86_2 : ∀ j : Int, costPlain_1 j = costPlain_2 j) (hE_0_87_1 : ∀ j : Int, apartA_0 j = apartA_1 j) (hE_0_87_2 : ∀ j : Int, apartA_1 j = apartA_2 j) (hE_0_88_1 : ∀ j : Int, apartB_0 j = apartB_1 j) (hE_0_88_2 : ∀ j : Int, apartB_1 j = apartB_2 j) (hE_0_89_1 : ∀ j : Int, apart_0 j = apart_1 j) (hE_0_89_2 : ∀ j : Int, apart_1 j = apart_2 j) (hE_0_91_1 : ∀ j : Int, cameBy_0 j = cameBy_1 j) (hE_0_91_2 : ∀ j : Int, cameBy_1 j = cameBy_2 j) (hE_0_92_1 : ∀ j : Int, queue_0 j = queue_1 j) (hE_0_92_2 : ∀ j : Int, queue_1 j = queue_2 j) (kz_0_79 : 0 ≤ pointMany_0 ∧ pointMany_0 ≤ 76) (kz_0_80 : 0 ≤ costMany_0 ∧ costMany_0 ≤ 200) (kz_0_81 : 0 ≤ apartMany_0 ∧ apartMany_0 ≤ 200) (ex2 : gx = 0 + (1 * x13 + 0)) : AUX (queue_0) (cameBy_0) (x1) (x2) (x10) (x26) (gx) := by
  subst fe_0_79_1
  subst fe_0_80_1
  subst fe_0_81_1
  subst fe_0_79_2
  subst fe_0_80_2
  subst fe_0_81_2
  have e_hE_0_82_1 := funext hE_0_82_1; subst e_hE_0_82_1
  have e_hE_0_82_2 := funext hE_0_82_2; subst e_hE_0_82_2
  have e_hE_0_83_1 := funext hE_0_83_1; subst e_hE_0_83_1
  have e_hE_0_83_2 := funext hE_0_83_2; subst e_hE_0_83_2
  have e_hE_0_84_1 := funext hE_0_84_1; subst e_hE_0_84_1
  have e_hE_0_84_2 := funext hE_0_84_2; subst e_hE_0_84_2
  have e_hE_0_85_1 := funext hE_0_85_1; subst e_hE_0_85_1
  have e_hE_0_85_2 := funext hE_0_85_2; subst e_hE_0_85_2
  have e_hE_0_86_1 := funext hE_0_86_1; subst e_hE_0_86_1
  have e_hE_0_86_2 := funext hE_0_86_2; subst e_hE_0_86_2
  have e_hE_0_87_1 := funext hE_0_87_1; subst e_hE_0_87_1
  have e_hE_0_87_2 := funext hE_0_87_2; subst e_hE_0_87_2
  have e_hE_0_88_1 := funext hE_0_88_1; subst e_hE_0_88_1
  have e_hE_0_88_2 := funext hE_0_88_2; subst e_hE_0_88_2
  have e_hE_0_89_1 := funext hE_0_89_1; subst e_hE_0_89_1
  have e_hE_0_89_2 := funext hE_0_89_2; subst e_hE_0_89_2
  have e_hE_0_91_1 := funext hE_0_91_1; subst e_hE_0_91_1
  have e_hE_0_91_2 := funext hE_0_91_2; subst e_hE_0_91_2
  have e_hE_0_92_1 := funext hE_0_92_1; subst e_hE_0_92_1
  have e_hE_0_92_2 := funext hE_0_92_2; subst e_hE_0_92_2
  exact (auw_step ‹AUW _ _ _ _ _ _ _› (by omega) (by assumption) (by omega)).1
set_option maxHeartbeats 4000000 in
theorem vc_Mo_augment_29_8 (x1 : Int) (x2 : Int) (x10 : Int) (x12 : Int) (x13 : Int) (x16 : Int) (cameBy_0 : Int → Int) (pointMany_0 : Int) (queue_0 : Int → Int) (cameBy_1 : Int → Int) (pointMany_1 : Int) (queue_1 : Int → Int) (cameBy_2 : Int → Int) (pointMany_2 : Int) (spot_2 : Int → Int) (costA_2 : Int → Int) (costB_2 : Int → Int) (costW_2 : Int → Int) (costPlain_2 : Int → Int) (apartA_2 : Int → Int) (apartB_2 : Int → Int) (apart_2 : Int → Int) (costMany_2 : Int) (apartMany_2 : Int) (queue_2 : Int → Int) (costMany_0 : Int) (costMany_1 : Int) (apartMany_0 : Int) (apartMany_1 : Int) (spot_0 : Int → Int) (spot_1 : Int → Int) (costA_0 : Int → Int) (costA_1 : Int → Int) (costB_0 : Int → Int) (costB_1 : Int → Int) (costW_0 : Int → Int) (costW_1 : Int → Int) (costPlain_0 : Int → Int) (costPlain_1 : Int → Int) (apartA_0 : Int → Int) (apartA_1 : Int → Int) (apartB_0 : Int → Int) (apartB_1 : Int → Int) (apart_0 : Int → Int) (apart_1 : Int → Int) (gx : Int) (k1 : 2 ≤ x1 ∧ x1 ≤ 78) (k2 : 0 ≤ x2 ∧ x2 ≤ 76) (k10 : 1 ≤ x10 ∧ x10 ≤ 79) (k12 : 0 ≤ x12 ∧ x12 ≤ 77) (k13 : (-2) ≤ x13 ∧ x13 ≤ 80) (k16 : 0 ≤ x16 ∧ x16 ≤ 77) (h32 : x16 = cameBy_2 (x12)) (f33 : x12 ≠ x2) (f41 : AUW (queue_2) (cameBy_2) (x1) (x2) (x10) (x12) (x13)) (fe_0_79_1 : pointMany_0 = pointMany_1) (fe_0_80_1 : costMany_0 = costMany_1) (fe_0_81_1 : apartMany_0 = apartMany_1) (fe_0_79_2 : pointMany_1 = pointMany_2) (fe_0_80_2 : costMany_1 = costMany_2) (fe_0_81_2 : apartMany_1 = apartMany_2) (hE_0_82_1 : ∀ j : Int, spot_0 j = spot_1 j) (hE_0_82_2 : ∀ j : Int, spot_1 j = spot_2 j) (hE_0_83_1 : ∀ j : Int, costA_0 j = costA_1 j) (hE_0_83_2 : ∀ j : Int, costA_1 j = costA_2 j) (hE_0_84_1 : ∀ j : Int, costB_0 j = costB_1 j) (hE_0_84_2 : ∀ j : Int, costB_1 j = costB_2 j) (hE_0_85_1 : ∀ j : Int, costW_0 j = costW_1 j) (hE_0_85_2 : ∀ j : Int, costW_1 j = costW_2 j) (hE_0_86_1 : ∀ j : Int, costPlain_0 j = costPlain_1 j) (hE_0_86_2 : ∀ j : Int, costPlain_1 j = costPlain_2 j) (hE_0_87_1 : ∀ j : Int, apartA_0 j = apartA_1 j) (hE_0_87_2 : ∀ j : Int, apartA_1 j = apartA_2 j) (hE_0_88_1 : ∀ j : Int, apartB_0 j = apartB_1 j) (hE_0_88_2 : ∀ j : Int, apartB_1 j = apartB_2 j) (hE_0_89_1 : ∀ j : Int, apart_0 j = apart_1 j) (hE_0_89_2 : ∀ j : Int, apart_1 j = apart_2 j) (hE_0_91_1 : ∀ j : Int, cameBy_0 j = cameBy_1 j) (hE_0_91_2 : ∀ j : Int, cameBy_1 j = cameBy_2 j) (hE_0_92_1 : ∀ j : Int, queue_0 j = queue_1 j) (hE_0_92_2 : ∀ j : Int, queue_1 j = queue_2 j) (kz_0_79 : 0 ≤ pointMany_0 ∧ pointMany_0 ≤ 76) (kz_0_80 : 0 ≤ costMany_0 ∧ costMany_0 ≤ 200) (kz_0_81 : 0 ≤ apartMany_0 ∧ apartMany_0 ≤ 200) (ex2 : gx = 0 + (1 * x13 + 0)) : (-1) * gx + 0 ≤ (-1) := by
  subst fe_0_79_1
  subst fe_0_80_1
  subst fe_0_81_1
  subst fe_0_79_2
  subst fe_0_80_2
  subst fe_0_81_2
  have e_hE_0_82_1 := funext hE_0_82_1; subst e_hE_0_82_1
  have e_hE_0_82_2 := funext hE_0_82_2; subst e_hE_0_82_2
  have e_hE_0_83_1 := funext hE_0_83_1; subst e_hE_0_83_1
  have e_hE_0_83_2 := funext hE_0_83_2; subst e_hE_0_83_2
  have e_hE_0_84_1 := funext hE_0_84_1; subst e_hE_0_84_1
  have e_hE_0_84_2 := funext hE_0_84_2; subst e_hE_0_84_2
  have e_hE_0_85_1 := funext hE_0_85_1; subst e_hE_0_85_1
  have e_hE_0_85_2 := funext hE_0_85_2; subst e_hE_0_85_2
  have e_hE_0_86_1 := funext hE_0_86_1; subst e_hE_0_86_1
  have e_hE_0_86_2 := funext hE_0_86_2; subst e_hE_0_86_2
  have e_hE_0_87_1 := funext hE_0_87_1; subst e_hE_0_87_1
  have e_hE_0_87_2 := funext hE_0_87_2; subst e_hE_0_87_2
  have e_hE_0_88_1 := funext hE_0_88_1; subst e_hE_0_88_1
  have e_hE_0_88_2 := funext hE_0_88_2; subst e_hE_0_88_2
  have e_hE_0_89_1 := funext hE_0_89_1; subst e_hE_0_89_1
  have e_hE_0_89_2 := funext hE_0_89_2; subst e_hE_0_89_2
  have e_hE_0_91_1 := funext hE_0_91_1; subst e_hE_0_91_1
  have e_hE_0_91_2 := funext hE_0_91_2; subst e_hE_0_91_2
  have e_hE_0_92_1 := funext hE_0_92_1; subst e_hE_0_92_1
  have e_hE_0_92_2 := funext hE_0_92_2; subst e_hE_0_92_2
  first
    | omega
    | (have h := auw_step (g_zq := 80) ‹AUW _ _ _ _ _ _ _› (by omega) (by assumption) (by omega); omega)
def o_Mo_augment_29 : or_T := (252, 27, [(0, (2, 0, 0, [165])), (1, (0, 2, 78, [])), (2, (0, 0, 76, [])), (3, (0, 1, 77, [])), (4, (0, -2, 180000001, [])), (5, (2, 0, 0, [165])), (6, (0, 2, 79, [])), (7, (0, 0, 76, [])), (8, (0, 1, 77, [])), (10, (0, 1, 79, [])), (11, (0, 0, 1000000, [])), (12, (0, 0, 77, [])), (13, (0, -2, 80, [])), (14, (2, 0, 0, [227])), (15, (2, 0, 0, [228])), (16, (0, 0, 77, [])), (17, (0, 0, 6083, [])), (18, (0, 0, 6083, [])), (19, (0, 0, 410000000, [])), (20, (0, 0, 410000000, [])), (21, (0, 0, 6083, [])), (22, (0, 0, 77, [])), (23, (0, 0, 6083, [])), (24, (0, 0, 410000000, [])), (25, (0, 0, 410000000, [])), (26, (0, 0, 77, []))], [(10, [26, 15, 12], []), (9, [15, 5], [91]), (20, [7, 6], [50, 0, 0, 0, 6, 4, 2, 1, 0, 0, 1, 1, 1]), (20, [8, 6], [50, 0, 0, 0, 6, 4, 2, 1, 0, 0, 1, 1, 1]), (20, [6], [50, 0, 0, 0, 2, 1, 0, 0, 78]), (20, [6, 5], [50, 1, 0, 1079, 1, 2, 1, 0, 4, 3, 2, 1, 79, 0, 2]), (20, [7, 5], [50, 1, 0, 1079, 1, 2, 1, 0, 2, 1, 79]), (20, [8, 5], [50, 1, 0, 1079, 1, 2, 1, 0, 4, 3, 2, 1, 79, 0, 1]), (20, [5, 6, 7, 10, 12, 13], [60, 0, 2, 394, 92, 91]), (24, [0, 5], []), (24, [1, 6], []), (24, [2, 7], []), (24, [3, 8], []), (100, [14, 23, 25], []), (1, [25, 24, 11], []), (10, [24, 14, 23], []), (1, [23, 21, 22], []), (10, [22, 15, 12], []), (3, [21, 6, 12], []), (9, [14, 5], [90]), (20, [7, 6], [50, 0, 0, 0, 6, 4, 2, 1, 0, 0, 1, 1, 1]), (20, [8, 6], [50, 0, 0, 0, 6, 4, 2, 1, 0, 0, 1, 1, 1]), (20, [6], [50, 0, 0, 0, 2, 1, 0, 0, 78]), (20, [6, 5], [50, 1, 0, 1079, 1, 2, 1, 0, 4, 3, 2, 1, 79, 0, 2]), (20, [7, 5], [50, 1, 0, 1079, 1, 2, 1, 0, 2, 1, 79]), (20, [8, 5], [50, 1, 0, 1079, 1, 2, 1, 0, 4, 3, 2, 1, 79, 0, 1]), (20, [5, 6, 7, 10, 12, 13], [60, 0, 2, 394, 92, 91]), (100, [14, 18, 20], []), (2, [20, 19, 11], []), (10, [19, 14, 18], []), (1, [18, 17, 12], []), (3, [17, 6, 16], []), (10, [16, 15, 12], []), (7, [12, 7], [1]), (20, [7, 6], [50, 0, 0, 0, 6, 4, 2, 1, 0, 0, 1, 1, 1]), (20, [8, 6], [50, 0, 0, 0, 6, 4, 2, 1, 0, 0, 1, 1, 1]), (20, [6], [50, 0, 0, 0, 2, 1, 0, 0, 78]), (20, [6, 5], [50, 1, 0, 1079, 1, 2, 1, 0, 4, 3, 2, 1, 79, 0, 2]), (20, [7, 5], [50, 1, 0, 1079, 1, 2, 1, 0, 2, 1, 79]), (20, [8, 5], [50, 1, 0, 1079, 1, 2, 1, 0, 4, 3, 2, 1, 79, 0, 1]), (20, [5, 11, 12, 4], [60, 3, 10, 408, 79, 80, 81, 90, 91, 82, 83, 84, 85, 86, 87, 88, 89]), (20, [5, 6, 7, 10, 12, 13], [60, 0, 2, 394, 92, 91])], [], [(0, -2, 80, [])], [(20, [7, 6], [50, 0, 0, 0, 6, 4, 2, 1, 0, 0, 1, 1, 1]), (20, [8, 6], [50, 0, 0, 0, 6, 4, 2, 1, 0, 0, 1, 1, 1]), (20, [6], [50, 0, 0, 0, 2, 1, 0, 0, 78]), (20, [6, 5], [50, 1, 0, 1079, 1, 2, 1, 0, 4, 3, 2, 1, 79, 0, 2]), (20, [7, 5], [50, 1, 0, 1079, 1, 2, 1, 0, 2, 1, 79]), (20, [8, 5], [50, 1, 0, 1079, 1, 2, 1, 0, 4, 3, 2, 1, 79, 0, 1]), (20, [5, 11, 26, 4], [60, 3, 10, 408, 79, 80, 81, 90, 91, 82, 83, 84, 85, 86, 87, 88, 89]), (20, [5, 6, 7, 10, 26, 27], [60, 0, 2, 429, 92, 91]), (23, [27], [-1, -1]), (24, [0, 5], []), (24, [1, 6], []), (24, [2, 7], []), (24, [3, 8], [])], [(27, 13, 0, 0)], [(25, 11, 0, 410000000), (25, 24, 0, 1000000), (23, 22, 0, 6083), (23, 21, 0, 77), (20, 19, -1000000, 0), (18, 12, 0, 6083), (18, 17, 0, 77), (1, 6, -4294967296, 0), (2, 7, -4294967296, 0), (3, 8, -4294967296, 0), (6, 1, -4294967296, 0), (7, 2, -4294967296, 0), (8, 3, -4294967296, 0)])
theorem oo_Mo_augment_29 {kA : Nat → ClassId} : or_ok PRD kA GG o_Mo_augment_29 := by
  refine or_mk fun A ta ws vs hD hth hl => ?_
  intro t0 r0 t1 k1 t2 k2 t3 k3 t4 k4 t5 r5 t6 k6 t7 k7 t8 k8 t10 k10 t11 k11 t12 k12 t13 k13 t14 r14 t15 r15 t16 k16 t17 k17 t18 k18 t19 k19 t20 k20 t21 k21 t22 k22 t23 k23 t24 k24 t25 k25 t26 k26 d0 d1 d2 d3 d4 d5 d6 d7 d8 d9 d10 d11 d12 f0 f1 f2 f3 f4 f5 f6 f7 f8 f9 f10 f11 f12 ta1 w1 le1 s1 f14 f15 f16 f17 f18 f19 f20 f21 f22 f23 f24 f25 f26 ta2 w2 le2 s2 f28 f29 f30 f31 f32 f33 f34 f35 f36 f37 f38 f39 f40 f41
  replace f0 := shm_106 f0
  replace f1 := shm_921 f1
  replace f2 := shm_409 f2
  replace f3 := shm_409 f3
  replace f4 := shm_913 f4
  replace f5 := shm_914 f5
  replace f6 := shm_915 f6
  replace f7 := shm_916 f7
  replace f8 := shm_927 f8
  replace f9 := shm_5 f9
  replace f10 := shm_5 f10
  replace f11 := shm_5 f11
  replace f12 := shm_5 f12
  have s1 : (∀ b j, w_el ws b j = if b = v_ad (n_v vs 14) ∧ j = (v_iv (n_v vs 23)).toNat then v_iv (n_v vs 25) else w_el w1 b j) ∧ ∀ b k, w_fd ws b k = w_fd w1 b k := s1.2
  replace f14 := shm_12 f14
  replace f15 := shm_106 f15
  replace f16 := shm_12 f16
  replace f17 := shm_106 f17
  replace f18 := shm_38 f18
  replace f19 := shm_934 f19
  replace f20 := shm_409 f20
  replace f21 := shm_409 f21
  replace f22 := shm_913 f22
  replace f23 := shm_914 f23
  replace f24 := shm_915 f24
  replace f25 := shm_916 f25
  replace f26 := shm_927 f26
  have s2 : (∀ b j, w_el w1 b j = if b = v_ad (n_v vs 14) ∧ j = (v_iv (n_v vs 18)).toNat then v_iv (n_v vs 20) else w_el w2 b j) ∧ ∀ b k, w_fd w1 b k = w_fd w2 b k := s2.2
  replace f28 := shm_14 f28
  replace f29 := shm_106 f29
  replace f30 := shm_12 f30
  replace f31 := shm_38 f31
  replace f32 := shm_106 f32
  replace f33 := shm_40 f33
  replace f34 := shm_409 f34
  replace f35 := shm_409 f35
  replace f36 := shm_913 f36
  replace f37 := shm_914 f37
  replace f38 := shm_915 f38
  replace f39 := shm_916 f39
  replace f40 := shm_936 f40
  replace f41 := shm_927 f41
  have q5 : n_v vs 5 = n_v vs 0 := f9.symm
  have q6 : n_v vs 6 = n_v vs 1 := f10.symm
  have q7 : n_v vs 7 = n_v vs 2 := f11.symm
  have q8 : n_v vs 8 = n_v vs 3 := f12.symm
  simp only [q5, q6, q7, q8] at f1 f2 f3 f4 f5 f6 f7 f8 f18 f19 f20 f21 f22 f23 f24 f25 f26 f31 f33 f34 f35 f36 f37 f38 f39 f40 f41
  have ar_0_82_1 : w_ar w1 (n_v vs 0) 82 = w_ar ws (n_v vs 0) 82 := congrArg v_ad (s1.2 _ _).symm
  have ar_0_82_2 : w_ar w2 (n_v vs 0) 82 = w_ar ws (n_v vs 0) 82 := by rw [← ar_0_82_1]; show v_ad (w_fd w2 _ _) = v_ad (w_fd w1 _ _); rw [s2.2]
  have cr_0_82 := fdq_225 hD hth r0
  have ar_0_83_1 : w_ar w1 (n_v vs 0) 83 = w_ar ws (n_v vs 0) 83 := congrArg v_ad (s1.2 _ _).symm
  have ar_0_83_2 : w_ar w2 (n_v vs 0) 83 = w_ar ws (n_v vs 0) 83 := by rw [← ar_0_83_1]; show v_ad (w_fd w2 _ _) = v_ad (w_fd w1 _ _); rw [s2.2]
  have cr_0_83 := fdq_125 hD hth r0
  have ar_0_84_1 : w_ar w1 (n_v vs 0) 84 = w_ar ws (n_v vs 0) 84 := congrArg v_ad (s1.2 _ _).symm
  have ar_0_84_2 : w_ar w2 (n_v vs 0) 84 = w_ar ws (n_v vs 0) 84 := by rw [← ar_0_84_1]; show v_ad (w_fd w2 _ _) = v_ad (w_fd w1 _ _); rw [s2.2]
  have cr_0_84 := fdq_126 hD hth r0
  have ar_0_85_1 : w_ar w1 (n_v vs 0) 85 = w_ar ws (n_v vs 0) 85 := congrArg v_ad (s1.2 _ _).symm
  have ar_0_85_2 : w_ar w2 (n_v vs 0) 85 = w_ar ws (n_v vs 0) 85 := by rw [← ar_0_85_1]; show v_ad (w_fd w2 _ _) = v_ad (w_fd w1 _ _); rw [s2.2]
  have cr_0_85 := fdq_127 hD hth r0
  have ar_0_86_1 : w_ar w1 (n_v vs 0) 86 = w_ar ws (n_v vs 0) 86 := congrArg v_ad (s1.2 _ _).symm
  have ar_0_86_2 : w_ar w2 (n_v vs 0) 86 = w_ar ws (n_v vs 0) 86 := by rw [← ar_0_86_1]; show v_ad (w_fd w2 _ _) = v_ad (w_fd w1 _ _); rw [s2.2]
  have cr_0_86 := fdq_128 hD hth r0
  have ar_0_87_1 : w_ar w1 (n_v vs 0) 87 = w_ar ws (n_v vs 0) 87 := congrArg v_ad (s1.2 _ _).symm
  have ar_0_87_2 : w_ar w2 (n_v vs 0) 87 = w_ar ws (n_v vs 0) 87 := by rw [← ar_0_87_1]; show v_ad (w_fd w2 _ _) = v_ad (w_fd w1 _ _); rw [s2.2]
  have cr_0_87 := fdq_118 hD hth r0
  have ar_0_88_1 : w_ar w1 (n_v vs 0) 88 = w_ar ws (n_v vs 0) 88 := congrArg v_ad (s1.2 _ _).symm
  have ar_0_88_2 : w_ar w2 (n_v vs 0) 88 = w_ar ws (n_v vs 0) 88 := by rw [← ar_0_88_1]; show v_ad (w_fd w2 _ _) = v_ad (w_fd w1 _ _); rw [s2.2]
  have cr_0_88 := fdq_119 hD hth r0
  have ar_0_89_1 : w_ar w1 (n_v vs 0) 89 = w_ar ws (n_v vs 0) 89 := congrArg v_ad (s1.2 _ _).symm
  have ar_0_89_2 : w_ar w2 (n_v vs 0) 89 = w_ar ws (n_v vs 0) 89 := by rw [← ar_0_89_1]; show v_ad (w_fd w2 _ _) = v_ad (w_fd w1 _ _); rw [s2.2]
  have cr_0_89 := fdq_120 hD hth r0
  have ar_0_90_1 : w_ar w1 (n_v vs 0) 90 = w_ar ws (n_v vs 0) 90 := congrArg v_ad (s1.2 _ _).symm
  have ar_0_90_2 : w_ar w2 (n_v vs 0) 90 = w_ar ws (n_v vs 0) 90 := by rw [← ar_0_90_1]; show v_ad (w_fd w2 _ _) = v_ad (w_fd w1 _ _); rw [s2.2]
  have cr_0_90 := fdq_226 hD hth r0
  have ar_0_91_1 : w_ar w1 (n_v vs 0) 91 = w_ar ws (n_v vs 0) 91 := congrArg v_ad (s1.2 _ _).symm
  have ar_0_91_2 : w_ar w2 (n_v vs 0) 91 = w_ar ws (n_v vs 0) 91 := by rw [← ar_0_91_1]; show v_ad (w_fd w2 _ _) = v_ad (w_fd w1 _ _); rw [s2.2]
  have cr_0_91 := fdq_227 hD hth r0
  have ar_0_92_1 : w_ar w1 (n_v vs 0) 92 = w_ar ws (n_v vs 0) 92 := congrArg v_ad (s1.2 _ _).symm
  have ar_0_92_2 : w_ar w2 (n_v vs 0) 92 = w_ar ws (n_v vs 0) 92 := by rw [← ar_0_92_1]; show v_ad (w_fd w2 _ _) = v_ad (w_fd w1 _ _); rw [s2.2]
  have cr_0_92 := fdq_228 hD hth r0
  have ad_15 : v_ad (n_v vs 15) = w_ar ws (n_v vs 0) 91 := congrArg v_ad f1
  have ad_14 : v_ad (n_v vs 14) = w_ar ws (n_v vs 0) 90 := (congrArg v_ad f19).trans ar_0_90_1
  simp only [ad_15] at f0
  have h0 : v_iv (n_v vs 26) = w_ei ws (w_ar ws (n_v vs 0) 91) (v_iv (n_v vs 12)) := f0
  simp only [ad_14] at f15
  have h15 : v_iv (n_v vs 24) = w_ei w1 (w_ar ws (n_v vs 0) 90) (v_iv (n_v vs 23)) := f15
  simp only [ad_15] at f17
  have h17 : v_iv (n_v vs 22) = w_ei w1 (w_ar ws (n_v vs 0) 91) (v_iv (n_v vs 12)) := f17
  simp only [ar_0_91_1, ar_0_92_1, ad_14] at f26 f29
  have h29 : v_iv (n_v vs 19) = w_ei w2 (w_ar ws (n_v vs 0) 90) (v_iv (n_v vs 18)) := f29
  simp only [ad_15] at f32
  have h32 : v_iv (n_v vs 16) = w_ei w2 (w_ar ws (n_v vs 0) 91) (v_iv (n_v vs 12)) := f32
  simp only [ar_0_82_2, ar_0_83_2, ar_0_84_2, ar_0_85_2, ar_0_86_2, ar_0_87_2, ar_0_88_2, ar_0_89_2, ar_0_90_2, ar_0_91_2, ar_0_92_2] at f40 f41
  have fe_0_79_1 : w_fi ws (n_v vs 0) 79 = w_fi w1 (n_v vs 0) 79 := congrArg v_iv (s1.2 _ _)
  have fe_0_80_1 : w_fi ws (n_v vs 0) 80 = w_fi w1 (n_v vs 0) 80 := congrArg v_iv (s1.2 _ _)
  have fe_0_81_1 : w_fi ws (n_v vs 0) 81 = w_fi w1 (n_v vs 0) 81 := congrArg v_iv (s1.2 _ _)
  have fe_0_79_2 : w_fi w1 (n_v vs 0) 79 = w_fi w2 (n_v vs 0) 79 := congrArg v_iv (s2.2 _ _)
  have fe_0_80_2 : w_fi w1 (n_v vs 0) 80 = w_fi w2 (n_v vs 0) 80 := congrArg v_iv (s2.2 _ _)
  have fe_0_81_2 : w_fi w1 (n_v vs 0) 81 = w_fi w2 (n_v vs 0) 81 := congrArg v_iv (s2.2 _ _)
  have hE_0_82_1 : ∀ j : Int, w_ei ws (w_ar ws (n_v vs 0) 82) j = w_ei w1 (w_ar ws (n_v vs 0) 82) j := el_kp s1.1 r14 cr_0_82 (by decide)
  have hE_0_82_2 : ∀ j : Int, w_ei w1 (w_ar ws (n_v vs 0) 82) j = w_ei w2 (w_ar ws (n_v vs 0) 82) j := el_kp s2.1 r14 cr_0_82 (by decide)
  have hK_0_82 := elq_141 hD hth cr_0_82
  have hE_0_83_1 : ∀ j : Int, w_ei ws (w_ar ws (n_v vs 0) 83) j = w_ei w1 (w_ar ws (n_v vs 0) 83) j := el_kp s1.1 r14 cr_0_83 (by decide)
  have hE_0_83_2 : ∀ j : Int, w_ei w1 (w_ar ws (n_v vs 0) 83) j = w_ei w2 (w_ar ws (n_v vs 0) 83) j := el_kp s2.1 r14 cr_0_83 (by decide)
  have hK_0_83 := elq_64 hD hth cr_0_83
  have hE_0_84_1 : ∀ j : Int, w_ei ws (w_ar ws (n_v vs 0) 84) j = w_ei w1 (w_ar ws (n_v vs 0) 84) j := el_kp s1.1 r14 cr_0_84 (by decide)
  have hE_0_84_2 : ∀ j : Int, w_ei w1 (w_ar ws (n_v vs 0) 84) j = w_ei w2 (w_ar ws (n_v vs 0) 84) j := el_kp s2.1 r14 cr_0_84 (by decide)
  have hK_0_84 := elq_65 hD hth cr_0_84
  have hE_0_85_1 : ∀ j : Int, w_ei ws (w_ar ws (n_v vs 0) 85) j = w_ei w1 (w_ar ws (n_v vs 0) 85) j := el_kp s1.1 r14 cr_0_85 (by decide)
  have hE_0_85_2 : ∀ j : Int, w_ei w1 (w_ar ws (n_v vs 0) 85) j = w_ei w2 (w_ar ws (n_v vs 0) 85) j := el_kp s2.1 r14 cr_0_85 (by decide)
  have hK_0_85 := elq_66 hD hth cr_0_85
  have hE_0_86_1 : ∀ j : Int, w_ei ws (w_ar ws (n_v vs 0) 86) j = w_ei w1 (w_ar ws (n_v vs 0) 86) j := el_kp s1.1 r14 cr_0_86 (by decide)
  have hE_0_86_2 : ∀ j : Int, w_ei w1 (w_ar ws (n_v vs 0) 86) j = w_ei w2 (w_ar ws (n_v vs 0) 86) j := el_kp s2.1 r14 cr_0_86 (by decide)
  have hK_0_86 := elq_67 hD hth cr_0_86
  have hE_0_87_1 : ∀ j : Int, w_ei ws (w_ar ws (n_v vs 0) 87) j = w_ei w1 (w_ar ws (n_v vs 0) 87) j := el_kp s1.1 r14 cr_0_87 (by decide)
  have hE_0_87_2 : ∀ j : Int, w_ei w1 (w_ar ws (n_v vs 0) 87) j = w_ei w2 (w_ar ws (n_v vs 0) 87) j := el_kp s2.1 r14 cr_0_87 (by decide)
  have hK_0_87 := elq_59 hD hth cr_0_87
  have hE_0_88_1 : ∀ j : Int, w_ei ws (w_ar ws (n_v vs 0) 88) j = w_ei w1 (w_ar ws (n_v vs 0) 88) j := el_kp s1.1 r14 cr_0_88 (by decide)
  have hE_0_88_2 : ∀ j : Int, w_ei w1 (w_ar ws (n_v vs 0) 88) j = w_ei w2 (w_ar ws (n_v vs 0) 88) j := el_kp s2.1 r14 cr_0_88 (by decide)
  have hK_0_88 := elq_60 hD hth cr_0_88
  have hE_0_89_1 : ∀ j : Int, w_ei ws (w_ar ws (n_v vs 0) 89) j = w_ei w1 (w_ar ws (n_v vs 0) 89) j := el_kp s1.1 r14 cr_0_89 (by decide)
  have hE_0_89_2 : ∀ j : Int, w_ei w1 (w_ar ws (n_v vs 0) 89) j = w_ei w2 (w_ar ws (n_v vs 0) 89) j := el_kp s2.1 r14 cr_0_89 (by decide)
  have hK_0_89 := elq_61 hD hth cr_0_89
  have hE_0_90_1 : ∀ j : Int, 0 ≤ j → (j = v_iv (n_v vs 23) → w_ei ws (w_ar ws (n_v vs 0) 90) j = v_iv (n_v vs 25)) ∧ (j ≠ v_iv (n_v vs 23) → w_ei ws (w_ar ws (n_v vs 0) 90) j = w_ei w1 (w_ar ws (n_v vs 0) 90) j) := fun j hj => ⟨fun h => by unfold w_ei; rw [s1.1, if_pos ⟨ad_14.symm, by rw [h]⟩], fun h => by unfold w_ei; rw [s1.1, if_neg (fun e => h (by have := e.2; omega))]⟩
  have hE_0_90_2 : ∀ j : Int, 0 ≤ j → (j = v_iv (n_v vs 18) → w_ei w1 (w_ar ws (n_v vs 0) 90) j = v_iv (n_v vs 20)) ∧ (j ≠ v_iv (n_v vs 18) → w_ei w1 (w_ar ws (n_v vs 0) 90) j = w_ei w2 (w_ar ws (n_v vs 0) 90) j) := fun j hj => ⟨fun h => by unfold w_ei; rw [s2.1, if_pos ⟨ad_14.symm, by rw [h]⟩], fun h => by unfold w_ei; rw [s2.1, if_neg (fun e => h (by have := e.2; omega))]⟩
  have hK_0_90 := elq_142 hD hth cr_0_90
  have hE_0_91_1 : ∀ j : Int, w_ei ws (w_ar ws (n_v vs 0) 91) j = w_ei w1 (w_ar ws (n_v vs 0) 91) j := el_kp s1.1 r14 cr_0_91 (by decide)
  have hE_0_91_2 : ∀ j : Int, w_ei w1 (w_ar ws (n_v vs 0) 91) j = w_ei w2 (w_ar ws (n_v vs 0) 91) j := el_kp s2.1 r14 cr_0_91 (by decide)
  have hK_0_91 := elq_143 hD hth cr_0_91
  have hE_0_92_1 : ∀ j : Int, w_ei ws (w_ar ws (n_v vs 0) 92) j = w_ei w1 (w_ar ws (n_v vs 0) 92) j := el_kp s1.1 r14 cr_0_92 (by decide)
  have hE_0_92_2 : ∀ j : Int, w_ei w1 (w_ar ws (n_v vs 0) 92) j = w_ei w2 (w_ar ws (n_v vs 0) 92) j := el_kp s2.1 r14 cr_0_92 (by decide)
  have hK_0_92 := elq_144 hD hth cr_0_92
  have kz_0_79 := fdq_146 hD hth r0
  have kz_0_80 := fdq_130 hD hth r0
  have kz_0_81 := fdq_123 hD hth r0
  obtain ⟨x, ex, hx⟩ := iv_ex (ta := ta) (lo := (-2)) (hi := 80) (z := 0 + (1 * v_iv (n_v vs 13) + 0)) (by omega) (by omega) (by omega) (by omega)
  have ex2 : v_iv (Value.int x) = 0 + (1 * v_iv (n_v vs 13) + 0) := ex
  have ex3 : (-2) ≤ v_iv (Value.int x) ∧ v_iv (Value.int x) ≤ 80 := tv_rng hx
  have e_0 : n_v (vs ++ [Value.int x]) 0 = n_v vs 0 := n_v_old (by rw [hl]; decide)
  have e_1 : n_v (vs ++ [Value.int x]) 1 = n_v vs 1 := n_v_old (by rw [hl]; decide)
  have e_2 : n_v (vs ++ [Value.int x]) 2 = n_v vs 2 := n_v_old (by rw [hl]; decide)
  have e_3 : n_v (vs ++ [Value.int x]) 3 = n_v vs 3 := n_v_old (by rw [hl]; decide)
  have e_4 : n_v (vs ++ [Value.int x]) 4 = n_v vs 4 := n_v_old (by rw [hl]; decide)
  have e_5 : n_v (vs ++ [Value.int x]) 5 = n_v vs 5 := n_v_old (by rw [hl]; decide)
  have e_6 : n_v (vs ++ [Value.int x]) 6 = n_v vs 6 := n_v_old (by rw [hl]; decide)
  have e_7 : n_v (vs ++ [Value.int x]) 7 = n_v vs 7 := n_v_old (by rw [hl]; decide)
  have e_8 : n_v (vs ++ [Value.int x]) 8 = n_v vs 8 := n_v_old (by rw [hl]; decide)
  have e_10 : n_v (vs ++ [Value.int x]) 10 = n_v vs 10 := n_v_old (by rw [hl]; decide)
  have e_11 : n_v (vs ++ [Value.int x]) 11 = n_v vs 11 := n_v_old (by rw [hl]; decide)
  have e_26 : n_v (vs ++ [Value.int x]) 26 = n_v vs 26 := n_v_old (by rw [hl]; decide)
  have e_27 : n_v (vs ++ [Value.int x]) 27 = Value.int x := n_v_new hl
  have nf0 : fc_1 PRD (20, [7, 6], [50, 0, 0, 0, 6, 4, 2, 1, 0, 0, 1, 1, 1]) ws (vs ++ [Value.int x]) := by
    refine ⟨nf_inA hl rfl, sgq_409 ?_⟩
    · show (v_iv (n_v (vs ++ [Value.int x]) 7) + 1) ≤ v_iv (n_v (vs ++ [Value.int x]) 6)
      simp only [e_6, e_7, q6, q7]
      exact vc_Mo_augment_29_0 (v_iv (n_v vs 1)) (v_iv (n_v vs 2)) (w_ei ws (w_ar ws (n_v vs 0) 91)) (w_fi ws (n_v vs 0) 79) (w_ei ws (w_ar ws (n_v vs 0) 92)) (w_ei w1 (w_ar ws (n_v vs 0) 91)) (w_fi w1 (n_v vs 0) 79) (w_ei w1 (w_ar ws (n_v vs 0) 92)) (w_ei w2 (w_ar ws (n_v vs 0) 91)) (w_fi w2 (n_v vs 0) 79) (w_ei w2 (w_ar ws (n_v vs 0) 82)) (w_ei w2 (w_ar ws (n_v vs 0) 83)) (w_ei w2 (w_ar ws (n_v vs 0) 84)) (w_ei w2 (w_ar ws (n_v vs 0) 85)) (w_ei w2 (w_ar ws (n_v vs 0) 86)) (w_ei w2 (w_ar ws (n_v vs 0) 87)) (w_ei w2 (w_ar ws (n_v vs 0) 88)) (w_ei w2 (w_ar ws (n_v vs 0) 89)) (w_fi w2 (n_v vs 0) 80) (w_fi w2 (n_v vs 0) 81) (w_ei w2 (w_ar ws (n_v vs 0) 92)) (w_fi ws (n_v vs 0) 80) (w_fi w1 (n_v vs 0) 80) (w_fi ws (n_v vs 0) 81) (w_fi w1 (n_v vs 0) 81) (w_ei ws (w_ar ws (n_v vs 0) 82)) (w_ei w1 (w_ar ws (n_v vs 0) 82)) (w_ei ws (w_ar ws (n_v vs 0) 83)) (w_ei w1 (w_ar ws (n_v vs 0) 83)) (w_ei ws (w_ar ws (n_v vs 0) 84)) (w_ei w1 (w_ar ws (n_v vs 0) 84)) (w_ei ws (w_ar ws (n_v vs 0) 85)) (w_ei w1 (w_ar ws (n_v vs 0) 85)) (w_ei ws (w_ar ws (n_v vs 0) 86)) (w_ei w1 (w_ar ws (n_v vs 0) 86)) (w_ei ws (w_ar ws (n_v vs 0) 87)) (w_ei w1 (w_ar ws (n_v vs 0) 87)) (w_ei ws (w_ar ws (n_v vs 0) 88)) (w_ei w1 (w_ar ws (n_v vs 0) 88)) (w_ei ws (w_ar ws (n_v vs 0) 89)) (w_ei w1 (w_ar ws (n_v vs 0) 89)) k1 k2 f34 fe_0_79_1 fe_0_80_1 fe_0_81_1 fe_0_79_2 fe_0_80_2 fe_0_81_2 hE_0_82_1 hE_0_82_2 hE_0_83_1 hE_0_83_2 hE_0_84_1 hE_0_84_2 hE_0_85_1 hE_0_85_2 hE_0_86_1 hE_0_86_2 hE_0_87_1 hE_0_87_2 hE_0_88_1 hE_0_88_2 hE_0_89_1 hE_0_89_2 hE_0_91_1 hE_0_91_2 hE_0_92_1 hE_0_92_2 kz_0_79 kz_0_80 kz_0_81
  have nf1 : fc_1 PRD (20, [8, 6], [50, 0, 0, 0, 6, 4, 2, 1, 0, 0, 1, 1, 1]) ws (vs ++ [Value.int x]) := by
    refine ⟨nf_inA hl rfl, sgq_409 ?_⟩
    · show (v_iv (n_v (vs ++ [Value.int x]) 8) + 1) ≤ v_iv (n_v (vs ++ [Value.int x]) 6)
      simp only [e_6, e_8, q6, q8]
      exact vc_Mo_augment_29_1 (v_iv (n_v vs 1)) (v_iv (n_v vs 3)) (w_ei ws (w_ar ws (n_v vs 0) 91)) (w_fi ws (n_v vs 0) 79) (w_ei ws (w_ar ws (n_v vs 0) 92)) (w_ei w1 (w_ar ws (n_v vs 0) 91)) (w_fi w1 (n_v vs 0) 79) (w_ei w1 (w_ar ws (n_v vs 0) 92)) (w_ei w2 (w_ar ws (n_v vs 0) 91)) (w_fi w2 (n_v vs 0) 79) (w_ei w2 (w_ar ws (n_v vs 0) 82)) (w_ei w2 (w_ar ws (n_v vs 0) 83)) (w_ei w2 (w_ar ws (n_v vs 0) 84)) (w_ei w2 (w_ar ws (n_v vs 0) 85)) (w_ei w2 (w_ar ws (n_v vs 0) 86)) (w_ei w2 (w_ar ws (n_v vs 0) 87)) (w_ei w2 (w_ar ws (n_v vs 0) 88)) (w_ei w2 (w_ar ws (n_v vs 0) 89)) (w_fi w2 (n_v vs 0) 80) (w_fi w2 (n_v vs 0) 81) (w_ei w2 (w_ar ws (n_v vs 0) 92)) (w_fi ws (n_v vs 0) 80) (w_fi w1 (n_v vs 0) 80) (w_fi ws (n_v vs 0) 81) (w_fi w1 (n_v vs 0) 81) (w_ei ws (w_ar ws (n_v vs 0) 82)) (w_ei w1 (w_ar ws (n_v vs 0) 82)) (w_ei ws (w_ar ws (n_v vs 0) 83)) (w_ei w1 (w_ar ws (n_v vs 0) 83)) (w_ei ws (w_ar ws (n_v vs 0) 84)) (w_ei w1 (w_ar ws (n_v vs 0) 84)) (w_ei ws (w_ar ws (n_v vs 0) 85)) (w_ei w1 (w_ar ws (n_v vs 0) 85)) (w_ei ws (w_ar ws (n_v vs 0) 86)) (w_ei w1 (w_ar ws (n_v vs 0) 86)) (w_ei ws (w_ar ws (n_v vs 0) 87)) (w_ei w1 (w_ar ws (n_v vs 0) 87)) (w_ei ws (w_ar ws (n_v vs 0) 88)) (w_ei w1 (w_ar ws (n_v vs 0) 88)) (w_ei ws (w_ar ws (n_v vs 0) 89)) (w_ei w1 (w_ar ws (n_v vs 0) 89)) k1 k3 f35 fe_0_79_1 fe_0_80_1 fe_0_81_1 fe_0_79_2 fe_0_80_2 fe_0_81_2 hE_0_82_1 hE_0_82_2 hE_0_83_1 hE_0_83_2 hE_0_84_1 hE_0_84_2 hE_0_85_1 hE_0_85_2 hE_0_86_1 hE_0_86_2 hE_0_87_1 hE_0_87_2 hE_0_88_1 hE_0_88_2 hE_0_89_1 hE_0_89_2 hE_0_91_1 hE_0_91_2 hE_0_92_1 hE_0_92_2 kz_0_79 kz_0_80 kz_0_81
  have nf2 : fc_1 PRD (20, [6], [50, 0, 0, 0, 2, 1, 0, 0, 78]) ws (vs ++ [Value.int x]) := by
    refine ⟨nf_inA hl rfl, sgq_913 ?_⟩
    · show v_iv (n_v (vs ++ [Value.int x]) 6) ≤ 78
      simp only [e_6, q6]
      exact vc_Mo_augment_29_2 (v_iv (n_v vs 1)) (w_ei ws (w_ar ws (n_v vs 0) 91)) (w_fi ws (n_v vs 0) 79) (w_ei ws (w_ar ws (n_v vs 0) 92)) (w_ei w1 (w_ar ws (n_v vs 0) 91)) (w_fi w1 (n_v vs 0) 79) (w_ei w1 (w_ar ws (n_v vs 0) 92)) (w_ei w2 (w_ar ws (n_v vs 0) 91)) (w_fi w2 (n_v vs 0) 79) (w_ei w2 (w_ar ws (n_v vs 0) 82)) (w_ei w2 (w_ar ws (n_v vs 0) 83)) (w_ei w2 (w_ar ws (n_v vs 0) 84)) (w_ei w2 (w_ar ws (n_v vs 0) 85)) (w_ei w2 (w_ar ws (n_v vs 0) 86)) (w_ei w2 (w_ar ws (n_v vs 0) 87)) (w_ei w2 (w_ar ws (n_v vs 0) 88)) (w_ei w2 (w_ar ws (n_v vs 0) 89)) (w_fi w2 (n_v vs 0) 80) (w_fi w2 (n_v vs 0) 81) (w_ei w2 (w_ar ws (n_v vs 0) 92)) (w_fi ws (n_v vs 0) 80) (w_fi w1 (n_v vs 0) 80) (w_fi ws (n_v vs 0) 81) (w_fi w1 (n_v vs 0) 81) (w_ei ws (w_ar ws (n_v vs 0) 82)) (w_ei w1 (w_ar ws (n_v vs 0) 82)) (w_ei ws (w_ar ws (n_v vs 0) 83)) (w_ei w1 (w_ar ws (n_v vs 0) 83)) (w_ei ws (w_ar ws (n_v vs 0) 84)) (w_ei w1 (w_ar ws (n_v vs 0) 84)) (w_ei ws (w_ar ws (n_v vs 0) 85)) (w_ei w1 (w_ar ws (n_v vs 0) 85)) (w_ei ws (w_ar ws (n_v vs 0) 86)) (w_ei w1 (w_ar ws (n_v vs 0) 86)) (w_ei ws (w_ar ws (n_v vs 0) 87)) (w_ei w1 (w_ar ws (n_v vs 0) 87)) (w_ei ws (w_ar ws (n_v vs 0) 88)) (w_ei w1 (w_ar ws (n_v vs 0) 88)) (w_ei ws (w_ar ws (n_v vs 0) 89)) (w_ei w1 (w_ar ws (n_v vs 0) 89)) k1 f36 fe_0_79_1 fe_0_80_1 fe_0_81_1 fe_0_79_2 fe_0_80_2 fe_0_81_2 hE_0_82_1 hE_0_82_2 hE_0_83_1 hE_0_83_2 hE_0_84_1 hE_0_84_2 hE_0_85_1 hE_0_85_2 hE_0_86_1 hE_0_86_2 hE_0_87_1 hE_0_87_2 hE_0_88_1 hE_0_88_2 hE_0_89_1 hE_0_89_2 hE_0_91_1 hE_0_91_2 hE_0_92_1 hE_0_92_2 kz_0_79 kz_0_80 kz_0_81
  have nf3 : fc_1 PRD (20, [6, 5], [50, 1, 0, 1079, 1, 2, 1, 0, 4, 3, 2, 1, 79, 0, 2]) ws (vs ++ [Value.int x]) := by
    refine ⟨nf_inA hl rfl, sgq_914 ?_⟩
    · show v_iv (n_v (vs ++ [Value.int x]) 6) = (w_fi ws (n_v (vs ++ [Value.int x]) 5) 79 + 2)
      simp only [e_5, e_6, q5, q6]
      exact vc_Mo_augment_29_3 (v_iv (n_v vs 1)) (w_ei ws (w_ar ws (n_v vs 0) 91)) (w_fi ws (n_v vs 0) 79) (w_ei ws (w_ar ws (n_v vs 0) 92)) (w_ei w1 (w_ar ws (n_v vs 0) 91)) (w_fi w1 (n_v vs 0) 79) (w_ei w1 (w_ar ws (n_v vs 0) 92)) (w_ei w2 (w_ar ws (n_v vs 0) 91)) (w_fi w2 (n_v vs 0) 79) (w_ei w2 (w_ar ws (n_v vs 0) 82)) (w_ei w2 (w_ar ws (n_v vs 0) 83)) (w_ei w2 (w_ar ws (n_v vs 0) 84)) (w_ei w2 (w_ar ws (n_v vs 0) 85)) (w_ei w2 (w_ar ws (n_v vs 0) 86)) (w_ei w2 (w_ar ws (n_v vs 0) 87)) (w_ei w2 (w_ar ws (n_v vs 0) 88)) (w_ei w2 (w_ar ws (n_v vs 0) 89)) (w_fi w2 (n_v vs 0) 80) (w_fi w2 (n_v vs 0) 81) (w_ei w2 (w_ar ws (n_v vs 0) 92)) (w_fi ws (n_v vs 0) 80) (w_fi w1 (n_v vs 0) 80) (w_fi ws (n_v vs 0) 81) (w_fi w1 (n_v vs 0) 81) (w_ei ws (w_ar ws (n_v vs 0) 82)) (w_ei w1 (w_ar ws (n_v vs 0) 82)) (w_ei ws (w_ar ws (n_v vs 0) 83)) (w_ei w1 (w_ar ws (n_v vs 0) 83)) (w_ei ws (w_ar ws (n_v vs 0) 84)) (w_ei w1 (w_ar ws (n_v vs 0) 84)) (w_ei ws (w_ar ws (n_v vs 0) 85)) (w_ei w1 (w_ar ws (n_v vs 0) 85)) (w_ei ws (w_ar ws (n_v vs 0) 86)) (w_ei w1 (w_ar ws (n_v vs 0) 86)) (w_ei ws (w_ar ws (n_v vs 0) 87)) (w_ei w1 (w_ar ws (n_v vs 0) 87)) (w_ei ws (w_ar ws (n_v vs 0) 88)) (w_ei w1 (w_ar ws (n_v vs 0) 88)) (w_ei ws (w_ar ws (n_v vs 0) 89)) (w_ei w1 (w_ar ws (n_v vs 0) 89)) k1 f37 fe_0_79_1 fe_0_80_1 fe_0_81_1 fe_0_79_2 fe_0_80_2 fe_0_81_2 hE_0_82_1 hE_0_82_2 hE_0_83_1 hE_0_83_2 hE_0_84_1 hE_0_84_2 hE_0_85_1 hE_0_85_2 hE_0_86_1 hE_0_86_2 hE_0_87_1 hE_0_87_2 hE_0_88_1 hE_0_88_2 hE_0_89_1 hE_0_89_2 hE_0_91_1 hE_0_91_2 hE_0_92_1 hE_0_92_2 kz_0_79 kz_0_80 kz_0_81
  have nf4 : fc_1 PRD (20, [7, 5], [50, 1, 0, 1079, 1, 2, 1, 0, 2, 1, 79]) ws (vs ++ [Value.int x]) := by
    refine ⟨nf_inA hl rfl, sgq_915 ?_⟩
    · show v_iv (n_v (vs ++ [Value.int x]) 7) = w_fi ws (n_v (vs ++ [Value.int x]) 5) 79
      simp only [e_5, e_7, q5, q7]
      exact vc_Mo_augment_29_4 (v_iv (n_v vs 2)) (w_ei ws (w_ar ws (n_v vs 0) 91)) (w_fi ws (n_v vs 0) 79) (w_ei ws (w_ar ws (n_v vs 0) 92)) (w_ei w1 (w_ar ws (n_v vs 0) 91)) (w_fi w1 (n_v vs 0) 79) (w_ei w1 (w_ar ws (n_v vs 0) 92)) (w_ei w2 (w_ar ws (n_v vs 0) 91)) (w_fi w2 (n_v vs 0) 79) (w_ei w2 (w_ar ws (n_v vs 0) 82)) (w_ei w2 (w_ar ws (n_v vs 0) 83)) (w_ei w2 (w_ar ws (n_v vs 0) 84)) (w_ei w2 (w_ar ws (n_v vs 0) 85)) (w_ei w2 (w_ar ws (n_v vs 0) 86)) (w_ei w2 (w_ar ws (n_v vs 0) 87)) (w_ei w2 (w_ar ws (n_v vs 0) 88)) (w_ei w2 (w_ar ws (n_v vs 0) 89)) (w_fi w2 (n_v vs 0) 80) (w_fi w2 (n_v vs 0) 81) (w_ei w2 (w_ar ws (n_v vs 0) 92)) (w_fi ws (n_v vs 0) 80) (w_fi w1 (n_v vs 0) 80) (w_fi ws (n_v vs 0) 81) (w_fi w1 (n_v vs 0) 81) (w_ei ws (w_ar ws (n_v vs 0) 82)) (w_ei w1 (w_ar ws (n_v vs 0) 82)) (w_ei ws (w_ar ws (n_v vs 0) 83)) (w_ei w1 (w_ar ws (n_v vs 0) 83)) (w_ei ws (w_ar ws (n_v vs 0) 84)) (w_ei w1 (w_ar ws (n_v vs 0) 84)) (w_ei ws (w_ar ws (n_v vs 0) 85)) (w_ei w1 (w_ar ws (n_v vs 0) 85)) (w_ei ws (w_ar ws (n_v vs 0) 86)) (w_ei w1 (w_ar ws (n_v vs 0) 86)) (w_ei ws (w_ar ws (n_v vs 0) 87)) (w_ei w1 (w_ar ws (n_v vs 0) 87)) (w_ei ws (w_ar ws (n_v vs 0) 88)) (w_ei w1 (w_ar ws (n_v vs 0) 88)) (w_ei ws (w_ar ws (n_v vs 0) 89)) (w_ei w1 (w_ar ws (n_v vs 0) 89)) k2 f38 fe_0_79_1 fe_0_80_1 fe_0_81_1 fe_0_79_2 fe_0_80_2 fe_0_81_2 hE_0_82_1 hE_0_82_2 hE_0_83_1 hE_0_83_2 hE_0_84_1 hE_0_84_2 hE_0_85_1 hE_0_85_2 hE_0_86_1 hE_0_86_2 hE_0_87_1 hE_0_87_2 hE_0_88_1 hE_0_88_2 hE_0_89_1 hE_0_89_2 hE_0_91_1 hE_0_91_2 hE_0_92_1 hE_0_92_2 kz_0_79 kz_0_80 kz_0_81
  have nf5 : fc_1 PRD (20, [8, 5], [50, 1, 0, 1079, 1, 2, 1, 0, 4, 3, 2, 1, 79, 0, 1]) ws (vs ++ [Value.int x]) := by
    refine ⟨nf_inA hl rfl, sgq_916 ?_⟩
    · show v_iv (n_v (vs ++ [Value.int x]) 8) = (w_fi ws (n_v (vs ++ [Value.int x]) 5) 79 + 1)
      simp only [e_5, e_8, q5, q8]
      exact vc_Mo_augment_29_5 (v_iv (n_v vs 3)) (w_ei ws (w_ar ws (n_v vs 0) 91)) (w_fi ws (n_v vs 0) 79) (w_ei ws (w_ar ws (n_v vs 0) 92)) (w_ei w1 (w_ar ws (n_v vs 0) 91)) (w_fi w1 (n_v vs 0) 79) (w_ei w1 (w_ar ws (n_v vs 0) 92)) (w_ei w2 (w_ar ws (n_v vs 0) 91)) (w_fi w2 (n_v vs 0) 79) (w_ei w2 (w_ar ws (n_v vs 0) 82)) (w_ei w2 (w_ar ws (n_v vs 0) 83)) (w_ei w2 (w_ar ws (n_v vs 0) 84)) (w_ei w2 (w_ar ws (n_v vs 0) 85)) (w_ei w2 (w_ar ws (n_v vs 0) 86)) (w_ei w2 (w_ar ws (n_v vs 0) 87)) (w_ei w2 (w_ar ws (n_v vs 0) 88)) (w_ei w2 (w_ar ws (n_v vs 0) 89)) (w_fi w2 (n_v vs 0) 80) (w_fi w2 (n_v vs 0) 81) (w_ei w2 (w_ar ws (n_v vs 0) 92)) (w_fi ws (n_v vs 0) 80) (w_fi w1 (n_v vs 0) 80) (w_fi ws (n_v vs 0) 81) (w_fi w1 (n_v vs 0) 81) (w_ei ws (w_ar ws (n_v vs 0) 82)) (w_ei w1 (w_ar ws (n_v vs 0) 82)) (w_ei ws (w_ar ws (n_v vs 0) 83)) (w_ei w1 (w_ar ws (n_v vs 0) 83)) (w_ei ws (w_ar ws (n_v vs 0) 84)) (w_ei w1 (w_ar ws (n_v vs 0) 84)) (w_ei ws (w_ar ws (n_v vs 0) 85)) (w_ei w1 (w_ar ws (n_v vs 0) 85)) (w_ei ws (w_ar ws (n_v vs 0) 86)) (w_ei w1 (w_ar ws (n_v vs 0) 86)) (w_ei ws (w_ar ws (n_v vs 0) 87)) (w_ei w1 (w_ar ws (n_v vs 0) 87)) (w_ei ws (w_ar ws (n_v vs 0) 88)) (w_ei w1 (w_ar ws (n_v vs 0) 88)) (w_ei ws (w_ar ws (n_v vs 0) 89)) (w_ei w1 (w_ar ws (n_v vs 0) 89)) k3 f39 fe_0_79_1 fe_0_80_1 fe_0_81_1 fe_0_79_2 fe_0_80_2 fe_0_81_2 hE_0_82_1 hE_0_82_2 hE_0_83_1 hE_0_83_2 hE_0_84_1 hE_0_84_2 hE_0_85_1 hE_0_85_2 hE_0_86_1 hE_0_86_2 hE_0_87_1 hE_0_87_2 hE_0_88_1 hE_0_88_2 hE_0_89_1 hE_0_89_2 hE_0_91_1 hE_0_91_2 hE_0_92_1 hE_0_92_2 kz_0_79 kz_0_80 kz_0_81
  have nf6 : fc_1 PRD (20, [5, 11, 26, 4], [60, 3, 10, 408, 79, 80, 81, 90, 91, 82, 83, 84, 85, 86, 87, 88, 89]) ws (vs ++ [Value.int x]) := by
    refine ⟨nf_inA hl rfl, sgq_936 ?_⟩
    · show PSH (w_fi ws (n_v (vs ++ [Value.int x]) 5) 79) (w_fi ws (n_v (vs ++ [Value.int x]) 5) 80) (w_fi ws (n_v (vs ++ [Value.int x]) 5) 81) (w_ei ws (w_ar ws (n_v (vs ++ [Value.int x]) 5) 90)) (w_ei ws (w_ar ws (n_v (vs ++ [Value.int x]) 5) 91)) (w_ei ws (w_ar ws (n_v (vs ++ [Value.int x]) 5) 82)) (w_ei ws (w_ar ws (n_v (vs ++ [Value.int x]) 5) 83)) (w_ei ws (w_ar ws (n_v (vs ++ [Value.int x]) 5) 84)) (w_ei ws (w_ar ws (n_v (vs ++ [Value.int x]) 5) 85)) (w_ei ws (w_ar ws (n_v (vs ++ [Value.int x]) 5) 86)) (w_ei ws (w_ar ws (n_v (vs ++ [Value.int x]) 5) 87)) (w_ei ws (w_ar ws (n_v (vs ++ [Value.int x]) 5) 88)) (w_ei ws (w_ar ws (n_v (vs ++ [Value.int x]) 5) 89)) (v_iv (n_v (vs ++ [Value.int x]) 11)) (v_iv (n_v (vs ++ [Value.int x]) 26)) (v_iv (n_v (vs ++ [Value.int x]) 4))
      simp only [e_4, e_5, e_11, e_26, q5]
      exact vc_Mo_augment_29_6 (v_iv (n_v vs 1)) (v_iv (n_v vs 2)) (v_iv (n_v vs 4)) (v_iv (n_v vs 10)) (v_iv (n_v vs 11)) (v_iv (n_v vs 12)) (v_iv (n_v vs 13)) (v_iv (n_v vs 16)) (v_iv (n_v vs 17)) (v_iv (n_v vs 18)) (v_iv (n_v vs 19)) (v_iv (n_v vs 20)) (v_iv (n_v vs 21)) (v_iv (n_v vs 22)) (v_iv (n_v vs 23)) (v_iv (n_v vs 24)) (v_iv (n_v vs 25)) (v_iv (n_v vs 26)) (w_ei ws (w_ar ws (n_v vs 0) 91)) (w_fi ws (n_v vs 0) 79) (w_ei ws (w_ar ws (n_v vs 0) 92)) (w_ei w1 (w_ar ws (n_v vs 0) 90)) (w_ei w1 (w_ar ws (n_v vs 0) 91)) (w_fi w1 (n_v vs 0) 79) (w_ei w1 (w_ar ws (n_v vs 0) 92)) (w_ei w2 (w_ar ws (n_v vs 0) 90)) (w_ei w2 (w_ar ws (n_v vs 0) 91)) (w_fi w2 (n_v vs 0) 79) (w_ei w2 (w_ar ws (n_v vs 0) 82)) (w_ei w2 (w_ar ws (n_v vs 0) 83)) (w_ei w2 (w_ar ws (n_v vs 0) 84)) (w_ei w2 (w_ar ws (n_v vs 0) 85)) (w_ei w2 (w_ar ws (n_v vs 0) 86)) (w_ei w2 (w_ar ws (n_v vs 0) 87)) (w_ei w2 (w_ar ws (n_v vs 0) 88)) (w_ei w2 (w_ar ws (n_v vs 0) 89)) (w_fi w2 (n_v vs 0) 80) (w_fi w2 (n_v vs 0) 81) (w_ei w2 (w_ar ws (n_v vs 0) 92)) (w_fi ws (n_v vs 0) 80) (w_fi w1 (n_v vs 0) 80) (w_fi ws (n_v vs 0) 81) (w_fi w1 (n_v vs 0) 81) (w_ei ws (w_ar ws (n_v vs 0) 82)) (w_ei w1 (w_ar ws (n_v vs 0) 82)) (w_ei ws (w_ar ws (n_v vs 0) 83)) (w_ei w1 (w_ar ws (n_v vs 0) 83)) (w_ei ws (w_ar ws (n_v vs 0) 84)) (w_ei w1 (w_ar ws (n_v vs 0) 84)) (w_ei ws (w_ar ws (n_v vs 0) 85)) (w_ei w1 (w_ar ws (n_v vs 0) 85)) (w_ei ws (w_ar ws (n_v vs 0) 86)) (w_ei w1 (w_ar ws (n_v vs 0) 86)) (w_ei ws (w_ar ws (n_v vs 0) 87)) (w_ei w1 (w_ar ws (n_v vs 0) 87)) (w_ei ws (w_ar ws (n_v vs 0) 88)) (w_ei w1 (w_ar ws (n_v vs 0) 88)) (w_ei ws (w_ar ws (n_v vs 0) 89)) (w_ei w1 (w_ar ws (n_v vs 0) 89)) (w_ei ws (w_ar ws (n_v vs 0) 90)) k1 k2 k4 k10 k11 k12 k13 k16 k17 k18 k19 k20 k21 k22 k23 k24 k25 k26 h0 f14 h15 f16 h17 f18 f28 h29 f30 f31 h32 f33 f37 f38 f40 f41 fe_0_79_1 fe_0_80_1 fe_0_81_1 fe_0_79_2 fe_0_80_2 fe_0_81_2 hE_0_82_1 hE_0_82_2 hE_0_83_1 hE_0_83_2 hE_0_84_1 hE_0_84_2 hE_0_85_1 hE_0_85_2 hE_0_86_1 hE_0_86_2 hE_0_87_1 hE_0_87_2 hE_0_88_1 hE_0_88_2 hE_0_89_1 hE_0_89_2 hE_0_90_1 hE_0_90_2 hE_0_91_1 hE_0_91_2 hE_0_92_1 hE_0_92_2 kz_0_79 kz_0_80 kz_0_81
  have nf7 : fc_1 PRD (20, [5, 6, 7, 10, 26, 27], [60, 0, 2, 429, 92, 91]) ws (vs ++ [Value.int x]) := by
    refine ⟨nf_inA hl rfl, sgq_937 ?_⟩
    · show AUX (w_ei ws (w_ar ws (n_v (vs ++ [Value.int x]) 5) 92)) (w_ei ws (w_ar ws (n_v (vs ++ [Value.int x]) 5) 91)) (v_iv (n_v (vs ++ [Value.int x]) 6)) (v_iv (n_v (vs ++ [Value.int x]) 7)) (v_iv (n_v (vs ++ [Value.int x]) 10)) (v_iv (n_v (vs ++ [Value.int x]) 26)) (v_iv (n_v (vs ++ [Value.int x]) 27))
      simp only [e_5, e_6, e_7, e_10, e_26, e_27, q5, q6, q7]
      exact vc_Mo_augment_29_7 (v_iv (n_v vs 1)) (v_iv (n_v vs 2)) (v_iv (n_v vs 10)) (v_iv (n_v vs 12)) (v_iv (n_v vs 13)) (v_iv (n_v vs 26)) (w_ei ws (w_ar ws (n_v vs 0) 91)) (w_fi ws (n_v vs 0) 79) (w_ei ws (w_ar ws (n_v vs 0) 92)) (w_ei w1 (w_ar ws (n_v vs 0) 91)) (w_fi w1 (n_v vs 0) 79) (w_ei w1 (w_ar ws (n_v vs 0) 92)) (w_ei w2 (w_ar ws (n_v vs 0) 91)) (w_fi w2 (n_v vs 0) 79) (w_ei w2 (w_ar ws (n_v vs 0) 82)) (w_ei w2 (w_ar ws (n_v vs 0) 83)) (w_ei w2 (w_ar ws (n_v vs 0) 84)) (w_ei w2 (w_ar ws (n_v vs 0) 85)) (w_ei w2 (w_ar ws (n_v vs 0) 86)) (w_ei w2 (w_ar ws (n_v vs 0) 87)) (w_ei w2 (w_ar ws (n_v vs 0) 88)) (w_ei w2 (w_ar ws (n_v vs 0) 89)) (w_fi w2 (n_v vs 0) 80) (w_fi w2 (n_v vs 0) 81) (w_ei w2 (w_ar ws (n_v vs 0) 92)) (w_fi ws (n_v vs 0) 80) (w_fi w1 (n_v vs 0) 80) (w_fi ws (n_v vs 0) 81) (w_fi w1 (n_v vs 0) 81) (w_ei ws (w_ar ws (n_v vs 0) 82)) (w_ei w1 (w_ar ws (n_v vs 0) 82)) (w_ei ws (w_ar ws (n_v vs 0) 83)) (w_ei w1 (w_ar ws (n_v vs 0) 83)) (w_ei ws (w_ar ws (n_v vs 0) 84)) (w_ei w1 (w_ar ws (n_v vs 0) 84)) (w_ei ws (w_ar ws (n_v vs 0) 85)) (w_ei w1 (w_ar ws (n_v vs 0) 85)) (w_ei ws (w_ar ws (n_v vs 0) 86)) (w_ei w1 (w_ar ws (n_v vs 0) 86)) (w_ei ws (w_ar ws (n_v vs 0) 87)) (w_ei w1 (w_ar ws (n_v vs 0) 87)) (w_ei ws (w_ar ws (n_v vs 0) 88)) (w_ei w1 (w_ar ws (n_v vs 0) 88)) (w_ei ws (w_ar ws (n_v vs 0) 89)) (w_ei w1 (w_ar ws (n_v vs 0) 89)) (v_iv (Value.int x)) k1 k2 k10 k12 k13 k26 h0 f33 f41 fe_0_79_1 fe_0_80_1 fe_0_81_1 fe_0_79_2 fe_0_80_2 fe_0_81_2 hE_0_82_1 hE_0_82_2 hE_0_83_1 hE_0_83_2 hE_0_84_1 hE_0_84_2 hE_0_85_1 hE_0_85_2 hE_0_86_1 hE_0_86_2 hE_0_87_1 hE_0_87_2 hE_0_88_1 hE_0_88_2 hE_0_89_1 hE_0_89_2 hE_0_91_1 hE_0_91_2 hE_0_92_1 hE_0_92_2 kz_0_79 kz_0_80 kz_0_81 ex2
  have nf8 : fc_1 PRD (23, [27], [-1, -1]) ws (vs ++ [Value.int x]) := by
    refine ⟨nf_inA hl rfl, sgq_614 ?_⟩
    · show (-1) * v_iv (n_v (vs ++ [Value.int x]) 27) + 0 ≤ (-1)
      rw [e_27]
      exact vc_Mo_augment_29_8 (v_iv (n_v vs 1)) (v_iv (n_v vs 2)) (v_iv (n_v vs 10)) (v_iv (n_v vs 12)) (v_iv (n_v vs 13)) (v_iv (n_v vs 16)) (w_ei ws (w_ar ws (n_v vs 0) 91)) (w_fi ws (n_v vs 0) 79) (w_ei ws (w_ar ws (n_v vs 0) 92)) (w_ei w1 (w_ar ws (n_v vs 0) 91)) (w_fi w1 (n_v vs 0) 79) (w_ei w1 (w_ar ws (n_v vs 0) 92)) (w_ei w2 (w_ar ws (n_v vs 0) 91)) (w_fi w2 (n_v vs 0) 79) (w_ei w2 (w_ar ws (n_v vs 0) 82)) (w_ei w2 (w_ar ws (n_v vs 0) 83)) (w_ei w2 (w_ar ws (n_v vs 0) 84)) (w_ei w2 (w_ar ws (n_v vs 0) 85)) (w_ei w2 (w_ar ws (n_v vs 0) 86)) (w_ei w2 (w_ar ws (n_v vs 0) 87)) (w_ei w2 (w_ar ws (n_v vs 0) 88)) (w_ei w2 (w_ar ws (n_v vs 0) 89)) (w_fi w2 (n_v vs 0) 80) (w_fi w2 (n_v vs 0) 81) (w_ei w2 (w_ar ws (n_v vs 0) 92)) (w_fi ws (n_v vs 0) 80) (w_fi w1 (n_v vs 0) 80) (w_fi ws (n_v vs 0) 81) (w_fi w1 (n_v vs 0) 81) (w_ei ws (w_ar ws (n_v vs 0) 82)) (w_ei w1 (w_ar ws (n_v vs 0) 82)) (w_ei ws (w_ar ws (n_v vs 0) 83)) (w_ei w1 (w_ar ws (n_v vs 0) 83)) (w_ei ws (w_ar ws (n_v vs 0) 84)) (w_ei w1 (w_ar ws (n_v vs 0) 84)) (w_ei ws (w_ar ws (n_v vs 0) 85)) (w_ei w1 (w_ar ws (n_v vs 0) 85)) (w_ei ws (w_ar ws (n_v vs 0) 86)) (w_ei w1 (w_ar ws (n_v vs 0) 86)) (w_ei ws (w_ar ws (n_v vs 0) 87)) (w_ei w1 (w_ar ws (n_v vs 0) 87)) (w_ei ws (w_ar ws (n_v vs 0) 88)) (w_ei w1 (w_ar ws (n_v vs 0) 88)) (w_ei ws (w_ar ws (n_v vs 0) 89)) (w_ei w1 (w_ar ws (n_v vs 0) 89)) (v_iv (Value.int x)) k1 k2 k10 k12 k13 k16 h32 f33 f41 fe_0_79_1 fe_0_80_1 fe_0_81_1 fe_0_79_2 fe_0_80_2 fe_0_81_2 hE_0_82_1 hE_0_82_2 hE_0_83_1 hE_0_83_2 hE_0_84_1 hE_0_84_2 hE_0_85_1 hE_0_85_2 hE_0_86_1 hE_0_86_2 hE_0_87_1 hE_0_87_2 hE_0_88_1 hE_0_88_2 hE_0_89_1 hE_0_89_2 hE_0_91_1 hE_0_91_2 hE_0_92_1 hE_0_92_2 kz_0_79 kz_0_80 kz_0_81 ex2
  have nf9 : fc_1 PRD (24, [0, 5], []) ws (vs ++ [Value.int x]) := by
    refine ⟨nf_inA hl rfl, sgq_5 ?_⟩
    · show n_v (vs ++ [Value.int x]) 0 = n_v (vs ++ [Value.int x]) 5
      first | rfl | simp only [e_0, e_5, q5, q6, q7, q8]
  have nf10 : fc_1 PRD (24, [1, 6], []) ws (vs ++ [Value.int x]) := by
    refine ⟨nf_inA hl rfl, sgq_5 ?_⟩
    · show n_v (vs ++ [Value.int x]) 1 = n_v (vs ++ [Value.int x]) 6
      first | rfl | simp only [e_1, e_6, q5, q6, q7, q8]
  have nf11 : fc_1 PRD (24, [2, 7], []) ws (vs ++ [Value.int x]) := by
    refine ⟨nf_inA hl rfl, sgq_5 ?_⟩
    · show n_v (vs ++ [Value.int x]) 2 = n_v (vs ++ [Value.int x]) 7
      first | rfl | simp only [e_2, e_7, q5, q6, q7, q8]
  have nf12 : fc_1 PRD (24, [3, 8], []) ws (vs ++ [Value.int x]) := by
    refine ⟨nf_inA hl rfl, sgq_5 ?_⟩
    · show n_v (vs ++ [Value.int x]) 3 = n_v (vs ++ [Value.int x]) 8
      first | rfl | simp only [e_3, e_8, q5, q6, q7, q8]
  obtain ⟨x0, e0, _, _⟩ := tv_int t13 rfl
  have e1 : v_iv (n_v vs 13) = x0.toInt := by rw [e0]; rfl
  have ho : sy_ofs (vs ++ [Value.int x]) (27, 13, 0, 0) := by
    refine ⟨x, x0, by rw [List.getElem?_append_right (by rw [hl]; decide), hl]; rfl, ?_, ?_, ?_⟩
    · rw [List.getElem?_append_left (by rw [hl]; decide)]; exact n_v_some (by rw [hl]; decide) e0
    · show x0.toInt + 0 ≤ x.toInt; omega
    · show x.toInt ≤ x0.toInt + 0; omega
  exact ⟨(fun _ h => (by cases h)), [Value.int x], ag_one hx, List.forall_mem_cons.mpr ⟨⟨show (20 : Nat) < 100 from by decide, nf0⟩, List.forall_mem_cons.mpr ⟨⟨show (20 : Nat) < 100 from by decide, nf1⟩, List.forall_mem_cons.mpr ⟨⟨show (20 : Nat) < 100 from by decide, nf2⟩, List.forall_mem_cons.mpr ⟨⟨show (20 : Nat) < 100 from by decide, nf3⟩, List.forall_mem_cons.mpr ⟨⟨show (20 : Nat) < 100 from by decide, nf4⟩, List.forall_mem_cons.mpr ⟨⟨show (20 : Nat) < 100 from by decide, nf5⟩, List.forall_mem_cons.mpr ⟨⟨show (20 : Nat) < 100 from by decide, nf6⟩, List.forall_mem_cons.mpr ⟨⟨show (20 : Nat) < 100 from by decide, nf7⟩, List.forall_mem_cons.mpr ⟨⟨show (23 : Nat) < 100 from by decide, nf8⟩, List.forall_mem_cons.mpr ⟨⟨show (24 : Nat) < 100 from by decide, nf9⟩, List.forall_mem_cons.mpr ⟨⟨show (24 : Nat) < 100 from by decide, nf10⟩, List.forall_mem_cons.mpr ⟨⟨show (24 : Nat) < 100 from by decide, nf11⟩, List.forall_mem_cons.mpr ⟨⟨show (24 : Nat) < 100 from by decide, nf12⟩, (fun _ h => (by cases h))⟩⟩⟩⟩⟩⟩⟩⟩⟩⟩⟩⟩⟩, List.forall_mem_cons.mpr ⟨ho, (fun _ h => (by cases h))⟩⟩
set_option maxHeartbeats 4000000 in
theorem vc_Mo_augment_30_0 (x1 : Int) (x2 : Int) (k1 : 2 ≤ x1 ∧ x1 ≤ 78) (k2 : 0 ≤ x2 ∧ x2 ≤ 76) (f0 : (x2 + 1) ≤ x1) : (x2 + 1) ≤ x1 := by
  first
    | omega
    | (have h := au1_len ‹AU1 _ _ _ _ _›; omega)
set_option maxHeartbeats 4000000 in
theorem vc_Mo_augment_30_1 (x1 : Int) (x3 : Int) (k1 : 2 ≤ x1 ∧ x1 ≤ 78) (k3 : 1 ≤ x3 ∧ x3 ≤ 77) (f1 : (x3 + 1) ≤ x1) : (x3 + 1) ≤ x1 := by
  first
    | omega
    | (have h := au1_len ‹AU1 _ _ _ _ _›; omega)
set_option maxHeartbeats 4000000 in
theorem vc_Mo_augment_30_2 (x1 : Int) (k1 : 2 ≤ x1 ∧ x1 ≤ 78) (f2 : x1 ≤ 78) : x1 ≤ 78 := by
  first
    | omega
    | (have h := au1_len ‹AU1 _ _ _ _ _›; omega)
set_option maxHeartbeats 4000000 in
theorem vc_Mo_augment_30_3 (x1 : Int) (pointMany_0 : Int) (k1 : 2 ≤ x1 ∧ x1 ≤ 78) (f3 : x1 = (pointMany_0 + 2)) (kz_0_79 : 0 ≤ pointMany_0 ∧ pointMany_0 ≤ 76) : x1 = (pointMany_0 + 2) := by
  first
    | omega
    | (have h := au1_len ‹AU1 _ _ _ _ _›; omega)
set_option maxHeartbeats 4000000 in
theorem vc_Mo_augment_30_4 (x2 : Int) (pointMany_0 : Int) (k2 : 0 ≤ x2 ∧ x2 ≤ 76) (f4 : x2 = pointMany_0) (kz_0_79 : 0 ≤ pointMany_0 ∧ pointMany_0 ≤ 76) : x2 = pointMany_0 := by
  first
    | omega
    | (have h := au1_len ‹AU1 _ _ _ _ _›; omega)
set_option maxHeartbeats 4000000 in
theorem vc_Mo_augment_30_5 (x3 : Int) (pointMany_0 : Int) (k3 : 1 ≤ x3 ∧ x3 ≤ 77) (f5 : x3 = (pointMany_0 + 1)) (kz_0_79 : 0 ≤ pointMany_0 ∧ pointMany_0 ≤ 76) : x3 = (pointMany_0 + 1) := by
  first
    | omega
    | (have h := au1_len ‹AU1 _ _ _ _ _›; omega)
set_option maxHeartbeats 4000000 in
theorem vc_Mo_augment_30_6 (x4 : Int) (x11 : Int) (x12 : Int) (pointMany_0 : Int) (flow_0 : Int → Int) (cameBy_0 : Int → Int) (spot_0 : Int → Int) (costA_0 : Int → Int) (costB_0 : Int → Int) (costW_0 : Int → Int) (costPlain_0 : Int → Int) (apartA_0 : Int → Int) (apartB_0 : Int → Int) (apart_0 : Int → Int) (costMany_0 : Int) (apartMany_0 : Int) (k4 : (-2) ≤ x4 ∧ x4 ≤ 180000001) (k11 : 0 ≤ x11 ∧ x11 ≤ 1000000) (k12 : 0 ≤ x12 ∧ x12 ≤ 77) (f6 : PSH (pointMany_0) (costMany_0) (apartMany_0) (flow_0) (cameBy_0) (spot_0) (costA_0) (costB_0) (costW_0) (costPlain_0) (apartA_0) (apartB_0) (apart_0) (x11) (x12) (x4)) (kz_0_79 : 0 ≤ pointMany_0 ∧ pointMany_0 ≤ 76) (kz_0_80 : 0 ≤ costMany_0 ∧ costMany_0 ≤ 200) (kz_0_81 : 0 ≤ apartMany_0 ∧ apartMany_0 ≤ 200) : PSH (pointMany_0) (costMany_0) (apartMany_0) (flow_0) (cameBy_0) (spot_0) (costA_0) (costB_0) (costW_0) (costPlain_0) (apartA_0) (apartB_0) (apart_0) (x11) (x12) (x4) := by
  first
    | assumption
    | exact psh_start ‹FLO _ _ _ _ _ _ _ _ _ _ _ _› ‹MN1 _ _ _ _ _ _ _› (by omega) ‹XLE _ _ _› (by omega) (by omega) (by omega) (by omega)
set_option maxHeartbeats 4000000 in
theorem vc_Mo_augment_30_7 (x1 : Int) (x2 : Int) (x10 : Int) (x12 : Int) (x13 : Int) (cameBy_0 : Int → Int) (queue_0 : Int → Int) (gx : Int) (k1 : 2 ≤ x1 ∧ x1 ≤ 78) (k2 : 0 ≤ x2 ∧ x2 ≤ 76) (k10 : 1 ≤ x10 ∧ x10 ≤ 79) (k12 : 0 ≤ x12 ∧ x12 ≤ 77) (k13 : (-2) ≤ x13 ∧ x13 ≤ 80) (f7 : AUX (queue_0) (cameBy_0) (x1) (x2) (x10) (x12) (x13)) (ex2 : gx = (-1) + (1 * x13 + 0)) : AUW (queue_0) (cameBy_0) (x1) (x2) (x10) (x12) (gx) := by
  first
    | exact auw_of ‹AU2 _ _ _ _ _ _› (by omega)
    | (rw [show gx = x13 - 1 by omega]; exact ‹AUX _ _ _ _ _ _ _›)
def o_Mo_augment_30 : or_T := (193, 14, [(0, (2, 0, 0, [165])), (1, (0, 2, 78, [])), (2, (0, 0, 76, [])), (3, (0, 1, 77, [])), (4, (0, -2, 180000001, [])), (5, (2, 0, 0, [165])), (6, (0, 2, 79, [])), (7, (0, 0, 76, [])), (8, (0, 1, 77, [])), (10, (0, 1, 79, [])), (11, (0, 0, 1000000, [])), (12, (0, 0, 77, [])), (13, (0, -2, 80, []))], [(20, [7, 6], [50, 0, 0, 0, 6, 4, 2, 1, 0, 0, 1, 1, 1]), (20, [8, 6], [50, 0, 0, 0, 6, 4, 2, 1, 0, 0, 1, 1, 1]), (20, [6], [50, 0, 0, 0, 2, 1, 0, 0, 78]), (20, [6, 5], [50, 1, 0, 1079, 1, 2, 1, 0, 4, 3, 2, 1, 79, 0, 2]), (20, [7, 5], [50, 1, 0, 1079, 1, 2, 1, 0, 2, 1, 79]), (20, [8, 5], [50, 1, 0, 1079, 1, 2, 1, 0, 4, 3, 2, 1, 79, 0, 1]), (20, [5, 11, 12, 4], [60, 3, 10, 408, 79, 80, 81, 90, 91, 82, 83, 84, 85, 86, 87, 88, 89]), (20, [5, 6, 7, 10, 12, 13], [60, 0, 2, 429, 92, 91]), (23, [13], [-1, -1]), (24, [0, 5], []), (24, [1, 6], []), (24, [2, 7], []), (24, [3, 8], [])], [], [(0, -2, 80, [])], [(20, [7, 6], [50, 0, 0, 0, 6, 4, 2, 1, 0, 0, 1, 1, 1]), (20, [8, 6], [50, 0, 0, 0, 6, 4, 2, 1, 0, 0, 1, 1, 1]), (20, [6], [50, 0, 0, 0, 2, 1, 0, 0, 78]), (20, [6, 5], [50, 1, 0, 1079, 1, 2, 1, 0, 4, 3, 2, 1, 79, 0, 2]), (20, [7, 5], [50, 1, 0, 1079, 1, 2, 1, 0, 2, 1, 79]), (20, [8, 5], [50, 1, 0, 1079, 1, 2, 1, 0, 4, 3, 2, 1, 79, 0, 1]), (20, [5, 11, 12, 4], [60, 3, 10, 408, 79, 80, 81, 90, 91, 82, 83, 84, 85, 86, 87, 88, 89]), (20, [5, 6, 7, 10, 12, 14], [60, 0, 2, 394, 92, 91]), (24, [0, 5], []), (24, [1, 6], []), (24, [2, 7], []), (24, [3, 8], [])], [(14, 13, -1000000000000, -1)], [(1, 6, -4294967296, 0), (2, 7, -4294967296, 0), (3, 8, -4294967296, 0), (6, 1, -4294967296, 0), (7, 2, -4294967296, 0), (8, 3, -4294967296, 0)])
theorem oo_Mo_augment_30 {kA : Nat → ClassId} : or_ok PRD kA GG o_Mo_augment_30 := by
  refine or_mk fun A ta ws vs hD hth hl => ?_
  intro t0 r0 t1 k1 t2 k2 t3 k3 t4 k4 t5 r5 t6 k6 t7 k7 t8 k8 t10 k10 t11 k11 t12 k12 t13 k13 d0 d1 d2 d3 d4 d5 f0 f1 f2 f3 f4 f5 f6 f7 f8 f9 f10 f11 f12
  replace f0 := shm_409 f0
  replace f1 := shm_409 f1
  replace f2 := shm_913 f2
  replace f3 := shm_914 f3
  replace f4 := shm_915 f4
  replace f5 := shm_916 f5
  replace f6 := shm_936 f6
  replace f7 := shm_937 f7
  replace f8 := shm_614 f8
  replace f9 := shm_5 f9
  replace f10 := shm_5 f10
  replace f11 := shm_5 f11
  replace f12 := shm_5 f12
  have q5 : n_v vs 5 = n_v vs 0 := f9.symm
  have q6 : n_v vs 6 = n_v vs 1 := f10.symm
  have q7 : n_v vs 7 = n_v vs 2 := f11.symm
  have q8 : n_v vs 8 = n_v vs 3 := f12.symm
  simp only [q6, q7, q8, q5] at f0 f1 f2 f3 f4 f5 f6 f7
  have cr_0_82 := fdq_225 hD hth r0
  have cr_0_83 := fdq_125 hD hth r0
  have cr_0_84 := fdq_126 hD hth r0
  have cr_0_85 := fdq_127 hD hth r0
  have cr_0_86 := fdq_128 hD hth r0
  have cr_0_87 := fdq_118 hD hth r0
  have cr_0_88 := fdq_119 hD hth r0
  have cr_0_89 := fdq_120 hD hth r0
  have cr_0_90 := fdq_226 hD hth r0
  have cr_0_91 := fdq_227 hD hth r0
  have cr_0_92 := fdq_228 hD hth r0
  have hK_0_82 := elq_141 hD hth cr_0_82
  have hK_0_83 := elq_64 hD hth cr_0_83
  have hK_0_84 := elq_65 hD hth cr_0_84
  have hK_0_85 := elq_66 hD hth cr_0_85
  have hK_0_86 := elq_67 hD hth cr_0_86
  have hK_0_87 := elq_59 hD hth cr_0_87
  have hK_0_88 := elq_60 hD hth cr_0_88
  have hK_0_89 := elq_61 hD hth cr_0_89
  have hK_0_90 := elq_142 hD hth cr_0_90
  have hK_0_91 := elq_143 hD hth cr_0_91
  have hK_0_92 := elq_144 hD hth cr_0_92
  have kz_0_79 := fdq_146 hD hth r0
  have kz_0_80 := fdq_130 hD hth r0
  have kz_0_81 := fdq_123 hD hth r0
  obtain ⟨x, ex, hx⟩ := iv_ex (ta := ta) (lo := (-2)) (hi := 80) (z := (-1) + (1 * v_iv (n_v vs 13) + 0)) (by omega) (by omega) (by omega) (by omega)
  have ex2 : v_iv (Value.int x) = (-1) + (1 * v_iv (n_v vs 13) + 0) := ex
  have ex3 : (-2) ≤ v_iv (Value.int x) ∧ v_iv (Value.int x) ≤ 80 := tv_rng hx
  have e_0 : n_v (vs ++ [Value.int x]) 0 = n_v vs 0 := n_v_old (by rw [hl]; decide)
  have e_1 : n_v (vs ++ [Value.int x]) 1 = n_v vs 1 := n_v_old (by rw [hl]; decide)
  have e_2 : n_v (vs ++ [Value.int x]) 2 = n_v vs 2 := n_v_old (by rw [hl]; decide)
  have e_3 : n_v (vs ++ [Value.int x]) 3 = n_v vs 3 := n_v_old (by rw [hl]; decide)
  have e_4 : n_v (vs ++ [Value.int x]) 4 = n_v vs 4 := n_v_old (by rw [hl]; decide)
  have e_5 : n_v (vs ++ [Value.int x]) 5 = n_v vs 5 := n_v_old (by rw [hl]; decide)
  have e_6 : n_v (vs ++ [Value.int x]) 6 = n_v vs 6 := n_v_old (by rw [hl]; decide)
  have e_7 : n_v (vs ++ [Value.int x]) 7 = n_v vs 7 := n_v_old (by rw [hl]; decide)
  have e_8 : n_v (vs ++ [Value.int x]) 8 = n_v vs 8 := n_v_old (by rw [hl]; decide)
  have e_10 : n_v (vs ++ [Value.int x]) 10 = n_v vs 10 := n_v_old (by rw [hl]; decide)
  have e_11 : n_v (vs ++ [Value.int x]) 11 = n_v vs 11 := n_v_old (by rw [hl]; decide)
  have e_12 : n_v (vs ++ [Value.int x]) 12 = n_v vs 12 := n_v_old (by rw [hl]; decide)
  have e_14 : n_v (vs ++ [Value.int x]) 14 = Value.int x := n_v_new hl
  have nf0 : fc_1 PRD (20, [7, 6], [50, 0, 0, 0, 6, 4, 2, 1, 0, 0, 1, 1, 1]) ws (vs ++ [Value.int x]) := by
    refine ⟨nf_inA hl rfl, sgq_409 ?_⟩
    · show (v_iv (n_v (vs ++ [Value.int x]) 7) + 1) ≤ v_iv (n_v (vs ++ [Value.int x]) 6)
      simp only [e_6, e_7, q6, q7]
      exact vc_Mo_augment_30_0 (v_iv (n_v vs 1)) (v_iv (n_v vs 2)) k1 k2 f0
  have nf1 : fc_1 PRD (20, [8, 6], [50, 0, 0, 0, 6, 4, 2, 1, 0, 0, 1, 1, 1]) ws (vs ++ [Value.int x]) := by
    refine ⟨nf_inA hl rfl, sgq_409 ?_⟩
    · show (v_iv (n_v (vs ++ [Value.int x]) 8) + 1) ≤ v_iv (n_v (vs ++ [Value.int x]) 6)
      simp only [e_6, e_8, q6, q8]
      exact vc_Mo_augment_30_1 (v_iv (n_v vs 1)) (v_iv (n_v vs 3)) k1 k3 f1
  have nf2 : fc_1 PRD (20, [6], [50, 0, 0, 0, 2, 1, 0, 0, 78]) ws (vs ++ [Value.int x]) := by
    refine ⟨nf_inA hl rfl, sgq_913 ?_⟩
    · show v_iv (n_v (vs ++ [Value.int x]) 6) ≤ 78
      simp only [e_6, q6]
      exact vc_Mo_augment_30_2 (v_iv (n_v vs 1)) k1 f2
  have nf3 : fc_1 PRD (20, [6, 5], [50, 1, 0, 1079, 1, 2, 1, 0, 4, 3, 2, 1, 79, 0, 2]) ws (vs ++ [Value.int x]) := by
    refine ⟨nf_inA hl rfl, sgq_914 ?_⟩
    · show v_iv (n_v (vs ++ [Value.int x]) 6) = (w_fi ws (n_v (vs ++ [Value.int x]) 5) 79 + 2)
      simp only [e_5, e_6, q5, q6]
      exact vc_Mo_augment_30_3 (v_iv (n_v vs 1)) (w_fi ws (n_v vs 0) 79) k1 f3 kz_0_79
  have nf4 : fc_1 PRD (20, [7, 5], [50, 1, 0, 1079, 1, 2, 1, 0, 2, 1, 79]) ws (vs ++ [Value.int x]) := by
    refine ⟨nf_inA hl rfl, sgq_915 ?_⟩
    · show v_iv (n_v (vs ++ [Value.int x]) 7) = w_fi ws (n_v (vs ++ [Value.int x]) 5) 79
      simp only [e_5, e_7, q5, q7]
      exact vc_Mo_augment_30_4 (v_iv (n_v vs 2)) (w_fi ws (n_v vs 0) 79) k2 f4 kz_0_79
  have nf5 : fc_1 PRD (20, [8, 5], [50, 1, 0, 1079, 1, 2, 1, 0, 4, 3, 2, 1, 79, 0, 1]) ws (vs ++ [Value.int x]) := by
    refine ⟨nf_inA hl rfl, sgq_916 ?_⟩
    · show v_iv (n_v (vs ++ [Value.int x]) 8) = (w_fi ws (n_v (vs ++ [Value.int x]) 5) 79 + 1)
      simp only [e_5, e_8, q5, q8]
      exact vc_Mo_augment_30_5 (v_iv (n_v vs 3)) (w_fi ws (n_v vs 0) 79) k3 f5 kz_0_79
  have nf6 : fc_1 PRD (20, [5, 11, 12, 4], [60, 3, 10, 408, 79, 80, 81, 90, 91, 82, 83, 84, 85, 86, 87, 88, 89]) ws (vs ++ [Value.int x]) := by
    refine ⟨nf_inA hl rfl, sgq_936 ?_⟩
    · show PSH (w_fi ws (n_v (vs ++ [Value.int x]) 5) 79) (w_fi ws (n_v (vs ++ [Value.int x]) 5) 80) (w_fi ws (n_v (vs ++ [Value.int x]) 5) 81) (w_ei ws (w_ar ws (n_v (vs ++ [Value.int x]) 5) 90)) (w_ei ws (w_ar ws (n_v (vs ++ [Value.int x]) 5) 91)) (w_ei ws (w_ar ws (n_v (vs ++ [Value.int x]) 5) 82)) (w_ei ws (w_ar ws (n_v (vs ++ [Value.int x]) 5) 83)) (w_ei ws (w_ar ws (n_v (vs ++ [Value.int x]) 5) 84)) (w_ei ws (w_ar ws (n_v (vs ++ [Value.int x]) 5) 85)) (w_ei ws (w_ar ws (n_v (vs ++ [Value.int x]) 5) 86)) (w_ei ws (w_ar ws (n_v (vs ++ [Value.int x]) 5) 87)) (w_ei ws (w_ar ws (n_v (vs ++ [Value.int x]) 5) 88)) (w_ei ws (w_ar ws (n_v (vs ++ [Value.int x]) 5) 89)) (v_iv (n_v (vs ++ [Value.int x]) 11)) (v_iv (n_v (vs ++ [Value.int x]) 12)) (v_iv (n_v (vs ++ [Value.int x]) 4))
      simp only [e_4, e_5, e_11, e_12, q5]
      exact vc_Mo_augment_30_6 (v_iv (n_v vs 4)) (v_iv (n_v vs 11)) (v_iv (n_v vs 12)) (w_fi ws (n_v vs 0) 79) (w_ei ws (w_ar ws (n_v vs 0) 90)) (w_ei ws (w_ar ws (n_v vs 0) 91)) (w_ei ws (w_ar ws (n_v vs 0) 82)) (w_ei ws (w_ar ws (n_v vs 0) 83)) (w_ei ws (w_ar ws (n_v vs 0) 84)) (w_ei ws (w_ar ws (n_v vs 0) 85)) (w_ei ws (w_ar ws (n_v vs 0) 86)) (w_ei ws (w_ar ws (n_v vs 0) 87)) (w_ei ws (w_ar ws (n_v vs 0) 88)) (w_ei ws (w_ar ws (n_v vs 0) 89)) (w_fi ws (n_v vs 0) 80) (w_fi ws (n_v vs 0) 81) k4 k11 k12 f6 kz_0_79 kz_0_80 kz_0_81
  have nf7 : fc_1 PRD (20, [5, 6, 7, 10, 12, 14], [60, 0, 2, 394, 92, 91]) ws (vs ++ [Value.int x]) := by
    refine ⟨nf_inA hl rfl, sgq_927 ?_⟩
    · show AUW (w_ei ws (w_ar ws (n_v (vs ++ [Value.int x]) 5) 92)) (w_ei ws (w_ar ws (n_v (vs ++ [Value.int x]) 5) 91)) (v_iv (n_v (vs ++ [Value.int x]) 6)) (v_iv (n_v (vs ++ [Value.int x]) 7)) (v_iv (n_v (vs ++ [Value.int x]) 10)) (v_iv (n_v (vs ++ [Value.int x]) 12)) (v_iv (n_v (vs ++ [Value.int x]) 14))
      simp only [e_5, e_6, e_7, e_10, e_12, e_14, q5, q6, q7]
      exact vc_Mo_augment_30_7 (v_iv (n_v vs 1)) (v_iv (n_v vs 2)) (v_iv (n_v vs 10)) (v_iv (n_v vs 12)) (v_iv (n_v vs 13)) (w_ei ws (w_ar ws (n_v vs 0) 91)) (w_ei ws (w_ar ws (n_v vs 0) 92)) (v_iv (Value.int x)) k1 k2 k10 k12 k13 f7 ex2
  have nf8 : fc_1 PRD (24, [0, 5], []) ws (vs ++ [Value.int x]) := by
    refine ⟨nf_inA hl rfl, sgq_5 ?_⟩
    · show n_v (vs ++ [Value.int x]) 0 = n_v (vs ++ [Value.int x]) 5
      first | rfl | simp only [e_0, e_5, q5, q6, q7, q8]
  have nf9 : fc_1 PRD (24, [1, 6], []) ws (vs ++ [Value.int x]) := by
    refine ⟨nf_inA hl rfl, sgq_5 ?_⟩
    · show n_v (vs ++ [Value.int x]) 1 = n_v (vs ++ [Value.int x]) 6
      first | rfl | simp only [e_1, e_6, q5, q6, q7, q8]
  have nf10 : fc_1 PRD (24, [2, 7], []) ws (vs ++ [Value.int x]) := by
    refine ⟨nf_inA hl rfl, sgq_5 ?_⟩
    · show n_v (vs ++ [Value.int x]) 2 = n_v (vs ++ [Value.int x]) 7
      first | rfl | simp only [e_2, e_7, q5, q6, q7, q8]
  have nf11 : fc_1 PRD (24, [3, 8], []) ws (vs ++ [Value.int x]) := by
    refine ⟨nf_inA hl rfl, sgq_5 ?_⟩
    · show n_v (vs ++ [Value.int x]) 3 = n_v (vs ++ [Value.int x]) 8
      first | rfl | simp only [e_3, e_8, q5, q6, q7, q8]
  obtain ⟨x0, e0, _, _⟩ := tv_int t13 rfl
  have e1 : v_iv (n_v vs 13) = x0.toInt := by rw [e0]; rfl
  have ho : sy_ofs (vs ++ [Value.int x]) (14, 13, -1000000000000, -1) := by
    refine ⟨x, x0, by rw [List.getElem?_append_right (by rw [hl]; decide), hl]; rfl, ?_, ?_, ?_⟩
    · rw [List.getElem?_append_left (by rw [hl]; decide)]; exact n_v_some (by rw [hl]; decide) e0
    · show x0.toInt + (-1000000000000) ≤ x.toInt; omega
    · show x.toInt ≤ x0.toInt + (-1); omega
  exact ⟨(fun _ h => (by cases h)), [Value.int x], ag_one hx, List.forall_mem_cons.mpr ⟨⟨show (20 : Nat) < 100 from by decide, nf0⟩, List.forall_mem_cons.mpr ⟨⟨show (20 : Nat) < 100 from by decide, nf1⟩, List.forall_mem_cons.mpr ⟨⟨show (20 : Nat) < 100 from by decide, nf2⟩, List.forall_mem_cons.mpr ⟨⟨show (20 : Nat) < 100 from by decide, nf3⟩, List.forall_mem_cons.mpr ⟨⟨show (20 : Nat) < 100 from by decide, nf4⟩, List.forall_mem_cons.mpr ⟨⟨show (20 : Nat) < 100 from by decide, nf5⟩, List.forall_mem_cons.mpr ⟨⟨show (20 : Nat) < 100 from by decide, nf6⟩, List.forall_mem_cons.mpr ⟨⟨show (20 : Nat) < 100 from by decide, nf7⟩, List.forall_mem_cons.mpr ⟨⟨show (24 : Nat) < 100 from by decide, nf8⟩, List.forall_mem_cons.mpr ⟨⟨show (24 : Nat) < 100 from by decide, nf9⟩, List.forall_mem_cons.mpr ⟨⟨show (24 : Nat) < 100 from by decide, nf10⟩, List.forall_mem_cons.mpr ⟨⟨show (24 : Nat) < 100 from by decide, nf11⟩, (fun _ h => (by cases h))⟩⟩⟩⟩⟩⟩⟩⟩⟩⟩⟩⟩, List.forall_mem_cons.mpr ⟨ho, (fun _ h => (by cases h))⟩⟩
def n_Mo_augment_an : List an_T := [(3, [(0, (2, 0, 0, [165])), (1, (0, 2, 78, [])), (2, (0, 0, 76, [])), (3, (0, 1, 77, [])), (4, (0, 0, 78, []))], [], (0, 0), [(0, 0, 99997), (1, 9, 78), (0, 0, 100000), (0, 0, 0), (0, 0, 0)], [(1, 6, (Int.negSucc 999999999999), 0), (2, 7, (Int.negSucc 999999999999), 0), (3, 8, (Int.negSucc 999999999999), 0), (6, 1, (Int.negSucc 999999999999), 0), (7, 2, (Int.negSucc 999999999999), 0), (8, 3, (Int.negSucc 999999999999), 0), (9, 1, (Int.negSucc 999999999999), 0), (9, 6, (Int.negSucc 999999999999), 0)], [], [(2, 0, 0, [165]), (0, 2, 78, []), (0, 0, 76, []), (0, 1, 77, []), (0, (Int.negSucc 1), 180000001, [])], 0, [], [(20, [7, 6], [50, 0, 0, 0, 6, 4, 2, 1, 0, 0, 1, 1, 1]), (20, [8, 6], [50, 0, 0, 0, 6, 4, 2, 1, 0, 0, 1, 1, 1]), (20, [6], [50, 0, 0, 0, 2, 1, 0, 0, 78]), (20, [6, 5], [50, 1, 0, 1079, 1, 2, 1, 0, 4, 3, 2, 1, 79, 0, 2]), (20, [7, 5], [50, 1, 0, 1079, 1, 2, 1, 0, 2, 1, 79]), (20, [8, 5], [50, 1, 0, 1079, 1, 2, 1, 0, 4, 3, 2, 1, 79, 0, 1]), (20, [5], [60, 3, 9, 397, 79, 80, 81, 90, 82, 83, 84, 85, 86, 87, 88, 89]), (20, [5, 4], [60, 1, 1, 398, 79, 90]), (20, [5, 9], [60, 0, 1, 391, 91]), (24, [0, 5], []), (24, [1, 6], []), (24, [2, 7], []), (24, [3, 8], [])]), (43, [(0, (2, 0, 0, [165])), (1, (0, 2, 78, [])), (2, (0, 0, 76, [])), (3, (0, 1, 77, [])), (4, (0, 0, 78, [])), (5, (0, 1, 79, []))], [], (0, 0), [(0, 0, 99957), (2, 11, (Int.negSucc 1)), (0, 0, 100000), (0, 0, 0), (0, 0, 0)], [(1, 6, (Int.negSucc 999999999999), 0), (2, 7, (Int.negSucc 999999999999), 0), (3, 8, (Int.negSucc 999999999999), 0), (6, 1, (Int.negSucc 999999999999), 0), (7, 2, (Int.negSucc 999999999999), 0), (8, 3, (Int.negSucc 999999999999), 0), (9, 10, (Int.negSucc 999999999999), 0)], [], [(2, 0, 0, [165]), (0, 2, 78, []), (0, 0, 76, []), (0, 1, 77, []), (0, (Int.negSucc 1), 180000001, [])], 0, [(0, (Int.negSucc 1), 79, [])], [(20, [7, 6], [50, 0, 0, 0, 6, 4, 2, 1, 0, 0, 1, 1, 1]), (20, [8, 6], [50, 0, 0, 0, 6, 4, 2, 1, 0, 0, 1, 1, 1]), (20, [6], [50, 0, 0, 0, 2, 1, 0, 0, 78]), (20, [6, 5], [50, 1, 0, 1079, 1, 2, 1, 0, 4, 3, 2, 1, 79, 0, 2]), (20, [7, 5], [50, 1, 0, 1079, 1, 2, 1, 0, 2, 1, 79]), (20, [8, 5], [50, 1, 0, 1079, 1, 2, 1, 0, 4, 3, 2, 1, 79, 0, 1]), (20, [5], [60, 3, 9, 397, 79, 80, 81, 90, 82, 83, 84, 85, 86, 87, 88, 89]), (20, [5, 4], [60, 1, 1, 398, 79, 90]), (20, [5, 6, 7], [60, 0, 2, 401, 90, 91]), (20, [5, 6, 7, 10], [60, 0, 2, 392, 92, 91]), (23, [9, 11], [(Int.negSucc 77), (Int.negSucc 0), (Int.negSucc 0)]), (20, [5, 6, 9], [60, 0, 3, 402, 90, 92, 91]), (24, [0, 5], []), (24, [1, 6], []), (24, [2, 7], []), (24, [3, 8], [])]), (65, [(0, (2, 0, 0, [165])), (1, (0, 2, 78, [])), (2, (0, 0, 76, [])), (3, (0, 1, 77, [])), (4, (0, 1, 78, [])), (5, (0, 1, 79, [])), (6, (0, 0, 77, [])), (7, (0, 0, 78, []))], [], (0, 0), [(0, 0, 99957), (2, 13, (Int.negSucc 1)), (0, 0, 99935), (1, 12, 78), (0, 0, 100000)], [(1, 6, (Int.negSucc 999999999999), 0), (2, 7, (Int.negSucc 999999999999), 0), (3, 8, (Int.negSucc 999999999999), 0), (6, 1, (Int.negSucc 999999999999), 0), (7, 2, (Int.negSucc 999999999999), 0), (8, 3, (Int.negSucc 999999999999), 0), (9, 10, (Int.negSucc 999999999999), 0), (12, 1, (Int.negSucc 999999999999), 0), (12, 6, (Int.negSucc 999999999999), 0)], [], [(2, 0, 0, [165]), (0, 2, 78, []), (0, 0, 76, []), (0, 1, 77, []), (0, (Int.negSucc 1), 180000001, [])], 0, [(0, (Int.negSucc 1), 79, [])], [(20, [7, 6], [50, 0, 0, 0, 6, 4, 2, 1, 0, 0, 1, 1, 1]), (20, [8, 6], [50, 0, 0, 0, 6, 4, 2, 1, 0, 0, 1, 1, 1]), (20, [6], [50, 0, 0, 0, 2, 1, 0, 0, 78]), (20, [6, 5], [50, 1, 0, 1079, 1, 2, 1, 0, 4, 3, 2, 1, 79, 0, 2]), (20, [7, 5], [50, 1, 0, 1079, 1, 2, 1, 0, 2, 1, 79]), (20, [8, 5], [50, 1, 0, 1079, 1, 2, 1, 0, 4, 3, 2, 1, 79, 0, 1]), (20, [5], [60, 3, 9, 397, 79, 80, 81, 90, 82, 83, 84, 85, 86, 87, 88, 89]), (20, [5, 4], [60, 1, 1, 398, 79, 90]), (20, [5, 6, 7], [60, 0, 2, 401, 90, 91]), (20, [5, 6, 9, 11], [60, 0, 3, 403, 90, 92, 91]), (20, [5, 6, 11, 12], [60, 0, 2, 404, 90, 91]), (20, [5, 6, 7, 10, 11], [60, 0, 2, 393, 92, 91]), (20, [11, 6], [50, 0, 0, 0, 6, 4, 2, 1, 0, 0, 1, 1, 1]), (20, [9, 10], [50, 0, 0, 0, 2, 1, 0, 1, 1]), (23, [9, 13], [(Int.negSucc 78), (Int.negSucc 0), (Int.negSucc 0)]), (23, [13], [(Int.negSucc 0), (Int.negSucc 0)]), (24, [0, 5], []), (24, [1, 6], []), (24, [2, 7], []), (24, [3, 8], [])]), (126, [(0, (2, 0, 0, [165])), (1, (0, 2, 78, [])), (2, (0, 0, 76, [])), (3, (0, 1, 77, [])), (4, (0, 1, 78, [])), (5, (0, 1, 79, [])), (6, (0, 0, 77, [])), (7, (0, 2, 78, []))], [], (0, 0), [(0, 0, 99957), (2, 13, (Int.negSucc 1)), (0, 0, 99874), (0, 0, 0), (0, 0, 0)], [(1, 6, (Int.negSucc 999999999999), 0), (1, 12, (Int.negSucc 999999999999), 0), (2, 7, (Int.negSucc 999999999999), 0), (3, 8, (Int.negSucc 999999999999), 0), (6, 1, (Int.negSucc 999999999999), 0), (6, 12, (Int.negSucc 999999999999), 0), (7, 2, (Int.negSucc 999999999999), 0), (8, 3, (Int.negSucc 999999999999), 0), (9, 10, (Int.negSucc 999999999999), 0), (12, 1, (Int.negSucc 999999999999), 0), (12, 6, (Int.negSucc 999999999999), 0)], [], [(2, 0, 0, [165]), (0, 2, 78, []), (0, 0, 76, []), (0, 1, 77, []), (0, (Int.negSucc 1), 180000001, [])], 0, [(0, (Int.negSucc 1), 79, [])], [(20, [7, 6], [50, 0, 0, 0, 6, 4, 2, 1, 0, 0, 1, 1, 1]), (20, [8, 6], [50, 0, 0, 0, 6, 4, 2, 1, 0, 0, 1, 1, 1]), (20, [6], [50, 0, 0, 0, 2, 1, 0, 0, 78]), (20, [6, 5], [50, 1, 0, 1079, 1, 2, 1, 0, 4, 3, 2, 1, 79, 0, 2]), (20, [7, 5], [50, 1, 0, 1079, 1, 2, 1, 0, 2, 1, 79]), (20, [8, 5], [50, 1, 0, 1079, 1, 2, 1, 0, 4, 3, 2, 1, 79, 0, 1]), (20, [5], [60, 3, 9, 397, 79, 80, 81, 90, 82, 83, 84, 85, 86, 87, 88, 89]), (20, [5, 4], [60, 1, 1, 398, 79, 90]), (20, [5, 6, 7], [60, 0, 2, 401, 90, 91]), (20, [5, 6, 7, 10], [60, 0, 2, 392, 92, 91]), (20, [5, 6, 9], [60, 0, 3, 402, 90, 92, 91]), (23, [9, 13], [(Int.negSucc 78), (Int.negSucc 0), (Int.negSucc 0)]), (23, [13], [(Int.negSucc 0), (Int.negSucc 0)]), (24, [0, 5], []), (24, [1, 6], []), (24, [2, 7], []), (24, [3, 8], [])]), (148, [(0, (2, 0, 0, [165])), (1, (0, 2, 79, [])), (2, (0, 0, 76, [])), (3, (0, 1, 77, [])), (4, (0, 1, 79, [])), (5, (0, 1, 79, [])), (6, (0, 0, 1000000, [])), (7, (0, 0, 77, []))], [], (0, 0), [(0, 0, 99852), (2, 13, (Int.negSucc 1)), (0, 0, 100000), (0, 0, 0), (0, 0, 0)], [(1, 6, (Int.negSucc 999999999999), 0), (2, 7, (Int.negSucc 999999999999), 0), (3, 8, (Int.negSucc 999999999999), 0), (6, 1, (Int.negSucc 999999999999), 0), (7, 2, (Int.negSucc 999999999999), 0), (8, 3, (Int.negSucc 999999999999), 0), (9, 10, (Int.negSucc 999999999999), 0), (10, 9, (Int.negSucc 999999999999), 0)], [], [(2, 0, 0, [165]), (0, 2, 78, []), (0, 0, 76, []), (0, 1, 77, []), (0, (Int.negSucc 1), 180000001, [])], 0, [(0, (Int.negSucc 1), 80, [])], [(20, [7, 6], [50, 0, 0, 0, 6, 4, 2, 1, 0, 0, 1, 1, 1]), (20, [8, 6], [50, 0, 0, 0, 6, 4, 2, 1, 0, 0, 1, 1, 1]), (20, [6], [50, 0, 0, 0, 2, 1, 0, 0, 78]), (20, [6, 5], [50, 1, 0, 1079, 1, 2, 1, 0, 4, 3, 2, 1, 79, 0, 2]), (20, [7, 5], [50, 1, 0, 1079, 1, 2, 1, 0, 2, 1, 79]), (20, [8, 5], [50, 1, 0, 1079, 1, 2, 1, 0, 4, 3, 2, 1, 79, 0, 1]), (20, [5], [60, 3, 9, 397, 79, 80, 81, 90, 82, 83, 84, 85, 86, 87, 88, 89]), (20, [5, 4], [60, 1, 1, 398, 79, 90]), (20, [5, 6, 7], [60, 0, 2, 401, 90, 91]), (20, [5, 6, 7, 8, 12, 11], [60, 0, 2, 407, 90, 91]), (20, [5, 6, 7, 10, 12, 13], [60, 0, 2, 394, 92, 91]), (20, [5, 6, 7, 10, 8], [60, 0, 2, 393, 92, 91]), (24, [0, 5], []), (24, [1, 6], []), (24, [2, 7], []), (24, [3, 8], [])]), (187, [(0, (2, 0, 0, [165])), (1, (0, 2, 79, [])), (2, (0, 0, 76, [])), (3, (0, 1, 77, [])), (4, (0, 1, 79, [])), (5, (0, 1, 79, [])), (6, (0, 0, 1000000, [])), (7, (0, 0, 77, []))], [], (0, 0), [(0, 0, 99852), (2, 13, (Int.negSucc 1)), (0, 0, 99813), (0, 0, 0), (0, 0, 0)], [(1, 6, (Int.negSucc 999999999999), 0), (2, 7, (Int.negSucc 999999999999), 0), (3, 8, (Int.negSucc 999999999999), 0), (6, 1, (Int.negSucc 999999999999), 0), (7, 2, (Int.negSucc 999999999999), 0), (8, 3, (Int.negSucc 999999999999), 0), (9, 10, (Int.negSucc 999999999999), 0), (10, 9, (Int.negSucc 999999999999), 0)], [], [(2, 0, 0, [165]), (0, 2, 78, []), (0, 0, 76, []), (0, 1, 77, []), (0, (Int.negSucc 1), 180000001, [])], 0, [(0, (Int.negSucc 1), 80, [])], [(20, [7, 6], [50, 0, 0, 0, 6, 4, 2, 1, 0, 0, 1, 1, 1]), (20, [8, 6], [50, 0, 0, 0, 6, 4, 2, 1, 0, 0, 1, 1, 1]), (20, [6], [50, 0, 0, 0, 2, 1, 0, 0, 78]), (20, [6, 5], [50, 1, 0, 1079, 1, 2, 1, 0, 4, 3, 2, 1, 79, 0, 2]), (20, [7, 5], [50, 1, 0, 1079, 1, 2, 1, 0, 2, 1, 79]), (20, [8, 5], [50, 1, 0, 1079, 1, 2, 1, 0, 4, 3, 2, 1, 79, 0, 1]), (20, [5], [60, 3, 9, 397, 79, 80, 81, 90, 82, 83, 84, 85, 86, 87, 88, 89]), (20, [5, 4], [60, 1, 1, 398, 79, 90]), (20, [5, 6, 7], [60, 0, 2, 401, 90, 91]), (20, [5, 6, 7, 8, 12, 11], [60, 0, 2, 407, 90, 91]), (20, [5, 6, 7, 10, 12, 13], [60, 0, 2, 429, 92, 91]), (20, [5, 6, 7, 10, 8], [60, 0, 2, 393, 92, 91]), (23, [13], [(Int.negSucc 0), (Int.negSucc 0)]), (24, [0, 5], []), (24, [1, 6], []), (24, [2, 7], []), (24, [3, 8], [])]), (193, [(0, (2, 0, 0, [165])), (1, (0, 2, 79, [])), (2, (0, 0, 76, [])), (3, (0, 1, 77, [])), (4, (0, 1, 79, [])), (5, (0, 1, 79, [])), (6, (0, 0, 1000000, [])), (7, (0, 0, 77, []))], [], (0, 0), [(0, 0, 99807), (2, 13, (Int.negSucc 1)), (0, 0, 100000), (0, 0, 0), (0, 0, 0)], [(1, 6, (Int.negSucc 999999999999), 0), (2, 7, (Int.negSucc 999999999999), 0), (3, 8, (Int.negSucc 999999999999), 0), (6, 1, (Int.negSucc 999999999999), 0), (7, 2, (Int.negSucc 999999999999), 0), (8, 3, (Int.negSucc 999999999999), 0), (9, 10, (Int.negSucc 999999999999), 0), (10, 9, (Int.negSucc 999999999999), 0)], [], [(2, 0, 0, [165]), (0, 2, 78, []), (0, 0, 76, []), (0, 1, 77, []), (0, (Int.negSucc 1), 180000001, [])], 0, [(0, (Int.negSucc 1), 80, [])], [(20, [7, 6], [50, 0, 0, 0, 6, 4, 2, 1, 0, 0, 1, 1, 1]), (20, [8, 6], [50, 0, 0, 0, 6, 4, 2, 1, 0, 0, 1, 1, 1]), (20, [6], [50, 0, 0, 0, 2, 1, 0, 0, 78]), (20, [6, 5], [50, 1, 0, 1079, 1, 2, 1, 0, 4, 3, 2, 1, 79, 0, 2]), (20, [7, 5], [50, 1, 0, 1079, 1, 2, 1, 0, 2, 1, 79]), (20, [8, 5], [50, 1, 0, 1079, 1, 2, 1, 0, 4, 3, 2, 1, 79, 0, 1]), (20, [5, 11, 12, 4], [60, 3, 10, 408, 79, 80, 81, 90, 91, 82, 83, 84, 85, 86, 87, 88, 89]), (20, [5, 6, 7, 10, 12, 13], [60, 0, 2, 394, 92, 91]), (24, [0, 5], []), (24, [1, 6], []), (24, [2, 7], []), (24, [3, 8], [])]), (252, [(0, (2, 0, 0, [165])), (1, (0, 2, 79, [])), (2, (0, 0, 76, [])), (3, (0, 1, 77, [])), (4, (0, 1, 79, [])), (5, (0, 1, 79, [])), (6, (0, 0, 1000000, [])), (7, (0, 0, 77, []))], [], (0, 0), [(0, 0, 99807), (2, 13, (Int.negSucc 1)), (0, 0, 99748), (0, 0, 0), (0, 0, 0)], [(1, 6, (Int.negSucc 999999999999), 0), (2, 7, (Int.negSucc 999999999999), 0), (3, 8, (Int.negSucc 999999999999), 0), (6, 1, (Int.negSucc 999999999999), 0), (7, 2, (Int.negSucc 999999999999), 0), (8, 3, (Int.negSucc 999999999999), 0), (9, 10, (Int.negSucc 999999999999), 0), (10, 9, (Int.negSucc 999999999999), 0)], [], [(2, 0, 0, [165]), (0, 2, 78, []), (0, 0, 76, []), (0, 1, 77, []), (0, (Int.negSucc 1), 180000001, [])], 0, [(0, (Int.negSucc 1), 80, [])], [(20, [7, 6], [50, 0, 0, 0, 6, 4, 2, 1, 0, 0, 1, 1, 1]), (20, [8, 6], [50, 0, 0, 0, 6, 4, 2, 1, 0, 0, 1, 1, 1]), (20, [6], [50, 0, 0, 0, 2, 1, 0, 0, 78]), (20, [6, 5], [50, 1, 0, 1079, 1, 2, 1, 0, 4, 3, 2, 1, 79, 0, 2]), (20, [7, 5], [50, 1, 0, 1079, 1, 2, 1, 0, 2, 1, 79]), (20, [8, 5], [50, 1, 0, 1079, 1, 2, 1, 0, 4, 3, 2, 1, 79, 0, 1]), (20, [5, 11, 12, 4], [60, 3, 10, 408, 79, 80, 81, 90, 91, 82, 83, 84, 85, 86, 87, 88, 89]), (20, [5, 6, 7, 10, 12, 13], [60, 0, 2, 429, 92, 91]), (23, [13], [(Int.negSucc 0), (Int.negSucc 0)]), (24, [0, 5], []), (24, [1, 6], []), (24, [2, 7], []), (24, [3, 8], [])])]
def t_Mo_augment_ct : ct_L := [(0, 547, e_Mo_min)]
set_option maxRecDepth 100000 in
theorem c_Mo_augment {l : Launch} {D : va_G} {kA : Nat → ClassId} (h_Mo_min : ct_ok PRD l D kA GG y_Mo_min z_Mo_min e_Mo_min) : ct_ok PRD l D kA GG y_Mo_augment z_Mo_augment e_Mo_augment := chk_all_ok (FT := [(198, 13, 90), (201, 13, 91), (204, 13, 92)]) (PT := []) (CT := t_Mo_augment_ct) (KT := [(1, 546, .int (1000000), (0, 1000000, 1000000, []))]) (NT := []) (AN := n_Mo_augment_an) (OT := [o_Mo_augment_0, o_Mo_augment_1, o_Mo_augment_2, o_Mo_augment_3, o_Mo_augment_4, o_Mo_augment_5, o_Mo_augment_6, o_Mo_augment_7, o_Mo_augment_8, o_Mo_augment_9, o_Mo_augment_10, o_Mo_augment_11, o_Mo_augment_12, o_Mo_augment_13, o_Mo_augment_14, o_Mo_augment_15, o_Mo_augment_16, o_Mo_augment_17, o_Mo_augment_18, o_Mo_augment_19, o_Mo_augment_20, o_Mo_augment_21, o_Mo_augment_22, o_Mo_augment_23, o_Mo_augment_24, o_Mo_augment_25, o_Mo_augment_26, o_Mo_augment_27, o_Mo_augment_28, o_Mo_augment_29, o_Mo_augment_30]) 5 624 (List.forall_mem_cons.mpr ⟨oo_Mo_augment_0, List.forall_mem_cons.mpr ⟨oo_Mo_augment_1, List.forall_mem_cons.mpr ⟨oo_Mo_augment_2, List.forall_mem_cons.mpr ⟨oo_Mo_augment_3, List.forall_mem_cons.mpr ⟨oo_Mo_augment_4, List.forall_mem_cons.mpr ⟨oo_Mo_augment_5, List.forall_mem_cons.mpr ⟨oo_Mo_augment_6, List.forall_mem_cons.mpr ⟨oo_Mo_augment_7, List.forall_mem_cons.mpr ⟨oo_Mo_augment_8, List.forall_mem_cons.mpr ⟨oo_Mo_augment_9, List.forall_mem_cons.mpr ⟨oo_Mo_augment_10, List.forall_mem_cons.mpr ⟨oo_Mo_augment_11, List.forall_mem_cons.mpr ⟨oo_Mo_augment_12, List.forall_mem_cons.mpr ⟨oo_Mo_augment_13, List.forall_mem_cons.mpr ⟨oo_Mo_augment_14, List.forall_mem_cons.mpr ⟨oo_Mo_augment_15, List.forall_mem_cons.mpr ⟨oo_Mo_augment_16, List.forall_mem_cons.mpr ⟨oo_Mo_augment_17, List.forall_mem_cons.mpr ⟨oo_Mo_augment_18, List.forall_mem_cons.mpr ⟨oo_Mo_augment_19, List.forall_mem_cons.mpr ⟨oo_Mo_augment_20, List.forall_mem_cons.mpr ⟨oo_Mo_augment_21, List.forall_mem_cons.mpr ⟨oo_Mo_augment_22, List.forall_mem_cons.mpr ⟨oo_Mo_augment_23, List.forall_mem_cons.mpr ⟨oo_Mo_augment_24, List.forall_mem_cons.mpr ⟨oo_Mo_augment_25, List.forall_mem_cons.mpr ⟨oo_Mo_augment_26, List.forall_mem_cons.mpr ⟨oo_Mo_augment_27, List.forall_mem_cons.mpr ⟨oo_Mo_augment_28, List.forall_mem_cons.mpr ⟨oo_Mo_augment_29, List.forall_mem_cons.mpr ⟨oo_Mo_augment_30, List.forall_mem_nil _⟩⟩⟩⟩⟩⟩⟩⟩⟩⟩⟩⟩⟩⟩⟩⟩⟩⟩⟩⟩⟩⟩⟩⟩⟩⟩⟩⟩⟩⟩⟩) (by decide +kernel) ⟨List.forall_mem_cons.mpr ⟨gf_Mo_198, List.forall_mem_cons.mpr ⟨gf_Mo_201, List.forall_mem_cons.mpr ⟨gf_Mo_204, List.forall_mem_nil _⟩⟩⟩, List.forall_mem_nil _, List.forall_mem_cons.mpr ⟨cl_static (y := y_Mo_min) h_Mo_min wm_3174 wm_9 wm_3172 wm_3173 ⟨by decide, by decide, by decide +kernel⟩ (by decide), List.forall_mem_nil _⟩, List.forall_mem_cons.mpr ⟨kx_Mo_1_546, List.forall_mem_nil _⟩, List.forall_mem_nil _, GG_pl⟩ (by decide +kernel)

set_option maxHeartbeats 4000000 in
theorem vc_Mo_byMeans_0_0 (x1 : Int) (x4 : Int) (layerSize_0 : Int → Int) (k1 : 0 ≤ x1 ∧ x1 ≤ 75) (k4 : 0 ≤ x4 ∧ x4 ≤ 76) (h0 : x4 = layerSize_0 (x1)) : x4 = layerSize_0 (x1) := by
  first
    | omega
    | exact lsa_la (p := x11) ‹LSA _ _ _ _ _ _ _ _ _ _› (by omega) (by omega) (by assumption)
    | exact lsa_lb (p := x11) ‹LSA _ _ _ _ _ _ _ _ _ _› (by omega) (by omega) (by assumption)
    | (have h := lsb_sz (l := x1) (n := x4) ‹LSB _ _ _ _ _› (by omega) (by omega) (by assumption); omega)
    | (rw [← (by omega : x11 = 76 * x4 + x7)]; assumption)
set_option maxHeartbeats 4000000 in
theorem vc_Mo_byMeans_0_1 (x1 : Int) (x4 : Int) (layerSize_0 : Int → Int) (itemLayer_0 : Int → Int) (items_0 : Int) (layerMany_0 : Int) (layerItem_0 : Int → Int) (k1 : 0 ≤ x1 ∧ x1 ≤ 75) (k4 : 0 ≤ x4 ∧ x4 ≤ 76) (h0 : x4 = layerSize_0 (x1)) (f3 : LSB (items_0) (layerMany_0) (itemLayer_0) (layerSize_0) (layerItem_0)) (f4 : (0 ≤ x1) ∧ ((x1 + 1) ≤ layerMany_0)) (kz_0_100 : 0 ≤ items_0 ∧ items_0 ≤ 76) (kz_0_101 : 0 ≤ layerMany_0 ∧ layerMany_0 ≤ 76) : x4 ≤ 72 := by
  first
    | omega
    | exact lsa_la (p := x11) ‹LSA _ _ _ _ _ _ _ _ _ _› (by omega) (by omega) (by assumption)
    | exact lsa_lb (p := x11) ‹LSA _ _ _ _ _ _ _ _ _ _› (by omega) (by omega) (by assumption)
    | (have h := lsb_sz (l := x1) (n := x4) ‹LSB _ _ _ _ _› (by omega) (by omega) (by assumption); omega)
    | (rw [← (by omega : x11 = 76 * x4 + x7)]; assumption)
set_option maxHeartbeats 4000000 in
theorem vc_Mo_byMeans_0_2 (x1 : Int) (x5 : Int) (layerItem_0 : Int → Int) (row_0 : Int → Int) (k1 : 0 ≤ x1 ∧ x1 ≤ 75) (k5 : 0 ≤ x5 ∧ x5 ≤ 0) : BM1 (layerItem_0) (row_0) (x1) (x5) := by
  first
    | (intro j a b; exfalso; omega)
    | exact bm1_next ‹BM1 _ _ _ _› (by assumption) (by assumption) (by assumption)
def o_Mo_byMeans_0 : or_T := (10, 6, [(0, (2, 0, 0, [165])), (1, (0, 0, 75, [])), (4, (0, 0, 76, [])), (5, (0, 0, 0, []))], [(10, [4, 3, 1], []), (9, [3, 0], [105]), (20, [0], [60, 2, 3, 448, 100, 101, 102, 105, 106]), (20, [1, 0], [50, 1, 0, 1101, 2, 6, 0, 2, 0, 0, 1, 0, 0, 6, 4, 2, 1, 0, 0, 1, 2, 1, 101])], [], [], [(20, [4, 0, 1], [50, 0, 1, 1105, 1, 2, 1, 0, 3, 1, 105, 1, 2]), (20, [4], [50, 0, 0, 0, 2, 1, 0, 0, 72]), (20, [0, 1, 5], [60, 0, 2, 451, 106, 117]), (24, [0, 0], [])], [], [])
theorem oo_Mo_byMeans_0 {kA : Nat → ClassId} : or_ok PRD kA GG o_Mo_byMeans_0 := by
  refine or_mk fun A ta ws vs hD hth hl => ?_
  intro t0 r0 t1 k1 t4 k4 t5 k5 f0 f1 f3 f4
  replace f0 := shm_106 f0
  replace f1 := shm_607 f1
  have ad_3 : v_ad (n_v vs 3) = w_ar ws (n_v vs 0) 105 := congrArg v_ad f1
  simp only [ad_3] at f0
  have h0 : v_iv (n_v vs 4) = w_ei ws (w_ar ws (n_v vs 0) 105) (v_iv (n_v vs 1)) := f0
  have kz_0_100 := fdq_161 hD hth r0
  have kz_0_101 := fdq_124 hD hth r0
  have nf0 : fc_1 PRD (20, [4, 0, 1], [50, 0, 1, 1105, 1, 2, 1, 0, 3, 1, 105, 1, 2]) ws (vs) := ⟨nf_in hl rfl, sgq_711 (vc_Mo_byMeans_0_0 (v_iv (n_v vs 1)) (v_iv (n_v vs 4)) (w_ei ws (w_ar ws (n_v vs 0) 105)) k1 k4 h0)⟩
  have nf1 : fc_1 PRD (20, [4], [50, 0, 0, 0, 2, 1, 0, 0, 72]) ws (vs) := ⟨nf_in hl rfl, sgq_938 (vc_Mo_byMeans_0_1 (v_iv (n_v vs 1)) (v_iv (n_v vs 4)) (w_ei ws (w_ar ws (n_v vs 0) 105)) (w_ei ws (w_ar ws (n_v vs 0) 102)) (w_fi ws (n_v vs 0) 100) (w_fi ws (n_v vs 0) 101) (w_ei ws (w_ar ws (n_v vs 0) 106)) k1 k4 h0 (shm_662 f3) (shm_708 f4) kz_0_100 kz_0_101)⟩
  have nf2 : fc_1 PRD (20, [0, 1, 5], [60, 0, 2, 451, 106, 117]) ws (vs) := ⟨nf_in hl rfl, sgq_939 (vc_Mo_byMeans_0_2 (v_iv (n_v vs 1)) (v_iv (n_v vs 5)) (w_ei ws (w_ar ws (n_v vs 0) 106)) (w_ei ws (w_ar ws (n_v vs 0) 117)) k1 k5)⟩
  have nf3 : fc_1 PRD (24, [0, 0], []) ws (vs) := by
    refine ⟨nf_in hl rfl, sgq_1 ?_⟩
    · show n_v vs 0 = n_v vs 0
      first | rfl | simp only [true_and]
  refine ⟨(fun _ h => (by cases h)), [], trivial, ?_, (fun _ h => (by cases h))⟩
  rw [List.append_nil]
  exact List.forall_mem_cons.mpr ⟨⟨show (20 : Nat) < 100 from by decide, nf0⟩, List.forall_mem_cons.mpr ⟨⟨show (20 : Nat) < 100 from by decide, nf1⟩, List.forall_mem_cons.mpr ⟨⟨show (20 : Nat) < 100 from by decide, nf2⟩, List.forall_mem_cons.mpr ⟨⟨show (24 : Nat) < 100 from by decide, nf3⟩, (fun _ h => (by cases h))⟩⟩⟩⟩
set_option maxHeartbeats 4000000 in
theorem vc_Mo_byMeans_1_0 (x4 : Int) (x6 : Int) (x7 : Int) (itemLayer_0 : Int → Int) (items_0 : Int) (layerMany_0 : Int) (layerSize_0 : Int → Int) (layerItem_0 : Int → Int) (row_0 : Int → Int) (k4 : 0 ≤ x4 ∧ x4 ≤ 75) (k6 : 0 ≤ x6 ∧ x6 ≤ 76) (k7 : 0 ≤ x7 ∧ x7 ≤ 76) (f0 : x6 ≤ x7) (f2 : LSB (items_0) (layerMany_0) (itemLayer_0) (layerSize_0) (layerItem_0)) (f3 : x6 = layerSize_0 (x4)) (f4 : (0 ≤ x4) ∧ ((x4 + 1) ≤ layerMany_0)) (f6 : BM1 (layerItem_0) (row_0) (x4) (x7)) (kz_0_100 : 0 ≤ items_0 ∧ items_0 ≤ 76) (kz_0_101 : 0 ≤ layerMany_0 ∧ layerMany_0 ≤ 76) : BMR (items_0) (itemLayer_0) (row_0) (x6) (x4) := by
  first
    | assumption
    | exact bmr_start ‹LSB _ _ _ _ _› ‹BM1 _ _ _ _› (by omega) (by omega) (by omega) (by omega)
def o_Mo_byMeans_1 : or_T := (180, 9, [(0, (2, 0, 0, [165])), (4, (0, 0, 75, [])), (6, (0, 0, 76, [])), (7, (0, 0, 76, []))], [(7, [7, 6], [3]), (20, [3], [60, 2, 3, 448, 100, 101, 102, 105, 106]), (20, [6, 3, 4], [50, 0, 1, 1105, 1, 2, 1, 0, 3, 1, 105, 1, 2]), (20, [4, 3], [50, 1, 0, 1101, 2, 6, 0, 2, 0, 0, 1, 0, 0, 6, 4, 2, 1, 0, 0, 1, 2, 1, 101]), (20, [3, 4, 7], [60, 0, 2, 451, 106, 117]), (24, [0, 3], [])], [], [], [(20, [3, 6, 4], [60, 1, 2, 452, 100, 102, 117])], [], [])
theorem oo_Mo_byMeans_1 {kA : Nat → ClassId} : or_ok PRD kA GG o_Mo_byMeans_1 := by
  refine or_mk fun A ta ws vs hD hth hl => ?_
  intro t0 r0 t4 k4 t6 k6 t7 k7 f0 f2 f3 f4 f6 f7
  replace f0 := shm_2 f0
  replace f2 := shm_662 f2
  replace f3 := shm_711 f3
  replace f4 := shm_708 f4
  replace f6 := shm_939 f6
  replace f7 := shm_5 f7
  have q3 : n_v vs 3 = n_v vs 0 := f7.symm
  simp only [q3] at f2 f3 f4 f6
  have kz_0_100 := fdq_161 hD hth r0
  have kz_0_101 := fdq_124 hD hth r0
  have nf0 : fc_1 PRD (20, [3, 6, 4], [60, 1, 2, 452, 100, 102, 117]) ws (vs) := by
    refine ⟨nf_in hl rfl, sgq_940 ?_⟩
    · show BMR (w_fi ws (n_v vs 3) 100) (w_ei ws (w_ar ws (n_v vs 3) 102)) (w_ei ws (w_ar ws (n_v vs 3) 117)) (v_iv (n_v vs 6)) (v_iv (n_v vs 4))
      rw [q3]
      exact vc_Mo_byMeans_1_0 (v_iv (n_v vs 4)) (v_iv (n_v vs 6)) (v_iv (n_v vs 7)) (w_ei ws (w_ar ws (n_v vs 0) 102)) (w_fi ws (n_v vs 0) 100) (w_fi ws (n_v vs 0) 101) (w_ei ws (w_ar ws (n_v vs 0) 105)) (w_ei ws (w_ar ws (n_v vs 0) 106)) (w_ei ws (w_ar ws (n_v vs 0) 117)) k4 k6 k7 f0 f2 f3 f4 f6 kz_0_100 kz_0_101
  refine ⟨(fun _ h => (by cases h)), [], trivial, ?_, (fun _ h => (by cases h))⟩
  rw [List.append_nil]
  exact List.forall_mem_cons.mpr ⟨⟨show (20 : Nat) < 100 from by decide, nf0⟩, (fun _ h => (by cases h))⟩
set_option maxHeartbeats 4000000 in
theorem vc_Mo_byMeans_2_0 (x4 : Int) (x6 : Int) (x7 : Int) (x10 : Int) (x11 : Int) (layerSize_0 : Int → Int) (k4 : 0 ≤ x4 ∧ x4 ≤ 75) (k6 : 1 ≤ x6 ∧ x6 ≤ 76) (k7 : 0 ≤ x7 ∧ x7 ≤ 75) (k10 : 0 ≤ x10 ∧ x10 ≤ 5700) (k11 : 0 ≤ x11 ∧ x11 ≤ 5775) (d4 : x6 + (-4294967296) ≤ x7 ∧ x7 ≤ x6 + (-1)) (f1 : x11 = x10 + x7) (f2 : x10 = 76 * x4) (f7 : x6 = layerSize_0 (x4)) : (x7 + 1) ≤ x6 := by
  first
    | omega
    | exact lsa_la (p := x11) ‹LSA _ _ _ _ _ _ _ _ _ _› (by omega) (by omega) (by assumption)
    | exact lsa_lb (p := x11) ‹LSA _ _ _ _ _ _ _ _ _ _› (by omega) (by omega) (by assumption)
    | (have h := lsb_sz (l := x1) (n := x4) ‹LSB _ _ _ _ _› (by omega) (by omega) (by assumption); omega)
    | (rw [← (by omega : x11 = 76 * x4 + x7)]; assumption)
set_option maxHeartbeats 4000000 in
theorem vc_Mo_byMeans_2_1 (x4 : Int) (x7 : Int) (x10 : Int) (x11 : Int) (x12 : Int) (layerItem_0 : Int → Int) (k4 : 0 ≤ x4 ∧ x4 ≤ 75) (k7 : 0 ≤ x7 ∧ x7 ≤ 75) (k10 : 0 ≤ x10 ∧ x10 ≤ 5700) (k11 : 0 ≤ x11 ∧ x11 ≤ 5775) (k12 : 0 ≤ x12 ∧ x12 ≤ 75) (h0 : x12 = layerItem_0 (x11)) (f1 : x11 = x10 + x7) (f2 : x10 = 76 * x4) : x12 = layerItem_0 (((76 * x4) + x7)) := by
  first
    | omega
    | exact lsa_la (p := x11) ‹LSA _ _ _ _ _ _ _ _ _ _› (by omega) (by omega) (by assumption)
    | exact lsa_lb (p := x11) ‹LSA _ _ _ _ _ _ _ _ _ _› (by omega) (by omega) (by assumption)
    | (have h := lsb_sz (l := x1) (n := x4) ‹LSB _ _ _ _ _› (by omega) (by omega) (by assumption); omega)
    | (rw [← (by omega : x11 = 76 * x4 + x7)]; assumption)
def o_Mo_byMeans_2 : or_T := (39, 16, [(4, (0, 0, 75, [])), (6, (0, 1, 76, [])), (7, (0, 0, 75, [])), (9, (0, 76, 76, [])), (10, (0, 0, 5700, [])), (11, (0, 0, 5775, [])), (12, (0, 0, 75, []))], [(10, [12, 8, 11], []), (1, [11, 10, 7], []), (3, [10, 9, 4], []), (9, [8, 3], [106]), (20, [6, 3, 4], [50, 0, 1, 1105, 1, 2, 1, 0, 3, 1, 105, 1, 2]), (24, [0, 3], [])], [], [], [(20, [7, 6], [50, 0, 0, 0, 6, 4, 2, 1, 0, 0, 1, 1, 1]), (20, [12, 3, 4, 7], [50, 0, 1, 1106, 1, 2, 1, 0, 3, 1, 106, 4, 6, 6, 2, 0, 76, 1, 2, 1, 3])], [], [(7, 6, -4294967296, -1)])
theorem oo_Mo_byMeans_2 {kA : Nat → ClassId} : or_ok PRD kA GG o_Mo_byMeans_2 := by
  refine or_mk fun A ta ws vs hD hth hl => ?_
  intro t4 k4 t6 k6 t7 k7 t9 k9 t10 k10 t11 k11 t12 k12 d4 f0 f1 f2 f3 f7 f11
  replace f0 := shm_106 f0
  replace f1 := shm_12 f1
  replace f2 := shm_38 f2
  rw [show v_iv (n_v vs 9) = 76 from by omega] at f2
  replace f3 := shm_666 f3
  replace f7 := shm_711 f7
  replace f11 := shm_5 f11
  have q3 : n_v vs 3 = n_v vs 0 := f11.symm
  simp only [q3] at f3 f7
  have ad_8 : v_ad (n_v vs 8) = w_ar ws (n_v vs 0) 106 := congrArg v_ad f3
  simp only [ad_8] at f0
  have h0 : v_iv (n_v vs 12) = w_ei ws (w_ar ws (n_v vs 0) 106) (v_iv (n_v vs 11)) := f0
  have nf0 : fc_1 PRD (20, [7, 6], [50, 0, 0, 0, 6, 4, 2, 1, 0, 0, 1, 1, 1]) ws (vs) := ⟨nf_in hl rfl, sgq_409 (vc_Mo_byMeans_2_0 (v_iv (n_v vs 4)) (v_iv (n_v vs 6)) (v_iv (n_v vs 7)) (v_iv (n_v vs 10)) (v_iv (n_v vs 11)) (w_ei ws (w_ar ws (n_v vs 0) 105)) k4 k6 k7 k10 k11 d4 f1 f2 f7)⟩
  have nf1 : fc_1 PRD (20, [12, 3, 4, 7], [50, 0, 1, 1106, 1, 2, 1, 0, 3, 1, 106, 4, 6, 6, 2, 0, 76, 1, 2, 1, 3]) ws (vs) := by
    refine ⟨nf_in hl rfl, sgq_941 ?_⟩
    · show v_iv (n_v vs 12) = w_ei ws (w_ar ws (n_v vs 3) 106) (((76 * v_iv (n_v vs 4)) + v_iv (n_v vs 7)))
      rw [q3]
      exact vc_Mo_byMeans_2_1 (v_iv (n_v vs 4)) (v_iv (n_v vs 7)) (v_iv (n_v vs 10)) (v_iv (n_v vs 11)) (v_iv (n_v vs 12)) (w_ei ws (w_ar ws (n_v vs 0) 106)) k4 k7 k10 k11 k12 h0 f1 f2
  refine ⟨(fun _ h => (by cases h)), [], trivial, ?_, (fun _ h => (by cases h))⟩
  rw [List.append_nil]
  exact List.forall_mem_cons.mpr ⟨⟨show (20 : Nat) < 100 from by decide, nf0⟩, List.forall_mem_cons.mpr ⟨⟨show (20 : Nat) < 100 from by decide, nf1⟩, (fun _ h => (by cases h))⟩⟩
set_option maxHeartbeats 4000000 in
theorem vc_Mo_byMeans_3_0 (x4 : Int) (x7 : Int) (x8 : Int) (x18 : Int) (all_0 : Int → Int) (turned_0 : Int → Int) (itemLayer_0 : Int → Int) (firstJoint_0 : Int → Int) (lineA_0 : Int → Int) (lineB_0 : Int → Int) (r_0 : Int) (items_0 : Int) (layerMany_0 : Int) (lines_0 : Int) (layerSize_0 : Int → Int) (layerItem_0 : Int → Int) (all_1 : Int → Int) (turned_1 : Int → Int) (itemLayer_1 : Int → Int) (firstJoint_1 : Int → Int) (lineA_1 : Int → Int) (lineB_1 : Int → Int) (r_1 : Int) (items_1 : Int) (layerMany_1 : Int) (lines_1 : Int) (layerSize_1 : Int → Int) (layerItem_1 : Int → Int) (row_1 : Int → Int) (all_2 : Int → Int) (turned_2 : Int → Int) (itemLayer_2 : Int → Int) (firstJoint_2 : Int → Int) (lineA_2 : Int → Int) (lineB_2 : Int → Int) (r_2 : Int) (items_2 : Int) (layerMany_2 : Int) (lines_2 : Int) (layerSize_2 : Int → Int) (layerItem_2 : Int → Int) (row_2 : Int → Int) (lines_3 : Int) (all_3 : Int → Int) (turned_3 : Int → Int) (itemLayer_3 : Int → Int) (firstJoint_3 : Int → Int) (lineA_3 : Int → Int) (lineB_3 : Int → Int) (r_3 : Int) (items_3 : Int) (layerMany_3 : Int) (layerSize_3 : Int → Int) (layerItem_3 : Int → Int) (row_3 : Int → Int) (row_0 : Int → Int) (meanA_0 : Int → Int) (meanA_1 : Int → Int) (meanA_2 : Int → Int) (meanB_0 : Int → Int) (meanB_1 : Int → Int) (meanB_2 : Int → Int) (meanB_3 : Int → Int) (k4 : 0 ≤ x4 ∧ x4 ≤ 75) (k7 : 0 ≤ x7 ∧ x7 ≤ 75) (k8 : 0 ≤ x8 ∧ x8 ≤ 75) (k18 : 1 ≤ x18 ∧ x18 ≤ 76) (f0 : x18 = x7 + 1) (f38 : BM1 (layerItem_3) (row_3) (x4) (x7)) (f40 : x8 = layerItem_3 (((76 * x4) + x7))) (fe_0_5_1 : r_0 = r_1) (fe_0_100_1 : items_0 = items_1) (fe_0_101_1 : layerMany_0 = layerMany_1) (fe_0_107_1 : lines_0 = lines_1) (fe_0_5_2 : r_1 = r_2) (fe_0_100_2 : items_1 = items_2) (fe_0_101_2 : layerMany_1 = layerMany_2) (fe_0_107_2 : lines_1 = lines_2) (fe_0_5_3 : r_2 = r_3) (fe_0_100_3 : items_2 = items_3) (fe_0_101_3 : layerMany_2 = layerMany_3) (fe_0_107_3 : lines_2 = lines_3) (hE_0_2_1 : ∀ j : Int, all_0 j = all_1 j) (hE_0_2_2 : ∀ j : Int, all_1 j = all_2 j) (hE_0_2_3 : ∀ j : Int, all_2 j = all_3 j) (hE_0_95_1 : ∀ j : Int, turned_0 j = turned_1 j) (hE_0_95_2 : ∀ j : Int, turned_1 j = turned_2 j) (hE_0_95_3 : ∀ j : Int, turned_2 j = turned_3 j) (hE_0_102_1 : ∀ j : Int, itemLayer_0 j = itemLayer_1 j) (hE_0_102_2 : ∀ j : Int, itemLayer_1 j = itemLayer_2 j) (hE_0_102_3 : ∀ j : Int, itemLayer_2 j = itemLayer_3 j) (hE_0_104_1 : ∀ j : Int, firstJoint_0 j = firstJoint_1 j) (hE_0_104_2 : ∀ j : Int, firstJoint_1 j = firstJoint_2 j) (hE_0_104_3 : ∀ j : Int, firstJoint_2 j = firstJoint_3 j) (hE_0_105_1 : ∀ j : Int, layerSize_0 j = layerSize_1 j) (hE_0_105_2 : ∀ j : Int, layerSize_1 j = layerSize_2 j) (hE_0_105_3 : ∀ j : Int, layerSize_2 j = layerSize_3 j) (hE_0_106_1 : ∀ j : Int, layerItem_0 j = layerItem_1 j) (hE_0_106_2 : ∀ j : Int, layerItem_1 j = layerItem_2 j) (hE_0_106_3 : ∀ j : Int, layerItem_2 j = layerItem_3 j) (hE_0_108_1 : ∀ j : Int, lineA_0 j = lineA_1 j) (hE_0_108_2 : ∀ j : Int, lineA_1 j = lineA_2 j) (hE_0_108_3 : ∀ j : Int, lineA_2 j = lineA_3 j) (hE_0_109_1 : ∀ j : Int, lineB_0 j = lineB_1 j) (hE_0_109_2 : ∀ j : Int, lineB_1 j = lineB_2 j) (hE_0_109_3 : ∀ j : Int, lineB_2 j = lineB_3 j) (hE_0_117_1 : ∀ j : Int, 0 ≤ j → (j = x7 → row_0 j = x8) ∧ (j ≠ x7 → row_0 j = row_1 j)) (hE_0_117_2 : ∀ j : Int, row_1 j = row_2 j) (hE_0_117_3 : ∀ j : Int, row_2 j = row_3 j) (hE_0_119_1 : ∀ j : Int, meanA_0 j = meanA_1 j) (hE_0_119_2 : ∀ j : Int, meanA_1 j = meanA_2 j) (hE_0_120_1 : ∀ j : Int, meanB_0 j = meanB_1 j) (hE_0_120_3 : ∀ j : Int, meanB_2 j = meanB_3 j) (kz_0_100 : 0 ≤ items_0 ∧ items_0 ≤ 76) (kz_0_101 : 0 ≤ layerMany_0 ∧ layerMany_0 ≤ 76) (kz_0_107 : 0 ≤ lines_0 ∧ lines_0 ≤ 130) : BM1 (layerItem_0) (row_0) (x4) (x18) := by
  subst fe_0_5_1
  subst fe_0_100_1
  subst fe_0_101_1
  subst fe_0_107_1
  subst fe_0_5_2
  subst fe_0_100_2
  subst fe_0_101_2
  subst fe_0_107_2
  subst fe_0_5_3
  subst fe_0_100_3
  subst fe_0_101_3
  subst fe_0_107_3
  have e_hE_0_2_1 := funext hE_0_2_1; subst e_hE_0_2_1
  have e_hE_0_2_2 := funext hE_0_2_2; subst e_hE_0_2_2
  have e_hE_0_2_3 := funext hE_0_2_3; subst e_hE_0_2_3
  have e_hE_0_95_1 := funext hE_0_95_1; subst e_hE_0_95_1
  have e_hE_0_95_2 := funext hE_0_95_2; subst e_hE_0_95_2
  have e_hE_0_95_3 := funext hE_0_95_3; subst e_hE_0_95_3
  have e_hE_0_102_1 := funext hE_0_102_1; subst e_hE_0_102_1
  have e_hE_0_102_2 := funext hE_0_102_2; subst e_hE_0_102_2
  have e_hE_0_102_3 := funext hE_0_102_3; subst e_hE_0_102_3
  have e_hE_0_104_1 := funext hE_0_104_1; subst e_hE_0_104_1
  have e_hE_0_104_2 := funext hE_0_104_2; subst e_hE_0_104_2
  have e_hE_0_104_3 := funext hE_0_104_3; subst e_hE_0_104_3
  have e_hE_0_105_1 := funext hE_0_105_1; subst e_hE_0_105_1
  have e_hE_0_105_2 := funext hE_0_105_2; subst e_hE_0_105_2
  have e_hE_0_105_3 := funext hE_0_105_3; subst e_hE_0_105_3
  have e_hE_0_106_1 := funext hE_0_106_1; subst e_hE_0_106_1
  have e_hE_0_106_2 := funext hE_0_106_2; subst e_hE_0_106_2
  have e_hE_0_106_3 := funext hE_0_106_3; subst e_hE_0_106_3
  have e_hE_0_108_1 := funext hE_0_108_1; subst e_hE_0_108_1
  have e_hE_0_108_2 := funext hE_0_108_2; subst e_hE_0_108_2
  have e_hE_0_108_3 := funext hE_0_108_3; subst e_hE_0_108_3
  have e_hE_0_109_1 := funext hE_0_109_1; subst e_hE_0_109_1
  have e_hE_0_109_2 := funext hE_0_109_2; subst e_hE_0_109_2
  have e_hE_0_109_3 := funext hE_0_109_3; subst e_hE_0_109_3
  have e_hE_0_117_2 := funext hE_0_117_2; subst e_hE_0_117_2
  have e_hE_0_117_3 := funext hE_0_117_3; subst e_hE_0_117_3
  have e_hE_0_119_1 := funext hE_0_119_1; subst e_hE_0_119_1
  have e_hE_0_119_2 := funext hE_0_119_2; subst e_hE_0_119_2
  have e_hE_0_120_1 := funext hE_0_120_1; subst e_hE_0_120_1
  have e_hE_0_120_3 := funext hE_0_120_3; subst e_hE_0_120_3
  first
    | (intro j a b; exfalso; omega)
    | exact bm1_next ‹BM1 _ _ _ _› (by assumption) (by assumption) (by assumption)
def o_Mo_byMeans_3 : or_T := (10, 19, [(0, (2, 0, 0, [165])), (4, (0, 0, 75, [])), (7, (0, 0, 75, [])), (8, (0, 0, 75, [])), (13, (2, 0, 0, [251])), (15, (2, 0, 0, [252])), (17, (2, 0, 0, [249])), (18, (0, 1, 76, []))], [(6, [18, 7], [1]), (24, [0, 3], []), (100, [17, 7, 8], []), (9, [17, 3], [117]), (100, [15, 7, 10], []), (100, [13, 7, 9], []), (20, [3, 4, 7], [60, 0, 2, 451, 106, 117]), (20, [8, 3, 4, 7], [50, 0, 1, 1106, 1, 2, 1, 0, 3, 1, 106, 4, 6, 6, 2, 0, 76, 1, 2, 1, 3])], [], [], [(20, [3, 4, 18], [60, 0, 2, 451, 106, 117])], [], [(18, 7, 1, 1), (7, 6, -4294967296, -1)])
theorem oo_Mo_byMeans_3 {kA : Nat → ClassId} : or_ok PRD kA GG o_Mo_byMeans_3 := by
  refine or_mk fun A ta ws vs hD hth hl => ?_
  intro t0 r0 t4 k4 t7 k7 t8 k8 t13 r13 t15 r15 t17 r17 t18 k18 d0 d3 f0 f8 ta1 w1 le1 s1 f10 ta2 w2 le2 s2 ta3 w3 le3 s3 f38 f40
  replace f0 := shm_4 f0
  replace f8 := shm_5 f8
  have s1 : (∀ b j, w_el ws b j = if b = v_ad (n_v vs 17) ∧ j = (v_iv (n_v vs 7)).toNat then v_iv (n_v vs 8) else w_el w1 b j) ∧ ∀ b k, w_fd ws b k = w_fd w1 b k := s1.2
  replace f10 := shm_700 f10
  have s2 : (∀ b j, w_el w1 b j = if b = v_ad (n_v vs 15) ∧ j = (v_iv (n_v vs 7)).toNat then v_iv (n_v vs 10) else w_el w2 b j) ∧ ∀ b k, w_fd w1 b k = w_fd w2 b k := s2.2
  have s3 : (∀ b j, w_el w2 b j = if b = v_ad (n_v vs 13) ∧ j = (v_iv (n_v vs 7)).toNat then v_iv (n_v vs 9) else w_el w3 b j) ∧ ∀ b k, w_fd w2 b k = w_fd w3 b k := s3.2
  replace f38 := shm_939 f38
  replace f40 := shm_941 f40
  have q3 : n_v vs 3 = n_v vs 0 := f8.symm
  simp only [q3] at f10 f38 f40
  have ar_0_2_1 : w_ar w1 (n_v vs 0) 2 = w_ar ws (n_v vs 0) 2 := congrArg v_ad (s1.2 _ _).symm
  have ar_0_2_2 : w_ar w2 (n_v vs 0) 2 = w_ar ws (n_v vs 0) 2 := by rw [← ar_0_2_1]; show v_ad (w_fd w2 _ _) = v_ad (w_fd w1 _ _); rw [s2.2]
  have ar_0_2_3 : w_ar w3 (n_v vs 0) 2 = w_ar ws (n_v vs 0) 2 := by rw [← ar_0_2_2]; show v_ad (w_fd w3 _ _) = v_ad (w_fd w2 _ _); rw [s3.2]
  have cr_0_2 := fdq_12 hD hth r0
  have ar_0_95_1 : w_ar w1 (n_v vs 0) 95 = w_ar ws (n_v vs 0) 95 := congrArg v_ad (s1.2 _ _).symm
  have ar_0_95_2 : w_ar w2 (n_v vs 0) 95 = w_ar ws (n_v vs 0) 95 := by rw [← ar_0_95_1]; show v_ad (w_fd w2 _ _) = v_ad (w_fd w1 _ _); rw [s2.2]
  have ar_0_95_3 : w_ar w3 (n_v vs 0) 95 = w_ar ws (n_v vs 0) 95 := by rw [← ar_0_95_2]; show v_ad (w_fd w3 _ _) = v_ad (w_fd w2 _ _); rw [s3.2]
  have cr_0_95 := fdq_129 hD hth r0
  have ar_0_102_1 : w_ar w1 (n_v vs 0) 102 = w_ar ws (n_v vs 0) 102 := congrArg v_ad (s1.2 _ _).symm
  have ar_0_102_2 : w_ar w2 (n_v vs 0) 102 = w_ar ws (n_v vs 0) 102 := by rw [← ar_0_102_1]; show v_ad (w_fd w2 _ _) = v_ad (w_fd w1 _ _); rw [s2.2]
  have ar_0_102_3 : w_ar w3 (n_v vs 0) 102 = w_ar ws (n_v vs 0) 102 := by rw [← ar_0_102_2]; show v_ad (w_fd w3 _ _) = v_ad (w_fd w2 _ _); rw [s3.2]
  have cr_0_102 := fdq_158 hD hth r0
  have ar_0_104_1 : w_ar w1 (n_v vs 0) 104 = w_ar ws (n_v vs 0) 104 := congrArg v_ad (s1.2 _ _).symm
  have ar_0_104_2 : w_ar w2 (n_v vs 0) 104 = w_ar ws (n_v vs 0) 104 := by rw [← ar_0_104_1]; show v_ad (w_fd w2 _ _) = v_ad (w_fd w1 _ _); rw [s2.2]
  have ar_0_104_3 : w_ar w3 (n_v vs 0) 104 = w_ar ws (n_v vs 0) 104 := by rw [← ar_0_104_2]; show v_ad (w_fd w3 _ _) = v_ad (w_fd w2 _ _); rw [s3.2]
  have cr_0_104 := fdq_169 hD hth r0
  have ar_0_105_1 : w_ar w1 (n_v vs 0) 105 = w_ar ws (n_v vs 0) 105 := congrArg v_ad (s1.2 _ _).symm
  have ar_0_105_2 : w_ar w2 (n_v vs 0) 105 = w_ar ws (n_v vs 0) 105 := by rw [← ar_0_105_1]; show v_ad (w_fd w2 _ _) = v_ad (w_fd w1 _ _); rw [s2.2]
  have ar_0_105_3 : w_ar w3 (n_v vs 0) 105 = w_ar ws (n_v vs 0) 105 := by rw [← ar_0_105_2]; show v_ad (w_fd w3 _ _) = v_ad (w_fd w2 _ _); rw [s3.2]
  have cr_0_105 := fdq_121 hD hth r0
  have ar_0_106_1 : w_ar w1 (n_v vs 0) 106 = w_ar ws (n_v vs 0) 106 := congrArg v_ad (s1.2 _ _).symm
  have ar_0_106_2 : w_ar w2 (n_v vs 0) 106 = w_ar ws (n_v vs 0) 106 := by rw [← ar_0_106_1]; show v_ad (w_fd w2 _ _) = v_ad (w_fd w1 _ _); rw [s2.2]
  have ar_0_106_3 : w_ar w3 (n_v vs 0) 106 = w_ar ws (n_v vs 0) 106 := by rw [← ar_0_106_2]; show v_ad (w_fd w3 _ _) = v_ad (w_fd w2 _ _); rw [s3.2]
  have cr_0_106 := fdq_122 hD hth r0
  have ar_0_108_1 : w_ar w1 (n_v vs 0) 108 = w_ar ws (n_v vs 0) 108 := congrArg v_ad (s1.2 _ _).symm
  have ar_0_108_2 : w_ar w2 (n_v vs 0) 108 = w_ar ws (n_v vs 0) 108 := by rw [← ar_0_108_1]; show v_ad (w_fd w2 _ _) = v_ad (w_fd w1 _ _); rw [s2.2]
  have ar_0_108_3 : w_ar w3 (n_v vs 0) 108 = w_ar ws (n_v vs 0) 108 := by rw [← ar_0_108_2]; show v_ad (w_fd w3 _ _) = v_ad (w_fd w2 _ _); rw [s3.2]
  have cr_0_108 := fdq_159 hD hth r0
  have ar_0_109_1 : w_ar w1 (n_v vs 0) 109 = w_ar ws (n_v vs 0) 109 := congrArg v_ad (s1.2 _ _).symm
  have ar_0_109_2 : w_ar w2 (n_v vs 0) 109 = w_ar ws (n_v vs 0) 109 := by rw [← ar_0_109_1]; show v_ad (w_fd w2 _ _) = v_ad (w_fd w1 _ _); rw [s2.2]
  have ar_0_109_3 : w_ar w3 (n_v vs 0) 109 = w_ar ws (n_v vs 0) 109 := by rw [← ar_0_109_2]; show v_ad (w_fd w3 _ _) = v_ad (w_fd w2 _ _); rw [s3.2]
  have cr_0_109 := fdq_160 hD hth r0
  have ar_0_117_1 : w_ar w1 (n_v vs 0) 117 = w_ar ws (n_v vs 0) 117 := congrArg v_ad (s1.2 _ _).symm
  have ar_0_117_2 : w_ar w2 (n_v vs 0) 117 = w_ar ws (n_v vs 0) 117 := by rw [← ar_0_117_1]; show v_ad (w_fd w2 _ _) = v_ad (w_fd w1 _ _); rw [s2.2]
  have ar_0_117_3 : w_ar w3 (n_v vs 0) 117 = w_ar ws (n_v vs 0) 117 := by rw [← ar_0_117_2]; show v_ad (w_fd w3 _ _) = v_ad (w_fd w2 _ _); rw [s3.2]
  have cr_0_117 := fdq_180 hD hth r0
  have cr_0_119 := fdq_229 hD hth r0
  have cr_0_120 := fdq_230 hD hth r0
  have ad_17 : v_ad (n_v vs 17) = w_ar ws (n_v vs 0) 117 := (congrArg v_ad f10).trans ar_0_117_1
  simp only [ar_0_2_3, ar_0_95_3, ar_0_102_3, ar_0_104_3, ar_0_108_3, ar_0_109_3, ar_0_105_3, ar_0_106_3, ar_0_117_3] at f38 f40
  have fe_0_5_1 : w_fi ws (n_v vs 0) 5 = w_fi w1 (n_v vs 0) 5 := congrArg v_iv (s1.2 _ _)
  have fe_0_100_1 : w_fi ws (n_v vs 0) 100 = w_fi w1 (n_v vs 0) 100 := congrArg v_iv (s1.2 _ _)
  have fe_0_101_1 : w_fi ws (n_v vs 0) 101 = w_fi w1 (n_v vs 0) 101 := congrArg v_iv (s1.2 _ _)
  have fe_0_107_1 : w_fi ws (n_v vs 0) 107 = w_fi w1 (n_v vs 0) 107 := congrArg v_iv (s1.2 _ _)
  have fe_0_5_2 : w_fi w1 (n_v vs 0) 5 = w_fi w2 (n_v vs 0) 5 := congrArg v_iv (s2.2 _ _)
  have fe_0_100_2 : w_fi w1 (n_v vs 0) 100 = w_fi w2 (n_v vs 0) 100 := congrArg v_iv (s2.2 _ _)
  have fe_0_101_2 : w_fi w1 (n_v vs 0) 101 = w_fi w2 (n_v vs 0) 101 := congrArg v_iv (s2.2 _ _)
  have fe_0_107_2 : w_fi w1 (n_v vs 0) 107 = w_fi w2 (n_v vs 0) 107 := congrArg v_iv (s2.2 _ _)
  have fe_0_5_3 : w_fi w2 (n_v vs 0) 5 = w_fi w3 (n_v vs 0) 5 := congrArg v_iv (s3.2 _ _)
  have fe_0_100_3 : w_fi w2 (n_v vs 0) 100 = w_fi w3 (n_v vs 0) 100 := congrArg v_iv (s3.2 _ _)
  have fe_0_101_3 : w_fi w2 (n_v vs 0) 101 = w_fi w3 (n_v vs 0) 101 := congrArg v_iv (s3.2 _ _)
  have fe_0_107_3 : w_fi w2 (n_v vs 0) 107 = w_fi w3 (n_v vs 0) 107 := congrArg v_iv (s3.2 _ _)
  have hE_0_2_1 : ∀ j : Int, w_ei ws (w_ar ws (n_v vs 0) 2) j = w_ei w1 (w_ar ws (n_v vs 0) 2) j := el_kp s1.1 r17 cr_0_2 (by decide)
  have hE_0_2_2 : ∀ j : Int, w_ei w1 (w_ar ws (n_v vs 0) 2) j = w_ei w2 (w_ar ws (n_v vs 0) 2) j := el_kp s2.1 r15 cr_0_2 (by decide)
  have hE_0_2_3 : ∀ j : Int, w_ei w2 (w_ar ws (n_v vs 0) 2) j = w_ei w3 (w_ar ws (n_v vs 0) 2) j := el_kp s3.1 r13 cr_0_2 (by decide)
  have hE_0_95_1 : ∀ j : Int, w_ei ws (w_ar ws (n_v vs 0) 95) j = w_ei w1 (w_ar ws (n_v vs 0) 95) j := el_kp s1.1 r17 cr_0_95 (by decide)
  have hE_0_95_2 : ∀ j : Int, w_ei w1 (w_ar ws (n_v vs 0) 95) j = w_ei w2 (w_ar ws (n_v vs 0) 95) j := el_kp s2.1 r15 cr_0_95 (by decide)
  have hE_0_95_3 : ∀ j : Int, w_ei w2 (w_ar ws (n_v vs 0) 95) j = w_ei w3 (w_ar ws (n_v vs 0) 95) j := el_kp s3.1 r13 cr_0_95 (by decide)
  have hE_0_102_1 : ∀ j : Int, w_ei ws (w_ar ws (n_v vs 0) 102) j = w_ei w1 (w_ar ws (n_v vs 0) 102) j := el_kp s1.1 r17 cr_0_102 (by decide)
  have hE_0_102_2 : ∀ j : Int, w_ei w1 (w_ar ws (n_v vs 0) 102) j = w_ei w2 (w_ar ws (n_v vs 0) 102) j := el_kp s2.1 r15 cr_0_102 (by decide)
  have hE_0_102_3 : ∀ j : Int, w_ei w2 (w_ar ws (n_v vs 0) 102) j = w_ei w3 (w_ar ws (n_v vs 0) 102) j := el_kp s3.1 r13 cr_0_102 (by decide)
  have hE_0_104_1 : ∀ j : Int, w_ei ws (w_ar ws (n_v vs 0) 104) j = w_ei w1 (w_ar ws (n_v vs 0) 104) j := el_kp s1.1 r17 cr_0_104 (by decide)
  have hE_0_104_2 : ∀ j : Int, w_ei w1 (w_ar ws (n_v vs 0) 104) j = w_ei w2 (w_ar ws (n_v vs 0) 104) j := el_kp s2.1 r15 cr_0_104 (by decide)
  have hE_0_104_3 : ∀ j : Int, w_ei w2 (w_ar ws (n_v vs 0) 104) j = w_ei w3 (w_ar ws (n_v vs 0) 104) j := el_kp s3.1 r13 cr_0_104 (by decide)
  have hE_0_105_1 : ∀ j : Int, w_ei ws (w_ar ws (n_v vs 0) 105) j = w_ei w1 (w_ar ws (n_v vs 0) 105) j := el_kp s1.1 r17 cr_0_105 (by decide)
  have hE_0_105_2 : ∀ j : Int, w_ei w1 (w_ar ws (n_v vs 0) 105) j = w_ei w2 (w_ar ws (n_v vs 0) 105) j := el_kp s2.1 r15 cr_0_105 (by decide)
  have hE_0_105_3 : ∀ j : Int, w_ei w2 (w_ar ws (n_v vs 0) 105) j = w_ei w3 (w_ar ws (n_v vs 0) 105) j := el_kp s3.1 r13 cr_0_105 (by decide)
  have hE_0_106_1 : ∀ j : Int, w_ei ws (w_ar ws (n_v vs 0) 106) j = w_ei w1 (w_ar ws (n_v vs 0) 106) j := el_kp s1.1 r17 cr_0_106 (by decide)
  have hE_0_106_2 : ∀ j : Int, w_ei w1 (w_ar ws (n_v vs 0) 106) j = w_ei w2 (w_ar ws (n_v vs 0) 106) j := el_kp s2.1 r15 cr_0_106 (by decide)
  have hE_0_106_3 : ∀ j : Int, w_ei w2 (w_ar ws (n_v vs 0) 106) j = w_ei w3 (w_ar ws (n_v vs 0) 106) j := el_kp s3.1 r13 cr_0_106 (by decide)
  have hE_0_108_1 : ∀ j : Int, w_ei ws (w_ar ws (n_v vs 0) 108) j = w_ei w1 (w_ar ws (n_v vs 0) 108) j := el_kp s1.1 r17 cr_0_108 (by decide)
  have hE_0_108_2 : ∀ j : Int, w_ei w1 (w_ar ws (n_v vs 0) 108) j = w_ei w2 (w_ar ws (n_v vs 0) 108) j := el_kp s2.1 r15 cr_0_108 (by decide)
  have hE_0_108_3 : ∀ j : Int, w_ei w2 (w_ar ws (n_v vs 0) 108) j = w_ei w3 (w_ar ws (n_v vs 0) 108) j := el_kp s3.1 r13 cr_0_108 (by decide)
  have hE_0_109_1 : ∀ j : Int, w_ei ws (w_ar ws (n_v vs 0) 109) j = w_ei w1 (w_ar ws (n_v vs 0) 109) j := el_kp s1.1 r17 cr_0_109 (by decide)
  have hE_0_109_2 : ∀ j : Int, w_ei w1 (w_ar ws (n_v vs 0) 109) j = w_ei w2 (w_ar ws (n_v vs 0) 109) j := el_kp s2.1 r15 cr_0_109 (by decide)
  have hE_0_109_3 : ∀ j : Int, w_ei w2 (w_ar ws (n_v vs 0) 109) j = w_ei w3 (w_ar ws (n_v vs 0) 109) j := el_kp s3.1 r13 cr_0_109 (by decide)
  have hE_0_117_1 : ∀ j : Int, 0 ≤ j → (j = v_iv (n_v vs 7) → w_ei ws (w_ar ws (n_v vs 0) 117) j = v_iv (n_v vs 8)) ∧ (j ≠ v_iv (n_v vs 7) → w_ei ws (w_ar ws (n_v vs 0) 117) j = w_ei w1 (w_ar ws (n_v vs 0) 117) j) := fun j hj => ⟨fun h => by unfold w_ei; rw [s1.1, if_pos ⟨ad_17.symm, by rw [h]⟩], fun h => by unfold w_ei; rw [s1.1, if_neg (fun e => h (by have := e.2; omega))]⟩
  have hE_0_117_2 : ∀ j : Int, w_ei w1 (w_ar ws (n_v vs 0) 117) j = w_ei w2 (w_ar ws (n_v vs 0) 117) j := el_kp s2.1 r15 cr_0_117 (by decide)
  have hE_0_117_3 : ∀ j : Int, w_ei w2 (w_ar ws (n_v vs 0) 117) j = w_ei w3 (w_ar ws (n_v vs 0) 117) j := el_kp s3.1 r13 cr_0_117 (by decide)
  have hE_0_119_1 : ∀ j : Int, w_ei ws (w_ar ws (n_v vs 0) 119) j = w_ei w1 (w_ar ws (n_v vs 0) 119) j := el_kp s1.1 r17 cr_0_119 (by decide)
  have hE_0_119_2 : ∀ j : Int, w_ei w1 (w_ar ws (n_v vs 0) 119) j = w_ei w2 (w_ar ws (n_v vs 0) 119) j := el_kp s2.1 r15 cr_0_119 (by decide)
  have hE_0_120_1 : ∀ j : Int, w_ei ws (w_ar ws (n_v vs 0) 120) j = w_ei w1 (w_ar ws (n_v vs 0) 120) j := el_kp s1.1 r17 cr_0_120 (by decide)
  have hE_0_120_3 : ∀ j : Int, w_ei w2 (w_ar ws (n_v vs 0) 120) j = w_ei w3 (w_ar ws (n_v vs 0) 120) j := el_kp s3.1 r13 cr_0_120 (by decide)
  have kz_0_100 := fdq_161 hD hth r0
  have kz_0_101 := fdq_124 hD hth r0
  have kz_0_107 := fdq_162 hD hth r0
  have nf0 : fc_1 PRD (20, [3, 4, 18], [60, 0, 2, 451, 106, 117]) ws (vs) := by
    refine ⟨nf_in hl rfl, sgq_939 ?_⟩
    · show BM1 (w_ei ws (w_ar ws (n_v vs 3) 106)) (w_ei ws (w_ar ws (n_v vs 3) 117)) (v_iv (n_v vs 4)) (v_iv (n_v vs 18))
      rw [q3]
      exact vc_Mo_byMeans_3_0 (v_iv (n_v vs 4)) (v_iv (n_v vs 7)) (v_iv (n_v vs 8)) (v_iv (n_v vs 18)) (w_ei ws (w_ar ws (n_v vs 0) 2)) (w_ei ws (w_ar ws (n_v vs 0) 95)) (w_ei ws (w_ar ws (n_v vs 0) 102)) (w_ei ws (w_ar ws (n_v vs 0) 104)) (w_ei ws (w_ar ws (n_v vs 0) 108)) (w_ei ws (w_ar ws (n_v vs 0) 109)) (w_fi ws (n_v vs 0) 5) (w_fi ws (n_v vs 0) 100) (w_fi ws (n_v vs 0) 101) (w_fi ws (n_v vs 0) 107) (w_ei ws (w_ar ws (n_v vs 0) 105)) (w_ei ws (w_ar ws (n_v vs 0) 106)) (w_ei w1 (w_ar ws (n_v vs 0) 2)) (w_ei w1 (w_ar ws (n_v vs 0) 95)) (w_ei w1 (w_ar ws (n_v vs 0) 102)) (w_ei w1 (w_ar ws (n_v vs 0) 104)) (w_ei w1 (w_ar ws (n_v vs 0) 108)) (w_ei w1 (w_ar ws (n_v vs 0) 109)) (w_fi w1 (n_v vs 0) 5) (w_fi w1 (n_v vs 0) 100) (w_fi w1 (n_v vs 0) 101) (w_fi w1 (n_v vs 0) 107) (w_ei w1 (w_ar ws (n_v vs 0) 105)) (w_ei w1 (w_ar ws (n_v vs 0) 106)) (w_ei w1 (w_ar ws (n_v vs 0) 117)) (w_ei w2 (w_ar ws (n_v vs 0) 2)) (w_ei w2 (w_ar ws (n_v vs 0) 95)) (w_ei w2 (w_ar ws (n_v vs 0) 102)) (w_ei w2 (w_ar ws (n_v vs 0) 104)) (w_ei w2 (w_ar ws (n_v vs 0) 108)) (w_ei w2 (w_ar ws (n_v vs 0) 109)) (w_fi w2 (n_v vs 0) 5) (w_fi w2 (n_v vs 0) 100) (w_fi w2 (n_v vs 0) 101) (w_fi w2 (n_v vs 0) 107) (w_ei w2 (w_ar ws (n_v vs 0) 105)) (w_ei w2 (w_ar ws (n_v vs 0) 106)) (w_ei w2 (w_ar ws (n_v vs 0) 117)) (w_fi w3 (n_v vs 0) 107) (w_ei w3 (w_ar ws (n_v vs 0) 2)) (w_ei w3 (w_ar ws (n_v vs 0) 95)) (w_ei w3 (w_ar ws (n_v vs 0) 102)) (w_ei w3 (w_ar ws (n_v vs 0) 104)) (w_ei w3 (w_ar ws (n_v vs 0) 108)) (w_ei w3 (w_ar ws (n_v vs 0) 109)) (w_fi w3 (n_v vs 0) 5) (w_fi w3 (n_v vs 0) 100) (w_fi w3 (n_v vs 0) 101) (w_ei w3 (w_ar ws (n_v vs 0) 105)) (w_ei w3 (w_ar ws (n_v vs 0) 106)) (w_ei w3 (w_ar ws (n_v vs 0) 117)) (w_ei ws (w_ar ws (n_v vs 0) 117)) (w_ei ws (w_ar ws (n_v vs 0) 119)) (w_ei w1 (w_ar ws (n_v vs 0) 119)) (w_ei w2 (w_ar ws (n_v vs 0) 119)) (w_ei ws (w_ar ws (n_v vs 0) 120)) (w_ei w1 (w_ar ws (n_v vs 0) 120)) (w_ei w2 (w_ar ws (n_v vs 0) 120)) (w_ei w3 (w_ar ws (n_v vs 0) 120)) k4 k7 k8 k18 f0 f38 f40 fe_0_5_1 fe_0_100_1 fe_0_101_1 fe_0_107_1 fe_0_5_2 fe_0_100_2 fe_0_101_2 fe_0_107_2 fe_0_5_3 fe_0_100_3 fe_0_101_3 fe_0_107_3 hE_0_2_1 hE_0_2_2 hE_0_2_3 hE_0_95_1 hE_0_95_2 hE_0_95_3 hE_0_102_1 hE_0_102_2 hE_0_102_3 hE_0_104_1 hE_0_104_2 hE_0_104_3 hE_0_105_1 hE_0_105_2 hE_0_105_3 hE_0_106_1 hE_0_106_2 hE_0_106_3 hE_0_108_1 hE_0_108_2 hE_0_108_3 hE_0_109_1 hE_0_109_2 hE_0_109_3 hE_0_117_1 hE_0_117_2 hE_0_117_3 hE_0_119_1 hE_0_119_2 hE_0_120_1 hE_0_120_3 kz_0_100 kz_0_101 kz_0_107
  refine ⟨(fun _ h => (by cases h)), [], trivial, ?_, (fun _ h => (by cases h))⟩
  rw [List.append_nil]
  exact List.forall_mem_cons.mpr ⟨⟨show (20 : Nat) < 100 from by decide, nf0⟩, (fun _ h => (by cases h))⟩
set_option maxHeartbeats 4000000 in
theorem vc_Mo_byMeans_4_0 (x4 : Int) (x7 : Int) (x8 : Int) (x19 : Int) (all_0 : Int → Int) (turned_0 : Int → Int) (itemLayer_0 : Int → Int) (firstJoint_0 : Int → Int) (lineA_0 : Int → Int) (lineB_0 : Int → Int) (r_0 : Int) (items_0 : Int) (layerMany_0 : Int) (lines_0 : Int) (layerSize_0 : Int → Int) (layerItem_0 : Int → Int) (all_1 : Int → Int) (turned_1 : Int → Int) (itemLayer_1 : Int → Int) (firstJoint_1 : Int → Int) (lineA_1 : Int → Int) (lineB_1 : Int → Int) (r_1 : Int) (items_1 : Int) (layerMany_1 : Int) (lines_1 : Int) (layerSize_1 : Int → Int) (layerItem_1 : Int → Int) (row_1 : Int → Int) (all_2 : Int → Int) (turned_2 : Int → Int) (itemLayer_2 : Int → Int) (firstJoint_2 : Int → Int) (lineA_2 : Int → Int) (lineB_2 : Int → Int) (r_2 : Int) (items_2 : Int) (layerMany_2 : Int) (lines_2 : Int) (layerSize_2 : Int → Int) (layerItem_2 : Int → Int) (row_2 : Int → Int) (lines_3 : Int) (all_3 : Int → Int) (turned_3 : Int → Int) (itemLayer_3 : Int → Int) (firstJoint_3 : Int → Int) (lineA_3 : Int → Int) (lineB_3 : Int → Int) (r_3 : Int) (items_3 : Int) (layerMany_3 : Int) (layerSize_3 : Int → Int) (layerItem_3 : Int → Int) (row_3 : Int → Int) (row_0 : Int → Int) (meanA_0 : Int → Int) (meanA_1 : Int → Int) (meanA_2 : Int → Int) (meanB_0 : Int → Int) (meanB_1 : Int → Int) (meanB_2 : Int → Int) (meanB_3 : Int → Int) (k4 : 0 ≤ x4 ∧ x4 ≤ 75) (k7 : 0 ≤ x7 ∧ x7 ≤ 75) (k8 : 0 ≤ x8 ∧ x8 ≤ 75) (k19 : 1 ≤ x19 ∧ x19 ≤ 76) (f0 : x19 = x7 + 1) (f38 : BM1 (layerItem_3) (row_3) (x4) (x7)) (f40 : x8 = layerItem_3 (((76 * x4) + x7))) (fe_0_5_1 : r_0 = r_1) (fe_0_100_1 : items_0 = items_1) (fe_0_101_1 : layerMany_0 = layerMany_1) (fe_0_107_1 : lines_0 = lines_1) (fe_0_5_2 : r_1 = r_2) (fe_0_100_2 : items_1 = items_2) (fe_0_101_2 : layerMany_1 = layerMany_2) (fe_0_107_2 : lines_1 = lines_2) (fe_0_5_3 : r_2 = r_3) (fe_0_100_3 : items_2 = items_3) (fe_0_101_3 : layerMany_2 = layerMany_3) (fe_0_107_3 : lines_2 = lines_3) (hE_0_2_1 : ∀ j : Int, all_0 j = all_1 j) (hE_0_2_2 : ∀ j : Int, all_1 j = all_2 j) (hE_0_2_3 : ∀ j : Int, all_2 j = all_3 j) (hE_0_95_1 : ∀ j : Int, turned_0 j = turned_1 j) (hE_0_95_2 : ∀ j : Int, turned_1 j = turned_2 j) (hE_0_95_3 : ∀ j : Int, turned_2 j = turned_3 j) (hE_0_102_1 : ∀ j : Int, itemLayer_0 j = itemLayer_1 j) (hE_0_102_2 : ∀ j : Int, itemLayer_1 j = itemLayer_2 j) (hE_0_102_3 : ∀ j : Int, itemLayer_2 j = itemLayer_3 j) (hE_0_104_1 : ∀ j : Int, firstJoint_0 j = firstJoint_1 j) (hE_0_104_2 : ∀ j : Int, firstJoint_1 j = firstJoint_2 j) (hE_0_104_3 : ∀ j : Int, firstJoint_2 j = firstJoint_3 j) (hE_0_105_1 : ∀ j : Int, layerSize_0 j = layerSize_1 j) (hE_0_105_2 : ∀ j : Int, layerSize_1 j = layerSize_2 j) (hE_0_105_3 : ∀ j : Int, layerSize_2 j = layerSize_3 j) (hE_0_106_1 : ∀ j : Int, layerItem_0 j = layerItem_1 j) (hE_0_106_2 : ∀ j : Int, layerItem_1 j = layerItem_2 j) (hE_0_106_3 : ∀ j : Int, layerItem_2 j = layerItem_3 j) (hE_0_108_1 : ∀ j : Int, lineA_0 j = lineA_1 j) (hE_0_108_2 : ∀ j : Int, lineA_1 j = lineA_2 j) (hE_0_108_3 : ∀ j : Int, lineA_2 j = lineA_3 j) (hE_0_109_1 : ∀ j : Int, lineB_0 j = lineB_1 j) (hE_0_109_2 : ∀ j : Int, lineB_1 j = lineB_2 j) (hE_0_109_3 : ∀ j : Int, lineB_2 j = lineB_3 j) (hE_0_117_1 : ∀ j : Int, 0 ≤ j → (j = x7 → row_0 j = x8) ∧ (j ≠ x7 → row_0 j = row_1 j)) (hE_0_117_2 : ∀ j : Int, row_1 j = row_2 j) (hE_0_117_3 : ∀ j : Int, row_2 j = row_3 j) (hE_0_119_1 : ∀ j : Int, meanA_0 j = meanA_1 j) (hE_0_119_2 : ∀ j : Int, meanA_1 j = meanA_2 j) (hE_0_120_1 : ∀ j : Int, meanB_0 j = meanB_1 j) (hE_0_120_3 : ∀ j : Int, meanB_2 j = meanB_3 j) (kz_0_100 : 0 ≤ items_0 ∧ items_0 ≤ 76) (kz_0_101 : 0 ≤ layerMany_0 ∧ layerMany_0 ≤ 76) (kz_0_107 : 0 ≤ lines_0 ∧ lines_0 ≤ 130) : BM1 (layerItem_0) (row_0) (x4) (x19) := by
  subst fe_0_5_1
  subst fe_0_100_1
  subst fe_0_101_1
  subst fe_0_107_1
  subst fe_0_5_2
  subst fe_0_100_2
  subst fe_0_101_2
  subst fe_0_107_2
  subst fe_0_5_3
  subst fe_0_100_3
  subst fe_0_101_3
  subst fe_0_107_3
  have e_hE_0_2_1 := funext hE_0_2_1; subst e_hE_0_2_1
  have e_hE_0_2_2 := funext hE_0_2_2; subst e_hE_0_2_2
  have e_hE_0_2_3 := funext hE_0_2_3; subst e_hE_0_2_3
  have e_hE_0_95_1 := funext hE_0_95_1; subst e_hE_0_95_1
  have e_hE_0_95_2 := funext hE_0_95_2; subst e_hE_0_95_2
  have e_hE_0_95_3 := funext hE_0_95_3; subst e_hE_0_95_3
  have e_hE_0_102_1 := funext hE_0_102_1; subst e_hE_0_102_1
  have e_hE_0_102_2 := funext hE_0_102_2; subst e_hE_0_102_2
  have e_hE_0_102_3 := funext hE_0_102_3; subst e_hE_0_102_3
  have e_hE_0_104_1 := funext hE_0_104_1; subst e_hE_0_104_1
  have e_hE_0_104_2 := funext hE_0_104_2; subst e_hE_0_104_2
  have e_hE_0_104_3 := funext hE_0_104_3; subst e_hE_0_104_3
  have e_hE_0_105_1 := funext hE_0_105_1; subst e_hE_0_105_1
  have e_hE_0_105_2 := funext hE_0_105_2; subst e_hE_0_105_2
  have e_hE_0_105_3 := funext hE_0_105_3; subst e_hE_0_105_3
  have e_hE_0_106_1 := funext hE_0_106_1; subst e_hE_0_106_1
  have e_hE_0_106_2 := funext hE_0_106_2; subst e_hE_0_106_2
  have e_hE_0_106_3 := funext hE_0_106_3; subst e_hE_0_106_3
  have e_hE_0_108_1 := funext hE_0_108_1; subst e_hE_0_108_1
  have e_hE_0_108_2 := funext hE_0_108_2; subst e_hE_0_108_2
  have e_hE_0_108_3 := funext hE_0_108_3; subst e_hE_0_108_3
  have e_hE_0_109_1 := funext hE_0_109_1; subst e_hE_0_109_1
  have e_hE_0_109_2 := funext hE_0_109_2; subst e_hE_0_109_2
  have e_hE_0_109_3 := funext hE_0_109_3; subst e_hE_0_109_3
  have e_hE_0_117_2 := funext hE_0_117_2; subst e_hE_0_117_2
  have e_hE_0_117_3 := funext hE_0_117_3; subst e_hE_0_117_3
  have e_hE_0_119_1 := funext hE_0_119_1; subst e_hE_0_119_1
  have e_hE_0_119_2 := funext hE_0_119_2; subst e_hE_0_119_2
  have e_hE_0_120_1 := funext hE_0_120_1; subst e_hE_0_120_1
  have e_hE_0_120_3 := funext hE_0_120_3; subst e_hE_0_120_3
  first
    | (intro j a b; exfalso; omega)
    | exact bm1_next ‹BM1 _ _ _ _› (by assumption) (by assumption) (by assumption)
def o_Mo_byMeans_4 : or_T := (10, 20, [(0, (2, 0, 0, [165])), (4, (0, 0, 75, [])), (7, (0, 0, 75, [])), (8, (0, 0, 75, [])), (13, (2, 0, 0, [251])), (15, (2, 0, 0, [252])), (18, (2, 0, 0, [249])), (19, (0, 1, 76, []))], [(6, [19, 7], [1]), (24, [0, 3], []), (100, [18, 7, 8], []), (9, [18, 3], [117]), (100, [15, 7, 17], []), (100, [13, 7, 9], []), (20, [3, 4, 7], [60, 0, 2, 451, 106, 117]), (20, [8, 3, 4, 7], [50, 0, 1, 1106, 1, 2, 1, 0, 3, 1, 106, 4, 6, 6, 2, 0, 76, 1, 2, 1, 3])], [], [], [(20, [3, 4, 19], [60, 0, 2, 451, 106, 117])], [], [(19, 7, 1, 1), (7, 6, -4294967296, -1)])
theorem oo_Mo_byMeans_4 {kA : Nat → ClassId} : or_ok PRD kA GG o_Mo_byMeans_4 := by
  refine or_mk fun A ta ws vs hD hth hl => ?_
  intro t0 r0 t4 k4 t7 k7 t8 k8 t13 r13 t15 r15 t18 r18 t19 k19 d0 d3 f0 f8 ta1 w1 le1 s1 f10 ta2 w2 le2 s2 ta3 w3 le3 s3 f38 f40
  replace f0 := shm_4 f0
  replace f8 := shm_5 f8
  have s1 : (∀ b j, w_el ws b j = if b = v_ad (n_v vs 18) ∧ j = (v_iv (n_v vs 7)).toNat then v_iv (n_v vs 8) else w_el w1 b j) ∧ ∀ b k, w_fd ws b k = w_fd w1 b k := s1.2
  replace f10 := shm_700 f10
  have s2 : (∀ b j, w_el w1 b j = if b = v_ad (n_v vs 15) ∧ j = (v_iv (n_v vs 7)).toNat then v_iv (n_v vs 17) else w_el w2 b j) ∧ ∀ b k, w_fd w1 b k = w_fd w2 b k := s2.2
  have s3 : (∀ b j, w_el w2 b j = if b = v_ad (n_v vs 13) ∧ j = (v_iv (n_v vs 7)).toNat then v_iv (n_v vs 9) else w_el w3 b j) ∧ ∀ b k, w_fd w2 b k = w_fd w3 b k := s3.2
  replace f38 := shm_939 f38
  replace f40 := shm_941 f40
  have q3 : n_v vs 3 = n_v vs 0 := f8.symm
  simp only [q3] at f10 f38 f40
  have ar_0_2_1 : w_ar w1 (n_v vs 0) 2 = w_ar ws (n_v vs 0) 2 := congrArg v_ad (s1.2 _ _).symm
  have ar_0_2_2 : w_ar w2 (n_v vs 0) 2 = w_ar ws (n_v vs 0) 2 := by rw [← ar_0_2_1]; show v_ad (w_fd w2 _ _) = v_ad (w_fd w1 _ _); rw [s2.2]
  have ar_0_2_3 : w_ar w3 (n_v vs 0) 2 = w_ar ws (n_v vs 0) 2 := by rw [← ar_0_2_2]; show v_ad (w_fd w3 _ _) = v_ad (w_fd w2 _ _); rw [s3.2]
  have cr_0_2 := fdq_12 hD hth r0
  have ar_0_95_1 : w_ar w1 (n_v vs 0) 95 = w_ar ws (n_v vs 0) 95 := congrArg v_ad (s1.2 _ _).symm
  have ar_0_95_2 : w_ar w2 (n_v vs 0) 95 = w_ar ws (n_v vs 0) 95 := by rw [← ar_0_95_1]; show v_ad (w_fd w2 _ _) = v_ad (w_fd w1 _ _); rw [s2.2]
  have ar_0_95_3 : w_ar w3 (n_v vs 0) 95 = w_ar ws (n_v vs 0) 95 := by rw [← ar_0_95_2]; show v_ad (w_fd w3 _ _) = v_ad (w_fd w2 _ _); rw [s3.2]
  have cr_0_95 := fdq_129 hD hth r0
  have ar_0_102_1 : w_ar w1 (n_v vs 0) 102 = w_ar ws (n_v vs 0) 102 := congrArg v_ad (s1.2 _ _).symm
  have ar_0_102_2 : w_ar w2 (n_v vs 0) 102 = w_ar ws (n_v vs 0) 102 := by rw [← ar_0_102_1]; show v_ad (w_fd w2 _ _) = v_ad (w_fd w1 _ _); rw [s2.2]
  have ar_0_102_3 : w_ar w3 (n_v vs 0) 102 = w_ar ws (n_v vs 0) 102 := by rw [← ar_0_102_2]; show v_ad (w_fd w3 _ _) = v_ad (w_fd w2 _ _); rw [s3.2]
  have cr_0_102 := fdq_158 hD hth r0
  have ar_0_104_1 : w_ar w1 (n_v vs 0) 104 = w_ar ws (n_v vs 0) 104 := congrArg v_ad (s1.2 _ _).symm
  have ar_0_104_2 : w_ar w2 (n_v vs 0) 104 = w_ar ws (n_v vs 0) 104 := by rw [← ar_0_104_1]; show v_ad (w_fd w2 _ _) = v_ad (w_fd w1 _ _); rw [s2.2]
  have ar_0_104_3 : w_ar w3 (n_v vs 0) 104 = w_ar ws (n_v vs 0) 104 := by rw [← ar_0_104_2]; show v_ad (w_fd w3 _ _) = v_ad (w_fd w2 _ _); rw [s3.2]
  have cr_0_104 := fdq_169 hD hth r0
  have ar_0_105_1 : w_ar w1 (n_v vs 0) 105 = w_ar ws (n_v vs 0) 105 := congrArg v_ad (s1.2 _ _).symm
  have ar_0_105_2 : w_ar w2 (n_v vs 0) 105 = w_ar ws (n_v vs 0) 105 := by rw [← ar_0_105_1]; show v_ad (w_fd w2 _ _) = v_ad (w_fd w1 _ _); rw [s2.2]
  have ar_0_105_3 : w_ar w3 (n_v vs 0) 105 = w_ar ws (n_v vs 0) 105 := by rw [← ar_0_105_2]; show v_ad (w_fd w3 _ _) = v_ad (w_fd w2 _ _); rw [s3.2]
  have cr_0_105 := fdq_121 hD hth r0
  have ar_0_106_1 : w_ar w1 (n_v vs 0) 106 = w_ar ws (n_v vs 0) 106 := congrArg v_ad (s1.2 _ _).symm
  have ar_0_106_2 : w_ar w2 (n_v vs 0) 106 = w_ar ws (n_v vs 0) 106 := by rw [← ar_0_106_1]; show v_ad (w_fd w2 _ _) = v_ad (w_fd w1 _ _); rw [s2.2]
  have ar_0_106_3 : w_ar w3 (n_v vs 0) 106 = w_ar ws (n_v vs 0) 106 := by rw [← ar_0_106_2]; show v_ad (w_fd w3 _ _) = v_ad (w_fd w2 _ _); rw [s3.2]
  have cr_0_106 := fdq_122 hD hth r0
  have ar_0_108_1 : w_ar w1 (n_v vs 0) 108 = w_ar ws (n_v vs 0) 108 := congrArg v_ad (s1.2 _ _).symm
  have ar_0_108_2 : w_ar w2 (n_v vs 0) 108 = w_ar ws (n_v vs 0) 108 := by rw [← ar_0_108_1]; show v_ad (w_fd w2 _ _) = v_ad (w_fd w1 _ _); rw [s2.2]
  have ar_0_108_3 : w_ar w3 (n_v vs 0) 108 = w_ar ws (n_v vs 0) 108 := by rw [← ar_0_108_2]; show v_ad (w_fd w3 _ _) = v_ad (w_fd w2 _ _); rw [s3.2]
  have cr_0_108 := fdq_159 hD hth r0
  have ar_0_109_1 : w_ar w1 (n_v vs 0) 109 = w_ar ws (n_v vs 0) 109 := congrArg v_ad (s1.2 _ _).symm
  have ar_0_109_2 : w_ar w2 (n_v vs 0) 109 = w_ar ws (n_v vs 0) 109 := by rw [← ar_0_109_1]; show v_ad (w_fd w2 _ _) = v_ad (w_fd w1 _ _); rw [s2.2]
  have ar_0_109_3 : w_ar w3 (n_v vs 0) 109 = w_ar ws (n_v vs 0) 109 := by rw [← ar_0_109_2]; show v_ad (w_fd w3 _ _) = v_ad (w_fd w2 _ _); rw [s3.2]
  have cr_0_109 := fdq_160 hD hth r0
  have ar_0_117_1 : w_ar w1 (n_v vs 0) 117 = w_ar ws (n_v vs 0) 117 := congrArg v_ad (s1.2 _ _).symm
  have ar_0_117_2 : w_ar w2 (n_v vs 0) 117 = w_ar ws (n_v vs 0) 117 := by rw [← ar_0_117_1]; show v_ad (w_fd w2 _ _) = v_ad (w_fd w1 _ _); rw [s2.2]
  have ar_0_117_3 : w_ar w3 (n_v vs 0) 117 = w_ar ws (n_v vs 0) 117 := by rw [← ar_0_117_2]; show v_ad (w_fd w3 _ _) = v_ad (w_fd w2 _ _); rw [s3.2]
  have cr_0_117 := fdq_180 hD hth r0
  have cr_0_119 := fdq_229 hD hth r0
  have cr_0_120 := fdq_230 hD hth r0
  have ad_18 : v_ad (n_v vs 18) = w_ar ws (n_v vs 0) 117 := (congrArg v_ad f10).trans ar_0_117_1
  simp only [ar_0_2_3, ar_0_95_3, ar_0_102_3, ar_0_104_3, ar_0_108_3, ar_0_109_3, ar_0_105_3, ar_0_106_3, ar_0_117_3] at f38 f40
  have fe_0_5_1 : w_fi ws (n_v vs 0) 5 = w_fi w1 (n_v vs 0) 5 := congrArg v_iv (s1.2 _ _)
  have fe_0_100_1 : w_fi ws (n_v vs 0) 100 = w_fi w1 (n_v vs 0) 100 := congrArg v_iv (s1.2 _ _)
  have fe_0_101_1 : w_fi ws (n_v vs 0) 101 = w_fi w1 (n_v vs 0) 101 := congrArg v_iv (s1.2 _ _)
  have fe_0_107_1 : w_fi ws (n_v vs 0) 107 = w_fi w1 (n_v vs 0) 107 := congrArg v_iv (s1.2 _ _)
  have fe_0_5_2 : w_fi w1 (n_v vs 0) 5 = w_fi w2 (n_v vs 0) 5 := congrArg v_iv (s2.2 _ _)
  have fe_0_100_2 : w_fi w1 (n_v vs 0) 100 = w_fi w2 (n_v vs 0) 100 := congrArg v_iv (s2.2 _ _)
  have fe_0_101_2 : w_fi w1 (n_v vs 0) 101 = w_fi w2 (n_v vs 0) 101 := congrArg v_iv (s2.2 _ _)
  have fe_0_107_2 : w_fi w1 (n_v vs 0) 107 = w_fi w2 (n_v vs 0) 107 := congrArg v_iv (s2.2 _ _)
  have fe_0_5_3 : w_fi w2 (n_v vs 0) 5 = w_fi w3 (n_v vs 0) 5 := congrArg v_iv (s3.2 _ _)
  have fe_0_100_3 : w_fi w2 (n_v vs 0) 100 = w_fi w3 (n_v vs 0) 100 := congrArg v_iv (s3.2 _ _)
  have fe_0_101_3 : w_fi w2 (n_v vs 0) 101 = w_fi w3 (n_v vs 0) 101 := congrArg v_iv (s3.2 _ _)
  have fe_0_107_3 : w_fi w2 (n_v vs 0) 107 = w_fi w3 (n_v vs 0) 107 := congrArg v_iv (s3.2 _ _)
  have hE_0_2_1 : ∀ j : Int, w_ei ws (w_ar ws (n_v vs 0) 2) j = w_ei w1 (w_ar ws (n_v vs 0) 2) j := el_kp s1.1 r18 cr_0_2 (by decide)
  have hE_0_2_2 : ∀ j : Int, w_ei w1 (w_ar ws (n_v vs 0) 2) j = w_ei w2 (w_ar ws (n_v vs 0) 2) j := el_kp s2.1 r15 cr_0_2 (by decide)
  have hE_0_2_3 : ∀ j : Int, w_ei w2 (w_ar ws (n_v vs 0) 2) j = w_ei w3 (w_ar ws (n_v vs 0) 2) j := el_kp s3.1 r13 cr_0_2 (by decide)
  have hE_0_95_1 : ∀ j : Int, w_ei ws (w_ar ws (n_v vs 0) 95) j = w_ei w1 (w_ar ws (n_v vs 0) 95) j := el_kp s1.1 r18 cr_0_95 (by decide)
  have hE_0_95_2 : ∀ j : Int, w_ei w1 (w_ar ws (n_v vs 0) 95) j = w_ei w2 (w_ar ws (n_v vs 0) 95) j := el_kp s2.1 r15 cr_0_95 (by decide)
  have hE_0_95_3 : ∀ j : Int, w_ei w2 (w_ar ws (n_v vs 0) 95) j = w_ei w3 (w_ar ws (n_v vs 0) 95) j := el_kp s3.1 r13 cr_0_95 (by decide)
  have hE_0_102_1 : ∀ j : Int, w_ei ws (w_ar ws (n_v vs 0) 102) j = w_ei w1 (w_ar ws (n_v vs 0) 102) j := el_kp s1.1 r18 cr_0_102 (by decide)
  have hE_0_102_2 : ∀ j : Int, w_ei w1 (w_ar ws (n_v vs 0) 102) j = w_ei w2 (w_ar ws (n_v vs 0) 102) j := el_kp s2.1 r15 cr_0_102 (by decide)
  have hE_0_102_3 : ∀ j : Int, w_ei w2 (w_ar ws (n_v vs 0) 102) j = w_ei w3 (w_ar ws (n_v vs 0) 102) j := el_kp s3.1 r13 cr_0_102 (by decide)
  have hE_0_104_1 : ∀ j : Int, w_ei ws (w_ar ws (n_v vs 0) 104) j = w_ei w1 (w_ar ws (n_v vs 0) 104) j := el_kp s1.1 r18 cr_0_104 (by decide)
  have hE_0_104_2 : ∀ j : Int, w_ei w1 (w_ar ws (n_v vs 0) 104) j = w_ei w2 (w_ar ws (n_v vs 0) 104) j := el_kp s2.1 r15 cr_0_104 (by decide)
  have hE_0_104_3 : ∀ j : Int, w_ei w2 (w_ar ws (n_v vs 0) 104) j = w_ei w3 (w_ar ws (n_v vs 0) 104) j := el_kp s3.1 r13 cr_0_104 (by decide)
  have hE_0_105_1 : ∀ j : Int, w_ei ws (w_ar ws (n_v vs 0) 105) j = w_ei w1 (w_ar ws (n_v vs 0) 105) j := el_kp s1.1 r18 cr_0_105 (by decide)
  have hE_0_105_2 : ∀ j : Int, w_ei w1 (w_ar ws (n_v vs 0) 105) j = w_ei w2 (w_ar ws (n_v vs 0) 105) j := el_kp s2.1 r15 cr_0_105 (by decide)
  have hE_0_105_3 : ∀ j : Int, w_ei w2 (w_ar ws (n_v vs 0) 105) j = w_ei w3 (w_ar ws (n_v vs 0) 105) j := el_kp s3.1 r13 cr_0_105 (by decide)
  have hE_0_106_1 : ∀ j : Int, w_ei ws (w_ar ws (n_v vs 0) 106) j = w_ei w1 (w_ar ws (n_v vs 0) 106) j := el_kp s1.1 r18 cr_0_106 (by decide)
  have hE_0_106_2 : ∀ j : Int, w_ei w1 (w_ar ws (n_v vs 0) 106) j = w_ei w2 (w_ar ws (n_v vs 0) 106) j := el_kp s2.1 r15 cr_0_106 (by decide)
  have hE_0_106_3 : ∀ j : Int, w_ei w2 (w_ar ws (n_v vs 0) 106) j = w_ei w3 (w_ar ws (n_v vs 0) 106) j := el_kp s3.1 r13 cr_0_106 (by decide)
  have hE_0_108_1 : ∀ j : Int, w_ei ws (w_ar ws (n_v vs 0) 108) j = w_ei w1 (w_ar ws (n_v vs 0) 108) j := el_kp s1.1 r18 cr_0_108 (by decide)
  have hE_0_108_2 : ∀ j : Int, w_ei w1 (w_ar ws (n_v vs 0) 108) j = w_ei w2 (w_ar ws (n_v vs 0) 108) j := el_kp s2.1 r15 cr_0_108 (by decide)
  have hE_0_108_3 : ∀ j : Int, w_ei w2 (w_ar ws (n_v vs 0) 108) j = w_ei w3 (w_ar ws (n_v vs 0) 108) j := el_kp s3.1 r13 cr_0_108 (by decide)
  have hE_0_109_1 : ∀ j : Int, w_ei ws (w_ar ws (n_v vs 0) 109) j = w_ei w1 (w_ar ws (n_v vs 0) 109) j := el_kp s1.1 r18 cr_0_109 (by decide)
  have hE_0_109_2 : ∀ j : Int, w_ei w1 (w_ar ws (n_v vs 0) 109) j = w_ei w2 (w_ar ws (n_v vs 0) 109) j := el_kp s2.1 r15 cr_0_109 (by decide)
  have hE_0_109_3 : ∀ j : Int, w_ei w2 (w_ar ws (n_v vs 0) 109) j = w_ei w3 (w_ar ws (n_v vs 0) 109) j := el_kp s3.1 r13 cr_0_109 (by decide)
  have hE_0_117_1 : ∀ j : Int, 0 ≤ j → (j = v_iv (n_v vs 7) → w_ei ws (w_ar ws (n_v vs 0) 117) j = v_iv (n_v vs 8)) ∧ (j ≠ v_iv (n_v vs 7) → w_ei ws (w_ar ws (n_v vs 0) 117) j = w_ei w1 (w_ar ws (n_v vs 0) 117) j) := fun j hj => ⟨fun h => by unfold w_ei; rw [s1.1, if_pos ⟨ad_18.symm, by rw [h]⟩], fun h => by unfold w_ei; rw [s1.1, if_neg (fun e => h (by have := e.2; omega))]⟩
  have hE_0_117_2 : ∀ j : Int, w_ei w1 (w_ar ws (n_v vs 0) 117) j = w_ei w2 (w_ar ws (n_v vs 0) 117) j := el_kp s2.1 r15 cr_0_117 (by decide)
  have hE_0_117_3 : ∀ j : Int, w_ei w2 (w_ar ws (n_v vs 0) 117) j = w_ei w3 (w_ar ws (n_v vs 0) 117) j := el_kp s3.1 r13 cr_0_117 (by decide)
  have hE_0_119_1 : ∀ j : Int, w_ei ws (w_ar ws (n_v vs 0) 119) j = w_ei w1 (w_ar ws (n_v vs 0) 119) j := el_kp s1.1 r18 cr_0_119 (by decide)
  have hE_0_119_2 : ∀ j : Int, w_ei w1 (w_ar ws (n_v vs 0) 119) j = w_ei w2 (w_ar ws (n_v vs 0) 119) j := el_kp s2.1 r15 cr_0_119 (by decide)
  have hE_0_120_1 : ∀ j : Int, w_ei ws (w_ar ws (n_v vs 0) 120) j = w_ei w1 (w_ar ws (n_v vs 0) 120) j := el_kp s1.1 r18 cr_0_120 (by decide)
  have hE_0_120_3 : ∀ j : Int, w_ei w2 (w_ar ws (n_v vs 0) 120) j = w_ei w3 (w_ar ws (n_v vs 0) 120) j := el_kp s3.1 r13 cr_0_120 (by decide)
  have kz_0_100 := fdq_161 hD hth r0
  have kz_0_101 := fdq_124 hD hth r0
  have kz_0_107 := fdq_162 hD hth r0
  have nf0 : fc_1 PRD (20, [3, 4, 19], [60, 0, 2, 451, 106, 117]) ws (vs) := by
    refine ⟨nf_in hl rfl, sgq_939 ?_⟩
    · show BM1 (w_ei ws (w_ar ws (n_v vs 3) 106)) (w_ei ws (w_ar ws (n_v vs 3) 117)) (v_iv (n_v vs 4)) (v_iv (n_v vs 19))
      rw [q3]
      exact vc_Mo_byMeans_4_0 (v_iv (n_v vs 4)) (v_iv (n_v vs 7)) (v_iv (n_v vs 8)) (v_iv (n_v vs 19)) (w_ei ws (w_ar ws (n_v vs 0) 2)) (w_ei ws (w_ar ws (n_v vs 0) 95)) (w_ei ws (w_ar ws (n_v vs 0) 102)) (w_ei ws (w_ar ws (n_v vs 0) 104)) (w_ei ws (w_ar ws (n_v vs 0) 108)) (w_ei ws (w_ar ws (n_v vs 0) 109)) (w_fi ws (n_v vs 0) 5) (w_fi ws (n_v vs 0) 100) (w_fi ws (n_v vs 0) 101) (w_fi ws (n_v vs 0) 107) (w_ei ws (w_ar ws (n_v vs 0) 105)) (w_ei ws (w_ar ws (n_v vs 0) 106)) (w_ei w1 (w_ar ws (n_v vs 0) 2)) (w_ei w1 (w_ar ws (n_v vs 0) 95)) (w_ei w1 (w_ar ws (n_v vs 0) 102)) (w_ei w1 (w_ar ws (n_v vs 0) 104)) (w_ei w1 (w_ar ws (n_v vs 0) 108)) (w_ei w1 (w_ar ws (n_v vs 0) 109)) (w_fi w1 (n_v vs 0) 5) (w_fi w1 (n_v vs 0) 100) (w_fi w1 (n_v vs 0) 101) (w_fi w1 (n_v vs 0) 107) (w_ei w1 (w_ar ws (n_v vs 0) 105)) (w_ei w1 (w_ar ws (n_v vs 0) 106)) (w_ei w1 (w_ar ws (n_v vs 0) 117)) (w_ei w2 (w_ar ws (n_v vs 0) 2)) (w_ei w2 (w_ar ws (n_v vs 0) 95)) (w_ei w2 (w_ar ws (n_v vs 0) 102)) (w_ei w2 (w_ar ws (n_v vs 0) 104)) (w_ei w2 (w_ar ws (n_v vs 0) 108)) (w_ei w2 (w_ar ws (n_v vs 0) 109)) (w_fi w2 (n_v vs 0) 5) (w_fi w2 (n_v vs 0) 100) (w_fi w2 (n_v vs 0) 101) (w_fi w2 (n_v vs 0) 107) (w_ei w2 (w_ar ws (n_v vs 0) 105)) (w_ei w2 (w_ar ws (n_v vs 0) 106)) (w_ei w2 (w_ar ws (n_v vs 0) 117)) (w_fi w3 (n_v vs 0) 107) (w_ei w3 (w_ar ws (n_v vs 0) 2)) (w_ei w3 (w_ar ws (n_v vs 0) 95)) (w_ei w3 (w_ar ws (n_v vs 0) 102)) (w_ei w3 (w_ar ws (n_v vs 0) 104)) (w_ei w3 (w_ar ws (n_v vs 0) 108)) (w_ei w3 (w_ar ws (n_v vs 0) 109)) (w_fi w3 (n_v vs 0) 5) (w_fi w3 (n_v vs 0) 100) (w_fi w3 (n_v vs 0) 101) (w_ei w3 (w_ar ws (n_v vs 0) 105)) (w_ei w3 (w_ar ws (n_v vs 0) 106)) (w_ei w3 (w_ar ws (n_v vs 0) 117)) (w_ei ws (w_ar ws (n_v vs 0) 117)) (w_ei ws (w_ar ws (n_v vs 0) 119)) (w_ei w1 (w_ar ws (n_v vs 0) 119)) (w_ei w2 (w_ar ws (n_v vs 0) 119)) (w_ei ws (w_ar ws (n_v vs 0) 120)) (w_ei w1 (w_ar ws (n_v vs 0) 120)) (w_ei w2 (w_ar ws (n_v vs 0) 120)) (w_ei w3 (w_ar ws (n_v vs 0) 120)) k4 k7 k8 k19 f0 f38 f40 fe_0_5_1 fe_0_100_1 fe_0_101_1 fe_0_107_1 fe_0_5_2 fe_0_100_2 fe_0_101_2 fe_0_107_2 fe_0_5_3 fe_0_100_3 fe_0_101_3 fe_0_107_3 hE_0_2_1 hE_0_2_2 hE_0_2_3 hE_0_95_1 hE_0_95_2 hE_0_95_3 hE_0_102_1 hE_0_102_2 hE_0_102_3 hE_0_104_1 hE_0_104_2 hE_0_104_3 hE_0_105_1 hE_0_105_2 hE_0_105_3 hE_0_106_1 hE_0_106_2 hE_0_106_3 hE_0_108_1 hE_0_108_2 hE_0_108_3 hE_0_109_1 hE_0_109_2 hE_0_109_3 hE_0_117_1 hE_0_117_2 hE_0_117_3 hE_0_119_1 hE_0_119_2 hE_0_120_1 hE_0_120_3 kz_0_100 kz_0_101 kz_0_107
  refine ⟨(fun _ h => (by cases h)), [], trivial, ?_, (fun _ h => (by cases h))⟩
  rw [List.append_nil]
  exact List.forall_mem_cons.mpr ⟨⟨show (20 : Nat) < 100 from by decide, nf0⟩, (fun _ h => (by cases h))⟩
set_option maxHeartbeats 4000000 in
theorem vc_Mo_byMeans_5_0 (x4 : Int) (x7 : Int) (x8 : Int) (x20 : Int) (all_0 : Int → Int) (turned_0 : Int → Int) (itemLayer_0 : Int → Int) (firstJoint_0 : Int → Int) (lineA_0 : Int → Int) (lineB_0 : Int → Int) (r_0 : Int) (items_0 : Int) (layerMany_0 : Int) (lines_0 : Int) (layerSize_0 : Int → Int) (layerItem_0 : Int → Int) (all_1 : Int → Int) (turned_1 : Int → Int) (itemLayer_1 : Int → Int) (firstJoint_1 : Int → Int) (lineA_1 : Int → Int) (lineB_1 : Int → Int) (r_1 : Int) (items_1 : Int) (layerMany_1 : Int) (lines_1 : Int) (layerSize_1 : Int → Int) (layerItem_1 : Int → Int) (row_1 : Int → Int) (all_2 : Int → Int) (turned_2 : Int → Int) (itemLayer_2 : Int → Int) (firstJoint_2 : Int → Int) (lineA_2 : Int → Int) (lineB_2 : Int → Int) (r_2 : Int) (items_2 : Int) (layerMany_2 : Int) (lines_2 : Int) (layerSize_2 : Int → Int) (layerItem_2 : Int → Int) (row_2 : Int → Int) (lines_3 : Int) (all_3 : Int → Int) (turned_3 : Int → Int) (itemLayer_3 : Int → Int) (firstJoint_3 : Int → Int) (lineA_3 : Int → Int) (lineB_3 : Int → Int) (r_3 : Int) (items_3 : Int) (layerMany_3 : Int) (layerSize_3 : Int → Int) (layerItem_3 : Int → Int) (row_3 : Int → Int) (row_0 : Int → Int) (meanA_0 : Int → Int) (meanA_1 : Int → Int) (meanA_2 : Int → Int) (meanB_0 : Int → Int) (meanB_1 : Int → Int) (meanB_2 : Int → Int) (meanB_3 : Int → Int) (k4 : 0 ≤ x4 ∧ x4 ≤ 75) (k7 : 0 ≤ x7 ∧ x7 ≤ 75) (k8 : 0 ≤ x8 ∧ x8 ≤ 75) (k20 : 1 ≤ x20 ∧ x20 ≤ 76) (f0 : x20 = x7 + 1) (f42 : BM1 (layerItem_3) (row_3) (x4) (x7)) (f44 : x8 = layerItem_3 (((76 * x4) + x7))) (fe_0_5_1 : r_0 = r_1) (fe_0_100_1 : items_0 = items_1) (fe_0_101_1 : layerMany_0 = layerMany_1) (fe_0_107_1 : lines_0 = lines_1) (fe_0_5_2 : r_1 = r_2) (fe_0_100_2 : items_1 = items_2) (fe_0_101_2 : layerMany_1 = layerMany_2) (fe_0_107_2 : lines_1 = lines_2) (fe_0_5_3 : r_2 = r_3) (fe_0_100_3 : items_2 = items_3) (fe_0_101_3 : layerMany_2 = layerMany_3) (fe_0_107_3 : lines_2 = lines_3) (hE_0_2_1 : ∀ j : Int, all_0 j = all_1 j) (hE_0_2_2 : ∀ j : Int, all_1 j = all_2 j) (hE_0_2_3 : ∀ j : Int, all_2 j = all_3 j) (hE_0_95_1 : ∀ j : Int, turned_0 j = turned_1 j) (hE_0_95_2 : ∀ j : Int, turned_1 j = turned_2 j) (hE_0_95_3 : ∀ j : Int, turned_2 j = turned_3 j) (hE_0_102_1 : ∀ j : Int, itemLayer_0 j = itemLayer_1 j) (hE_0_102_2 : ∀ j : Int, itemLayer_1 j = itemLayer_2 j) (hE_0_102_3 : ∀ j : Int, itemLayer_2 j = itemLayer_3 j) (hE_0_104_1 : ∀ j : Int, firstJoint_0 j = firstJoint_1 j) (hE_0_104_2 : ∀ j : Int, firstJoint_1 j = firstJoint_2 j) (hE_0_104_3 : ∀ j : Int, firstJoint_2 j = firstJoint_3 j) (hE_0_105_1 : ∀ j : Int, layerSize_0 j = layerSize_1 j) (hE_0_105_2 : ∀ j : Int, layerSize_1 j = layerSize_2 j) (hE_0_105_3 : ∀ j : Int, layerSize_2 j = layerSize_3 j) (hE_0_106_1 : ∀ j : Int, layerItem_0 j = layerItem_1 j) (hE_0_106_2 : ∀ j : Int, layerItem_1 j = layerItem_2 j) (hE_0_106_3 : ∀ j : Int, layerItem_2 j = layerItem_3 j) (hE_0_108_1 : ∀ j : Int, lineA_0 j = lineA_1 j) (hE_0_108_2 : ∀ j : Int, lineA_1 j = lineA_2 j) (hE_0_108_3 : ∀ j : Int, lineA_2 j = lineA_3 j) (hE_0_109_1 : ∀ j : Int, lineB_0 j = lineB_1 j) (hE_0_109_2 : ∀ j : Int, lineB_1 j = lineB_2 j) (hE_0_109_3 : ∀ j : Int, lineB_2 j = lineB_3 j) (hE_0_117_1 : ∀ j : Int, 0 ≤ j → (j = x7 → row_0 j = x8) ∧ (j ≠ x7 → row_0 j = row_1 j)) (hE_0_117_2 : ∀ j : Int, row_1 j = row_2 j) (hE_0_117_3 : ∀ j : Int, row_2 j = row_3 j) (hE_0_119_1 : ∀ j : Int, meanA_0 j = meanA_1 j) (hE_0_119_2 : ∀ j : Int, meanA_1 j = meanA_2 j) (hE_0_120_1 : ∀ j : Int, meanB_0 j = meanB_1 j) (hE_0_120_3 : ∀ j : Int, meanB_2 j = meanB_3 j) (kz_0_100 : 0 ≤ items_0 ∧ items_0 ≤ 76) (kz_0_101 : 0 ≤ layerMany_0 ∧ layerMany_0 ≤ 76) (kz_0_107 : 0 ≤ lines_0 ∧ lines_0 ≤ 130) : BM1 (layerItem_0) (row_0) (x4) (x20) := by
  subst fe_0_5_1
  subst fe_0_100_1
  subst fe_0_101_1
  subst fe_0_107_1
  subst fe_0_5_2
  subst fe_0_100_2
  subst fe_0_101_2
  subst fe_0_107_2
  subst fe_0_5_3
  subst fe_0_100_3
  subst fe_0_101_3
  subst fe_0_107_3
  have e_hE_0_2_1 := funext hE_0_2_1; subst e_hE_0_2_1
  have e_hE_0_2_2 := funext hE_0_2_2; subst e_hE_0_2_2
  have e_hE_0_2_3 := funext hE_0_2_3; subst e_hE_0_2_3
  have e_hE_0_95_1 := funext hE_0_95_1; subst e_hE_0_95_1
  have e_hE_0_95_2 := funext hE_0_95_2; subst e_hE_0_95_2
  have e_hE_0_95_3 := funext hE_0_95_3; subst e_hE_0_95_3
  have e_hE_0_102_1 := funext hE_0_102_1; subst e_hE_0_102_1
  have e_hE_0_102_2 := funext hE_0_102_2; subst e_hE_0_102_2
  have e_hE_0_102_3 := funext hE_0_102_3; subst e_hE_0_102_3
  have e_hE_0_104_1 := funext hE_0_104_1; subst e_hE_0_104_1
  have e_hE_0_104_2 := funext hE_0_104_2; subst e_hE_0_104_2
  have e_hE_0_104_3 := funext hE_0_104_3; subst e_hE_0_104_3
  have e_hE_0_105_1 := funext hE_0_105_1; subst e_hE_0_105_1
  have e_hE_0_105_2 := funext hE_0_105_2; subst e_hE_0_105_2
  have e_hE_0_105_3 := funext hE_0_105_3; subst e_hE_0_105_3
  have e_hE_0_106_1 := funext hE_0_106_1; subst e_hE_0_106_1
  have e_hE_0_106_2 := funext hE_0_106_2; subst e_hE_0_106_2
  have e_hE_0_106_3 := funext hE_0_106_3; subst e_hE_0_106_3
  have e_hE_0_108_1 := funext hE_0_108_1; subst e_hE_0_108_1
  have e_hE_0_108_2 := funext hE_0_108_2; subst e_hE_0_108_2
  have e_hE_0_108_3 := funext hE_0_108_3; subst e_hE_0_108_3
  have e_hE_0_109_1 := funext hE_0_109_1; subst e_hE_0_109_1
  have e_hE_0_109_2 := funext hE_0_109_2; subst e_hE_0_109_2
  have e_hE_0_109_3 := funext hE_0_109_3; subst e_hE_0_109_3
  have e_hE_0_117_2 := funext hE_0_117_2; subst e_hE_0_117_2
  have e_hE_0_117_3 := funext hE_0_117_3; subst e_hE_0_117_3
  have e_hE_0_119_1 := funext hE_0_119_1; subst e_hE_0_119_1
  have e_hE_0_119_2 := funext hE_0_119_2; subst e_hE_0_119_2
  have e_hE_0_120_1 := funext hE_0_120_1; subst e_hE_0_120_1
  have e_hE_0_120_3 := funext hE_0_120_3; subst e_hE_0_120_3
  first
    | (intro j a b; exfalso; omega)
    | exact bm1_next ‹BM1 _ _ _ _› (by assumption) (by assumption) (by assumption)
def o_Mo_byMeans_5 : or_T := (10, 21, [(0, (2, 0, 0, [165])), (4, (0, 0, 75, [])), (7, (0, 0, 75, [])), (8, (0, 0, 75, [])), (13, (2, 0, 0, [251])), (16, (2, 0, 0, [252])), (19, (2, 0, 0, [249])), (20, (0, 1, 76, []))], [(6, [20, 7], [1]), (24, [0, 3], []), (100, [19, 7, 8], []), (9, [19, 3], [117]), (100, [16, 7, 18], []), (100, [13, 7, 15], []), (20, [3, 4, 7], [60, 0, 2, 451, 106, 117]), (20, [8, 3, 4, 7], [50, 0, 1, 1106, 1, 2, 1, 0, 3, 1, 106, 4, 6, 6, 2, 0, 76, 1, 2, 1, 3])], [], [], [(20, [3, 4, 20], [60, 0, 2, 451, 106, 117])], [], [(20, 7, 1, 1), (7, 6, -4294967296, -1)])
theorem oo_Mo_byMeans_5 {kA : Nat → ClassId} : or_ok PRD kA GG o_Mo_byMeans_5 := by
  refine or_mk fun A ta ws vs hD hth hl => ?_
  intro t0 r0 t4 k4 t7 k7 t8 k8 t13 r13 t16 r16 t19 r19 t20 k20 d0 d3 f0 f9 ta1 w1 le1 s1 f11 ta2 w2 le2 s2 ta3 w3 le3 s3 f42 f44
  replace f0 := shm_4 f0
  replace f9 := shm_5 f9
  have s1 : (∀ b j, w_el ws b j = if b = v_ad (n_v vs 19) ∧ j = (v_iv (n_v vs 7)).toNat then v_iv (n_v vs 8) else w_el w1 b j) ∧ ∀ b k, w_fd ws b k = w_fd w1 b k := s1.2
  replace f11 := shm_700 f11
  have s2 : (∀ b j, w_el w1 b j = if b = v_ad (n_v vs 16) ∧ j = (v_iv (n_v vs 7)).toNat then v_iv (n_v vs 18) else w_el w2 b j) ∧ ∀ b k, w_fd w1 b k = w_fd w2 b k := s2.2
  have s3 : (∀ b j, w_el w2 b j = if b = v_ad (n_v vs 13) ∧ j = (v_iv (n_v vs 7)).toNat then v_iv (n_v vs 15) else w_el w3 b j) ∧ ∀ b k, w_fd w2 b k = w_fd w3 b k := s3.2
  replace f42 := shm_939 f42
  replace f44 := shm_941 f44
  have q3 : n_v vs 3 = n_v vs 0 := f9.symm
  simp only [q3] at f11 f42 f44
  have ar_0_2_1 : w_ar w1 (n_v vs 0) 2 = w_ar ws (n_v vs 0) 2 := congrArg v_ad (s1.2 _ _).symm
  have ar_0_2_2 : w_ar w2 (n_v vs 0) 2 = w_ar ws (n_v vs 0) 2 := by rw [← ar_0_2_1]; show v_ad (w_fd w2 _ _) = v_ad (w_fd w1 _ _); rw [s2.2]
  have ar_0_2_3 : w_ar w3 (n_v vs 0) 2 = w_ar ws (n_v vs 0) 2 := by rw [← ar_0_2_2]; show v_ad (w_fd w3 _ _) = v_ad (w_fd w2 _ _); rw [s3.2]
  have cr_0_2 := fdq_12 hD hth r0
  have ar_0_95_1 : w_ar w1 (n_v vs 0) 95 = w_ar ws (n_v vs 0) 95 := congrArg v_ad (s1.2 _ _).symm
  have ar_0_95_2 : w_ar w2 (n_v vs 0) 95 = w_ar ws (n_v vs 0) 95 := by rw [← ar_0_95_1]; show v_ad (w_fd w2 _ _) = v_ad (w_fd w1 _ _); rw [s2.2]
  have ar_0_95_3 : w_ar w3 (n_v vs 0) 95 = w_ar ws (n_v vs 0) 95 := by rw [← ar_0_95_2]; show v_ad (w_fd w3 _ _) = v_ad (w_fd w2 _ _); rw [s3.2]
  have cr_0_95 := fdq_129 hD hth r0
  have ar_0_102_1 : w_ar w1 (n_v vs 0) 102 = w_ar ws (n_v vs 0) 102 := congrArg v_ad (s1.2 _ _).symm
  have ar_0_102_2 : w_ar w2 (n_v vs 0) 102 = w_ar ws (n_v vs 0) 102 := by rw [← ar_0_102_1]; show v_ad (w_fd w2 _ _) = v_ad (w_fd w1 _ _); rw [s2.2]
  have ar_0_102_3 : w_ar w3 (n_v vs 0) 102 = w_ar ws (n_v vs 0) 102 := by rw [← ar_0_102_2]; show v_ad (w_fd w3 _ _) = v_ad (w_fd w2 _ _); rw [s3.2]
  have cr_0_102 := fdq_158 hD hth r0
  have ar_0_104_1 : w_ar w1 (n_v vs 0) 104 = w_ar ws (n_v vs 0) 104 := congrArg v_ad (s1.2 _ _).symm
  have ar_0_104_2 : w_ar w2 (n_v vs 0) 104 = w_ar ws (n_v vs 0) 104 := by rw [← ar_0_104_1]; show v_ad (w_fd w2 _ _) = v_ad (w_fd w1 _ _); rw [s2.2]
  have ar_0_104_3 : w_ar w3 (n_v vs 0) 104 = w_ar ws (n_v vs 0) 104 := by rw [← ar_0_104_2]; show v_ad (w_fd w3 _ _) = v_ad (w_fd w2 _ _); rw [s3.2]
  have cr_0_104 := fdq_169 hD hth r0
  have ar_0_105_1 : w_ar w1 (n_v vs 0) 105 = w_ar ws (n_v vs 0) 105 := congrArg v_ad (s1.2 _ _).symm
  have ar_0_105_2 : w_ar w2 (n_v vs 0) 105 = w_ar ws (n_v vs 0) 105 := by rw [← ar_0_105_1]; show v_ad (w_fd w2 _ _) = v_ad (w_fd w1 _ _); rw [s2.2]
  have ar_0_105_3 : w_ar w3 (n_v vs 0) 105 = w_ar ws (n_v vs 0) 105 := by rw [← ar_0_105_2]; show v_ad (w_fd w3 _ _) = v_ad (w_fd w2 _ _); rw [s3.2]
  have cr_0_105 := fdq_121 hD hth r0
  have ar_0_106_1 : w_ar w1 (n_v vs 0) 106 = w_ar ws (n_v vs 0) 106 := congrArg v_ad (s1.2 _ _).symm
  have ar_0_106_2 : w_ar w2 (n_v vs 0) 106 = w_ar ws (n_v vs 0) 106 := by rw [← ar_0_106_1]; show v_ad (w_fd w2 _ _) = v_ad (w_fd w1 _ _); rw [s2.2]
  have ar_0_106_3 : w_ar w3 (n_v vs 0) 106 = w_ar ws (n_v vs 0) 106 := by rw [← ar_0_106_2]; show v_ad (w_fd w3 _ _) = v_ad (w_fd w2 _ _); rw [s3.2]
  have cr_0_106 := fdq_122 hD hth r0
  have ar_0_108_1 : w_ar w1 (n_v vs 0) 108 = w_ar ws (n_v vs 0) 108 := congrArg v_ad (s1.2 _ _).symm
  have ar_0_108_2 : w_ar w2 (n_v vs 0) 108 = w_ar ws (n_v vs 0) 108 := by rw [← ar_0_108_1]; show v_ad (w_fd w2 _ _) = v_ad (w_fd w1 _ _); rw [s2.2]
  have ar_0_108_3 : w_ar w3 (n_v vs 0) 108 = w_ar ws (n_v vs 0) 108 := by rw [← ar_0_108_2]; show v_ad (w_fd w3 _ _) = v_ad (w_fd w2 _ _); rw [s3.2]
  have cr_0_108 := fdq_159 hD hth r0
  have ar_0_109_1 : w_ar w1 (n_v vs 0) 109 = w_ar ws (n_v vs 0) 109 := congrArg v_ad (s1.2 _ _).symm
  have ar_0_109_2 : w_ar w2 (n_v vs 0) 109 = w_ar ws (n_v vs 0) 109 := by rw [← ar_0_109_1]; show v_ad (w_fd w2 _ _) = v_ad (w_fd w1 _ _); rw [s2.2]
  have ar_0_109_3 : w_ar w3 (n_v vs 0) 109 = w_ar ws (n_v vs 0) 109 := by rw [← ar_0_109_2]; show v_ad (w_fd w3 _ _) = v_ad (w_fd w2 _ _); rw [s3.2]
  have cr_0_109 := fdq_160 hD hth r0
  have ar_0_117_1 : w_ar w1 (n_v vs 0) 117 = w_ar ws (n_v vs 0) 117 := congrArg v_ad (s1.2 _ _).symm
  have ar_0_117_2 : w_ar w2 (n_v vs 0) 117 = w_ar ws (n_v vs 0) 117 := by rw [← ar_0_117_1]; show v_ad (w_fd w2 _ _) = v_ad (w_fd w1 _ _); rw [s2.2]
  have ar_0_117_3 : w_ar w3 (n_v vs 0) 117 = w_ar ws (n_v vs 0) 117 := by rw [← ar_0_117_2]; show v_ad (w_fd w3 _ _) = v_ad (w_fd w2 _ _); rw [s3.2]
  have cr_0_117 := fdq_180 hD hth r0
  have cr_0_119 := fdq_229 hD hth r0
  have cr_0_120 := fdq_230 hD hth r0
  have ad_19 : v_ad (n_v vs 19) = w_ar ws (n_v vs 0) 117 := (congrArg v_ad f11).trans ar_0_117_1
  simp only [ar_0_2_3, ar_0_95_3, ar_0_102_3, ar_0_104_3, ar_0_108_3, ar_0_109_3, ar_0_105_3, ar_0_106_3, ar_0_117_3] at f42 f44
  have fe_0_5_1 : w_fi ws (n_v vs 0) 5 = w_fi w1 (n_v vs 0) 5 := congrArg v_iv (s1.2 _ _)
  have fe_0_100_1 : w_fi ws (n_v vs 0) 100 = w_fi w1 (n_v vs 0) 100 := congrArg v_iv (s1.2 _ _)
  have fe_0_101_1 : w_fi ws (n_v vs 0) 101 = w_fi w1 (n_v vs 0) 101 := congrArg v_iv (s1.2 _ _)
  have fe_0_107_1 : w_fi ws (n_v vs 0) 107 = w_fi w1 (n_v vs 0) 107 := congrArg v_iv (s1.2 _ _)
  have fe_0_5_2 : w_fi w1 (n_v vs 0) 5 = w_fi w2 (n_v vs 0) 5 := congrArg v_iv (s2.2 _ _)
  have fe_0_100_2 : w_fi w1 (n_v vs 0) 100 = w_fi w2 (n_v vs 0) 100 := congrArg v_iv (s2.2 _ _)
  have fe_0_101_2 : w_fi w1 (n_v vs 0) 101 = w_fi w2 (n_v vs 0) 101 := congrArg v_iv (s2.2 _ _)
  have fe_0_107_2 : w_fi w1 (n_v vs 0) 107 = w_fi w2 (n_v vs 0) 107 := congrArg v_iv (s2.2 _ _)
  have fe_0_5_3 : w_fi w2 (n_v vs 0) 5 = w_fi w3 (n_v vs 0) 5 := congrArg v_iv (s3.2 _ _)
  have fe_0_100_3 : w_fi w2 (n_v vs 0) 100 = w_fi w3 (n_v vs 0) 100 := congrArg v_iv (s3.2 _ _)
  have fe_0_101_3 : w_fi w2 (n_v vs 0) 101 = w_fi w3 (n_v vs 0) 101 := congrArg v_iv (s3.2 _ _)
  have fe_0_107_3 : w_fi w2 (n_v vs 0) 107 = w_fi w3 (n_v vs 0) 107 := congrArg v_iv (s3.2 _ _)
  have hE_0_2_1 : ∀ j : Int, w_ei ws (w_ar ws (n_v vs 0) 2) j = w_ei w1 (w_ar ws (n_v vs 0) 2) j := el_kp s1.1 r19 cr_0_2 (by decide)
  have hE_0_2_2 : ∀ j : Int, w_ei w1 (w_ar ws (n_v vs 0) 2) j = w_ei w2 (w_ar ws (n_v vs 0) 2) j := el_kp s2.1 r16 cr_0_2 (by decide)
  have hE_0_2_3 : ∀ j : Int, w_ei w2 (w_ar ws (n_v vs 0) 2) j = w_ei w3 (w_ar ws (n_v vs 0) 2) j := el_kp s3.1 r13 cr_0_2 (by decide)
  have hE_0_95_1 : ∀ j : Int, w_ei ws (w_ar ws (n_v vs 0) 95) j = w_ei w1 (w_ar ws (n_v vs 0) 95) j := el_kp s1.1 r19 cr_0_95 (by decide)
  have hE_0_95_2 : ∀ j : Int, w_ei w1 (w_ar ws (n_v vs 0) 95) j = w_ei w2 (w_ar ws (n_v vs 0) 95) j := el_kp s2.1 r16 cr_0_95 (by decide)
  have hE_0_95_3 : ∀ j : Int, w_ei w2 (w_ar ws (n_v vs 0) 95) j = w_ei w3 (w_ar ws (n_v vs 0) 95) j := el_kp s3.1 r13 cr_0_95 (by decide)
  have hE_0_102_1 : ∀ j : Int, w_ei ws (w_ar ws (n_v vs 0) 102) j = w_ei w1 (w_ar ws (n_v vs 0) 102) j := el_kp s1.1 r19 cr_0_102 (by decide)
  have hE_0_102_2 : ∀ j : Int, w_ei w1 (w_ar ws (n_v vs 0) 102) j = w_ei w2 (w_ar ws (n_v vs 0) 102) j := el_kp s2.1 r16 cr_0_102 (by decide)
  have hE_0_102_3 : ∀ j : Int, w_ei w2 (w_ar ws (n_v vs 0) 102) j = w_ei w3 (w_ar ws (n_v vs 0) 102) j := el_kp s3.1 r13 cr_0_102 (by decide)
  have hE_0_104_1 : ∀ j : Int, w_ei ws (w_ar ws (n_v vs 0) 104) j = w_ei w1 (w_ar ws (n_v vs 0) 104) j := el_kp s1.1 r19 cr_0_104 (by decide)
  have hE_0_104_2 : ∀ j : Int, w_ei w1 (w_ar ws (n_v vs 0) 104) j = w_ei w2 (w_ar ws (n_v vs 0) 104) j := el_kp s2.1 r16 cr_0_104 (by decide)
  have hE_0_104_3 : ∀ j : Int, w_ei w2 (w_ar ws (n_v vs 0) 104) j = w_ei w3 (w_ar ws (n_v vs 0) 104) j := el_kp s3.1 r13 cr_0_104 (by decide)
  have hE_0_105_1 : ∀ j : Int, w_ei ws (w_ar ws (n_v vs 0) 105) j = w_ei w1 (w_ar ws (n_v vs 0) 105) j := el_kp s1.1 r19 cr_0_105 (by decide)
  have hE_0_105_2 : ∀ j : Int, w_ei w1 (w_ar ws (n_v vs 0) 105) j = w_ei w2 (w_ar ws (n_v vs 0) 105) j := el_kp s2.1 r16 cr_0_105 (by decide)
  have hE_0_105_3 : ∀ j : Int, w_ei w2 (w_ar ws (n_v vs 0) 105) j = w_ei w3 (w_ar ws (n_v vs 0) 105) j := el_kp s3.1 r13 cr_0_105 (by decide)
  have hE_0_106_1 : ∀ j : Int, w_ei ws (w_ar ws (n_v vs 0) 106) j = w_ei w1 (w_ar ws (n_v vs 0) 106) j := el_kp s1.1 r19 cr_0_106 (by decide)
  have hE_0_106_2 : ∀ j : Int, w_ei w1 (w_ar ws (n_v vs 0) 106) j = w_ei w2 (w_ar ws (n_v vs 0) 106) j := el_kp s2.1 r16 cr_0_106 (by decide)
  have hE_0_106_3 : ∀ j : Int, w_ei w2 (w_ar ws (n_v vs 0) 106) j = w_ei w3 (w_ar ws (n_v vs 0) 106) j := el_kp s3.1 r13 cr_0_106 (by decide)
  have hE_0_108_1 : ∀ j : Int, w_ei ws (w_ar ws (n_v vs 0) 108) j = w_ei w1 (w_ar ws (n_v vs 0) 108) j := el_kp s1.1 r19 cr_0_108 (by decide)
  have hE_0_108_2 : ∀ j : Int, w_ei w1 (w_ar ws (n_v vs 0) 108) j = w_ei w2 (w_ar ws (n_v vs 0) 108) j := el_kp s2.1 r16 cr_0_108 (by decide)
  have hE_0_108_3 : ∀ j : Int, w_ei w2 (w_ar ws (n_v vs 0) 108) j = w_ei w3 (w_ar ws (n_v vs 0) 108) j := el_kp s3.1 r13 cr_0_108 (by decide)
  have hE_0_109_1 : ∀ j : Int, w_ei ws (w_ar ws (n_v vs 0) 109) j = w_ei w1 (w_ar ws (n_v vs 0) 109) j := el_kp s1.1 r19 cr_0_109 (by decide)
  have hE_0_109_2 : ∀ j : Int, w_ei w1 (w_ar ws (n_v vs 0) 109) j = w_ei w2 (w_ar ws (n_v vs 0) 109) j := el_kp s2.1 r16 cr_0_109 (by decide)
  have hE_0_109_3 : ∀ j : Int, w_ei w2 (w_ar ws (n_v vs 0) 109) j = w_ei w3 (w_ar ws (n_v vs 0) 109) j := el_kp s3.1 r13 cr_0_109 (by decide)
  have hE_0_117_1 : ∀ j : Int, 0 ≤ j → (j = v_iv (n_v vs 7) → w_ei ws (w_ar ws (n_v vs 0) 117) j = v_iv (n_v vs 8)) ∧ (j ≠ v_iv (n_v vs 7) → w_ei ws (w_ar ws (n_v vs 0) 117) j = w_ei w1 (w_ar ws (n_v vs 0) 117) j) := fun j hj => ⟨fun h => by unfold w_ei; rw [s1.1, if_pos ⟨ad_19.symm, by rw [h]⟩], fun h => by unfold w_ei; rw [s1.1, if_neg (fun e => h (by have := e.2; omega))]⟩
  have hE_0_117_2 : ∀ j : Int, w_ei w1 (w_ar ws (n_v vs 0) 117) j = w_ei w2 (w_ar ws (n_v vs 0) 117) j := el_kp s2.1 r16 cr_0_117 (by decide)
  have hE_0_117_3 : ∀ j : Int, w_ei w2 (w_ar ws (n_v vs 0) 117) j = w_ei w3 (w_ar ws (n_v vs 0) 117) j := el_kp s3.1 r13 cr_0_117 (by decide)
  have hE_0_119_1 : ∀ j : Int, w_ei ws (w_ar ws (n_v vs 0) 119) j = w_ei w1 (w_ar ws (n_v vs 0) 119) j := el_kp s1.1 r19 cr_0_119 (by decide)
  have hE_0_119_2 : ∀ j : Int, w_ei w1 (w_ar ws (n_v vs 0) 119) j = w_ei w2 (w_ar ws (n_v vs 0) 119) j := el_kp s2.1 r16 cr_0_119 (by decide)
  have hE_0_120_1 : ∀ j : Int, w_ei ws (w_ar ws (n_v vs 0) 120) j = w_ei w1 (w_ar ws (n_v vs 0) 120) j := el_kp s1.1 r19 cr_0_120 (by decide)
  have hE_0_120_3 : ∀ j : Int, w_ei w2 (w_ar ws (n_v vs 0) 120) j = w_ei w3 (w_ar ws (n_v vs 0) 120) j := el_kp s3.1 r13 cr_0_120 (by decide)
  have kz_0_100 := fdq_161 hD hth r0
  have kz_0_101 := fdq_124 hD hth r0
  have kz_0_107 := fdq_162 hD hth r0
  have nf0 : fc_1 PRD (20, [3, 4, 20], [60, 0, 2, 451, 106, 117]) ws (vs) := by
    refine ⟨nf_in hl rfl, sgq_939 ?_⟩
    · show BM1 (w_ei ws (w_ar ws (n_v vs 3) 106)) (w_ei ws (w_ar ws (n_v vs 3) 117)) (v_iv (n_v vs 4)) (v_iv (n_v vs 20))
      rw [q3]
      exact vc_Mo_byMeans_5_0 (v_iv (n_v vs 4)) (v_iv (n_v vs 7)) (v_iv (n_v vs 8)) (v_iv (n_v vs 20)) (w_ei ws (w_ar ws (n_v vs 0) 2)) (w_ei ws (w_ar ws (n_v vs 0) 95)) (w_ei ws (w_ar ws (n_v vs 0) 102)) (w_ei ws (w_ar ws (n_v vs 0) 104)) (w_ei ws (w_ar ws (n_v vs 0) 108)) (w_ei ws (w_ar ws (n_v vs 0) 109)) (w_fi ws (n_v vs 0) 5) (w_fi ws (n_v vs 0) 100) (w_fi ws (n_v vs 0) 101) (w_fi ws (n_v vs 0) 107) (w_ei ws (w_ar ws (n_v vs 0) 105)) (w_ei ws (w_ar ws (n_v vs 0) 106)) (w_ei w1 (w_ar ws (n_v vs 0) 2)) (w_ei w1 (w_ar ws (n_v vs 0) 95)) (w_ei w1 (w_ar ws (n_v vs 0) 102)) (w_ei w1 (w_ar ws (n_v vs 0) 104)) (w_ei w1 (w_ar ws (n_v vs 0) 108)) (w_ei w1 (w_ar ws (n_v vs 0) 109)) (w_fi w1 (n_v vs 0) 5) (w_fi w1 (n_v vs 0) 100) (w_fi w1 (n_v vs 0) 101) (w_fi w1 (n_v vs 0) 107) (w_ei w1 (w_ar ws (n_v vs 0) 105)) (w_ei w1 (w_ar ws (n_v vs 0) 106)) (w_ei w1 (w_ar ws (n_v vs 0) 117)) (w_ei w2 (w_ar ws (n_v vs 0) 2)) (w_ei w2 (w_ar ws (n_v vs 0) 95)) (w_ei w2 (w_ar ws (n_v vs 0) 102)) (w_ei w2 (w_ar ws (n_v vs 0) 104)) (w_ei w2 (w_ar ws (n_v vs 0) 108)) (w_ei w2 (w_ar ws (n_v vs 0) 109)) (w_fi w2 (n_v vs 0) 5) (w_fi w2 (n_v vs 0) 100) (w_fi w2 (n_v vs 0) 101) (w_fi w2 (n_v vs 0) 107) (w_ei w2 (w_ar ws (n_v vs 0) 105)) (w_ei w2 (w_ar ws (n_v vs 0) 106)) (w_ei w2 (w_ar ws (n_v vs 0) 117)) (w_fi w3 (n_v vs 0) 107) (w_ei w3 (w_ar ws (n_v vs 0) 2)) (w_ei w3 (w_ar ws (n_v vs 0) 95)) (w_ei w3 (w_ar ws (n_v vs 0) 102)) (w_ei w3 (w_ar ws (n_v vs 0) 104)) (w_ei w3 (w_ar ws (n_v vs 0) 108)) (w_ei w3 (w_ar ws (n_v vs 0) 109)) (w_fi w3 (n_v vs 0) 5) (w_fi w3 (n_v vs 0) 100) (w_fi w3 (n_v vs 0) 101) (w_ei w3 (w_ar ws (n_v vs 0) 105)) (w_ei w3 (w_ar ws (n_v vs 0) 106)) (w_ei w3 (w_ar ws (n_v vs 0) 117)) (w_ei ws (w_ar ws (n_v vs 0) 117)) (w_ei ws (w_ar ws (n_v vs 0) 119)) (w_ei w1 (w_ar ws (n_v vs 0) 119)) (w_ei w2 (w_ar ws (n_v vs 0) 119)) (w_ei ws (w_ar ws (n_v vs 0) 120)) (w_ei w1 (w_ar ws (n_v vs 0) 120)) (w_ei w2 (w_ar ws (n_v vs 0) 120)) (w_ei w3 (w_ar ws (n_v vs 0) 120)) k4 k7 k8 k20 f0 f42 f44 fe_0_5_1 fe_0_100_1 fe_0_101_1 fe_0_107_1 fe_0_5_2 fe_0_100_2 fe_0_101_2 fe_0_107_2 fe_0_5_3 fe_0_100_3 fe_0_101_3 fe_0_107_3 hE_0_2_1 hE_0_2_2 hE_0_2_3 hE_0_95_1 hE_0_95_2 hE_0_95_3 hE_0_102_1 hE_0_102_2 hE_0_102_3 hE_0_104_1 hE_0_104_2 hE_0_104_3 hE_0_105_1 hE_0_105_2 hE_0_105_3 hE_0_106_1 hE_0_106_2 hE_0_106_3 hE_0_108_1 hE_0_108_2 hE_0_108_3 hE_0_109_1 hE_0_109_2 hE_0_109_3 hE_0_117_1 hE_0_117_2 hE_0_117_3 hE_0_119_1 hE_0_119_2 hE_0_120_1 hE_0_120_3 kz_0_100 kz_0_101 kz_0_107
  refine ⟨(fun _ h => (by cases h)), [], trivial, ?_, (fun _ h => (by cases h))⟩
  rw [List.append_nil]
  exact List.forall_mem_cons.mpr ⟨⟨show (20 : Nat) < 100 from by decide, nf0⟩, (fun _ h => (by cases h))⟩
set_option maxHeartbeats 4000000 in
theorem vc_Mo_byMeans_6_0 (x4 : Int) (x7 : Int) (x11 : Int) (x12 : Int) (x16 : Int) (lineB_0 : Int → Int) (lineA_0 : Int → Int) (lines_0 : Int) (all_0 : Int → Int) (turned_0 : Int → Int) (itemLayer_0 : Int → Int) (firstJoint_0 : Int → Int) (r_0 : Int) (items_0 : Int) (layerMany_0 : Int) (k11 : 0 ≤ x11 ∧ x11 ≤ 129) (k12 : 1 ≤ x12 ∧ x12 ≤ 130) (k16 : 0 ≤ x16 ∧ x16 ≤ 75) (d1 : x12 + (-4294967296) ≤ x11 ∧ x11 ≤ x12 + (-1)) (h0 : x16 = lineB_0 (x11)) (g6 : x12 = lines_0) (f7 : LSA (r_0) (items_0) (layerMany_0) (lines_0) (all_0) (turned_0) (itemLayer_0) (firstJoint_0) (lineA_0) (lineB_0)) (kz_0_100 : 0 ≤ items_0 ∧ items_0 ≤ 76) (kz_0_101 : 0 ≤ layerMany_0 ∧ layerMany_0 ≤ 76) (kz_0_107 : 0 ≤ lines_0 ∧ lines_0 ≤ 130) : (0 ≤ x16) ∧ ((x16 + 1) ≤ items_0) := by
  first
    | omega
    | exact lsa_la (p := x11) ‹LSA _ _ _ _ _ _ _ _ _ _› (by omega) (by omega) (by assumption)
    | exact lsa_lb (p := x11) ‹LSA _ _ _ _ _ _ _ _ _ _› (by omega) (by omega) (by assumption)
    | (have h := lsb_sz (l := x1) (n := x4) ‹LSB _ _ _ _ _› (by omega) (by omega) (by assumption); omega)
    | (rw [← (by omega : x11 = 76 * x4 + x7)]; assumption)
