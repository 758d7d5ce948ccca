def n_Ho_dot_an : List an_T := []
def t_Ho_dot_ct : ct_L := []
set_option maxRecDepth 100000 in
theorem c_Ho_dot {l : Launch} {D : va_G} {kA : Nat → ClassId} : ct_ok PRD l D kA GG y_Ho_dot z_Ho_dot e_Ho_dot := chk_all_ok (FT := [(73, 12, 13), (76, 12, 14), (79, 12, 15)]) (PT := []) (CT := t_Ho_dot_ct) (KT := []) (NT := []) (AN := n_Ho_dot_an) (OT := []) 0 200 (List.forall_mem_nil _) (by decide +kernel) ⟨List.forall_mem_cons.mpr ⟨gf_Ho_73, List.forall_mem_cons.mpr ⟨gf_Ho_76, List.forall_mem_cons.mpr ⟨gf_Ho_79, List.forall_mem_nil _⟩⟩⟩, List.forall_mem_nil _, List.forall_mem_nil _, List.forall_mem_nil _, List.forall_mem_nil _, GG_pl⟩ (by decide +kernel)
def n_Ho_fault_an : List an_T := []
def t_Ho_fault_ct : ct_L := []
set_option maxRecDepth 100000 in
theorem c_Ho_fault {l : Launch} {D : va_G} {kA : Nat → ClassId} : ct_ok PRD l D kA GG y_Ho_fault z_Ho_fault e_Ho_fault := chk_all_ok (FT := [(38, 12, 4), (135, 8, 2), (138, 8, 3)]) (PT := []) (CT := t_Ho_fault_ct) (KT := []) (NT := []) (AN := n_Ho_fault_an) (OT := []) 0 200 (List.forall_mem_nil _) (by decide +kernel) ⟨List.forall_mem_cons.mpr ⟨gf_Ho_38, List.forall_mem_cons.mpr ⟨gf_Ho_135, List.forall_mem_cons.mpr ⟨gf_Ho_138, List.forall_mem_nil _⟩⟩⟩, List.forall_mem_nil _, List.forall_mem_nil _, List.forall_mem_nil _, List.forall_mem_nil _, GG_pl⟩ (by decide +kernel)
def n_Ho_isPlace_an : List an_T := []
def t_Ho_isPlace_ct : ct_L := []
set_option maxRecDepth 100000 in
theorem c_Ho_isPlace {l : Launch} {D : va_G} {kA : Nat → ClassId} : ct_ok PRD l D kA GG y_Ho_isPlace z_Ho_isPlace e_Ho_isPlace := chk_all_ok (FT := []) (PT := []) (CT := t_Ho_isPlace_ct) (KT := []) (NT := []) (AN := n_Ho_isPlace_an) (OT := []) 0 200 (List.forall_mem_nil _) (by decide +kernel) ⟨List.forall_mem_nil _, List.forall_mem_nil _, List.forall_mem_nil _, List.forall_mem_nil _, List.forall_mem_nil _, GG_pl⟩ (by decide +kernel)
def n_Ho_map_an : List an_T := []
def t_Ho_map_ct : ct_L := []
set_option maxRecDepth 100000 in
theorem c_Ho_map {l : Launch} {D : va_G} {kA : Nat → ClassId} : ct_ok PRD l D kA GG y_Ho_map z_Ho_map e_Ho_map := chk_all_ok (FT := [(49, 12, 6), (53, 12, 7), (57, 12, 8)]) (PT := []) (CT := t_Ho_map_ct) (KT := []) (NT := []) (AN := n_Ho_map_an) (OT := []) 0 200 (List.forall_mem_nil _) (by decide +kernel) ⟨List.forall_mem_cons.mpr ⟨gf_Ho_49, List.forall_mem_cons.mpr ⟨gf_Ho_53, List.forall_mem_cons.mpr ⟨gf_Ho_57, List.forall_mem_nil _⟩⟩⟩, List.forall_mem_nil _, List.forall_mem_nil _, List.forall_mem_nil _, List.forall_mem_nil _, GG_pl⟩ (by decide +kernel)
def n_Ho_octet_an : List an_T := []
def t_Ho_octet_ct : ct_L := []
set_option maxRecDepth 100000 in
theorem c_Ho_octet {l : Launch} {D : va_G} {kA : Nat → ClassId} : ct_ok PRD l D kA GG y_Ho_octet z_Ho_octet e_Ho_octet := chk_all_ok (FT := [(60, 12, 9), (67, 12, 11)]) (PT := []) (CT := t_Ho_octet_ct) (KT := []) (NT := []) (AN := n_Ho_octet_an) (OT := []) 0 200 (List.forall_mem_nil _) (by decide +kernel) ⟨List.forall_mem_cons.mpr ⟨gf_Ho_60, List.forall_mem_cons.mpr ⟨gf_Ho_67, List.forall_mem_nil _⟩⟩, List.forall_mem_nil _, List.forall_mem_nil _, List.forall_mem_nil _, List.forall_mem_nil _, GG_pl⟩ (by decide +kernel)
def n_Ho_setDot_an : List an_T := []
def t_Ho_setDot_ct : ct_L := []
set_option maxRecDepth 100000 in
theorem c_Ho_setDot {l : Launch} {D : va_G} {kA : Nat → ClassId} : ct_ok PRD l D kA GG y_Ho_setDot z_Ho_setDot e_Ho_setDot := chk_all_ok (FT := [(73, 12, 13), (76, 12, 14), (79, 12, 15)]) (PT := []) (CT := t_Ho_setDot_ct) (KT := []) (NT := []) (AN := n_Ho_setDot_an) (OT := []) 0 200 (List.forall_mem_nil _) (by decide +kernel) ⟨List.forall_mem_cons.mpr ⟨gf_Ho_73, List.forall_mem_cons.mpr ⟨gf_Ho_76, List.forall_mem_cons.mpr ⟨gf_Ho_79, List.forall_mem_nil _⟩⟩⟩, List.forall_mem_nil _, List.forall_mem_nil _, List.forall_mem_nil _, List.forall_mem_nil _, GG_pl⟩ (by decide +kernel)
set_option maxHeartbeats 4000000 in
theorem vc_Ho_writeByte_0_r0 (x2 : Int) (x3 : Int) (x4 : Int) (x5 : Int) (x6 : Int) (spareLength_0 : Int) (k2 : 0 ≤ x2 ∧ x2 ≤ 99999999) (k3 : 4000 ≤ x3 ∧ x3 ≤ 100000000) (k4 : 4000 ≤ x4 ∧ x4 ≤ 4000) (k5 : 1 ≤ x5 ∧ x5 ≤ 1) (k6 : 4001 ≤ x6 ∧ x6 ≤ 100000001) (d0 : x3 + 1 ≤ x6 ∧ x6 ≤ x3 + 1) (f0 : x6 = x3 + x5) (g1 : x3 = spareLength_0) (f2 : x4 ≤ x3) (f3 : 1 * spareLength_0 + ((-1) * x2 + 0) ≤ 0) (kz_0_12 : 0 ≤ spareLength_0 ∧ spareLength_0 ≤ 100000000) : 4001 ≤ x6 ∧ x6 ≤ 100000000 := by
  first | assumption | omega | grind
def o_Ho_writeByte_0 : or_T := (28, 7, [(0, (2, 0, 0, [12])), (2, (0, 0, 99999999, [])), (3, (0, 4000, 100000000, [])), (4, (0, 4000, 4000, [])), (5, (0, 1, 1, [])), (6, (0, 4001, 100000001, []))], [(1, [6, 3, 5], []), (9, [3, 0], [12]), (7, [3, 4], [3]), (20, [0, 2], [30, 0, 1, 1, 12, -1, 0, 0])], [(6, (0, 4001, 100000000, []))], [], [], [], [(6, 3, 1, 1)])
theorem oo_Ho_writeByte_0 {kA : Nat → ClassId} : or_ok PRD kA GG o_Ho_writeByte_0 := by
  refine or_mk fun A ta ws vs hD hth hl => ?_
  intro t0 r0 t2 k2 t3 k3 t4 k4 t5 k5 t6 k6 d0 f0 f1 f2 f3
  replace f1 := shm_103 f1
  have g1 : v_iv (n_v vs 3) = w_fi ws (n_v vs 0) 12 := congrArg v_iv f1
  have kz_0_12 := fdq_0 hD hth r0
  have hrf0 : 4001 ≤ v_iv (n_v vs 6) ∧ v_iv (n_v vs 6) ≤ 100000000 := vc_Ho_writeByte_0_r0 (v_iv (n_v vs 2)) (v_iv (n_v vs 3)) (v_iv (n_v vs 4)) (v_iv (n_v vs 5)) (v_iv (n_v vs 6)) (w_fi ws (n_v vs 0) 12) k2 k3 k4 k5 k6 d0 (shm_12 f0) g1 (shm_2 f2) (shm_104 f3) kz_0_12
  have rf6 : tv_ok ta (0, 4001, 100000000, []) (n_v vs 6) := tv_in t6 (by omega) (by omega)
  refine ⟨List.forall_mem_cons.mpr ⟨rf6, (fun _ h => (by cases h))⟩, [], trivial, ?_, (fun _ h => (by cases h))⟩
  rw [List.append_nil]
  exact (fun _ h => (by cases h))
set_option maxHeartbeats 4000000 in
theorem vc_Ho_writeByte_1_0 (x2 : Int) (x3 : Int) (x4 : Int) (x5 : Int) (x6 : Int) (spareLength_1 : Int) (spareLength_0 : Int) (k2 : 0 ≤ x2 ∧ x2 ≤ 99999999) (k3 : 4000 ≤ x3 ∧ x3 ≤ 100000000) (k4 : 4000 ≤ x4 ∧ x4 ≤ 4000) (k5 : 1 ≤ x5 ∧ x5 ≤ 1) (k6 : 4001 ≤ x6 ∧ x6 ≤ 100000000) (d0 : x3 + 1 ≤ x6 ∧ x6 ≤ x3 + 1) (f1 : x6 = x3 + x5) (g2 : x3 = spareLength_1) (f3 : x4 ≤ x3) (f4 : 1 * spareLength_1 + ((-1) * x2 + 0) ≤ 0) (fe_0_12_1 : spareLength_0 = x6) (kz_0_12 : 0 ≤ spareLength_0 ∧ spareLength_0 ≤ 100000000) : 1 * spareLength_0 + ((-1) * x2 + 0) ≤ 1 := by
  first | assumption | omega | grind
def o_Ho_writeByte_1 : or_T := (31, 7, [(0, (2, 0, 0, [12])), (2, (0, 0, 99999999, [])), (3, (0, 4000, 100000000, [])), (4, (0, 4000, 4000, [])), (5, (0, 1, 1, [])), (6, (0, 4001, 100000000, []))], [(101, [0, 6], [12]), (1, [6, 3, 5], []), (9, [3, 0], [12]), (7, [3, 4], [3]), (20, [0, 2], [30, 0, 1, 1, 12, -1, 0, 0])], [], [], [(20, [0, 2], [30, 1, 1, 1, 12, -1, 0, 0])], [], [(6, 3, 1, 1)])
theorem oo_Ho_writeByte_1 {kA : Nat → ClassId} : or_ok PRD kA GG o_Ho_writeByte_1 := by
  refine or_mk fun A ta ws vs hD hth hl => ?_
  intro t0 r0 t2 k2 t3 k3 t4 k4 t5 k5 t6 k6 d0 ta1 w1 le1 s1 f1 f2 f3 f4
  have s1 : (∀ b j, w_el ws b j = w_el w1 b j) ∧ ∀ b j, w_fd ws b j = if b = v_ad (n_v vs 0) ∧ j = 12 then n_v vs 6 else w_fd w1 b j := s1.2
  replace f2 := shm_103 f2
  have g2 : v_iv (n_v vs 3) = w_fi w1 (n_v vs 0) 12 := congrArg v_iv f2
  have fe_0_12_1 : w_fi ws (n_v vs 0) 12 = v_iv (n_v vs 6) := by show v_iv (w_fd _ _ _) = _; rw [s1.2, if_pos ⟨rfl, rfl⟩]
  have kz_0_12 := fdq_0 hD hth r0
  have nf0 : fc_1 PRD (20, [0, 2], [30, 1, 1, 1, 12, -1, 0, 0]) ws (vs) := ⟨nf_in hl rfl, sgq_105 (vc_Ho_writeByte_1_0 (v_iv (n_v vs 2)) (v_iv (n_v vs 3)) (v_iv (n_v vs 4)) (v_iv (n_v vs 5)) (v_iv (n_v vs 6)) (w_fi w1 (n_v vs 0) 12) (w_fi ws (n_v vs 0) 12) k2 k3 k4 k5 k6 d0 (shm_12 f1) g2 (shm_2 f3) (shm_104 f4) fe_0_12_1 kz_0_12)⟩
  refine ⟨(fun _ h => (by cases h)), [], trivial, ?_, (fun _ h => (by cases h))⟩
  rw [List.append_nil]
  exact List.forall_mem_cons.mpr ⟨⟨show (20 : Nat) < 100 from by decide, nf0⟩, (fun _ h => (by cases h))⟩
set_option maxHeartbeats 4000000 in
theorem vc_Ho_writeByte_2_0 (x2 : Int) (x3 : Int) (x4 : Int) (x7 : Int) (x8 : Int) (spareLength_1 : Int) (spareLength_2 : Int) (spareLength_0 : Int) (k2 : 0 ≤ x2 ∧ x2 ≤ 99999999) (k3 : 0 ≤ x3 ∧ x3 ≤ 3999) (k4 : 4000 ≤ x4 ∧ x4 ≤ 4000) (k7 : 1 ≤ x7 ∧ x7 ≤ 1) (k8 : 1 ≤ x8 ∧ x8 ≤ 4000) (d0 : x3 + 1 ≤ x8 ∧ x8 ≤ x3 + 1) (f1 : x8 = x3 + x7) (g2 : x3 = spareLength_1) (f3 : 1 * spareLength_1 + ((-1) * x2 + 0) ≤ 0) (f6 : x3 < x4) (f7 : 1 * spareLength_2 + ((-1) * x2 + 0) ≤ 0) (fe_0_12_1 : spareLength_0 = x8) (fe_0_12_2 : spareLength_1 = spareLength_2) (kz_0_12 : 0 ≤ spareLength_0 ∧ spareLength_0 ≤ 100000000) : 1 * spareLength_0 + ((-1) * x2 + 0) ≤ 1 := by
  subst fe_0_12_2
  first | assumption | omega | grind
def o_Ho_writeByte_2 : or_T := (31, 9, [(0, (2, 0, 0, [12])), (2, (0, 0, 99999999, [])), (3, (0, 0, 3999, [])), (4, (0, 4000, 4000, [])), (7, (0, 1, 1, [])), (8, (0, 1, 4000, []))], [(101, [0, 8], [12]), (1, [8, 3, 7], []), (9, [3, 0], [12]), (20, [0, 2], [30, 0, 1, 1, 12, -1, 0, 0]), (100, [5, 3, 6], []), (7, [3, 4], [2]), (20, [0, 2], [30, 0, 1, 1, 12, -1, 0, 0])], [], [], [(20, [0, 2], [30, 1, 1, 1, 12, -1, 0, 0])], [], [(8, 3, 1, 1)])
theorem oo_Ho_writeByte_2 {kA : Nat → ClassId} : or_ok PRD kA GG o_Ho_writeByte_2 := by
  refine or_mk fun A ta ws vs hD hth hl => ?_
  intro t0 r0 t2 k2 t3 k3 t4 k4 t7 k7 t8 k8 d0 ta1 w1 le1 s1 f1 f2 f3 ta2 w2 le2 s2 f6 f7
  have s1 : (∀ b j, w_el ws b j = w_el w1 b j) ∧ ∀ b j, w_fd ws b j = if b = v_ad (n_v vs 0) ∧ j = 12 then n_v vs 8 else w_fd w1 b j := s1.2
  replace f2 := shm_103 f2
  have s2 : (∀ b j, w_el w1 b j = if b = v_ad (n_v vs 5) ∧ j = (v_iv (n_v vs 3)).toNat then v_iv (n_v vs 6) else w_el w2 b j) ∧ ∀ b k, w_fd w1 b k = w_fd w2 b k := s2.2
  have g2 : v_iv (n_v vs 3) = w_fi w1 (n_v vs 0) 12 := congrArg v_iv f2
  have fe_0_12_1 : w_fi ws (n_v vs 0) 12 = v_iv (n_v vs 8) := by show v_iv (w_fd _ _ _) = _; rw [s1.2, if_pos ⟨rfl, rfl⟩]
  have fe_0_12_2 : w_fi w1 (n_v vs 0) 12 = w_fi w2 (n_v vs 0) 12 := congrArg v_iv (s2.2 _ _)
  have kz_0_12 := fdq_0 hD hth r0
  have nf0 : fc_1 PRD (20, [0, 2], [30, 1, 1, 1, 12, -1, 0, 0]) ws (vs) := ⟨nf_in hl rfl, sgq_105 (vc_Ho_writeByte_2_0 (v_iv (n_v vs 2)) (v_iv (n_v vs 3)) (v_iv (n_v vs 4)) (v_iv (n_v vs 7)) (v_iv (n_v vs 8)) (w_fi w1 (n_v vs 0) 12) (w_fi w2 (n_v vs 0) 12) (w_fi ws (n_v vs 0) 12) k2 k3 k4 k7 k8 d0 (shm_12 f1) g2 (shm_104 f3) (shm_6 f6) (shm_104 f7) fe_0_12_1 fe_0_12_2 kz_0_12)⟩
  refine ⟨(fun _ h => (by cases h)), [], trivial, ?_, (fun _ h => (by cases h))⟩
  rw [List.append_nil]
  exact List.forall_mem_cons.mpr ⟨⟨show (20 : Nat) < 100 from by decide, nf0⟩, (fun _ h => (by cases h))⟩
def n_Ho_writeByte_an : List an_T := []
def t_Ho_writeByte_ct : ct_L := []
set_option maxRecDepth 100000 in
theorem c_Ho_writeByte {l : Launch} {D : va_G} {kA : Nat → ClassId} : ct_ok PRD l D kA GG y_Ho_writeByte z_Ho_writeByte e_Ho_writeByte := chk_all_ok (FT := [(64, 12, 10), (70, 12, 12)]) (PT := [(70, 12, 12, .int)]) (CT := t_Ho_writeByte_ct) (KT := []) (NT := []) (AN := n_Ho_writeByte_an) (OT := [o_Ho_writeByte_0, o_Ho_writeByte_1, o_Ho_writeByte_2]) 0 200 (List.forall_mem_cons.mpr ⟨oo_Ho_writeByte_0, List.forall_mem_cons.mpr ⟨oo_Ho_writeByte_1, List.forall_mem_cons.mpr ⟨oo_Ho_writeByte_2, List.forall_mem_nil _⟩⟩⟩) (by decide +kernel) ⟨List.forall_mem_cons.mpr ⟨gf_Ho_64, List.forall_mem_cons.mpr ⟨gf_Ho_70, List.forall_mem_nil _⟩⟩, List.forall_mem_cons.mpr ⟨pf_Ho_70, List.forall_mem_nil _⟩, List.forall_mem_nil _, List.forall_mem_nil _, List.forall_mem_nil _, GG_pl⟩ (by decide +kernel)
set_option maxHeartbeats 4000000 in
theorem vc_Dr_addBend_at_gr_0_r0 (x1 : Int) (x4 : Int) (x7 : Int) (x9 : Int) (x10 : Int) (bends_0 : Int → Int) (k1 : 0 ≤ x1 ∧ x1 ≤ 47) (k4 : 0 ≤ x4 ∧ x4 ≤ 23) (k7 : 0 ≤ x7 ∧ x7 ≤ 1128) (k9 : 0 ≤ x9 ∧ x9 ≤ 24) (k10 : 0 ≤ x10 ∧ x10 ≤ 1152) (f0 : x10 = x7 + x9) (h1 : x9 = bends_0 (x1)) (f3 : x7 = x1 * 24) (f4 : 1 * bends_0 (x1) + ((-1) * x4 + 0) ≤ 0) : 0 ≤ x10 ∧ x10 ≤ 1151 := by
  first
    | omega
    | (have q := (hE_0_4_1 x1 (by omega)).1 rfl; rw [q]; omega)
def o_Dr_addBend_at_gr_0 : or_T := (16, 11, [(0, (2, 0, 0, [0])), (1, (0, 0, 47, [])), (4, (0, 0, 23, [])), (6, (0, 24, 24, [])), (7, (0, 0, 1128, [])), (8, (2, 0, 0, [16])), (9, (0, 0, 24, [])), (10, (0, 0, 1152, []))], [(1, [10, 7, 9], []), (10, [9, 8, 1], []), (9, [8, 0], [4]), (3, [7, 1, 6], []), (20, [0, 1, 4], [30, 0, 1, 2, 4, -1, 0, 0])], [(10, (0, 0, 1151, []))], [], [], [], [(10, 9, 0, 1128), (10, 7, 0, 24)])
theorem oo_Dr_addBend_at_gr_0 {kA : Nat → ClassId} : or_ok PRD kA GG o_Dr_addBend_at_gr_0 := by
  refine or_mk fun A ta ws vs hD hth hl => ?_
  intro t0 r0 t1 k1 t4 k4 t6 k6 t7 k7 t8 r8 t9 k9 t10 k10 d0 d1 f0 f1 f2 f3 f4
  replace f1 := shm_107 f1
  replace f2 := shm_108 f2
  replace f3 := shm_38 f3
  rw [show v_iv (n_v vs 6) = 24 from by omega] at f3
  have ad_8 : v_ad (n_v vs 8) = w_ar ws (n_v vs 0) 4 := congrArg v_ad f2
  simp only [ad_8] at f1
  have h1 : v_iv (n_v vs 9) = w_ei ws (w_ar ws (n_v vs 0) 4) (v_iv (n_v vs 1)) := f1
  have hrf0 : 0 ≤ v_iv (n_v vs 10) ∧ v_iv (n_v vs 10) ≤ 1151 := vc_Dr_addBend_at_gr_0_r0 (v_iv (n_v vs 1)) (v_iv (n_v vs 4)) (v_iv (n_v vs 7)) (v_iv (n_v vs 9)) (v_iv (n_v vs 10)) (w_ei ws (w_ar ws (n_v vs 0) 4)) k1 k4 k7 k9 k10 (shm_12 f0) h1 f3 (shm_109 f4)
  have rf10 : tv_ok ta (0, 0, 1151, []) (n_v vs 10) := tv_in t10 (by omega) (by omega)
  refine ⟨List.forall_mem_cons.mpr ⟨rf10, (fun _ h => (by cases h))⟩, [], trivial, ?_, (fun _ h => (by cases h))⟩
  rw [List.append_nil]
  exact (fun _ h => (by cases h))
set_option maxHeartbeats 4000000 in
theorem vc_Dr_addBend_at_gr_1_r0 (x1 : Int) (x4 : Int) (x9 : Int) (x13 : Int) (x14 : Int) (x15 : Int) (bends_0 : Int → Int) (bends_1 : Int → Int) (k1 : 0 ≤ x1 ∧ x1 ≤ 47) (k4 : 0 ≤ x4 ∧ x4 ≤ 23) (k9 : 0 ≤ x9 ∧ x9 ≤ 24) (k13 : 0 ≤ x13 ∧ x13 ≤ 1128) (k14 : 0 ≤ x14 ∧ x14 ≤ 24) (k15 : 0 ≤ x15 ∧ x15 ≤ 1152) (d0 : x14 + 0 ≤ x15 ∧ x15 ≤ x14 + 1128) (f0 : x15 = x13 + x14) (h1 : x14 = bends_0 (x1)) (f3 : x13 = x1 * 24) (f4 : 1 * bends_0 (x1) + ((-1) * x4 + 0) ≤ 0) (h6 : x9 = bends_1 (x1)) (hE_0_4_1 : ∀ j : Int, bends_0 j = bends_1 j) : 0 ≤ x15 ∧ x15 ≤ 1151 := by
  have e_hE_0_4_1 := funext hE_0_4_1; subst e_hE_0_4_1
  first
    | omega
    | (have q := (hE_0_4_1 x1 (by omega)).1 rfl; rw [q]; omega)
def o_Dr_addBend_at_gr_1 : or_T := (33, 16, [(0, (2, 0, 0, [0])), (1, (0, 0, 47, [])), (4, (0, 0, 23, [])), (5, (2, 0, 0, [17])), (8, (2, 0, 0, [16])), (9, (0, 0, 24, [])), (10, (0, 0, 1151, [])), (12, (0, 24, 24, [])), (13, (0, 0, 1128, [])), (14, (0, 0, 24, [])), (15, (0, 0, 1152, []))], [(1, [15, 13, 14], []), (10, [14, 8, 1], []), (9, [8, 0], [4]), (3, [13, 1, 12], []), (20, [0, 1, 4], [30, 0, 1, 2, 4, -1, 0, 0]), (100, [5, 10, 2], []), (10, [9, 8, 1], []), (9, [5, 0], [5]), (20, [0, 1, 4], [30, 0, 1, 2, 4, -1, 0, 0])], [(15, (0, 0, 1151, []))], [], [], [], [(15, 14, 0, 1128), (15, 13, 0, 24), (10, 9, 0, 1128)])
theorem oo_Dr_addBend_at_gr_1 {kA : Nat → ClassId} : or_ok PRD kA GG o_Dr_addBend_at_gr_1 := by
  refine or_mk fun A ta ws vs hD hth hl => ?_
  intro t0 r0 t1 k1 t4 k4 t5 r5 t8 r8 t9 k9 t10 k10 t12 k12 t13 k13 t14 k14 t15 k15 d0 d1 d2 f0 f1 f2 f3 f4 ta1 w1 le1 s1 f6 f7 f8
  replace f1 := shm_107 f1
  replace f2 := shm_108 f2
  replace f3 := shm_38 f3
  rw [show v_iv (n_v vs 12) = 24 from by omega] at f3
  have s1 : (∀ b j, w_el ws b j = if b = v_ad (n_v vs 5) ∧ j = (v_iv (n_v vs 10)).toNat then v_iv (n_v vs 2) else w_el w1 b j) ∧ ∀ b k, w_fd ws b k = w_fd w1 b k := s1.2
  replace f6 := shm_107 f6
  have cr_0_4 := fdq_1 hD hth r0
  have ad_8 : v_ad (n_v vs 8) = w_ar ws (n_v vs 0) 4 := congrArg v_ad f2
  simp only [ad_8] at f1
  have h1 : v_iv (n_v vs 14) = w_ei ws (w_ar ws (n_v vs 0) 4) (v_iv (n_v vs 1)) := f1
  simp only [ad_8] at f6
  have h6 : v_iv (n_v vs 9) = w_ei w1 (w_ar ws (n_v vs 0) 4) (v_iv (n_v vs 1)) := f6
  have hE_0_4_1 : ∀ j : Int, w_ei ws (w_ar ws (n_v vs 0) 4) j = w_ei w1 (w_ar ws (n_v vs 0) 4) j := el_kp s1.1 r5 cr_0_4 (by decide)
  have hrf0 : 0 ≤ v_iv (n_v vs 15) ∧ v_iv (n_v vs 15) ≤ 1151 := vc_Dr_addBend_at_gr_1_r0 (v_iv (n_v vs 1)) (v_iv (n_v vs 4)) (v_iv (n_v vs 9)) (v_iv (n_v vs 13)) (v_iv (n_v vs 14)) (v_iv (n_v vs 15)) (w_ei ws (w_ar ws (n_v vs 0) 4)) (w_ei w1 (w_ar ws (n_v vs 0) 4)) k1 k4 k9 k13 k14 k15 d0 (shm_12 f0) h1 f3 (shm_109 f4) h6 hE_0_4_1
  have rf15 : tv_ok ta (0, 0, 1151, []) (n_v vs 15) := tv_in t15 (by omega) (by omega)
  refine ⟨List.forall_mem_cons.mpr ⟨rf15, (fun _ h => (by cases h))⟩, [], trivial, ?_, (fun _ h => (by cases h))⟩
  rw [List.append_nil]
  exact (fun _ h => (by cases h))
set_option maxHeartbeats 4000000 in
theorem vc_Dr_addBend_at_gr_2_r0 (x1 : Int) (x4 : Int) (x16 : Int) (x18 : Int) (bends_0 : Int → Int) (bends_1 : Int → Int) (bends_2 : Int → Int) (bendX_0 : Int → Int) (bendX_1 : Int → Int) (bendY_1 : Int → Int) (bendY_2 : Int → Int) (k1 : 0 ≤ x1 ∧ x1 ≤ 47) (k4 : 0 ≤ x4 ∧ x4 ≤ 23) (k16 : 0 ≤ x16 ∧ x16 ≤ 24) (k18 : 1 ≤ x18 ∧ x18 ≤ 25) (d0 : x16 + 1 ≤ x18 ∧ x18 ≤ x16 + 1) (h1 : x16 = bends_0 (x1)) (f3 : 1 * bends_0 (x1) + ((-1) * x4 + 0) ≤ 0) (hE_0_4_1 : ∀ j : Int, bends_0 j = bends_1 j) (hE_0_4_2 : ∀ j : Int, bends_1 j = bends_2 j) (hE_0_5_1 : ∀ j : Int, bendX_0 j = bendX_1 j) (hE_0_6_2 : ∀ j : Int, bendY_1 j = bendY_2 j) : 1 ≤ x18 ∧ x18 ≤ 24 := by
  have e_hE_0_4_1 := funext hE_0_4_1; subst e_hE_0_4_1
  have e_hE_0_4_2 := funext hE_0_4_2; subst e_hE_0_4_2
  have e_hE_0_5_1 := funext hE_0_5_1; subst e_hE_0_5_1
  have e_hE_0_6_2 := funext hE_0_6_2; subst e_hE_0_6_2
  first
    | omega
    | (have q := (hE_0_4_1 x1 (by omega)).1 rfl; rw [q]; omega)
def o_Dr_addBend_at_gr_2 : or_T := (43, 19, [(0, (2, 0, 0, [0])), (1, (0, 0, 47, [])), (4, (0, 0, 23, [])), (5, (2, 0, 0, [17])), (8, (2, 0, 0, [16])), (9, (0, 0, 24, [])), (10, (0, 0, 1151, [])), (11, (2, 0, 0, [18])), (14, (0, 0, 24, [])), (15, (0, 0, 1151, [])), (16, (0, 0, 24, [])), (17, (0, 1, 1, [])), (18, (0, 1, 25, []))], [(1, [18, 16, 17], []), (10, [16, 8, 1], []), (9, [8, 0], [4]), (20, [0, 1, 4], [30, 0, 1, 2, 4, -1, 0, 0]), (100, [11, 15, 3], []), (10, [14, 8, 1], []), (9, [11, 0], [6]), (20, [0, 1, 4], [30, 0, 1, 2, 4, -1, 0, 0]), (100, [5, 10, 2], []), (10, [9, 8, 1], []), (9, [5, 0], [5]), (20, [0, 1, 4], [30, 0, 1, 2, 4, -1, 0, 0])], [(18, (0, 1, 24, []))], [], [], [], [(18, 16, 1, 1), (15, 14, 0, 1128), (10, 9, 0, 1128)])
theorem oo_Dr_addBend_at_gr_2 {kA : Nat → ClassId} : or_ok PRD kA GG o_Dr_addBend_at_gr_2 := by
  refine or_mk fun A ta ws vs hD hth hl => ?_
  intro t0 r0 t1 k1 t4 k4 t5 r5 t8 r8 t9 k9 t10 k10 t11 r11 t14 k14 t15 k15 t16 k16 t17 k17 t18 k18 d0 d1 d2 f0 f1 f2 f3 ta1 w1 le1 s1 f5 f6 f7 ta2 w2 le2 s2 f9 f10 f11
  replace f1 := shm_107 f1
  replace f2 := shm_108 f2
  have s1 : (∀ b j, w_el ws b j = if b = v_ad (n_v vs 11) ∧ j = (v_iv (n_v vs 15)).toNat then v_iv (n_v vs 3) else w_el w1 b j) ∧ ∀ b k, w_fd ws b k = w_fd w1 b k := s1.2
  have s2 : (∀ b j, w_el w1 b j = if b = v_ad (n_v vs 5) ∧ j = (v_iv (n_v vs 10)).toNat then v_iv (n_v vs 2) else w_el w2 b j) ∧ ∀ b k, w_fd w1 b k = w_fd w2 b k := s2.2
  have cr_0_4 := fdq_1 hD hth r0
  have cr_0_5 := fdq_2 hD hth r0
  have cr_0_6 := fdq_3 hD hth r0
  have ad_8 : v_ad (n_v vs 8) = w_ar ws (n_v vs 0) 4 := congrArg v_ad f2
  simp only [ad_8] at f1
  have h1 : v_iv (n_v vs 16) = w_ei ws (w_ar ws (n_v vs 0) 4) (v_iv (n_v vs 1)) := f1
  have hE_0_4_1 : ∀ j : Int, w_ei ws (w_ar ws (n_v vs 0) 4) j = w_ei w1 (w_ar ws (n_v vs 0) 4) j := el_kp s1.1 r11 cr_0_4 (by decide)
  have hE_0_4_2 : ∀ j : Int, w_ei w1 (w_ar ws (n_v vs 0) 4) j = w_ei w2 (w_ar ws (n_v vs 0) 4) j := el_kp s2.1 r5 cr_0_4 (by decide)
  have hE_0_5_1 : ∀ j : Int, w_ei ws (w_ar ws (n_v vs 0) 5) j = w_ei w1 (w_ar ws (n_v vs 0) 5) j := el_kp s1.1 r11 cr_0_5 (by decide)
  have hE_0_6_2 : ∀ j : Int, w_ei w1 (w_ar ws (n_v vs 0) 6) j = w_ei w2 (w_ar ws (n_v vs 0) 6) j := el_kp s2.1 r5 cr_0_6 (by decide)
  have hrf0 : 1 ≤ v_iv (n_v vs 18) ∧ v_iv (n_v vs 18) ≤ 24 := vc_Dr_addBend_at_gr_2_r0 (v_iv (n_v vs 1)) (v_iv (n_v vs 4)) (v_iv (n_v vs 16)) (v_iv (n_v vs 18)) (w_ei ws (w_ar ws (n_v vs 0) 4)) (w_ei w1 (w_ar ws (n_v vs 0) 4)) (w_ei w2 (w_ar ws (n_v vs 0) 4)) (w_ei ws (w_ar ws (n_v vs 0) 5)) (w_ei w1 (w_ar ws (n_v vs 0) 5)) (w_ei w1 (w_ar ws (n_v vs 0) 6)) (w_ei w2 (w_ar ws (n_v vs 0) 6)) k1 k4 k16 k18 d0 h1 (shm_109 f3) hE_0_4_1 hE_0_4_2 hE_0_5_1 hE_0_6_2
  have rf18 : tv_ok ta (0, 1, 24, []) (n_v vs 18) := tv_in t18 (by omega) (by omega)
  refine ⟨List.forall_mem_cons.mpr ⟨rf18, (fun _ h => (by cases h))⟩, [], trivial, ?_, (fun _ h => (by cases h))⟩
  rw [List.append_nil]
  exact (fun _ h => (by cases h))
set_option maxHeartbeats 4000000 in
theorem vc_Dr_addBend_at_gr_3_0 (x1 : Int) (x4 : Int) (x16 : Int) (x18 : Int) (bends_1 : Int → Int) (bends_2 : Int → Int) (bends_3 : Int → Int) (bends_0 : Int → Int) (bendX_0 : Int → Int) (bendX_1 : Int → Int) (bendX_2 : Int → Int) (bendY_0 : Int → Int) (bendY_1 : Int → Int) (bendY_2 : Int → Int) (bendY_3 : Int → Int) (k1 : 0 ≤ x1 ∧ x1 ≤ 47) (k4 : 0 ≤ x4 ∧ x4 ≤ 23) (k16 : 0 ≤ x16 ∧ x16 ≤ 24) (k18 : 1 ≤ x18 ∧ x18 ≤ 24) (d0 : x16 + 1 ≤ x18 ∧ x18 ≤ x16 + 1) (h2 : x16 = bends_1 (x1)) (f4 : 1 * bends_1 (x1) + ((-1) * x4 + 0) ≤ 0) (hE_0_4_1 : ∀ j : Int, 0 ≤ j → (j = x1 → bends_0 j = x18) ∧ (j ≠ x1 → bends_0 j = bends_1 j)) (hE_0_4_2 : ∀ j : Int, bends_1 j = bends_2 j) (hE_0_4_3 : ∀ j : Int, bends_2 j = bends_3 j) (hE_0_5_1 : ∀ j : Int, bendX_0 j = bendX_1 j) (hE_0_5_2 : ∀ j : Int, bendX_1 j = bendX_2 j) (hE_0_6_1 : ∀ j : Int, bendY_0 j = bendY_1 j) (hE_0_6_3 : ∀ j : Int, bendY_2 j = bendY_3 j) : 1 * bends_0 (x1) + ((-1) * x4 + 0) ≤ 1 := by
  have e_hE_0_4_2 := funext hE_0_4_2; subst e_hE_0_4_2
  have e_hE_0_4_3 := funext hE_0_4_3; subst e_hE_0_4_3
  have e_hE_0_5_1 := funext hE_0_5_1; subst e_hE_0_5_1
  have e_hE_0_5_2 := funext hE_0_5_2; subst e_hE_0_5_2
  have e_hE_0_6_1 := funext hE_0_6_1; subst e_hE_0_6_1
  have e_hE_0_6_3 := funext hE_0_6_3; subst e_hE_0_6_3
  first
    | omega
    | (have q := (hE_0_4_1 x1 (by omega)).1 rfl; rw [q]; omega)
def o_Dr_addBend_at_gr_3 : or_T := (44, 19, [(0, (2, 0, 0, [0])), (1, (0, 0, 47, [])), (4, (0, 0, 23, [])), (5, (2, 0, 0, [17])), (8, (2, 0, 0, [16])), (11, (2, 0, 0, [18])), (16, (0, 0, 24, [])), (18, (0, 1, 24, []))], [(100, [8, 1, 18], []), (10, [16, 8, 1], []), (9, [8, 0], [4]), (20, [0, 1, 4], [30, 0, 1, 2, 4, -1, 0, 0]), (100, [11, 15, 3], []), (100, [5, 10, 2], [])], [], [], [(20, [0, 1, 4], [30, 1, 1, 2, 4, -1, 0, 0])], [], [(18, 16, 1, 1)])
theorem oo_Dr_addBend_at_gr_3 {kA : Nat → ClassId} : or_ok PRD kA GG o_Dr_addBend_at_gr_3 := by
  refine or_mk fun A ta ws vs hD hth hl => ?_
  intro t0 r0 t1 k1 t4 k4 t5 r5 t8 r8 t11 r11 t16 k16 t18 k18 d0 ta1 w1 le1 s1 f2 f3 f4 ta2 w2 le2 s2 ta3 w3 le3 s3
  have s1 : (∀ b j, w_el ws b j = if b = v_ad (n_v vs 8) ∧ j = (v_iv (n_v vs 1)).toNat then v_iv (n_v vs 18) else w_el w1 b j) ∧ ∀ b k, w_fd ws b k = w_fd w1 b k := s1.2
  replace f2 := shm_107 f2
  replace f3 := shm_108 f3
  replace f4 := shm_109 f4
  have s2 : (∀ b j, w_el w1 b j = if b = v_ad (n_v vs 11) ∧ j = (v_iv (n_v vs 15)).toNat then v_iv (n_v vs 3) else w_el w2 b j) ∧ ∀ b k, w_fd w1 b k = w_fd w2 b k := s2.2
  have s3 : (∀ b j, w_el w2 b j = if b = v_ad (n_v vs 5) ∧ j = (v_iv (n_v vs 10)).toNat then v_iv (n_v vs 2) else w_el w3 b j) ∧ ∀ b k, w_fd w2 b k = w_fd w3 b k := s3.2
  have ar_0_4_1 : w_ar w1 (n_v vs 0) 4 = w_ar ws (n_v vs 0) 4 := congrArg v_ad (s1.2 _ _).symm
  have cr_0_4 := fdq_1 hD hth r0
  have cr_0_5 := fdq_2 hD hth r0
  have cr_0_6 := fdq_3 hD hth r0
  have ad_8 : v_ad (n_v vs 8) = w_ar ws (n_v vs 0) 4 := (congrArg v_ad f3).trans ar_0_4_1
  simp only [ad_8] at f2
  have h2 : v_iv (n_v vs 16) = w_ei w1 (w_ar ws (n_v vs 0) 4) (v_iv (n_v vs 1)) := f2
  simp only [ar_0_4_1, ad_8] at f4
  have hE_0_4_1 : ∀ j : Int, 0 ≤ j → (j = v_iv (n_v vs 1) → w_ei ws (w_ar ws (n_v vs 0) 4) j = v_iv (n_v vs 18)) ∧ (j ≠ v_iv (n_v vs 1) → w_ei ws (w_ar ws (n_v vs 0) 4) j = w_ei w1 (w_ar ws (n_v vs 0) 4) j) := fun j hj => ⟨fun h => by unfold w_ei; rw [s1.1, if_pos ⟨ad_8.symm, by rw [h]⟩], fun h => by unfold w_ei; rw [s1.1, if_neg (fun e => h (by have := e.2; omega))]⟩
  have hE_0_4_2 : ∀ j : Int, w_ei w1 (w_ar ws (n_v vs 0) 4) j = w_ei w2 (w_ar ws (n_v vs 0) 4) j := el_kp s2.1 r11 cr_0_4 (by decide)
  have hE_0_4_3 : ∀ j : Int, w_ei w2 (w_ar ws (n_v vs 0) 4) j = w_ei w3 (w_ar ws (n_v vs 0) 4) j := el_kp s3.1 r5 cr_0_4 (by decide)
  have hE_0_5_1 : ∀ j : Int, w_ei ws (w_ar ws (n_v vs 0) 5) j = w_ei w1 (w_ar ws (n_v vs 0) 5) j := el_kp s1.1 r8 cr_0_5 (by decide)
  have hE_0_5_2 : ∀ j : Int, w_ei w1 (w_ar ws (n_v vs 0) 5) j = w_ei w2 (w_ar ws (n_v vs 0) 5) j := el_kp s2.1 r11 cr_0_5 (by decide)
  have hE_0_6_1 : ∀ j : Int, w_ei ws (w_ar ws (n_v vs 0) 6) j = w_ei w1 (w_ar ws (n_v vs 0) 6) j := el_kp s1.1 r8 cr_0_6 (by decide)
  have hE_0_6_3 : ∀ j : Int, w_ei w2 (w_ar ws (n_v vs 0) 6) j = w_ei w3 (w_ar ws (n_v vs 0) 6) j := el_kp s3.1 r5 cr_0_6 (by decide)
  have nf0 : fc_1 PRD (20, [0, 1, 4], [30, 1, 1, 2, 4, -1, 0, 0]) ws (vs) := ⟨nf_in hl rfl, sgq_112 (vc_Dr_addBend_at_gr_3_0 (v_iv (n_v vs 1)) (v_iv (n_v vs 4)) (v_iv (n_v vs 16)) (v_iv (n_v vs 18)) (w_ei w1 (w_ar ws (n_v vs 0) 4)) (w_ei w2 (w_ar ws (n_v vs 0) 4)) (w_ei w3 (w_ar ws (n_v vs 0) 4)) (w_ei ws (w_ar ws (n_v vs 0) 4)) (w_ei ws (w_ar ws (n_v vs 0) 5)) (w_ei w1 (w_ar ws (n_v vs 0) 5)) (w_ei w2 (w_ar ws (n_v vs 0) 5)) (w_ei ws (w_ar ws (n_v vs 0) 6)) (w_ei w1 (w_ar ws (n_v vs 0) 6)) (w_ei w2 (w_ar ws (n_v vs 0) 6)) (w_ei w3 (w_ar ws (n_v vs 0) 6)) k1 k4 k16 k18 d0 h2 f4 hE_0_4_1 hE_0_4_2 hE_0_4_3 hE_0_5_1 hE_0_5_2 hE_0_6_1 hE_0_6_3)⟩
  refine ⟨(fun _ h => (by cases h)), [], trivial, ?_, (fun _ h => (by cases h))⟩
  rw [List.append_nil]
  exact List.forall_mem_cons.mpr ⟨⟨show (20 : Nat) < 100 from by decide, nf0⟩, (fun _ h => (by cases h))⟩
def n_Dr_addBend_at_gr_an : List an_T := []
def t_Dr_addBend_at_gr_ct : ct_L := []
set_option maxRecDepth 100000 in
theorem c_Dr_addBend_at_gr {l : Launch} {D : va_G} {kA : Nat → ClassId} : ct_ok PRD l D kA GG y_Dr_addBend_at_gr z_Dr_addBend_at_gr e_Dr_addBend_at_gr := chk_all_ok (FT := [(22, 0, 4), (25, 0, 5), (28, 0, 6)]) (PT := []) (CT := t_Dr_addBend_at_gr_ct) (KT := []) (NT := []) (AN := n_Dr_addBend_at_gr_an) (OT := [o_Dr_addBend_at_gr_0, o_Dr_addBend_at_gr_1, o_Dr_addBend_at_gr_2, o_Dr_addBend_at_gr_3]) 0 200 (List.forall_mem_cons.mpr ⟨oo_Dr_addBend_at_gr_0, List.forall_mem_cons.mpr ⟨oo_Dr_addBend_at_gr_1, List.forall_mem_cons.mpr ⟨oo_Dr_addBend_at_gr_2, List.forall_mem_cons.mpr ⟨oo_Dr_addBend_at_gr_3, List.forall_mem_nil _⟩⟩⟩⟩) (by decide +kernel) ⟨List.forall_mem_cons.mpr ⟨gf_Dr_22, List.forall_mem_cons.mpr ⟨gf_Dr_25, List.forall_mem_cons.mpr ⟨gf_Dr_28, List.forall_mem_nil _⟩⟩⟩, List.forall_mem_nil _, List.forall_mem_nil _, List.forall_mem_nil _, List.forall_mem_nil _, GG_pl⟩ (by decide +kernel)
def n_Dr_countBends_an : List an_T := [(4, [(0, (2, 0, 0, [0])), (1, (1, (Int.negSucc 9223372036854775807), 9223372036854775807, [])), (3, (0, 0, 48, []))], [], (0, 0), [(0, 0, 99996), (1, 2, 48), (0, 0, 100000)], [], [], [], 0, [], [])]
def t_Dr_countBends_ct : ct_L := []
set_option maxRecDepth 100000 in
theorem c_Dr_countBends {l : Launch} {D : va_G} {kA : Nat → ClassId} : ct_ok PRD l D kA GG y_Dr_countBends z_Dr_countBends e_Dr_countBends := chk_all_ok (FT := [(22, 0, 4), (74, 0, 0), (151, 3, 1)]) (PT := []) (CT := t_Dr_countBends_ct) (KT := []) (NT := []) (AN := n_Dr_countBends_an) (OT := []) 3 200 (List.forall_mem_nil _) (by decide +kernel) ⟨List.forall_mem_cons.mpr ⟨gf_Dr_22, List.forall_mem_cons.mpr ⟨gf_Dr_74, List.forall_mem_cons.mpr ⟨gf_Dr_151, List.forall_mem_nil _⟩⟩⟩, List.forall_mem_nil _, List.forall_mem_nil _, List.forall_mem_nil _, List.forall_mem_nil _, GG_pl⟩ (by decide +kernel)
def n_Dr_sharedNode_an : List an_T := []
def t_Dr_sharedNode_ct : ct_L := []
set_option maxRecDepth 100000 in
theorem c_Dr_sharedNode {l : Launch} {D : va_G} {kA : Nat → ClassId} : ct_ok PRD l D kA GG y_Dr_sharedNode z_Dr_sharedNode e_Dr_sharedNode := chk_all_ok (FT := [(74, 0, 0), (106, 3, 7), (109, 3, 8)]) (PT := []) (CT := t_Dr_sharedNode_ct) (KT := []) (NT := []) (AN := n_Dr_sharedNode_an) (OT := []) 0 208 (List.forall_mem_nil _) (by decide +kernel) ⟨List.forall_mem_cons.mpr ⟨gf_Dr_74, List.forall_mem_cons.mpr ⟨gf_Dr_106, List.forall_mem_cons.mpr ⟨gf_Dr_109, List.forall_mem_nil _⟩⟩⟩, List.forall_mem_nil _, List.forall_mem_nil _, List.forall_mem_nil _, List.forall_mem_nil _, GG_pl⟩ (by decide +kernel)
def n_Em_countFits_an : List an_T := [(4, [(0, (2, 0, 0, [1])), (1, (0, 0, 33554431, [])), (2, (0, (Int.negSucc 2147483647), 2147483647, [])), (3, (0, 0, 50, []))], [], (0, 0), [(0, 0, 99996), (1, 3, 50), (0, 0, 100000)], [], [], [], 0, [], [])]
def t_Em_countFits_ct : ct_L := []
set_option maxRecDepth 100000 in
theorem c_Em_countFits {l : Launch} {D : va_G} {kA : Nat → ClassId} : ct_ok PRD l D kA GG y_Em_countFits z_Em_countFits e_Em_countFits := chk_all_ok (FT := [(39, 1, 7), (48, 1, 10)]) (PT := []) (CT := t_Em_countFits_ct) (KT := []) (NT := []) (AN := n_Em_countFits_an) (OT := []) 3 200 (List.forall_mem_nil _) (by decide +kernel) ⟨List.forall_mem_cons.mpr ⟨gf_Em_39, List.forall_mem_cons.mpr ⟨gf_Em_48, List.forall_mem_nil _⟩⟩, List.forall_mem_nil _, List.forall_mem_nil _, List.forall_mem_nil _, List.forall_mem_nil _, GG_pl⟩ (by decide +kernel)
def n_Fa_isBridge_an : List an_T := [(2, [(0, (2, 0, 0, [2])), (1, (0, 0, 47, [])), (2, (0, 0, 48, []))], [], (0, 0), [(0, 0, 99998), (1, 2, 48), (0, 0, 100000)], [], [], [], 0, [], [])]
def t_Fa_isBridge_ct : ct_L := []
set_option maxRecDepth 100000 in
theorem c_Fa_isBridge {l : Launch} {D : va_G} {kA : Nat → ClassId} : ct_ok PRD l D kA GG y_Fa_isBridge z_Fa_isBridge e_Fa_isBridge := chk_all_ok (FT := [(29, 2, 5)]) (PT := []) (CT := t_Fa_isBridge_ct) (KT := []) (NT := []) (AN := n_Fa_isBridge_an) (OT := []) 3 200 (List.forall_mem_nil _) (by decide +kernel) ⟨List.forall_mem_cons.mpr ⟨gf_Fa_29, List.forall_mem_nil _⟩, List.forall_mem_nil _, List.forall_mem_nil _, List.forall_mem_nil _, List.forall_mem_nil _, GG_pl⟩ (by decide +kernel)
def n_Fa_weights_an : List an_T := [(6, [(0, (2, 0, 0, [3])), (1, (0, 0, 23, [])), (2, (0, 0, 16777215, [])), (3, (0, 0, 1, [])), (4, (0, (Int.negSucc 2147483647), 2147483647, [])), (5, (0, 0, 48, []))], [], (0, 0), [(0, 0, 99994), (1, 5, 48), (0, 0, 100000)], [], [], [], 0, [], [])]
def t_Fa_weights_ct : ct_L := []
set_option maxRecDepth 100000 in
theorem c_Fa_weights {l : Launch} {D : va_G} {kA : Nat → ClassId} : ct_ok PRD l D kA GG y_Fa_weights z_Fa_weights e_Fa_weights := chk_all_ok (FT := [(69, 3, 1), (72, 3, 7), (75, 3, 8), (169, 3, 9)]) (PT := []) (CT := t_Fa_weights_ct) (KT := []) (NT := []) (AN := n_Fa_weights_an) (OT := []) 3 328 (List.forall_mem_nil _) (by decide +kernel) ⟨List.forall_mem_cons.mpr ⟨gf_Fa_69, List.forall_mem_cons.mpr ⟨gf_Fa_72, List.forall_mem_cons.mpr ⟨gf_Fa_75, List.forall_mem_cons.mpr ⟨gf_Fa_169, List.forall_mem_nil _⟩⟩⟩⟩, List.forall_mem_nil _, List.forall_mem_nil _, List.forall_mem_nil _, List.forall_mem_nil _, GG_pl⟩ (by decide +kernel)
def n_Gr_fourLetters_an : List an_T := []
def t_Gr_fourLetters_ct : ct_L := []
set_option maxRecDepth 100000 in
theorem c_Gr_fourLetters {l : Launch} {D : va_G} {kA : Nat → ClassId} : ct_ok PRD l D kA GG y_Gr_fourLetters z_Gr_fourLetters e_Gr_fourLetters := chk_all_ok (FT := [(21, 3, 3)]) (PT := []) (CT := t_Gr_fourLetters_ct) (KT := []) (NT := []) (AN := n_Gr_fourLetters_an) (OT := []) 0 200 (List.forall_mem_nil _) (by decide +kernel) ⟨List.forall_mem_cons.mpr ⟨gf_Gr_21, List.forall_mem_nil _⟩, List.forall_mem_nil _, List.forall_mem_nil _, List.forall_mem_nil _, List.forall_mem_nil _, GG_pl⟩ (by decide +kernel)
set_option maxHeartbeats 4000000 in
theorem vc_Gr_hasLetters_at_Gr_newGrhasNextName1_0_r0 (x1 : Int) (x3 : Int) (x4 : Int) (x6 : Int) (x12 : Int) (nameLength_0 : Int → Int) (k1 : 0 ≤ x1 ∧ x1 ≤ 23) (k3 : 0 ≤ x3 ∧ x3 ≤ 0) (k4 : 0 ≤ x4 ∧ x4 ≤ 7) (k6 : 1 ≤ x6 ∧ x6 ≤ 8) (k12 : 0 ≤ x12 ∧ x12 ≤ 7) (d0 : x4 + 0 ≤ x12 ∧ x12 ≤ x4 + 0) (d1 : x6 + (-4294967296) ≤ x12 ∧ x12 ≤ x6 + (-1)) (d2 : x6 + (-4294967296) ≤ x4 ∧ x4 ≤ x6 + (-1)) (f0 : x12 = x3 + x4) (f1 : x4 < x6) (h2 : x6 = nameLength_0 (x1)) (f4 : 1 * nameLength_0 (x1) + (1 * x3 + 0) ≤ 3) (hK_0_4 : ∀ j : Int, 0 ≤ j → j < 24 → 0 ≤ nameLength_0 j ∧ nameLength_0 j ≤ 8) : 0 ≤ x12 ∧ x12 ≤ 2 := by
  first | with_reducible assumption | ((try and_intros) <;> first | with_reducible assumption | (clear hK_0_4; omega)) | omega
def o_Gr_hasLetters_at_Gr_newGrhasNextName1_0 : or_T := (31, 13, [(0, (2, 0, 0, [3])), (1, (0, 0, 23, [])), (3, (0, 0, 0, [])), (4, (0, 0, 7, [])), (5, (2, 0, 0, [49])), (6, (0, 1, 8, [])), (12, (0, 0, 7, []))], [(1, [12, 3, 4], []), (7, [4, 6], [2]), (10, [6, 5, 1], []), (9, [5, 0], [4]), (20, [0, 1, 3], [30, 3, 1, 2, 4, 1, 0, 0])], [(12, (0, 0, 2, []))], [], [], [], [(12, 4, 0, 0), (12, 6, -4294967296, -1), (4, 6, -4294967296, -1)])
theorem oo_Gr_hasLetters_at_Gr_newGrhasNextName1_0 {kA : Nat → ClassId} : or_ok PRD kA GG o_Gr_hasLetters_at_Gr_newGrhasNextName1_0 := by
  refine or_mk fun A ta ws vs hD hth hl => ?_
  intro t0 r0 t1 k1 t3 k3 t4 k4 t5 r5 t6 k6 t12 k12 d0 d1 d2 f0 f1 f2 f3 f4
  replace f2 := shm_107 f2
  replace f3 := shm_108 f3
  have cr_0_4 := fdq_4 hD hth r0
  have ad_5 : v_ad (n_v vs 5) = w_ar ws (n_v vs 0) 4 := congrArg v_ad f3
  simp only [ad_5] at f2
  have h2 : v_iv (n_v vs 6) = w_ei ws (w_ar ws (n_v vs 0) 4) (v_iv (n_v vs 1)) := f2
  have hK_0_4 := elq_3 hD hth cr_0_4
  have hrf0 : 0 ≤ v_iv (n_v vs 12) ∧ v_iv (n_v vs 12) ≤ 2 := vc_Gr_hasLetters_at_Gr_newGrhasNextName1_0_r0 (v_iv (n_v vs 1)) (v_iv (n_v vs 3)) (v_iv (n_v vs 4)) (v_iv (n_v vs 6)) (v_iv (n_v vs 12)) (w_ei ws (w_ar ws (n_v vs 0) 4)) k1 k3 k4 k6 k12 d0 d1 d2 (shm_12 f0) (shm_6 f1) h2 (shm_113 f4) hK_0_4
  have rf12 : tv_ok ta (0, 0, 2, []) (n_v vs 12) := tv_in t12 (by omega) (by omega)
  refine ⟨List.forall_mem_cons.mpr ⟨rf12, (fun _ h => (by cases h))⟩, [], trivial, ?_, (fun _ h => (by cases h))⟩
  rw [List.append_nil]
  exact (fun _ h => (by cases h))
def n_Gr_hasLetters_at_Gr_newGrhasNextName1_an : List an_T := [(3, [(0, (2, 0, 0, [3])), (1, (0, 0, 23, [])), (2, (2, 0, 0, [296])), (3, (0, 0, 0, [])), (4, (0, 0, 8, []))], [], (0, 0), [(0, 0, 99997), (1, 4, 8), (0, 0, 100000)], [], [], [], 0, [], [(20, [0, 1, 3], [30, 3, 1, 2, 4, 1, 0, 0])])]
def t_Gr_hasLetters_at_Gr_newGrhasNextName1_ct : ct_L := []
set_option maxRecDepth 100000 in
theorem c_Gr_hasLetters_at_Gr_newGrhasNextName1 {l : Launch} {D : va_G} {kA : Nat → ClassId} : ct_ok PRD l D kA GG y_Gr_hasLetters_at_Gr_newGrhasNextName1 z_Gr_hasLetters_at_Gr_newGrhasNextName1 e_Gr_hasLetters_at_Gr_newGrhasNextName1 := chk_all_ok (FT := [(21, 3, 3), (25, 3, 4)]) (PT := []) (CT := t_Gr_hasLetters_at_Gr_newGrhasNextName1_ct) (KT := []) (NT := []) (AN := n_Gr_hasLetters_at_Gr_newGrhasNextName1_an) (OT := [o_Gr_hasLetters_at_Gr_newGrhasNextName1_0]) 3 200 (List.forall_mem_cons.mpr ⟨oo_Gr_hasLetters_at_Gr_newGrhasNextName1_0, List.forall_mem_nil _⟩) (by decide +kernel) ⟨List.forall_mem_cons.mpr ⟨gf_Gr_21, List.forall_mem_cons.mpr ⟨gf_Gr_25, List.forall_mem_nil _⟩⟩, List.forall_mem_nil _, List.forall_mem_nil _, List.forall_mem_nil _, List.forall_mem_nil _, GG_pl⟩ (by decide +kernel)
def n_Gr_nextName_an : List an_T := []
def t_Gr_nextName_ct : ct_L := []
set_option maxRecDepth 100000 in
theorem c_Gr_nextName {l : Launch} {D : va_G} {kA : Nat → ClassId} : ct_ok PRD l D kA GG y_Gr_nextName z_Gr_nextName e_Gr_nextName := chk_all_ok (FT := [(9, 3, 0)]) (PT := []) (CT := t_Gr_nextName_ct) (KT := []) (NT := []) (AN := n_Gr_nextName_an) (OT := []) 0 200 (List.forall_mem_nil _) (by decide +kernel) ⟨List.forall_mem_cons.mpr ⟨gf_Gr_9, List.forall_mem_nil _⟩, List.forall_mem_nil _, List.forall_mem_nil _, List.forall_mem_nil _, List.forall_mem_nil _, GG_pl⟩ (by decide +kernel)
def n_Gr_setLetters_an : List an_T := []
def t_Gr_setLetters_ct : ct_L := []
set_option maxRecDepth 100000 in
theorem c_Gr_setLetters {l : Launch} {D : va_G} {kA : Nat → ClassId} : ct_ok PRD l D kA GG y_Gr_setLetters z_Gr_setLetters e_Gr_setLetters := chk_all_ok (FT := [(21, 3, 3)]) (PT := []) (CT := t_Gr_setLetters_ct) (KT := []) (NT := []) (AN := n_Gr_setLetters_an) (OT := []) 0 200 (List.forall_mem_nil _) (by decide +kernel) ⟨List.forall_mem_cons.mpr ⟨gf_Gr_21, List.forall_mem_nil _⟩, List.forall_mem_nil _, List.forall_mem_nil _, List.forall_mem_nil _, List.forall_mem_nil _, GG_pl⟩ (by decide +kernel)
def n_La_countCrossings_an : List an_T := [(4, [(0, (2, 0, 0, [4])), (1, (0, (Int.negSucc 2147483647), 2147483647, [])), (2, (0, 0, 24, []))], [], (0, 0), [(0, 0, 99996), (1, 2, 24), (0, 0, 100000), (0, 0, 0), (0, 0, 0), (0, 0, 0), (0, 0, 0)], [], [], [], 0, [], []), (21, [(0, (2, 0, 0, [4])), (1, (0, (Int.negSucc 2147483647), 2147483647, [])), (2, (0, 0, 23, [])), (3, (0, 0, 120, []))], [], (0, 0), [(0, 0, 99996), (1, 2, 24), (0, 0, 99979), (1, 3, 120), (0, 0, 100000), (0, 0, 0), (0, 0, 0)], [], [], [], 0, [], []), (38, [(0, (2, 0, 0, [4])), (1, (0, (Int.negSucc 2147483647), 2147483647, [])), (2, (0, 0, 23, [])), (3, (0, 0, 119, [])), (4, (0, 1, 120, []))], [], (0, 0), [(0, 0, 99996), (1, 2, 24), (0, 0, 99979), (1, 3, 120), (0, 0, 99962), (1, 4, 120), (0, 0, 100000)], [], [], [], 0, [], [])]
def t_La_countCrossings_ct : ct_L := []
set_option maxRecDepth 100000 in
theorem c_La_countCrossings {l : Launch} {D : va_G} {kA : Nat → ClassId} : ct_ok PRD l D kA GG y_La_countCrossings z_La_countCrossings e_La_countCrossings := chk_all_ok (FT := [(22, 4, 2), (36, 4, 6), (39, 4, 7), (45, 4, 9), (60, 4, 14)]) (PT := []) (CT := t_La_countCrossings_ct) (KT := []) (NT := []) (AN := n_La_countCrossings_an) (OT := []) 7 380 (List.forall_mem_nil _) (by decide +kernel) ⟨List.forall_mem_cons.mpr ⟨gf_La_22, List.forall_mem_cons.mpr ⟨gf_La_36, List.forall_mem_cons.mpr ⟨gf_La_39, List.forall_mem_cons.mpr ⟨gf_La_45, List.forall_mem_cons.mpr ⟨gf_La_60, List.forall_mem_nil _⟩⟩⟩⟩⟩, List.forall_mem_nil _, List.forall_mem_nil _, List.forall_mem_nil _, List.forall_mem_nil _, GG_pl⟩ (by decide +kernel)
def o_La_countOrders_at_gk_0 : or_T := (1000000, 0, [], [], [], [], [], [], [])
theorem oo_La_countOrders_at_gk_0 {kA : Nat → ClassId} : or_ok PRD kA GG o_La_countOrders_at_gk_0 := fun _ _ _ _ _ _ _ _ _ _ => ⟨fun q h => (by cases h), [], trivial, fun f h => (by cases h), fun q h => (by cases h)⟩
def n_La_countOrders_at_gk_an : List an_T := []
def t_La_countOrders_at_gk_ct : ct_L := [(1000002, 175, en_ro [] (2, 0, 0, [5400])), (1000006, 0, ([(2, 0, 0, [5400]), (0, 1, 5, [])], some (0, 1, 120, []), true, 0, 0, 0, [], [], (0, [], [], [(20, [1, 2], [61, 0, 684])], [])))]
set_option maxRecDepth 100000 in
theorem c_La_countOrders_at_gk {l : Launch} {D : va_G} {kA : Nat → ClassId} : ct_ok PRD l D kA GG y_La_countOrders_at_gk z_La_countOrders_at_gk e_La_countOrders_at_gk := chk_all_ok (FT := []) (PT := []) (CT := t_La_countOrders_at_gk_ct) (KT := []) (NT := []) (AN := n_La_countOrders_at_gk_an) (OT := [o_La_countOrders_at_gk_0]) 0 200 (List.forall_mem_cons.mpr ⟨oo_La_countOrders_at_gk_0, List.forall_mem_nil _⟩) (by decide +kernel) ⟨List.forall_mem_nil _, List.forall_mem_nil _, List.forall_mem_cons.mpr ⟨cl_counts wn_1234, List.forall_mem_cons.mpr ⟨cl_tintX (k := 684) (Or.inl ⟨rfl, rfl⟩) rfl (by decide +kernel) (by decide +kernel) tbc_all, List.forall_mem_nil _⟩⟩, List.forall_mem_nil _, List.forall_mem_nil _, GG_pl⟩ (by decide +kernel)
def o_La_countOrders_at_gs_0 : or_T := (1000000, 0, [], [], [], [], [], [], [])
theorem oo_La_countOrders_at_gs_0 {kA : Nat → ClassId} : or_ok PRD kA GG o_La_countOrders_at_gs_0 := fun _ _ _ _ _ _ _ _ _ _ => ⟨fun q h => (by cases h), [], trivial, fun f h => (by cases h), fun q h => (by cases h)⟩
def n_La_countOrders_at_gs_an : List an_T := []
def t_La_countOrders_at_gs_ct : ct_L := [(1000002, 175, en_ro [] (2, 0, 0, [5400])), (1000006, 0, ([(2, 0, 0, [5400]), (0, 1, 5, [])], some (0, 1, 120, []), true, 0, 0, 0, [], [], (0, [], [], [(20, [1, 2], [61, 0, 684])], [])))]
set_option maxRecDepth 100000 in
theorem c_La_countOrders_at_gs {l : Launch} {D : va_G} {kA : Nat → ClassId} : ct_ok PRD l D kA GG y_La_countOrders_at_gs z_La_countOrders_at_gs e_La_countOrders_at_gs := chk_all_ok (FT := []) (PT := []) (CT := t_La_countOrders_at_gs_ct) (KT := []) (NT := []) (AN := n_La_countOrders_at_gs_an) (OT := [o_La_countOrders_at_gs_0]) 0 200 (List.forall_mem_cons.mpr ⟨oo_La_countOrders_at_gs_0, List.forall_mem_nil _⟩) (by decide +kernel) ⟨List.forall_mem_nil _, List.forall_mem_nil _, List.forall_mem_cons.mpr ⟨cl_counts wn_1234, List.forall_mem_cons.mpr ⟨cl_tintX (k := 684) (Or.inl ⟨rfl, rfl⟩) rfl (by decide +kernel) (by decide +kernel) tbc_all, List.forall_mem_nil _⟩⟩, List.forall_mem_nil _, List.forall_mem_nil _, GG_pl⟩ (by decide +kernel)
def o_La_countOrders_at_gx_0 : or_T := (1000000, 0, [], [], [], [], [], [], [])
theorem oo_La_countOrders_at_gx_0 {kA : Nat → ClassId} : or_ok PRD kA GG o_La_countOrders_at_gx_0 := fun _ _ _ _ _ _ _ _ _ _ => ⟨fun q h => (by cases h), [], trivial, fun f h => (by cases h), fun q h => (by cases h)⟩
def n_La_countOrders_at_gx_an : List an_T := []
def t_La_countOrders_at_gx_ct : ct_L := [(1000002, 175, en_ro [] (2, 0, 0, [5400])), (1000006, 0, ([(2, 0, 0, [5400]), (0, 0, 6, [])], some (0, 1, 720, []), true, 0, 0, 0, [], [], (0, [], [], [(20, [1, 2], [61, 0, 684])], [])))]
set_option maxRecDepth 100000 in
theorem c_La_countOrders_at_gx {l : Launch} {D : va_G} {kA : Nat → ClassId} : ct_ok PRD l D kA GG y_La_countOrders_at_gx z_La_countOrders_at_gx e_La_countOrders_at_gx := chk_all_ok (FT := []) (PT := []) (CT := t_La_countOrders_at_gx_ct) (KT := []) (NT := []) (AN := n_La_countOrders_at_gx_an) (OT := [o_La_countOrders_at_gx_0]) 0 200 (List.forall_mem_cons.mpr ⟨oo_La_countOrders_at_gx_0, List.forall_mem_nil _⟩) (by decide +kernel) ⟨List.forall_mem_nil _, List.forall_mem_nil _, List.forall_mem_cons.mpr ⟨cl_counts wn_1234, List.forall_mem_cons.mpr ⟨cl_tintX (k := 684) (Or.inl ⟨rfl, rfl⟩) rfl (by decide +kernel) (by decide +kernel) tbc_all, List.forall_mem_nil _⟩⟩, List.forall_mem_nil _, List.forall_mem_nil _, GG_pl⟩ (by decide +kernel)
def o_La_firstOrder_0 : or_T := (1000000, 0, [], [], [], [], [], [], [])
theorem oo_La_firstOrder_0 {kA : Nat → ClassId} : or_ok PRD kA GG o_La_firstOrder_0 := fun _ _ _ _ _ _ _ _ _ _ => ⟨fun q h => (by cases h), [], trivial, fun f h => (by cases h), fun q h => (by cases h)⟩
def n_La_firstOrder_an : List an_T := []
def t_La_firstOrder_ct : ct_L := [(1000002, 178, en_ro [] (2, 0, 0, [5401])), (1000006, 0, ([(2, 0, 0, [5401]), (0, 0, 6, [])], some (0, 0, 153, []), true, 0, 0, 0, [], [], (0, [], [], [(20, [1, 2], [61, 0, 685])], [])))]
set_option maxRecDepth 100000 in
theorem c_La_firstOrder {l : Launch} {D : va_G} {kA : Nat → ClassId} : ct_ok PRD l D kA GG y_La_firstOrder z_La_firstOrder e_La_firstOrder := chk_all_ok (FT := []) (PT := []) (CT := t_La_firstOrder_ct) (KT := []) (NT := []) (AN := n_La_firstOrder_an) (OT := [o_La_firstOrder_0]) 0 200 (List.forall_mem_cons.mpr ⟨oo_La_firstOrder_0, List.forall_mem_nil _⟩) (by decide +kernel) ⟨List.forall_mem_nil _, List.forall_mem_nil _, List.forall_mem_cons.mpr ⟨cl_starts wn_1397, List.forall_mem_cons.mpr ⟨cl_tintX (k := 685) (Or.inr ⟨rfl, rfl⟩) rfl (by decide +kernel) (by decide +kernel) tbs_all, List.forall_mem_nil _⟩⟩, List.forall_mem_nil _, List.forall_mem_nil _, GG_pl⟩ (by decide +kernel)
set_option maxHeartbeats 4000000 in
theorem vc_La_setPlaces_0_0 (x1 : Int) (x3 : Int) (layerStart_0 : Int → Int) (k1 : 0 ≤ x1 ∧ x1 ≤ 23) (k3 : 0 ≤ x3 ∧ x3 ≤ 72) (h0 : x3 = layerStart_0 (x1)) : 1 * layerStart_0 (x1) + ((-1) * x3 + 0) ≤ 0 := by
  first | assumption | omega | grind
def o_La_setPlaces_0 : or_T := (7, 4, [(1, (0, 0, 23, [])), (3, (0, 0, 72, []))], [(10, [3, 2, 1], []), (9, [2, 0], [10])], [], [], [(20, [0, 1, 3], [30, 0, 1, 2, 10, -1, 0, 0])], [], [])
theorem oo_La_setPlaces_0 {kA : Nat → ClassId} : or_ok PRD kA GG o_La_setPlaces_0 := by
  refine or_mk fun A ta ws vs hD hth hl => ?_
  intro t1 k1 t3 k3 f0 f1
  replace f0 := shm_107 f0
  replace f1 := shm_106 f1
  have ad_2 : v_ad (n_v vs 2) = w_ar ws (n_v vs 0) 10 := congrArg v_ad f1
  simp only [ad_2] at f0
  have h0 : v_iv (n_v vs 3) = w_ei ws (w_ar ws (n_v vs 0) 10) (v_iv (n_v vs 1)) := f0
  have nf0 : fc_1 PRD (20, [0, 1, 3], [30, 0, 1, 2, 10, -1, 0, 0]) ws (vs) := ⟨nf_in hl rfl, sgq_114 (vc_La_setPlaces_0_0 (v_iv (n_v vs 1)) (v_iv (n_v vs 3)) (w_ei ws (w_ar ws (n_v vs 0) 10)) k1 k3 h0)⟩
  refine ⟨(fun _ h => (by cases h)), [], trivial, ?_, (fun _ h => (by cases h))⟩
  rw [List.append_nil]
  exact List.forall_mem_cons.mpr ⟨⟨show (20 : Nat) < 100 from by decide, nf0⟩, (fun _ h => (by cases h))⟩
set_option maxHeartbeats 4000000 in
theorem vc_La_setPlaces_1_r0 (x1 : Int) (x2 : Int) (x10 : Int) (x11 : Int) (layerStart_0 : Int → Int) (k1 : 0 ≤ x1 ∧ x1 ≤ 23) (k2 : 0 ≤ x2 ∧ x2 ≤ 71) (k10 : 0 ≤ x10 ∧ x10 ≤ 72) (k11 : (-72) ≤ x11 ∧ x11 ≤ 71) (d0 : x2 + (-72) ≤ x11 ∧ x11 ≤ x2 + 0) (f0 : x11 = x2 - x10) (h1 : x10 = layerStart_0 (x1)) (f6 : 1 * layerStart_0 (x1) + ((-1) * x2 + 0) ≤ 0) : 0 ≤ x11 ∧ x11 ≤ 71 := by
  first | assumption | omega | grind
def o_La_setPlaces_1 : or_T := (37, 12, [(0, (2, 0, 0, [4])), (1, (0, 0, 23, [])), (2, (0, 0, 71, [])), (3, (2, 0, 0, [68])), (4, (0, 1, 1, [])), (5, (0, 1, 24, [])), (6, (0, 1, 72, [])), (10, (0, 0, 72, [])), (11, (0, -72, 71, []))], [(2, [11, 2, 10], []), (10, [10, 3, 1], []), (9, [3, 0], [10]), (7, [2, 6], [2]), (10, [6, 3, 5], []), (1, [5, 1, 4], []), (20, [0, 1, 2], [30, 0, 1, 2, 10, -1, 0, 0])], [(11, (0, 0, 71, []))], [], [], [], [(11, 2, -72, 0), (11, 6, -4294967296, -1), (2, 6, -4294967296, -1), (5, 1, 1, 1)])
theorem oo_La_setPlaces_1 {kA : Nat → ClassId} : or_ok PRD kA GG o_La_setPlaces_1 := by
  refine or_mk fun A ta ws vs hD hth hl => ?_
  intro t0 r0 t1 k1 t2 k2 t3 r3 t4 k4 t5 k5 t6 k6 t10 k10 t11 k11 d0 d1 d2 d3 f0 f1 f2 f3 f4 f5 f6
  replace f1 := shm_107 f1
  replace f2 := shm_106 f2
  have ad_3 : v_ad (n_v vs 3) = w_ar ws (n_v vs 0) 10 := congrArg v_ad f2
  simp only [ad_3] at f1
  have h1 : v_iv (n_v vs 10) = w_ei ws (w_ar ws (n_v vs 0) 10) (v_iv (n_v vs 1)) := f1
  have hrf0 : 0 ≤ v_iv (n_v vs 11) ∧ v_iv (n_v vs 11) ≤ 71 := vc_La_setPlaces_1_r0 (v_iv (n_v vs 1)) (v_iv (n_v vs 2)) (v_iv (n_v vs 10)) (v_iv (n_v vs 11)) (w_ei ws (w_ar ws (n_v vs 0) 10)) k1 k2 k10 k11 d0 (shm_14 f0) h1 (shm_114 f6)
  have rf11 : tv_ok ta (0, 0, 71, []) (n_v vs 11) := tv_in t11 (by omega) (by omega)
  refine ⟨List.forall_mem_cons.mpr ⟨rf11, (fun _ h => (by cases h))⟩, [], trivial, ?_, (fun _ h => (by cases h))⟩
  rw [List.append_nil]
  exact (fun _ h => (by cases h))
def o_La_setPlaces_2 : or_T := (7, 13, [(0, (2, 0, 0, [4])), (1, (0, 0, 23, [])), (2, (0, 0, 71, [])), (3, (2, 0, 0, [68])), (4, (0, 1, 1, [])), (5, (0, 1, 24, [])), (6, (0, 1, 72, [])), (7, (2, 0, 0, [72])), (9, (0, 0, 71, [])), (10, (0, 0, 72, [])), (11, (0, 0, 71, [])), (12, (0, 1, 72, []))], [(6, [12, 2], [1]), (20, [0, 1, 2], [30, 0, 1, 2, 10, -1, 0, 0]), (100, [7, 9, 11], []), (2, [11, 2, 10], []), (10, [10, 3, 1], []), (9, [3, 0], [10]), (9, [7, 0], [14]), (7, [2, 6], [2]), (10, [6, 3, 5], []), (1, [5, 1, 4], []), (20, [0, 1, 2], [30, 0, 1, 2, 10, -1, 0, 0])], [], [], [(20, [0, 1, 12], [30, 0, 1, 2, 10, -1, 0, 0])], [], [(12, 2, 1, 1), (12, 6, -4294967296, 0), (11, 2, -72, 0), (11, 6, -4294967296, -1), (2, 6, -4294967296, -1), (5, 1, 1, 1)])
theorem oo_La_setPlaces_2 {kA : Nat → ClassId} : or_ok PRD kA GG o_La_setPlaces_2 := by
  refine or_mk fun A ta ws vs hD hth hl => ?_
  intro t0 r0 t1 k1 t2 k2 t3 r3 t4 k4 t5 k5 t6 k6 t7 r7 t9 k9 t10 k10 t11 k11 t12 k12 d0 d1 d2 d3 d4 d5 f0 f1 ta1 w1 le1 s1 f3 f4 f5 f6 f7 f8 f9 f10
  replace f0 := shm_4 f0
  replace f1 := shm_114 f1
  have s1 : (∀ b j, w_el ws b j = if b = v_ad (n_v vs 7) ∧ j = (v_iv (n_v vs 9)).toNat then v_iv (n_v vs 11) else w_el w1 b j) ∧ ∀ b k, w_fd ws b k = w_fd w1 b k := s1.2
  replace f3 := shm_14 f3
  replace f4 := shm_107 f4
  replace f5 := shm_106 f5
  replace f6 := shm_115 f6
  replace f7 := shm_6 f7
  replace f8 := shm_107 f8
  replace f9 := shm_12 f9
  replace f10 := shm_114 f10
  have ar_0_10_1 : w_ar w1 (n_v vs 0) 10 = w_ar ws (n_v vs 0) 10 := congrArg v_ad (s1.2 _ _).symm
  have cr_0_10 := fdq_5 hD hth r0
  have ar_0_14_1 : w_ar w1 (n_v vs 0) 14 = w_ar ws (n_v vs 0) 14 := congrArg v_ad (s1.2 _ _).symm
  have cr_0_14 := fdq_6 hD hth r0
  have ad_3 : v_ad (n_v vs 3) = w_ar ws (n_v vs 0) 10 := (congrArg v_ad f5).trans ar_0_10_1
  have ad_7 : v_ad (n_v vs 7) = w_ar ws (n_v vs 0) 14 := (congrArg v_ad f6).trans ar_0_14_1
  simp only [ad_3] at f4
  have h4 : v_iv (n_v vs 10) = w_ei w1 (w_ar ws (n_v vs 0) 10) (v_iv (n_v vs 1)) := f4
  simp only [ad_3] at f8
  have h8 : v_iv (n_v vs 6) = w_ei w1 (w_ar ws (n_v vs 0) 10) (v_iv (n_v vs 5)) := f8
  simp only [ar_0_10_1] at f10
  have ee_0_10_1_1 : w_el ws (w_ar ws (n_v vs 0) 10) (v_iv (n_v vs 1)).toNat = w_el w1 (w_ar ws (n_v vs 0) 10) (v_iv (n_v vs 1)).toNat := by rw [s1.1, if_neg (fun e => by have e1 := e.1; rw [← e1] at r7; rw [cr_0_10] at r7; exact absurd (Option.some.inj r7) (by decide))]
  have ee_0_10_5_1 : w_el ws (w_ar ws (n_v vs 0) 10) (v_iv (n_v vs 5)).toNat = w_el w1 (w_ar ws (n_v vs 0) 10) (v_iv (n_v vs 5)).toNat := by rw [s1.1, if_neg (fun e => by have e1 := e.1; rw [← e1] at r7; rw [cr_0_10] at r7; exact absurd (Option.some.inj r7) (by decide))]
  have nf0 : fc_1 PRD (20, [0, 1, 12], [30, 0, 1, 2, 10, -1, 0, 0]) ws (vs) := by
    refine ⟨nf_in hl rfl, sgq_114 ?_⟩
    · show 1 * w_el ws (w_ar ws (n_v vs 0) 10) (v_iv (n_v vs 1)).toNat + ((-1) * v_iv (n_v vs 12) + 0) ≤ 0
      omega
  refine ⟨(fun _ h => (by cases h)), [], trivial, ?_, (fun _ h => (by cases h))⟩
  rw [List.append_nil]
  exact List.forall_mem_cons.mpr ⟨⟨show (20 : Nat) < 100 from by decide, nf0⟩, (fun _ h => (by cases h))⟩
def n_La_setPlaces_an : List an_T := [(7, [(0, (2, 0, 0, [4])), (1, (0, 0, 23, [])), (2, (0, 0, 72, []))], [], (0, 0), [(0, 0, 99993), (1, 2, 72), (0, 0, 100000)], [], [], [], 0, [], [(20, [0, 1, 2], [30, 0, 1, 2, 10, (Int.negSucc 0), 0, 0])])]
def t_La_setPlaces_ct : ct_L := []
set_option maxRecDepth 100000 in
theorem c_La_setPlaces {l : Launch} {D : va_G} {kA : Nat → ClassId} : ct_ok PRD l D kA GG y_La_setPlaces z_La_setPlaces e_La_setPlaces := chk_all_ok (FT := [(48, 4, 10), (57, 4, 13), (60, 4, 14)]) (PT := []) (CT := t_La_setPlaces_ct) (KT := []) (NT := []) (AN := n_La_setPlaces_an) (OT := [o_La_setPlaces_0, o_La_setPlaces_1, o_La_setPlaces_2]) 3 200 (List.forall_mem_cons.mpr ⟨oo_La_setPlaces_0, List.forall_mem_cons.mpr ⟨oo_La_setPlaces_1, List.forall_mem_cons.mpr ⟨oo_La_setPlaces_2, List.forall_mem_nil _⟩⟩⟩) (by decide +kernel) ⟨List.forall_mem_cons.mpr ⟨gf_La_48, List.forall_mem_cons.mpr ⟨gf_La_57, List.forall_mem_cons.mpr ⟨gf_La_60, List.forall_mem_nil _⟩⟩⟩, List.forall_mem_nil _, List.forall_mem_nil _, List.forall_mem_nil _, List.forall_mem_nil _, GG_pl⟩ (by decide +kernel)
def n_Ne_edgeBetween_an : List an_T := []
def t_Ne_edgeBetween_ct : ct_L := []
set_option maxRecDepth 100000 in
theorem c_Ne_edgeBetween {l : Launch} {D : va_G} {kA : Nat → ClassId} : ct_ok PRD l D kA GG y_Ne_edgeBetween z_Ne_edgeBetween e_Ne_edgeBetween := chk_all_ok (FT := [(43, 5, 10)]) (PT := []) (CT := t_Ne_edgeBetween_ct) (KT := []) (NT := []) (AN := n_Ne_edgeBetween_an) (OT := []) 0 200 (List.forall_mem_nil _) (by decide +kernel) ⟨List.forall_mem_cons.mpr ⟨gf_Ne_43, List.forall_mem_nil _⟩, List.forall_mem_nil _, List.forall_mem_nil _, List.forall_mem_nil _, List.forall_mem_nil _, GG_pl⟩ (by decide +kernel)
def n_Ne_endAt_an : List an_T := []
def t_Ne_endAt_ct : ct_L := []
set_option maxRecDepth 100000 in
theorem c_Ne_endAt {l : Launch} {D : va_G} {kA : Nat → ClassId} : ct_ok PRD l D kA GG y_Ne_endAt z_Ne_endAt e_Ne_endAt := chk_all_ok (FT := [(34, 5, 7)]) (PT := []) (CT := t_Ne_endAt_ct) (KT := []) (NT := []) (AN := n_Ne_endAt_an) (OT := []) 0 200 (List.forall_mem_nil _) (by decide +kernel) ⟨List.forall_mem_cons.mpr ⟨gf_Ne_34, List.forall_mem_nil _⟩, List.forall_mem_nil _, List.forall_mem_nil _, List.forall_mem_nil _, List.forall_mem_nil _, GG_pl⟩ (by decide +kernel)
def o_Ne_join_at_Nq_gx_0 : or_T := (1000000, 0, [], [], [], [], [], [], [])
theorem oo_Ne_join_at_Nq_gx_0 {kA : Nat → ClassId} : or_ok PRD kA GG o_Ne_join_at_Nq_gx_0 := fun _ _ _ _ _ _ _ _ _ _ => ⟨fun q h => (by cases h), [], trivial, fun f h => (by cases h), fun q h => (by cases h)⟩
def n_Ne_join_at_Nq_gx_an : List an_T := []
def t_Ne_join_at_Nq_gx_ct : ct_L := []
set_option maxRecDepth 100000 in
theorem c_Ne_join_at_Nq_gx {l : Launch} {D : va_G} {kA : Nat → ClassId} : ct_ok PRD l D kA GG y_Ne_join_at_Nq_gx z_Ne_join_at_Nq_gx e_Ne_join_at_Nq_gx := chk_all_ok (FT := [(31, 5, 6), (34, 5, 7), (37, 5, 8), (40, 5, 9), (43, 5, 10)]) (PT := [(31, 5, 6, .int)]) (CT := t_Ne_join_at_Nq_gx_ct) (KT := []) (NT := []) (AN := n_Ne_join_at_Nq_gx_an) (OT := [o_Ne_join_at_Nq_gx_0]) 0 260 (List.forall_mem_cons.mpr ⟨oo_Ne_join_at_Nq_gx_0, List.forall_mem_nil _⟩) (by decide +kernel) ⟨List.forall_mem_cons.mpr ⟨gf_Ne_31, List.forall_mem_cons.mpr ⟨gf_Ne_34, List.forall_mem_cons.mpr ⟨gf_Ne_37, List.forall_mem_cons.mpr ⟨gf_Ne_40, List.forall_mem_cons.mpr ⟨gf_Ne_43, List.forall_mem_nil _⟩⟩⟩⟩⟩, List.forall_mem_cons.mpr ⟨pf_Ne_31, List.forall_mem_nil _⟩, List.forall_mem_nil _, List.forall_mem_nil _, List.forall_mem_nil _, GG_pl⟩ (by decide +kernel)
def o_Ne_nodeOfFace_0 : or_T := (41, 13, [(2, (0, 0, 143, [])), (7, (0, 1, 144, [])), (8, (0, 0, 144, [])), (9, (0, 1, 144, [])), (11, (0, 0, 144, [])), (12, (0, 0, 287, []))], [(1, [12, 11, 2], []), (10, [11, 4, 1], []), (7, [2, 9], [2]), (2, [9, 7, 8], []), (10, [8, 4, 1], [])], [(12, (0, 0, 143, []))], [], [], [], [(12, 2, 0, 144), (12, 9, -4294967296, 143), (12, 11, 0, 143), (2, 9, -4294967296, -1), (9, 7, -144, 0)])
theorem oo_Ne_nodeOfFace_0 {kA : Nat → ClassId} : or_ok PRD kA GG o_Ne_nodeOfFace_0 := by
  refine or_mk fun A ta ws vs hD hth hl => ?_
  intro t2 k2 t7 k7 t8 k8 t9 k9 t11 k11 t12 k12 d0 d1 d2 d3 d4 f0 f1 f2 f3 f4
  replace f0 := shm_12 f0
  replace f1 := shm_107 f1
  replace f2 := shm_6 f2
  replace f3 := shm_14 f3
  replace f4 := shm_107 f4
  have rf12 : tv_ok ta (0, 0, 143, []) (n_v vs 12) := tv_in t12 (by omega) (by omega)
  refine ⟨List.forall_mem_cons.mpr ⟨rf12, (fun _ h => (by cases h))⟩, [], trivial, ?_, (fun _ h => (by cases h))⟩
  rw [List.append_nil]
  exact (fun _ h => (by cases h))
def n_Ne_nodeOfFace_an : List an_T := []
def t_Ne_nodeOfFace_ct : ct_L := []
set_option maxRecDepth 100000 in
theorem c_Ne_nodeOfFace {l : Launch} {D : va_G} {kA : Nat → ClassId} : ct_ok PRD l D kA GG y_Ne_nodeOfFace z_Ne_nodeOfFace e_Ne_nodeOfFace := chk_all_ok (FT := [(52, 5, 13), (55, 5, 14), (58, 5, 15)]) (PT := []) (CT := t_Ne_nodeOfFace_ct) (KT := []) (NT := []) (AN := n_Ne_nodeOfFace_an) (OT := [o_Ne_nodeOfFace_0]) 0 200 (List.forall_mem_cons.mpr ⟨oo_Ne_nodeOfFace_0, List.forall_mem_nil _⟩) (by decide +kernel) ⟨List.forall_mem_cons.mpr ⟨gf_Ne_52, List.forall_mem_cons.mpr ⟨gf_Ne_55, List.forall_mem_cons.mpr ⟨gf_Ne_58, List.forall_mem_nil _⟩⟩⟩, List.forall_mem_nil _, List.forall_mem_nil _, List.forall_mem_nil _, List.forall_mem_nil _, GG_pl⟩ (by decide +kernel)
set_option maxHeartbeats 4000000 in
theorem vc_Pl_insertItem_0_r0 (x3 : Int) (x4 : Int) (items_0 : Int) (k3 : 0 ≤ x3 ∧ x3 ≤ 31) (k4 : 0 ≤ x4 ∧ x4 ≤ 32) (g0 : x4 = items_0) (f1 : 1 * items_0 + ((-1) * x3 + 0) ≤ 0) (kz_0_11 : 0 ≤ items_0 ∧ items_0 ≤ 32) : 0 ≤ x4 ∧ x4 ≤ 31 := by
  first | assumption | omega | grind
def o_Pl_insertItem_0 : or_T := (9, 5, [(0, (2, 0, 0, [6])), (3, (0, 0, 31, [])), (4, (0, 0, 32, []))], [(9, [4, 0], [11]), (20, [0, 3], [30, 0, 1, 1, 11, -1, 0, 0])], [(4, (0, 0, 31, []))], [], [], [], [])
theorem oo_Pl_insertItem_0 {kA : Nat → ClassId} : or_ok PRD kA GG o_Pl_insertItem_0 := by
  refine or_mk fun A ta ws vs hD hth hl => ?_
  intro t0 r0 t3 k3 t4 k4 f0 f1
  replace f0 := shm_116 f0
  have g0 : v_iv (n_v vs 4) = w_fi ws (n_v vs 0) 11 := congrArg v_iv f0
  have kz_0_11 := fdq_7 hD hth r0
  have hrf0 : 0 ≤ v_iv (n_v vs 4) ∧ v_iv (n_v vs 4) ≤ 31 := vc_Pl_insertItem_0_r0 (v_iv (n_v vs 3)) (v_iv (n_v vs 4)) (w_fi ws (n_v vs 0) 11) k3 k4 g0 (shm_117 f1) kz_0_11
  have rf4 : tv_ok ta (0, 0, 31, []) (n_v vs 4) := tv_in t4 (by omega) (by omega)
  refine ⟨List.forall_mem_cons.mpr ⟨rf4, (fun _ h => (by cases h))⟩, [], trivial, ?_, (fun _ h => (by cases h))⟩
  rw [List.append_nil]
  exact (fun _ h => (by cases h))
def o_Pl_insertItem_1 : or_T := (10, 5, [], [], [], [], [(24, [0, 0], [])], [], [])
theorem oo_Pl_insertItem_1 {kA : Nat → ClassId} : or_ok PRD kA GG o_Pl_insertItem_1 := by
  refine or_mk fun A ta ws vs hD hth hl => ?_
  have nf0 : fc_1 PRD (24, [0, 0], []) ws (vs) := by
    refine ⟨nf_in hl rfl, sgq_1 ?_⟩
    · show n_v vs 0 = n_v vs 0
      first | rfl | simp only [true_and]
  refine ⟨(fun _ h => (by cases h)), [], trivial, ?_, (fun _ h => (by cases h))⟩
  rw [List.append_nil]
  exact List.forall_mem_cons.mpr ⟨⟨show (24 : Nat) < 100 from by decide, nf0⟩, (fun _ h => (by cases h))⟩
set_option maxHeartbeats 4000000 in
theorem vc_Pl_insertItem_2_0 (x3 : Int) (items_0 : Int) (k3 : 0 ≤ x3 ∧ x3 ≤ 31) (f0 : 1 * items_0 + ((-1) * x3 + 0) ≤ 0) (kz_0_11 : 0 ≤ items_0 ∧ items_0 ≤ 32) : 1 * items_0 + ((-1) * x3 + 0) ≤ 1 := by
  first | assumption | omega | grind
def o_Pl_insertItem_2 : or_T := (4, 4, [(0, (2, 0, 0, [6])), (3, (0, 0, 31, []))], [(20, [0, 3], [30, 0, 1, 1, 11, -1, 0, 0])], [], [], [(20, [0, 3], [30, 1, 1, 1, 11, -1, 0, 0])], [], [])
theorem oo_Pl_insertItem_2 {kA : Nat → ClassId} : or_ok PRD kA GG o_Pl_insertItem_2 := by
  refine or_mk fun A ta ws vs hD hth hl => ?_
  intro t0 r0 t3 k3 f0
  have kz_0_11 := fdq_7 hD hth r0
  have nf0 : fc_1 PRD (20, [0, 3], [30, 1, 1, 1, 11, -1, 0, 0]) ws (vs) := ⟨nf_in hl rfl, sgq_118 (vc_Pl_insertItem_2_0 (v_iv (n_v vs 3)) (w_fi ws (n_v vs 0) 11) k3 (shm_117 f0) kz_0_11)⟩
  refine ⟨(fun _ h => (by cases h)), [], trivial, ?_, (fun _ h => (by cases h))⟩
  rw [List.append_nil]
  exact List.forall_mem_cons.mpr ⟨⟨show (20 : Nat) < 100 from by decide, nf0⟩, (fun _ h => (by cases h))⟩
set_option maxHeartbeats 4000000 in
theorem vc_Pl_insertItem_3_r0 (x3 : Int) (x10 : Int) (items_0 : Int) (items_1 : Int) (items_2 : Int) (k3 : 0 ≤ x3 ∧ x3 ≤ 31) (k10 : 0 ≤ x10 ∧ x10 ≤ 32) (g0 : x10 = items_0) (f1 : 1 * items_0 + ((-1) * x3 + 0) ≤ 0) (fe_0_11_1 : items_0 = items_1) (fe_0_11_2 : items_1 = items_2) (kz_0_11 : 0 ≤ items_0 ∧ items_0 ≤ 32) : 0 ≤ x10 ∧ x10 ≤ 31 := by
  subst fe_0_11_1
  subst fe_0_11_2
  first | assumption | omega | grind
def o_Pl_insertItem_3 : or_T := (80, 12, [(0, (2, 0, 0, [6])), (3, (0, 0, 31, [])), (4, (2, 0, 0, [6])), (7, (0, 0, 0, [])), (8, (2, 0, 0, [95])), (9, (2, 0, 0, [96])), (10, (0, 0, 32, []))], [(9, [10, 4], [11]), (20, [4, 3], [30, 0, 1, 1, 11, -1, 0, 0]), (24, [0, 4], []), (100, [9, 7, 6], []), (9, [9, 4], [10]), (20, [4, 3], [30, 0, 1, 1, 11, -1, 0, 0]), (100, [8, 7, 5], []), (9, [8, 4], [9]), (20, [4, 3], [30, 0, 1, 1, 11, -1, 0, 0])], [(10, (0, 0, 31, []))], [], [], [], [])
theorem oo_Pl_insertItem_3 {kA : Nat → ClassId} : or_ok PRD kA GG o_Pl_insertItem_3 := by
  refine or_mk fun A ta ws vs hD hth hl => ?_
  intro t0 r0 t3 k3 t4 r4 t7 k7 t8 r8 t9 r9 t10 k10 f0 f1 f2 ta1 w1 le1 s1 f4 f5 ta2 w2 le2 s2 f7 f8
  replace f0 := shm_116 f0
  replace f1 := shm_117 f1
  replace f2 := shm_5 f2
  have s1 : (∀ b j, w_el ws b j = if b = v_ad (n_v vs 9) ∧ j = (v_iv (n_v vs 7)).toNat then v_iv (n_v vs 6) else w_el w1 b j) ∧ ∀ b k, w_fd ws b k = w_fd w1 b k := s1.2
  have s2 : (∀ b j, w_el w1 b j = if b = v_ad (n_v vs 8) ∧ j = (v_iv (n_v vs 7)).toNat then v_iv (n_v vs 5) else w_el w2 b j) ∧ ∀ b k, w_fd w1 b k = w_fd w2 b k := s2.2
  have q4 : n_v vs 4 = n_v vs 0 := f2.symm
  simp only [q4] at f0 f1
  have g0 : v_iv (n_v vs 10) = w_fi ws (n_v vs 0) 11 := congrArg v_iv f0
  have fe_0_11_1 : w_fi ws (n_v vs 0) 11 = w_fi w1 (n_v vs 0) 11 := congrArg v_iv (s1.2 _ _)
  have fe_0_11_2 : w_fi w1 (n_v vs 0) 11 = w_fi w2 (n_v vs 0) 11 := congrArg v_iv (s2.2 _ _)
  have kz_0_11 := fdq_7 hD hth r0
  have hrf0 : 0 ≤ v_iv (n_v vs 10) ∧ v_iv (n_v vs 10) ≤ 31 := vc_Pl_insertItem_3_r0 (v_iv (n_v vs 3)) (v_iv (n_v vs 10)) (w_fi ws (n_v vs 0) 11) (w_fi w1 (n_v vs 0) 11) (w_fi w2 (n_v vs 0) 11) k3 k10 g0 f1 fe_0_11_1 fe_0_11_2 kz_0_11
  have rf10 : tv_ok ta (0, 0, 31, []) (n_v vs 10) := tv_in t10 (by omega) (by omega)
  refine ⟨List.forall_mem_cons.mpr ⟨rf10, (fun _ h => (by cases h))⟩, [], trivial, ?_, (fun _ h => (by cases h))⟩
  rw [List.append_nil]
  exact (fun _ h => (by cases h))
set_option maxHeartbeats 4000000 in
theorem vc_Pl_insertItem_4_0 (x3 : Int) (x10 : Int) (x12 : Int) (items_1 : Int) (items_2 : Int) (items_3 : Int) (items_0 : Int) (k3 : 0 ≤ x3 ∧ x3 ≤ 31) (k10 : 0 ≤ x10 ∧ x10 ≤ 31) (k12 : 1 ≤ x12 ∧ x12 ≤ 32) (d0 : x10 + 1 ≤ x12 ∧ x12 ≤ x10 + 1) (g3 : x10 = items_1) (f4 : 1 * items_1 + ((-1) * x3 + 0) ≤ 0) (fe_0_11_1 : items_0 = x12) (fe_0_11_2 : items_1 = items_2) (fe_0_11_3 : items_2 = items_3) (kz_0_11 : 0 ≤ items_0 ∧ items_0 ≤ 32) : 1 * items_0 + ((-1) * x3 + 0) ≤ 1 := by
  subst fe_0_11_2
  subst fe_0_11_3
  first | assumption | omega | grind
def o_Pl_insertItem_4 : or_T := (84, 13, [(0, (2, 0, 0, [6])), (3, (0, 0, 31, [])), (10, (0, 0, 31, [])), (12, (0, 1, 32, []))], [(24, [0, 4], []), (101, [4, 12], [11]), (9, [10, 4], [11]), (20, [4, 3], [30, 0, 1, 1, 11, -1, 0, 0]), (100, [9, 7, 6], []), (100, [8, 7, 5], [])], [], [], [(20, [0, 3], [30, 1, 1, 1, 11, -1, 0, 0])], [], [(12, 10, 1, 1)])
theorem oo_Pl_insertItem_4 {kA : Nat → ClassId} : or_ok PRD kA GG o_Pl_insertItem_4 := by
  refine or_mk fun A ta ws vs hD hth hl => ?_
  intro t0 r0 t3 k3 t10 k10 t12 k12 d0 f0 ta1 w1 le1 s1 f3 f4 ta2 w2 le2 s2 ta3 w3 le3 s3
  replace f0 := shm_5 f0
  have s1 : (∀ b j, w_el ws b j = w_el w1 b j) ∧ ∀ b j, w_fd ws b j = if b = v_ad (n_v vs 4) ∧ j = 11 then n_v vs 12 else w_fd w1 b j := s1.2
  replace f3 := shm_116 f3
  replace f4 := shm_117 f4
  have s2 : (∀ b j, w_el w1 b j = if b = v_ad (n_v vs 9) ∧ j = (v_iv (n_v vs 7)).toNat then v_iv (n_v vs 6) else w_el w2 b j) ∧ ∀ b k, w_fd w1 b k = w_fd w2 b k := s2.2
  have s3 : (∀ b j, w_el w2 b j = if b = v_ad (n_v vs 8) ∧ j = (v_iv (n_v vs 7)).toNat then v_iv (n_v vs 5) else w_el w3 b j) ∧ ∀ b k, w_fd w2 b k = w_fd w3 b k := s3.2
  have q4 : n_v vs 4 = n_v vs 0 := f0.symm
  rw [q4] at s1
  simp only [q4] at f3 f4
  have g3 : v_iv (n_v vs 10) = w_fi w1 (n_v vs 0) 11 := congrArg v_iv f3
  have fe_0_11_1 : w_fi ws (n_v vs 0) 11 = v_iv (n_v vs 12) := by show v_iv (w_fd _ _ _) = _; rw [s1.2, if_pos ⟨rfl, rfl⟩]
  have fe_0_11_2 : w_fi w1 (n_v vs 0) 11 = w_fi w2 (n_v vs 0) 11 := congrArg v_iv (s2.2 _ _)
  have fe_0_11_3 : w_fi w2 (n_v vs 0) 11 = w_fi w3 (n_v vs 0) 11 := congrArg v_iv (s3.2 _ _)
  have kz_0_11 := fdq_7 hD hth r0
  have nf0 : fc_1 PRD (20, [0, 3], [30, 1, 1, 1, 11, -1, 0, 0]) ws (vs) := ⟨nf_in hl rfl, sgq_118 (vc_Pl_insertItem_4_0 (v_iv (n_v vs 3)) (v_iv (n_v vs 10)) (v_iv (n_v vs 12)) (w_fi w1 (n_v vs 0) 11) (w_fi w2 (n_v vs 0) 11) (w_fi w3 (n_v vs 0) 11) (w_fi ws (n_v vs 0) 11) k3 k10 k12 d0 g3 f4 fe_0_11_1 fe_0_11_2 fe_0_11_3 kz_0_11)⟩
  refine ⟨(fun _ h => (by cases h)), [], trivial, ?_, (fun _ h => (by cases h))⟩
  rw [List.append_nil]
  exact List.forall_mem_cons.mpr ⟨⟨show (20 : Nat) < 100 from by decide, nf0⟩, (fun _ h => (by cases h))⟩
set_option maxHeartbeats 4000000 in
theorem vc_Pl_insertItem_5_r0 (x3 : Int) (x13 : Int) (items_0 : Int) (items_1 : Int) (items_2 : Int) (k3 : 0 ≤ x3 ∧ x3 ≤ 31) (k13 : 0 ≤ x13 ∧ x13 ≤ 32) (g0 : x13 = items_0) (f1 : 1 * items_0 + ((-1) * x3 + 0) ≤ 0) (fe_0_11_1 : items_0 = items_1) (fe_0_11_2 : items_1 = items_2) (kz_0_11 : 0 ≤ items_0 ∧ items_0 ≤ 32) : 0 ≤ x13 ∧ x13 ≤ 31 := by
  subst fe_0_11_1
  subst fe_0_11_2
  first | assumption | omega | grind
def o_Pl_insertItem_5 : or_T := (80, 15, [(0, (2, 0, 0, [6])), (3, (0, 0, 31, [])), (4, (2, 0, 0, [6])), (7, (0, 1, 31, [])), (8, (2, 0, 0, [96])), (12, (2, 0, 0, [95])), (13, (0, 0, 32, []))], [(9, [13, 4], [11]), (20, [4, 3], [30, 0, 1, 1, 11, -1, 0, 0]), (24, [0, 4], []), (100, [8, 7, 6], []), (9, [8, 4], [10]), (20, [4, 3], [30, 0, 1, 1, 11, -1, 0, 0]), (100, [12, 7, 5], []), (9, [12, 4], [9]), (20, [4, 3], [30, 0, 1, 1, 11, -1, 0, 0])], [(13, (0, 0, 31, []))], [], [], [], [])
theorem oo_Pl_insertItem_5 {kA : Nat → ClassId} : or_ok PRD kA GG o_Pl_insertItem_5 := by
  refine or_mk fun A ta ws vs hD hth hl => ?_
  intro t0 r0 t3 k3 t4 r4 t7 k7 t8 r8 t12 r12 t13 k13 f0 f1 f2 ta1 w1 le1 s1 f4 f5 ta2 w2 le2 s2 f7 f8
  replace f0 := shm_116 f0
  replace f1 := shm_117 f1
  replace f2 := shm_5 f2
  have s1 : (∀ b j, w_el ws b j = if b = v_ad (n_v vs 8) ∧ j = (v_iv (n_v vs 7)).toNat then v_iv (n_v vs 6) else w_el w1 b j) ∧ ∀ b k, w_fd ws b k = w_fd w1 b k := s1.2
  have s2 : (∀ b j, w_el w1 b j = if b = v_ad (n_v vs 12) ∧ j = (v_iv (n_v vs 7)).toNat then v_iv (n_v vs 5) else w_el w2 b j) ∧ ∀ b k, w_fd w1 b k = w_fd w2 b k := s2.2
  have q4 : n_v vs 4 = n_v vs 0 := f2.symm
  simp only [q4] at f0 f1
  have g0 : v_iv (n_v vs 13) = w_fi ws (n_v vs 0) 11 := congrArg v_iv f0
  have fe_0_11_1 : w_fi ws (n_v vs 0) 11 = w_fi w1 (n_v vs 0) 11 := congrArg v_iv (s1.2 _ _)
  have fe_0_11_2 : w_fi w1 (n_v vs 0) 11 = w_fi w2 (n_v vs 0) 11 := congrArg v_iv (s2.2 _ _)
  have kz_0_11 := fdq_7 hD hth r0
  have hrf0 : 0 ≤ v_iv (n_v vs 13) ∧ v_iv (n_v vs 13) ≤ 31 := vc_Pl_insertItem_5_r0 (v_iv (n_v vs 3)) (v_iv (n_v vs 13)) (w_fi ws (n_v vs 0) 11) (w_fi w1 (n_v vs 0) 11) (w_fi w2 (n_v vs 0) 11) k3 k13 g0 f1 fe_0_11_1 fe_0_11_2 kz_0_11
  have rf13 : tv_ok ta (0, 0, 31, []) (n_v vs 13) := tv_in t13 (by omega) (by omega)
  refine ⟨List.forall_mem_cons.mpr ⟨rf13, (fun _ h => (by cases h))⟩, [], trivial, ?_, (fun _ h => (by cases h))⟩
  rw [List.append_nil]
  exact (fun _ h => (by cases h))
set_option maxHeartbeats 4000000 in
theorem vc_Pl_insertItem_6_0 (x3 : Int) (x13 : Int) (x15 : Int) (items_1 : Int) (items_2 : Int) (items_3 : Int) (items_0 : Int) (k3 : 0 ≤ x3 ∧ x3 ≤ 31) (k13 : 0 ≤ x13 ∧ x13 ≤ 31) (k15 : 1 ≤ x15 ∧ x15 ≤ 32) (d0 : x13 + 1 ≤ x15 ∧ x15 ≤ x13 + 1) (g3 : x13 = items_1) (f4 : 1 * items_1 + ((-1) * x3 + 0) ≤ 0) (fe_0_11_1 : items_0 = x15) (fe_0_11_2 : items_1 = items_2) (fe_0_11_3 : items_2 = items_3) (kz_0_11 : 0 ≤ items_0 ∧ items_0 ≤ 32) : 1 * items_0 + ((-1) * x3 + 0) ≤ 1 := by
  subst fe_0_11_2
  subst fe_0_11_3
  first | assumption | omega | grind
def o_Pl_insertItem_6 : or_T := (84, 16, [(0, (2, 0, 0, [6])), (3, (0, 0, 31, [])), (13, (0, 0, 31, [])), (15, (0, 1, 32, []))], [(24, [0, 4], []), (101, [4, 15], [11]), (9, [13, 4], [11]), (20, [4, 3], [30, 0, 1, 1, 11, -1, 0, 0]), (100, [8, 7, 6], []), (100, [12, 7, 5], [])], [], [], [(20, [0, 3], [30, 1, 1, 1, 11, -1, 0, 0])], [], [(15, 13, 1, 1)])
theorem oo_Pl_insertItem_6 {kA : Nat → ClassId} : or_ok PRD kA GG o_Pl_insertItem_6 := by
  refine or_mk fun A ta ws vs hD hth hl => ?_
  intro t0 r0 t3 k3 t13 k13 t15 k15 d0 f0 ta1 w1 le1 s1 f3 f4 ta2 w2 le2 s2 ta3 w3 le3 s3
  replace f0 := shm_5 f0
  have s1 : (∀ b j, w_el ws b j = w_el w1 b j) ∧ ∀ b j, w_fd ws b j = if b = v_ad (n_v vs 4) ∧ j = 11 then n_v vs 15 else w_fd w1 b j := s1.2
  replace f3 := shm_116 f3
  replace f4 := shm_117 f4
  have s2 : (∀ b j, w_el w1 b j = if b = v_ad (n_v vs 8) ∧ j = (v_iv (n_v vs 7)).toNat then v_iv (n_v vs 6) else w_el w2 b j) ∧ ∀ b k, w_fd w1 b k = w_fd w2 b k := s2.2
  have s3 : (∀ b j, w_el w2 b j = if b = v_ad (n_v vs 12) ∧ j = (v_iv (n_v vs 7)).toNat then v_iv (n_v vs 5) else w_el w3 b j) ∧ ∀ b k, w_fd w2 b k = w_fd w3 b k := s3.2
  have q4 : n_v vs 4 = n_v vs 0 := f0.symm
  rw [q4] at s1
  simp only [q4] at f3 f4
  have g3 : v_iv (n_v vs 13) = w_fi w1 (n_v vs 0) 11 := congrArg v_iv f3
  have fe_0_11_1 : w_fi ws (n_v vs 0) 11 = v_iv (n_v vs 15) := by show v_iv (w_fd _ _ _) = _; rw [s1.2, if_pos ⟨rfl, rfl⟩]
  have fe_0_11_2 : w_fi w1 (n_v vs 0) 11 = w_fi w2 (n_v vs 0) 11 := congrArg v_iv (s2.2 _ _)
  have fe_0_11_3 : w_fi w2 (n_v vs 0) 11 = w_fi w3 (n_v vs 0) 11 := congrArg v_iv (s3.2 _ _)
  have kz_0_11 := fdq_7 hD hth r0
  have nf0 : fc_1 PRD (20, [0, 3], [30, 1, 1, 1, 11, -1, 0, 0]) ws (vs) := ⟨nf_in hl rfl, sgq_118 (vc_Pl_insertItem_6_0 (v_iv (n_v vs 3)) (v_iv (n_v vs 13)) (v_iv (n_v vs 15)) (w_fi w1 (n_v vs 0) 11) (w_fi w2 (n_v vs 0) 11) (w_fi w3 (n_v vs 0) 11) (w_fi ws (n_v vs 0) 11) k3 k13 k15 d0 g3 f4 fe_0_11_1 fe_0_11_2 fe_0_11_3 kz_0_11)⟩
  refine ⟨(fun _ h => (by cases h)), [], trivial, ?_, (fun _ h => (by cases h))⟩
  rw [List.append_nil]
  exact List.forall_mem_cons.mpr ⟨⟨show (20 : Nat) < 100 from by decide, nf0⟩, (fun _ h => (by cases h))⟩
def n_Pl_insertItem_an : List an_T := [(10, [(0, (2, 0, 0, [6])), (1, (0, 0, 31, [])), (2, (0, 1, 2376, [])), (3, (0, 0, 31, []))], [], (0, 0), [(0, 0, 99990), (2, 7, 0), (0, 0, 100000)], [(1, 2, (Int.negSucc 999999999999), 30), (1, 5, (Int.negSucc 999999999999), 0), (2, 6, (Int.negSucc 999999999999), 0), (3, 2, (Int.negSucc 999999999999), 30), (5, 1, (Int.negSucc 999999999999), 0), (5, 2, (Int.negSucc 999999999999), 30), (6, 2, (Int.negSucc 999999999999), 0), (7, 2, (Int.negSucc 999999999999), 30)], [], [(2, 0, 0, [6]), (0, 0, 31, []), (0, 0, 2376, []), (0, 0, 31, [])], 0, [], [(20, [4, 3], [30, 0, 1, 1, 11, (Int.negSucc 0), 0, 0]), (24, [0, 4], [])])]
def t_Pl_insertItem_ct : ct_L := []
set_option maxRecDepth 100000 in
theorem c_Pl_insertItem {l : Launch} {D : va_G} {kA : Nat → ClassId} : ct_ok PRD l D kA GG y_Pl_insertItem z_Pl_insertItem e_Pl_insertItem := chk_all_ok (FT := [(42, 6, 9), (45, 6, 10), (48, 6, 11)]) (PT := [(48, 6, 11, .int)]) (CT := t_Pl_insertItem_ct) (KT := []) (NT := []) (AN := n_Pl_insertItem_an) (OT := [o_Pl_insertItem_0, o_Pl_insertItem_1, o_Pl_insertItem_2, o_Pl_insertItem_3, o_Pl_insertItem_4, o_Pl_insertItem_5, o_Pl_insertItem_6]) 3 288 (List.forall_mem_cons.mpr ⟨oo_Pl_insertItem_0, List.forall_mem_cons.mpr ⟨oo_Pl_insertItem_1, List.forall_mem_cons.mpr ⟨oo_Pl_insertItem_2, List.forall_mem_cons.mpr ⟨oo_Pl_insertItem_3, List.forall_mem_cons.mpr ⟨oo_Pl_insertItem_4, List.forall_mem_cons.mpr ⟨oo_Pl_insertItem_5, List.forall_mem_cons.mpr ⟨oo_Pl_insertItem_6, List.forall_mem_nil _⟩⟩⟩⟩⟩⟩⟩) (by decide +kernel) ⟨List.forall_mem_cons.mpr ⟨gf_Pl_42, List.forall_mem_cons.mpr ⟨gf_Pl_45, List.forall_mem_cons.mpr ⟨gf_Pl_48, List.forall_mem_nil _⟩⟩⟩, List.forall_mem_cons.mpr ⟨pf_Pl_48, List.forall_mem_nil _⟩, List.forall_mem_nil _, List.forall_mem_nil _, List.forall_mem_nil _, GG_pl⟩ (by decide +kernel)
def n_Pl_root_an : List an_T := [(6, [(0, (1, 1, 28800000000, [])), (2, (1, (Int.negSucc 9223372036854775807), 9223372036854775807, [])), (4, (0, (Int.negSucc 0), 20, []))], [], (0, 0), [(0, 0, 99994), (2, 2, (Int.negSucc 0)), (0, 0, 100000)], [], [], [], 0, [], [])]
def t_Pl_root_ct : ct_L := []
set_option maxRecDepth 100000 in
theorem c_Pl_root {l : Launch} {D : va_G} {kA : Nat → ClassId} : ct_ok PRD l D kA GG y_Pl_root z_Pl_root e_Pl_root := chk_all_ok (FT := []) (PT := []) (CT := t_Pl_root_ct) (KT := []) (NT := []) (AN := n_Pl_root_an) (OT := []) 3 200 (List.forall_mem_nil _) (by decide +kernel) ⟨List.forall_mem_nil _, List.forall_mem_nil _, List.forall_mem_nil _, List.forall_mem_nil _, List.forall_mem_nil _, GG_pl⟩ (by decide +kernel)
def n_Pn_firstLongFace_an : List an_T := [(2, [(0, (2, 0, 0, [7])), (1, (0, 0, 144, []))], [], (0, 0), [(0, 0, 99998), (1, 1, 144), (0, 0, 100000)], [], [], [], 0, [], [])]
def t_Pn_firstLongFace_ct : ct_L := []
set_option maxRecDepth 100000 in
theorem c_Pn_firstLongFace {l : Launch} {D : va_G} {kA : Nat → ClassId} : ct_ok PRD l D kA GG y_Pn_firstLongFace z_Pn_firstLongFace e_Pn_firstLongFace := chk_all_ok (FT := [(12, 7, 0), (122, 5, 13), (125, 5, 14)]) (PT := []) (CT := t_Pn_firstLongFace_ct) (KT := []) (NT := []) (AN := n_Pn_firstLongFace_an) (OT := []) 3 200 (List.forall_mem_nil _) (by decide +kernel) ⟨List.forall_mem_cons.mpr ⟨gf_Pn_12, List.forall_mem_cons.mpr ⟨gf_Pn_122, List.forall_mem_cons.mpr ⟨gf_Pn_125, List.forall_mem_nil _⟩⟩⟩, List.forall_mem_nil _, List.forall_mem_nil _, List.forall_mem_nil _, List.forall_mem_nil _, GG_pl⟩ (by decide +kernel)
def o_St_addArc_at_gx_0 : or_T := (1000000, 0, [], [], [], [], [], [], [])
theorem oo_St_addArc_at_gx_0 {kA : Nat → ClassId} : or_ok PRD kA GG o_St_addArc_at_gx_0 := fun _ _ _ _ _ _ _ _ _ _ => ⟨fun q h => (by cases h), [], trivial, fun f h => (by cases h), fun q h => (by cases h)⟩
def n_St_addArc_at_gx_an : List an_T := []
def t_St_addArc_at_gx_ct : ct_L := []
set_option maxRecDepth 100000 in
theorem c_St_addArc_at_gx {l : Launch} {D : va_G} {kA : Nat → ClassId} : ct_ok PRD l D kA GG y_St_addArc_at_gx z_St_addArc_at_gx e_St_addArc_at_gx := chk_all_ok (FT := [(15, 10, 1), (18, 10, 2), (22, 10, 3), (25, 10, 4), (28, 10, 5)]) (PT := [(15, 10, 1, .int)]) (CT := t_St_addArc_at_gx_ct) (KT := []) (NT := []) (AN := n_St_addArc_at_gx_an) (OT := [o_St_addArc_at_gx_0]) 0 200 (List.forall_mem_cons.mpr ⟨oo_St_addArc_at_gx_0, List.forall_mem_nil _⟩) (by decide +kernel) ⟨List.forall_mem_cons.mpr ⟨gf_St_15, List.forall_mem_cons.mpr ⟨gf_St_18, List.forall_mem_cons.mpr ⟨gf_St_22, List.forall_mem_cons.mpr ⟨gf_St_25, List.forall_mem_cons.mpr ⟨gf_St_28, List.forall_mem_nil _⟩⟩⟩⟩⟩, List.forall_mem_cons.mpr ⟨pf_St_15, List.forall_mem_nil _⟩, List.forall_mem_nil _, List.forall_mem_nil _, List.forall_mem_nil _, GG_pl⟩ (by decide +kernel)
def o_St_raise_at_gr_0 : or_T := (1000000, 0, [], [], [], [], [], [], [])
theorem oo_St_raise_at_gr_0 {kA : Nat → ClassId} : or_ok PRD kA GG o_St_raise_at_gr_0 := fun _ _ _ _ _ _ _ _ _ _ => ⟨fun q h => (by cases h), [], trivial, fun f h => (by cases h), fun q h => (by cases h)⟩
def n_St_raise_at_gr_an : List an_T := [(4, [(0, (2, 0, 0, [10])), (1, (0, 0, 1, [])), (2, (0, 0, 384, []))], [], (0, 0), [(0, 0, 99996), (1, 2, 384), (0, 0, 100000)], [(1, 2, (Int.negSucc 999999999999), 0)], [], [], 0, [], [])]
def t_St_raise_at_gr_ct : ct_L := []
set_option maxRecDepth 100000 in
theorem c_St_raise_at_gr {l : Launch} {D : va_G} {kA : Nat → ClassId} : ct_ok PRD l D kA GG y_St_raise_at_gr z_St_raise_at_gr e_St_raise_at_gr := chk_all_ok (FT := [(15, 10, 1), (18, 10, 2), (22, 10, 3), (25, 10, 4), (28, 10, 5), (31, 10, 6), (34, 10, 7)]) (PT := []) (CT := t_St_raise_at_gr_ct) (KT := []) (NT := []) (AN := n_St_raise_at_gr_an) (OT := [o_St_raise_at_gr_0]) 3 280 (List.forall_mem_cons.mpr ⟨oo_St_raise_at_gr_0, List.forall_mem_nil _⟩) (by decide +kernel) ⟨List.forall_mem_cons.mpr ⟨gf_St_15, List.forall_mem_cons.mpr ⟨gf_St_18, List.forall_mem_cons.mpr ⟨gf_St_22, List.forall_mem_cons.mpr ⟨gf_St_25, List.forall_mem_cons.mpr ⟨gf_St_28, List.forall_mem_cons.mpr ⟨gf_St_31, List.forall_mem_cons.mpr ⟨gf_St_34, List.forall_mem_nil _⟩⟩⟩⟩⟩⟩⟩, List.forall_mem_nil _, List.forall_mem_nil _, List.forall_mem_nil _, List.forall_mem_nil _, GG_pl⟩ (by decide +kernel)
def n_Sy_fail_an : List an_T := []
def t_Sy_fail_ct : ct_L := []
set_option maxRecDepth 100000 in
theorem c_Sy_fail {l : Launch} {D : va_G} {kA : Nat → ClassId} : ct_ok PRD l D kA GG y_Sy_fail z_Sy_fail e_Sy_fail := chk_all_ok (FT := [(34, 11, 7)]) (PT := [(15, 11, 1, .int), (18, 11, 2, .int)]) (CT := t_Sy_fail_ct) (KT := []) (NT := []) (AN := n_Sy_fail_an) (OT := []) 0 200 (List.forall_mem_nil _) (by decide +kernel) ⟨List.forall_mem_cons.mpr ⟨gf_Sy_34, List.forall_mem_nil _⟩, List.forall_mem_cons.mpr ⟨pf_Sy_15, List.forall_mem_cons.mpr ⟨pf_Sy_18, List.forall_mem_nil _⟩⟩, List.forall_mem_nil _, List.forall_mem_nil _, List.forall_mem_nil _, GG_pl⟩ (by decide +kernel)
def n_Sy_isSmall_an : List an_T := []
def t_Sy_isSmall_ct : ct_L := []
set_option maxRecDepth 100000 in
theorem c_Sy_isSmall {l : Launch} {D : va_G} {kA : Nat → ClassId} : ct_ok PRD l D kA GG y_Sy_isSmall z_Sy_isSmall e_Sy_isSmall := chk_all_ok (FT := []) (PT := []) (CT := t_Sy_isSmall_ct) (KT := []) (NT := []) (AN := n_Sy_isSmall_an) (OT := []) 0 200 (List.forall_mem_nil _) (by decide +kernel) ⟨List.forall_mem_nil _, List.forall_mem_nil _, List.forall_mem_nil _, List.forall_mem_nil _, List.forall_mem_nil _, GG_pl⟩ (by decide +kernel)
def n_Sy_pop_an : List an_T := []
def t_Sy_pop_ct : ct_L := []
set_option maxRecDepth 100000 in
theorem c_Sy_pop {l : Launch} {D : va_G} {kA : Nat → ClassId} : ct_ok PRD l D kA GG y_Sy_pop z_Sy_pop e_Sy_pop := chk_all_ok (FT := [(59, 11, 14), (63, 11, 15)]) (PT := [(63, 11, 15, .int)]) (CT := t_Sy_pop_ct) (KT := []) (NT := []) (AN := n_Sy_pop_an) (OT := []) 0 200 (List.forall_mem_nil _) (by decide +kernel) ⟨List.forall_mem_cons.mpr ⟨gf_Sy_59, List.forall_mem_cons.mpr ⟨gf_Sy_63, List.forall_mem_nil _⟩⟩, List.forall_mem_cons.mpr ⟨pf_Sy_63, List.forall_mem_nil _⟩, List.forall_mem_nil _, List.forall_mem_nil _, List.forall_mem_nil _, GG_pl⟩ (by decide +kernel)
def n_Sy_push_an : List an_T := []
def t_Sy_push_ct : ct_L := []
set_option maxRecDepth 100000 in
theorem c_Sy_push {l : Launch} {D : va_G} {kA : Nat → ClassId} : ct_ok PRD l D kA GG y_Sy_push z_Sy_push e_Sy_push := chk_all_ok (FT := [(59, 11, 14), (63, 11, 15)]) (PT := [(63, 11, 15, .int)]) (CT := t_Sy_push_ct) (KT := []) (NT := []) (AN := n_Sy_push_an) (OT := []) 0 200 (List.forall_mem_nil _) (by decide +kernel) ⟨List.forall_mem_cons.mpr ⟨gf_Sy_59, List.forall_mem_cons.mpr ⟨gf_Sy_63, List.forall_mem_nil _⟩⟩, List.forall_mem_cons.mpr ⟨pf_Sy_63, List.forall_mem_nil _⟩, List.forall_mem_nil _, List.forall_mem_nil _, List.forall_mem_nil _, GG_pl⟩ (by decide +kernel)
def n_Mo_changed_an : List an_T := [(9, [(0, (2, 0, 0, [165])), (1, (0, 0, 3, [])), (2, (0, 0, 216, []))], [], (0, 0), [(0, 0, 99991), (1, 2, 216), (0, 0, 100000)], [], [], [], 0, [], [])]
def t_Mo_changed_ct : ct_L := []
set_option maxRecDepth 100000 in
theorem c_Mo_changed {l : Launch} {D : va_G} {kA : Nat → ClassId} : ct_ok PRD l D kA GG y_Mo_changed z_Mo_changed e_Mo_changed := chk_all_ok (FT := [(120, 13, 61), (156, 13, 73)]) (PT := []) (CT := t_Mo_changed_ct) (KT := []) (NT := []) (AN := n_Mo_changed_an) (OT := []) 3 200 (List.forall_mem_nil _) (by decide +kernel) ⟨List.forall_mem_cons.mpr ⟨gf_Mo_120, List.forall_mem_cons.mpr ⟨gf_Mo_156, List.forall_mem_nil _⟩⟩, List.forall_mem_nil _, List.forall_mem_nil _, List.forall_mem_nil _, List.forall_mem_nil _, GG_pl⟩ (by decide +kernel)
def n_Mo_degree_an : List an_T := [(5, [(0, (2, 0, 0, [165])), (1, (5, 0, 66297, [539])), (2, (0, 0, 23, [])), (3, (0, (Int.negSucc 2147483647), 2147483647, [])), (4, (0, 0, 48, []))], [], (0, 0), [(0, 0, 99995), (1, 4, 48), (0, 0, 100000)], [], [], [], 0, [], [])]
def t_Mo_degree_ct : ct_L := []
set_option maxRecDepth 100000 in
theorem c_Mo_degree {l : Launch} {D : va_G} {kA : Nat → ClassId} : ct_ok PRD l D kA GG y_Mo_degree z_Mo_degree e_Mo_degree := chk_all_ok (FT := [(16, 13, 2)]) (PT := []) (CT := t_Mo_degree_ct) (KT := []) (NT := []) (AN := n_Mo_degree_an) (OT := []) 3 208 (List.forall_mem_nil _) (by decide +kernel) ⟨List.forall_mem_cons.mpr ⟨gf_Mo_16, List.forall_mem_nil _⟩, List.forall_mem_nil _, List.forall_mem_nil _, List.forall_mem_nil _, List.forall_mem_nil _, GG_pl⟩ (by decide +kernel)
def n_Mo_edgeWay_an : List an_T := [(3, [(0, (2, 0, 0, [165])), (1, (5, 0, 66297, [539])), (2, (0, (Int.negSucc 0), 23, [])), (3, (0, 0, 23, [])), (4, (0, 0, 48, []))], [], (0, 0), [(0, 0, 99997), (1, 4, 48), (0, 0, 100000)], [], [], [], 0, [], [])]
def t_Mo_edgeWay_ct : ct_L := []
set_option maxRecDepth 100000 in
theorem c_Mo_edgeWay {l : Launch} {D : va_G} {kA : Nat → ClassId} : ct_ok PRD l D kA GG y_Mo_edgeWay z_Mo_edgeWay e_Mo_edgeWay := chk_all_ok (FT := [(16, 13, 2)]) (PT := []) (CT := t_Mo_edgeWay_ct) (KT := []) (NT := []) (AN := n_Mo_edgeWay_an) (OT := []) 3 344 (List.forall_mem_nil _) (by decide +kernel) ⟨List.forall_mem_cons.mpr ⟨gf_Mo_16, List.forall_mem_nil _⟩, List.forall_mem_nil _, List.forall_mem_nil _, List.forall_mem_nil _, List.forall_mem_nil _, GG_pl⟩ (by decide +kernel)
def o_Mo_edges_0 : or_T := (11, 6, [(0, (2, 0, 0, [165])), (1, (2, 0, 0, [167])), (2, (0, 0, 66297, [])), (3, (0, 1, 1, [])), (4, (0, 1, 66298, [])), (5, (0, 0, 48, []))], [(10, [5, 1, 4], []), (1, [4, 2, 3], []), (9, [2, 0], [5]), (9, [1, 0], [2])], [], [], [(20, [5, 0], [30, 0, 1, 0, 0, -1, 3, 2005001]), (20, [5, 0], [30, 0, -1, 0, 0, 1, 3, 2005001])], [], [(4, 2, 1, 1)])
theorem oo_Mo_edges_0 {kA : Nat → ClassId} : or_ok PRD kA GG o_Mo_edges_0 := by
  refine or_mk fun A ta ws vs hD hth hl => ?_
  intro t0 r0 t1 r1 t2 k2 t3 k3 t4 k4 t5 k5 d0 f0 f1 f2 f3
  replace f0 := shm_107 f0
  replace f1 := shm_12 f1
  replace f2 := shm_110 f2
  replace f3 := shm_120 f3
  have cr_0_2 := fdq_10 hD hth r0
  have ad_1 : v_ad (n_v vs 1) = w_ar ws (n_v vs 0) 2 := congrArg v_ad f3
  simp only [ad_1] at f0
  have h0 : v_iv (n_v vs 5) = w_ei ws (w_ar ws (n_v vs 0) 2) (v_iv (n_v vs 4)) := f0
  have g2 : v_iv (n_v vs 2) = w_fi ws (n_v vs 0) 5 := congrArg v_iv f2
  have cg0_F5_1 : v_iv (n_v vs 4) = w_fi ws (n_v vs 0) 5 + 1 → w_el ws (w_ar ws (n_v vs 0) 2) (v_iv (n_v vs 4)).toNat = w_el ws (w_ar ws (n_v vs 0) 2) (w_fi ws (n_v vs 0) 5 + 1).toNat := fun h => by rw [h]
  have nf0 : fc_1 PRD (20, [5, 0], [30, 0, 1, 0, 0, -1, 3, 2005001]) ws (vs) := by
    refine ⟨nf_in hl rfl, sgq_121 ?_⟩
    · show 1 * v_iv (n_v vs 5) + ((-1) * w_el ws (w_ar ws (n_v vs 0) 2) (w_fi ws (n_v vs 0) 5 + 1).toNat + 0) ≤ 0
      omega
  have nf1 : fc_1 PRD (20, [5, 0], [30, 0, -1, 0, 0, 1, 3, 2005001]) ws (vs) := by
    refine ⟨nf_in hl rfl, sgq_122 ?_⟩
    · show (-1) * v_iv (n_v vs 5) + (1 * w_el ws (w_ar ws (n_v vs 0) 2) (w_fi ws (n_v vs 0) 5 + 1).toNat + 0) ≤ 0
      omega
  refine ⟨(fun _ h => (by cases h)), [], trivial, ?_, (fun _ h => (by cases h))⟩
  rw [List.append_nil]
  exact List.forall_mem_cons.mpr ⟨⟨show (20 : Nat) < 100 from by decide, nf0⟩, List.forall_mem_cons.mpr ⟨⟨show (20 : Nat) < 100 from by decide, nf1⟩, (fun _ h => (by cases h))⟩⟩
def n_Mo_edges_an : List an_T := []
def t_Mo_edges_ct : ct_L := []
set_option maxRecDepth 100000 in
theorem c_Mo_edges {l : Launch} {D : va_G} {kA : Nat → ClassId} : ct_ok PRD l D kA GG y_Mo_edges z_Mo_edges e_Mo_edges := chk_all_ok (FT := [(16, 13, 2), (391, 13, 5)]) (PT := []) (CT := t_Mo_edges_ct) (KT := []) (NT := []) (AN := n_Mo_edges_an) (OT := [o_Mo_edges_0]) 0 200 (List.forall_mem_cons.mpr ⟨oo_Mo_edges_0, List.forall_mem_nil _⟩) (by decide +kernel) ⟨List.forall_mem_cons.mpr ⟨gf_Mo_16, List.forall_mem_cons.mpr ⟨gf_Mo_391, List.forall_mem_nil _⟩⟩, List.forall_mem_nil _, List.forall_mem_nil _, List.forall_mem_nil _, List.forall_mem_nil _, GG_pl⟩ (by decide +kernel)
def o_Mo_groups_0 : or_T := (11, 6, [(0, (2, 0, 0, [165])), (1, (2, 0, 0, [167])), (2, (0, 0, 66297, [])), (3, (0, 2, 2, [])), (4, (0, 2, 66299, [])), (5, (0, 0, 8, []))], [(10, [5, 1, 4], []), (1, [4, 2, 3], []), (9, [2, 0], [5]), (9, [1, 0], [2])], [], [], [(20, [5, 0], [30, 0, 1, 0, 0, -1, 3, 2005002]), (20, [5, 0], [30, 0, -1, 0, 0, 1, 3, 2005002])], [], [(4, 2, 2, 2)])
theorem oo_Mo_groups_0 {kA : Nat → ClassId} : or_ok PRD kA GG o_Mo_groups_0 := by
  refine or_mk fun A ta ws vs hD hth hl => ?_
  intro t0 r0 t1 r1 t2 k2 t3 k3 t4 k4 t5 k5 d0 f0 f1 f2 f3
  replace f0 := shm_107 f0
  replace f1 := shm_12 f1
  replace f2 := shm_110 f2
  replace f3 := shm_120 f3
  have cr_0_2 := fdq_10 hD hth r0
  have ad_1 : v_ad (n_v vs 1) = w_ar ws (n_v vs 0) 2 := congrArg v_ad f3
  simp only [ad_1] at f0
  have h0 : v_iv (n_v vs 5) = w_ei ws (w_ar ws (n_v vs 0) 2) (v_iv (n_v vs 4)) := f0
  have g2 : v_iv (n_v vs 2) = w_fi ws (n_v vs 0) 5 := congrArg v_iv f2
  have cg0_F5_2 : v_iv (n_v vs 4) = w_fi ws (n_v vs 0) 5 + 2 → w_el ws (w_ar ws (n_v vs 0) 2) (v_iv (n_v vs 4)).toNat = w_el ws (w_ar ws (n_v vs 0) 2) (w_fi ws (n_v vs 0) 5 + 2).toNat := fun h => by rw [h]
  have nf0 : fc_1 PRD (20, [5, 0], [30, 0, 1, 0, 0, -1, 3, 2005002]) ws (vs) := by
    refine ⟨nf_in hl rfl, sgq_123 ?_⟩
    · show 1 * v_iv (n_v vs 5) + ((-1) * w_el ws (w_ar ws (n_v vs 0) 2) (w_fi ws (n_v vs 0) 5 + 2).toNat + 0) ≤ 0
      omega
  have nf1 : fc_1 PRD (20, [5, 0], [30, 0, -1, 0, 0, 1, 3, 2005002]) ws (vs) := by
    refine ⟨nf_in hl rfl, sgq_124 ?_⟩
    · show (-1) * v_iv (n_v vs 5) + (1 * w_el ws (w_ar ws (n_v vs 0) 2) (w_fi ws (n_v vs 0) 5 + 2).toNat + 0) ≤ 0
      omega
  refine ⟨(fun _ h => (by cases h)), [], trivial, ?_, (fun _ h => (by cases h))⟩
  rw [List.append_nil]
  exact List.forall_mem_cons.mpr ⟨⟨show (20 : Nat) < 100 from by decide, nf0⟩, List.forall_mem_cons.mpr ⟨⟨show (20 : Nat) < 100 from by decide, nf1⟩, (fun _ h => (by cases h))⟩⟩
def n_Mo_groups_an : List an_T := []
def t_Mo_groups_ct : ct_L := []
set_option maxRecDepth 100000 in
theorem c_Mo_groups {l : Launch} {D : va_G} {kA : Nat → ClassId} : ct_ok PRD l D kA GG y_Mo_groups z_Mo_groups e_Mo_groups := chk_all_ok (FT := [(16, 13, 2), (391, 13, 5)]) (PT := []) (CT := t_Mo_groups_ct) (KT := []) (NT := []) (AN := n_Mo_groups_an) (OT := [o_Mo_groups_0]) 0 200 (List.forall_mem_cons.mpr ⟨oo_Mo_groups_0, List.forall_mem_nil _⟩) (by decide +kernel) ⟨List.forall_mem_cons.mpr ⟨gf_Mo_16, List.forall_mem_cons.mpr ⟨gf_Mo_391, List.forall_mem_nil _⟩⟩, List.forall_mem_nil _, List.forall_mem_nil _, List.forall_mem_nil _, List.forall_mem_nil _, GG_pl⟩ (by decide +kernel)
def n_Mo_in_an : List an_T := []
def t_Mo_in_ct : ct_L := []
set_option maxRecDepth 100000 in
theorem c_Mo_in {l : Launch} {D : va_G} {kA : Nat → ClassId} : ct_ok PRD l D kA GG y_Mo_in z_Mo_in e_Mo_in := chk_all_ok (FT := []) (PT := []) (CT := t_Mo_in_ct) (KT := []) (NT := []) (AN := n_Mo_in_an) (OT := []) 0 200 (List.forall_mem_nil _) (by decide +kernel) ⟨List.forall_mem_nil _, List.forall_mem_nil _, List.forall_mem_nil _, List.forall_mem_nil _, List.forall_mem_nil _, GG_pl⟩ (by decide +kernel)
def n_Mo_isBridge_an : List an_T := [(4, [(0, (2, 0, 0, [165])), (1, (0, 0, 47, [])), (2, (0, (Int.negSucc 2147483647), 2147483647, [])), (3, (0, 0, 80, []))], [], (0, 0), [(0, 0, 99996), (1, 3, 80), (0, 0, 100000)], [], [], [], 0, [], [])]
def t_Mo_isBridge_ct : ct_L := []
set_option maxRecDepth 100000 in
theorem c_Mo_isBridge {l : Launch} {D : va_G} {kA : Nat → ClassId} : ct_ok PRD l D kA GG y_Mo_isBridge z_Mo_isBridge e_Mo_isBridge := chk_all_ok (FT := [(32, 13, 17), (597, 13, 32)]) (PT := []) (CT := t_Mo_isBridge_ct) (KT := []) (NT := []) (AN := n_Mo_isBridge_an) (OT := []) 3 200 (List.forall_mem_nil _) (by decide +kernel) ⟨List.forall_mem_cons.mpr ⟨gf_Mo_32, List.forall_mem_cons.mpr ⟨gf_Mo_597, List.forall_mem_nil _⟩⟩, List.forall_mem_nil _, List.forall_mem_nil _, List.forall_mem_nil _, List.forall_mem_nil _, GG_pl⟩ (by decide +kernel)
def o_Mo_max_0 : or_T := (10, 2, [(0, (0, -900000000, 900000000, [])), (1, (0, -900000000, 900000000, []))], [(7, [0, 1], [5])], [], [], [(7, [1, 1], [5])], [], [])
theorem oo_Mo_max_0 {kA : Nat → ClassId} : or_ok PRD kA GG o_Mo_max_0 := by
  refine or_mk fun A ta ws vs hD hth hl => ?_
  intro t0 k0 t1 k1 f0
  replace f0 := shm_24 f0
  have nf0 : fc_1 PRD (7, [1, 1], [5]) ws (vs) := by
    refine ⟨nf_in hl rfl, sgq_125 ?_⟩
    · show v_iv (n_v vs 1) ≤ v_iv (n_v vs 1)
      omega
  refine ⟨(fun _ h => (by cases h)), [], trivial, ?_, (fun _ h => (by cases h))⟩
  rw [List.append_nil]
  exact List.forall_mem_cons.mpr ⟨⟨show (7 : Nat) < 100 from by decide, nf0⟩, (fun _ h => (by cases h))⟩
def o_Mo_max_1 : or_T := (10, 2, [(0, (0, -899999999, 2147483647, [])), (1, (0, -900000000, 900000000, []))], [(7, [0, 1], [4])], [], [], [(7, [0, 0], [5]), (7, [1, 0], [5])], [], [])
theorem oo_Mo_max_1 {kA : Nat → ClassId} : or_ok PRD kA GG o_Mo_max_1 := by
  refine or_mk fun A ta ws vs hD hth hl => ?_
  intro t0 k0 t1 k1 f0
  replace f0 := shm_21 f0
  have nf0 : fc_1 PRD (7, [0, 0], [5]) ws (vs) := by
    refine ⟨nf_in hl rfl, sgq_125 ?_⟩
    · show v_iv (n_v vs 0) ≤ v_iv (n_v vs 0)
      omega
  have nf1 : fc_1 PRD (7, [1, 0], [5]) ws (vs) := by
    refine ⟨nf_in hl rfl, sgq_24 ?_⟩
    · show v_iv (n_v vs 1) ≤ v_iv (n_v vs 0)
      omega
  refine ⟨(fun _ h => (by cases h)), [], trivial, ?_, (fun _ h => (by cases h))⟩
  rw [List.append_nil]
  exact List.forall_mem_cons.mpr ⟨⟨show (7 : Nat) < 100 from by decide, nf0⟩, List.forall_mem_cons.mpr ⟨⟨show (7 : Nat) < 100 from by decide, nf1⟩, (fun _ h => (by cases h))⟩⟩
def n_Mo_max_an : List an_T := []
def t_Mo_max_ct : ct_L := []
set_option maxRecDepth 100000 in
theorem c_Mo_max {l : Launch} {D : va_G} {kA : Nat → ClassId} : ct_ok PRD l D kA GG y_Mo_max z_Mo_max e_Mo_max := chk_all_ok (FT := []) (PT := []) (CT := t_Mo_max_ct) (KT := []) (NT := []) (AN := n_Mo_max_an) (OT := [o_Mo_max_0, o_Mo_max_1]) 0 200 (List.forall_mem_cons.mpr ⟨oo_Mo_max_0, List.forall_mem_cons.mpr ⟨oo_Mo_max_1, List.forall_mem_nil _⟩⟩) (by decide +kernel) ⟨List.forall_mem_nil _, List.forall_mem_nil _, List.forall_mem_nil _, List.forall_mem_nil _, List.forall_mem_nil _, GG_pl⟩ (by decide +kernel)
def o_Mo_min_0 : or_T := (10, 2, [(0, (0, -900000000, 300000000, [])), (1, (0, -900000000, 300000000, []))], [(7, [0, 1], [3])], [], [], [(7, [1, 0], [5]), (7, [1, 1], [5])], [], [])
theorem oo_Mo_min_0 {kA : Nat → ClassId} : or_ok PRD kA GG o_Mo_min_0 := by
  refine or_mk fun A ta ws vs hD hth hl => ?_
  intro t0 k0 t1 k1 f0
  replace f0 := shm_2 f0
  have nf0 : fc_1 PRD (7, [1, 0], [5]) ws (vs) := by
    refine ⟨nf_in hl rfl, sgq_24 ?_⟩
    · show v_iv (n_v vs 1) ≤ v_iv (n_v vs 0)
      omega
  have nf1 : fc_1 PRD (7, [1, 1], [5]) ws (vs) := by
    refine ⟨nf_in hl rfl, sgq_125 ?_⟩
    · show v_iv (n_v vs 1) ≤ v_iv (n_v vs 1)
      omega
  refine ⟨(fun _ h => (by cases h)), [], trivial, ?_, (fun _ h => (by cases h))⟩
  rw [List.append_nil]
  exact List.forall_mem_cons.mpr ⟨⟨show (7 : Nat) < 100 from by decide, nf0⟩, List.forall_mem_cons.mpr ⟨⟨show (7 : Nat) < 100 from by decide, nf1⟩, (fun _ h => (by cases h))⟩⟩
def o_Mo_min_1 : or_T := (10, 2, [(0, (0, -2147483648, 300000000, [])), (1, (0, -900000000, 900000000, []))], [(7, [0, 1], [2])], [], [], [(7, [0, 0], [5]), (7, [0, 1], [5])], [], [])
theorem oo_Mo_min_1 {kA : Nat → ClassId} : or_ok PRD kA GG o_Mo_min_1 := by
  refine or_mk fun A ta ws vs hD hth hl => ?_
  intro t0 k0 t1 k1 f0
  replace f0 := shm_6 f0
  have nf0 : fc_1 PRD (7, [0, 0], [5]) ws (vs) := by
    refine ⟨nf_in hl rfl, sgq_125 ?_⟩
    · show v_iv (n_v vs 0) ≤ v_iv (n_v vs 0)
      omega
  have nf1 : fc_1 PRD (7, [0, 1], [5]) ws (vs) := by
    refine ⟨nf_in hl rfl, sgq_24 ?_⟩
    · show v_iv (n_v vs 0) ≤ v_iv (n_v vs 1)
      omega
  refine ⟨(fun _ h => (by cases h)), [], trivial, ?_, (fun _ h => (by cases h))⟩
  rw [List.append_nil]
  exact List.forall_mem_cons.mpr ⟨⟨show (7 : Nat) < 100 from by decide, nf0⟩, List.forall_mem_cons.mpr ⟨⟨show (7 : Nat) < 100 from by decide, nf1⟩, (fun _ h => (by cases h))⟩⟩
def n_Mo_min_an : List an_T := []
def t_Mo_min_ct : ct_L := []
set_option maxRecDepth 100000 in
theorem c_Mo_min {l : Launch} {D : va_G} {kA : Nat → ClassId} : ct_ok PRD l D kA GG y_Mo_min z_Mo_min e_Mo_min := chk_all_ok (FT := []) (PT := []) (CT := t_Mo_min_ct) (KT := []) (NT := []) (AN := n_Mo_min_an) (OT := [o_Mo_min_0, o_Mo_min_1]) 0 200 (List.forall_mem_cons.mpr ⟨oo_Mo_min_0, List.forall_mem_cons.mpr ⟨oo_Mo_min_1, List.forall_mem_nil _⟩⟩) (by decide +kernel) ⟨List.forall_mem_nil _, List.forall_mem_nil _, List.forall_mem_nil _, List.forall_mem_nil _, List.forall_mem_nil _, GG_pl⟩ (by decide +kernel)
def o_Mo_nodes_0 : or_T := (9, 4, [(0, (2, 0, 0, [165])), (1, (2, 0, 0, [167])), (2, (0, 0, 66297, [])), (3, (0, 0, 24, []))], [(10, [3, 1, 2], []), (9, [2, 0], [5]), (9, [1, 0], [2])], [], [], [(20, [3, 0], [30, 0, 1, 0, 0, -1, 3, 2005000]), (20, [3, 0], [30, 0, -1, 0, 0, 1, 3, 2005000])], [], [])
theorem oo_Mo_nodes_0 {kA : Nat → ClassId} : or_ok PRD kA GG o_Mo_nodes_0 := by
  refine or_mk fun A ta ws vs hD hth hl => ?_
  intro t0 r0 t1 r1 t2 k2 t3 k3 f0 f1 f2
  replace f0 := shm_107 f0
  replace f1 := shm_110 f1
  replace f2 := shm_120 f2
  have cr_0_2 := fdq_10 hD hth r0
  have ad_1 : v_ad (n_v vs 1) = w_ar ws (n_v vs 0) 2 := congrArg v_ad f2
  simp only [ad_1] at f0
  have h0 : v_iv (n_v vs 3) = w_ei ws (w_ar ws (n_v vs 0) 2) (v_iv (n_v vs 2)) := f0
  have g1 : v_iv (n_v vs 2) = w_fi ws (n_v vs 0) 5 := congrArg v_iv f1
  have cg0_F5_0 : v_iv (n_v vs 2) = w_fi ws (n_v vs 0) 5 + 0 → w_el ws (w_ar ws (n_v vs 0) 2) (v_iv (n_v vs 2)).toNat = w_el ws (w_ar ws (n_v vs 0) 2) (w_fi ws (n_v vs 0) 5 + 0).toNat := fun h => by rw [h]
  have nf0 : fc_1 PRD (20, [3, 0], [30, 0, 1, 0, 0, -1, 3, 2005000]) ws (vs) := by
    refine ⟨nf_in hl rfl, sgq_126 ?_⟩
    · show 1 * v_iv (n_v vs 3) + ((-1) * w_el ws (w_ar ws (n_v vs 0) 2) (w_fi ws (n_v vs 0) 5 + 0).toNat + 0) ≤ 0
      omega
  have nf1 : fc_1 PRD (20, [3, 0], [30, 0, -1, 0, 0, 1, 3, 2005000]) ws (vs) := by
    refine ⟨nf_in hl rfl, sgq_127 ?_⟩
    · show (-1) * v_iv (n_v vs 3) + (1 * w_el ws (w_ar ws (n_v vs 0) 2) (w_fi ws (n_v vs 0) 5 + 0).toNat + 0) ≤ 0
      omega
  refine ⟨(fun _ h => (by cases h)), [], trivial, ?_, (fun _ h => (by cases h))⟩
  rw [List.append_nil]
  exact List.forall_mem_cons.mpr ⟨⟨show (20 : Nat) < 100 from by decide, nf0⟩, List.forall_mem_cons.mpr ⟨⟨show (20 : Nat) < 100 from by decide, nf1⟩, (fun _ h => (by cases h))⟩⟩
def n_Mo_nodes_an : List an_T := []
def t_Mo_nodes_ct : ct_L := []
set_option maxRecDepth 100000 in
theorem c_Mo_nodes {l : Launch} {D : va_G} {kA : Nat → ClassId} : ct_ok PRD l D kA GG y_Mo_nodes z_Mo_nodes e_Mo_nodes := chk_all_ok (FT := [(16, 13, 2), (391, 13, 5)]) (PT := []) (CT := t_Mo_nodes_ct) (KT := []) (NT := []) (AN := n_Mo_nodes_an) (OT := [o_Mo_nodes_0]) 0 200 (List.forall_mem_cons.mpr ⟨oo_Mo_nodes_0, List.forall_mem_nil _⟩) (by decide +kernel) ⟨List.forall_mem_cons.mpr ⟨gf_Mo_16, List.forall_mem_cons.mpr ⟨gf_Mo_391, List.forall_mem_nil _⟩⟩, List.forall_mem_nil _, List.forall_mem_nil _, List.forall_mem_nil _, List.forall_mem_nil _, GG_pl⟩ (by decide +kernel)
def n_Mo_one_an : List an_T := []
def t_Mo_one_ct : ct_L := []
set_option maxRecDepth 100000 in
theorem c_Mo_one {l : Launch} {D : va_G} {kA : Nat → ClassId} : ct_ok PRD l D kA GG y_Mo_one z_Mo_one e_Mo_one := chk_all_ok (FT := [(16, 13, 2), (391, 13, 5)]) (PT := []) (CT := t_Mo_one_ct) (KT := []) (NT := []) (AN := n_Mo_one_an) (OT := []) 0 200 (List.forall_mem_nil _) (by decide +kernel) ⟨List.forall_mem_cons.mpr ⟨gf_Mo_16, List.forall_mem_cons.mpr ⟨gf_Mo_391, List.forall_mem_nil _⟩⟩, List.forall_mem_nil _, List.forall_mem_nil _, List.forall_mem_nil _, List.forall_mem_nil _, GG_pl⟩ (by decide +kernel)
def o_Mo_rowOf_0 : or_T := (10, 7, [(0, (0, 0, 3, [])), (1, (0, 0, 30, [])), (2, (0, 539, 539, [])), (3, (0, 31, 31, [])), (4, (0, 0, 93, [])), (5, (0, 0, 123, [])), (6, (0, 0, 66297, []))], [(3, [6, 2, 5], []), (1, [5, 4, 1], []), (3, [4, 3, 0], [])], [], [], [(23, [6, 0, 1], [0, 1, -16709, -539]), (23, [6, 0, 1], [0, -1, 16709, 539])], [], [(5, 1, 0, 93), (5, 4, 0, 30)])
theorem oo_Mo_rowOf_0 {kA : Nat → ClassId} : or_ok PRD kA GG o_Mo_rowOf_0 := by
  refine or_mk fun A ta ws vs hD hth hl => ?_
  intro t0 k0 t1 k1 t2 k2 t3 k3 t4 k4 t5 k5 t6 k6 d0 d1 f0 f1 f2
  replace f0 := shm_38 f0
  rw [show v_iv (n_v vs 2) = 539 from by omega] at f0
  replace f1 := shm_12 f1
  replace f2 := shm_38 f2
  rw [show v_iv (n_v vs 3) = 31 from by omega] at f2
  have nf0 : fc_1 PRD (23, [6, 0, 1], [0, 1, -16709, -539]) ws (vs) := by
    refine ⟨nf_in hl rfl, sgq_128 ?_⟩
    · show 1 * v_iv (n_v vs 6) + ((-16709) * v_iv (n_v vs 0) + ((-539) * v_iv (n_v vs 1) + 0)) ≤ 0
      omega
  have nf1 : fc_1 PRD (23, [6, 0, 1], [0, -1, 16709, 539]) ws (vs) := by
    refine ⟨nf_in hl rfl, sgq_129 ?_⟩
    · show (-1) * v_iv (n_v vs 6) + (16709 * v_iv (n_v vs 0) + (539 * v_iv (n_v vs 1) + 0)) ≤ 0
      omega
  refine ⟨(fun _ h => (by cases h)), [], trivial, ?_, (fun _ h => (by cases h))⟩
  rw [List.append_nil]
  exact List.forall_mem_cons.mpr ⟨⟨show (23 : Nat) < 100 from by decide, nf0⟩, List.forall_mem_cons.mpr ⟨⟨show (23 : Nat) < 100 from by decide, nf1⟩, (fun _ h => (by cases h))⟩⟩
def n_Mo_rowOf_an : List an_T := []
def t_Mo_rowOf_ct : ct_L := []
set_option maxRecDepth 100000 in
theorem c_Mo_rowOf_w {l : Launch} {D : va_G} {kA : Nat → ClassId} : ct_ok PRD l D kA GG y_Mo_rowOf z_Mo_rowOf e_Mo_rowOf := chk_all_ok (FT := []) (PT := []) (CT := t_Mo_rowOf_ct) (KT := []) (NT := []) (AN := n_Mo_rowOf_an) (OT := [o_Mo_rowOf_0]) 0 200 (List.forall_mem_cons.mpr ⟨oo_Mo_rowOf_0, List.forall_mem_nil _⟩) (by decide +kernel) ⟨List.forall_mem_nil _, List.forall_mem_nil _, List.forall_mem_nil _, List.forall_mem_nil _, List.forall_mem_nil _, GG_pl⟩ (by decide +kernel)
def n_Mo_signOf_an : List an_T := []
def t_Mo_signOf_ct : ct_L := []
set_option maxRecDepth 100000 in
theorem c_Mo_signOf {l : Launch} {D : va_G} {kA : Nat → ClassId} : ct_ok PRD l D kA GG y_Mo_signOf z_Mo_signOf e_Mo_signOf := chk_all_ok (FT := []) (PT := []) (CT := t_Mo_signOf_ct) (KT := []) (NT := []) (AN := n_Mo_signOf_an) (OT := []) 0 200 (List.forall_mem_nil _) (by decide +kernel) ⟨List.forall_mem_nil _, List.forall_mem_nil _, List.forall_mem_nil _, List.forall_mem_nil _, List.forall_mem_nil _, GG_pl⟩ (by decide +kernel)
def n_Mo_turnOf_an : List an_T := []
def t_Mo_turnOf_ct : ct_L := []
set_option maxRecDepth 100000 in
theorem c_Mo_turnOf {l : Launch} {D : va_G} {kA : Nat → ClassId} : ct_ok PRD l D kA GG y_Mo_turnOf z_Mo_turnOf e_Mo_turnOf := chk_all_ok (FT := []) (PT := []) (CT := t_Mo_turnOf_ct) (KT := []) (NT := []) (AN := n_Mo_turnOf_an) (OT := []) 0 200 (List.forall_mem_nil _) (by decide +kernel) ⟨List.forall_mem_nil _, List.forall_mem_nil _, List.forall_mem_nil _, List.forall_mem_nil _, List.forall_mem_nil _, GG_pl⟩ (by decide +kernel)
def n_Mo_weight_an : List an_T := []
def t_Mo_weight_ct : ct_L := []
set_option maxRecDepth 100000 in
theorem c_Mo_weight {l : Launch} {D : va_G} {kA : Nat → ClassId} : ct_ok PRD l D kA GG y_Mo_weight z_Mo_weight e_Mo_weight := chk_all_ok (FT := [(16, 13, 2), (391, 13, 5)]) (PT := []) (CT := t_Mo_weight_ct) (KT := []) (NT := []) (AN := n_Mo_weight_an) (OT := []) 0 200 (List.forall_mem_nil _) (by decide +kernel) ⟨List.forall_mem_cons.mpr ⟨gf_Mo_16, List.forall_mem_cons.mpr ⟨gf_Mo_391, List.forall_mem_nil _⟩⟩, List.forall_mem_nil _, List.forall_mem_nil _, List.forall_mem_nil _, List.forall_mem_nil _, GG_pl⟩ (by decide +kernel)
set_option maxHeartbeats 4000000 in
theorem vc_Mo_write1_0_r0 (x2 : Int) (x3 : Int) (x4 : Int) (x5 : Int) (x6 : Int) (texts_0 : Int) (k2 : 0 ≤ x2 ∧ x2 ≤ 99999999) (k3 : 4000 ≤ x3 ∧ x3 ≤ 100000000) (k4 : 4000 ≤ x4 ∧ x4 ≤ 4000) (k5 : 1 ≤ x5 ∧ x5 ≤ 1) (k6 : 4001 ≤ x6 ∧ x6 ≤ 100000001) (d0 : x3 + 1 ≤ x6 ∧ x6 ≤ x3 + 1) (f0 : x6 = x3 + x5) (g1 : x3 = texts_0) (f2 : x4 ≤ x3) (f3 : 1 * texts_0 + ((-1) * x2 + 0) ≤ 0) (kz_0_170 : 0 ≤ texts_0 ∧ texts_0 ≤ 100000000) : 4001 ≤ x6 ∧ x6 ≤ 100000000 := by
  first | assumption | omega | grind
def o_Mo_write1_0 : or_T := (28, 7, [(0, (2, 0, 0, [165])), (2, (0, 0, 99999999, [])), (3, (0, 4000, 100000000, [])), (4, (0, 4000, 4000, [])), (5, (0, 1, 1, [])), (6, (0, 4001, 100000001, []))], [(1, [6, 3, 5], []), (9, [3, 0], [170]), (7, [3, 4], [3]), (20, [0, 2], [30, 0, 1, 1, 170, -1, 0, 0])], [(6, (0, 4001, 100000000, []))], [], [], [], [(6, 3, 1, 1)])
theorem oo_Mo_write1_0 {kA : Nat → ClassId} : or_ok PRD kA GG o_Mo_write1_0 := by
  refine or_mk fun A ta ws vs hD hth hl => ?_
  intro t0 r0 t2 k2 t3 k3 t4 k4 t5 k5 t6 k6 d0 f0 f1 f2 f3
  replace f1 := shm_130 f1
  have g1 : v_iv (n_v vs 3) = w_fi ws (n_v vs 0) 170 := congrArg v_iv f1
  have kz_0_170 := fdq_11 hD hth r0
  have hrf0 : 4001 ≤ v_iv (n_v vs 6) ∧ v_iv (n_v vs 6) ≤ 100000000 := vc_Mo_write1_0_r0 (v_iv (n_v vs 2)) (v_iv (n_v vs 3)) (v_iv (n_v vs 4)) (v_iv (n_v vs 5)) (v_iv (n_v vs 6)) (w_fi ws (n_v vs 0) 170) k2 k3 k4 k5 k6 d0 (shm_12 f0) g1 (shm_2 f2) (shm_131 f3) kz_0_170
  have rf6 : tv_ok ta (0, 4001, 100000000, []) (n_v vs 6) := tv_in t6 (by omega) (by omega)
  refine ⟨List.forall_mem_cons.mpr ⟨rf6, (fun _ h => (by cases h))⟩, [], trivial, ?_, (fun _ h => (by cases h))⟩
  rw [List.append_nil]
  exact (fun _ h => (by cases h))
set_option maxHeartbeats 4000000 in
theorem vc_Mo_write1_1_0 (x2 : Int) (x3 : Int) (x4 : Int) (x5 : Int) (x6 : Int) (texts_1 : Int) (texts_0 : Int) (k2 : 0 ≤ x2 ∧ x2 ≤ 99999999) (k3 : 4000 ≤ x3 ∧ x3 ≤ 100000000) (k4 : 4000 ≤ x4 ∧ x4 ≤ 4000) (k5 : 1 ≤ x5 ∧ x5 ≤ 1) (k6 : 4001 ≤ x6 ∧ x6 ≤ 100000000) (d0 : x3 + 1 ≤ x6 ∧ x6 ≤ x3 + 1) (f1 : x6 = x3 + x5) (g2 : x3 = texts_1) (f3 : x4 ≤ x3) (f4 : 1 * texts_1 + ((-1) * x2 + 0) ≤ 0) (fe_0_170_1 : texts_0 = x6) (kz_0_170 : 0 ≤ texts_0 ∧ texts_0 ≤ 100000000) : 1 * texts_0 + ((-1) * x2 + 0) ≤ 1 := by
  first | assumption | omega | grind
def o_Mo_write1_1 : or_T := (31, 7, [(0, (2, 0, 0, [165])), (2, (0, 0, 99999999, [])), (3, (0, 4000, 100000000, [])), (4, (0, 4000, 4000, [])), (5, (0, 1, 1, [])), (6, (0, 4001, 100000000, []))], [(101, [0, 6], [170]), (1, [6, 3, 5], []), (9, [3, 0], [170]), (7, [3, 4], [3]), (20, [0, 2], [30, 0, 1, 1, 170, -1, 0, 0])], [], [], [(20, [0, 2], [30, 1, 1, 1, 170, -1, 0, 0])], [], [(6, 3, 1, 1)])
theorem oo_Mo_write1_1 {kA : Nat → ClassId} : or_ok PRD kA GG o_Mo_write1_1 := by
  refine or_mk fun A ta ws vs hD hth hl => ?_
  intro t0 r0 t2 k2 t3 k3 t4 k4 t5 k5 t6 k6 d0 ta1 w1 le1 s1 f1 f2 f3 f4
  have s1 : (∀ b j, w_el ws b j = w_el w1 b j) ∧ ∀ b j, w_fd ws b j = if b = v_ad (n_v vs 0) ∧ j = 170 then n_v vs 6 else w_fd w1 b j := s1.2
  replace f2 := shm_130 f2
  have g2 : v_iv (n_v vs 3) = w_fi w1 (n_v vs 0) 170 := congrArg v_iv f2
  have fe_0_170_1 : w_fi ws (n_v vs 0) 170 = v_iv (n_v vs 6) := by show v_iv (w_fd _ _ _) = _; rw [s1.2, if_pos ⟨rfl, rfl⟩]
  have kz_0_170 := fdq_11 hD hth r0
  have nf0 : fc_1 PRD (20, [0, 2], [30, 1, 1, 1, 170, -1, 0, 0]) ws (vs) := ⟨nf_in hl rfl, sgq_132 (vc_Mo_write1_1_0 (v_iv (n_v vs 2)) (v_iv (n_v vs 3)) (v_iv (n_v vs 4)) (v_iv (n_v vs 5)) (v_iv (n_v vs 6)) (w_fi w1 (n_v vs 0) 170) (w_fi ws (n_v vs 0) 170) k2 k3 k4 k5 k6 d0 (shm_12 f1) g2 (shm_2 f3) (shm_131 f4) fe_0_170_1 kz_0_170)⟩
  refine ⟨(fun _ h => (by cases h)), [], trivial, ?_, (fun _ h => (by cases h))⟩
  rw [List.append_nil]
  exact List.forall_mem_cons.mpr ⟨⟨show (20 : Nat) < 100 from by decide, nf0⟩, (fun _ h => (by cases h))⟩
set_option maxHeartbeats 4000000 in
theorem vc_Mo_write1_2_0 (x2 : Int) (x3 : Int) (x4 : Int) (x7 : Int) (x8 : Int) (texts_1 : Int) (texts_2 : Int) (texts_0 : Int) (k2 : 0 ≤ x2 ∧ x2 ≤ 99999999) (k3 : 0 ≤ x3 ∧ x3 ≤ 3999) (k4 : 4000 ≤ x4 ∧ x4 ≤ 4000) (k7 : 1 ≤ x7 ∧ x7 ≤ 1) (k8 : 1 ≤ x8 ∧ x8 ≤ 4000) (d0 : x3 + 1 ≤ x8 ∧ x8 ≤ x3 + 1) (f1 : x8 = x3 + x7) (g2 : x3 = texts_1) (f3 : 1 * texts_1 + ((-1) * x2 + 0) ≤ 0) (f6 : x3 < x4) (f7 : 1 * texts_2 + ((-1) * x2 + 0) ≤ 0) (fe_0_170_1 : texts_0 = x8) (fe_0_170_2 : texts_1 = texts_2) (kz_0_170 : 0 ≤ texts_0 ∧ texts_0 ≤ 100000000) : 1 * texts_0 + ((-1) * x2 + 0) ≤ 1 := by
  subst fe_0_170_2
  first | assumption | omega | grind
def o_Mo_write1_2 : or_T := (31, 9, [(0, (2, 0, 0, [165])), (2, (0, 0, 99999999, [])), (3, (0, 0, 3999, [])), (4, (0, 4000, 4000, [])), (7, (0, 1, 1, [])), (8, (0, 1, 4000, []))], [(101, [0, 8], [170]), (1, [8, 3, 7], []), (9, [3, 0], [170]), (20, [0, 2], [30, 0, 1, 1, 170, -1, 0, 0]), (100, [5, 3, 6], []), (7, [3, 4], [2]), (20, [0, 2], [30, 0, 1, 1, 170, -1, 0, 0])], [], [], [(20, [0, 2], [30, 1, 1, 1, 170, -1, 0, 0])], [], [(8, 3, 1, 1)])
theorem oo_Mo_write1_2 {kA : Nat → ClassId} : or_ok PRD kA GG o_Mo_write1_2 := by
  refine or_mk fun A ta ws vs hD hth hl => ?_
  intro t0 r0 t2 k2 t3 k3 t4 k4 t7 k7 t8 k8 d0 ta1 w1 le1 s1 f1 f2 f3 ta2 w2 le2 s2 f6 f7
  have s1 : (∀ b j, w_el ws b j = w_el w1 b j) ∧ ∀ b j, w_fd ws b j = if b = v_ad (n_v vs 0) ∧ j = 170 then n_v vs 8 else w_fd w1 b j := s1.2
  replace f2 := shm_130 f2
  have s2 : (∀ b j, w_el w1 b j = if b = v_ad (n_v vs 5) ∧ j = (v_iv (n_v vs 3)).toNat then v_iv (n_v vs 6) else w_el w2 b j) ∧ ∀ b k, w_fd w1 b k = w_fd w2 b k := s2.2
  have g2 : v_iv (n_v vs 3) = w_fi w1 (n_v vs 0) 170 := congrArg v_iv f2
  have fe_0_170_1 : w_fi ws (n_v vs 0) 170 = v_iv (n_v vs 8) := by show v_iv (w_fd _ _ _) = _; rw [s1.2, if_pos ⟨rfl, rfl⟩]
  have fe_0_170_2 : w_fi w1 (n_v vs 0) 170 = w_fi w2 (n_v vs 0) 170 := congrArg v_iv (s2.2 _ _)
  have kz_0_170 := fdq_11 hD hth r0
  have nf0 : fc_1 PRD (20, [0, 2], [30, 1, 1, 1, 170, -1, 0, 0]) ws (vs) := ⟨nf_in hl rfl, sgq_132 (vc_Mo_write1_2_0 (v_iv (n_v vs 2)) (v_iv (n_v vs 3)) (v_iv (n_v vs 4)) (v_iv (n_v vs 7)) (v_iv (n_v vs 8)) (w_fi w1 (n_v vs 0) 170) (w_fi w2 (n_v vs 0) 170) (w_fi ws (n_v vs 0) 170) k2 k3 k4 k7 k8 d0 (shm_12 f1) g2 (shm_131 f3) (shm_6 f6) (shm_131 f7) fe_0_170_1 fe_0_170_2 kz_0_170)⟩
  refine ⟨(fun _ h => (by cases h)), [], trivial, ?_, (fun _ h => (by cases h))⟩
  rw [List.append_nil]
  exact List.forall_mem_cons.mpr ⟨⟨show (20 : Nat) < 100 from by decide, nf0⟩, (fun _ h => (by cases h))⟩
def n_Mo_write1_an : List an_T := []
def t_Mo_write1_ct : ct_L := []
set_option maxRecDepth 100000 in
theorem c_Mo_write1 {l : Launch} {D : va_G} {kA : Nat → ClassId} : ct_ok PRD l D kA GG y_Mo_write1 z_Mo_write1 e_Mo_write1 := chk_all_ok (FT := [(366, 13, 172), (1277, 13, 170)]) (PT := [(1277, 13, 170, .int)]) (CT := t_Mo_write1_ct) (KT := []) (NT := []) (AN := n_Mo_write1_an) (OT := [o_Mo_write1_0, o_Mo_write1_1, o_Mo_write1_2]) 0 200 (List.forall_mem_cons.mpr ⟨oo_Mo_write1_0, List.forall_mem_cons.mpr ⟨oo_Mo_write1_1, List.forall_mem_cons.mpr ⟨oo_Mo_write1_2, List.forall_mem_nil _⟩⟩⟩) (by decide +kernel) ⟨List.forall_mem_cons.mpr ⟨gf_Mo_366, List.forall_mem_cons.mpr ⟨gf_Mo_1277, List.forall_mem_nil _⟩⟩, List.forall_mem_cons.mpr ⟨pf_Mo_1277, List.forall_mem_nil _⟩, List.forall_mem_nil _, List.forall_mem_nil _, List.forall_mem_nil _, GG_pl⟩ (by decide +kernel)
set_option maxHeartbeats 4000000 in
theorem vc_Ho_writeName_at_GrgroupName_0_0 (x4 : Int) (x5 : Int) (spareLength_0 : Int) (k4 : 0 ≤ x4 ∧ x4 ≤ 99999992) (k5 : 0 ≤ x5 ∧ x5 ≤ 0) (f0 : 1 * spareLength_0 + ((-1) * x4 + 0) ≤ 0) (kz_0_12 : 0 ≤ spareLength_0 ∧ spareLength_0 ≤ 100000000) : 1 * spareLength_0 + ((-1) * x4 + ((-1) * x5 + 0)) ≤ 0 := by
  first | assumption | omega | grind
def o_Ho_writeName_at_GrgroupName_0 : or_T := (3, 6, [(0, (2, 0, 0, [12])), (4, (0, 0, 99999992, [])), (5, (0, 0, 0, []))], [(20, [0, 4], [30, 0, 1, 1, 12, -1, 0, 0])], [], [], [(20, [0, 4, 5], [30, 0, 1, 1, 12, -1, 0, 0, -1, 0, 0]), (24, [0, 0], [])], [], [])
theorem oo_Ho_writeName_at_GrgroupName_0 {kA : Nat → ClassId} : or_ok PRD kA GG o_Ho_writeName_at_GrgroupName_0 := by
  refine or_mk fun A ta ws vs hD hth hl => ?_
  intro t0 r0 t4 k4 t5 k5 f0
  have kz_0_12 := fdq_0 hD hth r0
  have nf0 : fc_1 PRD (20, [0, 4, 5], [30, 0, 1, 1, 12, -1, 0, 0, -1, 0, 0]) ws (vs) := ⟨nf_in hl rfl, sgq_134 (vc_Ho_writeName_at_GrgroupName_0_0 (v_iv (n_v vs 4)) (v_iv (n_v vs 5)) (w_fi ws (n_v vs 0) 12) k4 k5 (shm_104 f0) kz_0_12)⟩
  have nf1 : fc_1 PRD (24, [0, 0], []) ws (vs) := by
    refine ⟨nf_in hl rfl, sgq_1 ?_⟩
    · show n_v vs 0 = n_v vs 0
      first | rfl | simp only [true_and]
  refine ⟨(fun _ h => (by cases h)), [], trivial, ?_, (fun _ h => (by cases h))⟩
  rw [List.append_nil]
  exact List.forall_mem_cons.mpr ⟨⟨show (20 : Nat) < 100 from by decide, nf0⟩, List.forall_mem_cons.mpr ⟨⟨show (24 : Nat) < 100 from by decide, nf1⟩, (fun _ h => (by cases h))⟩⟩
set_option maxHeartbeats 4000000 in
theorem vc_Ho_writeName_at_GrgroupName_1_0 (x4 : Int) (x9 : Int) (spareLength_0 : Int) (k4 : 0 ≤ x4 ∧ x4 ≤ 99999992) (k9 : 0 ≤ x9 ∧ x9 ≤ 8) (f1 : 1 * spareLength_0 + ((-1) * x4 + ((-1) * x9 + 0)) ≤ 0) (kz_0_12 : 0 ≤ spareLength_0 ∧ spareLength_0 ≤ 100000000) : 1 * spareLength_0 + ((-1) * x4 + 0) ≤ 8 := by
  first | assumption | omega | grind
def o_Ho_writeName_at_GrgroupName_1 : or_T := (28, 10, [(0, (2, 0, 0, [12])), (4, (0, 0, 99999992, [])), (9, (0, 0, 8, []))], [(20, [5, 4, 9], [30, 0, 1, 1, 12, -1, 0, 0, -1, 0, 0]), (24, [0, 5], [])], [], [], [(20, [0, 4], [30, 8, 1, 1, 12, -1, 0, 0])], [], [])
theorem oo_Ho_writeName_at_GrgroupName_1 {kA : Nat → ClassId} : or_ok PRD kA GG o_Ho_writeName_at_GrgroupName_1 := by
  refine or_mk fun A ta ws vs hD hth hl => ?_
  intro t0 r0 t4 k4 t9 k9 f1 f2
  replace f1 := shm_134 f1
  replace f2 := shm_5 f2
  have q5 : n_v vs 5 = n_v vs 0 := f2.symm
  simp only [q5] at f1
  have kz_0_12 := fdq_0 hD hth r0
  have nf0 : fc_1 PRD (20, [0, 4], [30, 8, 1, 1, 12, -1, 0, 0]) ws (vs) := ⟨nf_in hl rfl, sgq_135 (vc_Ho_writeName_at_GrgroupName_1_0 (v_iv (n_v vs 4)) (v_iv (n_v vs 9)) (w_fi ws (n_v vs 0) 12) k4 k9 f1 kz_0_12)⟩
  refine ⟨(fun _ h => (by cases h)), [], trivial, ?_, (fun _ h => (by cases h))⟩
  rw [List.append_nil]
  exact List.forall_mem_cons.mpr ⟨⟨show (20 : Nat) < 100 from by decide, nf0⟩, (fun _ h => (by cases h))⟩
set_option maxHeartbeats 4000000 in
theorem vc_Ho_writeName_at_GrgroupName_2_0 (spareLength_0 : Int) (gx : Int) (kz_0_12 : 0 ≤ spareLength_0 ∧ spareLength_0 ≤ 100000000) (ex2 : gx = spareLength_0) : 1 * spareLength_0 + ((-1) * gx + 0) ≤ 0 := by
  first | assumption | omega | grind
set_option maxHeartbeats 4000000 in
theorem vc_Ho_writeName_at_GrgroupName_2_1 (x4 : Int) (x9 : Int) (spareLength_0 : Int) (gx : Int) (k4 : 0 ≤ x4 ∧ x4 ≤ 99999992) (k9 : 0 ≤ x9 ∧ x9 ≤ 7) (f1 : 1 * spareLength_0 + ((-1) * x4 + ((-1) * x9 + 0)) ≤ 0) (kz_0_12 : 0 ≤ spareLength_0 ∧ spareLength_0 ≤ 100000000) (ex2 : gx = spareLength_0) : 1 * gx + ((-1) * x4 + ((-1) * x9 + 0)) ≤ 0 := by
  first | assumption | omega | grind
def o_Ho_writeName_at_GrgroupName_2 : or_T := (19, 14, [(0, (2, 0, 0, [12])), (4, (0, 0, 99999992, [])), (5, (2, 0, 0, [12])), (8, (0, 1, 8, [])), (9, (0, 0, 7, []))], [(7, [9, 8], [2]), (20, [5, 4, 9], [30, 0, 1, 1, 12, -1, 0, 0, -1, 0, 0]), (24, [0, 5], [])], [], [(0, 0, 99999999, [])], [(20, [5, 14], [30, 0, 1, 1, 12, -1, 0, 0]), (23, [14, 4, 9], [0, 1, -1, -1])], [], [(9, 8, -4294967296, -1), (9, 8, -4294967296, 0)])
theorem oo_Ho_writeName_at_GrgroupName_2 {kA : Nat → ClassId} : or_ok PRD kA GG o_Ho_writeName_at_GrgroupName_2 := by
  refine or_mk fun A ta ws vs hD hth hl => ?_
  intro t0 r0 t4 k4 t5 r5 t8 k8 t9 k9 d0 d1 f0 f1 f2
  replace f0 := shm_6 f0
  replace f1 := shm_134 f1
  replace f2 := shm_5 f2
  have q5 : n_v vs 5 = n_v vs 0 := f2.symm
  simp only [q5] at f1
  have kz_0_12 := fdq_0 hD hth r0
  have kv0 := fdq_0 hD hth r0
  obtain ⟨x, ex, hx⟩ := iv_ex (ta := ta) (lo := 0) (hi := 99999999) (z := w_fi ws (n_v vs 0) 12) (by omega) (by omega) (by omega) (by omega)
  have ex2 : v_iv (Value.int x) = w_fi ws (n_v vs 0) 12 := ex
  have ex3 : 0 ≤ v_iv (Value.int x) ∧ v_iv (Value.int x) ≤ 99999999 := tv_rng hx
  have e_4 : n_v (vs ++ [Value.int x]) 4 = n_v vs 4 := n_v_old (by rw [hl]; decide)
  have e_5 : n_v (vs ++ [Value.int x]) 5 = n_v vs 5 := n_v_old (by rw [hl]; decide)
  have e_9 : n_v (vs ++ [Value.int x]) 9 = n_v vs 9 := n_v_old (by rw [hl]; decide)
  have e_14 : n_v (vs ++ [Value.int x]) 14 = Value.int x := n_v_new hl
  have nf0 : fc_1 PRD (20, [5, 14], [30, 0, 1, 1, 12, -1, 0, 0]) ws (vs ++ [Value.int x]) := by
    refine ⟨nf_inA hl rfl, sgq_104 ?_⟩
    · show 1 * w_fi ws (n_v (vs ++ [Value.int x]) 5) 12 + ((-1) * v_iv (n_v (vs ++ [Value.int x]) 14) + 0) ≤ 0
      simp only [e_5, e_14, q5]
      exact vc_Ho_writeName_at_GrgroupName_2_0 (w_fi ws (n_v vs 0) 12) (v_iv (Value.int x)) kz_0_12 ex2
  have nf1 : fc_1 PRD (23, [14, 4, 9], [0, 1, -1, -1]) ws (vs ++ [Value.int x]) := by
    refine ⟨nf_inA hl rfl, sgq_136 ?_⟩
    · show 1 * v_iv (n_v (vs ++ [Value.int x]) 14) + ((-1) * v_iv (n_v (vs ++ [Value.int x]) 4) + ((-1) * v_iv (n_v (vs ++ [Value.int x]) 9) + 0)) ≤ 0
      simp only [e_4, e_9, e_14]
      exact vc_Ho_writeName_at_GrgroupName_2_1 (v_iv (n_v vs 4)) (v_iv (n_v vs 9)) (w_fi ws (n_v vs 0) 12) (v_iv (Value.int x)) k4 k9 f1 kz_0_12 ex2
  exact ⟨(fun _ h => (by cases h)), [Value.int x], ag_one hx, List.forall_mem_cons.mpr ⟨⟨show (20 : Nat) < 100 from by decide, nf0⟩, List.forall_mem_cons.mpr ⟨⟨show (23 : Nat) < 100 from by decide, nf1⟩, (fun _ h => (by cases h))⟩⟩, (fun _ h => (by cases h))⟩
set_option maxHeartbeats 4000000 in
theorem vc_Ho_writeName_at_GrgroupName_3_0 (x4 : Int) (x9 : Int) (x14 : Int) (x15 : Int) (spareLength_0 : Int) (k4 : 0 ≤ x4 ∧ x4 ≤ 99999992) (k9 : 0 ≤ x9 ∧ x9 ≤ 7) (k14 : 0 ≤ x14 ∧ x14 ≤ 99999999) (k15 : 1 ≤ x15 ∧ x15 ≤ 8) (d0 : x9 + 1 ≤ x15 ∧ x15 ≤ x9 + 1) (f1 : 1 * x14 + ((-1) * x4 + ((-1) * x9 + 0)) ≤ 0) (f3 : 1 * spareLength_0 + ((-1) * x14 + 0) ≤ 1) (kz_0_12 : 0 ≤ spareLength_0 ∧ spareLength_0 ≤ 100000000) : 1 * spareLength_0 + ((-1) * x4 + ((-1) * x15 + 0)) ≤ 0 := by
  first | assumption | omega | grind
def o_Ho_writeName_at_GrgroupName_3 : or_T := (3, 16, [(0, (2, 0, 0, [12])), (4, (0, 0, 99999992, [])), (9, (0, 0, 7, [])), (14, (0, 0, 99999999, [])), (15, (0, 1, 8, []))], [(23, [14, 4, 9], [0, 1, -1, -1]), (24, [0, 5], []), (20, [5, 14], [30, 1, 1, 1, 12, -1, 0, 0])], [], [], [(20, [5, 4, 15], [30, 0, 1, 1, 12, -1, 0, 0, -1, 0, 0])], [], [(15, 9, 1, 1)])
theorem oo_Ho_writeName_at_GrgroupName_3 {kA : Nat → ClassId} : or_ok PRD kA GG o_Ho_writeName_at_GrgroupName_3 := by
  refine or_mk fun A ta ws vs hD hth hl => ?_
  intro t0 r0 t4 k4 t9 k9 t14 k14 t15 k15 d0 f1 f2 f3
  replace f1 := shm_136 f1
  replace f2 := shm_5 f2
  replace f3 := shm_105 f3
  have q5 : n_v vs 5 = n_v vs 0 := f2.symm
  simp only [q5] at f3
  have kz_0_12 := fdq_0 hD hth r0
  have nf0 : fc_1 PRD (20, [5, 4, 15], [30, 0, 1, 1, 12, -1, 0, 0, -1, 0, 0]) ws (vs) := by
    refine ⟨nf_in hl rfl, sgq_134 ?_⟩
    · show 1 * w_fi ws (n_v vs 5) 12 + ((-1) * v_iv (n_v vs 4) + ((-1) * v_iv (n_v vs 15) + 0)) ≤ 0
      rw [q5]
      exact vc_Ho_writeName_at_GrgroupName_3_0 (v_iv (n_v vs 4)) (v_iv (n_v vs 9)) (v_iv (n_v vs 14)) (v_iv (n_v vs 15)) (w_fi ws (n_v vs 0) 12) k4 k9 k14 k15 d0 f1 f3 kz_0_12
  refine ⟨(fun _ h => (by cases h)), [], trivial, ?_, (fun _ h => (by cases h))⟩
  rw [List.append_nil]
  exact List.forall_mem_cons.mpr ⟨⟨show (20 : Nat) < 100 from by decide, nf0⟩, (fun _ h => (by cases h))⟩
def n_Ho_writeName_at_GrgroupName_an : List an_T := [(3, [(0, (2, 0, 0, [12])), (1, (2, 0, 0, [57])), (2, (0, 1, 7, [])), (3, (0, 0, 8, [])), (4, (0, 0, 8, []))], [], (0, 0), [(0, 0, 99997), (1, 9, 8), (0, 0, 100000)], [(2, 7, (Int.negSucc 999999999999), 0), (3, 8, (Int.negSucc 999999999999), 0), (7, 2, (Int.negSucc 999999999999), 0), (8, 3, (Int.negSucc 999999999999), 0), (9, 3, (Int.negSucc 999999999999), 0), (9, 8, (Int.negSucc 999999999999), 0)], [], [(2, 0, 0, [12]), (2, 0, 0, [57]), (0, 1, 7, []), (0, 0, 8, []), (0, 0, 99999992, [])], 0, [], [(20, [5, 4, 9], [30, 0, 1, 1, 12, (Int.negSucc 0), 0, 0, (Int.negSucc 0), 0, 0]), (24, [0, 5], [])])]
def t_Ho_writeName_at_GrgroupName_ct : ct_L := [(1, 447, e_Ho_writeByte)]
set_option maxRecDepth 100000 in
theorem c_Ho_writeName_at_GrgroupName {l : Launch} {D : va_G} {kA : Nat → ClassId} (h_Ho_writeByte : ct_ok PRD l D kA GG y_Ho_writeByte z_Ho_writeByte e_Ho_writeByte) : ct_ok PRD l D kA GG y_Ho_writeName_at_GrgroupName z_Ho_writeName_at_GrgroupName e_Ho_writeName_at_GrgroupName := chk_all_ok (FT := []) (PT := []) (CT := t_Ho_writeName_at_GrgroupName_ct) (KT := []) (NT := []) (AN := n_Ho_writeName_at_GrgroupName_an) (OT := [o_Ho_writeName_at_GrgroupName_0, o_Ho_writeName_at_GrgroupName_1, o_Ho_writeName_at_GrgroupName_2, o_Ho_writeName_at_GrgroupName_3]) 3 200 (List.forall_mem_cons.mpr ⟨oo_Ho_writeName_at_GrgroupName_0, List.forall_mem_cons.mpr ⟨oo_Ho_writeName_at_GrgroupName_1, List.forall_mem_cons.mpr ⟨oo_Ho_writeName_at_GrgroupName_2, List.forall_mem_cons.mpr ⟨oo_Ho_writeName_at_GrgroupName_3, List.forall_mem_nil _⟩⟩⟩⟩) (by decide +kernel) ⟨List.forall_mem_nil _, List.forall_mem_nil _, List.forall_mem_cons.mpr ⟨cl_virtual (y := y_Ho_writeByte) (ci := 12) rfl rfl ⟨_, _, rfl⟩ (by decide +kernel) h_Ho_writeByte wm_2345 wm_1 wm_2342 wm_2344 wv_12_0 ⟨by decide, by decide, by decide +kernel⟩ (by decide), List.forall_mem_nil _⟩, List.forall_mem_nil _, List.forall_mem_nil _, GG_pl⟩ (by decide +kernel)
set_option maxHeartbeats 4000000 in
theorem vc_Ho_writeName_at_Grname_0_0 (x4 : Int) (x5 : Int) (spareLength_0 : Int) (k4 : 0 ≤ x4 ∧ x4 ≤ 99999992) (k5 : 0 ≤ x5 ∧ x5 ≤ 0) (f0 : 1 * spareLength_0 + ((-1) * x4 + 0) ≤ 0) (kz_0_12 : 0 ≤ spareLength_0 ∧ spareLength_0 ≤ 100000000) : 1 * spareLength_0 + ((-1) * x4 + ((-1) * x5 + 0)) ≤ 0 := by
  first | assumption | omega | grind
def o_Ho_writeName_at_Grname_0 : or_T := (3, 6, [(0, (2, 0, 0, [12])), (4, (0, 0, 99999992, [])), (5, (0, 0, 0, []))], [(20, [0, 4], [30, 0, 1, 1, 12, -1, 0, 0])], [], [], [(20, [0, 4, 5], [30, 0, 1, 1, 12, -1, 0, 0, -1, 0, 0]), (24, [0, 0], [])], [], [])
theorem oo_Ho_writeName_at_Grname_0 {kA : Nat → ClassId} : or_ok PRD kA GG o_Ho_writeName_at_Grname_0 := by
  refine or_mk fun A ta ws vs hD hth hl => ?_
  intro t0 r0 t4 k4 t5 k5 f0
  have kz_0_12 := fdq_0 hD hth r0
  have nf0 : fc_1 PRD (20, [0, 4, 5], [30, 0, 1, 1, 12, -1, 0, 0, -1, 0, 0]) ws (vs) := ⟨nf_in hl rfl, sgq_134 (vc_Ho_writeName_at_Grname_0_0 (v_iv (n_v vs 4)) (v_iv (n_v vs 5)) (w_fi ws (n_v vs 0) 12) k4 k5 (shm_104 f0) kz_0_12)⟩
  have nf1 : fc_1 PRD (24, [0, 0], []) ws (vs) := by
    refine ⟨nf_in hl rfl, sgq_1 ?_⟩
    · show n_v vs 0 = n_v vs 0
      first | rfl | simp only [true_and]
  refine ⟨(fun _ h => (by cases h)), [], trivial, ?_, (fun _ h => (by cases h))⟩
  rw [List.append_nil]
  exact List.forall_mem_cons.mpr ⟨⟨show (20 : Nat) < 100 from by decide, nf0⟩, List.forall_mem_cons.mpr ⟨⟨show (24 : Nat) < 100 from by decide, nf1⟩, (fun _ h => (by cases h))⟩⟩
set_option maxHeartbeats 4000000 in
theorem vc_Ho_writeName_at_Grname_1_0 (x4 : Int) (x9 : Int) (spareLength_0 : Int) (k4 : 0 ≤ x4 ∧ x4 ≤ 99999992) (k9 : 0 ≤ x9 ∧ x9 ≤ 8) (f1 : 1 * spareLength_0 + ((-1) * x4 + ((-1) * x9 + 0)) ≤ 0) (kz_0_12 : 0 ≤ spareLength_0 ∧ spareLength_0 ≤ 100000000) : 1 * spareLength_0 + ((-1) * x4 + 0) ≤ 8 := by
  first | assumption | omega | grind
def o_Ho_writeName_at_Grname_1 : or_T := (28, 10, [(0, (2, 0, 0, [12])), (4, (0, 0, 99999992, [])), (9, (0, 0, 8, []))], [(20, [5, 4, 9], [30, 0, 1, 1, 12, -1, 0, 0, -1, 0, 0]), (24, [0, 5], [])], [], [], [(20, [0, 4], [30, 8, 1, 1, 12, -1, 0, 0])], [], [])
theorem oo_Ho_writeName_at_Grname_1 {kA : Nat → ClassId} : or_ok PRD kA GG o_Ho_writeName_at_Grname_1 := by
  refine or_mk fun A ta ws vs hD hth hl => ?_
  intro t0 r0 t4 k4 t9 k9 f1 f2
  replace f1 := shm_134 f1
  replace f2 := shm_5 f2
  have q5 : n_v vs 5 = n_v vs 0 := f2.symm
  simp only [q5] at f1
  have kz_0_12 := fdq_0 hD hth r0
  have nf0 : fc_1 PRD (20, [0, 4], [30, 8, 1, 1, 12, -1, 0, 0]) ws (vs) := ⟨nf_in hl rfl, sgq_135 (vc_Ho_writeName_at_Grname_1_0 (v_iv (n_v vs 4)) (v_iv (n_v vs 9)) (w_fi ws (n_v vs 0) 12) k4 k9 f1 kz_0_12)⟩
  refine ⟨(fun _ h => (by cases h)), [], trivial, ?_, (fun _ h => (by cases h))⟩
  rw [List.append_nil]
  exact List.forall_mem_cons.mpr ⟨⟨show (20 : Nat) < 100 from by decide, nf0⟩, (fun _ h => (by cases h))⟩
set_option maxHeartbeats 4000000 in
theorem vc_Ho_writeName_at_Grname_2_0 (spareLength_0 : Int) (gx : Int) (kz_0_12 : 0 ≤ spareLength_0 ∧ spareLength_0 ≤ 100000000) (ex2 : gx = spareLength_0) : 1 * spareLength_0 + ((-1) * gx + 0) ≤ 0 := by
  first | assumption | omega | grind
set_option maxHeartbeats 4000000 in
theorem vc_Ho_writeName_at_Grname_2_1 (x4 : Int) (x9 : Int) (spareLength_0 : Int) (gx : Int) (k4 : 0 ≤ x4 ∧ x4 ≤ 99999992) (k9 : 0 ≤ x9 ∧ x9 ≤ 7) (f1 : 1 * spareLength_0 + ((-1) * x4 + ((-1) * x9 + 0)) ≤ 0) (kz_0_12 : 0 ≤ spareLength_0 ∧ spareLength_0 ≤ 100000000) (ex2 : gx = spareLength_0) : 1 * gx + ((-1) * x4 + ((-1) * x9 + 0)) ≤ 0 := by
  first | assumption | omega | grind
def o_Ho_writeName_at_Grname_2 : or_T := (19, 14, [(0, (2, 0, 0, [12])), (4, (0, 0, 99999992, [])), (5, (2, 0, 0, [12])), (8, (0, 1, 8, [])), (9, (0, 0, 7, []))], [(7, [9, 8], [2]), (20, [5, 4, 9], [30, 0, 1, 1, 12, -1, 0, 0, -1, 0, 0]), (24, [0, 5], [])], [], [(0, 0, 99999999, [])], [(20, [5, 14], [30, 0, 1, 1, 12, -1, 0, 0]), (23, [14, 4, 9], [0, 1, -1, -1])], [], [(9, 8, -4294967296, -1), (9, 8, -4294967296, 0)])
theorem oo_Ho_writeName_at_Grname_2 {kA : Nat → ClassId} : or_ok PRD kA GG o_Ho_writeName_at_Grname_2 := by
  refine or_mk fun A ta ws vs hD hth hl => ?_
  intro t0 r0 t4 k4 t5 r5 t8 k8 t9 k9 d0 d1 f0 f1 f2
  replace f0 := shm_6 f0
  replace f1 := shm_134 f1
  replace f2 := shm_5 f2
  have q5 : n_v vs 5 = n_v vs 0 := f2.symm
  simp only [q5] at f1
  have kz_0_12 := fdq_0 hD hth r0
  have kv0 := fdq_0 hD hth r0
  obtain ⟨x, ex, hx⟩ := iv_ex (ta := ta) (lo := 0) (hi := 99999999) (z := w_fi ws (n_v vs 0) 12) (by omega) (by omega) (by omega) (by omega)
  have ex2 : v_iv (Value.int x) = w_fi ws (n_v vs 0) 12 := ex
  have ex3 : 0 ≤ v_iv (Value.int x) ∧ v_iv (Value.int x) ≤ 99999999 := tv_rng hx
  have e_4 : n_v (vs ++ [Value.int x]) 4 = n_v vs 4 := n_v_old (by rw [hl]; decide)
  have e_5 : n_v (vs ++ [Value.int x]) 5 = n_v vs 5 := n_v_old (by rw [hl]; decide)
  have e_9 : n_v (vs ++ [Value.int x]) 9 = n_v vs 9 := n_v_old (by rw [hl]; decide)
  have e_14 : n_v (vs ++ [Value.int x]) 14 = Value.int x := n_v_new hl
  have nf0 : fc_1 PRD (20, [5, 14], [30, 0, 1, 1, 12, -1, 0, 0]) ws (vs ++ [Value.int x]) := by
    refine ⟨nf_inA hl rfl, sgq_104 ?_⟩
    · show 1 * w_fi ws (n_v (vs ++ [Value.int x]) 5) 12 + ((-1) * v_iv (n_v (vs ++ [Value.int x]) 14) + 0) ≤ 0
      simp only [e_5, e_14, q5]
      exact vc_Ho_writeName_at_Grname_2_0 (w_fi ws (n_v vs 0) 12) (v_iv (Value.int x)) kz_0_12 ex2
  have nf1 : fc_1 PRD (23, [14, 4, 9], [0, 1, -1, -1]) ws (vs ++ [Value.int x]) := by
    refine ⟨nf_inA hl rfl, sgq_136 ?_⟩
    · show 1 * v_iv (n_v (vs ++ [Value.int x]) 14) + ((-1) * v_iv (n_v (vs ++ [Value.int x]) 4) + ((-1) * v_iv (n_v (vs ++ [Value.int x]) 9) + 0)) ≤ 0
      simp only [e_4, e_9, e_14]
      exact vc_Ho_writeName_at_Grname_2_1 (v_iv (n_v vs 4)) (v_iv (n_v vs 9)) (w_fi ws (n_v vs 0) 12) (v_iv (Value.int x)) k4 k9 f1 kz_0_12 ex2
  exact ⟨(fun _ h => (by cases h)), [Value.int x], ag_one hx, List.forall_mem_cons.mpr ⟨⟨show (20 : Nat) < 100 from by decide, nf0⟩, List.forall_mem_cons.mpr ⟨⟨show (23 : Nat) < 100 from by decide, nf1⟩, (fun _ h => (by cases h))⟩⟩, (fun _ h => (by cases h))⟩
set_option maxHeartbeats 4000000 in
theorem vc_Ho_writeName_at_Grname_3_0 (x4 : Int) (x9 : Int) (x14 : Int) (x15 : Int) (spareLength_0 : Int) (k4 : 0 ≤ x4 ∧ x4 ≤ 99999992) (k9 : 0 ≤ x9 ∧ x9 ≤ 7) (k14 : 0 ≤ x14 ∧ x14 ≤ 99999999) (k15 : 1 ≤ x15 ∧ x15 ≤ 8) (d0 : x9 + 1 ≤ x15 ∧ x15 ≤ x9 + 1) (f1 : 1 * x14 + ((-1) * x4 + ((-1) * x9 + 0)) ≤ 0) (f3 : 1 * spareLength_0 + ((-1) * x14 + 0) ≤ 1) (kz_0_12 : 0 ≤ spareLength_0 ∧ spareLength_0 ≤ 100000000) : 1 * spareLength_0 + ((-1) * x4 + ((-1) * x15 + 0)) ≤ 0 := by
  first | assumption | omega | grind
def o_Ho_writeName_at_Grname_3 : or_T := (3, 16, [(0, (2, 0, 0, [12])), (4, (0, 0, 99999992, [])), (9, (0, 0, 7, [])), (14, (0, 0, 99999999, [])), (15, (0, 1, 8, []))], [(23, [14, 4, 9], [0, 1, -1, -1]), (24, [0, 5], []), (20, [5, 14], [30, 1, 1, 1, 12, -1, 0, 0])], [], [], [(20, [5, 4, 15], [30, 0, 1, 1, 12, -1, 0, 0, -1, 0, 0])], [], [(15, 9, 1, 1)])
theorem oo_Ho_writeName_at_Grname_3 {kA : Nat → ClassId} : or_ok PRD kA GG o_Ho_writeName_at_Grname_3 := by
  refine or_mk fun A ta ws vs hD hth hl => ?_
  intro t0 r0 t4 k4 t9 k9 t14 k14 t15 k15 d0 f1 f2 f3
  replace f1 := shm_136 f1
  replace f2 := shm_5 f2
  replace f3 := shm_105 f3
  have q5 : n_v vs 5 = n_v vs 0 := f2.symm
  simp only [q5] at f3
  have kz_0_12 := fdq_0 hD hth r0
  have nf0 : fc_1 PRD (20, [5, 4, 15], [30, 0, 1, 1, 12, -1, 0, 0, -1, 0, 0]) ws (vs) := by
    refine ⟨nf_in hl rfl, sgq_134 ?_⟩
    · show 1 * w_fi ws (n_v vs 5) 12 + ((-1) * v_iv (n_v vs 4) + ((-1) * v_iv (n_v vs 15) + 0)) ≤ 0
      rw [q5]
      exact vc_Ho_writeName_at_Grname_3_0 (v_iv (n_v vs 4)) (v_iv (n_v vs 9)) (v_iv (n_v vs 14)) (v_iv (n_v vs 15)) (w_fi ws (n_v vs 0) 12) k4 k9 k14 k15 d0 f1 f3 kz_0_12
  refine ⟨(fun _ h => (by cases h)), [], trivial, ?_, (fun _ h => (by cases h))⟩
  rw [List.append_nil]
  exact List.forall_mem_cons.mpr ⟨⟨show (20 : Nat) < 100 from by decide, nf0⟩, (fun _ h => (by cases h))⟩
def n_Ho_writeName_at_Grname_an : List an_T := [(3, [(0, (2, 0, 0, [12])), (1, (2, 0, 0, [48])), (2, (0, 0, 23, [])), (3, (0, 0, 8, [])), (4, (0, 0, 8, []))], [], (0, 0), [(0, 0, 99997), (1, 9, 8), (0, 0, 100000)], [(2, 7, (Int.negSucc 999999999999), 0), (3, 8, (Int.negSucc 999999999999), 0), (7, 2, (Int.negSucc 999999999999), 0), (8, 3, (Int.negSucc 999999999999), 0), (9, 3, (Int.negSucc 999999999999), 0), (9, 8, (Int.negSucc 999999999999), 0)], [], [(2, 0, 0, [12]), (2, 0, 0, [48]), (0, 0, 23, []), (0, 0, 8, []), (0, 0, 99999992, [])], 0, [], [(20, [5, 4, 9], [30, 0, 1, 1, 12, (Int.negSucc 0), 0, 0, (Int.negSucc 0), 0, 0]), (24, [0, 5], [])])]
def t_Ho_writeName_at_Grname_ct : ct_L := [(1, 447, e_Ho_writeByte)]
set_option maxRecDepth 100000 in
theorem c_Ho_writeName_at_Grname {l : Launch} {D : va_G} {kA : Nat → ClassId} (h_Ho_writeByte : ct_ok PRD l D kA GG y_Ho_writeByte z_Ho_writeByte e_Ho_writeByte) : ct_ok PRD l D kA GG y_Ho_writeName_at_Grname z_Ho_writeName_at_Grname e_Ho_writeName_at_Grname := chk_all_ok (FT := []) (PT := []) (CT := t_Ho_writeName_at_Grname_ct) (KT := []) (NT := []) (AN := n_Ho_writeName_at_Grname_an) (OT := [o_Ho_writeName_at_Grname_0, o_Ho_writeName_at_Grname_1, o_Ho_writeName_at_Grname_2, o_Ho_writeName_at_Grname_3]) 3 200 (List.forall_mem_cons.mpr ⟨oo_Ho_writeName_at_Grname_0, List.forall_mem_cons.mpr ⟨oo_Ho_writeName_at_Grname_1, List.forall_mem_cons.mpr ⟨oo_Ho_writeName_at_Grname_2, List.forall_mem_cons.mpr ⟨oo_Ho_writeName_at_Grname_3, List.forall_mem_nil _⟩⟩⟩⟩) (by decide +kernel) ⟨List.forall_mem_nil _, List.forall_mem_nil _, List.forall_mem_cons.mpr ⟨cl_virtual (y := y_Ho_writeByte) (ci := 12) rfl rfl ⟨_, _, rfl⟩ (by decide +kernel) h_Ho_writeByte wm_2345 wm_1 wm_2342 wm_2344 wv_12_0 ⟨by decide, by decide, by decide +kernel⟩ (by decide), List.forall_mem_nil _⟩, List.forall_mem_nil _, List.forall_mem_nil _, GG_pl⟩ (by decide +kernel)
def n_Dr_countUpward_an : List an_T := [(4, [(0, (2, 0, 0, [0])), (1, (1, (Int.negSucc 9223372036854775807), 9223372036854775807, [])), (3, (0, 0, 48, []))], [], (0, 0), [(0, 0, 99996), (1, 2, 48), (0, 0, 100000), (0, 0, 0), (0, 0, 0)], [], [], [], 0, [], []), (21, [(0, (2, 0, 0, [0])), (1, (1, (Int.negSucc 9223372036854775807), 9223372036854775807, [])), (3, (0, 0, 47, [])), (4, (0, 0, 1, [])), (5, (0, 0, 25, []))], [], (0, 0), [(0, 0, 99996), (1, 2, 48), (0, 0, 99979), (1, 4, 25), (0, 0, 100000)], [], [], [], 0, [], [])]
def t_Dr_countUpward_ct : ct_L := [(1, 134, e_Dr_pointY)]
set_option maxRecDepth 100000 in
theorem c_Dr_countUpward {l : Launch} {D : va_G} {kA : Nat → ClassId} (h_Dr_pointY : ct_ok PRD l D kA GG y_Dr_pointY z_Dr_pointY e_Dr_pointY) : ct_ok PRD l D kA GG y_Dr_countUpward z_Dr_countUpward e_Dr_countUpward := chk_all_ok (FT := [(22, 0, 4), (74, 0, 0), (151, 3, 1)]) (PT := []) (CT := t_Dr_countUpward_ct) (KT := []) (NT := []) (AN := n_Dr_countUpward_an) (OT := []) 5 460 (List.forall_mem_nil _) (by decide +kernel) ⟨List.forall_mem_cons.mpr ⟨gf_Dr_22, List.forall_mem_cons.mpr ⟨gf_Dr_74, List.forall_mem_cons.mpr ⟨gf_Dr_151, List.forall_mem_nil _⟩⟩⟩, List.forall_mem_nil _, List.forall_mem_cons.mpr ⟨cl_virtual (y := y_Dr_pointY) (ci := 0) rfl rfl ⟨_, _, rfl⟩ (by decide +kernel) h_Dr_pointY wm_1991 wm_8 wm_1988 wm_1989 wm_1990 ⟨by decide, by decide, by decide +kernel⟩ (by decide), List.forall_mem_nil _⟩, List.forall_mem_nil _, List.forall_mem_nil _, GG_pl⟩ (by decide +kernel)
def n_Dr_wipe_an : List an_T := []
def t_Dr_wipe_ct : ct_L := [(33, 78, e_jArr_fill1_v2)]
set_option maxRecDepth 100000 in
theorem c_Dr_wipe {l : Launch} {D : va_G} {kA : Nat → ClassId} : ct_ok PRD l D kA GG y_Dr_wipe z_Dr_wipe e_Dr_wipe := chk_all_ok (FT := [(53, 0, 14)]) (PT := [(9, 0, 1, .int)]) (CT := t_Dr_wipe_ct) (KT := []) (NT := []) (AN := n_Dr_wipe_an) (OT := []) 0 200 (List.forall_mem_nil _) (by decide +kernel) ⟨List.forall_mem_cons.mpr ⟨gf_Dr_53, List.forall_mem_nil _⟩, List.forall_mem_cons.mpr ⟨pf_Dr_9, List.forall_mem_nil _⟩, List.forall_mem_cons.mpr ⟨cl_static (y := y_jArr_fill1) c_jArr_fill1_v2 wm_55 wm_4 wm_798 wm_54 ⟨by decide, by decide, by decide +kernel⟩ (by decide), List.forall_mem_nil _⟩, List.forall_mem_nil _, List.forall_mem_nil _, GG_pl⟩ (by decide +kernel)
def n_Em_drawWay_at_gn_an : List an_T := [(2, [(0, (2, 0, 0, [1])), (1, (0, 0, 26, []))], [], (0, 0), [(0, 0, 99998), (1, 1, 26), (0, 0, 100000)], [], [((0, 0), (2, 0, 0, [5]))], [], 0, [], [])]
def t_Em_drawWay_at_gn_ct : ct_L := [(1, 176, e_Ne_edgeBetween)]
set_option maxRecDepth 100000 in
theorem c_Em_drawWay_at_gn {l : Launch} {D : va_G} {kA : Nat → ClassId} (h_Ne_edgeBetween : ct_ok PRD l D kA GG y_Ne_edgeBetween z_Ne_edgeBetween e_Ne_edgeBetween) : ct_ok PRD l D kA GG y_Em_drawWay_at_gn z_Em_drawWay_at_gn e_Em_drawWay_at_gn := chk_all_ok (FT := [(9, 1, 0), (25, 1, 3), (60, 1, 14), (63, 1, 15)]) (PT := []) (CT := t_Em_drawWay_at_gn_ct) (KT := []) (NT := []) (AN := n_Em_drawWay_at_gn_an) (OT := []) 3 200 (List.forall_mem_nil _) (by decide +kernel) ⟨List.forall_mem_cons.mpr ⟨gf_Em_9, List.forall_mem_cons.mpr ⟨gf_Em_25, List.forall_mem_cons.mpr ⟨gf_Em_60, List.forall_mem_cons.mpr ⟨gf_Em_63, List.forall_mem_nil _⟩⟩⟩⟩, List.forall_mem_nil _, List.forall_mem_cons.mpr ⟨cl_virtual (y := y_Ne_edgeBetween) (ci := 5) rfl rfl ⟨_, _, rfl⟩ (by decide +kernel) h_Ne_edgeBetween wm_1089 wm_6 wm_1086 wm_1087 wm_1088 ⟨by decide, by decide, by decide +kernel⟩ (by decide), List.forall_mem_nil _⟩, List.forall_mem_nil _, List.forall_mem_nil _, GG_pl⟩ (by decide +kernel)
def n_Em_drawWay_at_gp_an : List an_T := [(2, [(0, (2, 0, 0, [1])), (1, (0, 0, 26, []))], [], (0, 0), [(0, 0, 99998), (1, 1, 26), (0, 0, 100000)], [], [((0, 0), (2, 0, 0, [149]))], [], 0, [], [])]
def t_Em_drawWay_at_gp_ct : ct_L := [(1, 176, e_Ne_edgeBetween)]
set_option maxRecDepth 100000 in
theorem c_Em_drawWay_at_gp {l : Launch} {D : va_G} {kA : Nat → ClassId} (h_Ne_edgeBetween : ct_ok PRD l D kA GG y_Ne_edgeBetween z_Ne_edgeBetween e_Ne_edgeBetween) : ct_ok PRD l D kA GG y_Em_drawWay_at_gp z_Em_drawWay_at_gp e_Em_drawWay_at_gp := chk_all_ok (FT := [(9, 1, 0), (25, 1, 3), (60, 1, 14), (63, 1, 15)]) (PT := []) (CT := t_Em_drawWay_at_gp_ct) (KT := []) (NT := []) (AN := n_Em_drawWay_at_gp_an) (OT := []) 3 200 (List.forall_mem_nil _) (by decide +kernel) ⟨List.forall_mem_cons.mpr ⟨gf_Em_9, List.forall_mem_cons.mpr ⟨gf_Em_25, List.forall_mem_cons.mpr ⟨gf_Em_60, List.forall_mem_cons.mpr ⟨gf_Em_63, List.forall_mem_nil _⟩⟩⟩⟩, List.forall_mem_nil _, List.forall_mem_cons.mpr ⟨cl_virtual (y := y_Ne_edgeBetween) (ci := 5) rfl rfl ⟨_, _, rfl⟩ (by decide +kernel) h_Ne_edgeBetween wm_1089 wm_6 wm_1086 wm_1087 wm_1088 ⟨by decide, by decide, by decide +kernel⟩ (by decide), List.forall_mem_nil _⟩, List.forall_mem_nil _, List.forall_mem_nil _, GG_pl⟩ (by decide +kernel)
def n_Fa_learnBlocksAt_an : List an_T := [(5, [(0, (2, 0, 0, [2])), (1, (2, 0, 0, [3])), (2, (0, 0, 48, []))], [], (0, 0), [(0, 0, 99995), (1, 2, 48), (0, 0, 100000), (0, 0, 0), (0, 0, 0)], [], [], [], 0, [], []), (26, [(0, (2, 0, 0, [2])), (1, (2, 0, 0, [3])), (2, (0, 0, 24, []))], [], (0, 0), [(0, 0, 99974), (1, 2, 24), (0, 0, 100000), (0, 0, 0), (0, 0, 0)], [], [], [], 0, [], []), (39, [(0, (2, 0, 0, [2])), (1, (2, 0, 0, [3])), (2, (0, 0, 23, [])), (3, (1, (Int.negSucc 9223372036854775807), 9223372036854775807, [])), (5, (0, 0, 48, []))], [], (0, 0), [(0, 0, 99974), (1, 2, 24), (0, 0, 99961), (1, 4, 48), (0, 0, 100000)], [], [], [], 0, [], [])]
def t_Fa_learnBlocksAt_ct : ct_L := [(285, 134, e_jLong_bitCount_v3), (285, 134, e_jLong_bitCount_v4)]
set_option maxRecDepth 100000 in
theorem c_Fa_learnBlocksAt {l : Launch} {D : va_G} {kA : Nat → ClassId} : ct_ok PRD l D kA GG y_Fa_learnBlocksAt z_Fa_learnBlocksAt e_Fa_learnBlocksAt := chk_all_ok (FT := [(29, 2, 5), (38, 2, 8), (64, 3, 0), (69, 3, 1), (72, 3, 7), (75, 3, 8)]) (PT := []) (CT := t_Fa_learnBlocksAt_ct) (KT := []) (NT := []) (AN := n_Fa_learnBlocksAt_an) (OT := []) 5 288 (List.forall_mem_nil _) (by decide +kernel) ⟨List.forall_mem_cons.mpr ⟨gf_Fa_29, List.forall_mem_cons.mpr ⟨gf_Fa_38, List.forall_mem_cons.mpr ⟨gf_Fa_64, List.forall_mem_cons.mpr ⟨gf_Fa_69, List.forall_mem_cons.mpr ⟨gf_Fa_72, List.forall_mem_cons.mpr ⟨gf_Fa_75, List.forall_mem_nil _⟩⟩⟩⟩⟩⟩, List.forall_mem_nil _, List.forall_mem_cons.mpr ⟨cl_static (y := y_jLong_bitCount) c_jLong_bitCount_v3 wm_847 wm_16 wm_845 wm_846 ⟨by decide, by decide, by decide +kernel⟩ (by decide), List.forall_mem_cons.mpr ⟨cl_static (y := y_jLong_bitCount) c_jLong_bitCount_v4 wm_847 wm_16 wm_845 wm_846 ⟨by decide, by decide, by decide +kernel⟩ (by decide), List.forall_mem_nil _⟩⟩, List.forall_mem_nil _, List.forall_mem_nil _, GG_pl⟩ (by decide +kernel)
def o_Fa_numberStrong_at_Fastrong_0 : or_T := (1000000, 0, [], [], [], [], [], [], [])
theorem oo_Fa_numberStrong_at_Fastrong_0 {kA : Nat → ClassId} : or_ok PRD kA GG o_Fa_numberStrong_at_Fastrong_0 := fun _ _ _ _ _ _ _ _ _ _ => ⟨fun q h => (by cases h), [], trivial, fun f h => (by cases h), fun q h => (by cases h)⟩
def n_Fa_numberStrong_at_Fastrong_an : List an_T := [(2, [(0, (2, 0, 0, [2])), (1, (0, 0, 24, [])), (2, (2, 0, 0, [39])), (3, (0, 0, 24, []))], [], (0, 0), [(0, 0, 99998), (1, 3, 24), (0, 0, 100000), (0, 0, 0), (0, 0, 0)], [(3, 1, (Int.negSucc 999999999999), 0)], [], [], 0, [], []), (10, [(0, (2, 0, 0, [2])), (1, (0, 1, 24, [])), (2, (2, 0, 0, [39])), (3, (0, 0, 23, [])), (4, (0, 0, 24, []))], [], (0, 0), [(0, 0, 99998), (1, 3, 24), (0, 0, 99990), (1, 4, 24), (0, 0, 100000)], [(3, 1, (Int.negSucc 999999999999), (Int.negSucc 0)), (4, 1, (Int.negSucc 999999999999), 0)], [], [], 0, [], []), (68, [(0, (2, 0, 0, [2])), (1, (0, 0, 24, [])), (2, (2, 0, 0, [39])), (3, (0, 0, 24, [])), (4, (0, 0, 24, []))], [], (0, 0), [(0, 0, 99932), (1, 4, 24), (0, 0, 100000), (0, 0, 0), (0, 0, 0)], [(3, 1, (Int.negSucc 999999999999), 0), (3, 4, (Int.negSucc 999999999999), 0), (4, 1, (Int.negSucc 999999999999), 0)], [], [], 0, [], []), (93, [(0, (2, 0, 0, [2])), (1, (0, 1, 24, [])), (2, (2, 0, 0, [39])), (3, (0, 0, 23, [])), (4, (0, 0, 23, [])), (5, (0, 1, 24, []))], [], (0, 0), [(0, 0, 99932), (1, 4, 24), (0, 0, 99907), (1, 5, 24), (0, 0, 100000)], [(3, 1, (Int.negSucc 999999999999), (Int.negSucc 0)), (3, 4, (Int.negSucc 999999999999), 0), (3, 5, (Int.negSucc 999999999999), (Int.negSucc 0)), (4, 1, (Int.negSucc 999999999999), (Int.negSucc 0)), (4, 5, (Int.negSucc 999999999999), (Int.negSucc 0)), (5, 1, (Int.negSucc 999999999999), 0)], [], [], 0, [], [])]
def t_Fa_numberStrong_at_Fastrong_ct : ct_L := [(189, 139, e_jArr_fill1_v7)]
set_option maxRecDepth 100000 in
theorem c_Fa_numberStrong_at_Fastrong {l : Launch} {D : va_G} {kA : Nat → ClassId} : ct_ok PRD l D kA GG y_Fa_numberStrong_at_Fastrong z_Fa_numberStrong_at_Fastrong e_Fa_numberStrong_at_Fastrong := chk_all_ok (FT := [(45, 2, 10)]) (PT := []) (CT := t_Fa_numberStrong_at_Fastrong_ct) (KT := []) (NT := []) (AN := n_Fa_numberStrong_at_Fastrong_an) (OT := [o_Fa_numberStrong_at_Fastrong_0]) 5 388 (List.forall_mem_cons.mpr ⟨oo_Fa_numberStrong_at_Fastrong_0, List.forall_mem_nil _⟩) (by decide +kernel) ⟨List.forall_mem_cons.mpr ⟨gf_Fa_45, List.forall_mem_nil _⟩, List.forall_mem_nil _, List.forall_mem_cons.mpr ⟨cl_static (y := y_jArr_fill1) c_jArr_fill1_v7 wm_55 wm_4 wm_855 wm_54 ⟨by decide, by decide, by decide +kernel⟩ (by decide), List.forall_mem_nil _⟩, List.forall_mem_nil _, List.forall_mem_nil _, GG_pl⟩ (by decide +kernel)
def n_Fa_peel_an : List an_T := [(6, [(0, (2, 0, 0, [2])), (1, (2, 0, 0, [3])), (2, (0, 0, 16777215, [])), (3, (0, 0, 23, [])), (4, (0, 0, 16777215, [])), (5, (0, 0, 24, []))], [], (0, 0), [(0, 0, 99994), (1, 5, 24), (0, 0, 100000)], [], [], [], 0, [], [])]
def t_Fa_peel_ct : ct_L := [(108, 101, e_jInt_bitCount_v8)]
set_option maxRecDepth 100000 in
theorem c_Fa_peel {l : Launch} {D : va_G} {kA : Nat → ClassId} : ct_ok PRD l D kA GG y_Fa_peel z_Fa_peel e_Fa_peel := chk_all_ok (FT := [(35, 2, 7), (64, 3, 0), (78, 3, 14)]) (PT := []) (CT := t_Fa_peel_ct) (KT := []) (NT := []) (AN := n_Fa_peel_an) (OT := []) 3 200 (List.forall_mem_nil _) (by decide +kernel) ⟨List.forall_mem_cons.mpr ⟨gf_Fa_35, List.forall_mem_cons.mpr ⟨gf_Fa_64, List.forall_mem_cons.mpr ⟨gf_Fa_78, List.forall_mem_nil _⟩⟩⟩, List.forall_mem_nil _, List.forall_mem_cons.mpr ⟨cl_static (y := y_jInt_bitCount) c_jInt_bitCount_v8 wm_870 wm_17 wm_868 wm_869 ⟨by decide, by decide, by decide +kernel⟩ (by decide), List.forall_mem_nil _⟩, List.forall_mem_nil _, List.forall_mem_nil _, GG_pl⟩ (by decide +kernel)
def n_Gr_distance_an : List an_T := [(7, [(0, (2, 0, 0, [3])), (1, (0, 0, 23, [])), (2, (0, 0, 23, [])), (3, (0, 0, 16777215, [])), (4, (0, 0, 24, []))], [], (0, 0), [(0, 0, 99993), (1, 4, 24), (0, 0, 100000)], [], [], [], 0, [], [])]
def t_Gr_distance_ct : ct_L := [(114, 90, e_Fa_nearOf_at_Grnear)]
set_option maxRecDepth 100000 in
theorem c_Gr_distance {l : Launch} {D : va_G} {kA : Nat → ClassId} (h_Fa_nearOf_at_Grnear : ct_ok PRD l D kA GG y_Fa_nearOf_at_Grnear z_Fa_nearOf_at_Grnear e_Fa_nearOf_at_Grnear) : ct_ok PRD l D kA GG y_Gr_distance z_Gr_distance e_Gr_distance := chk_all_ok (FT := [(9, 3, 0), (56, 3, 14)]) (PT := []) (CT := t_Gr_distance_ct) (KT := []) (NT := []) (AN := n_Gr_distance_an) (OT := []) 3 200 (List.forall_mem_nil _) (by decide +kernel) ⟨List.forall_mem_cons.mpr ⟨gf_Gr_9, List.forall_mem_cons.mpr ⟨gf_Gr_56, List.forall_mem_nil _⟩⟩, List.forall_mem_nil _, List.forall_mem_cons.mpr ⟨cl_static (y := y_Fa_nearOf_at_Grnear) h_Fa_nearOf_at_Grnear wm_824 wm_7 wm_1022 wm_823 ⟨by decide, by decide, by decide +kernel⟩ (by decide), List.forall_mem_nil _⟩, List.forall_mem_nil _, List.forall_mem_nil _, GG_pl⟩ (by decide +kernel)
def n_Gr_relation_an : List an_T := []
def t_Gr_relation_ct : ct_L := [(13, 86, e_Gr_edgeBetween_at_Gr)]
set_option maxRecDepth 100000 in
theorem c_Gr_relation {l : Launch} {D : va_G} {kA : Nat → ClassId} (h_Gr_edgeBetween_at_Gr : ct_ok PRD l D kA GG y_Gr_edgeBetween_at_Gr z_Gr_edgeBetween_at_Gr e_Gr_edgeBetween_at_Gr) : ct_ok PRD l D kA GG y_Gr_relation z_Gr_relation e_Gr_relation := chk_all_ok (FT := [(35, 3, 7), (44, 3, 10)]) (PT := []) (CT := t_Gr_relation_ct) (KT := []) (NT := []) (AN := n_Gr_relation_an) (OT := []) 0 200 (List.forall_mem_nil _) (by decide +kernel) ⟨List.forall_mem_cons.mpr ⟨gf_Gr_35, List.forall_mem_cons.mpr ⟨gf_Gr_44, List.forall_mem_nil _⟩⟩, List.forall_mem_nil _, List.forall_mem_cons.mpr ⟨cl_virtual (y := y_Gr_edgeBetween_at_Gr) (ci := 3) rfl rfl ⟨_, _, rfl⟩ (by decide +kernel) h_Gr_edgeBetween_at_Gr wm_768 wm_3 wm_970 wm_766 wm_767 ⟨by decide, by decide, by decide +kernel⟩ (by decide), List.forall_mem_nil _⟩, List.forall_mem_nil _, List.forall_mem_nil _, GG_pl⟩ (by decide +kernel)
def n_La_halfOf_an : List an_T := []
def t_La_halfOf_ct : ct_L := [(1, 242, e_Gr_half)]
set_option maxRecDepth 100000 in
theorem c_La_halfOf {l : Launch} {D : va_G} {kA : Nat → ClassId} (h_Gr_half : ct_ok PRD l D kA GG y_Gr_half z_Gr_half e_Gr_half) : ct_ok PRD l D kA GG y_La_halfOf z_La_halfOf e_La_halfOf := chk_all_ok (FT := [(18, 4, 1), (139, 3, 0)]) (PT := []) (CT := t_La_halfOf_ct) (KT := []) (NT := []) (AN := n_La_halfOf_an) (OT := []) 0 200 (List.forall_mem_nil _) (by decide +kernel) ⟨List.forall_mem_cons.mpr ⟨gf_La_18, List.forall_mem_cons.mpr ⟨gf_La_139, List.forall_mem_nil _⟩⟩, List.forall_mem_nil _, List.forall_mem_cons.mpr ⟨cl_virtual (y := y_Gr_half) (ci := 3) rfl rfl ⟨_, _, rfl⟩ (by decide +kernel) h_Gr_half wm_1452 wm_3 wm_1449 wm_1450 wm_1451 ⟨by decide, by decide, by decide +kernel⟩ (by decide), List.forall_mem_nil _⟩, List.forall_mem_nil _, List.forall_mem_nil _, GG_pl⟩ (by decide +kernel)
def n_La_settlePairs_an : List an_T := [(4, [(0, (2, 0, 0, [4])), (1, (0, 0, 6, [])), (2, (0, (Int.negSucc 2147483647), 2147483647, [])), (3, (0, 0, 6, []))], [], (0, 0), [(0, 0, 99996), (1, 3, 6), (0, 0, 100000), (0, 0, 0), (0, 0, 0)], [], [], [], 0, [], []), (14, [(0, (2, 0, 0, [4])), (1, (0, 1, 6, [])), (2, (0, (Int.negSucc 2147483647), 2147483647, [])), (3, (0, 0, 5, [])), (4, (0, 1, 6, []))], [], (0, 0), [(0, 0, 99996), (1, 3, 6), (0, 0, 99986), (1, 4, 6), (0, 0, 100000)], [], [], [], 0, [], [])]
def t_La_settlePairs_ct : ct_L := [(135, 208, e_jMath_min1_v34)]
set_option maxRecDepth 100000 in
theorem c_La_settlePairs {l : Launch} {D : va_G} {kA : Nat → ClassId} : ct_ok PRD l D kA GG y_La_settlePairs z_La_settlePairs e_La_settlePairs := chk_all_ok (FT := [(78, 4, 20)]) (PT := []) (CT := t_La_settlePairs_ct) (KT := []) (NT := []) (AN := n_La_settlePairs_an) (OT := []) 5 264 (List.forall_mem_nil _) (by decide +kernel) ⟨List.forall_mem_cons.mpr ⟨gf_La_78, List.forall_mem_nil _⟩, List.forall_mem_nil _, List.forall_mem_cons.mpr ⟨cl_static (y := y_jMath_min1) c_jMath_min1_v34 wm_658 wm_10 wm_1389 wm_657 ⟨by decide, by decide, by decide +kernel⟩ (by decide), List.forall_mem_nil _⟩, List.forall_mem_nil _, List.forall_mem_nil _, GG_pl⟩ (by decide +kernel)

def n_La_sortLayer_an : List an_T := [(7, [(0, (2, 0, 0, [4])), (1, (0, 0, 23, [])), (2, (0, 0, 22, [])), (3, (0, 0, 72, []))], [], (0, 0), [(0, 0, 99993), (1, 3, 72), (0, 0, 100000), (0, 0, 0), (0, 0, 0)], [], [], [], 0, [], []), (56, [(0, (2, 0, 0, [4])), (1, (0, 0, 23, [])), (2, (0, 0, 22, [])), (3, (0, 0, 120, []))], [], (0, 0), [(0, 0, 99944), (1, 3, 120), (0, 0, 100000), (0, 0, 0), (0, 0, 0)], [], [], [], 0, [], []), (88, [(0, (2, 0, 0, [4])), (1, (0, 0, 23, [])), (2, (0, 0, 22, [])), (3, (0, 0, 119, []))], [(0, 0, 71, [])], (0, 0), [(0, 0, 99944), (1, 3, 120), (0, 0, 99912), (0, 0, 0), (0, 0, 0)], [], [], [], 0, [], []), (110, [(0, (2, 0, 0, [4])), (1, (0, 0, 23, [])), (2, (0, 0, 22, [])), (3, (0, 0, 119, [])), (4, (0, 0, 71, []))], [(0, 0, 71, [])], (0, 0), [(0, 0, 99944), (1, 3, 120), (0, 0, 99890), (0, 0, 0), (0, 0, 0)], [], [], [], 0, [], []), (153, [(0, (2, 0, 0, [4])), (1, (0, 0, 23, [])), (2, (0, 0, 22, [])), (3, (0, 0, 72, []))], [], (0, 0), [(0, 0, 99847), (1, 3, 72), (0, 0, 100000), (0, 0, 0), (0, 0, 0)], [], [], [], 0, [], []), (210, [(0, (2, 0, 0, [4])), (1, (0, 0, 23, [])), (2, (0, 0, 22, [])), (3, (0, 0, 71, []))], [], (0, 0), [(0, 0, 99847), (1, 3, 72), (0, 0, 99790), (0, 0, 0), (0, 0, 0)], [], [], [], 0, [], []), (225, [(0, (2, 0, 0, [4])), (1, (0, 0, 23, [])), (2, (0, 0, 22, [])), (3, (0, 1, 73, []))], [], (0, 0), [(0, 0, 99775), (1, 3, 73), (0, 0, 100000), (0, 0, 0), (0, 0, 0)], [], [], [], 0, [], []), (248, [(0, (2, 0, 0, [4])), (1, (0, 0, 23, [])), (2, (0, 0, 22, [])), (3, (0, 1, 71, [])), (4, (0, 0, 71, [])), (5, (0, 0, 71, []))], [], (0, 0), [(0, 0, 99775), (1, 3, 73), (0, 0, 99752), (2, 5, 0), (0, 0, 100000)], [], [], [], 0, [], []), (328, [(0, (2, 0, 0, [4])), (1, (0, 0, 23, [])), (2, (0, 0, 22, [])), (3, (0, 1, 71, [])), (4, (0, 0, 71, [])), (5, (0, 0, 71, []))], [], (0, 0), [(0, 0, 99775), (1, 3, 73), (0, 0, 99672), (0, 0, 0), (0, 0, 0)], [], [], [], 0, [], [])]
def t_La_sortLayer_ct : ct_L := [(1, 239, e_La_setPlaces)]
set_option maxRecDepth 100000 in
theorem c_La_sortLayer {l : Launch} {D : va_G} {kA : Nat → ClassId} (h_La_setPlaces : ct_ok PRD l D kA GG y_La_setPlaces z_La_setPlaces e_La_setPlaces) : ct_ok PRD l D kA GG y_La_sortLayer z_La_sortLayer e_La_sortLayer := chk_all_ok (FT := [(36, 4, 6), (39, 4, 7), (45, 4, 9), (48, 4, 10), (57, 4, 13), (60, 4, 14), (63, 4, 15), (66, 4, 16)]) (PT := []) (CT := t_La_sortLayer_ct) (KT := []) (NT := []) (AN := n_La_sortLayer_an) (OT := []) 5 860 (List.forall_mem_nil _) (by decide +kernel) ⟨List.forall_mem_cons.mpr ⟨gf_La_36, List.forall_mem_cons.mpr ⟨gf_La_39, List.forall_mem_cons.mpr ⟨gf_La_45, List.forall_mem_cons.mpr ⟨gf_La_48, List.forall_mem_cons.mpr ⟨gf_La_57, List.forall_mem_cons.mpr ⟨gf_La_60, List.forall_mem_cons.mpr ⟨gf_La_63, List.forall_mem_cons.mpr ⟨gf_La_66, List.forall_mem_nil _⟩⟩⟩⟩⟩⟩⟩⟩, List.forall_mem_nil _, List.forall_mem_cons.mpr ⟨cl_virtual (y := y_La_setPlaces) (ci := 4) rfl rfl ⟨_, _, rfl⟩ (by decide +kernel) h_La_setPlaces wm_1440 wm_18 wm_1437 wm_1439 wv_6_0 ⟨by decide, by decide, by decide +kernel⟩ (by decide), List.forall_mem_nil _⟩, List.forall_mem_nil _, List.forall_mem_nil _, GG_pl⟩ (by decide +kernel)
def n_Ne_init_an : List an_T := []
def t_Ne_init_ct : ct_L := [(8, 3, e_acp_8)]
set_option maxRecDepth 100000 in
theorem c_Ne_init_w {l : Launch} {D : va_G} {kA : Nat → ClassId} : ct_ok PRD l D kA GG y_Ne_init z_Ne_init e_Ne_init := chk_all_ok (FT := []) (PT := [(9, 5, 0, .int), (15, 5, 1, .int), (18, 5, 2, .int), (21, 5, 3, .int), (24, 5, 4, .array .int), (28, 5, 5, .int), (31, 5, 6, .int), (34, 5, 7, .array .int), (37, 5, 8, .array .int), (40, 5, 9, .array .int), (43, 5, 10, .array .int), (46, 5, 11, .array .int), (49, 5, 12, .array .int), (52, 5, 13, .int), (55, 5, 14, .array .int), (58, 5, 15, .array .int), (61, 5, 16, .array .int)]) (CT := t_Ne_init_ct) (KT := []) (NT := [(27, 284, .int), (45, 285, .int), (53, 286, .int), (61, 287, .int), (70, 288, .int), (79, 289, .int), (87, 290, .int), (101, 291, .int), (110, 292, .int), (119, 293, .int)]) (AN := n_Ne_init_an) (OT := []) 0 256 (List.forall_mem_nil _) (by decide +kernel) ⟨List.forall_mem_nil _, List.forall_mem_cons.mpr ⟨pf_Ne_9, List.forall_mem_cons.mpr ⟨pf_Ne_15, List.forall_mem_cons.mpr ⟨pf_Ne_18, List.forall_mem_cons.mpr ⟨pf_Ne_21, List.forall_mem_cons.mpr ⟨pf_Ne_24, List.forall_mem_cons.mpr ⟨pf_Ne_28, List.forall_mem_cons.mpr ⟨pf_Ne_31, List.forall_mem_cons.mpr ⟨pf_Ne_34, List.forall_mem_cons.mpr ⟨pf_Ne_37, List.forall_mem_cons.mpr ⟨pf_Ne_40, List.forall_mem_cons.mpr ⟨pf_Ne_43, List.forall_mem_cons.mpr ⟨pf_Ne_46, List.forall_mem_cons.mpr ⟨pf_Ne_49, List.forall_mem_cons.mpr ⟨pf_Ne_52, List.forall_mem_cons.mpr ⟨pf_Ne_55, List.forall_mem_cons.mpr ⟨pf_Ne_58, List.forall_mem_cons.mpr ⟨pf_Ne_61, List.forall_mem_nil _⟩⟩⟩⟩⟩⟩⟩⟩⟩⟩⟩⟩⟩⟩⟩⟩⟩, List.forall_mem_cons.mpr ⟨cl_obj rfl wm_247 wm_31 wm_32, List.forall_mem_nil _⟩, List.forall_mem_nil _, List.forall_mem_cons.mpr ⟨wm_193, List.forall_mem_cons.mpr ⟨wm_193, List.forall_mem_cons.mpr ⟨wm_193, List.forall_mem_cons.mpr ⟨wm_193, List.forall_mem_cons.mpr ⟨wm_193, List.forall_mem_cons.mpr ⟨wm_193, List.forall_mem_cons.mpr ⟨wm_193, List.forall_mem_cons.mpr ⟨wm_193, List.forall_mem_cons.mpr ⟨wm_193, List.forall_mem_cons.mpr ⟨wm_193, List.forall_mem_nil _⟩⟩⟩⟩⟩⟩⟩⟩⟩⟩, GG_pl⟩ (by decide +kernel)
def n_Ne_insertBehind_an : List an_T := []
def t_Ne_insertBehind_ct : ct_L := [(1, 84, e_Ne_endAt)]
set_option maxRecDepth 100000 in
theorem c_Ne_insertBehind {l : Launch} {D : va_G} {kA : Nat → ClassId} (h_Ne_endAt : ct_ok PRD l D kA GG y_Ne_endAt z_Ne_endAt e_Ne_endAt) : ct_ok PRD l D kA GG y_Ne_insertBehind z_Ne_insertBehind e_Ne_insertBehind := chk_all_ok (FT := [(46, 5, 11)]) (PT := []) (CT := t_Ne_insertBehind_ct) (KT := []) (NT := []) (AN := n_Ne_insertBehind_an) (OT := []) 0 296 (List.forall_mem_nil _) (by decide +kernel) ⟨List.forall_mem_cons.mpr ⟨gf_Ne_46, List.forall_mem_nil _⟩, List.forall_mem_nil _, List.forall_mem_cons.mpr ⟨cl_virtual (y := y_Ne_endAt) (ci := 5) rfl rfl ⟨_, _, rfl⟩ (by decide +kernel) h_Ne_endAt wm_1138 wm_6 wm_1151 wm_1136 wm_1137 ⟨by decide, by decide, by decide +kernel⟩ (by decide), List.forall_mem_nil _⟩, List.forall_mem_nil _, List.forall_mem_nil _, GG_pl⟩ (by decide +kernel)
def n_Pl_init_an : List an_T := []
def t_Pl_init_ct : ct_L := [(8, 3, e_acp_9)]
set_option maxRecDepth 100000 in
theorem c_Pl_init {l : Launch} {D : va_G} {kA : Nat → ClassId} : ct_ok PRD l D kA GG y_Pl_init z_Pl_init e_Pl_init := chk_all_ok (FT := []) (PT := [(9, 6, 0, .object "DrawingHouse$Graph"), (15, 6, 1, .object "DrawingHouse$Drawing"), (19, 6, 2, .array .int), (23, 6, 3, .array .int), (26, 6, 4, .array .int), (29, 6, 5, .array .int), (32, 6, 6, .array .int), (35, 6, 7, .array .int), (38, 6, 8, .int), (42, 6, 9, .array .int), (45, 6, 10, .array .int), (48, 6, 11, .int), (51, 6, 12, .array .int), (54, 6, 13, .long), (58, 6, 14, .long), (61, 6, 15, .array .long), (65, 6, 16, .array .long), (68, 6, 17, .array .long), (71, 6, 18, .array .long)]) (CT := t_Pl_init_ct) (KT := []) (NT := [(17, 89, .int), (25, 90, .int), (33, 91, .int), (41, 92, .int), (49, 93, .int), (57, 94, .int), (70, 95, .int), (78, 96, .int), (90, 97, .int), (108, 98, .long), (116, 99, .long), (124, 100, .long), (132, 101, .long)]) (AN := n_Pl_init_an) (OT := []) 0 292 (List.forall_mem_nil _) (by decide +kernel) ⟨List.forall_mem_nil _, List.forall_mem_cons.mpr ⟨pf_Pl_9, List.forall_mem_cons.mpr ⟨pf_Pl_15, List.forall_mem_cons.mpr ⟨pf_Pl_19, List.forall_mem_cons.mpr ⟨pf_Pl_23, List.forall_mem_cons.mpr ⟨pf_Pl_26, List.forall_mem_cons.mpr ⟨pf_Pl_29, List.forall_mem_cons.mpr ⟨pf_Pl_32, List.forall_mem_cons.mpr ⟨pf_Pl_35, List.forall_mem_cons.mpr ⟨pf_Pl_38, List.forall_mem_cons.mpr ⟨pf_Pl_42, List.forall_mem_cons.mpr ⟨pf_Pl_45, List.forall_mem_cons.mpr ⟨pf_Pl_48, List.forall_mem_cons.mpr ⟨pf_Pl_51, List.forall_mem_cons.mpr ⟨pf_Pl_54, List.forall_mem_cons.mpr ⟨pf_Pl_58, List.forall_mem_cons.mpr ⟨pf_Pl_61, List.forall_mem_cons.mpr ⟨pf_Pl_65, List.forall_mem_cons.mpr ⟨pf_Pl_68, List.forall_mem_cons.mpr ⟨pf_Pl_71, List.forall_mem_nil _⟩⟩⟩⟩⟩⟩⟩⟩⟩⟩⟩⟩⟩⟩⟩⟩⟩⟩⟩, List.forall_mem_cons.mpr ⟨cl_obj rfl wm_1624 wm_31 wm_32, List.forall_mem_nil _⟩, List.forall_mem_nil _, List.forall_mem_cons.mpr ⟨wm_193, List.forall_mem_cons.mpr ⟨wm_193, List.forall_mem_cons.mpr ⟨wm_193, List.forall_mem_cons.mpr ⟨wm_193, List.forall_mem_cons.mpr ⟨wm_193, List.forall_mem_cons.mpr ⟨wm_193, List.forall_mem_cons.mpr ⟨wm_193, List.forall_mem_cons.mpr ⟨wm_193, List.forall_mem_cons.mpr ⟨wm_193, List.forall_mem_cons.mpr ⟨wm_1683, List.forall_mem_cons.mpr ⟨wm_1683, List.forall_mem_cons.mpr ⟨wm_1683, List.forall_mem_cons.mpr ⟨wm_1683, List.forall_mem_nil _⟩⟩⟩⟩⟩⟩⟩⟩⟩⟩⟩⟩⟩, GG_pl⟩ (by decide +kernel)
def n_Pl_crossingsAt_an : List an_T := [(24, [(0, (2, 0, 0, [6])), (1, (0, 0, 23, [])), (2, (0, 0, 16777215, [])), (3, (0, 0, 16777215, [])), (4, (0, (Int.negSucc 2147483647), 2147483647, [])), (5, (0, (Int.negSucc 2147483647), 2147483647, [])), (6, (0, 0, 23, []))], [], (0, 0), [(0, 0, 99976), (1, 6, 23), (0, 0, 100000)], [], [((0, 0), (2, 0, 0, [3]))], [], 0, [], [])]
def t_Pl_crossingsAt_ct : ct_L := [(162, 230, e_jInt_bitCount_v8)]
set_option maxRecDepth 100000 in
theorem c_Pl_crossingsAt {l : Launch} {D : va_G} {kA : Nat → ClassId} : ct_ok PRD l D kA GG y_Pl_crossingsAt z_Pl_crossingsAt e_Pl_crossingsAt := chk_all_ok (FT := [(9, 6, 0), (19, 6, 2), (138, 3, 14)]) (PT := []) (CT := t_Pl_crossingsAt_ct) (KT := []) (NT := []) (AN := n_Pl_crossingsAt_an) (OT := []) 3 204 (List.forall_mem_nil _) (by decide +kernel) ⟨List.forall_mem_cons.mpr ⟨gf_Pl_9, List.forall_mem_cons.mpr ⟨gf_Pl_19, List.forall_mem_cons.mpr ⟨gf_Pl_138, List.forall_mem_nil _⟩⟩⟩, List.forall_mem_nil _, List.forall_mem_cons.mpr ⟨cl_static (y := y_jInt_bitCount) c_jInt_bitCount_v8 wm_870 wm_17 wm_1771 wm_869 ⟨by decide, by decide, by decide +kernel⟩ (by decide), List.forall_mem_nil _⟩, List.forall_mem_nil _, List.forall_mem_nil _, GG_pl⟩ (by decide +kernel)
set_option maxHeartbeats 4000000 in
theorem vc_Pn_replaceInLine_at_gx_0_0 (x2 : Int) (x3 : Int) (x4 : Int) (x7 : Int) (x8 : Int) (x9 : Int) (lineLength_0 : Int) (k2 : 1 ≤ x2 ∧ x2 ≤ 1) (k3 : 0 ≤ x3 ∧ x3 ≤ 24) (k4 : 2 ≤ x4 ∧ x4 ≤ 24) (k7 : (-1) ≤ x7 ∧ x7 ≤ 23) (k8 : (-1) ≤ x8 ∧ x8 ≤ 24) (k9 : 24 ≤ x9 ∧ x9 ≤ 24) (d1 : x7 + 0 ≤ x8 ∧ x8 ≤ x7 + 24) (d3 : x4 + (-1) ≤ x7 ∧ x7 ≤ x4 + (-1)) (f2 : x8 ≤ x9) (f3 : x8 = x7 + x3) (g5 : x4 = lineLength_0) (kz_0_3 : 0 ≤ lineLength_0 ∧ lineLength_0 ≤ 24) : 1 * lineLength_0 + ((-1) * x2 + (1 * x3 + 0)) ≤ 24 := by
  first | assumption | omega | grind
set_option maxHeartbeats 4000000 in
theorem vc_Pn_replaceInLine_at_gx_0_1 (x1 : Int) (x2 : Int) (x4 : Int) (x5 : Int) (x6 : Int) (x7 : Int) (lineLength_0 : Int) (k1 : 1 ≤ x1 ∧ x1 ≤ 22) (k2 : 1 ≤ x2 ∧ x2 ≤ 1) (k4 : 2 ≤ x4 ∧ x4 ≤ 24) (k5 : 1 ≤ x5 ∧ x5 ≤ 23) (k6 : 0 ≤ x6 ∧ x6 ≤ 22) (k7 : (-1) ≤ x7 ∧ x7 ≤ 23) (d3 : x4 + (-1) ≤ x7 ∧ x7 ≤ x4 + (-1)) (d4 : x5 + (-1) ≤ x6 ∧ x6 ≤ x5 + (-1)) (g5 : x4 = lineLength_0) (f7 : x5 = x4 - x1) (kz_0_3 : 0 ≤ lineLength_0 ∧ lineLength_0 ≤ 24) : (-1) * lineLength_0 + (1 * x1 + (1 * x2 + 0)) ≤ 0 := by
  first | assumption | omega | grind
def o_Pn_replaceInLine_at_gx_0 : or_T := (33, 10, [(0, (2, 0, 0, [7])), (1, (0, 1, 22, [])), (2, (0, 1, 1, [])), (3, (0, 0, 24, [])), (4, (0, 2, 24, [])), (5, (0, 1, 23, [])), (6, (0, 0, 22, [])), (7, (0, -1, 23, [])), (8, (0, -1, 24, [])), (9, (0, 24, 24, []))], [(7, [8, 9], [5]), (1, [8, 7, 3], []), (9, [4, 0], [3]), (2, [5, 4, 1], [])], [], [], [(20, [0, 2, 3], [30, 24, 1, 1, 3, -1, 0, 0, 1, 0, 0]), (20, [0, 1, 2], [30, 0, -1, 1, 3, 1, 0, 0, 1, 0, 0])], [], [(8, 7, 0, 24), (7, 4, -1, -1), (6, 5, -1, -1)])
theorem oo_Pn_replaceInLine_at_gx_0 {kA : Nat → ClassId} : or_ok PRD kA GG o_Pn_replaceInLine_at_gx_0 := by
  refine or_mk fun A ta ws vs hD hth hl => ?_
  intro t0 r0 t1 k1 t2 k2 t3 k3 t4 k4 t5 k5 t6 k6 t7 k7 t8 k8 t9 k9 d1 d3 d4 f2 f3 f5 f7
  replace f5 := shm_137 f5
  have g5 : v_iv (n_v vs 4) = w_fi ws (n_v vs 0) 3 := congrArg v_iv f5
  have kz_0_3 := fdq_13 hD hth r0
  have nf0 : fc_1 PRD (20, [0, 2, 3], [30, 24, 1, 1, 3, -1, 0, 0, 1, 0, 0]) ws (vs) := ⟨nf_in hl rfl, sgq_138 (vc_Pn_replaceInLine_at_gx_0_0 (v_iv (n_v vs 2)) (v_iv (n_v vs 3)) (v_iv (n_v vs 4)) (v_iv (n_v vs 7)) (v_iv (n_v vs 8)) (v_iv (n_v vs 9)) (w_fi ws (n_v vs 0) 3) k2 k3 k4 k7 k8 k9 d1 d3 (shm_24 f2) (shm_12 f3) g5 kz_0_3)⟩
  have nf1 : fc_1 PRD (20, [0, 1, 2], [30, 0, -1, 1, 3, 1, 0, 0, 1, 0, 0]) ws (vs) := ⟨nf_in hl rfl, sgq_139 (vc_Pn_replaceInLine_at_gx_0_1 (v_iv (n_v vs 1)) (v_iv (n_v vs 2)) (v_iv (n_v vs 4)) (v_iv (n_v vs 5)) (v_iv (n_v vs 6)) (v_iv (n_v vs 7)) (w_fi ws (n_v vs 0) 3) k1 k2 k4 k5 k6 k7 d3 d4 g5 (shm_14 f7) kz_0_3)⟩
  refine ⟨(fun _ h => (by cases h)), [], trivial, ?_, (fun _ h => (by cases h))⟩
  rw [List.append_nil]
  exact List.forall_mem_cons.mpr ⟨⟨show (20 : Nat) < 100 from by decide, nf0⟩, List.forall_mem_cons.mpr ⟨⟨show (20 : Nat) < 100 from by decide, nf1⟩, (fun _ h => (by cases h))⟩⟩
set_option maxHeartbeats 4000000 in
theorem vc_Pn_replaceInLine_at_gx_1_0 (x1 : Int) (x3 : Int) (x4 : Int) (x5 : Int) (x6 : Int) (x7 : Int) (x8 : Int) (x11 : Int) (x12 : Int) (lineLength_0 : Int) (k1 : 1 ≤ x1 ∧ x1 ≤ 22) (k3 : 0 ≤ x3 ∧ x3 ≤ 24) (k4 : 2 ≤ x4 ∧ x4 ≤ 24) (k5 : 1 ≤ x5 ∧ x5 ≤ 23) (k6 : 0 ≤ x6 ∧ x6 ≤ 22) (k7 : (-1) ≤ x7 ∧ x7 ≤ 23) (k8 : (-1) ≤ x8 ∧ x8 ≤ 24) (k11 : 2 ≤ x11 ∧ x11 ≤ 23) (k12 : 1 ≤ x12 ∧ x12 ≤ 46) (d2 : x1 + 1 ≤ x11 ∧ x11 ≤ x1 + 1) (d6 : x4 + (-1) ≤ x7 ∧ x7 ≤ x4 + (-1)) (d7 : x5 + (-1) ≤ x6 ∧ x6 ≤ x5 + (-1)) (f0 : x12 = x1 + x3) (f7 : x8 = x7 + x3) (g9 : x4 = lineLength_0) (f11 : x5 = x4 - x1) (kz_0_3 : 0 ≤ lineLength_0 ∧ lineLength_0 ≤ 24) : x11 + x6 ≤ 24 := by
  first | assumption | omega | grind
set_option maxHeartbeats 4000000 in
theorem vc_Pn_replaceInLine_at_gx_1_1 (x1 : Int) (x3 : Int) (x4 : Int) (x5 : Int) (x6 : Int) (x7 : Int) (x8 : Int) (x11 : Int) (x12 : Int) (lineLength_0 : Int) (k1 : 1 ≤ x1 ∧ x1 ≤ 22) (k3 : 0 ≤ x3 ∧ x3 ≤ 24) (k4 : 2 ≤ x4 ∧ x4 ≤ 24) (k5 : 1 ≤ x5 ∧ x5 ≤ 23) (k6 : 0 ≤ x6 ∧ x6 ≤ 22) (k7 : (-1) ≤ x7 ∧ x7 ≤ 23) (k8 : (-1) ≤ x8 ∧ x8 ≤ 24) (k11 : 2 ≤ x11 ∧ x11 ≤ 23) (k12 : 1 ≤ x12 ∧ x12 ≤ 46) (d2 : x1 + 1 ≤ x11 ∧ x11 ≤ x1 + 1) (d6 : x4 + (-1) ≤ x7 ∧ x7 ≤ x4 + (-1)) (d7 : x5 + (-1) ≤ x6 ∧ x6 ≤ x5 + (-1)) (f0 : x12 = x1 + x3) (f7 : x8 = x7 + x3) (g9 : x4 = lineLength_0) (f11 : x5 = x4 - x1) (kz_0_3 : 0 ≤ lineLength_0 ∧ lineLength_0 ≤ 24) : x12 + x6 ≤ 24 := by
  first | assumption | omega | grind
def o_Pn_replaceInLine_at_gx_1 : or_T := (49, 13, [(0, (2, 0, 0, [7])), (1, (0, 1, 22, [])), (3, (0, 0, 24, [])), (4, (0, 2, 24, [])), (5, (0, 1, 23, [])), (6, (0, 0, 22, [])), (7, (0, -1, 23, [])), (8, (0, -1, 24, [])), (11, (0, 2, 23, [])), (12, (0, 1, 46, []))], [(1, [12, 1, 3], []), (1, [8, 7, 3], []), (9, [4, 0], [3]), (2, [5, 4, 1], [])], [], [], [(21, [11, 6], [24]), (21, [12, 6], [24])], [], [(11, 1, 1, 1), (7, 4, -1, -1), (6, 5, -1, -1)])
theorem oo_Pn_replaceInLine_at_gx_1 {kA : Nat → ClassId} : or_ok PRD kA GG o_Pn_replaceInLine_at_gx_1 := by
  refine or_mk fun A ta ws vs hD hth hl => ?_
  intro t0 r0 t1 k1 t3 k3 t4 k4 t5 k5 t6 k6 t7 k7 t8 k8 t11 k11 t12 k12 d2 d6 d7 f0 f7 f9 f11
  replace f9 := shm_137 f9
  have g9 : v_iv (n_v vs 4) = w_fi ws (n_v vs 0) 3 := congrArg v_iv f9
  have kz_0_3 := fdq_13 hD hth r0
  have nf0 : fc_1 PRD (21, [11, 6], [24]) ws (vs) := ⟨nf_in hl rfl, sgq_140 (vc_Pn_replaceInLine_at_gx_1_0 (v_iv (n_v vs 1)) (v_iv (n_v vs 3)) (v_iv (n_v vs 4)) (v_iv (n_v vs 5)) (v_iv (n_v vs 6)) (v_iv (n_v vs 7)) (v_iv (n_v vs 8)) (v_iv (n_v vs 11)) (v_iv (n_v vs 12)) (w_fi ws (n_v vs 0) 3) k1 k3 k4 k5 k6 k7 k8 k11 k12 d2 d6 d7 (shm_12 f0) (shm_12 f7) g9 (shm_14 f11) kz_0_3)⟩
  have nf1 : fc_1 PRD (21, [12, 6], [24]) ws (vs) := ⟨nf_in hl rfl, sgq_140 (vc_Pn_replaceInLine_at_gx_1_1 (v_iv (n_v vs 1)) (v_iv (n_v vs 3)) (v_iv (n_v vs 4)) (v_iv (n_v vs 5)) (v_iv (n_v vs 6)) (v_iv (n_v vs 7)) (v_iv (n_v vs 8)) (v_iv (n_v vs 11)) (v_iv (n_v vs 12)) (w_fi ws (n_v vs 0) 3) k1 k3 k4 k5 k6 k7 k8 k11 k12 d2 d6 d7 (shm_12 f0) (shm_12 f7) g9 (shm_14 f11) kz_0_3)⟩
  refine ⟨(fun _ h => (by cases h)), [], trivial, ?_, (fun _ h => (by cases h))⟩
  rw [List.append_nil]
  exact List.forall_mem_cons.mpr ⟨⟨show (21 : Nat) < 100 from by decide, nf0⟩, List.forall_mem_cons.mpr ⟨⟨show (21 : Nat) < 100 from by decide, nf1⟩, (fun _ h => (by cases h))⟩⟩
set_option maxHeartbeats 4000000 in
theorem vc_Pn_replaceInLine_at_gx_2_0 (x1 : Int) (x2 : Int) (x3 : Int) (x11 : Int) (x12 : Int) (x14 : Int) (lineLength_0 : Int) (k1 : 1 ≤ x1 ∧ x1 ≤ 22) (k2 : 1 ≤ x2 ∧ x2 ≤ 1) (k3 : 0 ≤ x3 ∧ x3 ≤ 24) (k11 : 2 ≤ x11 ∧ x11 ≤ 23) (k12 : 1 ≤ x12 ∧ x12 ≤ 46) (k14 : 0 ≤ x14 ∧ x14 ≤ 0) (d2 : x1 + 1 ≤ x11 ∧ x11 ≤ x1 + 1) (f2 : 1 * lineLength_0 + ((-1) * x2 + (1 * x3 + 0)) ≤ 24) (f7 : x12 = x1 + x3) (kz_0_3 : 0 ≤ lineLength_0 ∧ lineLength_0 ≤ 24) : x14 + x3 ≤ 27 := by
  first | assumption | omega | grind
set_option maxHeartbeats 4000000 in
theorem vc_Pn_replaceInLine_at_gx_2_1 (x1 : Int) (x3 : Int) (x4 : Int) (x5 : Int) (x6 : Int) (x7 : Int) (x8 : Int) (x11 : Int) (x12 : Int) (k1 : 1 ≤ x1 ∧ x1 ≤ 22) (k3 : 0 ≤ x3 ∧ x3 ≤ 24) (k4 : 2 ≤ x4 ∧ x4 ≤ 24) (k5 : 1 ≤ x5 ∧ x5 ≤ 23) (k6 : 0 ≤ x6 ∧ x6 ≤ 22) (k7 : (-1) ≤ x7 ∧ x7 ≤ 23) (k8 : (-1) ≤ x8 ∧ x8 ≤ 24) (k11 : 2 ≤ x11 ∧ x11 ≤ 23) (k12 : 1 ≤ x12 ∧ x12 ≤ 46) (d2 : x1 + 1 ≤ x11 ∧ x11 ≤ x1 + 1) (d6 : x4 + (-1) ≤ x7 ∧ x7 ≤ x4 + (-1)) (d7 : x5 + (-1) ≤ x6 ∧ x6 ≤ x5 + (-1)) (f7 : x12 = x1 + x3) (f12 : x8 = x7 + x3) (f15 : x5 = x4 - x1) : x1 + x3 ≤ 24 := by
  first | assumption | omega | grind
def o_Pn_replaceInLine_at_gx_2 : or_T := (63, 15, [(0, (2, 0, 0, [7])), (1, (0, 1, 22, [])), (2, (0, 1, 1, [])), (3, (0, 0, 24, [])), (4, (0, 2, 24, [])), (5, (0, 1, 23, [])), (6, (0, 0, 22, [])), (7, (0, -1, 23, [])), (8, (0, -1, 24, [])), (11, (0, 2, 23, [])), (12, (0, 1, 46, [])), (14, (0, 0, 0, []))], [(20, [0, 2, 3], [30, 24, 1, 1, 3, -1, 0, 0, 1, 0, 0]), (102, [12], [10141204801825835211973625643008]), (1, [12, 1, 3], []), (1, [8, 7, 3], []), (2, [5, 4, 1], [])], [], [], [(21, [14, 3], [27]), (21, [1, 3], [24])], [], [(11, 1, 1, 1), (7, 4, -1, -1), (6, 5, -1, -1)])
theorem oo_Pn_replaceInLine_at_gx_2 {kA : Nat → ClassId} : or_ok PRD kA GG o_Pn_replaceInLine_at_gx_2 := by
  refine or_mk fun A ta ws vs hD hth hl => ?_
  intro t0 r0 t1 k1 t2 k2 t3 k3 t4 k4 t5 k5 t6 k6 t7 k7 t8 k8 t11 k11 t12 k12 t14 k14 d2 d6 d7 f2 ta1 w1 le1 s1 f7 f12 f15
  have kz_0_3 := fdq_13 hD hth r0
  have nf0 : fc_1 PRD (21, [14, 3], [27]) ws (vs) := ⟨nf_in hl rfl, sgq_141 (vc_Pn_replaceInLine_at_gx_2_0 (v_iv (n_v vs 1)) (v_iv (n_v vs 2)) (v_iv (n_v vs 3)) (v_iv (n_v vs 11)) (v_iv (n_v vs 12)) (v_iv (n_v vs 14)) (w_fi ws (n_v vs 0) 3) k1 k2 k3 k11 k12 k14 d2 (shm_138 f2) (shm_12 f7) kz_0_3)⟩
  have nf1 : fc_1 PRD (21, [1, 3], [24]) ws (vs) := ⟨nf_in hl rfl, sgq_140 (vc_Pn_replaceInLine_at_gx_2_1 (v_iv (n_v vs 1)) (v_iv (n_v vs 3)) (v_iv (n_v vs 4)) (v_iv (n_v vs 5)) (v_iv (n_v vs 6)) (v_iv (n_v vs 7)) (v_iv (n_v vs 8)) (v_iv (n_v vs 11)) (v_iv (n_v vs 12)) k1 k3 k4 k5 k6 k7 k8 k11 k12 d2 d6 d7 (shm_12 f7) (shm_12 f12) (shm_14 f15))⟩
  refine ⟨(fun _ h => (by cases h)), [], trivial, ?_, (fun _ h => (by cases h))⟩
  rw [List.append_nil]
  exact List.forall_mem_cons.mpr ⟨⟨show (21 : Nat) < 100 from by decide, nf0⟩, List.forall_mem_cons.mpr ⟨⟨show (21 : Nat) < 100 from by decide, nf1⟩, (fun _ h => (by cases h))⟩⟩
set_option maxHeartbeats 4000000 in
theorem vc_Pn_replaceInLine_at_gx_3_r0 (x3 : Int) (x4 : Int) (x7 : Int) (x8 : Int) (x15 : Int) (x16 : Int) (k3 : 0 ≤ x3 ∧ x3 ≤ 24) (k4 : 2 ≤ x4 ∧ x4 ≤ 24) (k7 : (-1) ≤ x7 ∧ x7 ≤ 23) (k8 : (-1) ≤ x8 ∧ x8 ≤ 24) (k15 : (-1) ≤ x15 ∧ x15 ≤ 23) (k16 : 1 ≤ x16 ∧ x16 ≤ 47) (d3 : x3 + (-1) ≤ x15 ∧ x15 ≤ x3 + (-1)) (d10 : x4 + (-1) ≤ x7 ∧ x7 ≤ x4 + (-1)) (f0 : x16 = x4 + x15) (f22 : x8 = x7 + x3) : 1 ≤ x16 ∧ x16 ≤ 24 := by
  first | assumption | omega | grind
def o_Pn_replaceInLine_at_gx_3 : or_T := (75, 17, [(0, (2, 0, 0, [7])), (1, (0, 1, 22, [])), (2, (0, 1, 1, [])), (3, (0, 0, 24, [])), (4, (0, 2, 24, [])), (5, (0, 1, 23, [])), (6, (0, 0, 22, [])), (7, (0, -1, 23, [])), (8, (0, -1, 24, [])), (9, (0, 24, 24, [])), (11, (0, 2, 23, [])), (12, (0, 1, 46, [])), (14, (0, 0, 0, [])), (15, (0, -1, 23, [])), (16, (0, 1, 47, []))], [(1, [16, 4, 15], []), (2, [15, 3, 2], []), (9, [4, 0], [3]), (21, [14, 3], [27]), (21, [1, 3], [24]), (21, [11, 6], [24]), (21, [12, 6], [24]), (20, [0, 2, 3], [30, 24, 1, 1, 3, -1, 0, 0, 1, 0, 0]), (20, [0, 1, 2], [30, 0, -1, 1, 3, 1, 0, 0, 1, 0, 0]), (102, [14], [10141204801825835211973625643008]), (21, [14, 3], [27]), (21, [1, 3], [24]), (21, [11, 6], [24]), (21, [12, 6], [24]), (102, [12], [10141204801825835211973625643008]), (21, [11, 6], [24]), (21, [12, 6], [24]), (1, [12, 1, 3], []), (1, [11, 1, 2], []), (8, [2], [3]), (8, [6], [3]), (7, [8, 9], [5]), (1, [8, 7, 3], []), (2, [7, 4, 2], []), (2, [6, 5, 2], []), (2, [5, 4, 1], [])], [(16, (0, 1, 24, []))], [], [], [], [(16, 15, 2, 24), (16, 3, 1, 23), (16, 4, -1, 23), (15, 3, -1, -1), (12, 3, 1, 22), (12, 1, 0, 24), (11, 1, 1, 1), (8, 3, -1, 23), (8, 7, 0, 24), (8, 4, -1, 23), (7, 4, -1, -1), (6, 5, -1, -1), (6, 4, -23, -2), (5, 4, -22, -1)])
theorem oo_Pn_replaceInLine_at_gx_3 {kA : Nat → ClassId} : or_ok PRD kA GG o_Pn_replaceInLine_at_gx_3 := by
  refine or_mk fun A ta ws vs hD hth hl => ?_
  intro t0 r0 t1 k1 t2 k2 t3 k3 t4 k4 t5 k5 t6 k6 t7 k7 t8 k8 t9 k9 t11 k11 t12 k12 t14 k14 t15 k15 t16 k16 d0 d1 d2 d3 d4 d5 d6 d7 d8 d9 d10 d11 d12 d13 f0 f1 f2 f3 f4 f5 f6 f7 f8 ta1 w1 le1 s1 f10 f11 f12 f13 ta2 w2 le2 s2 f15 f16 f17 f18 f19 f20 f21 f22 f23 f24 f25
  have hrf0 : 1 ≤ v_iv (n_v vs 16) ∧ v_iv (n_v vs 16) ≤ 24 := vc_Pn_replaceInLine_at_gx_3_r0 (v_iv (n_v vs 3)) (v_iv (n_v vs 4)) (v_iv (n_v vs 7)) (v_iv (n_v vs 8)) (v_iv (n_v vs 15)) (v_iv (n_v vs 16)) k3 k4 k7 k8 k15 k16 d3 d10 (shm_12 f0) (shm_12 f22)
  have rf16 : tv_ok ta (0, 1, 24, []) (n_v vs 16) := tv_in t16 (by omega) (by omega)
  refine ⟨List.forall_mem_cons.mpr ⟨rf16, (fun _ h => (by cases h))⟩, [], trivial, ?_, (fun _ h => (by cases h))⟩
  rw [List.append_nil]
  exact (fun _ h => (by cases h))
def n_Pn_replaceInLine_at_gx_an : List an_T := []
def t_Pn_replaceInLine_at_gx_ct : ct_L := [(150, 171, e_acp_14), (192, 171, e_acp_15)]
set_option maxRecDepth 100000 in
theorem c_Pn_replaceInLine_at_gx {l : Launch} {D : va_G} {kA : Nat → ClassId} : ct_ok PRD l D kA GG y_Pn_replaceInLine_at_gx z_Pn_replaceInLine_at_gx e_Pn_replaceInLine_at_gx := chk_all_ok (FT := [(22, 7, 2), (25, 7, 3), (35, 7, 6)]) (PT := [(25, 7, 3, .int)]) (CT := t_Pn_replaceInLine_at_gx_ct) (KT := []) (NT := []) (AN := n_Pn_replaceInLine_at_gx_an) (OT := [o_Pn_replaceInLine_at_gx_0, o_Pn_replaceInLine_at_gx_1, o_Pn_replaceInLine_at_gx_2, o_Pn_replaceInLine_at_gx_3]) 0 200 (List.forall_mem_cons.mpr ⟨oo_Pn_replaceInLine_at_gx_0, List.forall_mem_cons.mpr ⟨oo_Pn_replaceInLine_at_gx_1, List.forall_mem_cons.mpr ⟨oo_Pn_replaceInLine_at_gx_2, List.forall_mem_cons.mpr ⟨oo_Pn_replaceInLine_at_gx_3, List.forall_mem_nil _⟩⟩⟩⟩) (by decide +kernel) ⟨List.forall_mem_cons.mpr ⟨gf_Pn_22, List.forall_mem_cons.mpr ⟨gf_Pn_25, List.forall_mem_cons.mpr ⟨gf_Pn_35, List.forall_mem_nil _⟩⟩⟩, List.forall_mem_cons.mpr ⟨pf_Pn_25, List.forall_mem_nil _⟩, List.forall_mem_cons.mpr ⟨cl_copy rfl rfl (by decide) (by decide) (by decide) wm_1565 wm_750 wm_749 wm_15, List.forall_mem_cons.mpr ⟨cl_copy rfl rfl (by decide) (by decide) (by decide) wm_1565 wm_750 wm_749 wm_15, List.forall_mem_nil _⟩⟩, List.forall_mem_nil _, List.forall_mem_nil _, GG_pl⟩ (by decide +kernel)
def n_Ro_init_an : List an_T := []
def t_Ro_init_ct : ct_L := [(8, 3, e_acp_16)]
set_option maxRecDepth 100000 in
theorem c_Ro_init {l : Launch} {D : va_G} {kA : Nat → ClassId} : ct_ok PRD l D kA GG y_Ro_init z_Ro_init e_Ro_init := chk_all_ok (FT := []) (PT := [(9, 9, 0, .object "DrawingHouse$Graph"), (15, 9, 1, .object "DrawingHouse$Drawing"), (19, 9, 2, .int), (23, 9, 3, .int), (26, 9, 4, .int), (29, 9, 5, .int), (32, 9, 6, .int), (35, 9, 7, .int), (38, 9, 8, .int), (41, 9, 9, .array .boolean), (45, 9, 10, .array .int), (49, 9, 11, .array .int), (53, 9, 12, .array .int), (56, 9, 13, .array .int), (59, 9, 14, .int), (62, 9, 15, .array .int), (65, 9, 16, .array .int), (68, 9, 17, .int)]) (CT := t_Ro_init_ct) (KT := [(0, 52, .int (48004), (0, 48004, 48004, []))]) (NT := [(53, 111, .boolean), (62, 112, .int), (69, 113, .int), (77, 114, .int), (85, 115, .int), (98, 116, .int), (106, 117, .int)]) (AN := n_Ro_init_an) (OT := []) 0 256 (List.forall_mem_nil _) (by decide +kernel) ⟨List.forall_mem_nil _, List.forall_mem_cons.mpr ⟨pf_Ro_9, List.forall_mem_cons.mpr ⟨pf_Ro_15, List.forall_mem_cons.mpr ⟨pf_Ro_19, List.forall_mem_cons.mpr ⟨pf_Ro_23, List.forall_mem_cons.mpr ⟨pf_Ro_26, List.forall_mem_cons.mpr ⟨pf_Ro_29, List.forall_mem_cons.mpr ⟨pf_Ro_32, List.forall_mem_cons.mpr ⟨pf_Ro_35, List.forall_mem_cons.mpr ⟨pf_Ro_38, List.forall_mem_cons.mpr ⟨pf_Ro_41, List.forall_mem_cons.mpr ⟨pf_Ro_45, List.forall_mem_cons.mpr ⟨pf_Ro_49, List.forall_mem_cons.mpr ⟨pf_Ro_53, List.forall_mem_cons.mpr ⟨pf_Ro_56, List.forall_mem_cons.mpr ⟨pf_Ro_59, List.forall_mem_cons.mpr ⟨pf_Ro_62, List.forall_mem_cons.mpr ⟨pf_Ro_65, List.forall_mem_cons.mpr ⟨pf_Ro_68, List.forall_mem_nil _⟩⟩⟩⟩⟩⟩⟩⟩⟩⟩⟩⟩⟩⟩⟩⟩⟩⟩, List.forall_mem_cons.mpr ⟨cl_obj rfl wm_1865 wm_31 wm_32, List.forall_mem_nil _⟩, List.forall_mem_cons.mpr ⟨kx_Ro_0_52, List.forall_mem_nil _⟩, List.forall_mem_cons.mpr ⟨wm_387, List.forall_mem_cons.mpr ⟨wm_193, List.forall_mem_cons.mpr ⟨wm_193, List.forall_mem_cons.mpr ⟨wm_193, List.forall_mem_cons.mpr ⟨wm_193, List.forall_mem_cons.mpr ⟨wm_193, List.forall_mem_cons.mpr ⟨wm_193, List.forall_mem_nil _⟩⟩⟩⟩⟩⟩⟩, GG_pl⟩ (by decide +kernel)
def o_Ro_nextStep_0 : or_T := (1000000, 0, [], [], [], [], [], [], [])
theorem oo_Ro_nextStep_0 {kA : Nat → ClassId} : or_ok PRD kA GG o_Ro_nextStep_0 := fun _ _ _ _ _ _ _ _ _ _ => ⟨fun q h => (by cases h), [], trivial, fun f h => (by cases h), fun q h => (by cases h)⟩
def n_Ro_nextStep_an : List an_T := [(3, [(0, (2, 0, 0, [9])), (1, (0, 0, 5999, [])), (2, (0, (Int.negSucc 0), 3, [])), (3, (0, (Int.negSucc 2147483647), 1000000000, [])), (4, (0, 0, 4, []))], [], (0, 0), [(0, 0, 99997), (1, 4, 4), (0, 0, 100000)], [], [], [], 0, [], [(20, [0], [50, 2, 0, 4, 5, 2, 7, 0, 2, 0, 1, 2, 0, 4, 2, 7, 0, 2, 0, 1, 2, 0, 5, 0, 8, 6, 3, 2, 0, 4, 2, 0, 5, 0, 6000]), (20, [1, 0], [50, 2, 0, 1004, 1005, 0, 6, 4, 2, 1, 0, 0, 1, 6, 3, 2, 1, 4, 2, 1, 5])])]
def t_Ro_nextStep_ct : ct_L := [(1, 144, e_Ro_next)]
set_option maxRecDepth 100000 in
theorem c_Ro_nextStep {l : Launch} {D : va_G} {kA : Nat → ClassId} (h_Ro_next : ct_ok PRD l D kA GG y_Ro_next z_Ro_next e_Ro_next) : ct_ok PRD l D kA GG y_Ro_nextStep z_Ro_nextStep e_Ro_nextStep := chk_all_ok (FT := [(41, 9, 9), (45, 9, 10)]) (PT := []) (CT := t_Ro_nextStep_ct) (KT := []) (NT := []) (AN := n_Ro_nextStep_an) (OT := [o_Ro_nextStep_0]) 3 440 (List.forall_mem_cons.mpr ⟨oo_Ro_nextStep_0, List.forall_mem_nil _⟩) (by decide +kernel) ⟨List.forall_mem_cons.mpr ⟨gf_Ro_41, List.forall_mem_cons.mpr ⟨gf_Ro_45, List.forall_mem_nil _⟩⟩, List.forall_mem_nil _, List.forall_mem_cons.mpr ⟨cl_virtual (y := y_Ro_next) (ci := 9) rfl rfl ⟨_, _, rfl⟩ (by decide +kernel) h_Ro_next wm_1961 wm_22 wm_1958 wm_1960 wv_9_6 ⟨by decide, by decide, by decide +kernel⟩ (by decide), List.forall_mem_nil _⟩, List.forall_mem_nil _, List.forall_mem_nil _, GG_pl⟩ (by decide +kernel)
def n_St_init_an : List an_T := []
def t_St_init_ct : ct_L := [(8, 3, e_acp_17)]
set_option maxRecDepth 100000 in
theorem c_St_init {l : Launch} {D : va_G} {kA : Nat → ClassId} : ct_ok PRD l D kA GG y_St_init z_St_init e_St_init := chk_all_ok (FT := []) (PT := [(9, 10, 0, .int), (15, 10, 1, .int), (18, 10, 2, .array .int), (22, 10, 3, .array .int), (25, 10, 4, .array .int), (28, 10, 5, .array .int), (31, 10, 6, .array .int), (34, 10, 7, .array .int), (37, 10, 8, .array .int)]) (CT := t_St_init_ct) (KT := []) (NT := [(18, 118, .int), (27, 119, .int), (36, 120, .int), (45, 121, .int), (53, 122, .int), (61, 123, .int), (69, 124, .int)]) (AN := n_St_init_an) (OT := []) 0 200 (List.forall_mem_nil _) (by decide +kernel) ⟨List.forall_mem_nil _, List.forall_mem_cons.mpr ⟨pf_St_9, List.forall_mem_cons.mpr ⟨pf_St_15, List.forall_mem_cons.mpr ⟨pf_St_18, List.forall_mem_cons.mpr ⟨pf_St_22, List.forall_mem_cons.mpr ⟨pf_St_25, List.forall_mem_cons.mpr ⟨pf_St_28, List.forall_mem_cons.mpr ⟨pf_St_31, List.forall_mem_cons.mpr ⟨pf_St_34, List.forall_mem_cons.mpr ⟨pf_St_37, List.forall_mem_nil _⟩⟩⟩⟩⟩⟩⟩⟩⟩, List.forall_mem_cons.mpr ⟨cl_obj rfl wm_1197 wm_31 wm_32, List.forall_mem_nil _⟩, List.forall_mem_nil _, List.forall_mem_cons.mpr ⟨wm_193, List.forall_mem_cons.mpr ⟨wm_193, List.forall_mem_cons.mpr ⟨wm_193, List.forall_mem_cons.mpr ⟨wm_193, List.forall_mem_cons.mpr ⟨wm_193, List.forall_mem_cons.mpr ⟨wm_193, List.forall_mem_cons.mpr ⟨wm_193, List.forall_mem_nil _⟩⟩⟩⟩⟩⟩⟩, GG_pl⟩ (by decide +kernel)
def o_St_addGap_at_gx_0 : or_T := (1000000, 0, [], [], [], [], [], [], [])
theorem oo_St_addGap_at_gx_0 {kA : Nat → ClassId} : or_ok PRD kA GG o_St_addGap_at_gx_0 := fun _ _ _ _ _ _ _ _ _ _ => ⟨fun q h => (by cases h), [], trivial, fun f h => (by cases h), fun q h => (by cases h)⟩
def n_St_addGap_at_gx_an : List an_T := []
def t_St_addGap_at_gx_ct : ct_L := [(22, 40, e_St_addArc_at_gx), (49, 40, e_St_addArc_at_gx)]
set_option maxRecDepth 100000 in
theorem c_St_addGap_at_gx {l : Launch} {D : va_G} {kA : Nat → ClassId} (h_St_addArc_at_gx : ct_ok PRD l D kA GG y_St_addArc_at_gx z_St_addArc_at_gx e_St_addArc_at_gx) : ct_ok PRD l D kA GG y_St_addGap_at_gx z_St_addGap_at_gx e_St_addGap_at_gx := chk_all_ok (FT := []) (PT := []) (CT := t_St_addGap_at_gx_ct) (KT := [(0, 44, .int (1000000000), (0, 1000000000, 1000000000, []))]) (NT := []) (AN := n_St_addGap_at_gx_an) (OT := [o_St_addGap_at_gx_0]) 0 200 (List.forall_mem_cons.mpr ⟨oo_St_addGap_at_gx_0, List.forall_mem_nil _⟩) (by decide +kernel) ⟨List.forall_mem_nil _, List.forall_mem_nil _, List.forall_mem_cons.mpr ⟨cl_virtual (y := y_St_addArc_at_gx) (ci := 10) rfl rfl ⟨_, _, rfl⟩ (by decide +kernel) h_St_addArc_at_gx wm_1333 wm_19 wm_1330 wm_1332 wv_4_11 ⟨by decide, by decide, by decide +kernel⟩ (by decide), List.forall_mem_cons.mpr ⟨cl_virtual (y := y_St_addArc_at_gx) (ci := 10) rfl rfl ⟨_, _, rfl⟩ (by decide +kernel) h_St_addArc_at_gx wm_1333 wm_19 wm_1330 wm_1332 wv_4_11 ⟨by decide, by decide, by decide +kernel⟩ (by decide), List.forall_mem_nil _⟩⟩, List.forall_mem_cons.mpr ⟨kx_St_0_44, List.forall_mem_nil _⟩, List.forall_mem_nil _, GG_pl⟩ (by decide +kernel)
def o_St_addPiece_at_gx_0 : or_T := (1000000, 0, [], [], [], [], [], [], [])
theorem oo_St_addPiece_at_gx_0 {kA : Nat → ClassId} : or_ok PRD kA GG o_St_addPiece_at_gx_0 := fun _ _ _ _ _ _ _ _ _ _ => ⟨fun q h => (by cases h), [], trivial, fun f h => (by cases h), fun q h => (by cases h)⟩
def n_St_addPiece_at_gx_an : List an_T := []
def t_St_addPiece_at_gx_ct : ct_L := [(19, 40, e_St_addArc_at_gx), (43, 40, e_St_addArc_at_gx)]
set_option maxRecDepth 100000 in
theorem c_St_addPiece_at_gx {l : Launch} {D : va_G} {kA : Nat → ClassId} (h_St_addArc_at_gx : ct_ok PRD l D kA GG y_St_addArc_at_gx z_St_addArc_at_gx e_St_addArc_at_gx) : ct_ok PRD l D kA GG y_St_addPiece_at_gx z_St_addPiece_at_gx e_St_addPiece_at_gx := chk_all_ok (FT := []) (PT := []) (CT := t_St_addPiece_at_gx_ct) (KT := []) (NT := []) (AN := n_St_addPiece_at_gx_an) (OT := [o_St_addPiece_at_gx_0]) 0 200 (List.forall_mem_cons.mpr ⟨oo_St_addPiece_at_gx_0, List.forall_mem_nil _⟩) (by decide +kernel) ⟨List.forall_mem_nil _, List.forall_mem_nil _, List.forall_mem_cons.mpr ⟨cl_virtual (y := y_St_addArc_at_gx) (ci := 10) rfl rfl ⟨_, _, rfl⟩ (by decide +kernel) h_St_addArc_at_gx wm_1333 wm_19 wm_1330 wm_1332 wv_4_11 ⟨by decide, by decide, by decide +kernel⟩ (by decide), List.forall_mem_cons.mpr ⟨cl_virtual (y := y_St_addArc_at_gx) (ci := 10) rfl rfl ⟨_, _, rfl⟩ (by decide +kernel) h_St_addArc_at_gx wm_1333 wm_19 wm_1330 wm_1332 wv_4_11 ⟨by decide, by decide, by decide +kernel⟩ (by decide), List.forall_mem_nil _⟩⟩, List.forall_mem_nil _, List.forall_mem_nil _, GG_pl⟩ (by decide +kernel)
def n_Sy_init_an : List an_T := []
def t_Sy_init_ct : ct_L := [(8, 3, e_acp_18), (1000000, 40, en_ro [] (2, 0, 0, [5004]))]
set_option maxRecDepth 100000 in
theorem c_Sy_init {l : Launch} {D : va_G} {kA : Nat → ClassId} : ct_ok PRD l D kA GG y_Sy_init z_Sy_init e_Sy_init := chk_all_ok (FT := []) (PT := [(9, 11, 0, .int), (15, 11, 1, .int), (18, 11, 2, .int), (21, 11, 3, .array .byte), (25, 11, 4, .int), (28, 11, 5, .int), (31, 11, 6, .int), (34, 11, 7, .int), (37, 11, 8, .int), (42, 11, 9, .object "java/lang/String"), (46, 11, 10, .array .int), (50, 11, 11, .int), (53, 11, 12, .array .int), (56, 11, 13, .array .int), (59, 11, 14, .array .long), (63, 11, 15, .int), (66, 11, 16, .array .long)]) (CT := t_Sy_init_ct) (KT := []) (NT := [(59, 126, .int), (72, 127, .int), (80, 128, .int), (88, 129, .long), (101, 130, .long)]) (AN := n_Sy_init_an) (OT := []) 0 236 (List.forall_mem_nil _) (by decide +kernel) ⟨List.forall_mem_nil _, List.forall_mem_cons.mpr ⟨pf_Sy_9, List.forall_mem_cons.mpr ⟨pf_Sy_15, List.forall_mem_cons.mpr ⟨pf_Sy_18, List.forall_mem_cons.mpr ⟨pf_Sy_21, List.forall_mem_cons.mpr ⟨pf_Sy_25, List.forall_mem_cons.mpr ⟨pf_Sy_28, List.forall_mem_cons.mpr ⟨pf_Sy_31, List.forall_mem_cons.mpr ⟨pf_Sy_34, List.forall_mem_cons.mpr ⟨pf_Sy_37, List.forall_mem_cons.mpr ⟨pf_Sy_42, List.forall_mem_cons.mpr ⟨pf_Sy_46, List.forall_mem_cons.mpr ⟨pf_Sy_50, List.forall_mem_cons.mpr ⟨pf_Sy_53, List.forall_mem_cons.mpr ⟨pf_Sy_56, List.forall_mem_cons.mpr ⟨pf_Sy_59, List.forall_mem_cons.mpr ⟨pf_Sy_63, List.forall_mem_cons.mpr ⟨pf_Sy_66, List.forall_mem_nil _⟩⟩⟩⟩⟩⟩⟩⟩⟩⟩⟩⟩⟩⟩⟩⟩⟩, List.forall_mem_cons.mpr ⟨cl_obj rfl wm_2094 wm_31 wm_32, List.forall_mem_cons.mpr ⟨cl_ldc (own := "DrawingHouse$Styler") (idx := 40) (i := 4) (tx := "deg in out size group far core cut x y ") (by decide +kernel) (by decide +kernel) (by decide +kernel), List.forall_mem_nil _⟩⟩, List.forall_mem_nil _, List.forall_mem_cons.mpr ⟨wm_193, List.forall_mem_cons.mpr ⟨wm_193, List.forall_mem_cons.mpr ⟨wm_193, List.forall_mem_cons.mpr ⟨wm_1683, List.forall_mem_cons.mpr ⟨wm_1683, List.forall_mem_nil _⟩⟩⟩⟩⟩, GG_pl⟩ (by decide +kernel)
def o_Sy_join_0 : or_T := (70, 4, [(2, (1, -9223372036854775808, 9223372036854775807, [])), (3, (1, 0, 0, []))], [(7, [2, 3], [1])], [], [], [(8, [2], [1])], [], [])
theorem oo_Sy_join_0 {kA : Nat → ClassId} : or_ok PRD kA GG o_Sy_join_0 := by
  refine or_mk fun A ta ws vs hD hth hl => ?_
  intro t2 k2 t3 k3 f0
  replace f0 := shm_40 f0
  have nf0 : fc_1 PRD (8, [2], [1]) ws (vs) := by
    refine ⟨nf_in hl rfl, sgq_142 ?_⟩
    · show v_iv (n_v vs 2) ≠ 0
      omega
  refine ⟨(fun _ h => (by cases h)), [], trivial, ?_, (fun _ h => (by cases h))⟩
  rw [List.append_nil]
  exact List.forall_mem_cons.mpr ⟨⟨show (8 : Nat) < 100 from by decide, nf0⟩, (fun _ h => (by cases h))⟩
def n_Sy_join_an : List an_T := []
def t_Sy_join_ct : ct_L := [(219, 274, e_jMath_floorDiv2_v51)]
set_option maxRecDepth 100000 in
theorem c_Sy_join {l : Launch} {D : va_G} {kA : Nat → ClassId} : ct_ok PRD l D kA GG y_Sy_join z_Sy_join e_Sy_join := chk_all_ok (FT := []) (PT := []) (CT := t_Sy_join_ct) (KT := []) (NT := []) (AN := n_Sy_join_an) (OT := [o_Sy_join_0]) 0 224 (List.forall_mem_cons.mpr ⟨oo_Sy_join_0, List.forall_mem_nil _⟩) (by decide +kernel) ⟨List.forall_mem_nil _, List.forall_mem_nil _, List.forall_mem_cons.mpr ⟨cl_static (y := y_jMath_floorDiv2) c_jMath_floorDiv2_v51 wm_1800 wm_10 wm_2316 wm_1799 ⟨by decide, by decide, by decide +kernel⟩ (by decide), List.forall_mem_nil _⟩, List.forall_mem_nil _, List.forall_mem_nil _, GG_pl⟩ (by decide +kernel)
def n_Mo_blocksOf_an : List an_T := [(4, [(0, (2, 0, 0, [165])), (1, (0, 0, 23, [])), (2, (0, (Int.negSucc 2147483647), 2147483647, [])), (3, (0, 0, 48, []))], [], (0, 0), [(0, 0, 99996), (1, 3, 48), (0, 0, 100000), (0, 0, 0), (0, 0, 0)], [], [], [], 0, [], []), (16, [(0, (2, 0, 0, [165])), (1, (0, 0, 23, [])), (2, (0, (Int.negSucc 2147483647), 2147483647, [])), (3, (0, 0, 47, [])), (4, (0, 0, 1, [])), (5, (0, 0, 80, []))], [], (0, 0), [(0, 0, 99996), (1, 3, 48), (0, 0, 99984), (1, 5, 80), (0, 0, 100000)], [], [], [], 0, [], [])]
def t_Mo_blocksOf_ct : ct_L := [(1, 600, e_Mo_at1)]
set_option maxRecDepth 100000 in
theorem c_Mo_blocksOf {l : Launch} {D : va_G} {kA : Nat → ClassId} (h_Mo_at1 : ct_ok PRD l D kA GG y_Mo_at1 z_Mo_at1 e_Mo_at1) : ct_ok PRD l D kA GG y_Mo_blocksOf z_Mo_blocksOf e_Mo_blocksOf := chk_all_ok (FT := [(32, 13, 17), (597, 13, 32)]) (PT := []) (CT := t_Mo_blocksOf_ct) (KT := []) (NT := []) (AN := n_Mo_blocksOf_an) (OT := []) 5 252 (List.forall_mem_nil _) (by decide +kernel) ⟨List.forall_mem_cons.mpr ⟨gf_Mo_32, List.forall_mem_cons.mpr ⟨gf_Mo_597, List.forall_mem_nil _⟩⟩, List.forall_mem_nil _, List.forall_mem_cons.mpr ⟨cl_virtual (y := y_Mo_at1) (ci := 13) rfl rfl ⟨_, _, rfl⟩ (by decide +kernel) h_Mo_at1 wm_3159 wm_9 wm_3156 wm_3158 wv_14_15 ⟨by decide, by decide, by decide +kernel⟩ (by decide), List.forall_mem_nil _⟩, List.forall_mem_nil _, List.forall_mem_nil _, GG_pl⟩ (by decide +kernel)
def o_Mo_dart_0 : or_T := (23, 9, [(1, (0, 0, 79, [])), (2, (0, 2, 2, [])), (3, (0, 0, 158, [])), (7, (0, 1, 1, [])), (8, (0, 1, 159, []))], [(1, [8, 3, 7], []), (3, [3, 2, 1], [])], [], [], [(23, [8, 1], [1, 1, -2]), (23, [8, 1], [0, -1, 2])], [], [(8, 3, 1, 1)])
theorem oo_Mo_dart_0 {kA : Nat → ClassId} : or_ok PRD kA GG o_Mo_dart_0 := by
  refine or_mk fun A ta ws vs hD hth hl => ?_
  intro t1 k1 t2 k2 t3 k3 t7 k7 t8 k8 d0 f0 f1
  replace f0 := shm_12 f0
  replace f1 := shm_38 f1
  rw [show v_iv (n_v vs 2) = 2 from by omega] at f1
  have nf0 : fc_1 PRD (23, [8, 1], [1, 1, -2]) ws (vs) := by
    refine ⟨nf_in hl rfl, sgq_143 ?_⟩
    · show 1 * v_iv (n_v vs 8) + ((-2) * v_iv (n_v vs 1) + 0) ≤ 1
      omega
  have nf1 : fc_1 PRD (23, [8, 1], [0, -1, 2]) ws (vs) := by
    refine ⟨nf_in hl rfl, sgq_144 ?_⟩
    · show (-1) * v_iv (n_v vs 8) + (2 * v_iv (n_v vs 1) + 0) ≤ 0
      omega
  refine ⟨(fun _ h => (by cases h)), [], trivial, ?_, (fun _ h => (by cases h))⟩
  rw [List.append_nil]
  exact List.forall_mem_cons.mpr ⟨⟨show (23 : Nat) < 100 from by decide, nf0⟩, List.forall_mem_cons.mpr ⟨⟨show (23 : Nat) < 100 from by decide, nf1⟩, (fun _ h => (by cases h))⟩⟩
def o_Mo_dart_1 : or_T := (23, 9, [(1, (0, 0, 79, [])), (2, (0, 2, 2, [])), (3, (0, 0, 158, [])), (7, (0, 0, 0, [])), (8, (0, 0, 158, []))], [(1, [8, 3, 7], []), (3, [3, 2, 1], [])], [], [], [(23, [8, 1], [1, 1, -2]), (23, [8, 1], [0, -1, 2])], [], [(8, 3, 0, 0)])
theorem oo_Mo_dart_1 {kA : Nat → ClassId} : or_ok PRD kA GG o_Mo_dart_1 := by
  refine or_mk fun A ta ws vs hD hth hl => ?_
  intro t1 k1 t2 k2 t3 k3 t7 k7 t8 k8 d0 f0 f1
  replace f0 := shm_12 f0
  replace f1 := shm_38 f1
  rw [show v_iv (n_v vs 2) = 2 from by omega] at f1
  have nf0 : fc_1 PRD (23, [8, 1], [1, 1, -2]) ws (vs) := by
    refine ⟨nf_in hl rfl, sgq_143 ?_⟩
    · show 1 * v_iv (n_v vs 8) + ((-2) * v_iv (n_v vs 1) + 0) ≤ 1
      omega
  have nf1 : fc_1 PRD (23, [8, 1], [0, -1, 2]) ws (vs) := by
    refine ⟨nf_in hl rfl, sgq_144 ?_⟩
    · show (-1) * v_iv (n_v vs 8) + (2 * v_iv (n_v vs 1) + 0) ≤ 0
      omega
  refine ⟨(fun _ h => (by cases h)), [], trivial, ?_, (fun _ h => (by cases h))⟩
  rw [List.append_nil]
  exact List.forall_mem_cons.mpr ⟨⟨show (23 : Nat) < 100 from by decide, nf0⟩, List.forall_mem_cons.mpr ⟨⟨show (23 : Nat) < 100 from by decide, nf1⟩, (fun _ h => (by cases h))⟩⟩
def n_Mo_dart_an : List an_T := []
def t_Mo_dart_ct : ct_L := [(1, 919, e_Mo_low)]
set_option maxRecDepth 100000 in
theorem c_Mo_dart {l : Launch} {D : va_G} {kA : Nat → ClassId} (h_Mo_low : ct_ok PRD l D kA GG y_Mo_low z_Mo_low e_Mo_low) : ct_ok PRD l D kA GG y_Mo_dart z_Mo_dart e_Mo_dart := chk_all_ok (FT := [(57, 13, 33)]) (PT := []) (CT := t_Mo_dart_ct) (KT := []) (NT := []) (AN := n_Mo_dart_an) (OT := [o_Mo_dart_0, o_Mo_dart_1]) 0 200 (List.forall_mem_cons.mpr ⟨oo_Mo_dart_0, List.forall_mem_cons.mpr ⟨oo_Mo_dart_1, List.forall_mem_nil _⟩⟩) (by decide +kernel) ⟨List.forall_mem_cons.mpr ⟨gf_Mo_57, List.forall_mem_nil _⟩, List.forall_mem_nil _, List.forall_mem_cons.mpr ⟨cl_virtual (y := y_Mo_low) (ci := 13) rfl rfl ⟨_, _, rfl⟩ (by decide +kernel) h_Mo_low wm_3542 wm_9 wm_3539 wm_3541 wv_20_5 ⟨by decide, by decide, by decide +kernel⟩ (by decide), List.forall_mem_nil _⟩, List.forall_mem_nil _, List.forall_mem_nil _, GG_pl⟩ (by decide +kernel)
def n_Mo_dot_an : List an_T := []
def t_Mo_dot_ct : ct_L := [(0, 387, e_Mo_in)]
set_option maxRecDepth 100000 in
theorem c_Mo_dot {l : Launch} {D : va_G} {kA : Nat → ClassId} (h_Mo_in : ct_ok PRD l D kA GG y_Mo_in z_Mo_in e_Mo_in) : ct_ok PRD l D kA GG y_Mo_dot z_Mo_dot e_Mo_dot := chk_all_ok (FT := [(369, 13, 175), (1329, 13, 173), (1332, 13, 174)]) (PT := []) (CT := t_Mo_dot_ct) (KT := []) (NT := []) (AN := n_Mo_dot_an) (OT := []) 0 200 (List.forall_mem_nil _) (by decide +kernel) ⟨List.forall_mem_cons.mpr ⟨gf_Mo_369, List.forall_mem_cons.mpr ⟨gf_Mo_1329, List.forall_mem_cons.mpr ⟨gf_Mo_1332, List.forall_mem_nil _⟩⟩⟩, List.forall_mem_nil _, List.forall_mem_cons.mpr ⟨cl_static (y := y_Mo_in) h_Mo_in wm_2971 wm_9 wm_2969 wm_2970 ⟨by decide, by decide, by decide +kernel⟩ (by decide), List.forall_mem_nil _⟩, List.forall_mem_nil _, List.forall_mem_nil _, GG_pl⟩ (by decide +kernel)
set_option maxHeartbeats 4000000 in
theorem vc_Mo_dotX_0_r0 (x1 : Int) (x2 : Int) (x3 : Int) (x4 : Int) (x5 : Int) (leastX_0 : Int) (k1 : (-300000011) ≤ x1 ∧ x1 ≤ 300000000) (k2 : (-300000011) ≤ x2 ∧ x2 ≤ 300000000) (k3 : (-2147483648) ≤ x3 ∧ x3 ≤ 300000000) (k4 : (-2147483648) ≤ x4 ∧ x4 ≤ 300000000) (k5 : (-600000011) ≤ x5 ∧ x5 ≤ 2447483648) (f0 : x5 = x2 - x4) (f1 : x4 = x3) (g2 : x3 = leastX_0) (f3 : x2 = x1) (f4 : 1 * leastX_0 + ((-1) * x1 + 0) ≤ 0) (kz_0_153 : (-2147483648) ≤ leastX_0 ∧ leastX_0 ≤ 300000000) : 0 ≤ x5 ∧ x5 ≤ 2447483648 := by
  first | assumption | omega | grind
def o_Mo_dotX_0 : or_T := (8, 6, [(0, (2, 0, 0, [165])), (1, (0, -300000011, 300000000, [])), (2, (1, -300000011, 300000000, [])), (3, (0, -2147483648, 300000000, [])), (4, (1, -2147483648, 300000000, [])), (5, (1, -600000011, 2447483648, []))], [(2, [5, 2, 4], []), (22, [4, 3], []), (9, [3, 0], [153]), (22, [2, 1], []), (20, [0, 1], [30, 0, 1, 1, 153, -1, 0, 0]), (20, [1, 0], [30, 0, 1, 0, 0, -1, 1, 154]), (20, [0], [30, -1, -1, 1, 173]), (20, [0], [30, 64, 1, 1, 173])], [(5, (1, 0, 2447483648, []))], [], [], [], [])
theorem oo_Mo_dotX_0 {kA : Nat → ClassId} : or_ok PRD kA GG o_Mo_dotX_0 := by
  refine or_mk fun A ta ws vs hD hth hl => ?_
  intro t0 r0 t1 k1 t2 k2 t3 k3 t4 k4 t5 k5 f0 f1 f2 f3 f4 f5 f6 f7
  replace f2 := shm_145 f2
  have g2 : v_iv (n_v vs 3) = w_fi ws (n_v vs 0) 153 := congrArg v_iv f2
  have kz_0_153 := fdq_14 hD hth r0
  have hrf0 : 0 ≤ v_iv (n_v vs 5) ∧ v_iv (n_v vs 5) ≤ 2447483648 := vc_Mo_dotX_0_r0 (v_iv (n_v vs 1)) (v_iv (n_v vs 2)) (v_iv (n_v vs 3)) (v_iv (n_v vs 4)) (v_iv (n_v vs 5)) (w_fi ws (n_v vs 0) 153) k1 k2 k3 k4 k5 (shm_14 f0) (shm_47 f1) g2 (shm_47 f3) (shm_146 f4) kz_0_153
  have rf5 : tv_ok ta (1, 0, 2447483648, []) (n_v vs 5) := tv_inL t5 (by omega) (by omega)
  refine ⟨List.forall_mem_cons.mpr ⟨rf5, (fun _ h => (by cases h))⟩, [], trivial, ?_, (fun _ h => (by cases h))⟩
  rw [List.append_nil]
  exact (fun _ h => (by cases h))
set_option maxHeartbeats 4000000 in
theorem vc_Mo_dotX_1_r0 (x6 : Int) (x8 : Int) (dotWide_0 : Int) (k6 : 0 ≤ x6 ∧ x6 ≤ 64) (k8 : (-1) ≤ x8 ∧ x8 ≤ 63) (d0 : x6 + (-1) ≤ x8 ∧ x8 ≤ x6 + (-1)) (g1 : x6 = dotWide_0) (f8 : (-1) * dotWide_0 + 0 ≤ (-1)) (kz_0_173 : 0 ≤ dotWide_0 ∧ dotWide_0 ≤ 64) : 0 ≤ x8 ∧ x8 ≤ 63 := by
  first | assumption | omega | grind
def o_Mo_dotX_1 : or_T := (14, 9, [(0, (2, 0, 0, [165])), (1, (0, -300000011, 300000000, [])), (2, (1, -300000011, 300000000, [])), (3, (0, -2147483648, 300000000, [])), (4, (1, -2147483648, 300000000, [])), (5, (1, 0, 2447483648, [])), (6, (0, 0, 64, [])), (7, (0, 1, 1, [])), (8, (0, -1, 63, []))], [(2, [8, 6, 7], []), (9, [6, 0], [173]), (2, [5, 2, 4], []), (22, [4, 3], []), (9, [3, 0], [153]), (22, [2, 1], []), (20, [0, 1], [30, 0, 1, 1, 153, -1, 0, 0]), (20, [1, 0], [30, 0, 1, 0, 0, -1, 1, 154]), (20, [0], [30, -1, -1, 1, 173]), (20, [0], [30, 64, 1, 1, 173])], [(8, (0, 0, 63, []))], [], [], [], [(8, 6, -1, -1)])
theorem oo_Mo_dotX_1 {kA : Nat → ClassId} : or_ok PRD kA GG o_Mo_dotX_1 := by
  refine or_mk fun A ta ws vs hD hth hl => ?_
  intro t0 r0 t1 k1 t2 k2 t3 k3 t4 k4 t5 k5 t6 k6 t7 k7 t8 k8 d0 f0 f1 f2 f3 f4 f5 f6 f7 f8 f9
  replace f1 := shm_150 f1
  have g1 : v_iv (n_v vs 6) = w_fi ws (n_v vs 0) 173 := congrArg v_iv f1
  have kz_0_173 := fdq_16 hD hth r0
  have hrf0 : 0 ≤ v_iv (n_v vs 8) ∧ v_iv (n_v vs 8) ≤ 63 := vc_Mo_dotX_1_r0 (v_iv (n_v vs 6)) (v_iv (n_v vs 8)) (w_fi ws (n_v vs 0) 173) k6 k8 d0 g1 (shm_148 f8) kz_0_173
  have rf8 : tv_ok ta (0, 0, 63, []) (n_v vs 8) := tv_in t8 (by omega) (by omega)
  refine ⟨List.forall_mem_cons.mpr ⟨rf8, (fun _ h => (by cases h))⟩, [], trivial, ?_, (fun _ h => (by cases h))⟩
  rw [List.append_nil]
  exact (fun _ h => (by cases h))
def o_Mo_dotX_2 : or_T := (32, 18, [(0, (2, 0, 0, [165])), (1, (0, -300000011, 300000000, [])), (2, (1, -300000011, 300000000, [])), (3, (0, -2147483648, 300000000, [])), (4, (1, -2147483648, 300000000, [])), (5, (1, 0, 2447483648, [])), (6, (0, 0, 64, [])), (7, (0, 1, 1, [])), (8, (0, 0, 63, [])), (9, (1, 0, 63, [])), (10, (1, 0, 154191469824, [])), (11, (1, 1, 1, [])), (12, (0, -900000000, 2147483647, [])), (13, (1, -900000000, 2147483647, [])), (14, (1, -2147483648, 300000000, [])), (15, (1, -1200000000, 4294967295, [])), (16, (1, 1, 4294967295, [])), (17, (1, 0, 154191469824, []))], [(4, [17, 10, 16], []), (23, [11, 16], [0, 1, -1]), (23, [15, 16], [0, 1, -1]), (2, [15, 13, 14], []), (22, [14, 3], []), (9, [3, 0], [153]), (22, [13, 12], []), (9, [12, 0], [154]), (3, [10, 5, 9], []), (22, [9, 8], []), (2, [8, 6, 7], []), (9, [6, 0], [173]), (2, [5, 2, 4], []), (22, [4, 3], []), (22, [2, 1], []), (20, [0, 1], [30, 0, 1, 1, 153, -1, 0, 0]), (20, [1, 0], [30, 0, 1, 0, 0, -1, 1, 154]), (20, [0], [30, -1, -1, 1, 173]), (20, [0], [30, 64, 1, 1, 173])], [(17, (1, 0, 63, []))], [], [], [], [(8, 6, -1, -1)])
theorem oo_Mo_dotX_2 {kA : Nat → ClassId} : or_ok PRD kA GG o_Mo_dotX_2 := by
  refine or_mk fun A ta ws vs hD hth hl => ?_
  intro t0 r0 t1 k1 t2 k2 t3 k3 t4 k4 t5 k5 t6 k6 t7 k7 t8 k8 t9 k9 t10 k10 t11 k11 t12 k12 t13 k13 t14 k14 t15 k15 t16 k16 t17 k17 d0 f0 f1 f2 f3 f4 f5 f6 f7 f8 f9 f10 f11 f12 f13 f14 f15 f16 f17 f18
  replace f0 := shm_34 f0
  have fq0 : 10 ≤ v_iv (n_v vs 17) → 10 * v_iv (n_v vs 16) ≤ v_iv (n_v vs 10) := dv_ten f0 (by omega) (by omega)
  replace f1 := shm_7 f1
  replace f2 := shm_7 f2
  replace f3 := shm_14 f3
  replace f4 := shm_47 f4
  replace f5 := shm_145 f5
  replace f6 := shm_47 f6
  replace f7 := shm_151 f7
  replace f8 := shm_38 f8
  replace f9 := shm_47 f9
  replace f10 := shm_14 f10
  replace f11 := shm_150 f11
  replace f12 := shm_14 f12
  replace f13 := shm_47 f13
  replace f14 := shm_47 f14
  replace f15 := shm_146 f15
  replace f16 := shm_147 f16
  replace f17 := shm_148 f17
  replace f18 := shm_149 f18
  have g5 : v_iv (n_v vs 3) = w_fi ws (n_v vs 0) 153 := congrArg v_iv f5
  have g7 : v_iv (n_v vs 12) = w_fi ws (n_v vs 0) 154 := congrArg v_iv f7
  have g11 : v_iv (n_v vs 6) = w_fi ws (n_v vs 0) 173 := congrArg v_iv f11
  have kz_0_153 := fdq_14 hD hth r0
  have kz_0_154 := fdq_15 hD hth r0
  have kz_0_173 := fdq_16 hD hth r0
  first | have g2 := dot_in (a := v_iv (n_v vs 5)) (w := v_iv (n_v vs 9)) (D := v_iv (n_v vs 16)) (p := v_iv (n_v vs 10)) (q := v_iv (n_v vs 17)) (by assumption) (by assumption) (by omega) (by omega) (by omega) (by omega) | skip
  have rf17 : tv_ok ta (1, 0, 63, []) (n_v vs 17) := tv_inL t17 (by omega) (by omega)
  refine ⟨List.forall_mem_cons.mpr ⟨rf17, (fun _ h => (by cases h))⟩, [], trivial, ?_, (fun _ h => (by cases h))⟩
  rw [List.append_nil]
  exact (fun _ h => (by cases h))
def n_Mo_dotX_an : List an_T := []
def t_Mo_dotX_ct : ct_L := [(87, 1097, e_jMath_max2_v52)]
set_option maxRecDepth 100000 in
theorem c_Mo_dotX {l : Launch} {D : va_G} {kA : Nat → ClassId} : ct_ok PRD l D kA GG y_Mo_dotX z_Mo_dotX e_Mo_dotX := chk_all_ok (FT := [(1142, 13, 153), (1145, 13, 154), (1329, 13, 173)]) (PT := []) (CT := t_Mo_dotX_ct) (KT := []) (NT := []) (AN := n_Mo_dotX_an) (OT := [o_Mo_dotX_0, o_Mo_dotX_1, o_Mo_dotX_2]) 0 200 (List.forall_mem_cons.mpr ⟨oo_Mo_dotX_0, List.forall_mem_cons.mpr ⟨oo_Mo_dotX_1, List.forall_mem_cons.mpr ⟨oo_Mo_dotX_2, List.forall_mem_nil _⟩⟩⟩) (by decide +kernel) ⟨List.forall_mem_cons.mpr ⟨gf_Mo_1142, List.forall_mem_cons.mpr ⟨gf_Mo_1145, List.forall_mem_cons.mpr ⟨gf_Mo_1329, List.forall_mem_nil _⟩⟩⟩, List.forall_mem_nil _, List.forall_mem_cons.mpr ⟨cl_static (y := y_jMath_max2) c_jMath_max2_v52 wm_1750 wm_10 wm_3757 wm_1749 ⟨by decide, by decide, by decide +kernel⟩ (by decide), List.forall_mem_nil _⟩, List.forall_mem_nil _, List.forall_mem_nil _, GG_pl⟩ (by decide +kernel)
set_option maxHeartbeats 4000000 in
theorem vc_Mo_dotY_0_r0 (x1 : Int) (x2 : Int) (x3 : Int) (x4 : Int) (x5 : Int) (leastY_0 : Int) (k1 : (-900000000) ≤ x1 ∧ x1 ≤ 900000000) (k2 : (-900000000) ≤ x2 ∧ x2 ≤ 900000000) (k3 : (-2147483648) ≤ x3 ∧ x3 ≤ 300000000) (k4 : (-2147483648) ≤ x4 ∧ x4 ≤ 300000000) (k5 : (-1200000000) ≤ x5 ∧ x5 ≤ 3047483648) (f0 : x5 = x2 - x4) (f1 : x4 = x3) (g2 : x3 = leastY_0) (f3 : x2 = x1) (f4 : 1 * leastY_0 + ((-1) * x1 + 0) ≤ 0) (kz_0_155 : (-2147483648) ≤ leastY_0 ∧ leastY_0 ≤ 300000000) : 0 ≤ x5 ∧ x5 ≤ 3047483648 := by
  first | assumption | omega | grind
def o_Mo_dotY_0 : or_T := (8, 6, [(0, (2, 0, 0, [165])), (1, (0, -900000000, 900000000, [])), (2, (1, -900000000, 900000000, [])), (3, (0, -2147483648, 300000000, [])), (4, (1, -2147483648, 300000000, [])), (5, (1, -1200000000, 3047483648, []))], [(2, [5, 2, 4], []), (22, [4, 3], []), (9, [3, 0], [155]), (22, [2, 1], []), (20, [0, 1], [30, 0, 1, 1, 155, -1, 0, 0]), (20, [1, 0], [30, 0, 1, 0, 0, -1, 1, 156]), (20, [0], [30, -1, -1, 1, 174]), (20, [0], [30, 64, 1, 1, 174])], [(5, (1, 0, 3047483648, []))], [], [], [], [])
theorem oo_Mo_dotY_0 {kA : Nat → ClassId} : or_ok PRD kA GG o_Mo_dotY_0 := by
  refine or_mk fun A ta ws vs hD hth hl => ?_
  intro t0 r0 t1 k1 t2 k2 t3 k3 t4 k4 t5 k5 f0 f1 f2 f3 f4 f5 f6 f7
  replace f2 := shm_152 f2
  have g2 : v_iv (n_v vs 3) = w_fi ws (n_v vs 0) 155 := congrArg v_iv f2
  have kz_0_155 := fdq_17 hD hth r0
  have hrf0 : 0 ≤ v_iv (n_v vs 5) ∧ v_iv (n_v vs 5) ≤ 3047483648 := vc_Mo_dotY_0_r0 (v_iv (n_v vs 1)) (v_iv (n_v vs 2)) (v_iv (n_v vs 3)) (v_iv (n_v vs 4)) (v_iv (n_v vs 5)) (w_fi ws (n_v vs 0) 155) k1 k2 k3 k4 k5 (shm_14 f0) (shm_47 f1) g2 (shm_47 f3) (shm_153 f4) kz_0_155
  have rf5 : tv_ok ta (1, 0, 3047483648, []) (n_v vs 5) := tv_inL t5 (by omega) (by omega)
  refine ⟨List.forall_mem_cons.mpr ⟨rf5, (fun _ h => (by cases h))⟩, [], trivial, ?_, (fun _ h => (by cases h))⟩
  rw [List.append_nil]
  exact (fun _ h => (by cases h))
set_option maxHeartbeats 4000000 in
theorem vc_Mo_dotY_1_r0 (x6 : Int) (x8 : Int) (dotTall_0 : Int) (k6 : 0 ≤ x6 ∧ x6 ≤ 64) (k8 : (-1) ≤ x8 ∧ x8 ≤ 63) (d0 : x6 + (-1) ≤ x8 ∧ x8 ≤ x6 + (-1)) (g1 : x6 = dotTall_0) (f8 : (-1) * dotTall_0 + 0 ≤ (-1)) (kz_0_174 : 0 ≤ dotTall_0 ∧ dotTall_0 ≤ 64) : 0 ≤ x8 ∧ x8 ≤ 63 := by
  first | assumption | omega | grind
def o_Mo_dotY_1 : or_T := (14, 9, [(0, (2, 0, 0, [165])), (1, (0, -900000000, 900000000, [])), (2, (1, -900000000, 900000000, [])), (3, (0, -2147483648, 300000000, [])), (4, (1, -2147483648, 300000000, [])), (5, (1, 0, 3047483648, [])), (6, (0, 0, 64, [])), (7, (0, 1, 1, [])), (8, (0, -1, 63, []))], [(2, [8, 6, 7], []), (9, [6, 0], [174]), (2, [5, 2, 4], []), (22, [4, 3], []), (9, [3, 0], [155]), (22, [2, 1], []), (20, [0, 1], [30, 0, 1, 1, 155, -1, 0, 0]), (20, [1, 0], [30, 0, 1, 0, 0, -1, 1, 156]), (20, [0], [30, -1, -1, 1, 174]), (20, [0], [30, 64, 1, 1, 174])], [(8, (0, 0, 63, []))], [], [], [], [(8, 6, -1, -1)])
theorem oo_Mo_dotY_1 {kA : Nat → ClassId} : or_ok PRD kA GG o_Mo_dotY_1 := by
  refine or_mk fun A ta ws vs hD hth hl => ?_
  intro t0 r0 t1 k1 t2 k2 t3 k3 t4 k4 t5 k5 t6 k6 t7 k7 t8 k8 d0 f0 f1 f2 f3 f4 f5 f6 f7 f8 f9
  replace f1 := shm_157 f1
  have g1 : v_iv (n_v vs 6) = w_fi ws (n_v vs 0) 174 := congrArg v_iv f1
  have kz_0_174 := fdq_19 hD hth r0
  have hrf0 : 0 ≤ v_iv (n_v vs 8) ∧ v_iv (n_v vs 8) ≤ 63 := vc_Mo_dotY_1_r0 (v_iv (n_v vs 6)) (v_iv (n_v vs 8)) (w_fi ws (n_v vs 0) 174) k6 k8 d0 g1 (shm_155 f8) kz_0_174
  have rf8 : tv_ok ta (0, 0, 63, []) (n_v vs 8) := tv_in t8 (by omega) (by omega)
  refine ⟨List.forall_mem_cons.mpr ⟨rf8, (fun _ h => (by cases h))⟩, [], trivial, ?_, (fun _ h => (by cases h))⟩
  rw [List.append_nil]
  exact (fun _ h => (by cases h))
def o_Mo_dotY_2 : or_T := (32, 18, [(0, (2, 0, 0, [165])), (1, (0, -900000000, 900000000, [])), (2, (1, -900000000, 900000000, [])), (3, (0, -2147483648, 300000000, [])), (4, (1, -2147483648, 300000000, [])), (5, (1, 0, 3047483648, [])), (6, (0, 0, 64, [])), (7, (0, 1, 1, [])), (8, (0, 0, 63, [])), (9, (1, 0, 63, [])), (10, (1, 0, 191991469824, [])), (11, (1, 1, 1, [])), (12, (0, -900000000, 2147483647, [])), (13, (1, -900000000, 2147483647, [])), (14, (1, -2147483648, 300000000, [])), (15, (1, -1200000000, 4294967295, [])), (16, (1, 1, 4294967295, [])), (17, (1, 0, 191991469824, []))], [(4, [17, 10, 16], []), (23, [11, 16], [0, 1, -1]), (23, [15, 16], [0, 1, -1]), (2, [15, 13, 14], []), (22, [14, 3], []), (9, [3, 0], [155]), (22, [13, 12], []), (9, [12, 0], [156]), (3, [10, 5, 9], []), (22, [9, 8], []), (2, [8, 6, 7], []), (9, [6, 0], [174]), (2, [5, 2, 4], []), (22, [4, 3], []), (22, [2, 1], []), (20, [0, 1], [30, 0, 1, 1, 155, -1, 0, 0]), (20, [1, 0], [30, 0, 1, 0, 0, -1, 1, 156]), (20, [0], [30, -1, -1, 1, 174]), (20, [0], [30, 64, 1, 1, 174])], [(17, (1, 0, 63, []))], [], [], [], [(8, 6, -1, -1)])
theorem oo_Mo_dotY_2 {kA : Nat → ClassId} : or_ok PRD kA GG o_Mo_dotY_2 := by
  refine or_mk fun A ta ws vs hD hth hl => ?_
  intro t0 r0 t1 k1 t2 k2 t3 k3 t4 k4 t5 k5 t6 k6 t7 k7 t8 k8 t9 k9 t10 k10 t11 k11 t12 k12 t13 k13 t14 k14 t15 k15 t16 k16 t17 k17 d0 f0 f1 f2 f3 f4 f5 f6 f7 f8 f9 f10 f11 f12 f13 f14 f15 f16 f17 f18
  replace f0 := shm_34 f0
  have fq0 : 10 ≤ v_iv (n_v vs 17) → 10 * v_iv (n_v vs 16) ≤ v_iv (n_v vs 10) := dv_ten f0 (by omega) (by omega)
  replace f1 := shm_7 f1
  replace f2 := shm_7 f2
  replace f3 := shm_14 f3
  replace f4 := shm_47 f4
  replace f5 := shm_152 f5
  replace f6 := shm_47 f6
  replace f7 := shm_158 f7
  replace f8 := shm_38 f8
  replace f9 := shm_47 f9
  replace f10 := shm_14 f10
  replace f11 := shm_157 f11
  replace f12 := shm_14 f12
  replace f13 := shm_47 f13
  replace f14 := shm_47 f14
  replace f15 := shm_153 f15
  replace f16 := shm_154 f16
  replace f17 := shm_155 f17
  replace f18 := shm_156 f18
  have g5 : v_iv (n_v vs 3) = w_fi ws (n_v vs 0) 155 := congrArg v_iv f5
  have g7 : v_iv (n_v vs 12) = w_fi ws (n_v vs 0) 156 := congrArg v_iv f7
  have g11 : v_iv (n_v vs 6) = w_fi ws (n_v vs 0) 174 := congrArg v_iv f11
  have kz_0_155 := fdq_17 hD hth r0
  have kz_0_156 := fdq_18 hD hth r0
  have kz_0_174 := fdq_19 hD hth r0
  first | have g2 := dot_in (a := v_iv (n_v vs 5)) (w := v_iv (n_v vs 9)) (D := v_iv (n_v vs 16)) (p := v_iv (n_v vs 10)) (q := v_iv (n_v vs 17)) (by assumption) (by assumption) (by omega) (by omega) (by omega) (by omega) | skip
  have rf17 : tv_ok ta (1, 0, 63, []) (n_v vs 17) := tv_inL t17 (by omega) (by omega)
  refine ⟨List.forall_mem_cons.mpr ⟨rf17, (fun _ h => (by cases h))⟩, [], trivial, ?_, (fun _ h => (by cases h))⟩
  rw [List.append_nil]
  exact (fun _ h => (by cases h))
def n_Mo_dotY_an : List an_T := []
def t_Mo_dotY_ct : ct_L := [(87, 1097, e_jMath_max2_v52)]
set_option maxRecDepth 100000 in
theorem c_Mo_dotY {l : Launch} {D : va_G} {kA : Nat → ClassId} : ct_ok PRD l D kA GG y_Mo_dotY z_Mo_dotY e_Mo_dotY := chk_all_ok (FT := [(1148, 13, 155), (1151, 13, 156), (1332, 13, 174)]) (PT := []) (CT := t_Mo_dotY_ct) (KT := []) (NT := []) (AN := n_Mo_dotY_an) (OT := [o_Mo_dotY_0, o_Mo_dotY_1, o_Mo_dotY_2]) 0 200 (List.forall_mem_cons.mpr ⟨oo_Mo_dotY_0, List.forall_mem_cons.mpr ⟨oo_Mo_dotY_1, List.forall_mem_cons.mpr ⟨oo_Mo_dotY_2, List.forall_mem_nil _⟩⟩⟩) (by decide +kernel) ⟨List.forall_mem_cons.mpr ⟨gf_Mo_1148, List.forall_mem_cons.mpr ⟨gf_Mo_1151, List.forall_mem_cons.mpr ⟨gf_Mo_1332, List.forall_mem_nil _⟩⟩⟩, List.forall_mem_nil _, List.forall_mem_cons.mpr ⟨cl_static (y := y_jMath_max2) c_jMath_max2_v52 wm_1750 wm_10 wm_3757 wm_1749 ⟨by decide, by decide, by decide +kernel⟩ (by decide), List.forall_mem_nil _⟩, List.forall_mem_nil _, List.forall_mem_nil _, GG_pl⟩ (by decide +kernel)
def n_Mo_fault_an : List an_T := []
def t_Mo_fault_ct : ct_L := [(0, 387, e_Mo_in)]
set_option maxRecDepth 100000 in
theorem c_Mo_fault {l : Launch} {D : va_G} {kA : Nat → ClassId} (h_Mo_in : ct_ok PRD l D kA GG y_Mo_in z_Mo_in e_Mo_in) : ct_ok PRD l D kA GG y_Mo_fault z_Mo_fault e_Mo_fault := chk_all_ok (FT := [(409, 13, 7), (413, 13, 8), (416, 13, 9)]) (PT := []) (CT := t_Mo_fault_ct) (KT := []) (NT := []) (AN := n_Mo_fault_an) (OT := []) 0 200 (List.forall_mem_nil _) (by decide +kernel) ⟨List.forall_mem_cons.mpr ⟨gf_Mo_409, List.forall_mem_cons.mpr ⟨gf_Mo_413, List.forall_mem_cons.mpr ⟨gf_Mo_416, List.forall_mem_nil _⟩⟩⟩, List.forall_mem_nil _, List.forall_mem_cons.mpr ⟨cl_static (y := y_Mo_in) h_Mo_in wm_2971 wm_9 wm_2969 wm_2970 ⟨by decide, by decide, by decide +kernel⟩ (by decide), List.forall_mem_nil _⟩, List.forall_mem_nil _, List.forall_mem_nil _, GG_pl⟩ (by decide +kernel)
def n_Mo_isDigit_an : List an_T := []
def t_Mo_isDigit_ct : ct_L := [(0, 387, e_Mo_in)]
set_option maxRecDepth 100000 in
theorem c_Mo_isDigit {l : Launch} {D : va_G} {kA : Nat → ClassId} (h_Mo_in : ct_ok PRD l D kA GG y_Mo_in z_Mo_in e_Mo_in) : ct_ok PRD l D kA GG y_Mo_isDigit z_Mo_isDigit e_Mo_isDigit := chk_all_ok (FT := []) (PT := []) (CT := t_Mo_isDigit_ct) (KT := []) (NT := []) (AN := n_Mo_isDigit_an) (OT := []) 0 200 (List.forall_mem_nil _) (by decide +kernel) ⟨List.forall_mem_nil _, List.forall_mem_nil _, List.forall_mem_cons.mpr ⟨cl_static (y := y_Mo_in) h_Mo_in wm_2971 wm_9 wm_2969 wm_2970 ⟨by decide, by decide, by decide +kernel⟩ (by decide), List.forall_mem_nil _⟩, List.forall_mem_nil _, List.forall_mem_nil _, GG_pl⟩ (by decide +kernel)
def n_Mo_isLetter_an : List an_T := []
def t_Mo_isLetter_ct : ct_L := [(0, 387, e_Mo_in)]
set_option maxRecDepth 100000 in
theorem c_Mo_isLetter {l : Launch} {D : va_G} {kA : Nat → ClassId} (h_Mo_in : ct_ok PRD l D kA GG y_Mo_in z_Mo_in e_Mo_in) : ct_ok PRD l D kA GG y_Mo_isLetter z_Mo_isLetter e_Mo_isLetter := chk_all_ok (FT := []) (PT := []) (CT := t_Mo_isLetter_ct) (KT := []) (NT := []) (AN := n_Mo_isLetter_an) (OT := []) 0 200 (List.forall_mem_nil _) (by decide +kernel) ⟨List.forall_mem_nil _, List.forall_mem_nil _, List.forall_mem_cons.mpr ⟨cl_static (y := y_Mo_in) h_Mo_in wm_2971 wm_9 wm_2969 wm_2970 ⟨by decide, by decide, by decide +kernel⟩ (by decide), List.forall_mem_nil _⟩, List.forall_mem_nil _, List.forall_mem_nil _, GG_pl⟩ (by decide +kernel)
def n_Mo_isPlace_an : List an_T := []
def t_Mo_isPlace_ct : ct_L := [(0, 387, e_Mo_in)]
set_option maxRecDepth 100000 in
theorem c_Mo_isPlace {l : Launch} {D : va_G} {kA : Nat → ClassId} (h_Mo_in : ct_ok PRD l D kA GG y_Mo_in z_Mo_in e_Mo_in) : ct_ok PRD l D kA GG y_Mo_isPlace z_Mo_isPlace e_Mo_isPlace := chk_all_ok (FT := []) (PT := []) (CT := t_Mo_isPlace_ct) (KT := []) (NT := []) (AN := n_Mo_isPlace_an) (OT := []) 0 200 (List.forall_mem_nil _) (by decide +kernel) ⟨List.forall_mem_nil _, List.forall_mem_nil _, List.forall_mem_cons.mpr ⟨cl_static (y := y_Mo_in) h_Mo_in wm_2971 wm_9 wm_2969 wm_2970 ⟨by decide, by decide, by decide +kernel⟩ (by decide), List.forall_mem_nil _⟩, List.forall_mem_nil _, List.forall_mem_nil _, GG_pl⟩ (by decide +kernel)
def n_Mo_map_an : List an_T := []
def t_Mo_map_ct : ct_L := [(0, 387, e_Mo_in)]
set_option maxRecDepth 100000 in
theorem c_Mo_map {l : Launch} {D : va_G} {kA : Nat → ClassId} (h_Mo_in : ct_ok PRD l D kA GG y_Mo_in z_Mo_in e_Mo_in) : ct_ok PRD l D kA GG y_Mo_map z_Mo_map e_Mo_map := chk_all_ok (FT := [(51, 13, 23), (572, 13, 27), (575, 13, 30), (581, 13, 25), (584, 13, 26)]) (PT := []) (CT := t_Mo_map_ct) (KT := []) (NT := []) (AN := n_Mo_map_an) (OT := []) 0 200 (List.forall_mem_nil _) (by decide +kernel) ⟨List.forall_mem_cons.mpr ⟨gf_Mo_51, List.forall_mem_cons.mpr ⟨gf_Mo_572, List.forall_mem_cons.mpr ⟨gf_Mo_575, List.forall_mem_cons.mpr ⟨gf_Mo_581, List.forall_mem_cons.mpr ⟨gf_Mo_584, List.forall_mem_nil _⟩⟩⟩⟩⟩, List.forall_mem_nil _, List.forall_mem_cons.mpr ⟨cl_static (y := y_Mo_in) h_Mo_in wm_2971 wm_9 wm_2969 wm_2970 ⟨by decide, by decide, by decide +kernel⟩ (by decide), List.forall_mem_nil _⟩, List.forall_mem_nil _, List.forall_mem_nil _, GG_pl⟩ (by decide +kernel)
def n_Mo_octet_an : List an_T := []
def t_Mo_octet_ct : ct_L := [(0, 387, e_Mo_in)]
set_option maxRecDepth 100000 in
theorem c_Mo_octet {l : Launch} {D : va_G} {kA : Nat → ClassId} (h_Mo_in : ct_ok PRD l D kA GG y_Mo_in z_Mo_in e_Mo_in) : ct_ok PRD l D kA GG y_Mo_octet z_Mo_octet e_Mo_octet := chk_all_ok (FT := [(363, 13, 171), (1326, 13, 169)]) (PT := []) (CT := t_Mo_octet_ct) (KT := []) (NT := []) (AN := n_Mo_octet_an) (OT := []) 0 200 (List.forall_mem_nil _) (by decide +kernel) ⟨List.forall_mem_cons.mpr ⟨gf_Mo_363, List.forall_mem_cons.mpr ⟨gf_Mo_1326, List.forall_mem_nil _⟩⟩, List.forall_mem_nil _, List.forall_mem_cons.mpr ⟨cl_static (y := y_Mo_in) h_Mo_in wm_2971 wm_9 wm_2969 wm_2970 ⟨by decide, by decide, by decide +kernel⟩ (by decide), List.forall_mem_nil _⟩, List.forall_mem_nil _, List.forall_mem_nil _, GG_pl⟩ (by decide +kernel)
def n_Mo_worst_an : List an_T := [(31, [(0, (2, 0, 0, [165])), (1, (0, 0, 39, [])), (2, (0, 1, 40, [])), (3, (0, 0, 135166, [])), (4, (0, (Int.negSucc 2147483647), 131071, [])), (5, (0, (Int.negSucc 511), 512, [])), (6, (0, (Int.negSucc 511), 512, [])), (7, (1, 1, 512, [])), (9, (1, 1, 512, [])), (11, (0, 0, 40, []))], [], (0, 0), [(0, 0, 99969), (1, 9, 40), (0, 0, 100000)], [(1, 9, (Int.negSucc 999999999999), 0), (9, 2, (Int.negSucc 999999999999), 38)], [], [], 0, [], []), (79, [(0, (2, 0, 0, [165])), (1, (0, 0, 39, [])), (2, (0, 1, 40, [])), (3, (0, 0, 135166, [])), (4, (0, (Int.negSucc 2147483647), 131071, [])), (5, (0, (Int.negSucc 511), 512, [])), (6, (0, (Int.negSucc 511), 512, [])), (7, (1, 1, 512, [])), (9, (1, 1, 512, [])), (11, (0, 0, 39, [])), (12, (1, (Int.negSucc 4502500115742719), 274808701440, [])), (14, (1, 0, 9354161948672, []))], [(1, 0, 9354161948672, [])], (0, 0), [(0, 0, 99969), (1, 9, 40), (0, 0, 99921)], [(1, 2, (Int.negSucc 999999999999), (Int.negSucc 0)), (1, 9, (Int.negSucc 999999999999), 0), (9, 2, (Int.negSucc 999999999999), (Int.negSucc 0))], [], [], 0, [], []), (96, [(0, (2, 0, 0, [165])), (1, (0, 0, 39, [])), (2, (0, 1, 40, [])), (3, (0, 0, 135166, [])), (4, (0, (Int.negSucc 2147483647), 131071, [])), (5, (0, (Int.negSucc 511), 512, [])), (6, (0, (Int.negSucc 511), 512, [])), (7, (1, 1, 512, [])), (9, (1, 1, 512, [])), (11, (0, 0, 39, [])), (12, (1, (Int.negSucc 4502500115742719), 274808701440, [])), (14, (1, 0, 9354161948672, [])), (16, (1, 0, 9354161948672, []))], [(1, (Int.negSucc 4502500115742719), 274808701440, [])], (0, 0), [(0, 0, 99969), (1, 9, 40), (0, 0, 99904)], [(1, 2, (Int.negSucc 999999999999), (Int.negSucc 0)), (1, 9, (Int.negSucc 999999999999), 0), (9, 2, (Int.negSucc 999999999999), (Int.negSucc 0))], [], [], 0, [], []), (128, [(0, (2, 0, 0, [165])), (1, (0, 0, 39, [])), (2, (0, 1, 40, [])), (3, (0, 0, 135166, [])), (4, (0, (Int.negSucc 2147483647), 131071, [])), (5, (0, (Int.negSucc 511), 512, [])), (6, (0, (Int.negSucc 511), 512, [])), (7, (1, 1, 512, [])), (9, (1, 1, 512, [])), (11, (0, 0, 39, [])), (12, (1, (Int.negSucc 4502500115742719), 274808701440, [])), (14, (1, 0, 9354161948672, [])), (16, (1, 0, 9354161948672, [])), (18, (1, (Int.negSucc 4502500115742719), 274808701440, []))], [], (0, 0), [(0, 0, 99969), (1, 9, 40), (0, 0, 99872)], [(1, 2, (Int.negSucc 999999999999), (Int.negSucc 0)), (1, 9, (Int.negSucc 999999999999), 0), (9, 2, (Int.negSucc 999999999999), (Int.negSucc 0))], [], [], 0, [], [])]
def t_Mo_worst_ct : ct_L := [(0, 855, e_Mo_max)]
set_option maxRecDepth 100000 in
theorem c_Mo_worst {l : Launch} {D : va_G} {kA : Nat → ClassId} (h_Mo_max : ct_ok PRD l D kA GG y_Mo_max z_Mo_max e_Mo_max) : ct_ok PRD l D kA GG y_Mo_worst z_Mo_worst e_Mo_worst := chk_all_ok (FT := [(302, 13, 131), (977, 13, 133), (981, 13, 134)]) (PT := [(977, 13, 133, .long), (981, 13, 134, .long)]) (CT := t_Mo_worst_ct) (KT := []) (NT := []) (AN := n_Mo_worst_an) (OT := []) 3 356 (List.forall_mem_nil _) (by decide +kernel) ⟨List.forall_mem_cons.mpr ⟨gf_Mo_302, List.forall_mem_cons.mpr ⟨gf_Mo_977, List.forall_mem_cons.mpr ⟨gf_Mo_981, List.forall_mem_nil _⟩⟩⟩, List.forall_mem_cons.mpr ⟨pf_Mo_977, List.forall_mem_cons.mpr ⟨pf_Mo_981, List.forall_mem_nil _⟩⟩, List.forall_mem_cons.mpr ⟨cl_static (y := y_Mo_max) h_Mo_max wm_3430 wm_9 wm_3428 wm_3429 ⟨by decide, by decide, by decide +kernel⟩ (by decide), List.forall_mem_nil _⟩, List.forall_mem_nil _, List.forall_mem_nil _, GG_pl⟩ (by decide +kernel)
set_option maxHeartbeats 4000000 in
theorem vc_Mo_writeName_0_0 (x3 : Int) (x4 : Int) (texts_0 : Int) (k3 : 0 ≤ x3 ∧ x3 ≤ 99999992) (k4 : 0 ≤ x4 ∧ x4 ≤ 0) (f0 : 1 * texts_0 + ((-1) * x3 + 0) ≤ 0) (kz_0_170 : 0 ≤ texts_0 ∧ texts_0 ≤ 100000000) : 1 * texts_0 + ((-1) * x3 + ((-1) * x4 + 0)) ≤ 0 := by
  first | assumption | omega | grind
def o_Mo_writeName_0 : or_T := (2, 5, [(0, (2, 0, 0, [165])), (3, (0, 0, 99999992, [])), (4, (0, 0, 0, []))], [(20, [0, 3], [30, 0, 1, 1, 170, -1, 0, 0])], [], [], [(20, [0, 3, 4], [30, 0, 1, 1, 170, -1, 0, 0, -1, 0, 0]), (24, [0, 0], [])], [], [])
theorem oo_Mo_writeName_0 {kA : Nat → ClassId} : or_ok PRD kA GG o_Mo_writeName_0 := by
  refine or_mk fun A ta ws vs hD hth hl => ?_
  intro t0 r0 t3 k3 t4 k4 f0
  have kz_0_170 := fdq_11 hD hth r0
  have nf0 : fc_1 PRD (20, [0, 3, 4], [30, 0, 1, 1, 170, -1, 0, 0, -1, 0, 0]) ws (vs) := ⟨nf_in hl rfl, sgq_159 (vc_Mo_writeName_0_0 (v_iv (n_v vs 3)) (v_iv (n_v vs 4)) (w_fi ws (n_v vs 0) 170) k3 k4 (shm_131 f0) kz_0_170)⟩
  have nf1 : fc_1 PRD (24, [0, 0], []) ws (vs) := by
    refine ⟨nf_in hl rfl, sgq_1 ?_⟩
    · show n_v vs 0 = n_v vs 0
      first | rfl | simp only [true_and]
  refine ⟨(fun _ h => (by cases h)), [], trivial, ?_, (fun _ h => (by cases h))⟩
  rw [List.append_nil]
  exact List.forall_mem_cons.mpr ⟨⟨show (20 : Nat) < 100 from by decide, nf0⟩, List.forall_mem_cons.mpr ⟨⟨show (24 : Nat) < 100 from by decide, nf1⟩, (fun _ h => (by cases h))⟩⟩
set_option maxHeartbeats 4000000 in
theorem vc_Mo_writeName_1_0 (x3 : Int) (x7 : Int) (texts_0 : Int) (k3 : 0 ≤ x3 ∧ x3 ≤ 99999992) (k7 : 0 ≤ x7 ∧ x7 ≤ 8) (f1 : 1 * texts_0 + ((-1) * x3 + ((-1) * x7 + 0)) ≤ 0) (kz_0_170 : 0 ≤ texts_0 ∧ texts_0 ≤ 100000000) : 1 * texts_0 + ((-1) * x3 + 0) ≤ 8 := by
  first | assumption | omega | grind
def o_Mo_writeName_1 : or_T := (25, 8, [(0, (2, 0, 0, [165])), (3, (0, 0, 99999992, [])), (7, (0, 0, 8, []))], [(20, [4, 3, 7], [30, 0, 1, 1, 170, -1, 0, 0, -1, 0, 0]), (24, [0, 4], [])], [], [], [(20, [0, 3], [30, 8, 1, 1, 170, -1, 0, 0])], [], [])
theorem oo_Mo_writeName_1 {kA : Nat → ClassId} : or_ok PRD kA GG o_Mo_writeName_1 := by
  refine or_mk fun A ta ws vs hD hth hl => ?_
  intro t0 r0 t3 k3 t7 k7 f1 f2
  replace f1 := shm_159 f1
  replace f2 := shm_5 f2
  have q4 : n_v vs 4 = n_v vs 0 := f2.symm
  simp only [q4] at f1
  have kz_0_170 := fdq_11 hD hth r0
  have nf0 : fc_1 PRD (20, [0, 3], [30, 8, 1, 1, 170, -1, 0, 0]) ws (vs) := ⟨nf_in hl rfl, sgq_160 (vc_Mo_writeName_1_0 (v_iv (n_v vs 3)) (v_iv (n_v vs 7)) (w_fi ws (n_v vs 0) 170) k3 k7 f1 kz_0_170)⟩
  refine ⟨(fun _ h => (by cases h)), [], trivial, ?_, (fun _ h => (by cases h))⟩
  rw [List.append_nil]
  exact List.forall_mem_cons.mpr ⟨⟨show (20 : Nat) < 100 from by decide, nf0⟩, (fun _ h => (by cases h))⟩
set_option maxHeartbeats 4000000 in
theorem vc_Mo_writeName_2_0 (texts_0 : Int) (gx : Int) (kz_0_170 : 0 ≤ texts_0 ∧ texts_0 ≤ 100000000) (ex2 : gx = texts_0) : 1 * texts_0 + ((-1) * gx + 0) ≤ 0 := by
  first | assumption | omega | grind
set_option maxHeartbeats 4000000 in
theorem vc_Mo_writeName_2_1 (x3 : Int) (x7 : Int) (texts_0 : Int) (gx : Int) (k3 : 0 ≤ x3 ∧ x3 ≤ 99999992) (k7 : 0 ≤ x7 ∧ x7 ≤ 7) (f1 : 1 * texts_0 + ((-1) * x3 + ((-1) * x7 + 0)) ≤ 0) (kz_0_170 : 0 ≤ texts_0 ∧ texts_0 ≤ 100000000) (ex2 : gx = texts_0) : 1 * gx + ((-1) * x3 + ((-1) * x7 + 0)) ≤ 0 := by
  first | assumption | omega | grind
def o_Mo_writeName_2 : or_T := (16, 11, [(0, (2, 0, 0, [165])), (3, (0, 0, 99999992, [])), (4, (2, 0, 0, [165])), (6, (0, 1, 8, [])), (7, (0, 0, 7, []))], [(7, [7, 6], [2]), (20, [4, 3, 7], [30, 0, 1, 1, 170, -1, 0, 0, -1, 0, 0]), (24, [0, 4], [])], [], [(0, 0, 99999999, [])], [(20, [4, 11], [30, 0, 1, 1, 170, -1, 0, 0]), (23, [11, 3, 7], [0, 1, -1, -1])], [], [(7, 6, -4294967296, -1), (7, 6, -4294967296, 0)])
theorem oo_Mo_writeName_2 {kA : Nat → ClassId} : or_ok PRD kA GG o_Mo_writeName_2 := by
  refine or_mk fun A ta ws vs hD hth hl => ?_
  intro t0 r0 t3 k3 t4 r4 t6 k6 t7 k7 d0 d1 f0 f1 f2
  replace f0 := shm_6 f0
  replace f1 := shm_159 f1
  replace f2 := shm_5 f2
  have q4 : n_v vs 4 = n_v vs 0 := f2.symm
  simp only [q4] at f1
  have kz_0_170 := fdq_11 hD hth r0
  have kv0 := fdq_11 hD hth r0
  obtain ⟨x, ex, hx⟩ := iv_ex (ta := ta) (lo := 0) (hi := 99999999) (z := w_fi ws (n_v vs 0) 170) (by omega) (by omega) (by omega) (by omega)
  have ex2 : v_iv (Value.int x) = w_fi ws (n_v vs 0) 170 := ex
  have ex3 : 0 ≤ v_iv (Value.int x) ∧ v_iv (Value.int x) ≤ 99999999 := tv_rng hx
  have e_3 : n_v (vs ++ [Value.int x]) 3 = n_v vs 3 := n_v_old (by rw [hl]; decide)
  have e_4 : n_v (vs ++ [Value.int x]) 4 = n_v vs 4 := n_v_old (by rw [hl]; decide)
  have e_7 : n_v (vs ++ [Value.int x]) 7 = n_v vs 7 := n_v_old (by rw [hl]; decide)
  have e_11 : n_v (vs ++ [Value.int x]) 11 = Value.int x := n_v_new hl
  have nf0 : fc_1 PRD (20, [4, 11], [30, 0, 1, 1, 170, -1, 0, 0]) ws (vs ++ [Value.int x]) := by
    refine ⟨nf_inA hl rfl, sgq_131 ?_⟩
    · show 1 * w_fi ws (n_v (vs ++ [Value.int x]) 4) 170 + ((-1) * v_iv (n_v (vs ++ [Value.int x]) 11) + 0) ≤ 0
      simp only [e_4, e_11, q4]
      exact vc_Mo_writeName_2_0 (w_fi ws (n_v vs 0) 170) (v_iv (Value.int x)) kz_0_170 ex2
  have nf1 : fc_1 PRD (23, [11, 3, 7], [0, 1, -1, -1]) ws (vs ++ [Value.int x]) := by
    refine ⟨nf_inA hl rfl, sgq_136 ?_⟩
    · show 1 * v_iv (n_v (vs ++ [Value.int x]) 11) + ((-1) * v_iv (n_v (vs ++ [Value.int x]) 3) + ((-1) * v_iv (n_v (vs ++ [Value.int x]) 7) + 0)) ≤ 0
      simp only [e_3, e_7, e_11]
      exact vc_Mo_writeName_2_1 (v_iv (n_v vs 3)) (v_iv (n_v vs 7)) (w_fi ws (n_v vs 0) 170) (v_iv (Value.int x)) k3 k7 f1 kz_0_170 ex2
  exact ⟨(fun _ h => (by cases h)), [Value.int x], ag_one hx, List.forall_mem_cons.mpr ⟨⟨show (20 : Nat) < 100 from by decide, nf0⟩, List.forall_mem_cons.mpr ⟨⟨show (23 : Nat) < 100 from by decide, nf1⟩, (fun _ h => (by cases h))⟩⟩, (fun _ h => (by cases h))⟩
set_option maxHeartbeats 4000000 in
theorem vc_Mo_writeName_3_0 (x3 : Int) (x7 : Int) (x11 : Int) (x12 : Int) (texts_0 : Int) (k3 : 0 ≤ x3 ∧ x3 ≤ 99999992) (k7 : 0 ≤ x7 ∧ x7 ≤ 7) (k11 : 0 ≤ x11 ∧ x11 ≤ 99999999) (k12 : 1 ≤ x12 ∧ x12 ≤ 8) (d0 : x7 + 1 ≤ x12 ∧ x12 ≤ x7 + 1) (f1 : 1 * x11 + ((-1) * x3 + ((-1) * x7 + 0)) ≤ 0) (f3 : 1 * texts_0 + ((-1) * x11 + 0) ≤ 1) (kz_0_170 : 0 ≤ texts_0 ∧ texts_0 ≤ 100000000) : 1 * texts_0 + ((-1) * x3 + ((-1) * x12 + 0)) ≤ 0 := by
  first | assumption | omega | grind
def o_Mo_writeName_3 : or_T := (2, 13, [(0, (2, 0, 0, [165])), (3, (0, 0, 99999992, [])), (7, (0, 0, 7, [])), (11, (0, 0, 99999999, [])), (12, (0, 1, 8, []))], [(23, [11, 3, 7], [0, 1, -1, -1]), (24, [0, 4], []), (20, [4, 11], [30, 1, 1, 1, 170, -1, 0, 0])], [], [], [(20, [4, 3, 12], [30, 0, 1, 1, 170, -1, 0, 0, -1, 0, 0])], [], [(12, 7, 1, 1)])
theorem oo_Mo_writeName_3 {kA : Nat → ClassId} : or_ok PRD kA GG o_Mo_writeName_3 := by
  refine or_mk fun A ta ws vs hD hth hl => ?_
  intro t0 r0 t3 k3 t7 k7 t11 k11 t12 k12 d0 f1 f2 f3
  replace f1 := shm_136 f1
  replace f2 := shm_5 f2
  replace f3 := shm_132 f3
  have q4 : n_v vs 4 = n_v vs 0 := f2.symm
  simp only [q4] at f3
  have kz_0_170 := fdq_11 hD hth r0
  have nf0 : fc_1 PRD (20, [4, 3, 12], [30, 0, 1, 1, 170, -1, 0, 0, -1, 0, 0]) ws (vs) := by
    refine ⟨nf_in hl rfl, sgq_159 ?_⟩
    · show 1 * w_fi ws (n_v vs 4) 170 + ((-1) * v_iv (n_v vs 3) + ((-1) * v_iv (n_v vs 12) + 0)) ≤ 0
      rw [q4]
      exact vc_Mo_writeName_3_0 (v_iv (n_v vs 3)) (v_iv (n_v vs 7)) (v_iv (n_v vs 11)) (v_iv (n_v vs 12)) (w_fi ws (n_v vs 0) 170) k3 k7 k11 k12 d0 f1 f3 kz_0_170
  refine ⟨(fun _ h => (by cases h)), [], trivial, ?_, (fun _ h => (by cases h))⟩
  rw [List.append_nil]
  exact List.forall_mem_cons.mpr ⟨⟨show (20 : Nat) < 100 from by decide, nf0⟩, (fun _ h => (by cases h))⟩
def n_Mo_writeName_an : List an_T := [(2, [(0, (2, 0, 0, [165])), (1, (0, 3, 66812, [])), (2, (0, 0, 8, [])), (3, (0, 0, 8, []))], [], (0, 0), [(0, 0, 99998), (1, 7, 8), (0, 0, 100000)], [(1, 5, (Int.negSucc 999999999999), 0), (2, 6, (Int.negSucc 999999999999), 0), (5, 1, (Int.negSucc 999999999999), 0), (6, 2, (Int.negSucc 999999999999), 0), (7, 2, (Int.negSucc 999999999999), 0), (7, 6, (Int.negSucc 999999999999), 0)], [], [(2, 0, 0, [165]), (0, 3, 66812, []), (0, 0, 8, []), (0, 0, 99999992, [])], 0, [], [(20, [4, 3, 7], [30, 0, 1, 1, 170, (Int.negSucc 0), 0, 0, (Int.negSucc 0), 0, 0]), (24, [0, 4], [])])]
def t_Mo_writeName_ct : ct_L := [(52, 1280, e_Mo_write1)]
set_option maxRecDepth 100000 in
theorem c_Mo_writeName {l : Launch} {D : va_G} {kA : Nat → ClassId} (h_Mo_write1 : ct_ok PRD l D kA GG y_Mo_write1 z_Mo_write1 e_Mo_write1) : ct_ok PRD l D kA GG y_Mo_writeName z_Mo_writeName e_Mo_writeName := chk_all_ok (FT := [(16, 13, 2)]) (PT := []) (CT := t_Mo_writeName_ct) (KT := []) (NT := []) (AN := n_Mo_writeName_an) (OT := [o_Mo_writeName_0, o_Mo_writeName_1, o_Mo_writeName_2, o_Mo_writeName_3]) 3 200 (List.forall_mem_cons.mpr ⟨oo_Mo_writeName_0, List.forall_mem_cons.mpr ⟨oo_Mo_writeName_1, List.forall_mem_cons.mpr ⟨oo_Mo_writeName_2, List.forall_mem_cons.mpr ⟨oo_Mo_writeName_3, List.forall_mem_nil _⟩⟩⟩⟩) (by decide +kernel) ⟨List.forall_mem_cons.mpr ⟨gf_Mo_16, List.forall_mem_nil _⟩, List.forall_mem_nil _, List.forall_mem_cons.mpr ⟨cl_virtual (y := y_Mo_write1) (ci := 13) rfl rfl ⟨_, _, rfl⟩ (by decide +kernel) h_Mo_write1 wm_3914 wm_9 wm_3911 wm_3913 wv_24_8 ⟨by decide, by decide, by decide +kernel⟩ (by decide), List.forall_mem_nil _⟩, List.forall_mem_nil _, List.forall_mem_nil _, GG_pl⟩ (by decide +kernel)
def n_Dr_coordinate_an : List an_T := [(20, [(0, (2, 0, 0, [0])), (1, (0, 0, 1, [])), (2, (0, (Int.negSucc 2147483647), 2147483647, [])), (3, (0, (Int.negSucc 2147483647), 2147483647, []))], [], (0, 0), [(0, 0, 99980)], [], [((0, 1), (0, 0, 7, []))], [], 0, [], []), (53, [(0, (2, 0, 0, [0])), (1, (0, 0, 1, [])), (2, (0, 0, 23, [])), (3, (0, (Int.negSucc 2147483647), 2147483647, []))], [(0, (Int.negSucc 39999999), 690000000, [])], (0, 0), [(0, 0, 99947)], [], [((0, 1), (0, 0, 7, []))], [], 0, [], []), (90, [(0, (2, 0, 0, [0])), (1, (0, 3, 4, [])), (2, (0, 0, 47, [])), (3, (0, (Int.negSucc 2147483647), 2147483647, []))], [], (0, 0), [(0, 0, 99910)], [], [((0, 1), (0, 0, 7, []))], [], 0, [], []), (104, [(0, (2, 0, 0, [0])), (1, (0, (Int.negSucc 2147483647), 2147483647, [])), (2, (0, 0, 47, [])), (3, (0, (Int.negSucc 2147483647), 2147483647, []))], [], (0, 0), [(0, 0, 99896)], [], [((0, 1), (0, 0, 7, []))], [], 0, [], []), (137, [(0, (2, 0, 0, [0])), (1, (0, 3, 4, [])), (2, (0, 0, 47, [])), (3, (0, 0, 23, []))], [(0, (Int.negSucc 40999999), 1001000000, [])], (0, 0), [(0, 0, 99863)], [], [((0, 1), (0, 0, 7, []))], [], 0, [], [])]
def t_Dr_coordinate_ct : ct_L := [(1, 85, e_Gr_hasNode), (1, 91, e_Gr_hasEdge)]
set_option maxRecDepth 100000 in
theorem c_Dr_coordinate {l : Launch} {D : va_G} {kA : Nat → ClassId} (h_Gr_hasEdge : ct_ok PRD l D kA GG y_Gr_hasEdge z_Gr_hasEdge e_Gr_hasEdge) (h_Gr_hasNode : ct_ok PRD l D kA GG y_Gr_hasNode z_Gr_hasNode e_Gr_hasNode) : ct_ok PRD l D kA GG y_Dr_coordinate z_Dr_coordinate e_Dr_coordinate := chk_all_ok (FT := [(9, 0, 1), (15, 0, 2), (19, 0, 3), (22, 0, 4), (25, 0, 5), (28, 0, 6), (74, 0, 0)]) (PT := []) (CT := t_Dr_coordinate_ct) (KT := [(0, 84, .int (Int32.ofInt (-2147483648)), (0, -2147483648, -2147483648, []))]) (NT := []) (AN := n_Dr_coordinate_an) (OT := []) 1 360 (List.forall_mem_nil _) (by decide +kernel) ⟨List.forall_mem_cons.mpr ⟨gf_Dr_9, List.forall_mem_cons.mpr ⟨gf_Dr_15, List.forall_mem_cons.mpr ⟨gf_Dr_19, List.forall_mem_cons.mpr ⟨gf_Dr_22, List.forall_mem_cons.mpr ⟨gf_Dr_25, List.forall_mem_cons.mpr ⟨gf_Dr_28, List.forall_mem_cons.mpr ⟨gf_Dr_74, List.forall_mem_nil _⟩⟩⟩⟩⟩⟩⟩, List.forall_mem_nil _, List.forall_mem_cons.mpr ⟨cl_virtual (y := y_Gr_hasNode) (ci := 3) rfl rfl ⟨_, _, rfl⟩ (by decide +kernel) h_Gr_hasNode wm_921 wm_3 wm_1822 wm_919 wm_920 ⟨by decide, by decide, by decide +kernel⟩ (by decide), List.forall_mem_cons.mpr ⟨cl_virtual (y := y_Gr_hasEdge) (ci := 3) rfl rfl ⟨_, _, rfl⟩ (by decide +kernel) h_Gr_hasEdge wm_930 wm_3 wm_1823 wm_928 wm_929 ⟨by decide, by decide, by decide +kernel⟩ (by decide), List.forall_mem_nil _⟩⟩, List.forall_mem_cons.mpr ⟨kx_Dr_0_84, List.forall_mem_nil _⟩, List.forall_mem_nil _, GG_pl⟩ (by decide +kernel)
def n_Dr_countNodePairs_an : List an_T := [(5, [(0, (2, 0, 0, [0])), (1, (0, 0, 1, [])), (2, (1, (Int.negSucc 9223372036854775807), 9223372036854775807, [])), (4, (0, 0, 24, []))], [], (0, 0), [(0, 0, 99995), (1, 3, 24), (0, 0, 100000), (0, 0, 0), (0, 0, 0)], [], [], [], 0, [], []), (23, [(0, (2, 0, 0, [0])), (1, (0, 0, 1, [])), (2, (1, (Int.negSucc 9223372036854775807), 9223372036854775807, [])), (4, (0, 0, 23, [])), (5, (0, 1, 24, []))], [], (0, 0), [(0, 0, 99995), (1, 3, 24), (0, 0, 99977), (1, 4, 24), (0, 0, 100000)], [], [], [], 0, [], [])]
def t_Dr_countNodePairs_ct : ct_L := [(1, 118, e_Gr_half), (273, 112, e_jMath_abs1_v53), (342, 112, e_jMath_abs1_v53)]
set_option maxRecDepth 100000 in
theorem c_Dr_countNodePairs {l : Launch} {D : va_G} {kA : Nat → ClassId} (h_Gr_half : ct_ok PRD l D kA GG y_Gr_half z_Gr_half e_Gr_half) : ct_ok PRD l D kA GG y_Dr_countNodePairs z_Dr_countNodePairs e_Dr_countNodePairs := chk_all_ok (FT := [(15, 0, 2), (19, 0, 3), (74, 0, 0), (141, 3, 0)]) (PT := []) (CT := t_Dr_countNodePairs_ct) (KT := []) (NT := []) (AN := n_Dr_countNodePairs_an) (OT := []) 5 456 (List.forall_mem_nil _) (by decide +kernel) ⟨List.forall_mem_cons.mpr ⟨gf_Dr_15, List.forall_mem_cons.mpr ⟨gf_Dr_19, List.forall_mem_cons.mpr ⟨gf_Dr_74, List.forall_mem_cons.mpr ⟨gf_Dr_141, List.forall_mem_nil _⟩⟩⟩⟩, List.forall_mem_nil _, List.forall_mem_cons.mpr ⟨cl_virtual (y := y_Gr_half) (ci := 3) rfl rfl ⟨_, _, rfl⟩ (by decide +kernel) h_Gr_half wm_1452 wm_3 wm_2001 wm_1450 wm_1451 ⟨by decide, by decide, by decide +kernel⟩ (by decide), List.forall_mem_cons.mpr ⟨cl_static (y := y_jMath_abs1) c_jMath_abs1_v53 wm_1811 wm_10 wm_2000 wm_1810 ⟨by decide, by decide, by decide +kernel⟩ (by decide), List.forall_mem_cons.mpr ⟨cl_static (y := y_jMath_abs1) c_jMath_abs1_v53 wm_1811 wm_10 wm_2000 wm_1810 ⟨by decide, by decide, by decide +kernel⟩ (by decide), List.forall_mem_nil _⟩⟩⟩, List.forall_mem_nil _, List.forall_mem_nil _, GG_pl⟩ (by decide +kernel)
def n_Dr_countSlanted_an : List an_T := [(4, [(0, (2, 0, 0, [0])), (1, (1, (Int.negSucc 9223372036854775807), 9223372036854775807, [])), (3, (0, 0, 48, []))], [], (0, 0), [(0, 0, 99996), (1, 2, 48), (0, 0, 100000), (0, 0, 0), (0, 0, 0)], [], [], [], 0, [], []), (18, [(0, (2, 0, 0, [0])), (1, (1, (Int.negSucc 9223372036854775807), 9223372036854775807, [])), (3, (0, 0, 47, [])), (4, (0, 0, 25, []))], [], (0, 0), [(0, 0, 99996), (1, 2, 48), (0, 0, 99982), (1, 3, 25), (0, 0, 100000)], [], [], [], 0, [], [])]
def t_Dr_countSlanted_ct : ct_L := [(103, 128, e_Dr_pointX_np), (130, 128, e_Dr_pointX_np), (160, 134, e_Dr_pointY_np), (187, 134, e_Dr_pointY_np)]
set_option maxRecDepth 100000 in
theorem c_Dr_countSlanted {l : Launch} {D : va_G} {kA : Nat → ClassId} (h_Dr_pointX : ct_ok PRD l D kA GG y_Dr_pointX z_Dr_pointX e_Dr_pointX) (h_Dr_pointY : ct_ok PRD l D kA GG y_Dr_pointY z_Dr_pointY e_Dr_pointY) : ct_ok PRD l D kA GG y_Dr_countSlanted z_Dr_countSlanted e_Dr_countSlanted := chk_all_ok (FT := [(22, 0, 4), (74, 0, 0), (151, 3, 1)]) (PT := []) (CT := t_Dr_countSlanted_ct) (KT := []) (NT := []) (AN := n_Dr_countSlanted_an) (OT := []) 5 212 (List.forall_mem_nil _) (by decide +kernel) ⟨List.forall_mem_cons.mpr ⟨gf_Dr_22, List.forall_mem_cons.mpr ⟨gf_Dr_74, List.forall_mem_cons.mpr ⟨gf_Dr_151, List.forall_mem_nil _⟩⟩⟩, List.forall_mem_nil _, List.forall_mem_cons.mpr ⟨cl_nopa (cl_virtual (y := y_Dr_pointX) (ci := 0) rfl rfl ⟨_, _, rfl⟩ (by decide +kernel) h_Dr_pointX wm_1986 wm_8 wm_1983 wm_1984 wm_1985 ⟨by decide, by decide, by decide +kernel⟩ (by decide)), List.forall_mem_cons.mpr ⟨cl_nopa (cl_virtual (y := y_Dr_pointX) (ci := 0) rfl rfl ⟨_, _, rfl⟩ (by decide +kernel) h_Dr_pointX wm_1986 wm_8 wm_1983 wm_1984 wm_1985 ⟨by decide, by decide, by decide +kernel⟩ (by decide)), List.forall_mem_cons.mpr ⟨cl_nopa (cl_virtual (y := y_Dr_pointY) (ci := 0) rfl rfl ⟨_, _, rfl⟩ (by decide +kernel) h_Dr_pointY wm_1991 wm_8 wm_1988 wm_1989 wm_1990 ⟨by decide, by decide, by decide +kernel⟩ (by decide)), List.forall_mem_cons.mpr ⟨cl_nopa (cl_virtual (y := y_Dr_pointY) (ci := 0) rfl rfl ⟨_, _, rfl⟩ (by decide +kernel) h_Dr_pointY wm_1991 wm_8 wm_1988 wm_1989 wm_1990 ⟨by decide, by decide, by decide +kernel⟩ (by decide)), List.forall_mem_nil _⟩⟩⟩⟩, List.forall_mem_nil _, List.forall_mem_nil _, GG_pl⟩ (by decide +kernel)
def n_Dr_isInBox_an : List an_T := []
def t_Dr_isInBox_ct : ct_L := [(1, 118, e_Gr_half), (27, 112, e_jMath_abs1_v54), (93, 112, e_jMath_abs1_v54)]
set_option maxRecDepth 100000 in
theorem c_Dr_isInBox {l : Launch} {D : va_G} {kA : Nat → ClassId} (h_Gr_half : ct_ok PRD l D kA GG y_Gr_half z_Gr_half e_Gr_half) : ct_ok PRD l D kA GG y_Dr_isInBox z_Dr_isInBox e_Dr_isInBox := chk_all_ok (FT := [(15, 0, 2), (19, 0, 3), (74, 0, 0)]) (PT := []) (CT := t_Dr_isInBox_ct) (KT := []) (NT := []) (AN := n_Dr_isInBox_an) (OT := []) 0 200 (List.forall_mem_nil _) (by decide +kernel) ⟨List.forall_mem_cons.mpr ⟨gf_Dr_15, List.forall_mem_cons.mpr ⟨gf_Dr_19, List.forall_mem_cons.mpr ⟨gf_Dr_74, List.forall_mem_nil _⟩⟩⟩, List.forall_mem_nil _, List.forall_mem_cons.mpr ⟨cl_virtual (y := y_Gr_half) (ci := 3) rfl rfl ⟨_, _, rfl⟩ (by decide +kernel) h_Gr_half wm_1452 wm_3 wm_2001 wm_1450 wm_1451 ⟨by decide, by decide, by decide +kernel⟩ (by decide), List.forall_mem_cons.mpr ⟨cl_static (y := y_jMath_abs1) c_jMath_abs1_v54 wm_1811 wm_10 wm_2000 wm_1810 ⟨by decide, by decide, by decide +kernel⟩ (by decide), List.forall_mem_cons.mpr ⟨cl_static (y := y_jMath_abs1) c_jMath_abs1_v54 wm_1811 wm_10 wm_2000 wm_1810 ⟨by decide, by decide, by decide +kernel⟩ (by decide), List.forall_mem_nil _⟩⟩⟩, List.forall_mem_nil _, List.forall_mem_nil _, GG_pl⟩ (by decide +kernel)
def n_Dr_leastTriangle_an : List an_T := [(6, [(0, (2, 0, 0, [0])), (1, (1, (Int.negSucc 0), 1065800000000000000, [])), (3, (0, 0, 48, []))], [], (0, 0), [(0, 0, 99994), (1, 2, 48), (0, 0, 100000), (0, 0, 0), (0, 0, 0)], [], [], [], 0, [], []), (42, [(0, (2, 0, 0, [0])), (1, (1, (Int.negSucc 0), 1065800000000000000, [])), (3, (0, 0, 47, [])), (4, (0, 0, 23, [])), (5, (0, 0, 23, [])), (6, (0, 0, 24, []))], [], (0, 0), [(0, 0, 99994), (1, 2, 48), (0, 0, 99958), (1, 5, 24), (0, 0, 100000)], [], [], [], 0, [], [])]
def t_Dr_leastTriangle_ct : ct_L := [(465, 220, e_jMath_abs2_v55), (528, 223, e_jMath_min2_v56)]
set_option maxRecDepth 100000 in
theorem c_Dr_leastTriangle {l : Launch} {D : va_G} {kA : Nat → ClassId} : ct_ok PRD l D kA GG y_Dr_leastTriangle z_Dr_leastTriangle e_Dr_leastTriangle := chk_all_ok (FT := [(15, 0, 2), (19, 0, 3), (74, 0, 0), (106, 3, 7), (109, 3, 8), (141, 3, 0), (151, 3, 1), (217, 3, 14)]) (PT := []) (CT := t_Dr_leastTriangle_ct) (KT := [(2, 189, .long (-1), (1, -1, -1, []))]) (NT := []) (AN := n_Dr_leastTriangle_an) (OT := []) 5 444 (List.forall_mem_nil _) (by decide +kernel) ⟨List.forall_mem_cons.mpr ⟨gf_Dr_15, List.forall_mem_cons.mpr ⟨gf_Dr_19, List.forall_mem_cons.mpr ⟨gf_Dr_74, List.forall_mem_cons.mpr ⟨gf_Dr_106, List.forall_mem_cons.mpr ⟨gf_Dr_109, List.forall_mem_cons.mpr ⟨gf_Dr_141, List.forall_mem_cons.mpr ⟨gf_Dr_151, List.forall_mem_cons.mpr ⟨gf_Dr_217, List.forall_mem_nil _⟩⟩⟩⟩⟩⟩⟩⟩, List.forall_mem_nil _, List.forall_mem_cons.mpr ⟨cl_static (y := y_jMath_abs2) c_jMath_abs2_v55 wm_2082 wm_10 wm_2080 wm_2081 ⟨by decide, by decide, by decide +kernel⟩ (by decide), List.forall_mem_cons.mpr ⟨cl_static (y := y_jMath_min2) c_jMath_min2_v56 wm_1753 wm_10 wm_2083 wm_1752 ⟨by decide, by decide, by decide +kernel⟩ (by decide), List.forall_mem_nil _⟩⟩, List.forall_mem_cons.mpr ⟨⟨kt_mk2 wm_2079, fun _ => Or.inr (Or.inl ⟨rfl, _, rfl, by decide, by decide⟩)⟩, List.forall_mem_nil _⟩, List.forall_mem_nil _, GG_pl⟩ (by decide +kernel)
def o_Dr_move_0 : or_T := (69, 18, [(1, (0, 0, 23, [])), (4, (0, -1000000, 1000000, [])), (5, (2, 0, 0, [12])), (6, (0, 0, 3072, [])), (17, (2, 0, 0, [15]))], [(100, [17, 1, 4], []), (20, [5, 6], [62, 2000000])], [], [], [(20, [5, 6], [62, 2000000])], [], [])
theorem oo_Dr_move_0 {kA : Nat → ClassId} : or_ok PRD kA GG o_Dr_move_0 := by
  refine or_mk fun A ta ws vs hD hth hl => ?_
  intro t1 k1 t4 k4 t5 r5 t6 k6 t17 r17 ta1 w1 le1 s1 f1
  have s1 : (∀ b j, w_el ws b j = if b = v_ad (n_v vs 17) ∧ j = (v_iv (n_v vs 1)).toNat then v_iv (n_v vs 4) else w_el w1 b j) ∧ ∀ b k, w_fd ws b k = w_fd w1 b k := s1.2
  replace f1 := shm_161 f1
  have nf0 : fc_1 PRD (20, [5, 6], [62, 2000000]) ws (vs) := by
    refine ⟨nf_in hl rfl, sgq_161 ?_⟩
    · show HY ws (n_v vs 5) (v_iv (n_v vs 6) + (((2000000 : Nat) : Int) - 2000000))
      have hn := hy_ne (k := 3) (g := GG_12) hD hth r5 rfl (by decide) rfl rfl r17 (by decide) s1.2
      have hn0 := hy_ne (k := 0) (g := GG_12) hD hth r5 rfl (by decide) rfl rfl r17 (by decide) s1.2
      exact hy_st (hy_le f1 (by omega)) s1 hn hn0 (by omega) (by omega)
  refine ⟨(fun _ h => (by cases h)), [], trivial, ?_, (fun _ h => (by cases h))⟩
  rw [List.append_nil]
  exact List.forall_mem_cons.mpr ⟨⟨show (20 : Nat) < 100 from by decide, nf0⟩, (fun _ h => (by cases h))⟩
def n_Dr_move_an : List an_T := []
def t_Dr_move_ct : ct_L := [(1, 85, e_Gr_hasNode), (1, 91, e_Gr_hasEdge)]
set_option maxRecDepth 100000 in
theorem c_Dr_move {l : Launch} {D : va_G} {kA : Nat → ClassId} (h_Gr_hasEdge : ct_ok PRD l D kA GG y_Gr_hasEdge z_Gr_hasEdge e_Gr_hasEdge) (h_Gr_hasNode : ct_ok PRD l D kA GG y_Gr_hasNode z_Gr_hasNode e_Gr_hasNode) : ct_ok PRD l D kA GG y_Dr_move z_Dr_move e_Dr_move := chk_all_ok (FT := [(9, 0, 1), (15, 0, 2), (19, 0, 3), (22, 0, 4), (25, 0, 5), (28, 0, 6), (74, 0, 0)]) (PT := []) (CT := t_Dr_move_ct) (KT := [(0, 104, .int (Int32.ofInt (-1000000)), (0, -1000000, -1000000, [])), (0, 105, .int (1000000), (0, 1000000, 1000000, []))]) (NT := []) (AN := n_Dr_move_an) (OT := [o_Dr_move_0]) 0 380 (List.forall_mem_cons.mpr ⟨oo_Dr_move_0, List.forall_mem_nil _⟩) (by decide +kernel) ⟨List.forall_mem_cons.mpr ⟨gf_Dr_9, List.forall_mem_cons.mpr ⟨gf_Dr_15, List.forall_mem_cons.mpr ⟨gf_Dr_19, List.forall_mem_cons.mpr ⟨gf_Dr_22, List.forall_mem_cons.mpr ⟨gf_Dr_25, List.forall_mem_cons.mpr ⟨gf_Dr_28, List.forall_mem_cons.mpr ⟨gf_Dr_74, List.forall_mem_nil _⟩⟩⟩⟩⟩⟩⟩, List.forall_mem_nil _, List.forall_mem_cons.mpr ⟨cl_virtual (y := y_Gr_hasNode) (ci := 3) rfl rfl ⟨_, _, rfl⟩ (by decide +kernel) h_Gr_hasNode wm_921 wm_3 wm_1822 wm_919 wm_920 ⟨by decide, by decide, by decide +kernel⟩ (by decide), List.forall_mem_cons.mpr ⟨cl_virtual (y := y_Gr_hasEdge) (ci := 3) rfl rfl ⟨_, _, rfl⟩ (by decide +kernel) h_Gr_hasEdge wm_930 wm_3 wm_1823 wm_928 wm_929 ⟨by decide, by decide, by decide +kernel⟩ (by decide), List.forall_mem_nil _⟩⟩, List.forall_mem_cons.mpr ⟨kx_Dr_0_104, List.forall_mem_cons.mpr ⟨kx_Dr_0_105, List.forall_mem_nil _⟩⟩, List.forall_mem_nil _, GG_pl⟩ (by decide +kernel)
def n_Dr_overlap_an : List an_T := []
def t_Dr_overlap_ct : ct_L := [(9, 157, e_jMath_max1_v57), (24, 157, e_jMath_max1_v57), (33, 154, e_jMath_min1_v58), (48, 154, e_jMath_min1_v58), (63, 154, e_jMath_min1_v58), (72, 157, e_jMath_max1_v57)]
set_option maxRecDepth 100000 in
theorem c_Dr_overlap {l : Launch} {D : va_G} {kA : Nat → ClassId} : ct_ok PRD l D kA GG y_Dr_overlap z_Dr_overlap e_Dr_overlap := chk_all_ok (FT := []) (PT := []) (CT := t_Dr_overlap_ct) (KT := []) (NT := []) (AN := n_Dr_overlap_an) (OT := []) 0 200 (List.forall_mem_nil _) (by decide +kernel) ⟨List.forall_mem_nil _, List.forall_mem_nil _, List.forall_mem_cons.mpr ⟨cl_static (y := y_jMath_max1) c_jMath_max1_v57 wm_836 wm_10 wm_2025 wm_835 ⟨by decide, by decide, by decide +kernel⟩ (by decide), List.forall_mem_cons.mpr ⟨cl_static (y := y_jMath_max1) c_jMath_max1_v57 wm_836 wm_10 wm_2025 wm_835 ⟨by decide, by decide, by decide +kernel⟩ (by decide), List.forall_mem_cons.mpr ⟨cl_static (y := y_jMath_min1) c_jMath_min1_v58 wm_658 wm_10 wm_2026 wm_657 ⟨by decide, by decide, by decide +kernel⟩ (by decide), List.forall_mem_cons.mpr ⟨cl_static (y := y_jMath_min1) c_jMath_min1_v58 wm_658 wm_10 wm_2026 wm_657 ⟨by decide, by decide, by decide +kernel⟩ (by decide), List.forall_mem_cons.mpr ⟨cl_static (y := y_jMath_min1) c_jMath_min1_v58 wm_658 wm_10 wm_2026 wm_657 ⟨by decide, by decide, by decide +kernel⟩ (by decide), List.forall_mem_cons.mpr ⟨cl_static (y := y_jMath_max1) c_jMath_max1_v57 wm_836 wm_10 wm_2025 wm_835 ⟨by decide, by decide, by decide +kernel⟩ (by decide), List.forall_mem_nil _⟩⟩⟩⟩⟩⟩, List.forall_mem_nil _, List.forall_mem_nil _, GG_pl⟩ (by decide +kernel)
def n_Dr_reportArea_an : List an_T := []
def t_Dr_reportArea_ct : ct_L := [(1, 85, e_Gr_hasNode), (1, 101, e_Gr_hasGroup)]
set_option maxRecDepth 100000 in
theorem c_Dr_reportArea {l : Launch} {D : va_G} {kA : Nat → ClassId} (h_Gr_hasGroup : ct_ok PRD l D kA GG y_Gr_hasGroup z_Gr_hasGroup e_Gr_hasGroup) (h_Gr_hasNode : ct_ok PRD l D kA GG y_Gr_hasNode z_Gr_hasNode e_Gr_hasNode) : ct_ok PRD l D kA GG y_Dr_reportArea z_Dr_reportArea e_Dr_reportArea := chk_all_ok (FT := [(50, 0, 13), (74, 0, 0)]) (PT := []) (CT := t_Dr_reportArea_ct) (KT := []) (NT := []) (AN := n_Dr_reportArea_an) (OT := []) 0 284 (List.forall_mem_nil _) (by decide +kernel) ⟨List.forall_mem_cons.mpr ⟨gf_Dr_50, List.forall_mem_cons.mpr ⟨gf_Dr_74, List.forall_mem_nil _⟩⟩, List.forall_mem_nil _, List.forall_mem_cons.mpr ⟨cl_virtual (y := y_Gr_hasNode) (ci := 3) rfl rfl ⟨_, _, rfl⟩ (by decide +kernel) h_Gr_hasNode wm_921 wm_3 wm_1822 wm_919 wm_920 ⟨by decide, by decide, by decide +kernel⟩ (by decide), List.forall_mem_cons.mpr ⟨cl_virtual (y := y_Gr_hasGroup) (ci := 3) rfl rfl ⟨_, _, rfl⟩ (by decide +kernel) h_Gr_hasGroup wm_942 wm_3 wm_1841 wm_940 wm_941 ⟨by decide, by decide, by decide +kernel⟩ (by decide), List.forall_mem_nil _⟩⟩, List.forall_mem_nil _, List.forall_mem_nil _, GG_pl⟩ (by decide +kernel)
def n_Dr_reportLayers_an : List an_T := []
def t_Dr_reportLayers_ct : ct_L := [(1, 85, e_Gr_hasNode), (1, 91, e_Gr_hasEdge)]
set_option maxRecDepth 100000 in
theorem c_Dr_reportLayers {l : Launch} {D : va_G} {kA : Nat → ClassId} (h_Gr_hasEdge : ct_ok PRD l D kA GG y_Gr_hasEdge z_Gr_hasEdge e_Gr_hasEdge) (h_Gr_hasNode : ct_ok PRD l D kA GG y_Gr_hasNode z_Gr_hasNode e_Gr_hasNode) : ct_ok PRD l D kA GG y_Dr_reportLayers z_Dr_reportLayers e_Dr_reportLayers := chk_all_ok (FT := [(31, 0, 7), (34, 0, 8), (40, 0, 10), (43, 0, 11), (74, 0, 0)]) (PT := []) (CT := t_Dr_reportLayers_ct) (KT := []) (NT := []) (AN := n_Dr_reportLayers_an) (OT := []) 0 252 (List.forall_mem_nil _) (by decide +kernel) ⟨List.forall_mem_cons.mpr ⟨gf_Dr_31, List.forall_mem_cons.mpr ⟨gf_Dr_34, List.forall_mem_cons.mpr ⟨gf_Dr_40, List.forall_mem_cons.mpr ⟨gf_Dr_43, List.forall_mem_cons.mpr ⟨gf_Dr_74, List.forall_mem_nil _⟩⟩⟩⟩⟩, List.forall_mem_nil _, List.forall_mem_cons.mpr ⟨cl_virtual (y := y_Gr_hasNode) (ci := 3) rfl rfl ⟨_, _, rfl⟩ (by decide +kernel) h_Gr_hasNode wm_921 wm_3 wm_1822 wm_919 wm_920 ⟨by decide, by decide, by decide +kernel⟩ (by decide), List.forall_mem_cons.mpr ⟨cl_virtual (y := y_Gr_hasEdge) (ci := 3) rfl rfl ⟨_, _, rfl⟩ (by decide +kernel) h_Gr_hasEdge wm_930 wm_3 wm_1823 wm_928 wm_929 ⟨by decide, by decide, by decide +kernel⟩ (by decide), List.forall_mem_nil _⟩⟩, List.forall_mem_nil _, List.forall_mem_nil _, GG_pl⟩ (by decide +kernel)
def n_Dr_sideOf_an : List an_T := []
def t_Dr_sideOf_ct : ct_L := [(13, 128, e_Dr_pointX_np), (40, 134, e_Dr_pointY_np), (73, 128, e_Dr_pointX_np), (106, 134, e_Dr_pointY_np)]
set_option maxRecDepth 100000 in
theorem c_Dr_sideOf {l : Launch} {D : va_G} {kA : Nat → ClassId} (h_Dr_pointX : ct_ok PRD l D kA GG y_Dr_pointX z_Dr_pointX e_Dr_pointX) (h_Dr_pointY : ct_ok PRD l D kA GG y_Dr_pointY z_Dr_pointY e_Dr_pointY) : ct_ok PRD l D kA GG y_Dr_sideOf z_Dr_sideOf e_Dr_sideOf := chk_all_ok (FT := []) (PT := []) (CT := t_Dr_sideOf_ct) (KT := []) (NT := []) (AN := n_Dr_sideOf_an) (OT := []) 0 200 (List.forall_mem_nil _) (by decide +kernel) ⟨List.forall_mem_nil _, List.forall_mem_nil _, List.forall_mem_cons.mpr ⟨cl_nopa (cl_virtual (y := y_Dr_pointX) (ci := 0) rfl rfl ⟨_, _, rfl⟩ (by decide +kernel) h_Dr_pointX wm_1986 wm_8 wm_1983 wm_1984 wm_1985 ⟨by decide, by decide, by decide +kernel⟩ (by decide)), List.forall_mem_cons.mpr ⟨cl_nopa (cl_virtual (y := y_Dr_pointY) (ci := 0) rfl rfl ⟨_, _, rfl⟩ (by decide +kernel) h_Dr_pointY wm_1991 wm_8 wm_1988 wm_1989 wm_1990 ⟨by decide, by decide, by decide +kernel⟩ (by decide)), List.forall_mem_cons.mpr ⟨cl_nopa (cl_virtual (y := y_Dr_pointX) (ci := 0) rfl rfl ⟨_, _, rfl⟩ (by decide +kernel) h_Dr_pointX wm_1986 wm_8 wm_1983 wm_1984 wm_1985 ⟨by decide, by decide, by decide +kernel⟩ (by decide)), List.forall_mem_cons.mpr ⟨cl_nopa (cl_virtual (y := y_Dr_pointY) (ci := 0) rfl rfl ⟨_, _, rfl⟩ (by decide +kernel) h_Dr_pointY wm_1991 wm_8 wm_1988 wm_1989 wm_1990 ⟨by decide, by decide, by decide +kernel⟩ (by decide)), List.forall_mem_nil _⟩⟩⟩⟩, List.forall_mem_nil _, List.forall_mem_nil _, GG_pl⟩ (by decide +kernel)

def n_Em_turnByCycles_at_gn_an : List an_T := [(2, [(0, (2, 0, 0, [1])), (1, (0, 0, 50, []))], [], (0, 0), [(0, 0, 99998), (1, 1, 50), (0, 0, 100000), (0, 0, 0), (0, 0, 0)], [], [((0, 0), (2, 0, 0, [5]))], [], 0, [], []), (19, [(0, (2, 0, 0, [1])), (1, (0, 0, 49, [])), (2, (0, 0, 25, [])), (3, (0, 0, 25, []))], [], (0, 0), [(0, 0, 99998), (1, 1, 50), (0, 0, 99981), (1, 3, 25), (0, 0, 100000)], [], [((0, 0), (2, 0, 0, [5]))], [], 0, [], [])]
def t_Em_turnByCycles_at_gn_ct : ct_L := [(1, 176, e_Ne_edgeBetween), (1, 217, e_Ne_endAt)]
set_option maxRecDepth 100000 in
theorem c_Em_turnByCycles_at_gn {l : Launch} {D : va_G} {kA : Nat → ClassId} (h_Ne_edgeBetween : ct_ok PRD l D kA GG y_Ne_edgeBetween z_Ne_edgeBetween e_Ne_edgeBetween) (h_Ne_endAt : ct_ok PRD l D kA GG y_Ne_endAt z_Ne_endAt e_Ne_endAt) : ct_ok PRD l D kA GG y_Em_turnByCycles_at_gn z_Em_turnByCycles_at_gn e_Em_turnByCycles_at_gn := chk_all_ok (FT := [(9, 1, 0), (39, 1, 7), (42, 1, 8), (45, 1, 9), (54, 1, 12)]) (PT := []) (CT := t_Em_turnByCycles_at_gn_ct) (KT := []) (NT := []) (AN := n_Em_turnByCycles_at_gn_an) (OT := []) 5 364 (List.forall_mem_nil _) (by decide +kernel) ⟨List.forall_mem_cons.mpr ⟨gf_Em_9, List.forall_mem_cons.mpr ⟨gf_Em_39, List.forall_mem_cons.mpr ⟨gf_Em_42, List.forall_mem_cons.mpr ⟨gf_Em_45, List.forall_mem_cons.mpr ⟨gf_Em_54, List.forall_mem_nil _⟩⟩⟩⟩⟩, List.forall_mem_nil _, List.forall_mem_cons.mpr ⟨cl_virtual (y := y_Ne_edgeBetween) (ci := 5) rfl rfl ⟨_, _, rfl⟩ (by decide +kernel) h_Ne_edgeBetween wm_1089 wm_6 wm_1086 wm_1087 wm_1088 ⟨by decide, by decide, by decide +kernel⟩ (by decide), List.forall_mem_cons.mpr ⟨cl_virtual (y := y_Ne_endAt) (ci := 5) rfl rfl ⟨_, _, rfl⟩ (by decide +kernel) h_Ne_endAt wm_1138 wm_6 wm_1135 wm_1136 wm_1137 ⟨by decide, by decide, by decide +kernel⟩ (by decide), List.forall_mem_nil _⟩⟩, List.forall_mem_nil _, List.forall_mem_nil _, GG_pl⟩ (by decide +kernel)
def n_Em_turnByCycles_at_gp_an : List an_T := [(2, [(0, (2, 0, 0, [1])), (1, (0, 0, 50, []))], [], (0, 0), [(0, 0, 99998), (1, 1, 50), (0, 0, 100000), (0, 0, 0), (0, 0, 0)], [], [((0, 0), (2, 0, 0, [149]))], [], 0, [], []), (19, [(0, (2, 0, 0, [1])), (1, (0, 0, 49, [])), (2, (0, 0, 25, [])), (3, (0, 0, 25, []))], [], (0, 0), [(0, 0, 99998), (1, 1, 50), (0, 0, 99981), (1, 3, 25), (0, 0, 100000)], [], [((0, 0), (2, 0, 0, [149]))], [], 0, [], [])]
def t_Em_turnByCycles_at_gp_ct : ct_L := [(1, 176, e_Ne_edgeBetween), (1, 217, e_Ne_endAt)]
set_option maxRecDepth 100000 in
theorem c_Em_turnByCycles_at_gp {l : Launch} {D : va_G} {kA : Nat → ClassId} (h_Ne_edgeBetween : ct_ok PRD l D kA GG y_Ne_edgeBetween z_Ne_edgeBetween e_Ne_edgeBetween) (h_Ne_endAt : ct_ok PRD l D kA GG y_Ne_endAt z_Ne_endAt e_Ne_endAt) : ct_ok PRD l D kA GG y_Em_turnByCycles_at_gp z_Em_turnByCycles_at_gp e_Em_turnByCycles_at_gp := chk_all_ok (FT := [(9, 1, 0), (39, 1, 7), (42, 1, 8), (45, 1, 9), (54, 1, 12)]) (PT := []) (CT := t_Em_turnByCycles_at_gp_ct) (KT := []) (NT := []) (AN := n_Em_turnByCycles_at_gp_an) (OT := []) 5 364 (List.forall_mem_nil _) (by decide +kernel) ⟨List.forall_mem_cons.mpr ⟨gf_Em_9, List.forall_mem_cons.mpr ⟨gf_Em_39, List.forall_mem_cons.mpr ⟨gf_Em_42, List.forall_mem_cons.mpr ⟨gf_Em_45, List.forall_mem_cons.mpr ⟨gf_Em_54, List.forall_mem_nil _⟩⟩⟩⟩⟩, List.forall_mem_nil _, List.forall_mem_cons.mpr ⟨cl_virtual (y := y_Ne_edgeBetween) (ci := 5) rfl rfl ⟨_, _, rfl⟩ (by decide +kernel) h_Ne_edgeBetween wm_1089 wm_6 wm_1086 wm_1087 wm_1088 ⟨by decide, by decide, by decide +kernel⟩ (by decide), List.forall_mem_cons.mpr ⟨cl_virtual (y := y_Ne_endAt) (ci := 5) rfl rfl ⟨_, _, rfl⟩ (by decide +kernel) h_Ne_endAt wm_1138 wm_6 wm_1135 wm_1136 wm_1137 ⟨by decide, by decide, by decide +kernel⟩ (by decide), List.forall_mem_nil _⟩⟩, List.forall_mem_nil _, List.forall_mem_nil _, GG_pl⟩ (by decide +kernel)
def n_Fa_learnCore_an : List an_T := [(11, [(0, (2, 0, 0, [2])), (1, (2, 0, 0, [3])), (2, (0, 0, 16777215, [])), (3, (0, 0, 24, []))], [], (0, 0), [(0, 0, 99989), (1, 3, 24), (0, 0, 100000), (0, 0, 0), (0, 0, 0)], [], [], [], 0, [], []), (27, [(0, (2, 0, 0, [2])), (1, (2, 0, 0, [3])), (2, (0, 0, 16777215, [])), (3, (0, 0, 23, [])), (4, (0, 0, 16777215, [])), (5, (0, 0, 25, []))], [], (0, 0), [(0, 0, 99989), (1, 3, 24), (0, 0, 99973), (1, 5, 25), (0, 0, 100000)], [], [], [], 0, [], [])]
def t_Fa_learnCore_ct : ct_L := [(1, 152, e_Fa_peel)]
set_option maxRecDepth 100000 in
theorem c_Fa_learnCore {l : Launch} {D : va_G} {kA : Nat → ClassId} (h_Fa_peel : ct_ok PRD l D kA GG y_Fa_peel z_Fa_peel e_Fa_peel) : ct_ok PRD l D kA GG y_Fa_learnCore z_Fa_learnCore e_Fa_learnCore := chk_all_ok (FT := [(64, 3, 0)]) (PT := []) (CT := t_Fa_learnCore_ct) (KT := []) (NT := []) (AN := n_Fa_learnCore_an) (OT := []) 5 200 (List.forall_mem_nil _) (by decide +kernel) ⟨List.forall_mem_cons.mpr ⟨gf_Fa_64, List.forall_mem_nil _⟩, List.forall_mem_nil _, List.forall_mem_cons.mpr ⟨cl_virtual (y := y_Fa_peel) (ci := 2) rfl rfl ⟨_, _, rfl⟩ (by decide +kernel) h_Fa_peel wm_867 wm_7 wm_864 wm_866 wv_2_4 ⟨by decide, by decide, by decide +kernel⟩ (by decide), List.forall_mem_nil _⟩, List.forall_mem_nil _, List.forall_mem_nil _, GG_pl⟩ (by decide +kernel)
def n_Fa_learnStrong_an : List an_T := [(10, [(0, (2, 0, 0, [2])), (1, (2, 0, 0, [3])), (2, (0, 0, 48, []))], [], (0, 0), [(0, 0, 99990), (1, 2, 48), (0, 0, 100000)], [], [], [], 0, [], [])]
def t_Fa_learnStrong_ct : ct_L := [(18, 139, e_jArr_fill1_v61), (265, 148, e_Fa_numberStrong_at_Fastrong)]
set_option maxRecDepth 100000 in
theorem c_Fa_learnStrong {l : Launch} {D : va_G} {kA : Nat → ClassId} (h_Fa_numberStrong_at_Fastrong : ct_ok PRD l D kA GG y_Fa_numberStrong_at_Fastrong z_Fa_numberStrong_at_Fastrong e_Fa_numberStrong_at_Fastrong) : ct_ok PRD l D kA GG y_Fa_learnStrong z_Fa_learnStrong e_Fa_learnStrong := chk_all_ok (FT := [(32, 2, 6), (45, 2, 10), (64, 3, 0), (69, 3, 1), (72, 3, 7), (75, 3, 8), (145, 3, 10)]) (PT := [(22, 2, 3, .int)]) (CT := t_Fa_learnStrong_ct) (KT := []) (NT := []) (AN := n_Fa_learnStrong_an) (OT := []) 3 240 (List.forall_mem_nil _) (by decide +kernel) ⟨List.forall_mem_cons.mpr ⟨gf_Fa_32, List.forall_mem_cons.mpr ⟨gf_Fa_45, List.forall_mem_cons.mpr ⟨gf_Fa_64, List.forall_mem_cons.mpr ⟨gf_Fa_69, List.forall_mem_cons.mpr ⟨gf_Fa_72, List.forall_mem_cons.mpr ⟨gf_Fa_75, List.forall_mem_cons.mpr ⟨gf_Fa_145, List.forall_mem_nil _⟩⟩⟩⟩⟩⟩⟩, List.forall_mem_cons.mpr ⟨pf_Fa_22, List.forall_mem_nil _⟩, List.forall_mem_cons.mpr ⟨cl_static (y := y_jArr_fill1) c_jArr_fill1_v61 wm_55 wm_4 wm_855 wm_54 ⟨by decide, by decide, by decide +kernel⟩ (by decide), List.forall_mem_cons.mpr ⟨cl_virtual (y := y_Fa_numberStrong_at_Fastrong) (ci := 2) rfl rfl ⟨_, _, rfl⟩ (by decide +kernel) h_Fa_numberStrong_at_Fastrong wm_859 wm_7 wm_856 wm_858 wv_2_2 ⟨by decide, by decide, by decide +kernel⟩ (by decide), List.forall_mem_nil _⟩⟩, List.forall_mem_nil _, List.forall_mem_nil _, GG_pl⟩ (by decide +kernel)
def n_Ne_insertAhead_an : List an_T := [(6, [(0, (2, 0, 0, [294])), (1, (0, 0, 71, [])), (2, (0, 0, 23, [])), (3, (0, 0, 71, [])), (4, (0, 0, 71, [])), (5, (0, 0, 72, []))], [], (0, 0), [(0, 0, 99994), (1, 5, 72), (0, 0, 100000)], [], [], [], 0, [], [])]
def t_Ne_insertAhead_ct : ct_L := [(1, 84, e_Ne_endAt), (1, 87, e_Ne_insertBehind)]
set_option maxRecDepth 100000 in
theorem c_Ne_insertAhead {l : Launch} {D : va_G} {kA : Nat → ClassId} (h_Ne_endAt : ct_ok PRD l D kA GG y_Ne_endAt z_Ne_endAt e_Ne_endAt) (h_Ne_insertBehind : ct_ok PRD l D kA GG y_Ne_insertBehind z_Ne_insertBehind e_Ne_insertBehind) : ct_ok PRD l D kA GG y_Ne_insertAhead z_Ne_insertAhead e_Ne_insertAhead := chk_all_ok (FT := [(31, 5, 6), (46, 5, 11)]) (PT := []) (CT := t_Ne_insertAhead_ct) (KT := []) (NT := []) (AN := n_Ne_insertAhead_an) (OT := []) 3 264 (List.forall_mem_nil _) (by decide +kernel) ⟨List.forall_mem_cons.mpr ⟨gf_Ne_31, List.forall_mem_cons.mpr ⟨gf_Ne_46, List.forall_mem_nil _⟩⟩, List.forall_mem_nil _, List.forall_mem_cons.mpr ⟨cl_virtual (y := y_Ne_endAt) (ci := 5) rfl rfl ⟨_, _, rfl⟩ (by decide +kernel) h_Ne_endAt wm_1138 wm_6 wm_1151 wm_1136 wm_1137 ⟨by decide, by decide, by decide +kernel⟩ (by decide), List.forall_mem_cons.mpr ⟨cl_virtual (y := y_Ne_insertBehind) (ci := 5) rfl rfl ⟨_, _, rfl⟩ (by decide +kernel) h_Ne_insertBehind wm_1530 wm_6 wm_1527 wm_1528 wm_1529 ⟨by decide, by decide, by decide +kernel⟩ (by decide), List.forall_mem_nil _⟩⟩, List.forall_mem_nil _, List.forall_mem_nil _, GG_pl⟩ (by decide +kernel)
set_option maxHeartbeats 4000000 in
theorem vc_Pl_gatherItems_0_0 (x1 : Int) (x3 : Int) (x5 : Int) (items_0 : Int) (k1 : 0 ≤ x1 ∧ x1 ≤ 7) (k3 : 0 ≤ x3 ∧ x3 ≤ 0) (k5 : 1 ≤ x5 ∧ x5 ≤ 8) (d0 : x1 + 1 ≤ x5 ∧ x5 ≤ x1 + 1) (fe_0_11_1 : items_0 = x3) (kz_0_11 : 0 ≤ items_0 ∧ items_0 ≤ 32) : 1 * items_0 + ((-1) * x5 + 0) ≤ 0 := by
  first | assumption | omega | grind
def o_Pl_gatherItems_0 : or_T := (9, 6, [(0, (2, 0, 0, [6])), (1, (0, 0, 7, [])), (3, (0, 0, 0, [])), (5, (0, 1, 8, []))], [(101, [0, 3], [11])], [], [], [(20, [0, 5], [30, 0, 1, 1, 11, -1, 0, 0])], [], [(5, 1, 1, 1)])
theorem oo_Pl_gatherItems_0 {kA : Nat → ClassId} : or_ok PRD kA GG o_Pl_gatherItems_0 := by
  refine or_mk fun A ta ws vs hD hth hl => ?_
  intro t0 r0 t1 k1 t3 k3 t5 k5 d0 ta1 w1 le1 s1
  have s1 : (∀ b j, w_el ws b j = w_el w1 b j) ∧ ∀ b j, w_fd ws b j = if b = v_ad (n_v vs 0) ∧ j = 11 then n_v vs 3 else w_fd w1 b j := s1.2
  have fe_0_11_1 : w_fi ws (n_v vs 0) 11 = v_iv (n_v vs 3) := by show v_iv (w_fd _ _ _) = _; rw [s1.2, if_pos ⟨rfl, rfl⟩]
  have kz_0_11 := fdq_7 hD hth r0
  have nf0 : fc_1 PRD (20, [0, 5], [30, 0, 1, 1, 11, -1, 0, 0]) ws (vs) := ⟨nf_in hl rfl, sgq_117 (vc_Pl_gatherItems_0_0 (v_iv (n_v vs 1)) (v_iv (n_v vs 3)) (v_iv (n_v vs 5)) (w_fi ws (n_v vs 0) 11) k1 k3 k5 d0 fe_0_11_1 kz_0_11)⟩
  refine ⟨(fun _ h => (by cases h)), [], trivial, ?_, (fun _ h => (by cases h))⟩
  rw [List.append_nil]
  exact List.forall_mem_cons.mpr ⟨⟨show (20 : Nat) < 100 from by decide, nf0⟩, (fun _ h => (by cases h))⟩
set_option maxHeartbeats 4000000 in
theorem vc_Pl_gatherItems_1_0 (x2 : Int) (x5 : Int) (items_0 : Int) (k2 : 1 ≤ x2 ∧ x2 ≤ 8) (k5 : 0 ≤ x5 ∧ x5 ≤ 0) (f2 : 1 * items_0 + ((-1) * x2 + 0) ≤ 0) (kz_0_11 : 0 ≤ items_0 ∧ items_0 ≤ 32) : 1 * items_0 + ((-1) * x5 + 0) ≤ 8 := by
  first | assumption | omega | grind
def o_Pl_gatherItems_1 : or_T := (57, 6, [(0, (2, 0, 0, [6])), (2, (0, 1, 8, [])), (5, (0, 0, 0, []))], [(20, [0, 2], [30, 0, 1, 1, 11, -1, 0, 0])], [], [], [(20, [0, 5], [30, 8, 1, 1, 11, -1, 0, 0])], [], [])
theorem oo_Pl_gatherItems_1 {kA : Nat → ClassId} : or_ok PRD kA GG o_Pl_gatherItems_1 := by
  refine or_mk fun A ta ws vs hD hth hl => ?_
  intro t0 r0 t2 k2 t5 k5 f2
  have kz_0_11 := fdq_7 hD hth r0
  have nf0 : fc_1 PRD (20, [0, 5], [30, 8, 1, 1, 11, -1, 0, 0]) ws (vs) := ⟨nf_in hl rfl, sgq_162 (vc_Pl_gatherItems_1_0 (v_iv (n_v vs 2)) (v_iv (n_v vs 5)) (w_fi ws (n_v vs 0) 11) k2 k5 (shm_117 f2) kz_0_11)⟩
  refine ⟨(fun _ h => (by cases h)), [], trivial, ?_, (fun _ h => (by cases h))⟩
  rw [List.append_nil]
  exact List.forall_mem_cons.mpr ⟨⟨show (20 : Nat) < 100 from by decide, nf0⟩, (fun _ h => (by cases h))⟩
set_option maxHeartbeats 4000000 in
theorem vc_Pl_gatherItems_2_0 (x2 : Int) (x7 : Int) (items_0 : Int) (k2 : 1 ≤ x2 ∧ x2 ≤ 7) (k7 : 2 ≤ x7 ∧ x7 ≤ 8) (d0 : x2 + 1 ≤ x7 ∧ x7 ≤ x2 + 1) (f3 : 1 * items_0 + ((-1) * x2 + 0) ≤ 0) (kz_0_11 : 0 ≤ items_0 ∧ items_0 ≤ 32) : 1 * items_0 + ((-1) * x7 + 0) ≤ 0 := by
  first | assumption | omega | grind
def o_Pl_gatherItems_2 : or_T := (9, 8, [(0, (2, 0, 0, [6])), (2, (0, 1, 7, [])), (7, (0, 2, 8, []))], [(20, [0, 2], [30, 0, 1, 1, 11, -1, 0, 0])], [], [], [(20, [0, 7], [30, 0, 1, 1, 11, -1, 0, 0])], [], [(7, 2, 1, 1)])
theorem oo_Pl_gatherItems_2 {kA : Nat → ClassId} : or_ok PRD kA GG o_Pl_gatherItems_2 := by
  refine or_mk fun A ta ws vs hD hth hl => ?_
  intro t0 r0 t2 k2 t7 k7 d0 f3
  have kz_0_11 := fdq_7 hD hth r0
  have nf0 : fc_1 PRD (20, [0, 7], [30, 0, 1, 1, 11, -1, 0, 0]) ws (vs) := ⟨nf_in hl rfl, sgq_117 (vc_Pl_gatherItems_2_0 (v_iv (n_v vs 2)) (v_iv (n_v vs 7)) (w_fi ws (n_v vs 0) 11) k2 k7 d0 (shm_117 f3) kz_0_11)⟩
  refine ⟨(fun _ h => (by cases h)), [], trivial, ?_, (fun _ h => (by cases h))⟩
  rw [List.append_nil]
  exact List.forall_mem_cons.mpr ⟨⟨show (20 : Nat) < 100 from by decide, nf0⟩, (fun _ h => (by cases h))⟩
set_option maxHeartbeats 4000000 in
theorem vc_Pl_gatherItems_3_0 (items_0 : Int) (gx : Int) (kz_0_11 : 0 ≤ items_0 ∧ items_0 ≤ 32) (ex2 : gx = items_0) : 1 * items_0 + ((-1) * gx + 0) ≤ 0 := by
  first | assumption | omega | grind
set_option maxHeartbeats 4000000 in
theorem vc_Pl_gatherItems_3_1 (x2 : Int) (items_0 : Int) (gx : Int) (k2 : 1 ≤ x2 ∧ x2 ≤ 7) (f2 : 1 * items_0 + ((-1) * x2 + 0) ≤ 0) (kz_0_11 : 0 ≤ items_0 ∧ items_0 ≤ 32) (ex2 : gx = items_0) : 1 * gx + ((-1) * x2 + 0) ≤ 0 := by
  first | assumption | omega | grind
def o_Pl_gatherItems_3 : or_T := (46, 10, [(0, (2, 0, 0, [6])), (2, (0, 1, 7, [])), (3, (2, 0, 0, [3])), (4, (0, 2, 8, []))], [(7, [2, 4], [2]), (9, [4, 3], [2]), (20, [0, 2], [30, 0, 1, 1, 11, -1, 0, 0])], [], [(0, 0, 31, [])], [(20, [0, 10], [30, 0, 1, 1, 11, -1, 0, 0]), (23, [10, 2], [0, 1, -1])], [], [(2, 4, -4294967296, -1)])
theorem oo_Pl_gatherItems_3 {kA : Nat → ClassId} : or_ok PRD kA GG o_Pl_gatherItems_3 := by
  refine or_mk fun A ta ws vs hD hth hl => ?_
  intro t0 r0 t2 k2 t3 r3 t4 k4 d0 f0 f1 f2
  replace f0 := shm_6 f0
  replace f1 := shm_120 f1
  replace f2 := shm_117 f2
  have g1 : v_iv (n_v vs 4) = w_fi ws (n_v vs 3) 2 := congrArg v_iv f1
  have kz_0_11 := fdq_7 hD hth r0
  have kz_3_2 := fdq_20 hD hth r3
  have kv0 := fdq_7 hD hth r0
  obtain ⟨x, ex, hx⟩ := iv_ex (ta := ta) (lo := 0) (hi := 31) (z := w_fi ws (n_v vs 0) 11) (by omega) (by omega) (by omega) (by omega)
  have ex2 : v_iv (Value.int x) = w_fi ws (n_v vs 0) 11 := ex
  have ex3 : 0 ≤ v_iv (Value.int x) ∧ v_iv (Value.int x) ≤ 31 := tv_rng hx
  have e_0 : n_v (vs ++ [Value.int x]) 0 = n_v vs 0 := n_v_old (by rw [hl]; decide)
  have e_2 : n_v (vs ++ [Value.int x]) 2 = n_v vs 2 := n_v_old (by rw [hl]; decide)
  have e_10 : n_v (vs ++ [Value.int x]) 10 = Value.int x := n_v_new hl
  have nf0 : fc_1 PRD (20, [0, 10], [30, 0, 1, 1, 11, -1, 0, 0]) ws (vs ++ [Value.int x]) := by
    refine ⟨nf_inA hl rfl, sgq_117 ?_⟩
    · show 1 * w_fi ws (n_v (vs ++ [Value.int x]) 0) 11 + ((-1) * v_iv (n_v (vs ++ [Value.int x]) 10) + 0) ≤ 0
      simp only [e_0, e_10]
      exact vc_Pl_gatherItems_3_0 (w_fi ws (n_v vs 0) 11) (v_iv (Value.int x)) kz_0_11 ex2
  have nf1 : fc_1 PRD (23, [10, 2], [0, 1, -1]) ws (vs ++ [Value.int x]) := by
    refine ⟨nf_inA hl rfl, sgq_7 ?_⟩
    · show 1 * v_iv (n_v (vs ++ [Value.int x]) 10) + ((-1) * v_iv (n_v (vs ++ [Value.int x]) 2) + 0) ≤ 0
      simp only [e_2, e_10]
      exact vc_Pl_gatherItems_3_1 (v_iv (n_v vs 2)) (w_fi ws (n_v vs 0) 11) (v_iv (Value.int x)) k2 f2 kz_0_11 ex2
  exact ⟨(fun _ h => (by cases h)), [Value.int x], ag_one hx, List.forall_mem_cons.mpr ⟨⟨show (20 : Nat) < 100 from by decide, nf0⟩, List.forall_mem_cons.mpr ⟨⟨show (23 : Nat) < 100 from by decide, nf1⟩, (fun _ h => (by cases h))⟩⟩, (fun _ h => (by cases h))⟩
set_option maxHeartbeats 4000000 in
theorem vc_Pl_gatherItems_4_0 (x2 : Int) (x10 : Int) (x11 : Int) (items_0 : Int) (k2 : 1 ≤ x2 ∧ x2 ≤ 7) (k10 : 0 ≤ x10 ∧ x10 ≤ 31) (k11 : 2 ≤ x11 ∧ x11 ≤ 8) (d0 : x2 + 1 ≤ x11 ∧ x11 ≤ x2 + 1) (f1 : 1 * x10 + ((-1) * x2 + 0) ≤ 0) (f2 : 1 * items_0 + ((-1) * x10 + 0) ≤ 1) (kz_0_11 : 0 ≤ items_0 ∧ items_0 ≤ 32) : 1 * items_0 + ((-1) * x11 + 0) ≤ 0 := by
  first | assumption | omega | grind
def o_Pl_gatherItems_4 : or_T := (9, 12, [(0, (2, 0, 0, [6])), (2, (0, 1, 7, [])), (10, (0, 0, 31, [])), (11, (0, 2, 8, []))], [(23, [10, 2], [0, 1, -1]), (20, [0, 10], [30, 1, 1, 1, 11, -1, 0, 0])], [], [], [(20, [0, 11], [30, 0, 1, 1, 11, -1, 0, 0])], [], [(11, 2, 1, 1)])
theorem oo_Pl_gatherItems_4 {kA : Nat → ClassId} : or_ok PRD kA GG o_Pl_gatherItems_4 := by
  refine or_mk fun A ta ws vs hD hth hl => ?_
  intro t0 r0 t2 k2 t10 k10 t11 k11 d0 f1 f2
  have kz_0_11 := fdq_7 hD hth r0
  have nf0 : fc_1 PRD (20, [0, 11], [30, 0, 1, 1, 11, -1, 0, 0]) ws (vs) := ⟨nf_in hl rfl, sgq_117 (vc_Pl_gatherItems_4_0 (v_iv (n_v vs 2)) (v_iv (n_v vs 10)) (v_iv (n_v vs 11)) (w_fi ws (n_v vs 0) 11) k2 k10 k11 d0 (shm_7 f1) (shm_118 f2) kz_0_11)⟩
  refine ⟨(fun _ h => (by cases h)), [], trivial, ?_, (fun _ h => (by cases h))⟩
  rw [List.append_nil]
  exact List.forall_mem_cons.mpr ⟨⟨show (20 : Nat) < 100 from by decide, nf0⟩, (fun _ h => (by cases h))⟩
set_option maxHeartbeats 4000000 in
theorem vc_Pl_gatherItems_5_0 (x2 : Int) (x7 : Int) (items_0 : Int) (k2 : 0 ≤ x2 ∧ x2 ≤ 23) (k7 : 1 ≤ x7 ∧ x7 ≤ 24) (d0 : x2 + 1 ≤ x7 ∧ x7 ≤ x2 + 1) (f3 : 1 * items_0 + ((-1) * x2 + 0) ≤ 8) (kz_0_11 : 0 ≤ items_0 ∧ items_0 ≤ 32) : 1 * items_0 + ((-1) * x7 + 0) ≤ 8 := by
  first | assumption | omega | grind
def o_Pl_gatherItems_5 : or_T := (57, 8, [(0, (2, 0, 0, [6])), (2, (0, 0, 23, [])), (7, (0, 1, 24, []))], [(20, [0, 2], [30, 8, 1, 1, 11, -1, 0, 0])], [], [], [(20, [0, 7], [30, 8, 1, 1, 11, -1, 0, 0])], [], [(7, 2, 1, 1)])
theorem oo_Pl_gatherItems_5 {kA : Nat → ClassId} : or_ok PRD kA GG o_Pl_gatherItems_5 := by
  refine or_mk fun A ta ws vs hD hth hl => ?_
  intro t0 r0 t2 k2 t7 k7 d0 f3
  have kz_0_11 := fdq_7 hD hth r0
  have nf0 : fc_1 PRD (20, [0, 7], [30, 8, 1, 1, 11, -1, 0, 0]) ws (vs) := ⟨nf_in hl rfl, sgq_162 (vc_Pl_gatherItems_5_0 (v_iv (n_v vs 2)) (v_iv (n_v vs 7)) (w_fi ws (n_v vs 0) 11) k2 k7 d0 (shm_162 f3) kz_0_11)⟩
  refine ⟨(fun _ h => (by cases h)), [], trivial, ?_, (fun _ h => (by cases h))⟩
  rw [List.append_nil]
  exact List.forall_mem_cons.mpr ⟨⟨show (20 : Nat) < 100 from by decide, nf0⟩, (fun _ h => (by cases h))⟩
set_option maxHeartbeats 4000000 in
theorem vc_Pl_gatherItems_6_0 (items_0 : Int) (gx : Int) (kz_0_11 : 0 ≤ items_0 ∧ items_0 ≤ 32) (ex2 : gx = items_0) : 1 * items_0 + ((-1) * gx + 0) ≤ 0 := by
  first | assumption | omega | grind
set_option maxHeartbeats 4000000 in
theorem vc_Pl_gatherItems_6_1 (x2 : Int) (items_0 : Int) (gx : Int) (k2 : 0 ≤ x2 ∧ x2 ≤ 23) (f2 : 1 * items_0 + ((-1) * x2 + 0) ≤ 8) (kz_0_11 : 0 ≤ items_0 ∧ items_0 ≤ 32) (ex2 : gx = items_0) : 1 * gx + ((-1) * x2 + 0) ≤ 8 := by
  first | assumption | omega | grind
def o_Pl_gatherItems_6 : or_T := (92, 9, [(0, (2, 0, 0, [6])), (2, (0, 0, 23, [])), (3, (2, 0, 0, [3])), (4, (0, 1, 24, []))], [(7, [2, 4], [2]), (9, [4, 3], [0]), (20, [0, 2], [30, 8, 1, 1, 11, -1, 0, 0])], [], [(0, 0, 31, [])], [(20, [0, 9], [30, 0, 1, 1, 11, -1, 0, 0]), (23, [9, 2], [8, 1, -1])], [], [(2, 4, -4294967296, -1)])
theorem oo_Pl_gatherItems_6 {kA : Nat → ClassId} : or_ok PRD kA GG o_Pl_gatherItems_6 := by
  refine or_mk fun A ta ws vs hD hth hl => ?_
  intro t0 r0 t2 k2 t3 r3 t4 k4 d0 f0 f1 f2
  replace f0 := shm_6 f0
  replace f1 := shm_163 f1
  replace f2 := shm_162 f2
  have g1 : v_iv (n_v vs 4) = w_fi ws (n_v vs 3) 0 := congrArg v_iv f1
  have kz_0_11 := fdq_7 hD hth r0
  have kz_3_0 := fdq_21 hD hth r3
  have kv0 := fdq_7 hD hth r0
  obtain ⟨x, ex, hx⟩ := iv_ex (ta := ta) (lo := 0) (hi := 31) (z := w_fi ws (n_v vs 0) 11) (by omega) (by omega) (by omega) (by omega)
  have ex2 : v_iv (Value.int x) = w_fi ws (n_v vs 0) 11 := ex
  have ex3 : 0 ≤ v_iv (Value.int x) ∧ v_iv (Value.int x) ≤ 31 := tv_rng hx
  have e_0 : n_v (vs ++ [Value.int x]) 0 = n_v vs 0 := n_v_old (by rw [hl]; decide)
  have e_2 : n_v (vs ++ [Value.int x]) 2 = n_v vs 2 := n_v_old (by rw [hl]; decide)
  have e_9 : n_v (vs ++ [Value.int x]) 9 = Value.int x := n_v_new hl
  have nf0 : fc_1 PRD (20, [0, 9], [30, 0, 1, 1, 11, -1, 0, 0]) ws (vs ++ [Value.int x]) := by
    refine ⟨nf_inA hl rfl, sgq_117 ?_⟩
    · show 1 * w_fi ws (n_v (vs ++ [Value.int x]) 0) 11 + ((-1) * v_iv (n_v (vs ++ [Value.int x]) 9) + 0) ≤ 0
      simp only [e_0, e_9]
      exact vc_Pl_gatherItems_6_0 (w_fi ws (n_v vs 0) 11) (v_iv (Value.int x)) kz_0_11 ex2
  have nf1 : fc_1 PRD (23, [9, 2], [8, 1, -1]) ws (vs ++ [Value.int x]) := by
    refine ⟨nf_inA hl rfl, sgq_164 ?_⟩
    · show 1 * v_iv (n_v (vs ++ [Value.int x]) 9) + ((-1) * v_iv (n_v (vs ++ [Value.int x]) 2) + 0) ≤ 8
      simp only [e_2, e_9]
      exact vc_Pl_gatherItems_6_1 (v_iv (n_v vs 2)) (w_fi ws (n_v vs 0) 11) (v_iv (Value.int x)) k2 f2 kz_0_11 ex2
  exact ⟨(fun _ h => (by cases h)), [Value.int x], ag_one hx, List.forall_mem_cons.mpr ⟨⟨show (20 : Nat) < 100 from by decide, nf0⟩, List.forall_mem_cons.mpr ⟨⟨show (23 : Nat) < 100 from by decide, nf1⟩, (fun _ h => (by cases h))⟩⟩, (fun _ h => (by cases h))⟩
set_option maxHeartbeats 4000000 in
theorem vc_Pl_gatherItems_7_0 (x2 : Int) (x9 : Int) (x10 : Int) (items_0 : Int) (k2 : 0 ≤ x2 ∧ x2 ≤ 23) (k9 : 0 ≤ x9 ∧ x9 ≤ 31) (k10 : 1 ≤ x10 ∧ x10 ≤ 24) (d0 : x2 + 1 ≤ x10 ∧ x10 ≤ x2 + 1) (f1 : 1 * x9 + ((-1) * x2 + 0) ≤ 8) (f2 : 1 * items_0 + ((-1) * x9 + 0) ≤ 1) (kz_0_11 : 0 ≤ items_0 ∧ items_0 ≤ 32) : 1 * items_0 + ((-1) * x10 + 0) ≤ 8 := by
  first | assumption | omega | grind
def o_Pl_gatherItems_7 : or_T := (57, 11, [(0, (2, 0, 0, [6])), (2, (0, 0, 23, [])), (9, (0, 0, 31, [])), (10, (0, 1, 24, []))], [(23, [9, 2], [8, 1, -1]), (20, [0, 9], [30, 1, 1, 1, 11, -1, 0, 0])], [], [], [(20, [0, 10], [30, 8, 1, 1, 11, -1, 0, 0])], [], [(10, 2, 1, 1)])
theorem oo_Pl_gatherItems_7 {kA : Nat → ClassId} : or_ok PRD kA GG o_Pl_gatherItems_7 := by
  refine or_mk fun A ta ws vs hD hth hl => ?_
  intro t0 r0 t2 k2 t9 k9 t10 k10 d0 f1 f2
  have kz_0_11 := fdq_7 hD hth r0
  have nf0 : fc_1 PRD (20, [0, 10], [30, 8, 1, 1, 11, -1, 0, 0]) ws (vs) := ⟨nf_in hl rfl, sgq_162 (vc_Pl_gatherItems_7_0 (v_iv (n_v vs 2)) (v_iv (n_v vs 9)) (v_iv (n_v vs 10)) (w_fi ws (n_v vs 0) 11) k2 k9 k10 d0 (shm_164 f1) (shm_118 f2) kz_0_11)⟩
  refine ⟨(fun _ h => (by cases h)), [], trivial, ?_, (fun _ h => (by cases h))⟩
  rw [List.append_nil]
  exact List.forall_mem_cons.mpr ⟨⟨show (20 : Nat) < 100 from by decide, nf0⟩, (fun _ h => (by cases h))⟩
def n_Pl_gatherItems_an : List an_T := [(9, [(0, (2, 0, 0, [6])), (1, (0, 0, 7, [])), (2, (0, 1, 8, []))], [], (0, 0), [(0, 0, 99991), (1, 2, 8), (0, 0, 100000)], [(1, 2, (Int.negSucc 999999999999), (Int.negSucc 0))], [((0, 0), (2, 0, 0, [3]))], [], 0, [], [(20, [0, 2], [30, 0, 1, 1, 11, (Int.negSucc 0), 0, 0])]), (57, [(0, (2, 0, 0, [6])), (1, (0, 0, 7, [])), (2, (0, 0, 24, []))], [], (0, 0), [(0, 0, 99943), (1, 2, 24), (0, 0, 100000)], [], [((0, 0), (2, 0, 0, [3]))], [], 0, [], [(20, [0, 2], [30, 8, 1, 1, 11, (Int.negSucc 0), 0, 0])])]
def t_Pl_gatherItems_ct : ct_L := [(1, 169, e_Gr_sizeOfGroup), (1, 187, e_Pl_insertItem)]
set_option maxRecDepth 100000 in
theorem c_Pl_gatherItems {l : Launch} {D : va_G} {kA : Nat → ClassId} (h_Gr_sizeOfGroup : ct_ok PRD l D kA GG y_Gr_sizeOfGroup z_Gr_sizeOfGroup e_Gr_sizeOfGroup) (h_Pl_insertItem : ct_ok PRD l D kA GG y_Pl_insertItem z_Pl_insertItem e_Pl_insertItem) : ct_ok PRD l D kA GG y_Pl_gatherItems z_Pl_gatherItems e_Pl_gatherItems := chk_all_ok (FT := [(9, 6, 0), (74, 3, 0), (166, 3, 2), (184, 3, 11), (191, 3, 6), (194, 3, 5)]) (PT := [(48, 6, 11, .int)]) (CT := t_Pl_gatherItems_ct) (KT := []) (NT := []) (AN := n_Pl_gatherItems_an) (OT := [o_Pl_gatherItems_0, o_Pl_gatherItems_1, o_Pl_gatherItems_2, o_Pl_gatherItems_3, o_Pl_gatherItems_4, o_Pl_gatherItems_5, o_Pl_gatherItems_6, o_Pl_gatherItems_7]) 3 236 (List.forall_mem_cons.mpr ⟨oo_Pl_gatherItems_0, List.forall_mem_cons.mpr ⟨oo_Pl_gatherItems_1, List.forall_mem_cons.mpr ⟨oo_Pl_gatherItems_2, List.forall_mem_cons.mpr ⟨oo_Pl_gatherItems_3, List.forall_mem_cons.mpr ⟨oo_Pl_gatherItems_4, List.forall_mem_cons.mpr ⟨oo_Pl_gatherItems_5, List.forall_mem_cons.mpr ⟨oo_Pl_gatherItems_6, List.forall_mem_cons.mpr ⟨oo_Pl_gatherItems_7, List.forall_mem_nil _⟩⟩⟩⟩⟩⟩⟩⟩) (by decide +kernel) ⟨List.forall_mem_cons.mpr ⟨gf_Pl_9, List.forall_mem_cons.mpr ⟨gf_Pl_74, List.forall_mem_cons.mpr ⟨gf_Pl_166, List.forall_mem_cons.mpr ⟨gf_Pl_184, List.forall_mem_cons.mpr ⟨gf_Pl_191, List.forall_mem_cons.mpr ⟨gf_Pl_194, List.forall_mem_nil _⟩⟩⟩⟩⟩⟩, List.forall_mem_cons.mpr ⟨pf_Pl_48, List.forall_mem_nil _⟩, List.forall_mem_cons.mpr ⟨cl_virtual (y := y_Gr_sizeOfGroup) (ci := 3) rfl rfl ⟨_, _, rfl⟩ (by decide +kernel) h_Gr_sizeOfGroup wm_946 wm_3 wm_1726 wm_944 wm_945 ⟨by decide, by decide, by decide +kernel⟩ (by decide), List.forall_mem_cons.mpr ⟨cl_virtual (y := y_Pl_insertItem) (ci := 6) rfl rfl ⟨_, _, rfl⟩ (by decide +kernel) h_Pl_insertItem wm_1734 wm_21 wm_1731 wm_1733 wv_7_15 ⟨by decide, by decide, by decide +kernel⟩ (by decide), List.forall_mem_nil _⟩⟩, List.forall_mem_nil _, List.forall_mem_nil _, GG_pl⟩ (by decide +kernel)
def n_Pl_ringCrossings_an : List an_T := [(6, [(0, (2, 0, 0, [6])), (1, (0, 0, 16777215, [])), (2, (0, (Int.negSucc 2147483647), 2147483647, [])), (3, (0, 0, 24, []))], [], (0, 0), [(0, 0, 99994), (1, 3, 24), (0, 0, 100000)], [], [((0, 0), (2, 0, 0, [3]))], [], 0, [], [])]
def t_Pl_ringCrossings_ct : ct_L := [(1, 227, e_Pl_crossingsAt)]
set_option maxRecDepth 100000 in
theorem c_Pl_ringCrossings {l : Launch} {D : va_G} {kA : Nat → ClassId} (h_Pl_crossingsAt : ct_ok PRD l D kA GG y_Pl_crossingsAt z_Pl_crossingsAt e_Pl_crossingsAt) : ct_ok PRD l D kA GG y_Pl_ringCrossings z_Pl_ringCrossings e_Pl_ringCrossings := chk_all_ok (FT := [(9, 6, 0), (19, 6, 2), (74, 3, 0)]) (PT := []) (CT := t_Pl_ringCrossings_ct) (KT := []) (NT := []) (AN := n_Pl_ringCrossings_an) (OT := []) 3 200 (List.forall_mem_nil _) (by decide +kernel) ⟨List.forall_mem_cons.mpr ⟨gf_Pl_9, List.forall_mem_cons.mpr ⟨gf_Pl_19, List.forall_mem_cons.mpr ⟨gf_Pl_74, List.forall_mem_nil _⟩⟩⟩, List.forall_mem_nil _, List.forall_mem_cons.mpr ⟨cl_virtual (y := y_Pl_crossingsAt) (ci := 6) rfl rfl ⟨_, _, rfl⟩ (by decide +kernel) h_Pl_crossingsAt wm_1770 wm_21 wm_1767 wm_1769 wv_8_6 ⟨by decide, by decide, by decide +kernel⟩ (by decide), List.forall_mem_nil _⟩, List.forall_mem_nil _, List.forall_mem_nil _, GG_pl⟩ (by decide +kernel)
def n_Pn_init_an : List an_T := []
def t_Pn_init_ct : ct_L := [(8, 3, e_acp_19), (2000005, 0, e_Ne_init_nw)]
set_option maxRecDepth 100000 in
theorem c_Pn_init {l : Launch} {D : va_G} {kA : Nat → ClassId} (h_Ne_init : ct_ok PRD l D kA GG y_Ne_init z_Ne_init e_Ne_init) : ct_ok PRD l D kA GG y_Pn_init z_Pn_init e_Pn_init := chk_all_ok (FT := []) (PT := [(12, 7, 0, .object "DrawingHouse$Net"), (18, 7, 1, .array .int), (22, 7, 2, .array .int), (25, 7, 3, .int), (29, 7, 4, .array .int), (32, 7, 5, .array .int), (35, 7, 6, .array .int), (38, 7, 7, .array .int), (41, 7, 8, .array .int)]) (CT := t_Pn_init_ct) (KT := []) (NT := [(18, 102, .int), (26, 103, .int), (39, 104, .int), (47, 105, .int), (55, 106, .int), (64, 107, .int), (72, 108, .int)]) (AN := n_Pn_init_an) (OT := []) 0 200 (List.forall_mem_nil _) (by decide +kernel) ⟨List.forall_mem_nil _, List.forall_mem_cons.mpr ⟨pf_Pn_12, List.forall_mem_cons.mpr ⟨pf_Pn_18, List.forall_mem_cons.mpr ⟨pf_Pn_22, List.forall_mem_cons.mpr ⟨pf_Pn_25, List.forall_mem_cons.mpr ⟨pf_Pn_29, List.forall_mem_cons.mpr ⟨pf_Pn_32, List.forall_mem_cons.mpr ⟨pf_Pn_35, List.forall_mem_cons.mpr ⟨pf_Pn_38, List.forall_mem_cons.mpr ⟨pf_Pn_41, List.forall_mem_nil _⟩⟩⟩⟩⟩⟩⟩⟩⟩, List.forall_mem_cons.mpr ⟨cl_obj rfl wm_1470 wm_31 wm_32, List.forall_mem_cons.mpr ⟨cq_new (PQ := PRD) (pc := 5) (idx := 9) (index := 11) (rr := 305) (r := 294) h_Ne_init rfl rfl (by decide +kernel) (by decide +kernel) rfl rfl rfl (ro_none (G := GG) (by decide +kernel)) rfl rfl rfl rfl (by decide +kernel) (by decide +kernel) (by decide +kernel) i_Ne t_Ne t_Ne_ok wm_1471 wm_243 wm_6 rfl f0Ne_ok wm_246 wm_6 (Or.inr ⟨_, wn_1472⟩) wm_245 rfl ⟨by decide, by decide, by decide +kernel⟩ (by decide) (by decide +kernel) (by decide +kernel) (by decide +kernel), List.forall_mem_nil _⟩⟩, List.forall_mem_nil _, List.forall_mem_cons.mpr ⟨wm_193, List.forall_mem_cons.mpr ⟨wm_193, List.forall_mem_cons.mpr ⟨wm_193, List.forall_mem_cons.mpr ⟨wm_193, List.forall_mem_cons.mpr ⟨wm_193, List.forall_mem_cons.mpr ⟨wm_193, List.forall_mem_cons.mpr ⟨wm_193, List.forall_mem_nil _⟩⟩⟩⟩⟩⟩⟩, GG_pl⟩ (by decide +kernel)
def n_Sy_lookAtEdge_an : List an_T := [(91, [(0, (2, 0, 0, [11])), (1, (2, 0, 0, [3])), (2, (2, 0, 0, [2])), (3, (2, 0, 0, [0])), (4, (0, 0, 47, [])), (5, (0, 0, 23, [])), (6, (0, 0, 23, [])), (7, (0, 0, 1460000000, []))], [(1, 0, 1, []), (0, 1, 1, []), (2, 0, 0, [130])], (0, 0), [(0, 0, 99909)], [], [], [], 0, [], []), (111, [(0, (2, 0, 0, [11])), (1, (2, 0, 0, [3])), (2, (2, 0, 0, [2])), (3, (2, 0, 0, [0])), (4, (0, 0, 47, [])), (5, (0, 0, 23, [])), (6, (0, 0, 23, [])), (7, (0, 0, 1460000000, []))], [(1, 0, 1, []), (0, 2, 2, []), (2, 0, 0, [130])], (0, 0), [(0, 0, 99889)], [], [], [], 0, [], []), (165, [(0, (2, 0, 0, [11])), (1, (2, 0, 0, [3])), (2, (2, 0, 0, [2])), (3, (2, 0, 0, [0])), (4, (0, 0, 47, [])), (5, (0, 0, 23, [])), (6, (0, 0, 23, [])), (7, (0, 0, 1460000000, []))], [(1, 0, 1460000000, []), (0, 6, 6, []), (2, 0, 0, [130])], (0, 0), [(0, 0, 99835)], [], [((3, 1), (0, (Int.negSucc 0), 7, []))], [], 0, [], [])]
def t_Sy_lookAtEdge_ct : ct_L := [(1, 241, e_Fa_isBridge), (102, 231, e_jMath_abs1_v53), (156, 231, e_jMath_abs1_v53)]
set_option maxRecDepth 100000 in
theorem c_Sy_lookAtEdge {l : Launch} {D : va_G} {kA : Nat → ClassId} (h_Fa_isBridge : ct_ok PRD l D kA GG y_Fa_isBridge z_Fa_isBridge e_Fa_isBridge) : ct_ok PRD l D kA GG y_Sy_lookAtEdge z_Sy_lookAtEdge e_Sy_lookAtEdge := chk_all_ok (FT := [(66, 11, 16), (191, 3, 8), (194, 3, 7), (197, 0, 1), (225, 0, 2), (228, 0, 3), (234, 3, 9), (237, 2, 9), (244, 2, 5), (247, 3, 10)]) (PT := []) (CT := t_Sy_lookAtEdge_ct) (KT := []) (NT := []) (AN := n_Sy_lookAtEdge_an) (OT := []) 1 428 (List.forall_mem_nil _) (by decide +kernel) ⟨List.forall_mem_cons.mpr ⟨gf_Sy_66, List.forall_mem_cons.mpr ⟨gf_Sy_191, List.forall_mem_cons.mpr ⟨gf_Sy_194, List.forall_mem_cons.mpr ⟨gf_Sy_197, List.forall_mem_cons.mpr ⟨gf_Sy_225, List.forall_mem_cons.mpr ⟨gf_Sy_228, List.forall_mem_cons.mpr ⟨gf_Sy_234, List.forall_mem_cons.mpr ⟨gf_Sy_237, List.forall_mem_cons.mpr ⟨gf_Sy_244, List.forall_mem_cons.mpr ⟨gf_Sy_247, List.forall_mem_nil _⟩⟩⟩⟩⟩⟩⟩⟩⟩⟩, List.forall_mem_nil _, List.forall_mem_cons.mpr ⟨cl_virtual (y := y_Fa_isBridge) (ci := 2) rfl rfl ⟨_, _, rfl⟩ (by decide +kernel) h_Fa_isBridge wm_934 wm_7 wm_2322 wm_932 wm_933 ⟨by decide, by decide, by decide +kernel⟩ (by decide), List.forall_mem_cons.mpr ⟨cl_static (y := y_jMath_abs1) c_jMath_abs1_v53 wm_1811 wm_10 wm_2321 wm_1810 ⟨by decide, by decide, by decide +kernel⟩ (by decide), List.forall_mem_cons.mpr ⟨cl_static (y := y_jMath_abs1) c_jMath_abs1_v53 wm_1811 wm_10 wm_2321 wm_1810 ⟨by decide, by decide, by decide +kernel⟩ (by decide), List.forall_mem_nil _⟩⟩⟩, List.forall_mem_nil _, List.forall_mem_nil _, GG_pl⟩ (by decide +kernel)
set_option maxHeartbeats 4000000 in
theorem vc_Mo_bound_0_0 (x3 : Int) (x7 : Int) (x8 : Int) (mostY_1 : Int) (leastY_2 : Int) (mostY_2 : Int) (mostX_3 : Int) (leastY_3 : Int) (mostY_3 : Int) (leastX_4 : Int) (mostX_4 : Int) (leastY_4 : Int) (mostY_4 : Int) (leastX_0 : Int) (leastX_1 : Int) (mostX_0 : Int) (mostX_1 : Int) (leastY_0 : Int) (leastY_1 : Int) (leastX_2 : Int) (mostX_2 : Int) (leastX_3 : Int) (k3 : (-2147483648) ≤ x3 ∧ x3 ≤ 2147483647) (k7 : (-2147483648) ≤ x7 ∧ x7 ≤ 300000000) (k8 : (-2147483648) ≤ x8 ∧ x8 ≤ 300000000) (f25 : x8 ≤ x7) (g27 : x7 = leastX_4) (f28 : 1 * leastX_4 + ((-1) * x3 + 0) ≤ 0) (f29 : (-1) * leastX_4 + (1 * x3 + 0) ≤ 0) (fe_0_153_1 : leastX_0 = leastX_1) (fe_0_154_1 : mostX_0 = mostX_1) (fe_0_155_1 : leastY_0 = leastY_1) (fe_0_153_2 : leastX_1 = leastX_2) (fe_0_154_2 : mostX_1 = mostX_2) (fe_0_156_2 : mostY_1 = mostY_2) (fe_0_153_3 : leastX_2 = leastX_3) (fe_0_155_3 : leastY_2 = leastY_3) (fe_0_156_3 : mostY_2 = mostY_3) (fe_0_153_4 : leastX_3 = x8) (fe_0_154_4 : mostX_3 = mostX_4) (fe_0_155_4 : leastY_3 = leastY_4) (fe_0_156_4 : mostY_3 = mostY_4) (kz_0_153 : (-2147483648) ≤ leastX_0 ∧ leastX_0 ≤ 300000000) (kz_0_154 : (-900000000) ≤ mostX_0 ∧ mostX_0 ≤ 2147483647) (kz_0_155 : (-2147483648) ≤ leastY_0 ∧ leastY_0 ≤ 300000000) : 1 * leastX_0 + ((-1) * x3 + 0) ≤ 0 := by
  subst fe_0_153_1
  subst fe_0_154_1
  subst fe_0_155_1
  subst fe_0_153_2
  subst fe_0_154_2
  subst fe_0_156_2
  subst fe_0_153_3
  subst fe_0_155_3
  subst fe_0_156_3
  subst fe_0_154_4
  subst fe_0_155_4
  subst fe_0_156_4
  first | assumption | omega | grind
set_option maxHeartbeats 4000000 in
theorem vc_Mo_bound_0_1 (x4 : Int) (x9 : Int) (x10 : Int) (mostY_1 : Int) (leastY_2 : Int) (mostY_2 : Int) (mostX_3 : Int) (leastY_3 : Int) (mostY_3 : Int) (mostX_4 : Int) (leastY_4 : Int) (mostY_4 : Int) (leastX_0 : Int) (leastX_1 : Int) (mostX_0 : Int) (mostX_1 : Int) (leastY_0 : Int) (leastY_1 : Int) (leastX_2 : Int) (mostX_2 : Int) (leastX_3 : Int) (k4 : (-2147483648) ≤ x4 ∧ x4 ≤ 2147483647) (k9 : (-900000000) ≤ x9 ∧ x9 ≤ 2147483647) (k10 : (-900000000) ≤ x10 ∧ x10 ≤ 2147483647) (f15 : x9 ≤ x10) (g17 : x9 = mostX_3) (f18 : 1 * mostX_3 + ((-1) * x4 + 0) ≤ 0) (f19 : (-1) * mostX_3 + (1 * x4 + 0) ≤ 0) (fe_0_153_1 : leastX_0 = leastX_1) (fe_0_154_1 : mostX_0 = mostX_1) (fe_0_155_1 : leastY_0 = leastY_1) (fe_0_153_2 : leastX_1 = leastX_2) (fe_0_154_2 : mostX_1 = mostX_2) (fe_0_156_2 : mostY_1 = mostY_2) (fe_0_153_3 : leastX_2 = leastX_3) (fe_0_154_3 : mostX_2 = x10) (fe_0_155_3 : leastY_2 = leastY_3) (fe_0_156_3 : mostY_2 = mostY_3) (fe_0_154_4 : mostX_3 = mostX_4) (fe_0_155_4 : leastY_3 = leastY_4) (fe_0_156_4 : mostY_3 = mostY_4) (kz_0_153 : (-2147483648) ≤ leastX_0 ∧ leastX_0 ≤ 300000000) (kz_0_154 : (-900000000) ≤ mostX_0 ∧ mostX_0 ≤ 2147483647) (kz_0_155 : (-2147483648) ≤ leastY_0 ∧ leastY_0 ≤ 300000000) : (-1) * mostX_0 + (1 * x4 + 0) ≤ 0 := by
  subst fe_0_153_1
  subst fe_0_154_1
  subst fe_0_155_1
  subst fe_0_153_2
  subst fe_0_154_2
  subst fe_0_156_2
  subst fe_0_153_3
  subst fe_0_155_3
  subst fe_0_156_3
  subst fe_0_154_4
  subst fe_0_155_4
  subst fe_0_156_4
  first | assumption | omega | grind
set_option maxHeartbeats 4000000 in
theorem vc_Mo_bound_0_2 (x5 : Int) (x11 : Int) (x12 : Int) (mostY_1 : Int) (leastY_2 : Int) (mostY_2 : Int) (mostX_3 : Int) (leastY_3 : Int) (mostY_3 : Int) (mostX_4 : Int) (leastY_4 : Int) (mostY_4 : Int) (leastX_0 : Int) (leastX_1 : Int) (mostX_0 : Int) (mostX_1 : Int) (leastY_0 : Int) (leastY_1 : Int) (leastX_2 : Int) (mostX_2 : Int) (leastX_3 : Int) (k5 : (-2147483648) ≤ x5 ∧ x5 ≤ 2147483647) (k11 : (-2147483648) ≤ x11 ∧ x11 ≤ 300000000) (k12 : (-2147483648) ≤ x12 ∧ x12 ≤ 300000000) (f7 : x12 ≤ x11) (g9 : x11 = leastY_2) (f10 : 1 * leastY_2 + ((-1) * x5 + 0) ≤ 0) (f11 : (-1) * leastY_2 + (1 * x5 + 0) ≤ 0) (fe_0_153_1 : leastX_0 = leastX_1) (fe_0_154_1 : mostX_0 = mostX_1) (fe_0_155_1 : leastY_0 = leastY_1) (fe_0_153_2 : leastX_1 = leastX_2) (fe_0_154_2 : mostX_1 = mostX_2) (fe_0_155_2 : leastY_1 = x12) (fe_0_156_2 : mostY_1 = mostY_2) (fe_0_153_3 : leastX_2 = leastX_3) (fe_0_155_3 : leastY_2 = leastY_3) (fe_0_156_3 : mostY_2 = mostY_3) (fe_0_154_4 : mostX_3 = mostX_4) (fe_0_155_4 : leastY_3 = leastY_4) (fe_0_156_4 : mostY_3 = mostY_4) (kz_0_153 : (-2147483648) ≤ leastX_0 ∧ leastX_0 ≤ 300000000) (kz_0_154 : (-900000000) ≤ mostX_0 ∧ mostX_0 ≤ 2147483647) (kz_0_155 : (-2147483648) ≤ leastY_0 ∧ leastY_0 ≤ 300000000) : 1 * leastY_0 + ((-1) * x5 + 0) ≤ 0 := by
  subst fe_0_153_1
  subst fe_0_154_1
  subst fe_0_155_1
  subst fe_0_153_2
  subst fe_0_154_2
  subst fe_0_156_2
  subst fe_0_153_3
  subst fe_0_155_3
  subst fe_0_156_3
  subst fe_0_154_4
  subst fe_0_155_4
  subst fe_0_156_4
  first | assumption | omega | grind
set_option maxHeartbeats 4000000 in
theorem vc_Mo_bound_0_3 (x6 : Int) (x13 : Int) (x14 : Int) (mostY_1 : Int) (leastY_2 : Int) (mostY_2 : Int) (mostX_3 : Int) (leastY_3 : Int) (mostY_3 : Int) (mostX_4 : Int) (leastY_4 : Int) (mostY_4 : Int) (leastX_0 : Int) (leastX_1 : Int) (mostX_0 : Int) (mostX_1 : Int) (leastY_0 : Int) (leastY_1 : Int) (mostY_0 : Int) (leastX_2 : Int) (mostX_2 : Int) (leastX_3 : Int) (k6 : (-2147483648) ≤ x6 ∧ x6 ≤ 2147483647) (k13 : (-900000000) ≤ x13 ∧ x13 ≤ 2147483647) (k14 : (-900000000) ≤ x14 ∧ x14 ≤ 2147483647) (f1 : x13 ≤ x14) (g3 : x13 = mostY_1) (f4 : 1 * mostY_1 + ((-1) * x6 + 0) ≤ 0) (f5 : (-1) * mostY_1 + (1 * x6 + 0) ≤ 0) (fe_0_153_1 : leastX_0 = leastX_1) (fe_0_154_1 : mostX_0 = mostX_1) (fe_0_155_1 : leastY_0 = leastY_1) (fe_0_156_1 : mostY_0 = x14) (fe_0_153_2 : leastX_1 = leastX_2) (fe_0_154_2 : mostX_1 = mostX_2) (fe_0_156_2 : mostY_1 = mostY_2) (fe_0_153_3 : leastX_2 = leastX_3) (fe_0_155_3 : leastY_2 = leastY_3) (fe_0_156_3 : mostY_2 = mostY_3) (fe_0_154_4 : mostX_3 = mostX_4) (fe_0_155_4 : leastY_3 = leastY_4) (fe_0_156_4 : mostY_3 = mostY_4) (kz_0_153 : (-2147483648) ≤ leastX_0 ∧ leastX_0 ≤ 300000000) (kz_0_154 : (-900000000) ≤ mostX_0 ∧ mostX_0 ≤ 2147483647) (kz_0_155 : (-2147483648) ≤ leastY_0 ∧ leastY_0 ≤ 300000000) (kz_0_156 : (-900000000) ≤ mostY_0 ∧ mostY_0 ≤ 2147483647) : (-1) * mostY_0 + (1 * x6 + 0) ≤ 0 := by
  subst fe_0_153_1
  subst fe_0_154_1
  subst fe_0_155_1
  subst fe_0_153_2
  subst fe_0_154_2
  subst fe_0_156_2
  subst fe_0_153_3
  subst fe_0_155_3
  subst fe_0_156_3
  subst fe_0_154_4
  subst fe_0_155_4
  subst fe_0_156_4
  first | assumption | omega | grind
set_option maxHeartbeats 4000000 in
theorem vc_Mo_bound_0_4 (x1 : Int) (x8 : Int) (mostY_1 : Int) (leastY_2 : Int) (mostY_2 : Int) (mostX_3 : Int) (leastY_3 : Int) (mostY_3 : Int) (mostX_4 : Int) (leastY_4 : Int) (mostY_4 : Int) (leastX_0 : Int) (leastX_1 : Int) (mostX_0 : Int) (mostX_1 : Int) (leastY_0 : Int) (leastY_1 : Int) (leastX_2 : Int) (mostX_2 : Int) (leastX_3 : Int) (k1 : (-300000011) ≤ x1 ∧ x1 ≤ 300000000) (k8 : (-2147483648) ≤ x8 ∧ x8 ≤ 300000000) (f26 : x8 ≤ x1) (fe_0_153_1 : leastX_0 = leastX_1) (fe_0_154_1 : mostX_0 = mostX_1) (fe_0_155_1 : leastY_0 = leastY_1) (fe_0_153_2 : leastX_1 = leastX_2) (fe_0_154_2 : mostX_1 = mostX_2) (fe_0_156_2 : mostY_1 = mostY_2) (fe_0_153_3 : leastX_2 = leastX_3) (fe_0_155_3 : leastY_2 = leastY_3) (fe_0_156_3 : mostY_2 = mostY_3) (fe_0_153_4 : leastX_3 = x8) (fe_0_154_4 : mostX_3 = mostX_4) (fe_0_155_4 : leastY_3 = leastY_4) (fe_0_156_4 : mostY_3 = mostY_4) (kz_0_153 : (-2147483648) ≤ leastX_0 ∧ leastX_0 ≤ 300000000) (kz_0_154 : (-900000000) ≤ mostX_0 ∧ mostX_0 ≤ 2147483647) (kz_0_155 : (-2147483648) ≤ leastY_0 ∧ leastY_0 ≤ 300000000) : 1 * leastX_0 + ((-1) * x1 + 0) ≤ 0 := by
  subst fe_0_153_1
  subst fe_0_154_1
  subst fe_0_155_1
  subst fe_0_153_2
  subst fe_0_154_2
  subst fe_0_156_2
  subst fe_0_153_3
  subst fe_0_155_3
  subst fe_0_156_3
  subst fe_0_154_4
  subst fe_0_155_4
  subst fe_0_156_4
  first | assumption | omega | grind
set_option maxHeartbeats 4000000 in
theorem vc_Mo_bound_0_5 (x1 : Int) (x10 : Int) (mostY_1 : Int) (leastY_2 : Int) (mostY_2 : Int) (mostX_3 : Int) (leastY_3 : Int) (mostY_3 : Int) (mostX_4 : Int) (leastY_4 : Int) (mostY_4 : Int) (leastX_0 : Int) (leastX_1 : Int) (mostX_0 : Int) (mostX_1 : Int) (leastY_0 : Int) (leastY_1 : Int) (leastX_2 : Int) (mostX_2 : Int) (leastX_3 : Int) (k1 : (-300000011) ≤ x1 ∧ x1 ≤ 300000000) (k10 : (-900000000) ≤ x10 ∧ x10 ≤ 2147483647) (f16 : x1 ≤ x10) (fe_0_153_1 : leastX_0 = leastX_1) (fe_0_154_1 : mostX_0 = mostX_1) (fe_0_155_1 : leastY_0 = leastY_1) (fe_0_153_2 : leastX_1 = leastX_2) (fe_0_154_2 : mostX_1 = mostX_2) (fe_0_156_2 : mostY_1 = mostY_2) (fe_0_153_3 : leastX_2 = leastX_3) (fe_0_154_3 : mostX_2 = x10) (fe_0_155_3 : leastY_2 = leastY_3) (fe_0_156_3 : mostY_2 = mostY_3) (fe_0_154_4 : mostX_3 = mostX_4) (fe_0_155_4 : leastY_3 = leastY_4) (fe_0_156_4 : mostY_3 = mostY_4) (kz_0_153 : (-2147483648) ≤ leastX_0 ∧ leastX_0 ≤ 300000000) (kz_0_154 : (-900000000) ≤ mostX_0 ∧ mostX_0 ≤ 2147483647) (kz_0_155 : (-2147483648) ≤ leastY_0 ∧ leastY_0 ≤ 300000000) : (-1) * mostX_0 + (1 * x1 + 0) ≤ 0 := by
  subst fe_0_153_1
  subst fe_0_154_1
  subst fe_0_155_1
  subst fe_0_153_2
  subst fe_0_154_2
  subst fe_0_156_2
  subst fe_0_153_3
  subst fe_0_155_3
  subst fe_0_156_3
  subst fe_0_154_4
  subst fe_0_155_4
  subst fe_0_156_4
  first | assumption | omega | grind
set_option maxHeartbeats 4000000 in
theorem vc_Mo_bound_0_6 (x2 : Int) (x12 : Int) (mostY_1 : Int) (leastY_2 : Int) (mostY_2 : Int) (mostX_3 : Int) (leastY_3 : Int) (mostY_3 : Int) (mostX_4 : Int) (leastY_4 : Int) (mostY_4 : Int) (leastX_0 : Int) (leastX_1 : Int) (mostX_0 : Int) (mostX_1 : Int) (leastY_0 : Int) (leastY_1 : Int) (leastX_2 : Int) (mostX_2 : Int) (leastX_3 : Int) (k2 : (-900000000) ≤ x2 ∧ x2 ≤ 900000000) (k12 : (-2147483648) ≤ x12 ∧ x12 ≤ 300000000) (f8 : x12 ≤ x2) (fe_0_153_1 : leastX_0 = leastX_1) (fe_0_154_1 : mostX_0 = mostX_1) (fe_0_155_1 : leastY_0 = leastY_1) (fe_0_153_2 : leastX_1 = leastX_2) (fe_0_154_2 : mostX_1 = mostX_2) (fe_0_155_2 : leastY_1 = x12) (fe_0_156_2 : mostY_1 = mostY_2) (fe_0_153_3 : leastX_2 = leastX_3) (fe_0_155_3 : leastY_2 = leastY_3) (fe_0_156_3 : mostY_2 = mostY_3) (fe_0_154_4 : mostX_3 = mostX_4) (fe_0_155_4 : leastY_3 = leastY_4) (fe_0_156_4 : mostY_3 = mostY_4) (kz_0_153 : (-2147483648) ≤ leastX_0 ∧ leastX_0 ≤ 300000000) (kz_0_154 : (-900000000) ≤ mostX_0 ∧ mostX_0 ≤ 2147483647) (kz_0_155 : (-2147483648) ≤ leastY_0 ∧ leastY_0 ≤ 300000000) : 1 * leastY_0 + ((-1) * x2 + 0) ≤ 0 := by
  subst fe_0_153_1
  subst fe_0_154_1
  subst fe_0_155_1
  subst fe_0_153_2
  subst fe_0_154_2
  subst fe_0_156_2
  subst fe_0_153_3
  subst fe_0_155_3
  subst fe_0_156_3
  subst fe_0_154_4
  subst fe_0_155_4
  subst fe_0_156_4
  first | assumption | omega | grind
set_option maxHeartbeats 4000000 in
theorem vc_Mo_bound_0_7 (x2 : Int) (x14 : Int) (mostY_1 : Int) (leastY_2 : Int) (mostY_2 : Int) (mostX_3 : Int) (leastY_3 : Int) (mostY_3 : Int) (mostX_4 : Int) (leastY_4 : Int) (mostY_4 : Int) (leastX_0 : Int) (leastX_1 : Int) (mostX_0 : Int) (mostX_1 : Int) (leastY_0 : Int) (leastY_1 : Int) (mostY_0 : Int) (leastX_2 : Int) (mostX_2 : Int) (leastX_3 : Int) (k2 : (-900000000) ≤ x2 ∧ x2 ≤ 900000000) (k14 : (-900000000) ≤ x14 ∧ x14 ≤ 2147483647) (f2 : x2 ≤ x14) (fe_0_153_1 : leastX_0 = leastX_1) (fe_0_154_1 : mostX_0 = mostX_1) (fe_0_155_1 : leastY_0 = leastY_1) (fe_0_156_1 : mostY_0 = x14) (fe_0_153_2 : leastX_1 = leastX_2) (fe_0_154_2 : mostX_1 = mostX_2) (fe_0_156_2 : mostY_1 = mostY_2) (fe_0_153_3 : leastX_2 = leastX_3) (fe_0_155_3 : leastY_2 = leastY_3) (fe_0_156_3 : mostY_2 = mostY_3) (fe_0_154_4 : mostX_3 = mostX_4) (fe_0_155_4 : leastY_3 = leastY_4) (fe_0_156_4 : mostY_3 = mostY_4) (kz_0_153 : (-2147483648) ≤ leastX_0 ∧ leastX_0 ≤ 300000000) (kz_0_154 : (-900000000) ≤ mostX_0 ∧ mostX_0 ≤ 2147483647) (kz_0_155 : (-2147483648) ≤ leastY_0 ∧ leastY_0 ≤ 300000000) (kz_0_156 : (-900000000) ≤ mostY_0 ∧ mostY_0 ≤ 2147483647) : (-1) * mostY_0 + (1 * x2 + 0) ≤ 0 := by
  subst fe_0_153_1
  subst fe_0_154_1
  subst fe_0_155_1
  subst fe_0_153_2
  subst fe_0_154_2
  subst fe_0_156_2
  subst fe_0_153_3
  subst fe_0_155_3
  subst fe_0_156_3
  subst fe_0_154_4
  subst fe_0_155_4
  subst fe_0_156_4
  first | assumption | omega | grind
def o_Mo_bound_0 : or_T := (48, 15, [(0, (2, 0, 0, [165])), (1, (0, -300000011, 300000000, [])), (2, (0, -900000000, 900000000, [])), (3, (0, -2147483648, 2147483647, [])), (4, (0, -2147483648, 2147483647, [])), (5, (0, -2147483648, 2147483647, [])), (6, (0, -2147483648, 2147483647, [])), (7, (0, -2147483648, 300000000, [])), (8, (0, -2147483648, 300000000, [])), (9, (0, -900000000, 2147483647, [])), (10, (0, -900000000, 2147483647, [])), (11, (0, -2147483648, 300000000, [])), (12, (0, -2147483648, 300000000, [])), (13, (0, -900000000, 2147483647, [])), (14, (0, -900000000, 2147483647, []))], [(101, [0, 14], [156]), (7, [13, 14], [5]), (7, [2, 14], [5]), (9, [13, 0], [156]), (20, [0, 6], [30, 0, 1, 1, 156, -1, 0, 0]), (20, [0, 6], [30, 0, -1, 1, 156, 1, 0, 0]), (101, [0, 12], [155]), (7, [12, 11], [5]), (7, [12, 2], [5]), (9, [11, 0], [155]), (20, [0, 5], [30, 0, 1, 1, 155, -1, 0, 0]), (20, [0, 5], [30, 0, -1, 1, 155, 1, 0, 0]), (101, [0, 10], [154]), (7, [9, 10], [5]), (7, [1, 10], [5]), (9, [9, 0], [154]), (20, [0, 4], [30, 0, 1, 1, 154, -1, 0, 0]), (20, [0, 4], [30, 0, -1, 1, 154, 1, 0, 0]), (101, [0, 8], [153]), (7, [8, 7], [5]), (7, [8, 1], [5]), (9, [7, 0], [153]), (20, [0, 3], [30, 0, 1, 1, 153, -1, 0, 0]), (20, [0, 3], [30, 0, -1, 1, 153, 1, 0, 0])], [], [], [(20, [0, 3], [30, 0, 1, 1, 153, -1, 0, 0]), (20, [0, 4], [30, 0, -1, 1, 154, 1, 0, 0]), (20, [0, 5], [30, 0, 1, 1, 155, -1, 0, 0]), (20, [0, 6], [30, 0, -1, 1, 156, 1, 0, 0]), (20, [0, 1], [30, 0, 1, 1, 153, -1, 0, 0]), (20, [0, 1], [30, 0, -1, 1, 154, 1, 0, 0]), (20, [0, 2], [30, 0, 1, 1, 155, -1, 0, 0]), (20, [0, 2], [30, 0, -1, 1, 156, 1, 0, 0])], [], [])
theorem oo_Mo_bound_0 {kA : Nat → ClassId} : or_ok PRD kA GG o_Mo_bound_0 := by
  refine or_mk fun A ta ws vs hD hth hl => ?_
  intro t0 r0 t1 k1 t2 k2 t3 k3 t4 k4 t5 k5 t6 k6 t7 k7 t8 k8 t9 k9 t10 k10 t11 k11 t12 k12 t13 k13 t14 k14 ta1 w1 le1 s1 f1 f2 f3 f4 f5 ta2 w2 le2 s2 f7 f8 f9 f10 f11 ta3 w3 le3 s3 f15 f16 f17 f18 f19 ta4 w4 le4 s4 f25 f26 f27 f28 f29
  have s1 : (∀ b j, w_el ws b j = w_el w1 b j) ∧ ∀ b j, w_fd ws b j = if b = v_ad (n_v vs 0) ∧ j = 156 then n_v vs 14 else w_fd w1 b j := s1.2
  replace f3 := shm_158 f3
  have s2 : (∀ b j, w_el w1 b j = w_el w2 b j) ∧ ∀ b j, w_fd w1 b j = if b = v_ad (n_v vs 0) ∧ j = 155 then n_v vs 12 else w_fd w2 b j := s2.2
  replace f9 := shm_152 f9
  have s3 : (∀ b j, w_el w2 b j = w_el w3 b j) ∧ ∀ b j, w_fd w2 b j = if b = v_ad (n_v vs 0) ∧ j = 154 then n_v vs 10 else w_fd w3 b j := s3.2
  replace f17 := shm_151 f17
  have s4 : (∀ b j, w_el w3 b j = w_el w4 b j) ∧ ∀ b j, w_fd w3 b j = if b = v_ad (n_v vs 0) ∧ j = 153 then n_v vs 8 else w_fd w4 b j := s4.2
  replace f27 := shm_145 f27
  have g3 : v_iv (n_v vs 13) = w_fi w1 (n_v vs 0) 156 := congrArg v_iv f3
  have g9 : v_iv (n_v vs 11) = w_fi w2 (n_v vs 0) 155 := congrArg v_iv f9
  have g17 : v_iv (n_v vs 9) = w_fi w3 (n_v vs 0) 154 := congrArg v_iv f17
  have g27 : v_iv (n_v vs 7) = w_fi w4 (n_v vs 0) 153 := congrArg v_iv f27
  have fe_0_153_1 : w_fi ws (n_v vs 0) 153 = w_fi w1 (n_v vs 0) 153 := by show v_iv (w_fd _ _ _) = v_iv (w_fd _ _ _); rw [s1.2, if_neg (fun e => absurd e.2 (by decide))]
  have fe_0_154_1 : w_fi ws (n_v vs 0) 154 = w_fi w1 (n_v vs 0) 154 := by show v_iv (w_fd _ _ _) = v_iv (w_fd _ _ _); rw [s1.2, if_neg (fun e => absurd e.2 (by decide))]
  have fe_0_155_1 : w_fi ws (n_v vs 0) 155 = w_fi w1 (n_v vs 0) 155 := by show v_iv (w_fd _ _ _) = v_iv (w_fd _ _ _); rw [s1.2, if_neg (fun e => absurd e.2 (by decide))]
  have fe_0_156_1 : w_fi ws (n_v vs 0) 156 = v_iv (n_v vs 14) := by show v_iv (w_fd _ _ _) = _; rw [s1.2, if_pos ⟨rfl, rfl⟩]
  have fe_0_153_2 : w_fi w1 (n_v vs 0) 153 = w_fi w2 (n_v vs 0) 153 := by show v_iv (w_fd _ _ _) = v_iv (w_fd _ _ _); rw [s2.2, if_neg (fun e => absurd e.2 (by decide))]
  have fe_0_154_2 : w_fi w1 (n_v vs 0) 154 = w_fi w2 (n_v vs 0) 154 := by show v_iv (w_fd _ _ _) = v_iv (w_fd _ _ _); rw [s2.2, if_neg (fun e => absurd e.2 (by decide))]
  have fe_0_155_2 : w_fi w1 (n_v vs 0) 155 = v_iv (n_v vs 12) := by show v_iv (w_fd _ _ _) = _; rw [s2.2, if_pos ⟨rfl, rfl⟩]
  have fe_0_156_2 : w_fi w1 (n_v vs 0) 156 = w_fi w2 (n_v vs 0) 156 := by show v_iv (w_fd _ _ _) = v_iv (w_fd _ _ _); rw [s2.2, if_neg (fun e => absurd e.2 (by decide))]
  have fe_0_153_3 : w_fi w2 (n_v vs 0) 153 = w_fi w3 (n_v vs 0) 153 := by show v_iv (w_fd _ _ _) = v_iv (w_fd _ _ _); rw [s3.2, if_neg (fun e => absurd e.2 (by decide))]
  have fe_0_154_3 : w_fi w2 (n_v vs 0) 154 = v_iv (n_v vs 10) := by show v_iv (w_fd _ _ _) = _; rw [s3.2, if_pos ⟨rfl, rfl⟩]
  have fe_0_155_3 : w_fi w2 (n_v vs 0) 155 = w_fi w3 (n_v vs 0) 155 := by show v_iv (w_fd _ _ _) = v_iv (w_fd _ _ _); rw [s3.2, if_neg (fun e => absurd e.2 (by decide))]
  have fe_0_156_3 : w_fi w2 (n_v vs 0) 156 = w_fi w3 (n_v vs 0) 156 := by show v_iv (w_fd _ _ _) = v_iv (w_fd _ _ _); rw [s3.2, if_neg (fun e => absurd e.2 (by decide))]
  have fe_0_153_4 : w_fi w3 (n_v vs 0) 153 = v_iv (n_v vs 8) := by show v_iv (w_fd _ _ _) = _; rw [s4.2, if_pos ⟨rfl, rfl⟩]
  have fe_0_154_4 : w_fi w3 (n_v vs 0) 154 = w_fi w4 (n_v vs 0) 154 := by show v_iv (w_fd _ _ _) = v_iv (w_fd _ _ _); rw [s4.2, if_neg (fun e => absurd e.2 (by decide))]
  have fe_0_155_4 : w_fi w3 (n_v vs 0) 155 = w_fi w4 (n_v vs 0) 155 := by show v_iv (w_fd _ _ _) = v_iv (w_fd _ _ _); rw [s4.2, if_neg (fun e => absurd e.2 (by decide))]
  have fe_0_156_4 : w_fi w3 (n_v vs 0) 156 = w_fi w4 (n_v vs 0) 156 := by show v_iv (w_fd _ _ _) = v_iv (w_fd _ _ _); rw [s4.2, if_neg (fun e => absurd e.2 (by decide))]
  have kz_0_153 := fdq_14 hD hth r0
  have kz_0_154 := fdq_15 hD hth r0
  have kz_0_155 := fdq_17 hD hth r0
  have kz_0_156 := fdq_18 hD hth r0
  have nf0 : fc_1 PRD (20, [0, 3], [30, 0, 1, 1, 153, -1, 0, 0]) ws (vs) := ⟨nf_in hl rfl, sgq_146 (vc_Mo_bound_0_0 (v_iv (n_v vs 3)) (v_iv (n_v vs 7)) (v_iv (n_v vs 8)) (w_fi w1 (n_v vs 0) 156) (w_fi w2 (n_v vs 0) 155) (w_fi w2 (n_v vs 0) 156) (w_fi w3 (n_v vs 0) 154) (w_fi w3 (n_v vs 0) 155) (w_fi w3 (n_v vs 0) 156) (w_fi w4 (n_v vs 0) 153) (w_fi w4 (n_v vs 0) 154) (w_fi w4 (n_v vs 0) 155) (w_fi w4 (n_v vs 0) 156) (w_fi ws (n_v vs 0) 153) (w_fi w1 (n_v vs 0) 153) (w_fi ws (n_v vs 0) 154) (w_fi w1 (n_v vs 0) 154) (w_fi ws (n_v vs 0) 155) (w_fi w1 (n_v vs 0) 155) (w_fi w2 (n_v vs 0) 153) (w_fi w2 (n_v vs 0) 154) (w_fi w3 (n_v vs 0) 153) k3 k7 k8 (shm_24 f25) g27 (shm_146 f28) (shm_170 f29) fe_0_153_1 fe_0_154_1 fe_0_155_1 fe_0_153_2 fe_0_154_2 fe_0_156_2 fe_0_153_3 fe_0_155_3 fe_0_156_3 fe_0_153_4 fe_0_154_4 fe_0_155_4 fe_0_156_4 kz_0_153 kz_0_154 kz_0_155)⟩
  have nf1 : fc_1 PRD (20, [0, 4], [30, 0, -1, 1, 154, 1, 0, 0]) ws (vs) := ⟨nf_in hl rfl, sgq_169 (vc_Mo_bound_0_1 (v_iv (n_v vs 4)) (v_iv (n_v vs 9)) (v_iv (n_v vs 10)) (w_fi w1 (n_v vs 0) 156) (w_fi w2 (n_v vs 0) 155) (w_fi w2 (n_v vs 0) 156) (w_fi w3 (n_v vs 0) 154) (w_fi w3 (n_v vs 0) 155) (w_fi w3 (n_v vs 0) 156) (w_fi w4 (n_v vs 0) 154) (w_fi w4 (n_v vs 0) 155) (w_fi w4 (n_v vs 0) 156) (w_fi ws (n_v vs 0) 153) (w_fi w1 (n_v vs 0) 153) (w_fi ws (n_v vs 0) 154) (w_fi w1 (n_v vs 0) 154) (w_fi ws (n_v vs 0) 155) (w_fi w1 (n_v vs 0) 155) (w_fi w2 (n_v vs 0) 153) (w_fi w2 (n_v vs 0) 154) (w_fi w3 (n_v vs 0) 153) k4 k9 k10 (shm_24 f15) g17 (shm_168 f18) (shm_169 f19) fe_0_153_1 fe_0_154_1 fe_0_155_1 fe_0_153_2 fe_0_154_2 fe_0_156_2 fe_0_153_3 fe_0_154_3 fe_0_155_3 fe_0_156_3 fe_0_154_4 fe_0_155_4 fe_0_156_4 kz_0_153 kz_0_154 kz_0_155)⟩
  have nf2 : fc_1 PRD (20, [0, 5], [30, 0, 1, 1, 155, -1, 0, 0]) ws (vs) := ⟨nf_in hl rfl, sgq_153 (vc_Mo_bound_0_2 (v_iv (n_v vs 5)) (v_iv (n_v vs 11)) (v_iv (n_v vs 12)) (w_fi w1 (n_v vs 0) 156) (w_fi w2 (n_v vs 0) 155) (w_fi w2 (n_v vs 0) 156) (w_fi w3 (n_v vs 0) 154) (w_fi w3 (n_v vs 0) 155) (w_fi w3 (n_v vs 0) 156) (w_fi w4 (n_v vs 0) 154) (w_fi w4 (n_v vs 0) 155) (w_fi w4 (n_v vs 0) 156) (w_fi ws (n_v vs 0) 153) (w_fi w1 (n_v vs 0) 153) (w_fi ws (n_v vs 0) 154) (w_fi w1 (n_v vs 0) 154) (w_fi ws (n_v vs 0) 155) (w_fi w1 (n_v vs 0) 155) (w_fi w2 (n_v vs 0) 153) (w_fi w2 (n_v vs 0) 154) (w_fi w3 (n_v vs 0) 153) k5 k11 k12 (shm_24 f7) g9 (shm_153 f10) (shm_167 f11) fe_0_153_1 fe_0_154_1 fe_0_155_1 fe_0_153_2 fe_0_154_2 fe_0_155_2 fe_0_156_2 fe_0_153_3 fe_0_155_3 fe_0_156_3 fe_0_154_4 fe_0_155_4 fe_0_156_4 kz_0_153 kz_0_154 kz_0_155)⟩
  have nf3 : fc_1 PRD (20, [0, 6], [30, 0, -1, 1, 156, 1, 0, 0]) ws (vs) := ⟨nf_in hl rfl, sgq_166 (vc_Mo_bound_0_3 (v_iv (n_v vs 6)) (v_iv (n_v vs 13)) (v_iv (n_v vs 14)) (w_fi w1 (n_v vs 0) 156) (w_fi w2 (n_v vs 0) 155) (w_fi w2 (n_v vs 0) 156) (w_fi w3 (n_v vs 0) 154) (w_fi w3 (n_v vs 0) 155) (w_fi w3 (n_v vs 0) 156) (w_fi w4 (n_v vs 0) 154) (w_fi w4 (n_v vs 0) 155) (w_fi w4 (n_v vs 0) 156) (w_fi ws (n_v vs 0) 153) (w_fi w1 (n_v vs 0) 153) (w_fi ws (n_v vs 0) 154) (w_fi w1 (n_v vs 0) 154) (w_fi ws (n_v vs 0) 155) (w_fi w1 (n_v vs 0) 155) (w_fi ws (n_v vs 0) 156) (w_fi w2 (n_v vs 0) 153) (w_fi w2 (n_v vs 0) 154) (w_fi w3 (n_v vs 0) 153) k6 k13 k14 (shm_24 f1) g3 (shm_165 f4) (shm_166 f5) fe_0_153_1 fe_0_154_1 fe_0_155_1 fe_0_156_1 fe_0_153_2 fe_0_154_2 fe_0_156_2 fe_0_153_3 fe_0_155_3 fe_0_156_3 fe_0_154_4 fe_0_155_4 fe_0_156_4 kz_0_153 kz_0_154 kz_0_155 kz_0_156)⟩
  have nf4 : fc_1 PRD (20, [0, 1], [30, 0, 1, 1, 153, -1, 0, 0]) ws (vs) := ⟨nf_in hl rfl, sgq_146 (vc_Mo_bound_0_4 (v_iv (n_v vs 1)) (v_iv (n_v vs 8)) (w_fi w1 (n_v vs 0) 156) (w_fi w2 (n_v vs 0) 155) (w_fi w2 (n_v vs 0) 156) (w_fi w3 (n_v vs 0) 154) (w_fi w3 (n_v vs 0) 155) (w_fi w3 (n_v vs 0) 156) (w_fi w4 (n_v vs 0) 154) (w_fi w4 (n_v vs 0) 155) (w_fi w4 (n_v vs 0) 156) (w_fi ws (n_v vs 0) 153) (w_fi w1 (n_v vs 0) 153) (w_fi ws (n_v vs 0) 154) (w_fi w1 (n_v vs 0) 154) (w_fi ws (n_v vs 0) 155) (w_fi w1 (n_v vs 0) 155) (w_fi w2 (n_v vs 0) 153) (w_fi w2 (n_v vs 0) 154) (w_fi w3 (n_v vs 0) 153) k1 k8 (shm_24 f26) fe_0_153_1 fe_0_154_1 fe_0_155_1 fe_0_153_2 fe_0_154_2 fe_0_156_2 fe_0_153_3 fe_0_155_3 fe_0_156_3 fe_0_153_4 fe_0_154_4 fe_0_155_4 fe_0_156_4 kz_0_153 kz_0_154 kz_0_155)⟩
  have nf5 : fc_1 PRD (20, [0, 1], [30, 0, -1, 1, 154, 1, 0, 0]) ws (vs) := ⟨nf_in hl rfl, sgq_169 (vc_Mo_bound_0_5 (v_iv (n_v vs 1)) (v_iv (n_v vs 10)) (w_fi w1 (n_v vs 0) 156) (w_fi w2 (n_v vs 0) 155) (w_fi w2 (n_v vs 0) 156) (w_fi w3 (n_v vs 0) 154) (w_fi w3 (n_v vs 0) 155) (w_fi w3 (n_v vs 0) 156) (w_fi w4 (n_v vs 0) 154) (w_fi w4 (n_v vs 0) 155) (w_fi w4 (n_v vs 0) 156) (w_fi ws (n_v vs 0) 153) (w_fi w1 (n_v vs 0) 153) (w_fi ws (n_v vs 0) 154) (w_fi w1 (n_v vs 0) 154) (w_fi ws (n_v vs 0) 155) (w_fi w1 (n_v vs 0) 155) (w_fi w2 (n_v vs 0) 153) (w_fi w2 (n_v vs 0) 154) (w_fi w3 (n_v vs 0) 153) k1 k10 (shm_24 f16) fe_0_153_1 fe_0_154_1 fe_0_155_1 fe_0_153_2 fe_0_154_2 fe_0_156_2 fe_0_153_3 fe_0_154_3 fe_0_155_3 fe_0_156_3 fe_0_154_4 fe_0_155_4 fe_0_156_4 kz_0_153 kz_0_154 kz_0_155)⟩
  have nf6 : fc_1 PRD (20, [0, 2], [30, 0, 1, 1, 155, -1, 0, 0]) ws (vs) := ⟨nf_in hl rfl, sgq_153 (vc_Mo_bound_0_6 (v_iv (n_v vs 2)) (v_iv (n_v vs 12)) (w_fi w1 (n_v vs 0) 156) (w_fi w2 (n_v vs 0) 155) (w_fi w2 (n_v vs 0) 156) (w_fi w3 (n_v vs 0) 154) (w_fi w3 (n_v vs 0) 155) (w_fi w3 (n_v vs 0) 156) (w_fi w4 (n_v vs 0) 154) (w_fi w4 (n_v vs 0) 155) (w_fi w4 (n_v vs 0) 156) (w_fi ws (n_v vs 0) 153) (w_fi w1 (n_v vs 0) 153) (w_fi ws (n_v vs 0) 154) (w_fi w1 (n_v vs 0) 154) (w_fi ws (n_v vs 0) 155) (w_fi w1 (n_v vs 0) 155) (w_fi w2 (n_v vs 0) 153) (w_fi w2 (n_v vs 0) 154) (w_fi w3 (n_v vs 0) 153) k2 k12 (shm_24 f8) fe_0_153_1 fe_0_154_1 fe_0_155_1 fe_0_153_2 fe_0_154_2 fe_0_155_2 fe_0_156_2 fe_0_153_3 fe_0_155_3 fe_0_156_3 fe_0_154_4 fe_0_155_4 fe_0_156_4 kz_0_153 kz_0_154 kz_0_155)⟩
  have nf7 : fc_1 PRD (20, [0, 2], [30, 0, -1, 1, 156, 1, 0, 0]) ws (vs) := ⟨nf_in hl rfl, sgq_166 (vc_Mo_bound_0_7 (v_iv (n_v vs 2)) (v_iv (n_v vs 14)) (w_fi w1 (n_v vs 0) 156) (w_fi w2 (n_v vs 0) 155) (w_fi w2 (n_v vs 0) 156) (w_fi w3 (n_v vs 0) 154) (w_fi w3 (n_v vs 0) 155) (w_fi w3 (n_v vs 0) 156) (w_fi w4 (n_v vs 0) 154) (w_fi w4 (n_v vs 0) 155) (w_fi w4 (n_v vs 0) 156) (w_fi ws (n_v vs 0) 153) (w_fi w1 (n_v vs 0) 153) (w_fi ws (n_v vs 0) 154) (w_fi w1 (n_v vs 0) 154) (w_fi ws (n_v vs 0) 155) (w_fi w1 (n_v vs 0) 155) (w_fi ws (n_v vs 0) 156) (w_fi w2 (n_v vs 0) 153) (w_fi w2 (n_v vs 0) 154) (w_fi w3 (n_v vs 0) 153) k2 k14 (shm_24 f2) fe_0_153_1 fe_0_154_1 fe_0_155_1 fe_0_156_1 fe_0_153_2 fe_0_154_2 fe_0_156_2 fe_0_153_3 fe_0_155_3 fe_0_156_3 fe_0_154_4 fe_0_155_4 fe_0_156_4 kz_0_153 kz_0_154 kz_0_155 kz_0_156)⟩
  refine ⟨(fun _ h => (by cases h)), [], trivial, ?_, (fun _ h => (by cases h))⟩
  rw [List.append_nil]
  exact List.forall_mem_cons.mpr ⟨⟨show (20 : Nat) < 100 from by decide, nf0⟩, List.forall_mem_cons.mpr ⟨⟨show (20 : Nat) < 100 from by decide, nf1⟩, List.forall_mem_cons.mpr ⟨⟨show (20 : Nat) < 100 from by decide, nf2⟩, List.forall_mem_cons.mpr ⟨⟨show (20 : Nat) < 100 from by decide, nf3⟩, List.forall_mem_cons.mpr ⟨⟨show (20 : Nat) < 100 from by decide, nf4⟩, List.forall_mem_cons.mpr ⟨⟨show (20 : Nat) < 100 from by decide, nf5⟩, List.forall_mem_cons.mpr ⟨⟨show (20 : Nat) < 100 from by decide, nf6⟩, List.forall_mem_cons.mpr ⟨⟨show (20 : Nat) < 100 from by decide, nf7⟩, (fun _ h => (by cases h))⟩⟩⟩⟩⟩⟩⟩⟩
def n_Mo_bound_an : List an_T := []
def t_Mo_bound_ct : ct_L := [(21, 547, e_Mo_min_np), (57, 855, e_Mo_max_np), (93, 547, e_Mo_min_np), (129, 855, e_Mo_max_np)]
set_option maxRecDepth 100000 in
theorem c_Mo_bound {l : Launch} {D : va_G} {kA : Nat → ClassId} (h_Mo_max : ct_ok PRD l D kA GG y_Mo_max z_Mo_max e_Mo_max) (h_Mo_min : ct_ok PRD l D kA GG y_Mo_min z_Mo_min e_Mo_min) : ct_ok PRD l D kA GG y_Mo_bound z_Mo_bound e_Mo_bound := chk_all_ok (FT := [(1142, 13, 153), (1145, 13, 154), (1148, 13, 155), (1151, 13, 156)]) (PT := [(1142, 13, 153, .int), (1145, 13, 154, .int), (1148, 13, 155, .int), (1151, 13, 156, .int)]) (CT := t_Mo_bound_ct) (KT := []) (NT := []) (AN := n_Mo_bound_an) (OT := [o_Mo_bound_0]) 0 200 (List.forall_mem_cons.mpr ⟨oo_Mo_bound_0, List.forall_mem_nil _⟩) (by decide +kernel) ⟨List.forall_mem_cons.mpr ⟨gf_Mo_1142, List.forall_mem_cons.mpr ⟨gf_Mo_1145, List.forall_mem_cons.mpr ⟨gf_Mo_1148, List.forall_mem_cons.mpr ⟨gf_Mo_1151, List.forall_mem_nil _⟩⟩⟩⟩, List.forall_mem_cons.mpr ⟨pf_Mo_1142, List.forall_mem_cons.mpr ⟨pf_Mo_1145, List.forall_mem_cons.mpr ⟨pf_Mo_1148, List.forall_mem_cons.mpr ⟨pf_Mo_1151, List.forall_mem_nil _⟩⟩⟩⟩, List.forall_mem_cons.mpr ⟨cl_nopa (cl_static (y := y_Mo_min) h_Mo_min wm_3174 wm_9 wm_3172 wm_3173 ⟨by decide, by decide, by decide +kernel⟩ (by decide)), List.forall_mem_cons.mpr ⟨cl_nopa (cl_static (y := y_Mo_max) h_Mo_max wm_3430 wm_9 wm_3428 wm_3429 ⟨by decide, by decide, by decide +kernel⟩ (by decide)), List.forall_mem_cons.mpr ⟨cl_nopa (cl_static (y := y_Mo_min) h_Mo_min wm_3174 wm_9 wm_3172 wm_3173 ⟨by decide, by decide, by decide +kernel⟩ (by decide)), List.forall_mem_cons.mpr ⟨cl_nopa (cl_static (y := y_Mo_max) h_Mo_max wm_3430 wm_9 wm_3428 wm_3429 ⟨by decide, by decide, by decide +kernel⟩ (by decide)), List.forall_mem_nil _⟩⟩⟩⟩, List.forall_mem_nil _, List.forall_mem_nil _, GG_pl⟩ (by decide +kernel)
def n_Mo_fits_an : List an_T := [(30, [(0, (2, 0, 0, [165])), (1, (0, 0, 23, [])), (2, (0, 0, 23, [])), (3, (0, 0, 1, [])), (4, (0, 0, 23, []))], [], (0, 0), [(0, 0, 99970), (1, 4, 23), (0, 0, 100000)], [], [], [], 0, [], [])]
def t_Mo_fits_ct : ct_L := [(1, 587, e_Mo_degree), (1, 590, e_Mo_edgeWay)]
set_option maxRecDepth 100000 in
theorem c_Mo_fits {l : Launch} {D : va_G} {kA : Nat → ClassId} (h_Mo_degree : ct_ok PRD l D kA GG y_Mo_degree z_Mo_degree e_Mo_degree) (h_Mo_edgeWay : ct_ok PRD l D kA GG y_Mo_edgeWay z_Mo_edgeWay e_Mo_edgeWay) : ct_ok PRD l D kA GG y_Mo_fits z_Mo_fits e_Mo_fits := chk_all_ok (FT := [(54, 13, 24), (566, 13, 28), (569, 13, 29)]) (PT := []) (CT := t_Mo_fits_ct) (KT := []) (NT := []) (AN := n_Mo_fits_an) (OT := []) 3 216 (List.forall_mem_nil _) (by decide +kernel) ⟨List.forall_mem_cons.mpr ⟨gf_Mo_54, List.forall_mem_cons.mpr ⟨gf_Mo_566, List.forall_mem_cons.mpr ⟨gf_Mo_569, List.forall_mem_nil _⟩⟩⟩, List.forall_mem_nil _, List.forall_mem_cons.mpr ⟨cl_virtual (y := y_Mo_degree) (ci := 13) rfl rfl ⟨_, _, rfl⟩ (by decide +kernel) h_Mo_degree wm_3127 wm_9 wm_3124 wm_3126 wv_14_9 ⟨by decide, by decide, by decide +kernel⟩ (by decide), List.forall_mem_cons.mpr ⟨cl_virtual (y := y_Mo_edgeWay) (ci := 13) rfl rfl ⟨_, _, rfl⟩ (by decide +kernel) h_Mo_edgeWay wm_3131 wm_9 wm_3128 wm_3130 wv_14_10 ⟨by decide, by decide, by decide +kernel⟩ (by decide), List.forall_mem_nil _⟩⟩, List.forall_mem_nil _, List.forall_mem_nil _, GG_pl⟩ (by decide +kernel)
def n_Mo_keep_an : List an_T := [(9, [(0, (2, 0, 0, [165])), (1, (0, 0, 3, [])), (2, (0, 0, 7, [])), (3, (0, 0, 24, []))], [], (0, 0), [(0, 0, 99991), (1, 3, 24), (0, 0, 100000), (0, 0, 0), (0, 0, 0)], [], [], [], 0, [], []), (59, [(0, (2, 0, 0, [165])), (1, (0, 0, 3, [])), (2, (0, 0, 7, [])), (3, (0, 0, 48, []))], [], (0, 0), [(0, 0, 99941), (1, 3, 48), (0, 0, 100000), (0, 0, 0), (0, 0, 0)], [], [], [], 0, [], []), (87, [(0, (2, 0, 0, [165])), (1, (0, 0, 3, [])), (2, (0, 0, 7, [])), (3, (0, 0, 47, [])), (4, (0, 0, 24, []))], [], (0, 0), [(0, 0, 99941), (1, 3, 48), (0, 0, 99913), (1, 4, 24), (0, 0, 100000)], [], [], [], 0, [], [])]
def t_Mo_keep_ct : ct_L := [(1, 401, e_Mo_edges), (1, 475, e_Mo_nodes)]
set_option maxRecDepth 100000 in
theorem c_Mo_keep {l : Launch} {D : va_G} {kA : Nat → ClassId} (h_Mo_edges : ct_ok PRD l D kA GG y_Mo_edges z_Mo_edges e_Mo_edges) (h_Mo_nodes : ct_ok PRD l D kA GG y_Mo_nodes z_Mo_nodes e_Mo_nodes) : ct_ok PRD l D kA GG y_Mo_keep z_Mo_keep e_Mo_keep := chk_all_ok (FT := [(120, 13, 61), (123, 13, 62), (126, 13, 63), (129, 13, 64), (132, 13, 65), (135, 13, 66), (159, 13, 74), (162, 13, 75), (165, 13, 76), (168, 13, 77), (171, 13, 78)]) (PT := []) (CT := t_Mo_keep_ct) (KT := []) (NT := []) (AN := n_Mo_keep_an) (OT := []) 5 432 (List.forall_mem_nil _) (by decide +kernel) ⟨List.forall_mem_cons.mpr ⟨gf_Mo_120, List.forall_mem_cons.mpr ⟨gf_Mo_123, List.forall_mem_cons.mpr ⟨gf_Mo_126, List.forall_mem_cons.mpr ⟨gf_Mo_129, List.forall_mem_cons.mpr ⟨gf_Mo_132, List.forall_mem_cons.mpr ⟨gf_Mo_135, List.forall_mem_cons.mpr ⟨gf_Mo_159, List.forall_mem_cons.mpr ⟨gf_Mo_162, List.forall_mem_cons.mpr ⟨gf_Mo_165, List.forall_mem_cons.mpr ⟨gf_Mo_168, List.forall_mem_cons.mpr ⟨gf_Mo_171, List.forall_mem_nil _⟩⟩⟩⟩⟩⟩⟩⟩⟩⟩⟩, List.forall_mem_nil _, List.forall_mem_cons.mpr ⟨cl_virtual (y := y_Mo_edges) (ci := 13) rfl rfl ⟨_, _, rfl⟩ (by decide +kernel) h_Mo_edges wm_3037 wm_9 wm_3034 wm_3036 wv_13_6 ⟨by decide, by decide, by decide +kernel⟩ (by decide), List.forall_mem_cons.mpr ⟨cl_virtual (y := y_Mo_nodes) (ci := 13) rfl rfl ⟨_, _, rfl⟩ (by decide +kernel) h_Mo_nodes wm_3025 wm_9 wm_3022 wm_3024 wv_13_3 ⟨by decide, by decide, by decide +kernel⟩ (by decide), List.forall_mem_nil _⟩⟩, List.forall_mem_nil _, List.forall_mem_nil _, GG_pl⟩ (by decide +kernel)
def n_Mo_other_an : List an_T := []
def t_Mo_other_ct : ct_L := [(1, 394, e_Mo_tail), (1, 398, e_Mo_head)]
set_option maxRecDepth 100000 in
theorem c_Mo_other {l : Launch} {D : va_G} {kA : Nat → ClassId} (h_Mo_head : ct_ok PRD l D kA GG y_Mo_head z_Mo_head e_Mo_head) (h_Mo_tail : ct_ok PRD l D kA GG y_Mo_tail z_Mo_tail e_Mo_tail) : ct_ok PRD l D kA GG y_Mo_other z_Mo_other e_Mo_other := chk_all_ok (FT := []) (PT := []) (CT := t_Mo_other_ct) (KT := []) (NT := []) (AN := n_Mo_other_an) (OT := []) 0 200 (List.forall_mem_nil _) (by decide +kernel) ⟨List.forall_mem_nil _, List.forall_mem_nil _, List.forall_mem_cons.mpr ⟨cl_virtual (y := y_Mo_tail) (ci := 13) rfl rfl ⟨_, _, rfl⟩ (by decide +kernel) h_Mo_tail wm_3045 wm_9 wm_3042 wm_3044 wv_13_8 ⟨by decide, by decide, by decide +kernel⟩ (by decide), List.forall_mem_cons.mpr ⟨cl_virtual (y := y_Mo_head) (ci := 13) rfl rfl ⟨_, _, rfl⟩ (by decide +kernel) h_Mo_head wm_3049 wm_9 wm_3046 wm_3048 wv_13_9 ⟨by decide, by decide, by decide +kernel⟩ (by decide), List.forall_mem_nil _⟩⟩, List.forall_mem_nil _, List.forall_mem_nil _, GG_pl⟩ (by decide +kernel)
def n_Ho_group_an : List an_T := []
def t_Ho_group_ct : ct_L := [(0, 115, e_Ho_isPlace), (1, 218, e_Gr_hasGroup), (1, 227, e_Gr_sizeOfGroup)]
set_option maxRecDepth 100000 in
theorem c_Ho_group {l : Launch} {D : va_G} {kA : Nat → ClassId} (h_Gr_hasGroup : ct_ok PRD l D kA GG y_Gr_hasGroup z_Gr_hasGroup e_Gr_hasGroup) (h_Gr_sizeOfGroup : ct_ok PRD l D kA GG y_Gr_sizeOfGroup z_Gr_sizeOfGroup e_Gr_sizeOfGroup) (h_Ho_isPlace : ct_ok PRD l D kA GG y_Ho_isPlace z_Ho_isPlace e_Ho_isPlace) : ct_ok PRD l D kA GG y_Ho_group z_Ho_group e_Ho_group := chk_all_ok (FT := [(13, 12, 0), (221, 3, 11), (224, 3, 13)]) (PT := []) (CT := t_Ho_group_ct) (KT := []) (NT := []) (AN := n_Ho_group_an) (OT := []) 0 200 (List.forall_mem_nil _) (by decide +kernel) ⟨List.forall_mem_cons.mpr ⟨gf_Ho_13, List.forall_mem_cons.mpr ⟨gf_Ho_221, List.forall_mem_cons.mpr ⟨gf_Ho_224, List.forall_mem_nil _⟩⟩⟩, List.forall_mem_nil _, List.forall_mem_cons.mpr ⟨cl_static (y := y_Ho_isPlace) h_Ho_isPlace wm_633 wm_1 wm_631 wm_632 ⟨by decide, by decide, by decide +kernel⟩ (by decide), List.forall_mem_cons.mpr ⟨cl_virtual (y := y_Gr_hasGroup) (ci := 3) rfl rfl ⟨_, _, rfl⟩ (by decide +kernel) h_Gr_hasGroup wm_942 wm_3 wm_939 wm_940 wm_941 ⟨by decide, by decide, by decide +kernel⟩ (by decide), List.forall_mem_cons.mpr ⟨cl_virtual (y := y_Gr_sizeOfGroup) (ci := 3) rfl rfl ⟨_, _, rfl⟩ (by decide +kernel) h_Gr_sizeOfGroup wm_946 wm_3 wm_943 wm_944 wm_945 ⟨by decide, by decide, by decide +kernel⟩ (by decide), List.forall_mem_nil _⟩⟩⟩, List.forall_mem_nil _, List.forall_mem_nil _, GG_pl⟩ (by decide +kernel)
def n_Ho_letter_an : List an_T := []
def t_Ho_letter_ct : ct_L := [(0, 115, e_Ho_isPlace), (1, 166, e_Gr_hasNode), (1, 218, e_Gr_hasGroup)]
set_option maxRecDepth 100000 in
theorem c_Ho_letter {l : Launch} {D : va_G} {kA : Nat → ClassId} (h_Gr_hasGroup : ct_ok PRD l D kA GG y_Gr_hasGroup z_Gr_hasGroup e_Gr_hasGroup) (h_Gr_hasNode : ct_ok PRD l D kA GG y_Gr_hasNode z_Gr_hasNode e_Gr_hasNode) (h_Ho_isPlace : ct_ok PRD l D kA GG y_Ho_isPlace z_Ho_isPlace e_Ho_isPlace) : ct_ok PRD l D kA GG y_Ho_letter z_Ho_letter e_Ho_letter := chk_all_ok (FT := [(13, 12, 0), (169, 3, 4), (224, 3, 13), (230, 3, 3), (233, 3, 12)]) (PT := []) (CT := t_Ho_letter_ct) (KT := []) (NT := []) (AN := n_Ho_letter_an) (OT := []) 0 352 (List.forall_mem_nil _) (by decide +kernel) ⟨List.forall_mem_cons.mpr ⟨gf_Ho_13, List.forall_mem_cons.mpr ⟨gf_Ho_169, List.forall_mem_cons.mpr ⟨gf_Ho_224, List.forall_mem_cons.mpr ⟨gf_Ho_230, List.forall_mem_cons.mpr ⟨gf_Ho_233, List.forall_mem_nil _⟩⟩⟩⟩⟩, List.forall_mem_nil _, List.forall_mem_cons.mpr ⟨cl_static (y := y_Ho_isPlace) h_Ho_isPlace wm_633 wm_1 wm_631 wm_632 ⟨by decide, by decide, by decide +kernel⟩ (by decide), List.forall_mem_cons.mpr ⟨cl_virtual (y := y_Gr_hasNode) (ci := 3) rfl rfl ⟨_, _, rfl⟩ (by decide +kernel) h_Gr_hasNode wm_921 wm_3 wm_918 wm_919 wm_920 ⟨by decide, by decide, by decide +kernel⟩ (by decide), List.forall_mem_cons.mpr ⟨cl_virtual (y := y_Gr_hasGroup) (ci := 3) rfl rfl ⟨_, _, rfl⟩ (by decide +kernel) h_Gr_hasGroup wm_942 wm_3 wm_939 wm_940 wm_941 ⟨by decide, by decide, by decide +kernel⟩ (by decide), List.forall_mem_nil _⟩⟩⟩, List.forall_mem_nil _, List.forall_mem_nil _, GG_pl⟩ (by decide +kernel)
def o_Ho_mayBecome_0 : or_T := (3, 5, [(3, (0, 0, 23, [])), (4, (0, -1, 23, []))], [(10, [4, 2, 3], []), (20, [2, 3], [8, 0, 23, 1])], [(4, (0, 0, 23, []))], [], [], [], [])
theorem oo_Ho_mayBecome_0 {kA : Nat → ClassId} : or_ok PRD kA GG o_Ho_mayBecome_0 := by
  refine or_mk fun A ta ws vs hD hth hl => ?_
  intro t3 k3 t4 k4 f0 f1
  replace f0 := shm_107 f0
  replace f1 := shm_171 f1
  have u := f1 (v_iv (n_v vs 3)).toNat (by omega)
  rw [← f0] at u
  have rf4 : tv_ok ta (0, 0, 23, []) (n_v vs 4) := tv_in t4 (by omega) (by omega)
  refine ⟨List.forall_mem_cons.mpr ⟨rf4, (fun _ h => (by cases h))⟩, [], trivial, ?_, (fun _ h => (by cases h))⟩
  rw [List.append_nil]
  exact (fun _ h => (by cases h))
def o_Ho_mayBecome_1 : or_T := (52, 8, [(3, (0, 1, 23, [])), (5, (0, 0, 22, [])), (7, (0, -1, 23, []))], [(10, [7, 2, 5], []), (7, [5, 3], [2]), (20, [2, 3], [8, 0, 23, 1])], [(7, (0, 0, 23, []))], [], [], [], [(5, 3, -4294967296, -1), (5, 3, -4294967296, 0)])
theorem oo_Ho_mayBecome_1 {kA : Nat → ClassId} : or_ok PRD kA GG o_Ho_mayBecome_1 := by
  refine or_mk fun A ta ws vs hD hth hl => ?_
  intro t3 k3 t5 k5 t7 k7 d0 d1 f0 f1 f2
  replace f0 := shm_107 f0
  replace f1 := shm_6 f1
  replace f2 := shm_171 f2
  have u := f2 (v_iv (n_v vs 5)).toNat (by omega)
  rw [← f0] at u
  have rf7 : tv_ok ta (0, 0, 23, []) (n_v vs 7) := tv_in t7 (by omega) (by omega)
  refine ⟨List.forall_mem_cons.mpr ⟨rf7, (fun _ h => (by cases h))⟩, [], trivial, ?_, (fun _ h => (by cases h))⟩
  rw [List.append_nil]
  exact (fun _ h => (by cases h))
def n_Ho_mayBecome_an : List an_T := [(32, [(0, (2, 0, 0, [3])), (1, (2, 0, 0, [3])), (2, (2, 0, 0, [295])), (3, (0, 0, 23, [])), (4, (0, 0, 23, [])), (5, (0, 0, 23, []))], [], (0, 0), [(0, 0, 99968), (1, 5, 23), (0, 0, 100000)], [(5, 3, (Int.negSucc 999999999999), 0)], [], [], 0, [], [(20, [2, 3], [8, 0, 23, 1])])]
def t_Ho_mayBecome_ct : ct_L := [(1, 435, e_Gr_relation), (36, 181, e_jInt_bitCount_v8), (66, 181, e_jInt_bitCount_v8)]
set_option maxRecDepth 100000 in
theorem c_Ho_mayBecome {l : Launch} {D : va_G} {kA : Nat → ClassId} (h_Gr_relation : ct_ok PRD l D kA GG y_Gr_relation z_Gr_relation e_Gr_relation) : ct_ok PRD l D kA GG y_Ho_mayBecome z_Ho_mayBecome e_Ho_mayBecome := chk_all_ok (FT := [(178, 3, 14)]) (PT := []) (CT := t_Ho_mayBecome_ct) (KT := []) (NT := []) (AN := n_Ho_mayBecome_an) (OT := [o_Ho_mayBecome_0, o_Ho_mayBecome_1]) 3 400 (List.forall_mem_cons.mpr ⟨oo_Ho_mayBecome_0, List.forall_mem_cons.mpr ⟨oo_Ho_mayBecome_1, List.forall_mem_nil _⟩⟩) (by decide +kernel) ⟨List.forall_mem_cons.mpr ⟨gf_Ho_178, List.forall_mem_nil _⟩, List.forall_mem_nil _, List.forall_mem_cons.mpr ⟨cl_virtual (y := y_Gr_relation) (ci := 3) rfl rfl ⟨_, _, rfl⟩ (by decide +kernel) h_Gr_relation wm_1039 wm_3 wm_1036 wm_1037 wm_1038 ⟨by decide, by decide, by decide +kernel⟩ (by decide), List.forall_mem_cons.mpr ⟨cl_static (y := y_jInt_bitCount) c_jInt_bitCount_v8 wm_870 wm_17 wm_922 wm_869 ⟨by decide, by decide, by decide +kernel⟩ (by decide), List.forall_mem_cons.mpr ⟨cl_static (y := y_jInt_bitCount) c_jInt_bitCount_v8 wm_870 wm_17 wm_922 wm_869 ⟨by decide, by decide, by decide +kernel⟩ (by decide), List.forall_mem_nil _⟩⟩⟩, List.forall_mem_nil _, List.forall_mem_nil _, GG_pl⟩ (by decide +kernel)
def n_Ho_shade_an : List an_T := []
def t_Ho_shade_ct : ct_L := [(0, 115, e_Ho_isPlace), (1, 166, e_Gr_hasNode), (1, 197, e_Gr_hasEdge)]
set_option maxRecDepth 100000 in
theorem c_Ho_shade {l : Launch} {D : va_G} {kA : Nat → ClassId} (h_Gr_hasEdge : ct_ok PRD l D kA GG y_Gr_hasEdge z_Gr_hasEdge e_Gr_hasEdge) (h_Gr_hasNode : ct_ok PRD l D kA GG y_Gr_hasNode z_Gr_hasNode e_Gr_hasNode) (h_Ho_isPlace : ct_ok PRD l D kA GG y_Ho_isPlace z_Ho_isPlace e_Ho_isPlace) : ct_ok PRD l D kA GG y_Ho_shade z_Ho_shade e_Ho_shade := chk_all_ok (FT := [(13, 12, 0), (31, 12, 3), (361, 0, 14)]) (PT := []) (CT := t_Ho_shade_ct) (KT := []) (NT := []) (AN := n_Ho_shade_an) (OT := []) 0 332 (List.forall_mem_nil _) (by decide +kernel) ⟨List.forall_mem_cons.mpr ⟨gf_Ho_13, List.forall_mem_cons.mpr ⟨gf_Ho_31, List.forall_mem_cons.mpr ⟨gf_Ho_361, List.forall_mem_nil _⟩⟩⟩, List.forall_mem_nil _, List.forall_mem_cons.mpr ⟨cl_static (y := y_Ho_isPlace) h_Ho_isPlace wm_633 wm_1 wm_631 wm_632 ⟨by decide, by decide, by decide +kernel⟩ (by decide), List.forall_mem_cons.mpr ⟨cl_virtual (y := y_Gr_hasNode) (ci := 3) rfl rfl ⟨_, _, rfl⟩ (by decide +kernel) h_Gr_hasNode wm_921 wm_3 wm_918 wm_919 wm_920 ⟨by decide, by decide, by decide +kernel⟩ (by decide), List.forall_mem_cons.mpr ⟨cl_virtual (y := y_Gr_hasEdge) (ci := 3) rfl rfl ⟨_, _, rfl⟩ (by decide +kernel) h_Gr_hasEdge wm_930 wm_3 wm_927 wm_928 wm_929 ⟨by decide, by decide, by decide +kernel⟩ (by decide), List.forall_mem_nil _⟩⟩⟩, List.forall_mem_nil _, List.forall_mem_nil _, GG_pl⟩ (by decide +kernel)
set_option maxHeartbeats 4000000 in
theorem vc_Ho_writeNumber_0_0 (x2 : Int) (x6 : Int) (spareLength_0 : Int) (k2 : 0 ≤ x2 ∧ x2 ≤ 99999992) (k6 : 0 ≤ x6 ∧ x6 ≤ 0) (f0 : 1 * spareLength_0 + ((-1) * x2 + 0) ≤ 0) (kz_0_12 : 0 ≤ spareLength_0 ∧ spareLength_0 ≤ 100000000) : 1 * spareLength_0 + ((-1) * x2 + ((-1) * x6 + 0)) ≤ 1 := by
  first | assumption | omega | grind
def o_Ho_writeNumber_0 : or_T := (25, 7, [(0, (2, 0, 0, [12])), (2, (0, 0, 99999992, [])), (6, (0, 0, 0, []))], [(20, [0, 2], [30, 0, 1, 1, 12, -1, 0, 0])], [], [], [(20, [0, 2, 6], [30, 1, 1, 1, 12, -1, 0, 0, -1, 0, 0]), (24, [0, 0], [])], [], [])
theorem oo_Ho_writeNumber_0 {kA : Nat → ClassId} : or_ok PRD kA GG o_Ho_writeNumber_0 := by
  refine or_mk fun A ta ws vs hD hth hl => ?_
  intro t0 r0 t2 k2 t6 k6 f0
  have kz_0_12 := fdq_0 hD hth r0
  have nf0 : fc_1 PRD (20, [0, 2, 6], [30, 1, 1, 1, 12, -1, 0, 0, -1, 0, 0]) ws (vs) := ⟨nf_in hl rfl, sgq_172 (vc_Ho_writeNumber_0_0 (v_iv (n_v vs 2)) (v_iv (n_v vs 6)) (w_fi ws (n_v vs 0) 12) k2 k6 (shm_104 f0) kz_0_12)⟩
  have nf1 : fc_1 PRD (24, [0, 0], []) ws (vs) := by
    refine ⟨nf_in hl rfl, sgq_1 ?_⟩
    · show n_v vs 0 = n_v vs 0
      first | rfl | simp only [true_and]
  refine ⟨(fun _ h => (by cases h)), [], trivial, ?_, (fun _ h => (by cases h))⟩
  rw [List.append_nil]
  exact List.forall_mem_cons.mpr ⟨⟨show (20 : Nat) < 100 from by decide, nf0⟩, List.forall_mem_cons.mpr ⟨⟨show (24 : Nat) < 100 from by decide, nf1⟩, (fun _ h => (by cases h))⟩⟩
set_option maxHeartbeats 4000000 in
theorem vc_Ho_writeNumber_1_0 (spareLength_0 : Int) (gx : Int) (kz_0_12 : 0 ≤ spareLength_0 ∧ spareLength_0 ≤ 100000000) (ex2 : gx = spareLength_0) : 1 * spareLength_0 + ((-1) * gx + 0) ≤ 0 := by
  first | assumption | omega | grind
set_option maxHeartbeats 4000000 in
theorem vc_Ho_writeNumber_1_1 (x2 : Int) (spareLength_0 : Int) (gx : Int) (k2 : 0 ≤ x2 ∧ x2 ≤ 99999992) (f0 : 1 * spareLength_0 + ((-1) * x2 + 0) ≤ 0) (kz_0_12 : 0 ≤ spareLength_0 ∧ spareLength_0 ≤ 100000000) (ex2 : gx = spareLength_0) : 1 * gx + ((-1) * x2 + 0) ≤ 0 := by
  first | assumption | omega | grind
def o_Ho_writeNumber_1 : or_T := (7, 4, [(0, (2, 0, 0, [12])), (2, (0, 0, 99999992, []))], [(20, [0, 2], [30, 0, 1, 1, 12, -1, 0, 0])], [], [(0, 0, 99999999, [])], [(20, [0, 4], [30, 0, 1, 1, 12, -1, 0, 0]), (23, [4, 2], [0, 1, -1])], [], [])
theorem oo_Ho_writeNumber_1 {kA : Nat → ClassId} : or_ok PRD kA GG o_Ho_writeNumber_1 := by
  refine or_mk fun A ta ws vs hD hth hl => ?_
  intro t0 r0 t2 k2 f0
  replace f0 := shm_104 f0
  have kz_0_12 := fdq_0 hD hth r0
  have kv0 := fdq_0 hD hth r0
  obtain ⟨x, ex, hx⟩ := iv_ex (ta := ta) (lo := 0) (hi := 99999999) (z := w_fi ws (n_v vs 0) 12) (by omega) (by omega) (by omega) (by omega)
  have ex2 : v_iv (Value.int x) = w_fi ws (n_v vs 0) 12 := ex
  have ex3 : 0 ≤ v_iv (Value.int x) ∧ v_iv (Value.int x) ≤ 99999999 := tv_rng hx
  have e_0 : n_v (vs ++ [Value.int x]) 0 = n_v vs 0 := n_v_old (by rw [hl]; decide)
  have e_2 : n_v (vs ++ [Value.int x]) 2 = n_v vs 2 := n_v_old (by rw [hl]; decide)
  have e_4 : n_v (vs ++ [Value.int x]) 4 = Value.int x := n_v_new hl
  have nf0 : fc_1 PRD (20, [0, 4], [30, 0, 1, 1, 12, -1, 0, 0]) ws (vs ++ [Value.int x]) := by
    refine ⟨nf_inA hl rfl, sgq_104 ?_⟩
    · show 1 * w_fi ws (n_v (vs ++ [Value.int x]) 0) 12 + ((-1) * v_iv (n_v (vs ++ [Value.int x]) 4) + 0) ≤ 0
      simp only [e_0, e_4]
      exact vc_Ho_writeNumber_1_0 (w_fi ws (n_v vs 0) 12) (v_iv (Value.int x)) kz_0_12 ex2
  have nf1 : fc_1 PRD (23, [4, 2], [0, 1, -1]) ws (vs ++ [Value.int x]) := by
    refine ⟨nf_inA hl rfl, sgq_7 ?_⟩
    · show 1 * v_iv (n_v (vs ++ [Value.int x]) 4) + ((-1) * v_iv (n_v (vs ++ [Value.int x]) 2) + 0) ≤ 0
      simp only [e_2, e_4]
      exact vc_Ho_writeNumber_1_1 (v_iv (n_v vs 2)) (w_fi ws (n_v vs 0) 12) (v_iv (Value.int x)) k2 f0 kz_0_12 ex2
  exact ⟨(fun _ h => (by cases h)), [Value.int x], ag_one hx, List.forall_mem_cons.mpr ⟨⟨show (20 : Nat) < 100 from by decide, nf0⟩, List.forall_mem_cons.mpr ⟨⟨show (23 : Nat) < 100 from by decide, nf1⟩, (fun _ h => (by cases h))⟩⟩, (fun _ h => (by cases h))⟩
set_option maxHeartbeats 4000000 in
theorem vc_Ho_writeNumber_2_0 (x2 : Int) (x4 : Int) (x8 : Int) (spareLength_0 : Int) (k2 : 0 ≤ x2 ∧ x2 ≤ 99999992) (k4 : 0 ≤ x4 ∧ x4 ≤ 99999999) (k8 : 0 ≤ x8 ∧ x8 ≤ 0) (f0 : 1 * x4 + ((-1) * x2 + 0) ≤ 0) (f1 : 1 * spareLength_0 + ((-1) * x4 + 0) ≤ 1) (kz_0_12 : 0 ≤ spareLength_0 ∧ spareLength_0 ≤ 100000000) : 1 * spareLength_0 + ((-1) * x2 + ((-1) * x8 + 0)) ≤ 1 := by
  first | assumption | omega | grind
def o_Ho_writeNumber_2 : or_T := (25, 9, [(0, (2, 0, 0, [12])), (2, (0, 0, 99999992, [])), (4, (0, 0, 99999999, [])), (8, (0, 0, 0, []))], [(23, [4, 2], [0, 1, -1]), (20, [0, 4], [30, 1, 1, 1, 12, -1, 0, 0])], [], [], [(20, [0, 2, 8], [30, 1, 1, 1, 12, -1, 0, 0, -1, 0, 0]), (24, [0, 0], [])], [], [])
theorem oo_Ho_writeNumber_2 {kA : Nat → ClassId} : or_ok PRD kA GG o_Ho_writeNumber_2 := by
  refine or_mk fun A ta ws vs hD hth hl => ?_
  intro t0 r0 t2 k2 t4 k4 t8 k8 f0 f1
  have kz_0_12 := fdq_0 hD hth r0
  have nf0 : fc_1 PRD (20, [0, 2, 8], [30, 1, 1, 1, 12, -1, 0, 0, -1, 0, 0]) ws (vs) := ⟨nf_in hl rfl, sgq_172 (vc_Ho_writeNumber_2_0 (v_iv (n_v vs 2)) (v_iv (n_v vs 4)) (v_iv (n_v vs 8)) (w_fi ws (n_v vs 0) 12) k2 k4 k8 (shm_7 f0) (shm_105 f1) kz_0_12)⟩
  have nf1 : fc_1 PRD (24, [0, 0], []) ws (vs) := by
    refine ⟨nf_in hl rfl, sgq_1 ?_⟩
    · show n_v vs 0 = n_v vs 0
      first | rfl | simp only [true_and]
  refine ⟨(fun _ h => (by cases h)), [], trivial, ?_, (fun _ h => (by cases h))⟩
  rw [List.append_nil]
  exact List.forall_mem_cons.mpr ⟨⟨show (20 : Nat) < 100 from by decide, nf0⟩, List.forall_mem_cons.mpr ⟨⟨show (24 : Nat) < 100 from by decide, nf1⟩, (fun _ h => (by cases h))⟩⟩
set_option maxHeartbeats 4000000 in
theorem vc_Ho_writeNumber_3_0 (x2 : Int) (x8 : Int) (spareLength_0 : Int) (k2 : 0 ≤ x2 ∧ x2 ≤ 99999992) (k8 : 7 ≤ x8 ∧ x8 ≤ 7) (f1 : 1 * spareLength_0 + ((-1) * x2 + ((-1) * x8 + 0)) ≤ 1) (kz_0_12 : 0 ≤ spareLength_0 ∧ spareLength_0 ≤ 100000000) : 1 * spareLength_0 + ((-1) * x2 + 0) ≤ 8 := by
  first | assumption | omega | grind
def o_Ho_writeNumber_3 : or_T := (93, 10, [(0, (2, 0, 0, [12])), (2, (0, 0, 99999992, [])), (8, (0, 7, 7, []))], [(20, [3, 2, 8], [30, 1, 1, 1, 12, -1, 0, 0, -1, 0, 0]), (24, [0, 3], [])], [], [], [(20, [0, 2], [30, 8, 1, 1, 12, -1, 0, 0])], [], [])
theorem oo_Ho_writeNumber_3 {kA : Nat → ClassId} : or_ok PRD kA GG o_Ho_writeNumber_3 := by
  refine or_mk fun A ta ws vs hD hth hl => ?_
  intro t0 r0 t2 k2 t8 k8 f1 f2
  replace f1 := shm_172 f1
  replace f2 := shm_5 f2
  have q3 : n_v vs 3 = n_v vs 0 := f2.symm
  simp only [q3] at f1
  have kz_0_12 := fdq_0 hD hth r0
  have nf0 : fc_1 PRD (20, [0, 2], [30, 8, 1, 1, 12, -1, 0, 0]) ws (vs) := ⟨nf_in hl rfl, sgq_135 (vc_Ho_writeNumber_3_0 (v_iv (n_v vs 2)) (v_iv (n_v vs 8)) (w_fi ws (n_v vs 0) 12) k2 k8 f1 kz_0_12)⟩
  refine ⟨(fun _ h => (by cases h)), [], trivial, ?_, (fun _ h => (by cases h))⟩
  rw [List.append_nil]
  exact List.forall_mem_cons.mpr ⟨⟨show (20 : Nat) < 100 from by decide, nf0⟩, (fun _ h => (by cases h))⟩
set_option maxHeartbeats 4000000 in
theorem vc_Ho_writeNumber_4_0 (spareLength_0 : Int) (gx : Int) (kz_0_12 : 0 ≤ spareLength_0 ∧ spareLength_0 ≤ 100000000) (ex2 : gx = spareLength_0) : 1 * spareLength_0 + ((-1) * gx + 0) ≤ 0 := by
  first | assumption | omega | grind
set_option maxHeartbeats 4000000 in
theorem vc_Ho_writeNumber_4_1 (x2 : Int) (x8 : Int) (spareLength_0 : Int) (gx : Int) (k2 : 0 ≤ x2 ∧ x2 ≤ 99999992) (k8 : 1 ≤ x8 ∧ x8 ≤ 6) (f1 : 1 * spareLength_0 + ((-1) * x2 + ((-1) * x8 + 0)) ≤ 1) (kz_0_12 : 0 ≤ spareLength_0 ∧ spareLength_0 ≤ 100000000) (ex2 : gx = spareLength_0) : 1 * gx + ((-1) * x2 + ((-1) * x8 + 0)) ≤ 1 := by
  first | assumption | omega | grind
def o_Ho_writeNumber_4 : or_T := (73, 16, [(0, (2, 0, 0, [12])), (2, (0, 0, 99999992, [])), (3, (2, 0, 0, [12])), (8, (0, 1, 6, [])), (9, (0, 7, 7, []))], [(7, [8, 9], [2]), (20, [3, 2, 8], [30, 1, 1, 1, 12, -1, 0, 0, -1, 0, 0]), (24, [0, 3], [])], [], [(0, 0, 99999999, [])], [(20, [3, 16], [30, 0, 1, 1, 12, -1, 0, 0]), (23, [16, 2, 8], [1, 1, -1, -1])], [], [])
theorem oo_Ho_writeNumber_4 {kA : Nat → ClassId} : or_ok PRD kA GG o_Ho_writeNumber_4 := by
  refine or_mk fun A ta ws vs hD hth hl => ?_
  intro t0 r0 t2 k2 t3 r3 t8 k8 t9 k9 f0 f1 f2
  replace f0 := shm_6 f0
  replace f1 := shm_172 f1
  replace f2 := shm_5 f2
  have q3 : n_v vs 3 = n_v vs 0 := f2.symm
  simp only [q3] at f1
  have kz_0_12 := fdq_0 hD hth r0
  have kv0 := fdq_0 hD hth r0
  obtain ⟨x, ex, hx⟩ := iv_ex (ta := ta) (lo := 0) (hi := 99999999) (z := w_fi ws (n_v vs 0) 12) (by omega) (by omega) (by omega) (by omega)
  have ex2 : v_iv (Value.int x) = w_fi ws (n_v vs 0) 12 := ex
  have ex3 : 0 ≤ v_iv (Value.int x) ∧ v_iv (Value.int x) ≤ 99999999 := tv_rng hx
  have e_2 : n_v (vs ++ [Value.int x]) 2 = n_v vs 2 := n_v_old (by rw [hl]; decide)
  have e_3 : n_v (vs ++ [Value.int x]) 3 = n_v vs 3 := n_v_old (by rw [hl]; decide)
  have e_8 : n_v (vs ++ [Value.int x]) 8 = n_v vs 8 := n_v_old (by rw [hl]; decide)
  have e_16 : n_v (vs ++ [Value.int x]) 16 = Value.int x := n_v_new hl
  have nf0 : fc_1 PRD (20, [3, 16], [30, 0, 1, 1, 12, -1, 0, 0]) ws (vs ++ [Value.int x]) := by
    refine ⟨nf_inA hl rfl, sgq_104 ?_⟩
    · show 1 * w_fi ws (n_v (vs ++ [Value.int x]) 3) 12 + ((-1) * v_iv (n_v (vs ++ [Value.int x]) 16) + 0) ≤ 0
      simp only [e_3, e_16, q3]
      exact vc_Ho_writeNumber_4_0 (w_fi ws (n_v vs 0) 12) (v_iv (Value.int x)) kz_0_12 ex2
  have nf1 : fc_1 PRD (23, [16, 2, 8], [1, 1, -1, -1]) ws (vs ++ [Value.int x]) := by
    refine ⟨nf_inA hl rfl, sgq_173 ?_⟩
    · show 1 * v_iv (n_v (vs ++ [Value.int x]) 16) + ((-1) * v_iv (n_v (vs ++ [Value.int x]) 2) + ((-1) * v_iv (n_v (vs ++ [Value.int x]) 8) + 0)) ≤ 1
      simp only [e_2, e_8, e_16]
      exact vc_Ho_writeNumber_4_1 (v_iv (n_v vs 2)) (v_iv (n_v vs 8)) (w_fi ws (n_v vs 0) 12) (v_iv (Value.int x)) k2 k8 f1 kz_0_12 ex2
  exact ⟨(fun _ h => (by cases h)), [Value.int x], ag_one hx, List.forall_mem_cons.mpr ⟨⟨show (20 : Nat) < 100 from by decide, nf0⟩, List.forall_mem_cons.mpr ⟨⟨show (23 : Nat) < 100 from by decide, nf1⟩, (fun _ h => (by cases h))⟩⟩, (fun _ h => (by cases h))⟩
set_option maxHeartbeats 4000000 in
theorem vc_Ho_writeNumber_5_0 (x2 : Int) (x8 : Int) (x16 : Int) (x21 : Int) (spareLength_0 : Int) (k2 : 0 ≤ x2 ∧ x2 ≤ 99999992) (k8 : 1 ≤ x8 ∧ x8 ≤ 6) (k16 : 0 ≤ x16 ∧ x16 ≤ 99999999) (k21 : 2 ≤ x21 ∧ x21 ≤ 7) (d0 : x8 + 1 ≤ x21 ∧ x21 ≤ x8 + 1) (f1 : 1 * x16 + ((-1) * x2 + ((-1) * x8 + 0)) ≤ 1) (f3 : 1 * spareLength_0 + ((-1) * x16 + 0) ≤ 1) (kz_0_12 : 0 ≤ spareLength_0 ∧ spareLength_0 ≤ 100000000) : 1 * spareLength_0 + ((-1) * x2 + ((-1) * x21 + 0)) ≤ 1 := by
  first | assumption | omega | grind
def o_Ho_writeNumber_5 : or_T := (25, 22, [(0, (2, 0, 0, [12])), (2, (0, 0, 99999992, [])), (3, (2, 0, 0, [12])), (8, (0, 1, 6, [])), (9, (0, 7, 7, [])), (16, (0, 0, 99999999, [])), (21, (0, 2, 7, []))], [(6, [21, 8], [1]), (23, [16, 2, 8], [1, 1, -1, -1]), (24, [0, 3], []), (20, [3, 16], [30, 1, 1, 1, 12, -1, 0, 0]), (102, [16], [261336857795280739939871698507597986398208, 12012]), (23, [16, 2, 8], [1, 1, -1, -1]), (7, [8, 9], [2])], [], [], [(20, [3, 2, 21], [30, 1, 1, 1, 12, -1, 0, 0, -1, 0, 0])], [], [(21, 8, 1, 1)])
theorem oo_Ho_writeNumber_5 {kA : Nat → ClassId} : or_ok PRD kA GG o_Ho_writeNumber_5 := by
  refine or_mk fun A ta ws vs hD hth hl => ?_
  intro t0 r0 t2 k2 t3 r3 t8 k8 t9 k9 t16 k16 t21 k21 d0 f0 f1 f2 f3 ta1 w1 le1 s1 f5 f6
  replace f1 := shm_173 f1
  replace f2 := shm_5 f2
  replace f3 := shm_105 f3
  have q3 : n_v vs 3 = n_v vs 0 := f2.symm
  simp only [q3] at f3
  have kz_0_12 := fdq_0 hD hth r0
  have nf0 : fc_1 PRD (20, [3, 2, 21], [30, 1, 1, 1, 12, -1, 0, 0, -1, 0, 0]) ws (vs) := by
    refine ⟨nf_in hl rfl, sgq_172 ?_⟩
    · show 1 * w_fi ws (n_v vs 3) 12 + ((-1) * v_iv (n_v vs 2) + ((-1) * v_iv (n_v vs 21) + 0)) ≤ 1
      rw [q3]
      exact vc_Ho_writeNumber_5_0 (v_iv (n_v vs 2)) (v_iv (n_v vs 8)) (v_iv (n_v vs 16)) (v_iv (n_v vs 21)) (w_fi ws (n_v vs 0) 12) k2 k8 k16 k21 d0 f1 f3 kz_0_12
  refine ⟨(fun _ h => (by cases h)), [], trivial, ?_, (fun _ h => (by cases h))⟩
  rw [List.append_nil]
  exact List.forall_mem_cons.mpr ⟨⟨show (20 : Nat) < 100 from by decide, nf0⟩, (fun _ h => (by cases h))⟩
set_option maxHeartbeats 4000000 in
theorem vc_Ho_writeNumber_6_0 (spareLength_0 : Int) (gx : Int) (kz_0_12 : 0 ≤ spareLength_0 ∧ spareLength_0 ≤ 100000000) (ex2 : gx = spareLength_0) : 1 * spareLength_0 + ((-1) * gx + 0) ≤ 0 := by
  first | assumption | omega | grind
set_option maxHeartbeats 4000000 in
theorem vc_Ho_writeNumber_6_1 (x2 : Int) (x8 : Int) (spareLength_0 : Int) (gx : Int) (k2 : 0 ≤ x2 ∧ x2 ≤ 99999992) (k8 : 0 ≤ x8 ∧ x8 ≤ 6) (f1 : 1 * spareLength_0 + ((-1) * x2 + ((-1) * x8 + 0)) ≤ 1) (kz_0_12 : 0 ≤ spareLength_0 ∧ spareLength_0 ≤ 100000000) (ex2 : gx = spareLength_0) : 1 * gx + ((-1) * x2 + ((-1) * x8 + 0)) ≤ 1 := by
  first | assumption | omega | grind
def o_Ho_writeNumber_6 : or_T := (73, 16, [(0, (2, 0, 0, [12])), (2, (0, 0, 99999992, [])), (3, (2, 0, 0, [12])), (8, (0, 0, 6, [])), (9, (0, 7, 7, []))], [(7, [8, 9], [2]), (20, [3, 2, 8], [30, 1, 1, 1, 12, -1, 0, 0, -1, 0, 0]), (24, [0, 3], [])], [], [(0, 0, 99999999, [])], [(20, [3, 16], [30, 0, 1, 1, 12, -1, 0, 0]), (23, [16, 2, 8], [1, 1, -1, -1])], [], [])
theorem oo_Ho_writeNumber_6 {kA : Nat → ClassId} : or_ok PRD kA GG o_Ho_writeNumber_6 := by
  refine or_mk fun A ta ws vs hD hth hl => ?_
  intro t0 r0 t2 k2 t3 r3 t8 k8 t9 k9 f0 f1 f2
  replace f0 := shm_6 f0
  replace f1 := shm_172 f1
  replace f2 := shm_5 f2
  have q3 : n_v vs 3 = n_v vs 0 := f2.symm
  simp only [q3] at f1
  have kz_0_12 := fdq_0 hD hth r0
  have kv0 := fdq_0 hD hth r0
  obtain ⟨x, ex, hx⟩ := iv_ex (ta := ta) (lo := 0) (hi := 99999999) (z := w_fi ws (n_v vs 0) 12) (by omega) (by omega) (by omega) (by omega)
  have ex2 : v_iv (Value.int x) = w_fi ws (n_v vs 0) 12 := ex
  have ex3 : 0 ≤ v_iv (Value.int x) ∧ v_iv (Value.int x) ≤ 99999999 := tv_rng hx
  have e_2 : n_v (vs ++ [Value.int x]) 2 = n_v vs 2 := n_v_old (by rw [hl]; decide)
  have e_3 : n_v (vs ++ [Value.int x]) 3 = n_v vs 3 := n_v_old (by rw [hl]; decide)
  have e_8 : n_v (vs ++ [Value.int x]) 8 = n_v vs 8 := n_v_old (by rw [hl]; decide)
  have e_16 : n_v (vs ++ [Value.int x]) 16 = Value.int x := n_v_new hl
  have nf0 : fc_1 PRD (20, [3, 16], [30, 0, 1, 1, 12, -1, 0, 0]) ws (vs ++ [Value.int x]) := by
    refine ⟨nf_inA hl rfl, sgq_104 ?_⟩
    · show 1 * w_fi ws (n_v (vs ++ [Value.int x]) 3) 12 + ((-1) * v_iv (n_v (vs ++ [Value.int x]) 16) + 0) ≤ 0
      simp only [e_3, e_16, q3]
      exact vc_Ho_writeNumber_6_0 (w_fi ws (n_v vs 0) 12) (v_iv (Value.int x)) kz_0_12 ex2
  have nf1 : fc_1 PRD (23, [16, 2, 8], [1, 1, -1, -1]) ws (vs ++ [Value.int x]) := by
    refine ⟨nf_inA hl rfl, sgq_173 ?_⟩
    · show 1 * v_iv (n_v (vs ++ [Value.int x]) 16) + ((-1) * v_iv (n_v (vs ++ [Value.int x]) 2) + ((-1) * v_iv (n_v (vs ++ [Value.int x]) 8) + 0)) ≤ 1
      simp only [e_2, e_8, e_16]
      exact vc_Ho_writeNumber_6_1 (v_iv (n_v vs 2)) (v_iv (n_v vs 8)) (w_fi ws (n_v vs 0) 12) (v_iv (Value.int x)) k2 k8 f1 kz_0_12 ex2
  exact ⟨(fun _ h => (by cases h)), [Value.int x], ag_one hx, List.forall_mem_cons.mpr ⟨⟨show (20 : Nat) < 100 from by decide, nf0⟩, List.forall_mem_cons.mpr ⟨⟨show (23 : Nat) < 100 from by decide, nf1⟩, (fun _ h => (by cases h))⟩⟩, (fun _ h => (by cases h))⟩
set_option maxHeartbeats 4000000 in
theorem vc_Ho_writeNumber_7_0 (x2 : Int) (x8 : Int) (x16 : Int) (x21 : Int) (spareLength_0 : Int) (k2 : 0 ≤ x2 ∧ x2 ≤ 99999992) (k8 : 0 ≤ x8 ∧ x8 ≤ 6) (k16 : 0 ≤ x16 ∧ x16 ≤ 99999999) (k21 : 1 ≤ x21 ∧ x21 ≤ 7) (d0 : x8 + 1 ≤ x21 ∧ x21 ≤ x8 + 1) (f1 : 1 * x16 + ((-1) * x2 + ((-1) * x8 + 0)) ≤ 1) (f3 : 1 * spareLength_0 + ((-1) * x16 + 0) ≤ 1) (kz_0_12 : 0 ≤ spareLength_0 ∧ spareLength_0 ≤ 100000000) : 1 * spareLength_0 + ((-1) * x2 + ((-1) * x21 + 0)) ≤ 1 := by
  first | assumption | omega | grind
def o_Ho_writeNumber_7 : or_T := (25, 22, [(0, (2, 0, 0, [12])), (2, (0, 0, 99999992, [])), (3, (2, 0, 0, [12])), (8, (0, 0, 6, [])), (9, (0, 7, 7, [])), (16, (0, 0, 99999999, [])), (21, (0, 1, 7, []))], [(6, [21, 8], [1]), (23, [16, 2, 8], [1, 1, -1, -1]), (24, [0, 3], []), (20, [3, 16], [30, 1, 1, 1, 12, -1, 0, 0]), (102, [16], [261336857795280739939871698507597986398208, 12012]), (23, [16, 2, 8], [1, 1, -1, -1]), (7, [8, 9], [2])], [], [], [(20, [3, 2, 21], [30, 1, 1, 1, 12, -1, 0, 0, -1, 0, 0])], [], [(21, 8, 1, 1)])
theorem oo_Ho_writeNumber_7 {kA : Nat → ClassId} : or_ok PRD kA GG o_Ho_writeNumber_7 := by
  refine or_mk fun A ta ws vs hD hth hl => ?_
  intro t0 r0 t2 k2 t3 r3 t8 k8 t9 k9 t16 k16 t21 k21 d0 f0 f1 f2 f3 ta1 w1 le1 s1 f5 f6
  replace f1 := shm_173 f1
  replace f2 := shm_5 f2
  replace f3 := shm_105 f3
  have q3 : n_v vs 3 = n_v vs 0 := f2.symm
  simp only [q3] at f3
  have kz_0_12 := fdq_0 hD hth r0
  have nf0 : fc_1 PRD (20, [3, 2, 21], [30, 1, 1, 1, 12, -1, 0, 0, -1, 0, 0]) ws (vs) := by
    refine ⟨nf_in hl rfl, sgq_172 ?_⟩
    · show 1 * w_fi ws (n_v vs 3) 12 + ((-1) * v_iv (n_v vs 2) + ((-1) * v_iv (n_v vs 21) + 0)) ≤ 1
      rw [q3]
      exact vc_Ho_writeNumber_7_0 (v_iv (n_v vs 2)) (v_iv (n_v vs 8)) (v_iv (n_v vs 16)) (v_iv (n_v vs 21)) (w_fi ws (n_v vs 0) 12) k2 k8 k16 k21 d0 f1 f3 kz_0_12
  refine ⟨(fun _ h => (by cases h)), [], trivial, ?_, (fun _ h => (by cases h))⟩
  rw [List.append_nil]
  exact List.forall_mem_cons.mpr ⟨⟨show (20 : Nat) < 100 from by decide, nf0⟩, (fun _ h => (by cases h))⟩
set_option maxHeartbeats 4000000 in
theorem vc_Ho_writeNumber_8_0 (x2 : Int) (x8 : Int) (x19 : Int) (spareLength_0 : Int) (k2 : 0 ≤ x2 ∧ x2 ≤ 99999992) (k8 : 0 ≤ x8 ∧ x8 ≤ 5) (k19 : 1 ≤ x19 ∧ x19 ≤ 6) (d0 : x8 + 1 ≤ x19 ∧ x19 ≤ x8 + 1) (f3 : 1 * spareLength_0 + ((-1) * x2 + ((-1) * x8 + 0)) ≤ 1) (kz_0_12 : 0 ≤ spareLength_0 ∧ spareLength_0 ≤ 100000000) : 1 * spareLength_0 + ((-1) * x2 + ((-1) * x19 + 0)) ≤ 1 := by
  first | assumption | omega | grind
def o_Ho_writeNumber_8 : or_T := (25, 20, [(0, (2, 0, 0, [12])), (2, (0, 0, 99999992, [])), (8, (0, 0, 5, [])), (19, (0, 1, 6, []))], [(20, [3, 2, 8], [30, 1, 1, 1, 12, -1, 0, 0, -1, 0, 0]), (24, [0, 3], [])], [], [], [(20, [3, 2, 19], [30, 1, 1, 1, 12, -1, 0, 0, -1, 0, 0])], [], [(19, 8, 1, 1)])
theorem oo_Ho_writeNumber_8 {kA : Nat → ClassId} : or_ok PRD kA GG o_Ho_writeNumber_8 := by
  refine or_mk fun A ta ws vs hD hth hl => ?_
  intro t0 r0 t2 k2 t8 k8 t19 k19 d0 f3 f4
  replace f3 := shm_172 f3
  replace f4 := shm_5 f4
  have q3 : n_v vs 3 = n_v vs 0 := f4.symm
  simp only [q3] at f3
  have kz_0_12 := fdq_0 hD hth r0
  have nf0 : fc_1 PRD (20, [3, 2, 19], [30, 1, 1, 1, 12, -1, 0, 0, -1, 0, 0]) ws (vs) := by
    refine ⟨nf_in hl rfl, sgq_172 ?_⟩
    · show 1 * w_fi ws (n_v vs 3) 12 + ((-1) * v_iv (n_v vs 2) + ((-1) * v_iv (n_v vs 19) + 0)) ≤ 1
      rw [q3]
      exact vc_Ho_writeNumber_8_0 (v_iv (n_v vs 2)) (v_iv (n_v vs 8)) (v_iv (n_v vs 19)) (w_fi ws (n_v vs 0) 12) k2 k8 k19 d0 f3 kz_0_12
  refine ⟨(fun _ h => (by cases h)), [], trivial, ?_, (fun _ h => (by cases h))⟩
  rw [List.append_nil]
  exact List.forall_mem_cons.mpr ⟨⟨show (20 : Nat) < 100 from by decide, nf0⟩, (fun _ h => (by cases h))⟩
set_option maxHeartbeats 4000000 in
theorem vc_Ho_writeNumber_9_0 (spareLength_0 : Int) (gx : Int) (kz_0_12 : 0 ≤ spareLength_0 ∧ spareLength_0 ≤ 100000000) (ex2 : gx = spareLength_0) : 1 * spareLength_0 + ((-1) * gx + 0) ≤ 0 := by
  first | assumption | omega | grind
set_option maxHeartbeats 4000000 in
theorem vc_Ho_writeNumber_9_1 (x2 : Int) (x8 : Int) (spareLength_0 : Int) (gx : Int) (k2 : 0 ≤ x2 ∧ x2 ≤ 99999992) (k8 : 6 ≤ x8 ∧ x8 ≤ 6) (f2 : 1 * spareLength_0 + ((-1) * x2 + ((-1) * x8 + 0)) ≤ 1) (kz_0_12 : 0 ≤ spareLength_0 ∧ spareLength_0 ≤ 100000000) (ex2 : gx = spareLength_0) : 1 * gx + ((-1) * x2 + ((-1) * x8 + 0)) ≤ 1 := by
  first | assumption | omega | grind
def o_Ho_writeNumber_9 : or_T := (73, 17, [(0, (2, 0, 0, [12])), (2, (0, 0, 99999992, [])), (3, (2, 0, 0, [12])), (8, (0, 6, 6, [])), (9, (0, 7, 7, [])), (13, (0, 6, 6, []))], [(7, [8, 13], [0]), (7, [8, 9], [2]), (20, [3, 2, 8], [30, 1, 1, 1, 12, -1, 0, 0, -1, 0, 0]), (24, [0, 3], [])], [], [(0, 0, 99999999, [])], [(20, [3, 17], [30, 0, 1, 1, 12, -1, 0, 0]), (23, [17, 2, 8], [1, 1, -1, -1])], [], [])
theorem oo_Ho_writeNumber_9 {kA : Nat → ClassId} : or_ok PRD kA GG o_Ho_writeNumber_9 := by
  refine or_mk fun A ta ws vs hD hth hl => ?_
  intro t0 r0 t2 k2 t3 r3 t8 k8 t9 k9 t13 k13 f0 f1 f2 f3
  replace f0 := shm_37 f0
  replace f1 := shm_6 f1
  replace f2 := shm_172 f2
  replace f3 := shm_5 f3
  have q3 : n_v vs 3 = n_v vs 0 := f3.symm
  simp only [q3] at f2
  have kz_0_12 := fdq_0 hD hth r0
  have kv0 := fdq_0 hD hth r0
  obtain ⟨x, ex, hx⟩ := iv_ex (ta := ta) (lo := 0) (hi := 99999999) (z := w_fi ws (n_v vs 0) 12) (by omega) (by omega) (by omega) (by omega)
  have ex2 : v_iv (Value.int x) = w_fi ws (n_v vs 0) 12 := ex
  have ex3 : 0 ≤ v_iv (Value.int x) ∧ v_iv (Value.int x) ≤ 99999999 := tv_rng hx
  have e_2 : n_v (vs ++ [Value.int x]) 2 = n_v vs 2 := n_v_old (by rw [hl]; decide)
  have e_3 : n_v (vs ++ [Value.int x]) 3 = n_v vs 3 := n_v_old (by rw [hl]; decide)
  have e_8 : n_v (vs ++ [Value.int x]) 8 = n_v vs 8 := n_v_old (by rw [hl]; decide)
  have e_17 : n_v (vs ++ [Value.int x]) 17 = Value.int x := n_v_new hl
  have nf0 : fc_1 PRD (20, [3, 17], [30, 0, 1, 1, 12, -1, 0, 0]) ws (vs ++ [Value.int x]) := by
    refine ⟨nf_inA hl rfl, sgq_104 ?_⟩
    · show 1 * w_fi ws (n_v (vs ++ [Value.int x]) 3) 12 + ((-1) * v_iv (n_v (vs ++ [Value.int x]) 17) + 0) ≤ 0
      simp only [e_3, e_17, q3]
      exact vc_Ho_writeNumber_9_0 (w_fi ws (n_v vs 0) 12) (v_iv (Value.int x)) kz_0_12 ex2
  have nf1 : fc_1 PRD (23, [17, 2, 8], [1, 1, -1, -1]) ws (vs ++ [Value.int x]) := by
    refine ⟨nf_inA hl rfl, sgq_173 ?_⟩
    · show 1 * v_iv (n_v (vs ++ [Value.int x]) 17) + ((-1) * v_iv (n_v (vs ++ [Value.int x]) 2) + ((-1) * v_iv (n_v (vs ++ [Value.int x]) 8) + 0)) ≤ 1
      simp only [e_2, e_8, e_17]
      exact vc_Ho_writeNumber_9_1 (v_iv (n_v vs 2)) (v_iv (n_v vs 8)) (w_fi ws (n_v vs 0) 12) (v_iv (Value.int x)) k2 k8 f2 kz_0_12 ex2
  exact ⟨(fun _ h => (by cases h)), [Value.int x], ag_one hx, List.forall_mem_cons.mpr ⟨⟨show (20 : Nat) < 100 from by decide, nf0⟩, List.forall_mem_cons.mpr ⟨⟨show (23 : Nat) < 100 from by decide, nf1⟩, (fun _ h => (by cases h))⟩⟩, (fun _ h => (by cases h))⟩
set_option maxHeartbeats 4000000 in
theorem vc_Ho_writeNumber_10_0 (x2 : Int) (x8 : Int) (x17 : Int) (x22 : Int) (spareLength_0 : Int) (k2 : 0 ≤ x2 ∧ x2 ≤ 99999992) (k8 : 6 ≤ x8 ∧ x8 ≤ 6) (k17 : 0 ≤ x17 ∧ x17 ≤ 99999999) (k22 : 7 ≤ x22 ∧ x22 ≤ 7) (f1 : 1 * x17 + ((-1) * x2 + ((-1) * x8 + 0)) ≤ 1) (f3 : 1 * spareLength_0 + ((-1) * x17 + 0) ≤ 1) (kz_0_12 : 0 ≤ spareLength_0 ∧ spareLength_0 ≤ 100000000) : 1 * spareLength_0 + ((-1) * x2 + ((-1) * x22 + 0)) ≤ 1 := by
  first | assumption | omega | grind
def o_Ho_writeNumber_10 : or_T := (25, 23, [(0, (2, 0, 0, [12])), (2, (0, 0, 99999992, [])), (8, (0, 6, 6, [])), (17, (0, 0, 99999999, [])), (22, (0, 7, 7, []))], [(23, [17, 2, 8], [1, 1, -1, -1]), (24, [0, 3], []), (20, [3, 17], [30, 1, 1, 1, 12, -1, 0, 0])], [], [], [(20, [3, 2, 22], [30, 1, 1, 1, 12, -1, 0, 0, -1, 0, 0])], [], [])
theorem oo_Ho_writeNumber_10 {kA : Nat → ClassId} : or_ok PRD kA GG o_Ho_writeNumber_10 := by
  refine or_mk fun A ta ws vs hD hth hl => ?_
  intro t0 r0 t2 k2 t8 k8 t17 k17 t22 k22 f1 f2 f3
  replace f1 := shm_173 f1
  replace f2 := shm_5 f2
  replace f3 := shm_105 f3
  have q3 : n_v vs 3 = n_v vs 0 := f2.symm
  simp only [q3] at f3
  have kz_0_12 := fdq_0 hD hth r0
  have nf0 : fc_1 PRD (20, [3, 2, 22], [30, 1, 1, 1, 12, -1, 0, 0, -1, 0, 0]) ws (vs) := by
    refine ⟨nf_in hl rfl, sgq_172 ?_⟩
    · show 1 * w_fi ws (n_v vs 3) 12 + ((-1) * v_iv (n_v vs 2) + ((-1) * v_iv (n_v vs 22) + 0)) ≤ 1
      rw [q3]
      exact vc_Ho_writeNumber_10_0 (v_iv (n_v vs 2)) (v_iv (n_v vs 8)) (v_iv (n_v vs 17)) (v_iv (n_v vs 22)) (w_fi ws (n_v vs 0) 12) k2 k8 k17 k22 f1 f3 kz_0_12
  refine ⟨(fun _ h => (by cases h)), [], trivial, ?_, (fun _ h => (by cases h))⟩
  rw [List.append_nil]
  exact List.forall_mem_cons.mpr ⟨⟨show (20 : Nat) < 100 from by decide, nf0⟩, (fun _ h => (by cases h))⟩
def n_Ho_writeNumber_an : List an_T := [(25, [(0, (2, 0, 0, [12])), (1, (0, (Int.negSucc 40999999), 1001000000, [])), (2, (0, 0, 1001000000, [])), (3, (0, 0, 1, [])), (4, (0, 1, 1000000, [])), (5, (0, 0, 7, []))], [], (0, 0), [(0, 0, 99975), (1, 8, 7), (0, 0, 100000)], [(1, 4, (Int.negSucc 999999999999), 0), (4, 1, (Int.negSucc 999999999999), 0), (6, 8, (Int.negSucc 999999999999), 0)], [], [(2, 0, 0, [12]), (0, (Int.negSucc 40999999), 1001000000, []), (0, 0, 99999992, [])], 0, [], [(20, [3, 2, 8], [30, 1, 1, 1, 12, (Int.negSucc 0), 0, 0, (Int.negSucc 0), 0, 0]), (24, [0, 3], [])])]
def t_Ho_writeNumber_ct : ct_L := [(1, 447, e_Ho_writeByte), (36, 450, e_jMath_abs1_v88), (36, 450, e_jMath_abs1_v87), (249, 456, e_jMath_max1_v89)]
set_option maxRecDepth 100000 in
theorem c_Ho_writeNumber {l : Launch} {D : va_G} {kA : Nat → ClassId} (h_Ho_writeByte : ct_ok PRD l D kA GG y_Ho_writeByte z_Ho_writeByte e_Ho_writeByte) : ct_ok PRD l D kA GG y_Ho_writeNumber z_Ho_writeNumber e_Ho_writeNumber := chk_all_ok (FT := []) (PT := []) (CT := t_Ho_writeNumber_ct) (KT := [(1, 455, .int (1000000), (0, 1000000, 1000000, []))]) (NT := []) (AN := n_Ho_writeNumber_an) (OT := [o_Ho_writeNumber_0, o_Ho_writeNumber_1, o_Ho_writeNumber_2, o_Ho_writeNumber_3, o_Ho_writeNumber_4, o_Ho_writeNumber_5, o_Ho_writeNumber_6, o_Ho_writeNumber_7, o_Ho_writeNumber_8, o_Ho_writeNumber_9, o_Ho_writeNumber_10]) 3 424 (List.forall_mem_cons.mpr ⟨oo_Ho_writeNumber_0, List.forall_mem_cons.mpr ⟨oo_Ho_writeNumber_1, List.forall_mem_cons.mpr ⟨oo_Ho_writeNumber_2, List.forall_mem_cons.mpr ⟨oo_Ho_writeNumber_3, List.forall_mem_cons.mpr ⟨oo_Ho_writeNumber_4, List.forall_mem_cons.mpr ⟨oo_Ho_writeNumber_5, List.forall_mem_cons.mpr ⟨oo_Ho_writeNumber_6, List.forall_mem_cons.mpr ⟨oo_Ho_writeNumber_7, List.forall_mem_cons.mpr ⟨oo_Ho_writeNumber_8, List.forall_mem_cons.mpr ⟨oo_Ho_writeNumber_9, List.forall_mem_cons.mpr ⟨oo_Ho_writeNumber_10, List.forall_mem_nil _⟩⟩⟩⟩⟩⟩⟩⟩⟩⟩⟩) (by decide +kernel) ⟨List.forall_mem_nil _, List.forall_mem_nil _, List.forall_mem_cons.mpr ⟨cl_virtual (y := y_Ho_writeByte) (ci := 12) rfl rfl ⟨_, _, rfl⟩ (by decide +kernel) h_Ho_writeByte wm_2345 wm_1 wm_2342 wm_2344 wv_12_0 ⟨by decide, by decide, by decide +kernel⟩ (by decide), List.forall_mem_cons.mpr ⟨cl_static (y := y_jMath_abs1) c_jMath_abs1_v88 wm_1811 wm_10 wm_2355 wm_1810 ⟨by decide, by decide, by decide +kernel⟩ (by decide), List.forall_mem_cons.mpr ⟨cl_static (y := y_jMath_abs1) c_jMath_abs1_v87 wm_1811 wm_10 wm_2355 wm_1810 ⟨by decide, by decide, by decide +kernel⟩ (by decide), List.forall_mem_cons.mpr ⟨cl_static (y := y_jMath_max1) c_jMath_max1_v89 wm_836 wm_10 wm_2357 wm_835 ⟨by decide, by decide, by decide +kernel⟩ (by decide), List.forall_mem_nil _⟩⟩⟩⟩, List.forall_mem_cons.mpr ⟨kx_Ho_1_455, List.forall_mem_nil _⟩, List.forall_mem_nil _, GG_pl⟩ (by decide +kernel)
def n_Dr_isFree_an : List an_T := [(3, [(0, (2, 0, 0, [0])), (1, (0, 0, 47, [])), (2, (0, (Int.negSucc 82000000), 2002000000, [])), (3, (0, (Int.negSucc 82000000), 2002000000, [])), (4, (0, 0, 24, []))], [], (0, 0), [(0, 0, 99997), (1, 4, 24), (0, 0, 100000)], [], [], [], 0, [], []), (37, [(0, (2, 0, 0, [0])), (1, (0, 0, 47, [])), (2, (0, (Int.negSucc 82000000), 2002000000, [])), (3, (0, (Int.negSucc 82000000), 2002000000, [])), (4, (0, 0, 47, []))], [], (0, 0), [(0, 0, 99963), (1, 4, 47), (0, 0, 100000)], [], [], [], 0, [], [])]
def t_Dr_isFree_ct : ct_L := [(1, 144, e_Dr_isInBox)]
set_option maxRecDepth 100000 in
theorem c_Dr_isFree {l : Launch} {D : va_G} {kA : Nat → ClassId} (h_Dr_isInBox : ct_ok PRD l D kA GG y_Dr_isInBox z_Dr_isInBox e_Dr_isInBox) : ct_ok PRD l D kA GG y_Dr_isFree z_Dr_isFree e_Dr_isFree := chk_all_ok (FT := [(56, 0, 15), (59, 0, 16), (74, 0, 0), (141, 3, 0)]) (PT := []) (CT := t_Dr_isFree_ct) (KT := []) (NT := []) (AN := n_Dr_isFree_an) (OT := []) 3 200 (List.forall_mem_nil _) (by decide +kernel) ⟨List.forall_mem_cons.mpr ⟨gf_Dr_56, List.forall_mem_cons.mpr ⟨gf_Dr_59, List.forall_mem_cons.mpr ⟨gf_Dr_74, List.forall_mem_cons.mpr ⟨gf_Dr_141, List.forall_mem_nil _⟩⟩⟩⟩, List.forall_mem_nil _, List.forall_mem_cons.mpr ⟨cl_virtual (y := y_Dr_isInBox) (ci := 0) rfl rfl ⟨_, _, rfl⟩ (by decide +kernel) h_Dr_isInBox wm_1999 wm_8 wm_1996 wm_1997 wm_1998 ⟨by decide, by decide, by decide +kernel⟩ (by decide), List.forall_mem_nil _⟩, List.forall_mem_nil _, List.forall_mem_nil _, GG_pl⟩ (by decide +kernel)
def n_Dr_wholeLength_an : List an_T := [(4, [(0, (2, 0, 0, [0])), (1, (1, (Int.negSucc 9223372036854775807), 9223372036854775807, [])), (3, (0, 0, 48, []))], [], (0, 0), [(0, 0, 99996), (1, 2, 48), (0, 0, 100000), (0, 0, 0), (0, 0, 0)], [], [], [], 0, [], []), (18, [(0, (2, 0, 0, [0])), (1, (1, (Int.negSucc 9223372036854775807), 9223372036854775807, [])), (3, (0, 0, 47, [])), (4, (0, 0, 25, []))], [], (0, 0), [(0, 0, 99996), (1, 2, 48), (0, 0, 99982), (1, 3, 25), (0, 0, 100000)], [], [], [], 0, [], [])]
def t_Dr_wholeLength_ct : ct_L := [(112, 128, e_Dr_pointX_np), (133, 128, e_Dr_pointX_np), (144, 112, e_jMath_abs1_v90), (184, 134, e_Dr_pointY_np), (205, 134, e_Dr_pointY_np), (216, 112, e_jMath_abs1_v90)]
set_option maxRecDepth 100000 in
theorem c_Dr_wholeLength {l : Launch} {D : va_G} {kA : Nat → ClassId} (h_Dr_pointX : ct_ok PRD l D kA GG y_Dr_pointX z_Dr_pointX e_Dr_pointX) (h_Dr_pointY : ct_ok PRD l D kA GG y_Dr_pointY z_Dr_pointY e_Dr_pointY) : ct_ok PRD l D kA GG y_Dr_wholeLength z_Dr_wholeLength e_Dr_wholeLength := chk_all_ok (FT := [(22, 0, 4), (74, 0, 0), (151, 3, 1)]) (PT := []) (CT := t_Dr_wholeLength_ct) (KT := []) (NT := []) (AN := n_Dr_wholeLength_an) (OT := []) 5 220 (List.forall_mem_nil _) (by decide +kernel) ⟨List.forall_mem_cons.mpr ⟨gf_Dr_22, List.forall_mem_cons.mpr ⟨gf_Dr_74, List.forall_mem_cons.mpr ⟨gf_Dr_151, List.forall_mem_nil _⟩⟩⟩, List.forall_mem_nil _, List.forall_mem_cons.mpr ⟨cl_nopa (cl_virtual (y := y_Dr_pointX) (ci := 0) rfl rfl ⟨_, _, rfl⟩ (by decide +kernel) h_Dr_pointX wm_1986 wm_8 wm_1983 wm_1984 wm_1985 ⟨by decide, by decide, by decide +kernel⟩ (by decide)), List.forall_mem_cons.mpr ⟨cl_nopa (cl_virtual (y := y_Dr_pointX) (ci := 0) rfl rfl ⟨_, _, rfl⟩ (by decide +kernel) h_Dr_pointX wm_1986 wm_8 wm_1983 wm_1984 wm_1985 ⟨by decide, by decide, by decide +kernel⟩ (by decide)), List.forall_mem_cons.mpr ⟨cl_static (y := y_jMath_abs1) c_jMath_abs1_v90 wm_1811 wm_10 wm_2000 wm_1810 ⟨by decide, by decide, by decide +kernel⟩ (by decide), List.forall_mem_cons.mpr ⟨cl_nopa (cl_virtual (y := y_Dr_pointY) (ci := 0) rfl rfl ⟨_, _, rfl⟩ (by decide +kernel) h_Dr_pointY wm_1991 wm_8 wm_1988 wm_1989 wm_1990 ⟨by decide, by decide, by decide +kernel⟩ (by decide)), List.forall_mem_cons.mpr ⟨cl_nopa (cl_virtual (y := y_Dr_pointY) (ci := 0) rfl rfl ⟨_, _, rfl⟩ (by decide +kernel) h_Dr_pointY wm_1991 wm_8 wm_1988 wm_1989 wm_1990 ⟨by decide, by decide, by decide +kernel⟩ (by decide)), List.forall_mem_cons.mpr ⟨cl_static (y := y_jMath_abs1) c_jMath_abs1_v90 wm_1811 wm_10 wm_2000 wm_1810 ⟨by decide, by decide, by decide +kernel⟩ (by decide), List.forall_mem_nil _⟩⟩⟩⟩⟩⟩, List.forall_mem_nil _, List.forall_mem_nil _, GG_pl⟩ (by decide +kernel)
def o_Gr_hasNextName_0 : or_T := (14, 5, [(3, (0, 2, 3, [])), (4, (0, 0, 0, []))], [], [], [], [(21, [4, 3], [3])], [], [])
theorem oo_Gr_hasNextName_0 {kA : Nat → ClassId} : or_ok PRD kA GG o_Gr_hasNextName_0 := by
  refine or_mk fun A ta ws vs hD hth hl => ?_
  intro t3 k3 t4 k4
  have nf0 : fc_1 PRD (21, [4, 3], [3]) ws (vs) := by
    refine ⟨nf_in hl rfl, sgq_174 ?_⟩
    · show v_iv (n_v vs 4) + v_iv (n_v vs 3) ≤ 3
      omega
  refine ⟨(fun _ h => (by cases h)), [], trivial, ?_, (fun _ h => (by cases h))⟩
  rw [List.append_nil]
  exact List.forall_mem_cons.mpr ⟨⟨show (21 : Nat) < 100 from by decide, nf0⟩, (fun _ h => (by cases h))⟩
def n_Gr_hasNextName_an : List an_T := []
def t_Gr_hasNextName_ct : ct_L := [(1, 118, e_Gr_nextName), (46, 122, e_Gr_findNode_at_Gr_newGrhasNextName1)]
set_option maxRecDepth 100000 in
theorem c_Gr_hasNextName {l : Launch} {D : va_G} {kA : Nat → ClassId} (h_Gr_findNode_at_Gr_newGrhasNextName1 : ct_ok PRD l D kA GG y_Gr_findNode_at_Gr_newGrhasNextName1 z_Gr_findNode_at_Gr_newGrhasNextName1 e_Gr_findNode_at_Gr_newGrhasNextName1) (h_Gr_nextName : ct_ok PRD l D kA GG y_Gr_nextName z_Gr_nextName e_Gr_nextName) : ct_ok PRD l D kA GG y_Gr_hasNextName z_Gr_hasNextName e_Gr_hasNextName := chk_all_ok (FT := []) (PT := []) (CT := t_Gr_hasNextName_ct) (KT := []) (NT := [(1, 296, .byte)]) (AN := n_Gr_hasNextName_an) (OT := [o_Gr_hasNextName_0]) 0 200 (List.forall_mem_cons.mpr ⟨oo_Gr_hasNextName_0, List.forall_mem_nil _⟩) (by decide +kernel) ⟨List.forall_mem_nil _, List.forall_mem_nil _, List.forall_mem_cons.mpr ⟨cl_virtual (y := y_Gr_nextName) (ci := 3) rfl rfl ⟨_, _, rfl⟩ (by decide +kernel) h_Gr_nextName wm_967 wm_3 wm_964 wm_966 wv_2_13 ⟨by decide, by decide, by decide +kernel⟩ (by decide), List.forall_mem_cons.mpr ⟨cl_virtual (y := y_Gr_findNode_at_Gr_newGrhasNextName1) (ci := 3) rfl rfl ⟨_, _, rfl⟩ (by decide +kernel) h_Gr_findNode_at_Gr_newGrhasNextName1 wm_739 wm_3 wm_968 wm_737 wm_738 ⟨by decide, by decide, by decide +kernel⟩ (by decide), List.forall_mem_nil _⟩⟩, List.forall_mem_nil _, List.forall_mem_cons.mpr ⟨wm_192, List.forall_mem_nil _⟩, GG_pl⟩ (by decide +kernel)
def o_La_leastOf_0 : or_T := (1000000, 0, [], [], [], [], [], [], [])
theorem oo_La_leastOf_0 {kA : Nat → ClassId} : or_ok PRD kA GG o_La_leastOf_0 := fun _ _ _ _ _ _ _ _ _ _ => ⟨fun q h => (by cases h), [], trivial, fun f h => (by cases h), fun q h => (by cases h)⟩
def n_La_leastOf_an : List an_T := [(15, [(0, (2, 0, 0, [4])), (1, (0, 0, 0, [])), (2, (0, (Int.negSucc 2147483647), 1000000, [])), (3, (0, 1, 720, [])), (4, (0, 0, 720, []))], [], (0, 0), [(0, 0, 99985), (1, 4, 720), (0, 0, 100000)], [(4, 3, (Int.negSucc 999999999999), 0)], [], [], 0, [], [])]
def t_La_leastOf_ct : ct_L := [(1, 181, e_La_sizeOf), (27, 85, e_La_countOrders_at_gx), (108, 208, e_jMath_min1_v95), (108, 208, e_jMath_min1_v96)]
set_option maxRecDepth 100000 in
theorem c_La_leastOf {l : Launch} {D : va_G} {kA : Nat → ClassId} (h_La_countOrders_at_gx : ct_ok PRD l D kA GG y_La_countOrders_at_gx z_La_countOrders_at_gx e_La_countOrders_at_gx) (h_La_sizeOf : ct_ok PRD l D kA GG y_La_sizeOf z_La_sizeOf e_La_sizeOf) : ct_ok PRD l D kA GG y_La_leastOf z_La_leastOf e_La_leastOf := chk_all_ok (FT := [(72, 4, 18)]) (PT := []) (CT := t_La_leastOf_ct) (KT := [(0, 197, .int (1000000), (0, 1000000, 1000000, []))]) (NT := []) (AN := n_La_leastOf_an) (OT := [o_La_leastOf_0]) 3 200 (List.forall_mem_cons.mpr ⟨oo_La_leastOf_0, List.forall_mem_nil _⟩) (by decide +kernel) ⟨List.forall_mem_cons.mpr ⟨gf_La_72, List.forall_mem_nil _⟩, List.forall_mem_nil _, List.forall_mem_cons.mpr ⟨cl_virtual (y := y_La_sizeOf) (ci := 4) rfl rfl ⟨_, _, rfl⟩ (by decide +kernel) h_La_sizeOf wm_1382 wm_18 wm_1379 wm_1381 wv_5_4 ⟨by decide, by decide, by decide +kernel⟩ (by decide), List.forall_mem_cons.mpr ⟨cl_static (y := y_La_countOrders_at_gx) h_La_countOrders_at_gx wm_1233 wm_18 wm_1231 wm_1232 ⟨by decide, by decide, by decide +kernel⟩ (by decide), List.forall_mem_cons.mpr ⟨cl_static (y := y_jMath_min1) c_jMath_min1_v95 wm_658 wm_10 wm_1389 wm_657 ⟨by decide, by decide, by decide +kernel⟩ (by decide), List.forall_mem_cons.mpr ⟨cl_static (y := y_jMath_min1) c_jMath_min1_v96 wm_658 wm_10 wm_1389 wm_657 ⟨by decide, by decide, by decide +kernel⟩ (by decide), List.forall_mem_nil _⟩⟩⟩⟩, List.forall_mem_cons.mpr ⟨kx_La_0_197, List.forall_mem_nil _⟩, List.forall_mem_nil _, GG_pl⟩ (by decide +kernel)
set_option maxHeartbeats 4000000 in
theorem vc_Ne_insertLast_0_r0 (x2 : Int) (x4 : Int) (x6 : Int) (first_0 : Int → Int) (k2 : 0 ≤ x2 ∧ x2 ≤ 23) (k4 : 0 ≤ x4 ∧ x4 ≤ 71) (k6 : (-1) ≤ x6 ∧ x6 ≤ 71) (h0 : x6 = first_0 (x2)) (h3 : x4 = first_0 (x2)) : 0 ≤ x6 ∧ x6 ≤ 71 := by
  first
    | omega
  
def o_Ne_insertLast_0 : or_T := (41, 7, [(0, (2, 0, 0, [294])), (2, (0, 0, 23, [])), (3, (2, 0, 0, [290])), (4, (0, 0, 71, [])), (5, (0, -1, -1, [])), (6, (0, -1, 71, []))], [(10, [6, 3, 2], []), (9, [3, 0], [12]), (7, [4, 5], [1]), (10, [4, 3, 2], [])], [(6, (0, 0, 71, []))], [], [], [], [])
theorem oo_Ne_insertLast_0 {kA : Nat → ClassId} : or_ok PRD kA GG o_Ne_insertLast_0 := by
  refine or_mk fun A ta ws vs hD hth hl => ?_
  intro t0 r0 t2 k2 t3 r3 t4 k4 t5 k5 t6 k6 f0 f1 f2 f3
  replace f0 := shm_107 f0
  replace f1 := shm_103 f1
  replace f3 := shm_107 f3
  have ad_3 : v_ad (n_v vs 3) = w_ar ws (n_v vs 0) 12 := congrArg v_ad f1
  simp only [ad_3] at f0
  have h0 : v_iv (n_v vs 6) = w_ei ws (w_ar ws (n_v vs 0) 12) (v_iv (n_v vs 2)) := f0
  simp only [ad_3] at f3
  have h3 : v_iv (n_v vs 4) = w_ei ws (w_ar ws (n_v vs 0) 12) (v_iv (n_v vs 2)) := f3
  have hrf0 : 0 ≤ v_iv (n_v vs 6) ∧ v_iv (n_v vs 6) ≤ 71 := vc_Ne_insertLast_0_r0 (v_iv (n_v vs 2)) (v_iv (n_v vs 4)) (v_iv (n_v vs 6)) (w_ei ws (w_ar ws (n_v vs 0) 12)) k2 k4 k6 h0 h3
  have rf6 : tv_ok ta (0, 0, 71, []) (n_v vs 6) := tv_in t6 (by omega) (by omega)
  refine ⟨List.forall_mem_cons.mpr ⟨rf6, (fun _ h => (by cases h))⟩, [], trivial, ?_, (fun _ h => (by cases h))⟩
  rw [List.append_nil]
  exact (fun _ h => (by cases h))
def n_Ne_insertLast_an : List an_T := []
def t_Ne_insertLast_ct : ct_L := [(1, 84, e_Ne_endAt), (1, 91, e_Ne_insertAhead)]
set_option maxRecDepth 100000 in
theorem c_Ne_insertLast {l : Launch} {D : va_G} {kA : Nat → ClassId} (h_Ne_endAt : ct_ok PRD l D kA GG y_Ne_endAt z_Ne_endAt e_Ne_endAt) (h_Ne_insertAhead : ct_ok PRD l D kA GG y_Ne_insertAhead z_Ne_insertAhead e_Ne_insertAhead) : ct_ok PRD l D kA GG y_Ne_insertLast z_Ne_insertLast e_Ne_insertLast := chk_all_ok (FT := [(46, 5, 11), (49, 5, 12)]) (PT := []) (CT := t_Ne_insertLast_ct) (KT := []) (NT := []) (AN := n_Ne_insertLast_an) (OT := [o_Ne_insertLast_0]) 0 200 (List.forall_mem_cons.mpr ⟨oo_Ne_insertLast_0, List.forall_mem_nil _⟩) (by decide +kernel) ⟨List.forall_mem_cons.mpr ⟨gf_Ne_46, List.forall_mem_cons.mpr ⟨gf_Ne_49, List.forall_mem_nil _⟩⟩, List.forall_mem_nil _, List.forall_mem_cons.mpr ⟨cl_virtual (y := y_Ne_endAt) (ci := 5) rfl rfl ⟨_, _, rfl⟩ (by decide +kernel) h_Ne_endAt wm_1138 wm_6 wm_1151 wm_1136 wm_1137 ⟨by decide, by decide, by decide +kernel⟩ (by decide), List.forall_mem_cons.mpr ⟨cl_virtual (y := y_Ne_insertAhead) (ci := 5) rfl rfl ⟨_, _, rfl⟩ (by decide +kernel) h_Ne_insertAhead wm_1526 wm_6 wm_1523 wm_1524 wm_1525 ⟨by decide, by decide, by decide +kernel⟩ (by decide), List.forall_mem_nil _⟩⟩, List.forall_mem_nil _, List.forall_mem_nil _, GG_pl⟩ (by decide +kernel)
def n_Pl_moveOnRing_an : List an_T := [(4, [(0, (2, 0, 0, [6])), (1, (0, 1, 23, [])), (2, (0, 0, 23, [])), (3, (0, 0, 24, []))], [], (0, 0), [(0, 0, 99996), (1, 3, 24), (0, 0, 100000)], [], [((0, 0), (2, 0, 0, [3]))], [], 0, [], []), (39, [(0, (2, 0, 0, [6])), (1, (0, 1, 23, [])), (2, (0, 0, 23, [])), (3, (0, 0, 23, []))], [], (0, 0), [(0, 0, 99961), (2, 3, 0), (0, 0, 100000)], [], [((0, 0), (2, 0, 0, [3]))], [], 0, [], []), (82, [(0, (2, 0, 0, [6])), (1, (0, 1, 23, [])), (2, (0, 0, 23, [])), (3, (0, (Int.negSucc 2147483647), 2147483647, [])), (4, (0, 1, 23, [])), (5, (0, 2, 24, []))], [], (0, 0), [(0, 0, 99918), (1, 5, 24), (0, 0, 100000)], [], [((0, 0), (2, 0, 0, [3]))], [], 0, [], []), (154, [(0, (2, 0, 0, [6])), (1, (0, 1, 23, [])), (2, (0, 0, 23, [])), (3, (0, (Int.negSucc 2147483647), 2147483647, [])), (4, (0, 1, 23, [])), (5, (0, (Int.negSucc 0), 23, []))], [], (0, 0), [(0, 0, 99846), (2, 5, (Int.negSucc 0)), (0, 0, 100000)], [], [((0, 0), (2, 0, 0, [3]))], [], 0, [], [])]
def t_Pl_moveOnRing_ct : ct_L := [(1, 220, e_Pl_ringCrossings)]
set_option maxRecDepth 100000 in
theorem c_Pl_moveOnRing {l : Launch} {D : va_G} {kA : Nat → ClassId} (h_Pl_ringCrossings : ct_ok PRD l D kA GG y_Pl_ringCrossings z_Pl_ringCrossings e_Pl_ringCrossings) : ct_ok PRD l D kA GG y_Pl_moveOnRing z_Pl_moveOnRing e_Pl_moveOnRing := chk_all_ok (FT := [(9, 6, 0), (19, 6, 2), (74, 3, 0)]) (PT := []) (CT := t_Pl_moveOnRing_ct) (KT := []) (NT := []) (AN := n_Pl_moveOnRing_an) (OT := []) 3 456 (List.forall_mem_nil _) (by decide +kernel) ⟨List.forall_mem_cons.mpr ⟨gf_Pl_9, List.forall_mem_cons.mpr ⟨gf_Pl_19, List.forall_mem_cons.mpr ⟨gf_Pl_74, List.forall_mem_nil _⟩⟩⟩, List.forall_mem_nil _, List.forall_mem_cons.mpr ⟨cl_virtual (y := y_Pl_ringCrossings) (ci := 6) rfl rfl ⟨_, _, rfl⟩ (by decide +kernel) h_Pl_ringCrossings wm_1779 wm_21 wm_1776 wm_1778 wv_8_8 ⟨by decide, by decide, by decide +kernel⟩ (by decide), List.forall_mem_nil _⟩, List.forall_mem_nil _, List.forall_mem_nil _, GG_pl⟩ (by decide +kernel)
set_option maxHeartbeats 4000000 in
theorem vc_Pl_sumPulls_0_r0 (x1 : Int) (x2 : Int) (x5 : Int) (x6 : Int) (x7 : Int) (x11 : Int) (x12 : Int) (x13 : Int) (x14 : Int) (x15 : Int) (x16 : Int) (placeX_0 : Int → Int) (k1 : 1 ≤ x1 ∧ x1 ≤ 23) (k2 : 0 ≤ x2 ∧ x2 ≤ 22) (k5 : (-60000) ≤ x5 ∧ x5 ≤ 60000) (k6 : (-60000) ≤ x6 ∧ x6 ≤ 60000) (k7 : (-120000) ≤ x7 ∧ x7 ≤ 120000) (k11 : (-120000) ≤ x11 ∧ x11 ≤ 120000) (k12 : 0 ≤ x12 ∧ x12 ≤ 0) (k13 : (-14400000000) ≤ x13 ∧ x13 ≤ 14400000000) (k14 : (-14400000000) ≤ x14 ∧ x14 ≤ 14400000000) (k15 : (-28800000000) ≤ x15 ∧ x15 ≤ 28800000000) (f1 : x15 = x13 + x14) (f2 : x14 = x11 * x11) (f3 : x13 = x7 * x7) (f4 : x7 ≠ x12) (f9 : x7 = x5 - x6) (h10 : x6 = placeX_0 (x2)) (h12 : x5 = placeX_0 (x1)) : 1 ≤ x15 ∧ x15 ≤ 28800000000 := by
  first
    | (have q := sq_pos2 (x := x7) (y := x11) (a := x13) (b := x14) (s := x15) (by assumption) (by assumption) (by omega) (Or.inl (by omega)) (by omega) (by omega)
       omega)
    | (have q := sq_pos2 (x := 0) (y := x11) (a := x14) (b := x15) (s := x16) (by omega) (by assumption) (by omega) (Or.inr (by omega)) (by omega) (by omega)
       omega)
def o_Pl_sumPulls_0 : or_T := (98, 18, [(0, (2, 0, 0, [6])), (1, (0, 1, 23, [])), (2, (0, 0, 22, [])), (4, (2, 0, 0, [98])), (5, (1, -60000, 60000, [])), (6, (1, -60000, 60000, [])), (7, (1, -120000, 120000, [])), (8, (2, 0, 0, [99])), (9, (1, -60000, 60000, [])), (10, (1, -60000, 60000, [])), (11, (1, -120000, 120000, [])), (12, (1, 0, 0, [])), (13, (1, -14400000000, 14400000000, [])), (14, (1, -14400000000, 14400000000, [])), (15, (1, -28800000000, 28800000000, [])), (16, (1, 65536, 65536, [])), (17, (1, -7864320000, 7864320000, []))], [(3, [17, 7, 16], []), (1, [15, 13, 14], []), (3, [14, 11, 11], []), (3, [13, 7, 7], []), (7, [7, 12], [1]), (2, [11, 9, 10], []), (10, [10, 8, 2], []), (9, [8, 0], [16]), (10, [9, 8, 1], []), (2, [7, 5, 6], []), (10, [6, 4, 2], []), (9, [4, 0], [15]), (10, [5, 4, 1], []), (7, [2, 1], [2])], [(15, (1, 1, 28800000000, []))], [], [], [], [(2, 1, -4294967296, -1), (2, 1, -4294967296, 0)])
theorem oo_Pl_sumPulls_0 {kA : Nat → ClassId} : or_ok PRD kA GG o_Pl_sumPulls_0 := by
  refine or_mk fun A ta ws vs hD hth hl => ?_
  intro t0 r0 t1 k1 t2 k2 t4 r4 t5 k5 t6 k6 t7 k7 t8 r8 t9 k9 t10 k10 t11 k11 t12 k12 t13 k13 t14 k14 t15 k15 t16 k16 t17 k17 d0 d1 f0 f1 f2 f3 f4 f5 f6 f7 f8 f9 f10 f11 f12 f13
  replace f10 := shm_107 f10
  replace f11 := shm_177 f11
  replace f12 := shm_107 f12
  have ad_4 : v_ad (n_v vs 4) = w_ar ws (n_v vs 0) 15 := congrArg v_ad f11
  simp only [ad_4] at f10
  have h10 : v_iv (n_v vs 6) = w_ei ws (w_ar ws (n_v vs 0) 15) (v_iv (n_v vs 2)) := f10
  simp only [ad_4] at f12
  have h12 : v_iv (n_v vs 5) = w_ei ws (w_ar ws (n_v vs 0) 15) (v_iv (n_v vs 1)) := f12
  have hrf0 : 1 ≤ v_iv (n_v vs 15) ∧ v_iv (n_v vs 15) ≤ 28800000000 := vc_Pl_sumPulls_0_r0 (v_iv (n_v vs 1)) (v_iv (n_v vs 2)) (v_iv (n_v vs 5)) (v_iv (n_v vs 6)) (v_iv (n_v vs 7)) (v_iv (n_v vs 11)) (v_iv (n_v vs 12)) (v_iv (n_v vs 13)) (v_iv (n_v vs 14)) (v_iv (n_v vs 15)) (v_iv (n_v vs 16)) (w_ei ws (w_ar ws (n_v vs 0) 15)) k1 k2 k5 k6 k7 k11 k12 k13 k14 k15 (shm_12 f1) (shm_175 f2) (shm_175 f3) (shm_40 f4) (shm_14 f9) h10 h12
  have rf15 : tv_ok ta (1, 1, 28800000000, []) (n_v vs 15) := tv_inL t15 (by omega) (by omega)
  refine ⟨List.forall_mem_cons.mpr ⟨rf15, (fun _ h => (by cases h))⟩, [], trivial, ?_, (fun _ h => (by cases h))⟩
  rw [List.append_nil]
  exact (fun _ h => (by cases h))
set_option maxHeartbeats 4000000 in
theorem vc_Pl_sumPulls_1_r0 (x1 : Int) (x2 : Int) (x7 : Int) (x9 : Int) (x10 : Int) (x11 : Int) (x13 : Int) (x14 : Int) (x15 : Int) (x16 : Int) (placeY_0 : Int → Int) (k1 : 1 ≤ x1 ∧ x1 ≤ 23) (k2 : 0 ≤ x2 ∧ x2 ≤ 22) (k9 : (-60000) ≤ x9 ∧ x9 ≤ 60000) (k10 : (-60000) ≤ x10 ∧ x10 ≤ 60000) (k11 : (-120000) ≤ x11 ∧ x11 ≤ 120000) (k13 : 0 ≤ x13 ∧ x13 ≤ 0) (k14 : 0 ≤ x14 ∧ x14 ≤ 0) (k15 : (-14400000000) ≤ x15 ∧ x15 ≤ 14400000000) (k16 : (-14400000000) ≤ x16 ∧ x16 ≤ 14400000000) (f1 : x16 = x14 + x15) (f2 : x15 = x11 * x11) (f3 : x14 = 0 * 0) (f4 : x11 ≠ x13) (f6 : x11 = x9 - x10) (h7 : x10 = placeY_0 (x2)) (h9 : x9 = placeY_0 (x1)) : 1 ≤ x16 ∧ x16 ≤ 14400000000 := by
  first
    | (have q := sq_pos2 (x := x7) (y := x11) (a := x13) (b := x14) (s := x15) (by assumption) (by assumption) (by omega) (Or.inl (by omega)) (by omega) (by omega)
       omega)
    | (have q := sq_pos2 (x := 0) (y := x11) (a := x14) (b := x15) (s := x16) (by omega) (by assumption) (by omega) (Or.inr (by omega)) (by omega) (by omega)
       omega)
def o_Pl_sumPulls_1 : or_T := (98, 19, [(0, (2, 0, 0, [6])), (1, (0, 1, 23, [])), (2, (0, 0, 22, [])), (4, (2, 0, 0, [98])), (5, (1, -60000, 60000, [])), (6, (1, -60000, 60000, [])), (7, (1, 0, 0, [])), (8, (2, 0, 0, [99])), (9, (1, -60000, 60000, [])), (10, (1, -60000, 60000, [])), (11, (1, -120000, 120000, [])), (12, (1, 0, 0, [])), (13, (1, 0, 0, [])), (14, (1, 0, 0, [])), (15, (1, -14400000000, 14400000000, [])), (16, (1, -14400000000, 14400000000, [])), (17, (1, 65536, 65536, [])), (18, (1, 0, 0, []))], [(3, [18, 7, 17], []), (1, [16, 14, 15], []), (3, [15, 11, 11], []), (3, [14, 7, 7], []), (7, [11, 13], [1]), (7, [7, 12], [0]), (2, [11, 9, 10], []), (10, [10, 8, 2], []), (9, [8, 0], [16]), (10, [9, 8, 1], []), (2, [7, 5, 6], []), (10, [6, 4, 2], []), (9, [4, 0], [15]), (10, [5, 4, 1], []), (7, [2, 1], [2])], [(16, (1, 1, 14400000000, []))], [], [], [], [(2, 1, -4294967296, -1), (2, 1, -4294967296, 0)])
theorem oo_Pl_sumPulls_1 {kA : Nat → ClassId} : or_ok PRD kA GG o_Pl_sumPulls_1 := by
  refine or_mk fun A ta ws vs hD hth hl => ?_
  intro t0 r0 t1 k1 t2 k2 t4 r4 t5 k5 t6 k6 t7 k7 t8 r8 t9 k9 t10 k10 t11 k11 t12 k12 t13 k13 t14 k14 t15 k15 t16 k16 t17 k17 t18 k18 d0 d1 f0 f1 f2 f3 f4 f5 f6 f7 f8 f9 f10 f11 f12 f13 f14
  replace f3 := shm_175 f3
  rw [show v_iv (n_v vs 7) = 0 from by omega] at f3
  replace f7 := shm_107 f7
  replace f8 := shm_176 f8
  replace f9 := shm_107 f9
  have ad_8 : v_ad (n_v vs 8) = w_ar ws (n_v vs 0) 16 := congrArg v_ad f8
  simp only [ad_8] at f7
  have h7 : v_iv (n_v vs 10) = w_ei ws (w_ar ws (n_v vs 0) 16) (v_iv (n_v vs 2)) := f7
  simp only [ad_8] at f9
  have h9 : v_iv (n_v vs 9) = w_ei ws (w_ar ws (n_v vs 0) 16) (v_iv (n_v vs 1)) := f9
  have hrf0 : 1 ≤ v_iv (n_v vs 16) ∧ v_iv (n_v vs 16) ≤ 14400000000 := vc_Pl_sumPulls_1_r0 (v_iv (n_v vs 1)) (v_iv (n_v vs 2)) (v_iv (n_v vs 7)) (v_iv (n_v vs 9)) (v_iv (n_v vs 10)) (v_iv (n_v vs 11)) (v_iv (n_v vs 13)) (v_iv (n_v vs 14)) (v_iv (n_v vs 15)) (v_iv (n_v vs 16)) (w_ei ws (w_ar ws (n_v vs 0) 16)) k1 k2 k9 k10 k11 k13 k14 k15 k16 (shm_12 f1) (shm_175 f2) f3 (shm_40 f4) (shm_14 f6) h7 h9
  have rf16 : tv_ok ta (1, 1, 14400000000, []) (n_v vs 16) := tv_inL t16 (by omega) (by omega)
  refine ⟨List.forall_mem_cons.mpr ⟨rf16, (fun _ h => (by cases h))⟩, [], trivial, ?_, (fun _ h => (by cases h))⟩
  rw [List.append_nil]
  exact (fun _ h => (by cases h))
def n_Pl_sumPulls_an : List an_T := [(18, [(0, (2, 0, 0, [6])), (1, (0, 0, 24, []))], [], (0, 0), [(0, 0, 99982), (1, 1, 24), (0, 0, 100000), (0, 0, 0), (0, 0, 0)], [], [((0, 0), (2, 0, 0, [3]))], [], 0, [], []), (31, [(0, (2, 0, 0, [6])), (1, (0, 0, 23, [])), (2, (0, 0, 23, []))], [], (0, 0), [(0, 0, 99982), (1, 1, 24), (0, 0, 99969), (1, 2, 23), (0, 0, 100000)], [(2, 1, (Int.negSucc 999999999999), 0)], [((0, 0), (2, 0, 0, [3]))], [], 0, [], [])]
def t_Pl_sumPulls_ct : ct_L := [(0, 250, e_Pl_root), (18, 242, e_jArr_fill2_v97), (42, 242, e_jArr_fill2_v98), (358, 247, e_Gr_edgeBetween_at_Gr)]
