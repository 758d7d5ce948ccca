def n_Ho_dot_an : List an_T := []
def t_Ho_dot_ct : ct_L := []
set_option maxRecDepth 100000 in
theorem c_Ho_dot {l : Launch} {D : va_G} {kA : Nat → ClassId} : ct_ok l D kA GG y_Ho_dot z_Ho_dot e_Ho_dot := chk_all_ok (FT := [(73, 12, 13), (76, 12, 14), (79, 12, 15)]) (PT := []) (CT := t_Ho_dot_ct) (KT := []) (NT := []) (AN := n_Ho_dot_an) (OT := []) 0 200 (List.forall_mem_nil _) (by decide +kernel) ⟨List.forall_mem_cons.mpr ⟨gf_Ho_73, List.forall_mem_cons.mpr ⟨gf_Ho_76, List.forall_mem_cons.mpr ⟨gf_Ho_79, List.forall_mem_nil _⟩⟩⟩, List.forall_mem_nil _, List.forall_mem_nil _, List.forall_mem_nil _, List.forall_mem_nil _, GG_pl⟩ (by decide +kernel)
def n_Ho_fault_an : List an_T := []
def t_Ho_fault_ct : ct_L := []
set_option maxRecDepth 100000 in
theorem c_Ho_fault {l : Launch} {D : va_G} {kA : Nat → ClassId} : ct_ok l D kA GG y_Ho_fault z_Ho_fault e_Ho_fault := chk_all_ok (FT := [(38, 12, 4), (135, 8, 2), (138, 8, 3)]) (PT := []) (CT := t_Ho_fault_ct) (KT := []) (NT := []) (AN := n_Ho_fault_an) (OT := []) 0 200 (List.forall_mem_nil _) (by decide +kernel) ⟨List.forall_mem_cons.mpr ⟨gf_Ho_38, List.forall_mem_cons.mpr ⟨gf_Ho_135, List.forall_mem_cons.mpr ⟨gf_Ho_138, List.forall_mem_nil _⟩⟩⟩, List.forall_mem_nil _, List.forall_mem_nil _, List.forall_mem_nil _, List.forall_mem_nil _, GG_pl⟩ (by decide +kernel)
def n_Ho_isPlace_an : List an_T := []
def t_Ho_isPlace_ct : ct_L := []
set_option maxRecDepth 100000 in
theorem c_Ho_isPlace {l : Launch} {D : va_G} {kA : Nat → ClassId} : ct_ok l D kA GG y_Ho_isPlace z_Ho_isPlace e_Ho_isPlace := chk_all_ok (FT := []) (PT := []) (CT := t_Ho_isPlace_ct) (KT := []) (NT := []) (AN := n_Ho_isPlace_an) (OT := []) 0 200 (List.forall_mem_nil _) (by decide +kernel) ⟨List.forall_mem_nil _, List.forall_mem_nil _, List.forall_mem_nil _, List.forall_mem_nil _, List.forall_mem_nil _, GG_pl⟩ (by decide +kernel)
def n_Ho_map_an : List an_T := []
def t_Ho_map_ct : ct_L := []
set_option maxRecDepth 100000 in
theorem c_Ho_map {l : Launch} {D : va_G} {kA : Nat → ClassId} : ct_ok l D kA GG y_Ho_map z_Ho_map e_Ho_map := chk_all_ok (FT := [(49, 12, 6), (53, 12, 7), (57, 12, 8)]) (PT := []) (CT := t_Ho_map_ct) (KT := []) (NT := []) (AN := n_Ho_map_an) (OT := []) 0 200 (List.forall_mem_nil _) (by decide +kernel) ⟨List.forall_mem_cons.mpr ⟨gf_Ho_49, List.forall_mem_cons.mpr ⟨gf_Ho_53, List.forall_mem_cons.mpr ⟨gf_Ho_57, List.forall_mem_nil _⟩⟩⟩, List.forall_mem_nil _, List.forall_mem_nil _, List.forall_mem_nil _, List.forall_mem_nil _, GG_pl⟩ (by decide +kernel)
def n_Ho_octet_an : List an_T := []
def t_Ho_octet_ct : ct_L := []
set_option maxRecDepth 100000 in
theorem c_Ho_octet {l : Launch} {D : va_G} {kA : Nat → ClassId} : ct_ok l D kA GG y_Ho_octet z_Ho_octet e_Ho_octet := chk_all_ok (FT := [(60, 12, 9), (67, 12, 11)]) (PT := []) (CT := t_Ho_octet_ct) (KT := []) (NT := []) (AN := n_Ho_octet_an) (OT := []) 0 200 (List.forall_mem_nil _) (by decide +kernel) ⟨List.forall_mem_cons.mpr ⟨gf_Ho_60, List.forall_mem_cons.mpr ⟨gf_Ho_67, List.forall_mem_nil _⟩⟩, List.forall_mem_nil _, List.forall_mem_nil _, List.forall_mem_nil _, List.forall_mem_nil _, GG_pl⟩ (by decide +kernel)
def n_Ho_setDot_an : List an_T := []
def t_Ho_setDot_ct : ct_L := []
set_option maxRecDepth 100000 in
theorem c_Ho_setDot {l : Launch} {D : va_G} {kA : Nat → ClassId} : ct_ok l D kA GG y_Ho_setDot z_Ho_setDot e_Ho_setDot := chk_all_ok (FT := [(73, 12, 13), (76, 12, 14), (79, 12, 15)]) (PT := []) (CT := t_Ho_setDot_ct) (KT := []) (NT := []) (AN := n_Ho_setDot_an) (OT := []) 0 200 (List.forall_mem_nil _) (by decide +kernel) ⟨List.forall_mem_cons.mpr ⟨gf_Ho_73, List.forall_mem_cons.mpr ⟨gf_Ho_76, List.forall_mem_cons.mpr ⟨gf_Ho_79, List.forall_mem_nil _⟩⟩⟩, List.forall_mem_nil _, List.forall_mem_nil _, List.forall_mem_nil _, List.forall_mem_nil _, GG_pl⟩ (by decide +kernel)
def o_Ho_writeByte_0 : or_T := (28, 7, [(0, (2, 0, 0, [12])), (2, (0, 0, 99999999, [])), (3, (0, 4000, 100000000, [])), (4, (0, 4000, 4000, [])), (5, (0, 1, 1, [])), (6, (0, 4001, 100000001, []))], [(1, [6, 3, 5], []), (9, [3, 0], [12]), (7, [3, 4], [3]), (20, [0, 2], [30, 0, 1, 1, 12, -1, 0, 0])], [(6, (0, 4001, 100000000, []))], [], [], [], [(6, 3, 1, 1)])
theorem oo_Ho_writeByte_0 {kA : Nat → ClassId} : or_ok kA GG o_Ho_writeByte_0 := by
  intro A ta ws vs hD hth hl hk hds hf
  have hl : vs.length = 7 := hl
  have hk : ∀ q ∈ ([(0, (2, 0, 0, [12])), (2, (0, 0, 99999999, [])), (3, (0, 4000, 100000000, [])), (4, (0, 4000, 4000, [])), (5, (0, 1, 1, [])), (6, (0, 4001, 100000001, []))] : List (Nat × tv_T)), tv_ok ta q.2 (n_v vs q.1) := hk
  obtain ⟨t0, hk⟩ := List.forall_mem_cons.mp hk
  have t0 : tv_ok ta (2, 0, 0, [12]) (n_v vs 0) := t0
  have r0 : ta (v_ad (n_v vs 0)) = some 12 := tv_rg t0
  obtain ⟨t2, hk⟩ := List.forall_mem_cons.mp hk
  have t2 : tv_ok ta (0, 0, 99999999, []) (n_v vs 2) := t2
  have k2 : 0 ≤ v_iv (n_v vs 2) ∧ v_iv (n_v vs 2) ≤ 99999999 := tv_rng t2
  obtain ⟨t3, hk⟩ := List.forall_mem_cons.mp hk
  have t3 : tv_ok ta (0, 4000, 100000000, []) (n_v vs 3) := t3
  have k3 : 4000 ≤ v_iv (n_v vs 3) ∧ v_iv (n_v vs 3) ≤ 100000000 := tv_rng t3
  obtain ⟨t4, hk⟩ := List.forall_mem_cons.mp hk
  have t4 : tv_ok ta (0, 4000, 4000, []) (n_v vs 4) := t4
  have k4 : 4000 ≤ v_iv (n_v vs 4) ∧ v_iv (n_v vs 4) ≤ 4000 := tv_rng t4
  obtain ⟨t5, hk⟩ := List.forall_mem_cons.mp hk
  have t5 : tv_ok ta (0, 1, 1, []) (n_v vs 5) := t5
  have k5 : 1 ≤ v_iv (n_v vs 5) ∧ v_iv (n_v vs 5) ≤ 1 := tv_rng t5
  obtain ⟨t6, hk⟩ := List.forall_mem_cons.mp hk
  have t6 : tv_ok ta (0, 4001, 100000001, []) (n_v vs 6) := t6
  have k6 : 4001 ≤ v_iv (n_v vs 6) ∧ v_iv (n_v vs 6) ≤ 100000001 := tv_rng t6
  have hds : ∀ q ∈ ([(6, 3, 1, 1)] : List of_T), n_iv vs q.2.1 + q.2.2.1 ≤ n_iv vs q.1 ∧ n_iv vs q.1 ≤ n_iv vs q.2.1 + q.2.2.2 := hds
  obtain ⟨d0, hds⟩ := List.forall_mem_cons.mp hds
  have d0 : v_iv (n_v vs 3) + 1 ≤ v_iv (n_v vs 6) ∧ v_iv (n_v vs 6) ≤ v_iv (n_v vs 3) + 1 := d0
  have hf : fc_ok [(1, [6, 3, 5], []), (9, [3, 0], [12]), (7, [3, 4], [3]), (20, [0, 2], [30, 0, 1, 1, 12, -1, 0, 0])] ta ws vs := hf
  obtain ⟨f0, hf⟩ := fc_un (show (1 : Nat) < 100 from by decide) hf
  have f0 : v_iv (n_v vs 6) = v_iv (n_v vs 3) + v_iv (n_v vs 5) := f0
  obtain ⟨f1, hf⟩ := fc_un (show (9 : Nat) < 100 from by decide) hf
  have f1 : n_v vs 3 = w_fd ws (v_ad (n_v vs 0)) 12 := f1
  obtain ⟨f2, hf⟩ := fc_un (show (7 : Nat) < 100 from by decide) hf
  have f2 : v_iv (n_v vs 4) ≤ v_iv (n_v vs 3) := f2
  obtain ⟨f3, hf⟩ := fc_un (show (20 : Nat) < 100 from by decide) hf
  have f3 : 1 * w_fi ws (n_v vs 0) 12 + ((-1) * v_iv (n_v vs 2) + 0) ≤ 0 := f3
  have g1 : v_iv (n_v vs 3) = w_fi ws (n_v vs 0) 12 := congrArg v_iv f1
  have kz_0_12 : 0 ≤ w_fi ws (n_v vs 0) 12 ∧ w_fi ws (n_v vs 0) 12 ≤ 100000000 := tv_rng (th_fd hD hth r0 (g := GG_12) rfl (k := 12) (t := (0, 0, 100000000, [])) rfl rfl)
  have rf6 : tv_ok ta (0, 4001, 100000000, []) (n_v vs 6) := tv_in t6 (by omega) (by omega)
  refine ⟨List.forall_mem_cons.mpr ⟨rf6, (fun _ h => (by cases h))⟩, [], trivial, ?_, (fun _ h => (by cases h))⟩
  rw [List.append_nil]
  exact (fun _ h => (by cases h))
def o_Ho_writeByte_1 : or_T := (31, 7, [(0, (2, 0, 0, [12])), (2, (0, 0, 99999999, [])), (3, (0, 4000, 100000000, [])), (4, (0, 4000, 4000, [])), (5, (0, 1, 1, [])), (6, (0, 4001, 100000000, []))], [(101, [0, 6], [12]), (1, [6, 3, 5], []), (9, [3, 0], [12]), (7, [3, 4], [3]), (20, [0, 2], [30, 0, 1, 1, 12, -1, 0, 0])], [], [], [(20, [0, 2], [30, 1, 1, 1, 12, -1, 0, 0])], [], [(6, 3, 1, 1)])
theorem oo_Ho_writeByte_1 {kA : Nat → ClassId} : or_ok kA GG o_Ho_writeByte_1 := by
  intro A ta ws vs hD hth hl hk hds hf
  have hl : vs.length = 7 := hl
  have hk : ∀ q ∈ ([(0, (2, 0, 0, [12])), (2, (0, 0, 99999999, [])), (3, (0, 4000, 100000000, [])), (4, (0, 4000, 4000, [])), (5, (0, 1, 1, [])), (6, (0, 4001, 100000000, []))] : List (Nat × tv_T)), tv_ok ta q.2 (n_v vs q.1) := hk
  obtain ⟨t0, hk⟩ := List.forall_mem_cons.mp hk
  have t0 : tv_ok ta (2, 0, 0, [12]) (n_v vs 0) := t0
  have r0 : ta (v_ad (n_v vs 0)) = some 12 := tv_rg t0
  obtain ⟨t2, hk⟩ := List.forall_mem_cons.mp hk
  have t2 : tv_ok ta (0, 0, 99999999, []) (n_v vs 2) := t2
  have k2 : 0 ≤ v_iv (n_v vs 2) ∧ v_iv (n_v vs 2) ≤ 99999999 := tv_rng t2
  obtain ⟨t3, hk⟩ := List.forall_mem_cons.mp hk
  have t3 : tv_ok ta (0, 4000, 100000000, []) (n_v vs 3) := t3
  have k3 : 4000 ≤ v_iv (n_v vs 3) ∧ v_iv (n_v vs 3) ≤ 100000000 := tv_rng t3
  obtain ⟨t4, hk⟩ := List.forall_mem_cons.mp hk
  have t4 : tv_ok ta (0, 4000, 4000, []) (n_v vs 4) := t4
  have k4 : 4000 ≤ v_iv (n_v vs 4) ∧ v_iv (n_v vs 4) ≤ 4000 := tv_rng t4
  obtain ⟨t5, hk⟩ := List.forall_mem_cons.mp hk
  have t5 : tv_ok ta (0, 1, 1, []) (n_v vs 5) := t5
  have k5 : 1 ≤ v_iv (n_v vs 5) ∧ v_iv (n_v vs 5) ≤ 1 := tv_rng t5
  obtain ⟨t6, hk⟩ := List.forall_mem_cons.mp hk
  have t6 : tv_ok ta (0, 4001, 100000000, []) (n_v vs 6) := t6
  have k6 : 4001 ≤ v_iv (n_v vs 6) ∧ v_iv (n_v vs 6) ≤ 100000000 := tv_rng t6
  have hds : ∀ q ∈ ([(6, 3, 1, 1)] : List of_T), n_iv vs q.2.1 + q.2.2.1 ≤ n_iv vs q.1 ∧ n_iv vs q.1 ≤ n_iv vs q.2.1 + q.2.2.2 := hds
  obtain ⟨d0, hds⟩ := List.forall_mem_cons.mp hds
  have d0 : v_iv (n_v vs 3) + 1 ≤ v_iv (n_v vs 6) ∧ v_iv (n_v vs 6) ≤ v_iv (n_v vs 3) + 1 := d0
  have hf : fc_ok [(101, [0, 6], [12]), (1, [6, 3, 5], []), (9, [3, 0], [12]), (7, [3, 4], [3]), (20, [0, 2], [30, 0, 1, 1, 12, -1, 0, 0])] ta ws vs := hf
  obtain ⟨ta1, w1, le1, ⟨_, s1⟩, hf⟩ := fc_us (show ¬ (101 : Nat) < 100 from by decide) hf
  have s1 : (∀ b j, w_el ws b j = w_el w1 b j) ∧ ∀ b j, w_fd ws b j = if b = v_ad (n_v vs 0) ∧ j = 12 then n_v vs 6 else w_fd w1 b j := s1
  obtain ⟨f1, hf⟩ := fc_un (show (1 : Nat) < 100 from by decide) hf
  have f1 : v_iv (n_v vs 6) = v_iv (n_v vs 3) + v_iv (n_v vs 5) := f1
  obtain ⟨f2, hf⟩ := fc_un (show (9 : Nat) < 100 from by decide) hf
  have f2 : n_v vs 3 = w_fd w1 (v_ad (n_v vs 0)) 12 := f2
  obtain ⟨f3, hf⟩ := fc_un (show (7 : Nat) < 100 from by decide) hf
  have f3 : v_iv (n_v vs 4) ≤ v_iv (n_v vs 3) := f3
  obtain ⟨f4, hf⟩ := fc_un (show (20 : Nat) < 100 from by decide) hf
  have f4 : 1 * w_fi w1 (n_v vs 0) 12 + ((-1) * v_iv (n_v vs 2) + 0) ≤ 0 := f4
  have g2 : v_iv (n_v vs 3) = w_fi w1 (n_v vs 0) 12 := congrArg v_iv f2
  have fe_0_12_1 : w_fi ws (n_v vs 0) 12 = v_iv (n_v vs 6) := by show v_iv (w_fd _ _ _) = _; rw [s1.2, if_pos ⟨rfl, rfl⟩]
  have kz_0_12 : 0 ≤ w_fi ws (n_v vs 0) 12 ∧ w_fi ws (n_v vs 0) 12 ≤ 100000000 := tv_rng (th_fd hD hth r0 (g := GG_12) rfl (k := 12) (t := (0, 0, 100000000, [])) rfl rfl)
  have nf0 : fc_1 (20, [0, 2], [30, 1, 1, 1, 12, -1, 0, 0]) ws (vs) := by
    refine ⟨fun n hn => ?_, ?_⟩
    · have hn : n ∈ [0, 2] := hn
      rw [hl]
      simp only [List.mem_cons, List.not_mem_nil, or_false] at hn
      show n < 7; omega
    · show 1 * w_fi ws (n_v vs 0) 12 + ((-1) * v_iv (n_v vs 2) + 0) ≤ 1
      omega
  refine ⟨(fun _ h => (by cases h)), [], trivial, ?_, (fun _ h => (by cases h))⟩
  rw [List.append_nil]
  exact List.forall_mem_cons.mpr ⟨⟨show (20 : Nat) < 100 from by decide, nf0⟩, (fun _ h => (by cases h))⟩
def o_Ho_writeByte_2 : or_T := (31, 9, [(0, (2, 0, 0, [12])), (2, (0, 0, 99999999, [])), (3, (0, 0, 3999, [])), (4, (0, 4000, 4000, [])), (7, (0, 1, 1, [])), (8, (0, 1, 4000, []))], [(101, [0, 8], [12]), (1, [8, 3, 7], []), (9, [3, 0], [12]), (20, [0, 2], [30, 0, 1, 1, 12, -1, 0, 0]), (103, [5], []), (7, [3, 4], [2]), (20, [0, 2], [30, 0, 1, 1, 12, -1, 0, 0])], [], [], [(20, [0, 2], [30, 1, 1, 1, 12, -1, 0, 0])], [], [(8, 3, 1, 1)])
theorem oo_Ho_writeByte_2 {kA : Nat → ClassId} : or_ok kA GG o_Ho_writeByte_2 := by
  intro A ta ws vs hD hth hl hk hds hf
  have hl : vs.length = 9 := hl
  have hk : ∀ q ∈ ([(0, (2, 0, 0, [12])), (2, (0, 0, 99999999, [])), (3, (0, 0, 3999, [])), (4, (0, 4000, 4000, [])), (7, (0, 1, 1, [])), (8, (0, 1, 4000, []))] : List (Nat × tv_T)), tv_ok ta q.2 (n_v vs q.1) := hk
  obtain ⟨t0, hk⟩ := List.forall_mem_cons.mp hk
  have t0 : tv_ok ta (2, 0, 0, [12]) (n_v vs 0) := t0
  have r0 : ta (v_ad (n_v vs 0)) = some 12 := tv_rg t0
  obtain ⟨t2, hk⟩ := List.forall_mem_cons.mp hk
  have t2 : tv_ok ta (0, 0, 99999999, []) (n_v vs 2) := t2
  have k2 : 0 ≤ v_iv (n_v vs 2) ∧ v_iv (n_v vs 2) ≤ 99999999 := tv_rng t2
  obtain ⟨t3, hk⟩ := List.forall_mem_cons.mp hk
  have t3 : tv_ok ta (0, 0, 3999, []) (n_v vs 3) := t3
  have k3 : 0 ≤ v_iv (n_v vs 3) ∧ v_iv (n_v vs 3) ≤ 3999 := tv_rng t3
  obtain ⟨t4, hk⟩ := List.forall_mem_cons.mp hk
  have t4 : tv_ok ta (0, 4000, 4000, []) (n_v vs 4) := t4
  have k4 : 4000 ≤ v_iv (n_v vs 4) ∧ v_iv (n_v vs 4) ≤ 4000 := tv_rng t4
  obtain ⟨t7, hk⟩ := List.forall_mem_cons.mp hk
  have t7 : tv_ok ta (0, 1, 1, []) (n_v vs 7) := t7
  have k7 : 1 ≤ v_iv (n_v vs 7) ∧ v_iv (n_v vs 7) ≤ 1 := tv_rng t7
  obtain ⟨t8, hk⟩ := List.forall_mem_cons.mp hk
  have t8 : tv_ok ta (0, 1, 4000, []) (n_v vs 8) := t8
  have k8 : 1 ≤ v_iv (n_v vs 8) ∧ v_iv (n_v vs 8) ≤ 4000 := tv_rng t8
  have hds : ∀ q ∈ ([(8, 3, 1, 1)] : List of_T), n_iv vs q.2.1 + q.2.2.1 ≤ n_iv vs q.1 ∧ n_iv vs q.1 ≤ n_iv vs q.2.1 + q.2.2.2 := hds
  obtain ⟨d0, hds⟩ := List.forall_mem_cons.mp hds
  have d0 : v_iv (n_v vs 3) + 1 ≤ v_iv (n_v vs 8) ∧ v_iv (n_v vs 8) ≤ v_iv (n_v vs 3) + 1 := d0
  have hf : fc_ok [(101, [0, 8], [12]), (1, [8, 3, 7], []), (9, [3, 0], [12]), (20, [0, 2], [30, 0, 1, 1, 12, -1, 0, 0]), (103, [5], []), (7, [3, 4], [2]), (20, [0, 2], [30, 0, 1, 1, 12, -1, 0, 0])] ta ws vs := hf
  obtain ⟨ta1, w1, le1, ⟨_, s1⟩, hf⟩ := fc_us (show ¬ (101 : Nat) < 100 from by decide) hf
  have s1 : (∀ b j, w_el ws b j = w_el w1 b j) ∧ ∀ b j, w_fd ws b j = if b = v_ad (n_v vs 0) ∧ j = 12 then n_v vs 8 else w_fd w1 b j := s1
  obtain ⟨f1, hf⟩ := fc_un (show (1 : Nat) < 100 from by decide) hf
  have f1 : v_iv (n_v vs 8) = v_iv (n_v vs 3) + v_iv (n_v vs 7) := f1
  obtain ⟨f2, hf⟩ := fc_un (show (9 : Nat) < 100 from by decide) hf
  have f2 : n_v vs 3 = w_fd w1 (v_ad (n_v vs 0)) 12 := f2
  obtain ⟨f3, hf⟩ := fc_un (show (20 : Nat) < 100 from by decide) hf
  have f3 : 1 * w_fi w1 (n_v vs 0) 12 + ((-1) * v_iv (n_v vs 2) + 0) ≤ 0 := f3
  obtain ⟨ta2, w2, le2, ⟨_, s2⟩, hf⟩ := fc_us (show ¬ (103 : Nat) < 100 from by decide) hf
  obtain ⟨f5, hf⟩ := fc_un (show (7 : Nat) < 100 from by decide) hf
  have f5 : v_iv (n_v vs 3) < v_iv (n_v vs 4) := f5
  obtain ⟨f6, hf⟩ := fc_un (show (20 : Nat) < 100 from by decide) hf
  have f6 : 1 * w_fi w2 (n_v vs 0) 12 + ((-1) * v_iv (n_v vs 2) + 0) ≤ 0 := f6
  have g2 : v_iv (n_v vs 3) = w_fi w1 (n_v vs 0) 12 := congrArg v_iv f2
  have fe_0_12_1 : w_fi ws (n_v vs 0) 12 = v_iv (n_v vs 8) := by show v_iv (w_fd _ _ _) = _; rw [s1.2, if_pos ⟨rfl, rfl⟩]
  have fe_0_12_2 : w_fi w1 (n_v vs 0) 12 = w_fi w2 (n_v vs 0) 12 := congrArg v_iv (s2.2 _ _)
  have kz_0_12 : 0 ≤ w_fi ws (n_v vs 0) 12 ∧ w_fi ws (n_v vs 0) 12 ≤ 100000000 := tv_rng (th_fd hD hth r0 (g := GG_12) rfl (k := 12) (t := (0, 0, 100000000, [])) rfl rfl)
  have nf0 : fc_1 (20, [0, 2], [30, 1, 1, 1, 12, -1, 0, 0]) ws (vs) := by
    refine ⟨fun n hn => ?_, ?_⟩
    · have hn : n ∈ [0, 2] := hn
      rw [hl]
      simp only [List.mem_cons, List.not_mem_nil, or_false] at hn
      show n < 9; omega
    · show 1 * w_fi ws (n_v vs 0) 12 + ((-1) * v_iv (n_v vs 2) + 0) ≤ 1
      omega
  refine ⟨(fun _ h => (by cases h)), [], trivial, ?_, (fun _ h => (by cases h))⟩
  rw [List.append_nil]
  exact List.forall_mem_cons.mpr ⟨⟨show (20 : Nat) < 100 from by decide, nf0⟩, (fun _ h => (by cases h))⟩
def n_Ho_writeByte_an : List an_T := []
def t_Ho_writeByte_ct : ct_L := []
set_option maxRecDepth 100000 in
theorem c_Ho_writeByte {l : Launch} {D : va_G} {kA : Nat → ClassId} : ct_ok l D kA GG y_Ho_writeByte z_Ho_writeByte e_Ho_writeByte := chk_all_ok (FT := [(64, 12, 10), (70, 12, 12)]) (PT := [(70, 12, 12, .int)]) (CT := t_Ho_writeByte_ct) (KT := []) (NT := []) (AN := n_Ho_writeByte_an) (OT := [o_Ho_writeByte_0, o_Ho_writeByte_1, o_Ho_writeByte_2]) 0 200 (List.forall_mem_cons.mpr ⟨oo_Ho_writeByte_0, List.forall_mem_cons.mpr ⟨oo_Ho_writeByte_1, List.forall_mem_cons.mpr ⟨oo_Ho_writeByte_2, List.forall_mem_nil _⟩⟩⟩) (by decide +kernel) ⟨List.forall_mem_cons.mpr ⟨gf_Ho_64, List.forall_mem_cons.mpr ⟨gf_Ho_70, List.forall_mem_nil _⟩⟩, List.forall_mem_cons.mpr ⟨pf_Ho_70, List.forall_mem_nil _⟩, List.forall_mem_nil _, List.forall_mem_nil _, List.forall_mem_nil _, GG_pl⟩ (by decide +kernel)
def o_Dr_addBend_0 : or_T := (16, 11, [(0, (2, 0, 0, [0])), (1, (0, 0, 47, [])), (4, (0, 0, 23, [])), (6, (0, 24, 24, [])), (7, (0, 0, 1128, [])), (8, (2, 0, 0, [16])), (9, (0, 0, 24, [])), (10, (0, 0, 1152, []))], [(1, [10, 7, 9], []), (10, [9, 8, 1], []), (9, [8, 0], [4]), (3, [7, 1, 6], []), (20, [0, 1, 4], [30, 0, 1, 2, 4, -1, 0, 0])], [(10, (0, 0, 1151, []))], [], [], [], [(10, 9, 0, 1128), (10, 7, 0, 24)])
theorem oo_Dr_addBend_0 {kA : Nat → ClassId} : or_ok kA GG o_Dr_addBend_0 := by
  intro A ta ws vs hD hth hl hk hds hf
  have hl : vs.length = 11 := hl
  have hk : ∀ q ∈ ([(0, (2, 0, 0, [0])), (1, (0, 0, 47, [])), (4, (0, 0, 23, [])), (6, (0, 24, 24, [])), (7, (0, 0, 1128, [])), (8, (2, 0, 0, [16])), (9, (0, 0, 24, [])), (10, (0, 0, 1152, []))] : List (Nat × tv_T)), tv_ok ta q.2 (n_v vs q.1) := hk
  obtain ⟨t0, hk⟩ := List.forall_mem_cons.mp hk
  have t0 : tv_ok ta (2, 0, 0, [0]) (n_v vs 0) := t0
  have r0 : ta (v_ad (n_v vs 0)) = some 0 := tv_rg t0
  obtain ⟨t1, hk⟩ := List.forall_mem_cons.mp hk
  have t1 : tv_ok ta (0, 0, 47, []) (n_v vs 1) := t1
  have k1 : 0 ≤ v_iv (n_v vs 1) ∧ v_iv (n_v vs 1) ≤ 47 := tv_rng t1
  obtain ⟨t4, hk⟩ := List.forall_mem_cons.mp hk
  have t4 : tv_ok ta (0, 0, 23, []) (n_v vs 4) := t4
  have k4 : 0 ≤ v_iv (n_v vs 4) ∧ v_iv (n_v vs 4) ≤ 23 := tv_rng t4
  obtain ⟨t6, hk⟩ := List.forall_mem_cons.mp hk
  have t6 : tv_ok ta (0, 24, 24, []) (n_v vs 6) := t6
  have k6 : 24 ≤ v_iv (n_v vs 6) ∧ v_iv (n_v vs 6) ≤ 24 := tv_rng t6
  obtain ⟨t7, hk⟩ := List.forall_mem_cons.mp hk
  have t7 : tv_ok ta (0, 0, 1128, []) (n_v vs 7) := t7
  have k7 : 0 ≤ v_iv (n_v vs 7) ∧ v_iv (n_v vs 7) ≤ 1128 := tv_rng t7
  obtain ⟨t8, hk⟩ := List.forall_mem_cons.mp hk
  have t8 : tv_ok ta (2, 0, 0, [16]) (n_v vs 8) := t8
  have r8 : ta (v_ad (n_v vs 8)) = some 16 := tv_rg t8
  obtain ⟨t9, hk⟩ := List.forall_mem_cons.mp hk
  have t9 : tv_ok ta (0, 0, 24, []) (n_v vs 9) := t9
  have k9 : 0 ≤ v_iv (n_v vs 9) ∧ v_iv (n_v vs 9) ≤ 24 := tv_rng t9
  obtain ⟨t10, hk⟩ := List.forall_mem_cons.mp hk
  have t10 : tv_ok ta (0, 0, 1152, []) (n_v vs 10) := t10
  have k10 : 0 ≤ v_iv (n_v vs 10) ∧ v_iv (n_v vs 10) ≤ 1152 := tv_rng t10
  have hds : ∀ q ∈ ([(10, 9, 0, 1128), (10, 7, 0, 24)] : List of_T), n_iv vs q.2.1 + q.2.2.1 ≤ n_iv vs q.1 ∧ n_iv vs q.1 ≤ n_iv vs q.2.1 + q.2.2.2 := hds
  obtain ⟨d0, hds⟩ := List.forall_mem_cons.mp hds
  have d0 : v_iv (n_v vs 9) + 0 ≤ v_iv (n_v vs 10) ∧ v_iv (n_v vs 10) ≤ v_iv (n_v vs 9) + 1128 := d0
  obtain ⟨d1, hds⟩ := List.forall_mem_cons.mp hds
  have d1 : v_iv (n_v vs 7) + 0 ≤ v_iv (n_v vs 10) ∧ v_iv (n_v vs 10) ≤ v_iv (n_v vs 7) + 24 := d1
  have hf : fc_ok [(1, [10, 7, 9], []), (10, [9, 8, 1], []), (9, [8, 0], [4]), (3, [7, 1, 6], []), (20, [0, 1, 4], [30, 0, 1, 2, 4, -1, 0, 0])] ta ws vs := hf
  obtain ⟨f0, hf⟩ := fc_un (show (1 : Nat) < 100 from by decide) hf
  have f0 : v_iv (n_v vs 10) = v_iv (n_v vs 7) + v_iv (n_v vs 9) := f0
  obtain ⟨f1, hf⟩ := fc_un (show (10 : Nat) < 100 from by decide) hf
  have f1 : v_iv (n_v vs 9) = w_el ws (v_ad (n_v vs 8)) (v_iv (n_v vs 1)).toNat := f1
  obtain ⟨f2, hf⟩ := fc_un (show (9 : Nat) < 100 from by decide) hf
  have f2 : n_v vs 8 = w_fd ws (v_ad (n_v vs 0)) 4 := f2
  obtain ⟨f3, hf⟩ := fc_un (show (3 : Nat) < 100 from by decide) hf
  have f3 : v_iv (n_v vs 7) = v_iv (n_v vs 1) * v_iv (n_v vs 6) := f3
  rw [show v_iv (n_v vs 6) = 24 from by omega] at f3
  obtain ⟨f4, hf⟩ := fc_un (show (20 : Nat) < 100 from by decide) hf
  have f4 : 1 * w_el ws (w_ar ws (n_v vs 0) 4) (v_iv (n_v vs 1)).toNat + ((-1) * v_iv (n_v vs 4) + 0) ≤ 0 := f4
  have cr_0_4 : ta (w_ar ws (n_v vs 0) 4) = some 16 := tv_rg (th_fd hD hth r0 (g := GG_0) rfl (k := 4) (t := (2, 0, 0, [16])) rfl rfl)
  have ad_8 : v_ad (n_v vs 8) = w_ar ws (n_v vs 0) 4 := congrArg v_ad f2
  rw [ad_8] at f1
  have rf10 : tv_ok ta (0, 0, 1151, []) (n_v vs 10) := tv_in t10 (by omega) (by omega)
  refine ⟨List.forall_mem_cons.mpr ⟨rf10, (fun _ h => (by cases h))⟩, [], trivial, ?_, (fun _ h => (by cases h))⟩
  rw [List.append_nil]
  exact (fun _ h => (by cases h))
def o_Dr_addBend_1 : or_T := (33, 16, [(0, (2, 0, 0, [0])), (1, (0, 0, 47, [])), (4, (0, 0, 23, [])), (5, (2, 0, 0, [17])), (8, (2, 0, 0, [16])), (9, (0, 0, 24, [])), (12, (0, 24, 24, [])), (13, (0, 0, 1128, [])), (14, (0, 0, 24, [])), (15, (0, 0, 1152, []))], [(1, [15, 13, 14], []), (10, [14, 8, 1], []), (9, [8, 0], [4]), (3, [13, 1, 12], []), (20, [0, 1, 4], [30, 0, 1, 2, 4, -1, 0, 0]), (100, [5, 10, 2], []), (10, [9, 8, 1], []), (9, [5, 0], [5]), (20, [0, 1, 4], [30, 0, 1, 2, 4, -1, 0, 0])], [(15, (0, 0, 1151, []))], [], [], [], [(15, 14, 0, 1128), (15, 13, 0, 24)])
theorem oo_Dr_addBend_1 {kA : Nat → ClassId} : or_ok kA GG o_Dr_addBend_1 := by
  intro A ta ws vs hD hth hl hk hds hf
  have hl : vs.length = 16 := hl
  have hk : ∀ q ∈ ([(0, (2, 0, 0, [0])), (1, (0, 0, 47, [])), (4, (0, 0, 23, [])), (5, (2, 0, 0, [17])), (8, (2, 0, 0, [16])), (9, (0, 0, 24, [])), (12, (0, 24, 24, [])), (13, (0, 0, 1128, [])), (14, (0, 0, 24, [])), (15, (0, 0, 1152, []))] : List (Nat × tv_T)), tv_ok ta q.2 (n_v vs q.1) := hk
  obtain ⟨t0, hk⟩ := List.forall_mem_cons.mp hk
  have t0 : tv_ok ta (2, 0, 0, [0]) (n_v vs 0) := t0
  have r0 : ta (v_ad (n_v vs 0)) = some 0 := tv_rg t0
  obtain ⟨t1, hk⟩ := List.forall_mem_cons.mp hk
  have t1 : tv_ok ta (0, 0, 47, []) (n_v vs 1) := t1
  have k1 : 0 ≤ v_iv (n_v vs 1) ∧ v_iv (n_v vs 1) ≤ 47 := tv_rng t1
  obtain ⟨t4, hk⟩ := List.forall_mem_cons.mp hk
  have t4 : tv_ok ta (0, 0, 23, []) (n_v vs 4) := t4
  have k4 : 0 ≤ v_iv (n_v vs 4) ∧ v_iv (n_v vs 4) ≤ 23 := tv_rng t4
  obtain ⟨t5, hk⟩ := List.forall_mem_cons.mp hk
  have t5 : tv_ok ta (2, 0, 0, [17]) (n_v vs 5) := t5
  have r5 : ta (v_ad (n_v vs 5)) = some 17 := tv_rg t5
  obtain ⟨t8, hk⟩ := List.forall_mem_cons.mp hk
  have t8 : tv_ok ta (2, 0, 0, [16]) (n_v vs 8) := t8
  have r8 : ta (v_ad (n_v vs 8)) = some 16 := tv_rg t8
  obtain ⟨t9, hk⟩ := List.forall_mem_cons.mp hk
  have t9 : tv_ok ta (0, 0, 24, []) (n_v vs 9) := t9
  have k9 : 0 ≤ v_iv (n_v vs 9) ∧ v_iv (n_v vs 9) ≤ 24 := tv_rng t9
  obtain ⟨t12, hk⟩ := List.forall_mem_cons.mp hk
  have t12 : tv_ok ta (0, 24, 24, []) (n_v vs 12) := t12
  have k12 : 24 ≤ v_iv (n_v vs 12) ∧ v_iv (n_v vs 12) ≤ 24 := tv_rng t12
  obtain ⟨t13, hk⟩ := List.forall_mem_cons.mp hk
  have t13 : tv_ok ta (0, 0, 1128, []) (n_v vs 13) := t13
  have k13 : 0 ≤ v_iv (n_v vs 13) ∧ v_iv (n_v vs 13) ≤ 1128 := tv_rng t13
  obtain ⟨t14, hk⟩ := List.forall_mem_cons.mp hk
  have t14 : tv_ok ta (0, 0, 24, []) (n_v vs 14) := t14
  have k14 : 0 ≤ v_iv (n_v vs 14) ∧ v_iv (n_v vs 14) ≤ 24 := tv_rng t14
  obtain ⟨t15, hk⟩ := List.forall_mem_cons.mp hk
  have t15 : tv_ok ta (0, 0, 1152, []) (n_v vs 15) := t15
  have k15 : 0 ≤ v_iv (n_v vs 15) ∧ v_iv (n_v vs 15) ≤ 1152 := tv_rng t15
  have hds : ∀ q ∈ ([(15, 14, 0, 1128), (15, 13, 0, 24)] : List of_T), n_iv vs q.2.1 + q.2.2.1 ≤ n_iv vs q.1 ∧ n_iv vs q.1 ≤ n_iv vs q.2.1 + q.2.2.2 := hds
  obtain ⟨d0, hds⟩ := List.forall_mem_cons.mp hds
  have d0 : v_iv (n_v vs 14) + 0 ≤ v_iv (n_v vs 15) ∧ v_iv (n_v vs 15) ≤ v_iv (n_v vs 14) + 1128 := d0
  obtain ⟨d1, hds⟩ := List.forall_mem_cons.mp hds
  have d1 : v_iv (n_v vs 13) + 0 ≤ v_iv (n_v vs 15) ∧ v_iv (n_v vs 15) ≤ v_iv (n_v vs 13) + 24 := d1
  have hf : fc_ok [(1, [15, 13, 14], []), (10, [14, 8, 1], []), (9, [8, 0], [4]), (3, [13, 1, 12], []), (20, [0, 1, 4], [30, 0, 1, 2, 4, -1, 0, 0]), (100, [5, 10, 2], []), (10, [9, 8, 1], []), (9, [5, 0], [5]), (20, [0, 1, 4], [30, 0, 1, 2, 4, -1, 0, 0])] ta ws vs := hf
  obtain ⟨f0, hf⟩ := fc_un (show (1 : Nat) < 100 from by decide) hf
  have f0 : v_iv (n_v vs 15) = v_iv (n_v vs 13) + v_iv (n_v vs 14) := f0
  obtain ⟨f1, hf⟩ := fc_un (show (10 : Nat) < 100 from by decide) hf
  have f1 : v_iv (n_v vs 14) = w_el ws (v_ad (n_v vs 8)) (v_iv (n_v vs 1)).toNat := f1
  obtain ⟨f2, hf⟩ := fc_un (show (9 : Nat) < 100 from by decide) hf
  have f2 : n_v vs 8 = w_fd ws (v_ad (n_v vs 0)) 4 := f2
  obtain ⟨f3, hf⟩ := fc_un (show (3 : Nat) < 100 from by decide) hf
  have f3 : v_iv (n_v vs 13) = v_iv (n_v vs 1) * v_iv (n_v vs 12) := f3
  rw [show v_iv (n_v vs 12) = 24 from by omega] at f3
  obtain ⟨f4, hf⟩ := fc_un (show (20 : Nat) < 100 from by decide) hf
  have f4 : 1 * w_el ws (w_ar ws (n_v vs 0) 4) (v_iv (n_v vs 1)).toNat + ((-1) * v_iv (n_v vs 4) + 0) ≤ 0 := f4
  obtain ⟨ta1, w1, le1, ⟨_, s1⟩, hf⟩ := fc_us (show ¬ (100 : Nat) < 100 from by decide) hf
  have s1 : (∀ b j, w_el ws b j = if b = v_ad (n_v vs 5) ∧ j = (v_iv (n_v vs 10)).toNat then v_iv (n_v vs 2) else w_el w1 b j) ∧ ∀ b k, w_fd ws b k = w_fd w1 b k := s1
  obtain ⟨f6, hf⟩ := fc_un (show (10 : Nat) < 100 from by decide) hf
  have f6 : v_iv (n_v vs 9) = w_el w1 (v_ad (n_v vs 8)) (v_iv (n_v vs 1)).toNat := f6
  obtain ⟨f7, hf⟩ := fc_un (show (9 : Nat) < 100 from by decide) hf
  have f7 : n_v vs 5 = w_fd w1 (v_ad (n_v vs 0)) 5 := f7
  obtain ⟨f8, hf⟩ := fc_un (show (20 : Nat) < 100 from by decide) hf
  have f8 : 1 * w_el w1 (w_ar w1 (n_v vs 0) 4) (v_iv (n_v vs 1)).toNat + ((-1) * v_iv (n_v vs 4) + 0) ≤ 0 := f8
  have ar_0_4_1 : w_ar w1 (n_v vs 0) 4 = w_ar ws (n_v vs 0) 4 := by show v_ad (w_fd w1 _ _) = v_ad (w_fd ws _ _); rw [s1.2]
  have cr_0_4 : ta (w_ar ws (n_v vs 0) 4) = some 16 := tv_rg (th_fd hD hth r0 (g := GG_0) rfl (k := 4) (t := (2, 0, 0, [16])) rfl rfl)
  have ar_0_5_1 : w_ar w1 (n_v vs 0) 5 = w_ar ws (n_v vs 0) 5 := by show v_ad (w_fd w1 _ _) = v_ad (w_fd ws _ _); rw [s1.2]
  have cr_0_5 : ta (w_ar ws (n_v vs 0) 5) = some 17 := tv_rg (th_fd hD hth r0 (g := GG_0) rfl (k := 5) (t := (2, 0, 0, [17])) rfl rfl)
  have ad_8 : v_ad (n_v vs 8) = w_ar ws (n_v vs 0) 4 := congrArg v_ad f2
  have ad_5 : v_ad (n_v vs 5) = w_ar ws (n_v vs 0) 5 := (congrArg v_ad f7).trans ar_0_5_1
  rw [ad_8] at f1
  rw [ad_8] at f6
  rw [ar_0_4_1] at f8
  have ee_0_4_1_1 : w_el ws (w_ar ws (n_v vs 0) 4) (v_iv (n_v vs 1)).toNat = w_el w1 (w_ar ws (n_v vs 0) 4) (v_iv (n_v vs 1)).toNat := by rw [s1.1, if_neg (fun e => by have e1 := e.1; rw [← e1] at r5; rw [cr_0_4] at r5; exact absurd (Option.some.inj r5) (by decide))]
  have rf15 : tv_ok ta (0, 0, 1151, []) (n_v vs 15) := tv_in t15 (by omega) (by omega)
  refine ⟨List.forall_mem_cons.mpr ⟨rf15, (fun _ h => (by cases h))⟩, [], trivial, ?_, (fun _ h => (by cases h))⟩
  rw [List.append_nil]
  exact (fun _ h => (by cases h))
def o_Dr_addBend_2 : or_T := (43, 19, [(0, (2, 0, 0, [0])), (1, (0, 0, 47, [])), (4, (0, 0, 23, [])), (5, (2, 0, 0, [17])), (8, (2, 0, 0, [16])), (9, (0, 0, 24, [])), (11, (2, 0, 0, [18])), (14, (0, 0, 24, [])), (16, (0, 0, 24, [])), (17, (0, 1, 1, [])), (18, (0, 1, 25, []))], [(1, [18, 16, 17], []), (10, [16, 8, 1], []), (9, [8, 0], [4]), (20, [0, 1, 4], [30, 0, 1, 2, 4, -1, 0, 0]), (100, [11, 15, 3], []), (10, [14, 8, 1], []), (9, [11, 0], [6]), (20, [0, 1, 4], [30, 0, 1, 2, 4, -1, 0, 0]), (100, [5, 10, 2], []), (10, [9, 8, 1], []), (9, [5, 0], [5]), (20, [0, 1, 4], [30, 0, 1, 2, 4, -1, 0, 0])], [(18, (0, 1, 24, []))], [], [], [], [(18, 16, 1, 1)])
theorem oo_Dr_addBend_2 {kA : Nat → ClassId} : or_ok kA GG o_Dr_addBend_2 := by
  intro A ta ws vs hD hth hl hk hds hf
  have hl : vs.length = 19 := hl
  have hk : ∀ q ∈ ([(0, (2, 0, 0, [0])), (1, (0, 0, 47, [])), (4, (0, 0, 23, [])), (5, (2, 0, 0, [17])), (8, (2, 0, 0, [16])), (9, (0, 0, 24, [])), (11, (2, 0, 0, [18])), (14, (0, 0, 24, [])), (16, (0, 0, 24, [])), (17, (0, 1, 1, [])), (18, (0, 1, 25, []))] : List (Nat × tv_T)), tv_ok ta q.2 (n_v vs q.1) := hk
  obtain ⟨t0, hk⟩ := List.forall_mem_cons.mp hk
  have t0 : tv_ok ta (2, 0, 0, [0]) (n_v vs 0) := t0
  have r0 : ta (v_ad (n_v vs 0)) = some 0 := tv_rg t0
  obtain ⟨t1, hk⟩ := List.forall_mem_cons.mp hk
  have t1 : tv_ok ta (0, 0, 47, []) (n_v vs 1) := t1
  have k1 : 0 ≤ v_iv (n_v vs 1) ∧ v_iv (n_v vs 1) ≤ 47 := tv_rng t1
  obtain ⟨t4, hk⟩ := List.forall_mem_cons.mp hk
  have t4 : tv_ok ta (0, 0, 23, []) (n_v vs 4) := t4
  have k4 : 0 ≤ v_iv (n_v vs 4) ∧ v_iv (n_v vs 4) ≤ 23 := tv_rng t4
  obtain ⟨t5, hk⟩ := List.forall_mem_cons.mp hk
  have t5 : tv_ok ta (2, 0, 0, [17]) (n_v vs 5) := t5
  have r5 : ta (v_ad (n_v vs 5)) = some 17 := tv_rg t5
  obtain ⟨t8, hk⟩ := List.forall_mem_cons.mp hk
  have t8 : tv_ok ta (2, 0, 0, [16]) (n_v vs 8) := t8
  have r8 : ta (v_ad (n_v vs 8)) = some 16 := tv_rg t8
  obtain ⟨t9, hk⟩ := List.forall_mem_cons.mp hk
  have t9 : tv_ok ta (0, 0, 24, []) (n_v vs 9) := t9
  have k9 : 0 ≤ v_iv (n_v vs 9) ∧ v_iv (n_v vs 9) ≤ 24 := tv_rng t9
  obtain ⟨t11, hk⟩ := List.forall_mem_cons.mp hk
  have t11 : tv_ok ta (2, 0, 0, [18]) (n_v vs 11) := t11
  have r11 : ta (v_ad (n_v vs 11)) = some 18 := tv_rg t11
  obtain ⟨t14, hk⟩ := List.forall_mem_cons.mp hk
  have t14 : tv_ok ta (0, 0, 24, []) (n_v vs 14) := t14
  have k14 : 0 ≤ v_iv (n_v vs 14) ∧ v_iv (n_v vs 14) ≤ 24 := tv_rng t14
  obtain ⟨t16, hk⟩ := List.forall_mem_cons.mp hk
  have t16 : tv_ok ta (0, 0, 24, []) (n_v vs 16) := t16
  have k16 : 0 ≤ v_iv (n_v vs 16) ∧ v_iv (n_v vs 16) ≤ 24 := tv_rng t16
  obtain ⟨t17, hk⟩ := List.forall_mem_cons.mp hk
  have t17 : tv_ok ta (0, 1, 1, []) (n_v vs 17) := t17
  have k17 : 1 ≤ v_iv (n_v vs 17) ∧ v_iv (n_v vs 17) ≤ 1 := tv_rng t17
  obtain ⟨t18, hk⟩ := List.forall_mem_cons.mp hk
  have t18 : tv_ok ta (0, 1, 25, []) (n_v vs 18) := t18
  have k18 : 1 ≤ v_iv (n_v vs 18) ∧ v_iv (n_v vs 18) ≤ 25 := tv_rng t18
  have hds : ∀ q ∈ ([(18, 16, 1, 1)] : List of_T), n_iv vs q.2.1 + q.2.2.1 ≤ n_iv vs q.1 ∧ n_iv vs q.1 ≤ n_iv vs q.2.1 + q.2.2.2 := hds
  obtain ⟨d0, hds⟩ := List.forall_mem_cons.mp hds
  have d0 : v_iv (n_v vs 16) + 1 ≤ v_iv (n_v vs 18) ∧ v_iv (n_v vs 18) ≤ v_iv (n_v vs 16) + 1 := d0
  have hf : fc_ok [(1, [18, 16, 17], []), (10, [16, 8, 1], []), (9, [8, 0], [4]), (20, [0, 1, 4], [30, 0, 1, 2, 4, -1, 0, 0]), (100, [11, 15, 3], []), (10, [14, 8, 1], []), (9, [11, 0], [6]), (20, [0, 1, 4], [30, 0, 1, 2, 4, -1, 0, 0]), (100, [5, 10, 2], []), (10, [9, 8, 1], []), (9, [5, 0], [5]), (20, [0, 1, 4], [30, 0, 1, 2, 4, -1, 0, 0])] ta ws vs := hf
  obtain ⟨f0, hf⟩ := fc_un (show (1 : Nat) < 100 from by decide) hf
  have f0 : v_iv (n_v vs 18) = v_iv (n_v vs 16) + v_iv (n_v vs 17) := f0
  obtain ⟨f1, hf⟩ := fc_un (show (10 : Nat) < 100 from by decide) hf
  have f1 : v_iv (n_v vs 16) = w_el ws (v_ad (n_v vs 8)) (v_iv (n_v vs 1)).toNat := f1
  obtain ⟨f2, hf⟩ := fc_un (show (9 : Nat) < 100 from by decide) hf
  have f2 : n_v vs 8 = w_fd ws (v_ad (n_v vs 0)) 4 := f2
  obtain ⟨f3, hf⟩ := fc_un (show (20 : Nat) < 100 from by decide) hf
  have f3 : 1 * w_el ws (w_ar ws (n_v vs 0) 4) (v_iv (n_v vs 1)).toNat + ((-1) * v_iv (n_v vs 4) + 0) ≤ 0 := f3
  obtain ⟨ta1, w1, le1, ⟨_, s1⟩, hf⟩ := fc_us (show ¬ (100 : Nat) < 100 from by decide) hf
  have s1 : (∀ b j, w_el ws b j = if b = v_ad (n_v vs 11) ∧ j = (v_iv (n_v vs 15)).toNat then v_iv (n_v vs 3) else w_el w1 b j) ∧ ∀ b k, w_fd ws b k = w_fd w1 b k := s1
  obtain ⟨f5, hf⟩ := fc_un (show (10 : Nat) < 100 from by decide) hf
  have f5 : v_iv (n_v vs 14) = w_el w1 (v_ad (n_v vs 8)) (v_iv (n_v vs 1)).toNat := f5
  obtain ⟨f6, hf⟩ := fc_un (show (9 : Nat) < 100 from by decide) hf
  have f6 : n_v vs 11 = w_fd w1 (v_ad (n_v vs 0)) 6 := f6
  obtain ⟨f7, hf⟩ := fc_un (show (20 : Nat) < 100 from by decide) hf
  have f7 : 1 * w_el w1 (w_ar w1 (n_v vs 0) 4) (v_iv (n_v vs 1)).toNat + ((-1) * v_iv (n_v vs 4) + 0) ≤ 0 := f7
  obtain ⟨ta2, w2, le2, ⟨_, s2⟩, hf⟩ := fc_us (show ¬ (100 : Nat) < 100 from by decide) hf
  have s2 : (∀ b j, w_el w1 b j = if b = v_ad (n_v vs 5) ∧ j = (v_iv (n_v vs 10)).toNat then v_iv (n_v vs 2) else w_el w2 b j) ∧ ∀ b k, w_fd w1 b k = w_fd w2 b k := s2
  obtain ⟨f9, hf⟩ := fc_un (show (10 : Nat) < 100 from by decide) hf
  have f9 : v_iv (n_v vs 9) = w_el w2 (v_ad (n_v vs 8)) (v_iv (n_v vs 1)).toNat := f9
  obtain ⟨f10, hf⟩ := fc_un (show (9 : Nat) < 100 from by decide) hf
  have f10 : n_v vs 5 = w_fd w2 (v_ad (n_v vs 0)) 5 := f10
  obtain ⟨f11, hf⟩ := fc_un (show (20 : Nat) < 100 from by decide) hf
  have f11 : 1 * w_el w2 (w_ar w2 (n_v vs 0) 4) (v_iv (n_v vs 1)).toNat + ((-1) * v_iv (n_v vs 4) + 0) ≤ 0 := f11
  have ar_0_4_1 : w_ar w1 (n_v vs 0) 4 = w_ar ws (n_v vs 0) 4 := by show v_ad (w_fd w1 _ _) = v_ad (w_fd ws _ _); rw [s1.2]
  have ar_0_4_2 : w_ar w2 (n_v vs 0) 4 = w_ar ws (n_v vs 0) 4 := by rw [← ar_0_4_1]; show v_ad (w_fd w2 _ _) = v_ad (w_fd w1 _ _); rw [s2.2]
  have cr_0_4 : ta (w_ar ws (n_v vs 0) 4) = some 16 := tv_rg (th_fd hD hth r0 (g := GG_0) rfl (k := 4) (t := (2, 0, 0, [16])) rfl rfl)
  have ar_0_5_1 : w_ar w1 (n_v vs 0) 5 = w_ar ws (n_v vs 0) 5 := by show v_ad (w_fd w1 _ _) = v_ad (w_fd ws _ _); rw [s1.2]
  have ar_0_5_2 : w_ar w2 (n_v vs 0) 5 = w_ar ws (n_v vs 0) 5 := by rw [← ar_0_5_1]; show v_ad (w_fd w2 _ _) = v_ad (w_fd w1 _ _); rw [s2.2]
  have cr_0_5 : ta (w_ar ws (n_v vs 0) 5) = some 17 := tv_rg (th_fd hD hth r0 (g := GG_0) rfl (k := 5) (t := (2, 0, 0, [17])) rfl rfl)
  have ar_0_6_1 : w_ar w1 (n_v vs 0) 6 = w_ar ws (n_v vs 0) 6 := by show v_ad (w_fd w1 _ _) = v_ad (w_fd ws _ _); rw [s1.2]
  have ar_0_6_2 : w_ar w2 (n_v vs 0) 6 = w_ar ws (n_v vs 0) 6 := by rw [← ar_0_6_1]; show v_ad (w_fd w2 _ _) = v_ad (w_fd w1 _ _); rw [s2.2]
  have cr_0_6 : ta (w_ar ws (n_v vs 0) 6) = some 18 := tv_rg (th_fd hD hth r0 (g := GG_0) rfl (k := 6) (t := (2, 0, 0, [18])) rfl rfl)
  have ad_8 : v_ad (n_v vs 8) = w_ar ws (n_v vs 0) 4 := congrArg v_ad f2
  have ad_11 : v_ad (n_v vs 11) = w_ar ws (n_v vs 0) 6 := (congrArg v_ad f6).trans ar_0_6_1
  have ad_5 : v_ad (n_v vs 5) = w_ar ws (n_v vs 0) 5 := (congrArg v_ad f10).trans ar_0_5_2
  rw [ad_8] at f1
  rw [ad_8] at f5
  rw [ar_0_4_1] at f7
  rw [ad_8] at f9
  rw [ar_0_4_2] at f11
  have ee_0_4_1_1 : w_el ws (w_ar ws (n_v vs 0) 4) (v_iv (n_v vs 1)).toNat = w_el w1 (w_ar ws (n_v vs 0) 4) (v_iv (n_v vs 1)).toNat := by rw [s1.1, if_neg (fun e => by have e1 := e.1; rw [← e1] at r11; rw [cr_0_4] at r11; exact absurd (Option.some.inj r11) (by decide))]
  have ee_0_4_1_2 : w_el w1 (w_ar ws (n_v vs 0) 4) (v_iv (n_v vs 1)).toNat = w_el w2 (w_ar ws (n_v vs 0) 4) (v_iv (n_v vs 1)).toNat := by rw [s2.1, if_neg (fun e => by have e1 := e.1; rw [← e1] at r5; rw [cr_0_4] at r5; exact absurd (Option.some.inj r5) (by decide))]
  have rf18 : tv_ok ta (0, 1, 24, []) (n_v vs 18) := tv_in t18 (by omega) (by omega)
  refine ⟨List.forall_mem_cons.mpr ⟨rf18, (fun _ h => (by cases h))⟩, [], trivial, ?_, (fun _ h => (by cases h))⟩
  rw [List.append_nil]
  exact (fun _ h => (by cases h))
def o_Dr_addBend_3 : or_T := (44, 19, [(0, (2, 0, 0, [0])), (1, (0, 0, 47, [])), (4, (0, 0, 23, [])), (5, (2, 0, 0, [17])), (8, (2, 0, 0, [16])), (9, (0, 0, 24, [])), (11, (2, 0, 0, [18])), (14, (0, 0, 24, [])), (16, (0, 0, 24, [])), (17, (0, 1, 1, [])), (18, (0, 1, 24, []))], [(100, [8, 1, 18], []), (1, [18, 16, 17], []), (10, [16, 8, 1], []), (9, [8, 0], [4]), (20, [0, 1, 4], [30, 0, 1, 2, 4, -1, 0, 0]), (100, [11, 15, 3], []), (10, [14, 8, 1], []), (9, [11, 0], [6]), (20, [0, 1, 4], [30, 0, 1, 2, 4, -1, 0, 0]), (100, [5, 10, 2], []), (10, [9, 8, 1], []), (9, [5, 0], [5]), (20, [0, 1, 4], [30, 0, 1, 2, 4, -1, 0, 0])], [], [], [(20, [0, 1, 4], [30, 1, 1, 2, 4, -1, 0, 0])], [], [(18, 16, 1, 1)])
theorem oo_Dr_addBend_3 {kA : Nat → ClassId} : or_ok kA GG o_Dr_addBend_3 := by
  intro A ta ws vs hD hth hl hk hds hf
  have hl : vs.length = 19 := hl
  have hk : ∀ q ∈ ([(0, (2, 0, 0, [0])), (1, (0, 0, 47, [])), (4, (0, 0, 23, [])), (5, (2, 0, 0, [17])), (8, (2, 0, 0, [16])), (9, (0, 0, 24, [])), (11, (2, 0, 0, [18])), (14, (0, 0, 24, [])), (16, (0, 0, 24, [])), (17, (0, 1, 1, [])), (18, (0, 1, 24, []))] : List (Nat × tv_T)), tv_ok ta q.2 (n_v vs q.1) := hk
  obtain ⟨t0, hk⟩ := List.forall_mem_cons.mp hk
  have t0 : tv_ok ta (2, 0, 0, [0]) (n_v vs 0) := t0
  have r0 : ta (v_ad (n_v vs 0)) = some 0 := tv_rg t0
  obtain ⟨t1, hk⟩ := List.forall_mem_cons.mp hk
  have t1 : tv_ok ta (0, 0, 47, []) (n_v vs 1) := t1
  have k1 : 0 ≤ v_iv (n_v vs 1) ∧ v_iv (n_v vs 1) ≤ 47 := tv_rng t1
  obtain ⟨t4, hk⟩ := List.forall_mem_cons.mp hk
  have t4 : tv_ok ta (0, 0, 23, []) (n_v vs 4) := t4
  have k4 : 0 ≤ v_iv (n_v vs 4) ∧ v_iv (n_v vs 4) ≤ 23 := tv_rng t4
  obtain ⟨t5, hk⟩ := List.forall_mem_cons.mp hk
  have t5 : tv_ok ta (2, 0, 0, [17]) (n_v vs 5) := t5
  have r5 : ta (v_ad (n_v vs 5)) = some 17 := tv_rg t5
  obtain ⟨t8, hk⟩ := List.forall_mem_cons.mp hk
  have t8 : tv_ok ta (2, 0, 0, [16]) (n_v vs 8) := t8
  have r8 : ta (v_ad (n_v vs 8)) = some 16 := tv_rg t8
  obtain ⟨t9, hk⟩ := List.forall_mem_cons.mp hk
  have t9 : tv_ok ta (0, 0, 24, []) (n_v vs 9) := t9
  have k9 : 0 ≤ v_iv (n_v vs 9) ∧ v_iv (n_v vs 9) ≤ 24 := tv_rng t9
  obtain ⟨t11, hk⟩ := List.forall_mem_cons.mp hk
  have t11 : tv_ok ta (2, 0, 0, [18]) (n_v vs 11) := t11
  have r11 : ta (v_ad (n_v vs 11)) = some 18 := tv_rg t11
  obtain ⟨t14, hk⟩ := List.forall_mem_cons.mp hk
  have t14 : tv_ok ta (0, 0, 24, []) (n_v vs 14) := t14
  have k14 : 0 ≤ v_iv (n_v vs 14) ∧ v_iv (n_v vs 14) ≤ 24 := tv_rng t14
  obtain ⟨t16, hk⟩ := List.forall_mem_cons.mp hk
  have t16 : tv_ok ta (0, 0, 24, []) (n_v vs 16) := t16
  have k16 : 0 ≤ v_iv (n_v vs 16) ∧ v_iv (n_v vs 16) ≤ 24 := tv_rng t16
  obtain ⟨t17, hk⟩ := List.forall_mem_cons.mp hk
  have t17 : tv_ok ta (0, 1, 1, []) (n_v vs 17) := t17
  have k17 : 1 ≤ v_iv (n_v vs 17) ∧ v_iv (n_v vs 17) ≤ 1 := tv_rng t17
  obtain ⟨t18, hk⟩ := List.forall_mem_cons.mp hk
  have t18 : tv_ok ta (0, 1, 24, []) (n_v vs 18) := t18
  have k18 : 1 ≤ v_iv (n_v vs 18) ∧ v_iv (n_v vs 18) ≤ 24 := tv_rng t18
  have hds : ∀ q ∈ ([(18, 16, 1, 1)] : List of_T), n_iv vs q.2.1 + q.2.2.1 ≤ n_iv vs q.1 ∧ n_iv vs q.1 ≤ n_iv vs q.2.1 + q.2.2.2 := hds
  obtain ⟨d0, hds⟩ := List.forall_mem_cons.mp hds
  have d0 : v_iv (n_v vs 16) + 1 ≤ v_iv (n_v vs 18) ∧ v_iv (n_v vs 18) ≤ v_iv (n_v vs 16) + 1 := d0
  have hf : fc_ok [(100, [8, 1, 18], []), (1, [18, 16, 17], []), (10, [16, 8, 1], []), (9, [8, 0], [4]), (20, [0, 1, 4], [30, 0, 1, 2, 4, -1, 0, 0]), (100, [11, 15, 3], []), (10, [14, 8, 1], []), (9, [11, 0], [6]), (20, [0, 1, 4], [30, 0, 1, 2, 4, -1, 0, 0]), (100, [5, 10, 2], []), (10, [9, 8, 1], []), (9, [5, 0], [5]), (20, [0, 1, 4], [30, 0, 1, 2, 4, -1, 0, 0])] ta ws vs := hf
  obtain ⟨ta1, w1, le1, ⟨_, s1⟩, hf⟩ := fc_us (show ¬ (100 : Nat) < 100 from by decide) hf
  have s1 : (∀ b j, w_el ws b j = if b = v_ad (n_v vs 8) ∧ j = (v_iv (n_v vs 1)).toNat then v_iv (n_v vs 18) else w_el w1 b j) ∧ ∀ b k, w_fd ws b k = w_fd w1 b k := s1
  obtain ⟨f1, hf⟩ := fc_un (show (1 : Nat) < 100 from by decide) hf
  have f1 : v_iv (n_v vs 18) = v_iv (n_v vs 16) + v_iv (n_v vs 17) := f1
  obtain ⟨f2, hf⟩ := fc_un (show (10 : Nat) < 100 from by decide) hf
  have f2 : v_iv (n_v vs 16) = w_el w1 (v_ad (n_v vs 8)) (v_iv (n_v vs 1)).toNat := f2
  obtain ⟨f3, hf⟩ := fc_un (show (9 : Nat) < 100 from by decide) hf
  have f3 : n_v vs 8 = w_fd w1 (v_ad (n_v vs 0)) 4 := f3
  obtain ⟨f4, hf⟩ := fc_un (show (20 : Nat) < 100 from by decide) hf
  have f4 : 1 * w_el w1 (w_ar w1 (n_v vs 0) 4) (v_iv (n_v vs 1)).toNat + ((-1) * v_iv (n_v vs 4) + 0) ≤ 0 := f4
  obtain ⟨ta2, w2, le2, ⟨_, s2⟩, hf⟩ := fc_us (show ¬ (100 : Nat) < 100 from by decide) hf
  have s2 : (∀ b j, w_el w1 b j = if b = v_ad (n_v vs 11) ∧ j = (v_iv (n_v vs 15)).toNat then v_iv (n_v vs 3) else w_el w2 b j) ∧ ∀ b k, w_fd w1 b k = w_fd w2 b k := s2
  obtain ⟨f6, hf⟩ := fc_un (show (10 : Nat) < 100 from by decide) hf
  have f6 : v_iv (n_v vs 14) = w_el w2 (v_ad (n_v vs 8)) (v_iv (n_v vs 1)).toNat := f6
  obtain ⟨f7, hf⟩ := fc_un (show (9 : Nat) < 100 from by decide) hf
  have f7 : n_v vs 11 = w_fd w2 (v_ad (n_v vs 0)) 6 := f7
  obtain ⟨f8, hf⟩ := fc_un (show (20 : Nat) < 100 from by decide) hf
  have f8 : 1 * w_el w2 (w_ar w2 (n_v vs 0) 4) (v_iv (n_v vs 1)).toNat + ((-1) * v_iv (n_v vs 4) + 0) ≤ 0 := f8
  obtain ⟨ta3, w3, le3, ⟨_, s3⟩, hf⟩ := fc_us (show ¬ (100 : Nat) < 100 from by decide) hf
  have s3 : (∀ b j, w_el w2 b j = if b = v_ad (n_v vs 5) ∧ j = (v_iv (n_v vs 10)).toNat then v_iv (n_v vs 2) else w_el w3 b j) ∧ ∀ b k, w_fd w2 b k = w_fd w3 b k := s3
  obtain ⟨f10, hf⟩ := fc_un (show (10 : Nat) < 100 from by decide) hf
  have f10 : v_iv (n_v vs 9) = w_el w3 (v_ad (n_v vs 8)) (v_iv (n_v vs 1)).toNat := f10
  obtain ⟨f11, hf⟩ := fc_un (show (9 : Nat) < 100 from by decide) hf
  have f11 : n_v vs 5 = w_fd w3 (v_ad (n_v vs 0)) 5 := f11
  obtain ⟨f12, hf⟩ := fc_un (show (20 : Nat) < 100 from by decide) hf
  have f12 : 1 * w_el w3 (w_ar w3 (n_v vs 0) 4) (v_iv (n_v vs 1)).toNat + ((-1) * v_iv (n_v vs 4) + 0) ≤ 0 := f12
  have ar_0_4_1 : w_ar w1 (n_v vs 0) 4 = w_ar ws (n_v vs 0) 4 := by show v_ad (w_fd w1 _ _) = v_ad (w_fd ws _ _); rw [s1.2]
  have ar_0_4_2 : w_ar w2 (n_v vs 0) 4 = w_ar ws (n_v vs 0) 4 := by rw [← ar_0_4_1]; show v_ad (w_fd w2 _ _) = v_ad (w_fd w1 _ _); rw [s2.2]
  have ar_0_4_3 : w_ar w3 (n_v vs 0) 4 = w_ar ws (n_v vs 0) 4 := by rw [← ar_0_4_2]; show v_ad (w_fd w3 _ _) = v_ad (w_fd w2 _ _); rw [s3.2]
  have cr_0_4 : ta (w_ar ws (n_v vs 0) 4) = some 16 := tv_rg (th_fd hD hth r0 (g := GG_0) rfl (k := 4) (t := (2, 0, 0, [16])) rfl rfl)
  have ar_0_5_1 : w_ar w1 (n_v vs 0) 5 = w_ar ws (n_v vs 0) 5 := by show v_ad (w_fd w1 _ _) = v_ad (w_fd ws _ _); rw [s1.2]
  have ar_0_5_2 : w_ar w2 (n_v vs 0) 5 = w_ar ws (n_v vs 0) 5 := by rw [← ar_0_5_1]; show v_ad (w_fd w2 _ _) = v_ad (w_fd w1 _ _); rw [s2.2]
  have ar_0_5_3 : w_ar w3 (n_v vs 0) 5 = w_ar ws (n_v vs 0) 5 := by rw [← ar_0_5_2]; show v_ad (w_fd w3 _ _) = v_ad (w_fd w2 _ _); rw [s3.2]
  have cr_0_5 : ta (w_ar ws (n_v vs 0) 5) = some 17 := tv_rg (th_fd hD hth r0 (g := GG_0) rfl (k := 5) (t := (2, 0, 0, [17])) rfl rfl)
  have ar_0_6_1 : w_ar w1 (n_v vs 0) 6 = w_ar ws (n_v vs 0) 6 := by show v_ad (w_fd w1 _ _) = v_ad (w_fd ws _ _); rw [s1.2]
  have ar_0_6_2 : w_ar w2 (n_v vs 0) 6 = w_ar ws (n_v vs 0) 6 := by rw [← ar_0_6_1]; show v_ad (w_fd w2 _ _) = v_ad (w_fd w1 _ _); rw [s2.2]
  have ar_0_6_3 : w_ar w3 (n_v vs 0) 6 = w_ar ws (n_v vs 0) 6 := by rw [← ar_0_6_2]; show v_ad (w_fd w3 _ _) = v_ad (w_fd w2 _ _); rw [s3.2]
  have cr_0_6 : ta (w_ar ws (n_v vs 0) 6) = some 18 := tv_rg (th_fd hD hth r0 (g := GG_0) rfl (k := 6) (t := (2, 0, 0, [18])) rfl rfl)
  have ad_8 : v_ad (n_v vs 8) = w_ar ws (n_v vs 0) 4 := (congrArg v_ad f3).trans ar_0_4_1
  have ad_11 : v_ad (n_v vs 11) = w_ar ws (n_v vs 0) 6 := (congrArg v_ad f7).trans ar_0_6_2
  have ad_5 : v_ad (n_v vs 5) = w_ar ws (n_v vs 0) 5 := (congrArg v_ad f11).trans ar_0_5_3
  rw [ad_8] at f2
  rw [ar_0_4_1] at f4
  rw [ad_8] at f6
  rw [ar_0_4_2] at f8
  rw [ad_8] at f10
  rw [ar_0_4_3] at f12
  have ee_0_4_1_1 : w_el ws (w_ar ws (n_v vs 0) 4) (v_iv (n_v vs 1)).toNat = v_iv (n_v vs 18) := by rw [s1.1, if_pos ⟨ad_8.symm, rfl⟩]
  have ee_0_4_1_2 : w_el w1 (w_ar ws (n_v vs 0) 4) (v_iv (n_v vs 1)).toNat = w_el w2 (w_ar ws (n_v vs 0) 4) (v_iv (n_v vs 1)).toNat := by rw [s2.1, if_neg (fun e => by have e1 := e.1; rw [← e1] at r11; rw [cr_0_4] at r11; exact absurd (Option.some.inj r11) (by decide))]
  have ee_0_4_1_3 : w_el w2 (w_ar ws (n_v vs 0) 4) (v_iv (n_v vs 1)).toNat = w_el w3 (w_ar ws (n_v vs 0) 4) (v_iv (n_v vs 1)).toNat := by rw [s3.1, if_neg (fun e => by have e1 := e.1; rw [← e1] at r5; rw [cr_0_4] at r5; exact absurd (Option.some.inj r5) (by decide))]
  have nf0 : fc_1 (20, [0, 1, 4], [30, 1, 1, 2, 4, -1, 0, 0]) ws (vs) := by
    refine ⟨fun n hn => ?_, ?_⟩
    · have hn : n ∈ [0, 1, 4] := hn
      rw [hl]
      simp only [List.mem_cons, List.not_mem_nil, or_false] at hn
      show n < 19; omega
    · show 1 * w_el ws (w_ar ws (n_v vs 0) 4) (v_iv (n_v vs 1)).toNat + ((-1) * v_iv (n_v vs 4) + 0) ≤ 1
      omega
  refine ⟨(fun _ h => (by cases h)), [], trivial, ?_, (fun _ h => (by cases h))⟩
  rw [List.append_nil]
  exact List.forall_mem_cons.mpr ⟨⟨show (20 : Nat) < 100 from by decide, nf0⟩, (fun _ h => (by cases h))⟩
def n_Dr_addBend_an : List an_T := []
def t_Dr_addBend_ct : ct_L := []
set_option maxRecDepth 100000 in
theorem c_Dr_addBend {l : Launch} {D : va_G} {kA : Nat → ClassId} : ct_ok l D kA GG y_Dr_addBend z_Dr_addBend e_Dr_addBend := chk_all_ok (FT := [(22, 0, 4), (25, 0, 5), (28, 0, 6)]) (PT := []) (CT := t_Dr_addBend_ct) (KT := []) (NT := []) (AN := n_Dr_addBend_an) (OT := [o_Dr_addBend_0, o_Dr_addBend_1, o_Dr_addBend_2, o_Dr_addBend_3]) 0 200 (List.forall_mem_cons.mpr ⟨oo_Dr_addBend_0, List.forall_mem_cons.mpr ⟨oo_Dr_addBend_1, List.forall_mem_cons.mpr ⟨oo_Dr_addBend_2, List.forall_mem_cons.mpr ⟨oo_Dr_addBend_3, List.forall_mem_nil _⟩⟩⟩⟩) (by decide +kernel) ⟨List.forall_mem_cons.mpr ⟨gf_Dr_22, List.forall_mem_cons.mpr ⟨gf_Dr_25, List.forall_mem_cons.mpr ⟨gf_Dr_28, List.forall_mem_nil _⟩⟩⟩, List.forall_mem_nil _, List.forall_mem_nil _, List.forall_mem_nil _, List.forall_mem_nil _, GG_pl⟩ (by decide +kernel)
def n_Dr_countBends_an : List an_T := [(4, [(0, (2, 0, 0, [0])), (1, (1, -9223372036854775808, 9223372036854775807, [])), (3, (0, 0, 48, []))], [], (0, 0), [(0, 0, 99996), (1, 2, 48), (0, 0, 100000)], [], [], [], 0, [], [])]
def t_Dr_countBends_ct : ct_L := []
set_option maxRecDepth 100000 in
theorem c_Dr_countBends {l : Launch} {D : va_G} {kA : Nat → ClassId} : ct_ok l D kA GG y_Dr_countBends z_Dr_countBends e_Dr_countBends := chk_all_ok (FT := [(22, 0, 4), (74, 0, 0), (151, 3, 1)]) (PT := []) (CT := t_Dr_countBends_ct) (KT := []) (NT := []) (AN := n_Dr_countBends_an) (OT := []) 3 200 (List.forall_mem_nil _) (by decide +kernel) ⟨List.forall_mem_cons.mpr ⟨gf_Dr_22, List.forall_mem_cons.mpr ⟨gf_Dr_74, List.forall_mem_cons.mpr ⟨gf_Dr_151, List.forall_mem_nil _⟩⟩⟩, List.forall_mem_nil _, List.forall_mem_nil _, List.forall_mem_nil _, List.forall_mem_nil _, GG_pl⟩ (by decide +kernel)
def n_Dr_pointX_an : List an_T := []
def t_Dr_pointX_ct : ct_L := []
set_option maxRecDepth 100000 in
theorem c_Dr_pointX {l : Launch} {D : va_G} {kA : Nat → ClassId} : ct_ok l D kA GG y_Dr_pointX z_Dr_pointX e_Dr_pointX := chk_all_ok (FT := [(15, 0, 2), (22, 0, 4), (25, 0, 5), (74, 0, 0), (106, 3, 7), (109, 3, 8)]) (PT := []) (CT := t_Dr_pointX_ct) (KT := []) (NT := []) (AN := n_Dr_pointX_an) (OT := []) 0 200 (List.forall_mem_nil _) (by decide +kernel) ⟨List.forall_mem_cons.mpr ⟨gf_Dr_15, List.forall_mem_cons.mpr ⟨gf_Dr_22, List.forall_mem_cons.mpr ⟨gf_Dr_25, List.forall_mem_cons.mpr ⟨gf_Dr_74, List.forall_mem_cons.mpr ⟨gf_Dr_106, List.forall_mem_cons.mpr ⟨gf_Dr_109, List.forall_mem_nil _⟩⟩⟩⟩⟩⟩, List.forall_mem_nil _, List.forall_mem_nil _, List.forall_mem_nil _, List.forall_mem_nil _, GG_pl⟩ (by decide +kernel)
def n_Dr_pointY_an : List an_T := []
def t_Dr_pointY_ct : ct_L := []
set_option maxRecDepth 100000 in
theorem c_Dr_pointY {l : Launch} {D : va_G} {kA : Nat → ClassId} : ct_ok l D kA GG y_Dr_pointY z_Dr_pointY e_Dr_pointY := chk_all_ok (FT := [(19, 0, 3), (22, 0, 4), (28, 0, 6), (74, 0, 0), (106, 3, 7), (109, 3, 8)]) (PT := []) (CT := t_Dr_pointY_ct) (KT := []) (NT := []) (AN := n_Dr_pointY_an) (OT := []) 0 200 (List.forall_mem_nil _) (by decide +kernel) ⟨List.forall_mem_cons.mpr ⟨gf_Dr_19, List.forall_mem_cons.mpr ⟨gf_Dr_22, List.forall_mem_cons.mpr ⟨gf_Dr_28, List.forall_mem_cons.mpr ⟨gf_Dr_74, List.forall_mem_cons.mpr ⟨gf_Dr_106, List.forall_mem_cons.mpr ⟨gf_Dr_109, List.forall_mem_nil _⟩⟩⟩⟩⟩⟩, List.forall_mem_nil _, List.forall_mem_nil _, List.forall_mem_nil _, List.forall_mem_nil _, GG_pl⟩ (by decide +kernel)
def n_Dr_sharedNode_an : List an_T := []
def t_Dr_sharedNode_ct : ct_L := []
set_option maxRecDepth 100000 in
theorem c_Dr_sharedNode {l : Launch} {D : va_G} {kA : Nat → ClassId} : ct_ok l D kA GG y_Dr_sharedNode z_Dr_sharedNode e_Dr_sharedNode := chk_all_ok (FT := [(74, 0, 0), (106, 3, 7), (109, 3, 8)]) (PT := []) (CT := t_Dr_sharedNode_ct) (KT := []) (NT := []) (AN := n_Dr_sharedNode_an) (OT := []) 0 208 (List.forall_mem_nil _) (by decide +kernel) ⟨List.forall_mem_cons.mpr ⟨gf_Dr_74, List.forall_mem_cons.mpr ⟨gf_Dr_106, List.forall_mem_cons.mpr ⟨gf_Dr_109, List.forall_mem_nil _⟩⟩⟩, List.forall_mem_nil _, List.forall_mem_nil _, List.forall_mem_nil _, List.forall_mem_nil _, GG_pl⟩ (by decide +kernel)
def n_Em_countFits_an : List an_T := [(4, [(0, (2, 0, 0, [1])), (1, (0, 0, 33554431, [])), (2, (0, -2147483648, 2147483647, [])), (3, (0, 0, 50, []))], [], (0, 0), [(0, 0, 99996), (1, 3, 50), (0, 0, 100000)], [], [], [], 0, [], [])]
def t_Em_countFits_ct : ct_L := []
set_option maxRecDepth 100000 in
theorem c_Em_countFits {l : Launch} {D : va_G} {kA : Nat → ClassId} : ct_ok l D kA GG y_Em_countFits z_Em_countFits e_Em_countFits := chk_all_ok (FT := [(39, 1, 7), (48, 1, 10)]) (PT := []) (CT := t_Em_countFits_ct) (KT := []) (NT := []) (AN := n_Em_countFits_an) (OT := []) 3 200 (List.forall_mem_nil _) (by decide +kernel) ⟨List.forall_mem_cons.mpr ⟨gf_Em_39, List.forall_mem_cons.mpr ⟨gf_Em_48, List.forall_mem_nil _⟩⟩, List.forall_mem_nil _, List.forall_mem_nil _, List.forall_mem_nil _, List.forall_mem_nil _, GG_pl⟩ (by decide +kernel)
def n_Em_firstFit_an : List an_T := [(2, [(0, (2, 0, 0, [1])), (1, (0, 0, 33554431, [])), (2, (0, 0, 50, []))], [], (0, 0), [(0, 0, 99998), (1, 2, 50), (0, 0, 100000)], [], [], [], 0, [], [])]
def t_Em_firstFit_ct : ct_L := []
set_option maxRecDepth 100000 in
theorem c_Em_firstFit {l : Launch} {D : va_G} {kA : Nat → ClassId} : ct_ok l D kA GG y_Em_firstFit z_Em_firstFit e_Em_firstFit := chk_all_ok (FT := [(39, 1, 7), (48, 1, 10)]) (PT := []) (CT := t_Em_firstFit_ct) (KT := []) (NT := []) (AN := n_Em_firstFit_an) (OT := []) 3 200 (List.forall_mem_nil _) (by decide +kernel) ⟨List.forall_mem_cons.mpr ⟨gf_Em_39, List.forall_mem_cons.mpr ⟨gf_Em_48, List.forall_mem_nil _⟩⟩, List.forall_mem_nil _, List.forall_mem_nil _, List.forall_mem_nil _, List.forall_mem_nil _, GG_pl⟩ (by decide +kernel)
def n_Em_indexIn_an : List an_T := [(2, [(0, (2, 0, 0, [1])), (1, (0, 0, 49, [])), (2, (0, 0, 24, [])), (3, (0, 0, 25, []))], [], (0, 0), [(0, 0, 99998), (1, 3, 25), (0, 0, 100000)], [], [], [], 0, [], [])]
def t_Em_indexIn_ct : ct_L := []
set_option maxRecDepth 100000 in
theorem c_Em_indexIn {l : Launch} {D : va_G} {kA : Nat → ClassId} : ct_ok l D kA GG y_Em_indexIn z_Em_indexIn e_Em_indexIn := chk_all_ok (FT := [(42, 1, 8), (45, 1, 9)]) (PT := []) (CT := t_Em_indexIn_ct) (KT := []) (NT := []) (AN := n_Em_indexIn_an) (OT := []) 3 200 (List.forall_mem_nil _) (by decide +kernel) ⟨List.forall_mem_cons.mpr ⟨gf_Em_42, List.forall_mem_cons.mpr ⟨gf_Em_45, List.forall_mem_nil _⟩⟩, List.forall_mem_nil _, List.forall_mem_nil _, List.forall_mem_nil _, List.forall_mem_nil _, GG_pl⟩ (by decide +kernel)
def n_Em_leastEdgeAt_an : List an_T := [(2, [(0, (2, 0, 0, [1])), (1, (0, 0, 24, [])), (2, (0, 0, 71, [])), (3, (0, 0, 72, []))], [], (0, 0), [(0, 0, 99998), (1, 3, 72), (0, 0, 100000)], [], [((0, 0), (2, 0, 0, [5, 149]))], [], 0, [], [])]
def t_Em_leastEdgeAt_ct : ct_L := []
set_option maxRecDepth 100000 in
theorem c_Em_leastEdgeAt {l : Launch} {D : va_G} {kA : Nat → ClassId} : ct_ok l D kA GG y_Em_leastEdgeAt z_Em_leastEdgeAt e_Em_leastEdgeAt := chk_all_ok (FT := [(9, 1, 0), (21, 1, 2), (133, 5, 6), (134, 5, 7), (135, 5, 8)]) (PT := []) (CT := t_Em_leastEdgeAt_ct) (KT := []) (NT := []) (AN := n_Em_leastEdgeAt_an) (OT := []) 3 200 (List.forall_mem_nil _) (by decide +kernel) ⟨List.forall_mem_cons.mpr ⟨gf_Em_9, List.forall_mem_cons.mpr ⟨gf_Em_21, List.forall_mem_cons.mpr ⟨gf_Em_133, List.forall_mem_cons.mpr ⟨gf_Em_134, List.forall_mem_cons.mpr ⟨gf_Em_135, List.forall_mem_nil _⟩⟩⟩⟩⟩, List.forall_mem_nil _, List.forall_mem_nil _, List.forall_mem_nil _, List.forall_mem_nil _, GG_pl⟩ (by decide +kernel)
def n_Fa_gather_an : List an_T := [(5, [(0, (2, 0, 0, [2])), (1, (0, 0, 24, [])), (2, (0, 0, 23, [])), (3, (0, 0, 24, [])), (4, (0, 0, 24, []))], [], (0, 0), [(0, 0, 99995), (1, 4, 24), (0, 0, 100000)], [(1, 2, -1000000000000, 24), (1, 3, -1000000000000, 24), (1, 4, -1000000000000, 24), (2, 1, -1000000000000, 23), (2, 3, -1000000000000, 23), (2, 4, -1000000000000, 23), (3, 1, -1000000000000, 0), (3, 4, -1000000000000, 0), (4, 1, -1000000000000, 0)], [], [], 0, [], [])]
def t_Fa_gather_ct : ct_L := []
set_option maxRecDepth 100000 in
theorem c_Fa_gather {l : Launch} {D : va_G} {kA : Nat → ClassId} : ct_ok l D kA GG y_Fa_gather z_Fa_gather e_Fa_gather := chk_all_ok (FT := [(48, 2, 11), (54, 2, 13)]) (PT := []) (CT := t_Fa_gather_ct) (KT := []) (NT := []) (AN := n_Fa_gather_an) (OT := []) 3 200 (List.forall_mem_nil _) (by decide +kernel) ⟨List.forall_mem_cons.mpr ⟨gf_Fa_48, List.forall_mem_cons.mpr ⟨gf_Fa_54, List.forall_mem_nil _⟩⟩, List.forall_mem_nil _, List.forall_mem_nil _, List.forall_mem_nil _, List.forall_mem_nil _, GG_pl⟩ (by decide +kernel)
def n_Fa_isBridge_an : List an_T := [(2, [(0, (2, 0, 0, [2])), (1, (0, 0, 47, [])), (2, (0, 0, 48, []))], [], (0, 0), [(0, 0, 99998), (1, 2, 48), (0, 0, 100000)], [], [], [], 0, [], [])]
def t_Fa_isBridge_ct : ct_L := []
set_option maxRecDepth 100000 in
theorem c_Fa_isBridge {l : Launch} {D : va_G} {kA : Nat → ClassId} : ct_ok l D kA GG y_Fa_isBridge z_Fa_isBridge e_Fa_isBridge := chk_all_ok (FT := [(29, 2, 5)]) (PT := []) (CT := t_Fa_isBridge_ct) (KT := []) (NT := []) (AN := n_Fa_isBridge_an) (OT := []) 3 200 (List.forall_mem_nil _) (by decide +kernel) ⟨List.forall_mem_cons.mpr ⟨gf_Fa_29, List.forall_mem_nil _⟩, List.forall_mem_nil _, List.forall_mem_nil _, List.forall_mem_nil _, List.forall_mem_nil _, GG_pl⟩ (by decide +kernel)
def n_Fa_nearOf_at_Grnear_an : List an_T := [(5, [(0, (2, 0, 0, [59])), (1, (0, 1, 24, [])), (2, (0, 0, 16777215, [])), (3, (0, 0, 16777215, [])), (4, (0, 0, 24, []))], [], (0, 0), [(0, 0, 99995), (1, 4, 24), (0, 0, 100000)], [], [], [], 0, [], [])]
def t_Fa_nearOf_at_Grnear_ct : ct_L := []
set_option maxRecDepth 100000 in
theorem c_Fa_nearOf_at_Grnear {l : Launch} {D : va_G} {kA : Nat → ClassId} : ct_ok l D kA GG y_Fa_nearOf_at_Grnear z_Fa_nearOf_at_Grnear e_Fa_nearOf_at_Grnear := chk_all_ok (FT := []) (PT := []) (CT := t_Fa_nearOf_at_Grnear_ct) (KT := []) (NT := []) (AN := n_Fa_nearOf_at_Grnear_an) (OT := []) 3 200 (List.forall_mem_nil _) (by decide +kernel) ⟨List.forall_mem_nil _, List.forall_mem_nil _, List.forall_mem_nil _, List.forall_mem_nil _, List.forall_mem_nil _, GG_pl⟩ (by decide +kernel)
def n_Fa_nearOf_at_Nenear_an : List an_T := [(5, [(0, (2, 0, 0, [82])), (1, (0, 1, 24, [])), (2, (0, 1, 16777215, [])), (3, (0, 0, 16777215, [])), (4, (0, 0, 24, []))], [], (0, 0), [(0, 0, 99995), (1, 4, 24), (0, 0, 100000)], [], [], [], 0, [], [])]
def t_Fa_nearOf_at_Nenear_ct : ct_L := []
set_option maxRecDepth 100000 in
theorem c_Fa_nearOf_at_Nenear {l : Launch} {D : va_G} {kA : Nat → ClassId} : ct_ok l D kA GG y_Fa_nearOf_at_Nenear z_Fa_nearOf_at_Nenear e_Fa_nearOf_at_Nenear := chk_all_ok (FT := []) (PT := []) (CT := t_Fa_nearOf_at_Nenear_ct) (KT := []) (NT := []) (AN := n_Fa_nearOf_at_Nenear_an) (OT := []) 3 200 (List.forall_mem_nil _) (by decide +kernel) ⟨List.forall_mem_nil _, List.forall_mem_nil _, List.forall_mem_nil _, List.forall_mem_nil _, List.forall_mem_nil _, GG_pl⟩ (by decide +kernel)
def n_Fa_nearOf_at_Nenear_Npnear_an : List an_T := [(5, [(0, (2, 0, 0, [82, 142])), (1, (0, 0, 25, [])), (2, (0, 0, 33554431, [])), (3, (0, 0, 33554431, [])), (4, (0, 0, 25, []))], [], (0, 0), [(0, 0, 99995), (1, 4, 25), (0, 0, 100000)], [], [], [], 0, [], [])]
def t_Fa_nearOf_at_Nenear_Npnear_ct : ct_L := []
set_option maxRecDepth 100000 in
theorem c_Fa_nearOf_at_Nenear_Npnear {l : Launch} {D : va_G} {kA : Nat → ClassId} : ct_ok l D kA GG y_Fa_nearOf_at_Nenear_Npnear z_Fa_nearOf_at_Nenear_Npnear e_Fa_nearOf_at_Nenear_Npnear := chk_all_ok (FT := []) (PT := []) (CT := t_Fa_nearOf_at_Nenear_Npnear_ct) (KT := []) (NT := []) (AN := n_Fa_nearOf_at_Nenear_Npnear_an) (OT := []) 3 200 (List.forall_mem_nil _) (by decide +kernel) ⟨List.forall_mem_nil _, List.forall_mem_nil _, List.forall_mem_nil _, List.forall_mem_nil _, List.forall_mem_nil _, GG_pl⟩ (by decide +kernel)
def n_Fa_relabel_at_Emblock_an : List an_T := [(3, [(0, (2, 0, 0, [26])), (1, (0, 1, 72, [])), (2, (0, 0, 71, [])), (3, (0, -1, 71, [])), (4, (0, 0, 72, []))], [], (0, 0), [(0, 0, 99997), (1, 4, 72), (0, 0, 100000)], [], [], [], 0, [], [])]
def t_Fa_relabel_at_Emblock_ct : ct_L := []
set_option maxRecDepth 100000 in
theorem c_Fa_relabel_at_Emblock {l : Launch} {D : va_G} {kA : Nat → ClassId} : ct_ok l D kA GG y_Fa_relabel_at_Emblock z_Fa_relabel_at_Emblock e_Fa_relabel_at_Emblock := chk_all_ok (FT := []) (PT := []) (CT := t_Fa_relabel_at_Emblock_ct) (KT := []) (NT := []) (AN := n_Fa_relabel_at_Emblock_an) (OT := []) 3 200 (List.forall_mem_nil _) (by decide +kernel) ⟨List.forall_mem_nil _, List.forall_mem_nil _, List.forall_mem_nil _, List.forall_mem_nil _, List.forall_mem_nil _, GG_pl⟩ (by decide +kernel)
def n_Fa_relabel_at_Fablock_an : List an_T := [(3, [(0, (2, 0, 0, [38])), (1, (0, 1, 48, [])), (2, (0, 0, 47, [])), (3, (0, -1, 47, [])), (4, (0, 0, 48, []))], [], (0, 0), [(0, 0, 99997), (1, 4, 48), (0, 0, 100000)], [], [], [], 0, [], [])]
def t_Fa_relabel_at_Fablock_ct : ct_L := []
set_option maxRecDepth 100000 in
theorem c_Fa_relabel_at_Fablock {l : Launch} {D : va_G} {kA : Nat → ClassId} : ct_ok l D kA GG y_Fa_relabel_at_Fablock z_Fa_relabel_at_Fablock e_Fa_relabel_at_Fablock := chk_all_ok (FT := []) (PT := []) (CT := t_Fa_relabel_at_Fablock_ct) (KT := []) (NT := []) (AN := n_Fa_relabel_at_Fablock_an) (OT := []) 3 200 (List.forall_mem_nil _) (by decide +kernel) ⟨List.forall_mem_nil _, List.forall_mem_nil _, List.forall_mem_nil _, List.forall_mem_nil _, List.forall_mem_nil _, GG_pl⟩ (by decide +kernel)
def n_Fa_setAll_an : List an_T := [(3, [(0, (2, 0, 0, [37])), (1, (0, 1, 24, [])), (2, (0, 0, 16777215, [])), (3, (0, 0, 23, [])), (4, (0, 0, 24, []))], [], (0, 0), [(0, 0, 99997), (1, 4, 24), (0, 0, 100000)], [], [], [], 0, [], [])]
def t_Fa_setAll_ct : ct_L := []
set_option maxRecDepth 100000 in
theorem c_Fa_setAll {l : Launch} {D : va_G} {kA : Nat → ClassId} : ct_ok l D kA GG y_Fa_setAll z_Fa_setAll e_Fa_setAll := chk_all_ok (FT := []) (PT := []) (CT := t_Fa_setAll_ct) (KT := []) (NT := []) (AN := n_Fa_setAll_an) (OT := []) 3 200 (List.forall_mem_nil _) (by decide +kernel) ⟨List.forall_mem_nil _, List.forall_mem_nil _, List.forall_mem_nil _, List.forall_mem_nil _, List.forall_mem_nil _, GG_pl⟩ (by decide +kernel)
def n_Fa_weights_an : List an_T := [(6, [(0, (2, 0, 0, [3])), (1, (0, 0, 23, [])), (2, (0, 0, 16777215, [])), (3, (0, 0, 1, [])), (4, (0, -2147483648, 2147483647, [])), (5, (0, 0, 48, []))], [], (0, 0), [(0, 0, 99994), (1, 5, 48), (0, 0, 100000)], [], [], [], 0, [], [])]
def t_Fa_weights_ct : ct_L := []
set_option maxRecDepth 100000 in
theorem c_Fa_weights {l : Launch} {D : va_G} {kA : Nat → ClassId} : ct_ok l D kA GG y_Fa_weights z_Fa_weights e_Fa_weights := chk_all_ok (FT := [(69, 3, 1), (72, 3, 7), (75, 3, 8), (169, 3, 9)]) (PT := []) (CT := t_Fa_weights_ct) (KT := []) (NT := []) (AN := n_Fa_weights_an) (OT := []) 3 328 (List.forall_mem_nil _) (by decide +kernel) ⟨List.forall_mem_cons.mpr ⟨gf_Fa_69, List.forall_mem_cons.mpr ⟨gf_Fa_72, List.forall_mem_cons.mpr ⟨gf_Fa_75, List.forall_mem_cons.mpr ⟨gf_Fa_169, List.forall_mem_nil _⟩⟩⟩⟩, List.forall_mem_nil _, List.forall_mem_nil _, List.forall_mem_nil _, List.forall_mem_nil _, GG_pl⟩ (by decide +kernel)
def n_Gr_edgeBetween_an : List an_T := []
def t_Gr_edgeBetween_ct : ct_L := []
set_option maxRecDepth 100000 in
theorem c_Gr_edgeBetween {l : Launch} {D : va_G} {kA : Nat → ClassId} : ct_ok l D kA GG y_Gr_edgeBetween z_Gr_edgeBetween e_Gr_edgeBetween := chk_all_ok (FT := [(59, 3, 15)]) (PT := []) (CT := t_Gr_edgeBetween_ct) (KT := []) (NT := []) (AN := n_Gr_edgeBetween_an) (OT := []) 0 200 (List.forall_mem_nil _) (by decide +kernel) ⟨List.forall_mem_cons.mpr ⟨gf_Gr_59, List.forall_mem_nil _⟩, List.forall_mem_nil _, List.forall_mem_nil _, List.forall_mem_nil _, List.forall_mem_nil _, GG_pl⟩ (by decide +kernel)
def n_Gr_fourLetters_an : List an_T := []
def t_Gr_fourLetters_ct : ct_L := []
set_option maxRecDepth 100000 in
theorem c_Gr_fourLetters {l : Launch} {D : va_G} {kA : Nat → ClassId} : ct_ok l D kA GG y_Gr_fourLetters z_Gr_fourLetters e_Gr_fourLetters := chk_all_ok (FT := [(21, 3, 3)]) (PT := []) (CT := t_Gr_fourLetters_ct) (KT := []) (NT := []) (AN := n_Gr_fourLetters_an) (OT := []) 0 200 (List.forall_mem_nil _) (by decide +kernel) ⟨List.forall_mem_cons.mpr ⟨gf_Gr_21, List.forall_mem_nil _⟩, List.forall_mem_nil _, List.forall_mem_nil _, List.forall_mem_nil _, List.forall_mem_nil _, GG_pl⟩ (by decide +kernel)
def n_Gr_half_an : List an_T := []
def t_Gr_half_ct : ct_L := []
set_option maxRecDepth 100000 in
theorem c_Gr_half {l : Launch} {D : va_G} {kA : Nat → ClassId} : ct_ok l D kA GG y_Gr_half z_Gr_half e_Gr_half := chk_all_ok (FT := [(25, 3, 4)]) (PT := []) (CT := t_Gr_half_ct) (KT := []) (NT := []) (AN := n_Gr_half_an) (OT := []) 0 200 (List.forall_mem_nil _) (by decide +kernel) ⟨List.forall_mem_cons.mpr ⟨gf_Gr_25, List.forall_mem_nil _⟩, List.forall_mem_nil _, List.forall_mem_nil _, List.forall_mem_nil _, List.forall_mem_nil _, GG_pl⟩ (by decide +kernel)
def o_Gr_hasLetters_at_Retape_0 : or_T := (31, 13, [(0, (2, 0, 0, [3])), (1, (0, 0, 23, [])), (3, (0, 0, 2000, [])), (4, (0, 0, 7, [])), (5, (2, 0, 0, [49])), (6, (0, 1, 8, [])), (12, (0, 0, 2007, []))], [(1, [12, 3, 4], []), (7, [4, 6], [2]), (10, [6, 5, 1], []), (9, [5, 0], [4]), (20, [0, 1, 3], [30, 2000, 1, 2, 4, 1, 0, 0])], [(12, (0, 0, 1999, []))], [], [], [], [(12, 4, 0, 2000), (12, 6, -4294967296, 1999), (12, 3, 0, 7), (12, 1, -4294967296, 2007), (12, 4, -4294967296, 2007), (4, 6, -4294967296, -1), (1, 3, -4294967296, 23), (1, 4, -4294967296, 23), (3, 1, -4294967296, 2000), (3, 4, -4294967296, 2000)])
theorem oo_Gr_hasLetters_at_Retape_0 {kA : Nat → ClassId} : or_ok kA GG o_Gr_hasLetters_at_Retape_0 := by
  intro A ta ws vs hD hth hl hk hds hf
  have hl : vs.length = 13 := hl
  have hk : ∀ q ∈ ([(0, (2, 0, 0, [3])), (1, (0, 0, 23, [])), (3, (0, 0, 2000, [])), (4, (0, 0, 7, [])), (5, (2, 0, 0, [49])), (6, (0, 1, 8, [])), (12, (0, 0, 2007, []))] : List (Nat × tv_T)), tv_ok ta q.2 (n_v vs q.1) := hk
  obtain ⟨t0, hk⟩ := List.forall_mem_cons.mp hk
  have t0 : tv_ok ta (2, 0, 0, [3]) (n_v vs 0) := t0
  have r0 : ta (v_ad (n_v vs 0)) = some 3 := tv_rg t0
  obtain ⟨t1, hk⟩ := List.forall_mem_cons.mp hk
  have t1 : tv_ok ta (0, 0, 23, []) (n_v vs 1) := t1
  have k1 : 0 ≤ v_iv (n_v vs 1) ∧ v_iv (n_v vs 1) ≤ 23 := tv_rng t1
  obtain ⟨t3, hk⟩ := List.forall_mem_cons.mp hk
  have t3 : tv_ok ta (0, 0, 2000, []) (n_v vs 3) := t3
  have k3 : 0 ≤ v_iv (n_v vs 3) ∧ v_iv (n_v vs 3) ≤ 2000 := tv_rng t3
  obtain ⟨t4, hk⟩ := List.forall_mem_cons.mp hk
  have t4 : tv_ok ta (0, 0, 7, []) (n_v vs 4) := t4
  have k4 : 0 ≤ v_iv (n_v vs 4) ∧ v_iv (n_v vs 4) ≤ 7 := tv_rng t4
  obtain ⟨t5, hk⟩ := List.forall_mem_cons.mp hk
  have t5 : tv_ok ta (2, 0, 0, [49]) (n_v vs 5) := t5
  have r5 : ta (v_ad (n_v vs 5)) = some 49 := tv_rg t5
  obtain ⟨t6, hk⟩ := List.forall_mem_cons.mp hk
  have t6 : tv_ok ta (0, 1, 8, []) (n_v vs 6) := t6
  have k6 : 1 ≤ v_iv (n_v vs 6) ∧ v_iv (n_v vs 6) ≤ 8 := tv_rng t6
  obtain ⟨t12, hk⟩ := List.forall_mem_cons.mp hk
  have t12 : tv_ok ta (0, 0, 2007, []) (n_v vs 12) := t12
  have k12 : 0 ≤ v_iv (n_v vs 12) ∧ v_iv (n_v vs 12) ≤ 2007 := tv_rng t12
  have hds : ∀ q ∈ ([(12, 4, 0, 2000), (12, 6, -4294967296, 1999), (12, 3, 0, 7), (12, 1, -4294967296, 2007), (12, 4, -4294967296, 2007), (4, 6, -4294967296, -1), (1, 3, -4294967296, 23), (1, 4, -4294967296, 23), (3, 1, -4294967296, 2000), (3, 4, -4294967296, 2000)] : List of_T), n_iv vs q.2.1 + q.2.2.1 ≤ n_iv vs q.1 ∧ n_iv vs q.1 ≤ n_iv vs q.2.1 + q.2.2.2 := hds
  obtain ⟨d0, hds⟩ := List.forall_mem_cons.mp hds
  have d0 : v_iv (n_v vs 4) + 0 ≤ v_iv (n_v vs 12) ∧ v_iv (n_v vs 12) ≤ v_iv (n_v vs 4) + 2000 := d0
  obtain ⟨d1, hds⟩ := List.forall_mem_cons.mp hds
  have d1 : v_iv (n_v vs 6) + (-4294967296) ≤ v_iv (n_v vs 12) ∧ v_iv (n_v vs 12) ≤ v_iv (n_v vs 6) + 1999 := d1
  obtain ⟨d2, hds⟩ := List.forall_mem_cons.mp hds
  have d2 : v_iv (n_v vs 3) + 0 ≤ v_iv (n_v vs 12) ∧ v_iv (n_v vs 12) ≤ v_iv (n_v vs 3) + 7 := d2
  obtain ⟨d3, hds⟩ := List.forall_mem_cons.mp hds
  have d3 : v_iv (n_v vs 1) + (-4294967296) ≤ v_iv (n_v vs 12) ∧ v_iv (n_v vs 12) ≤ v_iv (n_v vs 1) + 2007 := d3
  obtain ⟨d4, hds⟩ := List.forall_mem_cons.mp hds
  have d4 : v_iv (n_v vs 4) + (-4294967296) ≤ v_iv (n_v vs 12) ∧ v_iv (n_v vs 12) ≤ v_iv (n_v vs 4) + 2007 := d4
  obtain ⟨d5, hds⟩ := List.forall_mem_cons.mp hds
  have d5 : v_iv (n_v vs 6) + (-4294967296) ≤ v_iv (n_v vs 4) ∧ v_iv (n_v vs 4) ≤ v_iv (n_v vs 6) + (-1) := d5
  obtain ⟨d6, hds⟩ := List.forall_mem_cons.mp hds
  have d6 : v_iv (n_v vs 3) + (-4294967296) ≤ v_iv (n_v vs 1) ∧ v_iv (n_v vs 1) ≤ v_iv (n_v vs 3) + 23 := d6
  obtain ⟨d7, hds⟩ := List.forall_mem_cons.mp hds
  have d7 : v_iv (n_v vs 4) + (-4294967296) ≤ v_iv (n_v vs 1) ∧ v_iv (n_v vs 1) ≤ v_iv (n_v vs 4) + 23 := d7
  obtain ⟨d8, hds⟩ := List.forall_mem_cons.mp hds
  have d8 : v_iv (n_v vs 1) + (-4294967296) ≤ v_iv (n_v vs 3) ∧ v_iv (n_v vs 3) ≤ v_iv (n_v vs 1) + 2000 := d8
  obtain ⟨d9, hds⟩ := List.forall_mem_cons.mp hds
  have d9 : v_iv (n_v vs 4) + (-4294967296) ≤ v_iv (n_v vs 3) ∧ v_iv (n_v vs 3) ≤ v_iv (n_v vs 4) + 2000 := d9
  have hf : fc_ok [(1, [12, 3, 4], []), (7, [4, 6], [2]), (10, [6, 5, 1], []), (9, [5, 0], [4]), (20, [0, 1, 3], [30, 2000, 1, 2, 4, 1, 0, 0])] ta ws vs := hf
  obtain ⟨f0, hf⟩ := fc_un (show (1 : Nat) < 100 from by decide) hf
  have f0 : v_iv (n_v vs 12) = v_iv (n_v vs 3) + v_iv (n_v vs 4) := f0
  obtain ⟨f1, hf⟩ := fc_un (show (7 : Nat) < 100 from by decide) hf
  have f1 : v_iv (n_v vs 4) < v_iv (n_v vs 6) := f1
  obtain ⟨f2, hf⟩ := fc_un (show (10 : Nat) < 100 from by decide) hf
  have f2 : v_iv (n_v vs 6) = w_el ws (v_ad (n_v vs 5)) (v_iv (n_v vs 1)).toNat := f2
  obtain ⟨f3, hf⟩ := fc_un (show (9 : Nat) < 100 from by decide) hf
  have f3 : n_v vs 5 = w_fd ws (v_ad (n_v vs 0)) 4 := f3
  obtain ⟨f4, hf⟩ := fc_un (show (20 : Nat) < 100 from by decide) hf
  have f4 : 1 * w_el ws (w_ar ws (n_v vs 0) 4) (v_iv (n_v vs 1)).toNat + (1 * v_iv (n_v vs 3) + 0) ≤ 2000 := f4
  have cr_0_4 : ta (w_ar ws (n_v vs 0) 4) = some 49 := tv_rg (th_fd hD hth r0 (g := GG_3) rfl (k := 4) (t := (2, 0, 0, [49])) rfl rfl)
  have ad_5 : v_ad (n_v vs 5) = w_ar ws (n_v vs 0) 4 := congrArg v_ad f3
  rw [ad_5] at f2
  have rf12 : tv_ok ta (0, 0, 1999, []) (n_v vs 12) := tv_in t12 (by omega) (by omega)
  refine ⟨List.forall_mem_cons.mpr ⟨rf12, (fun _ h => (by cases h))⟩, [], trivial, ?_, (fun _ h => (by cases h))⟩
  rw [List.append_nil]
  exact (fun _ h => (by cases h))
def n_Gr_hasLetters_at_Retape_an : List an_T := [(3, [(0, (2, 0, 0, [3])), (1, (0, 0, 23, [])), (2, (2, 0, 0, [109])), (3, (0, 0, 2000, [])), (4, (0, 0, 8, []))], [], (0, 0), [(0, 0, 99997), (1, 4, 8), (0, 0, 100000)], [(1, 3, -1000000000000, 23), (1, 4, -1000000000000, 23), (3, 1, -1000000000000, 2000), (3, 4, -1000000000000, 2000)], [], [], 0, [], [(20, [0, 1, 3], [30, 2000, 1, 2, 4, 1, 0, 0])])]
def t_Gr_hasLetters_at_Retape_ct : ct_L := []
set_option maxRecDepth 100000 in
theorem c_Gr_hasLetters_at_Retape {l : Launch} {D : va_G} {kA : Nat → ClassId} : ct_ok l D kA GG y_Gr_hasLetters_at_Retape z_Gr_hasLetters_at_Retape e_Gr_hasLetters_at_Retape := chk_all_ok (FT := [(21, 3, 3), (25, 3, 4)]) (PT := []) (CT := t_Gr_hasLetters_at_Retape_ct) (KT := []) (NT := []) (AN := n_Gr_hasLetters_at_Retape_an) (OT := [o_Gr_hasLetters_at_Retape_0]) 3 200 (List.forall_mem_cons.mpr ⟨oo_Gr_hasLetters_at_Retape_0, List.forall_mem_nil _⟩) (by decide +kernel) ⟨List.forall_mem_cons.mpr ⟨gf_Gr_21, List.forall_mem_cons.mpr ⟨gf_Gr_25, List.forall_mem_nil _⟩⟩, List.forall_mem_nil _, List.forall_mem_nil _, List.forall_mem_nil _, List.forall_mem_nil _, GG_pl⟩ (by decide +kernel)
def o_Gr_hasLetters_at_newGrhasNextName1_0 : or_T := (31, 13, [(0, (2, 0, 0, [3])), (1, (0, 0, 23, [])), (3, (0, 0, 0, [])), (4, (0, 0, 7, [])), (5, (2, 0, 0, [49])), (6, (0, 1, 8, [])), (12, (0, 0, 7, []))], [(1, [12, 3, 4], []), (7, [4, 6], [2]), (10, [6, 5, 1], []), (9, [5, 0], [4]), (20, [0, 1, 3], [30, 3, 1, 2, 4, 1, 0, 0])], [(12, (0, 0, 2, []))], [], [], [], [(12, 4, 0, 0), (12, 6, -4294967296, -1), (4, 6, -4294967296, -1), (1, 3, -4294967296, 23), (1, 4, -4294967296, 23), (3, 1, -4294967296, 0), (3, 4, -4294967296, 0)])
theorem oo_Gr_hasLetters_at_newGrhasNextName1_0 {kA : Nat → ClassId} : or_ok kA GG o_Gr_hasLetters_at_newGrhasNextName1_0 := by
  intro A ta ws vs hD hth hl hk hds hf
  have hl : vs.length = 13 := hl
  have hk : ∀ q ∈ ([(0, (2, 0, 0, [3])), (1, (0, 0, 23, [])), (3, (0, 0, 0, [])), (4, (0, 0, 7, [])), (5, (2, 0, 0, [49])), (6, (0, 1, 8, [])), (12, (0, 0, 7, []))] : List (Nat × tv_T)), tv_ok ta q.2 (n_v vs q.1) := hk
  obtain ⟨t0, hk⟩ := List.forall_mem_cons.mp hk
  have t0 : tv_ok ta (2, 0, 0, [3]) (n_v vs 0) := t0
  have r0 : ta (v_ad (n_v vs 0)) = some 3 := tv_rg t0
  obtain ⟨t1, hk⟩ := List.forall_mem_cons.mp hk
  have t1 : tv_ok ta (0, 0, 23, []) (n_v vs 1) := t1
  have k1 : 0 ≤ v_iv (n_v vs 1) ∧ v_iv (n_v vs 1) ≤ 23 := tv_rng t1
  obtain ⟨t3, hk⟩ := List.forall_mem_cons.mp hk
  have t3 : tv_ok ta (0, 0, 0, []) (n_v vs 3) := t3
  have k3 : 0 ≤ v_iv (n_v vs 3) ∧ v_iv (n_v vs 3) ≤ 0 := tv_rng t3
  obtain ⟨t4, hk⟩ := List.forall_mem_cons.mp hk
  have t4 : tv_ok ta (0, 0, 7, []) (n_v vs 4) := t4
  have k4 : 0 ≤ v_iv (n_v vs 4) ∧ v_iv (n_v vs 4) ≤ 7 := tv_rng t4
  obtain ⟨t5, hk⟩ := List.forall_mem_cons.mp hk
  have t5 : tv_ok ta (2, 0, 0, [49]) (n_v vs 5) := t5
  have r5 : ta (v_ad (n_v vs 5)) = some 49 := tv_rg t5
  obtain ⟨t6, hk⟩ := List.forall_mem_cons.mp hk
  have t6 : tv_ok ta (0, 1, 8, []) (n_v vs 6) := t6
  have k6 : 1 ≤ v_iv (n_v vs 6) ∧ v_iv (n_v vs 6) ≤ 8 := tv_rng t6
  obtain ⟨t12, hk⟩ := List.forall_mem_cons.mp hk
  have t12 : tv_ok ta (0, 0, 7, []) (n_v vs 12) := t12
  have k12 : 0 ≤ v_iv (n_v vs 12) ∧ v_iv (n_v vs 12) ≤ 7 := tv_rng t12
  have hds : ∀ q ∈ ([(12, 4, 0, 0), (12, 6, -4294967296, -1), (4, 6, -4294967296, -1), (1, 3, -4294967296, 23), (1, 4, -4294967296, 23), (3, 1, -4294967296, 0), (3, 4, -4294967296, 0)] : List of_T), n_iv vs q.2.1 + q.2.2.1 ≤ n_iv vs q.1 ∧ n_iv vs q.1 ≤ n_iv vs q.2.1 + q.2.2.2 := hds
  obtain ⟨d0, hds⟩ := List.forall_mem_cons.mp hds
  have d0 : v_iv (n_v vs 4) + 0 ≤ v_iv (n_v vs 12) ∧ v_iv (n_v vs 12) ≤ v_iv (n_v vs 4) + 0 := d0
  obtain ⟨d1, hds⟩ := List.forall_mem_cons.mp hds
  have d1 : v_iv (n_v vs 6) + (-4294967296) ≤ v_iv (n_v vs 12) ∧ v_iv (n_v vs 12) ≤ v_iv (n_v vs 6) + (-1) := d1
  obtain ⟨d2, hds⟩ := List.forall_mem_cons.mp hds
  have d2 : v_iv (n_v vs 6) + (-4294967296) ≤ v_iv (n_v vs 4) ∧ v_iv (n_v vs 4) ≤ v_iv (n_v vs 6) + (-1) := d2
  obtain ⟨d3, hds⟩ := List.forall_mem_cons.mp hds
  have d3 : v_iv (n_v vs 3) + (-4294967296) ≤ v_iv (n_v vs 1) ∧ v_iv (n_v vs 1) ≤ v_iv (n_v vs 3) + 23 := d3
  obtain ⟨d4, hds⟩ := List.forall_mem_cons.mp hds
  have d4 : v_iv (n_v vs 4) + (-4294967296) ≤ v_iv (n_v vs 1) ∧ v_iv (n_v vs 1) ≤ v_iv (n_v vs 4) + 23 := d4
  obtain ⟨d5, hds⟩ := List.forall_mem_cons.mp hds
  have d5 : v_iv (n_v vs 1) + (-4294967296) ≤ v_iv (n_v vs 3) ∧ v_iv (n_v vs 3) ≤ v_iv (n_v vs 1) + 0 := d5
  obtain ⟨d6, hds⟩ := List.forall_mem_cons.mp hds
  have d6 : v_iv (n_v vs 4) + (-4294967296) ≤ v_iv (n_v vs 3) ∧ v_iv (n_v vs 3) ≤ v_iv (n_v vs 4) + 0 := d6
  have hf : fc_ok [(1, [12, 3, 4], []), (7, [4, 6], [2]), (10, [6, 5, 1], []), (9, [5, 0], [4]), (20, [0, 1, 3], [30, 3, 1, 2, 4, 1, 0, 0])] ta ws vs := hf
  obtain ⟨f0, hf⟩ := fc_un (show (1 : Nat) < 100 from by decide) hf
  have f0 : v_iv (n_v vs 12) = v_iv (n_v vs 3) + v_iv (n_v vs 4) := f0
  obtain ⟨f1, hf⟩ := fc_un (show (7 : Nat) < 100 from by decide) hf
  have f1 : v_iv (n_v vs 4) < v_iv (n_v vs 6) := f1
  obtain ⟨f2, hf⟩ := fc_un (show (10 : Nat) < 100 from by decide) hf
  have f2 : v_iv (n_v vs 6) = w_el ws (v_ad (n_v vs 5)) (v_iv (n_v vs 1)).toNat := f2
  obtain ⟨f3, hf⟩ := fc_un (show (9 : Nat) < 100 from by decide) hf
  have f3 : n_v vs 5 = w_fd ws (v_ad (n_v vs 0)) 4 := f3
  obtain ⟨f4, hf⟩ := fc_un (show (20 : Nat) < 100 from by decide) hf
  have f4 : 1 * w_el ws (w_ar ws (n_v vs 0) 4) (v_iv (n_v vs 1)).toNat + (1 * v_iv (n_v vs 3) + 0) ≤ 3 := f4
  have cr_0_4 : ta (w_ar ws (n_v vs 0) 4) = some 49 := tv_rg (th_fd hD hth r0 (g := GG_3) rfl (k := 4) (t := (2, 0, 0, [49])) rfl rfl)
  have ad_5 : v_ad (n_v vs 5) = w_ar ws (n_v vs 0) 4 := congrArg v_ad f3
  rw [ad_5] at f2
  have rf12 : tv_ok ta (0, 0, 2, []) (n_v vs 12) := tv_in t12 (by omega) (by omega)
  refine ⟨List.forall_mem_cons.mpr ⟨rf12, (fun _ h => (by cases h))⟩, [], trivial, ?_, (fun _ h => (by cases h))⟩
  rw [List.append_nil]
  exact (fun _ h => (by cases h))
def n_Gr_hasLetters_at_newGrhasNextName1_an : List an_T := [(3, [(0, (2, 0, 0, [3])), (1, (0, 0, 23, [])), (2, (2, 0, 0, [270])), (3, (0, 0, 0, [])), (4, (0, 0, 8, []))], [], (0, 0), [(0, 0, 99997), (1, 4, 8), (0, 0, 100000)], [(1, 3, -1000000000000, 23), (1, 4, -1000000000000, 23), (3, 1, -1000000000000, 0), (3, 4, -1000000000000, 0)], [], [], 0, [], [(20, [0, 1, 3], [30, 3, 1, 2, 4, 1, 0, 0])])]
def t_Gr_hasLetters_at_newGrhasNextName1_ct : ct_L := []
set_option maxRecDepth 100000 in
theorem c_Gr_hasLetters_at_newGrhasNextName1 {l : Launch} {D : va_G} {kA : Nat → ClassId} : ct_ok l D kA GG y_Gr_hasLetters_at_newGrhasNextName1 z_Gr_hasLetters_at_newGrhasNextName1 e_Gr_hasLetters_at_newGrhasNextName1 := chk_all_ok (FT := [(21, 3, 3), (25, 3, 4)]) (PT := []) (CT := t_Gr_hasLetters_at_newGrhasNextName1_ct) (KT := []) (NT := []) (AN := n_Gr_hasLetters_at_newGrhasNextName1_an) (OT := [o_Gr_hasLetters_at_newGrhasNextName1_0]) 3 200 (List.forall_mem_cons.mpr ⟨oo_Gr_hasLetters_at_newGrhasNextName1_0, List.forall_mem_nil _⟩) (by decide +kernel) ⟨List.forall_mem_cons.mpr ⟨gf_Gr_21, List.forall_mem_cons.mpr ⟨gf_Gr_25, List.forall_mem_nil _⟩⟩, List.forall_mem_nil _, List.forall_mem_nil _, List.forall_mem_nil _, List.forall_mem_nil _, GG_pl⟩ (by decide +kernel)
def n_Gr_nextName_an : List an_T := []
def t_Gr_nextName_ct : ct_L := []
set_option maxRecDepth 100000 in
theorem c_Gr_nextName {l : Launch} {D : va_G} {kA : Nat → ClassId} : ct_ok l D kA GG y_Gr_nextName z_Gr_nextName e_Gr_nextName := chk_all_ok (FT := [(9, 3, 0)]) (PT := []) (CT := t_Gr_nextName_ct) (KT := []) (NT := []) (AN := n_Gr_nextName_an) (OT := []) 0 200 (List.forall_mem_nil _) (by decide +kernel) ⟨List.forall_mem_cons.mpr ⟨gf_Gr_9, List.forall_mem_nil _⟩, List.forall_mem_nil _, List.forall_mem_nil _, List.forall_mem_nil _, List.forall_mem_nil _, GG_pl⟩ (by decide +kernel)
def n_Gr_setLetters_an : List an_T := []
def t_Gr_setLetters_ct : ct_L := []
set_option maxRecDepth 100000 in
theorem c_Gr_setLetters {l : Launch} {D : va_G} {kA : Nat → ClassId} : ct_ok l D kA GG y_Gr_setLetters z_Gr_setLetters e_Gr_setLetters := chk_all_ok (FT := [(21, 3, 3)]) (PT := []) (CT := t_Gr_setLetters_ct) (KT := []) (NT := []) (AN := n_Gr_setLetters_an) (OT := []) 0 200 (List.forall_mem_nil _) (by decide +kernel) ⟨List.forall_mem_cons.mpr ⟨gf_Gr_21, List.forall_mem_nil _⟩, List.forall_mem_nil _, List.forall_mem_nil _, List.forall_mem_nil _, List.forall_mem_nil _, GG_pl⟩ (by decide +kernel)
def n_Gr_sizeOfGroup_an : List an_T := [(4, [(0, (2, 0, 0, [3])), (1, (0, 0, 7, [])), (2, (0, -2147483648, 2147483647, [])), (3, (0, 0, 24, []))], [], (0, 0), [(0, 0, 99996), (1, 3, 24), (0, 0, 100000), (0, 0, 0), (0, 0, 0)], [], [], [], 0, [], []), (23, [(0, (2, 0, 0, [3])), (1, (0, 0, 7, [])), (2, (0, -2147483648, 2147483647, [])), (3, (0, 0, 23, [])), (4, (0, -1, 7, [])), (5, (0, 0, 8, []))], [], (0, 0), [(0, 0, 99996), (1, 3, 24), (0, 0, 99977), (1, 5, 8), (0, 0, 100000)], [], [], [], 0, [], [])]
def t_Gr_sizeOfGroup_ct : ct_L := []
set_option maxRecDepth 100000 in
theorem c_Gr_sizeOfGroup {l : Launch} {D : va_G} {kA : Nat → ClassId} : ct_ok l D kA GG y_Gr_sizeOfGroup z_Gr_sizeOfGroup e_Gr_sizeOfGroup := chk_all_ok (FT := [(9, 3, 0), (29, 3, 5), (32, 3, 6), (47, 3, 11)]) (PT := []) (CT := t_Gr_sizeOfGroup_ct) (KT := []) (NT := []) (AN := n_Gr_sizeOfGroup_an) (OT := []) 5 232 (List.forall_mem_nil _) (by decide +kernel) ⟨List.forall_mem_cons.mpr ⟨gf_Gr_9, List.forall_mem_cons.mpr ⟨gf_Gr_29, List.forall_mem_cons.mpr ⟨gf_Gr_32, List.forall_mem_cons.mpr ⟨gf_Gr_47, List.forall_mem_nil _⟩⟩⟩⟩, List.forall_mem_nil _, List.forall_mem_nil _, List.forall_mem_nil _, List.forall_mem_nil _, GG_pl⟩ (by decide +kernel)
def n_Gr_tie_an : List an_T := []
def t_Gr_tie_ct : ct_L := []
set_option maxRecDepth 100000 in
theorem c_Gr_tie {l : Launch} {D : va_G} {kA : Nat → ClassId} : ct_ok l D kA GG y_Gr_tie z_Gr_tie e_Gr_tie := chk_all_ok (FT := [(35, 3, 7), (38, 3, 8), (56, 3, 14), (59, 3, 15)]) (PT := []) (CT := t_Gr_tie_ct) (KT := []) (NT := []) (AN := n_Gr_tie_an) (OT := []) 0 252 (List.forall_mem_nil _) (by decide +kernel) ⟨List.forall_mem_cons.mpr ⟨gf_Gr_35, List.forall_mem_cons.mpr ⟨gf_Gr_38, List.forall_mem_cons.mpr ⟨gf_Gr_56, List.forall_mem_cons.mpr ⟨gf_Gr_59, List.forall_mem_nil _⟩⟩⟩⟩, List.forall_mem_nil _, List.forall_mem_nil _, List.forall_mem_nil _, List.forall_mem_nil _, GG_pl⟩ (by decide +kernel)
def n_La_countCrossings_an : List an_T := [(4, [(0, (2, 0, 0, [4])), (1, (0, -2147483648, 2147483647, [])), (2, (0, 0, 24, []))], [], (0, 0), [(0, 0, 99996), (1, 2, 24), (0, 0, 100000), (0, 0, 0), (0, 0, 0), (0, 0, 0), (0, 0, 0)], [], [], [], 0, [], []), (21, [(0, (2, 0, 0, [4])), (1, (0, -2147483648, 2147483647, [])), (2, (0, 0, 23, [])), (3, (0, 0, 120, []))], [], (0, 0), [(0, 0, 99996), (1, 2, 24), (0, 0, 99979), (1, 3, 120), (0, 0, 100000), (0, 0, 0), (0, 0, 0)], [], [], [], 0, [], []), (38, [(0, (2, 0, 0, [4])), (1, (0, -2147483648, 2147483647, [])), (2, (0, 0, 23, [])), (3, (0, 0, 119, [])), (4, (0, 1, 120, []))], [], (0, 0), [(0, 0, 99996), (1, 2, 24), (0, 0, 99979), (1, 3, 120), (0, 0, 99962), (1, 4, 120), (0, 0, 100000)], [], [], [], 0, [], [])]
def t_La_countCrossings_ct : ct_L := []
set_option maxRecDepth 100000 in
theorem c_La_countCrossings {l : Launch} {D : va_G} {kA : Nat → ClassId} : ct_ok l D kA GG y_La_countCrossings z_La_countCrossings e_La_countCrossings := chk_all_ok (FT := [(22, 4, 2), (36, 4, 6), (39, 4, 7), (45, 4, 9), (60, 4, 14)]) (PT := []) (CT := t_La_countCrossings_ct) (KT := []) (NT := []) (AN := n_La_countCrossings_an) (OT := []) 7 380 (List.forall_mem_nil _) (by decide +kernel) ⟨List.forall_mem_cons.mpr ⟨gf_La_22, List.forall_mem_cons.mpr ⟨gf_La_36, List.forall_mem_cons.mpr ⟨gf_La_39, List.forall_mem_cons.mpr ⟨gf_La_45, List.forall_mem_cons.mpr ⟨gf_La_60, List.forall_mem_nil _⟩⟩⟩⟩⟩, List.forall_mem_nil _, List.forall_mem_nil _, List.forall_mem_nil _, List.forall_mem_nil _, GG_pl⟩ (by decide +kernel)
def n_La_lowerEnd_an : List an_T := []
def t_La_lowerEnd_ct : ct_L := []
set_option maxRecDepth 100000 in
theorem c_La_lowerEnd {l : Launch} {D : va_G} {kA : Nat → ClassId} : ct_ok l D kA GG y_La_lowerEnd z_La_lowerEnd e_La_lowerEnd := chk_all_ok (FT := [(18, 4, 1), (125, 2, 9), (131, 3, 8), (136, 3, 7)]) (PT := []) (CT := t_La_lowerEnd_ct) (KT := []) (NT := []) (AN := n_La_lowerEnd_an) (OT := []) 0 200 (List.forall_mem_nil _) (by decide +kernel) ⟨List.forall_mem_cons.mpr ⟨gf_La_18, List.forall_mem_cons.mpr ⟨gf_La_125, List.forall_mem_cons.mpr ⟨gf_La_131, List.forall_mem_cons.mpr ⟨gf_La_136, List.forall_mem_nil _⟩⟩⟩⟩, List.forall_mem_nil _, List.forall_mem_nil _, List.forall_mem_nil _, List.forall_mem_nil _, GG_pl⟩ (by decide +kernel)
def o_La_setPlaces_0 : or_T := (7, 4, [(0, (2, 0, 0, [4])), (1, (0, 0, 24, [])), (2, (2, 0, 0, [68])), (3, (0, 0, 72, []))], [(10, [3, 2, 1], []), (9, [2, 0], [10])], [], [], [(20, [0, 1, 3], [30, 0, 1, 2, 10, -1, 0, 0])], [], [])
theorem oo_La_setPlaces_0 {kA : Nat → ClassId} : or_ok kA GG o_La_setPlaces_0 := by
  intro A ta ws vs hD hth hl hk hds hf
  have hl : vs.length = 4 := hl
  have hk : ∀ q ∈ ([(0, (2, 0, 0, [4])), (1, (0, 0, 24, [])), (2, (2, 0, 0, [68])), (3, (0, 0, 72, []))] : List (Nat × tv_T)), tv_ok ta q.2 (n_v vs q.1) := hk
  obtain ⟨t0, hk⟩ := List.forall_mem_cons.mp hk
  have t0 : tv_ok ta (2, 0, 0, [4]) (n_v vs 0) := t0
  have r0 : ta (v_ad (n_v vs 0)) = some 4 := tv_rg t0
  obtain ⟨t1, hk⟩ := List.forall_mem_cons.mp hk
  have t1 : tv_ok ta (0, 0, 24, []) (n_v vs 1) := t1
  have k1 : 0 ≤ v_iv (n_v vs 1) ∧ v_iv (n_v vs 1) ≤ 24 := tv_rng t1
  obtain ⟨t2, hk⟩ := List.forall_mem_cons.mp hk
  have t2 : tv_ok ta (2, 0, 0, [68]) (n_v vs 2) := t2
  have r2 : ta (v_ad (n_v vs 2)) = some 68 := tv_rg t2
  obtain ⟨t3, hk⟩ := List.forall_mem_cons.mp hk
  have t3 : tv_ok ta (0, 0, 72, []) (n_v vs 3) := t3
  have k3 : 0 ≤ v_iv (n_v vs 3) ∧ v_iv (n_v vs 3) ≤ 72 := tv_rng t3
  have hf : fc_ok [(10, [3, 2, 1], []), (9, [2, 0], [10])] ta ws vs := hf
  obtain ⟨f0, hf⟩ := fc_un (show (10 : Nat) < 100 from by decide) hf
  have f0 : v_iv (n_v vs 3) = w_el ws (v_ad (n_v vs 2)) (v_iv (n_v vs 1)).toNat := f0
  obtain ⟨f1, hf⟩ := fc_un (show (9 : Nat) < 100 from by decide) hf
  have f1 : n_v vs 2 = w_fd ws (v_ad (n_v vs 0)) 10 := f1
  have cr_0_10 : ta (w_ar ws (n_v vs 0) 10) = some 68 := tv_rg (th_fd hD hth r0 (g := GG_4) rfl (k := 10) (t := (2, 0, 0, [68])) rfl rfl)
  have ad_2 : v_ad (n_v vs 2) = w_ar ws (n_v vs 0) 10 := congrArg v_ad f1
  rw [ad_2] at f0
  have nf0 : fc_1 (20, [0, 1, 3], [30, 0, 1, 2, 10, -1, 0, 0]) ws (vs) := by
    refine ⟨fun n hn => ?_, ?_⟩
    · have hn : n ∈ [0, 1, 3] := hn
      rw [hl]
      simp only [List.mem_cons, List.not_mem_nil, or_false] at hn
      show n < 4; omega
    · show 1 * w_el ws (w_ar ws (n_v vs 0) 10) (v_iv (n_v vs 1)).toNat + ((-1) * v_iv (n_v vs 3) + 0) ≤ 0
      omega
  refine ⟨(fun _ h => (by cases h)), [], trivial, ?_, (fun _ h => (by cases h))⟩
  rw [List.append_nil]
  exact List.forall_mem_cons.mpr ⟨⟨show (20 : Nat) < 100 from by decide, nf0⟩, (fun _ h => (by cases h))⟩
def o_La_setPlaces_1 : or_T := (37, 12, [(0, (2, 0, 0, [4])), (1, (0, 0, 24, [])), (2, (0, 0, 71, [])), (3, (2, 0, 0, [68])), (4, (0, 1, 1, [])), (5, (0, 1, 25, [])), (6, (0, 1, 72, [])), (10, (0, 0, 72, [])), (11, (0, -72, 71, []))], [(2, [11, 2, 10], []), (10, [10, 3, 1], []), (9, [3, 0], [10]), (7, [2, 6], [2]), (10, [6, 3, 5], []), (1, [5, 1, 4], []), (20, [0, 1, 2], [30, 0, 1, 2, 10, -1, 0, 0])], [(11, (0, 0, 71, []))], [], [], [], [(11, 2, -72, 0), (11, 6, -4294967296, -1), (11, 1, -4294967296, 72), (2, 6, -4294967296, -1), (5, 1, 1, 1), (5, 2, -4294967296, 25), (1, 2, -4294967296, 24), (2, 1, -4294967296, 72)])
theorem oo_La_setPlaces_1 {kA : Nat → ClassId} : or_ok kA GG o_La_setPlaces_1 := by
  intro A ta ws vs hD hth hl hk hds hf
  have hl : vs.length = 12 := hl
  have hk : ∀ q ∈ ([(0, (2, 0, 0, [4])), (1, (0, 0, 24, [])), (2, (0, 0, 71, [])), (3, (2, 0, 0, [68])), (4, (0, 1, 1, [])), (5, (0, 1, 25, [])), (6, (0, 1, 72, [])), (10, (0, 0, 72, [])), (11, (0, -72, 71, []))] : List (Nat × tv_T)), tv_ok ta q.2 (n_v vs q.1) := hk
  obtain ⟨t0, hk⟩ := List.forall_mem_cons.mp hk
  have t0 : tv_ok ta (2, 0, 0, [4]) (n_v vs 0) := t0
  have r0 : ta (v_ad (n_v vs 0)) = some 4 := tv_rg t0
  obtain ⟨t1, hk⟩ := List.forall_mem_cons.mp hk
  have t1 : tv_ok ta (0, 0, 24, []) (n_v vs 1) := t1
  have k1 : 0 ≤ v_iv (n_v vs 1) ∧ v_iv (n_v vs 1) ≤ 24 := tv_rng t1
  obtain ⟨t2, hk⟩ := List.forall_mem_cons.mp hk
  have t2 : tv_ok ta (0, 0, 71, []) (n_v vs 2) := t2
  have k2 : 0 ≤ v_iv (n_v vs 2) ∧ v_iv (n_v vs 2) ≤ 71 := tv_rng t2
  obtain ⟨t3, hk⟩ := List.forall_mem_cons.mp hk
  have t3 : tv_ok ta (2, 0, 0, [68]) (n_v vs 3) := t3
  have r3 : ta (v_ad (n_v vs 3)) = some 68 := tv_rg t3
  obtain ⟨t4, hk⟩ := List.forall_mem_cons.mp hk
  have t4 : tv_ok ta (0, 1, 1, []) (n_v vs 4) := t4
  have k4 : 1 ≤ v_iv (n_v vs 4) ∧ v_iv (n_v vs 4) ≤ 1 := tv_rng t4
  obtain ⟨t5, hk⟩ := List.forall_mem_cons.mp hk
  have t5 : tv_ok ta (0, 1, 25, []) (n_v vs 5) := t5
  have k5 : 1 ≤ v_iv (n_v vs 5) ∧ v_iv (n_v vs 5) ≤ 25 := tv_rng t5
  obtain ⟨t6, hk⟩ := List.forall_mem_cons.mp hk
  have t6 : tv_ok ta (0, 1, 72, []) (n_v vs 6) := t6
  have k6 : 1 ≤ v_iv (n_v vs 6) ∧ v_iv (n_v vs 6) ≤ 72 := tv_rng t6
  obtain ⟨t10, hk⟩ := List.forall_mem_cons.mp hk
  have t10 : tv_ok ta (0, 0, 72, []) (n_v vs 10) := t10
  have k10 : 0 ≤ v_iv (n_v vs 10) ∧ v_iv (n_v vs 10) ≤ 72 := tv_rng t10
  obtain ⟨t11, hk⟩ := List.forall_mem_cons.mp hk
  have t11 : tv_ok ta (0, -72, 71, []) (n_v vs 11) := t11
  have k11 : (-72) ≤ v_iv (n_v vs 11) ∧ v_iv (n_v vs 11) ≤ 71 := tv_rng t11
  have hds : ∀ q ∈ ([(11, 2, -72, 0), (11, 6, -4294967296, -1), (11, 1, -4294967296, 72), (2, 6, -4294967296, -1), (5, 1, 1, 1), (5, 2, -4294967296, 25), (1, 2, -4294967296, 24), (2, 1, -4294967296, 72)] : List of_T), n_iv vs q.2.1 + q.2.2.1 ≤ n_iv vs q.1 ∧ n_iv vs q.1 ≤ n_iv vs q.2.1 + q.2.2.2 := hds
  obtain ⟨d0, hds⟩ := List.forall_mem_cons.mp hds
  have d0 : v_iv (n_v vs 2) + (-72) ≤ v_iv (n_v vs 11) ∧ v_iv (n_v vs 11) ≤ v_iv (n_v vs 2) + 0 := d0
  obtain ⟨d1, hds⟩ := List.forall_mem_cons.mp hds
  have d1 : v_iv (n_v vs 6) + (-4294967296) ≤ v_iv (n_v vs 11) ∧ v_iv (n_v vs 11) ≤ v_iv (n_v vs 6) + (-1) := d1
  obtain ⟨d2, hds⟩ := List.forall_mem_cons.mp hds
  have d2 : v_iv (n_v vs 1) + (-4294967296) ≤ v_iv (n_v vs 11) ∧ v_iv (n_v vs 11) ≤ v_iv (n_v vs 1) + 72 := d2
  obtain ⟨d3, hds⟩ := List.forall_mem_cons.mp hds
  have d3 : v_iv (n_v vs 6) + (-4294967296) ≤ v_iv (n_v vs 2) ∧ v_iv (n_v vs 2) ≤ v_iv (n_v vs 6) + (-1) := d3
  obtain ⟨d4, hds⟩ := List.forall_mem_cons.mp hds
  have d4 : v_iv (n_v vs 1) + 1 ≤ v_iv (n_v vs 5) ∧ v_iv (n_v vs 5) ≤ v_iv (n_v vs 1) + 1 := d4
  obtain ⟨d5, hds⟩ := List.forall_mem_cons.mp hds
  have d5 : v_iv (n_v vs 2) + (-4294967296) ≤ v_iv (n_v vs 5) ∧ v_iv (n_v vs 5) ≤ v_iv (n_v vs 2) + 25 := d5
  obtain ⟨d6, hds⟩ := List.forall_mem_cons.mp hds
  have d6 : v_iv (n_v vs 2) + (-4294967296) ≤ v_iv (n_v vs 1) ∧ v_iv (n_v vs 1) ≤ v_iv (n_v vs 2) + 24 := d6
  obtain ⟨d7, hds⟩ := List.forall_mem_cons.mp hds
  have d7 : v_iv (n_v vs 1) + (-4294967296) ≤ v_iv (n_v vs 2) ∧ v_iv (n_v vs 2) ≤ v_iv (n_v vs 1) + 72 := d7
  have hf : fc_ok [(2, [11, 2, 10], []), (10, [10, 3, 1], []), (9, [3, 0], [10]), (7, [2, 6], [2]), (10, [6, 3, 5], []), (1, [5, 1, 4], []), (20, [0, 1, 2], [30, 0, 1, 2, 10, -1, 0, 0])] ta ws vs := hf
  obtain ⟨f0, hf⟩ := fc_un (show (2 : Nat) < 100 from by decide) hf
  have f0 : v_iv (n_v vs 11) = v_iv (n_v vs 2) - v_iv (n_v vs 10) := f0
  obtain ⟨f1, hf⟩ := fc_un (show (10 : Nat) < 100 from by decide) hf
  have f1 : v_iv (n_v vs 10) = w_el ws (v_ad (n_v vs 3)) (v_iv (n_v vs 1)).toNat := f1
  obtain ⟨f2, hf⟩ := fc_un (show (9 : Nat) < 100 from by decide) hf
  have f2 : n_v vs 3 = w_fd ws (v_ad (n_v vs 0)) 10 := f2
  obtain ⟨f3, hf⟩ := fc_un (show (7 : Nat) < 100 from by decide) hf
  have f3 : v_iv (n_v vs 2) < v_iv (n_v vs 6) := f3
  obtain ⟨f4, hf⟩ := fc_un (show (10 : Nat) < 100 from by decide) hf
  have f4 : v_iv (n_v vs 6) = w_el ws (v_ad (n_v vs 3)) (v_iv (n_v vs 5)).toNat := f4
  obtain ⟨f5, hf⟩ := fc_un (show (1 : Nat) < 100 from by decide) hf
  have f5 : v_iv (n_v vs 5) = v_iv (n_v vs 1) + v_iv (n_v vs 4) := f5
  obtain ⟨f6, hf⟩ := fc_un (show (20 : Nat) < 100 from by decide) hf
  have f6 : 1 * w_el ws (w_ar ws (n_v vs 0) 10) (v_iv (n_v vs 1)).toNat + ((-1) * v_iv (n_v vs 2) + 0) ≤ 0 := f6
  have cr_0_10 : ta (w_ar ws (n_v vs 0) 10) = some 68 := tv_rg (th_fd hD hth r0 (g := GG_4) rfl (k := 10) (t := (2, 0, 0, [68])) rfl rfl)
  have ad_3 : v_ad (n_v vs 3) = w_ar ws (n_v vs 0) 10 := congrArg v_ad f2
  rw [ad_3] at f1
  rw [ad_3] at f4
  have rf11 : tv_ok ta (0, 0, 71, []) (n_v vs 11) := tv_in t11 (by omega) (by omega)
  refine ⟨List.forall_mem_cons.mpr ⟨rf11, (fun _ h => (by cases h))⟩, [], trivial, ?_, (fun _ h => (by cases h))⟩
  rw [List.append_nil]
  exact (fun _ h => (by cases h))
def o_La_setPlaces_2 : or_T := (7, 13, [(0, (2, 0, 0, [4])), (1, (0, 0, 24, [])), (2, (0, 0, 71, [])), (3, (2, 0, 0, [68])), (4, (0, 1, 1, [])), (5, (0, 1, 25, [])), (6, (0, 1, 72, [])), (7, (2, 0, 0, [72])), (10, (0, 0, 72, [])), (11, (0, 0, 71, [])), (12, (0, 1, 72, []))], [(6, [12, 2], [1]), (20, [0, 1, 2], [30, 0, 1, 2, 10, -1, 0, 0]), (100, [7, 9, 11], []), (2, [11, 2, 10], []), (10, [10, 3, 1], []), (9, [3, 0], [10]), (9, [7, 0], [14]), (7, [2, 6], [2]), (10, [6, 3, 5], []), (1, [5, 1, 4], []), (20, [0, 1, 2], [30, 0, 1, 2, 10, -1, 0, 0])], [], [], [(20, [0, 1, 12], [30, 0, 1, 2, 10, -1, 0, 0])], [], [(12, 2, 1, 1), (12, 6, -4294967296, 0), (12, 1, -4294967296, 73), (11, 2, -72, 0), (11, 6, -4294967296, -1), (11, 1, -4294967296, 72), (2, 6, -4294967296, -1), (5, 1, 1, 1), (5, 2, -4294967296, 25), (1, 2, -4294967296, 24), (2, 1, -4294967296, 72)])
theorem oo_La_setPlaces_2 {kA : Nat → ClassId} : or_ok kA GG o_La_setPlaces_2 := by
  intro A ta ws vs hD hth hl hk hds hf
  have hl : vs.length = 13 := hl
  have hk : ∀ q ∈ ([(0, (2, 0, 0, [4])), (1, (0, 0, 24, [])), (2, (0, 0, 71, [])), (3, (2, 0, 0, [68])), (4, (0, 1, 1, [])), (5, (0, 1, 25, [])), (6, (0, 1, 72, [])), (7, (2, 0, 0, [72])), (10, (0, 0, 72, [])), (11, (0, 0, 71, [])), (12, (0, 1, 72, []))] : List (Nat × tv_T)), tv_ok ta q.2 (n_v vs q.1) := hk
  obtain ⟨t0, hk⟩ := List.forall_mem_cons.mp hk
  have t0 : tv_ok ta (2, 0, 0, [4]) (n_v vs 0) := t0
  have r0 : ta (v_ad (n_v vs 0)) = some 4 := tv_rg t0
  obtain ⟨t1, hk⟩ := List.forall_mem_cons.mp hk
  have t1 : tv_ok ta (0, 0, 24, []) (n_v vs 1) := t1
  have k1 : 0 ≤ v_iv (n_v vs 1) ∧ v_iv (n_v vs 1) ≤ 24 := tv_rng t1
  obtain ⟨t2, hk⟩ := List.forall_mem_cons.mp hk
  have t2 : tv_ok ta (0, 0, 71, []) (n_v vs 2) := t2
  have k2 : 0 ≤ v_iv (n_v vs 2) ∧ v_iv (n_v vs 2) ≤ 71 := tv_rng t2
  obtain ⟨t3, hk⟩ := List.forall_mem_cons.mp hk
  have t3 : tv_ok ta (2, 0, 0, [68]) (n_v vs 3) := t3
  have r3 : ta (v_ad (n_v vs 3)) = some 68 := tv_rg t3
  obtain ⟨t4, hk⟩ := List.forall_mem_cons.mp hk
  have t4 : tv_ok ta (0, 1, 1, []) (n_v vs 4) := t4
  have k4 : 1 ≤ v_iv (n_v vs 4) ∧ v_iv (n_v vs 4) ≤ 1 := tv_rng t4
  obtain ⟨t5, hk⟩ := List.forall_mem_cons.mp hk
  have t5 : tv_ok ta (0, 1, 25, []) (n_v vs 5) := t5
  have k5 : 1 ≤ v_iv (n_v vs 5) ∧ v_iv (n_v vs 5) ≤ 25 := tv_rng t5
  obtain ⟨t6, hk⟩ := List.forall_mem_cons.mp hk
  have t6 : tv_ok ta (0, 1, 72, []) (n_v vs 6) := t6
  have k6 : 1 ≤ v_iv (n_v vs 6) ∧ v_iv (n_v vs 6) ≤ 72 := tv_rng t6
  obtain ⟨t7, hk⟩ := List.forall_mem_cons.mp hk
  have t7 : tv_ok ta (2, 0, 0, [72]) (n_v vs 7) := t7
  have r7 : ta (v_ad (n_v vs 7)) = some 72 := tv_rg t7
  obtain ⟨t10, hk⟩ := List.forall_mem_cons.mp hk
  have t10 : tv_ok ta (0, 0, 72, []) (n_v vs 10) := t10
  have k10 : 0 ≤ v_iv (n_v vs 10) ∧ v_iv (n_v vs 10) ≤ 72 := tv_rng t10
  obtain ⟨t11, hk⟩ := List.forall_mem_cons.mp hk
  have t11 : tv_ok ta (0, 0, 71, []) (n_v vs 11) := t11
  have k11 : 0 ≤ v_iv (n_v vs 11) ∧ v_iv (n_v vs 11) ≤ 71 := tv_rng t11
  obtain ⟨t12, hk⟩ := List.forall_mem_cons.mp hk
  have t12 : tv_ok ta (0, 1, 72, []) (n_v vs 12) := t12
  have k12 : 1 ≤ v_iv (n_v vs 12) ∧ v_iv (n_v vs 12) ≤ 72 := tv_rng t12
  have hds : ∀ q ∈ ([(12, 2, 1, 1), (12, 6, -4294967296, 0), (12, 1, -4294967296, 73), (11, 2, -72, 0), (11, 6, -4294967296, -1), (11, 1, -4294967296, 72), (2, 6, -4294967296, -1), (5, 1, 1, 1), (5, 2, -4294967296, 25), (1, 2, -4294967296, 24), (2, 1, -4294967296, 72)] : List of_T), n_iv vs q.2.1 + q.2.2.1 ≤ n_iv vs q.1 ∧ n_iv vs q.1 ≤ n_iv vs q.2.1 + q.2.2.2 := hds
  obtain ⟨d0, hds⟩ := List.forall_mem_cons.mp hds
  have d0 : v_iv (n_v vs 2) + 1 ≤ v_iv (n_v vs 12) ∧ v_iv (n_v vs 12) ≤ v_iv (n_v vs 2) + 1 := d0
  obtain ⟨d1, hds⟩ := List.forall_mem_cons.mp hds
  have d1 : v_iv (n_v vs 6) + (-4294967296) ≤ v_iv (n_v vs 12) ∧ v_iv (n_v vs 12) ≤ v_iv (n_v vs 6) + 0 := d1
  obtain ⟨d2, hds⟩ := List.forall_mem_cons.mp hds
  have d2 : v_iv (n_v vs 1) + (-4294967296) ≤ v_iv (n_v vs 12) ∧ v_iv (n_v vs 12) ≤ v_iv (n_v vs 1) + 73 := d2
  obtain ⟨d3, hds⟩ := List.forall_mem_cons.mp hds
  have d3 : v_iv (n_v vs 2) + (-72) ≤ v_iv (n_v vs 11) ∧ v_iv (n_v vs 11) ≤ v_iv (n_v vs 2) + 0 := d3
  obtain ⟨d4, hds⟩ := List.forall_mem_cons.mp hds
  have d4 : v_iv (n_v vs 6) + (-4294967296) ≤ v_iv (n_v vs 11) ∧ v_iv (n_v vs 11) ≤ v_iv (n_v vs 6) + (-1) := d4
  obtain ⟨d5, hds⟩ := List.forall_mem_cons.mp hds
  have d5 : v_iv (n_v vs 1) + (-4294967296) ≤ v_iv (n_v vs 11) ∧ v_iv (n_v vs 11) ≤ v_iv (n_v vs 1) + 72 := d5
  obtain ⟨d6, hds⟩ := List.forall_mem_cons.mp hds
  have d6 : v_iv (n_v vs 6) + (-4294967296) ≤ v_iv (n_v vs 2) ∧ v_iv (n_v vs 2) ≤ v_iv (n_v vs 6) + (-1) := d6
  obtain ⟨d7, hds⟩ := List.forall_mem_cons.mp hds
  have d7 : v_iv (n_v vs 1) + 1 ≤ v_iv (n_v vs 5) ∧ v_iv (n_v vs 5) ≤ v_iv (n_v vs 1) + 1 := d7
  obtain ⟨d8, hds⟩ := List.forall_mem_cons.mp hds
  have d8 : v_iv (n_v vs 2) + (-4294967296) ≤ v_iv (n_v vs 5) ∧ v_iv (n_v vs 5) ≤ v_iv (n_v vs 2) + 25 := d8
  obtain ⟨d9, hds⟩ := List.forall_mem_cons.mp hds
  have d9 : v_iv (n_v vs 2) + (-4294967296) ≤ v_iv (n_v vs 1) ∧ v_iv (n_v vs 1) ≤ v_iv (n_v vs 2) + 24 := d9
  obtain ⟨d10, hds⟩ := List.forall_mem_cons.mp hds
  have d10 : v_iv (n_v vs 1) + (-4294967296) ≤ v_iv (n_v vs 2) ∧ v_iv (n_v vs 2) ≤ v_iv (n_v vs 1) + 72 := d10
  have hf : fc_ok [(6, [12, 2], [1]), (20, [0, 1, 2], [30, 0, 1, 2, 10, -1, 0, 0]), (100, [7, 9, 11], []), (2, [11, 2, 10], []), (10, [10, 3, 1], []), (9, [3, 0], [10]), (9, [7, 0], [14]), (7, [2, 6], [2]), (10, [6, 3, 5], []), (1, [5, 1, 4], []), (20, [0, 1, 2], [30, 0, 1, 2, 10, -1, 0, 0])] ta ws vs := hf
  obtain ⟨f0, hf⟩ := fc_un (show (6 : Nat) < 100 from by decide) hf
  have f0 : v_iv (n_v vs 12) = v_iv (n_v vs 2) + 1 := f0
  obtain ⟨f1, hf⟩ := fc_un (show (20 : Nat) < 100 from by decide) hf
  have f1 : 1 * w_el ws (w_ar ws (n_v vs 0) 10) (v_iv (n_v vs 1)).toNat + ((-1) * v_iv (n_v vs 2) + 0) ≤ 0 := f1
  obtain ⟨ta1, w1, le1, ⟨_, s1⟩, hf⟩ := fc_us (show ¬ (100 : Nat) < 100 from by decide) hf
  have s1 : (∀ b j, w_el ws b j = if b = v_ad (n_v vs 7) ∧ j = (v_iv (n_v vs 9)).toNat then v_iv (n_v vs 11) else w_el w1 b j) ∧ ∀ b k, w_fd ws b k = w_fd w1 b k := s1
  obtain ⟨f3, hf⟩ := fc_un (show (2 : Nat) < 100 from by decide) hf
  have f3 : v_iv (n_v vs 11) = v_iv (n_v vs 2) - v_iv (n_v vs 10) := f3
  obtain ⟨f4, hf⟩ := fc_un (show (10 : Nat) < 100 from by decide) hf
  have f4 : v_iv (n_v vs 10) = w_el w1 (v_ad (n_v vs 3)) (v_iv (n_v vs 1)).toNat := f4
  obtain ⟨f5, hf⟩ := fc_un (show (9 : Nat) < 100 from by decide) hf
  have f5 : n_v vs 3 = w_fd w1 (v_ad (n_v vs 0)) 10 := f5
  obtain ⟨f6, hf⟩ := fc_un (show (9 : Nat) < 100 from by decide) hf
  have f6 : n_v vs 7 = w_fd w1 (v_ad (n_v vs 0)) 14 := f6
  obtain ⟨f7, hf⟩ := fc_un (show (7 : Nat) < 100 from by decide) hf
  have f7 : v_iv (n_v vs 2) < v_iv (n_v vs 6) := f7
  obtain ⟨f8, hf⟩ := fc_un (show (10 : Nat) < 100 from by decide) hf
  have f8 : v_iv (n_v vs 6) = w_el w1 (v_ad (n_v vs 3)) (v_iv (n_v vs 5)).toNat := f8
  obtain ⟨f9, hf⟩ := fc_un (show (1 : Nat) < 100 from by decide) hf
  have f9 : v_iv (n_v vs 5) = v_iv (n_v vs 1) + v_iv (n_v vs 4) := f9
  obtain ⟨f10, hf⟩ := fc_un (show (20 : Nat) < 100 from by decide) hf
  have f10 : 1 * w_el w1 (w_ar w1 (n_v vs 0) 10) (v_iv (n_v vs 1)).toNat + ((-1) * v_iv (n_v vs 2) + 0) ≤ 0 := f10
  have ar_0_10_1 : w_ar w1 (n_v vs 0) 10 = w_ar ws (n_v vs 0) 10 := by show v_ad (w_fd w1 _ _) = v_ad (w_fd ws _ _); rw [s1.2]
  have cr_0_10 : ta (w_ar ws (n_v vs 0) 10) = some 68 := tv_rg (th_fd hD hth r0 (g := GG_4) rfl (k := 10) (t := (2, 0, 0, [68])) rfl rfl)
  have ar_0_14_1 : w_ar w1 (n_v vs 0) 14 = w_ar ws (n_v vs 0) 14 := by show v_ad (w_fd w1 _ _) = v_ad (w_fd ws _ _); rw [s1.2]
  have cr_0_14 : ta (w_ar ws (n_v vs 0) 14) = some 72 := tv_rg (th_fd hD hth r0 (g := GG_4) rfl (k := 14) (t := (2, 0, 0, [72])) rfl rfl)
  have ad_3 : v_ad (n_v vs 3) = w_ar ws (n_v vs 0) 10 := (congrArg v_ad f5).trans ar_0_10_1
  have ad_7 : v_ad (n_v vs 7) = w_ar ws (n_v vs 0) 14 := (congrArg v_ad f6).trans ar_0_14_1
  rw [ad_3] at f4
  rw [ad_3] at f8
  rw [ar_0_10_1] at f10
  have ee_0_10_1_1 : w_el ws (w_ar ws (n_v vs 0) 10) (v_iv (n_v vs 1)).toNat = w_el w1 (w_ar ws (n_v vs 0) 10) (v_iv (n_v vs 1)).toNat := by rw [s1.1, if_neg (fun e => by have e1 := e.1; rw [← e1] at r7; rw [cr_0_10] at r7; exact absurd (Option.some.inj r7) (by decide))]
  have ee_0_10_5_1 : w_el ws (w_ar ws (n_v vs 0) 10) (v_iv (n_v vs 5)).toNat = w_el w1 (w_ar ws (n_v vs 0) 10) (v_iv (n_v vs 5)).toNat := by rw [s1.1, if_neg (fun e => by have e1 := e.1; rw [← e1] at r7; rw [cr_0_10] at r7; exact absurd (Option.some.inj r7) (by decide))]
  have nf0 : fc_1 (20, [0, 1, 12], [30, 0, 1, 2, 10, -1, 0, 0]) ws (vs) := by
    refine ⟨fun n hn => ?_, ?_⟩
    · have hn : n ∈ [0, 1, 12] := hn
      rw [hl]
      simp only [List.mem_cons, List.not_mem_nil, or_false] at hn
      show n < 13; omega
    · show 1 * w_el ws (w_ar ws (n_v vs 0) 10) (v_iv (n_v vs 1)).toNat + ((-1) * v_iv (n_v vs 12) + 0) ≤ 0
      omega
  refine ⟨(fun _ h => (by cases h)), [], trivial, ?_, (fun _ h => (by cases h))⟩
  rw [List.append_nil]
  exact List.forall_mem_cons.mpr ⟨⟨show (20 : Nat) < 100 from by decide, nf0⟩, (fun _ h => (by cases h))⟩
def n_La_setPlaces_an : List an_T := [(7, [(0, (2, 0, 0, [4])), (1, (0, 0, 24, [])), (2, (0, 0, 72, []))], [], (0, 0), [(0, 0, 99993), (1, 2, 72), (0, 0, 100000)], [(1, 2, -1000000000000, 24), (2, 1, -1000000000000, 72)], [], [], 0, [], [(20, [0, 1, 2], [30, 0, 1, 2, 10, -1, 0, 0])])]
def t_La_setPlaces_ct : ct_L := []
set_option maxRecDepth 100000 in
theorem c_La_setPlaces {l : Launch} {D : va_G} {kA : Nat → ClassId} : ct_ok l D kA GG y_La_setPlaces z_La_setPlaces e_La_setPlaces := chk_all_ok (FT := [(48, 4, 10), (57, 4, 13), (60, 4, 14)]) (PT := []) (CT := t_La_setPlaces_ct) (KT := []) (NT := []) (AN := n_La_setPlaces_an) (OT := [o_La_setPlaces_0, o_La_setPlaces_1, o_La_setPlaces_2]) 3 200 (List.forall_mem_cons.mpr ⟨oo_La_setPlaces_0, List.forall_mem_cons.mpr ⟨oo_La_setPlaces_1, List.forall_mem_cons.mpr ⟨oo_La_setPlaces_2, List.forall_mem_nil _⟩⟩⟩) (by decide +kernel) ⟨List.forall_mem_cons.mpr ⟨gf_La_48, List.forall_mem_cons.mpr ⟨gf_La_57, List.forall_mem_cons.mpr ⟨gf_La_60, List.forall_mem_nil _⟩⟩⟩, List.forall_mem_nil _, List.forall_mem_nil _, List.forall_mem_nil _, List.forall_mem_nil _, GG_pl⟩ (by decide +kernel)
def n_La_upperEnd_an : List an_T := []
def t_La_upperEnd_ct : ct_L := []
set_option maxRecDepth 100000 in
theorem c_La_upperEnd {l : Launch} {D : va_G} {kA : Nat → ClassId} : ct_ok l D kA GG y_La_upperEnd z_La_upperEnd e_La_upperEnd := chk_all_ok (FT := [(18, 4, 1), (125, 2, 9), (131, 3, 8), (136, 3, 7)]) (PT := []) (CT := t_La_upperEnd_ct) (KT := []) (NT := []) (AN := n_La_upperEnd_an) (OT := []) 0 200 (List.forall_mem_nil _) (by decide +kernel) ⟨List.forall_mem_cons.mpr ⟨gf_La_18, List.forall_mem_cons.mpr ⟨gf_La_125, List.forall_mem_cons.mpr ⟨gf_La_131, List.forall_mem_cons.mpr ⟨gf_La_136, List.forall_mem_nil _⟩⟩⟩⟩, List.forall_mem_nil _, List.forall_mem_nil _, List.forall_mem_nil _, List.forall_mem_nil _, GG_pl⟩ (by decide +kernel)
def n_Ne_edgeBetween_an : List an_T := []
def t_Ne_edgeBetween_ct : ct_L := []
set_option maxRecDepth 100000 in
theorem c_Ne_edgeBetween {l : Launch} {D : va_G} {kA : Nat → ClassId} : ct_ok l D kA GG y_Ne_edgeBetween z_Ne_edgeBetween e_Ne_edgeBetween := chk_all_ok (FT := [(43, 5, 10)]) (PT := []) (CT := t_Ne_edgeBetween_ct) (KT := []) (NT := []) (AN := n_Ne_edgeBetween_an) (OT := []) 0 200 (List.forall_mem_nil _) (by decide +kernel) ⟨List.forall_mem_cons.mpr ⟨gf_Ne_43, List.forall_mem_nil _⟩, List.forall_mem_nil _, List.forall_mem_nil _, List.forall_mem_nil _, List.forall_mem_nil _, GG_pl⟩ (by decide +kernel)
def n_Ne_forget_an : List an_T := []
def t_Ne_forget_ct : ct_L := []
set_option maxRecDepth 100000 in
theorem c_Ne_forget {l : Launch} {D : va_G} {kA : Nat → ClassId} : ct_ok l D kA GG y_Ne_forget z_Ne_forget e_Ne_forget := chk_all_ok (FT := []) (PT := [(9, 5, 0, .int), (15, 5, 1, .int), (18, 5, 2, .int), (21, 5, 3, .int)]) (CT := t_Ne_forget_ct) (KT := []) (NT := []) (AN := n_Ne_forget_an) (OT := []) 0 200 (List.forall_mem_nil _) (by decide +kernel) ⟨List.forall_mem_nil _, List.forall_mem_cons.mpr ⟨pf_Ne_9, List.forall_mem_cons.mpr ⟨pf_Ne_15, List.forall_mem_cons.mpr ⟨pf_Ne_18, List.forall_mem_cons.mpr ⟨pf_Ne_21, List.forall_mem_nil _⟩⟩⟩⟩, List.forall_mem_nil _, List.forall_mem_nil _, List.forall_mem_nil _, GG_pl⟩ (by decide +kernel)
def n_Ne_join_at_Ne_an : List an_T := []
def t_Ne_join_at_Ne_ct : ct_L := []
set_option maxRecDepth 100000 in
theorem c_Ne_join_at_Ne {l : Launch} {D : va_G} {kA : Nat → ClassId} : ct_ok l D kA GG y_Ne_join_at_Ne z_Ne_join_at_Ne e_Ne_join_at_Ne := chk_all_ok (FT := [(31, 5, 6), (34, 5, 7), (37, 5, 8), (40, 5, 9), (43, 5, 10)]) (PT := [(31, 5, 6, .int)]) (CT := t_Ne_join_at_Ne_ct) (KT := []) (NT := []) (AN := n_Ne_join_at_Ne_an) (OT := []) 0 260 (List.forall_mem_nil _) (by decide +kernel) ⟨List.forall_mem_cons.mpr ⟨gf_Ne_31, List.forall_mem_cons.mpr ⟨gf_Ne_34, List.forall_mem_cons.mpr ⟨gf_Ne_37, List.forall_mem_cons.mpr ⟨gf_Ne_40, List.forall_mem_cons.mpr ⟨gf_Ne_43, List.forall_mem_nil _⟩⟩⟩⟩⟩, List.forall_mem_cons.mpr ⟨pf_Ne_31, List.forall_mem_nil _⟩, List.forall_mem_nil _, List.forall_mem_nil _, List.forall_mem_nil _, GG_pl⟩ (by decide +kernel)
def n_Ne_join_at_Np_an : List an_T := []
def t_Ne_join_at_Np_ct : ct_L := []
set_option maxRecDepth 100000 in
theorem c_Ne_join_at_Np {l : Launch} {D : va_G} {kA : Nat → ClassId} : ct_ok l D kA GG y_Ne_join_at_Np z_Ne_join_at_Np e_Ne_join_at_Np := chk_all_ok (FT := [(31, 5, 6), (34, 5, 7), (37, 5, 8), (40, 5, 9), (43, 5, 10)]) (PT := [(31, 5, 6, .int)]) (CT := t_Ne_join_at_Np_ct) (KT := []) (NT := []) (AN := n_Ne_join_at_Np_an) (OT := []) 0 260 (List.forall_mem_nil _) (by decide +kernel) ⟨List.forall_mem_cons.mpr ⟨gf_Ne_31, List.forall_mem_cons.mpr ⟨gf_Ne_34, List.forall_mem_cons.mpr ⟨gf_Ne_37, List.forall_mem_cons.mpr ⟨gf_Ne_40, List.forall_mem_cons.mpr ⟨gf_Ne_43, List.forall_mem_nil _⟩⟩⟩⟩⟩, List.forall_mem_cons.mpr ⟨pf_Ne_31, List.forall_mem_nil _⟩, List.forall_mem_nil _, List.forall_mem_nil _, List.forall_mem_nil _, GG_pl⟩ (by decide +kernel)
def o_Ne_nodeOfFace_0 : or_T := (41, 13, [(2, (0, 0, 143, [])), (7, (0, 1, 144, [])), (8, (0, 0, 144, [])), (9, (0, 1, 144, [])), (11, (0, 0, 144, [])), (12, (0, 0, 287, []))], [(1, [12, 11, 2], []), (10, [11, 4, 1], []), (7, [2, 9], [2]), (2, [9, 7, 8], []), (10, [8, 4, 1], [])], [(12, (0, 0, 143, []))], [], [], [], [(12, 2, 0, 144), (12, 9, -4294967296, 143), (12, 11, 0, 143), (2, 9, -4294967296, -1), (9, 7, -144, 0)])
theorem oo_Ne_nodeOfFace_0 {kA : Nat → ClassId} : or_ok kA GG o_Ne_nodeOfFace_0 := by
  intro A ta ws vs hD hth hl hk hds hf
  have hl : vs.length = 13 := hl
  have hk : ∀ q ∈ ([(2, (0, 0, 143, [])), (7, (0, 1, 144, [])), (8, (0, 0, 144, [])), (9, (0, 1, 144, [])), (11, (0, 0, 144, [])), (12, (0, 0, 287, []))] : List (Nat × tv_T)), tv_ok ta q.2 (n_v vs q.1) := hk
  obtain ⟨t2, hk⟩ := List.forall_mem_cons.mp hk
  have t2 : tv_ok ta (0, 0, 143, []) (n_v vs 2) := t2
  have k2 : 0 ≤ v_iv (n_v vs 2) ∧ v_iv (n_v vs 2) ≤ 143 := tv_rng t2
  obtain ⟨t7, hk⟩ := List.forall_mem_cons.mp hk
  have t7 : tv_ok ta (0, 1, 144, []) (n_v vs 7) := t7
  have k7 : 1 ≤ v_iv (n_v vs 7) ∧ v_iv (n_v vs 7) ≤ 144 := tv_rng t7
  obtain ⟨t8, hk⟩ := List.forall_mem_cons.mp hk
  have t8 : tv_ok ta (0, 0, 144, []) (n_v vs 8) := t8
  have k8 : 0 ≤ v_iv (n_v vs 8) ∧ v_iv (n_v vs 8) ≤ 144 := tv_rng t8
  obtain ⟨t9, hk⟩ := List.forall_mem_cons.mp hk
  have t9 : tv_ok ta (0, 1, 144, []) (n_v vs 9) := t9
  have k9 : 1 ≤ v_iv (n_v vs 9) ∧ v_iv (n_v vs 9) ≤ 144 := tv_rng t9
  obtain ⟨t11, hk⟩ := List.forall_mem_cons.mp hk
  have t11 : tv_ok ta (0, 0, 144, []) (n_v vs 11) := t11
  have k11 : 0 ≤ v_iv (n_v vs 11) ∧ v_iv (n_v vs 11) ≤ 144 := tv_rng t11
  obtain ⟨t12, hk⟩ := List.forall_mem_cons.mp hk
  have t12 : tv_ok ta (0, 0, 287, []) (n_v vs 12) := t12
  have k12 : 0 ≤ v_iv (n_v vs 12) ∧ v_iv (n_v vs 12) ≤ 287 := tv_rng t12
  have hds : ∀ q ∈ ([(12, 2, 0, 144), (12, 9, -4294967296, 143), (12, 11, 0, 143), (2, 9, -4294967296, -1), (9, 7, -144, 0)] : List of_T), n_iv vs q.2.1 + q.2.2.1 ≤ n_iv vs q.1 ∧ n_iv vs q.1 ≤ n_iv vs q.2.1 + q.2.2.2 := hds
  obtain ⟨d0, hds⟩ := List.forall_mem_cons.mp hds
  have d0 : v_iv (n_v vs 2) + 0 ≤ v_iv (n_v vs 12) ∧ v_iv (n_v vs 12) ≤ v_iv (n_v vs 2) + 144 := d0
  obtain ⟨d1, hds⟩ := List.forall_mem_cons.mp hds
  have d1 : v_iv (n_v vs 9) + (-4294967296) ≤ v_iv (n_v vs 12) ∧ v_iv (n_v vs 12) ≤ v_iv (n_v vs 9) + 143 := d1
  obtain ⟨d2, hds⟩ := List.forall_mem_cons.mp hds
  have d2 : v_iv (n_v vs 11) + 0 ≤ v_iv (n_v vs 12) ∧ v_iv (n_v vs 12) ≤ v_iv (n_v vs 11) + 143 := d2
  obtain ⟨d3, hds⟩ := List.forall_mem_cons.mp hds
  have d3 : v_iv (n_v vs 9) + (-4294967296) ≤ v_iv (n_v vs 2) ∧ v_iv (n_v vs 2) ≤ v_iv (n_v vs 9) + (-1) := d3
  obtain ⟨d4, hds⟩ := List.forall_mem_cons.mp hds
  have d4 : v_iv (n_v vs 7) + (-144) ≤ v_iv (n_v vs 9) ∧ v_iv (n_v vs 9) ≤ v_iv (n_v vs 7) + 0 := d4
  have hf : fc_ok [(1, [12, 11, 2], []), (10, [11, 4, 1], []), (7, [2, 9], [2]), (2, [9, 7, 8], []), (10, [8, 4, 1], [])] ta ws vs := hf
  obtain ⟨f0, hf⟩ := fc_un (show (1 : Nat) < 100 from by decide) hf
  have f0 : v_iv (n_v vs 12) = v_iv (n_v vs 11) + v_iv (n_v vs 2) := f0
  obtain ⟨f1, hf⟩ := fc_un (show (10 : Nat) < 100 from by decide) hf
  have f1 : v_iv (n_v vs 11) = w_el ws (v_ad (n_v vs 4)) (v_iv (n_v vs 1)).toNat := f1
  obtain ⟨f2, hf⟩ := fc_un (show (7 : Nat) < 100 from by decide) hf
  have f2 : v_iv (n_v vs 2) < v_iv (n_v vs 9) := f2
  obtain ⟨f3, hf⟩ := fc_un (show (2 : Nat) < 100 from by decide) hf
  have f3 : v_iv (n_v vs 9) = v_iv (n_v vs 7) - v_iv (n_v vs 8) := f3
  obtain ⟨f4, hf⟩ := fc_un (show (10 : Nat) < 100 from by decide) hf
  have f4 : v_iv (n_v vs 8) = w_el ws (v_ad (n_v vs 4)) (v_iv (n_v vs 1)).toNat := f4
  have rf12 : tv_ok ta (0, 0, 143, []) (n_v vs 12) := tv_in t12 (by omega) (by omega)
  refine ⟨List.forall_mem_cons.mpr ⟨rf12, (fun _ h => (by cases h))⟩, [], trivial, ?_, (fun _ h => (by cases h))⟩
  rw [List.append_nil]
  exact (fun _ h => (by cases h))
def n_Ne_nodeOfFace_an : List an_T := []
def t_Ne_nodeOfFace_ct : ct_L := []
set_option maxRecDepth 100000 in
theorem c_Ne_nodeOfFace {l : Launch} {D : va_G} {kA : Nat → ClassId} : ct_ok l D kA GG y_Ne_nodeOfFace z_Ne_nodeOfFace e_Ne_nodeOfFace := chk_all_ok (FT := [(52, 5, 13), (55, 5, 14), (58, 5, 15)]) (PT := []) (CT := t_Ne_nodeOfFace_ct) (KT := []) (NT := []) (AN := n_Ne_nodeOfFace_an) (OT := [o_Ne_nodeOfFace_0]) 0 200 (List.forall_mem_cons.mpr ⟨oo_Ne_nodeOfFace_0, List.forall_mem_nil _⟩) (by decide +kernel) ⟨List.forall_mem_cons.mpr ⟨gf_Ne_52, List.forall_mem_cons.mpr ⟨gf_Ne_55, List.forall_mem_cons.mpr ⟨gf_Ne_58, List.forall_mem_nil _⟩⟩⟩, List.forall_mem_nil _, List.forall_mem_nil _, List.forall_mem_nil _, List.forall_mem_nil _, GG_pl⟩ (by decide +kernel)
def n_Pl_edgeOfLevel_an : List an_T := [(7, [(0, (2, 0, 0, [6])), (1, (0, 0, 16777215, [])), (2, (0, 0, 23, [])), (3, (0, 0, 1, [])), (4, (0, -2147483648, 2147483647, [])), (5, (0, 0, 24, []))], [], (0, 0), [(0, 0, 99993), (1, 5, 24), (0, 0, 100000)], [], [((0, 0), (2, 0, 0, [3])), ((0, 1), (2, 0, 0, [0]))], [], 0, [], [])]
def t_Pl_edgeOfLevel_ct : ct_L := []
set_option maxRecDepth 100000 in
theorem c_Pl_edgeOfLevel {l : Launch} {D : va_G} {kA : Nat → ClassId} : ct_ok l D kA GG y_Pl_edgeOfLevel z_Pl_edgeOfLevel e_Pl_edgeOfLevel := chk_all_ok (FT := [(9, 6, 0), (15, 6, 1), (26, 6, 4), (74, 3, 0), (127, 0, 2)]) (PT := []) (CT := t_Pl_edgeOfLevel_ct) (KT := [(0, 149, .int (Int32.ofInt (-2147483648)), (0, -2147483648, -2147483648, []))]) (NT := []) (AN := n_Pl_edgeOfLevel_an) (OT := []) 3 244 (List.forall_mem_nil _) (by decide +kernel) ⟨List.forall_mem_cons.mpr ⟨gf_Pl_9, List.forall_mem_cons.mpr ⟨gf_Pl_15, List.forall_mem_cons.mpr ⟨gf_Pl_26, List.forall_mem_cons.mpr ⟨gf_Pl_74, List.forall_mem_cons.mpr ⟨gf_Pl_127, List.forall_mem_nil _⟩⟩⟩⟩⟩, List.forall_mem_nil _, List.forall_mem_nil _, List.forall_mem_cons.mpr ⟨kx_Pl_0_149, List.forall_mem_nil _⟩, List.forall_mem_nil _, GG_pl⟩ (by decide +kernel)
def o_Pl_insertItem_0 : or_T := (9, 5, [(0, (2, 0, 0, [6])), (3, (0, 0, 31, [])), (4, (0, 0, 32, []))], [(9, [4, 0], [11]), (20, [0, 3], [30, 0, 1, 1, 11, -1, 0, 0])], [(4, (0, 0, 31, []))], [], [], [], [])
theorem oo_Pl_insertItem_0 {kA : Nat → ClassId} : or_ok kA GG o_Pl_insertItem_0 := by
  intro A ta ws vs hD hth hl hk hds hf
  have hl : vs.length = 5 := hl
  have hk : ∀ q ∈ ([(0, (2, 0, 0, [6])), (3, (0, 0, 31, [])), (4, (0, 0, 32, []))] : List (Nat × tv_T)), tv_ok ta q.2 (n_v vs q.1) := hk
  obtain ⟨t0, hk⟩ := List.forall_mem_cons.mp hk
  have t0 : tv_ok ta (2, 0, 0, [6]) (n_v vs 0) := t0
  have r0 : ta (v_ad (n_v vs 0)) = some 6 := tv_rg t0
  obtain ⟨t3, hk⟩ := List.forall_mem_cons.mp hk
  have t3 : tv_ok ta (0, 0, 31, []) (n_v vs 3) := t3
  have k3 : 0 ≤ v_iv (n_v vs 3) ∧ v_iv (n_v vs 3) ≤ 31 := tv_rng t3
  obtain ⟨t4, hk⟩ := List.forall_mem_cons.mp hk
  have t4 : tv_ok ta (0, 0, 32, []) (n_v vs 4) := t4
  have k4 : 0 ≤ v_iv (n_v vs 4) ∧ v_iv (n_v vs 4) ≤ 32 := tv_rng t4
  have hf : fc_ok [(9, [4, 0], [11]), (20, [0, 3], [30, 0, 1, 1, 11, -1, 0, 0])] ta ws vs := hf
  obtain ⟨f0, hf⟩ := fc_un (show (9 : Nat) < 100 from by decide) hf
  have f0 : n_v vs 4 = w_fd ws (v_ad (n_v vs 0)) 11 := f0
  obtain ⟨f1, hf⟩ := fc_un (show (20 : Nat) < 100 from by decide) hf
  have f1 : 1 * w_fi ws (n_v vs 0) 11 + ((-1) * v_iv (n_v vs 3) + 0) ≤ 0 := f1
  have g0 : v_iv (n_v vs 4) = w_fi ws (n_v vs 0) 11 := congrArg v_iv f0
  have kz_0_11 : 0 ≤ w_fi ws (n_v vs 0) 11 ∧ w_fi ws (n_v vs 0) 11 ≤ 32 := tv_rng (th_fd hD hth r0 (g := GG_6) rfl (k := 11) (t := (0, 0, 32, [])) rfl rfl)
  have rf4 : tv_ok ta (0, 0, 31, []) (n_v vs 4) := tv_in t4 (by omega) (by omega)
  refine ⟨List.forall_mem_cons.mpr ⟨rf4, (fun _ h => (by cases h))⟩, [], trivial, ?_, (fun _ h => (by cases h))⟩
  rw [List.append_nil]
  exact (fun _ h => (by cases h))
def o_Pl_insertItem_1 : or_T := (10, 5, [(0, (2, 0, 0, [6])), (3, (0, 0, 31, [])), (4, (0, 0, 31, []))], [(9, [4, 0], [11]), (20, [0, 3], [30, 0, 1, 1, 11, -1, 0, 0])], [], [], [(24, [0, 0], [])], [], [])
theorem oo_Pl_insertItem_1 {kA : Nat → ClassId} : or_ok kA GG o_Pl_insertItem_1 := by
  intro A ta ws vs hD hth hl hk hds hf
  have hl : vs.length = 5 := hl
  have hk : ∀ q ∈ ([(0, (2, 0, 0, [6])), (3, (0, 0, 31, [])), (4, (0, 0, 31, []))] : List (Nat × tv_T)), tv_ok ta q.2 (n_v vs q.1) := hk
  obtain ⟨t0, hk⟩ := List.forall_mem_cons.mp hk
  have t0 : tv_ok ta (2, 0, 0, [6]) (n_v vs 0) := t0
  have r0 : ta (v_ad (n_v vs 0)) = some 6 := tv_rg t0
  obtain ⟨t3, hk⟩ := List.forall_mem_cons.mp hk
  have t3 : tv_ok ta (0, 0, 31, []) (n_v vs 3) := t3
  have k3 : 0 ≤ v_iv (n_v vs 3) ∧ v_iv (n_v vs 3) ≤ 31 := tv_rng t3
  obtain ⟨t4, hk⟩ := List.forall_mem_cons.mp hk
  have t4 : tv_ok ta (0, 0, 31, []) (n_v vs 4) := t4
  have k4 : 0 ≤ v_iv (n_v vs 4) ∧ v_iv (n_v vs 4) ≤ 31 := tv_rng t4
  have hf : fc_ok [(9, [4, 0], [11]), (20, [0, 3], [30, 0, 1, 1, 11, -1, 0, 0])] ta ws vs := hf
  obtain ⟨f0, hf⟩ := fc_un (show (9 : Nat) < 100 from by decide) hf
  have f0 : n_v vs 4 = w_fd ws (v_ad (n_v vs 0)) 11 := f0
  obtain ⟨f1, hf⟩ := fc_un (show (20 : Nat) < 100 from by decide) hf
  have f1 : 1 * w_fi ws (n_v vs 0) 11 + ((-1) * v_iv (n_v vs 3) + 0) ≤ 0 := f1
  have g0 : v_iv (n_v vs 4) = w_fi ws (n_v vs 0) 11 := congrArg v_iv f0
  have kz_0_11 : 0 ≤ w_fi ws (n_v vs 0) 11 ∧ w_fi ws (n_v vs 0) 11 ≤ 32 := tv_rng (th_fd hD hth r0 (g := GG_6) rfl (k := 11) (t := (0, 0, 32, [])) rfl rfl)
  have nf0 : fc_1 (24, [0, 0], []) ws (vs) := by
    refine ⟨fun n hn => ?_, ?_⟩
    · have hn : n ∈ [0, 0] := hn
      rw [hl]
      simp only [List.mem_cons, List.not_mem_nil, or_false] at hn
      show n < 5; omega
    · show n_v vs 0 = n_v vs 0
      first | rfl | simp only [true_and]
  refine ⟨(fun _ h => (by cases h)), [], trivial, ?_, (fun _ h => (by cases h))⟩
  rw [List.append_nil]
  exact List.forall_mem_cons.mpr ⟨⟨show (24 : Nat) < 100 from by decide, nf0⟩, (fun _ h => (by cases h))⟩
def o_Pl_insertItem_2 : or_T := (4, 4, [(0, (2, 0, 0, [6])), (3, (0, 0, 31, []))], [(20, [0, 3], [30, 0, 1, 1, 11, -1, 0, 0])], [], [], [(20, [0, 3], [30, 1, 1, 1, 11, -1, 0, 0])], [], [])
theorem oo_Pl_insertItem_2 {kA : Nat → ClassId} : or_ok kA GG o_Pl_insertItem_2 := by
  intro A ta ws vs hD hth hl hk hds hf
  have hl : vs.length = 4 := hl
  have hk : ∀ q ∈ ([(0, (2, 0, 0, [6])), (3, (0, 0, 31, []))] : List (Nat × tv_T)), tv_ok ta q.2 (n_v vs q.1) := hk
  obtain ⟨t0, hk⟩ := List.forall_mem_cons.mp hk
  have t0 : tv_ok ta (2, 0, 0, [6]) (n_v vs 0) := t0
  have r0 : ta (v_ad (n_v vs 0)) = some 6 := tv_rg t0
  obtain ⟨t3, hk⟩ := List.forall_mem_cons.mp hk
  have t3 : tv_ok ta (0, 0, 31, []) (n_v vs 3) := t3
  have k3 : 0 ≤ v_iv (n_v vs 3) ∧ v_iv (n_v vs 3) ≤ 31 := tv_rng t3
  have hf : fc_ok [(20, [0, 3], [30, 0, 1, 1, 11, -1, 0, 0])] ta ws vs := hf
  obtain ⟨f0, hf⟩ := fc_un (show (20 : Nat) < 100 from by decide) hf
  have f0 : 1 * w_fi ws (n_v vs 0) 11 + ((-1) * v_iv (n_v vs 3) + 0) ≤ 0 := f0
  have kz_0_11 : 0 ≤ w_fi ws (n_v vs 0) 11 ∧ w_fi ws (n_v vs 0) 11 ≤ 32 := tv_rng (th_fd hD hth r0 (g := GG_6) rfl (k := 11) (t := (0, 0, 32, [])) rfl rfl)
  have nf0 : fc_1 (20, [0, 3], [30, 1, 1, 1, 11, -1, 0, 0]) ws (vs) := by
    refine ⟨fun n hn => ?_, ?_⟩
    · have hn : n ∈ [0, 3] := hn
      rw [hl]
      simp only [List.mem_cons, List.not_mem_nil, or_false] at hn
      show n < 4; omega
    · show 1 * w_fi ws (n_v vs 0) 11 + ((-1) * v_iv (n_v vs 3) + 0) ≤ 1
      omega
  refine ⟨(fun _ h => (by cases h)), [], trivial, ?_, (fun _ h => (by cases h))⟩
  rw [List.append_nil]
  exact List.forall_mem_cons.mpr ⟨⟨show (20 : Nat) < 100 from by decide, nf0⟩, (fun _ h => (by cases h))⟩
def o_Pl_insertItem_3 : or_T := (80, 12, [(0, (2, 0, 0, [6])), (3, (0, 0, 31, [])), (4, (2, 0, 0, [6])), (8, (2, 0, 0, [95])), (9, (2, 0, 0, [96])), (10, (0, 0, 32, []))], [(9, [10, 4], [11]), (20, [4, 3], [30, 0, 1, 1, 11, -1, 0, 0]), (24, [0, 4], []), (100, [9, 7, 6], []), (9, [9, 4], [10]), (20, [4, 3], [30, 0, 1, 1, 11, -1, 0, 0]), (100, [8, 7, 5], []), (9, [8, 4], [9]), (20, [4, 3], [30, 0, 1, 1, 11, -1, 0, 0])], [(10, (0, 0, 31, []))], [], [], [], [])
theorem oo_Pl_insertItem_3 {kA : Nat → ClassId} : or_ok kA GG o_Pl_insertItem_3 := by
  intro A ta ws vs hD hth hl hk hds hf
  have hl : vs.length = 12 := hl
  have hk : ∀ q ∈ ([(0, (2, 0, 0, [6])), (3, (0, 0, 31, [])), (4, (2, 0, 0, [6])), (8, (2, 0, 0, [95])), (9, (2, 0, 0, [96])), (10, (0, 0, 32, []))] : List (Nat × tv_T)), tv_ok ta q.2 (n_v vs q.1) := hk
  obtain ⟨t0, hk⟩ := List.forall_mem_cons.mp hk
  have t0 : tv_ok ta (2, 0, 0, [6]) (n_v vs 0) := t0
  have r0 : ta (v_ad (n_v vs 0)) = some 6 := tv_rg t0
  obtain ⟨t3, hk⟩ := List.forall_mem_cons.mp hk
  have t3 : tv_ok ta (0, 0, 31, []) (n_v vs 3) := t3
  have k3 : 0 ≤ v_iv (n_v vs 3) ∧ v_iv (n_v vs 3) ≤ 31 := tv_rng t3
  obtain ⟨t4, hk⟩ := List.forall_mem_cons.mp hk
  have t4 : tv_ok ta (2, 0, 0, [6]) (n_v vs 4) := t4
  have r4 : ta (v_ad (n_v vs 4)) = some 6 := tv_rg t4
  obtain ⟨t8, hk⟩ := List.forall_mem_cons.mp hk
  have t8 : tv_ok ta (2, 0, 0, [95]) (n_v vs 8) := t8
  have r8 : ta (v_ad (n_v vs 8)) = some 95 := tv_rg t8
  obtain ⟨t9, hk⟩ := List.forall_mem_cons.mp hk
  have t9 : tv_ok ta (2, 0, 0, [96]) (n_v vs 9) := t9
  have r9 : ta (v_ad (n_v vs 9)) = some 96 := tv_rg t9
  obtain ⟨t10, hk⟩ := List.forall_mem_cons.mp hk
  have t10 : tv_ok ta (0, 0, 32, []) (n_v vs 10) := t10
  have k10 : 0 ≤ v_iv (n_v vs 10) ∧ v_iv (n_v vs 10) ≤ 32 := tv_rng t10
  have hf : fc_ok [(9, [10, 4], [11]), (20, [4, 3], [30, 0, 1, 1, 11, -1, 0, 0]), (24, [0, 4], []), (100, [9, 7, 6], []), (9, [9, 4], [10]), (20, [4, 3], [30, 0, 1, 1, 11, -1, 0, 0]), (100, [8, 7, 5], []), (9, [8, 4], [9]), (20, [4, 3], [30, 0, 1, 1, 11, -1, 0, 0])] ta ws vs := hf
  obtain ⟨f0, hf⟩ := fc_un (show (9 : Nat) < 100 from by decide) hf
  have f0 : n_v vs 10 = w_fd ws (v_ad (n_v vs 4)) 11 := f0
  obtain ⟨f1, hf⟩ := fc_un (show (20 : Nat) < 100 from by decide) hf
  have f1 : 1 * w_fi ws (n_v vs 4) 11 + ((-1) * v_iv (n_v vs 3) + 0) ≤ 0 := f1
  obtain ⟨f2, hf⟩ := fc_un (show (24 : Nat) < 100 from by decide) hf
  have f2 : n_v vs 0 = n_v vs 4 := f2
  obtain ⟨ta1, w1, le1, ⟨_, s1⟩, hf⟩ := fc_us (show ¬ (100 : Nat) < 100 from by decide) hf
  have s1 : (∀ b j, w_el ws b j = if b = v_ad (n_v vs 9) ∧ j = (v_iv (n_v vs 7)).toNat then v_iv (n_v vs 6) else w_el w1 b j) ∧ ∀ b k, w_fd ws b k = w_fd w1 b k := s1
  obtain ⟨f4, hf⟩ := fc_un (show (9 : Nat) < 100 from by decide) hf
  have f4 : n_v vs 9 = w_fd w1 (v_ad (n_v vs 4)) 10 := f4
  obtain ⟨f5, hf⟩ := fc_un (show (20 : Nat) < 100 from by decide) hf
  have f5 : 1 * w_fi w1 (n_v vs 4) 11 + ((-1) * v_iv (n_v vs 3) + 0) ≤ 0 := f5
  obtain ⟨ta2, w2, le2, ⟨_, s2⟩, hf⟩ := fc_us (show ¬ (100 : Nat) < 100 from by decide) hf
  have s2 : (∀ b j, w_el w1 b j = if b = v_ad (n_v vs 8) ∧ j = (v_iv (n_v vs 7)).toNat then v_iv (n_v vs 5) else w_el w2 b j) ∧ ∀ b k, w_fd w1 b k = w_fd w2 b k := s2
  obtain ⟨f7, hf⟩ := fc_un (show (9 : Nat) < 100 from by decide) hf
  have f7 : n_v vs 8 = w_fd w2 (v_ad (n_v vs 4)) 9 := f7
  obtain ⟨f8, hf⟩ := fc_un (show (20 : Nat) < 100 from by decide) hf
  have f8 : 1 * w_fi w2 (n_v vs 4) 11 + ((-1) * v_iv (n_v vs 3) + 0) ≤ 0 := f8
  have q4 : n_v vs 4 = n_v vs 0 := f2.symm
  rw [q4] at f0
  rw [q4] at f1
  rw [q4] at f4
  rw [q4] at f5
  rw [q4] at f7
  rw [q4] at f8
  have ar_0_9_1 : w_ar w1 (n_v vs 0) 9 = w_ar ws (n_v vs 0) 9 := by show v_ad (w_fd w1 _ _) = v_ad (w_fd ws _ _); rw [s1.2]
  have ar_0_9_2 : w_ar w2 (n_v vs 0) 9 = w_ar ws (n_v vs 0) 9 := by rw [← ar_0_9_1]; show v_ad (w_fd w2 _ _) = v_ad (w_fd w1 _ _); rw [s2.2]
  have cr_0_9 : ta (w_ar ws (n_v vs 0) 9) = some 95 := tv_rg (th_fd hD hth r0 (g := GG_6) rfl (k := 9) (t := (2, 0, 0, [95])) rfl rfl)
  have ar_0_10_1 : w_ar w1 (n_v vs 0) 10 = w_ar ws (n_v vs 0) 10 := by show v_ad (w_fd w1 _ _) = v_ad (w_fd ws _ _); rw [s1.2]
  have ar_0_10_2 : w_ar w2 (n_v vs 0) 10 = w_ar ws (n_v vs 0) 10 := by rw [← ar_0_10_1]; show v_ad (w_fd w2 _ _) = v_ad (w_fd w1 _ _); rw [s2.2]
  have cr_0_10 : ta (w_ar ws (n_v vs 0) 10) = some 96 := tv_rg (th_fd hD hth r0 (g := GG_6) rfl (k := 10) (t := (2, 0, 0, [96])) rfl rfl)
  have ad_9 : v_ad (n_v vs 9) = w_ar ws (n_v vs 0) 10 := (congrArg v_ad f4).trans ar_0_10_1
  have ad_8 : v_ad (n_v vs 8) = w_ar ws (n_v vs 0) 9 := (congrArg v_ad f7).trans ar_0_9_2
  have g0 : v_iv (n_v vs 10) = w_fi ws (n_v vs 0) 11 := congrArg v_iv f0
  have fe_0_11_1 : w_fi ws (n_v vs 0) 11 = w_fi w1 (n_v vs 0) 11 := congrArg v_iv (s1.2 _ _)
  have fe_0_11_2 : w_fi w1 (n_v vs 0) 11 = w_fi w2 (n_v vs 0) 11 := congrArg v_iv (s2.2 _ _)
  have kz_0_11 : 0 ≤ w_fi ws (n_v vs 0) 11 ∧ w_fi ws (n_v vs 0) 11 ≤ 32 := tv_rng (th_fd hD hth r0 (g := GG_6) rfl (k := 11) (t := (0, 0, 32, [])) rfl rfl)
  have rf10 : tv_ok ta (0, 0, 31, []) (n_v vs 10) := tv_in t10 (by omega) (by omega)
  refine ⟨List.forall_mem_cons.mpr ⟨rf10, (fun _ h => (by cases h))⟩, [], trivial, ?_, (fun _ h => (by cases h))⟩
  rw [List.append_nil]
  exact (fun _ h => (by cases h))
def o_Pl_insertItem_4 : or_T := (84, 13, [(0, (2, 0, 0, [6])), (3, (0, 0, 31, [])), (4, (2, 0, 0, [6])), (8, (2, 0, 0, [95])), (9, (2, 0, 0, [96])), (10, (0, 0, 31, [])), (11, (0, 1, 1, [])), (12, (0, 1, 32, []))], [(24, [0, 4], []), (101, [4, 12], [11]), (1, [12, 10, 11], []), (9, [10, 4], [11]), (20, [4, 3], [30, 0, 1, 1, 11, -1, 0, 0]), (100, [9, 7, 6], []), (9, [9, 4], [10]), (20, [4, 3], [30, 0, 1, 1, 11, -1, 0, 0]), (100, [8, 7, 5], []), (9, [8, 4], [9]), (20, [4, 3], [30, 0, 1, 1, 11, -1, 0, 0])], [], [], [(20, [0, 3], [30, 1, 1, 1, 11, -1, 0, 0])], [], [(12, 10, 1, 1)])
theorem oo_Pl_insertItem_4 {kA : Nat → ClassId} : or_ok kA GG o_Pl_insertItem_4 := by
  intro A ta ws vs hD hth hl hk hds hf
  have hl : vs.length = 13 := hl
  have hk : ∀ q ∈ ([(0, (2, 0, 0, [6])), (3, (0, 0, 31, [])), (4, (2, 0, 0, [6])), (8, (2, 0, 0, [95])), (9, (2, 0, 0, [96])), (10, (0, 0, 31, [])), (11, (0, 1, 1, [])), (12, (0, 1, 32, []))] : List (Nat × tv_T)), tv_ok ta q.2 (n_v vs q.1) := hk
  obtain ⟨t0, hk⟩ := List.forall_mem_cons.mp hk
  have t0 : tv_ok ta (2, 0, 0, [6]) (n_v vs 0) := t0
  have r0 : ta (v_ad (n_v vs 0)) = some 6 := tv_rg t0
  obtain ⟨t3, hk⟩ := List.forall_mem_cons.mp hk
  have t3 : tv_ok ta (0, 0, 31, []) (n_v vs 3) := t3
  have k3 : 0 ≤ v_iv (n_v vs 3) ∧ v_iv (n_v vs 3) ≤ 31 := tv_rng t3
  obtain ⟨t4, hk⟩ := List.forall_mem_cons.mp hk
  have t4 : tv_ok ta (2, 0, 0, [6]) (n_v vs 4) := t4
  have r4 : ta (v_ad (n_v vs 4)) = some 6 := tv_rg t4
  obtain ⟨t8, hk⟩ := List.forall_mem_cons.mp hk
  have t8 : tv_ok ta (2, 0, 0, [95]) (n_v vs 8) := t8
  have r8 : ta (v_ad (n_v vs 8)) = some 95 := tv_rg t8
  obtain ⟨t9, hk⟩ := List.forall_mem_cons.mp hk
  have t9 : tv_ok ta (2, 0, 0, [96]) (n_v vs 9) := t9
  have r9 : ta (v_ad (n_v vs 9)) = some 96 := tv_rg t9
  obtain ⟨t10, hk⟩ := List.forall_mem_cons.mp hk
  have t10 : tv_ok ta (0, 0, 31, []) (n_v vs 10) := t10
  have k10 : 0 ≤ v_iv (n_v vs 10) ∧ v_iv (n_v vs 10) ≤ 31 := tv_rng t10
  obtain ⟨t11, hk⟩ := List.forall_mem_cons.mp hk
  have t11 : tv_ok ta (0, 1, 1, []) (n_v vs 11) := t11
  have k11 : 1 ≤ v_iv (n_v vs 11) ∧ v_iv (n_v vs 11) ≤ 1 := tv_rng t11
  obtain ⟨t12, hk⟩ := List.forall_mem_cons.mp hk
  have t12 : tv_ok ta (0, 1, 32, []) (n_v vs 12) := t12
  have k12 : 1 ≤ v_iv (n_v vs 12) ∧ v_iv (n_v vs 12) ≤ 32 := tv_rng t12
  have hds : ∀ q ∈ ([(12, 10, 1, 1)] : List of_T), n_iv vs q.2.1 + q.2.2.1 ≤ n_iv vs q.1 ∧ n_iv vs q.1 ≤ n_iv vs q.2.1 + q.2.2.2 := hds
  obtain ⟨d0, hds⟩ := List.forall_mem_cons.mp hds
  have d0 : v_iv (n_v vs 10) + 1 ≤ v_iv (n_v vs 12) ∧ v_iv (n_v vs 12) ≤ v_iv (n_v vs 10) + 1 := d0
  have hf : fc_ok [(24, [0, 4], []), (101, [4, 12], [11]), (1, [12, 10, 11], []), (9, [10, 4], [11]), (20, [4, 3], [30, 0, 1, 1, 11, -1, 0, 0]), (100, [9, 7, 6], []), (9, [9, 4], [10]), (20, [4, 3], [30, 0, 1, 1, 11, -1, 0, 0]), (100, [8, 7, 5], []), (9, [8, 4], [9]), (20, [4, 3], [30, 0, 1, 1, 11, -1, 0, 0])] ta ws vs := hf
  obtain ⟨f0, hf⟩ := fc_un (show (24 : Nat) < 100 from by decide) hf
  have f0 : n_v vs 0 = n_v vs 4 := f0
  obtain ⟨ta1, w1, le1, ⟨_, s1⟩, hf⟩ := fc_us (show ¬ (101 : Nat) < 100 from by decide) hf
  have s1 : (∀ b j, w_el ws b j = w_el w1 b j) ∧ ∀ b j, w_fd ws b j = if b = v_ad (n_v vs 4) ∧ j = 11 then n_v vs 12 else w_fd w1 b j := s1
  obtain ⟨f2, hf⟩ := fc_un (show (1 : Nat) < 100 from by decide) hf
  have f2 : v_iv (n_v vs 12) = v_iv (n_v vs 10) + v_iv (n_v vs 11) := f2
  obtain ⟨f3, hf⟩ := fc_un (show (9 : Nat) < 100 from by decide) hf
  have f3 : n_v vs 10 = w_fd w1 (v_ad (n_v vs 4)) 11 := f3
  obtain ⟨f4, hf⟩ := fc_un (show (20 : Nat) < 100 from by decide) hf
  have f4 : 1 * w_fi w1 (n_v vs 4) 11 + ((-1) * v_iv (n_v vs 3) + 0) ≤ 0 := f4
  obtain ⟨ta2, w2, le2, ⟨_, s2⟩, hf⟩ := fc_us (show ¬ (100 : Nat) < 100 from by decide) hf
  have s2 : (∀ b j, w_el w1 b j = if b = v_ad (n_v vs 9) ∧ j = (v_iv (n_v vs 7)).toNat then v_iv (n_v vs 6) else w_el w2 b j) ∧ ∀ b k, w_fd w1 b k = w_fd w2 b k := s2
  obtain ⟨f6, hf⟩ := fc_un (show (9 : Nat) < 100 from by decide) hf
  have f6 : n_v vs 9 = w_fd w2 (v_ad (n_v vs 4)) 10 := f6
  obtain ⟨f7, hf⟩ := fc_un (show (20 : Nat) < 100 from by decide) hf
  have f7 : 1 * w_fi w2 (n_v vs 4) 11 + ((-1) * v_iv (n_v vs 3) + 0) ≤ 0 := f7
  obtain ⟨ta3, w3, le3, ⟨_, s3⟩, hf⟩ := fc_us (show ¬ (100 : Nat) < 100 from by decide) hf
  have s3 : (∀ b j, w_el w2 b j = if b = v_ad (n_v vs 8) ∧ j = (v_iv (n_v vs 7)).toNat then v_iv (n_v vs 5) else w_el w3 b j) ∧ ∀ b k, w_fd w2 b k = w_fd w3 b k := s3
  obtain ⟨f9, hf⟩ := fc_un (show (9 : Nat) < 100 from by decide) hf
  have f9 : n_v vs 8 = w_fd w3 (v_ad (n_v vs 4)) 9 := f9
  obtain ⟨f10, hf⟩ := fc_un (show (20 : Nat) < 100 from by decide) hf
  have f10 : 1 * w_fi w3 (n_v vs 4) 11 + ((-1) * v_iv (n_v vs 3) + 0) ≤ 0 := f10
  have q4 : n_v vs 4 = n_v vs 0 := f0.symm
  rw [q4] at s1
  rw [q4] at f3
  rw [q4] at f4
  rw [q4] at f6
  rw [q4] at f7
  rw [q4] at f9
  rw [q4] at f10
  have ar_0_9_1 : w_ar w1 (n_v vs 0) 9 = w_ar ws (n_v vs 0) 9 := by show v_ad (w_fd w1 _ _) = v_ad (w_fd ws _ _); rw [s1.2, if_neg (fun e => absurd e.2 (by decide))]
  have ar_0_9_2 : w_ar w2 (n_v vs 0) 9 = w_ar ws (n_v vs 0) 9 := by rw [← ar_0_9_1]; show v_ad (w_fd w2 _ _) = v_ad (w_fd w1 _ _); rw [s2.2]
  have ar_0_9_3 : w_ar w3 (n_v vs 0) 9 = w_ar ws (n_v vs 0) 9 := by rw [← ar_0_9_2]; show v_ad (w_fd w3 _ _) = v_ad (w_fd w2 _ _); rw [s3.2]
  have cr_0_9 : ta (w_ar ws (n_v vs 0) 9) = some 95 := tv_rg (th_fd hD hth r0 (g := GG_6) rfl (k := 9) (t := (2, 0, 0, [95])) rfl rfl)
  have ar_0_10_1 : w_ar w1 (n_v vs 0) 10 = w_ar ws (n_v vs 0) 10 := by show v_ad (w_fd w1 _ _) = v_ad (w_fd ws _ _); rw [s1.2, if_neg (fun e => absurd e.2 (by decide))]
  have ar_0_10_2 : w_ar w2 (n_v vs 0) 10 = w_ar ws (n_v vs 0) 10 := by rw [← ar_0_10_1]; show v_ad (w_fd w2 _ _) = v_ad (w_fd w1 _ _); rw [s2.2]
  have ar_0_10_3 : w_ar w3 (n_v vs 0) 10 = w_ar ws (n_v vs 0) 10 := by rw [← ar_0_10_2]; show v_ad (w_fd w3 _ _) = v_ad (w_fd w2 _ _); rw [s3.2]
  have cr_0_10 : ta (w_ar ws (n_v vs 0) 10) = some 96 := tv_rg (th_fd hD hth r0 (g := GG_6) rfl (k := 10) (t := (2, 0, 0, [96])) rfl rfl)
  have ad_9 : v_ad (n_v vs 9) = w_ar ws (n_v vs 0) 10 := (congrArg v_ad f6).trans ar_0_10_2
  have ad_8 : v_ad (n_v vs 8) = w_ar ws (n_v vs 0) 9 := (congrArg v_ad f9).trans ar_0_9_3
  have g3 : v_iv (n_v vs 10) = w_fi w1 (n_v vs 0) 11 := congrArg v_iv f3
  have fe_0_11_1 : w_fi ws (n_v vs 0) 11 = v_iv (n_v vs 12) := by show v_iv (w_fd _ _ _) = _; rw [s1.2, if_pos ⟨rfl, rfl⟩]
  have fe_0_11_2 : w_fi w1 (n_v vs 0) 11 = w_fi w2 (n_v vs 0) 11 := congrArg v_iv (s2.2 _ _)
  have fe_0_11_3 : w_fi w2 (n_v vs 0) 11 = w_fi w3 (n_v vs 0) 11 := congrArg v_iv (s3.2 _ _)
  have kz_0_11 : 0 ≤ w_fi ws (n_v vs 0) 11 ∧ w_fi ws (n_v vs 0) 11 ≤ 32 := tv_rng (th_fd hD hth r0 (g := GG_6) rfl (k := 11) (t := (0, 0, 32, [])) rfl rfl)
  have nf0 : fc_1 (20, [0, 3], [30, 1, 1, 1, 11, -1, 0, 0]) ws (vs) := by
    refine ⟨fun n hn => ?_, ?_⟩
    · have hn : n ∈ [0, 3] := hn
      rw [hl]
      simp only [List.mem_cons, List.not_mem_nil, or_false] at hn
      show n < 13; omega
    · show 1 * w_fi ws (n_v vs 0) 11 + ((-1) * v_iv (n_v vs 3) + 0) ≤ 1
      omega
  refine ⟨(fun _ h => (by cases h)), [], trivial, ?_, (fun _ h => (by cases h))⟩
  rw [List.append_nil]
  exact List.forall_mem_cons.mpr ⟨⟨show (20 : Nat) < 100 from by decide, nf0⟩, (fun _ h => (by cases h))⟩
def o_Pl_insertItem_5 : or_T := (80, 15, [(0, (2, 0, 0, [6])), (3, (0, 0, 31, [])), (4, (2, 0, 0, [6])), (8, (2, 0, 0, [96])), (12, (2, 0, 0, [95])), (13, (0, 0, 32, []))], [(9, [13, 4], [11]), (20, [4, 3], [30, 0, 1, 1, 11, -1, 0, 0]), (24, [0, 4], []), (100, [8, 7, 6], []), (9, [8, 4], [10]), (20, [4, 3], [30, 0, 1, 1, 11, -1, 0, 0]), (100, [12, 7, 5], []), (9, [12, 4], [9]), (20, [4, 3], [30, 0, 1, 1, 11, -1, 0, 0])], [(13, (0, 0, 31, []))], [], [], [], [])
theorem oo_Pl_insertItem_5 {kA : Nat → ClassId} : or_ok kA GG o_Pl_insertItem_5 := by
  intro A ta ws vs hD hth hl hk hds hf
  have hl : vs.length = 15 := hl
  have hk : ∀ q ∈ ([(0, (2, 0, 0, [6])), (3, (0, 0, 31, [])), (4, (2, 0, 0, [6])), (8, (2, 0, 0, [96])), (12, (2, 0, 0, [95])), (13, (0, 0, 32, []))] : List (Nat × tv_T)), tv_ok ta q.2 (n_v vs q.1) := hk
  obtain ⟨t0, hk⟩ := List.forall_mem_cons.mp hk
  have t0 : tv_ok ta (2, 0, 0, [6]) (n_v vs 0) := t0
  have r0 : ta (v_ad (n_v vs 0)) = some 6 := tv_rg t0
  obtain ⟨t3, hk⟩ := List.forall_mem_cons.mp hk
  have t3 : tv_ok ta (0, 0, 31, []) (n_v vs 3) := t3
  have k3 : 0 ≤ v_iv (n_v vs 3) ∧ v_iv (n_v vs 3) ≤ 31 := tv_rng t3
  obtain ⟨t4, hk⟩ := List.forall_mem_cons.mp hk
  have t4 : tv_ok ta (2, 0, 0, [6]) (n_v vs 4) := t4
  have r4 : ta (v_ad (n_v vs 4)) = some 6 := tv_rg t4
  obtain ⟨t8, hk⟩ := List.forall_mem_cons.mp hk
  have t8 : tv_ok ta (2, 0, 0, [96]) (n_v vs 8) := t8
  have r8 : ta (v_ad (n_v vs 8)) = some 96 := tv_rg t8
  obtain ⟨t12, hk⟩ := List.forall_mem_cons.mp hk
  have t12 : tv_ok ta (2, 0, 0, [95]) (n_v vs 12) := t12
  have r12 : ta (v_ad (n_v vs 12)) = some 95 := tv_rg t12
  obtain ⟨t13, hk⟩ := List.forall_mem_cons.mp hk
  have t13 : tv_ok ta (0, 0, 32, []) (n_v vs 13) := t13
  have k13 : 0 ≤ v_iv (n_v vs 13) ∧ v_iv (n_v vs 13) ≤ 32 := tv_rng t13
  have hf : fc_ok [(9, [13, 4], [11]), (20, [4, 3], [30, 0, 1, 1, 11, -1, 0, 0]), (24, [0, 4], []), (100, [8, 7, 6], []), (9, [8, 4], [10]), (20, [4, 3], [30, 0, 1, 1, 11, -1, 0, 0]), (100, [12, 7, 5], []), (9, [12, 4], [9]), (20, [4, 3], [30, 0, 1, 1, 11, -1, 0, 0])] ta ws vs := hf
  obtain ⟨f0, hf⟩ := fc_un (show (9 : Nat) < 100 from by decide) hf
  have f0 : n_v vs 13 = w_fd ws (v_ad (n_v vs 4)) 11 := f0
  obtain ⟨f1, hf⟩ := fc_un (show (20 : Nat) < 100 from by decide) hf
  have f1 : 1 * w_fi ws (n_v vs 4) 11 + ((-1) * v_iv (n_v vs 3) + 0) ≤ 0 := f1
  obtain ⟨f2, hf⟩ := fc_un (show (24 : Nat) < 100 from by decide) hf
  have f2 : n_v vs 0 = n_v vs 4 := f2
  obtain ⟨ta1, w1, le1, ⟨_, s1⟩, hf⟩ := fc_us (show ¬ (100 : Nat) < 100 from by decide) hf
  have s1 : (∀ b j, w_el ws b j = if b = v_ad (n_v vs 8) ∧ j = (v_iv (n_v vs 7)).toNat then v_iv (n_v vs 6) else w_el w1 b j) ∧ ∀ b k, w_fd ws b k = w_fd w1 b k := s1
  obtain ⟨f4, hf⟩ := fc_un (show (9 : Nat) < 100 from by decide) hf
  have f4 : n_v vs 8 = w_fd w1 (v_ad (n_v vs 4)) 10 := f4
  obtain ⟨f5, hf⟩ := fc_un (show (20 : Nat) < 100 from by decide) hf
  have f5 : 1 * w_fi w1 (n_v vs 4) 11 + ((-1) * v_iv (n_v vs 3) + 0) ≤ 0 := f5
  obtain ⟨ta2, w2, le2, ⟨_, s2⟩, hf⟩ := fc_us (show ¬ (100 : Nat) < 100 from by decide) hf
  have s2 : (∀ b j, w_el w1 b j = if b = v_ad (n_v vs 12) ∧ j = (v_iv (n_v vs 7)).toNat then v_iv (n_v vs 5) else w_el w2 b j) ∧ ∀ b k, w_fd w1 b k = w_fd w2 b k := s2
  obtain ⟨f7, hf⟩ := fc_un (show (9 : Nat) < 100 from by decide) hf
  have f7 : n_v vs 12 = w_fd w2 (v_ad (n_v vs 4)) 9 := f7
  obtain ⟨f8, hf⟩ := fc_un (show (20 : Nat) < 100 from by decide) hf
  have f8 : 1 * w_fi w2 (n_v vs 4) 11 + ((-1) * v_iv (n_v vs 3) + 0) ≤ 0 := f8
  have q4 : n_v vs 4 = n_v vs 0 := f2.symm
  rw [q4] at f0
  rw [q4] at f1
  rw [q4] at f4
  rw [q4] at f5
  rw [q4] at f7
  rw [q4] at f8
  have ar_0_9_1 : w_ar w1 (n_v vs 0) 9 = w_ar ws (n_v vs 0) 9 := by show v_ad (w_fd w1 _ _) = v_ad (w_fd ws _ _); rw [s1.2]
  have ar_0_9_2 : w_ar w2 (n_v vs 0) 9 = w_ar ws (n_v vs 0) 9 := by rw [← ar_0_9_1]; show v_ad (w_fd w2 _ _) = v_ad (w_fd w1 _ _); rw [s2.2]
  have cr_0_9 : ta (w_ar ws (n_v vs 0) 9) = some 95 := tv_rg (th_fd hD hth r0 (g := GG_6) rfl (k := 9) (t := (2, 0, 0, [95])) rfl rfl)
  have ar_0_10_1 : w_ar w1 (n_v vs 0) 10 = w_ar ws (n_v vs 0) 10 := by show v_ad (w_fd w1 _ _) = v_ad (w_fd ws _ _); rw [s1.2]
  have ar_0_10_2 : w_ar w2 (n_v vs 0) 10 = w_ar ws (n_v vs 0) 10 := by rw [← ar_0_10_1]; show v_ad (w_fd w2 _ _) = v_ad (w_fd w1 _ _); rw [s2.2]
  have cr_0_10 : ta (w_ar ws (n_v vs 0) 10) = some 96 := tv_rg (th_fd hD hth r0 (g := GG_6) rfl (k := 10) (t := (2, 0, 0, [96])) rfl rfl)
  have ad_8 : v_ad (n_v vs 8) = w_ar ws (n_v vs 0) 10 := (congrArg v_ad f4).trans ar_0_10_1
  have ad_12 : v_ad (n_v vs 12) = w_ar ws (n_v vs 0) 9 := (congrArg v_ad f7).trans ar_0_9_2
  have g0 : v_iv (n_v vs 13) = w_fi ws (n_v vs 0) 11 := congrArg v_iv f0
  have fe_0_11_1 : w_fi ws (n_v vs 0) 11 = w_fi w1 (n_v vs 0) 11 := congrArg v_iv (s1.2 _ _)
  have fe_0_11_2 : w_fi w1 (n_v vs 0) 11 = w_fi w2 (n_v vs 0) 11 := congrArg v_iv (s2.2 _ _)
  have kz_0_11 : 0 ≤ w_fi ws (n_v vs 0) 11 ∧ w_fi ws (n_v vs 0) 11 ≤ 32 := tv_rng (th_fd hD hth r0 (g := GG_6) rfl (k := 11) (t := (0, 0, 32, [])) rfl rfl)
  have rf13 : tv_ok ta (0, 0, 31, []) (n_v vs 13) := tv_in t13 (by omega) (by omega)
  refine ⟨List.forall_mem_cons.mpr ⟨rf13, (fun _ h => (by cases h))⟩, [], trivial, ?_, (fun _ h => (by cases h))⟩
  rw [List.append_nil]
  exact (fun _ h => (by cases h))
def o_Pl_insertItem_6 : or_T := (84, 16, [(0, (2, 0, 0, [6])), (3, (0, 0, 31, [])), (4, (2, 0, 0, [6])), (8, (2, 0, 0, [96])), (12, (2, 0, 0, [95])), (13, (0, 0, 31, [])), (14, (0, 1, 1, [])), (15, (0, 1, 32, []))], [(24, [0, 4], []), (101, [4, 15], [11]), (1, [15, 13, 14], []), (9, [13, 4], [11]), (20, [4, 3], [30, 0, 1, 1, 11, -1, 0, 0]), (100, [8, 7, 6], []), (9, [8, 4], [10]), (20, [4, 3], [30, 0, 1, 1, 11, -1, 0, 0]), (100, [12, 7, 5], []), (9, [12, 4], [9]), (20, [4, 3], [30, 0, 1, 1, 11, -1, 0, 0])], [], [], [(20, [0, 3], [30, 1, 1, 1, 11, -1, 0, 0])], [], [(15, 13, 1, 1)])
theorem oo_Pl_insertItem_6 {kA : Nat → ClassId} : or_ok kA GG o_Pl_insertItem_6 := by
  intro A ta ws vs hD hth hl hk hds hf
  have hl : vs.length = 16 := hl
  have hk : ∀ q ∈ ([(0, (2, 0, 0, [6])), (3, (0, 0, 31, [])), (4, (2, 0, 0, [6])), (8, (2, 0, 0, [96])), (12, (2, 0, 0, [95])), (13, (0, 0, 31, [])), (14, (0, 1, 1, [])), (15, (0, 1, 32, []))] : List (Nat × tv_T)), tv_ok ta q.2 (n_v vs q.1) := hk
  obtain ⟨t0, hk⟩ := List.forall_mem_cons.mp hk
  have t0 : tv_ok ta (2, 0, 0, [6]) (n_v vs 0) := t0
  have r0 : ta (v_ad (n_v vs 0)) = some 6 := tv_rg t0
  obtain ⟨t3, hk⟩ := List.forall_mem_cons.mp hk
  have t3 : tv_ok ta (0, 0, 31, []) (n_v vs 3) := t3
  have k3 : 0 ≤ v_iv (n_v vs 3) ∧ v_iv (n_v vs 3) ≤ 31 := tv_rng t3
  obtain ⟨t4, hk⟩ := List.forall_mem_cons.mp hk
  have t4 : tv_ok ta (2, 0, 0, [6]) (n_v vs 4) := t4
  have r4 : ta (v_ad (n_v vs 4)) = some 6 := tv_rg t4
  obtain ⟨t8, hk⟩ := List.forall_mem_cons.mp hk
  have t8 : tv_ok ta (2, 0, 0, [96]) (n_v vs 8) := t8
  have r8 : ta (v_ad (n_v vs 8)) = some 96 := tv_rg t8
  obtain ⟨t12, hk⟩ := List.forall_mem_cons.mp hk
  have t12 : tv_ok ta (2, 0, 0, [95]) (n_v vs 12) := t12
  have r12 : ta (v_ad (n_v vs 12)) = some 95 := tv_rg t12
  obtain ⟨t13, hk⟩ := List.forall_mem_cons.mp hk
  have t13 : tv_ok ta (0, 0, 31, []) (n_v vs 13) := t13
  have k13 : 0 ≤ v_iv (n_v vs 13) ∧ v_iv (n_v vs 13) ≤ 31 := tv_rng t13
  obtain ⟨t14, hk⟩ := List.forall_mem_cons.mp hk
  have t14 : tv_ok ta (0, 1, 1, []) (n_v vs 14) := t14
  have k14 : 1 ≤ v_iv (n_v vs 14) ∧ v_iv (n_v vs 14) ≤ 1 := tv_rng t14
  obtain ⟨t15, hk⟩ := List.forall_mem_cons.mp hk
  have t15 : tv_ok ta (0, 1, 32, []) (n_v vs 15) := t15
  have k15 : 1 ≤ v_iv (n_v vs 15) ∧ v_iv (n_v vs 15) ≤ 32 := tv_rng t15
  have hds : ∀ q ∈ ([(15, 13, 1, 1)] : List of_T), n_iv vs q.2.1 + q.2.2.1 ≤ n_iv vs q.1 ∧ n_iv vs q.1 ≤ n_iv vs q.2.1 + q.2.2.2 := hds
  obtain ⟨d0, hds⟩ := List.forall_mem_cons.mp hds
  have d0 : v_iv (n_v vs 13) + 1 ≤ v_iv (n_v vs 15) ∧ v_iv (n_v vs 15) ≤ v_iv (n_v vs 13) + 1 := d0
  have hf : fc_ok [(24, [0, 4], []), (101, [4, 15], [11]), (1, [15, 13, 14], []), (9, [13, 4], [11]), (20, [4, 3], [30, 0, 1, 1, 11, -1, 0, 0]), (100, [8, 7, 6], []), (9, [8, 4], [10]), (20, [4, 3], [30, 0, 1, 1, 11, -1, 0, 0]), (100, [12, 7, 5], []), (9, [12, 4], [9]), (20, [4, 3], [30, 0, 1, 1, 11, -1, 0, 0])] ta ws vs := hf
  obtain ⟨f0, hf⟩ := fc_un (show (24 : Nat) < 100 from by decide) hf
  have f0 : n_v vs 0 = n_v vs 4 := f0
  obtain ⟨ta1, w1, le1, ⟨_, s1⟩, hf⟩ := fc_us (show ¬ (101 : Nat) < 100 from by decide) hf
  have s1 : (∀ b j, w_el ws b j = w_el w1 b j) ∧ ∀ b j, w_fd ws b j = if b = v_ad (n_v vs 4) ∧ j = 11 then n_v vs 15 else w_fd w1 b j := s1
  obtain ⟨f2, hf⟩ := fc_un (show (1 : Nat) < 100 from by decide) hf
  have f2 : v_iv (n_v vs 15) = v_iv (n_v vs 13) + v_iv (n_v vs 14) := f2
  obtain ⟨f3, hf⟩ := fc_un (show (9 : Nat) < 100 from by decide) hf
  have f3 : n_v vs 13 = w_fd w1 (v_ad (n_v vs 4)) 11 := f3
  obtain ⟨f4, hf⟩ := fc_un (show (20 : Nat) < 100 from by decide) hf
  have f4 : 1 * w_fi w1 (n_v vs 4) 11 + ((-1) * v_iv (n_v vs 3) + 0) ≤ 0 := f4
  obtain ⟨ta2, w2, le2, ⟨_, s2⟩, hf⟩ := fc_us (show ¬ (100 : Nat) < 100 from by decide) hf
  have s2 : (∀ b j, w_el w1 b j = if b = v_ad (n_v vs 8) ∧ j = (v_iv (n_v vs 7)).toNat then v_iv (n_v vs 6) else w_el w2 b j) ∧ ∀ b k, w_fd w1 b k = w_fd w2 b k := s2
  obtain ⟨f6, hf⟩ := fc_un (show (9 : Nat) < 100 from by decide) hf
  have f6 : n_v vs 8 = w_fd w2 (v_ad (n_v vs 4)) 10 := f6
  obtain ⟨f7, hf⟩ := fc_un (show (20 : Nat) < 100 from by decide) hf
  have f7 : 1 * w_fi w2 (n_v vs 4) 11 + ((-1) * v_iv (n_v vs 3) + 0) ≤ 0 := f7
  obtain ⟨ta3, w3, le3, ⟨_, s3⟩, hf⟩ := fc_us (show ¬ (100 : Nat) < 100 from by decide) hf
  have s3 : (∀ b j, w_el w2 b j = if b = v_ad (n_v vs 12) ∧ j = (v_iv (n_v vs 7)).toNat then v_iv (n_v vs 5) else w_el w3 b j) ∧ ∀ b k, w_fd w2 b k = w_fd w3 b k := s3
  obtain ⟨f9, hf⟩ := fc_un (show (9 : Nat) < 100 from by decide) hf
  have f9 : n_v vs 12 = w_fd w3 (v_ad (n_v vs 4)) 9 := f9
  obtain ⟨f10, hf⟩ := fc_un (show (20 : Nat) < 100 from by decide) hf
  have f10 : 1 * w_fi w3 (n_v vs 4) 11 + ((-1) * v_iv (n_v vs 3) + 0) ≤ 0 := f10
  have q4 : n_v vs 4 = n_v vs 0 := f0.symm
  rw [q4] at s1
  rw [q4] at f3
  rw [q4] at f4
  rw [q4] at f6
  rw [q4] at f7
  rw [q4] at f9
  rw [q4] at f10
  have ar_0_9_1 : w_ar w1 (n_v vs 0) 9 = w_ar ws (n_v vs 0) 9 := by show v_ad (w_fd w1 _ _) = v_ad (w_fd ws _ _); rw [s1.2, if_neg (fun e => absurd e.2 (by decide))]
  have ar_0_9_2 : w_ar w2 (n_v vs 0) 9 = w_ar ws (n_v vs 0) 9 := by rw [← ar_0_9_1]; show v_ad (w_fd w2 _ _) = v_ad (w_fd w1 _ _); rw [s2.2]
  have ar_0_9_3 : w_ar w3 (n_v vs 0) 9 = w_ar ws (n_v vs 0) 9 := by rw [← ar_0_9_2]; show v_ad (w_fd w3 _ _) = v_ad (w_fd w2 _ _); rw [s3.2]
  have cr_0_9 : ta (w_ar ws (n_v vs 0) 9) = some 95 := tv_rg (th_fd hD hth r0 (g := GG_6) rfl (k := 9) (t := (2, 0, 0, [95])) rfl rfl)
  have ar_0_10_1 : w_ar w1 (n_v vs 0) 10 = w_ar ws (n_v vs 0) 10 := by show v_ad (w_fd w1 _ _) = v_ad (w_fd ws _ _); rw [s1.2, if_neg (fun e => absurd e.2 (by decide))]
  have ar_0_10_2 : w_ar w2 (n_v vs 0) 10 = w_ar ws (n_v vs 0) 10 := by rw [← ar_0_10_1]; show v_ad (w_fd w2 _ _) = v_ad (w_fd w1 _ _); rw [s2.2]
  have ar_0_10_3 : w_ar w3 (n_v vs 0) 10 = w_ar ws (n_v vs 0) 10 := by rw [← ar_0_10_2]; show v_ad (w_fd w3 _ _) = v_ad (w_fd w2 _ _); rw [s3.2]
  have cr_0_10 : ta (w_ar ws (n_v vs 0) 10) = some 96 := tv_rg (th_fd hD hth r0 (g := GG_6) rfl (k := 10) (t := (2, 0, 0, [96])) rfl rfl)
  have ad_8 : v_ad (n_v vs 8) = w_ar ws (n_v vs 0) 10 := (congrArg v_ad f6).trans ar_0_10_2
  have ad_12 : v_ad (n_v vs 12) = w_ar ws (n_v vs 0) 9 := (congrArg v_ad f9).trans ar_0_9_3
  have g3 : v_iv (n_v vs 13) = w_fi w1 (n_v vs 0) 11 := congrArg v_iv f3
  have fe_0_11_1 : w_fi ws (n_v vs 0) 11 = v_iv (n_v vs 15) := by show v_iv (w_fd _ _ _) = _; rw [s1.2, if_pos ⟨rfl, rfl⟩]
  have fe_0_11_2 : w_fi w1 (n_v vs 0) 11 = w_fi w2 (n_v vs 0) 11 := congrArg v_iv (s2.2 _ _)
  have fe_0_11_3 : w_fi w2 (n_v vs 0) 11 = w_fi w3 (n_v vs 0) 11 := congrArg v_iv (s3.2 _ _)
  have kz_0_11 : 0 ≤ w_fi ws (n_v vs 0) 11 ∧ w_fi ws (n_v vs 0) 11 ≤ 32 := tv_rng (th_fd hD hth r0 (g := GG_6) rfl (k := 11) (t := (0, 0, 32, [])) rfl rfl)
  have nf0 : fc_1 (20, [0, 3], [30, 1, 1, 1, 11, -1, 0, 0]) ws (vs) := by
    refine ⟨fun n hn => ?_, ?_⟩
    · have hn : n ∈ [0, 3] := hn
      rw [hl]
      simp only [List.mem_cons, List.not_mem_nil, or_false] at hn
      show n < 16; omega
    · show 1 * w_fi ws (n_v vs 0) 11 + ((-1) * v_iv (n_v vs 3) + 0) ≤ 1
      omega
  refine ⟨(fun _ h => (by cases h)), [], trivial, ?_, (fun _ h => (by cases h))⟩
  rw [List.append_nil]
  exact List.forall_mem_cons.mpr ⟨⟨show (20 : Nat) < 100 from by decide, nf0⟩, (fun _ h => (by cases h))⟩
def n_Pl_insertItem_an : List an_T := [(10, [(0, (2, 0, 0, [6])), (1, (0, 0, 31, [])), (2, (0, -2147483648, 2147483647, [])), (3, (0, 0, 31, []))], [], (0, 0), [(0, 0, 99990), (2, 7, 0), (0, 0, 100000)], [(1, 3, -1000000000000, 31), (1, 5, -1000000000000, 0), (1, 7, -1000000000000, 31), (2, 6, -1000000000000, 0), (3, 1, -1000000000000, 31), (3, 5, -1000000000000, 31), (3, 7, -1000000000000, 31), (5, 1, -1000000000000, 0), (5, 3, -1000000000000, 31), (5, 7, -1000000000000, 31), (6, 2, -1000000000000, 0), (7, 1, -1000000000000, 31), (7, 3, -1000000000000, 31), (7, 5, -1000000000000, 31)], [], [(2, 0, 0, [6]), (0, 0, 31, []), (0, -2147483648, 2147483647, []), (0, 0, 31, [])], 0, [], [(20, [4, 3], [30, 0, 1, 1, 11, -1, 0, 0]), (24, [0, 4], [])])]
def t_Pl_insertItem_ct : ct_L := []
set_option maxRecDepth 100000 in
theorem c_Pl_insertItem {l : Launch} {D : va_G} {kA : Nat → ClassId} : ct_ok l D kA GG y_Pl_insertItem z_Pl_insertItem e_Pl_insertItem := chk_all_ok (FT := [(42, 6, 9), (45, 6, 10), (48, 6, 11)]) (PT := [(48, 6, 11, .int)]) (CT := t_Pl_insertItem_ct) (KT := []) (NT := []) (AN := n_Pl_insertItem_an) (OT := [o_Pl_insertItem_0, o_Pl_insertItem_1, o_Pl_insertItem_2, o_Pl_insertItem_3, o_Pl_insertItem_4, o_Pl_insertItem_5, o_Pl_insertItem_6]) 3 288 (List.forall_mem_cons.mpr ⟨oo_Pl_insertItem_0, List.forall_mem_cons.mpr ⟨oo_Pl_insertItem_1, List.forall_mem_cons.mpr ⟨oo_Pl_insertItem_2, List.forall_mem_cons.mpr ⟨oo_Pl_insertItem_3, List.forall_mem_cons.mpr ⟨oo_Pl_insertItem_4, List.forall_mem_cons.mpr ⟨oo_Pl_insertItem_5, List.forall_mem_cons.mpr ⟨oo_Pl_insertItem_6, List.forall_mem_nil _⟩⟩⟩⟩⟩⟩⟩) (by decide +kernel) ⟨List.forall_mem_cons.mpr ⟨gf_Pl_42, List.forall_mem_cons.mpr ⟨gf_Pl_45, List.forall_mem_cons.mpr ⟨gf_Pl_48, List.forall_mem_nil _⟩⟩⟩, List.forall_mem_cons.mpr ⟨pf_Pl_48, List.forall_mem_nil _⟩, List.forall_mem_nil _, List.forall_mem_nil _, List.forall_mem_nil _, GG_pl⟩ (by decide +kernel)
def n_Pl_leastOfPart_an : List an_T := [(2, [(0, (2, 0, 0, [6])), (1, (2, 0, 0, [2])), (2, (0, 0, 23, [])), (3, (0, 0, 24, []))], [], (0, 0), [(0, 0, 99998), (1, 3, 24), (0, 0, 100000)], [], [((0, 0), (2, 0, 0, [3]))], [], 0, [], [])]
def t_Pl_leastOfPart_ct : ct_L := []
set_option maxRecDepth 100000 in
theorem c_Pl_leastOfPart {l : Launch} {D : va_G} {kA : Nat → ClassId} : ct_ok l D kA GG y_Pl_leastOfPart z_Pl_leastOfPart e_Pl_leastOfPart := chk_all_ok (FT := [(9, 6, 0), (74, 3, 0), (109, 2, 4)]) (PT := []) (CT := t_Pl_leastOfPart_ct) (KT := []) (NT := []) (AN := n_Pl_leastOfPart_an) (OT := []) 3 200 (List.forall_mem_nil _) (by decide +kernel) ⟨List.forall_mem_cons.mpr ⟨gf_Pl_9, List.forall_mem_cons.mpr ⟨gf_Pl_74, List.forall_mem_cons.mpr ⟨gf_Pl_109, List.forall_mem_nil _⟩⟩⟩, List.forall_mem_nil _, List.forall_mem_nil _, List.forall_mem_nil _, List.forall_mem_nil _, GG_pl⟩ (by decide +kernel)
def n_Pl_root_an : List an_T := [(6, [(0, (1, -9223372036854775808, 9223372036854775807, [])), (2, (1, -9223372036854775808, 9223372036854775807, [])), (4, (0, -1, 20, []))], [], (0, 0), [(0, 0, 99994), (2, 2, -1), (0, 0, 100000)], [], [], [], 0, [], [])]
def t_Pl_root_ct : ct_L := []
set_option maxRecDepth 100000 in
theorem c_Pl_root {l : Launch} {D : va_G} {kA : Nat → ClassId} : ct_ok l D kA GG y_Pl_root z_Pl_root e_Pl_root := chk_all_ok (FT := []) (PT := []) (CT := t_Pl_root_ct) (KT := []) (NT := []) (AN := n_Pl_root_an) (OT := []) 3 200 (List.forall_mem_nil _) (by decide +kernel) ⟨List.forall_mem_nil _, List.forall_mem_nil _, List.forall_mem_nil _, List.forall_mem_nil _, List.forall_mem_nil _, GG_pl⟩ (by decide +kernel)
def n_Pl_setArea_an : List an_T := []
def t_Pl_setArea_ct : ct_L := []
set_option maxRecDepth 100000 in
theorem c_Pl_setArea {l : Launch} {D : va_G} {kA : Nat → ClassId} : ct_ok l D kA GG y_Pl_setArea z_Pl_setArea e_Pl_setArea := chk_all_ok (FT := [(15, 6, 1), (153, 0, 13)]) (PT := []) (CT := t_Pl_setArea_ct) (KT := []) (NT := []) (AN := n_Pl_setArea_an) (OT := []) 0 200 (List.forall_mem_nil _) (by decide +kernel) ⟨List.forall_mem_cons.mpr ⟨gf_Pl_15, List.forall_mem_cons.mpr ⟨gf_Pl_153, List.forall_mem_nil _⟩⟩, List.forall_mem_nil _, List.forall_mem_nil _, List.forall_mem_nil _, List.forall_mem_nil _, GG_pl⟩ (by decide +kernel)
def n_Pl_walkTree_an : List an_T := [(33, [(0, (2, 0, 0, [6])), (1, (0, 0, 23, [])), (2, (0, 0, 23, [])), (3, (0, 0, 16777215, [])), (4, (0, 1, 24, [])), (5, (0, 0, 24, []))], [], (0, 0), [(0, 0, 99967), (1, 5, 24), (0, 0, 100000), (0, 0, 0), (0, 0, 0)], [], [((0, 0), (2, 0, 0, [3]))], [], 0, [], []), (52, [(0, (2, 0, 0, [6])), (1, (0, 0, 23, [])), (2, (0, 0, 23, [])), (3, (0, 0, 16777215, [])), (4, (0, 1, 24, [])), (5, (0, 0, 23, [])), (6, (0, 0, 23, [])), (7, (0, 0, 24, []))], [], (0, 0), [(0, 0, 99967), (1, 5, 24), (0, 0, 99948), (1, 7, 24), (0, 0, 100000)], [], [((0, 0), (2, 0, 0, [3]))], [], 0, [], [])]
def t_Pl_walkTree_ct : ct_L := []
set_option maxRecDepth 100000 in
theorem c_Pl_walkTree {l : Launch} {D : va_G} {kA : Nat → ClassId} : ct_ok l D kA GG y_Pl_walkTree z_Pl_walkTree e_Pl_walkTree := chk_all_ok (FT := [(9, 6, 0), (19, 6, 2), (26, 6, 4), (29, 6, 5), (74, 3, 0), (138, 3, 14)]) (PT := []) (CT := t_Pl_walkTree_ct) (KT := []) (NT := []) (AN := n_Pl_walkTree_an) (OT := []) 5 392 (List.forall_mem_nil _) (by decide +kernel) ⟨List.forall_mem_cons.mpr ⟨gf_Pl_9, List.forall_mem_cons.mpr ⟨gf_Pl_19, List.forall_mem_cons.mpr ⟨gf_Pl_26, List.forall_mem_cons.mpr ⟨gf_Pl_29, List.forall_mem_cons.mpr ⟨gf_Pl_74, List.forall_mem_cons.mpr ⟨gf_Pl_138, List.forall_mem_nil _⟩⟩⟩⟩⟩⟩, List.forall_mem_nil _, List.forall_mem_nil _, List.forall_mem_nil _, List.forall_mem_nil _, GG_pl⟩ (by decide +kernel)
def n_Pn_firstLongFace_an : List an_T := [(2, [(0, (2, 0, 0, [7])), (1, (0, 0, 144, []))], [], (0, 0), [(0, 0, 99998), (1, 1, 144), (0, 0, 100000)], [], [], [], 0, [], [])]
def t_Pn_firstLongFace_ct : ct_L := []
set_option maxRecDepth 100000 in
theorem c_Pn_firstLongFace {l : Launch} {D : va_G} {kA : Nat → ClassId} : ct_ok l D kA GG y_Pn_firstLongFace z_Pn_firstLongFace e_Pn_firstLongFace := chk_all_ok (FT := [(12, 7, 0), (122, 5, 13), (125, 5, 14)]) (PT := []) (CT := t_Pn_firstLongFace_ct) (KT := []) (NT := []) (AN := n_Pn_firstLongFace_an) (OT := []) 3 200 (List.forall_mem_nil _) (by decide +kernel) ⟨List.forall_mem_cons.mpr ⟨gf_Pn_12, List.forall_mem_cons.mpr ⟨gf_Pn_122, List.forall_mem_cons.mpr ⟨gf_Pn_125, List.forall_mem_nil _⟩⟩⟩, List.forall_mem_nil _, List.forall_mem_nil _, List.forall_mem_nil _, List.forall_mem_nil _, GG_pl⟩ (by decide +kernel)
def n_Pn_leftFace_an : List an_T := []
def t_Pn_leftFace_ct : ct_L := []
set_option maxRecDepth 100000 in
theorem c_Pn_leftFace {l : Launch} {D : va_G} {kA : Nat → ClassId} : ct_ok l D kA GG y_Pn_leftFace z_Pn_leftFace e_Pn_leftFace := chk_all_ok (FT := [(162, 5, 7), (165, 5, 8), (228, 5, 16)]) (PT := []) (CT := t_Pn_leftFace_ct) (KT := []) (NT := []) (AN := n_Pn_leftFace_an) (OT := []) 0 200 (List.forall_mem_nil _) (by decide +kernel) ⟨List.forall_mem_cons.mpr ⟨gf_Pn_162, List.forall_mem_cons.mpr ⟨gf_Pn_165, List.forall_mem_cons.mpr ⟨gf_Pn_228, List.forall_mem_nil _⟩⟩⟩, List.forall_mem_nil _, List.forall_mem_nil _, List.forall_mem_nil _, List.forall_mem_nil _, GG_pl⟩ (by decide +kernel)
def n_Pn_rightFace_an : List an_T := []
def t_Pn_rightFace_ct : ct_L := []
set_option maxRecDepth 100000 in
theorem c_Pn_rightFace {l : Launch} {D : va_G} {kA : Nat → ClassId} : ct_ok l D kA GG y_Pn_rightFace z_Pn_rightFace e_Pn_rightFace := chk_all_ok (FT := [(162, 5, 7), (165, 5, 8), (228, 5, 16)]) (PT := []) (CT := t_Pn_rightFace_ct) (KT := []) (NT := []) (AN := n_Pn_rightFace_an) (OT := []) 0 200 (List.forall_mem_nil _) (by decide +kernel) ⟨List.forall_mem_cons.mpr ⟨gf_Pn_162, List.forall_mem_cons.mpr ⟨gf_Pn_165, List.forall_mem_cons.mpr ⟨gf_Pn_228, List.forall_mem_nil _⟩⟩⟩, List.forall_mem_nil _, List.forall_mem_nil _, List.forall_mem_nil _, List.forall_mem_nil _, GG_pl⟩ (by decide +kernel)
def n_Pn_shiftUnder_an : List an_T := [(3, [(0, (2, 0, 0, [7])), (1, (2, 0, 0, [0])), (2, (0, 0, 23, [])), (3, (0, 1, 2, [])), (4, (0, 0, 24, []))], [], (0, 0), [(0, 0, 99997), (1, 4, 24), (0, 0, 100000)], [], [], [], 0, [], [])]
def t_Pn_shiftUnder_ct : ct_L := []
set_option maxRecDepth 100000 in
theorem c_Pn_shiftUnder {l : Launch} {D : va_G} {kA : Nat → ClassId} : ct_ok l D kA GG y_Pn_shiftUnder z_Pn_shiftUnder e_Pn_shiftUnder := chk_all_ok (FT := [(12, 7, 0), (29, 7, 4), (86, 5, 5), (177, 0, 2)]) (PT := []) (CT := t_Pn_shiftUnder_ct) (KT := []) (NT := []) (AN := n_Pn_shiftUnder_an) (OT := []) 3 200 (List.forall_mem_nil _) (by decide +kernel) ⟨List.forall_mem_cons.mpr ⟨gf_Pn_12, List.forall_mem_cons.mpr ⟨gf_Pn_29, List.forall_mem_cons.mpr ⟨gf_Pn_86, List.forall_mem_cons.mpr ⟨gf_Pn_177, List.forall_mem_nil _⟩⟩⟩⟩, List.forall_mem_nil _, List.forall_mem_nil _, List.forall_mem_nil _, List.forall_mem_nil _, GG_pl⟩ (by decide +kernel)
def o_Re_append_0 : or_T := (3, 4, [(0, (2, 0, 0, [8])), (2, (0, 0, 1996, [])), (3, (0, 24, 24, []))], [(20, [0, 2], [30, 0, 1, 1, 1, -1, 0, 0])], [], [], [(20, [0, 3, 2], [30, 24, 8, 1, 1, 1, 0, 0, -8, 0, 0]), (24, [0, 0], [])], [], [])
theorem oo_Re_append_0 {kA : Nat → ClassId} : or_ok kA GG o_Re_append_0 := by
  intro A ta ws vs hD hth hl hk hds hf
  have hl : vs.length = 4 := hl
  have hk : ∀ q ∈ ([(0, (2, 0, 0, [8])), (2, (0, 0, 1996, [])), (3, (0, 24, 24, []))] : List (Nat × tv_T)), tv_ok ta q.2 (n_v vs q.1) := hk
  obtain ⟨t0, hk⟩ := List.forall_mem_cons.mp hk
  have t0 : tv_ok ta (2, 0, 0, [8]) (n_v vs 0) := t0
  have r0 : ta (v_ad (n_v vs 0)) = some 8 := tv_rg t0
  obtain ⟨t2, hk⟩ := List.forall_mem_cons.mp hk
  have t2 : tv_ok ta (0, 0, 1996, []) (n_v vs 2) := t2
  have k2 : 0 ≤ v_iv (n_v vs 2) ∧ v_iv (n_v vs 2) ≤ 1996 := tv_rng t2
  obtain ⟨t3, hk⟩ := List.forall_mem_cons.mp hk
  have t3 : tv_ok ta (0, 24, 24, []) (n_v vs 3) := t3
  have k3 : 24 ≤ v_iv (n_v vs 3) ∧ v_iv (n_v vs 3) ≤ 24 := tv_rng t3
  have hf : fc_ok [(20, [0, 2], [30, 0, 1, 1, 1, -1, 0, 0])] ta ws vs := hf
  obtain ⟨f0, hf⟩ := fc_un (show (20 : Nat) < 100 from by decide) hf
  have f0 : 1 * w_fi ws (n_v vs 0) 1 + ((-1) * v_iv (n_v vs 2) + 0) ≤ 0 := f0
  have kz_0_1 : 0 ≤ w_fi ws (n_v vs 0) 1 ∧ w_fi ws (n_v vs 0) 1 ≤ 2000 := tv_rng (th_fd hD hth r0 (g := GG_8) rfl (k := 1) (t := (0, 0, 2000, [])) rfl rfl)
  have nf0 : fc_1 (20, [0, 3, 2], [30, 24, 8, 1, 1, 1, 0, 0, -8, 0, 0]) ws (vs) := by
    refine ⟨fun n hn => ?_, ?_⟩
    · have hn : n ∈ [0, 3, 2] := hn
      rw [hl]
      simp only [List.mem_cons, List.not_mem_nil, or_false] at hn
      show n < 4; omega
    · show 8 * w_fi ws (n_v vs 0) 1 + (1 * v_iv (n_v vs 3) + ((-8) * v_iv (n_v vs 2) + 0)) ≤ 24
      omega
  have nf1 : fc_1 (24, [0, 0], []) ws (vs) := by
    refine ⟨fun n hn => ?_, ?_⟩
    · have hn : n ∈ [0, 0] := hn
      rw [hl]
      simp only [List.mem_cons, List.not_mem_nil, or_false] at hn
      show n < 4; omega
    · show n_v vs 0 = n_v vs 0
      first | rfl | simp only [true_and]
  refine ⟨(fun _ h => (by cases h)), [], trivial, ?_, (fun _ h => (by cases h))⟩
  rw [List.append_nil]
  exact List.forall_mem_cons.mpr ⟨⟨show (20 : Nat) < 100 from by decide, nf0⟩, List.forall_mem_cons.mpr ⟨⟨show (24 : Nat) < 100 from by decide, nf1⟩, (fun _ h => (by cases h))⟩⟩
def o_Re_append_1 : or_T := (36, 7, [(0, (2, 0, 0, [8])), (2, (0, 0, 1996, [])), (3, (2, 0, 0, [8])), (5, (0, -8, -1, []))], [(8, [5], [2]), (20, [3, 5, 2], [30, 24, 8, 1, 1, 1, 0, 0, -8, 0, 0]), (24, [0, 3], [])], [], [], [(20, [0, 2], [30, 4, 1, 1, 1, -1, 0, 0])], [], [(5, 2, -4294967296, 24)])
theorem oo_Re_append_1 {kA : Nat → ClassId} : or_ok kA GG o_Re_append_1 := by
  intro A ta ws vs hD hth hl hk hds hf
  have hl : vs.length = 7 := hl
  have hk : ∀ q ∈ ([(0, (2, 0, 0, [8])), (2, (0, 0, 1996, [])), (3, (2, 0, 0, [8])), (5, (0, -8, -1, []))] : List (Nat × tv_T)), tv_ok ta q.2 (n_v vs q.1) := hk
  obtain ⟨t0, hk⟩ := List.forall_mem_cons.mp hk
  have t0 : tv_ok ta (2, 0, 0, [8]) (n_v vs 0) := t0
  have r0 : ta (v_ad (n_v vs 0)) = some 8 := tv_rg t0
  obtain ⟨t2, hk⟩ := List.forall_mem_cons.mp hk
  have t2 : tv_ok ta (0, 0, 1996, []) (n_v vs 2) := t2
  have k2 : 0 ≤ v_iv (n_v vs 2) ∧ v_iv (n_v vs 2) ≤ 1996 := tv_rng t2
  obtain ⟨t3, hk⟩ := List.forall_mem_cons.mp hk
  have t3 : tv_ok ta (2, 0, 0, [8]) (n_v vs 3) := t3
  have r3 : ta (v_ad (n_v vs 3)) = some 8 := tv_rg t3
  obtain ⟨t5, hk⟩ := List.forall_mem_cons.mp hk
  have t5 : tv_ok ta (0, -8, -1, []) (n_v vs 5) := t5
  have k5 : (-8) ≤ v_iv (n_v vs 5) ∧ v_iv (n_v vs 5) ≤ (-1) := tv_rng t5
  have hds : ∀ q ∈ ([(5, 2, -4294967296, 24)] : List of_T), n_iv vs q.2.1 + q.2.2.1 ≤ n_iv vs q.1 ∧ n_iv vs q.1 ≤ n_iv vs q.2.1 + q.2.2.2 := hds
  obtain ⟨d0, hds⟩ := List.forall_mem_cons.mp hds
  have d0 : v_iv (n_v vs 2) + (-4294967296) ≤ v_iv (n_v vs 5) ∧ v_iv (n_v vs 5) ≤ v_iv (n_v vs 2) + 24 := d0
  have hf : fc_ok [(8, [5], [2]), (20, [3, 5, 2], [30, 24, 8, 1, 1, 1, 0, 0, -8, 0, 0]), (24, [0, 3], [])] ta ws vs := hf
  obtain ⟨f0, hf⟩ := fc_un (show (8 : Nat) < 100 from by decide) hf
  have f0 : v_iv (n_v vs 5) < 0 := f0
  obtain ⟨f1, hf⟩ := fc_un (show (20 : Nat) < 100 from by decide) hf
  have f1 : 8 * w_fi ws (n_v vs 3) 1 + (1 * v_iv (n_v vs 5) + ((-8) * v_iv (n_v vs 2) + 0)) ≤ 24 := f1
  obtain ⟨f2, hf⟩ := fc_un (show (24 : Nat) < 100 from by decide) hf
  have f2 : n_v vs 0 = n_v vs 3 := f2
  have q3 : n_v vs 3 = n_v vs 0 := f2.symm
  rw [q3] at f1
  have kz_0_1 : 0 ≤ w_fi ws (n_v vs 0) 1 ∧ w_fi ws (n_v vs 0) 1 ≤ 2000 := tv_rng (th_fd hD hth r0 (g := GG_8) rfl (k := 1) (t := (0, 0, 2000, [])) rfl rfl)
  have nf0 : fc_1 (20, [0, 2], [30, 4, 1, 1, 1, -1, 0, 0]) ws (vs) := by
    refine ⟨fun n hn => ?_, ?_⟩
    · have hn : n ∈ [0, 2] := hn
      rw [hl]
      simp only [List.mem_cons, List.not_mem_nil, or_false] at hn
      show n < 7; omega
    · show 1 * w_fi ws (n_v vs 0) 1 + ((-1) * v_iv (n_v vs 2) + 0) ≤ 4
      omega
  refine ⟨(fun _ h => (by cases h)), [], trivial, ?_, (fun _ h => (by cases h))⟩
  rw [List.append_nil]
  exact List.forall_mem_cons.mpr ⟨⟨show (20 : Nat) < 100 from by decide, nf0⟩, (fun _ h => (by cases h))⟩
def o_Re_append_2 : or_T := (19, 10, [(0, (2, 0, 0, [8])), (2, (0, 0, 1996, [])), (3, (2, 0, 0, [8])), (5, (0, 0, 24, [])), (6, (0, 0, 2000, []))], [(9, [6, 3], [1]), (8, [5], [3]), (20, [3, 5, 2], [30, 24, 8, 1, 1, 1, 0, 0, -8, 0, 0]), (24, [0, 3], [])], [(6, (0, 0, 1999, []))], [], [], [], [(2, 6, -4294967296, 1996), (5, 2, -4294967296, 24), (5, 6, -4294967296, 24), (6, 2, -4294967296, 2000)])
theorem oo_Re_append_2 {kA : Nat → ClassId} : or_ok kA GG o_Re_append_2 := by
  intro A ta ws vs hD hth hl hk hds hf
  have hl : vs.length = 10 := hl
  have hk : ∀ q ∈ ([(0, (2, 0, 0, [8])), (2, (0, 0, 1996, [])), (3, (2, 0, 0, [8])), (5, (0, 0, 24, [])), (6, (0, 0, 2000, []))] : List (Nat × tv_T)), tv_ok ta q.2 (n_v vs q.1) := hk
  obtain ⟨t0, hk⟩ := List.forall_mem_cons.mp hk
  have t0 : tv_ok ta (2, 0, 0, [8]) (n_v vs 0) := t0
  have r0 : ta (v_ad (n_v vs 0)) = some 8 := tv_rg t0
  obtain ⟨t2, hk⟩ := List.forall_mem_cons.mp hk
  have t2 : tv_ok ta (0, 0, 1996, []) (n_v vs 2) := t2
  have k2 : 0 ≤ v_iv (n_v vs 2) ∧ v_iv (n_v vs 2) ≤ 1996 := tv_rng t2
  obtain ⟨t3, hk⟩ := List.forall_mem_cons.mp hk
  have t3 : tv_ok ta (2, 0, 0, [8]) (n_v vs 3) := t3
  have r3 : ta (v_ad (n_v vs 3)) = some 8 := tv_rg t3
  obtain ⟨t5, hk⟩ := List.forall_mem_cons.mp hk
  have t5 : tv_ok ta (0, 0, 24, []) (n_v vs 5) := t5
  have k5 : 0 ≤ v_iv (n_v vs 5) ∧ v_iv (n_v vs 5) ≤ 24 := tv_rng t5
  obtain ⟨t6, hk⟩ := List.forall_mem_cons.mp hk
  have t6 : tv_ok ta (0, 0, 2000, []) (n_v vs 6) := t6
  have k6 : 0 ≤ v_iv (n_v vs 6) ∧ v_iv (n_v vs 6) ≤ 2000 := tv_rng t6
  have hds : ∀ q ∈ ([(2, 6, -4294967296, 1996), (5, 2, -4294967296, 24), (5, 6, -4294967296, 24), (6, 2, -4294967296, 2000)] : List of_T), n_iv vs q.2.1 + q.2.2.1 ≤ n_iv vs q.1 ∧ n_iv vs q.1 ≤ n_iv vs q.2.1 + q.2.2.2 := hds
  obtain ⟨d0, hds⟩ := List.forall_mem_cons.mp hds
  have d0 : v_iv (n_v vs 6) + (-4294967296) ≤ v_iv (n_v vs 2) ∧ v_iv (n_v vs 2) ≤ v_iv (n_v vs 6) + 1996 := d0
  obtain ⟨d1, hds⟩ := List.forall_mem_cons.mp hds
  have d1 : v_iv (n_v vs 2) + (-4294967296) ≤ v_iv (n_v vs 5) ∧ v_iv (n_v vs 5) ≤ v_iv (n_v vs 2) + 24 := d1
  obtain ⟨d2, hds⟩ := List.forall_mem_cons.mp hds
  have d2 : v_iv (n_v vs 6) + (-4294967296) ≤ v_iv (n_v vs 5) ∧ v_iv (n_v vs 5) ≤ v_iv (n_v vs 6) + 24 := d2
  obtain ⟨d3, hds⟩ := List.forall_mem_cons.mp hds
  have d3 : v_iv (n_v vs 2) + (-4294967296) ≤ v_iv (n_v vs 6) ∧ v_iv (n_v vs 6) ≤ v_iv (n_v vs 2) + 2000 := d3
  have hf : fc_ok [(9, [6, 3], [1]), (8, [5], [3]), (20, [3, 5, 2], [30, 24, 8, 1, 1, 1, 0, 0, -8, 0, 0]), (24, [0, 3], [])] ta ws vs := hf
  obtain ⟨f0, hf⟩ := fc_un (show (9 : Nat) < 100 from by decide) hf
  have f0 : n_v vs 6 = w_fd ws (v_ad (n_v vs 3)) 1 := f0
  obtain ⟨f1, hf⟩ := fc_un (show (8 : Nat) < 100 from by decide) hf
  have f1 : 0 ≤ v_iv (n_v vs 5) := f1
  obtain ⟨f2, hf⟩ := fc_un (show (20 : Nat) < 100 from by decide) hf
  have f2 : 8 * w_fi ws (n_v vs 3) 1 + (1 * v_iv (n_v vs 5) + ((-8) * v_iv (n_v vs 2) + 0)) ≤ 24 := f2
  obtain ⟨f3, hf⟩ := fc_un (show (24 : Nat) < 100 from by decide) hf
  have f3 : n_v vs 0 = n_v vs 3 := f3
  have q3 : n_v vs 3 = n_v vs 0 := f3.symm
  rw [q3] at f0
  rw [q3] at f2
  have g0 : v_iv (n_v vs 6) = w_fi ws (n_v vs 0) 1 := congrArg v_iv f0
  have kz_0_1 : 0 ≤ w_fi ws (n_v vs 0) 1 ∧ w_fi ws (n_v vs 0) 1 ≤ 2000 := tv_rng (th_fd hD hth r0 (g := GG_8) rfl (k := 1) (t := (0, 0, 2000, [])) rfl rfl)
  have rf6 : tv_ok ta (0, 0, 1999, []) (n_v vs 6) := tv_in t6 (by omega) (by omega)
  refine ⟨List.forall_mem_cons.mpr ⟨rf6, (fun _ h => (by cases h))⟩, [], trivial, ?_, (fun _ h => (by cases h))⟩
  rw [List.append_nil]
  exact (fun _ h => (by cases h))
def o_Re_append_3 : or_T := (3, 13, [(0, (2, 0, 0, [8])), (2, (0, 0, 1996, [])), (3, (2, 0, 0, [8])), (5, (0, 0, 24, [])), (6, (0, 0, 1999, [])), (10, (0, 1, 1, [])), (11, (0, 1, 2000, [])), (12, (0, -8, 16, []))], [(6, [12, 5], [-8]), (24, [0, 3], []), (101, [3, 11], [1]), (1, [11, 6, 10], []), (9, [6, 3], [1]), (20, [3, 5, 2], [30, 24, 8, 1, 1, 1, 0, 0, -8, 0, 0]), (103, [7], []), (8, [5], [3]), (20, [3, 5, 2], [30, 24, 8, 1, 1, 1, 0, 0, -8, 0, 0])], [], [], [(20, [3, 12, 2], [30, 24, 8, 1, 1, 1, 0, 0, -8, 0, 0])], [], [(12, 5, -8, -8), (12, 2, -4294967296, 16), (12, 6, -4294967296, 16), (11, 6, 1, 1), (11, 2, -4294967296, 2001), (2, 6, -4294967296, 1996), (5, 2, -4294967296, 24), (5, 6, -4294967296, 24), (6, 2, -4294967296, 2000)])
theorem oo_Re_append_3 {kA : Nat → ClassId} : or_ok kA GG o_Re_append_3 := by
  intro A ta ws vs hD hth hl hk hds hf
  have hl : vs.length = 13 := hl
  have hk : ∀ q ∈ ([(0, (2, 0, 0, [8])), (2, (0, 0, 1996, [])), (3, (2, 0, 0, [8])), (5, (0, 0, 24, [])), (6, (0, 0, 1999, [])), (10, (0, 1, 1, [])), (11, (0, 1, 2000, [])), (12, (0, -8, 16, []))] : List (Nat × tv_T)), tv_ok ta q.2 (n_v vs q.1) := hk
  obtain ⟨t0, hk⟩ := List.forall_mem_cons.mp hk
  have t0 : tv_ok ta (2, 0, 0, [8]) (n_v vs 0) := t0
  have r0 : ta (v_ad (n_v vs 0)) = some 8 := tv_rg t0
  obtain ⟨t2, hk⟩ := List.forall_mem_cons.mp hk
  have t2 : tv_ok ta (0, 0, 1996, []) (n_v vs 2) := t2
  have k2 : 0 ≤ v_iv (n_v vs 2) ∧ v_iv (n_v vs 2) ≤ 1996 := tv_rng t2
  obtain ⟨t3, hk⟩ := List.forall_mem_cons.mp hk
  have t3 : tv_ok ta (2, 0, 0, [8]) (n_v vs 3) := t3
  have r3 : ta (v_ad (n_v vs 3)) = some 8 := tv_rg t3
  obtain ⟨t5, hk⟩ := List.forall_mem_cons.mp hk
  have t5 : tv_ok ta (0, 0, 24, []) (n_v vs 5) := t5
  have k5 : 0 ≤ v_iv (n_v vs 5) ∧ v_iv (n_v vs 5) ≤ 24 := tv_rng t5
  obtain ⟨t6, hk⟩ := List.forall_mem_cons.mp hk
  have t6 : tv_ok ta (0, 0, 1999, []) (n_v vs 6) := t6
  have k6 : 0 ≤ v_iv (n_v vs 6) ∧ v_iv (n_v vs 6) ≤ 1999 := tv_rng t6
  obtain ⟨t10, hk⟩ := List.forall_mem_cons.mp hk
  have t10 : tv_ok ta (0, 1, 1, []) (n_v vs 10) := t10
  have k10 : 1 ≤ v_iv (n_v vs 10) ∧ v_iv (n_v vs 10) ≤ 1 := tv_rng t10
  obtain ⟨t11, hk⟩ := List.forall_mem_cons.mp hk
  have t11 : tv_ok ta (0, 1, 2000, []) (n_v vs 11) := t11
  have k11 : 1 ≤ v_iv (n_v vs 11) ∧ v_iv (n_v vs 11) ≤ 2000 := tv_rng t11
  obtain ⟨t12, hk⟩ := List.forall_mem_cons.mp hk
  have t12 : tv_ok ta (0, -8, 16, []) (n_v vs 12) := t12
  have k12 : (-8) ≤ v_iv (n_v vs 12) ∧ v_iv (n_v vs 12) ≤ 16 := tv_rng t12
  have hds : ∀ q ∈ ([(12, 5, -8, -8), (12, 2, -4294967296, 16), (12, 6, -4294967296, 16), (11, 6, 1, 1), (11, 2, -4294967296, 2001), (2, 6, -4294967296, 1996), (5, 2, -4294967296, 24), (5, 6, -4294967296, 24), (6, 2, -4294967296, 2000)] : List of_T), n_iv vs q.2.1 + q.2.2.1 ≤ n_iv vs q.1 ∧ n_iv vs q.1 ≤ n_iv vs q.2.1 + q.2.2.2 := hds
  obtain ⟨d0, hds⟩ := List.forall_mem_cons.mp hds
  have d0 : v_iv (n_v vs 5) + (-8) ≤ v_iv (n_v vs 12) ∧ v_iv (n_v vs 12) ≤ v_iv (n_v vs 5) + (-8) := d0
  obtain ⟨d1, hds⟩ := List.forall_mem_cons.mp hds
  have d1 : v_iv (n_v vs 2) + (-4294967296) ≤ v_iv (n_v vs 12) ∧ v_iv (n_v vs 12) ≤ v_iv (n_v vs 2) + 16 := d1
  obtain ⟨d2, hds⟩ := List.forall_mem_cons.mp hds
  have d2 : v_iv (n_v vs 6) + (-4294967296) ≤ v_iv (n_v vs 12) ∧ v_iv (n_v vs 12) ≤ v_iv (n_v vs 6) + 16 := d2
  obtain ⟨d3, hds⟩ := List.forall_mem_cons.mp hds
  have d3 : v_iv (n_v vs 6) + 1 ≤ v_iv (n_v vs 11) ∧ v_iv (n_v vs 11) ≤ v_iv (n_v vs 6) + 1 := d3
  obtain ⟨d4, hds⟩ := List.forall_mem_cons.mp hds
  have d4 : v_iv (n_v vs 2) + (-4294967296) ≤ v_iv (n_v vs 11) ∧ v_iv (n_v vs 11) ≤ v_iv (n_v vs 2) + 2001 := d4
  obtain ⟨d5, hds⟩ := List.forall_mem_cons.mp hds
  have d5 : v_iv (n_v vs 6) + (-4294967296) ≤ v_iv (n_v vs 2) ∧ v_iv (n_v vs 2) ≤ v_iv (n_v vs 6) + 1996 := d5
  obtain ⟨d6, hds⟩ := List.forall_mem_cons.mp hds
  have d6 : v_iv (n_v vs 2) + (-4294967296) ≤ v_iv (n_v vs 5) ∧ v_iv (n_v vs 5) ≤ v_iv (n_v vs 2) + 24 := d6
  obtain ⟨d7, hds⟩ := List.forall_mem_cons.mp hds
  have d7 : v_iv (n_v vs 6) + (-4294967296) ≤ v_iv (n_v vs 5) ∧ v_iv (n_v vs 5) ≤ v_iv (n_v vs 6) + 24 := d7
  obtain ⟨d8, hds⟩ := List.forall_mem_cons.mp hds
  have d8 : v_iv (n_v vs 2) + (-4294967296) ≤ v_iv (n_v vs 6) ∧ v_iv (n_v vs 6) ≤ v_iv (n_v vs 2) + 2000 := d8
  have hf : fc_ok [(6, [12, 5], [-8]), (24, [0, 3], []), (101, [3, 11], [1]), (1, [11, 6, 10], []), (9, [6, 3], [1]), (20, [3, 5, 2], [30, 24, 8, 1, 1, 1, 0, 0, -8, 0, 0]), (103, [7], []), (8, [5], [3]), (20, [3, 5, 2], [30, 24, 8, 1, 1, 1, 0, 0, -8, 0, 0])] ta ws vs := hf
  obtain ⟨f0, hf⟩ := fc_un (show (6 : Nat) < 100 from by decide) hf
  have f0 : v_iv (n_v vs 12) = v_iv (n_v vs 5) + (-8) := f0
  obtain ⟨f1, hf⟩ := fc_un (show (24 : Nat) < 100 from by decide) hf
  have f1 : n_v vs 0 = n_v vs 3 := f1
  obtain ⟨ta1, w1, le1, ⟨_, s1⟩, hf⟩ := fc_us (show ¬ (101 : Nat) < 100 from by decide) hf
  have s1 : (∀ b j, w_el ws b j = w_el w1 b j) ∧ ∀ b j, w_fd ws b j = if b = v_ad (n_v vs 3) ∧ j = 1 then n_v vs 11 else w_fd w1 b j := s1
  obtain ⟨f3, hf⟩ := fc_un (show (1 : Nat) < 100 from by decide) hf
  have f3 : v_iv (n_v vs 11) = v_iv (n_v vs 6) + v_iv (n_v vs 10) := f3
  obtain ⟨f4, hf⟩ := fc_un (show (9 : Nat) < 100 from by decide) hf
  have f4 : n_v vs 6 = w_fd w1 (v_ad (n_v vs 3)) 1 := f4
  obtain ⟨f5, hf⟩ := fc_un (show (20 : Nat) < 100 from by decide) hf
  have f5 : 8 * w_fi w1 (n_v vs 3) 1 + (1 * v_iv (n_v vs 5) + ((-8) * v_iv (n_v vs 2) + 0)) ≤ 24 := f5
  obtain ⟨ta2, w2, le2, ⟨_, s2⟩, hf⟩ := fc_us (show ¬ (103 : Nat) < 100 from by decide) hf
  obtain ⟨f7, hf⟩ := fc_un (show (8 : Nat) < 100 from by decide) hf
  have f7 : 0 ≤ v_iv (n_v vs 5) := f7
  obtain ⟨f8, hf⟩ := fc_un (show (20 : Nat) < 100 from by decide) hf
  have f8 : 8 * w_fi w2 (n_v vs 3) 1 + (1 * v_iv (n_v vs 5) + ((-8) * v_iv (n_v vs 2) + 0)) ≤ 24 := f8
  have q3 : n_v vs 3 = n_v vs 0 := f1.symm
  rw [q3] at s1
  rw [q3] at f4
  rw [q3] at f5
  rw [q3] at f8
  have g4 : v_iv (n_v vs 6) = w_fi w1 (n_v vs 0) 1 := congrArg v_iv f4
  have fe_0_1_1 : w_fi ws (n_v vs 0) 1 = v_iv (n_v vs 11) := by show v_iv (w_fd _ _ _) = _; rw [s1.2, if_pos ⟨rfl, rfl⟩]
  have fe_0_1_2 : w_fi w1 (n_v vs 0) 1 = w_fi w2 (n_v vs 0) 1 := congrArg v_iv (s2.2 _ _)
  have kz_0_1 : 0 ≤ w_fi ws (n_v vs 0) 1 ∧ w_fi ws (n_v vs 0) 1 ≤ 2000 := tv_rng (th_fd hD hth r0 (g := GG_8) rfl (k := 1) (t := (0, 0, 2000, [])) rfl rfl)
  have nf0 : fc_1 (20, [3, 12, 2], [30, 24, 8, 1, 1, 1, 0, 0, -8, 0, 0]) ws (vs) := by
    refine ⟨fun n hn => ?_, ?_⟩
    · have hn : n ∈ [3, 12, 2] := hn
      rw [hl]
      simp only [List.mem_cons, List.not_mem_nil, or_false] at hn
      show n < 13; omega
    · show 8 * w_fi ws (n_v vs 3) 1 + (1 * v_iv (n_v vs 12) + ((-8) * v_iv (n_v vs 2) + 0)) ≤ 24
      rw [q3]
      omega
  refine ⟨(fun _ h => (by cases h)), [], trivial, ?_, (fun _ h => (by cases h))⟩
  rw [List.append_nil]
  exact List.forall_mem_cons.mpr ⟨⟨show (20 : Nat) < 100 from by decide, nf0⟩, (fun _ h => (by cases h))⟩
def n_Re_append_an : List an_T := [(3, [(0, (2, 0, 0, [8])), (1, (0, -2147483648, 2147483647, [])), (2, (0, -8, 24, []))], [], (0, 0), [(0, 0, 99997), (2, 5, -8), (0, 0, 100000)], [(1, 4, -1000000000000, 0), (2, 6, -1000000000000, 1996), (4, 1, -1000000000000, 0), (5, 2, -1000000000000, 24), (5, 6, -1000000000000, 24), (6, 2, -1000000000000, 2000)], [((0, 1), (0, 0, 2000, []))], [(2, 0, 0, [8]), (0, -2147483648, 2147483647, []), (0, 0, 1996, [])], 0, [], [(20, [3, 5, 2], [30, 24, 8, 1, 1, 1, 0, 0, -8, 0, 0]), (24, [0, 3], [])])]
def t_Re_append_ct : ct_L := []
set_option maxRecDepth 100000 in
theorem c_Re_append {l : Launch} {D : va_G} {kA : Nat → ClassId} : ct_ok l D kA GG y_Re_append z_Re_append e_Re_append := chk_all_ok (FT := [(9, 8, 0), (15, 8, 1)]) (PT := [(15, 8, 1, .int)]) (CT := t_Re_append_ct) (KT := []) (NT := []) (AN := n_Re_append_an) (OT := [o_Re_append_0, o_Re_append_1, o_Re_append_2, o_Re_append_3]) 3 200 (List.forall_mem_cons.mpr ⟨oo_Re_append_0, List.forall_mem_cons.mpr ⟨oo_Re_append_1, List.forall_mem_cons.mpr ⟨oo_Re_append_2, List.forall_mem_cons.mpr ⟨oo_Re_append_3, List.forall_mem_nil _⟩⟩⟩⟩) (by decide +kernel) ⟨List.forall_mem_cons.mpr ⟨gf_Re_9, List.forall_mem_cons.mpr ⟨gf_Re_15, List.forall_mem_nil _⟩⟩, List.forall_mem_cons.mpr ⟨pf_Re_15, List.forall_mem_nil _⟩, List.forall_mem_nil _, List.forall_mem_nil _, List.forall_mem_nil _, GG_pl⟩ (by decide +kernel)
def n_Re_fail_an : List an_T := []
def t_Re_fail_ct : ct_L := []
set_option maxRecDepth 100000 in
theorem c_Re_fail {l : Launch} {D : va_G} {kA : Nat → ClassId} : ct_ok l D kA GG y_Re_fail z_Re_fail e_Re_fail := chk_all_ok (FT := [(41, 8, 8)]) (PT := [(19, 8, 2, .int), (22, 8, 3, .int)]) (CT := t_Re_fail_ct) (KT := []) (NT := []) (AN := n_Re_fail_an) (OT := []) 0 200 (List.forall_mem_nil _) (by decide +kernel) ⟨List.forall_mem_cons.mpr ⟨gf_Re_41, List.forall_mem_nil _⟩, List.forall_mem_cons.mpr ⟨pf_Re_19, List.forall_mem_cons.mpr ⟨pf_Re_22, List.forall_mem_nil _⟩⟩, List.forall_mem_nil _, List.forall_mem_nil _, List.forall_mem_nil _, GG_pl⟩ (by decide +kernel)
def n_Re_isDigit_an : List an_T := []
def t_Re_isDigit_ct : ct_L := []
set_option maxRecDepth 100000 in
theorem c_Re_isDigit {l : Launch} {D : va_G} {kA : Nat → ClassId} : ct_ok l D kA GG y_Re_isDigit z_Re_isDigit e_Re_isDigit := chk_all_ok (FT := []) (PT := []) (CT := t_Re_isDigit_ct) (KT := []) (NT := []) (AN := n_Re_isDigit_an) (OT := []) 0 200 (List.forall_mem_nil _) (by decide +kernel) ⟨List.forall_mem_nil _, List.forall_mem_nil _, List.forall_mem_nil _, List.forall_mem_nil _, List.forall_mem_nil _, GG_pl⟩ (by decide +kernel)
def n_Re_isLetter_an : List an_T := []
def t_Re_isLetter_ct : ct_L := []
set_option maxRecDepth 100000 in
theorem c_Re_isLetter {l : Launch} {D : va_G} {kA : Nat → ClassId} : ct_ok l D kA GG y_Re_isLetter z_Re_isLetter e_Re_isLetter := chk_all_ok (FT := []) (PT := []) (CT := t_Re_isLetter_ct) (KT := []) (NT := []) (AN := n_Re_isLetter_an) (OT := []) 0 200 (List.forall_mem_nil _) (by decide +kernel) ⟨List.forall_mem_nil _, List.forall_mem_nil _, List.forall_mem_nil _, List.forall_mem_nil _, List.forall_mem_nil _, GG_pl⟩ (by decide +kernel)
def n_Re_isSign_an : List an_T := []
def t_Re_isSign_ct : ct_L := []
set_option maxRecDepth 100000 in
theorem c_Re_isSign {l : Launch} {D : va_G} {kA : Nat → ClassId} : ct_ok l D kA GG y_Re_isSign z_Re_isSign e_Re_isSign := chk_all_ok (FT := []) (PT := []) (CT := t_Re_isSign_ct) (KT := []) (NT := []) (AN := n_Re_isSign_an) (OT := []) 0 200 (List.forall_mem_nil _) (by decide +kernel) ⟨List.forall_mem_nil _, List.forall_mem_nil _, List.forall_mem_nil _, List.forall_mem_nil _, List.forall_mem_nil _, GG_pl⟩ (by decide +kernel)
def n_Ro_pointOf_an : List an_T := []
def t_Ro_pointOf_ct : ct_L := []
set_option maxRecDepth 100000 in
theorem c_Ro_pointOf {l : Launch} {D : va_G} {kA : Nat → ClassId} : ct_ok l D kA GG y_Ro_pointOf z_Ro_pointOf e_Ro_pointOf := chk_all_ok (FT := [(15, 9, 1), (19, 9, 2), (23, 9, 3), (26, 9, 4), (111, 0, 2), (126, 0, 3)]) (PT := []) (CT := t_Ro_pointOf_ct) (KT := []) (NT := []) (AN := n_Ro_pointOf_an) (OT := []) 0 200 (List.forall_mem_nil _) (by decide +kernel) ⟨List.forall_mem_cons.mpr ⟨gf_Ro_15, List.forall_mem_cons.mpr ⟨gf_Ro_19, List.forall_mem_cons.mpr ⟨gf_Ro_23, List.forall_mem_cons.mpr ⟨gf_Ro_26, List.forall_mem_cons.mpr ⟨gf_Ro_111, List.forall_mem_cons.mpr ⟨gf_Ro_126, List.forall_mem_nil _⟩⟩⟩⟩⟩⟩, List.forall_mem_nil _, List.forall_mem_nil _, List.forall_mem_nil _, List.forall_mem_nil _, GG_pl⟩ (by decide +kernel)
def n_St_addArc_an : List an_T := []
def t_St_addArc_ct : ct_L := []
set_option maxRecDepth 100000 in
theorem c_St_addArc {l : Launch} {D : va_G} {kA : Nat → ClassId} : ct_ok l D kA GG y_St_addArc z_St_addArc e_St_addArc := chk_all_ok (FT := [(15, 10, 1), (18, 10, 2), (22, 10, 3), (25, 10, 4), (28, 10, 5)]) (PT := [(15, 10, 1, .int)]) (CT := t_St_addArc_ct) (KT := []) (NT := []) (AN := n_St_addArc_an) (OT := []) 0 200 (List.forall_mem_nil _) (by decide +kernel) ⟨List.forall_mem_cons.mpr ⟨gf_St_15, List.forall_mem_cons.mpr ⟨gf_St_18, List.forall_mem_cons.mpr ⟨gf_St_22, List.forall_mem_cons.mpr ⟨gf_St_25, List.forall_mem_cons.mpr ⟨gf_St_28, List.forall_mem_nil _⟩⟩⟩⟩⟩, List.forall_mem_cons.mpr ⟨pf_St_15, List.forall_mem_nil _⟩, List.forall_mem_nil _, List.forall_mem_nil _, List.forall_mem_nil _, GG_pl⟩ (by decide +kernel)
def n_St_begin_an : List an_T := []
def t_St_begin_ct : ct_L := []
set_option maxRecDepth 100000 in
theorem c_St_begin {l : Launch} {D : va_G} {kA : Nat → ClassId} : ct_ok l D kA GG y_St_begin z_St_begin e_St_begin := chk_all_ok (FT := []) (PT := [(9, 10, 0, .int), (15, 10, 1, .int)]) (CT := t_St_begin_ct) (KT := []) (NT := []) (AN := n_St_begin_an) (OT := []) 0 200 (List.forall_mem_nil _) (by decide +kernel) ⟨List.forall_mem_nil _, List.forall_mem_cons.mpr ⟨pf_St_9, List.forall_mem_cons.mpr ⟨pf_St_15, List.forall_mem_nil _⟩⟩, List.forall_mem_nil _, List.forall_mem_nil _, List.forall_mem_nil _, GG_pl⟩ (by decide +kernel)
