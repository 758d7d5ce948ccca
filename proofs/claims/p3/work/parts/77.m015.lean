
set_option maxHeartbeats 4000000 in
theorem vc_La_nextOrder_10_0 (x1 : Int) (x3 : Int) (x4 : Int) (x6 : Int) (x7 : Int) (x8 : Int) (x9 : Int) (x10 : Int) (x11 : Int) (x12 : Int) (x13 : Int) (x14 : Int) (x15 : Int) (x16 : Int) (x17 : Int) (x18 : Int) (x19 : Int) (x20 : Int) (a0_0 : Int → Int) (k1 : 3 ≤ x1 ∧ x1 ≤ 6) (k3 : 3 ≤ x3 ∧ x3 ≤ 6) (k4 : 0 ≤ x4 ∧ x4 ≤ 3) (k6 : 0 ≤ x6 ∧ x6 ≤ 3) (k7 : 1 ≤ x7 ∧ x7 ≤ 1) (k8 : 1 ≤ x8 ∧ x8 ≤ 4) (k9 : 1 ≤ x9 ∧ x9 ≤ 4) (k10 : 1 ≤ x10 ∧ x10 ≤ 1) (k11 : 2 ≤ x11 ∧ x11 ≤ 5) (k12 : 2 ≤ x12 ∧ x12 ≤ 5) (k13 : 1 ≤ x13 ∧ x13 ≤ 1) (k14 : 1 ≤ x14 ∧ x14 ≤ 4) (k15 : 1 ≤ x15 ∧ x15 ≤ 5) (k16 : 1 ≤ x16 ∧ x16 ≤ 1) (k17 : 2 ≤ x17 ∧ x17 ≤ 5) (k18 : 0 ≤ x18 ∧ x18 ≤ 5) (k19 : 1 ≤ x19 ∧ x19 ≤ 6) (k20 : 1 ≤ x20 ∧ x20 ≤ 4) (d0 : x6 + 1 ≤ x20 ∧ x20 ≤ x6 + 1) (d1 : x17 + (-3) ≤ x18 ∧ x18 ≤ x17 + 0) (d2 : x3 + (-4) ≤ x18 ∧ x18 ≤ x3 + (-1)) (d3 : x1 + (-4294967296) ≤ x18 ∧ x18 ≤ x1 + (-1)) (d4 : x3 + (-1) ≤ x17 ∧ x17 ≤ x3 + (-1)) (d5 : x1 + (-4294967296) ≤ x17 ∧ x17 ≤ x1 + (-1)) (d6 : x6 + 1 ≤ x15 ∧ x15 ≤ x6 + 4) (d7 : x14 + 0 ≤ x15 ∧ x15 ≤ x14 + 3) (d8 : x4 + 1 ≤ x15 ∧ x15 ≤ x4 + 4) (d9 : x4 + 1 ≤ x14 ∧ x14 ≤ x4 + 1) (d10 : x1 + (-4294967296) ≤ x14 ∧ x14 ≤ x1 + (-1)) (d11 : x3 + (-4294967296) ≤ x14 ∧ x14 ≤ x3 + (-1)) (d12 : x12 + (-4294967296) ≤ x9 ∧ x9 ≤ x12 + (-1)) (d13 : x11 + (-4) ≤ x12 ∧ x12 ≤ x11 + 0) (d14 : x3 + (-5) ≤ x12 ∧ x12 ≤ x3 + (-1)) (d15 : x1 + (-4294967296) ≤ x12 ∧ x12 ≤ x1 + (-1)) (d16 : x3 + (-1) ≤ x11 ∧ x11 ≤ x3 + (-1)) (d17 : x1 + (-4294967296) ≤ x11 ∧ x11 ≤ x1 + (-1)) (d18 : x6 + 1 ≤ x9 ∧ x9 ≤ x6 + 5) (d19 : x8 + 0 ≤ x9 ∧ x9 ≤ x8 + 4) (d20 : x4 + 1 ≤ x9 ∧ x9 ≤ x4 + 5) (d21 : x4 + 1 ≤ x8 ∧ x8 ≤ x4 + 1) (d22 : x1 + (-4294967296) ≤ x8 ∧ x8 ≤ x1 + (-1)) (d23 : x3 + (-4294967296) ≤ x8 ∧ x8 ≤ x3 + (-1)) (d24 : x3 + (-4294967296) ≤ x1 ∧ x1 ≤ x3 + 0) (d25 : x1 + (-4294967296) ≤ x3 ∧ x3 ≤ x1 + 0) (d26 : x1 + (-4294967296) ≤ x4 ∧ x4 ≤ x1 + (-2)) (d27 : x3 + (-4294967296) ≤ x4 ∧ x4 ≤ x3 + (-2)) (f0 : x20 = x6 + 1) (f1 : 1 * x19 + ((-1) * x1 + 0) ≤ 0) (f2 : (-1) * x19 + (1 * x1 + 0) ≤ 0) (f3 : (0 ≤ x15) ∧ ((x15 + 1) ≤ x19)) (f4 : (0 ≤ x18) ∧ ((x18 + 1) ≤ x19)) (f7 : DGS (a0_0) (x19)) (f9 : 1 * x19 + ((-1) * x1 + 0) ≤ 0) (f10 : (-1) * x19 + (1 * x1 + 0) ≤ 0) (f11 : x18 = x17 - x6) (f12 : x17 = x1 - x16) (f13 : x15 = x14 + x6) (f14 : x14 = x4 + x13) (f15 : x9 < x12) (f16 : x12 = x11 - x6) (f17 : x11 = x1 - x10) (f18 : x9 = x8 + x6) (f19 : x8 = x4 + x7) (hK_0_999 : ∀ j : Int, 0 ≤ j → j < 6 → 0 ≤ a0_0 j ∧ a0_0 j ≤ 7) : DGS (a0_0) (x1) := by
  first
    | assumption
    | exact dgs_eq ‹DGS _ _› (by omega)
  
def o_La_nextOrder_10 : or_T := (63, 21, [(0, (2, 0, 0, [298])), (1, (0, 3, 6, [])), (3, (0, 3, 6, [])), (4, (0, 0, 3, [])), (6, (0, 0, 3, [])), (7, (0, 1, 1, [])), (8, (0, 1, 4, [])), (9, (0, 1, 4, [])), (10, (0, 1, 1, [])), (11, (0, 2, 5, [])), (12, (0, 2, 5, [])), (13, (0, 1, 1, [])), (14, (0, 1, 4, [])), (15, (0, 1, 5, [])), (16, (0, 1, 1, [])), (17, (0, 2, 5, [])), (18, (0, 0, 5, [])), (19, (0, 1, 6, [])), (20, (0, 1, 4, []))], [(6, [20, 6], [1]), (23, [19, 3], [0, 1, -1]), (23, [19, 3], [0, -1, 1]), (20, [15, 19], [50, 0, 0, 2, 6, 0, 2, 0, 0, 1, 0, 0, 6, 4, 2, 1, 0, 0, 1, 1, 1]), (20, [18, 19], [50, 0, 0, 2, 6, 0, 2, 0, 0, 1, 0, 0, 6, 4, 2, 1, 0, 0, 1, 1, 1]), (24, [0, 2], []), (24, [1, 3], []), (20, [2, 19], [61, 1, 735]), (102, [19], [509258994083621521567111422102344540262867098416484062659035112338595324940834176545849344]), (23, [19, 3], [0, 1, -1]), (23, [19, 3], [0, -1, 1]), (2, [18, 17, 6], []), (2, [17, 3, 16], []), (1, [15, 14, 6], []), (1, [14, 4, 13], []), (7, [9, 12], [2]), (2, [12, 11, 6], []), (2, [11, 3, 10], []), (1, [9, 8, 6], []), (1, [8, 4, 7], [])], [], [], [(20, [2, 3], [61, 1, 735])], [], [(20, 6, 1, 1), (18, 17, -3, 0), (18, 3, -4, -1), (18, 1, -4294967296, -1), (17, 3, -1, -1), (17, 1, -4294967296, -1), (15, 6, 1, 4), (15, 14, 0, 3), (15, 4, 1, 4), (14, 4, 1, 1), (14, 1, -4294967296, -1), (14, 3, -4294967296, -1), (9, 12, -4294967296, -1), (12, 11, -4, 0), (12, 3, -5, -1), (12, 1, -4294967296, -1), (11, 3, -1, -1), (11, 1, -4294967296, -1), (9, 6, 1, 5), (9, 8, 0, 4), (9, 4, 1, 5), (8, 4, 1, 1), (8, 1, -4294967296, -1), (8, 3, -4294967296, -1), (1, 3, -4294967296, 0), (3, 1, -4294967296, 0), (4, 1, -4294967296, -2), (4, 3, -4294967296, -2)])
theorem oo_La_nextOrder_10 {kA : Nat → ClassId} : or_ok PRD kA GG o_La_nextOrder_10 := by
  refine or_mk fun A ta ws vs hD hth hl => ?_
  intro t0 r0 t1 k1 t3 k3 t4 k4 t6 k6 t7 k7 t8 k8 t9 k9 t10 k10 t11 k11 t12 k12 t13 k13 t14 k14 t15 k15 t16 k16 t17 k17 t18 k18 t19 k19 t20 k20 d0 d1 d2 d3 d4 d5 d6 d7 d8 d9 d10 d11 d12 d13 d14 d15 d16 d17 d18 d19 d20 d21 d22 d23 d24 d25 d26 d27 f0 f1 f2 f3 f4 f5 f6 f7 ta1 w1 le1 s1 f9 f10 f11 f12 f13 f14 f15 f16 f17 f18 f19
  replace f0 := shm_4 f0
  replace f1 := shm_7 f1
  replace f2 := shm_22 f2
  replace f3 := shm_400 f3
  replace f4 := shm_400 f4
  replace f5 := shm_5 f5
  replace f6 := shm_5 f6
  replace f7 := shm_401 f7
  replace f9 := shm_7 f9
  replace f10 := shm_22 f10
  replace f11 := shm_14 f11
  replace f12 := shm_14 f12
  replace f13 := shm_12 f13
  replace f14 := shm_12 f14
  replace f15 := shm_6 f15
  replace f16 := shm_14 f16
  replace f17 := shm_14 f17
  replace f18 := shm_12 f18
  replace f19 := shm_12 f19
  have q2 : n_v vs 2 = n_v vs 0 := f5.symm
  have q3 : n_v vs 3 = n_v vs 1 := f6.symm
  simp only [q3, q2] at f1 f2 f7 f9 f10 f12 f17
  have cr_0_999 : ta (v_ad (n_v vs 0)) = some 298 := r0
  have hK_0_999 := elq_40 hD hth cr_0_999
  have nf0 : fc_1 PRD (20, [2, 3], [61, 1, 735]) ws (vs) := by
    refine ⟨nf_in hl rfl, sgq_401 ?_⟩
    · show DGS (w_ei ws (v_ad (n_v vs 2))) (v_iv (n_v vs 3))
      simp only [q2, q3]
      exact vc_La_nextOrder_10_0 (v_iv (n_v vs 1)) (v_iv (n_v vs 3)) (v_iv (n_v vs 4)) (v_iv (n_v vs 6)) (v_iv (n_v vs 7)) (v_iv (n_v vs 8)) (v_iv (n_v vs 9)) (v_iv (n_v vs 10)) (v_iv (n_v vs 11)) (v_iv (n_v vs 12)) (v_iv (n_v vs 13)) (v_iv (n_v vs 14)) (v_iv (n_v vs 15)) (v_iv (n_v vs 16)) (v_iv (n_v vs 17)) (v_iv (n_v vs 18)) (v_iv (n_v vs 19)) (v_iv (n_v vs 20)) (w_ei ws (v_ad (n_v vs 0))) k1 k3 k4 k6 k7 k8 k9 k10 k11 k12 k13 k14 k15 k16 k17 k18 k19 k20 d0 d1 d2 d3 d4 d5 d6 d7 d8 d9 d10 d11 d12 d13 d14 d15 d16 d17 d18 d19 d20 d21 d22 d23 d24 d25 d26 d27 f0 f1 f2 f3 f4 f7 f9 f10 f11 f12 f13 f14 f15 f16 f17 f18 f19 hK_0_999
  refine ⟨(fun _ h => (by cases h)), [], trivial, ?_, (fun _ h => (by cases h))⟩
  rw [List.append_nil]
  exact List.forall_mem_cons.mpr ⟨⟨show (20 : Nat) < 100 from by decide, nf0⟩, (fun _ h => (by cases h))⟩
def n_La_nextOrder_an : List an_T := [(4, [(0, (2, 0, 0, [298])), (1, (0, 1, 6, [])), (2, (0, (Int.negSucc 0), 4, []))], [], (0, 0), [(0, 0, 99996), (2, 4, (Int.negSucc 0)), (0, 0, 100000)], [(1, 3, (Int.negSucc 999999999999), 0), (3, 1, (Int.negSucc 999999999999), 0), (4, 1, (Int.negSucc 999999999999), (Int.negSucc 1)), (4, 3, (Int.negSucc 999999999999), (Int.negSucc 1))], [], [(2, 0, 0, [298]), (0, 1, 6, [])], 0, [], [(20, [2, 3], [61, 1, 735]), (24, [0, 2], []), (24, [1, 3], [])]), (34, [(0, (2, 0, 0, [298])), (1, (0, 2, 6, [])), (2, (0, 0, 4, [])), (3, (0, 0, 5, []))], [], (0, 0), [(0, 0, 99966), (2, 5, 0), (0, 0, 100000)], [(1, 3, (Int.negSucc 999999999999), 0), (3, 1, (Int.negSucc 999999999999), 0), (4, 1, (Int.negSucc 999999999999), (Int.negSucc 1)), (4, 3, (Int.negSucc 999999999999), (Int.negSucc 1)), (4, 5, (Int.negSucc 999999999999), 0), (5, 1, (Int.negSucc 999999999999), (Int.negSucc 0)), (5, 3, (Int.negSucc 999999999999), (Int.negSucc 0))], [], [(2, 0, 0, [298]), (0, 1, 6, [])], 0, [], [(20, [2, 3], [61, 1, 735]), (20, [4, 5, 3], [50, 0, 0, 2, 6, 0, 2, 1, 0, 1, 1, 0, 6, 4, 2, 1, 1, 0, 1, 1, 2]), (24, [0, 2], []), (24, [1, 3], [])]), (63, [(0, (2, 0, 0, [298])), (1, (0, 2, 6, [])), (2, (0, 0, 4, [])), (3, (0, 0, 5, [])), (4, (0, 0, 4, []))], [], (0, 0), [(0, 0, 99937), (1, 6, 4), (0, 0, 100000)], [(1, 3, (Int.negSucc 999999999999), 0), (3, 1, (Int.negSucc 999999999999), 0), (4, 1, (Int.negSucc 999999999999), (Int.negSucc 1)), (4, 3, (Int.negSucc 999999999999), (Int.negSucc 1)), (4, 5, (Int.negSucc 999999999999), 0), (5, 1, (Int.negSucc 999999999999), (Int.negSucc 0)), (5, 3, (Int.negSucc 999999999999), (Int.negSucc 0))], [], [(2, 0, 0, [298]), (0, 1, 6, [])], 0, [], [(20, [2, 3], [61, 1, 735]), (24, [0, 2], []), (24, [1, 3], [])])]
def t_La_nextOrder_ct : ct_L := [(0, 93, e_La_swap)]
set_option maxRecDepth 100000 in
theorem c_La_nextOrder {l : Launch} {D : va_G} {kA : Nat → ClassId} (h_La_swap : ct_ok PRD l D kA GG y_La_swap z_La_swap e_La_swap) : ct_ok PRD l D kA GG y_La_nextOrder z_La_nextOrder e_La_nextOrder := chk_all_ok (FT := []) (PT := []) (CT := t_La_nextOrder_ct) (KT := []) (NT := []) (AN := n_La_nextOrder_an) (OT := [o_La_nextOrder_0, o_La_nextOrder_1, o_La_nextOrder_2, o_La_nextOrder_3, o_La_nextOrder_4, o_La_nextOrder_5, o_La_nextOrder_6, o_La_nextOrder_7, o_La_nextOrder_8, o_La_nextOrder_9, o_La_nextOrder_10]) 3 304 (List.forall_mem_cons.mpr ⟨oo_La_nextOrder_0, List.forall_mem_cons.mpr ⟨oo_La_nextOrder_1, List.forall_mem_cons.mpr ⟨oo_La_nextOrder_2, List.forall_mem_cons.mpr ⟨oo_La_nextOrder_3, List.forall_mem_cons.mpr ⟨oo_La_nextOrder_4, List.forall_mem_cons.mpr ⟨oo_La_nextOrder_5, List.forall_mem_cons.mpr ⟨oo_La_nextOrder_6, List.forall_mem_cons.mpr ⟨oo_La_nextOrder_7, List.forall_mem_cons.mpr ⟨oo_La_nextOrder_8, List.forall_mem_cons.mpr ⟨oo_La_nextOrder_9, List.forall_mem_cons.mpr ⟨oo_La_nextOrder_10, List.forall_mem_nil _⟩⟩⟩⟩⟩⟩⟩⟩⟩⟩⟩) (by decide +kernel) ⟨List.forall_mem_nil _, List.forall_mem_nil _, List.forall_mem_cons.mpr ⟨cl_static (y := y_La_swap) h_La_swap wm_1241 wm_18 wm_1239 wm_1240 ⟨by decide, by decide, by decide +kernel⟩ (by decide), List.forall_mem_nil _⟩, List.forall_mem_nil _, List.forall_mem_nil _, GG_pl⟩ (by decide +kernel)
set_option maxHeartbeats 4000000 in
theorem vc_Ne_begin_at_Ne_0_0 (x1 : Int) (x2 : Int) (x5 : Int) (edges_0 : Int) (nodes_0 : Int) (near_0 : Int → Int) (tail_0 : Int → Int) (head_0 : Int → Int) (k1 : 0 ≤ x1 ∧ x1 ≤ 24) (k2 : 0 ≤ x2 ∧ x2 ≤ 0) (k5 : 0 ≤ x5 ∧ x5 ≤ 0) (g1 : x2 = edges_0) (g2 : x1 = nodes_0) (hT3 : ∀ j : Int, 0 ≤ j → j < x5 + 25 → 0 ≤ near_0 j ∧ near_0 j ≤ 0) (hK_0_7 : ∀ j : Int, 0 ≤ j → j < 72 → 0 ≤ tail_0 j ∧ tail_0 j ≤ 23) (hK_0_8 : ∀ j : Int, 0 ≤ j → j < 72 → 0 ≤ head_0 j ∧ head_0 j ≤ 23) (hK_0_9 : ∀ j : Int, 0 ≤ j → j < 25 → 0 ≤ near_0 j ∧ near_0 j ≤ 16777215) (kz_0_5 : 0 ≤ nodes_0 ∧ nodes_0 ≤ 24) (kz_0_6 : 0 ≤ edges_0 ∧ edges_0 ≤ 72) : NOK (nodes_0) (edges_0) (tail_0) (head_0) (near_0) := by
  first
    | exact nok_begin (by omega) (by omega) (fun j a b => hT3 j a (by omega)) (by omega)
  
set_option maxHeartbeats 4000000 in
theorem vc_Ne_begin_at_Ne_0_1 (x1 : Int) (x2 : Int) (x5 : Int) (edges_0 : Int) (nodes_0 : Int) (near_0 : Int → Int) (tail_0 : Int → Int) (head_0 : Int → Int) (k1 : 0 ≤ x1 ∧ x1 ≤ 24) (k2 : 0 ≤ x2 ∧ x2 ≤ 0) (k5 : 0 ≤ x5 ∧ x5 ≤ 0) (g1 : x2 = edges_0) (g2 : x1 = nodes_0) (hT3 : ∀ j : Int, 0 ≤ j → j < x5 + 25 → 0 ≤ near_0 j ∧ near_0 j ≤ 0) (hK_0_7 : ∀ j : Int, 0 ≤ j → j < 72 → 0 ≤ tail_0 j ∧ tail_0 j ≤ 23) (hK_0_8 : ∀ j : Int, 0 ≤ j → j < 72 → 0 ≤ head_0 j ∧ head_0 j ≤ 23) (hK_0_9 : ∀ j : Int, 0 ≤ j → j < 25 → 0 ≤ near_0 j ∧ near_0 j ≤ 16777215) (kz_0_5 : 0 ≤ nodes_0 ∧ nodes_0 ≤ 24) (kz_0_6 : 0 ≤ edges_0 ∧ edges_0 ≤ 72) : nodes_0 = x1 := by
  first
    | omega
  
set_option maxHeartbeats 4000000 in
theorem vc_Ne_begin_at_Ne_0_2 (x1 : Int) (x2 : Int) (x5 : Int) (edges_0 : Int) (nodes_0 : Int) (near_0 : Int → Int) (tail_0 : Int → Int) (head_0 : Int → Int) (k1 : 0 ≤ x1 ∧ x1 ≤ 24) (k2 : 0 ≤ x2 ∧ x2 ≤ 0) (k5 : 0 ≤ x5 ∧ x5 ≤ 0) (g1 : x2 = edges_0) (g2 : x1 = nodes_0) (hT3 : ∀ j : Int, 0 ≤ j → j < x5 + 25 → 0 ≤ near_0 j ∧ near_0 j ≤ 0) (hK_0_7 : ∀ j : Int, 0 ≤ j → j < 72 → 0 ≤ tail_0 j ∧ tail_0 j ≤ 23) (hK_0_8 : ∀ j : Int, 0 ≤ j → j < 72 → 0 ≤ head_0 j ∧ head_0 j ≤ 23) (hK_0_9 : ∀ j : Int, 0 ≤ j → j < 25 → 0 ≤ near_0 j ∧ near_0 j ≤ 16777215) (kz_0_5 : 0 ≤ nodes_0 ∧ nodes_0 ≤ 24) (kz_0_6 : 0 ≤ edges_0 ∧ edges_0 ≤ 72) : edges_0 = 0 := by
  first
    | omega
  
def o_Ne_begin_at_Ne_0 : or_T := (39, 10, [(0, (2, 0, 0, [5])), (1, (0, 0, 24, [])), (2, (0, 0, 0, [])), (5, (0, 0, 0, []))], [(9, [4, 0], [9]), (9, [2, 0], [6]), (9, [1, 0], [5]), (20, [4, 5], [8, 0, 0, 25])], [], [], [(20, [0], [60, 2, 3, 595, 5, 6, 7, 8, 9]), (20, [0, 1], [50, 1, 0, 5, 1, 3, 2, 0, 5, 1, 1]), (20, [0], [50, 1, 0, 6, 1, 3, 2, 0, 6, 0, 0])], [], [])
theorem oo_Ne_begin_at_Ne_0 {kA : Nat → ClassId} : or_ok PRD kA GG o_Ne_begin_at_Ne_0 := by
  refine or_mk fun A ta ws vs hD hth hl => ?_
  intro t0 r0 t1 k1 t2 k2 t5 k5 f0 f1 f2 f3
  replace f0 := shm_119 f0
  replace f1 := shm_111 f1
  replace f2 := shm_110 f2
  replace f3 := shm_25 f3
  have cr_0_7 := fdq_57 hD hth r0
  have cr_0_8 := fdq_58 hD hth r0
  have cr_0_9 := fdq_80 hD hth r0
  have ad_4 : v_ad (n_v vs 4) = w_ar ws (n_v vs 0) 9 := congrArg v_ad f0
  have g1 : v_iv (n_v vs 2) = w_fi ws (n_v vs 0) 6 := congrArg v_iv f1
  have g2 : v_iv (n_v vs 1) = w_fi ws (n_v vs 0) 5 := congrArg v_iv f2
  have hT3 : ∀ j : Int, 0 ≤ j → j < v_iv (n_v vs 5) + 25 → 0 ≤ w_ei ws (w_ar ws (n_v vs 0) 9) j ∧ w_ei ws (w_ar ws (n_v vs 0) 9) j ≤ 0 := fun j h0 h1 => by have h2 := f3 j.toNat (by omega); rw [ad_4] at h2; exact h2
  have hK_0_7 := elq_19 hD hth cr_0_7
  have hK_0_8 := elq_20 hD hth cr_0_8
  have hK_0_9 := elq_26 hD hth cr_0_9
  have kz_0_5 := fdq_82 hD hth r0
  have kz_0_6 := fdq_59 hD hth r0
  have nf0 : fc_1 PRD (20, [0], [60, 2, 3, 595, 5, 6, 7, 8, 9]) ws (vs) := ⟨nf_in hl rfl, sgq_408 (vc_Ne_begin_at_Ne_0_0 (v_iv (n_v vs 1)) (v_iv (n_v vs 2)) (v_iv (n_v vs 5)) (w_fi ws (n_v vs 0) 6) (w_fi ws (n_v vs 0) 5) (w_ei ws (w_ar ws (n_v vs 0) 9)) (w_ei ws (w_ar ws (n_v vs 0) 7)) (w_ei ws (w_ar ws (n_v vs 0) 8)) k1 k2 k5 g1 g2 hT3 hK_0_7 hK_0_8 hK_0_9 kz_0_5 kz_0_6)⟩
  have nf1 : fc_1 PRD (20, [0, 1], [50, 1, 0, 5, 1, 3, 2, 0, 5, 1, 1]) ws (vs) := ⟨nf_in hl rfl, sgq_881 (vc_Ne_begin_at_Ne_0_1 (v_iv (n_v vs 1)) (v_iv (n_v vs 2)) (v_iv (n_v vs 5)) (w_fi ws (n_v vs 0) 6) (w_fi ws (n_v vs 0) 5) (w_ei ws (w_ar ws (n_v vs 0) 9)) (w_ei ws (w_ar ws (n_v vs 0) 7)) (w_ei ws (w_ar ws (n_v vs 0) 8)) k1 k2 k5 g1 g2 hT3 hK_0_7 hK_0_8 hK_0_9 kz_0_5 kz_0_6)⟩
  have nf2 : fc_1 PRD (20, [0], [50, 1, 0, 6, 1, 3, 2, 0, 6, 0, 0]) ws (vs) := ⟨nf_in hl rfl, sgq_882 (vc_Ne_begin_at_Ne_0_2 (v_iv (n_v vs 1)) (v_iv (n_v vs 2)) (v_iv (n_v vs 5)) (w_fi ws (n_v vs 0) 6) (w_fi ws (n_v vs 0) 5) (w_ei ws (w_ar ws (n_v vs 0) 9)) (w_ei ws (w_ar ws (n_v vs 0) 7)) (w_ei ws (w_ar ws (n_v vs 0) 8)) k1 k2 k5 g1 g2 hT3 hK_0_7 hK_0_8 hK_0_9 kz_0_5 kz_0_6)⟩
  refine ⟨(fun _ h => (by cases h)), [], trivial, ?_, (fun _ h => (by cases h))⟩
  rw [List.append_nil]
  exact List.forall_mem_cons.mpr ⟨⟨show (20 : Nat) < 100 from by decide, nf0⟩, List.forall_mem_cons.mpr ⟨⟨show (20 : Nat) < 100 from by decide, nf1⟩, List.forall_mem_cons.mpr ⟨⟨show (20 : Nat) < 100 from by decide, nf2⟩, (fun _ h => (by cases h))⟩⟩⟩
def n_Ne_begin_at_Ne_an : List an_T := []
def t_Ne_begin_at_Ne_ct : ct_L := [(63, 64, e_jArr_fill1_v35), (87, 64, e_jArr_fill1_v36), (111, 64, e_jArr_fill1_v37)]
set_option maxRecDepth 100000 in
theorem c_Ne_begin_at_Ne {l : Launch} {D : va_G} {kA : Nat → ClassId} : ct_ok PRD l D kA GG y_Ne_begin_at_Ne z_Ne_begin_at_Ne e_Ne_begin_at_Ne := chk_all_ok (FT := [(40, 5, 9), (43, 5, 10), (49, 5, 12)]) (PT := [(28, 5, 5, .int), (31, 5, 6, .int), (52, 5, 13, .int)]) (CT := t_Ne_begin_at_Ne_ct) (KT := []) (NT := []) (AN := n_Ne_begin_at_Ne_an) (OT := [o_Ne_begin_at_Ne_0]) 0 200 (List.forall_mem_cons.mpr ⟨oo_Ne_begin_at_Ne_0, List.forall_mem_nil _⟩) (by decide +kernel) ⟨List.forall_mem_cons.mpr ⟨gf_Ne_40, List.forall_mem_cons.mpr ⟨gf_Ne_43, List.forall_mem_cons.mpr ⟨gf_Ne_49, List.forall_mem_nil _⟩⟩⟩, List.forall_mem_cons.mpr ⟨pf_Ne_28, List.forall_mem_cons.mpr ⟨pf_Ne_31, List.forall_mem_cons.mpr ⟨pf_Ne_52, List.forall_mem_nil _⟩⟩⟩, List.forall_mem_cons.mpr ⟨cl_static (y := y_jArr_fill1) c_jArr_fill1_v35 wm_55 wm_4 wm_1061 wm_54 ⟨by decide, by decide, by decide +kernel⟩ (by decide), List.forall_mem_cons.mpr ⟨cl_static (y := y_jArr_fill1) c_jArr_fill1_v36 wm_55 wm_4 wm_1061 wm_54 ⟨by decide, by decide, by decide +kernel⟩ (by decide), List.forall_mem_cons.mpr ⟨cl_static (y := y_jArr_fill1) c_jArr_fill1_v37 wm_55 wm_4 wm_1061 wm_54 ⟨by decide, by decide, by decide +kernel⟩ (by decide), List.forall_mem_nil _⟩⟩⟩, List.forall_mem_nil _, List.forall_mem_nil _, GG_pl⟩ (by decide +kernel)

set_option maxHeartbeats 4000000 in
theorem vc_Ne_begin_at_Np_0_0 (x1 : Int) (x2 : Int) (x5 : Int) (edges_0 : Int) (nodes_0 : Int) (near_0 : Int → Int) (tail_0 : Int → Int) (head_0 : Int → Int) (k1 : 0 ≤ x1 ∧ x1 ≤ 24) (k2 : 0 ≤ x2 ∧ x2 ≤ 0) (k5 : 0 ≤ x5 ∧ x5 ≤ 0) (g1 : x2 = edges_0) (g2 : x1 = nodes_0) (hT3 : ∀ j : Int, 0 ≤ j → j < x5 + 25 → 0 ≤ near_0 j ∧ near_0 j ≤ 0) (hK_0_7 : ∀ j : Int, 0 ≤ j → j < 72 → 0 ≤ tail_0 j ∧ tail_0 j ≤ 24) (hK_0_8 : ∀ j : Int, 0 ≤ j → j < 72 → 0 ≤ head_0 j ∧ head_0 j ≤ 24) (hK_0_9 : ∀ j : Int, 0 ≤ j → j < 25 → 0 ≤ near_0 j ∧ near_0 j ≤ 33554431) (kz_0_5 : 0 ≤ nodes_0 ∧ nodes_0 ≤ 25) (kz_0_6 : 0 ≤ edges_0 ∧ edges_0 ≤ 72) : NOK (nodes_0) (edges_0) (tail_0) (head_0) (near_0) := by
  first
    | exact nok_begin (by omega) (by omega) (fun j a b => hT3 j a (by omega)) (by omega)
  
set_option maxHeartbeats 4000000 in
theorem vc_Ne_begin_at_Np_0_1 (x1 : Int) (x2 : Int) (x5 : Int) (edges_0 : Int) (nodes_0 : Int) (near_0 : Int → Int) (tail_0 : Int → Int) (head_0 : Int → Int) (k1 : 0 ≤ x1 ∧ x1 ≤ 24) (k2 : 0 ≤ x2 ∧ x2 ≤ 0) (k5 : 0 ≤ x5 ∧ x5 ≤ 0) (g1 : x2 = edges_0) (g2 : x1 = nodes_0) (hT3 : ∀ j : Int, 0 ≤ j → j < x5 + 25 → 0 ≤ near_0 j ∧ near_0 j ≤ 0) (hK_0_7 : ∀ j : Int, 0 ≤ j → j < 72 → 0 ≤ tail_0 j ∧ tail_0 j ≤ 24) (hK_0_8 : ∀ j : Int, 0 ≤ j → j < 72 → 0 ≤ head_0 j ∧ head_0 j ≤ 24) (hK_0_9 : ∀ j : Int, 0 ≤ j → j < 25 → 0 ≤ near_0 j ∧ near_0 j ≤ 33554431) (kz_0_5 : 0 ≤ nodes_0 ∧ nodes_0 ≤ 25) (kz_0_6 : 0 ≤ edges_0 ∧ edges_0 ≤ 72) : nodes_0 = x1 := by
  first
    | omega
  
set_option maxHeartbeats 4000000 in
theorem vc_Ne_begin_at_Np_0_2 (x1 : Int) (x2 : Int) (x5 : Int) (edges_0 : Int) (nodes_0 : Int) (near_0 : Int → Int) (tail_0 : Int → Int) (head_0 : Int → Int) (k1 : 0 ≤ x1 ∧ x1 ≤ 24) (k2 : 0 ≤ x2 ∧ x2 ≤ 0) (k5 : 0 ≤ x5 ∧ x5 ≤ 0) (g1 : x2 = edges_0) (g2 : x1 = nodes_0) (hT3 : ∀ j : Int, 0 ≤ j → j < x5 + 25 → 0 ≤ near_0 j ∧ near_0 j ≤ 0) (hK_0_7 : ∀ j : Int, 0 ≤ j → j < 72 → 0 ≤ tail_0 j ∧ tail_0 j ≤ 24) (hK_0_8 : ∀ j : Int, 0 ≤ j → j < 72 → 0 ≤ head_0 j ∧ head_0 j ≤ 24) (hK_0_9 : ∀ j : Int, 0 ≤ j → j < 25 → 0 ≤ near_0 j ∧ near_0 j ≤ 33554431) (kz_0_5 : 0 ≤ nodes_0 ∧ nodes_0 ≤ 25) (kz_0_6 : 0 ≤ edges_0 ∧ edges_0 ≤ 72) : edges_0 = 0 := by
  first
    | omega
  
def o_Ne_begin_at_Np_0 : or_T := (39, 10, [(0, (2, 0, 0, [149])), (1, (0, 0, 24, [])), (2, (0, 0, 0, [])), (5, (0, 0, 0, []))], [(9, [4, 0], [9]), (9, [2, 0], [6]), (9, [1, 0], [5]), (20, [4, 5], [8, 0, 0, 25])], [], [], [(20, [0], [60, 2, 3, 595, 5, 6, 7, 8, 9]), (20, [0, 1], [50, 1, 0, 5, 1, 3, 2, 0, 5, 1, 1]), (20, [0], [50, 1, 0, 6, 1, 3, 2, 0, 6, 0, 0])], [], [])
theorem oo_Ne_begin_at_Np_0 {kA : Nat → ClassId} : or_ok PRD kA GG o_Ne_begin_at_Np_0 := by
  refine or_mk fun A ta ws vs hD hth hl => ?_
  intro t0 r0 t1 k1 t2 k2 t5 k5 f0 f1 f2 f3
  replace f0 := shm_119 f0
  replace f1 := shm_111 f1
  replace f2 := shm_110 f2
  replace f3 := shm_25 f3
  have cr_0_7 := fdq_60 hD hth r0
  have cr_0_8 := fdq_61 hD hth r0
  have cr_0_9 := fdq_83 hD hth r0
  have ad_4 : v_ad (n_v vs 4) = w_ar ws (n_v vs 0) 9 := congrArg v_ad f0
  have g1 : v_iv (n_v vs 2) = w_fi ws (n_v vs 0) 6 := congrArg v_iv f1
  have g2 : v_iv (n_v vs 1) = w_fi ws (n_v vs 0) 5 := congrArg v_iv f2
  have hT3 : ∀ j : Int, 0 ≤ j → j < v_iv (n_v vs 5) + 25 → 0 ≤ w_ei ws (w_ar ws (n_v vs 0) 9) j ∧ w_ei ws (w_ar ws (n_v vs 0) 9) j ≤ 0 := fun j h0 h1 => by have h2 := f3 j.toNat (by omega); rw [ad_4] at h2; exact h2
  have hK_0_7 := elq_21 hD hth cr_0_7
  have hK_0_8 := elq_22 hD hth cr_0_8
  have hK_0_9 := elq_27 hD hth cr_0_9
  have kz_0_5 := fdq_85 hD hth r0
  have kz_0_6 := fdq_62 hD hth r0
  have nf0 : fc_1 PRD (20, [0], [60, 2, 3, 595, 5, 6, 7, 8, 9]) ws (vs) := ⟨nf_in hl rfl, sgq_408 (vc_Ne_begin_at_Np_0_0 (v_iv (n_v vs 1)) (v_iv (n_v vs 2)) (v_iv (n_v vs 5)) (w_fi ws (n_v vs 0) 6) (w_fi ws (n_v vs 0) 5) (w_ei ws (w_ar ws (n_v vs 0) 9)) (w_ei ws (w_ar ws (n_v vs 0) 7)) (w_ei ws (w_ar ws (n_v vs 0) 8)) k1 k2 k5 g1 g2 hT3 hK_0_7 hK_0_8 hK_0_9 kz_0_5 kz_0_6)⟩
  have nf1 : fc_1 PRD (20, [0, 1], [50, 1, 0, 5, 1, 3, 2, 0, 5, 1, 1]) ws (vs) := ⟨nf_in hl rfl, sgq_881 (vc_Ne_begin_at_Np_0_1 (v_iv (n_v vs 1)) (v_iv (n_v vs 2)) (v_iv (n_v vs 5)) (w_fi ws (n_v vs 0) 6) (w_fi ws (n_v vs 0) 5) (w_ei ws (w_ar ws (n_v vs 0) 9)) (w_ei ws (w_ar ws (n_v vs 0) 7)) (w_ei ws (w_ar ws (n_v vs 0) 8)) k1 k2 k5 g1 g2 hT3 hK_0_7 hK_0_8 hK_0_9 kz_0_5 kz_0_6)⟩
  have nf2 : fc_1 PRD (20, [0], [50, 1, 0, 6, 1, 3, 2, 0, 6, 0, 0]) ws (vs) := ⟨nf_in hl rfl, sgq_882 (vc_Ne_begin_at_Np_0_2 (v_iv (n_v vs 1)) (v_iv (n_v vs 2)) (v_iv (n_v vs 5)) (w_fi ws (n_v vs 0) 6) (w_fi ws (n_v vs 0) 5) (w_ei ws (w_ar ws (n_v vs 0) 9)) (w_ei ws (w_ar ws (n_v vs 0) 7)) (w_ei ws (w_ar ws (n_v vs 0) 8)) k1 k2 k5 g1 g2 hT3 hK_0_7 hK_0_8 hK_0_9 kz_0_5 kz_0_6)⟩
  refine ⟨(fun _ h => (by cases h)), [], trivial, ?_, (fun _ h => (by cases h))⟩
  rw [List.append_nil]
  exact List.forall_mem_cons.mpr ⟨⟨show (20 : Nat) < 100 from by decide, nf0⟩, List.forall_mem_cons.mpr ⟨⟨show (20 : Nat) < 100 from by decide, nf1⟩, List.forall_mem_cons.mpr ⟨⟨show (20 : Nat) < 100 from by decide, nf2⟩, (fun _ h => (by cases h))⟩⟩⟩
def n_Ne_begin_at_Np_an : List an_T := []
def t_Ne_begin_at_Np_ct : ct_L := [(63, 64, e_jArr_fill1_v38), (87, 64, e_jArr_fill1_v39), (111, 64, e_jArr_fill1_v40)]
set_option maxRecDepth 100000 in
theorem c_Ne_begin_at_Np {l : Launch} {D : va_G} {kA : Nat → ClassId} : ct_ok PRD l D kA GG y_Ne_begin_at_Np z_Ne_begin_at_Np e_Ne_begin_at_Np := chk_all_ok (FT := [(40, 5, 9), (43, 5, 10), (49, 5, 12)]) (PT := [(28, 5, 5, .int), (31, 5, 6, .int), (52, 5, 13, .int)]) (CT := t_Ne_begin_at_Np_ct) (KT := []) (NT := []) (AN := n_Ne_begin_at_Np_an) (OT := [o_Ne_begin_at_Np_0]) 0 200 (List.forall_mem_cons.mpr ⟨oo_Ne_begin_at_Np_0, List.forall_mem_nil _⟩) (by decide +kernel) ⟨List.forall_mem_cons.mpr ⟨gf_Ne_40, List.forall_mem_cons.mpr ⟨gf_Ne_43, List.forall_mem_cons.mpr ⟨gf_Ne_49, List.forall_mem_nil _⟩⟩⟩, List.forall_mem_cons.mpr ⟨pf_Ne_28, List.forall_mem_cons.mpr ⟨pf_Ne_31, List.forall_mem_cons.mpr ⟨pf_Ne_52, List.forall_mem_nil _⟩⟩⟩, List.forall_mem_cons.mpr ⟨cl_static (y := y_jArr_fill1) c_jArr_fill1_v38 wm_55 wm_4 wm_1061 wm_54 ⟨by decide, by decide, by decide +kernel⟩ (by decide), List.forall_mem_cons.mpr ⟨cl_static (y := y_jArr_fill1) c_jArr_fill1_v39 wm_55 wm_4 wm_1061 wm_54 ⟨by decide, by decide, by decide +kernel⟩ (by decide), List.forall_mem_cons.mpr ⟨cl_static (y := y_jArr_fill1) c_jArr_fill1_v40 wm_55 wm_4 wm_1061 wm_54 ⟨by decide, by decide, by decide +kernel⟩ (by decide), List.forall_mem_nil _⟩⟩⟩, List.forall_mem_nil _, List.forall_mem_nil _, GG_pl⟩ (by decide +kernel)
set_option maxHeartbeats 4000000 in
theorem vc_Ne_begin_at_Nq_0_0 (x1 : Int) (x2 : Int) (x5 : Int) (edges_0 : Int) (nodes_0 : Int) (near_0 : Int → Int) (tail_0 : Int → Int) (head_0 : Int → Int) (k1 : 0 ≤ x1 ∧ x1 ≤ 24) (k2 : 0 ≤ x2 ∧ x2 ≤ 0) (k5 : 0 ≤ x5 ∧ x5 ≤ 0) (g1 : x2 = edges_0) (g2 : x1 = nodes_0) (hT3 : ∀ j : Int, 0 ≤ j → j < x5 + 25 → 0 ≤ near_0 j ∧ near_0 j ≤ 0) (hK_0_7 : ∀ j : Int, 0 ≤ j → j < 72 → 0 ≤ tail_0 j ∧ tail_0 j ≤ 23) (hK_0_8 : ∀ j : Int, 0 ≤ j → j < 72 → 0 ≤ head_0 j ∧ head_0 j ≤ 23) (hK_0_9 : ∀ j : Int, 0 ≤ j → j < 25 → 0 ≤ near_0 j ∧ near_0 j ≤ 16777215) (kz_0_5 : 0 ≤ nodes_0 ∧ nodes_0 ≤ 24) (kz_0_6 : 0 ≤ edges_0 ∧ edges_0 ≤ 72) : NOK (nodes_0) (edges_0) (tail_0) (head_0) (near_0) := by
  first
    | exact nok_begin (by omega) (by omega) (fun j a b => hT3 j a (by omega)) (by omega)
  
set_option maxHeartbeats 4000000 in
theorem vc_Ne_begin_at_Nq_0_1 (x1 : Int) (x2 : Int) (x5 : Int) (edges_0 : Int) (nodes_0 : Int) (near_0 : Int → Int) (tail_0 : Int → Int) (head_0 : Int → Int) (k1 : 0 ≤ x1 ∧ x1 ≤ 24) (k2 : 0 ≤ x2 ∧ x2 ≤ 0) (k5 : 0 ≤ x5 ∧ x5 ≤ 0) (g1 : x2 = edges_0) (g2 : x1 = nodes_0) (hT3 : ∀ j : Int, 0 ≤ j → j < x5 + 25 → 0 ≤ near_0 j ∧ near_0 j ≤ 0) (hK_0_7 : ∀ j : Int, 0 ≤ j → j < 72 → 0 ≤ tail_0 j ∧ tail_0 j ≤ 23) (hK_0_8 : ∀ j : Int, 0 ≤ j → j < 72 → 0 ≤ head_0 j ∧ head_0 j ≤ 23) (hK_0_9 : ∀ j : Int, 0 ≤ j → j < 25 → 0 ≤ near_0 j ∧ near_0 j ≤ 16777215) (kz_0_5 : 0 ≤ nodes_0 ∧ nodes_0 ≤ 24) (kz_0_6 : 0 ≤ edges_0 ∧ edges_0 ≤ 72) : nodes_0 = x1 := by
  first
    | omega
  
set_option maxHeartbeats 4000000 in
theorem vc_Ne_begin_at_Nq_0_2 (x1 : Int) (x2 : Int) (x5 : Int) (edges_0 : Int) (nodes_0 : Int) (near_0 : Int → Int) (tail_0 : Int → Int) (head_0 : Int → Int) (k1 : 0 ≤ x1 ∧ x1 ≤ 24) (k2 : 0 ≤ x2 ∧ x2 ≤ 0) (k5 : 0 ≤ x5 ∧ x5 ≤ 0) (g1 : x2 = edges_0) (g2 : x1 = nodes_0) (hT3 : ∀ j : Int, 0 ≤ j → j < x5 + 25 → 0 ≤ near_0 j ∧ near_0 j ≤ 0) (hK_0_7 : ∀ j : Int, 0 ≤ j → j < 72 → 0 ≤ tail_0 j ∧ tail_0 j ≤ 23) (hK_0_8 : ∀ j : Int, 0 ≤ j → j < 72 → 0 ≤ head_0 j ∧ head_0 j ≤ 23) (hK_0_9 : ∀ j : Int, 0 ≤ j → j < 25 → 0 ≤ near_0 j ∧ near_0 j ≤ 16777215) (kz_0_5 : 0 ≤ nodes_0 ∧ nodes_0 ≤ 24) (kz_0_6 : 0 ≤ edges_0 ∧ edges_0 ≤ 72) : edges_0 = 0 := by
  first
    | omega
  
def o_Ne_begin_at_Nq_0 : or_T := (39, 10, [(0, (2, 0, 0, [294])), (1, (0, 0, 24, [])), (2, (0, 0, 0, [])), (5, (0, 0, 0, []))], [(9, [4, 0], [9]), (9, [2, 0], [6]), (9, [1, 0], [5]), (20, [4, 5], [8, 0, 0, 25])], [], [], [(20, [0], [60, 2, 3, 595, 5, 6, 7, 8, 9]), (20, [0, 1], [50, 1, 0, 5, 1, 3, 2, 0, 5, 1, 1]), (20, [0], [50, 1, 0, 6, 1, 3, 2, 0, 6, 0, 0])], [], [])
theorem oo_Ne_begin_at_Nq_0 {kA : Nat → ClassId} : or_ok PRD kA GG o_Ne_begin_at_Nq_0 := by
  refine or_mk fun A ta ws vs hD hth hl => ?_
  intro t0 r0 t1 k1 t2 k2 t5 k5 f0 f1 f2 f3
  replace f0 := shm_119 f0
  replace f1 := shm_111 f1
  replace f2 := shm_110 f2
  replace f3 := shm_25 f3
  have cr_0_7 := fdq_222 hD hth r0
  have cr_0_8 := fdq_223 hD hth r0
  have cr_0_9 := fdq_224 hD hth r0
  have ad_4 : v_ad (n_v vs 4) = w_ar ws (n_v vs 0) 9 := congrArg v_ad f0
  have g1 : v_iv (n_v vs 2) = w_fi ws (n_v vs 0) 6 := congrArg v_iv f1
  have g2 : v_iv (n_v vs 1) = w_fi ws (n_v vs 0) 5 := congrArg v_iv f2
  have hT3 : ∀ j : Int, 0 ≤ j → j < v_iv (n_v vs 5) + 25 → 0 ≤ w_ei ws (w_ar ws (n_v vs 0) 9) j ∧ w_ei ws (w_ar ws (n_v vs 0) 9) j ≤ 0 := fun j h0 h1 => by have h2 := f3 j.toNat (by omega); rw [ad_4] at h2; exact h2
  have hK_0_7 := elq_135 hD hth cr_0_7
  have hK_0_8 := elq_136 hD hth cr_0_8
  have hK_0_9 := elq_137 hD hth cr_0_9
  have kz_0_5 := fdq_94 hD hth r0
  have kz_0_6 := fdq_225 hD hth r0
  have nf0 : fc_1 PRD (20, [0], [60, 2, 3, 595, 5, 6, 7, 8, 9]) ws (vs) := ⟨nf_in hl rfl, sgq_408 (vc_Ne_begin_at_Nq_0_0 (v_iv (n_v vs 1)) (v_iv (n_v vs 2)) (v_iv (n_v vs 5)) (w_fi ws (n_v vs 0) 6) (w_fi ws (n_v vs 0) 5) (w_ei ws (w_ar ws (n_v vs 0) 9)) (w_ei ws (w_ar ws (n_v vs 0) 7)) (w_ei ws (w_ar ws (n_v vs 0) 8)) k1 k2 k5 g1 g2 hT3 hK_0_7 hK_0_8 hK_0_9 kz_0_5 kz_0_6)⟩
  have nf1 : fc_1 PRD (20, [0, 1], [50, 1, 0, 5, 1, 3, 2, 0, 5, 1, 1]) ws (vs) := ⟨nf_in hl rfl, sgq_881 (vc_Ne_begin_at_Nq_0_1 (v_iv (n_v vs 1)) (v_iv (n_v vs 2)) (v_iv (n_v vs 5)) (w_fi ws (n_v vs 0) 6) (w_fi ws (n_v vs 0) 5) (w_ei ws (w_ar ws (n_v vs 0) 9)) (w_ei ws (w_ar ws (n_v vs 0) 7)) (w_ei ws (w_ar ws (n_v vs 0) 8)) k1 k2 k5 g1 g2 hT3 hK_0_7 hK_0_8 hK_0_9 kz_0_5 kz_0_6)⟩
  have nf2 : fc_1 PRD (20, [0], [50, 1, 0, 6, 1, 3, 2, 0, 6, 0, 0]) ws (vs) := ⟨nf_in hl rfl, sgq_882 (vc_Ne_begin_at_Nq_0_2 (v_iv (n_v vs 1)) (v_iv (n_v vs 2)) (v_iv (n_v vs 5)) (w_fi ws (n_v vs 0) 6) (w_fi ws (n_v vs 0) 5) (w_ei ws (w_ar ws (n_v vs 0) 9)) (w_ei ws (w_ar ws (n_v vs 0) 7)) (w_ei ws (w_ar ws (n_v vs 0) 8)) k1 k2 k5 g1 g2 hT3 hK_0_7 hK_0_8 hK_0_9 kz_0_5 kz_0_6)⟩
  refine ⟨(fun _ h => (by cases h)), [], trivial, ?_, (fun _ h => (by cases h))⟩
  rw [List.append_nil]
  exact List.forall_mem_cons.mpr ⟨⟨show (20 : Nat) < 100 from by decide, nf0⟩, List.forall_mem_cons.mpr ⟨⟨show (20 : Nat) < 100 from by decide, nf1⟩, List.forall_mem_cons.mpr ⟨⟨show (20 : Nat) < 100 from by decide, nf2⟩, (fun _ h => (by cases h))⟩⟩⟩
def n_Ne_begin_at_Nq_an : List an_T := []
def t_Ne_begin_at_Nq_ct : ct_L := [(63, 64, e_jArr_fill1_v41), (87, 64, e_jArr_fill1_v42), (111, 64, e_jArr_fill1_v43)]
set_option maxRecDepth 100000 in
theorem c_Ne_begin_at_Nq {l : Launch} {D : va_G} {kA : Nat → ClassId} : ct_ok PRD l D kA GG y_Ne_begin_at_Nq z_Ne_begin_at_Nq e_Ne_begin_at_Nq := chk_all_ok (FT := [(40, 5, 9), (43, 5, 10), (49, 5, 12)]) (PT := [(28, 5, 5, .int), (31, 5, 6, .int), (52, 5, 13, .int)]) (CT := t_Ne_begin_at_Nq_ct) (KT := []) (NT := []) (AN := n_Ne_begin_at_Nq_an) (OT := [o_Ne_begin_at_Nq_0]) 0 200 (List.forall_mem_cons.mpr ⟨oo_Ne_begin_at_Nq_0, List.forall_mem_nil _⟩) (by decide +kernel) ⟨List.forall_mem_cons.mpr ⟨gf_Ne_40, List.forall_mem_cons.mpr ⟨gf_Ne_43, List.forall_mem_cons.mpr ⟨gf_Ne_49, List.forall_mem_nil _⟩⟩⟩, List.forall_mem_cons.mpr ⟨pf_Ne_28, List.forall_mem_cons.mpr ⟨pf_Ne_31, List.forall_mem_cons.mpr ⟨pf_Ne_52, List.forall_mem_nil _⟩⟩⟩, List.forall_mem_cons.mpr ⟨cl_static (y := y_jArr_fill1) c_jArr_fill1_v41 wm_55 wm_4 wm_1061 wm_54 ⟨by decide, by decide, by decide +kernel⟩ (by decide), List.forall_mem_cons.mpr ⟨cl_static (y := y_jArr_fill1) c_jArr_fill1_v42 wm_55 wm_4 wm_1061 wm_54 ⟨by decide, by decide, by decide +kernel⟩ (by decide), List.forall_mem_cons.mpr ⟨cl_static (y := y_jArr_fill1) c_jArr_fill1_v43 wm_55 wm_4 wm_1061 wm_54 ⟨by decide, by decide, by decide +kernel⟩ (by decide), List.forall_mem_nil _⟩⟩⟩, List.forall_mem_nil _, List.forall_mem_nil _, GG_pl⟩ (by decide +kernel)
set_option maxHeartbeats 4000000 in
theorem vc_Pl_fewestNeighbours_0_0 (x1 : Int) (x3 : Int) (x4 : Int) (x5 : Int) (nodes_0o2 : Int) (k1 : 0 ≤ x1 ∧ x1 ≤ 16777215) (k3 : 0 ≤ x3 ∧ x3 ≤ 0) (k4 : 1000000000 ≤ x4 ∧ x4 ≤ 1000000000) (k5 : 0 ≤ x5 ∧ x5 ≤ 0) (kz_2_0 : 0 ≤ nodes_0o2 ∧ nodes_0o2 ≤ 24) : FWJ (x1) (x3) (x4) (x5) := by
  first
    | exact fwj_start (by omega) (by omega)
    | exact fwj_skip ‹FWJ _ _ _ _› (by first | (right; omega) | (left; intro z; have := (bit_one (by assumption) (by assumption) (by omega) (by omega) (by omega) (by omega)).mp z; omega)) (by omega)
    | exact fwj_take (l := x6) (f := x5) ((bit_one (by assumption) (by assumption) (by omega) (by omega) (by omega) (by omega)).mpr (by omega)) (by omega) (by omega) (by omega)
  
set_option maxHeartbeats 4000000 in
theorem vc_Pl_fewestNeighbours_0_1 (x1 : Int) (x3 : Int) (x4 : Int) (x5 : Int) (nodes_0o2 : Int) (k1 : 0 ≤ x1 ∧ x1 ≤ 16777215) (k3 : 0 ≤ x3 ∧ x3 ≤ 0) (k4 : 1000000000 ≤ x4 ∧ x4 ≤ 1000000000) (k5 : 0 ≤ x5 ∧ x5 ≤ 0) (kz_2_0 : 0 ≤ nodes_0o2 ∧ nodes_0o2 ≤ 24) : x5 ≤ nodes_0o2 := by
  omega
def o_Pl_fewestNeighbours_0 : or_T := (8, 6, [(1, (0, 0, 16777215, [])), (2, (2, 0, 0, [3])), (3, (0, 0, 0, [])), (4, (0, 1000000000, 1000000000, [])), (5, (0, 0, 0, []))], [], [], [], [(20, [1, 3, 4, 5], [61, 0, 548]), (20, [5, 2], [50, 1, 0, 1000, 0, 2, 1, 0, 2, 1, 0]), (24, [2, 2], []), (24, [0, 0], []), (24, [1, 1], [])], [], [])
theorem oo_Pl_fewestNeighbours_0 {kA : Nat → ClassId} : or_ok PRD kA GG o_Pl_fewestNeighbours_0 := by
  refine or_mk fun A ta ws vs hD hth hl => ?_
  intro t1 k1 t2 r2 t3 k3 t4 k4 t5 k5
  have kz_2_0 := fdq_21 hD hth r2
  have nf0 : fc_1 PRD (20, [1, 3, 4, 5], [61, 0, 548]) ws (vs) := ⟨nf_in hl rfl, sgq_883 (vc_Pl_fewestNeighbours_0_0 (v_iv (n_v vs 1)) (v_iv (n_v vs 3)) (v_iv (n_v vs 4)) (v_iv (n_v vs 5)) (w_fi ws (n_v vs 2) 0) k1 k3 k4 k5 kz_2_0)⟩
  have nf1 : fc_1 PRD (20, [5, 2], [50, 1, 0, 1000, 0, 2, 1, 0, 2, 1, 0]) ws (vs) := ⟨nf_in hl rfl, sgq_411 (vc_Pl_fewestNeighbours_0_1 (v_iv (n_v vs 1)) (v_iv (n_v vs 3)) (v_iv (n_v vs 4)) (v_iv (n_v vs 5)) (w_fi ws (n_v vs 2) 0) k1 k3 k4 k5 kz_2_0)⟩
  have nf2 : fc_1 PRD (24, [2, 2], []) ws (vs) := by
    refine ⟨nf_in hl rfl, sgq_1 ?_⟩
    · show n_v vs 2 = n_v vs 2
      first | rfl | simp only [true_and]
  have nf3 : fc_1 PRD (24, [0, 0], []) ws (vs) := by
    refine ⟨nf_in hl rfl, sgq_1 ?_⟩
    · show n_v vs 0 = n_v vs 0
      first | rfl | simp only [true_and]
  have nf4 : fc_1 PRD (24, [1, 1], []) ws (vs) := by
    refine ⟨nf_in hl rfl, sgq_1 ?_⟩
    · show n_v vs 1 = n_v vs 1
      first | rfl | simp only [true_and]
  refine ⟨(fun _ h => (by cases h)), [], trivial, ?_, (fun _ h => (by cases h))⟩
  rw [List.append_nil]
  exact List.forall_mem_cons.mpr ⟨⟨show (20 : Nat) < 100 from by decide, nf0⟩, List.forall_mem_cons.mpr ⟨⟨show (20 : Nat) < 100 from by decide, nf1⟩, List.forall_mem_cons.mpr ⟨⟨show (24 : Nat) < 100 from by decide, nf2⟩, List.forall_mem_cons.mpr ⟨⟨show (24 : Nat) < 100 from by decide, nf3⟩, List.forall_mem_cons.mpr ⟨⟨show (24 : Nat) < 100 from by decide, nf4⟩, (fun _ h => (by cases h))⟩⟩⟩⟩⟩
set_option maxHeartbeats 4000000 in
theorem vc_Pl_fewestNeighbours_1_0 (x1 : Int) (x4 : Int) (x5 : Int) (x6 : Int) (x7 : Int) (x9 : Int) (nodes_0o2 : Int) (k1 : 0 ≤ x1 ∧ x1 ≤ 16777215) (k4 : 0 ≤ x4 ∧ x4 ≤ 16777215) (k5 : 0 ≤ x5 ∧ x5 ≤ 23) (k6 : 0 ≤ x6 ∧ x6 ≤ 1000000000) (k7 : 0 ≤ x7 ∧ x7 ≤ 24) (k9 : 0 ≤ x9 ∧ x9 ≤ 24) (d0 : x9 + 0 ≤ x7 ∧ x7 ≤ x9 + 4294967296) (d1 : x4 + (-4294967296) ≤ x1 ∧ x1 ≤ x4 + 0) (d2 : x1 + (-4294967296) ≤ x4 ∧ x4 ≤ x1 + 0) (d3 : x7 + (-4294967296) ≤ x5 ∧ x5 ≤ x7 + 0) (f0 : x9 ≤ x7) (g1 : x9 = nodes_0o2) (f2 : FWJ (x1) (x5) (x6) (x7)) (f3 : x7 ≤ nodes_0o2) (kz_2_0 : 0 ≤ nodes_0o2 ∧ nodes_0o2 ≤ 24) : FWN (nodes_0o2) (x1) (x5) := by
  first
    | exact fwn_of ‹FWJ _ _ _ _› (by omega) (by omega) (by omega)
  
def o_Pl_fewestNeighbours_1 : or_T := (63, 10, [(1, (0, 0, 16777215, [])), (2, (2, 0, 0, [3])), (4, (0, 0, 16777215, [])), (5, (0, 0, 23, [])), (6, (0, 0, 1000000000, [])), (7, (0, 0, 24, [])), (9, (0, 0, 24, []))], [(7, [7, 9], [3]), (9, [9, 8], [0]), (20, [4, 5, 6, 7], [61, 0, 548]), (20, [7, 8], [50, 1, 0, 1000, 0, 2, 1, 0, 2, 1, 0]), (24, [2, 8], []), (24, [1, 4], [])], [], [], [(20, [2, 1, 5], [60, 1, 0, 547, 0])], [], [(7, 9, 0, 4294967296), (1, 4, -4294967296, 0), (4, 1, -4294967296, 0), (5, 7, -4294967296, 0)])
theorem oo_Pl_fewestNeighbours_1 {kA : Nat → ClassId} : or_ok PRD kA GG o_Pl_fewestNeighbours_1 := by
  refine or_mk fun A ta ws vs hD hth hl => ?_
  intro t1 k1 t2 r2 t4 k4 t5 k5 t6 k6 t7 k7 t9 k9 d0 d1 d2 d3 f0 f1 f2 f3 f4 f6
  replace f1 := shm_163 f1
  replace f2 := shm_883 f2
  replace f3 := shm_411 f3
  replace f4 := shm_5 f4
  replace f6 := shm_5 f6
  have q8 : n_v vs 8 = n_v vs 2 := f4.symm
  have q4 : n_v vs 4 = n_v vs 1 := f6.symm
  simp only [q8, q4] at f1 f2 f3
  have g1 : v_iv (n_v vs 9) = w_fi ws (n_v vs 2) 0 := congrArg v_iv f1
  have kz_2_0 := fdq_21 hD hth r2
  have nf0 : fc_1 PRD (20, [2, 1, 5], [60, 1, 0, 547, 0]) ws (vs) := ⟨nf_in hl rfl, sgq_884 (vc_Pl_fewestNeighbours_1_0 (v_iv (n_v vs 1)) (v_iv (n_v vs 4)) (v_iv (n_v vs 5)) (v_iv (n_v vs 6)) (v_iv (n_v vs 7)) (v_iv (n_v vs 9)) (w_fi ws (n_v vs 2) 0) k1 k4 k5 k6 k7 k9 d0 d1 d2 d3 (shm_2 f0) g1 f2 f3 kz_2_0)⟩
  refine ⟨(fun _ h => (by cases h)), [], trivial, ?_, (fun _ h => (by cases h))⟩
  rw [List.append_nil]
  exact List.forall_mem_cons.mpr ⟨⟨show (20 : Nat) < 100 from by decide, nf0⟩, (fun _ h => (by cases h))⟩
set_option maxHeartbeats 4000000 in
theorem vc_Pl_fewestNeighbours_2_0 (x1 : Int) (x4 : Int) (x5 : Int) (x6 : Int) (x7 : Int) (x9 : Int) (x11 : Int) (x12 : Int) (x13 : Int) (x14 : Int) (x15 : Int) (x16 : Int) (near_0o2 : Int → Int) (nodes_0o2 : Int) (k1 : 0 ≤ x1 ∧ x1 ≤ 16777215) (k4 : 0 ≤ x4 ∧ x4 ≤ 16777215) (k5 : 0 ≤ x5 ∧ x5 ≤ 23) (k6 : 0 ≤ x6 ∧ x6 ≤ 1000000000) (k7 : 0 ≤ x7 ∧ x7 ≤ 23) (k9 : 1 ≤ x9 ∧ x9 ≤ 24) (k11 : 0 ≤ x11 ∧ x11 ≤ 16777215) (k12 : 0 ≤ x12 ∧ x12 ≤ 63) (k13 : 0 ≤ x13 ∧ x13 ≤ 16777215) (k14 : 1 ≤ x14 ∧ x14 ≤ 1) (k15 : 0 ≤ x15 ∧ x15 ≤ 0) (k16 : 1 ≤ x16 ∧ x16 ≤ 24) (d0 : x7 + 1 ≤ x16 ∧ x16 ≤ x7 + 1) (d1 : x9 + (-4294967296) ≤ x16 ∧ x16 ≤ x9 + 0) (d2 : x9 + (-4294967296) ≤ x7 ∧ x7 ≤ x9 + (-1)) (d3 : x4 + (-4294967296) ≤ x1 ∧ x1 ≤ x4 + 0) (d4 : x1 + (-4294967296) ≤ x4 ∧ x4 ≤ x1 + 0) (d5 : x7 + (-4294967296) ≤ x5 ∧ x5 ≤ x7 + 0) (f0 : x16 = x7 + 1) (f1 : x15 = 0) (f2 : x15 = x13 % 2) (f3 : bvp (x15) = bvp (x13) &&& bvp (x14)) (f4 : bvp (x13) = bvp (x1) >>> (x7).toNat) (f5 : BCT (x11) (x12)) (h6 : x11 = near_0o2 (x7)) (f8 : x7 < x9) (g9 : x9 = nodes_0o2) (f10 : FWJ (x1) (x5) (x6) (x7)) (f11 : x7 ≤ nodes_0o2) (hK_2_14 : ∀ j : Int, 0 ≤ j → j < 24 → 0 ≤ near_0o2 j ∧ near_0o2 j ≤ 16777215) (kz_2_0 : 0 ≤ nodes_0o2 ∧ nodes_0o2 ≤ 24) : FWJ (x1) (x5) (x6) (x16) := by
  first
    | exact fwj_start (by omega) (by omega)
    | exact fwj_skip ‹FWJ _ _ _ _› (by first | (right; omega) | (left; intro z; have := (bit_one (by assumption) (by assumption) (by omega) (by omega) (by omega) (by omega)).mp z; omega)) (by omega)
    | exact fwj_take (l := x6) (f := x5) ((bit_one (by assumption) (by assumption) (by omega) (by omega) (by omega) (by omega)).mpr (by omega)) (by omega) (by omega) (by omega)
  
set_option maxHeartbeats 4000000 in
theorem vc_Pl_fewestNeighbours_2_1 (x1 : Int) (x4 : Int) (x5 : Int) (x6 : Int) (x7 : Int) (x9 : Int) (x11 : Int) (x12 : Int) (x13 : Int) (x14 : Int) (x15 : Int) (x16 : Int) (near_0o2 : Int → Int) (nodes_0o2 : Int) (k1 : 0 ≤ x1 ∧ x1 ≤ 16777215) (k4 : 0 ≤ x4 ∧ x4 ≤ 16777215) (k5 : 0 ≤ x5 ∧ x5 ≤ 23) (k6 : 0 ≤ x6 ∧ x6 ≤ 1000000000) (k7 : 0 ≤ x7 ∧ x7 ≤ 23) (k9 : 1 ≤ x9 ∧ x9 ≤ 24) (k11 : 0 ≤ x11 ∧ x11 ≤ 16777215) (k12 : 0 ≤ x12 ∧ x12 ≤ 63) (k13 : 0 ≤ x13 ∧ x13 ≤ 16777215) (k14 : 1 ≤ x14 ∧ x14 ≤ 1) (k15 : 0 ≤ x15 ∧ x15 ≤ 0) (k16 : 1 ≤ x16 ∧ x16 ≤ 24) (d0 : x7 + 1 ≤ x16 ∧ x16 ≤ x7 + 1) (d1 : x9 + (-4294967296) ≤ x16 ∧ x16 ≤ x9 + 0) (d2 : x9 + (-4294967296) ≤ x7 ∧ x7 ≤ x9 + (-1)) (d3 : x4 + (-4294967296) ≤ x1 ∧ x1 ≤ x4 + 0) (d4 : x1 + (-4294967296) ≤ x4 ∧ x4 ≤ x1 + 0) (d5 : x7 + (-4294967296) ≤ x5 ∧ x5 ≤ x7 + 0) (f0 : x16 = x7 + 1) (f1 : x15 = 0) (f2 : x15 = x13 % 2) (f3 : bvp (x15) = bvp (x13) &&& bvp (x14)) (f4 : bvp (x13) = bvp (x1) >>> (x7).toNat) (f5 : BCT (x11) (x12)) (h6 : x11 = near_0o2 (x7)) (f8 : x7 < x9) (g9 : x9 = nodes_0o2) (f10 : FWJ (x1) (x5) (x6) (x7)) (f11 : x7 ≤ nodes_0o2) (hK_2_14 : ∀ j : Int, 0 ≤ j → j < 24 → 0 ≤ near_0o2 j ∧ near_0o2 j ≤ 16777215) (kz_2_0 : 0 ≤ nodes_0o2 ∧ nodes_0o2 ≤ 24) : x16 ≤ nodes_0o2 := by
  omega
def o_Pl_fewestNeighbours_2 : or_T := (8, 17, [(0, (2, 0, 0, [6])), (1, (0, 0, 16777215, [])), (2, (2, 0, 0, [3])), (3, (2, 0, 0, [6])), (4, (0, 0, 16777215, [])), (5, (0, 0, 23, [])), (6, (0, 0, 1000000000, [])), (7, (0, 0, 23, [])), (8, (2, 0, 0, [3])), (9, (0, 1, 24, [])), (10, (2, 0, 0, [59])), (11, (0, 0, 16777215, [])), (12, (0, 0, 63, [])), (13, (0, 0, 16777215, [])), (14, (0, 1, 1, [])), (15, (0, 0, 0, [])), (16, (0, 1, 24, []))], [(6, [16, 7], [1]), (8, [15], [0]), (12, [15, 13], [2]), (16, [15, 13, 14], [0]), (16, [13, 4, 7], [4]), (20, [11, 12], [61, 0, 554]), (10, [11, 10, 7], []), (9, [10, 8], [14]), (7, [7, 9], [2]), (9, [9, 8], [0]), (20, [4, 5, 6, 7], [61, 0, 548]), (20, [7, 8], [50, 1, 0, 1000, 0, 2, 1, 0, 2, 1, 0]), (24, [2, 8], []), (24, [0, 3], []), (24, [1, 4], [])], [], [], [(20, [4, 5, 6, 16], [61, 0, 548]), (20, [16, 8], [50, 1, 0, 1000, 0, 2, 1, 0, 2, 1, 0])], [], [(16, 7, 1, 1), (16, 9, -4294967296, 0), (7, 9, -4294967296, -1), (1, 4, -4294967296, 0), (4, 1, -4294967296, 0), (5, 7, -4294967296, 0)])
theorem oo_Pl_fewestNeighbours_2 {kA : Nat → ClassId} : or_ok PRD kA GG o_Pl_fewestNeighbours_2 := by
  refine or_mk fun A ta ws vs hD hth hl => ?_
  intro t0 r0 t1 k1 t2 r2 t3 r3 t4 k4 t5 k5 t6 k6 t7 k7 t8 r8 t9 k9 t10 r10 t11 k11 t12 k12 t13 k13 t14 k14 t15 k15 t16 k16 d0 d1 d2 d3 d4 d5 f0 f1 f2 f3 f4 f5 f6 f7 f8 f9 f10 f11 f12 f13 f14
  replace f0 := shm_4 f0
  replace f1 := shm_192 f1
  replace f2 := shm_364 f2
  replace f3 := shm_11 f3
  replace f4 := shm_13 f4
  replace f5 := shm_15 f5
  replace f6 := shm_107 f6
  replace f7 := shm_115 f7
  replace f8 := shm_6 f8
  replace f9 := shm_163 f9
  replace f10 := shm_883 f10
  replace f11 := shm_411 f11
  replace f12 := shm_5 f12
  replace f14 := shm_5 f14
  have q8 : n_v vs 8 = n_v vs 2 := f12.symm
  have q4 : n_v vs 4 = n_v vs 1 := f14.symm
  simp only [q4, q8] at f4 f7 f9 f10 f11
  have cr_2_14 := fdq_75 hD hth r2
  have ad_10 : v_ad (n_v vs 10) = w_ar ws (n_v vs 2) 14 := congrArg v_ad f7
  simp only [ad_10] at f6
  have h6 : v_iv (n_v vs 11) = w_ei ws (w_ar ws (n_v vs 2) 14) (v_iv (n_v vs 7)) := f6
  have g9 : v_iv (n_v vs 9) = w_fi ws (n_v vs 2) 0 := congrArg v_iv f9
  have hK_2_14 := elq_25 hD hth cr_2_14
  have kz_2_0 := fdq_21 hD hth r2
  have nf0 : fc_1 PRD (20, [4, 5, 6, 16], [61, 0, 548]) ws (vs) := by
    refine ⟨nf_in hl rfl, sgq_883 ?_⟩
    · show FWJ (v_iv (n_v vs 4)) (v_iv (n_v vs 5)) (v_iv (n_v vs 6)) (v_iv (n_v vs 16))
      rw [q4]
      exact vc_Pl_fewestNeighbours_2_0 (v_iv (n_v vs 1)) (v_iv (n_v vs 4)) (v_iv (n_v vs 5)) (v_iv (n_v vs 6)) (v_iv (n_v vs 7)) (v_iv (n_v vs 9)) (v_iv (n_v vs 11)) (v_iv (n_v vs 12)) (v_iv (n_v vs 13)) (v_iv (n_v vs 14)) (v_iv (n_v vs 15)) (v_iv (n_v vs 16)) (w_ei ws (w_ar ws (n_v vs 2) 14)) (w_fi ws (n_v vs 2) 0) k1 k4 k5 k6 k7 k9 k11 k12 k13 k14 k15 k16 d0 d1 d2 d3 d4 d5 f0 f1 f2 f3 f4 f5 h6 f8 g9 f10 f11 hK_2_14 kz_2_0
  have nf1 : fc_1 PRD (20, [16, 8], [50, 1, 0, 1000, 0, 2, 1, 0, 2, 1, 0]) ws (vs) := by
    refine ⟨nf_in hl rfl, sgq_411 ?_⟩
    · show v_iv (n_v vs 16) ≤ w_fi ws (n_v vs 8) 0
      rw [q8]
      exact vc_Pl_fewestNeighbours_2_1 (v_iv (n_v vs 1)) (v_iv (n_v vs 4)) (v_iv (n_v vs 5)) (v_iv (n_v vs 6)) (v_iv (n_v vs 7)) (v_iv (n_v vs 9)) (v_iv (n_v vs 11)) (v_iv (n_v vs 12)) (v_iv (n_v vs 13)) (v_iv (n_v vs 14)) (v_iv (n_v vs 15)) (v_iv (n_v vs 16)) (w_ei ws (w_ar ws (n_v vs 2) 14)) (w_fi ws (n_v vs 2) 0) k1 k4 k5 k6 k7 k9 k11 k12 k13 k14 k15 k16 d0 d1 d2 d3 d4 d5 f0 f1 f2 f3 f4 f5 h6 f8 g9 f10 f11 hK_2_14 kz_2_0
  refine ⟨(fun _ h => (by cases h)), [], trivial, ?_, (fun _ h => (by cases h))⟩
  rw [List.append_nil]
  exact List.forall_mem_cons.mpr ⟨⟨show (20 : Nat) < 100 from by decide, nf0⟩, List.forall_mem_cons.mpr ⟨⟨show (20 : Nat) < 100 from by decide, nf1⟩, (fun _ h => (by cases h))⟩⟩
set_option maxHeartbeats 4000000 in
theorem vc_Pl_fewestNeighbours_3_0 (x1 : Int) (x4 : Int) (x5 : Int) (x6 : Int) (x7 : Int) (x9 : Int) (x11 : Int) (x12 : Int) (x13 : Int) (x14 : Int) (x15 : Int) (x16 : Int) (near_0o2 : Int → Int) (nodes_0o2 : Int) (k1 : 0 ≤ x1 ∧ x1 ≤ 16777215) (k4 : 0 ≤ x4 ∧ x4 ≤ 16777215) (k5 : 0 ≤ x5 ∧ x5 ≤ 23) (k6 : 0 ≤ x6 ∧ x6 ≤ 63) (k7 : 0 ≤ x7 ∧ x7 ≤ 23) (k9 : 1 ≤ x9 ∧ x9 ≤ 24) (k11 : 0 ≤ x11 ∧ x11 ≤ 16777215) (k12 : 0 ≤ x12 ∧ x12 ≤ 63) (k13 : 0 ≤ x13 ∧ x13 ≤ 16777215) (k14 : 1 ≤ x14 ∧ x14 ≤ 1) (k15 : 1 ≤ x15 ∧ x15 ≤ 1) (k16 : 1 ≤ x16 ∧ x16 ≤ 24) (d0 : x7 + 1 ≤ x16 ∧ x16 ≤ x7 + 1) (d1 : x9 + (-4294967296) ≤ x16 ∧ x16 ≤ x9 + 0) (d2 : x6 + 0 ≤ x12 ∧ x12 ≤ x6 + 4294967296) (d3 : x9 + (-4294967296) ≤ x7 ∧ x7 ≤ x9 + (-1)) (d4 : x4 + (-4294967296) ≤ x1 ∧ x1 ≤ x4 + 0) (d5 : x1 + (-4294967296) ≤ x4 ∧ x4 ≤ x1 + 0) (d6 : x7 + (-4294967296) ≤ x5 ∧ x5 ≤ x7 + 0) (f0 : x16 = x7 + 1) (f1 : x6 ≤ x12) (f2 : x15 ≠ 0) (f3 : x15 = x13 % 2) (f4 : bvp (x15) = bvp (x13) &&& bvp (x14)) (f5 : bvp (x13) = bvp (x1) >>> (x7).toNat) (f6 : BCT (x11) (x12)) (h7 : x11 = near_0o2 (x7)) (f9 : x7 < x9) (g10 : x9 = nodes_0o2) (f11 : FWJ (x1) (x5) (x6) (x7)) (f12 : x7 ≤ nodes_0o2) (hK_2_14 : ∀ j : Int, 0 ≤ j → j < 24 → 0 ≤ near_0o2 j ∧ near_0o2 j ≤ 16777215) (kz_2_0 : 0 ≤ nodes_0o2 ∧ nodes_0o2 ≤ 24) : FWJ (x1) (x5) (x6) (x16) := by
  first
    | exact fwj_start (by omega) (by omega)
    | exact fwj_skip ‹FWJ _ _ _ _› (by first | (right; omega) | (left; intro z; have := (bit_one (by assumption) (by assumption) (by omega) (by omega) (by omega) (by omega)).mp z; omega)) (by omega)
    | exact fwj_take (l := x6) (f := x5) ((bit_one (by assumption) (by assumption) (by omega) (by omega) (by omega) (by omega)).mpr (by omega)) (by omega) (by omega) (by omega)
  
set_option maxHeartbeats 4000000 in
theorem vc_Pl_fewestNeighbours_3_1 (x1 : Int) (x4 : Int) (x5 : Int) (x6 : Int) (x7 : Int) (x9 : Int) (x11 : Int) (x12 : Int) (x13 : Int) (x14 : Int) (x15 : Int) (x16 : Int) (near_0o2 : Int → Int) (nodes_0o2 : Int) (k1 : 0 ≤ x1 ∧ x1 ≤ 16777215) (k4 : 0 ≤ x4 ∧ x4 ≤ 16777215) (k5 : 0 ≤ x5 ∧ x5 ≤ 23) (k6 : 0 ≤ x6 ∧ x6 ≤ 63) (k7 : 0 ≤ x7 ∧ x7 ≤ 23) (k9 : 1 ≤ x9 ∧ x9 ≤ 24) (k11 : 0 ≤ x11 ∧ x11 ≤ 16777215) (k12 : 0 ≤ x12 ∧ x12 ≤ 63) (k13 : 0 ≤ x13 ∧ x13 ≤ 16777215) (k14 : 1 ≤ x14 ∧ x14 ≤ 1) (k15 : 1 ≤ x15 ∧ x15 ≤ 1) (k16 : 1 ≤ x16 ∧ x16 ≤ 24) (d0 : x7 + 1 ≤ x16 ∧ x16 ≤ x7 + 1) (d1 : x9 + (-4294967296) ≤ x16 ∧ x16 ≤ x9 + 0) (d2 : x6 + 0 ≤ x12 ∧ x12 ≤ x6 + 4294967296) (d3 : x9 + (-4294967296) ≤ x7 ∧ x7 ≤ x9 + (-1)) (d4 : x4 + (-4294967296) ≤ x1 ∧ x1 ≤ x4 + 0) (d5 : x1 + (-4294967296) ≤ x4 ∧ x4 ≤ x1 + 0) (d6 : x7 + (-4294967296) ≤ x5 ∧ x5 ≤ x7 + 0) (f0 : x16 = x7 + 1) (f1 : x6 ≤ x12) (f2 : x15 ≠ 0) (f3 : x15 = x13 % 2) (f4 : bvp (x15) = bvp (x13) &&& bvp (x14)) (f5 : bvp (x13) = bvp (x1) >>> (x7).toNat) (f6 : BCT (x11) (x12)) (h7 : x11 = near_0o2 (x7)) (f9 : x7 < x9) (g10 : x9 = nodes_0o2) (f11 : FWJ (x1) (x5) (x6) (x7)) (f12 : x7 ≤ nodes_0o2) (hK_2_14 : ∀ j : Int, 0 ≤ j → j < 24 → 0 ≤ near_0o2 j ∧ near_0o2 j ≤ 16777215) (kz_2_0 : 0 ≤ nodes_0o2 ∧ nodes_0o2 ≤ 24) : x16 ≤ nodes_0o2 := by
  omega
def o_Pl_fewestNeighbours_3 : or_T := (8, 17, [(0, (2, 0, 0, [6])), (1, (0, 0, 16777215, [])), (2, (2, 0, 0, [3])), (3, (2, 0, 0, [6])), (4, (0, 0, 16777215, [])), (5, (0, 0, 23, [])), (6, (0, 0, 63, [])), (7, (0, 0, 23, [])), (8, (2, 0, 0, [3])), (9, (0, 1, 24, [])), (10, (2, 0, 0, [59])), (11, (0, 0, 16777215, [])), (12, (0, 0, 63, [])), (13, (0, 0, 16777215, [])), (14, (0, 1, 1, [])), (15, (0, 1, 1, [])), (16, (0, 1, 24, []))], [(6, [16, 7], [1]), (7, [12, 6], [3]), (8, [15], [1]), (12, [15, 13], [2]), (16, [15, 13, 14], [0]), (16, [13, 4, 7], [4]), (20, [11, 12], [61, 0, 554]), (10, [11, 10, 7], []), (9, [10, 8], [14]), (7, [7, 9], [2]), (9, [9, 8], [0]), (20, [4, 5, 6, 7], [61, 0, 548]), (20, [7, 8], [50, 1, 0, 1000, 0, 2, 1, 0, 2, 1, 0]), (24, [2, 8], []), (24, [0, 3], []), (24, [1, 4], [])], [], [], [(20, [4, 5, 6, 16], [61, 0, 548]), (20, [16, 8], [50, 1, 0, 1000, 0, 2, 1, 0, 2, 1, 0])], [], [(16, 7, 1, 1), (16, 9, -4294967296, 0), (12, 6, 0, 4294967296), (7, 9, -4294967296, -1), (1, 4, -4294967296, 0), (4, 1, -4294967296, 0), (5, 7, -4294967296, 0)])
theorem oo_Pl_fewestNeighbours_3 {kA : Nat → ClassId} : or_ok PRD kA GG o_Pl_fewestNeighbours_3 := by
  refine or_mk fun A ta ws vs hD hth hl => ?_
  intro t0 r0 t1 k1 t2 r2 t3 r3 t4 k4 t5 k5 t6 k6 t7 k7 t8 r8 t9 k9 t10 r10 t11 k11 t12 k12 t13 k13 t14 k14 t15 k15 t16 k16 d0 d1 d2 d3 d4 d5 d6 f0 f1 f2 f3 f4 f5 f6 f7 f8 f9 f10 f11 f12 f13 f14 f15
  replace f0 := shm_4 f0
  replace f1 := shm_2 f1
  replace f2 := shm_142 f2
  replace f3 := shm_364 f3
  replace f4 := shm_11 f4
  replace f5 := shm_13 f5
  replace f6 := shm_15 f6
  replace f7 := shm_107 f7
  replace f8 := shm_115 f8
  replace f9 := shm_6 f9
  replace f10 := shm_163 f10
  replace f11 := shm_883 f11
  replace f12 := shm_411 f12
  replace f13 := shm_5 f13
  replace f15 := shm_5 f15
  have q8 : n_v vs 8 = n_v vs 2 := f13.symm
  have q4 : n_v vs 4 = n_v vs 1 := f15.symm
  simp only [q4, q8] at f5 f8 f10 f11 f12
  have cr_2_14 := fdq_75 hD hth r2
  have ad_10 : v_ad (n_v vs 10) = w_ar ws (n_v vs 2) 14 := congrArg v_ad f8
  simp only [ad_10] at f7
  have h7 : v_iv (n_v vs 11) = w_ei ws (w_ar ws (n_v vs 2) 14) (v_iv (n_v vs 7)) := f7
  have g10 : v_iv (n_v vs 9) = w_fi ws (n_v vs 2) 0 := congrArg v_iv f10
  have hK_2_14 := elq_25 hD hth cr_2_14
  have kz_2_0 := fdq_21 hD hth r2
  have nf0 : fc_1 PRD (20, [4, 5, 6, 16], [61, 0, 548]) ws (vs) := by
    refine ⟨nf_in hl rfl, sgq_883 ?_⟩
    · show FWJ (v_iv (n_v vs 4)) (v_iv (n_v vs 5)) (v_iv (n_v vs 6)) (v_iv (n_v vs 16))
      rw [q4]
      exact vc_Pl_fewestNeighbours_3_0 (v_iv (n_v vs 1)) (v_iv (n_v vs 4)) (v_iv (n_v vs 5)) (v_iv (n_v vs 6)) (v_iv (n_v vs 7)) (v_iv (n_v vs 9)) (v_iv (n_v vs 11)) (v_iv (n_v vs 12)) (v_iv (n_v vs 13)) (v_iv (n_v vs 14)) (v_iv (n_v vs 15)) (v_iv (n_v vs 16)) (w_ei ws (w_ar ws (n_v vs 2) 14)) (w_fi ws (n_v vs 2) 0) k1 k4 k5 k6 k7 k9 k11 k12 k13 k14 k15 k16 d0 d1 d2 d3 d4 d5 d6 f0 f1 f2 f3 f4 f5 f6 h7 f9 g10 f11 f12 hK_2_14 kz_2_0
  have nf1 : fc_1 PRD (20, [16, 8], [50, 1, 0, 1000, 0, 2, 1, 0, 2, 1, 0]) ws (vs) := by
    refine ⟨nf_in hl rfl, sgq_411 ?_⟩
    · show v_iv (n_v vs 16) ≤ w_fi ws (n_v vs 8) 0
      rw [q8]
      exact vc_Pl_fewestNeighbours_3_1 (v_iv (n_v vs 1)) (v_iv (n_v vs 4)) (v_iv (n_v vs 5)) (v_iv (n_v vs 6)) (v_iv (n_v vs 7)) (v_iv (n_v vs 9)) (v_iv (n_v vs 11)) (v_iv (n_v vs 12)) (v_iv (n_v vs 13)) (v_iv (n_v vs 14)) (v_iv (n_v vs 15)) (v_iv (n_v vs 16)) (w_ei ws (w_ar ws (n_v vs 2) 14)) (w_fi ws (n_v vs 2) 0) k1 k4 k5 k6 k7 k9 k11 k12 k13 k14 k15 k16 d0 d1 d2 d3 d4 d5 d6 f0 f1 f2 f3 f4 f5 f6 h7 f9 g10 f11 f12 hK_2_14 kz_2_0
  refine ⟨(fun _ h => (by cases h)), [], trivial, ?_, (fun _ h => (by cases h))⟩
  rw [List.append_nil]
  exact List.forall_mem_cons.mpr ⟨⟨show (20 : Nat) < 100 from by decide, nf0⟩, List.forall_mem_cons.mpr ⟨⟨show (20 : Nat) < 100 from by decide, nf1⟩, (fun _ h => (by cases h))⟩⟩
set_option maxHeartbeats 4000000 in
theorem vc_Pl_fewestNeighbours_4_0 (x1 : Int) (x4 : Int) (x5 : Int) (x6 : Int) (x7 : Int) (x9 : Int) (x11 : Int) (x12 : Int) (x13 : Int) (x14 : Int) (x15 : Int) (x16 : Int) (near_0o2 : Int → Int) (nodes_0o2 : Int) (k1 : 0 ≤ x1 ∧ x1 ≤ 16777215) (k4 : 0 ≤ x4 ∧ x4 ≤ 16777215) (k5 : 0 ≤ x5 ∧ x5 ≤ 23) (k6 : 1 ≤ x6 ∧ x6 ≤ 1000000000) (k7 : 0 ≤ x7 ∧ x7 ≤ 23) (k9 : 1 ≤ x9 ∧ x9 ≤ 24) (k11 : 0 ≤ x11 ∧ x11 ≤ 16777215) (k12 : 0 ≤ x12 ∧ x12 ≤ 63) (k13 : 0 ≤ x13 ∧ x13 ≤ 16777215) (k14 : 1 ≤ x14 ∧ x14 ≤ 1) (k15 : 1 ≤ x15 ∧ x15 ≤ 1) (k16 : 1 ≤ x16 ∧ x16 ≤ 24) (d0 : x7 + 1 ≤ x16 ∧ x16 ≤ x7 + 1) (d1 : x9 + (-4294967296) ≤ x16 ∧ x16 ≤ x9 + 0) (d2 : x6 + (-4294967296) ≤ x12 ∧ x12 ≤ x6 + (-1)) (d3 : x9 + (-4294967296) ≤ x7 ∧ x7 ≤ x9 + (-1)) (d4 : x4 + (-4294967296) ≤ x1 ∧ x1 ≤ x4 + 0) (d5 : x1 + (-4294967296) ≤ x4 ∧ x4 ≤ x1 + 0) (d6 : x7 + (-4294967296) ≤ x5 ∧ x5 ≤ x7 + 0) (f0 : x16 = x7 + 1) (f1 : x12 < x6) (f2 : x15 ≠ 0) (f3 : x15 = x13 % 2) (f4 : bvp (x15) = bvp (x13) &&& bvp (x14)) (f5 : bvp (x13) = bvp (x1) >>> (x7).toNat) (f6 : BCT (x11) (x12)) (h7 : x11 = near_0o2 (x7)) (f9 : x7 < x9) (g10 : x9 = nodes_0o2) (f11 : FWJ (x1) (x5) (x6) (x7)) (f12 : x7 ≤ nodes_0o2) (hK_2_14 : ∀ j : Int, 0 ≤ j → j < 24 → 0 ≤ near_0o2 j ∧ near_0o2 j ≤ 16777215) (kz_2_0 : 0 ≤ nodes_0o2 ∧ nodes_0o2 ≤ 24) : FWJ (x1) (x7) (x12) (x16) := by
  first
    | exact fwj_start (by omega) (by omega)
    | exact fwj_skip ‹FWJ _ _ _ _› (by first | (right; omega) | (left; intro z; have := (bit_one (by assumption) (by assumption) (by omega) (by omega) (by omega) (by omega)).mp z; omega)) (by omega)
    | exact fwj_take (l := x6) (f := x5) ((bit_one (by assumption) (by assumption) (by omega) (by omega) (by omega) (by omega)).mpr (by omega)) (by omega) (by omega) (by omega)
  
set_option maxHeartbeats 4000000 in
theorem vc_Pl_fewestNeighbours_4_1 (x1 : Int) (x4 : Int) (x5 : Int) (x6 : Int) (x7 : Int) (x9 : Int) (x11 : Int) (x12 : Int) (x13 : Int) (x14 : Int) (x15 : Int) (x16 : Int) (near_0o2 : Int → Int) (nodes_0o2 : Int) (k1 : 0 ≤ x1 ∧ x1 ≤ 16777215) (k4 : 0 ≤ x4 ∧ x4 ≤ 16777215) (k5 : 0 ≤ x5 ∧ x5 ≤ 23) (k6 : 1 ≤ x6 ∧ x6 ≤ 1000000000) (k7 : 0 ≤ x7 ∧ x7 ≤ 23) (k9 : 1 ≤ x9 ∧ x9 ≤ 24) (k11 : 0 ≤ x11 ∧ x11 ≤ 16777215) (k12 : 0 ≤ x12 ∧ x12 ≤ 63) (k13 : 0 ≤ x13 ∧ x13 ≤ 16777215) (k14 : 1 ≤ x14 ∧ x14 ≤ 1) (k15 : 1 ≤ x15 ∧ x15 ≤ 1) (k16 : 1 ≤ x16 ∧ x16 ≤ 24) (d0 : x7 + 1 ≤ x16 ∧ x16 ≤ x7 + 1) (d1 : x9 + (-4294967296) ≤ x16 ∧ x16 ≤ x9 + 0) (d2 : x6 + (-4294967296) ≤ x12 ∧ x12 ≤ x6 + (-1)) (d3 : x9 + (-4294967296) ≤ x7 ∧ x7 ≤ x9 + (-1)) (d4 : x4 + (-4294967296) ≤ x1 ∧ x1 ≤ x4 + 0) (d5 : x1 + (-4294967296) ≤ x4 ∧ x4 ≤ x1 + 0) (d6 : x7 + (-4294967296) ≤ x5 ∧ x5 ≤ x7 + 0) (f0 : x16 = x7 + 1) (f1 : x12 < x6) (f2 : x15 ≠ 0) (f3 : x15 = x13 % 2) (f4 : bvp (x15) = bvp (x13) &&& bvp (x14)) (f5 : bvp (x13) = bvp (x1) >>> (x7).toNat) (f6 : BCT (x11) (x12)) (h7 : x11 = near_0o2 (x7)) (f9 : x7 < x9) (g10 : x9 = nodes_0o2) (f11 : FWJ (x1) (x5) (x6) (x7)) (f12 : x7 ≤ nodes_0o2) (hK_2_14 : ∀ j : Int, 0 ≤ j → j < 24 → 0 ≤ near_0o2 j ∧ near_0o2 j ≤ 16777215) (kz_2_0 : 0 ≤ nodes_0o2 ∧ nodes_0o2 ≤ 24) : x16 ≤ nodes_0o2 := by
  omega
def o_Pl_fewestNeighbours_4 : or_T := (8, 17, [(0, (2, 0, 0, [6])), (1, (0, 0, 16777215, [])), (2, (2, 0, 0, [3])), (3, (2, 0, 0, [6])), (4, (0, 0, 16777215, [])), (5, (0, 0, 23, [])), (6, (0, 1, 1000000000, [])), (7, (0, 0, 23, [])), (8, (2, 0, 0, [3])), (9, (0, 1, 24, [])), (10, (2, 0, 0, [59])), (11, (0, 0, 16777215, [])), (12, (0, 0, 63, [])), (13, (0, 0, 16777215, [])), (14, (0, 1, 1, [])), (15, (0, 1, 1, [])), (16, (0, 1, 24, []))], [(6, [16, 7], [1]), (7, [12, 6], [2]), (8, [15], [1]), (12, [15, 13], [2]), (16, [15, 13, 14], [0]), (16, [13, 4, 7], [4]), (20, [11, 12], [61, 0, 554]), (10, [11, 10, 7], []), (9, [10, 8], [14]), (7, [7, 9], [2]), (9, [9, 8], [0]), (20, [4, 5, 6, 7], [61, 0, 548]), (20, [7, 8], [50, 1, 0, 1000, 0, 2, 1, 0, 2, 1, 0]), (24, [2, 8], []), (24, [0, 3], []), (24, [1, 4], [])], [], [], [(20, [4, 7, 12, 16], [61, 0, 548]), (20, [16, 8], [50, 1, 0, 1000, 0, 2, 1, 0, 2, 1, 0])], [], [(16, 7, 1, 1), (16, 9, -4294967296, 0), (12, 6, -4294967296, -1), (7, 9, -4294967296, -1), (1, 4, -4294967296, 0), (4, 1, -4294967296, 0), (5, 7, -4294967296, 0)])
theorem oo_Pl_fewestNeighbours_4 {kA : Nat → ClassId} : or_ok PRD kA GG o_Pl_fewestNeighbours_4 := by
  refine or_mk fun A ta ws vs hD hth hl => ?_
  intro t0 r0 t1 k1 t2 r2 t3 r3 t4 k4 t5 k5 t6 k6 t7 k7 t8 r8 t9 k9 t10 r10 t11 k11 t12 k12 t13 k13 t14 k14 t15 k15 t16 k16 d0 d1 d2 d3 d4 d5 d6 f0 f1 f2 f3 f4 f5 f6 f7 f8 f9 f10 f11 f12 f13 f14 f15
  replace f0 := shm_4 f0
  replace f1 := shm_6 f1
  replace f2 := shm_142 f2
  replace f3 := shm_364 f3
  replace f4 := shm_11 f4
  replace f5 := shm_13 f5
  replace f6 := shm_15 f6
  replace f7 := shm_107 f7
  replace f8 := shm_115 f8
  replace f9 := shm_6 f9
  replace f10 := shm_163 f10
  replace f11 := shm_883 f11
  replace f12 := shm_411 f12
  replace f13 := shm_5 f13
  replace f15 := shm_5 f15
  have q8 : n_v vs 8 = n_v vs 2 := f13.symm
  have q4 : n_v vs 4 = n_v vs 1 := f15.symm
  simp only [q4, q8] at f5 f8 f10 f11 f12
  have cr_2_14 := fdq_75 hD hth r2
  have ad_10 : v_ad (n_v vs 10) = w_ar ws (n_v vs 2) 14 := congrArg v_ad f8
  simp only [ad_10] at f7
  have h7 : v_iv (n_v vs 11) = w_ei ws (w_ar ws (n_v vs 2) 14) (v_iv (n_v vs 7)) := f7
  have g10 : v_iv (n_v vs 9) = w_fi ws (n_v vs 2) 0 := congrArg v_iv f10
  have hK_2_14 := elq_25 hD hth cr_2_14
  have kz_2_0 := fdq_21 hD hth r2
  have nf0 : fc_1 PRD (20, [4, 7, 12, 16], [61, 0, 548]) ws (vs) := by
    refine ⟨nf_in hl rfl, sgq_883 ?_⟩
    · show FWJ (v_iv (n_v vs 4)) (v_iv (n_v vs 7)) (v_iv (n_v vs 12)) (v_iv (n_v vs 16))
      rw [q4]
      exact vc_Pl_fewestNeighbours_4_0 (v_iv (n_v vs 1)) (v_iv (n_v vs 4)) (v_iv (n_v vs 5)) (v_iv (n_v vs 6)) (v_iv (n_v vs 7)) (v_iv (n_v vs 9)) (v_iv (n_v vs 11)) (v_iv (n_v vs 12)) (v_iv (n_v vs 13)) (v_iv (n_v vs 14)) (v_iv (n_v vs 15)) (v_iv (n_v vs 16)) (w_ei ws (w_ar ws (n_v vs 2) 14)) (w_fi ws (n_v vs 2) 0) k1 k4 k5 k6 k7 k9 k11 k12 k13 k14 k15 k16 d0 d1 d2 d3 d4 d5 d6 f0 f1 f2 f3 f4 f5 f6 h7 f9 g10 f11 f12 hK_2_14 kz_2_0
  have nf1 : fc_1 PRD (20, [16, 8], [50, 1, 0, 1000, 0, 2, 1, 0, 2, 1, 0]) ws (vs) := by
    refine ⟨nf_in hl rfl, sgq_411 ?_⟩
    · show v_iv (n_v vs 16) ≤ w_fi ws (n_v vs 8) 0
      rw [q8]
      exact vc_Pl_fewestNeighbours_4_1 (v_iv (n_v vs 1)) (v_iv (n_v vs 4)) (v_iv (n_v vs 5)) (v_iv (n_v vs 6)) (v_iv (n_v vs 7)) (v_iv (n_v vs 9)) (v_iv (n_v vs 11)) (v_iv (n_v vs 12)) (v_iv (n_v vs 13)) (v_iv (n_v vs 14)) (v_iv (n_v vs 15)) (v_iv (n_v vs 16)) (w_ei ws (w_ar ws (n_v vs 2) 14)) (w_fi ws (n_v vs 2) 0) k1 k4 k5 k6 k7 k9 k11 k12 k13 k14 k15 k16 d0 d1 d2 d3 d4 d5 d6 f0 f1 f2 f3 f4 f5 f6 h7 f9 g10 f11 f12 hK_2_14 kz_2_0
  refine ⟨(fun _ h => (by cases h)), [], trivial, ?_, (fun _ h => (by cases h))⟩
  rw [List.append_nil]
  exact List.forall_mem_cons.mpr ⟨⟨show (20 : Nat) < 100 from by decide, nf0⟩, List.forall_mem_cons.mpr ⟨⟨show (20 : Nat) < 100 from by decide, nf1⟩, (fun _ h => (by cases h))⟩⟩
def n_Pl_fewestNeighbours_an : List an_T := [(8, [(0, (2, 0, 0, [6])), (1, (0, 0, 16777215, [])), (2, (0, 0, 23, [])), (3, (0, 0, 1000000000, [])), (4, (0, 0, 24, []))], [], (0, 0), [(0, 0, 99992), (1, 7, 24), (0, 0, 100000)], [(1, 4, (Int.negSucc 999999999999), 0), (4, 1, (Int.negSucc 999999999999), 0), (5, 7, (Int.negSucc 999999999999), 0)], [((0, 0), (2, 0, 0, [3]))], [(2, 0, 0, [6]), (0, 0, 16777215, []), (2, 0, 0, [3])], 0, [], [(20, [4, 5, 6, 7], [61, 0, 548]), (20, [7, 8], [50, 1, 0, 1000, 0, 2, 1, 0, 2, 1, 0]), (24, [2, 8], []), (24, [0, 3], []), (24, [1, 4], [])])]
def t_Pl_fewestNeighbours_ct : ct_L := [(93, 230, e_jInt_bitCount_v8)]
set_option maxRecDepth 100000 in
theorem c_Pl_fewestNeighbours {l : Launch} {D : va_G} {kA : Nat → ClassId} : ct_ok PRD l D kA GG y_Pl_fewestNeighbours z_Pl_fewestNeighbours e_Pl_fewestNeighbours := chk_all_ok (FT := [(9, 6, 0), (74, 3, 0), (138, 3, 14)]) (PT := []) (CT := t_Pl_fewestNeighbours_ct) (KT := [(0, 212, .int (1000000000), (0, 1000000000, 1000000000, []))]) (NT := []) (AN := n_Pl_fewestNeighbours_an) (OT := [o_Pl_fewestNeighbours_0, o_Pl_fewestNeighbours_1, o_Pl_fewestNeighbours_2, o_Pl_fewestNeighbours_3, o_Pl_fewestNeighbours_4]) 3 200 (List.forall_mem_cons.mpr ⟨oo_Pl_fewestNeighbours_0, List.forall_mem_cons.mpr ⟨oo_Pl_fewestNeighbours_1, List.forall_mem_cons.mpr ⟨oo_Pl_fewestNeighbours_2, List.forall_mem_cons.mpr ⟨oo_Pl_fewestNeighbours_3, List.forall_mem_cons.mpr ⟨oo_Pl_fewestNeighbours_4, List.forall_mem_nil _⟩⟩⟩⟩⟩) (by decide +kernel) ⟨List.forall_mem_cons.mpr ⟨gf_Pl_9, List.forall_mem_cons.mpr ⟨gf_Pl_74, List.forall_mem_cons.mpr ⟨gf_Pl_138, List.forall_mem_nil _⟩⟩⟩, List.forall_mem_nil _, List.forall_mem_cons.mpr ⟨cl_static (y := y_jInt_bitCount) c_jInt_bitCount_v8 wm_870 wm_17 wm_1771 wm_869 ⟨by decide, by decide, by decide +kernel⟩ (by decide), List.forall_mem_nil _⟩, List.forall_mem_cons.mpr ⟨kx_Pl_0_212, List.forall_mem_nil _⟩, List.forall_mem_nil _, GG_pl⟩ (by decide +kernel)

set_option maxHeartbeats 4000000 in
theorem vc_Pl_layRow_0_1 (x1 : Int) (x2 : Int) (x3 : Int) (x4 : Int) (x7 : Int) (x8 : Int) (x9 : Int) (x10 : Int) (x11 : Int) (x12 : Int) (x13 : Int) (x14 : Int) (x15 : Int) (space_0 : Int → Int) (area_0o5 : Int → Int) (itemSize_0 : Int → Int) (k1 : 0 ≤ x1 ∧ x1 ≤ 31) (k2 : 1 ≤ x2 ∧ x2 ≤ 32) (k3 : 0 ≤ x3 ∧ x3 ≤ 131071) (k4 : (-2147483648) ≤ x4 ∧ x4 ≤ 0) (k7 : 2 ≤ x7 ∧ x7 ≤ 2) (k8 : (-511) ≤ x8 ∧ x8 ≤ 512) (k9 : 3 ≤ x9 ∧ x9 ≤ 3) (k10 : (-512) ≤ x10 ∧ x10 ≤ 511) (k11 : 0 ≤ x11 ∧ x11 ≤ 0) (k12 : 3 ≤ x12 ∧ x12 ≤ 3) (k13 : (-512) ≤ x13 ∧ x13 ≤ 512) (k14 : 0 ≤ x14 ∧ x14 ≤ 0) (k15 : 0 ≤ x15 ∧ x15 ≤ 0) (d0 : x10 + 1 ≤ x8 ∧ x8 ≤ x10 + 4294967296) (f0 : x4 ≤ 0) (h1 : x13 = space_0 (x12)) (f3 : x11 = 0) (f4 : x10 < x8) (h5 : x10 = space_0 (x9)) (h6 : x8 = space_0 (x7)) (f7 : SPC (space_0)) (f8 : BXA (area_0o5)) (f9 : RWS6 (itemSize_0) (x1) (x2) (x3) (x4)) (hK_0_10 : ∀ j : Int, 0 ≤ j → j < 32 → 0 ≤ itemSize_0 j ∧ itemSize_0 j ≤ 2400) (hK_0_12 : ∀ j : Int, 0 ≤ j → j < 4 → (-512) ≤ space_0 j ∧ space_0 j ≤ 512) (hK_5_13 : ∀ j : Int, 0 ≤ j → j < 128 → (-512) ≤ area_0o5 j ∧ area_0o5 j ≤ 512) : RWA (space_0) (x11) (x13) (x14) := by
  first
    | assumption
    | exact Or.inr ⟨by omega, by rw [‹x13 = space_0 x12›, show x12 = 3 by omega], btw_00 (by omega)⟩
    | exact Or.inl ⟨by omega, by rw [‹x13 = space_0 x12›, show x12 = 2 by omega], btw_00 (by omega)⟩
    | (obtain ⟨_, _, s0, s1, t1⟩ := ‹RWS6 _ _ _ _ _›
       exact Or.inr ⟨by omega, by rw [‹x13 = space_0 x12›, show x12 = 3 by omega], by rw [show (2 : Int) = x14 by omega, ← ‹x15 = space_0 x14›]; exact btw_q (o := x3) (u := x4) (by assumption) (by assumption) (by omega) (by omega) (by omega)⟩)
    | (obtain ⟨_, _, s0, s1, t1⟩ := ‹RWS6 _ _ _ _ _›
       exact Or.inl ⟨by omega, by rw [‹x13 = space_0 x12›, show x12 = 2 by omega], by rw [show (3 : Int) = x14 by omega, ← ‹x15 = space_0 x14›]; exact btw_q (o := x3) (u := x4) (by assumption) (by assumption) (by omega) (by omega) (by omega)⟩)
  
set_option maxHeartbeats 4000000 in
theorem vc_Pl_layRow_0_2 (x1 : Int) (x2 : Int) (x3 : Int) (x4 : Int) (x7 : Int) (x8 : Int) (x9 : Int) (x10 : Int) (x11 : Int) (x12 : Int) (x13 : Int) (x14 : Int) (x15 : Int) (space_0 : Int → Int) (area_0o5 : Int → Int) (itemSize_0 : Int → Int) (k1 : 0 ≤ x1 ∧ x1 ≤ 31) (k2 : 1 ≤ x2 ∧ x2 ≤ 32) (k3 : 0 ≤ x3 ∧ x3 ≤ 131071) (k4 : (-2147483648) ≤ x4 ∧ x4 ≤ 0) (k7 : 2 ≤ x7 ∧ x7 ≤ 2) (k8 : (-511) ≤ x8 ∧ x8 ≤ 512) (k9 : 3 ≤ x9 ∧ x9 ≤ 3) (k10 : (-512) ≤ x10 ∧ x10 ≤ 511) (k11 : 0 ≤ x11 ∧ x11 ≤ 0) (k12 : 3 ≤ x12 ∧ x12 ≤ 3) (k13 : (-512) ≤ x13 ∧ x13 ≤ 512) (k14 : 0 ≤ x14 ∧ x14 ≤ 0) (k15 : 0 ≤ x15 ∧ x15 ≤ 0) (d0 : x10 + 1 ≤ x8 ∧ x8 ≤ x10 + 4294967296) (f0 : x4 ≤ 0) (h1 : x13 = space_0 (x12)) (f3 : x11 = 0) (f4 : x10 < x8) (h5 : x10 = space_0 (x9)) (h6 : x8 = space_0 (x7)) (f7 : SPC (space_0)) (f8 : BXA (area_0o5)) (f9 : RWS6 (itemSize_0) (x1) (x2) (x3) (x4)) (hK_0_10 : ∀ j : Int, 0 ≤ j → j < 32 → 0 ≤ itemSize_0 j ∧ itemSize_0 j ≤ 2400) (hK_0_12 : ∀ j : Int, 0 ≤ j → j < 4 → (-512) ≤ space_0 j ∧ space_0 j ≤ 512) (hK_5_13 : ∀ j : Int, 0 ≤ j → j < 128 → (-512) ≤ area_0o5 j ∧ area_0o5 j ≤ 512) : RWK (itemSize_0) (x1) (x2) (x3) (x1) (x15) := by
  first
    | assumption
    | exact rwk_start ‹RWS6 _ _ _ _ _› (by omega) (by omega)
    | exact rwl_to ‹RWL _ _ _ _ _ _› (by omega)
    | exact rwk_step ‹RWK _ _ _ _ _ _› (by omega) (by assumption) (by omega) (by omega)
  
def o_Pl_layRow_0 : or_T := (86, 16, [(0, (2, 0, 0, [6])), (1, (0, 0, 31, [])), (2, (0, 1, 32, [])), (3, (0, 0, 131071, [])), (4, (0, -2147483648, 0, [])), (5, (2, 0, 0, [0])), (6, (2, 0, 0, [97])), (7, (0, 2, 2, [])), (8, (0, -511, 512, [])), (9, (0, 3, 3, [])), (10, (0, -512, 511, [])), (11, (0, 0, 0, [])), (12, (0, 3, 3, [])), (13, (0, -512, 512, [])), (14, (0, 0, 0, [])), (15, (0, 0, 0, []))], [(8, [4], [5]), (10, [13, 6, 12], []), (9, [6, 0], [12]), (8, [11], [0]), (7, [8, 10], [4]), (10, [10, 6, 9], []), (10, [8, 6, 7], []), (20, [0], [60, 0, 1, 845, 12]), (20, [5], [60, 0, 1, 844, 13]), (20, [0, 1, 2, 3, 4], [60, 0, 1, 848, 10])], [], [], [(24, [5, 5], []), (20, [0, 11, 13, 14], [60, 0, 1, 851, 12]), (20, [0, 1, 2, 3, 1, 15], [60, 0, 1, 849, 10]), (24, [0, 0], []), (24, [1, 1], []), (24, [2, 2], []), (24, [3, 3], [])], [], [(8, 10, 1, 4294967296)])
theorem oo_Pl_layRow_0 {kA : Nat → ClassId} : or_ok PRD kA GG o_Pl_layRow_0 := by
  refine or_mk fun A ta ws vs hD hth hl => ?_
  intro t0 r0 t1 k1 t2 k2 t3 k3 t4 k4 t5 r5 t6 r6 t7 k7 t8 k8 t9 k9 t10 k10 t11 k11 t12 k12 t13 k13 t14 k14 t15 k15 d0 f0 f1 f2 f3 f4 f5 f6 f7 f8 f9
  replace f1 := shm_107 f1
  replace f2 := shm_103 f2
  replace f5 := shm_107 f5
  replace f6 := shm_107 f6
  have cr_0_10 := fdq_9 hD hth r0
  have cr_0_12 := fdq_226 hD hth r0
  have cr_5_13 := fdq_88 hD hth r5
  have ad_6 : v_ad (n_v vs 6) = w_ar ws (n_v vs 0) 12 := congrArg v_ad f2
  simp only [ad_6] at f1
  have h1 : v_iv (n_v vs 13) = w_ei ws (w_ar ws (n_v vs 0) 12) (v_iv (n_v vs 12)) := f1
  simp only [ad_6] at f5
  have h5 : v_iv (n_v vs 10) = w_ei ws (w_ar ws (n_v vs 0) 12) (v_iv (n_v vs 9)) := f5
  simp only [ad_6] at f6
  have h6 : v_iv (n_v vs 8) = w_ei ws (w_ar ws (n_v vs 0) 12) (v_iv (n_v vs 7)) := f6
  have hK_0_10 := elq_138 hD hth cr_0_10
  have hK_0_12 := elq_139 hD hth cr_0_12
  have hK_5_13 := elq_44 hD hth cr_5_13
  have nf0 : fc_1 PRD (24, [5, 5], []) ws (vs) := by
    refine ⟨nf_in hl rfl, sgq_1 ?_⟩
    · show n_v vs 5 = n_v vs 5
      first | rfl | simp only [true_and]
  have nf1 : fc_1 PRD (20, [0, 11, 13, 14], [60, 0, 1, 851, 12]) ws (vs) := ⟨nf_in hl rfl, sgq_887 (vc_Pl_layRow_0_1 (v_iv (n_v vs 1)) (v_iv (n_v vs 2)) (v_iv (n_v vs 3)) (v_iv (n_v vs 4)) (v_iv (n_v vs 7)) (v_iv (n_v vs 8)) (v_iv (n_v vs 9)) (v_iv (n_v vs 10)) (v_iv (n_v vs 11)) (v_iv (n_v vs 12)) (v_iv (n_v vs 13)) (v_iv (n_v vs 14)) (v_iv (n_v vs 15)) (w_ei ws (w_ar ws (n_v vs 0) 12)) (w_ei ws (w_ar ws (n_v vs 5) 13)) (w_ei ws (w_ar ws (n_v vs 0) 10)) k1 k2 k3 k4 k7 k8 k9 k10 k11 k12 k13 k14 k15 d0 (shm_295 f0) h1 (shm_192 f3) (shm_21 f4) h5 h6 (shm_885 f7) (shm_418 f8) (shm_886 f9) hK_0_10 hK_0_12 hK_5_13)⟩
  have nf2 : fc_1 PRD (20, [0, 1, 2, 3, 1, 15], [60, 0, 1, 849, 10]) ws (vs) := ⟨nf_in hl rfl, sgq_888 (vc_Pl_layRow_0_2 (v_iv (n_v vs 1)) (v_iv (n_v vs 2)) (v_iv (n_v vs 3)) (v_iv (n_v vs 4)) (v_iv (n_v vs 7)) (v_iv (n_v vs 8)) (v_iv (n_v vs 9)) (v_iv (n_v vs 10)) (v_iv (n_v vs 11)) (v_iv (n_v vs 12)) (v_iv (n_v vs 13)) (v_iv (n_v vs 14)) (v_iv (n_v vs 15)) (w_ei ws (w_ar ws (n_v vs 0) 12)) (w_ei ws (w_ar ws (n_v vs 5) 13)) (w_ei ws (w_ar ws (n_v vs 0) 10)) k1 k2 k3 k4 k7 k8 k9 k10 k11 k12 k13 k14 k15 d0 (shm_295 f0) h1 (shm_192 f3) (shm_21 f4) h5 h6 (shm_885 f7) (shm_418 f8) (shm_886 f9) hK_0_10 hK_0_12 hK_5_13)⟩
  have nf3 : fc_1 PRD (24, [0, 0], []) ws (vs) := by
    refine ⟨nf_in hl rfl, sgq_1 ?_⟩
    · show n_v vs 0 = n_v vs 0
      first | rfl | simp only [true_and]
  have nf4 : fc_1 PRD (24, [1, 1], []) ws (vs) := by
    refine ⟨nf_in hl rfl, sgq_1 ?_⟩
    · show n_v vs 1 = n_v vs 1
      first | rfl | simp only [true_and]
  have nf5 : fc_1 PRD (24, [2, 2], []) ws (vs) := by
    refine ⟨nf_in hl rfl, sgq_1 ?_⟩
    · show n_v vs 2 = n_v vs 2
      first | rfl | simp only [true_and]
  have nf6 : fc_1 PRD (24, [3, 3], []) ws (vs) := by
    refine ⟨nf_in hl rfl, sgq_1 ?_⟩
    · show n_v vs 3 = n_v vs 3
      first | rfl | simp only [true_and]
  refine ⟨(fun _ h => (by cases h)), [], trivial, ?_, (fun _ h => (by cases h))⟩
  rw [List.append_nil]
  exact List.forall_mem_cons.mpr ⟨⟨show (24 : Nat) < 100 from by decide, nf0⟩, List.forall_mem_cons.mpr ⟨⟨show (20 : Nat) < 100 from by decide, nf1⟩, List.forall_mem_cons.mpr ⟨⟨show (20 : Nat) < 100 from by decide, nf2⟩, List.forall_mem_cons.mpr ⟨⟨show (24 : Nat) < 100 from by decide, nf3⟩, List.forall_mem_cons.mpr ⟨⟨show (24 : Nat) < 100 from by decide, nf4⟩, List.forall_mem_cons.mpr ⟨⟨show (24 : Nat) < 100 from by decide, nf5⟩, List.forall_mem_cons.mpr ⟨⟨show (24 : Nat) < 100 from by decide, nf6⟩, (fun _ h => (by cases h))⟩⟩⟩⟩⟩⟩⟩
set_option maxHeartbeats 4000000 in
theorem vc_Pl_layRow_1_r0 (x1 : Int) (x2 : Int) (x3 : Int) (x4 : Int) (x7 : Int) (x8 : Int) (x9 : Int) (x10 : Int) (x12 : Int) (x13 : Int) (x14 : Int) (x15 : Int) (space_0 : Int → Int) (area_0o5 : Int → Int) (itemSize_0 : Int → Int) (k1 : 0 ≤ x1 ∧ x1 ≤ 31) (k2 : 1 ≤ x2 ∧ x2 ≤ 32) (k3 : 0 ≤ x3 ∧ x3 ≤ 131071) (k4 : 1 ≤ x4 ∧ x4 ≤ 131071) (k7 : 2 ≤ x7 ∧ x7 ≤ 2) (k8 : (-511) ≤ x8 ∧ x8 ≤ 512) (k9 : 3 ≤ x9 ∧ x9 ≤ 3) (k10 : (-512) ≤ x10 ∧ x10 ≤ 511) (k12 : 3 ≤ x12 ∧ x12 ≤ 3) (k13 : (-512) ≤ x13 ∧ x13 ≤ 512) (k14 : 2 ≤ x14 ∧ x14 ≤ 2) (k15 : (-512) ≤ x15 ∧ x15 ≤ 512) (d0 : x10 + 1 ≤ x8 ∧ x8 ≤ x10 + 4294967296) (h0 : x15 = space_0 (x14)) (f2 : 0 < x4) (h3 : x13 = space_0 (x12)) (f4 : x10 < x8) (h5 : x10 = space_0 (x9)) (h6 : x8 = space_0 (x7)) (f7 : SPC (space_0)) (f8 : BXA (area_0o5)) (f9 : RWS6 (itemSize_0) (x1) (x2) (x3) (x4)) (hK_0_10 : ∀ j : Int, 0 ≤ j → j < 32 → 0 ≤ itemSize_0 j ∧ itemSize_0 j ≤ 2400) (hK_0_12 : ∀ j : Int, 0 ≤ j → j < 4 → (-512) ≤ space_0 j ∧ space_0 j ≤ 512) (hK_5_13 : ∀ j : Int, 0 ≤ j → j < 128 → (-512) ≤ area_0o5 j ∧ area_0o5 j ≤ 512) : 0 ≤ x3 ∧ x3 ≤ 76800 := by
  first
    | omega
    | (obtain ⟨_, _, s0, s1, t1⟩ := ‹RWS6 _ _ _ _ _›; omega)
    | (obtain ⟨_, _, s0, s1, t1⟩ := ‹RWS6 _ _ _ _ _›
       exact btw_bd (btw_q (a := x15) (o := x3) (u := x4) (by assumption) (by assumption) (by omega) (by omega) (by omega)) (by omega) (by omega))
    | (have q := rwk_bd ‹RWK _ _ _ _ _ _› (fun j a b => by have := hK_0_10 j a b; omega); omega)
    | (have q := rwk_bd (rwk_step (k_zq := x15 + 1) (p_zq := x21) ‹RWK _ _ _ _ _ _› (by omega) (by assumption) rfl (by omega)) (fun j a b => by have := hK_0_10 j a b; omega); omega)
    | (have q := rwk_bd ‹RWK _ _ _ _ _ _› (fun j a b => by have := hK_0_10 j a b; omega)
       exact btw_bd (btw_q (a := x12) (o := x14) (u := x3) (by assumption) (by assumption) (by omega) (by omega) (by omega)) (by omega) (by omega))
    | (have q := rwk_bd (rwk_step (k_zq := x15 + 1) (p_zq := x21) ‹RWK _ _ _ _ _ _› (by omega) (by assumption) rfl (by omega)) (fun j a b => by have := hK_0_10 j a b; omega)
       exact btw_bd (btw_q (a := x12) (o := x21) (u := x3) (by assumption) (by assumption) (by omega) (by omega) (by omega)) (by omega) (by omega))
  
def o_Pl_layRow_1 : or_T := (70, 16, [(0, (2, 0, 0, [6])), (1, (0, 0, 31, [])), (2, (0, 1, 32, [])), (3, (0, 0, 131071, [])), (4, (0, 1, 131071, [])), (5, (2, 0, 0, [0])), (6, (2, 0, 0, [97])), (7, (0, 2, 2, [])), (8, (0, -511, 512, [])), (9, (0, 3, 3, [])), (10, (0, -512, 511, [])), (12, (0, 3, 3, [])), (13, (0, -512, 512, [])), (14, (0, 2, 2, [])), (15, (0, -512, 512, []))], [(10, [15, 6, 14], []), (9, [6, 0], [12]), (8, [4], [4]), (10, [13, 6, 12], []), (7, [8, 10], [4]), (10, [10, 6, 9], []), (10, [8, 6, 7], []), (20, [0], [60, 0, 1, 845, 12]), (20, [5], [60, 0, 1, 844, 13]), (20, [0, 1, 2, 3, 4], [60, 0, 1, 848, 10])], [(3, (0, 0, 76800, []))], [], [], [], [(8, 10, 1, 4294967296)])
theorem oo_Pl_layRow_1 {kA : Nat → ClassId} : or_ok PRD kA GG o_Pl_layRow_1 := by
  refine or_mk fun A ta ws vs hD hth hl => ?_
  intro t0 r0 t1 k1 t2 k2 t3 k3 t4 k4 t5 r5 t6 r6 t7 k7 t8 k8 t9 k9 t10 k10 t12 k12 t13 k13 t14 k14 t15 k15 d0 f0 f1 f2 f3 f4 f5 f6 f7 f8 f9
  replace f0 := shm_107 f0
  replace f1 := shm_103 f1
  replace f3 := shm_107 f3
  replace f5 := shm_107 f5
  replace f6 := shm_107 f6
  have cr_0_10 := fdq_9 hD hth r0
  have cr_0_12 := fdq_226 hD hth r0
  have cr_5_13 := fdq_88 hD hth r5
  have ad_6 : v_ad (n_v vs 6) = w_ar ws (n_v vs 0) 12 := congrArg v_ad f1
  simp only [ad_6] at f0
  have h0 : v_iv (n_v vs 15) = w_ei ws (w_ar ws (n_v vs 0) 12) (v_iv (n_v vs 14)) := f0
  simp only [ad_6] at f3
  have h3 : v_iv (n_v vs 13) = w_ei ws (w_ar ws (n_v vs 0) 12) (v_iv (n_v vs 12)) := f3
  simp only [ad_6] at f5
  have h5 : v_iv (n_v vs 10) = w_ei ws (w_ar ws (n_v vs 0) 12) (v_iv (n_v vs 9)) := f5
  simp only [ad_6] at f6
  have h6 : v_iv (n_v vs 8) = w_ei ws (w_ar ws (n_v vs 0) 12) (v_iv (n_v vs 7)) := f6
  have hK_0_10 := elq_138 hD hth cr_0_10
  have hK_0_12 := elq_139 hD hth cr_0_12
  have hK_5_13 := elq_44 hD hth cr_5_13
  have hrf0 : 0 ≤ v_iv (n_v vs 3) ∧ v_iv (n_v vs 3) ≤ 76800 := vc_Pl_layRow_1_r0 (v_iv (n_v vs 1)) (v_iv (n_v vs 2)) (v_iv (n_v vs 3)) (v_iv (n_v vs 4)) (v_iv (n_v vs 7)) (v_iv (n_v vs 8)) (v_iv (n_v vs 9)) (v_iv (n_v vs 10)) (v_iv (n_v vs 12)) (v_iv (n_v vs 13)) (v_iv (n_v vs 14)) (v_iv (n_v vs 15)) (w_ei ws (w_ar ws (n_v vs 0) 12)) (w_ei ws (w_ar ws (n_v vs 5) 13)) (w_ei ws (w_ar ws (n_v vs 0) 10)) k1 k2 k3 k4 k7 k8 k9 k10 k12 k13 k14 k15 d0 h0 (shm_308 f2) h3 (shm_21 f4) h5 h6 (shm_885 f7) (shm_418 f8) (shm_886 f9) hK_0_10 hK_0_12 hK_5_13
  have rf3 : tv_ok ta (0, 0, 76800, []) (n_v vs 3) := tv_in t3 (by first | omega | grind) (by first | omega | grind)
  refine ⟨List.forall_mem_cons.mpr ⟨rf3, (fun _ h => (by cases h))⟩, [], trivial, ?_, (fun _ h => (by cases h))⟩
  rw [List.append_nil]
  exact (fun _ h => (by cases h))
set_option maxHeartbeats 4000000 in
theorem vc_Pl_layRow_2_r0 (x1 : Int) (x2 : Int) (x3 : Int) (x4 : Int) (x7 : Int) (x8 : Int) (x9 : Int) (x10 : Int) (x12 : Int) (x13 : Int) (x14 : Int) (x15 : Int) (x16 : Int) (x17 : Int) (space_0 : Int → Int) (area_0o5 : Int → Int) (itemSize_0 : Int → Int) (k1 : 0 ≤ x1 ∧ x1 ≤ 31) (k2 : 1 ≤ x2 ∧ x2 ≤ 32) (k3 : 0 ≤ x3 ∧ x3 ≤ 76800) (k4 : 1 ≤ x4 ∧ x4 ≤ 131071) (k7 : 2 ≤ x7 ∧ x7 ≤ 2) (k8 : (-511) ≤ x8 ∧ x8 ≤ 512) (k9 : 3 ≤ x9 ∧ x9 ≤ 3) (k10 : (-512) ≤ x10 ∧ x10 ≤ 511) (k12 : 3 ≤ x12 ∧ x12 ≤ 3) (k13 : (-512) ≤ x13 ∧ x13 ≤ 512) (k14 : 2 ≤ x14 ∧ x14 ≤ 2) (k15 : (-512) ≤ x15 ∧ x15 ≤ 512) (k16 : (-39321600) ≤ x16 ∧ x16 ≤ 39321600) (k17 : (-39321600) ≤ x17 ∧ x17 ≤ 39321600) (d0 : x10 + 1 ≤ x8 ∧ x8 ≤ x10 + 4294967296) (f0 : x17 = Int.tdiv (x16) (x4)) (f1 : x16 = x15 * x3) (h2 : x15 = space_0 (x14)) (f4 : 0 < x4) (h5 : x13 = space_0 (x12)) (f6 : x10 < x8) (h7 : x10 = space_0 (x9)) (h8 : x8 = space_0 (x7)) (f9 : SPC (space_0)) (f10 : BXA (area_0o5)) (f11 : RWS6 (itemSize_0) (x1) (x2) (x3) (x4)) (hK_0_10 : ∀ j : Int, 0 ≤ j → j < 32 → 0 ≤ itemSize_0 j ∧ itemSize_0 j ≤ 2400) (hK_0_12 : ∀ j : Int, 0 ≤ j → j < 4 → (-512) ≤ space_0 j ∧ space_0 j ≤ 512) (hK_5_13 : ∀ j : Int, 0 ≤ j → j < 128 → (-512) ≤ area_0o5 j ∧ area_0o5 j ≤ 512) : (-512) ≤ x17 ∧ x17 ≤ 512 := by
  first
    | omega
    | (obtain ⟨_, _, s0, s1, t1⟩ := ‹RWS6 _ _ _ _ _›; omega)
    | (obtain ⟨_, _, s0, s1, t1⟩ := ‹RWS6 _ _ _ _ _›
       exact btw_bd (btw_q (a := x15) (o := x3) (u := x4) (by assumption) (by assumption) (by omega) (by omega) (by omega)) (by omega) (by omega))
    | (have q := rwk_bd ‹RWK _ _ _ _ _ _› (fun j a b => by have := hK_0_10 j a b; omega); omega)
    | (have q := rwk_bd (rwk_step (k_zq := x15 + 1) (p_zq := x21) ‹RWK _ _ _ _ _ _› (by omega) (by assumption) rfl (by omega)) (fun j a b => by have := hK_0_10 j a b; omega); omega)
    | (have q := rwk_bd ‹RWK _ _ _ _ _ _› (fun j a b => by have := hK_0_10 j a b; omega)
       exact btw_bd (btw_q (a := x12) (o := x14) (u := x3) (by assumption) (by assumption) (by omega) (by omega) (by omega)) (by omega) (by omega))
    | (have q := rwk_bd (rwk_step (k_zq := x15 + 1) (p_zq := x21) ‹RWK _ _ _ _ _ _› (by omega) (by assumption) rfl (by omega)) (fun j a b => by have := hK_0_10 j a b; omega)
       exact btw_bd (btw_q (a := x12) (o := x21) (u := x3) (by assumption) (by assumption) (by omega) (by omega) (by omega)) (by omega) (by omega))
  
def o_Pl_layRow_2 : or_T := (78, 18, [(0, (2, 0, 0, [6])), (1, (0, 0, 31, [])), (2, (0, 1, 32, [])), (3, (0, 0, 76800, [])), (4, (0, 1, 131071, [])), (5, (2, 0, 0, [0])), (6, (2, 0, 0, [97])), (7, (0, 2, 2, [])), (8, (0, -511, 512, [])), (9, (0, 3, 3, [])), (10, (0, -512, 511, [])), (12, (0, 3, 3, [])), (13, (0, -512, 512, [])), (14, (0, 2, 2, [])), (15, (0, -512, 512, [])), (16, (0, -39321600, 39321600, [])), (17, (0, -39321600, 39321600, []))], [(4, [17, 16, 4], []), (3, [16, 15, 3], []), (10, [15, 6, 14], []), (9, [6, 0], [12]), (8, [4], [4]), (10, [13, 6, 12], []), (7, [8, 10], [4]), (10, [10, 6, 9], []), (10, [8, 6, 7], []), (20, [0], [60, 0, 1, 845, 12]), (20, [5], [60, 0, 1, 844, 13]), (20, [0, 1, 2, 3, 4], [60, 0, 1, 848, 10])], [(17, (0, -512, 512, []))], [], [], [], [(8, 10, 1, 4294967296)])
theorem oo_Pl_layRow_2 {kA : Nat → ClassId} : or_ok PRD kA GG o_Pl_layRow_2 := by
  refine or_mk fun A ta ws vs hD hth hl => ?_
  intro t0 r0 t1 k1 t2 k2 t3 k3 t4 k4 t5 r5 t6 r6 t7 k7 t8 k8 t9 k9 t10 k10 t12 k12 t13 k13 t14 k14 t15 k15 t16 k16 t17 k17 d0 f0 f1 f2 f3 f4 f5 f6 f7 f8 f9 f10 f11
  replace f2 := shm_107 f2
  replace f3 := shm_103 f3
  replace f5 := shm_107 f5
  replace f7 := shm_107 f7
  replace f8 := shm_107 f8
  have cr_0_10 := fdq_9 hD hth r0
  have cr_0_12 := fdq_226 hD hth r0
  have cr_5_13 := fdq_88 hD hth r5
  have ad_6 : v_ad (n_v vs 6) = w_ar ws (n_v vs 0) 12 := congrArg v_ad f3
  simp only [ad_6] at f2
  have h2 : v_iv (n_v vs 15) = w_ei ws (w_ar ws (n_v vs 0) 12) (v_iv (n_v vs 14)) := f2
  simp only [ad_6] at f5
  have h5 : v_iv (n_v vs 13) = w_ei ws (w_ar ws (n_v vs 0) 12) (v_iv (n_v vs 12)) := f5
  simp only [ad_6] at f7
  have h7 : v_iv (n_v vs 10) = w_ei ws (w_ar ws (n_v vs 0) 12) (v_iv (n_v vs 9)) := f7
  simp only [ad_6] at f8
  have h8 : v_iv (n_v vs 8) = w_ei ws (w_ar ws (n_v vs 0) 12) (v_iv (n_v vs 7)) := f8
  have hK_0_10 := elq_138 hD hth cr_0_10
  have hK_0_12 := elq_139 hD hth cr_0_12
  have hK_5_13 := elq_44 hD hth cr_5_13
  have hrf0 : (-512) ≤ v_iv (n_v vs 17) ∧ v_iv (n_v vs 17) ≤ 512 := vc_Pl_layRow_2_r0 (v_iv (n_v vs 1)) (v_iv (n_v vs 2)) (v_iv (n_v vs 3)) (v_iv (n_v vs 4)) (v_iv (n_v vs 7)) (v_iv (n_v vs 8)) (v_iv (n_v vs 9)) (v_iv (n_v vs 10)) (v_iv (n_v vs 12)) (v_iv (n_v vs 13)) (v_iv (n_v vs 14)) (v_iv (n_v vs 15)) (v_iv (n_v vs 16)) (v_iv (n_v vs 17)) (w_ei ws (w_ar ws (n_v vs 0) 12)) (w_ei ws (w_ar ws (n_v vs 5) 13)) (w_ei ws (w_ar ws (n_v vs 0) 10)) k1 k2 k3 k4 k7 k8 k9 k10 k12 k13 k14 k15 k16 k17 d0 (shm_34 f0) (shm_38 f1) h2 (shm_308 f4) h5 (shm_21 f6) h7 h8 (shm_885 f9) (shm_418 f10) (shm_886 f11) hK_0_10 hK_0_12 hK_5_13
  have rf17 : tv_ok ta (0, -512, 512, []) (n_v vs 17) := tv_in t17 (by first | omega | grind) (by first | omega | grind)
  refine ⟨List.forall_mem_cons.mpr ⟨rf17, (fun _ h => (by cases h))⟩, [], trivial, ?_, (fun _ h => (by cases h))⟩
  rw [List.append_nil]
  exact (fun _ h => (by cases h))
set_option maxHeartbeats 4000000 in
theorem vc_Pl_layRow_3_1 (x1 : Int) (x2 : Int) (x3 : Int) (x4 : Int) (x7 : Int) (x8 : Int) (x9 : Int) (x10 : Int) (x11 : Int) (x12 : Int) (x13 : Int) (x14 : Int) (x15 : Int) (x16 : Int) (x17 : Int) (x18 : Int) (space_0 : Int → Int) (area_0o5 : Int → Int) (itemSize_0 : Int → Int) (k1 : 0 ≤ x1 ∧ x1 ≤ 31) (k2 : 1 ≤ x2 ∧ x2 ≤ 32) (k3 : 0 ≤ x3 ∧ x3 ≤ 76800) (k4 : 1 ≤ x4 ∧ x4 ≤ 131071) (k7 : 2 ≤ x7 ∧ x7 ≤ 2) (k8 : (-511) ≤ x8 ∧ x8 ≤ 512) (k9 : 3 ≤ x9 ∧ x9 ≤ 3) (k10 : (-512) ≤ x10 ∧ x10 ≤ 511) (k11 : 0 ≤ x11 ∧ x11 ≤ 0) (k12 : 3 ≤ x12 ∧ x12 ≤ 3) (k13 : (-512) ≤ x13 ∧ x13 ≤ 512) (k14 : 2 ≤ x14 ∧ x14 ≤ 2) (k15 : (-512) ≤ x15 ∧ x15 ≤ 512) (k16 : (-39321600) ≤ x16 ∧ x16 ≤ 39321600) (k17 : (-512) ≤ x17 ∧ x17 ≤ 512) (k18 : 0 ≤ x18 ∧ x18 ≤ 0) (d0 : x10 + 1 ≤ x8 ∧ x8 ≤ x10 + 4294967296) (f0 : x17 = Int.tdiv (x16) (x4)) (f1 : x16 = x15 * x3) (h2 : x15 = space_0 (x14)) (f4 : x11 = 0) (f5 : 0 < x4) (h6 : x13 = space_0 (x12)) (f7 : x11 = 0) (f8 : x10 < x8) (h9 : x10 = space_0 (x9)) (h10 : x8 = space_0 (x7)) (f11 : SPC (space_0)) (f12 : BXA (area_0o5)) (f13 : RWS6 (itemSize_0) (x1) (x2) (x3) (x4)) (hK_0_10 : ∀ j : Int, 0 ≤ j → j < 32 → 0 ≤ itemSize_0 j ∧ itemSize_0 j ≤ 2400) (hK_0_12 : ∀ j : Int, 0 ≤ j → j < 4 → (-512) ≤ space_0 j ∧ space_0 j ≤ 512) (hK_5_13 : ∀ j : Int, 0 ≤ j → j < 128 → (-512) ≤ area_0o5 j ∧ area_0o5 j ≤ 512) : RWA (space_0) (x11) (x13) (x17) := by
  first
    | assumption
    | exact Or.inr ⟨by omega, by rw [‹x13 = space_0 x12›, show x12 = 3 by omega], btw_00 (by omega)⟩
    | exact Or.inl ⟨by omega, by rw [‹x13 = space_0 x12›, show x12 = 2 by omega], btw_00 (by omega)⟩
    | (obtain ⟨_, _, s0, s1, t1⟩ := ‹RWS6 _ _ _ _ _›
       exact Or.inr ⟨by omega, by rw [‹x13 = space_0 x12›, show x12 = 3 by omega], by rw [show (2 : Int) = x14 by omega, ← ‹x15 = space_0 x14›]; exact btw_q (o := x3) (u := x4) (by assumption) (by assumption) (by omega) (by omega) (by omega)⟩)
    | (obtain ⟨_, _, s0, s1, t1⟩ := ‹RWS6 _ _ _ _ _›
       exact Or.inl ⟨by omega, by rw [‹x13 = space_0 x12›, show x12 = 2 by omega], by rw [show (3 : Int) = x14 by omega, ← ‹x15 = space_0 x14›]; exact btw_q (o := x3) (u := x4) (by assumption) (by assumption) (by omega) (by omega) (by omega)⟩)
  
set_option maxHeartbeats 4000000 in
theorem vc_Pl_layRow_3_2 (x1 : Int) (x2 : Int) (x3 : Int) (x4 : Int) (x7 : Int) (x8 : Int) (x9 : Int) (x10 : Int) (x11 : Int) (x12 : Int) (x13 : Int) (x14 : Int) (x15 : Int) (x16 : Int) (x17 : Int) (x18 : Int) (space_0 : Int → Int) (area_0o5 : Int → Int) (itemSize_0 : Int → Int) (k1 : 0 ≤ x1 ∧ x1 ≤ 31) (k2 : 1 ≤ x2 ∧ x2 ≤ 32) (k3 : 0 ≤ x3 ∧ x3 ≤ 76800) (k4 : 1 ≤ x4 ∧ x4 ≤ 131071) (k7 : 2 ≤ x7 ∧ x7 ≤ 2) (k8 : (-511) ≤ x8 ∧ x8 ≤ 512) (k9 : 3 ≤ x9 ∧ x9 ≤ 3) (k10 : (-512) ≤ x10 ∧ x10 ≤ 511) (k11 : 0 ≤ x11 ∧ x11 ≤ 0) (k12 : 3 ≤ x12 ∧ x12 ≤ 3) (k13 : (-512) ≤ x13 ∧ x13 ≤ 512) (k14 : 2 ≤ x14 ∧ x14 ≤ 2) (k15 : (-512) ≤ x15 ∧ x15 ≤ 512) (k16 : (-39321600) ≤ x16 ∧ x16 ≤ 39321600) (k17 : (-512) ≤ x17 ∧ x17 ≤ 512) (k18 : 0 ≤ x18 ∧ x18 ≤ 0) (d0 : x10 + 1 ≤ x8 ∧ x8 ≤ x10 + 4294967296) (f0 : x17 = Int.tdiv (x16) (x4)) (f1 : x16 = x15 * x3) (h2 : x15 = space_0 (x14)) (f4 : x11 = 0) (f5 : 0 < x4) (h6 : x13 = space_0 (x12)) (f7 : x11 = 0) (f8 : x10 < x8) (h9 : x10 = space_0 (x9)) (h10 : x8 = space_0 (x7)) (f11 : SPC (space_0)) (f12 : BXA (area_0o5)) (f13 : RWS6 (itemSize_0) (x1) (x2) (x3) (x4)) (hK_0_10 : ∀ j : Int, 0 ≤ j → j < 32 → 0 ≤ itemSize_0 j ∧ itemSize_0 j ≤ 2400) (hK_0_12 : ∀ j : Int, 0 ≤ j → j < 4 → (-512) ≤ space_0 j ∧ space_0 j ≤ 512) (hK_5_13 : ∀ j : Int, 0 ≤ j → j < 128 → (-512) ≤ area_0o5 j ∧ area_0o5 j ≤ 512) : RWK (itemSize_0) (x1) (x2) (x3) (x1) (x18) := by
  first
    | assumption
    | exact rwk_start ‹RWS6 _ _ _ _ _› (by omega) (by omega)
    | exact rwl_to ‹RWL _ _ _ _ _ _› (by omega)
    | exact rwk_step ‹RWK _ _ _ _ _ _› (by omega) (by assumption) (by omega) (by omega)
  
def o_Pl_layRow_3 : or_T := (86, 19, [(0, (2, 0, 0, [6])), (1, (0, 0, 31, [])), (2, (0, 1, 32, [])), (3, (0, 0, 76800, [])), (4, (0, 1, 131071, [])), (5, (2, 0, 0, [0])), (6, (2, 0, 0, [97])), (7, (0, 2, 2, [])), (8, (0, -511, 512, [])), (9, (0, 3, 3, [])), (10, (0, -512, 511, [])), (11, (0, 0, 0, [])), (12, (0, 3, 3, [])), (13, (0, -512, 512, [])), (14, (0, 2, 2, [])), (15, (0, -512, 512, [])), (16, (0, -39321600, 39321600, [])), (17, (0, -512, 512, [])), (18, (0, 0, 0, []))], [(4, [17, 16, 4], []), (3, [16, 15, 3], []), (10, [15, 6, 14], []), (9, [6, 0], [12]), (8, [11], [0]), (8, [4], [4]), (10, [13, 6, 12], []), (8, [11], [0]), (7, [8, 10], [4]), (10, [10, 6, 9], []), (10, [8, 6, 7], []), (20, [0], [60, 0, 1, 845, 12]), (20, [5], [60, 0, 1, 844, 13]), (20, [0, 1, 2, 3, 4], [60, 0, 1, 848, 10])], [], [], [(24, [5, 5], []), (20, [0, 11, 13, 17], [60, 0, 1, 851, 12]), (20, [0, 1, 2, 3, 1, 18], [60, 0, 1, 849, 10]), (24, [0, 0], []), (24, [1, 1], []), (24, [2, 2], []), (24, [3, 3], [])], [], [(8, 10, 1, 4294967296)])
theorem oo_Pl_layRow_3 {kA : Nat → ClassId} : or_ok PRD kA GG o_Pl_layRow_3 := by
  refine or_mk fun A ta ws vs hD hth hl => ?_
  intro t0 r0 t1 k1 t2 k2 t3 k3 t4 k4 t5 r5 t6 r6 t7 k7 t8 k8 t9 k9 t10 k10 t11 k11 t12 k12 t13 k13 t14 k14 t15 k15 t16 k16 t17 k17 t18 k18 d0 f0 f1 f2 f3 f4 f5 f6 f7 f8 f9 f10 f11 f12 f13
  replace f2 := shm_107 f2
  replace f3 := shm_103 f3
  replace f6 := shm_107 f6
  replace f9 := shm_107 f9
  replace f10 := shm_107 f10
  have cr_0_10 := fdq_9 hD hth r0
  have cr_0_12 := fdq_226 hD hth r0
  have cr_5_13 := fdq_88 hD hth r5
  have ad_6 : v_ad (n_v vs 6) = w_ar ws (n_v vs 0) 12 := congrArg v_ad f3
  simp only [ad_6] at f2
  have h2 : v_iv (n_v vs 15) = w_ei ws (w_ar ws (n_v vs 0) 12) (v_iv (n_v vs 14)) := f2
  simp only [ad_6] at f6
  have h6 : v_iv (n_v vs 13) = w_ei ws (w_ar ws (n_v vs 0) 12) (v_iv (n_v vs 12)) := f6
  simp only [ad_6] at f9
  have h9 : v_iv (n_v vs 10) = w_ei ws (w_ar ws (n_v vs 0) 12) (v_iv (n_v vs 9)) := f9
  simp only [ad_6] at f10
  have h10 : v_iv (n_v vs 8) = w_ei ws (w_ar ws (n_v vs 0) 12) (v_iv (n_v vs 7)) := f10
  have hK_0_10 := elq_138 hD hth cr_0_10
  have hK_0_12 := elq_139 hD hth cr_0_12
  have hK_5_13 := elq_44 hD hth cr_5_13
  have nf0 : fc_1 PRD (24, [5, 5], []) ws (vs) := by
    refine ⟨nf_in hl rfl, sgq_1 ?_⟩
    · show n_v vs 5 = n_v vs 5
      first | rfl | simp only [true_and]
  have nf1 : fc_1 PRD (20, [0, 11, 13, 17], [60, 0, 1, 851, 12]) ws (vs) := ⟨nf_in hl rfl, sgq_887 (vc_Pl_layRow_3_1 (v_iv (n_v vs 1)) (v_iv (n_v vs 2)) (v_iv (n_v vs 3)) (v_iv (n_v vs 4)) (v_iv (n_v vs 7)) (v_iv (n_v vs 8)) (v_iv (n_v vs 9)) (v_iv (n_v vs 10)) (v_iv (n_v vs 11)) (v_iv (n_v vs 12)) (v_iv (n_v vs 13)) (v_iv (n_v vs 14)) (v_iv (n_v vs 15)) (v_iv (n_v vs 16)) (v_iv (n_v vs 17)) (v_iv (n_v vs 18)) (w_ei ws (w_ar ws (n_v vs 0) 12)) (w_ei ws (w_ar ws (n_v vs 5) 13)) (w_ei ws (w_ar ws (n_v vs 0) 10)) k1 k2 k3 k4 k7 k8 k9 k10 k11 k12 k13 k14 k15 k16 k17 k18 d0 (shm_34 f0) (shm_38 f1) h2 (shm_192 f4) (shm_308 f5) h6 (shm_192 f7) (shm_21 f8) h9 h10 (shm_885 f11) (shm_418 f12) (shm_886 f13) hK_0_10 hK_0_12 hK_5_13)⟩
  have nf2 : fc_1 PRD (20, [0, 1, 2, 3, 1, 18], [60, 0, 1, 849, 10]) ws (vs) := ⟨nf_in hl rfl, sgq_888 (vc_Pl_layRow_3_2 (v_iv (n_v vs 1)) (v_iv (n_v vs 2)) (v_iv (n_v vs 3)) (v_iv (n_v vs 4)) (v_iv (n_v vs 7)) (v_iv (n_v vs 8)) (v_iv (n_v vs 9)) (v_iv (n_v vs 10)) (v_iv (n_v vs 11)) (v_iv (n_v vs 12)) (v_iv (n_v vs 13)) (v_iv (n_v vs 14)) (v_iv (n_v vs 15)) (v_iv (n_v vs 16)) (v_iv (n_v vs 17)) (v_iv (n_v vs 18)) (w_ei ws (w_ar ws (n_v vs 0) 12)) (w_ei ws (w_ar ws (n_v vs 5) 13)) (w_ei ws (w_ar ws (n_v vs 0) 10)) k1 k2 k3 k4 k7 k8 k9 k10 k11 k12 k13 k14 k15 k16 k17 k18 d0 (shm_34 f0) (shm_38 f1) h2 (shm_192 f4) (shm_308 f5) h6 (shm_192 f7) (shm_21 f8) h9 h10 (shm_885 f11) (shm_418 f12) (shm_886 f13) hK_0_10 hK_0_12 hK_5_13)⟩
  have nf3 : fc_1 PRD (24, [0, 0], []) ws (vs) := by
    refine ⟨nf_in hl rfl, sgq_1 ?_⟩
    · show n_v vs 0 = n_v vs 0
      first | rfl | simp only [true_and]
  have nf4 : fc_1 PRD (24, [1, 1], []) ws (vs) := by
    refine ⟨nf_in hl rfl, sgq_1 ?_⟩
    · show n_v vs 1 = n_v vs 1
      first | rfl | simp only [true_and]
  have nf5 : fc_1 PRD (24, [2, 2], []) ws (vs) := by
    refine ⟨nf_in hl rfl, sgq_1 ?_⟩
    · show n_v vs 2 = n_v vs 2
      first | rfl | simp only [true_and]
  have nf6 : fc_1 PRD (24, [3, 3], []) ws (vs) := by
    refine ⟨nf_in hl rfl, sgq_1 ?_⟩
    · show n_v vs 3 = n_v vs 3
      first | rfl | simp only [true_and]
  refine ⟨(fun _ h => (by cases h)), [], trivial, ?_, (fun _ h => (by cases h))⟩
  rw [List.append_nil]
  exact List.forall_mem_cons.mpr ⟨⟨show (24 : Nat) < 100 from by decide, nf0⟩, List.forall_mem_cons.mpr ⟨⟨show (20 : Nat) < 100 from by decide, nf1⟩, List.forall_mem_cons.mpr ⟨⟨show (20 : Nat) < 100 from by decide, nf2⟩, List.forall_mem_cons.mpr ⟨⟨show (24 : Nat) < 100 from by decide, nf3⟩, List.forall_mem_cons.mpr ⟨⟨show (24 : Nat) < 100 from by decide, nf4⟩, List.forall_mem_cons.mpr ⟨⟨show (24 : Nat) < 100 from by decide, nf5⟩, List.forall_mem_cons.mpr ⟨⟨show (24 : Nat) < 100 from by decide, nf6⟩, (fun _ h => (by cases h))⟩⟩⟩⟩⟩⟩⟩
set_option maxHeartbeats 4000000 in
theorem vc_Pl_layRow_4_1 (x1 : Int) (x2 : Int) (x3 : Int) (x4 : Int) (x7 : Int) (x8 : Int) (x9 : Int) (x10 : Int) (x11 : Int) (x12 : Int) (x13 : Int) (x14 : Int) (x15 : Int) (space_0 : Int → Int) (area_0o5 : Int → Int) (itemSize_0 : Int → Int) (k1 : 0 ≤ x1 ∧ x1 ≤ 31) (k2 : 1 ≤ x2 ∧ x2 ≤ 32) (k3 : 0 ≤ x3 ∧ x3 ≤ 131071) (k4 : (-2147483648) ≤ x4 ∧ x4 ≤ 0) (k7 : 2 ≤ x7 ∧ x7 ≤ 2) (k8 : (-512) ≤ x8 ∧ x8 ≤ 512) (k9 : 3 ≤ x9 ∧ x9 ≤ 3) (k10 : (-512) ≤ x10 ∧ x10 ≤ 512) (k11 : 1 ≤ x11 ∧ x11 ≤ 1) (k12 : 2 ≤ x12 ∧ x12 ≤ 2) (k13 : (-512) ≤ x13 ∧ x13 ≤ 512) (k14 : 0 ≤ x14 ∧ x14 ≤ 0) (k15 : 0 ≤ x15 ∧ x15 ≤ 0) (d0 : x10 + (-4294967296) ≤ x8 ∧ x8 ≤ x10 + 0) (f0 : x4 ≤ 0) (h1 : x13 = space_0 (x12)) (f3 : x11 ≠ 0) (f4 : x8 ≤ x10) (h5 : x10 = space_0 (x9)) (h6 : x8 = space_0 (x7)) (f7 : SPC (space_0)) (f8 : BXA (area_0o5)) (f9 : RWS6 (itemSize_0) (x1) (x2) (x3) (x4)) (hK_0_10 : ∀ j : Int, 0 ≤ j → j < 32 → 0 ≤ itemSize_0 j ∧ itemSize_0 j ≤ 2400) (hK_0_12 : ∀ j : Int, 0 ≤ j → j < 4 → (-512) ≤ space_0 j ∧ space_0 j ≤ 512) (hK_5_13 : ∀ j : Int, 0 ≤ j → j < 128 → (-512) ≤ area_0o5 j ∧ area_0o5 j ≤ 512) : RWA (space_0) (x11) (x13) (x14) := by
  first
    | assumption
    | exact Or.inr ⟨by omega, by rw [‹x13 = space_0 x12›, show x12 = 3 by omega], btw_00 (by omega)⟩
    | exact Or.inl ⟨by omega, by rw [‹x13 = space_0 x12›, show x12 = 2 by omega], btw_00 (by omega)⟩
    | (obtain ⟨_, _, s0, s1, t1⟩ := ‹RWS6 _ _ _ _ _›
       exact Or.inr ⟨by omega, by rw [‹x13 = space_0 x12›, show x12 = 3 by omega], by rw [show (2 : Int) = x14 by omega, ← ‹x15 = space_0 x14›]; exact btw_q (o := x3) (u := x4) (by assumption) (by assumption) (by omega) (by omega) (by omega)⟩)
    | (obtain ⟨_, _, s0, s1, t1⟩ := ‹RWS6 _ _ _ _ _›
       exact Or.inl ⟨by omega, by rw [‹x13 = space_0 x12›, show x12 = 2 by omega], by rw [show (3 : Int) = x14 by omega, ← ‹x15 = space_0 x14›]; exact btw_q (o := x3) (u := x4) (by assumption) (by assumption) (by omega) (by omega) (by omega)⟩)
  
set_option maxHeartbeats 4000000 in
theorem vc_Pl_layRow_4_2 (x1 : Int) (x2 : Int) (x3 : Int) (x4 : Int) (x7 : Int) (x8 : Int) (x9 : Int) (x10 : Int) (x11 : Int) (x12 : Int) (x13 : Int) (x14 : Int) (x15 : Int) (space_0 : Int → Int) (area_0o5 : Int → Int) (itemSize_0 : Int → Int) (k1 : 0 ≤ x1 ∧ x1 ≤ 31) (k2 : 1 ≤ x2 ∧ x2 ≤ 32) (k3 : 0 ≤ x3 ∧ x3 ≤ 131071) (k4 : (-2147483648) ≤ x4 ∧ x4 ≤ 0) (k7 : 2 ≤ x7 ∧ x7 ≤ 2) (k8 : (-512) ≤ x8 ∧ x8 ≤ 512) (k9 : 3 ≤ x9 ∧ x9 ≤ 3) (k10 : (-512) ≤ x10 ∧ x10 ≤ 512) (k11 : 1 ≤ x11 ∧ x11 ≤ 1) (k12 : 2 ≤ x12 ∧ x12 ≤ 2) (k13 : (-512) ≤ x13 ∧ x13 ≤ 512) (k14 : 0 ≤ x14 ∧ x14 ≤ 0) (k15 : 0 ≤ x15 ∧ x15 ≤ 0) (d0 : x10 + (-4294967296) ≤ x8 ∧ x8 ≤ x10 + 0) (f0 : x4 ≤ 0) (h1 : x13 = space_0 (x12)) (f3 : x11 ≠ 0) (f4 : x8 ≤ x10) (h5 : x10 = space_0 (x9)) (h6 : x8 = space_0 (x7)) (f7 : SPC (space_0)) (f8 : BXA (area_0o5)) (f9 : RWS6 (itemSize_0) (x1) (x2) (x3) (x4)) (hK_0_10 : ∀ j : Int, 0 ≤ j → j < 32 → 0 ≤ itemSize_0 j ∧ itemSize_0 j ≤ 2400) (hK_0_12 : ∀ j : Int, 0 ≤ j → j < 4 → (-512) ≤ space_0 j ∧ space_0 j ≤ 512) (hK_5_13 : ∀ j : Int, 0 ≤ j → j < 128 → (-512) ≤ area_0o5 j ∧ area_0o5 j ≤ 512) : RWK (itemSize_0) (x1) (x2) (x3) (x1) (x15) := by
  first
    | assumption
    | exact rwk_start ‹RWS6 _ _ _ _ _› (by omega) (by omega)
    | exact rwl_to ‹RWL _ _ _ _ _ _› (by omega)
    | exact rwk_step ‹RWK _ _ _ _ _ _› (by omega) (by assumption) (by omega) (by omega)
  
def o_Pl_layRow_4 : or_T := (86, 16, [(0, (2, 0, 0, [6])), (1, (0, 0, 31, [])), (2, (0, 1, 32, [])), (3, (0, 0, 131071, [])), (4, (0, -2147483648, 0, [])), (5, (2, 0, 0, [0])), (6, (2, 0, 0, [97])), (7, (0, 2, 2, [])), (8, (0, -512, 512, [])), (9, (0, 3, 3, [])), (10, (0, -512, 512, [])), (11, (0, 1, 1, [])), (12, (0, 2, 2, [])), (13, (0, -512, 512, [])), (14, (0, 0, 0, [])), (15, (0, 0, 0, []))], [(8, [4], [5]), (10, [13, 6, 12], []), (9, [6, 0], [12]), (8, [11], [1]), (7, [8, 10], [5]), (10, [10, 6, 9], []), (10, [8, 6, 7], []), (20, [0], [60, 0, 1, 845, 12]), (20, [5], [60, 0, 1, 844, 13]), (20, [0, 1, 2, 3, 4], [60, 0, 1, 848, 10])], [], [], [(24, [5, 5], []), (20, [0, 11, 13, 14], [60, 0, 1, 851, 12]), (20, [0, 1, 2, 3, 1, 15], [60, 0, 1, 849, 10]), (24, [0, 0], []), (24, [1, 1], []), (24, [2, 2], []), (24, [3, 3], [])], [], [(8, 10, -4294967296, 0)])
theorem oo_Pl_layRow_4 {kA : Nat → ClassId} : or_ok PRD kA GG o_Pl_layRow_4 := by
  refine or_mk fun A ta ws vs hD hth hl => ?_
  intro t0 r0 t1 k1 t2 k2 t3 k3 t4 k4 t5 r5 t6 r6 t7 k7 t8 k8 t9 k9 t10 k10 t11 k11 t12 k12 t13 k13 t14 k14 t15 k15 d0 f0 f1 f2 f3 f4 f5 f6 f7 f8 f9
  replace f1 := shm_107 f1
  replace f2 := shm_103 f2
  replace f5 := shm_107 f5
  replace f6 := shm_107 f6
  have cr_0_10 := fdq_9 hD hth r0
  have cr_0_12 := fdq_226 hD hth r0
  have cr_5_13 := fdq_88 hD hth r5
  have ad_6 : v_ad (n_v vs 6) = w_ar ws (n_v vs 0) 12 := congrArg v_ad f2
  simp only [ad_6] at f1
  have h1 : v_iv (n_v vs 13) = w_ei ws (w_ar ws (n_v vs 0) 12) (v_iv (n_v vs 12)) := f1
  simp only [ad_6] at f5
  have h5 : v_iv (n_v vs 10) = w_ei ws (w_ar ws (n_v vs 0) 12) (v_iv (n_v vs 9)) := f5
  simp only [ad_6] at f6
  have h6 : v_iv (n_v vs 8) = w_ei ws (w_ar ws (n_v vs 0) 12) (v_iv (n_v vs 7)) := f6
  have hK_0_10 := elq_138 hD hth cr_0_10
  have hK_0_12 := elq_139 hD hth cr_0_12
  have hK_5_13 := elq_44 hD hth cr_5_13
  have nf0 : fc_1 PRD (24, [5, 5], []) ws (vs) := by
    refine ⟨nf_in hl rfl, sgq_1 ?_⟩
    · show n_v vs 5 = n_v vs 5
      first | rfl | simp only [true_and]
  have nf1 : fc_1 PRD (20, [0, 11, 13, 14], [60, 0, 1, 851, 12]) ws (vs) := ⟨nf_in hl rfl, sgq_887 (vc_Pl_layRow_4_1 (v_iv (n_v vs 1)) (v_iv (n_v vs 2)) (v_iv (n_v vs 3)) (v_iv (n_v vs 4)) (v_iv (n_v vs 7)) (v_iv (n_v vs 8)) (v_iv (n_v vs 9)) (v_iv (n_v vs 10)) (v_iv (n_v vs 11)) (v_iv (n_v vs 12)) (v_iv (n_v vs 13)) (v_iv (n_v vs 14)) (v_iv (n_v vs 15)) (w_ei ws (w_ar ws (n_v vs 0) 12)) (w_ei ws (w_ar ws (n_v vs 5) 13)) (w_ei ws (w_ar ws (n_v vs 0) 10)) k1 k2 k3 k4 k7 k8 k9 k10 k11 k12 k13 k14 k15 d0 (shm_295 f0) h1 (shm_142 f3) (shm_24 f4) h5 h6 (shm_885 f7) (shm_418 f8) (shm_886 f9) hK_0_10 hK_0_12 hK_5_13)⟩
  have nf2 : fc_1 PRD (20, [0, 1, 2, 3, 1, 15], [60, 0, 1, 849, 10]) ws (vs) := ⟨nf_in hl rfl, sgq_888 (vc_Pl_layRow_4_2 (v_iv (n_v vs 1)) (v_iv (n_v vs 2)) (v_iv (n_v vs 3)) (v_iv (n_v vs 4)) (v_iv (n_v vs 7)) (v_iv (n_v vs 8)) (v_iv (n_v vs 9)) (v_iv (n_v vs 10)) (v_iv (n_v vs 11)) (v_iv (n_v vs 12)) (v_iv (n_v vs 13)) (v_iv (n_v vs 14)) (v_iv (n_v vs 15)) (w_ei ws (w_ar ws (n_v vs 0) 12)) (w_ei ws (w_ar ws (n_v vs 5) 13)) (w_ei ws (w_ar ws (n_v vs 0) 10)) k1 k2 k3 k4 k7 k8 k9 k10 k11 k12 k13 k14 k15 d0 (shm_295 f0) h1 (shm_142 f3) (shm_24 f4) h5 h6 (shm_885 f7) (shm_418 f8) (shm_886 f9) hK_0_10 hK_0_12 hK_5_13)⟩
  have nf3 : fc_1 PRD (24, [0, 0], []) ws (vs) := by
    refine ⟨nf_in hl rfl, sgq_1 ?_⟩
    · show n_v vs 0 = n_v vs 0
      first | rfl | simp only [true_and]
  have nf4 : fc_1 PRD (24, [1, 1], []) ws (vs) := by
    refine ⟨nf_in hl rfl, sgq_1 ?_⟩
    · show n_v vs 1 = n_v vs 1
      first | rfl | simp only [true_and]
  have nf5 : fc_1 PRD (24, [2, 2], []) ws (vs) := by
    refine ⟨nf_in hl rfl, sgq_1 ?_⟩
    · show n_v vs 2 = n_v vs 2
      first | rfl | simp only [true_and]
  have nf6 : fc_1 PRD (24, [3, 3], []) ws (vs) := by
    refine ⟨nf_in hl rfl, sgq_1 ?_⟩
    · show n_v vs 3 = n_v vs 3
      first | rfl | simp only [true_and]
  refine ⟨(fun _ h => (by cases h)), [], trivial, ?_, (fun _ h => (by cases h))⟩
  rw [List.append_nil]
  exact List.forall_mem_cons.mpr ⟨⟨show (24 : Nat) < 100 from by decide, nf0⟩, List.forall_mem_cons.mpr ⟨⟨show (20 : Nat) < 100 from by decide, nf1⟩, List.forall_mem_cons.mpr ⟨⟨show (20 : Nat) < 100 from by decide, nf2⟩, List.forall_mem_cons.mpr ⟨⟨show (24 : Nat) < 100 from by decide, nf3⟩, List.forall_mem_cons.mpr ⟨⟨show (24 : Nat) < 100 from by decide, nf4⟩, List.forall_mem_cons.mpr ⟨⟨show (24 : Nat) < 100 from by decide, nf5⟩, List.forall_mem_cons.mpr ⟨⟨show (24 : Nat) < 100 from by decide, nf6⟩, (fun _ h => (by cases h))⟩⟩⟩⟩⟩⟩⟩
set_option maxHeartbeats 4000000 in
theorem vc_Pl_layRow_5_r0 (x1 : Int) (x2 : Int) (x3 : Int) (x4 : Int) (x7 : Int) (x8 : Int) (x9 : Int) (x10 : Int) (x12 : Int) (x13 : Int) (x14 : Int) (x15 : Int) (space_0 : Int → Int) (area_0o5 : Int → Int) (itemSize_0 : Int → Int) (k1 : 0 ≤ x1 ∧ x1 ≤ 31) (k2 : 1 ≤ x2 ∧ x2 ≤ 32) (k3 : 0 ≤ x3 ∧ x3 ≤ 131071) (k4 : 1 ≤ x4 ∧ x4 ≤ 131071) (k7 : 2 ≤ x7 ∧ x7 ≤ 2) (k8 : (-512) ≤ x8 ∧ x8 ≤ 512) (k9 : 3 ≤ x9 ∧ x9 ≤ 3) (k10 : (-512) ≤ x10 ∧ x10 ≤ 512) (k12 : 2 ≤ x12 ∧ x12 ≤ 2) (k13 : (-512) ≤ x13 ∧ x13 ≤ 512) (k14 : 3 ≤ x14 ∧ x14 ≤ 3) (k15 : (-512) ≤ x15 ∧ x15 ≤ 512) (d0 : x10 + (-4294967296) ≤ x8 ∧ x8 ≤ x10 + 0) (h0 : x15 = space_0 (x14)) (f2 : 0 < x4) (h3 : x13 = space_0 (x12)) (f4 : x8 ≤ x10) (h5 : x10 = space_0 (x9)) (h6 : x8 = space_0 (x7)) (f7 : SPC (space_0)) (f8 : BXA (area_0o5)) (f9 : RWS6 (itemSize_0) (x1) (x2) (x3) (x4)) (hK_0_10 : ∀ j : Int, 0 ≤ j → j < 32 → 0 ≤ itemSize_0 j ∧ itemSize_0 j ≤ 2400) (hK_0_12 : ∀ j : Int, 0 ≤ j → j < 4 → (-512) ≤ space_0 j ∧ space_0 j ≤ 512) (hK_5_13 : ∀ j : Int, 0 ≤ j → j < 128 → (-512) ≤ area_0o5 j ∧ area_0o5 j ≤ 512) : 0 ≤ x3 ∧ x3 ≤ 76800 := by
  first
    | omega
    | (obtain ⟨_, _, s0, s1, t1⟩ := ‹RWS6 _ _ _ _ _›; omega)
    | (obtain ⟨_, _, s0, s1, t1⟩ := ‹RWS6 _ _ _ _ _›
       exact btw_bd (btw_q (a := x15) (o := x3) (u := x4) (by assumption) (by assumption) (by omega) (by omega) (by omega)) (by omega) (by omega))
    | (have q := rwk_bd ‹RWK _ _ _ _ _ _› (fun j a b => by have := hK_0_10 j a b; omega); omega)
    | (have q := rwk_bd (rwk_step (k_zq := x15 + 1) (p_zq := x21) ‹RWK _ _ _ _ _ _› (by omega) (by assumption) rfl (by omega)) (fun j a b => by have := hK_0_10 j a b; omega); omega)
    | (have q := rwk_bd ‹RWK _ _ _ _ _ _› (fun j a b => by have := hK_0_10 j a b; omega)
       exact btw_bd (btw_q (a := x12) (o := x14) (u := x3) (by assumption) (by assumption) (by omega) (by omega) (by omega)) (by omega) (by omega))
    | (have q := rwk_bd (rwk_step (k_zq := x15 + 1) (p_zq := x21) ‹RWK _ _ _ _ _ _› (by omega) (by assumption) rfl (by omega)) (fun j a b => by have := hK_0_10 j a b; omega)
       exact btw_bd (btw_q (a := x12) (o := x21) (u := x3) (by assumption) (by assumption) (by omega) (by omega) (by omega)) (by omega) (by omega))
  
def o_Pl_layRow_5 : or_T := (70, 16, [(0, (2, 0, 0, [6])), (1, (0, 0, 31, [])), (2, (0, 1, 32, [])), (3, (0, 0, 131071, [])), (4, (0, 1, 131071, [])), (5, (2, 0, 0, [0])), (6, (2, 0, 0, [97])), (7, (0, 2, 2, [])), (8, (0, -512, 512, [])), (9, (0, 3, 3, [])), (10, (0, -512, 512, [])), (12, (0, 2, 2, [])), (13, (0, -512, 512, [])), (14, (0, 3, 3, [])), (15, (0, -512, 512, []))], [(10, [15, 6, 14], []), (9, [6, 0], [12]), (8, [4], [4]), (10, [13, 6, 12], []), (7, [8, 10], [5]), (10, [10, 6, 9], []), (10, [8, 6, 7], []), (20, [0], [60, 0, 1, 845, 12]), (20, [5], [60, 0, 1, 844, 13]), (20, [0, 1, 2, 3, 4], [60, 0, 1, 848, 10])], [(3, (0, 0, 76800, []))], [], [], [], [(8, 10, -4294967296, 0)])
theorem oo_Pl_layRow_5 {kA : Nat → ClassId} : or_ok PRD kA GG o_Pl_layRow_5 := by
  refine or_mk fun A ta ws vs hD hth hl => ?_
  intro t0 r0 t1 k1 t2 k2 t3 k3 t4 k4 t5 r5 t6 r6 t7 k7 t8 k8 t9 k9 t10 k10 t12 k12 t13 k13 t14 k14 t15 k15 d0 f0 f1 f2 f3 f4 f5 f6 f7 f8 f9
  replace f0 := shm_107 f0
  replace f1 := shm_103 f1
  replace f3 := shm_107 f3
  replace f5 := shm_107 f5
  replace f6 := shm_107 f6
  have cr_0_10 := fdq_9 hD hth r0
  have cr_0_12 := fdq_226 hD hth r0
  have cr_5_13 := fdq_88 hD hth r5
  have ad_6 : v_ad (n_v vs 6) = w_ar ws (n_v vs 0) 12 := congrArg v_ad f1
  simp only [ad_6] at f0
  have h0 : v_iv (n_v vs 15) = w_ei ws (w_ar ws (n_v vs 0) 12) (v_iv (n_v vs 14)) := f0
  simp only [ad_6] at f3
  have h3 : v_iv (n_v vs 13) = w_ei ws (w_ar ws (n_v vs 0) 12) (v_iv (n_v vs 12)) := f3
  simp only [ad_6] at f5
  have h5 : v_iv (n_v vs 10) = w_ei ws (w_ar ws (n_v vs 0) 12) (v_iv (n_v vs 9)) := f5
  simp only [ad_6] at f6
  have h6 : v_iv (n_v vs 8) = w_ei ws (w_ar ws (n_v vs 0) 12) (v_iv (n_v vs 7)) := f6
  have hK_0_10 := elq_138 hD hth cr_0_10
  have hK_0_12 := elq_139 hD hth cr_0_12
  have hK_5_13 := elq_44 hD hth cr_5_13
  have hrf0 : 0 ≤ v_iv (n_v vs 3) ∧ v_iv (n_v vs 3) ≤ 76800 := vc_Pl_layRow_5_r0 (v_iv (n_v vs 1)) (v_iv (n_v vs 2)) (v_iv (n_v vs 3)) (v_iv (n_v vs 4)) (v_iv (n_v vs 7)) (v_iv (n_v vs 8)) (v_iv (n_v vs 9)) (v_iv (n_v vs 10)) (v_iv (n_v vs 12)) (v_iv (n_v vs 13)) (v_iv (n_v vs 14)) (v_iv (n_v vs 15)) (w_ei ws (w_ar ws (n_v vs 0) 12)) (w_ei ws (w_ar ws (n_v vs 5) 13)) (w_ei ws (w_ar ws (n_v vs 0) 10)) k1 k2 k3 k4 k7 k8 k9 k10 k12 k13 k14 k15 d0 h0 (shm_308 f2) h3 (shm_24 f4) h5 h6 (shm_885 f7) (shm_418 f8) (shm_886 f9) hK_0_10 hK_0_12 hK_5_13
  have rf3 : tv_ok ta (0, 0, 76800, []) (n_v vs 3) := tv_in t3 (by first | omega | grind) (by first | omega | grind)
  refine ⟨List.forall_mem_cons.mpr ⟨rf3, (fun _ h => (by cases h))⟩, [], trivial, ?_, (fun _ h => (by cases h))⟩
  rw [List.append_nil]
  exact (fun _ h => (by cases h))
set_option maxHeartbeats 4000000 in
theorem vc_Pl_layRow_6_r0 (x1 : Int) (x2 : Int) (x3 : Int) (x4 : Int) (x7 : Int) (x8 : Int) (x9 : Int) (x10 : Int) (x12 : Int) (x13 : Int) (x14 : Int) (x15 : Int) (x16 : Int) (x17 : Int) (space_0 : Int → Int) (area_0o5 : Int → Int) (itemSize_0 : Int → Int) (k1 : 0 ≤ x1 ∧ x1 ≤ 31) (k2 : 1 ≤ x2 ∧ x2 ≤ 32) (k3 : 0 ≤ x3 ∧ x3 ≤ 76800) (k4 : 1 ≤ x4 ∧ x4 ≤ 131071) (k7 : 2 ≤ x7 ∧ x7 ≤ 2) (k8 : (-512) ≤ x8 ∧ x8 ≤ 512) (k9 : 3 ≤ x9 ∧ x9 ≤ 3) (k10 : (-512) ≤ x10 ∧ x10 ≤ 512) (k12 : 2 ≤ x12 ∧ x12 ≤ 2) (k13 : (-512) ≤ x13 ∧ x13 ≤ 512) (k14 : 3 ≤ x14 ∧ x14 ≤ 3) (k15 : (-512) ≤ x15 ∧ x15 ≤ 512) (k16 : (-39321600) ≤ x16 ∧ x16 ≤ 39321600) (k17 : (-39321600) ≤ x17 ∧ x17 ≤ 39321600) (d0 : x10 + (-4294967296) ≤ x8 ∧ x8 ≤ x10 + 0) (f0 : x17 = Int.tdiv (x16) (x4)) (f1 : x16 = x15 * x3) (h2 : x15 = space_0 (x14)) (f4 : 0 < x4) (h5 : x13 = space_0 (x12)) (f6 : x8 ≤ x10) (h7 : x10 = space_0 (x9)) (h8 : x8 = space_0 (x7)) (f9 : SPC (space_0)) (f10 : BXA (area_0o5)) (f11 : RWS6 (itemSize_0) (x1) (x2) (x3) (x4)) (hK_0_10 : ∀ j : Int, 0 ≤ j → j < 32 → 0 ≤ itemSize_0 j ∧ itemSize_0 j ≤ 2400) (hK_0_12 : ∀ j : Int, 0 ≤ j → j < 4 → (-512) ≤ space_0 j ∧ space_0 j ≤ 512) (hK_5_13 : ∀ j : Int, 0 ≤ j → j < 128 → (-512) ≤ area_0o5 j ∧ area_0o5 j ≤ 512) : (-512) ≤ x17 ∧ x17 ≤ 512 := by
  first
    | omega
    | (obtain ⟨_, _, s0, s1, t1⟩ := ‹RWS6 _ _ _ _ _›; omega)
    | (obtain ⟨_, _, s0, s1, t1⟩ := ‹RWS6 _ _ _ _ _›
       exact btw_bd (btw_q (a := x15) (o := x3) (u := x4) (by assumption) (by assumption) (by omega) (by omega) (by omega)) (by omega) (by omega))
    | (have q := rwk_bd ‹RWK _ _ _ _ _ _› (fun j a b => by have := hK_0_10 j a b; omega); omega)
    | (have q := rwk_bd (rwk_step (k_zq := x15 + 1) (p_zq := x21) ‹RWK _ _ _ _ _ _› (by omega) (by assumption) rfl (by omega)) (fun j a b => by have := hK_0_10 j a b; omega); omega)
    | (have q := rwk_bd ‹RWK _ _ _ _ _ _› (fun j a b => by have := hK_0_10 j a b; omega)
       exact btw_bd (btw_q (a := x12) (o := x14) (u := x3) (by assumption) (by assumption) (by omega) (by omega) (by omega)) (by omega) (by omega))
    | (have q := rwk_bd (rwk_step (k_zq := x15 + 1) (p_zq := x21) ‹RWK _ _ _ _ _ _› (by omega) (by assumption) rfl (by omega)) (fun j a b => by have := hK_0_10 j a b; omega)
       exact btw_bd (btw_q (a := x12) (o := x21) (u := x3) (by assumption) (by assumption) (by omega) (by omega) (by omega)) (by omega) (by omega))
  
def o_Pl_layRow_6 : or_T := (78, 18, [(0, (2, 0, 0, [6])), (1, (0, 0, 31, [])), (2, (0, 1, 32, [])), (3, (0, 0, 76800, [])), (4, (0, 1, 131071, [])), (5, (2, 0, 0, [0])), (6, (2, 0, 0, [97])), (7, (0, 2, 2, [])), (8, (0, -512, 512, [])), (9, (0, 3, 3, [])), (10, (0, -512, 512, [])), (12, (0, 2, 2, [])), (13, (0, -512, 512, [])), (14, (0, 3, 3, [])), (15, (0, -512, 512, [])), (16, (0, -39321600, 39321600, [])), (17, (0, -39321600, 39321600, []))], [(4, [17, 16, 4], []), (3, [16, 15, 3], []), (10, [15, 6, 14], []), (9, [6, 0], [12]), (8, [4], [4]), (10, [13, 6, 12], []), (7, [8, 10], [5]), (10, [10, 6, 9], []), (10, [8, 6, 7], []), (20, [0], [60, 0, 1, 845, 12]), (20, [5], [60, 0, 1, 844, 13]), (20, [0, 1, 2, 3, 4], [60, 0, 1, 848, 10])], [(17, (0, -512, 512, []))], [], [], [], [(8, 10, -4294967296, 0)])
theorem oo_Pl_layRow_6 {kA : Nat → ClassId} : or_ok PRD kA GG o_Pl_layRow_6 := by
  refine or_mk fun A ta ws vs hD hth hl => ?_
  intro t0 r0 t1 k1 t2 k2 t3 k3 t4 k4 t5 r5 t6 r6 t7 k7 t8 k8 t9 k9 t10 k10 t12 k12 t13 k13 t14 k14 t15 k15 t16 k16 t17 k17 d0 f0 f1 f2 f3 f4 f5 f6 f7 f8 f9 f10 f11
  replace f2 := shm_107 f2
  replace f3 := shm_103 f3
  replace f5 := shm_107 f5
  replace f7 := shm_107 f7
  replace f8 := shm_107 f8
  have cr_0_10 := fdq_9 hD hth r0
  have cr_0_12 := fdq_226 hD hth r0
  have cr_5_13 := fdq_88 hD hth r5
  have ad_6 : v_ad (n_v vs 6) = w_ar ws (n_v vs 0) 12 := congrArg v_ad f3
  simp only [ad_6] at f2
  have h2 : v_iv (n_v vs 15) = w_ei ws (w_ar ws (n_v vs 0) 12) (v_iv (n_v vs 14)) := f2
  simp only [ad_6] at f5
  have h5 : v_iv (n_v vs 13) = w_ei ws (w_ar ws (n_v vs 0) 12) (v_iv (n_v vs 12)) := f5
  simp only [ad_6] at f7
  have h7 : v_iv (n_v vs 10) = w_ei ws (w_ar ws (n_v vs 0) 12) (v_iv (n_v vs 9)) := f7
  simp only [ad_6] at f8
  have h8 : v_iv (n_v vs 8) = w_ei ws (w_ar ws (n_v vs 0) 12) (v_iv (n_v vs 7)) := f8
  have hK_0_10 := elq_138 hD hth cr_0_10
  have hK_0_12 := elq_139 hD hth cr_0_12
  have hK_5_13 := elq_44 hD hth cr_5_13
  have hrf0 : (-512) ≤ v_iv (n_v vs 17) ∧ v_iv (n_v vs 17) ≤ 512 := vc_Pl_layRow_6_r0 (v_iv (n_v vs 1)) (v_iv (n_v vs 2)) (v_iv (n_v vs 3)) (v_iv (n_v vs 4)) (v_iv (n_v vs 7)) (v_iv (n_v vs 8)) (v_iv (n_v vs 9)) (v_iv (n_v vs 10)) (v_iv (n_v vs 12)) (v_iv (n_v vs 13)) (v_iv (n_v vs 14)) (v_iv (n_v vs 15)) (v_iv (n_v vs 16)) (v_iv (n_v vs 17)) (w_ei ws (w_ar ws (n_v vs 0) 12)) (w_ei ws (w_ar ws (n_v vs 5) 13)) (w_ei ws (w_ar ws (n_v vs 0) 10)) k1 k2 k3 k4 k7 k8 k9 k10 k12 k13 k14 k15 k16 k17 d0 (shm_34 f0) (shm_38 f1) h2 (shm_308 f4) h5 (shm_24 f6) h7 h8 (shm_885 f9) (shm_418 f10) (shm_886 f11) hK_0_10 hK_0_12 hK_5_13
  have rf17 : tv_ok ta (0, -512, 512, []) (n_v vs 17) := tv_in t17 (by first | omega | grind) (by first | omega | grind)
  refine ⟨List.forall_mem_cons.mpr ⟨rf17, (fun _ h => (by cases h))⟩, [], trivial, ?_, (fun _ h => (by cases h))⟩
  rw [List.append_nil]
  exact (fun _ h => (by cases h))
set_option maxHeartbeats 4000000 in
theorem vc_Pl_layRow_7_1 (x1 : Int) (x2 : Int) (x3 : Int) (x4 : Int) (x7 : Int) (x8 : Int) (x9 : Int) (x10 : Int) (x11 : Int) (x12 : Int) (x13 : Int) (x14 : Int) (x15 : Int) (x16 : Int) (x17 : Int) (x18 : Int) (space_0 : Int → Int) (area_0o5 : Int → Int) (itemSize_0 : Int → Int) (k1 : 0 ≤ x1 ∧ x1 ≤ 31) (k2 : 1 ≤ x2 ∧ x2 ≤ 32) (k3 : 0 ≤ x3 ∧ x3 ≤ 76800) (k4 : 1 ≤ x4 ∧ x4 ≤ 131071) (k7 : 2 ≤ x7 ∧ x7 ≤ 2) (k8 : (-512) ≤ x8 ∧ x8 ≤ 512) (k9 : 3 ≤ x9 ∧ x9 ≤ 3) (k10 : (-512) ≤ x10 ∧ x10 ≤ 512) (k11 : 1 ≤ x11 ∧ x11 ≤ 1) (k12 : 2 ≤ x12 ∧ x12 ≤ 2) (k13 : (-512) ≤ x13 ∧ x13 ≤ 512) (k14 : 3 ≤ x14 ∧ x14 ≤ 3) (k15 : (-512) ≤ x15 ∧ x15 ≤ 512) (k16 : (-39321600) ≤ x16 ∧ x16 ≤ 39321600) (k17 : (-512) ≤ x17 ∧ x17 ≤ 512) (k18 : 0 ≤ x18 ∧ x18 ≤ 0) (d0 : x10 + (-4294967296) ≤ x8 ∧ x8 ≤ x10 + 0) (f0 : x17 = Int.tdiv (x16) (x4)) (f1 : x16 = x15 * x3) (h2 : x15 = space_0 (x14)) (f4 : x11 ≠ 0) (f5 : 0 < x4) (h6 : x13 = space_0 (x12)) (f7 : x11 ≠ 0) (f8 : x8 ≤ x10) (h9 : x10 = space_0 (x9)) (h10 : x8 = space_0 (x7)) (f11 : SPC (space_0)) (f12 : BXA (area_0o5)) (f13 : RWS6 (itemSize_0) (x1) (x2) (x3) (x4)) (hK_0_10 : ∀ j : Int, 0 ≤ j → j < 32 → 0 ≤ itemSize_0 j ∧ itemSize_0 j ≤ 2400) (hK_0_12 : ∀ j : Int, 0 ≤ j → j < 4 → (-512) ≤ space_0 j ∧ space_0 j ≤ 512) (hK_5_13 : ∀ j : Int, 0 ≤ j → j < 128 → (-512) ≤ area_0o5 j ∧ area_0o5 j ≤ 512) : RWA (space_0) (x11) (x13) (x17) := by
  first
    | assumption
    | exact Or.inr ⟨by omega, by rw [‹x13 = space_0 x12›, show x12 = 3 by omega], btw_00 (by omega)⟩
    | exact Or.inl ⟨by omega, by rw [‹x13 = space_0 x12›, show x12 = 2 by omega], btw_00 (by omega)⟩
    | (obtain ⟨_, _, s0, s1, t1⟩ := ‹RWS6 _ _ _ _ _›
       exact Or.inr ⟨by omega, by rw [‹x13 = space_0 x12›, show x12 = 3 by omega], by rw [show (2 : Int) = x14 by omega, ← ‹x15 = space_0 x14›]; exact btw_q (o := x3) (u := x4) (by assumption) (by assumption) (by omega) (by omega) (by omega)⟩)
    | (obtain ⟨_, _, s0, s1, t1⟩ := ‹RWS6 _ _ _ _ _›
       exact Or.inl ⟨by omega, by rw [‹x13 = space_0 x12›, show x12 = 2 by omega], by rw [show (3 : Int) = x14 by omega, ← ‹x15 = space_0 x14›]; exact btw_q (o := x3) (u := x4) (by assumption) (by assumption) (by omega) (by omega) (by omega)⟩)
  
set_option maxHeartbeats 4000000 in
theorem vc_Pl_layRow_7_2 (x1 : Int) (x2 : Int) (x3 : Int) (x4 : Int) (x7 : Int) (x8 : Int) (x9 : Int) (x10 : Int) (x11 : Int) (x12 : Int) (x13 : Int) (x14 : Int) (x15 : Int) (x16 : Int) (x17 : Int) (x18 : Int) (space_0 : Int → Int) (area_0o5 : Int → Int) (itemSize_0 : Int → Int) (k1 : 0 ≤ x1 ∧ x1 ≤ 31) (k2 : 1 ≤ x2 ∧ x2 ≤ 32) (k3 : 0 ≤ x3 ∧ x3 ≤ 76800) (k4 : 1 ≤ x4 ∧ x4 ≤ 131071) (k7 : 2 ≤ x7 ∧ x7 ≤ 2) (k8 : (-512) ≤ x8 ∧ x8 ≤ 512) (k9 : 3 ≤ x9 ∧ x9 ≤ 3) (k10 : (-512) ≤ x10 ∧ x10 ≤ 512) (k11 : 1 ≤ x11 ∧ x11 ≤ 1) (k12 : 2 ≤ x12 ∧ x12 ≤ 2) (k13 : (-512) ≤ x13 ∧ x13 ≤ 512) (k14 : 3 ≤ x14 ∧ x14 ≤ 3) (k15 : (-512) ≤ x15 ∧ x15 ≤ 512) (k16 : (-39321600) ≤ x16 ∧ x16 ≤ 39321600) (k17 : (-512) ≤ x17 ∧ x17 ≤ 512) (k18 : 0 ≤ x18 ∧ x18 ≤ 0) (d0 : x10 + (-4294967296) ≤ x8 ∧ x8 ≤ x10 + 0) (f0 : x17 = Int.tdiv (x16) (x4)) (f1 : x16 = x15 * x3) (h2 : x15 = space_0 (x14)) (f4 : x11 ≠ 0) (f5 : 0 < x4) (h6 : x13 = space_0 (x12)) (f7 : x11 ≠ 0) (f8 : x8 ≤ x10) (h9 : x10 = space_0 (x9)) (h10 : x8 = space_0 (x7)) (f11 : SPC (space_0)) (f12 : BXA (area_0o5)) (f13 : RWS6 (itemSize_0) (x1) (x2) (x3) (x4)) (hK_0_10 : ∀ j : Int, 0 ≤ j → j < 32 → 0 ≤ itemSize_0 j ∧ itemSize_0 j ≤ 2400) (hK_0_12 : ∀ j : Int, 0 ≤ j → j < 4 → (-512) ≤ space_0 j ∧ space_0 j ≤ 512) (hK_5_13 : ∀ j : Int, 0 ≤ j → j < 128 → (-512) ≤ area_0o5 j ∧ area_0o5 j ≤ 512) : RWK (itemSize_0) (x1) (x2) (x3) (x1) (x18) := by
  first
    | assumption
    | exact rwk_start ‹RWS6 _ _ _ _ _› (by omega) (by omega)
    | exact rwl_to ‹RWL _ _ _ _ _ _› (by omega)
    | exact rwk_step ‹RWK _ _ _ _ _ _› (by omega) (by assumption) (by omega) (by omega)
  
def o_Pl_layRow_7 : or_T := (86, 19, [(0, (2, 0, 0, [6])), (1, (0, 0, 31, [])), (2, (0, 1, 32, [])), (3, (0, 0, 76800, [])), (4, (0, 1, 131071, [])), (5, (2, 0, 0, [0])), (6, (2, 0, 0, [97])), (7, (0, 2, 2, [])), (8, (0, -512, 512, [])), (9, (0, 3, 3, [])), (10, (0, -512, 512, [])), (11, (0, 1, 1, [])), (12, (0, 2, 2, [])), (13, (0, -512, 512, [])), (14, (0, 3, 3, [])), (15, (0, -512, 512, [])), (16, (0, -39321600, 39321600, [])), (17, (0, -512, 512, [])), (18, (0, 0, 0, []))], [(4, [17, 16, 4], []), (3, [16, 15, 3], []), (10, [15, 6, 14], []), (9, [6, 0], [12]), (8, [11], [1]), (8, [4], [4]), (10, [13, 6, 12], []), (8, [11], [1]), (7, [8, 10], [5]), (10, [10, 6, 9], []), (10, [8, 6, 7], []), (20, [0], [60, 0, 1, 845, 12]), (20, [5], [60, 0, 1, 844, 13]), (20, [0, 1, 2, 3, 4], [60, 0, 1, 848, 10])], [], [], [(24, [5, 5], []), (20, [0, 11, 13, 17], [60, 0, 1, 851, 12]), (20, [0, 1, 2, 3, 1, 18], [60, 0, 1, 849, 10]), (24, [0, 0], []), (24, [1, 1], []), (24, [2, 2], []), (24, [3, 3], [])], [], [(8, 10, -4294967296, 0)])
theorem oo_Pl_layRow_7 {kA : Nat → ClassId} : or_ok PRD kA GG o_Pl_layRow_7 := by
  refine or_mk fun A ta ws vs hD hth hl => ?_
  intro t0 r0 t1 k1 t2 k2 t3 k3 t4 k4 t5 r5 t6 r6 t7 k7 t8 k8 t9 k9 t10 k10 t11 k11 t12 k12 t13 k13 t14 k14 t15 k15 t16 k16 t17 k17 t18 k18 d0 f0 f1 f2 f3 f4 f5 f6 f7 f8 f9 f10 f11 f12 f13
  replace f2 := shm_107 f2
  replace f3 := shm_103 f3
  replace f6 := shm_107 f6
  replace f9 := shm_107 f9
  replace f10 := shm_107 f10
  have cr_0_10 := fdq_9 hD hth r0
  have cr_0_12 := fdq_226 hD hth r0
  have cr_5_13 := fdq_88 hD hth r5
  have ad_6 : v_ad (n_v vs 6) = w_ar ws (n_v vs 0) 12 := congrArg v_ad f3
  simp only [ad_6] at f2
  have h2 : v_iv (n_v vs 15) = w_ei ws (w_ar ws (n_v vs 0) 12) (v_iv (n_v vs 14)) := f2
  simp only [ad_6] at f6
  have h6 : v_iv (n_v vs 13) = w_ei ws (w_ar ws (n_v vs 0) 12) (v_iv (n_v vs 12)) := f6
  simp only [ad_6] at f9
  have h9 : v_iv (n_v vs 10) = w_ei ws (w_ar ws (n_v vs 0) 12) (v_iv (n_v vs 9)) := f9
  simp only [ad_6] at f10
  have h10 : v_iv (n_v vs 8) = w_ei ws (w_ar ws (n_v vs 0) 12) (v_iv (n_v vs 7)) := f10
  have hK_0_10 := elq_138 hD hth cr_0_10
  have hK_0_12 := elq_139 hD hth cr_0_12
  have hK_5_13 := elq_44 hD hth cr_5_13
  have nf0 : fc_1 PRD (24, [5, 5], []) ws (vs) := by
    refine ⟨nf_in hl rfl, sgq_1 ?_⟩
    · show n_v vs 5 = n_v vs 5
      first | rfl | simp only [true_and]
  have nf1 : fc_1 PRD (20, [0, 11, 13, 17], [60, 0, 1, 851, 12]) ws (vs) := ⟨nf_in hl rfl, sgq_887 (vc_Pl_layRow_7_1 (v_iv (n_v vs 1)) (v_iv (n_v vs 2)) (v_iv (n_v vs 3)) (v_iv (n_v vs 4)) (v_iv (n_v vs 7)) (v_iv (n_v vs 8)) (v_iv (n_v vs 9)) (v_iv (n_v vs 10)) (v_iv (n_v vs 11)) (v_iv (n_v vs 12)) (v_iv (n_v vs 13)) (v_iv (n_v vs 14)) (v_iv (n_v vs 15)) (v_iv (n_v vs 16)) (v_iv (n_v vs 17)) (v_iv (n_v vs 18)) (w_ei ws (w_ar ws (n_v vs 0) 12)) (w_ei ws (w_ar ws (n_v vs 5) 13)) (w_ei ws (w_ar ws (n_v vs 0) 10)) k1 k2 k3 k4 k7 k8 k9 k10 k11 k12 k13 k14 k15 k16 k17 k18 d0 (shm_34 f0) (shm_38 f1) h2 (shm_142 f4) (shm_308 f5) h6 (shm_142 f7) (shm_24 f8) h9 h10 (shm_885 f11) (shm_418 f12) (shm_886 f13) hK_0_10 hK_0_12 hK_5_13)⟩
  have nf2 : fc_1 PRD (20, [0, 1, 2, 3, 1, 18], [60, 0, 1, 849, 10]) ws (vs) := ⟨nf_in hl rfl, sgq_888 (vc_Pl_layRow_7_2 (v_iv (n_v vs 1)) (v_iv (n_v vs 2)) (v_iv (n_v vs 3)) (v_iv (n_v vs 4)) (v_iv (n_v vs 7)) (v_iv (n_v vs 8)) (v_iv (n_v vs 9)) (v_iv (n_v vs 10)) (v_iv (n_v vs 11)) (v_iv (n_v vs 12)) (v_iv (n_v vs 13)) (v_iv (n_v vs 14)) (v_iv (n_v vs 15)) (v_iv (n_v vs 16)) (v_iv (n_v vs 17)) (v_iv (n_v vs 18)) (w_ei ws (w_ar ws (n_v vs 0) 12)) (w_ei ws (w_ar ws (n_v vs 5) 13)) (w_ei ws (w_ar ws (n_v vs 0) 10)) k1 k2 k3 k4 k7 k8 k9 k10 k11 k12 k13 k14 k15 k16 k17 k18 d0 (shm_34 f0) (shm_38 f1) h2 (shm_142 f4) (shm_308 f5) h6 (shm_142 f7) (shm_24 f8) h9 h10 (shm_885 f11) (shm_418 f12) (shm_886 f13) hK_0_10 hK_0_12 hK_5_13)⟩
  have nf3 : fc_1 PRD (24, [0, 0], []) ws (vs) := by
    refine ⟨nf_in hl rfl, sgq_1 ?_⟩
    · show n_v vs 0 = n_v vs 0
      first | rfl | simp only [true_and]
  have nf4 : fc_1 PRD (24, [1, 1], []) ws (vs) := by
    refine ⟨nf_in hl rfl, sgq_1 ?_⟩
    · show n_v vs 1 = n_v vs 1
      first | rfl | simp only [true_and]
  have nf5 : fc_1 PRD (24, [2, 2], []) ws (vs) := by
    refine ⟨nf_in hl rfl, sgq_1 ?_⟩
    · show n_v vs 2 = n_v vs 2
      first | rfl | simp only [true_and]
  have nf6 : fc_1 PRD (24, [3, 3], []) ws (vs) := by
    refine ⟨nf_in hl rfl, sgq_1 ?_⟩
    · show n_v vs 3 = n_v vs 3
      first | rfl | simp only [true_and]
  refine ⟨(fun _ h => (by cases h)), [], trivial, ?_, (fun _ h => (by cases h))⟩
  rw [List.append_nil]
  exact List.forall_mem_cons.mpr ⟨⟨show (24 : Nat) < 100 from by decide, nf0⟩, List.forall_mem_cons.mpr ⟨⟨show (20 : Nat) < 100 from by decide, nf1⟩, List.forall_mem_cons.mpr ⟨⟨show (20 : Nat) < 100 from by decide, nf2⟩, List.forall_mem_cons.mpr ⟨⟨show (24 : Nat) < 100 from by decide, nf3⟩, List.forall_mem_cons.mpr ⟨⟨show (24 : Nat) < 100 from by decide, nf4⟩, List.forall_mem_cons.mpr ⟨⟨show (24 : Nat) < 100 from by decide, nf5⟩, List.forall_mem_cons.mpr ⟨⟨show (24 : Nat) < 100 from by decide, nf6⟩, (fun _ h => (by cases h))⟩⟩⟩⟩⟩⟩⟩
set_option maxHeartbeats 4000000 in
theorem vc_Pl_layRow_8_r0 (x1 : Int) (x2 : Int) (x3 : Int) (x7 : Int) (x8 : Int) (x9 : Int) (x11 : Int) (x12 : Int) (x13 : Int) (x14 : Int) (x15 : Int) (x18 : Int) (x19 : Int) (x20 : Int) (space_0 : Int → Int) (area_0o5 : Int → Int) (itemSize_0 : Int → Int) (k1 : 0 ≤ x1 ∧ x1 ≤ 31) (k2 : 1 ≤ x2 ∧ x2 ≤ 32) (k3 : 0 ≤ x3 ∧ x3 ≤ 131071) (k7 : 0 ≤ x7 ∧ x7 ≤ 31) (k8 : 1 ≤ x8 ∧ x8 ≤ 32) (k9 : 0 ≤ x9 ∧ x9 ≤ 131071) (k11 : 0 ≤ x11 ∧ x11 ≤ 0) (k12 : (-512) ≤ x12 ∧ x12 ≤ 512) (k13 : (-512) ≤ x13 ∧ x13 ≤ 512) (k14 : 0 ≤ x14 ∧ x14 ≤ 76800) (k15 : 1 ≤ x15 ∧ x15 ≤ 32) (k18 : 0 ≤ x18 ∧ x18 ≤ 0) (k19 : (-512) ≤ x19 ∧ x19 ≤ 512) (k20 : (-1024) ≤ x20 ∧ x20 ≤ 1024) (d0 : x13 + (-512) ≤ x20 ∧ x20 ≤ x13 + 512) (d1 : x19 + (-512) ≤ x20 ∧ x20 ≤ x19 + 512) (d2 : x8 + 0 ≤ x15 ∧ x15 ≤ x8 + 4294967296) (d3 : x7 + (-4294967296) ≤ x1 ∧ x1 ≤ x7 + 0) (d4 : x15 + (-4294967296) ≤ x1 ∧ x1 ≤ x15 + 0) (d5 : x8 + (-4294967296) ≤ x2 ∧ x2 ≤ x8 + 0) (d6 : x9 + (-4294967296) ≤ x3 ∧ x3 ≤ x9 + 0) (d7 : x13 + (-4294967296) ≤ x3 ∧ x3 ≤ x13 + 131071) (d8 : x1 + (-4294967296) ≤ x7 ∧ x7 ≤ x1 + 0) (d9 : x15 + (-4294967296) ≤ x7 ∧ x7 ≤ x15 + 0) (d10 : x2 + (-4294967296) ≤ x8 ∧ x8 ≤ x2 + 0) (d11 : x3 + (-4294967296) ≤ x9 ∧ x9 ≤ x3 + 0) (d12 : x13 + (-4294967296) ≤ x9 ∧ x9 ≤ x13 + 131071) (d13 : x2 + (-4294967296) ≤ x15 ∧ x15 ≤ x2 + 30) (d14 : x3 + (-4294967296) ≤ x15 ∧ x15 ≤ x3 + 31) (d15 : x8 + (-4294967296) ≤ x15 ∧ x15 ≤ x8 + 30) (d16 : x9 + (-4294967296) ≤ x15 ∧ x15 ≤ x9 + 31) (f0 : x20 = x19 + x13) (h1 : x19 = space_0 (x18)) (f2 : x11 = 0) (f4 : x2 ≤ x15) (f5 : SPC (space_0)) (f6 : BXA (area_0o5)) (f8 : RWA (space_0) (x11) (x12) (x13)) (f9 : RWK (itemSize_0) (x1) (x2) (x3) (x15) (x14)) (hK_0_10 : ∀ j : Int, 0 ≤ j → j < 32 → 0 ≤ itemSize_0 j ∧ itemSize_0 j ≤ 2400) (hK_0_12 : ∀ j : Int, 0 ≤ j → j < 4 → (-512) ≤ space_0 j ∧ space_0 j ≤ 512) (hK_5_13 : ∀ j : Int, 0 ≤ j → j < 128 → (-512) ≤ area_0o5 j ∧ area_0o5 j ≤ 512) : 0 ≤ x20 ∧ x20 ≤ 512 := by
  first
    | omega
    | (rcases ‹RWA _ _ _ _› with ⟨t, _, b⟩ | ⟨t, _, b⟩
       · have e := ‹x19 = space_0 x18›
         rw [show x18 = 1 by omega] at e
         have g := hul_st (‹SPC _›).2 b rfl rfl
         unfold HUL at g
         omega
       · have e := ‹x19 = space_0 x18›
         rw [show x18 = 0 by omega] at e
         have g := hul_st (‹SPC _›).1 b rfl rfl
         unfold HUL at g
         omega)
    | (rcases ‹RWA _ _ _ _› with ⟨t, _, b⟩ | ⟨t, _, b⟩
       · exfalso; omega
       · have e := ‹x19 = space_0 x18›
         rw [show x18 = 0 by omega] at e
         have g := hul_st (‹SPC _›).1 b rfl rfl
         unfold HUL at g
         omega)
    | (rcases ‹RWA _ _ _ _› with ⟨t, _, b⟩ | ⟨t, _, b⟩
       · have e := ‹x19 = space_0 x18›
         rw [show x18 = 1 by omega] at e
         have g := hul_st (‹SPC _›).2 b rfl rfl
         unfold HUL at g
         omega
       · exfalso; omega)
  
def o_Pl_layRow_8 : or_T := (225, 21, [(0, (2, 0, 0, [6])), (1, (0, 0, 31, [])), (2, (0, 1, 32, [])), (3, (0, 0, 131071, [])), (5, (2, 0, 0, [0])), (6, (2, 0, 0, [6])), (7, (0, 0, 31, [])), (8, (0, 1, 32, [])), (9, (0, 0, 131071, [])), (11, (0, 0, 0, [])), (12, (0, -512, 512, [])), (13, (0, -512, 512, [])), (14, (0, 0, 76800, [])), (15, (0, 1, 32, [])), (16, (2, 0, 0, [0])), (17, (2, 0, 0, [97])), (18, (0, 0, 0, [])), (19, (0, -512, 512, [])), (20, (0, -1024, 1024, []))], [(1, [20, 19, 13], []), (10, [19, 17, 18], []), (8, [11], [0]), (9, [17, 6], [12]), (7, [15, 8], [3]), (20, [6], [60, 0, 1, 845, 12]), (20, [16], [60, 0, 1, 844, 13]), (24, [5, 16], []), (20, [6, 11, 12, 13], [60, 0, 1, 851, 12]), (20, [6, 7, 8, 9, 15, 14], [60, 0, 1, 849, 10]), (24, [0, 6], []), (24, [1, 7], []), (24, [2, 8], []), (24, [3, 9], [])], [(20, (0, 0, 512, []))], [], [], [], [(20, 13, -512, 512), (20, 19, -512, 512), (15, 8, 0, 4294967296), (1, 7, -4294967296, 0), (1, 15, -4294967296, 0), (2, 8, -4294967296, 0), (3, 9, -4294967296, 0), (3, 13, -4294967296, 131071), (7, 1, -4294967296, 0), (7, 15, -4294967296, 0), (8, 2, -4294967296, 0), (9, 3, -4294967296, 0), (9, 13, -4294967296, 131071), (15, 2, -4294967296, 30), (15, 3, -4294967296, 31), (15, 8, -4294967296, 30), (15, 9, -4294967296, 31)])
theorem oo_Pl_layRow_8 {kA : Nat → ClassId} : or_ok PRD kA GG o_Pl_layRow_8 := by
  refine or_mk fun A ta ws vs hD hth hl => ?_
  intro t0 r0 t1 k1 t2 k2 t3 k3 t5 r5 t6 r6 t7 k7 t8 k8 t9 k9 t11 k11 t12 k12 t13 k13 t14 k14 t15 k15 t16 r16 t17 r17 t18 k18 t19 k19 t20 k20 d0 d1 d2 d3 d4 d5 d6 d7 d8 d9 d10 d11 d12 d13 d14 d15 d16 f0 f1 f2 f3 f4 f5 f6 f7 f8 f9 f10 f11 f12 f13
  replace f1 := shm_107 f1
  replace f3 := shm_103 f3
  replace f4 := shm_2 f4
  replace f5 := shm_885 f5
  replace f6 := shm_418 f6
  replace f7 := shm_5 f7
  replace f8 := shm_887 f8
  replace f9 := shm_889 f9
  replace f10 := shm_5 f10
  replace f11 := shm_5 f11
  replace f12 := shm_5 f12
  replace f13 := shm_5 f13
  have q16 : n_v vs 16 = n_v vs 5 := f7.symm
  have q6 : n_v vs 6 = n_v vs 0 := f10.symm
  have q7 : n_v vs 7 = n_v vs 1 := f11.symm
  have q8 : n_v vs 8 = n_v vs 2 := f12.symm
  have q9 : n_v vs 9 = n_v vs 3 := f13.symm
  simp only [q6, q8, q16, q7, q9] at f3 f4 f5 f6 f8 f9
  have cr_0_10 := fdq_9 hD hth r0
  have cr_0_12 := fdq_226 hD hth r0
  have cr_5_13 := fdq_88 hD hth r5
  have ad_17 : v_ad (n_v vs 17) = w_ar ws (n_v vs 0) 12 := congrArg v_ad f3
  simp only [ad_17] at f1
  have h1 : v_iv (n_v vs 19) = w_ei ws (w_ar ws (n_v vs 0) 12) (v_iv (n_v vs 18)) := f1
  have hK_0_10 := elq_138 hD hth cr_0_10
  have hK_0_12 := elq_139 hD hth cr_0_12
  have hK_5_13 := elq_44 hD hth cr_5_13
  have hrf0 : 0 ≤ v_iv (n_v vs 20) ∧ v_iv (n_v vs 20) ≤ 512 := vc_Pl_layRow_8_r0 (v_iv (n_v vs 1)) (v_iv (n_v vs 2)) (v_iv (n_v vs 3)) (v_iv (n_v vs 7)) (v_iv (n_v vs 8)) (v_iv (n_v vs 9)) (v_iv (n_v vs 11)) (v_iv (n_v vs 12)) (v_iv (n_v vs 13)) (v_iv (n_v vs 14)) (v_iv (n_v vs 15)) (v_iv (n_v vs 18)) (v_iv (n_v vs 19)) (v_iv (n_v vs 20)) (w_ei ws (w_ar ws (n_v vs 0) 12)) (w_ei ws (w_ar ws (n_v vs 5) 13)) (w_ei ws (w_ar ws (n_v vs 0) 10)) k1 k2 k3 k7 k8 k9 k11 k12 k13 k14 k15 k18 k19 k20 d0 d1 d2 d3 d4 d5 d6 d7 d8 d9 d10 d11 d12 d13 d14 d15 d16 (shm_12 f0) h1 (shm_192 f2) f4 f5 f6 f8 f9 hK_0_10 hK_0_12 hK_5_13
  have rf20 : tv_ok ta (0, 0, 512, []) (n_v vs 20) := tv_in t20 (by first | omega | grind) (by first | omega | grind)
  refine ⟨List.forall_mem_cons.mpr ⟨rf20, (fun _ h => (by cases h))⟩, [], trivial, ?_, (fun _ h => (by cases h))⟩
  rw [List.append_nil]
  exact (fun _ h => (by cases h))
set_option maxHeartbeats 4000000 in
theorem vc_Pl_layRow_9_r0 (x1 : Int) (x2 : Int) (x3 : Int) (x7 : Int) (x8 : Int) (x9 : Int) (x11 : Int) (x12 : Int) (x13 : Int) (x14 : Int) (x15 : Int) (x18 : Int) (x19 : Int) (x20 : Int) (x21 : Int) (x22 : Int) (x23 : Int) (space_0 : Int → Int) (area_0o5 : Int → Int) (itemSize_0 : Int → Int) (space_1 : Int → Int) (area_1o5 : Int → Int) (itemSize_1 : Int → Int) (k1 : 0 ≤ x1 ∧ x1 ≤ 31) (k2 : 1 ≤ x2 ∧ x2 ≤ 32) (k3 : 0 ≤ x3 ∧ x3 ≤ 131071) (k7 : 0 ≤ x7 ∧ x7 ≤ 31) (k8 : 1 ≤ x8 ∧ x8 ≤ 32) (k9 : 0 ≤ x9 ∧ x9 ≤ 131071) (k11 : 0 ≤ x11 ∧ x11 ≤ 0) (k12 : (-512) ≤ x12 ∧ x12 ≤ 512) (k13 : (-512) ≤ x13 ∧ x13 ≤ 512) (k14 : 0 ≤ x14 ∧ x14 ≤ 76800) (k15 : 1 ≤ x15 ∧ x15 ≤ 32) (k18 : 0 ≤ x18 ∧ x18 ≤ 0) (k19 : (-512) ≤ x19 ∧ x19 ≤ 512) (k20 : 0 ≤ x20 ∧ x20 ≤ 512) (k21 : 2 ≤ x21 ∧ x21 ≤ 2) (k22 : (-512) ≤ x22 ∧ x22 ≤ 512) (k23 : (-1024) ≤ x23 ∧ x23 ≤ 1024) (d0 : x22 + (-512) ≤ x23 ∧ x23 ≤ x22 + 512) (d1 : x13 + (-512) ≤ x20 ∧ x20 ≤ x13 + 512) (d2 : x19 + (-512) ≤ x20 ∧ x20 ≤ x19 + 512) (d3 : x8 + 0 ≤ x15 ∧ x15 ≤ x8 + 4294967296) (d4 : x7 + (-4294967296) ≤ x1 ∧ x1 ≤ x7 + 0) (d5 : x15 + (-4294967296) ≤ x1 ∧ x1 ≤ x15 + 0) (d6 : x8 + (-4294967296) ≤ x2 ∧ x2 ≤ x8 + 0) (d7 : x9 + (-4294967296) ≤ x3 ∧ x3 ≤ x9 + 0) (d8 : x13 + (-4294967296) ≤ x3 ∧ x3 ≤ x13 + 131071) (d9 : x1 + (-4294967296) ≤ x7 ∧ x7 ≤ x1 + 0) (d10 : x15 + (-4294967296) ≤ x7 ∧ x7 ≤ x15 + 0) (d11 : x2 + (-4294967296) ≤ x8 ∧ x8 ≤ x2 + 0) (d12 : x3 + (-4294967296) ≤ x9 ∧ x9 ≤ x3 + 0) (d13 : x13 + (-4294967296) ≤ x9 ∧ x9 ≤ x13 + 131071) (d14 : x2 + (-4294967296) ≤ x15 ∧ x15 ≤ x2 + 30) (d15 : x3 + (-4294967296) ≤ x15 ∧ x15 ≤ x3 + 31) (d16 : x8 + (-4294967296) ≤ x15 ∧ x15 ≤ x8 + 30) (d17 : x9 + (-4294967296) ≤ x15 ∧ x15 ≤ x9 + 31) (f0 : x23 = x22 - x13) (h1 : x22 = space_0 (x21)) (f2 : x11 = 0) (f4 : BXA (area_0o5)) (f6 : RWK (itemSize_0) (x1) (x2) (x3) (x15) (x14)) (f12 : x20 = x19 + x13) (h13 : x19 = space_1 (x18)) (f14 : x11 = 0) (f15 : x2 ≤ x15) (f16 : SPC (space_1)) (f17 : BXA (area_1o5)) (f18 : RWA (space_1) (x11) (x12) (x13)) (f19 : RWK (itemSize_1) (x1) (x2) (x3) (x15) (x14)) (hE_0_10_1 : ∀ j : Int, itemSize_0 j = itemSize_1 j) (hK_0_10 : ∀ j : Int, 0 ≤ j → j < 32 → 0 ≤ itemSize_0 j ∧ itemSize_0 j ≤ 2400) (hE_0_12_1 : ∀ j : Int, 0 ≤ j → (j = x18 → space_0 j = x20) ∧ (j ≠ x18 → space_0 j = space_1 j)) (hK_0_12 : ∀ j : Int, 0 ≤ j → j < 4 → (-512) ≤ space_0 j ∧ space_0 j ≤ 512) (hE_5_13_1 : ∀ j : Int, area_0o5 j = area_1o5 j) (hK_5_13 : ∀ j : Int, 0 ≤ j → j < 128 → (-512) ≤ area_0o5 j ∧ area_0o5 j ≤ 512) : (-512) ≤ x23 ∧ x23 ≤ 512 := by
  have e_hE_0_10_1 := funext hE_0_10_1; subst e_hE_0_10_1
  have e_hE_5_13_1 := funext hE_5_13_1; subst e_hE_5_13_1
  first
    | omega
    | (rcases ‹RWA _ _ _ _› with ⟨t, _, b⟩ | ⟨t, _, b⟩
       · exfalso; omega
       · have e := ‹x22 = space_0 x21›
         rw [show x21 = 2 by omega, (hE_0_12_1 2 (by omega)).2 (by omega)] at e
         have g := hul_st (‹SPC _›).1 b rfl rfl
         unfold HUL at g
         omega)
    | (rcases ‹RWA _ _ _ _› with ⟨t, _, b⟩ | ⟨t, _, b⟩
       · have e := ‹x22 = space_0 x21›
         rw [show x21 = 3 by omega, (hE_0_12_1 3 (by omega)).2 (by omega)] at e
         have g := hul_st (‹SPC _›).2 b rfl rfl
         unfold HUL at g
         omega
       · exfalso; omega)
  
def o_Pl_layRow_9 : or_T := (245, 24, [(0, (2, 0, 0, [6])), (1, (0, 0, 31, [])), (2, (0, 1, 32, [])), (3, (0, 0, 131071, [])), (5, (2, 0, 0, [0])), (6, (2, 0, 0, [6])), (7, (0, 0, 31, [])), (8, (0, 1, 32, [])), (9, (0, 0, 131071, [])), (11, (0, 0, 0, [])), (12, (0, -512, 512, [])), (13, (0, -512, 512, [])), (14, (0, 0, 76800, [])), (15, (0, 1, 32, [])), (16, (2, 0, 0, [0])), (17, (2, 0, 0, [97])), (18, (0, 0, 0, [])), (19, (0, -512, 512, [])), (20, (0, 0, 512, [])), (21, (0, 2, 2, [])), (22, (0, -512, 512, [])), (23, (0, -1024, 1024, []))], [(2, [23, 22, 13], []), (10, [22, 17, 21], []), (8, [11], [0]), (9, [17, 6], [12]), (20, [16], [60, 0, 1, 844, 13]), (24, [5, 16], []), (20, [6, 7, 8, 9, 15, 14], [60, 0, 1, 849, 10]), (24, [0, 6], []), (24, [1, 7], []), (24, [2, 8], []), (24, [3, 9], []), (100, [17, 18, 20], []), (1, [20, 19, 13], []), (10, [19, 17, 18], []), (8, [11], [0]), (7, [15, 8], [3]), (20, [6], [60, 0, 1, 845, 12]), (20, [16], [60, 0, 1, 844, 13]), (20, [6, 11, 12, 13], [60, 0, 1, 851, 12]), (20, [6, 7, 8, 9, 15, 14], [60, 0, 1, 849, 10])], [(23, (0, -512, 512, []))], [], [], [], [(23, 22, -512, 512), (20, 13, -512, 512), (20, 19, -512, 512), (15, 8, 0, 4294967296), (1, 7, -4294967296, 0), (1, 15, -4294967296, 0), (2, 8, -4294967296, 0), (3, 9, -4294967296, 0), (3, 13, -4294967296, 131071), (7, 1, -4294967296, 0), (7, 15, -4294967296, 0), (8, 2, -4294967296, 0), (9, 3, -4294967296, 0), (9, 13, -4294967296, 131071), (15, 2, -4294967296, 30), (15, 3, -4294967296, 31), (15, 8, -4294967296, 30), (15, 9, -4294967296, 31)])
theorem oo_Pl_layRow_9 {kA : Nat → ClassId} : or_ok PRD kA GG o_Pl_layRow_9 := by
  refine or_mk fun A ta ws vs hD hth hl => ?_
  intro t0 r0 t1 k1 t2 k2 t3 k3 t5 r5 t6 r6 t7 k7 t8 k8 t9 k9 t11 k11 t12 k12 t13 k13 t14 k14 t15 k15 t16 r16 t17 r17 t18 k18 t19 k19 t20 k20 t21 k21 t22 k22 t23 k23 d0 d1 d2 d3 d4 d5 d6 d7 d8 d9 d10 d11 d12 d13 d14 d15 d16 d17 f0 f1 f2 f3 f4 f5 f6 f7 f8 f9 f10 ta1 w1 le1 s1 f12 f13 f14 f15 f16 f17 f18 f19
  replace f1 := shm_107 f1
  replace f3 := shm_103 f3
  replace f4 := shm_418 f4
  replace f5 := shm_5 f5
  replace f6 := shm_889 f6
  replace f7 := shm_5 f7
  replace f8 := shm_5 f8
  replace f9 := shm_5 f9
  replace f10 := shm_5 f10
  have s1 : (∀ b j, w_el ws b j = if b = v_ad (n_v vs 17) ∧ j = (v_iv (n_v vs 18)).toNat then v_iv (n_v vs 20) else w_el w1 b j) ∧ ∀ b k, w_fd ws b k = w_fd w1 b k := s1.2
  replace f13 := shm_107 f13
  replace f15 := shm_2 f15
  replace f16 := shm_885 f16
  replace f17 := shm_418 f17
  replace f18 := shm_887 f18
  replace f19 := shm_889 f19
  have q16 : n_v vs 16 = n_v vs 5 := f5.symm
  have q6 : n_v vs 6 = n_v vs 0 := f7.symm
  have q7 : n_v vs 7 = n_v vs 1 := f8.symm
  have q8 : n_v vs 8 = n_v vs 2 := f9.symm
  have q9 : n_v vs 9 = n_v vs 3 := f10.symm
  simp only [q6, q16, q7, q8, q9] at f3 f4 f6 f15 f16 f17 f18 f19
  have ar_0_10_1 : w_ar w1 (n_v vs 0) 10 = w_ar ws (n_v vs 0) 10 := congrArg v_ad (s1.2 _ _).symm
  have cr_0_10 := fdq_9 hD hth r0
  have ar_0_12_1 : w_ar w1 (n_v vs 0) 12 = w_ar ws (n_v vs 0) 12 := congrArg v_ad (s1.2 _ _).symm
  have cr_0_12 := fdq_226 hD hth r0
  have ar_5_13_1 : w_ar w1 (n_v vs 5) 13 = w_ar ws (n_v vs 5) 13 := congrArg v_ad (s1.2 _ _).symm
  have cr_5_13 := fdq_88 hD hth r5
  have ad_17 : v_ad (n_v vs 17) = w_ar ws (n_v vs 0) 12 := congrArg v_ad f3
  simp only [ad_17] at f1
  have h1 : v_iv (n_v vs 22) = w_ei ws (w_ar ws (n_v vs 0) 12) (v_iv (n_v vs 21)) := f1
  simp only [ad_17] at f13
  have h13 : v_iv (n_v vs 19) = w_ei w1 (w_ar ws (n_v vs 0) 12) (v_iv (n_v vs 18)) := f13
  simp only [ar_0_12_1, ar_5_13_1, ar_0_10_1] at f16 f17 f18 f19
  have hE_0_10_1 : ∀ j : Int, w_ei ws (w_ar ws (n_v vs 0) 10) j = w_ei w1 (w_ar ws (n_v vs 0) 10) j := el_kp s1.1 r17 cr_0_10 (by decide)
  have hK_0_10 := elq_138 hD hth cr_0_10
  have hE_0_12_1 : ∀ j : Int, 0 ≤ j → (j = v_iv (n_v vs 18) → w_ei ws (w_ar ws (n_v vs 0) 12) j = v_iv (n_v vs 20)) ∧ (j ≠ v_iv (n_v vs 18) → w_ei ws (w_ar ws (n_v vs 0) 12) j = w_ei w1 (w_ar ws (n_v vs 0) 12) j) := fun j hj => ⟨fun h => by unfold w_ei; rw [s1.1, if_pos ⟨ad_17.symm, by rw [h]⟩], fun h => by unfold w_ei; rw [s1.1, if_neg (fun e => h (by have := e.2; omega))]⟩
  have hK_0_12 := elq_139 hD hth cr_0_12
  have hE_5_13_1 : ∀ j : Int, w_ei ws (w_ar ws (n_v vs 5) 13) j = w_ei w1 (w_ar ws (n_v vs 5) 13) j := el_kp s1.1 r17 cr_5_13 (by decide)
  have hK_5_13 := elq_44 hD hth cr_5_13
  have hrf0 : (-512) ≤ v_iv (n_v vs 23) ∧ v_iv (n_v vs 23) ≤ 512 := vc_Pl_layRow_9_r0 (v_iv (n_v vs 1)) (v_iv (n_v vs 2)) (v_iv (n_v vs 3)) (v_iv (n_v vs 7)) (v_iv (n_v vs 8)) (v_iv (n_v vs 9)) (v_iv (n_v vs 11)) (v_iv (n_v vs 12)) (v_iv (n_v vs 13)) (v_iv (n_v vs 14)) (v_iv (n_v vs 15)) (v_iv (n_v vs 18)) (v_iv (n_v vs 19)) (v_iv (n_v vs 20)) (v_iv (n_v vs 21)) (v_iv (n_v vs 22)) (v_iv (n_v vs 23)) (w_ei ws (w_ar ws (n_v vs 0) 12)) (w_ei ws (w_ar ws (n_v vs 5) 13)) (w_ei ws (w_ar ws (n_v vs 0) 10)) (w_ei w1 (w_ar ws (n_v vs 0) 12)) (w_ei w1 (w_ar ws (n_v vs 5) 13)) (w_ei w1 (w_ar ws (n_v vs 0) 10)) k1 k2 k3 k7 k8 k9 k11 k12 k13 k14 k15 k18 k19 k20 k21 k22 k23 d0 d1 d2 d3 d4 d5 d6 d7 d8 d9 d10 d11 d12 d13 d14 d15 d16 d17 (shm_14 f0) h1 (shm_192 f2) f4 f6 (shm_12 f12) h13 (shm_192 f14) f15 f16 f17 f18 f19 hE_0_10_1 hK_0_10 hE_0_12_1 hK_0_12 hE_5_13_1 hK_5_13
  have rf23 : tv_ok ta (0, -512, 512, []) (n_v vs 23) := tv_in t23 (by first | omega | grind) (by first | omega | grind)
  refine ⟨List.forall_mem_cons.mpr ⟨rf23, (fun _ h => (by cases h))⟩, [], trivial, ?_, (fun _ h => (by cases h))⟩
  rw [List.append_nil]
  exact (fun _ h => (by cases h))
set_option maxHeartbeats 4000000 in
theorem vc_Pl_layRow_10_0 (x1 : Int) (x2 : Int) (x3 : Int) (x7 : Int) (x8 : Int) (x9 : Int) (x11 : Int) (x12 : Int) (x13 : Int) (x14 : Int) (x15 : Int) (x18 : Int) (x19 : Int) (x20 : Int) (x21 : Int) (x22 : Int) (x23 : Int) (area_0o5 : Int → Int) (itemSize_0 : Int → Int) (space_1 : Int → Int) (area_1o5 : Int → Int) (itemSize_1 : Int → Int) (space_2 : Int → Int) (area_2o5 : Int → Int) (itemSize_2 : Int → Int) (space_0 : Int → Int) (k1 : 0 ≤ x1 ∧ x1 ≤ 31) (k2 : 1 ≤ x2 ∧ x2 ≤ 32) (k3 : 0 ≤ x3 ∧ x3 ≤ 131071) (k7 : 0 ≤ x7 ∧ x7 ≤ 31) (k8 : 1 ≤ x8 ∧ x8 ≤ 32) (k9 : 0 ≤ x9 ∧ x9 ≤ 131071) (k11 : 0 ≤ x11 ∧ x11 ≤ 0) (k12 : (-512) ≤ x12 ∧ x12 ≤ 512) (k13 : (-512) ≤ x13 ∧ x13 ≤ 512) (k14 : 0 ≤ x14 ∧ x14 ≤ 76800) (k15 : 1 ≤ x15 ∧ x15 ≤ 32) (k18 : 0 ≤ x18 ∧ x18 ≤ 0) (k19 : (-512) ≤ x19 ∧ x19 ≤ 512) (k20 : 0 ≤ x20 ∧ x20 ≤ 512) (k21 : 2 ≤ x21 ∧ x21 ≤ 2) (k22 : (-512) ≤ x22 ∧ x22 ≤ 512) (k23 : (-512) ≤ x23 ∧ x23 ≤ 512) (d0 : x22 + (-512) ≤ x23 ∧ x23 ≤ x22 + 512) (d1 : x13 + (-512) ≤ x20 ∧ x20 ≤ x13 + 512) (d2 : x19 + (-512) ≤ x20 ∧ x20 ≤ x19 + 512) (d3 : x8 + 0 ≤ x15 ∧ x15 ≤ x8 + 4294967296) (d4 : x7 + (-4294967296) ≤ x1 ∧ x1 ≤ x7 + 0) (d5 : x15 + (-4294967296) ≤ x1 ∧ x1 ≤ x15 + 0) (d6 : x8 + (-4294967296) ≤ x2 ∧ x2 ≤ x8 + 0) (d7 : x9 + (-4294967296) ≤ x3 ∧ x3 ≤ x9 + 0) (d8 : x13 + (-4294967296) ≤ x3 ∧ x3 ≤ x13 + 131071) (d9 : x1 + (-4294967296) ≤ x7 ∧ x7 ≤ x1 + 0) (d10 : x15 + (-4294967296) ≤ x7 ∧ x7 ≤ x15 + 0) (d11 : x2 + (-4294967296) ≤ x8 ∧ x8 ≤ x2 + 0) (d12 : x3 + (-4294967296) ≤ x9 ∧ x9 ≤ x3 + 0) (d13 : x13 + (-4294967296) ≤ x9 ∧ x9 ≤ x13 + 131071) (d14 : x2 + (-4294967296) ≤ x15 ∧ x15 ≤ x2 + 30) (d15 : x3 + (-4294967296) ≤ x15 ∧ x15 ≤ x3 + 31) (d16 : x8 + (-4294967296) ≤ x15 ∧ x15 ≤ x8 + 30) (d17 : x9 + (-4294967296) ≤ x15 ∧ x15 ≤ x9 + 31) (f1 : BXA (area_0o5)) (f3 : RWK (itemSize_0) (x1) (x2) (x3) (x15) (x14)) (f9 : x23 = x22 - x13) (h10 : x22 = space_1 (x21)) (f11 : x11 = 0) (f12 : BXA (area_1o5)) (f13 : RWK (itemSize_1) (x1) (x2) (x3) (x15) (x14)) (f15 : x20 = x19 + x13) (h16 : x19 = space_2 (x18)) (f17 : x11 = 0) (f18 : x2 ≤ x15) (f19 : SPC (space_2)) (f20 : BXA (area_2o5)) (f21 : RWA (space_2) (x11) (x12) (x13)) (f22 : RWK (itemSize_2) (x1) (x2) (x3) (x15) (x14)) (hE_0_10_1 : ∀ j : Int, itemSize_0 j = itemSize_1 j) (hE_0_10_2 : ∀ j : Int, itemSize_1 j = itemSize_2 j) (hK_0_10 : ∀ j : Int, 0 ≤ j → j < 32 → 0 ≤ itemSize_0 j ∧ itemSize_0 j ≤ 2400) (hE_0_12_1 : ∀ j : Int, 0 ≤ j → (j = x21 → space_0 j = x23) ∧ (j ≠ x21 → space_0 j = space_1 j)) (hE_0_12_2 : ∀ j : Int, 0 ≤ j → (j = x18 → space_1 j = x20) ∧ (j ≠ x18 → space_1 j = space_2 j)) (hK_0_12 : ∀ j : Int, 0 ≤ j → j < 4 → (-512) ≤ space_0 j ∧ space_0 j ≤ 512) (hE_5_13_1 : ∀ j : Int, area_0o5 j = area_1o5 j) (hE_5_13_2 : ∀ j : Int, area_1o5 j = area_2o5 j) (hK_5_13 : ∀ j : Int, 0 ≤ j → j < 128 → (-512) ≤ area_0o5 j ∧ area_0o5 j ≤ 512) : SPC (space_0) := by
  have e_hE_0_10_1 := funext hE_0_10_1; subst e_hE_0_10_1
  have e_hE_0_10_2 := funext hE_0_10_2; subst e_hE_0_10_2
  have e_hE_5_13_1 := funext hE_5_13_1; subst e_hE_5_13_1
  have e_hE_5_13_2 := funext hE_5_13_2; subst e_hE_5_13_2
  first
    | assumption
    | (rcases ‹RWA _ _ _ _› with ⟨t, _, b⟩ | ⟨t, _, b⟩
       · exfalso; omega
       · exact spc_side (a := x19) (b := x22) ‹SPC _› b hE_0_12_2 hE_0_12_1 (by omega) (by omega) (by rw [‹x19 = space_2 x18›, show x18 = 0 by omega]) (by assumption) (by rw [‹x22 = space_1 x21›, show x21 = 2 by omega]) (by assumption))
    | (rcases ‹RWA _ _ _ _› with ⟨t, _, b⟩ | ⟨t, _, b⟩
       · exact spc_top (a := x19) (b := x22) ‹SPC _› b hE_0_12_2 hE_0_12_1 (by omega) (by omega) (by rw [‹x19 = space_2 x18›, show x18 = 1 by omega]) (by assumption) (by rw [‹x22 = space_1 x21›, show x21 = 3 by omega]) (by assumption)
       · exfalso; omega)
  
set_option maxHeartbeats 4000000 in
theorem vc_Pl_layRow_10_1 (x1 : Int) (x2 : Int) (x3 : Int) (x7 : Int) (x8 : Int) (x9 : Int) (x11 : Int) (x12 : Int) (x13 : Int) (x14 : Int) (x15 : Int) (x18 : Int) (x19 : Int) (x20 : Int) (x21 : Int) (x22 : Int) (x23 : Int) (area_0o5 : Int → Int) (itemSize_0 : Int → Int) (space_1 : Int → Int) (area_1o5 : Int → Int) (itemSize_1 : Int → Int) (space_2 : Int → Int) (area_2o5 : Int → Int) (itemSize_2 : Int → Int) (space_0 : Int → Int) (k1 : 0 ≤ x1 ∧ x1 ≤ 31) (k2 : 1 ≤ x2 ∧ x2 ≤ 32) (k3 : 0 ≤ x3 ∧ x3 ≤ 131071) (k7 : 0 ≤ x7 ∧ x7 ≤ 31) (k8 : 1 ≤ x8 ∧ x8 ≤ 32) (k9 : 0 ≤ x9 ∧ x9 ≤ 131071) (k11 : 0 ≤ x11 ∧ x11 ≤ 0) (k12 : (-512) ≤ x12 ∧ x12 ≤ 512) (k13 : (-512) ≤ x13 ∧ x13 ≤ 512) (k14 : 0 ≤ x14 ∧ x14 ≤ 76800) (k15 : 1 ≤ x15 ∧ x15 ≤ 32) (k18 : 0 ≤ x18 ∧ x18 ≤ 0) (k19 : (-512) ≤ x19 ∧ x19 ≤ 512) (k20 : 0 ≤ x20 ∧ x20 ≤ 512) (k21 : 2 ≤ x21 ∧ x21 ≤ 2) (k22 : (-512) ≤ x22 ∧ x22 ≤ 512) (k23 : (-512) ≤ x23 ∧ x23 ≤ 512) (d0 : x22 + (-512) ≤ x23 ∧ x23 ≤ x22 + 512) (d1 : x13 + (-512) ≤ x20 ∧ x20 ≤ x13 + 512) (d2 : x19 + (-512) ≤ x20 ∧ x20 ≤ x19 + 512) (d3 : x8 + 0 ≤ x15 ∧ x15 ≤ x8 + 4294967296) (d4 : x7 + (-4294967296) ≤ x1 ∧ x1 ≤ x7 + 0) (d5 : x15 + (-4294967296) ≤ x1 ∧ x1 ≤ x15 + 0) (d6 : x8 + (-4294967296) ≤ x2 ∧ x2 ≤ x8 + 0) (d7 : x9 + (-4294967296) ≤ x3 ∧ x3 ≤ x9 + 0) (d8 : x13 + (-4294967296) ≤ x3 ∧ x3 ≤ x13 + 131071) (d9 : x1 + (-4294967296) ≤ x7 ∧ x7 ≤ x1 + 0) (d10 : x15 + (-4294967296) ≤ x7 ∧ x7 ≤ x15 + 0) (d11 : x2 + (-4294967296) ≤ x8 ∧ x8 ≤ x2 + 0) (d12 : x3 + (-4294967296) ≤ x9 ∧ x9 ≤ x3 + 0) (d13 : x13 + (-4294967296) ≤ x9 ∧ x9 ≤ x13 + 131071) (d14 : x2 + (-4294967296) ≤ x15 ∧ x15 ≤ x2 + 30) (d15 : x3 + (-4294967296) ≤ x15 ∧ x15 ≤ x3 + 31) (d16 : x8 + (-4294967296) ≤ x15 ∧ x15 ≤ x8 + 30) (d17 : x9 + (-4294967296) ≤ x15 ∧ x15 ≤ x9 + 31) (f1 : BXA (area_0o5)) (f3 : RWK (itemSize_0) (x1) (x2) (x3) (x15) (x14)) (f9 : x23 = x22 - x13) (h10 : x22 = space_1 (x21)) (f11 : x11 = 0) (f12 : BXA (area_1o5)) (f13 : RWK (itemSize_1) (x1) (x2) (x3) (x15) (x14)) (f15 : x20 = x19 + x13) (h16 : x19 = space_2 (x18)) (f17 : x11 = 0) (f18 : x2 ≤ x15) (f19 : SPC (space_2)) (f20 : BXA (area_2o5)) (f21 : RWA (space_2) (x11) (x12) (x13)) (f22 : RWK (itemSize_2) (x1) (x2) (x3) (x15) (x14)) (hE_0_10_1 : ∀ j : Int, itemSize_0 j = itemSize_1 j) (hE_0_10_2 : ∀ j : Int, itemSize_1 j = itemSize_2 j) (hK_0_10 : ∀ j : Int, 0 ≤ j → j < 32 → 0 ≤ itemSize_0 j ∧ itemSize_0 j ≤ 2400) (hE_0_12_1 : ∀ j : Int, 0 ≤ j → (j = x21 → space_0 j = x23) ∧ (j ≠ x21 → space_0 j = space_1 j)) (hE_0_12_2 : ∀ j : Int, 0 ≤ j → (j = x18 → space_1 j = x20) ∧ (j ≠ x18 → space_1 j = space_2 j)) (hK_0_12 : ∀ j : Int, 0 ≤ j → j < 4 → (-512) ≤ space_0 j ∧ space_0 j ≤ 512) (hE_5_13_1 : ∀ j : Int, area_0o5 j = area_1o5 j) (hE_5_13_2 : ∀ j : Int, area_1o5 j = area_2o5 j) (hK_5_13 : ∀ j : Int, 0 ≤ j → j < 128 → (-512) ≤ area_0o5 j ∧ area_0o5 j ≤ 512) : BXA (area_0o5) := by
  have e_hE_0_10_1 := funext hE_0_10_1; subst e_hE_0_10_1
  have e_hE_0_10_2 := funext hE_0_10_2; subst e_hE_0_10_2
  have e_hE_5_13_1 := funext hE_5_13_1; subst e_hE_5_13_1
  have e_hE_5_13_2 := funext hE_5_13_2; subst e_hE_5_13_2
  first
    | assumption
  
def o_Pl_layRow_10 : or_T := (246, 24, [(0, (2, 0, 0, [6])), (1, (0, 0, 31, [])), (2, (0, 1, 32, [])), (3, (0, 0, 131071, [])), (5, (2, 0, 0, [0])), (6, (2, 0, 0, [6])), (7, (0, 0, 31, [])), (8, (0, 1, 32, [])), (9, (0, 0, 131071, [])), (11, (0, 0, 0, [])), (12, (0, -512, 512, [])), (13, (0, -512, 512, [])), (14, (0, 0, 76800, [])), (15, (0, 1, 32, [])), (16, (2, 0, 0, [0])), (17, (2, 0, 0, [97])), (18, (0, 0, 0, [])), (19, (0, -512, 512, [])), (20, (0, 0, 512, [])), (21, (0, 2, 2, [])), (22, (0, -512, 512, [])), (23, (0, -512, 512, []))], [(9, [17, 6], [12]), (20, [16], [60, 0, 1, 844, 13]), (24, [5, 16], []), (20, [6, 7, 8, 9, 15, 14], [60, 0, 1, 849, 10]), (24, [0, 6], []), (24, [1, 7], []), (24, [2, 8], []), (24, [3, 9], []), (100, [17, 21, 23], []), (2, [23, 22, 13], []), (10, [22, 17, 21], []), (8, [11], [0]), (20, [16], [60, 0, 1, 844, 13]), (20, [6, 7, 8, 9, 15, 14], [60, 0, 1, 849, 10]), (100, [17, 18, 20], []), (1, [20, 19, 13], []), (10, [19, 17, 18], []), (8, [11], [0]), (7, [15, 8], [3]), (20, [6], [60, 0, 1, 845, 12]), (20, [16], [60, 0, 1, 844, 13]), (20, [6, 11, 12, 13], [60, 0, 1, 851, 12]), (20, [6, 7, 8, 9, 15, 14], [60, 0, 1, 849, 10])], [], [], [(20, [0], [60, 0, 1, 845, 12]), (20, [5], [60, 0, 1, 844, 13])], [], [(23, 22, -512, 512), (20, 13, -512, 512), (20, 19, -512, 512), (15, 8, 0, 4294967296), (1, 7, -4294967296, 0), (1, 15, -4294967296, 0), (2, 8, -4294967296, 0), (3, 9, -4294967296, 0), (3, 13, -4294967296, 131071), (7, 1, -4294967296, 0), (7, 15, -4294967296, 0), (8, 2, -4294967296, 0), (9, 3, -4294967296, 0), (9, 13, -4294967296, 131071), (15, 2, -4294967296, 30), (15, 3, -4294967296, 31), (15, 8, -4294967296, 30), (15, 9, -4294967296, 31)])
theorem oo_Pl_layRow_10 {kA : Nat → ClassId} : or_ok PRD kA GG o_Pl_layRow_10 := by
  refine or_mk fun A ta ws vs hD hth hl => ?_
  intro t0 r0 t1 k1 t2 k2 t3 k3 t5 r5 t6 r6 t7 k7 t8 k8 t9 k9 t11 k11 t12 k12 t13 k13 t14 k14 t15 k15 t16 r16 t17 r17 t18 k18 t19 k19 t20 k20 t21 k21 t22 k22 t23 k23 d0 d1 d2 d3 d4 d5 d6 d7 d8 d9 d10 d11 d12 d13 d14 d15 d16 d17 f0 f1 f2 f3 f4 f5 f6 f7 ta1 w1 le1 s1 f9 f10 f11 f12 f13 ta2 w2 le2 s2 f15 f16 f17 f18 f19 f20 f21 f22
  replace f0 := shm_103 f0
  replace f1 := shm_418 f1
  replace f2 := shm_5 f2
  replace f3 := shm_889 f3
  replace f4 := shm_5 f4
  replace f5 := shm_5 f5
  replace f6 := shm_5 f6
  replace f7 := shm_5 f7
  have s1 : (∀ b j, w_el ws b j = if b = v_ad (n_v vs 17) ∧ j = (v_iv (n_v vs 21)).toNat then v_iv (n_v vs 23) else w_el w1 b j) ∧ ∀ b k, w_fd ws b k = w_fd w1 b k := s1.2
  replace f10 := shm_107 f10
  replace f12 := shm_418 f12
  replace f13 := shm_889 f13
  have s2 : (∀ b j, w_el w1 b j = if b = v_ad (n_v vs 17) ∧ j = (v_iv (n_v vs 18)).toNat then v_iv (n_v vs 20) else w_el w2 b j) ∧ ∀ b k, w_fd w1 b k = w_fd w2 b k := s2.2
  replace f16 := shm_107 f16
  replace f18 := shm_2 f18
  replace f19 := shm_885 f19
  replace f20 := shm_418 f20
  replace f21 := shm_887 f21
  replace f22 := shm_889 f22
  have q16 : n_v vs 16 = n_v vs 5 := f2.symm
  have q6 : n_v vs 6 = n_v vs 0 := f4.symm
  have q7 : n_v vs 7 = n_v vs 1 := f5.symm
  have q8 : n_v vs 8 = n_v vs 2 := f6.symm
  have q9 : n_v vs 9 = n_v vs 3 := f7.symm
  simp only [q6, q16, q7, q8, q9] at f0 f1 f3 f12 f13 f18 f19 f20 f21 f22
  have ar_0_10_1 : w_ar w1 (n_v vs 0) 10 = w_ar ws (n_v vs 0) 10 := congrArg v_ad (s1.2 _ _).symm
  have ar_0_10_2 : w_ar w2 (n_v vs 0) 10 = w_ar ws (n_v vs 0) 10 := by rw [← ar_0_10_1]; show v_ad (w_fd w2 _ _) = v_ad (w_fd w1 _ _); rw [s2.2]
  have cr_0_10 := fdq_9 hD hth r0
  have ar_0_12_1 : w_ar w1 (n_v vs 0) 12 = w_ar ws (n_v vs 0) 12 := congrArg v_ad (s1.2 _ _).symm
  have ar_0_12_2 : w_ar w2 (n_v vs 0) 12 = w_ar ws (n_v vs 0) 12 := by rw [← ar_0_12_1]; show v_ad (w_fd w2 _ _) = v_ad (w_fd w1 _ _); rw [s2.2]
  have cr_0_12 := fdq_226 hD hth r0
  have ar_5_13_1 : w_ar w1 (n_v vs 5) 13 = w_ar ws (n_v vs 5) 13 := congrArg v_ad (s1.2 _ _).symm
  have ar_5_13_2 : w_ar w2 (n_v vs 5) 13 = w_ar ws (n_v vs 5) 13 := by rw [← ar_5_13_1]; show v_ad (w_fd w2 _ _) = v_ad (w_fd w1 _ _); rw [s2.2]
  have cr_5_13 := fdq_88 hD hth r5
  have ad_17 : v_ad (n_v vs 17) = w_ar ws (n_v vs 0) 12 := congrArg v_ad f0
  simp only [ad_17] at f10
  have h10 : v_iv (n_v vs 22) = w_ei w1 (w_ar ws (n_v vs 0) 12) (v_iv (n_v vs 21)) := f10
  simp only [ar_5_13_1, ar_0_10_1, ad_17] at f12 f13 f16
  have h16 : v_iv (n_v vs 19) = w_ei w2 (w_ar ws (n_v vs 0) 12) (v_iv (n_v vs 18)) := f16
  simp only [ar_0_12_2, ar_5_13_2, ar_0_10_2] at f19 f20 f21 f22
  have hE_0_10_1 : ∀ j : Int, w_ei ws (w_ar ws (n_v vs 0) 10) j = w_ei w1 (w_ar ws (n_v vs 0) 10) j := el_kp s1.1 r17 cr_0_10 (by decide)
  have hE_0_10_2 : ∀ j : Int, w_ei w1 (w_ar ws (n_v vs 0) 10) j = w_ei w2 (w_ar ws (n_v vs 0) 10) j := el_kp s2.1 r17 cr_0_10 (by decide)
  have hK_0_10 := elq_138 hD hth cr_0_10
  have hE_0_12_1 : ∀ j : Int, 0 ≤ j → (j = v_iv (n_v vs 21) → w_ei ws (w_ar ws (n_v vs 0) 12) j = v_iv (n_v vs 23)) ∧ (j ≠ v_iv (n_v vs 21) → w_ei ws (w_ar ws (n_v vs 0) 12) j = w_ei w1 (w_ar ws (n_v vs 0) 12) j) := fun j hj => ⟨fun h => by unfold w_ei; rw [s1.1, if_pos ⟨ad_17.symm, by rw [h]⟩], fun h => by unfold w_ei; rw [s1.1, if_neg (fun e => h (by have := e.2; omega))]⟩
  have hE_0_12_2 : ∀ j : Int, 0 ≤ j → (j = v_iv (n_v vs 18) → w_ei w1 (w_ar ws (n_v vs 0) 12) j = v_iv (n_v vs 20)) ∧ (j ≠ v_iv (n_v vs 18) → w_ei w1 (w_ar ws (n_v vs 0) 12) j = w_ei w2 (w_ar ws (n_v vs 0) 12) j) := fun j hj => ⟨fun h => by unfold w_ei; rw [s2.1, if_pos ⟨ad_17.symm, by rw [h]⟩], fun h => by unfold w_ei; rw [s2.1, if_neg (fun e => h (by have := e.2; omega))]⟩
  have hK_0_12 := elq_139 hD hth cr_0_12
  have hE_5_13_1 : ∀ j : Int, w_ei ws (w_ar ws (n_v vs 5) 13) j = w_ei w1 (w_ar ws (n_v vs 5) 13) j := el_kp s1.1 r17 cr_5_13 (by decide)
  have hE_5_13_2 : ∀ j : Int, w_ei w1 (w_ar ws (n_v vs 5) 13) j = w_ei w2 (w_ar ws (n_v vs 5) 13) j := el_kp s2.1 r17 cr_5_13 (by decide)
  have hK_5_13 := elq_44 hD hth cr_5_13
  have nf0 : fc_1 PRD (20, [0], [60, 0, 1, 845, 12]) ws (vs) := ⟨nf_in hl rfl, sgq_885 (vc_Pl_layRow_10_0 (v_iv (n_v vs 1)) (v_iv (n_v vs 2)) (v_iv (n_v vs 3)) (v_iv (n_v vs 7)) (v_iv (n_v vs 8)) (v_iv (n_v vs 9)) (v_iv (n_v vs 11)) (v_iv (n_v vs 12)) (v_iv (n_v vs 13)) (v_iv (n_v vs 14)) (v_iv (n_v vs 15)) (v_iv (n_v vs 18)) (v_iv (n_v vs 19)) (v_iv (n_v vs 20)) (v_iv (n_v vs 21)) (v_iv (n_v vs 22)) (v_iv (n_v vs 23)) (w_ei ws (w_ar ws (n_v vs 5) 13)) (w_ei ws (w_ar ws (n_v vs 0) 10)) (w_ei w1 (w_ar ws (n_v vs 0) 12)) (w_ei w1 (w_ar ws (n_v vs 5) 13)) (w_ei w1 (w_ar ws (n_v vs 0) 10)) (w_ei w2 (w_ar ws (n_v vs 0) 12)) (w_ei w2 (w_ar ws (n_v vs 5) 13)) (w_ei w2 (w_ar ws (n_v vs 0) 10)) (w_ei ws (w_ar ws (n_v vs 0) 12)) k1 k2 k3 k7 k8 k9 k11 k12 k13 k14 k15 k18 k19 k20 k21 k22 k23 d0 d1 d2 d3 d4 d5 d6 d7 d8 d9 d10 d11 d12 d13 d14 d15 d16 d17 f1 f3 (shm_14 f9) h10 (shm_192 f11) f12 f13 (shm_12 f15) h16 (shm_192 f17) f18 f19 f20 f21 f22 hE_0_10_1 hE_0_10_2 hK_0_10 hE_0_12_1 hE_0_12_2 hK_0_12 hE_5_13_1 hE_5_13_2 hK_5_13)⟩
  have nf1 : fc_1 PRD (20, [5], [60, 0, 1, 844, 13]) ws (vs) := ⟨nf_in hl rfl, sgq_418 (vc_Pl_layRow_10_1 (v_iv (n_v vs 1)) (v_iv (n_v vs 2)) (v_iv (n_v vs 3)) (v_iv (n_v vs 7)) (v_iv (n_v vs 8)) (v_iv (n_v vs 9)) (v_iv (n_v vs 11)) (v_iv (n_v vs 12)) (v_iv (n_v vs 13)) (v_iv (n_v vs 14)) (v_iv (n_v vs 15)) (v_iv (n_v vs 18)) (v_iv (n_v vs 19)) (v_iv (n_v vs 20)) (v_iv (n_v vs 21)) (v_iv (n_v vs 22)) (v_iv (n_v vs 23)) (w_ei ws (w_ar ws (n_v vs 5) 13)) (w_ei ws (w_ar ws (n_v vs 0) 10)) (w_ei w1 (w_ar ws (n_v vs 0) 12)) (w_ei w1 (w_ar ws (n_v vs 5) 13)) (w_ei w1 (w_ar ws (n_v vs 0) 10)) (w_ei w2 (w_ar ws (n_v vs 0) 12)) (w_ei w2 (w_ar ws (n_v vs 5) 13)) (w_ei w2 (w_ar ws (n_v vs 0) 10)) (w_ei ws (w_ar ws (n_v vs 0) 12)) k1 k2 k3 k7 k8 k9 k11 k12 k13 k14 k15 k18 k19 k20 k21 k22 k23 d0 d1 d2 d3 d4 d5 d6 d7 d8 d9 d10 d11 d12 d13 d14 d15 d16 d17 f1 f3 (shm_14 f9) h10 (shm_192 f11) f12 f13 (shm_12 f15) h16 (shm_192 f17) f18 f19 f20 f21 f22 hE_0_10_1 hE_0_10_2 hK_0_10 hE_0_12_1 hE_0_12_2 hK_0_12 hE_5_13_1 hE_5_13_2 hK_5_13)⟩
  refine ⟨(fun _ h => (by cases h)), [], trivial, ?_, (fun _ h => (by cases h))⟩
  rw [List.append_nil]
  exact List.forall_mem_cons.mpr ⟨⟨show (20 : Nat) < 100 from by decide, nf0⟩, List.forall_mem_cons.mpr ⟨⟨show (20 : Nat) < 100 from by decide, nf1⟩, (fun _ h => (by cases h))⟩⟩
set_option maxHeartbeats 4000000 in
theorem vc_Pl_layRow_11_r0 (x1 : Int) (x2 : Int) (x3 : Int) (x7 : Int) (x8 : Int) (x9 : Int) (x11 : Int) (x12 : Int) (x13 : Int) (x14 : Int) (x15 : Int) (x18 : Int) (x19 : Int) (x20 : Int) (space_0 : Int → Int) (area_0o5 : Int → Int) (itemSize_0 : Int → Int) (k1 : 0 ≤ x1 ∧ x1 ≤ 31) (k2 : 1 ≤ x2 ∧ x2 ≤ 32) (k3 : 0 ≤ x3 ∧ x3 ≤ 131071) (k7 : 0 ≤ x7 ∧ x7 ≤ 31) (k8 : 1 ≤ x8 ∧ x8 ≤ 32) (k9 : 0 ≤ x9 ∧ x9 ≤ 131071) (k11 : 1 ≤ x11 ∧ x11 ≤ 1) (k12 : (-512) ≤ x12 ∧ x12 ≤ 512) (k13 : (-512) ≤ x13 ∧ x13 ≤ 512) (k14 : 0 ≤ x14 ∧ x14 ≤ 76800) (k15 : 1 ≤ x15 ∧ x15 ≤ 32) (k18 : 1 ≤ x18 ∧ x18 ≤ 1) (k19 : (-512) ≤ x19 ∧ x19 ≤ 512) (k20 : (-1024) ≤ x20 ∧ x20 ≤ 1024) (d0 : x13 + (-512) ≤ x20 ∧ x20 ≤ x13 + 512) (d1 : x19 + (-512) ≤ x20 ∧ x20 ≤ x19 + 512) (d2 : x8 + 0 ≤ x15 ∧ x15 ≤ x8 + 4294967296) (d3 : x7 + (-4294967296) ≤ x1 ∧ x1 ≤ x7 + 0) (d4 : x15 + (-4294967296) ≤ x1 ∧ x1 ≤ x15 + 0) (d5 : x8 + (-4294967296) ≤ x2 ∧ x2 ≤ x8 + 0) (d6 : x9 + (-4294967296) ≤ x3 ∧ x3 ≤ x9 + 0) (d7 : x13 + (-4294967296) ≤ x3 ∧ x3 ≤ x13 + 131071) (d8 : x1 + (-4294967296) ≤ x7 ∧ x7 ≤ x1 + 0) (d9 : x15 + (-4294967296) ≤ x7 ∧ x7 ≤ x15 + 0) (d10 : x2 + (-4294967296) ≤ x8 ∧ x8 ≤ x2 + 0) (d11 : x3 + (-4294967296) ≤ x9 ∧ x9 ≤ x3 + 0) (d12 : x13 + (-4294967296) ≤ x9 ∧ x9 ≤ x13 + 131071) (d13 : x2 + (-4294967296) ≤ x15 ∧ x15 ≤ x2 + 30) (d14 : x3 + (-4294967296) ≤ x15 ∧ x15 ≤ x3 + 31) (d15 : x8 + (-4294967296) ≤ x15 ∧ x15 ≤ x8 + 30) (d16 : x9 + (-4294967296) ≤ x15 ∧ x15 ≤ x9 + 31) (f0 : x20 = x19 + x13) (h1 : x19 = space_0 (x18)) (f2 : x11 ≠ 0) (f4 : x2 ≤ x15) (f5 : SPC (space_0)) (f6 : BXA (area_0o5)) (f8 : RWA (space_0) (x11) (x12) (x13)) (f9 : RWK (itemSize_0) (x1) (x2) (x3) (x15) (x14)) (hK_0_10 : ∀ j : Int, 0 ≤ j → j < 32 → 0 ≤ itemSize_0 j ∧ itemSize_0 j ≤ 2400) (hK_0_12 : ∀ j : Int, 0 ≤ j → j < 4 → (-512) ≤ space_0 j ∧ space_0 j ≤ 512) (hK_5_13 : ∀ j : Int, 0 ≤ j → j < 128 → (-512) ≤ area_0o5 j ∧ area_0o5 j ≤ 512) : 0 ≤ x20 ∧ x20 ≤ 512 := by
  first
    | omega
    | (rcases ‹RWA _ _ _ _› with ⟨t, _, b⟩ | ⟨t, _, b⟩
       · have e := ‹x19 = space_0 x18›
         rw [show x18 = 1 by omega] at e
         have g := hul_st (‹SPC _›).2 b rfl rfl
         unfold HUL at g
         omega
       · have e := ‹x19 = space_0 x18›
         rw [show x18 = 0 by omega] at e
         have g := hul_st (‹SPC _›).1 b rfl rfl
         unfold HUL at g
         omega)
    | (rcases ‹RWA _ _ _ _› with ⟨t, _, b⟩ | ⟨t, _, b⟩
       · exfalso; omega
       · have e := ‹x19 = space_0 x18›
         rw [show x18 = 0 by omega] at e
         have g := hul_st (‹SPC _›).1 b rfl rfl
         unfold HUL at g
         omega)
    | (rcases ‹RWA _ _ _ _› with ⟨t, _, b⟩ | ⟨t, _, b⟩
       · have e := ‹x19 = space_0 x18›
         rw [show x18 = 1 by omega] at e
         have g := hul_st (‹SPC _›).2 b rfl rfl
         unfold HUL at g
         omega
       · exfalso; omega)
  
def o_Pl_layRow_11 : or_T := (225, 21, [(0, (2, 0, 0, [6])), (1, (0, 0, 31, [])), (2, (0, 1, 32, [])), (3, (0, 0, 131071, [])), (5, (2, 0, 0, [0])), (6, (2, 0, 0, [6])), (7, (0, 0, 31, [])), (8, (0, 1, 32, [])), (9, (0, 0, 131071, [])), (11, (0, 1, 1, [])), (12, (0, -512, 512, [])), (13, (0, -512, 512, [])), (14, (0, 0, 76800, [])), (15, (0, 1, 32, [])), (16, (2, 0, 0, [0])), (17, (2, 0, 0, [97])), (18, (0, 1, 1, [])), (19, (0, -512, 512, [])), (20, (0, -1024, 1024, []))], [(1, [20, 19, 13], []), (10, [19, 17, 18], []), (8, [11], [1]), (9, [17, 6], [12]), (7, [15, 8], [3]), (20, [6], [60, 0, 1, 845, 12]), (20, [16], [60, 0, 1, 844, 13]), (24, [5, 16], []), (20, [6, 11, 12, 13], [60, 0, 1, 851, 12]), (20, [6, 7, 8, 9, 15, 14], [60, 0, 1, 849, 10]), (24, [0, 6], []), (24, [1, 7], []), (24, [2, 8], []), (24, [3, 9], [])], [(20, (0, 0, 512, []))], [], [], [], [(20, 13, -512, 512), (20, 19, -512, 512), (15, 8, 0, 4294967296), (1, 7, -4294967296, 0), (1, 15, -4294967296, 0), (2, 8, -4294967296, 0), (3, 9, -4294967296, 0), (3, 13, -4294967296, 131071), (7, 1, -4294967296, 0), (7, 15, -4294967296, 0), (8, 2, -4294967296, 0), (9, 3, -4294967296, 0), (9, 13, -4294967296, 131071), (15, 2, -4294967296, 30), (15, 3, -4294967296, 31), (15, 8, -4294967296, 30), (15, 9, -4294967296, 31)])
theorem oo_Pl_layRow_11 {kA : Nat → ClassId} : or_ok PRD kA GG o_Pl_layRow_11 := by
  refine or_mk fun A ta ws vs hD hth hl => ?_
  intro t0 r0 t1 k1 t2 k2 t3 k3 t5 r5 t6 r6 t7 k7 t8 k8 t9 k9 t11 k11 t12 k12 t13 k13 t14 k14 t15 k15 t16 r16 t17 r17 t18 k18 t19 k19 t20 k20 d0 d1 d2 d3 d4 d5 d6 d7 d8 d9 d10 d11 d12 d13 d14 d15 d16 f0 f1 f2 f3 f4 f5 f6 f7 f8 f9 f10 f11 f12 f13
  replace f1 := shm_107 f1
  replace f3 := shm_103 f3
  replace f4 := shm_2 f4
  replace f5 := shm_885 f5
  replace f6 := shm_418 f6
  replace f7 := shm_5 f7
  replace f8 := shm_887 f8
  replace f9 := shm_889 f9
  replace f10 := shm_5 f10
  replace f11 := shm_5 f11
  replace f12 := shm_5 f12
  replace f13 := shm_5 f13
  have q16 : n_v vs 16 = n_v vs 5 := f7.symm
  have q6 : n_v vs 6 = n_v vs 0 := f10.symm
  have q7 : n_v vs 7 = n_v vs 1 := f11.symm
  have q8 : n_v vs 8 = n_v vs 2 := f12.symm
  have q9 : n_v vs 9 = n_v vs 3 := f13.symm
  simp only [q6, q8, q16, q7, q9] at f3 f4 f5 f6 f8 f9
  have cr_0_10 := fdq_9 hD hth r0
  have cr_0_12 := fdq_226 hD hth r0
  have cr_5_13 := fdq_88 hD hth r5
  have ad_17 : v_ad (n_v vs 17) = w_ar ws (n_v vs 0) 12 := congrArg v_ad f3
  simp only [ad_17] at f1
  have h1 : v_iv (n_v vs 19) = w_ei ws (w_ar ws (n_v vs 0) 12) (v_iv (n_v vs 18)) := f1
  have hK_0_10 := elq_138 hD hth cr_0_10
  have hK_0_12 := elq_139 hD hth cr_0_12
  have hK_5_13 := elq_44 hD hth cr_5_13
  have hrf0 : 0 ≤ v_iv (n_v vs 20) ∧ v_iv (n_v vs 20) ≤ 512 := vc_Pl_layRow_11_r0 (v_iv (n_v vs 1)) (v_iv (n_v vs 2)) (v_iv (n_v vs 3)) (v_iv (n_v vs 7)) (v_iv (n_v vs 8)) (v_iv (n_v vs 9)) (v_iv (n_v vs 11)) (v_iv (n_v vs 12)) (v_iv (n_v vs 13)) (v_iv (n_v vs 14)) (v_iv (n_v vs 15)) (v_iv (n_v vs 18)) (v_iv (n_v vs 19)) (v_iv (n_v vs 20)) (w_ei ws (w_ar ws (n_v vs 0) 12)) (w_ei ws (w_ar ws (n_v vs 5) 13)) (w_ei ws (w_ar ws (n_v vs 0) 10)) k1 k2 k3 k7 k8 k9 k11 k12 k13 k14 k15 k18 k19 k20 d0 d1 d2 d3 d4 d5 d6 d7 d8 d9 d10 d11 d12 d13 d14 d15 d16 (shm_12 f0) h1 (shm_142 f2) f4 f5 f6 f8 f9 hK_0_10 hK_0_12 hK_5_13
  have rf20 : tv_ok ta (0, 0, 512, []) (n_v vs 20) := tv_in t20 (by first | omega | grind) (by first | omega | grind)
  refine ⟨List.forall_mem_cons.mpr ⟨rf20, (fun _ h => (by cases h))⟩, [], trivial, ?_, (fun _ h => (by cases h))⟩
  rw [List.append_nil]
  exact (fun _ h => (by cases h))
set_option maxHeartbeats 4000000 in
theorem vc_Pl_layRow_12_r0 (x1 : Int) (x2 : Int) (x3 : Int) (x7 : Int) (x8 : Int) (x9 : Int) (x11 : Int) (x12 : Int) (x13 : Int) (x14 : Int) (x15 : Int) (x18 : Int) (x19 : Int) (x20 : Int) (x21 : Int) (x22 : Int) (x23 : Int) (space_0 : Int → Int) (area_0o5 : Int → Int) (itemSize_0 : Int → Int) (space_1 : Int → Int) (area_1o5 : Int → Int) (itemSize_1 : Int → Int) (k1 : 0 ≤ x1 ∧ x1 ≤ 31) (k2 : 1 ≤ x2 ∧ x2 ≤ 32) (k3 : 0 ≤ x3 ∧ x3 ≤ 131071) (k7 : 0 ≤ x7 ∧ x7 ≤ 31) (k8 : 1 ≤ x8 ∧ x8 ≤ 32) (k9 : 0 ≤ x9 ∧ x9 ≤ 131071) (k11 : 1 ≤ x11 ∧ x11 ≤ 1) (k12 : (-512) ≤ x12 ∧ x12 ≤ 512) (k13 : (-512) ≤ x13 ∧ x13 ≤ 512) (k14 : 0 ≤ x14 ∧ x14 ≤ 76800) (k15 : 1 ≤ x15 ∧ x15 ≤ 32) (k18 : 1 ≤ x18 ∧ x18 ≤ 1) (k19 : (-512) ≤ x19 ∧ x19 ≤ 512) (k20 : 0 ≤ x20 ∧ x20 ≤ 512) (k21 : 3 ≤ x21 ∧ x21 ≤ 3) (k22 : (-512) ≤ x22 ∧ x22 ≤ 512) (k23 : (-1024) ≤ x23 ∧ x23 ≤ 1024) (d0 : x22 + (-512) ≤ x23 ∧ x23 ≤ x22 + 512) (d1 : x13 + (-512) ≤ x20 ∧ x20 ≤ x13 + 512) (d2 : x19 + (-512) ≤ x20 ∧ x20 ≤ x19 + 512) (d3 : x8 + 0 ≤ x15 ∧ x15 ≤ x8 + 4294967296) (d4 : x7 + (-4294967296) ≤ x1 ∧ x1 ≤ x7 + 0) (d5 : x15 + (-4294967296) ≤ x1 ∧ x1 ≤ x15 + 0) (d6 : x8 + (-4294967296) ≤ x2 ∧ x2 ≤ x8 + 0) (d7 : x9 + (-4294967296) ≤ x3 ∧ x3 ≤ x9 + 0) (d8 : x13 + (-4294967296) ≤ x3 ∧ x3 ≤ x13 + 131071) (d9 : x1 + (-4294967296) ≤ x7 ∧ x7 ≤ x1 + 0) (d10 : x15 + (-4294967296) ≤ x7 ∧ x7 ≤ x15 + 0) (d11 : x2 + (-4294967296) ≤ x8 ∧ x8 ≤ x2 + 0) (d12 : x3 + (-4294967296) ≤ x9 ∧ x9 ≤ x3 + 0) (d13 : x13 + (-4294967296) ≤ x9 ∧ x9 ≤ x13 + 131071) (d14 : x2 + (-4294967296) ≤ x15 ∧ x15 ≤ x2 + 30) (d15 : x3 + (-4294967296) ≤ x15 ∧ x15 ≤ x3 + 31) (d16 : x8 + (-4294967296) ≤ x15 ∧ x15 ≤ x8 + 30) (d17 : x9 + (-4294967296) ≤ x15 ∧ x15 ≤ x9 + 31) (f0 : x23 = x22 - x13) (h1 : x22 = space_0 (x21)) (f2 : x11 ≠ 0) (f4 : BXA (area_0o5)) (f6 : RWK (itemSize_0) (x1) (x2) (x3) (x15) (x14)) (f12 : x20 = x19 + x13) (h13 : x19 = space_1 (x18)) (f14 : x11 ≠ 0) (f15 : x2 ≤ x15) (f16 : SPC (space_1)) (f17 : BXA (area_1o5)) (f18 : RWA (space_1) (x11) (x12) (x13)) (f19 : RWK (itemSize_1) (x1) (x2) (x3) (x15) (x14)) (hE_0_10_1 : ∀ j : Int, itemSize_0 j = itemSize_1 j) (hK_0_10 : ∀ j : Int, 0 ≤ j → j < 32 → 0 ≤ itemSize_0 j ∧ itemSize_0 j ≤ 2400) (hE_0_12_1 : ∀ j : Int, 0 ≤ j → (j = x18 → space_0 j = x20) ∧ (j ≠ x18 → space_0 j = space_1 j)) (hK_0_12 : ∀ j : Int, 0 ≤ j → j < 4 → (-512) ≤ space_0 j ∧ space_0 j ≤ 512) (hE_5_13_1 : ∀ j : Int, area_0o5 j = area_1o5 j) (hK_5_13 : ∀ j : Int, 0 ≤ j → j < 128 → (-512) ≤ area_0o5 j ∧ area_0o5 j ≤ 512) : (-512) ≤ x23 ∧ x23 ≤ 512 := by
  have e_hE_0_10_1 := funext hE_0_10_1; subst e_hE_0_10_1
  have e_hE_5_13_1 := funext hE_5_13_1; subst e_hE_5_13_1
  first
    | omega
    | (rcases ‹RWA _ _ _ _› with ⟨t, _, b⟩ | ⟨t, _, b⟩
       · exfalso; omega
       · have e := ‹x22 = space_0 x21›
         rw [show x21 = 2 by omega, (hE_0_12_1 2 (by omega)).2 (by omega)] at e
         have g := hul_st (‹SPC _›).1 b rfl rfl
         unfold HUL at g
         omega)
    | (rcases ‹RWA _ _ _ _› with ⟨t, _, b⟩ | ⟨t, _, b⟩
       · have e := ‹x22 = space_0 x21›
         rw [show x21 = 3 by omega, (hE_0_12_1 3 (by omega)).2 (by omega)] at e
         have g := hul_st (‹SPC _›).2 b rfl rfl
         unfold HUL at g
         omega
       · exfalso; omega)
  
def o_Pl_layRow_12 : or_T := (245, 24, [(0, (2, 0, 0, [6])), (1, (0, 0, 31, [])), (2, (0, 1, 32, [])), (3, (0, 0, 131071, [])), (5, (2, 0, 0, [0])), (6, (2, 0, 0, [6])), (7, (0, 0, 31, [])), (8, (0, 1, 32, [])), (9, (0, 0, 131071, [])), (11, (0, 1, 1, [])), (12, (0, -512, 512, [])), (13, (0, -512, 512, [])), (14, (0, 0, 76800, [])), (15, (0, 1, 32, [])), (16, (2, 0, 0, [0])), (17, (2, 0, 0, [97])), (18, (0, 1, 1, [])), (19, (0, -512, 512, [])), (20, (0, 0, 512, [])), (21, (0, 3, 3, [])), (22, (0, -512, 512, [])), (23, (0, -1024, 1024, []))], [(2, [23, 22, 13], []), (10, [22, 17, 21], []), (8, [11], [1]), (9, [17, 6], [12]), (20, [16], [60, 0, 1, 844, 13]), (24, [5, 16], []), (20, [6, 7, 8, 9, 15, 14], [60, 0, 1, 849, 10]), (24, [0, 6], []), (24, [1, 7], []), (24, [2, 8], []), (24, [3, 9], []), (100, [17, 18, 20], []), (1, [20, 19, 13], []), (10, [19, 17, 18], []), (8, [11], [1]), (7, [15, 8], [3]), (20, [6], [60, 0, 1, 845, 12]), (20, [16], [60, 0, 1, 844, 13]), (20, [6, 11, 12, 13], [60, 0, 1, 851, 12]), (20, [6, 7, 8, 9, 15, 14], [60, 0, 1, 849, 10])], [(23, (0, -512, 512, []))], [], [], [], [(23, 22, -512, 512), (20, 13, -512, 512), (20, 19, -512, 512), (15, 8, 0, 4294967296), (1, 7, -4294967296, 0), (1, 15, -4294967296, 0), (2, 8, -4294967296, 0), (3, 9, -4294967296, 0), (3, 13, -4294967296, 131071), (7, 1, -4294967296, 0), (7, 15, -4294967296, 0), (8, 2, -4294967296, 0), (9, 3, -4294967296, 0), (9, 13, -4294967296, 131071), (15, 2, -4294967296, 30), (15, 3, -4294967296, 31), (15, 8, -4294967296, 30), (15, 9, -4294967296, 31)])
theorem oo_Pl_layRow_12 {kA : Nat → ClassId} : or_ok PRD kA GG o_Pl_layRow_12 := by
  refine or_mk fun A ta ws vs hD hth hl => ?_
  intro t0 r0 t1 k1 t2 k2 t3 k3 t5 r5 t6 r6 t7 k7 t8 k8 t9 k9 t11 k11 t12 k12 t13 k13 t14 k14 t15 k15 t16 r16 t17 r17 t18 k18 t19 k19 t20 k20 t21 k21 t22 k22 t23 k23 d0 d1 d2 d3 d4 d5 d6 d7 d8 d9 d10 d11 d12 d13 d14 d15 d16 d17 f0 f1 f2 f3 f4 f5 f6 f7 f8 f9 f10 ta1 w1 le1 s1 f12 f13 f14 f15 f16 f17 f18 f19
  replace f1 := shm_107 f1
  replace f3 := shm_103 f3
  replace f4 := shm_418 f4
  replace f5 := shm_5 f5
  replace f6 := shm_889 f6
  replace f7 := shm_5 f7
  replace f8 := shm_5 f8
  replace f9 := shm_5 f9
  replace f10 := shm_5 f10
  have s1 : (∀ b j, w_el ws b j = if b = v_ad (n_v vs 17) ∧ j = (v_iv (n_v vs 18)).toNat then v_iv (n_v vs 20) else w_el w1 b j) ∧ ∀ b k, w_fd ws b k = w_fd w1 b k := s1.2
  replace f13 := shm_107 f13
  replace f15 := shm_2 f15
  replace f16 := shm_885 f16
  replace f17 := shm_418 f17
  replace f18 := shm_887 f18
  replace f19 := shm_889 f19
  have q16 : n_v vs 16 = n_v vs 5 := f5.symm
  have q6 : n_v vs 6 = n_v vs 0 := f7.symm
  have q7 : n_v vs 7 = n_v vs 1 := f8.symm
  have q8 : n_v vs 8 = n_v vs 2 := f9.symm
  have q9 : n_v vs 9 = n_v vs 3 := f10.symm
  simp only [q6, q16, q7, q8, q9] at f3 f4 f6 f15 f16 f17 f18 f19
  have ar_0_10_1 : w_ar w1 (n_v vs 0) 10 = w_ar ws (n_v vs 0) 10 := congrArg v_ad (s1.2 _ _).symm
  have cr_0_10 := fdq_9 hD hth r0
  have ar_0_12_1 : w_ar w1 (n_v vs 0) 12 = w_ar ws (n_v vs 0) 12 := congrArg v_ad (s1.2 _ _).symm
  have cr_0_12 := fdq_226 hD hth r0
  have ar_5_13_1 : w_ar w1 (n_v vs 5) 13 = w_ar ws (n_v vs 5) 13 := congrArg v_ad (s1.2 _ _).symm
  have cr_5_13 := fdq_88 hD hth r5
  have ad_17 : v_ad (n_v vs 17) = w_ar ws (n_v vs 0) 12 := congrArg v_ad f3
  simp only [ad_17] at f1
  have h1 : v_iv (n_v vs 22) = w_ei ws (w_ar ws (n_v vs 0) 12) (v_iv (n_v vs 21)) := f1
  simp only [ad_17] at f13
  have h13 : v_iv (n_v vs 19) = w_ei w1 (w_ar ws (n_v vs 0) 12) (v_iv (n_v vs 18)) := f13
  simp only [ar_0_12_1, ar_5_13_1, ar_0_10_1] at f16 f17 f18 f19
  have hE_0_10_1 : ∀ j : Int, w_ei ws (w_ar ws (n_v vs 0) 10) j = w_ei w1 (w_ar ws (n_v vs 0) 10) j := el_kp s1.1 r17 cr_0_10 (by decide)
  have hK_0_10 := elq_138 hD hth cr_0_10
  have hE_0_12_1 : ∀ j : Int, 0 ≤ j → (j = v_iv (n_v vs 18) → w_ei ws (w_ar ws (n_v vs 0) 12) j = v_iv (n_v vs 20)) ∧ (j ≠ v_iv (n_v vs 18) → w_ei ws (w_ar ws (n_v vs 0) 12) j = w_ei w1 (w_ar ws (n_v vs 0) 12) j) := fun j hj => ⟨fun h => by unfold w_ei; rw [s1.1, if_pos ⟨ad_17.symm, by rw [h]⟩], fun h => by unfold w_ei; rw [s1.1, if_neg (fun e => h (by have := e.2; omega))]⟩
  have hK_0_12 := elq_139 hD hth cr_0_12
  have hE_5_13_1 : ∀ j : Int, w_ei ws (w_ar ws (n_v vs 5) 13) j = w_ei w1 (w_ar ws (n_v vs 5) 13) j := el_kp s1.1 r17 cr_5_13 (by decide)
  have hK_5_13 := elq_44 hD hth cr_5_13
  have hrf0 : (-512) ≤ v_iv (n_v vs 23) ∧ v_iv (n_v vs 23) ≤ 512 := vc_Pl_layRow_12_r0 (v_iv (n_v vs 1)) (v_iv (n_v vs 2)) (v_iv (n_v vs 3)) (v_iv (n_v vs 7)) (v_iv (n_v vs 8)) (v_iv (n_v vs 9)) (v_iv (n_v vs 11)) (v_iv (n_v vs 12)) (v_iv (n_v vs 13)) (v_iv (n_v vs 14)) (v_iv (n_v vs 15)) (v_iv (n_v vs 18)) (v_iv (n_v vs 19)) (v_iv (n_v vs 20)) (v_iv (n_v vs 21)) (v_iv (n_v vs 22)) (v_iv (n_v vs 23)) (w_ei ws (w_ar ws (n_v vs 0) 12)) (w_ei ws (w_ar ws (n_v vs 5) 13)) (w_ei ws (w_ar ws (n_v vs 0) 10)) (w_ei w1 (w_ar ws (n_v vs 0) 12)) (w_ei w1 (w_ar ws (n_v vs 5) 13)) (w_ei w1 (w_ar ws (n_v vs 0) 10)) k1 k2 k3 k7 k8 k9 k11 k12 k13 k14 k15 k18 k19 k20 k21 k22 k23 d0 d1 d2 d3 d4 d5 d6 d7 d8 d9 d10 d11 d12 d13 d14 d15 d16 d17 (shm_14 f0) h1 (shm_142 f2) f4 f6 (shm_12 f12) h13 (shm_142 f14) f15 f16 f17 f18 f19 hE_0_10_1 hK_0_10 hE_0_12_1 hK_0_12 hE_5_13_1 hK_5_13
  have rf23 : tv_ok ta (0, -512, 512, []) (n_v vs 23) := tv_in t23 (by first | omega | grind) (by first | omega | grind)
  refine ⟨List.forall_mem_cons.mpr ⟨rf23, (fun _ h => (by cases h))⟩, [], trivial, ?_, (fun _ h => (by cases h))⟩
  rw [List.append_nil]
  exact (fun _ h => (by cases h))
set_option maxHeartbeats 4000000 in
theorem vc_Pl_layRow_13_0 (x1 : Int) (x2 : Int) (x3 : Int) (x7 : Int) (x8 : Int) (x9 : Int) (x11 : Int) (x12 : Int) (x13 : Int) (x14 : Int) (x15 : Int) (x18 : Int) (x19 : Int) (x20 : Int) (x21 : Int) (x22 : Int) (x23 : Int) (area_0o5 : Int → Int) (itemSize_0 : Int → Int) (space_1 : Int → Int) (area_1o5 : Int → Int) (itemSize_1 : Int → Int) (space_2 : Int → Int) (area_2o5 : Int → Int) (itemSize_2 : Int → Int) (space_0 : Int → Int) (k1 : 0 ≤ x1 ∧ x1 ≤ 31) (k2 : 1 ≤ x2 ∧ x2 ≤ 32) (k3 : 0 ≤ x3 ∧ x3 ≤ 131071) (k7 : 0 ≤ x7 ∧ x7 ≤ 31) (k8 : 1 ≤ x8 ∧ x8 ≤ 32) (k9 : 0 ≤ x9 ∧ x9 ≤ 131071) (k11 : 1 ≤ x11 ∧ x11 ≤ 1) (k12 : (-512) ≤ x12 ∧ x12 ≤ 512) (k13 : (-512) ≤ x13 ∧ x13 ≤ 512) (k14 : 0 ≤ x14 ∧ x14 ≤ 76800) (k15 : 1 ≤ x15 ∧ x15 ≤ 32) (k18 : 1 ≤ x18 ∧ x18 ≤ 1) (k19 : (-512) ≤ x19 ∧ x19 ≤ 512) (k20 : 0 ≤ x20 ∧ x20 ≤ 512) (k21 : 3 ≤ x21 ∧ x21 ≤ 3) (k22 : (-512) ≤ x22 ∧ x22 ≤ 512) (k23 : (-512) ≤ x23 ∧ x23 ≤ 512) (d0 : x22 + (-512) ≤ x23 ∧ x23 ≤ x22 + 512) (d1 : x13 + (-512) ≤ x20 ∧ x20 ≤ x13 + 512) (d2 : x19 + (-512) ≤ x20 ∧ x20 ≤ x19 + 512) (d3 : x8 + 0 ≤ x15 ∧ x15 ≤ x8 + 4294967296) (d4 : x7 + (-4294967296) ≤ x1 ∧ x1 ≤ x7 + 0) (d5 : x15 + (-4294967296) ≤ x1 ∧ x1 ≤ x15 + 0) (d6 : x8 + (-4294967296) ≤ x2 ∧ x2 ≤ x8 + 0) (d7 : x9 + (-4294967296) ≤ x3 ∧ x3 ≤ x9 + 0) (d8 : x13 + (-4294967296) ≤ x3 ∧ x3 ≤ x13 + 131071) (d9 : x1 + (-4294967296) ≤ x7 ∧ x7 ≤ x1 + 0) (d10 : x15 + (-4294967296) ≤ x7 ∧ x7 ≤ x15 + 0) (d11 : x2 + (-4294967296) ≤ x8 ∧ x8 ≤ x2 + 0) (d12 : x3 + (-4294967296) ≤ x9 ∧ x9 ≤ x3 + 0) (d13 : x13 + (-4294967296) ≤ x9 ∧ x9 ≤ x13 + 131071) (d14 : x2 + (-4294967296) ≤ x15 ∧ x15 ≤ x2 + 30) (d15 : x3 + (-4294967296) ≤ x15 ∧ x15 ≤ x3 + 31) (d16 : x8 + (-4294967296) ≤ x15 ∧ x15 ≤ x8 + 30) (d17 : x9 + (-4294967296) ≤ x15 ∧ x15 ≤ x9 + 31) (f1 : BXA (area_0o5)) (f3 : RWK (itemSize_0) (x1) (x2) (x3) (x15) (x14)) (f9 : x23 = x22 - x13) (h10 : x22 = space_1 (x21)) (f11 : x11 ≠ 0) (f12 : BXA (area_1o5)) (f13 : RWK (itemSize_1) (x1) (x2) (x3) (x15) (x14)) (f15 : x20 = x19 + x13) (h16 : x19 = space_2 (x18)) (f17 : x11 ≠ 0) (f18 : x2 ≤ x15) (f19 : SPC (space_2)) (f20 : BXA (area_2o5)) (f21 : RWA (space_2) (x11) (x12) (x13)) (f22 : RWK (itemSize_2) (x1) (x2) (x3) (x15) (x14)) (hE_0_10_1 : ∀ j : Int, itemSize_0 j = itemSize_1 j) (hE_0_10_2 : ∀ j : Int, itemSize_1 j = itemSize_2 j) (hK_0_10 : ∀ j : Int, 0 ≤ j → j < 32 → 0 ≤ itemSize_0 j ∧ itemSize_0 j ≤ 2400) (hE_0_12_1 : ∀ j : Int, 0 ≤ j → (j = x21 → space_0 j = x23) ∧ (j ≠ x21 → space_0 j = space_1 j)) (hE_0_12_2 : ∀ j : Int, 0 ≤ j → (j = x18 → space_1 j = x20) ∧ (j ≠ x18 → space_1 j = space_2 j)) (hK_0_12 : ∀ j : Int, 0 ≤ j → j < 4 → (-512) ≤ space_0 j ∧ space_0 j ≤ 512) (hE_5_13_1 : ∀ j : Int, area_0o5 j = area_1o5 j) (hE_5_13_2 : ∀ j : Int, area_1o5 j = area_2o5 j) (hK_5_13 : ∀ j : Int, 0 ≤ j → j < 128 → (-512) ≤ area_0o5 j ∧ area_0o5 j ≤ 512) : SPC (space_0) := by
  have e_hE_0_10_1 := funext hE_0_10_1; subst e_hE_0_10_1
  have e_hE_0_10_2 := funext hE_0_10_2; subst e_hE_0_10_2
  have e_hE_5_13_1 := funext hE_5_13_1; subst e_hE_5_13_1
  have e_hE_5_13_2 := funext hE_5_13_2; subst e_hE_5_13_2
  first
    | assumption
    | (rcases ‹RWA _ _ _ _› with ⟨t, _, b⟩ | ⟨t, _, b⟩
       · exfalso; omega
       · exact spc_side (a := x19) (b := x22) ‹SPC _› b hE_0_12_2 hE_0_12_1 (by omega) (by omega) (by rw [‹x19 = space_2 x18›, show x18 = 0 by omega]) (by assumption) (by rw [‹x22 = space_1 x21›, show x21 = 2 by omega]) (by assumption))
    | (rcases ‹RWA _ _ _ _› with ⟨t, _, b⟩ | ⟨t, _, b⟩
       · exact spc_top (a := x19) (b := x22) ‹SPC _› b hE_0_12_2 hE_0_12_1 (by omega) (by omega) (by rw [‹x19 = space_2 x18›, show x18 = 1 by omega]) (by assumption) (by rw [‹x22 = space_1 x21›, show x21 = 3 by omega]) (by assumption)
       · exfalso; omega)
  
set_option maxHeartbeats 4000000 in
theorem vc_Pl_layRow_13_1 (x1 : Int) (x2 : Int) (x3 : Int) (x7 : Int) (x8 : Int) (x9 : Int) (x11 : Int) (x12 : Int) (x13 : Int) (x14 : Int) (x15 : Int) (x18 : Int) (x19 : Int) (x20 : Int) (x21 : Int) (x22 : Int) (x23 : Int) (area_0o5 : Int → Int) (itemSize_0 : Int → Int) (space_1 : Int → Int) (area_1o5 : Int → Int) (itemSize_1 : Int → Int) (space_2 : Int → Int) (area_2o5 : Int → Int) (itemSize_2 : Int → Int) (space_0 : Int → Int) (k1 : 0 ≤ x1 ∧ x1 ≤ 31) (k2 : 1 ≤ x2 ∧ x2 ≤ 32) (k3 : 0 ≤ x3 ∧ x3 ≤ 131071) (k7 : 0 ≤ x7 ∧ x7 ≤ 31) (k8 : 1 ≤ x8 ∧ x8 ≤ 32) (k9 : 0 ≤ x9 ∧ x9 ≤ 131071) (k11 : 1 ≤ x11 ∧ x11 ≤ 1) (k12 : (-512) ≤ x12 ∧ x12 ≤ 512) (k13 : (-512) ≤ x13 ∧ x13 ≤ 512) (k14 : 0 ≤ x14 ∧ x14 ≤ 76800) (k15 : 1 ≤ x15 ∧ x15 ≤ 32) (k18 : 1 ≤ x18 ∧ x18 ≤ 1) (k19 : (-512) ≤ x19 ∧ x19 ≤ 512) (k20 : 0 ≤ x20 ∧ x20 ≤ 512) (k21 : 3 ≤ x21 ∧ x21 ≤ 3) (k22 : (-512) ≤ x22 ∧ x22 ≤ 512) (k23 : (-512) ≤ x23 ∧ x23 ≤ 512) (d0 : x22 + (-512) ≤ x23 ∧ x23 ≤ x22 + 512) (d1 : x13 + (-512) ≤ x20 ∧ x20 ≤ x13 + 512) (d2 : x19 + (-512) ≤ x20 ∧ x20 ≤ x19 + 512) (d3 : x8 + 0 ≤ x15 ∧ x15 ≤ x8 + 4294967296) (d4 : x7 + (-4294967296) ≤ x1 ∧ x1 ≤ x7 + 0) (d5 : x15 + (-4294967296) ≤ x1 ∧ x1 ≤ x15 + 0) (d6 : x8 + (-4294967296) ≤ x2 ∧ x2 ≤ x8 + 0) (d7 : x9 + (-4294967296) ≤ x3 ∧ x3 ≤ x9 + 0) (d8 : x13 + (-4294967296) ≤ x3 ∧ x3 ≤ x13 + 131071) (d9 : x1 + (-4294967296) ≤ x7 ∧ x7 ≤ x1 + 0) (d10 : x15 + (-4294967296) ≤ x7 ∧ x7 ≤ x15 + 0) (d11 : x2 + (-4294967296) ≤ x8 ∧ x8 ≤ x2 + 0) (d12 : x3 + (-4294967296) ≤ x9 ∧ x9 ≤ x3 + 0) (d13 : x13 + (-4294967296) ≤ x9 ∧ x9 ≤ x13 + 131071) (d14 : x2 + (-4294967296) ≤ x15 ∧ x15 ≤ x2 + 30) (d15 : x3 + (-4294967296) ≤ x15 ∧ x15 ≤ x3 + 31) (d16 : x8 + (-4294967296) ≤ x15 ∧ x15 ≤ x8 + 30) (d17 : x9 + (-4294967296) ≤ x15 ∧ x15 ≤ x9 + 31) (f1 : BXA (area_0o5)) (f3 : RWK (itemSize_0) (x1) (x2) (x3) (x15) (x14)) (f9 : x23 = x22 - x13) (h10 : x22 = space_1 (x21)) (f11 : x11 ≠ 0) (f12 : BXA (area_1o5)) (f13 : RWK (itemSize_1) (x1) (x2) (x3) (x15) (x14)) (f15 : x20 = x19 + x13) (h16 : x19 = space_2 (x18)) (f17 : x11 ≠ 0) (f18 : x2 ≤ x15) (f19 : SPC (space_2)) (f20 : BXA (area_2o5)) (f21 : RWA (space_2) (x11) (x12) (x13)) (f22 : RWK (itemSize_2) (x1) (x2) (x3) (x15) (x14)) (hE_0_10_1 : ∀ j : Int, itemSize_0 j = itemSize_1 j) (hE_0_10_2 : ∀ j : Int, itemSize_1 j = itemSize_2 j) (hK_0_10 : ∀ j : Int, 0 ≤ j → j < 32 → 0 ≤ itemSize_0 j ∧ itemSize_0 j ≤ 2400) (hE_0_12_1 : ∀ j : Int, 0 ≤ j → (j = x21 → space_0 j = x23) ∧ (j ≠ x21 → space_0 j = space_1 j)) (hE_0_12_2 : ∀ j : Int, 0 ≤ j → (j = x18 → space_1 j = x20) ∧ (j ≠ x18 → space_1 j = space_2 j)) (hK_0_12 : ∀ j : Int, 0 ≤ j → j < 4 → (-512) ≤ space_0 j ∧ space_0 j ≤ 512) (hE_5_13_1 : ∀ j : Int, area_0o5 j = area_1o5 j) (hE_5_13_2 : ∀ j : Int, area_1o5 j = area_2o5 j) (hK_5_13 : ∀ j : Int, 0 ≤ j → j < 128 → (-512) ≤ area_0o5 j ∧ area_0o5 j ≤ 512) : BXA (area_0o5) := by
  have e_hE_0_10_1 := funext hE_0_10_1; subst e_hE_0_10_1
  have e_hE_0_10_2 := funext hE_0_10_2; subst e_hE_0_10_2
  have e_hE_5_13_1 := funext hE_5_13_1; subst e_hE_5_13_1
  have e_hE_5_13_2 := funext hE_5_13_2; subst e_hE_5_13_2
  first
    | assumption
  
def o_Pl_layRow_13 : or_T := (246, 24, [(0, (2, 0, 0, [6])), (1, (0, 0, 31, [])), (2, (0, 1, 32, [])), (3, (0, 0, 131071, [])), (5, (2, 0, 0, [0])), (6, (2, 0, 0, [6])), (7, (0, 0, 31, [])), (8, (0, 1, 32, [])), (9, (0, 0, 131071, [])), (11, (0, 1, 1, [])), (12, (0, -512, 512, [])), (13, (0, -512, 512, [])), (14, (0, 0, 76800, [])), (15, (0, 1, 32, [])), (16, (2, 0, 0, [0])), (17, (2, 0, 0, [97])), (18, (0, 1, 1, [])), (19, (0, -512, 512, [])), (20, (0, 0, 512, [])), (21, (0, 3, 3, [])), (22, (0, -512, 512, [])), (23, (0, -512, 512, []))], [(9, [17, 6], [12]), (20, [16], [60, 0, 1, 844, 13]), (24, [5, 16], []), (20, [6, 7, 8, 9, 15, 14], [60, 0, 1, 849, 10]), (24, [0, 6], []), (24, [1, 7], []), (24, [2, 8], []), (24, [3, 9], []), (100, [17, 21, 23], []), (2, [23, 22, 13], []), (10, [22, 17, 21], []), (8, [11], [1]), (20, [16], [60, 0, 1, 844, 13]), (20, [6, 7, 8, 9, 15, 14], [60, 0, 1, 849, 10]), (100, [17, 18, 20], []), (1, [20, 19, 13], []), (10, [19, 17, 18], []), (8, [11], [1]), (7, [15, 8], [3]), (20, [6], [60, 0, 1, 845, 12]), (20, [16], [60, 0, 1, 844, 13]), (20, [6, 11, 12, 13], [60, 0, 1, 851, 12]), (20, [6, 7, 8, 9, 15, 14], [60, 0, 1, 849, 10])], [], [], [(20, [0], [60, 0, 1, 845, 12]), (20, [5], [60, 0, 1, 844, 13])], [], [(23, 22, -512, 512), (20, 13, -512, 512), (20, 19, -512, 512), (15, 8, 0, 4294967296), (1, 7, -4294967296, 0), (1, 15, -4294967296, 0), (2, 8, -4294967296, 0), (3, 9, -4294967296, 0), (3, 13, -4294967296, 131071), (7, 1, -4294967296, 0), (7, 15, -4294967296, 0), (8, 2, -4294967296, 0), (9, 3, -4294967296, 0), (9, 13, -4294967296, 131071), (15, 2, -4294967296, 30), (15, 3, -4294967296, 31), (15, 8, -4294967296, 30), (15, 9, -4294967296, 31)])
theorem oo_Pl_layRow_13 {kA : Nat → ClassId} : or_ok PRD kA GG o_Pl_layRow_13 := by
  refine or_mk fun A ta ws vs hD hth hl => ?_
  intro t0 r0 t1 k1 t2 k2 t3 k3 t5 r5 t6 r6 t7 k7 t8 k8 t9 k9 t11 k11 t12 k12 t13 k13 t14 k14 t15 k15 t16 r16 t17 r17 t18 k18 t19 k19 t20 k20 t21 k21 t22 k22 t23 k23 d0 d1 d2 d3 d4 d5 d6 d7 d8 d9 d10 d11 d12 d13 d14 d15 d16 d17 f0 f1 f2 f3 f4 f5 f6 f7 ta1 w1 le1 s1 f9 f10 f11 f12 f13 ta2 w2 le2 s2 f15 f16 f17 f18 f19 f20 f21 f22
  replace f0 := shm_103 f0
  replace f1 := shm_418 f1
  replace f2 := shm_5 f2
  replace f3 := shm_889 f3
  replace f4 := shm_5 f4
  replace f5 := shm_5 f5
  replace f6 := shm_5 f6
  replace f7 := shm_5 f7
  have s1 : (∀ b j, w_el ws b j = if b = v_ad (n_v vs 17) ∧ j = (v_iv (n_v vs 21)).toNat then v_iv (n_v vs 23) else w_el w1 b j) ∧ ∀ b k, w_fd ws b k = w_fd w1 b k := s1.2
  replace f10 := shm_107 f10
  replace f12 := shm_418 f12
  replace f13 := shm_889 f13
  have s2 : (∀ b j, w_el w1 b j = if b = v_ad (n_v vs 17) ∧ j = (v_iv (n_v vs 18)).toNat then v_iv (n_v vs 20) else w_el w2 b j) ∧ ∀ b k, w_fd w1 b k = w_fd w2 b k := s2.2
  replace f16 := shm_107 f16
  replace f18 := shm_2 f18
  replace f19 := shm_885 f19
  replace f20 := shm_418 f20
  replace f21 := shm_887 f21
  replace f22 := shm_889 f22
  have q16 : n_v vs 16 = n_v vs 5 := f2.symm
  have q6 : n_v vs 6 = n_v vs 0 := f4.symm
  have q7 : n_v vs 7 = n_v vs 1 := f5.symm
  have q8 : n_v vs 8 = n_v vs 2 := f6.symm
  have q9 : n_v vs 9 = n_v vs 3 := f7.symm
  simp only [q6, q16, q7, q8, q9] at f0 f1 f3 f12 f13 f18 f19 f20 f21 f22
  have ar_0_10_1 : w_ar w1 (n_v vs 0) 10 = w_ar ws (n_v vs 0) 10 := congrArg v_ad (s1.2 _ _).symm
  have ar_0_10_2 : w_ar w2 (n_v vs 0) 10 = w_ar ws (n_v vs 0) 10 := by rw [← ar_0_10_1]; show v_ad (w_fd w2 _ _) = v_ad (w_fd w1 _ _); rw [s2.2]
  have cr_0_10 := fdq_9 hD hth r0
  have ar_0_12_1 : w_ar w1 (n_v vs 0) 12 = w_ar ws (n_v vs 0) 12 := congrArg v_ad (s1.2 _ _).symm
  have ar_0_12_2 : w_ar w2 (n_v vs 0) 12 = w_ar ws (n_v vs 0) 12 := by rw [← ar_0_12_1]; show v_ad (w_fd w2 _ _) = v_ad (w_fd w1 _ _); rw [s2.2]
  have cr_0_12 := fdq_226 hD hth r0
  have ar_5_13_1 : w_ar w1 (n_v vs 5) 13 = w_ar ws (n_v vs 5) 13 := congrArg v_ad (s1.2 _ _).symm
  have ar_5_13_2 : w_ar w2 (n_v vs 5) 13 = w_ar ws (n_v vs 5) 13 := by rw [← ar_5_13_1]; show v_ad (w_fd w2 _ _) = v_ad (w_fd w1 _ _); rw [s2.2]
  have cr_5_13 := fdq_88 hD hth r5
  have ad_17 : v_ad (n_v vs 17) = w_ar ws (n_v vs 0) 12 := congrArg v_ad f0
  simp only [ad_17] at f10
  have h10 : v_iv (n_v vs 22) = w_ei w1 (w_ar ws (n_v vs 0) 12) (v_iv (n_v vs 21)) := f10
  simp only [ar_5_13_1, ar_0_10_1, ad_17] at f12 f13 f16
  have h16 : v_iv (n_v vs 19) = w_ei w2 (w_ar ws (n_v vs 0) 12) (v_iv (n_v vs 18)) := f16
  simp only [ar_0_12_2, ar_5_13_2, ar_0_10_2] at f19 f20 f21 f22
  have hE_0_10_1 : ∀ j : Int, w_ei ws (w_ar ws (n_v vs 0) 10) j = w_ei w1 (w_ar ws (n_v vs 0) 10) j := el_kp s1.1 r17 cr_0_10 (by decide)
  have hE_0_10_2 : ∀ j : Int, w_ei w1 (w_ar ws (n_v vs 0) 10) j = w_ei w2 (w_ar ws (n_v vs 0) 10) j := el_kp s2.1 r17 cr_0_10 (by decide)
  have hK_0_10 := elq_138 hD hth cr_0_10
  have hE_0_12_1 : ∀ j : Int, 0 ≤ j → (j = v_iv (n_v vs 21) → w_ei ws (w_ar ws (n_v vs 0) 12) j = v_iv (n_v vs 23)) ∧ (j ≠ v_iv (n_v vs 21) → w_ei ws (w_ar ws (n_v vs 0) 12) j = w_ei w1 (w_ar ws (n_v vs 0) 12) j) := fun j hj => ⟨fun h => by unfold w_ei; rw [s1.1, if_pos ⟨ad_17.symm, by rw [h]⟩], fun h => by unfold w_ei; rw [s1.1, if_neg (fun e => h (by have := e.2; omega))]⟩
  have hE_0_12_2 : ∀ j : Int, 0 ≤ j → (j = v_iv (n_v vs 18) → w_ei w1 (w_ar ws (n_v vs 0) 12) j = v_iv (n_v vs 20)) ∧ (j ≠ v_iv (n_v vs 18) → w_ei w1 (w_ar ws (n_v vs 0) 12) j = w_ei w2 (w_ar ws (n_v vs 0) 12) j) := fun j hj => ⟨fun h => by unfold w_ei; rw [s2.1, if_pos ⟨ad_17.symm, by rw [h]⟩], fun h => by unfold w_ei; rw [s2.1, if_neg (fun e => h (by have := e.2; omega))]⟩
  have hK_0_12 := elq_139 hD hth cr_0_12
  have hE_5_13_1 : ∀ j : Int, w_ei ws (w_ar ws (n_v vs 5) 13) j = w_ei w1 (w_ar ws (n_v vs 5) 13) j := el_kp s1.1 r17 cr_5_13 (by decide)
  have hE_5_13_2 : ∀ j : Int, w_ei w1 (w_ar ws (n_v vs 5) 13) j = w_ei w2 (w_ar ws (n_v vs 5) 13) j := el_kp s2.1 r17 cr_5_13 (by decide)
  have hK_5_13 := elq_44 hD hth cr_5_13
  have nf0 : fc_1 PRD (20, [0], [60, 0, 1, 845, 12]) ws (vs) := ⟨nf_in hl rfl, sgq_885 (vc_Pl_layRow_13_0 (v_iv (n_v vs 1)) (v_iv (n_v vs 2)) (v_iv (n_v vs 3)) (v_iv (n_v vs 7)) (v_iv (n_v vs 8)) (v_iv (n_v vs 9)) (v_iv (n_v vs 11)) (v_iv (n_v vs 12)) (v_iv (n_v vs 13)) (v_iv (n_v vs 14)) (v_iv (n_v vs 15)) (v_iv (n_v vs 18)) (v_iv (n_v vs 19)) (v_iv (n_v vs 20)) (v_iv (n_v vs 21)) (v_iv (n_v vs 22)) (v_iv (n_v vs 23)) (w_ei ws (w_ar ws (n_v vs 5) 13)) (w_ei ws (w_ar ws (n_v vs 0) 10)) (w_ei w1 (w_ar ws (n_v vs 0) 12)) (w_ei w1 (w_ar ws (n_v vs 5) 13)) (w_ei w1 (w_ar ws (n_v vs 0) 10)) (w_ei w2 (w_ar ws (n_v vs 0) 12)) (w_ei w2 (w_ar ws (n_v vs 5) 13)) (w_ei w2 (w_ar ws (n_v vs 0) 10)) (w_ei ws (w_ar ws (n_v vs 0) 12)) k1 k2 k3 k7 k8 k9 k11 k12 k13 k14 k15 k18 k19 k20 k21 k22 k23 d0 d1 d2 d3 d4 d5 d6 d7 d8 d9 d10 d11 d12 d13 d14 d15 d16 d17 f1 f3 (shm_14 f9) h10 (shm_142 f11) f12 f13 (shm_12 f15) h16 (shm_142 f17) f18 f19 f20 f21 f22 hE_0_10_1 hE_0_10_2 hK_0_10 hE_0_12_1 hE_0_12_2 hK_0_12 hE_5_13_1 hE_5_13_2 hK_5_13)⟩
  have nf1 : fc_1 PRD (20, [5], [60, 0, 1, 844, 13]) ws (vs) := ⟨nf_in hl rfl, sgq_418 (vc_Pl_layRow_13_1 (v_iv (n_v vs 1)) (v_iv (n_v vs 2)) (v_iv (n_v vs 3)) (v_iv (n_v vs 7)) (v_iv (n_v vs 8)) (v_iv (n_v vs 9)) (v_iv (n_v vs 11)) (v_iv (n_v vs 12)) (v_iv (n_v vs 13)) (v_iv (n_v vs 14)) (v_iv (n_v vs 15)) (v_iv (n_v vs 18)) (v_iv (n_v vs 19)) (v_iv (n_v vs 20)) (v_iv (n_v vs 21)) (v_iv (n_v vs 22)) (v_iv (n_v vs 23)) (w_ei ws (w_ar ws (n_v vs 5) 13)) (w_ei ws (w_ar ws (n_v vs 0) 10)) (w_ei w1 (w_ar ws (n_v vs 0) 12)) (w_ei w1 (w_ar ws (n_v vs 5) 13)) (w_ei w1 (w_ar ws (n_v vs 0) 10)) (w_ei w2 (w_ar ws (n_v vs 0) 12)) (w_ei w2 (w_ar ws (n_v vs 5) 13)) (w_ei w2 (w_ar ws (n_v vs 0) 10)) (w_ei ws (w_ar ws (n_v vs 0) 12)) k1 k2 k3 k7 k8 k9 k11 k12 k13 k14 k15 k18 k19 k20 k21 k22 k23 d0 d1 d2 d3 d4 d5 d6 d7 d8 d9 d10 d11 d12 d13 d14 d15 d16 d17 f1 f3 (shm_14 f9) h10 (shm_142 f11) f12 f13 (shm_12 f15) h16 (shm_142 f17) f18 f19 f20 f21 f22 hE_0_10_1 hE_0_10_2 hK_0_10 hE_0_12_1 hE_0_12_2 hK_0_12 hE_5_13_1 hE_5_13_2 hK_5_13)⟩
  refine ⟨(fun _ h => (by cases h)), [], trivial, ?_, (fun _ h => (by cases h))⟩
  rw [List.append_nil]
  exact List.forall_mem_cons.mpr ⟨⟨show (20 : Nat) < 100 from by decide, nf0⟩, List.forall_mem_cons.mpr ⟨⟨show (20 : Nat) < 100 from by decide, nf1⟩, (fun _ h => (by cases h))⟩⟩
set_option maxHeartbeats 4000000 in
theorem vc_Pl_layRow_14_r0 (x1 : Int) (x2 : Int) (x3 : Int) (x7 : Int) (x8 : Int) (x9 : Int) (x11 : Int) (x12 : Int) (x13 : Int) (x14 : Int) (x15 : Int) (x18 : Int) (x19 : Int) (x20 : Int) (space_0 : Int → Int) (area_0o5 : Int → Int) (itemSize_0 : Int → Int) (k1 : 0 ≤ x1 ∧ x1 ≤ 31) (k2 : 1 ≤ x2 ∧ x2 ≤ 32) (k3 : 0 ≤ x3 ∧ x3 ≤ 0) (k7 : 0 ≤ x7 ∧ x7 ≤ 31) (k8 : 1 ≤ x8 ∧ x8 ≤ 32) (k9 : 0 ≤ x9 ∧ x9 ≤ 0) (k11 : 0 ≤ x11 ∧ x11 ≤ 0) (k12 : (-512) ≤ x12 ∧ x12 ≤ 512) (k13 : (-512) ≤ x13 ∧ x13 ≤ 512) (k14 : 0 ≤ x14 ∧ x14 ≤ 76800) (k15 : 0 ≤ x15 ∧ x15 ≤ 31) (k18 : 0 ≤ x18 ∧ x18 ≤ 0) (k19 : (-512) ≤ x19 ∧ x19 ≤ 512) (k20 : (-1024) ≤ x20 ∧ x20 ≤ 1024) (d0 : x13 + (-512) ≤ x20 ∧ x20 ≤ x13 + 512) (d1 : x19 + (-512) ≤ x20 ∧ x20 ≤ x19 + 512) (d2 : x8 + (-4294967296) ≤ x15 ∧ x15 ≤ x8 + (-1)) (d3 : x7 + (-4294967296) ≤ x1 ∧ x1 ≤ x7 + 0) (d4 : x15 + (-4294967296) ≤ x1 ∧ x1 ≤ x15 + 0) (d5 : x8 + (-4294967296) ≤ x2 ∧ x2 ≤ x8 + 0) (d6 : x1 + (-4294967296) ≤ x7 ∧ x7 ≤ x1 + 0) (d7 : x15 + (-4294967296) ≤ x7 ∧ x7 ≤ x15 + 0) (d8 : x2 + (-4294967296) ≤ x8 ∧ x8 ≤ x2 + 0) (f0 : x20 = x19 + x13) (h1 : x19 = space_0 (x18)) (f2 : x11 = 0) (f4 : x3 ≤ 0) (f5 : x15 < x2) (f6 : SPC (space_0)) (f7 : BXA (area_0o5)) (f9 : RWA (space_0) (x11) (x12) (x13)) (f10 : RWK (itemSize_0) (x1) (x2) (x3) (x15) (x14)) (hK_0_10 : ∀ j : Int, 0 ≤ j → j < 32 → 0 ≤ itemSize_0 j ∧ itemSize_0 j ≤ 2400) (hK_0_12 : ∀ j : Int, 0 ≤ j → j < 4 → (-512) ≤ space_0 j ∧ space_0 j ≤ 512) (hK_5_13 : ∀ j : Int, 0 ≤ j → j < 128 → (-512) ≤ area_0o5 j ∧ area_0o5 j ≤ 512) : 0 ≤ x20 ∧ x20 ≤ 512 := by
  first
    | omega
    | (rcases ‹RWA _ _ _ _› with ⟨t, _, b⟩ | ⟨t, _, b⟩
       · have e := ‹x19 = space_0 x18›
         rw [show x18 = 1 by omega] at e
         have g := hul_st (‹SPC _›).2 b rfl rfl
         unfold HUL at g
         omega
       · have e := ‹x19 = space_0 x18›
         rw [show x18 = 0 by omega] at e
         have g := hul_st (‹SPC _›).1 b rfl rfl
         unfold HUL at g
         omega)
    | (rcases ‹RWA _ _ _ _› with ⟨t, _, b⟩ | ⟨t, _, b⟩
       · exfalso; omega
       · have e := ‹x19 = space_0 x18›
         rw [show x18 = 0 by omega] at e
         have g := hul_st (‹SPC _›).1 b rfl rfl
         unfold HUL at g
         omega)
    | (rcases ‹RWA _ _ _ _› with ⟨t, _, b⟩ | ⟨t, _, b⟩
       · have e := ‹x19 = space_0 x18›
         rw [show x18 = 1 by omega] at e
         have g := hul_st (‹SPC _›).2 b rfl rfl
         unfold HUL at g
         omega
       · exfalso; omega)
  
def o_Pl_layRow_14 : or_T := (225, 21, [(0, (2, 0, 0, [6])), (1, (0, 0, 31, [])), (2, (0, 1, 32, [])), (3, (0, 0, 0, [])), (5, (2, 0, 0, [0])), (6, (2, 0, 0, [6])), (7, (0, 0, 31, [])), (8, (0, 1, 32, [])), (9, (0, 0, 0, [])), (11, (0, 0, 0, [])), (12, (0, -512, 512, [])), (13, (0, -512, 512, [])), (14, (0, 0, 76800, [])), (15, (0, 0, 31, [])), (16, (2, 0, 0, [0])), (17, (2, 0, 0, [97])), (18, (0, 0, 0, [])), (19, (0, -512, 512, [])), (20, (0, -1024, 1024, []))], [(1, [20, 19, 13], []), (10, [19, 17, 18], []), (8, [11], [0]), (9, [17, 6], [12]), (8, [9], [5]), (7, [15, 8], [2]), (20, [6], [60, 0, 1, 845, 12]), (20, [16], [60, 0, 1, 844, 13]), (24, [5, 16], []), (20, [6, 11, 12, 13], [60, 0, 1, 851, 12]), (20, [6, 7, 8, 9, 15, 14], [60, 0, 1, 849, 10]), (24, [0, 6], []), (24, [1, 7], []), (24, [2, 8], []), (24, [3, 9], [])], [(20, (0, 0, 512, []))], [], [], [], [(20, 13, -512, 512), (20, 19, -512, 512), (15, 8, -4294967296, -1), (1, 7, -4294967296, 0), (1, 15, -4294967296, 0), (2, 8, -4294967296, 0), (7, 1, -4294967296, 0), (7, 15, -4294967296, 0), (8, 2, -4294967296, 0)])
theorem oo_Pl_layRow_14 {kA : Nat → ClassId} : or_ok PRD kA GG o_Pl_layRow_14 := by
  refine or_mk fun A ta ws vs hD hth hl => ?_
  intro t0 r0 t1 k1 t2 k2 t3 k3 t5 r5 t6 r6 t7 k7 t8 k8 t9 k9 t11 k11 t12 k12 t13 k13 t14 k14 t15 k15 t16 r16 t17 r17 t18 k18 t19 k19 t20 k20 d0 d1 d2 d3 d4 d5 d6 d7 d8 f0 f1 f2 f3 f4 f5 f6 f7 f8 f9 f10 f11 f12 f13 f14
  replace f1 := shm_107 f1
  replace f3 := shm_103 f3
  replace f4 := shm_295 f4
  replace f5 := shm_6 f5
  replace f6 := shm_885 f6
  replace f7 := shm_418 f7
  replace f8 := shm_5 f8
  replace f9 := shm_887 f9
  replace f10 := shm_889 f10
  replace f11 := shm_5 f11
  replace f12 := shm_5 f12
  replace f13 := shm_5 f13
  replace f14 := shm_5 f14
  have q16 : n_v vs 16 = n_v vs 5 := f8.symm
  have q6 : n_v vs 6 = n_v vs 0 := f11.symm
  have q7 : n_v vs 7 = n_v vs 1 := f12.symm
  have q8 : n_v vs 8 = n_v vs 2 := f13.symm
  have q9 : n_v vs 9 = n_v vs 3 := f14.symm
  simp only [q6, q9, q8, q16, q7] at f3 f4 f5 f6 f7 f9 f10
  have cr_0_10 := fdq_9 hD hth r0
  have cr_0_12 := fdq_226 hD hth r0
  have cr_5_13 := fdq_88 hD hth r5
  have ad_17 : v_ad (n_v vs 17) = w_ar ws (n_v vs 0) 12 := congrArg v_ad f3
  simp only [ad_17] at f1
  have h1 : v_iv (n_v vs 19) = w_ei ws (w_ar ws (n_v vs 0) 12) (v_iv (n_v vs 18)) := f1
  have hK_0_10 := elq_138 hD hth cr_0_10
  have hK_0_12 := elq_139 hD hth cr_0_12
  have hK_5_13 := elq_44 hD hth cr_5_13
  have hrf0 : 0 ≤ v_iv (n_v vs 20) ∧ v_iv (n_v vs 20) ≤ 512 := vc_Pl_layRow_14_r0 (v_iv (n_v vs 1)) (v_iv (n_v vs 2)) (v_iv (n_v vs 3)) (v_iv (n_v vs 7)) (v_iv (n_v vs 8)) (v_iv (n_v vs 9)) (v_iv (n_v vs 11)) (v_iv (n_v vs 12)) (v_iv (n_v vs 13)) (v_iv (n_v vs 14)) (v_iv (n_v vs 15)) (v_iv (n_v vs 18)) (v_iv (n_v vs 19)) (v_iv (n_v vs 20)) (w_ei ws (w_ar ws (n_v vs 0) 12)) (w_ei ws (w_ar ws (n_v vs 5) 13)) (w_ei ws (w_ar ws (n_v vs 0) 10)) k1 k2 k3 k7 k8 k9 k11 k12 k13 k14 k15 k18 k19 k20 d0 d1 d2 d3 d4 d5 d6 d7 d8 (shm_12 f0) h1 (shm_192 f2) f4 f5 f6 f7 f9 f10 hK_0_10 hK_0_12 hK_5_13
  have rf20 : tv_ok ta (0, 0, 512, []) (n_v vs 20) := tv_in t20 (by first | omega | grind) (by first | omega | grind)
  refine ⟨List.forall_mem_cons.mpr ⟨rf20, (fun _ h => (by cases h))⟩, [], trivial, ?_, (fun _ h => (by cases h))⟩
  rw [List.append_nil]
  exact (fun _ h => (by cases h))
set_option maxHeartbeats 4000000 in
theorem vc_Pl_layRow_15_r0 (x1 : Int) (x2 : Int) (x3 : Int) (x7 : Int) (x8 : Int) (x9 : Int) (x11 : Int) (x12 : Int) (x13 : Int) (x14 : Int) (x15 : Int) (x18 : Int) (x19 : Int) (x20 : Int) (x21 : Int) (x22 : Int) (x23 : Int) (space_0 : Int → Int) (area_0o5 : Int → Int) (itemSize_0 : Int → Int) (space_1 : Int → Int) (area_1o5 : Int → Int) (itemSize_1 : Int → Int) (k1 : 0 ≤ x1 ∧ x1 ≤ 31) (k2 : 1 ≤ x2 ∧ x2 ≤ 32) (k3 : 0 ≤ x3 ∧ x3 ≤ 0) (k7 : 0 ≤ x7 ∧ x7 ≤ 31) (k8 : 1 ≤ x8 ∧ x8 ≤ 32) (k9 : 0 ≤ x9 ∧ x9 ≤ 0) (k11 : 0 ≤ x11 ∧ x11 ≤ 0) (k12 : (-512) ≤ x12 ∧ x12 ≤ 512) (k13 : (-512) ≤ x13 ∧ x13 ≤ 512) (k14 : 0 ≤ x14 ∧ x14 ≤ 76800) (k15 : 0 ≤ x15 ∧ x15 ≤ 31) (k18 : 0 ≤ x18 ∧ x18 ≤ 0) (k19 : (-512) ≤ x19 ∧ x19 ≤ 512) (k20 : 0 ≤ x20 ∧ x20 ≤ 512) (k21 : 2 ≤ x21 ∧ x21 ≤ 2) (k22 : (-512) ≤ x22 ∧ x22 ≤ 512) (k23 : (-1024) ≤ x23 ∧ x23 ≤ 1024) (d0 : x22 + (-512) ≤ x23 ∧ x23 ≤ x22 + 512) (d1 : x13 + (-512) ≤ x20 ∧ x20 ≤ x13 + 512) (d2 : x19 + (-512) ≤ x20 ∧ x20 ≤ x19 + 512) (d3 : x8 + (-4294967296) ≤ x15 ∧ x15 ≤ x8 + (-1)) (d4 : x7 + (-4294967296) ≤ x1 ∧ x1 ≤ x7 + 0) (d5 : x15 + (-4294967296) ≤ x1 ∧ x1 ≤ x15 + 0) (d6 : x8 + (-4294967296) ≤ x2 ∧ x2 ≤ x8 + 0) (d7 : x1 + (-4294967296) ≤ x7 ∧ x7 ≤ x1 + 0) (d8 : x15 + (-4294967296) ≤ x7 ∧ x7 ≤ x15 + 0) (d9 : x2 + (-4294967296) ≤ x8 ∧ x8 ≤ x2 + 0) (f0 : x23 = x22 - x13) (h1 : x22 = space_0 (x21)) (f2 : x11 = 0) (f4 : BXA (area_0o5)) (f6 : RWK (itemSize_0) (x1) (x2) (x3) (x15) (x14)) (f12 : x20 = x19 + x13) (h13 : x19 = space_1 (x18)) (f14 : x11 = 0) (f15 : x3 ≤ 0) (f16 : x15 < x2) (f17 : SPC (space_1)) (f18 : BXA (area_1o5)) (f19 : RWA (space_1) (x11) (x12) (x13)) (f20 : RWK (itemSize_1) (x1) (x2) (x3) (x15) (x14)) (hE_0_10_1 : ∀ j : Int, itemSize_0 j = itemSize_1 j) (hK_0_10 : ∀ j : Int, 0 ≤ j → j < 32 → 0 ≤ itemSize_0 j ∧ itemSize_0 j ≤ 2400) (hE_0_12_1 : ∀ j : Int, 0 ≤ j → (j = x18 → space_0 j = x20) ∧ (j ≠ x18 → space_0 j = space_1 j)) (hK_0_12 : ∀ j : Int, 0 ≤ j → j < 4 → (-512) ≤ space_0 j ∧ space_0 j ≤ 512) (hE_5_13_1 : ∀ j : Int, area_0o5 j = area_1o5 j) (hK_5_13 : ∀ j : Int, 0 ≤ j → j < 128 → (-512) ≤ area_0o5 j ∧ area_0o5 j ≤ 512) : (-512) ≤ x23 ∧ x23 ≤ 512 := by
  have e_hE_0_10_1 := funext hE_0_10_1; subst e_hE_0_10_1
  have e_hE_5_13_1 := funext hE_5_13_1; subst e_hE_5_13_1
  first
    | omega
    | (rcases ‹RWA _ _ _ _› with ⟨t, _, b⟩ | ⟨t, _, b⟩
       · exfalso; omega
       · have e := ‹x22 = space_0 x21›
         rw [show x21 = 2 by omega, (hE_0_12_1 2 (by omega)).2 (by omega)] at e
         have g := hul_st (‹SPC _›).1 b rfl rfl
         unfold HUL at g
         omega)
    | (rcases ‹RWA _ _ _ _› with ⟨t, _, b⟩ | ⟨t, _, b⟩
       · have e := ‹x22 = space_0 x21›
         rw [show x21 = 3 by omega, (hE_0_12_1 3 (by omega)).2 (by omega)] at e
         have g := hul_st (‹SPC _›).2 b rfl rfl
         unfold HUL at g
         omega
       · exfalso; omega)
  
def o_Pl_layRow_15 : or_T := (245, 24, [(0, (2, 0, 0, [6])), (1, (0, 0, 31, [])), (2, (0, 1, 32, [])), (3, (0, 0, 0, [])), (5, (2, 0, 0, [0])), (6, (2, 0, 0, [6])), (7, (0, 0, 31, [])), (8, (0, 1, 32, [])), (9, (0, 0, 0, [])), (11, (0, 0, 0, [])), (12, (0, -512, 512, [])), (13, (0, -512, 512, [])), (14, (0, 0, 76800, [])), (15, (0, 0, 31, [])), (16, (2, 0, 0, [0])), (17, (2, 0, 0, [97])), (18, (0, 0, 0, [])), (19, (0, -512, 512, [])), (20, (0, 0, 512, [])), (21, (0, 2, 2, [])), (22, (0, -512, 512, [])), (23, (0, -1024, 1024, []))], [(2, [23, 22, 13], []), (10, [22, 17, 21], []), (8, [11], [0]), (9, [17, 6], [12]), (20, [16], [60, 0, 1, 844, 13]), (24, [5, 16], []), (20, [6, 7, 8, 9, 15, 14], [60, 0, 1, 849, 10]), (24, [0, 6], []), (24, [1, 7], []), (24, [2, 8], []), (24, [3, 9], []), (100, [17, 18, 20], []), (1, [20, 19, 13], []), (10, [19, 17, 18], []), (8, [11], [0]), (8, [9], [5]), (7, [15, 8], [2]), (20, [6], [60, 0, 1, 845, 12]), (20, [16], [60, 0, 1, 844, 13]), (20, [6, 11, 12, 13], [60, 0, 1, 851, 12]), (20, [6, 7, 8, 9, 15, 14], [60, 0, 1, 849, 10])], [(23, (0, -512, 512, []))], [], [], [], [(23, 22, -512, 512), (20, 13, -512, 512), (20, 19, -512, 512), (15, 8, -4294967296, -1), (1, 7, -4294967296, 0), (1, 15, -4294967296, 0), (2, 8, -4294967296, 0), (7, 1, -4294967296, 0), (7, 15, -4294967296, 0), (8, 2, -4294967296, 0)])
theorem oo_Pl_layRow_15 {kA : Nat → ClassId} : or_ok PRD kA GG o_Pl_layRow_15 := by
  refine or_mk fun A ta ws vs hD hth hl => ?_
  intro t0 r0 t1 k1 t2 k2 t3 k3 t5 r5 t6 r6 t7 k7 t8 k8 t9 k9 t11 k11 t12 k12 t13 k13 t14 k14 t15 k15 t16 r16 t17 r17 t18 k18 t19 k19 t20 k20 t21 k21 t22 k22 t23 k23 d0 d1 d2 d3 d4 d5 d6 d7 d8 d9 f0 f1 f2 f3 f4 f5 f6 f7 f8 f9 f10 ta1 w1 le1 s1 f12 f13 f14 f15 f16 f17 f18 f19 f20
  replace f1 := shm_107 f1
  replace f3 := shm_103 f3
  replace f4 := shm_418 f4
  replace f5 := shm_5 f5
  replace f6 := shm_889 f6
  replace f7 := shm_5 f7
  replace f8 := shm_5 f8
  replace f9 := shm_5 f9
  replace f10 := shm_5 f10
  have s1 : (∀ b j, w_el ws b j = if b = v_ad (n_v vs 17) ∧ j = (v_iv (n_v vs 18)).toNat then v_iv (n_v vs 20) else w_el w1 b j) ∧ ∀ b k, w_fd ws b k = w_fd w1 b k := s1.2
  replace f13 := shm_107 f13
  replace f15 := shm_295 f15
  replace f16 := shm_6 f16
  replace f17 := shm_885 f17
  replace f18 := shm_418 f18
  replace f19 := shm_887 f19
  replace f20 := shm_889 f20
  have q16 : n_v vs 16 = n_v vs 5 := f5.symm
  have q6 : n_v vs 6 = n_v vs 0 := f7.symm
  have q7 : n_v vs 7 = n_v vs 1 := f8.symm
  have q8 : n_v vs 8 = n_v vs 2 := f9.symm
  have q9 : n_v vs 9 = n_v vs 3 := f10.symm
  simp only [q6, q16, q7, q8, q9] at f3 f4 f6 f15 f16 f17 f18 f19 f20
  have ar_0_10_1 : w_ar w1 (n_v vs 0) 10 = w_ar ws (n_v vs 0) 10 := congrArg v_ad (s1.2 _ _).symm
  have cr_0_10 := fdq_9 hD hth r0
  have ar_0_12_1 : w_ar w1 (n_v vs 0) 12 = w_ar ws (n_v vs 0) 12 := congrArg v_ad (s1.2 _ _).symm
  have cr_0_12 := fdq_226 hD hth r0
  have ar_5_13_1 : w_ar w1 (n_v vs 5) 13 = w_ar ws (n_v vs 5) 13 := congrArg v_ad (s1.2 _ _).symm
  have cr_5_13 := fdq_88 hD hth r5
  have ad_17 : v_ad (n_v vs 17) = w_ar ws (n_v vs 0) 12 := congrArg v_ad f3
  simp only [ad_17] at f1
  have h1 : v_iv (n_v vs 22) = w_ei ws (w_ar ws (n_v vs 0) 12) (v_iv (n_v vs 21)) := f1
  simp only [ad_17] at f13
  have h13 : v_iv (n_v vs 19) = w_ei w1 (w_ar ws (n_v vs 0) 12) (v_iv (n_v vs 18)) := f13
  simp only [ar_0_12_1, ar_5_13_1, ar_0_10_1] at f17 f18 f19 f20
  have hE_0_10_1 : ∀ j : Int, w_ei ws (w_ar ws (n_v vs 0) 10) j = w_ei w1 (w_ar ws (n_v vs 0) 10) j := el_kp s1.1 r17 cr_0_10 (by decide)
  have hK_0_10 := elq_138 hD hth cr_0_10
  have hE_0_12_1 : ∀ j : Int, 0 ≤ j → (j = v_iv (n_v vs 18) → w_ei ws (w_ar ws (n_v vs 0) 12) j = v_iv (n_v vs 20)) ∧ (j ≠ v_iv (n_v vs 18) → w_ei ws (w_ar ws (n_v vs 0) 12) j = w_ei w1 (w_ar ws (n_v vs 0) 12) j) := fun j hj => ⟨fun h => by unfold w_ei; rw [s1.1, if_pos ⟨ad_17.symm, by rw [h]⟩], fun h => by unfold w_ei; rw [s1.1, if_neg (fun e => h (by have := e.2; omega))]⟩
  have hK_0_12 := elq_139 hD hth cr_0_12
  have hE_5_13_1 : ∀ j : Int, w_ei ws (w_ar ws (n_v vs 5) 13) j = w_ei w1 (w_ar ws (n_v vs 5) 13) j := el_kp s1.1 r17 cr_5_13 (by decide)
  have hK_5_13 := elq_44 hD hth cr_5_13
  have hrf0 : (-512) ≤ v_iv (n_v vs 23) ∧ v_iv (n_v vs 23) ≤ 512 := vc_Pl_layRow_15_r0 (v_iv (n_v vs 1)) (v_iv (n_v vs 2)) (v_iv (n_v vs 3)) (v_iv (n_v vs 7)) (v_iv (n_v vs 8)) (v_iv (n_v vs 9)) (v_iv (n_v vs 11)) (v_iv (n_v vs 12)) (v_iv (n_v vs 13)) (v_iv (n_v vs 14)) (v_iv (n_v vs 15)) (v_iv (n_v vs 18)) (v_iv (n_v vs 19)) (v_iv (n_v vs 20)) (v_iv (n_v vs 21)) (v_iv (n_v vs 22)) (v_iv (n_v vs 23)) (w_ei ws (w_ar ws (n_v vs 0) 12)) (w_ei ws (w_ar ws (n_v vs 5) 13)) (w_ei ws (w_ar ws (n_v vs 0) 10)) (w_ei w1 (w_ar ws (n_v vs 0) 12)) (w_ei w1 (w_ar ws (n_v vs 5) 13)) (w_ei w1 (w_ar ws (n_v vs 0) 10)) k1 k2 k3 k7 k8 k9 k11 k12 k13 k14 k15 k18 k19 k20 k21 k22 k23 d0 d1 d2 d3 d4 d5 d6 d7 d8 d9 (shm_14 f0) h1 (shm_192 f2) f4 f6 (shm_12 f12) h13 (shm_192 f14) f15 f16 f17 f18 f19 f20 hE_0_10_1 hK_0_10 hE_0_12_1 hK_0_12 hE_5_13_1 hK_5_13
  have rf23 : tv_ok ta (0, -512, 512, []) (n_v vs 23) := tv_in t23 (by first | omega | grind) (by first | omega | grind)
  refine ⟨List.forall_mem_cons.mpr ⟨rf23, (fun _ h => (by cases h))⟩, [], trivial, ?_, (fun _ h => (by cases h))⟩
  rw [List.append_nil]
  exact (fun _ h => (by cases h))
set_option maxHeartbeats 4000000 in
theorem vc_Pl_layRow_16_0 (x1 : Int) (x2 : Int) (x3 : Int) (x7 : Int) (x8 : Int) (x9 : Int) (x11 : Int) (x12 : Int) (x13 : Int) (x14 : Int) (x15 : Int) (x18 : Int) (x19 : Int) (x20 : Int) (x21 : Int) (x22 : Int) (x23 : Int) (area_0o5 : Int → Int) (itemSize_0 : Int → Int) (space_1 : Int → Int) (area_1o5 : Int → Int) (itemSize_1 : Int → Int) (space_2 : Int → Int) (area_2o5 : Int → Int) (itemSize_2 : Int → Int) (space_0 : Int → Int) (k1 : 0 ≤ x1 ∧ x1 ≤ 31) (k2 : 1 ≤ x2 ∧ x2 ≤ 32) (k3 : 0 ≤ x3 ∧ x3 ≤ 0) (k7 : 0 ≤ x7 ∧ x7 ≤ 31) (k8 : 1 ≤ x8 ∧ x8 ≤ 32) (k9 : 0 ≤ x9 ∧ x9 ≤ 0) (k11 : 0 ≤ x11 ∧ x11 ≤ 0) (k12 : (-512) ≤ x12 ∧ x12 ≤ 512) (k13 : (-512) ≤ x13 ∧ x13 ≤ 512) (k14 : 0 ≤ x14 ∧ x14 ≤ 76800) (k15 : 0 ≤ x15 ∧ x15 ≤ 31) (k18 : 0 ≤ x18 ∧ x18 ≤ 0) (k19 : (-512) ≤ x19 ∧ x19 ≤ 512) (k20 : 0 ≤ x20 ∧ x20 ≤ 512) (k21 : 2 ≤ x21 ∧ x21 ≤ 2) (k22 : (-512) ≤ x22 ∧ x22 ≤ 512) (k23 : (-512) ≤ x23 ∧ x23 ≤ 512) (d0 : x22 + (-512) ≤ x23 ∧ x23 ≤ x22 + 512) (d1 : x13 + (-512) ≤ x20 ∧ x20 ≤ x13 + 512) (d2 : x19 + (-512) ≤ x20 ∧ x20 ≤ x19 + 512) (d3 : x8 + (-4294967296) ≤ x15 ∧ x15 ≤ x8 + (-1)) (d4 : x7 + (-4294967296) ≤ x1 ∧ x1 ≤ x7 + 0) (d5 : x15 + (-4294967296) ≤ x1 ∧ x1 ≤ x15 + 0) (d6 : x8 + (-4294967296) ≤ x2 ∧ x2 ≤ x8 + 0) (d7 : x1 + (-4294967296) ≤ x7 ∧ x7 ≤ x1 + 0) (d8 : x15 + (-4294967296) ≤ x7 ∧ x7 ≤ x15 + 0) (d9 : x2 + (-4294967296) ≤ x8 ∧ x8 ≤ x2 + 0) (f1 : BXA (area_0o5)) (f3 : RWK (itemSize_0) (x1) (x2) (x3) (x15) (x14)) (f9 : x23 = x22 - x13) (h10 : x22 = space_1 (x21)) (f11 : x11 = 0) (f12 : BXA (area_1o5)) (f13 : RWK (itemSize_1) (x1) (x2) (x3) (x15) (x14)) (f15 : x20 = x19 + x13) (h16 : x19 = space_2 (x18)) (f17 : x11 = 0) (f18 : x3 ≤ 0) (f19 : x15 < x2) (f20 : SPC (space_2)) (f21 : BXA (area_2o5)) (f22 : RWA (space_2) (x11) (x12) (x13)) (f23 : RWK (itemSize_2) (x1) (x2) (x3) (x15) (x14)) (hE_0_10_1 : ∀ j : Int, itemSize_0 j = itemSize_1 j) (hE_0_10_2 : ∀ j : Int, itemSize_1 j = itemSize_2 j) (hK_0_10 : ∀ j : Int, 0 ≤ j → j < 32 → 0 ≤ itemSize_0 j ∧ itemSize_0 j ≤ 2400) (hE_0_12_1 : ∀ j : Int, 0 ≤ j → (j = x21 → space_0 j = x23) ∧ (j ≠ x21 → space_0 j = space_1 j)) (hE_0_12_2 : ∀ j : Int, 0 ≤ j → (j = x18 → space_1 j = x20) ∧ (j ≠ x18 → space_1 j = space_2 j)) (hK_0_12 : ∀ j : Int, 0 ≤ j → j < 4 → (-512) ≤ space_0 j ∧ space_0 j ≤ 512) (hE_5_13_1 : ∀ j : Int, area_0o5 j = area_1o5 j) (hE_5_13_2 : ∀ j : Int, area_1o5 j = area_2o5 j) (hK_5_13 : ∀ j : Int, 0 ≤ j → j < 128 → (-512) ≤ area_0o5 j ∧ area_0o5 j ≤ 512) : SPC (space_0) := by
  have e_hE_0_10_1 := funext hE_0_10_1; subst e_hE_0_10_1
  have e_hE_0_10_2 := funext hE_0_10_2; subst e_hE_0_10_2
  have e_hE_5_13_1 := funext hE_5_13_1; subst e_hE_5_13_1
  have e_hE_5_13_2 := funext hE_5_13_2; subst e_hE_5_13_2
  first
    | assumption
    | (rcases ‹RWA _ _ _ _› with ⟨t, _, b⟩ | ⟨t, _, b⟩
       · exfalso; omega
       · exact spc_side (a := x19) (b := x22) ‹SPC _› b hE_0_12_2 hE_0_12_1 (by omega) (by omega) (by rw [‹x19 = space_2 x18›, show x18 = 0 by omega]) (by assumption) (by rw [‹x22 = space_1 x21›, show x21 = 2 by omega]) (by assumption))
    | (rcases ‹RWA _ _ _ _› with ⟨t, _, b⟩ | ⟨t, _, b⟩
       · exact spc_top (a := x19) (b := x22) ‹SPC _› b hE_0_12_2 hE_0_12_1 (by omega) (by omega) (by rw [‹x19 = space_2 x18›, show x18 = 1 by omega]) (by assumption) (by rw [‹x22 = space_1 x21›, show x21 = 3 by omega]) (by assumption)
       · exfalso; omega)
  
set_option maxHeartbeats 4000000 in
theorem vc_Pl_layRow_16_1 (x1 : Int) (x2 : Int) (x3 : Int) (x7 : Int) (x8 : Int) (x9 : Int) (x11 : Int) (x12 : Int) (x13 : Int) (x14 : Int) (x15 : Int) (x18 : Int) (x19 : Int) (x20 : Int) (x21 : Int) (x22 : Int) (x23 : Int) (area_0o5 : Int → Int) (itemSize_0 : Int → Int) (space_1 : Int → Int) (area_1o5 : Int → Int) (itemSize_1 : Int → Int) (space_2 : Int → Int) (area_2o5 : Int → Int) (itemSize_2 : Int → Int) (space_0 : Int → Int) (k1 : 0 ≤ x1 ∧ x1 ≤ 31) (k2 : 1 ≤ x2 ∧ x2 ≤ 32) (k3 : 0 ≤ x3 ∧ x3 ≤ 0) (k7 : 0 ≤ x7 ∧ x7 ≤ 31) (k8 : 1 ≤ x8 ∧ x8 ≤ 32) (k9 : 0 ≤ x9 ∧ x9 ≤ 0) (k11 : 0 ≤ x11 ∧ x11 ≤ 0) (k12 : (-512) ≤ x12 ∧ x12 ≤ 512) (k13 : (-512) ≤ x13 ∧ x13 ≤ 512) (k14 : 0 ≤ x14 ∧ x14 ≤ 76800) (k15 : 0 ≤ x15 ∧ x15 ≤ 31) (k18 : 0 ≤ x18 ∧ x18 ≤ 0) (k19 : (-512) ≤ x19 ∧ x19 ≤ 512) (k20 : 0 ≤ x20 ∧ x20 ≤ 512) (k21 : 2 ≤ x21 ∧ x21 ≤ 2) (k22 : (-512) ≤ x22 ∧ x22 ≤ 512) (k23 : (-512) ≤ x23 ∧ x23 ≤ 512) (d0 : x22 + (-512) ≤ x23 ∧ x23 ≤ x22 + 512) (d1 : x13 + (-512) ≤ x20 ∧ x20 ≤ x13 + 512) (d2 : x19 + (-512) ≤ x20 ∧ x20 ≤ x19 + 512) (d3 : x8 + (-4294967296) ≤ x15 ∧ x15 ≤ x8 + (-1)) (d4 : x7 + (-4294967296) ≤ x1 ∧ x1 ≤ x7 + 0) (d5 : x15 + (-4294967296) ≤ x1 ∧ x1 ≤ x15 + 0) (d6 : x8 + (-4294967296) ≤ x2 ∧ x2 ≤ x8 + 0) (d7 : x1 + (-4294967296) ≤ x7 ∧ x7 ≤ x1 + 0) (d8 : x15 + (-4294967296) ≤ x7 ∧ x7 ≤ x15 + 0) (d9 : x2 + (-4294967296) ≤ x8 ∧ x8 ≤ x2 + 0) (f1 : BXA (area_0o5)) (f3 : RWK (itemSize_0) (x1) (x2) (x3) (x15) (x14)) (f9 : x23 = x22 - x13) (h10 : x22 = space_1 (x21)) (f11 : x11 = 0) (f12 : BXA (area_1o5)) (f13 : RWK (itemSize_1) (x1) (x2) (x3) (x15) (x14)) (f15 : x20 = x19 + x13) (h16 : x19 = space_2 (x18)) (f17 : x11 = 0) (f18 : x3 ≤ 0) (f19 : x15 < x2) (f20 : SPC (space_2)) (f21 : BXA (area_2o5)) (f22 : RWA (space_2) (x11) (x12) (x13)) (f23 : RWK (itemSize_2) (x1) (x2) (x3) (x15) (x14)) (hE_0_10_1 : ∀ j : Int, itemSize_0 j = itemSize_1 j) (hE_0_10_2 : ∀ j : Int, itemSize_1 j = itemSize_2 j) (hK_0_10 : ∀ j : Int, 0 ≤ j → j < 32 → 0 ≤ itemSize_0 j ∧ itemSize_0 j ≤ 2400) (hE_0_12_1 : ∀ j : Int, 0 ≤ j → (j = x21 → space_0 j = x23) ∧ (j ≠ x21 → space_0 j = space_1 j)) (hE_0_12_2 : ∀ j : Int, 0 ≤ j → (j = x18 → space_1 j = x20) ∧ (j ≠ x18 → space_1 j = space_2 j)) (hK_0_12 : ∀ j : Int, 0 ≤ j → j < 4 → (-512) ≤ space_0 j ∧ space_0 j ≤ 512) (hE_5_13_1 : ∀ j : Int, area_0o5 j = area_1o5 j) (hE_5_13_2 : ∀ j : Int, area_1o5 j = area_2o5 j) (hK_5_13 : ∀ j : Int, 0 ≤ j → j < 128 → (-512) ≤ area_0o5 j ∧ area_0o5 j ≤ 512) : BXA (area_0o5) := by
  have e_hE_0_10_1 := funext hE_0_10_1; subst e_hE_0_10_1
  have e_hE_0_10_2 := funext hE_0_10_2; subst e_hE_0_10_2
  have e_hE_5_13_1 := funext hE_5_13_1; subst e_hE_5_13_1
  have e_hE_5_13_2 := funext hE_5_13_2; subst e_hE_5_13_2
  first
    | assumption
  
def o_Pl_layRow_16 : or_T := (246, 24, [(0, (2, 0, 0, [6])), (1, (0, 0, 31, [])), (2, (0, 1, 32, [])), (3, (0, 0, 0, [])), (5, (2, 0, 0, [0])), (6, (2, 0, 0, [6])), (7, (0, 0, 31, [])), (8, (0, 1, 32, [])), (9, (0, 0, 0, [])), (11, (0, 0, 0, [])), (12, (0, -512, 512, [])), (13, (0, -512, 512, [])), (14, (0, 0, 76800, [])), (15, (0, 0, 31, [])), (16, (2, 0, 0, [0])), (17, (2, 0, 0, [97])), (18, (0, 0, 0, [])), (19, (0, -512, 512, [])), (20, (0, 0, 512, [])), (21, (0, 2, 2, [])), (22, (0, -512, 512, [])), (23, (0, -512, 512, []))], [(9, [17, 6], [12]), (20, [16], [60, 0, 1, 844, 13]), (24, [5, 16], []), (20, [6, 7, 8, 9, 15, 14], [60, 0, 1, 849, 10]), (24, [0, 6], []), (24, [1, 7], []), (24, [2, 8], []), (24, [3, 9], []), (100, [17, 21, 23], []), (2, [23, 22, 13], []), (10, [22, 17, 21], []), (8, [11], [0]), (20, [16], [60, 0, 1, 844, 13]), (20, [6, 7, 8, 9, 15, 14], [60, 0, 1, 849, 10]), (100, [17, 18, 20], []), (1, [20, 19, 13], []), (10, [19, 17, 18], []), (8, [11], [0]), (8, [9], [5]), (7, [15, 8], [2]), (20, [6], [60, 0, 1, 845, 12]), (20, [16], [60, 0, 1, 844, 13]), (20, [6, 11, 12, 13], [60, 0, 1, 851, 12]), (20, [6, 7, 8, 9, 15, 14], [60, 0, 1, 849, 10])], [], [], [(20, [0], [60, 0, 1, 845, 12]), (20, [5], [60, 0, 1, 844, 13])], [], [(23, 22, -512, 512), (20, 13, -512, 512), (20, 19, -512, 512), (15, 8, -4294967296, -1), (1, 7, -4294967296, 0), (1, 15, -4294967296, 0), (2, 8, -4294967296, 0), (7, 1, -4294967296, 0), (7, 15, -4294967296, 0), (8, 2, -4294967296, 0)])
theorem oo_Pl_layRow_16 {kA : Nat → ClassId} : or_ok PRD kA GG o_Pl_layRow_16 := by
  refine or_mk fun A ta ws vs hD hth hl => ?_
  intro t0 r0 t1 k1 t2 k2 t3 k3 t5 r5 t6 r6 t7 k7 t8 k8 t9 k9 t11 k11 t12 k12 t13 k13 t14 k14 t15 k15 t16 r16 t17 r17 t18 k18 t19 k19 t20 k20 t21 k21 t22 k22 t23 k23 d0 d1 d2 d3 d4 d5 d6 d7 d8 d9 f0 f1 f2 f3 f4 f5 f6 f7 ta1 w1 le1 s1 f9 f10 f11 f12 f13 ta2 w2 le2 s2 f15 f16 f17 f18 f19 f20 f21 f22 f23
  replace f0 := shm_103 f0
  replace f1 := shm_418 f1
  replace f2 := shm_5 f2
  replace f3 := shm_889 f3
  replace f4 := shm_5 f4
  replace f5 := shm_5 f5
  replace f6 := shm_5 f6
  replace f7 := shm_5 f7
  have s1 : (∀ b j, w_el ws b j = if b = v_ad (n_v vs 17) ∧ j = (v_iv (n_v vs 21)).toNat then v_iv (n_v vs 23) else w_el w1 b j) ∧ ∀ b k, w_fd ws b k = w_fd w1 b k := s1.2
  replace f10 := shm_107 f10
  replace f12 := shm_418 f12
  replace f13 := shm_889 f13
  have s2 : (∀ b j, w_el w1 b j = if b = v_ad (n_v vs 17) ∧ j = (v_iv (n_v vs 18)).toNat then v_iv (n_v vs 20) else w_el w2 b j) ∧ ∀ b k, w_fd w1 b k = w_fd w2 b k := s2.2
  replace f16 := shm_107 f16
  replace f18 := shm_295 f18
  replace f19 := shm_6 f19
  replace f20 := shm_885 f20
  replace f21 := shm_418 f21
  replace f22 := shm_887 f22
  replace f23 := shm_889 f23
  have q16 : n_v vs 16 = n_v vs 5 := f2.symm
  have q6 : n_v vs 6 = n_v vs 0 := f4.symm
  have q7 : n_v vs 7 = n_v vs 1 := f5.symm
  have q8 : n_v vs 8 = n_v vs 2 := f6.symm
  have q9 : n_v vs 9 = n_v vs 3 := f7.symm
  simp only [q6, q16, q7, q8, q9] at f0 f1 f3 f12 f13 f18 f19 f20 f21 f22 f23
  have ar_0_10_1 : w_ar w1 (n_v vs 0) 10 = w_ar ws (n_v vs 0) 10 := congrArg v_ad (s1.2 _ _).symm
  have ar_0_10_2 : w_ar w2 (n_v vs 0) 10 = w_ar ws (n_v vs 0) 10 := by rw [← ar_0_10_1]; show v_ad (w_fd w2 _ _) = v_ad (w_fd w1 _ _); rw [s2.2]
  have cr_0_10 := fdq_9 hD hth r0
  have ar_0_12_1 : w_ar w1 (n_v vs 0) 12 = w_ar ws (n_v vs 0) 12 := congrArg v_ad (s1.2 _ _).symm
  have ar_0_12_2 : w_ar w2 (n_v vs 0) 12 = w_ar ws (n_v vs 0) 12 := by rw [← ar_0_12_1]; show v_ad (w_fd w2 _ _) = v_ad (w_fd w1 _ _); rw [s2.2]
  have cr_0_12 := fdq_226 hD hth r0
  have ar_5_13_1 : w_ar w1 (n_v vs 5) 13 = w_ar ws (n_v vs 5) 13 := congrArg v_ad (s1.2 _ _).symm
  have ar_5_13_2 : w_ar w2 (n_v vs 5) 13 = w_ar ws (n_v vs 5) 13 := by rw [← ar_5_13_1]; show v_ad (w_fd w2 _ _) = v_ad (w_fd w1 _ _); rw [s2.2]
  have cr_5_13 := fdq_88 hD hth r5
  have ad_17 : v_ad (n_v vs 17) = w_ar ws (n_v vs 0) 12 := congrArg v_ad f0
  simp only [ad_17] at f10
  have h10 : v_iv (n_v vs 22) = w_ei w1 (w_ar ws (n_v vs 0) 12) (v_iv (n_v vs 21)) := f10
  simp only [ar_5_13_1, ar_0_10_1, ad_17] at f12 f13 f16
  have h16 : v_iv (n_v vs 19) = w_ei w2 (w_ar ws (n_v vs 0) 12) (v_iv (n_v vs 18)) := f16
  simp only [ar_0_12_2, ar_5_13_2, ar_0_10_2] at f20 f21 f22 f23
  have hE_0_10_1 : ∀ j : Int, w_ei ws (w_ar ws (n_v vs 0) 10) j = w_ei w1 (w_ar ws (n_v vs 0) 10) j := el_kp s1.1 r17 cr_0_10 (by decide)
  have hE_0_10_2 : ∀ j : Int, w_ei w1 (w_ar ws (n_v vs 0) 10) j = w_ei w2 (w_ar ws (n_v vs 0) 10) j := el_kp s2.1 r17 cr_0_10 (by decide)
  have hK_0_10 := elq_138 hD hth cr_0_10
  have hE_0_12_1 : ∀ j : Int, 0 ≤ j → (j = v_iv (n_v vs 21) → w_ei ws (w_ar ws (n_v vs 0) 12) j = v_iv (n_v vs 23)) ∧ (j ≠ v_iv (n_v vs 21) → w_ei ws (w_ar ws (n_v vs 0) 12) j = w_ei w1 (w_ar ws (n_v vs 0) 12) j) := fun j hj => ⟨fun h => by unfold w_ei; rw [s1.1, if_pos ⟨ad_17.symm, by rw [h]⟩], fun h => by unfold w_ei; rw [s1.1, if_neg (fun e => h (by have := e.2; omega))]⟩
  have hE_0_12_2 : ∀ j : Int, 0 ≤ j → (j = v_iv (n_v vs 18) → w_ei w1 (w_ar ws (n_v vs 0) 12) j = v_iv (n_v vs 20)) ∧ (j ≠ v_iv (n_v vs 18) → w_ei w1 (w_ar ws (n_v vs 0) 12) j = w_ei w2 (w_ar ws (n_v vs 0) 12) j) := fun j hj => ⟨fun h => by unfold w_ei; rw [s2.1, if_pos ⟨ad_17.symm, by rw [h]⟩], fun h => by unfold w_ei; rw [s2.1, if_neg (fun e => h (by have := e.2; omega))]⟩
  have hK_0_12 := elq_139 hD hth cr_0_12
  have hE_5_13_1 : ∀ j : Int, w_ei ws (w_ar ws (n_v vs 5) 13) j = w_ei w1 (w_ar ws (n_v vs 5) 13) j := el_kp s1.1 r17 cr_5_13 (by decide)
  have hE_5_13_2 : ∀ j : Int, w_ei w1 (w_ar ws (n_v vs 5) 13) j = w_ei w2 (w_ar ws (n_v vs 5) 13) j := el_kp s2.1 r17 cr_5_13 (by decide)
  have hK_5_13 := elq_44 hD hth cr_5_13
  have nf0 : fc_1 PRD (20, [0], [60, 0, 1, 845, 12]) ws (vs) := ⟨nf_in hl rfl, sgq_885 (vc_Pl_layRow_16_0 (v_iv (n_v vs 1)) (v_iv (n_v vs 2)) (v_iv (n_v vs 3)) (v_iv (n_v vs 7)) (v_iv (n_v vs 8)) (v_iv (n_v vs 9)) (v_iv (n_v vs 11)) (v_iv (n_v vs 12)) (v_iv (n_v vs 13)) (v_iv (n_v vs 14)) (v_iv (n_v vs 15)) (v_iv (n_v vs 18)) (v_iv (n_v vs 19)) (v_iv (n_v vs 20)) (v_iv (n_v vs 21)) (v_iv (n_v vs 22)) (v_iv (n_v vs 23)) (w_ei ws (w_ar ws (n_v vs 5) 13)) (w_ei ws (w_ar ws (n_v vs 0) 10)) (w_ei w1 (w_ar ws (n_v vs 0) 12)) (w_ei w1 (w_ar ws (n_v vs 5) 13)) (w_ei w1 (w_ar ws (n_v vs 0) 10)) (w_ei w2 (w_ar ws (n_v vs 0) 12)) (w_ei w2 (w_ar ws (n_v vs 5) 13)) (w_ei w2 (w_ar ws (n_v vs 0) 10)) (w_ei ws (w_ar ws (n_v vs 0) 12)) k1 k2 k3 k7 k8 k9 k11 k12 k13 k14 k15 k18 k19 k20 k21 k22 k23 d0 d1 d2 d3 d4 d5 d6 d7 d8 d9 f1 f3 (shm_14 f9) h10 (shm_192 f11) f12 f13 (shm_12 f15) h16 (shm_192 f17) f18 f19 f20 f21 f22 f23 hE_0_10_1 hE_0_10_2 hK_0_10 hE_0_12_1 hE_0_12_2 hK_0_12 hE_5_13_1 hE_5_13_2 hK_5_13)⟩
  have nf1 : fc_1 PRD (20, [5], [60, 0, 1, 844, 13]) ws (vs) := ⟨nf_in hl rfl, sgq_418 (vc_Pl_layRow_16_1 (v_iv (n_v vs 1)) (v_iv (n_v vs 2)) (v_iv (n_v vs 3)) (v_iv (n_v vs 7)) (v_iv (n_v vs 8)) (v_iv (n_v vs 9)) (v_iv (n_v vs 11)) (v_iv (n_v vs 12)) (v_iv (n_v vs 13)) (v_iv (n_v vs 14)) (v_iv (n_v vs 15)) (v_iv (n_v vs 18)) (v_iv (n_v vs 19)) (v_iv (n_v vs 20)) (v_iv (n_v vs 21)) (v_iv (n_v vs 22)) (v_iv (n_v vs 23)) (w_ei ws (w_ar ws (n_v vs 5) 13)) (w_ei ws (w_ar ws (n_v vs 0) 10)) (w_ei w1 (w_ar ws (n_v vs 0) 12)) (w_ei w1 (w_ar ws (n_v vs 5) 13)) (w_ei w1 (w_ar ws (n_v vs 0) 10)) (w_ei w2 (w_ar ws (n_v vs 0) 12)) (w_ei w2 (w_ar ws (n_v vs 5) 13)) (w_ei w2 (w_ar ws (n_v vs 0) 10)) (w_ei ws (w_ar ws (n_v vs 0) 12)) k1 k2 k3 k7 k8 k9 k11 k12 k13 k14 k15 k18 k19 k20 k21 k22 k23 d0 d1 d2 d3 d4 d5 d6 d7 d8 d9 f1 f3 (shm_14 f9) h10 (shm_192 f11) f12 f13 (shm_12 f15) h16 (shm_192 f17) f18 f19 f20 f21 f22 f23 hE_0_10_1 hE_0_10_2 hK_0_10 hE_0_12_1 hE_0_12_2 hK_0_12 hE_5_13_1 hE_5_13_2 hK_5_13)⟩
  refine ⟨(fun _ h => (by cases h)), [], trivial, ?_, (fun _ h => (by cases h))⟩
  rw [List.append_nil]
  exact List.forall_mem_cons.mpr ⟨⟨show (20 : Nat) < 100 from by decide, nf0⟩, List.forall_mem_cons.mpr ⟨⟨show (20 : Nat) < 100 from by decide, nf1⟩, (fun _ h => (by cases h))⟩⟩
set_option maxHeartbeats 4000000 in
theorem vc_Pl_layRow_17_r0 (x1 : Int) (x2 : Int) (x3 : Int) (x7 : Int) (x8 : Int) (x9 : Int) (x11 : Int) (x12 : Int) (x13 : Int) (x14 : Int) (x15 : Int) (x18 : Int) (x19 : Int) (x20 : Int) (space_0 : Int → Int) (area_0o5 : Int → Int) (itemSize_0 : Int → Int) (k1 : 0 ≤ x1 ∧ x1 ≤ 31) (k2 : 1 ≤ x2 ∧ x2 ≤ 32) (k3 : 0 ≤ x3 ∧ x3 ≤ 0) (k7 : 0 ≤ x7 ∧ x7 ≤ 31) (k8 : 1 ≤ x8 ∧ x8 ≤ 32) (k9 : 0 ≤ x9 ∧ x9 ≤ 0) (k11 : 1 ≤ x11 ∧ x11 ≤ 1) (k12 : (-512) ≤ x12 ∧ x12 ≤ 512) (k13 : (-512) ≤ x13 ∧ x13 ≤ 512) (k14 : 0 ≤ x14 ∧ x14 ≤ 76800) (k15 : 0 ≤ x15 ∧ x15 ≤ 31) (k18 : 1 ≤ x18 ∧ x18 ≤ 1) (k19 : (-512) ≤ x19 ∧ x19 ≤ 512) (k20 : (-1024) ≤ x20 ∧ x20 ≤ 1024) (d0 : x13 + (-512) ≤ x20 ∧ x20 ≤ x13 + 512) (d1 : x19 + (-512) ≤ x20 ∧ x20 ≤ x19 + 512) (d2 : x8 + (-4294967296) ≤ x15 ∧ x15 ≤ x8 + (-1)) (d3 : x7 + (-4294967296) ≤ x1 ∧ x1 ≤ x7 + 0) (d4 : x15 + (-4294967296) ≤ x1 ∧ x1 ≤ x15 + 0) (d5 : x8 + (-4294967296) ≤ x2 ∧ x2 ≤ x8 + 0) (d6 : x1 + (-4294967296) ≤ x7 ∧ x7 ≤ x1 + 0) (d7 : x15 + (-4294967296) ≤ x7 ∧ x7 ≤ x15 + 0) (d8 : x2 + (-4294967296) ≤ x8 ∧ x8 ≤ x2 + 0) (f0 : x20 = x19 + x13) (h1 : x19 = space_0 (x18)) (f2 : x11 ≠ 0) (f4 : x3 ≤ 0) (f5 : x15 < x2) (f6 : SPC (space_0)) (f7 : BXA (area_0o5)) (f9 : RWA (space_0) (x11) (x12) (x13)) (f10 : RWK (itemSize_0) (x1) (x2) (x3) (x15) (x14)) (hK_0_10 : ∀ j : Int, 0 ≤ j → j < 32 → 0 ≤ itemSize_0 j ∧ itemSize_0 j ≤ 2400) (hK_0_12 : ∀ j : Int, 0 ≤ j → j < 4 → (-512) ≤ space_0 j ∧ space_0 j ≤ 512) (hK_5_13 : ∀ j : Int, 0 ≤ j → j < 128 → (-512) ≤ area_0o5 j ∧ area_0o5 j ≤ 512) : 0 ≤ x20 ∧ x20 ≤ 512 := by
  first
    | omega
    | (rcases ‹RWA _ _ _ _› with ⟨t, _, b⟩ | ⟨t, _, b⟩
       · have e := ‹x19 = space_0 x18›
         rw [show x18 = 1 by omega] at e
         have g := hul_st (‹SPC _›).2 b rfl rfl
         unfold HUL at g
         omega
       · have e := ‹x19 = space_0 x18›
         rw [show x18 = 0 by omega] at e
         have g := hul_st (‹SPC _›).1 b rfl rfl
         unfold HUL at g
         omega)
    | (rcases ‹RWA _ _ _ _› with ⟨t, _, b⟩ | ⟨t, _, b⟩
       · exfalso; omega
       · have e := ‹x19 = space_0 x18›
         rw [show x18 = 0 by omega] at e
         have g := hul_st (‹SPC _›).1 b rfl rfl
         unfold HUL at g
         omega)
    | (rcases ‹RWA _ _ _ _› with ⟨t, _, b⟩ | ⟨t, _, b⟩
       · have e := ‹x19 = space_0 x18›
         rw [show x18 = 1 by omega] at e
         have g := hul_st (‹SPC _›).2 b rfl rfl
         unfold HUL at g
         omega
       · exfalso; omega)
  
def o_Pl_layRow_17 : or_T := (225, 21, [(0, (2, 0, 0, [6])), (1, (0, 0, 31, [])), (2, (0, 1, 32, [])), (3, (0, 0, 0, [])), (5, (2, 0, 0, [0])), (6, (2, 0, 0, [6])), (7, (0, 0, 31, [])), (8, (0, 1, 32, [])), (9, (0, 0, 0, [])), (11, (0, 1, 1, [])), (12, (0, -512, 512, [])), (13, (0, -512, 512, [])), (14, (0, 0, 76800, [])), (15, (0, 0, 31, [])), (16, (2, 0, 0, [0])), (17, (2, 0, 0, [97])), (18, (0, 1, 1, [])), (19, (0, -512, 512, [])), (20, (0, -1024, 1024, []))], [(1, [20, 19, 13], []), (10, [19, 17, 18], []), (8, [11], [1]), (9, [17, 6], [12]), (8, [9], [5]), (7, [15, 8], [2]), (20, [6], [60, 0, 1, 845, 12]), (20, [16], [60, 0, 1, 844, 13]), (24, [5, 16], []), (20, [6, 11, 12, 13], [60, 0, 1, 851, 12]), (20, [6, 7, 8, 9, 15, 14], [60, 0, 1, 849, 10]), (24, [0, 6], []), (24, [1, 7], []), (24, [2, 8], []), (24, [3, 9], [])], [(20, (0, 0, 512, []))], [], [], [], [(20, 13, -512, 512), (20, 19, -512, 512), (15, 8, -4294967296, -1), (1, 7, -4294967296, 0), (1, 15, -4294967296, 0), (2, 8, -4294967296, 0), (7, 1, -4294967296, 0), (7, 15, -4294967296, 0), (8, 2, -4294967296, 0)])
theorem oo_Pl_layRow_17 {kA : Nat → ClassId} : or_ok PRD kA GG o_Pl_layRow_17 := by
  refine or_mk fun A ta ws vs hD hth hl => ?_
  intro t0 r0 t1 k1 t2 k2 t3 k3 t5 r5 t6 r6 t7 k7 t8 k8 t9 k9 t11 k11 t12 k12 t13 k13 t14 k14 t15 k15 t16 r16 t17 r17 t18 k18 t19 k19 t20 k20 d0 d1 d2 d3 d4 d5 d6 d7 d8 f0 f1 f2 f3 f4 f5 f6 f7 f8 f9 f10 f11 f12 f13 f14
  replace f1 := shm_107 f1
  replace f3 := shm_103 f3
  replace f4 := shm_295 f4
  replace f5 := shm_6 f5
  replace f6 := shm_885 f6
  replace f7 := shm_418 f7
  replace f8 := shm_5 f8
  replace f9 := shm_887 f9
  replace f10 := shm_889 f10
  replace f11 := shm_5 f11
  replace f12 := shm_5 f12
  replace f13 := shm_5 f13
  replace f14 := shm_5 f14
  have q16 : n_v vs 16 = n_v vs 5 := f8.symm
  have q6 : n_v vs 6 = n_v vs 0 := f11.symm
  have q7 : n_v vs 7 = n_v vs 1 := f12.symm
  have q8 : n_v vs 8 = n_v vs 2 := f13.symm
  have q9 : n_v vs 9 = n_v vs 3 := f14.symm
  simp only [q6, q9, q8, q16, q7] at f3 f4 f5 f6 f7 f9 f10
  have cr_0_10 := fdq_9 hD hth r0
  have cr_0_12 := fdq_226 hD hth r0
  have cr_5_13 := fdq_88 hD hth r5
  have ad_17 : v_ad (n_v vs 17) = w_ar ws (n_v vs 0) 12 := congrArg v_ad f3
  simp only [ad_17] at f1
  have h1 : v_iv (n_v vs 19) = w_ei ws (w_ar ws (n_v vs 0) 12) (v_iv (n_v vs 18)) := f1
  have hK_0_10 := elq_138 hD hth cr_0_10
  have hK_0_12 := elq_139 hD hth cr_0_12
  have hK_5_13 := elq_44 hD hth cr_5_13
  have hrf0 : 0 ≤ v_iv (n_v vs 20) ∧ v_iv (n_v vs 20) ≤ 512 := vc_Pl_layRow_17_r0 (v_iv (n_v vs 1)) (v_iv (n_v vs 2)) (v_iv (n_v vs 3)) (v_iv (n_v vs 7)) (v_iv (n_v vs 8)) (v_iv (n_v vs 9)) (v_iv (n_v vs 11)) (v_iv (n_v vs 12)) (v_iv (n_v vs 13)) (v_iv (n_v vs 14)) (v_iv (n_v vs 15)) (v_iv (n_v vs 18)) (v_iv (n_v vs 19)) (v_iv (n_v vs 20)) (w_ei ws (w_ar ws (n_v vs 0) 12)) (w_ei ws (w_ar ws (n_v vs 5) 13)) (w_ei ws (w_ar ws (n_v vs 0) 10)) k1 k2 k3 k7 k8 k9 k11 k12 k13 k14 k15 k18 k19 k20 d0 d1 d2 d3 d4 d5 d6 d7 d8 (shm_12 f0) h1 (shm_142 f2) f4 f5 f6 f7 f9 f10 hK_0_10 hK_0_12 hK_5_13
  have rf20 : tv_ok ta (0, 0, 512, []) (n_v vs 20) := tv_in t20 (by first | omega | grind) (by first | omega | grind)
  refine ⟨List.forall_mem_cons.mpr ⟨rf20, (fun _ h => (by cases h))⟩, [], trivial, ?_, (fun _ h => (by cases h))⟩
  rw [List.append_nil]
  exact (fun _ h => (by cases h))
set_option maxHeartbeats 4000000 in
theorem vc_Pl_layRow_18_r0 (x1 : Int) (x2 : Int) (x3 : Int) (x7 : Int) (x8 : Int) (x9 : Int) (x11 : Int) (x12 : Int) (x13 : Int) (x14 : Int) (x15 : Int) (x18 : Int) (x19 : Int) (x20 : Int) (x21 : Int) (x22 : Int) (x23 : Int) (space_0 : Int → Int) (area_0o5 : Int → Int) (itemSize_0 : Int → Int) (space_1 : Int → Int) (area_1o5 : Int → Int) (itemSize_1 : Int → Int) (k1 : 0 ≤ x1 ∧ x1 ≤ 31) (k2 : 1 ≤ x2 ∧ x2 ≤ 32) (k3 : 0 ≤ x3 ∧ x3 ≤ 0) (k7 : 0 ≤ x7 ∧ x7 ≤ 31) (k8 : 1 ≤ x8 ∧ x8 ≤ 32) (k9 : 0 ≤ x9 ∧ x9 ≤ 0) (k11 : 1 ≤ x11 ∧ x11 ≤ 1) (k12 : (-512) ≤ x12 ∧ x12 ≤ 512) (k13 : (-512) ≤ x13 ∧ x13 ≤ 512) (k14 : 0 ≤ x14 ∧ x14 ≤ 76800) (k15 : 0 ≤ x15 ∧ x15 ≤ 31) (k18 : 1 ≤ x18 ∧ x18 ≤ 1) (k19 : (-512) ≤ x19 ∧ x19 ≤ 512) (k20 : 0 ≤ x20 ∧ x20 ≤ 512) (k21 : 3 ≤ x21 ∧ x21 ≤ 3) (k22 : (-512) ≤ x22 ∧ x22 ≤ 512) (k23 : (-1024) ≤ x23 ∧ x23 ≤ 1024) (d0 : x22 + (-512) ≤ x23 ∧ x23 ≤ x22 + 512) (d1 : x13 + (-512) ≤ x20 ∧ x20 ≤ x13 + 512) (d2 : x19 + (-512) ≤ x20 ∧ x20 ≤ x19 + 512) (d3 : x8 + (-4294967296) ≤ x15 ∧ x15 ≤ x8 + (-1)) (d4 : x7 + (-4294967296) ≤ x1 ∧ x1 ≤ x7 + 0) (d5 : x15 + (-4294967296) ≤ x1 ∧ x1 ≤ x15 + 0) (d6 : x8 + (-4294967296) ≤ x2 ∧ x2 ≤ x8 + 0) (d7 : x1 + (-4294967296) ≤ x7 ∧ x7 ≤ x1 + 0) (d8 : x15 + (-4294967296) ≤ x7 ∧ x7 ≤ x15 + 0) (d9 : x2 + (-4294967296) ≤ x8 ∧ x8 ≤ x2 + 0) (f0 : x23 = x22 - x13) (h1 : x22 = space_0 (x21)) (f2 : x11 ≠ 0) (f4 : BXA (area_0o5)) (f6 : RWK (itemSize_0) (x1) (x2) (x3) (x15) (x14)) (f12 : x20 = x19 + x13) (h13 : x19 = space_1 (x18)) (f14 : x11 ≠ 0) (f15 : x3 ≤ 0) (f16 : x15 < x2) (f17 : SPC (space_1)) (f18 : BXA (area_1o5)) (f19 : RWA (space_1) (x11) (x12) (x13)) (f20 : RWK (itemSize_1) (x1) (x2) (x3) (x15) (x14)) (hE_0_10_1 : ∀ j : Int, itemSize_0 j = itemSize_1 j) (hK_0_10 : ∀ j : Int, 0 ≤ j → j < 32 → 0 ≤ itemSize_0 j ∧ itemSize_0 j ≤ 2400) (hE_0_12_1 : ∀ j : Int, 0 ≤ j → (j = x18 → space_0 j = x20) ∧ (j ≠ x18 → space_0 j = space_1 j)) (hK_0_12 : ∀ j : Int, 0 ≤ j → j < 4 → (-512) ≤ space_0 j ∧ space_0 j ≤ 512) (hE_5_13_1 : ∀ j : Int, area_0o5 j = area_1o5 j) (hK_5_13 : ∀ j : Int, 0 ≤ j → j < 128 → (-512) ≤ area_0o5 j ∧ area_0o5 j ≤ 512) : (-512) ≤ x23 ∧ x23 ≤ 512 := by
  have e_hE_0_10_1 := funext hE_0_10_1; subst e_hE_0_10_1
  have e_hE_5_13_1 := funext hE_5_13_1; subst e_hE_5_13_1
  first
    | omega
    | (rcases ‹RWA _ _ _ _› with ⟨t, _, b⟩ | ⟨t, _, b⟩
       · exfalso; omega
       · have e := ‹x22 = space_0 x21›
         rw [show x21 = 2 by omega, (hE_0_12_1 2 (by omega)).2 (by omega)] at e
         have g := hul_st (‹SPC _›).1 b rfl rfl
         unfold HUL at g
         omega)
    | (rcases ‹RWA _ _ _ _› with ⟨t, _, b⟩ | ⟨t, _, b⟩
       · have e := ‹x22 = space_0 x21›
         rw [show x21 = 3 by omega, (hE_0_12_1 3 (by omega)).2 (by omega)] at e
         have g := hul_st (‹SPC _›).2 b rfl rfl
         unfold HUL at g
         omega
       · exfalso; omega)
  
def o_Pl_layRow_18 : or_T := (245, 24, [(0, (2, 0, 0, [6])), (1, (0, 0, 31, [])), (2, (0, 1, 32, [])), (3, (0, 0, 0, [])), (5, (2, 0, 0, [0])), (6, (2, 0, 0, [6])), (7, (0, 0, 31, [])), (8, (0, 1, 32, [])), (9, (0, 0, 0, [])), (11, (0, 1, 1, [])), (12, (0, -512, 512, [])), (13, (0, -512, 512, [])), (14, (0, 0, 76800, [])), (15, (0, 0, 31, [])), (16, (2, 0, 0, [0])), (17, (2, 0, 0, [97])), (18, (0, 1, 1, [])), (19, (0, -512, 512, [])), (20, (0, 0, 512, [])), (21, (0, 3, 3, [])), (22, (0, -512, 512, [])), (23, (0, -1024, 1024, []))], [(2, [23, 22, 13], []), (10, [22, 17, 21], []), (8, [11], [1]), (9, [17, 6], [12]), (20, [16], [60, 0, 1, 844, 13]), (24, [5, 16], []), (20, [6, 7, 8, 9, 15, 14], [60, 0, 1, 849, 10]), (24, [0, 6], []), (24, [1, 7], []), (24, [2, 8], []), (24, [3, 9], []), (100, [17, 18, 20], []), (1, [20, 19, 13], []), (10, [19, 17, 18], []), (8, [11], [1]), (8, [9], [5]), (7, [15, 8], [2]), (20, [6], [60, 0, 1, 845, 12]), (20, [16], [60, 0, 1, 844, 13]), (20, [6, 11, 12, 13], [60, 0, 1, 851, 12]), (20, [6, 7, 8, 9, 15, 14], [60, 0, 1, 849, 10])], [(23, (0, -512, 512, []))], [], [], [], [(23, 22, -512, 512), (20, 13, -512, 512), (20, 19, -512, 512), (15, 8, -4294967296, -1), (1, 7, -4294967296, 0), (1, 15, -4294967296, 0), (2, 8, -4294967296, 0), (7, 1, -4294967296, 0), (7, 15, -4294967296, 0), (8, 2, -4294967296, 0)])
theorem oo_Pl_layRow_18 {kA : Nat → ClassId} : or_ok PRD kA GG o_Pl_layRow_18 := by
  refine or_mk fun A ta ws vs hD hth hl => ?_
  intro t0 r0 t1 k1 t2 k2 t3 k3 t5 r5 t6 r6 t7 k7 t8 k8 t9 k9 t11 k11 t12 k12 t13 k13 t14 k14 t15 k15 t16 r16 t17 r17 t18 k18 t19 k19 t20 k20 t21 k21 t22 k22 t23 k23 d0 d1 d2 d3 d4 d5 d6 d7 d8 d9 f0 f1 f2 f3 f4 f5 f6 f7 f8 f9 f10 ta1 w1 le1 s1 f12 f13 f14 f15 f16 f17 f18 f19 f20
  replace f1 := shm_107 f1
  replace f3 := shm_103 f3
  replace f4 := shm_418 f4
  replace f5 := shm_5 f5
  replace f6 := shm_889 f6
  replace f7 := shm_5 f7
  replace f8 := shm_5 f8
  replace f9 := shm_5 f9
  replace f10 := shm_5 f10
  have s1 : (∀ b j, w_el ws b j = if b = v_ad (n_v vs 17) ∧ j = (v_iv (n_v vs 18)).toNat then v_iv (n_v vs 20) else w_el w1 b j) ∧ ∀ b k, w_fd ws b k = w_fd w1 b k := s1.2
  replace f13 := shm_107 f13
  replace f15 := shm_295 f15
  replace f16 := shm_6 f16
  replace f17 := shm_885 f17
  replace f18 := shm_418 f18
  replace f19 := shm_887 f19
  replace f20 := shm_889 f20
  have q16 : n_v vs 16 = n_v vs 5 := f5.symm
  have q6 : n_v vs 6 = n_v vs 0 := f7.symm
  have q7 : n_v vs 7 = n_v vs 1 := f8.symm
  have q8 : n_v vs 8 = n_v vs 2 := f9.symm
  have q9 : n_v vs 9 = n_v vs 3 := f10.symm
  simp only [q6, q16, q7, q8, q9] at f3 f4 f6 f15 f16 f17 f18 f19 f20
  have ar_0_10_1 : w_ar w1 (n_v vs 0) 10 = w_ar ws (n_v vs 0) 10 := congrArg v_ad (s1.2 _ _).symm
  have cr_0_10 := fdq_9 hD hth r0
  have ar_0_12_1 : w_ar w1 (n_v vs 0) 12 = w_ar ws (n_v vs 0) 12 := congrArg v_ad (s1.2 _ _).symm
  have cr_0_12 := fdq_226 hD hth r0
  have ar_5_13_1 : w_ar w1 (n_v vs 5) 13 = w_ar ws (n_v vs 5) 13 := congrArg v_ad (s1.2 _ _).symm
  have cr_5_13 := fdq_88 hD hth r5
  have ad_17 : v_ad (n_v vs 17) = w_ar ws (n_v vs 0) 12 := congrArg v_ad f3
  simp only [ad_17] at f1
  have h1 : v_iv (n_v vs 22) = w_ei ws (w_ar ws (n_v vs 0) 12) (v_iv (n_v vs 21)) := f1
  simp only [ad_17] at f13
  have h13 : v_iv (n_v vs 19) = w_ei w1 (w_ar ws (n_v vs 0) 12) (v_iv (n_v vs 18)) := f13
  simp only [ar_0_12_1, ar_5_13_1, ar_0_10_1] at f17 f18 f19 f20
  have hE_0_10_1 : ∀ j : Int, w_ei ws (w_ar ws (n_v vs 0) 10) j = w_ei w1 (w_ar ws (n_v vs 0) 10) j := el_kp s1.1 r17 cr_0_10 (by decide)
  have hK_0_10 := elq_138 hD hth cr_0_10
  have hE_0_12_1 : ∀ j : Int, 0 ≤ j → (j = v_iv (n_v vs 18) → w_ei ws (w_ar ws (n_v vs 0) 12) j = v_iv (n_v vs 20)) ∧ (j ≠ v_iv (n_v vs 18) → w_ei ws (w_ar ws (n_v vs 0) 12) j = w_ei w1 (w_ar ws (n_v vs 0) 12) j) := fun j hj => ⟨fun h => by unfold w_ei; rw [s1.1, if_pos ⟨ad_17.symm, by rw [h]⟩], fun h => by unfold w_ei; rw [s1.1, if_neg (fun e => h (by have := e.2; omega))]⟩
  have hK_0_12 := elq_139 hD hth cr_0_12
  have hE_5_13_1 : ∀ j : Int, w_ei ws (w_ar ws (n_v vs 5) 13) j = w_ei w1 (w_ar ws (n_v vs 5) 13) j := el_kp s1.1 r17 cr_5_13 (by decide)
  have hK_5_13 := elq_44 hD hth cr_5_13
  have hrf0 : (-512) ≤ v_iv (n_v vs 23) ∧ v_iv (n_v vs 23) ≤ 512 := vc_Pl_layRow_18_r0 (v_iv (n_v vs 1)) (v_iv (n_v vs 2)) (v_iv (n_v vs 3)) (v_iv (n_v vs 7)) (v_iv (n_v vs 8)) (v_iv (n_v vs 9)) (v_iv (n_v vs 11)) (v_iv (n_v vs 12)) (v_iv (n_v vs 13)) (v_iv (n_v vs 14)) (v_iv (n_v vs 15)) (v_iv (n_v vs 18)) (v_iv (n_v vs 19)) (v_iv (n_v vs 20)) (v_iv (n_v vs 21)) (v_iv (n_v vs 22)) (v_iv (n_v vs 23)) (w_ei ws (w_ar ws (n_v vs 0) 12)) (w_ei ws (w_ar ws (n_v vs 5) 13)) (w_ei ws (w_ar ws (n_v vs 0) 10)) (w_ei w1 (w_ar ws (n_v vs 0) 12)) (w_ei w1 (w_ar ws (n_v vs 5) 13)) (w_ei w1 (w_ar ws (n_v vs 0) 10)) k1 k2 k3 k7 k8 k9 k11 k12 k13 k14 k15 k18 k19 k20 k21 k22 k23 d0 d1 d2 d3 d4 d5 d6 d7 d8 d9 (shm_14 f0) h1 (shm_142 f2) f4 f6 (shm_12 f12) h13 (shm_142 f14) f15 f16 f17 f18 f19 f20 hE_0_10_1 hK_0_10 hE_0_12_1 hK_0_12 hE_5_13_1 hK_5_13
  have rf23 : tv_ok ta (0, -512, 512, []) (n_v vs 23) := tv_in t23 (by first | omega | grind) (by first | omega | grind)
  refine ⟨List.forall_mem_cons.mpr ⟨rf23, (fun _ h => (by cases h))⟩, [], trivial, ?_, (fun _ h => (by cases h))⟩
  rw [List.append_nil]
  exact (fun _ h => (by cases h))
set_option maxHeartbeats 4000000 in
theorem vc_Pl_layRow_19_0 (x1 : Int) (x2 : Int) (x3 : Int) (x7 : Int) (x8 : Int) (x9 : Int) (x11 : Int) (x12 : Int) (x13 : Int) (x14 : Int) (x15 : Int) (x18 : Int) (x19 : Int) (x20 : Int) (x21 : Int) (x22 : Int) (x23 : Int) (area_0o5 : Int → Int) (itemSize_0 : Int → Int) (space_1 : Int → Int) (area_1o5 : Int → Int) (itemSize_1 : Int → Int) (space_2 : Int → Int) (area_2o5 : Int → Int) (itemSize_2 : Int → Int) (space_0 : Int → Int) (k1 : 0 ≤ x1 ∧ x1 ≤ 31) (k2 : 1 ≤ x2 ∧ x2 ≤ 32) (k3 : 0 ≤ x3 ∧ x3 ≤ 0) (k7 : 0 ≤ x7 ∧ x7 ≤ 31) (k8 : 1 ≤ x8 ∧ x8 ≤ 32) (k9 : 0 ≤ x9 ∧ x9 ≤ 0) (k11 : 1 ≤ x11 ∧ x11 ≤ 1) (k12 : (-512) ≤ x12 ∧ x12 ≤ 512) (k13 : (-512) ≤ x13 ∧ x13 ≤ 512) (k14 : 0 ≤ x14 ∧ x14 ≤ 76800) (k15 : 0 ≤ x15 ∧ x15 ≤ 31) (k18 : 1 ≤ x18 ∧ x18 ≤ 1) (k19 : (-512) ≤ x19 ∧ x19 ≤ 512) (k20 : 0 ≤ x20 ∧ x20 ≤ 512) (k21 : 3 ≤ x21 ∧ x21 ≤ 3) (k22 : (-512) ≤ x22 ∧ x22 ≤ 512) (k23 : (-512) ≤ x23 ∧ x23 ≤ 512) (d0 : x22 + (-512) ≤ x23 ∧ x23 ≤ x22 + 512) (d1 : x13 + (-512) ≤ x20 ∧ x20 ≤ x13 + 512) (d2 : x19 + (-512) ≤ x20 ∧ x20 ≤ x19 + 512) (d3 : x8 + (-4294967296) ≤ x15 ∧ x15 ≤ x8 + (-1)) (d4 : x7 + (-4294967296) ≤ x1 ∧ x1 ≤ x7 + 0) (d5 : x15 + (-4294967296) ≤ x1 ∧ x1 ≤ x15 + 0) (d6 : x8 + (-4294967296) ≤ x2 ∧ x2 ≤ x8 + 0) (d7 : x1 + (-4294967296) ≤ x7 ∧ x7 ≤ x1 + 0) (d8 : x15 + (-4294967296) ≤ x7 ∧ x7 ≤ x15 + 0) (d9 : x2 + (-4294967296) ≤ x8 ∧ x8 ≤ x2 + 0) (f1 : BXA (area_0o5)) (f3 : RWK (itemSize_0) (x1) (x2) (x3) (x15) (x14)) (f9 : x23 = x22 - x13) (h10 : x22 = space_1 (x21)) (f11 : x11 ≠ 0) (f12 : BXA (area_1o5)) (f13 : RWK (itemSize_1) (x1) (x2) (x3) (x15) (x14)) (f15 : x20 = x19 + x13) (h16 : x19 = space_2 (x18)) (f17 : x11 ≠ 0) (f18 : x3 ≤ 0) (f19 : x15 < x2) (f20 : SPC (space_2)) (f21 : BXA (area_2o5)) (f22 : RWA (space_2) (x11) (x12) (x13)) (f23 : RWK (itemSize_2) (x1) (x2) (x3) (x15) (x14)) (hE_0_10_1 : ∀ j : Int, itemSize_0 j = itemSize_1 j) (hE_0_10_2 : ∀ j : Int, itemSize_1 j = itemSize_2 j) (hK_0_10 : ∀ j : Int, 0 ≤ j → j < 32 → 0 ≤ itemSize_0 j ∧ itemSize_0 j ≤ 2400) (hE_0_12_1 : ∀ j : Int, 0 ≤ j → (j = x21 → space_0 j = x23) ∧ (j ≠ x21 → space_0 j = space_1 j)) (hE_0_12_2 : ∀ j : Int, 0 ≤ j → (j = x18 → space_1 j = x20) ∧ (j ≠ x18 → space_1 j = space_2 j)) (hK_0_12 : ∀ j : Int, 0 ≤ j → j < 4 → (-512) ≤ space_0 j ∧ space_0 j ≤ 512) (hE_5_13_1 : ∀ j : Int, area_0o5 j = area_1o5 j) (hE_5_13_2 : ∀ j : Int, area_1o5 j = area_2o5 j) (hK_5_13 : ∀ j : Int, 0 ≤ j → j < 128 → (-512) ≤ area_0o5 j ∧ area_0o5 j ≤ 512) : SPC (space_0) := by
  have e_hE_0_10_1 := funext hE_0_10_1; subst e_hE_0_10_1
  have e_hE_0_10_2 := funext hE_0_10_2; subst e_hE_0_10_2
  have e_hE_5_13_1 := funext hE_5_13_1; subst e_hE_5_13_1
  have e_hE_5_13_2 := funext hE_5_13_2; subst e_hE_5_13_2
  first
    | assumption
    | (rcases ‹RWA _ _ _ _› with ⟨t, _, b⟩ | ⟨t, _, b⟩
       · exfalso; omega
       · exact spc_side (a := x19) (b := x22) ‹SPC _› b hE_0_12_2 hE_0_12_1 (by omega) (by omega) (by rw [‹x19 = space_2 x18›, show x18 = 0 by omega]) (by assumption) (by rw [‹x22 = space_1 x21›, show x21 = 2 by omega]) (by assumption))
    | (rcases ‹RWA _ _ _ _› with ⟨t, _, b⟩ | ⟨t, _, b⟩
       · exact spc_top (a := x19) (b := x22) ‹SPC _› b hE_0_12_2 hE_0_12_1 (by omega) (by omega) (by rw [‹x19 = space_2 x18›, show x18 = 1 by omega]) (by assumption) (by rw [‹x22 = space_1 x21›, show x21 = 3 by omega]) (by assumption)
       · exfalso; omega)
  
set_option maxHeartbeats 4000000 in
theorem vc_Pl_layRow_19_1 (x1 : Int) (x2 : Int) (x3 : Int) (x7 : Int) (x8 : Int) (x9 : Int) (x11 : Int) (x12 : Int) (x13 : Int) (x14 : Int) (x15 : Int) (x18 : Int) (x19 : Int) (x20 : Int) (x21 : Int) (x22 : Int) (x23 : Int) (area_0o5 : Int → Int) (itemSize_0 : Int → Int) (space_1 : Int → Int) (area_1o5 : Int → Int) (itemSize_1 : Int → Int) (space_2 : Int → Int) (area_2o5 : Int → Int) (itemSize_2 : Int → Int) (space_0 : Int → Int) (k1 : 0 ≤ x1 ∧ x1 ≤ 31) (k2 : 1 ≤ x2 ∧ x2 ≤ 32) (k3 : 0 ≤ x3 ∧ x3 ≤ 0) (k7 : 0 ≤ x7 ∧ x7 ≤ 31) (k8 : 1 ≤ x8 ∧ x8 ≤ 32) (k9 : 0 ≤ x9 ∧ x9 ≤ 0) (k11 : 1 ≤ x11 ∧ x11 ≤ 1) (k12 : (-512) ≤ x12 ∧ x12 ≤ 512) (k13 : (-512) ≤ x13 ∧ x13 ≤ 512) (k14 : 0 ≤ x14 ∧ x14 ≤ 76800) (k15 : 0 ≤ x15 ∧ x15 ≤ 31) (k18 : 1 ≤ x18 ∧ x18 ≤ 1) (k19 : (-512) ≤ x19 ∧ x19 ≤ 512) (k20 : 0 ≤ x20 ∧ x20 ≤ 512) (k21 : 3 ≤ x21 ∧ x21 ≤ 3) (k22 : (-512) ≤ x22 ∧ x22 ≤ 512) (k23 : (-512) ≤ x23 ∧ x23 ≤ 512) (d0 : x22 + (-512) ≤ x23 ∧ x23 ≤ x22 + 512) (d1 : x13 + (-512) ≤ x20 ∧ x20 ≤ x13 + 512) (d2 : x19 + (-512) ≤ x20 ∧ x20 ≤ x19 + 512) (d3 : x8 + (-4294967296) ≤ x15 ∧ x15 ≤ x8 + (-1)) (d4 : x7 + (-4294967296) ≤ x1 ∧ x1 ≤ x7 + 0) (d5 : x15 + (-4294967296) ≤ x1 ∧ x1 ≤ x15 + 0) (d6 : x8 + (-4294967296) ≤ x2 ∧ x2 ≤ x8 + 0) (d7 : x1 + (-4294967296) ≤ x7 ∧ x7 ≤ x1 + 0) (d8 : x15 + (-4294967296) ≤ x7 ∧ x7 ≤ x15 + 0) (d9 : x2 + (-4294967296) ≤ x8 ∧ x8 ≤ x2 + 0) (f1 : BXA (area_0o5)) (f3 : RWK (itemSize_0) (x1) (x2) (x3) (x15) (x14)) (f9 : x23 = x22 - x13) (h10 : x22 = space_1 (x21)) (f11 : x11 ≠ 0) (f12 : BXA (area_1o5)) (f13 : RWK (itemSize_1) (x1) (x2) (x3) (x15) (x14)) (f15 : x20 = x19 + x13) (h16 : x19 = space_2 (x18)) (f17 : x11 ≠ 0) (f18 : x3 ≤ 0) (f19 : x15 < x2) (f20 : SPC (space_2)) (f21 : BXA (area_2o5)) (f22 : RWA (space_2) (x11) (x12) (x13)) (f23 : RWK (itemSize_2) (x1) (x2) (x3) (x15) (x14)) (hE_0_10_1 : ∀ j : Int, itemSize_0 j = itemSize_1 j) (hE_0_10_2 : ∀ j : Int, itemSize_1 j = itemSize_2 j) (hK_0_10 : ∀ j : Int, 0 ≤ j → j < 32 → 0 ≤ itemSize_0 j ∧ itemSize_0 j ≤ 2400) (hE_0_12_1 : ∀ j : Int, 0 ≤ j → (j = x21 → space_0 j = x23) ∧ (j ≠ x21 → space_0 j = space_1 j)) (hE_0_12_2 : ∀ j : Int, 0 ≤ j → (j = x18 → space_1 j = x20) ∧ (j ≠ x18 → space_1 j = space_2 j)) (hK_0_12 : ∀ j : Int, 0 ≤ j → j < 4 → (-512) ≤ space_0 j ∧ space_0 j ≤ 512) (hE_5_13_1 : ∀ j : Int, area_0o5 j = area_1o5 j) (hE_5_13_2 : ∀ j : Int, area_1o5 j = area_2o5 j) (hK_5_13 : ∀ j : Int, 0 ≤ j → j < 128 → (-512) ≤ area_0o5 j ∧ area_0o5 j ≤ 512) : BXA (area_0o5) := by
  have e_hE_0_10_1 := funext hE_0_10_1; subst e_hE_0_10_1
  have e_hE_0_10_2 := funext hE_0_10_2; subst e_hE_0_10_2
  have e_hE_5_13_1 := funext hE_5_13_1; subst e_hE_5_13_1
  have e_hE_5_13_2 := funext hE_5_13_2; subst e_hE_5_13_2
  first
    | assumption
  
def o_Pl_layRow_19 : or_T := (246, 24, [(0, (2, 0, 0, [6])), (1, (0, 0, 31, [])), (2, (0, 1, 32, [])), (3, (0, 0, 0, [])), (5, (2, 0, 0, [0])), (6, (2, 0, 0, [6])), (7, (0, 0, 31, [])), (8, (0, 1, 32, [])), (9, (0, 0, 0, [])), (11, (0, 1, 1, [])), (12, (0, -512, 512, [])), (13, (0, -512, 512, [])), (14, (0, 0, 76800, [])), (15, (0, 0, 31, [])), (16, (2, 0, 0, [0])), (17, (2, 0, 0, [97])), (18, (0, 1, 1, [])), (19, (0, -512, 512, [])), (20, (0, 0, 512, [])), (21, (0, 3, 3, [])), (22, (0, -512, 512, [])), (23, (0, -512, 512, []))], [(9, [17, 6], [12]), (20, [16], [60, 0, 1, 844, 13]), (24, [5, 16], []), (20, [6, 7, 8, 9, 15, 14], [60, 0, 1, 849, 10]), (24, [0, 6], []), (24, [1, 7], []), (24, [2, 8], []), (24, [3, 9], []), (100, [17, 21, 23], []), (2, [23, 22, 13], []), (10, [22, 17, 21], []), (8, [11], [1]), (20, [16], [60, 0, 1, 844, 13]), (20, [6, 7, 8, 9, 15, 14], [60, 0, 1, 849, 10]), (100, [17, 18, 20], []), (1, [20, 19, 13], []), (10, [19, 17, 18], []), (8, [11], [1]), (8, [9], [5]), (7, [15, 8], [2]), (20, [6], [60, 0, 1, 845, 12]), (20, [16], [60, 0, 1, 844, 13]), (20, [6, 11, 12, 13], [60, 0, 1, 851, 12]), (20, [6, 7, 8, 9, 15, 14], [60, 0, 1, 849, 10])], [], [], [(20, [0], [60, 0, 1, 845, 12]), (20, [5], [60, 0, 1, 844, 13])], [], [(23, 22, -512, 512), (20, 13, -512, 512), (20, 19, -512, 512), (15, 8, -4294967296, -1), (1, 7, -4294967296, 0), (1, 15, -4294967296, 0), (2, 8, -4294967296, 0), (7, 1, -4294967296, 0), (7, 15, -4294967296, 0), (8, 2, -4294967296, 0)])
theorem oo_Pl_layRow_19 {kA : Nat → ClassId} : or_ok PRD kA GG o_Pl_layRow_19 := by
  refine or_mk fun A ta ws vs hD hth hl => ?_
  intro t0 r0 t1 k1 t2 k2 t3 k3 t5 r5 t6 r6 t7 k7 t8 k8 t9 k9 t11 k11 t12 k12 t13 k13 t14 k14 t15 k15 t16 r16 t17 r17 t18 k18 t19 k19 t20 k20 t21 k21 t22 k22 t23 k23 d0 d1 d2 d3 d4 d5 d6 d7 d8 d9 f0 f1 f2 f3 f4 f5 f6 f7 ta1 w1 le1 s1 f9 f10 f11 f12 f13 ta2 w2 le2 s2 f15 f16 f17 f18 f19 f20 f21 f22 f23
  replace f0 := shm_103 f0
  replace f1 := shm_418 f1
  replace f2 := shm_5 f2
  replace f3 := shm_889 f3
  replace f4 := shm_5 f4
  replace f5 := shm_5 f5
  replace f6 := shm_5 f6
  replace f7 := shm_5 f7
  have s1 : (∀ b j, w_el ws b j = if b = v_ad (n_v vs 17) ∧ j = (v_iv (n_v vs 21)).toNat then v_iv (n_v vs 23) else w_el w1 b j) ∧ ∀ b k, w_fd ws b k = w_fd w1 b k := s1.2
  replace f10 := shm_107 f10
  replace f12 := shm_418 f12
  replace f13 := shm_889 f13
  have s2 : (∀ b j, w_el w1 b j = if b = v_ad (n_v vs 17) ∧ j = (v_iv (n_v vs 18)).toNat then v_iv (n_v vs 20) else w_el w2 b j) ∧ ∀ b k, w_fd w1 b k = w_fd w2 b k := s2.2
  replace f16 := shm_107 f16
  replace f18 := shm_295 f18
  replace f19 := shm_6 f19
  replace f20 := shm_885 f20
  replace f21 := shm_418 f21
  replace f22 := shm_887 f22
  replace f23 := shm_889 f23
  have q16 : n_v vs 16 = n_v vs 5 := f2.symm
  have q6 : n_v vs 6 = n_v vs 0 := f4.symm
  have q7 : n_v vs 7 = n_v vs 1 := f5.symm
  have q8 : n_v vs 8 = n_v vs 2 := f6.symm
  have q9 : n_v vs 9 = n_v vs 3 := f7.symm
  simp only [q6, q16, q7, q8, q9] at f0 f1 f3 f12 f13 f18 f19 f20 f21 f22 f23
  have ar_0_10_1 : w_ar w1 (n_v vs 0) 10 = w_ar ws (n_v vs 0) 10 := congrArg v_ad (s1.2 _ _).symm
  have ar_0_10_2 : w_ar w2 (n_v vs 0) 10 = w_ar ws (n_v vs 0) 10 := by rw [← ar_0_10_1]; show v_ad (w_fd w2 _ _) = v_ad (w_fd w1 _ _); rw [s2.2]
  have cr_0_10 := fdq_9 hD hth r0
  have ar_0_12_1 : w_ar w1 (n_v vs 0) 12 = w_ar ws (n_v vs 0) 12 := congrArg v_ad (s1.2 _ _).symm
  have ar_0_12_2 : w_ar w2 (n_v vs 0) 12 = w_ar ws (n_v vs 0) 12 := by rw [← ar_0_12_1]; show v_ad (w_fd w2 _ _) = v_ad (w_fd w1 _ _); rw [s2.2]
  have cr_0_12 := fdq_226 hD hth r0
  have ar_5_13_1 : w_ar w1 (n_v vs 5) 13 = w_ar ws (n_v vs 5) 13 := congrArg v_ad (s1.2 _ _).symm
  have ar_5_13_2 : w_ar w2 (n_v vs 5) 13 = w_ar ws (n_v vs 5) 13 := by rw [← ar_5_13_1]; show v_ad (w_fd w2 _ _) = v_ad (w_fd w1 _ _); rw [s2.2]
  have cr_5_13 := fdq_88 hD hth r5
  have ad_17 : v_ad (n_v vs 17) = w_ar ws (n_v vs 0) 12 := congrArg v_ad f0
  simp only [ad_17] at f10
  have h10 : v_iv (n_v vs 22) = w_ei w1 (w_ar ws (n_v vs 0) 12) (v_iv (n_v vs 21)) := f10
  simp only [ar_5_13_1, ar_0_10_1, ad_17] at f12 f13 f16
  have h16 : v_iv (n_v vs 19) = w_ei w2 (w_ar ws (n_v vs 0) 12) (v_iv (n_v vs 18)) := f16
  simp only [ar_0_12_2, ar_5_13_2, ar_0_10_2] at f20 f21 f22 f23
  have hE_0_10_1 : ∀ j : Int, w_ei ws (w_ar ws (n_v vs 0) 10) j = w_ei w1 (w_ar ws (n_v vs 0) 10) j := el_kp s1.1 r17 cr_0_10 (by decide)
  have hE_0_10_2 : ∀ j : Int, w_ei w1 (w_ar ws (n_v vs 0) 10) j = w_ei w2 (w_ar ws (n_v vs 0) 10) j := el_kp s2.1 r17 cr_0_10 (by decide)
  have hK_0_10 := elq_138 hD hth cr_0_10
  have hE_0_12_1 : ∀ j : Int, 0 ≤ j → (j = v_iv (n_v vs 21) → w_ei ws (w_ar ws (n_v vs 0) 12) j = v_iv (n_v vs 23)) ∧ (j ≠ v_iv (n_v vs 21) → w_ei ws (w_ar ws (n_v vs 0) 12) j = w_ei w1 (w_ar ws (n_v vs 0) 12) j) := fun j hj => ⟨fun h => by unfold w_ei; rw [s1.1, if_pos ⟨ad_17.symm, by rw [h]⟩], fun h => by unfold w_ei; rw [s1.1, if_neg (fun e => h (by have := e.2; omega))]⟩
  have hE_0_12_2 : ∀ j : Int, 0 ≤ j → (j = v_iv (n_v vs 18) → w_ei w1 (w_ar ws (n_v vs 0) 12) j = v_iv (n_v vs 20)) ∧ (j ≠ v_iv (n_v vs 18) → w_ei w1 (w_ar ws (n_v vs 0) 12) j = w_ei w2 (w_ar ws (n_v vs 0) 12) j) := fun j hj => ⟨fun h => by unfold w_ei; rw [s2.1, if_pos ⟨ad_17.symm, by rw [h]⟩], fun h => by unfold w_ei; rw [s2.1, if_neg (fun e => h (by have := e.2; omega))]⟩
  have hK_0_12 := elq_139 hD hth cr_0_12
  have hE_5_13_1 : ∀ j : Int, w_ei ws (w_ar ws (n_v vs 5) 13) j = w_ei w1 (w_ar ws (n_v vs 5) 13) j := el_kp s1.1 r17 cr_5_13 (by decide)
  have hE_5_13_2 : ∀ j : Int, w_ei w1 (w_ar ws (n_v vs 5) 13) j = w_ei w2 (w_ar ws (n_v vs 5) 13) j := el_kp s2.1 r17 cr_5_13 (by decide)
  have hK_5_13 := elq_44 hD hth cr_5_13
  have nf0 : fc_1 PRD (20, [0], [60, 0, 1, 845, 12]) ws (vs) := ⟨nf_in hl rfl, sgq_885 (vc_Pl_layRow_19_0 (v_iv (n_v vs 1)) (v_iv (n_v vs 2)) (v_iv (n_v vs 3)) (v_iv (n_v vs 7)) (v_iv (n_v vs 8)) (v_iv (n_v vs 9)) (v_iv (n_v vs 11)) (v_iv (n_v vs 12)) (v_iv (n_v vs 13)) (v_iv (n_v vs 14)) (v_iv (n_v vs 15)) (v_iv (n_v vs 18)) (v_iv (n_v vs 19)) (v_iv (n_v vs 20)) (v_iv (n_v vs 21)) (v_iv (n_v vs 22)) (v_iv (n_v vs 23)) (w_ei ws (w_ar ws (n_v vs 5) 13)) (w_ei ws (w_ar ws (n_v vs 0) 10)) (w_ei w1 (w_ar ws (n_v vs 0) 12)) (w_ei w1 (w_ar ws (n_v vs 5) 13)) (w_ei w1 (w_ar ws (n_v vs 0) 10)) (w_ei w2 (w_ar ws (n_v vs 0) 12)) (w_ei w2 (w_ar ws (n_v vs 5) 13)) (w_ei w2 (w_ar ws (n_v vs 0) 10)) (w_ei ws (w_ar ws (n_v vs 0) 12)) k1 k2 k3 k7 k8 k9 k11 k12 k13 k14 k15 k18 k19 k20 k21 k22 k23 d0 d1 d2 d3 d4 d5 d6 d7 d8 d9 f1 f3 (shm_14 f9) h10 (shm_142 f11) f12 f13 (shm_12 f15) h16 (shm_142 f17) f18 f19 f20 f21 f22 f23 hE_0_10_1 hE_0_10_2 hK_0_10 hE_0_12_1 hE_0_12_2 hK_0_12 hE_5_13_1 hE_5_13_2 hK_5_13)⟩
  have nf1 : fc_1 PRD (20, [5], [60, 0, 1, 844, 13]) ws (vs) := ⟨nf_in hl rfl, sgq_418 (vc_Pl_layRow_19_1 (v_iv (n_v vs 1)) (v_iv (n_v vs 2)) (v_iv (n_v vs 3)) (v_iv (n_v vs 7)) (v_iv (n_v vs 8)) (v_iv (n_v vs 9)) (v_iv (n_v vs 11)) (v_iv (n_v vs 12)) (v_iv (n_v vs 13)) (v_iv (n_v vs 14)) (v_iv (n_v vs 15)) (v_iv (n_v vs 18)) (v_iv (n_v vs 19)) (v_iv (n_v vs 20)) (v_iv (n_v vs 21)) (v_iv (n_v vs 22)) (v_iv (n_v vs 23)) (w_ei ws (w_ar ws (n_v vs 5) 13)) (w_ei ws (w_ar ws (n_v vs 0) 10)) (w_ei w1 (w_ar ws (n_v vs 0) 12)) (w_ei w1 (w_ar ws (n_v vs 5) 13)) (w_ei w1 (w_ar ws (n_v vs 0) 10)) (w_ei w2 (w_ar ws (n_v vs 0) 12)) (w_ei w2 (w_ar ws (n_v vs 5) 13)) (w_ei w2 (w_ar ws (n_v vs 0) 10)) (w_ei ws (w_ar ws (n_v vs 0) 12)) k1 k2 k3 k7 k8 k9 k11 k12 k13 k14 k15 k18 k19 k20 k21 k22 k23 d0 d1 d2 d3 d4 d5 d6 d7 d8 d9 f1 f3 (shm_14 f9) h10 (shm_142 f11) f12 f13 (shm_12 f15) h16 (shm_142 f17) f18 f19 f20 f21 f22 f23 hE_0_10_1 hE_0_10_2 hK_0_10 hE_0_12_1 hE_0_12_2 hK_0_12 hE_5_13_1 hE_5_13_2 hK_5_13)⟩
  refine ⟨(fun _ h => (by cases h)), [], trivial, ?_, (fun _ h => (by cases h))⟩
  rw [List.append_nil]
  exact List.forall_mem_cons.mpr ⟨⟨show (20 : Nat) < 100 from by decide, nf0⟩, List.forall_mem_cons.mpr ⟨⟨show (20 : Nat) < 100 from by decide, nf1⟩, (fun _ h => (by cases h))⟩⟩
set_option maxHeartbeats 4000000 in
theorem vc_Pl_layRow_20_r0 (x1 : Int) (x2 : Int) (x3 : Int) (x7 : Int) (x8 : Int) (x9 : Int) (x11 : Int) (x12 : Int) (x13 : Int) (x14 : Int) (x15 : Int) (x17 : Int) (x18 : Int) (space_0 : Int → Int) (area_0o5 : Int → Int) (itemSize_0 : Int → Int) (k1 : 0 ≤ x1 ∧ x1 ≤ 31) (k2 : 1 ≤ x2 ∧ x2 ≤ 32) (k3 : 1 ≤ x3 ∧ x3 ≤ 131071) (k7 : 0 ≤ x7 ∧ x7 ≤ 31) (k8 : 1 ≤ x8 ∧ x8 ≤ 32) (k9 : 1 ≤ x9 ∧ x9 ≤ 131071) (k11 : 0 ≤ x11 ∧ x11 ≤ 1) (k12 : (-512) ≤ x12 ∧ x12 ≤ 512) (k13 : (-512) ≤ x13 ∧ x13 ≤ 512) (k14 : 0 ≤ x14 ∧ x14 ≤ 76800) (k15 : 0 ≤ x15 ∧ x15 ≤ 31) (k17 : (-39321600) ≤ x17 ∧ x17 ≤ 39321600) (k18 : (-39321600) ≤ x18 ∧ x18 ≤ 39321600) (d0 : x8 + (-4294967296) ≤ x15 ∧ x15 ≤ x8 + (-1)) (d1 : x7 + (-4294967296) ≤ x1 ∧ x1 ≤ x7 + 0) (d2 : x15 + (-4294967296) ≤ x1 ∧ x1 ≤ x15 + 0) (d3 : x8 + (-4294967296) ≤ x2 ∧ x2 ≤ x8 + 0) (d4 : x9 + (-4294967296) ≤ x3 ∧ x3 ≤ x9 + 0) (d5 : x13 + (-4294967296) ≤ x3 ∧ x3 ≤ x13 + 131071) (d6 : x1 + (-4294967296) ≤ x7 ∧ x7 ≤ x1 + 0) (d7 : x15 + (-4294967296) ≤ x7 ∧ x7 ≤ x15 + 0) (d8 : x2 + (-4294967296) ≤ x8 ∧ x8 ≤ x2 + 0) (d9 : x3 + (-4294967296) ≤ x9 ∧ x9 ≤ x3 + 0) (d10 : x13 + (-4294967296) ≤ x9 ∧ x9 ≤ x13 + 131071) (f0 : x18 = Int.tdiv (x17) (x3)) (f1 : x17 = x12 * x14) (f2 : 0 < x3) (f3 : x15 < x2) (f4 : SPC (space_0)) (f5 : BXA (area_0o5)) (f7 : RWA (space_0) (x11) (x12) (x13)) (f8 : RWK (itemSize_0) (x1) (x2) (x3) (x15) (x14)) (hK_0_10 : ∀ j : Int, 0 ≤ j → j < 32 → 0 ≤ itemSize_0 j ∧ itemSize_0 j ≤ 2400) (hK_0_12 : ∀ j : Int, 0 ≤ j → j < 4 → (-512) ≤ space_0 j ∧ space_0 j ≤ 512) (hK_5_13 : ∀ j : Int, 0 ≤ j → j < 128 → (-512) ≤ area_0o5 j ∧ area_0o5 j ≤ 512) : (-512) ≤ x18 ∧ x18 ≤ 512 := by
  first
    | omega
    | (obtain ⟨_, _, s0, s1, t1⟩ := ‹RWS6 _ _ _ _ _›; omega)
    | (obtain ⟨_, _, s0, s1, t1⟩ := ‹RWS6 _ _ _ _ _›
       exact btw_bd (btw_q (a := x15) (o := x3) (u := x4) (by assumption) (by assumption) (by omega) (by omega) (by omega)) (by omega) (by omega))
    | (have q := rwk_bd ‹RWK _ _ _ _ _ _› (fun j a b => by have := hK_0_10 j a b; omega); omega)
    | (have q := rwk_bd (rwk_step (k_zq := x15 + 1) (p_zq := x21) ‹RWK _ _ _ _ _ _› (by omega) (by assumption) rfl (by omega)) (fun j a b => by have := hK_0_10 j a b; omega); omega)
    | (have q := rwk_bd ‹RWK _ _ _ _ _ _› (fun j a b => by have := hK_0_10 j a b; omega)
       exact btw_bd (btw_q (a := x12) (o := x14) (u := x3) (by assumption) (by assumption) (by omega) (by omega) (by omega)) (by omega) (by omega))
    | (have q := rwk_bd (rwk_step (k_zq := x15 + 1) (p_zq := x21) ‹RWK _ _ _ _ _ _› (by omega) (by assumption) rfl (by omega)) (fun j a b => by have := hK_0_10 j a b; omega)
       exact btw_bd (btw_q (a := x12) (o := x21) (u := x3) (by assumption) (by assumption) (by omega) (by omega) (by omega)) (by omega) (by omega))
  
def o_Pl_layRow_20 : or_T := (103, 19, [(0, (2, 0, 0, [6])), (1, (0, 0, 31, [])), (2, (0, 1, 32, [])), (3, (0, 1, 131071, [])), (5, (2, 0, 0, [0])), (6, (2, 0, 0, [6])), (7, (0, 0, 31, [])), (8, (0, 1, 32, [])), (9, (0, 1, 131071, [])), (11, (0, 0, 1, [])), (12, (0, -512, 512, [])), (13, (0, -512, 512, [])), (14, (0, 0, 76800, [])), (15, (0, 0, 31, [])), (16, (2, 0, 0, [0])), (17, (0, -39321600, 39321600, [])), (18, (0, -39321600, 39321600, []))], [(4, [18, 17, 9], []), (3, [17, 12, 14], []), (8, [9], [4]), (7, [15, 8], [2]), (20, [6], [60, 0, 1, 845, 12]), (20, [16], [60, 0, 1, 844, 13]), (24, [5, 16], []), (20, [6, 11, 12, 13], [60, 0, 1, 851, 12]), (20, [6, 7, 8, 9, 15, 14], [60, 0, 1, 849, 10]), (24, [0, 6], []), (24, [1, 7], []), (24, [2, 8], []), (24, [3, 9], [])], [(18, (0, -512, 512, []))], [], [], [], [(15, 8, -4294967296, -1), (1, 7, -4294967296, 0), (1, 15, -4294967296, 0), (2, 8, -4294967296, 0), (3, 9, -4294967296, 0), (3, 13, -4294967296, 131071), (7, 1, -4294967296, 0), (7, 15, -4294967296, 0), (8, 2, -4294967296, 0), (9, 3, -4294967296, 0), (9, 13, -4294967296, 131071)])
theorem oo_Pl_layRow_20 {kA : Nat → ClassId} : or_ok PRD kA GG o_Pl_layRow_20 := by
  refine or_mk fun A ta ws vs hD hth hl => ?_
  intro t0 r0 t1 k1 t2 k2 t3 k3 t5 r5 t6 r6 t7 k7 t8 k8 t9 k9 t11 k11 t12 k12 t13 k13 t14 k14 t15 k15 t16 r16 t17 k17 t18 k18 d0 d1 d2 d3 d4 d5 d6 d7 d8 d9 d10 f0 f1 f2 f3 f4 f5 f6 f7 f8 f9 f10 f11 f12
  replace f0 := shm_34 f0
  replace f2 := shm_308 f2
  replace f3 := shm_6 f3
  replace f4 := shm_885 f4
  replace f5 := shm_418 f5
  replace f6 := shm_5 f6
  replace f7 := shm_887 f7
  replace f8 := shm_889 f8
  replace f9 := shm_5 f9
  replace f10 := shm_5 f10
  replace f11 := shm_5 f11
  replace f12 := shm_5 f12
  have q16 : n_v vs 16 = n_v vs 5 := f6.symm
  have q6 : n_v vs 6 = n_v vs 0 := f9.symm
  have q7 : n_v vs 7 = n_v vs 1 := f10.symm
  have q8 : n_v vs 8 = n_v vs 2 := f11.symm
  have q9 : n_v vs 9 = n_v vs 3 := f12.symm
  simp only [q9, q8, q6, q16, q7] at f0 f2 f3 f4 f5 f7 f8
  have cr_0_10 := fdq_9 hD hth r0
  have cr_0_12 := fdq_226 hD hth r0
  have cr_5_13 := fdq_88 hD hth r5
  have hK_0_10 := elq_138 hD hth cr_0_10
  have hK_0_12 := elq_139 hD hth cr_0_12
  have hK_5_13 := elq_44 hD hth cr_5_13
  have hrf0 : (-512) ≤ v_iv (n_v vs 18) ∧ v_iv (n_v vs 18) ≤ 512 := vc_Pl_layRow_20_r0 (v_iv (n_v vs 1)) (v_iv (n_v vs 2)) (v_iv (n_v vs 3)) (v_iv (n_v vs 7)) (v_iv (n_v vs 8)) (v_iv (n_v vs 9)) (v_iv (n_v vs 11)) (v_iv (n_v vs 12)) (v_iv (n_v vs 13)) (v_iv (n_v vs 14)) (v_iv (n_v vs 15)) (v_iv (n_v vs 17)) (v_iv (n_v vs 18)) (w_ei ws (w_ar ws (n_v vs 0) 12)) (w_ei ws (w_ar ws (n_v vs 5) 13)) (w_ei ws (w_ar ws (n_v vs 0) 10)) k1 k2 k3 k7 k8 k9 k11 k12 k13 k14 k15 k17 k18 d0 d1 d2 d3 d4 d5 d6 d7 d8 d9 d10 f0 (shm_38 f1) f2 f3 f4 f5 f7 f8 hK_0_10 hK_0_12 hK_5_13
  have rf18 : tv_ok ta (0, -512, 512, []) (n_v vs 18) := tv_in t18 (by first | omega | grind) (by first | omega | grind)
  refine ⟨List.forall_mem_cons.mpr ⟨rf18, (fun _ h => (by cases h))⟩, [], trivial, ?_, (fun _ h => (by cases h))⟩
  rw [List.append_nil]
  exact (fun _ h => (by cases h))
set_option maxHeartbeats 4000000 in
theorem vc_Pl_layRow_21_r0 (x1 : Int) (x2 : Int) (x3 : Int) (x7 : Int) (x8 : Int) (x9 : Int) (x11 : Int) (x12 : Int) (x13 : Int) (x14 : Int) (x15 : Int) (x17 : Int) (x18 : Int) (x20 : Int) (x21 : Int) (itemSize_0 : Int → Int) (space_0 : Int → Int) (area_0o5 : Int → Int) (k1 : 0 ≤ x1 ∧ x1 ≤ 31) (k2 : 1 ≤ x2 ∧ x2 ≤ 32) (k3 : 1 ≤ x3 ∧ x3 ≤ 131071) (k7 : 0 ≤ x7 ∧ x7 ≤ 31) (k8 : 1 ≤ x8 ∧ x8 ≤ 32) (k9 : 1 ≤ x9 ∧ x9 ≤ 131071) (k11 : 0 ≤ x11 ∧ x11 ≤ 1) (k12 : (-512) ≤ x12 ∧ x12 ≤ 512) (k13 : (-512) ≤ x13 ∧ x13 ≤ 512) (k14 : 0 ≤ x14 ∧ x14 ≤ 76800) (k15 : 0 ≤ x15 ∧ x15 ≤ 31) (k17 : (-39321600) ≤ x17 ∧ x17 ≤ 39321600) (k18 : (-512) ≤ x18 ∧ x18 ≤ 512) (k20 : 0 ≤ x20 ∧ x20 ≤ 2400) (k21 : 0 ≤ x21 ∧ x21 ≤ 79200) (d0 : x20 + 0 ≤ x21 ∧ x21 ≤ x20 + 76800) (d1 : x14 + 0 ≤ x21 ∧ x21 ≤ x14 + 2400) (d2 : x8 + (-4294967296) ≤ x15 ∧ x15 ≤ x8 + (-1)) (d3 : x7 + (-4294967296) ≤ x1 ∧ x1 ≤ x7 + 0) (d4 : x15 + (-4294967296) ≤ x1 ∧ x1 ≤ x15 + 0) (d5 : x8 + (-4294967296) ≤ x2 ∧ x2 ≤ x8 + 0) (d6 : x9 + (-4294967296) ≤ x3 ∧ x3 ≤ x9 + 0) (d7 : x13 + (-4294967296) ≤ x3 ∧ x3 ≤ x13 + 131071) (d8 : x1 + (-4294967296) ≤ x7 ∧ x7 ≤ x1 + 0) (d9 : x15 + (-4294967296) ≤ x7 ∧ x7 ≤ x15 + 0) (d10 : x2 + (-4294967296) ≤ x8 ∧ x8 ≤ x2 + 0) (d11 : x3 + (-4294967296) ≤ x9 ∧ x9 ≤ x3 + 0) (d12 : x13 + (-4294967296) ≤ x9 ∧ x9 ≤ x13 + 131071) (f0 : x21 = x14 + x20) (h1 : x20 = itemSize_0 (x15)) (f3 : x18 = Int.tdiv (x17) (x3)) (f4 : x17 = x12 * x14) (f5 : 0 < x3) (f6 : x15 < x2) (f7 : SPC (space_0)) (f8 : BXA (area_0o5)) (f10 : RWA (space_0) (x11) (x12) (x13)) (f11 : RWK (itemSize_0) (x1) (x2) (x3) (x15) (x14)) (hK_0_10 : ∀ j : Int, 0 ≤ j → j < 32 → 0 ≤ itemSize_0 j ∧ itemSize_0 j ≤ 2400) (hK_0_12 : ∀ j : Int, 0 ≤ j → j < 4 → (-512) ≤ space_0 j ∧ space_0 j ≤ 512) (hK_5_13 : ∀ j : Int, 0 ≤ j → j < 128 → (-512) ≤ area_0o5 j ∧ area_0o5 j ≤ 512) : 0 ≤ x21 ∧ x21 ≤ 76800 := by
  first
    | omega
    | (obtain ⟨_, _, s0, s1, t1⟩ := ‹RWS6 _ _ _ _ _›; omega)
    | (obtain ⟨_, _, s0, s1, t1⟩ := ‹RWS6 _ _ _ _ _›
       exact btw_bd (btw_q (a := x15) (o := x3) (u := x4) (by assumption) (by assumption) (by omega) (by omega) (by omega)) (by omega) (by omega))
    | (have q := rwk_bd ‹RWK _ _ _ _ _ _› (fun j a b => by have := hK_0_10 j a b; omega); omega)
    | (have q := rwk_bd (rwk_step (k_zq := x15 + 1) (p_zq := x21) ‹RWK _ _ _ _ _ _› (by omega) (by assumption) rfl (by omega)) (fun j a b => by have := hK_0_10 j a b; omega); omega)
    | (have q := rwk_bd ‹RWK _ _ _ _ _ _› (fun j a b => by have := hK_0_10 j a b; omega)
       exact btw_bd (btw_q (a := x12) (o := x14) (u := x3) (by assumption) (by assumption) (by omega) (by omega) (by omega)) (by omega) (by omega))
    | (have q := rwk_bd (rwk_step (k_zq := x15 + 1) (p_zq := x21) ‹RWK _ _ _ _ _ _› (by omega) (by assumption) rfl (by omega)) (fun j a b => by have := hK_0_10 j a b; omega)
       exact btw_bd (btw_q (a := x12) (o := x21) (u := x3) (by assumption) (by assumption) (by omega) (by omega) (by omega)) (by omega) (by omega))
  
def o_Pl_layRow_21 : or_T := (121, 22, [(0, (2, 0, 0, [6])), (1, (0, 0, 31, [])), (2, (0, 1, 32, [])), (3, (0, 1, 131071, [])), (5, (2, 0, 0, [0])), (6, (2, 0, 0, [6])), (7, (0, 0, 31, [])), (8, (0, 1, 32, [])), (9, (0, 1, 131071, [])), (11, (0, 0, 1, [])), (12, (0, -512, 512, [])), (13, (0, -512, 512, [])), (14, (0, 0, 76800, [])), (15, (0, 0, 31, [])), (16, (2, 0, 0, [0])), (17, (0, -39321600, 39321600, [])), (18, (0, -512, 512, [])), (19, (2, 0, 0, [96])), (20, (0, 0, 2400, [])), (21, (0, 0, 79200, []))], [(1, [21, 14, 20], []), (10, [20, 19, 15], []), (9, [19, 6], [10]), (4, [18, 17, 9], []), (3, [17, 12, 14], []), (8, [9], [4]), (7, [15, 8], [2]), (20, [6], [60, 0, 1, 845, 12]), (20, [16], [60, 0, 1, 844, 13]), (24, [5, 16], []), (20, [6, 11, 12, 13], [60, 0, 1, 851, 12]), (20, [6, 7, 8, 9, 15, 14], [60, 0, 1, 849, 10]), (24, [0, 6], []), (24, [1, 7], []), (24, [2, 8], []), (24, [3, 9], [])], [(21, (0, 0, 76800, []))], [], [], [], [(21, 20, 0, 76800), (21, 14, 0, 2400), (15, 8, -4294967296, -1), (1, 7, -4294967296, 0), (1, 15, -4294967296, 0), (2, 8, -4294967296, 0), (3, 9, -4294967296, 0), (3, 13, -4294967296, 131071), (7, 1, -4294967296, 0), (7, 15, -4294967296, 0), (8, 2, -4294967296, 0), (9, 3, -4294967296, 0), (9, 13, -4294967296, 131071)])
theorem oo_Pl_layRow_21 {kA : Nat → ClassId} : or_ok PRD kA GG o_Pl_layRow_21 := by
  refine or_mk fun A ta ws vs hD hth hl => ?_
  intro t0 r0 t1 k1 t2 k2 t3 k3 t5 r5 t6 r6 t7 k7 t8 k8 t9 k9 t11 k11 t12 k12 t13 k13 t14 k14 t15 k15 t16 r16 t17 k17 t18 k18 t19 r19 t20 k20 t21 k21 d0 d1 d2 d3 d4 d5 d6 d7 d8 d9 d10 d11 d12 f0 f1 f2 f3 f4 f5 f6 f7 f8 f9 f10 f11 f12 f13 f14 f15
  replace f1 := shm_107 f1
  replace f2 := shm_106 f2
  replace f3 := shm_34 f3
  replace f5 := shm_308 f5
  replace f6 := shm_6 f6
  replace f7 := shm_885 f7
  replace f8 := shm_418 f8
  replace f9 := shm_5 f9
  replace f10 := shm_887 f10
  replace f11 := shm_889 f11
  replace f12 := shm_5 f12
  replace f13 := shm_5 f13
  replace f14 := shm_5 f14
  replace f15 := shm_5 f15
  have q16 : n_v vs 16 = n_v vs 5 := f9.symm
  have q6 : n_v vs 6 = n_v vs 0 := f12.symm
  have q7 : n_v vs 7 = n_v vs 1 := f13.symm
  have q8 : n_v vs 8 = n_v vs 2 := f14.symm
  have q9 : n_v vs 9 = n_v vs 3 := f15.symm
  simp only [q6, q9, q8, q16, q7] at f2 f3 f5 f6 f7 f8 f10 f11
  have cr_0_10 := fdq_9 hD hth r0
  have cr_0_12 := fdq_226 hD hth r0
  have cr_5_13 := fdq_88 hD hth r5
  have ad_19 : v_ad (n_v vs 19) = w_ar ws (n_v vs 0) 10 := congrArg v_ad f2
  simp only [ad_19] at f1
  have h1 : v_iv (n_v vs 20) = w_ei ws (w_ar ws (n_v vs 0) 10) (v_iv (n_v vs 15)) := f1
  have hK_0_10 := elq_138 hD hth cr_0_10
  have hK_0_12 := elq_139 hD hth cr_0_12
  have hK_5_13 := elq_44 hD hth cr_5_13
  have hrf0 : 0 ≤ v_iv (n_v vs 21) ∧ v_iv (n_v vs 21) ≤ 76800 := vc_Pl_layRow_21_r0 (v_iv (n_v vs 1)) (v_iv (n_v vs 2)) (v_iv (n_v vs 3)) (v_iv (n_v vs 7)) (v_iv (n_v vs 8)) (v_iv (n_v vs 9)) (v_iv (n_v vs 11)) (v_iv (n_v vs 12)) (v_iv (n_v vs 13)) (v_iv (n_v vs 14)) (v_iv (n_v vs 15)) (v_iv (n_v vs 17)) (v_iv (n_v vs 18)) (v_iv (n_v vs 20)) (v_iv (n_v vs 21)) (w_ei ws (w_ar ws (n_v vs 0) 10)) (w_ei ws (w_ar ws (n_v vs 0) 12)) (w_ei ws (w_ar ws (n_v vs 5) 13)) k1 k2 k3 k7 k8 k9 k11 k12 k13 k14 k15 k17 k18 k20 k21 d0 d1 d2 d3 d4 d5 d6 d7 d8 d9 d10 d11 d12 (shm_12 f0) h1 f3 (shm_38 f4) f5 f6 f7 f8 f10 f11 hK_0_10 hK_0_12 hK_5_13
  have rf21 : tv_ok ta (0, 0, 76800, []) (n_v vs 21) := tv_in t21 (by first | omega | grind) (by first | omega | grind)
  refine ⟨List.forall_mem_cons.mpr ⟨rf21, (fun _ h => (by cases h))⟩, [], trivial, ?_, (fun _ h => (by cases h))⟩
  rw [List.append_nil]
  exact (fun _ h => (by cases h))
set_option maxHeartbeats 4000000 in
theorem vc_Pl_layRow_22_r0 (x1 : Int) (x2 : Int) (x3 : Int) (x7 : Int) (x8 : Int) (x9 : Int) (x11 : Int) (x12 : Int) (x13 : Int) (x14 : Int) (x15 : Int) (x17 : Int) (x18 : Int) (x20 : Int) (x21 : Int) (x22 : Int) (x23 : Int) (itemSize_0 : Int → Int) (space_0 : Int → Int) (area_0o5 : Int → Int) (k1 : 0 ≤ x1 ∧ x1 ≤ 31) (k2 : 1 ≤ x2 ∧ x2 ≤ 32) (k3 : 1 ≤ x3 ∧ x3 ≤ 131071) (k7 : 0 ≤ x7 ∧ x7 ≤ 31) (k8 : 1 ≤ x8 ∧ x8 ≤ 32) (k9 : 1 ≤ x9 ∧ x9 ≤ 131071) (k11 : 0 ≤ x11 ∧ x11 ≤ 1) (k12 : (-512) ≤ x12 ∧ x12 ≤ 512) (k13 : (-512) ≤ x13 ∧ x13 ≤ 512) (k14 : 0 ≤ x14 ∧ x14 ≤ 76800) (k15 : 0 ≤ x15 ∧ x15 ≤ 31) (k17 : (-39321600) ≤ x17 ∧ x17 ≤ 39321600) (k18 : (-512) ≤ x18 ∧ x18 ≤ 512) (k20 : 0 ≤ x20 ∧ x20 ≤ 2400) (k21 : 0 ≤ x21 ∧ x21 ≤ 76800) (k22 : (-39321600) ≤ x22 ∧ x22 ≤ 39321600) (k23 : (-39321600) ≤ x23 ∧ x23 ≤ 39321600) (d0 : x20 + 0 ≤ x21 ∧ x21 ≤ x20 + 76800) (d1 : x14 + 0 ≤ x21 ∧ x21 ≤ x14 + 2400) (d2 : x8 + (-4294967296) ≤ x15 ∧ x15 ≤ x8 + (-1)) (d3 : x7 + (-4294967296) ≤ x1 ∧ x1 ≤ x7 + 0) (d4 : x15 + (-4294967296) ≤ x1 ∧ x1 ≤ x15 + 0) (d5 : x8 + (-4294967296) ≤ x2 ∧ x2 ≤ x8 + 0) (d6 : x9 + (-4294967296) ≤ x3 ∧ x3 ≤ x9 + 0) (d7 : x13 + (-4294967296) ≤ x3 ∧ x3 ≤ x13 + 131071) (d8 : x1 + (-4294967296) ≤ x7 ∧ x7 ≤ x1 + 0) (d9 : x15 + (-4294967296) ≤ x7 ∧ x7 ≤ x15 + 0) (d10 : x2 + (-4294967296) ≤ x8 ∧ x8 ≤ x2 + 0) (d11 : x3 + (-4294967296) ≤ x9 ∧ x9 ≤ x3 + 0) (d12 : x13 + (-4294967296) ≤ x9 ∧ x9 ≤ x13 + 131071) (f0 : x23 = Int.tdiv (x22) (x3)) (f1 : x22 = x12 * x21) (f2 : x21 = x14 + x20) (h3 : x20 = itemSize_0 (x15)) (f5 : x18 = Int.tdiv (x17) (x3)) (f6 : x17 = x12 * x14) (f7 : 0 < x3) (f8 : x15 < x2) (f9 : SPC (space_0)) (f10 : BXA (area_0o5)) (f12 : RWA (space_0) (x11) (x12) (x13)) (f13 : RWK (itemSize_0) (x1) (x2) (x3) (x15) (x14)) (hK_0_10 : ∀ j : Int, 0 ≤ j → j < 32 → 0 ≤ itemSize_0 j ∧ itemSize_0 j ≤ 2400) (hK_0_12 : ∀ j : Int, 0 ≤ j → j < 4 → (-512) ≤ space_0 j ∧ space_0 j ≤ 512) (hK_5_13 : ∀ j : Int, 0 ≤ j → j < 128 → (-512) ≤ area_0o5 j ∧ area_0o5 j ≤ 512) : (-512) ≤ x23 ∧ x23 ≤ 512 := by
  first
    | omega
    | (obtain ⟨_, _, s0, s1, t1⟩ := ‹RWS6 _ _ _ _ _›; omega)
    | (obtain ⟨_, _, s0, s1, t1⟩ := ‹RWS6 _ _ _ _ _›
       exact btw_bd (btw_q (a := x15) (o := x3) (u := x4) (by assumption) (by assumption) (by omega) (by omega) (by omega)) (by omega) (by omega))
    | (have q := rwk_bd ‹RWK _ _ _ _ _ _› (fun j a b => by have := hK_0_10 j a b; omega); omega)
    | (have q := rwk_bd (rwk_step (k_zq := x15 + 1) (p_zq := x21) ‹RWK _ _ _ _ _ _› (by omega) (by assumption) rfl (by omega)) (fun j a b => by have := hK_0_10 j a b; omega); omega)
    | (have q := rwk_bd ‹RWK _ _ _ _ _ _› (fun j a b => by have := hK_0_10 j a b; omega)
       exact btw_bd (btw_q (a := x12) (o := x14) (u := x3) (by assumption) (by assumption) (by omega) (by omega) (by omega)) (by omega) (by omega))
    | (have q := rwk_bd (rwk_step (k_zq := x15 + 1) (p_zq := x21) ‹RWK _ _ _ _ _ _› (by omega) (by assumption) rfl (by omega)) (fun j a b => by have := hK_0_10 j a b; omega)
       exact btw_bd (btw_q (a := x12) (o := x21) (u := x3) (by assumption) (by assumption) (by omega) (by omega) (by omega)) (by omega) (by omega))
  

def o_Pl_layRow_22 : or_T := (124, 24, [(0, (2, 0, 0, [6])), (1, (0, 0, 31, [])), (2, (0, 1, 32, [])), (3, (0, 1, 131071, [])), (5, (2, 0, 0, [0])), (6, (2, 0, 0, [6])), (7, (0, 0, 31, [])), (8, (0, 1, 32, [])), (9, (0, 1, 131071, [])), (11, (0, 0, 1, [])), (12, (0, -512, 512, [])), (13, (0, -512, 512, [])), (14, (0, 0, 76800, [])), (15, (0, 0, 31, [])), (16, (2, 0, 0, [0])), (17, (0, -39321600, 39321600, [])), (18, (0, -512, 512, [])), (19, (2, 0, 0, [96])), (20, (0, 0, 2400, [])), (21, (0, 0, 76800, [])), (22, (0, -39321600, 39321600, [])), (23, (0, -39321600, 39321600, []))], [(4, [23, 22, 9], []), (3, [22, 12, 21], []), (1, [21, 14, 20], []), (10, [20, 19, 15], []), (9, [19, 6], [10]), (4, [18, 17, 9], []), (3, [17, 12, 14], []), (8, [9], [4]), (7, [15, 8], [2]), (20, [6], [60, 0, 1, 845, 12]), (20, [16], [60, 0, 1, 844, 13]), (24, [5, 16], []), (20, [6, 11, 12, 13], [60, 0, 1, 851, 12]), (20, [6, 7, 8, 9, 15, 14], [60, 0, 1, 849, 10]), (24, [0, 6], []), (24, [1, 7], []), (24, [2, 8], []), (24, [3, 9], [])], [(23, (0, -512, 512, []))], [], [], [], [(21, 20, 0, 76800), (21, 14, 0, 2400), (15, 8, -4294967296, -1), (1, 7, -4294967296, 0), (1, 15, -4294967296, 0), (2, 8, -4294967296, 0), (3, 9, -4294967296, 0), (3, 13, -4294967296, 131071), (7, 1, -4294967296, 0), (7, 15, -4294967296, 0), (8, 2, -4294967296, 0), (9, 3, -4294967296, 0), (9, 13, -4294967296, 131071)])
theorem oo_Pl_layRow_22 {kA : Nat → ClassId} : or_ok PRD kA GG o_Pl_layRow_22 := by
  refine or_mk fun A ta ws vs hD hth hl => ?_
  intro t0 r0 t1 k1 t2 k2 t3 k3 t5 r5 t6 r6 t7 k7 t8 k8 t9 k9 t11 k11 t12 k12 t13 k13 t14 k14 t15 k15 t16 r16 t17 k17 t18 k18 t19 r19 t20 k20 t21 k21 t22 k22 t23 k23 d0 d1 d2 d3 d4 d5 d6 d7 d8 d9 d10 d11 d12 f0 f1 f2 f3 f4 f5 f6 f7 f8 f9 f10 f11 f12 f13 f14 f15 f16 f17
  replace f0 := shm_34 f0
  replace f3 := shm_107 f3
  replace f4 := shm_106 f4
  replace f5 := shm_34 f5
  replace f7 := shm_308 f7
  replace f8 := shm_6 f8
  replace f9 := shm_885 f9
  replace f10 := shm_418 f10
  replace f11 := shm_5 f11
  replace f12 := shm_887 f12
  replace f13 := shm_889 f13
  replace f14 := shm_5 f14
  replace f15 := shm_5 f15
  replace f16 := shm_5 f16
  replace f17 := shm_5 f17
  have q16 : n_v vs 16 = n_v vs 5 := f11.symm
  have q6 : n_v vs 6 = n_v vs 0 := f14.symm
  have q7 : n_v vs 7 = n_v vs 1 := f15.symm
  have q8 : n_v vs 8 = n_v vs 2 := f16.symm
  have q9 : n_v vs 9 = n_v vs 3 := f17.symm
  simp only [q9, q6, q8, q16, q7] at f0 f4 f5 f7 f8 f9 f10 f12 f13
  have cr_0_10 := fdq_9 hD hth r0
  have cr_0_12 := fdq_226 hD hth r0
  have cr_5_13 := fdq_88 hD hth r5
  have ad_19 : v_ad (n_v vs 19) = w_ar ws (n_v vs 0) 10 := congrArg v_ad f4
  simp only [ad_19] at f3
  have h3 : v_iv (n_v vs 20) = w_ei ws (w_ar ws (n_v vs 0) 10) (v_iv (n_v vs 15)) := f3
  have hK_0_10 := elq_138 hD hth cr_0_10
  have hK_0_12 := elq_139 hD hth cr_0_12
  have hK_5_13 := elq_44 hD hth cr_5_13
  have hrf0 : (-512) ≤ v_iv (n_v vs 23) ∧ v_iv (n_v vs 23) ≤ 512 := vc_Pl_layRow_22_r0 (v_iv (n_v vs 1)) (v_iv (n_v vs 2)) (v_iv (n_v vs 3)) (v_iv (n_v vs 7)) (v_iv (n_v vs 8)) (v_iv (n_v vs 9)) (v_iv (n_v vs 11)) (v_iv (n_v vs 12)) (v_iv (n_v vs 13)) (v_iv (n_v vs 14)) (v_iv (n_v vs 15)) (v_iv (n_v vs 17)) (v_iv (n_v vs 18)) (v_iv (n_v vs 20)) (v_iv (n_v vs 21)) (v_iv (n_v vs 22)) (v_iv (n_v vs 23)) (w_ei ws (w_ar ws (n_v vs 0) 10)) (w_ei ws (w_ar ws (n_v vs 0) 12)) (w_ei ws (w_ar ws (n_v vs 5) 13)) k1 k2 k3 k7 k8 k9 k11 k12 k13 k14 k15 k17 k18 k20 k21 k22 k23 d0 d1 d2 d3 d4 d5 d6 d7 d8 d9 d10 d11 d12 f0 (shm_38 f1) (shm_12 f2) h3 f5 (shm_38 f6) f7 f8 f9 f10 f12 f13 hK_0_10 hK_0_12 hK_5_13
  have rf23 : tv_ok ta (0, -512, 512, []) (n_v vs 23) := tv_in t23 (by first | omega | grind) (by first | omega | grind)
  refine ⟨List.forall_mem_cons.mpr ⟨rf23, (fun _ h => (by cases h))⟩, [], trivial, ?_, (fun _ h => (by cases h))⟩
  rw [List.append_nil]
  exact (fun _ h => (by cases h))
set_option maxHeartbeats 4000000 in
theorem vc_Pl_layRow_23_0 (x1 : Int) (x2 : Int) (x3 : Int) (x7 : Int) (x8 : Int) (x9 : Int) (x11 : Int) (x12 : Int) (x13 : Int) (x14 : Int) (x15 : Int) (x17 : Int) (x18 : Int) (x20 : Int) (x21 : Int) (x22 : Int) (x23 : Int) (itemSize_0 : Int → Int) (space_0 : Int → Int) (area_0o5 : Int → Int) (k1 : 0 ≤ x1 ∧ x1 ≤ 31) (k2 : 1 ≤ x2 ∧ x2 ≤ 32) (k3 : 1 ≤ x3 ∧ x3 ≤ 131071) (k7 : 0 ≤ x7 ∧ x7 ≤ 31) (k8 : 1 ≤ x8 ∧ x8 ≤ 32) (k9 : 1 ≤ x9 ∧ x9 ≤ 131071) (k11 : 0 ≤ x11 ∧ x11 ≤ 1) (k12 : (-512) ≤ x12 ∧ x12 ≤ 512) (k13 : (-512) ≤ x13 ∧ x13 ≤ 512) (k14 : 0 ≤ x14 ∧ x14 ≤ 76800) (k15 : 0 ≤ x15 ∧ x15 ≤ 31) (k17 : (-39321600) ≤ x17 ∧ x17 ≤ 39321600) (k18 : (-512) ≤ x18 ∧ x18 ≤ 512) (k20 : 0 ≤ x20 ∧ x20 ≤ 2400) (k21 : 0 ≤ x21 ∧ x21 ≤ 76800) (k22 : (-39321600) ≤ x22 ∧ x22 ≤ 39321600) (k23 : (-512) ≤ x23 ∧ x23 ≤ 512) (d0 : x20 + 0 ≤ x21 ∧ x21 ≤ x20 + 76800) (d1 : x14 + 0 ≤ x21 ∧ x21 ≤ x14 + 2400) (d2 : x8 + (-4294967296) ≤ x15 ∧ x15 ≤ x8 + (-1)) (d3 : x7 + (-4294967296) ≤ x1 ∧ x1 ≤ x7 + 0) (d4 : x15 + (-4294967296) ≤ x1 ∧ x1 ≤ x15 + 0) (d5 : x8 + (-4294967296) ≤ x2 ∧ x2 ≤ x8 + 0) (d6 : x9 + (-4294967296) ≤ x3 ∧ x3 ≤ x9 + 0) (d7 : x13 + (-4294967296) ≤ x3 ∧ x3 ≤ x13 + 131071) (d8 : x1 + (-4294967296) ≤ x7 ∧ x7 ≤ x1 + 0) (d9 : x15 + (-4294967296) ≤ x7 ∧ x7 ≤ x15 + 0) (d10 : x2 + (-4294967296) ≤ x8 ∧ x8 ≤ x2 + 0) (d11 : x3 + (-4294967296) ≤ x9 ∧ x9 ≤ x3 + 0) (d12 : x13 + (-4294967296) ≤ x9 ∧ x9 ≤ x13 + 131071) (f0 : x23 = Int.tdiv (x22) (x3)) (f1 : x22 = x12 * x21) (f2 : x21 = x14 + x20) (h3 : x20 = itemSize_0 (x15)) (f5 : x18 = Int.tdiv (x17) (x3)) (f6 : x17 = x12 * x14) (f7 : 0 < x3) (f8 : x15 < x2) (f9 : SPC (space_0)) (f10 : BXA (area_0o5)) (f12 : RWA (space_0) (x11) (x12) (x13)) (f13 : RWK (itemSize_0) (x1) (x2) (x3) (x15) (x14)) (hK_0_10 : ∀ j : Int, 0 ≤ j → j < 32 → 0 ≤ itemSize_0 j ∧ itemSize_0 j ≤ 2400) (hK_0_12 : ∀ j : Int, 0 ≤ j → j < 4 → (-512) ≤ space_0 j ∧ space_0 j ≤ 512) (hK_5_13 : ∀ j : Int, 0 ≤ j → j < 128 → (-512) ≤ area_0o5 j ∧ area_0o5 j ≤ 512) : BTW (x18) (x12) := by
  first
    | assumption
    | (have q := rwk_bd ‹RWK _ _ _ _ _ _› (fun j a b => by have := hK_0_10 j a b; omega)
       exact btw_q (o := x14) (u := x3) (by assumption) (by assumption) (by omega) (by omega) (by omega))
    | (have q := rwk_bd (rwk_step (k_zq := x15 + 1) (p_zq := x21) ‹RWK _ _ _ _ _ _› (by omega) (by assumption) rfl (by omega)) (fun j a b => by have := hK_0_10 j a b; omega)
       exact btw_q (o := x21) (u := x3) (by assumption) (by assumption) (by omega) (by omega) (by omega))
  
set_option maxHeartbeats 4000000 in
theorem vc_Pl_layRow_23_1 (x1 : Int) (x2 : Int) (x3 : Int) (x7 : Int) (x8 : Int) (x9 : Int) (x11 : Int) (x12 : Int) (x13 : Int) (x14 : Int) (x15 : Int) (x17 : Int) (x18 : Int) (x20 : Int) (x21 : Int) (x22 : Int) (x23 : Int) (itemSize_0 : Int → Int) (space_0 : Int → Int) (area_0o5 : Int → Int) (k1 : 0 ≤ x1 ∧ x1 ≤ 31) (k2 : 1 ≤ x2 ∧ x2 ≤ 32) (k3 : 1 ≤ x3 ∧ x3 ≤ 131071) (k7 : 0 ≤ x7 ∧ x7 ≤ 31) (k8 : 1 ≤ x8 ∧ x8 ≤ 32) (k9 : 1 ≤ x9 ∧ x9 ≤ 131071) (k11 : 0 ≤ x11 ∧ x11 ≤ 1) (k12 : (-512) ≤ x12 ∧ x12 ≤ 512) (k13 : (-512) ≤ x13 ∧ x13 ≤ 512) (k14 : 0 ≤ x14 ∧ x14 ≤ 76800) (k15 : 0 ≤ x15 ∧ x15 ≤ 31) (k17 : (-39321600) ≤ x17 ∧ x17 ≤ 39321600) (k18 : (-512) ≤ x18 ∧ x18 ≤ 512) (k20 : 0 ≤ x20 ∧ x20 ≤ 2400) (k21 : 0 ≤ x21 ∧ x21 ≤ 76800) (k22 : (-39321600) ≤ x22 ∧ x22 ≤ 39321600) (k23 : (-512) ≤ x23 ∧ x23 ≤ 512) (d0 : x20 + 0 ≤ x21 ∧ x21 ≤ x20 + 76800) (d1 : x14 + 0 ≤ x21 ∧ x21 ≤ x14 + 2400) (d2 : x8 + (-4294967296) ≤ x15 ∧ x15 ≤ x8 + (-1)) (d3 : x7 + (-4294967296) ≤ x1 ∧ x1 ≤ x7 + 0) (d4 : x15 + (-4294967296) ≤ x1 ∧ x1 ≤ x15 + 0) (d5 : x8 + (-4294967296) ≤ x2 ∧ x2 ≤ x8 + 0) (d6 : x9 + (-4294967296) ≤ x3 ∧ x3 ≤ x9 + 0) (d7 : x13 + (-4294967296) ≤ x3 ∧ x3 ≤ x13 + 131071) (d8 : x1 + (-4294967296) ≤ x7 ∧ x7 ≤ x1 + 0) (d9 : x15 + (-4294967296) ≤ x7 ∧ x7 ≤ x15 + 0) (d10 : x2 + (-4294967296) ≤ x8 ∧ x8 ≤ x2 + 0) (d11 : x3 + (-4294967296) ≤ x9 ∧ x9 ≤ x3 + 0) (d12 : x13 + (-4294967296) ≤ x9 ∧ x9 ≤ x13 + 131071) (f0 : x23 = Int.tdiv (x22) (x3)) (f1 : x22 = x12 * x21) (f2 : x21 = x14 + x20) (h3 : x20 = itemSize_0 (x15)) (f5 : x18 = Int.tdiv (x17) (x3)) (f6 : x17 = x12 * x14) (f7 : 0 < x3) (f8 : x15 < x2) (f9 : SPC (space_0)) (f10 : BXA (area_0o5)) (f12 : RWA (space_0) (x11) (x12) (x13)) (f13 : RWK (itemSize_0) (x1) (x2) (x3) (x15) (x14)) (hK_0_10 : ∀ j : Int, 0 ≤ j → j < 32 → 0 ≤ itemSize_0 j ∧ itemSize_0 j ≤ 2400) (hK_0_12 : ∀ j : Int, 0 ≤ j → j < 4 → (-512) ≤ space_0 j ∧ space_0 j ≤ 512) (hK_5_13 : ∀ j : Int, 0 ≤ j → j < 128 → (-512) ≤ area_0o5 j ∧ area_0o5 j ≤ 512) : BTW (x23) (x12) := by
  first
    | assumption
    | (have q := rwk_bd ‹RWK _ _ _ _ _ _› (fun j a b => by have := hK_0_10 j a b; omega)
       exact btw_q (o := x14) (u := x3) (by assumption) (by assumption) (by omega) (by omega) (by omega))
    | (have q := rwk_bd (rwk_step (k_zq := x15 + 1) (p_zq := x21) ‹RWK _ _ _ _ _ _› (by omega) (by assumption) rfl (by omega)) (fun j a b => by have := hK_0_10 j a b; omega)
       exact btw_q (o := x21) (u := x3) (by assumption) (by assumption) (by omega) (by omega) (by omega))
  
set_option maxHeartbeats 4000000 in
theorem vc_Pl_layRow_23_2 (x1 : Int) (x2 : Int) (x3 : Int) (x7 : Int) (x8 : Int) (x9 : Int) (x11 : Int) (x12 : Int) (x13 : Int) (x14 : Int) (x15 : Int) (x17 : Int) (x18 : Int) (x20 : Int) (x21 : Int) (x22 : Int) (x23 : Int) (itemSize_0 : Int → Int) (space_0 : Int → Int) (area_0o5 : Int → Int) (k1 : 0 ≤ x1 ∧ x1 ≤ 31) (k2 : 1 ≤ x2 ∧ x2 ≤ 32) (k3 : 1 ≤ x3 ∧ x3 ≤ 131071) (k7 : 0 ≤ x7 ∧ x7 ≤ 31) (k8 : 1 ≤ x8 ∧ x8 ≤ 32) (k9 : 1 ≤ x9 ∧ x9 ≤ 131071) (k11 : 0 ≤ x11 ∧ x11 ≤ 1) (k12 : (-512) ≤ x12 ∧ x12 ≤ 512) (k13 : (-512) ≤ x13 ∧ x13 ≤ 512) (k14 : 0 ≤ x14 ∧ x14 ≤ 76800) (k15 : 0 ≤ x15 ∧ x15 ≤ 31) (k17 : (-39321600) ≤ x17 ∧ x17 ≤ 39321600) (k18 : (-512) ≤ x18 ∧ x18 ≤ 512) (k20 : 0 ≤ x20 ∧ x20 ≤ 2400) (k21 : 0 ≤ x21 ∧ x21 ≤ 76800) (k22 : (-39321600) ≤ x22 ∧ x22 ≤ 39321600) (k23 : (-512) ≤ x23 ∧ x23 ≤ 512) (d0 : x20 + 0 ≤ x21 ∧ x21 ≤ x20 + 76800) (d1 : x14 + 0 ≤ x21 ∧ x21 ≤ x14 + 2400) (d2 : x8 + (-4294967296) ≤ x15 ∧ x15 ≤ x8 + (-1)) (d3 : x7 + (-4294967296) ≤ x1 ∧ x1 ≤ x7 + 0) (d4 : x15 + (-4294967296) ≤ x1 ∧ x1 ≤ x15 + 0) (d5 : x8 + (-4294967296) ≤ x2 ∧ x2 ≤ x8 + 0) (d6 : x9 + (-4294967296) ≤ x3 ∧ x3 ≤ x9 + 0) (d7 : x13 + (-4294967296) ≤ x3 ∧ x3 ≤ x13 + 131071) (d8 : x1 + (-4294967296) ≤ x7 ∧ x7 ≤ x1 + 0) (d9 : x15 + (-4294967296) ≤ x7 ∧ x7 ≤ x15 + 0) (d10 : x2 + (-4294967296) ≤ x8 ∧ x8 ≤ x2 + 0) (d11 : x3 + (-4294967296) ≤ x9 ∧ x9 ≤ x3 + 0) (d12 : x13 + (-4294967296) ≤ x9 ∧ x9 ≤ x13 + 131071) (f0 : x23 = Int.tdiv (x22) (x3)) (f1 : x22 = x12 * x21) (f2 : x21 = x14 + x20) (h3 : x20 = itemSize_0 (x15)) (f5 : x18 = Int.tdiv (x17) (x3)) (f6 : x17 = x12 * x14) (f7 : 0 < x3) (f8 : x15 < x2) (f9 : SPC (space_0)) (f10 : BXA (area_0o5)) (f12 : RWA (space_0) (x11) (x12) (x13)) (f13 : RWK (itemSize_0) (x1) (x2) (x3) (x15) (x14)) (hK_0_10 : ∀ j : Int, 0 ≤ j → j < 32 → 0 ≤ itemSize_0 j ∧ itemSize_0 j ≤ 2400) (hK_0_12 : ∀ j : Int, 0 ≤ j → j < 4 → (-512) ≤ space_0 j ∧ space_0 j ≤ 512) (hK_5_13 : ∀ j : Int, 0 ≤ j → j < 128 → (-512) ≤ area_0o5 j ∧ area_0o5 j ≤ 512) : RWL (itemSize_0) (x1) (x2) (x3) (x15) (x21) := by
  first
    | exact rwl_of ‹RWK _ _ _ _ _ _› (by omega) (by assumption) (by omega)
  
def o_Pl_layRow_23 : or_T := (126, 24, [(0, (2, 0, 0, [6])), (1, (0, 0, 31, [])), (2, (0, 1, 32, [])), (3, (0, 1, 131071, [])), (5, (2, 0, 0, [0])), (7, (0, 0, 31, [])), (8, (0, 1, 32, [])), (9, (0, 1, 131071, [])), (11, (0, 0, 1, [])), (12, (0, -512, 512, [])), (13, (0, -512, 512, [])), (14, (0, 0, 76800, [])), (15, (0, 0, 31, [])), (17, (0, -39321600, 39321600, [])), (18, (0, -512, 512, [])), (20, (0, 0, 2400, [])), (21, (0, 0, 76800, [])), (22, (0, -39321600, 39321600, [])), (23, (0, -512, 512, []))], [(4, [23, 22, 9], []), (3, [22, 12, 21], []), (1, [21, 14, 20], []), (10, [20, 19, 15], []), (9, [19, 6], [10]), (4, [18, 17, 9], []), (3, [17, 12, 14], []), (8, [9], [4]), (7, [15, 8], [2]), (20, [6], [60, 0, 1, 845, 12]), (20, [16], [60, 0, 1, 844, 13]), (24, [5, 16], []), (20, [6, 11, 12, 13], [60, 0, 1, 851, 12]), (20, [6, 7, 8, 9, 15, 14], [60, 0, 1, 849, 10]), (24, [0, 6], []), (24, [1, 7], []), (24, [2, 8], []), (24, [3, 9], [])], [], [], [(20, [18, 12], [61, 0, 793]), (20, [23, 12], [61, 0, 793]), (20, [6, 7, 8, 9, 15, 21], [60, 0, 1, 850, 10])], [], [(21, 20, 0, 76800), (21, 14, 0, 2400), (15, 8, -4294967296, -1), (1, 7, -4294967296, 0), (1, 15, -4294967296, 0), (2, 8, -4294967296, 0), (3, 9, -4294967296, 0), (3, 13, -4294967296, 131071), (7, 1, -4294967296, 0), (7, 15, -4294967296, 0), (8, 2, -4294967296, 0), (9, 3, -4294967296, 0), (9, 13, -4294967296, 131071)])
theorem oo_Pl_layRow_23 {kA : Nat → ClassId} : or_ok PRD kA GG o_Pl_layRow_23 := by
  refine or_mk fun A ta ws vs hD hth hl => ?_
  intro t0 r0 t1 k1 t2 k2 t3 k3 t5 r5 t7 k7 t8 k8 t9 k9 t11 k11 t12 k12 t13 k13 t14 k14 t15 k15 t17 k17 t18 k18 t20 k20 t21 k21 t22 k22 t23 k23 d0 d1 d2 d3 d4 d5 d6 d7 d8 d9 d10 d11 d12 f0 f1 f2 f3 f4 f5 f6 f7 f8 f9 f10 f11 f12 f13 f14 f15 f16 f17
  replace f0 := shm_34 f0
  replace f1 := shm_38 f1
  replace f2 := shm_12 f2
  replace f3 := shm_107 f3
  replace f4 := shm_106 f4
  replace f5 := shm_34 f5
  replace f6 := shm_38 f6
  replace f7 := shm_308 f7
  replace f8 := shm_6 f8
  replace f9 := shm_885 f9
  replace f10 := shm_418 f10
  replace f11 := shm_5 f11
  replace f12 := shm_887 f12
  replace f13 := shm_889 f13
  replace f14 := shm_5 f14
  replace f15 := shm_5 f15
  replace f16 := shm_5 f16
  replace f17 := shm_5 f17
  have q16 : n_v vs 16 = n_v vs 5 := f11.symm
  have q6 : n_v vs 6 = n_v vs 0 := f14.symm
  have q7 : n_v vs 7 = n_v vs 1 := f15.symm
  have q8 : n_v vs 8 = n_v vs 2 := f16.symm
  have q9 : n_v vs 9 = n_v vs 3 := f17.symm
  simp only [q9, q6, q8, q16, q7] at f0 f4 f5 f7 f8 f9 f10 f12 f13
  have cr_0_10 := fdq_9 hD hth r0
  have cr_0_12 := fdq_226 hD hth r0
  have cr_5_13 := fdq_88 hD hth r5
  have ad_19 : v_ad (n_v vs 19) = w_ar ws (n_v vs 0) 10 := congrArg v_ad f4
  simp only [ad_19] at f3
  have h3 : v_iv (n_v vs 20) = w_ei ws (w_ar ws (n_v vs 0) 10) (v_iv (n_v vs 15)) := f3
  have hK_0_10 := elq_138 hD hth cr_0_10
  have hK_0_12 := elq_139 hD hth cr_0_12
  have hK_5_13 := elq_44 hD hth cr_5_13
  have nf0 : fc_1 PRD (20, [18, 12], [61, 0, 793]) ws (vs) := ⟨nf_in hl rfl, sgq_890 (vc_Pl_layRow_23_0 (v_iv (n_v vs 1)) (v_iv (n_v vs 2)) (v_iv (n_v vs 3)) (v_iv (n_v vs 7)) (v_iv (n_v vs 8)) (v_iv (n_v vs 9)) (v_iv (n_v vs 11)) (v_iv (n_v vs 12)) (v_iv (n_v vs 13)) (v_iv (n_v vs 14)) (v_iv (n_v vs 15)) (v_iv (n_v vs 17)) (v_iv (n_v vs 18)) (v_iv (n_v vs 20)) (v_iv (n_v vs 21)) (v_iv (n_v vs 22)) (v_iv (n_v vs 23)) (w_ei ws (w_ar ws (n_v vs 0) 10)) (w_ei ws (w_ar ws (n_v vs 0) 12)) (w_ei ws (w_ar ws (n_v vs 5) 13)) k1 k2 k3 k7 k8 k9 k11 k12 k13 k14 k15 k17 k18 k20 k21 k22 k23 d0 d1 d2 d3 d4 d5 d6 d7 d8 d9 d10 d11 d12 f0 f1 f2 h3 f5 f6 f7 f8 f9 f10 f12 f13 hK_0_10 hK_0_12 hK_5_13)⟩
  have nf1 : fc_1 PRD (20, [23, 12], [61, 0, 793]) ws (vs) := ⟨nf_in hl rfl, sgq_890 (vc_Pl_layRow_23_1 (v_iv (n_v vs 1)) (v_iv (n_v vs 2)) (v_iv (n_v vs 3)) (v_iv (n_v vs 7)) (v_iv (n_v vs 8)) (v_iv (n_v vs 9)) (v_iv (n_v vs 11)) (v_iv (n_v vs 12)) (v_iv (n_v vs 13)) (v_iv (n_v vs 14)) (v_iv (n_v vs 15)) (v_iv (n_v vs 17)) (v_iv (n_v vs 18)) (v_iv (n_v vs 20)) (v_iv (n_v vs 21)) (v_iv (n_v vs 22)) (v_iv (n_v vs 23)) (w_ei ws (w_ar ws (n_v vs 0) 10)) (w_ei ws (w_ar ws (n_v vs 0) 12)) (w_ei ws (w_ar ws (n_v vs 5) 13)) k1 k2 k3 k7 k8 k9 k11 k12 k13 k14 k15 k17 k18 k20 k21 k22 k23 d0 d1 d2 d3 d4 d5 d6 d7 d8 d9 d10 d11 d12 f0 f1 f2 h3 f5 f6 f7 f8 f9 f10 f12 f13 hK_0_10 hK_0_12 hK_5_13)⟩
  have nf2 : fc_1 PRD (20, [6, 7, 8, 9, 15, 21], [60, 0, 1, 850, 10]) ws (vs) := by
    refine ⟨nf_in hl rfl, sgq_891 ?_⟩
    · show RWL (w_ei ws (w_ar ws (n_v vs 6) 10)) (v_iv (n_v vs 7)) (v_iv (n_v vs 8)) (v_iv (n_v vs 9)) (v_iv (n_v vs 15)) (v_iv (n_v vs 21))
      simp only [q6, q7, q8, q9]
      exact vc_Pl_layRow_23_2 (v_iv (n_v vs 1)) (v_iv (n_v vs 2)) (v_iv (n_v vs 3)) (v_iv (n_v vs 7)) (v_iv (n_v vs 8)) (v_iv (n_v vs 9)) (v_iv (n_v vs 11)) (v_iv (n_v vs 12)) (v_iv (n_v vs 13)) (v_iv (n_v vs 14)) (v_iv (n_v vs 15)) (v_iv (n_v vs 17)) (v_iv (n_v vs 18)) (v_iv (n_v vs 20)) (v_iv (n_v vs 21)) (v_iv (n_v vs 22)) (v_iv (n_v vs 23)) (w_ei ws (w_ar ws (n_v vs 0) 10)) (w_ei ws (w_ar ws (n_v vs 0) 12)) (w_ei ws (w_ar ws (n_v vs 5) 13)) k1 k2 k3 k7 k8 k9 k11 k12 k13 k14 k15 k17 k18 k20 k21 k22 k23 d0 d1 d2 d3 d4 d5 d6 d7 d8 d9 d10 d11 d12 f0 f1 f2 h3 f5 f6 f7 f8 f9 f10 f12 f13 hK_0_10 hK_0_12 hK_5_13
  refine ⟨(fun _ h => (by cases h)), [], trivial, ?_, (fun _ h => (by cases h))⟩
  rw [List.append_nil]
  exact List.forall_mem_cons.mpr ⟨⟨show (20 : Nat) < 100 from by decide, nf0⟩, List.forall_mem_cons.mpr ⟨⟨show (20 : Nat) < 100 from by decide, nf1⟩, List.forall_mem_cons.mpr ⟨⟨show (20 : Nat) < 100 from by decide, nf2⟩, (fun _ h => (by cases h))⟩⟩⟩
set_option maxHeartbeats 4000000 in
theorem vc_Pl_layRow_24_r0 (x1 : Int) (x2 : Int) (x3 : Int) (x7 : Int) (x8 : Int) (x9 : Int) (x11 : Int) (x12 : Int) (x13 : Int) (x14 : Int) (x15 : Int) (x17 : Int) (x18 : Int) (x20 : Int) (x21 : Int) (x22 : Int) (x23 : Int) (x27 : Int) (x28 : Int) (x29 : Int) (x30 : Int) (x31 : Int) (x32 : Int) (space_0 : Int → Int) (itemSize_0 : Int → Int) (area_0o5 : Int → Int) (k1 : 0 ≤ x1 ∧ x1 ≤ 31) (k2 : 1 ≤ x2 ∧ x2 ≤ 32) (k3 : 1 ≤ x3 ∧ x3 ≤ 131071) (k7 : 0 ≤ x7 ∧ x7 ≤ 31) (k8 : 1 ≤ x8 ∧ x8 ≤ 32) (k9 : 1 ≤ x9 ∧ x9 ≤ 131071) (k11 : 0 ≤ x11 ∧ x11 ≤ 0) (k12 : (-512) ≤ x12 ∧ x12 ≤ 512) (k13 : (-512) ≤ x13 ∧ x13 ≤ 512) (k14 : 0 ≤ x14 ∧ x14 ≤ 76800) (k15 : 0 ≤ x15 ∧ x15 ≤ 31) (k17 : (-39321600) ≤ x17 ∧ x17 ≤ 39321600) (k18 : (-512) ≤ x18 ∧ x18 ≤ 512) (k20 : 0 ≤ x20 ∧ x20 ≤ 2400) (k21 : 0 ≤ x21 ∧ x21 ≤ 76800) (k22 : (-39321600) ≤ x22 ∧ x22 ≤ 39321600) (k23 : (-512) ≤ x23 ∧ x23 ≤ 512) (k27 : 0 ≤ x27 ∧ x27 ≤ 0) (k28 : (-512) ≤ x28 ∧ x28 ≤ 512) (k29 : 1 ≤ x29 ∧ x29 ≤ 1) (k30 : (-512) ≤ x30 ∧ x30 ≤ 512) (k31 : (-1024) ≤ x31 ∧ x31 ≤ 1024) (k32 : (-1024) ≤ x32 ∧ x32 ≤ 1024) (d0 : x23 + (-512) ≤ x32 ∧ x32 ≤ x23 + 512) (d1 : x18 + (-512) ≤ x31 ∧ x31 ≤ x18 + 512) (d2 : x30 + (-512) ≤ x31 ∧ x31 ≤ x30 + 512) (d3 : x20 + 0 ≤ x21 ∧ x21 ≤ x20 + 76800) (d4 : x14 + 0 ≤ x21 ∧ x21 ≤ x14 + 2400) (d5 : x8 + (-4294967296) ≤ x15 ∧ x15 ≤ x8 + (-1)) (d6 : x7 + (-4294967296) ≤ x1 ∧ x1 ≤ x7 + 0) (d7 : x15 + (-4294967296) ≤ x1 ∧ x1 ≤ x15 + 0) (d8 : x8 + (-4294967296) ≤ x2 ∧ x2 ≤ x8 + 0) (d9 : x9 + (-4294967296) ≤ x3 ∧ x3 ≤ x9 + 0) (d10 : x13 + (-4294967296) ≤ x3 ∧ x3 ≤ x13 + 131071) (d11 : x1 + (-4294967296) ≤ x7 ∧ x7 ≤ x1 + 0) (d12 : x15 + (-4294967296) ≤ x7 ∧ x7 ≤ x15 + 0) (d13 : x2 + (-4294967296) ≤ x8 ∧ x8 ≤ x2 + 0) (d14 : x3 + (-4294967296) ≤ x9 ∧ x9 ≤ x3 + 0) (d15 : x13 + (-4294967296) ≤ x9 ∧ x9 ≤ x13 + 131071) (f0 : x32 = x23 - x18) (f1 : x31 = x30 + x18) (h2 : x30 = space_0 (x29)) (h4 : x28 = space_0 (x27)) (f5 : x11 = 0) (f6 : BTW (x18) (x12)) (f7 : BTW (x23) (x12)) (f8 : RWL (itemSize_0) (x1) (x2) (x3) (x15) (x21)) (f9 : x23 = Int.tdiv (x22) (x3)) (f10 : x22 = x12 * x21) (f11 : x21 = x14 + x20) (h12 : x20 = itemSize_0 (x15)) (f14 : x18 = Int.tdiv (x17) (x3)) (f15 : x17 = x12 * x14) (f16 : 0 < x3) (f17 : x15 < x2) (f18 : SPC (space_0)) (f19 : BXA (area_0o5)) (f21 : RWA (space_0) (x11) (x12) (x13)) (f22 : RWK (itemSize_0) (x1) (x2) (x3) (x15) (x14)) (hK_0_10 : ∀ j : Int, 0 ≤ j → j < 32 → 0 ≤ itemSize_0 j ∧ itemSize_0 j ≤ 2400) (hK_0_12 : ∀ j : Int, 0 ≤ j → j < 4 → (-512) ≤ space_0 j ∧ space_0 j ≤ 512) (hK_5_13 : ∀ j : Int, 0 ≤ j → j < 128 → (-512) ≤ area_0o5 j ∧ area_0o5 j ≤ 512) : 0 ≤ x28 ∧ x28 ≤ 512 := by
  first
    | omega
    | (have e1 := ‹x28 = space_0 x27›
       have e2 := ‹x30 = space_0 x29›
       rw [show x27 = 0 by omega] at e1
       rw [show x29 = 1 by omega] at e2
       rcases ‹RWA _ _ _ _› with ⟨t, ea, b⟩ | ⟨t, ea, b⟩
       · exfalso; omega
       · have g1 := hul_to (‹SPC _›).1 b
         have s2 := (‹SPC _›).2
         rw [← ea] at s2
         have g2 := hul_c2 (p := x31) (q := x32) s2 (show BTW x18 x12 by assumption) (show BTW x23 x12 by assumption) (by omega) (by assumption)
         rw [← e1] at g1
         unfold HUL at g1 g2
         omega)
  
set_option maxHeartbeats 4000000 in
theorem vc_Pl_layRow_24_r1 (x1 : Int) (x2 : Int) (x3 : Int) (x7 : Int) (x8 : Int) (x9 : Int) (x11 : Int) (x12 : Int) (x13 : Int) (x14 : Int) (x15 : Int) (x17 : Int) (x18 : Int) (x20 : Int) (x21 : Int) (x22 : Int) (x23 : Int) (x27 : Int) (x28 : Int) (x29 : Int) (x30 : Int) (x31 : Int) (x32 : Int) (space_0 : Int → Int) (itemSize_0 : Int → Int) (area_0o5 : Int → Int) (k1 : 0 ≤ x1 ∧ x1 ≤ 31) (k2 : 1 ≤ x2 ∧ x2 ≤ 32) (k3 : 1 ≤ x3 ∧ x3 ≤ 131071) (k7 : 0 ≤ x7 ∧ x7 ≤ 31) (k8 : 1 ≤ x8 ∧ x8 ≤ 32) (k9 : 1 ≤ x9 ∧ x9 ≤ 131071) (k11 : 0 ≤ x11 ∧ x11 ≤ 0) (k12 : (-512) ≤ x12 ∧ x12 ≤ 512) (k13 : (-512) ≤ x13 ∧ x13 ≤ 512) (k14 : 0 ≤ x14 ∧ x14 ≤ 76800) (k15 : 0 ≤ x15 ∧ x15 ≤ 31) (k17 : (-39321600) ≤ x17 ∧ x17 ≤ 39321600) (k18 : (-512) ≤ x18 ∧ x18 ≤ 512) (k20 : 0 ≤ x20 ∧ x20 ≤ 2400) (k21 : 0 ≤ x21 ∧ x21 ≤ 76800) (k22 : (-39321600) ≤ x22 ∧ x22 ≤ 39321600) (k23 : (-512) ≤ x23 ∧ x23 ≤ 512) (k27 : 0 ≤ x27 ∧ x27 ≤ 0) (k28 : (-512) ≤ x28 ∧ x28 ≤ 512) (k29 : 1 ≤ x29 ∧ x29 ≤ 1) (k30 : (-512) ≤ x30 ∧ x30 ≤ 512) (k31 : (-1024) ≤ x31 ∧ x31 ≤ 1024) (k32 : (-1024) ≤ x32 ∧ x32 ≤ 1024) (d0 : x23 + (-512) ≤ x32 ∧ x32 ≤ x23 + 512) (d1 : x18 + (-512) ≤ x31 ∧ x31 ≤ x18 + 512) (d2 : x30 + (-512) ≤ x31 ∧ x31 ≤ x30 + 512) (d3 : x20 + 0 ≤ x21 ∧ x21 ≤ x20 + 76800) (d4 : x14 + 0 ≤ x21 ∧ x21 ≤ x14 + 2400) (d5 : x8 + (-4294967296) ≤ x15 ∧ x15 ≤ x8 + (-1)) (d6 : x7 + (-4294967296) ≤ x1 ∧ x1 ≤ x7 + 0) (d7 : x15 + (-4294967296) ≤ x1 ∧ x1 ≤ x15 + 0) (d8 : x8 + (-4294967296) ≤ x2 ∧ x2 ≤ x8 + 0) (d9 : x9 + (-4294967296) ≤ x3 ∧ x3 ≤ x9 + 0) (d10 : x13 + (-4294967296) ≤ x3 ∧ x3 ≤ x13 + 131071) (d11 : x1 + (-4294967296) ≤ x7 ∧ x7 ≤ x1 + 0) (d12 : x15 + (-4294967296) ≤ x7 ∧ x7 ≤ x15 + 0) (d13 : x2 + (-4294967296) ≤ x8 ∧ x8 ≤ x2 + 0) (d14 : x3 + (-4294967296) ≤ x9 ∧ x9 ≤ x3 + 0) (d15 : x13 + (-4294967296) ≤ x9 ∧ x9 ≤ x13 + 131071) (f0 : x32 = x23 - x18) (f1 : x31 = x30 + x18) (h2 : x30 = space_0 (x29)) (h4 : x28 = space_0 (x27)) (f5 : x11 = 0) (f6 : BTW (x18) (x12)) (f7 : BTW (x23) (x12)) (f8 : RWL (itemSize_0) (x1) (x2) (x3) (x15) (x21)) (f9 : x23 = Int.tdiv (x22) (x3)) (f10 : x22 = x12 * x21) (f11 : x21 = x14 + x20) (h12 : x20 = itemSize_0 (x15)) (f14 : x18 = Int.tdiv (x17) (x3)) (f15 : x17 = x12 * x14) (f16 : 0 < x3) (f17 : x15 < x2) (f18 : SPC (space_0)) (f19 : BXA (area_0o5)) (f21 : RWA (space_0) (x11) (x12) (x13)) (f22 : RWK (itemSize_0) (x1) (x2) (x3) (x15) (x14)) (hK_0_10 : ∀ j : Int, 0 ≤ j → j < 32 → 0 ≤ itemSize_0 j ∧ itemSize_0 j ≤ 2400) (hK_0_12 : ∀ j : Int, 0 ≤ j → j < 4 → (-512) ≤ space_0 j ∧ space_0 j ≤ 512) (hK_5_13 : ∀ j : Int, 0 ≤ j → j < 128 → (-512) ≤ area_0o5 j ∧ area_0o5 j ≤ 512) : 0 ≤ x31 ∧ x31 ≤ 512 := by
  first
    | omega
    | (have e1 := ‹x28 = space_0 x27›
       have e2 := ‹x30 = space_0 x29›
       rw [show x27 = 0 by omega] at e1
       rw [show x29 = 1 by omega] at e2
       rcases ‹RWA _ _ _ _› with ⟨t, ea, b⟩ | ⟨t, ea, b⟩
       · exfalso; omega
       · have g1 := hul_to (‹SPC _›).1 b
         have s2 := (‹SPC _›).2
         rw [← ea] at s2
         have g2 := hul_c2 (p := x31) (q := x32) s2 (show BTW x18 x12 by assumption) (show BTW x23 x12 by assumption) (by omega) (by assumption)
         rw [← e1] at g1
         unfold HUL at g1 g2
         omega)
  
set_option maxHeartbeats 4000000 in
theorem vc_Pl_layRow_24_r2 (x1 : Int) (x2 : Int) (x3 : Int) (x7 : Int) (x8 : Int) (x9 : Int) (x11 : Int) (x12 : Int) (x13 : Int) (x14 : Int) (x15 : Int) (x17 : Int) (x18 : Int) (x20 : Int) (x21 : Int) (x22 : Int) (x23 : Int) (x27 : Int) (x28 : Int) (x29 : Int) (x30 : Int) (x31 : Int) (x32 : Int) (space_0 : Int → Int) (itemSize_0 : Int → Int) (area_0o5 : Int → Int) (k1 : 0 ≤ x1 ∧ x1 ≤ 31) (k2 : 1 ≤ x2 ∧ x2 ≤ 32) (k3 : 1 ≤ x3 ∧ x3 ≤ 131071) (k7 : 0 ≤ x7 ∧ x7 ≤ 31) (k8 : 1 ≤ x8 ∧ x8 ≤ 32) (k9 : 1 ≤ x9 ∧ x9 ≤ 131071) (k11 : 0 ≤ x11 ∧ x11 ≤ 0) (k12 : (-512) ≤ x12 ∧ x12 ≤ 512) (k13 : (-512) ≤ x13 ∧ x13 ≤ 512) (k14 : 0 ≤ x14 ∧ x14 ≤ 76800) (k15 : 0 ≤ x15 ∧ x15 ≤ 31) (k17 : (-39321600) ≤ x17 ∧ x17 ≤ 39321600) (k18 : (-512) ≤ x18 ∧ x18 ≤ 512) (k20 : 0 ≤ x20 ∧ x20 ≤ 2400) (k21 : 0 ≤ x21 ∧ x21 ≤ 76800) (k22 : (-39321600) ≤ x22 ∧ x22 ≤ 39321600) (k23 : (-512) ≤ x23 ∧ x23 ≤ 512) (k27 : 0 ≤ x27 ∧ x27 ≤ 0) (k28 : (-512) ≤ x28 ∧ x28 ≤ 512) (k29 : 1 ≤ x29 ∧ x29 ≤ 1) (k30 : (-512) ≤ x30 ∧ x30 ≤ 512) (k31 : (-1024) ≤ x31 ∧ x31 ≤ 1024) (k32 : (-1024) ≤ x32 ∧ x32 ≤ 1024) (d0 : x23 + (-512) ≤ x32 ∧ x32 ≤ x23 + 512) (d1 : x18 + (-512) ≤ x31 ∧ x31 ≤ x18 + 512) (d2 : x30 + (-512) ≤ x31 ∧ x31 ≤ x30 + 512) (d3 : x20 + 0 ≤ x21 ∧ x21 ≤ x20 + 76800) (d4 : x14 + 0 ≤ x21 ∧ x21 ≤ x14 + 2400) (d5 : x8 + (-4294967296) ≤ x15 ∧ x15 ≤ x8 + (-1)) (d6 : x7 + (-4294967296) ≤ x1 ∧ x1 ≤ x7 + 0) (d7 : x15 + (-4294967296) ≤ x1 ∧ x1 ≤ x15 + 0) (d8 : x8 + (-4294967296) ≤ x2 ∧ x2 ≤ x8 + 0) (d9 : x9 + (-4294967296) ≤ x3 ∧ x3 ≤ x9 + 0) (d10 : x13 + (-4294967296) ≤ x3 ∧ x3 ≤ x13 + 131071) (d11 : x1 + (-4294967296) ≤ x7 ∧ x7 ≤ x1 + 0) (d12 : x15 + (-4294967296) ≤ x7 ∧ x7 ≤ x15 + 0) (d13 : x2 + (-4294967296) ≤ x8 ∧ x8 ≤ x2 + 0) (d14 : x3 + (-4294967296) ≤ x9 ∧ x9 ≤ x3 + 0) (d15 : x13 + (-4294967296) ≤ x9 ∧ x9 ≤ x13 + 131071) (f0 : x32 = x23 - x18) (f1 : x31 = x30 + x18) (h2 : x30 = space_0 (x29)) (h4 : x28 = space_0 (x27)) (f5 : x11 = 0) (f6 : BTW (x18) (x12)) (f7 : BTW (x23) (x12)) (f8 : RWL (itemSize_0) (x1) (x2) (x3) (x15) (x21)) (f9 : x23 = Int.tdiv (x22) (x3)) (f10 : x22 = x12 * x21) (f11 : x21 = x14 + x20) (h12 : x20 = itemSize_0 (x15)) (f14 : x18 = Int.tdiv (x17) (x3)) (f15 : x17 = x12 * x14) (f16 : 0 < x3) (f17 : x15 < x2) (f18 : SPC (space_0)) (f19 : BXA (area_0o5)) (f21 : RWA (space_0) (x11) (x12) (x13)) (f22 : RWK (itemSize_0) (x1) (x2) (x3) (x15) (x14)) (hK_0_10 : ∀ j : Int, 0 ≤ j → j < 32 → 0 ≤ itemSize_0 j ∧ itemSize_0 j ≤ 2400) (hK_0_12 : ∀ j : Int, 0 ≤ j → j < 4 → (-512) ≤ space_0 j ∧ space_0 j ≤ 512) (hK_5_13 : ∀ j : Int, 0 ≤ j → j < 128 → (-512) ≤ area_0o5 j ∧ area_0o5 j ≤ 512) : (-512) ≤ x32 ∧ x32 ≤ 512 := by
  first
    | omega
    | (have e1 := ‹x28 = space_0 x27›
       have e2 := ‹x30 = space_0 x29›
       rw [show x27 = 0 by omega] at e1
       rw [show x29 = 1 by omega] at e2
       rcases ‹RWA _ _ _ _› with ⟨t, ea, b⟩ | ⟨t, ea, b⟩
       · exfalso; omega
       · have g1 := hul_to (‹SPC _›).1 b
         have s2 := (‹SPC _›).2
         rw [← ea] at s2
         have g2 := hul_c2 (p := x31) (q := x32) s2 (show BTW x18 x12 by assumption) (show BTW x23 x12 by assumption) (by omega) (by assumption)
         rw [← e1] at g1
         unfold HUL at g1 g2
         omega)
  
set_option maxHeartbeats 4000000 in
theorem vc_Pl_layRow_24_0 (x1 : Int) (x2 : Int) (x3 : Int) (x7 : Int) (x8 : Int) (x9 : Int) (x11 : Int) (x12 : Int) (x13 : Int) (x14 : Int) (x15 : Int) (x17 : Int) (x18 : Int) (x20 : Int) (x21 : Int) (x22 : Int) (x23 : Int) (x27 : Int) (x28 : Int) (x29 : Int) (x30 : Int) (x31 : Int) (x32 : Int) (space_0 : Int → Int) (itemSize_0 : Int → Int) (area_0o5 : Int → Int) (k1 : 0 ≤ x1 ∧ x1 ≤ 31) (k2 : 1 ≤ x2 ∧ x2 ≤ 32) (k3 : 1 ≤ x3 ∧ x3 ≤ 131071) (k7 : 0 ≤ x7 ∧ x7 ≤ 31) (k8 : 1 ≤ x8 ∧ x8 ≤ 32) (k9 : 1 ≤ x9 ∧ x9 ≤ 131071) (k11 : 0 ≤ x11 ∧ x11 ≤ 0) (k12 : (-512) ≤ x12 ∧ x12 ≤ 512) (k13 : (-512) ≤ x13 ∧ x13 ≤ 512) (k14 : 0 ≤ x14 ∧ x14 ≤ 76800) (k15 : 0 ≤ x15 ∧ x15 ≤ 31) (k17 : (-39321600) ≤ x17 ∧ x17 ≤ 39321600) (k18 : (-512) ≤ x18 ∧ x18 ≤ 512) (k20 : 0 ≤ x20 ∧ x20 ≤ 2400) (k21 : 0 ≤ x21 ∧ x21 ≤ 76800) (k22 : (-39321600) ≤ x22 ∧ x22 ≤ 39321600) (k23 : (-512) ≤ x23 ∧ x23 ≤ 512) (k27 : 0 ≤ x27 ∧ x27 ≤ 0) (k28 : (-512) ≤ x28 ∧ x28 ≤ 512) (k29 : 1 ≤ x29 ∧ x29 ≤ 1) (k30 : (-512) ≤ x30 ∧ x30 ≤ 512) (k31 : (-1024) ≤ x31 ∧ x31 ≤ 1024) (k32 : (-1024) ≤ x32 ∧ x32 ≤ 1024) (d0 : x23 + (-512) ≤ x32 ∧ x32 ≤ x23 + 512) (d1 : x18 + (-512) ≤ x31 ∧ x31 ≤ x18 + 512) (d2 : x30 + (-512) ≤ x31 ∧ x31 ≤ x30 + 512) (d3 : x20 + 0 ≤ x21 ∧ x21 ≤ x20 + 76800) (d4 : x14 + 0 ≤ x21 ∧ x21 ≤ x14 + 2400) (d5 : x8 + (-4294967296) ≤ x15 ∧ x15 ≤ x8 + (-1)) (d6 : x7 + (-4294967296) ≤ x1 ∧ x1 ≤ x7 + 0) (d7 : x15 + (-4294967296) ≤ x1 ∧ x1 ≤ x15 + 0) (d8 : x8 + (-4294967296) ≤ x2 ∧ x2 ≤ x8 + 0) (d9 : x9 + (-4294967296) ≤ x3 ∧ x3 ≤ x9 + 0) (d10 : x13 + (-4294967296) ≤ x3 ∧ x3 ≤ x13 + 131071) (d11 : x1 + (-4294967296) ≤ x7 ∧ x7 ≤ x1 + 0) (d12 : x15 + (-4294967296) ≤ x7 ∧ x7 ≤ x15 + 0) (d13 : x2 + (-4294967296) ≤ x8 ∧ x8 ≤ x2 + 0) (d14 : x3 + (-4294967296) ≤ x9 ∧ x9 ≤ x3 + 0) (d15 : x13 + (-4294967296) ≤ x9 ∧ x9 ≤ x13 + 131071) (f0 : x32 = x23 - x18) (f1 : x31 = x30 + x18) (h2 : x30 = space_0 (x29)) (h4 : x28 = space_0 (x27)) (f5 : x11 = 0) (f6 : BTW (x18) (x12)) (f7 : BTW (x23) (x12)) (f8 : RWL (itemSize_0) (x1) (x2) (x3) (x15) (x21)) (f9 : x23 = Int.tdiv (x22) (x3)) (f10 : x22 = x12 * x21) (f11 : x21 = x14 + x20) (h12 : x20 = itemSize_0 (x15)) (f14 : x18 = Int.tdiv (x17) (x3)) (f15 : x17 = x12 * x14) (f16 : 0 < x3) (f17 : x15 < x2) (f18 : SPC (space_0)) (f19 : BXA (area_0o5)) (f21 : RWA (space_0) (x11) (x12) (x13)) (f22 : RWK (itemSize_0) (x1) (x2) (x3) (x15) (x14)) (hK_0_10 : ∀ j : Int, 0 ≤ j → j < 32 → 0 ≤ itemSize_0 j ∧ itemSize_0 j ≤ 2400) (hK_0_12 : ∀ j : Int, 0 ≤ j → j < 4 → (-512) ≤ space_0 j ∧ space_0 j ≤ 512) (hK_5_13 : ∀ j : Int, 0 ≤ j → j < 128 → (-512) ≤ area_0o5 j ∧ area_0o5 j ≤ 512) : HUL (x28) (x13) := by
  first
    | (have e1 := ‹x28 = space_0 x27›
       have e2 := ‹x30 = space_0 x29›
       rw [show x27 = 0 by omega] at e1
       rw [show x29 = 1 by omega] at e2
       rcases ‹RWA _ _ _ _› with ⟨t, ea, b⟩ | ⟨t, ea, b⟩
       · exfalso; omega
       · have g1 := hul_to (‹SPC _›).1 b
         have s2 := (‹SPC _›).2
         rw [← ea] at s2
         have g2 := hul_c2 (p := x31) (q := x32) s2 (show BTW x18 x12 by assumption) (show BTW x23 x12 by assumption) (by omega) (by assumption)
         rw [← e1] at g1
         first | exact g1 | exact g2)
  
set_option maxHeartbeats 4000000 in
theorem vc_Pl_layRow_24_1 (x1 : Int) (x2 : Int) (x3 : Int) (x7 : Int) (x8 : Int) (x9 : Int) (x11 : Int) (x12 : Int) (x13 : Int) (x14 : Int) (x15 : Int) (x17 : Int) (x18 : Int) (x20 : Int) (x21 : Int) (x22 : Int) (x23 : Int) (x27 : Int) (x28 : Int) (x29 : Int) (x30 : Int) (x31 : Int) (x32 : Int) (space_0 : Int → Int) (itemSize_0 : Int → Int) (area_0o5 : Int → Int) (k1 : 0 ≤ x1 ∧ x1 ≤ 31) (k2 : 1 ≤ x2 ∧ x2 ≤ 32) (k3 : 1 ≤ x3 ∧ x3 ≤ 131071) (k7 : 0 ≤ x7 ∧ x7 ≤ 31) (k8 : 1 ≤ x8 ∧ x8 ≤ 32) (k9 : 1 ≤ x9 ∧ x9 ≤ 131071) (k11 : 0 ≤ x11 ∧ x11 ≤ 0) (k12 : (-512) ≤ x12 ∧ x12 ≤ 512) (k13 : (-512) ≤ x13 ∧ x13 ≤ 512) (k14 : 0 ≤ x14 ∧ x14 ≤ 76800) (k15 : 0 ≤ x15 ∧ x15 ≤ 31) (k17 : (-39321600) ≤ x17 ∧ x17 ≤ 39321600) (k18 : (-512) ≤ x18 ∧ x18 ≤ 512) (k20 : 0 ≤ x20 ∧ x20 ≤ 2400) (k21 : 0 ≤ x21 ∧ x21 ≤ 76800) (k22 : (-39321600) ≤ x22 ∧ x22 ≤ 39321600) (k23 : (-512) ≤ x23 ∧ x23 ≤ 512) (k27 : 0 ≤ x27 ∧ x27 ≤ 0) (k28 : (-512) ≤ x28 ∧ x28 ≤ 512) (k29 : 1 ≤ x29 ∧ x29 ≤ 1) (k30 : (-512) ≤ x30 ∧ x30 ≤ 512) (k31 : (-1024) ≤ x31 ∧ x31 ≤ 1024) (k32 : (-1024) ≤ x32 ∧ x32 ≤ 1024) (d0 : x23 + (-512) ≤ x32 ∧ x32 ≤ x23 + 512) (d1 : x18 + (-512) ≤ x31 ∧ x31 ≤ x18 + 512) (d2 : x30 + (-512) ≤ x31 ∧ x31 ≤ x30 + 512) (d3 : x20 + 0 ≤ x21 ∧ x21 ≤ x20 + 76800) (d4 : x14 + 0 ≤ x21 ∧ x21 ≤ x14 + 2400) (d5 : x8 + (-4294967296) ≤ x15 ∧ x15 ≤ x8 + (-1)) (d6 : x7 + (-4294967296) ≤ x1 ∧ x1 ≤ x7 + 0) (d7 : x15 + (-4294967296) ≤ x1 ∧ x1 ≤ x15 + 0) (d8 : x8 + (-4294967296) ≤ x2 ∧ x2 ≤ x8 + 0) (d9 : x9 + (-4294967296) ≤ x3 ∧ x3 ≤ x9 + 0) (d10 : x13 + (-4294967296) ≤ x3 ∧ x3 ≤ x13 + 131071) (d11 : x1 + (-4294967296) ≤ x7 ∧ x7 ≤ x1 + 0) (d12 : x15 + (-4294967296) ≤ x7 ∧ x7 ≤ x15 + 0) (d13 : x2 + (-4294967296) ≤ x8 ∧ x8 ≤ x2 + 0) (d14 : x3 + (-4294967296) ≤ x9 ∧ x9 ≤ x3 + 0) (d15 : x13 + (-4294967296) ≤ x9 ∧ x9 ≤ x13 + 131071) (f0 : x32 = x23 - x18) (f1 : x31 = x30 + x18) (h2 : x30 = space_0 (x29)) (h4 : x28 = space_0 (x27)) (f5 : x11 = 0) (f6 : BTW (x18) (x12)) (f7 : BTW (x23) (x12)) (f8 : RWL (itemSize_0) (x1) (x2) (x3) (x15) (x21)) (f9 : x23 = Int.tdiv (x22) (x3)) (f10 : x22 = x12 * x21) (f11 : x21 = x14 + x20) (h12 : x20 = itemSize_0 (x15)) (f14 : x18 = Int.tdiv (x17) (x3)) (f15 : x17 = x12 * x14) (f16 : 0 < x3) (f17 : x15 < x2) (f18 : SPC (space_0)) (f19 : BXA (area_0o5)) (f21 : RWA (space_0) (x11) (x12) (x13)) (f22 : RWK (itemSize_0) (x1) (x2) (x3) (x15) (x14)) (hK_0_10 : ∀ j : Int, 0 ≤ j → j < 32 → 0 ≤ itemSize_0 j ∧ itemSize_0 j ≤ 2400) (hK_0_12 : ∀ j : Int, 0 ≤ j → j < 4 → (-512) ≤ space_0 j ∧ space_0 j ≤ 512) (hK_5_13 : ∀ j : Int, 0 ≤ j → j < 128 → (-512) ≤ area_0o5 j ∧ area_0o5 j ≤ 512) : HUL (x31) (x32) := by
  first
    | (have e1 := ‹x28 = space_0 x27›
       have e2 := ‹x30 = space_0 x29›
       rw [show x27 = 0 by omega] at e1
       rw [show x29 = 1 by omega] at e2
       rcases ‹RWA _ _ _ _› with ⟨t, ea, b⟩ | ⟨t, ea, b⟩
       · exfalso; omega
       · have g1 := hul_to (‹SPC _›).1 b
         have s2 := (‹SPC _›).2
         rw [← ea] at s2
         have g2 := hul_c2 (p := x31) (q := x32) s2 (show BTW x18 x12 by assumption) (show BTW x23 x12 by assumption) (by omega) (by assumption)
         rw [← e1] at g1
         first | exact g1 | exact g2)
  
def o_Pl_layRow_24 : or_T := (197, 33, [(0, (2, 0, 0, [6])), (1, (0, 0, 31, [])), (2, (0, 1, 32, [])), (3, (0, 1, 131071, [])), (5, (2, 0, 0, [0])), (6, (2, 0, 0, [6])), (7, (0, 0, 31, [])), (8, (0, 1, 32, [])), (9, (0, 1, 131071, [])), (11, (0, 0, 0, [])), (12, (0, -512, 512, [])), (13, (0, -512, 512, [])), (14, (0, 0, 76800, [])), (15, (0, 0, 31, [])), (16, (2, 0, 0, [0])), (17, (0, -39321600, 39321600, [])), (18, (0, -512, 512, [])), (19, (2, 0, 0, [96])), (20, (0, 0, 2400, [])), (21, (0, 0, 76800, [])), (22, (0, -39321600, 39321600, [])), (23, (0, -512, 512, [])), (26, (2, 0, 0, [97])), (27, (0, 0, 0, [])), (28, (0, -512, 512, [])), (29, (0, 1, 1, [])), (30, (0, -512, 512, [])), (31, (0, -1024, 1024, [])), (32, (0, -1024, 1024, []))], [(2, [32, 23, 18], []), (1, [31, 30, 18], []), (10, [30, 26, 29], []), (9, [26, 6], [12]), (10, [28, 26, 27], []), (8, [11], [0]), (20, [18, 12], [61, 0, 793]), (20, [23, 12], [61, 0, 793]), (20, [6, 7, 8, 9, 15, 21], [60, 0, 1, 850, 10]), (4, [23, 22, 9], []), (3, [22, 12, 21], []), (1, [21, 14, 20], []), (10, [20, 19, 15], []), (9, [19, 6], [10]), (4, [18, 17, 9], []), (3, [17, 12, 14], []), (8, [9], [4]), (7, [15, 8], [2]), (20, [6], [60, 0, 1, 845, 12]), (20, [16], [60, 0, 1, 844, 13]), (24, [5, 16], []), (20, [6, 11, 12, 13], [60, 0, 1, 851, 12]), (20, [6, 7, 8, 9, 15, 14], [60, 0, 1, 849, 10]), (24, [0, 6], []), (24, [1, 7], []), (24, [2, 8], []), (24, [3, 9], [])], [(28, (0, 0, 512, [])), (31, (0, 0, 512, [])), (32, (0, -512, 512, []))], [], [(20, [28, 13], [61, 0, 791]), (20, [31, 32], [61, 0, 791])], [], [(32, 23, -512, 512), (31, 18, -512, 512), (31, 30, -512, 512), (21, 20, 0, 76800), (21, 14, 0, 2400), (15, 8, -4294967296, -1), (1, 7, -4294967296, 0), (1, 15, -4294967296, 0), (2, 8, -4294967296, 0), (3, 9, -4294967296, 0), (3, 13, -4294967296, 131071), (7, 1, -4294967296, 0), (7, 15, -4294967296, 0), (8, 2, -4294967296, 0), (9, 3, -4294967296, 0), (9, 13, -4294967296, 131071)])
theorem oo_Pl_layRow_24 {kA : Nat → ClassId} : or_ok PRD kA GG o_Pl_layRow_24 := by
  refine or_mk fun A ta ws vs hD hth hl => ?_
  intro t0 r0 t1 k1 t2 k2 t3 k3 t5 r5 t6 r6 t7 k7 t8 k8 t9 k9 t11 k11 t12 k12 t13 k13 t14 k14 t15 k15 t16 r16 t17 k17 t18 k18 t19 r19 t20 k20 t21 k21 t22 k22 t23 k23 t26 r26 t27 k27 t28 k28 t29 k29 t30 k30 t31 k31 t32 k32 d0 d1 d2 d3 d4 d5 d6 d7 d8 d9 d10 d11 d12 d13 d14 d15 f0 f1 f2 f3 f4 f5 f6 f7 f8 f9 f10 f11 f12 f13 f14 f15 f16 f17 f18 f19 f20 f21 f22 f23 f24 f25 f26
  replace f2 := shm_107 f2
  replace f3 := shm_103 f3
  replace f4 := shm_107 f4
  replace f8 := shm_891 f8
  replace f9 := shm_34 f9
  replace f12 := shm_107 f12
  replace f13 := shm_106 f13
  replace f14 := shm_34 f14
  replace f16 := shm_308 f16
  replace f17 := shm_6 f17
  replace f18 := shm_885 f18
  replace f19 := shm_418 f19
  replace f20 := shm_5 f20
  replace f21 := shm_887 f21
  replace f22 := shm_889 f22
  replace f23 := shm_5 f23
  replace f24 := shm_5 f24
  replace f25 := shm_5 f25
  replace f26 := shm_5 f26
  have q16 : n_v vs 16 = n_v vs 5 := f20.symm
  have q6 : n_v vs 6 = n_v vs 0 := f23.symm
  have q7 : n_v vs 7 = n_v vs 1 := f24.symm
  have q8 : n_v vs 8 = n_v vs 2 := f25.symm
  have q9 : n_v vs 9 = n_v vs 3 := f26.symm
  simp only [q6, q7, q8, q9, q16] at f3 f8 f9 f13 f14 f16 f17 f18 f19 f21 f22
  have cr_0_10 := fdq_9 hD hth r0
  have cr_0_12 := fdq_226 hD hth r0
  have cr_5_13 := fdq_88 hD hth r5
  have ad_26 : v_ad (n_v vs 26) = w_ar ws (n_v vs 0) 12 := congrArg v_ad f3
  have ad_19 : v_ad (n_v vs 19) = w_ar ws (n_v vs 0) 10 := congrArg v_ad f13
  simp only [ad_26] at f2
  have h2 : v_iv (n_v vs 30) = w_ei ws (w_ar ws (n_v vs 0) 12) (v_iv (n_v vs 29)) := f2
  simp only [ad_26] at f4
  have h4 : v_iv (n_v vs 28) = w_ei ws (w_ar ws (n_v vs 0) 12) (v_iv (n_v vs 27)) := f4
  simp only [ad_19] at f12
  have h12 : v_iv (n_v vs 20) = w_ei ws (w_ar ws (n_v vs 0) 10) (v_iv (n_v vs 15)) := f12
  have hK_0_10 := elq_138 hD hth cr_0_10
  have hK_0_12 := elq_139 hD hth cr_0_12
  have hK_5_13 := elq_44 hD hth cr_5_13
  have hrf0 : 0 ≤ v_iv (n_v vs 28) ∧ v_iv (n_v vs 28) ≤ 512 := vc_Pl_layRow_24_r0 (v_iv (n_v vs 1)) (v_iv (n_v vs 2)) (v_iv (n_v vs 3)) (v_iv (n_v vs 7)) (v_iv (n_v vs 8)) (v_iv (n_v vs 9)) (v_iv (n_v vs 11)) (v_iv (n_v vs 12)) (v_iv (n_v vs 13)) (v_iv (n_v vs 14)) (v_iv (n_v vs 15)) (v_iv (n_v vs 17)) (v_iv (n_v vs 18)) (v_iv (n_v vs 20)) (v_iv (n_v vs 21)) (v_iv (n_v vs 22)) (v_iv (n_v vs 23)) (v_iv (n_v vs 27)) (v_iv (n_v vs 28)) (v_iv (n_v vs 29)) (v_iv (n_v vs 30)) (v_iv (n_v vs 31)) (v_iv (n_v vs 32)) (w_ei ws (w_ar ws (n_v vs 0) 12)) (w_ei ws (w_ar ws (n_v vs 0) 10)) (w_ei ws (w_ar ws (n_v vs 5) 13)) k1 k2 k3 k7 k8 k9 k11 k12 k13 k14 k15 k17 k18 k20 k21 k22 k23 k27 k28 k29 k30 k31 k32 d0 d1 d2 d3 d4 d5 d6 d7 d8 d9 d10 d11 d12 d13 d14 d15 (shm_14 f0) (shm_12 f1) h2 h4 (shm_192 f5) (shm_890 f6) (shm_890 f7) f8 f9 (shm_38 f10) (shm_12 f11) h12 f14 (shm_38 f15) f16 f17 f18 f19 f21 f22 hK_0_10 hK_0_12 hK_5_13
  have hrf1 : 0 ≤ v_iv (n_v vs 31) ∧ v_iv (n_v vs 31) ≤ 512 := vc_Pl_layRow_24_r1 (v_iv (n_v vs 1)) (v_iv (n_v vs 2)) (v_iv (n_v vs 3)) (v_iv (n_v vs 7)) (v_iv (n_v vs 8)) (v_iv (n_v vs 9)) (v_iv (n_v vs 11)) (v_iv (n_v vs 12)) (v_iv (n_v vs 13)) (v_iv (n_v vs 14)) (v_iv (n_v vs 15)) (v_iv (n_v vs 17)) (v_iv (n_v vs 18)) (v_iv (n_v vs 20)) (v_iv (n_v vs 21)) (v_iv (n_v vs 22)) (v_iv (n_v vs 23)) (v_iv (n_v vs 27)) (v_iv (n_v vs 28)) (v_iv (n_v vs 29)) (v_iv (n_v vs 30)) (v_iv (n_v vs 31)) (v_iv (n_v vs 32)) (w_ei ws (w_ar ws (n_v vs 0) 12)) (w_ei ws (w_ar ws (n_v vs 0) 10)) (w_ei ws (w_ar ws (n_v vs 5) 13)) k1 k2 k3 k7 k8 k9 k11 k12 k13 k14 k15 k17 k18 k20 k21 k22 k23 k27 k28 k29 k30 k31 k32 d0 d1 d2 d3 d4 d5 d6 d7 d8 d9 d10 d11 d12 d13 d14 d15 (shm_14 f0) (shm_12 f1) h2 h4 (shm_192 f5) (shm_890 f6) (shm_890 f7) f8 f9 (shm_38 f10) (shm_12 f11) h12 f14 (shm_38 f15) f16 f17 f18 f19 f21 f22 hK_0_10 hK_0_12 hK_5_13
  have hrf2 : (-512) ≤ v_iv (n_v vs 32) ∧ v_iv (n_v vs 32) ≤ 512 := vc_Pl_layRow_24_r2 (v_iv (n_v vs 1)) (v_iv (n_v vs 2)) (v_iv (n_v vs 3)) (v_iv (n_v vs 7)) (v_iv (n_v vs 8)) (v_iv (n_v vs 9)) (v_iv (n_v vs 11)) (v_iv (n_v vs 12)) (v_iv (n_v vs 13)) (v_iv (n_v vs 14)) (v_iv (n_v vs 15)) (v_iv (n_v vs 17)) (v_iv (n_v vs 18)) (v_iv (n_v vs 20)) (v_iv (n_v vs 21)) (v_iv (n_v vs 22)) (v_iv (n_v vs 23)) (v_iv (n_v vs 27)) (v_iv (n_v vs 28)) (v_iv (n_v vs 29)) (v_iv (n_v vs 30)) (v_iv (n_v vs 31)) (v_iv (n_v vs 32)) (w_ei ws (w_ar ws (n_v vs 0) 12)) (w_ei ws (w_ar ws (n_v vs 0) 10)) (w_ei ws (w_ar ws (n_v vs 5) 13)) k1 k2 k3 k7 k8 k9 k11 k12 k13 k14 k15 k17 k18 k20 k21 k22 k23 k27 k28 k29 k30 k31 k32 d0 d1 d2 d3 d4 d5 d6 d7 d8 d9 d10 d11 d12 d13 d14 d15 (shm_14 f0) (shm_12 f1) h2 h4 (shm_192 f5) (shm_890 f6) (shm_890 f7) f8 f9 (shm_38 f10) (shm_12 f11) h12 f14 (shm_38 f15) f16 f17 f18 f19 f21 f22 hK_0_10 hK_0_12 hK_5_13
  have nf0 : fc_1 PRD (20, [28, 13], [61, 0, 791]) ws (vs) := ⟨nf_in hl rfl, sgq_417 (vc_Pl_layRow_24_0 (v_iv (n_v vs 1)) (v_iv (n_v vs 2)) (v_iv (n_v vs 3)) (v_iv (n_v vs 7)) (v_iv (n_v vs 8)) (v_iv (n_v vs 9)) (v_iv (n_v vs 11)) (v_iv (n_v vs 12)) (v_iv (n_v vs 13)) (v_iv (n_v vs 14)) (v_iv (n_v vs 15)) (v_iv (n_v vs 17)) (v_iv (n_v vs 18)) (v_iv (n_v vs 20)) (v_iv (n_v vs 21)) (v_iv (n_v vs 22)) (v_iv (n_v vs 23)) (v_iv (n_v vs 27)) (v_iv (n_v vs 28)) (v_iv (n_v vs 29)) (v_iv (n_v vs 30)) (v_iv (n_v vs 31)) (v_iv (n_v vs 32)) (w_ei ws (w_ar ws (n_v vs 0) 12)) (w_ei ws (w_ar ws (n_v vs 0) 10)) (w_ei ws (w_ar ws (n_v vs 5) 13)) k1 k2 k3 k7 k8 k9 k11 k12 k13 k14 k15 k17 k18 k20 k21 k22 k23 k27 k28 k29 k30 k31 k32 d0 d1 d2 d3 d4 d5 d6 d7 d8 d9 d10 d11 d12 d13 d14 d15 (shm_14 f0) (shm_12 f1) h2 h4 (shm_192 f5) (shm_890 f6) (shm_890 f7) f8 f9 (shm_38 f10) (shm_12 f11) h12 f14 (shm_38 f15) f16 f17 f18 f19 f21 f22 hK_0_10 hK_0_12 hK_5_13)⟩
  have nf1 : fc_1 PRD (20, [31, 32], [61, 0, 791]) ws (vs) := ⟨nf_in hl rfl, sgq_417 (vc_Pl_layRow_24_1 (v_iv (n_v vs 1)) (v_iv (n_v vs 2)) (v_iv (n_v vs 3)) (v_iv (n_v vs 7)) (v_iv (n_v vs 8)) (v_iv (n_v vs 9)) (v_iv (n_v vs 11)) (v_iv (n_v vs 12)) (v_iv (n_v vs 13)) (v_iv (n_v vs 14)) (v_iv (n_v vs 15)) (v_iv (n_v vs 17)) (v_iv (n_v vs 18)) (v_iv (n_v vs 20)) (v_iv (n_v vs 21)) (v_iv (n_v vs 22)) (v_iv (n_v vs 23)) (v_iv (n_v vs 27)) (v_iv (n_v vs 28)) (v_iv (n_v vs 29)) (v_iv (n_v vs 30)) (v_iv (n_v vs 31)) (v_iv (n_v vs 32)) (w_ei ws (w_ar ws (n_v vs 0) 12)) (w_ei ws (w_ar ws (n_v vs 0) 10)) (w_ei ws (w_ar ws (n_v vs 5) 13)) k1 k2 k3 k7 k8 k9 k11 k12 k13 k14 k15 k17 k18 k20 k21 k22 k23 k27 k28 k29 k30 k31 k32 d0 d1 d2 d3 d4 d5 d6 d7 d8 d9 d10 d11 d12 d13 d14 d15 (shm_14 f0) (shm_12 f1) h2 h4 (shm_192 f5) (shm_890 f6) (shm_890 f7) f8 f9 (shm_38 f10) (shm_12 f11) h12 f14 (shm_38 f15) f16 f17 f18 f19 f21 f22 hK_0_10 hK_0_12 hK_5_13)⟩
  have rf28 : tv_ok ta (0, 0, 512, []) (n_v vs 28) := tv_in t28 (by first | omega | grind) (by first | omega | grind)
  have rf31 : tv_ok ta (0, 0, 512, []) (n_v vs 31) := tv_in t31 (by first | omega | grind) (by first | omega | grind)
  have rf32 : tv_ok ta (0, -512, 512, []) (n_v vs 32) := tv_in t32 (by first | omega | grind) (by first | omega | grind)
  refine ⟨List.forall_mem_cons.mpr ⟨rf28, List.forall_mem_cons.mpr ⟨rf31, List.forall_mem_cons.mpr ⟨rf32, (fun _ h => (by cases h))⟩⟩⟩, [], trivial, ?_, (fun _ h => (by cases h))⟩
  rw [List.append_nil]
  exact List.forall_mem_cons.mpr ⟨⟨show (20 : Nat) < 100 from by decide, nf0⟩, List.forall_mem_cons.mpr ⟨⟨show (20 : Nat) < 100 from by decide, nf1⟩, (fun _ h => (by cases h))⟩⟩
set_option maxHeartbeats 4000000 in
theorem vc_Pl_layRow_25_0 (x1 : Int) (x2 : Int) (x3 : Int) (x7 : Int) (x8 : Int) (x9 : Int) (x11 : Int) (x12 : Int) (x13 : Int) (x14 : Int) (x15 : Int) (x17 : Int) (x18 : Int) (x20 : Int) (x21 : Int) (x22 : Int) (x23 : Int) (x28 : Int) (x30 : Int) (x31 : Int) (x32 : Int) (x33 : Int) (itemSize_0 : Int → Int) (space_0 : Int → Int) (area_0o5 : Int → Int) (k1 : 0 ≤ x1 ∧ x1 ≤ 31) (k2 : 1 ≤ x2 ∧ x2 ≤ 32) (k3 : 1 ≤ x3 ∧ x3 ≤ 131071) (k7 : 0 ≤ x7 ∧ x7 ≤ 31) (k8 : 1 ≤ x8 ∧ x8 ≤ 32) (k9 : 1 ≤ x9 ∧ x9 ≤ 131071) (k11 : 0 ≤ x11 ∧ x11 ≤ 0) (k12 : (-512) ≤ x12 ∧ x12 ≤ 512) (k13 : (-512) ≤ x13 ∧ x13 ≤ 512) (k14 : 0 ≤ x14 ∧ x14 ≤ 76800) (k15 : 0 ≤ x15 ∧ x15 ≤ 31) (k17 : (-39321600) ≤ x17 ∧ x17 ≤ 39321600) (k18 : (-512) ≤ x18 ∧ x18 ≤ 512) (k20 : 0 ≤ x20 ∧ x20 ≤ 2400) (k21 : 0 ≤ x21 ∧ x21 ≤ 76800) (k22 : (-39321600) ≤ x22 ∧ x22 ≤ 39321600) (k23 : (-512) ≤ x23 ∧ x23 ≤ 512) (k28 : 0 ≤ x28 ∧ x28 ≤ 512) (k30 : (-512) ≤ x30 ∧ x30 ≤ 512) (k31 : 0 ≤ x31 ∧ x31 ≤ 512) (k32 : (-512) ≤ x32 ∧ x32 ≤ 512) (k33 : 1 ≤ x33 ∧ x33 ≤ 32) (d0 : x15 + 1 ≤ x33 ∧ x33 ≤ x15 + 1) (d1 : x8 + (-4294967296) ≤ x33 ∧ x33 ≤ x8 + 0) (d2 : x23 + (-512) ≤ x32 ∧ x32 ≤ x23 + 512) (d3 : x18 + (-512) ≤ x31 ∧ x31 ≤ x18 + 512) (d4 : x30 + (-512) ≤ x31 ∧ x31 ≤ x30 + 512) (d5 : x20 + 0 ≤ x21 ∧ x21 ≤ x20 + 76800) (d6 : x14 + 0 ≤ x21 ∧ x21 ≤ x14 + 2400) (d7 : x8 + (-4294967296) ≤ x15 ∧ x15 ≤ x8 + (-1)) (d8 : x7 + (-4294967296) ≤ x1 ∧ x1 ≤ x7 + 0) (d9 : x15 + (-4294967296) ≤ x1 ∧ x1 ≤ x15 + 0) (d10 : x8 + (-4294967296) ≤ x2 ∧ x2 ≤ x8 + 0) (d11 : x9 + (-4294967296) ≤ x3 ∧ x3 ≤ x9 + 0) (d12 : x13 + (-4294967296) ≤ x3 ∧ x3 ≤ x13 + 131071) (d13 : x1 + (-4294967296) ≤ x7 ∧ x7 ≤ x1 + 0) (d14 : x15 + (-4294967296) ≤ x7 ∧ x7 ≤ x15 + 0) (d15 : x2 + (-4294967296) ≤ x8 ∧ x8 ≤ x2 + 0) (d16 : x3 + (-4294967296) ≤ x9 ∧ x9 ≤ x3 + 0) (d17 : x13 + (-4294967296) ≤ x9 ∧ x9 ≤ x13 + 131071) (f2 : x33 = x15 + 1) (f3 : HUL (x28) (x13)) (f4 : HUL (x31) (x32)) (f5 : BTW (x18) (x12)) (f6 : BTW (x23) (x12)) (f7 : RWL (itemSize_0) (x1) (x2) (x3) (x15) (x21)) (f8 : SPC (space_0)) (f10 : RWA (space_0) (x11) (x12) (x13)) (f11 : RWK (itemSize_0) (x1) (x2) (x3) (x15) (x14)) (f16 : BXA (area_0o5)) (f18 : x32 = x23 - x18) (f19 : x31 = x30 + x18) (f20 : x11 = 0) (f21 : x22 = x12 * x21) (f22 : x21 = x14 + x20) (f23 : x17 = x12 * x14) (f24 : 0 < x3) (f25 : x15 < x2) (hK_0_10 : ∀ j : Int, 0 ≤ j → j < 32 → 0 ≤ itemSize_0 j ∧ itemSize_0 j ≤ 2400) (hK_0_12 : ∀ j : Int, 0 ≤ j → j < 4 → (-512) ≤ space_0 j ∧ space_0 j ≤ 512) (hK_5_13 : ∀ j : Int, 0 ≤ j → j < 128 → (-512) ≤ area_0o5 j ∧ area_0o5 j ≤ 512) : RWK (itemSize_0) (x1) (x2) (x3) (x33) (x21) := by
  first
    | assumption
    | exact rwk_start ‹RWS6 _ _ _ _ _› (by omega) (by omega)
    | exact rwl_to ‹RWL _ _ _ _ _ _› (by omega)
    | exact rwk_step ‹RWK _ _ _ _ _ _› (by omega) (by assumption) (by omega) (by omega)
  
def o_Pl_layRow_25 : or_T := (86, 34, [(0, (2, 0, 0, [6])), (1, (0, 0, 31, [])), (2, (0, 1, 32, [])), (3, (0, 1, 131071, [])), (5, (2, 0, 0, [0])), (6, (2, 0, 0, [6])), (7, (0, 0, 31, [])), (8, (0, 1, 32, [])), (9, (0, 1, 131071, [])), (11, (0, 0, 0, [])), (12, (0, -512, 512, [])), (13, (0, -512, 512, [])), (14, (0, 0, 76800, [])), (15, (0, 0, 31, [])), (16, (2, 0, 0, [0])), (17, (0, -39321600, 39321600, [])), (18, (0, -512, 512, [])), (19, (2, 0, 0, [96])), (20, (0, 0, 2400, [])), (21, (0, 0, 76800, [])), (22, (0, -39321600, 39321600, [])), (23, (0, -512, 512, [])), (26, (2, 0, 0, [97])), (28, (0, 0, 512, [])), (30, (0, -512, 512, [])), (31, (0, 0, 512, [])), (32, (0, -512, 512, [])), (33, (0, 1, 32, []))], [(9, [26, 6], [12]), (9, [19, 6], [10]), (6, [33, 15], [1]), (20, [28, 13], [61, 0, 791]), (20, [31, 32], [61, 0, 791]), (20, [18, 12], [61, 0, 793]), (20, [23, 12], [61, 0, 793]), (20, [6, 7, 8, 9, 15, 21], [60, 0, 1, 850, 10]), (20, [6], [60, 0, 1, 845, 12]), (24, [5, 16], []), (20, [6, 11, 12, 13], [60, 0, 1, 851, 12]), (20, [6, 7, 8, 9, 15, 14], [60, 0, 1, 849, 10]), (24, [0, 6], []), (24, [1, 7], []), (24, [2, 8], []), (24, [3, 9], []), (20, [16], [60, 0, 1, 844, 13]), (102, [32], [4194304]), (2, [32, 23, 18], []), (1, [31, 30, 18], []), (8, [11], [0]), (3, [22, 12, 21], []), (1, [21, 14, 20], []), (3, [17, 12, 14], []), (8, [9], [4]), (7, [15, 8], [2])], [], [], [(20, [6, 7, 8, 9, 33, 21], [60, 0, 1, 849, 10])], [], [(33, 15, 1, 1), (33, 8, -4294967296, 0), (32, 23, -512, 512), (31, 18, -512, 512), (31, 30, -512, 512), (21, 20, 0, 76800), (21, 14, 0, 2400), (15, 8, -4294967296, -1), (1, 7, -4294967296, 0), (1, 15, -4294967296, 0), (2, 8, -4294967296, 0), (3, 9, -4294967296, 0), (3, 13, -4294967296, 131071), (7, 1, -4294967296, 0), (7, 15, -4294967296, 0), (8, 2, -4294967296, 0), (9, 3, -4294967296, 0), (9, 13, -4294967296, 131071)])
theorem oo_Pl_layRow_25 {kA : Nat → ClassId} : or_ok PRD kA GG o_Pl_layRow_25 := by
  refine or_mk fun A ta ws vs hD hth hl => ?_
  intro t0 r0 t1 k1 t2 k2 t3 k3 t5 r5 t6 r6 t7 k7 t8 k8 t9 k9 t11 k11 t12 k12 t13 k13 t14 k14 t15 k15 t16 r16 t17 k17 t18 k18 t19 r19 t20 k20 t21 k21 t22 k22 t23 k23 t26 r26 t28 k28 t30 k30 t31 k31 t32 k32 t33 k33 d0 d1 d2 d3 d4 d5 d6 d7 d8 d9 d10 d11 d12 d13 d14 d15 d16 d17 f0 f1 f2 f3 f4 f5 f6 f7 f8 f9 f10 f11 f12 f13 f14 f15 f16 ta1 w1 le1 s1 f18 f19 f20 f21 f22 f23 f24 f25
  replace f2 := shm_4 f2
  replace f3 := shm_417 f3
  replace f4 := shm_417 f4
  replace f5 := shm_890 f5
  replace f6 := shm_890 f6
  replace f7 := shm_891 f7
  replace f8 := shm_885 f8
  replace f9 := shm_5 f9
  replace f10 := shm_887 f10
  replace f11 := shm_889 f11
  replace f12 := shm_5 f12
  replace f13 := shm_5 f13
  replace f14 := shm_5 f14
  replace f15 := shm_5 f15
  replace f16 := shm_418 f16
  replace f18 := shm_14 f18
  replace f19 := shm_12 f19
  replace f20 := shm_192 f20
  replace f21 := shm_38 f21
  replace f22 := shm_12 f22
  replace f23 := shm_38 f23
  replace f24 := shm_308 f24
  replace f25 := shm_6 f25
  have q16 : n_v vs 16 = n_v vs 5 := f9.symm
  have q6 : n_v vs 6 = n_v vs 0 := f12.symm
  have q7 : n_v vs 7 = n_v vs 1 := f13.symm
  have q8 : n_v vs 8 = n_v vs 2 := f14.symm
  have q9 : n_v vs 9 = n_v vs 3 := f15.symm
  simp only [q6, q7, q8, q9, q16] at f7 f8 f10 f11 f16 f24 f25
  have cr_0_10 := fdq_9 hD hth r0
  have cr_0_12 := fdq_226 hD hth r0
  have cr_5_13 := fdq_88 hD hth r5
  have hK_0_10 := elq_138 hD hth cr_0_10
  have hK_0_12 := elq_139 hD hth cr_0_12
  have hK_5_13 := elq_44 hD hth cr_5_13
  have nf0 : fc_1 PRD (20, [6, 7, 8, 9, 33, 21], [60, 0, 1, 849, 10]) ws (vs) := by
    refine ⟨nf_in hl rfl, sgq_889 ?_⟩
    · show RWK (w_ei ws (w_ar ws (n_v vs 6) 10)) (v_iv (n_v vs 7)) (v_iv (n_v vs 8)) (v_iv (n_v vs 9)) (v_iv (n_v vs 33)) (v_iv (n_v vs 21))
      simp only [q6, q7, q8, q9]
      exact vc_Pl_layRow_25_0 (v_iv (n_v vs 1)) (v_iv (n_v vs 2)) (v_iv (n_v vs 3)) (v_iv (n_v vs 7)) (v_iv (n_v vs 8)) (v_iv (n_v vs 9)) (v_iv (n_v vs 11)) (v_iv (n_v vs 12)) (v_iv (n_v vs 13)) (v_iv (n_v vs 14)) (v_iv (n_v vs 15)) (v_iv (n_v vs 17)) (v_iv (n_v vs 18)) (v_iv (n_v vs 20)) (v_iv (n_v vs 21)) (v_iv (n_v vs 22)) (v_iv (n_v vs 23)) (v_iv (n_v vs 28)) (v_iv (n_v vs 30)) (v_iv (n_v vs 31)) (v_iv (n_v vs 32)) (v_iv (n_v vs 33)) (w_ei ws (w_ar ws (n_v vs 0) 10)) (w_ei ws (w_ar ws (n_v vs 0) 12)) (w_ei ws (w_ar ws (n_v vs 5) 13)) k1 k2 k3 k7 k8 k9 k11 k12 k13 k14 k15 k17 k18 k20 k21 k22 k23 k28 k30 k31 k32 k33 d0 d1 d2 d3 d4 d5 d6 d7 d8 d9 d10 d11 d12 d13 d14 d15 d16 d17 f2 f3 f4 f5 f6 f7 f8 f10 f11 f16 f18 f19 f20 f21 f22 f23 f24 f25 hK_0_10 hK_0_12 hK_5_13
  refine ⟨(fun _ h => (by cases h)), [], trivial, ?_, (fun _ h => (by cases h))⟩
  rw [List.append_nil]
  exact List.forall_mem_cons.mpr ⟨⟨show (20 : Nat) < 100 from by decide, nf0⟩, (fun _ h => (by cases h))⟩
set_option maxHeartbeats 4000000 in
theorem vc_Pl_layRow_26_r0 (x1 : Int) (x2 : Int) (x3 : Int) (x7 : Int) (x8 : Int) (x9 : Int) (x11 : Int) (x12 : Int) (x13 : Int) (x14 : Int) (x15 : Int) (x17 : Int) (x18 : Int) (x20 : Int) (x21 : Int) (x22 : Int) (x23 : Int) (x27 : Int) (x28 : Int) (x29 : Int) (x30 : Int) (x31 : Int) (x32 : Int) (space_0 : Int → Int) (itemSize_0 : Int → Int) (area_0o5 : Int → Int) (k1 : 0 ≤ x1 ∧ x1 ≤ 31) (k2 : 1 ≤ x2 ∧ x2 ≤ 32) (k3 : 1 ≤ x3 ∧ x3 ≤ 131071) (k7 : 0 ≤ x7 ∧ x7 ≤ 31) (k8 : 1 ≤ x8 ∧ x8 ≤ 32) (k9 : 1 ≤ x9 ∧ x9 ≤ 131071) (k11 : 1 ≤ x11 ∧ x11 ≤ 1) (k12 : (-512) ≤ x12 ∧ x12 ≤ 512) (k13 : (-512) ≤ x13 ∧ x13 ≤ 512) (k14 : 0 ≤ x14 ∧ x14 ≤ 76800) (k15 : 0 ≤ x15 ∧ x15 ≤ 31) (k17 : (-39321600) ≤ x17 ∧ x17 ≤ 39321600) (k18 : (-512) ≤ x18 ∧ x18 ≤ 512) (k20 : 0 ≤ x20 ∧ x20 ≤ 2400) (k21 : 0 ≤ x21 ∧ x21 ≤ 76800) (k22 : (-39321600) ≤ x22 ∧ x22 ≤ 39321600) (k23 : (-512) ≤ x23 ∧ x23 ≤ 512) (k27 : 0 ≤ x27 ∧ x27 ≤ 0) (k28 : (-512) ≤ x28 ∧ x28 ≤ 512) (k29 : (-1024) ≤ x29 ∧ x29 ≤ 1024) (k30 : 1 ≤ x30 ∧ x30 ≤ 1) (k31 : (-512) ≤ x31 ∧ x31 ≤ 512) (k32 : (-1024) ≤ x32 ∧ x32 ≤ 1024) (d0 : x23 + (-512) ≤ x32 ∧ x32 ≤ x23 + 512) (d1 : x18 + (-512) ≤ x29 ∧ x29 ≤ x18 + 512) (d2 : x28 + (-512) ≤ x29 ∧ x29 ≤ x28 + 512) (d3 : x20 + 0 ≤ x21 ∧ x21 ≤ x20 + 76800) (d4 : x14 + 0 ≤ x21 ∧ x21 ≤ x14 + 2400) (d5 : x8 + (-4294967296) ≤ x15 ∧ x15 ≤ x8 + (-1)) (d6 : x7 + (-4294967296) ≤ x1 ∧ x1 ≤ x7 + 0) (d7 : x15 + (-4294967296) ≤ x1 ∧ x1 ≤ x15 + 0) (d8 : x8 + (-4294967296) ≤ x2 ∧ x2 ≤ x8 + 0) (d9 : x9 + (-4294967296) ≤ x3 ∧ x3 ≤ x9 + 0) (d10 : x13 + (-4294967296) ≤ x3 ∧ x3 ≤ x13 + 131071) (d11 : x1 + (-4294967296) ≤ x7 ∧ x7 ≤ x1 + 0) (d12 : x15 + (-4294967296) ≤ x7 ∧ x7 ≤ x15 + 0) (d13 : x2 + (-4294967296) ≤ x8 ∧ x8 ≤ x2 + 0) (d14 : x3 + (-4294967296) ≤ x9 ∧ x9 ≤ x3 + 0) (d15 : x13 + (-4294967296) ≤ x9 ∧ x9 ≤ x13 + 131071) (f0 : x32 = x23 - x18) (h1 : x31 = space_0 (x30)) (f3 : x29 = x28 + x18) (h4 : x28 = space_0 (x27)) (f5 : x11 ≠ 0) (f6 : BTW (x18) (x12)) (f7 : BTW (x23) (x12)) (f8 : RWL (itemSize_0) (x1) (x2) (x3) (x15) (x21)) (f9 : x23 = Int.tdiv (x22) (x3)) (f10 : x22 = x12 * x21) (f11 : x21 = x14 + x20) (h12 : x20 = itemSize_0 (x15)) (f14 : x18 = Int.tdiv (x17) (x3)) (f15 : x17 = x12 * x14) (f16 : 0 < x3) (f17 : x15 < x2) (f18 : SPC (space_0)) (f19 : BXA (area_0o5)) (f21 : RWA (space_0) (x11) (x12) (x13)) (f22 : RWK (itemSize_0) (x1) (x2) (x3) (x15) (x14)) (hK_0_10 : ∀ j : Int, 0 ≤ j → j < 32 → 0 ≤ itemSize_0 j ∧ itemSize_0 j ≤ 2400) (hK_0_12 : ∀ j : Int, 0 ≤ j → j < 4 → (-512) ≤ space_0 j ∧ space_0 j ≤ 512) (hK_5_13 : ∀ j : Int, 0 ≤ j → j < 128 → (-512) ≤ area_0o5 j ∧ area_0o5 j ≤ 512) : 0 ≤ x29 ∧ x29 ≤ 512 := by
  first
    | omega
    | (have e1 := ‹x28 = space_0 x27›
       have e2 := ‹x31 = space_0 x30›
       rw [show x27 = 0 by omega] at e1
       rw [show x30 = 1 by omega] at e2
       rcases ‹RWA _ _ _ _› with ⟨t, ea, b⟩ | ⟨t, ea, b⟩
       · have g1 := hul_to (‹SPC _›).2 b
         have s2 := (‹SPC _›).1
         rw [← ea] at s2
         have g2 := hul_c2 (p := x29) (q := x32) s2 (show BTW x18 x12 by assumption) (show BTW x23 x12 by assumption) (by omega) (by assumption)
         rw [← e2] at g1
         unfold HUL at g1 g2
         omega
       · exfalso; omega)
  
set_option maxHeartbeats 4000000 in
theorem vc_Pl_layRow_26_r1 (x1 : Int) (x2 : Int) (x3 : Int) (x7 : Int) (x8 : Int) (x9 : Int) (x11 : Int) (x12 : Int) (x13 : Int) (x14 : Int) (x15 : Int) (x17 : Int) (x18 : Int) (x20 : Int) (x21 : Int) (x22 : Int) (x23 : Int) (x27 : Int) (x28 : Int) (x29 : Int) (x30 : Int) (x31 : Int) (x32 : Int) (space_0 : Int → Int) (itemSize_0 : Int → Int) (area_0o5 : Int → Int) (k1 : 0 ≤ x1 ∧ x1 ≤ 31) (k2 : 1 ≤ x2 ∧ x2 ≤ 32) (k3 : 1 ≤ x3 ∧ x3 ≤ 131071) (k7 : 0 ≤ x7 ∧ x7 ≤ 31) (k8 : 1 ≤ x8 ∧ x8 ≤ 32) (k9 : 1 ≤ x9 ∧ x9 ≤ 131071) (k11 : 1 ≤ x11 ∧ x11 ≤ 1) (k12 : (-512) ≤ x12 ∧ x12 ≤ 512) (k13 : (-512) ≤ x13 ∧ x13 ≤ 512) (k14 : 0 ≤ x14 ∧ x14 ≤ 76800) (k15 : 0 ≤ x15 ∧ x15 ≤ 31) (k17 : (-39321600) ≤ x17 ∧ x17 ≤ 39321600) (k18 : (-512) ≤ x18 ∧ x18 ≤ 512) (k20 : 0 ≤ x20 ∧ x20 ≤ 2400) (k21 : 0 ≤ x21 ∧ x21 ≤ 76800) (k22 : (-39321600) ≤ x22 ∧ x22 ≤ 39321600) (k23 : (-512) ≤ x23 ∧ x23 ≤ 512) (k27 : 0 ≤ x27 ∧ x27 ≤ 0) (k28 : (-512) ≤ x28 ∧ x28 ≤ 512) (k29 : (-1024) ≤ x29 ∧ x29 ≤ 1024) (k30 : 1 ≤ x30 ∧ x30 ≤ 1) (k31 : (-512) ≤ x31 ∧ x31 ≤ 512) (k32 : (-1024) ≤ x32 ∧ x32 ≤ 1024) (d0 : x23 + (-512) ≤ x32 ∧ x32 ≤ x23 + 512) (d1 : x18 + (-512) ≤ x29 ∧ x29 ≤ x18 + 512) (d2 : x28 + (-512) ≤ x29 ∧ x29 ≤ x28 + 512) (d3 : x20 + 0 ≤ x21 ∧ x21 ≤ x20 + 76800) (d4 : x14 + 0 ≤ x21 ∧ x21 ≤ x14 + 2400) (d5 : x8 + (-4294967296) ≤ x15 ∧ x15 ≤ x8 + (-1)) (d6 : x7 + (-4294967296) ≤ x1 ∧ x1 ≤ x7 + 0) (d7 : x15 + (-4294967296) ≤ x1 ∧ x1 ≤ x15 + 0) (d8 : x8 + (-4294967296) ≤ x2 ∧ x2 ≤ x8 + 0) (d9 : x9 + (-4294967296) ≤ x3 ∧ x3 ≤ x9 + 0) (d10 : x13 + (-4294967296) ≤ x3 ∧ x3 ≤ x13 + 131071) (d11 : x1 + (-4294967296) ≤ x7 ∧ x7 ≤ x1 + 0) (d12 : x15 + (-4294967296) ≤ x7 ∧ x7 ≤ x15 + 0) (d13 : x2 + (-4294967296) ≤ x8 ∧ x8 ≤ x2 + 0) (d14 : x3 + (-4294967296) ≤ x9 ∧ x9 ≤ x3 + 0) (d15 : x13 + (-4294967296) ≤ x9 ∧ x9 ≤ x13 + 131071) (f0 : x32 = x23 - x18) (h1 : x31 = space_0 (x30)) (f3 : x29 = x28 + x18) (h4 : x28 = space_0 (x27)) (f5 : x11 ≠ 0) (f6 : BTW (x18) (x12)) (f7 : BTW (x23) (x12)) (f8 : RWL (itemSize_0) (x1) (x2) (x3) (x15) (x21)) (f9 : x23 = Int.tdiv (x22) (x3)) (f10 : x22 = x12 * x21) (f11 : x21 = x14 + x20) (h12 : x20 = itemSize_0 (x15)) (f14 : x18 = Int.tdiv (x17) (x3)) (f15 : x17 = x12 * x14) (f16 : 0 < x3) (f17 : x15 < x2) (f18 : SPC (space_0)) (f19 : BXA (area_0o5)) (f21 : RWA (space_0) (x11) (x12) (x13)) (f22 : RWK (itemSize_0) (x1) (x2) (x3) (x15) (x14)) (hK_0_10 : ∀ j : Int, 0 ≤ j → j < 32 → 0 ≤ itemSize_0 j ∧ itemSize_0 j ≤ 2400) (hK_0_12 : ∀ j : Int, 0 ≤ j → j < 4 → (-512) ≤ space_0 j ∧ space_0 j ≤ 512) (hK_5_13 : ∀ j : Int, 0 ≤ j → j < 128 → (-512) ≤ area_0o5 j ∧ area_0o5 j ≤ 512) : 0 ≤ x31 ∧ x31 ≤ 512 := by
  first
    | omega
    | (have e1 := ‹x28 = space_0 x27›
       have e2 := ‹x31 = space_0 x30›
       rw [show x27 = 0 by omega] at e1
       rw [show x30 = 1 by omega] at e2
       rcases ‹RWA _ _ _ _› with ⟨t, ea, b⟩ | ⟨t, ea, b⟩
       · have g1 := hul_to (‹SPC _›).2 b
         have s2 := (‹SPC _›).1
         rw [← ea] at s2
         have g2 := hul_c2 (p := x29) (q := x32) s2 (show BTW x18 x12 by assumption) (show BTW x23 x12 by assumption) (by omega) (by assumption)
         rw [← e2] at g1
         unfold HUL at g1 g2
         omega
       · exfalso; omega)
  
set_option maxHeartbeats 4000000 in
theorem vc_Pl_layRow_26_r2 (x1 : Int) (x2 : Int) (x3 : Int) (x7 : Int) (x8 : Int) (x9 : Int) (x11 : Int) (x12 : Int) (x13 : Int) (x14 : Int) (x15 : Int) (x17 : Int) (x18 : Int) (x20 : Int) (x21 : Int) (x22 : Int) (x23 : Int) (x27 : Int) (x28 : Int) (x29 : Int) (x30 : Int) (x31 : Int) (x32 : Int) (space_0 : Int → Int) (itemSize_0 : Int → Int) (area_0o5 : Int → Int) (k1 : 0 ≤ x1 ∧ x1 ≤ 31) (k2 : 1 ≤ x2 ∧ x2 ≤ 32) (k3 : 1 ≤ x3 ∧ x3 ≤ 131071) (k7 : 0 ≤ x7 ∧ x7 ≤ 31) (k8 : 1 ≤ x8 ∧ x8 ≤ 32) (k9 : 1 ≤ x9 ∧ x9 ≤ 131071) (k11 : 1 ≤ x11 ∧ x11 ≤ 1) (k12 : (-512) ≤ x12 ∧ x12 ≤ 512) (k13 : (-512) ≤ x13 ∧ x13 ≤ 512) (k14 : 0 ≤ x14 ∧ x14 ≤ 76800) (k15 : 0 ≤ x15 ∧ x15 ≤ 31) (k17 : (-39321600) ≤ x17 ∧ x17 ≤ 39321600) (k18 : (-512) ≤ x18 ∧ x18 ≤ 512) (k20 : 0 ≤ x20 ∧ x20 ≤ 2400) (k21 : 0 ≤ x21 ∧ x21 ≤ 76800) (k22 : (-39321600) ≤ x22 ∧ x22 ≤ 39321600) (k23 : (-512) ≤ x23 ∧ x23 ≤ 512) (k27 : 0 ≤ x27 ∧ x27 ≤ 0) (k28 : (-512) ≤ x28 ∧ x28 ≤ 512) (k29 : (-1024) ≤ x29 ∧ x29 ≤ 1024) (k30 : 1 ≤ x30 ∧ x30 ≤ 1) (k31 : (-512) ≤ x31 ∧ x31 ≤ 512) (k32 : (-1024) ≤ x32 ∧ x32 ≤ 1024) (d0 : x23 + (-512) ≤ x32 ∧ x32 ≤ x23 + 512) (d1 : x18 + (-512) ≤ x29 ∧ x29 ≤ x18 + 512) (d2 : x28 + (-512) ≤ x29 ∧ x29 ≤ x28 + 512) (d3 : x20 + 0 ≤ x21 ∧ x21 ≤ x20 + 76800) (d4 : x14 + 0 ≤ x21 ∧ x21 ≤ x14 + 2400) (d5 : x8 + (-4294967296) ≤ x15 ∧ x15 ≤ x8 + (-1)) (d6 : x7 + (-4294967296) ≤ x1 ∧ x1 ≤ x7 + 0) (d7 : x15 + (-4294967296) ≤ x1 ∧ x1 ≤ x15 + 0) (d8 : x8 + (-4294967296) ≤ x2 ∧ x2 ≤ x8 + 0) (d9 : x9 + (-4294967296) ≤ x3 ∧ x3 ≤ x9 + 0) (d10 : x13 + (-4294967296) ≤ x3 ∧ x3 ≤ x13 + 131071) (d11 : x1 + (-4294967296) ≤ x7 ∧ x7 ≤ x1 + 0) (d12 : x15 + (-4294967296) ≤ x7 ∧ x7 ≤ x15 + 0) (d13 : x2 + (-4294967296) ≤ x8 ∧ x8 ≤ x2 + 0) (d14 : x3 + (-4294967296) ≤ x9 ∧ x9 ≤ x3 + 0) (d15 : x13 + (-4294967296) ≤ x9 ∧ x9 ≤ x13 + 131071) (f0 : x32 = x23 - x18) (h1 : x31 = space_0 (x30)) (f3 : x29 = x28 + x18) (h4 : x28 = space_0 (x27)) (f5 : x11 ≠ 0) (f6 : BTW (x18) (x12)) (f7 : BTW (x23) (x12)) (f8 : RWL (itemSize_0) (x1) (x2) (x3) (x15) (x21)) (f9 : x23 = Int.tdiv (x22) (x3)) (f10 : x22 = x12 * x21) (f11 : x21 = x14 + x20) (h12 : x20 = itemSize_0 (x15)) (f14 : x18 = Int.tdiv (x17) (x3)) (f15 : x17 = x12 * x14) (f16 : 0 < x3) (f17 : x15 < x2) (f18 : SPC (space_0)) (f19 : BXA (area_0o5)) (f21 : RWA (space_0) (x11) (x12) (x13)) (f22 : RWK (itemSize_0) (x1) (x2) (x3) (x15) (x14)) (hK_0_10 : ∀ j : Int, 0 ≤ j → j < 32 → 0 ≤ itemSize_0 j ∧ itemSize_0 j ≤ 2400) (hK_0_12 : ∀ j : Int, 0 ≤ j → j < 4 → (-512) ≤ space_0 j ∧ space_0 j ≤ 512) (hK_5_13 : ∀ j : Int, 0 ≤ j → j < 128 → (-512) ≤ area_0o5 j ∧ area_0o5 j ≤ 512) : (-512) ≤ x32 ∧ x32 ≤ 512 := by
  first
    | omega
    | (have e1 := ‹x28 = space_0 x27›
       have e2 := ‹x31 = space_0 x30›
       rw [show x27 = 0 by omega] at e1
       rw [show x30 = 1 by omega] at e2
       rcases ‹RWA _ _ _ _› with ⟨t, ea, b⟩ | ⟨t, ea, b⟩
       · have g1 := hul_to (‹SPC _›).2 b
         have s2 := (‹SPC _›).1
         rw [← ea] at s2
         have g2 := hul_c2 (p := x29) (q := x32) s2 (show BTW x18 x12 by assumption) (show BTW x23 x12 by assumption) (by omega) (by assumption)
         rw [← e2] at g1
         unfold HUL at g1 g2
         omega
       · exfalso; omega)
  
set_option maxHeartbeats 4000000 in
theorem vc_Pl_layRow_26_0 (x1 : Int) (x2 : Int) (x3 : Int) (x7 : Int) (x8 : Int) (x9 : Int) (x11 : Int) (x12 : Int) (x13 : Int) (x14 : Int) (x15 : Int) (x17 : Int) (x18 : Int) (x20 : Int) (x21 : Int) (x22 : Int) (x23 : Int) (x27 : Int) (x28 : Int) (x29 : Int) (x30 : Int) (x31 : Int) (x32 : Int) (space_0 : Int → Int) (itemSize_0 : Int → Int) (area_0o5 : Int → Int) (k1 : 0 ≤ x1 ∧ x1 ≤ 31) (k2 : 1 ≤ x2 ∧ x2 ≤ 32) (k3 : 1 ≤ x3 ∧ x3 ≤ 131071) (k7 : 0 ≤ x7 ∧ x7 ≤ 31) (k8 : 1 ≤ x8 ∧ x8 ≤ 32) (k9 : 1 ≤ x9 ∧ x9 ≤ 131071) (k11 : 1 ≤ x11 ∧ x11 ≤ 1) (k12 : (-512) ≤ x12 ∧ x12 ≤ 512) (k13 : (-512) ≤ x13 ∧ x13 ≤ 512) (k14 : 0 ≤ x14 ∧ x14 ≤ 76800) (k15 : 0 ≤ x15 ∧ x15 ≤ 31) (k17 : (-39321600) ≤ x17 ∧ x17 ≤ 39321600) (k18 : (-512) ≤ x18 ∧ x18 ≤ 512) (k20 : 0 ≤ x20 ∧ x20 ≤ 2400) (k21 : 0 ≤ x21 ∧ x21 ≤ 76800) (k22 : (-39321600) ≤ x22 ∧ x22 ≤ 39321600) (k23 : (-512) ≤ x23 ∧ x23 ≤ 512) (k27 : 0 ≤ x27 ∧ x27 ≤ 0) (k28 : (-512) ≤ x28 ∧ x28 ≤ 512) (k29 : (-1024) ≤ x29 ∧ x29 ≤ 1024) (k30 : 1 ≤ x30 ∧ x30 ≤ 1) (k31 : (-512) ≤ x31 ∧ x31 ≤ 512) (k32 : (-1024) ≤ x32 ∧ x32 ≤ 1024) (d0 : x23 + (-512) ≤ x32 ∧ x32 ≤ x23 + 512) (d1 : x18 + (-512) ≤ x29 ∧ x29 ≤ x18 + 512) (d2 : x28 + (-512) ≤ x29 ∧ x29 ≤ x28 + 512) (d3 : x20 + 0 ≤ x21 ∧ x21 ≤ x20 + 76800) (d4 : x14 + 0 ≤ x21 ∧ x21 ≤ x14 + 2400) (d5 : x8 + (-4294967296) ≤ x15 ∧ x15 ≤ x8 + (-1)) (d6 : x7 + (-4294967296) ≤ x1 ∧ x1 ≤ x7 + 0) (d7 : x15 + (-4294967296) ≤ x1 ∧ x1 ≤ x15 + 0) (d8 : x8 + (-4294967296) ≤ x2 ∧ x2 ≤ x8 + 0) (d9 : x9 + (-4294967296) ≤ x3 ∧ x3 ≤ x9 + 0) (d10 : x13 + (-4294967296) ≤ x3 ∧ x3 ≤ x13 + 131071) (d11 : x1 + (-4294967296) ≤ x7 ∧ x7 ≤ x1 + 0) (d12 : x15 + (-4294967296) ≤ x7 ∧ x7 ≤ x15 + 0) (d13 : x2 + (-4294967296) ≤ x8 ∧ x8 ≤ x2 + 0) (d14 : x3 + (-4294967296) ≤ x9 ∧ x9 ≤ x3 + 0) (d15 : x13 + (-4294967296) ≤ x9 ∧ x9 ≤ x13 + 131071) (f0 : x32 = x23 - x18) (h1 : x31 = space_0 (x30)) (f3 : x29 = x28 + x18) (h4 : x28 = space_0 (x27)) (f5 : x11 ≠ 0) (f6 : BTW (x18) (x12)) (f7 : BTW (x23) (x12)) (f8 : RWL (itemSize_0) (x1) (x2) (x3) (x15) (x21)) (f9 : x23 = Int.tdiv (x22) (x3)) (f10 : x22 = x12 * x21) (f11 : x21 = x14 + x20) (h12 : x20 = itemSize_0 (x15)) (f14 : x18 = Int.tdiv (x17) (x3)) (f15 : x17 = x12 * x14) (f16 : 0 < x3) (f17 : x15 < x2) (f18 : SPC (space_0)) (f19 : BXA (area_0o5)) (f21 : RWA (space_0) (x11) (x12) (x13)) (f22 : RWK (itemSize_0) (x1) (x2) (x3) (x15) (x14)) (hK_0_10 : ∀ j : Int, 0 ≤ j → j < 32 → 0 ≤ itemSize_0 j ∧ itemSize_0 j ≤ 2400) (hK_0_12 : ∀ j : Int, 0 ≤ j → j < 4 → (-512) ≤ space_0 j ∧ space_0 j ≤ 512) (hK_5_13 : ∀ j : Int, 0 ≤ j → j < 128 → (-512) ≤ area_0o5 j ∧ area_0o5 j ≤ 512) : HUL (x29) (x32) := by
  first
    | (have e1 := ‹x28 = space_0 x27›
       have e2 := ‹x31 = space_0 x30›
       rw [show x27 = 0 by omega] at e1
       rw [show x30 = 1 by omega] at e2
       rcases ‹RWA _ _ _ _› with ⟨t, ea, b⟩ | ⟨t, ea, b⟩
       · have g1 := hul_to (‹SPC _›).2 b
         have s2 := (‹SPC _›).1
         rw [← ea] at s2
         have g2 := hul_c2 (p := x29) (q := x32) s2 (show BTW x18 x12 by assumption) (show BTW x23 x12 by assumption) (by omega) (by assumption)
         rw [← e2] at g1
         first | exact g1 | exact g2
       · exfalso; omega)
  
set_option maxHeartbeats 4000000 in
theorem vc_Pl_layRow_26_1 (x1 : Int) (x2 : Int) (x3 : Int) (x7 : Int) (x8 : Int) (x9 : Int) (x11 : Int) (x12 : Int) (x13 : Int) (x14 : Int) (x15 : Int) (x17 : Int) (x18 : Int) (x20 : Int) (x21 : Int) (x22 : Int) (x23 : Int) (x27 : Int) (x28 : Int) (x29 : Int) (x30 : Int) (x31 : Int) (x32 : Int) (space_0 : Int → Int) (itemSize_0 : Int → Int) (area_0o5 : Int → Int) (k1 : 0 ≤ x1 ∧ x1 ≤ 31) (k2 : 1 ≤ x2 ∧ x2 ≤ 32) (k3 : 1 ≤ x3 ∧ x3 ≤ 131071) (k7 : 0 ≤ x7 ∧ x7 ≤ 31) (k8 : 1 ≤ x8 ∧ x8 ≤ 32) (k9 : 1 ≤ x9 ∧ x9 ≤ 131071) (k11 : 1 ≤ x11 ∧ x11 ≤ 1) (k12 : (-512) ≤ x12 ∧ x12 ≤ 512) (k13 : (-512) ≤ x13 ∧ x13 ≤ 512) (k14 : 0 ≤ x14 ∧ x14 ≤ 76800) (k15 : 0 ≤ x15 ∧ x15 ≤ 31) (k17 : (-39321600) ≤ x17 ∧ x17 ≤ 39321600) (k18 : (-512) ≤ x18 ∧ x18 ≤ 512) (k20 : 0 ≤ x20 ∧ x20 ≤ 2400) (k21 : 0 ≤ x21 ∧ x21 ≤ 76800) (k22 : (-39321600) ≤ x22 ∧ x22 ≤ 39321600) (k23 : (-512) ≤ x23 ∧ x23 ≤ 512) (k27 : 0 ≤ x27 ∧ x27 ≤ 0) (k28 : (-512) ≤ x28 ∧ x28 ≤ 512) (k29 : (-1024) ≤ x29 ∧ x29 ≤ 1024) (k30 : 1 ≤ x30 ∧ x30 ≤ 1) (k31 : (-512) ≤ x31 ∧ x31 ≤ 512) (k32 : (-1024) ≤ x32 ∧ x32 ≤ 1024) (d0 : x23 + (-512) ≤ x32 ∧ x32 ≤ x23 + 512) (d1 : x18 + (-512) ≤ x29 ∧ x29 ≤ x18 + 512) (d2 : x28 + (-512) ≤ x29 ∧ x29 ≤ x28 + 512) (d3 : x20 + 0 ≤ x21 ∧ x21 ≤ x20 + 76800) (d4 : x14 + 0 ≤ x21 ∧ x21 ≤ x14 + 2400) (d5 : x8 + (-4294967296) ≤ x15 ∧ x15 ≤ x8 + (-1)) (d6 : x7 + (-4294967296) ≤ x1 ∧ x1 ≤ x7 + 0) (d7 : x15 + (-4294967296) ≤ x1 ∧ x1 ≤ x15 + 0) (d8 : x8 + (-4294967296) ≤ x2 ∧ x2 ≤ x8 + 0) (d9 : x9 + (-4294967296) ≤ x3 ∧ x3 ≤ x9 + 0) (d10 : x13 + (-4294967296) ≤ x3 ∧ x3 ≤ x13 + 131071) (d11 : x1 + (-4294967296) ≤ x7 ∧ x7 ≤ x1 + 0) (d12 : x15 + (-4294967296) ≤ x7 ∧ x7 ≤ x15 + 0) (d13 : x2 + (-4294967296) ≤ x8 ∧ x8 ≤ x2 + 0) (d14 : x3 + (-4294967296) ≤ x9 ∧ x9 ≤ x3 + 0) (d15 : x13 + (-4294967296) ≤ x9 ∧ x9 ≤ x13 + 131071) (f0 : x32 = x23 - x18) (h1 : x31 = space_0 (x30)) (f3 : x29 = x28 + x18) (h4 : x28 = space_0 (x27)) (f5 : x11 ≠ 0) (f6 : BTW (x18) (x12)) (f7 : BTW (x23) (x12)) (f8 : RWL (itemSize_0) (x1) (x2) (x3) (x15) (x21)) (f9 : x23 = Int.tdiv (x22) (x3)) (f10 : x22 = x12 * x21) (f11 : x21 = x14 + x20) (h12 : x20 = itemSize_0 (x15)) (f14 : x18 = Int.tdiv (x17) (x3)) (f15 : x17 = x12 * x14) (f16 : 0 < x3) (f17 : x15 < x2) (f18 : SPC (space_0)) (f19 : BXA (area_0o5)) (f21 : RWA (space_0) (x11) (x12) (x13)) (f22 : RWK (itemSize_0) (x1) (x2) (x3) (x15) (x14)) (hK_0_10 : ∀ j : Int, 0 ≤ j → j < 32 → 0 ≤ itemSize_0 j ∧ itemSize_0 j ≤ 2400) (hK_0_12 : ∀ j : Int, 0 ≤ j → j < 4 → (-512) ≤ space_0 j ∧ space_0 j ≤ 512) (hK_5_13 : ∀ j : Int, 0 ≤ j → j < 128 → (-512) ≤ area_0o5 j ∧ area_0o5 j ≤ 512) : HUL (x31) (x13) := by
  first
    | (have e1 := ‹x28 = space_0 x27›
       have e2 := ‹x31 = space_0 x30›
       rw [show x27 = 0 by omega] at e1
       rw [show x30 = 1 by omega] at e2
       rcases ‹RWA _ _ _ _› with ⟨t, ea, b⟩ | ⟨t, ea, b⟩
       · have g1 := hul_to (‹SPC _›).2 b
         have s2 := (‹SPC _›).1
         rw [← ea] at s2
         have g2 := hul_c2 (p := x29) (q := x32) s2 (show BTW x18 x12 by assumption) (show BTW x23 x12 by assumption) (by omega) (by assumption)
         rw [← e2] at g1
         first | exact g1 | exact g2
       · exfalso; omega)
  
def o_Pl_layRow_26 : or_T := (161, 33, [(0, (2, 0, 0, [6])), (1, (0, 0, 31, [])), (2, (0, 1, 32, [])), (3, (0, 1, 131071, [])), (5, (2, 0, 0, [0])), (6, (2, 0, 0, [6])), (7, (0, 0, 31, [])), (8, (0, 1, 32, [])), (9, (0, 1, 131071, [])), (11, (0, 1, 1, [])), (12, (0, -512, 512, [])), (13, (0, -512, 512, [])), (14, (0, 0, 76800, [])), (15, (0, 0, 31, [])), (16, (2, 0, 0, [0])), (17, (0, -39321600, 39321600, [])), (18, (0, -512, 512, [])), (19, (2, 0, 0, [96])), (20, (0, 0, 2400, [])), (21, (0, 0, 76800, [])), (22, (0, -39321600, 39321600, [])), (23, (0, -512, 512, [])), (26, (2, 0, 0, [97])), (27, (0, 0, 0, [])), (28, (0, -512, 512, [])), (29, (0, -1024, 1024, [])), (30, (0, 1, 1, [])), (31, (0, -512, 512, [])), (32, (0, -1024, 1024, []))], [(2, [32, 23, 18], []), (10, [31, 26, 30], []), (9, [26, 6], [12]), (1, [29, 28, 18], []), (10, [28, 26, 27], []), (8, [11], [1]), (20, [18, 12], [61, 0, 793]), (20, [23, 12], [61, 0, 793]), (20, [6, 7, 8, 9, 15, 21], [60, 0, 1, 850, 10]), (4, [23, 22, 9], []), (3, [22, 12, 21], []), (1, [21, 14, 20], []), (10, [20, 19, 15], []), (9, [19, 6], [10]), (4, [18, 17, 9], []), (3, [17, 12, 14], []), (8, [9], [4]), (7, [15, 8], [2]), (20, [6], [60, 0, 1, 845, 12]), (20, [16], [60, 0, 1, 844, 13]), (24, [5, 16], []), (20, [6, 11, 12, 13], [60, 0, 1, 851, 12]), (20, [6, 7, 8, 9, 15, 14], [60, 0, 1, 849, 10]), (24, [0, 6], []), (24, [1, 7], []), (24, [2, 8], []), (24, [3, 9], [])], [(29, (0, 0, 512, [])), (31, (0, 0, 512, [])), (32, (0, -512, 512, []))], [], [(20, [29, 32], [61, 0, 791]), (20, [31, 13], [61, 0, 791])], [], [(32, 23, -512, 512), (29, 18, -512, 512), (29, 28, -512, 512), (21, 20, 0, 76800), (21, 14, 0, 2400), (15, 8, -4294967296, -1), (1, 7, -4294967296, 0), (1, 15, -4294967296, 0), (2, 8, -4294967296, 0), (3, 9, -4294967296, 0), (3, 13, -4294967296, 131071), (7, 1, -4294967296, 0), (7, 15, -4294967296, 0), (8, 2, -4294967296, 0), (9, 3, -4294967296, 0), (9, 13, -4294967296, 131071)])
theorem oo_Pl_layRow_26 {kA : Nat → ClassId} : or_ok PRD kA GG o_Pl_layRow_26 := by
  refine or_mk fun A ta ws vs hD hth hl => ?_
  intro t0 r0 t1 k1 t2 k2 t3 k3 t5 r5 t6 r6 t7 k7 t8 k8 t9 k9 t11 k11 t12 k12 t13 k13 t14 k14 t15 k15 t16 r16 t17 k17 t18 k18 t19 r19 t20 k20 t21 k21 t22 k22 t23 k23 t26 r26 t27 k27 t28 k28 t29 k29 t30 k30 t31 k31 t32 k32 d0 d1 d2 d3 d4 d5 d6 d7 d8 d9 d10 d11 d12 d13 d14 d15 f0 f1 f2 f3 f4 f5 f6 f7 f8 f9 f10 f11 f12 f13 f14 f15 f16 f17 f18 f19 f20 f21 f22 f23 f24 f25 f26
  replace f1 := shm_107 f1
  replace f2 := shm_103 f2
  replace f4 := shm_107 f4
  replace f8 := shm_891 f8
  replace f9 := shm_34 f9
  replace f12 := shm_107 f12
  replace f13 := shm_106 f13
  replace f14 := shm_34 f14
  replace f16 := shm_308 f16
  replace f17 := shm_6 f17
  replace f18 := shm_885 f18
  replace f19 := shm_418 f19
  replace f20 := shm_5 f20
  replace f21 := shm_887 f21
  replace f22 := shm_889 f22
  replace f23 := shm_5 f23
  replace f24 := shm_5 f24
  replace f25 := shm_5 f25
  replace f26 := shm_5 f26
  have q16 : n_v vs 16 = n_v vs 5 := f20.symm
  have q6 : n_v vs 6 = n_v vs 0 := f23.symm
  have q7 : n_v vs 7 = n_v vs 1 := f24.symm
  have q8 : n_v vs 8 = n_v vs 2 := f25.symm
  have q9 : n_v vs 9 = n_v vs 3 := f26.symm
  simp only [q6, q7, q8, q9, q16] at f2 f8 f9 f13 f14 f16 f17 f18 f19 f21 f22
  have cr_0_10 := fdq_9 hD hth r0
  have cr_0_12 := fdq_226 hD hth r0
  have cr_5_13 := fdq_88 hD hth r5
  have ad_26 : v_ad (n_v vs 26) = w_ar ws (n_v vs 0) 12 := congrArg v_ad f2
  have ad_19 : v_ad (n_v vs 19) = w_ar ws (n_v vs 0) 10 := congrArg v_ad f13
  simp only [ad_26] at f1
  have h1 : v_iv (n_v vs 31) = w_ei ws (w_ar ws (n_v vs 0) 12) (v_iv (n_v vs 30)) := f1
  simp only [ad_26] at f4
  have h4 : v_iv (n_v vs 28) = w_ei ws (w_ar ws (n_v vs 0) 12) (v_iv (n_v vs 27)) := f4
  simp only [ad_19] at f12
  have h12 : v_iv (n_v vs 20) = w_ei ws (w_ar ws (n_v vs 0) 10) (v_iv (n_v vs 15)) := f12
  have hK_0_10 := elq_138 hD hth cr_0_10
  have hK_0_12 := elq_139 hD hth cr_0_12
  have hK_5_13 := elq_44 hD hth cr_5_13
  have hrf0 : 0 ≤ v_iv (n_v vs 29) ∧ v_iv (n_v vs 29) ≤ 512 := vc_Pl_layRow_26_r0 (v_iv (n_v vs 1)) (v_iv (n_v vs 2)) (v_iv (n_v vs 3)) (v_iv (n_v vs 7)) (v_iv (n_v vs 8)) (v_iv (n_v vs 9)) (v_iv (n_v vs 11)) (v_iv (n_v vs 12)) (v_iv (n_v vs 13)) (v_iv (n_v vs 14)) (v_iv (n_v vs 15)) (v_iv (n_v vs 17)) (v_iv (n_v vs 18)) (v_iv (n_v vs 20)) (v_iv (n_v vs 21)) (v_iv (n_v vs 22)) (v_iv (n_v vs 23)) (v_iv (n_v vs 27)) (v_iv (n_v vs 28)) (v_iv (n_v vs 29)) (v_iv (n_v vs 30)) (v_iv (n_v vs 31)) (v_iv (n_v vs 32)) (w_ei ws (w_ar ws (n_v vs 0) 12)) (w_ei ws (w_ar ws (n_v vs 0) 10)) (w_ei ws (w_ar ws (n_v vs 5) 13)) k1 k2 k3 k7 k8 k9 k11 k12 k13 k14 k15 k17 k18 k20 k21 k22 k23 k27 k28 k29 k30 k31 k32 d0 d1 d2 d3 d4 d5 d6 d7 d8 d9 d10 d11 d12 d13 d14 d15 (shm_14 f0) h1 (shm_12 f3) h4 (shm_142 f5) (shm_890 f6) (shm_890 f7) f8 f9 (shm_38 f10) (shm_12 f11) h12 f14 (shm_38 f15) f16 f17 f18 f19 f21 f22 hK_0_10 hK_0_12 hK_5_13
  have hrf1 : 0 ≤ v_iv (n_v vs 31) ∧ v_iv (n_v vs 31) ≤ 512 := vc_Pl_layRow_26_r1 (v_iv (n_v vs 1)) (v_iv (n_v vs 2)) (v_iv (n_v vs 3)) (v_iv (n_v vs 7)) (v_iv (n_v vs 8)) (v_iv (n_v vs 9)) (v_iv (n_v vs 11)) (v_iv (n_v vs 12)) (v_iv (n_v vs 13)) (v_iv (n_v vs 14)) (v_iv (n_v vs 15)) (v_iv (n_v vs 17)) (v_iv (n_v vs 18)) (v_iv (n_v vs 20)) (v_iv (n_v vs 21)) (v_iv (n_v vs 22)) (v_iv (n_v vs 23)) (v_iv (n_v vs 27)) (v_iv (n_v vs 28)) (v_iv (n_v vs 29)) (v_iv (n_v vs 30)) (v_iv (n_v vs 31)) (v_iv (n_v vs 32)) (w_ei ws (w_ar ws (n_v vs 0) 12)) (w_ei ws (w_ar ws (n_v vs 0) 10)) (w_ei ws (w_ar ws (n_v vs 5) 13)) k1 k2 k3 k7 k8 k9 k11 k12 k13 k14 k15 k17 k18 k20 k21 k22 k23 k27 k28 k29 k30 k31 k32 d0 d1 d2 d3 d4 d5 d6 d7 d8 d9 d10 d11 d12 d13 d14 d15 (shm_14 f0) h1 (shm_12 f3) h4 (shm_142 f5) (shm_890 f6) (shm_890 f7) f8 f9 (shm_38 f10) (shm_12 f11) h12 f14 (shm_38 f15) f16 f17 f18 f19 f21 f22 hK_0_10 hK_0_12 hK_5_13
  have hrf2 : (-512) ≤ v_iv (n_v vs 32) ∧ v_iv (n_v vs 32) ≤ 512 := vc_Pl_layRow_26_r2 (v_iv (n_v vs 1)) (v_iv (n_v vs 2)) (v_iv (n_v vs 3)) (v_iv (n_v vs 7)) (v_iv (n_v vs 8)) (v_iv (n_v vs 9)) (v_iv (n_v vs 11)) (v_iv (n_v vs 12)) (v_iv (n_v vs 13)) (v_iv (n_v vs 14)) (v_iv (n_v vs 15)) (v_iv (n_v vs 17)) (v_iv (n_v vs 18)) (v_iv (n_v vs 20)) (v_iv (n_v vs 21)) (v_iv (n_v vs 22)) (v_iv (n_v vs 23)) (v_iv (n_v vs 27)) (v_iv (n_v vs 28)) (v_iv (n_v vs 29)) (v_iv (n_v vs 30)) (v_iv (n_v vs 31)) (v_iv (n_v vs 32)) (w_ei ws (w_ar ws (n_v vs 0) 12)) (w_ei ws (w_ar ws (n_v vs 0) 10)) (w_ei ws (w_ar ws (n_v vs 5) 13)) k1 k2 k3 k7 k8 k9 k11 k12 k13 k14 k15 k17 k18 k20 k21 k22 k23 k27 k28 k29 k30 k31 k32 d0 d1 d2 d3 d4 d5 d6 d7 d8 d9 d10 d11 d12 d13 d14 d15 (shm_14 f0) h1 (shm_12 f3) h4 (shm_142 f5) (shm_890 f6) (shm_890 f7) f8 f9 (shm_38 f10) (shm_12 f11) h12 f14 (shm_38 f15) f16 f17 f18 f19 f21 f22 hK_0_10 hK_0_12 hK_5_13
  have nf0 : fc_1 PRD (20, [29, 32], [61, 0, 791]) ws (vs) := ⟨nf_in hl rfl, sgq_417 (vc_Pl_layRow_26_0 (v_iv (n_v vs 1)) (v_iv (n_v vs 2)) (v_iv (n_v vs 3)) (v_iv (n_v vs 7)) (v_iv (n_v vs 8)) (v_iv (n_v vs 9)) (v_iv (n_v vs 11)) (v_iv (n_v vs 12)) (v_iv (n_v vs 13)) (v_iv (n_v vs 14)) (v_iv (n_v vs 15)) (v_iv (n_v vs 17)) (v_iv (n_v vs 18)) (v_iv (n_v vs 20)) (v_iv (n_v vs 21)) (v_iv (n_v vs 22)) (v_iv (n_v vs 23)) (v_iv (n_v vs 27)) (v_iv (n_v vs 28)) (v_iv (n_v vs 29)) (v_iv (n_v vs 30)) (v_iv (n_v vs 31)) (v_iv (n_v vs 32)) (w_ei ws (w_ar ws (n_v vs 0) 12)) (w_ei ws (w_ar ws (n_v vs 0) 10)) (w_ei ws (w_ar ws (n_v vs 5) 13)) k1 k2 k3 k7 k8 k9 k11 k12 k13 k14 k15 k17 k18 k20 k21 k22 k23 k27 k28 k29 k30 k31 k32 d0 d1 d2 d3 d4 d5 d6 d7 d8 d9 d10 d11 d12 d13 d14 d15 (shm_14 f0) h1 (shm_12 f3) h4 (shm_142 f5) (shm_890 f6) (shm_890 f7) f8 f9 (shm_38 f10) (shm_12 f11) h12 f14 (shm_38 f15) f16 f17 f18 f19 f21 f22 hK_0_10 hK_0_12 hK_5_13)⟩
  have nf1 : fc_1 PRD (20, [31, 13], [61, 0, 791]) ws (vs) := ⟨nf_in hl rfl, sgq_417 (vc_Pl_layRow_26_1 (v_iv (n_v vs 1)) (v_iv (n_v vs 2)) (v_iv (n_v vs 3)) (v_iv (n_v vs 7)) (v_iv (n_v vs 8)) (v_iv (n_v vs 9)) (v_iv (n_v vs 11)) (v_iv (n_v vs 12)) (v_iv (n_v vs 13)) (v_iv (n_v vs 14)) (v_iv (n_v vs 15)) (v_iv (n_v vs 17)) (v_iv (n_v vs 18)) (v_iv (n_v vs 20)) (v_iv (n_v vs 21)) (v_iv (n_v vs 22)) (v_iv (n_v vs 23)) (v_iv (n_v vs 27)) (v_iv (n_v vs 28)) (v_iv (n_v vs 29)) (v_iv (n_v vs 30)) (v_iv (n_v vs 31)) (v_iv (n_v vs 32)) (w_ei ws (w_ar ws (n_v vs 0) 12)) (w_ei ws (w_ar ws (n_v vs 0) 10)) (w_ei ws (w_ar ws (n_v vs 5) 13)) k1 k2 k3 k7 k8 k9 k11 k12 k13 k14 k15 k17 k18 k20 k21 k22 k23 k27 k28 k29 k30 k31 k32 d0 d1 d2 d3 d4 d5 d6 d7 d8 d9 d10 d11 d12 d13 d14 d15 (shm_14 f0) h1 (shm_12 f3) h4 (shm_142 f5) (shm_890 f6) (shm_890 f7) f8 f9 (shm_38 f10) (shm_12 f11) h12 f14 (shm_38 f15) f16 f17 f18 f19 f21 f22 hK_0_10 hK_0_12 hK_5_13)⟩
  have rf29 : tv_ok ta (0, 0, 512, []) (n_v vs 29) := tv_in t29 (by first | omega | grind) (by first | omega | grind)
  have rf31 : tv_ok ta (0, 0, 512, []) (n_v vs 31) := tv_in t31 (by first | omega | grind) (by first | omega | grind)
  have rf32 : tv_ok ta (0, -512, 512, []) (n_v vs 32) := tv_in t32 (by first | omega | grind) (by first | omega | grind)
  refine ⟨List.forall_mem_cons.mpr ⟨rf29, List.forall_mem_cons.mpr ⟨rf31, List.forall_mem_cons.mpr ⟨rf32, (fun _ h => (by cases h))⟩⟩⟩, [], trivial, ?_, (fun _ h => (by cases h))⟩
  rw [List.append_nil]
  exact List.forall_mem_cons.mpr ⟨⟨show (20 : Nat) < 100 from by decide, nf0⟩, List.forall_mem_cons.mpr ⟨⟨show (20 : Nat) < 100 from by decide, nf1⟩, (fun _ h => (by cases h))⟩⟩
set_option maxHeartbeats 4000000 in
theorem vc_Pl_layRow_27_0 (x1 : Int) (x2 : Int) (x3 : Int) (x7 : Int) (x8 : Int) (x9 : Int) (x11 : Int) (x12 : Int) (x13 : Int) (x14 : Int) (x15 : Int) (x17 : Int) (x18 : Int) (x20 : Int) (x21 : Int) (x22 : Int) (x23 : Int) (x28 : Int) (x29 : Int) (x31 : Int) (x32 : Int) (x33 : Int) (itemSize_0 : Int → Int) (space_0 : Int → Int) (area_0o5 : Int → Int) (k1 : 0 ≤ x1 ∧ x1 ≤ 31) (k2 : 1 ≤ x2 ∧ x2 ≤ 32) (k3 : 1 ≤ x3 ∧ x3 ≤ 131071) (k7 : 0 ≤ x7 ∧ x7 ≤ 31) (k8 : 1 ≤ x8 ∧ x8 ≤ 32) (k9 : 1 ≤ x9 ∧ x9 ≤ 131071) (k11 : 1 ≤ x11 ∧ x11 ≤ 1) (k12 : (-512) ≤ x12 ∧ x12 ≤ 512) (k13 : (-512) ≤ x13 ∧ x13 ≤ 512) (k14 : 0 ≤ x14 ∧ x14 ≤ 76800) (k15 : 0 ≤ x15 ∧ x15 ≤ 31) (k17 : (-39321600) ≤ x17 ∧ x17 ≤ 39321600) (k18 : (-512) ≤ x18 ∧ x18 ≤ 512) (k20 : 0 ≤ x20 ∧ x20 ≤ 2400) (k21 : 0 ≤ x21 ∧ x21 ≤ 76800) (k22 : (-39321600) ≤ x22 ∧ x22 ≤ 39321600) (k23 : (-512) ≤ x23 ∧ x23 ≤ 512) (k28 : (-512) ≤ x28 ∧ x28 ≤ 512) (k29 : 0 ≤ x29 ∧ x29 ≤ 512) (k31 : 0 ≤ x31 ∧ x31 ≤ 512) (k32 : (-512) ≤ x32 ∧ x32 ≤ 512) (k33 : 1 ≤ x33 ∧ x33 ≤ 32) (d0 : x15 + 1 ≤ x33 ∧ x33 ≤ x15 + 1) (d1 : x8 + (-4294967296) ≤ x33 ∧ x33 ≤ x8 + 0) (d2 : x23 + (-512) ≤ x32 ∧ x32 ≤ x23 + 512) (d3 : x18 + (-512) ≤ x29 ∧ x29 ≤ x18 + 512) (d4 : x28 + (-512) ≤ x29 ∧ x29 ≤ x28 + 512) (d5 : x20 + 0 ≤ x21 ∧ x21 ≤ x20 + 76800) (d6 : x14 + 0 ≤ x21 ∧ x21 ≤ x14 + 2400) (d7 : x8 + (-4294967296) ≤ x15 ∧ x15 ≤ x8 + (-1)) (d8 : x7 + (-4294967296) ≤ x1 ∧ x1 ≤ x7 + 0) (d9 : x15 + (-4294967296) ≤ x1 ∧ x1 ≤ x15 + 0) (d10 : x8 + (-4294967296) ≤ x2 ∧ x2 ≤ x8 + 0) (d11 : x9 + (-4294967296) ≤ x3 ∧ x3 ≤ x9 + 0) (d12 : x13 + (-4294967296) ≤ x3 ∧ x3 ≤ x13 + 131071) (d13 : x1 + (-4294967296) ≤ x7 ∧ x7 ≤ x1 + 0) (d14 : x15 + (-4294967296) ≤ x7 ∧ x7 ≤ x15 + 0) (d15 : x2 + (-4294967296) ≤ x8 ∧ x8 ≤ x2 + 0) (d16 : x3 + (-4294967296) ≤ x9 ∧ x9 ≤ x3 + 0) (d17 : x13 + (-4294967296) ≤ x9 ∧ x9 ≤ x13 + 131071) (f2 : x33 = x15 + 1) (f3 : HUL (x29) (x32)) (f4 : HUL (x31) (x13)) (f5 : BTW (x18) (x12)) (f6 : BTW (x23) (x12)) (f7 : RWL (itemSize_0) (x1) (x2) (x3) (x15) (x21)) (f8 : SPC (space_0)) (f10 : RWA (space_0) (x11) (x12) (x13)) (f11 : RWK (itemSize_0) (x1) (x2) (x3) (x15) (x14)) (f16 : BXA (area_0o5)) (f18 : x32 = x23 - x18) (f19 : x29 = x28 + x18) (f20 : x11 ≠ 0) (f21 : x22 = x12 * x21) (f22 : x21 = x14 + x20) (f23 : x17 = x12 * x14) (f24 : 0 < x3) (f25 : x15 < x2) (hK_0_10 : ∀ j : Int, 0 ≤ j → j < 32 → 0 ≤ itemSize_0 j ∧ itemSize_0 j ≤ 2400) (hK_0_12 : ∀ j : Int, 0 ≤ j → j < 4 → (-512) ≤ space_0 j ∧ space_0 j ≤ 512) (hK_5_13 : ∀ j : Int, 0 ≤ j → j < 128 → (-512) ≤ area_0o5 j ∧ area_0o5 j ≤ 512) : RWK (itemSize_0) (x1) (x2) (x3) (x33) (x21) := by
  first
    | assumption
    | exact rwk_start ‹RWS6 _ _ _ _ _› (by omega) (by omega)
    | exact rwl_to ‹RWL _ _ _ _ _ _› (by omega)
    | exact rwk_step ‹RWK _ _ _ _ _ _› (by omega) (by assumption) (by omega) (by omega)
  
def o_Pl_layRow_27 : or_T := (86, 34, [(0, (2, 0, 0, [6])), (1, (0, 0, 31, [])), (2, (0, 1, 32, [])), (3, (0, 1, 131071, [])), (5, (2, 0, 0, [0])), (6, (2, 0, 0, [6])), (7, (0, 0, 31, [])), (8, (0, 1, 32, [])), (9, (0, 1, 131071, [])), (11, (0, 1, 1, [])), (12, (0, -512, 512, [])), (13, (0, -512, 512, [])), (14, (0, 0, 76800, [])), (15, (0, 0, 31, [])), (16, (2, 0, 0, [0])), (17, (0, -39321600, 39321600, [])), (18, (0, -512, 512, [])), (19, (2, 0, 0, [96])), (20, (0, 0, 2400, [])), (21, (0, 0, 76800, [])), (22, (0, -39321600, 39321600, [])), (23, (0, -512, 512, [])), (26, (2, 0, 0, [97])), (28, (0, -512, 512, [])), (29, (0, 0, 512, [])), (31, (0, 0, 512, [])), (32, (0, -512, 512, [])), (33, (0, 1, 32, []))], [(9, [26, 6], [12]), (9, [19, 6], [10]), (6, [33, 15], [1]), (20, [29, 32], [61, 0, 791]), (20, [31, 13], [61, 0, 791]), (20, [18, 12], [61, 0, 793]), (20, [23, 12], [61, 0, 793]), (20, [6, 7, 8, 9, 15, 21], [60, 0, 1, 850, 10]), (20, [6], [60, 0, 1, 845, 12]), (24, [5, 16], []), (20, [6, 11, 12, 13], [60, 0, 1, 851, 12]), (20, [6, 7, 8, 9, 15, 14], [60, 0, 1, 849, 10]), (24, [0, 6], []), (24, [1, 7], []), (24, [2, 8], []), (24, [3, 9], []), (20, [16], [60, 0, 1, 844, 13]), (102, [32], [4194304]), (2, [32, 23, 18], []), (1, [29, 28, 18], []), (8, [11], [1]), (3, [22, 12, 21], []), (1, [21, 14, 20], []), (3, [17, 12, 14], []), (8, [9], [4]), (7, [15, 8], [2])], [], [], [(20, [6, 7, 8, 9, 33, 21], [60, 0, 1, 849, 10])], [], [(33, 15, 1, 1), (33, 8, -4294967296, 0), (32, 23, -512, 512), (29, 18, -512, 512), (29, 28, -512, 512), (21, 20, 0, 76800), (21, 14, 0, 2400), (15, 8, -4294967296, -1), (1, 7, -4294967296, 0), (1, 15, -4294967296, 0), (2, 8, -4294967296, 0), (3, 9, -4294967296, 0), (3, 13, -4294967296, 131071), (7, 1, -4294967296, 0), (7, 15, -4294967296, 0), (8, 2, -4294967296, 0), (9, 3, -4294967296, 0), (9, 13, -4294967296, 131071)])
theorem oo_Pl_layRow_27 {kA : Nat → ClassId} : or_ok PRD kA GG o_Pl_layRow_27 := by
  refine or_mk fun A ta ws vs hD hth hl => ?_
  intro t0 r0 t1 k1 t2 k2 t3 k3 t5 r5 t6 r6 t7 k7 t8 k8 t9 k9 t11 k11 t12 k12 t13 k13 t14 k14 t15 k15 t16 r16 t17 k17 t18 k18 t19 r19 t20 k20 t21 k21 t22 k22 t23 k23 t26 r26 t28 k28 t29 k29 t31 k31 t32 k32 t33 k33 d0 d1 d2 d3 d4 d5 d6 d7 d8 d9 d10 d11 d12 d13 d14 d15 d16 d17 f0 f1 f2 f3 f4 f5 f6 f7 f8 f9 f10 f11 f12 f13 f14 f15 f16 ta1 w1 le1 s1 f18 f19 f20 f21 f22 f23 f24 f25
  replace f2 := shm_4 f2
  replace f3 := shm_417 f3
  replace f4 := shm_417 f4
  replace f5 := shm_890 f5
  replace f6 := shm_890 f6
  replace f7 := shm_891 f7
  replace f8 := shm_885 f8
  replace f9 := shm_5 f9
  replace f10 := shm_887 f10
  replace f11 := shm_889 f11
  replace f12 := shm_5 f12
  replace f13 := shm_5 f13
  replace f14 := shm_5 f14
  replace f15 := shm_5 f15
  replace f16 := shm_418 f16
  replace f18 := shm_14 f18
  replace f19 := shm_12 f19
  replace f20 := shm_142 f20
  replace f21 := shm_38 f21
  replace f22 := shm_12 f22
  replace f23 := shm_38 f23
  replace f24 := shm_308 f24
  replace f25 := shm_6 f25
  have q16 : n_v vs 16 = n_v vs 5 := f9.symm
  have q6 : n_v vs 6 = n_v vs 0 := f12.symm
  have q7 : n_v vs 7 = n_v vs 1 := f13.symm
  have q8 : n_v vs 8 = n_v vs 2 := f14.symm
  have q9 : n_v vs 9 = n_v vs 3 := f15.symm
  simp only [q6, q7, q8, q9, q16] at f7 f8 f10 f11 f16 f24 f25
  have cr_0_10 := fdq_9 hD hth r0
  have cr_0_12 := fdq_226 hD hth r0
  have cr_5_13 := fdq_88 hD hth r5
  have hK_0_10 := elq_138 hD hth cr_0_10
  have hK_0_12 := elq_139 hD hth cr_0_12
  have hK_5_13 := elq_44 hD hth cr_5_13
  have nf0 : fc_1 PRD (20, [6, 7, 8, 9, 33, 21], [60, 0, 1, 849, 10]) ws (vs) := by
    refine ⟨nf_in hl rfl, sgq_889 ?_⟩
    · show RWK (w_ei ws (w_ar ws (n_v vs 6) 10)) (v_iv (n_v vs 7)) (v_iv (n_v vs 8)) (v_iv (n_v vs 9)) (v_iv (n_v vs 33)) (v_iv (n_v vs 21))
      simp only [q6, q7, q8, q9]
      exact vc_Pl_layRow_27_0 (v_iv (n_v vs 1)) (v_iv (n_v vs 2)) (v_iv (n_v vs 3)) (v_iv (n_v vs 7)) (v_iv (n_v vs 8)) (v_iv (n_v vs 9)) (v_iv (n_v vs 11)) (v_iv (n_v vs 12)) (v_iv (n_v vs 13)) (v_iv (n_v vs 14)) (v_iv (n_v vs 15)) (v_iv (n_v vs 17)) (v_iv (n_v vs 18)) (v_iv (n_v vs 20)) (v_iv (n_v vs 21)) (v_iv (n_v vs 22)) (v_iv (n_v vs 23)) (v_iv (n_v vs 28)) (v_iv (n_v vs 29)) (v_iv (n_v vs 31)) (v_iv (n_v vs 32)) (v_iv (n_v vs 33)) (w_ei ws (w_ar ws (n_v vs 0) 10)) (w_ei ws (w_ar ws (n_v vs 0) 12)) (w_ei ws (w_ar ws (n_v vs 5) 13)) k1 k2 k3 k7 k8 k9 k11 k12 k13 k14 k15 k17 k18 k20 k21 k22 k23 k28 k29 k31 k32 k33 d0 d1 d2 d3 d4 d5 d6 d7 d8 d9 d10 d11 d12 d13 d14 d15 d16 d17 f2 f3 f4 f5 f6 f7 f8 f10 f11 f16 f18 f19 f20 f21 f22 f23 f24 f25 hK_0_10 hK_0_12 hK_5_13
  refine ⟨(fun _ h => (by cases h)), [], trivial, ?_, (fun _ h => (by cases h))⟩
  rw [List.append_nil]
  exact List.forall_mem_cons.mpr ⟨⟨show (20 : Nat) < 100 from by decide, nf0⟩, (fun _ h => (by cases h))⟩
def n_Pl_layRow_an : List an_T := [(86, [(0, (2, 0, 0, [6])), (1, (0, 0, 31, [])), (2, (0, 1, 32, [])), (3, (0, 0, 131071, [])), (4, (0, (Int.negSucc 2147483647), 131071, [])), (5, (0, 0, 1, [])), (6, (0, (Int.negSucc 511), 512, [])), (7, (0, (Int.negSucc 511), 512, [])), (8, (0, 0, 76800, [])), (9, (0, 0, 32, []))], [], (0, 0), [(0, 0, 99914), (1, 15, 32), (0, 0, 100000)], [(1, 7, (Int.negSucc 999999999999), 0), (1, 15, (Int.negSucc 999999999999), 0), (2, 8, (Int.negSucc 999999999999), 0), (3, 9, (Int.negSucc 999999999999), 0), (3, 13, (Int.negSucc 999999999999), 131071), (4, 10, (Int.negSucc 999999999999), 0), (7, 1, (Int.negSucc 999999999999), 0), (7, 15, (Int.negSucc 999999999999), 0), (8, 2, (Int.negSucc 999999999999), 0), (9, 3, (Int.negSucc 999999999999), 0), (9, 13, (Int.negSucc 999999999999), 131071), (10, 4, (Int.negSucc 999999999999), 0), (15, 2, (Int.negSucc 999999999999), 30), (15, 3, (Int.negSucc 999999999999), 31), (15, 8, (Int.negSucc 999999999999), 30), (15, 9, (Int.negSucc 999999999999), 31)], [((0, 1), (2, 0, 0, [0]))], [(2, 0, 0, [6]), (0, 0, 31, []), (0, 1, 32, []), (0, 0, 131071, []), (0, (Int.negSucc 2147483647), 131071, []), (2, 0, 0, [0])], 0, [], [(20, [6], [60, 0, 1, 845, 12]), (20, [16], [60, 0, 1, 844, 13]), (24, [5, 16], []), (20, [6, 11, 12, 13], [60, 0, 1, 851, 12]), (20, [6, 7, 8, 9, 15, 14], [60, 0, 1, 849, 10]), (24, [0, 6], []), (24, [1, 7], []), (24, [2, 8], []), (24, [3, 9], [])])]
def t_Pl_layRow_ct : ct_L := [(1, 162, e_Pl_setArea)]
set_option maxRecDepth 100000 in
theorem c_Pl_layRow {l : Launch} {D : va_G} {kA : Nat → ClassId} (h_Pl_setArea : ct_ok PRD l D kA GG y_Pl_setArea z_Pl_setArea e_Pl_setArea) : ct_ok PRD l D kA GG y_Pl_layRow z_Pl_layRow e_Pl_layRow := chk_all_ok (FT := [(42, 6, 9), (45, 6, 10), (51, 6, 12)]) (PT := []) (CT := t_Pl_layRow_ct) (KT := []) (NT := []) (AN := n_Pl_layRow_an) (OT := [o_Pl_layRow_0, o_Pl_layRow_1, o_Pl_layRow_2, o_Pl_layRow_3, o_Pl_layRow_4, o_Pl_layRow_5, o_Pl_layRow_6, o_Pl_layRow_7, o_Pl_layRow_8, o_Pl_layRow_9, o_Pl_layRow_10, o_Pl_layRow_11, o_Pl_layRow_12, o_Pl_layRow_13, o_Pl_layRow_14, o_Pl_layRow_15, o_Pl_layRow_16, o_Pl_layRow_17, o_Pl_layRow_18, o_Pl_layRow_19, o_Pl_layRow_20, o_Pl_layRow_21, o_Pl_layRow_22, o_Pl_layRow_23, o_Pl_layRow_24, o_Pl_layRow_25, o_Pl_layRow_26, o_Pl_layRow_27]) 3 916 (List.forall_mem_cons.mpr ⟨oo_Pl_layRow_0, List.forall_mem_cons.mpr ⟨oo_Pl_layRow_1, List.forall_mem_cons.mpr ⟨oo_Pl_layRow_2, List.forall_mem_cons.mpr ⟨oo_Pl_layRow_3, List.forall_mem_cons.mpr ⟨oo_Pl_layRow_4, List.forall_mem_cons.mpr ⟨oo_Pl_layRow_5, List.forall_mem_cons.mpr ⟨oo_Pl_layRow_6, List.forall_mem_cons.mpr ⟨oo_Pl_layRow_7, List.forall_mem_cons.mpr ⟨oo_Pl_layRow_8, List.forall_mem_cons.mpr ⟨oo_Pl_layRow_9, List.forall_mem_cons.mpr ⟨oo_Pl_layRow_10, List.forall_mem_cons.mpr ⟨oo_Pl_layRow_11, List.forall_mem_cons.mpr ⟨oo_Pl_layRow_12, List.forall_mem_cons.mpr ⟨oo_Pl_layRow_13, List.forall_mem_cons.mpr ⟨oo_Pl_layRow_14, List.forall_mem_cons.mpr ⟨oo_Pl_layRow_15, List.forall_mem_cons.mpr ⟨oo_Pl_layRow_16, List.forall_mem_cons.mpr ⟨oo_Pl_layRow_17, List.forall_mem_cons.mpr ⟨oo_Pl_layRow_18, List.forall_mem_cons.mpr ⟨oo_Pl_layRow_19, List.forall_mem_cons.mpr ⟨oo_Pl_layRow_20, List.forall_mem_cons.mpr ⟨oo_Pl_layRow_21, List.forall_mem_cons.mpr ⟨oo_Pl_layRow_22, List.forall_mem_cons.mpr ⟨oo_Pl_layRow_23, List.forall_mem_cons.mpr ⟨oo_Pl_layRow_24, List.forall_mem_cons.mpr ⟨oo_Pl_layRow_25, List.forall_mem_cons.mpr ⟨oo_Pl_layRow_26, List.forall_mem_cons.mpr ⟨oo_Pl_layRow_27, List.forall_mem_nil _⟩⟩⟩⟩⟩⟩⟩⟩⟩⟩⟩⟩⟩⟩⟩⟩⟩⟩⟩⟩⟩⟩⟩⟩⟩⟩⟩⟩) (by decide +kernel) ⟨List.forall_mem_cons.mpr ⟨gf_Pl_42, List.forall_mem_cons.mpr ⟨gf_Pl_45, List.forall_mem_cons.mpr ⟨gf_Pl_51, List.forall_mem_nil _⟩⟩⟩, List.forall_mem_nil _, List.forall_mem_cons.mpr ⟨cl_virtual (y := y_Pl_setArea) (ci := 6) rfl rfl ⟨_, _, rfl⟩ (by decide +kernel) h_Pl_setArea wm_1725 wm_21 wm_1722 wm_1724 wv_7_13 ⟨by decide, by decide, by decide +kernel⟩ (by decide), List.forall_mem_nil _⟩, List.forall_mem_nil _, List.forall_mem_nil _, GG_pl⟩ (by decide +kernel)
set_option maxHeartbeats 4000000 in
theorem vc_Pn_pickFromLine_0_0 (lineLength_0 : Int) (kz_0_3 : 0 ≤ lineLength_0 ∧ lineLength_0 ≤ 24) : 0 ≤ lineLength_0 := by
  omega
def o_Pn_pickFromLine_0 : or_T := (4, 3, [(0, (2, 0, 0, [7]))], [], [], [], [(20, [0], [50, 1, 0, 3, 0, 2, 0, 0, 2, 0, 3]), (24, [0, 0], [])], [], [])
theorem oo_Pn_pickFromLine_0 {kA : Nat → ClassId} : or_ok PRD kA GG o_Pn_pickFromLine_0 := by
  refine or_mk fun A ta ws vs hD hth hl => ?_
  intro t0 r0
  have kz_0_3 := fdq_13 hD hth r0
  have nf0 : fc_1 PRD (20, [0], [50, 1, 0, 3, 0, 2, 0, 0, 2, 0, 3]) ws (vs) := ⟨nf_in hl rfl, sgq_892 (vc_Pn_pickFromLine_0_0 (w_fi ws (n_v vs 0) 3) kz_0_3)⟩
  have nf1 : fc_1 PRD (24, [0, 0], []) ws (vs) := by
    refine ⟨nf_in hl rfl, sgq_1 ?_⟩
    · show n_v vs 0 = n_v vs 0
      first | rfl | simp only [true_and]
  refine ⟨(fun _ h => (by cases h)), [], trivial, ?_, (fun _ h => (by cases h))⟩
  rw [List.append_nil]
  exact List.forall_mem_cons.mpr ⟨⟨show (20 : Nat) < 100 from by decide, nf0⟩, List.forall_mem_cons.mpr ⟨⟨show (24 : Nat) < 100 from by decide, nf1⟩, (fun _ h => (by cases h))⟩⟩
set_option maxHeartbeats 4000000 in
theorem vc_Pn_pickFromLine_1_0 (x3 : Int) (x4 : Int) (x5 : Int) (lineLength_0 : Int) (k3 : 0 ≤ x3 ∧ x3 ≤ 24) (k4 : 0 ≤ x4 ∧ x4 ≤ 24) (k5 : 1 ≤ x5 ∧ x5 ≤ 1) (d0 : x4 + 0 ≤ x3 ∧ x3 ≤ x4 + 4294967296) (f0 : x4 ≤ x3) (g1 : x4 = lineLength_0) (f2 : 0 ≤ lineLength_0) (kz_0_3 : 0 ≤ lineLength_0 ∧ lineLength_0 ≤ 24) : (x5 = 1) ∨ ((1 ≤ x5) ∧ ((x5 + 2) ≤ lineLength_0)) := by
  omega
def o_Pn_pickFromLine_1 : or_T := (36, 8, [(0, (2, 0, 0, [7])), (3, (0, 0, 24, [])), (4, (0, 0, 24, [])), (5, (0, 1, 1, []))], [(7, [3, 4], [3]), (9, [4, 1], [3]), (20, [1], [50, 1, 0, 3, 0, 2, 0, 0, 2, 0, 3]), (24, [0, 1], [])], [], [], [(20, [5, 1], [50, 1, 0, 1003, 3, 6, 1, 2, 1, 0, 0, 1, 2, 6, 0, 2, 0, 1, 1, 0, 0, 6, 4, 2, 1, 0, 0, 2, 2, 1, 3])], [], [(3, 4, 0, 4294967296)])
theorem oo_Pn_pickFromLine_1 {kA : Nat → ClassId} : or_ok PRD kA GG o_Pn_pickFromLine_1 := by
  refine or_mk fun A ta ws vs hD hth hl => ?_
  intro t0 r0 t3 k3 t4 k4 t5 k5 d0 f0 f1 f2 f3
  replace f0 := shm_2 f0
  replace f1 := shm_137 f1
  replace f2 := shm_892 f2
  replace f3 := shm_5 f3
  have q1 : n_v vs 1 = n_v vs 0 := f3.symm
  simp only [q1] at f1 f2
  have g1 : v_iv (n_v vs 4) = w_fi ws (n_v vs 0) 3 := congrArg v_iv f1
  have kz_0_3 := fdq_13 hD hth r0
  have nf0 : fc_1 PRD (20, [5, 1], [50, 1, 0, 1003, 3, 6, 1, 2, 1, 0, 0, 1, 2, 6, 0, 2, 0, 1, 1, 0, 0, 6, 4, 2, 1, 0, 0, 2, 2, 1, 3]) ws (vs) := by
    refine ⟨nf_in hl rfl, sgq_893 ?_⟩
    · show (v_iv (n_v vs 5) = 1) ∨ ((1 ≤ v_iv (n_v vs 5)) ∧ ((v_iv (n_v vs 5) + 2) ≤ w_fi ws (n_v vs 1) 3))
      rw [q1]
      exact vc_Pn_pickFromLine_1_0 (v_iv (n_v vs 3)) (v_iv (n_v vs 4)) (v_iv (n_v vs 5)) (w_fi ws (n_v vs 0) 3) k3 k4 k5 d0 f0 g1 f2 kz_0_3
  refine ⟨(fun _ h => (by cases h)), [], trivial, ?_, (fun _ h => (by cases h))⟩
  rw [List.append_nil]
  exact List.forall_mem_cons.mpr ⟨⟨show (20 : Nat) < 100 from by decide, nf0⟩, (fun _ h => (by cases h))⟩
set_option maxHeartbeats 4000000 in
theorem vc_Pn_pickFromLine_2_0 (x3 : Int) (x5 : Int) (x6 : Int) (x7 : Int) (x8 : Int) (lineLength_0 : Int) (k3 : 1 ≤ x3 ∧ x3 ≤ 22) (k5 : 1 ≤ x5 ∧ x5 ≤ 23) (k6 : 1 ≤ x6 ∧ x6 ≤ 1) (k7 : 2 ≤ x7 ∧ x7 ≤ 24) (k8 : 0 ≤ x8 ∧ x8 ≤ 24) (d0 : x8 + 0 ≤ x7 ∧ x7 ≤ x8 + 4294967296) (d1 : x5 + 1 ≤ x7 ∧ x7 ≤ x5 + 1) (d2 : x5 + (-4294967296) ≤ x3 ∧ x3 ≤ x5 + 0) (f0 : x8 ≤ x7) (g1 : x8 = lineLength_0) (f2 : x7 = x5 + x6) (f3 : (x3 = 1) ∨ ((1 ≤ x3) ∧ ((x3 + 2) ≤ lineLength_0))) (kz_0_3 : 0 ≤ lineLength_0 ∧ lineLength_0 ≤ 24) : (x3 = 1) ∨ ((1 ≤ x3) ∧ ((x3 + 2) ≤ lineLength_0)) := by
  omega
def o_Pn_pickFromLine_2 : or_T := (100, 9, [(0, (2, 0, 0, [7])), (3, (0, 1, 22, [])), (5, (0, 1, 23, [])), (6, (0, 1, 1, [])), (7, (0, 2, 24, [])), (8, (0, 0, 24, []))], [(7, [7, 8], [3]), (9, [8, 1], [3]), (1, [7, 5, 6], []), (20, [3, 1], [50, 1, 0, 1003, 3, 6, 1, 2, 1, 0, 0, 1, 2, 6, 0, 2, 0, 1, 1, 0, 0, 6, 4, 2, 1, 0, 0, 2, 2, 1, 3]), (24, [0, 1], [])], [], [], [(20, [3, 0], [50, 1, 0, 1003, 3, 6, 1, 2, 1, 0, 0, 1, 2, 6, 0, 2, 0, 1, 1, 0, 0, 6, 4, 2, 1, 0, 0, 2, 2, 1, 3])], [], [(7, 8, 0, 4294967296), (7, 5, 1, 1), (3, 5, -4294967296, 0)])
theorem oo_Pn_pickFromLine_2 {kA : Nat → ClassId} : or_ok PRD kA GG o_Pn_pickFromLine_2 := by
  refine or_mk fun A ta ws vs hD hth hl => ?_
  intro t0 r0 t3 k3 t5 k5 t6 k6 t7 k7 t8 k8 d0 d1 d2 f0 f1 f2 f3 f4
  replace f1 := shm_137 f1
  replace f3 := shm_893 f3
  replace f4 := shm_5 f4
  have q1 : n_v vs 1 = n_v vs 0 := f4.symm
  simp only [q1] at f1 f3
  have g1 : v_iv (n_v vs 8) = w_fi ws (n_v vs 0) 3 := congrArg v_iv f1
  have kz_0_3 := fdq_13 hD hth r0
  have nf0 : fc_1 PRD (20, [3, 0], [50, 1, 0, 1003, 3, 6, 1, 2, 1, 0, 0, 1, 2, 6, 0, 2, 0, 1, 1, 0, 0, 6, 4, 2, 1, 0, 0, 2, 2, 1, 3]) ws (vs) := ⟨nf_in hl rfl, sgq_893 (vc_Pn_pickFromLine_2_0 (v_iv (n_v vs 3)) (v_iv (n_v vs 5)) (v_iv (n_v vs 6)) (v_iv (n_v vs 7)) (v_iv (n_v vs 8)) (w_fi ws (n_v vs 0) 3) k3 k5 k6 k7 k8 d0 d1 d2 (shm_2 f0) g1 (shm_12 f2) f3 kz_0_3)⟩
  refine ⟨(fun _ h => (by cases h)), [], trivial, ?_, (fun _ h => (by cases h))⟩
  rw [List.append_nil]
  exact List.forall_mem_cons.mpr ⟨⟨show (20 : Nat) < 100 from by decide, nf0⟩, (fun _ h => (by cases h))⟩
set_option maxHeartbeats 4000000 in
theorem vc_Pn_pickFromLine_3_0 (x2 : Int) (x3 : Int) (x4 : Int) (x5 : Int) (x6 : Int) (x7 : Int) (x8 : Int) (x10 : Int) (x13 : Int) (x14 : Int) (x15 : Int) (x16 : Int) (x17 : Int) (x18 : Int) (x19 : Int) (line_0 : Int → Int) (near_0o11 : Int → Int) (lineLength_0 : Int) (k2 : 0 ≤ x2 ∧ x2 ≤ 16777215) (k3 : 1 ≤ x3 ∧ x3 ≤ 22) (k4 : (-1) ≤ x4 ∧ x4 ≤ 22) (k5 : 1 ≤ x5 ∧ x5 ≤ 22) (k6 : 1 ≤ x6 ∧ x6 ≤ 1) (k7 : 2 ≤ x7 ∧ x7 ≤ 23) (k8 : 3 ≤ x8 ∧ x8 ≤ 24) (k10 : 0 ≤ x10 ∧ x10 ≤ 23) (k13 : 0 ≤ x13 ∧ x13 ≤ 23) (k14 : 0 ≤ x14 ∧ x14 ≤ 16777215) (k15 : 0 ≤ x15 ∧ x15 ≤ 16777215) (k16 : 2 ≤ x16 ∧ x16 ≤ 2) (k17 : 2 ≤ x17 ∧ x17 ≤ 2) (k18 : 0 ≤ x18 ∧ x18 ≤ 23) (k19 : 2 ≤ x19 ∧ x19 ≤ 23) (d0 : x5 + 1 ≤ x19 ∧ x19 ≤ x5 + 1) (d1 : x4 + 1 ≤ x10 ∧ x10 ≤ x4 + 4294967296) (d2 : x8 + (-4294967296) ≤ x7 ∧ x7 ≤ x8 + (-1)) (d3 : x5 + 1 ≤ x7 ∧ x7 ≤ x5 + 1) (d4 : x5 + (-4294967296) ≤ x3 ∧ x3 ≤ x5 + 0) (f0 : x19 = x5 + 1) (h1 : x18 = line_0 (x5)) (f3 : x16 = x17) (f4 : BCT (x15) (x16)) (f5 : bvp (x15) = bvp (x14) &&& bvp (x2)) (h6 : x14 = near_0o11 (x13)) (h7 : x13 = line_0 (x5)) (f9 : x4 < x10) (h10 : x10 = line_0 (x5)) (f11 : x7 < x8) (g12 : x8 = lineLength_0) (f13 : x7 = x5 + x6) (f14 : (x3 = 1) ∨ ((1 ≤ x3) ∧ ((x3 + 2) ≤ lineLength_0))) (hK_0_2 : ∀ j : Int, 0 ≤ j → j < 24 → 0 ≤ line_0 j ∧ line_0 j ≤ 23) (hK_11_9 : ∀ j : Int, 0 ≤ j → j < 25 → 0 ≤ near_0o11 j ∧ near_0o11 j ≤ 16777215) (kz_0_3 : 0 ≤ lineLength_0 ∧ lineLength_0 ≤ 24) : (x5 = 1) ∨ ((1 ≤ x5) ∧ ((x5 + 2) ≤ lineLength_0)) := by
  omega
def o_Pn_pickFromLine_3 : or_T := (36, 20, [(0, (2, 0, 0, [7])), (2, (0, 0, 16777215, [])), (3, (0, 1, 22, [])), (4, (0, -1, 22, [])), (5, (0, 1, 22, [])), (6, (0, 1, 1, [])), (7, (0, 2, 23, [])), (8, (0, 3, 24, [])), (10, (0, 0, 23, [])), (11, (2, 0, 0, [294])), (13, (0, 0, 23, [])), (14, (0, 0, 16777215, [])), (15, (0, 0, 16777215, [])), (16, (0, 2, 2, [])), (17, (0, 2, 2, [])), (18, (0, 0, 23, [])), (19, (0, 2, 23, []))], [(6, [19, 5], [1]), (10, [18, 9, 5], []), (9, [9, 1], [2]), (7, [16, 17], [0]), (20, [15, 16], [61, 0, 554]), (16, [15, 14, 2], [0]), (10, [14, 12, 13], []), (10, [13, 9, 5], []), (9, [12, 11], [9]), (7, [10, 4], [4]), (10, [10, 9, 5], []), (7, [7, 8], [2]), (9, [8, 1], [3]), (1, [7, 5, 6], []), (20, [3, 1], [50, 1, 0, 1003, 3, 6, 1, 2, 1, 0, 0, 1, 2, 6, 0, 2, 0, 1, 1, 0, 0, 6, 4, 2, 1, 0, 0, 2, 2, 1, 3]), (24, [0, 1], [])], [], [], [(20, [5, 1], [50, 1, 0, 1003, 3, 6, 1, 2, 1, 0, 0, 1, 2, 6, 0, 2, 0, 1, 1, 0, 0, 6, 4, 2, 1, 0, 0, 2, 2, 1, 3])], [], [(19, 5, 1, 1), (10, 4, 1, 4294967296), (7, 8, -4294967296, -1), (7, 5, 1, 1), (3, 5, -4294967296, 0)])
theorem oo_Pn_pickFromLine_3 {kA : Nat → ClassId} : or_ok PRD kA GG o_Pn_pickFromLine_3 := by
  refine or_mk fun A ta ws vs hD hth hl => ?_
  intro t0 r0 t2 k2 t3 k3 t4 k4 t5 k5 t6 k6 t7 k7 t8 k8 t10 k10 t11 r11 t13 k13 t14 k14 t15 k15 t16 k16 t17 k17 t18 k18 t19 k19 d0 d1 d2 d3 d4 f0 f1 f2 f3 f4 f5 f6 f7 f8 f9 f10 f11 f12 f13 f14 f15
  replace f0 := shm_4 f0
  replace f1 := shm_107 f1
  replace f2 := shm_120 f2
  replace f3 := shm_37 f3
  replace f4 := shm_15 f4
  replace f5 := shm_11 f5
  replace f6 := shm_107 f6
  replace f7 := shm_107 f7
  replace f8 := shm_119 f8
  replace f9 := shm_21 f9
  replace f10 := shm_107 f10
  replace f11 := shm_6 f11
  replace f12 := shm_137 f12
  replace f13 := shm_12 f13
  replace f14 := shm_893 f14
  replace f15 := shm_5 f15
  have q1 : n_v vs 1 = n_v vs 0 := f15.symm
  simp only [q1] at f2 f12 f14
  have cr_0_2 := fdq_227 hD hth r0
  have cr_11_9 := fdq_224 hD hth r11
  have ad_9 : v_ad (n_v vs 9) = w_ar ws (n_v vs 0) 2 := congrArg v_ad f2
  have ad_12 : v_ad (n_v vs 12) = w_ar ws (n_v vs 11) 9 := congrArg v_ad f8
  simp only [ad_9] at f1
  have h1 : v_iv (n_v vs 18) = w_ei ws (w_ar ws (n_v vs 0) 2) (v_iv (n_v vs 5)) := f1
  simp only [ad_12] at f6
  have h6 : v_iv (n_v vs 14) = w_ei ws (w_ar ws (n_v vs 11) 9) (v_iv (n_v vs 13)) := f6
  simp only [ad_9] at f7
  have h7 : v_iv (n_v vs 13) = w_ei ws (w_ar ws (n_v vs 0) 2) (v_iv (n_v vs 5)) := f7
  simp only [ad_9] at f10
  have h10 : v_iv (n_v vs 10) = w_ei ws (w_ar ws (n_v vs 0) 2) (v_iv (n_v vs 5)) := f10
  have g12 : v_iv (n_v vs 8) = w_fi ws (n_v vs 0) 3 := congrArg v_iv f12
  have hK_0_2 := elq_140 hD hth cr_0_2
  have hK_11_9 := elq_137 hD hth cr_11_9
  have kz_0_3 := fdq_13 hD hth r0
  have nf0 : fc_1 PRD (20, [5, 1], [50, 1, 0, 1003, 3, 6, 1, 2, 1, 0, 0, 1, 2, 6, 0, 2, 0, 1, 1, 0, 0, 6, 4, 2, 1, 0, 0, 2, 2, 1, 3]) ws (vs) := by
    refine ⟨nf_in hl rfl, sgq_893 ?_⟩
    · show (v_iv (n_v vs 5) = 1) ∨ ((1 ≤ v_iv (n_v vs 5)) ∧ ((v_iv (n_v vs 5) + 2) ≤ w_fi ws (n_v vs 1) 3))
      rw [q1]
      exact vc_Pn_pickFromLine_3_0 (v_iv (n_v vs 2)) (v_iv (n_v vs 3)) (v_iv (n_v vs 4)) (v_iv (n_v vs 5)) (v_iv (n_v vs 6)) (v_iv (n_v vs 7)) (v_iv (n_v vs 8)) (v_iv (n_v vs 10)) (v_iv (n_v vs 13)) (v_iv (n_v vs 14)) (v_iv (n_v vs 15)) (v_iv (n_v vs 16)) (v_iv (n_v vs 17)) (v_iv (n_v vs 18)) (v_iv (n_v vs 19)) (w_ei ws (w_ar ws (n_v vs 0) 2)) (w_ei ws (w_ar ws (n_v vs 11) 9)) (w_fi ws (n_v vs 0) 3) k2 k3 k4 k5 k6 k7 k8 k10 k13 k14 k15 k16 k17 k18 k19 d0 d1 d2 d3 d4 f0 h1 f3 f4 f5 h6 h7 f9 h10 f11 g12 f13 f14 hK_0_2 hK_11_9 kz_0_3
  refine ⟨(fun _ h => (by cases h)), [], trivial, ?_, (fun _ h => (by cases h))⟩
  rw [List.append_nil]
  exact List.forall_mem_cons.mpr ⟨⟨show (20 : Nat) < 100 from by decide, nf0⟩, (fun _ h => (by cases h))⟩
def n_Pn_pickFromLine_an : List an_T := [(4, [(0, (2, 0, 0, [7])), (1, (0, 0, 16777215, [])), (2, (0, 0, 24, []))], [], (0, 0), [(0, 0, 99996), (1, 3, 24), (0, 0, 100000)], [(2, 3, (Int.negSucc 999999999999), 16777214)], [], [(2, 0, 0, [7])], 0, [], [(20, [1], [50, 1, 0, 3, 0, 2, 0, 0, 2, 0, 3]), (24, [0, 1], [])]), (36, [(0, (2, 0, 0, [7])), (1, (0, 0, 16777215, [])), (2, (0, 1, 22, [])), (3, (0, (Int.negSucc 0), 23, [])), (4, (0, 1, 23, []))], [], (0, 0), [(0, 0, 99964), (1, 5, 23), (0, 0, 100000)], [(3, 5, (Int.negSucc 999999999999), 0), (4, 5, (Int.negSucc 999999999999), 21)], [], [(2, 0, 0, [7])], 0, [], [(20, [3, 1], [50, 1, 0, 1003, 3, 6, 1, 2, 1, 0, 0, 1, 2, 6, 0, 2, 0, 1, 1, 0, 0, 6, 4, 2, 1, 0, 0, 2, 2, 1, 3]), (24, [0, 1], [])])]
def t_Pn_pickFromLine_ct : ct_L := [(228, 150, e_jInt_bitCount_v44), (228, 150, e_jInt_bitCount_v8)]
set_option maxRecDepth 100000 in
theorem c_Pn_pickFromLine {l : Launch} {D : va_G} {kA : Nat → ClassId} : ct_ok PRD l D kA GG y_Pn_pickFromLine z_Pn_pickFromLine e_Pn_pickFromLine := chk_all_ok (FT := [(12, 7, 0), (22, 7, 2), (25, 7, 3), (131, 5, 9)]) (PT := []) (CT := t_Pn_pickFromLine_ct) (KT := []) (NT := []) (AN := n_Pn_pickFromLine_an) (OT := [o_Pn_pickFromLine_0, o_Pn_pickFromLine_1, o_Pn_pickFromLine_2, o_Pn_pickFromLine_3]) 3 260 (List.forall_mem_cons.mpr ⟨oo_Pn_pickFromLine_0, List.forall_mem_cons.mpr ⟨oo_Pn_pickFromLine_1, List.forall_mem_cons.mpr ⟨oo_Pn_pickFromLine_2, List.forall_mem_cons.mpr ⟨oo_Pn_pickFromLine_3, List.forall_mem_nil _⟩⟩⟩⟩) (by decide +kernel) ⟨List.forall_mem_cons.mpr ⟨gf_Pn_12, List.forall_mem_cons.mpr ⟨gf_Pn_22, List.forall_mem_cons.mpr ⟨gf_Pn_25, List.forall_mem_cons.mpr ⟨gf_Pn_131, List.forall_mem_nil _⟩⟩⟩⟩, List.forall_mem_nil _, List.forall_mem_cons.mpr ⟨cl_static (y := y_jInt_bitCount) c_jInt_bitCount_v44 wm_870 wm_17 wm_1555 wm_869 ⟨by decide, by decide, by decide +kernel⟩ (by decide), List.forall_mem_cons.mpr ⟨cl_static (y := y_jInt_bitCount) c_jInt_bitCount_v8 wm_870 wm_17 wm_1555 wm_869 ⟨by decide, by decide, by decide +kernel⟩ (by decide), List.forall_mem_nil _⟩⟩, List.forall_mem_nil _, List.forall_mem_nil _, GG_pl⟩ (by decide +kernel)
set_option maxHeartbeats 4000000 in
theorem vc_Pn_raiseNodes_0_0 (x5 : Int) (line_0 : Int → Int) (nodes_0o1 : Int) (y_0o2 : Int → Int) (k5 : 0 ≤ x5 ∧ x5 ≤ 0) (f0 : LCV (nodes_0o1) (line_0)) (hK_0_2 : ∀ j : Int, 0 ≤ j → j < 24 → 0 ≤ line_0 j ∧ line_0 j ≤ 23) (hK_2_3 : ∀ j : Int, 0 ≤ j → j < 24 → (-40000000) ≤ y_0o2 j ∧ y_0o2 j ≤ 690000000) (kz_1_0 : 0 ≤ nodes_0o1 ∧ nodes_0o1 ≤ 24) : RY1 (line_0) (y_0o2) (x5) := by
  first
    | (intro i a b; exfalso; omega)
    | exact ry2_end ‹RY2 _ _ _ _ _› (by omega) (by omega) (by omega) (by assumption) (by omega)
  
def o_Pn_raiseNodes_0 : or_T := (2, 6, [(0, (2, 0, 0, [7])), (1, (2, 0, 0, [3])), (2, (2, 0, 0, [0])), (5, (0, 0, 0, []))], [(20, [0, 1], [60, 1, 1, 911, 1000, 2])], [], [], [(20, [0, 2, 5], [60, 0, 2, 896, 2, 1003]), (24, [1, 1], []), (24, [2, 2], []), (24, [0, 0], []), (24, [1, 1], []), (24, [2, 2], [])], [], [])
theorem oo_Pn_raiseNodes_0 {kA : Nat → ClassId} : or_ok PRD kA GG o_Pn_raiseNodes_0 := by
  refine or_mk fun A ta ws vs hD hth hl => ?_
  intro t0 r0 t1 r1 t2 r2 t5 k5 f0
  have cr_0_2 := fdq_227 hD hth r0
  have cr_2_3 := fdq_48 hD hth r2
  have hK_0_2 := elq_140 hD hth cr_0_2
  have hK_2_3 := elq_13 hD hth cr_2_3
  have kz_1_0 := fdq_21 hD hth r1
  have nf0 : fc_1 PRD (20, [0, 2, 5], [60, 0, 2, 896, 2, 1003]) ws (vs) := ⟨nf_in hl rfl, sgq_895 (vc_Pn_raiseNodes_0_0 (v_iv (n_v vs 5)) (w_ei ws (w_ar ws (n_v vs 0) 2)) (w_fi ws (n_v vs 1) 0) (w_ei ws (w_ar ws (n_v vs 2) 3)) k5 (shm_894 f0) hK_0_2 hK_2_3 kz_1_0)⟩
  have nf1 : fc_1 PRD (24, [1, 1], []) ws (vs) := by
    refine ⟨nf_in hl rfl, sgq_1 ?_⟩
    · show n_v vs 1 = n_v vs 1
      first | rfl | simp only [true_and]
  have nf2 : fc_1 PRD (24, [2, 2], []) ws (vs) := by
    refine ⟨nf_in hl rfl, sgq_1 ?_⟩
    · show n_v vs 2 = n_v vs 2
      first | rfl | simp only [true_and]
  have nf3 : fc_1 PRD (24, [0, 0], []) ws (vs) := by
    refine ⟨nf_in hl rfl, sgq_1 ?_⟩
    · show n_v vs 0 = n_v vs 0
      first | rfl | simp only [true_and]
  have nf4 : fc_1 PRD (24, [1, 1], []) ws (vs) := by
    refine ⟨nf_in hl rfl, sgq_1 ?_⟩
    · show n_v vs 1 = n_v vs 1
      first | rfl | simp only [true_and]
  have nf5 : fc_1 PRD (24, [2, 2], []) ws (vs) := by
    refine ⟨nf_in hl rfl, sgq_1 ?_⟩
    · show n_v vs 2 = n_v vs 2
      first | rfl | simp only [true_and]
  refine ⟨(fun _ h => (by cases h)), [], trivial, ?_, (fun _ h => (by cases h))⟩
  rw [List.append_nil]
  exact List.forall_mem_cons.mpr ⟨⟨show (20 : Nat) < 100 from by decide, nf0⟩, List.forall_mem_cons.mpr ⟨⟨show (24 : Nat) < 100 from by decide, nf1⟩, List.forall_mem_cons.mpr ⟨⟨show (24 : Nat) < 100 from by decide, nf2⟩, List.forall_mem_cons.mpr ⟨⟨show (24 : Nat) < 100 from by decide, nf3⟩, List.forall_mem_cons.mpr ⟨⟨show (24 : Nat) < 100 from by decide, nf4⟩, List.forall_mem_cons.mpr ⟨⟨show (24 : Nat) < 100 from by decide, nf5⟩, (fun _ h => (by cases h))⟩⟩⟩⟩⟩⟩
set_option maxHeartbeats 4000000 in
theorem vc_Pn_raiseNodes_1_0 (x8 : Int) (x9 : Int) (nodes_0o1 : Int) (line_0 : Int → Int) (y_0o2 : Int → Int) (k8 : 0 ≤ x8 ∧ x8 ≤ 24) (k9 : 0 ≤ x9 ∧ x9 ≤ 24) (d0 : x9 + 0 ≤ x8 ∧ x8 ≤ x9 + 4294967296) (f0 : x9 ≤ x8) (g1 : x9 = nodes_0o1) (f2 : RY1 (line_0) (y_0o2) (x8)) (f3 : LCV (nodes_0o1) (line_0)) (hK_0_2 : ∀ j : Int, 0 ≤ j → j < 24 → 0 ≤ line_0 j ∧ line_0 j ≤ 23) (hK_2_3 : ∀ j : Int, 0 ≤ j → j < 24 → (-40000000) ≤ y_0o2 j ∧ y_0o2 j ≤ 690000000) (kz_1_0 : 0 ≤ nodes_0o1 ∧ nodes_0o1 ≤ 24) : RY4 (nodes_0o1) (y_0o2) := by
  first
    | exact ry4_of ‹RY1 _ _ _› ‹LCV _ _› (by omega) (by omega)
  
def o_Pn_raiseNodes_1 : or_T := (98, 10, [(0, (2, 0, 0, [7])), (1, (2, 0, 0, [3])), (2, (2, 0, 0, [0])), (8, (0, 0, 24, [])), (9, (0, 0, 24, []))], [(7, [8, 9], [3]), (9, [9, 6], [0]), (20, [5, 7, 8], [60, 0, 2, 896, 2, 1003]), (20, [5, 6], [60, 1, 1, 911, 1000, 2]), (24, [1, 6], []), (24, [2, 7], []), (24, [0, 5], [])], [], [], [(20, [1, 2], [60, 1, 1, 912, 0, 1003])], [], [(8, 9, 0, 4294967296)])
theorem oo_Pn_raiseNodes_1 {kA : Nat → ClassId} : or_ok PRD kA GG o_Pn_raiseNodes_1 := by
  refine or_mk fun A ta ws vs hD hth hl => ?_
  intro t0 r0 t1 r1 t2 r2 t8 k8 t9 k9 d0 f0 f1 f2 f3 f4 f5 f6
  replace f1 := shm_163 f1
  replace f2 := shm_895 f2
  replace f3 := shm_894 f3
  replace f4 := shm_5 f4
  replace f5 := shm_5 f5
  replace f6 := shm_5 f6
  have q6 : n_v vs 6 = n_v vs 1 := f4.symm
  have q7 : n_v vs 7 = n_v vs 2 := f5.symm
  have q5 : n_v vs 5 = n_v vs 0 := f6.symm
  simp only [q6, q7, q5] at f1 f2 f3
  have cr_0_2 := fdq_227 hD hth r0
  have cr_2_3 := fdq_48 hD hth r2
  have g1 : v_iv (n_v vs 9) = w_fi ws (n_v vs 1) 0 := congrArg v_iv f1
  have hK_0_2 := elq_140 hD hth cr_0_2
  have hK_2_3 := elq_13 hD hth cr_2_3
  have kz_1_0 := fdq_21 hD hth r1
  have nf0 : fc_1 PRD (20, [1, 2], [60, 1, 1, 912, 0, 1003]) ws (vs) := ⟨nf_in hl rfl, sgq_896 (vc_Pn_raiseNodes_1_0 (v_iv (n_v vs 8)) (v_iv (n_v vs 9)) (w_fi ws (n_v vs 1) 0) (w_ei ws (w_ar ws (n_v vs 0) 2)) (w_ei ws (w_ar ws (n_v vs 2) 3)) k8 k9 d0 (shm_2 f0) g1 f2 f3 hK_0_2 hK_2_3 kz_1_0)⟩
  refine ⟨(fun _ h => (by cases h)), [], trivial, ?_, (fun _ h => (by cases h))⟩
  rw [List.append_nil]
  exact List.forall_mem_cons.mpr ⟨⟨show (20 : Nat) < 100 from by decide, nf0⟩, (fun _ h => (by cases h))⟩
def o_Pn_raiseNodes_2 : or_T := (26, 14, [(3, (2, 0, 0, [12])), (4, (0, 0, 3072, [])), (11, (0, 0, 23, [])), (12, (2, 0, 0, [15])), (13, (0, 0, 0, []))], [(100, [12, 11, 13], []), (20, [3, 4], [62, 2000000])], [], [], [(20, [3, 4], [62, 2000000])], [], [])
theorem oo_Pn_raiseNodes_2 {kA : Nat → ClassId} : or_ok PRD kA GG o_Pn_raiseNodes_2 := by
  refine or_mk fun A ta ws vs hD hth hl => ?_
  intro t3 r3 t4 k4 t11 k11 t12 r12 t13 k13 ta1 w1 le1 s1 f1
  have s1 : (∀ b j, w_el ws b j = if b = v_ad (n_v vs 12) ∧ j = (v_iv (n_v vs 11)).toNat then v_iv (n_v vs 13) else w_el w1 b j) ∧ ∀ b k, w_fd ws b k = w_fd w1 b k := s1.2
  replace f1 := shm_161 f1
  have nf0 : fc_1 PRD (20, [3, 4], [62, 2000000]) ws (vs) := by
    refine ⟨nf_in hl rfl, sgq_161 ?_⟩
    · show HY ws (n_v vs 3) (v_iv (n_v vs 4) + (((2000000 : Nat) : Int) - 2000000))
      have hn := hy_ne (k := 3) (g := GG_12) hD hth r3 rfl (by decide) rfl rfl r12 (by decide) s1.2
      have hn0 := hy_ne (k := 0) (g := GG_12) hD hth r3 rfl (by decide) rfl rfl r12 (by decide) s1.2
      exact hy_st (hy_le f1 (by omega)) s1 hn hn0 (by omega) (by omega)
  refine ⟨(fun _ h => (by cases h)), [], trivial, ?_, (fun _ h => (by cases h))⟩
  rw [List.append_nil]
  exact List.forall_mem_cons.mpr ⟨⟨show (20 : Nat) < 100 from by decide, nf0⟩, (fun _ h => (by cases h))⟩
set_option maxHeartbeats 4000000 in
theorem vc_Pn_raiseNodes_3_0 (x8 : Int) (x9 : Int) (x11 : Int) (x13 : Int) (x14 : Int) (nodes_0o1 : Int) (line_0 : Int → Int) (line_1 : Int → Int) (y_1o2 : Int → Int) (nodes_1o1 : Int) (y_0o2 : Int → Int) (k8 : 0 ≤ x8 ∧ x8 ≤ 23) (k9 : 1 ≤ x9 ∧ x9 ≤ 24) (k11 : 0 ≤ x11 ∧ x11 ≤ 23) (k13 : 0 ≤ x13 ∧ x13 ≤ 0) (k14 : 0 ≤ x14 ∧ x14 ≤ 0) (d0 : x9 + (-4294967296) ≤ x8 ∧ x8 ≤ x9 + (-1)) (g2 : x9 = nodes_0o1) (f3 : LCV (nodes_0o1) (line_0)) (h8 : x11 = line_1 (x8)) (f9 : x8 < x9) (f10 : RY1 (line_1) (y_1o2) (x8)) (f11 : LCV (nodes_1o1) (line_1)) (fe_1_0_1 : nodes_0o1 = nodes_1o1) (hE_0_2_1 : ∀ j : Int, line_0 j = line_1 j) (hK_0_2 : ∀ j : Int, 0 ≤ j → j < 24 → 0 ≤ line_0 j ∧ line_0 j ≤ 23) (hE_2_3_1 : ∀ j : Int, 0 ≤ j → (j = x11 → y_0o2 j = x13) ∧ (j ≠ x11 → y_0o2 j = y_1o2 j)) (hK_2_3 : ∀ j : Int, 0 ≤ j → j < 24 → (-40000000) ≤ y_0o2 j ∧ y_0o2 j ≤ 690000000) (kz_1_0 : 0 ≤ nodes_0o1 ∧ nodes_0o1 ≤ 24) : RY2 (line_0) (y_0o2) (x8) (x14) (x11) := by
  subst fe_1_0_1
  have e_hE_0_2_1 := funext hE_0_2_1; subst e_hE_0_2_1
  first
    | exact ry2_of ‹RY1 _ _ _› (fun i a b => (hK_0_2 i a (by omega)).1) (by omega) (by assumption) (by omega) (by omega) (by omega) (by omega)
    | exact ry2_skip ‹RY2 _ _ _ _ _› (by omega)
    | (have q := ry2_val (u := x21) ‹RY2 _ _ _ _ _› (by omega) (by omega) (by have e := ‹x20 = _›; have f := ‹x21 = _›; rw [f, e])
       have r := (‹RY2 _ _ _ _ _›).2
       have e : x19 = y_1o2 x9 := by assumption
       exact ry2_step (w := x24) ‹RY2 _ _ _ _ _› (by omega) (fun i a b => (hK_0_2 i a (by omega)).1) (by omega) (by assumption) (by omega) (by omega) (by omega))
  
set_option maxHeartbeats 4000000 in
theorem vc_Pn_raiseNodes_3_1 (x8 : Int) (x9 : Int) (x11 : Int) (x13 : Int) (x14 : Int) (nodes_0o1 : Int) (line_0 : Int → Int) (line_1 : Int → Int) (y_1o2 : Int → Int) (nodes_1o1 : Int) (y_0o2 : Int → Int) (k8 : 0 ≤ x8 ∧ x8 ≤ 23) (k9 : 1 ≤ x9 ∧ x9 ≤ 24) (k11 : 0 ≤ x11 ∧ x11 ≤ 23) (k13 : 0 ≤ x13 ∧ x13 ≤ 0) (k14 : 0 ≤ x14 ∧ x14 ≤ 0) (d0 : x9 + (-4294967296) ≤ x8 ∧ x8 ≤ x9 + (-1)) (g2 : x9 = nodes_0o1) (f3 : LCV (nodes_0o1) (line_0)) (h8 : x11 = line_1 (x8)) (f9 : x8 < x9) (f10 : RY1 (line_1) (y_1o2) (x8)) (f11 : LCV (nodes_1o1) (line_1)) (fe_1_0_1 : nodes_0o1 = nodes_1o1) (hE_0_2_1 : ∀ j : Int, line_0 j = line_1 j) (hK_0_2 : ∀ j : Int, 0 ≤ j → j < 24 → 0 ≤ line_0 j ∧ line_0 j ≤ 23) (hE_2_3_1 : ∀ j : Int, 0 ≤ j → (j = x11 → y_0o2 j = x13) ∧ (j ≠ x11 → y_0o2 j = y_1o2 j)) (hK_2_3 : ∀ j : Int, 0 ≤ j → j < 24 → (-40000000) ≤ y_0o2 j ∧ y_0o2 j ≤ 690000000) (kz_1_0 : 0 ≤ nodes_0o1 ∧ nodes_0o1 ≤ 24) : x11 = line_0 (x8) := by
  subst fe_1_0_1
  have e_hE_0_2_1 := funext hE_0_2_1; subst e_hE_0_2_1
  first
    | omega
    | (have q := ry2_val (u := x21) ‹RY2 _ _ _ _ _› (by omega) (by omega) (by rw [‹x21 = y_0o2 x20›, ‹x20 = line_0 x10›])
       have r := (‹RY2 _ _ _ _ _›).2
       have e : x19 = y_0o2 x9 := by assumption
       omega)
  
def o_Pn_raiseNodes_3 : or_T := (29, 15, [(0, (2, 0, 0, [7])), (1, (2, 0, 0, [3])), (2, (2, 0, 0, [0])), (8, (0, 0, 23, [])), (9, (0, 1, 24, [])), (11, (0, 0, 23, [])), (12, (2, 0, 0, [15])), (13, (0, 0, 0, [])), (14, (0, 0, 0, []))], [(9, [12, 7], [3]), (9, [10, 5], [2]), (9, [9, 6], [0]), (20, [5, 6], [60, 1, 1, 911, 1000, 2]), (24, [1, 6], []), (24, [2, 7], []), (24, [0, 5], []), (100, [12, 11, 13], []), (10, [11, 10, 8], []), (7, [8, 9], [2]), (20, [5, 7, 8], [60, 0, 2, 896, 2, 1003]), (20, [5, 6], [60, 1, 1, 911, 1000, 2])], [], [], [(20, [5, 7, 8, 14, 11], [60, 0, 2, 897, 2, 1003]), (20, [11, 5, 8], [50, 0, 1, 1002, 1, 2, 1, 0, 3, 1, 2, 1, 2])], [], [(8, 9, -4294967296, -1)])
theorem oo_Pn_raiseNodes_3 {kA : Nat → ClassId} : or_ok PRD kA GG o_Pn_raiseNodes_3 := by
  refine or_mk fun A ta ws vs hD hth hl => ?_
  intro t0 r0 t1 r1 t2 r2 t8 k8 t9 k9 t11 k11 t12 r12 t13 k13 t14 k14 d0 f0 f1 f2 f3 f4 f5 f6 ta1 w1 le1 s1 f8 f9 f10 f11
  replace f0 := shm_137 f0
  replace f1 := shm_120 f1
  replace f2 := shm_163 f2
  replace f3 := shm_894 f3
  replace f4 := shm_5 f4
  replace f5 := shm_5 f5
  replace f6 := shm_5 f6
  have s1 : (∀ b j, w_el ws b j = if b = v_ad (n_v vs 12) ∧ j = (v_iv (n_v vs 11)).toNat then v_iv (n_v vs 13) else w_el w1 b j) ∧ ∀ b k, w_fd ws b k = w_fd w1 b k := s1.2
  replace f8 := shm_107 f8
  replace f9 := shm_6 f9
  replace f10 := shm_895 f10
  replace f11 := shm_894 f11
  have q6 : n_v vs 6 = n_v vs 1 := f4.symm
  have q7 : n_v vs 7 = n_v vs 2 := f5.symm
  have q5 : n_v vs 5 = n_v vs 0 := f6.symm
  simp only [q7, q5, q6] at f0 f1 f2 f3 f10 f11
  have ar_0_2_1 : w_ar w1 (n_v vs 0) 2 = w_ar ws (n_v vs 0) 2 := congrArg v_ad (s1.2 _ _).symm
  have cr_0_2 := fdq_227 hD hth r0
  have ar_2_3_1 : w_ar w1 (n_v vs 2) 3 = w_ar ws (n_v vs 2) 3 := congrArg v_ad (s1.2 _ _).symm
  have cr_2_3 := fdq_48 hD hth r2
  have ad_12 : v_ad (n_v vs 12) = w_ar ws (n_v vs 2) 3 := congrArg v_ad f0
  have ad_10 : v_ad (n_v vs 10) = w_ar ws (n_v vs 0) 2 := congrArg v_ad f1
  have g2 : v_iv (n_v vs 9) = w_fi ws (n_v vs 1) 0 := congrArg v_iv f2
  simp only [ad_10] at f8
  have h8 : v_iv (n_v vs 11) = w_ei w1 (w_ar ws (n_v vs 0) 2) (v_iv (n_v vs 8)) := f8
  simp only [ar_0_2_1, ar_2_3_1] at f10 f11
  have fe_1_0_1 : w_fi ws (n_v vs 1) 0 = w_fi w1 (n_v vs 1) 0 := congrArg v_iv (s1.2 _ _)
  have hE_0_2_1 : ∀ j : Int, w_ei ws (w_ar ws (n_v vs 0) 2) j = w_ei w1 (w_ar ws (n_v vs 0) 2) j := el_kp s1.1 r12 cr_0_2 (by decide)
  have hK_0_2 := elq_140 hD hth cr_0_2
  have hE_2_3_1 : ∀ j : Int, 0 ≤ j → (j = v_iv (n_v vs 11) → w_ei ws (w_ar ws (n_v vs 2) 3) j = v_iv (n_v vs 13)) ∧ (j ≠ v_iv (n_v vs 11) → w_ei ws (w_ar ws (n_v vs 2) 3) j = w_ei w1 (w_ar ws (n_v vs 2) 3) j) := fun j hj => ⟨fun h => by unfold w_ei; rw [s1.1, if_pos ⟨ad_12.symm, by rw [h]⟩], fun h => by unfold w_ei; rw [s1.1, if_neg (fun e => h (by have := e.2; omega))]⟩
  have hK_2_3 := elq_13 hD hth cr_2_3
  have kz_1_0 := fdq_21 hD hth r1
  have nf0 : fc_1 PRD (20, [5, 7, 8, 14, 11], [60, 0, 2, 897, 2, 1003]) ws (vs) := by
    refine ⟨nf_in hl rfl, sgq_897 ?_⟩
    · show RY2 (w_ei ws (w_ar ws (n_v vs 5) 2)) (w_ei ws (w_ar ws (n_v vs 7) 3)) (v_iv (n_v vs 8)) (v_iv (n_v vs 14)) (v_iv (n_v vs 11))
      simp only [q7, q5]
      exact vc_Pn_raiseNodes_3_0 (v_iv (n_v vs 8)) (v_iv (n_v vs 9)) (v_iv (n_v vs 11)) (v_iv (n_v vs 13)) (v_iv (n_v vs 14)) (w_fi ws (n_v vs 1) 0) (w_ei ws (w_ar ws (n_v vs 0) 2)) (w_ei w1 (w_ar ws (n_v vs 0) 2)) (w_ei w1 (w_ar ws (n_v vs 2) 3)) (w_fi w1 (n_v vs 1) 0) (w_ei ws (w_ar ws (n_v vs 2) 3)) k8 k9 k11 k13 k14 d0 g2 f3 h8 f9 f10 f11 fe_1_0_1 hE_0_2_1 hK_0_2 hE_2_3_1 hK_2_3 kz_1_0
  have nf1 : fc_1 PRD (20, [11, 5, 8], [50, 0, 1, 1002, 1, 2, 1, 0, 3, 1, 2, 1, 2]) ws (vs) := by
    refine ⟨nf_in hl rfl, sgq_428 ?_⟩
    · show v_iv (n_v vs 11) = w_ei ws (w_ar ws (n_v vs 5) 2) (v_iv (n_v vs 8))
      rw [q5]
      exact vc_Pn_raiseNodes_3_1 (v_iv (n_v vs 8)) (v_iv (n_v vs 9)) (v_iv (n_v vs 11)) (v_iv (n_v vs 13)) (v_iv (n_v vs 14)) (w_fi ws (n_v vs 1) 0) (w_ei ws (w_ar ws (n_v vs 0) 2)) (w_ei w1 (w_ar ws (n_v vs 0) 2)) (w_ei w1 (w_ar ws (n_v vs 2) 3)) (w_fi w1 (n_v vs 1) 0) (w_ei ws (w_ar ws (n_v vs 2) 3)) k8 k9 k11 k13 k14 d0 g2 f3 h8 f9 f10 f11 fe_1_0_1 hE_0_2_1 hK_0_2 hE_2_3_1 hK_2_3 kz_1_0
  refine ⟨(fun _ h => (by cases h)), [], trivial, ?_, (fun _ h => (by cases h))⟩
  rw [List.append_nil]
  exact List.forall_mem_cons.mpr ⟨⟨show (20 : Nat) < 100 from by decide, nf0⟩, List.forall_mem_cons.mpr ⟨⟨show (20 : Nat) < 100 from by decide, nf1⟩, (fun _ h => (by cases h))⟩⟩
set_option maxHeartbeats 4000000 in
theorem vc_Pn_raiseNodes_4_0 (x8 : Int) (x9 : Int) (x10 : Int) (x11 : Int) (line_0 : Int → Int) (y_0o2 : Int → Int) (nodes_0o1 : Int) (k8 : 0 ≤ x8 ∧ x8 ≤ 23) (k9 : 0 ≤ x9 ∧ x9 ≤ 23) (k10 : 0 ≤ x10 ∧ x10 ≤ 23) (k11 : 1 ≤ x11 ∧ x11 ≤ 24) (d0 : x8 + 1 ≤ x11 ∧ x11 ≤ x8 + 1) (d1 : x8 + 0 ≤ x10 ∧ x10 ≤ x8 + 4294967296) (d2 : x8 + (-4294967296) ≤ x10 ∧ x10 ≤ x8 + 0) (f0 : x11 = x8 + 1) (f1 : x8 ≤ x10) (f2 : RY2 (line_0) (y_0o2) (x8) (x10) (x9)) (f3 : x9 = line_0 (x8)) (f4 : LCV (nodes_0o1) (line_0)) (hK_0_2 : ∀ j : Int, 0 ≤ j → j < 24 → 0 ≤ line_0 j ∧ line_0 j ≤ 23) (hK_2_3 : ∀ j : Int, 0 ≤ j → j < 24 → (-40000000) ≤ y_0o2 j ∧ y_0o2 j ≤ 690000000) (kz_1_0 : 0 ≤ nodes_0o1 ∧ nodes_0o1 ≤ 24) : RY1 (line_0) (y_0o2) (x11) := by
  first
    | (intro i a b; exfalso; omega)
    | exact ry2_end ‹RY2 _ _ _ _ _› (by omega) (by omega) (by omega) (by assumption) (by omega)
  
def o_Pn_raiseNodes_4 : or_T := (2, 12, [(0, (2, 0, 0, [7])), (1, (2, 0, 0, [3])), (2, (2, 0, 0, [0])), (8, (0, 0, 23, [])), (9, (0, 0, 23, [])), (10, (0, 0, 23, [])), (11, (0, 1, 24, []))], [(6, [11, 8], [1]), (7, [10, 8], [3]), (20, [5, 7, 8, 10, 9], [60, 0, 2, 897, 2, 1003]), (20, [9, 5, 8], [50, 0, 1, 1002, 1, 2, 1, 0, 3, 1, 2, 1, 2]), (20, [5, 6], [60, 1, 1, 911, 1000, 2]), (24, [1, 6], []), (24, [2, 7], []), (24, [0, 5], [])], [], [], [(20, [5, 7, 11], [60, 0, 2, 896, 2, 1003])], [], [(11, 8, 1, 1), (10, 8, 0, 4294967296), (10, 8, -4294967296, 0)])
theorem oo_Pn_raiseNodes_4 {kA : Nat → ClassId} : or_ok PRD kA GG o_Pn_raiseNodes_4 := by
  refine or_mk fun A ta ws vs hD hth hl => ?_
  intro t0 r0 t1 r1 t2 r2 t8 k8 t9 k9 t10 k10 t11 k11 d0 d1 d2 f0 f1 f2 f3 f4 f5 f6 f7
  replace f0 := shm_4 f0
  replace f1 := shm_2 f1
  replace f2 := shm_897 f2
  replace f3 := shm_428 f3
  replace f4 := shm_894 f4
  replace f5 := shm_5 f5
  replace f6 := shm_5 f6
  replace f7 := shm_5 f7
  have q6 : n_v vs 6 = n_v vs 1 := f5.symm
  have q7 : n_v vs 7 = n_v vs 2 := f6.symm
  have q5 : n_v vs 5 = n_v vs 0 := f7.symm
  simp only [q7, q5, q6] at f2 f3 f4
  have cr_0_2 := fdq_227 hD hth r0
  have cr_2_3 := fdq_48 hD hth r2
  have hK_0_2 := elq_140 hD hth cr_0_2
  have hK_2_3 := elq_13 hD hth cr_2_3
  have kz_1_0 := fdq_21 hD hth r1
  have nf0 : fc_1 PRD (20, [5, 7, 11], [60, 0, 2, 896, 2, 1003]) ws (vs) := by
    refine ⟨nf_in hl rfl, sgq_895 ?_⟩
    · show RY1 (w_ei ws (w_ar ws (n_v vs 5) 2)) (w_ei ws (w_ar ws (n_v vs 7) 3)) (v_iv (n_v vs 11))
      simp only [q7, q5]
      exact vc_Pn_raiseNodes_4_0 (v_iv (n_v vs 8)) (v_iv (n_v vs 9)) (v_iv (n_v vs 10)) (v_iv (n_v vs 11)) (w_ei ws (w_ar ws (n_v vs 0) 2)) (w_ei ws (w_ar ws (n_v vs 2) 3)) (w_fi ws (n_v vs 1) 0) k8 k9 k10 k11 d0 d1 d2 f0 f1 f2 f3 f4 hK_0_2 hK_2_3 kz_1_0
  refine ⟨(fun _ h => (by cases h)), [], trivial, ?_, (fun _ h => (by cases h))⟩
  rw [List.append_nil]
  exact List.forall_mem_cons.mpr ⟨⟨show (20 : Nat) < 100 from by decide, nf0⟩, (fun _ h => (by cases h))⟩
set_option maxHeartbeats 4000000 in
theorem vc_Pn_raiseNodes_5_0 (x8 : Int) (x9 : Int) (x10 : Int) (x14 : Int) (x18 : Int) (line_0 : Int → Int) (y_0o2 : Int → Int) (nodes_0o1 : Int) (k8 : 1 ≤ x8 ∧ x8 ≤ 23) (k9 : 0 ≤ x9 ∧ x9 ≤ 23) (k10 : 0 ≤ x10 ∧ x10 ≤ 22) (k14 : 0 ≤ x14 ∧ x14 ≤ 23) (k18 : 1 ≤ x18 ∧ x18 ≤ 23) (d0 : x10 + 1 ≤ x18 ∧ x18 ≤ x10 + 1) (d1 : x8 + (-4294967296) ≤ x18 ∧ x18 ≤ x8 + 0) (d2 : x8 + (-4294967296) ≤ x18 ∧ x18 ≤ x8 + 1) (d3 : x8 + (-4294967296) ≤ x10 ∧ x10 ≤ x8 + (-1)) (d4 : x8 + (-4294967296) ≤ x10 ∧ x10 ≤ x8 + 0) (f0 : x18 = x10 + 1) (h1 : x14 = line_0 (x10)) (f3 : x10 < x8) (f4 : RY2 (line_0) (y_0o2) (x8) (x10) (x9)) (f5 : x9 = line_0 (x8)) (f6 : LCV (nodes_0o1) (line_0)) (hK_0_2 : ∀ j : Int, 0 ≤ j → j < 24 → 0 ≤ line_0 j ∧ line_0 j ≤ 23) (hK_2_3 : ∀ j : Int, 0 ≤ j → j < 24 → (-40000000) ≤ y_0o2 j ∧ y_0o2 j ≤ 690000000) (kz_1_0 : 0 ≤ nodes_0o1 ∧ nodes_0o1 ≤ 24) : RY2 (line_0) (y_0o2) (x8) (x18) (x9) := by
  first
    | exact ry2_of ‹RY1 _ _ _› (fun i a b => (hK_0_2 i a (by omega)).1) (by omega) (by assumption) (by omega) (by omega) (by omega) (by omega)
    | exact ry2_skip ‹RY2 _ _ _ _ _› (by omega)
    | (have q := ry2_val (u := x21) ‹RY2 _ _ _ _ _› (by omega) (by omega) (by have e := ‹x20 = _›; have f := ‹x21 = _›; rw [f, e])
       have r := (‹RY2 _ _ _ _ _›).2
       have e : x19 = y_1o2 x9 := by assumption
       exact ry2_step (w := x24) ‹RY2 _ _ _ _ _› (by omega) (fun i a b => (hK_0_2 i a (by omega)).1) (by omega) (by assumption) (by omega) (by omega) (by omega))
  
def o_Pn_raiseNodes_5 : or_T := (29, 19, [(0, (2, 0, 0, [7])), (1, (2, 0, 0, [3])), (2, (2, 0, 0, [0])), (8, (0, 1, 23, [])), (9, (0, 0, 23, [])), (10, (0, 0, 22, [])), (14, (0, 0, 23, [])), (18, (0, 1, 23, []))], [(6, [18, 10], [1]), (10, [14, 13, 10], []), (9, [13, 5], [2]), (7, [10, 8], [2]), (20, [5, 7, 8, 10, 9], [60, 0, 2, 897, 2, 1003]), (20, [9, 5, 8], [50, 0, 1, 1002, 1, 2, 1, 0, 3, 1, 2, 1, 2]), (20, [5, 6], [60, 1, 1, 911, 1000, 2]), (24, [1, 6], []), (24, [2, 7], []), (24, [0, 5], [])], [], [], [(20, [5, 7, 8, 18, 9], [60, 0, 2, 897, 2, 1003])], [], [(18, 10, 1, 1), (18, 8, -4294967296, 0), (18, 8, -4294967296, 1), (10, 8, -4294967296, -1), (10, 8, -4294967296, 0)])
theorem oo_Pn_raiseNodes_5 {kA : Nat → ClassId} : or_ok PRD kA GG o_Pn_raiseNodes_5 := by
  refine or_mk fun A ta ws vs hD hth hl => ?_
  intro t0 r0 t1 r1 t2 r2 t8 k8 t9 k9 t10 k10 t14 k14 t18 k18 d0 d1 d2 d3 d4 f0 f1 f2 f3 f4 f5 f6 f7 f8 f9
  replace f0 := shm_4 f0
  replace f1 := shm_107 f1
  replace f2 := shm_120 f2
  replace f3 := shm_6 f3
  replace f4 := shm_897 f4
  replace f5 := shm_428 f5
  replace f6 := shm_894 f6
  replace f7 := shm_5 f7
  replace f8 := shm_5 f8
  replace f9 := shm_5 f9
  have q6 : n_v vs 6 = n_v vs 1 := f7.symm
  have q7 : n_v vs 7 = n_v vs 2 := f8.symm
  have q5 : n_v vs 5 = n_v vs 0 := f9.symm
  simp only [q5, q7, q6] at f2 f4 f5 f6
  have cr_0_2 := fdq_227 hD hth r0
  have cr_2_3 := fdq_48 hD hth r2
  have ad_13 : v_ad (n_v vs 13) = w_ar ws (n_v vs 0) 2 := congrArg v_ad f2
  simp only [ad_13] at f1
  have h1 : v_iv (n_v vs 14) = w_ei ws (w_ar ws (n_v vs 0) 2) (v_iv (n_v vs 10)) := f1
  have hK_0_2 := elq_140 hD hth cr_0_2
  have hK_2_3 := elq_13 hD hth cr_2_3
  have kz_1_0 := fdq_21 hD hth r1
  have nf0 : fc_1 PRD (20, [5, 7, 8, 18, 9], [60, 0, 2, 897, 2, 1003]) ws (vs) := by
    refine ⟨nf_in hl rfl, sgq_897 ?_⟩
    · show RY2 (w_ei ws (w_ar ws (n_v vs 5) 2)) (w_ei ws (w_ar ws (n_v vs 7) 3)) (v_iv (n_v vs 8)) (v_iv (n_v vs 18)) (v_iv (n_v vs 9))
      simp only [q7, q5]
      exact vc_Pn_raiseNodes_5_0 (v_iv (n_v vs 8)) (v_iv (n_v vs 9)) (v_iv (n_v vs 10)) (v_iv (n_v vs 14)) (v_iv (n_v vs 18)) (w_ei ws (w_ar ws (n_v vs 0) 2)) (w_ei ws (w_ar ws (n_v vs 2) 3)) (w_fi ws (n_v vs 1) 0) k8 k9 k10 k14 k18 d0 d1 d2 d3 d4 f0 h1 f3 f4 f5 f6 hK_0_2 hK_2_3 kz_1_0
  refine ⟨(fun _ h => (by cases h)), [], trivial, ?_, (fun _ h => (by cases h))⟩
  rw [List.append_nil]
  exact List.forall_mem_cons.mpr ⟨⟨show (20 : Nat) < 100 from by decide, nf0⟩, (fun _ h => (by cases h))⟩
set_option maxHeartbeats 4000000 in
theorem vc_Pn_raiseNodes_6_r0 (x8 : Int) (x9 : Int) (x10 : Int) (x14 : Int) (x19 : Int) (x20 : Int) (x21 : Int) (x22 : Int) (x23 : Int) (x24 : Int) (y_0o2 : Int → Int) (line_0 : Int → Int) (nodes_0o1 : Int) (k8 : 1 ≤ x8 ∧ x8 ≤ 23) (k9 : 0 ≤ x9 ∧ x9 ≤ 23) (k10 : 0 ≤ x10 ∧ x10 ≤ 22) (k14 : 0 ≤ x14 ∧ x14 ≤ 23) (k19 : (-40000000) ≤ x19 ∧ x19 ≤ 690000000) (k20 : 0 ≤ x20 ∧ x20 ≤ 23) (k21 : (-40000000) ≤ x21 ∧ x21 ≤ 690000000) (k22 : 1 ≤ x22 ∧ x22 ≤ 1) (k23 : (-39999999) ≤ x23 ∧ x23 ≤ 690000001) (k24 : (-39999999) ≤ x24 ∧ x24 ≤ 690000001) (d0 : x21 + 1 ≤ x23 ∧ x23 ≤ x21 + 1) (d1 : x8 + (-4294967296) ≤ x10 ∧ x10 ≤ x8 + (-1)) (d2 : x8 + (-4294967296) ≤ x10 ∧ x10 ≤ x8 + 0) (f0 : 1 * x19 + ((-1) * x24 + 0) ≤ 0) (f1 : 1 * x23 + ((-1) * x24 + 0) ≤ 0) (f2 : (x24 = x19) ∨ (x24 = x23)) (f3 : x23 = x21 + x22) (h4 : x21 = y_0o2 (x20)) (h5 : x20 = line_0 (x10)) (h8 : x19 = y_0o2 (x9)) (h9 : x14 = line_0 (x10)) (f10 : x10 < x8) (f11 : RY2 (line_0) (y_0o2) (x8) (x10) (x9)) (f12 : x9 = line_0 (x8)) (f13 : LCV (nodes_0o1) (line_0)) (hK_0_2 : ∀ j : Int, 0 ≤ j → j < 24 → 0 ≤ line_0 j ∧ line_0 j ≤ 23) (hK_2_3 : ∀ j : Int, 0 ≤ j → j < 24 → (-40000000) ≤ y_0o2 j ∧ y_0o2 j ≤ 690000000) (kz_1_0 : 0 ≤ nodes_0o1 ∧ nodes_0o1 ≤ 24) : 0 ≤ x24 ∧ x24 ≤ 1000 := by
  first
    | omega
    | (have q := ry2_val (u := x21) ‹RY2 _ _ _ _ _› (by omega) (by omega) (by rw [‹x21 = y_0o2 x20›, ‹x20 = line_0 x10›])
       have r := (‹RY2 _ _ _ _ _›).2
       have e : x19 = y_0o2 x9 := by assumption
       omega)
  
def o_Pn_raiseNodes_6 : or_T := (85, 25, [(0, (2, 0, 0, [7])), (1, (2, 0, 0, [3])), (2, (2, 0, 0, [0])), (5, (2, 0, 0, [7])), (6, (2, 0, 0, [3])), (7, (2, 0, 0, [0])), (8, (0, 1, 23, [])), (9, (0, 0, 23, [])), (10, (0, 0, 22, [])), (13, (2, 0, 0, [103])), (14, (0, 0, 23, [])), (18, (2, 0, 0, [15])), (19, (0, -40000000, 690000000, [])), (20, (0, 0, 23, [])), (21, (0, -40000000, 690000000, [])), (22, (0, 1, 1, [])), (23, (0, -39999999, 690000001, [])), (24, (0, -39999999, 690000001, []))], [(23, [19, 24], [0, 1, -1]), (23, [23, 24], [0, 1, -1]), (20, [24, 19, 23], [50, 0, 0, 3, 6, 1, 2, 1, 0, 1, 1, 1, 2, 1, 0, 1, 2]), (1, [23, 21, 22], []), (10, [21, 18, 20], []), (10, [20, 13, 10], []), (9, [13, 5], [2]), (9, [18, 7], [3]), (10, [19, 18, 9], []), (10, [14, 13, 10], []), (7, [10, 8], [2]), (20, [5, 7, 8, 10, 9], [60, 0, 2, 897, 2, 1003]), (20, [9, 5, 8], [50, 0, 1, 1002, 1, 2, 1, 0, 3, 1, 2, 1, 2]), (20, [5, 6], [60, 1, 1, 911, 1000, 2]), (24, [1, 6], []), (24, [2, 7], []), (24, [0, 5], [])], [(24, (0, 0, 1000, []))], [], [], [], [(23, 21, 1, 1), (10, 8, -4294967296, -1), (10, 8, -4294967296, 0)])
theorem oo_Pn_raiseNodes_6 {kA : Nat → ClassId} : or_ok PRD kA GG o_Pn_raiseNodes_6 := by
  refine or_mk fun A ta ws vs hD hth hl => ?_
  intro t0 r0 t1 r1 t2 r2 t5 r5 t6 r6 t7 r7 t8 k8 t9 k9 t10 k10 t13 r13 t14 k14 t18 r18 t19 k19 t20 k20 t21 k21 t22 k22 t23 k23 t24 k24 d0 d1 d2 f0 f1 f2 f3 f4 f5 f6 f7 f8 f9 f10 f11 f12 f13 f14 f15 f16
  replace f4 := shm_107 f4
  replace f5 := shm_107 f5
  replace f6 := shm_120 f6
  replace f7 := shm_137 f7
  replace f8 := shm_107 f8
  replace f9 := shm_107 f9
  replace f11 := shm_897 f11
  replace f12 := shm_428 f12
  replace f13 := shm_894 f13
  replace f14 := shm_5 f14
  replace f15 := shm_5 f15
  replace f16 := shm_5 f16
  have q6 : n_v vs 6 = n_v vs 1 := f14.symm
  have q7 : n_v vs 7 = n_v vs 2 := f15.symm
  have q5 : n_v vs 5 = n_v vs 0 := f16.symm
  simp only [q5, q7, q6] at f6 f7 f11 f12 f13
  have cr_0_2 := fdq_227 hD hth r0
  have cr_2_3 := fdq_48 hD hth r2
  have ad_13 : v_ad (n_v vs 13) = w_ar ws (n_v vs 0) 2 := congrArg v_ad f6
  have ad_18 : v_ad (n_v vs 18) = w_ar ws (n_v vs 2) 3 := congrArg v_ad f7
  simp only [ad_18] at f4
  have h4 : v_iv (n_v vs 21) = w_ei ws (w_ar ws (n_v vs 2) 3) (v_iv (n_v vs 20)) := f4
  simp only [ad_13] at f5
  have h5 : v_iv (n_v vs 20) = w_ei ws (w_ar ws (n_v vs 0) 2) (v_iv (n_v vs 10)) := f5
  simp only [ad_18] at f8
  have h8 : v_iv (n_v vs 19) = w_ei ws (w_ar ws (n_v vs 2) 3) (v_iv (n_v vs 9)) := f8
  simp only [ad_13] at f9
  have h9 : v_iv (n_v vs 14) = w_ei ws (w_ar ws (n_v vs 0) 2) (v_iv (n_v vs 10)) := f9
  have hK_0_2 := elq_140 hD hth cr_0_2
  have hK_2_3 := elq_13 hD hth cr_2_3
  have kz_1_0 := fdq_21 hD hth r1
  have hrf0 : 0 ≤ v_iv (n_v vs 24) ∧ v_iv (n_v vs 24) ≤ 1000 := vc_Pn_raiseNodes_6_r0 (v_iv (n_v vs 8)) (v_iv (n_v vs 9)) (v_iv (n_v vs 10)) (v_iv (n_v vs 14)) (v_iv (n_v vs 19)) (v_iv (n_v vs 20)) (v_iv (n_v vs 21)) (v_iv (n_v vs 22)) (v_iv (n_v vs 23)) (v_iv (n_v vs 24)) (w_ei ws (w_ar ws (n_v vs 2) 3)) (w_ei ws (w_ar ws (n_v vs 0) 2)) (w_fi ws (n_v vs 1) 0) k8 k9 k10 k14 k19 k20 k21 k22 k23 k24 d0 d1 d2 (shm_7 f0) (shm_7 f1) (shm_898 f2) (shm_12 f3) h4 h5 h8 h9 (shm_6 f10) f11 f12 f13 hK_0_2 hK_2_3 kz_1_0
  have rf24 : tv_ok ta (0, 0, 1000, []) (n_v vs 24) := tv_in t24 (by first | omega | grind) (by first | omega | grind)
  refine ⟨List.forall_mem_cons.mpr ⟨rf24, (fun _ h => (by cases h))⟩, [], trivial, ?_, (fun _ h => (by cases h))⟩
  rw [List.append_nil]
  exact (fun _ h => (by cases h))
def o_Pn_raiseNodes_7 : or_T := (86, 25, [(3, (2, 0, 0, [12])), (4, (0, 0, 3072, [])), (9, (0, 0, 23, [])), (18, (2, 0, 0, [15])), (19, (0, -40000000, 690000000, [])), (23, (0, -39999999, 690000001, [])), (24, (0, 0, 1000, []))], [(100, [18, 9, 24], []), (23, [19, 24], [0, 1, -1]), (23, [23, 24], [0, 1, -1]), (20, [3, 4], [62, 2000000])], [], [], [(20, [3, 4], [62, 2000000])], [], [])
theorem oo_Pn_raiseNodes_7 {kA : Nat → ClassId} : or_ok PRD kA GG o_Pn_raiseNodes_7 := by
  refine or_mk fun A ta ws vs hD hth hl => ?_
  intro t3 r3 t4 k4 t9 k9 t18 r18 t19 k19 t23 k23 t24 k24 ta1 w1 le1 s1 f1 f2 f3
  have s1 : (∀ b j, w_el ws b j = if b = v_ad (n_v vs 18) ∧ j = (v_iv (n_v vs 9)).toNat then v_iv (n_v vs 24) else w_el w1 b j) ∧ ∀ b k, w_fd ws b k = w_fd w1 b k := s1.2
  replace f1 := shm_7 f1
  replace f2 := shm_7 f2
  replace f3 := shm_161 f3
  have nf0 : fc_1 PRD (20, [3, 4], [62, 2000000]) ws (vs) := by
    refine ⟨nf_in hl rfl, sgq_161 ?_⟩
    · show HY ws (n_v vs 3) (v_iv (n_v vs 4) + (((2000000 : Nat) : Int) - 2000000))
      have hn := hy_ne (k := 3) (g := GG_12) hD hth r3 rfl (by decide) rfl rfl r18 (by decide) s1.2
      have hn0 := hy_ne (k := 0) (g := GG_12) hD hth r3 rfl (by decide) rfl rfl r18 (by decide) s1.2
      exact hy_st (hy_le f3 (by omega)) s1 hn hn0 (by omega) (by omega)
  refine ⟨(fun _ h => (by cases h)), [], trivial, ?_, (fun _ h => (by cases h))⟩
  rw [List.append_nil]
  exact List.forall_mem_cons.mpr ⟨⟨show (20 : Nat) < 100 from by decide, nf0⟩, (fun _ h => (by cases h))⟩
set_option maxHeartbeats 4000000 in
theorem vc_Pn_raiseNodes_8_0 (x8 : Int) (x9 : Int) (x10 : Int) (x14 : Int) (x19 : Int) (x20 : Int) (x21 : Int) (x22 : Int) (x23 : Int) (x24 : Int) (x25 : Int) (line_0 : Int → Int) (nodes_0o1 : Int) (y_1o2 : Int → Int) (line_1 : Int → Int) (nodes_1o1 : Int) (y_0o2 : Int → Int) (k8 : 1 ≤ x8 ∧ x8 ≤ 23) (k9 : 0 ≤ x9 ∧ x9 ≤ 23) (k10 : 0 ≤ x10 ∧ x10 ≤ 22) (k14 : 0 ≤ x14 ∧ x14 ≤ 23) (k19 : (-40000000) ≤ x19 ∧ x19 ≤ 690000000) (k20 : 0 ≤ x20 ∧ x20 ≤ 23) (k21 : (-40000000) ≤ x21 ∧ x21 ≤ 690000000) (k22 : 1 ≤ x22 ∧ x22 ≤ 1) (k23 : (-39999999) ≤ x23 ∧ x23 ≤ 690000001) (k24 : 0 ≤ x24 ∧ x24 ≤ 1000) (k25 : 1 ≤ x25 ∧ x25 ≤ 23) (d0 : x10 + 1 ≤ x25 ∧ x25 ≤ x10 + 1) (d1 : x8 + (-4294967296) ≤ x25 ∧ x25 ≤ x8 + 0) (d2 : x8 + (-4294967296) ≤ x25 ∧ x25 ≤ x8 + 1) (d3 : x21 + 1 ≤ x23 ∧ x23 ≤ x21 + 1) (d4 : x8 + (-4294967296) ≤ x10 ∧ x10 ≤ x8 + (-1)) (d5 : x8 + (-4294967296) ≤ x10 ∧ x10 ≤ x8 + 0) (f2 : x25 = x10 + 1) (f3 : 1 * x19 + ((-1) * x24 + 0) ≤ 0) (f4 : 1 * x23 + ((-1) * x24 + 0) ≤ 0) (f5 : (x24 = x19) ∨ (x24 = x23)) (f6 : x9 = line_0 (x8)) (f7 : LCV (nodes_0o1) (line_0)) (f12 : 1 * x19 + ((-1) * x24 + 0) ≤ 0) (f13 : 1 * x23 + ((-1) * x24 + 0) ≤ 0) (f14 : (x24 = x19) ∨ (x24 = x23)) (f15 : x23 = x21 + x22) (h16 : x21 = y_1o2 (x20)) (h17 : x20 = line_1 (x10)) (h18 : x19 = y_1o2 (x9)) (h19 : x14 = line_1 (x10)) (f20 : x10 < x8) (f21 : RY2 (line_1) (y_1o2) (x8) (x10) (x9)) (f22 : x9 = line_1 (x8)) (f23 : LCV (nodes_1o1) (line_1)) (fe_1_0_1 : nodes_0o1 = nodes_1o1) (hE_0_2_1 : ∀ j : Int, line_0 j = line_1 j) (hK_0_2 : ∀ j : Int, 0 ≤ j → j < 24 → 0 ≤ line_0 j ∧ line_0 j ≤ 23) (hE_2_3_1 : ∀ j : Int, 0 ≤ j → (j = x9 → y_0o2 j = x24) ∧ (j ≠ x9 → y_0o2 j = y_1o2 j)) (hK_2_3 : ∀ j : Int, 0 ≤ j → j < 24 → (-40000000) ≤ y_0o2 j ∧ y_0o2 j ≤ 690000000) (kz_1_0 : 0 ≤ nodes_0o1 ∧ nodes_0o1 ≤ 24) : RY2 (line_0) (y_0o2) (x8) (x25) (x9) := by
  subst fe_1_0_1
  have e_hE_0_2_1 := funext hE_0_2_1; subst e_hE_0_2_1
  first
    | exact ry2_of ‹RY1 _ _ _› (fun i a b => (hK_0_2 i a (by omega)).1) (by omega) (by assumption) (by omega) (by omega) (by omega) (by omega)
    | exact ry2_skip ‹RY2 _ _ _ _ _› (by omega)
    | (have q := ry2_val (u := x21) ‹RY2 _ _ _ _ _› (by omega) (by omega) (by have e := ‹x20 = _›; have f := ‹x21 = _›; rw [f, e])
       have r := (‹RY2 _ _ _ _ _›).2
       have e : x19 = y_1o2 x9 := by assumption
       exact ry2_step (w := x24) ‹RY2 _ _ _ _ _› (by omega) (fun i a b => (hK_0_2 i a (by omega)).1) (by omega) (by assumption) (by omega) (by omega) (by omega))
  
def o_Pn_raiseNodes_8 : or_T := (29, 26, [(0, (2, 0, 0, [7])), (1, (2, 0, 0, [3])), (2, (2, 0, 0, [0])), (8, (0, 1, 23, [])), (9, (0, 0, 23, [])), (10, (0, 0, 22, [])), (14, (0, 0, 23, [])), (18, (2, 0, 0, [15])), (19, (0, -40000000, 690000000, [])), (20, (0, 0, 23, [])), (21, (0, -40000000, 690000000, [])), (22, (0, 1, 1, [])), (23, (0, -39999999, 690000001, [])), (24, (0, 0, 1000, [])), (25, (0, 1, 23, []))], [(9, [18, 7], [3]), (9, [13, 5], [2]), (6, [25, 10], [1]), (23, [19, 24], [0, 1, -1]), (23, [23, 24], [0, 1, -1]), (20, [24, 19, 23], [50, 0, 0, 3, 6, 1, 2, 1, 0, 1, 1, 1, 2, 1, 0, 1, 2]), (20, [9, 5, 8], [50, 0, 1, 1002, 1, 2, 1, 0, 3, 1, 2, 1, 2]), (20, [5, 6], [60, 1, 1, 911, 1000, 2]), (24, [1, 6], []), (24, [2, 7], []), (24, [0, 5], []), (100, [18, 9, 24], []), (23, [19, 24], [0, 1, -1]), (23, [23, 24], [0, 1, -1]), (20, [24, 19, 23], [50, 0, 0, 3, 6, 1, 2, 1, 0, 1, 1, 1, 2, 1, 0, 1, 2]), (1, [23, 21, 22], []), (10, [21, 18, 20], []), (10, [20, 13, 10], []), (10, [19, 18, 9], []), (10, [14, 13, 10], []), (7, [10, 8], [2]), (20, [5, 7, 8, 10, 9], [60, 0, 2, 897, 2, 1003]), (20, [9, 5, 8], [50, 0, 1, 1002, 1, 2, 1, 0, 3, 1, 2, 1, 2]), (20, [5, 6], [60, 1, 1, 911, 1000, 2])], [], [], [(20, [5, 7, 8, 25, 9], [60, 0, 2, 897, 2, 1003])], [], [(25, 10, 1, 1), (25, 8, -4294967296, 0), (25, 8, -4294967296, 1), (23, 21, 1, 1), (10, 8, -4294967296, -1), (10, 8, -4294967296, 0)])
theorem oo_Pn_raiseNodes_8 {kA : Nat → ClassId} : or_ok PRD kA GG o_Pn_raiseNodes_8 := by
  refine or_mk fun A ta ws vs hD hth hl => ?_
  intro t0 r0 t1 r1 t2 r2 t8 k8 t9 k9 t10 k10 t14 k14 t18 r18 t19 k19 t20 k20 t21 k21 t22 k22 t23 k23 t24 k24 t25 k25 d0 d1 d2 d3 d4 d5 f0 f1 f2 f3 f4 f5 f6 f7 f8 f9 f10 ta1 w1 le1 s1 f12 f13 f14 f15 f16 f17 f18 f19 f20 f21 f22 f23
  replace f0 := shm_137 f0
  replace f1 := shm_120 f1
  replace f2 := shm_4 f2
  replace f3 := shm_7 f3
  replace f4 := shm_7 f4
  replace f5 := shm_898 f5
  replace f6 := shm_428 f6
  replace f7 := shm_894 f7
  replace f8 := shm_5 f8
  replace f9 := shm_5 f9
  replace f10 := shm_5 f10
  have s1 : (∀ b j, w_el ws b j = if b = v_ad (n_v vs 18) ∧ j = (v_iv (n_v vs 9)).toNat then v_iv (n_v vs 24) else w_el w1 b j) ∧ ∀ b k, w_fd ws b k = w_fd w1 b k := s1.2
  replace f12 := shm_7 f12
  replace f13 := shm_7 f13
  replace f14 := shm_898 f14
  replace f15 := shm_12 f15
  replace f16 := shm_107 f16
  replace f17 := shm_107 f17
  replace f18 := shm_107 f18
  replace f19 := shm_107 f19
  replace f20 := shm_6 f20
  replace f21 := shm_897 f21
  replace f22 := shm_428 f22
  replace f23 := shm_894 f23
  have q6 : n_v vs 6 = n_v vs 1 := f8.symm
  have q7 : n_v vs 7 = n_v vs 2 := f9.symm
  have q5 : n_v vs 5 = n_v vs 0 := f10.symm
  simp only [q7, q5, q6] at f0 f1 f6 f7 f21 f22 f23
  have ar_0_2_1 : w_ar w1 (n_v vs 0) 2 = w_ar ws (n_v vs 0) 2 := congrArg v_ad (s1.2 _ _).symm
  have cr_0_2 := fdq_227 hD hth r0
  have ar_2_3_1 : w_ar w1 (n_v vs 2) 3 = w_ar ws (n_v vs 2) 3 := congrArg v_ad (s1.2 _ _).symm
  have cr_2_3 := fdq_48 hD hth r2
  have ad_18 : v_ad (n_v vs 18) = w_ar ws (n_v vs 2) 3 := congrArg v_ad f0
  have ad_13 : v_ad (n_v vs 13) = w_ar ws (n_v vs 0) 2 := congrArg v_ad f1
  simp only [ad_18] at f16
  have h16 : v_iv (n_v vs 21) = w_ei w1 (w_ar ws (n_v vs 2) 3) (v_iv (n_v vs 20)) := f16
  simp only [ad_13] at f17
  have h17 : v_iv (n_v vs 20) = w_ei w1 (w_ar ws (n_v vs 0) 2) (v_iv (n_v vs 10)) := f17
  simp only [ad_18] at f18
  have h18 : v_iv (n_v vs 19) = w_ei w1 (w_ar ws (n_v vs 2) 3) (v_iv (n_v vs 9)) := f18
  simp only [ad_13] at f19
  have h19 : v_iv (n_v vs 14) = w_ei w1 (w_ar ws (n_v vs 0) 2) (v_iv (n_v vs 10)) := f19
  simp only [ar_0_2_1, ar_2_3_1] at f21 f22 f23
  have fe_1_0_1 : w_fi ws (n_v vs 1) 0 = w_fi w1 (n_v vs 1) 0 := congrArg v_iv (s1.2 _ _)
  have hE_0_2_1 : ∀ j : Int, w_ei ws (w_ar ws (n_v vs 0) 2) j = w_ei w1 (w_ar ws (n_v vs 0) 2) j := el_kp s1.1 r18 cr_0_2 (by decide)
  have hK_0_2 := elq_140 hD hth cr_0_2
  have hE_2_3_1 : ∀ j : Int, 0 ≤ j → (j = v_iv (n_v vs 9) → w_ei ws (w_ar ws (n_v vs 2) 3) j = v_iv (n_v vs 24)) ∧ (j ≠ v_iv (n_v vs 9) → w_ei ws (w_ar ws (n_v vs 2) 3) j = w_ei w1 (w_ar ws (n_v vs 2) 3) j) := fun j hj => ⟨fun h => by unfold w_ei; rw [s1.1, if_pos ⟨ad_18.symm, by rw [h]⟩], fun h => by unfold w_ei; rw [s1.1, if_neg (fun e => h (by have := e.2; omega))]⟩
  have hK_2_3 := elq_13 hD hth cr_2_3
  have kz_1_0 := fdq_21 hD hth r1
  have nf0 : fc_1 PRD (20, [5, 7, 8, 25, 9], [60, 0, 2, 897, 2, 1003]) ws (vs) := by
    refine ⟨nf_in hl rfl, sgq_897 ?_⟩
    · show RY2 (w_ei ws (w_ar ws (n_v vs 5) 2)) (w_ei ws (w_ar ws (n_v vs 7) 3)) (v_iv (n_v vs 8)) (v_iv (n_v vs 25)) (v_iv (n_v vs 9))
      simp only [q7, q5]
      exact vc_Pn_raiseNodes_8_0 (v_iv (n_v vs 8)) (v_iv (n_v vs 9)) (v_iv (n_v vs 10)) (v_iv (n_v vs 14)) (v_iv (n_v vs 19)) (v_iv (n_v vs 20)) (v_iv (n_v vs 21)) (v_iv (n_v vs 22)) (v_iv (n_v vs 23)) (v_iv (n_v vs 24)) (v_iv (n_v vs 25)) (w_ei ws (w_ar ws (n_v vs 0) 2)) (w_fi ws (n_v vs 1) 0) (w_ei w1 (w_ar ws (n_v vs 2) 3)) (w_ei w1 (w_ar ws (n_v vs 0) 2)) (w_fi w1 (n_v vs 1) 0) (w_ei ws (w_ar ws (n_v vs 2) 3)) k8 k9 k10 k14 k19 k20 k21 k22 k23 k24 k25 d0 d1 d2 d3 d4 d5 f2 f3 f4 f5 f6 f7 f12 f13 f14 f15 h16 h17 h18 h19 f20 f21 f22 f23 fe_1_0_1 hE_0_2_1 hK_0_2 hE_2_3_1 hK_2_3 kz_1_0
  refine ⟨(fun _ h => (by cases h)), [], trivial, ?_, (fun _ h => (by cases h))⟩
  rw [List.append_nil]
  exact List.forall_mem_cons.mpr ⟨⟨show (20 : Nat) < 100 from by decide, nf0⟩, (fun _ h => (by cases h))⟩
def n_Pn_raiseNodes_an : List an_T := [(2, [(0, (2, 0, 0, [7])), (1, (2, 0, 0, [3])), (2, (2, 0, 0, [0])), (3, (0, 0, 24, []))], [], (0, 0), [(0, 0, 99998), (1, 8, 24), (0, 0, 100000), (0, 0, 0), (0, 0, 0)], [], [], [(2, 0, 0, [7]), (2, 0, 0, [3]), (2, 0, 0, [0]), (2, 0, 0, [12]), (0, 0, 3072, [])], 0, [], [(20, [3, 4], [62, 2000000]), (20, [5, 7, 8], [60, 0, 2, 896, 2, 1003]), (20, [5, 6], [60, 1, 1, 911, 1000, 2]), (24, [1, 6], []), (24, [2, 7], []), (24, [0, 5], []), (24, [1, 6], []), (24, [2, 7], [])]), (29, [(0, (2, 0, 0, [7])), (1, (2, 0, 0, [3])), (2, (2, 0, 0, [0])), (3, (0, 0, 23, [])), (4, (0, 0, 23, [])), (5, (0, 0, 23, []))], [], (0, 0), [(0, 0, 99998), (1, 8, 24), (0, 0, 99971), (1, 10, 23), (0, 0, 100000)], [(10, 8, (Int.negSucc 999999999999), 0)], [], [(2, 0, 0, [7]), (2, 0, 0, [3]), (2, 0, 0, [0]), (2, 0, 0, [12]), (0, 0, 3072, [])], 0, [], [(20, [3, 4], [62, 2000000]), (20, [5, 7, 8, 10, 9], [60, 0, 2, 897, 2, 1003]), (20, [9, 5, 8], [50, 0, 1, 1002, 1, 2, 1, 0, 3, 1, 2, 1, 2]), (20, [5, 6], [60, 1, 1, 911, 1000, 2]), (24, [1, 6], []), (24, [2, 7], []), (24, [0, 5], []), (24, [1, 6], []), (24, [2, 7], [])])]
def t_Pn_raiseNodes_ct : ct_L := [(249, 92, e_jMath_max1_v45)]
set_option maxRecDepth 100000 in
theorem c_Pn_raiseNodes {l : Launch} {D : va_G} {kA : Nat → ClassId} : ct_ok PRD l D kA GG y_Pn_raiseNodes z_Pn_raiseNodes e_Pn_raiseNodes := chk_all_ok (FT := [(22, 7, 2), (47, 3, 0), (87, 0, 3), (219, 3, 14)]) (PT := []) (CT := t_Pn_raiseNodes_ct) (KT := []) (NT := []) (AN := n_Pn_raiseNodes_an) (OT := [o_Pn_raiseNodes_0, o_Pn_raiseNodes_1, o_Pn_raiseNodes_2, o_Pn_raiseNodes_3, o_Pn_raiseNodes_4, o_Pn_raiseNodes_5, o_Pn_raiseNodes_6, o_Pn_raiseNodes_7, o_Pn_raiseNodes_8]) 5 232 (List.forall_mem_cons.mpr ⟨oo_Pn_raiseNodes_0, List.forall_mem_cons.mpr ⟨oo_Pn_raiseNodes_1, List.forall_mem_cons.mpr ⟨oo_Pn_raiseNodes_2, List.forall_mem_cons.mpr ⟨oo_Pn_raiseNodes_3, List.forall_mem_cons.mpr ⟨oo_Pn_raiseNodes_4, List.forall_mem_cons.mpr ⟨oo_Pn_raiseNodes_5, List.forall_mem_cons.mpr ⟨oo_Pn_raiseNodes_6, List.forall_mem_cons.mpr ⟨oo_Pn_raiseNodes_7, List.forall_mem_cons.mpr ⟨oo_Pn_raiseNodes_8, List.forall_mem_nil _⟩⟩⟩⟩⟩⟩⟩⟩⟩) (by decide +kernel) ⟨List.forall_mem_cons.mpr ⟨gf_Pn_22, List.forall_mem_cons.mpr ⟨gf_Pn_47, List.forall_mem_cons.mpr ⟨gf_Pn_87, List.forall_mem_cons.mpr ⟨gf_Pn_219, List.forall_mem_nil _⟩⟩⟩⟩, List.forall_mem_nil _, List.forall_mem_cons.mpr ⟨cl_static (y := y_jMath_max1) c_jMath_max1_v45 wm_836 wm_10 wm_1574 wm_835 ⟨by decide, by decide, by decide +kernel⟩ (by decide), List.forall_mem_nil _⟩, List.forall_mem_nil _, List.forall_mem_nil _, GG_pl⟩ (by decide +kernel)

set_option maxHeartbeats 4000000 in
theorem vc_Pn_replaceInLine_at_gg_0_0 (x1 : Int) (x2 : Int) (x3 : Int) (x5 : Int) (x6 : Int) (x7 : Int) (x8 : Int) (x9 : Int) (x10 : Int) (x11 : Int) (lineLength_0 : Int) (line_0 : Int → Int) (order_0 : Int → Int) (way_0 : Int → Int) (k1 : 1 ≤ x1 ∧ x1 ≤ 24) (k2 : (-24) ≤ x2 ∧ x2 ≤ 22) (k3 : 1 ≤ x3 ∧ x3 ≤ 1) (k5 : 3 ≤ x5 ∧ x5 ≤ 23) (k6 : 0 ≤ x6 ∧ x6 ≤ 24) (k7 : (-24) ≤ x7 ∧ x7 ≤ 23) (k8 : (-46) ≤ x8 ∧ x8 ≤ 47) (k9 : 24 ≤ x9 ∧ x9 ≤ 48) (k10 : 25 ≤ x10 ∧ x10 ≤ 49) (k11 : 24 ≤ x11 ∧ x11 ≤ 24) (d0 : x9 + 1 ≤ x10 ∧ x10 ≤ x9 + 1) (d1 : x6 + (-21) ≤ x10 ∧ x10 ≤ x6 + 25) (d2 : x6 + (-22) ≤ x9 ∧ x9 ≤ x6 + 24) (d3 : x7 + (-22) ≤ x8 ∧ x8 ≤ x7 + 24) (d4 : x6 + (-46) ≤ x8 ∧ x8 ≤ x6 + 23) (d5 : x6 + (-24) ≤ x7 ∧ x7 ≤ x6 + (-1)) (f1 : x11 < x10) (f2 : x10 = x9 + x3) (f3 : x9 = x6 - x2) (g4 : x6 = lineLength_0) (f5 : x8 = x7 - x2) (f6 : x7 = x6 - x1) (f7 : LNO (lineLength_0) (line_0) (order_0) (x5)) (f8 : way_0 (0) = order_0 (x5)) (f9 : (1 ≤ x1) ∧ (((x1 + x2) + 1) ≤ lineLength_0)) (f10 : x3 = 1) (hK_0_1 : ∀ j : Int, 0 ≤ j → j < 24 → 0 ≤ order_0 j ∧ order_0 j ≤ 23) (hK_0_2 : ∀ j : Int, 0 ≤ j → j < 24 → 0 ≤ line_0 j ∧ line_0 j ≤ 23) (hK_0_6 : ∀ j : Int, 0 ≤ j → j < 27 → 0 ≤ way_0 j ∧ way_0 j ≤ 23) (kz_0_3 : 0 ≤ lineLength_0 ∧ lineLength_0 ≤ 24) : LNQ (lineLength_0) (line_0) (order_0) (x5) := by
  first
    | exact lnp_same ‹LNO _ _ _ _›
    | (rw [show x5 = x23 by omega]; exact lnp_4 (show CQ4 line_0 way_0 order_0 x20 x1 x3 x22 x23 x24 by assumption) (by omega) (by omega) (by omega))
  
def o_Pn_replaceInLine_at_gg_0 : or_T := (32, 12, [(0, (2, 0, 0, [7])), (1, (0, 1, 24, [])), (2, (0, -24, 22, [])), (3, (0, 1, 1, [])), (4, (2, 0, 0, [102])), (5, (0, 3, 23, [])), (6, (0, 0, 24, [])), (7, (0, -24, 23, [])), (8, (0, -46, 47, [])), (9, (0, 24, 48, [])), (10, (0, 25, 49, [])), (11, (0, 24, 24, []))], [(9, [4, 0], [1]), (7, [10, 11], [4]), (1, [10, 9, 3], []), (2, [9, 6, 2], []), (9, [6, 0], [3]), (2, [8, 7, 2], []), (2, [7, 6, 1], []), (20, [0, 5], [60, 1, 2, 889, 3, 2, 1]), (20, [0, 5], [50, 0, 2, 6, 1, 1, 5, 3, 0, 6, 0, 0, 3, 0, 1, 1, 1]), (20, [1, 2, 0], [50, 1, 0, 2003, 2, 6, 0, 2, 0, 1, 1, 0, 0, 10, 4, 6, 4, 2, 1, 0, 1, 1, 0, 1, 2, 2, 3]), (20, [3], [50, 0, 0, 1, 2, 1, 0, 0, 1])], [], [], [(20, [0, 5], [60, 1, 2, 890, 3, 2, 1])], [], [(10, 9, 1, 1), (10, 6, -21, 25), (9, 6, -22, 24), (8, 7, -22, 24), (8, 6, -46, 23), (7, 6, -24, -1)])
theorem oo_Pn_replaceInLine_at_gg_0 {kA : Nat → ClassId} : or_ok PRD kA GG o_Pn_replaceInLine_at_gg_0 := by
  refine or_mk fun A ta ws vs hD hth hl => ?_
  intro t0 r0 t1 k1 t2 k2 t3 k3 t4 r4 t5 k5 t6 k6 t7 k7 t8 k8 t9 k9 t10 k10 t11 k11 d0 d1 d2 d3 d4 d5 f0 f1 f2 f3 f4 f5 f6 f7 f8 f9 f10
  replace f4 := shm_137 f4
  have cr_0_1 := fdq_92 hD hth r0
  have cr_0_2 := fdq_227 hD hth r0
  have cr_0_6 := fdq_228 hD hth r0
  have g4 : v_iv (n_v vs 6) = w_fi ws (n_v vs 0) 3 := congrArg v_iv f4
  have hK_0_1 := elq_48 hD hth cr_0_1
  have hK_0_2 := elq_140 hD hth cr_0_2
  have hK_0_6 := elq_141 hD hth cr_0_6
  have kz_0_3 := fdq_13 hD hth r0
  have nf0 : fc_1 PRD (20, [0, 5], [60, 1, 2, 890, 3, 2, 1]) ws (vs) := ⟨nf_in hl rfl, sgq_902 (vc_Pn_replaceInLine_at_gg_0_0 (v_iv (n_v vs 1)) (v_iv (n_v vs 2)) (v_iv (n_v vs 3)) (v_iv (n_v vs 5)) (v_iv (n_v vs 6)) (v_iv (n_v vs 7)) (v_iv (n_v vs 8)) (v_iv (n_v vs 9)) (v_iv (n_v vs 10)) (v_iv (n_v vs 11)) (w_fi ws (n_v vs 0) 3) (w_ei ws (w_ar ws (n_v vs 0) 2)) (w_ei ws (w_ar ws (n_v vs 0) 1)) (w_ei ws (w_ar ws (n_v vs 0) 6)) k1 k2 k3 k5 k6 k7 k8 k9 k10 k11 d0 d1 d2 d3 d4 d5 (shm_21 f1) (shm_12 f2) (shm_14 f3) g4 (shm_14 f5) (shm_14 f6) (shm_899 f7) (shm_900 f8) (shm_901 f9) (shm_510 f10) hK_0_1 hK_0_2 hK_0_6 kz_0_3)⟩
  refine ⟨(fun _ h => (by cases h)), [], trivial, ?_, (fun _ h => (by cases h))⟩
  rw [List.append_nil]
  exact List.forall_mem_cons.mpr ⟨⟨show (20 : Nat) < 100 from by decide, nf0⟩, (fun _ h => (by cases h))⟩
set_option maxHeartbeats 4000000 in
theorem vc_Pn_replaceInLine_at_gg_1_0 (x1 : Int) (x2 : Int) (x3 : Int) (x5 : Int) (x6 : Int) (x7 : Int) (x8 : Int) (x9 : Int) (x10 : Int) (x11 : Int) (lineLength_0 : Int) (line_0 : Int → Int) (order_0 : Int → Int) (way_0 : Int → Int) (k1 : 1 ≤ x1 ∧ x1 ≤ 24) (k2 : (-24) ≤ x2 ∧ x2 ≤ 22) (k3 : 1 ≤ x3 ∧ x3 ≤ 1) (k5 : 3 ≤ x5 ∧ x5 ≤ 23) (k6 : 0 ≤ x6 ∧ x6 ≤ 24) (k7 : (-24) ≤ x7 ∧ x7 ≤ 21) (k8 : (-46) ≤ x8 ∧ x8 ≤ (-1)) (k9 : (-22) ≤ x9 ∧ x9 ≤ 23) (k10 : (-21) ≤ x10 ∧ x10 ≤ 24) (k11 : 24 ≤ x11 ∧ x11 ≤ 24) (d0 : x9 + 1 ≤ x10 ∧ x10 ≤ x9 + 1) (d1 : x6 + (-21) ≤ x10 ∧ x10 ≤ x6 + 25) (d2 : x6 + (-22) ≤ x9 ∧ x9 ≤ x6 + 24) (d3 : x7 + (-22) ≤ x8 ∧ x8 ≤ x7 + 24) (d4 : x6 + (-46) ≤ x8 ∧ x8 ≤ x6 + 23) (d5 : x6 + (-24) ≤ x7 ∧ x7 ≤ x6 + (-1)) (f1 : x8 < 0) (f2 : x10 ≤ x11) (f3 : x10 = x9 + x3) (f4 : x9 = x6 - x2) (g5 : x6 = lineLength_0) (f6 : x8 = x7 - x2) (f7 : x7 = x6 - x1) (f8 : LNO (lineLength_0) (line_0) (order_0) (x5)) (f9 : way_0 (0) = order_0 (x5)) (f10 : (1 ≤ x1) ∧ (((x1 + x2) + 1) ≤ lineLength_0)) (f11 : x3 = 1) (hK_0_1 : ∀ j : Int, 0 ≤ j → j < 24 → 0 ≤ order_0 j ∧ order_0 j ≤ 23) (hK_0_2 : ∀ j : Int, 0 ≤ j → j < 24 → 0 ≤ line_0 j ∧ line_0 j ≤ 23) (hK_0_6 : ∀ j : Int, 0 ≤ j → j < 27 → 0 ≤ way_0 j ∧ way_0 j ≤ 23) (kz_0_3 : 0 ≤ lineLength_0 ∧ lineLength_0 ≤ 24) : LNQ (lineLength_0) (line_0) (order_0) (x5) := by
  first
    | exact lnp_same ‹LNO _ _ _ _›
    | (rw [show x5 = x23 by omega]; exact lnp_4 (show CQ4 line_0 way_0 order_0 x20 x1 x3 x22 x23 x24 by assumption) (by omega) (by omega) (by omega))
  
def o_Pn_replaceInLine_at_gg_1 : or_T := (32, 12, [(0, (2, 0, 0, [7])), (1, (0, 1, 24, [])), (2, (0, -24, 22, [])), (3, (0, 1, 1, [])), (4, (2, 0, 0, [102])), (5, (0, 3, 23, [])), (6, (0, 0, 24, [])), (7, (0, -24, 21, [])), (8, (0, -46, -1, [])), (9, (0, -22, 23, [])), (10, (0, -21, 24, [])), (11, (0, 24, 24, []))], [(9, [4, 0], [1]), (8, [8], [2]), (7, [10, 11], [5]), (1, [10, 9, 3], []), (2, [9, 6, 2], []), (9, [6, 0], [3]), (2, [8, 7, 2], []), (2, [7, 6, 1], []), (20, [0, 5], [60, 1, 2, 889, 3, 2, 1]), (20, [0, 5], [50, 0, 2, 6, 1, 1, 5, 3, 0, 6, 0, 0, 3, 0, 1, 1, 1]), (20, [1, 2, 0], [50, 1, 0, 2003, 2, 6, 0, 2, 0, 1, 1, 0, 0, 10, 4, 6, 4, 2, 1, 0, 1, 1, 0, 1, 2, 2, 3]), (20, [3], [50, 0, 0, 1, 2, 1, 0, 0, 1])], [], [], [(20, [0, 5], [60, 1, 2, 890, 3, 2, 1])], [], [(10, 9, 1, 1), (10, 6, -21, 25), (9, 6, -22, 24), (8, 7, -22, 24), (8, 6, -46, 23), (7, 6, -24, -1)])
theorem oo_Pn_replaceInLine_at_gg_1 {kA : Nat → ClassId} : or_ok PRD kA GG o_Pn_replaceInLine_at_gg_1 := by
  refine or_mk fun A ta ws vs hD hth hl => ?_
  intro t0 r0 t1 k1 t2 k2 t3 k3 t4 r4 t5 k5 t6 k6 t7 k7 t8 k8 t9 k9 t10 k10 t11 k11 d0 d1 d2 d3 d4 d5 f0 f1 f2 f3 f4 f5 f6 f7 f8 f9 f10 f11
  replace f5 := shm_137 f5
  have cr_0_1 := fdq_92 hD hth r0
  have cr_0_2 := fdq_227 hD hth r0
  have cr_0_6 := fdq_228 hD hth r0
  have g5 : v_iv (n_v vs 6) = w_fi ws (n_v vs 0) 3 := congrArg v_iv f5
  have hK_0_1 := elq_48 hD hth cr_0_1
  have hK_0_2 := elq_140 hD hth cr_0_2
  have hK_0_6 := elq_141 hD hth cr_0_6
  have kz_0_3 := fdq_13 hD hth r0
  have nf0 : fc_1 PRD (20, [0, 5], [60, 1, 2, 890, 3, 2, 1]) ws (vs) := ⟨nf_in hl rfl, sgq_902 (vc_Pn_replaceInLine_at_gg_1_0 (v_iv (n_v vs 1)) (v_iv (n_v vs 2)) (v_iv (n_v vs 3)) (v_iv (n_v vs 5)) (v_iv (n_v vs 6)) (v_iv (n_v vs 7)) (v_iv (n_v vs 8)) (v_iv (n_v vs 9)) (v_iv (n_v vs 10)) (v_iv (n_v vs 11)) (w_fi ws (n_v vs 0) 3) (w_ei ws (w_ar ws (n_v vs 0) 2)) (w_ei ws (w_ar ws (n_v vs 0) 1)) (w_ei ws (w_ar ws (n_v vs 0) 6)) k1 k2 k3 k5 k6 k7 k8 k9 k10 k11 d0 d1 d2 d3 d4 d5 (shm_39 f1) (shm_24 f2) (shm_12 f3) (shm_14 f4) g5 (shm_14 f6) (shm_14 f7) (shm_899 f8) (shm_900 f9) (shm_901 f10) (shm_510 f11) hK_0_1 hK_0_2 hK_0_6 kz_0_3)⟩
  refine ⟨(fun _ h => (by cases h)), [], trivial, ?_, (fun _ h => (by cases h))⟩
  rw [List.append_nil]
  exact List.forall_mem_cons.mpr ⟨⟨show (20 : Nat) < 100 from by decide, nf0⟩, (fun _ h => (by cases h))⟩
set_option maxHeartbeats 4000000 in
theorem vc_Pn_replaceInLine_at_gg_2_0 (x1 : Int) (x2 : Int) (x3 : Int) (x5 : Int) (x6 : Int) (x7 : Int) (x8 : Int) (x9 : Int) (x10 : Int) (x11 : Int) (lineLength_0 : Int) (line_0 : Int → Int) (order_0 : Int → Int) (way_0 : Int → Int) (k1 : 1 ≤ x1 ∧ x1 ≤ 24) (k2 : 0 ≤ x2 ∧ x2 ≤ 22) (k3 : 1 ≤ x3 ∧ x3 ≤ 1) (k5 : 3 ≤ x5 ∧ x5 ≤ 23) (k6 : 0 ≤ x6 ∧ x6 ≤ 24) (k7 : (-24) ≤ x7 ∧ x7 ≤ 23) (k8 : 0 ≤ x8 ∧ x8 ≤ 47) (k9 : (-22) ≤ x9 ∧ x9 ≤ 23) (k10 : (-21) ≤ x10 ∧ x10 ≤ 24) (k11 : 24 ≤ x11 ∧ x11 ≤ 24) (d0 : x9 + 1 ≤ x10 ∧ x10 ≤ x9 + 1) (d1 : x6 + (-21) ≤ x10 ∧ x10 ≤ x6 + 25) (d2 : x6 + (-22) ≤ x9 ∧ x9 ≤ x6 + 24) (d3 : x7 + (-22) ≤ x8 ∧ x8 ≤ x7 + 24) (d4 : x6 + (-46) ≤ x8 ∧ x8 ≤ x6 + 23) (d5 : x6 + (-24) ≤ x7 ∧ x7 ≤ x6 + (-1)) (f1 : 0 ≤ x2) (f2 : 0 ≤ x8) (f3 : x10 ≤ x11) (f4 : x10 = x9 + x3) (f5 : x9 = x6 - x2) (g6 : x6 = lineLength_0) (f7 : x8 = x7 - x2) (f8 : x7 = x6 - x1) (f9 : LNO (lineLength_0) (line_0) (order_0) (x5)) (f10 : way_0 (0) = order_0 (x5)) (f11 : (1 ≤ x1) ∧ (((x1 + x2) + 1) ≤ lineLength_0)) (f12 : x3 = 1) (hK_0_1 : ∀ j : Int, 0 ≤ j → j < 24 → 0 ≤ order_0 j ∧ order_0 j ≤ 23) (hK_0_2 : ∀ j : Int, 0 ≤ j → j < 24 → 0 ≤ line_0 j ∧ line_0 j ≤ 23) (hK_0_6 : ∀ j : Int, 0 ≤ j → j < 27 → 0 ≤ way_0 j ∧ way_0 j ≤ 23) (kz_0_3 : 0 ≤ lineLength_0 ∧ lineLength_0 ≤ 24) : 1 * lineLength_0 + ((-1) * x2 + (1 * x3 + 0)) ≤ 24 := by
  first
    | omega
    | (exfalso; have h := lni_room ‹OFL _ _ _ _› ‹EWJ _ _ _ _› (by omega); omega)
    | (have h := (‹LNO _ _ _ _›).1; omega)
  
set_option maxHeartbeats 4000000 in
theorem vc_Pn_replaceInLine_at_gg_2_1 (x1 : Int) (x2 : Int) (x3 : Int) (x5 : Int) (x6 : Int) (x7 : Int) (x8 : Int) (x9 : Int) (x10 : Int) (x11 : Int) (lineLength_0 : Int) (line_0 : Int → Int) (order_0 : Int → Int) (way_0 : Int → Int) (k1 : 1 ≤ x1 ∧ x1 ≤ 24) (k2 : 0 ≤ x2 ∧ x2 ≤ 22) (k3 : 1 ≤ x3 ∧ x3 ≤ 1) (k5 : 3 ≤ x5 ∧ x5 ≤ 23) (k6 : 0 ≤ x6 ∧ x6 ≤ 24) (k7 : (-24) ≤ x7 ∧ x7 ≤ 23) (k8 : 0 ≤ x8 ∧ x8 ≤ 47) (k9 : (-22) ≤ x9 ∧ x9 ≤ 23) (k10 : (-21) ≤ x10 ∧ x10 ≤ 24) (k11 : 24 ≤ x11 ∧ x11 ≤ 24) (d0 : x9 + 1 ≤ x10 ∧ x10 ≤ x9 + 1) (d1 : x6 + (-21) ≤ x10 ∧ x10 ≤ x6 + 25) (d2 : x6 + (-22) ≤ x9 ∧ x9 ≤ x6 + 24) (d3 : x7 + (-22) ≤ x8 ∧ x8 ≤ x7 + 24) (d4 : x6 + (-46) ≤ x8 ∧ x8 ≤ x6 + 23) (d5 : x6 + (-24) ≤ x7 ∧ x7 ≤ x6 + (-1)) (f1 : 0 ≤ x2) (f2 : 0 ≤ x8) (f3 : x10 ≤ x11) (f4 : x10 = x9 + x3) (f5 : x9 = x6 - x2) (g6 : x6 = lineLength_0) (f7 : x8 = x7 - x2) (f8 : x7 = x6 - x1) (f9 : LNO (lineLength_0) (line_0) (order_0) (x5)) (f10 : way_0 (0) = order_0 (x5)) (f11 : (1 ≤ x1) ∧ (((x1 + x2) + 1) ≤ lineLength_0)) (f12 : x3 = 1) (hK_0_1 : ∀ j : Int, 0 ≤ j → j < 24 → 0 ≤ order_0 j ∧ order_0 j ≤ 23) (hK_0_2 : ∀ j : Int, 0 ≤ j → j < 24 → 0 ≤ line_0 j ∧ line_0 j ≤ 23) (hK_0_6 : ∀ j : Int, 0 ≤ j → j < 27 → 0 ≤ way_0 j ∧ way_0 j ≤ 23) (kz_0_3 : 0 ≤ lineLength_0 ∧ lineLength_0 ≤ 24) : (-1) * lineLength_0 + (1 * x1 + (1 * x2 + 0)) ≤ 0 := by
  first
    | omega
    | (exfalso; have h := lni_room ‹OFL _ _ _ _› ‹EWJ _ _ _ _› (by omega); omega)
    | (have h := (‹LNO _ _ _ _›).1; omega)
  
def o_Pn_replaceInLine_at_gg_2 : or_T := (33, 12, [(0, (2, 0, 0, [7])), (1, (0, 1, 24, [])), (2, (0, 0, 22, [])), (3, (0, 1, 1, [])), (5, (0, 3, 23, [])), (6, (0, 0, 24, [])), (7, (0, -24, 23, [])), (8, (0, 0, 47, [])), (9, (0, -22, 23, [])), (10, (0, -21, 24, [])), (11, (0, 24, 24, []))], [(8, [2], [3]), (8, [8], [3]), (7, [10, 11], [5]), (1, [10, 9, 3], []), (2, [9, 6, 2], []), (9, [6, 0], [3]), (2, [8, 7, 2], []), (2, [7, 6, 1], []), (20, [0, 5], [60, 1, 2, 889, 3, 2, 1]), (20, [0, 5], [50, 0, 2, 6, 1, 1, 5, 3, 0, 6, 0, 0, 3, 0, 1, 1, 1]), (20, [1, 2, 0], [50, 1, 0, 2003, 2, 6, 0, 2, 0, 1, 1, 0, 0, 10, 4, 6, 4, 2, 1, 0, 1, 1, 0, 1, 2, 2, 3]), (20, [3], [50, 0, 0, 1, 2, 1, 0, 0, 1])], [], [], [(20, [0, 2, 3], [30, 24, 1, 1, 3, -1, 0, 0, 1, 0, 0]), (20, [0, 1, 2], [30, 0, -1, 1, 3, 1, 0, 0, 1, 0, 0])], [], [(10, 9, 1, 1), (10, 6, -21, 25), (9, 6, -22, 24), (8, 7, -22, 24), (8, 6, -46, 23), (7, 6, -24, -1)])
theorem oo_Pn_replaceInLine_at_gg_2 {kA : Nat → ClassId} : or_ok PRD kA GG o_Pn_replaceInLine_at_gg_2 := by
  refine or_mk fun A ta ws vs hD hth hl => ?_
  intro t0 r0 t1 k1 t2 k2 t3 k3 t5 k5 t6 k6 t7 k7 t8 k8 t9 k9 t10 k10 t11 k11 d0 d1 d2 d3 d4 d5 f1 f2 f3 f4 f5 f6 f7 f8 f9 f10 f11 f12
  replace f6 := shm_137 f6
  have cr_0_1 := fdq_92 hD hth r0
  have cr_0_2 := fdq_227 hD hth r0
  have cr_0_6 := fdq_228 hD hth r0
  have g6 : v_iv (n_v vs 6) = w_fi ws (n_v vs 0) 3 := congrArg v_iv f6
  have hK_0_1 := elq_48 hD hth cr_0_1
  have hK_0_2 := elq_140 hD hth cr_0_2
  have hK_0_6 := elq_141 hD hth cr_0_6
  have kz_0_3 := fdq_13 hD hth r0
  have nf0 : fc_1 PRD (20, [0, 2, 3], [30, 24, 1, 1, 3, -1, 0, 0, 1, 0, 0]) ws (vs) := ⟨nf_in hl rfl, sgq_138 (vc_Pn_replaceInLine_at_gg_2_0 (v_iv (n_v vs 1)) (v_iv (n_v vs 2)) (v_iv (n_v vs 3)) (v_iv (n_v vs 5)) (v_iv (n_v vs 6)) (v_iv (n_v vs 7)) (v_iv (n_v vs 8)) (v_iv (n_v vs 9)) (v_iv (n_v vs 10)) (v_iv (n_v vs 11)) (w_fi ws (n_v vs 0) 3) (w_ei ws (w_ar ws (n_v vs 0) 2)) (w_ei ws (w_ar ws (n_v vs 0) 1)) (w_ei ws (w_ar ws (n_v vs 0) 6)) k1 k2 k3 k5 k6 k7 k8 k9 k10 k11 d0 d1 d2 d3 d4 d5 (shm_32 f1) (shm_32 f2) (shm_24 f3) (shm_12 f4) (shm_14 f5) g6 (shm_14 f7) (shm_14 f8) (shm_899 f9) (shm_900 f10) (shm_901 f11) (shm_510 f12) hK_0_1 hK_0_2 hK_0_6 kz_0_3)⟩
  have nf1 : fc_1 PRD (20, [0, 1, 2], [30, 0, -1, 1, 3, 1, 0, 0, 1, 0, 0]) ws (vs) := ⟨nf_in hl rfl, sgq_139 (vc_Pn_replaceInLine_at_gg_2_1 (v_iv (n_v vs 1)) (v_iv (n_v vs 2)) (v_iv (n_v vs 3)) (v_iv (n_v vs 5)) (v_iv (n_v vs 6)) (v_iv (n_v vs 7)) (v_iv (n_v vs 8)) (v_iv (n_v vs 9)) (v_iv (n_v vs 10)) (v_iv (n_v vs 11)) (w_fi ws (n_v vs 0) 3) (w_ei ws (w_ar ws (n_v vs 0) 2)) (w_ei ws (w_ar ws (n_v vs 0) 1)) (w_ei ws (w_ar ws (n_v vs 0) 6)) k1 k2 k3 k5 k6 k7 k8 k9 k10 k11 d0 d1 d2 d3 d4 d5 (shm_32 f1) (shm_32 f2) (shm_24 f3) (shm_12 f4) (shm_14 f5) g6 (shm_14 f7) (shm_14 f8) (shm_899 f9) (shm_900 f10) (shm_901 f11) (shm_510 f12) hK_0_1 hK_0_2 hK_0_6 kz_0_3)⟩
  refine ⟨(fun _ h => (by cases h)), [], trivial, ?_, (fun _ h => (by cases h))⟩
  rw [List.append_nil]
  exact List.forall_mem_cons.mpr ⟨⟨show (20 : Nat) < 100 from by decide, nf0⟩, List.forall_mem_cons.mpr ⟨⟨show (20 : Nat) < 100 from by decide, nf1⟩, (fun _ h => (by cases h))⟩⟩
set_option maxHeartbeats 4000000 in
theorem vc_Pn_replaceInLine_at_gg_3_0 (x1 : Int) (x2 : Int) (x3 : Int) (x5 : Int) (x6 : Int) (x7 : Int) (x8 : Int) (x9 : Int) (x10 : Int) (x11 : Int) (x13 : Int) (x14 : Int) (lineLength_0 : Int) (line_0 : Int → Int) (order_0 : Int → Int) (way_0 : Int → Int) (gy : Int) (gu : Int) (gw : Int) (k1 : 1 ≤ x1 ∧ x1 ≤ 24) (k2 : 0 ≤ x2 ∧ x2 ≤ 22) (k3 : 1 ≤ x3 ∧ x3 ≤ 1) (k5 : 3 ≤ x5 ∧ x5 ≤ 23) (k6 : 0 ≤ x6 ∧ x6 ≤ 24) (k7 : (-24) ≤ x7 ∧ x7 ≤ 23) (k8 : 0 ≤ x8 ∧ x8 ≤ 47) (k9 : (-22) ≤ x9 ∧ x9 ≤ 23) (k10 : (-21) ≤ x10 ∧ x10 ≤ 24) (k11 : 24 ≤ x11 ∧ x11 ≤ 24) (k13 : 1 ≤ x13 ∧ x13 ≤ 46) (k14 : 2 ≤ x14 ∧ x14 ≤ 25) (d0 : x1 + 1 ≤ x14 ∧ x14 ≤ x1 + 1) (d1 : x2 + 1 ≤ x13 ∧ x13 ≤ x2 + 24) (d2 : x1 + 0 ≤ x13 ∧ x13 ≤ x1 + 22) (d3 : x9 + 1 ≤ x10 ∧ x10 ≤ x9 + 1) (d4 : x6 + (-21) ≤ x10 ∧ x10 ≤ x6 + 25) (d5 : x6 + (-22) ≤ x9 ∧ x9 ≤ x6 + 24) (d6 : x7 + (-22) ≤ x8 ∧ x8 ≤ x7 + 24) (d7 : x6 + (-46) ≤ x8 ∧ x8 ≤ x6 + 23) (d8 : x6 + (-24) ≤ x7 ∧ x7 ≤ x6 + (-1)) (f1 : x14 = x1 + x3) (f3 : x13 = x1 + x2) (f4 : 1 * lineLength_0 + ((-1) * x2 + (1 * x3 + 0)) ≤ 24) (f5 : (-1) * lineLength_0 + (1 * x1 + (1 * x2 + 0)) ≤ 0) (f6 : 0 ≤ x2) (f7 : 0 ≤ x8) (f8 : x10 ≤ x11) (f9 : x10 = x9 + x3) (f10 : x9 = x6 - x2) (g11 : x6 = lineLength_0) (f12 : x8 = x7 - x2) (f13 : x7 = x6 - x1) (f14 : LNO (lineLength_0) (line_0) (order_0) (x5)) (f15 : way_0 (0) = order_0 (x5)) (f16 : (1 ≤ x1) ∧ (((x1 + x2) + 1) ≤ lineLength_0)) (f17 : x3 = 1) (hK_0_1 : ∀ j : Int, 0 ≤ j → j < 24 → 0 ≤ order_0 j ∧ order_0 j ≤ 23) (hK_0_2 : ∀ j : Int, 0 ≤ j → j < 24 → 0 ≤ line_0 j ∧ line_0 j ≤ 23) (hK_0_6 : ∀ j : Int, 0 ≤ j → j < 27 → 0 ≤ way_0 j ∧ way_0 j ≤ 23) (kz_0_3 : 0 ≤ lineLength_0 ∧ lineLength_0 ≤ 24) (ey2 : gy = lineLength_0) (ey3 : 0 ≤ gy ∧ gy ≤ 24) (eu2 : gu = x5) (eu3 : 3 ≤ gu ∧ gu ≤ 23) (ew2 : gw = x2) (ew3 : 0 ≤ gw ∧ gw ≤ 24) : x13 + x8 ≤ 24 := by
  first
    | omega
    | (exfalso; have h := lni_room ‹OFL _ _ _ _› ‹EWJ _ _ _ _› (by omega); omega)
    | (have h := (‹LNO _ _ _ _›).1; omega)
  
set_option maxHeartbeats 4000000 in
theorem vc_Pn_replaceInLine_at_gg_3_1 (x1 : Int) (x2 : Int) (x3 : Int) (x5 : Int) (x6 : Int) (x7 : Int) (x8 : Int) (x9 : Int) (x10 : Int) (x11 : Int) (x13 : Int) (x14 : Int) (lineLength_0 : Int) (line_0 : Int → Int) (order_0 : Int → Int) (way_0 : Int → Int) (gy : Int) (gu : Int) (gw : Int) (k1 : 1 ≤ x1 ∧ x1 ≤ 24) (k2 : 0 ≤ x2 ∧ x2 ≤ 22) (k3 : 1 ≤ x3 ∧ x3 ≤ 1) (k5 : 3 ≤ x5 ∧ x5 ≤ 23) (k6 : 0 ≤ x6 ∧ x6 ≤ 24) (k7 : (-24) ≤ x7 ∧ x7 ≤ 23) (k8 : 0 ≤ x8 ∧ x8 ≤ 47) (k9 : (-22) ≤ x9 ∧ x9 ≤ 23) (k10 : (-21) ≤ x10 ∧ x10 ≤ 24) (k11 : 24 ≤ x11 ∧ x11 ≤ 24) (k13 : 1 ≤ x13 ∧ x13 ≤ 46) (k14 : 2 ≤ x14 ∧ x14 ≤ 25) (d0 : x1 + 1 ≤ x14 ∧ x14 ≤ x1 + 1) (d1 : x2 + 1 ≤ x13 ∧ x13 ≤ x2 + 24) (d2 : x1 + 0 ≤ x13 ∧ x13 ≤ x1 + 22) (d3 : x9 + 1 ≤ x10 ∧ x10 ≤ x9 + 1) (d4 : x6 + (-21) ≤ x10 ∧ x10 ≤ x6 + 25) (d5 : x6 + (-22) ≤ x9 ∧ x9 ≤ x6 + 24) (d6 : x7 + (-22) ≤ x8 ∧ x8 ≤ x7 + 24) (d7 : x6 + (-46) ≤ x8 ∧ x8 ≤ x6 + 23) (d8 : x6 + (-24) ≤ x7 ∧ x7 ≤ x6 + (-1)) (f1 : x14 = x1 + x3) (f3 : x13 = x1 + x2) (f4 : 1 * lineLength_0 + ((-1) * x2 + (1 * x3 + 0)) ≤ 24) (f5 : (-1) * lineLength_0 + (1 * x1 + (1 * x2 + 0)) ≤ 0) (f6 : 0 ≤ x2) (f7 : 0 ≤ x8) (f8 : x10 ≤ x11) (f9 : x10 = x9 + x3) (f10 : x9 = x6 - x2) (g11 : x6 = lineLength_0) (f12 : x8 = x7 - x2) (f13 : x7 = x6 - x1) (f14 : LNO (lineLength_0) (line_0) (order_0) (x5)) (f15 : way_0 (0) = order_0 (x5)) (f16 : (1 ≤ x1) ∧ (((x1 + x2) + 1) ≤ lineLength_0)) (f17 : x3 = 1) (hK_0_1 : ∀ j : Int, 0 ≤ j → j < 24 → 0 ≤ order_0 j ∧ order_0 j ≤ 23) (hK_0_2 : ∀ j : Int, 0 ≤ j → j < 24 → 0 ≤ line_0 j ∧ line_0 j ≤ 23) (hK_0_6 : ∀ j : Int, 0 ≤ j → j < 27 → 0 ≤ way_0 j ∧ way_0 j ≤ 23) (kz_0_3 : 0 ≤ lineLength_0 ∧ lineLength_0 ≤ 24) (ey2 : gy = lineLength_0) (ey3 : 0 ≤ gy ∧ gy ≤ 24) (eu2 : gu = x5) (eu3 : 3 ≤ gu ∧ gu ≤ 23) (ew2 : gw = x2) (ew3 : 0 ≤ gw ∧ gw ≤ 24) : x14 + x8 ≤ 24 := by
  first
    | omega
    | (exfalso; have h := lni_room ‹OFL _ _ _ _› ‹EWJ _ _ _ _› (by omega); omega)
    | (have h := (‹LNO _ _ _ _›).1; omega)
  
set_option maxHeartbeats 4000000 in
theorem vc_Pn_replaceInLine_at_gg_3_3 (x1 : Int) (x2 : Int) (x3 : Int) (x5 : Int) (x6 : Int) (x7 : Int) (x8 : Int) (x9 : Int) (x10 : Int) (x11 : Int) (x13 : Int) (x14 : Int) (lineLength_0 : Int) (line_0 : Int → Int) (order_0 : Int → Int) (way_0 : Int → Int) (gy : Int) (gu : Int) (gw : Int) (k1 : 1 ≤ x1 ∧ x1 ≤ 24) (k2 : 0 ≤ x2 ∧ x2 ≤ 22) (k3 : 1 ≤ x3 ∧ x3 ≤ 1) (k5 : 3 ≤ x5 ∧ x5 ≤ 23) (k6 : 0 ≤ x6 ∧ x6 ≤ 24) (k7 : (-24) ≤ x7 ∧ x7 ≤ 23) (k8 : 0 ≤ x8 ∧ x8 ≤ 47) (k9 : (-22) ≤ x9 ∧ x9 ≤ 23) (k10 : (-21) ≤ x10 ∧ x10 ≤ 24) (k11 : 24 ≤ x11 ∧ x11 ≤ 24) (k13 : 1 ≤ x13 ∧ x13 ≤ 46) (k14 : 2 ≤ x14 ∧ x14 ≤ 25) (d0 : x1 + 1 ≤ x14 ∧ x14 ≤ x1 + 1) (d1 : x2 + 1 ≤ x13 ∧ x13 ≤ x2 + 24) (d2 : x1 + 0 ≤ x13 ∧ x13 ≤ x1 + 22) (d3 : x9 + 1 ≤ x10 ∧ x10 ≤ x9 + 1) (d4 : x6 + (-21) ≤ x10 ∧ x10 ≤ x6 + 25) (d5 : x6 + (-22) ≤ x9 ∧ x9 ≤ x6 + 24) (d6 : x7 + (-22) ≤ x8 ∧ x8 ≤ x7 + 24) (d7 : x6 + (-46) ≤ x8 ∧ x8 ≤ x6 + 23) (d8 : x6 + (-24) ≤ x7 ∧ x7 ≤ x6 + (-1)) (f1 : x14 = x1 + x3) (f3 : x13 = x1 + x2) (f4 : 1 * lineLength_0 + ((-1) * x2 + (1 * x3 + 0)) ≤ 24) (f5 : (-1) * lineLength_0 + (1 * x1 + (1 * x2 + 0)) ≤ 0) (f6 : 0 ≤ x2) (f7 : 0 ≤ x8) (f8 : x10 ≤ x11) (f9 : x10 = x9 + x3) (f10 : x9 = x6 - x2) (g11 : x6 = lineLength_0) (f12 : x8 = x7 - x2) (f13 : x7 = x6 - x1) (f14 : LNO (lineLength_0) (line_0) (order_0) (x5)) (f15 : way_0 (0) = order_0 (x5)) (f16 : (1 ≤ x1) ∧ (((x1 + x2) + 1) ≤ lineLength_0)) (f17 : x3 = 1) (hK_0_1 : ∀ j : Int, 0 ≤ j → j < 24 → 0 ≤ order_0 j ∧ order_0 j ≤ 23) (hK_0_2 : ∀ j : Int, 0 ≤ j → j < 24 → 0 ≤ line_0 j ∧ line_0 j ≤ 23) (hK_0_6 : ∀ j : Int, 0 ≤ j → j < 27 → 0 ≤ way_0 j ∧ way_0 j ≤ 23) (kz_0_3 : 0 ≤ lineLength_0 ∧ lineLength_0 ≤ 24) (ey2 : gy = lineLength_0) (ey3 : 0 ≤ gy ∧ gy ≤ 24) (eu2 : gu = x5) (eu3 : 3 ≤ gu ∧ gu ≤ 23) (ew2 : gw = x2) (ew3 : 0 ≤ gw ∧ gw ≤ 24) : gy = lineLength_0 := by
  first
    | omega
    | (exfalso; have h := lni_room ‹OFL _ _ _ _› ‹EWJ _ _ _ _› (by omega); omega)
    | (have h := (‹LNO _ _ _ _›).1; omega)
  
set_option maxHeartbeats 4000000 in
theorem vc_Pn_replaceInLine_at_gg_3_4 (x1 : Int) (x2 : Int) (x3 : Int) (x5 : Int) (x6 : Int) (x7 : Int) (x8 : Int) (x9 : Int) (x10 : Int) (x11 : Int) (x13 : Int) (x14 : Int) (lineLength_0 : Int) (line_0 : Int → Int) (order_0 : Int → Int) (way_0 : Int → Int) (gy : Int) (gu : Int) (gw : Int) (k1 : 1 ≤ x1 ∧ x1 ≤ 24) (k2 : 0 ≤ x2 ∧ x2 ≤ 22) (k3 : 1 ≤ x3 ∧ x3 ≤ 1) (k5 : 3 ≤ x5 ∧ x5 ≤ 23) (k6 : 0 ≤ x6 ∧ x6 ≤ 24) (k7 : (-24) ≤ x7 ∧ x7 ≤ 23) (k8 : 0 ≤ x8 ∧ x8 ≤ 47) (k9 : (-22) ≤ x9 ∧ x9 ≤ 23) (k10 : (-21) ≤ x10 ∧ x10 ≤ 24) (k11 : 24 ≤ x11 ∧ x11 ≤ 24) (k13 : 1 ≤ x13 ∧ x13 ≤ 46) (k14 : 2 ≤ x14 ∧ x14 ≤ 25) (d0 : x1 + 1 ≤ x14 ∧ x14 ≤ x1 + 1) (d1 : x2 + 1 ≤ x13 ∧ x13 ≤ x2 + 24) (d2 : x1 + 0 ≤ x13 ∧ x13 ≤ x1 + 22) (d3 : x9 + 1 ≤ x10 ∧ x10 ≤ x9 + 1) (d4 : x6 + (-21) ≤ x10 ∧ x10 ≤ x6 + 25) (d5 : x6 + (-22) ≤ x9 ∧ x9 ≤ x6 + 24) (d6 : x7 + (-22) ≤ x8 ∧ x8 ≤ x7 + 24) (d7 : x6 + (-46) ≤ x8 ∧ x8 ≤ x6 + 23) (d8 : x6 + (-24) ≤ x7 ∧ x7 ≤ x6 + (-1)) (f1 : x14 = x1 + x3) (f3 : x13 = x1 + x2) (f4 : 1 * lineLength_0 + ((-1) * x2 + (1 * x3 + 0)) ≤ 24) (f5 : (-1) * lineLength_0 + (1 * x1 + (1 * x2 + 0)) ≤ 0) (f6 : 0 ≤ x2) (f7 : 0 ≤ x8) (f8 : x10 ≤ x11) (f9 : x10 = x9 + x3) (f10 : x9 = x6 - x2) (g11 : x6 = lineLength_0) (f12 : x8 = x7 - x2) (f13 : x7 = x6 - x1) (f14 : LNO (lineLength_0) (line_0) (order_0) (x5)) (f15 : way_0 (0) = order_0 (x5)) (f16 : (1 ≤ x1) ∧ (((x1 + x2) + 1) ≤ lineLength_0)) (f17 : x3 = 1) (hK_0_1 : ∀ j : Int, 0 ≤ j → j < 24 → 0 ≤ order_0 j ∧ order_0 j ≤ 23) (hK_0_2 : ∀ j : Int, 0 ≤ j → j < 24 → 0 ≤ line_0 j ∧ line_0 j ≤ 23) (hK_0_6 : ∀ j : Int, 0 ≤ j → j < 27 → 0 ≤ way_0 j ∧ way_0 j ≤ 23) (kz_0_3 : 0 ≤ lineLength_0 ∧ lineLength_0 ≤ 24) (ey2 : gy = lineLength_0) (ey3 : 0 ≤ gy ∧ gy ≤ 24) (eu2 : gu = x5) (eu3 : 3 ≤ gu ∧ gu ≤ 23) (ew2 : gw = x2) (ew3 : 0 ≤ gw ∧ gw ≤ 24) : 1 * gu + ((-1) * x5 + 0) ≤ 0 := by
  first
    | omega
    | (exfalso; have h := lni_room ‹OFL _ _ _ _› ‹EWJ _ _ _ _› (by omega); omega)
    | (have h := (‹LNO _ _ _ _›).1; omega)
  
set_option maxHeartbeats 4000000 in
theorem vc_Pn_replaceInLine_at_gg_3_5 (x1 : Int) (x2 : Int) (x3 : Int) (x5 : Int) (x6 : Int) (x7 : Int) (x8 : Int) (x9 : Int) (x10 : Int) (x11 : Int) (x13 : Int) (x14 : Int) (lineLength_0 : Int) (line_0 : Int → Int) (order_0 : Int → Int) (way_0 : Int → Int) (gy : Int) (gu : Int) (gw : Int) (k1 : 1 ≤ x1 ∧ x1 ≤ 24) (k2 : 0 ≤ x2 ∧ x2 ≤ 22) (k3 : 1 ≤ x3 ∧ x3 ≤ 1) (k5 : 3 ≤ x5 ∧ x5 ≤ 23) (k6 : 0 ≤ x6 ∧ x6 ≤ 24) (k7 : (-24) ≤ x7 ∧ x7 ≤ 23) (k8 : 0 ≤ x8 ∧ x8 ≤ 47) (k9 : (-22) ≤ x9 ∧ x9 ≤ 23) (k10 : (-21) ≤ x10 ∧ x10 ≤ 24) (k11 : 24 ≤ x11 ∧ x11 ≤ 24) (k13 : 1 ≤ x13 ∧ x13 ≤ 46) (k14 : 2 ≤ x14 ∧ x14 ≤ 25) (d0 : x1 + 1 ≤ x14 ∧ x14 ≤ x1 + 1) (d1 : x2 + 1 ≤ x13 ∧ x13 ≤ x2 + 24) (d2 : x1 + 0 ≤ x13 ∧ x13 ≤ x1 + 22) (d3 : x9 + 1 ≤ x10 ∧ x10 ≤ x9 + 1) (d4 : x6 + (-21) ≤ x10 ∧ x10 ≤ x6 + 25) (d5 : x6 + (-22) ≤ x9 ∧ x9 ≤ x6 + 24) (d6 : x7 + (-22) ≤ x8 ∧ x8 ≤ x7 + 24) (d7 : x6 + (-46) ≤ x8 ∧ x8 ≤ x6 + 23) (d8 : x6 + (-24) ≤ x7 ∧ x7 ≤ x6 + (-1)) (f1 : x14 = x1 + x3) (f3 : x13 = x1 + x2) (f4 : 1 * lineLength_0 + ((-1) * x2 + (1 * x3 + 0)) ≤ 24) (f5 : (-1) * lineLength_0 + (1 * x1 + (1 * x2 + 0)) ≤ 0) (f6 : 0 ≤ x2) (f7 : 0 ≤ x8) (f8 : x10 ≤ x11) (f9 : x10 = x9 + x3) (f10 : x9 = x6 - x2) (g11 : x6 = lineLength_0) (f12 : x8 = x7 - x2) (f13 : x7 = x6 - x1) (f14 : LNO (lineLength_0) (line_0) (order_0) (x5)) (f15 : way_0 (0) = order_0 (x5)) (f16 : (1 ≤ x1) ∧ (((x1 + x2) + 1) ≤ lineLength_0)) (f17 : x3 = 1) (hK_0_1 : ∀ j : Int, 0 ≤ j → j < 24 → 0 ≤ order_0 j ∧ order_0 j ≤ 23) (hK_0_2 : ∀ j : Int, 0 ≤ j → j < 24 → 0 ≤ line_0 j ∧ line_0 j ≤ 23) (hK_0_6 : ∀ j : Int, 0 ≤ j → j < 27 → 0 ≤ way_0 j ∧ way_0 j ≤ 23) (kz_0_3 : 0 ≤ lineLength_0 ∧ lineLength_0 ≤ 24) (ey2 : gy = lineLength_0) (ey3 : 0 ≤ gy ∧ gy ≤ 24) (eu2 : gu = x5) (eu3 : 3 ≤ gu ∧ gu ≤ 23) (ew2 : gw = x2) (ew3 : 0 ≤ gw ∧ gw ≤ 24) : (-1) * gu + (1 * x5 + 0) ≤ 0 := by
  first
    | omega
    | (exfalso; have h := lni_room ‹OFL _ _ _ _› ‹EWJ _ _ _ _› (by omega); omega)
    | (have h := (‹LNO _ _ _ _›).1; omega)
  
set_option maxHeartbeats 4000000 in
theorem vc_Pn_replaceInLine_at_gg_3_6 (x1 : Int) (x2 : Int) (x3 : Int) (x5 : Int) (x6 : Int) (x7 : Int) (x8 : Int) (x9 : Int) (x10 : Int) (x11 : Int) (x13 : Int) (x14 : Int) (lineLength_0 : Int) (line_0 : Int → Int) (order_0 : Int → Int) (way_0 : Int → Int) (gy : Int) (gu : Int) (gw : Int) (k1 : 1 ≤ x1 ∧ x1 ≤ 24) (k2 : 0 ≤ x2 ∧ x2 ≤ 22) (k3 : 1 ≤ x3 ∧ x3 ≤ 1) (k5 : 3 ≤ x5 ∧ x5 ≤ 23) (k6 : 0 ≤ x6 ∧ x6 ≤ 24) (k7 : (-24) ≤ x7 ∧ x7 ≤ 23) (k8 : 0 ≤ x8 ∧ x8 ≤ 47) (k9 : (-22) ≤ x9 ∧ x9 ≤ 23) (k10 : (-21) ≤ x10 ∧ x10 ≤ 24) (k11 : 24 ≤ x11 ∧ x11 ≤ 24) (k13 : 1 ≤ x13 ∧ x13 ≤ 46) (k14 : 2 ≤ x14 ∧ x14 ≤ 25) (d0 : x1 + 1 ≤ x14 ∧ x14 ≤ x1 + 1) (d1 : x2 + 1 ≤ x13 ∧ x13 ≤ x2 + 24) (d2 : x1 + 0 ≤ x13 ∧ x13 ≤ x1 + 22) (d3 : x9 + 1 ≤ x10 ∧ x10 ≤ x9 + 1) (d4 : x6 + (-21) ≤ x10 ∧ x10 ≤ x6 + 25) (d5 : x6 + (-22) ≤ x9 ∧ x9 ≤ x6 + 24) (d6 : x7 + (-22) ≤ x8 ∧ x8 ≤ x7 + 24) (d7 : x6 + (-46) ≤ x8 ∧ x8 ≤ x6 + 23) (d8 : x6 + (-24) ≤ x7 ∧ x7 ≤ x6 + (-1)) (f1 : x14 = x1 + x3) (f3 : x13 = x1 + x2) (f4 : 1 * lineLength_0 + ((-1) * x2 + (1 * x3 + 0)) ≤ 24) (f5 : (-1) * lineLength_0 + (1 * x1 + (1 * x2 + 0)) ≤ 0) (f6 : 0 ≤ x2) (f7 : 0 ≤ x8) (f8 : x10 ≤ x11) (f9 : x10 = x9 + x3) (f10 : x9 = x6 - x2) (g11 : x6 = lineLength_0) (f12 : x8 = x7 - x2) (f13 : x7 = x6 - x1) (f14 : LNO (lineLength_0) (line_0) (order_0) (x5)) (f15 : way_0 (0) = order_0 (x5)) (f16 : (1 ≤ x1) ∧ (((x1 + x2) + 1) ≤ lineLength_0)) (f17 : x3 = 1) (hK_0_1 : ∀ j : Int, 0 ≤ j → j < 24 → 0 ≤ order_0 j ∧ order_0 j ≤ 23) (hK_0_2 : ∀ j : Int, 0 ≤ j → j < 24 → 0 ≤ line_0 j ∧ line_0 j ≤ 23) (hK_0_6 : ∀ j : Int, 0 ≤ j → j < 27 → 0 ≤ way_0 j ∧ way_0 j ≤ 23) (kz_0_3 : 0 ≤ lineLength_0 ∧ lineLength_0 ≤ 24) (ey2 : gy = lineLength_0) (ey3 : 0 ≤ gy ∧ gy ≤ 24) (eu2 : gu = x5) (eu3 : 3 ≤ gu ∧ gu ≤ 23) (ew2 : gw = x2) (ew3 : 0 ≤ gw ∧ gw ≤ 24) : 1 * gw + ((-1) * x2 + 0) ≤ 0 := by
  first
    | omega
    | (exfalso; have h := lni_room ‹OFL _ _ _ _› ‹EWJ _ _ _ _› (by omega); omega)
    | (have h := (‹LNO _ _ _ _›).1; omega)
  
set_option maxHeartbeats 4000000 in
theorem vc_Pn_replaceInLine_at_gg_3_7 (x1 : Int) (x2 : Int) (x3 : Int) (x5 : Int) (x6 : Int) (x7 : Int) (x8 : Int) (x9 : Int) (x10 : Int) (x11 : Int) (x13 : Int) (x14 : Int) (lineLength_0 : Int) (line_0 : Int → Int) (order_0 : Int → Int) (way_0 : Int → Int) (gy : Int) (gu : Int) (gw : Int) (k1 : 1 ≤ x1 ∧ x1 ≤ 24) (k2 : 0 ≤ x2 ∧ x2 ≤ 22) (k3 : 1 ≤ x3 ∧ x3 ≤ 1) (k5 : 3 ≤ x5 ∧ x5 ≤ 23) (k6 : 0 ≤ x6 ∧ x6 ≤ 24) (k7 : (-24) ≤ x7 ∧ x7 ≤ 23) (k8 : 0 ≤ x8 ∧ x8 ≤ 47) (k9 : (-22) ≤ x9 ∧ x9 ≤ 23) (k10 : (-21) ≤ x10 ∧ x10 ≤ 24) (k11 : 24 ≤ x11 ∧ x11 ≤ 24) (k13 : 1 ≤ x13 ∧ x13 ≤ 46) (k14 : 2 ≤ x14 ∧ x14 ≤ 25) (d0 : x1 + 1 ≤ x14 ∧ x14 ≤ x1 + 1) (d1 : x2 + 1 ≤ x13 ∧ x13 ≤ x2 + 24) (d2 : x1 + 0 ≤ x13 ∧ x13 ≤ x1 + 22) (d3 : x9 + 1 ≤ x10 ∧ x10 ≤ x9 + 1) (d4 : x6 + (-21) ≤ x10 ∧ x10 ≤ x6 + 25) (d5 : x6 + (-22) ≤ x9 ∧ x9 ≤ x6 + 24) (d6 : x7 + (-22) ≤ x8 ∧ x8 ≤ x7 + 24) (d7 : x6 + (-46) ≤ x8 ∧ x8 ≤ x6 + 23) (d8 : x6 + (-24) ≤ x7 ∧ x7 ≤ x6 + (-1)) (f1 : x14 = x1 + x3) (f3 : x13 = x1 + x2) (f4 : 1 * lineLength_0 + ((-1) * x2 + (1 * x3 + 0)) ≤ 24) (f5 : (-1) * lineLength_0 + (1 * x1 + (1 * x2 + 0)) ≤ 0) (f6 : 0 ≤ x2) (f7 : 0 ≤ x8) (f8 : x10 ≤ x11) (f9 : x10 = x9 + x3) (f10 : x9 = x6 - x2) (g11 : x6 = lineLength_0) (f12 : x8 = x7 - x2) (f13 : x7 = x6 - x1) (f14 : LNO (lineLength_0) (line_0) (order_0) (x5)) (f15 : way_0 (0) = order_0 (x5)) (f16 : (1 ≤ x1) ∧ (((x1 + x2) + 1) ≤ lineLength_0)) (f17 : x3 = 1) (hK_0_1 : ∀ j : Int, 0 ≤ j → j < 24 → 0 ≤ order_0 j ∧ order_0 j ≤ 23) (hK_0_2 : ∀ j : Int, 0 ≤ j → j < 24 → 0 ≤ line_0 j ∧ line_0 j ≤ 23) (hK_0_6 : ∀ j : Int, 0 ≤ j → j < 27 → 0 ≤ way_0 j ∧ way_0 j ≤ 23) (kz_0_3 : 0 ≤ lineLength_0 ∧ lineLength_0 ≤ 24) (ey2 : gy = lineLength_0) (ey3 : 0 ≤ gy ∧ gy ≤ 24) (eu2 : gu = x5) (eu3 : 3 ≤ gu ∧ gu ≤ 23) (ew2 : gw = x2) (ew3 : 0 ≤ gw ∧ gw ≤ 24) : (-1) * gw + (1 * x2 + 0) ≤ 0 := by
  first
    | omega
    | (exfalso; have h := lni_room ‹OFL _ _ _ _› ‹EWJ _ _ _ _› (by omega); omega)
    | (have h := (‹LNO _ _ _ _›).1; omega)
  
set_option maxHeartbeats 4000000 in
theorem vc_Pn_replaceInLine_at_gg_3_8 (x1 : Int) (x2 : Int) (x3 : Int) (x5 : Int) (x6 : Int) (x7 : Int) (x8 : Int) (x9 : Int) (x10 : Int) (x11 : Int) (x13 : Int) (x14 : Int) (lineLength_0 : Int) (line_0 : Int → Int) (order_0 : Int → Int) (way_0 : Int → Int) (gy : Int) (gu : Int) (gw : Int) (k1 : 1 ≤ x1 ∧ x1 ≤ 24) (k2 : 0 ≤ x2 ∧ x2 ≤ 22) (k3 : 1 ≤ x3 ∧ x3 ≤ 1) (k5 : 3 ≤ x5 ∧ x5 ≤ 23) (k6 : 0 ≤ x6 ∧ x6 ≤ 24) (k7 : (-24) ≤ x7 ∧ x7 ≤ 23) (k8 : 0 ≤ x8 ∧ x8 ≤ 47) (k9 : (-22) ≤ x9 ∧ x9 ≤ 23) (k10 : (-21) ≤ x10 ∧ x10 ≤ 24) (k11 : 24 ≤ x11 ∧ x11 ≤ 24) (k13 : 1 ≤ x13 ∧ x13 ≤ 46) (k14 : 2 ≤ x14 ∧ x14 ≤ 25) (d0 : x1 + 1 ≤ x14 ∧ x14 ≤ x1 + 1) (d1 : x2 + 1 ≤ x13 ∧ x13 ≤ x2 + 24) (d2 : x1 + 0 ≤ x13 ∧ x13 ≤ x1 + 22) (d3 : x9 + 1 ≤ x10 ∧ x10 ≤ x9 + 1) (d4 : x6 + (-21) ≤ x10 ∧ x10 ≤ x6 + 25) (d5 : x6 + (-22) ≤ x9 ∧ x9 ≤ x6 + 24) (d6 : x7 + (-22) ≤ x8 ∧ x8 ≤ x7 + 24) (d7 : x6 + (-46) ≤ x8 ∧ x8 ≤ x6 + 23) (d8 : x6 + (-24) ≤ x7 ∧ x7 ≤ x6 + (-1)) (f1 : x14 = x1 + x3) (f3 : x13 = x1 + x2) (f4 : 1 * lineLength_0 + ((-1) * x2 + (1 * x3 + 0)) ≤ 24) (f5 : (-1) * lineLength_0 + (1 * x1 + (1 * x2 + 0)) ≤ 0) (f6 : 0 ≤ x2) (f7 : 0 ≤ x8) (f8 : x10 ≤ x11) (f9 : x10 = x9 + x3) (f10 : x9 = x6 - x2) (g11 : x6 = lineLength_0) (f12 : x8 = x7 - x2) (f13 : x7 = x6 - x1) (f14 : LNO (lineLength_0) (line_0) (order_0) (x5)) (f15 : way_0 (0) = order_0 (x5)) (f16 : (1 ≤ x1) ∧ (((x1 + x2) + 1) ≤ lineLength_0)) (f17 : x3 = 1) (hK_0_1 : ∀ j : Int, 0 ≤ j → j < 24 → 0 ≤ order_0 j ∧ order_0 j ≤ 23) (hK_0_2 : ∀ j : Int, 0 ≤ j → j < 24 → 0 ≤ line_0 j ∧ line_0 j ≤ 23) (hK_0_6 : ∀ j : Int, 0 ≤ j → j < 27 → 0 ≤ way_0 j ∧ way_0 j ≤ 23) (kz_0_3 : 0 ≤ lineLength_0 ∧ lineLength_0 ≤ 24) (ey2 : gy = lineLength_0) (ey3 : 0 ≤ gy ∧ gy ≤ 24) (eu2 : gu = x5) (eu3 : 3 ≤ gu ∧ gu ≤ 23) (ew2 : gw = x2) (ew3 : 0 ≤ gw ∧ gw ≤ 24) : CQ1 (line_0) (line_0) (order_0) (x13) (x14) (x8) (gy) (gu) (gw) := by
  first
    | (rw [show gu = x5 by omega]; exact cq1_of ‹LNO _ _ _ _› (by omega) (by omega) (by omega) (by omega) (by omega) (by omega))
  
def o_Pn_replaceInLine_at_gg_3 : or_T := (49, 15, [(0, (2, 0, 0, [7])), (1, (0, 1, 24, [])), (2, (0, 0, 22, [])), (3, (0, 1, 1, [])), (4, (2, 0, 0, [102])), (5, (0, 3, 23, [])), (6, (0, 0, 24, [])), (7, (0, -24, 23, [])), (8, (0, 0, 47, [])), (9, (0, -22, 23, [])), (10, (0, -21, 24, [])), (11, (0, 24, 24, [])), (13, (0, 1, 46, [])), (14, (0, 2, 25, []))], [(9, [4, 0], [1]), (1, [14, 1, 3], []), (9, [12, 0], [2]), (1, [13, 1, 2], []), (20, [0, 2, 3], [30, 24, 1, 1, 3, -1, 0, 0, 1, 0, 0]), (20, [0, 1, 2], [30, 0, -1, 1, 3, 1, 0, 0, 1, 0, 0]), (8, [2], [3]), (8, [8], [3]), (7, [10, 11], [5]), (1, [10, 9, 3], []), (2, [9, 6, 2], []), (9, [6, 0], [3]), (2, [8, 7, 2], []), (2, [7, 6, 1], []), (20, [0, 5], [60, 1, 2, 889, 3, 2, 1]), (20, [0, 5], [50, 0, 2, 6, 1, 1, 5, 3, 0, 6, 0, 0, 3, 0, 1, 1, 1]), (20, [1, 2, 0], [50, 1, 0, 2003, 2, 6, 0, 2, 0, 1, 1, 0, 0, 10, 4, 6, 4, 2, 1, 0, 1, 1, 0, 1, 2, 2, 3]), (20, [3], [50, 0, 0, 1, 2, 1, 0, 0, 1])], [], [(2, 0, 0, [102]), (0, 0, 24, []), (0, 3, 23, []), (0, 0, 24, [])], [(21, [13, 8], [24]), (21, [14, 8], [24]), (24, [4, 15], []), (20, [16, 0], [50, 1, 0, 1003, 1, 2, 1, 0, 2, 1, 3]), (23, [17, 5], [0, 1, -1]), (23, [17, 5], [0, -1, 1]), (23, [18, 2], [0, 1, -1]), (23, [18, 2], [0, -1, 1]), (20, [12, 12, 15, 13, 14, 8, 16, 17, 18], [61, 3, 892])], [], [(14, 1, 1, 1), (13, 2, 1, 24), (13, 1, 0, 22), (10, 9, 1, 1), (10, 6, -21, 25), (9, 6, -22, 24), (8, 7, -22, 24), (8, 6, -46, 23), (7, 6, -24, -1)])
theorem oo_Pn_replaceInLine_at_gg_3 {kA : Nat → ClassId} : or_ok PRD kA GG o_Pn_replaceInLine_at_gg_3 := by
  refine or_mk fun A ta ws vs hD hth hl => ?_
  intro t0 r0 t1 k1 t2 k2 t3 k3 t4 r4 t5 k5 t6 k6 t7 k7 t8 k8 t9 k9 t10 k10 t11 k11 t13 k13 t14 k14 d0 d1 d2 d3 d4 d5 d6 d7 d8 f0 f1 f2 f3 f4 f5 f6 f7 f8 f9 f10 f11 f12 f13 f14 f15 f16 f17
  replace f0 := shm_215 f0
  replace f1 := shm_12 f1
  replace f2 := shm_120 f2
  replace f3 := shm_12 f3
  replace f4 := shm_138 f4
  replace f5 := shm_139 f5
  replace f6 := shm_32 f6
  replace f7 := shm_32 f7
  replace f8 := shm_24 f8
  replace f9 := shm_12 f9
  replace f10 := shm_14 f10
  replace f11 := shm_137 f11
  replace f12 := shm_14 f12
  replace f13 := shm_14 f13
  replace f14 := shm_899 f14
  replace f15 := shm_900 f15
  replace f16 := shm_901 f16
  replace f17 := shm_510 f17
  have cr_0_1 := fdq_92 hD hth r0
  have cr_0_2 := fdq_227 hD hth r0
  have cr_0_6 := fdq_228 hD hth r0
  have ad_4 : v_ad (n_v vs 4) = w_ar ws (n_v vs 0) 1 := congrArg v_ad f0
  have ad_12 : v_ad (n_v vs 12) = w_ar ws (n_v vs 0) 2 := congrArg v_ad f2
  have g11 : v_iv (n_v vs 6) = w_fi ws (n_v vs 0) 3 := congrArg v_iv f11
  have hK_0_1 := elq_48 hD hth cr_0_1
  have hK_0_2 := elq_140 hD hth cr_0_2
  have hK_0_6 := elq_141 hD hth cr_0_6
  have kz_0_3 := fdq_13 hD hth r0
  obtain ⟨y, ey, hy⟩ := iv_ex (ta := ta) (lo := 0) (hi := 24) (z := w_fi ws (n_v vs 0) 3) (by omega) (by omega) (by omega) (by omega)
  have ey2 : v_iv (Value.int y) = w_fi ws (n_v vs 0) 3 := ey
  have ey3 : 0 ≤ v_iv (Value.int y) ∧ v_iv (Value.int y) ≤ 24 := tv_rng hy
  obtain ⟨u, eu, hu⟩ := iv_ex (ta := ta) (lo := 3) (hi := 23) (z := v_iv (n_v vs 5)) (by omega) (by omega) (by omega) (by omega)
  have eu2 : v_iv (Value.int u) = v_iv (n_v vs 5) := eu
  have eu3 : 3 ≤ v_iv (Value.int u) ∧ v_iv (Value.int u) ≤ 23 := tv_rng hu
  obtain ⟨w, ew, hw⟩ := iv_ex (ta := ta) (lo := 0) (hi := 24) (z := v_iv (n_v vs 2)) (by omega) (by omega) (by omega) (by omega)
  have ew2 : v_iv (Value.int w) = v_iv (n_v vs 2) := ew
  have ew3 : 0 ≤ v_iv (Value.int w) ∧ v_iv (Value.int w) ≤ 24 := tv_rng hw
  have e_0 : n_v (vs ++ [n_v vs 4, Value.int y, Value.int u, Value.int w]) 0 = n_v vs 0 := n_v_old (by rw [hl]; decide)
  have e_2 : n_v (vs ++ [n_v vs 4, Value.int y, Value.int u, Value.int w]) 2 = n_v vs 2 := n_v_old (by rw [hl]; decide)
  have e_4 : n_v (vs ++ [n_v vs 4, Value.int y, Value.int u, Value.int w]) 4 = n_v vs 4 := n_v_old (by rw [hl]; decide)
  have e_5 : n_v (vs ++ [n_v vs 4, Value.int y, Value.int u, Value.int w]) 5 = n_v vs 5 := n_v_old (by rw [hl]; decide)
  have e_8 : n_v (vs ++ [n_v vs 4, Value.int y, Value.int u, Value.int w]) 8 = n_v vs 8 := n_v_old (by rw [hl]; decide)
  have e_12 : n_v (vs ++ [n_v vs 4, Value.int y, Value.int u, Value.int w]) 12 = n_v vs 12 := n_v_old (by rw [hl]; decide)
  have e_13 : n_v (vs ++ [n_v vs 4, Value.int y, Value.int u, Value.int w]) 13 = n_v vs 13 := n_v_old (by rw [hl]; decide)
  have e_14 : n_v (vs ++ [n_v vs 4, Value.int y, Value.int u, Value.int w]) 14 = n_v vs 14 := n_v_old (by rw [hl]; decide)
  have e_15 : n_v (vs ++ [n_v vs 4, Value.int y, Value.int u, Value.int w]) 15 = n_v vs 4 := n_v_newk (k := 0) hl rfl
  have e_16 : n_v (vs ++ [n_v vs 4, Value.int y, Value.int u, Value.int w]) 16 = Value.int y := n_v_newk (k := 1) hl rfl
  have e_17 : n_v (vs ++ [n_v vs 4, Value.int y, Value.int u, Value.int w]) 17 = Value.int u := n_v_newk (k := 2) hl rfl
  have e_18 : n_v (vs ++ [n_v vs 4, Value.int y, Value.int u, Value.int w]) 18 = Value.int w := n_v_newk (k := 3) hl rfl
  have nf0 : fc_1 PRD (21, [13, 8], [24]) ws (vs ++ [n_v vs 4, Value.int y, Value.int u, Value.int w]) := by
    refine ⟨nf_inA hl rfl, sgq_140 ?_⟩
    · show v_iv (n_v (vs ++ [n_v vs 4, Value.int y, Value.int u, Value.int w]) 13) + v_iv (n_v (vs ++ [n_v vs 4, Value.int y, Value.int u, Value.int w]) 8) ≤ 24
      simp only [e_8, e_13]
      exact vc_Pn_replaceInLine_at_gg_3_0 (v_iv (n_v vs 1)) (v_iv (n_v vs 2)) (v_iv (n_v vs 3)) (v_iv (n_v vs 5)) (v_iv (n_v vs 6)) (v_iv (n_v vs 7)) (v_iv (n_v vs 8)) (v_iv (n_v vs 9)) (v_iv (n_v vs 10)) (v_iv (n_v vs 11)) (v_iv (n_v vs 13)) (v_iv (n_v vs 14)) (w_fi ws (n_v vs 0) 3) (w_ei ws (w_ar ws (n_v vs 0) 2)) (w_ei ws (w_ar ws (n_v vs 0) 1)) (w_ei ws (w_ar ws (n_v vs 0) 6)) (v_iv (Value.int y)) (v_iv (Value.int u)) (v_iv (Value.int w)) k1 k2 k3 k5 k6 k7 k8 k9 k10 k11 k13 k14 d0 d1 d2 d3 d4 d5 d6 d7 d8 f1 f3 f4 f5 f6 f7 f8 f9 f10 g11 f12 f13 f14 f15 f16 f17 hK_0_1 hK_0_2 hK_0_6 kz_0_3 ey2 ey3 eu2 eu3 ew2 ew3
  have nf1 : fc_1 PRD (21, [14, 8], [24]) ws (vs ++ [n_v vs 4, Value.int y, Value.int u, Value.int w]) := by
    refine ⟨nf_inA hl rfl, sgq_140 ?_⟩
    · show v_iv (n_v (vs ++ [n_v vs 4, Value.int y, Value.int u, Value.int w]) 14) + v_iv (n_v (vs ++ [n_v vs 4, Value.int y, Value.int u, Value.int w]) 8) ≤ 24
      simp only [e_8, e_14]
      exact vc_Pn_replaceInLine_at_gg_3_1 (v_iv (n_v vs 1)) (v_iv (n_v vs 2)) (v_iv (n_v vs 3)) (v_iv (n_v vs 5)) (v_iv (n_v vs 6)) (v_iv (n_v vs 7)) (v_iv (n_v vs 8)) (v_iv (n_v vs 9)) (v_iv (n_v vs 10)) (v_iv (n_v vs 11)) (v_iv (n_v vs 13)) (v_iv (n_v vs 14)) (w_fi ws (n_v vs 0) 3) (w_ei ws (w_ar ws (n_v vs 0) 2)) (w_ei ws (w_ar ws (n_v vs 0) 1)) (w_ei ws (w_ar ws (n_v vs 0) 6)) (v_iv (Value.int y)) (v_iv (Value.int u)) (v_iv (Value.int w)) k1 k2 k3 k5 k6 k7 k8 k9 k10 k11 k13 k14 d0 d1 d2 d3 d4 d5 d6 d7 d8 f1 f3 f4 f5 f6 f7 f8 f9 f10 g11 f12 f13 f14 f15 f16 f17 hK_0_1 hK_0_2 hK_0_6 kz_0_3 ey2 ey3 eu2 eu3 ew2 ew3
  have nf2 : fc_1 PRD (24, [4, 15], []) ws (vs ++ [n_v vs 4, Value.int y, Value.int u, Value.int w]) := by
    refine ⟨nf_inA hl rfl, sgq_5 ?_⟩
    · show n_v (vs ++ [n_v vs 4, Value.int y, Value.int u, Value.int w]) 4 = n_v (vs ++ [n_v vs 4, Value.int y, Value.int u, Value.int w]) 15
      first | rfl | simp only [e_4, e_15]
  have nf3 : fc_1 PRD (20, [16, 0], [50, 1, 0, 1003, 1, 2, 1, 0, 2, 1, 3]) ws (vs ++ [n_v vs 4, Value.int y, Value.int u, Value.int w]) := by
    refine ⟨nf_inA hl rfl, sgq_903 ?_⟩
    · show v_iv (n_v (vs ++ [n_v vs 4, Value.int y, Value.int u, Value.int w]) 16) = w_fi ws (n_v (vs ++ [n_v vs 4, Value.int y, Value.int u, Value.int w]) 0) 3
      simp only [e_0, e_16]
      exact vc_Pn_replaceInLine_at_gg_3_3 (v_iv (n_v vs 1)) (v_iv (n_v vs 2)) (v_iv (n_v vs 3)) (v_iv (n_v vs 5)) (v_iv (n_v vs 6)) (v_iv (n_v vs 7)) (v_iv (n_v vs 8)) (v_iv (n_v vs 9)) (v_iv (n_v vs 10)) (v_iv (n_v vs 11)) (v_iv (n_v vs 13)) (v_iv (n_v vs 14)) (w_fi ws (n_v vs 0) 3) (w_ei ws (w_ar ws (n_v vs 0) 2)) (w_ei ws (w_ar ws (n_v vs 0) 1)) (w_ei ws (w_ar ws (n_v vs 0) 6)) (v_iv (Value.int y)) (v_iv (Value.int u)) (v_iv (Value.int w)) k1 k2 k3 k5 k6 k7 k8 k9 k10 k11 k13 k14 d0 d1 d2 d3 d4 d5 d6 d7 d8 f1 f3 f4 f5 f6 f7 f8 f9 f10 g11 f12 f13 f14 f15 f16 f17 hK_0_1 hK_0_2 hK_0_6 kz_0_3 ey2 ey3 eu2 eu3 ew2 ew3
  have nf4 : fc_1 PRD (23, [17, 5], [0, 1, -1]) ws (vs ++ [n_v vs 4, Value.int y, Value.int u, Value.int w]) := by
    refine ⟨nf_inA hl rfl, sgq_7 ?_⟩
    · show 1 * v_iv (n_v (vs ++ [n_v vs 4, Value.int y, Value.int u, Value.int w]) 17) + ((-1) * v_iv (n_v (vs ++ [n_v vs 4, Value.int y, Value.int u, Value.int w]) 5) + 0) ≤ 0
      simp only [e_5, e_17]
      exact vc_Pn_replaceInLine_at_gg_3_4 (v_iv (n_v vs 1)) (v_iv (n_v vs 2)) (v_iv (n_v vs 3)) (v_iv (n_v vs 5)) (v_iv (n_v vs 6)) (v_iv (n_v vs 7)) (v_iv (n_v vs 8)) (v_iv (n_v vs 9)) (v_iv (n_v vs 10)) (v_iv (n_v vs 11)) (v_iv (n_v vs 13)) (v_iv (n_v vs 14)) (w_fi ws (n_v vs 0) 3) (w_ei ws (w_ar ws (n_v vs 0) 2)) (w_ei ws (w_ar ws (n_v vs 0) 1)) (w_ei ws (w_ar ws (n_v vs 0) 6)) (v_iv (Value.int y)) (v_iv (Value.int u)) (v_iv (Value.int w)) k1 k2 k3 k5 k6 k7 k8 k9 k10 k11 k13 k14 d0 d1 d2 d3 d4 d5 d6 d7 d8 f1 f3 f4 f5 f6 f7 f8 f9 f10 g11 f12 f13 f14 f15 f16 f17 hK_0_1 hK_0_2 hK_0_6 kz_0_3 ey2 ey3 eu2 eu3 ew2 ew3
  have nf5 : fc_1 PRD (23, [17, 5], [0, -1, 1]) ws (vs ++ [n_v vs 4, Value.int y, Value.int u, Value.int w]) := by
    refine ⟨nf_inA hl rfl, sgq_22 ?_⟩
    · show (-1) * v_iv (n_v (vs ++ [n_v vs 4, Value.int y, Value.int u, Value.int w]) 17) + (1 * v_iv (n_v (vs ++ [n_v vs 4, Value.int y, Value.int u, Value.int w]) 5) + 0) ≤ 0
      simp only [e_5, e_17]
      exact vc_Pn_replaceInLine_at_gg_3_5 (v_iv (n_v vs 1)) (v_iv (n_v vs 2)) (v_iv (n_v vs 3)) (v_iv (n_v vs 5)) (v_iv (n_v vs 6)) (v_iv (n_v vs 7)) (v_iv (n_v vs 8)) (v_iv (n_v vs 9)) (v_iv (n_v vs 10)) (v_iv (n_v vs 11)) (v_iv (n_v vs 13)) (v_iv (n_v vs 14)) (w_fi ws (n_v vs 0) 3) (w_ei ws (w_ar ws (n_v vs 0) 2)) (w_ei ws (w_ar ws (n_v vs 0) 1)) (w_ei ws (w_ar ws (n_v vs 0) 6)) (v_iv (Value.int y)) (v_iv (Value.int u)) (v_iv (Value.int w)) k1 k2 k3 k5 k6 k7 k8 k9 k10 k11 k13 k14 d0 d1 d2 d3 d4 d5 d6 d7 d8 f1 f3 f4 f5 f6 f7 f8 f9 f10 g11 f12 f13 f14 f15 f16 f17 hK_0_1 hK_0_2 hK_0_6 kz_0_3 ey2 ey3 eu2 eu3 ew2 ew3
  have nf6 : fc_1 PRD (23, [18, 2], [0, 1, -1]) ws (vs ++ [n_v vs 4, Value.int y, Value.int u, Value.int w]) := by
    refine ⟨nf_inA hl rfl, sgq_7 ?_⟩
    · show 1 * v_iv (n_v (vs ++ [n_v vs 4, Value.int y, Value.int u, Value.int w]) 18) + ((-1) * v_iv (n_v (vs ++ [n_v vs 4, Value.int y, Value.int u, Value.int w]) 2) + 0) ≤ 0
      simp only [e_2, e_18]
      exact vc_Pn_replaceInLine_at_gg_3_6 (v_iv (n_v vs 1)) (v_iv (n_v vs 2)) (v_iv (n_v vs 3)) (v_iv (n_v vs 5)) (v_iv (n_v vs 6)) (v_iv (n_v vs 7)) (v_iv (n_v vs 8)) (v_iv (n_v vs 9)) (v_iv (n_v vs 10)) (v_iv (n_v vs 11)) (v_iv (n_v vs 13)) (v_iv (n_v vs 14)) (w_fi ws (n_v vs 0) 3) (w_ei ws (w_ar ws (n_v vs 0) 2)) (w_ei ws (w_ar ws (n_v vs 0) 1)) (w_ei ws (w_ar ws (n_v vs 0) 6)) (v_iv (Value.int y)) (v_iv (Value.int u)) (v_iv (Value.int w)) k1 k2 k3 k5 k6 k7 k8 k9 k10 k11 k13 k14 d0 d1 d2 d3 d4 d5 d6 d7 d8 f1 f3 f4 f5 f6 f7 f8 f9 f10 g11 f12 f13 f14 f15 f16 f17 hK_0_1 hK_0_2 hK_0_6 kz_0_3 ey2 ey3 eu2 eu3 ew2 ew3
  have nf7 : fc_1 PRD (23, [18, 2], [0, -1, 1]) ws (vs ++ [n_v vs 4, Value.int y, Value.int u, Value.int w]) := by
    refine ⟨nf_inA hl rfl, sgq_22 ?_⟩
    · show (-1) * v_iv (n_v (vs ++ [n_v vs 4, Value.int y, Value.int u, Value.int w]) 18) + (1 * v_iv (n_v (vs ++ [n_v vs 4, Value.int y, Value.int u, Value.int w]) 2) + 0) ≤ 0
      simp only [e_2, e_18]
      exact vc_Pn_replaceInLine_at_gg_3_7 (v_iv (n_v vs 1)) (v_iv (n_v vs 2)) (v_iv (n_v vs 3)) (v_iv (n_v vs 5)) (v_iv (n_v vs 6)) (v_iv (n_v vs 7)) (v_iv (n_v vs 8)) (v_iv (n_v vs 9)) (v_iv (n_v vs 10)) (v_iv (n_v vs 11)) (v_iv (n_v vs 13)) (v_iv (n_v vs 14)) (w_fi ws (n_v vs 0) 3) (w_ei ws (w_ar ws (n_v vs 0) 2)) (w_ei ws (w_ar ws (n_v vs 0) 1)) (w_ei ws (w_ar ws (n_v vs 0) 6)) (v_iv (Value.int y)) (v_iv (Value.int u)) (v_iv (Value.int w)) k1 k2 k3 k5 k6 k7 k8 k9 k10 k11 k13 k14 d0 d1 d2 d3 d4 d5 d6 d7 d8 f1 f3 f4 f5 f6 f7 f8 f9 f10 g11 f12 f13 f14 f15 f16 f17 hK_0_1 hK_0_2 hK_0_6 kz_0_3 ey2 ey3 eu2 eu3 ew2 ew3
  have nf8 : fc_1 PRD (20, [12, 12, 15, 13, 14, 8, 16, 17, 18], [61, 3, 892]) ws (vs ++ [n_v vs 4, Value.int y, Value.int u, Value.int w]) := by
    refine ⟨nf_inA hl rfl, sgq_904 ?_⟩
    · show CQ1 (w_ei ws (v_ad (n_v (vs ++ [n_v vs 4, Value.int y, Value.int u, Value.int w]) 12))) (w_ei ws (v_ad (n_v (vs ++ [n_v vs 4, Value.int y, Value.int u, Value.int w]) 12))) (w_ei ws (v_ad (n_v (vs ++ [n_v vs 4, Value.int y, Value.int u, Value.int w]) 15))) (v_iv (n_v (vs ++ [n_v vs 4, Value.int y, Value.int u, Value.int w]) 13)) (v_iv (n_v (vs ++ [n_v vs 4, Value.int y, Value.int u, Value.int w]) 14)) (v_iv (n_v (vs ++ [n_v vs 4, Value.int y, Value.int u, Value.int w]) 8)) (v_iv (n_v (vs ++ [n_v vs 4, Value.int y, Value.int u, Value.int w]) 16)) (v_iv (n_v (vs ++ [n_v vs 4, Value.int y, Value.int u, Value.int w]) 17)) (v_iv (n_v (vs ++ [n_v vs 4, Value.int y, Value.int u, Value.int w]) 18))
      simp only [e_8, e_12, e_13, e_14, e_15, e_16, e_17, e_18, ad_4, ad_12]
      exact vc_Pn_replaceInLine_at_gg_3_8 (v_iv (n_v vs 1)) (v_iv (n_v vs 2)) (v_iv (n_v vs 3)) (v_iv (n_v vs 5)) (v_iv (n_v vs 6)) (v_iv (n_v vs 7)) (v_iv (n_v vs 8)) (v_iv (n_v vs 9)) (v_iv (n_v vs 10)) (v_iv (n_v vs 11)) (v_iv (n_v vs 13)) (v_iv (n_v vs 14)) (w_fi ws (n_v vs 0) 3) (w_ei ws (w_ar ws (n_v vs 0) 2)) (w_ei ws (w_ar ws (n_v vs 0) 1)) (w_ei ws (w_ar ws (n_v vs 0) 6)) (v_iv (Value.int y)) (v_iv (Value.int u)) (v_iv (Value.int w)) k1 k2 k3 k5 k6 k7 k8 k9 k10 k11 k13 k14 d0 d1 d2 d3 d4 d5 d6 d7 d8 f1 f3 f4 f5 f6 f7 f8 f9 f10 g11 f12 f13 f14 f15 f16 f17 hK_0_1 hK_0_2 hK_0_6 kz_0_3 ey2 ey3 eu2 eu3 ew2 ew3
  exact ⟨(fun _ h => (by cases h)), [n_v vs 4, Value.int y, Value.int u, Value.int w], ag_four t4 hy hu hw, List.forall_mem_cons.mpr ⟨⟨show (21 : Nat) < 100 from by decide, nf0⟩, List.forall_mem_cons.mpr ⟨⟨show (21 : Nat) < 100 from by decide, nf1⟩, List.forall_mem_cons.mpr ⟨⟨show (24 : Nat) < 100 from by decide, nf2⟩, List.forall_mem_cons.mpr ⟨⟨show (20 : Nat) < 100 from by decide, nf3⟩, List.forall_mem_cons.mpr ⟨⟨show (23 : Nat) < 100 from by decide, nf4⟩, List.forall_mem_cons.mpr ⟨⟨show (23 : Nat) < 100 from by decide, nf5⟩, List.forall_mem_cons.mpr ⟨⟨show (23 : Nat) < 100 from by decide, nf6⟩, List.forall_mem_cons.mpr ⟨⟨show (23 : Nat) < 100 from by decide, nf7⟩, List.forall_mem_cons.mpr ⟨⟨show (20 : Nat) < 100 from by decide, nf8⟩, (fun _ h => (by cases h))⟩⟩⟩⟩⟩⟩⟩⟩⟩, (fun _ h => (by cases h))⟩
set_option maxHeartbeats 4000000 in
theorem vc_Pn_replaceInLine_at_gg_4_0 (x1 : Int) (x2 : Int) (x3 : Int) (x5 : Int) (x6 : Int) (x7 : Int) (x8 : Int) (x9 : Int) (x10 : Int) (x11 : Int) (x13 : Int) (x14 : Int) (x16 : Int) (x17 : Int) (x18 : Int) (x20 : Int) (lineLength_0 : Int) (way_0 : Int → Int) (order_0 : Int → Int) (a12_0 : Int → Int) (gy : Int) (gu : Int) (gw : Int) (k1 : 1 ≤ x1 ∧ x1 ≤ 24) (k2 : 0 ≤ x2 ∧ x2 ≤ 22) (k3 : 1 ≤ x3 ∧ x3 ≤ 1) (k5 : 3 ≤ x5 ∧ x5 ≤ 23) (k6 : 0 ≤ x6 ∧ x6 ≤ 24) (k7 : (-24) ≤ x7 ∧ x7 ≤ 23) (k8 : 0 ≤ x8 ∧ x8 ≤ 47) (k9 : (-22) ≤ x9 ∧ x9 ≤ 23) (k10 : (-21) ≤ x10 ∧ x10 ≤ 24) (k11 : 24 ≤ x11 ∧ x11 ≤ 24) (k13 : 1 ≤ x13 ∧ x13 ≤ 46) (k14 : 2 ≤ x14 ∧ x14 ≤ 25) (k16 : 0 ≤ x16 ∧ x16 ≤ 24) (k17 : 3 ≤ x17 ∧ x17 ≤ 23) (k18 : 0 ≤ x18 ∧ x18 ≤ 24) (k20 : 0 ≤ x20 ∧ x20 ≤ 0) (d0 : x1 + 1 ≤ x14 ∧ x14 ≤ x1 + 1) (d1 : x2 + 1 ≤ x13 ∧ x13 ≤ x2 + 24) (d2 : x1 + 0 ≤ x13 ∧ x13 ≤ x1 + 22) (d3 : x9 + 1 ≤ x10 ∧ x10 ≤ x9 + 1) (d4 : x6 + (-21) ≤ x10 ∧ x10 ≤ x6 + 25) (d5 : x6 + (-22) ≤ x9 ∧ x9 ≤ x6 + 24) (d6 : x7 + (-22) ≤ x8 ∧ x8 ≤ x7 + 24) (d7 : x6 + (-46) ≤ x8 ∧ x8 ≤ x6 + 23) (d8 : x6 + (-24) ≤ x7 ∧ x7 ≤ x6 + (-1)) (g0 : x6 = lineLength_0) (f3 : x13 + x8 ≤ 24) (f4 : x14 + x8 ≤ 24) (f6 : x16 = lineLength_0) (f7 : 1 * x17 + ((-1) * x5 + 0) ≤ 0) (f8 : (-1) * x17 + (1 * x5 + 0) ≤ 0) (f9 : 1 * x18 + ((-1) * x2 + 0) ≤ 0) (f10 : (-1) * x18 + (1 * x2 + 0) ≤ 0) (f11 : 1 * lineLength_0 + ((-1) * x2 + (1 * x3 + 0)) ≤ 24) (f12 : (-1) * lineLength_0 + (1 * x1 + (1 * x2 + 0)) ≤ 0) (f13 : way_0 (0) = order_0 (x5)) (f14 : (1 ≤ x1) ∧ (((x1 + x2) + 1) ≤ lineLength_0)) (f15 : x3 = 1) (f16 : CQ2 (a12_0) (a12_0) (order_0) (x13) (x14) (x8) (x16) (x17) (x18)) (f18 : x13 + x8 ≤ 24) (f19 : x14 + x8 ≤ 24) (f20 : 1 * x17 + ((-1) * x5 + 0) ≤ 0) (f21 : (-1) * x17 + (1 * x5 + 0) ≤ 0) (f22 : 1 * x18 + ((-1) * x2 + 0) ≤ 0) (f23 : (-1) * x18 + (1 * x2 + 0) ≤ 0) (f24 : x14 = x1 + x3) (f25 : x13 = x1 + x2) (f26 : 0 ≤ x2) (f27 : 0 ≤ x8) (f28 : x10 ≤ x11) (f29 : x10 = x9 + x3) (f30 : x9 = x6 - x2) (f31 : x8 = x7 - x2) (f32 : x7 = x6 - x1) (hK_0_1 : ∀ j : Int, 0 ≤ j → j < 24 → 0 ≤ order_0 j ∧ order_0 j ≤ 23) (hK_0_6 : ∀ j : Int, 0 ≤ j → j < 27 → 0 ≤ way_0 j ∧ way_0 j ≤ 23) (hK_12_999 : ∀ j : Int, 0 ≤ j → j < 24 → 0 ≤ a12_0 j ∧ a12_0 j ≤ 23) (kz_0_3 : 0 ≤ lineLength_0 ∧ lineLength_0 ≤ 24) (ey2 : gy = lineLength_0) (ey3 : 0 ≤ gy ∧ gy ≤ 24) (eu2 : gu = x5) (eu3 : 3 ≤ gu ∧ gu ≤ 23) (ew2 : gw = x2) (ew3 : 0 ≤ gw ∧ gw ≤ 24) : x20 + x3 ≤ 27 := by
  first
    | omega
    | (exfalso; have h := lni_room ‹OFL _ _ _ _› ‹EWJ _ _ _ _› (by omega); omega)
    | (have h := (‹LNO _ _ _ _›).1; omega)
  
set_option maxHeartbeats 4000000 in
theorem vc_Pn_replaceInLine_at_gg_4_1 (x1 : Int) (x2 : Int) (x3 : Int) (x5 : Int) (x6 : Int) (x7 : Int) (x8 : Int) (x9 : Int) (x10 : Int) (x11 : Int) (x13 : Int) (x14 : Int) (x16 : Int) (x17 : Int) (x18 : Int) (x20 : Int) (lineLength_0 : Int) (way_0 : Int → Int) (order_0 : Int → Int) (a12_0 : Int → Int) (gy : Int) (gu : Int) (gw : Int) (k1 : 1 ≤ x1 ∧ x1 ≤ 24) (k2 : 0 ≤ x2 ∧ x2 ≤ 22) (k3 : 1 ≤ x3 ∧ x3 ≤ 1) (k5 : 3 ≤ x5 ∧ x5 ≤ 23) (k6 : 0 ≤ x6 ∧ x6 ≤ 24) (k7 : (-24) ≤ x7 ∧ x7 ≤ 23) (k8 : 0 ≤ x8 ∧ x8 ≤ 47) (k9 : (-22) ≤ x9 ∧ x9 ≤ 23) (k10 : (-21) ≤ x10 ∧ x10 ≤ 24) (k11 : 24 ≤ x11 ∧ x11 ≤ 24) (k13 : 1 ≤ x13 ∧ x13 ≤ 46) (k14 : 2 ≤ x14 ∧ x14 ≤ 25) (k16 : 0 ≤ x16 ∧ x16 ≤ 24) (k17 : 3 ≤ x17 ∧ x17 ≤ 23) (k18 : 0 ≤ x18 ∧ x18 ≤ 24) (k20 : 0 ≤ x20 ∧ x20 ≤ 0) (d0 : x1 + 1 ≤ x14 ∧ x14 ≤ x1 + 1) (d1 : x2 + 1 ≤ x13 ∧ x13 ≤ x2 + 24) (d2 : x1 + 0 ≤ x13 ∧ x13 ≤ x1 + 22) (d3 : x9 + 1 ≤ x10 ∧ x10 ≤ x9 + 1) (d4 : x6 + (-21) ≤ x10 ∧ x10 ≤ x6 + 25) (d5 : x6 + (-22) ≤ x9 ∧ x9 ≤ x6 + 24) (d6 : x7 + (-22) ≤ x8 ∧ x8 ≤ x7 + 24) (d7 : x6 + (-46) ≤ x8 ∧ x8 ≤ x6 + 23) (d8 : x6 + (-24) ≤ x7 ∧ x7 ≤ x6 + (-1)) (g0 : x6 = lineLength_0) (f3 : x13 + x8 ≤ 24) (f4 : x14 + x8 ≤ 24) (f6 : x16 = lineLength_0) (f7 : 1 * x17 + ((-1) * x5 + 0) ≤ 0) (f8 : (-1) * x17 + (1 * x5 + 0) ≤ 0) (f9 : 1 * x18 + ((-1) * x2 + 0) ≤ 0) (f10 : (-1) * x18 + (1 * x2 + 0) ≤ 0) (f11 : 1 * lineLength_0 + ((-1) * x2 + (1 * x3 + 0)) ≤ 24) (f12 : (-1) * lineLength_0 + (1 * x1 + (1 * x2 + 0)) ≤ 0) (f13 : way_0 (0) = order_0 (x5)) (f14 : (1 ≤ x1) ∧ (((x1 + x2) + 1) ≤ lineLength_0)) (f15 : x3 = 1) (f16 : CQ2 (a12_0) (a12_0) (order_0) (x13) (x14) (x8) (x16) (x17) (x18)) (f18 : x13 + x8 ≤ 24) (f19 : x14 + x8 ≤ 24) (f20 : 1 * x17 + ((-1) * x5 + 0) ≤ 0) (f21 : (-1) * x17 + (1 * x5 + 0) ≤ 0) (f22 : 1 * x18 + ((-1) * x2 + 0) ≤ 0) (f23 : (-1) * x18 + (1 * x2 + 0) ≤ 0) (f24 : x14 = x1 + x3) (f25 : x13 = x1 + x2) (f26 : 0 ≤ x2) (f27 : 0 ≤ x8) (f28 : x10 ≤ x11) (f29 : x10 = x9 + x3) (f30 : x9 = x6 - x2) (f31 : x8 = x7 - x2) (f32 : x7 = x6 - x1) (hK_0_1 : ∀ j : Int, 0 ≤ j → j < 24 → 0 ≤ order_0 j ∧ order_0 j ≤ 23) (hK_0_6 : ∀ j : Int, 0 ≤ j → j < 27 → 0 ≤ way_0 j ∧ way_0 j ≤ 23) (hK_12_999 : ∀ j : Int, 0 ≤ j → j < 24 → 0 ≤ a12_0 j ∧ a12_0 j ≤ 23) (kz_0_3 : 0 ≤ lineLength_0 ∧ lineLength_0 ≤ 24) (ey2 : gy = lineLength_0) (ey3 : 0 ≤ gy ∧ gy ≤ 24) (eu2 : gu = x5) (eu3 : 3 ≤ gu ∧ gu ≤ 23) (ew2 : gw = x2) (ew3 : 0 ≤ gw ∧ gw ≤ 24) : x1 + x3 ≤ 24 := by
  first
    | omega
    | (exfalso; have h := lni_room ‹OFL _ _ _ _› ‹EWJ _ _ _ _› (by omega); omega)
    | (have h := (‹LNO _ _ _ _›).1; omega)
  
set_option maxHeartbeats 4000000 in
theorem vc_Pn_replaceInLine_at_gg_4_3 (x1 : Int) (x2 : Int) (x3 : Int) (x5 : Int) (x6 : Int) (x7 : Int) (x8 : Int) (x9 : Int) (x10 : Int) (x11 : Int) (x13 : Int) (x14 : Int) (x16 : Int) (x17 : Int) (x18 : Int) (x20 : Int) (lineLength_0 : Int) (way_0 : Int → Int) (order_0 : Int → Int) (a12_0 : Int → Int) (gy : Int) (gu : Int) (gw : Int) (k1 : 1 ≤ x1 ∧ x1 ≤ 24) (k2 : 0 ≤ x2 ∧ x2 ≤ 22) (k3 : 1 ≤ x3 ∧ x3 ≤ 1) (k5 : 3 ≤ x5 ∧ x5 ≤ 23) (k6 : 0 ≤ x6 ∧ x6 ≤ 24) (k7 : (-24) ≤ x7 ∧ x7 ≤ 23) (k8 : 0 ≤ x8 ∧ x8 ≤ 47) (k9 : (-22) ≤ x9 ∧ x9 ≤ 23) (k10 : (-21) ≤ x10 ∧ x10 ≤ 24) (k11 : 24 ≤ x11 ∧ x11 ≤ 24) (k13 : 1 ≤ x13 ∧ x13 ≤ 46) (k14 : 2 ≤ x14 ∧ x14 ≤ 25) (k16 : 0 ≤ x16 ∧ x16 ≤ 24) (k17 : 3 ≤ x17 ∧ x17 ≤ 23) (k18 : 0 ≤ x18 ∧ x18 ≤ 24) (k20 : 0 ≤ x20 ∧ x20 ≤ 0) (d0 : x1 + 1 ≤ x14 ∧ x14 ≤ x1 + 1) (d1 : x2 + 1 ≤ x13 ∧ x13 ≤ x2 + 24) (d2 : x1 + 0 ≤ x13 ∧ x13 ≤ x1 + 22) (d3 : x9 + 1 ≤ x10 ∧ x10 ≤ x9 + 1) (d4 : x6 + (-21) ≤ x10 ∧ x10 ≤ x6 + 25) (d5 : x6 + (-22) ≤ x9 ∧ x9 ≤ x6 + 24) (d6 : x7 + (-22) ≤ x8 ∧ x8 ≤ x7 + 24) (d7 : x6 + (-46) ≤ x8 ∧ x8 ≤ x6 + 23) (d8 : x6 + (-24) ≤ x7 ∧ x7 ≤ x6 + (-1)) (g0 : x6 = lineLength_0) (f3 : x13 + x8 ≤ 24) (f4 : x14 + x8 ≤ 24) (f6 : x16 = lineLength_0) (f7 : 1 * x17 + ((-1) * x5 + 0) ≤ 0) (f8 : (-1) * x17 + (1 * x5 + 0) ≤ 0) (f9 : 1 * x18 + ((-1) * x2 + 0) ≤ 0) (f10 : (-1) * x18 + (1 * x2 + 0) ≤ 0) (f11 : 1 * lineLength_0 + ((-1) * x2 + (1 * x3 + 0)) ≤ 24) (f12 : (-1) * lineLength_0 + (1 * x1 + (1 * x2 + 0)) ≤ 0) (f13 : way_0 (0) = order_0 (x5)) (f14 : (1 ≤ x1) ∧ (((x1 + x2) + 1) ≤ lineLength_0)) (f15 : x3 = 1) (f16 : CQ2 (a12_0) (a12_0) (order_0) (x13) (x14) (x8) (x16) (x17) (x18)) (f18 : x13 + x8 ≤ 24) (f19 : x14 + x8 ≤ 24) (f20 : 1 * x17 + ((-1) * x5 + 0) ≤ 0) (f21 : (-1) * x17 + (1 * x5 + 0) ≤ 0) (f22 : 1 * x18 + ((-1) * x2 + 0) ≤ 0) (f23 : (-1) * x18 + (1 * x2 + 0) ≤ 0) (f24 : x14 = x1 + x3) (f25 : x13 = x1 + x2) (f26 : 0 ≤ x2) (f27 : 0 ≤ x8) (f28 : x10 ≤ x11) (f29 : x10 = x9 + x3) (f30 : x9 = x6 - x2) (f31 : x8 = x7 - x2) (f32 : x7 = x6 - x1) (hK_0_1 : ∀ j : Int, 0 ≤ j → j < 24 → 0 ≤ order_0 j ∧ order_0 j ≤ 23) (hK_0_6 : ∀ j : Int, 0 ≤ j → j < 27 → 0 ≤ way_0 j ∧ way_0 j ≤ 23) (hK_12_999 : ∀ j : Int, 0 ≤ j → j < 24 → 0 ≤ a12_0 j ∧ a12_0 j ≤ 23) (kz_0_3 : 0 ≤ lineLength_0 ∧ lineLength_0 ≤ 24) (ey2 : gy = lineLength_0) (ey3 : 0 ≤ gy ∧ gy ≤ 24) (eu2 : gu = x5) (eu3 : 3 ≤ gu ∧ gu ≤ 23) (ew2 : gw = x2) (ew3 : 0 ≤ gw ∧ gw ≤ 24) : gy = lineLength_0 := by
  first
    | omega
    | (exfalso; have h := lni_room ‹OFL _ _ _ _› ‹EWJ _ _ _ _› (by omega); omega)
    | (have h := (‹LNO _ _ _ _›).1; omega)
  
set_option maxHeartbeats 4000000 in
theorem vc_Pn_replaceInLine_at_gg_4_4 (x1 : Int) (x2 : Int) (x3 : Int) (x5 : Int) (x6 : Int) (x7 : Int) (x8 : Int) (x9 : Int) (x10 : Int) (x11 : Int) (x13 : Int) (x14 : Int) (x16 : Int) (x17 : Int) (x18 : Int) (x20 : Int) (lineLength_0 : Int) (way_0 : Int → Int) (order_0 : Int → Int) (a12_0 : Int → Int) (gy : Int) (gu : Int) (gw : Int) (k1 : 1 ≤ x1 ∧ x1 ≤ 24) (k2 : 0 ≤ x2 ∧ x2 ≤ 22) (k3 : 1 ≤ x3 ∧ x3 ≤ 1) (k5 : 3 ≤ x5 ∧ x5 ≤ 23) (k6 : 0 ≤ x6 ∧ x6 ≤ 24) (k7 : (-24) ≤ x7 ∧ x7 ≤ 23) (k8 : 0 ≤ x8 ∧ x8 ≤ 47) (k9 : (-22) ≤ x9 ∧ x9 ≤ 23) (k10 : (-21) ≤ x10 ∧ x10 ≤ 24) (k11 : 24 ≤ x11 ∧ x11 ≤ 24) (k13 : 1 ≤ x13 ∧ x13 ≤ 46) (k14 : 2 ≤ x14 ∧ x14 ≤ 25) (k16 : 0 ≤ x16 ∧ x16 ≤ 24) (k17 : 3 ≤ x17 ∧ x17 ≤ 23) (k18 : 0 ≤ x18 ∧ x18 ≤ 24) (k20 : 0 ≤ x20 ∧ x20 ≤ 0) (d0 : x1 + 1 ≤ x14 ∧ x14 ≤ x1 + 1) (d1 : x2 + 1 ≤ x13 ∧ x13 ≤ x2 + 24) (d2 : x1 + 0 ≤ x13 ∧ x13 ≤ x1 + 22) (d3 : x9 + 1 ≤ x10 ∧ x10 ≤ x9 + 1) (d4 : x6 + (-21) ≤ x10 ∧ x10 ≤ x6 + 25) (d5 : x6 + (-22) ≤ x9 ∧ x9 ≤ x6 + 24) (d6 : x7 + (-22) ≤ x8 ∧ x8 ≤ x7 + 24) (d7 : x6 + (-46) ≤ x8 ∧ x8 ≤ x6 + 23) (d8 : x6 + (-24) ≤ x7 ∧ x7 ≤ x6 + (-1)) (g0 : x6 = lineLength_0) (f3 : x13 + x8 ≤ 24) (f4 : x14 + x8 ≤ 24) (f6 : x16 = lineLength_0) (f7 : 1 * x17 + ((-1) * x5 + 0) ≤ 0) (f8 : (-1) * x17 + (1 * x5 + 0) ≤ 0) (f9 : 1 * x18 + ((-1) * x2 + 0) ≤ 0) (f10 : (-1) * x18 + (1 * x2 + 0) ≤ 0) (f11 : 1 * lineLength_0 + ((-1) * x2 + (1 * x3 + 0)) ≤ 24) (f12 : (-1) * lineLength_0 + (1 * x1 + (1 * x2 + 0)) ≤ 0) (f13 : way_0 (0) = order_0 (x5)) (f14 : (1 ≤ x1) ∧ (((x1 + x2) + 1) ≤ lineLength_0)) (f15 : x3 = 1) (f16 : CQ2 (a12_0) (a12_0) (order_0) (x13) (x14) (x8) (x16) (x17) (x18)) (f18 : x13 + x8 ≤ 24) (f19 : x14 + x8 ≤ 24) (f20 : 1 * x17 + ((-1) * x5 + 0) ≤ 0) (f21 : (-1) * x17 + (1 * x5 + 0) ≤ 0) (f22 : 1 * x18 + ((-1) * x2 + 0) ≤ 0) (f23 : (-1) * x18 + (1 * x2 + 0) ≤ 0) (f24 : x14 = x1 + x3) (f25 : x13 = x1 + x2) (f26 : 0 ≤ x2) (f27 : 0 ≤ x8) (f28 : x10 ≤ x11) (f29 : x10 = x9 + x3) (f30 : x9 = x6 - x2) (f31 : x8 = x7 - x2) (f32 : x7 = x6 - x1) (hK_0_1 : ∀ j : Int, 0 ≤ j → j < 24 → 0 ≤ order_0 j ∧ order_0 j ≤ 23) (hK_0_6 : ∀ j : Int, 0 ≤ j → j < 27 → 0 ≤ way_0 j ∧ way_0 j ≤ 23) (hK_12_999 : ∀ j : Int, 0 ≤ j → j < 24 → 0 ≤ a12_0 j ∧ a12_0 j ≤ 23) (kz_0_3 : 0 ≤ lineLength_0 ∧ lineLength_0 ≤ 24) (ey2 : gy = lineLength_0) (ey3 : 0 ≤ gy ∧ gy ≤ 24) (eu2 : gu = x5) (eu3 : 3 ≤ gu ∧ gu ≤ 23) (ew2 : gw = x2) (ew3 : 0 ≤ gw ∧ gw ≤ 24) : 1 * gu + ((-1) * x5 + 0) ≤ 0 := by
  first
    | omega
    | (exfalso; have h := lni_room ‹OFL _ _ _ _› ‹EWJ _ _ _ _› (by omega); omega)
    | (have h := (‹LNO _ _ _ _›).1; omega)
  
set_option maxHeartbeats 4000000 in
theorem vc_Pn_replaceInLine_at_gg_4_5 (x1 : Int) (x2 : Int) (x3 : Int) (x5 : Int) (x6 : Int) (x7 : Int) (x8 : Int) (x9 : Int) (x10 : Int) (x11 : Int) (x13 : Int) (x14 : Int) (x16 : Int) (x17 : Int) (x18 : Int) (x20 : Int) (lineLength_0 : Int) (way_0 : Int → Int) (order_0 : Int → Int) (a12_0 : Int → Int) (gy : Int) (gu : Int) (gw : Int) (k1 : 1 ≤ x1 ∧ x1 ≤ 24) (k2 : 0 ≤ x2 ∧ x2 ≤ 22) (k3 : 1 ≤ x3 ∧ x3 ≤ 1) (k5 : 3 ≤ x5 ∧ x5 ≤ 23) (k6 : 0 ≤ x6 ∧ x6 ≤ 24) (k7 : (-24) ≤ x7 ∧ x7 ≤ 23) (k8 : 0 ≤ x8 ∧ x8 ≤ 47) (k9 : (-22) ≤ x9 ∧ x9 ≤ 23) (k10 : (-21) ≤ x10 ∧ x10 ≤ 24) (k11 : 24 ≤ x11 ∧ x11 ≤ 24) (k13 : 1 ≤ x13 ∧ x13 ≤ 46) (k14 : 2 ≤ x14 ∧ x14 ≤ 25) (k16 : 0 ≤ x16 ∧ x16 ≤ 24) (k17 : 3 ≤ x17 ∧ x17 ≤ 23) (k18 : 0 ≤ x18 ∧ x18 ≤ 24) (k20 : 0 ≤ x20 ∧ x20 ≤ 0) (d0 : x1 + 1 ≤ x14 ∧ x14 ≤ x1 + 1) (d1 : x2 + 1 ≤ x13 ∧ x13 ≤ x2 + 24) (d2 : x1 + 0 ≤ x13 ∧ x13 ≤ x1 + 22) (d3 : x9 + 1 ≤ x10 ∧ x10 ≤ x9 + 1) (d4 : x6 + (-21) ≤ x10 ∧ x10 ≤ x6 + 25) (d5 : x6 + (-22) ≤ x9 ∧ x9 ≤ x6 + 24) (d6 : x7 + (-22) ≤ x8 ∧ x8 ≤ x7 + 24) (d7 : x6 + (-46) ≤ x8 ∧ x8 ≤ x6 + 23) (d8 : x6 + (-24) ≤ x7 ∧ x7 ≤ x6 + (-1)) (g0 : x6 = lineLength_0) (f3 : x13 + x8 ≤ 24) (f4 : x14 + x8 ≤ 24) (f6 : x16 = lineLength_0) (f7 : 1 * x17 + ((-1) * x5 + 0) ≤ 0) (f8 : (-1) * x17 + (1 * x5 + 0) ≤ 0) (f9 : 1 * x18 + ((-1) * x2 + 0) ≤ 0) (f10 : (-1) * x18 + (1 * x2 + 0) ≤ 0) (f11 : 1 * lineLength_0 + ((-1) * x2 + (1 * x3 + 0)) ≤ 24) (f12 : (-1) * lineLength_0 + (1 * x1 + (1 * x2 + 0)) ≤ 0) (f13 : way_0 (0) = order_0 (x5)) (f14 : (1 ≤ x1) ∧ (((x1 + x2) + 1) ≤ lineLength_0)) (f15 : x3 = 1) (f16 : CQ2 (a12_0) (a12_0) (order_0) (x13) (x14) (x8) (x16) (x17) (x18)) (f18 : x13 + x8 ≤ 24) (f19 : x14 + x8 ≤ 24) (f20 : 1 * x17 + ((-1) * x5 + 0) ≤ 0) (f21 : (-1) * x17 + (1 * x5 + 0) ≤ 0) (f22 : 1 * x18 + ((-1) * x2 + 0) ≤ 0) (f23 : (-1) * x18 + (1 * x2 + 0) ≤ 0) (f24 : x14 = x1 + x3) (f25 : x13 = x1 + x2) (f26 : 0 ≤ x2) (f27 : 0 ≤ x8) (f28 : x10 ≤ x11) (f29 : x10 = x9 + x3) (f30 : x9 = x6 - x2) (f31 : x8 = x7 - x2) (f32 : x7 = x6 - x1) (hK_0_1 : ∀ j : Int, 0 ≤ j → j < 24 → 0 ≤ order_0 j ∧ order_0 j ≤ 23) (hK_0_6 : ∀ j : Int, 0 ≤ j → j < 27 → 0 ≤ way_0 j ∧ way_0 j ≤ 23) (hK_12_999 : ∀ j : Int, 0 ≤ j → j < 24 → 0 ≤ a12_0 j ∧ a12_0 j ≤ 23) (kz_0_3 : 0 ≤ lineLength_0 ∧ lineLength_0 ≤ 24) (ey2 : gy = lineLength_0) (ey3 : 0 ≤ gy ∧ gy ≤ 24) (eu2 : gu = x5) (eu3 : 3 ≤ gu ∧ gu ≤ 23) (ew2 : gw = x2) (ew3 : 0 ≤ gw ∧ gw ≤ 24) : (-1) * gu + (1 * x5 + 0) ≤ 0 := by
  first
    | omega
    | (exfalso; have h := lni_room ‹OFL _ _ _ _› ‹EWJ _ _ _ _› (by omega); omega)
    | (have h := (‹LNO _ _ _ _›).1; omega)
  
set_option maxHeartbeats 4000000 in
theorem vc_Pn_replaceInLine_at_gg_4_6 (x1 : Int) (x2 : Int) (x3 : Int) (x5 : Int) (x6 : Int) (x7 : Int) (x8 : Int) (x9 : Int) (x10 : Int) (x11 : Int) (x13 : Int) (x14 : Int) (x16 : Int) (x17 : Int) (x18 : Int) (x20 : Int) (lineLength_0 : Int) (way_0 : Int → Int) (order_0 : Int → Int) (a12_0 : Int → Int) (gy : Int) (gu : Int) (gw : Int) (k1 : 1 ≤ x1 ∧ x1 ≤ 24) (k2 : 0 ≤ x2 ∧ x2 ≤ 22) (k3 : 1 ≤ x3 ∧ x3 ≤ 1) (k5 : 3 ≤ x5 ∧ x5 ≤ 23) (k6 : 0 ≤ x6 ∧ x6 ≤ 24) (k7 : (-24) ≤ x7 ∧ x7 ≤ 23) (k8 : 0 ≤ x8 ∧ x8 ≤ 47) (k9 : (-22) ≤ x9 ∧ x9 ≤ 23) (k10 : (-21) ≤ x10 ∧ x10 ≤ 24) (k11 : 24 ≤ x11 ∧ x11 ≤ 24) (k13 : 1 ≤ x13 ∧ x13 ≤ 46) (k14 : 2 ≤ x14 ∧ x14 ≤ 25) (k16 : 0 ≤ x16 ∧ x16 ≤ 24) (k17 : 3 ≤ x17 ∧ x17 ≤ 23) (k18 : 0 ≤ x18 ∧ x18 ≤ 24) (k20 : 0 ≤ x20 ∧ x20 ≤ 0) (d0 : x1 + 1 ≤ x14 ∧ x14 ≤ x1 + 1) (d1 : x2 + 1 ≤ x13 ∧ x13 ≤ x2 + 24) (d2 : x1 + 0 ≤ x13 ∧ x13 ≤ x1 + 22) (d3 : x9 + 1 ≤ x10 ∧ x10 ≤ x9 + 1) (d4 : x6 + (-21) ≤ x10 ∧ x10 ≤ x6 + 25) (d5 : x6 + (-22) ≤ x9 ∧ x9 ≤ x6 + 24) (d6 : x7 + (-22) ≤ x8 ∧ x8 ≤ x7 + 24) (d7 : x6 + (-46) ≤ x8 ∧ x8 ≤ x6 + 23) (d8 : x6 + (-24) ≤ x7 ∧ x7 ≤ x6 + (-1)) (g0 : x6 = lineLength_0) (f3 : x13 + x8 ≤ 24) (f4 : x14 + x8 ≤ 24) (f6 : x16 = lineLength_0) (f7 : 1 * x17 + ((-1) * x5 + 0) ≤ 0) (f8 : (-1) * x17 + (1 * x5 + 0) ≤ 0) (f9 : 1 * x18 + ((-1) * x2 + 0) ≤ 0) (f10 : (-1) * x18 + (1 * x2 + 0) ≤ 0) (f11 : 1 * lineLength_0 + ((-1) * x2 + (1 * x3 + 0)) ≤ 24) (f12 : (-1) * lineLength_0 + (1 * x1 + (1 * x2 + 0)) ≤ 0) (f13 : way_0 (0) = order_0 (x5)) (f14 : (1 ≤ x1) ∧ (((x1 + x2) + 1) ≤ lineLength_0)) (f15 : x3 = 1) (f16 : CQ2 (a12_0) (a12_0) (order_0) (x13) (x14) (x8) (x16) (x17) (x18)) (f18 : x13 + x8 ≤ 24) (f19 : x14 + x8 ≤ 24) (f20 : 1 * x17 + ((-1) * x5 + 0) ≤ 0) (f21 : (-1) * x17 + (1 * x5 + 0) ≤ 0) (f22 : 1 * x18 + ((-1) * x2 + 0) ≤ 0) (f23 : (-1) * x18 + (1 * x2 + 0) ≤ 0) (f24 : x14 = x1 + x3) (f25 : x13 = x1 + x2) (f26 : 0 ≤ x2) (f27 : 0 ≤ x8) (f28 : x10 ≤ x11) (f29 : x10 = x9 + x3) (f30 : x9 = x6 - x2) (f31 : x8 = x7 - x2) (f32 : x7 = x6 - x1) (hK_0_1 : ∀ j : Int, 0 ≤ j → j < 24 → 0 ≤ order_0 j ∧ order_0 j ≤ 23) (hK_0_6 : ∀ j : Int, 0 ≤ j → j < 27 → 0 ≤ way_0 j ∧ way_0 j ≤ 23) (hK_12_999 : ∀ j : Int, 0 ≤ j → j < 24 → 0 ≤ a12_0 j ∧ a12_0 j ≤ 23) (kz_0_3 : 0 ≤ lineLength_0 ∧ lineLength_0 ≤ 24) (ey2 : gy = lineLength_0) (ey3 : 0 ≤ gy ∧ gy ≤ 24) (eu2 : gu = x5) (eu3 : 3 ≤ gu ∧ gu ≤ 23) (ew2 : gw = x2) (ew3 : 0 ≤ gw ∧ gw ≤ 24) : 1 * gw + ((-1) * x2 + 0) ≤ 0 := by
  first
    | omega
    | (exfalso; have h := lni_room ‹OFL _ _ _ _› ‹EWJ _ _ _ _› (by omega); omega)
    | (have h := (‹LNO _ _ _ _›).1; omega)
  
set_option maxHeartbeats 4000000 in
theorem vc_Pn_replaceInLine_at_gg_4_7 (x1 : Int) (x2 : Int) (x3 : Int) (x5 : Int) (x6 : Int) (x7 : Int) (x8 : Int) (x9 : Int) (x10 : Int) (x11 : Int) (x13 : Int) (x14 : Int) (x16 : Int) (x17 : Int) (x18 : Int) (x20 : Int) (lineLength_0 : Int) (way_0 : Int → Int) (order_0 : Int → Int) (a12_0 : Int → Int) (gy : Int) (gu : Int) (gw : Int) (k1 : 1 ≤ x1 ∧ x1 ≤ 24) (k2 : 0 ≤ x2 ∧ x2 ≤ 22) (k3 : 1 ≤ x3 ∧ x3 ≤ 1) (k5 : 3 ≤ x5 ∧ x5 ≤ 23) (k6 : 0 ≤ x6 ∧ x6 ≤ 24) (k7 : (-24) ≤ x7 ∧ x7 ≤ 23) (k8 : 0 ≤ x8 ∧ x8 ≤ 47) (k9 : (-22) ≤ x9 ∧ x9 ≤ 23) (k10 : (-21) ≤ x10 ∧ x10 ≤ 24) (k11 : 24 ≤ x11 ∧ x11 ≤ 24) (k13 : 1 ≤ x13 ∧ x13 ≤ 46) (k14 : 2 ≤ x14 ∧ x14 ≤ 25) (k16 : 0 ≤ x16 ∧ x16 ≤ 24) (k17 : 3 ≤ x17 ∧ x17 ≤ 23) (k18 : 0 ≤ x18 ∧ x18 ≤ 24) (k20 : 0 ≤ x20 ∧ x20 ≤ 0) (d0 : x1 + 1 ≤ x14 ∧ x14 ≤ x1 + 1) (d1 : x2 + 1 ≤ x13 ∧ x13 ≤ x2 + 24) (d2 : x1 + 0 ≤ x13 ∧ x13 ≤ x1 + 22) (d3 : x9 + 1 ≤ x10 ∧ x10 ≤ x9 + 1) (d4 : x6 + (-21) ≤ x10 ∧ x10 ≤ x6 + 25) (d5 : x6 + (-22) ≤ x9 ∧ x9 ≤ x6 + 24) (d6 : x7 + (-22) ≤ x8 ∧ x8 ≤ x7 + 24) (d7 : x6 + (-46) ≤ x8 ∧ x8 ≤ x6 + 23) (d8 : x6 + (-24) ≤ x7 ∧ x7 ≤ x6 + (-1)) (g0 : x6 = lineLength_0) (f3 : x13 + x8 ≤ 24) (f4 : x14 + x8 ≤ 24) (f6 : x16 = lineLength_0) (f7 : 1 * x17 + ((-1) * x5 + 0) ≤ 0) (f8 : (-1) * x17 + (1 * x5 + 0) ≤ 0) (f9 : 1 * x18 + ((-1) * x2 + 0) ≤ 0) (f10 : (-1) * x18 + (1 * x2 + 0) ≤ 0) (f11 : 1 * lineLength_0 + ((-1) * x2 + (1 * x3 + 0)) ≤ 24) (f12 : (-1) * lineLength_0 + (1 * x1 + (1 * x2 + 0)) ≤ 0) (f13 : way_0 (0) = order_0 (x5)) (f14 : (1 ≤ x1) ∧ (((x1 + x2) + 1) ≤ lineLength_0)) (f15 : x3 = 1) (f16 : CQ2 (a12_0) (a12_0) (order_0) (x13) (x14) (x8) (x16) (x17) (x18)) (f18 : x13 + x8 ≤ 24) (f19 : x14 + x8 ≤ 24) (f20 : 1 * x17 + ((-1) * x5 + 0) ≤ 0) (f21 : (-1) * x17 + (1 * x5 + 0) ≤ 0) (f22 : 1 * x18 + ((-1) * x2 + 0) ≤ 0) (f23 : (-1) * x18 + (1 * x2 + 0) ≤ 0) (f24 : x14 = x1 + x3) (f25 : x13 = x1 + x2) (f26 : 0 ≤ x2) (f27 : 0 ≤ x8) (f28 : x10 ≤ x11) (f29 : x10 = x9 + x3) (f30 : x9 = x6 - x2) (f31 : x8 = x7 - x2) (f32 : x7 = x6 - x1) (hK_0_1 : ∀ j : Int, 0 ≤ j → j < 24 → 0 ≤ order_0 j ∧ order_0 j ≤ 23) (hK_0_6 : ∀ j : Int, 0 ≤ j → j < 27 → 0 ≤ way_0 j ∧ way_0 j ≤ 23) (hK_12_999 : ∀ j : Int, 0 ≤ j → j < 24 → 0 ≤ a12_0 j ∧ a12_0 j ≤ 23) (kz_0_3 : 0 ≤ lineLength_0 ∧ lineLength_0 ≤ 24) (ey2 : gy = lineLength_0) (ey3 : 0 ≤ gy ∧ gy ≤ 24) (eu2 : gu = x5) (eu3 : 3 ≤ gu ∧ gu ≤ 23) (ew2 : gw = x2) (ew3 : 0 ≤ gw ∧ gw ≤ 24) : (-1) * gw + (1 * x2 + 0) ≤ 0 := by
  first
    | omega
    | (exfalso; have h := lni_room ‹OFL _ _ _ _› ‹EWJ _ _ _ _› (by omega); omega)
    | (have h := (‹LNO _ _ _ _›).1; omega)
  
set_option maxHeartbeats 4000000 in
theorem vc_Pn_replaceInLine_at_gg_4_8 (x1 : Int) (x2 : Int) (x3 : Int) (x5 : Int) (x6 : Int) (x7 : Int) (x8 : Int) (x9 : Int) (x10 : Int) (x11 : Int) (x13 : Int) (x14 : Int) (x16 : Int) (x17 : Int) (x18 : Int) (x20 : Int) (lineLength_0 : Int) (way_0 : Int → Int) (order_0 : Int → Int) (a12_0 : Int → Int) (gy : Int) (gu : Int) (gw : Int) (k1 : 1 ≤ x1 ∧ x1 ≤ 24) (k2 : 0 ≤ x2 ∧ x2 ≤ 22) (k3 : 1 ≤ x3 ∧ x3 ≤ 1) (k5 : 3 ≤ x5 ∧ x5 ≤ 23) (k6 : 0 ≤ x6 ∧ x6 ≤ 24) (k7 : (-24) ≤ x7 ∧ x7 ≤ 23) (k8 : 0 ≤ x8 ∧ x8 ≤ 47) (k9 : (-22) ≤ x9 ∧ x9 ≤ 23) (k10 : (-21) ≤ x10 ∧ x10 ≤ 24) (k11 : 24 ≤ x11 ∧ x11 ≤ 24) (k13 : 1 ≤ x13 ∧ x13 ≤ 46) (k14 : 2 ≤ x14 ∧ x14 ≤ 25) (k16 : 0 ≤ x16 ∧ x16 ≤ 24) (k17 : 3 ≤ x17 ∧ x17 ≤ 23) (k18 : 0 ≤ x18 ∧ x18 ≤ 24) (k20 : 0 ≤ x20 ∧ x20 ≤ 0) (d0 : x1 + 1 ≤ x14 ∧ x14 ≤ x1 + 1) (d1 : x2 + 1 ≤ x13 ∧ x13 ≤ x2 + 24) (d2 : x1 + 0 ≤ x13 ∧ x13 ≤ x1 + 22) (d3 : x9 + 1 ≤ x10 ∧ x10 ≤ x9 + 1) (d4 : x6 + (-21) ≤ x10 ∧ x10 ≤ x6 + 25) (d5 : x6 + (-22) ≤ x9 ∧ x9 ≤ x6 + 24) (d6 : x7 + (-22) ≤ x8 ∧ x8 ≤ x7 + 24) (d7 : x6 + (-46) ≤ x8 ∧ x8 ≤ x6 + 23) (d8 : x6 + (-24) ≤ x7 ∧ x7 ≤ x6 + (-1)) (g0 : x6 = lineLength_0) (f3 : x13 + x8 ≤ 24) (f4 : x14 + x8 ≤ 24) (f6 : x16 = lineLength_0) (f7 : 1 * x17 + ((-1) * x5 + 0) ≤ 0) (f8 : (-1) * x17 + (1 * x5 + 0) ≤ 0) (f9 : 1 * x18 + ((-1) * x2 + 0) ≤ 0) (f10 : (-1) * x18 + (1 * x2 + 0) ≤ 0) (f11 : 1 * lineLength_0 + ((-1) * x2 + (1 * x3 + 0)) ≤ 24) (f12 : (-1) * lineLength_0 + (1 * x1 + (1 * x2 + 0)) ≤ 0) (f13 : way_0 (0) = order_0 (x5)) (f14 : (1 ≤ x1) ∧ (((x1 + x2) + 1) ≤ lineLength_0)) (f15 : x3 = 1) (f16 : CQ2 (a12_0) (a12_0) (order_0) (x13) (x14) (x8) (x16) (x17) (x18)) (f18 : x13 + x8 ≤ 24) (f19 : x14 + x8 ≤ 24) (f20 : 1 * x17 + ((-1) * x5 + 0) ≤ 0) (f21 : (-1) * x17 + (1 * x5 + 0) ≤ 0) (f22 : 1 * x18 + ((-1) * x2 + 0) ≤ 0) (f23 : (-1) * x18 + (1 * x2 + 0) ≤ 0) (f24 : x14 = x1 + x3) (f25 : x13 = x1 + x2) (f26 : 0 ≤ x2) (f27 : 0 ≤ x8) (f28 : x10 ≤ x11) (f29 : x10 = x9 + x3) (f30 : x9 = x6 - x2) (f31 : x8 = x7 - x2) (f32 : x7 = x6 - x1) (hK_0_1 : ∀ j : Int, 0 ≤ j → j < 24 → 0 ≤ order_0 j ∧ order_0 j ≤ 23) (hK_0_6 : ∀ j : Int, 0 ≤ j → j < 27 → 0 ≤ way_0 j ∧ way_0 j ≤ 23) (hK_12_999 : ∀ j : Int, 0 ≤ j → j < 24 → 0 ≤ a12_0 j ∧ a12_0 j ≤ 23) (kz_0_3 : 0 ≤ lineLength_0 ∧ lineLength_0 ≤ 24) (ey2 : gy = lineLength_0) (ey3 : 0 ≤ gy ∧ gy ≤ 24) (eu2 : gu = x5) (eu3 : 3 ≤ gu ∧ gu ≤ 23) (ew2 : gw = x2) (ew3 : 0 ≤ gw ∧ gw ≤ 24) : CQ3 (a12_0) (way_0) (order_0) (x20) (x1) (x3) (gy) (gu) (gw) := by
  first
    | (rw [show gy = x16 by omega, show gu = x17 by omega, show gw = x18 by omega]; exact cq3_of ‹CQ2 _ _ _ _ _ _ _ _ _› (by omega) (by omega) (by rw [show x17 = x5 by omega]; assumption) (by omega) (by omega))
  
def o_Pn_replaceInLine_at_gg_4 : or_T := (63, 21, [(0, (2, 0, 0, [7])), (1, (0, 1, 24, [])), (2, (0, 0, 22, [])), (3, (0, 1, 1, [])), (4, (2, 0, 0, [102])), (5, (0, 3, 23, [])), (6, (0, 0, 24, [])), (7, (0, -24, 23, [])), (8, (0, 0, 47, [])), (9, (0, -22, 23, [])), (10, (0, -21, 24, [])), (11, (0, 24, 24, [])), (12, (2, 0, 0, [103])), (13, (0, 1, 46, [])), (14, (0, 2, 25, [])), (16, (0, 0, 24, [])), (17, (0, 3, 23, [])), (18, (0, 0, 24, [])), (20, (0, 0, 0, []))], [(9, [6, 0], [3]), (9, [4, 0], [1]), (9, [19, 0], [6]), (21, [13, 8], [24]), (21, [14, 8], [24]), (24, [4, 15], []), (20, [16, 0], [50, 1, 0, 1003, 1, 2, 1, 0, 2, 1, 3]), (23, [17, 5], [0, 1, -1]), (23, [17, 5], [0, -1, 1]), (23, [18, 2], [0, 1, -1]), (23, [18, 2], [0, -1, 1]), (20, [0, 2, 3], [30, 24, 1, 1, 3, -1, 0, 0, 1, 0, 0]), (20, [0, 1, 2], [30, 0, -1, 1, 3, 1, 0, 0, 1, 0, 0]), (20, [0, 5], [50, 0, 2, 6, 1, 1, 5, 3, 0, 6, 0, 0, 3, 0, 1, 1, 1]), (20, [1, 2, 0], [50, 1, 0, 2003, 2, 6, 0, 2, 0, 1, 1, 0, 0, 10, 4, 6, 4, 2, 1, 0, 1, 1, 0, 1, 2, 2, 3]), (20, [3], [50, 0, 0, 1, 2, 1, 0, 0, 1]), (20, [12, 12, 15, 13, 14, 8, 16, 17, 18], [61, 3, 893]), (102, [18], [10141204801825835211973625643008]), (21, [13, 8], [24]), (21, [14, 8], [24]), (23, [17, 5], [0, 1, -1]), (23, [17, 5], [0, -1, 1]), (23, [18, 2], [0, 1, -1]), (23, [18, 2], [0, -1, 1]), (1, [14, 1, 3], []), (1, [13, 1, 2], []), (8, [2], [3]), (8, [8], [3]), (7, [10, 11], [5]), (1, [10, 9, 3], []), (2, [9, 6, 2], []), (2, [8, 7, 2], []), (2, [7, 6, 1], [])], [], [(2, 0, 0, [102]), (0, 0, 24, []), (0, 3, 23, []), (0, 0, 24, [])], [(21, [20, 3], [27]), (21, [1, 3], [24]), (24, [4, 21], []), (20, [22, 0], [50, 1, 0, 1003, 1, 2, 1, 0, 2, 1, 3]), (23, [23, 5], [0, 1, -1]), (23, [23, 5], [0, -1, 1]), (23, [24, 2], [0, 1, -1]), (23, [24, 2], [0, -1, 1]), (20, [12, 19, 21, 20, 1, 3, 22, 23, 24], [61, 3, 894])], [], [(14, 1, 1, 1), (13, 2, 1, 24), (13, 1, 0, 22), (10, 9, 1, 1), (10, 6, -21, 25), (9, 6, -22, 24), (8, 7, -22, 24), (8, 6, -46, 23), (7, 6, -24, -1)])
theorem oo_Pn_replaceInLine_at_gg_4 {kA : Nat → ClassId} : or_ok PRD kA GG o_Pn_replaceInLine_at_gg_4 := by
  refine or_mk fun A ta ws vs hD hth hl => ?_
  intro t0 r0 t1 k1 t2 k2 t3 k3 t4 r4 t5 k5 t6 k6 t7 k7 t8 k8 t9 k9 t10 k10 t11 k11 t12 r12 t13 k13 t14 k14 t16 k16 t17 k17 t18 k18 t20 k20 d0 d1 d2 d3 d4 d5 d6 d7 d8 f0 f1 f2 f3 f4 f5 f6 f7 f8 f9 f10 f11 f12 f13 f14 f15 f16 ta1 w1 le1 s1 f18 f19 f20 f21 f22 f23 f24 f25 f26 f27 f28 f29 f30 f31 f32
  replace f0 := shm_137 f0
  replace f1 := shm_215 f1
  replace f2 := shm_111 f2
  replace f3 := shm_140 f3
  replace f4 := shm_140 f4
  replace f5 := shm_5 f5
  replace f6 := shm_903 f6
  replace f7 := shm_7 f7
  replace f8 := shm_22 f8
  replace f9 := shm_7 f9
  replace f10 := shm_22 f10
  replace f11 := shm_138 f11
  replace f12 := shm_139 f12
  replace f13 := shm_900 f13
  replace f14 := shm_901 f14
  replace f15 := shm_510 f15
  replace f16 := shm_905 f16
  replace f18 := shm_140 f18
  replace f19 := shm_140 f19
  replace f20 := shm_7 f20
  replace f21 := shm_22 f21
  replace f22 := shm_7 f22
  replace f23 := shm_22 f23
  replace f24 := shm_12 f24
  replace f25 := shm_12 f25
  replace f26 := shm_32 f26
  replace f27 := shm_32 f27
  replace f28 := shm_24 f28
  replace f29 := shm_12 f29
  replace f30 := shm_14 f30
  replace f31 := shm_14 f31
  replace f32 := shm_14 f32
  have q15 : n_v vs 15 = n_v vs 4 := f5.symm
  simp only [q15] at f16
  have cr_0_1 := fdq_92 hD hth r0
  have cr_0_6 := fdq_228 hD hth r0
  have cr_12_999 : ta (v_ad (n_v vs 12)) = some 103 := r12
  have ad_4 : v_ad (n_v vs 4) = w_ar ws (n_v vs 0) 1 := congrArg v_ad f1
  have ad_19 : v_ad (n_v vs 19) = w_ar ws (n_v vs 0) 6 := congrArg v_ad f2
  have g0 : v_iv (n_v vs 6) = w_fi ws (n_v vs 0) 3 := congrArg v_iv f0
  simp only [ad_4] at f16
  have hK_0_1 := elq_48 hD hth cr_0_1
  have hK_0_6 := elq_141 hD hth cr_0_6
  have hK_12_999 := elq_140 hD hth cr_12_999
  have kz_0_3 := fdq_13 hD hth r0
  obtain ⟨y, ey, hy⟩ := iv_ex (ta := ta) (lo := 0) (hi := 24) (z := w_fi ws (n_v vs 0) 3) (by omega) (by omega) (by omega) (by omega)
  have ey2 : v_iv (Value.int y) = w_fi ws (n_v vs 0) 3 := ey
  have ey3 : 0 ≤ v_iv (Value.int y) ∧ v_iv (Value.int y) ≤ 24 := tv_rng hy
  obtain ⟨u, eu, hu⟩ := iv_ex (ta := ta) (lo := 3) (hi := 23) (z := v_iv (n_v vs 5)) (by omega) (by omega) (by omega) (by omega)
  have eu2 : v_iv (Value.int u) = v_iv (n_v vs 5) := eu
  have eu3 : 3 ≤ v_iv (Value.int u) ∧ v_iv (Value.int u) ≤ 23 := tv_rng hu
  obtain ⟨w, ew, hw⟩ := iv_ex (ta := ta) (lo := 0) (hi := 24) (z := v_iv (n_v vs 2)) (by omega) (by omega) (by omega) (by omega)
  have ew2 : v_iv (Value.int w) = v_iv (n_v vs 2) := ew
  have ew3 : 0 ≤ v_iv (Value.int w) ∧ v_iv (Value.int w) ≤ 24 := tv_rng hw
  have e_0 : n_v (vs ++ [n_v vs 4, Value.int y, Value.int u, Value.int w]) 0 = n_v vs 0 := n_v_old (by rw [hl]; decide)
  have e_1 : n_v (vs ++ [n_v vs 4, Value.int y, Value.int u, Value.int w]) 1 = n_v vs 1 := n_v_old (by rw [hl]; decide)
  have e_2 : n_v (vs ++ [n_v vs 4, Value.int y, Value.int u, Value.int w]) 2 = n_v vs 2 := n_v_old (by rw [hl]; decide)
  have e_3 : n_v (vs ++ [n_v vs 4, Value.int y, Value.int u, Value.int w]) 3 = n_v vs 3 := n_v_old (by rw [hl]; decide)
  have e_4 : n_v (vs ++ [n_v vs 4, Value.int y, Value.int u, Value.int w]) 4 = n_v vs 4 := n_v_old (by rw [hl]; decide)
  have e_5 : n_v (vs ++ [n_v vs 4, Value.int y, Value.int u, Value.int w]) 5 = n_v vs 5 := n_v_old (by rw [hl]; decide)
  have e_12 : n_v (vs ++ [n_v vs 4, Value.int y, Value.int u, Value.int w]) 12 = n_v vs 12 := n_v_old (by rw [hl]; decide)
  have e_19 : n_v (vs ++ [n_v vs 4, Value.int y, Value.int u, Value.int w]) 19 = n_v vs 19 := n_v_old (by rw [hl]; decide)
  have e_20 : n_v (vs ++ [n_v vs 4, Value.int y, Value.int u, Value.int w]) 20 = n_v vs 20 := n_v_old (by rw [hl]; decide)
  have e_21 : n_v (vs ++ [n_v vs 4, Value.int y, Value.int u, Value.int w]) 21 = n_v vs 4 := n_v_newk (k := 0) hl rfl
  have e_22 : n_v (vs ++ [n_v vs 4, Value.int y, Value.int u, Value.int w]) 22 = Value.int y := n_v_newk (k := 1) hl rfl
  have e_23 : n_v (vs ++ [n_v vs 4, Value.int y, Value.int u, Value.int w]) 23 = Value.int u := n_v_newk (k := 2) hl rfl
  have e_24 : n_v (vs ++ [n_v vs 4, Value.int y, Value.int u, Value.int w]) 24 = Value.int w := n_v_newk (k := 3) hl rfl
  have nf0 : fc_1 PRD (21, [20, 3], [27]) ws (vs ++ [n_v vs 4, Value.int y, Value.int u, Value.int w]) := by
    refine ⟨nf_inA hl rfl, sgq_141 ?_⟩
    · show v_iv (n_v (vs ++ [n_v vs 4, Value.int y, Value.int u, Value.int w]) 20) + v_iv (n_v (vs ++ [n_v vs 4, Value.int y, Value.int u, Value.int w]) 3) ≤ 27
      simp only [e_3, e_20]
      exact vc_Pn_replaceInLine_at_gg_4_0 (v_iv (n_v vs 1)) (v_iv (n_v vs 2)) (v_iv (n_v vs 3)) (v_iv (n_v vs 5)) (v_iv (n_v vs 6)) (v_iv (n_v vs 7)) (v_iv (n_v vs 8)) (v_iv (n_v vs 9)) (v_iv (n_v vs 10)) (v_iv (n_v vs 11)) (v_iv (n_v vs 13)) (v_iv (n_v vs 14)) (v_iv (n_v vs 16)) (v_iv (n_v vs 17)) (v_iv (n_v vs 18)) (v_iv (n_v vs 20)) (w_fi ws (n_v vs 0) 3) (w_ei ws (w_ar ws (n_v vs 0) 6)) (w_ei ws (w_ar ws (n_v vs 0) 1)) (w_ei ws (v_ad (n_v vs 12))) (v_iv (Value.int y)) (v_iv (Value.int u)) (v_iv (Value.int w)) k1 k2 k3 k5 k6 k7 k8 k9 k10 k11 k13 k14 k16 k17 k18 k20 d0 d1 d2 d3 d4 d5 d6 d7 d8 g0 f3 f4 f6 f7 f8 f9 f10 f11 f12 f13 f14 f15 f16 f18 f19 f20 f21 f22 f23 f24 f25 f26 f27 f28 f29 f30 f31 f32 hK_0_1 hK_0_6 hK_12_999 kz_0_3 ey2 ey3 eu2 eu3 ew2 ew3
  have nf1 : fc_1 PRD (21, [1, 3], [24]) ws (vs ++ [n_v vs 4, Value.int y, Value.int u, Value.int w]) := by
    refine ⟨nf_inA hl rfl, sgq_140 ?_⟩
    · show v_iv (n_v (vs ++ [n_v vs 4, Value.int y, Value.int u, Value.int w]) 1) + v_iv (n_v (vs ++ [n_v vs 4, Value.int y, Value.int u, Value.int w]) 3) ≤ 24
      simp only [e_1, e_3]
      exact vc_Pn_replaceInLine_at_gg_4_1 (v_iv (n_v vs 1)) (v_iv (n_v vs 2)) (v_iv (n_v vs 3)) (v_iv (n_v vs 5)) (v_iv (n_v vs 6)) (v_iv (n_v vs 7)) (v_iv (n_v vs 8)) (v_iv (n_v vs 9)) (v_iv (n_v vs 10)) (v_iv (n_v vs 11)) (v_iv (n_v vs 13)) (v_iv (n_v vs 14)) (v_iv (n_v vs 16)) (v_iv (n_v vs 17)) (v_iv (n_v vs 18)) (v_iv (n_v vs 20)) (w_fi ws (n_v vs 0) 3) (w_ei ws (w_ar ws (n_v vs 0) 6)) (w_ei ws (w_ar ws (n_v vs 0) 1)) (w_ei ws (v_ad (n_v vs 12))) (v_iv (Value.int y)) (v_iv (Value.int u)) (v_iv (Value.int w)) k1 k2 k3 k5 k6 k7 k8 k9 k10 k11 k13 k14 k16 k17 k18 k20 d0 d1 d2 d3 d4 d5 d6 d7 d8 g0 f3 f4 f6 f7 f8 f9 f10 f11 f12 f13 f14 f15 f16 f18 f19 f20 f21 f22 f23 f24 f25 f26 f27 f28 f29 f30 f31 f32 hK_0_1 hK_0_6 hK_12_999 kz_0_3 ey2 ey3 eu2 eu3 ew2 ew3
  have nf2 : fc_1 PRD (24, [4, 21], []) ws (vs ++ [n_v vs 4, Value.int y, Value.int u, Value.int w]) := by
    refine ⟨nf_inA hl rfl, sgq_5 ?_⟩
    · show n_v (vs ++ [n_v vs 4, Value.int y, Value.int u, Value.int w]) 4 = n_v (vs ++ [n_v vs 4, Value.int y, Value.int u, Value.int w]) 21
      first | rfl | simp only [e_4, e_21, q15]
  have nf3 : fc_1 PRD (20, [22, 0], [50, 1, 0, 1003, 1, 2, 1, 0, 2, 1, 3]) ws (vs ++ [n_v vs 4, Value.int y, Value.int u, Value.int w]) := by
    refine ⟨nf_inA hl rfl, sgq_903 ?_⟩
    · show v_iv (n_v (vs ++ [n_v vs 4, Value.int y, Value.int u, Value.int w]) 22) = w_fi ws (n_v (vs ++ [n_v vs 4, Value.int y, Value.int u, Value.int w]) 0) 3
      simp only [e_0, e_22]
      exact vc_Pn_replaceInLine_at_gg_4_3 (v_iv (n_v vs 1)) (v_iv (n_v vs 2)) (v_iv (n_v vs 3)) (v_iv (n_v vs 5)) (v_iv (n_v vs 6)) (v_iv (n_v vs 7)) (v_iv (n_v vs 8)) (v_iv (n_v vs 9)) (v_iv (n_v vs 10)) (v_iv (n_v vs 11)) (v_iv (n_v vs 13)) (v_iv (n_v vs 14)) (v_iv (n_v vs 16)) (v_iv (n_v vs 17)) (v_iv (n_v vs 18)) (v_iv (n_v vs 20)) (w_fi ws (n_v vs 0) 3) (w_ei ws (w_ar ws (n_v vs 0) 6)) (w_ei ws (w_ar ws (n_v vs 0) 1)) (w_ei ws (v_ad (n_v vs 12))) (v_iv (Value.int y)) (v_iv (Value.int u)) (v_iv (Value.int w)) k1 k2 k3 k5 k6 k7 k8 k9 k10 k11 k13 k14 k16 k17 k18 k20 d0 d1 d2 d3 d4 d5 d6 d7 d8 g0 f3 f4 f6 f7 f8 f9 f10 f11 f12 f13 f14 f15 f16 f18 f19 f20 f21 f22 f23 f24 f25 f26 f27 f28 f29 f30 f31 f32 hK_0_1 hK_0_6 hK_12_999 kz_0_3 ey2 ey3 eu2 eu3 ew2 ew3
  have nf4 : fc_1 PRD (23, [23, 5], [0, 1, -1]) ws (vs ++ [n_v vs 4, Value.int y, Value.int u, Value.int w]) := by
    refine ⟨nf_inA hl rfl, sgq_7 ?_⟩
    · show 1 * v_iv (n_v (vs ++ [n_v vs 4, Value.int y, Value.int u, Value.int w]) 23) + ((-1) * v_iv (n_v (vs ++ [n_v vs 4, Value.int y, Value.int u, Value.int w]) 5) + 0) ≤ 0
      simp only [e_5, e_23]
      exact vc_Pn_replaceInLine_at_gg_4_4 (v_iv (n_v vs 1)) (v_iv (n_v vs 2)) (v_iv (n_v vs 3)) (v_iv (n_v vs 5)) (v_iv (n_v vs 6)) (v_iv (n_v vs 7)) (v_iv (n_v vs 8)) (v_iv (n_v vs 9)) (v_iv (n_v vs 10)) (v_iv (n_v vs 11)) (v_iv (n_v vs 13)) (v_iv (n_v vs 14)) (v_iv (n_v vs 16)) (v_iv (n_v vs 17)) (v_iv (n_v vs 18)) (v_iv (n_v vs 20)) (w_fi ws (n_v vs 0) 3) (w_ei ws (w_ar ws (n_v vs 0) 6)) (w_ei ws (w_ar ws (n_v vs 0) 1)) (w_ei ws (v_ad (n_v vs 12))) (v_iv (Value.int y)) (v_iv (Value.int u)) (v_iv (Value.int w)) k1 k2 k3 k5 k6 k7 k8 k9 k10 k11 k13 k14 k16 k17 k18 k20 d0 d1 d2 d3 d4 d5 d6 d7 d8 g0 f3 f4 f6 f7 f8 f9 f10 f11 f12 f13 f14 f15 f16 f18 f19 f20 f21 f22 f23 f24 f25 f26 f27 f28 f29 f30 f31 f32 hK_0_1 hK_0_6 hK_12_999 kz_0_3 ey2 ey3 eu2 eu3 ew2 ew3
  have nf5 : fc_1 PRD (23, [23, 5], [0, -1, 1]) ws (vs ++ [n_v vs 4, Value.int y, Value.int u, Value.int w]) := by
    refine ⟨nf_inA hl rfl, sgq_22 ?_⟩
    · show (-1) * v_iv (n_v (vs ++ [n_v vs 4, Value.int y, Value.int u, Value.int w]) 23) + (1 * v_iv (n_v (vs ++ [n_v vs 4, Value.int y, Value.int u, Value.int w]) 5) + 0) ≤ 0
      simp only [e_5, e_23]
      exact vc_Pn_replaceInLine_at_gg_4_5 (v_iv (n_v vs 1)) (v_iv (n_v vs 2)) (v_iv (n_v vs 3)) (v_iv (n_v vs 5)) (v_iv (n_v vs 6)) (v_iv (n_v vs 7)) (v_iv (n_v vs 8)) (v_iv (n_v vs 9)) (v_iv (n_v vs 10)) (v_iv (n_v vs 11)) (v_iv (n_v vs 13)) (v_iv (n_v vs 14)) (v_iv (n_v vs 16)) (v_iv (n_v vs 17)) (v_iv (n_v vs 18)) (v_iv (n_v vs 20)) (w_fi ws (n_v vs 0) 3) (w_ei ws (w_ar ws (n_v vs 0) 6)) (w_ei ws (w_ar ws (n_v vs 0) 1)) (w_ei ws (v_ad (n_v vs 12))) (v_iv (Value.int y)) (v_iv (Value.int u)) (v_iv (Value.int w)) k1 k2 k3 k5 k6 k7 k8 k9 k10 k11 k13 k14 k16 k17 k18 k20 d0 d1 d2 d3 d4 d5 d6 d7 d8 g0 f3 f4 f6 f7 f8 f9 f10 f11 f12 f13 f14 f15 f16 f18 f19 f20 f21 f22 f23 f24 f25 f26 f27 f28 f29 f30 f31 f32 hK_0_1 hK_0_6 hK_12_999 kz_0_3 ey2 ey3 eu2 eu3 ew2 ew3
  have nf6 : fc_1 PRD (23, [24, 2], [0, 1, -1]) ws (vs ++ [n_v vs 4, Value.int y, Value.int u, Value.int w]) := by
    refine ⟨nf_inA hl rfl, sgq_7 ?_⟩
    · show 1 * v_iv (n_v (vs ++ [n_v vs 4, Value.int y, Value.int u, Value.int w]) 24) + ((-1) * v_iv (n_v (vs ++ [n_v vs 4, Value.int y, Value.int u, Value.int w]) 2) + 0) ≤ 0
      simp only [e_2, e_24]
      exact vc_Pn_replaceInLine_at_gg_4_6 (v_iv (n_v vs 1)) (v_iv (n_v vs 2)) (v_iv (n_v vs 3)) (v_iv (n_v vs 5)) (v_iv (n_v vs 6)) (v_iv (n_v vs 7)) (v_iv (n_v vs 8)) (v_iv (n_v vs 9)) (v_iv (n_v vs 10)) (v_iv (n_v vs 11)) (v_iv (n_v vs 13)) (v_iv (n_v vs 14)) (v_iv (n_v vs 16)) (v_iv (n_v vs 17)) (v_iv (n_v vs 18)) (v_iv (n_v vs 20)) (w_fi ws (n_v vs 0) 3) (w_ei ws (w_ar ws (n_v vs 0) 6)) (w_ei ws (w_ar ws (n_v vs 0) 1)) (w_ei ws (v_ad (n_v vs 12))) (v_iv (Value.int y)) (v_iv (Value.int u)) (v_iv (Value.int w)) k1 k2 k3 k5 k6 k7 k8 k9 k10 k11 k13 k14 k16 k17 k18 k20 d0 d1 d2 d3 d4 d5 d6 d7 d8 g0 f3 f4 f6 f7 f8 f9 f10 f11 f12 f13 f14 f15 f16 f18 f19 f20 f21 f22 f23 f24 f25 f26 f27 f28 f29 f30 f31 f32 hK_0_1 hK_0_6 hK_12_999 kz_0_3 ey2 ey3 eu2 eu3 ew2 ew3
  have nf7 : fc_1 PRD (23, [24, 2], [0, -1, 1]) ws (vs ++ [n_v vs 4, Value.int y, Value.int u, Value.int w]) := by
    refine ⟨nf_inA hl rfl, sgq_22 ?_⟩
    · show (-1) * v_iv (n_v (vs ++ [n_v vs 4, Value.int y, Value.int u, Value.int w]) 24) + (1 * v_iv (n_v (vs ++ [n_v vs 4, Value.int y, Value.int u, Value.int w]) 2) + 0) ≤ 0
      simp only [e_2, e_24]
      exact vc_Pn_replaceInLine_at_gg_4_7 (v_iv (n_v vs 1)) (v_iv (n_v vs 2)) (v_iv (n_v vs 3)) (v_iv (n_v vs 5)) (v_iv (n_v vs 6)) (v_iv (n_v vs 7)) (v_iv (n_v vs 8)) (v_iv (n_v vs 9)) (v_iv (n_v vs 10)) (v_iv (n_v vs 11)) (v_iv (n_v vs 13)) (v_iv (n_v vs 14)) (v_iv (n_v vs 16)) (v_iv (n_v vs 17)) (v_iv (n_v vs 18)) (v_iv (n_v vs 20)) (w_fi ws (n_v vs 0) 3) (w_ei ws (w_ar ws (n_v vs 0) 6)) (w_ei ws (w_ar ws (n_v vs 0) 1)) (w_ei ws (v_ad (n_v vs 12))) (v_iv (Value.int y)) (v_iv (Value.int u)) (v_iv (Value.int w)) k1 k2 k3 k5 k6 k7 k8 k9 k10 k11 k13 k14 k16 k17 k18 k20 d0 d1 d2 d3 d4 d5 d6 d7 d8 g0 f3 f4 f6 f7 f8 f9 f10 f11 f12 f13 f14 f15 f16 f18 f19 f20 f21 f22 f23 f24 f25 f26 f27 f28 f29 f30 f31 f32 hK_0_1 hK_0_6 hK_12_999 kz_0_3 ey2 ey3 eu2 eu3 ew2 ew3
  have nf8 : fc_1 PRD (20, [12, 19, 21, 20, 1, 3, 22, 23, 24], [61, 3, 894]) ws (vs ++ [n_v vs 4, Value.int y, Value.int u, Value.int w]) := by
    refine ⟨nf_inA hl rfl, sgq_906 ?_⟩
    · show CQ3 (w_ei ws (v_ad (n_v (vs ++ [n_v vs 4, Value.int y, Value.int u, Value.int w]) 12))) (w_ei ws (v_ad (n_v (vs ++ [n_v vs 4, Value.int y, Value.int u, Value.int w]) 19))) (w_ei ws (v_ad (n_v (vs ++ [n_v vs 4, Value.int y, Value.int u, Value.int w]) 21))) (v_iv (n_v (vs ++ [n_v vs 4, Value.int y, Value.int u, Value.int w]) 20)) (v_iv (n_v (vs ++ [n_v vs 4, Value.int y, Value.int u, Value.int w]) 1)) (v_iv (n_v (vs ++ [n_v vs 4, Value.int y, Value.int u, Value.int w]) 3)) (v_iv (n_v (vs ++ [n_v vs 4, Value.int y, Value.int u, Value.int w]) 22)) (v_iv (n_v (vs ++ [n_v vs 4, Value.int y, Value.int u, Value.int w]) 23)) (v_iv (n_v (vs ++ [n_v vs 4, Value.int y, Value.int u, Value.int w]) 24))
      simp only [e_1, e_3, e_12, e_19, e_20, e_21, e_22, e_23, e_24, ad_4, ad_19]
      exact vc_Pn_replaceInLine_at_gg_4_8 (v_iv (n_v vs 1)) (v_iv (n_v vs 2)) (v_iv (n_v vs 3)) (v_iv (n_v vs 5)) (v_iv (n_v vs 6)) (v_iv (n_v vs 7)) (v_iv (n_v vs 8)) (v_iv (n_v vs 9)) (v_iv (n_v vs 10)) (v_iv (n_v vs 11)) (v_iv (n_v vs 13)) (v_iv (n_v vs 14)) (v_iv (n_v vs 16)) (v_iv (n_v vs 17)) (v_iv (n_v vs 18)) (v_iv (n_v vs 20)) (w_fi ws (n_v vs 0) 3) (w_ei ws (w_ar ws (n_v vs 0) 6)) (w_ei ws (w_ar ws (n_v vs 0) 1)) (w_ei ws (v_ad (n_v vs 12))) (v_iv (Value.int y)) (v_iv (Value.int u)) (v_iv (Value.int w)) k1 k2 k3 k5 k6 k7 k8 k9 k10 k11 k13 k14 k16 k17 k18 k20 d0 d1 d2 d3 d4 d5 d6 d7 d8 g0 f3 f4 f6 f7 f8 f9 f10 f11 f12 f13 f14 f15 f16 f18 f19 f20 f21 f22 f23 f24 f25 f26 f27 f28 f29 f30 f31 f32 hK_0_1 hK_0_6 hK_12_999 kz_0_3 ey2 ey3 eu2 eu3 ew2 ew3
  exact ⟨(fun _ h => (by cases h)), [n_v vs 4, Value.int y, Value.int u, Value.int w], ag_four t4 hy hu hw, List.forall_mem_cons.mpr ⟨⟨show (21 : Nat) < 100 from by decide, nf0⟩, List.forall_mem_cons.mpr ⟨⟨show (21 : Nat) < 100 from by decide, nf1⟩, List.forall_mem_cons.mpr ⟨⟨show (24 : Nat) < 100 from by decide, nf2⟩, List.forall_mem_cons.mpr ⟨⟨show (20 : Nat) < 100 from by decide, nf3⟩, List.forall_mem_cons.mpr ⟨⟨show (23 : Nat) < 100 from by decide, nf4⟩, List.forall_mem_cons.mpr ⟨⟨show (23 : Nat) < 100 from by decide, nf5⟩, List.forall_mem_cons.mpr ⟨⟨show (23 : Nat) < 100 from by decide, nf6⟩, List.forall_mem_cons.mpr ⟨⟨show (23 : Nat) < 100 from by decide, nf7⟩, List.forall_mem_cons.mpr ⟨⟨show (20 : Nat) < 100 from by decide, nf8⟩, (fun _ h => (by cases h))⟩⟩⟩⟩⟩⟩⟩⟩⟩, (fun _ h => (by cases h))⟩
set_option maxHeartbeats 4000000 in
theorem vc_Pn_replaceInLine_at_gg_5_r0 (x1 : Int) (x2 : Int) (x3 : Int) (x5 : Int) (x6 : Int) (x7 : Int) (x8 : Int) (x9 : Int) (x10 : Int) (x11 : Int) (x13 : Int) (x14 : Int) (x16 : Int) (x17 : Int) (x18 : Int) (x20 : Int) (x22 : Int) (x23 : Int) (x24 : Int) (x25 : Int) (x26 : Int) (lineLength_0 : Int) (way_0 : Int → Int) (order_0 : Int → Int) (a12_0 : Int → Int) (k1 : 1 ≤ x1 ∧ x1 ≤ 24) (k2 : 0 ≤ x2 ∧ x2 ≤ 22) (k3 : 1 ≤ x3 ∧ x3 ≤ 1) (k5 : 3 ≤ x5 ∧ x5 ≤ 23) (k6 : 0 ≤ x6 ∧ x6 ≤ 24) (k7 : (-24) ≤ x7 ∧ x7 ≤ 23) (k8 : 0 ≤ x8 ∧ x8 ≤ 47) (k9 : (-22) ≤ x9 ∧ x9 ≤ 23) (k10 : (-21) ≤ x10 ∧ x10 ≤ 24) (k11 : 24 ≤ x11 ∧ x11 ≤ 24) (k13 : 1 ≤ x13 ∧ x13 ≤ 46) (k14 : 2 ≤ x14 ∧ x14 ≤ 25) (k16 : 0 ≤ x16 ∧ x16 ≤ 24) (k17 : 3 ≤ x17 ∧ x17 ≤ 23) (k18 : 0 ≤ x18 ∧ x18 ≤ 24) (k20 : 0 ≤ x20 ∧ x20 ≤ 0) (k22 : 0 ≤ x22 ∧ x22 ≤ 24) (k23 : 3 ≤ x23 ∧ x23 ≤ 23) (k24 : 0 ≤ x24 ∧ x24 ≤ 24) (k25 : (-21) ≤ x25 ∧ x25 ≤ 1) (k26 : (-21) ≤ x26 ∧ x26 ≤ 25) (d0 : x25 + 0 ≤ x26 ∧ x26 ≤ x25 + 24) (d1 : x6 + (-21) ≤ x26 ∧ x26 ≤ x6 + 1) (d2 : x1 + 1 ≤ x14 ∧ x14 ≤ x1 + 1) (d3 : x2 + 1 ≤ x13 ∧ x13 ≤ x2 + 24) (d4 : x1 + 0 ≤ x13 ∧ x13 ≤ x1 + 22) (d5 : x9 + 1 ≤ x10 ∧ x10 ≤ x9 + 1) (d6 : x6 + (-21) ≤ x10 ∧ x10 ≤ x6 + 25) (d7 : x6 + (-22) ≤ x9 ∧ x9 ≤ x6 + 24) (d8 : x7 + (-22) ≤ x8 ∧ x8 ≤ x7 + 24) (d9 : x6 + (-46) ≤ x8 ∧ x8 ≤ x6 + 23) (d10 : x6 + (-24) ≤ x7 ∧ x7 ≤ x6 + (-1)) (f2 : x26 = x6 + x25) (f3 : x25 = x3 - x2) (g4 : x6 = lineLength_0) (f5 : x20 + x3 ≤ 27) (f6 : x1 + x3 ≤ 24) (f8 : x22 = lineLength_0) (f9 : 1 * x23 + ((-1) * x5 + 0) ≤ 0) (f10 : (-1) * x23 + (1 * x5 + 0) ≤ 0) (f11 : 1 * x24 + ((-1) * x2 + 0) ≤ 0) (f12 : (-1) * x24 + (1 * x2 + 0) ≤ 0) (f13 : x13 + x8 ≤ 24) (f14 : x14 + x8 ≤ 24) (f16 : x16 = lineLength_0) (f17 : 1 * x17 + ((-1) * x5 + 0) ≤ 0) (f18 : (-1) * x17 + (1 * x5 + 0) ≤ 0) (f19 : 1 * x18 + ((-1) * x2 + 0) ≤ 0) (f20 : (-1) * x18 + (1 * x2 + 0) ≤ 0) (f21 : 1 * lineLength_0 + ((-1) * x2 + (1 * x3 + 0)) ≤ 24) (f22 : (-1) * lineLength_0 + (1 * x1 + (1 * x2 + 0)) ≤ 0) (f23 : way_0 (0) = order_0 (x5)) (f24 : (1 ≤ x1) ∧ (((x1 + x2) + 1) ≤ lineLength_0)) (f25 : x3 = 1) (f26 : CQ4 (a12_0) (way_0) (order_0) (x20) (x1) (x3) (x22) (x23) (x24)) (f28 : x20 + x3 ≤ 27) (f29 : x1 + x3 ≤ 24) (f30 : 1 * x23 + ((-1) * x5 + 0) ≤ 0) (f31 : (-1) * x23 + (1 * x5 + 0) ≤ 0) (f32 : 1 * x24 + ((-1) * x2 + 0) ≤ 0) (f33 : (-1) * x24 + (1 * x2 + 0) ≤ 0) (f34 : x13 + x8 ≤ 24) (f35 : x14 + x8 ≤ 24) (f36 : 1 * x17 + ((-1) * x5 + 0) ≤ 0) (f37 : (-1) * x17 + (1 * x5 + 0) ≤ 0) (f38 : 1 * x18 + ((-1) * x2 + 0) ≤ 0) (f39 : (-1) * x18 + (1 * x2 + 0) ≤ 0) (f41 : x13 + x8 ≤ 24) (f42 : x14 + x8 ≤ 24) (f43 : 1 * x17 + ((-1) * x5 + 0) ≤ 0) (f44 : (-1) * x17 + (1 * x5 + 0) ≤ 0) (f45 : 1 * x18 + ((-1) * x2 + 0) ≤ 0) (f46 : (-1) * x18 + (1 * x2 + 0) ≤ 0) (f47 : x14 = x1 + x3) (f48 : x13 = x1 + x2) (f49 : 0 ≤ x2) (f50 : 0 ≤ x8) (f51 : x10 ≤ x11) (f52 : x10 = x9 + x3) (f53 : x9 = x6 - x2) (f54 : x8 = x7 - x2) (f55 : x7 = x6 - x1) (hK_0_1 : ∀ j : Int, 0 ≤ j → j < 24 → 0 ≤ order_0 j ∧ order_0 j ≤ 23) (hK_0_6 : ∀ j : Int, 0 ≤ j → j < 27 → 0 ≤ way_0 j ∧ way_0 j ≤ 23) (hK_12_999 : ∀ j : Int, 0 ≤ j → j < 24 → 0 ≤ a12_0 j ∧ a12_0 j ≤ 23) (kz_0_3 : 0 ≤ lineLength_0 ∧ lineLength_0 ≤ 24) : 0 ≤ x26 ∧ x26 ≤ 24 := by
  first
    | omega
    | (exfalso; have h := lni_room ‹OFL _ _ _ _› ‹EWJ _ _ _ _› (by omega); omega)
    | (have h := (‹LNO _ _ _ _›).1; omega)
  
def o_Pn_replaceInLine_at_gg_5 : or_T := (75, 27, [(0, (2, 0, 0, [7])), (1, (0, 1, 24, [])), (2, (0, 0, 22, [])), (3, (0, 1, 1, [])), (4, (2, 0, 0, [102])), (5, (0, 3, 23, [])), (6, (0, 0, 24, [])), (7, (0, -24, 23, [])), (8, (0, 0, 47, [])), (9, (0, -22, 23, [])), (10, (0, -21, 24, [])), (11, (0, 24, 24, [])), (12, (2, 0, 0, [103])), (13, (0, 1, 46, [])), (14, (0, 2, 25, [])), (15, (2, 0, 0, [102])), (16, (0, 0, 24, [])), (17, (0, 3, 23, [])), (18, (0, 0, 24, [])), (19, (2, 0, 0, [106])), (20, (0, 0, 0, [])), (21, (2, 0, 0, [102])), (22, (0, 0, 24, [])), (23, (0, 3, 23, [])), (24, (0, 0, 24, [])), (25, (0, -21, 1, [])), (26, (0, -21, 25, []))], [(9, [19, 0], [6]), (9, [4, 0], [1]), (1, [26, 6, 25], []), (2, [25, 3, 2], []), (9, [6, 0], [3]), (21, [20, 3], [27]), (21, [1, 3], [24]), (24, [4, 21], []), (20, [22, 0], [50, 1, 0, 1003, 1, 2, 1, 0, 2, 1, 3]), (23, [23, 5], [0, 1, -1]), (23, [23, 5], [0, -1, 1]), (23, [24, 2], [0, 1, -1]), (23, [24, 2], [0, -1, 1]), (21, [13, 8], [24]), (21, [14, 8], [24]), (24, [4, 15], []), (20, [16, 0], [50, 1, 0, 1003, 1, 2, 1, 0, 2, 1, 3]), (23, [17, 5], [0, 1, -1]), (23, [17, 5], [0, -1, 1]), (23, [18, 2], [0, 1, -1]), (23, [18, 2], [0, -1, 1]), (20, [0, 2, 3], [30, 24, 1, 1, 3, -1, 0, 0, 1, 0, 0]), (20, [0, 1, 2], [30, 0, -1, 1, 3, 1, 0, 0, 1, 0, 0]), (20, [0, 5], [50, 0, 2, 6, 1, 1, 5, 3, 0, 6, 0, 0, 3, 0, 1, 1, 1]), (20, [1, 2, 0], [50, 1, 0, 2003, 2, 6, 0, 2, 0, 1, 1, 0, 0, 10, 4, 6, 4, 2, 1, 0, 1, 1, 0, 1, 2, 2, 3]), (20, [3], [50, 0, 0, 1, 2, 1, 0, 0, 1]), (20, [12, 19, 21, 20, 1, 3, 22, 23, 24], [61, 3, 895]), (102, [24], [10141204801825835211973625643008]), (21, [20, 3], [27]), (21, [1, 3], [24]), (23, [23, 5], [0, 1, -1]), (23, [23, 5], [0, -1, 1]), (23, [24, 2], [0, 1, -1]), (23, [24, 2], [0, -1, 1]), (21, [13, 8], [24]), (21, [14, 8], [24]), (23, [17, 5], [0, 1, -1]), (23, [17, 5], [0, -1, 1]), (23, [18, 2], [0, 1, -1]), (23, [18, 2], [0, -1, 1]), (102, [18], [10141204801825835211973625643008]), (21, [13, 8], [24]), (21, [14, 8], [24]), (23, [17, 5], [0, 1, -1]), (23, [17, 5], [0, -1, 1]), (23, [18, 2], [0, 1, -1]), (23, [18, 2], [0, -1, 1]), (1, [14, 1, 3], []), (1, [13, 1, 2], []), (8, [2], [3]), (8, [8], [3]), (7, [10, 11], [5]), (1, [10, 9, 3], []), (2, [9, 6, 2], []), (2, [8, 7, 2], []), (2, [7, 6, 1], [])], [(26, (0, 0, 24, []))], [], [], [], [(26, 25, 0, 24), (26, 6, -21, 1), (14, 1, 1, 1), (13, 2, 1, 24), (13, 1, 0, 22), (10, 9, 1, 1), (10, 6, -21, 25), (9, 6, -22, 24), (8, 7, -22, 24), (8, 6, -46, 23), (7, 6, -24, -1)])
theorem oo_Pn_replaceInLine_at_gg_5 {kA : Nat → ClassId} : or_ok PRD kA GG o_Pn_replaceInLine_at_gg_5 := by
  refine or_mk fun A ta ws vs hD hth hl => ?_
  intro t0 r0 t1 k1 t2 k2 t3 k3 t4 r4 t5 k5 t6 k6 t7 k7 t8 k8 t9 k9 t10 k10 t11 k11 t12 r12 t13 k13 t14 k14 t15 r15 t16 k16 t17 k17 t18 k18 t19 r19 t20 k20 t21 r21 t22 k22 t23 k23 t24 k24 t25 k25 t26 k26 d0 d1 d2 d3 d4 d5 d6 d7 d8 d9 d10 f0 f1 f2 f3 f4 f5 f6 f7 f8 f9 f10 f11 f12 f13 f14 f15 f16 f17 f18 f19 f20 f21 f22 f23 f24 f25 f26 ta1 w1 le1 s1 f28 f29 f30 f31 f32 f33 f34 f35 f36 f37 f38 f39 ta2 w2 le2 s2 f41 f42 f43 f44 f45 f46 f47 f48 f49 f50 f51 f52 f53 f54 f55
  replace f0 := shm_111 f0
  replace f1 := shm_215 f1
  replace f4 := shm_137 f4
  replace f7 := shm_5 f7
  replace f26 := shm_907 f26
  have q21 : n_v vs 21 = n_v vs 4 := f7.symm
  simp only [q21] at f26
  have cr_0_1 := fdq_92 hD hth r0
  have cr_0_6 := fdq_228 hD hth r0
  have cr_12_999 : ta (v_ad (n_v vs 12)) = some 103 := r12
  have ad_19 : v_ad (n_v vs 19) = w_ar ws (n_v vs 0) 6 := congrArg v_ad f0
  have ad_4 : v_ad (n_v vs 4) = w_ar ws (n_v vs 0) 1 := congrArg v_ad f1
  have g4 : v_iv (n_v vs 6) = w_fi ws (n_v vs 0) 3 := congrArg v_iv f4
  simp only [ad_4, ad_19] at f26
  have hK_0_1 := elq_48 hD hth cr_0_1
  have hK_0_6 := elq_141 hD hth cr_0_6
  have hK_12_999 := elq_140 hD hth cr_12_999
  have kz_0_3 := fdq_13 hD hth r0
  have hrf0 : 0 ≤ v_iv (n_v vs 26) ∧ v_iv (n_v vs 26) ≤ 24 := vc_Pn_replaceInLine_at_gg_5_r0 (v_iv (n_v vs 1)) (v_iv (n_v vs 2)) (v_iv (n_v vs 3)) (v_iv (n_v vs 5)) (v_iv (n_v vs 6)) (v_iv (n_v vs 7)) (v_iv (n_v vs 8)) (v_iv (n_v vs 9)) (v_iv (n_v vs 10)) (v_iv (n_v vs 11)) (v_iv (n_v vs 13)) (v_iv (n_v vs 14)) (v_iv (n_v vs 16)) (v_iv (n_v vs 17)) (v_iv (n_v vs 18)) (v_iv (n_v vs 20)) (v_iv (n_v vs 22)) (v_iv (n_v vs 23)) (v_iv (n_v vs 24)) (v_iv (n_v vs 25)) (v_iv (n_v vs 26)) (w_fi ws (n_v vs 0) 3) (w_ei ws (w_ar ws (n_v vs 0) 6)) (w_ei ws (w_ar ws (n_v vs 0) 1)) (w_ei ws (v_ad (n_v vs 12))) k1 k2 k3 k5 k6 k7 k8 k9 k10 k11 k13 k14 k16 k17 k18 k20 k22 k23 k24 k25 k26 d0 d1 d2 d3 d4 d5 d6 d7 d8 d9 d10 (shm_12 f2) (shm_14 f3) g4 (shm_141 f5) (shm_140 f6) (shm_903 f8) (shm_7 f9) (shm_22 f10) (shm_7 f11) (shm_22 f12) (shm_140 f13) (shm_140 f14) (shm_903 f16) (shm_7 f17) (shm_22 f18) (shm_7 f19) (shm_22 f20) (shm_138 f21) (shm_139 f22) (shm_900 f23) (shm_901 f24) (shm_510 f25) f26 (shm_141 f28) (shm_140 f29) (shm_7 f30) (shm_22 f31) (shm_7 f32) (shm_22 f33) (shm_140 f34) (shm_140 f35) (shm_7 f36) (shm_22 f37) (shm_7 f38) (shm_22 f39) (shm_140 f41) (shm_140 f42) (shm_7 f43) (shm_22 f44) (shm_7 f45) (shm_22 f46) (shm_12 f47) (shm_12 f48) (shm_32 f49) (shm_32 f50) (shm_24 f51) (shm_12 f52) (shm_14 f53) (shm_14 f54) (shm_14 f55) hK_0_1 hK_0_6 hK_12_999 kz_0_3
  have rf26 : tv_ok ta (0, 0, 24, []) (n_v vs 26) := tv_in t26 (by first | omega | grind) (by first | omega | grind)
  refine ⟨List.forall_mem_cons.mpr ⟨rf26, (fun _ h => (by cases h))⟩, [], trivial, ?_, (fun _ h => (by cases h))⟩
  rw [List.append_nil]
  exact (fun _ h => (by cases h))
set_option maxHeartbeats 4000000 in
theorem vc_Pn_replaceInLine_at_gg_6_0 (x1 : Int) (x2 : Int) (x3 : Int) (x5 : Int) (x6 : Int) (x7 : Int) (x8 : Int) (x9 : Int) (x10 : Int) (x11 : Int) (x13 : Int) (x14 : Int) (x16 : Int) (x17 : Int) (x18 : Int) (x20 : Int) (x22 : Int) (x23 : Int) (x24 : Int) (x25 : Int) (x26 : Int) (lineLength_0 : Int) (way_0 : Int → Int) (order_0 : Int → Int) (line_0 : Int → Int) (lineLength_1 : Int) (way_1 : Int → Int) (order_1 : Int → Int) (line_1 : Int → Int) (k1 : 1 ≤ x1 ∧ x1 ≤ 24) (k2 : 0 ≤ x2 ∧ x2 ≤ 22) (k3 : 1 ≤ x3 ∧ x3 ≤ 1) (k5 : 3 ≤ x5 ∧ x5 ≤ 23) (k6 : 0 ≤ x6 ∧ x6 ≤ 24) (k7 : (-24) ≤ x7 ∧ x7 ≤ 23) (k8 : 0 ≤ x8 ∧ x8 ≤ 47) (k9 : (-22) ≤ x9 ∧ x9 ≤ 23) (k10 : (-21) ≤ x10 ∧ x10 ≤ 24) (k11 : 24 ≤ x11 ∧ x11 ≤ 24) (k13 : 1 ≤ x13 ∧ x13 ≤ 46) (k14 : 2 ≤ x14 ∧ x14 ≤ 25) (k16 : 0 ≤ x16 ∧ x16 ≤ 24) (k17 : 3 ≤ x17 ∧ x17 ≤ 23) (k18 : 0 ≤ x18 ∧ x18 ≤ 24) (k20 : 0 ≤ x20 ∧ x20 ≤ 0) (k22 : 0 ≤ x22 ∧ x22 ≤ 24) (k23 : 3 ≤ x23 ∧ x23 ≤ 23) (k24 : 0 ≤ x24 ∧ x24 ≤ 24) (k25 : (-21) ≤ x25 ∧ x25 ≤ 1) (k26 : 0 ≤ x26 ∧ x26 ≤ 24) (d0 : x25 + 0 ≤ x26 ∧ x26 ≤ x25 + 24) (d1 : x6 + (-21) ≤ x26 ∧ x26 ≤ x6 + 1) (d2 : x1 + 1 ≤ x14 ∧ x14 ≤ x1 + 1) (d3 : x2 + 1 ≤ x13 ∧ x13 ≤ x2 + 24) (d4 : x1 + 0 ≤ x13 ∧ x13 ≤ x1 + 22) (d5 : x9 + 1 ≤ x10 ∧ x10 ≤ x9 + 1) (d6 : x6 + (-21) ≤ x10 ∧ x10 ≤ x6 + 25) (d7 : x6 + (-22) ≤ x9 ∧ x9 ≤ x6 + 24) (d8 : x7 + (-22) ≤ x8 ∧ x8 ≤ x7 + 24) (d9 : x6 + (-46) ≤ x8 ∧ x8 ≤ x6 + 23) (d10 : x6 + (-24) ≤ x7 ∧ x7 ≤ x6 + (-1)) (g0 : x26 = lineLength_0) (f4 : x20 + x3 ≤ 27) (f5 : x1 + x3 ≤ 24) (f7 : 1 * x23 + ((-1) * x5 + 0) ≤ 0) (f8 : (-1) * x23 + (1 * x5 + 0) ≤ 0) (f9 : 1 * x24 + ((-1) * x2 + 0) ≤ 0) (f10 : (-1) * x24 + (1 * x2 + 0) ≤ 0) (f11 : x13 + x8 ≤ 24) (f12 : x14 + x8 ≤ 24) (f14 : 1 * x17 + ((-1) * x5 + 0) ≤ 0) (f15 : (-1) * x17 + (1 * x5 + 0) ≤ 0) (f16 : 1 * x18 + ((-1) * x2 + 0) ≤ 0) (f17 : (-1) * x18 + (1 * x2 + 0) ≤ 0) (f18 : way_0 (0) = order_0 (x5)) (f19 : x3 = 1) (f20 : CQ4 (line_0) (way_0) (order_0) (x20) (x1) (x3) (x22) (x23) (x24)) (f22 : x26 = x6 + x25) (f23 : x25 = x3 - x2) (g24 : x6 = lineLength_1) (f25 : x20 + x3 ≤ 27) (f26 : x1 + x3 ≤ 24) (f27 : x22 = lineLength_1) (f28 : 1 * x23 + ((-1) * x5 + 0) ≤ 0) (f29 : (-1) * x23 + (1 * x5 + 0) ≤ 0) (f30 : 1 * x24 + ((-1) * x2 + 0) ≤ 0) (f31 : (-1) * x24 + (1 * x2 + 0) ≤ 0) (f32 : x13 + x8 ≤ 24) (f33 : x14 + x8 ≤ 24) (f34 : x16 = lineLength_1) (f35 : 1 * x17 + ((-1) * x5 + 0) ≤ 0) (f36 : (-1) * x17 + (1 * x5 + 0) ≤ 0) (f37 : 1 * x18 + ((-1) * x2 + 0) ≤ 0) (f38 : (-1) * x18 + (1 * x2 + 0) ≤ 0) (f39 : 1 * lineLength_1 + ((-1) * x2 + (1 * x3 + 0)) ≤ 24) (f40 : (-1) * lineLength_1 + (1 * x1 + (1 * x2 + 0)) ≤ 0) (f41 : way_1 (0) = order_1 (x5)) (f42 : (1 ≤ x1) ∧ (((x1 + x2) + 1) ≤ lineLength_1)) (f43 : x3 = 1) (f44 : CQ4 (line_1) (way_1) (order_1) (x20) (x1) (x3) (x22) (x23) (x24)) (f46 : x20 + x3 ≤ 27) (f47 : x1 + x3 ≤ 24) (f48 : 1 * x23 + ((-1) * x5 + 0) ≤ 0) (f49 : (-1) * x23 + (1 * x5 + 0) ≤ 0) (f50 : 1 * x24 + ((-1) * x2 + 0) ≤ 0) (f51 : (-1) * x24 + (1 * x2 + 0) ≤ 0) (f52 : x13 + x8 ≤ 24) (f53 : x14 + x8 ≤ 24) (f54 : 1 * x17 + ((-1) * x5 + 0) ≤ 0) (f55 : (-1) * x17 + (1 * x5 + 0) ≤ 0) (f56 : 1 * x18 + ((-1) * x2 + 0) ≤ 0) (f57 : (-1) * x18 + (1 * x2 + 0) ≤ 0) (f59 : x13 + x8 ≤ 24) (f60 : x14 + x8 ≤ 24) (f61 : 1 * x17 + ((-1) * x5 + 0) ≤ 0) (f62 : (-1) * x17 + (1 * x5 + 0) ≤ 0) (f63 : 1 * x18 + ((-1) * x2 + 0) ≤ 0) (f64 : (-1) * x18 + (1 * x2 + 0) ≤ 0) (f65 : x14 = x1 + x3) (f66 : x13 = x1 + x2) (f67 : 0 ≤ x2) (f68 : 0 ≤ x8) (f69 : x10 ≤ x11) (f70 : x10 = x9 + x3) (f71 : x9 = x6 - x2) (f72 : x8 = x7 - x2) (f73 : x7 = x6 - x1) (fe_0_3_1 : lineLength_0 = x26) (hE_0_1_1 : ∀ j : Int, order_0 j = order_1 j) (hK_0_1 : ∀ j : Int, 0 ≤ j → j < 24 → 0 ≤ order_0 j ∧ order_0 j ≤ 23) (hE_0_2_1 : ∀ j : Int, line_0 j = line_1 j) (hK_0_2 : ∀ j : Int, 0 ≤ j → j < 24 → 0 ≤ line_0 j ∧ line_0 j ≤ 23) (hE_0_6_1 : ∀ j : Int, way_0 j = way_1 j) (hK_0_6 : ∀ j : Int, 0 ≤ j → j < 27 → 0 ≤ way_0 j ∧ way_0 j ≤ 23) (kz_0_3 : 0 ≤ lineLength_0 ∧ lineLength_0 ≤ 24) : LNQ (lineLength_0) (line_0) (order_0) (x5) := by
  have e_hE_0_1_1 := funext hE_0_1_1; subst e_hE_0_1_1
  have e_hE_0_2_1 := funext hE_0_2_1; subst e_hE_0_2_1
  have e_hE_0_6_1 := funext hE_0_6_1; subst e_hE_0_6_1
  first
    | exact lnp_same ‹LNO _ _ _ _›
    | (rw [show x5 = x23 by omega]; exact lnp_4 (show CQ4 line_0 way_0 order_0 x20 x1 x3 x22 x23 x24 by assumption) (by omega) (by omega) (by omega))
  
def o_Pn_replaceInLine_at_gg_6 : or_T := (78, 27, [(0, (2, 0, 0, [7])), (1, (0, 1, 24, [])), (2, (0, 0, 22, [])), (3, (0, 1, 1, [])), (5, (0, 3, 23, [])), (6, (0, 0, 24, [])), (7, (0, -24, 23, [])), (8, (0, 0, 47, [])), (9, (0, -22, 23, [])), (10, (0, -21, 24, [])), (11, (0, 24, 24, [])), (13, (0, 1, 46, [])), (14, (0, 2, 25, [])), (16, (0, 0, 24, [])), (17, (0, 3, 23, [])), (18, (0, 0, 24, [])), (20, (0, 0, 0, [])), (22, (0, 0, 24, [])), (23, (0, 3, 23, [])), (24, (0, 0, 24, [])), (25, (0, -21, 1, [])), (26, (0, 0, 24, []))], [(9, [26, 0], [3]), (9, [19, 0], [6]), (9, [12, 0], [2]), (9, [4, 0], [1]), (21, [20, 3], [27]), (21, [1, 3], [24]), (24, [4, 21], []), (23, [23, 5], [0, 1, -1]), (23, [23, 5], [0, -1, 1]), (23, [24, 2], [0, 1, -1]), (23, [24, 2], [0, -1, 1]), (21, [13, 8], [24]), (21, [14, 8], [24]), (23, [17, 5], [0, 1, -1]), (23, [17, 5], [0, -1, 1]), (23, [18, 2], [0, 1, -1]), (23, [18, 2], [0, -1, 1]), (20, [0, 5], [50, 0, 2, 6, 1, 1, 5, 3, 0, 6, 0, 0, 3, 0, 1, 1, 1]), (20, [3], [50, 0, 0, 1, 2, 1, 0, 0, 1]), (20, [12, 19, 21, 20, 1, 3, 22, 23, 24], [61, 3, 895]), (101, [0, 26], [3]), (1, [26, 6, 25], []), (2, [25, 3, 2], []), (9, [6, 0], [3]), (21, [20, 3], [27]), (21, [1, 3], [24]), (20, [22, 0], [50, 1, 0, 1003, 1, 2, 1, 0, 2, 1, 3]), (23, [23, 5], [0, 1, -1]), (23, [23, 5], [0, -1, 1]), (23, [24, 2], [0, 1, -1]), (23, [24, 2], [0, -1, 1]), (21, [13, 8], [24]), (21, [14, 8], [24]), (20, [16, 0], [50, 1, 0, 1003, 1, 2, 1, 0, 2, 1, 3]), (23, [17, 5], [0, 1, -1]), (23, [17, 5], [0, -1, 1]), (23, [18, 2], [0, 1, -1]), (23, [18, 2], [0, -1, 1]), (20, [0, 2, 3], [30, 24, 1, 1, 3, -1, 0, 0, 1, 0, 0]), (20, [0, 1, 2], [30, 0, -1, 1, 3, 1, 0, 0, 1, 0, 0]), (20, [0, 5], [50, 0, 2, 6, 1, 1, 5, 3, 0, 6, 0, 0, 3, 0, 1, 1, 1]), (20, [1, 2, 0], [50, 1, 0, 2003, 2, 6, 0, 2, 0, 1, 1, 0, 0, 10, 4, 6, 4, 2, 1, 0, 1, 1, 0, 1, 2, 2, 3]), (20, [3], [50, 0, 0, 1, 2, 1, 0, 0, 1]), (20, [12, 19, 21, 20, 1, 3, 22, 23, 24], [61, 3, 895]), (102, [24], [10141204801825835211973625643008]), (21, [20, 3], [27]), (21, [1, 3], [24]), (23, [23, 5], [0, 1, -1]), (23, [23, 5], [0, -1, 1]), (23, [24, 2], [0, 1, -1]), (23, [24, 2], [0, -1, 1]), (21, [13, 8], [24]), (21, [14, 8], [24]), (23, [17, 5], [0, 1, -1]), (23, [17, 5], [0, -1, 1]), (23, [18, 2], [0, 1, -1]), (23, [18, 2], [0, -1, 1]), (102, [18], [10141204801825835211973625643008]), (21, [13, 8], [24]), (21, [14, 8], [24]), (23, [17, 5], [0, 1, -1]), (23, [17, 5], [0, -1, 1]), (23, [18, 2], [0, 1, -1]), (23, [18, 2], [0, -1, 1]), (1, [14, 1, 3], []), (1, [13, 1, 2], []), (8, [2], [3]), (8, [8], [3]), (7, [10, 11], [5]), (1, [10, 9, 3], []), (2, [9, 6, 2], []), (2, [8, 7, 2], []), (2, [7, 6, 1], [])], [], [], [(20, [0, 5], [60, 1, 2, 890, 3, 2, 1])], [], [(26, 25, 0, 24), (26, 6, -21, 1), (14, 1, 1, 1), (13, 2, 1, 24), (13, 1, 0, 22), (10, 9, 1, 1), (10, 6, -21, 25), (9, 6, -22, 24), (8, 7, -22, 24), (8, 6, -46, 23), (7, 6, -24, -1)])
theorem oo_Pn_replaceInLine_at_gg_6 {kA : Nat → ClassId} : or_ok PRD kA GG o_Pn_replaceInLine_at_gg_6 := by
  refine or_mk fun A ta ws vs hD hth hl => ?_
  intro t0 r0 t1 k1 t2 k2 t3 k3 t5 k5 t6 k6 t7 k7 t8 k8 t9 k9 t10 k10 t11 k11 t13 k13 t14 k14 t16 k16 t17 k17 t18 k18 t20 k20 t22 k22 t23 k23 t24 k24 t25 k25 t26 k26 d0 d1 d2 d3 d4 d5 d6 d7 d8 d9 d10 f0 f1 f2 f3 f4 f5 f6 f7 f8 f9 f10 f11 f12 f14 f15 f16 f17 f18 f19 f20 ta1 w1 le1 s1 f22 f23 f24 f25 f26 f27 f28 f29 f30 f31 f32 f33 f34 f35 f36 f37 f38 f39 f40 f41 f42 f43 f44 ta2 w2 le2 s2 f46 f47 f48 f49 f50 f51 f52 f53 f54 f55 f56 f57 ta3 w3 le3 s3 f59 f60 f61 f62 f63 f64 f65 f66 f67 f68 f69 f70 f71 f72 f73
  replace f0 := shm_137 f0
  replace f1 := shm_111 f1
  replace f2 := shm_120 f2
  replace f3 := shm_215 f3
  replace f6 := shm_5 f6
  replace f20 := shm_907 f20
  have s1 : (∀ b j, w_el ws b j = w_el w1 b j) ∧ ∀ b j, w_fd ws b j = if b = v_ad (n_v vs 0) ∧ j = 3 then n_v vs 26 else w_fd w1 b j := s1.2
  replace f24 := shm_137 f24
  replace f41 := shm_900 f41
  replace f44 := shm_907 f44
  have q21 : n_v vs 21 = n_v vs 4 := f6.symm
  simp only [q21] at f20 f44
  have ar_0_1_1 : w_ar w1 (n_v vs 0) 1 = w_ar ws (n_v vs 0) 1 := by show v_ad (w_fd w1 _ _) = v_ad (w_fd ws _ _); rw [s1.2, if_neg (fun e => absurd e.2 (by decide))]
  have cr_0_1 := fdq_92 hD hth r0
  have cr_0_2 := fdq_227 hD hth r0
  have ar_0_6_1 : w_ar w1 (n_v vs 0) 6 = w_ar ws (n_v vs 0) 6 := by show v_ad (w_fd w1 _ _) = v_ad (w_fd ws _ _); rw [s1.2, if_neg (fun e => absurd e.2 (by decide))]
  have cr_0_6 := fdq_228 hD hth r0
  have ad_19 : v_ad (n_v vs 19) = w_ar ws (n_v vs 0) 6 := congrArg v_ad f1
  have ad_12 : v_ad (n_v vs 12) = w_ar ws (n_v vs 0) 2 := congrArg v_ad f2
  have ad_4 : v_ad (n_v vs 4) = w_ar ws (n_v vs 0) 1 := congrArg v_ad f3
  have g0 : v_iv (n_v vs 26) = w_fi ws (n_v vs 0) 3 := congrArg v_iv f0
  simp only [ad_4, ad_12, ad_19] at f20
  have g24 : v_iv (n_v vs 6) = w_fi w1 (n_v vs 0) 3 := congrArg v_iv f24
  simp only [ar_0_1_1, ar_0_6_1, ad_4, ad_12, ad_19] at f41 f44
  have fe_0_3_1 : w_fi ws (n_v vs 0) 3 = v_iv (n_v vs 26) := by show v_iv (w_fd _ _ _) = _; rw [s1.2, if_pos ⟨rfl, rfl⟩]
  have hE_0_1_1 : ∀ j : Int, w_ei ws (w_ar ws (n_v vs 0) 1) j = w_ei w1 (w_ar ws (n_v vs 0) 1) j := fun j => s1.1 _ _
  have hK_0_1 := elq_48 hD hth cr_0_1
  have hE_0_2_1 : ∀ j : Int, w_ei ws (w_ar ws (n_v vs 0) 2) j = w_ei w1 (w_ar ws (n_v vs 0) 2) j := fun j => s1.1 _ _
  have hK_0_2 := elq_140 hD hth cr_0_2
  have hE_0_6_1 : ∀ j : Int, w_ei ws (w_ar ws (n_v vs 0) 6) j = w_ei w1 (w_ar ws (n_v vs 0) 6) j := fun j => s1.1 _ _
  have hK_0_6 := elq_141 hD hth cr_0_6
  have kz_0_3 := fdq_13 hD hth r0
  have nf0 : fc_1 PRD (20, [0, 5], [60, 1, 2, 890, 3, 2, 1]) ws (vs) := ⟨nf_in hl rfl, sgq_902 (vc_Pn_replaceInLine_at_gg_6_0 (v_iv (n_v vs 1)) (v_iv (n_v vs 2)) (v_iv (n_v vs 3)) (v_iv (n_v vs 5)) (v_iv (n_v vs 6)) (v_iv (n_v vs 7)) (v_iv (n_v vs 8)) (v_iv (n_v vs 9)) (v_iv (n_v vs 10)) (v_iv (n_v vs 11)) (v_iv (n_v vs 13)) (v_iv (n_v vs 14)) (v_iv (n_v vs 16)) (v_iv (n_v vs 17)) (v_iv (n_v vs 18)) (v_iv (n_v vs 20)) (v_iv (n_v vs 22)) (v_iv (n_v vs 23)) (v_iv (n_v vs 24)) (v_iv (n_v vs 25)) (v_iv (n_v vs 26)) (w_fi ws (n_v vs 0) 3) (w_ei ws (w_ar ws (n_v vs 0) 6)) (w_ei ws (w_ar ws (n_v vs 0) 1)) (w_ei ws (w_ar ws (n_v vs 0) 2)) (w_fi w1 (n_v vs 0) 3) (w_ei w1 (w_ar ws (n_v vs 0) 6)) (w_ei w1 (w_ar ws (n_v vs 0) 1)) (w_ei w1 (w_ar ws (n_v vs 0) 2)) k1 k2 k3 k5 k6 k7 k8 k9 k10 k11 k13 k14 k16 k17 k18 k20 k22 k23 k24 k25 k26 d0 d1 d2 d3 d4 d5 d6 d7 d8 d9 d10 g0 (shm_141 f4) (shm_140 f5) (shm_7 f7) (shm_22 f8) (shm_7 f9) (shm_22 f10) (shm_140 f11) (shm_140 f12) (shm_7 f14) (shm_22 f15) (shm_7 f16) (shm_22 f17) (shm_900 f18) (shm_510 f19) f20 (shm_12 f22) (shm_14 f23) g24 (shm_141 f25) (shm_140 f26) (shm_903 f27) (shm_7 f28) (shm_22 f29) (shm_7 f30) (shm_22 f31) (shm_140 f32) (shm_140 f33) (shm_903 f34) (shm_7 f35) (shm_22 f36) (shm_7 f37) (shm_22 f38) (shm_138 f39) (shm_139 f40) f41 (shm_901 f42) (shm_510 f43) f44 (shm_141 f46) (shm_140 f47) (shm_7 f48) (shm_22 f49) (shm_7 f50) (shm_22 f51) (shm_140 f52) (shm_140 f53) (shm_7 f54) (shm_22 f55) (shm_7 f56) (shm_22 f57) (shm_140 f59) (shm_140 f60) (shm_7 f61) (shm_22 f62) (shm_7 f63) (shm_22 f64) (shm_12 f65) (shm_12 f66) (shm_32 f67) (shm_32 f68) (shm_24 f69) (shm_12 f70) (shm_14 f71) (shm_14 f72) (shm_14 f73) fe_0_3_1 hE_0_1_1 hK_0_1 hE_0_2_1 hK_0_2 hE_0_6_1 hK_0_6 kz_0_3)⟩
  refine ⟨(fun _ h => (by cases h)), [], trivial, ?_, (fun _ h => (by cases h))⟩
  rw [List.append_nil]
  exact List.forall_mem_cons.mpr ⟨⟨show (20 : Nat) < 100 from by decide, nf0⟩, (fun _ h => (by cases h))⟩
set_option maxHeartbeats 4000000 in
theorem vc_Pn_replaceInLine_at_gg_7_0 (x1 : Int) (x2 : Int) (x3 : Int) (x5 : Int) (x6 : Int) (x7 : Int) (x8 : Int) (x9 : Int) (x10 : Int) (x11 : Int) (lineLength_0 : Int) (line_0 : Int → Int) (order_0 : Int → Int) (way_0 : Int → Int) (k1 : 1 ≤ x1 ∧ x1 ≤ 24) (k2 : (-24) ≤ x2 ∧ x2 ≤ (-1)) (k3 : 1 ≤ x3 ∧ x3 ≤ 1) (k5 : 3 ≤ x5 ∧ x5 ≤ 23) (k6 : 0 ≤ x6 ∧ x6 ≤ 24) (k7 : (-24) ≤ x7 ∧ x7 ≤ 23) (k8 : 0 ≤ x8 ∧ x8 ≤ 47) (k9 : (-22) ≤ x9 ∧ x9 ≤ 23) (k10 : (-21) ≤ x10 ∧ x10 ≤ 24) (k11 : 24 ≤ x11 ∧ x11 ≤ 24) (d0 : x9 + 1 ≤ x10 ∧ x10 ≤ x9 + 1) (d1 : x6 + (-21) ≤ x10 ∧ x10 ≤ x6 + 25) (d2 : x6 + (-22) ≤ x9 ∧ x9 ≤ x6 + 24) (d3 : x7 + (-22) ≤ x8 ∧ x8 ≤ x7 + 24) (d4 : x6 + (-46) ≤ x8 ∧ x8 ≤ x6 + 23) (d5 : x6 + (-24) ≤ x7 ∧ x7 ≤ x6 + (-1)) (f1 : x2 < 0) (f2 : 0 ≤ x8) (f3 : x10 ≤ x11) (f4 : x10 = x9 + x3) (f5 : x9 = x6 - x2) (g6 : x6 = lineLength_0) (f7 : x8 = x7 - x2) (f8 : x7 = x6 - x1) (f9 : LNO (lineLength_0) (line_0) (order_0) (x5)) (f10 : way_0 (0) = order_0 (x5)) (f11 : (1 ≤ x1) ∧ (((x1 + x2) + 1) ≤ lineLength_0)) (f12 : x3 = 1) (hK_0_1 : ∀ j : Int, 0 ≤ j → j < 24 → 0 ≤ order_0 j ∧ order_0 j ≤ 23) (hK_0_2 : ∀ j : Int, 0 ≤ j → j < 24 → 0 ≤ line_0 j ∧ line_0 j ≤ 23) (hK_0_6 : ∀ j : Int, 0 ≤ j → j < 27 → 0 ≤ way_0 j ∧ way_0 j ≤ 23) (kz_0_3 : 0 ≤ lineLength_0 ∧ lineLength_0 ≤ 24) : LNQ (lineLength_0) (line_0) (order_0) (x5) := by
  first
    | exact lnp_same ‹LNO _ _ _ _›
    | (rw [show x5 = x23 by omega]; exact lnp_4 (show CQ4 line_0 way_0 order_0 x20 x1 x3 x22 x23 x24 by assumption) (by omega) (by omega) (by omega))
  
def o_Pn_replaceInLine_at_gg_7 : or_T := (32, 12, [(0, (2, 0, 0, [7])), (1, (0, 1, 24, [])), (2, (0, -24, -1, [])), (3, (0, 1, 1, [])), (4, (2, 0, 0, [102])), (5, (0, 3, 23, [])), (6, (0, 0, 24, [])), (7, (0, -24, 23, [])), (8, (0, 0, 47, [])), (9, (0, -22, 23, [])), (10, (0, -21, 24, [])), (11, (0, 24, 24, []))], [(9, [4, 0], [1]), (8, [2], [2]), (8, [8], [3]), (7, [10, 11], [5]), (1, [10, 9, 3], []), (2, [9, 6, 2], []), (9, [6, 0], [3]), (2, [8, 7, 2], []), (2, [7, 6, 1], []), (20, [0, 5], [60, 1, 2, 889, 3, 2, 1]), (20, [0, 5], [50, 0, 2, 6, 1, 1, 5, 3, 0, 6, 0, 0, 3, 0, 1, 1, 1]), (20, [1, 2, 0], [50, 1, 0, 2003, 2, 6, 0, 2, 0, 1, 1, 0, 0, 10, 4, 6, 4, 2, 1, 0, 1, 1, 0, 1, 2, 2, 3]), (20, [3], [50, 0, 0, 1, 2, 1, 0, 0, 1])], [], [], [(20, [0, 5], [60, 1, 2, 890, 3, 2, 1])], [], [(10, 9, 1, 1), (10, 6, -21, 25), (9, 6, -22, 24), (8, 7, -22, 24), (8, 6, -46, 23), (7, 6, -24, -1)])
theorem oo_Pn_replaceInLine_at_gg_7 {kA : Nat → ClassId} : or_ok PRD kA GG o_Pn_replaceInLine_at_gg_7 := by
  refine or_mk fun A ta ws vs hD hth hl => ?_
  intro t0 r0 t1 k1 t2 k2 t3 k3 t4 r4 t5 k5 t6 k6 t7 k7 t8 k8 t9 k9 t10 k10 t11 k11 d0 d1 d2 d3 d4 d5 f0 f1 f2 f3 f4 f5 f6 f7 f8 f9 f10 f11 f12
  replace f6 := shm_137 f6
  have cr_0_1 := fdq_92 hD hth r0
  have cr_0_2 := fdq_227 hD hth r0
  have cr_0_6 := fdq_228 hD hth r0
  have g6 : v_iv (n_v vs 6) = w_fi ws (n_v vs 0) 3 := congrArg v_iv f6
  have hK_0_1 := elq_48 hD hth cr_0_1
  have hK_0_2 := elq_140 hD hth cr_0_2
  have hK_0_6 := elq_141 hD hth cr_0_6
  have kz_0_3 := fdq_13 hD hth r0
  have nf0 : fc_1 PRD (20, [0, 5], [60, 1, 2, 890, 3, 2, 1]) ws (vs) := ⟨nf_in hl rfl, sgq_902 (vc_Pn_replaceInLine_at_gg_7_0 (v_iv (n_v vs 1)) (v_iv (n_v vs 2)) (v_iv (n_v vs 3)) (v_iv (n_v vs 5)) (v_iv (n_v vs 6)) (v_iv (n_v vs 7)) (v_iv (n_v vs 8)) (v_iv (n_v vs 9)) (v_iv (n_v vs 10)) (v_iv (n_v vs 11)) (w_fi ws (n_v vs 0) 3) (w_ei ws (w_ar ws (n_v vs 0) 2)) (w_ei ws (w_ar ws (n_v vs 0) 1)) (w_ei ws (w_ar ws (n_v vs 0) 6)) k1 k2 k3 k5 k6 k7 k8 k9 k10 k11 d0 d1 d2 d3 d4 d5 (shm_39 f1) (shm_32 f2) (shm_24 f3) (shm_12 f4) (shm_14 f5) g6 (shm_14 f7) (shm_14 f8) (shm_899 f9) (shm_900 f10) (shm_901 f11) (shm_510 f12) hK_0_1 hK_0_2 hK_0_6 kz_0_3)⟩
  refine ⟨(fun _ h => (by cases h)), [], trivial, ?_, (fun _ h => (by cases h))⟩
  rw [List.append_nil]
  exact List.forall_mem_cons.mpr ⟨⟨show (20 : Nat) < 100 from by decide, nf0⟩, (fun _ h => (by cases h))⟩
def n_Pn_replaceInLine_at_gg_an : List an_T := []
def t_Pn_replaceInLine_at_gg_ct : ct_L := [(150, 171, e_acp_10), (192, 171, e_acp_11)]
set_option maxRecDepth 100000 in
theorem c_Pn_replaceInLine_at_gg {l : Launch} {D : va_G} {kA : Nat → ClassId} : ct_ok PRD l D kA GG y_Pn_replaceInLine_at_gg z_Pn_replaceInLine_at_gg e_Pn_replaceInLine_at_gg := chk_all_ok (FT := [(22, 7, 2), (25, 7, 3), (35, 7, 6)]) (PT := [(25, 7, 3, .int)]) (CT := t_Pn_replaceInLine_at_gg_ct) (KT := []) (NT := []) (AN := n_Pn_replaceInLine_at_gg_an) (OT := [o_Pn_replaceInLine_at_gg_0, o_Pn_replaceInLine_at_gg_1, o_Pn_replaceInLine_at_gg_2, o_Pn_replaceInLine_at_gg_3, o_Pn_replaceInLine_at_gg_4, o_Pn_replaceInLine_at_gg_5, o_Pn_replaceInLine_at_gg_6, o_Pn_replaceInLine_at_gg_7]) 0 204 (List.forall_mem_cons.mpr ⟨oo_Pn_replaceInLine_at_gg_0, List.forall_mem_cons.mpr ⟨oo_Pn_replaceInLine_at_gg_1, List.forall_mem_cons.mpr ⟨oo_Pn_replaceInLine_at_gg_2, List.forall_mem_cons.mpr ⟨oo_Pn_replaceInLine_at_gg_3, List.forall_mem_cons.mpr ⟨oo_Pn_replaceInLine_at_gg_4, List.forall_mem_cons.mpr ⟨oo_Pn_replaceInLine_at_gg_5, List.forall_mem_cons.mpr ⟨oo_Pn_replaceInLine_at_gg_6, List.forall_mem_cons.mpr ⟨oo_Pn_replaceInLine_at_gg_7, List.forall_mem_nil _⟩⟩⟩⟩⟩⟩⟩⟩) (by decide +kernel) ⟨List.forall_mem_cons.mpr ⟨gf_Pn_22, List.forall_mem_cons.mpr ⟨gf_Pn_25, List.forall_mem_cons.mpr ⟨gf_Pn_35, List.forall_mem_nil _⟩⟩⟩, List.forall_mem_cons.mpr ⟨pf_Pn_25, List.forall_mem_nil _⟩, List.forall_mem_cons.mpr ⟨cl_copyU (na := 3) rfl rfl (by decide) (Or.inl (by decide)) (fun U U_zq xs sp dp n a b c d e f e1 e2 e3 h => cq1_cq2 (U := U) (U_zq := U_zq) (xs := xs) (sp := sp) (dp := dp) (n := n) a b c d e f e1 e2 e3 h) wm_1565 wm_750 wm_749 wm_15, List.forall_mem_cons.mpr ⟨cl_copyU (na := 3) rfl rfl (by decide) (Or.inl (by decide)) (fun U U_zq xs sp dp n a b c d e f e1 e2 e3 h => cq3_cq4 (U := U) (U_zq := U_zq) (xs := xs) (sp := sp) (dp := dp) (n := n) a b c d e f e1 e2 e3 h) wm_1565 wm_750 wm_749 wm_15, List.forall_mem_nil _⟩⟩, List.forall_mem_nil _, List.forall_mem_nil _, GG_pl⟩ (by decide +kernel)
set_option maxHeartbeats 4000000 in
theorem vc_Pn_replaceInLine_at_gi_0_0 (x1 : Int) (x2 : Int) (x3 : Int) (x5 : Int) (x6 : Int) (x7 : Int) (x8 : Int) (x9 : Int) (x10 : Int) (x11 : Int) (x12 : Int) (x13 : Int) (lineLength_0 : Int) (line_0 : Int → Int) (way_0 : Int → Int) (k1 : 0 ≤ x1 ∧ x1 ≤ 23) (k2 : 0 ≤ x2 ∧ x2 ≤ 0) (k3 : 1 ≤ x3 ∧ x3 ≤ 23) (k5 : (-2147483648) ≤ x5 ∧ x5 ≤ 2147483647) (k6 : (-2147483648) ≤ x6 ∧ x6 ≤ 2147483647) (k7 : 0 ≤ x7 ∧ x7 ≤ 24) (k8 : 2 ≤ x8 ∧ x8 ≤ 24) (k9 : (-23) ≤ x9 ∧ x9 ≤ 24) (k10 : (-23) ≤ x10 ∧ x10 ≤ 24) (k11 : 2 ≤ x11 ∧ x11 ≤ 24) (k12 : 25 ≤ x12 ∧ x12 ≤ 47) (k13 : 24 ≤ x13 ∧ x13 ≤ 24) (d0 : x3 + 0 ≤ x12 ∧ x12 ≤ x3 + 24) (d1 : x11 + 0 ≤ x12 ∧ x12 ≤ x11 + 23) (d2 : x8 + 0 ≤ x12 ∧ x12 ≤ x8 + 23) (d3 : x8 + 0 ≤ x11 ∧ x11 ≤ x8 + 0) (d4 : x9 + 0 ≤ x10 ∧ x10 ≤ x9 + 0) (d5 : x8 + (-23) ≤ x10 ∧ x10 ≤ x8 + 0) (d6 : x8 + (-23) ≤ x9 ∧ x9 ≤ x8 + 0) (f1 : x13 < x12) (f2 : x12 = x11 + x3) (f3 : x11 = x8 - x2) (g4 : x8 = lineLength_0) (f5 : x10 = x9 - x2) (f6 : x9 = x8 - x1) (f7 : OFL (lineLength_0) (line_0) (x5) (x6)) (f8 : EWJ (way_0) (x5) (x6) (x3)) (f9 : (0 ≤ x1) ∧ (x1 ≤ lineLength_0)) (f10 : x2 = 0) (f11 : 1 ≤ x3) (f12 : (x7 + 2) ≤ lineLength_0) (hK_0_2 : ∀ j : Int, 0 ≤ j → j < 24 → 0 ≤ line_0 j ∧ line_0 j ≤ 23) (hK_0_6 : ∀ j : Int, 0 ≤ j → j < 27 → 0 ≤ way_0 j ∧ way_0 j ≤ 23) (kz_0_3 : 0 ≤ lineLength_0 ∧ lineLength_0 ≤ 24) : OFP (lineLength_0) (line_0) (x5) (x6) := by
  first
    | (exfalso; have h := lni_room ‹OFL _ _ _ _› ‹EWJ _ _ _ _› (by omega); omega)
    | (have h := (show DRQ4 line_0 way_0 way_0 x21 x1 x3 x23 x24 x25 by assumption)
       rw [show x24 = x5 by omega, show x25 = x6 by omega] at h
       exact ofp_4 h (by omega))
  
set_option maxHeartbeats 4000000 in
theorem vc_Pn_replaceInLine_at_gi_0_1 (x1 : Int) (x2 : Int) (x3 : Int) (x5 : Int) (x6 : Int) (x7 : Int) (x8 : Int) (x9 : Int) (x10 : Int) (x11 : Int) (x12 : Int) (x13 : Int) (lineLength_0 : Int) (line_0 : Int → Int) (way_0 : Int → Int) (k1 : 0 ≤ x1 ∧ x1 ≤ 23) (k2 : 0 ≤ x2 ∧ x2 ≤ 0) (k3 : 1 ≤ x3 ∧ x3 ≤ 23) (k5 : (-2147483648) ≤ x5 ∧ x5 ≤ 2147483647) (k6 : (-2147483648) ≤ x6 ∧ x6 ≤ 2147483647) (k7 : 0 ≤ x7 ∧ x7 ≤ 24) (k8 : 2 ≤ x8 ∧ x8 ≤ 24) (k9 : (-23) ≤ x9 ∧ x9 ≤ 24) (k10 : (-23) ≤ x10 ∧ x10 ≤ 24) (k11 : 2 ≤ x11 ∧ x11 ≤ 24) (k12 : 25 ≤ x12 ∧ x12 ≤ 47) (k13 : 24 ≤ x13 ∧ x13 ≤ 24) (d0 : x3 + 0 ≤ x12 ∧ x12 ≤ x3 + 24) (d1 : x11 + 0 ≤ x12 ∧ x12 ≤ x11 + 23) (d2 : x8 + 0 ≤ x12 ∧ x12 ≤ x8 + 23) (d3 : x8 + 0 ≤ x11 ∧ x11 ≤ x8 + 0) (d4 : x9 + 0 ≤ x10 ∧ x10 ≤ x9 + 0) (d5 : x8 + (-23) ≤ x10 ∧ x10 ≤ x8 + 0) (d6 : x8 + (-23) ≤ x9 ∧ x9 ≤ x8 + 0) (f1 : x13 < x12) (f2 : x12 = x11 + x3) (f3 : x11 = x8 - x2) (g4 : x8 = lineLength_0) (f5 : x10 = x9 - x2) (f6 : x9 = x8 - x1) (f7 : OFL (lineLength_0) (line_0) (x5) (x6)) (f8 : EWJ (way_0) (x5) (x6) (x3)) (f9 : (0 ≤ x1) ∧ (x1 ≤ lineLength_0)) (f10 : x2 = 0) (f11 : 1 ≤ x3) (f12 : (x7 + 2) ≤ lineLength_0) (hK_0_2 : ∀ j : Int, 0 ≤ j → j < 24 → 0 ≤ line_0 j ∧ line_0 j ≤ 23) (hK_0_6 : ∀ j : Int, 0 ≤ j → j < 27 → 0 ≤ way_0 j ∧ way_0 j ≤ 23) (kz_0_3 : 0 ≤ lineLength_0 ∧ lineLength_0 ≤ 24) : (x7 + 3) ≤ lineLength_0 := by
  first
    | omega
    | (exfalso; have h := lni_room ‹OFL _ _ _ _› ‹EWJ _ _ _ _› (by omega); omega)
    | (have h := (‹LNO _ _ _ _›).1; omega)
  
def o_Pn_replaceInLine_at_gi_0 : or_T := (32, 14, [(0, (2, 0, 0, [7])), (1, (0, 0, 23, [])), (2, (0, 0, 0, [])), (3, (0, 1, 23, [])), (4, (2, 0, 0, [106])), (5, (0, -2147483648, 2147483647, [])), (6, (0, -2147483648, 2147483647, [])), (7, (0, 0, 24, [])), (8, (0, 2, 24, [])), (9, (0, -23, 24, [])), (10, (0, -23, 24, [])), (11, (0, 2, 24, [])), (12, (0, 25, 47, [])), (13, (0, 24, 24, []))], [(9, [4, 0], [6]), (7, [12, 13], [4]), (1, [12, 11, 3], []), (2, [11, 8, 2], []), (9, [8, 0], [3]), (2, [10, 9, 2], []), (2, [9, 8, 1], []), (20, [0, 5, 6], [60, 1, 1, 900, 3, 2]), (20, [0, 5, 6, 3], [60, 0, 1, 909, 6]), (20, [1, 0], [50, 1, 0, 1003, 2, 6, 0, 2, 0, 0, 1, 0, 0, 2, 1, 0, 2, 1, 3]), (20, [2], [50, 0, 0, 1, 2, 1, 0, 0, 0]), (20, [3], [50, 0, 0, 0, 2, 0, 1, 1, 0]), (20, [7, 0], [50, 1, 0, 1003, 0, 6, 4, 2, 1, 0, 0, 2, 2, 1, 3])], [], [], [(20, [0, 5, 6], [60, 1, 1, 901, 3, 2]), (20, [7, 0], [50, 1, 0, 1003, 0, 6, 4, 2, 1, 0, 0, 3, 2, 1, 3])], [], [(12, 3, 0, 24), (12, 11, 0, 23), (12, 8, 0, 23), (11, 8, 0, 0), (10, 9, 0, 0), (10, 8, -23, 0), (9, 8, -23, 0)])
theorem oo_Pn_replaceInLine_at_gi_0 {kA : Nat → ClassId} : or_ok PRD kA GG o_Pn_replaceInLine_at_gi_0 := by
  refine or_mk fun A ta ws vs hD hth hl => ?_
  intro t0 r0 t1 k1 t2 k2 t3 k3 t4 r4 t5 k5 t6 k6 t7 k7 t8 k8 t9 k9 t10 k10 t11 k11 t12 k12 t13 k13 d0 d1 d2 d3 d4 d5 d6 f0 f1 f2 f3 f4 f5 f6 f7 f8 f9 f10 f11 f12
  replace f4 := shm_137 f4
  have cr_0_2 := fdq_227 hD hth r0
  have cr_0_6 := fdq_228 hD hth r0
  have g4 : v_iv (n_v vs 8) = w_fi ws (n_v vs 0) 3 := congrArg v_iv f4
  have hK_0_2 := elq_140 hD hth cr_0_2
  have hK_0_6 := elq_141 hD hth cr_0_6
  have kz_0_3 := fdq_13 hD hth r0
  have nf0 : fc_1 PRD (20, [0, 5, 6], [60, 1, 1, 901, 3, 2]) ws (vs) := ⟨nf_in hl rfl, sgq_912 (vc_Pn_replaceInLine_at_gi_0_0 (v_iv (n_v vs 1)) (v_iv (n_v vs 2)) (v_iv (n_v vs 3)) (v_iv (n_v vs 5)) (v_iv (n_v vs 6)) (v_iv (n_v vs 7)) (v_iv (n_v vs 8)) (v_iv (n_v vs 9)) (v_iv (n_v vs 10)) (v_iv (n_v vs 11)) (v_iv (n_v vs 12)) (v_iv (n_v vs 13)) (w_fi ws (n_v vs 0) 3) (w_ei ws (w_ar ws (n_v vs 0) 2)) (w_ei ws (w_ar ws (n_v vs 0) 6)) k1 k2 k3 k5 k6 k7 k8 k9 k10 k11 k12 k13 d0 d1 d2 d3 d4 d5 d6 (shm_21 f1) (shm_12 f2) (shm_14 f3) g4 (shm_14 f5) (shm_14 f6) (shm_908 f7) (shm_909 f8) (shm_910 f9) (shm_649 f10) (shm_710 f11) (shm_911 f12) hK_0_2 hK_0_6 kz_0_3)⟩
  have nf1 : fc_1 PRD (20, [7, 0], [50, 1, 0, 1003, 0, 6, 4, 2, 1, 0, 0, 3, 2, 1, 3]) ws (vs) := ⟨nf_in hl rfl, sgq_913 (vc_Pn_replaceInLine_at_gi_0_1 (v_iv (n_v vs 1)) (v_iv (n_v vs 2)) (v_iv (n_v vs 3)) (v_iv (n_v vs 5)) (v_iv (n_v vs 6)) (v_iv (n_v vs 7)) (v_iv (n_v vs 8)) (v_iv (n_v vs 9)) (v_iv (n_v vs 10)) (v_iv (n_v vs 11)) (v_iv (n_v vs 12)) (v_iv (n_v vs 13)) (w_fi ws (n_v vs 0) 3) (w_ei ws (w_ar ws (n_v vs 0) 2)) (w_ei ws (w_ar ws (n_v vs 0) 6)) k1 k2 k3 k5 k6 k7 k8 k9 k10 k11 k12 k13 d0 d1 d2 d3 d4 d5 d6 (shm_21 f1) (shm_12 f2) (shm_14 f3) g4 (shm_14 f5) (shm_14 f6) (shm_908 f7) (shm_909 f8) (shm_910 f9) (shm_649 f10) (shm_710 f11) (shm_911 f12) hK_0_2 hK_0_6 kz_0_3)⟩
  refine ⟨(fun _ h => (by cases h)), [], trivial, ?_, (fun _ h => (by cases h))⟩
  rw [List.append_nil]
  exact List.forall_mem_cons.mpr ⟨⟨show (20 : Nat) < 100 from by decide, nf0⟩, List.forall_mem_cons.mpr ⟨⟨show (20 : Nat) < 100 from by decide, nf1⟩, (fun _ h => (by cases h))⟩⟩
set_option maxHeartbeats 4000000 in
theorem vc_Pn_replaceInLine_at_gi_1_0 (x1 : Int) (x2 : Int) (x3 : Int) (x5 : Int) (x6 : Int) (x7 : Int) (x8 : Int) (x9 : Int) (x10 : Int) (x11 : Int) (x12 : Int) (x13 : Int) (lineLength_0 : Int) (line_0 : Int → Int) (way_0 : Int → Int) (k1 : 0 ≤ x1 ∧ x1 ≤ 23) (k2 : 0 ≤ x2 ∧ x2 ≤ 0) (k3 : 0 ≤ x3 ∧ x3 ≤ 23) (k5 : (-2147483648) ≤ x5 ∧ x5 ≤ 2147483647) (k6 : (-2147483648) ≤ x6 ∧ x6 ≤ 2147483647) (k7 : 0 ≤ x7 ∧ x7 ≤ 24) (k8 : 0 ≤ x8 ∧ x8 ≤ 22) (k9 : (-23) ≤ x9 ∧ x9 ≤ (-1)) (k10 : (-23) ≤ x10 ∧ x10 ≤ (-1)) (k11 : 0 ≤ x11 ∧ x11 ≤ 24) (k12 : 0 ≤ x12 ∧ x12 ≤ 24) (k13 : 24 ≤ x13 ∧ x13 ≤ 24) (d0 : x3 + 0 ≤ x12 ∧ x12 ≤ x3 + 24) (d1 : x11 + 0 ≤ x12 ∧ x12 ≤ x11 + 23) (d2 : x8 + 0 ≤ x12 ∧ x12 ≤ x8 + 23) (d3 : x8 + 0 ≤ x11 ∧ x11 ≤ x8 + 0) (d4 : x9 + 0 ≤ x10 ∧ x10 ≤ x9 + 0) (d5 : x8 + (-23) ≤ x10 ∧ x10 ≤ x8 + 0) (d6 : x8 + (-23) ≤ x9 ∧ x9 ≤ x8 + 0) (f1 : x10 < 0) (f2 : x12 ≤ x13) (f3 : x12 = x11 + x3) (f4 : x11 = x8 - x2) (g5 : x8 = lineLength_0) (f6 : x10 = x9 - x2) (f7 : x9 = x8 - x1) (f8 : OFL (lineLength_0) (line_0) (x5) (x6)) (f9 : EWJ (way_0) (x5) (x6) (x3)) (f10 : (0 ≤ x1) ∧ (x1 ≤ lineLength_0)) (f11 : x2 = 0) (f12 : 1 ≤ x3) (f13 : (x7 + 2) ≤ lineLength_0) (hK_0_2 : ∀ j : Int, 0 ≤ j → j < 24 → 0 ≤ line_0 j ∧ line_0 j ≤ 23) (hK_0_6 : ∀ j : Int, 0 ≤ j → j < 27 → 0 ≤ way_0 j ∧ way_0 j ≤ 23) (kz_0_3 : 0 ≤ lineLength_0 ∧ lineLength_0 ≤ 24) : OFP (lineLength_0) (line_0) (x5) (x6) := by
  first
    | (exfalso; have h := lni_room ‹OFL _ _ _ _› ‹EWJ _ _ _ _› (by omega); omega)
    | (have h := (show DRQ4 line_0 way_0 way_0 x21 x1 x3 x23 x24 x25 by assumption)
       rw [show x24 = x5 by omega, show x25 = x6 by omega] at h
       exact ofp_4 h (by omega))
  
set_option maxHeartbeats 4000000 in
theorem vc_Pn_replaceInLine_at_gi_1_1 (x1 : Int) (x2 : Int) (x3 : Int) (x5 : Int) (x6 : Int) (x7 : Int) (x8 : Int) (x9 : Int) (x10 : Int) (x11 : Int) (x12 : Int) (x13 : Int) (lineLength_0 : Int) (line_0 : Int → Int) (way_0 : Int → Int) (k1 : 0 ≤ x1 ∧ x1 ≤ 23) (k2 : 0 ≤ x2 ∧ x2 ≤ 0) (k3 : 0 ≤ x3 ∧ x3 ≤ 23) (k5 : (-2147483648) ≤ x5 ∧ x5 ≤ 2147483647) (k6 : (-2147483648) ≤ x6 ∧ x6 ≤ 2147483647) (k7 : 0 ≤ x7 ∧ x7 ≤ 24) (k8 : 0 ≤ x8 ∧ x8 ≤ 22) (k9 : (-23) ≤ x9 ∧ x9 ≤ (-1)) (k10 : (-23) ≤ x10 ∧ x10 ≤ (-1)) (k11 : 0 ≤ x11 ∧ x11 ≤ 24) (k12 : 0 ≤ x12 ∧ x12 ≤ 24) (k13 : 24 ≤ x13 ∧ x13 ≤ 24) (d0 : x3 + 0 ≤ x12 ∧ x12 ≤ x3 + 24) (d1 : x11 + 0 ≤ x12 ∧ x12 ≤ x11 + 23) (d2 : x8 + 0 ≤ x12 ∧ x12 ≤ x8 + 23) (d3 : x8 + 0 ≤ x11 ∧ x11 ≤ x8 + 0) (d4 : x9 + 0 ≤ x10 ∧ x10 ≤ x9 + 0) (d5 : x8 + (-23) ≤ x10 ∧ x10 ≤ x8 + 0) (d6 : x8 + (-23) ≤ x9 ∧ x9 ≤ x8 + 0) (f1 : x10 < 0) (f2 : x12 ≤ x13) (f3 : x12 = x11 + x3) (f4 : x11 = x8 - x2) (g5 : x8 = lineLength_0) (f6 : x10 = x9 - x2) (f7 : x9 = x8 - x1) (f8 : OFL (lineLength_0) (line_0) (x5) (x6)) (f9 : EWJ (way_0) (x5) (x6) (x3)) (f10 : (0 ≤ x1) ∧ (x1 ≤ lineLength_0)) (f11 : x2 = 0) (f12 : 1 ≤ x3) (f13 : (x7 + 2) ≤ lineLength_0) (hK_0_2 : ∀ j : Int, 0 ≤ j → j < 24 → 0 ≤ line_0 j ∧ line_0 j ≤ 23) (hK_0_6 : ∀ j : Int, 0 ≤ j → j < 27 → 0 ≤ way_0 j ∧ way_0 j ≤ 23) (kz_0_3 : 0 ≤ lineLength_0 ∧ lineLength_0 ≤ 24) : (x7 + 3) ≤ lineLength_0 := by
  first
    | omega
    | (exfalso; have h := lni_room ‹OFL _ _ _ _› ‹EWJ _ _ _ _› (by omega); omega)
    | (have h := (‹LNO _ _ _ _›).1; omega)
  
def o_Pn_replaceInLine_at_gi_1 : or_T := (32, 14, [(0, (2, 0, 0, [7])), (1, (0, 0, 23, [])), (2, (0, 0, 0, [])), (3, (0, 0, 23, [])), (4, (2, 0, 0, [106])), (5, (0, -2147483648, 2147483647, [])), (6, (0, -2147483648, 2147483647, [])), (7, (0, 0, 24, [])), (8, (0, 0, 22, [])), (9, (0, -23, -1, [])), (10, (0, -23, -1, [])), (11, (0, 0, 24, [])), (12, (0, 0, 24, [])), (13, (0, 24, 24, []))], [(9, [4, 0], [6]), (8, [10], [2]), (7, [12, 13], [5]), (1, [12, 11, 3], []), (2, [11, 8, 2], []), (9, [8, 0], [3]), (2, [10, 9, 2], []), (2, [9, 8, 1], []), (20, [0, 5, 6], [60, 1, 1, 900, 3, 2]), (20, [0, 5, 6, 3], [60, 0, 1, 909, 6]), (20, [1, 0], [50, 1, 0, 1003, 2, 6, 0, 2, 0, 0, 1, 0, 0, 2, 1, 0, 2, 1, 3]), (20, [2], [50, 0, 0, 1, 2, 1, 0, 0, 0]), (20, [3], [50, 0, 0, 0, 2, 0, 1, 1, 0]), (20, [7, 0], [50, 1, 0, 1003, 0, 6, 4, 2, 1, 0, 0, 2, 2, 1, 3])], [], [], [(20, [0, 5, 6], [60, 1, 1, 901, 3, 2]), (20, [7, 0], [50, 1, 0, 1003, 0, 6, 4, 2, 1, 0, 0, 3, 2, 1, 3])], [], [(12, 3, 0, 24), (12, 11, 0, 23), (12, 8, 0, 23), (11, 8, 0, 0), (10, 9, 0, 0), (10, 8, -23, 0), (9, 8, -23, 0)])
theorem oo_Pn_replaceInLine_at_gi_1 {kA : Nat → ClassId} : or_ok PRD kA GG o_Pn_replaceInLine_at_gi_1 := by
  refine or_mk fun A ta ws vs hD hth hl => ?_
  intro t0 r0 t1 k1 t2 k2 t3 k3 t4 r4 t5 k5 t6 k6 t7 k7 t8 k8 t9 k9 t10 k10 t11 k11 t12 k12 t13 k13 d0 d1 d2 d3 d4 d5 d6 f0 f1 f2 f3 f4 f5 f6 f7 f8 f9 f10 f11 f12 f13
  replace f5 := shm_137 f5
  have cr_0_2 := fdq_227 hD hth r0
  have cr_0_6 := fdq_228 hD hth r0
  have g5 : v_iv (n_v vs 8) = w_fi ws (n_v vs 0) 3 := congrArg v_iv f5
  have hK_0_2 := elq_140 hD hth cr_0_2
  have hK_0_6 := elq_141 hD hth cr_0_6
  have kz_0_3 := fdq_13 hD hth r0
  have nf0 : fc_1 PRD (20, [0, 5, 6], [60, 1, 1, 901, 3, 2]) ws (vs) := ⟨nf_in hl rfl, sgq_912 (vc_Pn_replaceInLine_at_gi_1_0 (v_iv (n_v vs 1)) (v_iv (n_v vs 2)) (v_iv (n_v vs 3)) (v_iv (n_v vs 5)) (v_iv (n_v vs 6)) (v_iv (n_v vs 7)) (v_iv (n_v vs 8)) (v_iv (n_v vs 9)) (v_iv (n_v vs 10)) (v_iv (n_v vs 11)) (v_iv (n_v vs 12)) (v_iv (n_v vs 13)) (w_fi ws (n_v vs 0) 3) (w_ei ws (w_ar ws (n_v vs 0) 2)) (w_ei ws (w_ar ws (n_v vs 0) 6)) k1 k2 k3 k5 k6 k7 k8 k9 k10 k11 k12 k13 d0 d1 d2 d3 d4 d5 d6 (shm_39 f1) (shm_24 f2) (shm_12 f3) (shm_14 f4) g5 (shm_14 f6) (shm_14 f7) (shm_908 f8) (shm_909 f9) (shm_910 f10) (shm_649 f11) (shm_710 f12) (shm_911 f13) hK_0_2 hK_0_6 kz_0_3)⟩
  have nf1 : fc_1 PRD (20, [7, 0], [50, 1, 0, 1003, 0, 6, 4, 2, 1, 0, 0, 3, 2, 1, 3]) ws (vs) := ⟨nf_in hl rfl, sgq_913 (vc_Pn_replaceInLine_at_gi_1_1 (v_iv (n_v vs 1)) (v_iv (n_v vs 2)) (v_iv (n_v vs 3)) (v_iv (n_v vs 5)) (v_iv (n_v vs 6)) (v_iv (n_v vs 7)) (v_iv (n_v vs 8)) (v_iv (n_v vs 9)) (v_iv (n_v vs 10)) (v_iv (n_v vs 11)) (v_iv (n_v vs 12)) (v_iv (n_v vs 13)) (w_fi ws (n_v vs 0) 3) (w_ei ws (w_ar ws (n_v vs 0) 2)) (w_ei ws (w_ar ws (n_v vs 0) 6)) k1 k2 k3 k5 k6 k7 k8 k9 k10 k11 k12 k13 d0 d1 d2 d3 d4 d5 d6 (shm_39 f1) (shm_24 f2) (shm_12 f3) (shm_14 f4) g5 (shm_14 f6) (shm_14 f7) (shm_908 f8) (shm_909 f9) (shm_910 f10) (shm_649 f11) (shm_710 f12) (shm_911 f13) hK_0_2 hK_0_6 kz_0_3)⟩
  refine ⟨(fun _ h => (by cases h)), [], trivial, ?_, (fun _ h => (by cases h))⟩
  rw [List.append_nil]
  exact List.forall_mem_cons.mpr ⟨⟨show (20 : Nat) < 100 from by decide, nf0⟩, List.forall_mem_cons.mpr ⟨⟨show (20 : Nat) < 100 from by decide, nf1⟩, (fun _ h => (by cases h))⟩⟩
set_option maxHeartbeats 4000000 in
theorem vc_Pn_replaceInLine_at_gi_2_0 (x1 : Int) (x2 : Int) (x3 : Int) (x5 : Int) (x6 : Int) (x7 : Int) (x8 : Int) (x9 : Int) (x10 : Int) (x11 : Int) (x12 : Int) (x13 : Int) (lineLength_0 : Int) (line_0 : Int → Int) (way_0 : Int → Int) (k1 : 0 ≤ x1 ∧ x1 ≤ 23) (k2 : 0 ≤ x2 ∧ x2 ≤ 0) (k3 : 0 ≤ x3 ∧ x3 ≤ 23) (k5 : (-2147483648) ≤ x5 ∧ x5 ≤ 2147483647) (k6 : (-2147483648) ≤ x6 ∧ x6 ≤ 2147483647) (k7 : 0 ≤ x7 ∧ x7 ≤ 24) (k8 : 0 ≤ x8 ∧ x8 ≤ 24) (k9 : 0 ≤ x9 ∧ x9 ≤ 24) (k10 : 0 ≤ x10 ∧ x10 ≤ 24) (k11 : 0 ≤ x11 ∧ x11 ≤ 24) (k12 : 0 ≤ x12 ∧ x12 ≤ 24) (k13 : 24 ≤ x13 ∧ x13 ≤ 24) (d0 : x3 + 0 ≤ x12 ∧ x12 ≤ x3 + 24) (d1 : x11 + 0 ≤ x12 ∧ x12 ≤ x11 + 23) (d2 : x8 + 0 ≤ x12 ∧ x12 ≤ x8 + 23) (d3 : x8 + 0 ≤ x11 ∧ x11 ≤ x8 + 0) (d4 : x9 + 0 ≤ x10 ∧ x10 ≤ x9 + 0) (d5 : x8 + (-23) ≤ x10 ∧ x10 ≤ x8 + 0) (d6 : x8 + (-23) ≤ x9 ∧ x9 ≤ x8 + 0) (f1 : 0 ≤ x2) (f2 : 0 ≤ x10) (f3 : x12 ≤ x13) (f4 : x12 = x11 + x3) (f5 : x11 = x8 - x2) (g6 : x8 = lineLength_0) (f7 : x10 = x9 - x2) (f8 : x9 = x8 - x1) (f9 : OFL (lineLength_0) (line_0) (x5) (x6)) (f10 : EWJ (way_0) (x5) (x6) (x3)) (f11 : (0 ≤ x1) ∧ (x1 ≤ lineLength_0)) (f12 : x2 = 0) (f13 : 1 ≤ x3) (f14 : (x7 + 2) ≤ lineLength_0) (hK_0_2 : ∀ j : Int, 0 ≤ j → j < 24 → 0 ≤ line_0 j ∧ line_0 j ≤ 23) (hK_0_6 : ∀ j : Int, 0 ≤ j → j < 27 → 0 ≤ way_0 j ∧ way_0 j ≤ 23) (kz_0_3 : 0 ≤ lineLength_0 ∧ lineLength_0 ≤ 24) : 1 * lineLength_0 + ((-1) * x2 + (1 * x3 + 0)) ≤ 24 := by
  first
    | omega
    | (exfalso; have h := lni_room ‹OFL _ _ _ _› ‹EWJ _ _ _ _› (by omega); omega)
    | (have h := (‹LNO _ _ _ _›).1; omega)
  
set_option maxHeartbeats 4000000 in
theorem vc_Pn_replaceInLine_at_gi_2_1 (x1 : Int) (x2 : Int) (x3 : Int) (x5 : Int) (x6 : Int) (x7 : Int) (x8 : Int) (x9 : Int) (x10 : Int) (x11 : Int) (x12 : Int) (x13 : Int) (lineLength_0 : Int) (line_0 : Int → Int) (way_0 : Int → Int) (k1 : 0 ≤ x1 ∧ x1 ≤ 23) (k2 : 0 ≤ x2 ∧ x2 ≤ 0) (k3 : 0 ≤ x3 ∧ x3 ≤ 23) (k5 : (-2147483648) ≤ x5 ∧ x5 ≤ 2147483647) (k6 : (-2147483648) ≤ x6 ∧ x6 ≤ 2147483647) (k7 : 0 ≤ x7 ∧ x7 ≤ 24) (k8 : 0 ≤ x8 ∧ x8 ≤ 24) (k9 : 0 ≤ x9 ∧ x9 ≤ 24) (k10 : 0 ≤ x10 ∧ x10 ≤ 24) (k11 : 0 ≤ x11 ∧ x11 ≤ 24) (k12 : 0 ≤ x12 ∧ x12 ≤ 24) (k13 : 24 ≤ x13 ∧ x13 ≤ 24) (d0 : x3 + 0 ≤ x12 ∧ x12 ≤ x3 + 24) (d1 : x11 + 0 ≤ x12 ∧ x12 ≤ x11 + 23) (d2 : x8 + 0 ≤ x12 ∧ x12 ≤ x8 + 23) (d3 : x8 + 0 ≤ x11 ∧ x11 ≤ x8 + 0) (d4 : x9 + 0 ≤ x10 ∧ x10 ≤ x9 + 0) (d5 : x8 + (-23) ≤ x10 ∧ x10 ≤ x8 + 0) (d6 : x8 + (-23) ≤ x9 ∧ x9 ≤ x8 + 0) (f1 : 0 ≤ x2) (f2 : 0 ≤ x10) (f3 : x12 ≤ x13) (f4 : x12 = x11 + x3) (f5 : x11 = x8 - x2) (g6 : x8 = lineLength_0) (f7 : x10 = x9 - x2) (f8 : x9 = x8 - x1) (f9 : OFL (lineLength_0) (line_0) (x5) (x6)) (f10 : EWJ (way_0) (x5) (x6) (x3)) (f11 : (0 ≤ x1) ∧ (x1 ≤ lineLength_0)) (f12 : x2 = 0) (f13 : 1 ≤ x3) (f14 : (x7 + 2) ≤ lineLength_0) (hK_0_2 : ∀ j : Int, 0 ≤ j → j < 24 → 0 ≤ line_0 j ∧ line_0 j ≤ 23) (hK_0_6 : ∀ j : Int, 0 ≤ j → j < 27 → 0 ≤ way_0 j ∧ way_0 j ≤ 23) (kz_0_3 : 0 ≤ lineLength_0 ∧ lineLength_0 ≤ 24) : (-1) * lineLength_0 + (1 * x1 + (1 * x2 + 0)) ≤ 0 := by
  first
    | omega
    | (exfalso; have h := lni_room ‹OFL _ _ _ _› ‹EWJ _ _ _ _› (by omega); omega)
    | (have h := (‹LNO _ _ _ _›).1; omega)
  
def o_Pn_replaceInLine_at_gi_2 : or_T := (33, 14, [(0, (2, 0, 0, [7])), (1, (0, 0, 23, [])), (2, (0, 0, 0, [])), (3, (0, 0, 23, [])), (5, (0, -2147483648, 2147483647, [])), (6, (0, -2147483648, 2147483647, [])), (7, (0, 0, 24, [])), (8, (0, 0, 24, [])), (9, (0, 0, 24, [])), (10, (0, 0, 24, [])), (11, (0, 0, 24, [])), (12, (0, 0, 24, [])), (13, (0, 24, 24, []))], [(8, [2], [3]), (8, [10], [3]), (7, [12, 13], [5]), (1, [12, 11, 3], []), (2, [11, 8, 2], []), (9, [8, 0], [3]), (2, [10, 9, 2], []), (2, [9, 8, 1], []), (20, [0, 5, 6], [60, 1, 1, 900, 3, 2]), (20, [0, 5, 6, 3], [60, 0, 1, 909, 6]), (20, [1, 0], [50, 1, 0, 1003, 2, 6, 0, 2, 0, 0, 1, 0, 0, 2, 1, 0, 2, 1, 3]), (20, [2], [50, 0, 0, 1, 2, 1, 0, 0, 0]), (20, [3], [50, 0, 0, 0, 2, 0, 1, 1, 0]), (20, [7, 0], [50, 1, 0, 1003, 0, 6, 4, 2, 1, 0, 0, 2, 2, 1, 3])], [], [], [(20, [0, 2, 3], [30, 24, 1, 1, 3, -1, 0, 0, 1, 0, 0]), (20, [0, 1, 2], [30, 0, -1, 1, 3, 1, 0, 0, 1, 0, 0])], [], [(12, 3, 0, 24), (12, 11, 0, 23), (12, 8, 0, 23), (11, 8, 0, 0), (10, 9, 0, 0), (10, 8, -23, 0), (9, 8, -23, 0)])
theorem oo_Pn_replaceInLine_at_gi_2 {kA : Nat → ClassId} : or_ok PRD kA GG o_Pn_replaceInLine_at_gi_2 := by
  refine or_mk fun A ta ws vs hD hth hl => ?_
  intro t0 r0 t1 k1 t2 k2 t3 k3 t5 k5 t6 k6 t7 k7 t8 k8 t9 k9 t10 k10 t11 k11 t12 k12 t13 k13 d0 d1 d2 d3 d4 d5 d6 f1 f2 f3 f4 f5 f6 f7 f8 f9 f10 f11 f12 f13 f14
  replace f6 := shm_137 f6
  have cr_0_2 := fdq_227 hD hth r0
  have cr_0_6 := fdq_228 hD hth r0
  have g6 : v_iv (n_v vs 8) = w_fi ws (n_v vs 0) 3 := congrArg v_iv f6
  have hK_0_2 := elq_140 hD hth cr_0_2
  have hK_0_6 := elq_141 hD hth cr_0_6
  have kz_0_3 := fdq_13 hD hth r0
  have nf0 : fc_1 PRD (20, [0, 2, 3], [30, 24, 1, 1, 3, -1, 0, 0, 1, 0, 0]) ws (vs) := ⟨nf_in hl rfl, sgq_138 (vc_Pn_replaceInLine_at_gi_2_0 (v_iv (n_v vs 1)) (v_iv (n_v vs 2)) (v_iv (n_v vs 3)) (v_iv (n_v vs 5)) (v_iv (n_v vs 6)) (v_iv (n_v vs 7)) (v_iv (n_v vs 8)) (v_iv (n_v vs 9)) (v_iv (n_v vs 10)) (v_iv (n_v vs 11)) (v_iv (n_v vs 12)) (v_iv (n_v vs 13)) (w_fi ws (n_v vs 0) 3) (w_ei ws (w_ar ws (n_v vs 0) 2)) (w_ei ws (w_ar ws (n_v vs 0) 6)) k1 k2 k3 k5 k6 k7 k8 k9 k10 k11 k12 k13 d0 d1 d2 d3 d4 d5 d6 (shm_32 f1) (shm_32 f2) (shm_24 f3) (shm_12 f4) (shm_14 f5) g6 (shm_14 f7) (shm_14 f8) (shm_908 f9) (shm_909 f10) (shm_910 f11) (shm_649 f12) (shm_710 f13) (shm_911 f14) hK_0_2 hK_0_6 kz_0_3)⟩
  have nf1 : fc_1 PRD (20, [0, 1, 2], [30, 0, -1, 1, 3, 1, 0, 0, 1, 0, 0]) ws (vs) := ⟨nf_in hl rfl, sgq_139 (vc_Pn_replaceInLine_at_gi_2_1 (v_iv (n_v vs 1)) (v_iv (n_v vs 2)) (v_iv (n_v vs 3)) (v_iv (n_v vs 5)) (v_iv (n_v vs 6)) (v_iv (n_v vs 7)) (v_iv (n_v vs 8)) (v_iv (n_v vs 9)) (v_iv (n_v vs 10)) (v_iv (n_v vs 11)) (v_iv (n_v vs 12)) (v_iv (n_v vs 13)) (w_fi ws (n_v vs 0) 3) (w_ei ws (w_ar ws (n_v vs 0) 2)) (w_ei ws (w_ar ws (n_v vs 0) 6)) k1 k2 k3 k5 k6 k7 k8 k9 k10 k11 k12 k13 d0 d1 d2 d3 d4 d5 d6 (shm_32 f1) (shm_32 f2) (shm_24 f3) (shm_12 f4) (shm_14 f5) g6 (shm_14 f7) (shm_14 f8) (shm_908 f9) (shm_909 f10) (shm_910 f11) (shm_649 f12) (shm_710 f13) (shm_911 f14) hK_0_2 hK_0_6 kz_0_3)⟩
  refine ⟨(fun _ h => (by cases h)), [], trivial, ?_, (fun _ h => (by cases h))⟩
  rw [List.append_nil]
  exact List.forall_mem_cons.mpr ⟨⟨show (20 : Nat) < 100 from by decide, nf0⟩, List.forall_mem_cons.mpr ⟨⟨show (20 : Nat) < 100 from by decide, nf1⟩, (fun _ h => (by cases h))⟩⟩
set_option maxHeartbeats 4000000 in
theorem vc_Pn_replaceInLine_at_gi_3_0 (x1 : Int) (x2 : Int) (x3 : Int) (x5 : Int) (x6 : Int) (x7 : Int) (x8 : Int) (x9 : Int) (x10 : Int) (x11 : Int) (x12 : Int) (x13 : Int) (x15 : Int) (x16 : Int) (lineLength_0 : Int) (line_0 : Int → Int) (way_0 : Int → Int) (gy : Int) (gu : Int) (gw : Int) (k1 : 0 ≤ x1 ∧ x1 ≤ 23) (k2 : 0 ≤ x2 ∧ x2 ≤ 0) (k3 : 0 ≤ x3 ∧ x3 ≤ 23) (k5 : (-2147483648) ≤ x5 ∧ x5 ≤ 2147483647) (k6 : (-2147483648) ≤ x6 ∧ x6 ≤ 2147483647) (k7 : 0 ≤ x7 ∧ x7 ≤ 24) (k8 : 0 ≤ x8 ∧ x8 ≤ 24) (k9 : 0 ≤ x9 ∧ x9 ≤ 24) (k10 : 0 ≤ x10 ∧ x10 ≤ 24) (k11 : 0 ≤ x11 ∧ x11 ≤ 24) (k12 : 0 ≤ x12 ∧ x12 ≤ 24) (k13 : 24 ≤ x13 ∧ x13 ≤ 24) (k15 : 0 ≤ x15 ∧ x15 ≤ 23) (k16 : 0 ≤ x16 ∧ x16 ≤ 46) (d0 : x3 + 0 ≤ x16 ∧ x16 ≤ x3 + 23) (d1 : x1 + 0 ≤ x16 ∧ x16 ≤ x1 + 23) (d2 : x1 + 0 ≤ x15 ∧ x15 ≤ x1 + 0) (d3 : x3 + 0 ≤ x12 ∧ x12 ≤ x3 + 24) (d4 : x11 + 0 ≤ x12 ∧ x12 ≤ x11 + 23) (d5 : x8 + 0 ≤ x12 ∧ x12 ≤ x8 + 23) (d6 : x8 + 0 ≤ x11 ∧ x11 ≤ x8 + 0) (d7 : x9 + 0 ≤ x10 ∧ x10 ≤ x9 + 0) (d8 : x8 + (-23) ≤ x10 ∧ x10 ≤ x8 + 0) (d9 : x8 + (-23) ≤ x9 ∧ x9 ≤ x8 + 0) (f1 : x16 = x1 + x3) (f3 : x15 = x1 + x2) (f4 : 1 * lineLength_0 + ((-1) * x2 + (1 * x3 + 0)) ≤ 24) (f5 : (-1) * lineLength_0 + (1 * x1 + (1 * x2 + 0)) ≤ 0) (f6 : 0 ≤ x2) (f7 : 0 ≤ x10) (f8 : x12 ≤ x13) (f9 : x12 = x11 + x3) (f10 : x11 = x8 - x2) (g11 : x8 = lineLength_0) (f12 : x10 = x9 - x2) (f13 : x9 = x8 - x1) (f14 : OFL (lineLength_0) (line_0) (x5) (x6)) (f15 : EWJ (way_0) (x5) (x6) (x3)) (f16 : (0 ≤ x1) ∧ (x1 ≤ lineLength_0)) (f17 : x2 = 0) (f18 : 1 ≤ x3) (f19 : (x7 + 2) ≤ lineLength_0) (hK_0_2 : ∀ j : Int, 0 ≤ j → j < 24 → 0 ≤ line_0 j ∧ line_0 j ≤ 23) (hK_0_6 : ∀ j : Int, 0 ≤ j → j < 27 → 0 ≤ way_0 j ∧ way_0 j ≤ 23) (kz_0_3 : 0 ≤ lineLength_0 ∧ lineLength_0 ≤ 24) (ey2 : gy = lineLength_0) (ey3 : 0 ≤ gy ∧ gy ≤ 24) (eu2 : gu = x5) (eu3 : (-2147483648) ≤ gu ∧ gu ≤ 2147483647) (ew2 : gw = x6) (ew3 : (-2147483648) ≤ gw ∧ gw ≤ 2147483647) : x15 + x10 ≤ 24 := by
  first
    | omega
    | (exfalso; have h := lni_room ‹OFL _ _ _ _› ‹EWJ _ _ _ _› (by omega); omega)
    | (have h := (‹LNO _ _ _ _›).1; omega)
  
set_option maxHeartbeats 4000000 in
theorem vc_Pn_replaceInLine_at_gi_3_1 (x1 : Int) (x2 : Int) (x3 : Int) (x5 : Int) (x6 : Int) (x7 : Int) (x8 : Int) (x9 : Int) (x10 : Int) (x11 : Int) (x12 : Int) (x13 : Int) (x15 : Int) (x16 : Int) (lineLength_0 : Int) (line_0 : Int → Int) (way_0 : Int → Int) (gy : Int) (gu : Int) (gw : Int) (k1 : 0 ≤ x1 ∧ x1 ≤ 23) (k2 : 0 ≤ x2 ∧ x2 ≤ 0) (k3 : 0 ≤ x3 ∧ x3 ≤ 23) (k5 : (-2147483648) ≤ x5 ∧ x5 ≤ 2147483647) (k6 : (-2147483648) ≤ x6 ∧ x6 ≤ 2147483647) (k7 : 0 ≤ x7 ∧ x7 ≤ 24) (k8 : 0 ≤ x8 ∧ x8 ≤ 24) (k9 : 0 ≤ x9 ∧ x9 ≤ 24) (k10 : 0 ≤ x10 ∧ x10 ≤ 24) (k11 : 0 ≤ x11 ∧ x11 ≤ 24) (k12 : 0 ≤ x12 ∧ x12 ≤ 24) (k13 : 24 ≤ x13 ∧ x13 ≤ 24) (k15 : 0 ≤ x15 ∧ x15 ≤ 23) (k16 : 0 ≤ x16 ∧ x16 ≤ 46) (d0 : x3 + 0 ≤ x16 ∧ x16 ≤ x3 + 23) (d1 : x1 + 0 ≤ x16 ∧ x16 ≤ x1 + 23) (d2 : x1 + 0 ≤ x15 ∧ x15 ≤ x1 + 0) (d3 : x3 + 0 ≤ x12 ∧ x12 ≤ x3 + 24) (d4 : x11 + 0 ≤ x12 ∧ x12 ≤ x11 + 23) (d5 : x8 + 0 ≤ x12 ∧ x12 ≤ x8 + 23) (d6 : x8 + 0 ≤ x11 ∧ x11 ≤ x8 + 0) (d7 : x9 + 0 ≤ x10 ∧ x10 ≤ x9 + 0) (d8 : x8 + (-23) ≤ x10 ∧ x10 ≤ x8 + 0) (d9 : x8 + (-23) ≤ x9 ∧ x9 ≤ x8 + 0) (f1 : x16 = x1 + x3) (f3 : x15 = x1 + x2) (f4 : 1 * lineLength_0 + ((-1) * x2 + (1 * x3 + 0)) ≤ 24) (f5 : (-1) * lineLength_0 + (1 * x1 + (1 * x2 + 0)) ≤ 0) (f6 : 0 ≤ x2) (f7 : 0 ≤ x10) (f8 : x12 ≤ x13) (f9 : x12 = x11 + x3) (f10 : x11 = x8 - x2) (g11 : x8 = lineLength_0) (f12 : x10 = x9 - x2) (f13 : x9 = x8 - x1) (f14 : OFL (lineLength_0) (line_0) (x5) (x6)) (f15 : EWJ (way_0) (x5) (x6) (x3)) (f16 : (0 ≤ x1) ∧ (x1 ≤ lineLength_0)) (f17 : x2 = 0) (f18 : 1 ≤ x3) (f19 : (x7 + 2) ≤ lineLength_0) (hK_0_2 : ∀ j : Int, 0 ≤ j → j < 24 → 0 ≤ line_0 j ∧ line_0 j ≤ 23) (hK_0_6 : ∀ j : Int, 0 ≤ j → j < 27 → 0 ≤ way_0 j ∧ way_0 j ≤ 23) (kz_0_3 : 0 ≤ lineLength_0 ∧ lineLength_0 ≤ 24) (ey2 : gy = lineLength_0) (ey3 : 0 ≤ gy ∧ gy ≤ 24) (eu2 : gu = x5) (eu3 : (-2147483648) ≤ gu ∧ gu ≤ 2147483647) (ew2 : gw = x6) (ew3 : (-2147483648) ≤ gw ∧ gw ≤ 2147483647) : x16 + x10 ≤ 24 := by
  first
    | omega
    | (exfalso; have h := lni_room ‹OFL _ _ _ _› ‹EWJ _ _ _ _› (by omega); omega)
    | (have h := (‹LNO _ _ _ _›).1; omega)
  
set_option maxHeartbeats 4000000 in
theorem vc_Pn_replaceInLine_at_gi_3_3 (x1 : Int) (x2 : Int) (x3 : Int) (x5 : Int) (x6 : Int) (x7 : Int) (x8 : Int) (x9 : Int) (x10 : Int) (x11 : Int) (x12 : Int) (x13 : Int) (x15 : Int) (x16 : Int) (lineLength_0 : Int) (line_0 : Int → Int) (way_0 : Int → Int) (gy : Int) (gu : Int) (gw : Int) (k1 : 0 ≤ x1 ∧ x1 ≤ 23) (k2 : 0 ≤ x2 ∧ x2 ≤ 0) (k3 : 0 ≤ x3 ∧ x3 ≤ 23) (k5 : (-2147483648) ≤ x5 ∧ x5 ≤ 2147483647) (k6 : (-2147483648) ≤ x6 ∧ x6 ≤ 2147483647) (k7 : 0 ≤ x7 ∧ x7 ≤ 24) (k8 : 0 ≤ x8 ∧ x8 ≤ 24) (k9 : 0 ≤ x9 ∧ x9 ≤ 24) (k10 : 0 ≤ x10 ∧ x10 ≤ 24) (k11 : 0 ≤ x11 ∧ x11 ≤ 24) (k12 : 0 ≤ x12 ∧ x12 ≤ 24) (k13 : 24 ≤ x13 ∧ x13 ≤ 24) (k15 : 0 ≤ x15 ∧ x15 ≤ 23) (k16 : 0 ≤ x16 ∧ x16 ≤ 46) (d0 : x3 + 0 ≤ x16 ∧ x16 ≤ x3 + 23) (d1 : x1 + 0 ≤ x16 ∧ x16 ≤ x1 + 23) (d2 : x1 + 0 ≤ x15 ∧ x15 ≤ x1 + 0) (d3 : x3 + 0 ≤ x12 ∧ x12 ≤ x3 + 24) (d4 : x11 + 0 ≤ x12 ∧ x12 ≤ x11 + 23) (d5 : x8 + 0 ≤ x12 ∧ x12 ≤ x8 + 23) (d6 : x8 + 0 ≤ x11 ∧ x11 ≤ x8 + 0) (d7 : x9 + 0 ≤ x10 ∧ x10 ≤ x9 + 0) (d8 : x8 + (-23) ≤ x10 ∧ x10 ≤ x8 + 0) (d9 : x8 + (-23) ≤ x9 ∧ x9 ≤ x8 + 0) (f1 : x16 = x1 + x3) (f3 : x15 = x1 + x2) (f4 : 1 * lineLength_0 + ((-1) * x2 + (1 * x3 + 0)) ≤ 24) (f5 : (-1) * lineLength_0 + (1 * x1 + (1 * x2 + 0)) ≤ 0) (f6 : 0 ≤ x2) (f7 : 0 ≤ x10) (f8 : x12 ≤ x13) (f9 : x12 = x11 + x3) (f10 : x11 = x8 - x2) (g11 : x8 = lineLength_0) (f12 : x10 = x9 - x2) (f13 : x9 = x8 - x1) (f14 : OFL (lineLength_0) (line_0) (x5) (x6)) (f15 : EWJ (way_0) (x5) (x6) (x3)) (f16 : (0 ≤ x1) ∧ (x1 ≤ lineLength_0)) (f17 : x2 = 0) (f18 : 1 ≤ x3) (f19 : (x7 + 2) ≤ lineLength_0) (hK_0_2 : ∀ j : Int, 0 ≤ j → j < 24 → 0 ≤ line_0 j ∧ line_0 j ≤ 23) (hK_0_6 : ∀ j : Int, 0 ≤ j → j < 27 → 0 ≤ way_0 j ∧ way_0 j ≤ 23) (kz_0_3 : 0 ≤ lineLength_0 ∧ lineLength_0 ≤ 24) (ey2 : gy = lineLength_0) (ey3 : 0 ≤ gy ∧ gy ≤ 24) (eu2 : gu = x5) (eu3 : (-2147483648) ≤ gu ∧ gu ≤ 2147483647) (ew2 : gw = x6) (ew3 : (-2147483648) ≤ gw ∧ gw ≤ 2147483647) : gy = lineLength_0 := by
  first
    | omega
    | (exfalso; have h := lni_room ‹OFL _ _ _ _› ‹EWJ _ _ _ _› (by omega); omega)
    | (have h := (‹LNO _ _ _ _›).1; omega)
  
set_option maxHeartbeats 4000000 in
theorem vc_Pn_replaceInLine_at_gi_3_4 (x1 : Int) (x2 : Int) (x3 : Int) (x5 : Int) (x6 : Int) (x7 : Int) (x8 : Int) (x9 : Int) (x10 : Int) (x11 : Int) (x12 : Int) (x13 : Int) (x15 : Int) (x16 : Int) (lineLength_0 : Int) (line_0 : Int → Int) (way_0 : Int → Int) (gy : Int) (gu : Int) (gw : Int) (k1 : 0 ≤ x1 ∧ x1 ≤ 23) (k2 : 0 ≤ x2 ∧ x2 ≤ 0) (k3 : 0 ≤ x3 ∧ x3 ≤ 23) (k5 : (-2147483648) ≤ x5 ∧ x5 ≤ 2147483647) (k6 : (-2147483648) ≤ x6 ∧ x6 ≤ 2147483647) (k7 : 0 ≤ x7 ∧ x7 ≤ 24) (k8 : 0 ≤ x8 ∧ x8 ≤ 24) (k9 : 0 ≤ x9 ∧ x9 ≤ 24) (k10 : 0 ≤ x10 ∧ x10 ≤ 24) (k11 : 0 ≤ x11 ∧ x11 ≤ 24) (k12 : 0 ≤ x12 ∧ x12 ≤ 24) (k13 : 24 ≤ x13 ∧ x13 ≤ 24) (k15 : 0 ≤ x15 ∧ x15 ≤ 23) (k16 : 0 ≤ x16 ∧ x16 ≤ 46) (d0 : x3 + 0 ≤ x16 ∧ x16 ≤ x3 + 23) (d1 : x1 + 0 ≤ x16 ∧ x16 ≤ x1 + 23) (d2 : x1 + 0 ≤ x15 ∧ x15 ≤ x1 + 0) (d3 : x3 + 0 ≤ x12 ∧ x12 ≤ x3 + 24) (d4 : x11 + 0 ≤ x12 ∧ x12 ≤ x11 + 23) (d5 : x8 + 0 ≤ x12 ∧ x12 ≤ x8 + 23) (d6 : x8 + 0 ≤ x11 ∧ x11 ≤ x8 + 0) (d7 : x9 + 0 ≤ x10 ∧ x10 ≤ x9 + 0) (d8 : x8 + (-23) ≤ x10 ∧ x10 ≤ x8 + 0) (d9 : x8 + (-23) ≤ x9 ∧ x9 ≤ x8 + 0) (f1 : x16 = x1 + x3) (f3 : x15 = x1 + x2) (f4 : 1 * lineLength_0 + ((-1) * x2 + (1 * x3 + 0)) ≤ 24) (f5 : (-1) * lineLength_0 + (1 * x1 + (1 * x2 + 0)) ≤ 0) (f6 : 0 ≤ x2) (f7 : 0 ≤ x10) (f8 : x12 ≤ x13) (f9 : x12 = x11 + x3) (f10 : x11 = x8 - x2) (g11 : x8 = lineLength_0) (f12 : x10 = x9 - x2) (f13 : x9 = x8 - x1) (f14 : OFL (lineLength_0) (line_0) (x5) (x6)) (f15 : EWJ (way_0) (x5) (x6) (x3)) (f16 : (0 ≤ x1) ∧ (x1 ≤ lineLength_0)) (f17 : x2 = 0) (f18 : 1 ≤ x3) (f19 : (x7 + 2) ≤ lineLength_0) (hK_0_2 : ∀ j : Int, 0 ≤ j → j < 24 → 0 ≤ line_0 j ∧ line_0 j ≤ 23) (hK_0_6 : ∀ j : Int, 0 ≤ j → j < 27 → 0 ≤ way_0 j ∧ way_0 j ≤ 23) (kz_0_3 : 0 ≤ lineLength_0 ∧ lineLength_0 ≤ 24) (ey2 : gy = lineLength_0) (ey3 : 0 ≤ gy ∧ gy ≤ 24) (eu2 : gu = x5) (eu3 : (-2147483648) ≤ gu ∧ gu ≤ 2147483647) (ew2 : gw = x6) (ew3 : (-2147483648) ≤ gw ∧ gw ≤ 2147483647) : 1 * gu + ((-1) * x5 + 0) ≤ 0 := by
  first
    | omega
    | (exfalso; have h := lni_room ‹OFL _ _ _ _› ‹EWJ _ _ _ _› (by omega); omega)
    | (have h := (‹LNO _ _ _ _›).1; omega)
  
set_option maxHeartbeats 4000000 in
theorem vc_Pn_replaceInLine_at_gi_3_5 (x1 : Int) (x2 : Int) (x3 : Int) (x5 : Int) (x6 : Int) (x7 : Int) (x8 : Int) (x9 : Int) (x10 : Int) (x11 : Int) (x12 : Int) (x13 : Int) (x15 : Int) (x16 : Int) (lineLength_0 : Int) (line_0 : Int → Int) (way_0 : Int → Int) (gy : Int) (gu : Int) (gw : Int) (k1 : 0 ≤ x1 ∧ x1 ≤ 23) (k2 : 0 ≤ x2 ∧ x2 ≤ 0) (k3 : 0 ≤ x3 ∧ x3 ≤ 23) (k5 : (-2147483648) ≤ x5 ∧ x5 ≤ 2147483647) (k6 : (-2147483648) ≤ x6 ∧ x6 ≤ 2147483647) (k7 : 0 ≤ x7 ∧ x7 ≤ 24) (k8 : 0 ≤ x8 ∧ x8 ≤ 24) (k9 : 0 ≤ x9 ∧ x9 ≤ 24) (k10 : 0 ≤ x10 ∧ x10 ≤ 24) (k11 : 0 ≤ x11 ∧ x11 ≤ 24) (k12 : 0 ≤ x12 ∧ x12 ≤ 24) (k13 : 24 ≤ x13 ∧ x13 ≤ 24) (k15 : 0 ≤ x15 ∧ x15 ≤ 23) (k16 : 0 ≤ x16 ∧ x16 ≤ 46) (d0 : x3 + 0 ≤ x16 ∧ x16 ≤ x3 + 23) (d1 : x1 + 0 ≤ x16 ∧ x16 ≤ x1 + 23) (d2 : x1 + 0 ≤ x15 ∧ x15 ≤ x1 + 0) (d3 : x3 + 0 ≤ x12 ∧ x12 ≤ x3 + 24) (d4 : x11 + 0 ≤ x12 ∧ x12 ≤ x11 + 23) (d5 : x8 + 0 ≤ x12 ∧ x12 ≤ x8 + 23) (d6 : x8 + 0 ≤ x11 ∧ x11 ≤ x8 + 0) (d7 : x9 + 0 ≤ x10 ∧ x10 ≤ x9 + 0) (d8 : x8 + (-23) ≤ x10 ∧ x10 ≤ x8 + 0) (d9 : x8 + (-23) ≤ x9 ∧ x9 ≤ x8 + 0) (f1 : x16 = x1 + x3) (f3 : x15 = x1 + x2) (f4 : 1 * lineLength_0 + ((-1) * x2 + (1 * x3 + 0)) ≤ 24) (f5 : (-1) * lineLength_0 + (1 * x1 + (1 * x2 + 0)) ≤ 0) (f6 : 0 ≤ x2) (f7 : 0 ≤ x10) (f8 : x12 ≤ x13) (f9 : x12 = x11 + x3) (f10 : x11 = x8 - x2) (g11 : x8 = lineLength_0) (f12 : x10 = x9 - x2) (f13 : x9 = x8 - x1) (f14 : OFL (lineLength_0) (line_0) (x5) (x6)) (f15 : EWJ (way_0) (x5) (x6) (x3)) (f16 : (0 ≤ x1) ∧ (x1 ≤ lineLength_0)) (f17 : x2 = 0) (f18 : 1 ≤ x3) (f19 : (x7 + 2) ≤ lineLength_0) (hK_0_2 : ∀ j : Int, 0 ≤ j → j < 24 → 0 ≤ line_0 j ∧ line_0 j ≤ 23) (hK_0_6 : ∀ j : Int, 0 ≤ j → j < 27 → 0 ≤ way_0 j ∧ way_0 j ≤ 23) (kz_0_3 : 0 ≤ lineLength_0 ∧ lineLength_0 ≤ 24) (ey2 : gy = lineLength_0) (ey3 : 0 ≤ gy ∧ gy ≤ 24) (eu2 : gu = x5) (eu3 : (-2147483648) ≤ gu ∧ gu ≤ 2147483647) (ew2 : gw = x6) (ew3 : (-2147483648) ≤ gw ∧ gw ≤ 2147483647) : (-1) * gu + (1 * x5 + 0) ≤ 0 := by
  first
    | omega
    | (exfalso; have h := lni_room ‹OFL _ _ _ _› ‹EWJ _ _ _ _› (by omega); omega)
    | (have h := (‹LNO _ _ _ _›).1; omega)
  
set_option maxHeartbeats 4000000 in
theorem vc_Pn_replaceInLine_at_gi_3_6 (x1 : Int) (x2 : Int) (x3 : Int) (x5 : Int) (x6 : Int) (x7 : Int) (x8 : Int) (x9 : Int) (x10 : Int) (x11 : Int) (x12 : Int) (x13 : Int) (x15 : Int) (x16 : Int) (lineLength_0 : Int) (line_0 : Int → Int) (way_0 : Int → Int) (gy : Int) (gu : Int) (gw : Int) (k1 : 0 ≤ x1 ∧ x1 ≤ 23) (k2 : 0 ≤ x2 ∧ x2 ≤ 0) (k3 : 0 ≤ x3 ∧ x3 ≤ 23) (k5 : (-2147483648) ≤ x5 ∧ x5 ≤ 2147483647) (k6 : (-2147483648) ≤ x6 ∧ x6 ≤ 2147483647) (k7 : 0 ≤ x7 ∧ x7 ≤ 24) (k8 : 0 ≤ x8 ∧ x8 ≤ 24) (k9 : 0 ≤ x9 ∧ x9 ≤ 24) (k10 : 0 ≤ x10 ∧ x10 ≤ 24) (k11 : 0 ≤ x11 ∧ x11 ≤ 24) (k12 : 0 ≤ x12 ∧ x12 ≤ 24) (k13 : 24 ≤ x13 ∧ x13 ≤ 24) (k15 : 0 ≤ x15 ∧ x15 ≤ 23) (k16 : 0 ≤ x16 ∧ x16 ≤ 46) (d0 : x3 + 0 ≤ x16 ∧ x16 ≤ x3 + 23) (d1 : x1 + 0 ≤ x16 ∧ x16 ≤ x1 + 23) (d2 : x1 + 0 ≤ x15 ∧ x15 ≤ x1 + 0) (d3 : x3 + 0 ≤ x12 ∧ x12 ≤ x3 + 24) (d4 : x11 + 0 ≤ x12 ∧ x12 ≤ x11 + 23) (d5 : x8 + 0 ≤ x12 ∧ x12 ≤ x8 + 23) (d6 : x8 + 0 ≤ x11 ∧ x11 ≤ x8 + 0) (d7 : x9 + 0 ≤ x10 ∧ x10 ≤ x9 + 0) (d8 : x8 + (-23) ≤ x10 ∧ x10 ≤ x8 + 0) (d9 : x8 + (-23) ≤ x9 ∧ x9 ≤ x8 + 0) (f1 : x16 = x1 + x3) (f3 : x15 = x1 + x2) (f4 : 1 * lineLength_0 + ((-1) * x2 + (1 * x3 + 0)) ≤ 24) (f5 : (-1) * lineLength_0 + (1 * x1 + (1 * x2 + 0)) ≤ 0) (f6 : 0 ≤ x2) (f7 : 0 ≤ x10) (f8 : x12 ≤ x13) (f9 : x12 = x11 + x3) (f10 : x11 = x8 - x2) (g11 : x8 = lineLength_0) (f12 : x10 = x9 - x2) (f13 : x9 = x8 - x1) (f14 : OFL (lineLength_0) (line_0) (x5) (x6)) (f15 : EWJ (way_0) (x5) (x6) (x3)) (f16 : (0 ≤ x1) ∧ (x1 ≤ lineLength_0)) (f17 : x2 = 0) (f18 : 1 ≤ x3) (f19 : (x7 + 2) ≤ lineLength_0) (hK_0_2 : ∀ j : Int, 0 ≤ j → j < 24 → 0 ≤ line_0 j ∧ line_0 j ≤ 23) (hK_0_6 : ∀ j : Int, 0 ≤ j → j < 27 → 0 ≤ way_0 j ∧ way_0 j ≤ 23) (kz_0_3 : 0 ≤ lineLength_0 ∧ lineLength_0 ≤ 24) (ey2 : gy = lineLength_0) (ey3 : 0 ≤ gy ∧ gy ≤ 24) (eu2 : gu = x5) (eu3 : (-2147483648) ≤ gu ∧ gu ≤ 2147483647) (ew2 : gw = x6) (ew3 : (-2147483648) ≤ gw ∧ gw ≤ 2147483647) : 1 * gw + ((-1) * x6 + 0) ≤ 0 := by
  first
    | omega
    | (exfalso; have h := lni_room ‹OFL _ _ _ _› ‹EWJ _ _ _ _› (by omega); omega)
    | (have h := (‹LNO _ _ _ _›).1; omega)
  
set_option maxHeartbeats 4000000 in
theorem vc_Pn_replaceInLine_at_gi_3_7 (x1 : Int) (x2 : Int) (x3 : Int) (x5 : Int) (x6 : Int) (x7 : Int) (x8 : Int) (x9 : Int) (x10 : Int) (x11 : Int) (x12 : Int) (x13 : Int) (x15 : Int) (x16 : Int) (lineLength_0 : Int) (line_0 : Int → Int) (way_0 : Int → Int) (gy : Int) (gu : Int) (gw : Int) (k1 : 0 ≤ x1 ∧ x1 ≤ 23) (k2 : 0 ≤ x2 ∧ x2 ≤ 0) (k3 : 0 ≤ x3 ∧ x3 ≤ 23) (k5 : (-2147483648) ≤ x5 ∧ x5 ≤ 2147483647) (k6 : (-2147483648) ≤ x6 ∧ x6 ≤ 2147483647) (k7 : 0 ≤ x7 ∧ x7 ≤ 24) (k8 : 0 ≤ x8 ∧ x8 ≤ 24) (k9 : 0 ≤ x9 ∧ x9 ≤ 24) (k10 : 0 ≤ x10 ∧ x10 ≤ 24) (k11 : 0 ≤ x11 ∧ x11 ≤ 24) (k12 : 0 ≤ x12 ∧ x12 ≤ 24) (k13 : 24 ≤ x13 ∧ x13 ≤ 24) (k15 : 0 ≤ x15 ∧ x15 ≤ 23) (k16 : 0 ≤ x16 ∧ x16 ≤ 46) (d0 : x3 + 0 ≤ x16 ∧ x16 ≤ x3 + 23) (d1 : x1 + 0 ≤ x16 ∧ x16 ≤ x1 + 23) (d2 : x1 + 0 ≤ x15 ∧ x15 ≤ x1 + 0) (d3 : x3 + 0 ≤ x12 ∧ x12 ≤ x3 + 24) (d4 : x11 + 0 ≤ x12 ∧ x12 ≤ x11 + 23) (d5 : x8 + 0 ≤ x12 ∧ x12 ≤ x8 + 23) (d6 : x8 + 0 ≤ x11 ∧ x11 ≤ x8 + 0) (d7 : x9 + 0 ≤ x10 ∧ x10 ≤ x9 + 0) (d8 : x8 + (-23) ≤ x10 ∧ x10 ≤ x8 + 0) (d9 : x8 + (-23) ≤ x9 ∧ x9 ≤ x8 + 0) (f1 : x16 = x1 + x3) (f3 : x15 = x1 + x2) (f4 : 1 * lineLength_0 + ((-1) * x2 + (1 * x3 + 0)) ≤ 24) (f5 : (-1) * lineLength_0 + (1 * x1 + (1 * x2 + 0)) ≤ 0) (f6 : 0 ≤ x2) (f7 : 0 ≤ x10) (f8 : x12 ≤ x13) (f9 : x12 = x11 + x3) (f10 : x11 = x8 - x2) (g11 : x8 = lineLength_0) (f12 : x10 = x9 - x2) (f13 : x9 = x8 - x1) (f14 : OFL (lineLength_0) (line_0) (x5) (x6)) (f15 : EWJ (way_0) (x5) (x6) (x3)) (f16 : (0 ≤ x1) ∧ (x1 ≤ lineLength_0)) (f17 : x2 = 0) (f18 : 1 ≤ x3) (f19 : (x7 + 2) ≤ lineLength_0) (hK_0_2 : ∀ j : Int, 0 ≤ j → j < 24 → 0 ≤ line_0 j ∧ line_0 j ≤ 23) (hK_0_6 : ∀ j : Int, 0 ≤ j → j < 27 → 0 ≤ way_0 j ∧ way_0 j ≤ 23) (kz_0_3 : 0 ≤ lineLength_0 ∧ lineLength_0 ≤ 24) (ey2 : gy = lineLength_0) (ey3 : 0 ≤ gy ∧ gy ≤ 24) (eu2 : gu = x5) (eu3 : (-2147483648) ≤ gu ∧ gu ≤ 2147483647) (ew2 : gw = x6) (ew3 : (-2147483648) ≤ gw ∧ gw ≤ 2147483647) : (-1) * gw + (1 * x6 + 0) ≤ 0 := by
  first
    | omega
    | (exfalso; have h := lni_room ‹OFL _ _ _ _› ‹EWJ _ _ _ _› (by omega); omega)
    | (have h := (‹LNO _ _ _ _›).1; omega)
  
set_option maxHeartbeats 4000000 in
theorem vc_Pn_replaceInLine_at_gi_3_8 (x1 : Int) (x2 : Int) (x3 : Int) (x5 : Int) (x6 : Int) (x7 : Int) (x8 : Int) (x9 : Int) (x10 : Int) (x11 : Int) (x12 : Int) (x13 : Int) (x15 : Int) (x16 : Int) (lineLength_0 : Int) (line_0 : Int → Int) (way_0 : Int → Int) (gy : Int) (gu : Int) (gw : Int) (k1 : 0 ≤ x1 ∧ x1 ≤ 23) (k2 : 0 ≤ x2 ∧ x2 ≤ 0) (k3 : 0 ≤ x3 ∧ x3 ≤ 23) (k5 : (-2147483648) ≤ x5 ∧ x5 ≤ 2147483647) (k6 : (-2147483648) ≤ x6 ∧ x6 ≤ 2147483647) (k7 : 0 ≤ x7 ∧ x7 ≤ 24) (k8 : 0 ≤ x8 ∧ x8 ≤ 24) (k9 : 0 ≤ x9 ∧ x9 ≤ 24) (k10 : 0 ≤ x10 ∧ x10 ≤ 24) (k11 : 0 ≤ x11 ∧ x11 ≤ 24) (k12 : 0 ≤ x12 ∧ x12 ≤ 24) (k13 : 24 ≤ x13 ∧ x13 ≤ 24) (k15 : 0 ≤ x15 ∧ x15 ≤ 23) (k16 : 0 ≤ x16 ∧ x16 ≤ 46) (d0 : x3 + 0 ≤ x16 ∧ x16 ≤ x3 + 23) (d1 : x1 + 0 ≤ x16 ∧ x16 ≤ x1 + 23) (d2 : x1 + 0 ≤ x15 ∧ x15 ≤ x1 + 0) (d3 : x3 + 0 ≤ x12 ∧ x12 ≤ x3 + 24) (d4 : x11 + 0 ≤ x12 ∧ x12 ≤ x11 + 23) (d5 : x8 + 0 ≤ x12 ∧ x12 ≤ x8 + 23) (d6 : x8 + 0 ≤ x11 ∧ x11 ≤ x8 + 0) (d7 : x9 + 0 ≤ x10 ∧ x10 ≤ x9 + 0) (d8 : x8 + (-23) ≤ x10 ∧ x10 ≤ x8 + 0) (d9 : x8 + (-23) ≤ x9 ∧ x9 ≤ x8 + 0) (f1 : x16 = x1 + x3) (f3 : x15 = x1 + x2) (f4 : 1 * lineLength_0 + ((-1) * x2 + (1 * x3 + 0)) ≤ 24) (f5 : (-1) * lineLength_0 + (1 * x1 + (1 * x2 + 0)) ≤ 0) (f6 : 0 ≤ x2) (f7 : 0 ≤ x10) (f8 : x12 ≤ x13) (f9 : x12 = x11 + x3) (f10 : x11 = x8 - x2) (g11 : x8 = lineLength_0) (f12 : x10 = x9 - x2) (f13 : x9 = x8 - x1) (f14 : OFL (lineLength_0) (line_0) (x5) (x6)) (f15 : EWJ (way_0) (x5) (x6) (x3)) (f16 : (0 ≤ x1) ∧ (x1 ≤ lineLength_0)) (f17 : x2 = 0) (f18 : 1 ≤ x3) (f19 : (x7 + 2) ≤ lineLength_0) (hK_0_2 : ∀ j : Int, 0 ≤ j → j < 24 → 0 ≤ line_0 j ∧ line_0 j ≤ 23) (hK_0_6 : ∀ j : Int, 0 ≤ j → j < 27 → 0 ≤ way_0 j ∧ way_0 j ≤ 23) (kz_0_3 : 0 ≤ lineLength_0 ∧ lineLength_0 ≤ 24) (ey2 : gy = lineLength_0) (ey3 : 0 ≤ gy ∧ gy ≤ 24) (eu2 : gu = x5) (eu3 : (-2147483648) ≤ gu ∧ gu ≤ 2147483647) (ew2 : gw = x6) (ew3 : (-2147483648) ≤ gw ∧ gw ≤ 2147483647) : DRQ1 (line_0) (line_0) (way_0) (x15) (x16) (x10) (gy) (gu) (gw) := by
  first
    | (rw [show gu = x5 by omega, show gw = x6 by omega]; exact dr1_of (ct := x3) ‹OFL _ _ _ _› (by omega) ‹EWJ _ _ _ _› (by omega) (by omega) (by omega) (by omega) (by omega))
  
def o_Pn_replaceInLine_at_gi_3 : or_T := (49, 17, [(0, (2, 0, 0, [7])), (1, (0, 0, 23, [])), (2, (0, 0, 0, [])), (3, (0, 0, 23, [])), (4, (2, 0, 0, [106])), (5, (0, -2147483648, 2147483647, [])), (6, (0, -2147483648, 2147483647, [])), (7, (0, 0, 24, [])), (8, (0, 0, 24, [])), (9, (0, 0, 24, [])), (10, (0, 0, 24, [])), (11, (0, 0, 24, [])), (12, (0, 0, 24, [])), (13, (0, 24, 24, [])), (15, (0, 0, 23, [])), (16, (0, 0, 46, []))], [(9, [4, 0], [6]), (1, [16, 1, 3], []), (9, [14, 0], [2]), (1, [15, 1, 2], []), (20, [0, 2, 3], [30, 24, 1, 1, 3, -1, 0, 0, 1, 0, 0]), (20, [0, 1, 2], [30, 0, -1, 1, 3, 1, 0, 0, 1, 0, 0]), (8, [2], [3]), (8, [10], [3]), (7, [12, 13], [5]), (1, [12, 11, 3], []), (2, [11, 8, 2], []), (9, [8, 0], [3]), (2, [10, 9, 2], []), (2, [9, 8, 1], []), (20, [0, 5, 6], [60, 1, 1, 900, 3, 2]), (20, [0, 5, 6, 3], [60, 0, 1, 909, 6]), (20, [1, 0], [50, 1, 0, 1003, 2, 6, 0, 2, 0, 0, 1, 0, 0, 2, 1, 0, 2, 1, 3]), (20, [2], [50, 0, 0, 1, 2, 1, 0, 0, 0]), (20, [3], [50, 0, 0, 0, 2, 0, 1, 1, 0]), (20, [7, 0], [50, 1, 0, 1003, 0, 6, 4, 2, 1, 0, 0, 2, 2, 1, 3])], [], [(2, 0, 0, [106]), (0, 0, 24, []), (0, -2147483648, 2147483647, []), (0, -2147483648, 2147483647, [])], [(21, [15, 10], [24]), (21, [16, 10], [24]), (24, [4, 17], []), (20, [18, 0], [50, 1, 0, 1003, 1, 2, 1, 0, 2, 1, 3]), (23, [19, 5], [0, 1, -1]), (23, [19, 5], [0, -1, 1]), (23, [20, 6], [0, 1, -1]), (23, [20, 6], [0, -1, 1]), (20, [14, 14, 17, 15, 16, 10, 18, 19, 20], [61, 3, 916])], [], [(16, 3, 0, 23), (16, 1, 0, 23), (15, 1, 0, 0), (12, 3, 0, 24), (12, 11, 0, 23), (12, 8, 0, 23), (11, 8, 0, 0), (10, 9, 0, 0), (10, 8, -23, 0), (9, 8, -23, 0)])
theorem oo_Pn_replaceInLine_at_gi_3 {kA : Nat → ClassId} : or_ok PRD kA GG o_Pn_replaceInLine_at_gi_3 := by
  refine or_mk fun A ta ws vs hD hth hl => ?_
  intro t0 r0 t1 k1 t2 k2 t3 k3 t4 r4 t5 k5 t6 k6 t7 k7 t8 k8 t9 k9 t10 k10 t11 k11 t12 k12 t13 k13 t15 k15 t16 k16 d0 d1 d2 d3 d4 d5 d6 d7 d8 d9 f0 f1 f2 f3 f4 f5 f6 f7 f8 f9 f10 f11 f12 f13 f14 f15 f16 f17 f18 f19
  replace f0 := shm_111 f0
  replace f1 := shm_12 f1
  replace f2 := shm_120 f2
  replace f3 := shm_12 f3
  replace f4 := shm_138 f4
  replace f5 := shm_139 f5
  replace f6 := shm_32 f6
  replace f7 := shm_32 f7
  replace f8 := shm_24 f8
  replace f9 := shm_12 f9
  replace f10 := shm_14 f10
  replace f11 := shm_137 f11
  replace f12 := shm_14 f12
  replace f13 := shm_14 f13
  replace f14 := shm_908 f14
  replace f15 := shm_909 f15
  replace f16 := shm_910 f16
  replace f17 := shm_649 f17
  replace f18 := shm_710 f18
  replace f19 := shm_911 f19
  have cr_0_2 := fdq_227 hD hth r0
  have cr_0_6 := fdq_228 hD hth r0
  have ad_4 : v_ad (n_v vs 4) = w_ar ws (n_v vs 0) 6 := congrArg v_ad f0
  have ad_14 : v_ad (n_v vs 14) = w_ar ws (n_v vs 0) 2 := congrArg v_ad f2
  have g11 : v_iv (n_v vs 8) = w_fi ws (n_v vs 0) 3 := congrArg v_iv f11
  have hK_0_2 := elq_140 hD hth cr_0_2
  have hK_0_6 := elq_141 hD hth cr_0_6
  have kz_0_3 := fdq_13 hD hth r0
  obtain ⟨y, ey, hy⟩ := iv_ex (ta := ta) (lo := 0) (hi := 24) (z := w_fi ws (n_v vs 0) 3) (by omega) (by omega) (by omega) (by omega)
  have ey2 : v_iv (Value.int y) = w_fi ws (n_v vs 0) 3 := ey
  have ey3 : 0 ≤ v_iv (Value.int y) ∧ v_iv (Value.int y) ≤ 24 := tv_rng hy
  obtain ⟨u, eu, hu⟩ := iv_ex (ta := ta) (lo := (-2147483648)) (hi := 2147483647) (z := v_iv (n_v vs 5)) (by omega) (by omega) (by omega) (by omega)
  have eu2 : v_iv (Value.int u) = v_iv (n_v vs 5) := eu
  have eu3 : (-2147483648) ≤ v_iv (Value.int u) ∧ v_iv (Value.int u) ≤ 2147483647 := tv_rng hu
  obtain ⟨w, ew, hw⟩ := iv_ex (ta := ta) (lo := (-2147483648)) (hi := 2147483647) (z := v_iv (n_v vs 6)) (by omega) (by omega) (by omega) (by omega)
  have ew2 : v_iv (Value.int w) = v_iv (n_v vs 6) := ew
  have ew3 : (-2147483648) ≤ v_iv (Value.int w) ∧ v_iv (Value.int w) ≤ 2147483647 := tv_rng hw
  have e_0 : n_v (vs ++ [n_v vs 4, Value.int y, Value.int u, Value.int w]) 0 = n_v vs 0 := n_v_old (by rw [hl]; decide)
  have e_4 : n_v (vs ++ [n_v vs 4, Value.int y, Value.int u, Value.int w]) 4 = n_v vs 4 := n_v_old (by rw [hl]; decide)
  have e_5 : n_v (vs ++ [n_v vs 4, Value.int y, Value.int u, Value.int w]) 5 = n_v vs 5 := n_v_old (by rw [hl]; decide)
  have e_6 : n_v (vs ++ [n_v vs 4, Value.int y, Value.int u, Value.int w]) 6 = n_v vs 6 := n_v_old (by rw [hl]; decide)
  have e_10 : n_v (vs ++ [n_v vs 4, Value.int y, Value.int u, Value.int w]) 10 = n_v vs 10 := n_v_old (by rw [hl]; decide)
  have e_14 : n_v (vs ++ [n_v vs 4, Value.int y, Value.int u, Value.int w]) 14 = n_v vs 14 := n_v_old (by rw [hl]; decide)
  have e_15 : n_v (vs ++ [n_v vs 4, Value.int y, Value.int u, Value.int w]) 15 = n_v vs 15 := n_v_old (by rw [hl]; decide)
  have e_16 : n_v (vs ++ [n_v vs 4, Value.int y, Value.int u, Value.int w]) 16 = n_v vs 16 := n_v_old (by rw [hl]; decide)
  have e_17 : n_v (vs ++ [n_v vs 4, Value.int y, Value.int u, Value.int w]) 17 = n_v vs 4 := n_v_newk (k := 0) hl rfl
  have e_18 : n_v (vs ++ [n_v vs 4, Value.int y, Value.int u, Value.int w]) 18 = Value.int y := n_v_newk (k := 1) hl rfl
  have e_19 : n_v (vs ++ [n_v vs 4, Value.int y, Value.int u, Value.int w]) 19 = Value.int u := n_v_newk (k := 2) hl rfl
  have e_20 : n_v (vs ++ [n_v vs 4, Value.int y, Value.int u, Value.int w]) 20 = Value.int w := n_v_newk (k := 3) hl rfl
  have nf0 : fc_1 PRD (21, [15, 10], [24]) ws (vs ++ [n_v vs 4, Value.int y, Value.int u, Value.int w]) := by
    refine ⟨nf_inA hl rfl, sgq_140 ?_⟩
    · show v_iv (n_v (vs ++ [n_v vs 4, Value.int y, Value.int u, Value.int w]) 15) + v_iv (n_v (vs ++ [n_v vs 4, Value.int y, Value.int u, Value.int w]) 10) ≤ 24
      simp only [e_10, e_15]
      exact vc_Pn_replaceInLine_at_gi_3_0 (v_iv (n_v vs 1)) (v_iv (n_v vs 2)) (v_iv (n_v vs 3)) (v_iv (n_v vs 5)) (v_iv (n_v vs 6)) (v_iv (n_v vs 7)) (v_iv (n_v vs 8)) (v_iv (n_v vs 9)) (v_iv (n_v vs 10)) (v_iv (n_v vs 11)) (v_iv (n_v vs 12)) (v_iv (n_v vs 13)) (v_iv (n_v vs 15)) (v_iv (n_v vs 16)) (w_fi ws (n_v vs 0) 3) (w_ei ws (w_ar ws (n_v vs 0) 2)) (w_ei ws (w_ar ws (n_v vs 0) 6)) (v_iv (Value.int y)) (v_iv (Value.int u)) (v_iv (Value.int w)) k1 k2 k3 k5 k6 k7 k8 k9 k10 k11 k12 k13 k15 k16 d0 d1 d2 d3 d4 d5 d6 d7 d8 d9 f1 f3 f4 f5 f6 f7 f8 f9 f10 g11 f12 f13 f14 f15 f16 f17 f18 f19 hK_0_2 hK_0_6 kz_0_3 ey2 ey3 eu2 eu3 ew2 ew3
  have nf1 : fc_1 PRD (21, [16, 10], [24]) ws (vs ++ [n_v vs 4, Value.int y, Value.int u, Value.int w]) := by
    refine ⟨nf_inA hl rfl, sgq_140 ?_⟩
    · show v_iv (n_v (vs ++ [n_v vs 4, Value.int y, Value.int u, Value.int w]) 16) + v_iv (n_v (vs ++ [n_v vs 4, Value.int y, Value.int u, Value.int w]) 10) ≤ 24
      simp only [e_10, e_16]
      exact vc_Pn_replaceInLine_at_gi_3_1 (v_iv (n_v vs 1)) (v_iv (n_v vs 2)) (v_iv (n_v vs 3)) (v_iv (n_v vs 5)) (v_iv (n_v vs 6)) (v_iv (n_v vs 7)) (v_iv (n_v vs 8)) (v_iv (n_v vs 9)) (v_iv (n_v vs 10)) (v_iv (n_v vs 11)) (v_iv (n_v vs 12)) (v_iv (n_v vs 13)) (v_iv (n_v vs 15)) (v_iv (n_v vs 16)) (w_fi ws (n_v vs 0) 3) (w_ei ws (w_ar ws (n_v vs 0) 2)) (w_ei ws (w_ar ws (n_v vs 0) 6)) (v_iv (Value.int y)) (v_iv (Value.int u)) (v_iv (Value.int w)) k1 k2 k3 k5 k6 k7 k8 k9 k10 k11 k12 k13 k15 k16 d0 d1 d2 d3 d4 d5 d6 d7 d8 d9 f1 f3 f4 f5 f6 f7 f8 f9 f10 g11 f12 f13 f14 f15 f16 f17 f18 f19 hK_0_2 hK_0_6 kz_0_3 ey2 ey3 eu2 eu3 ew2 ew3
  have nf2 : fc_1 PRD (24, [4, 17], []) ws (vs ++ [n_v vs 4, Value.int y, Value.int u, Value.int w]) := by
    refine ⟨nf_inA hl rfl, sgq_5 ?_⟩
    · show n_v (vs ++ [n_v vs 4, Value.int y, Value.int u, Value.int w]) 4 = n_v (vs ++ [n_v vs 4, Value.int y, Value.int u, Value.int w]) 17
      first | rfl | simp only [e_4, e_17]
  have nf3 : fc_1 PRD (20, [18, 0], [50, 1, 0, 1003, 1, 2, 1, 0, 2, 1, 3]) ws (vs ++ [n_v vs 4, Value.int y, Value.int u, Value.int w]) := by
    refine ⟨nf_inA hl rfl, sgq_903 ?_⟩
    · show v_iv (n_v (vs ++ [n_v vs 4, Value.int y, Value.int u, Value.int w]) 18) = w_fi ws (n_v (vs ++ [n_v vs 4, Value.int y, Value.int u, Value.int w]) 0) 3
      simp only [e_0, e_18]
      exact vc_Pn_replaceInLine_at_gi_3_3 (v_iv (n_v vs 1)) (v_iv (n_v vs 2)) (v_iv (n_v vs 3)) (v_iv (n_v vs 5)) (v_iv (n_v vs 6)) (v_iv (n_v vs 7)) (v_iv (n_v vs 8)) (v_iv (n_v vs 9)) (v_iv (n_v vs 10)) (v_iv (n_v vs 11)) (v_iv (n_v vs 12)) (v_iv (n_v vs 13)) (v_iv (n_v vs 15)) (v_iv (n_v vs 16)) (w_fi ws (n_v vs 0) 3) (w_ei ws (w_ar ws (n_v vs 0) 2)) (w_ei ws (w_ar ws (n_v vs 0) 6)) (v_iv (Value.int y)) (v_iv (Value.int u)) (v_iv (Value.int w)) k1 k2 k3 k5 k6 k7 k8 k9 k10 k11 k12 k13 k15 k16 d0 d1 d2 d3 d4 d5 d6 d7 d8 d9 f1 f3 f4 f5 f6 f7 f8 f9 f10 g11 f12 f13 f14 f15 f16 f17 f18 f19 hK_0_2 hK_0_6 kz_0_3 ey2 ey3 eu2 eu3 ew2 ew3
  have nf4 : fc_1 PRD (23, [19, 5], [0, 1, -1]) ws (vs ++ [n_v vs 4, Value.int y, Value.int u, Value.int w]) := by
    refine ⟨nf_inA hl rfl, sgq_7 ?_⟩
    · show 1 * v_iv (n_v (vs ++ [n_v vs 4, Value.int y, Value.int u, Value.int w]) 19) + ((-1) * v_iv (n_v (vs ++ [n_v vs 4, Value.int y, Value.int u, Value.int w]) 5) + 0) ≤ 0
      simp only [e_5, e_19]
      exact vc_Pn_replaceInLine_at_gi_3_4 (v_iv (n_v vs 1)) (v_iv (n_v vs 2)) (v_iv (n_v vs 3)) (v_iv (n_v vs 5)) (v_iv (n_v vs 6)) (v_iv (n_v vs 7)) (v_iv (n_v vs 8)) (v_iv (n_v vs 9)) (v_iv (n_v vs 10)) (v_iv (n_v vs 11)) (v_iv (n_v vs 12)) (v_iv (n_v vs 13)) (v_iv (n_v vs 15)) (v_iv (n_v vs 16)) (w_fi ws (n_v vs 0) 3) (w_ei ws (w_ar ws (n_v vs 0) 2)) (w_ei ws (w_ar ws (n_v vs 0) 6)) (v_iv (Value.int y)) (v_iv (Value.int u)) (v_iv (Value.int w)) k1 k2 k3 k5 k6 k7 k8 k9 k10 k11 k12 k13 k15 k16 d0 d1 d2 d3 d4 d5 d6 d7 d8 d9 f1 f3 f4 f5 f6 f7 f8 f9 f10 g11 f12 f13 f14 f15 f16 f17 f18 f19 hK_0_2 hK_0_6 kz_0_3 ey2 ey3 eu2 eu3 ew2 ew3
  have nf5 : fc_1 PRD (23, [19, 5], [0, -1, 1]) ws (vs ++ [n_v vs 4, Value.int y, Value.int u, Value.int w]) := by
    refine ⟨nf_inA hl rfl, sgq_22 ?_⟩
    · show (-1) * v_iv (n_v (vs ++ [n_v vs 4, Value.int y, Value.int u, Value.int w]) 19) + (1 * v_iv (n_v (vs ++ [n_v vs 4, Value.int y, Value.int u, Value.int w]) 5) + 0) ≤ 0
      simp only [e_5, e_19]
      exact vc_Pn_replaceInLine_at_gi_3_5 (v_iv (n_v vs 1)) (v_iv (n_v vs 2)) (v_iv (n_v vs 3)) (v_iv (n_v vs 5)) (v_iv (n_v vs 6)) (v_iv (n_v vs 7)) (v_iv (n_v vs 8)) (v_iv (n_v vs 9)) (v_iv (n_v vs 10)) (v_iv (n_v vs 11)) (v_iv (n_v vs 12)) (v_iv (n_v vs 13)) (v_iv (n_v vs 15)) (v_iv (n_v vs 16)) (w_fi ws (n_v vs 0) 3) (w_ei ws (w_ar ws (n_v vs 0) 2)) (w_ei ws (w_ar ws (n_v vs 0) 6)) (v_iv (Value.int y)) (v_iv (Value.int u)) (v_iv (Value.int w)) k1 k2 k3 k5 k6 k7 k8 k9 k10 k11 k12 k13 k15 k16 d0 d1 d2 d3 d4 d5 d6 d7 d8 d9 f1 f3 f4 f5 f6 f7 f8 f9 f10 g11 f12 f13 f14 f15 f16 f17 f18 f19 hK_0_2 hK_0_6 kz_0_3 ey2 ey3 eu2 eu3 ew2 ew3
  have nf6 : fc_1 PRD (23, [20, 6], [0, 1, -1]) ws (vs ++ [n_v vs 4, Value.int y, Value.int u, Value.int w]) := by
    refine ⟨nf_inA hl rfl, sgq_7 ?_⟩
    · show 1 * v_iv (n_v (vs ++ [n_v vs 4, Value.int y, Value.int u, Value.int w]) 20) + ((-1) * v_iv (n_v (vs ++ [n_v vs 4, Value.int y, Value.int u, Value.int w]) 6) + 0) ≤ 0
      simp only [e_6, e_20]
      exact vc_Pn_replaceInLine_at_gi_3_6 (v_iv (n_v vs 1)) (v_iv (n_v vs 2)) (v_iv (n_v vs 3)) (v_iv (n_v vs 5)) (v_iv (n_v vs 6)) (v_iv (n_v vs 7)) (v_iv (n_v vs 8)) (v_iv (n_v vs 9)) (v_iv (n_v vs 10)) (v_iv (n_v vs 11)) (v_iv (n_v vs 12)) (v_iv (n_v vs 13)) (v_iv (n_v vs 15)) (v_iv (n_v vs 16)) (w_fi ws (n_v vs 0) 3) (w_ei ws (w_ar ws (n_v vs 0) 2)) (w_ei ws (w_ar ws (n_v vs 0) 6)) (v_iv (Value.int y)) (v_iv (Value.int u)) (v_iv (Value.int w)) k1 k2 k3 k5 k6 k7 k8 k9 k10 k11 k12 k13 k15 k16 d0 d1 d2 d3 d4 d5 d6 d7 d8 d9 f1 f3 f4 f5 f6 f7 f8 f9 f10 g11 f12 f13 f14 f15 f16 f17 f18 f19 hK_0_2 hK_0_6 kz_0_3 ey2 ey3 eu2 eu3 ew2 ew3
  have nf7 : fc_1 PRD (23, [20, 6], [0, -1, 1]) ws (vs ++ [n_v vs 4, Value.int y, Value.int u, Value.int w]) := by
    refine ⟨nf_inA hl rfl, sgq_22 ?_⟩
    · show (-1) * v_iv (n_v (vs ++ [n_v vs 4, Value.int y, Value.int u, Value.int w]) 20) + (1 * v_iv (n_v (vs ++ [n_v vs 4, Value.int y, Value.int u, Value.int w]) 6) + 0) ≤ 0
      simp only [e_6, e_20]
      exact vc_Pn_replaceInLine_at_gi_3_7 (v_iv (n_v vs 1)) (v_iv (n_v vs 2)) (v_iv (n_v vs 3)) (v_iv (n_v vs 5)) (v_iv (n_v vs 6)) (v_iv (n_v vs 7)) (v_iv (n_v vs 8)) (v_iv (n_v vs 9)) (v_iv (n_v vs 10)) (v_iv (n_v vs 11)) (v_iv (n_v vs 12)) (v_iv (n_v vs 13)) (v_iv (n_v vs 15)) (v_iv (n_v vs 16)) (w_fi ws (n_v vs 0) 3) (w_ei ws (w_ar ws (n_v vs 0) 2)) (w_ei ws (w_ar ws (n_v vs 0) 6)) (v_iv (Value.int y)) (v_iv (Value.int u)) (v_iv (Value.int w)) k1 k2 k3 k5 k6 k7 k8 k9 k10 k11 k12 k13 k15 k16 d0 d1 d2 d3 d4 d5 d6 d7 d8 d9 f1 f3 f4 f5 f6 f7 f8 f9 f10 g11 f12 f13 f14 f15 f16 f17 f18 f19 hK_0_2 hK_0_6 kz_0_3 ey2 ey3 eu2 eu3 ew2 ew3
  have nf8 : fc_1 PRD (20, [14, 14, 17, 15, 16, 10, 18, 19, 20], [61, 3, 916]) ws (vs ++ [n_v vs 4, Value.int y, Value.int u, Value.int w]) := by
    refine ⟨nf_inA hl rfl, sgq_914 ?_⟩
    · show DRQ1 (w_ei ws (v_ad (n_v (vs ++ [n_v vs 4, Value.int y, Value.int u, Value.int w]) 14))) (w_ei ws (v_ad (n_v (vs ++ [n_v vs 4, Value.int y, Value.int u, Value.int w]) 14))) (w_ei ws (v_ad (n_v (vs ++ [n_v vs 4, Value.int y, Value.int u, Value.int w]) 17))) (v_iv (n_v (vs ++ [n_v vs 4, Value.int y, Value.int u, Value.int w]) 15)) (v_iv (n_v (vs ++ [n_v vs 4, Value.int y, Value.int u, Value.int w]) 16)) (v_iv (n_v (vs ++ [n_v vs 4, Value.int y, Value.int u, Value.int w]) 10)) (v_iv (n_v (vs ++ [n_v vs 4, Value.int y, Value.int u, Value.int w]) 18)) (v_iv (n_v (vs ++ [n_v vs 4, Value.int y, Value.int u, Value.int w]) 19)) (v_iv (n_v (vs ++ [n_v vs 4, Value.int y, Value.int u, Value.int w]) 20))
      simp only [e_10, e_14, e_15, e_16, e_17, e_18, e_19, e_20, ad_4, ad_14]
      exact vc_Pn_replaceInLine_at_gi_3_8 (v_iv (n_v vs 1)) (v_iv (n_v vs 2)) (v_iv (n_v vs 3)) (v_iv (n_v vs 5)) (v_iv (n_v vs 6)) (v_iv (n_v vs 7)) (v_iv (n_v vs 8)) (v_iv (n_v vs 9)) (v_iv (n_v vs 10)) (v_iv (n_v vs 11)) (v_iv (n_v vs 12)) (v_iv (n_v vs 13)) (v_iv (n_v vs 15)) (v_iv (n_v vs 16)) (w_fi ws (n_v vs 0) 3) (w_ei ws (w_ar ws (n_v vs 0) 2)) (w_ei ws (w_ar ws (n_v vs 0) 6)) (v_iv (Value.int y)) (v_iv (Value.int u)) (v_iv (Value.int w)) k1 k2 k3 k5 k6 k7 k8 k9 k10 k11 k12 k13 k15 k16 d0 d1 d2 d3 d4 d5 d6 d7 d8 d9 f1 f3 f4 f5 f6 f7 f8 f9 f10 g11 f12 f13 f14 f15 f16 f17 f18 f19 hK_0_2 hK_0_6 kz_0_3 ey2 ey3 eu2 eu3 ew2 ew3
  exact ⟨(fun _ h => (by cases h)), [n_v vs 4, Value.int y, Value.int u, Value.int w], ag_four t4 hy hu hw, List.forall_mem_cons.mpr ⟨⟨show (21 : Nat) < 100 from by decide, nf0⟩, List.forall_mem_cons.mpr ⟨⟨show (21 : Nat) < 100 from by decide, nf1⟩, List.forall_mem_cons.mpr ⟨⟨show (24 : Nat) < 100 from by decide, nf2⟩, List.forall_mem_cons.mpr ⟨⟨show (20 : Nat) < 100 from by decide, nf3⟩, List.forall_mem_cons.mpr ⟨⟨show (23 : Nat) < 100 from by decide, nf4⟩, List.forall_mem_cons.mpr ⟨⟨show (23 : Nat) < 100 from by decide, nf5⟩, List.forall_mem_cons.mpr ⟨⟨show (23 : Nat) < 100 from by decide, nf6⟩, List.forall_mem_cons.mpr ⟨⟨show (23 : Nat) < 100 from by decide, nf7⟩, List.forall_mem_cons.mpr ⟨⟨show (20 : Nat) < 100 from by decide, nf8⟩, (fun _ h => (by cases h))⟩⟩⟩⟩⟩⟩⟩⟩⟩, (fun _ h => (by cases h))⟩
set_option maxHeartbeats 4000000 in
theorem vc_Pn_replaceInLine_at_gi_4_0 (x1 : Int) (x2 : Int) (x3 : Int) (x5 : Int) (x6 : Int) (x7 : Int) (x8 : Int) (x9 : Int) (x10 : Int) (x11 : Int) (x12 : Int) (x13 : Int) (x15 : Int) (x16 : Int) (x18 : Int) (x19 : Int) (x20 : Int) (x21 : Int) (lineLength_0 : Int) (way_0 : Int → Int) (a14_0 : Int → Int) (gy : Int) (gu : Int) (gw : Int) (k1 : 0 ≤ x1 ∧ x1 ≤ 23) (k2 : 0 ≤ x2 ∧ x2 ≤ 0) (k3 : 0 ≤ x3 ∧ x3 ≤ 23) (k5 : (-2147483648) ≤ x5 ∧ x5 ≤ 2147483647) (k6 : (-2147483648) ≤ x6 ∧ x6 ≤ 2147483647) (k7 : 0 ≤ x7 ∧ x7 ≤ 24) (k8 : 0 ≤ x8 ∧ x8 ≤ 24) (k9 : 0 ≤ x9 ∧ x9 ≤ 24) (k10 : 0 ≤ x10 ∧ x10 ≤ 24) (k11 : 0 ≤ x11 ∧ x11 ≤ 24) (k12 : 0 ≤ x12 ∧ x12 ≤ 24) (k13 : 24 ≤ x13 ∧ x13 ≤ 24) (k15 : 0 ≤ x15 ∧ x15 ≤ 23) (k16 : 0 ≤ x16 ∧ x16 ≤ 46) (k18 : 0 ≤ x18 ∧ x18 ≤ 24) (k19 : (-2147483648) ≤ x19 ∧ x19 ≤ 2147483647) (k20 : (-2147483648) ≤ x20 ∧ x20 ≤ 2147483647) (k21 : 0 ≤ x21 ∧ x21 ≤ 0) (d0 : x3 + 0 ≤ x16 ∧ x16 ≤ x3 + 23) (d1 : x1 + 0 ≤ x16 ∧ x16 ≤ x1 + 23) (d2 : x1 + 0 ≤ x15 ∧ x15 ≤ x1 + 0) (d3 : x3 + 0 ≤ x12 ∧ x12 ≤ x3 + 24) (d4 : x11 + 0 ≤ x12 ∧ x12 ≤ x11 + 23) (d5 : x8 + 0 ≤ x12 ∧ x12 ≤ x8 + 23) (d6 : x8 + 0 ≤ x11 ∧ x11 ≤ x8 + 0) (d7 : x9 + 0 ≤ x10 ∧ x10 ≤ x9 + 0) (d8 : x8 + (-23) ≤ x10 ∧ x10 ≤ x8 + 0) (d9 : x8 + (-23) ≤ x9 ∧ x9 ≤ x8 + 0) (g0 : x8 = lineLength_0) (f2 : x15 + x10 ≤ 24) (f3 : x16 + x10 ≤ 24) (f5 : x18 = lineLength_0) (f6 : 1 * x19 + ((-1) * x5 + 0) ≤ 0) (f7 : (-1) * x19 + (1 * x5 + 0) ≤ 0) (f8 : 1 * x20 + ((-1) * x6 + 0) ≤ 0) (f9 : (-1) * x20 + (1 * x6 + 0) ≤ 0) (f10 : 1 * lineLength_0 + ((-1) * x2 + (1 * x3 + 0)) ≤ 24) (f11 : (-1) * lineLength_0 + (1 * x1 + (1 * x2 + 0)) ≤ 0) (f12 : EWJ (way_0) (x5) (x6) (x3)) (f13 : (0 ≤ x1) ∧ (x1 ≤ lineLength_0)) (f14 : x2 = 0) (f15 : 1 ≤ x3) (f16 : (x7 + 2) ≤ lineLength_0) (f17 : DRQ2 (a14_0) (a14_0) (way_0) (x15) (x16) (x10) (x18) (x19) (x20)) (f19 : x15 + x10 ≤ 24) (f20 : x16 + x10 ≤ 24) (f21 : 1 * x19 + ((-1) * x5 + 0) ≤ 0) (f22 : (-1) * x19 + (1 * x5 + 0) ≤ 0) (f23 : 1 * x20 + ((-1) * x6 + 0) ≤ 0) (f24 : (-1) * x20 + (1 * x6 + 0) ≤ 0) (f25 : x16 = x1 + x3) (f26 : x15 = x1 + x2) (f27 : 0 ≤ x2) (f28 : 0 ≤ x10) (f29 : x12 ≤ x13) (f30 : x12 = x11 + x3) (f31 : x11 = x8 - x2) (f32 : x10 = x9 - x2) (f33 : x9 = x8 - x1) (hK_0_6 : ∀ j : Int, 0 ≤ j → j < 27 → 0 ≤ way_0 j ∧ way_0 j ≤ 23) (hK_14_999 : ∀ j : Int, 0 ≤ j → j < 24 → 0 ≤ a14_0 j ∧ a14_0 j ≤ 23) (kz_0_3 : 0 ≤ lineLength_0 ∧ lineLength_0 ≤ 24) (ey2 : gy = lineLength_0) (ey3 : 0 ≤ gy ∧ gy ≤ 24) (eu2 : gu = x5) (eu3 : (-2147483648) ≤ gu ∧ gu ≤ 2147483647) (ew2 : gw = x6) (ew3 : (-2147483648) ≤ gw ∧ gw ≤ 2147483647) : x21 + x3 ≤ 27 := by
  first
    | omega
    | (exfalso; have h := lni_room ‹OFL _ _ _ _› ‹EWJ _ _ _ _› (by omega); omega)
    | (have h := (‹LNO _ _ _ _›).1; omega)
  
set_option maxHeartbeats 4000000 in
theorem vc_Pn_replaceInLine_at_gi_4_1 (x1 : Int) (x2 : Int) (x3 : Int) (x5 : Int) (x6 : Int) (x7 : Int) (x8 : Int) (x9 : Int) (x10 : Int) (x11 : Int) (x12 : Int) (x13 : Int) (x15 : Int) (x16 : Int) (x18 : Int) (x19 : Int) (x20 : Int) (x21 : Int) (lineLength_0 : Int) (way_0 : Int → Int) (a14_0 : Int → Int) (gy : Int) (gu : Int) (gw : Int) (k1 : 0 ≤ x1 ∧ x1 ≤ 23) (k2 : 0 ≤ x2 ∧ x2 ≤ 0) (k3 : 0 ≤ x3 ∧ x3 ≤ 23) (k5 : (-2147483648) ≤ x5 ∧ x5 ≤ 2147483647) (k6 : (-2147483648) ≤ x6 ∧ x6 ≤ 2147483647) (k7 : 0 ≤ x7 ∧ x7 ≤ 24) (k8 : 0 ≤ x8 ∧ x8 ≤ 24) (k9 : 0 ≤ x9 ∧ x9 ≤ 24) (k10 : 0 ≤ x10 ∧ x10 ≤ 24) (k11 : 0 ≤ x11 ∧ x11 ≤ 24) (k12 : 0 ≤ x12 ∧ x12 ≤ 24) (k13 : 24 ≤ x13 ∧ x13 ≤ 24) (k15 : 0 ≤ x15 ∧ x15 ≤ 23) (k16 : 0 ≤ x16 ∧ x16 ≤ 46) (k18 : 0 ≤ x18 ∧ x18 ≤ 24) (k19 : (-2147483648) ≤ x19 ∧ x19 ≤ 2147483647) (k20 : (-2147483648) ≤ x20 ∧ x20 ≤ 2147483647) (k21 : 0 ≤ x21 ∧ x21 ≤ 0) (d0 : x3 + 0 ≤ x16 ∧ x16 ≤ x3 + 23) (d1 : x1 + 0 ≤ x16 ∧ x16 ≤ x1 + 23) (d2 : x1 + 0 ≤ x15 ∧ x15 ≤ x1 + 0) (d3 : x3 + 0 ≤ x12 ∧ x12 ≤ x3 + 24) (d4 : x11 + 0 ≤ x12 ∧ x12 ≤ x11 + 23) (d5 : x8 + 0 ≤ x12 ∧ x12 ≤ x8 + 23) (d6 : x8 + 0 ≤ x11 ∧ x11 ≤ x8 + 0) (d7 : x9 + 0 ≤ x10 ∧ x10 ≤ x9 + 0) (d8 : x8 + (-23) ≤ x10 ∧ x10 ≤ x8 + 0) (d9 : x8 + (-23) ≤ x9 ∧ x9 ≤ x8 + 0) (g0 : x8 = lineLength_0) (f2 : x15 + x10 ≤ 24) (f3 : x16 + x10 ≤ 24) (f5 : x18 = lineLength_0) (f6 : 1 * x19 + ((-1) * x5 + 0) ≤ 0) (f7 : (-1) * x19 + (1 * x5 + 0) ≤ 0) (f8 : 1 * x20 + ((-1) * x6 + 0) ≤ 0) (f9 : (-1) * x20 + (1 * x6 + 0) ≤ 0) (f10 : 1 * lineLength_0 + ((-1) * x2 + (1 * x3 + 0)) ≤ 24) (f11 : (-1) * lineLength_0 + (1 * x1 + (1 * x2 + 0)) ≤ 0) (f12 : EWJ (way_0) (x5) (x6) (x3)) (f13 : (0 ≤ x1) ∧ (x1 ≤ lineLength_0)) (f14 : x2 = 0) (f15 : 1 ≤ x3) (f16 : (x7 + 2) ≤ lineLength_0) (f17 : DRQ2 (a14_0) (a14_0) (way_0) (x15) (x16) (x10) (x18) (x19) (x20)) (f19 : x15 + x10 ≤ 24) (f20 : x16 + x10 ≤ 24) (f21 : 1 * x19 + ((-1) * x5 + 0) ≤ 0) (f22 : (-1) * x19 + (1 * x5 + 0) ≤ 0) (f23 : 1 * x20 + ((-1) * x6 + 0) ≤ 0) (f24 : (-1) * x20 + (1 * x6 + 0) ≤ 0) (f25 : x16 = x1 + x3) (f26 : x15 = x1 + x2) (f27 : 0 ≤ x2) (f28 : 0 ≤ x10) (f29 : x12 ≤ x13) (f30 : x12 = x11 + x3) (f31 : x11 = x8 - x2) (f32 : x10 = x9 - x2) (f33 : x9 = x8 - x1) (hK_0_6 : ∀ j : Int, 0 ≤ j → j < 27 → 0 ≤ way_0 j ∧ way_0 j ≤ 23) (hK_14_999 : ∀ j : Int, 0 ≤ j → j < 24 → 0 ≤ a14_0 j ∧ a14_0 j ≤ 23) (kz_0_3 : 0 ≤ lineLength_0 ∧ lineLength_0 ≤ 24) (ey2 : gy = lineLength_0) (ey3 : 0 ≤ gy ∧ gy ≤ 24) (eu2 : gu = x5) (eu3 : (-2147483648) ≤ gu ∧ gu ≤ 2147483647) (ew2 : gw = x6) (ew3 : (-2147483648) ≤ gw ∧ gw ≤ 2147483647) : x1 + x3 ≤ 24 := by
  first
    | omega
    | (exfalso; have h := lni_room ‹OFL _ _ _ _› ‹EWJ _ _ _ _› (by omega); omega)
    | (have h := (‹LNO _ _ _ _›).1; omega)
  
set_option maxHeartbeats 4000000 in
theorem vc_Pn_replaceInLine_at_gi_4_3 (x1 : Int) (x2 : Int) (x3 : Int) (x5 : Int) (x6 : Int) (x7 : Int) (x8 : Int) (x9 : Int) (x10 : Int) (x11 : Int) (x12 : Int) (x13 : Int) (x15 : Int) (x16 : Int) (x18 : Int) (x19 : Int) (x20 : Int) (x21 : Int) (lineLength_0 : Int) (way_0 : Int → Int) (a14_0 : Int → Int) (gy : Int) (gu : Int) (gw : Int) (k1 : 0 ≤ x1 ∧ x1 ≤ 23) (k2 : 0 ≤ x2 ∧ x2 ≤ 0) (k3 : 0 ≤ x3 ∧ x3 ≤ 23) (k5 : (-2147483648) ≤ x5 ∧ x5 ≤ 2147483647) (k6 : (-2147483648) ≤ x6 ∧ x6 ≤ 2147483647) (k7 : 0 ≤ x7 ∧ x7 ≤ 24) (k8 : 0 ≤ x8 ∧ x8 ≤ 24) (k9 : 0 ≤ x9 ∧ x9 ≤ 24) (k10 : 0 ≤ x10 ∧ x10 ≤ 24) (k11 : 0 ≤ x11 ∧ x11 ≤ 24) (k12 : 0 ≤ x12 ∧ x12 ≤ 24) (k13 : 24 ≤ x13 ∧ x13 ≤ 24) (k15 : 0 ≤ x15 ∧ x15 ≤ 23) (k16 : 0 ≤ x16 ∧ x16 ≤ 46) (k18 : 0 ≤ x18 ∧ x18 ≤ 24) (k19 : (-2147483648) ≤ x19 ∧ x19 ≤ 2147483647) (k20 : (-2147483648) ≤ x20 ∧ x20 ≤ 2147483647) (k21 : 0 ≤ x21 ∧ x21 ≤ 0) (d0 : x3 + 0 ≤ x16 ∧ x16 ≤ x3 + 23) (d1 : x1 + 0 ≤ x16 ∧ x16 ≤ x1 + 23) (d2 : x1 + 0 ≤ x15 ∧ x15 ≤ x1 + 0) (d3 : x3 + 0 ≤ x12 ∧ x12 ≤ x3 + 24) (d4 : x11 + 0 ≤ x12 ∧ x12 ≤ x11 + 23) (d5 : x8 + 0 ≤ x12 ∧ x12 ≤ x8 + 23) (d6 : x8 + 0 ≤ x11 ∧ x11 ≤ x8 + 0) (d7 : x9 + 0 ≤ x10 ∧ x10 ≤ x9 + 0) (d8 : x8 + (-23) ≤ x10 ∧ x10 ≤ x8 + 0) (d9 : x8 + (-23) ≤ x9 ∧ x9 ≤ x8 + 0) (g0 : x8 = lineLength_0) (f2 : x15 + x10 ≤ 24) (f3 : x16 + x10 ≤ 24) (f5 : x18 = lineLength_0) (f6 : 1 * x19 + ((-1) * x5 + 0) ≤ 0) (f7 : (-1) * x19 + (1 * x5 + 0) ≤ 0) (f8 : 1 * x20 + ((-1) * x6 + 0) ≤ 0) (f9 : (-1) * x20 + (1 * x6 + 0) ≤ 0) (f10 : 1 * lineLength_0 + ((-1) * x2 + (1 * x3 + 0)) ≤ 24) (f11 : (-1) * lineLength_0 + (1 * x1 + (1 * x2 + 0)) ≤ 0) (f12 : EWJ (way_0) (x5) (x6) (x3)) (f13 : (0 ≤ x1) ∧ (x1 ≤ lineLength_0)) (f14 : x2 = 0) (f15 : 1 ≤ x3) (f16 : (x7 + 2) ≤ lineLength_0) (f17 : DRQ2 (a14_0) (a14_0) (way_0) (x15) (x16) (x10) (x18) (x19) (x20)) (f19 : x15 + x10 ≤ 24) (f20 : x16 + x10 ≤ 24) (f21 : 1 * x19 + ((-1) * x5 + 0) ≤ 0) (f22 : (-1) * x19 + (1 * x5 + 0) ≤ 0) (f23 : 1 * x20 + ((-1) * x6 + 0) ≤ 0) (f24 : (-1) * x20 + (1 * x6 + 0) ≤ 0) (f25 : x16 = x1 + x3) (f26 : x15 = x1 + x2) (f27 : 0 ≤ x2) (f28 : 0 ≤ x10) (f29 : x12 ≤ x13) (f30 : x12 = x11 + x3) (f31 : x11 = x8 - x2) (f32 : x10 = x9 - x2) (f33 : x9 = x8 - x1) (hK_0_6 : ∀ j : Int, 0 ≤ j → j < 27 → 0 ≤ way_0 j ∧ way_0 j ≤ 23) (hK_14_999 : ∀ j : Int, 0 ≤ j → j < 24 → 0 ≤ a14_0 j ∧ a14_0 j ≤ 23) (kz_0_3 : 0 ≤ lineLength_0 ∧ lineLength_0 ≤ 24) (ey2 : gy = lineLength_0) (ey3 : 0 ≤ gy ∧ gy ≤ 24) (eu2 : gu = x5) (eu3 : (-2147483648) ≤ gu ∧ gu ≤ 2147483647) (ew2 : gw = x6) (ew3 : (-2147483648) ≤ gw ∧ gw ≤ 2147483647) : gy = lineLength_0 := by
  first
    | omega
    | (exfalso; have h := lni_room ‹OFL _ _ _ _› ‹EWJ _ _ _ _› (by omega); omega)
    | (have h := (‹LNO _ _ _ _›).1; omega)
  
set_option maxHeartbeats 4000000 in
theorem vc_Pn_replaceInLine_at_gi_4_4 (x1 : Int) (x2 : Int) (x3 : Int) (x5 : Int) (x6 : Int) (x7 : Int) (x8 : Int) (x9 : Int) (x10 : Int) (x11 : Int) (x12 : Int) (x13 : Int) (x15 : Int) (x16 : Int) (x18 : Int) (x19 : Int) (x20 : Int) (x21 : Int) (lineLength_0 : Int) (way_0 : Int → Int) (a14_0 : Int → Int) (gy : Int) (gu : Int) (gw : Int) (k1 : 0 ≤ x1 ∧ x1 ≤ 23) (k2 : 0 ≤ x2 ∧ x2 ≤ 0) (k3 : 0 ≤ x3 ∧ x3 ≤ 23) (k5 : (-2147483648) ≤ x5 ∧ x5 ≤ 2147483647) (k6 : (-2147483648) ≤ x6 ∧ x6 ≤ 2147483647) (k7 : 0 ≤ x7 ∧ x7 ≤ 24) (k8 : 0 ≤ x8 ∧ x8 ≤ 24) (k9 : 0 ≤ x9 ∧ x9 ≤ 24) (k10 : 0 ≤ x10 ∧ x10 ≤ 24) (k11 : 0 ≤ x11 ∧ x11 ≤ 24) (k12 : 0 ≤ x12 ∧ x12 ≤ 24) (k13 : 24 ≤ x13 ∧ x13 ≤ 24) (k15 : 0 ≤ x15 ∧ x15 ≤ 23) (k16 : 0 ≤ x16 ∧ x16 ≤ 46) (k18 : 0 ≤ x18 ∧ x18 ≤ 24) (k19 : (-2147483648) ≤ x19 ∧ x19 ≤ 2147483647) (k20 : (-2147483648) ≤ x20 ∧ x20 ≤ 2147483647) (k21 : 0 ≤ x21 ∧ x21 ≤ 0) (d0 : x3 + 0 ≤ x16 ∧ x16 ≤ x3 + 23) (d1 : x1 + 0 ≤ x16 ∧ x16 ≤ x1 + 23) (d2 : x1 + 0 ≤ x15 ∧ x15 ≤ x1 + 0) (d3 : x3 + 0 ≤ x12 ∧ x12 ≤ x3 + 24) (d4 : x11 + 0 ≤ x12 ∧ x12 ≤ x11 + 23) (d5 : x8 + 0 ≤ x12 ∧ x12 ≤ x8 + 23) (d6 : x8 + 0 ≤ x11 ∧ x11 ≤ x8 + 0) (d7 : x9 + 0 ≤ x10 ∧ x10 ≤ x9 + 0) (d8 : x8 + (-23) ≤ x10 ∧ x10 ≤ x8 + 0) (d9 : x8 + (-23) ≤ x9 ∧ x9 ≤ x8 + 0) (g0 : x8 = lineLength_0) (f2 : x15 + x10 ≤ 24) (f3 : x16 + x10 ≤ 24) (f5 : x18 = lineLength_0) (f6 : 1 * x19 + ((-1) * x5 + 0) ≤ 0) (f7 : (-1) * x19 + (1 * x5 + 0) ≤ 0) (f8 : 1 * x20 + ((-1) * x6 + 0) ≤ 0) (f9 : (-1) * x20 + (1 * x6 + 0) ≤ 0) (f10 : 1 * lineLength_0 + ((-1) * x2 + (1 * x3 + 0)) ≤ 24) (f11 : (-1) * lineLength_0 + (1 * x1 + (1 * x2 + 0)) ≤ 0) (f12 : EWJ (way_0) (x5) (x6) (x3)) (f13 : (0 ≤ x1) ∧ (x1 ≤ lineLength_0)) (f14 : x2 = 0) (f15 : 1 ≤ x3) (f16 : (x7 + 2) ≤ lineLength_0) (f17 : DRQ2 (a14_0) (a14_0) (way_0) (x15) (x16) (x10) (x18) (x19) (x20)) (f19 : x15 + x10 ≤ 24) (f20 : x16 + x10 ≤ 24) (f21 : 1 * x19 + ((-1) * x5 + 0) ≤ 0) (f22 : (-1) * x19 + (1 * x5 + 0) ≤ 0) (f23 : 1 * x20 + ((-1) * x6 + 0) ≤ 0) (f24 : (-1) * x20 + (1 * x6 + 0) ≤ 0) (f25 : x16 = x1 + x3) (f26 : x15 = x1 + x2) (f27 : 0 ≤ x2) (f28 : 0 ≤ x10) (f29 : x12 ≤ x13) (f30 : x12 = x11 + x3) (f31 : x11 = x8 - x2) (f32 : x10 = x9 - x2) (f33 : x9 = x8 - x1) (hK_0_6 : ∀ j : Int, 0 ≤ j → j < 27 → 0 ≤ way_0 j ∧ way_0 j ≤ 23) (hK_14_999 : ∀ j : Int, 0 ≤ j → j < 24 → 0 ≤ a14_0 j ∧ a14_0 j ≤ 23) (kz_0_3 : 0 ≤ lineLength_0 ∧ lineLength_0 ≤ 24) (ey2 : gy = lineLength_0) (ey3 : 0 ≤ gy ∧ gy ≤ 24) (eu2 : gu = x5) (eu3 : (-2147483648) ≤ gu ∧ gu ≤ 2147483647) (ew2 : gw = x6) (ew3 : (-2147483648) ≤ gw ∧ gw ≤ 2147483647) : 1 * gu + ((-1) * x5 + 0) ≤ 0 := by
  first
    | omega
    | (exfalso; have h := lni_room ‹OFL _ _ _ _› ‹EWJ _ _ _ _› (by omega); omega)
    | (have h := (‹LNO _ _ _ _›).1; omega)
  
set_option maxHeartbeats 4000000 in
theorem vc_Pn_replaceInLine_at_gi_4_5 (x1 : Int) (x2 : Int) (x3 : Int) (x5 : Int) (x6 : Int) (x7 : Int) (x8 : Int) (x9 : Int) (x10 : Int) (x11 : Int) (x12 : Int) (x13 : Int) (x15 : Int) (x16 : Int) (x18 : Int) (x19 : Int) (x20 : Int) (x21 : Int) (lineLength_0 : Int) (way_0 : Int → Int) (a14_0 : Int → Int) (gy : Int) (gu : Int) (gw : Int) (k1 : 0 ≤ x1 ∧ x1 ≤ 23) (k2 : 0 ≤ x2 ∧ x2 ≤ 0) (k3 : 0 ≤ x3 ∧ x3 ≤ 23) (k5 : (-2147483648) ≤ x5 ∧ x5 ≤ 2147483647) (k6 : (-2147483648) ≤ x6 ∧ x6 ≤ 2147483647) (k7 : 0 ≤ x7 ∧ x7 ≤ 24) (k8 : 0 ≤ x8 ∧ x8 ≤ 24) (k9 : 0 ≤ x9 ∧ x9 ≤ 24) (k10 : 0 ≤ x10 ∧ x10 ≤ 24) (k11 : 0 ≤ x11 ∧ x11 ≤ 24) (k12 : 0 ≤ x12 ∧ x12 ≤ 24) (k13 : 24 ≤ x13 ∧ x13 ≤ 24) (k15 : 0 ≤ x15 ∧ x15 ≤ 23) (k16 : 0 ≤ x16 ∧ x16 ≤ 46) (k18 : 0 ≤ x18 ∧ x18 ≤ 24) (k19 : (-2147483648) ≤ x19 ∧ x19 ≤ 2147483647) (k20 : (-2147483648) ≤ x20 ∧ x20 ≤ 2147483647) (k21 : 0 ≤ x21 ∧ x21 ≤ 0) (d0 : x3 + 0 ≤ x16 ∧ x16 ≤ x3 + 23) (d1 : x1 + 0 ≤ x16 ∧ x16 ≤ x1 + 23) (d2 : x1 + 0 ≤ x15 ∧ x15 ≤ x1 + 0) (d3 : x3 + 0 ≤ x12 ∧ x12 ≤ x3 + 24) (d4 : x11 + 0 ≤ x12 ∧ x12 ≤ x11 + 23) (d5 : x8 + 0 ≤ x12 ∧ x12 ≤ x8 + 23) (d6 : x8 + 0 ≤ x11 ∧ x11 ≤ x8 + 0) (d7 : x9 + 0 ≤ x10 ∧ x10 ≤ x9 + 0) (d8 : x8 + (-23) ≤ x10 ∧ x10 ≤ x8 + 0) (d9 : x8 + (-23) ≤ x9 ∧ x9 ≤ x8 + 0) (g0 : x8 = lineLength_0) (f2 : x15 + x10 ≤ 24) (f3 : x16 + x10 ≤ 24) (f5 : x18 = lineLength_0) (f6 : 1 * x19 + ((-1) * x5 + 0) ≤ 0) (f7 : (-1) * x19 + (1 * x5 + 0) ≤ 0) (f8 : 1 * x20 + ((-1) * x6 + 0) ≤ 0) (f9 : (-1) * x20 + (1 * x6 + 0) ≤ 0) (f10 : 1 * lineLength_0 + ((-1) * x2 + (1 * x3 + 0)) ≤ 24) (f11 : (-1) * lineLength_0 + (1 * x1 + (1 * x2 + 0)) ≤ 0) (f12 : EWJ (way_0) (x5) (x6) (x3)) (f13 : (0 ≤ x1) ∧ (x1 ≤ lineLength_0)) (f14 : x2 = 0) (f15 : 1 ≤ x3) (f16 : (x7 + 2) ≤ lineLength_0) (f17 : DRQ2 (a14_0) (a14_0) (way_0) (x15) (x16) (x10) (x18) (x19) (x20)) (f19 : x15 + x10 ≤ 24) (f20 : x16 + x10 ≤ 24) (f21 : 1 * x19 + ((-1) * x5 + 0) ≤ 0) (f22 : (-1) * x19 + (1 * x5 + 0) ≤ 0) (f23 : 1 * x20 + ((-1) * x6 + 0) ≤ 0) (f24 : (-1) * x20 + (1 * x6 + 0) ≤ 0) (f25 : x16 = x1 + x3) (f26 : x15 = x1 + x2) (f27 : 0 ≤ x2) (f28 : 0 ≤ x10) (f29 : x12 ≤ x13) (f30 : x12 = x11 + x3) (f31 : x11 = x8 - x2) (f32 : x10 = x9 - x2) (f33 : x9 = x8 - x1) (hK_0_6 : ∀ j : Int, 0 ≤ j → j < 27 → 0 ≤ way_0 j ∧ way_0 j ≤ 23) (hK_14_999 : ∀ j : Int, 0 ≤ j → j < 24 → 0 ≤ a14_0 j ∧ a14_0 j ≤ 23) (kz_0_3 : 0 ≤ lineLength_0 ∧ lineLength_0 ≤ 24) (ey2 : gy = lineLength_0) (ey3 : 0 ≤ gy ∧ gy ≤ 24) (eu2 : gu = x5) (eu3 : (-2147483648) ≤ gu ∧ gu ≤ 2147483647) (ew2 : gw = x6) (ew3 : (-2147483648) ≤ gw ∧ gw ≤ 2147483647) : (-1) * gu + (1 * x5 + 0) ≤ 0 := by
  first
    | omega
    | (exfalso; have h := lni_room ‹OFL _ _ _ _› ‹EWJ _ _ _ _› (by omega); omega)
    | (have h := (‹LNO _ _ _ _›).1; omega)
  
set_option maxHeartbeats 4000000 in
theorem vc_Pn_replaceInLine_at_gi_4_6 (x1 : Int) (x2 : Int) (x3 : Int) (x5 : Int) (x6 : Int) (x7 : Int) (x8 : Int) (x9 : Int) (x10 : Int) (x11 : Int) (x12 : Int) (x13 : Int) (x15 : Int) (x16 : Int) (x18 : Int) (x19 : Int) (x20 : Int) (x21 : Int) (lineLength_0 : Int) (way_0 : Int → Int) (a14_0 : Int → Int) (gy : Int) (gu : Int) (gw : Int) (k1 : 0 ≤ x1 ∧ x1 ≤ 23) (k2 : 0 ≤ x2 ∧ x2 ≤ 0) (k3 : 0 ≤ x3 ∧ x3 ≤ 23) (k5 : (-2147483648) ≤ x5 ∧ x5 ≤ 2147483647) (k6 : (-2147483648) ≤ x6 ∧ x6 ≤ 2147483647) (k7 : 0 ≤ x7 ∧ x7 ≤ 24) (k8 : 0 ≤ x8 ∧ x8 ≤ 24) (k9 : 0 ≤ x9 ∧ x9 ≤ 24) (k10 : 0 ≤ x10 ∧ x10 ≤ 24) (k11 : 0 ≤ x11 ∧ x11 ≤ 24) (k12 : 0 ≤ x12 ∧ x12 ≤ 24) (k13 : 24 ≤ x13 ∧ x13 ≤ 24) (k15 : 0 ≤ x15 ∧ x15 ≤ 23) (k16 : 0 ≤ x16 ∧ x16 ≤ 46) (k18 : 0 ≤ x18 ∧ x18 ≤ 24) (k19 : (-2147483648) ≤ x19 ∧ x19 ≤ 2147483647) (k20 : (-2147483648) ≤ x20 ∧ x20 ≤ 2147483647) (k21 : 0 ≤ x21 ∧ x21 ≤ 0) (d0 : x3 + 0 ≤ x16 ∧ x16 ≤ x3 + 23) (d1 : x1 + 0 ≤ x16 ∧ x16 ≤ x1 + 23) (d2 : x1 + 0 ≤ x15 ∧ x15 ≤ x1 + 0) (d3 : x3 + 0 ≤ x12 ∧ x12 ≤ x3 + 24) (d4 : x11 + 0 ≤ x12 ∧ x12 ≤ x11 + 23) (d5 : x8 + 0 ≤ x12 ∧ x12 ≤ x8 + 23) (d6 : x8 + 0 ≤ x11 ∧ x11 ≤ x8 + 0) (d7 : x9 + 0 ≤ x10 ∧ x10 ≤ x9 + 0) (d8 : x8 + (-23) ≤ x10 ∧ x10 ≤ x8 + 0) (d9 : x8 + (-23) ≤ x9 ∧ x9 ≤ x8 + 0) (g0 : x8 = lineLength_0) (f2 : x15 + x10 ≤ 24) (f3 : x16 + x10 ≤ 24) (f5 : x18 = lineLength_0) (f6 : 1 * x19 + ((-1) * x5 + 0) ≤ 0) (f7 : (-1) * x19 + (1 * x5 + 0) ≤ 0) (f8 : 1 * x20 + ((-1) * x6 + 0) ≤ 0) (f9 : (-1) * x20 + (1 * x6 + 0) ≤ 0) (f10 : 1 * lineLength_0 + ((-1) * x2 + (1 * x3 + 0)) ≤ 24) (f11 : (-1) * lineLength_0 + (1 * x1 + (1 * x2 + 0)) ≤ 0) (f12 : EWJ (way_0) (x5) (x6) (x3)) (f13 : (0 ≤ x1) ∧ (x1 ≤ lineLength_0)) (f14 : x2 = 0) (f15 : 1 ≤ x3) (f16 : (x7 + 2) ≤ lineLength_0) (f17 : DRQ2 (a14_0) (a14_0) (way_0) (x15) (x16) (x10) (x18) (x19) (x20)) (f19 : x15 + x10 ≤ 24) (f20 : x16 + x10 ≤ 24) (f21 : 1 * x19 + ((-1) * x5 + 0) ≤ 0) (f22 : (-1) * x19 + (1 * x5 + 0) ≤ 0) (f23 : 1 * x20 + ((-1) * x6 + 0) ≤ 0) (f24 : (-1) * x20 + (1 * x6 + 0) ≤ 0) (f25 : x16 = x1 + x3) (f26 : x15 = x1 + x2) (f27 : 0 ≤ x2) (f28 : 0 ≤ x10) (f29 : x12 ≤ x13) (f30 : x12 = x11 + x3) (f31 : x11 = x8 - x2) (f32 : x10 = x9 - x2) (f33 : x9 = x8 - x1) (hK_0_6 : ∀ j : Int, 0 ≤ j → j < 27 → 0 ≤ way_0 j ∧ way_0 j ≤ 23) (hK_14_999 : ∀ j : Int, 0 ≤ j → j < 24 → 0 ≤ a14_0 j ∧ a14_0 j ≤ 23) (kz_0_3 : 0 ≤ lineLength_0 ∧ lineLength_0 ≤ 24) (ey2 : gy = lineLength_0) (ey3 : 0 ≤ gy ∧ gy ≤ 24) (eu2 : gu = x5) (eu3 : (-2147483648) ≤ gu ∧ gu ≤ 2147483647) (ew2 : gw = x6) (ew3 : (-2147483648) ≤ gw ∧ gw ≤ 2147483647) : 1 * gw + ((-1) * x6 + 0) ≤ 0 := by
  first
    | omega
    | (exfalso; have h := lni_room ‹OFL _ _ _ _› ‹EWJ _ _ _ _› (by omega); omega)
    | (have h := (‹LNO _ _ _ _›).1; omega)
  
set_option maxHeartbeats 4000000 in
theorem vc_Pn_replaceInLine_at_gi_4_7 (x1 : Int) (x2 : Int) (x3 : Int) (x5 : Int) (x6 : Int) (x7 : Int) (x8 : Int) (x9 : Int) (x10 : Int) (x11 : Int) (x12 : Int) (x13 : Int) (x15 : Int) (x16 : Int) (x18 : Int) (x19 : Int) (x20 : Int) (x21 : Int) (lineLength_0 : Int) (way_0 : Int → Int) (a14_0 : Int → Int) (gy : Int) (gu : Int) (gw : Int) (k1 : 0 ≤ x1 ∧ x1 ≤ 23) (k2 : 0 ≤ x2 ∧ x2 ≤ 0) (k3 : 0 ≤ x3 ∧ x3 ≤ 23) (k5 : (-2147483648) ≤ x5 ∧ x5 ≤ 2147483647) (k6 : (-2147483648) ≤ x6 ∧ x6 ≤ 2147483647) (k7 : 0 ≤ x7 ∧ x7 ≤ 24) (k8 : 0 ≤ x8 ∧ x8 ≤ 24) (k9 : 0 ≤ x9 ∧ x9 ≤ 24) (k10 : 0 ≤ x10 ∧ x10 ≤ 24) (k11 : 0 ≤ x11 ∧ x11 ≤ 24) (k12 : 0 ≤ x12 ∧ x12 ≤ 24) (k13 : 24 ≤ x13 ∧ x13 ≤ 24) (k15 : 0 ≤ x15 ∧ x15 ≤ 23) (k16 : 0 ≤ x16 ∧ x16 ≤ 46) (k18 : 0 ≤ x18 ∧ x18 ≤ 24) (k19 : (-2147483648) ≤ x19 ∧ x19 ≤ 2147483647) (k20 : (-2147483648) ≤ x20 ∧ x20 ≤ 2147483647) (k21 : 0 ≤ x21 ∧ x21 ≤ 0) (d0 : x3 + 0 ≤ x16 ∧ x16 ≤ x3 + 23) (d1 : x1 + 0 ≤ x16 ∧ x16 ≤ x1 + 23) (d2 : x1 + 0 ≤ x15 ∧ x15 ≤ x1 + 0) (d3 : x3 + 0 ≤ x12 ∧ x12 ≤ x3 + 24) (d4 : x11 + 0 ≤ x12 ∧ x12 ≤ x11 + 23) (d5 : x8 + 0 ≤ x12 ∧ x12 ≤ x8 + 23) (d6 : x8 + 0 ≤ x11 ∧ x11 ≤ x8 + 0) (d7 : x9 + 0 ≤ x10 ∧ x10 ≤ x9 + 0) (d8 : x8 + (-23) ≤ x10 ∧ x10 ≤ x8 + 0) (d9 : x8 + (-23) ≤ x9 ∧ x9 ≤ x8 + 0) (g0 : x8 = lineLength_0) (f2 : x15 + x10 ≤ 24) (f3 : x16 + x10 ≤ 24) (f5 : x18 = lineLength_0) (f6 : 1 * x19 + ((-1) * x5 + 0) ≤ 0) (f7 : (-1) * x19 + (1 * x5 + 0) ≤ 0) (f8 : 1 * x20 + ((-1) * x6 + 0) ≤ 0) (f9 : (-1) * x20 + (1 * x6 + 0) ≤ 0) (f10 : 1 * lineLength_0 + ((-1) * x2 + (1 * x3 + 0)) ≤ 24) (f11 : (-1) * lineLength_0 + (1 * x1 + (1 * x2 + 0)) ≤ 0) (f12 : EWJ (way_0) (x5) (x6) (x3)) (f13 : (0 ≤ x1) ∧ (x1 ≤ lineLength_0)) (f14 : x2 = 0) (f15 : 1 ≤ x3) (f16 : (x7 + 2) ≤ lineLength_0) (f17 : DRQ2 (a14_0) (a14_0) (way_0) (x15) (x16) (x10) (x18) (x19) (x20)) (f19 : x15 + x10 ≤ 24) (f20 : x16 + x10 ≤ 24) (f21 : 1 * x19 + ((-1) * x5 + 0) ≤ 0) (f22 : (-1) * x19 + (1 * x5 + 0) ≤ 0) (f23 : 1 * x20 + ((-1) * x6 + 0) ≤ 0) (f24 : (-1) * x20 + (1 * x6 + 0) ≤ 0) (f25 : x16 = x1 + x3) (f26 : x15 = x1 + x2) (f27 : 0 ≤ x2) (f28 : 0 ≤ x10) (f29 : x12 ≤ x13) (f30 : x12 = x11 + x3) (f31 : x11 = x8 - x2) (f32 : x10 = x9 - x2) (f33 : x9 = x8 - x1) (hK_0_6 : ∀ j : Int, 0 ≤ j → j < 27 → 0 ≤ way_0 j ∧ way_0 j ≤ 23) (hK_14_999 : ∀ j : Int, 0 ≤ j → j < 24 → 0 ≤ a14_0 j ∧ a14_0 j ≤ 23) (kz_0_3 : 0 ≤ lineLength_0 ∧ lineLength_0 ≤ 24) (ey2 : gy = lineLength_0) (ey3 : 0 ≤ gy ∧ gy ≤ 24) (eu2 : gu = x5) (eu3 : (-2147483648) ≤ gu ∧ gu ≤ 2147483647) (ew2 : gw = x6) (ew3 : (-2147483648) ≤ gw ∧ gw ≤ 2147483647) : (-1) * gw + (1 * x6 + 0) ≤ 0 := by
  first
    | omega
    | (exfalso; have h := lni_room ‹OFL _ _ _ _› ‹EWJ _ _ _ _› (by omega); omega)
    | (have h := (‹LNO _ _ _ _›).1; omega)
  
set_option maxHeartbeats 4000000 in
theorem vc_Pn_replaceInLine_at_gi_4_8 (x1 : Int) (x2 : Int) (x3 : Int) (x5 : Int) (x6 : Int) (x7 : Int) (x8 : Int) (x9 : Int) (x10 : Int) (x11 : Int) (x12 : Int) (x13 : Int) (x15 : Int) (x16 : Int) (x18 : Int) (x19 : Int) (x20 : Int) (x21 : Int) (lineLength_0 : Int) (way_0 : Int → Int) (a14_0 : Int → Int) (gy : Int) (gu : Int) (gw : Int) (k1 : 0 ≤ x1 ∧ x1 ≤ 23) (k2 : 0 ≤ x2 ∧ x2 ≤ 0) (k3 : 0 ≤ x3 ∧ x3 ≤ 23) (k5 : (-2147483648) ≤ x5 ∧ x5 ≤ 2147483647) (k6 : (-2147483648) ≤ x6 ∧ x6 ≤ 2147483647) (k7 : 0 ≤ x7 ∧ x7 ≤ 24) (k8 : 0 ≤ x8 ∧ x8 ≤ 24) (k9 : 0 ≤ x9 ∧ x9 ≤ 24) (k10 : 0 ≤ x10 ∧ x10 ≤ 24) (k11 : 0 ≤ x11 ∧ x11 ≤ 24) (k12 : 0 ≤ x12 ∧ x12 ≤ 24) (k13 : 24 ≤ x13 ∧ x13 ≤ 24) (k15 : 0 ≤ x15 ∧ x15 ≤ 23) (k16 : 0 ≤ x16 ∧ x16 ≤ 46) (k18 : 0 ≤ x18 ∧ x18 ≤ 24) (k19 : (-2147483648) ≤ x19 ∧ x19 ≤ 2147483647) (k20 : (-2147483648) ≤ x20 ∧ x20 ≤ 2147483647) (k21 : 0 ≤ x21 ∧ x21 ≤ 0) (d0 : x3 + 0 ≤ x16 ∧ x16 ≤ x3 + 23) (d1 : x1 + 0 ≤ x16 ∧ x16 ≤ x1 + 23) (d2 : x1 + 0 ≤ x15 ∧ x15 ≤ x1 + 0) (d3 : x3 + 0 ≤ x12 ∧ x12 ≤ x3 + 24) (d4 : x11 + 0 ≤ x12 ∧ x12 ≤ x11 + 23) (d5 : x8 + 0 ≤ x12 ∧ x12 ≤ x8 + 23) (d6 : x8 + 0 ≤ x11 ∧ x11 ≤ x8 + 0) (d7 : x9 + 0 ≤ x10 ∧ x10 ≤ x9 + 0) (d8 : x8 + (-23) ≤ x10 ∧ x10 ≤ x8 + 0) (d9 : x8 + (-23) ≤ x9 ∧ x9 ≤ x8 + 0) (g0 : x8 = lineLength_0) (f2 : x15 + x10 ≤ 24) (f3 : x16 + x10 ≤ 24) (f5 : x18 = lineLength_0) (f6 : 1 * x19 + ((-1) * x5 + 0) ≤ 0) (f7 : (-1) * x19 + (1 * x5 + 0) ≤ 0) (f8 : 1 * x20 + ((-1) * x6 + 0) ≤ 0) (f9 : (-1) * x20 + (1 * x6 + 0) ≤ 0) (f10 : 1 * lineLength_0 + ((-1) * x2 + (1 * x3 + 0)) ≤ 24) (f11 : (-1) * lineLength_0 + (1 * x1 + (1 * x2 + 0)) ≤ 0) (f12 : EWJ (way_0) (x5) (x6) (x3)) (f13 : (0 ≤ x1) ∧ (x1 ≤ lineLength_0)) (f14 : x2 = 0) (f15 : 1 ≤ x3) (f16 : (x7 + 2) ≤ lineLength_0) (f17 : DRQ2 (a14_0) (a14_0) (way_0) (x15) (x16) (x10) (x18) (x19) (x20)) (f19 : x15 + x10 ≤ 24) (f20 : x16 + x10 ≤ 24) (f21 : 1 * x19 + ((-1) * x5 + 0) ≤ 0) (f22 : (-1) * x19 + (1 * x5 + 0) ≤ 0) (f23 : 1 * x20 + ((-1) * x6 + 0) ≤ 0) (f24 : (-1) * x20 + (1 * x6 + 0) ≤ 0) (f25 : x16 = x1 + x3) (f26 : x15 = x1 + x2) (f27 : 0 ≤ x2) (f28 : 0 ≤ x10) (f29 : x12 ≤ x13) (f30 : x12 = x11 + x3) (f31 : x11 = x8 - x2) (f32 : x10 = x9 - x2) (f33 : x9 = x8 - x1) (hK_0_6 : ∀ j : Int, 0 ≤ j → j < 27 → 0 ≤ way_0 j ∧ way_0 j ≤ 23) (hK_14_999 : ∀ j : Int, 0 ≤ j → j < 24 → 0 ≤ a14_0 j ∧ a14_0 j ≤ 23) (kz_0_3 : 0 ≤ lineLength_0 ∧ lineLength_0 ≤ 24) (ey2 : gy = lineLength_0) (ey3 : 0 ≤ gy ∧ gy ≤ 24) (eu2 : gu = x5) (eu3 : (-2147483648) ≤ gu ∧ gu ≤ 2147483647) (ew2 : gw = x6) (ew3 : (-2147483648) ≤ gw ∧ gw ≤ 2147483647) : DRQ3 (a14_0) (way_0) (way_0) (x21) (x1) (x3) (gy) (gu) (gw) := by
  first
    | (have h := (‹DRQ2 _ _ _ _ _ _ _ _ _›)
       rw [show x19 = x5 by omega, show x20 = x6 by omega, show x18 = gy by omega] at h
       rw [show gu = x5 by omega, show gw = x6 by omega]
       exact dr3_of h (by omega) (by omega) (by omega))
  
def o_Pn_replaceInLine_at_gi_4 : or_T := (63, 22, [(0, (2, 0, 0, [7])), (1, (0, 0, 23, [])), (2, (0, 0, 0, [])), (3, (0, 0, 23, [])), (4, (2, 0, 0, [106])), (5, (0, -2147483648, 2147483647, [])), (6, (0, -2147483648, 2147483647, [])), (7, (0, 0, 24, [])), (8, (0, 0, 24, [])), (9, (0, 0, 24, [])), (10, (0, 0, 24, [])), (11, (0, 0, 24, [])), (12, (0, 0, 24, [])), (13, (0, 24, 24, [])), (14, (2, 0, 0, [103])), (15, (0, 0, 23, [])), (16, (0, 0, 46, [])), (18, (0, 0, 24, [])), (19, (0, -2147483648, 2147483647, [])), (20, (0, -2147483648, 2147483647, [])), (21, (0, 0, 0, []))], [(9, [8, 0], [3]), (9, [4, 0], [6]), (21, [15, 10], [24]), (21, [16, 10], [24]), (24, [4, 17], []), (20, [18, 0], [50, 1, 0, 1003, 1, 2, 1, 0, 2, 1, 3]), (23, [19, 5], [0, 1, -1]), (23, [19, 5], [0, -1, 1]), (23, [20, 6], [0, 1, -1]), (23, [20, 6], [0, -1, 1]), (20, [0, 2, 3], [30, 24, 1, 1, 3, -1, 0, 0, 1, 0, 0]), (20, [0, 1, 2], [30, 0, -1, 1, 3, 1, 0, 0, 1, 0, 0]), (20, [0, 5, 6, 3], [60, 0, 1, 909, 6]), (20, [1, 0], [50, 1, 0, 1003, 2, 6, 0, 2, 0, 0, 1, 0, 0, 2, 1, 0, 2, 1, 3]), (20, [2], [50, 0, 0, 1, 2, 1, 0, 0, 0]), (20, [3], [50, 0, 0, 0, 2, 0, 1, 1, 0]), (20, [7, 0], [50, 1, 0, 1003, 0, 6, 4, 2, 1, 0, 0, 2, 2, 1, 3]), (20, [14, 14, 17, 15, 16, 10, 18, 19, 20], [61, 3, 917]), (102, [20], [10141204801825835211973625643008]), (21, [15, 10], [24]), (21, [16, 10], [24]), (23, [19, 5], [0, 1, -1]), (23, [19, 5], [0, -1, 1]), (23, [20, 6], [0, 1, -1]), (23, [20, 6], [0, -1, 1]), (1, [16, 1, 3], []), (1, [15, 1, 2], []), (8, [2], [3]), (8, [10], [3]), (7, [12, 13], [5]), (1, [12, 11, 3], []), (2, [11, 8, 2], []), (2, [10, 9, 2], []), (2, [9, 8, 1], [])], [], [(2, 0, 0, [106]), (0, 0, 24, []), (0, -2147483648, 2147483647, []), (0, -2147483648, 2147483647, [])], [(21, [21, 3], [27]), (21, [1, 3], [24]), (24, [4, 22], []), (20, [23, 0], [50, 1, 0, 1003, 1, 2, 1, 0, 2, 1, 3]), (23, [24, 5], [0, 1, -1]), (23, [24, 5], [0, -1, 1]), (23, [25, 6], [0, 1, -1]), (23, [25, 6], [0, -1, 1]), (20, [14, 4, 22, 21, 1, 3, 23, 24, 25], [61, 3, 918])], [], [(16, 3, 0, 23), (16, 1, 0, 23), (15, 1, 0, 0), (12, 3, 0, 24), (12, 11, 0, 23), (12, 8, 0, 23), (11, 8, 0, 0), (10, 9, 0, 0), (10, 8, -23, 0), (9, 8, -23, 0)])
theorem oo_Pn_replaceInLine_at_gi_4 {kA : Nat → ClassId} : or_ok PRD kA GG o_Pn_replaceInLine_at_gi_4 := by
  refine or_mk fun A ta ws vs hD hth hl => ?_
  intro t0 r0 t1 k1 t2 k2 t3 k3 t4 r4 t5 k5 t6 k6 t7 k7 t8 k8 t9 k9 t10 k10 t11 k11 t12 k12 t13 k13 t14 r14 t15 k15 t16 k16 t18 k18 t19 k19 t20 k20 t21 k21 d0 d1 d2 d3 d4 d5 d6 d7 d8 d9 f0 f1 f2 f3 f4 f5 f6 f7 f8 f9 f10 f11 f12 f13 f14 f15 f16 f17 ta1 w1 le1 s1 f19 f20 f21 f22 f23 f24 f25 f26 f27 f28 f29 f30 f31 f32 f33
  replace f0 := shm_137 f0
  replace f1 := shm_111 f1
  replace f2 := shm_140 f2
  replace f3 := shm_140 f3
  replace f4 := shm_5 f4
  replace f5 := shm_903 f5
  replace f6 := shm_7 f6
  replace f7 := shm_22 f7
  replace f8 := shm_7 f8
  replace f9 := shm_22 f9
  replace f10 := shm_138 f10
  replace f11 := shm_139 f11
  replace f12 := shm_909 f12
  replace f13 := shm_910 f13
  replace f14 := shm_649 f14
  replace f15 := shm_710 f15
  replace f16 := shm_911 f16
  replace f17 := shm_915 f17
  replace f19 := shm_140 f19
  replace f20 := shm_140 f20
  replace f21 := shm_7 f21
  replace f22 := shm_22 f22
  replace f23 := shm_7 f23
  replace f24 := shm_22 f24
  replace f25 := shm_12 f25
  replace f26 := shm_12 f26
  replace f27 := shm_32 f27
  replace f28 := shm_32 f28
  replace f29 := shm_24 f29
  replace f30 := shm_12 f30
  replace f31 := shm_14 f31
  replace f32 := shm_14 f32
  replace f33 := shm_14 f33
  have q17 : n_v vs 17 = n_v vs 4 := f4.symm
  simp only [q17] at f17
  have cr_0_6 := fdq_228 hD hth r0
  have cr_14_999 : ta (v_ad (n_v vs 14)) = some 103 := r14
  have ad_4 : v_ad (n_v vs 4) = w_ar ws (n_v vs 0) 6 := congrArg v_ad f1
  have g0 : v_iv (n_v vs 8) = w_fi ws (n_v vs 0) 3 := congrArg v_iv f0
  simp only [ad_4] at f17
  have hK_0_6 := elq_141 hD hth cr_0_6
  have hK_14_999 := elq_140 hD hth cr_14_999
  have kz_0_3 := fdq_13 hD hth r0
  obtain ⟨y, ey, hy⟩ := iv_ex (ta := ta) (lo := 0) (hi := 24) (z := w_fi ws (n_v vs 0) 3) (by omega) (by omega) (by omega) (by omega)
  have ey2 : v_iv (Value.int y) = w_fi ws (n_v vs 0) 3 := ey
  have ey3 : 0 ≤ v_iv (Value.int y) ∧ v_iv (Value.int y) ≤ 24 := tv_rng hy
  obtain ⟨u, eu, hu⟩ := iv_ex (ta := ta) (lo := (-2147483648)) (hi := 2147483647) (z := v_iv (n_v vs 5)) (by omega) (by omega) (by omega) (by omega)
  have eu2 : v_iv (Value.int u) = v_iv (n_v vs 5) := eu
  have eu3 : (-2147483648) ≤ v_iv (Value.int u) ∧ v_iv (Value.int u) ≤ 2147483647 := tv_rng hu
  obtain ⟨w, ew, hw⟩ := iv_ex (ta := ta) (lo := (-2147483648)) (hi := 2147483647) (z := v_iv (n_v vs 6)) (by omega) (by omega) (by omega) (by omega)
  have ew2 : v_iv (Value.int w) = v_iv (n_v vs 6) := ew
  have ew3 : (-2147483648) ≤ v_iv (Value.int w) ∧ v_iv (Value.int w) ≤ 2147483647 := tv_rng hw
  have e_0 : n_v (vs ++ [n_v vs 4, Value.int y, Value.int u, Value.int w]) 0 = n_v vs 0 := n_v_old (by rw [hl]; decide)
  have e_1 : n_v (vs ++ [n_v vs 4, Value.int y, Value.int u, Value.int w]) 1 = n_v vs 1 := n_v_old (by rw [hl]; decide)
  have e_3 : n_v (vs ++ [n_v vs 4, Value.int y, Value.int u, Value.int w]) 3 = n_v vs 3 := n_v_old (by rw [hl]; decide)
  have e_4 : n_v (vs ++ [n_v vs 4, Value.int y, Value.int u, Value.int w]) 4 = n_v vs 4 := n_v_old (by rw [hl]; decide)
  have e_5 : n_v (vs ++ [n_v vs 4, Value.int y, Value.int u, Value.int w]) 5 = n_v vs 5 := n_v_old (by rw [hl]; decide)
  have e_6 : n_v (vs ++ [n_v vs 4, Value.int y, Value.int u, Value.int w]) 6 = n_v vs 6 := n_v_old (by rw [hl]; decide)
  have e_14 : n_v (vs ++ [n_v vs 4, Value.int y, Value.int u, Value.int w]) 14 = n_v vs 14 := n_v_old (by rw [hl]; decide)
  have e_21 : n_v (vs ++ [n_v vs 4, Value.int y, Value.int u, Value.int w]) 21 = n_v vs 21 := n_v_old (by rw [hl]; decide)
  have e_22 : n_v (vs ++ [n_v vs 4, Value.int y, Value.int u, Value.int w]) 22 = n_v vs 4 := n_v_newk (k := 0) hl rfl
  have e_23 : n_v (vs ++ [n_v vs 4, Value.int y, Value.int u, Value.int w]) 23 = Value.int y := n_v_newk (k := 1) hl rfl
  have e_24 : n_v (vs ++ [n_v vs 4, Value.int y, Value.int u, Value.int w]) 24 = Value.int u := n_v_newk (k := 2) hl rfl
  have e_25 : n_v (vs ++ [n_v vs 4, Value.int y, Value.int u, Value.int w]) 25 = Value.int w := n_v_newk (k := 3) hl rfl
  have nf0 : fc_1 PRD (21, [21, 3], [27]) ws (vs ++ [n_v vs 4, Value.int y, Value.int u, Value.int w]) := by
    refine ⟨nf_inA hl rfl, sgq_141 ?_⟩
    · show v_iv (n_v (vs ++ [n_v vs 4, Value.int y, Value.int u, Value.int w]) 21) + v_iv (n_v (vs ++ [n_v vs 4, Value.int y, Value.int u, Value.int w]) 3) ≤ 27
      simp only [e_3, e_21]
      exact vc_Pn_replaceInLine_at_gi_4_0 (v_iv (n_v vs 1)) (v_iv (n_v vs 2)) (v_iv (n_v vs 3)) (v_iv (n_v vs 5)) (v_iv (n_v vs 6)) (v_iv (n_v vs 7)) (v_iv (n_v vs 8)) (v_iv (n_v vs 9)) (v_iv (n_v vs 10)) (v_iv (n_v vs 11)) (v_iv (n_v vs 12)) (v_iv (n_v vs 13)) (v_iv (n_v vs 15)) (v_iv (n_v vs 16)) (v_iv (n_v vs 18)) (v_iv (n_v vs 19)) (v_iv (n_v vs 20)) (v_iv (n_v vs 21)) (w_fi ws (n_v vs 0) 3) (w_ei ws (w_ar ws (n_v vs 0) 6)) (w_ei ws (v_ad (n_v vs 14))) (v_iv (Value.int y)) (v_iv (Value.int u)) (v_iv (Value.int w)) k1 k2 k3 k5 k6 k7 k8 k9 k10 k11 k12 k13 k15 k16 k18 k19 k20 k21 d0 d1 d2 d3 d4 d5 d6 d7 d8 d9 g0 f2 f3 f5 f6 f7 f8 f9 f10 f11 f12 f13 f14 f15 f16 f17 f19 f20 f21 f22 f23 f24 f25 f26 f27 f28 f29 f30 f31 f32 f33 hK_0_6 hK_14_999 kz_0_3 ey2 ey3 eu2 eu3 ew2 ew3
  have nf1 : fc_1 PRD (21, [1, 3], [24]) ws (vs ++ [n_v vs 4, Value.int y, Value.int u, Value.int w]) := by
    refine ⟨nf_inA hl rfl, sgq_140 ?_⟩
    · show v_iv (n_v (vs ++ [n_v vs 4, Value.int y, Value.int u, Value.int w]) 1) + v_iv (n_v (vs ++ [n_v vs 4, Value.int y, Value.int u, Value.int w]) 3) ≤ 24
      simp only [e_1, e_3]
      exact vc_Pn_replaceInLine_at_gi_4_1 (v_iv (n_v vs 1)) (v_iv (n_v vs 2)) (v_iv (n_v vs 3)) (v_iv (n_v vs 5)) (v_iv (n_v vs 6)) (v_iv (n_v vs 7)) (v_iv (n_v vs 8)) (v_iv (n_v vs 9)) (v_iv (n_v vs 10)) (v_iv (n_v vs 11)) (v_iv (n_v vs 12)) (v_iv (n_v vs 13)) (v_iv (n_v vs 15)) (v_iv (n_v vs 16)) (v_iv (n_v vs 18)) (v_iv (n_v vs 19)) (v_iv (n_v vs 20)) (v_iv (n_v vs 21)) (w_fi ws (n_v vs 0) 3) (w_ei ws (w_ar ws (n_v vs 0) 6)) (w_ei ws (v_ad (n_v vs 14))) (v_iv (Value.int y)) (v_iv (Value.int u)) (v_iv (Value.int w)) k1 k2 k3 k5 k6 k7 k8 k9 k10 k11 k12 k13 k15 k16 k18 k19 k20 k21 d0 d1 d2 d3 d4 d5 d6 d7 d8 d9 g0 f2 f3 f5 f6 f7 f8 f9 f10 f11 f12 f13 f14 f15 f16 f17 f19 f20 f21 f22 f23 f24 f25 f26 f27 f28 f29 f30 f31 f32 f33 hK_0_6 hK_14_999 kz_0_3 ey2 ey3 eu2 eu3 ew2 ew3
  have nf2 : fc_1 PRD (24, [4, 22], []) ws (vs ++ [n_v vs 4, Value.int y, Value.int u, Value.int w]) := by
    refine ⟨nf_inA hl rfl, sgq_5 ?_⟩
    · show n_v (vs ++ [n_v vs 4, Value.int y, Value.int u, Value.int w]) 4 = n_v (vs ++ [n_v vs 4, Value.int y, Value.int u, Value.int w]) 22
      first | rfl | simp only [e_4, e_22, q17]
  have nf3 : fc_1 PRD (20, [23, 0], [50, 1, 0, 1003, 1, 2, 1, 0, 2, 1, 3]) ws (vs ++ [n_v vs 4, Value.int y, Value.int u, Value.int w]) := by
    refine ⟨nf_inA hl rfl, sgq_903 ?_⟩
    · show v_iv (n_v (vs ++ [n_v vs 4, Value.int y, Value.int u, Value.int w]) 23) = w_fi ws (n_v (vs ++ [n_v vs 4, Value.int y, Value.int u, Value.int w]) 0) 3
      simp only [e_0, e_23]
      exact vc_Pn_replaceInLine_at_gi_4_3 (v_iv (n_v vs 1)) (v_iv (n_v vs 2)) (v_iv (n_v vs 3)) (v_iv (n_v vs 5)) (v_iv (n_v vs 6)) (v_iv (n_v vs 7)) (v_iv (n_v vs 8)) (v_iv (n_v vs 9)) (v_iv (n_v vs 10)) (v_iv (n_v vs 11)) (v_iv (n_v vs 12)) (v_iv (n_v vs 13)) (v_iv (n_v vs 15)) (v_iv (n_v vs 16)) (v_iv (n_v vs 18)) (v_iv (n_v vs 19)) (v_iv (n_v vs 20)) (v_iv (n_v vs 21)) (w_fi ws (n_v vs 0) 3) (w_ei ws (w_ar ws (n_v vs 0) 6)) (w_ei ws (v_ad (n_v vs 14))) (v_iv (Value.int y)) (v_iv (Value.int u)) (v_iv (Value.int w)) k1 k2 k3 k5 k6 k7 k8 k9 k10 k11 k12 k13 k15 k16 k18 k19 k20 k21 d0 d1 d2 d3 d4 d5 d6 d7 d8 d9 g0 f2 f3 f5 f6 f7 f8 f9 f10 f11 f12 f13 f14 f15 f16 f17 f19 f20 f21 f22 f23 f24 f25 f26 f27 f28 f29 f30 f31 f32 f33 hK_0_6 hK_14_999 kz_0_3 ey2 ey3 eu2 eu3 ew2 ew3
  have nf4 : fc_1 PRD (23, [24, 5], [0, 1, -1]) ws (vs ++ [n_v vs 4, Value.int y, Value.int u, Value.int w]) := by
    refine ⟨nf_inA hl rfl, sgq_7 ?_⟩
    · show 1 * v_iv (n_v (vs ++ [n_v vs 4, Value.int y, Value.int u, Value.int w]) 24) + ((-1) * v_iv (n_v (vs ++ [n_v vs 4, Value.int y, Value.int u, Value.int w]) 5) + 0) ≤ 0
      simp only [e_5, e_24]
      exact vc_Pn_replaceInLine_at_gi_4_4 (v_iv (n_v vs 1)) (v_iv (n_v vs 2)) (v_iv (n_v vs 3)) (v_iv (n_v vs 5)) (v_iv (n_v vs 6)) (v_iv (n_v vs 7)) (v_iv (n_v vs 8)) (v_iv (n_v vs 9)) (v_iv (n_v vs 10)) (v_iv (n_v vs 11)) (v_iv (n_v vs 12)) (v_iv (n_v vs 13)) (v_iv (n_v vs 15)) (v_iv (n_v vs 16)) (v_iv (n_v vs 18)) (v_iv (n_v vs 19)) (v_iv (n_v vs 20)) (v_iv (n_v vs 21)) (w_fi ws (n_v vs 0) 3) (w_ei ws (w_ar ws (n_v vs 0) 6)) (w_ei ws (v_ad (n_v vs 14))) (v_iv (Value.int y)) (v_iv (Value.int u)) (v_iv (Value.int w)) k1 k2 k3 k5 k6 k7 k8 k9 k10 k11 k12 k13 k15 k16 k18 k19 k20 k21 d0 d1 d2 d3 d4 d5 d6 d7 d8 d9 g0 f2 f3 f5 f6 f7 f8 f9 f10 f11 f12 f13 f14 f15 f16 f17 f19 f20 f21 f22 f23 f24 f25 f26 f27 f28 f29 f30 f31 f32 f33 hK_0_6 hK_14_999 kz_0_3 ey2 ey3 eu2 eu3 ew2 ew3
  have nf5 : fc_1 PRD (23, [24, 5], [0, -1, 1]) ws (vs ++ [n_v vs 4, Value.int y, Value.int u, Value.int w]) := by
    refine ⟨nf_inA hl rfl, sgq_22 ?_⟩
    · show (-1) * v_iv (n_v (vs ++ [n_v vs 4, Value.int y, Value.int u, Value.int w]) 24) + (1 * v_iv (n_v (vs ++ [n_v vs 4, Value.int y, Value.int u, Value.int w]) 5) + 0) ≤ 0
      simp only [e_5, e_24]
      exact vc_Pn_replaceInLine_at_gi_4_5 (v_iv (n_v vs 1)) (v_iv (n_v vs 2)) (v_iv (n_v vs 3)) (v_iv (n_v vs 5)) (v_iv (n_v vs 6)) (v_iv (n_v vs 7)) (v_iv (n_v vs 8)) (v_iv (n_v vs 9)) (v_iv (n_v vs 10)) (v_iv (n_v vs 11)) (v_iv (n_v vs 12)) (v_iv (n_v vs 13)) (v_iv (n_v vs 15)) (v_iv (n_v vs 16)) (v_iv (n_v vs 18)) (v_iv (n_v vs 19)) (v_iv (n_v vs 20)) (v_iv (n_v vs 21)) (w_fi ws (n_v vs 0) 3) (w_ei ws (w_ar ws (n_v vs 0) 6)) (w_ei ws (v_ad (n_v vs 14))) (v_iv (Value.int y)) (v_iv (Value.int u)) (v_iv (Value.int w)) k1 k2 k3 k5 k6 k7 k8 k9 k10 k11 k12 k13 k15 k16 k18 k19 k20 k21 d0 d1 d2 d3 d4 d5 d6 d7 d8 d9 g0 f2 f3 f5 f6 f7 f8 f9 f10 f11 f12 f13 f14 f15 f16 f17 f19 f20 f21 f22 f23 f24 f25 f26 f27 f28 f29 f30 f31 f32 f33 hK_0_6 hK_14_999 kz_0_3 ey2 ey3 eu2 eu3 ew2 ew3
  have nf6 : fc_1 PRD (23, [25, 6], [0, 1, -1]) ws (vs ++ [n_v vs 4, Value.int y, Value.int u, Value.int w]) := by
    refine ⟨nf_inA hl rfl, sgq_7 ?_⟩
    · show 1 * v_iv (n_v (vs ++ [n_v vs 4, Value.int y, Value.int u, Value.int w]) 25) + ((-1) * v_iv (n_v (vs ++ [n_v vs 4, Value.int y, Value.int u, Value.int w]) 6) + 0) ≤ 0
      simp only [e_6, e_25]
      exact vc_Pn_replaceInLine_at_gi_4_6 (v_iv (n_v vs 1)) (v_iv (n_v vs 2)) (v_iv (n_v vs 3)) (v_iv (n_v vs 5)) (v_iv (n_v vs 6)) (v_iv (n_v vs 7)) (v_iv (n_v vs 8)) (v_iv (n_v vs 9)) (v_iv (n_v vs 10)) (v_iv (n_v vs 11)) (v_iv (n_v vs 12)) (v_iv (n_v vs 13)) (v_iv (n_v vs 15)) (v_iv (n_v vs 16)) (v_iv (n_v vs 18)) (v_iv (n_v vs 19)) (v_iv (n_v vs 20)) (v_iv (n_v vs 21)) (w_fi ws (n_v vs 0) 3) (w_ei ws (w_ar ws (n_v vs 0) 6)) (w_ei ws (v_ad (n_v vs 14))) (v_iv (Value.int y)) (v_iv (Value.int u)) (v_iv (Value.int w)) k1 k2 k3 k5 k6 k7 k8 k9 k10 k11 k12 k13 k15 k16 k18 k19 k20 k21 d0 d1 d2 d3 d4 d5 d6 d7 d8 d9 g0 f2 f3 f5 f6 f7 f8 f9 f10 f11 f12 f13 f14 f15 f16 f17 f19 f20 f21 f22 f23 f24 f25 f26 f27 f28 f29 f30 f31 f32 f33 hK_0_6 hK_14_999 kz_0_3 ey2 ey3 eu2 eu3 ew2 ew3
  have nf7 : fc_1 PRD (23, [25, 6], [0, -1, 1]) ws (vs ++ [n_v vs 4, Value.int y, Value.int u, Value.int w]) := by
    refine ⟨nf_inA hl rfl, sgq_22 ?_⟩
    · show (-1) * v_iv (n_v (vs ++ [n_v vs 4, Value.int y, Value.int u, Value.int w]) 25) + (1 * v_iv (n_v (vs ++ [n_v vs 4, Value.int y, Value.int u, Value.int w]) 6) + 0) ≤ 0
      simp only [e_6, e_25]
      exact vc_Pn_replaceInLine_at_gi_4_7 (v_iv (n_v vs 1)) (v_iv (n_v vs 2)) (v_iv (n_v vs 3)) (v_iv (n_v vs 5)) (v_iv (n_v vs 6)) (v_iv (n_v vs 7)) (v_iv (n_v vs 8)) (v_iv (n_v vs 9)) (v_iv (n_v vs 10)) (v_iv (n_v vs 11)) (v_iv (n_v vs 12)) (v_iv (n_v vs 13)) (v_iv (n_v vs 15)) (v_iv (n_v vs 16)) (v_iv (n_v vs 18)) (v_iv (n_v vs 19)) (v_iv (n_v vs 20)) (v_iv (n_v vs 21)) (w_fi ws (n_v vs 0) 3) (w_ei ws (w_ar ws (n_v vs 0) 6)) (w_ei ws (v_ad (n_v vs 14))) (v_iv (Value.int y)) (v_iv (Value.int u)) (v_iv (Value.int w)) k1 k2 k3 k5 k6 k7 k8 k9 k10 k11 k12 k13 k15 k16 k18 k19 k20 k21 d0 d1 d2 d3 d4 d5 d6 d7 d8 d9 g0 f2 f3 f5 f6 f7 f8 f9 f10 f11 f12 f13 f14 f15 f16 f17 f19 f20 f21 f22 f23 f24 f25 f26 f27 f28 f29 f30 f31 f32 f33 hK_0_6 hK_14_999 kz_0_3 ey2 ey3 eu2 eu3 ew2 ew3
  have nf8 : fc_1 PRD (20, [14, 4, 22, 21, 1, 3, 23, 24, 25], [61, 3, 918]) ws (vs ++ [n_v vs 4, Value.int y, Value.int u, Value.int w]) := by
    refine ⟨nf_inA hl rfl, sgq_916 ?_⟩
    · show DRQ3 (w_ei ws (v_ad (n_v (vs ++ [n_v vs 4, Value.int y, Value.int u, Value.int w]) 14))) (w_ei ws (v_ad (n_v (vs ++ [n_v vs 4, Value.int y, Value.int u, Value.int w]) 4))) (w_ei ws (v_ad (n_v (vs ++ [n_v vs 4, Value.int y, Value.int u, Value.int w]) 22))) (v_iv (n_v (vs ++ [n_v vs 4, Value.int y, Value.int u, Value.int w]) 21)) (v_iv (n_v (vs ++ [n_v vs 4, Value.int y, Value.int u, Value.int w]) 1)) (v_iv (n_v (vs ++ [n_v vs 4, Value.int y, Value.int u, Value.int w]) 3)) (v_iv (n_v (vs ++ [n_v vs 4, Value.int y, Value.int u, Value.int w]) 23)) (v_iv (n_v (vs ++ [n_v vs 4, Value.int y, Value.int u, Value.int w]) 24)) (v_iv (n_v (vs ++ [n_v vs 4, Value.int y, Value.int u, Value.int w]) 25))
      simp only [e_1, e_3, e_4, e_14, e_21, e_22, e_23, e_24, e_25, ad_4]
      exact vc_Pn_replaceInLine_at_gi_4_8 (v_iv (n_v vs 1)) (v_iv (n_v vs 2)) (v_iv (n_v vs 3)) (v_iv (n_v vs 5)) (v_iv (n_v vs 6)) (v_iv (n_v vs 7)) (v_iv (n_v vs 8)) (v_iv (n_v vs 9)) (v_iv (n_v vs 10)) (v_iv (n_v vs 11)) (v_iv (n_v vs 12)) (v_iv (n_v vs 13)) (v_iv (n_v vs 15)) (v_iv (n_v vs 16)) (v_iv (n_v vs 18)) (v_iv (n_v vs 19)) (v_iv (n_v vs 20)) (v_iv (n_v vs 21)) (w_fi ws (n_v vs 0) 3) (w_ei ws (w_ar ws (n_v vs 0) 6)) (w_ei ws (v_ad (n_v vs 14))) (v_iv (Value.int y)) (v_iv (Value.int u)) (v_iv (Value.int w)) k1 k2 k3 k5 k6 k7 k8 k9 k10 k11 k12 k13 k15 k16 k18 k19 k20 k21 d0 d1 d2 d3 d4 d5 d6 d7 d8 d9 g0 f2 f3 f5 f6 f7 f8 f9 f10 f11 f12 f13 f14 f15 f16 f17 f19 f20 f21 f22 f23 f24 f25 f26 f27 f28 f29 f30 f31 f32 f33 hK_0_6 hK_14_999 kz_0_3 ey2 ey3 eu2 eu3 ew2 ew3
  exact ⟨(fun _ h => (by cases h)), [n_v vs 4, Value.int y, Value.int u, Value.int w], ag_four t4 hy hu hw, List.forall_mem_cons.mpr ⟨⟨show (21 : Nat) < 100 from by decide, nf0⟩, List.forall_mem_cons.mpr ⟨⟨show (21 : Nat) < 100 from by decide, nf1⟩, List.forall_mem_cons.mpr ⟨⟨show (24 : Nat) < 100 from by decide, nf2⟩, List.forall_mem_cons.mpr ⟨⟨show (20 : Nat) < 100 from by decide, nf3⟩, List.forall_mem_cons.mpr ⟨⟨show (23 : Nat) < 100 from by decide, nf4⟩, List.forall_mem_cons.mpr ⟨⟨show (23 : Nat) < 100 from by decide, nf5⟩, List.forall_mem_cons.mpr ⟨⟨show (23 : Nat) < 100 from by decide, nf6⟩, List.forall_mem_cons.mpr ⟨⟨show (23 : Nat) < 100 from by decide, nf7⟩, List.forall_mem_cons.mpr ⟨⟨show (20 : Nat) < 100 from by decide, nf8⟩, (fun _ h => (by cases h))⟩⟩⟩⟩⟩⟩⟩⟩⟩, (fun _ h => (by cases h))⟩
set_option maxHeartbeats 4000000 in
theorem vc_Pn_replaceInLine_at_gi_5_r0 (x1 : Int) (x2 : Int) (x3 : Int) (x5 : Int) (x6 : Int) (x7 : Int) (x8 : Int) (x9 : Int) (x10 : Int) (x11 : Int) (x12 : Int) (x13 : Int) (x15 : Int) (x16 : Int) (x18 : Int) (x19 : Int) (x20 : Int) (x21 : Int) (x23 : Int) (x24 : Int) (x25 : Int) (x26 : Int) (x27 : Int) (lineLength_0 : Int) (way_0 : Int → Int) (a14_0 : Int → Int) (k1 : 0 ≤ x1 ∧ x1 ≤ 23) (k2 : 0 ≤ x2 ∧ x2 ≤ 0) (k3 : 0 ≤ x3 ∧ x3 ≤ 23) (k5 : (-2147483648) ≤ x5 ∧ x5 ≤ 2147483647) (k6 : (-2147483648) ≤ x6 ∧ x6 ≤ 2147483647) (k7 : 0 ≤ x7 ∧ x7 ≤ 24) (k8 : 0 ≤ x8 ∧ x8 ≤ 24) (k9 : 0 ≤ x9 ∧ x9 ≤ 24) (k10 : 0 ≤ x10 ∧ x10 ≤ 24) (k11 : 0 ≤ x11 ∧ x11 ≤ 24) (k12 : 0 ≤ x12 ∧ x12 ≤ 24) (k13 : 24 ≤ x13 ∧ x13 ≤ 24) (k15 : 0 ≤ x15 ∧ x15 ≤ 23) (k16 : 0 ≤ x16 ∧ x16 ≤ 46) (k18 : 0 ≤ x18 ∧ x18 ≤ 24) (k19 : (-2147483648) ≤ x19 ∧ x19 ≤ 2147483647) (k20 : (-2147483648) ≤ x20 ∧ x20 ≤ 2147483647) (k21 : 0 ≤ x21 ∧ x21 ≤ 0) (k23 : 0 ≤ x23 ∧ x23 ≤ 24) (k24 : (-2147483648) ≤ x24 ∧ x24 ≤ 2147483647) (k25 : (-2147483648) ≤ x25 ∧ x25 ≤ 2147483647) (k26 : 0 ≤ x26 ∧ x26 ≤ 23) (k27 : 0 ≤ x27 ∧ x27 ≤ 47) (d0 : x26 + 0 ≤ x27 ∧ x27 ≤ x26 + 24) (d1 : x3 + 0 ≤ x27 ∧ x27 ≤ x3 + 24) (d2 : x8 + 0 ≤ x27 ∧ x27 ≤ x8 + 23) (d3 : x3 + 0 ≤ x26 ∧ x26 ≤ x3 + 0) (d4 : x3 + 0 ≤ x16 ∧ x16 ≤ x3 + 23) (d5 : x1 + 0 ≤ x16 ∧ x16 ≤ x1 + 23) (d6 : x1 + 0 ≤ x15 ∧ x15 ≤ x1 + 0) (d7 : x3 + 0 ≤ x12 ∧ x12 ≤ x3 + 24) (d8 : x11 + 0 ≤ x12 ∧ x12 ≤ x11 + 23) (d9 : x8 + 0 ≤ x12 ∧ x12 ≤ x8 + 23) (d10 : x8 + 0 ≤ x11 ∧ x11 ≤ x8 + 0) (d11 : x9 + 0 ≤ x10 ∧ x10 ≤ x9 + 0) (d12 : x8 + (-23) ≤ x10 ∧ x10 ≤ x8 + 0) (d13 : x8 + (-23) ≤ x9 ∧ x9 ≤ x8 + 0) (f1 : x27 = x8 + x26) (f2 : x26 = x3 - x2) (g3 : x8 = lineLength_0) (f4 : x21 + x3 ≤ 27) (f5 : x1 + x3 ≤ 24) (f7 : x23 = lineLength_0) (f8 : 1 * x24 + ((-1) * x5 + 0) ≤ 0) (f9 : (-1) * x24 + (1 * x5 + 0) ≤ 0) (f10 : 1 * x25 + ((-1) * x6 + 0) ≤ 0) (f11 : (-1) * x25 + (1 * x6 + 0) ≤ 0) (f12 : x15 + x10 ≤ 24) (f13 : x16 + x10 ≤ 24) (f15 : x18 = lineLength_0) (f16 : 1 * x19 + ((-1) * x5 + 0) ≤ 0) (f17 : (-1) * x19 + (1 * x5 + 0) ≤ 0) (f18 : 1 * x20 + ((-1) * x6 + 0) ≤ 0) (f19 : (-1) * x20 + (1 * x6 + 0) ≤ 0) (f20 : 1 * lineLength_0 + ((-1) * x2 + (1 * x3 + 0)) ≤ 24) (f21 : (-1) * lineLength_0 + (1 * x1 + (1 * x2 + 0)) ≤ 0) (f22 : EWJ (way_0) (x5) (x6) (x3)) (f23 : (0 ≤ x1) ∧ (x1 ≤ lineLength_0)) (f24 : x2 = 0) (f25 : 1 ≤ x3) (f26 : (x7 + 2) ≤ lineLength_0) (f27 : DRQ4 (a14_0) (way_0) (way_0) (x21) (x1) (x3) (x23) (x24) (x25)) (f29 : x21 + x3 ≤ 27) (f30 : x1 + x3 ≤ 24) (f31 : 1 * x24 + ((-1) * x5 + 0) ≤ 0) (f32 : (-1) * x24 + (1 * x5 + 0) ≤ 0) (f33 : 1 * x25 + ((-1) * x6 + 0) ≤ 0) (f34 : (-1) * x25 + (1 * x6 + 0) ≤ 0) (f35 : x15 + x10 ≤ 24) (f36 : x16 + x10 ≤ 24) (f37 : 1 * x19 + ((-1) * x5 + 0) ≤ 0) (f38 : (-1) * x19 + (1 * x5 + 0) ≤ 0) (f39 : 1 * x20 + ((-1) * x6 + 0) ≤ 0) (f40 : (-1) * x20 + (1 * x6 + 0) ≤ 0) (f42 : x15 + x10 ≤ 24) (f43 : x16 + x10 ≤ 24) (f44 : 1 * x19 + ((-1) * x5 + 0) ≤ 0) (f45 : (-1) * x19 + (1 * x5 + 0) ≤ 0) (f46 : 1 * x20 + ((-1) * x6 + 0) ≤ 0) (f47 : (-1) * x20 + (1 * x6 + 0) ≤ 0) (f48 : x16 = x1 + x3) (f49 : x15 = x1 + x2) (f50 : 0 ≤ x2) (f51 : 0 ≤ x10) (f52 : x12 ≤ x13) (f53 : x12 = x11 + x3) (f54 : x11 = x8 - x2) (f55 : x10 = x9 - x2) (f56 : x9 = x8 - x1) (hK_0_6 : ∀ j : Int, 0 ≤ j → j < 27 → 0 ≤ way_0 j ∧ way_0 j ≤ 23) (hK_14_999 : ∀ j : Int, 0 ≤ j → j < 24 → 0 ≤ a14_0 j ∧ a14_0 j ≤ 23) (kz_0_3 : 0 ≤ lineLength_0 ∧ lineLength_0 ≤ 24) : 0 ≤ x27 ∧ x27 ≤ 24 := by
  first
    | omega
    | (exfalso; have h := lni_room ‹OFL _ _ _ _› ‹EWJ _ _ _ _› (by omega); omega)
    | (have h := (‹LNO _ _ _ _›).1; omega)
  
def o_Pn_replaceInLine_at_gi_5 : or_T := (75, 28, [(0, (2, 0, 0, [7])), (1, (0, 0, 23, [])), (2, (0, 0, 0, [])), (3, (0, 0, 23, [])), (4, (2, 0, 0, [106])), (5, (0, -2147483648, 2147483647, [])), (6, (0, -2147483648, 2147483647, [])), (7, (0, 0, 24, [])), (8, (0, 0, 24, [])), (9, (0, 0, 24, [])), (10, (0, 0, 24, [])), (11, (0, 0, 24, [])), (12, (0, 0, 24, [])), (13, (0, 24, 24, [])), (14, (2, 0, 0, [103])), (15, (0, 0, 23, [])), (16, (0, 0, 46, [])), (17, (2, 0, 0, [106])), (18, (0, 0, 24, [])), (19, (0, -2147483648, 2147483647, [])), (20, (0, -2147483648, 2147483647, [])), (21, (0, 0, 0, [])), (22, (2, 0, 0, [106])), (23, (0, 0, 24, [])), (24, (0, -2147483648, 2147483647, [])), (25, (0, -2147483648, 2147483647, [])), (26, (0, 0, 23, [])), (27, (0, 0, 47, []))], [(9, [4, 0], [6]), (1, [27, 8, 26], []), (2, [26, 3, 2], []), (9, [8, 0], [3]), (21, [21, 3], [27]), (21, [1, 3], [24]), (24, [4, 22], []), (20, [23, 0], [50, 1, 0, 1003, 1, 2, 1, 0, 2, 1, 3]), (23, [24, 5], [0, 1, -1]), (23, [24, 5], [0, -1, 1]), (23, [25, 6], [0, 1, -1]), (23, [25, 6], [0, -1, 1]), (21, [15, 10], [24]), (21, [16, 10], [24]), (24, [4, 17], []), (20, [18, 0], [50, 1, 0, 1003, 1, 2, 1, 0, 2, 1, 3]), (23, [19, 5], [0, 1, -1]), (23, [19, 5], [0, -1, 1]), (23, [20, 6], [0, 1, -1]), (23, [20, 6], [0, -1, 1]), (20, [0, 2, 3], [30, 24, 1, 1, 3, -1, 0, 0, 1, 0, 0]), (20, [0, 1, 2], [30, 0, -1, 1, 3, 1, 0, 0, 1, 0, 0]), (20, [0, 5, 6, 3], [60, 0, 1, 909, 6]), (20, [1, 0], [50, 1, 0, 1003, 2, 6, 0, 2, 0, 0, 1, 0, 0, 2, 1, 0, 2, 1, 3]), (20, [2], [50, 0, 0, 1, 2, 1, 0, 0, 0]), (20, [3], [50, 0, 0, 0, 2, 0, 1, 1, 0]), (20, [7, 0], [50, 1, 0, 1003, 0, 6, 4, 2, 1, 0, 0, 2, 2, 1, 3]), (20, [14, 4, 22, 21, 1, 3, 23, 24, 25], [61, 3, 919]), (102, [25], [10141204801825835211973625643008]), (21, [21, 3], [27]), (21, [1, 3], [24]), (23, [24, 5], [0, 1, -1]), (23, [24, 5], [0, -1, 1]), (23, [25, 6], [0, 1, -1]), (23, [25, 6], [0, -1, 1]), (21, [15, 10], [24]), (21, [16, 10], [24]), (23, [19, 5], [0, 1, -1]), (23, [19, 5], [0, -1, 1]), (23, [20, 6], [0, 1, -1]), (23, [20, 6], [0, -1, 1]), (102, [20], [10141204801825835211973625643008]), (21, [15, 10], [24]), (21, [16, 10], [24]), (23, [19, 5], [0, 1, -1]), (23, [19, 5], [0, -1, 1]), (23, [20, 6], [0, 1, -1]), (23, [20, 6], [0, -1, 1]), (1, [16, 1, 3], []), (1, [15, 1, 2], []), (8, [2], [3]), (8, [10], [3]), (7, [12, 13], [5]), (1, [12, 11, 3], []), (2, [11, 8, 2], []), (2, [10, 9, 2], []), (2, [9, 8, 1], [])], [(27, (0, 0, 24, []))], [], [], [], [(27, 26, 0, 24), (27, 3, 0, 24), (27, 8, 0, 23), (26, 3, 0, 0), (16, 3, 0, 23), (16, 1, 0, 23), (15, 1, 0, 0), (12, 3, 0, 24), (12, 11, 0, 23), (12, 8, 0, 23), (11, 8, 0, 0), (10, 9, 0, 0), (10, 8, -23, 0), (9, 8, -23, 0)])
theorem oo_Pn_replaceInLine_at_gi_5 {kA : Nat → ClassId} : or_ok PRD kA GG o_Pn_replaceInLine_at_gi_5 := by
  refine or_mk fun A ta ws vs hD hth hl => ?_
  intro t0 r0 t1 k1 t2 k2 t3 k3 t4 r4 t5 k5 t6 k6 t7 k7 t8 k8 t9 k9 t10 k10 t11 k11 t12 k12 t13 k13 t14 r14 t15 k15 t16 k16 t17 r17 t18 k18 t19 k19 t20 k20 t21 k21 t22 r22 t23 k23 t24 k24 t25 k25 t26 k26 t27 k27 d0 d1 d2 d3 d4 d5 d6 d7 d8 d9 d10 d11 d12 d13 f0 f1 f2 f3 f4 f5 f6 f7 f8 f9 f10 f11 f12 f13 f14 f15 f16 f17 f18 f19 f20 f21 f22 f23 f24 f25 f26 f27 ta1 w1 le1 s1 f29 f30 f31 f32 f33 f34 f35 f36 f37 f38 f39 f40 ta2 w2 le2 s2 f42 f43 f44 f45 f46 f47 f48 f49 f50 f51 f52 f53 f54 f55 f56
  replace f0 := shm_111 f0
  replace f3 := shm_137 f3
  replace f6 := shm_5 f6
  replace f27 := shm_917 f27
  have q22 : n_v vs 22 = n_v vs 4 := f6.symm
  simp only [q22] at f27
  have cr_0_6 := fdq_228 hD hth r0
  have cr_14_999 : ta (v_ad (n_v vs 14)) = some 103 := r14
  have ad_4 : v_ad (n_v vs 4) = w_ar ws (n_v vs 0) 6 := congrArg v_ad f0
  have g3 : v_iv (n_v vs 8) = w_fi ws (n_v vs 0) 3 := congrArg v_iv f3
  simp only [ad_4] at f27
  have hK_0_6 := elq_141 hD hth cr_0_6
  have hK_14_999 := elq_140 hD hth cr_14_999
  have kz_0_3 := fdq_13 hD hth r0
  have hrf0 : 0 ≤ v_iv (n_v vs 27) ∧ v_iv (n_v vs 27) ≤ 24 := vc_Pn_replaceInLine_at_gi_5_r0 (v_iv (n_v vs 1)) (v_iv (n_v vs 2)) (v_iv (n_v vs 3)) (v_iv (n_v vs 5)) (v_iv (n_v vs 6)) (v_iv (n_v vs 7)) (v_iv (n_v vs 8)) (v_iv (n_v vs 9)) (v_iv (n_v vs 10)) (v_iv (n_v vs 11)) (v_iv (n_v vs 12)) (v_iv (n_v vs 13)) (v_iv (n_v vs 15)) (v_iv (n_v vs 16)) (v_iv (n_v vs 18)) (v_iv (n_v vs 19)) (v_iv (n_v vs 20)) (v_iv (n_v vs 21)) (v_iv (n_v vs 23)) (v_iv (n_v vs 24)) (v_iv (n_v vs 25)) (v_iv (n_v vs 26)) (v_iv (n_v vs 27)) (w_fi ws (n_v vs 0) 3) (w_ei ws (w_ar ws (n_v vs 0) 6)) (w_ei ws (v_ad (n_v vs 14))) k1 k2 k3 k5 k6 k7 k8 k9 k10 k11 k12 k13 k15 k16 k18 k19 k20 k21 k23 k24 k25 k26 k27 d0 d1 d2 d3 d4 d5 d6 d7 d8 d9 d10 d11 d12 d13 (shm_12 f1) (shm_14 f2) g3 (shm_141 f4) (shm_140 f5) (shm_903 f7) (shm_7 f8) (shm_22 f9) (shm_7 f10) (shm_22 f11) (shm_140 f12) (shm_140 f13) (shm_903 f15) (shm_7 f16) (shm_22 f17) (shm_7 f18) (shm_22 f19) (shm_138 f20) (shm_139 f21) (shm_909 f22) (shm_910 f23) (shm_649 f24) (shm_710 f25) (shm_911 f26) f27 (shm_141 f29) (shm_140 f30) (shm_7 f31) (shm_22 f32) (shm_7 f33) (shm_22 f34) (shm_140 f35) (shm_140 f36) (shm_7 f37) (shm_22 f38) (shm_7 f39) (shm_22 f40) (shm_140 f42) (shm_140 f43) (shm_7 f44) (shm_22 f45) (shm_7 f46) (shm_22 f47) (shm_12 f48) (shm_12 f49) (shm_32 f50) (shm_32 f51) (shm_24 f52) (shm_12 f53) (shm_14 f54) (shm_14 f55) (shm_14 f56) hK_0_6 hK_14_999 kz_0_3
  have rf27 : tv_ok ta (0, 0, 24, []) (n_v vs 27) := tv_in t27 (by first | omega | grind) (by first | omega | grind)
  refine ⟨List.forall_mem_cons.mpr ⟨rf27, (fun _ h => (by cases h))⟩, [], trivial, ?_, (fun _ h => (by cases h))⟩
  rw [List.append_nil]
  exact (fun _ h => (by cases h))
set_option maxHeartbeats 4000000 in
theorem vc_Pn_replaceInLine_at_gi_6_0 (x1 : Int) (x2 : Int) (x3 : Int) (x5 : Int) (x6 : Int) (x7 : Int) (x8 : Int) (x9 : Int) (x10 : Int) (x11 : Int) (x12 : Int) (x13 : Int) (x15 : Int) (x16 : Int) (x18 : Int) (x19 : Int) (x20 : Int) (x21 : Int) (x23 : Int) (x24 : Int) (x25 : Int) (x26 : Int) (x27 : Int) (lineLength_0 : Int) (way_0 : Int → Int) (line_0 : Int → Int) (lineLength_1 : Int) (way_1 : Int → Int) (line_1 : Int → Int) (k1 : 0 ≤ x1 ∧ x1 ≤ 23) (k2 : 0 ≤ x2 ∧ x2 ≤ 0) (k3 : 0 ≤ x3 ∧ x3 ≤ 23) (k5 : (-2147483648) ≤ x5 ∧ x5 ≤ 2147483647) (k6 : (-2147483648) ≤ x6 ∧ x6 ≤ 2147483647) (k7 : 0 ≤ x7 ∧ x7 ≤ 24) (k8 : 0 ≤ x8 ∧ x8 ≤ 24) (k9 : 0 ≤ x9 ∧ x9 ≤ 24) (k10 : 0 ≤ x10 ∧ x10 ≤ 24) (k11 : 0 ≤ x11 ∧ x11 ≤ 24) (k12 : 0 ≤ x12 ∧ x12 ≤ 24) (k13 : 24 ≤ x13 ∧ x13 ≤ 24) (k15 : 0 ≤ x15 ∧ x15 ≤ 23) (k16 : 0 ≤ x16 ∧ x16 ≤ 46) (k18 : 0 ≤ x18 ∧ x18 ≤ 24) (k19 : (-2147483648) ≤ x19 ∧ x19 ≤ 2147483647) (k20 : (-2147483648) ≤ x20 ∧ x20 ≤ 2147483647) (k21 : 0 ≤ x21 ∧ x21 ≤ 0) (k23 : 0 ≤ x23 ∧ x23 ≤ 24) (k24 : (-2147483648) ≤ x24 ∧ x24 ≤ 2147483647) (k25 : (-2147483648) ≤ x25 ∧ x25 ≤ 2147483647) (k26 : 0 ≤ x26 ∧ x26 ≤ 23) (k27 : 0 ≤ x27 ∧ x27 ≤ 24) (d0 : x26 + 0 ≤ x27 ∧ x27 ≤ x26 + 24) (d1 : x3 + 0 ≤ x27 ∧ x27 ≤ x3 + 24) (d2 : x8 + 0 ≤ x27 ∧ x27 ≤ x8 + 23) (d3 : x3 + 0 ≤ x26 ∧ x26 ≤ x3 + 0) (d4 : x3 + 0 ≤ x16 ∧ x16 ≤ x3 + 23) (d5 : x1 + 0 ≤ x16 ∧ x16 ≤ x1 + 23) (d6 : x1 + 0 ≤ x15 ∧ x15 ≤ x1 + 0) (d7 : x3 + 0 ≤ x12 ∧ x12 ≤ x3 + 24) (d8 : x11 + 0 ≤ x12 ∧ x12 ≤ x11 + 23) (d9 : x8 + 0 ≤ x12 ∧ x12 ≤ x8 + 23) (d10 : x8 + 0 ≤ x11 ∧ x11 ≤ x8 + 0) (d11 : x9 + 0 ≤ x10 ∧ x10 ≤ x9 + 0) (d12 : x8 + (-23) ≤ x10 ∧ x10 ≤ x8 + 0) (d13 : x8 + (-23) ≤ x9 ∧ x9 ≤ x8 + 0) (g0 : x27 = lineLength_0) (f3 : x21 + x3 ≤ 27) (f4 : x1 + x3 ≤ 24) (f6 : 1 * x24 + ((-1) * x5 + 0) ≤ 0) (f7 : (-1) * x24 + (1 * x5 + 0) ≤ 0) (f8 : 1 * x25 + ((-1) * x6 + 0) ≤ 0) (f9 : (-1) * x25 + (1 * x6 + 0) ≤ 0) (f10 : x15 + x10 ≤ 24) (f11 : x16 + x10 ≤ 24) (f13 : 1 * x19 + ((-1) * x5 + 0) ≤ 0) (f14 : (-1) * x19 + (1 * x5 + 0) ≤ 0) (f15 : 1 * x20 + ((-1) * x6 + 0) ≤ 0) (f16 : (-1) * x20 + (1 * x6 + 0) ≤ 0) (f17 : EWJ (way_0) (x5) (x6) (x3)) (f18 : x2 = 0) (f19 : 1 ≤ x3) (f20 : DRQ4 (line_0) (way_0) (way_0) (x21) (x1) (x3) (x23) (x24) (x25)) (f22 : x27 = x8 + x26) (f23 : x26 = x3 - x2) (g24 : x8 = lineLength_1) (f25 : x21 + x3 ≤ 27) (f26 : x1 + x3 ≤ 24) (f27 : x23 = lineLength_1) (f28 : 1 * x24 + ((-1) * x5 + 0) ≤ 0) (f29 : (-1) * x24 + (1 * x5 + 0) ≤ 0) (f30 : 1 * x25 + ((-1) * x6 + 0) ≤ 0) (f31 : (-1) * x25 + (1 * x6 + 0) ≤ 0) (f32 : x15 + x10 ≤ 24) (f33 : x16 + x10 ≤ 24) (f34 : x18 = lineLength_1) (f35 : 1 * x19 + ((-1) * x5 + 0) ≤ 0) (f36 : (-1) * x19 + (1 * x5 + 0) ≤ 0) (f37 : 1 * x20 + ((-1) * x6 + 0) ≤ 0) (f38 : (-1) * x20 + (1 * x6 + 0) ≤ 0) (f39 : 1 * lineLength_1 + ((-1) * x2 + (1 * x3 + 0)) ≤ 24) (f40 : (-1) * lineLength_1 + (1 * x1 + (1 * x2 + 0)) ≤ 0) (f41 : EWJ (way_1) (x5) (x6) (x3)) (f42 : (0 ≤ x1) ∧ (x1 ≤ lineLength_1)) (f43 : x2 = 0) (f44 : 1 ≤ x3) (f45 : (x7 + 2) ≤ lineLength_1) (f46 : DRQ4 (line_1) (way_1) (way_1) (x21) (x1) (x3) (x23) (x24) (x25)) (f48 : x21 + x3 ≤ 27) (f49 : x1 + x3 ≤ 24) (f50 : 1 * x24 + ((-1) * x5 + 0) ≤ 0) (f51 : (-1) * x24 + (1 * x5 + 0) ≤ 0) (f52 : 1 * x25 + ((-1) * x6 + 0) ≤ 0) (f53 : (-1) * x25 + (1 * x6 + 0) ≤ 0) (f54 : x15 + x10 ≤ 24) (f55 : x16 + x10 ≤ 24) (f56 : 1 * x19 + ((-1) * x5 + 0) ≤ 0) (f57 : (-1) * x19 + (1 * x5 + 0) ≤ 0) (f58 : 1 * x20 + ((-1) * x6 + 0) ≤ 0) (f59 : (-1) * x20 + (1 * x6 + 0) ≤ 0) (f61 : x15 + x10 ≤ 24) (f62 : x16 + x10 ≤ 24) (f63 : 1 * x19 + ((-1) * x5 + 0) ≤ 0) (f64 : (-1) * x19 + (1 * x5 + 0) ≤ 0) (f65 : 1 * x20 + ((-1) * x6 + 0) ≤ 0) (f66 : (-1) * x20 + (1 * x6 + 0) ≤ 0) (f67 : x16 = x1 + x3) (f68 : x15 = x1 + x2) (f69 : 0 ≤ x2) (f70 : 0 ≤ x10) (f71 : x12 ≤ x13) (f72 : x12 = x11 + x3) (f73 : x11 = x8 - x2) (f74 : x10 = x9 - x2) (f75 : x9 = x8 - x1) (fe_0_3_1 : lineLength_0 = x27) (hE_0_2_1 : ∀ j : Int, line_0 j = line_1 j) (hK_0_2 : ∀ j : Int, 0 ≤ j → j < 24 → 0 ≤ line_0 j ∧ line_0 j ≤ 23) (hE_0_6_1 : ∀ j : Int, way_0 j = way_1 j) (hK_0_6 : ∀ j : Int, 0 ≤ j → j < 27 → 0 ≤ way_0 j ∧ way_0 j ≤ 23) (kz_0_3 : 0 ≤ lineLength_0 ∧ lineLength_0 ≤ 24) : OFP (lineLength_0) (line_0) (x5) (x6) := by
  have e_hE_0_2_1 := funext hE_0_2_1; subst e_hE_0_2_1
  have e_hE_0_6_1 := funext hE_0_6_1; subst e_hE_0_6_1
  first
    | (exfalso; have h := lni_room ‹OFL _ _ _ _› ‹EWJ _ _ _ _› (by omega); omega)
    | (have h := (show DRQ4 line_0 way_0 way_0 x21 x1 x3 x23 x24 x25 by assumption)
       rw [show x24 = x5 by omega, show x25 = x6 by omega] at h
       exact ofp_4 h (by omega))
  
set_option maxHeartbeats 4000000 in
theorem vc_Pn_replaceInLine_at_gi_6_1 (x1 : Int) (x2 : Int) (x3 : Int) (x5 : Int) (x6 : Int) (x7 : Int) (x8 : Int) (x9 : Int) (x10 : Int) (x11 : Int) (x12 : Int) (x13 : Int) (x15 : Int) (x16 : Int) (x18 : Int) (x19 : Int) (x20 : Int) (x21 : Int) (x23 : Int) (x24 : Int) (x25 : Int) (x26 : Int) (x27 : Int) (lineLength_0 : Int) (way_0 : Int → Int) (line_0 : Int → Int) (lineLength_1 : Int) (way_1 : Int → Int) (line_1 : Int → Int) (k1 : 0 ≤ x1 ∧ x1 ≤ 23) (k2 : 0 ≤ x2 ∧ x2 ≤ 0) (k3 : 0 ≤ x3 ∧ x3 ≤ 23) (k5 : (-2147483648) ≤ x5 ∧ x5 ≤ 2147483647) (k6 : (-2147483648) ≤ x6 ∧ x6 ≤ 2147483647) (k7 : 0 ≤ x7 ∧ x7 ≤ 24) (k8 : 0 ≤ x8 ∧ x8 ≤ 24) (k9 : 0 ≤ x9 ∧ x9 ≤ 24) (k10 : 0 ≤ x10 ∧ x10 ≤ 24) (k11 : 0 ≤ x11 ∧ x11 ≤ 24) (k12 : 0 ≤ x12 ∧ x12 ≤ 24) (k13 : 24 ≤ x13 ∧ x13 ≤ 24) (k15 : 0 ≤ x15 ∧ x15 ≤ 23) (k16 : 0 ≤ x16 ∧ x16 ≤ 46) (k18 : 0 ≤ x18 ∧ x18 ≤ 24) (k19 : (-2147483648) ≤ x19 ∧ x19 ≤ 2147483647) (k20 : (-2147483648) ≤ x20 ∧ x20 ≤ 2147483647) (k21 : 0 ≤ x21 ∧ x21 ≤ 0) (k23 : 0 ≤ x23 ∧ x23 ≤ 24) (k24 : (-2147483648) ≤ x24 ∧ x24 ≤ 2147483647) (k25 : (-2147483648) ≤ x25 ∧ x25 ≤ 2147483647) (k26 : 0 ≤ x26 ∧ x26 ≤ 23) (k27 : 0 ≤ x27 ∧ x27 ≤ 24) (d0 : x26 + 0 ≤ x27 ∧ x27 ≤ x26 + 24) (d1 : x3 + 0 ≤ x27 ∧ x27 ≤ x3 + 24) (d2 : x8 + 0 ≤ x27 ∧ x27 ≤ x8 + 23) (d3 : x3 + 0 ≤ x26 ∧ x26 ≤ x3 + 0) (d4 : x3 + 0 ≤ x16 ∧ x16 ≤ x3 + 23) (d5 : x1 + 0 ≤ x16 ∧ x16 ≤ x1 + 23) (d6 : x1 + 0 ≤ x15 ∧ x15 ≤ x1 + 0) (d7 : x3 + 0 ≤ x12 ∧ x12 ≤ x3 + 24) (d8 : x11 + 0 ≤ x12 ∧ x12 ≤ x11 + 23) (d9 : x8 + 0 ≤ x12 ∧ x12 ≤ x8 + 23) (d10 : x8 + 0 ≤ x11 ∧ x11 ≤ x8 + 0) (d11 : x9 + 0 ≤ x10 ∧ x10 ≤ x9 + 0) (d12 : x8 + (-23) ≤ x10 ∧ x10 ≤ x8 + 0) (d13 : x8 + (-23) ≤ x9 ∧ x9 ≤ x8 + 0) (g0 : x27 = lineLength_0) (f3 : x21 + x3 ≤ 27) (f4 : x1 + x3 ≤ 24) (f6 : 1 * x24 + ((-1) * x5 + 0) ≤ 0) (f7 : (-1) * x24 + (1 * x5 + 0) ≤ 0) (f8 : 1 * x25 + ((-1) * x6 + 0) ≤ 0) (f9 : (-1) * x25 + (1 * x6 + 0) ≤ 0) (f10 : x15 + x10 ≤ 24) (f11 : x16 + x10 ≤ 24) (f13 : 1 * x19 + ((-1) * x5 + 0) ≤ 0) (f14 : (-1) * x19 + (1 * x5 + 0) ≤ 0) (f15 : 1 * x20 + ((-1) * x6 + 0) ≤ 0) (f16 : (-1) * x20 + (1 * x6 + 0) ≤ 0) (f17 : EWJ (way_0) (x5) (x6) (x3)) (f18 : x2 = 0) (f19 : 1 ≤ x3) (f20 : DRQ4 (line_0) (way_0) (way_0) (x21) (x1) (x3) (x23) (x24) (x25)) (f22 : x27 = x8 + x26) (f23 : x26 = x3 - x2) (g24 : x8 = lineLength_1) (f25 : x21 + x3 ≤ 27) (f26 : x1 + x3 ≤ 24) (f27 : x23 = lineLength_1) (f28 : 1 * x24 + ((-1) * x5 + 0) ≤ 0) (f29 : (-1) * x24 + (1 * x5 + 0) ≤ 0) (f30 : 1 * x25 + ((-1) * x6 + 0) ≤ 0) (f31 : (-1) * x25 + (1 * x6 + 0) ≤ 0) (f32 : x15 + x10 ≤ 24) (f33 : x16 + x10 ≤ 24) (f34 : x18 = lineLength_1) (f35 : 1 * x19 + ((-1) * x5 + 0) ≤ 0) (f36 : (-1) * x19 + (1 * x5 + 0) ≤ 0) (f37 : 1 * x20 + ((-1) * x6 + 0) ≤ 0) (f38 : (-1) * x20 + (1 * x6 + 0) ≤ 0) (f39 : 1 * lineLength_1 + ((-1) * x2 + (1 * x3 + 0)) ≤ 24) (f40 : (-1) * lineLength_1 + (1 * x1 + (1 * x2 + 0)) ≤ 0) (f41 : EWJ (way_1) (x5) (x6) (x3)) (f42 : (0 ≤ x1) ∧ (x1 ≤ lineLength_1)) (f43 : x2 = 0) (f44 : 1 ≤ x3) (f45 : (x7 + 2) ≤ lineLength_1) (f46 : DRQ4 (line_1) (way_1) (way_1) (x21) (x1) (x3) (x23) (x24) (x25)) (f48 : x21 + x3 ≤ 27) (f49 : x1 + x3 ≤ 24) (f50 : 1 * x24 + ((-1) * x5 + 0) ≤ 0) (f51 : (-1) * x24 + (1 * x5 + 0) ≤ 0) (f52 : 1 * x25 + ((-1) * x6 + 0) ≤ 0) (f53 : (-1) * x25 + (1 * x6 + 0) ≤ 0) (f54 : x15 + x10 ≤ 24) (f55 : x16 + x10 ≤ 24) (f56 : 1 * x19 + ((-1) * x5 + 0) ≤ 0) (f57 : (-1) * x19 + (1 * x5 + 0) ≤ 0) (f58 : 1 * x20 + ((-1) * x6 + 0) ≤ 0) (f59 : (-1) * x20 + (1 * x6 + 0) ≤ 0) (f61 : x15 + x10 ≤ 24) (f62 : x16 + x10 ≤ 24) (f63 : 1 * x19 + ((-1) * x5 + 0) ≤ 0) (f64 : (-1) * x19 + (1 * x5 + 0) ≤ 0) (f65 : 1 * x20 + ((-1) * x6 + 0) ≤ 0) (f66 : (-1) * x20 + (1 * x6 + 0) ≤ 0) (f67 : x16 = x1 + x3) (f68 : x15 = x1 + x2) (f69 : 0 ≤ x2) (f70 : 0 ≤ x10) (f71 : x12 ≤ x13) (f72 : x12 = x11 + x3) (f73 : x11 = x8 - x2) (f74 : x10 = x9 - x2) (f75 : x9 = x8 - x1) (fe_0_3_1 : lineLength_0 = x27) (hE_0_2_1 : ∀ j : Int, line_0 j = line_1 j) (hK_0_2 : ∀ j : Int, 0 ≤ j → j < 24 → 0 ≤ line_0 j ∧ line_0 j ≤ 23) (hE_0_6_1 : ∀ j : Int, way_0 j = way_1 j) (hK_0_6 : ∀ j : Int, 0 ≤ j → j < 27 → 0 ≤ way_0 j ∧ way_0 j ≤ 23) (kz_0_3 : 0 ≤ lineLength_0 ∧ lineLength_0 ≤ 24) : (x7 + 3) ≤ lineLength_0 := by
  have e_hE_0_2_1 := funext hE_0_2_1; subst e_hE_0_2_1
  have e_hE_0_6_1 := funext hE_0_6_1; subst e_hE_0_6_1
  first
    | omega
    | (exfalso; have h := lni_room ‹OFL _ _ _ _› ‹EWJ _ _ _ _› (by omega); omega)
    | (have h := (‹LNO _ _ _ _›).1; omega)
  
def o_Pn_replaceInLine_at_gi_6 : or_T := (78, 28, [(0, (2, 0, 0, [7])), (1, (0, 0, 23, [])), (2, (0, 0, 0, [])), (3, (0, 0, 23, [])), (5, (0, -2147483648, 2147483647, [])), (6, (0, -2147483648, 2147483647, [])), (7, (0, 0, 24, [])), (8, (0, 0, 24, [])), (9, (0, 0, 24, [])), (10, (0, 0, 24, [])), (11, (0, 0, 24, [])), (12, (0, 0, 24, [])), (13, (0, 24, 24, [])), (15, (0, 0, 23, [])), (16, (0, 0, 46, [])), (18, (0, 0, 24, [])), (19, (0, -2147483648, 2147483647, [])), (20, (0, -2147483648, 2147483647, [])), (21, (0, 0, 0, [])), (23, (0, 0, 24, [])), (24, (0, -2147483648, 2147483647, [])), (25, (0, -2147483648, 2147483647, [])), (26, (0, 0, 23, [])), (27, (0, 0, 24, []))], [(9, [27, 0], [3]), (9, [14, 0], [2]), (9, [4, 0], [6]), (21, [21, 3], [27]), (21, [1, 3], [24]), (24, [4, 22], []), (23, [24, 5], [0, 1, -1]), (23, [24, 5], [0, -1, 1]), (23, [25, 6], [0, 1, -1]), (23, [25, 6], [0, -1, 1]), (21, [15, 10], [24]), (21, [16, 10], [24]), (23, [19, 5], [0, 1, -1]), (23, [19, 5], [0, -1, 1]), (23, [20, 6], [0, 1, -1]), (23, [20, 6], [0, -1, 1]), (20, [0, 5, 6, 3], [60, 0, 1, 909, 6]), (20, [2], [50, 0, 0, 1, 2, 1, 0, 0, 0]), (20, [3], [50, 0, 0, 0, 2, 0, 1, 1, 0]), (20, [14, 4, 22, 21, 1, 3, 23, 24, 25], [61, 3, 919]), (101, [0, 27], [3]), (1, [27, 8, 26], []), (2, [26, 3, 2], []), (9, [8, 0], [3]), (21, [21, 3], [27]), (21, [1, 3], [24]), (20, [23, 0], [50, 1, 0, 1003, 1, 2, 1, 0, 2, 1, 3]), (23, [24, 5], [0, 1, -1]), (23, [24, 5], [0, -1, 1]), (23, [25, 6], [0, 1, -1]), (23, [25, 6], [0, -1, 1]), (21, [15, 10], [24]), (21, [16, 10], [24]), (20, [18, 0], [50, 1, 0, 1003, 1, 2, 1, 0, 2, 1, 3]), (23, [19, 5], [0, 1, -1]), (23, [19, 5], [0, -1, 1]), (23, [20, 6], [0, 1, -1]), (23, [20, 6], [0, -1, 1]), (20, [0, 2, 3], [30, 24, 1, 1, 3, -1, 0, 0, 1, 0, 0]), (20, [0, 1, 2], [30, 0, -1, 1, 3, 1, 0, 0, 1, 0, 0]), (20, [0, 5, 6, 3], [60, 0, 1, 909, 6]), (20, [1, 0], [50, 1, 0, 1003, 2, 6, 0, 2, 0, 0, 1, 0, 0, 2, 1, 0, 2, 1, 3]), (20, [2], [50, 0, 0, 1, 2, 1, 0, 0, 0]), (20, [3], [50, 0, 0, 0, 2, 0, 1, 1, 0]), (20, [7, 0], [50, 1, 0, 1003, 0, 6, 4, 2, 1, 0, 0, 2, 2, 1, 3]), (20, [14, 4, 22, 21, 1, 3, 23, 24, 25], [61, 3, 919]), (102, [25], [10141204801825835211973625643008]), (21, [21, 3], [27]), (21, [1, 3], [24]), (23, [24, 5], [0, 1, -1]), (23, [24, 5], [0, -1, 1]), (23, [25, 6], [0, 1, -1]), (23, [25, 6], [0, -1, 1]), (21, [15, 10], [24]), (21, [16, 10], [24]), (23, [19, 5], [0, 1, -1]), (23, [19, 5], [0, -1, 1]), (23, [20, 6], [0, 1, -1]), (23, [20, 6], [0, -1, 1]), (102, [20], [10141204801825835211973625643008]), (21, [15, 10], [24]), (21, [16, 10], [24]), (23, [19, 5], [0, 1, -1]), (23, [19, 5], [0, -1, 1]), (23, [20, 6], [0, 1, -1]), (23, [20, 6], [0, -1, 1]), (1, [16, 1, 3], []), (1, [15, 1, 2], []), (8, [2], [3]), (8, [10], [3]), (7, [12, 13], [5]), (1, [12, 11, 3], []), (2, [11, 8, 2], []), (2, [10, 9, 2], []), (2, [9, 8, 1], [])], [], [], [(20, [0, 5, 6], [60, 1, 1, 901, 3, 2]), (20, [7, 0], [50, 1, 0, 1003, 0, 6, 4, 2, 1, 0, 0, 3, 2, 1, 3])], [], [(27, 26, 0, 24), (27, 3, 0, 24), (27, 8, 0, 23), (26, 3, 0, 0), (16, 3, 0, 23), (16, 1, 0, 23), (15, 1, 0, 0), (12, 3, 0, 24), (12, 11, 0, 23), (12, 8, 0, 23), (11, 8, 0, 0), (10, 9, 0, 0), (10, 8, -23, 0), (9, 8, -23, 0)])
theorem oo_Pn_replaceInLine_at_gi_6 {kA : Nat → ClassId} : or_ok PRD kA GG o_Pn_replaceInLine_at_gi_6 := by
  refine or_mk fun A ta ws vs hD hth hl => ?_
  intro t0 r0 t1 k1 t2 k2 t3 k3 t5 k5 t6 k6 t7 k7 t8 k8 t9 k9 t10 k10 t11 k11 t12 k12 t13 k13 t15 k15 t16 k16 t18 k18 t19 k19 t20 k20 t21 k21 t23 k23 t24 k24 t25 k25 t26 k26 t27 k27 d0 d1 d2 d3 d4 d5 d6 d7 d8 d9 d10 d11 d12 d13 f0 f1 f2 f3 f4 f5 f6 f7 f8 f9 f10 f11 f13 f14 f15 f16 f17 f18 f19 f20 ta1 w1 le1 s1 f22 f23 f24 f25 f26 f27 f28 f29 f30 f31 f32 f33 f34 f35 f36 f37 f38 f39 f40 f41 f42 f43 f44 f45 f46 ta2 w2 le2 s2 f48 f49 f50 f51 f52 f53 f54 f55 f56 f57 f58 f59 ta3 w3 le3 s3 f61 f62 f63 f64 f65 f66 f67 f68 f69 f70 f71 f72 f73 f74 f75
  replace f0 := shm_137 f0
  replace f1 := shm_120 f1
  replace f2 := shm_111 f2
  replace f5 := shm_5 f5
  replace f20 := shm_917 f20
  have s1 : (∀ b j, w_el ws b j = w_el w1 b j) ∧ ∀ b j, w_fd ws b j = if b = v_ad (n_v vs 0) ∧ j = 3 then n_v vs 27 else w_fd w1 b j := s1.2
  replace f24 := shm_137 f24
  replace f41 := shm_909 f41
  replace f46 := shm_917 f46
  have q22 : n_v vs 22 = n_v vs 4 := f5.symm
  simp only [q22] at f20 f46
  have cr_0_2 := fdq_227 hD hth r0
  have ar_0_6_1 : w_ar w1 (n_v vs 0) 6 = w_ar ws (n_v vs 0) 6 := by show v_ad (w_fd w1 _ _) = v_ad (w_fd ws _ _); rw [s1.2, if_neg (fun e => absurd e.2 (by decide))]
  have cr_0_6 := fdq_228 hD hth r0
  have ad_14 : v_ad (n_v vs 14) = w_ar ws (n_v vs 0) 2 := congrArg v_ad f1
  have ad_4 : v_ad (n_v vs 4) = w_ar ws (n_v vs 0) 6 := congrArg v_ad f2
  have g0 : v_iv (n_v vs 27) = w_fi ws (n_v vs 0) 3 := congrArg v_iv f0
  simp only [ad_4, ad_14] at f20
  have g24 : v_iv (n_v vs 8) = w_fi w1 (n_v vs 0) 3 := congrArg v_iv f24
  simp only [ar_0_6_1, ad_4, ad_14] at f41 f46
  have fe_0_3_1 : w_fi ws (n_v vs 0) 3 = v_iv (n_v vs 27) := by show v_iv (w_fd _ _ _) = _; rw [s1.2, if_pos ⟨rfl, rfl⟩]
  have hE_0_2_1 : ∀ j : Int, w_ei ws (w_ar ws (n_v vs 0) 2) j = w_ei w1 (w_ar ws (n_v vs 0) 2) j := fun j => s1.1 _ _
  have hK_0_2 := elq_140 hD hth cr_0_2
  have hE_0_6_1 : ∀ j : Int, w_ei ws (w_ar ws (n_v vs 0) 6) j = w_ei w1 (w_ar ws (n_v vs 0) 6) j := fun j => s1.1 _ _
  have hK_0_6 := elq_141 hD hth cr_0_6
  have kz_0_3 := fdq_13 hD hth r0
  have nf0 : fc_1 PRD (20, [0, 5, 6], [60, 1, 1, 901, 3, 2]) ws (vs) := ⟨nf_in hl rfl, sgq_912 (vc_Pn_replaceInLine_at_gi_6_0 (v_iv (n_v vs 1)) (v_iv (n_v vs 2)) (v_iv (n_v vs 3)) (v_iv (n_v vs 5)) (v_iv (n_v vs 6)) (v_iv (n_v vs 7)) (v_iv (n_v vs 8)) (v_iv (n_v vs 9)) (v_iv (n_v vs 10)) (v_iv (n_v vs 11)) (v_iv (n_v vs 12)) (v_iv (n_v vs 13)) (v_iv (n_v vs 15)) (v_iv (n_v vs 16)) (v_iv (n_v vs 18)) (v_iv (n_v vs 19)) (v_iv (n_v vs 20)) (v_iv (n_v vs 21)) (v_iv (n_v vs 23)) (v_iv (n_v vs 24)) (v_iv (n_v vs 25)) (v_iv (n_v vs 26)) (v_iv (n_v vs 27)) (w_fi ws (n_v vs 0) 3) (w_ei ws (w_ar ws (n_v vs 0) 6)) (w_ei ws (w_ar ws (n_v vs 0) 2)) (w_fi w1 (n_v vs 0) 3) (w_ei w1 (w_ar ws (n_v vs 0) 6)) (w_ei w1 (w_ar ws (n_v vs 0) 2)) k1 k2 k3 k5 k6 k7 k8 k9 k10 k11 k12 k13 k15 k16 k18 k19 k20 k21 k23 k24 k25 k26 k27 d0 d1 d2 d3 d4 d5 d6 d7 d8 d9 d10 d11 d12 d13 g0 (shm_141 f3) (shm_140 f4) (shm_7 f6) (shm_22 f7) (shm_7 f8) (shm_22 f9) (shm_140 f10) (shm_140 f11) (shm_7 f13) (shm_22 f14) (shm_7 f15) (shm_22 f16) (shm_909 f17) (shm_649 f18) (shm_710 f19) f20 (shm_12 f22) (shm_14 f23) g24 (shm_141 f25) (shm_140 f26) (shm_903 f27) (shm_7 f28) (shm_22 f29) (shm_7 f30) (shm_22 f31) (shm_140 f32) (shm_140 f33) (shm_903 f34) (shm_7 f35) (shm_22 f36) (shm_7 f37) (shm_22 f38) (shm_138 f39) (shm_139 f40) f41 (shm_910 f42) (shm_649 f43) (shm_710 f44) (shm_911 f45) f46 (shm_141 f48) (shm_140 f49) (shm_7 f50) (shm_22 f51) (shm_7 f52) (shm_22 f53) (shm_140 f54) (shm_140 f55) (shm_7 f56) (shm_22 f57) (shm_7 f58) (shm_22 f59) (shm_140 f61) (shm_140 f62) (shm_7 f63) (shm_22 f64) (shm_7 f65) (shm_22 f66) (shm_12 f67) (shm_12 f68) (shm_32 f69) (shm_32 f70) (shm_24 f71) (shm_12 f72) (shm_14 f73) (shm_14 f74) (shm_14 f75) fe_0_3_1 hE_0_2_1 hK_0_2 hE_0_6_1 hK_0_6 kz_0_3)⟩
  have nf1 : fc_1 PRD (20, [7, 0], [50, 1, 0, 1003, 0, 6, 4, 2, 1, 0, 0, 3, 2, 1, 3]) ws (vs) := ⟨nf_in hl rfl, sgq_913 (vc_Pn_replaceInLine_at_gi_6_1 (v_iv (n_v vs 1)) (v_iv (n_v vs 2)) (v_iv (n_v vs 3)) (v_iv (n_v vs 5)) (v_iv (n_v vs 6)) (v_iv (n_v vs 7)) (v_iv (n_v vs 8)) (v_iv (n_v vs 9)) (v_iv (n_v vs 10)) (v_iv (n_v vs 11)) (v_iv (n_v vs 12)) (v_iv (n_v vs 13)) (v_iv (n_v vs 15)) (v_iv (n_v vs 16)) (v_iv (n_v vs 18)) (v_iv (n_v vs 19)) (v_iv (n_v vs 20)) (v_iv (n_v vs 21)) (v_iv (n_v vs 23)) (v_iv (n_v vs 24)) (v_iv (n_v vs 25)) (v_iv (n_v vs 26)) (v_iv (n_v vs 27)) (w_fi ws (n_v vs 0) 3) (w_ei ws (w_ar ws (n_v vs 0) 6)) (w_ei ws (w_ar ws (n_v vs 0) 2)) (w_fi w1 (n_v vs 0) 3) (w_ei w1 (w_ar ws (n_v vs 0) 6)) (w_ei w1 (w_ar ws (n_v vs 0) 2)) k1 k2 k3 k5 k6 k7 k8 k9 k10 k11 k12 k13 k15 k16 k18 k19 k20 k21 k23 k24 k25 k26 k27 d0 d1 d2 d3 d4 d5 d6 d7 d8 d9 d10 d11 d12 d13 g0 (shm_141 f3) (shm_140 f4) (shm_7 f6) (shm_22 f7) (shm_7 f8) (shm_22 f9) (shm_140 f10) (shm_140 f11) (shm_7 f13) (shm_22 f14) (shm_7 f15) (shm_22 f16) (shm_909 f17) (shm_649 f18) (shm_710 f19) f20 (shm_12 f22) (shm_14 f23) g24 (shm_141 f25) (shm_140 f26) (shm_903 f27) (shm_7 f28) (shm_22 f29) (shm_7 f30) (shm_22 f31) (shm_140 f32) (shm_140 f33) (shm_903 f34) (shm_7 f35) (shm_22 f36) (shm_7 f37) (shm_22 f38) (shm_138 f39) (shm_139 f40) f41 (shm_910 f42) (shm_649 f43) (shm_710 f44) (shm_911 f45) f46 (shm_141 f48) (shm_140 f49) (shm_7 f50) (shm_22 f51) (shm_7 f52) (shm_22 f53) (shm_140 f54) (shm_140 f55) (shm_7 f56) (shm_22 f57) (shm_7 f58) (shm_22 f59) (shm_140 f61) (shm_140 f62) (shm_7 f63) (shm_22 f64) (shm_7 f65) (shm_22 f66) (shm_12 f67) (shm_12 f68) (shm_32 f69) (shm_32 f70) (shm_24 f71) (shm_12 f72) (shm_14 f73) (shm_14 f74) (shm_14 f75) fe_0_3_1 hE_0_2_1 hK_0_2 hE_0_6_1 hK_0_6 kz_0_3)⟩
  refine ⟨(fun _ h => (by cases h)), [], trivial, ?_, (fun _ h => (by cases h))⟩
  rw [List.append_nil]
  exact List.forall_mem_cons.mpr ⟨⟨show (20 : Nat) < 100 from by decide, nf0⟩, List.forall_mem_cons.mpr ⟨⟨show (20 : Nat) < 100 from by decide, nf1⟩, (fun _ h => (by cases h))⟩⟩
def n_Pn_replaceInLine_at_gi_an : List an_T := []
def t_Pn_replaceInLine_at_gi_ct : ct_L := [(150, 171, e_acp_12), (192, 171, e_acp_13)]
set_option maxRecDepth 100000 in
theorem c_Pn_replaceInLine_at_gi {l : Launch} {D : va_G} {kA : Nat → ClassId} : ct_ok PRD l D kA GG y_Pn_replaceInLine_at_gi z_Pn_replaceInLine_at_gi e_Pn_replaceInLine_at_gi := chk_all_ok (FT := [(22, 7, 2), (25, 7, 3), (35, 7, 6)]) (PT := [(25, 7, 3, .int)]) (CT := t_Pn_replaceInLine_at_gi_ct) (KT := []) (NT := []) (AN := n_Pn_replaceInLine_at_gi_an) (OT := [o_Pn_replaceInLine_at_gi_0, o_Pn_replaceInLine_at_gi_1, o_Pn_replaceInLine_at_gi_2, o_Pn_replaceInLine_at_gi_3, o_Pn_replaceInLine_at_gi_4, o_Pn_replaceInLine_at_gi_5, o_Pn_replaceInLine_at_gi_6]) 0 200 (List.forall_mem_cons.mpr ⟨oo_Pn_replaceInLine_at_gi_0, List.forall_mem_cons.mpr ⟨oo_Pn_replaceInLine_at_gi_1, List.forall_mem_cons.mpr ⟨oo_Pn_replaceInLine_at_gi_2, List.forall_mem_cons.mpr ⟨oo_Pn_replaceInLine_at_gi_3, List.forall_mem_cons.mpr ⟨oo_Pn_replaceInLine_at_gi_4, List.forall_mem_cons.mpr ⟨oo_Pn_replaceInLine_at_gi_5, List.forall_mem_cons.mpr ⟨oo_Pn_replaceInLine_at_gi_6, List.forall_mem_nil _⟩⟩⟩⟩⟩⟩⟩) (by decide +kernel) ⟨List.forall_mem_cons.mpr ⟨gf_Pn_22, List.forall_mem_cons.mpr ⟨gf_Pn_25, List.forall_mem_cons.mpr ⟨gf_Pn_35, List.forall_mem_nil _⟩⟩⟩, List.forall_mem_cons.mpr ⟨pf_Pn_25, List.forall_mem_nil _⟩, List.forall_mem_cons.mpr ⟨cl_copyU (na := 3) rfl rfl (by decide) (Or.inl (by decide)) (fun U U_zq xs sp dp n a b c d e f e1 e2 e3 h => dr1_dr2 (U := U) (U_zq := U_zq) (xs := xs) (sp := sp) (dp := dp) (n := n) a b c d e f e1 e2 e3 h) wm_1565 wm_750 wm_749 wm_15, List.forall_mem_cons.mpr ⟨cl_copyU (na := 3) rfl rfl (by decide) (Or.inl (by decide)) (fun U U_zq xs sp dp n a b c d e f e1 e2 e3 h => dr3_dr4 (U := U) (U_zq := U_zq) (xs := xs) (sp := sp) (dp := dp) (n := n) a b c d e f e1 e2 e3 h) wm_1565 wm_750 wm_749 wm_15, List.forall_mem_nil _⟩⟩, List.forall_mem_nil _, List.forall_mem_nil _, GG_pl⟩ (by decide +kernel)
set_option maxHeartbeats 4000000 in
theorem vc_St_addGap_at_gl_0_2 (x1 : Int) (x2 : Int) (x3 : Int) (x6 : Int) (x7 : Int) (from_0 : Int → Int) (to_0 : Int → Int) (room_0 : Int → Int) (gain_0 : Int → Int) (tail_0o4 : Int → Int) (head_0o4 : Int → Int) (weight_0o4 : Int → Int) (turned_0o5 : Int → Int) (arcs_0 : Int) (gu : Int) (k1 : 0 ≤ x1 ∧ x1 ≤ 23) (k2 : 0 ≤ x2 ∧ x2 ≤ 23) (k3 : 1 ≤ x3 ∧ x3 ≤ 1) (k6 : 0 ≤ x6 ∧ x6 ≤ 384) (k7 : 1000000000 ≤ x7 ∧ x7 ≤ 1000000000) (f0 : AP (arcs_0) (from_0) (to_0) (room_0) (gain_0) (tail_0o4) (head_0o4) (weight_0o4) (turned_0o5) (x6)) (f1 : APH (tail_0o4) (head_0o4) (weight_0o4) (turned_0o5) (x6) (x1) (x2)) (f2 : x6 ≤ 191) (f3 : x3 = 1) (hK_0_2 : ∀ j : Int, 0 ≤ j → j < 384 → 0 ≤ from_0 j ∧ from_0 j ≤ 71) (hK_0_3 : ∀ j : Int, 0 ≤ j → j < 384 → 0 ≤ to_0 j ∧ to_0 j ≤ 71) (hK_0_4 : ∀ j : Int, 0 ≤ j → j < 384 → (-2147483648) ≤ room_0 j ∧ room_0 j ≤ 2147483647) (hK_0_5 : ∀ j : Int, 0 ≤ j → j < 384 → (-20) ≤ gain_0 j ∧ gain_0 j ≤ 20) (hK_4_7 : ∀ j : Int, 0 ≤ j → j < 48 → 0 ≤ tail_0o4 j ∧ tail_0o4 j ≤ 23) (hK_4_8 : ∀ j : Int, 0 ≤ j → j < 48 → 0 ≤ head_0o4 j ∧ head_0o4 j ≤ 23) (hK_4_9 : ∀ j : Int, 0 ≤ j → j < 48 → 0 ≤ weight_0o4 j ∧ weight_0o4 j ≤ 9) (hK_5_9 : ∀ j : Int, 0 ≤ j → j < 48 → 0 ≤ turned_0o5 j ∧ turned_0o5 j ≤ 1) (kz_0_1 : 0 ≤ arcs_0 ∧ arcs_0 ≤ 384) (eu2 : gu = arcs_0) (eu3 : 0 ≤ gu ∧ gu ≤ 384) : AP (arcs_0) (from_0) (to_0) (room_0) (gain_0) (tail_0o4) (head_0o4) (weight_0o4) (turned_0o5) (gu) := by
  first
    | (have q := (‹AP _ _ _ _ _ _ _ _ _ _›); rw [show gu = x6 by (have := q.1; omega)]; exact q)
    | (have q := (‹APA _ _ _ _ _ _ _ _ _ _›); rw [show gu = x10 + 1 by (have := q.1; omega)]; exact q)
  
set_option maxHeartbeats 4000000 in
theorem vc_St_addGap_at_gl_0_3 (x1 : Int) (x2 : Int) (x3 : Int) (x6 : Int) (x7 : Int) (from_0 : Int → Int) (to_0 : Int → Int) (room_0 : Int → Int) (gain_0 : Int → Int) (tail_0o4 : Int → Int) (head_0o4 : Int → Int) (weight_0o4 : Int → Int) (turned_0o5 : Int → Int) (arcs_0 : Int) (gu : Int) (k1 : 0 ≤ x1 ∧ x1 ≤ 23) (k2 : 0 ≤ x2 ∧ x2 ≤ 23) (k3 : 1 ≤ x3 ∧ x3 ≤ 1) (k6 : 0 ≤ x6 ∧ x6 ≤ 384) (k7 : 1000000000 ≤ x7 ∧ x7 ≤ 1000000000) (f0 : AP (arcs_0) (from_0) (to_0) (room_0) (gain_0) (tail_0o4) (head_0o4) (weight_0o4) (turned_0o5) (x6)) (f1 : APH (tail_0o4) (head_0o4) (weight_0o4) (turned_0o5) (x6) (x1) (x2)) (f2 : x6 ≤ 191) (f3 : x3 = 1) (hK_0_2 : ∀ j : Int, 0 ≤ j → j < 384 → 0 ≤ from_0 j ∧ from_0 j ≤ 71) (hK_0_3 : ∀ j : Int, 0 ≤ j → j < 384 → 0 ≤ to_0 j ∧ to_0 j ≤ 71) (hK_0_4 : ∀ j : Int, 0 ≤ j → j < 384 → (-2147483648) ≤ room_0 j ∧ room_0 j ≤ 2147483647) (hK_0_5 : ∀ j : Int, 0 ≤ j → j < 384 → (-20) ≤ gain_0 j ∧ gain_0 j ≤ 20) (hK_4_7 : ∀ j : Int, 0 ≤ j → j < 48 → 0 ≤ tail_0o4 j ∧ tail_0o4 j ≤ 23) (hK_4_8 : ∀ j : Int, 0 ≤ j → j < 48 → 0 ≤ head_0o4 j ∧ head_0o4 j ≤ 23) (hK_4_9 : ∀ j : Int, 0 ≤ j → j < 48 → 0 ≤ weight_0o4 j ∧ weight_0o4 j ≤ 9) (hK_5_9 : ∀ j : Int, 0 ≤ j → j < 48 → 0 ≤ turned_0o5 j ∧ turned_0o5 j ≤ 1) (kz_0_1 : 0 ≤ arcs_0 ∧ arcs_0 ≤ 384) (eu2 : gu = arcs_0) (eu3 : 0 ≤ gu ∧ gu ≤ 384) : APX (tail_0o4) (head_0o4) (weight_0o4) (turned_0o5) (gu) (x1) (x2) (x7) (x3) := by
  first
    | (have q := (‹AP _ _ _ _ _ _ _ _ _ _›).1; exact apn_h0 ‹APH _ _ _ _ _ _ _› (by omega) (by omega) (by omega))
    | (have q := (‹APA _ _ _ _ _ _ _ _ _ _›).1; exact apn_h1 ‹APH _ _ _ _ _ _ _› (by omega) (by omega) (by omega))
  
set_option maxHeartbeats 4000000 in
theorem vc_St_addGap_at_gl_0_4 (x1 : Int) (x2 : Int) (x3 : Int) (x6 : Int) (x7 : Int) (from_0 : Int → Int) (to_0 : Int → Int) (room_0 : Int → Int) (gain_0 : Int → Int) (tail_0o4 : Int → Int) (head_0o4 : Int → Int) (weight_0o4 : Int → Int) (turned_0o5 : Int → Int) (arcs_0 : Int) (gu : Int) (k1 : 0 ≤ x1 ∧ x1 ≤ 23) (k2 : 0 ≤ x2 ∧ x2 ≤ 23) (k3 : 1 ≤ x3 ∧ x3 ≤ 1) (k6 : 0 ≤ x6 ∧ x6 ≤ 384) (k7 : 1000000000 ≤ x7 ∧ x7 ≤ 1000000000) (f0 : AP (arcs_0) (from_0) (to_0) (room_0) (gain_0) (tail_0o4) (head_0o4) (weight_0o4) (turned_0o5) (x6)) (f1 : APH (tail_0o4) (head_0o4) (weight_0o4) (turned_0o5) (x6) (x1) (x2)) (f2 : x6 ≤ 191) (f3 : x3 = 1) (hK_0_2 : ∀ j : Int, 0 ≤ j → j < 384 → 0 ≤ from_0 j ∧ from_0 j ≤ 71) (hK_0_3 : ∀ j : Int, 0 ≤ j → j < 384 → 0 ≤ to_0 j ∧ to_0 j ≤ 71) (hK_0_4 : ∀ j : Int, 0 ≤ j → j < 384 → (-2147483648) ≤ room_0 j ∧ room_0 j ≤ 2147483647) (hK_0_5 : ∀ j : Int, 0 ≤ j → j < 384 → (-20) ≤ gain_0 j ∧ gain_0 j ≤ 20) (hK_4_7 : ∀ j : Int, 0 ≤ j → j < 48 → 0 ≤ tail_0o4 j ∧ tail_0o4 j ≤ 23) (hK_4_8 : ∀ j : Int, 0 ≤ j → j < 48 → 0 ≤ head_0o4 j ∧ head_0o4 j ≤ 23) (hK_4_9 : ∀ j : Int, 0 ≤ j → j < 48 → 0 ≤ weight_0o4 j ∧ weight_0o4 j ≤ 9) (hK_5_9 : ∀ j : Int, 0 ≤ j → j < 48 → 0 ≤ turned_0o5 j ∧ turned_0o5 j ≤ 1) (kz_0_1 : 0 ≤ arcs_0 ∧ arcs_0 ≤ 384) (eu2 : gu = arcs_0) (eu3 : 0 ≤ gu ∧ gu ≤ 384) : gu ≤ 191 := by
  first
    | omega
    | (have q := (‹AP _ _ _ _ _ _ _ _ _ _›).1; have q2 := (‹APH _ _ _ _ _ _ _›).1; omega)
    | (have q := (‹APA _ _ _ _ _ _ _ _ _ _›).1; have q2 := (‹APH _ _ _ _ _ _ _›).1; omega)
  
set_option maxHeartbeats 4000000 in
theorem vc_St_addGap_at_gl_0_5 (x1 : Int) (x2 : Int) (x3 : Int) (x6 : Int) (x7 : Int) (from_0 : Int → Int) (to_0 : Int → Int) (room_0 : Int → Int) (gain_0 : Int → Int) (tail_0o4 : Int → Int) (head_0o4 : Int → Int) (weight_0o4 : Int → Int) (turned_0o5 : Int → Int) (arcs_0 : Int) (gu : Int) (k1 : 0 ≤ x1 ∧ x1 ≤ 23) (k2 : 0 ≤ x2 ∧ x2 ≤ 23) (k3 : 1 ≤ x3 ∧ x3 ≤ 1) (k6 : 0 ≤ x6 ∧ x6 ≤ 384) (k7 : 1000000000 ≤ x7 ∧ x7 ≤ 1000000000) (f0 : AP (arcs_0) (from_0) (to_0) (room_0) (gain_0) (tail_0o4) (head_0o4) (weight_0o4) (turned_0o5) (x6)) (f1 : APH (tail_0o4) (head_0o4) (weight_0o4) (turned_0o5) (x6) (x1) (x2)) (f2 : x6 ≤ 191) (f3 : x3 = 1) (hK_0_2 : ∀ j : Int, 0 ≤ j → j < 384 → 0 ≤ from_0 j ∧ from_0 j ≤ 71) (hK_0_3 : ∀ j : Int, 0 ≤ j → j < 384 → 0 ≤ to_0 j ∧ to_0 j ≤ 71) (hK_0_4 : ∀ j : Int, 0 ≤ j → j < 384 → (-2147483648) ≤ room_0 j ∧ room_0 j ≤ 2147483647) (hK_0_5 : ∀ j : Int, 0 ≤ j → j < 384 → (-20) ≤ gain_0 j ∧ gain_0 j ≤ 20) (hK_4_7 : ∀ j : Int, 0 ≤ j → j < 48 → 0 ≤ tail_0o4 j ∧ tail_0o4 j ≤ 23) (hK_4_8 : ∀ j : Int, 0 ≤ j → j < 48 → 0 ≤ head_0o4 j ∧ head_0o4 j ≤ 23) (hK_4_9 : ∀ j : Int, 0 ≤ j → j < 48 → 0 ≤ weight_0o4 j ∧ weight_0o4 j ≤ 9) (hK_5_9 : ∀ j : Int, 0 ≤ j → j < 48 → 0 ≤ turned_0o5 j ∧ turned_0o5 j ≤ 1) (kz_0_1 : 0 ≤ arcs_0 ∧ arcs_0 ≤ 384) (eu2 : gu = arcs_0) (eu3 : 0 ≤ gu ∧ gu ≤ 384) : gu = x6 := by
  first
    | omega
    | (have q := (‹AP _ _ _ _ _ _ _ _ _ _›).1; have q2 := (‹APH _ _ _ _ _ _ _›).1; omega)
    | (have q := (‹APA _ _ _ _ _ _ _ _ _ _›).1; have q2 := (‹APH _ _ _ _ _ _ _›).1; omega)
  
def o_St_addGap_at_gl_0 : or_T := (6, 8, [(0, (2, 0, 0, [10])), (1, (0, 0, 23, [])), (2, (0, 0, 23, [])), (3, (0, 1, 1, [])), (4, (2, 0, 0, [3])), (5, (2, 0, 0, [2])), (6, (0, 0, 384, [])), (7, (0, 1000000000, 1000000000, []))], [(20, [0, 4, 5, 6], [60, 1, 8, 651, 1, 2, 3, 4, 5, 1007, 1008, 1009, 2009]), (20, [4, 5, 6, 1, 2], [60, 0, 4, 657, 7, 8, 9, 1009]), (20, [6], [50, 0, 0, 0, 2, 1, 0, 0, 191]), (20, [3], [50, 0, 0, 1, 2, 1, 0, 0, 1])], [], [(2, 0, 0, [3]), (2, 0, 0, [2]), (0, 0, 384, [])], [(24, [4, 8], []), (24, [5, 9], []), (20, [0, 8, 9, 10], [60, 1, 8, 651, 1, 2, 3, 4, 5, 1007, 1008, 1009, 2009]), (20, [8, 9, 10, 1, 2, 7, 3], [60, 0, 4, 655, 7, 8, 9, 1009]), (20, [10], [50, 0, 0, 0, 2, 1, 0, 0, 191]), (20, [10, 6], [50, 0, 0, 1, 2, 1, 0, 1, 1])], [], [])
theorem oo_St_addGap_at_gl_0 {kA : Nat → ClassId} : or_ok PRD kA GG o_St_addGap_at_gl_0 := by
  refine or_mk fun A ta ws vs hD hth hl => ?_
  intro t0 r0 t1 k1 t2 k2 t3 k3 t4 r4 t5 r5 t6 k6 t7 k7 f0 f1 f2 f3
  replace f0 := shm_474 f0
  replace f1 := shm_918 f1
  replace f2 := shm_476 f2
  replace f3 := shm_510 f3
  have cr_0_2 := fdq_108 hD hth r0
  have cr_0_3 := fdq_109 hD hth r0
  have cr_0_4 := fdq_110 hD hth r0
  have cr_0_5 := fdq_111 hD hth r0
  have cr_4_7 := fdq_46 hD hth r4
  have cr_4_8 := fdq_47 hD hth r4
  have cr_4_9 := fdq_112 hD hth r4
  have cr_5_9 := fdq_76 hD hth r5
  have hK_0_2 := elq_53 hD hth cr_0_2
  have hK_0_3 := elq_54 hD hth cr_0_3
  have hK_0_4 := elq_55 hD hth cr_0_4
  have hK_0_5 := elq_56 hD hth cr_0_5
  have hK_4_7 := elq_11 hD hth cr_4_7
  have hK_4_8 := elq_12 hD hth cr_4_8
  have hK_4_9 := elq_57 hD hth cr_4_9
  have hK_5_9 := elq_38 hD hth cr_5_9
  have kz_0_1 := fdq_113 hD hth r0
  obtain ⟨u, eu, hu⟩ := iv_ex (ta := ta) (lo := 0) (hi := 384) (z := w_fi ws (n_v vs 0) 1) (by omega) (by omega) (by omega) (by omega)
  have eu2 : v_iv (Value.int u) = w_fi ws (n_v vs 0) 1 := eu
  have eu3 : 0 ≤ v_iv (Value.int u) ∧ v_iv (Value.int u) ≤ 384 := tv_rng hu
  have e_0 : n_v (vs ++ [n_v vs 4, n_v vs 5, Value.int u]) 0 = n_v vs 0 := n_v_old (by rw [hl]; decide)
  have e_1 : n_v (vs ++ [n_v vs 4, n_v vs 5, Value.int u]) 1 = n_v vs 1 := n_v_old (by rw [hl]; decide)
  have e_2 : n_v (vs ++ [n_v vs 4, n_v vs 5, Value.int u]) 2 = n_v vs 2 := n_v_old (by rw [hl]; decide)
  have e_3 : n_v (vs ++ [n_v vs 4, n_v vs 5, Value.int u]) 3 = n_v vs 3 := n_v_old (by rw [hl]; decide)
  have e_4 : n_v (vs ++ [n_v vs 4, n_v vs 5, Value.int u]) 4 = n_v vs 4 := n_v_old (by rw [hl]; decide)
  have e_5 : n_v (vs ++ [n_v vs 4, n_v vs 5, Value.int u]) 5 = n_v vs 5 := n_v_old (by rw [hl]; decide)
  have e_6 : n_v (vs ++ [n_v vs 4, n_v vs 5, Value.int u]) 6 = n_v vs 6 := n_v_old (by rw [hl]; decide)
  have e_7 : n_v (vs ++ [n_v vs 4, n_v vs 5, Value.int u]) 7 = n_v vs 7 := n_v_old (by rw [hl]; decide)
  have e_8 : n_v (vs ++ [n_v vs 4, n_v vs 5, Value.int u]) 8 = n_v vs 4 := n_v_newk (k := 0) hl rfl
  have e_9 : n_v (vs ++ [n_v vs 4, n_v vs 5, Value.int u]) 9 = n_v vs 5 := n_v_newk (k := 1) hl rfl
  have e_10 : n_v (vs ++ [n_v vs 4, n_v vs 5, Value.int u]) 10 = Value.int u := n_v_newk (k := 2) hl rfl
  have nf0 : fc_1 PRD (24, [4, 8], []) ws (vs ++ [n_v vs 4, n_v vs 5, Value.int u]) := by
    refine ⟨nf_inA hl rfl, sgq_5 ?_⟩
    · show n_v (vs ++ [n_v vs 4, n_v vs 5, Value.int u]) 4 = n_v (vs ++ [n_v vs 4, n_v vs 5, Value.int u]) 8
      first | rfl | simp only [e_4, e_8]
  have nf1 : fc_1 PRD (24, [5, 9], []) ws (vs ++ [n_v vs 4, n_v vs 5, Value.int u]) := by
    refine ⟨nf_inA hl rfl, sgq_5 ?_⟩
    · show n_v (vs ++ [n_v vs 4, n_v vs 5, Value.int u]) 5 = n_v (vs ++ [n_v vs 4, n_v vs 5, Value.int u]) 9
      first | rfl | simp only [e_5, e_9]
  have nf2 : fc_1 PRD (20, [0, 8, 9, 10], [60, 1, 8, 651, 1, 2, 3, 4, 5, 1007, 1008, 1009, 2009]) ws (vs ++ [n_v vs 4, n_v vs 5, Value.int u]) := by
    refine ⟨nf_inA hl rfl, sgq_474 ?_⟩
    · show AP (w_fi ws (n_v (vs ++ [n_v vs 4, n_v vs 5, Value.int u]) 0) 1) (w_ei ws (w_ar ws (n_v (vs ++ [n_v vs 4, n_v vs 5, Value.int u]) 0) 2)) (w_ei ws (w_ar ws (n_v (vs ++ [n_v vs 4, n_v vs 5, Value.int u]) 0) 3)) (w_ei ws (w_ar ws (n_v (vs ++ [n_v vs 4, n_v vs 5, Value.int u]) 0) 4)) (w_ei ws (w_ar ws (n_v (vs ++ [n_v vs 4, n_v vs 5, Value.int u]) 0) 5)) (w_ei ws (w_ar ws (n_v (vs ++ [n_v vs 4, n_v vs 5, Value.int u]) 8) 7)) (w_ei ws (w_ar ws (n_v (vs ++ [n_v vs 4, n_v vs 5, Value.int u]) 8) 8)) (w_ei ws (w_ar ws (n_v (vs ++ [n_v vs 4, n_v vs 5, Value.int u]) 8) 9)) (w_ei ws (w_ar ws (n_v (vs ++ [n_v vs 4, n_v vs 5, Value.int u]) 9) 9)) (v_iv (n_v (vs ++ [n_v vs 4, n_v vs 5, Value.int u]) 10))
      simp only [e_0, e_8, e_9, e_10]
      exact vc_St_addGap_at_gl_0_2 (v_iv (n_v vs 1)) (v_iv (n_v vs 2)) (v_iv (n_v vs 3)) (v_iv (n_v vs 6)) (v_iv (n_v vs 7)) (w_ei ws (w_ar ws (n_v vs 0) 2)) (w_ei ws (w_ar ws (n_v vs 0) 3)) (w_ei ws (w_ar ws (n_v vs 0) 4)) (w_ei ws (w_ar ws (n_v vs 0) 5)) (w_ei ws (w_ar ws (n_v vs 4) 7)) (w_ei ws (w_ar ws (n_v vs 4) 8)) (w_ei ws (w_ar ws (n_v vs 4) 9)) (w_ei ws (w_ar ws (n_v vs 5) 9)) (w_fi ws (n_v vs 0) 1) (v_iv (Value.int u)) k1 k2 k3 k6 k7 f0 f1 f2 f3 hK_0_2 hK_0_3 hK_0_4 hK_0_5 hK_4_7 hK_4_8 hK_4_9 hK_5_9 kz_0_1 eu2 eu3
  have nf3 : fc_1 PRD (20, [8, 9, 10, 1, 2, 7, 3], [60, 0, 4, 655, 7, 8, 9, 1009]) ws (vs ++ [n_v vs 4, n_v vs 5, Value.int u]) := by
    refine ⟨nf_inA hl rfl, sgq_475 ?_⟩
    · show APX (w_ei ws (w_ar ws (n_v (vs ++ [n_v vs 4, n_v vs 5, Value.int u]) 8) 7)) (w_ei ws (w_ar ws (n_v (vs ++ [n_v vs 4, n_v vs 5, Value.int u]) 8) 8)) (w_ei ws (w_ar ws (n_v (vs ++ [n_v vs 4, n_v vs 5, Value.int u]) 8) 9)) (w_ei ws (w_ar ws (n_v (vs ++ [n_v vs 4, n_v vs 5, Value.int u]) 9) 9)) (v_iv (n_v (vs ++ [n_v vs 4, n_v vs 5, Value.int u]) 10)) (v_iv (n_v (vs ++ [n_v vs 4, n_v vs 5, Value.int u]) 1)) (v_iv (n_v (vs ++ [n_v vs 4, n_v vs 5, Value.int u]) 2)) (v_iv (n_v (vs ++ [n_v vs 4, n_v vs 5, Value.int u]) 7)) (v_iv (n_v (vs ++ [n_v vs 4, n_v vs 5, Value.int u]) 3))
      simp only [e_1, e_2, e_3, e_7, e_8, e_9, e_10]
      exact vc_St_addGap_at_gl_0_3 (v_iv (n_v vs 1)) (v_iv (n_v vs 2)) (v_iv (n_v vs 3)) (v_iv (n_v vs 6)) (v_iv (n_v vs 7)) (w_ei ws (w_ar ws (n_v vs 0) 2)) (w_ei ws (w_ar ws (n_v vs 0) 3)) (w_ei ws (w_ar ws (n_v vs 0) 4)) (w_ei ws (w_ar ws (n_v vs 0) 5)) (w_ei ws (w_ar ws (n_v vs 4) 7)) (w_ei ws (w_ar ws (n_v vs 4) 8)) (w_ei ws (w_ar ws (n_v vs 4) 9)) (w_ei ws (w_ar ws (n_v vs 5) 9)) (w_fi ws (n_v vs 0) 1) (v_iv (Value.int u)) k1 k2 k3 k6 k7 f0 f1 f2 f3 hK_0_2 hK_0_3 hK_0_4 hK_0_5 hK_4_7 hK_4_8 hK_4_9 hK_5_9 kz_0_1 eu2 eu3
  have nf4 : fc_1 PRD (20, [10], [50, 0, 0, 0, 2, 1, 0, 0, 191]) ws (vs ++ [n_v vs 4, n_v vs 5, Value.int u]) := by
    refine ⟨nf_inA hl rfl, sgq_476 ?_⟩
    · show v_iv (n_v (vs ++ [n_v vs 4, n_v vs 5, Value.int u]) 10) ≤ 191
      rw [e_10]
      exact vc_St_addGap_at_gl_0_4 (v_iv (n_v vs 1)) (v_iv (n_v vs 2)) (v_iv (n_v vs 3)) (v_iv (n_v vs 6)) (v_iv (n_v vs 7)) (w_ei ws (w_ar ws (n_v vs 0) 2)) (w_ei ws (w_ar ws (n_v vs 0) 3)) (w_ei ws (w_ar ws (n_v vs 0) 4)) (w_ei ws (w_ar ws (n_v vs 0) 5)) (w_ei ws (w_ar ws (n_v vs 4) 7)) (w_ei ws (w_ar ws (n_v vs 4) 8)) (w_ei ws (w_ar ws (n_v vs 4) 9)) (w_ei ws (w_ar ws (n_v vs 5) 9)) (w_fi ws (n_v vs 0) 1) (v_iv (Value.int u)) k1 k2 k3 k6 k7 f0 f1 f2 f3 hK_0_2 hK_0_3 hK_0_4 hK_0_5 hK_4_7 hK_4_8 hK_4_9 hK_5_9 kz_0_1 eu2 eu3
  have nf5 : fc_1 PRD (20, [10, 6], [50, 0, 0, 1, 2, 1, 0, 1, 1]) ws (vs ++ [n_v vs 4, n_v vs 5, Value.int u]) := by
    refine ⟨nf_inA hl rfl, sgq_48 ?_⟩
    · show v_iv (n_v (vs ++ [n_v vs 4, n_v vs 5, Value.int u]) 10) = v_iv (n_v (vs ++ [n_v vs 4, n_v vs 5, Value.int u]) 6)
      simp only [e_6, e_10]
      exact vc_St_addGap_at_gl_0_5 (v_iv (n_v vs 1)) (v_iv (n_v vs 2)) (v_iv (n_v vs 3)) (v_iv (n_v vs 6)) (v_iv (n_v vs 7)) (w_ei ws (w_ar ws (n_v vs 0) 2)) (w_ei ws (w_ar ws (n_v vs 0) 3)) (w_ei ws (w_ar ws (n_v vs 0) 4)) (w_ei ws (w_ar ws (n_v vs 0) 5)) (w_ei ws (w_ar ws (n_v vs 4) 7)) (w_ei ws (w_ar ws (n_v vs 4) 8)) (w_ei ws (w_ar ws (n_v vs 4) 9)) (w_ei ws (w_ar ws (n_v vs 5) 9)) (w_fi ws (n_v vs 0) 1) (v_iv (Value.int u)) k1 k2 k3 k6 k7 f0 f1 f2 f3 hK_0_2 hK_0_3 hK_0_4 hK_0_5 hK_4_7 hK_4_8 hK_4_9 hK_5_9 kz_0_1 eu2 eu3
  exact ⟨(fun _ h => (by cases h)), [n_v vs 4, n_v vs 5, Value.int u], ag_three t4 t5 hu, List.forall_mem_cons.mpr ⟨⟨show (24 : Nat) < 100 from by decide, nf0⟩, List.forall_mem_cons.mpr ⟨⟨show (24 : Nat) < 100 from by decide, nf1⟩, List.forall_mem_cons.mpr ⟨⟨show (20 : Nat) < 100 from by decide, nf2⟩, List.forall_mem_cons.mpr ⟨⟨show (20 : Nat) < 100 from by decide, nf3⟩, List.forall_mem_cons.mpr ⟨⟨show (20 : Nat) < 100 from by decide, nf4⟩, List.forall_mem_cons.mpr ⟨⟨show (20 : Nat) < 100 from by decide, nf5⟩, (fun _ h => (by cases h))⟩⟩⟩⟩⟩⟩, (fun _ h => (by cases h))⟩
set_option maxHeartbeats 4000000 in
theorem vc_St_addGap_at_gl_1_2 (x1 : Int) (x2 : Int) (x3 : Int) (x6 : Int) (x7 : Int) (x10 : Int) (x11 : Int) (x12 : Int) (tail_0o4 : Int → Int) (head_0o4 : Int → Int) (weight_0o4 : Int → Int) (turned_0o5 : Int → Int) (from_0 : Int → Int) (to_0 : Int → Int) (room_0 : Int → Int) (gain_0 : Int → Int) (arcs_0 : Int) (gu : Int) (k1 : 0 ≤ x1 ∧ x1 ≤ 23) (k2 : 0 ≤ x2 ∧ x2 ≤ 23) (k3 : 1 ≤ x3 ∧ x3 ≤ 1) (k6 : 0 ≤ x6 ∧ x6 ≤ 384) (k7 : 1000000000 ≤ x7 ∧ x7 ≤ 1000000000) (k10 : 0 ≤ x10 ∧ x10 ≤ 384) (k11 : 0 ≤ x11 ∧ x11 ≤ 0) (k12 : (-1) ≤ x12 ∧ x12 ≤ (-1)) (f0 : x12 = x3 * (-1)) (f3 : APX (tail_0o4) (head_0o4) (weight_0o4) (turned_0o5) (x10) (x1) (x2) (x7) (x3)) (f4 : x10 ≤ 191) (f5 : x10 = x6) (f6 : APH (tail_0o4) (head_0o4) (weight_0o4) (turned_0o5) (x6) (x1) (x2)) (f7 : x6 ≤ 191) (f8 : x3 = 1) (f9 : APA (arcs_0) (from_0) (to_0) (room_0) (gain_0) (tail_0o4) (head_0o4) (weight_0o4) (turned_0o5) (x10)) (hK_0_2 : ∀ j : Int, 0 ≤ j → j < 384 → 0 ≤ from_0 j ∧ from_0 j ≤ 71) (hK_0_3 : ∀ j : Int, 0 ≤ j → j < 384 → 0 ≤ to_0 j ∧ to_0 j ≤ 71) (hK_0_4 : ∀ j : Int, 0 ≤ j → j < 384 → (-2147483648) ≤ room_0 j ∧ room_0 j ≤ 2147483647) (hK_0_5 : ∀ j : Int, 0 ≤ j → j < 384 → (-20) ≤ gain_0 j ∧ gain_0 j ≤ 20) (hK_4_7 : ∀ j : Int, 0 ≤ j → j < 48 → 0 ≤ tail_0o4 j ∧ tail_0o4 j ≤ 23) (hK_4_8 : ∀ j : Int, 0 ≤ j → j < 48 → 0 ≤ head_0o4 j ∧ head_0o4 j ≤ 23) (hK_4_9 : ∀ j : Int, 0 ≤ j → j < 48 → 0 ≤ weight_0o4 j ∧ weight_0o4 j ≤ 9) (hK_5_9 : ∀ j : Int, 0 ≤ j → j < 48 → 0 ≤ turned_0o5 j ∧ turned_0o5 j ≤ 1) (kz_0_1 : 0 ≤ arcs_0 ∧ arcs_0 ≤ 384) (eu2 : gu = arcs_0) (eu3 : 0 ≤ gu ∧ gu ≤ 384) : AP (arcs_0) (from_0) (to_0) (room_0) (gain_0) (tail_0o4) (head_0o4) (weight_0o4) (turned_0o5) (gu) := by
  first
    | (have q := (‹AP _ _ _ _ _ _ _ _ _ _›); rw [show gu = x6 by (have := q.1; omega)]; exact q)
    | (have q := (‹APA _ _ _ _ _ _ _ _ _ _›); rw [show gu = x10 + 1 by (have := q.1; omega)]; exact q)
  
set_option maxHeartbeats 4000000 in
theorem vc_St_addGap_at_gl_1_3 (x1 : Int) (x2 : Int) (x3 : Int) (x6 : Int) (x7 : Int) (x10 : Int) (x11 : Int) (x12 : Int) (tail_0o4 : Int → Int) (head_0o4 : Int → Int) (weight_0o4 : Int → Int) (turned_0o5 : Int → Int) (from_0 : Int → Int) (to_0 : Int → Int) (room_0 : Int → Int) (gain_0 : Int → Int) (arcs_0 : Int) (gu : Int) (k1 : 0 ≤ x1 ∧ x1 ≤ 23) (k2 : 0 ≤ x2 ∧ x2 ≤ 23) (k3 : 1 ≤ x3 ∧ x3 ≤ 1) (k6 : 0 ≤ x6 ∧ x6 ≤ 384) (k7 : 1000000000 ≤ x7 ∧ x7 ≤ 1000000000) (k10 : 0 ≤ x10 ∧ x10 ≤ 384) (k11 : 0 ≤ x11 ∧ x11 ≤ 0) (k12 : (-1) ≤ x12 ∧ x12 ≤ (-1)) (f0 : x12 = x3 * (-1)) (f3 : APX (tail_0o4) (head_0o4) (weight_0o4) (turned_0o5) (x10) (x1) (x2) (x7) (x3)) (f4 : x10 ≤ 191) (f5 : x10 = x6) (f6 : APH (tail_0o4) (head_0o4) (weight_0o4) (turned_0o5) (x6) (x1) (x2)) (f7 : x6 ≤ 191) (f8 : x3 = 1) (f9 : APA (arcs_0) (from_0) (to_0) (room_0) (gain_0) (tail_0o4) (head_0o4) (weight_0o4) (turned_0o5) (x10)) (hK_0_2 : ∀ j : Int, 0 ≤ j → j < 384 → 0 ≤ from_0 j ∧ from_0 j ≤ 71) (hK_0_3 : ∀ j : Int, 0 ≤ j → j < 384 → 0 ≤ to_0 j ∧ to_0 j ≤ 71) (hK_0_4 : ∀ j : Int, 0 ≤ j → j < 384 → (-2147483648) ≤ room_0 j ∧ room_0 j ≤ 2147483647) (hK_0_5 : ∀ j : Int, 0 ≤ j → j < 384 → (-20) ≤ gain_0 j ∧ gain_0 j ≤ 20) (hK_4_7 : ∀ j : Int, 0 ≤ j → j < 48 → 0 ≤ tail_0o4 j ∧ tail_0o4 j ≤ 23) (hK_4_8 : ∀ j : Int, 0 ≤ j → j < 48 → 0 ≤ head_0o4 j ∧ head_0o4 j ≤ 23) (hK_4_9 : ∀ j : Int, 0 ≤ j → j < 48 → 0 ≤ weight_0o4 j ∧ weight_0o4 j ≤ 9) (hK_5_9 : ∀ j : Int, 0 ≤ j → j < 48 → 0 ≤ turned_0o5 j ∧ turned_0o5 j ≤ 1) (kz_0_1 : 0 ≤ arcs_0 ∧ arcs_0 ≤ 384) (eu2 : gu = arcs_0) (eu3 : 0 ≤ gu ∧ gu ≤ 384) : APX (tail_0o4) (head_0o4) (weight_0o4) (turned_0o5) (gu) (x2) (x1) (x11) (x12) := by
  first
    | (have q := (‹AP _ _ _ _ _ _ _ _ _ _›).1; exact apn_h0 ‹APH _ _ _ _ _ _ _› (by omega) (by omega) (by omega))
    | (have q := (‹APA _ _ _ _ _ _ _ _ _ _›).1; exact apn_h1 ‹APH _ _ _ _ _ _ _› (by omega) (by omega) (by omega))
  
set_option maxHeartbeats 4000000 in
theorem vc_St_addGap_at_gl_1_4 (x1 : Int) (x2 : Int) (x3 : Int) (x6 : Int) (x7 : Int) (x10 : Int) (x11 : Int) (x12 : Int) (tail_0o4 : Int → Int) (head_0o4 : Int → Int) (weight_0o4 : Int → Int) (turned_0o5 : Int → Int) (from_0 : Int → Int) (to_0 : Int → Int) (room_0 : Int → Int) (gain_0 : Int → Int) (arcs_0 : Int) (gu : Int) (k1 : 0 ≤ x1 ∧ x1 ≤ 23) (k2 : 0 ≤ x2 ∧ x2 ≤ 23) (k3 : 1 ≤ x3 ∧ x3 ≤ 1) (k6 : 0 ≤ x6 ∧ x6 ≤ 384) (k7 : 1000000000 ≤ x7 ∧ x7 ≤ 1000000000) (k10 : 0 ≤ x10 ∧ x10 ≤ 384) (k11 : 0 ≤ x11 ∧ x11 ≤ 0) (k12 : (-1) ≤ x12 ∧ x12 ≤ (-1)) (f0 : x12 = x3 * (-1)) (f3 : APX (tail_0o4) (head_0o4) (weight_0o4) (turned_0o5) (x10) (x1) (x2) (x7) (x3)) (f4 : x10 ≤ 191) (f5 : x10 = x6) (f6 : APH (tail_0o4) (head_0o4) (weight_0o4) (turned_0o5) (x6) (x1) (x2)) (f7 : x6 ≤ 191) (f8 : x3 = 1) (f9 : APA (arcs_0) (from_0) (to_0) (room_0) (gain_0) (tail_0o4) (head_0o4) (weight_0o4) (turned_0o5) (x10)) (hK_0_2 : ∀ j : Int, 0 ≤ j → j < 384 → 0 ≤ from_0 j ∧ from_0 j ≤ 71) (hK_0_3 : ∀ j : Int, 0 ≤ j → j < 384 → 0 ≤ to_0 j ∧ to_0 j ≤ 71) (hK_0_4 : ∀ j : Int, 0 ≤ j → j < 384 → (-2147483648) ≤ room_0 j ∧ room_0 j ≤ 2147483647) (hK_0_5 : ∀ j : Int, 0 ≤ j → j < 384 → (-20) ≤ gain_0 j ∧ gain_0 j ≤ 20) (hK_4_7 : ∀ j : Int, 0 ≤ j → j < 48 → 0 ≤ tail_0o4 j ∧ tail_0o4 j ≤ 23) (hK_4_8 : ∀ j : Int, 0 ≤ j → j < 48 → 0 ≤ head_0o4 j ∧ head_0o4 j ≤ 23) (hK_4_9 : ∀ j : Int, 0 ≤ j → j < 48 → 0 ≤ weight_0o4 j ∧ weight_0o4 j ≤ 9) (hK_5_9 : ∀ j : Int, 0 ≤ j → j < 48 → 0 ≤ turned_0o5 j ∧ turned_0o5 j ≤ 1) (kz_0_1 : 0 ≤ arcs_0 ∧ arcs_0 ≤ 384) (eu2 : gu = arcs_0) (eu3 : 0 ≤ gu ∧ gu ≤ 384) : gu ≤ 191 := by
  first
    | omega
    | (have q := (‹AP _ _ _ _ _ _ _ _ _ _›).1; have q2 := (‹APH _ _ _ _ _ _ _›).1; omega)
    | (have q := (‹APA _ _ _ _ _ _ _ _ _ _›).1; have q2 := (‹APH _ _ _ _ _ _ _›).1; omega)
  
set_option maxHeartbeats 4000000 in
theorem vc_St_addGap_at_gl_1_5 (x1 : Int) (x2 : Int) (x3 : Int) (x6 : Int) (x7 : Int) (x10 : Int) (x11 : Int) (x12 : Int) (tail_0o4 : Int → Int) (head_0o4 : Int → Int) (weight_0o4 : Int → Int) (turned_0o5 : Int → Int) (from_0 : Int → Int) (to_0 : Int → Int) (room_0 : Int → Int) (gain_0 : Int → Int) (arcs_0 : Int) (gu : Int) (k1 : 0 ≤ x1 ∧ x1 ≤ 23) (k2 : 0 ≤ x2 ∧ x2 ≤ 23) (k3 : 1 ≤ x3 ∧ x3 ≤ 1) (k6 : 0 ≤ x6 ∧ x6 ≤ 384) (k7 : 1000000000 ≤ x7 ∧ x7 ≤ 1000000000) (k10 : 0 ≤ x10 ∧ x10 ≤ 384) (k11 : 0 ≤ x11 ∧ x11 ≤ 0) (k12 : (-1) ≤ x12 ∧ x12 ≤ (-1)) (f0 : x12 = x3 * (-1)) (f3 : APX (tail_0o4) (head_0o4) (weight_0o4) (turned_0o5) (x10) (x1) (x2) (x7) (x3)) (f4 : x10 ≤ 191) (f5 : x10 = x6) (f6 : APH (tail_0o4) (head_0o4) (weight_0o4) (turned_0o5) (x6) (x1) (x2)) (f7 : x6 ≤ 191) (f8 : x3 = 1) (f9 : APA (arcs_0) (from_0) (to_0) (room_0) (gain_0) (tail_0o4) (head_0o4) (weight_0o4) (turned_0o5) (x10)) (hK_0_2 : ∀ j : Int, 0 ≤ j → j < 384 → 0 ≤ from_0 j ∧ from_0 j ≤ 71) (hK_0_3 : ∀ j : Int, 0 ≤ j → j < 384 → 0 ≤ to_0 j ∧ to_0 j ≤ 71) (hK_0_4 : ∀ j : Int, 0 ≤ j → j < 384 → (-2147483648) ≤ room_0 j ∧ room_0 j ≤ 2147483647) (hK_0_5 : ∀ j : Int, 0 ≤ j → j < 384 → (-20) ≤ gain_0 j ∧ gain_0 j ≤ 20) (hK_4_7 : ∀ j : Int, 0 ≤ j → j < 48 → 0 ≤ tail_0o4 j ∧ tail_0o4 j ≤ 23) (hK_4_8 : ∀ j : Int, 0 ≤ j → j < 48 → 0 ≤ head_0o4 j ∧ head_0o4 j ≤ 23) (hK_4_9 : ∀ j : Int, 0 ≤ j → j < 48 → 0 ≤ weight_0o4 j ∧ weight_0o4 j ≤ 9) (hK_5_9 : ∀ j : Int, 0 ≤ j → j < 48 → 0 ≤ turned_0o5 j ∧ turned_0o5 j ≤ 1) (kz_0_1 : 0 ≤ arcs_0 ∧ arcs_0 ≤ 384) (eu2 : gu = arcs_0) (eu3 : 0 ≤ gu ∧ gu ≤ 384) : gu = (x6 + 1) := by
  first
    | omega
    | (have q := (‹AP _ _ _ _ _ _ _ _ _ _›).1; have q2 := (‹APH _ _ _ _ _ _ _›).1; omega)
    | (have q := (‹APA _ _ _ _ _ _ _ _ _ _›).1; have q2 := (‹APH _ _ _ _ _ _ _›).1; omega)
  
def o_St_addGap_at_gl_1 : or_T := (15, 13, [(0, (2, 0, 0, [10])), (1, (0, 0, 23, [])), (2, (0, 0, 23, [])), (3, (0, 1, 1, [])), (4, (2, 0, 0, [3])), (5, (2, 0, 0, [2])), (6, (0, 0, 384, [])), (7, (0, 1000000000, 1000000000, [])), (10, (0, 0, 384, [])), (11, (0, 0, 0, [])), (12, (0, -1, -1, []))], [(15, [12, 3], [-1]), (24, [4, 8], []), (24, [5, 9], []), (20, [8, 9, 10, 1, 2, 7, 3], [60, 0, 4, 655, 7, 8, 9, 1009]), (20, [10], [50, 0, 0, 0, 2, 1, 0, 0, 191]), (20, [10, 6], [50, 0, 0, 1, 2, 1, 0, 1, 1]), (20, [4, 5, 6, 1, 2], [60, 0, 4, 657, 7, 8, 9, 1009]), (20, [6], [50, 0, 0, 0, 2, 1, 0, 0, 191]), (20, [3], [50, 0, 0, 1, 2, 1, 0, 0, 1]), (20, [0, 8, 9, 10], [60, 1, 8, 652, 1, 2, 3, 4, 5, 1007, 1008, 1009, 2009])], [], [(2, 0, 0, [3]), (2, 0, 0, [2]), (0, 0, 384, [])], [(24, [4, 13], []), (24, [5, 14], []), (20, [0, 13, 14, 15], [60, 1, 8, 651, 1, 2, 3, 4, 5, 1007, 1008, 1009, 2009]), (20, [13, 14, 15, 2, 1, 11, 12], [60, 0, 4, 655, 7, 8, 9, 1009]), (20, [15], [50, 0, 0, 0, 2, 1, 0, 0, 191]), (20, [15, 6], [50, 0, 0, 1, 2, 1, 0, 4, 2, 1, 1, 0, 1])], [], [])
theorem oo_St_addGap_at_gl_1 {kA : Nat → ClassId} : or_ok PRD kA GG o_St_addGap_at_gl_1 := by
  refine or_mk fun A ta ws vs hD hth hl => ?_
  intro t0 r0 t1 k1 t2 k2 t3 k3 t4 r4 t5 r5 t6 k6 t7 k7 t10 k10 t11 k11 t12 k12 f0 f1 f2 f3 f4 f5 f6 f7 f8 f9
  replace f0 := shm_538 f0
  replace f1 := shm_5 f1
  replace f2 := shm_5 f2
  replace f3 := shm_475 f3
  replace f4 := shm_476 f4
  replace f5 := shm_48 f5
  replace f6 := shm_918 f6
  replace f7 := shm_476 f7
  replace f8 := shm_510 f8
  replace f9 := shm_477 f9
  have q8 : n_v vs 8 = n_v vs 4 := f1.symm
  have q9 : n_v vs 9 = n_v vs 5 := f2.symm
  simp only [q8, q9] at f3 f9
  have cr_0_2 := fdq_108 hD hth r0
  have cr_0_3 := fdq_109 hD hth r0
  have cr_0_4 := fdq_110 hD hth r0
  have cr_0_5 := fdq_111 hD hth r0
  have cr_4_7 := fdq_46 hD hth r4
  have cr_4_8 := fdq_47 hD hth r4
  have cr_4_9 := fdq_112 hD hth r4
  have cr_5_9 := fdq_76 hD hth r5
  have hK_0_2 := elq_53 hD hth cr_0_2
  have hK_0_3 := elq_54 hD hth cr_0_3
  have hK_0_4 := elq_55 hD hth cr_0_4
  have hK_0_5 := elq_56 hD hth cr_0_5
  have hK_4_7 := elq_11 hD hth cr_4_7
  have hK_4_8 := elq_12 hD hth cr_4_8
  have hK_4_9 := elq_57 hD hth cr_4_9
  have hK_5_9 := elq_38 hD hth cr_5_9
  have kz_0_1 := fdq_113 hD hth r0
  obtain ⟨u, eu, hu⟩ := iv_ex (ta := ta) (lo := 0) (hi := 384) (z := w_fi ws (n_v vs 0) 1) (by omega) (by omega) (by omega) (by omega)
  have eu2 : v_iv (Value.int u) = w_fi ws (n_v vs 0) 1 := eu
  have eu3 : 0 ≤ v_iv (Value.int u) ∧ v_iv (Value.int u) ≤ 384 := tv_rng hu
  have e_0 : n_v (vs ++ [n_v vs 4, n_v vs 5, Value.int u]) 0 = n_v vs 0 := n_v_old (by rw [hl]; decide)
  have e_1 : n_v (vs ++ [n_v vs 4, n_v vs 5, Value.int u]) 1 = n_v vs 1 := n_v_old (by rw [hl]; decide)
  have e_2 : n_v (vs ++ [n_v vs 4, n_v vs 5, Value.int u]) 2 = n_v vs 2 := n_v_old (by rw [hl]; decide)
  have e_4 : n_v (vs ++ [n_v vs 4, n_v vs 5, Value.int u]) 4 = n_v vs 4 := n_v_old (by rw [hl]; decide)
  have e_5 : n_v (vs ++ [n_v vs 4, n_v vs 5, Value.int u]) 5 = n_v vs 5 := n_v_old (by rw [hl]; decide)
  have e_6 : n_v (vs ++ [n_v vs 4, n_v vs 5, Value.int u]) 6 = n_v vs 6 := n_v_old (by rw [hl]; decide)
  have e_11 : n_v (vs ++ [n_v vs 4, n_v vs 5, Value.int u]) 11 = n_v vs 11 := n_v_old (by rw [hl]; decide)
  have e_12 : n_v (vs ++ [n_v vs 4, n_v vs 5, Value.int u]) 12 = n_v vs 12 := n_v_old (by rw [hl]; decide)
  have e_13 : n_v (vs ++ [n_v vs 4, n_v vs 5, Value.int u]) 13 = n_v vs 4 := n_v_newk (k := 0) hl rfl
  have e_14 : n_v (vs ++ [n_v vs 4, n_v vs 5, Value.int u]) 14 = n_v vs 5 := n_v_newk (k := 1) hl rfl
  have e_15 : n_v (vs ++ [n_v vs 4, n_v vs 5, Value.int u]) 15 = Value.int u := n_v_newk (k := 2) hl rfl
  have nf0 : fc_1 PRD (24, [4, 13], []) ws (vs ++ [n_v vs 4, n_v vs 5, Value.int u]) := by
    refine ⟨nf_inA hl rfl, sgq_5 ?_⟩
    · show n_v (vs ++ [n_v vs 4, n_v vs 5, Value.int u]) 4 = n_v (vs ++ [n_v vs 4, n_v vs 5, Value.int u]) 13
      first | rfl | simp only [e_4, e_13, q8, q9]
  have nf1 : fc_1 PRD (24, [5, 14], []) ws (vs ++ [n_v vs 4, n_v vs 5, Value.int u]) := by
    refine ⟨nf_inA hl rfl, sgq_5 ?_⟩
    · show n_v (vs ++ [n_v vs 4, n_v vs 5, Value.int u]) 5 = n_v (vs ++ [n_v vs 4, n_v vs 5, Value.int u]) 14
      first | rfl | simp only [e_5, e_14, q8, q9]
  have nf2 : fc_1 PRD (20, [0, 13, 14, 15], [60, 1, 8, 651, 1, 2, 3, 4, 5, 1007, 1008, 1009, 2009]) ws (vs ++ [n_v vs 4, n_v vs 5, Value.int u]) := by
    refine ⟨nf_inA hl rfl, sgq_474 ?_⟩
    · show AP (w_fi ws (n_v (vs ++ [n_v vs 4, n_v vs 5, Value.int u]) 0) 1) (w_ei ws (w_ar ws (n_v (vs ++ [n_v vs 4, n_v vs 5, Value.int u]) 0) 2)) (w_ei ws (w_ar ws (n_v (vs ++ [n_v vs 4, n_v vs 5, Value.int u]) 0) 3)) (w_ei ws (w_ar ws (n_v (vs ++ [n_v vs 4, n_v vs 5, Value.int u]) 0) 4)) (w_ei ws (w_ar ws (n_v (vs ++ [n_v vs 4, n_v vs 5, Value.int u]) 0) 5)) (w_ei ws (w_ar ws (n_v (vs ++ [n_v vs 4, n_v vs 5, Value.int u]) 13) 7)) (w_ei ws (w_ar ws (n_v (vs ++ [n_v vs 4, n_v vs 5, Value.int u]) 13) 8)) (w_ei ws (w_ar ws (n_v (vs ++ [n_v vs 4, n_v vs 5, Value.int u]) 13) 9)) (w_ei ws (w_ar ws (n_v (vs ++ [n_v vs 4, n_v vs 5, Value.int u]) 14) 9)) (v_iv (n_v (vs ++ [n_v vs 4, n_v vs 5, Value.int u]) 15))
      simp only [e_0, e_13, e_14, e_15]
      exact vc_St_addGap_at_gl_1_2 (v_iv (n_v vs 1)) (v_iv (n_v vs 2)) (v_iv (n_v vs 3)) (v_iv (n_v vs 6)) (v_iv (n_v vs 7)) (v_iv (n_v vs 10)) (v_iv (n_v vs 11)) (v_iv (n_v vs 12)) (w_ei ws (w_ar ws (n_v vs 4) 7)) (w_ei ws (w_ar ws (n_v vs 4) 8)) (w_ei ws (w_ar ws (n_v vs 4) 9)) (w_ei ws (w_ar ws (n_v vs 5) 9)) (w_ei ws (w_ar ws (n_v vs 0) 2)) (w_ei ws (w_ar ws (n_v vs 0) 3)) (w_ei ws (w_ar ws (n_v vs 0) 4)) (w_ei ws (w_ar ws (n_v vs 0) 5)) (w_fi ws (n_v vs 0) 1) (v_iv (Value.int u)) k1 k2 k3 k6 k7 k10 k11 k12 f0 f3 f4 f5 f6 f7 f8 f9 hK_0_2 hK_0_3 hK_0_4 hK_0_5 hK_4_7 hK_4_8 hK_4_9 hK_5_9 kz_0_1 eu2 eu3
  have nf3 : fc_1 PRD (20, [13, 14, 15, 2, 1, 11, 12], [60, 0, 4, 655, 7, 8, 9, 1009]) ws (vs ++ [n_v vs 4, n_v vs 5, Value.int u]) := by
    refine ⟨nf_inA hl rfl, sgq_475 ?_⟩
    · show APX (w_ei ws (w_ar ws (n_v (vs ++ [n_v vs 4, n_v vs 5, Value.int u]) 13) 7)) (w_ei ws (w_ar ws (n_v (vs ++ [n_v vs 4, n_v vs 5, Value.int u]) 13) 8)) (w_ei ws (w_ar ws (n_v (vs ++ [n_v vs 4, n_v vs 5, Value.int u]) 13) 9)) (w_ei ws (w_ar ws (n_v (vs ++ [n_v vs 4, n_v vs 5, Value.int u]) 14) 9)) (v_iv (n_v (vs ++ [n_v vs 4, n_v vs 5, Value.int u]) 15)) (v_iv (n_v (vs ++ [n_v vs 4, n_v vs 5, Value.int u]) 2)) (v_iv (n_v (vs ++ [n_v vs 4, n_v vs 5, Value.int u]) 1)) (v_iv (n_v (vs ++ [n_v vs 4, n_v vs 5, Value.int u]) 11)) (v_iv (n_v (vs ++ [n_v vs 4, n_v vs 5, Value.int u]) 12))
      simp only [e_1, e_2, e_11, e_12, e_13, e_14, e_15]
      exact vc_St_addGap_at_gl_1_3 (v_iv (n_v vs 1)) (v_iv (n_v vs 2)) (v_iv (n_v vs 3)) (v_iv (n_v vs 6)) (v_iv (n_v vs 7)) (v_iv (n_v vs 10)) (v_iv (n_v vs 11)) (v_iv (n_v vs 12)) (w_ei ws (w_ar ws (n_v vs 4) 7)) (w_ei ws (w_ar ws (n_v vs 4) 8)) (w_ei ws (w_ar ws (n_v vs 4) 9)) (w_ei ws (w_ar ws (n_v vs 5) 9)) (w_ei ws (w_ar ws (n_v vs 0) 2)) (w_ei ws (w_ar ws (n_v vs 0) 3)) (w_ei ws (w_ar ws (n_v vs 0) 4)) (w_ei ws (w_ar ws (n_v vs 0) 5)) (w_fi ws (n_v vs 0) 1) (v_iv (Value.int u)) k1 k2 k3 k6 k7 k10 k11 k12 f0 f3 f4 f5 f6 f7 f8 f9 hK_0_2 hK_0_3 hK_0_4 hK_0_5 hK_4_7 hK_4_8 hK_4_9 hK_5_9 kz_0_1 eu2 eu3
  have nf4 : fc_1 PRD (20, [15], [50, 0, 0, 0, 2, 1, 0, 0, 191]) ws (vs ++ [n_v vs 4, n_v vs 5, Value.int u]) := by
    refine ⟨nf_inA hl rfl, sgq_476 ?_⟩
    · show v_iv (n_v (vs ++ [n_v vs 4, n_v vs 5, Value.int u]) 15) ≤ 191
      rw [e_15]
      exact vc_St_addGap_at_gl_1_4 (v_iv (n_v vs 1)) (v_iv (n_v vs 2)) (v_iv (n_v vs 3)) (v_iv (n_v vs 6)) (v_iv (n_v vs 7)) (v_iv (n_v vs 10)) (v_iv (n_v vs 11)) (v_iv (n_v vs 12)) (w_ei ws (w_ar ws (n_v vs 4) 7)) (w_ei ws (w_ar ws (n_v vs 4) 8)) (w_ei ws (w_ar ws (n_v vs 4) 9)) (w_ei ws (w_ar ws (n_v vs 5) 9)) (w_ei ws (w_ar ws (n_v vs 0) 2)) (w_ei ws (w_ar ws (n_v vs 0) 3)) (w_ei ws (w_ar ws (n_v vs 0) 4)) (w_ei ws (w_ar ws (n_v vs 0) 5)) (w_fi ws (n_v vs 0) 1) (v_iv (Value.int u)) k1 k2 k3 k6 k7 k10 k11 k12 f0 f3 f4 f5 f6 f7 f8 f9 hK_0_2 hK_0_3 hK_0_4 hK_0_5 hK_4_7 hK_4_8 hK_4_9 hK_5_9 kz_0_1 eu2 eu3
  have nf5 : fc_1 PRD (20, [15, 6], [50, 0, 0, 1, 2, 1, 0, 4, 2, 1, 1, 0, 1]) ws (vs ++ [n_v vs 4, n_v vs 5, Value.int u]) := by
    refine ⟨nf_inA hl rfl, sgq_919 ?_⟩
    · show v_iv (n_v (vs ++ [n_v vs 4, n_v vs 5, Value.int u]) 15) = (v_iv (n_v (vs ++ [n_v vs 4, n_v vs 5, Value.int u]) 6) + 1)
      simp only [e_6, e_15]
      exact vc_St_addGap_at_gl_1_5 (v_iv (n_v vs 1)) (v_iv (n_v vs 2)) (v_iv (n_v vs 3)) (v_iv (n_v vs 6)) (v_iv (n_v vs 7)) (v_iv (n_v vs 10)) (v_iv (n_v vs 11)) (v_iv (n_v vs 12)) (w_ei ws (w_ar ws (n_v vs 4) 7)) (w_ei ws (w_ar ws (n_v vs 4) 8)) (w_ei ws (w_ar ws (n_v vs 4) 9)) (w_ei ws (w_ar ws (n_v vs 5) 9)) (w_ei ws (w_ar ws (n_v vs 0) 2)) (w_ei ws (w_ar ws (n_v vs 0) 3)) (w_ei ws (w_ar ws (n_v vs 0) 4)) (w_ei ws (w_ar ws (n_v vs 0) 5)) (w_fi ws (n_v vs 0) 1) (v_iv (Value.int u)) k1 k2 k3 k6 k7 k10 k11 k12 f0 f3 f4 f5 f6 f7 f8 f9 hK_0_2 hK_0_3 hK_0_4 hK_0_5 hK_4_7 hK_4_8 hK_4_9 hK_5_9 kz_0_1 eu2 eu3
  exact ⟨(fun _ h => (by cases h)), [n_v vs 4, n_v vs 5, Value.int u], ag_three t4 t5 hu, List.forall_mem_cons.mpr ⟨⟨show (24 : Nat) < 100 from by decide, nf0⟩, List.forall_mem_cons.mpr ⟨⟨show (24 : Nat) < 100 from by decide, nf1⟩, List.forall_mem_cons.mpr ⟨⟨show (20 : Nat) < 100 from by decide, nf2⟩, List.forall_mem_cons.mpr ⟨⟨show (20 : Nat) < 100 from by decide, nf3⟩, List.forall_mem_cons.mpr ⟨⟨show (20 : Nat) < 100 from by decide, nf4⟩, List.forall_mem_cons.mpr ⟨⟨show (20 : Nat) < 100 from by decide, nf5⟩, (fun _ h => (by cases h))⟩⟩⟩⟩⟩⟩, (fun _ h => (by cases h))⟩
set_option maxHeartbeats 4000000 in
theorem vc_St_addGap_at_gl_2_0 (x1 : Int) (x2 : Int) (x3 : Int) (x6 : Int) (x7 : Int) (x10 : Int) (x11 : Int) (x12 : Int) (x15 : Int) (tail_0o4 : Int → Int) (head_0o4 : Int → Int) (weight_0o4 : Int → Int) (turned_0o5 : Int → Int) (from_0 : Int → Int) (to_0 : Int → Int) (room_0 : Int → Int) (gain_0 : Int → Int) (arcs_0 : Int) (k1 : 0 ≤ x1 ∧ x1 ≤ 23) (k2 : 0 ≤ x2 ∧ x2 ≤ 23) (k3 : 1 ≤ x3 ∧ x3 ≤ 1) (k6 : 0 ≤ x6 ∧ x6 ≤ 384) (k7 : 1000000000 ≤ x7 ∧ x7 ≤ 1000000000) (k10 : 0 ≤ x10 ∧ x10 ≤ 384) (k11 : 0 ≤ x11 ∧ x11 ≤ 0) (k12 : (-1) ≤ x12 ∧ x12 ≤ (-1)) (k15 : 0 ≤ x15 ∧ x15 ≤ 384) (f2 : APX (tail_0o4) (head_0o4) (weight_0o4) (turned_0o5) (x15) (x2) (x1) (x11) (x12)) (f3 : x15 ≤ 191) (f4 : x15 = (x6 + 1)) (f7 : APX (tail_0o4) (head_0o4) (weight_0o4) (turned_0o5) (x10) (x1) (x2) (x7) (x3)) (f8 : x10 ≤ 191) (f9 : x10 = x6) (f10 : APH (tail_0o4) (head_0o4) (weight_0o4) (turned_0o5) (x6) (x1) (x2)) (f11 : x6 ≤ 191) (f12 : x3 = 1) (f13 : APA (arcs_0) (from_0) (to_0) (room_0) (gain_0) (tail_0o4) (head_0o4) (weight_0o4) (turned_0o5) (x15)) (f15 : x12 = x3 * (-1)) (hK_0_2 : ∀ j : Int, 0 ≤ j → j < 384 → 0 ≤ from_0 j ∧ from_0 j ≤ 71) (hK_0_3 : ∀ j : Int, 0 ≤ j → j < 384 → 0 ≤ to_0 j ∧ to_0 j ≤ 71) (hK_0_4 : ∀ j : Int, 0 ≤ j → j < 384 → (-2147483648) ≤ room_0 j ∧ room_0 j ≤ 2147483647) (hK_0_5 : ∀ j : Int, 0 ≤ j → j < 384 → (-20) ≤ gain_0 j ∧ gain_0 j ≤ 20) (hK_4_7 : ∀ j : Int, 0 ≤ j → j < 48 → 0 ≤ tail_0o4 j ∧ tail_0o4 j ≤ 23) (hK_4_8 : ∀ j : Int, 0 ≤ j → j < 48 → 0 ≤ head_0o4 j ∧ head_0o4 j ≤ 23) (hK_4_9 : ∀ j : Int, 0 ≤ j → j < 48 → 0 ≤ weight_0o4 j ∧ weight_0o4 j ≤ 9) (hK_5_9 : ∀ j : Int, 0 ≤ j → j < 48 → 0 ≤ turned_0o5 j ∧ turned_0o5 j ≤ 1) (kz_0_1 : 0 ≤ arcs_0 ∧ arcs_0 ≤ 384) : APB (arcs_0) (from_0) (to_0) (room_0) (gain_0) (tail_0o4) (head_0o4) (weight_0o4) (turned_0o5) (x6) := by
  first
    | (unfold APB; rw [show x6 + 2 = x15 + 1 by omega]; exact ‹APA _ _ _ _ _ _ _ _ _ _›)
  
def o_St_addGap_at_gl_2 : or_T := (18, 16, [(0, (2, 0, 0, [10])), (1, (0, 0, 23, [])), (2, (0, 0, 23, [])), (3, (0, 1, 1, [])), (4, (2, 0, 0, [3])), (5, (2, 0, 0, [2])), (6, (0, 0, 384, [])), (7, (0, 1000000000, 1000000000, [])), (10, (0, 0, 384, [])), (11, (0, 0, 0, [])), (12, (0, -1, -1, [])), (15, (0, 0, 384, []))], [(24, [4, 13], []), (24, [5, 14], []), (20, [13, 14, 15, 2, 1, 11, 12], [60, 0, 4, 655, 7, 8, 9, 1009]), (20, [15], [50, 0, 0, 0, 2, 1, 0, 0, 191]), (20, [15, 6], [50, 0, 0, 1, 2, 1, 0, 4, 2, 1, 1, 0, 1]), (24, [4, 8], []), (24, [5, 9], []), (20, [8, 9, 10, 1, 2, 7, 3], [60, 0, 4, 655, 7, 8, 9, 1009]), (20, [10], [50, 0, 0, 0, 2, 1, 0, 0, 191]), (20, [10, 6], [50, 0, 0, 1, 2, 1, 0, 1, 1]), (20, [4, 5, 6, 1, 2], [60, 0, 4, 657, 7, 8, 9, 1009]), (20, [6], [50, 0, 0, 0, 2, 1, 0, 0, 191]), (20, [3], [50, 0, 0, 1, 2, 1, 0, 0, 1]), (20, [0, 13, 14, 15], [60, 1, 8, 652, 1, 2, 3, 4, 5, 1007, 1008, 1009, 2009]), (102, [15], [4984604984193434523389276476051292160, 10001]), (15, [12, 3], [-1])], [], [], [(20, [0, 4, 5, 6], [60, 1, 8, 653, 1, 2, 3, 4, 5, 1007, 1008, 1009, 2009])], [], [])
theorem oo_St_addGap_at_gl_2 {kA : Nat → ClassId} : or_ok PRD kA GG o_St_addGap_at_gl_2 := by
  refine or_mk fun A ta ws vs hD hth hl => ?_
  intro t0 r0 t1 k1 t2 k2 t3 k3 t4 r4 t5 r5 t6 k6 t7 k7 t10 k10 t11 k11 t12 k12 t15 k15 f0 f1 f2 f3 f4 f5 f6 f7 f8 f9 f10 f11 f12 f13 ta1 w1 le1 s1 f15
  replace f0 := shm_5 f0
  replace f1 := shm_5 f1
  replace f2 := shm_475 f2
  replace f5 := shm_5 f5
  replace f6 := shm_5 f6
  replace f7 := shm_475 f7
  replace f13 := shm_477 f13
  have q13 : n_v vs 13 = n_v vs 4 := f0.symm
  have q14 : n_v vs 14 = n_v vs 5 := f1.symm
  have q8 : n_v vs 8 = n_v vs 4 := f5.symm
  have q9 : n_v vs 9 = n_v vs 5 := f6.symm
  simp only [q13, q14, q8, q9] at f2 f7 f13
  have cr_0_2 := fdq_108 hD hth r0
  have cr_0_3 := fdq_109 hD hth r0
  have cr_0_4 := fdq_110 hD hth r0
  have cr_0_5 := fdq_111 hD hth r0
  have cr_4_7 := fdq_46 hD hth r4
  have cr_4_8 := fdq_47 hD hth r4
  have cr_4_9 := fdq_112 hD hth r4
  have cr_5_9 := fdq_76 hD hth r5
  have hK_0_2 := elq_53 hD hth cr_0_2
  have hK_0_3 := elq_54 hD hth cr_0_3
  have hK_0_4 := elq_55 hD hth cr_0_4
  have hK_0_5 := elq_56 hD hth cr_0_5
  have hK_4_7 := elq_11 hD hth cr_4_7
  have hK_4_8 := elq_12 hD hth cr_4_8
  have hK_4_9 := elq_57 hD hth cr_4_9
  have hK_5_9 := elq_38 hD hth cr_5_9
  have kz_0_1 := fdq_113 hD hth r0
  have nf0 : fc_1 PRD (20, [0, 4, 5, 6], [60, 1, 8, 653, 1, 2, 3, 4, 5, 1007, 1008, 1009, 2009]) ws (vs) := ⟨nf_in hl rfl, sgq_920 (vc_St_addGap_at_gl_2_0 (v_iv (n_v vs 1)) (v_iv (n_v vs 2)) (v_iv (n_v vs 3)) (v_iv (n_v vs 6)) (v_iv (n_v vs 7)) (v_iv (n_v vs 10)) (v_iv (n_v vs 11)) (v_iv (n_v vs 12)) (v_iv (n_v vs 15)) (w_ei ws (w_ar ws (n_v vs 4) 7)) (w_ei ws (w_ar ws (n_v vs 4) 8)) (w_ei ws (w_ar ws (n_v vs 4) 9)) (w_ei ws (w_ar ws (n_v vs 5) 9)) (w_ei ws (w_ar ws (n_v vs 0) 2)) (w_ei ws (w_ar ws (n_v vs 0) 3)) (w_ei ws (w_ar ws (n_v vs 0) 4)) (w_ei ws (w_ar ws (n_v vs 0) 5)) (w_fi ws (n_v vs 0) 1) k1 k2 k3 k6 k7 k10 k11 k12 k15 f2 (shm_476 f3) (shm_919 f4) f7 (shm_476 f8) (shm_48 f9) (shm_918 f10) (shm_476 f11) (shm_510 f12) f13 (shm_538 f15) hK_0_2 hK_0_3 hK_0_4 hK_0_5 hK_4_7 hK_4_8 hK_4_9 hK_5_9 kz_0_1)⟩
  refine ⟨(fun _ h => (by cases h)), [], trivial, ?_, (fun _ h => (by cases h))⟩
  rw [List.append_nil]
  exact List.forall_mem_cons.mpr ⟨⟨show (20 : Nat) < 100 from by decide, nf0⟩, (fun _ h => (by cases h))⟩
def n_St_addGap_at_gl_an : List an_T := []
def t_St_addGap_at_gl_ct : ct_L := [(22, 40, e_St_addArc_at_gl), (49, 40, e_St_addArc_at_gl)]
set_option maxRecDepth 100000 in
theorem c_St_addGap_at_gl {l : Launch} {D : va_G} {kA : Nat → ClassId} (h_St_addArc_at_gl : ct_ok PRD l D kA GG y_St_addArc_at_gl z_St_addArc_at_gl e_St_addArc_at_gl) : ct_ok PRD l D kA GG y_St_addGap_at_gl z_St_addGap_at_gl e_St_addGap_at_gl := chk_all_ok (FT := []) (PT := []) (CT := t_St_addGap_at_gl_ct) (KT := [(0, 44, .int (1000000000), (0, 1000000000, 1000000000, []))]) (NT := []) (AN := n_St_addGap_at_gl_an) (OT := [o_St_addGap_at_gl_0, o_St_addGap_at_gl_1, o_St_addGap_at_gl_2]) 0 200 (List.forall_mem_cons.mpr ⟨oo_St_addGap_at_gl_0, List.forall_mem_cons.mpr ⟨oo_St_addGap_at_gl_1, List.forall_mem_cons.mpr ⟨oo_St_addGap_at_gl_2, List.forall_mem_nil _⟩⟩⟩) (by decide +kernel) ⟨List.forall_mem_nil _, List.forall_mem_nil _, List.forall_mem_cons.mpr ⟨cl_virtual (y := y_St_addArc_at_gl) (ci := 10) rfl rfl ⟨_, _, rfl⟩ (by decide +kernel) h_St_addArc_at_gl wm_1333 wm_19 wm_1330 wm_1332 wv_4_11 ⟨by decide, by decide, by decide +kernel⟩ (by decide), List.forall_mem_cons.mpr ⟨cl_virtual (y := y_St_addArc_at_gl) (ci := 10) rfl rfl ⟨_, _, rfl⟩ (by decide +kernel) h_St_addArc_at_gl wm_1333 wm_19 wm_1330 wm_1332 wv_4_11 ⟨by decide, by decide, by decide +kernel⟩ (by decide), List.forall_mem_nil _⟩⟩, List.forall_mem_cons.mpr ⟨kx_St_0_44, List.forall_mem_nil _⟩, List.forall_mem_nil _, GG_pl⟩ (by decide +kernel)

set_option maxHeartbeats 4000000 in
theorem vc_St_addPiece_at_gl_0_2 (x1 : Int) (x2 : Int) (x3 : Int) (x6 : Int) (x7 : Int) (from_0 : Int → Int) (to_0 : Int → Int) (room_0 : Int → Int) (gain_0 : Int → Int) (tail_0o4 : Int → Int) (head_0o4 : Int → Int) (weight_0o4 : Int → Int) (turned_0o5 : Int → Int) (arcs_0 : Int) (gu : Int) (k1 : 0 ≤ x1 ∧ x1 ≤ 23) (k2 : 0 ≤ x2 ∧ x2 ≤ 23) (k3 : 0 ≤ x3 ∧ x3 ≤ 9) (k6 : 0 ≤ x6 ∧ x6 ≤ 384) (k7 : 0 ≤ x7 ∧ x7 ≤ 0) (f0 : AP (arcs_0) (from_0) (to_0) (room_0) (gain_0) (tail_0o4) (head_0o4) (weight_0o4) (turned_0o5) (x6)) (f1 : APQ (tail_0o4) (head_0o4) (weight_0o4) (turned_0o5) (x6) (x1) (x2) (x3)) (f2 : x6 ≤ 191) (hK_0_2 : ∀ j : Int, 0 ≤ j → j < 384 → 0 ≤ from_0 j ∧ from_0 j ≤ 71) (hK_0_3 : ∀ j : Int, 0 ≤ j → j < 384 → 0 ≤ to_0 j ∧ to_0 j ≤ 71) (hK_0_4 : ∀ j : Int, 0 ≤ j → j < 384 → (-2147483648) ≤ room_0 j ∧ room_0 j ≤ 2147483647) (hK_0_5 : ∀ j : Int, 0 ≤ j → j < 384 → (-20) ≤ gain_0 j ∧ gain_0 j ≤ 20) (hK_4_7 : ∀ j : Int, 0 ≤ j → j < 48 → 0 ≤ tail_0o4 j ∧ tail_0o4 j ≤ 23) (hK_4_8 : ∀ j : Int, 0 ≤ j → j < 48 → 0 ≤ head_0o4 j ∧ head_0o4 j ≤ 23) (hK_4_9 : ∀ j : Int, 0 ≤ j → j < 48 → 0 ≤ weight_0o4 j ∧ weight_0o4 j ≤ 9) (hK_5_9 : ∀ j : Int, 0 ≤ j → j < 48 → 0 ≤ turned_0o5 j ∧ turned_0o5 j ≤ 1) (kz_0_1 : 0 ≤ arcs_0 ∧ arcs_0 ≤ 384) (eu2 : gu = arcs_0) (eu3 : 0 ≤ gu ∧ gu ≤ 384) : AP (arcs_0) (from_0) (to_0) (room_0) (gain_0) (tail_0o4) (head_0o4) (weight_0o4) (turned_0o5) (gu) := by
  first
    | (have q := (‹AP _ _ _ _ _ _ _ _ _ _›); rw [show gu = x6 by (have := q.1; omega)]; exact q)
    | (have q := (‹APA _ _ _ _ _ _ _ _ _ _›); rw [show gu = x10 + 1 by (have := q.1; omega)]; exact q)
  
set_option maxHeartbeats 4000000 in
theorem vc_St_addPiece_at_gl_0_3 (x1 : Int) (x2 : Int) (x3 : Int) (x6 : Int) (x7 : Int) (from_0 : Int → Int) (to_0 : Int → Int) (room_0 : Int → Int) (gain_0 : Int → Int) (tail_0o4 : Int → Int) (head_0o4 : Int → Int) (weight_0o4 : Int → Int) (turned_0o5 : Int → Int) (arcs_0 : Int) (gu : Int) (k1 : 0 ≤ x1 ∧ x1 ≤ 23) (k2 : 0 ≤ x2 ∧ x2 ≤ 23) (k3 : 0 ≤ x3 ∧ x3 ≤ 9) (k6 : 0 ≤ x6 ∧ x6 ≤ 384) (k7 : 0 ≤ x7 ∧ x7 ≤ 0) (f0 : AP (arcs_0) (from_0) (to_0) (room_0) (gain_0) (tail_0o4) (head_0o4) (weight_0o4) (turned_0o5) (x6)) (f1 : APQ (tail_0o4) (head_0o4) (weight_0o4) (turned_0o5) (x6) (x1) (x2) (x3)) (f2 : x6 ≤ 191) (hK_0_2 : ∀ j : Int, 0 ≤ j → j < 384 → 0 ≤ from_0 j ∧ from_0 j ≤ 71) (hK_0_3 : ∀ j : Int, 0 ≤ j → j < 384 → 0 ≤ to_0 j ∧ to_0 j ≤ 71) (hK_0_4 : ∀ j : Int, 0 ≤ j → j < 384 → (-2147483648) ≤ room_0 j ∧ room_0 j ≤ 2147483647) (hK_0_5 : ∀ j : Int, 0 ≤ j → j < 384 → (-20) ≤ gain_0 j ∧ gain_0 j ≤ 20) (hK_4_7 : ∀ j : Int, 0 ≤ j → j < 48 → 0 ≤ tail_0o4 j ∧ tail_0o4 j ≤ 23) (hK_4_8 : ∀ j : Int, 0 ≤ j → j < 48 → 0 ≤ head_0o4 j ∧ head_0o4 j ≤ 23) (hK_4_9 : ∀ j : Int, 0 ≤ j → j < 48 → 0 ≤ weight_0o4 j ∧ weight_0o4 j ≤ 9) (hK_5_9 : ∀ j : Int, 0 ≤ j → j < 48 → 0 ≤ turned_0o5 j ∧ turned_0o5 j ≤ 1) (kz_0_1 : 0 ≤ arcs_0 ∧ arcs_0 ≤ 384) (eu2 : gu = arcs_0) (eu3 : 0 ≤ gu ∧ gu ≤ 384) : APX (tail_0o4) (head_0o4) (weight_0o4) (turned_0o5) (gu) (x1) (x2) (x3) (x7) := by
  first
    | (have q := (‹AP _ _ _ _ _ _ _ _ _ _›).1; exact apn_q0 ‹APQ _ _ _ _ _ _ _ _› (by omega) (by omega))
    | (have q := (‹APA _ _ _ _ _ _ _ _ _ _›).1; exact apn_q1 ‹APQ _ _ _ _ _ _ _ _› (by omega) (by omega))
  
set_option maxHeartbeats 4000000 in
theorem vc_St_addPiece_at_gl_0_4 (x1 : Int) (x2 : Int) (x3 : Int) (x6 : Int) (x7 : Int) (from_0 : Int → Int) (to_0 : Int → Int) (room_0 : Int → Int) (gain_0 : Int → Int) (tail_0o4 : Int → Int) (head_0o4 : Int → Int) (weight_0o4 : Int → Int) (turned_0o5 : Int → Int) (arcs_0 : Int) (gu : Int) (k1 : 0 ≤ x1 ∧ x1 ≤ 23) (k2 : 0 ≤ x2 ∧ x2 ≤ 23) (k3 : 0 ≤ x3 ∧ x3 ≤ 9) (k6 : 0 ≤ x6 ∧ x6 ≤ 384) (k7 : 0 ≤ x7 ∧ x7 ≤ 0) (f0 : AP (arcs_0) (from_0) (to_0) (room_0) (gain_0) (tail_0o4) (head_0o4) (weight_0o4) (turned_0o5) (x6)) (f1 : APQ (tail_0o4) (head_0o4) (weight_0o4) (turned_0o5) (x6) (x1) (x2) (x3)) (f2 : x6 ≤ 191) (hK_0_2 : ∀ j : Int, 0 ≤ j → j < 384 → 0 ≤ from_0 j ∧ from_0 j ≤ 71) (hK_0_3 : ∀ j : Int, 0 ≤ j → j < 384 → 0 ≤ to_0 j ∧ to_0 j ≤ 71) (hK_0_4 : ∀ j : Int, 0 ≤ j → j < 384 → (-2147483648) ≤ room_0 j ∧ room_0 j ≤ 2147483647) (hK_0_5 : ∀ j : Int, 0 ≤ j → j < 384 → (-20) ≤ gain_0 j ∧ gain_0 j ≤ 20) (hK_4_7 : ∀ j : Int, 0 ≤ j → j < 48 → 0 ≤ tail_0o4 j ∧ tail_0o4 j ≤ 23) (hK_4_8 : ∀ j : Int, 0 ≤ j → j < 48 → 0 ≤ head_0o4 j ∧ head_0o4 j ≤ 23) (hK_4_9 : ∀ j : Int, 0 ≤ j → j < 48 → 0 ≤ weight_0o4 j ∧ weight_0o4 j ≤ 9) (hK_5_9 : ∀ j : Int, 0 ≤ j → j < 48 → 0 ≤ turned_0o5 j ∧ turned_0o5 j ≤ 1) (kz_0_1 : 0 ≤ arcs_0 ∧ arcs_0 ≤ 384) (eu2 : gu = arcs_0) (eu3 : 0 ≤ gu ∧ gu ≤ 384) : gu ≤ 191 := by
  first
    | omega
    | (have q := (‹AP _ _ _ _ _ _ _ _ _ _›).1; have q2 := (‹APQ _ _ _ _ _ _ _ _›).1; omega)
    | (have q := (‹APA _ _ _ _ _ _ _ _ _ _›).1; have q2 := (‹APQ _ _ _ _ _ _ _ _›).1; omega)
  
set_option maxHeartbeats 4000000 in
theorem vc_St_addPiece_at_gl_0_5 (x1 : Int) (x2 : Int) (x3 : Int) (x6 : Int) (x7 : Int) (from_0 : Int → Int) (to_0 : Int → Int) (room_0 : Int → Int) (gain_0 : Int → Int) (tail_0o4 : Int → Int) (head_0o4 : Int → Int) (weight_0o4 : Int → Int) (turned_0o5 : Int → Int) (arcs_0 : Int) (gu : Int) (k1 : 0 ≤ x1 ∧ x1 ≤ 23) (k2 : 0 ≤ x2 ∧ x2 ≤ 23) (k3 : 0 ≤ x3 ∧ x3 ≤ 9) (k6 : 0 ≤ x6 ∧ x6 ≤ 384) (k7 : 0 ≤ x7 ∧ x7 ≤ 0) (f0 : AP (arcs_0) (from_0) (to_0) (room_0) (gain_0) (tail_0o4) (head_0o4) (weight_0o4) (turned_0o5) (x6)) (f1 : APQ (tail_0o4) (head_0o4) (weight_0o4) (turned_0o5) (x6) (x1) (x2) (x3)) (f2 : x6 ≤ 191) (hK_0_2 : ∀ j : Int, 0 ≤ j → j < 384 → 0 ≤ from_0 j ∧ from_0 j ≤ 71) (hK_0_3 : ∀ j : Int, 0 ≤ j → j < 384 → 0 ≤ to_0 j ∧ to_0 j ≤ 71) (hK_0_4 : ∀ j : Int, 0 ≤ j → j < 384 → (-2147483648) ≤ room_0 j ∧ room_0 j ≤ 2147483647) (hK_0_5 : ∀ j : Int, 0 ≤ j → j < 384 → (-20) ≤ gain_0 j ∧ gain_0 j ≤ 20) (hK_4_7 : ∀ j : Int, 0 ≤ j → j < 48 → 0 ≤ tail_0o4 j ∧ tail_0o4 j ≤ 23) (hK_4_8 : ∀ j : Int, 0 ≤ j → j < 48 → 0 ≤ head_0o4 j ∧ head_0o4 j ≤ 23) (hK_4_9 : ∀ j : Int, 0 ≤ j → j < 48 → 0 ≤ weight_0o4 j ∧ weight_0o4 j ≤ 9) (hK_5_9 : ∀ j : Int, 0 ≤ j → j < 48 → 0 ≤ turned_0o5 j ∧ turned_0o5 j ≤ 1) (kz_0_1 : 0 ≤ arcs_0 ∧ arcs_0 ≤ 384) (eu2 : gu = arcs_0) (eu3 : 0 ≤ gu ∧ gu ≤ 384) : gu = x6 := by
  first
    | omega
    | (have q := (‹AP _ _ _ _ _ _ _ _ _ _›).1; have q2 := (‹APQ _ _ _ _ _ _ _ _›).1; omega)
    | (have q := (‹APA _ _ _ _ _ _ _ _ _ _›).1; have q2 := (‹APQ _ _ _ _ _ _ _ _›).1; omega)
  
def o_St_addPiece_at_gl_0 : or_T := (5, 8, [(0, (2, 0, 0, [10])), (1, (0, 0, 23, [])), (2, (0, 0, 23, [])), (3, (0, 0, 9, [])), (4, (2, 0, 0, [3])), (5, (2, 0, 0, [2])), (6, (0, 0, 384, [])), (7, (0, 0, 0, []))], [(20, [0, 4, 5, 6], [60, 1, 8, 651, 1, 2, 3, 4, 5, 1007, 1008, 1009, 2009]), (20, [4, 5, 6, 1, 2, 3], [60, 0, 4, 656, 7, 8, 9, 1009]), (20, [6], [50, 0, 0, 0, 2, 1, 0, 0, 191])], [], [(2, 0, 0, [3]), (2, 0, 0, [2]), (0, 0, 384, [])], [(24, [4, 8], []), (24, [5, 9], []), (20, [0, 8, 9, 10], [60, 1, 8, 651, 1, 2, 3, 4, 5, 1007, 1008, 1009, 2009]), (20, [8, 9, 10, 1, 2, 3, 7], [60, 0, 4, 655, 7, 8, 9, 1009]), (20, [10], [50, 0, 0, 0, 2, 1, 0, 0, 191]), (20, [10, 6], [50, 0, 0, 1, 2, 1, 0, 1, 1])], [], [])
theorem oo_St_addPiece_at_gl_0 {kA : Nat → ClassId} : or_ok PRD kA GG o_St_addPiece_at_gl_0 := by
  refine or_mk fun A ta ws vs hD hth hl => ?_
  intro t0 r0 t1 k1 t2 k2 t3 k3 t4 r4 t5 r5 t6 k6 t7 k7 f0 f1 f2
  replace f0 := shm_474 f0
  replace f1 := shm_921 f1
  replace f2 := shm_476 f2
  have cr_0_2 := fdq_108 hD hth r0
  have cr_0_3 := fdq_109 hD hth r0
  have cr_0_4 := fdq_110 hD hth r0
  have cr_0_5 := fdq_111 hD hth r0
  have cr_4_7 := fdq_46 hD hth r4
  have cr_4_8 := fdq_47 hD hth r4
  have cr_4_9 := fdq_112 hD hth r4
  have cr_5_9 := fdq_76 hD hth r5
  have hK_0_2 := elq_53 hD hth cr_0_2
  have hK_0_3 := elq_54 hD hth cr_0_3
  have hK_0_4 := elq_55 hD hth cr_0_4
  have hK_0_5 := elq_56 hD hth cr_0_5
  have hK_4_7 := elq_11 hD hth cr_4_7
  have hK_4_8 := elq_12 hD hth cr_4_8
  have hK_4_9 := elq_57 hD hth cr_4_9
  have hK_5_9 := elq_38 hD hth cr_5_9
  have kz_0_1 := fdq_113 hD hth r0
  obtain ⟨u, eu, hu⟩ := iv_ex (ta := ta) (lo := 0) (hi := 384) (z := w_fi ws (n_v vs 0) 1) (by omega) (by omega) (by omega) (by omega)
  have eu2 : v_iv (Value.int u) = w_fi ws (n_v vs 0) 1 := eu
  have eu3 : 0 ≤ v_iv (Value.int u) ∧ v_iv (Value.int u) ≤ 384 := tv_rng hu
  have e_0 : n_v (vs ++ [n_v vs 4, n_v vs 5, Value.int u]) 0 = n_v vs 0 := n_v_old (by rw [hl]; decide)
  have e_1 : n_v (vs ++ [n_v vs 4, n_v vs 5, Value.int u]) 1 = n_v vs 1 := n_v_old (by rw [hl]; decide)
  have e_2 : n_v (vs ++ [n_v vs 4, n_v vs 5, Value.int u]) 2 = n_v vs 2 := n_v_old (by rw [hl]; decide)
  have e_3 : n_v (vs ++ [n_v vs 4, n_v vs 5, Value.int u]) 3 = n_v vs 3 := n_v_old (by rw [hl]; decide)
  have e_4 : n_v (vs ++ [n_v vs 4, n_v vs 5, Value.int u]) 4 = n_v vs 4 := n_v_old (by rw [hl]; decide)
  have e_5 : n_v (vs ++ [n_v vs 4, n_v vs 5, Value.int u]) 5 = n_v vs 5 := n_v_old (by rw [hl]; decide)
  have e_6 : n_v (vs ++ [n_v vs 4, n_v vs 5, Value.int u]) 6 = n_v vs 6 := n_v_old (by rw [hl]; decide)
  have e_7 : n_v (vs ++ [n_v vs 4, n_v vs 5, Value.int u]) 7 = n_v vs 7 := n_v_old (by rw [hl]; decide)
  have e_8 : n_v (vs ++ [n_v vs 4, n_v vs 5, Value.int u]) 8 = n_v vs 4 := n_v_newk (k := 0) hl rfl
  have e_9 : n_v (vs ++ [n_v vs 4, n_v vs 5, Value.int u]) 9 = n_v vs 5 := n_v_newk (k := 1) hl rfl
  have e_10 : n_v (vs ++ [n_v vs 4, n_v vs 5, Value.int u]) 10 = Value.int u := n_v_newk (k := 2) hl rfl
  have nf0 : fc_1 PRD (24, [4, 8], []) ws (vs ++ [n_v vs 4, n_v vs 5, Value.int u]) := by
    refine ⟨nf_inA hl rfl, sgq_5 ?_⟩
    · show n_v (vs ++ [n_v vs 4, n_v vs 5, Value.int u]) 4 = n_v (vs ++ [n_v vs 4, n_v vs 5, Value.int u]) 8
      first | rfl | simp only [e_4, e_8]
  have nf1 : fc_1 PRD (24, [5, 9], []) ws (vs ++ [n_v vs 4, n_v vs 5, Value.int u]) := by
    refine ⟨nf_inA hl rfl, sgq_5 ?_⟩
    · show n_v (vs ++ [n_v vs 4, n_v vs 5, Value.int u]) 5 = n_v (vs ++ [n_v vs 4, n_v vs 5, Value.int u]) 9
      first | rfl | simp only [e_5, e_9]
  have nf2 : fc_1 PRD (20, [0, 8, 9, 10], [60, 1, 8, 651, 1, 2, 3, 4, 5, 1007, 1008, 1009, 2009]) ws (vs ++ [n_v vs 4, n_v vs 5, Value.int u]) := by
    refine ⟨nf_inA hl rfl, sgq_474 ?_⟩
    · show AP (w_fi ws (n_v (vs ++ [n_v vs 4, n_v vs 5, Value.int u]) 0) 1) (w_ei ws (w_ar ws (n_v (vs ++ [n_v vs 4, n_v vs 5, Value.int u]) 0) 2)) (w_ei ws (w_ar ws (n_v (vs ++ [n_v vs 4, n_v vs 5, Value.int u]) 0) 3)) (w_ei ws (w_ar ws (n_v (vs ++ [n_v vs 4, n_v vs 5, Value.int u]) 0) 4)) (w_ei ws (w_ar ws (n_v (vs ++ [n_v vs 4, n_v vs 5, Value.int u]) 0) 5)) (w_ei ws (w_ar ws (n_v (vs ++ [n_v vs 4, n_v vs 5, Value.int u]) 8) 7)) (w_ei ws (w_ar ws (n_v (vs ++ [n_v vs 4, n_v vs 5, Value.int u]) 8) 8)) (w_ei ws (w_ar ws (n_v (vs ++ [n_v vs 4, n_v vs 5, Value.int u]) 8) 9)) (w_ei ws (w_ar ws (n_v (vs ++ [n_v vs 4, n_v vs 5, Value.int u]) 9) 9)) (v_iv (n_v (vs ++ [n_v vs 4, n_v vs 5, Value.int u]) 10))
      simp only [e_0, e_8, e_9, e_10]
      exact vc_St_addPiece_at_gl_0_2 (v_iv (n_v vs 1)) (v_iv (n_v vs 2)) (v_iv (n_v vs 3)) (v_iv (n_v vs 6)) (v_iv (n_v vs 7)) (w_ei ws (w_ar ws (n_v vs 0) 2)) (w_ei ws (w_ar ws (n_v vs 0) 3)) (w_ei ws (w_ar ws (n_v vs 0) 4)) (w_ei ws (w_ar ws (n_v vs 0) 5)) (w_ei ws (w_ar ws (n_v vs 4) 7)) (w_ei ws (w_ar ws (n_v vs 4) 8)) (w_ei ws (w_ar ws (n_v vs 4) 9)) (w_ei ws (w_ar ws (n_v vs 5) 9)) (w_fi ws (n_v vs 0) 1) (v_iv (Value.int u)) k1 k2 k3 k6 k7 f0 f1 f2 hK_0_2 hK_0_3 hK_0_4 hK_0_5 hK_4_7 hK_4_8 hK_4_9 hK_5_9 kz_0_1 eu2 eu3
  have nf3 : fc_1 PRD (20, [8, 9, 10, 1, 2, 3, 7], [60, 0, 4, 655, 7, 8, 9, 1009]) ws (vs ++ [n_v vs 4, n_v vs 5, Value.int u]) := by
    refine ⟨nf_inA hl rfl, sgq_475 ?_⟩
    · show APX (w_ei ws (w_ar ws (n_v (vs ++ [n_v vs 4, n_v vs 5, Value.int u]) 8) 7)) (w_ei ws (w_ar ws (n_v (vs ++ [n_v vs 4, n_v vs 5, Value.int u]) 8) 8)) (w_ei ws (w_ar ws (n_v (vs ++ [n_v vs 4, n_v vs 5, Value.int u]) 8) 9)) (w_ei ws (w_ar ws (n_v (vs ++ [n_v vs 4, n_v vs 5, Value.int u]) 9) 9)) (v_iv (n_v (vs ++ [n_v vs 4, n_v vs 5, Value.int u]) 10)) (v_iv (n_v (vs ++ [n_v vs 4, n_v vs 5, Value.int u]) 1)) (v_iv (n_v (vs ++ [n_v vs 4, n_v vs 5, Value.int u]) 2)) (v_iv (n_v (vs ++ [n_v vs 4, n_v vs 5, Value.int u]) 3)) (v_iv (n_v (vs ++ [n_v vs 4, n_v vs 5, Value.int u]) 7))
      simp only [e_1, e_2, e_3, e_7, e_8, e_9, e_10]
      exact vc_St_addPiece_at_gl_0_3 (v_iv (n_v vs 1)) (v_iv (n_v vs 2)) (v_iv (n_v vs 3)) (v_iv (n_v vs 6)) (v_iv (n_v vs 7)) (w_ei ws (w_ar ws (n_v vs 0) 2)) (w_ei ws (w_ar ws (n_v vs 0) 3)) (w_ei ws (w_ar ws (n_v vs 0) 4)) (w_ei ws (w_ar ws (n_v vs 0) 5)) (w_ei ws (w_ar ws (n_v vs 4) 7)) (w_ei ws (w_ar ws (n_v vs 4) 8)) (w_ei ws (w_ar ws (n_v vs 4) 9)) (w_ei ws (w_ar ws (n_v vs 5) 9)) (w_fi ws (n_v vs 0) 1) (v_iv (Value.int u)) k1 k2 k3 k6 k7 f0 f1 f2 hK_0_2 hK_0_3 hK_0_4 hK_0_5 hK_4_7 hK_4_8 hK_4_9 hK_5_9 kz_0_1 eu2 eu3
  have nf4 : fc_1 PRD (20, [10], [50, 0, 0, 0, 2, 1, 0, 0, 191]) ws (vs ++ [n_v vs 4, n_v vs 5, Value.int u]) := by
    refine ⟨nf_inA hl rfl, sgq_476 ?_⟩
    · show v_iv (n_v (vs ++ [n_v vs 4, n_v vs 5, Value.int u]) 10) ≤ 191
      rw [e_10]
      exact vc_St_addPiece_at_gl_0_4 (v_iv (n_v vs 1)) (v_iv (n_v vs 2)) (v_iv (n_v vs 3)) (v_iv (n_v vs 6)) (v_iv (n_v vs 7)) (w_ei ws (w_ar ws (n_v vs 0) 2)) (w_ei ws (w_ar ws (n_v vs 0) 3)) (w_ei ws (w_ar ws (n_v vs 0) 4)) (w_ei ws (w_ar ws (n_v vs 0) 5)) (w_ei ws (w_ar ws (n_v vs 4) 7)) (w_ei ws (w_ar ws (n_v vs 4) 8)) (w_ei ws (w_ar ws (n_v vs 4) 9)) (w_ei ws (w_ar ws (n_v vs 5) 9)) (w_fi ws (n_v vs 0) 1) (v_iv (Value.int u)) k1 k2 k3 k6 k7 f0 f1 f2 hK_0_2 hK_0_3 hK_0_4 hK_0_5 hK_4_7 hK_4_8 hK_4_9 hK_5_9 kz_0_1 eu2 eu3
  have nf5 : fc_1 PRD (20, [10, 6], [50, 0, 0, 1, 2, 1, 0, 1, 1]) ws (vs ++ [n_v vs 4, n_v vs 5, Value.int u]) := by
    refine ⟨nf_inA hl rfl, sgq_48 ?_⟩
    · show v_iv (n_v (vs ++ [n_v vs 4, n_v vs 5, Value.int u]) 10) = v_iv (n_v (vs ++ [n_v vs 4, n_v vs 5, Value.int u]) 6)
      simp only [e_6, e_10]
      exact vc_St_addPiece_at_gl_0_5 (v_iv (n_v vs 1)) (v_iv (n_v vs 2)) (v_iv (n_v vs 3)) (v_iv (n_v vs 6)) (v_iv (n_v vs 7)) (w_ei ws (w_ar ws (n_v vs 0) 2)) (w_ei ws (w_ar ws (n_v vs 0) 3)) (w_ei ws (w_ar ws (n_v vs 0) 4)) (w_ei ws (w_ar ws (n_v vs 0) 5)) (w_ei ws (w_ar ws (n_v vs 4) 7)) (w_ei ws (w_ar ws (n_v vs 4) 8)) (w_ei ws (w_ar ws (n_v vs 4) 9)) (w_ei ws (w_ar ws (n_v vs 5) 9)) (w_fi ws (n_v vs 0) 1) (v_iv (Value.int u)) k1 k2 k3 k6 k7 f0 f1 f2 hK_0_2 hK_0_3 hK_0_4 hK_0_5 hK_4_7 hK_4_8 hK_4_9 hK_5_9 kz_0_1 eu2 eu3
  exact ⟨(fun _ h => (by cases h)), [n_v vs 4, n_v vs 5, Value.int u], ag_three t4 t5 hu, List.forall_mem_cons.mpr ⟨⟨show (24 : Nat) < 100 from by decide, nf0⟩, List.forall_mem_cons.mpr ⟨⟨show (24 : Nat) < 100 from by decide, nf1⟩, List.forall_mem_cons.mpr ⟨⟨show (20 : Nat) < 100 from by decide, nf2⟩, List.forall_mem_cons.mpr ⟨⟨show (20 : Nat) < 100 from by decide, nf3⟩, List.forall_mem_cons.mpr ⟨⟨show (20 : Nat) < 100 from by decide, nf4⟩, List.forall_mem_cons.mpr ⟨⟨show (20 : Nat) < 100 from by decide, nf5⟩, (fun _ h => (by cases h))⟩⟩⟩⟩⟩⟩, (fun _ h => (by cases h))⟩
set_option maxHeartbeats 4000000 in
theorem vc_St_addPiece_at_gl_1_2 (x1 : Int) (x2 : Int) (x3 : Int) (x6 : Int) (x7 : Int) (x10 : Int) (x11 : Int) (tail_0o4 : Int → Int) (head_0o4 : Int → Int) (weight_0o4 : Int → Int) (turned_0o5 : Int → Int) (from_0 : Int → Int) (to_0 : Int → Int) (room_0 : Int → Int) (gain_0 : Int → Int) (arcs_0 : Int) (gu : Int) (k1 : 0 ≤ x1 ∧ x1 ≤ 23) (k2 : 0 ≤ x2 ∧ x2 ≤ 23) (k3 : 0 ≤ x3 ∧ x3 ≤ 9) (k6 : 0 ≤ x6 ∧ x6 ≤ 384) (k7 : 0 ≤ x7 ∧ x7 ≤ 0) (k10 : 0 ≤ x10 ∧ x10 ≤ 384) (k11 : 0 ≤ x11 ∧ x11 ≤ 0) (f2 : APX (tail_0o4) (head_0o4) (weight_0o4) (turned_0o5) (x10) (x1) (x2) (x3) (x7)) (f3 : x10 ≤ 191) (f4 : x10 = x6) (f5 : APQ (tail_0o4) (head_0o4) (weight_0o4) (turned_0o5) (x6) (x1) (x2) (x3)) (f6 : x6 ≤ 191) (f7 : APA (arcs_0) (from_0) (to_0) (room_0) (gain_0) (tail_0o4) (head_0o4) (weight_0o4) (turned_0o5) (x10)) (hK_0_2 : ∀ j : Int, 0 ≤ j → j < 384 → 0 ≤ from_0 j ∧ from_0 j ≤ 71) (hK_0_3 : ∀ j : Int, 0 ≤ j → j < 384 → 0 ≤ to_0 j ∧ to_0 j ≤ 71) (hK_0_4 : ∀ j : Int, 0 ≤ j → j < 384 → (-2147483648) ≤ room_0 j ∧ room_0 j ≤ 2147483647) (hK_0_5 : ∀ j : Int, 0 ≤ j → j < 384 → (-20) ≤ gain_0 j ∧ gain_0 j ≤ 20) (hK_4_7 : ∀ j : Int, 0 ≤ j → j < 48 → 0 ≤ tail_0o4 j ∧ tail_0o4 j ≤ 23) (hK_4_8 : ∀ j : Int, 0 ≤ j → j < 48 → 0 ≤ head_0o4 j ∧ head_0o4 j ≤ 23) (hK_4_9 : ∀ j : Int, 0 ≤ j → j < 48 → 0 ≤ weight_0o4 j ∧ weight_0o4 j ≤ 9) (hK_5_9 : ∀ j : Int, 0 ≤ j → j < 48 → 0 ≤ turned_0o5 j ∧ turned_0o5 j ≤ 1) (kz_0_1 : 0 ≤ arcs_0 ∧ arcs_0 ≤ 384) (eu2 : gu = arcs_0) (eu3 : 0 ≤ gu ∧ gu ≤ 384) : AP (arcs_0) (from_0) (to_0) (room_0) (gain_0) (tail_0o4) (head_0o4) (weight_0o4) (turned_0o5) (gu) := by
  first
    | (have q := (‹AP _ _ _ _ _ _ _ _ _ _›); rw [show gu = x6 by (have := q.1; omega)]; exact q)
    | (have q := (‹APA _ _ _ _ _ _ _ _ _ _›); rw [show gu = x10 + 1 by (have := q.1; omega)]; exact q)
  
set_option maxHeartbeats 4000000 in
theorem vc_St_addPiece_at_gl_1_3 (x1 : Int) (x2 : Int) (x3 : Int) (x6 : Int) (x7 : Int) (x10 : Int) (x11 : Int) (tail_0o4 : Int → Int) (head_0o4 : Int → Int) (weight_0o4 : Int → Int) (turned_0o5 : Int → Int) (from_0 : Int → Int) (to_0 : Int → Int) (room_0 : Int → Int) (gain_0 : Int → Int) (arcs_0 : Int) (gu : Int) (k1 : 0 ≤ x1 ∧ x1 ≤ 23) (k2 : 0 ≤ x2 ∧ x2 ≤ 23) (k3 : 0 ≤ x3 ∧ x3 ≤ 9) (k6 : 0 ≤ x6 ∧ x6 ≤ 384) (k7 : 0 ≤ x7 ∧ x7 ≤ 0) (k10 : 0 ≤ x10 ∧ x10 ≤ 384) (k11 : 0 ≤ x11 ∧ x11 ≤ 0) (f2 : APX (tail_0o4) (head_0o4) (weight_0o4) (turned_0o5) (x10) (x1) (x2) (x3) (x7)) (f3 : x10 ≤ 191) (f4 : x10 = x6) (f5 : APQ (tail_0o4) (head_0o4) (weight_0o4) (turned_0o5) (x6) (x1) (x2) (x3)) (f6 : x6 ≤ 191) (f7 : APA (arcs_0) (from_0) (to_0) (room_0) (gain_0) (tail_0o4) (head_0o4) (weight_0o4) (turned_0o5) (x10)) (hK_0_2 : ∀ j : Int, 0 ≤ j → j < 384 → 0 ≤ from_0 j ∧ from_0 j ≤ 71) (hK_0_3 : ∀ j : Int, 0 ≤ j → j < 384 → 0 ≤ to_0 j ∧ to_0 j ≤ 71) (hK_0_4 : ∀ j : Int, 0 ≤ j → j < 384 → (-2147483648) ≤ room_0 j ∧ room_0 j ≤ 2147483647) (hK_0_5 : ∀ j : Int, 0 ≤ j → j < 384 → (-20) ≤ gain_0 j ∧ gain_0 j ≤ 20) (hK_4_7 : ∀ j : Int, 0 ≤ j → j < 48 → 0 ≤ tail_0o4 j ∧ tail_0o4 j ≤ 23) (hK_4_8 : ∀ j : Int, 0 ≤ j → j < 48 → 0 ≤ head_0o4 j ∧ head_0o4 j ≤ 23) (hK_4_9 : ∀ j : Int, 0 ≤ j → j < 48 → 0 ≤ weight_0o4 j ∧ weight_0o4 j ≤ 9) (hK_5_9 : ∀ j : Int, 0 ≤ j → j < 48 → 0 ≤ turned_0o5 j ∧ turned_0o5 j ≤ 1) (kz_0_1 : 0 ≤ arcs_0 ∧ arcs_0 ≤ 384) (eu2 : gu = arcs_0) (eu3 : 0 ≤ gu ∧ gu ≤ 384) : APX (tail_0o4) (head_0o4) (weight_0o4) (turned_0o5) (gu) (x2) (x1) (x3) (x11) := by
  first
    | (have q := (‹AP _ _ _ _ _ _ _ _ _ _›).1; exact apn_q0 ‹APQ _ _ _ _ _ _ _ _› (by omega) (by omega))
    | (have q := (‹APA _ _ _ _ _ _ _ _ _ _›).1; exact apn_q1 ‹APQ _ _ _ _ _ _ _ _› (by omega) (by omega))
  
set_option maxHeartbeats 4000000 in
theorem vc_St_addPiece_at_gl_1_4 (x1 : Int) (x2 : Int) (x3 : Int) (x6 : Int) (x7 : Int) (x10 : Int) (x11 : Int) (tail_0o4 : Int → Int) (head_0o4 : Int → Int) (weight_0o4 : Int → Int) (turned_0o5 : Int → Int) (from_0 : Int → Int) (to_0 : Int → Int) (room_0 : Int → Int) (gain_0 : Int → Int) (arcs_0 : Int) (gu : Int) (k1 : 0 ≤ x1 ∧ x1 ≤ 23) (k2 : 0 ≤ x2 ∧ x2 ≤ 23) (k3 : 0 ≤ x3 ∧ x3 ≤ 9) (k6 : 0 ≤ x6 ∧ x6 ≤ 384) (k7 : 0 ≤ x7 ∧ x7 ≤ 0) (k10 : 0 ≤ x10 ∧ x10 ≤ 384) (k11 : 0 ≤ x11 ∧ x11 ≤ 0) (f2 : APX (tail_0o4) (head_0o4) (weight_0o4) (turned_0o5) (x10) (x1) (x2) (x3) (x7)) (f3 : x10 ≤ 191) (f4 : x10 = x6) (f5 : APQ (tail_0o4) (head_0o4) (weight_0o4) (turned_0o5) (x6) (x1) (x2) (x3)) (f6 : x6 ≤ 191) (f7 : APA (arcs_0) (from_0) (to_0) (room_0) (gain_0) (tail_0o4) (head_0o4) (weight_0o4) (turned_0o5) (x10)) (hK_0_2 : ∀ j : Int, 0 ≤ j → j < 384 → 0 ≤ from_0 j ∧ from_0 j ≤ 71) (hK_0_3 : ∀ j : Int, 0 ≤ j → j < 384 → 0 ≤ to_0 j ∧ to_0 j ≤ 71) (hK_0_4 : ∀ j : Int, 0 ≤ j → j < 384 → (-2147483648) ≤ room_0 j ∧ room_0 j ≤ 2147483647) (hK_0_5 : ∀ j : Int, 0 ≤ j → j < 384 → (-20) ≤ gain_0 j ∧ gain_0 j ≤ 20) (hK_4_7 : ∀ j : Int, 0 ≤ j → j < 48 → 0 ≤ tail_0o4 j ∧ tail_0o4 j ≤ 23) (hK_4_8 : ∀ j : Int, 0 ≤ j → j < 48 → 0 ≤ head_0o4 j ∧ head_0o4 j ≤ 23) (hK_4_9 : ∀ j : Int, 0 ≤ j → j < 48 → 0 ≤ weight_0o4 j ∧ weight_0o4 j ≤ 9) (hK_5_9 : ∀ j : Int, 0 ≤ j → j < 48 → 0 ≤ turned_0o5 j ∧ turned_0o5 j ≤ 1) (kz_0_1 : 0 ≤ arcs_0 ∧ arcs_0 ≤ 384) (eu2 : gu = arcs_0) (eu3 : 0 ≤ gu ∧ gu ≤ 384) : gu ≤ 191 := by
  first
    | omega
    | (have q := (‹AP _ _ _ _ _ _ _ _ _ _›).1; have q2 := (‹APQ _ _ _ _ _ _ _ _›).1; omega)
    | (have q := (‹APA _ _ _ _ _ _ _ _ _ _›).1; have q2 := (‹APQ _ _ _ _ _ _ _ _›).1; omega)
  
set_option maxHeartbeats 4000000 in
theorem vc_St_addPiece_at_gl_1_5 (x1 : Int) (x2 : Int) (x3 : Int) (x6 : Int) (x7 : Int) (x10 : Int) (x11 : Int) (tail_0o4 : Int → Int) (head_0o4 : Int → Int) (weight_0o4 : Int → Int) (turned_0o5 : Int → Int) (from_0 : Int → Int) (to_0 : Int → Int) (room_0 : Int → Int) (gain_0 : Int → Int) (arcs_0 : Int) (gu : Int) (k1 : 0 ≤ x1 ∧ x1 ≤ 23) (k2 : 0 ≤ x2 ∧ x2 ≤ 23) (k3 : 0 ≤ x3 ∧ x3 ≤ 9) (k6 : 0 ≤ x6 ∧ x6 ≤ 384) (k7 : 0 ≤ x7 ∧ x7 ≤ 0) (k10 : 0 ≤ x10 ∧ x10 ≤ 384) (k11 : 0 ≤ x11 ∧ x11 ≤ 0) (f2 : APX (tail_0o4) (head_0o4) (weight_0o4) (turned_0o5) (x10) (x1) (x2) (x3) (x7)) (f3 : x10 ≤ 191) (f4 : x10 = x6) (f5 : APQ (tail_0o4) (head_0o4) (weight_0o4) (turned_0o5) (x6) (x1) (x2) (x3)) (f6 : x6 ≤ 191) (f7 : APA (arcs_0) (from_0) (to_0) (room_0) (gain_0) (tail_0o4) (head_0o4) (weight_0o4) (turned_0o5) (x10)) (hK_0_2 : ∀ j : Int, 0 ≤ j → j < 384 → 0 ≤ from_0 j ∧ from_0 j ≤ 71) (hK_0_3 : ∀ j : Int, 0 ≤ j → j < 384 → 0 ≤ to_0 j ∧ to_0 j ≤ 71) (hK_0_4 : ∀ j : Int, 0 ≤ j → j < 384 → (-2147483648) ≤ room_0 j ∧ room_0 j ≤ 2147483647) (hK_0_5 : ∀ j : Int, 0 ≤ j → j < 384 → (-20) ≤ gain_0 j ∧ gain_0 j ≤ 20) (hK_4_7 : ∀ j : Int, 0 ≤ j → j < 48 → 0 ≤ tail_0o4 j ∧ tail_0o4 j ≤ 23) (hK_4_8 : ∀ j : Int, 0 ≤ j → j < 48 → 0 ≤ head_0o4 j ∧ head_0o4 j ≤ 23) (hK_4_9 : ∀ j : Int, 0 ≤ j → j < 48 → 0 ≤ weight_0o4 j ∧ weight_0o4 j ≤ 9) (hK_5_9 : ∀ j : Int, 0 ≤ j → j < 48 → 0 ≤ turned_0o5 j ∧ turned_0o5 j ≤ 1) (kz_0_1 : 0 ≤ arcs_0 ∧ arcs_0 ≤ 384) (eu2 : gu = arcs_0) (eu3 : 0 ≤ gu ∧ gu ≤ 384) : gu = (x6 + 1) := by
  first
    | omega
    | (have q := (‹AP _ _ _ _ _ _ _ _ _ _›).1; have q2 := (‹APQ _ _ _ _ _ _ _ _›).1; omega)
    | (have q := (‹APA _ _ _ _ _ _ _ _ _ _›).1; have q2 := (‹APQ _ _ _ _ _ _ _ _›).1; omega)
  
def o_St_addPiece_at_gl_1 : or_T := (13, 12, [(0, (2, 0, 0, [10])), (1, (0, 0, 23, [])), (2, (0, 0, 23, [])), (3, (0, 0, 9, [])), (4, (2, 0, 0, [3])), (5, (2, 0, 0, [2])), (6, (0, 0, 384, [])), (7, (0, 0, 0, [])), (10, (0, 0, 384, [])), (11, (0, 0, 0, []))], [(24, [4, 8], []), (24, [5, 9], []), (20, [8, 9, 10, 1, 2, 3, 7], [60, 0, 4, 655, 7, 8, 9, 1009]), (20, [10], [50, 0, 0, 0, 2, 1, 0, 0, 191]), (20, [10, 6], [50, 0, 0, 1, 2, 1, 0, 1, 1]), (20, [4, 5, 6, 1, 2, 3], [60, 0, 4, 656, 7, 8, 9, 1009]), (20, [6], [50, 0, 0, 0, 2, 1, 0, 0, 191]), (20, [0, 8, 9, 10], [60, 1, 8, 652, 1, 2, 3, 4, 5, 1007, 1008, 1009, 2009])], [], [(2, 0, 0, [3]), (2, 0, 0, [2]), (0, 0, 384, [])], [(24, [4, 12], []), (24, [5, 13], []), (20, [0, 12, 13, 14], [60, 1, 8, 651, 1, 2, 3, 4, 5, 1007, 1008, 1009, 2009]), (20, [12, 13, 14, 2, 1, 3, 11], [60, 0, 4, 655, 7, 8, 9, 1009]), (20, [14], [50, 0, 0, 0, 2, 1, 0, 0, 191]), (20, [14, 6], [50, 0, 0, 1, 2, 1, 0, 4, 2, 1, 1, 0, 1])], [], [])
theorem oo_St_addPiece_at_gl_1 {kA : Nat → ClassId} : or_ok PRD kA GG o_St_addPiece_at_gl_1 := by
  refine or_mk fun A ta ws vs hD hth hl => ?_
  intro t0 r0 t1 k1 t2 k2 t3 k3 t4 r4 t5 r5 t6 k6 t7 k7 t10 k10 t11 k11 f0 f1 f2 f3 f4 f5 f6 f7
  replace f0 := shm_5 f0
  replace f1 := shm_5 f1
  replace f2 := shm_475 f2
  replace f3 := shm_476 f3
  replace f4 := shm_48 f4
  replace f5 := shm_921 f5
  replace f6 := shm_476 f6
  replace f7 := shm_477 f7
  have q8 : n_v vs 8 = n_v vs 4 := f0.symm
  have q9 : n_v vs 9 = n_v vs 5 := f1.symm
  simp only [q8, q9] at f2 f7
  have cr_0_2 := fdq_108 hD hth r0
  have cr_0_3 := fdq_109 hD hth r0
  have cr_0_4 := fdq_110 hD hth r0
  have cr_0_5 := fdq_111 hD hth r0
  have cr_4_7 := fdq_46 hD hth r4
  have cr_4_8 := fdq_47 hD hth r4
  have cr_4_9 := fdq_112 hD hth r4
  have cr_5_9 := fdq_76 hD hth r5
  have hK_0_2 := elq_53 hD hth cr_0_2
  have hK_0_3 := elq_54 hD hth cr_0_3
  have hK_0_4 := elq_55 hD hth cr_0_4
  have hK_0_5 := elq_56 hD hth cr_0_5
  have hK_4_7 := elq_11 hD hth cr_4_7
  have hK_4_8 := elq_12 hD hth cr_4_8
  have hK_4_9 := elq_57 hD hth cr_4_9
  have hK_5_9 := elq_38 hD hth cr_5_9
  have kz_0_1 := fdq_113 hD hth r0
  obtain ⟨u, eu, hu⟩ := iv_ex (ta := ta) (lo := 0) (hi := 384) (z := w_fi ws (n_v vs 0) 1) (by omega) (by omega) (by omega) (by omega)
  have eu2 : v_iv (Value.int u) = w_fi ws (n_v vs 0) 1 := eu
  have eu3 : 0 ≤ v_iv (Value.int u) ∧ v_iv (Value.int u) ≤ 384 := tv_rng hu
  have e_0 : n_v (vs ++ [n_v vs 4, n_v vs 5, Value.int u]) 0 = n_v vs 0 := n_v_old (by rw [hl]; decide)
  have e_1 : n_v (vs ++ [n_v vs 4, n_v vs 5, Value.int u]) 1 = n_v vs 1 := n_v_old (by rw [hl]; decide)
  have e_2 : n_v (vs ++ [n_v vs 4, n_v vs 5, Value.int u]) 2 = n_v vs 2 := n_v_old (by rw [hl]; decide)
  have e_3 : n_v (vs ++ [n_v vs 4, n_v vs 5, Value.int u]) 3 = n_v vs 3 := n_v_old (by rw [hl]; decide)
  have e_4 : n_v (vs ++ [n_v vs 4, n_v vs 5, Value.int u]) 4 = n_v vs 4 := n_v_old (by rw [hl]; decide)
  have e_5 : n_v (vs ++ [n_v vs 4, n_v vs 5, Value.int u]) 5 = n_v vs 5 := n_v_old (by rw [hl]; decide)
  have e_6 : n_v (vs ++ [n_v vs 4, n_v vs 5, Value.int u]) 6 = n_v vs 6 := n_v_old (by rw [hl]; decide)
  have e_11 : n_v (vs ++ [n_v vs 4, n_v vs 5, Value.int u]) 11 = n_v vs 11 := n_v_old (by rw [hl]; decide)
  have e_12 : n_v (vs ++ [n_v vs 4, n_v vs 5, Value.int u]) 12 = n_v vs 4 := n_v_newk (k := 0) hl rfl
  have e_13 : n_v (vs ++ [n_v vs 4, n_v vs 5, Value.int u]) 13 = n_v vs 5 := n_v_newk (k := 1) hl rfl
  have e_14 : n_v (vs ++ [n_v vs 4, n_v vs 5, Value.int u]) 14 = Value.int u := n_v_newk (k := 2) hl rfl
  have nf0 : fc_1 PRD (24, [4, 12], []) ws (vs ++ [n_v vs 4, n_v vs 5, Value.int u]) := by
    refine ⟨nf_inA hl rfl, sgq_5 ?_⟩
    · show n_v (vs ++ [n_v vs 4, n_v vs 5, Value.int u]) 4 = n_v (vs ++ [n_v vs 4, n_v vs 5, Value.int u]) 12
      first | rfl | simp only [e_4, e_12, q8, q9]
  have nf1 : fc_1 PRD (24, [5, 13], []) ws (vs ++ [n_v vs 4, n_v vs 5, Value.int u]) := by
    refine ⟨nf_inA hl rfl, sgq_5 ?_⟩
    · show n_v (vs ++ [n_v vs 4, n_v vs 5, Value.int u]) 5 = n_v (vs ++ [n_v vs 4, n_v vs 5, Value.int u]) 13
      first | rfl | simp only [e_5, e_13, q8, q9]
  have nf2 : fc_1 PRD (20, [0, 12, 13, 14], [60, 1, 8, 651, 1, 2, 3, 4, 5, 1007, 1008, 1009, 2009]) ws (vs ++ [n_v vs 4, n_v vs 5, Value.int u]) := by
    refine ⟨nf_inA hl rfl, sgq_474 ?_⟩
    · show AP (w_fi ws (n_v (vs ++ [n_v vs 4, n_v vs 5, Value.int u]) 0) 1) (w_ei ws (w_ar ws (n_v (vs ++ [n_v vs 4, n_v vs 5, Value.int u]) 0) 2)) (w_ei ws (w_ar ws (n_v (vs ++ [n_v vs 4, n_v vs 5, Value.int u]) 0) 3)) (w_ei ws (w_ar ws (n_v (vs ++ [n_v vs 4, n_v vs 5, Value.int u]) 0) 4)) (w_ei ws (w_ar ws (n_v (vs ++ [n_v vs 4, n_v vs 5, Value.int u]) 0) 5)) (w_ei ws (w_ar ws (n_v (vs ++ [n_v vs 4, n_v vs 5, Value.int u]) 12) 7)) (w_ei ws (w_ar ws (n_v (vs ++ [n_v vs 4, n_v vs 5, Value.int u]) 12) 8)) (w_ei ws (w_ar ws (n_v (vs ++ [n_v vs 4, n_v vs 5, Value.int u]) 12) 9)) (w_ei ws (w_ar ws (n_v (vs ++ [n_v vs 4, n_v vs 5, Value.int u]) 13) 9)) (v_iv (n_v (vs ++ [n_v vs 4, n_v vs 5, Value.int u]) 14))
      simp only [e_0, e_12, e_13, e_14]
      exact vc_St_addPiece_at_gl_1_2 (v_iv (n_v vs 1)) (v_iv (n_v vs 2)) (v_iv (n_v vs 3)) (v_iv (n_v vs 6)) (v_iv (n_v vs 7)) (v_iv (n_v vs 10)) (v_iv (n_v vs 11)) (w_ei ws (w_ar ws (n_v vs 4) 7)) (w_ei ws (w_ar ws (n_v vs 4) 8)) (w_ei ws (w_ar ws (n_v vs 4) 9)) (w_ei ws (w_ar ws (n_v vs 5) 9)) (w_ei ws (w_ar ws (n_v vs 0) 2)) (w_ei ws (w_ar ws (n_v vs 0) 3)) (w_ei ws (w_ar ws (n_v vs 0) 4)) (w_ei ws (w_ar ws (n_v vs 0) 5)) (w_fi ws (n_v vs 0) 1) (v_iv (Value.int u)) k1 k2 k3 k6 k7 k10 k11 f2 f3 f4 f5 f6 f7 hK_0_2 hK_0_3 hK_0_4 hK_0_5 hK_4_7 hK_4_8 hK_4_9 hK_5_9 kz_0_1 eu2 eu3
  have nf3 : fc_1 PRD (20, [12, 13, 14, 2, 1, 3, 11], [60, 0, 4, 655, 7, 8, 9, 1009]) ws (vs ++ [n_v vs 4, n_v vs 5, Value.int u]) := by
    refine ⟨nf_inA hl rfl, sgq_475 ?_⟩
    · show APX (w_ei ws (w_ar ws (n_v (vs ++ [n_v vs 4, n_v vs 5, Value.int u]) 12) 7)) (w_ei ws (w_ar ws (n_v (vs ++ [n_v vs 4, n_v vs 5, Value.int u]) 12) 8)) (w_ei ws (w_ar ws (n_v (vs ++ [n_v vs 4, n_v vs 5, Value.int u]) 12) 9)) (w_ei ws (w_ar ws (n_v (vs ++ [n_v vs 4, n_v vs 5, Value.int u]) 13) 9)) (v_iv (n_v (vs ++ [n_v vs 4, n_v vs 5, Value.int u]) 14)) (v_iv (n_v (vs ++ [n_v vs 4, n_v vs 5, Value.int u]) 2)) (v_iv (n_v (vs ++ [n_v vs 4, n_v vs 5, Value.int u]) 1)) (v_iv (n_v (vs ++ [n_v vs 4, n_v vs 5, Value.int u]) 3)) (v_iv (n_v (vs ++ [n_v vs 4, n_v vs 5, Value.int u]) 11))
      simp only [e_1, e_2, e_3, e_11, e_12, e_13, e_14]
      exact vc_St_addPiece_at_gl_1_3 (v_iv (n_v vs 1)) (v_iv (n_v vs 2)) (v_iv (n_v vs 3)) (v_iv (n_v vs 6)) (v_iv (n_v vs 7)) (v_iv (n_v vs 10)) (v_iv (n_v vs 11)) (w_ei ws (w_ar ws (n_v vs 4) 7)) (w_ei ws (w_ar ws (n_v vs 4) 8)) (w_ei ws (w_ar ws (n_v vs 4) 9)) (w_ei ws (w_ar ws (n_v vs 5) 9)) (w_ei ws (w_ar ws (n_v vs 0) 2)) (w_ei ws (w_ar ws (n_v vs 0) 3)) (w_ei ws (w_ar ws (n_v vs 0) 4)) (w_ei ws (w_ar ws (n_v vs 0) 5)) (w_fi ws (n_v vs 0) 1) (v_iv (Value.int u)) k1 k2 k3 k6 k7 k10 k11 f2 f3 f4 f5 f6 f7 hK_0_2 hK_0_3 hK_0_4 hK_0_5 hK_4_7 hK_4_8 hK_4_9 hK_5_9 kz_0_1 eu2 eu3
  have nf4 : fc_1 PRD (20, [14], [50, 0, 0, 0, 2, 1, 0, 0, 191]) ws (vs ++ [n_v vs 4, n_v vs 5, Value.int u]) := by
    refine ⟨nf_inA hl rfl, sgq_476 ?_⟩
    · show v_iv (n_v (vs ++ [n_v vs 4, n_v vs 5, Value.int u]) 14) ≤ 191
      rw [e_14]
      exact vc_St_addPiece_at_gl_1_4 (v_iv (n_v vs 1)) (v_iv (n_v vs 2)) (v_iv (n_v vs 3)) (v_iv (n_v vs 6)) (v_iv (n_v vs 7)) (v_iv (n_v vs 10)) (v_iv (n_v vs 11)) (w_ei ws (w_ar ws (n_v vs 4) 7)) (w_ei ws (w_ar ws (n_v vs 4) 8)) (w_ei ws (w_ar ws (n_v vs 4) 9)) (w_ei ws (w_ar ws (n_v vs 5) 9)) (w_ei ws (w_ar ws (n_v vs 0) 2)) (w_ei ws (w_ar ws (n_v vs 0) 3)) (w_ei ws (w_ar ws (n_v vs 0) 4)) (w_ei ws (w_ar ws (n_v vs 0) 5)) (w_fi ws (n_v vs 0) 1) (v_iv (Value.int u)) k1 k2 k3 k6 k7 k10 k11 f2 f3 f4 f5 f6 f7 hK_0_2 hK_0_3 hK_0_4 hK_0_5 hK_4_7 hK_4_8 hK_4_9 hK_5_9 kz_0_1 eu2 eu3
  have nf5 : fc_1 PRD (20, [14, 6], [50, 0, 0, 1, 2, 1, 0, 4, 2, 1, 1, 0, 1]) ws (vs ++ [n_v vs 4, n_v vs 5, Value.int u]) := by
    refine ⟨nf_inA hl rfl, sgq_919 ?_⟩
    · show v_iv (n_v (vs ++ [n_v vs 4, n_v vs 5, Value.int u]) 14) = (v_iv (n_v (vs ++ [n_v vs 4, n_v vs 5, Value.int u]) 6) + 1)
      simp only [e_6, e_14]
      exact vc_St_addPiece_at_gl_1_5 (v_iv (n_v vs 1)) (v_iv (n_v vs 2)) (v_iv (n_v vs 3)) (v_iv (n_v vs 6)) (v_iv (n_v vs 7)) (v_iv (n_v vs 10)) (v_iv (n_v vs 11)) (w_ei ws (w_ar ws (n_v vs 4) 7)) (w_ei ws (w_ar ws (n_v vs 4) 8)) (w_ei ws (w_ar ws (n_v vs 4) 9)) (w_ei ws (w_ar ws (n_v vs 5) 9)) (w_ei ws (w_ar ws (n_v vs 0) 2)) (w_ei ws (w_ar ws (n_v vs 0) 3)) (w_ei ws (w_ar ws (n_v vs 0) 4)) (w_ei ws (w_ar ws (n_v vs 0) 5)) (w_fi ws (n_v vs 0) 1) (v_iv (Value.int u)) k1 k2 k3 k6 k7 k10 k11 f2 f3 f4 f5 f6 f7 hK_0_2 hK_0_3 hK_0_4 hK_0_5 hK_4_7 hK_4_8 hK_4_9 hK_5_9 kz_0_1 eu2 eu3
  exact ⟨(fun _ h => (by cases h)), [n_v vs 4, n_v vs 5, Value.int u], ag_three t4 t5 hu, List.forall_mem_cons.mpr ⟨⟨show (24 : Nat) < 100 from by decide, nf0⟩, List.forall_mem_cons.mpr ⟨⟨show (24 : Nat) < 100 from by decide, nf1⟩, List.forall_mem_cons.mpr ⟨⟨show (20 : Nat) < 100 from by decide, nf2⟩, List.forall_mem_cons.mpr ⟨⟨show (20 : Nat) < 100 from by decide, nf3⟩, List.forall_mem_cons.mpr ⟨⟨show (20 : Nat) < 100 from by decide, nf4⟩, List.forall_mem_cons.mpr ⟨⟨show (20 : Nat) < 100 from by decide, nf5⟩, (fun _ h => (by cases h))⟩⟩⟩⟩⟩⟩, (fun _ h => (by cases h))⟩
set_option maxHeartbeats 4000000 in
theorem vc_St_addPiece_at_gl_2_0 (x1 : Int) (x2 : Int) (x3 : Int) (x6 : Int) (x7 : Int) (x10 : Int) (x11 : Int) (x14 : Int) (tail_0o4 : Int → Int) (head_0o4 : Int → Int) (weight_0o4 : Int → Int) (turned_0o5 : Int → Int) (from_0 : Int → Int) (to_0 : Int → Int) (room_0 : Int → Int) (gain_0 : Int → Int) (arcs_0 : Int) (k1 : 0 ≤ x1 ∧ x1 ≤ 23) (k2 : 0 ≤ x2 ∧ x2 ≤ 23) (k3 : 0 ≤ x3 ∧ x3 ≤ 9) (k6 : 0 ≤ x6 ∧ x6 ≤ 384) (k7 : 0 ≤ x7 ∧ x7 ≤ 0) (k10 : 0 ≤ x10 ∧ x10 ≤ 384) (k11 : 0 ≤ x11 ∧ x11 ≤ 0) (k14 : 0 ≤ x14 ∧ x14 ≤ 384) (f2 : APX (tail_0o4) (head_0o4) (weight_0o4) (turned_0o5) (x14) (x2) (x1) (x3) (x11)) (f3 : x14 ≤ 191) (f4 : x14 = (x6 + 1)) (f7 : APX (tail_0o4) (head_0o4) (weight_0o4) (turned_0o5) (x10) (x1) (x2) (x3) (x7)) (f8 : x10 ≤ 191) (f9 : x10 = x6) (f10 : APQ (tail_0o4) (head_0o4) (weight_0o4) (turned_0o5) (x6) (x1) (x2) (x3)) (f11 : x6 ≤ 191) (f12 : APA (arcs_0) (from_0) (to_0) (room_0) (gain_0) (tail_0o4) (head_0o4) (weight_0o4) (turned_0o5) (x14)) (hK_0_2 : ∀ j : Int, 0 ≤ j → j < 384 → 0 ≤ from_0 j ∧ from_0 j ≤ 71) (hK_0_3 : ∀ j : Int, 0 ≤ j → j < 384 → 0 ≤ to_0 j ∧ to_0 j ≤ 71) (hK_0_4 : ∀ j : Int, 0 ≤ j → j < 384 → (-2147483648) ≤ room_0 j ∧ room_0 j ≤ 2147483647) (hK_0_5 : ∀ j : Int, 0 ≤ j → j < 384 → (-20) ≤ gain_0 j ∧ gain_0 j ≤ 20) (hK_4_7 : ∀ j : Int, 0 ≤ j → j < 48 → 0 ≤ tail_0o4 j ∧ tail_0o4 j ≤ 23) (hK_4_8 : ∀ j : Int, 0 ≤ j → j < 48 → 0 ≤ head_0o4 j ∧ head_0o4 j ≤ 23) (hK_4_9 : ∀ j : Int, 0 ≤ j → j < 48 → 0 ≤ weight_0o4 j ∧ weight_0o4 j ≤ 9) (hK_5_9 : ∀ j : Int, 0 ≤ j → j < 48 → 0 ≤ turned_0o5 j ∧ turned_0o5 j ≤ 1) (kz_0_1 : 0 ≤ arcs_0 ∧ arcs_0 ≤ 384) : APB (arcs_0) (from_0) (to_0) (room_0) (gain_0) (tail_0o4) (head_0o4) (weight_0o4) (turned_0o5) (x6) := by
  first
    | (unfold APB; rw [show x6 + 2 = x14 + 1 by omega]; exact ‹APA _ _ _ _ _ _ _ _ _ _›)
  
def o_St_addPiece_at_gl_2 : or_T := (16, 15, [(0, (2, 0, 0, [10])), (1, (0, 0, 23, [])), (2, (0, 0, 23, [])), (3, (0, 0, 9, [])), (4, (2, 0, 0, [3])), (5, (2, 0, 0, [2])), (6, (0, 0, 384, [])), (7, (0, 0, 0, [])), (10, (0, 0, 384, [])), (11, (0, 0, 0, [])), (14, (0, 0, 384, []))], [(24, [4, 12], []), (24, [5, 13], []), (20, [12, 13, 14, 2, 1, 3, 11], [60, 0, 4, 655, 7, 8, 9, 1009]), (20, [14], [50, 0, 0, 0, 2, 1, 0, 0, 191]), (20, [14, 6], [50, 0, 0, 1, 2, 1, 0, 4, 2, 1, 1, 0, 1]), (24, [4, 8], []), (24, [5, 9], []), (20, [8, 9, 10, 1, 2, 3, 7], [60, 0, 4, 655, 7, 8, 9, 1009]), (20, [10], [50, 0, 0, 0, 2, 1, 0, 0, 191]), (20, [10, 6], [50, 0, 0, 1, 2, 1, 0, 1, 1]), (20, [4, 5, 6, 1, 2, 3], [60, 0, 4, 656, 7, 8, 9, 1009]), (20, [6], [50, 0, 0, 0, 2, 1, 0, 0, 191]), (20, [0, 12, 13, 14], [60, 1, 8, 652, 1, 2, 3, 4, 5, 1007, 1008, 1009, 2009])], [], [], [(20, [0, 4, 5, 6], [60, 1, 8, 653, 1, 2, 3, 4, 5, 1007, 1008, 1009, 2009])], [], [])
theorem oo_St_addPiece_at_gl_2 {kA : Nat → ClassId} : or_ok PRD kA GG o_St_addPiece_at_gl_2 := by
  refine or_mk fun A ta ws vs hD hth hl => ?_
  intro t0 r0 t1 k1 t2 k2 t3 k3 t4 r4 t5 r5 t6 k6 t7 k7 t10 k10 t11 k11 t14 k14 f0 f1 f2 f3 f4 f5 f6 f7 f8 f9 f10 f11 f12
  replace f0 := shm_5 f0
  replace f1 := shm_5 f1
  replace f2 := shm_475 f2
  replace f5 := shm_5 f5
  replace f6 := shm_5 f6
  replace f7 := shm_475 f7
  replace f12 := shm_477 f12
  have q12 : n_v vs 12 = n_v vs 4 := f0.symm
  have q13 : n_v vs 13 = n_v vs 5 := f1.symm
  have q8 : n_v vs 8 = n_v vs 4 := f5.symm
  have q9 : n_v vs 9 = n_v vs 5 := f6.symm
  simp only [q12, q13, q8, q9] at f2 f7 f12
  have cr_0_2 := fdq_108 hD hth r0
  have cr_0_3 := fdq_109 hD hth r0
  have cr_0_4 := fdq_110 hD hth r0
  have cr_0_5 := fdq_111 hD hth r0
  have cr_4_7 := fdq_46 hD hth r4
  have cr_4_8 := fdq_47 hD hth r4
  have cr_4_9 := fdq_112 hD hth r4
  have cr_5_9 := fdq_76 hD hth r5
  have hK_0_2 := elq_53 hD hth cr_0_2
  have hK_0_3 := elq_54 hD hth cr_0_3
  have hK_0_4 := elq_55 hD hth cr_0_4
  have hK_0_5 := elq_56 hD hth cr_0_5
  have hK_4_7 := elq_11 hD hth cr_4_7
  have hK_4_8 := elq_12 hD hth cr_4_8
  have hK_4_9 := elq_57 hD hth cr_4_9
  have hK_5_9 := elq_38 hD hth cr_5_9
  have kz_0_1 := fdq_113 hD hth r0
  have nf0 : fc_1 PRD (20, [0, 4, 5, 6], [60, 1, 8, 653, 1, 2, 3, 4, 5, 1007, 1008, 1009, 2009]) ws (vs) := ⟨nf_in hl rfl, sgq_920 (vc_St_addPiece_at_gl_2_0 (v_iv (n_v vs 1)) (v_iv (n_v vs 2)) (v_iv (n_v vs 3)) (v_iv (n_v vs 6)) (v_iv (n_v vs 7)) (v_iv (n_v vs 10)) (v_iv (n_v vs 11)) (v_iv (n_v vs 14)) (w_ei ws (w_ar ws (n_v vs 4) 7)) (w_ei ws (w_ar ws (n_v vs 4) 8)) (w_ei ws (w_ar ws (n_v vs 4) 9)) (w_ei ws (w_ar ws (n_v vs 5) 9)) (w_ei ws (w_ar ws (n_v vs 0) 2)) (w_ei ws (w_ar ws (n_v vs 0) 3)) (w_ei ws (w_ar ws (n_v vs 0) 4)) (w_ei ws (w_ar ws (n_v vs 0) 5)) (w_fi ws (n_v vs 0) 1) k1 k2 k3 k6 k7 k10 k11 k14 f2 (shm_476 f3) (shm_919 f4) f7 (shm_476 f8) (shm_48 f9) (shm_921 f10) (shm_476 f11) f12 hK_0_2 hK_0_3 hK_0_4 hK_0_5 hK_4_7 hK_4_8 hK_4_9 hK_5_9 kz_0_1)⟩
  refine ⟨(fun _ h => (by cases h)), [], trivial, ?_, (fun _ h => (by cases h))⟩
  rw [List.append_nil]
  exact List.forall_mem_cons.mpr ⟨⟨show (20 : Nat) < 100 from by decide, nf0⟩, (fun _ h => (by cases h))⟩
def n_St_addPiece_at_gl_an : List an_T := []
def t_St_addPiece_at_gl_ct : ct_L := [(19, 40, e_St_addArc_at_gl), (43, 40, e_St_addArc_at_gl)]
set_option maxRecDepth 100000 in
theorem c_St_addPiece_at_gl {l : Launch} {D : va_G} {kA : Nat → ClassId} (h_St_addArc_at_gl : ct_ok PRD l D kA GG y_St_addArc_at_gl z_St_addArc_at_gl e_St_addArc_at_gl) : ct_ok PRD l D kA GG y_St_addPiece_at_gl z_St_addPiece_at_gl e_St_addPiece_at_gl := chk_all_ok (FT := []) (PT := []) (CT := t_St_addPiece_at_gl_ct) (KT := []) (NT := []) (AN := n_St_addPiece_at_gl_an) (OT := [o_St_addPiece_at_gl_0, o_St_addPiece_at_gl_1, o_St_addPiece_at_gl_2]) 0 200 (List.forall_mem_cons.mpr ⟨oo_St_addPiece_at_gl_0, List.forall_mem_cons.mpr ⟨oo_St_addPiece_at_gl_1, List.forall_mem_cons.mpr ⟨oo_St_addPiece_at_gl_2, List.forall_mem_nil _⟩⟩⟩) (by decide +kernel) ⟨List.forall_mem_nil _, List.forall_mem_nil _, List.forall_mem_cons.mpr ⟨cl_virtual (y := y_St_addArc_at_gl) (ci := 10) rfl rfl ⟨_, _, rfl⟩ (by decide +kernel) h_St_addArc_at_gl wm_1333 wm_19 wm_1330 wm_1332 wv_4_11 ⟨by decide, by decide, by decide +kernel⟩ (by decide), List.forall_mem_cons.mpr ⟨cl_virtual (y := y_St_addArc_at_gl) (ci := 10) rfl rfl ⟨_, _, rfl⟩ (by decide +kernel) h_St_addArc_at_gl wm_1333 wm_19 wm_1330 wm_1332 wv_4_11 ⟨by decide, by decide, by decide +kernel⟩ (by decide), List.forall_mem_nil _⟩⟩, List.forall_mem_nil _, List.forall_mem_nil _, GG_pl⟩ (by decide +kernel)
set_option maxHeartbeats 4000000 in
theorem vc_St_ringInBy_0_0 (x2 : Int) (x3 : Int) (mark_0 : Int → Int) (from_0 : Int → Int) (by_0 : Int → Int) (nodes_0 : Int) (k2 : (-1) ≤ x2 ∧ x2 ≤ (-1)) (k3 : 0 ≤ x3 ∧ x3 ≤ 0) (hT1 : ∀ j : Int, 0 ≤ j → j < x2 + 73 → (-1) ≤ mark_0 j ∧ mark_0 j ≤ (-1)) (hK_0_2 : ∀ j : Int, 0 ≤ j → j < 384 → 0 ≤ from_0 j ∧ from_0 j ≤ 71) (hK_0_7 : ∀ j : Int, 0 ≤ j → j < 72 → (-1) ≤ by_0 j ∧ by_0 j ≤ 383) (hK_0_8 : ∀ j : Int, 0 ≤ j → j < 72 → (-1) ≤ mark_0 j ∧ mark_0 j ≤ 71) (kz_0_0 : 0 ≤ nodes_0 ∧ nodes_0 ≤ 72) : SNO (nodes_0) (from_0) (by_0) (mark_0) (x3) := by
  first
    | exact sno_start (fun w a b => by first | (have q := hT0 w a (by omega); omega) | (have q := hT1 w a (by omega); omega) | (have q := hT2 w a (by omega); omega) | (have q := hT3 w a (by omega); omega)) (by omega) (by omega)
    | (skip; exact sni_next ‹SNI _ _ _ _ _ _ _› (by omega) (by omega) (by omega) (by omega) (by first | (left; omega) | (right; left; omega) | (right; right; omega)) (by first | (left; omega) | (right; omega)) (by omega) (by omega))
  
def o_St_ringInBy_0 : or_T := (10, 4, [(0, (2, 0, 0, [10])), (2, (0, -1, -1, [])), (3, (0, 0, 0, []))], [(9, [1, 0], [8]), (20, [1, 2], [8, -1, -1, 73])], [], [], [(20, [0, 3], [60, 1, 3, 510, 0, 2, 7, 8]), (24, [0, 0], [])], [], [])
theorem oo_St_ringInBy_0 {kA : Nat → ClassId} : or_ok PRD kA GG o_St_ringInBy_0 := by
  refine or_mk fun A ta ws vs hD hth hl => ?_
  intro t0 r0 t2 k2 t3 k3 f0 f1
  replace f0 := shm_293 f0
  replace f1 := shm_30 f1
  have cr_0_2 := fdq_108 hD hth r0
  have cr_0_7 := fdq_116 hD hth r0
  have cr_0_8 := fdq_229 hD hth r0
  have ad_1 : v_ad (n_v vs 1) = w_ar ws (n_v vs 0) 8 := congrArg v_ad f0
  have hT1 : ∀ j : Int, 0 ≤ j → j < v_iv (n_v vs 2) + 73 → (-1) ≤ w_ei ws (w_ar ws (n_v vs 0) 8) j ∧ w_ei ws (w_ar ws (n_v vs 0) 8) j ≤ (-1) := fun j h0 h1 => by have h2 := f1 j.toNat (by omega); rw [ad_1] at h2; exact h2
  have hK_0_2 := elq_53 hD hth cr_0_2
  have hK_0_7 := elq_59 hD hth cr_0_7
  have hK_0_8 := elq_142 hD hth cr_0_8
  have kz_0_0 := fdq_114 hD hth r0
  have nf0 : fc_1 PRD (20, [0, 3], [60, 1, 3, 510, 0, 2, 7, 8]) ws (vs) := ⟨nf_in hl rfl, sgq_922 (vc_St_ringInBy_0_0 (v_iv (n_v vs 2)) (v_iv (n_v vs 3)) (w_ei ws (w_ar ws (n_v vs 0) 8)) (w_ei ws (w_ar ws (n_v vs 0) 2)) (w_ei ws (w_ar ws (n_v vs 0) 7)) (w_fi ws (n_v vs 0) 0) k2 k3 hT1 hK_0_2 hK_0_7 hK_0_8 kz_0_0)⟩
  have nf1 : fc_1 PRD (24, [0, 0], []) ws (vs) := by
    refine ⟨nf_in hl rfl, sgq_1 ?_⟩
    · show n_v vs 0 = n_v vs 0
      first | rfl | simp only [true_and]
  refine ⟨(fun _ h => (by cases h)), [], trivial, ?_, (fun _ h => (by cases h))⟩
  rw [List.append_nil]
  exact List.forall_mem_cons.mpr ⟨⟨show (20 : Nat) < 100 from by decide, nf0⟩, List.forall_mem_cons.mpr ⟨⟨show (24 : Nat) < 100 from by decide, nf1⟩, (fun _ h => (by cases h))⟩⟩
set_option maxHeartbeats 4000000 in
theorem vc_St_ringInBy_1_0 (x2 : Int) (x3 : Int) (x4 : Int) (nodes_0 : Int) (from_0 : Int → Int) (by_0 : Int → Int) (mark_0 : Int → Int) (k2 : 0 ≤ x2 ∧ x2 ≤ 72) (k3 : 0 ≤ x3 ∧ x3 ≤ 72) (k4 : (-1) ≤ x4 ∧ x4 ≤ (-1)) (d0 : x3 + 0 ≤ x2 ∧ x2 ≤ x3 + 4294967296) (f0 : x3 ≤ x2) (g1 : x3 = nodes_0) (f2 : SNO (nodes_0) (from_0) (by_0) (mark_0) (x2)) (hK_0_2 : ∀ j : Int, 0 ≤ j → j < 384 → 0 ≤ from_0 j ∧ from_0 j ≤ 71) (hK_0_7 : ∀ j : Int, 0 ≤ j → j < 72 → (-1) ≤ by_0 j ∧ by_0 j ≤ 383) (hK_0_8 : ∀ j : Int, 0 ≤ j → j < 72 → (-1) ≤ mark_0 j ∧ mark_0 j ≤ 71) (kz_0_0 : 0 ≤ nodes_0 ∧ nodes_0 ≤ 72) : SNB (nodes_0) (from_0) (by_0) (x4) := by
  first
    | exact snb_none ‹SNO _ _ _ _ _› (by omega) (by omega)
    | (skip; exact snb_ring ‹SNI _ _ _ _ _ _ _› rfl (by omega) (by omega) (by omega) (by omega) (by omega))
  
def o_St_ringInBy_1 : or_T := (108, 5, [(0, (2, 0, 0, [10])), (2, (0, 0, 72, [])), (3, (0, 0, 72, [])), (4, (0, -1, -1, []))], [(7, [2, 3], [3]), (9, [3, 1], [0]), (20, [1, 2], [60, 1, 3, 510, 0, 2, 7, 8]), (24, [0, 1], [])], [], [], [(20, [0, 4], [60, 1, 2, 512, 0, 2, 7])], [], [(2, 3, 0, 4294967296)])
theorem oo_St_ringInBy_1 {kA : Nat → ClassId} : or_ok PRD kA GG o_St_ringInBy_1 := by
  refine or_mk fun A ta ws vs hD hth hl => ?_
  intro t0 r0 t2 k2 t3 k3 t4 k4 d0 f0 f1 f2 f3
  replace f1 := shm_163 f1
  replace f2 := shm_922 f2
  replace f3 := shm_5 f3
  have q1 : n_v vs 1 = n_v vs 0 := f3.symm
  simp only [q1] at f1 f2
  have cr_0_2 := fdq_108 hD hth r0
  have cr_0_7 := fdq_116 hD hth r0
  have cr_0_8 := fdq_229 hD hth r0
  have g1 : v_iv (n_v vs 3) = w_fi ws (n_v vs 0) 0 := congrArg v_iv f1
  have hK_0_2 := elq_53 hD hth cr_0_2
  have hK_0_7 := elq_59 hD hth cr_0_7
  have hK_0_8 := elq_142 hD hth cr_0_8
  have kz_0_0 := fdq_114 hD hth r0
  have nf0 : fc_1 PRD (20, [0, 4], [60, 1, 2, 512, 0, 2, 7]) ws (vs) := ⟨nf_in hl rfl, sgq_923 (vc_St_ringInBy_1_0 (v_iv (n_v vs 2)) (v_iv (n_v vs 3)) (v_iv (n_v vs 4)) (w_fi ws (n_v vs 0) 0) (w_ei ws (w_ar ws (n_v vs 0) 2)) (w_ei ws (w_ar ws (n_v vs 0) 7)) (w_ei ws (w_ar ws (n_v vs 0) 8)) k2 k3 k4 d0 (shm_2 f0) g1 f2 hK_0_2 hK_0_7 hK_0_8 kz_0_0)⟩
  refine ⟨(fun _ h => (by cases h)), [], trivial, ?_, (fun _ h => (by cases h))⟩
  rw [List.append_nil]
  exact List.forall_mem_cons.mpr ⟨⟨show (20 : Nat) < 100 from by decide, nf0⟩, (fun _ h => (by cases h))⟩
set_option maxHeartbeats 4000000 in
theorem vc_St_ringInBy_2_0 (x2 : Int) (x3 : Int) (x4 : Int) (nodes_0 : Int) (from_0 : Int → Int) (by_0 : Int → Int) (mark_0 : Int → Int) (k2 : 0 ≤ x2 ∧ x2 ≤ 71) (k3 : 1 ≤ x3 ∧ x3 ≤ 72) (k4 : 0 ≤ x4 ∧ x4 ≤ 0) (d0 : x3 + (-4294967296) ≤ x2 ∧ x2 ≤ x3 + (-1)) (f0 : x2 < x3) (g1 : x3 = nodes_0) (f2 : SNO (nodes_0) (from_0) (by_0) (mark_0) (x2)) (hK_0_2 : ∀ j : Int, 0 ≤ j → j < 384 → 0 ≤ from_0 j ∧ from_0 j ≤ 71) (hK_0_7 : ∀ j : Int, 0 ≤ j → j < 72 → (-1) ≤ by_0 j ∧ by_0 j ≤ 383) (hK_0_8 : ∀ j : Int, 0 ≤ j → j < 72 → (-1) ≤ mark_0 j ∧ mark_0 j ≤ 71) (kz_0_0 : 0 ≤ nodes_0 ∧ nodes_0 ≤ 72) : SNI (nodes_0) (from_0) (by_0) (mark_0) (x2) (x2) (x4) := by
  first
    | exact sni_start ‹SNO _ _ _ _ _› (by omega) (by omega)
    | (skip; exact sni_step ‹SNI _ _ _ _ _ _ _› (by assumption) rfl rfl (by omega) (by omega) (by omega) (by omega) (by first | (left; omega) | (right; exact ⟨by omega, rfl⟩)) (by omega))
  
set_option maxHeartbeats 4000000 in
theorem vc_St_ringInBy_2_1 (x2 : Int) (x3 : Int) (x4 : Int) (nodes_0 : Int) (from_0 : Int → Int) (by_0 : Int → Int) (mark_0 : Int → Int) (k2 : 0 ≤ x2 ∧ x2 ≤ 71) (k3 : 1 ≤ x3 ∧ x3 ≤ 72) (k4 : 0 ≤ x4 ∧ x4 ≤ 0) (d0 : x3 + (-4294967296) ≤ x2 ∧ x2 ≤ x3 + (-1)) (f0 : x2 < x3) (g1 : x3 = nodes_0) (f2 : SNO (nodes_0) (from_0) (by_0) (mark_0) (x2)) (hK_0_2 : ∀ j : Int, 0 ≤ j → j < 384 → 0 ≤ from_0 j ∧ from_0 j ≤ 71) (hK_0_7 : ∀ j : Int, 0 ≤ j → j < 72 → (-1) ≤ by_0 j ∧ by_0 j ≤ 383) (hK_0_8 : ∀ j : Int, 0 ≤ j → j < 72 → (-1) ≤ mark_0 j ∧ mark_0 j ≤ 71) (kz_0_0 : 0 ≤ nodes_0 ∧ nodes_0 ≤ 72) : (x2 + 1) ≤ nodes_0 := by
  omega
def o_St_ringInBy_2 : or_T := (22, 5, [(0, (2, 0, 0, [10])), (2, (0, 0, 71, [])), (3, (0, 1, 72, [])), (4, (0, 0, 0, []))], [(7, [2, 3], [2]), (9, [3, 1], [0]), (20, [1, 2], [60, 1, 3, 510, 0, 2, 7, 8]), (24, [0, 1], [])], [], [], [(20, [1, 2, 2, 4], [60, 1, 3, 511, 0, 2, 7, 8]), (20, [2, 1], [50, 1, 0, 1000, 0, 6, 4, 2, 1, 0, 0, 1, 2, 1, 0])], [], [(2, 3, -4294967296, -1)])
theorem oo_St_ringInBy_2 {kA : Nat → ClassId} : or_ok PRD kA GG o_St_ringInBy_2 := by
  refine or_mk fun A ta ws vs hD hth hl => ?_
  intro t0 r0 t2 k2 t3 k3 t4 k4 d0 f0 f1 f2 f3
  replace f0 := shm_6 f0
  replace f1 := shm_163 f1
  replace f2 := shm_922 f2
  replace f3 := shm_5 f3
  have q1 : n_v vs 1 = n_v vs 0 := f3.symm
  simp only [q1] at f1 f2
  have cr_0_2 := fdq_108 hD hth r0
  have cr_0_7 := fdq_116 hD hth r0
  have cr_0_8 := fdq_229 hD hth r0
  have g1 : v_iv (n_v vs 3) = w_fi ws (n_v vs 0) 0 := congrArg v_iv f1
  have hK_0_2 := elq_53 hD hth cr_0_2
  have hK_0_7 := elq_59 hD hth cr_0_7
  have hK_0_8 := elq_142 hD hth cr_0_8
  have kz_0_0 := fdq_114 hD hth r0
  have nf0 : fc_1 PRD (20, [1, 2, 2, 4], [60, 1, 3, 511, 0, 2, 7, 8]) ws (vs) := by
    refine ⟨nf_in hl rfl, sgq_924 ?_⟩
    · show SNI (w_fi ws (n_v vs 1) 0) (w_ei ws (w_ar ws (n_v vs 1) 2)) (w_ei ws (w_ar ws (n_v vs 1) 7)) (w_ei ws (w_ar ws (n_v vs 1) 8)) (v_iv (n_v vs 2)) (v_iv (n_v vs 2)) (v_iv (n_v vs 4))
      rw [q1]
      exact vc_St_ringInBy_2_0 (v_iv (n_v vs 2)) (v_iv (n_v vs 3)) (v_iv (n_v vs 4)) (w_fi ws (n_v vs 0) 0) (w_ei ws (w_ar ws (n_v vs 0) 2)) (w_ei ws (w_ar ws (n_v vs 0) 7)) (w_ei ws (w_ar ws (n_v vs 0) 8)) k2 k3 k4 d0 f0 g1 f2 hK_0_2 hK_0_7 hK_0_8 kz_0_0
  have nf1 : fc_1 PRD (20, [2, 1], [50, 1, 0, 1000, 0, 6, 4, 2, 1, 0, 0, 1, 2, 1, 0]) ws (vs) := by
    refine ⟨nf_in hl rfl, sgq_925 ?_⟩
    · show (v_iv (n_v vs 2) + 1) ≤ w_fi ws (n_v vs 1) 0
      rw [q1]
      exact vc_St_ringInBy_2_1 (v_iv (n_v vs 2)) (v_iv (n_v vs 3)) (v_iv (n_v vs 4)) (w_fi ws (n_v vs 0) 0) (w_ei ws (w_ar ws (n_v vs 0) 2)) (w_ei ws (w_ar ws (n_v vs 0) 7)) (w_ei ws (w_ar ws (n_v vs 0) 8)) k2 k3 k4 d0 f0 g1 f2 hK_0_2 hK_0_7 hK_0_8 kz_0_0
  refine ⟨(fun _ h => (by cases h)), [], trivial, ?_, (fun _ h => (by cases h))⟩
  rw [List.append_nil]
  exact List.forall_mem_cons.mpr ⟨⟨show (20 : Nat) < 100 from by decide, nf0⟩, List.forall_mem_cons.mpr ⟨⟨show (20 : Nat) < 100 from by decide, nf1⟩, (fun _ h => (by cases h))⟩⟩
set_option maxHeartbeats 4000000 in
theorem vc_St_ringInBy_3_0 (x2 : Int) (x3 : Int) (x4 : Int) (x5 : Int) (x6 : Int) (x7 : Int) (nodes_0 : Int) (from_0 : Int → Int) (by_0 : Int → Int) (mark_0 : Int → Int) (k2 : 0 ≤ x2 ∧ x2 ≤ 71) (k3 : (-1) ≤ x3 ∧ x3 ≤ (-1)) (k4 : 1 ≤ x4 ∧ x4 ≤ 73) (k5 : 0 ≤ x5 ∧ x5 ≤ 72) (k6 : (-1) ≤ x6 ∧ x6 ≤ (-1)) (k7 : 1 ≤ x7 ∧ x7 ≤ 72) (d0 : x2 + 1 ≤ x7 ∧ x7 ≤ x2 + 1) (d1 : x5 + 1 ≤ x4 ∧ x4 ≤ x5 + 4294967296) (f0 : x7 = x2 + 1) (f1 : x3 = x6) (f2 : x5 < x4) (g3 : x5 = nodes_0) (f4 : SNI (nodes_0) (from_0) (by_0) (mark_0) (x2) (x3) (x4)) (f5 : (x2 + 1) ≤ nodes_0) (hK_0_2 : ∀ j : Int, 0 ≤ j → j < 384 → 0 ≤ from_0 j ∧ from_0 j ≤ 71) (hK_0_7 : ∀ j : Int, 0 ≤ j → j < 72 → (-1) ≤ by_0 j ∧ by_0 j ≤ 383) (hK_0_8 : ∀ j : Int, 0 ≤ j → j < 72 → (-1) ≤ mark_0 j ∧ mark_0 j ≤ 71) (kz_0_0 : 0 ≤ nodes_0 ∧ nodes_0 ≤ 72) : SNO (nodes_0) (from_0) (by_0) (mark_0) (x7) := by
  first
    | exact sno_start (fun w a b => by first | (have q := hT0 w a (by omega); omega) | (have q := hT1 w a (by omega); omega) | (have q := hT2 w a (by omega); omega) | (have q := hT3 w a (by omega); omega)) (by omega) (by omega)
    | (skip; exact sni_next ‹SNI _ _ _ _ _ _ _› (by omega) (by omega) (by omega) (by omega) (by first | (left; omega) | (right; left; omega) | (right; right; omega)) (by first | (left; omega) | (right; omega)) (by omega) (by omega))
  
def o_St_ringInBy_3 : or_T := (10, 8, [(0, (2, 0, 0, [10])), (2, (0, 0, 71, [])), (3, (0, -1, -1, [])), (4, (0, 1, 73, [])), (5, (0, 0, 72, [])), (6, (0, -1, -1, [])), (7, (0, 1, 72, []))], [(6, [7, 2], [1]), (7, [3, 6], [0]), (7, [4, 5], [4]), (9, [5, 1], [0]), (20, [1, 2, 3, 4], [60, 1, 3, 511, 0, 2, 7, 8]), (20, [2, 1], [50, 1, 0, 1000, 0, 6, 4, 2, 1, 0, 0, 1, 2, 1, 0]), (24, [0, 1], [])], [], [], [(20, [1, 7], [60, 1, 3, 510, 0, 2, 7, 8])], [], [(7, 2, 1, 1), (4, 5, 1, 4294967296)])
theorem oo_St_ringInBy_3 {kA : Nat → ClassId} : or_ok PRD kA GG o_St_ringInBy_3 := by
  refine or_mk fun A ta ws vs hD hth hl => ?_
  intro t0 r0 t2 k2 t3 k3 t4 k4 t5 k5 t6 k6 t7 k7 d0 d1 f0 f1 f2 f3 f4 f5 f6
  replace f0 := shm_4 f0
  replace f1 := shm_37 f1
  replace f2 := shm_21 f2
  replace f3 := shm_163 f3
  replace f4 := shm_926 f4
  replace f5 := shm_925 f5
  replace f6 := shm_5 f6
  have q1 : n_v vs 1 = n_v vs 0 := f6.symm
  simp only [q1] at f3 f4 f5
  have cr_0_2 := fdq_108 hD hth r0
  have cr_0_7 := fdq_116 hD hth r0
  have cr_0_8 := fdq_229 hD hth r0
  have g3 : v_iv (n_v vs 5) = w_fi ws (n_v vs 0) 0 := congrArg v_iv f3
  have hK_0_2 := elq_53 hD hth cr_0_2
  have hK_0_7 := elq_59 hD hth cr_0_7
  have hK_0_8 := elq_142 hD hth cr_0_8
  have kz_0_0 := fdq_114 hD hth r0
  have nf0 : fc_1 PRD (20, [1, 7], [60, 1, 3, 510, 0, 2, 7, 8]) ws (vs) := by
    refine ⟨nf_in hl rfl, sgq_922 ?_⟩
    · show SNO (w_fi ws (n_v vs 1) 0) (w_ei ws (w_ar ws (n_v vs 1) 2)) (w_ei ws (w_ar ws (n_v vs 1) 7)) (w_ei ws (w_ar ws (n_v vs 1) 8)) (v_iv (n_v vs 7))
      rw [q1]
      exact vc_St_ringInBy_3_0 (v_iv (n_v vs 2)) (v_iv (n_v vs 3)) (v_iv (n_v vs 4)) (v_iv (n_v vs 5)) (v_iv (n_v vs 6)) (v_iv (n_v vs 7)) (w_fi ws (n_v vs 0) 0) (w_ei ws (w_ar ws (n_v vs 0) 2)) (w_ei ws (w_ar ws (n_v vs 0) 7)) (w_ei ws (w_ar ws (n_v vs 0) 8)) k2 k3 k4 k5 k6 k7 d0 d1 f0 f1 f2 g3 f4 f5 hK_0_2 hK_0_7 hK_0_8 kz_0_0
  refine ⟨(fun _ h => (by cases h)), [], trivial, ?_, (fun _ h => (by cases h))⟩
  rw [List.append_nil]
  exact List.forall_mem_cons.mpr ⟨⟨show (20 : Nat) < 100 from by decide, nf0⟩, (fun _ h => (by cases h))⟩
set_option maxHeartbeats 4000000 in
theorem vc_St_ringInBy_4_0 (x2 : Int) (x3 : Int) (x4 : Int) (x5 : Int) (x6 : Int) (x8 : Int) (x9 : Int) (mark_0 : Int → Int) (nodes_0 : Int) (from_0 : Int → Int) (by_0 : Int → Int) (k2 : 0 ≤ x2 ∧ x2 ≤ 71) (k3 : 0 ≤ x3 ∧ x3 ≤ 71) (k4 : 1 ≤ x4 ∧ x4 ≤ 73) (k5 : 0 ≤ x5 ∧ x5 ≤ 72) (k6 : (-1) ≤ x6 ∧ x6 ≤ (-1)) (k8 : (-1) ≤ x8 ∧ x8 ≤ 71) (k9 : 1 ≤ x9 ∧ x9 ≤ 72) (d0 : x2 + 1 ≤ x9 ∧ x9 ≤ x2 + 1) (d1 : x5 + 1 ≤ x4 ∧ x4 ≤ x5 + 4294967296) (f0 : x9 = x2 + 1) (f1 : x8 ≠ x2) (h2 : x8 = mark_0 (x3)) (f4 : x3 ≠ x6) (f5 : x5 < x4) (g6 : x5 = nodes_0) (f7 : SNI (nodes_0) (from_0) (by_0) (mark_0) (x2) (x3) (x4)) (f8 : (x2 + 1) ≤ nodes_0) (hK_0_2 : ∀ j : Int, 0 ≤ j → j < 384 → 0 ≤ from_0 j ∧ from_0 j ≤ 71) (hK_0_7 : ∀ j : Int, 0 ≤ j → j < 72 → (-1) ≤ by_0 j ∧ by_0 j ≤ 383) (hK_0_8 : ∀ j : Int, 0 ≤ j → j < 72 → (-1) ≤ mark_0 j ∧ mark_0 j ≤ 71) (kz_0_0 : 0 ≤ nodes_0 ∧ nodes_0 ≤ 72) : SNO (nodes_0) (from_0) (by_0) (mark_0) (x9) := by
  first
    | exact sno_start (fun w a b => by first | (have q := hT0 w a (by omega); omega) | (have q := hT1 w a (by omega); omega) | (have q := hT2 w a (by omega); omega) | (have q := hT3 w a (by omega); omega)) (by omega) (by omega)
    | (skip; (first | subst h2 | skip); exact sni_next ‹SNI _ _ _ _ _ _ _› (by omega) (by omega) (by omega) (by omega) (by first | (left; omega) | (right; left; omega) | (right; right; omega)) (by first | (left; omega) | (right; omega)) (by omega) (by omega))
  
def o_St_ringInBy_4 : or_T := (10, 10, [(0, (2, 0, 0, [10])), (2, (0, 0, 71, [])), (3, (0, 0, 71, [])), (4, (0, 1, 73, [])), (5, (0, 0, 72, [])), (6, (0, -1, -1, [])), (8, (0, -1, 71, [])), (9, (0, 1, 72, []))], [(6, [9, 2], [1]), (7, [8, 2], [1]), (10, [8, 7, 3], []), (9, [7, 1], [8]), (7, [3, 6], [1]), (7, [4, 5], [4]), (9, [5, 1], [0]), (20, [1, 2, 3, 4], [60, 1, 3, 511, 0, 2, 7, 8]), (20, [2, 1], [50, 1, 0, 1000, 0, 6, 4, 2, 1, 0, 0, 1, 2, 1, 0]), (24, [0, 1], [])], [], [], [(20, [1, 9], [60, 1, 3, 510, 0, 2, 7, 8])], [], [(9, 2, 1, 1), (4, 5, 1, 4294967296)])
theorem oo_St_ringInBy_4 {kA : Nat → ClassId} : or_ok PRD kA GG o_St_ringInBy_4 := by
  refine or_mk fun A ta ws vs hD hth hl => ?_
  intro t0 r0 t2 k2 t3 k3 t4 k4 t5 k5 t6 k6 t8 k8 t9 k9 d0 d1 f0 f1 f2 f3 f4 f5 f6 f7 f8 f9
  replace f0 := shm_4 f0
  replace f1 := shm_40 f1
  replace f2 := shm_107 f2
  replace f3 := shm_293 f3
  replace f4 := shm_40 f4
  replace f5 := shm_21 f5
  replace f6 := shm_163 f6
  replace f7 := shm_926 f7
  replace f8 := shm_925 f8
  replace f9 := shm_5 f9
  have q1 : n_v vs 1 = n_v vs 0 := f9.symm
  simp only [q1] at f3 f6 f7 f8
  have cr_0_2 := fdq_108 hD hth r0
  have cr_0_7 := fdq_116 hD hth r0
  have cr_0_8 := fdq_229 hD hth r0
  have ad_7 : v_ad (n_v vs 7) = w_ar ws (n_v vs 0) 8 := congrArg v_ad f3
  simp only [ad_7] at f2
  have h2 : v_iv (n_v vs 8) = w_ei ws (w_ar ws (n_v vs 0) 8) (v_iv (n_v vs 3)) := f2
  have g6 : v_iv (n_v vs 5) = w_fi ws (n_v vs 0) 0 := congrArg v_iv f6
  have hK_0_2 := elq_53 hD hth cr_0_2
  have hK_0_7 := elq_59 hD hth cr_0_7
  have hK_0_8 := elq_142 hD hth cr_0_8
  have kz_0_0 := fdq_114 hD hth r0
  have nf0 : fc_1 PRD (20, [1, 9], [60, 1, 3, 510, 0, 2, 7, 8]) ws (vs) := by
    refine ⟨nf_in hl rfl, sgq_922 ?_⟩
    · show SNO (w_fi ws (n_v vs 1) 0) (w_ei ws (w_ar ws (n_v vs 1) 2)) (w_ei ws (w_ar ws (n_v vs 1) 7)) (w_ei ws (w_ar ws (n_v vs 1) 8)) (v_iv (n_v vs 9))
      rw [q1]
      exact vc_St_ringInBy_4_0 (v_iv (n_v vs 2)) (v_iv (n_v vs 3)) (v_iv (n_v vs 4)) (v_iv (n_v vs 5)) (v_iv (n_v vs 6)) (v_iv (n_v vs 8)) (v_iv (n_v vs 9)) (w_ei ws (w_ar ws (n_v vs 0) 8)) (w_fi ws (n_v vs 0) 0) (w_ei ws (w_ar ws (n_v vs 0) 2)) (w_ei ws (w_ar ws (n_v vs 0) 7)) k2 k3 k4 k5 k6 k8 k9 d0 d1 f0 f1 h2 f4 f5 g6 f7 f8 hK_0_2 hK_0_7 hK_0_8 kz_0_0
  refine ⟨(fun _ h => (by cases h)), [], trivial, ?_, (fun _ h => (by cases h))⟩
  rw [List.append_nil]
  exact List.forall_mem_cons.mpr ⟨⟨show (20 : Nat) < 100 from by decide, nf0⟩, (fun _ h => (by cases h))⟩
set_option maxHeartbeats 4000000 in
theorem vc_St_ringInBy_5_0 (x2 : Int) (x3 : Int) (x4 : Int) (x5 : Int) (x6 : Int) (x8 : Int) (mark_0 : Int → Int) (nodes_0 : Int) (from_0 : Int → Int) (by_0 : Int → Int) (k2 : 0 ≤ x2 ∧ x2 ≤ 71) (k3 : 0 ≤ x3 ∧ x3 ≤ 71) (k4 : 1 ≤ x4 ∧ x4 ≤ 73) (k5 : 0 ≤ x5 ∧ x5 ≤ 72) (k6 : (-1) ≤ x6 ∧ x6 ≤ (-1)) (k8 : 0 ≤ x8 ∧ x8 ≤ 71) (d0 : x2 + 0 ≤ x8 ∧ x8 ≤ x2 + 0) (d1 : x5 + 1 ≤ x4 ∧ x4 ≤ x5 + 4294967296) (f0 : x8 = x2) (h1 : x8 = mark_0 (x3)) (f3 : x3 ≠ x6) (f4 : x5 < x4) (g5 : x5 = nodes_0) (f6 : SNI (nodes_0) (from_0) (by_0) (mark_0) (x2) (x3) (x4)) (f7 : (x2 + 1) ≤ nodes_0) (hK_0_2 : ∀ j : Int, 0 ≤ j → j < 384 → 0 ≤ from_0 j ∧ from_0 j ≤ 71) (hK_0_7 : ∀ j : Int, 0 ≤ j → j < 72 → (-1) ≤ by_0 j ∧ by_0 j ≤ 383) (hK_0_8 : ∀ j : Int, 0 ≤ j → j < 72 → (-1) ≤ mark_0 j ∧ mark_0 j ≤ 71) (kz_0_0 : 0 ≤ nodes_0 ∧ nodes_0 ≤ 72) : SNB (nodes_0) (from_0) (by_0) (x3) := by
  first
    | exact snb_none ‹SNO _ _ _ _ _› (by omega) (by omega)
    | (skip; (first | subst h1 | skip); exact snb_ring ‹SNI _ _ _ _ _ _ _› rfl (by omega) (by omega) (by omega) (by omega) (by omega))
  
def o_St_ringInBy_5 : or_T := (100, 9, [(0, (2, 0, 0, [10])), (2, (0, 0, 71, [])), (3, (0, 0, 71, [])), (4, (0, 1, 73, [])), (5, (0, 0, 72, [])), (6, (0, -1, -1, [])), (8, (0, 0, 71, []))], [(7, [8, 2], [0]), (10, [8, 7, 3], []), (9, [7, 1], [8]), (7, [3, 6], [1]), (7, [4, 5], [4]), (9, [5, 1], [0]), (20, [1, 2, 3, 4], [60, 1, 3, 511, 0, 2, 7, 8]), (20, [2, 1], [50, 1, 0, 1000, 0, 6, 4, 2, 1, 0, 0, 1, 2, 1, 0]), (24, [0, 1], [])], [], [], [(20, [0, 3], [60, 1, 2, 512, 0, 2, 7])], [], [(8, 2, 0, 0), (4, 5, 1, 4294967296)])
theorem oo_St_ringInBy_5 {kA : Nat → ClassId} : or_ok PRD kA GG o_St_ringInBy_5 := by
  refine or_mk fun A ta ws vs hD hth hl => ?_
  intro t0 r0 t2 k2 t3 k3 t4 k4 t5 k5 t6 k6 t8 k8 d0 d1 f0 f1 f2 f3 f4 f5 f6 f7 f8
  replace f1 := shm_107 f1
  replace f2 := shm_293 f2
  replace f5 := shm_163 f5
  replace f6 := shm_926 f6
  replace f7 := shm_925 f7
  replace f8 := shm_5 f8
  have q1 : n_v vs 1 = n_v vs 0 := f8.symm
  simp only [q1] at f2 f5 f6 f7
  have cr_0_2 := fdq_108 hD hth r0
  have cr_0_7 := fdq_116 hD hth r0
  have cr_0_8 := fdq_229 hD hth r0
  have ad_7 : v_ad (n_v vs 7) = w_ar ws (n_v vs 0) 8 := congrArg v_ad f2
  simp only [ad_7] at f1
  have h1 : v_iv (n_v vs 8) = w_ei ws (w_ar ws (n_v vs 0) 8) (v_iv (n_v vs 3)) := f1
  have g5 : v_iv (n_v vs 5) = w_fi ws (n_v vs 0) 0 := congrArg v_iv f5
  have hK_0_2 := elq_53 hD hth cr_0_2
  have hK_0_7 := elq_59 hD hth cr_0_7
  have hK_0_8 := elq_142 hD hth cr_0_8
  have kz_0_0 := fdq_114 hD hth r0
  have nf0 : fc_1 PRD (20, [0, 3], [60, 1, 2, 512, 0, 2, 7]) ws (vs) := ⟨nf_in hl rfl, sgq_923 (vc_St_ringInBy_5_0 (v_iv (n_v vs 2)) (v_iv (n_v vs 3)) (v_iv (n_v vs 4)) (v_iv (n_v vs 5)) (v_iv (n_v vs 6)) (v_iv (n_v vs 8)) (w_ei ws (w_ar ws (n_v vs 0) 8)) (w_fi ws (n_v vs 0) 0) (w_ei ws (w_ar ws (n_v vs 0) 2)) (w_ei ws (w_ar ws (n_v vs 0) 7)) k2 k3 k4 k5 k6 k8 d0 d1 (shm_37 f0) h1 (shm_40 f3) (shm_21 f4) g5 f6 f7 hK_0_2 hK_0_7 hK_0_8 kz_0_0)⟩
  refine ⟨(fun _ h => (by cases h)), [], trivial, ?_, (fun _ h => (by cases h))⟩
  rw [List.append_nil]
  exact List.forall_mem_cons.mpr ⟨⟨show (20 : Nat) < 100 from by decide, nf0⟩, (fun _ h => (by cases h))⟩
set_option maxHeartbeats 4000000 in
theorem vc_St_ringInBy_6_0 (x2 : Int) (x3 : Int) (x4 : Int) (x5 : Int) (x6 : Int) (x7 : Int) (x8 : Int) (nodes_0 : Int) (from_0 : Int → Int) (by_0 : Int → Int) (mark_0 : Int → Int) (k2 : 0 ≤ x2 ∧ x2 ≤ 71) (k3 : (-1) ≤ x3 ∧ x3 ≤ (-1)) (k4 : 0 ≤ x4 ∧ x4 ≤ 72) (k5 : 0 ≤ x5 ∧ x5 ≤ 72) (k6 : (-1) ≤ x6 ∧ x6 ≤ (-1)) (k7 : (-1) ≤ x7 ∧ x7 ≤ (-1)) (k8 : 1 ≤ x8 ∧ x8 ≤ 72) (d0 : x2 + 1 ≤ x8 ∧ x8 ≤ x2 + 1) (d1 : x5 + (-4294967296) ≤ x4 ∧ x4 ≤ x5 + 0) (f0 : x8 = x2 + 1) (f1 : x3 = x7) (f2 : x3 = x6) (f3 : x4 ≤ x5) (g4 : x5 = nodes_0) (f5 : SNI (nodes_0) (from_0) (by_0) (mark_0) (x2) (x3) (x4)) (f6 : (x2 + 1) ≤ nodes_0) (hK_0_2 : ∀ j : Int, 0 ≤ j → j < 384 → 0 ≤ from_0 j ∧ from_0 j ≤ 71) (hK_0_7 : ∀ j : Int, 0 ≤ j → j < 72 → (-1) ≤ by_0 j ∧ by_0 j ≤ 383) (hK_0_8 : ∀ j : Int, 0 ≤ j → j < 72 → (-1) ≤ mark_0 j ∧ mark_0 j ≤ 71) (kz_0_0 : 0 ≤ nodes_0 ∧ nodes_0 ≤ 72) : SNO (nodes_0) (from_0) (by_0) (mark_0) (x8) := by
  first
    | exact sno_start (fun w a b => by first | (have q := hT0 w a (by omega); omega) | (have q := hT1 w a (by omega); omega) | (have q := hT2 w a (by omega); omega) | (have q := hT3 w a (by omega); omega)) (by omega) (by omega)
    | (skip; exact sni_next ‹SNI _ _ _ _ _ _ _› (by omega) (by omega) (by omega) (by omega) (by first | (left; omega) | (right; left; omega) | (right; right; omega)) (by first | (left; omega) | (right; omega)) (by omega) (by omega))
  
def o_St_ringInBy_6 : or_T := (10, 9, [(0, (2, 0, 0, [10])), (2, (0, 0, 71, [])), (3, (0, -1, -1, [])), (4, (0, 0, 72, [])), (5, (0, 0, 72, [])), (6, (0, -1, -1, [])), (7, (0, -1, -1, [])), (8, (0, 1, 72, []))], [(6, [8, 2], [1]), (7, [3, 7], [0]), (7, [3, 6], [0]), (7, [4, 5], [5]), (9, [5, 1], [0]), (20, [1, 2, 3, 4], [60, 1, 3, 511, 0, 2, 7, 8]), (20, [2, 1], [50, 1, 0, 1000, 0, 6, 4, 2, 1, 0, 0, 1, 2, 1, 0]), (24, [0, 1], [])], [], [], [(20, [1, 8], [60, 1, 3, 510, 0, 2, 7, 8])], [], [(8, 2, 1, 1), (4, 5, -4294967296, 0)])
theorem oo_St_ringInBy_6 {kA : Nat → ClassId} : or_ok PRD kA GG o_St_ringInBy_6 := by
  refine or_mk fun A ta ws vs hD hth hl => ?_
  intro t0 r0 t2 k2 t3 k3 t4 k4 t5 k5 t6 k6 t7 k7 t8 k8 d0 d1 f0 f1 f2 f3 f4 f5 f6 f7
  replace f0 := shm_4 f0
  replace f1 := shm_37 f1
  replace f2 := shm_37 f2
  replace f3 := shm_24 f3
  replace f4 := shm_163 f4
  replace f5 := shm_926 f5
  replace f6 := shm_925 f6
  replace f7 := shm_5 f7
  have q1 : n_v vs 1 = n_v vs 0 := f7.symm
  simp only [q1] at f4 f5 f6
  have cr_0_2 := fdq_108 hD hth r0
  have cr_0_7 := fdq_116 hD hth r0
  have cr_0_8 := fdq_229 hD hth r0
  have g4 : v_iv (n_v vs 5) = w_fi ws (n_v vs 0) 0 := congrArg v_iv f4
  have hK_0_2 := elq_53 hD hth cr_0_2
  have hK_0_7 := elq_59 hD hth cr_0_7
  have hK_0_8 := elq_142 hD hth cr_0_8
  have kz_0_0 := fdq_114 hD hth r0
  have nf0 : fc_1 PRD (20, [1, 8], [60, 1, 3, 510, 0, 2, 7, 8]) ws (vs) := by
    refine ⟨nf_in hl rfl, sgq_922 ?_⟩
    · show SNO (w_fi ws (n_v vs 1) 0) (w_ei ws (w_ar ws (n_v vs 1) 2)) (w_ei ws (w_ar ws (n_v vs 1) 7)) (w_ei ws (w_ar ws (n_v vs 1) 8)) (v_iv (n_v vs 8))
      rw [q1]
      exact vc_St_ringInBy_6_0 (v_iv (n_v vs 2)) (v_iv (n_v vs 3)) (v_iv (n_v vs 4)) (v_iv (n_v vs 5)) (v_iv (n_v vs 6)) (v_iv (n_v vs 7)) (v_iv (n_v vs 8)) (w_fi ws (n_v vs 0) 0) (w_ei ws (w_ar ws (n_v vs 0) 2)) (w_ei ws (w_ar ws (n_v vs 0) 7)) (w_ei ws (w_ar ws (n_v vs 0) 8)) k2 k3 k4 k5 k6 k7 k8 d0 d1 f0 f1 f2 f3 g4 f5 f6 hK_0_2 hK_0_7 hK_0_8 kz_0_0
  refine ⟨(fun _ h => (by cases h)), [], trivial, ?_, (fun _ h => (by cases h))⟩
  rw [List.append_nil]
  exact List.forall_mem_cons.mpr ⟨⟨show (20 : Nat) < 100 from by decide, nf0⟩, (fun _ h => (by cases h))⟩
set_option maxHeartbeats 4000000 in
theorem vc_St_ringInBy_7_0 (x2 : Int) (x3 : Int) (x4 : Int) (x5 : Int) (x6 : Int) (x8 : Int) (x9 : Int) (x10 : Int) (x11 : Int) (x12 : Int) (mark_0 : Int → Int) (nodes_0 : Int) (from_0 : Int → Int) (by_0 : Int → Int) (k2 : 0 ≤ x2 ∧ x2 ≤ 71) (k3 : 0 ≤ x3 ∧ x3 ≤ 71) (k4 : 0 ≤ x4 ∧ x4 ≤ 72) (k5 : 0 ≤ x5 ∧ x5 ≤ 72) (k6 : (-1) ≤ x6 ∧ x6 ≤ (-1)) (k8 : 0 ≤ x8 ∧ x8 ≤ 71) (k9 : (-1) ≤ x9 ∧ x9 ≤ (-1)) (k10 : (-1) ≤ x10 ∧ x10 ≤ (-1)) (k11 : (-1) ≤ x11 ∧ x11 ≤ 71) (k12 : 1 ≤ x12 ∧ x12 ≤ 72) (d0 : x2 + 1 ≤ x12 ∧ x12 ≤ x2 + 1) (d1 : x5 + (-4294967296) ≤ x4 ∧ x4 ≤ x5 + 0) (f0 : x12 = x2 + 1) (f1 : x11 ≠ x2) (h2 : x11 = mark_0 (x3)) (f4 : x3 ≠ x10) (f5 : x8 ≠ x9) (h6 : x8 = mark_0 (x3)) (f7 : x3 ≠ x6) (f8 : x4 ≤ x5) (g9 : x5 = nodes_0) (f10 : SNI (nodes_0) (from_0) (by_0) (mark_0) (x2) (x3) (x4)) (f11 : (x2 + 1) ≤ nodes_0) (hK_0_2 : ∀ j : Int, 0 ≤ j → j < 384 → 0 ≤ from_0 j ∧ from_0 j ≤ 71) (hK_0_7 : ∀ j : Int, 0 ≤ j → j < 72 → (-1) ≤ by_0 j ∧ by_0 j ≤ 383) (hK_0_8 : ∀ j : Int, 0 ≤ j → j < 72 → (-1) ≤ mark_0 j ∧ mark_0 j ≤ 71) (kz_0_0 : 0 ≤ nodes_0 ∧ nodes_0 ≤ 72) : SNO (nodes_0) (from_0) (by_0) (mark_0) (x12) := by
  first
    | exact sno_start (fun w a b => by first | (have q := hT0 w a (by omega); omega) | (have q := hT1 w a (by omega); omega) | (have q := hT2 w a (by omega); omega) | (have q := hT3 w a (by omega); omega)) (by omega) (by omega)
    | (skip; (first | subst h2 | skip); (first | subst h6 | skip); exact sni_next ‹SNI _ _ _ _ _ _ _› (by omega) (by omega) (by omega) (by omega) (by first | (left; omega) | (right; left; omega) | (right; right; omega)) (by first | (left; omega) | (right; omega)) (by omega) (by omega))
  
def o_St_ringInBy_7 : or_T := (10, 13, [(0, (2, 0, 0, [10])), (2, (0, 0, 71, [])), (3, (0, 0, 71, [])), (4, (0, 0, 72, [])), (5, (0, 0, 72, [])), (6, (0, -1, -1, [])), (8, (0, 0, 71, [])), (9, (0, -1, -1, [])), (10, (0, -1, -1, [])), (11, (0, -1, 71, [])), (12, (0, 1, 72, []))], [(6, [12, 2], [1]), (7, [11, 2], [1]), (10, [11, 7, 3], []), (9, [7, 1], [8]), (7, [3, 10], [1]), (7, [8, 9], [1]), (10, [8, 7, 3], []), (7, [3, 6], [1]), (7, [4, 5], [5]), (9, [5, 1], [0]), (20, [1, 2, 3, 4], [60, 1, 3, 511, 0, 2, 7, 8]), (20, [2, 1], [50, 1, 0, 1000, 0, 6, 4, 2, 1, 0, 0, 1, 2, 1, 0]), (24, [0, 1], [])], [], [], [(20, [1, 12], [60, 1, 3, 510, 0, 2, 7, 8])], [], [(12, 2, 1, 1), (4, 5, -4294967296, 0)])
theorem oo_St_ringInBy_7 {kA : Nat → ClassId} : or_ok PRD kA GG o_St_ringInBy_7 := by
  refine or_mk fun A ta ws vs hD hth hl => ?_
  intro t0 r0 t2 k2 t3 k3 t4 k4 t5 k5 t6 k6 t8 k8 t9 k9 t10 k10 t11 k11 t12 k12 d0 d1 f0 f1 f2 f3 f4 f5 f6 f7 f8 f9 f10 f11 f12
  replace f0 := shm_4 f0
  replace f1 := shm_40 f1
  replace f2 := shm_107 f2
  replace f3 := shm_293 f3
  replace f4 := shm_40 f4
  replace f5 := shm_40 f5
  replace f6 := shm_107 f6
  replace f7 := shm_40 f7
  replace f8 := shm_24 f8
  replace f9 := shm_163 f9
  replace f10 := shm_926 f10
  replace f11 := shm_925 f11
  replace f12 := shm_5 f12
  have q1 : n_v vs 1 = n_v vs 0 := f12.symm
  simp only [q1] at f3 f9 f10 f11
  have cr_0_2 := fdq_108 hD hth r0
  have cr_0_7 := fdq_116 hD hth r0
  have cr_0_8 := fdq_229 hD hth r0
  have ad_7 : v_ad (n_v vs 7) = w_ar ws (n_v vs 0) 8 := congrArg v_ad f3
  simp only [ad_7] at f2
  have h2 : v_iv (n_v vs 11) = w_ei ws (w_ar ws (n_v vs 0) 8) (v_iv (n_v vs 3)) := f2
  simp only [ad_7] at f6
  have h6 : v_iv (n_v vs 8) = w_ei ws (w_ar ws (n_v vs 0) 8) (v_iv (n_v vs 3)) := f6
  have g9 : v_iv (n_v vs 5) = w_fi ws (n_v vs 0) 0 := congrArg v_iv f9
  have hK_0_2 := elq_53 hD hth cr_0_2
  have hK_0_7 := elq_59 hD hth cr_0_7
  have hK_0_8 := elq_142 hD hth cr_0_8
  have kz_0_0 := fdq_114 hD hth r0
  have nf0 : fc_1 PRD (20, [1, 12], [60, 1, 3, 510, 0, 2, 7, 8]) ws (vs) := by
    refine ⟨nf_in hl rfl, sgq_922 ?_⟩
    · show SNO (w_fi ws (n_v vs 1) 0) (w_ei ws (w_ar ws (n_v vs 1) 2)) (w_ei ws (w_ar ws (n_v vs 1) 7)) (w_ei ws (w_ar ws (n_v vs 1) 8)) (v_iv (n_v vs 12))
      rw [q1]
      exact vc_St_ringInBy_7_0 (v_iv (n_v vs 2)) (v_iv (n_v vs 3)) (v_iv (n_v vs 4)) (v_iv (n_v vs 5)) (v_iv (n_v vs 6)) (v_iv (n_v vs 8)) (v_iv (n_v vs 9)) (v_iv (n_v vs 10)) (v_iv (n_v vs 11)) (v_iv (n_v vs 12)) (w_ei ws (w_ar ws (n_v vs 0) 8)) (w_fi ws (n_v vs 0) 0) (w_ei ws (w_ar ws (n_v vs 0) 2)) (w_ei ws (w_ar ws (n_v vs 0) 7)) k2 k3 k4 k5 k6 k8 k9 k10 k11 k12 d0 d1 f0 f1 h2 f4 f5 h6 f7 f8 g9 f10 f11 hK_0_2 hK_0_7 hK_0_8 kz_0_0
  refine ⟨(fun _ h => (by cases h)), [], trivial, ?_, (fun _ h => (by cases h))⟩
  rw [List.append_nil]
  exact List.forall_mem_cons.mpr ⟨⟨show (20 : Nat) < 100 from by decide, nf0⟩, (fun _ h => (by cases h))⟩
set_option maxHeartbeats 4000000 in
theorem vc_St_ringInBy_8_0 (x2 : Int) (x3 : Int) (x4 : Int) (x5 : Int) (x6 : Int) (x8 : Int) (x9 : Int) (x10 : Int) (x11 : Int) (mark_0 : Int → Int) (nodes_0 : Int) (from_0 : Int → Int) (by_0 : Int → Int) (k2 : 0 ≤ x2 ∧ x2 ≤ 71) (k3 : 0 ≤ x3 ∧ x3 ≤ 71) (k4 : 0 ≤ x4 ∧ x4 ≤ 72) (k5 : 0 ≤ x5 ∧ x5 ≤ 72) (k6 : (-1) ≤ x6 ∧ x6 ≤ (-1)) (k8 : 0 ≤ x8 ∧ x8 ≤ 71) (k9 : (-1) ≤ x9 ∧ x9 ≤ (-1)) (k10 : (-1) ≤ x10 ∧ x10 ≤ (-1)) (k11 : 0 ≤ x11 ∧ x11 ≤ 71) (d0 : x2 + 0 ≤ x11 ∧ x11 ≤ x2 + 0) (d1 : x5 + (-4294967296) ≤ x4 ∧ x4 ≤ x5 + 0) (f0 : x11 = x2) (h1 : x11 = mark_0 (x3)) (f3 : x3 ≠ x10) (f4 : x8 ≠ x9) (h5 : x8 = mark_0 (x3)) (f6 : x3 ≠ x6) (f7 : x4 ≤ x5) (g8 : x5 = nodes_0) (f9 : SNI (nodes_0) (from_0) (by_0) (mark_0) (x2) (x3) (x4)) (f10 : (x2 + 1) ≤ nodes_0) (hK_0_2 : ∀ j : Int, 0 ≤ j → j < 384 → 0 ≤ from_0 j ∧ from_0 j ≤ 71) (hK_0_7 : ∀ j : Int, 0 ≤ j → j < 72 → (-1) ≤ by_0 j ∧ by_0 j ≤ 383) (hK_0_8 : ∀ j : Int, 0 ≤ j → j < 72 → (-1) ≤ mark_0 j ∧ mark_0 j ≤ 71) (kz_0_0 : 0 ≤ nodes_0 ∧ nodes_0 ≤ 72) : SNB (nodes_0) (from_0) (by_0) (x3) := by
  first
    | exact snb_none ‹SNO _ _ _ _ _› (by omega) (by omega)
    | (skip; (first | subst h1 | skip); (first | subst h5 | skip); exact snb_ring ‹SNI _ _ _ _ _ _ _› rfl (by omega) (by omega) (by omega) (by omega) (by omega))
  
def o_St_ringInBy_8 : or_T := (100, 12, [(0, (2, 0, 0, [10])), (2, (0, 0, 71, [])), (3, (0, 0, 71, [])), (4, (0, 0, 72, [])), (5, (0, 0, 72, [])), (6, (0, -1, -1, [])), (8, (0, 0, 71, [])), (9, (0, -1, -1, [])), (10, (0, -1, -1, [])), (11, (0, 0, 71, []))], [(7, [11, 2], [0]), (10, [11, 7, 3], []), (9, [7, 1], [8]), (7, [3, 10], [1]), (7, [8, 9], [1]), (10, [8, 7, 3], []), (7, [3, 6], [1]), (7, [4, 5], [5]), (9, [5, 1], [0]), (20, [1, 2, 3, 4], [60, 1, 3, 511, 0, 2, 7, 8]), (20, [2, 1], [50, 1, 0, 1000, 0, 6, 4, 2, 1, 0, 0, 1, 2, 1, 0]), (24, [0, 1], [])], [], [], [(20, [0, 3], [60, 1, 2, 512, 0, 2, 7])], [], [(11, 2, 0, 0), (4, 5, -4294967296, 0)])
theorem oo_St_ringInBy_8 {kA : Nat → ClassId} : or_ok PRD kA GG o_St_ringInBy_8 := by
  refine or_mk fun A ta ws vs hD hth hl => ?_
  intro t0 r0 t2 k2 t3 k3 t4 k4 t5 k5 t6 k6 t8 k8 t9 k9 t10 k10 t11 k11 d0 d1 f0 f1 f2 f3 f4 f5 f6 f7 f8 f9 f10 f11
  replace f1 := shm_107 f1
  replace f2 := shm_293 f2
  replace f5 := shm_107 f5
  replace f8 := shm_163 f8
  replace f9 := shm_926 f9
  replace f10 := shm_925 f10
  replace f11 := shm_5 f11
  have q1 : n_v vs 1 = n_v vs 0 := f11.symm
  simp only [q1] at f2 f8 f9 f10
  have cr_0_2 := fdq_108 hD hth r0
  have cr_0_7 := fdq_116 hD hth r0
  have cr_0_8 := fdq_229 hD hth r0
  have ad_7 : v_ad (n_v vs 7) = w_ar ws (n_v vs 0) 8 := congrArg v_ad f2
  simp only [ad_7] at f1
  have h1 : v_iv (n_v vs 11) = w_ei ws (w_ar ws (n_v vs 0) 8) (v_iv (n_v vs 3)) := f1
  simp only [ad_7] at f5
  have h5 : v_iv (n_v vs 8) = w_ei ws (w_ar ws (n_v vs 0) 8) (v_iv (n_v vs 3)) := f5
  have g8 : v_iv (n_v vs 5) = w_fi ws (n_v vs 0) 0 := congrArg v_iv f8
  have hK_0_2 := elq_53 hD hth cr_0_2
  have hK_0_7 := elq_59 hD hth cr_0_7
  have hK_0_8 := elq_142 hD hth cr_0_8
  have kz_0_0 := fdq_114 hD hth r0
  have nf0 : fc_1 PRD (20, [0, 3], [60, 1, 2, 512, 0, 2, 7]) ws (vs) := ⟨nf_in hl rfl, sgq_923 (vc_St_ringInBy_8_0 (v_iv (n_v vs 2)) (v_iv (n_v vs 3)) (v_iv (n_v vs 4)) (v_iv (n_v vs 5)) (v_iv (n_v vs 6)) (v_iv (n_v vs 8)) (v_iv (n_v vs 9)) (v_iv (n_v vs 10)) (v_iv (n_v vs 11)) (w_ei ws (w_ar ws (n_v vs 0) 8)) (w_fi ws (n_v vs 0) 0) (w_ei ws (w_ar ws (n_v vs 0) 2)) (w_ei ws (w_ar ws (n_v vs 0) 7)) k2 k3 k4 k5 k6 k8 k9 k10 k11 d0 d1 (shm_37 f0) h1 (shm_40 f3) (shm_40 f4) h5 (shm_40 f6) (shm_24 f7) g8 f9 f10 hK_0_2 hK_0_7 hK_0_8 kz_0_0)⟩
  refine ⟨(fun _ h => (by cases h)), [], trivial, ?_, (fun _ h => (by cases h))⟩
  rw [List.append_nil]
  exact List.forall_mem_cons.mpr ⟨⟨show (20 : Nat) < 100 from by decide, nf0⟩, (fun _ h => (by cases h))⟩
set_option maxHeartbeats 4000000 in
theorem vc_St_ringInBy_9_r0 (x2 : Int) (x3 : Int) (x4 : Int) (x5 : Int) (x6 : Int) (x8 : Int) (x9 : Int) (x11 : Int) (x12 : Int) (x14 : Int) (nodes_0 : Int) (by_0 : Int → Int) (mark_1 : Int → Int) (from_1 : Int → Int) (by_1 : Int → Int) (nodes_1 : Int) (from_0 : Int → Int) (mark_0 : Int → Int) (k2 : 0 ≤ x2 ∧ x2 ≤ 71) (k3 : 0 ≤ x3 ∧ x3 ≤ 71) (k4 : 0 ≤ x4 ∧ x4 ≤ 72) (k5 : 0 ≤ x5 ∧ x5 ≤ 72) (k6 : (-1) ≤ x6 ∧ x6 ≤ (-1)) (k8 : (-1) ≤ x8 ∧ x8 ≤ (-1)) (k9 : (-1) ≤ x9 ∧ x9 ≤ (-1)) (k11 : 0 ≤ x11 ∧ x11 ≤ 383) (k12 : (-1) ≤ x12 ∧ x12 ≤ (-1)) (k14 : (-1) ≤ x14 ∧ x14 ≤ 383) (d0 : x5 + (-4294967296) ≤ x4 ∧ x4 ≤ x5 + 0) (g1 : x5 = nodes_0) (h2 : x14 = by_0 (x3)) (f5 : x11 ≠ x12) (h6 : x11 = by_0 (x3)) (f7 : (x2 + 1) ≤ nodes_0) (f10 : x8 = x9) (h11 : x8 = mark_1 (x3)) (f12 : x3 ≠ x6) (f13 : x4 ≤ x5) (f14 : SNI (nodes_1) (from_1) (by_1) (mark_1) (x2) (x3) (x4)) (f15 : (x2 + 1) ≤ nodes_1) (fe_0_0_1 : nodes_0 = nodes_1) (hE_0_2_1 : ∀ j : Int, from_0 j = from_1 j) (hK_0_2 : ∀ j : Int, 0 ≤ j → j < 384 → 0 ≤ from_0 j ∧ from_0 j ≤ 71) (hE_0_7_1 : ∀ j : Int, by_0 j = by_1 j) (hK_0_7 : ∀ j : Int, 0 ≤ j → j < 72 → (-1) ≤ by_0 j ∧ by_0 j ≤ 383) (hE_0_8_1 : ∀ j : Int, 0 ≤ j → (j = x3 → mark_0 j = x2) ∧ (j ≠ x3 → mark_0 j = mark_1 j)) (hK_0_8 : ∀ j : Int, 0 ≤ j → j < 72 → (-1) ≤ mark_0 j ∧ mark_0 j ≤ 71) (kz_0_0 : 0 ≤ nodes_0 ∧ nodes_0 ≤ 72) : 0 ≤ x14 ∧ x14 ≤ 383 := by
  subst fe_0_0_1
  have e_hE_0_2_1 := funext hE_0_2_1; subst e_hE_0_2_1
  have e_hE_0_7_1 := funext hE_0_7_1; subst e_hE_0_7_1
  first | subst h2 | skip
  first | subst h6 | skip
  first | subst h11 | skip
  omega
def o_St_ringInBy_9 : or_T := (76, 15, [(0, (2, 0, 0, [10])), (1, (2, 0, 0, [10])), (2, (0, 0, 71, [])), (3, (0, 0, 71, [])), (4, (0, 0, 72, [])), (5, (0, 0, 72, [])), (6, (0, -1, -1, [])), (7, (2, 0, 0, [124])), (8, (0, -1, -1, [])), (9, (0, -1, -1, [])), (10, (2, 0, 0, [123])), (11, (0, 0, 383, [])), (12, (0, -1, -1, [])), (13, (2, 0, 0, [118])), (14, (0, -1, 383, []))], [(9, [7, 1], [8]), (9, [5, 1], [0]), (10, [14, 10, 3], []), (9, [10, 1], [7]), (9, [13, 1], [2]), (7, [11, 12], [1]), (10, [11, 10, 3], []), (20, [2, 1], [50, 1, 0, 1000, 0, 6, 4, 2, 1, 0, 0, 1, 2, 1, 0]), (24, [0, 1], []), (100, [7, 3, 2], []), (7, [8, 9], [0]), (10, [8, 7, 3], []), (7, [3, 6], [1]), (7, [4, 5], [5]), (20, [1, 2, 3, 4], [60, 1, 3, 511, 0, 2, 7, 8]), (20, [2, 1], [50, 1, 0, 1000, 0, 6, 4, 2, 1, 0, 0, 1, 2, 1, 0])], [(14, (0, 0, 383, []))], [], [], [], [(4, 5, -4294967296, 0)])
theorem oo_St_ringInBy_9 {kA : Nat → ClassId} : or_ok PRD kA GG o_St_ringInBy_9 := by
  refine or_mk fun A ta ws vs hD hth hl => ?_
  intro t0 r0 t1 r1 t2 k2 t3 k3 t4 k4 t5 k5 t6 k6 t7 r7 t8 k8 t9 k9 t10 r10 t11 k11 t12 k12 t13 r13 t14 k14 d0 f0 f1 f2 f3 f4 f5 f6 f7 f8 ta1 w1 le1 s1 f10 f11 f12 f13 f14 f15
  replace f0 := shm_293 f0
  replace f1 := shm_163 f1
  replace f2 := shm_107 f2
  replace f3 := shm_198 f3
  replace f6 := shm_107 f6
  replace f7 := shm_925 f7
  replace f8 := shm_5 f8
  have s1 : (∀ b j, w_el ws b j = if b = v_ad (n_v vs 7) ∧ j = (v_iv (n_v vs 3)).toNat then v_iv (n_v vs 2) else w_el w1 b j) ∧ ∀ b k, w_fd ws b k = w_fd w1 b k := s1.2
  replace f11 := shm_107 f11
  replace f14 := shm_926 f14
  replace f15 := shm_925 f15
  have q1 : n_v vs 1 = n_v vs 0 := f8.symm
  simp only [q1] at f0 f1 f3 f7 f14 f15
  have ar_0_2_1 : w_ar w1 (n_v vs 0) 2 = w_ar ws (n_v vs 0) 2 := congrArg v_ad (s1.2 _ _).symm
  have cr_0_2 := fdq_108 hD hth r0
  have ar_0_7_1 : w_ar w1 (n_v vs 0) 7 = w_ar ws (n_v vs 0) 7 := congrArg v_ad (s1.2 _ _).symm
  have cr_0_7 := fdq_116 hD hth r0
  have ar_0_8_1 : w_ar w1 (n_v vs 0) 8 = w_ar ws (n_v vs 0) 8 := congrArg v_ad (s1.2 _ _).symm
  have cr_0_8 := fdq_229 hD hth r0
  have ad_7 : v_ad (n_v vs 7) = w_ar ws (n_v vs 0) 8 := congrArg v_ad f0
  have ad_10 : v_ad (n_v vs 10) = w_ar ws (n_v vs 0) 7 := congrArg v_ad f3
  have g1 : v_iv (n_v vs 5) = w_fi ws (n_v vs 0) 0 := congrArg v_iv f1
  simp only [ad_10] at f2
  have h2 : v_iv (n_v vs 14) = w_ei ws (w_ar ws (n_v vs 0) 7) (v_iv (n_v vs 3)) := f2
  simp only [ad_10] at f6
  have h6 : v_iv (n_v vs 11) = w_ei ws (w_ar ws (n_v vs 0) 7) (v_iv (n_v vs 3)) := f6
  simp only [ad_7] at f11
  have h11 : v_iv (n_v vs 8) = w_ei w1 (w_ar ws (n_v vs 0) 8) (v_iv (n_v vs 3)) := f11
  simp only [ar_0_2_1, ar_0_7_1, ar_0_8_1] at f14
  have fe_0_0_1 : w_fi ws (n_v vs 0) 0 = w_fi w1 (n_v vs 0) 0 := congrArg v_iv (s1.2 _ _)
  have hE_0_2_1 : ∀ j : Int, w_ei ws (w_ar ws (n_v vs 0) 2) j = w_ei w1 (w_ar ws (n_v vs 0) 2) j := el_kp s1.1 r7 cr_0_2 (by decide)
  have hK_0_2 := elq_53 hD hth cr_0_2
  have hE_0_7_1 : ∀ j : Int, w_ei ws (w_ar ws (n_v vs 0) 7) j = w_ei w1 (w_ar ws (n_v vs 0) 7) j := el_kp s1.1 r7 cr_0_7 (by decide)
  have hK_0_7 := elq_59 hD hth cr_0_7
  have hE_0_8_1 : ∀ j : Int, 0 ≤ j → (j = v_iv (n_v vs 3) → w_ei ws (w_ar ws (n_v vs 0) 8) j = v_iv (n_v vs 2)) ∧ (j ≠ v_iv (n_v vs 3) → w_ei ws (w_ar ws (n_v vs 0) 8) j = w_ei w1 (w_ar ws (n_v vs 0) 8) j) := fun j hj => ⟨fun h => by unfold w_ei; rw [s1.1, if_pos ⟨ad_7.symm, by rw [h]⟩], fun h => by unfold w_ei; rw [s1.1, if_neg (fun e => h (by have := e.2; omega))]⟩
  have hK_0_8 := elq_142 hD hth cr_0_8
  have kz_0_0 := fdq_114 hD hth r0
  have hrf0 : 0 ≤ v_iv (n_v vs 14) ∧ v_iv (n_v vs 14) ≤ 383 := vc_St_ringInBy_9_r0 (v_iv (n_v vs 2)) (v_iv (n_v vs 3)) (v_iv (n_v vs 4)) (v_iv (n_v vs 5)) (v_iv (n_v vs 6)) (v_iv (n_v vs 8)) (v_iv (n_v vs 9)) (v_iv (n_v vs 11)) (v_iv (n_v vs 12)) (v_iv (n_v vs 14)) (w_fi ws (n_v vs 0) 0) (w_ei ws (w_ar ws (n_v vs 0) 7)) (w_ei w1 (w_ar ws (n_v vs 0) 8)) (w_ei w1 (w_ar ws (n_v vs 0) 2)) (w_ei w1 (w_ar ws (n_v vs 0) 7)) (w_fi w1 (n_v vs 0) 0) (w_ei ws (w_ar ws (n_v vs 0) 2)) (w_ei ws (w_ar ws (n_v vs 0) 8)) k2 k3 k4 k5 k6 k8 k9 k11 k12 k14 d0 g1 h2 (shm_40 f5) h6 f7 (shm_37 f10) h11 (shm_40 f12) (shm_24 f13) f14 f15 fe_0_0_1 hE_0_2_1 hK_0_2 hE_0_7_1 hK_0_7 hE_0_8_1 hK_0_8 kz_0_0
  have rf14 : tv_ok ta (0, 0, 383, []) (n_v vs 14) := tv_in t14 (by first | omega | grind) (by first | omega | grind)
  refine ⟨List.forall_mem_cons.mpr ⟨rf14, (fun _ h => (by cases h))⟩, [], trivial, ?_, (fun _ h => (by cases h))⟩
  rw [List.append_nil]
  exact (fun _ h => (by cases h))
set_option maxHeartbeats 4000000 in
theorem vc_St_ringInBy_10_0 (x2 : Int) (x3 : Int) (x4 : Int) (x5 : Int) (x6 : Int) (x8 : Int) (x9 : Int) (x11 : Int) (x12 : Int) (x14 : Int) (x15 : Int) (x16 : Int) (nodes_0 : Int) (from_0 : Int → Int) (by_0 : Int → Int) (mark_1 : Int → Int) (from_1 : Int → Int) (by_1 : Int → Int) (nodes_1 : Int) (mark_0 : Int → Int) (k2 : 0 ≤ x2 ∧ x2 ≤ 71) (k3 : 0 ≤ x3 ∧ x3 ≤ 71) (k4 : 0 ≤ x4 ∧ x4 ≤ 72) (k5 : 0 ≤ x5 ∧ x5 ≤ 72) (k6 : (-1) ≤ x6 ∧ x6 ≤ (-1)) (k8 : (-1) ≤ x8 ∧ x8 ≤ (-1)) (k9 : (-1) ≤ x9 ∧ x9 ≤ (-1)) (k11 : 0 ≤ x11 ∧ x11 ≤ 383) (k12 : (-1) ≤ x12 ∧ x12 ≤ (-1)) (k14 : 0 ≤ x14 ∧ x14 ≤ 383) (k15 : 0 ≤ x15 ∧ x15 ≤ 71) (k16 : 1 ≤ x16 ∧ x16 ≤ 73) (d0 : x4 + 1 ≤ x16 ∧ x16 ≤ x4 + 1) (d1 : x5 + (-4294967296) ≤ x16 ∧ x16 ≤ x5 + 1) (d2 : x5 + (-4294967296) ≤ x4 ∧ x4 ≤ x5 + 0) (g1 : x5 = nodes_0) (f2 : x16 = x4 + 1) (h3 : x15 = from_0 (x14)) (h4 : x14 = by_0 (x3)) (f7 : x11 ≠ x12) (h8 : x11 = by_0 (x3)) (f9 : (x2 + 1) ≤ nodes_0) (f12 : x8 = x9) (h13 : x8 = mark_1 (x3)) (f14 : x3 ≠ x6) (f15 : x4 ≤ x5) (f16 : SNI (nodes_1) (from_1) (by_1) (mark_1) (x2) (x3) (x4)) (f17 : (x2 + 1) ≤ nodes_1) (fe_0_0_1 : nodes_0 = nodes_1) (hE_0_2_1 : ∀ j : Int, from_0 j = from_1 j) (hK_0_2 : ∀ j : Int, 0 ≤ j → j < 384 → 0 ≤ from_0 j ∧ from_0 j ≤ 71) (hE_0_7_1 : ∀ j : Int, by_0 j = by_1 j) (hK_0_7 : ∀ j : Int, 0 ≤ j → j < 72 → (-1) ≤ by_0 j ∧ by_0 j ≤ 383) (hE_0_8_1 : ∀ j : Int, 0 ≤ j → (j = x3 → mark_0 j = x2) ∧ (j ≠ x3 → mark_0 j = mark_1 j)) (hK_0_8 : ∀ j : Int, 0 ≤ j → j < 72 → (-1) ≤ mark_0 j ∧ mark_0 j ≤ 71) (kz_0_0 : 0 ≤ nodes_0 ∧ nodes_0 ≤ 72) : SNI (nodes_0) (from_0) (by_0) (mark_0) (x2) (x15) (x16) := by
  subst fe_0_0_1
  have e_hE_0_2_1 := funext hE_0_2_1; subst e_hE_0_2_1
  have e_hE_0_7_1 := funext hE_0_7_1; subst e_hE_0_7_1
  first
    | exact sni_start ‹SNO _ _ _ _ _› (by omega) (by omega)
    | (skip; (first | subst h3 | skip); (first | subst h4 | skip); (first | subst h8 | skip); (first | subst h13 | skip); exact sni_step ‹SNI _ _ _ _ _ _ _› (by assumption) rfl rfl (by omega) (by omega) (by omega) (by omega) (by first | (left; omega) | (right; exact ⟨by omega, rfl⟩)) (by omega))
  
def o_St_ringInBy_10 : or_T := (22, 17, [(0, (2, 0, 0, [10])), (2, (0, 0, 71, [])), (3, (0, 0, 71, [])), (4, (0, 0, 72, [])), (5, (0, 0, 72, [])), (6, (0, -1, -1, [])), (7, (2, 0, 0, [124])), (8, (0, -1, -1, [])), (9, (0, -1, -1, [])), (11, (0, 0, 383, [])), (12, (0, -1, -1, [])), (14, (0, 0, 383, [])), (15, (0, 0, 71, [])), (16, (0, 1, 73, []))], [(9, [7, 1], [8]), (9, [5, 1], [0]), (6, [16, 4], [1]), (10, [15, 13, 14], []), (10, [14, 10, 3], []), (9, [10, 1], [7]), (9, [13, 1], [2]), (7, [11, 12], [1]), (10, [11, 10, 3], []), (20, [2, 1], [50, 1, 0, 1000, 0, 6, 4, 2, 1, 0, 0, 1, 2, 1, 0]), (24, [0, 1], []), (100, [7, 3, 2], []), (7, [8, 9], [0]), (10, [8, 7, 3], []), (7, [3, 6], [1]), (7, [4, 5], [5]), (20, [1, 2, 3, 4], [60, 1, 3, 511, 0, 2, 7, 8]), (20, [2, 1], [50, 1, 0, 1000, 0, 6, 4, 2, 1, 0, 0, 1, 2, 1, 0])], [], [], [(20, [1, 2, 15, 16], [60, 1, 3, 511, 0, 2, 7, 8])], [], [(16, 4, 1, 1), (16, 5, -4294967296, 1), (4, 5, -4294967296, 0)])
theorem oo_St_ringInBy_10 {kA : Nat → ClassId} : or_ok PRD kA GG o_St_ringInBy_10 := by
  refine or_mk fun A ta ws vs hD hth hl => ?_
  intro t0 r0 t2 k2 t3 k3 t4 k4 t5 k5 t6 k6 t7 r7 t8 k8 t9 k9 t11 k11 t12 k12 t14 k14 t15 k15 t16 k16 d0 d1 d2 f0 f1 f2 f3 f4 f5 f6 f7 f8 f9 f10 ta1 w1 le1 s1 f12 f13 f14 f15 f16 f17
  replace f0 := shm_293 f0
  replace f1 := shm_163 f1
  replace f2 := shm_4 f2
  replace f3 := shm_107 f3
  replace f4 := shm_107 f4
  replace f5 := shm_198 f5
  replace f6 := shm_120 f6
  replace f7 := shm_40 f7
  replace f8 := shm_107 f8
  replace f9 := shm_925 f9
  replace f10 := shm_5 f10
  have s1 : (∀ b j, w_el ws b j = if b = v_ad (n_v vs 7) ∧ j = (v_iv (n_v vs 3)).toNat then v_iv (n_v vs 2) else w_el w1 b j) ∧ ∀ b k, w_fd ws b k = w_fd w1 b k := s1.2
  replace f12 := shm_37 f12
  replace f13 := shm_107 f13
  replace f14 := shm_40 f14
  replace f15 := shm_24 f15
  replace f16 := shm_926 f16
  replace f17 := shm_925 f17
  have q1 : n_v vs 1 = n_v vs 0 := f10.symm
  simp only [q1] at f0 f1 f5 f6 f9 f16 f17
  have ar_0_2_1 : w_ar w1 (n_v vs 0) 2 = w_ar ws (n_v vs 0) 2 := congrArg v_ad (s1.2 _ _).symm
  have cr_0_2 := fdq_108 hD hth r0
  have ar_0_7_1 : w_ar w1 (n_v vs 0) 7 = w_ar ws (n_v vs 0) 7 := congrArg v_ad (s1.2 _ _).symm
  have cr_0_7 := fdq_116 hD hth r0
  have ar_0_8_1 : w_ar w1 (n_v vs 0) 8 = w_ar ws (n_v vs 0) 8 := congrArg v_ad (s1.2 _ _).symm
  have cr_0_8 := fdq_229 hD hth r0
  have ad_7 : v_ad (n_v vs 7) = w_ar ws (n_v vs 0) 8 := congrArg v_ad f0
  have ad_10 : v_ad (n_v vs 10) = w_ar ws (n_v vs 0) 7 := congrArg v_ad f5
  have ad_13 : v_ad (n_v vs 13) = w_ar ws (n_v vs 0) 2 := congrArg v_ad f6
  have g1 : v_iv (n_v vs 5) = w_fi ws (n_v vs 0) 0 := congrArg v_iv f1
  simp only [ad_13] at f3
  have h3 : v_iv (n_v vs 15) = w_ei ws (w_ar ws (n_v vs 0) 2) (v_iv (n_v vs 14)) := f3
  simp only [ad_10] at f4
  have h4 : v_iv (n_v vs 14) = w_ei ws (w_ar ws (n_v vs 0) 7) (v_iv (n_v vs 3)) := f4
  simp only [ad_10] at f8
  have h8 : v_iv (n_v vs 11) = w_ei ws (w_ar ws (n_v vs 0) 7) (v_iv (n_v vs 3)) := f8
  simp only [ad_7] at f13
  have h13 : v_iv (n_v vs 8) = w_ei w1 (w_ar ws (n_v vs 0) 8) (v_iv (n_v vs 3)) := f13
  simp only [ar_0_2_1, ar_0_7_1, ar_0_8_1] at f16
  have fe_0_0_1 : w_fi ws (n_v vs 0) 0 = w_fi w1 (n_v vs 0) 0 := congrArg v_iv (s1.2 _ _)
  have hE_0_2_1 : ∀ j : Int, w_ei ws (w_ar ws (n_v vs 0) 2) j = w_ei w1 (w_ar ws (n_v vs 0) 2) j := el_kp s1.1 r7 cr_0_2 (by decide)
  have hK_0_2 := elq_53 hD hth cr_0_2
  have hE_0_7_1 : ∀ j : Int, w_ei ws (w_ar ws (n_v vs 0) 7) j = w_ei w1 (w_ar ws (n_v vs 0) 7) j := el_kp s1.1 r7 cr_0_7 (by decide)
  have hK_0_7 := elq_59 hD hth cr_0_7
  have hE_0_8_1 : ∀ j : Int, 0 ≤ j → (j = v_iv (n_v vs 3) → w_ei ws (w_ar ws (n_v vs 0) 8) j = v_iv (n_v vs 2)) ∧ (j ≠ v_iv (n_v vs 3) → w_ei ws (w_ar ws (n_v vs 0) 8) j = w_ei w1 (w_ar ws (n_v vs 0) 8) j) := fun j hj => ⟨fun h => by unfold w_ei; rw [s1.1, if_pos ⟨ad_7.symm, by rw [h]⟩], fun h => by unfold w_ei; rw [s1.1, if_neg (fun e => h (by have := e.2; omega))]⟩
  have hK_0_8 := elq_142 hD hth cr_0_8
  have kz_0_0 := fdq_114 hD hth r0
  have nf0 : fc_1 PRD (20, [1, 2, 15, 16], [60, 1, 3, 511, 0, 2, 7, 8]) ws (vs) := by
    refine ⟨nf_in hl rfl, sgq_926 ?_⟩
    · show SNI (w_fi ws (n_v vs 1) 0) (w_ei ws (w_ar ws (n_v vs 1) 2)) (w_ei ws (w_ar ws (n_v vs 1) 7)) (w_ei ws (w_ar ws (n_v vs 1) 8)) (v_iv (n_v vs 2)) (v_iv (n_v vs 15)) (v_iv (n_v vs 16))
      rw [q1]
      exact vc_St_ringInBy_10_0 (v_iv (n_v vs 2)) (v_iv (n_v vs 3)) (v_iv (n_v vs 4)) (v_iv (n_v vs 5)) (v_iv (n_v vs 6)) (v_iv (n_v vs 8)) (v_iv (n_v vs 9)) (v_iv (n_v vs 11)) (v_iv (n_v vs 12)) (v_iv (n_v vs 14)) (v_iv (n_v vs 15)) (v_iv (n_v vs 16)) (w_fi ws (n_v vs 0) 0) (w_ei ws (w_ar ws (n_v vs 0) 2)) (w_ei ws (w_ar ws (n_v vs 0) 7)) (w_ei w1 (w_ar ws (n_v vs 0) 8)) (w_ei w1 (w_ar ws (n_v vs 0) 2)) (w_ei w1 (w_ar ws (n_v vs 0) 7)) (w_fi w1 (n_v vs 0) 0) (w_ei ws (w_ar ws (n_v vs 0) 8)) k2 k3 k4 k5 k6 k8 k9 k11 k12 k14 k15 k16 d0 d1 d2 g1 f2 h3 h4 f7 h8 f9 f12 h13 f14 f15 f16 f17 fe_0_0_1 hE_0_2_1 hK_0_2 hE_0_7_1 hK_0_7 hE_0_8_1 hK_0_8 kz_0_0
  refine ⟨(fun _ h => (by cases h)), [], trivial, ?_, (fun _ h => (by cases h))⟩
  rw [List.append_nil]
  exact List.forall_mem_cons.mpr ⟨⟨show (20 : Nat) < 100 from by decide, nf0⟩, (fun _ h => (by cases h))⟩
set_option maxHeartbeats 4000000 in
theorem vc_St_ringInBy_11_0 (x2 : Int) (x3 : Int) (x4 : Int) (x5 : Int) (x6 : Int) (x8 : Int) (x9 : Int) (x11 : Int) (x12 : Int) (x13 : Int) (x14 : Int) (nodes_0 : Int) (by_0 : Int → Int) (mark_1 : Int → Int) (from_1 : Int → Int) (by_1 : Int → Int) (nodes_1 : Int) (from_0 : Int → Int) (mark_0 : Int → Int) (k2 : 0 ≤ x2 ∧ x2 ≤ 71) (k3 : 0 ≤ x3 ∧ x3 ≤ 71) (k4 : 0 ≤ x4 ∧ x4 ≤ 72) (k5 : 0 ≤ x5 ∧ x5 ≤ 72) (k6 : (-1) ≤ x6 ∧ x6 ≤ (-1)) (k8 : (-1) ≤ x8 ∧ x8 ≤ (-1)) (k9 : (-1) ≤ x9 ∧ x9 ≤ (-1)) (k11 : (-1) ≤ x11 ∧ x11 ≤ (-1)) (k12 : (-1) ≤ x12 ∧ x12 ≤ (-1)) (k13 : (-1) ≤ x13 ∧ x13 ≤ (-1)) (k14 : 1 ≤ x14 ∧ x14 ≤ 73) (d0 : x4 + 1 ≤ x14 ∧ x14 ≤ x4 + 1) (d1 : x5 + (-4294967296) ≤ x14 ∧ x14 ≤ x5 + 1) (d2 : x5 + (-4294967296) ≤ x4 ∧ x4 ≤ x5 + 0) (g1 : x5 = nodes_0) (f2 : x14 = x4 + 1) (f3 : x11 = x12) (h4 : x11 = by_0 (x3)) (f6 : (x2 + 1) ≤ nodes_0) (f9 : x8 = x9) (h10 : x8 = mark_1 (x3)) (f11 : x3 ≠ x6) (f12 : x4 ≤ x5) (f13 : SNI (nodes_1) (from_1) (by_1) (mark_1) (x2) (x3) (x4)) (f14 : (x2 + 1) ≤ nodes_1) (fe_0_0_1 : nodes_0 = nodes_1) (hE_0_2_1 : ∀ j : Int, from_0 j = from_1 j) (hK_0_2 : ∀ j : Int, 0 ≤ j → j < 384 → 0 ≤ from_0 j ∧ from_0 j ≤ 71) (hE_0_7_1 : ∀ j : Int, by_0 j = by_1 j) (hK_0_7 : ∀ j : Int, 0 ≤ j → j < 72 → (-1) ≤ by_0 j ∧ by_0 j ≤ 383) (hE_0_8_1 : ∀ j : Int, 0 ≤ j → (j = x3 → mark_0 j = x2) ∧ (j ≠ x3 → mark_0 j = mark_1 j)) (hK_0_8 : ∀ j : Int, 0 ≤ j → j < 72 → (-1) ≤ mark_0 j ∧ mark_0 j ≤ 71) (kz_0_0 : 0 ≤ nodes_0 ∧ nodes_0 ≤ 72) : SNI (nodes_0) (from_0) (by_0) (mark_0) (x2) (x13) (x14) := by
  subst fe_0_0_1
  have e_hE_0_2_1 := funext hE_0_2_1; subst e_hE_0_2_1
  have e_hE_0_7_1 := funext hE_0_7_1; subst e_hE_0_7_1
  first
    | exact sni_start ‹SNO _ _ _ _ _› (by omega) (by omega)
    | (skip; (first | subst h4 | skip); (first | subst h10 | skip); exact sni_step ‹SNI _ _ _ _ _ _ _› (by assumption) rfl rfl (by omega) (by omega) (by omega) (by omega) (by first | (left; omega) | (right; exact ⟨by omega, rfl⟩)) (by omega))
  
def o_St_ringInBy_11 : or_T := (22, 15, [(0, (2, 0, 0, [10])), (2, (0, 0, 71, [])), (3, (0, 0, 71, [])), (4, (0, 0, 72, [])), (5, (0, 0, 72, [])), (6, (0, -1, -1, [])), (7, (2, 0, 0, [124])), (8, (0, -1, -1, [])), (9, (0, -1, -1, [])), (11, (0, -1, -1, [])), (12, (0, -1, -1, [])), (13, (0, -1, -1, [])), (14, (0, 1, 73, []))], [(9, [7, 1], [8]), (9, [5, 1], [0]), (6, [14, 4], [1]), (7, [11, 12], [0]), (10, [11, 10, 3], []), (9, [10, 1], [7]), (20, [2, 1], [50, 1, 0, 1000, 0, 6, 4, 2, 1, 0, 0, 1, 2, 1, 0]), (24, [0, 1], []), (100, [7, 3, 2], []), (7, [8, 9], [0]), (10, [8, 7, 3], []), (7, [3, 6], [1]), (7, [4, 5], [5]), (20, [1, 2, 3, 4], [60, 1, 3, 511, 0, 2, 7, 8]), (20, [2, 1], [50, 1, 0, 1000, 0, 6, 4, 2, 1, 0, 0, 1, 2, 1, 0])], [], [], [(20, [1, 2, 13, 14], [60, 1, 3, 511, 0, 2, 7, 8])], [], [(14, 4, 1, 1), (14, 5, -4294967296, 1), (4, 5, -4294967296, 0)])
theorem oo_St_ringInBy_11 {kA : Nat → ClassId} : or_ok PRD kA GG o_St_ringInBy_11 := by
  refine or_mk fun A ta ws vs hD hth hl => ?_
  intro t0 r0 t2 k2 t3 k3 t4 k4 t5 k5 t6 k6 t7 r7 t8 k8 t9 k9 t11 k11 t12 k12 t13 k13 t14 k14 d0 d1 d2 f0 f1 f2 f3 f4 f5 f6 f7 ta1 w1 le1 s1 f9 f10 f11 f12 f13 f14
  replace f0 := shm_293 f0
  replace f1 := shm_163 f1
  replace f2 := shm_4 f2
  replace f3 := shm_37 f3
  replace f4 := shm_107 f4
  replace f5 := shm_198 f5
  replace f6 := shm_925 f6
  replace f7 := shm_5 f7
  have s1 : (∀ b j, w_el ws b j = if b = v_ad (n_v vs 7) ∧ j = (v_iv (n_v vs 3)).toNat then v_iv (n_v vs 2) else w_el w1 b j) ∧ ∀ b k, w_fd ws b k = w_fd w1 b k := s1.2
  replace f9 := shm_37 f9
  replace f10 := shm_107 f10
  replace f11 := shm_40 f11
  replace f12 := shm_24 f12
  replace f13 := shm_926 f13
  replace f14 := shm_925 f14
  have q1 : n_v vs 1 = n_v vs 0 := f7.symm
  simp only [q1] at f0 f1 f5 f6 f13 f14
  have ar_0_2_1 : w_ar w1 (n_v vs 0) 2 = w_ar ws (n_v vs 0) 2 := congrArg v_ad (s1.2 _ _).symm
  have cr_0_2 := fdq_108 hD hth r0
  have ar_0_7_1 : w_ar w1 (n_v vs 0) 7 = w_ar ws (n_v vs 0) 7 := congrArg v_ad (s1.2 _ _).symm
  have cr_0_7 := fdq_116 hD hth r0
  have ar_0_8_1 : w_ar w1 (n_v vs 0) 8 = w_ar ws (n_v vs 0) 8 := congrArg v_ad (s1.2 _ _).symm
  have cr_0_8 := fdq_229 hD hth r0
  have ad_7 : v_ad (n_v vs 7) = w_ar ws (n_v vs 0) 8 := congrArg v_ad f0
  have ad_10 : v_ad (n_v vs 10) = w_ar ws (n_v vs 0) 7 := congrArg v_ad f5
  have g1 : v_iv (n_v vs 5) = w_fi ws (n_v vs 0) 0 := congrArg v_iv f1
  simp only [ad_10] at f4
  have h4 : v_iv (n_v vs 11) = w_ei ws (w_ar ws (n_v vs 0) 7) (v_iv (n_v vs 3)) := f4
  simp only [ad_7] at f10
  have h10 : v_iv (n_v vs 8) = w_ei w1 (w_ar ws (n_v vs 0) 8) (v_iv (n_v vs 3)) := f10
  simp only [ar_0_2_1, ar_0_7_1, ar_0_8_1] at f13
  have fe_0_0_1 : w_fi ws (n_v vs 0) 0 = w_fi w1 (n_v vs 0) 0 := congrArg v_iv (s1.2 _ _)
  have hE_0_2_1 : ∀ j : Int, w_ei ws (w_ar ws (n_v vs 0) 2) j = w_ei w1 (w_ar ws (n_v vs 0) 2) j := el_kp s1.1 r7 cr_0_2 (by decide)
  have hK_0_2 := elq_53 hD hth cr_0_2
  have hE_0_7_1 : ∀ j : Int, w_ei ws (w_ar ws (n_v vs 0) 7) j = w_ei w1 (w_ar ws (n_v vs 0) 7) j := el_kp s1.1 r7 cr_0_7 (by decide)
  have hK_0_7 := elq_59 hD hth cr_0_7
  have hE_0_8_1 : ∀ j : Int, 0 ≤ j → (j = v_iv (n_v vs 3) → w_ei ws (w_ar ws (n_v vs 0) 8) j = v_iv (n_v vs 2)) ∧ (j ≠ v_iv (n_v vs 3) → w_ei ws (w_ar ws (n_v vs 0) 8) j = w_ei w1 (w_ar ws (n_v vs 0) 8) j) := fun j hj => ⟨fun h => by unfold w_ei; rw [s1.1, if_pos ⟨ad_7.symm, by rw [h]⟩], fun h => by unfold w_ei; rw [s1.1, if_neg (fun e => h (by have := e.2; omega))]⟩
  have hK_0_8 := elq_142 hD hth cr_0_8
  have kz_0_0 := fdq_114 hD hth r0
  have nf0 : fc_1 PRD (20, [1, 2, 13, 14], [60, 1, 3, 511, 0, 2, 7, 8]) ws (vs) := by
    refine ⟨nf_in hl rfl, sgq_926 ?_⟩
    · show SNI (w_fi ws (n_v vs 1) 0) (w_ei ws (w_ar ws (n_v vs 1) 2)) (w_ei ws (w_ar ws (n_v vs 1) 7)) (w_ei ws (w_ar ws (n_v vs 1) 8)) (v_iv (n_v vs 2)) (v_iv (n_v vs 13)) (v_iv (n_v vs 14))
      rw [q1]
      exact vc_St_ringInBy_11_0 (v_iv (n_v vs 2)) (v_iv (n_v vs 3)) (v_iv (n_v vs 4)) (v_iv (n_v vs 5)) (v_iv (n_v vs 6)) (v_iv (n_v vs 8)) (v_iv (n_v vs 9)) (v_iv (n_v vs 11)) (v_iv (n_v vs 12)) (v_iv (n_v vs 13)) (v_iv (n_v vs 14)) (w_fi ws (n_v vs 0) 0) (w_ei ws (w_ar ws (n_v vs 0) 7)) (w_ei w1 (w_ar ws (n_v vs 0) 8)) (w_ei w1 (w_ar ws (n_v vs 0) 2)) (w_ei w1 (w_ar ws (n_v vs 0) 7)) (w_fi w1 (n_v vs 0) 0) (w_ei ws (w_ar ws (n_v vs 0) 2)) (w_ei ws (w_ar ws (n_v vs 0) 8)) k2 k3 k4 k5 k6 k8 k9 k11 k12 k13 k14 d0 d1 d2 g1 f2 f3 h4 f6 f9 h10 f11 f12 f13 f14 fe_0_0_1 hE_0_2_1 hK_0_2 hE_0_7_1 hK_0_7 hE_0_8_1 hK_0_8 kz_0_0
  refine ⟨(fun _ h => (by cases h)), [], trivial, ?_, (fun _ h => (by cases h))⟩
  rw [List.append_nil]
  exact List.forall_mem_cons.mpr ⟨⟨show (20 : Nat) < 100 from by decide, nf0⟩, (fun _ h => (by cases h))⟩
def n_St_ringInBy_an : List an_T := [(10, [(0, (2, 0, 0, [10])), (1, (0, 0, 72, []))], [], (0, 0), [(0, 0, 99990), (1, 2, 72), (0, 0, 100000), (0, 0, 0), (0, 0, 0)], [], [], [(2, 0, 0, [10])], 0, [], [(20, [1, 2], [60, 1, 3, 510, 0, 2, 7, 8]), (24, [0, 1], [])]), (22, [(0, (2, 0, 0, [10])), (1, (0, 0, 71, [])), (2, (0, (Int.negSucc 0), 71, [])), (3, (0, 0, 73, []))], [], (0, 0), [(0, 0, 99990), (1, 2, 72), (0, 0, 99978), (1, 4, 73), (0, 0, 100000)], [], [], [(2, 0, 0, [10])], 0, [], [(20, [1, 2, 3, 4], [60, 1, 3, 511, 0, 2, 7, 8]), (20, [2, 1], [50, 1, 0, 1000, 0, 6, 4, 2, 1, 0, 0, 1, 2, 1, 0]), (24, [0, 1], [])])]
def t_St_ringInBy_ct : ct_L := [(18, 45, e_jArr_fill1_v46)]
set_option maxRecDepth 100000 in
theorem c_St_ringInBy {l : Launch} {D : va_G} {kA : Nat → ClassId} : ct_ok PRD l D kA GG y_St_ringInBy z_St_ringInBy e_St_ringInBy := chk_all_ok (FT := [(9, 10, 0), (18, 10, 2), (34, 10, 7), (37, 10, 8)]) (PT := []) (CT := t_St_ringInBy_ct) (KT := []) (NT := []) (AN := n_St_ringInBy_an) (OT := [o_St_ringInBy_0, o_St_ringInBy_1, o_St_ringInBy_2, o_St_ringInBy_3, o_St_ringInBy_4, o_St_ringInBy_5, o_St_ringInBy_6, o_St_ringInBy_7, o_St_ringInBy_8, o_St_ringInBy_9, o_St_ringInBy_10, o_St_ringInBy_11]) 5 352 (List.forall_mem_cons.mpr ⟨oo_St_ringInBy_0, List.forall_mem_cons.mpr ⟨oo_St_ringInBy_1, List.forall_mem_cons.mpr ⟨oo_St_ringInBy_2, List.forall_mem_cons.mpr ⟨oo_St_ringInBy_3, List.forall_mem_cons.mpr ⟨oo_St_ringInBy_4, List.forall_mem_cons.mpr ⟨oo_St_ringInBy_5, List.forall_mem_cons.mpr ⟨oo_St_ringInBy_6, List.forall_mem_cons.mpr ⟨oo_St_ringInBy_7, List.forall_mem_cons.mpr ⟨oo_St_ringInBy_8, List.forall_mem_cons.mpr ⟨oo_St_ringInBy_9, List.forall_mem_cons.mpr ⟨oo_St_ringInBy_10, List.forall_mem_cons.mpr ⟨oo_St_ringInBy_11, List.forall_mem_nil _⟩⟩⟩⟩⟩⟩⟩⟩⟩⟩⟩⟩) (by decide +kernel) ⟨List.forall_mem_cons.mpr ⟨gf_St_9, List.forall_mem_cons.mpr ⟨gf_St_18, List.forall_mem_cons.mpr ⟨gf_St_34, List.forall_mem_cons.mpr ⟨gf_St_37, List.forall_mem_nil _⟩⟩⟩⟩, List.forall_mem_nil _, List.forall_mem_cons.mpr ⟨cl_static (y := y_jArr_fill1) c_jArr_fill1_v46 wm_55 wm_4 wm_1343 wm_54 ⟨by decide, by decide, by decide +kernel⟩ (by decide), List.forall_mem_nil _⟩, List.forall_mem_nil _, List.forall_mem_nil _, GG_pl⟩ (by decide +kernel)
set_option maxHeartbeats 4000000 in
theorem vc_St_sendRound_at_gl_0_0 (x1 : Int) (x2 : Int) (x3 : Int) (x4 : Int) (from_0 : Int → Int) (to_0 : Int → Int) (room_0 : Int → Int) (gain_0 : Int → Int) (by_0 : Int → Int) (nodes_0 : Int) (arcs_0 : Int) (k1 : 0 ≤ x1 ∧ x1 ≤ 71) (k2 : 0 ≤ x2 ∧ x2 ≤ 9999) (k3 : 1000000000 ≤ x3 ∧ x3 ≤ 1000000000) (k4 : 0 ≤ x4 ∧ x4 ≤ 0) (f0 : RSW (nodes_0) (arcs_0) (from_0) (to_0) (room_0) (gain_0) (by_0)) (f1 : RNG (from_0) (by_0) (x1)) (f2 : FLV (nodes_0) (arcs_0) (from_0) (to_0) (room_0) (gain_0) (x2)) (f3 : (0 ≤ x1) ∧ ((x1 + 1) ≤ nodes_0)) (hK_0_2 : ∀ j : Int, 0 ≤ j → j < 384 → 0 ≤ from_0 j ∧ from_0 j ≤ 71) (hK_0_3 : ∀ j : Int, 0 ≤ j → j < 384 → 0 ≤ to_0 j ∧ to_0 j ≤ 71) (hK_0_4 : ∀ j : Int, 0 ≤ j → j < 384 → (-2147483648) ≤ room_0 j ∧ room_0 j ≤ 2147483647) (hK_0_5 : ∀ j : Int, 0 ≤ j → j < 384 → (-20) ≤ gain_0 j ∧ gain_0 j ≤ 20) (hK_0_7 : ∀ j : Int, 0 ≤ j → j < 72 → (-1) ≤ by_0 j ∧ by_0 j ≤ 383) (kz_0_0 : 0 ≤ nodes_0 ∧ nodes_0 ≤ 72) (kz_0_1 : 0 ≤ arcs_0 ∧ arcs_0 ≤ 384) : SL1 (nodes_0) (arcs_0) (from_0) (to_0) (room_0) (gain_0) (by_0) (x1) (x1) (x4) (x3) := by
  first
    | exact sl1_start ‹RSW _ _ _ _ _ _ _› ‹RNG _ _ _› (by omega) (by omega) (by omega) (by omega) (by omega)
    | (skip; exact sl1_step ‹SL1 _ _ _ _ _ _ _ _ _ _ _› ‹NWL _ _ _ _ _› rfl (by omega) (by omega) (by omega) (by omega) (by omega))
  
set_option maxHeartbeats 4000000 in
theorem vc_St_sendRound_at_gl_0_1 (x1 : Int) (x2 : Int) (x3 : Int) (x4 : Int) (from_0 : Int → Int) (to_0 : Int → Int) (room_0 : Int → Int) (gain_0 : Int → Int) (by_0 : Int → Int) (nodes_0 : Int) (arcs_0 : Int) (k1 : 0 ≤ x1 ∧ x1 ≤ 71) (k2 : 0 ≤ x2 ∧ x2 ≤ 9999) (k3 : 1000000000 ≤ x3 ∧ x3 ≤ 1000000000) (k4 : 0 ≤ x4 ∧ x4 ≤ 0) (f0 : RSW (nodes_0) (arcs_0) (from_0) (to_0) (room_0) (gain_0) (by_0)) (f1 : RNG (from_0) (by_0) (x1)) (f2 : FLV (nodes_0) (arcs_0) (from_0) (to_0) (room_0) (gain_0) (x2)) (f3 : (0 ≤ x1) ∧ ((x1 + 1) ≤ nodes_0)) (hK_0_2 : ∀ j : Int, 0 ≤ j → j < 384 → 0 ≤ from_0 j ∧ from_0 j ≤ 71) (hK_0_3 : ∀ j : Int, 0 ≤ j → j < 384 → 0 ≤ to_0 j ∧ to_0 j ≤ 71) (hK_0_4 : ∀ j : Int, 0 ≤ j → j < 384 → (-2147483648) ≤ room_0 j ∧ room_0 j ≤ 2147483647) (hK_0_5 : ∀ j : Int, 0 ≤ j → j < 384 → (-20) ≤ gain_0 j ∧ gain_0 j ≤ 20) (hK_0_7 : ∀ j : Int, 0 ≤ j → j < 72 → (-1) ≤ by_0 j ∧ by_0 j ≤ 383) (kz_0_0 : 0 ≤ nodes_0 ∧ nodes_0 ≤ 72) (kz_0_1 : 0 ≤ arcs_0 ∧ arcs_0 ≤ 384) : NWL (nodes_0) (arcs_0) (from_0) (to_0) (gain_0) := by
  first
    | assumption
    | exact (‹RSW _ _ _ _ _ _ _›).1
  
def o_St_sendRound_at_gl_0 : or_T := (8, 5, [(0, (2, 0, 0, [10])), (1, (0, 0, 71, [])), (2, (0, 0, 9999, [])), (3, (0, 1000000000, 1000000000, [])), (4, (0, 0, 0, []))], [(20, [0], [60, 2, 5, 529, 0, 1, 2, 3, 4, 5, 7]), (20, [0, 1], [60, 0, 2, 509, 2, 7]), (20, [0, 2], [60, 2, 4, 530, 0, 1, 2, 3, 4, 5]), (20, [1, 0], [50, 1, 0, 1000, 2, 6, 0, 2, 0, 0, 1, 0, 0, 6, 4, 2, 1, 0, 0, 1, 2, 1, 0])], [], [], [(20, [0, 1, 1, 4, 3], [60, 2, 5, 533, 0, 1, 2, 3, 4, 5, 7]), (20, [0], [60, 2, 3, 515, 0, 1, 2, 3, 5]), (24, [0, 0], []), (24, [1, 1], [])], [], [])
theorem oo_St_sendRound_at_gl_0 {kA : Nat → ClassId} : or_ok PRD kA GG o_St_sendRound_at_gl_0 := by
  refine or_mk fun A ta ws vs hD hth hl => ?_
  intro t0 r0 t1 k1 t2 k2 t3 k3 t4 k4 f0 f1 f2 f3
  have cr_0_2 := fdq_108 hD hth r0
  have cr_0_3 := fdq_109 hD hth r0
  have cr_0_4 := fdq_110 hD hth r0
  have cr_0_5 := fdq_111 hD hth r0
  have cr_0_7 := fdq_116 hD hth r0
  have hK_0_2 := elq_53 hD hth cr_0_2
  have hK_0_3 := elq_54 hD hth cr_0_3
  have hK_0_4 := elq_55 hD hth cr_0_4
  have hK_0_5 := elq_56 hD hth cr_0_5
  have hK_0_7 := elq_59 hD hth cr_0_7
  have kz_0_0 := fdq_114 hD hth r0
  have kz_0_1 := fdq_113 hD hth r0
  have nf0 : fc_1 PRD (20, [0, 1, 1, 4, 3], [60, 2, 5, 533, 0, 1, 2, 3, 4, 5, 7]) ws (vs) := ⟨nf_in hl rfl, sgq_930 (vc_St_sendRound_at_gl_0_0 (v_iv (n_v vs 1)) (v_iv (n_v vs 2)) (v_iv (n_v vs 3)) (v_iv (n_v vs 4)) (w_ei ws (w_ar ws (n_v vs 0) 2)) (w_ei ws (w_ar ws (n_v vs 0) 3)) (w_ei ws (w_ar ws (n_v vs 0) 4)) (w_ei ws (w_ar ws (n_v vs 0) 5)) (w_ei ws (w_ar ws (n_v vs 0) 7)) (w_fi ws (n_v vs 0) 0) (w_fi ws (n_v vs 0) 1) k1 k2 k3 k4 (shm_927 f0) (shm_928 f1) (shm_929 f2) (shm_416 f3) hK_0_2 hK_0_3 hK_0_4 hK_0_5 hK_0_7 kz_0_0 kz_0_1)⟩
  have nf1 : fc_1 PRD (20, [0], [60, 2, 3, 515, 0, 1, 2, 3, 5]) ws (vs) := ⟨nf_in hl rfl, sgq_931 (vc_St_sendRound_at_gl_0_1 (v_iv (n_v vs 1)) (v_iv (n_v vs 2)) (v_iv (n_v vs 3)) (v_iv (n_v vs 4)) (w_ei ws (w_ar ws (n_v vs 0) 2)) (w_ei ws (w_ar ws (n_v vs 0) 3)) (w_ei ws (w_ar ws (n_v vs 0) 4)) (w_ei ws (w_ar ws (n_v vs 0) 5)) (w_ei ws (w_ar ws (n_v vs 0) 7)) (w_fi ws (n_v vs 0) 0) (w_fi ws (n_v vs 0) 1) k1 k2 k3 k4 (shm_927 f0) (shm_928 f1) (shm_929 f2) (shm_416 f3) hK_0_2 hK_0_3 hK_0_4 hK_0_5 hK_0_7 kz_0_0 kz_0_1)⟩
  have nf2 : fc_1 PRD (24, [0, 0], []) ws (vs) := by
    refine ⟨nf_in hl rfl, sgq_1 ?_⟩
    · show n_v vs 0 = n_v vs 0
      first | rfl | simp only [true_and]
  have nf3 : fc_1 PRD (24, [1, 1], []) ws (vs) := by
    refine ⟨nf_in hl rfl, sgq_1 ?_⟩
    · show n_v vs 1 = n_v vs 1
      first | rfl | simp only [true_and]
  refine ⟨(fun _ h => (by cases h)), [], trivial, ?_, (fun _ h => (by cases h))⟩
  rw [List.append_nil]
  exact List.forall_mem_cons.mpr ⟨⟨show (20 : Nat) < 100 from by decide, nf0⟩, List.forall_mem_cons.mpr ⟨⟨show (20 : Nat) < 100 from by decide, nf1⟩, List.forall_mem_cons.mpr ⟨⟨show (24 : Nat) < 100 from by decide, nf2⟩, List.forall_mem_cons.mpr ⟨⟨show (24 : Nat) < 100 from by decide, nf3⟩, (fun _ h => (by cases h))⟩⟩⟩⟩
set_option maxHeartbeats 4000000 in
theorem vc_St_sendRound_at_gl_1_0 (x1 : Int) (x2 : Int) (x4 : Int) (x5 : Int) (x6 : Int) (x7 : Int) (x8 : Int) (x9 : Int) (nodes_0 : Int) (from_0 : Int → Int) (to_0 : Int → Int) (room_0 : Int → Int) (gain_0 : Int → Int) (by_0 : Int → Int) (arcs_0 : Int) (k1 : 0 ≤ x1 ∧ x1 ≤ 71) (k2 : 0 ≤ x2 ∧ x2 ≤ 9999) (k4 : 0 ≤ x4 ∧ x4 ≤ 71) (k5 : 1 ≤ x5 ∧ x5 ≤ 1000000000) (k6 : 0 ≤ x6 ∧ x6 ≤ 71) (k7 : 0 ≤ x7 ∧ x7 ≤ 72) (k8 : 0 ≤ x8 ∧ x8 ≤ 72) (k9 : 0 ≤ x9 ∧ x9 ≤ 0) (d0 : x8 + 0 ≤ x7 ∧ x7 ≤ x8 + 4294967296) (d1 : x4 + (-4294967296) ≤ x1 ∧ x1 ≤ x4 + 0) (d2 : x1 + (-4294967296) ≤ x4 ∧ x4 ≤ x1 + 0) (f0 : x8 ≤ x7) (g1 : x8 = nodes_0) (f2 : SL1 (nodes_0) (arcs_0) (from_0) (to_0) (room_0) (gain_0) (by_0) (x1) (x6) (x7) (x5)) (f3 : NWL (nodes_0) (arcs_0) (from_0) (to_0) (gain_0)) (f4 : FLV (nodes_0) (arcs_0) (from_0) (to_0) (room_0) (gain_0) (x2)) (hK_0_2 : ∀ j : Int, 0 ≤ j → j < 384 → 0 ≤ from_0 j ∧ from_0 j ≤ 71) (hK_0_3 : ∀ j : Int, 0 ≤ j → j < 384 → 0 ≤ to_0 j ∧ to_0 j ≤ 71) (hK_0_4 : ∀ j : Int, 0 ≤ j → j < 384 → (-2147483648) ≤ room_0 j ∧ room_0 j ≤ 2147483647) (hK_0_5 : ∀ j : Int, 0 ≤ j → j < 384 → (-20) ≤ gain_0 j ∧ gain_0 j ≤ 20) (hK_0_7 : ∀ j : Int, 0 ≤ j → j < 72 → (-1) ≤ by_0 j ∧ by_0 j ≤ 383) (kz_0_0 : 0 ≤ nodes_0 ∧ nodes_0 ≤ 72) (kz_0_1 : 0 ≤ arcs_0 ∧ arcs_0 ≤ 384) : FLP (nodes_0) (arcs_0) (from_0) (to_0) (room_0) (gain_0) (by_0) (x1) (x6) (x9) (x5) (x2) := by
  first
    | (have q := sl1_few ‹NWL _ _ _ _ _› ‹SL1 _ _ _ _ _ _ _ _ _ _ _›; omega)
    | (skip; exact flp_start (slx_of ‹SL1 _ _ _ _ _ _ _ _ _ _ _› ‹NWL _ _ _ _ _› rfl (by omega) (by omega) (by omega) (by omega)) ‹FLV _ _ _ _ _ _ _› (by omega) (by omega))
    | (skip; exact (flp_step ‹FLP _ _ _ _ _ _ _ _ _ _ _ _› rfl (by assumption) (by omega) (xor_one (by assumption) (by omega) (by omega) (by omega) (by omega) (by omega)) (by assumption) (by omega) rfl (by omega)).1 (by omega))
  
def o_St_sendRound_at_gl_1 : or_T := (62, 10, [(0, (2, 0, 0, [10])), (1, (0, 0, 71, [])), (2, (0, 0, 9999, [])), (4, (0, 0, 71, [])), (5, (0, 1, 1000000000, [])), (6, (0, 0, 71, [])), (7, (0, 0, 72, [])), (8, (0, 0, 72, [])), (9, (0, 0, 0, []))], [(7, [7, 8], [3]), (9, [8, 3], [0]), (20, [3, 4, 6, 7, 5], [60, 2, 5, 533, 0, 1, 2, 3, 4, 5, 7]), (20, [3], [60, 2, 3, 515, 0, 1, 2, 3, 5]), (20, [3, 2], [60, 2, 4, 530, 0, 1, 2, 3, 4, 5]), (24, [0, 3], []), (24, [1, 4], [])], [], [], [(20, [3, 4, 6, 9, 5, 2], [60, 2, 5, 535, 0, 1, 2, 3, 4, 5, 7])], [], [(7, 8, 0, 4294967296), (1, 4, -4294967296, 0), (4, 1, -4294967296, 0)])
theorem oo_St_sendRound_at_gl_1 {kA : Nat → ClassId} : or_ok PRD kA GG o_St_sendRound_at_gl_1 := by
  refine or_mk fun A ta ws vs hD hth hl => ?_
  intro t0 r0 t1 k1 t2 k2 t4 k4 t5 k5 t6 k6 t7 k7 t8 k8 t9 k9 d0 d1 d2 f0 f1 f2 f3 f4 f5 f6
  replace f0 := shm_2 f0
  replace f1 := shm_163 f1
  replace f2 := shm_932 f2
  replace f3 := shm_931 f3
  replace f4 := shm_929 f4
  replace f5 := shm_5 f5
  replace f6 := shm_5 f6
  have q3 : n_v vs 3 = n_v vs 0 := f5.symm
  have q4 : n_v vs 4 = n_v vs 1 := f6.symm
  simp only [q3, q4] at f1 f2 f3 f4
  have cr_0_2 := fdq_108 hD hth r0
  have cr_0_3 := fdq_109 hD hth r0
  have cr_0_4 := fdq_110 hD hth r0
  have cr_0_5 := fdq_111 hD hth r0
  have cr_0_7 := fdq_116 hD hth r0
  have g1 : v_iv (n_v vs 8) = w_fi ws (n_v vs 0) 0 := congrArg v_iv f1
  have hK_0_2 := elq_53 hD hth cr_0_2
  have hK_0_3 := elq_54 hD hth cr_0_3
  have hK_0_4 := elq_55 hD hth cr_0_4
  have hK_0_5 := elq_56 hD hth cr_0_5
  have hK_0_7 := elq_59 hD hth cr_0_7
  have kz_0_0 := fdq_114 hD hth r0
  have kz_0_1 := fdq_113 hD hth r0
  have nf0 : fc_1 PRD (20, [3, 4, 6, 9, 5, 2], [60, 2, 5, 535, 0, 1, 2, 3, 4, 5, 7]) ws (vs) := by
    refine ⟨nf_in hl rfl, sgq_933 ?_⟩
    · show FLP (w_fi ws (n_v vs 3) 0) (w_fi ws (n_v vs 3) 1) (w_ei ws (w_ar ws (n_v vs 3) 2)) (w_ei ws (w_ar ws (n_v vs 3) 3)) (w_ei ws (w_ar ws (n_v vs 3) 4)) (w_ei ws (w_ar ws (n_v vs 3) 5)) (w_ei ws (w_ar ws (n_v vs 3) 7)) (v_iv (n_v vs 4)) (v_iv (n_v vs 6)) (v_iv (n_v vs 9)) (v_iv (n_v vs 5)) (v_iv (n_v vs 2))
      simp only [q3, q4]
      exact vc_St_sendRound_at_gl_1_0 (v_iv (n_v vs 1)) (v_iv (n_v vs 2)) (v_iv (n_v vs 4)) (v_iv (n_v vs 5)) (v_iv (n_v vs 6)) (v_iv (n_v vs 7)) (v_iv (n_v vs 8)) (v_iv (n_v vs 9)) (w_fi ws (n_v vs 0) 0) (w_ei ws (w_ar ws (n_v vs 0) 2)) (w_ei ws (w_ar ws (n_v vs 0) 3)) (w_ei ws (w_ar ws (n_v vs 0) 4)) (w_ei ws (w_ar ws (n_v vs 0) 5)) (w_ei ws (w_ar ws (n_v vs 0) 7)) (w_fi ws (n_v vs 0) 1) k1 k2 k4 k5 k6 k7 k8 k9 d0 d1 d2 f0 g1 f2 f3 f4 hK_0_2 hK_0_3 hK_0_4 hK_0_5 hK_0_7 kz_0_0 kz_0_1
  refine ⟨(fun _ h => (by cases h)), [], trivial, ?_, (fun _ h => (by cases h))⟩
  rw [List.append_nil]
  exact List.forall_mem_cons.mpr ⟨⟨show (20 : Nat) < 100 from by decide, nf0⟩, (fun _ h => (by cases h))⟩
set_option maxHeartbeats 4000000 in
theorem vc_St_sendRound_at_gl_2_r0 (x1 : Int) (x2 : Int) (x4 : Int) (x5 : Int) (x6 : Int) (x7 : Int) (x8 : Int) (x11 : Int) (by_0 : Int → Int) (nodes_0 : Int) (from_0 : Int → Int) (to_0 : Int → Int) (room_0 : Int → Int) (gain_0 : Int → Int) (arcs_0 : Int) (k1 : 0 ≤ x1 ∧ x1 ≤ 71) (k2 : 0 ≤ x2 ∧ x2 ≤ 9999) (k4 : 0 ≤ x4 ∧ x4 ≤ 71) (k5 : 1 ≤ x5 ∧ x5 ≤ 1000000000) (k6 : 0 ≤ x6 ∧ x6 ≤ 71) (k7 : 0 ≤ x7 ∧ x7 ≤ 71) (k8 : 1 ≤ x8 ∧ x8 ≤ 72) (k11 : (-1) ≤ x11 ∧ x11 ≤ 383) (d0 : x8 + (-4294967296) ≤ x7 ∧ x7 ≤ x8 + (-1)) (d1 : x4 + (-4294967296) ≤ x1 ∧ x1 ≤ x4 + 0) (d2 : x1 + (-4294967296) ≤ x4 ∧ x4 ≤ x1 + 0) (h0 : x11 = by_0 (x6)) (f3 : x7 < x8) (g4 : x8 = nodes_0) (f5 : SL1 (nodes_0) (arcs_0) (from_0) (to_0) (room_0) (gain_0) (by_0) (x1) (x6) (x7) (x5)) (f6 : NWL (nodes_0) (arcs_0) (from_0) (to_0) (gain_0)) (f7 : FLV (nodes_0) (arcs_0) (from_0) (to_0) (room_0) (gain_0) (x2)) (hK_0_2 : ∀ j : Int, 0 ≤ j → j < 384 → 0 ≤ from_0 j ∧ from_0 j ≤ 71) (hK_0_3 : ∀ j : Int, 0 ≤ j → j < 384 → 0 ≤ to_0 j ∧ to_0 j ≤ 71) (hK_0_4 : ∀ j : Int, 0 ≤ j → j < 384 → (-2147483648) ≤ room_0 j ∧ room_0 j ≤ 2147483647) (hK_0_5 : ∀ j : Int, 0 ≤ j → j < 384 → (-20) ≤ gain_0 j ∧ gain_0 j ≤ 20) (hK_0_7 : ∀ j : Int, 0 ≤ j → j < 72 → (-1) ≤ by_0 j ∧ by_0 j ≤ 383) (kz_0_0 : 0 ≤ nodes_0 ∧ nodes_0 ≤ 72) (kz_0_1 : 0 ≤ arcs_0 ∧ arcs_0 ≤ 384) : 0 ≤ x11 ∧ x11 ≤ 383 := by
  first
    | (have q := sl1_by ‹NWL _ _ _ _ _› ‹SL1 _ _ _ _ _ _ _ _ _ _ _›; have n := (‹NWL _ _ _ _ _›).2.2.2.1; skip; (first | subst h0 | skip); omega)
    | (have q := flp_by ‹FLP _ _ _ _ _ _ _ _ _ _ _ _›; have n := (‹FLP _ _ _ _ _ _ _ _ _ _ _ _›).2.1.2.2.2.1; skip; (first | subst h0 | skip); omega)
    | (have q := sl1_by ‹NWL _ _ _ _ _› ‹SL1 _ _ _ _ _ _ _ _ _ _ _›; have n := flv_room ‹FLV _ _ _ _ _ _ _› q.1 q.2.1; skip; (first | subst h0 | skip); omega)
    | (have q := flp_by ‹FLP _ _ _ _ _ _ _ _ _ _ _ _›; have n := flp_room ‹FLP _ _ _ _ _ _ _ _ _ _ _ _› q.2.2.1 q.2.2.2.1; skip; (first | subst h0 | skip); omega)
    | (skip; (first | subst h0 | skip); have e := xor_one (x := x16) (by assumption) (by omega) (by have q := flp_by ‹FLP _ _ _ _ _ _ _ _ _ _ _ _›; omega) (by omega) (by omega) (by omega); have q2 := flp_other ‹FLP _ _ _ _ _ _ _ _ _ _ _ _› rfl e (by assumption); omega)
  
def o_St_sendRound_at_gl_2 : or_T := (28, 12, [(0, (2, 0, 0, [10])), (1, (0, 0, 71, [])), (2, (0, 0, 9999, [])), (3, (2, 0, 0, [10])), (4, (0, 0, 71, [])), (5, (0, 1, 1000000000, [])), (6, (0, 0, 71, [])), (7, (0, 0, 71, [])), (8, (0, 1, 72, [])), (9, (2, 0, 0, [120])), (10, (2, 0, 0, [123])), (11, (0, -1, 383, []))], [(10, [11, 10, 6], []), (9, [10, 3], [7]), (9, [9, 3], [4]), (7, [7, 8], [2]), (9, [8, 3], [0]), (20, [3, 4, 6, 7, 5], [60, 2, 5, 533, 0, 1, 2, 3, 4, 5, 7]), (20, [3], [60, 2, 3, 515, 0, 1, 2, 3, 5]), (20, [3, 2], [60, 2, 4, 530, 0, 1, 2, 3, 4, 5]), (24, [0, 3], []), (24, [1, 4], [])], [(11, (0, 0, 383, []))], [], [], [], [(7, 8, -4294967296, -1), (1, 4, -4294967296, 0), (4, 1, -4294967296, 0)])
theorem oo_St_sendRound_at_gl_2 {kA : Nat → ClassId} : or_ok PRD kA GG o_St_sendRound_at_gl_2 := by
  refine or_mk fun A ta ws vs hD hth hl => ?_
  intro t0 r0 t1 k1 t2 k2 t3 r3 t4 k4 t5 k5 t6 k6 t7 k7 t8 k8 t9 r9 t10 r10 t11 k11 d0 d1 d2 f0 f1 f2 f3 f4 f5 f6 f7 f8 f9
  replace f0 := shm_107 f0
  replace f1 := shm_198 f1
  replace f4 := shm_163 f4
  replace f5 := shm_932 f5
  replace f6 := shm_931 f6
  replace f7 := shm_929 f7
  replace f8 := shm_5 f8
  replace f9 := shm_5 f9
  have q3 : n_v vs 3 = n_v vs 0 := f8.symm
  have q4 : n_v vs 4 = n_v vs 1 := f9.symm
  simp only [q3, q4] at f1 f4 f5 f6 f7
  have cr_0_2 := fdq_108 hD hth r0
  have cr_0_3 := fdq_109 hD hth r0
  have cr_0_4 := fdq_110 hD hth r0
  have cr_0_5 := fdq_111 hD hth r0
  have cr_0_7 := fdq_116 hD hth r0
  have ad_10 : v_ad (n_v vs 10) = w_ar ws (n_v vs 0) 7 := congrArg v_ad f1
  simp only [ad_10] at f0
  have h0 : v_iv (n_v vs 11) = w_ei ws (w_ar ws (n_v vs 0) 7) (v_iv (n_v vs 6)) := f0
  have g4 : v_iv (n_v vs 8) = w_fi ws (n_v vs 0) 0 := congrArg v_iv f4
  have hK_0_2 := elq_53 hD hth cr_0_2
  have hK_0_3 := elq_54 hD hth cr_0_3
  have hK_0_4 := elq_55 hD hth cr_0_4
  have hK_0_5 := elq_56 hD hth cr_0_5
  have hK_0_7 := elq_59 hD hth cr_0_7
  have kz_0_0 := fdq_114 hD hth r0
  have kz_0_1 := fdq_113 hD hth r0
  have hrf0 : 0 ≤ v_iv (n_v vs 11) ∧ v_iv (n_v vs 11) ≤ 383 := vc_St_sendRound_at_gl_2_r0 (v_iv (n_v vs 1)) (v_iv (n_v vs 2)) (v_iv (n_v vs 4)) (v_iv (n_v vs 5)) (v_iv (n_v vs 6)) (v_iv (n_v vs 7)) (v_iv (n_v vs 8)) (v_iv (n_v vs 11)) (w_ei ws (w_ar ws (n_v vs 0) 7)) (w_fi ws (n_v vs 0) 0) (w_ei ws (w_ar ws (n_v vs 0) 2)) (w_ei ws (w_ar ws (n_v vs 0) 3)) (w_ei ws (w_ar ws (n_v vs 0) 4)) (w_ei ws (w_ar ws (n_v vs 0) 5)) (w_fi ws (n_v vs 0) 1) k1 k2 k4 k5 k6 k7 k8 k11 d0 d1 d2 h0 (shm_6 f3) g4 f5 f6 f7 hK_0_2 hK_0_3 hK_0_4 hK_0_5 hK_0_7 kz_0_0 kz_0_1
  have rf11 : tv_ok ta (0, 0, 383, []) (n_v vs 11) := tv_in t11 (by first | omega | grind) (by first | omega | grind)
  refine ⟨List.forall_mem_cons.mpr ⟨rf11, (fun _ h => (by cases h))⟩, [], trivial, ?_, (fun _ h => (by cases h))⟩
  rw [List.append_nil]
  exact (fun _ h => (by cases h))
set_option maxHeartbeats 4000000 in
theorem vc_St_sendRound_at_gl_3_r0 (x1 : Int) (x2 : Int) (x4 : Int) (x5 : Int) (x6 : Int) (x7 : Int) (x8 : Int) (x11 : Int) (x12 : Int) (room_0 : Int → Int) (by_0 : Int → Int) (nodes_0 : Int) (from_0 : Int → Int) (to_0 : Int → Int) (gain_0 : Int → Int) (arcs_0 : Int) (k1 : 0 ≤ x1 ∧ x1 ≤ 71) (k2 : 0 ≤ x2 ∧ x2 ≤ 9999) (k4 : 0 ≤ x4 ∧ x4 ≤ 71) (k5 : 1 ≤ x5 ∧ x5 ≤ 1000000000) (k6 : 0 ≤ x6 ∧ x6 ≤ 71) (k7 : 0 ≤ x7 ∧ x7 ≤ 71) (k8 : 1 ≤ x8 ∧ x8 ≤ 72) (k11 : 0 ≤ x11 ∧ x11 ≤ 383) (k12 : (-2147483648) ≤ x12 ∧ x12 ≤ 2147483647) (d0 : x8 + (-4294967296) ≤ x7 ∧ x7 ≤ x8 + (-1)) (d1 : x4 + (-4294967296) ≤ x1 ∧ x1 ≤ x4 + 0) (d2 : x1 + (-4294967296) ≤ x4 ∧ x4 ≤ x1 + 0) (h0 : x12 = room_0 (x11)) (h1 : x11 = by_0 (x6)) (f4 : x7 < x8) (g5 : x8 = nodes_0) (f6 : SL1 (nodes_0) (arcs_0) (from_0) (to_0) (room_0) (gain_0) (by_0) (x1) (x6) (x7) (x5)) (f7 : NWL (nodes_0) (arcs_0) (from_0) (to_0) (gain_0)) (f8 : FLV (nodes_0) (arcs_0) (from_0) (to_0) (room_0) (gain_0) (x2)) (hK_0_2 : ∀ j : Int, 0 ≤ j → j < 384 → 0 ≤ from_0 j ∧ from_0 j ≤ 71) (hK_0_3 : ∀ j : Int, 0 ≤ j → j < 384 → 0 ≤ to_0 j ∧ to_0 j ≤ 71) (hK_0_4 : ∀ j : Int, 0 ≤ j → j < 384 → (-2147483648) ≤ room_0 j ∧ room_0 j ≤ 2147483647) (hK_0_5 : ∀ j : Int, 0 ≤ j → j < 384 → (-20) ≤ gain_0 j ∧ gain_0 j ≤ 20) (hK_0_7 : ∀ j : Int, 0 ≤ j → j < 72 → (-1) ≤ by_0 j ∧ by_0 j ≤ 383) (kz_0_0 : 0 ≤ nodes_0 ∧ nodes_0 ≤ 72) (kz_0_1 : 0 ≤ arcs_0 ∧ arcs_0 ≤ 384) : 1 ≤ x12 ∧ x12 ≤ 1000000000 := by
  first
    | (have q := sl1_by ‹NWL _ _ _ _ _› ‹SL1 _ _ _ _ _ _ _ _ _ _ _›; have n := (‹NWL _ _ _ _ _›).2.2.2.1; skip; (first | subst h0 | skip); (first | subst h1 | skip); omega)
    | (have q := flp_by ‹FLP _ _ _ _ _ _ _ _ _ _ _ _›; have n := (‹FLP _ _ _ _ _ _ _ _ _ _ _ _›).2.1.2.2.2.1; skip; (first | subst h0 | skip); (first | subst h1 | skip); omega)
    | (have q := sl1_by ‹NWL _ _ _ _ _› ‹SL1 _ _ _ _ _ _ _ _ _ _ _›; have n := flv_room ‹FLV _ _ _ _ _ _ _› q.1 q.2.1; skip; (first | subst h0 | skip); (first | subst h1 | skip); omega)
    | (have q := flp_by ‹FLP _ _ _ _ _ _ _ _ _ _ _ _›; have n := flp_room ‹FLP _ _ _ _ _ _ _ _ _ _ _ _› q.2.2.1 q.2.2.2.1; skip; (first | subst h0 | skip); (first | subst h1 | skip); omega)
    | (skip; (first | subst h0 | skip); (first | subst h1 | skip); have e := xor_one (x := x16) (by assumption) (by omega) (by have q := flp_by ‹FLP _ _ _ _ _ _ _ _ _ _ _ _›; omega) (by omega) (by omega) (by omega); have q2 := flp_other ‹FLP _ _ _ _ _ _ _ _ _ _ _ _› rfl e (by assumption); omega)
  
def o_St_sendRound_at_gl_3 : or_T := (29, 13, [(0, (2, 0, 0, [10])), (1, (0, 0, 71, [])), (2, (0, 0, 9999, [])), (3, (2, 0, 0, [10])), (4, (0, 0, 71, [])), (5, (0, 1, 1000000000, [])), (6, (0, 0, 71, [])), (7, (0, 0, 71, [])), (8, (0, 1, 72, [])), (9, (2, 0, 0, [120])), (10, (2, 0, 0, [123])), (11, (0, 0, 383, [])), (12, (0, -2147483648, 2147483647, []))], [(10, [12, 9, 11], []), (10, [11, 10, 6], []), (9, [10, 3], [7]), (9, [9, 3], [4]), (7, [7, 8], [2]), (9, [8, 3], [0]), (20, [3, 4, 6, 7, 5], [60, 2, 5, 533, 0, 1, 2, 3, 4, 5, 7]), (20, [3], [60, 2, 3, 515, 0, 1, 2, 3, 5]), (20, [3, 2], [60, 2, 4, 530, 0, 1, 2, 3, 4, 5]), (24, [0, 3], []), (24, [1, 4], [])], [(12, (0, 1, 1000000000, []))], [], [], [], [(7, 8, -4294967296, -1), (1, 4, -4294967296, 0), (4, 1, -4294967296, 0)])
theorem oo_St_sendRound_at_gl_3 {kA : Nat → ClassId} : or_ok PRD kA GG o_St_sendRound_at_gl_3 := by
  refine or_mk fun A ta ws vs hD hth hl => ?_
  intro t0 r0 t1 k1 t2 k2 t3 r3 t4 k4 t5 k5 t6 k6 t7 k7 t8 k8 t9 r9 t10 r10 t11 k11 t12 k12 d0 d1 d2 f0 f1 f2 f3 f4 f5 f6 f7 f8 f9 f10
  replace f0 := shm_107 f0
  replace f1 := shm_107 f1
  replace f2 := shm_198 f2
  replace f3 := shm_108 f3
  replace f5 := shm_163 f5
  replace f6 := shm_932 f6
  replace f7 := shm_931 f7
  replace f8 := shm_929 f8
  replace f9 := shm_5 f9
  replace f10 := shm_5 f10
  have q3 : n_v vs 3 = n_v vs 0 := f9.symm
  have q4 : n_v vs 4 = n_v vs 1 := f10.symm
  simp only [q3, q4] at f2 f3 f5 f6 f7 f8
  have cr_0_2 := fdq_108 hD hth r0
  have cr_0_3 := fdq_109 hD hth r0
  have cr_0_4 := fdq_110 hD hth r0
  have cr_0_5 := fdq_111 hD hth r0
  have cr_0_7 := fdq_116 hD hth r0
  have ad_10 : v_ad (n_v vs 10) = w_ar ws (n_v vs 0) 7 := congrArg v_ad f2
  have ad_9 : v_ad (n_v vs 9) = w_ar ws (n_v vs 0) 4 := congrArg v_ad f3
  simp only [ad_9] at f0
  have h0 : v_iv (n_v vs 12) = w_ei ws (w_ar ws (n_v vs 0) 4) (v_iv (n_v vs 11)) := f0
  simp only [ad_10] at f1
  have h1 : v_iv (n_v vs 11) = w_ei ws (w_ar ws (n_v vs 0) 7) (v_iv (n_v vs 6)) := f1
  have g5 : v_iv (n_v vs 8) = w_fi ws (n_v vs 0) 0 := congrArg v_iv f5
  have hK_0_2 := elq_53 hD hth cr_0_2
  have hK_0_3 := elq_54 hD hth cr_0_3
  have hK_0_4 := elq_55 hD hth cr_0_4
  have hK_0_5 := elq_56 hD hth cr_0_5
  have hK_0_7 := elq_59 hD hth cr_0_7
  have kz_0_0 := fdq_114 hD hth r0
  have kz_0_1 := fdq_113 hD hth r0
  have hrf0 : 1 ≤ v_iv (n_v vs 12) ∧ v_iv (n_v vs 12) ≤ 1000000000 := vc_St_sendRound_at_gl_3_r0 (v_iv (n_v vs 1)) (v_iv (n_v vs 2)) (v_iv (n_v vs 4)) (v_iv (n_v vs 5)) (v_iv (n_v vs 6)) (v_iv (n_v vs 7)) (v_iv (n_v vs 8)) (v_iv (n_v vs 11)) (v_iv (n_v vs 12)) (w_ei ws (w_ar ws (n_v vs 0) 4)) (w_ei ws (w_ar ws (n_v vs 0) 7)) (w_fi ws (n_v vs 0) 0) (w_ei ws (w_ar ws (n_v vs 0) 2)) (w_ei ws (w_ar ws (n_v vs 0) 3)) (w_ei ws (w_ar ws (n_v vs 0) 5)) (w_fi ws (n_v vs 0) 1) k1 k2 k4 k5 k6 k7 k8 k11 k12 d0 d1 d2 h0 h1 (shm_6 f4) g5 f6 f7 f8 hK_0_2 hK_0_3 hK_0_4 hK_0_5 hK_0_7 kz_0_0 kz_0_1
  have rf12 : tv_ok ta (0, 1, 1000000000, []) (n_v vs 12) := tv_in t12 (by first | omega | grind) (by first | omega | grind)
  refine ⟨List.forall_mem_cons.mpr ⟨rf12, (fun _ h => (by cases h))⟩, [], trivial, ?_, (fun _ h => (by cases h))⟩
  rw [List.append_nil]
  exact (fun _ h => (by cases h))
set_option maxHeartbeats 4000000 in
theorem vc_St_sendRound_at_gl_4_r0 (x1 : Int) (x2 : Int) (x4 : Int) (x5 : Int) (x6 : Int) (x7 : Int) (x8 : Int) (x11 : Int) (x12 : Int) (x13 : Int) (x15 : Int) (by_0 : Int → Int) (room_0 : Int → Int) (nodes_0 : Int) (from_0 : Int → Int) (to_0 : Int → Int) (gain_0 : Int → Int) (arcs_0 : Int) (k1 : 0 ≤ x1 ∧ x1 ≤ 71) (k2 : 0 ≤ x2 ∧ x2 ≤ 9999) (k4 : 0 ≤ x4 ∧ x4 ≤ 71) (k5 : 1 ≤ x5 ∧ x5 ≤ 1000000000) (k6 : 0 ≤ x6 ∧ x6 ≤ 71) (k7 : 0 ≤ x7 ∧ x7 ≤ 71) (k8 : 1 ≤ x8 ∧ x8 ≤ 72) (k11 : 0 ≤ x11 ∧ x11 ≤ 383) (k12 : 1 ≤ x12 ∧ x12 ≤ 1000000000) (k13 : 1 ≤ x13 ∧ x13 ≤ 1000000000) (k15 : (-1) ≤ x15 ∧ x15 ≤ 383) (d0 : x8 + (-4294967296) ≤ x7 ∧ x7 ≤ x8 + (-1)) (d1 : x4 + (-4294967296) ≤ x1 ∧ x1 ≤ x4 + 0) (d2 : x1 + (-4294967296) ≤ x4 ∧ x4 ≤ x1 + 0) (h0 : x15 = by_0 (x6)) (f3 : (-1) * x5 + (1 * x13 + 0) ≤ 0) (f4 : (-1) * x12 + (1 * x13 + 0) ≤ 0) (h5 : x12 = room_0 (x11)) (h6 : x11 = by_0 (x6)) (f8 : x7 < x8) (g9 : x8 = nodes_0) (f10 : SL1 (nodes_0) (arcs_0) (from_0) (to_0) (room_0) (gain_0) (by_0) (x1) (x6) (x7) (x5)) (f11 : NWL (nodes_0) (arcs_0) (from_0) (to_0) (gain_0)) (f12 : FLV (nodes_0) (arcs_0) (from_0) (to_0) (room_0) (gain_0) (x2)) (hK_0_2 : ∀ j : Int, 0 ≤ j → j < 384 → 0 ≤ from_0 j ∧ from_0 j ≤ 71) (hK_0_3 : ∀ j : Int, 0 ≤ j → j < 384 → 0 ≤ to_0 j ∧ to_0 j ≤ 71) (hK_0_4 : ∀ j : Int, 0 ≤ j → j < 384 → (-2147483648) ≤ room_0 j ∧ room_0 j ≤ 2147483647) (hK_0_5 : ∀ j : Int, 0 ≤ j → j < 384 → (-20) ≤ gain_0 j ∧ gain_0 j ≤ 20) (hK_0_7 : ∀ j : Int, 0 ≤ j → j < 72 → (-1) ≤ by_0 j ∧ by_0 j ≤ 383) (kz_0_0 : 0 ≤ nodes_0 ∧ nodes_0 ≤ 72) (kz_0_1 : 0 ≤ arcs_0 ∧ arcs_0 ≤ 384) : 0 ≤ x15 ∧ x15 ≤ 383 := by
  first
    | (have q := sl1_by ‹NWL _ _ _ _ _› ‹SL1 _ _ _ _ _ _ _ _ _ _ _›; have n := (‹NWL _ _ _ _ _›).2.2.2.1; skip; (first | subst h0 | skip); (first | subst h5 | skip); (first | subst h6 | skip); omega)
    | (have q := flp_by ‹FLP _ _ _ _ _ _ _ _ _ _ _ _›; have n := (‹FLP _ _ _ _ _ _ _ _ _ _ _ _›).2.1.2.2.2.1; skip; (first | subst h0 | skip); (first | subst h5 | skip); (first | subst h6 | skip); omega)
    | (have q := sl1_by ‹NWL _ _ _ _ _› ‹SL1 _ _ _ _ _ _ _ _ _ _ _›; have n := flv_room ‹FLV _ _ _ _ _ _ _› q.1 q.2.1; skip; (first | subst h0 | skip); (first | subst h5 | skip); (first | subst h6 | skip); omega)
    | (have q := flp_by ‹FLP _ _ _ _ _ _ _ _ _ _ _ _›; have n := flp_room ‹FLP _ _ _ _ _ _ _ _ _ _ _ _› q.2.2.1 q.2.2.2.1; skip; (first | subst h0 | skip); (first | subst h5 | skip); (first | subst h6 | skip); omega)
    | (skip; (first | subst h0 | skip); (first | subst h5 | skip); (first | subst h6 | skip); have e := xor_one (x := x16) (by assumption) (by omega) (by have q := flp_by ‹FLP _ _ _ _ _ _ _ _ _ _ _ _›; omega) (by omega) (by omega) (by omega); have q2 := flp_other ‹FLP _ _ _ _ _ _ _ _ _ _ _ _› rfl e (by assumption); omega)
  
def o_St_sendRound_at_gl_4 : or_T := (43, 16, [(0, (2, 0, 0, [10])), (1, (0, 0, 71, [])), (2, (0, 0, 9999, [])), (3, (2, 0, 0, [10])), (4, (0, 0, 71, [])), (5, (0, 1, 1000000000, [])), (6, (0, 0, 71, [])), (7, (0, 0, 71, [])), (8, (0, 1, 72, [])), (9, (2, 0, 0, [120])), (10, (2, 0, 0, [123])), (11, (0, 0, 383, [])), (12, (0, 1, 1000000000, [])), (13, (0, 1, 1000000000, [])), (14, (2, 0, 0, [118])), (15, (0, -1, 383, []))], [(10, [15, 10, 6], []), (9, [10, 3], [7]), (9, [14, 3], [2]), (23, [5, 13], [0, -1, 1]), (23, [12, 13], [0, -1, 1]), (10, [12, 9, 11], []), (10, [11, 10, 6], []), (9, [9, 3], [4]), (7, [7, 8], [2]), (9, [8, 3], [0]), (20, [3, 4, 6, 7, 5], [60, 2, 5, 533, 0, 1, 2, 3, 4, 5, 7]), (20, [3], [60, 2, 3, 515, 0, 1, 2, 3, 5]), (20, [3, 2], [60, 2, 4, 530, 0, 1, 2, 3, 4, 5]), (24, [0, 3], []), (24, [1, 4], [])], [(15, (0, 0, 383, []))], [], [], [], [(7, 8, -4294967296, -1), (1, 4, -4294967296, 0), (4, 1, -4294967296, 0)])
theorem oo_St_sendRound_at_gl_4 {kA : Nat → ClassId} : or_ok PRD kA GG o_St_sendRound_at_gl_4 := by
  refine or_mk fun A ta ws vs hD hth hl => ?_
  intro t0 r0 t1 k1 t2 k2 t3 r3 t4 k4 t5 k5 t6 k6 t7 k7 t8 k8 t9 r9 t10 r10 t11 k11 t12 k12 t13 k13 t14 r14 t15 k15 d0 d1 d2 f0 f1 f2 f3 f4 f5 f6 f7 f8 f9 f10 f11 f12 f13 f14
  replace f0 := shm_107 f0
  replace f1 := shm_198 f1
  replace f5 := shm_107 f5
  replace f6 := shm_107 f6
  replace f7 := shm_108 f7
  replace f9 := shm_163 f9
  replace f10 := shm_932 f10
  replace f11 := shm_931 f11
  replace f12 := shm_929 f12
  replace f13 := shm_5 f13
  replace f14 := shm_5 f14
  have q3 : n_v vs 3 = n_v vs 0 := f13.symm
  have q4 : n_v vs 4 = n_v vs 1 := f14.symm
  simp only [q3, q4] at f1 f7 f9 f10 f11 f12
  have cr_0_2 := fdq_108 hD hth r0
  have cr_0_3 := fdq_109 hD hth r0
  have cr_0_4 := fdq_110 hD hth r0
  have cr_0_5 := fdq_111 hD hth r0
  have cr_0_7 := fdq_116 hD hth r0
  have ad_10 : v_ad (n_v vs 10) = w_ar ws (n_v vs 0) 7 := congrArg v_ad f1
  have ad_9 : v_ad (n_v vs 9) = w_ar ws (n_v vs 0) 4 := congrArg v_ad f7
  simp only [ad_10] at f0
  have h0 : v_iv (n_v vs 15) = w_ei ws (w_ar ws (n_v vs 0) 7) (v_iv (n_v vs 6)) := f0
  simp only [ad_9] at f5
  have h5 : v_iv (n_v vs 12) = w_ei ws (w_ar ws (n_v vs 0) 4) (v_iv (n_v vs 11)) := f5
  simp only [ad_10] at f6
  have h6 : v_iv (n_v vs 11) = w_ei ws (w_ar ws (n_v vs 0) 7) (v_iv (n_v vs 6)) := f6
  have g9 : v_iv (n_v vs 8) = w_fi ws (n_v vs 0) 0 := congrArg v_iv f9
  have hK_0_2 := elq_53 hD hth cr_0_2
  have hK_0_3 := elq_54 hD hth cr_0_3
  have hK_0_4 := elq_55 hD hth cr_0_4
  have hK_0_5 := elq_56 hD hth cr_0_5
  have hK_0_7 := elq_59 hD hth cr_0_7
  have kz_0_0 := fdq_114 hD hth r0
  have kz_0_1 := fdq_113 hD hth r0
  have hrf0 : 0 ≤ v_iv (n_v vs 15) ∧ v_iv (n_v vs 15) ≤ 383 := vc_St_sendRound_at_gl_4_r0 (v_iv (n_v vs 1)) (v_iv (n_v vs 2)) (v_iv (n_v vs 4)) (v_iv (n_v vs 5)) (v_iv (n_v vs 6)) (v_iv (n_v vs 7)) (v_iv (n_v vs 8)) (v_iv (n_v vs 11)) (v_iv (n_v vs 12)) (v_iv (n_v vs 13)) (v_iv (n_v vs 15)) (w_ei ws (w_ar ws (n_v vs 0) 7)) (w_ei ws (w_ar ws (n_v vs 0) 4)) (w_fi ws (n_v vs 0) 0) (w_ei ws (w_ar ws (n_v vs 0) 2)) (w_ei ws (w_ar ws (n_v vs 0) 3)) (w_ei ws (w_ar ws (n_v vs 0) 5)) (w_fi ws (n_v vs 0) 1) k1 k2 k4 k5 k6 k7 k8 k11 k12 k13 k15 d0 d1 d2 h0 (shm_22 f3) (shm_22 f4) h5 h6 (shm_6 f8) g9 f10 f11 f12 hK_0_2 hK_0_3 hK_0_4 hK_0_5 hK_0_7 kz_0_0 kz_0_1
  have rf15 : tv_ok ta (0, 0, 383, []) (n_v vs 15) := tv_in t15 (by first | omega | grind) (by first | omega | grind)
  refine ⟨List.forall_mem_cons.mpr ⟨rf15, (fun _ h => (by cases h))⟩, [], trivial, ?_, (fun _ h => (by cases h))⟩
  rw [List.append_nil]
  exact (fun _ h => (by cases h))
set_option maxHeartbeats 4000000 in
theorem vc_St_sendRound_at_gl_5_0 (x1 : Int) (x2 : Int) (x4 : Int) (x5 : Int) (x6 : Int) (x7 : Int) (x8 : Int) (x11 : Int) (x12 : Int) (x13 : Int) (x15 : Int) (x16 : Int) (x17 : Int) (from_0 : Int → Int) (by_0 : Int → Int) (room_0 : Int → Int) (nodes_0 : Int) (to_0 : Int → Int) (gain_0 : Int → Int) (arcs_0 : Int) (k1 : 0 ≤ x1 ∧ x1 ≤ 71) (k2 : 0 ≤ x2 ∧ x2 ≤ 9999) (k4 : 0 ≤ x4 ∧ x4 ≤ 71) (k5 : 1 ≤ x5 ∧ x5 ≤ 1000000000) (k6 : 0 ≤ x6 ∧ x6 ≤ 71) (k7 : 0 ≤ x7 ∧ x7 ≤ 71) (k8 : 1 ≤ x8 ∧ x8 ≤ 72) (k11 : 0 ≤ x11 ∧ x11 ≤ 383) (k12 : 1 ≤ x12 ∧ x12 ≤ 1000000000) (k13 : 1 ≤ x13 ∧ x13 ≤ 1000000000) (k15 : 0 ≤ x15 ∧ x15 ≤ 383) (k16 : 0 ≤ x16 ∧ x16 ≤ 71) (k17 : 1 ≤ x17 ∧ x17 ≤ 72) (d0 : x7 + 1 ≤ x17 ∧ x17 ≤ x7 + 1) (d1 : x8 + (-4294967296) ≤ x17 ∧ x17 ≤ x8 + 0) (d2 : x8 + (-4294967296) ≤ x7 ∧ x7 ≤ x8 + (-1)) (d3 : x4 + (-4294967296) ≤ x1 ∧ x1 ≤ x4 + 0) (d4 : x1 + (-4294967296) ≤ x4 ∧ x4 ≤ x1 + 0) (f0 : x17 = x7 + 1) (f1 : x16 ≠ x1) (h2 : x16 = from_0 (x15)) (h3 : x15 = by_0 (x6)) (f6 : (-1) * x5 + (1 * x13 + 0) ≤ 0) (f7 : (-1) * x12 + (1 * x13 + 0) ≤ 0) (h8 : x12 = room_0 (x11)) (h9 : x11 = by_0 (x6)) (f11 : x7 < x8) (g12 : x8 = nodes_0) (f13 : SL1 (nodes_0) (arcs_0) (from_0) (to_0) (room_0) (gain_0) (by_0) (x1) (x6) (x7) (x5)) (f14 : NWL (nodes_0) (arcs_0) (from_0) (to_0) (gain_0)) (f15 : FLV (nodes_0) (arcs_0) (from_0) (to_0) (room_0) (gain_0) (x2)) (hK_0_2 : ∀ j : Int, 0 ≤ j → j < 384 → 0 ≤ from_0 j ∧ from_0 j ≤ 71) (hK_0_3 : ∀ j : Int, 0 ≤ j → j < 384 → 0 ≤ to_0 j ∧ to_0 j ≤ 71) (hK_0_4 : ∀ j : Int, 0 ≤ j → j < 384 → (-2147483648) ≤ room_0 j ∧ room_0 j ≤ 2147483647) (hK_0_5 : ∀ j : Int, 0 ≤ j → j < 384 → (-20) ≤ gain_0 j ∧ gain_0 j ≤ 20) (hK_0_7 : ∀ j : Int, 0 ≤ j → j < 72 → (-1) ≤ by_0 j ∧ by_0 j ≤ 383) (kz_0_0 : 0 ≤ nodes_0 ∧ nodes_0 ≤ 72) (kz_0_1 : 0 ≤ arcs_0 ∧ arcs_0 ≤ 384) : SL1 (nodes_0) (arcs_0) (from_0) (to_0) (room_0) (gain_0) (by_0) (x1) (x16) (x17) (x13) := by
  first
    | exact sl1_start ‹RSW _ _ _ _ _ _ _› ‹RNG _ _ _› (by omega) (by omega) (by omega) (by omega) (by omega)
    | (skip; (first | subst h2 | skip); (first | subst h3 | skip); (first | subst h8 | skip); (first | subst h9 | skip); exact sl1_step ‹SL1 _ _ _ _ _ _ _ _ _ _ _› ‹NWL _ _ _ _ _› rfl (by omega) (by omega) (by omega) (by omega) (by omega))
  
def o_St_sendRound_at_gl_5 : or_T := (8, 18, [(0, (2, 0, 0, [10])), (1, (0, 0, 71, [])), (2, (0, 0, 9999, [])), (4, (0, 0, 71, [])), (5, (0, 1, 1000000000, [])), (6, (0, 0, 71, [])), (7, (0, 0, 71, [])), (8, (0, 1, 72, [])), (11, (0, 0, 383, [])), (12, (0, 1, 1000000000, [])), (13, (0, 1, 1000000000, [])), (15, (0, 0, 383, [])), (16, (0, 0, 71, [])), (17, (0, 1, 72, []))], [(6, [17, 7], [1]), (7, [16, 4], [1]), (10, [16, 14, 15], []), (10, [15, 10, 6], []), (9, [10, 3], [7]), (9, [14, 3], [2]), (23, [5, 13], [0, -1, 1]), (23, [12, 13], [0, -1, 1]), (10, [12, 9, 11], []), (10, [11, 10, 6], []), (9, [9, 3], [4]), (7, [7, 8], [2]), (9, [8, 3], [0]), (20, [3, 4, 6, 7, 5], [60, 2, 5, 533, 0, 1, 2, 3, 4, 5, 7]), (20, [3], [60, 2, 3, 515, 0, 1, 2, 3, 5]), (20, [3, 2], [60, 2, 4, 530, 0, 1, 2, 3, 4, 5]), (24, [0, 3], []), (24, [1, 4], [])], [], [], [(20, [3, 4, 16, 17, 13], [60, 2, 5, 533, 0, 1, 2, 3, 4, 5, 7])], [], [(17, 7, 1, 1), (17, 8, -4294967296, 0), (7, 8, -4294967296, -1), (1, 4, -4294967296, 0), (4, 1, -4294967296, 0)])
theorem oo_St_sendRound_at_gl_5 {kA : Nat → ClassId} : or_ok PRD kA GG o_St_sendRound_at_gl_5 := by
  refine or_mk fun A ta ws vs hD hth hl => ?_
  intro t0 r0 t1 k1 t2 k2 t4 k4 t5 k5 t6 k6 t7 k7 t8 k8 t11 k11 t12 k12 t13 k13 t15 k15 t16 k16 t17 k17 d0 d1 d2 d3 d4 f0 f1 f2 f3 f4 f5 f6 f7 f8 f9 f10 f11 f12 f13 f14 f15 f16 f17
  replace f0 := shm_4 f0
  replace f1 := shm_40 f1
  replace f2 := shm_107 f2
  replace f3 := shm_107 f3
  replace f4 := shm_198 f4
  replace f5 := shm_120 f5
  replace f6 := shm_22 f6
  replace f7 := shm_22 f7
  replace f8 := shm_107 f8
  replace f9 := shm_107 f9
  replace f10 := shm_108 f10
  replace f11 := shm_6 f11
  replace f12 := shm_163 f12
  replace f13 := shm_932 f13
  replace f14 := shm_931 f14
  replace f15 := shm_929 f15
  replace f16 := shm_5 f16
  replace f17 := shm_5 f17
  have q3 : n_v vs 3 = n_v vs 0 := f16.symm
  have q4 : n_v vs 4 = n_v vs 1 := f17.symm
  simp only [q4, q3] at f1 f4 f5 f10 f12 f13 f14 f15
  have cr_0_2 := fdq_108 hD hth r0
  have cr_0_3 := fdq_109 hD hth r0
  have cr_0_4 := fdq_110 hD hth r0
  have cr_0_5 := fdq_111 hD hth r0
  have cr_0_7 := fdq_116 hD hth r0
  have ad_10 : v_ad (n_v vs 10) = w_ar ws (n_v vs 0) 7 := congrArg v_ad f4
  have ad_14 : v_ad (n_v vs 14) = w_ar ws (n_v vs 0) 2 := congrArg v_ad f5
  have ad_9 : v_ad (n_v vs 9) = w_ar ws (n_v vs 0) 4 := congrArg v_ad f10
  simp only [ad_14] at f2
  have h2 : v_iv (n_v vs 16) = w_ei ws (w_ar ws (n_v vs 0) 2) (v_iv (n_v vs 15)) := f2
  simp only [ad_10] at f3
  have h3 : v_iv (n_v vs 15) = w_ei ws (w_ar ws (n_v vs 0) 7) (v_iv (n_v vs 6)) := f3
  simp only [ad_9] at f8
  have h8 : v_iv (n_v vs 12) = w_ei ws (w_ar ws (n_v vs 0) 4) (v_iv (n_v vs 11)) := f8
  simp only [ad_10] at f9
  have h9 : v_iv (n_v vs 11) = w_ei ws (w_ar ws (n_v vs 0) 7) (v_iv (n_v vs 6)) := f9
  have g12 : v_iv (n_v vs 8) = w_fi ws (n_v vs 0) 0 := congrArg v_iv f12
  have hK_0_2 := elq_53 hD hth cr_0_2
  have hK_0_3 := elq_54 hD hth cr_0_3
  have hK_0_4 := elq_55 hD hth cr_0_4
  have hK_0_5 := elq_56 hD hth cr_0_5
  have hK_0_7 := elq_59 hD hth cr_0_7
  have kz_0_0 := fdq_114 hD hth r0
  have kz_0_1 := fdq_113 hD hth r0
  have nf0 : fc_1 PRD (20, [3, 4, 16, 17, 13], [60, 2, 5, 533, 0, 1, 2, 3, 4, 5, 7]) ws (vs) := by
    refine ⟨nf_in hl rfl, sgq_932 ?_⟩
    · show SL1 (w_fi ws (n_v vs 3) 0) (w_fi ws (n_v vs 3) 1) (w_ei ws (w_ar ws (n_v vs 3) 2)) (w_ei ws (w_ar ws (n_v vs 3) 3)) (w_ei ws (w_ar ws (n_v vs 3) 4)) (w_ei ws (w_ar ws (n_v vs 3) 5)) (w_ei ws (w_ar ws (n_v vs 3) 7)) (v_iv (n_v vs 4)) (v_iv (n_v vs 16)) (v_iv (n_v vs 17)) (v_iv (n_v vs 13))
      simp only [q3, q4]
      exact vc_St_sendRound_at_gl_5_0 (v_iv (n_v vs 1)) (v_iv (n_v vs 2)) (v_iv (n_v vs 4)) (v_iv (n_v vs 5)) (v_iv (n_v vs 6)) (v_iv (n_v vs 7)) (v_iv (n_v vs 8)) (v_iv (n_v vs 11)) (v_iv (n_v vs 12)) (v_iv (n_v vs 13)) (v_iv (n_v vs 15)) (v_iv (n_v vs 16)) (v_iv (n_v vs 17)) (w_ei ws (w_ar ws (n_v vs 0) 2)) (w_ei ws (w_ar ws (n_v vs 0) 7)) (w_ei ws (w_ar ws (n_v vs 0) 4)) (w_fi ws (n_v vs 0) 0) (w_ei ws (w_ar ws (n_v vs 0) 3)) (w_ei ws (w_ar ws (n_v vs 0) 5)) (w_fi ws (n_v vs 0) 1) k1 k2 k4 k5 k6 k7 k8 k11 k12 k13 k15 k16 k17 d0 d1 d2 d3 d4 f0 f1 h2 h3 f6 f7 h8 h9 f11 g12 f13 f14 f15 hK_0_2 hK_0_3 hK_0_4 hK_0_5 hK_0_7 kz_0_0 kz_0_1
  refine ⟨(fun _ h => (by cases h)), [], trivial, ?_, (fun _ h => (by cases h))⟩
  rw [List.append_nil]
  exact List.forall_mem_cons.mpr ⟨⟨show (20 : Nat) < 100 from by decide, nf0⟩, (fun _ h => (by cases h))⟩
set_option maxHeartbeats 4000000 in
theorem vc_St_sendRound_at_gl_6_0 (x1 : Int) (x2 : Int) (x5 : Int) (x6 : Int) (x7 : Int) (x11 : Int) (x12 : Int) (x13 : Int) (x15 : Int) (x16 : Int) (x17 : Int) (from_0 : Int → Int) (by_0 : Int → Int) (room_0 : Int → Int) (nodes_0 : Int) (to_0 : Int → Int) (gain_0 : Int → Int) (arcs_0 : Int) (k1 : 0 ≤ x1 ∧ x1 ≤ 71) (k2 : 0 ≤ x2 ∧ x2 ≤ 9999) (k5 : 1 ≤ x5 ∧ x5 ≤ 1000000000) (k6 : 0 ≤ x6 ∧ x6 ≤ 71) (k7 : 0 ≤ x7 ∧ x7 ≤ 71) (k11 : 0 ≤ x11 ∧ x11 ≤ 383) (k12 : 1 ≤ x12 ∧ x12 ≤ 1000000000) (k13 : 1 ≤ x13 ∧ x13 ≤ 1000000000) (k15 : 0 ≤ x15 ∧ x15 ≤ 383) (k16 : 0 ≤ x16 ∧ x16 ≤ 71) (k17 : 0 ≤ x17 ∧ x17 ≤ 0) (f0 : x16 = x1) (h1 : x16 = from_0 (x15)) (h2 : x15 = by_0 (x6)) (f5 : (-1) * x5 + (1 * x13 + 0) ≤ 0) (f6 : (-1) * x12 + (1 * x13 + 0) ≤ 0) (h7 : x12 = room_0 (x11)) (h8 : x11 = by_0 (x6)) (f12 : SL1 (nodes_0) (arcs_0) (from_0) (to_0) (room_0) (gain_0) (by_0) (x1) (x6) (x7) (x5)) (f13 : NWL (nodes_0) (arcs_0) (from_0) (to_0) (gain_0)) (f14 : FLV (nodes_0) (arcs_0) (from_0) (to_0) (room_0) (gain_0) (x2)) (kz_0_0 : 0 ≤ nodes_0 ∧ nodes_0 ≤ 72) (kz_0_1 : 0 ≤ arcs_0 ∧ arcs_0 ≤ 384) : FLP (nodes_0) (arcs_0) (from_0) (to_0) (room_0) (gain_0) (by_0) (x1) (x16) (x17) (x13) (x2) := by
  first
    | (have q := sl1_few ‹NWL _ _ _ _ _› ‹SL1 _ _ _ _ _ _ _ _ _ _ _›; omega)
    | (skip; (first | subst h1 | skip); (first | subst h2 | skip); (first | subst h7 | skip); (first | subst h8 | skip); exact flp_start (slx_of ‹SL1 _ _ _ _ _ _ _ _ _ _ _› ‹NWL _ _ _ _ _› rfl (by omega) (by omega) (by omega) (by omega)) ‹FLV _ _ _ _ _ _ _› (by omega) (by omega))
    | (skip; (first | subst h1 | skip); (first | subst h2 | skip); (first | subst h7 | skip); (first | subst h8 | skip); exact (flp_step ‹FLP _ _ _ _ _ _ _ _ _ _ _ _› rfl (by assumption) (by omega) (xor_one (by assumption) (by omega) (by omega) (by omega) (by omega) (by omega)) (by assumption) (by omega) rfl (by omega)).1 (by omega))
  
def o_St_sendRound_at_gl_6 : or_T := (62, 18, [(0, (2, 0, 0, [10])), (1, (0, 0, 71, [])), (2, (0, 0, 9999, [])), (5, (0, 1, 1000000000, [])), (6, (0, 0, 71, [])), (7, (0, 0, 71, [])), (11, (0, 0, 383, [])), (12, (0, 1, 1000000000, [])), (13, (0, 1, 1000000000, [])), (15, (0, 0, 383, [])), (16, (0, 0, 71, [])), (17, (0, 0, 0, []))], [(7, [16, 4], [0]), (10, [16, 14, 15], []), (10, [15, 10, 6], []), (9, [10, 3], [7]), (9, [14, 3], [2]), (23, [5, 13], [0, -1, 1]), (23, [12, 13], [0, -1, 1]), (10, [12, 9, 11], []), (10, [11, 10, 6], []), (9, [9, 3], [4]), (20, [3, 4, 6, 7, 5], [60, 2, 5, 533, 0, 1, 2, 3, 4, 5, 7]), (20, [3], [60, 2, 3, 515, 0, 1, 2, 3, 5]), (20, [3, 2], [60, 2, 4, 530, 0, 1, 2, 3, 4, 5]), (24, [0, 3], []), (24, [1, 4], [])], [], [], [(20, [3, 4, 16, 17, 13, 2], [60, 2, 5, 535, 0, 1, 2, 3, 4, 5, 7])], [], [])
theorem oo_St_sendRound_at_gl_6 {kA : Nat → ClassId} : or_ok PRD kA GG o_St_sendRound_at_gl_6 := by
  refine or_mk fun A ta ws vs hD hth hl => ?_
  intro t0 r0 t1 k1 t2 k2 t5 k5 t6 k6 t7 k7 t11 k11 t12 k12 t13 k13 t15 k15 t16 k16 t17 k17 f0 f1 f2 f3 f4 f5 f6 f7 f8 f9 f12 f13 f14 f15 f16
  replace f0 := shm_37 f0
  replace f1 := shm_107 f1
  replace f2 := shm_107 f2
  replace f3 := shm_198 f3
  replace f4 := shm_120 f4
  replace f5 := shm_22 f5
  replace f6 := shm_22 f6
  replace f7 := shm_107 f7
  replace f8 := shm_107 f8
  replace f9 := shm_108 f9
  replace f12 := shm_932 f12
  replace f13 := shm_931 f13
  replace f14 := shm_929 f14
  replace f15 := shm_5 f15
  replace f16 := shm_5 f16
  have q3 : n_v vs 3 = n_v vs 0 := f15.symm
  have q4 : n_v vs 4 = n_v vs 1 := f16.symm
  simp only [q4, q3] at f0 f3 f4 f9 f12 f13 f14
  have ad_10 : v_ad (n_v vs 10) = w_ar ws (n_v vs 0) 7 := congrArg v_ad f3
  have ad_14 : v_ad (n_v vs 14) = w_ar ws (n_v vs 0) 2 := congrArg v_ad f4
  have ad_9 : v_ad (n_v vs 9) = w_ar ws (n_v vs 0) 4 := congrArg v_ad f9
  simp only [ad_14] at f1
  have h1 : v_iv (n_v vs 16) = w_ei ws (w_ar ws (n_v vs 0) 2) (v_iv (n_v vs 15)) := f1
  simp only [ad_10] at f2
  have h2 : v_iv (n_v vs 15) = w_ei ws (w_ar ws (n_v vs 0) 7) (v_iv (n_v vs 6)) := f2
  simp only [ad_9] at f7
  have h7 : v_iv (n_v vs 12) = w_ei ws (w_ar ws (n_v vs 0) 4) (v_iv (n_v vs 11)) := f7
  simp only [ad_10] at f8
  have h8 : v_iv (n_v vs 11) = w_ei ws (w_ar ws (n_v vs 0) 7) (v_iv (n_v vs 6)) := f8
  have kz_0_0 := fdq_114 hD hth r0
  have kz_0_1 := fdq_113 hD hth r0
  have nf0 : fc_1 PRD (20, [3, 4, 16, 17, 13, 2], [60, 2, 5, 535, 0, 1, 2, 3, 4, 5, 7]) ws (vs) := by
    refine ⟨nf_in hl rfl, sgq_933 ?_⟩
    · show FLP (w_fi ws (n_v vs 3) 0) (w_fi ws (n_v vs 3) 1) (w_ei ws (w_ar ws (n_v vs 3) 2)) (w_ei ws (w_ar ws (n_v vs 3) 3)) (w_ei ws (w_ar ws (n_v vs 3) 4)) (w_ei ws (w_ar ws (n_v vs 3) 5)) (w_ei ws (w_ar ws (n_v vs 3) 7)) (v_iv (n_v vs 4)) (v_iv (n_v vs 16)) (v_iv (n_v vs 17)) (v_iv (n_v vs 13)) (v_iv (n_v vs 2))
      simp only [q3, q4]
      exact vc_St_sendRound_at_gl_6_0 (v_iv (n_v vs 1)) (v_iv (n_v vs 2)) (v_iv (n_v vs 5)) (v_iv (n_v vs 6)) (v_iv (n_v vs 7)) (v_iv (n_v vs 11)) (v_iv (n_v vs 12)) (v_iv (n_v vs 13)) (v_iv (n_v vs 15)) (v_iv (n_v vs 16)) (v_iv (n_v vs 17)) (w_ei ws (w_ar ws (n_v vs 0) 2)) (w_ei ws (w_ar ws (n_v vs 0) 7)) (w_ei ws (w_ar ws (n_v vs 0) 4)) (w_fi ws (n_v vs 0) 0) (w_ei ws (w_ar ws (n_v vs 0) 3)) (w_ei ws (w_ar ws (n_v vs 0) 5)) (w_fi ws (n_v vs 0) 1) k1 k2 k5 k6 k7 k11 k12 k13 k15 k16 k17 f0 h1 h2 f5 f6 h7 h8 f12 f13 f14 kz_0_0 kz_0_1
  refine ⟨(fun _ h => (by cases h)), [], trivial, ?_, (fun _ h => (by cases h))⟩
  rw [List.append_nil]
  exact List.forall_mem_cons.mpr ⟨⟨show (20 : Nat) < 100 from by decide, nf0⟩, (fun _ h => (by cases h))⟩
set_option maxHeartbeats 4000000 in
theorem vc_St_sendRound_at_gl_7_0 (x1 : Int) (x2 : Int) (x5 : Int) (x6 : Int) (x7 : Int) (x8 : Int) (nodes_0 : Int) (from_0 : Int → Int) (to_0 : Int → Int) (room_0 : Int → Int) (gain_0 : Int → Int) (by_0 : Int → Int) (arcs_0 : Int) (k1 : 0 ≤ x1 ∧ x1 ≤ 71) (k2 : 0 ≤ x2 ∧ x2 ≤ 9999) (k5 : 1 ≤ x5 ∧ x5 ≤ 1000000000) (k6 : 0 ≤ x6 ∧ x6 ≤ 71) (k7 : 0 ≤ x7 ∧ x7 ≤ 72) (k8 : 0 ≤ x8 ∧ x8 ≤ 72) (d0 : x8 + 0 ≤ x7 ∧ x7 ≤ x8 + 4294967296) (g1 : x8 = nodes_0) (f2 : FLP (nodes_0) (arcs_0) (from_0) (to_0) (room_0) (gain_0) (by_0) (x1) (x6) (x7) (x5) (x2)) (kz_0_0 : 0 ≤ nodes_0 ∧ nodes_0 ≤ 72) (kz_0_1 : 0 ≤ arcs_0 ∧ arcs_0 ≤ 384) : FLV1 (nodes_0) (arcs_0) (from_0) (to_0) (room_0) (gain_0) (x2) := by
  first
    | (have q := flp_few ‹FLP _ _ _ _ _ _ _ _ _ _ _ _›; omega)
    | (skip; exact (flp_step ‹FLP _ _ _ _ _ _ _ _ _ _ _ _› rfl (by assumption) (by omega) (xor_one (by assumption) (by omega) (by omega) (by omega) (by omega) (by omega)) (by assumption) (by omega) rfl rfl).2 (by omega))
  
def o_St_sendRound_at_gl_7 : or_T := (129, 9, [(0, (2, 0, 0, [10])), (1, (0, 0, 71, [])), (2, (0, 0, 9999, [])), (5, (0, 1, 1000000000, [])), (6, (0, 0, 71, [])), (7, (0, 0, 72, [])), (8, (0, 0, 72, []))], [(9, [8, 3], [0]), (20, [3, 4, 6, 7, 5, 2], [60, 2, 5, 535, 0, 1, 2, 3, 4, 5, 7]), (24, [0, 3], []), (24, [1, 4], [])], [], [], [(20, [0, 2], [60, 2, 4, 531, 0, 1, 2, 3, 4, 5])], [], [(7, 8, 0, 4294967296)])
theorem oo_St_sendRound_at_gl_7 {kA : Nat → ClassId} : or_ok PRD kA GG o_St_sendRound_at_gl_7 := by
  refine or_mk fun A ta ws vs hD hth hl => ?_
  intro t0 r0 t1 k1 t2 k2 t5 k5 t6 k6 t7 k7 t8 k8 d0 f1 f2 f3 f4
  replace f1 := shm_163 f1
  replace f2 := shm_933 f2
  replace f3 := shm_5 f3
  replace f4 := shm_5 f4
  have q3 : n_v vs 3 = n_v vs 0 := f3.symm
  have q4 : n_v vs 4 = n_v vs 1 := f4.symm
  simp only [q3, q4] at f1 f2
  have g1 : v_iv (n_v vs 8) = w_fi ws (n_v vs 0) 0 := congrArg v_iv f1
  have kz_0_0 := fdq_114 hD hth r0
  have kz_0_1 := fdq_113 hD hth r0
  have nf0 : fc_1 PRD (20, [0, 2], [60, 2, 4, 531, 0, 1, 2, 3, 4, 5]) ws (vs) := ⟨nf_in hl rfl, sgq_934 (vc_St_sendRound_at_gl_7_0 (v_iv (n_v vs 1)) (v_iv (n_v vs 2)) (v_iv (n_v vs 5)) (v_iv (n_v vs 6)) (v_iv (n_v vs 7)) (v_iv (n_v vs 8)) (w_fi ws (n_v vs 0) 0) (w_ei ws (w_ar ws (n_v vs 0) 2)) (w_ei ws (w_ar ws (n_v vs 0) 3)) (w_ei ws (w_ar ws (n_v vs 0) 4)) (w_ei ws (w_ar ws (n_v vs 0) 5)) (w_ei ws (w_ar ws (n_v vs 0) 7)) (w_fi ws (n_v vs 0) 1) k1 k2 k5 k6 k7 k8 d0 g1 f2 kz_0_0 kz_0_1)⟩
  refine ⟨(fun _ h => (by cases h)), [], trivial, ?_, (fun _ h => (by cases h))⟩
  rw [List.append_nil]
  exact List.forall_mem_cons.mpr ⟨⟨show (20 : Nat) < 100 from by decide, nf0⟩, (fun _ h => (by cases h))⟩
set_option maxHeartbeats 4000000 in
theorem vc_St_sendRound_at_gl_8_r0 (x1 : Int) (x2 : Int) (x5 : Int) (x6 : Int) (x7 : Int) (x11 : Int) (by_0 : Int → Int) (nodes_0 : Int) (from_0 : Int → Int) (to_0 : Int → Int) (room_0 : Int → Int) (gain_0 : Int → Int) (arcs_0 : Int) (k1 : 0 ≤ x1 ∧ x1 ≤ 71) (k2 : 0 ≤ x2 ∧ x2 ≤ 9999) (k5 : 1 ≤ x5 ∧ x5 ≤ 1000000000) (k6 : 0 ≤ x6 ∧ x6 ≤ 71) (k7 : 0 ≤ x7 ∧ x7 ≤ 71) (k11 : (-1) ≤ x11 ∧ x11 ≤ 383) (h0 : x11 = by_0 (x6)) (f5 : FLP (nodes_0) (arcs_0) (from_0) (to_0) (room_0) (gain_0) (by_0) (x1) (x6) (x7) (x5) (x2)) (kz_0_0 : 0 ≤ nodes_0 ∧ nodes_0 ≤ 72) (kz_0_1 : 0 ≤ arcs_0 ∧ arcs_0 ≤ 384) : 0 ≤ x11 ∧ x11 ≤ 383 := by
  first
    | (have q := sl1_by ‹NWL _ _ _ _ _› ‹SL1 _ _ _ _ _ _ _ _ _ _ _›; have n := (‹NWL _ _ _ _ _›).2.2.2.1; skip; (first | subst h0 | skip); omega)
    | (have q := flp_by ‹FLP _ _ _ _ _ _ _ _ _ _ _ _›; have n := (‹FLP _ _ _ _ _ _ _ _ _ _ _ _›).2.1.2.2.2.1; skip; (first | subst h0 | skip); omega)
    | (have q := sl1_by ‹NWL _ _ _ _ _› ‹SL1 _ _ _ _ _ _ _ _ _ _ _›; have n := flv_room ‹FLV _ _ _ _ _ _ _› q.1 q.2.1; skip; (first | subst h0 | skip); omega)
    | (have q := flp_by ‹FLP _ _ _ _ _ _ _ _ _ _ _ _›; have n := flp_room ‹FLP _ _ _ _ _ _ _ _ _ _ _ _› q.2.2.1 q.2.2.2.1; skip; (first | subst h0 | skip); omega)
    | (skip; (first | subst h0 | skip); have e := xor_one (x := x16) (by assumption) (by omega) (by have q := flp_by ‹FLP _ _ _ _ _ _ _ _ _ _ _ _›; omega) (by omega) (by omega) (by omega); have q2 := flp_other ‹FLP _ _ _ _ _ _ _ _ _ _ _ _› rfl e (by assumption); omega)
  
def o_St_sendRound_at_gl_8 : or_T := (81, 12, [(0, (2, 0, 0, [10])), (1, (0, 0, 71, [])), (2, (0, 0, 9999, [])), (3, (2, 0, 0, [10])), (4, (0, 0, 71, [])), (5, (0, 1, 1000000000, [])), (6, (0, 0, 71, [])), (7, (0, 0, 71, [])), (8, (0, 1, 72, [])), (9, (2, 0, 0, [120])), (10, (2, 0, 0, [123])), (11, (0, -1, 383, []))], [(10, [11, 10, 6], []), (9, [10, 3], [7]), (9, [9, 3], [4]), (7, [7, 8], [2]), (9, [8, 3], [0]), (20, [3, 4, 6, 7, 5, 2], [60, 2, 5, 535, 0, 1, 2, 3, 4, 5, 7]), (24, [0, 3], []), (24, [1, 4], [])], [(11, (0, 0, 383, []))], [], [], [], [(7, 8, -4294967296, -1), (1, 4, -4294967296, 0), (4, 1, -4294967296, 0)])
theorem oo_St_sendRound_at_gl_8 {kA : Nat → ClassId} : or_ok PRD kA GG o_St_sendRound_at_gl_8 := by
  refine or_mk fun A ta ws vs hD hth hl => ?_
  intro t0 r0 t1 k1 t2 k2 t3 r3 t4 k4 t5 k5 t6 k6 t7 k7 t8 k8 t9 r9 t10 r10 t11 k11 d0 d1 d2 f0 f1 f2 f3 f4 f5 f6 f7
  replace f0 := shm_107 f0
  replace f1 := shm_198 f1
  replace f5 := shm_933 f5
  replace f6 := shm_5 f6
  replace f7 := shm_5 f7
  have q3 : n_v vs 3 = n_v vs 0 := f6.symm
  have q4 : n_v vs 4 = n_v vs 1 := f7.symm
  simp only [q3, q4] at f1 f5
  have ad_10 : v_ad (n_v vs 10) = w_ar ws (n_v vs 0) 7 := congrArg v_ad f1
  simp only [ad_10] at f0
  have h0 : v_iv (n_v vs 11) = w_ei ws (w_ar ws (n_v vs 0) 7) (v_iv (n_v vs 6)) := f0
  have kz_0_0 := fdq_114 hD hth r0
  have kz_0_1 := fdq_113 hD hth r0
  have hrf0 : 0 ≤ v_iv (n_v vs 11) ∧ v_iv (n_v vs 11) ≤ 383 := vc_St_sendRound_at_gl_8_r0 (v_iv (n_v vs 1)) (v_iv (n_v vs 2)) (v_iv (n_v vs 5)) (v_iv (n_v vs 6)) (v_iv (n_v vs 7)) (v_iv (n_v vs 11)) (w_ei ws (w_ar ws (n_v vs 0) 7)) (w_fi ws (n_v vs 0) 0) (w_ei ws (w_ar ws (n_v vs 0) 2)) (w_ei ws (w_ar ws (n_v vs 0) 3)) (w_ei ws (w_ar ws (n_v vs 0) 4)) (w_ei ws (w_ar ws (n_v vs 0) 5)) (w_fi ws (n_v vs 0) 1) k1 k2 k5 k6 k7 k11 h0 f5 kz_0_0 kz_0_1
  have rf11 : tv_ok ta (0, 0, 383, []) (n_v vs 11) := tv_in t11 (by first | omega | grind) (by first | omega | grind)
  refine ⟨List.forall_mem_cons.mpr ⟨rf11, (fun _ h => (by cases h))⟩, [], trivial, ?_, (fun _ h => (by cases h))⟩
  rw [List.append_nil]
  exact (fun _ h => (by cases h))
set_option maxHeartbeats 4000000 in
theorem vc_St_sendRound_at_gl_9_r0 (x1 : Int) (x2 : Int) (x5 : Int) (x6 : Int) (x7 : Int) (x11 : Int) (x12 : Int) (room_0 : Int → Int) (by_0 : Int → Int) (nodes_0 : Int) (from_0 : Int → Int) (to_0 : Int → Int) (gain_0 : Int → Int) (arcs_0 : Int) (k1 : 0 ≤ x1 ∧ x1 ≤ 71) (k2 : 0 ≤ x2 ∧ x2 ≤ 9999) (k5 : 1 ≤ x5 ∧ x5 ≤ 1000000000) (k6 : 0 ≤ x6 ∧ x6 ≤ 71) (k7 : 0 ≤ x7 ∧ x7 ≤ 71) (k11 : 0 ≤ x11 ∧ x11 ≤ 383) (k12 : (-2147483648) ≤ x12 ∧ x12 ≤ 2147483647) (h0 : x12 = room_0 (x11)) (h1 : x11 = by_0 (x6)) (f6 : FLP (nodes_0) (arcs_0) (from_0) (to_0) (room_0) (gain_0) (by_0) (x1) (x6) (x7) (x5) (x2)) (kz_0_0 : 0 ≤ nodes_0 ∧ nodes_0 ≤ 72) (kz_0_1 : 0 ≤ arcs_0 ∧ arcs_0 ≤ 384) : 1 ≤ x12 ∧ x12 ≤ 1000000000 := by
  first
    | (have q := sl1_by ‹NWL _ _ _ _ _› ‹SL1 _ _ _ _ _ _ _ _ _ _ _›; have n := (‹NWL _ _ _ _ _›).2.2.2.1; skip; (first | subst h0 | skip); (first | subst h1 | skip); omega)
    | (have q := flp_by ‹FLP _ _ _ _ _ _ _ _ _ _ _ _›; have n := (‹FLP _ _ _ _ _ _ _ _ _ _ _ _›).2.1.2.2.2.1; skip; (first | subst h0 | skip); (first | subst h1 | skip); omega)
    | (have q := sl1_by ‹NWL _ _ _ _ _› ‹SL1 _ _ _ _ _ _ _ _ _ _ _›; have n := flv_room ‹FLV _ _ _ _ _ _ _› q.1 q.2.1; skip; (first | subst h0 | skip); (first | subst h1 | skip); omega)
    | (have q := flp_by ‹FLP _ _ _ _ _ _ _ _ _ _ _ _›; have n := flp_room ‹FLP _ _ _ _ _ _ _ _ _ _ _ _› q.2.2.1 q.2.2.2.1; skip; (first | subst h0 | skip); (first | subst h1 | skip); omega)
    | (skip; (first | subst h0 | skip); (first | subst h1 | skip); have e := xor_one (x := x16) (by assumption) (by omega) (by have q := flp_by ‹FLP _ _ _ _ _ _ _ _ _ _ _ _›; omega) (by omega) (by omega) (by omega); have q2 := flp_other ‹FLP _ _ _ _ _ _ _ _ _ _ _ _› rfl e (by assumption); omega)
  
def o_St_sendRound_at_gl_9 : or_T := (83, 13, [(0, (2, 0, 0, [10])), (1, (0, 0, 71, [])), (2, (0, 0, 9999, [])), (3, (2, 0, 0, [10])), (4, (0, 0, 71, [])), (5, (0, 1, 1000000000, [])), (6, (0, 0, 71, [])), (7, (0, 0, 71, [])), (8, (0, 1, 72, [])), (9, (2, 0, 0, [120])), (10, (2, 0, 0, [123])), (11, (0, 0, 383, [])), (12, (0, -2147483648, 2147483647, []))], [(10, [12, 9, 11], []), (10, [11, 10, 6], []), (9, [10, 3], [7]), (9, [9, 3], [4]), (7, [7, 8], [2]), (9, [8, 3], [0]), (20, [3, 4, 6, 7, 5, 2], [60, 2, 5, 535, 0, 1, 2, 3, 4, 5, 7]), (24, [0, 3], []), (24, [1, 4], [])], [(12, (0, 1, 1000000000, []))], [], [], [], [(7, 8, -4294967296, -1), (1, 4, -4294967296, 0), (4, 1, -4294967296, 0)])
theorem oo_St_sendRound_at_gl_9 {kA : Nat → ClassId} : or_ok PRD kA GG o_St_sendRound_at_gl_9 := by
  refine or_mk fun A ta ws vs hD hth hl => ?_
  intro t0 r0 t1 k1 t2 k2 t3 r3 t4 k4 t5 k5 t6 k6 t7 k7 t8 k8 t9 r9 t10 r10 t11 k11 t12 k12 d0 d1 d2 f0 f1 f2 f3 f4 f5 f6 f7 f8
  replace f0 := shm_107 f0
  replace f1 := shm_107 f1
  replace f2 := shm_198 f2
  replace f3 := shm_108 f3
  replace f6 := shm_933 f6
  replace f7 := shm_5 f7
  replace f8 := shm_5 f8
  have q3 : n_v vs 3 = n_v vs 0 := f7.symm
  have q4 : n_v vs 4 = n_v vs 1 := f8.symm
  simp only [q3, q4] at f2 f3 f6
  have ad_10 : v_ad (n_v vs 10) = w_ar ws (n_v vs 0) 7 := congrArg v_ad f2
  have ad_9 : v_ad (n_v vs 9) = w_ar ws (n_v vs 0) 4 := congrArg v_ad f3
  simp only [ad_9] at f0
  have h0 : v_iv (n_v vs 12) = w_ei ws (w_ar ws (n_v vs 0) 4) (v_iv (n_v vs 11)) := f0
  simp only [ad_10] at f1
  have h1 : v_iv (n_v vs 11) = w_ei ws (w_ar ws (n_v vs 0) 7) (v_iv (n_v vs 6)) := f1
  have kz_0_0 := fdq_114 hD hth r0
  have kz_0_1 := fdq_113 hD hth r0
  have hrf0 : 1 ≤ v_iv (n_v vs 12) ∧ v_iv (n_v vs 12) ≤ 1000000000 := vc_St_sendRound_at_gl_9_r0 (v_iv (n_v vs 1)) (v_iv (n_v vs 2)) (v_iv (n_v vs 5)) (v_iv (n_v vs 6)) (v_iv (n_v vs 7)) (v_iv (n_v vs 11)) (v_iv (n_v vs 12)) (w_ei ws (w_ar ws (n_v vs 0) 4)) (w_ei ws (w_ar ws (n_v vs 0) 7)) (w_fi ws (n_v vs 0) 0) (w_ei ws (w_ar ws (n_v vs 0) 2)) (w_ei ws (w_ar ws (n_v vs 0) 3)) (w_ei ws (w_ar ws (n_v vs 0) 5)) (w_fi ws (n_v vs 0) 1) k1 k2 k5 k6 k7 k11 k12 h0 h1 f6 kz_0_0 kz_0_1
  have rf12 : tv_ok ta (0, 1, 1000000000, []) (n_v vs 12) := tv_in t12 (by first | omega | grind) (by first | omega | grind)
  refine ⟨List.forall_mem_cons.mpr ⟨rf12, (fun _ h => (by cases h))⟩, [], trivial, ?_, (fun _ h => (by cases h))⟩
  rw [List.append_nil]
  exact (fun _ h => (by cases h))
set_option maxHeartbeats 4000000 in
theorem vc_St_sendRound_at_gl_10_r0 (x1 : Int) (x2 : Int) (x5 : Int) (x6 : Int) (x7 : Int) (x11 : Int) (x12 : Int) (x13 : Int) (x14 : Int) (x15 : Int) (x16 : Int) (by_0 : Int → Int) (room_1 : Int → Int) (by_1 : Int → Int) (nodes_1 : Int) (from_1 : Int → Int) (to_1 : Int → Int) (gain_1 : Int → Int) (arcs_1 : Int) (nodes_0 : Int) (arcs_0 : Int) (from_0 : Int → Int) (to_0 : Int → Int) (room_0 : Int → Int) (gain_0 : Int → Int) (k1 : 0 ≤ x1 ∧ x1 ≤ 71) (k2 : 0 ≤ x2 ∧ x2 ≤ 9999) (k5 : 1 ≤ x5 ∧ x5 ≤ 1000000000) (k6 : 0 ≤ x6 ∧ x6 ≤ 71) (k7 : 0 ≤ x7 ∧ x7 ≤ 71) (k11 : 0 ≤ x11 ∧ x11 ≤ 383) (k12 : 1 ≤ x12 ∧ x12 ≤ 1000000000) (k13 : (-999999999) ≤ x13 ∧ x13 ≤ 999999999) (k14 : (-1) ≤ x14 ∧ x14 ≤ 383) (k15 : 1 ≤ x15 ∧ x15 ≤ 1) (k16 : (-2147483648) ≤ x16 ∧ x16 ≤ 2147483647) (f0 : bvp (x16) = bvp (x14) ^^^ bvp (x15)) (h1 : x14 = by_0 (x6)) (h8 : x12 = room_1 (x11)) (h9 : x11 = by_1 (x6)) (f12 : FLP (nodes_1) (arcs_1) (from_1) (to_1) (room_1) (gain_1) (by_1) (x1) (x6) (x7) (x5) (x2)) (fe_0_0_1 : nodes_0 = nodes_1) (fe_0_1_1 : arcs_0 = arcs_1) (hE_0_2_1 : ∀ j : Int, from_0 j = from_1 j) (hE_0_3_1 : ∀ j : Int, to_0 j = to_1 j) (hE_0_4_1 : ∀ j : Int, 0 ≤ j → (j = x11 → room_0 j = x13) ∧ (j ≠ x11 → room_0 j = room_1 j)) (hE_0_5_1 : ∀ j : Int, gain_0 j = gain_1 j) (hE_0_7_1 : ∀ j : Int, by_0 j = by_1 j) (kz_0_0 : 0 ≤ nodes_0 ∧ nodes_0 ≤ 72) (kz_0_1 : 0 ≤ arcs_0 ∧ arcs_0 ≤ 384) : 0 ≤ x16 ∧ x16 ≤ 383 := by
  subst fe_0_0_1
  subst fe_0_1_1
  have e_hE_0_2_1 := funext hE_0_2_1; subst e_hE_0_2_1
  have e_hE_0_3_1 := funext hE_0_3_1; subst e_hE_0_3_1
  have e_hE_0_5_1 := funext hE_0_5_1; subst e_hE_0_5_1
  have e_hE_0_7_1 := funext hE_0_7_1; subst e_hE_0_7_1
  first
    | (have q := sl1_by ‹NWL _ _ _ _ _› ‹SL1 _ _ _ _ _ _ _ _ _ _ _›; have n := (‹NWL _ _ _ _ _›).2.2.2.1; skip; (first | subst h1 | skip); (first | subst h8 | skip); (first | subst h9 | skip); omega)
    | (have q := flp_by ‹FLP _ _ _ _ _ _ _ _ _ _ _ _›; have n := (‹FLP _ _ _ _ _ _ _ _ _ _ _ _›).2.1.2.2.2.1; skip; (first | subst h1 | skip); (first | subst h8 | skip); (first | subst h9 | skip); omega)
    | (have q := sl1_by ‹NWL _ _ _ _ _› ‹SL1 _ _ _ _ _ _ _ _ _ _ _›; have n := flv_room ‹FLV _ _ _ _ _ _ _› q.1 q.2.1; skip; (first | subst h1 | skip); (first | subst h8 | skip); (first | subst h9 | skip); omega)
    | (have q := flp_by ‹FLP _ _ _ _ _ _ _ _ _ _ _ _›; have n := flp_room ‹FLP _ _ _ _ _ _ _ _ _ _ _ _› q.2.2.1 q.2.2.2.1; skip; (first | subst h1 | skip); (first | subst h8 | skip); (first | subst h9 | skip); omega)
    | (skip; (first | subst h1 | skip); (first | subst h8 | skip); (first | subst h9 | skip); have e := xor_one (x := x16) (by assumption) (by omega) (by have q := flp_by ‹FLP _ _ _ _ _ _ _ _ _ _ _ _›; omega) (by omega) (by omega) (by omega); have q2 := flp_other ‹FLP _ _ _ _ _ _ _ _ _ _ _ _› rfl e (by assumption); omega)
  
def o_St_sendRound_at_gl_10 : or_T := (98, 17, [(0, (2, 0, 0, [10])), (1, (0, 0, 71, [])), (2, (0, 0, 9999, [])), (3, (2, 0, 0, [10])), (4, (0, 0, 71, [])), (5, (0, 1, 1000000000, [])), (6, (0, 0, 71, [])), (7, (0, 0, 71, [])), (8, (0, 1, 72, [])), (9, (2, 0, 0, [120])), (10, (2, 0, 0, [123])), (11, (0, 0, 383, [])), (12, (0, 1, 1000000000, [])), (13, (0, -999999999, 999999999, [])), (14, (0, -1, 383, [])), (15, (0, 1, 1, [])), (16, (0, -2147483648, 2147483647, []))], [(16, [16, 14, 15], [2]), (10, [14, 10, 6], []), (9, [10, 3], [7]), (9, [9, 3], [4]), (24, [0, 3], []), (24, [1, 4], []), (100, [9, 11, 13], []), (2, [13, 12, 5], []), (10, [12, 9, 11], []), (10, [11, 10, 6], []), (7, [7, 8], [2]), (9, [8, 3], [0]), (20, [3, 4, 6, 7, 5, 2], [60, 2, 5, 535, 0, 1, 2, 3, 4, 5, 7])], [(16, (0, 0, 383, []))], [], [], [], [(13, 12, -1000000000, -1), (7, 8, -4294967296, -1), (1, 4, -4294967296, 0), (4, 1, -4294967296, 0)])
theorem oo_St_sendRound_at_gl_10 {kA : Nat → ClassId} : or_ok PRD kA GG o_St_sendRound_at_gl_10 := by
  refine or_mk fun A ta ws vs hD hth hl => ?_
  intro t0 r0 t1 k1 t2 k2 t3 r3 t4 k4 t5 k5 t6 k6 t7 k7 t8 k8 t9 r9 t10 r10 t11 k11 t12 k12 t13 k13 t14 k14 t15 k15 t16 k16 d0 d1 d2 d3 f0 f1 f2 f3 f4 f5 ta1 w1 le1 s1 f7 f8 f9 f10 f11 f12
  replace f1 := shm_107 f1
  replace f2 := shm_198 f2
  replace f3 := shm_108 f3
  replace f4 := shm_5 f4
  replace f5 := shm_5 f5
  have s1 : (∀ b j, w_el ws b j = if b = v_ad (n_v vs 9) ∧ j = (v_iv (n_v vs 11)).toNat then v_iv (n_v vs 13) else w_el w1 b j) ∧ ∀ b k, w_fd ws b k = w_fd w1 b k := s1.2
  replace f8 := shm_107 f8
  replace f9 := shm_107 f9
  replace f12 := shm_933 f12
  have q3 : n_v vs 3 = n_v vs 0 := f4.symm
  have q4 : n_v vs 4 = n_v vs 1 := f5.symm
  simp only [q3, q4] at f2 f3 f12
  have ar_0_2_1 : w_ar w1 (n_v vs 0) 2 = w_ar ws (n_v vs 0) 2 := congrArg v_ad (s1.2 _ _).symm
  have cr_0_2 := fdq_108 hD hth r0
  have ar_0_3_1 : w_ar w1 (n_v vs 0) 3 = w_ar ws (n_v vs 0) 3 := congrArg v_ad (s1.2 _ _).symm
  have cr_0_3 := fdq_109 hD hth r0
  have ar_0_4_1 : w_ar w1 (n_v vs 0) 4 = w_ar ws (n_v vs 0) 4 := congrArg v_ad (s1.2 _ _).symm
  have ar_0_5_1 : w_ar w1 (n_v vs 0) 5 = w_ar ws (n_v vs 0) 5 := congrArg v_ad (s1.2 _ _).symm
  have cr_0_5 := fdq_111 hD hth r0
  have ar_0_7_1 : w_ar w1 (n_v vs 0) 7 = w_ar ws (n_v vs 0) 7 := congrArg v_ad (s1.2 _ _).symm
  have cr_0_7 := fdq_116 hD hth r0
  have ad_10 : v_ad (n_v vs 10) = w_ar ws (n_v vs 0) 7 := congrArg v_ad f2
  have ad_9 : v_ad (n_v vs 9) = w_ar ws (n_v vs 0) 4 := congrArg v_ad f3
  simp only [ad_10] at f1
  have h1 : v_iv (n_v vs 14) = w_ei ws (w_ar ws (n_v vs 0) 7) (v_iv (n_v vs 6)) := f1
  simp only [ad_9] at f8
  have h8 : v_iv (n_v vs 12) = w_ei w1 (w_ar ws (n_v vs 0) 4) (v_iv (n_v vs 11)) := f8
  simp only [ad_10] at f9
  have h9 : v_iv (n_v vs 11) = w_ei w1 (w_ar ws (n_v vs 0) 7) (v_iv (n_v vs 6)) := f9
  simp only [ar_0_2_1, ar_0_3_1, ar_0_4_1, ar_0_5_1, ar_0_7_1] at f12
  have fe_0_0_1 : w_fi ws (n_v vs 0) 0 = w_fi w1 (n_v vs 0) 0 := congrArg v_iv (s1.2 _ _)
  have fe_0_1_1 : w_fi ws (n_v vs 0) 1 = w_fi w1 (n_v vs 0) 1 := congrArg v_iv (s1.2 _ _)
  have hE_0_2_1 : ∀ j : Int, w_ei ws (w_ar ws (n_v vs 0) 2) j = w_ei w1 (w_ar ws (n_v vs 0) 2) j := el_kp s1.1 r9 cr_0_2 (by decide)
  have hE_0_3_1 : ∀ j : Int, w_ei ws (w_ar ws (n_v vs 0) 3) j = w_ei w1 (w_ar ws (n_v vs 0) 3) j := el_kp s1.1 r9 cr_0_3 (by decide)
  have hE_0_4_1 : ∀ j : Int, 0 ≤ j → (j = v_iv (n_v vs 11) → w_ei ws (w_ar ws (n_v vs 0) 4) j = v_iv (n_v vs 13)) ∧ (j ≠ v_iv (n_v vs 11) → w_ei ws (w_ar ws (n_v vs 0) 4) j = w_ei w1 (w_ar ws (n_v vs 0) 4) j) := fun j hj => ⟨fun h => by unfold w_ei; rw [s1.1, if_pos ⟨ad_9.symm, by rw [h]⟩], fun h => by unfold w_ei; rw [s1.1, if_neg (fun e => h (by have := e.2; omega))]⟩
  have hE_0_5_1 : ∀ j : Int, w_ei ws (w_ar ws (n_v vs 0) 5) j = w_ei w1 (w_ar ws (n_v vs 0) 5) j := el_kp s1.1 r9 cr_0_5 (by decide)
  have hE_0_7_1 : ∀ j : Int, w_ei ws (w_ar ws (n_v vs 0) 7) j = w_ei w1 (w_ar ws (n_v vs 0) 7) j := el_kp s1.1 r9 cr_0_7 (by decide)
  have kz_0_0 := fdq_114 hD hth r0
  have kz_0_1 := fdq_113 hD hth r0
  have hrf0 : 0 ≤ v_iv (n_v vs 16) ∧ v_iv (n_v vs 16) ≤ 383 := vc_St_sendRound_at_gl_10_r0 (v_iv (n_v vs 1)) (v_iv (n_v vs 2)) (v_iv (n_v vs 5)) (v_iv (n_v vs 6)) (v_iv (n_v vs 7)) (v_iv (n_v vs 11)) (v_iv (n_v vs 12)) (v_iv (n_v vs 13)) (v_iv (n_v vs 14)) (v_iv (n_v vs 15)) (v_iv (n_v vs 16)) (w_ei ws (w_ar ws (n_v vs 0) 7)) (w_ei w1 (w_ar ws (n_v vs 0) 4)) (w_ei w1 (w_ar ws (n_v vs 0) 7)) (w_fi w1 (n_v vs 0) 0) (w_ei w1 (w_ar ws (n_v vs 0) 2)) (w_ei w1 (w_ar ws (n_v vs 0) 3)) (w_ei w1 (w_ar ws (n_v vs 0) 5)) (w_fi w1 (n_v vs 0) 1) (w_fi ws (n_v vs 0) 0) (w_fi ws (n_v vs 0) 1) (w_ei ws (w_ar ws (n_v vs 0) 2)) (w_ei ws (w_ar ws (n_v vs 0) 3)) (w_ei ws (w_ar ws (n_v vs 0) 4)) (w_ei ws (w_ar ws (n_v vs 0) 5)) k1 k2 k5 k6 k7 k11 k12 k13 k14 k15 k16 (shm_33 f0) h1 h8 h9 f12 fe_0_0_1 fe_0_1_1 hE_0_2_1 hE_0_3_1 hE_0_4_1 hE_0_5_1 hE_0_7_1 kz_0_0 kz_0_1
  have rf16 : tv_ok ta (0, 0, 383, []) (n_v vs 16) := tv_in t16 (by first | omega | grind) (by first | omega | grind)
  refine ⟨List.forall_mem_cons.mpr ⟨rf16, (fun _ h => (by cases h))⟩, [], trivial, ?_, (fun _ h => (by cases h))⟩
  rw [List.append_nil]
  exact (fun _ h => (by cases h))
set_option maxHeartbeats 4000000 in
theorem vc_St_sendRound_at_gl_11_r0 (x1 : Int) (x2 : Int) (x5 : Int) (x6 : Int) (x7 : Int) (x11 : Int) (x12 : Int) (x13 : Int) (x14 : Int) (x15 : Int) (x16 : Int) (x17 : Int) (room_0 : Int → Int) (by_0 : Int → Int) (room_1 : Int → Int) (by_1 : Int → Int) (nodes_1 : Int) (from_1 : Int → Int) (to_1 : Int → Int) (gain_1 : Int → Int) (arcs_1 : Int) (nodes_0 : Int) (arcs_0 : Int) (from_0 : Int → Int) (to_0 : Int → Int) (gain_0 : Int → Int) (k1 : 0 ≤ x1 ∧ x1 ≤ 71) (k2 : 0 ≤ x2 ∧ x2 ≤ 9999) (k5 : 1 ≤ x5 ∧ x5 ≤ 1000000000) (k6 : 0 ≤ x6 ∧ x6 ≤ 71) (k7 : 0 ≤ x7 ∧ x7 ≤ 71) (k11 : 0 ≤ x11 ∧ x11 ≤ 383) (k12 : 1 ≤ x12 ∧ x12 ≤ 1000000000) (k13 : (-999999999) ≤ x13 ∧ x13 ≤ 999999999) (k14 : (-1) ≤ x14 ∧ x14 ≤ 383) (k15 : 1 ≤ x15 ∧ x15 ≤ 1) (k16 : 0 ≤ x16 ∧ x16 ≤ 383) (k17 : (-2147483648) ≤ x17 ∧ x17 ≤ 2147483647) (h0 : x17 = room_0 (x16)) (f1 : bvp (x16) = bvp (x14) ^^^ bvp (x15)) (h2 : x14 = by_0 (x6)) (h9 : x12 = room_1 (x11)) (h10 : x11 = by_1 (x6)) (f13 : FLP (nodes_1) (arcs_1) (from_1) (to_1) (room_1) (gain_1) (by_1) (x1) (x6) (x7) (x5) (x2)) (fe_0_0_1 : nodes_0 = nodes_1) (fe_0_1_1 : arcs_0 = arcs_1) (hE_0_2_1 : ∀ j : Int, from_0 j = from_1 j) (hE_0_3_1 : ∀ j : Int, to_0 j = to_1 j) (hE_0_4_1 : ∀ j : Int, 0 ≤ j → (j = x11 → room_0 j = x13) ∧ (j ≠ x11 → room_0 j = room_1 j)) (hE_0_5_1 : ∀ j : Int, gain_0 j = gain_1 j) (hE_0_7_1 : ∀ j : Int, by_0 j = by_1 j) (kz_0_0 : 0 ≤ nodes_0 ∧ nodes_0 ≤ 72) (kz_0_1 : 0 ≤ arcs_0 ∧ arcs_0 ≤ 384) : 0 ≤ x17 ∧ x17 ≤ 1000000000 := by
  subst fe_0_0_1
  subst fe_0_1_1
  have e_hE_0_2_1 := funext hE_0_2_1; subst e_hE_0_2_1
  have e_hE_0_3_1 := funext hE_0_3_1; subst e_hE_0_3_1
  have e_hE_0_5_1 := funext hE_0_5_1; subst e_hE_0_5_1
  have e_hE_0_7_1 := funext hE_0_7_1; subst e_hE_0_7_1
  first
    | (have q := sl1_by ‹NWL _ _ _ _ _› ‹SL1 _ _ _ _ _ _ _ _ _ _ _›; have n := (‹NWL _ _ _ _ _›).2.2.2.1; skip; (first | subst h0 | skip); (first | subst h2 | skip); (first | subst h9 | skip); (first | subst h10 | skip); omega)
    | (have q := flp_by ‹FLP _ _ _ _ _ _ _ _ _ _ _ _›; have n := (‹FLP _ _ _ _ _ _ _ _ _ _ _ _›).2.1.2.2.2.1; skip; (first | subst h0 | skip); (first | subst h2 | skip); (first | subst h9 | skip); (first | subst h10 | skip); omega)
    | (have q := sl1_by ‹NWL _ _ _ _ _› ‹SL1 _ _ _ _ _ _ _ _ _ _ _›; have n := flv_room ‹FLV _ _ _ _ _ _ _› q.1 q.2.1; skip; (first | subst h0 | skip); (first | subst h2 | skip); (first | subst h9 | skip); (first | subst h10 | skip); omega)
    | (have q := flp_by ‹FLP _ _ _ _ _ _ _ _ _ _ _ _›; have n := flp_room ‹FLP _ _ _ _ _ _ _ _ _ _ _ _› q.2.2.1 q.2.2.2.1; skip; (first | subst h0 | skip); (first | subst h2 | skip); (first | subst h9 | skip); (first | subst h10 | skip); omega)
    | (skip; (first | subst h0 | skip); (first | subst h2 | skip); (first | subst h9 | skip); (first | subst h10 | skip); have e := xor_one (x := x16) (by assumption) (by omega) (by have q := flp_by ‹FLP _ _ _ _ _ _ _ _ _ _ _ _›; omega) (by omega) (by omega) (by omega); have q2 := flp_other ‹FLP _ _ _ _ _ _ _ _ _ _ _ _› rfl e (by assumption); omega)
  
def o_St_sendRound_at_gl_11 : or_T := (100, 18, [(0, (2, 0, 0, [10])), (1, (0, 0, 71, [])), (2, (0, 0, 9999, [])), (3, (2, 0, 0, [10])), (4, (0, 0, 71, [])), (5, (0, 1, 1000000000, [])), (6, (0, 0, 71, [])), (7, (0, 0, 71, [])), (8, (0, 1, 72, [])), (9, (2, 0, 0, [120])), (10, (2, 0, 0, [123])), (11, (0, 0, 383, [])), (12, (0, 1, 1000000000, [])), (13, (0, -999999999, 999999999, [])), (14, (0, -1, 383, [])), (15, (0, 1, 1, [])), (16, (0, 0, 383, [])), (17, (0, -2147483648, 2147483647, []))], [(10, [17, 9, 16], []), (16, [16, 14, 15], [2]), (10, [14, 10, 6], []), (9, [10, 3], [7]), (9, [9, 3], [4]), (24, [0, 3], []), (24, [1, 4], []), (100, [9, 11, 13], []), (2, [13, 12, 5], []), (10, [12, 9, 11], []), (10, [11, 10, 6], []), (7, [7, 8], [2]), (9, [8, 3], [0]), (20, [3, 4, 6, 7, 5, 2], [60, 2, 5, 535, 0, 1, 2, 3, 4, 5, 7])], [(17, (0, 0, 1000000000, []))], [], [], [], [(13, 12, -1000000000, -1), (7, 8, -4294967296, -1), (1, 4, -4294967296, 0), (4, 1, -4294967296, 0)])
theorem oo_St_sendRound_at_gl_11 {kA : Nat → ClassId} : or_ok PRD kA GG o_St_sendRound_at_gl_11 := by
  refine or_mk fun A ta ws vs hD hth hl => ?_
  intro t0 r0 t1 k1 t2 k2 t3 r3 t4 k4 t5 k5 t6 k6 t7 k7 t8 k8 t9 r9 t10 r10 t11 k11 t12 k12 t13 k13 t14 k14 t15 k15 t16 k16 t17 k17 d0 d1 d2 d3 f0 f1 f2 f3 f4 f5 f6 ta1 w1 le1 s1 f8 f9 f10 f11 f12 f13
  replace f0 := shm_107 f0
  replace f2 := shm_107 f2
  replace f3 := shm_198 f3
  replace f4 := shm_108 f4
  replace f5 := shm_5 f5
  replace f6 := shm_5 f6
  have s1 : (∀ b j, w_el ws b j = if b = v_ad (n_v vs 9) ∧ j = (v_iv (n_v vs 11)).toNat then v_iv (n_v vs 13) else w_el w1 b j) ∧ ∀ b k, w_fd ws b k = w_fd w1 b k := s1.2
  replace f9 := shm_107 f9
  replace f10 := shm_107 f10
  replace f13 := shm_933 f13
  have q3 : n_v vs 3 = n_v vs 0 := f5.symm
  have q4 : n_v vs 4 = n_v vs 1 := f6.symm
  simp only [q3, q4] at f3 f4 f13
  have ar_0_2_1 : w_ar w1 (n_v vs 0) 2 = w_ar ws (n_v vs 0) 2 := congrArg v_ad (s1.2 _ _).symm
  have cr_0_2 := fdq_108 hD hth r0
  have ar_0_3_1 : w_ar w1 (n_v vs 0) 3 = w_ar ws (n_v vs 0) 3 := congrArg v_ad (s1.2 _ _).symm
  have cr_0_3 := fdq_109 hD hth r0
  have ar_0_4_1 : w_ar w1 (n_v vs 0) 4 = w_ar ws (n_v vs 0) 4 := congrArg v_ad (s1.2 _ _).symm
  have ar_0_5_1 : w_ar w1 (n_v vs 0) 5 = w_ar ws (n_v vs 0) 5 := congrArg v_ad (s1.2 _ _).symm
  have cr_0_5 := fdq_111 hD hth r0
  have ar_0_7_1 : w_ar w1 (n_v vs 0) 7 = w_ar ws (n_v vs 0) 7 := congrArg v_ad (s1.2 _ _).symm
  have cr_0_7 := fdq_116 hD hth r0
  have ad_10 : v_ad (n_v vs 10) = w_ar ws (n_v vs 0) 7 := congrArg v_ad f3
  have ad_9 : v_ad (n_v vs 9) = w_ar ws (n_v vs 0) 4 := congrArg v_ad f4
  simp only [ad_9] at f0
  have h0 : v_iv (n_v vs 17) = w_ei ws (w_ar ws (n_v vs 0) 4) (v_iv (n_v vs 16)) := f0
  simp only [ad_10] at f2
  have h2 : v_iv (n_v vs 14) = w_ei ws (w_ar ws (n_v vs 0) 7) (v_iv (n_v vs 6)) := f2
  simp only [ad_9] at f9
  have h9 : v_iv (n_v vs 12) = w_ei w1 (w_ar ws (n_v vs 0) 4) (v_iv (n_v vs 11)) := f9
  simp only [ad_10] at f10
  have h10 : v_iv (n_v vs 11) = w_ei w1 (w_ar ws (n_v vs 0) 7) (v_iv (n_v vs 6)) := f10
  simp only [ar_0_2_1, ar_0_3_1, ar_0_4_1, ar_0_5_1, ar_0_7_1] at f13
  have fe_0_0_1 : w_fi ws (n_v vs 0) 0 = w_fi w1 (n_v vs 0) 0 := congrArg v_iv (s1.2 _ _)
  have fe_0_1_1 : w_fi ws (n_v vs 0) 1 = w_fi w1 (n_v vs 0) 1 := congrArg v_iv (s1.2 _ _)
  have hE_0_2_1 : ∀ j : Int, w_ei ws (w_ar ws (n_v vs 0) 2) j = w_ei w1 (w_ar ws (n_v vs 0) 2) j := el_kp s1.1 r9 cr_0_2 (by decide)
  have hE_0_3_1 : ∀ j : Int, w_ei ws (w_ar ws (n_v vs 0) 3) j = w_ei w1 (w_ar ws (n_v vs 0) 3) j := el_kp s1.1 r9 cr_0_3 (by decide)
  have hE_0_4_1 : ∀ j : Int, 0 ≤ j → (j = v_iv (n_v vs 11) → w_ei ws (w_ar ws (n_v vs 0) 4) j = v_iv (n_v vs 13)) ∧ (j ≠ v_iv (n_v vs 11) → w_ei ws (w_ar ws (n_v vs 0) 4) j = w_ei w1 (w_ar ws (n_v vs 0) 4) j) := fun j hj => ⟨fun h => by unfold w_ei; rw [s1.1, if_pos ⟨ad_9.symm, by rw [h]⟩], fun h => by unfold w_ei; rw [s1.1, if_neg (fun e => h (by have := e.2; omega))]⟩
  have hE_0_5_1 : ∀ j : Int, w_ei ws (w_ar ws (n_v vs 0) 5) j = w_ei w1 (w_ar ws (n_v vs 0) 5) j := el_kp s1.1 r9 cr_0_5 (by decide)
  have hE_0_7_1 : ∀ j : Int, w_ei ws (w_ar ws (n_v vs 0) 7) j = w_ei w1 (w_ar ws (n_v vs 0) 7) j := el_kp s1.1 r9 cr_0_7 (by decide)
  have kz_0_0 := fdq_114 hD hth r0
  have kz_0_1 := fdq_113 hD hth r0
  have hrf0 : 0 ≤ v_iv (n_v vs 17) ∧ v_iv (n_v vs 17) ≤ 1000000000 := vc_St_sendRound_at_gl_11_r0 (v_iv (n_v vs 1)) (v_iv (n_v vs 2)) (v_iv (n_v vs 5)) (v_iv (n_v vs 6)) (v_iv (n_v vs 7)) (v_iv (n_v vs 11)) (v_iv (n_v vs 12)) (v_iv (n_v vs 13)) (v_iv (n_v vs 14)) (v_iv (n_v vs 15)) (v_iv (n_v vs 16)) (v_iv (n_v vs 17)) (w_ei ws (w_ar ws (n_v vs 0) 4)) (w_ei ws (w_ar ws (n_v vs 0) 7)) (w_ei w1 (w_ar ws (n_v vs 0) 4)) (w_ei w1 (w_ar ws (n_v vs 0) 7)) (w_fi w1 (n_v vs 0) 0) (w_ei w1 (w_ar ws (n_v vs 0) 2)) (w_ei w1 (w_ar ws (n_v vs 0) 3)) (w_ei w1 (w_ar ws (n_v vs 0) 5)) (w_fi w1 (n_v vs 0) 1) (w_fi ws (n_v vs 0) 0) (w_fi ws (n_v vs 0) 1) (w_ei ws (w_ar ws (n_v vs 0) 2)) (w_ei ws (w_ar ws (n_v vs 0) 3)) (w_ei ws (w_ar ws (n_v vs 0) 5)) k1 k2 k5 k6 k7 k11 k12 k13 k14 k15 k16 k17 h0 (shm_33 f1) h2 h9 h10 f13 fe_0_0_1 fe_0_1_1 hE_0_2_1 hE_0_3_1 hE_0_4_1 hE_0_5_1 hE_0_7_1 kz_0_0 kz_0_1
  have rf17 : tv_ok ta (0, 0, 1000000000, []) (n_v vs 17) := tv_in t17 (by first | omega | grind) (by first | omega | grind)
  refine ⟨List.forall_mem_cons.mpr ⟨rf17, (fun _ h => (by cases h))⟩, [], trivial, ?_, (fun _ h => (by cases h))⟩
  rw [List.append_nil]
  exact (fun _ h => (by cases h))
set_option maxHeartbeats 4000000 in
theorem vc_St_sendRound_at_gl_12_r0 (x1 : Int) (x2 : Int) (x5 : Int) (x6 : Int) (x7 : Int) (x11 : Int) (x12 : Int) (x14 : Int) (x16 : Int) (x17 : Int) (x20 : Int) (by_0 : Int → Int) (room_1 : Int → Int) (by_1 : Int → Int) (room_2 : Int → Int) (by_2 : Int → Int) (nodes_2 : Int) (from_2 : Int → Int) (to_2 : Int → Int) (gain_2 : Int → Int) (arcs_2 : Int) (nodes_0 : Int) (nodes_1 : Int) (arcs_0 : Int) (arcs_1 : Int) (from_0 : Int → Int) (from_1 : Int → Int) (to_0 : Int → Int) (to_1 : Int → Int) (gain_0 : Int → Int) (gain_1 : Int → Int) (k1 : 0 ≤ x1 ∧ x1 ≤ 71) (k2 : 0 ≤ x2 ∧ x2 ≤ 9999) (k5 : 1 ≤ x5 ∧ x5 ≤ 1000000000) (k6 : 0 ≤ x6 ∧ x6 ≤ 71) (k7 : 0 ≤ x7 ∧ x7 ≤ 71) (k11 : 0 ≤ x11 ∧ x11 ≤ 383) (k12 : 1 ≤ x12 ∧ x12 ≤ 1000000000) (k14 : (-1) ≤ x14 ∧ x14 ≤ 383) (k16 : 0 ≤ x16 ∧ x16 ≤ 383) (k17 : 0 ≤ x17 ∧ x17 ≤ 1000000000) (k20 : (-1) ≤ x20 ∧ x20 ≤ 383) (h0 : x20 = by_0 (x6)) (h7 : x17 = room_1 (x16)) (h9 : x14 = by_1 (x6)) (h13 : x12 = room_2 (x11)) (h14 : x11 = by_2 (x6)) (f17 : FLP (nodes_2) (arcs_2) (from_2) (to_2) (room_2) (gain_2) (by_2) (x1) (x6) (x7) (x5) (x2)) (fe_0_0_1 : nodes_0 = nodes_1) (fe_0_1_1 : arcs_0 = arcs_1) (fe_0_0_2 : nodes_1 = nodes_2) (fe_0_1_2 : arcs_1 = arcs_2) (hE_0_2_1 : ∀ j : Int, from_0 j = from_1 j) (hE_0_2_2 : ∀ j : Int, from_1 j = from_2 j) (hE_0_3_1 : ∀ j : Int, to_0 j = to_1 j) (hE_0_3_2 : ∀ j : Int, to_1 j = to_2 j) (hE_0_5_1 : ∀ j : Int, gain_0 j = gain_1 j) (hE_0_5_2 : ∀ j : Int, gain_1 j = gain_2 j) (hE_0_7_1 : ∀ j : Int, by_0 j = by_1 j) (hE_0_7_2 : ∀ j : Int, by_1 j = by_2 j) (kz_0_0 : 0 ≤ nodes_0 ∧ nodes_0 ≤ 72) (kz_0_1 : 0 ≤ arcs_0 ∧ arcs_0 ≤ 384) : 0 ≤ x20 ∧ x20 ≤ 383 := by
  subst fe_0_0_1
  subst fe_0_1_1
  subst fe_0_0_2
  subst fe_0_1_2
  have e_hE_0_2_1 := funext hE_0_2_1; subst e_hE_0_2_1
  have e_hE_0_2_2 := funext hE_0_2_2; subst e_hE_0_2_2
  have e_hE_0_3_1 := funext hE_0_3_1; subst e_hE_0_3_1
  have e_hE_0_3_2 := funext hE_0_3_2; subst e_hE_0_3_2
  have e_hE_0_5_1 := funext hE_0_5_1; subst e_hE_0_5_1
  have e_hE_0_5_2 := funext hE_0_5_2; subst e_hE_0_5_2
  have e_hE_0_7_1 := funext hE_0_7_1; subst e_hE_0_7_1
  have e_hE_0_7_2 := funext hE_0_7_2; subst e_hE_0_7_2
  first
    | (have q := sl1_by ‹NWL _ _ _ _ _› ‹SL1 _ _ _ _ _ _ _ _ _ _ _›; have n := (‹NWL _ _ _ _ _›).2.2.2.1; skip; (first | subst h0 | skip); (first | subst h7 | skip); (first | subst h9 | skip); (first | subst h13 | skip); (first | subst h14 | skip); omega)
    | (have q := flp_by ‹FLP _ _ _ _ _ _ _ _ _ _ _ _›; have n := (‹FLP _ _ _ _ _ _ _ _ _ _ _ _›).2.1.2.2.2.1; skip; (first | subst h0 | skip); (first | subst h7 | skip); (first | subst h9 | skip); (first | subst h13 | skip); (first | subst h14 | skip); omega)
    | (have q := sl1_by ‹NWL _ _ _ _ _› ‹SL1 _ _ _ _ _ _ _ _ _ _ _›; have n := flv_room ‹FLV _ _ _ _ _ _ _› q.1 q.2.1; skip; (first | subst h0 | skip); (first | subst h7 | skip); (first | subst h9 | skip); (first | subst h13 | skip); (first | subst h14 | skip); omega)
    | (have q := flp_by ‹FLP _ _ _ _ _ _ _ _ _ _ _ _›; have n := flp_room ‹FLP _ _ _ _ _ _ _ _ _ _ _ _› q.2.2.1 q.2.2.2.1; skip; (first | subst h0 | skip); (first | subst h7 | skip); (first | subst h9 | skip); (first | subst h13 | skip); (first | subst h14 | skip); omega)
    | (skip; (first | subst h0 | skip); (first | subst h7 | skip); (first | subst h9 | skip); (first | subst h13 | skip); (first | subst h14 | skip); have e := xor_one (x := x16) (by assumption) (by omega) (by have q := flp_by ‹FLP _ _ _ _ _ _ _ _ _ _ _ _›; omega) (by omega) (by omega) (by omega); have q2 := flp_other ‹FLP _ _ _ _ _ _ _ _ _ _ _ _› rfl e (by assumption); omega)
  
def o_St_sendRound_at_gl_12 : or_T := (113, 21, [(0, (2, 0, 0, [10])), (1, (0, 0, 71, [])), (2, (0, 0, 9999, [])), (3, (2, 0, 0, [10])), (4, (0, 0, 71, [])), (5, (0, 1, 1000000000, [])), (6, (0, 0, 71, [])), (7, (0, 0, 71, [])), (8, (0, 1, 72, [])), (9, (2, 0, 0, [120])), (10, (2, 0, 0, [123])), (11, (0, 0, 383, [])), (12, (0, 1, 1000000000, [])), (13, (0, -999999999, 999999999, [])), (14, (0, -1, 383, [])), (15, (0, 1, 1, [])), (16, (0, 0, 383, [])), (17, (0, 0, 1000000000, [])), (18, (0, 1, 2000000000, [])), (19, (2, 0, 0, [118])), (20, (0, -1, 383, []))], [(10, [20, 10, 6], []), (9, [10, 3], [7]), (9, [19, 3], [2]), (24, [0, 3], []), (24, [1, 4], []), (100, [9, 16, 18], []), (1, [18, 17, 5], []), (10, [17, 9, 16], []), (16, [16, 14, 15], [2]), (10, [14, 10, 6], []), (9, [9, 3], [4]), (100, [9, 11, 13], []), (2, [13, 12, 5], []), (10, [12, 9, 11], []), (10, [11, 10, 6], []), (7, [7, 8], [2]), (9, [8, 3], [0]), (20, [3, 4, 6, 7, 5, 2], [60, 2, 5, 535, 0, 1, 2, 3, 4, 5, 7])], [(20, (0, 0, 383, []))], [], [], [], [(18, 5, 0, 1000000000), (18, 17, 1, 1000000000), (13, 12, -1000000000, -1), (7, 8, -4294967296, -1), (1, 4, -4294967296, 0), (4, 1, -4294967296, 0)])
theorem oo_St_sendRound_at_gl_12 {kA : Nat → ClassId} : or_ok PRD kA GG o_St_sendRound_at_gl_12 := by
  refine or_mk fun A ta ws vs hD hth hl => ?_
  intro t0 r0 t1 k1 t2 k2 t3 r3 t4 k4 t5 k5 t6 k6 t7 k7 t8 k8 t9 r9 t10 r10 t11 k11 t12 k12 t13 k13 t14 k14 t15 k15 t16 k16 t17 k17 t18 k18 t19 r19 t20 k20 d0 d1 d2 d3 d4 d5 f0 f1 f2 f3 f4 ta1 w1 le1 s1 f6 f7 f8 f9 f10 ta2 w2 le2 s2 f12 f13 f14 f15 f16 f17
  replace f0 := shm_107 f0
  replace f1 := shm_198 f1
  replace f3 := shm_5 f3
  replace f4 := shm_5 f4
  have s1 : (∀ b j, w_el ws b j = if b = v_ad (n_v vs 9) ∧ j = (v_iv (n_v vs 16)).toNat then v_iv (n_v vs 18) else w_el w1 b j) ∧ ∀ b k, w_fd ws b k = w_fd w1 b k := s1.2
  replace f7 := shm_107 f7
  replace f9 := shm_107 f9
  replace f10 := shm_108 f10
  have s2 : (∀ b j, w_el w1 b j = if b = v_ad (n_v vs 9) ∧ j = (v_iv (n_v vs 11)).toNat then v_iv (n_v vs 13) else w_el w2 b j) ∧ ∀ b k, w_fd w1 b k = w_fd w2 b k := s2.2
  replace f13 := shm_107 f13
  replace f14 := shm_107 f14
  replace f17 := shm_933 f17
  have q3 : n_v vs 3 = n_v vs 0 := f3.symm
  have q4 : n_v vs 4 = n_v vs 1 := f4.symm
  simp only [q3, q4] at f1 f10 f17
  have ar_0_2_1 : w_ar w1 (n_v vs 0) 2 = w_ar ws (n_v vs 0) 2 := congrArg v_ad (s1.2 _ _).symm
  have ar_0_2_2 : w_ar w2 (n_v vs 0) 2 = w_ar ws (n_v vs 0) 2 := by rw [← ar_0_2_1]; show v_ad (w_fd w2 _ _) = v_ad (w_fd w1 _ _); rw [s2.2]
  have cr_0_2 := fdq_108 hD hth r0
  have ar_0_3_1 : w_ar w1 (n_v vs 0) 3 = w_ar ws (n_v vs 0) 3 := congrArg v_ad (s1.2 _ _).symm
  have ar_0_3_2 : w_ar w2 (n_v vs 0) 3 = w_ar ws (n_v vs 0) 3 := by rw [← ar_0_3_1]; show v_ad (w_fd w2 _ _) = v_ad (w_fd w1 _ _); rw [s2.2]
  have cr_0_3 := fdq_109 hD hth r0
  have ar_0_4_1 : w_ar w1 (n_v vs 0) 4 = w_ar ws (n_v vs 0) 4 := congrArg v_ad (s1.2 _ _).symm
  have ar_0_4_2 : w_ar w2 (n_v vs 0) 4 = w_ar ws (n_v vs 0) 4 := by rw [← ar_0_4_1]; show v_ad (w_fd w2 _ _) = v_ad (w_fd w1 _ _); rw [s2.2]
  have ar_0_5_1 : w_ar w1 (n_v vs 0) 5 = w_ar ws (n_v vs 0) 5 := congrArg v_ad (s1.2 _ _).symm
  have ar_0_5_2 : w_ar w2 (n_v vs 0) 5 = w_ar ws (n_v vs 0) 5 := by rw [← ar_0_5_1]; show v_ad (w_fd w2 _ _) = v_ad (w_fd w1 _ _); rw [s2.2]
  have cr_0_5 := fdq_111 hD hth r0
  have ar_0_7_1 : w_ar w1 (n_v vs 0) 7 = w_ar ws (n_v vs 0) 7 := congrArg v_ad (s1.2 _ _).symm
  have ar_0_7_2 : w_ar w2 (n_v vs 0) 7 = w_ar ws (n_v vs 0) 7 := by rw [← ar_0_7_1]; show v_ad (w_fd w2 _ _) = v_ad (w_fd w1 _ _); rw [s2.2]
  have cr_0_7 := fdq_116 hD hth r0
  have ad_10 : v_ad (n_v vs 10) = w_ar ws (n_v vs 0) 7 := congrArg v_ad f1
  have ad_9 : v_ad (n_v vs 9) = w_ar ws (n_v vs 0) 4 := (congrArg v_ad f10).trans ar_0_4_1
  simp only [ad_10] at f0
  have h0 : v_iv (n_v vs 20) = w_ei ws (w_ar ws (n_v vs 0) 7) (v_iv (n_v vs 6)) := f0
  simp only [ad_9] at f7
  have h7 : v_iv (n_v vs 17) = w_ei w1 (w_ar ws (n_v vs 0) 4) (v_iv (n_v vs 16)) := f7
  simp only [ad_10] at f9
  have h9 : v_iv (n_v vs 14) = w_ei w1 (w_ar ws (n_v vs 0) 7) (v_iv (n_v vs 6)) := f9
  simp only [ad_9] at f13
  have h13 : v_iv (n_v vs 12) = w_ei w2 (w_ar ws (n_v vs 0) 4) (v_iv (n_v vs 11)) := f13
  simp only [ad_10] at f14
  have h14 : v_iv (n_v vs 11) = w_ei w2 (w_ar ws (n_v vs 0) 7) (v_iv (n_v vs 6)) := f14
  simp only [ar_0_2_2, ar_0_3_2, ar_0_4_2, ar_0_5_2, ar_0_7_2] at f17
  have fe_0_0_1 : w_fi ws (n_v vs 0) 0 = w_fi w1 (n_v vs 0) 0 := congrArg v_iv (s1.2 _ _)
  have fe_0_1_1 : w_fi ws (n_v vs 0) 1 = w_fi w1 (n_v vs 0) 1 := congrArg v_iv (s1.2 _ _)
  have fe_0_0_2 : w_fi w1 (n_v vs 0) 0 = w_fi w2 (n_v vs 0) 0 := congrArg v_iv (s2.2 _ _)
  have fe_0_1_2 : w_fi w1 (n_v vs 0) 1 = w_fi w2 (n_v vs 0) 1 := congrArg v_iv (s2.2 _ _)
  have hE_0_2_1 : ∀ j : Int, w_ei ws (w_ar ws (n_v vs 0) 2) j = w_ei w1 (w_ar ws (n_v vs 0) 2) j := el_kp s1.1 r9 cr_0_2 (by decide)
  have hE_0_2_2 : ∀ j : Int, w_ei w1 (w_ar ws (n_v vs 0) 2) j = w_ei w2 (w_ar ws (n_v vs 0) 2) j := el_kp s2.1 r9 cr_0_2 (by decide)
  have hE_0_3_1 : ∀ j : Int, w_ei ws (w_ar ws (n_v vs 0) 3) j = w_ei w1 (w_ar ws (n_v vs 0) 3) j := el_kp s1.1 r9 cr_0_3 (by decide)
  have hE_0_3_2 : ∀ j : Int, w_ei w1 (w_ar ws (n_v vs 0) 3) j = w_ei w2 (w_ar ws (n_v vs 0) 3) j := el_kp s2.1 r9 cr_0_3 (by decide)
  have hE_0_5_1 : ∀ j : Int, w_ei ws (w_ar ws (n_v vs 0) 5) j = w_ei w1 (w_ar ws (n_v vs 0) 5) j := el_kp s1.1 r9 cr_0_5 (by decide)
  have hE_0_5_2 : ∀ j : Int, w_ei w1 (w_ar ws (n_v vs 0) 5) j = w_ei w2 (w_ar ws (n_v vs 0) 5) j := el_kp s2.1 r9 cr_0_5 (by decide)
  have hE_0_7_1 : ∀ j : Int, w_ei ws (w_ar ws (n_v vs 0) 7) j = w_ei w1 (w_ar ws (n_v vs 0) 7) j := el_kp s1.1 r9 cr_0_7 (by decide)
  have hE_0_7_2 : ∀ j : Int, w_ei w1 (w_ar ws (n_v vs 0) 7) j = w_ei w2 (w_ar ws (n_v vs 0) 7) j := el_kp s2.1 r9 cr_0_7 (by decide)
  have kz_0_0 := fdq_114 hD hth r0
  have kz_0_1 := fdq_113 hD hth r0
  have hrf0 : 0 ≤ v_iv (n_v vs 20) ∧ v_iv (n_v vs 20) ≤ 383 := vc_St_sendRound_at_gl_12_r0 (v_iv (n_v vs 1)) (v_iv (n_v vs 2)) (v_iv (n_v vs 5)) (v_iv (n_v vs 6)) (v_iv (n_v vs 7)) (v_iv (n_v vs 11)) (v_iv (n_v vs 12)) (v_iv (n_v vs 14)) (v_iv (n_v vs 16)) (v_iv (n_v vs 17)) (v_iv (n_v vs 20)) (w_ei ws (w_ar ws (n_v vs 0) 7)) (w_ei w1 (w_ar ws (n_v vs 0) 4)) (w_ei w1 (w_ar ws (n_v vs 0) 7)) (w_ei w2 (w_ar ws (n_v vs 0) 4)) (w_ei w2 (w_ar ws (n_v vs 0) 7)) (w_fi w2 (n_v vs 0) 0) (w_ei w2 (w_ar ws (n_v vs 0) 2)) (w_ei w2 (w_ar ws (n_v vs 0) 3)) (w_ei w2 (w_ar ws (n_v vs 0) 5)) (w_fi w2 (n_v vs 0) 1) (w_fi ws (n_v vs 0) 0) (w_fi w1 (n_v vs 0) 0) (w_fi ws (n_v vs 0) 1) (w_fi w1 (n_v vs 0) 1) (w_ei ws (w_ar ws (n_v vs 0) 2)) (w_ei w1 (w_ar ws (n_v vs 0) 2)) (w_ei ws (w_ar ws (n_v vs 0) 3)) (w_ei w1 (w_ar ws (n_v vs 0) 3)) (w_ei ws (w_ar ws (n_v vs 0) 5)) (w_ei w1 (w_ar ws (n_v vs 0) 5)) k1 k2 k5 k6 k7 k11 k12 k14 k16 k17 k20 h0 h7 h9 h13 h14 f17 fe_0_0_1 fe_0_1_1 fe_0_0_2 fe_0_1_2 hE_0_2_1 hE_0_2_2 hE_0_3_1 hE_0_3_2 hE_0_5_1 hE_0_5_2 hE_0_7_1 hE_0_7_2 kz_0_0 kz_0_1
  have rf20 : tv_ok ta (0, 0, 383, []) (n_v vs 20) := tv_in t20 (by first | omega | grind) (by first | omega | grind)
  refine ⟨List.forall_mem_cons.mpr ⟨rf20, (fun _ h => (by cases h))⟩, [], trivial, ?_, (fun _ h => (by cases h))⟩
  rw [List.append_nil]
  exact (fun _ h => (by cases h))
set_option maxHeartbeats 4000000 in
theorem vc_St_sendRound_at_gl_13_0 (x1 : Int) (x2 : Int) (x5 : Int) (x6 : Int) (x7 : Int) (x11 : Int) (x12 : Int) (x13 : Int) (x14 : Int) (x15 : Int) (x16 : Int) (x17 : Int) (x18 : Int) (x20 : Int) (x21 : Int) (x22 : Int) (from_0 : Int → Int) (by_0 : Int → Int) (room_1 : Int → Int) (by_1 : Int → Int) (room_2 : Int → Int) (by_2 : Int → Int) (nodes_2 : Int) (from_2 : Int → Int) (to_2 : Int → Int) (gain_2 : Int → Int) (arcs_2 : Int) (nodes_0 : Int) (nodes_1 : Int) (arcs_0 : Int) (arcs_1 : Int) (from_1 : Int → Int) (to_0 : Int → Int) (to_1 : Int → Int) (room_0 : Int → Int) (gain_0 : Int → Int) (gain_1 : Int → Int) (k1 : 0 ≤ x1 ∧ x1 ≤ 71) (k2 : 0 ≤ x2 ∧ x2 ≤ 9999) (k5 : 1 ≤ x5 ∧ x5 ≤ 1000000000) (k6 : 0 ≤ x6 ∧ x6 ≤ 71) (k7 : 0 ≤ x7 ∧ x7 ≤ 71) (k11 : 0 ≤ x11 ∧ x11 ≤ 383) (k12 : 1 ≤ x12 ∧ x12 ≤ 1000000000) (k13 : (-999999999) ≤ x13 ∧ x13 ≤ 999999999) (k14 : (-1) ≤ x14 ∧ x14 ≤ 383) (k15 : 1 ≤ x15 ∧ x15 ≤ 1) (k16 : 0 ≤ x16 ∧ x16 ≤ 383) (k17 : 0 ≤ x17 ∧ x17 ≤ 1000000000) (k18 : 1 ≤ x18 ∧ x18 ≤ 2000000000) (k20 : 0 ≤ x20 ∧ x20 ≤ 383) (k21 : 0 ≤ x21 ∧ x21 ≤ 71) (k22 : 1 ≤ x22 ∧ x22 ≤ 72) (f0 : x22 = x7 + 1) (f1 : x21 ≠ x1) (h2 : x21 = from_0 (x20)) (h3 : x20 = by_0 (x6)) (f9 : x18 = x17 + x5) (h10 : x17 = room_1 (x16)) (f11 : bvp (x16) = bvp (x14) ^^^ bvp (x15)) (h12 : x14 = by_1 (x6)) (f15 : x13 = x12 - x5) (h16 : x12 = room_2 (x11)) (h17 : x11 = by_2 (x6)) (f20 : FLP (nodes_2) (arcs_2) (from_2) (to_2) (room_2) (gain_2) (by_2) (x1) (x6) (x7) (x5) (x2)) (fe_0_0_1 : nodes_0 = nodes_1) (fe_0_1_1 : arcs_0 = arcs_1) (fe_0_0_2 : nodes_1 = nodes_2) (fe_0_1_2 : arcs_1 = arcs_2) (hE_0_2_1 : ∀ j : Int, from_0 j = from_1 j) (hE_0_2_2 : ∀ j : Int, from_1 j = from_2 j) (hE_0_3_1 : ∀ j : Int, to_0 j = to_1 j) (hE_0_3_2 : ∀ j : Int, to_1 j = to_2 j) (hE_0_4_1 : ∀ j : Int, 0 ≤ j → (j = x16 → room_0 j = x18) ∧ (j ≠ x16 → room_0 j = room_1 j)) (hE_0_4_2 : ∀ j : Int, 0 ≤ j → (j = x11 → room_1 j = x13) ∧ (j ≠ x11 → room_1 j = room_2 j)) (hE_0_5_1 : ∀ j : Int, gain_0 j = gain_1 j) (hE_0_5_2 : ∀ j : Int, gain_1 j = gain_2 j) (hE_0_7_1 : ∀ j : Int, by_0 j = by_1 j) (hE_0_7_2 : ∀ j : Int, by_1 j = by_2 j) (kz_0_0 : 0 ≤ nodes_0 ∧ nodes_0 ≤ 72) (kz_0_1 : 0 ≤ arcs_0 ∧ arcs_0 ≤ 384) : FLP (nodes_0) (arcs_0) (from_0) (to_0) (room_0) (gain_0) (by_0) (x1) (x21) (x22) (x5) (x2) := by
  subst fe_0_0_1
  subst fe_0_1_1
  subst fe_0_0_2
  subst fe_0_1_2
  have e_hE_0_2_1 := funext hE_0_2_1; subst e_hE_0_2_1
  have e_hE_0_2_2 := funext hE_0_2_2; subst e_hE_0_2_2
  have e_hE_0_3_1 := funext hE_0_3_1; subst e_hE_0_3_1
  have e_hE_0_3_2 := funext hE_0_3_2; subst e_hE_0_3_2
  have e_hE_0_5_1 := funext hE_0_5_1; subst e_hE_0_5_1
  have e_hE_0_5_2 := funext hE_0_5_2; subst e_hE_0_5_2
  have e_hE_0_7_1 := funext hE_0_7_1; subst e_hE_0_7_1
  have e_hE_0_7_2 := funext hE_0_7_2; subst e_hE_0_7_2
  first
    | (have q := sl1_few ‹NWL _ _ _ _ _› ‹SL1 _ _ _ _ _ _ _ _ _ _ _›; omega)
    | (skip; (first | subst h2 | skip); (first | subst h3 | skip); (first | subst h10 | skip); (first | subst h12 | skip); (first | subst h16 | skip); (first | subst h17 | skip); exact flp_start (slx_of ‹SL1 _ _ _ _ _ _ _ _ _ _ _› ‹NWL _ _ _ _ _› rfl (by omega) (by omega) (by omega) (by omega)) ‹FLV _ _ _ _ _ _ _› (by omega) (by omega))
    | (skip; (first | subst h2 | skip); (first | subst h3 | skip); (first | subst h10 | skip); (first | subst h12 | skip); (first | subst h16 | skip); (first | subst h17 | skip); exact (flp_step ‹FLP _ _ _ _ _ _ _ _ _ _ _ _› rfl (by assumption) (by omega) (xor_one (by assumption) (by omega) (by omega) (by omega) (by omega) (by omega)) (by assumption) (by omega) rfl (by omega)).1 (by omega))
  
def o_St_sendRound_at_gl_13 : or_T := (62, 23, [(0, (2, 0, 0, [10])), (1, (0, 0, 71, [])), (2, (0, 0, 9999, [])), (5, (0, 1, 1000000000, [])), (6, (0, 0, 71, [])), (7, (0, 0, 71, [])), (9, (2, 0, 0, [120])), (11, (0, 0, 383, [])), (12, (0, 1, 1000000000, [])), (13, (0, -999999999, 999999999, [])), (14, (0, -1, 383, [])), (15, (0, 1, 1, [])), (16, (0, 0, 383, [])), (17, (0, 0, 1000000000, [])), (18, (0, 1, 2000000000, [])), (20, (0, 0, 383, [])), (21, (0, 0, 71, [])), (22, (0, 1, 72, []))], [(6, [22, 7], [1]), (7, [21, 4], [1]), (10, [21, 19, 20], []), (10, [20, 10, 6], []), (9, [10, 3], [7]), (9, [19, 3], [2]), (24, [0, 3], []), (24, [1, 4], []), (100, [9, 16, 18], []), (1, [18, 17, 5], []), (10, [17, 9, 16], []), (16, [16, 14, 15], [2]), (10, [14, 10, 6], []), (9, [9, 3], [4]), (100, [9, 11, 13], []), (2, [13, 12, 5], []), (10, [12, 9, 11], []), (10, [11, 10, 6], []), (20, [3, 4, 6, 7, 5, 2], [60, 2, 5, 535, 0, 1, 2, 3, 4, 5, 7])], [], [], [(20, [3, 4, 21, 22, 5, 2], [60, 2, 5, 535, 0, 1, 2, 3, 4, 5, 7])], [], [(18, 5, 0, 1000000000), (18, 17, 1, 1000000000), (13, 12, -1000000000, -1)])
theorem oo_St_sendRound_at_gl_13 {kA : Nat → ClassId} : or_ok PRD kA GG o_St_sendRound_at_gl_13 := by
  refine or_mk fun A ta ws vs hD hth hl => ?_
  intro t0 r0 t1 k1 t2 k2 t5 k5 t6 k6 t7 k7 t9 r9 t11 k11 t12 k12 t13 k13 t14 k14 t15 k15 t16 k16 t17 k17 t18 k18 t20 k20 t21 k21 t22 k22 d2 d3 d4 f0 f1 f2 f3 f4 f5 f6 f7 ta1 w1 le1 s1 f9 f10 f11 f12 f13 ta2 w2 le2 s2 f15 f16 f17 f20
  replace f0 := shm_4 f0
  replace f1 := shm_40 f1
  replace f2 := shm_107 f2
  replace f3 := shm_107 f3
  replace f4 := shm_198 f4
  replace f5 := shm_120 f5
  replace f6 := shm_5 f6
  replace f7 := shm_5 f7
  have s1 : (∀ b j, w_el ws b j = if b = v_ad (n_v vs 9) ∧ j = (v_iv (n_v vs 16)).toNat then v_iv (n_v vs 18) else w_el w1 b j) ∧ ∀ b k, w_fd ws b k = w_fd w1 b k := s1.2
  replace f9 := shm_12 f9
  replace f10 := shm_107 f10
  replace f11 := shm_33 f11
  replace f12 := shm_107 f12
  replace f13 := shm_108 f13
  have s2 : (∀ b j, w_el w1 b j = if b = v_ad (n_v vs 9) ∧ j = (v_iv (n_v vs 11)).toNat then v_iv (n_v vs 13) else w_el w2 b j) ∧ ∀ b k, w_fd w1 b k = w_fd w2 b k := s2.2
  replace f15 := shm_14 f15
  replace f16 := shm_107 f16
  replace f17 := shm_107 f17
  replace f20 := shm_933 f20
  have q3 : n_v vs 3 = n_v vs 0 := f6.symm
  have q4 : n_v vs 4 = n_v vs 1 := f7.symm
  simp only [q4, q3] at f1 f4 f5 f13 f20
  have ar_0_2_1 : w_ar w1 (n_v vs 0) 2 = w_ar ws (n_v vs 0) 2 := congrArg v_ad (s1.2 _ _).symm
  have ar_0_2_2 : w_ar w2 (n_v vs 0) 2 = w_ar ws (n_v vs 0) 2 := by rw [← ar_0_2_1]; show v_ad (w_fd w2 _ _) = v_ad (w_fd w1 _ _); rw [s2.2]
  have cr_0_2 := fdq_108 hD hth r0
  have ar_0_3_1 : w_ar w1 (n_v vs 0) 3 = w_ar ws (n_v vs 0) 3 := congrArg v_ad (s1.2 _ _).symm
  have ar_0_3_2 : w_ar w2 (n_v vs 0) 3 = w_ar ws (n_v vs 0) 3 := by rw [← ar_0_3_1]; show v_ad (w_fd w2 _ _) = v_ad (w_fd w1 _ _); rw [s2.2]
  have cr_0_3 := fdq_109 hD hth r0
  have ar_0_4_1 : w_ar w1 (n_v vs 0) 4 = w_ar ws (n_v vs 0) 4 := congrArg v_ad (s1.2 _ _).symm
  have ar_0_4_2 : w_ar w2 (n_v vs 0) 4 = w_ar ws (n_v vs 0) 4 := by rw [← ar_0_4_1]; show v_ad (w_fd w2 _ _) = v_ad (w_fd w1 _ _); rw [s2.2]
  have ar_0_5_1 : w_ar w1 (n_v vs 0) 5 = w_ar ws (n_v vs 0) 5 := congrArg v_ad (s1.2 _ _).symm
  have ar_0_5_2 : w_ar w2 (n_v vs 0) 5 = w_ar ws (n_v vs 0) 5 := by rw [← ar_0_5_1]; show v_ad (w_fd w2 _ _) = v_ad (w_fd w1 _ _); rw [s2.2]
  have cr_0_5 := fdq_111 hD hth r0
  have ar_0_7_1 : w_ar w1 (n_v vs 0) 7 = w_ar ws (n_v vs 0) 7 := congrArg v_ad (s1.2 _ _).symm
  have ar_0_7_2 : w_ar w2 (n_v vs 0) 7 = w_ar ws (n_v vs 0) 7 := by rw [← ar_0_7_1]; show v_ad (w_fd w2 _ _) = v_ad (w_fd w1 _ _); rw [s2.2]
  have cr_0_7 := fdq_116 hD hth r0
  have ad_10 : v_ad (n_v vs 10) = w_ar ws (n_v vs 0) 7 := congrArg v_ad f4
  have ad_19 : v_ad (n_v vs 19) = w_ar ws (n_v vs 0) 2 := congrArg v_ad f5
  have ad_9 : v_ad (n_v vs 9) = w_ar ws (n_v vs 0) 4 := (congrArg v_ad f13).trans ar_0_4_1
  simp only [ad_19] at f2
  have h2 : v_iv (n_v vs 21) = w_ei ws (w_ar ws (n_v vs 0) 2) (v_iv (n_v vs 20)) := f2
  simp only [ad_10] at f3
  have h3 : v_iv (n_v vs 20) = w_ei ws (w_ar ws (n_v vs 0) 7) (v_iv (n_v vs 6)) := f3
  simp only [ad_9] at f10
  have h10 : v_iv (n_v vs 17) = w_ei w1 (w_ar ws (n_v vs 0) 4) (v_iv (n_v vs 16)) := f10
  simp only [ad_10] at f12
  have h12 : v_iv (n_v vs 14) = w_ei w1 (w_ar ws (n_v vs 0) 7) (v_iv (n_v vs 6)) := f12
  simp only [ad_9] at f16
  have h16 : v_iv (n_v vs 12) = w_ei w2 (w_ar ws (n_v vs 0) 4) (v_iv (n_v vs 11)) := f16
  simp only [ad_10] at f17
  have h17 : v_iv (n_v vs 11) = w_ei w2 (w_ar ws (n_v vs 0) 7) (v_iv (n_v vs 6)) := f17
  simp only [ar_0_2_2, ar_0_3_2, ar_0_4_2, ar_0_5_2, ar_0_7_2] at f20
  have fe_0_0_1 : w_fi ws (n_v vs 0) 0 = w_fi w1 (n_v vs 0) 0 := congrArg v_iv (s1.2 _ _)
  have fe_0_1_1 : w_fi ws (n_v vs 0) 1 = w_fi w1 (n_v vs 0) 1 := congrArg v_iv (s1.2 _ _)
  have fe_0_0_2 : w_fi w1 (n_v vs 0) 0 = w_fi w2 (n_v vs 0) 0 := congrArg v_iv (s2.2 _ _)
  have fe_0_1_2 : w_fi w1 (n_v vs 0) 1 = w_fi w2 (n_v vs 0) 1 := congrArg v_iv (s2.2 _ _)
  have hE_0_2_1 : ∀ j : Int, w_ei ws (w_ar ws (n_v vs 0) 2) j = w_ei w1 (w_ar ws (n_v vs 0) 2) j := el_kp s1.1 r9 cr_0_2 (by decide)
  have hE_0_2_2 : ∀ j : Int, w_ei w1 (w_ar ws (n_v vs 0) 2) j = w_ei w2 (w_ar ws (n_v vs 0) 2) j := el_kp s2.1 r9 cr_0_2 (by decide)
  have hE_0_3_1 : ∀ j : Int, w_ei ws (w_ar ws (n_v vs 0) 3) j = w_ei w1 (w_ar ws (n_v vs 0) 3) j := el_kp s1.1 r9 cr_0_3 (by decide)
  have hE_0_3_2 : ∀ j : Int, w_ei w1 (w_ar ws (n_v vs 0) 3) j = w_ei w2 (w_ar ws (n_v vs 0) 3) j := el_kp s2.1 r9 cr_0_3 (by decide)
  have hE_0_4_1 : ∀ j : Int, 0 ≤ j → (j = v_iv (n_v vs 16) → w_ei ws (w_ar ws (n_v vs 0) 4) j = v_iv (n_v vs 18)) ∧ (j ≠ v_iv (n_v vs 16) → w_ei ws (w_ar ws (n_v vs 0) 4) j = w_ei w1 (w_ar ws (n_v vs 0) 4) j) := fun j hj => ⟨fun h => by unfold w_ei; rw [s1.1, if_pos ⟨ad_9.symm, by rw [h]⟩], fun h => by unfold w_ei; rw [s1.1, if_neg (fun e => h (by have := e.2; omega))]⟩
  have hE_0_4_2 : ∀ j : Int, 0 ≤ j → (j = v_iv (n_v vs 11) → w_ei w1 (w_ar ws (n_v vs 0) 4) j = v_iv (n_v vs 13)) ∧ (j ≠ v_iv (n_v vs 11) → w_ei w1 (w_ar ws (n_v vs 0) 4) j = w_ei w2 (w_ar ws (n_v vs 0) 4) j) := fun j hj => ⟨fun h => by unfold w_ei; rw [s2.1, if_pos ⟨ad_9.symm, by rw [h]⟩], fun h => by unfold w_ei; rw [s2.1, if_neg (fun e => h (by have := e.2; omega))]⟩
  have hE_0_5_1 : ∀ j : Int, w_ei ws (w_ar ws (n_v vs 0) 5) j = w_ei w1 (w_ar ws (n_v vs 0) 5) j := el_kp s1.1 r9 cr_0_5 (by decide)
  have hE_0_5_2 : ∀ j : Int, w_ei w1 (w_ar ws (n_v vs 0) 5) j = w_ei w2 (w_ar ws (n_v vs 0) 5) j := el_kp s2.1 r9 cr_0_5 (by decide)
  have hE_0_7_1 : ∀ j : Int, w_ei ws (w_ar ws (n_v vs 0) 7) j = w_ei w1 (w_ar ws (n_v vs 0) 7) j := el_kp s1.1 r9 cr_0_7 (by decide)
  have hE_0_7_2 : ∀ j : Int, w_ei w1 (w_ar ws (n_v vs 0) 7) j = w_ei w2 (w_ar ws (n_v vs 0) 7) j := el_kp s2.1 r9 cr_0_7 (by decide)
  have kz_0_0 := fdq_114 hD hth r0
  have kz_0_1 := fdq_113 hD hth r0
  have nf0 : fc_1 PRD (20, [3, 4, 21, 22, 5, 2], [60, 2, 5, 535, 0, 1, 2, 3, 4, 5, 7]) ws (vs) := by
    refine ⟨nf_in hl rfl, sgq_933 ?_⟩
    · show FLP (w_fi ws (n_v vs 3) 0) (w_fi ws (n_v vs 3) 1) (w_ei ws (w_ar ws (n_v vs 3) 2)) (w_ei ws (w_ar ws (n_v vs 3) 3)) (w_ei ws (w_ar ws (n_v vs 3) 4)) (w_ei ws (w_ar ws (n_v vs 3) 5)) (w_ei ws (w_ar ws (n_v vs 3) 7)) (v_iv (n_v vs 4)) (v_iv (n_v vs 21)) (v_iv (n_v vs 22)) (v_iv (n_v vs 5)) (v_iv (n_v vs 2))
      simp only [q3, q4]
      exact vc_St_sendRound_at_gl_13_0 (v_iv (n_v vs 1)) (v_iv (n_v vs 2)) (v_iv (n_v vs 5)) (v_iv (n_v vs 6)) (v_iv (n_v vs 7)) (v_iv (n_v vs 11)) (v_iv (n_v vs 12)) (v_iv (n_v vs 13)) (v_iv (n_v vs 14)) (v_iv (n_v vs 15)) (v_iv (n_v vs 16)) (v_iv (n_v vs 17)) (v_iv (n_v vs 18)) (v_iv (n_v vs 20)) (v_iv (n_v vs 21)) (v_iv (n_v vs 22)) (w_ei ws (w_ar ws (n_v vs 0) 2)) (w_ei ws (w_ar ws (n_v vs 0) 7)) (w_ei w1 (w_ar ws (n_v vs 0) 4)) (w_ei w1 (w_ar ws (n_v vs 0) 7)) (w_ei w2 (w_ar ws (n_v vs 0) 4)) (w_ei w2 (w_ar ws (n_v vs 0) 7)) (w_fi w2 (n_v vs 0) 0) (w_ei w2 (w_ar ws (n_v vs 0) 2)) (w_ei w2 (w_ar ws (n_v vs 0) 3)) (w_ei w2 (w_ar ws (n_v vs 0) 5)) (w_fi w2 (n_v vs 0) 1) (w_fi ws (n_v vs 0) 0) (w_fi w1 (n_v vs 0) 0) (w_fi ws (n_v vs 0) 1) (w_fi w1 (n_v vs 0) 1) (w_ei w1 (w_ar ws (n_v vs 0) 2)) (w_ei ws (w_ar ws (n_v vs 0) 3)) (w_ei w1 (w_ar ws (n_v vs 0) 3)) (w_ei ws (w_ar ws (n_v vs 0) 4)) (w_ei ws (w_ar ws (n_v vs 0) 5)) (w_ei w1 (w_ar ws (n_v vs 0) 5)) k1 k2 k5 k6 k7 k11 k12 k13 k14 k15 k16 k17 k18 k20 k21 k22 f0 f1 h2 h3 f9 h10 f11 h12 f15 h16 h17 f20 fe_0_0_1 fe_0_1_1 fe_0_0_2 fe_0_1_2 hE_0_2_1 hE_0_2_2 hE_0_3_1 hE_0_3_2 hE_0_4_1 hE_0_4_2 hE_0_5_1 hE_0_5_2 hE_0_7_1 hE_0_7_2 kz_0_0 kz_0_1
  refine ⟨(fun _ h => (by cases h)), [], trivial, ?_, (fun _ h => (by cases h))⟩
  rw [List.append_nil]
  exact List.forall_mem_cons.mpr ⟨⟨show (20 : Nat) < 100 from by decide, nf0⟩, (fun _ h => (by cases h))⟩
set_option maxHeartbeats 4000000 in
theorem vc_St_sendRound_at_gl_14_0 (x1 : Int) (x2 : Int) (x5 : Int) (x6 : Int) (x7 : Int) (x11 : Int) (x12 : Int) (x13 : Int) (x14 : Int) (x15 : Int) (x16 : Int) (x17 : Int) (x18 : Int) (x20 : Int) (x21 : Int) (from_0 : Int → Int) (by_0 : Int → Int) (room_1 : Int → Int) (by_1 : Int → Int) (room_2 : Int → Int) (by_2 : Int → Int) (nodes_2 : Int) (from_2 : Int → Int) (to_2 : Int → Int) (gain_2 : Int → Int) (arcs_2 : Int) (nodes_0 : Int) (nodes_1 : Int) (arcs_0 : Int) (arcs_1 : Int) (from_1 : Int → Int) (to_0 : Int → Int) (to_1 : Int → Int) (room_0 : Int → Int) (gain_0 : Int → Int) (gain_1 : Int → Int) (k1 : 0 ≤ x1 ∧ x1 ≤ 71) (k2 : 0 ≤ x2 ∧ x2 ≤ 9999) (k5 : 1 ≤ x5 ∧ x5 ≤ 1000000000) (k6 : 0 ≤ x6 ∧ x6 ≤ 71) (k7 : 0 ≤ x7 ∧ x7 ≤ 71) (k11 : 0 ≤ x11 ∧ x11 ≤ 383) (k12 : 1 ≤ x12 ∧ x12 ≤ 1000000000) (k13 : (-999999999) ≤ x13 ∧ x13 ≤ 999999999) (k14 : (-1) ≤ x14 ∧ x14 ≤ 383) (k15 : 1 ≤ x15 ∧ x15 ≤ 1) (k16 : 0 ≤ x16 ∧ x16 ≤ 383) (k17 : 0 ≤ x17 ∧ x17 ≤ 1000000000) (k18 : 1 ≤ x18 ∧ x18 ≤ 2000000000) (k20 : 0 ≤ x20 ∧ x20 ≤ 383) (k21 : 0 ≤ x21 ∧ x21 ≤ 71) (f0 : x21 = x1) (h1 : x21 = from_0 (x20)) (h2 : x20 = by_0 (x6)) (f8 : x18 = x17 + x5) (h9 : x17 = room_1 (x16)) (f10 : bvp (x16) = bvp (x14) ^^^ bvp (x15)) (h11 : x14 = by_1 (x6)) (f14 : x13 = x12 - x5) (h15 : x12 = room_2 (x11)) (h16 : x11 = by_2 (x6)) (f19 : FLP (nodes_2) (arcs_2) (from_2) (to_2) (room_2) (gain_2) (by_2) (x1) (x6) (x7) (x5) (x2)) (fe_0_0_1 : nodes_0 = nodes_1) (fe_0_1_1 : arcs_0 = arcs_1) (fe_0_0_2 : nodes_1 = nodes_2) (fe_0_1_2 : arcs_1 = arcs_2) (hE_0_2_1 : ∀ j : Int, from_0 j = from_1 j) (hE_0_2_2 : ∀ j : Int, from_1 j = from_2 j) (hE_0_3_1 : ∀ j : Int, to_0 j = to_1 j) (hE_0_3_2 : ∀ j : Int, to_1 j = to_2 j) (hE_0_4_1 : ∀ j : Int, 0 ≤ j → (j = x16 → room_0 j = x18) ∧ (j ≠ x16 → room_0 j = room_1 j)) (hE_0_4_2 : ∀ j : Int, 0 ≤ j → (j = x11 → room_1 j = x13) ∧ (j ≠ x11 → room_1 j = room_2 j)) (hE_0_5_1 : ∀ j : Int, gain_0 j = gain_1 j) (hE_0_5_2 : ∀ j : Int, gain_1 j = gain_2 j) (hE_0_7_1 : ∀ j : Int, by_0 j = by_1 j) (hE_0_7_2 : ∀ j : Int, by_1 j = by_2 j) (kz_0_0 : 0 ≤ nodes_0 ∧ nodes_0 ≤ 72) (kz_0_1 : 0 ≤ arcs_0 ∧ arcs_0 ≤ 384) : FLV1 (nodes_0) (arcs_0) (from_0) (to_0) (room_0) (gain_0) (x2) := by
  subst fe_0_0_1
  subst fe_0_1_1
  subst fe_0_0_2
  subst fe_0_1_2
  have e_hE_0_2_1 := funext hE_0_2_1; subst e_hE_0_2_1
  have e_hE_0_2_2 := funext hE_0_2_2; subst e_hE_0_2_2
  have e_hE_0_3_1 := funext hE_0_3_1; subst e_hE_0_3_1
  have e_hE_0_3_2 := funext hE_0_3_2; subst e_hE_0_3_2
  have e_hE_0_5_1 := funext hE_0_5_1; subst e_hE_0_5_1
  have e_hE_0_5_2 := funext hE_0_5_2; subst e_hE_0_5_2
  have e_hE_0_7_1 := funext hE_0_7_1; subst e_hE_0_7_1
  have e_hE_0_7_2 := funext hE_0_7_2; subst e_hE_0_7_2
  first
    | (have q := flp_few ‹FLP _ _ _ _ _ _ _ _ _ _ _ _›; omega)
    | (skip; (first | subst h1 | skip); (first | subst h2 | skip); (first | subst h9 | skip); (first | subst h11 | skip); (first | subst h15 | skip); (first | subst h16 | skip); exact (flp_step ‹FLP _ _ _ _ _ _ _ _ _ _ _ _› rfl (by assumption) (by omega) (xor_one (by assumption) (by omega) (by omega) (by omega) (by omega) (by omega)) (by assumption) (by omega) rfl rfl).2 (by omega))
  
def o_St_sendRound_at_gl_14 : or_T := (129, 22, [(0, (2, 0, 0, [10])), (1, (0, 0, 71, [])), (2, (0, 0, 9999, [])), (5, (0, 1, 1000000000, [])), (6, (0, 0, 71, [])), (7, (0, 0, 71, [])), (9, (2, 0, 0, [120])), (11, (0, 0, 383, [])), (12, (0, 1, 1000000000, [])), (13, (0, -999999999, 999999999, [])), (14, (0, -1, 383, [])), (15, (0, 1, 1, [])), (16, (0, 0, 383, [])), (17, (0, 0, 1000000000, [])), (18, (0, 1, 2000000000, [])), (20, (0, 0, 383, [])), (21, (0, 0, 71, []))], [(7, [21, 4], [0]), (10, [21, 19, 20], []), (10, [20, 10, 6], []), (9, [10, 3], [7]), (9, [19, 3], [2]), (24, [0, 3], []), (24, [1, 4], []), (100, [9, 16, 18], []), (1, [18, 17, 5], []), (10, [17, 9, 16], []), (16, [16, 14, 15], [2]), (10, [14, 10, 6], []), (9, [9, 3], [4]), (100, [9, 11, 13], []), (2, [13, 12, 5], []), (10, [12, 9, 11], []), (10, [11, 10, 6], []), (20, [3, 4, 6, 7, 5, 2], [60, 2, 5, 535, 0, 1, 2, 3, 4, 5, 7])], [], [], [(20, [0, 2], [60, 2, 4, 531, 0, 1, 2, 3, 4, 5])], [], [(18, 5, 0, 1000000000), (18, 17, 1, 1000000000), (13, 12, -1000000000, -1)])
theorem oo_St_sendRound_at_gl_14 {kA : Nat → ClassId} : or_ok PRD kA GG o_St_sendRound_at_gl_14 := by
  refine or_mk fun A ta ws vs hD hth hl => ?_
  intro t0 r0 t1 k1 t2 k2 t5 k5 t6 k6 t7 k7 t9 r9 t11 k11 t12 k12 t13 k13 t14 k14 t15 k15 t16 k16 t17 k17 t18 k18 t20 k20 t21 k21 d1 d2 d3 f0 f1 f2 f3 f4 f5 f6 ta1 w1 le1 s1 f8 f9 f10 f11 f12 ta2 w2 le2 s2 f14 f15 f16 f19
  replace f0 := shm_37 f0
  replace f1 := shm_107 f1
  replace f2 := shm_107 f2
  replace f3 := shm_198 f3
  replace f4 := shm_120 f4
  replace f5 := shm_5 f5
  replace f6 := shm_5 f6
  have s1 : (∀ b j, w_el ws b j = if b = v_ad (n_v vs 9) ∧ j = (v_iv (n_v vs 16)).toNat then v_iv (n_v vs 18) else w_el w1 b j) ∧ ∀ b k, w_fd ws b k = w_fd w1 b k := s1.2
  replace f9 := shm_107 f9
  replace f11 := shm_107 f11
  replace f12 := shm_108 f12
  have s2 : (∀ b j, w_el w1 b j = if b = v_ad (n_v vs 9) ∧ j = (v_iv (n_v vs 11)).toNat then v_iv (n_v vs 13) else w_el w2 b j) ∧ ∀ b k, w_fd w1 b k = w_fd w2 b k := s2.2
  replace f15 := shm_107 f15
  replace f16 := shm_107 f16
  replace f19 := shm_933 f19
  have q3 : n_v vs 3 = n_v vs 0 := f5.symm
  have q4 : n_v vs 4 = n_v vs 1 := f6.symm
  simp only [q4, q3] at f0 f3 f4 f12 f19
  have ar_0_2_1 : w_ar w1 (n_v vs 0) 2 = w_ar ws (n_v vs 0) 2 := congrArg v_ad (s1.2 _ _).symm
  have ar_0_2_2 : w_ar w2 (n_v vs 0) 2 = w_ar ws (n_v vs 0) 2 := by rw [← ar_0_2_1]; show v_ad (w_fd w2 _ _) = v_ad (w_fd w1 _ _); rw [s2.2]
  have cr_0_2 := fdq_108 hD hth r0
  have ar_0_3_1 : w_ar w1 (n_v vs 0) 3 = w_ar ws (n_v vs 0) 3 := congrArg v_ad (s1.2 _ _).symm
  have ar_0_3_2 : w_ar w2 (n_v vs 0) 3 = w_ar ws (n_v vs 0) 3 := by rw [← ar_0_3_1]; show v_ad (w_fd w2 _ _) = v_ad (w_fd w1 _ _); rw [s2.2]
  have cr_0_3 := fdq_109 hD hth r0
  have ar_0_4_1 : w_ar w1 (n_v vs 0) 4 = w_ar ws (n_v vs 0) 4 := congrArg v_ad (s1.2 _ _).symm
  have ar_0_4_2 : w_ar w2 (n_v vs 0) 4 = w_ar ws (n_v vs 0) 4 := by rw [← ar_0_4_1]; show v_ad (w_fd w2 _ _) = v_ad (w_fd w1 _ _); rw [s2.2]
  have ar_0_5_1 : w_ar w1 (n_v vs 0) 5 = w_ar ws (n_v vs 0) 5 := congrArg v_ad (s1.2 _ _).symm
  have ar_0_5_2 : w_ar w2 (n_v vs 0) 5 = w_ar ws (n_v vs 0) 5 := by rw [← ar_0_5_1]; show v_ad (w_fd w2 _ _) = v_ad (w_fd w1 _ _); rw [s2.2]
  have cr_0_5 := fdq_111 hD hth r0
  have ar_0_7_1 : w_ar w1 (n_v vs 0) 7 = w_ar ws (n_v vs 0) 7 := congrArg v_ad (s1.2 _ _).symm
  have ar_0_7_2 : w_ar w2 (n_v vs 0) 7 = w_ar ws (n_v vs 0) 7 := by rw [← ar_0_7_1]; show v_ad (w_fd w2 _ _) = v_ad (w_fd w1 _ _); rw [s2.2]
  have cr_0_7 := fdq_116 hD hth r0
  have ad_10 : v_ad (n_v vs 10) = w_ar ws (n_v vs 0) 7 := congrArg v_ad f3
  have ad_19 : v_ad (n_v vs 19) = w_ar ws (n_v vs 0) 2 := congrArg v_ad f4
  have ad_9 : v_ad (n_v vs 9) = w_ar ws (n_v vs 0) 4 := (congrArg v_ad f12).trans ar_0_4_1
  simp only [ad_19] at f1
  have h1 : v_iv (n_v vs 21) = w_ei ws (w_ar ws (n_v vs 0) 2) (v_iv (n_v vs 20)) := f1
  simp only [ad_10] at f2
  have h2 : v_iv (n_v vs 20) = w_ei ws (w_ar ws (n_v vs 0) 7) (v_iv (n_v vs 6)) := f2
  simp only [ad_9] at f9
  have h9 : v_iv (n_v vs 17) = w_ei w1 (w_ar ws (n_v vs 0) 4) (v_iv (n_v vs 16)) := f9
  simp only [ad_10] at f11
  have h11 : v_iv (n_v vs 14) = w_ei w1 (w_ar ws (n_v vs 0) 7) (v_iv (n_v vs 6)) := f11
  simp only [ad_9] at f15
  have h15 : v_iv (n_v vs 12) = w_ei w2 (w_ar ws (n_v vs 0) 4) (v_iv (n_v vs 11)) := f15
  simp only [ad_10] at f16
  have h16 : v_iv (n_v vs 11) = w_ei w2 (w_ar ws (n_v vs 0) 7) (v_iv (n_v vs 6)) := f16
  simp only [ar_0_2_2, ar_0_3_2, ar_0_4_2, ar_0_5_2, ar_0_7_2] at f19
  have fe_0_0_1 : w_fi ws (n_v vs 0) 0 = w_fi w1 (n_v vs 0) 0 := congrArg v_iv (s1.2 _ _)
  have fe_0_1_1 : w_fi ws (n_v vs 0) 1 = w_fi w1 (n_v vs 0) 1 := congrArg v_iv (s1.2 _ _)
  have fe_0_0_2 : w_fi w1 (n_v vs 0) 0 = w_fi w2 (n_v vs 0) 0 := congrArg v_iv (s2.2 _ _)
  have fe_0_1_2 : w_fi w1 (n_v vs 0) 1 = w_fi w2 (n_v vs 0) 1 := congrArg v_iv (s2.2 _ _)
  have hE_0_2_1 : ∀ j : Int, w_ei ws (w_ar ws (n_v vs 0) 2) j = w_ei w1 (w_ar ws (n_v vs 0) 2) j := el_kp s1.1 r9 cr_0_2 (by decide)
  have hE_0_2_2 : ∀ j : Int, w_ei w1 (w_ar ws (n_v vs 0) 2) j = w_ei w2 (w_ar ws (n_v vs 0) 2) j := el_kp s2.1 r9 cr_0_2 (by decide)
  have hE_0_3_1 : ∀ j : Int, w_ei ws (w_ar ws (n_v vs 0) 3) j = w_ei w1 (w_ar ws (n_v vs 0) 3) j := el_kp s1.1 r9 cr_0_3 (by decide)
  have hE_0_3_2 : ∀ j : Int, w_ei w1 (w_ar ws (n_v vs 0) 3) j = w_ei w2 (w_ar ws (n_v vs 0) 3) j := el_kp s2.1 r9 cr_0_3 (by decide)
  have hE_0_4_1 : ∀ j : Int, 0 ≤ j → (j = v_iv (n_v vs 16) → w_ei ws (w_ar ws (n_v vs 0) 4) j = v_iv (n_v vs 18)) ∧ (j ≠ v_iv (n_v vs 16) → w_ei ws (w_ar ws (n_v vs 0) 4) j = w_ei w1 (w_ar ws (n_v vs 0) 4) j) := fun j hj => ⟨fun h => by unfold w_ei; rw [s1.1, if_pos ⟨ad_9.symm, by rw [h]⟩], fun h => by unfold w_ei; rw [s1.1, if_neg (fun e => h (by have := e.2; omega))]⟩
  have hE_0_4_2 : ∀ j : Int, 0 ≤ j → (j = v_iv (n_v vs 11) → w_ei w1 (w_ar ws (n_v vs 0) 4) j = v_iv (n_v vs 13)) ∧ (j ≠ v_iv (n_v vs 11) → w_ei w1 (w_ar ws (n_v vs 0) 4) j = w_ei w2 (w_ar ws (n_v vs 0) 4) j) := fun j hj => ⟨fun h => by unfold w_ei; rw [s2.1, if_pos ⟨ad_9.symm, by rw [h]⟩], fun h => by unfold w_ei; rw [s2.1, if_neg (fun e => h (by have := e.2; omega))]⟩
  have hE_0_5_1 : ∀ j : Int, w_ei ws (w_ar ws (n_v vs 0) 5) j = w_ei w1 (w_ar ws (n_v vs 0) 5) j := el_kp s1.1 r9 cr_0_5 (by decide)
  have hE_0_5_2 : ∀ j : Int, w_ei w1 (w_ar ws (n_v vs 0) 5) j = w_ei w2 (w_ar ws (n_v vs 0) 5) j := el_kp s2.1 r9 cr_0_5 (by decide)
  have hE_0_7_1 : ∀ j : Int, w_ei ws (w_ar ws (n_v vs 0) 7) j = w_ei w1 (w_ar ws (n_v vs 0) 7) j := el_kp s1.1 r9 cr_0_7 (by decide)
  have hE_0_7_2 : ∀ j : Int, w_ei w1 (w_ar ws (n_v vs 0) 7) j = w_ei w2 (w_ar ws (n_v vs 0) 7) j := el_kp s2.1 r9 cr_0_7 (by decide)
  have kz_0_0 := fdq_114 hD hth r0
  have kz_0_1 := fdq_113 hD hth r0
  have nf0 : fc_1 PRD (20, [0, 2], [60, 2, 4, 531, 0, 1, 2, 3, 4, 5]) ws (vs) := ⟨nf_in hl rfl, sgq_934 (vc_St_sendRound_at_gl_14_0 (v_iv (n_v vs 1)) (v_iv (n_v vs 2)) (v_iv (n_v vs 5)) (v_iv (n_v vs 6)) (v_iv (n_v vs 7)) (v_iv (n_v vs 11)) (v_iv (n_v vs 12)) (v_iv (n_v vs 13)) (v_iv (n_v vs 14)) (v_iv (n_v vs 15)) (v_iv (n_v vs 16)) (v_iv (n_v vs 17)) (v_iv (n_v vs 18)) (v_iv (n_v vs 20)) (v_iv (n_v vs 21)) (w_ei ws (w_ar ws (n_v vs 0) 2)) (w_ei ws (w_ar ws (n_v vs 0) 7)) (w_ei w1 (w_ar ws (n_v vs 0) 4)) (w_ei w1 (w_ar ws (n_v vs 0) 7)) (w_ei w2 (w_ar ws (n_v vs 0) 4)) (w_ei w2 (w_ar ws (n_v vs 0) 7)) (w_fi w2 (n_v vs 0) 0) (w_ei w2 (w_ar ws (n_v vs 0) 2)) (w_ei w2 (w_ar ws (n_v vs 0) 3)) (w_ei w2 (w_ar ws (n_v vs 0) 5)) (w_fi w2 (n_v vs 0) 1) (w_fi ws (n_v vs 0) 0) (w_fi w1 (n_v vs 0) 0) (w_fi ws (n_v vs 0) 1) (w_fi w1 (n_v vs 0) 1) (w_ei w1 (w_ar ws (n_v vs 0) 2)) (w_ei ws (w_ar ws (n_v vs 0) 3)) (w_ei w1 (w_ar ws (n_v vs 0) 3)) (w_ei ws (w_ar ws (n_v vs 0) 4)) (w_ei ws (w_ar ws (n_v vs 0) 5)) (w_ei w1 (w_ar ws (n_v vs 0) 5)) k1 k2 k5 k6 k7 k11 k12 k13 k14 k15 k16 k17 k18 k20 k21 f0 h1 h2 (shm_12 f8) h9 (shm_33 f10) h11 (shm_14 f14) h15 h16 f19 fe_0_0_1 fe_0_1_1 fe_0_0_2 fe_0_1_2 hE_0_2_1 hE_0_2_2 hE_0_3_1 hE_0_3_2 hE_0_4_1 hE_0_4_2 hE_0_5_1 hE_0_5_2 hE_0_7_1 hE_0_7_2 kz_0_0 kz_0_1)⟩
  refine ⟨(fun _ h => (by cases h)), [], trivial, ?_, (fun _ h => (by cases h))⟩
  rw [List.append_nil]
  exact List.forall_mem_cons.mpr ⟨⟨show (20 : Nat) < 100 from by decide, nf0⟩, (fun _ h => (by cases h))⟩
def n_St_sendRound_at_gl_an : List an_T := [(8, [(0, (2, 0, 0, [10])), (1, (0, 0, 71, [])), (2, (0, 1, 1000000000, [])), (3, (0, 0, 71, [])), (4, (0, 0, 72, []))], [], (0, 0), [(0, 0, 99992), (1, 7, 72), (0, 0, 100000)], [(1, 4, (Int.negSucc 999999999999), 0), (4, 1, (Int.negSucc 999999999999), 0)], [], [(2, 0, 0, [10]), (0, 0, 71, []), (0, 0, 9999, [])], 0, [], [(20, [3, 4, 6, 7, 5], [60, 2, 5, 533, 0, 1, 2, 3, 4, 5, 7]), (20, [3], [60, 2, 3, 515, 0, 1, 2, 3, 5]), (20, [3, 2], [60, 2, 4, 530, 0, 1, 2, 3, 4, 5]), (24, [0, 3], []), (24, [1, 4], [])]), (62, [(0, (2, 0, 0, [10])), (1, (0, 0, 71, [])), (2, (0, 1, 1000000000, [])), (3, (0, 0, 71, [])), (4, (0, 0, 72, []))], [], (0, 0), [(0, 0, 99938), (1, 7, 72), (0, 0, 100000)], [(1, 4, (Int.negSucc 999999999999), 0), (4, 1, (Int.negSucc 999999999999), 0)], [], [(2, 0, 0, [10]), (0, 0, 71, []), (0, 0, 9999, [])], 0, [], [(20, [3, 4, 6, 7, 5, 2], [60, 2, 5, 535, 0, 1, 2, 3, 4, 5, 7]), (24, [0, 3], []), (24, [1, 4], [])])]
def t_St_sendRound_at_gl_ct : ct_L := [(90, 67, e_jMath_min1_v47), (90, 67, e_jMath_min1_v48)]
set_option maxRecDepth 100000 in
theorem c_St_sendRound_at_gl {l : Launch} {D : va_G} {kA : Nat → ClassId} : ct_ok PRD l D kA GG y_St_sendRound_at_gl z_St_sendRound_at_gl e_St_sendRound_at_gl := chk_all_ok (FT := [(9, 10, 0), (18, 10, 2), (25, 10, 4), (34, 10, 7)]) (PT := []) (CT := t_St_sendRound_at_gl_ct) (KT := [(0, 44, .int (1000000000), (0, 1000000000, 1000000000, []))]) (NT := []) (AN := n_St_sendRound_at_gl_an) (OT := [o_St_sendRound_at_gl_0, o_St_sendRound_at_gl_1, o_St_sendRound_at_gl_2, o_St_sendRound_at_gl_3, o_St_sendRound_at_gl_4, o_St_sendRound_at_gl_5, o_St_sendRound_at_gl_6, o_St_sendRound_at_gl_7, o_St_sendRound_at_gl_8, o_St_sendRound_at_gl_9, o_St_sendRound_at_gl_10, o_St_sendRound_at_gl_11, o_St_sendRound_at_gl_12, o_St_sendRound_at_gl_13, o_St_sendRound_at_gl_14]) 3 328 (List.forall_mem_cons.mpr ⟨oo_St_sendRound_at_gl_0, List.forall_mem_cons.mpr ⟨oo_St_sendRound_at_gl_1, List.forall_mem_cons.mpr ⟨oo_St_sendRound_at_gl_2, List.forall_mem_cons.mpr ⟨oo_St_sendRound_at_gl_3, List.forall_mem_cons.mpr ⟨oo_St_sendRound_at_gl_4, List.forall_mem_cons.mpr ⟨oo_St_sendRound_at_gl_5, List.forall_mem_cons.mpr ⟨oo_St_sendRound_at_gl_6, List.forall_mem_cons.mpr ⟨oo_St_sendRound_at_gl_7, List.forall_mem_cons.mpr ⟨oo_St_sendRound_at_gl_8, List.forall_mem_cons.mpr ⟨oo_St_sendRound_at_gl_9, List.forall_mem_cons.mpr ⟨oo_St_sendRound_at_gl_10, List.forall_mem_cons.mpr ⟨oo_St_sendRound_at_gl_11, List.forall_mem_cons.mpr ⟨oo_St_sendRound_at_gl_12, List.forall_mem_cons.mpr ⟨oo_St_sendRound_at_gl_13, List.forall_mem_cons.mpr ⟨oo_St_sendRound_at_gl_14, List.forall_mem_nil _⟩⟩⟩⟩⟩⟩⟩⟩⟩⟩⟩⟩⟩⟩⟩) (by decide +kernel) ⟨List.forall_mem_cons.mpr ⟨gf_St_9, List.forall_mem_cons.mpr ⟨gf_St_18, List.forall_mem_cons.mpr ⟨gf_St_25, List.forall_mem_cons.mpr ⟨gf_St_34, List.forall_mem_nil _⟩⟩⟩⟩, List.forall_mem_nil _, List.forall_mem_cons.mpr ⟨cl_static (y := y_jMath_min1) c_jMath_min1_v47 wm_658 wm_10 wm_1361 wm_657 ⟨by decide, by decide, by decide +kernel⟩ (by decide), List.forall_mem_cons.mpr ⟨cl_static (y := y_jMath_min1) c_jMath_min1_v48 wm_658 wm_10 wm_1361 wm_657 ⟨by decide, by decide, by decide +kernel⟩ (by decide), List.forall_mem_nil _⟩⟩, List.forall_mem_cons.mpr ⟨kx_St_0_44, List.forall_mem_nil _⟩, List.forall_mem_nil _, GG_pl⟩ (by decide +kernel)

set_option maxHeartbeats 4000000 in
theorem vc_St_sendRound_at_gr_0_0 (x1 : Int) (x3 : Int) (from_0 : Int → Int) (by_0 : Int → Int) (k1 : 0 ≤ x1 ∧ x1 ≤ 71) (k3 : 0 ≤ x3 ∧ x3 ≤ 0) : SR1 (from_0) (by_0) (x1) (x1) (x3) := by
  first
    | exact sr1_start (by omega) (by omega)
    | (skip; exact sr1_step ‹SR1 _ _ _ _ _› rfl (by omega))
  
def o_St_sendRound_at_gr_0 : or_T := (8, 4, [(1, (0, 0, 71, [])), (3, (0, 0, 0, []))], [], [], [], [(20, [0, 1, 1, 3], [60, 0, 2, 513, 2, 7])], [], [])
theorem oo_St_sendRound_at_gr_0 {kA : Nat → ClassId} : or_ok PRD kA GG o_St_sendRound_at_gr_0 := by
  refine or_mk fun A ta ws vs hD hth hl => ?_
  intro t1 k1 t3 k3
  have nf0 : fc_1 PRD (20, [0, 1, 1, 3], [60, 0, 2, 513, 2, 7]) ws (vs) := ⟨nf_in hl rfl, sgq_935 (vc_St_sendRound_at_gr_0_0 (v_iv (n_v vs 1)) (v_iv (n_v vs 3)) (w_ei ws (w_ar ws (n_v vs 0) 2)) (w_ei ws (w_ar ws (n_v vs 0) 7)) k1 k3)⟩
  refine ⟨(fun _ h => (by cases h)), [], trivial, ?_, (fun _ h => (by cases h))⟩
  rw [List.append_nil]
  exact List.forall_mem_cons.mpr ⟨⟨show (20 : Nat) < 100 from by decide, nf0⟩, (fun _ h => (by cases h))⟩
set_option maxHeartbeats 4000000 in
theorem vc_St_sendRound_at_gr_1_0 (x1 : Int) (x3 : Int) (x4 : Int) (from_0 : Int → Int) (by_0 : Int → Int) (k1 : 0 ≤ x1 ∧ x1 ≤ 71) (k3 : 0 ≤ x3 ∧ x3 ≤ 71) (k4 : 0 ≤ x4 ∧ x4 ≤ 72) (f2 : SR1 (from_0) (by_0) (x1) (x3) (x4)) : SR2 (from_0) (by_0) (x1) (x3) := by
  first
    | exact sr2_of ‹SR1 _ _ _ _ _›
    | (skip; exact sr2_step (sr2_of ‹SR1 _ _ _ _ _›) rfl)
    | (skip; exact sr2_step ‹SR2 _ _ _ _› rfl)
  
def o_St_sendRound_at_gr_1 : or_T := (62, 7, [(1, (0, 0, 71, [])), (3, (0, 0, 71, [])), (4, (0, 0, 72, []))], [(20, [0, 1, 3, 4], [60, 0, 2, 513, 2, 7])], [], [], [(20, [0, 1, 3], [60, 0, 2, 514, 2, 7])], [], [])
theorem oo_St_sendRound_at_gr_1 {kA : Nat → ClassId} : or_ok PRD kA GG o_St_sendRound_at_gr_1 := by
  refine or_mk fun A ta ws vs hD hth hl => ?_
  intro t1 k1 t3 k3 t4 k4 f2
  have nf0 : fc_1 PRD (20, [0, 1, 3], [60, 0, 2, 514, 2, 7]) ws (vs) := ⟨nf_in hl rfl, sgq_937 (vc_St_sendRound_at_gr_1_0 (v_iv (n_v vs 1)) (v_iv (n_v vs 3)) (v_iv (n_v vs 4)) (w_ei ws (w_ar ws (n_v vs 0) 2)) (w_ei ws (w_ar ws (n_v vs 0) 7)) k1 k3 k4 (shm_936 f2))⟩
  refine ⟨(fun _ h => (by cases h)), [], trivial, ?_, (fun _ h => (by cases h))⟩
  rw [List.append_nil]
  exact List.forall_mem_cons.mpr ⟨⟨show (20 : Nat) < 100 from by decide, nf0⟩, (fun _ h => (by cases h))⟩
set_option maxHeartbeats 4000000 in
theorem vc_St_sendRound_at_gr_2_r0 (x1 : Int) (x3 : Int) (x4 : Int) (x8 : Int) (by_0 : Int → Int) (from_0 : Int → Int) (k1 : 0 ≤ x1 ∧ x1 ≤ 71) (k3 : 0 ≤ x3 ∧ x3 ≤ 71) (k4 : 0 ≤ x4 ∧ x4 ≤ 71) (k8 : (-1) ≤ x8 ∧ x8 ≤ 383) (h0 : x8 = by_0 (x3)) (f4 : SR1 (from_0) (by_0) (x1) (x3) (x4)) (f5 : RNG (from_0) (by_0) (x1)) : 0 ≤ x8 ∧ x8 ≤ 383 := by
  first
    | (have q := sr1_by ‹SR1 _ _ _ _ _› ‹RNG _ _ _›; skip; (first | subst h0 | skip); omega)
    | (have q := sr2_by ‹SR2 _ _ _ _› ‹RNG _ _ _›; skip; (first | subst h0 | skip); omega)
    | (have q := sr2_by ‹SR2 _ _ _ _› ‹RNG _ _ _›; skip; (first | subst h0 | skip); have e := xor_one (x := x13) (by assumption) (by omega) (by omega) (by omega) (by omega) (by omega); split at e <;> omega)
  
def o_St_sendRound_at_gr_2 : or_T := (28, 9, [(0, (2, 0, 0, [10])), (1, (0, 0, 71, [])), (3, (0, 0, 71, [])), (4, (0, 0, 71, [])), (5, (0, 1, 72, [])), (7, (2, 0, 0, [123])), (8, (0, -1, 383, []))], [(10, [8, 7, 3], []), (9, [7, 0], [7]), (7, [4, 5], [2]), (9, [5, 0], [0]), (20, [0, 1, 3, 4], [60, 0, 2, 513, 2, 7]), (20, [0, 1], [60, 0, 2, 509, 2, 7])], [(8, (0, 0, 383, []))], [], [], [], [(4, 5, -4294967296, -1)])
theorem oo_St_sendRound_at_gr_2 {kA : Nat → ClassId} : or_ok PRD kA GG o_St_sendRound_at_gr_2 := by
  refine or_mk fun A ta ws vs hD hth hl => ?_
  intro t0 r0 t1 k1 t3 k3 t4 k4 t5 k5 t7 r7 t8 k8 d0 f0 f1 f2 f3 f4 f5
  replace f0 := shm_107 f0
  replace f1 := shm_198 f1
  have ad_7 : v_ad (n_v vs 7) = w_ar ws (n_v vs 0) 7 := congrArg v_ad f1
  simp only [ad_7] at f0
  have h0 : v_iv (n_v vs 8) = w_ei ws (w_ar ws (n_v vs 0) 7) (v_iv (n_v vs 3)) := f0
  have hrf0 : 0 ≤ v_iv (n_v vs 8) ∧ v_iv (n_v vs 8) ≤ 383 := vc_St_sendRound_at_gr_2_r0 (v_iv (n_v vs 1)) (v_iv (n_v vs 3)) (v_iv (n_v vs 4)) (v_iv (n_v vs 8)) (w_ei ws (w_ar ws (n_v vs 0) 7)) (w_ei ws (w_ar ws (n_v vs 0) 2)) k1 k3 k4 k8 h0 (shm_936 f4) (shm_928 f5)
  have rf8 : tv_ok ta (0, 0, 383, []) (n_v vs 8) := tv_in t8 (by first | omega | grind) (by first | omega | grind)
  refine ⟨List.forall_mem_cons.mpr ⟨rf8, (fun _ h => (by cases h))⟩, [], trivial, ?_, (fun _ h => (by cases h))⟩
  rw [List.append_nil]
  exact (fun _ h => (by cases h))
set_option maxHeartbeats 4000000 in
theorem vc_St_sendRound_at_gr_3_r0 (x1 : Int) (x3 : Int) (x4 : Int) (x8 : Int) (x12 : Int) (by_0 : Int → Int) (from_0 : Int → Int) (k1 : 0 ≤ x1 ∧ x1 ≤ 71) (k3 : 0 ≤ x3 ∧ x3 ≤ 71) (k4 : 0 ≤ x4 ∧ x4 ≤ 71) (k8 : 0 ≤ x8 ∧ x8 ≤ 383) (k12 : (-1) ≤ x12 ∧ x12 ≤ 383) (h0 : x12 = by_0 (x3)) (h3 : x8 = by_0 (x3)) (f6 : SR1 (from_0) (by_0) (x1) (x3) (x4)) (f7 : RNG (from_0) (by_0) (x1)) : 0 ≤ x12 ∧ x12 ≤ 383 := by
  first
    | (have q := sr1_by ‹SR1 _ _ _ _ _› ‹RNG _ _ _›; skip; (first | subst h0 | skip); (first | subst h3 | skip); omega)
    | (have q := sr2_by ‹SR2 _ _ _ _› ‹RNG _ _ _›; skip; (first | subst h0 | skip); (first | subst h3 | skip); omega)
    | (have q := sr2_by ‹SR2 _ _ _ _› ‹RNG _ _ _›; skip; (first | subst h0 | skip); (first | subst h3 | skip); have e := xor_one (x := x13) (by assumption) (by omega) (by omega) (by omega) (by omega) (by omega); split at e <;> omega)
  
