
theorem oo_Fa_spread_at_Nenear_1 {kA : Nat → ClassId} : or_ok PRD kA GG o_Fa_spread_at_Nenear_1 := by
  refine or_mk fun A ta ws vs hD hth hl => ?_
  intro t0 r0 t1 k1 t2 k2 t3 k3 t4 r4 t5 k5 t6 k6 t7 k7 t8 k8 t9 k9 t10 k10 d0 d1 d2 d3 d4 d5 d6 d7 d8 f0 f1 f2 f3 f4 f5
  replace f0 := shm_2 f0
  replace f1 := shm_821 f1
  replace f2 := shm_5 f2
  replace f3 := shm_5 f3
  replace f4 := shm_5 f4
  replace f5 := shm_5 f5
  have q4 : n_v vs 4 = n_v vs 0 := f2.symm
  have q5 : n_v vs 5 = n_v vs 1 := f3.symm
  have q6 : n_v vs 6 = n_v vs 2 := f4.symm
  have q7 : n_v vs 7 = n_v vs 3 := f5.symm
  simp only [q5, q4, q6, q7] at f0 f1
  have cr_0_999 : ta (v_ad (n_v vs 0)) = some 82 := r0
  have hK_0_999 := elq_26 hD hth cr_0_999
  have nf0 : fc_1 PRD (20, [0, 1, 2, 3, 8], [61, 1, 579]) ws (vs) := ⟨nf_in hl rfl, sgq_822 (vc_Fa_spread_at_Nenear_1_0 (v_iv (n_v vs 1)) (v_iv (n_v vs 2)) (v_iv (n_v vs 3)) (v_iv (n_v vs 5)) (v_iv (n_v vs 6)) (v_iv (n_v vs 7)) (v_iv (n_v vs 8)) (v_iv (n_v vs 9)) (v_iv (n_v vs 10)) (w_ei ws (v_ad (n_v vs 0))) k1 k2 k3 k5 k6 k7 k8 k9 k10 d0 d1 d2 d3 d4 d5 d6 d7 d8 f0 f1 hK_0_999)⟩
  refine ⟨(fun _ h => (by cases h)), [], trivial, ?_, (fun _ h => (by cases h))⟩
  rw [List.append_nil]
  exact List.forall_mem_cons.mpr ⟨⟨show (20 : Nat) < 100 from by decide, nf0⟩, (fun _ h => (by cases h))⟩
set_option maxHeartbeats 4000000 in
theorem vc_Fa_spread_at_Nenear_2_0 (x1 : Int) (x2 : Int) (x3 : Int) (x5 : Int) (x6 : Int) (x7 : Int) (x8 : Int) (x9 : Int) (x10 : Int) (a0_0 : Int → Int) (k1 : 1 ≤ x1 ∧ x1 ≤ 24) (k2 : 0 ≤ x2 ∧ x2 ≤ 16777215) (k3 : 0 ≤ x3 ∧ x3 ≤ 33554431) (k5 : 1 ≤ x5 ∧ x5 ≤ 24) (k6 : 0 ≤ x6 ∧ x6 ≤ 16777215) (k7 : 0 ≤ x7 ∧ x7 ≤ 33554431) (k8 : 0 ≤ x8 ∧ x8 ≤ 16777215) (k9 : 0 ≤ x9 ∧ x9 ≤ 0) (k10 : 0 ≤ x10 ∧ x10 ≤ 23) (d0 : x5 + (-4294967296) ≤ x10 ∧ x10 ≤ x5 + (-1)) (d1 : x5 + (-4294967296) ≤ x1 ∧ x1 ≤ x5 + 0) (d2 : x6 + (-4294967296) ≤ x2 ∧ x2 ≤ x6 + 0) (d3 : x7 + (-4294967296) ≤ x3 ∧ x3 ≤ x7 + 0) (d4 : x1 + (-4294967296) ≤ x5 ∧ x5 ≤ x1 + 0) (d5 : x2 + (-4294967296) ≤ x6 ∧ x6 ≤ x2 + 0) (d6 : x3 + (-4294967296) ≤ x7 ∧ x7 ≤ x3 + 0) (d7 : x1 + (-4294967296) ≤ x10 ∧ x10 ≤ x1 + 0) (d8 : x5 + (-4294967296) ≤ x10 ∧ x10 ≤ x5 + 0) (f0 : x9 = 0) (f1 : x10 < x1) (f2 : SPI (a0_0) (x1) (x2) (x3) (x10) (x8) (x9)) (hK_0_999 : ∀ j : Int, 0 ≤ j → j < 25 → 0 ≤ a0_0 j ∧ a0_0 j ≤ 16777215) : SPZ (a0_0) (x1) (x2) (x3) (x8) := by
  first
    | exact spz_of ‹SPI _ _ _ _ _ _ _› (by omega) (by omega)
  
def o_Fa_spread_at_Nenear_2 : or_T := (54, 11, [(0, (2, 0, 0, [82])), (1, (0, 1, 24, [])), (2, (0, 0, 16777215, [])), (3, (0, 0, 33554431, [])), (4, (2, 0, 0, [82])), (5, (0, 1, 24, [])), (6, (0, 0, 16777215, [])), (7, (0, 0, 33554431, [])), (8, (0, 0, 16777215, [])), (9, (0, 0, 0, [])), (10, (0, 0, 23, []))], [(8, [9], [0]), (7, [10, 5], [2]), (20, [4, 5, 6, 7, 10, 8, 9], [61, 1, 578]), (24, [0, 4], []), (24, [1, 5], []), (24, [2, 6], []), (24, [3, 7], [])], [], [], [(20, [0, 1, 2, 3, 8], [61, 1, 579])], [], [(10, 5, -4294967296, -1), (1, 5, -4294967296, 0), (2, 6, -4294967296, 0), (3, 7, -4294967296, 0), (5, 1, -4294967296, 0), (6, 2, -4294967296, 0), (7, 3, -4294967296, 0), (10, 1, -4294967296, 0), (10, 5, -4294967296, 0)])
theorem oo_Fa_spread_at_Nenear_2 {kA : Nat → ClassId} : or_ok PRD kA GG o_Fa_spread_at_Nenear_2 := by
  refine or_mk fun A ta ws vs hD hth hl => ?_
  intro t0 r0 t1 k1 t2 k2 t3 k3 t4 r4 t5 k5 t6 k6 t7 k7 t8 k8 t9 k9 t10 k10 d0 d1 d2 d3 d4 d5 d6 d7 d8 f0 f1 f2 f3 f4 f5 f6
  replace f1 := shm_6 f1
  replace f2 := shm_821 f2
  replace f3 := shm_5 f3
  replace f4 := shm_5 f4
  replace f5 := shm_5 f5
  replace f6 := shm_5 f6
  have q4 : n_v vs 4 = n_v vs 0 := f3.symm
  have q5 : n_v vs 5 = n_v vs 1 := f4.symm
  have q6 : n_v vs 6 = n_v vs 2 := f5.symm
  have q7 : n_v vs 7 = n_v vs 3 := f6.symm
  simp only [q5, q4, q6, q7] at f1 f2
  have cr_0_999 : ta (v_ad (n_v vs 0)) = some 82 := r0
  have hK_0_999 := elq_26 hD hth cr_0_999
  have nf0 : fc_1 PRD (20, [0, 1, 2, 3, 8], [61, 1, 579]) ws (vs) := ⟨nf_in hl rfl, sgq_822 (vc_Fa_spread_at_Nenear_2_0 (v_iv (n_v vs 1)) (v_iv (n_v vs 2)) (v_iv (n_v vs 3)) (v_iv (n_v vs 5)) (v_iv (n_v vs 6)) (v_iv (n_v vs 7)) (v_iv (n_v vs 8)) (v_iv (n_v vs 9)) (v_iv (n_v vs 10)) (w_ei ws (v_ad (n_v vs 0))) k1 k2 k3 k5 k6 k7 k8 k9 k10 d0 d1 d2 d3 d4 d5 d6 d7 d8 (shm_192 f0) f1 f2 hK_0_999)⟩
  refine ⟨(fun _ h => (by cases h)), [], trivial, ?_, (fun _ h => (by cases h))⟩
  rw [List.append_nil]
  exact List.forall_mem_cons.mpr ⟨⟨show (20 : Nat) < 100 from by decide, nf0⟩, (fun _ h => (by cases h))⟩
set_option maxHeartbeats 4000000 in
theorem vc_Fa_spread_at_Nenear_3_0 (x1 : Int) (x2 : Int) (x3 : Int) (x5 : Int) (x6 : Int) (x7 : Int) (x8 : Int) (x9 : Int) (x10 : Int) (x11 : Int) (x12 : Int) (x13 : Int) (x14 : Int) (x15 : Int) (x16 : Int) (x17 : Int) (a0_0 : Int → Int) (k1 : 1 ≤ x1 ∧ x1 ≤ 24) (k2 : 0 ≤ x2 ∧ x2 ≤ 16777215) (k3 : 0 ≤ x3 ∧ x3 ≤ 33554431) (k5 : 1 ≤ x5 ∧ x5 ≤ 24) (k6 : 0 ≤ x6 ∧ x6 ≤ 16777215) (k7 : 0 ≤ x7 ∧ x7 ≤ 33554431) (k8 : 0 ≤ x8 ∧ x8 ≤ 16777215) (k9 : 1 ≤ x9 ∧ x9 ≤ 16777215) (k10 : 0 ≤ x10 ∧ x10 ≤ 23) (k11 : 0 ≤ x11 ∧ x11 ≤ 16777215) (k12 : 0 ≤ x12 ∧ x12 ≤ 16777215) (k13 : (-1) ≤ x13 ∧ x13 ≤ (-1)) (k14 : (-2147483648) ≤ x14 ∧ x14 ≤ 2147483647) (k15 : 0 ≤ x15 ∧ x15 ≤ 16777215) (k16 : 0 ≤ x16 ∧ x16 ≤ 16777215) (k17 : 1 ≤ x17 ∧ x17 ≤ 24) (d0 : x10 + 1 ≤ x17 ∧ x17 ≤ x10 + 1) (d1 : x5 + (-4294967296) ≤ x17 ∧ x17 ≤ x5 + 0) (d2 : x1 + (-4294967296) ≤ x17 ∧ x17 ≤ x1 + 1) (d3 : x5 + (-4294967296) ≤ x17 ∧ x17 ≤ x5 + 1) (d4 : x5 + (-4294967296) ≤ x10 ∧ x10 ≤ x5 + (-1)) (d5 : x5 + (-4294967296) ≤ x1 ∧ x1 ≤ x5 + 0) (d6 : x6 + (-4294967296) ≤ x2 ∧ x2 ≤ x6 + 0) (d7 : x7 + (-4294967296) ≤ x3 ∧ x3 ≤ x7 + 0) (d8 : x1 + (-4294967296) ≤ x5 ∧ x5 ≤ x1 + 0) (d9 : x2 + (-4294967296) ≤ x6 ∧ x6 ≤ x2 + 0) (d10 : x3 + (-4294967296) ≤ x7 ∧ x7 ≤ x3 + 0) (d11 : x1 + (-4294967296) ≤ x10 ∧ x10 ≤ x1 + 0) (d12 : x5 + (-4294967296) ≤ x10 ∧ x10 ≤ x5 + 0) (f0 : x17 = x10 + 1) (f1 : x16 ≤ x8 + x15 ∧ x8 ≤ x16 ∧ x15 ≤ x16) (f2 : bvp (x16) = bvp (x8) ||| bvp (x15)) (f3 : bvp (x15) = bvp (x12) &&& bvp (x14)) (f4 : bvp (x14) = bvp (x8) ^^^ bvp (x13)) (f5 : bvp (x12) = bvp (x11) &&& bvp (x3)) (f6 : NEF (a0_0) (x1) (x9) (x11)) (f7 : x9 ≠ 0) (f8 : x10 < x1) (f9 : SPI (a0_0) (x1) (x2) (x3) (x10) (x8) (x9)) (hK_0_999 : ∀ j : Int, 0 ≤ j → j < 25 → 0 ≤ a0_0 j ∧ a0_0 j ≤ 16777215) : SPI (a0_0) (x1) (x2) (x3) (x17) (x16) (x15) := by
  first
    | exact spi_start (by assumption) (by omega) (by omega) (by omega) (by omega)
    | exact spi_step ‹SPI _ _ _ _ _ _ _› (by omega) (by omega) (by omega) ‹NEF _ _ _ _› (by assumption) (by assumption) (by omega) (by assumption) (by assumption) (by omega)
  
def o_Fa_spread_at_Nenear_3 : or_T := (12, 18, [(0, (2, 0, 0, [82])), (1, (0, 1, 24, [])), (2, (0, 0, 16777215, [])), (3, (0, 0, 33554431, [])), (5, (0, 1, 24, [])), (6, (0, 0, 16777215, [])), (7, (0, 0, 33554431, [])), (8, (0, 0, 16777215, [])), (9, (0, 1, 16777215, [])), (10, (0, 0, 23, [])), (11, (0, 0, 16777215, [])), (12, (0, 0, 16777215, [])), (13, (0, -1, -1, [])), (14, (0, -2147483648, 2147483647, [])), (15, (0, 0, 16777215, [])), (16, (0, 0, 16777215, [])), (17, (0, 1, 24, []))], [(6, [17, 10], [1]), (13, [16, 8, 15], []), (16, [16, 8, 15], [1]), (16, [15, 12, 14], [0]), (16, [14, 8, 13], [2]), (16, [12, 11, 7], [0]), (20, [4, 5, 9, 11], [61, 1, 557]), (8, [9], [1]), (7, [10, 5], [2]), (20, [4, 5, 6, 7, 10, 8, 9], [61, 1, 578]), (24, [0, 4], []), (24, [1, 5], []), (24, [2, 6], []), (24, [3, 7], [])], [], [], [(20, [4, 5, 6, 7, 17, 16, 15], [61, 1, 578])], [], [(17, 10, 1, 1), (17, 5, -4294967296, 0), (17, 1, -4294967296, 1), (17, 5, -4294967296, 1), (10, 5, -4294967296, -1), (1, 5, -4294967296, 0), (2, 6, -4294967296, 0), (3, 7, -4294967296, 0), (5, 1, -4294967296, 0), (6, 2, -4294967296, 0), (7, 3, -4294967296, 0), (10, 1, -4294967296, 0), (10, 5, -4294967296, 0)])
theorem oo_Fa_spread_at_Nenear_3 {kA : Nat → ClassId} : or_ok PRD kA GG o_Fa_spread_at_Nenear_3 := by
  refine or_mk fun A ta ws vs hD hth hl => ?_
  intro t0 r0 t1 k1 t2 k2 t3 k3 t5 k5 t6 k6 t7 k7 t8 k8 t9 k9 t10 k10 t11 k11 t12 k12 t13 k13 t14 k14 t15 k15 t16 k16 t17 k17 d0 d1 d2 d3 d4 d5 d6 d7 d8 d9 d10 d11 d12 f0 f1 f2 f3 f4 f5 f6 f7 f8 f9 f10 f11 f12 f13
  replace f0 := shm_4 f0
  have f1 : v_iv (n_v vs 16) ≤ v_iv (n_v vs 8) + v_iv (n_v vs 15) ∧ v_iv (n_v vs 8) ≤ v_iv (n_v vs 16) ∧ v_iv (n_v vs 15) ≤ v_iv (n_v vs 16) := (fun (h : v_iv (n_v vs 16) ≤ v_iv (n_v vs 8) + v_iv (n_v vs 15) ∧ v_iv (n_v vs 8) ≤ v_iv (n_v vs 16) ∧ v_iv (n_v vs 15) ≤ v_iv (n_v vs 16) ∧ (v_iv (n_v vs 16)).toNat = (v_iv (n_v vs 8)).toNat ||| (v_iv (n_v vs 15)).toNat) => ⟨h.1, h.2.1, h.2.2.1⟩) f1
  replace f2 := shm_354 f2
  replace f3 := shm_11 f3
  replace f4 := shm_33 f4
  replace f5 := shm_11 f5
  replace f6 := shm_363 f6
  replace f7 := shm_142 f7
  replace f8 := shm_6 f8
  replace f9 := shm_821 f9
  replace f10 := shm_5 f10
  replace f11 := shm_5 f11
  replace f12 := shm_5 f12
  replace f13 := shm_5 f13
  have q4 : n_v vs 4 = n_v vs 0 := f10.symm
  have q5 : n_v vs 5 = n_v vs 1 := f11.symm
  have q6 : n_v vs 6 = n_v vs 2 := f12.symm
  have q7 : n_v vs 7 = n_v vs 3 := f13.symm
  simp only [q7, q4, q5, q6] at f5 f6 f8 f9
  have cr_0_999 : ta (v_ad (n_v vs 0)) = some 82 := r0
  have hK_0_999 := elq_26 hD hth cr_0_999
  have nf0 : fc_1 PRD (20, [4, 5, 6, 7, 17, 16, 15], [61, 1, 578]) ws (vs) := by
    refine ⟨nf_in hl rfl, sgq_821 ?_⟩
    · show SPI (w_ei ws (v_ad (n_v vs 4))) (v_iv (n_v vs 5)) (v_iv (n_v vs 6)) (v_iv (n_v vs 7)) (v_iv (n_v vs 17)) (v_iv (n_v vs 16)) (v_iv (n_v vs 15))
      simp only [q4, q5, q6, q7]
      exact vc_Fa_spread_at_Nenear_3_0 (v_iv (n_v vs 1)) (v_iv (n_v vs 2)) (v_iv (n_v vs 3)) (v_iv (n_v vs 5)) (v_iv (n_v vs 6)) (v_iv (n_v vs 7)) (v_iv (n_v vs 8)) (v_iv (n_v vs 9)) (v_iv (n_v vs 10)) (v_iv (n_v vs 11)) (v_iv (n_v vs 12)) (v_iv (n_v vs 13)) (v_iv (n_v vs 14)) (v_iv (n_v vs 15)) (v_iv (n_v vs 16)) (v_iv (n_v vs 17)) (w_ei ws (v_ad (n_v vs 0))) k1 k2 k3 k5 k6 k7 k8 k9 k10 k11 k12 k13 k14 k15 k16 k17 d0 d1 d2 d3 d4 d5 d6 d7 d8 d9 d10 d11 d12 f0 f1 f2 f3 f4 f5 f6 f7 f8 f9 hK_0_999
  refine ⟨(fun _ h => (by cases h)), [], trivial, ?_, (fun _ h => (by cases h))⟩
  rw [List.append_nil]
  exact List.forall_mem_cons.mpr ⟨⟨show (20 : Nat) < 100 from by decide, nf0⟩, (fun _ h => (by cases h))⟩
def n_Fa_spread_at_Nenear_an : List an_T := [(12, [(0, (2, 0, 0, [82])), (1, (0, 0, 24, [])), (2, (0, 0, 16777215, [])), (3, (0, 0, 33554431, [])), (4, (0, 0, 16777215, [])), (5, (0, 0, 16777215, [])), (6, (0, 0, 24, []))], [], (0, 0), [(0, 0, 99988), (1, 10, 24), (0, 0, 100000)], [(1, 5, (Int.negSucc 999999999999), 0), (2, 6, (Int.negSucc 999999999999), 0), (3, 7, (Int.negSucc 999999999999), 0), (5, 1, (Int.negSucc 999999999999), 0), (6, 2, (Int.negSucc 999999999999), 0), (7, 3, (Int.negSucc 999999999999), 0), (10, 1, (Int.negSucc 999999999999), 0), (10, 5, (Int.negSucc 999999999999), 0)], [], [(2, 0, 0, [82]), (0, 0, 24, []), (0, 0, 16777215, []), (0, 0, 33554431, [])], 0, [], [(20, [4, 5, 6, 7, 10, 8, 9], [61, 1, 578]), (24, [0, 4], []), (24, [1, 5], []), (24, [2, 6], []), (24, [3, 7], [])])]
def t_Fa_spread_at_Nenear_ct : ct_L := [(84, 97, e_Fa_nearOf_at_Nenear)]
set_option maxRecDepth 100000 in
theorem c_Fa_spread_at_Nenear {l : Launch} {D : va_G} {kA : Nat → ClassId} (h_Fa_nearOf_at_Nenear : ct_ok PRD l D kA GG y_Fa_nearOf_at_Nenear z_Fa_nearOf_at_Nenear e_Fa_nearOf_at_Nenear) : ct_ok PRD l D kA GG y_Fa_spread_at_Nenear z_Fa_spread_at_Nenear e_Fa_spread_at_Nenear := chk_all_ok (FT := []) (PT := []) (CT := t_Fa_spread_at_Nenear_ct) (KT := []) (NT := []) (AN := n_Fa_spread_at_Nenear_an) (OT := [o_Fa_spread_at_Nenear_0, o_Fa_spread_at_Nenear_1, o_Fa_spread_at_Nenear_2, o_Fa_spread_at_Nenear_3]) 3 200 (List.forall_mem_cons.mpr ⟨oo_Fa_spread_at_Nenear_0, List.forall_mem_cons.mpr ⟨oo_Fa_spread_at_Nenear_1, List.forall_mem_cons.mpr ⟨oo_Fa_spread_at_Nenear_2, List.forall_mem_cons.mpr ⟨oo_Fa_spread_at_Nenear_3, List.forall_mem_nil _⟩⟩⟩⟩) (by decide +kernel) ⟨List.forall_mem_nil _, List.forall_mem_nil _, List.forall_mem_cons.mpr ⟨cl_static (y := y_Fa_nearOf_at_Nenear) h_Fa_nearOf_at_Nenear wm_824 wm_7 wm_822 wm_823 ⟨by decide, by decide, by decide +kernel⟩ (by decide), List.forall_mem_nil _⟩, List.forall_mem_nil _, List.forall_mem_nil _, GG_pl⟩ (by decide +kernel)
set_option maxHeartbeats 4000000 in
theorem vc_Fa_spread_at_Npnear_0_0 (x1 : Int) (x2 : Int) (x3 : Int) (x4 : Int) (x5 : Int) (a0_0 : Int → Int) (k1 : 0 ≤ x1 ∧ x1 ≤ 25) (k2 : 0 ≤ x2 ∧ x2 ≤ 33554431) (k3 : 0 ≤ x3 ∧ x3 ≤ 33554431) (k4 : 0 ≤ x4 ∧ x4 ≤ 33554431) (k5 : 0 ≤ x5 ∧ x5 ≤ 0) (f0 : bvp (x4) = bvp (x2) &&& bvp (x3)) (hK_0_999 : ∀ j : Int, 0 ≤ j → j < 25 → 0 ≤ a0_0 j ∧ a0_0 j ≤ 33554431) : SPI (a0_0) (x1) (x2) (x3) (x5) (x4) (x4) := by
  first
    | exact spi_start (by assumption) (by omega) (by omega) (by omega) (by omega)
    | exact spi_step ‹SPI _ _ _ _ _ _ _› (by omega) (by omega) (by omega) ‹NEF _ _ _ _› (by assumption) (by assumption) (by omega) (by assumption) (by assumption) (by omega)
  
def o_Fa_spread_at_Npnear_0 : or_T := (12, 6, [(0, (2, 0, 0, [142])), (1, (0, 0, 25, [])), (2, (0, 0, 33554431, [])), (3, (0, 0, 33554431, [])), (4, (0, 0, 33554431, [])), (5, (0, 0, 0, []))], [(16, [4, 2, 3], [0])], [], [], [(20, [0, 1, 2, 3, 5, 4, 4], [61, 1, 578]), (24, [0, 0], []), (24, [1, 1], []), (24, [2, 2], []), (24, [3, 3], [])], [], [])
theorem oo_Fa_spread_at_Npnear_0 {kA : Nat → ClassId} : or_ok PRD kA GG o_Fa_spread_at_Npnear_0 := by
  refine or_mk fun A ta ws vs hD hth hl => ?_
  intro t0 r0 t1 k1 t2 k2 t3 k3 t4 k4 t5 k5 f0
  have cr_0_999 : ta (v_ad (n_v vs 0)) = some 142 := r0
  have hK_0_999 := elq_27 hD hth cr_0_999
  have nf0 : fc_1 PRD (20, [0, 1, 2, 3, 5, 4, 4], [61, 1, 578]) ws (vs) := ⟨nf_in hl rfl, sgq_820 (vc_Fa_spread_at_Npnear_0_0 (v_iv (n_v vs 1)) (v_iv (n_v vs 2)) (v_iv (n_v vs 3)) (v_iv (n_v vs 4)) (v_iv (n_v vs 5)) (w_ei ws (v_ad (n_v vs 0))) k1 k2 k3 k4 k5 (shm_11 f0) hK_0_999)⟩
  have nf1 : fc_1 PRD (24, [0, 0], []) ws (vs) := by
    refine ⟨nf_in hl rfl, sgq_1 ?_⟩
    · show n_v vs 0 = n_v vs 0
      first | rfl | simp only [true_and]
  have nf2 : fc_1 PRD (24, [1, 1], []) ws (vs) := by
    refine ⟨nf_in hl rfl, sgq_1 ?_⟩
    · show n_v vs 1 = n_v vs 1
      first | rfl | simp only [true_and]
  have nf3 : fc_1 PRD (24, [2, 2], []) ws (vs) := by
    refine ⟨nf_in hl rfl, sgq_1 ?_⟩
    · show n_v vs 2 = n_v vs 2
      first | rfl | simp only [true_and]
  have nf4 : fc_1 PRD (24, [3, 3], []) ws (vs) := by
    refine ⟨nf_in hl rfl, sgq_1 ?_⟩
    · show n_v vs 3 = n_v vs 3
      first | rfl | simp only [true_and]
  refine ⟨(fun _ h => (by cases h)), [], trivial, ?_, (fun _ h => (by cases h))⟩
  rw [List.append_nil]
  exact List.forall_mem_cons.mpr ⟨⟨show (20 : Nat) < 100 from by decide, nf0⟩, List.forall_mem_cons.mpr ⟨⟨show (24 : Nat) < 100 from by decide, nf1⟩, List.forall_mem_cons.mpr ⟨⟨show (24 : Nat) < 100 from by decide, nf2⟩, List.forall_mem_cons.mpr ⟨⟨show (24 : Nat) < 100 from by decide, nf3⟩, List.forall_mem_cons.mpr ⟨⟨show (24 : Nat) < 100 from by decide, nf4⟩, (fun _ h => (by cases h))⟩⟩⟩⟩⟩
set_option maxHeartbeats 4000000 in
theorem vc_Fa_spread_at_Npnear_1_0 (x1 : Int) (x2 : Int) (x3 : Int) (x5 : Int) (x6 : Int) (x7 : Int) (x8 : Int) (x9 : Int) (x10 : Int) (a0_0 : Int → Int) (k1 : 0 ≤ x1 ∧ x1 ≤ 25) (k2 : 0 ≤ x2 ∧ x2 ≤ 33554431) (k3 : 0 ≤ x3 ∧ x3 ≤ 33554431) (k5 : 0 ≤ x5 ∧ x5 ≤ 25) (k6 : 0 ≤ x6 ∧ x6 ≤ 33554431) (k7 : 0 ≤ x7 ∧ x7 ≤ 33554431) (k8 : 0 ≤ x8 ∧ x8 ≤ 33554431) (k9 : 0 ≤ x9 ∧ x9 ≤ 33554431) (k10 : 0 ≤ x10 ∧ x10 ≤ 25) (d0 : x5 + 0 ≤ x10 ∧ x10 ≤ x5 + 4294967296) (d1 : x5 + (-4294967296) ≤ x1 ∧ x1 ≤ x5 + 0) (d2 : x6 + (-4294967296) ≤ x2 ∧ x2 ≤ x6 + 0) (d3 : x7 + (-4294967296) ≤ x3 ∧ x3 ≤ x7 + 0) (d4 : x1 + (-4294967296) ≤ x5 ∧ x5 ≤ x1 + 0) (d5 : x2 + (-4294967296) ≤ x6 ∧ x6 ≤ x2 + 0) (d6 : x3 + (-4294967296) ≤ x7 ∧ x7 ≤ x3 + 0) (d7 : x1 + (-4294967296) ≤ x10 ∧ x10 ≤ x1 + 0) (d8 : x5 + (-4294967296) ≤ x10 ∧ x10 ≤ x5 + 0) (f0 : x1 ≤ x10) (f1 : SPI (a0_0) (x1) (x2) (x3) (x10) (x8) (x9)) (hK_0_999 : ∀ j : Int, 0 ≤ j → j < 25 → 0 ≤ a0_0 j ∧ a0_0 j ≤ 33554431) : SPZ (a0_0) (x1) (x2) (x3) (x8) := by
  first
    | exact spz_of ‹SPI _ _ _ _ _ _ _› (by omega) (by omega)
  
def o_Fa_spread_at_Npnear_1 : or_T := (54, 11, [(0, (2, 0, 0, [142])), (1, (0, 0, 25, [])), (2, (0, 0, 33554431, [])), (3, (0, 0, 33554431, [])), (4, (2, 0, 0, [142])), (5, (0, 0, 25, [])), (6, (0, 0, 33554431, [])), (7, (0, 0, 33554431, [])), (8, (0, 0, 33554431, [])), (9, (0, 0, 33554431, [])), (10, (0, 0, 25, []))], [(7, [10, 5], [3]), (20, [4, 5, 6, 7, 10, 8, 9], [61, 1, 578]), (24, [0, 4], []), (24, [1, 5], []), (24, [2, 6], []), (24, [3, 7], [])], [], [], [(20, [0, 1, 2, 3, 8], [61, 1, 579])], [], [(10, 5, 0, 4294967296), (1, 5, -4294967296, 0), (2, 6, -4294967296, 0), (3, 7, -4294967296, 0), (5, 1, -4294967296, 0), (6, 2, -4294967296, 0), (7, 3, -4294967296, 0), (10, 1, -4294967296, 0), (10, 5, -4294967296, 0)])
theorem oo_Fa_spread_at_Npnear_1 {kA : Nat → ClassId} : or_ok PRD kA GG o_Fa_spread_at_Npnear_1 := by
  refine or_mk fun A ta ws vs hD hth hl => ?_
  intro t0 r0 t1 k1 t2 k2 t3 k3 t4 r4 t5 k5 t6 k6 t7 k7 t8 k8 t9 k9 t10 k10 d0 d1 d2 d3 d4 d5 d6 d7 d8 f0 f1 f2 f3 f4 f5
  replace f0 := shm_2 f0
  replace f1 := shm_821 f1
  replace f2 := shm_5 f2
  replace f3 := shm_5 f3
  replace f4 := shm_5 f4
  replace f5 := shm_5 f5
  have q4 : n_v vs 4 = n_v vs 0 := f2.symm
  have q5 : n_v vs 5 = n_v vs 1 := f3.symm
  have q6 : n_v vs 6 = n_v vs 2 := f4.symm
  have q7 : n_v vs 7 = n_v vs 3 := f5.symm
  simp only [q5, q4, q6, q7] at f0 f1
  have cr_0_999 : ta (v_ad (n_v vs 0)) = some 142 := r0
  have hK_0_999 := elq_27 hD hth cr_0_999
  have nf0 : fc_1 PRD (20, [0, 1, 2, 3, 8], [61, 1, 579]) ws (vs) := ⟨nf_in hl rfl, sgq_822 (vc_Fa_spread_at_Npnear_1_0 (v_iv (n_v vs 1)) (v_iv (n_v vs 2)) (v_iv (n_v vs 3)) (v_iv (n_v vs 5)) (v_iv (n_v vs 6)) (v_iv (n_v vs 7)) (v_iv (n_v vs 8)) (v_iv (n_v vs 9)) (v_iv (n_v vs 10)) (w_ei ws (v_ad (n_v vs 0))) k1 k2 k3 k5 k6 k7 k8 k9 k10 d0 d1 d2 d3 d4 d5 d6 d7 d8 f0 f1 hK_0_999)⟩
  refine ⟨(fun _ h => (by cases h)), [], trivial, ?_, (fun _ h => (by cases h))⟩
  rw [List.append_nil]
  exact List.forall_mem_cons.mpr ⟨⟨show (20 : Nat) < 100 from by decide, nf0⟩, (fun _ h => (by cases h))⟩
set_option maxHeartbeats 4000000 in
theorem vc_Fa_spread_at_Npnear_2_0 (x1 : Int) (x2 : Int) (x3 : Int) (x5 : Int) (x6 : Int) (x7 : Int) (x8 : Int) (x9 : Int) (x10 : Int) (a0_0 : Int → Int) (k1 : 1 ≤ x1 ∧ x1 ≤ 25) (k2 : 0 ≤ x2 ∧ x2 ≤ 33554431) (k3 : 0 ≤ x3 ∧ x3 ≤ 33554431) (k5 : 1 ≤ x5 ∧ x5 ≤ 25) (k6 : 0 ≤ x6 ∧ x6 ≤ 33554431) (k7 : 0 ≤ x7 ∧ x7 ≤ 33554431) (k8 : 0 ≤ x8 ∧ x8 ≤ 33554431) (k9 : 0 ≤ x9 ∧ x9 ≤ 0) (k10 : 0 ≤ x10 ∧ x10 ≤ 24) (d0 : x5 + (-4294967296) ≤ x10 ∧ x10 ≤ x5 + (-1)) (d1 : x5 + (-4294967296) ≤ x1 ∧ x1 ≤ x5 + 0) (d2 : x6 + (-4294967296) ≤ x2 ∧ x2 ≤ x6 + 0) (d3 : x7 + (-4294967296) ≤ x3 ∧ x3 ≤ x7 + 0) (d4 : x1 + (-4294967296) ≤ x5 ∧ x5 ≤ x1 + 0) (d5 : x2 + (-4294967296) ≤ x6 ∧ x6 ≤ x2 + 0) (d6 : x3 + (-4294967296) ≤ x7 ∧ x7 ≤ x3 + 0) (d7 : x1 + (-4294967296) ≤ x10 ∧ x10 ≤ x1 + 0) (d8 : x5 + (-4294967296) ≤ x10 ∧ x10 ≤ x5 + 0) (f0 : x9 = 0) (f1 : x10 < x1) (f2 : SPI (a0_0) (x1) (x2) (x3) (x10) (x8) (x9)) (hK_0_999 : ∀ j : Int, 0 ≤ j → j < 25 → 0 ≤ a0_0 j ∧ a0_0 j ≤ 33554431) : SPZ (a0_0) (x1) (x2) (x3) (x8) := by
  first
    | exact spz_of ‹SPI _ _ _ _ _ _ _› (by omega) (by omega)
  
def o_Fa_spread_at_Npnear_2 : or_T := (54, 11, [(0, (2, 0, 0, [142])), (1, (0, 1, 25, [])), (2, (0, 0, 33554431, [])), (3, (0, 0, 33554431, [])), (4, (2, 0, 0, [142])), (5, (0, 1, 25, [])), (6, (0, 0, 33554431, [])), (7, (0, 0, 33554431, [])), (8, (0, 0, 33554431, [])), (9, (0, 0, 0, [])), (10, (0, 0, 24, []))], [(8, [9], [0]), (7, [10, 5], [2]), (20, [4, 5, 6, 7, 10, 8, 9], [61, 1, 578]), (24, [0, 4], []), (24, [1, 5], []), (24, [2, 6], []), (24, [3, 7], [])], [], [], [(20, [0, 1, 2, 3, 8], [61, 1, 579])], [], [(10, 5, -4294967296, -1), (1, 5, -4294967296, 0), (2, 6, -4294967296, 0), (3, 7, -4294967296, 0), (5, 1, -4294967296, 0), (6, 2, -4294967296, 0), (7, 3, -4294967296, 0), (10, 1, -4294967296, 0), (10, 5, -4294967296, 0)])
theorem oo_Fa_spread_at_Npnear_2 {kA : Nat → ClassId} : or_ok PRD kA GG o_Fa_spread_at_Npnear_2 := by
  refine or_mk fun A ta ws vs hD hth hl => ?_
  intro t0 r0 t1 k1 t2 k2 t3 k3 t4 r4 t5 k5 t6 k6 t7 k7 t8 k8 t9 k9 t10 k10 d0 d1 d2 d3 d4 d5 d6 d7 d8 f0 f1 f2 f3 f4 f5 f6
  replace f1 := shm_6 f1
  replace f2 := shm_821 f2
  replace f3 := shm_5 f3
  replace f4 := shm_5 f4
  replace f5 := shm_5 f5
  replace f6 := shm_5 f6
  have q4 : n_v vs 4 = n_v vs 0 := f3.symm
  have q5 : n_v vs 5 = n_v vs 1 := f4.symm
  have q6 : n_v vs 6 = n_v vs 2 := f5.symm
  have q7 : n_v vs 7 = n_v vs 3 := f6.symm
  simp only [q5, q4, q6, q7] at f1 f2
  have cr_0_999 : ta (v_ad (n_v vs 0)) = some 142 := r0
  have hK_0_999 := elq_27 hD hth cr_0_999
  have nf0 : fc_1 PRD (20, [0, 1, 2, 3, 8], [61, 1, 579]) ws (vs) := ⟨nf_in hl rfl, sgq_822 (vc_Fa_spread_at_Npnear_2_0 (v_iv (n_v vs 1)) (v_iv (n_v vs 2)) (v_iv (n_v vs 3)) (v_iv (n_v vs 5)) (v_iv (n_v vs 6)) (v_iv (n_v vs 7)) (v_iv (n_v vs 8)) (v_iv (n_v vs 9)) (v_iv (n_v vs 10)) (w_ei ws (v_ad (n_v vs 0))) k1 k2 k3 k5 k6 k7 k8 k9 k10 d0 d1 d2 d3 d4 d5 d6 d7 d8 (shm_192 f0) f1 f2 hK_0_999)⟩
  refine ⟨(fun _ h => (by cases h)), [], trivial, ?_, (fun _ h => (by cases h))⟩
  rw [List.append_nil]
  exact List.forall_mem_cons.mpr ⟨⟨show (20 : Nat) < 100 from by decide, nf0⟩, (fun _ h => (by cases h))⟩
set_option maxHeartbeats 4000000 in
theorem vc_Fa_spread_at_Npnear_3_0 (x1 : Int) (x2 : Int) (x3 : Int) (x5 : Int) (x6 : Int) (x7 : Int) (x8 : Int) (x9 : Int) (x10 : Int) (x11 : Int) (x12 : Int) (x13 : Int) (x14 : Int) (x15 : Int) (x16 : Int) (x17 : Int) (a0_0 : Int → Int) (k1 : 1 ≤ x1 ∧ x1 ≤ 25) (k2 : 0 ≤ x2 ∧ x2 ≤ 33554431) (k3 : 0 ≤ x3 ∧ x3 ≤ 33554431) (k5 : 1 ≤ x5 ∧ x5 ≤ 25) (k6 : 0 ≤ x6 ∧ x6 ≤ 33554431) (k7 : 0 ≤ x7 ∧ x7 ≤ 33554431) (k8 : 0 ≤ x8 ∧ x8 ≤ 33554431) (k9 : 1 ≤ x9 ∧ x9 ≤ 33554431) (k10 : 0 ≤ x10 ∧ x10 ≤ 24) (k11 : 0 ≤ x11 ∧ x11 ≤ 33554431) (k12 : 0 ≤ x12 ∧ x12 ≤ 33554431) (k13 : (-1) ≤ x13 ∧ x13 ≤ (-1)) (k14 : (-2147483648) ≤ x14 ∧ x14 ≤ 2147483647) (k15 : 0 ≤ x15 ∧ x15 ≤ 33554431) (k16 : 0 ≤ x16 ∧ x16 ≤ 33554431) (k17 : 1 ≤ x17 ∧ x17 ≤ 25) (d0 : x10 + 1 ≤ x17 ∧ x17 ≤ x10 + 1) (d1 : x5 + (-4294967296) ≤ x17 ∧ x17 ≤ x5 + 0) (d2 : x1 + (-4294967296) ≤ x17 ∧ x17 ≤ x1 + 1) (d3 : x5 + (-4294967296) ≤ x17 ∧ x17 ≤ x5 + 1) (d4 : x5 + (-4294967296) ≤ x10 ∧ x10 ≤ x5 + (-1)) (d5 : x5 + (-4294967296) ≤ x1 ∧ x1 ≤ x5 + 0) (d6 : x6 + (-4294967296) ≤ x2 ∧ x2 ≤ x6 + 0) (d7 : x7 + (-4294967296) ≤ x3 ∧ x3 ≤ x7 + 0) (d8 : x1 + (-4294967296) ≤ x5 ∧ x5 ≤ x1 + 0) (d9 : x2 + (-4294967296) ≤ x6 ∧ x6 ≤ x2 + 0) (d10 : x3 + (-4294967296) ≤ x7 ∧ x7 ≤ x3 + 0) (d11 : x1 + (-4294967296) ≤ x10 ∧ x10 ≤ x1 + 0) (d12 : x5 + (-4294967296) ≤ x10 ∧ x10 ≤ x5 + 0) (f0 : x17 = x10 + 1) (f1 : x16 ≤ x8 + x15 ∧ x8 ≤ x16 ∧ x15 ≤ x16) (f2 : bvp (x16) = bvp (x8) ||| bvp (x15)) (f3 : bvp (x15) = bvp (x12) &&& bvp (x14)) (f4 : bvp (x14) = bvp (x8) ^^^ bvp (x13)) (f5 : bvp (x12) = bvp (x11) &&& bvp (x3)) (f6 : NEF (a0_0) (x1) (x9) (x11)) (f7 : x9 ≠ 0) (f8 : x10 < x1) (f9 : SPI (a0_0) (x1) (x2) (x3) (x10) (x8) (x9)) (hK_0_999 : ∀ j : Int, 0 ≤ j → j < 25 → 0 ≤ a0_0 j ∧ a0_0 j ≤ 33554431) : SPI (a0_0) (x1) (x2) (x3) (x17) (x16) (x15) := by
  first
    | exact spi_start (by assumption) (by omega) (by omega) (by omega) (by omega)
    | exact spi_step ‹SPI _ _ _ _ _ _ _› (by omega) (by omega) (by omega) ‹NEF _ _ _ _› (by assumption) (by assumption) (by omega) (by assumption) (by assumption) (by omega)
  
def o_Fa_spread_at_Npnear_3 : or_T := (12, 18, [(0, (2, 0, 0, [142])), (1, (0, 1, 25, [])), (2, (0, 0, 33554431, [])), (3, (0, 0, 33554431, [])), (5, (0, 1, 25, [])), (6, (0, 0, 33554431, [])), (7, (0, 0, 33554431, [])), (8, (0, 0, 33554431, [])), (9, (0, 1, 33554431, [])), (10, (0, 0, 24, [])), (11, (0, 0, 33554431, [])), (12, (0, 0, 33554431, [])), (13, (0, -1, -1, [])), (14, (0, -2147483648, 2147483647, [])), (15, (0, 0, 33554431, [])), (16, (0, 0, 33554431, [])), (17, (0, 1, 25, []))], [(6, [17, 10], [1]), (13, [16, 8, 15], []), (16, [16, 8, 15], [1]), (16, [15, 12, 14], [0]), (16, [14, 8, 13], [2]), (16, [12, 11, 7], [0]), (20, [4, 5, 9, 11], [61, 1, 557]), (8, [9], [1]), (7, [10, 5], [2]), (20, [4, 5, 6, 7, 10, 8, 9], [61, 1, 578]), (24, [0, 4], []), (24, [1, 5], []), (24, [2, 6], []), (24, [3, 7], [])], [], [], [(20, [4, 5, 6, 7, 17, 16, 15], [61, 1, 578])], [], [(17, 10, 1, 1), (17, 5, -4294967296, 0), (17, 1, -4294967296, 1), (17, 5, -4294967296, 1), (10, 5, -4294967296, -1), (1, 5, -4294967296, 0), (2, 6, -4294967296, 0), (3, 7, -4294967296, 0), (5, 1, -4294967296, 0), (6, 2, -4294967296, 0), (7, 3, -4294967296, 0), (10, 1, -4294967296, 0), (10, 5, -4294967296, 0)])
theorem oo_Fa_spread_at_Npnear_3 {kA : Nat → ClassId} : or_ok PRD kA GG o_Fa_spread_at_Npnear_3 := by
  refine or_mk fun A ta ws vs hD hth hl => ?_
  intro t0 r0 t1 k1 t2 k2 t3 k3 t5 k5 t6 k6 t7 k7 t8 k8 t9 k9 t10 k10 t11 k11 t12 k12 t13 k13 t14 k14 t15 k15 t16 k16 t17 k17 d0 d1 d2 d3 d4 d5 d6 d7 d8 d9 d10 d11 d12 f0 f1 f2 f3 f4 f5 f6 f7 f8 f9 f10 f11 f12 f13
  replace f0 := shm_4 f0
  have f1 : v_iv (n_v vs 16) ≤ v_iv (n_v vs 8) + v_iv (n_v vs 15) ∧ v_iv (n_v vs 8) ≤ v_iv (n_v vs 16) ∧ v_iv (n_v vs 15) ≤ v_iv (n_v vs 16) := (fun (h : v_iv (n_v vs 16) ≤ v_iv (n_v vs 8) + v_iv (n_v vs 15) ∧ v_iv (n_v vs 8) ≤ v_iv (n_v vs 16) ∧ v_iv (n_v vs 15) ≤ v_iv (n_v vs 16) ∧ (v_iv (n_v vs 16)).toNat = (v_iv (n_v vs 8)).toNat ||| (v_iv (n_v vs 15)).toNat) => ⟨h.1, h.2.1, h.2.2.1⟩) f1
  replace f2 := shm_354 f2
  replace f3 := shm_11 f3
  replace f4 := shm_33 f4
  replace f5 := shm_11 f5
  replace f6 := shm_363 f6
  replace f7 := shm_142 f7
  replace f8 := shm_6 f8
  replace f9 := shm_821 f9
  replace f10 := shm_5 f10
  replace f11 := shm_5 f11
  replace f12 := shm_5 f12
  replace f13 := shm_5 f13
  have q4 : n_v vs 4 = n_v vs 0 := f10.symm
  have q5 : n_v vs 5 = n_v vs 1 := f11.symm
  have q6 : n_v vs 6 = n_v vs 2 := f12.symm
  have q7 : n_v vs 7 = n_v vs 3 := f13.symm
  simp only [q7, q4, q5, q6] at f5 f6 f8 f9
  have cr_0_999 : ta (v_ad (n_v vs 0)) = some 142 := r0
  have hK_0_999 := elq_27 hD hth cr_0_999
  have nf0 : fc_1 PRD (20, [4, 5, 6, 7, 17, 16, 15], [61, 1, 578]) ws (vs) := by
    refine ⟨nf_in hl rfl, sgq_821 ?_⟩
    · show SPI (w_ei ws (v_ad (n_v vs 4))) (v_iv (n_v vs 5)) (v_iv (n_v vs 6)) (v_iv (n_v vs 7)) (v_iv (n_v vs 17)) (v_iv (n_v vs 16)) (v_iv (n_v vs 15))
      simp only [q4, q5, q6, q7]
      exact vc_Fa_spread_at_Npnear_3_0 (v_iv (n_v vs 1)) (v_iv (n_v vs 2)) (v_iv (n_v vs 3)) (v_iv (n_v vs 5)) (v_iv (n_v vs 6)) (v_iv (n_v vs 7)) (v_iv (n_v vs 8)) (v_iv (n_v vs 9)) (v_iv (n_v vs 10)) (v_iv (n_v vs 11)) (v_iv (n_v vs 12)) (v_iv (n_v vs 13)) (v_iv (n_v vs 14)) (v_iv (n_v vs 15)) (v_iv (n_v vs 16)) (v_iv (n_v vs 17)) (w_ei ws (v_ad (n_v vs 0))) k1 k2 k3 k5 k6 k7 k8 k9 k10 k11 k12 k13 k14 k15 k16 k17 d0 d1 d2 d3 d4 d5 d6 d7 d8 d9 d10 d11 d12 f0 f1 f2 f3 f4 f5 f6 f7 f8 f9 hK_0_999
  refine ⟨(fun _ h => (by cases h)), [], trivial, ?_, (fun _ h => (by cases h))⟩
  rw [List.append_nil]
  exact List.forall_mem_cons.mpr ⟨⟨show (20 : Nat) < 100 from by decide, nf0⟩, (fun _ h => (by cases h))⟩
def n_Fa_spread_at_Npnear_an : List an_T := [(12, [(0, (2, 0, 0, [142])), (1, (0, 0, 25, [])), (2, (0, 0, 33554431, [])), (3, (0, 0, 33554431, [])), (4, (0, 0, 33554431, [])), (5, (0, 0, 33554431, [])), (6, (0, 0, 25, []))], [], (0, 0), [(0, 0, 99988), (1, 10, 25), (0, 0, 100000)], [(1, 5, (Int.negSucc 999999999999), 0), (2, 6, (Int.negSucc 999999999999), 0), (3, 7, (Int.negSucc 999999999999), 0), (5, 1, (Int.negSucc 999999999999), 0), (6, 2, (Int.negSucc 999999999999), 0), (7, 3, (Int.negSucc 999999999999), 0), (10, 1, (Int.negSucc 999999999999), 0), (10, 5, (Int.negSucc 999999999999), 0)], [], [(2, 0, 0, [142]), (0, 0, 25, []), (0, 0, 33554431, []), (0, 0, 33554431, [])], 0, [], [(20, [4, 5, 6, 7, 10, 8, 9], [61, 1, 578]), (24, [0, 4], []), (24, [1, 5], []), (24, [2, 6], []), (24, [3, 7], [])])]
def t_Fa_spread_at_Npnear_ct : ct_L := [(84, 97, e_Fa_nearOf_at_Npnear)]
set_option maxRecDepth 100000 in
theorem c_Fa_spread_at_Npnear {l : Launch} {D : va_G} {kA : Nat → ClassId} (h_Fa_nearOf_at_Npnear : ct_ok PRD l D kA GG y_Fa_nearOf_at_Npnear z_Fa_nearOf_at_Npnear e_Fa_nearOf_at_Npnear) : ct_ok PRD l D kA GG y_Fa_spread_at_Npnear z_Fa_spread_at_Npnear e_Fa_spread_at_Npnear := chk_all_ok (FT := []) (PT := []) (CT := t_Fa_spread_at_Npnear_ct) (KT := []) (NT := []) (AN := n_Fa_spread_at_Npnear_an) (OT := [o_Fa_spread_at_Npnear_0, o_Fa_spread_at_Npnear_1, o_Fa_spread_at_Npnear_2, o_Fa_spread_at_Npnear_3]) 3 200 (List.forall_mem_cons.mpr ⟨oo_Fa_spread_at_Npnear_0, List.forall_mem_cons.mpr ⟨oo_Fa_spread_at_Npnear_1, List.forall_mem_cons.mpr ⟨oo_Fa_spread_at_Npnear_2, List.forall_mem_cons.mpr ⟨oo_Fa_spread_at_Npnear_3, List.forall_mem_nil _⟩⟩⟩⟩) (by decide +kernel) ⟨List.forall_mem_nil _, List.forall_mem_nil _, List.forall_mem_cons.mpr ⟨cl_static (y := y_Fa_nearOf_at_Npnear) h_Fa_nearOf_at_Npnear wm_824 wm_7 wm_822 wm_823 ⟨by decide, by decide, by decide +kernel⟩ (by decide), List.forall_mem_nil _⟩, List.forall_mem_nil _, List.forall_mem_nil _, GG_pl⟩ (by decide +kernel)
set_option maxHeartbeats 4000000 in
theorem vc_Fa_weightOf_0_0 (x1 : Int) (x2 : Int) (x3 : Int) (x4 : Int) (x5 : Int) (link_0 : Int → Int) (tail_0 : Int → Int) (weight_0 : Int → Int) (k1 : 0 ≤ x1 ∧ x1 ≤ 23) (k2 : 0 ≤ x2 ∧ x2 ≤ 23) (k3 : (-1) ≤ x3 ∧ x3 ≤ (-1)) (k4 : (-1) ≤ x4 ∧ x4 ≤ (-1)) (k5 : 0 ≤ x5 ∧ x5 ≤ 0) (f0 : x3 = x4) (f1 : x3 = link_0 (((x1 * 24) + x2))) (hK_0_7 : ∀ j : Int, 0 ≤ j → j < 48 → 0 ≤ tail_0 j ∧ tail_0 j ≤ 23) (hK_0_9 : ∀ j : Int, 0 ≤ j → j < 48 → 0 ≤ weight_0 j ∧ weight_0 j ≤ 9) (hK_0_15 : ∀ j : Int, 0 ≤ j → j < 576 → (-1) ≤ link_0 j ∧ link_0 j ≤ 47) : WOX (tail_0) (weight_0) (link_0) (x1) (x2) (x5) := by
  first
    | exact wox_none (e := x3) (by assumption) (by omega) (by omega)
    | exact wox_other (e := x3) (t := x6) (by assumption) (by assumption) (by omega) (by omega)
    | exact wox_in (e := x3) (t := x6) (by assumption) (by omega) (by assumption) (by omega) (by assumption)
  
def o_Fa_weightOf_0 : or_T := (32, 6, [(0, (2, 0, 0, [3])), (1, (0, 0, 23, [])), (2, (0, 0, 23, [])), (3, (0, -1, -1, [])), (4, (0, -1, -1, [])), (5, (0, 0, 0, []))], [(7, [3, 4], [0]), (20, [3, 0, 1, 2], [50, 0, 1, 1015, 1, 2, 1, 0, 3, 1, 15, 4, 6, 6, 2, 1, 2, 0, 24, 1, 3])], [], [], [(20, [0, 1, 2, 5], [60, 0, 3, 709, 7, 9, 15])], [], [])
theorem oo_Fa_weightOf_0 {kA : Nat → ClassId} : or_ok PRD kA GG o_Fa_weightOf_0 := by
  refine or_mk fun A ta ws vs hD hth hl => ?_
  intro t0 r0 t1 k1 t2 k2 t3 k3 t4 k4 t5 k5 f0 f1
  have cr_0_7 := fdq_46 hD hth r0
  have cr_0_9 := fdq_112 hD hth r0
  have cr_0_15 := fdq_66 hD hth r0
  have hK_0_7 := elq_11 hD hth cr_0_7
  have hK_0_9 := elq_57 hD hth cr_0_9
  have hK_0_15 := elq_31 hD hth cr_0_15
  have nf0 : fc_1 PRD (20, [0, 1, 2, 5], [60, 0, 3, 709, 7, 9, 15]) ws (vs) := ⟨nf_in hl rfl, sgq_823 (vc_Fa_weightOf_0_0 (v_iv (n_v vs 1)) (v_iv (n_v vs 2)) (v_iv (n_v vs 3)) (v_iv (n_v vs 4)) (v_iv (n_v vs 5)) (w_ei ws (w_ar ws (n_v vs 0) 15)) (w_ei ws (w_ar ws (n_v vs 0) 7)) (w_ei ws (w_ar ws (n_v vs 0) 9)) k1 k2 k3 k4 k5 (shm_37 f0) (shm_376 f1) hK_0_7 hK_0_9 hK_0_15)⟩
  refine ⟨(fun _ h => (by cases h)), [], trivial, ?_, (fun _ h => (by cases h))⟩
  rw [List.append_nil]
  exact List.forall_mem_cons.mpr ⟨⟨show (20 : Nat) < 100 from by decide, nf0⟩, (fun _ h => (by cases h))⟩
set_option maxHeartbeats 4000000 in
theorem vc_Fa_weightOf_1_0 (x1 : Int) (x2 : Int) (x3 : Int) (x4 : Int) (x6 : Int) (x7 : Int) (tail_0 : Int → Int) (link_0 : Int → Int) (weight_0 : Int → Int) (k1 : 0 ≤ x1 ∧ x1 ≤ 23) (k2 : 0 ≤ x2 ∧ x2 ≤ 23) (k3 : 0 ≤ x3 ∧ x3 ≤ 47) (k4 : (-1) ≤ x4 ∧ x4 ≤ (-1)) (k6 : 0 ≤ x6 ∧ x6 ≤ 23) (k7 : 0 ≤ x7 ∧ x7 ≤ 0) (f0 : x6 ≠ x1) (h1 : x6 = tail_0 (x3)) (f3 : x3 ≠ x4) (f4 : x3 = link_0 (((x1 * 24) + x2))) (hK_0_7 : ∀ j : Int, 0 ≤ j → j < 48 → 0 ≤ tail_0 j ∧ tail_0 j ≤ 23) (hK_0_9 : ∀ j : Int, 0 ≤ j → j < 48 → 0 ≤ weight_0 j ∧ weight_0 j ≤ 9) (hK_0_15 : ∀ j : Int, 0 ≤ j → j < 576 → (-1) ≤ link_0 j ∧ link_0 j ≤ 47) : WOX (tail_0) (weight_0) (link_0) (x1) (x2) (x7) := by
  first
    | exact wox_none (e := x3) (by assumption) (by omega) (by omega)
    | exact wox_other (e := x3) (t := x6) (by assumption) (by assumption) (by omega) (by omega)
    | exact wox_in (e := x3) (t := x6) (by assumption) (by omega) (by assumption) (by omega) (by assumption)
  
def o_Fa_weightOf_1 : or_T := (32, 8, [(0, (2, 0, 0, [3])), (1, (0, 0, 23, [])), (2, (0, 0, 23, [])), (3, (0, 0, 47, [])), (4, (0, -1, -1, [])), (6, (0, 0, 23, [])), (7, (0, 0, 0, []))], [(7, [6, 1], [1]), (10, [6, 5, 3], []), (9, [5, 0], [7]), (7, [3, 4], [1]), (20, [3, 0, 1, 2], [50, 0, 1, 1015, 1, 2, 1, 0, 3, 1, 15, 4, 6, 6, 2, 1, 2, 0, 24, 1, 3])], [], [], [(20, [0, 1, 2, 7], [60, 0, 3, 709, 7, 9, 15])], [], [])
theorem oo_Fa_weightOf_1 {kA : Nat → ClassId} : or_ok PRD kA GG o_Fa_weightOf_1 := by
  refine or_mk fun A ta ws vs hD hth hl => ?_
  intro t0 r0 t1 k1 t2 k2 t3 k3 t4 k4 t6 k6 t7 k7 f0 f1 f2 f3 f4
  replace f1 := shm_107 f1
  replace f2 := shm_198 f2
  have cr_0_7 := fdq_46 hD hth r0
  have cr_0_9 := fdq_112 hD hth r0
  have cr_0_15 := fdq_66 hD hth r0
  have ad_5 : v_ad (n_v vs 5) = w_ar ws (n_v vs 0) 7 := congrArg v_ad f2
  simp only [ad_5] at f1
  have h1 : v_iv (n_v vs 6) = w_ei ws (w_ar ws (n_v vs 0) 7) (v_iv (n_v vs 3)) := f1
  have hK_0_7 := elq_11 hD hth cr_0_7
  have hK_0_9 := elq_57 hD hth cr_0_9
  have hK_0_15 := elq_31 hD hth cr_0_15
  have nf0 : fc_1 PRD (20, [0, 1, 2, 7], [60, 0, 3, 709, 7, 9, 15]) ws (vs) := ⟨nf_in hl rfl, sgq_823 (vc_Fa_weightOf_1_0 (v_iv (n_v vs 1)) (v_iv (n_v vs 2)) (v_iv (n_v vs 3)) (v_iv (n_v vs 4)) (v_iv (n_v vs 6)) (v_iv (n_v vs 7)) (w_ei ws (w_ar ws (n_v vs 0) 7)) (w_ei ws (w_ar ws (n_v vs 0) 15)) (w_ei ws (w_ar ws (n_v vs 0) 9)) k1 k2 k3 k4 k6 k7 (shm_40 f0) h1 (shm_40 f3) (shm_376 f4) hK_0_7 hK_0_9 hK_0_15)⟩
  refine ⟨(fun _ h => (by cases h)), [], trivial, ?_, (fun _ h => (by cases h))⟩
  rw [List.append_nil]
  exact List.forall_mem_cons.mpr ⟨⟨show (20 : Nat) < 100 from by decide, nf0⟩, (fun _ h => (by cases h))⟩
set_option maxHeartbeats 4000000 in
theorem vc_Fa_weightOf_2_0 (x1 : Int) (x2 : Int) (x3 : Int) (x4 : Int) (x6 : Int) (x8 : Int) (weight_0 : Int → Int) (tail_0 : Int → Int) (link_0 : Int → Int) (k1 : 0 ≤ x1 ∧ x1 ≤ 23) (k2 : 0 ≤ x2 ∧ x2 ≤ 23) (k3 : 0 ≤ x3 ∧ x3 ≤ 47) (k4 : (-1) ≤ x4 ∧ x4 ≤ (-1)) (k6 : 0 ≤ x6 ∧ x6 ≤ 23) (k8 : 0 ≤ x8 ∧ x8 ≤ 9) (d0 : x1 + 0 ≤ x6 ∧ x6 ≤ x1 + 0) (h0 : x8 = weight_0 (x3)) (f2 : x6 = x1) (h3 : x6 = tail_0 (x3)) (f5 : x3 ≠ x4) (f6 : x3 = link_0 (((x1 * 24) + x2))) (hK_0_7 : ∀ j : Int, 0 ≤ j → j < 48 → 0 ≤ tail_0 j ∧ tail_0 j ≤ 23) (hK_0_9 : ∀ j : Int, 0 ≤ j → j < 48 → 0 ≤ weight_0 j ∧ weight_0 j ≤ 9) (hK_0_15 : ∀ j : Int, 0 ≤ j → j < 576 → (-1) ≤ link_0 j ∧ link_0 j ≤ 47) : WOX (tail_0) (weight_0) (link_0) (x1) (x2) (x8) := by
  first
    | exact wox_none (e := x3) (by assumption) (by omega) (by omega)
    | exact wox_other (e := x3) (t := x6) (by assumption) (by assumption) (by omega) (by omega)
    | exact wox_in (e := x3) (t := x6) (by assumption) (by omega) (by assumption) (by omega) (by assumption)
  
def o_Fa_weightOf_2 : or_T := (32, 9, [(0, (2, 0, 0, [3])), (1, (0, 0, 23, [])), (2, (0, 0, 23, [])), (3, (0, 0, 47, [])), (4, (0, -1, -1, [])), (6, (0, 0, 23, [])), (8, (0, 0, 9, []))], [(10, [8, 7, 3], []), (9, [7, 0], [9]), (7, [6, 1], [0]), (10, [6, 5, 3], []), (9, [5, 0], [7]), (7, [3, 4], [1]), (20, [3, 0, 1, 2], [50, 0, 1, 1015, 1, 2, 1, 0, 3, 1, 15, 4, 6, 6, 2, 1, 2, 0, 24, 1, 3])], [], [], [(20, [0, 1, 2, 8], [60, 0, 3, 709, 7, 9, 15])], [], [(6, 1, 0, 0)])
theorem oo_Fa_weightOf_2 {kA : Nat → ClassId} : or_ok PRD kA GG o_Fa_weightOf_2 := by
  refine or_mk fun A ta ws vs hD hth hl => ?_
  intro t0 r0 t1 k1 t2 k2 t3 k3 t4 k4 t6 k6 t8 k8 d0 f0 f1 f2 f3 f4 f5 f6
  replace f0 := shm_107 f0
  replace f1 := shm_119 f1
  replace f3 := shm_107 f3
  replace f4 := shm_198 f4
  have cr_0_7 := fdq_46 hD hth r0
  have cr_0_9 := fdq_112 hD hth r0
  have cr_0_15 := fdq_66 hD hth r0
  have ad_7 : v_ad (n_v vs 7) = w_ar ws (n_v vs 0) 9 := congrArg v_ad f1
  have ad_5 : v_ad (n_v vs 5) = w_ar ws (n_v vs 0) 7 := congrArg v_ad f4
  simp only [ad_7] at f0
  have h0 : v_iv (n_v vs 8) = w_ei ws (w_ar ws (n_v vs 0) 9) (v_iv (n_v vs 3)) := f0
  simp only [ad_5] at f3
  have h3 : v_iv (n_v vs 6) = w_ei ws (w_ar ws (n_v vs 0) 7) (v_iv (n_v vs 3)) := f3
  have hK_0_7 := elq_11 hD hth cr_0_7
  have hK_0_9 := elq_57 hD hth cr_0_9
  have hK_0_15 := elq_31 hD hth cr_0_15
  have nf0 : fc_1 PRD (20, [0, 1, 2, 8], [60, 0, 3, 709, 7, 9, 15]) ws (vs) := ⟨nf_in hl rfl, sgq_823 (vc_Fa_weightOf_2_0 (v_iv (n_v vs 1)) (v_iv (n_v vs 2)) (v_iv (n_v vs 3)) (v_iv (n_v vs 4)) (v_iv (n_v vs 6)) (v_iv (n_v vs 8)) (w_ei ws (w_ar ws (n_v vs 0) 9)) (w_ei ws (w_ar ws (n_v vs 0) 7)) (w_ei ws (w_ar ws (n_v vs 0) 15)) k1 k2 k3 k4 k6 k8 d0 h0 (shm_37 f2) h3 (shm_40 f5) (shm_376 f6) hK_0_7 hK_0_9 hK_0_15)⟩
  refine ⟨(fun _ h => (by cases h)), [], trivial, ?_, (fun _ h => (by cases h))⟩
  rw [List.append_nil]
  exact List.forall_mem_cons.mpr ⟨⟨show (20 : Nat) < 100 from by decide, nf0⟩, (fun _ h => (by cases h))⟩
def n_Fa_weightOf_an : List an_T := []
def t_Fa_weightOf_ct : ct_L := [(13, 166, e_Gr_edgeBetween_at_Gr)]
set_option maxRecDepth 100000 in
theorem c_Fa_weightOf {l : Launch} {D : va_G} {kA : Nat → ClassId} (h_Gr_edgeBetween_at_Gr : ct_ok PRD l D kA GG y_Gr_edgeBetween_at_Gr z_Gr_edgeBetween_at_Gr e_Gr_edgeBetween_at_Gr) : ct_ok PRD l D kA GG y_Fa_weightOf z_Fa_weightOf e_Fa_weightOf := chk_all_ok (FT := [(72, 3, 7), (169, 3, 9)]) (PT := []) (CT := t_Fa_weightOf_ct) (KT := []) (NT := []) (AN := n_Fa_weightOf_an) (OT := [o_Fa_weightOf_0, o_Fa_weightOf_1, o_Fa_weightOf_2]) 0 200 (List.forall_mem_cons.mpr ⟨oo_Fa_weightOf_0, List.forall_mem_cons.mpr ⟨oo_Fa_weightOf_1, List.forall_mem_cons.mpr ⟨oo_Fa_weightOf_2, List.forall_mem_nil _⟩⟩⟩) (by decide +kernel) ⟨List.forall_mem_cons.mpr ⟨gf_Fa_72, List.forall_mem_cons.mpr ⟨gf_Fa_169, List.forall_mem_nil _⟩⟩, List.forall_mem_nil _, List.forall_mem_cons.mpr ⟨cl_virtual (y := y_Gr_edgeBetween_at_Gr) (ci := 3) rfl rfl ⟨_, _, rfl⟩ (by decide +kernel) h_Gr_edgeBetween_at_Gr wm_768 wm_3 wm_913 wm_766 wm_767 ⟨by decide, by decide, by decide +kernel⟩ (by decide), List.forall_mem_nil _⟩, List.forall_mem_nil _, List.forall_mem_nil _, GG_pl⟩ (by decide +kernel)

set_option maxHeartbeats 4000000 in
theorem vc_Gr_addEdge_at_Gq_0_0 (x4 : Int) (x6 : Int) (x13 : Int) (edges_0 : Int) (nodes_0 : Int) (edges_1 : Int) (nodes_1 : Int) (nodes_2 : Int) (edges_2 : Int) (nodes_3 : Int) (edges_3 : Int) (nodes_4 : Int) (edges_4 : Int) (near_5 : Int → Int) (head_5 : Int → Int) (nodes_5 : Int) (edges_5 : Int) (tape_5o5 : Int → Int) (nameLength_5 : Int → Int) (name_5 : Int → Int) (end_5o5 : Int) (next_5o5 : Int) (begin_5o5 : Int) (groups_5 : Int) (link_5 : Int → Int) (groups_0 : Int) (groups_1 : Int) (end_0o5 : Int) (end_1o5 : Int) (next_0o5 : Int) (next_1o5 : Int) (begin_0o5 : Int) (begin_1o5 : Int) (groups_2 : Int) (end_2o5 : Int) (next_2o5 : Int) (begin_2o5 : Int) (groups_3 : Int) (end_3o5 : Int) (next_3o5 : Int) (begin_3o5 : Int) (groups_4 : Int) (end_4o5 : Int) (next_4o5 : Int) (begin_4o5 : Int) (name_0 : Int → Int) (name_1 : Int → Int) (name_2 : Int → Int) (name_3 : Int → Int) (name_4 : Int → Int) (nameLength_0 : Int → Int) (nameLength_1 : Int → Int) (nameLength_2 : Int → Int) (nameLength_3 : Int → Int) (nameLength_4 : Int → Int) (tail_0 : Int → Int) (tail_1 : Int → Int) (tail_2 : Int → Int) (tail_3 : Int → Int) (tail_4 : Int → Int) (head_0 : Int → Int) (head_1 : Int → Int) (head_2 : Int → Int) (head_3 : Int → Int) (head_4 : Int → Int) (weight_0 : Int → Int) (weight_1 : Int → Int) (weight_2 : Int → Int) (weight_3 : Int → Int) (weight_4 : Int → Int) (weight_5 : Int → Int) (oneWay_0 : Int → Int) (oneWay_1 : Int → Int) (oneWay_2 : Int → Int) (oneWay_3 : Int → Int) (oneWay_4 : Int → Int) (oneWay_5 : Int → Int) (near_0 : Int → Int) (near_1 : Int → Int) (near_2 : Int → Int) (near_3 : Int → Int) (near_4 : Int → Int) (link_0 : Int → Int) (link_1 : Int → Int) (link_2 : Int → Int) (link_3 : Int → Int) (link_4 : Int → Int) (tape_0o5 : Int → Int) (tape_1o5 : Int → Int) (tape_2o5 : Int → Int) (tape_3o5 : Int → Int) (tape_4o5 : Int → Int) (k4 : 0 ≤ x4 ∧ x4 ≤ 47) (k6 : 0 ≤ x6 ∧ x6 ≤ 47) (k13 : 1 ≤ x13 ∧ x13 ≤ 48) (d0 : x4 + 1 ≤ x13 ∧ x13 ≤ x4 + 1) (g0 : x13 = edges_0) (g8 : x4 = edges_1) (f10 : 1 * edges_1 + ((-1) * x6 + 0) ≤ 0) (f11 : (-1) * edges_1 + (1 * x6 + 0) ≤ 0) (fe_0_0_1 : nodes_0 = nodes_1) (fe_0_2_1 : groups_0 = groups_1) (fe_5_5_1 : end_0o5 = end_1o5) (fe_5_6_1 : next_0o5 = next_1o5) (fe_5_8_1 : begin_0o5 = begin_1o5) (fe_0_0_2 : nodes_1 = nodes_2) (fe_0_1_2 : edges_1 = edges_2) (fe_0_2_2 : groups_1 = groups_2) (fe_5_5_2 : end_1o5 = end_2o5) (fe_5_6_2 : next_1o5 = next_2o5) (fe_5_8_2 : begin_1o5 = begin_2o5) (fe_0_0_3 : nodes_2 = nodes_3) (fe_0_1_3 : edges_2 = edges_3) (fe_0_2_3 : groups_2 = groups_3) (fe_5_5_3 : end_2o5 = end_3o5) (fe_5_6_3 : next_2o5 = next_3o5) (fe_5_8_3 : begin_2o5 = begin_3o5) (fe_0_0_4 : nodes_3 = nodes_4) (fe_0_1_4 : edges_3 = edges_4) (fe_0_2_4 : groups_3 = groups_4) (fe_5_5_4 : end_3o5 = end_4o5) (fe_5_6_4 : next_3o5 = next_4o5) (fe_5_8_4 : begin_3o5 = begin_4o5) (fe_0_0_5 : nodes_4 = nodes_5) (fe_0_1_5 : edges_4 = edges_5) (fe_0_2_5 : groups_4 = groups_5) (fe_5_5_5 : end_4o5 = end_5o5) (fe_5_6_5 : next_4o5 = next_5o5) (fe_5_8_5 : begin_4o5 = begin_5o5) (hE_0_3_1 : ∀ j : Int, name_0 j = name_1 j) (hE_0_3_2 : ∀ j : Int, name_1 j = name_2 j) (hE_0_3_3 : ∀ j : Int, name_2 j = name_3 j) (hE_0_3_4 : ∀ j : Int, name_3 j = name_4 j) (hE_0_3_5 : ∀ j : Int, name_4 j = name_5 j) (hE_0_4_1 : ∀ j : Int, nameLength_0 j = nameLength_1 j) (hE_0_4_2 : ∀ j : Int, nameLength_1 j = nameLength_2 j) (hE_0_4_3 : ∀ j : Int, nameLength_2 j = nameLength_3 j) (hE_0_4_4 : ∀ j : Int, nameLength_3 j = nameLength_4 j) (hE_0_4_5 : ∀ j : Int, nameLength_4 j = nameLength_5 j) (hE_0_7_1 : ∀ j : Int, tail_0 j = tail_1 j) (hE_0_7_2 : ∀ j : Int, tail_1 j = tail_2 j) (hE_0_7_3 : ∀ j : Int, tail_2 j = tail_3 j) (hE_0_7_4 : ∀ j : Int, tail_3 j = tail_4 j) (hE_0_8_1 : ∀ j : Int, head_0 j = head_1 j) (hE_0_8_2 : ∀ j : Int, head_1 j = head_2 j) (hE_0_8_3 : ∀ j : Int, head_2 j = head_3 j) (hE_0_8_5 : ∀ j : Int, head_4 j = head_5 j) (hE_0_9_1 : ∀ j : Int, weight_0 j = weight_1 j) (hE_0_9_2 : ∀ j : Int, weight_1 j = weight_2 j) (hE_0_9_4 : ∀ j : Int, weight_3 j = weight_4 j) (hE_0_9_5 : ∀ j : Int, weight_4 j = weight_5 j) (hE_0_10_1 : ∀ j : Int, oneWay_0 j = oneWay_1 j) (hE_0_10_3 : ∀ j : Int, oneWay_2 j = oneWay_3 j) (hE_0_10_4 : ∀ j : Int, oneWay_3 j = oneWay_4 j) (hE_0_10_5 : ∀ j : Int, oneWay_4 j = oneWay_5 j) (hE_0_14_1 : ∀ j : Int, near_0 j = near_1 j) (hE_0_14_2 : ∀ j : Int, near_1 j = near_2 j) (hE_0_14_3 : ∀ j : Int, near_2 j = near_3 j) (hE_0_14_4 : ∀ j : Int, near_3 j = near_4 j) (hE_0_14_5 : ∀ j : Int, near_4 j = near_5 j) (hE_0_15_1 : ∀ j : Int, link_0 j = link_1 j) (hE_0_15_2 : ∀ j : Int, link_1 j = link_2 j) (hE_0_15_3 : ∀ j : Int, link_2 j = link_3 j) (hE_0_15_4 : ∀ j : Int, link_3 j = link_4 j) (hE_0_15_5 : ∀ j : Int, link_4 j = link_5 j) (hE_5_0_1 : ∀ j : Int, tape_0o5 j = tape_1o5 j) (hE_5_0_2 : ∀ j : Int, tape_1o5 j = tape_2o5 j) (hE_5_0_3 : ∀ j : Int, tape_2o5 j = tape_3o5 j) (hE_5_0_4 : ∀ j : Int, tape_3o5 j = tape_4o5 j) (hE_5_0_5 : ∀ j : Int, tape_4o5 j = tape_5o5 j) (kz_0_0 : 0 ≤ nodes_0 ∧ nodes_0 ≤ 24) (kz_0_1 : 0 ≤ edges_0 ∧ edges_0 ≤ 48) (kz_0_2 : 0 ≤ groups_0 ∧ groups_0 ≤ 8) (kz_5_5 : 0 ≤ end_0o5 ∧ end_0o5 ≤ 2000) (kz_5_6 : 0 ≤ next_0o5 ∧ next_0o5 ≤ 2000) (kz_5_8 : 0 ≤ begin_0o5 ∧ begin_0o5 ≤ 2000) : (0 ≤ x4) ∧ ((x4 + 1) = edges_0) := by
  subst fe_0_0_1
  subst fe_0_2_1
  subst fe_5_5_1
  subst fe_5_6_1
  subst fe_5_8_1
  subst fe_0_0_2
  subst fe_0_1_2
  subst fe_0_2_2
  subst fe_5_5_2
  subst fe_5_6_2
  subst fe_5_8_2
  subst fe_0_0_3
  subst fe_0_1_3
  subst fe_0_2_3
  subst fe_5_5_3
  subst fe_5_6_3
  subst fe_5_8_3
  subst fe_0_0_4
  subst fe_0_1_4
  subst fe_0_2_4
  subst fe_5_5_4
  subst fe_5_6_4
  subst fe_5_8_4
  subst fe_0_0_5
  subst fe_0_1_5
  subst fe_0_2_5
  subst fe_5_5_5
  subst fe_5_6_5
  subst fe_5_8_5
  have e_hE_0_3_1 := funext hE_0_3_1; subst e_hE_0_3_1
  have e_hE_0_3_2 := funext hE_0_3_2; subst e_hE_0_3_2
  have e_hE_0_3_3 := funext hE_0_3_3; subst e_hE_0_3_3
  have e_hE_0_3_4 := funext hE_0_3_4; subst e_hE_0_3_4
  have e_hE_0_3_5 := funext hE_0_3_5; subst e_hE_0_3_5
  have e_hE_0_4_1 := funext hE_0_4_1; subst e_hE_0_4_1
  have e_hE_0_4_2 := funext hE_0_4_2; subst e_hE_0_4_2
  have e_hE_0_4_3 := funext hE_0_4_3; subst e_hE_0_4_3
  have e_hE_0_4_4 := funext hE_0_4_4; subst e_hE_0_4_4
  have e_hE_0_4_5 := funext hE_0_4_5; subst e_hE_0_4_5
  have e_hE_0_7_1 := funext hE_0_7_1; subst e_hE_0_7_1
  have e_hE_0_7_2 := funext hE_0_7_2; subst e_hE_0_7_2
  have e_hE_0_7_3 := funext hE_0_7_3; subst e_hE_0_7_3
  have e_hE_0_7_4 := funext hE_0_7_4; subst e_hE_0_7_4
  have e_hE_0_8_1 := funext hE_0_8_1; subst e_hE_0_8_1
  have e_hE_0_8_2 := funext hE_0_8_2; subst e_hE_0_8_2
  have e_hE_0_8_3 := funext hE_0_8_3; subst e_hE_0_8_3
  have e_hE_0_8_5 := funext hE_0_8_5; subst e_hE_0_8_5
  have e_hE_0_9_1 := funext hE_0_9_1; subst e_hE_0_9_1
  have e_hE_0_9_2 := funext hE_0_9_2; subst e_hE_0_9_2
  have e_hE_0_9_4 := funext hE_0_9_4; subst e_hE_0_9_4
  have e_hE_0_9_5 := funext hE_0_9_5; subst e_hE_0_9_5
  have e_hE_0_10_1 := funext hE_0_10_1; subst e_hE_0_10_1
  have e_hE_0_10_3 := funext hE_0_10_3; subst e_hE_0_10_3
  have e_hE_0_10_4 := funext hE_0_10_4; subst e_hE_0_10_4
  have e_hE_0_10_5 := funext hE_0_10_5; subst e_hE_0_10_5
  have e_hE_0_14_1 := funext hE_0_14_1; subst e_hE_0_14_1
  have e_hE_0_14_2 := funext hE_0_14_2; subst e_hE_0_14_2
  have e_hE_0_14_3 := funext hE_0_14_3; subst e_hE_0_14_3
  have e_hE_0_14_4 := funext hE_0_14_4; subst e_hE_0_14_4
  have e_hE_0_14_5 := funext hE_0_14_5; subst e_hE_0_14_5
  have e_hE_0_15_1 := funext hE_0_15_1; subst e_hE_0_15_1
  have e_hE_0_15_2 := funext hE_0_15_2; subst e_hE_0_15_2
  have e_hE_0_15_3 := funext hE_0_15_3; subst e_hE_0_15_3
  have e_hE_0_15_4 := funext hE_0_15_4; subst e_hE_0_15_4
  have e_hE_0_15_5 := funext hE_0_15_5; subst e_hE_0_15_5
  have e_hE_5_0_1 := funext hE_5_0_1; subst e_hE_5_0_1
  have e_hE_5_0_2 := funext hE_5_0_2; subst e_hE_5_0_2
  have e_hE_5_0_3 := funext hE_5_0_3; subst e_hE_5_0_3
  have e_hE_5_0_4 := funext hE_5_0_4; subst e_hE_5_0_4
  have e_hE_5_0_5 := funext hE_5_0_5; subst e_hE_5_0_5
  first
    | omega
  
set_option maxHeartbeats 4000000 in
theorem vc_Gr_addEdge_at_Gq_0_1 (x1 : Int) (x2 : Int) (x4 : Int) (x6 : Int) (nodes_0 : Int) (edges_1 : Int) (nodes_1 : Int) (nodes_2 : Int) (edges_2 : Int) (nodes_3 : Int) (edges_3 : Int) (nodes_4 : Int) (edges_4 : Int) (near_5 : Int → Int) (tail_5 : Int → Int) (head_5 : Int → Int) (nodes_5 : Int) (edges_5 : Int) (tape_5o5 : Int → Int) (nameLength_5 : Int → Int) (name_5 : Int → Int) (end_5o5 : Int) (next_5o5 : Int) (begin_5o5 : Int) (groups_5 : Int) (link_5 : Int → Int) (groups_0 : Int) (groups_1 : Int) (end_0o5 : Int) (end_1o5 : Int) (next_0o5 : Int) (next_1o5 : Int) (begin_0o5 : Int) (begin_1o5 : Int) (groups_2 : Int) (end_2o5 : Int) (next_2o5 : Int) (begin_2o5 : Int) (groups_3 : Int) (end_3o5 : Int) (next_3o5 : Int) (begin_3o5 : Int) (groups_4 : Int) (end_4o5 : Int) (next_4o5 : Int) (begin_4o5 : Int) (name_0 : Int → Int) (name_1 : Int → Int) (name_2 : Int → Int) (name_3 : Int → Int) (name_4 : Int → Int) (nameLength_0 : Int → Int) (nameLength_1 : Int → Int) (nameLength_2 : Int → Int) (nameLength_3 : Int → Int) (nameLength_4 : Int → Int) (tail_0 : Int → Int) (tail_1 : Int → Int) (tail_2 : Int → Int) (tail_3 : Int → Int) (tail_4 : Int → Int) (head_0 : Int → Int) (head_1 : Int → Int) (head_2 : Int → Int) (head_3 : Int → Int) (head_4 : Int → Int) (weight_0 : Int → Int) (weight_1 : Int → Int) (weight_2 : Int → Int) (weight_3 : Int → Int) (weight_4 : Int → Int) (weight_5 : Int → Int) (oneWay_0 : Int → Int) (oneWay_1 : Int → Int) (oneWay_2 : Int → Int) (oneWay_3 : Int → Int) (oneWay_4 : Int → Int) (oneWay_5 : Int → Int) (near_0 : Int → Int) (near_1 : Int → Int) (near_2 : Int → Int) (near_3 : Int → Int) (near_4 : Int → Int) (link_0 : Int → Int) (link_1 : Int → Int) (link_2 : Int → Int) (link_3 : Int → Int) (link_4 : Int → Int) (tape_0o5 : Int → Int) (tape_1o5 : Int → Int) (tape_2o5 : Int → Int) (tape_3o5 : Int → Int) (tape_4o5 : Int → Int) (k1 : 0 ≤ x1 ∧ x1 ≤ 23) (k2 : 0 ≤ x2 ∧ x2 ≤ 23) (k4 : 0 ≤ x4 ∧ x4 ≤ 47) (k6 : 0 ≤ x6 ∧ x6 ≤ 47) (g8 : x4 = edges_1) (f10 : 1 * edges_1 + ((-1) * x6 + 0) ≤ 0) (f11 : (-1) * edges_1 + (1 * x6 + 0) ≤ 0) (f25 : GNB (nodes_5) (edges_5) (near_5) (tail_5) (head_5)) (fe_0_0_1 : nodes_0 = nodes_1) (fe_0_2_1 : groups_0 = groups_1) (fe_5_5_1 : end_0o5 = end_1o5) (fe_5_6_1 : next_0o5 = next_1o5) (fe_5_8_1 : begin_0o5 = begin_1o5) (fe_0_0_2 : nodes_1 = nodes_2) (fe_0_1_2 : edges_1 = edges_2) (fe_0_2_2 : groups_1 = groups_2) (fe_5_5_2 : end_1o5 = end_2o5) (fe_5_6_2 : next_1o5 = next_2o5) (fe_5_8_2 : begin_1o5 = begin_2o5) (fe_0_0_3 : nodes_2 = nodes_3) (fe_0_1_3 : edges_2 = edges_3) (fe_0_2_3 : groups_2 = groups_3) (fe_5_5_3 : end_2o5 = end_3o5) (fe_5_6_3 : next_2o5 = next_3o5) (fe_5_8_3 : begin_2o5 = begin_3o5) (fe_0_0_4 : nodes_3 = nodes_4) (fe_0_1_4 : edges_3 = edges_4) (fe_0_2_4 : groups_3 = groups_4) (fe_5_5_4 : end_3o5 = end_4o5) (fe_5_6_4 : next_3o5 = next_4o5) (fe_5_8_4 : begin_3o5 = begin_4o5) (fe_0_0_5 : nodes_4 = nodes_5) (fe_0_1_5 : edges_4 = edges_5) (fe_0_2_5 : groups_4 = groups_5) (fe_5_5_5 : end_4o5 = end_5o5) (fe_5_6_5 : next_4o5 = next_5o5) (fe_5_8_5 : begin_4o5 = begin_5o5) (hE_0_3_1 : ∀ j : Int, name_0 j = name_1 j) (hE_0_3_2 : ∀ j : Int, name_1 j = name_2 j) (hE_0_3_3 : ∀ j : Int, name_2 j = name_3 j) (hE_0_3_4 : ∀ j : Int, name_3 j = name_4 j) (hE_0_3_5 : ∀ j : Int, name_4 j = name_5 j) (hE_0_4_1 : ∀ j : Int, nameLength_0 j = nameLength_1 j) (hE_0_4_2 : ∀ j : Int, nameLength_1 j = nameLength_2 j) (hE_0_4_3 : ∀ j : Int, nameLength_2 j = nameLength_3 j) (hE_0_4_4 : ∀ j : Int, nameLength_3 j = nameLength_4 j) (hE_0_4_5 : ∀ j : Int, nameLength_4 j = nameLength_5 j) (hE_0_7_1 : ∀ j : Int, tail_0 j = tail_1 j) (hE_0_7_2 : ∀ j : Int, tail_1 j = tail_2 j) (hE_0_7_3 : ∀ j : Int, tail_2 j = tail_3 j) (hE_0_7_4 : ∀ j : Int, tail_3 j = tail_4 j) (hE_0_7_5 : ∀ j : Int, 0 ≤ j → (j = x4 → tail_4 j = x1) ∧ (j ≠ x4 → tail_4 j = tail_5 j)) (hE_0_8_1 : ∀ j : Int, head_0 j = head_1 j) (hE_0_8_2 : ∀ j : Int, head_1 j = head_2 j) (hE_0_8_3 : ∀ j : Int, head_2 j = head_3 j) (hE_0_8_4 : ∀ j : Int, 0 ≤ j → (j = x4 → head_3 j = x2) ∧ (j ≠ x4 → head_3 j = head_4 j)) (hE_0_8_5 : ∀ j : Int, head_4 j = head_5 j) (hE_0_9_1 : ∀ j : Int, weight_0 j = weight_1 j) (hE_0_9_2 : ∀ j : Int, weight_1 j = weight_2 j) (hE_0_9_4 : ∀ j : Int, weight_3 j = weight_4 j) (hE_0_9_5 : ∀ j : Int, weight_4 j = weight_5 j) (hE_0_10_1 : ∀ j : Int, oneWay_0 j = oneWay_1 j) (hE_0_10_3 : ∀ j : Int, oneWay_2 j = oneWay_3 j) (hE_0_10_4 : ∀ j : Int, oneWay_3 j = oneWay_4 j) (hE_0_10_5 : ∀ j : Int, oneWay_4 j = oneWay_5 j) (hE_0_14_1 : ∀ j : Int, near_0 j = near_1 j) (hE_0_14_2 : ∀ j : Int, near_1 j = near_2 j) (hE_0_14_3 : ∀ j : Int, near_2 j = near_3 j) (hE_0_14_4 : ∀ j : Int, near_3 j = near_4 j) (hE_0_14_5 : ∀ j : Int, near_4 j = near_5 j) (hE_0_15_1 : ∀ j : Int, link_0 j = link_1 j) (hE_0_15_2 : ∀ j : Int, link_1 j = link_2 j) (hE_0_15_3 : ∀ j : Int, link_2 j = link_3 j) (hE_0_15_4 : ∀ j : Int, link_3 j = link_4 j) (hE_0_15_5 : ∀ j : Int, link_4 j = link_5 j) (hE_5_0_1 : ∀ j : Int, tape_0o5 j = tape_1o5 j) (hE_5_0_2 : ∀ j : Int, tape_1o5 j = tape_2o5 j) (hE_5_0_3 : ∀ j : Int, tape_2o5 j = tape_3o5 j) (hE_5_0_4 : ∀ j : Int, tape_3o5 j = tape_4o5 j) (hE_5_0_5 : ∀ j : Int, tape_4o5 j = tape_5o5 j) (kz_0_0 : 0 ≤ nodes_0 ∧ nodes_0 ≤ 24) (kz_0_2 : 0 ≤ groups_0 ∧ groups_0 ≤ 8) (kz_5_5 : 0 ≤ end_0o5 ∧ end_0o5 ≤ 2000) (kz_5_6 : 0 ≤ next_0o5 ∧ next_0o5 ≤ 2000) (kz_5_8 : 0 ≤ begin_0o5 ∧ begin_0o5 ≤ 2000) : GNK (nodes_0) (near_0) (tail_0) (head_0) (x4) := by
  subst fe_0_0_1
  subst fe_0_2_1
  subst fe_5_5_1
  subst fe_5_6_1
  subst fe_5_8_1
  subst fe_0_0_2
  subst fe_0_1_2
  subst fe_0_2_2
  subst fe_5_5_2
  subst fe_5_6_2
  subst fe_5_8_2
  subst fe_0_0_3
  subst fe_0_1_3
  subst fe_0_2_3
  subst fe_5_5_3
  subst fe_5_6_3
  subst fe_5_8_3
  subst fe_0_0_4
  subst fe_0_1_4
  subst fe_0_2_4
  subst fe_5_5_4
  subst fe_5_6_4
  subst fe_5_8_4
  subst fe_0_0_5
  subst fe_0_1_5
  subst fe_0_2_5
  subst fe_5_5_5
  subst fe_5_6_5
  subst fe_5_8_5
  have e_hE_0_3_1 := funext hE_0_3_1; subst e_hE_0_3_1
  have e_hE_0_3_2 := funext hE_0_3_2; subst e_hE_0_3_2
  have e_hE_0_3_3 := funext hE_0_3_3; subst e_hE_0_3_3
  have e_hE_0_3_4 := funext hE_0_3_4; subst e_hE_0_3_4
  have e_hE_0_3_5 := funext hE_0_3_5; subst e_hE_0_3_5
  have e_hE_0_4_1 := funext hE_0_4_1; subst e_hE_0_4_1
  have e_hE_0_4_2 := funext hE_0_4_2; subst e_hE_0_4_2
  have e_hE_0_4_3 := funext hE_0_4_3; subst e_hE_0_4_3
  have e_hE_0_4_4 := funext hE_0_4_4; subst e_hE_0_4_4
  have e_hE_0_4_5 := funext hE_0_4_5; subst e_hE_0_4_5
  have e_hE_0_7_1 := funext hE_0_7_1; subst e_hE_0_7_1
  have e_hE_0_7_2 := funext hE_0_7_2; subst e_hE_0_7_2
  have e_hE_0_7_3 := funext hE_0_7_3; subst e_hE_0_7_3
  have e_hE_0_7_4 := funext hE_0_7_4; subst e_hE_0_7_4
  have e_hE_0_8_1 := funext hE_0_8_1; subst e_hE_0_8_1
  have e_hE_0_8_2 := funext hE_0_8_2; subst e_hE_0_8_2
  have e_hE_0_8_3 := funext hE_0_8_3; subst e_hE_0_8_3
  have e_hE_0_8_5 := funext hE_0_8_5; subst e_hE_0_8_5
  have e_hE_0_9_1 := funext hE_0_9_1; subst e_hE_0_9_1
  have e_hE_0_9_2 := funext hE_0_9_2; subst e_hE_0_9_2
  have e_hE_0_9_4 := funext hE_0_9_4; subst e_hE_0_9_4
  have e_hE_0_9_5 := funext hE_0_9_5; subst e_hE_0_9_5
  have e_hE_0_10_1 := funext hE_0_10_1; subst e_hE_0_10_1
  have e_hE_0_10_3 := funext hE_0_10_3; subst e_hE_0_10_3
  have e_hE_0_10_4 := funext hE_0_10_4; subst e_hE_0_10_4
  have e_hE_0_10_5 := funext hE_0_10_5; subst e_hE_0_10_5
  have e_hE_0_14_1 := funext hE_0_14_1; subst e_hE_0_14_1
  have e_hE_0_14_2 := funext hE_0_14_2; subst e_hE_0_14_2
  have e_hE_0_14_3 := funext hE_0_14_3; subst e_hE_0_14_3
  have e_hE_0_14_4 := funext hE_0_14_4; subst e_hE_0_14_4
  have e_hE_0_14_5 := funext hE_0_14_5; subst e_hE_0_14_5
  have e_hE_0_15_1 := funext hE_0_15_1; subst e_hE_0_15_1
  have e_hE_0_15_2 := funext hE_0_15_2; subst e_hE_0_15_2
  have e_hE_0_15_3 := funext hE_0_15_3; subst e_hE_0_15_3
  have e_hE_0_15_4 := funext hE_0_15_4; subst e_hE_0_15_4
  have e_hE_0_15_5 := funext hE_0_15_5; subst e_hE_0_15_5
  have e_hE_5_0_1 := funext hE_5_0_1; subst e_hE_5_0_1
  have e_hE_5_0_2 := funext hE_5_0_2; subst e_hE_5_0_2
  have e_hE_5_0_3 := funext hE_5_0_3; subst e_hE_5_0_3
  have e_hE_5_0_4 := funext hE_5_0_4; subst e_hE_5_0_4
  have e_hE_5_0_5 := funext hE_5_0_5; subst e_hE_5_0_5
  first
    | exact gnk_edge ‹GNB _ _ _ _ _› (by omega) hE_0_7_5 (by omega) hE_0_8_4 (by omega) (by omega)
set_option maxHeartbeats 4000000 in
theorem vc_Gr_addEdge_at_Gq_0_2 (x1 : Int) (x2 : Int) (x4 : Int) (x13 : Int) (edges_0 : Int) (nodes_0 : Int) (edges_1 : Int) (nodes_1 : Int) (nodes_2 : Int) (edges_2 : Int) (nodes_3 : Int) (edges_3 : Int) (nodes_4 : Int) (edges_4 : Int) (near_5 : Int → Int) (tail_5 : Int → Int) (head_5 : Int → Int) (nodes_5 : Int) (edges_5 : Int) (tape_5o5 : Int → Int) (nameLength_5 : Int → Int) (name_5 : Int → Int) (end_5o5 : Int) (next_5o5 : Int) (begin_5o5 : Int) (groups_5 : Int) (link_5 : Int → Int) (groups_0 : Int) (groups_1 : Int) (end_0o5 : Int) (end_1o5 : Int) (next_0o5 : Int) (next_1o5 : Int) (begin_0o5 : Int) (begin_1o5 : Int) (groups_2 : Int) (end_2o5 : Int) (next_2o5 : Int) (begin_2o5 : Int) (groups_3 : Int) (end_3o5 : Int) (next_3o5 : Int) (begin_3o5 : Int) (groups_4 : Int) (end_4o5 : Int) (next_4o5 : Int) (begin_4o5 : Int) (name_0 : Int → Int) (name_1 : Int → Int) (name_2 : Int → Int) (name_3 : Int → Int) (name_4 : Int → Int) (nameLength_0 : Int → Int) (nameLength_1 : Int → Int) (nameLength_2 : Int → Int) (nameLength_3 : Int → Int) (nameLength_4 : Int → Int) (tail_0 : Int → Int) (tail_1 : Int → Int) (tail_2 : Int → Int) (tail_3 : Int → Int) (tail_4 : Int → Int) (head_0 : Int → Int) (head_1 : Int → Int) (head_2 : Int → Int) (head_3 : Int → Int) (head_4 : Int → Int) (weight_0 : Int → Int) (weight_1 : Int → Int) (weight_2 : Int → Int) (weight_3 : Int → Int) (weight_4 : Int → Int) (weight_5 : Int → Int) (oneWay_0 : Int → Int) (oneWay_1 : Int → Int) (oneWay_2 : Int → Int) (oneWay_3 : Int → Int) (oneWay_4 : Int → Int) (oneWay_5 : Int → Int) (near_0 : Int → Int) (near_1 : Int → Int) (near_2 : Int → Int) (near_3 : Int → Int) (near_4 : Int → Int) (link_0 : Int → Int) (link_1 : Int → Int) (link_2 : Int → Int) (link_3 : Int → Int) (link_4 : Int → Int) (tape_0o5 : Int → Int) (tape_1o5 : Int → Int) (tape_2o5 : Int → Int) (tape_3o5 : Int → Int) (tape_4o5 : Int → Int) (k1 : 0 ≤ x1 ∧ x1 ≤ 23) (k2 : 0 ≤ x2 ∧ x2 ≤ 23) (k4 : 0 ≤ x4 ∧ x4 ≤ 47) (k13 : 1 ≤ x13 ∧ x13 ≤ 48) (d0 : x4 + 1 ≤ x13 ∧ x13 ≤ x4 + 1) (g0 : x13 = edges_0) (f5 : (0 ≤ x1) ∧ (((x1 + 1) ≤ nodes_0) ∧ ((0 ≤ x2) ∧ (((x2 + 1) ≤ nodes_0) ∧ (((x1 + 1) ≤ x2) ∨ ((x2 + 1) ≤ x1)))))) (g8 : x4 = edges_1) (f26 : GKE (nodes_5) (edges_5) (tail_5) (head_5)) (f27 : (0 ≤ x1) ∧ (((x1 + 1) ≤ nodes_5) ∧ ((0 ≤ x2) ∧ (((x2 + 1) ≤ nodes_5) ∧ (((x1 + 1) ≤ x2) ∨ ((x2 + 1) ≤ x1)))))) (fe_0_0_1 : nodes_0 = nodes_1) (fe_0_2_1 : groups_0 = groups_1) (fe_5_5_1 : end_0o5 = end_1o5) (fe_5_6_1 : next_0o5 = next_1o5) (fe_5_8_1 : begin_0o5 = begin_1o5) (fe_0_0_2 : nodes_1 = nodes_2) (fe_0_1_2 : edges_1 = edges_2) (fe_0_2_2 : groups_1 = groups_2) (fe_5_5_2 : end_1o5 = end_2o5) (fe_5_6_2 : next_1o5 = next_2o5) (fe_5_8_2 : begin_1o5 = begin_2o5) (fe_0_0_3 : nodes_2 = nodes_3) (fe_0_1_3 : edges_2 = edges_3) (fe_0_2_3 : groups_2 = groups_3) (fe_5_5_3 : end_2o5 = end_3o5) (fe_5_6_3 : next_2o5 = next_3o5) (fe_5_8_3 : begin_2o5 = begin_3o5) (fe_0_0_4 : nodes_3 = nodes_4) (fe_0_1_4 : edges_3 = edges_4) (fe_0_2_4 : groups_3 = groups_4) (fe_5_5_4 : end_3o5 = end_4o5) (fe_5_6_4 : next_3o5 = next_4o5) (fe_5_8_4 : begin_3o5 = begin_4o5) (fe_0_0_5 : nodes_4 = nodes_5) (fe_0_1_5 : edges_4 = edges_5) (fe_0_2_5 : groups_4 = groups_5) (fe_5_5_5 : end_4o5 = end_5o5) (fe_5_6_5 : next_4o5 = next_5o5) (fe_5_8_5 : begin_4o5 = begin_5o5) (hE_0_3_1 : ∀ j : Int, name_0 j = name_1 j) (hE_0_3_2 : ∀ j : Int, name_1 j = name_2 j) (hE_0_3_3 : ∀ j : Int, name_2 j = name_3 j) (hE_0_3_4 : ∀ j : Int, name_3 j = name_4 j) (hE_0_3_5 : ∀ j : Int, name_4 j = name_5 j) (hE_0_4_1 : ∀ j : Int, nameLength_0 j = nameLength_1 j) (hE_0_4_2 : ∀ j : Int, nameLength_1 j = nameLength_2 j) (hE_0_4_3 : ∀ j : Int, nameLength_2 j = nameLength_3 j) (hE_0_4_4 : ∀ j : Int, nameLength_3 j = nameLength_4 j) (hE_0_4_5 : ∀ j : Int, nameLength_4 j = nameLength_5 j) (hE_0_7_1 : ∀ j : Int, tail_0 j = tail_1 j) (hE_0_7_2 : ∀ j : Int, tail_1 j = tail_2 j) (hE_0_7_3 : ∀ j : Int, tail_2 j = tail_3 j) (hE_0_7_4 : ∀ j : Int, tail_3 j = tail_4 j) (hE_0_7_5 : ∀ j : Int, 0 ≤ j → (j = x4 → tail_4 j = x1) ∧ (j ≠ x4 → tail_4 j = tail_5 j)) (hE_0_8_1 : ∀ j : Int, head_0 j = head_1 j) (hE_0_8_2 : ∀ j : Int, head_1 j = head_2 j) (hE_0_8_3 : ∀ j : Int, head_2 j = head_3 j) (hE_0_8_4 : ∀ j : Int, 0 ≤ j → (j = x4 → head_3 j = x2) ∧ (j ≠ x4 → head_3 j = head_4 j)) (hE_0_8_5 : ∀ j : Int, head_4 j = head_5 j) (hE_0_9_1 : ∀ j : Int, weight_0 j = weight_1 j) (hE_0_9_2 : ∀ j : Int, weight_1 j = weight_2 j) (hE_0_9_4 : ∀ j : Int, weight_3 j = weight_4 j) (hE_0_9_5 : ∀ j : Int, weight_4 j = weight_5 j) (hE_0_10_1 : ∀ j : Int, oneWay_0 j = oneWay_1 j) (hE_0_10_3 : ∀ j : Int, oneWay_2 j = oneWay_3 j) (hE_0_10_4 : ∀ j : Int, oneWay_3 j = oneWay_4 j) (hE_0_10_5 : ∀ j : Int, oneWay_4 j = oneWay_5 j) (hE_0_14_1 : ∀ j : Int, near_0 j = near_1 j) (hE_0_14_2 : ∀ j : Int, near_1 j = near_2 j) (hE_0_14_3 : ∀ j : Int, near_2 j = near_3 j) (hE_0_14_4 : ∀ j : Int, near_3 j = near_4 j) (hE_0_14_5 : ∀ j : Int, near_4 j = near_5 j) (hE_0_15_1 : ∀ j : Int, link_0 j = link_1 j) (hE_0_15_2 : ∀ j : Int, link_1 j = link_2 j) (hE_0_15_3 : ∀ j : Int, link_2 j = link_3 j) (hE_0_15_4 : ∀ j : Int, link_3 j = link_4 j) (hE_0_15_5 : ∀ j : Int, link_4 j = link_5 j) (hE_5_0_1 : ∀ j : Int, tape_0o5 j = tape_1o5 j) (hE_5_0_2 : ∀ j : Int, tape_1o5 j = tape_2o5 j) (hE_5_0_3 : ∀ j : Int, tape_2o5 j = tape_3o5 j) (hE_5_0_4 : ∀ j : Int, tape_3o5 j = tape_4o5 j) (hE_5_0_5 : ∀ j : Int, tape_4o5 j = tape_5o5 j) (kz_0_0 : 0 ≤ nodes_0 ∧ nodes_0 ≤ 24) (kz_0_1 : 0 ≤ edges_0 ∧ edges_0 ≤ 48) (kz_0_2 : 0 ≤ groups_0 ∧ groups_0 ≤ 8) (kz_5_5 : 0 ≤ end_0o5 ∧ end_0o5 ≤ 2000) (kz_5_6 : 0 ≤ next_0o5 ∧ next_0o5 ≤ 2000) (kz_5_8 : 0 ≤ begin_0o5 ∧ begin_0o5 ≤ 2000) : GKE (nodes_0) (edges_0) (tail_0) (head_0) := by
  subst fe_0_0_1
  subst fe_0_2_1
  subst fe_5_5_1
  subst fe_5_6_1
  subst fe_5_8_1
  subst fe_0_0_2
  subst fe_0_1_2
  subst fe_0_2_2
  subst fe_5_5_2
  subst fe_5_6_2
  subst fe_5_8_2
  subst fe_0_0_3
  subst fe_0_1_3
  subst fe_0_2_3
  subst fe_5_5_3
  subst fe_5_6_3
  subst fe_5_8_3
  subst fe_0_0_4
  subst fe_0_1_4
  subst fe_0_2_4
  subst fe_5_5_4
  subst fe_5_6_4
  subst fe_5_8_4
  subst fe_0_0_5
  subst fe_0_1_5
  subst fe_0_2_5
  subst fe_5_5_5
  subst fe_5_6_5
  subst fe_5_8_5
  have e_hE_0_3_1 := funext hE_0_3_1; subst e_hE_0_3_1
  have e_hE_0_3_2 := funext hE_0_3_2; subst e_hE_0_3_2
  have e_hE_0_3_3 := funext hE_0_3_3; subst e_hE_0_3_3
  have e_hE_0_3_4 := funext hE_0_3_4; subst e_hE_0_3_4
  have e_hE_0_3_5 := funext hE_0_3_5; subst e_hE_0_3_5
  have e_hE_0_4_1 := funext hE_0_4_1; subst e_hE_0_4_1
  have e_hE_0_4_2 := funext hE_0_4_2; subst e_hE_0_4_2
  have e_hE_0_4_3 := funext hE_0_4_3; subst e_hE_0_4_3
  have e_hE_0_4_4 := funext hE_0_4_4; subst e_hE_0_4_4
  have e_hE_0_4_5 := funext hE_0_4_5; subst e_hE_0_4_5
  have e_hE_0_7_1 := funext hE_0_7_1; subst e_hE_0_7_1
  have e_hE_0_7_2 := funext hE_0_7_2; subst e_hE_0_7_2
  have e_hE_0_7_3 := funext hE_0_7_3; subst e_hE_0_7_3
  have e_hE_0_7_4 := funext hE_0_7_4; subst e_hE_0_7_4
  have e_hE_0_8_1 := funext hE_0_8_1; subst e_hE_0_8_1
  have e_hE_0_8_2 := funext hE_0_8_2; subst e_hE_0_8_2
  have e_hE_0_8_3 := funext hE_0_8_3; subst e_hE_0_8_3
  have e_hE_0_8_5 := funext hE_0_8_5; subst e_hE_0_8_5
  have e_hE_0_9_1 := funext hE_0_9_1; subst e_hE_0_9_1
  have e_hE_0_9_2 := funext hE_0_9_2; subst e_hE_0_9_2
  have e_hE_0_9_4 := funext hE_0_9_4; subst e_hE_0_9_4
  have e_hE_0_9_5 := funext hE_0_9_5; subst e_hE_0_9_5
  have e_hE_0_10_1 := funext hE_0_10_1; subst e_hE_0_10_1
  have e_hE_0_10_3 := funext hE_0_10_3; subst e_hE_0_10_3
  have e_hE_0_10_4 := funext hE_0_10_4; subst e_hE_0_10_4
  have e_hE_0_10_5 := funext hE_0_10_5; subst e_hE_0_10_5
  have e_hE_0_14_1 := funext hE_0_14_1; subst e_hE_0_14_1
  have e_hE_0_14_2 := funext hE_0_14_2; subst e_hE_0_14_2
  have e_hE_0_14_3 := funext hE_0_14_3; subst e_hE_0_14_3
  have e_hE_0_14_4 := funext hE_0_14_4; subst e_hE_0_14_4
  have e_hE_0_14_5 := funext hE_0_14_5; subst e_hE_0_14_5
  have e_hE_0_15_1 := funext hE_0_15_1; subst e_hE_0_15_1
  have e_hE_0_15_2 := funext hE_0_15_2; subst e_hE_0_15_2
  have e_hE_0_15_3 := funext hE_0_15_3; subst e_hE_0_15_3
  have e_hE_0_15_4 := funext hE_0_15_4; subst e_hE_0_15_4
  have e_hE_0_15_5 := funext hE_0_15_5; subst e_hE_0_15_5
  have e_hE_5_0_1 := funext hE_5_0_1; subst e_hE_5_0_1
  have e_hE_5_0_2 := funext hE_5_0_2; subst e_hE_5_0_2
  have e_hE_5_0_3 := funext hE_5_0_3; subst e_hE_5_0_3
  have e_hE_5_0_4 := funext hE_5_0_4; subst e_hE_5_0_4
  have e_hE_5_0_5 := funext hE_5_0_5; subst e_hE_5_0_5
  first
    | exact gke_edge ‹GKE _ _ _ _› (by omega) (by omega) (by omega) (by omega) (by omega) hE_0_7_5 (by omega) hE_0_8_4 (by omega) (by omega)
set_option maxHeartbeats 4000000 in
theorem vc_Gr_addEdge_at_Gq_0_3 (x1 : Int) (x2 : Int) (x4 : Int) (x13 : Int) (edges_0 : Int) (nodes_0 : Int) (edges_1 : Int) (nodes_1 : Int) (nodes_2 : Int) (edges_2 : Int) (nodes_3 : Int) (edges_3 : Int) (nodes_4 : Int) (edges_4 : Int) (near_5 : Int → Int) (tail_5 : Int → Int) (head_5 : Int → Int) (nodes_5 : Int) (edges_5 : Int) (tape_5o5 : Int → Int) (nameLength_5 : Int → Int) (name_5 : Int → Int) (end_5o5 : Int) (next_5o5 : Int) (begin_5o5 : Int) (groups_5 : Int) (link_5 : Int → Int) (groups_0 : Int) (groups_1 : Int) (end_0o5 : Int) (end_1o5 : Int) (next_0o5 : Int) (next_1o5 : Int) (begin_0o5 : Int) (begin_1o5 : Int) (groups_2 : Int) (end_2o5 : Int) (next_2o5 : Int) (begin_2o5 : Int) (groups_3 : Int) (end_3o5 : Int) (next_3o5 : Int) (begin_3o5 : Int) (groups_4 : Int) (end_4o5 : Int) (next_4o5 : Int) (begin_4o5 : Int) (name_0 : Int → Int) (name_1 : Int → Int) (name_2 : Int → Int) (name_3 : Int → Int) (name_4 : Int → Int) (nameLength_0 : Int → Int) (nameLength_1 : Int → Int) (nameLength_2 : Int → Int) (nameLength_3 : Int → Int) (nameLength_4 : Int → Int) (tail_0 : Int → Int) (tail_1 : Int → Int) (tail_2 : Int → Int) (tail_3 : Int → Int) (tail_4 : Int → Int) (head_0 : Int → Int) (head_1 : Int → Int) (head_2 : Int → Int) (head_3 : Int → Int) (head_4 : Int → Int) (weight_0 : Int → Int) (weight_1 : Int → Int) (weight_2 : Int → Int) (weight_3 : Int → Int) (weight_4 : Int → Int) (weight_5 : Int → Int) (oneWay_0 : Int → Int) (oneWay_1 : Int → Int) (oneWay_2 : Int → Int) (oneWay_3 : Int → Int) (oneWay_4 : Int → Int) (oneWay_5 : Int → Int) (near_0 : Int → Int) (near_1 : Int → Int) (near_2 : Int → Int) (near_3 : Int → Int) (near_4 : Int → Int) (link_0 : Int → Int) (link_1 : Int → Int) (link_2 : Int → Int) (link_3 : Int → Int) (link_4 : Int → Int) (tape_0o5 : Int → Int) (tape_1o5 : Int → Int) (tape_2o5 : Int → Int) (tape_3o5 : Int → Int) (tape_4o5 : Int → Int) (k1 : 0 ≤ x1 ∧ x1 ≤ 23) (k2 : 0 ≤ x2 ∧ x2 ≤ 23) (k4 : 0 ≤ x4 ∧ x4 ≤ 47) (k13 : 1 ≤ x13 ∧ x13 ≤ 48) (d0 : x4 + 1 ≤ x13 ∧ x13 ≤ x4 + 1) (g0 : x13 = edges_0) (g8 : x4 = edges_1) (f28 : CEA (end_5o5) (next_5o5) (begin_5o5) (nodes_5) (edges_5) (groups_5) (tape_5o5) (nameLength_5) (name_5) (tail_5) (head_5) (x1) (x2)) (fe_0_0_1 : nodes_0 = nodes_1) (fe_0_2_1 : groups_0 = groups_1) (fe_5_5_1 : end_0o5 = end_1o5) (fe_5_6_1 : next_0o5 = next_1o5) (fe_5_8_1 : begin_0o5 = begin_1o5) (fe_0_0_2 : nodes_1 = nodes_2) (fe_0_1_2 : edges_1 = edges_2) (fe_0_2_2 : groups_1 = groups_2) (fe_5_5_2 : end_1o5 = end_2o5) (fe_5_6_2 : next_1o5 = next_2o5) (fe_5_8_2 : begin_1o5 = begin_2o5) (fe_0_0_3 : nodes_2 = nodes_3) (fe_0_1_3 : edges_2 = edges_3) (fe_0_2_3 : groups_2 = groups_3) (fe_5_5_3 : end_2o5 = end_3o5) (fe_5_6_3 : next_2o5 = next_3o5) (fe_5_8_3 : begin_2o5 = begin_3o5) (fe_0_0_4 : nodes_3 = nodes_4) (fe_0_1_4 : edges_3 = edges_4) (fe_0_2_4 : groups_3 = groups_4) (fe_5_5_4 : end_3o5 = end_4o5) (fe_5_6_4 : next_3o5 = next_4o5) (fe_5_8_4 : begin_3o5 = begin_4o5) (fe_0_0_5 : nodes_4 = nodes_5) (fe_0_1_5 : edges_4 = edges_5) (fe_0_2_5 : groups_4 = groups_5) (fe_5_5_5 : end_4o5 = end_5o5) (fe_5_6_5 : next_4o5 = next_5o5) (fe_5_8_5 : begin_4o5 = begin_5o5) (hE_0_3_1 : ∀ j : Int, name_0 j = name_1 j) (hE_0_3_2 : ∀ j : Int, name_1 j = name_2 j) (hE_0_3_3 : ∀ j : Int, name_2 j = name_3 j) (hE_0_3_4 : ∀ j : Int, name_3 j = name_4 j) (hE_0_3_5 : ∀ j : Int, name_4 j = name_5 j) (hE_0_4_1 : ∀ j : Int, nameLength_0 j = nameLength_1 j) (hE_0_4_2 : ∀ j : Int, nameLength_1 j = nameLength_2 j) (hE_0_4_3 : ∀ j : Int, nameLength_2 j = nameLength_3 j) (hE_0_4_4 : ∀ j : Int, nameLength_3 j = nameLength_4 j) (hE_0_4_5 : ∀ j : Int, nameLength_4 j = nameLength_5 j) (hE_0_7_1 : ∀ j : Int, tail_0 j = tail_1 j) (hE_0_7_2 : ∀ j : Int, tail_1 j = tail_2 j) (hE_0_7_3 : ∀ j : Int, tail_2 j = tail_3 j) (hE_0_7_4 : ∀ j : Int, tail_3 j = tail_4 j) (hE_0_7_5 : ∀ j : Int, 0 ≤ j → (j = x4 → tail_4 j = x1) ∧ (j ≠ x4 → tail_4 j = tail_5 j)) (hE_0_8_1 : ∀ j : Int, head_0 j = head_1 j) (hE_0_8_2 : ∀ j : Int, head_1 j = head_2 j) (hE_0_8_3 : ∀ j : Int, head_2 j = head_3 j) (hE_0_8_4 : ∀ j : Int, 0 ≤ j → (j = x4 → head_3 j = x2) ∧ (j ≠ x4 → head_3 j = head_4 j)) (hE_0_8_5 : ∀ j : Int, head_4 j = head_5 j) (hE_0_9_1 : ∀ j : Int, weight_0 j = weight_1 j) (hE_0_9_2 : ∀ j : Int, weight_1 j = weight_2 j) (hE_0_9_4 : ∀ j : Int, weight_3 j = weight_4 j) (hE_0_9_5 : ∀ j : Int, weight_4 j = weight_5 j) (hE_0_10_1 : ∀ j : Int, oneWay_0 j = oneWay_1 j) (hE_0_10_3 : ∀ j : Int, oneWay_2 j = oneWay_3 j) (hE_0_10_4 : ∀ j : Int, oneWay_3 j = oneWay_4 j) (hE_0_10_5 : ∀ j : Int, oneWay_4 j = oneWay_5 j) (hE_0_14_1 : ∀ j : Int, near_0 j = near_1 j) (hE_0_14_2 : ∀ j : Int, near_1 j = near_2 j) (hE_0_14_3 : ∀ j : Int, near_2 j = near_3 j) (hE_0_14_4 : ∀ j : Int, near_3 j = near_4 j) (hE_0_14_5 : ∀ j : Int, near_4 j = near_5 j) (hE_0_15_1 : ∀ j : Int, link_0 j = link_1 j) (hE_0_15_2 : ∀ j : Int, link_1 j = link_2 j) (hE_0_15_3 : ∀ j : Int, link_2 j = link_3 j) (hE_0_15_4 : ∀ j : Int, link_3 j = link_4 j) (hE_0_15_5 : ∀ j : Int, link_4 j = link_5 j) (hE_5_0_1 : ∀ j : Int, tape_0o5 j = tape_1o5 j) (hE_5_0_2 : ∀ j : Int, tape_1o5 j = tape_2o5 j) (hE_5_0_3 : ∀ j : Int, tape_2o5 j = tape_3o5 j) (hE_5_0_4 : ∀ j : Int, tape_3o5 j = tape_4o5 j) (hE_5_0_5 : ∀ j : Int, tape_4o5 j = tape_5o5 j) (kz_0_0 : 0 ≤ nodes_0 ∧ nodes_0 ≤ 24) (kz_0_1 : 0 ≤ edges_0 ∧ edges_0 ≤ 48) (kz_0_2 : 0 ≤ groups_0 ∧ groups_0 ≤ 8) (kz_5_5 : 0 ≤ end_0o5 ∧ end_0o5 ≤ 2000) (kz_5_6 : 0 ≤ next_0o5 ∧ next_0o5 ≤ 2000) (kz_5_8 : 0 ≤ begin_0o5 ∧ begin_0o5 ≤ 2000) : CEB (end_0o5) (next_0o5) (begin_0o5) (nodes_0) (edges_0) (groups_0) (tape_0o5) (nameLength_0) (name_0) (tail_0) (head_0) (x1) (x2) := by
  subst fe_0_0_1
  subst fe_0_2_1
  subst fe_5_5_1
  subst fe_5_6_1
  subst fe_5_8_1
  subst fe_0_0_2
  subst fe_0_1_2
  subst fe_0_2_2
  subst fe_5_5_2
  subst fe_5_6_2
  subst fe_5_8_2
  subst fe_0_0_3
  subst fe_0_1_3
  subst fe_0_2_3
  subst fe_5_5_3
  subst fe_5_6_3
  subst fe_5_8_3
  subst fe_0_0_4
  subst fe_0_1_4
  subst fe_0_2_4
  subst fe_5_5_4
  subst fe_5_6_4
  subst fe_5_8_4
  subst fe_0_0_5
  subst fe_0_1_5
  subst fe_0_2_5
  subst fe_5_5_5
  subst fe_5_6_5
  subst fe_5_8_5
  have e_hE_0_3_1 := funext hE_0_3_1; subst e_hE_0_3_1
  have e_hE_0_3_2 := funext hE_0_3_2; subst e_hE_0_3_2
  have e_hE_0_3_3 := funext hE_0_3_3; subst e_hE_0_3_3
  have e_hE_0_3_4 := funext hE_0_3_4; subst e_hE_0_3_4
  have e_hE_0_3_5 := funext hE_0_3_5; subst e_hE_0_3_5
  have e_hE_0_4_1 := funext hE_0_4_1; subst e_hE_0_4_1
  have e_hE_0_4_2 := funext hE_0_4_2; subst e_hE_0_4_2
  have e_hE_0_4_3 := funext hE_0_4_3; subst e_hE_0_4_3
  have e_hE_0_4_4 := funext hE_0_4_4; subst e_hE_0_4_4
  have e_hE_0_4_5 := funext hE_0_4_5; subst e_hE_0_4_5
  have e_hE_0_7_1 := funext hE_0_7_1; subst e_hE_0_7_1
  have e_hE_0_7_2 := funext hE_0_7_2; subst e_hE_0_7_2
  have e_hE_0_7_3 := funext hE_0_7_3; subst e_hE_0_7_3
  have e_hE_0_7_4 := funext hE_0_7_4; subst e_hE_0_7_4
  have e_hE_0_8_1 := funext hE_0_8_1; subst e_hE_0_8_1
  have e_hE_0_8_2 := funext hE_0_8_2; subst e_hE_0_8_2
  have e_hE_0_8_3 := funext hE_0_8_3; subst e_hE_0_8_3
  have e_hE_0_8_5 := funext hE_0_8_5; subst e_hE_0_8_5
  have e_hE_0_9_1 := funext hE_0_9_1; subst e_hE_0_9_1
  have e_hE_0_9_2 := funext hE_0_9_2; subst e_hE_0_9_2
  have e_hE_0_9_4 := funext hE_0_9_4; subst e_hE_0_9_4
  have e_hE_0_9_5 := funext hE_0_9_5; subst e_hE_0_9_5
  have e_hE_0_10_1 := funext hE_0_10_1; subst e_hE_0_10_1
  have e_hE_0_10_3 := funext hE_0_10_3; subst e_hE_0_10_3
  have e_hE_0_10_4 := funext hE_0_10_4; subst e_hE_0_10_4
  have e_hE_0_10_5 := funext hE_0_10_5; subst e_hE_0_10_5
  have e_hE_0_14_1 := funext hE_0_14_1; subst e_hE_0_14_1
  have e_hE_0_14_2 := funext hE_0_14_2; subst e_hE_0_14_2
  have e_hE_0_14_3 := funext hE_0_14_3; subst e_hE_0_14_3
  have e_hE_0_14_4 := funext hE_0_14_4; subst e_hE_0_14_4
  have e_hE_0_14_5 := funext hE_0_14_5; subst e_hE_0_14_5
  have e_hE_0_15_1 := funext hE_0_15_1; subst e_hE_0_15_1
  have e_hE_0_15_2 := funext hE_0_15_2; subst e_hE_0_15_2
  have e_hE_0_15_3 := funext hE_0_15_3; subst e_hE_0_15_3
  have e_hE_0_15_4 := funext hE_0_15_4; subst e_hE_0_15_4
  have e_hE_0_15_5 := funext hE_0_15_5; subst e_hE_0_15_5
  have e_hE_5_0_1 := funext hE_5_0_1; subst e_hE_5_0_1
  have e_hE_5_0_2 := funext hE_5_0_2; subst e_hE_5_0_2
  have e_hE_5_0_3 := funext hE_5_0_3; subst e_hE_5_0_3
  have e_hE_5_0_4 := funext hE_5_0_4; subst e_hE_5_0_4
  have e_hE_5_0_5 := funext hE_5_0_5; subst e_hE_5_0_5
  first | subst g0 | skip
  first | subst g8 | skip
  first
    | assumption
    | exact ce_add ‹CEA _ _ _ _ _ _ _ _ _ _ _ _ _› (by omega) (by assumption) (by assumption) (by omega) (by omega)
set_option maxHeartbeats 4000000 in
theorem vc_Gr_addEdge_at_Gq_0_4 (x1 : Int) (x2 : Int) (x4 : Int) (x13 : Int) (edges_0 : Int) (nodes_0 : Int) (edges_1 : Int) (nodes_1 : Int) (nodes_2 : Int) (edges_2 : Int) (nodes_3 : Int) (edges_3 : Int) (nodes_4 : Int) (edges_4 : Int) (near_5 : Int → Int) (tail_5 : Int → Int) (head_5 : Int → Int) (nodes_5 : Int) (edges_5 : Int) (tape_5o5 : Int → Int) (nameLength_5 : Int → Int) (name_5 : Int → Int) (end_5o5 : Int) (next_5o5 : Int) (begin_5o5 : Int) (groups_5 : Int) (link_5 : Int → Int) (groups_0 : Int) (groups_1 : Int) (end_0o5 : Int) (end_1o5 : Int) (next_0o5 : Int) (next_1o5 : Int) (begin_0o5 : Int) (begin_1o5 : Int) (groups_2 : Int) (end_2o5 : Int) (next_2o5 : Int) (begin_2o5 : Int) (groups_3 : Int) (end_3o5 : Int) (next_3o5 : Int) (begin_3o5 : Int) (groups_4 : Int) (end_4o5 : Int) (next_4o5 : Int) (begin_4o5 : Int) (name_0 : Int → Int) (name_1 : Int → Int) (name_2 : Int → Int) (name_3 : Int → Int) (name_4 : Int → Int) (nameLength_0 : Int → Int) (nameLength_1 : Int → Int) (nameLength_2 : Int → Int) (nameLength_3 : Int → Int) (nameLength_4 : Int → Int) (tail_0 : Int → Int) (tail_1 : Int → Int) (tail_2 : Int → Int) (tail_3 : Int → Int) (tail_4 : Int → Int) (head_0 : Int → Int) (head_1 : Int → Int) (head_2 : Int → Int) (head_3 : Int → Int) (head_4 : Int → Int) (weight_0 : Int → Int) (weight_1 : Int → Int) (weight_2 : Int → Int) (weight_3 : Int → Int) (weight_4 : Int → Int) (weight_5 : Int → Int) (oneWay_0 : Int → Int) (oneWay_1 : Int → Int) (oneWay_2 : Int → Int) (oneWay_3 : Int → Int) (oneWay_4 : Int → Int) (oneWay_5 : Int → Int) (near_0 : Int → Int) (near_1 : Int → Int) (near_2 : Int → Int) (near_3 : Int → Int) (near_4 : Int → Int) (link_0 : Int → Int) (link_1 : Int → Int) (link_2 : Int → Int) (link_3 : Int → Int) (link_4 : Int → Int) (tape_0o5 : Int → Int) (tape_1o5 : Int → Int) (tape_2o5 : Int → Int) (tape_3o5 : Int → Int) (tape_4o5 : Int → Int) (k1 : 0 ≤ x1 ∧ x1 ≤ 23) (k2 : 0 ≤ x2 ∧ x2 ≤ 23) (k4 : 0 ≤ x4 ∧ x4 ≤ 47) (k13 : 1 ≤ x13 ∧ x13 ≤ 48) (g0 : x13 = edges_0) (g8 : x4 = edges_1) (f29 : LKG (edges_5) (tail_5) (head_5) (link_5)) (fe_0_0_1 : nodes_0 = nodes_1) (fe_0_2_1 : groups_0 = groups_1) (fe_5_5_1 : end_0o5 = end_1o5) (fe_5_6_1 : next_0o5 = next_1o5) (fe_5_8_1 : begin_0o5 = begin_1o5) (fe_0_0_2 : nodes_1 = nodes_2) (fe_0_1_2 : edges_1 = edges_2) (fe_0_2_2 : groups_1 = groups_2) (fe_5_5_2 : end_1o5 = end_2o5) (fe_5_6_2 : next_1o5 = next_2o5) (fe_5_8_2 : begin_1o5 = begin_2o5) (fe_0_0_3 : nodes_2 = nodes_3) (fe_0_1_3 : edges_2 = edges_3) (fe_0_2_3 : groups_2 = groups_3) (fe_5_5_3 : end_2o5 = end_3o5) (fe_5_6_3 : next_2o5 = next_3o5) (fe_5_8_3 : begin_2o5 = begin_3o5) (fe_0_0_4 : nodes_3 = nodes_4) (fe_0_1_4 : edges_3 = edges_4) (fe_0_2_4 : groups_3 = groups_4) (fe_5_5_4 : end_3o5 = end_4o5) (fe_5_6_4 : next_3o5 = next_4o5) (fe_5_8_4 : begin_3o5 = begin_4o5) (fe_0_0_5 : nodes_4 = nodes_5) (fe_0_1_5 : edges_4 = edges_5) (fe_0_2_5 : groups_4 = groups_5) (fe_5_5_5 : end_4o5 = end_5o5) (fe_5_6_5 : next_4o5 = next_5o5) (fe_5_8_5 : begin_4o5 = begin_5o5) (hE_0_3_1 : ∀ j : Int, name_0 j = name_1 j) (hE_0_3_2 : ∀ j : Int, name_1 j = name_2 j) (hE_0_3_3 : ∀ j : Int, name_2 j = name_3 j) (hE_0_3_4 : ∀ j : Int, name_3 j = name_4 j) (hE_0_3_5 : ∀ j : Int, name_4 j = name_5 j) (hE_0_4_1 : ∀ j : Int, nameLength_0 j = nameLength_1 j) (hE_0_4_2 : ∀ j : Int, nameLength_1 j = nameLength_2 j) (hE_0_4_3 : ∀ j : Int, nameLength_2 j = nameLength_3 j) (hE_0_4_4 : ∀ j : Int, nameLength_3 j = nameLength_4 j) (hE_0_4_5 : ∀ j : Int, nameLength_4 j = nameLength_5 j) (hE_0_7_1 : ∀ j : Int, tail_0 j = tail_1 j) (hE_0_7_2 : ∀ j : Int, tail_1 j = tail_2 j) (hE_0_7_3 : ∀ j : Int, tail_2 j = tail_3 j) (hE_0_7_4 : ∀ j : Int, tail_3 j = tail_4 j) (hE_0_7_5 : ∀ j : Int, 0 ≤ j → (j = x4 → tail_4 j = x1) ∧ (j ≠ x4 → tail_4 j = tail_5 j)) (hE_0_8_1 : ∀ j : Int, head_0 j = head_1 j) (hE_0_8_2 : ∀ j : Int, head_1 j = head_2 j) (hE_0_8_3 : ∀ j : Int, head_2 j = head_3 j) (hE_0_8_4 : ∀ j : Int, 0 ≤ j → (j = x4 → head_3 j = x2) ∧ (j ≠ x4 → head_3 j = head_4 j)) (hE_0_8_5 : ∀ j : Int, head_4 j = head_5 j) (hE_0_9_1 : ∀ j : Int, weight_0 j = weight_1 j) (hE_0_9_2 : ∀ j : Int, weight_1 j = weight_2 j) (hE_0_9_4 : ∀ j : Int, weight_3 j = weight_4 j) (hE_0_9_5 : ∀ j : Int, weight_4 j = weight_5 j) (hE_0_10_1 : ∀ j : Int, oneWay_0 j = oneWay_1 j) (hE_0_10_3 : ∀ j : Int, oneWay_2 j = oneWay_3 j) (hE_0_10_4 : ∀ j : Int, oneWay_3 j = oneWay_4 j) (hE_0_10_5 : ∀ j : Int, oneWay_4 j = oneWay_5 j) (hE_0_14_1 : ∀ j : Int, near_0 j = near_1 j) (hE_0_14_2 : ∀ j : Int, near_1 j = near_2 j) (hE_0_14_3 : ∀ j : Int, near_2 j = near_3 j) (hE_0_14_4 : ∀ j : Int, near_3 j = near_4 j) (hE_0_14_5 : ∀ j : Int, near_4 j = near_5 j) (hE_0_15_1 : ∀ j : Int, link_0 j = link_1 j) (hE_0_15_2 : ∀ j : Int, link_1 j = link_2 j) (hE_0_15_3 : ∀ j : Int, link_2 j = link_3 j) (hE_0_15_4 : ∀ j : Int, link_3 j = link_4 j) (hE_0_15_5 : ∀ j : Int, link_4 j = link_5 j) (hE_5_0_1 : ∀ j : Int, tape_0o5 j = tape_1o5 j) (hE_5_0_2 : ∀ j : Int, tape_1o5 j = tape_2o5 j) (hE_5_0_3 : ∀ j : Int, tape_2o5 j = tape_3o5 j) (hE_5_0_4 : ∀ j : Int, tape_3o5 j = tape_4o5 j) (hE_5_0_5 : ∀ j : Int, tape_4o5 j = tape_5o5 j) (kz_0_0 : 0 ≤ nodes_0 ∧ nodes_0 ≤ 24) (kz_0_1 : 0 ≤ edges_0 ∧ edges_0 ≤ 48) (kz_0_2 : 0 ≤ groups_0 ∧ groups_0 ≤ 8) (kz_5_5 : 0 ≤ end_0o5 ∧ end_0o5 ≤ 2000) (kz_5_6 : 0 ≤ next_0o5 ∧ next_0o5 ≤ 2000) (kz_5_8 : 0 ≤ begin_0o5 ∧ begin_0o5 ≤ 2000) : LKQ (tail_0) (head_0) (link_0) (x4) := by
  subst fe_0_0_1
  subst fe_0_2_1
  subst fe_5_5_1
  subst fe_5_6_1
  subst fe_5_8_1
  subst fe_0_0_2
  subst fe_0_1_2
  subst fe_0_2_2
  subst fe_5_5_2
  subst fe_5_6_2
  subst fe_5_8_2
  subst fe_0_0_3
  subst fe_0_1_3
  subst fe_0_2_3
  subst fe_5_5_3
  subst fe_5_6_3
  subst fe_5_8_3
  subst fe_0_0_4
  subst fe_0_1_4
  subst fe_0_2_4
  subst fe_5_5_4
  subst fe_5_6_4
  subst fe_5_8_4
  subst fe_0_0_5
  subst fe_0_1_5
  subst fe_0_2_5
  subst fe_5_5_5
  subst fe_5_6_5
  subst fe_5_8_5
  have e_hE_0_3_1 := funext hE_0_3_1; subst e_hE_0_3_1
  have e_hE_0_3_2 := funext hE_0_3_2; subst e_hE_0_3_2
  have e_hE_0_3_3 := funext hE_0_3_3; subst e_hE_0_3_3
  have e_hE_0_3_4 := funext hE_0_3_4; subst e_hE_0_3_4
  have e_hE_0_3_5 := funext hE_0_3_5; subst e_hE_0_3_5
  have e_hE_0_4_1 := funext hE_0_4_1; subst e_hE_0_4_1
  have e_hE_0_4_2 := funext hE_0_4_2; subst e_hE_0_4_2
  have e_hE_0_4_3 := funext hE_0_4_3; subst e_hE_0_4_3
  have e_hE_0_4_4 := funext hE_0_4_4; subst e_hE_0_4_4
  have e_hE_0_4_5 := funext hE_0_4_5; subst e_hE_0_4_5
  have e_hE_0_7_1 := funext hE_0_7_1; subst e_hE_0_7_1
  have e_hE_0_7_2 := funext hE_0_7_2; subst e_hE_0_7_2
  have e_hE_0_7_3 := funext hE_0_7_3; subst e_hE_0_7_3
  have e_hE_0_7_4 := funext hE_0_7_4; subst e_hE_0_7_4
  have e_hE_0_8_1 := funext hE_0_8_1; subst e_hE_0_8_1
  have e_hE_0_8_2 := funext hE_0_8_2; subst e_hE_0_8_2
  have e_hE_0_8_3 := funext hE_0_8_3; subst e_hE_0_8_3
  have e_hE_0_8_5 := funext hE_0_8_5; subst e_hE_0_8_5
  have e_hE_0_9_1 := funext hE_0_9_1; subst e_hE_0_9_1
  have e_hE_0_9_2 := funext hE_0_9_2; subst e_hE_0_9_2
  have e_hE_0_9_4 := funext hE_0_9_4; subst e_hE_0_9_4
  have e_hE_0_9_5 := funext hE_0_9_5; subst e_hE_0_9_5
  have e_hE_0_10_1 := funext hE_0_10_1; subst e_hE_0_10_1
  have e_hE_0_10_3 := funext hE_0_10_3; subst e_hE_0_10_3
  have e_hE_0_10_4 := funext hE_0_10_4; subst e_hE_0_10_4
  have e_hE_0_10_5 := funext hE_0_10_5; subst e_hE_0_10_5
  have e_hE_0_14_1 := funext hE_0_14_1; subst e_hE_0_14_1
  have e_hE_0_14_2 := funext hE_0_14_2; subst e_hE_0_14_2
  have e_hE_0_14_3 := funext hE_0_14_3; subst e_hE_0_14_3
  have e_hE_0_14_4 := funext hE_0_14_4; subst e_hE_0_14_4
  have e_hE_0_14_5 := funext hE_0_14_5; subst e_hE_0_14_5
  have e_hE_0_15_1 := funext hE_0_15_1; subst e_hE_0_15_1
  have e_hE_0_15_2 := funext hE_0_15_2; subst e_hE_0_15_2
  have e_hE_0_15_3 := funext hE_0_15_3; subst e_hE_0_15_3
  have e_hE_0_15_4 := funext hE_0_15_4; subst e_hE_0_15_4
  have e_hE_0_15_5 := funext hE_0_15_5; subst e_hE_0_15_5
  have e_hE_5_0_1 := funext hE_5_0_1; subst e_hE_5_0_1
  have e_hE_5_0_2 := funext hE_5_0_2; subst e_hE_5_0_2
  have e_hE_5_0_3 := funext hE_5_0_3; subst e_hE_5_0_3
  have e_hE_5_0_4 := funext hE_5_0_4; subst e_hE_5_0_4
  have e_hE_5_0_5 := funext hE_5_0_5; subst e_hE_5_0_5
  first | subst g0 | skip
  first | subst g8 | skip
  exact lkq_ext ‹LKG _ _ _ _› (by assumption) (by assumption) (by omega) (by omega) (by omega)
set_option maxHeartbeats 4000000 in
theorem vc_Gr_addEdge_at_Gq_0_5 (x4 : Int) (x6 : Int) (x13 : Int) (edges_0 : Int) (nodes_0 : Int) (edges_1 : Int) (nodes_1 : Int) (nodes_2 : Int) (edges_2 : Int) (nodes_3 : Int) (edges_3 : Int) (nodes_4 : Int) (edges_4 : Int) (near_5 : Int → Int) (head_5 : Int → Int) (nodes_5 : Int) (edges_5 : Int) (tape_5o5 : Int → Int) (nameLength_5 : Int → Int) (name_5 : Int → Int) (end_5o5 : Int) (next_5o5 : Int) (begin_5o5 : Int) (groups_5 : Int) (link_5 : Int → Int) (groups_0 : Int) (groups_1 : Int) (end_0o5 : Int) (end_1o5 : Int) (next_0o5 : Int) (next_1o5 : Int) (begin_0o5 : Int) (begin_1o5 : Int) (groups_2 : Int) (end_2o5 : Int) (next_2o5 : Int) (begin_2o5 : Int) (groups_3 : Int) (end_3o5 : Int) (next_3o5 : Int) (begin_3o5 : Int) (groups_4 : Int) (end_4o5 : Int) (next_4o5 : Int) (begin_4o5 : Int) (name_0 : Int → Int) (name_1 : Int → Int) (name_2 : Int → Int) (name_3 : Int → Int) (name_4 : Int → Int) (nameLength_0 : Int → Int) (nameLength_1 : Int → Int) (nameLength_2 : Int → Int) (nameLength_3 : Int → Int) (nameLength_4 : Int → Int) (tail_0 : Int → Int) (tail_1 : Int → Int) (tail_2 : Int → Int) (tail_3 : Int → Int) (tail_4 : Int → Int) (head_0 : Int → Int) (head_1 : Int → Int) (head_2 : Int → Int) (head_3 : Int → Int) (head_4 : Int → Int) (weight_0 : Int → Int) (weight_1 : Int → Int) (weight_2 : Int → Int) (weight_3 : Int → Int) (weight_4 : Int → Int) (weight_5 : Int → Int) (oneWay_0 : Int → Int) (oneWay_1 : Int → Int) (oneWay_2 : Int → Int) (oneWay_3 : Int → Int) (oneWay_4 : Int → Int) (oneWay_5 : Int → Int) (near_0 : Int → Int) (near_1 : Int → Int) (near_2 : Int → Int) (near_3 : Int → Int) (near_4 : Int → Int) (link_0 : Int → Int) (link_1 : Int → Int) (link_2 : Int → Int) (link_3 : Int → Int) (link_4 : Int → Int) (tape_0o5 : Int → Int) (tape_1o5 : Int → Int) (tape_2o5 : Int → Int) (tape_3o5 : Int → Int) (tape_4o5 : Int → Int) (k4 : 0 ≤ x4 ∧ x4 ≤ 47) (k6 : 0 ≤ x6 ∧ x6 ≤ 47) (k13 : 1 ≤ x13 ∧ x13 ≤ 48) (d0 : x4 + 1 ≤ x13 ∧ x13 ≤ x4 + 1) (g0 : x13 = edges_0) (g8 : x4 = edges_1) (f10 : 1 * edges_1 + ((-1) * x6 + 0) ≤ 0) (f11 : (-1) * edges_1 + (1 * x6 + 0) ≤ 0) (fe_0_0_1 : nodes_0 = nodes_1) (fe_0_2_1 : groups_0 = groups_1) (fe_5_5_1 : end_0o5 = end_1o5) (fe_5_6_1 : next_0o5 = next_1o5) (fe_5_8_1 : begin_0o5 = begin_1o5) (fe_0_0_2 : nodes_1 = nodes_2) (fe_0_1_2 : edges_1 = edges_2) (fe_0_2_2 : groups_1 = groups_2) (fe_5_5_2 : end_1o5 = end_2o5) (fe_5_6_2 : next_1o5 = next_2o5) (fe_5_8_2 : begin_1o5 = begin_2o5) (fe_0_0_3 : nodes_2 = nodes_3) (fe_0_1_3 : edges_2 = edges_3) (fe_0_2_3 : groups_2 = groups_3) (fe_5_5_3 : end_2o5 = end_3o5) (fe_5_6_3 : next_2o5 = next_3o5) (fe_5_8_3 : begin_2o5 = begin_3o5) (fe_0_0_4 : nodes_3 = nodes_4) (fe_0_1_4 : edges_3 = edges_4) (fe_0_2_4 : groups_3 = groups_4) (fe_5_5_4 : end_3o5 = end_4o5) (fe_5_6_4 : next_3o5 = next_4o5) (fe_5_8_4 : begin_3o5 = begin_4o5) (fe_0_0_5 : nodes_4 = nodes_5) (fe_0_1_5 : edges_4 = edges_5) (fe_0_2_5 : groups_4 = groups_5) (fe_5_5_5 : end_4o5 = end_5o5) (fe_5_6_5 : next_4o5 = next_5o5) (fe_5_8_5 : begin_4o5 = begin_5o5) (hE_0_3_1 : ∀ j : Int, name_0 j = name_1 j) (hE_0_3_2 : ∀ j : Int, name_1 j = name_2 j) (hE_0_3_3 : ∀ j : Int, name_2 j = name_3 j) (hE_0_3_4 : ∀ j : Int, name_3 j = name_4 j) (hE_0_3_5 : ∀ j : Int, name_4 j = name_5 j) (hE_0_4_1 : ∀ j : Int, nameLength_0 j = nameLength_1 j) (hE_0_4_2 : ∀ j : Int, nameLength_1 j = nameLength_2 j) (hE_0_4_3 : ∀ j : Int, nameLength_2 j = nameLength_3 j) (hE_0_4_4 : ∀ j : Int, nameLength_3 j = nameLength_4 j) (hE_0_4_5 : ∀ j : Int, nameLength_4 j = nameLength_5 j) (hE_0_7_1 : ∀ j : Int, tail_0 j = tail_1 j) (hE_0_7_2 : ∀ j : Int, tail_1 j = tail_2 j) (hE_0_7_3 : ∀ j : Int, tail_2 j = tail_3 j) (hE_0_7_4 : ∀ j : Int, tail_3 j = tail_4 j) (hE_0_8_1 : ∀ j : Int, head_0 j = head_1 j) (hE_0_8_2 : ∀ j : Int, head_1 j = head_2 j) (hE_0_8_3 : ∀ j : Int, head_2 j = head_3 j) (hE_0_8_5 : ∀ j : Int, head_4 j = head_5 j) (hE_0_9_1 : ∀ j : Int, weight_0 j = weight_1 j) (hE_0_9_2 : ∀ j : Int, weight_1 j = weight_2 j) (hE_0_9_4 : ∀ j : Int, weight_3 j = weight_4 j) (hE_0_9_5 : ∀ j : Int, weight_4 j = weight_5 j) (hE_0_10_1 : ∀ j : Int, oneWay_0 j = oneWay_1 j) (hE_0_10_3 : ∀ j : Int, oneWay_2 j = oneWay_3 j) (hE_0_10_4 : ∀ j : Int, oneWay_3 j = oneWay_4 j) (hE_0_10_5 : ∀ j : Int, oneWay_4 j = oneWay_5 j) (hE_0_14_1 : ∀ j : Int, near_0 j = near_1 j) (hE_0_14_2 : ∀ j : Int, near_1 j = near_2 j) (hE_0_14_3 : ∀ j : Int, near_2 j = near_3 j) (hE_0_14_4 : ∀ j : Int, near_3 j = near_4 j) (hE_0_14_5 : ∀ j : Int, near_4 j = near_5 j) (hE_0_15_1 : ∀ j : Int, link_0 j = link_1 j) (hE_0_15_2 : ∀ j : Int, link_1 j = link_2 j) (hE_0_15_3 : ∀ j : Int, link_2 j = link_3 j) (hE_0_15_4 : ∀ j : Int, link_3 j = link_4 j) (hE_0_15_5 : ∀ j : Int, link_4 j = link_5 j) (hE_5_0_1 : ∀ j : Int, tape_0o5 j = tape_1o5 j) (hE_5_0_2 : ∀ j : Int, tape_1o5 j = tape_2o5 j) (hE_5_0_3 : ∀ j : Int, tape_2o5 j = tape_3o5 j) (hE_5_0_4 : ∀ j : Int, tape_3o5 j = tape_4o5 j) (hE_5_0_5 : ∀ j : Int, tape_4o5 j = tape_5o5 j) (kz_0_0 : 0 ≤ nodes_0 ∧ nodes_0 ≤ 24) (kz_0_1 : 0 ≤ edges_0 ∧ edges_0 ≤ 48) (kz_0_2 : 0 ≤ groups_0 ∧ groups_0 ≤ 8) (kz_5_5 : 0 ≤ end_0o5 ∧ end_0o5 ≤ 2000) (kz_5_6 : 0 ≤ next_0o5 ∧ next_0o5 ≤ 2000) (kz_5_8 : 0 ≤ begin_0o5 ∧ begin_0o5 ≤ 2000) : x4 = x6 := by
  subst fe_0_0_1
  subst fe_0_2_1
  subst fe_5_5_1
  subst fe_5_6_1
  subst fe_5_8_1
  subst fe_0_0_2
  subst fe_0_1_2
  subst fe_0_2_2
  subst fe_5_5_2
  subst fe_5_6_2
  subst fe_5_8_2
  subst fe_0_0_3
  subst fe_0_1_3
  subst fe_0_2_3
  subst fe_5_5_3
  subst fe_5_6_3
  subst fe_5_8_3
  subst fe_0_0_4
  subst fe_0_1_4
  subst fe_0_2_4
  subst fe_5_5_4
  subst fe_5_6_4
  subst fe_5_8_4
  subst fe_0_0_5
  subst fe_0_1_5
  subst fe_0_2_5
  subst fe_5_5_5
  subst fe_5_6_5
  subst fe_5_8_5
  have e_hE_0_3_1 := funext hE_0_3_1; subst e_hE_0_3_1
  have e_hE_0_3_2 := funext hE_0_3_2; subst e_hE_0_3_2
  have e_hE_0_3_3 := funext hE_0_3_3; subst e_hE_0_3_3
  have e_hE_0_3_4 := funext hE_0_3_4; subst e_hE_0_3_4
  have e_hE_0_3_5 := funext hE_0_3_5; subst e_hE_0_3_5
  have e_hE_0_4_1 := funext hE_0_4_1; subst e_hE_0_4_1
  have e_hE_0_4_2 := funext hE_0_4_2; subst e_hE_0_4_2
  have e_hE_0_4_3 := funext hE_0_4_3; subst e_hE_0_4_3
  have e_hE_0_4_4 := funext hE_0_4_4; subst e_hE_0_4_4
  have e_hE_0_4_5 := funext hE_0_4_5; subst e_hE_0_4_5
  have e_hE_0_7_1 := funext hE_0_7_1; subst e_hE_0_7_1
  have e_hE_0_7_2 := funext hE_0_7_2; subst e_hE_0_7_2
  have e_hE_0_7_3 := funext hE_0_7_3; subst e_hE_0_7_3
  have e_hE_0_7_4 := funext hE_0_7_4; subst e_hE_0_7_4
  have e_hE_0_8_1 := funext hE_0_8_1; subst e_hE_0_8_1
  have e_hE_0_8_2 := funext hE_0_8_2; subst e_hE_0_8_2
  have e_hE_0_8_3 := funext hE_0_8_3; subst e_hE_0_8_3
  have e_hE_0_8_5 := funext hE_0_8_5; subst e_hE_0_8_5
  have e_hE_0_9_1 := funext hE_0_9_1; subst e_hE_0_9_1
  have e_hE_0_9_2 := funext hE_0_9_2; subst e_hE_0_9_2
  have e_hE_0_9_4 := funext hE_0_9_4; subst e_hE_0_9_4
  have e_hE_0_9_5 := funext hE_0_9_5; subst e_hE_0_9_5
  have e_hE_0_10_1 := funext hE_0_10_1; subst e_hE_0_10_1
  have e_hE_0_10_3 := funext hE_0_10_3; subst e_hE_0_10_3
  have e_hE_0_10_4 := funext hE_0_10_4; subst e_hE_0_10_4
  have e_hE_0_10_5 := funext hE_0_10_5; subst e_hE_0_10_5
  have e_hE_0_14_1 := funext hE_0_14_1; subst e_hE_0_14_1
  have e_hE_0_14_2 := funext hE_0_14_2; subst e_hE_0_14_2
  have e_hE_0_14_3 := funext hE_0_14_3; subst e_hE_0_14_3
  have e_hE_0_14_4 := funext hE_0_14_4; subst e_hE_0_14_4
  have e_hE_0_14_5 := funext hE_0_14_5; subst e_hE_0_14_5
  have e_hE_0_15_1 := funext hE_0_15_1; subst e_hE_0_15_1
  have e_hE_0_15_2 := funext hE_0_15_2; subst e_hE_0_15_2
  have e_hE_0_15_3 := funext hE_0_15_3; subst e_hE_0_15_3
  have e_hE_0_15_4 := funext hE_0_15_4; subst e_hE_0_15_4
  have e_hE_0_15_5 := funext hE_0_15_5; subst e_hE_0_15_5
  have e_hE_5_0_1 := funext hE_5_0_1; subst e_hE_5_0_1
  have e_hE_5_0_2 := funext hE_5_0_2; subst e_hE_5_0_2
  have e_hE_5_0_3 := funext hE_5_0_3; subst e_hE_5_0_3
  have e_hE_5_0_4 := funext hE_5_0_4; subst e_hE_5_0_4
  have e_hE_5_0_5 := funext hE_5_0_5; subst e_hE_5_0_5
  first
    | omega
  
def o_Gr_addEdge_at_Gq_0 : or_T := (48, 14, [(0, (2, 0, 0, [164])), (1, (0, 0, 23, [])), (2, (0, 0, 23, [])), (4, (0, 0, 47, [])), (5, (2, 0, 0, [8])), (6, (0, 0, 47, [])), (7, (2, 0, 0, [154])), (8, (2, 0, 0, [155])), (9, (2, 0, 0, [156])), (11, (2, 0, 0, [157])), (13, (0, 1, 48, []))], [(9, [13, 0], [1]), (9, [8, 0], [8]), (9, [7, 0], [7]), (20, [1, 0, 2], [50, 1, 0, 1000, 2, 6, 0, 2, 0, 0, 1, 0, 2, 11, 0, 6, 4, 2, 1, 0, 0, 1, 2, 1, 0, 2, 6, 0, 2, 0, 0, 1, 2, 2, 11, 0, 6, 4, 2, 1, 2, 0, 1, 2, 1, 0, 3, 10, 0, 6, 4, 2, 1, 0, 0, 1, 1, 2, 0, 6, 4, 2, 1, 2, 0, 1, 1, 0]), (101, [0, 13], [1]), (9, [4, 0], [1]), (20, [0, 6], [30, 0, 1, 1, 1, -1, 0, 0]), (20, [0, 6], [30, 0, -1, 1, 1, 1, 0, 0]), (100, [11, 4, 3], []), (100, [9, 4, 10], []), (100, [8, 4, 2], []), (100, [7, 4, 1], []), (20, [0], [60, 2, 3, 670, 0, 1, 14, 7, 8]), (20, [0], [60, 2, 2, 596, 0, 1, 7, 8]), (20, [1, 0, 2], [50, 1, 0, 1000, 2, 6, 0, 2, 0, 0, 1, 0, 2, 11, 0, 6, 4, 2, 1, 0, 0, 1, 2, 1, 0, 2, 6, 0, 2, 0, 0, 1, 2, 2, 11, 0, 6, 4, 2, 1, 2, 0, 1, 2, 1, 0, 3, 10, 0, 6, 4, 2, 1, 0, 0, 1, 1, 2, 0, 6, 4, 2, 1, 2, 0, 1, 1, 0]), (20, [5, 0, 1, 2], [60, 6, 5, 1067, 5, 6, 8, 1000, 1001, 1002, 0, 1004, 1003, 1007, 1008]), (20, [0], [60, 1, 3, 1085, 1, 7, 8, 15])], [], [], [(20, [4, 0], [50, 1, 0, 1001, 2, 6, 0, 2, 0, 0, 1, 0, 1, 6, 4, 2, 1, 0, 0, 1, 2, 1, 1]), (20, [0, 4], [60, 1, 3, 747, 0, 14, 7, 8]), (20, [0], [60, 2, 2, 596, 0, 1, 7, 8]), (20, [5, 0, 1, 2], [60, 6, 5, 1068, 5, 6, 8, 1000, 1001, 1002, 0, 1004, 1003, 1007, 1008]), (20, [0, 4], [60, 0, 3, 1086, 7, 8, 15]), (20, [4, 6], [50, 0, 0, 1, 2, 1, 0, 1, 1])], [], [(13, 4, 1, 1)])
set_option maxRecDepth 100000 in
theorem oo_Gr_addEdge_at_Gq_0 {kA : Nat → ClassId} : or_ok PRD kA GG o_Gr_addEdge_at_Gq_0 := by
  refine or_mk fun A ta ws vs hD hth hl => ?_
  intro t0 r0 t1 k1 t2 k2 t4 k4 t5 r5 t6 k6 t7 r7 t8 r8 t9 r9 t11 r11 t13 k13 d0 f0 f3 f4 f5 ta1 w1 le1 s1 f8 f10 f11 ta2 w2 le2 s2 ta3 w3 le3 s3 ta4 w4 le4 s4 ta5 w5 le5 s5 f25 f26 f27 f28 f29
  replace f0 := shm_215 f0
  replace f3 := shm_293 f3
  replace f4 := shm_198 f4
  have s1 : (∀ b j, w_el ws b j = w_el w1 b j) ∧ ∀ b j, w_fd ws b j = if b = v_ad (n_v vs 0) ∧ j = 1 then n_v vs 13 else w_fd w1 b j := s1.2
  replace f8 := shm_215 f8
  have s2 : (∀ b j, w_el w1 b j = if b = v_ad (n_v vs 11) ∧ j = (v_iv (n_v vs 4)).toNat then v_iv (n_v vs 3) else w_el w2 b j) ∧ ∀ b k, w_fd w1 b k = w_fd w2 b k := s2.2
  have s3 : (∀ b j, w_el w2 b j = if b = v_ad (n_v vs 9) ∧ j = (v_iv (n_v vs 4)).toNat then v_iv (n_v vs 10) else w_el w3 b j) ∧ ∀ b k, w_fd w2 b k = w_fd w3 b k := s3.2
  have s4 : (∀ b j, w_el w3 b j = if b = v_ad (n_v vs 8) ∧ j = (v_iv (n_v vs 4)).toNat then v_iv (n_v vs 2) else w_el w4 b j) ∧ ∀ b k, w_fd w3 b k = w_fd w4 b k := s4.2
  have s5 : (∀ b j, w_el w4 b j = if b = v_ad (n_v vs 7) ∧ j = (v_iv (n_v vs 4)).toNat then v_iv (n_v vs 1) else w_el w5 b j) ∧ ∀ b k, w_fd w4 b k = w_fd w5 b k := s5.2
  replace f25 := shm_825 f25
  replace f26 := shm_386 f26
  replace f28 := shm_826 f28
  replace f29 := shm_827 f29
  have ar_0_3_1 : w_ar w1 (n_v vs 0) 3 = w_ar ws (n_v vs 0) 3 := by show v_ad (w_fd w1 _ _) = v_ad (w_fd ws _ _); rw [s1.2, if_neg (fun e => absurd e.2 (by decide))]
  have ar_0_3_2 : w_ar w2 (n_v vs 0) 3 = w_ar ws (n_v vs 0) 3 := by rw [← ar_0_3_1]; show v_ad (w_fd w2 _ _) = v_ad (w_fd w1 _ _); rw [s2.2]
  have ar_0_3_3 : w_ar w3 (n_v vs 0) 3 = w_ar ws (n_v vs 0) 3 := by rw [← ar_0_3_2]; show v_ad (w_fd w3 _ _) = v_ad (w_fd w2 _ _); rw [s3.2]
  have ar_0_3_4 : w_ar w4 (n_v vs 0) 3 = w_ar ws (n_v vs 0) 3 := by rw [← ar_0_3_3]; show v_ad (w_fd w4 _ _) = v_ad (w_fd w3 _ _); rw [s4.2]
  have ar_0_3_5 : w_ar w5 (n_v vs 0) 3 = w_ar ws (n_v vs 0) 3 := by rw [← ar_0_3_4]; show v_ad (w_fd w5 _ _) = v_ad (w_fd w4 _ _); rw [s5.2]
  have cr_0_3 := fdq_68 hD hth r0
  have ar_0_4_1 : w_ar w1 (n_v vs 0) 4 = w_ar ws (n_v vs 0) 4 := by show v_ad (w_fd w1 _ _) = v_ad (w_fd ws _ _); rw [s1.2, if_neg (fun e => absurd e.2 (by decide))]
  have ar_0_4_2 : w_ar w2 (n_v vs 0) 4 = w_ar ws (n_v vs 0) 4 := by rw [← ar_0_4_1]; show v_ad (w_fd w2 _ _) = v_ad (w_fd w1 _ _); rw [s2.2]
  have ar_0_4_3 : w_ar w3 (n_v vs 0) 4 = w_ar ws (n_v vs 0) 4 := by rw [← ar_0_4_2]; show v_ad (w_fd w3 _ _) = v_ad (w_fd w2 _ _); rw [s3.2]
  have ar_0_4_4 : w_ar w4 (n_v vs 0) 4 = w_ar ws (n_v vs 0) 4 := by rw [← ar_0_4_3]; show v_ad (w_fd w4 _ _) = v_ad (w_fd w3 _ _); rw [s4.2]
  have ar_0_4_5 : w_ar w5 (n_v vs 0) 4 = w_ar ws (n_v vs 0) 4 := by rw [← ar_0_4_4]; show v_ad (w_fd w5 _ _) = v_ad (w_fd w4 _ _); rw [s5.2]
  have cr_0_4 := fdq_67 hD hth r0
  have ar_0_7_1 : w_ar w1 (n_v vs 0) 7 = w_ar ws (n_v vs 0) 7 := by show v_ad (w_fd w1 _ _) = v_ad (w_fd ws _ _); rw [s1.2, if_neg (fun e => absurd e.2 (by decide))]
  have ar_0_7_2 : w_ar w2 (n_v vs 0) 7 = w_ar ws (n_v vs 0) 7 := by rw [← ar_0_7_1]; show v_ad (w_fd w2 _ _) = v_ad (w_fd w1 _ _); rw [s2.2]
  have ar_0_7_3 : w_ar w3 (n_v vs 0) 7 = w_ar ws (n_v vs 0) 7 := by rw [← ar_0_7_2]; show v_ad (w_fd w3 _ _) = v_ad (w_fd w2 _ _); rw [s3.2]
  have ar_0_7_4 : w_ar w4 (n_v vs 0) 7 = w_ar ws (n_v vs 0) 7 := by rw [← ar_0_7_3]; show v_ad (w_fd w4 _ _) = v_ad (w_fd w3 _ _); rw [s4.2]
  have ar_0_7_5 : w_ar w5 (n_v vs 0) 7 = w_ar ws (n_v vs 0) 7 := by rw [← ar_0_7_4]; show v_ad (w_fd w5 _ _) = v_ad (w_fd w4 _ _); rw [s5.2]
  have cr_0_7 := fdq_70 hD hth r0
  have ar_0_8_1 : w_ar w1 (n_v vs 0) 8 = w_ar ws (n_v vs 0) 8 := by show v_ad (w_fd w1 _ _) = v_ad (w_fd ws _ _); rw [s1.2, if_neg (fun e => absurd e.2 (by decide))]
  have ar_0_8_2 : w_ar w2 (n_v vs 0) 8 = w_ar ws (n_v vs 0) 8 := by rw [← ar_0_8_1]; show v_ad (w_fd w2 _ _) = v_ad (w_fd w1 _ _); rw [s2.2]
  have ar_0_8_3 : w_ar w3 (n_v vs 0) 8 = w_ar ws (n_v vs 0) 8 := by rw [← ar_0_8_2]; show v_ad (w_fd w3 _ _) = v_ad (w_fd w2 _ _); rw [s3.2]
  have ar_0_8_4 : w_ar w4 (n_v vs 0) 8 = w_ar ws (n_v vs 0) 8 := by rw [← ar_0_8_3]; show v_ad (w_fd w4 _ _) = v_ad (w_fd w3 _ _); rw [s4.2]
  have ar_0_8_5 : w_ar w5 (n_v vs 0) 8 = w_ar ws (n_v vs 0) 8 := by rw [← ar_0_8_4]; show v_ad (w_fd w5 _ _) = v_ad (w_fd w4 _ _); rw [s5.2]
  have cr_0_8 := fdq_71 hD hth r0
  have cr_0_9 := fdq_204 hD hth r0
  have cr_0_10 := fdq_205 hD hth r0
  have ar_0_14_1 : w_ar w1 (n_v vs 0) 14 = w_ar ws (n_v vs 0) 14 := by show v_ad (w_fd w1 _ _) = v_ad (w_fd ws _ _); rw [s1.2, if_neg (fun e => absurd e.2 (by decide))]
  have ar_0_14_2 : w_ar w2 (n_v vs 0) 14 = w_ar ws (n_v vs 0) 14 := by rw [← ar_0_14_1]; show v_ad (w_fd w2 _ _) = v_ad (w_fd w1 _ _); rw [s2.2]
  have ar_0_14_3 : w_ar w3 (n_v vs 0) 14 = w_ar ws (n_v vs 0) 14 := by rw [← ar_0_14_2]; show v_ad (w_fd w3 _ _) = v_ad (w_fd w2 _ _); rw [s3.2]
  have ar_0_14_4 : w_ar w4 (n_v vs 0) 14 = w_ar ws (n_v vs 0) 14 := by rw [← ar_0_14_3]; show v_ad (w_fd w4 _ _) = v_ad (w_fd w3 _ _); rw [s4.2]
  have ar_0_14_5 : w_ar w5 (n_v vs 0) 14 = w_ar ws (n_v vs 0) 14 := by rw [← ar_0_14_4]; show v_ad (w_fd w5 _ _) = v_ad (w_fd w4 _ _); rw [s5.2]
  have cr_0_14 := fdq_72 hD hth r0
  have ar_0_15_1 : w_ar w1 (n_v vs 0) 15 = w_ar ws (n_v vs 0) 15 := by show v_ad (w_fd w1 _ _) = v_ad (w_fd ws _ _); rw [s1.2, if_neg (fun e => absurd e.2 (by decide))]
  have ar_0_15_2 : w_ar w2 (n_v vs 0) 15 = w_ar ws (n_v vs 0) 15 := by rw [← ar_0_15_1]; show v_ad (w_fd w2 _ _) = v_ad (w_fd w1 _ _); rw [s2.2]
  have ar_0_15_3 : w_ar w3 (n_v vs 0) 15 = w_ar ws (n_v vs 0) 15 := by rw [← ar_0_15_2]; show v_ad (w_fd w3 _ _) = v_ad (w_fd w2 _ _); rw [s3.2]
  have ar_0_15_4 : w_ar w4 (n_v vs 0) 15 = w_ar ws (n_v vs 0) 15 := by rw [← ar_0_15_3]; show v_ad (w_fd w4 _ _) = v_ad (w_fd w3 _ _); rw [s4.2]
  have ar_0_15_5 : w_ar w5 (n_v vs 0) 15 = w_ar ws (n_v vs 0) 15 := by rw [← ar_0_15_4]; show v_ad (w_fd w5 _ _) = v_ad (w_fd w4 _ _); rw [s5.2]
  have cr_0_15 := fdq_65 hD hth r0
  have ar_5_0_1 : w_ar w1 (n_v vs 5) 0 = w_ar ws (n_v vs 5) 0 := by show v_ad (w_fd w1 _ _) = v_ad (w_fd ws _ _); rw [s1.2, if_neg (fun e => absurd e.2 (by decide))]
  have ar_5_0_2 : w_ar w2 (n_v vs 5) 0 = w_ar ws (n_v vs 5) 0 := by rw [← ar_5_0_1]; show v_ad (w_fd w2 _ _) = v_ad (w_fd w1 _ _); rw [s2.2]
  have ar_5_0_3 : w_ar w3 (n_v vs 5) 0 = w_ar ws (n_v vs 5) 0 := by rw [← ar_5_0_2]; show v_ad (w_fd w3 _ _) = v_ad (w_fd w2 _ _); rw [s3.2]
  have ar_5_0_4 : w_ar w4 (n_v vs 5) 0 = w_ar ws (n_v vs 5) 0 := by rw [← ar_5_0_3]; show v_ad (w_fd w4 _ _) = v_ad (w_fd w3 _ _); rw [s4.2]
  have ar_5_0_5 : w_ar w5 (n_v vs 5) 0 = w_ar ws (n_v vs 5) 0 := by rw [← ar_5_0_4]; show v_ad (w_fd w5 _ _) = v_ad (w_fd w4 _ _); rw [s5.2]
  have cr_5_0 := fdq_95 hD hth r5
  have ad_8 : v_ad (n_v vs 8) = w_ar ws (n_v vs 0) 8 := congrArg v_ad f3
  have ad_7 : v_ad (n_v vs 7) = w_ar ws (n_v vs 0) 7 := congrArg v_ad f4
  have g0 : v_iv (n_v vs 13) = w_fi ws (n_v vs 0) 1 := congrArg v_iv f0
  have g8 : v_iv (n_v vs 4) = w_fi w1 (n_v vs 0) 1 := congrArg v_iv f8
  simp only [ar_0_7_5, ar_0_8_5, ar_0_14_5, ar_0_3_5, ar_0_4_5, ar_5_0_5, ar_0_15_5] at f25 f26 f28 f29
  have fe_0_0_1 : w_fi ws (n_v vs 0) 0 = w_fi w1 (n_v vs 0) 0 := by show v_iv (w_fd _ _ _) = v_iv (w_fd _ _ _); rw [s1.2, if_neg (fun e => absurd e.2 (by decide))]
  have fe_0_2_1 : w_fi ws (n_v vs 0) 2 = w_fi w1 (n_v vs 0) 2 := by show v_iv (w_fd _ _ _) = v_iv (w_fd _ _ _); rw [s1.2, if_neg (fun e => absurd e.2 (by decide))]
  have fe_5_5_1 : w_fi ws (n_v vs 5) 5 = w_fi w1 (n_v vs 5) 5 := by show v_iv (w_fd _ _ _) = v_iv (w_fd _ _ _); rw [s1.2, if_neg (fun e => absurd e.2 (by decide))]
  have fe_5_6_1 : w_fi ws (n_v vs 5) 6 = w_fi w1 (n_v vs 5) 6 := by show v_iv (w_fd _ _ _) = v_iv (w_fd _ _ _); rw [s1.2, if_neg (fun e => absurd e.2 (by decide))]
  have fe_5_8_1 : w_fi ws (n_v vs 5) 8 = w_fi w1 (n_v vs 5) 8 := by show v_iv (w_fd _ _ _) = v_iv (w_fd _ _ _); rw [s1.2, if_neg (fun e => absurd e.2 (by decide))]
  have fe_0_0_2 : w_fi w1 (n_v vs 0) 0 = w_fi w2 (n_v vs 0) 0 := congrArg v_iv (s2.2 _ _)
  have fe_0_1_2 : w_fi w1 (n_v vs 0) 1 = w_fi w2 (n_v vs 0) 1 := congrArg v_iv (s2.2 _ _)
  have fe_0_2_2 : w_fi w1 (n_v vs 0) 2 = w_fi w2 (n_v vs 0) 2 := congrArg v_iv (s2.2 _ _)
  have fe_5_5_2 : w_fi w1 (n_v vs 5) 5 = w_fi w2 (n_v vs 5) 5 := congrArg v_iv (s2.2 _ _)
  have fe_5_6_2 : w_fi w1 (n_v vs 5) 6 = w_fi w2 (n_v vs 5) 6 := congrArg v_iv (s2.2 _ _)
  have fe_5_8_2 : w_fi w1 (n_v vs 5) 8 = w_fi w2 (n_v vs 5) 8 := congrArg v_iv (s2.2 _ _)
  have fe_0_0_3 : w_fi w2 (n_v vs 0) 0 = w_fi w3 (n_v vs 0) 0 := congrArg v_iv (s3.2 _ _)
  have fe_0_1_3 : w_fi w2 (n_v vs 0) 1 = w_fi w3 (n_v vs 0) 1 := congrArg v_iv (s3.2 _ _)
  have fe_0_2_3 : w_fi w2 (n_v vs 0) 2 = w_fi w3 (n_v vs 0) 2 := congrArg v_iv (s3.2 _ _)
  have fe_5_5_3 : w_fi w2 (n_v vs 5) 5 = w_fi w3 (n_v vs 5) 5 := congrArg v_iv (s3.2 _ _)
  have fe_5_6_3 : w_fi w2 (n_v vs 5) 6 = w_fi w3 (n_v vs 5) 6 := congrArg v_iv (s3.2 _ _)
  have fe_5_8_3 : w_fi w2 (n_v vs 5) 8 = w_fi w3 (n_v vs 5) 8 := congrArg v_iv (s3.2 _ _)
  have fe_0_0_4 : w_fi w3 (n_v vs 0) 0 = w_fi w4 (n_v vs 0) 0 := congrArg v_iv (s4.2 _ _)
  have fe_0_1_4 : w_fi w3 (n_v vs 0) 1 = w_fi w4 (n_v vs 0) 1 := congrArg v_iv (s4.2 _ _)
  have fe_0_2_4 : w_fi w3 (n_v vs 0) 2 = w_fi w4 (n_v vs 0) 2 := congrArg v_iv (s4.2 _ _)
  have fe_5_5_4 : w_fi w3 (n_v vs 5) 5 = w_fi w4 (n_v vs 5) 5 := congrArg v_iv (s4.2 _ _)
  have fe_5_6_4 : w_fi w3 (n_v vs 5) 6 = w_fi w4 (n_v vs 5) 6 := congrArg v_iv (s4.2 _ _)
  have fe_5_8_4 : w_fi w3 (n_v vs 5) 8 = w_fi w4 (n_v vs 5) 8 := congrArg v_iv (s4.2 _ _)
  have fe_0_0_5 : w_fi w4 (n_v vs 0) 0 = w_fi w5 (n_v vs 0) 0 := congrArg v_iv (s5.2 _ _)
  have fe_0_1_5 : w_fi w4 (n_v vs 0) 1 = w_fi w5 (n_v vs 0) 1 := congrArg v_iv (s5.2 _ _)
  have fe_0_2_5 : w_fi w4 (n_v vs 0) 2 = w_fi w5 (n_v vs 0) 2 := congrArg v_iv (s5.2 _ _)
  have fe_5_5_5 : w_fi w4 (n_v vs 5) 5 = w_fi w5 (n_v vs 5) 5 := congrArg v_iv (s5.2 _ _)
  have fe_5_6_5 : w_fi w4 (n_v vs 5) 6 = w_fi w5 (n_v vs 5) 6 := congrArg v_iv (s5.2 _ _)
  have fe_5_8_5 : w_fi w4 (n_v vs 5) 8 = w_fi w5 (n_v vs 5) 8 := congrArg v_iv (s5.2 _ _)
  have hE_0_3_1 : ∀ j : Int, w_ei ws (w_ar ws (n_v vs 0) 3) j = w_ei w1 (w_ar ws (n_v vs 0) 3) j := fun j => s1.1 _ _
  have hE_0_3_2 : ∀ j : Int, w_ei w1 (w_ar ws (n_v vs 0) 3) j = w_ei w2 (w_ar ws (n_v vs 0) 3) j := el_kp s2.1 r11 cr_0_3 (by decide)
  have hE_0_3_3 : ∀ j : Int, w_ei w2 (w_ar ws (n_v vs 0) 3) j = w_ei w3 (w_ar ws (n_v vs 0) 3) j := el_kp s3.1 r9 cr_0_3 (by decide)
  have hE_0_3_4 : ∀ j : Int, w_ei w3 (w_ar ws (n_v vs 0) 3) j = w_ei w4 (w_ar ws (n_v vs 0) 3) j := el_kp s4.1 r8 cr_0_3 (by decide)
  have hE_0_3_5 : ∀ j : Int, w_ei w4 (w_ar ws (n_v vs 0) 3) j = w_ei w5 (w_ar ws (n_v vs 0) 3) j := el_kp s5.1 r7 cr_0_3 (by decide)
  have hE_0_4_1 : ∀ j : Int, w_ei ws (w_ar ws (n_v vs 0) 4) j = w_ei w1 (w_ar ws (n_v vs 0) 4) j := fun j => s1.1 _ _
  have hE_0_4_2 : ∀ j : Int, w_ei w1 (w_ar ws (n_v vs 0) 4) j = w_ei w2 (w_ar ws (n_v vs 0) 4) j := el_kp s2.1 r11 cr_0_4 (by decide)
  have hE_0_4_3 : ∀ j : Int, w_ei w2 (w_ar ws (n_v vs 0) 4) j = w_ei w3 (w_ar ws (n_v vs 0) 4) j := el_kp s3.1 r9 cr_0_4 (by decide)
  have hE_0_4_4 : ∀ j : Int, w_ei w3 (w_ar ws (n_v vs 0) 4) j = w_ei w4 (w_ar ws (n_v vs 0) 4) j := el_kp s4.1 r8 cr_0_4 (by decide)
  have hE_0_4_5 : ∀ j : Int, w_ei w4 (w_ar ws (n_v vs 0) 4) j = w_ei w5 (w_ar ws (n_v vs 0) 4) j := el_kp s5.1 r7 cr_0_4 (by decide)
  have hE_0_7_1 : ∀ j : Int, w_ei ws (w_ar ws (n_v vs 0) 7) j = w_ei w1 (w_ar ws (n_v vs 0) 7) j := fun j => s1.1 _ _
  have hE_0_7_2 : ∀ j : Int, w_ei w1 (w_ar ws (n_v vs 0) 7) j = w_ei w2 (w_ar ws (n_v vs 0) 7) j := el_kp s2.1 r11 cr_0_7 (by decide)
  have hE_0_7_3 : ∀ j : Int, w_ei w2 (w_ar ws (n_v vs 0) 7) j = w_ei w3 (w_ar ws (n_v vs 0) 7) j := el_kp s3.1 r9 cr_0_7 (by decide)
  have hE_0_7_4 : ∀ j : Int, w_ei w3 (w_ar ws (n_v vs 0) 7) j = w_ei w4 (w_ar ws (n_v vs 0) 7) j := el_kp s4.1 r8 cr_0_7 (by decide)
  have hE_0_7_5 : ∀ j : Int, 0 ≤ j → (j = v_iv (n_v vs 4) → w_ei w4 (w_ar ws (n_v vs 0) 7) j = v_iv (n_v vs 1)) ∧ (j ≠ v_iv (n_v vs 4) → w_ei w4 (w_ar ws (n_v vs 0) 7) j = w_ei w5 (w_ar ws (n_v vs 0) 7) j) := fun j hj => ⟨fun h => by unfold w_ei; rw [s5.1, if_pos ⟨ad_7.symm, by rw [h]⟩], fun h => by unfold w_ei; rw [s5.1, if_neg (fun e => h (by have := e.2; omega))]⟩
  have hE_0_8_1 : ∀ j : Int, w_ei ws (w_ar ws (n_v vs 0) 8) j = w_ei w1 (w_ar ws (n_v vs 0) 8) j := fun j => s1.1 _ _
  have hE_0_8_2 : ∀ j : Int, w_ei w1 (w_ar ws (n_v vs 0) 8) j = w_ei w2 (w_ar ws (n_v vs 0) 8) j := el_kp s2.1 r11 cr_0_8 (by decide)
  have hE_0_8_3 : ∀ j : Int, w_ei w2 (w_ar ws (n_v vs 0) 8) j = w_ei w3 (w_ar ws (n_v vs 0) 8) j := el_kp s3.1 r9 cr_0_8 (by decide)
  have hE_0_8_4 : ∀ j : Int, 0 ≤ j → (j = v_iv (n_v vs 4) → w_ei w3 (w_ar ws (n_v vs 0) 8) j = v_iv (n_v vs 2)) ∧ (j ≠ v_iv (n_v vs 4) → w_ei w3 (w_ar ws (n_v vs 0) 8) j = w_ei w4 (w_ar ws (n_v vs 0) 8) j) := fun j hj => ⟨fun h => by unfold w_ei; rw [s4.1, if_pos ⟨ad_8.symm, by rw [h]⟩], fun h => by unfold w_ei; rw [s4.1, if_neg (fun e => h (by have := e.2; omega))]⟩
  have hE_0_8_5 : ∀ j : Int, w_ei w4 (w_ar ws (n_v vs 0) 8) j = w_ei w5 (w_ar ws (n_v vs 0) 8) j := el_kp s5.1 r7 cr_0_8 (by decide)
  have hE_0_9_1 : ∀ j : Int, w_ei ws (w_ar ws (n_v vs 0) 9) j = w_ei w1 (w_ar ws (n_v vs 0) 9) j := fun j => s1.1 _ _
  have hE_0_9_2 : ∀ j : Int, w_ei w1 (w_ar ws (n_v vs 0) 9) j = w_ei w2 (w_ar ws (n_v vs 0) 9) j := el_kp s2.1 r11 cr_0_9 (by decide)
  have hE_0_9_4 : ∀ j : Int, w_ei w3 (w_ar ws (n_v vs 0) 9) j = w_ei w4 (w_ar ws (n_v vs 0) 9) j := el_kp s4.1 r8 cr_0_9 (by decide)
  have hE_0_9_5 : ∀ j : Int, w_ei w4 (w_ar ws (n_v vs 0) 9) j = w_ei w5 (w_ar ws (n_v vs 0) 9) j := el_kp s5.1 r7 cr_0_9 (by decide)
  have hE_0_10_1 : ∀ j : Int, w_ei ws (w_ar ws (n_v vs 0) 10) j = w_ei w1 (w_ar ws (n_v vs 0) 10) j := fun j => s1.1 _ _
  have hE_0_10_3 : ∀ j : Int, w_ei w2 (w_ar ws (n_v vs 0) 10) j = w_ei w3 (w_ar ws (n_v vs 0) 10) j := el_kp s3.1 r9 cr_0_10 (by decide)
  have hE_0_10_4 : ∀ j : Int, w_ei w3 (w_ar ws (n_v vs 0) 10) j = w_ei w4 (w_ar ws (n_v vs 0) 10) j := el_kp s4.1 r8 cr_0_10 (by decide)
  have hE_0_10_5 : ∀ j : Int, w_ei w4 (w_ar ws (n_v vs 0) 10) j = w_ei w5 (w_ar ws (n_v vs 0) 10) j := el_kp s5.1 r7 cr_0_10 (by decide)
  have hE_0_14_1 : ∀ j : Int, w_ei ws (w_ar ws (n_v vs 0) 14) j = w_ei w1 (w_ar ws (n_v vs 0) 14) j := fun j => s1.1 _ _
  have hE_0_14_2 : ∀ j : Int, w_ei w1 (w_ar ws (n_v vs 0) 14) j = w_ei w2 (w_ar ws (n_v vs 0) 14) j := el_kp s2.1 r11 cr_0_14 (by decide)
  have hE_0_14_3 : ∀ j : Int, w_ei w2 (w_ar ws (n_v vs 0) 14) j = w_ei w3 (w_ar ws (n_v vs 0) 14) j := el_kp s3.1 r9 cr_0_14 (by decide)
  have hE_0_14_4 : ∀ j : Int, w_ei w3 (w_ar ws (n_v vs 0) 14) j = w_ei w4 (w_ar ws (n_v vs 0) 14) j := el_kp s4.1 r8 cr_0_14 (by decide)
  have hE_0_14_5 : ∀ j : Int, w_ei w4 (w_ar ws (n_v vs 0) 14) j = w_ei w5 (w_ar ws (n_v vs 0) 14) j := el_kp s5.1 r7 cr_0_14 (by decide)
  have hE_0_15_1 : ∀ j : Int, w_ei ws (w_ar ws (n_v vs 0) 15) j = w_ei w1 (w_ar ws (n_v vs 0) 15) j := fun j => s1.1 _ _
  have hE_0_15_2 : ∀ j : Int, w_ei w1 (w_ar ws (n_v vs 0) 15) j = w_ei w2 (w_ar ws (n_v vs 0) 15) j := el_kp s2.1 r11 cr_0_15 (by decide)
  have hE_0_15_3 : ∀ j : Int, w_ei w2 (w_ar ws (n_v vs 0) 15) j = w_ei w3 (w_ar ws (n_v vs 0) 15) j := el_kp s3.1 r9 cr_0_15 (by decide)
  have hE_0_15_4 : ∀ j : Int, w_ei w3 (w_ar ws (n_v vs 0) 15) j = w_ei w4 (w_ar ws (n_v vs 0) 15) j := el_kp s4.1 r8 cr_0_15 (by decide)
  have hE_0_15_5 : ∀ j : Int, w_ei w4 (w_ar ws (n_v vs 0) 15) j = w_ei w5 (w_ar ws (n_v vs 0) 15) j := el_kp s5.1 r7 cr_0_15 (by decide)
  have hE_5_0_1 : ∀ j : Int, w_ei ws (w_ar ws (n_v vs 5) 0) j = w_ei w1 (w_ar ws (n_v vs 5) 0) j := fun j => s1.1 _ _
  have hE_5_0_2 : ∀ j : Int, w_ei w1 (w_ar ws (n_v vs 5) 0) j = w_ei w2 (w_ar ws (n_v vs 5) 0) j := el_kp s2.1 r11 cr_5_0 (by decide)
  have hE_5_0_3 : ∀ j : Int, w_ei w2 (w_ar ws (n_v vs 5) 0) j = w_ei w3 (w_ar ws (n_v vs 5) 0) j := el_kp s3.1 r9 cr_5_0 (by decide)
  have hE_5_0_4 : ∀ j : Int, w_ei w3 (w_ar ws (n_v vs 5) 0) j = w_ei w4 (w_ar ws (n_v vs 5) 0) j := el_kp s4.1 r8 cr_5_0 (by decide)
  have hE_5_0_5 : ∀ j : Int, w_ei w4 (w_ar ws (n_v vs 5) 0) j = w_ei w5 (w_ar ws (n_v vs 5) 0) j := el_kp s5.1 r7 cr_5_0 (by decide)
  have kz_0_0 := fdq_73 hD hth r0
  have kz_0_1 := fdq_74 hD hth r0
  have kz_0_2 := fdq_206 hD hth r0
  have kz_5_5 := fdq_207 hD hth r5
  have kz_5_6 := fdq_208 hD hth r5
  have kz_5_8 := fdq_99 hD hth r5
  have nf0 : fc_1 PRD (20, [4, 0], [50, 1, 0, 1001, 2, 6, 0, 2, 0, 0, 1, 0, 1, 6, 4, 2, 1, 0, 0, 1, 2, 1, 1]) ws (vs) := ⟨nf_in hl rfl, sgq_828 (vc_Gr_addEdge_at_Gq_0_0 (v_iv (n_v vs 4)) (v_iv (n_v vs 6)) (v_iv (n_v vs 13)) (w_fi ws (n_v vs 0) 1) (w_fi ws (n_v vs 0) 0) (w_fi w1 (n_v vs 0) 1) (w_fi w1 (n_v vs 0) 0) (w_fi w2 (n_v vs 0) 0) (w_fi w2 (n_v vs 0) 1) (w_fi w3 (n_v vs 0) 0) (w_fi w3 (n_v vs 0) 1) (w_fi w4 (n_v vs 0) 0) (w_fi w4 (n_v vs 0) 1) (w_ei w5 (w_ar ws (n_v vs 0) 14)) (w_ei w5 (w_ar ws (n_v vs 0) 8)) (w_fi w5 (n_v vs 0) 0) (w_fi w5 (n_v vs 0) 1) (w_ei w5 (w_ar ws (n_v vs 5) 0)) (w_ei w5 (w_ar ws (n_v vs 0) 4)) (w_ei w5 (w_ar ws (n_v vs 0) 3)) (w_fi w5 (n_v vs 5) 5) (w_fi w5 (n_v vs 5) 6) (w_fi w5 (n_v vs 5) 8) (w_fi w5 (n_v vs 0) 2) (w_ei w5 (w_ar ws (n_v vs 0) 15)) (w_fi ws (n_v vs 0) 2) (w_fi w1 (n_v vs 0) 2) (w_fi ws (n_v vs 5) 5) (w_fi w1 (n_v vs 5) 5) (w_fi ws (n_v vs 5) 6) (w_fi w1 (n_v vs 5) 6) (w_fi ws (n_v vs 5) 8) (w_fi w1 (n_v vs 5) 8) (w_fi w2 (n_v vs 0) 2) (w_fi w2 (n_v vs 5) 5) (w_fi w2 (n_v vs 5) 6) (w_fi w2 (n_v vs 5) 8) (w_fi w3 (n_v vs 0) 2) (w_fi w3 (n_v vs 5) 5) (w_fi w3 (n_v vs 5) 6) (w_fi w3 (n_v vs 5) 8) (w_fi w4 (n_v vs 0) 2) (w_fi w4 (n_v vs 5) 5) (w_fi w4 (n_v vs 5) 6) (w_fi w4 (n_v vs 5) 8) (w_ei ws (w_ar ws (n_v vs 0) 3)) (w_ei w1 (w_ar ws (n_v vs 0) 3)) (w_ei w2 (w_ar ws (n_v vs 0) 3)) (w_ei w3 (w_ar ws (n_v vs 0) 3)) (w_ei w4 (w_ar ws (n_v vs 0) 3)) (w_ei ws (w_ar ws (n_v vs 0) 4)) (w_ei w1 (w_ar ws (n_v vs 0) 4)) (w_ei w2 (w_ar ws (n_v vs 0) 4)) (w_ei w3 (w_ar ws (n_v vs 0) 4)) (w_ei w4 (w_ar ws (n_v vs 0) 4)) (w_ei ws (w_ar ws (n_v vs 0) 7)) (w_ei w1 (w_ar ws (n_v vs 0) 7)) (w_ei w2 (w_ar ws (n_v vs 0) 7)) (w_ei w3 (w_ar ws (n_v vs 0) 7)) (w_ei w4 (w_ar ws (n_v vs 0) 7)) (w_ei ws (w_ar ws (n_v vs 0) 8)) (w_ei w1 (w_ar ws (n_v vs 0) 8)) (w_ei w2 (w_ar ws (n_v vs 0) 8)) (w_ei w3 (w_ar ws (n_v vs 0) 8)) (w_ei w4 (w_ar ws (n_v vs 0) 8)) (w_ei ws (w_ar ws (n_v vs 0) 9)) (w_ei w1 (w_ar ws (n_v vs 0) 9)) (w_ei w2 (w_ar ws (n_v vs 0) 9)) (w_ei w3 (w_ar ws (n_v vs 0) 9)) (w_ei w4 (w_ar ws (n_v vs 0) 9)) (w_ei w5 (w_ar ws (n_v vs 0) 9)) (w_ei ws (w_ar ws (n_v vs 0) 10)) (w_ei w1 (w_ar ws (n_v vs 0) 10)) (w_ei w2 (w_ar ws (n_v vs 0) 10)) (w_ei w3 (w_ar ws (n_v vs 0) 10)) (w_ei w4 (w_ar ws (n_v vs 0) 10)) (w_ei w5 (w_ar ws (n_v vs 0) 10)) (w_ei ws (w_ar ws (n_v vs 0) 14)) (w_ei w1 (w_ar ws (n_v vs 0) 14)) (w_ei w2 (w_ar ws (n_v vs 0) 14)) (w_ei w3 (w_ar ws (n_v vs 0) 14)) (w_ei w4 (w_ar ws (n_v vs 0) 14)) (w_ei ws (w_ar ws (n_v vs 0) 15)) (w_ei w1 (w_ar ws (n_v vs 0) 15)) (w_ei w2 (w_ar ws (n_v vs 0) 15)) (w_ei w3 (w_ar ws (n_v vs 0) 15)) (w_ei w4 (w_ar ws (n_v vs 0) 15)) (w_ei ws (w_ar ws (n_v vs 5) 0)) (w_ei w1 (w_ar ws (n_v vs 5) 0)) (w_ei w2 (w_ar ws (n_v vs 5) 0)) (w_ei w3 (w_ar ws (n_v vs 5) 0)) (w_ei w4 (w_ar ws (n_v vs 5) 0)) k4 k6 k13 d0 g0 g8 (shm_436 f10) (shm_437 f11) fe_0_0_1 fe_0_2_1 fe_5_5_1 fe_5_6_1 fe_5_8_1 fe_0_0_2 fe_0_1_2 fe_0_2_2 fe_5_5_2 fe_5_6_2 fe_5_8_2 fe_0_0_3 fe_0_1_3 fe_0_2_3 fe_5_5_3 fe_5_6_3 fe_5_8_3 fe_0_0_4 fe_0_1_4 fe_0_2_4 fe_5_5_4 fe_5_6_4 fe_5_8_4 fe_0_0_5 fe_0_1_5 fe_0_2_5 fe_5_5_5 fe_5_6_5 fe_5_8_5 hE_0_3_1 hE_0_3_2 hE_0_3_3 hE_0_3_4 hE_0_3_5 hE_0_4_1 hE_0_4_2 hE_0_4_3 hE_0_4_4 hE_0_4_5 hE_0_7_1 hE_0_7_2 hE_0_7_3 hE_0_7_4 hE_0_8_1 hE_0_8_2 hE_0_8_3 hE_0_8_5 hE_0_9_1 hE_0_9_2 hE_0_9_4 hE_0_9_5 hE_0_10_1 hE_0_10_3 hE_0_10_4 hE_0_10_5 hE_0_14_1 hE_0_14_2 hE_0_14_3 hE_0_14_4 hE_0_14_5 hE_0_15_1 hE_0_15_2 hE_0_15_3 hE_0_15_4 hE_0_15_5 hE_5_0_1 hE_5_0_2 hE_5_0_3 hE_5_0_4 hE_5_0_5 kz_0_0 kz_0_1 kz_0_2 kz_5_5 kz_5_6 kz_5_8)⟩
  have nf1 : fc_1 PRD (20, [0, 4], [60, 1, 3, 747, 0, 14, 7, 8]) ws (vs) := ⟨nf_in hl rfl, sgq_388 (vc_Gr_addEdge_at_Gq_0_1 (v_iv (n_v vs 1)) (v_iv (n_v vs 2)) (v_iv (n_v vs 4)) (v_iv (n_v vs 6)) (w_fi ws (n_v vs 0) 0) (w_fi w1 (n_v vs 0) 1) (w_fi w1 (n_v vs 0) 0) (w_fi w2 (n_v vs 0) 0) (w_fi w2 (n_v vs 0) 1) (w_fi w3 (n_v vs 0) 0) (w_fi w3 (n_v vs 0) 1) (w_fi w4 (n_v vs 0) 0) (w_fi w4 (n_v vs 0) 1) (w_ei w5 (w_ar ws (n_v vs 0) 14)) (w_ei w5 (w_ar ws (n_v vs 0) 7)) (w_ei w5 (w_ar ws (n_v vs 0) 8)) (w_fi w5 (n_v vs 0) 0) (w_fi w5 (n_v vs 0) 1) (w_ei w5 (w_ar ws (n_v vs 5) 0)) (w_ei w5 (w_ar ws (n_v vs 0) 4)) (w_ei w5 (w_ar ws (n_v vs 0) 3)) (w_fi w5 (n_v vs 5) 5) (w_fi w5 (n_v vs 5) 6) (w_fi w5 (n_v vs 5) 8) (w_fi w5 (n_v vs 0) 2) (w_ei w5 (w_ar ws (n_v vs 0) 15)) (w_fi ws (n_v vs 0) 2) (w_fi w1 (n_v vs 0) 2) (w_fi ws (n_v vs 5) 5) (w_fi w1 (n_v vs 5) 5) (w_fi ws (n_v vs 5) 6) (w_fi w1 (n_v vs 5) 6) (w_fi ws (n_v vs 5) 8) (w_fi w1 (n_v vs 5) 8) (w_fi w2 (n_v vs 0) 2) (w_fi w2 (n_v vs 5) 5) (w_fi w2 (n_v vs 5) 6) (w_fi w2 (n_v vs 5) 8) (w_fi w3 (n_v vs 0) 2) (w_fi w3 (n_v vs 5) 5) (w_fi w3 (n_v vs 5) 6) (w_fi w3 (n_v vs 5) 8) (w_fi w4 (n_v vs 0) 2) (w_fi w4 (n_v vs 5) 5) (w_fi w4 (n_v vs 5) 6) (w_fi w4 (n_v vs 5) 8) (w_ei ws (w_ar ws (n_v vs 0) 3)) (w_ei w1 (w_ar ws (n_v vs 0) 3)) (w_ei w2 (w_ar ws (n_v vs 0) 3)) (w_ei w3 (w_ar ws (n_v vs 0) 3)) (w_ei w4 (w_ar ws (n_v vs 0) 3)) (w_ei ws (w_ar ws (n_v vs 0) 4)) (w_ei w1 (w_ar ws (n_v vs 0) 4)) (w_ei w2 (w_ar ws (n_v vs 0) 4)) (w_ei w3 (w_ar ws (n_v vs 0) 4)) (w_ei w4 (w_ar ws (n_v vs 0) 4)) (w_ei ws (w_ar ws (n_v vs 0) 7)) (w_ei w1 (w_ar ws (n_v vs 0) 7)) (w_ei w2 (w_ar ws (n_v vs 0) 7)) (w_ei w3 (w_ar ws (n_v vs 0) 7)) (w_ei w4 (w_ar ws (n_v vs 0) 7)) (w_ei ws (w_ar ws (n_v vs 0) 8)) (w_ei w1 (w_ar ws (n_v vs 0) 8)) (w_ei w2 (w_ar ws (n_v vs 0) 8)) (w_ei w3 (w_ar ws (n_v vs 0) 8)) (w_ei w4 (w_ar ws (n_v vs 0) 8)) (w_ei ws (w_ar ws (n_v vs 0) 9)) (w_ei w1 (w_ar ws (n_v vs 0) 9)) (w_ei w2 (w_ar ws (n_v vs 0) 9)) (w_ei w3 (w_ar ws (n_v vs 0) 9)) (w_ei w4 (w_ar ws (n_v vs 0) 9)) (w_ei w5 (w_ar ws (n_v vs 0) 9)) (w_ei ws (w_ar ws (n_v vs 0) 10)) (w_ei w1 (w_ar ws (n_v vs 0) 10)) (w_ei w2 (w_ar ws (n_v vs 0) 10)) (w_ei w3 (w_ar ws (n_v vs 0) 10)) (w_ei w4 (w_ar ws (n_v vs 0) 10)) (w_ei w5 (w_ar ws (n_v vs 0) 10)) (w_ei ws (w_ar ws (n_v vs 0) 14)) (w_ei w1 (w_ar ws (n_v vs 0) 14)) (w_ei w2 (w_ar ws (n_v vs 0) 14)) (w_ei w3 (w_ar ws (n_v vs 0) 14)) (w_ei w4 (w_ar ws (n_v vs 0) 14)) (w_ei ws (w_ar ws (n_v vs 0) 15)) (w_ei w1 (w_ar ws (n_v vs 0) 15)) (w_ei w2 (w_ar ws (n_v vs 0) 15)) (w_ei w3 (w_ar ws (n_v vs 0) 15)) (w_ei w4 (w_ar ws (n_v vs 0) 15)) (w_ei ws (w_ar ws (n_v vs 5) 0)) (w_ei w1 (w_ar ws (n_v vs 5) 0)) (w_ei w2 (w_ar ws (n_v vs 5) 0)) (w_ei w3 (w_ar ws (n_v vs 5) 0)) (w_ei w4 (w_ar ws (n_v vs 5) 0)) k1 k2 k4 k6 g8 (shm_436 f10) (shm_437 f11) f25 fe_0_0_1 fe_0_2_1 fe_5_5_1 fe_5_6_1 fe_5_8_1 fe_0_0_2 fe_0_1_2 fe_0_2_2 fe_5_5_2 fe_5_6_2 fe_5_8_2 fe_0_0_3 fe_0_1_3 fe_0_2_3 fe_5_5_3 fe_5_6_3 fe_5_8_3 fe_0_0_4 fe_0_1_4 fe_0_2_4 fe_5_5_4 fe_5_6_4 fe_5_8_4 fe_0_0_5 fe_0_1_5 fe_0_2_5 fe_5_5_5 fe_5_6_5 fe_5_8_5 hE_0_3_1 hE_0_3_2 hE_0_3_3 hE_0_3_4 hE_0_3_5 hE_0_4_1 hE_0_4_2 hE_0_4_3 hE_0_4_4 hE_0_4_5 hE_0_7_1 hE_0_7_2 hE_0_7_3 hE_0_7_4 hE_0_7_5 hE_0_8_1 hE_0_8_2 hE_0_8_3 hE_0_8_4 hE_0_8_5 hE_0_9_1 hE_0_9_2 hE_0_9_4 hE_0_9_5 hE_0_10_1 hE_0_10_3 hE_0_10_4 hE_0_10_5 hE_0_14_1 hE_0_14_2 hE_0_14_3 hE_0_14_4 hE_0_14_5 hE_0_15_1 hE_0_15_2 hE_0_15_3 hE_0_15_4 hE_0_15_5 hE_5_0_1 hE_5_0_2 hE_5_0_3 hE_5_0_4 hE_5_0_5 kz_0_0 kz_0_2 kz_5_5 kz_5_6 kz_5_8)⟩
  have nf2 : fc_1 PRD (20, [0], [60, 2, 2, 596, 0, 1, 7, 8]) ws (vs) := ⟨nf_in hl rfl, sgq_386 (vc_Gr_addEdge_at_Gq_0_2 (v_iv (n_v vs 1)) (v_iv (n_v vs 2)) (v_iv (n_v vs 4)) (v_iv (n_v vs 13)) (w_fi ws (n_v vs 0) 1) (w_fi ws (n_v vs 0) 0) (w_fi w1 (n_v vs 0) 1) (w_fi w1 (n_v vs 0) 0) (w_fi w2 (n_v vs 0) 0) (w_fi w2 (n_v vs 0) 1) (w_fi w3 (n_v vs 0) 0) (w_fi w3 (n_v vs 0) 1) (w_fi w4 (n_v vs 0) 0) (w_fi w4 (n_v vs 0) 1) (w_ei w5 (w_ar ws (n_v vs 0) 14)) (w_ei w5 (w_ar ws (n_v vs 0) 7)) (w_ei w5 (w_ar ws (n_v vs 0) 8)) (w_fi w5 (n_v vs 0) 0) (w_fi w5 (n_v vs 0) 1) (w_ei w5 (w_ar ws (n_v vs 5) 0)) (w_ei w5 (w_ar ws (n_v vs 0) 4)) (w_ei w5 (w_ar ws (n_v vs 0) 3)) (w_fi w5 (n_v vs 5) 5) (w_fi w5 (n_v vs 5) 6) (w_fi w5 (n_v vs 5) 8) (w_fi w5 (n_v vs 0) 2) (w_ei w5 (w_ar ws (n_v vs 0) 15)) (w_fi ws (n_v vs 0) 2) (w_fi w1 (n_v vs 0) 2) (w_fi ws (n_v vs 5) 5) (w_fi w1 (n_v vs 5) 5) (w_fi ws (n_v vs 5) 6) (w_fi w1 (n_v vs 5) 6) (w_fi ws (n_v vs 5) 8) (w_fi w1 (n_v vs 5) 8) (w_fi w2 (n_v vs 0) 2) (w_fi w2 (n_v vs 5) 5) (w_fi w2 (n_v vs 5) 6) (w_fi w2 (n_v vs 5) 8) (w_fi w3 (n_v vs 0) 2) (w_fi w3 (n_v vs 5) 5) (w_fi w3 (n_v vs 5) 6) (w_fi w3 (n_v vs 5) 8) (w_fi w4 (n_v vs 0) 2) (w_fi w4 (n_v vs 5) 5) (w_fi w4 (n_v vs 5) 6) (w_fi w4 (n_v vs 5) 8) (w_ei ws (w_ar ws (n_v vs 0) 3)) (w_ei w1 (w_ar ws (n_v vs 0) 3)) (w_ei w2 (w_ar ws (n_v vs 0) 3)) (w_ei w3 (w_ar ws (n_v vs 0) 3)) (w_ei w4 (w_ar ws (n_v vs 0) 3)) (w_ei ws (w_ar ws (n_v vs 0) 4)) (w_ei w1 (w_ar ws (n_v vs 0) 4)) (w_ei w2 (w_ar ws (n_v vs 0) 4)) (w_ei w3 (w_ar ws (n_v vs 0) 4)) (w_ei w4 (w_ar ws (n_v vs 0) 4)) (w_ei ws (w_ar ws (n_v vs 0) 7)) (w_ei w1 (w_ar ws (n_v vs 0) 7)) (w_ei w2 (w_ar ws (n_v vs 0) 7)) (w_ei w3 (w_ar ws (n_v vs 0) 7)) (w_ei w4 (w_ar ws (n_v vs 0) 7)) (w_ei ws (w_ar ws (n_v vs 0) 8)) (w_ei w1 (w_ar ws (n_v vs 0) 8)) (w_ei w2 (w_ar ws (n_v vs 0) 8)) (w_ei w3 (w_ar ws (n_v vs 0) 8)) (w_ei w4 (w_ar ws (n_v vs 0) 8)) (w_ei ws (w_ar ws (n_v vs 0) 9)) (w_ei w1 (w_ar ws (n_v vs 0) 9)) (w_ei w2 (w_ar ws (n_v vs 0) 9)) (w_ei w3 (w_ar ws (n_v vs 0) 9)) (w_ei w4 (w_ar ws (n_v vs 0) 9)) (w_ei w5 (w_ar ws (n_v vs 0) 9)) (w_ei ws (w_ar ws (n_v vs 0) 10)) (w_ei w1 (w_ar ws (n_v vs 0) 10)) (w_ei w2 (w_ar ws (n_v vs 0) 10)) (w_ei w3 (w_ar ws (n_v vs 0) 10)) (w_ei w4 (w_ar ws (n_v vs 0) 10)) (w_ei w5 (w_ar ws (n_v vs 0) 10)) (w_ei ws (w_ar ws (n_v vs 0) 14)) (w_ei w1 (w_ar ws (n_v vs 0) 14)) (w_ei w2 (w_ar ws (n_v vs 0) 14)) (w_ei w3 (w_ar ws (n_v vs 0) 14)) (w_ei w4 (w_ar ws (n_v vs 0) 14)) (w_ei ws (w_ar ws (n_v vs 0) 15)) (w_ei w1 (w_ar ws (n_v vs 0) 15)) (w_ei w2 (w_ar ws (n_v vs 0) 15)) (w_ei w3 (w_ar ws (n_v vs 0) 15)) (w_ei w4 (w_ar ws (n_v vs 0) 15)) (w_ei ws (w_ar ws (n_v vs 5) 0)) (w_ei w1 (w_ar ws (n_v vs 5) 0)) (w_ei w2 (w_ar ws (n_v vs 5) 0)) (w_ei w3 (w_ar ws (n_v vs 5) 0)) (w_ei w4 (w_ar ws (n_v vs 5) 0)) k1 k2 k4 k13 d0 g0 (shm_824 f5) g8 f26 (shm_824 f27) fe_0_0_1 fe_0_2_1 fe_5_5_1 fe_5_6_1 fe_5_8_1 fe_0_0_2 fe_0_1_2 fe_0_2_2 fe_5_5_2 fe_5_6_2 fe_5_8_2 fe_0_0_3 fe_0_1_3 fe_0_2_3 fe_5_5_3 fe_5_6_3 fe_5_8_3 fe_0_0_4 fe_0_1_4 fe_0_2_4 fe_5_5_4 fe_5_6_4 fe_5_8_4 fe_0_0_5 fe_0_1_5 fe_0_2_5 fe_5_5_5 fe_5_6_5 fe_5_8_5 hE_0_3_1 hE_0_3_2 hE_0_3_3 hE_0_3_4 hE_0_3_5 hE_0_4_1 hE_0_4_2 hE_0_4_3 hE_0_4_4 hE_0_4_5 hE_0_7_1 hE_0_7_2 hE_0_7_3 hE_0_7_4 hE_0_7_5 hE_0_8_1 hE_0_8_2 hE_0_8_3 hE_0_8_4 hE_0_8_5 hE_0_9_1 hE_0_9_2 hE_0_9_4 hE_0_9_5 hE_0_10_1 hE_0_10_3 hE_0_10_4 hE_0_10_5 hE_0_14_1 hE_0_14_2 hE_0_14_3 hE_0_14_4 hE_0_14_5 hE_0_15_1 hE_0_15_2 hE_0_15_3 hE_0_15_4 hE_0_15_5 hE_5_0_1 hE_5_0_2 hE_5_0_3 hE_5_0_4 hE_5_0_5 kz_0_0 kz_0_1 kz_0_2 kz_5_5 kz_5_6 kz_5_8)⟩
  have nf3 : fc_1 PRD (20, [5, 0, 1, 2], [60, 6, 5, 1068, 5, 6, 8, 1000, 1001, 1002, 0, 1004, 1003, 1007, 1008]) ws (vs) := ⟨nf_in hl rfl, sgq_829 (vc_Gr_addEdge_at_Gq_0_3 (v_iv (n_v vs 1)) (v_iv (n_v vs 2)) (v_iv (n_v vs 4)) (v_iv (n_v vs 13)) (w_fi ws (n_v vs 0) 1) (w_fi ws (n_v vs 0) 0) (w_fi w1 (n_v vs 0) 1) (w_fi w1 (n_v vs 0) 0) (w_fi w2 (n_v vs 0) 0) (w_fi w2 (n_v vs 0) 1) (w_fi w3 (n_v vs 0) 0) (w_fi w3 (n_v vs 0) 1) (w_fi w4 (n_v vs 0) 0) (w_fi w4 (n_v vs 0) 1) (w_ei w5 (w_ar ws (n_v vs 0) 14)) (w_ei w5 (w_ar ws (n_v vs 0) 7)) (w_ei w5 (w_ar ws (n_v vs 0) 8)) (w_fi w5 (n_v vs 0) 0) (w_fi w5 (n_v vs 0) 1) (w_ei w5 (w_ar ws (n_v vs 5) 0)) (w_ei w5 (w_ar ws (n_v vs 0) 4)) (w_ei w5 (w_ar ws (n_v vs 0) 3)) (w_fi w5 (n_v vs 5) 5) (w_fi w5 (n_v vs 5) 6) (w_fi w5 (n_v vs 5) 8) (w_fi w5 (n_v vs 0) 2) (w_ei w5 (w_ar ws (n_v vs 0) 15)) (w_fi ws (n_v vs 0) 2) (w_fi w1 (n_v vs 0) 2) (w_fi ws (n_v vs 5) 5) (w_fi w1 (n_v vs 5) 5) (w_fi ws (n_v vs 5) 6) (w_fi w1 (n_v vs 5) 6) (w_fi ws (n_v vs 5) 8) (w_fi w1 (n_v vs 5) 8) (w_fi w2 (n_v vs 0) 2) (w_fi w2 (n_v vs 5) 5) (w_fi w2 (n_v vs 5) 6) (w_fi w2 (n_v vs 5) 8) (w_fi w3 (n_v vs 0) 2) (w_fi w3 (n_v vs 5) 5) (w_fi w3 (n_v vs 5) 6) (w_fi w3 (n_v vs 5) 8) (w_fi w4 (n_v vs 0) 2) (w_fi w4 (n_v vs 5) 5) (w_fi w4 (n_v vs 5) 6) (w_fi w4 (n_v vs 5) 8) (w_ei ws (w_ar ws (n_v vs 0) 3)) (w_ei w1 (w_ar ws (n_v vs 0) 3)) (w_ei w2 (w_ar ws (n_v vs 0) 3)) (w_ei w3 (w_ar ws (n_v vs 0) 3)) (w_ei w4 (w_ar ws (n_v vs 0) 3)) (w_ei ws (w_ar ws (n_v vs 0) 4)) (w_ei w1 (w_ar ws (n_v vs 0) 4)) (w_ei w2 (w_ar ws (n_v vs 0) 4)) (w_ei w3 (w_ar ws (n_v vs 0) 4)) (w_ei w4 (w_ar ws (n_v vs 0) 4)) (w_ei ws (w_ar ws (n_v vs 0) 7)) (w_ei w1 (w_ar ws (n_v vs 0) 7)) (w_ei w2 (w_ar ws (n_v vs 0) 7)) (w_ei w3 (w_ar ws (n_v vs 0) 7)) (w_ei w4 (w_ar ws (n_v vs 0) 7)) (w_ei ws (w_ar ws (n_v vs 0) 8)) (w_ei w1 (w_ar ws (n_v vs 0) 8)) (w_ei w2 (w_ar ws (n_v vs 0) 8)) (w_ei w3 (w_ar ws (n_v vs 0) 8)) (w_ei w4 (w_ar ws (n_v vs 0) 8)) (w_ei ws (w_ar ws (n_v vs 0) 9)) (w_ei w1 (w_ar ws (n_v vs 0) 9)) (w_ei w2 (w_ar ws (n_v vs 0) 9)) (w_ei w3 (w_ar ws (n_v vs 0) 9)) (w_ei w4 (w_ar ws (n_v vs 0) 9)) (w_ei w5 (w_ar ws (n_v vs 0) 9)) (w_ei ws (w_ar ws (n_v vs 0) 10)) (w_ei w1 (w_ar ws (n_v vs 0) 10)) (w_ei w2 (w_ar ws (n_v vs 0) 10)) (w_ei w3 (w_ar ws (n_v vs 0) 10)) (w_ei w4 (w_ar ws (n_v vs 0) 10)) (w_ei w5 (w_ar ws (n_v vs 0) 10)) (w_ei ws (w_ar ws (n_v vs 0) 14)) (w_ei w1 (w_ar ws (n_v vs 0) 14)) (w_ei w2 (w_ar ws (n_v vs 0) 14)) (w_ei w3 (w_ar ws (n_v vs 0) 14)) (w_ei w4 (w_ar ws (n_v vs 0) 14)) (w_ei ws (w_ar ws (n_v vs 0) 15)) (w_ei w1 (w_ar ws (n_v vs 0) 15)) (w_ei w2 (w_ar ws (n_v vs 0) 15)) (w_ei w3 (w_ar ws (n_v vs 0) 15)) (w_ei w4 (w_ar ws (n_v vs 0) 15)) (w_ei ws (w_ar ws (n_v vs 5) 0)) (w_ei w1 (w_ar ws (n_v vs 5) 0)) (w_ei w2 (w_ar ws (n_v vs 5) 0)) (w_ei w3 (w_ar ws (n_v vs 5) 0)) (w_ei w4 (w_ar ws (n_v vs 5) 0)) k1 k2 k4 k13 d0 g0 g8 f28 fe_0_0_1 fe_0_2_1 fe_5_5_1 fe_5_6_1 fe_5_8_1 fe_0_0_2 fe_0_1_2 fe_0_2_2 fe_5_5_2 fe_5_6_2 fe_5_8_2 fe_0_0_3 fe_0_1_3 fe_0_2_3 fe_5_5_3 fe_5_6_3 fe_5_8_3 fe_0_0_4 fe_0_1_4 fe_0_2_4 fe_5_5_4 fe_5_6_4 fe_5_8_4 fe_0_0_5 fe_0_1_5 fe_0_2_5 fe_5_5_5 fe_5_6_5 fe_5_8_5 hE_0_3_1 hE_0_3_2 hE_0_3_3 hE_0_3_4 hE_0_3_5 hE_0_4_1 hE_0_4_2 hE_0_4_3 hE_0_4_4 hE_0_4_5 hE_0_7_1 hE_0_7_2 hE_0_7_3 hE_0_7_4 hE_0_7_5 hE_0_8_1 hE_0_8_2 hE_0_8_3 hE_0_8_4 hE_0_8_5 hE_0_9_1 hE_0_9_2 hE_0_9_4 hE_0_9_5 hE_0_10_1 hE_0_10_3 hE_0_10_4 hE_0_10_5 hE_0_14_1 hE_0_14_2 hE_0_14_3 hE_0_14_4 hE_0_14_5 hE_0_15_1 hE_0_15_2 hE_0_15_3 hE_0_15_4 hE_0_15_5 hE_5_0_1 hE_5_0_2 hE_5_0_3 hE_5_0_4 hE_5_0_5 kz_0_0 kz_0_1 kz_0_2 kz_5_5 kz_5_6 kz_5_8)⟩
  have nf4 : fc_1 PRD (20, [0, 4], [60, 0, 3, 1086, 7, 8, 15]) ws (vs) := ⟨nf_in hl rfl, sgq_389 (vc_Gr_addEdge_at_Gq_0_4 (v_iv (n_v vs 1)) (v_iv (n_v vs 2)) (v_iv (n_v vs 4)) (v_iv (n_v vs 13)) (w_fi ws (n_v vs 0) 1) (w_fi ws (n_v vs 0) 0) (w_fi w1 (n_v vs 0) 1) (w_fi w1 (n_v vs 0) 0) (w_fi w2 (n_v vs 0) 0) (w_fi w2 (n_v vs 0) 1) (w_fi w3 (n_v vs 0) 0) (w_fi w3 (n_v vs 0) 1) (w_fi w4 (n_v vs 0) 0) (w_fi w4 (n_v vs 0) 1) (w_ei w5 (w_ar ws (n_v vs 0) 14)) (w_ei w5 (w_ar ws (n_v vs 0) 7)) (w_ei w5 (w_ar ws (n_v vs 0) 8)) (w_fi w5 (n_v vs 0) 0) (w_fi w5 (n_v vs 0) 1) (w_ei w5 (w_ar ws (n_v vs 5) 0)) (w_ei w5 (w_ar ws (n_v vs 0) 4)) (w_ei w5 (w_ar ws (n_v vs 0) 3)) (w_fi w5 (n_v vs 5) 5) (w_fi w5 (n_v vs 5) 6) (w_fi w5 (n_v vs 5) 8) (w_fi w5 (n_v vs 0) 2) (w_ei w5 (w_ar ws (n_v vs 0) 15)) (w_fi ws (n_v vs 0) 2) (w_fi w1 (n_v vs 0) 2) (w_fi ws (n_v vs 5) 5) (w_fi w1 (n_v vs 5) 5) (w_fi ws (n_v vs 5) 6) (w_fi w1 (n_v vs 5) 6) (w_fi ws (n_v vs 5) 8) (w_fi w1 (n_v vs 5) 8) (w_fi w2 (n_v vs 0) 2) (w_fi w2 (n_v vs 5) 5) (w_fi w2 (n_v vs 5) 6) (w_fi w2 (n_v vs 5) 8) (w_fi w3 (n_v vs 0) 2) (w_fi w3 (n_v vs 5) 5) (w_fi w3 (n_v vs 5) 6) (w_fi w3 (n_v vs 5) 8) (w_fi w4 (n_v vs 0) 2) (w_fi w4 (n_v vs 5) 5) (w_fi w4 (n_v vs 5) 6) (w_fi w4 (n_v vs 5) 8) (w_ei ws (w_ar ws (n_v vs 0) 3)) (w_ei w1 (w_ar ws (n_v vs 0) 3)) (w_ei w2 (w_ar ws (n_v vs 0) 3)) (w_ei w3 (w_ar ws (n_v vs 0) 3)) (w_ei w4 (w_ar ws (n_v vs 0) 3)) (w_ei ws (w_ar ws (n_v vs 0) 4)) (w_ei w1 (w_ar ws (n_v vs 0) 4)) (w_ei w2 (w_ar ws (n_v vs 0) 4)) (w_ei w3 (w_ar ws (n_v vs 0) 4)) (w_ei w4 (w_ar ws (n_v vs 0) 4)) (w_ei ws (w_ar ws (n_v vs 0) 7)) (w_ei w1 (w_ar ws (n_v vs 0) 7)) (w_ei w2 (w_ar ws (n_v vs 0) 7)) (w_ei w3 (w_ar ws (n_v vs 0) 7)) (w_ei w4 (w_ar ws (n_v vs 0) 7)) (w_ei ws (w_ar ws (n_v vs 0) 8)) (w_ei w1 (w_ar ws (n_v vs 0) 8)) (w_ei w2 (w_ar ws (n_v vs 0) 8)) (w_ei w3 (w_ar ws (n_v vs 0) 8)) (w_ei w4 (w_ar ws (n_v vs 0) 8)) (w_ei ws (w_ar ws (n_v vs 0) 9)) (w_ei w1 (w_ar ws (n_v vs 0) 9)) (w_ei w2 (w_ar ws (n_v vs 0) 9)) (w_ei w3 (w_ar ws (n_v vs 0) 9)) (w_ei w4 (w_ar ws (n_v vs 0) 9)) (w_ei w5 (w_ar ws (n_v vs 0) 9)) (w_ei ws (w_ar ws (n_v vs 0) 10)) (w_ei w1 (w_ar ws (n_v vs 0) 10)) (w_ei w2 (w_ar ws (n_v vs 0) 10)) (w_ei w3 (w_ar ws (n_v vs 0) 10)) (w_ei w4 (w_ar ws (n_v vs 0) 10)) (w_ei w5 (w_ar ws (n_v vs 0) 10)) (w_ei ws (w_ar ws (n_v vs 0) 14)) (w_ei w1 (w_ar ws (n_v vs 0) 14)) (w_ei w2 (w_ar ws (n_v vs 0) 14)) (w_ei w3 (w_ar ws (n_v vs 0) 14)) (w_ei w4 (w_ar ws (n_v vs 0) 14)) (w_ei ws (w_ar ws (n_v vs 0) 15)) (w_ei w1 (w_ar ws (n_v vs 0) 15)) (w_ei w2 (w_ar ws (n_v vs 0) 15)) (w_ei w3 (w_ar ws (n_v vs 0) 15)) (w_ei w4 (w_ar ws (n_v vs 0) 15)) (w_ei ws (w_ar ws (n_v vs 5) 0)) (w_ei w1 (w_ar ws (n_v vs 5) 0)) (w_ei w2 (w_ar ws (n_v vs 5) 0)) (w_ei w3 (w_ar ws (n_v vs 5) 0)) (w_ei w4 (w_ar ws (n_v vs 5) 0)) k1 k2 k4 k13 g0 g8 f29 fe_0_0_1 fe_0_2_1 fe_5_5_1 fe_5_6_1 fe_5_8_1 fe_0_0_2 fe_0_1_2 fe_0_2_2 fe_5_5_2 fe_5_6_2 fe_5_8_2 fe_0_0_3 fe_0_1_3 fe_0_2_3 fe_5_5_3 fe_5_6_3 fe_5_8_3 fe_0_0_4 fe_0_1_4 fe_0_2_4 fe_5_5_4 fe_5_6_4 fe_5_8_4 fe_0_0_5 fe_0_1_5 fe_0_2_5 fe_5_5_5 fe_5_6_5 fe_5_8_5 hE_0_3_1 hE_0_3_2 hE_0_3_3 hE_0_3_4 hE_0_3_5 hE_0_4_1 hE_0_4_2 hE_0_4_3 hE_0_4_4 hE_0_4_5 hE_0_7_1 hE_0_7_2 hE_0_7_3 hE_0_7_4 hE_0_7_5 hE_0_8_1 hE_0_8_2 hE_0_8_3 hE_0_8_4 hE_0_8_5 hE_0_9_1 hE_0_9_2 hE_0_9_4 hE_0_9_5 hE_0_10_1 hE_0_10_3 hE_0_10_4 hE_0_10_5 hE_0_14_1 hE_0_14_2 hE_0_14_3 hE_0_14_4 hE_0_14_5 hE_0_15_1 hE_0_15_2 hE_0_15_3 hE_0_15_4 hE_0_15_5 hE_5_0_1 hE_5_0_2 hE_5_0_3 hE_5_0_4 hE_5_0_5 kz_0_0 kz_0_1 kz_0_2 kz_5_5 kz_5_6 kz_5_8)⟩
  have nf5 : fc_1 PRD (20, [4, 6], [50, 0, 0, 1, 2, 1, 0, 1, 1]) ws (vs) := ⟨nf_in hl rfl, sgq_48 (vc_Gr_addEdge_at_Gq_0_5 (v_iv (n_v vs 4)) (v_iv (n_v vs 6)) (v_iv (n_v vs 13)) (w_fi ws (n_v vs 0) 1) (w_fi ws (n_v vs 0) 0) (w_fi w1 (n_v vs 0) 1) (w_fi w1 (n_v vs 0) 0) (w_fi w2 (n_v vs 0) 0) (w_fi w2 (n_v vs 0) 1) (w_fi w3 (n_v vs 0) 0) (w_fi w3 (n_v vs 0) 1) (w_fi w4 (n_v vs 0) 0) (w_fi w4 (n_v vs 0) 1) (w_ei w5 (w_ar ws (n_v vs 0) 14)) (w_ei w5 (w_ar ws (n_v vs 0) 8)) (w_fi w5 (n_v vs 0) 0) (w_fi w5 (n_v vs 0) 1) (w_ei w5 (w_ar ws (n_v vs 5) 0)) (w_ei w5 (w_ar ws (n_v vs 0) 4)) (w_ei w5 (w_ar ws (n_v vs 0) 3)) (w_fi w5 (n_v vs 5) 5) (w_fi w5 (n_v vs 5) 6) (w_fi w5 (n_v vs 5) 8) (w_fi w5 (n_v vs 0) 2) (w_ei w5 (w_ar ws (n_v vs 0) 15)) (w_fi ws (n_v vs 0) 2) (w_fi w1 (n_v vs 0) 2) (w_fi ws (n_v vs 5) 5) (w_fi w1 (n_v vs 5) 5) (w_fi ws (n_v vs 5) 6) (w_fi w1 (n_v vs 5) 6) (w_fi ws (n_v vs 5) 8) (w_fi w1 (n_v vs 5) 8) (w_fi w2 (n_v vs 0) 2) (w_fi w2 (n_v vs 5) 5) (w_fi w2 (n_v vs 5) 6) (w_fi w2 (n_v vs 5) 8) (w_fi w3 (n_v vs 0) 2) (w_fi w3 (n_v vs 5) 5) (w_fi w3 (n_v vs 5) 6) (w_fi w3 (n_v vs 5) 8) (w_fi w4 (n_v vs 0) 2) (w_fi w4 (n_v vs 5) 5) (w_fi w4 (n_v vs 5) 6) (w_fi w4 (n_v vs 5) 8) (w_ei ws (w_ar ws (n_v vs 0) 3)) (w_ei w1 (w_ar ws (n_v vs 0) 3)) (w_ei w2 (w_ar ws (n_v vs 0) 3)) (w_ei w3 (w_ar ws (n_v vs 0) 3)) (w_ei w4 (w_ar ws (n_v vs 0) 3)) (w_ei ws (w_ar ws (n_v vs 0) 4)) (w_ei w1 (w_ar ws (n_v vs 0) 4)) (w_ei w2 (w_ar ws (n_v vs 0) 4)) (w_ei w3 (w_ar ws (n_v vs 0) 4)) (w_ei w4 (w_ar ws (n_v vs 0) 4)) (w_ei ws (w_ar ws (n_v vs 0) 7)) (w_ei w1 (w_ar ws (n_v vs 0) 7)) (w_ei w2 (w_ar ws (n_v vs 0) 7)) (w_ei w3 (w_ar ws (n_v vs 0) 7)) (w_ei w4 (w_ar ws (n_v vs 0) 7)) (w_ei ws (w_ar ws (n_v vs 0) 8)) (w_ei w1 (w_ar ws (n_v vs 0) 8)) (w_ei w2 (w_ar ws (n_v vs 0) 8)) (w_ei w3 (w_ar ws (n_v vs 0) 8)) (w_ei w4 (w_ar ws (n_v vs 0) 8)) (w_ei ws (w_ar ws (n_v vs 0) 9)) (w_ei w1 (w_ar ws (n_v vs 0) 9)) (w_ei w2 (w_ar ws (n_v vs 0) 9)) (w_ei w3 (w_ar ws (n_v vs 0) 9)) (w_ei w4 (w_ar ws (n_v vs 0) 9)) (w_ei w5 (w_ar ws (n_v vs 0) 9)) (w_ei ws (w_ar ws (n_v vs 0) 10)) (w_ei w1 (w_ar ws (n_v vs 0) 10)) (w_ei w2 (w_ar ws (n_v vs 0) 10)) (w_ei w3 (w_ar ws (n_v vs 0) 10)) (w_ei w4 (w_ar ws (n_v vs 0) 10)) (w_ei w5 (w_ar ws (n_v vs 0) 10)) (w_ei ws (w_ar ws (n_v vs 0) 14)) (w_ei w1 (w_ar ws (n_v vs 0) 14)) (w_ei w2 (w_ar ws (n_v vs 0) 14)) (w_ei w3 (w_ar ws (n_v vs 0) 14)) (w_ei w4 (w_ar ws (n_v vs 0) 14)) (w_ei ws (w_ar ws (n_v vs 0) 15)) (w_ei w1 (w_ar ws (n_v vs 0) 15)) (w_ei w2 (w_ar ws (n_v vs 0) 15)) (w_ei w3 (w_ar ws (n_v vs 0) 15)) (w_ei w4 (w_ar ws (n_v vs 0) 15)) (w_ei ws (w_ar ws (n_v vs 5) 0)) (w_ei w1 (w_ar ws (n_v vs 5) 0)) (w_ei w2 (w_ar ws (n_v vs 5) 0)) (w_ei w3 (w_ar ws (n_v vs 5) 0)) (w_ei w4 (w_ar ws (n_v vs 5) 0)) k4 k6 k13 d0 g0 g8 (shm_436 f10) (shm_437 f11) fe_0_0_1 fe_0_2_1 fe_5_5_1 fe_5_6_1 fe_5_8_1 fe_0_0_2 fe_0_1_2 fe_0_2_2 fe_5_5_2 fe_5_6_2 fe_5_8_2 fe_0_0_3 fe_0_1_3 fe_0_2_3 fe_5_5_3 fe_5_6_3 fe_5_8_3 fe_0_0_4 fe_0_1_4 fe_0_2_4 fe_5_5_4 fe_5_6_4 fe_5_8_4 fe_0_0_5 fe_0_1_5 fe_0_2_5 fe_5_5_5 fe_5_6_5 fe_5_8_5 hE_0_3_1 hE_0_3_2 hE_0_3_3 hE_0_3_4 hE_0_3_5 hE_0_4_1 hE_0_4_2 hE_0_4_3 hE_0_4_4 hE_0_4_5 hE_0_7_1 hE_0_7_2 hE_0_7_3 hE_0_7_4 hE_0_8_1 hE_0_8_2 hE_0_8_3 hE_0_8_5 hE_0_9_1 hE_0_9_2 hE_0_9_4 hE_0_9_5 hE_0_10_1 hE_0_10_3 hE_0_10_4 hE_0_10_5 hE_0_14_1 hE_0_14_2 hE_0_14_3 hE_0_14_4 hE_0_14_5 hE_0_15_1 hE_0_15_2 hE_0_15_3 hE_0_15_4 hE_0_15_5 hE_5_0_1 hE_5_0_2 hE_5_0_3 hE_5_0_4 hE_5_0_5 kz_0_0 kz_0_1 kz_0_2 kz_5_5 kz_5_6 kz_5_8)⟩
  refine ⟨(fun _ h => (by cases h)), [], trivial, ?_, (fun _ h => (by cases h))⟩
  rw [List.append_nil]
  exact List.forall_mem_cons.mpr ⟨⟨show (20 : Nat) < 100 from by decide, nf0⟩, List.forall_mem_cons.mpr ⟨⟨show (20 : Nat) < 100 from by decide, nf1⟩, List.forall_mem_cons.mpr ⟨⟨show (20 : Nat) < 100 from by decide, nf2⟩, List.forall_mem_cons.mpr ⟨⟨show (20 : Nat) < 100 from by decide, nf3⟩, List.forall_mem_cons.mpr ⟨⟨show (20 : Nat) < 100 from by decide, nf4⟩, List.forall_mem_cons.mpr ⟨⟨show (20 : Nat) < 100 from by decide, nf5⟩, (fun _ h => (by cases h))⟩⟩⟩⟩⟩⟩
set_option maxHeartbeats 4000000 in
theorem vc_Gr_addEdge_at_Gq_1_0 (x4 : Int) (x13 : Int) (edges_0 : Int) (near_0 : Int → Int) (tail_0 : Int → Int) (head_0 : Int → Int) (nodes_0 : Int) (tape_0o5 : Int → Int) (nameLength_0 : Int → Int) (name_0 : Int → Int) (end_0o5 : Int) (next_0o5 : Int) (begin_0o5 : Int) (groups_0 : Int) (link_0 : Int → Int) (edges_1 : Int) (nodes_1 : Int) (nodes_2 : Int) (edges_2 : Int) (nodes_3 : Int) (edges_3 : Int) (nodes_4 : Int) (edges_4 : Int) (near_5 : Int → Int) (head_5 : Int → Int) (nodes_5 : Int) (edges_5 : Int) (tape_5o5 : Int → Int) (nameLength_5 : Int → Int) (name_5 : Int → Int) (end_5o5 : Int) (next_5o5 : Int) (begin_5o5 : Int) (groups_5 : Int) (link_5 : Int → Int) (groups_1 : Int) (end_1o5 : Int) (next_1o5 : Int) (begin_1o5 : Int) (groups_2 : Int) (end_2o5 : Int) (next_2o5 : Int) (begin_2o5 : Int) (groups_3 : Int) (end_3o5 : Int) (next_3o5 : Int) (begin_3o5 : Int) (groups_4 : Int) (end_4o5 : Int) (next_4o5 : Int) (begin_4o5 : Int) (name_1 : Int → Int) (name_2 : Int → Int) (name_3 : Int → Int) (name_4 : Int → Int) (nameLength_1 : Int → Int) (nameLength_2 : Int → Int) (nameLength_3 : Int → Int) (nameLength_4 : Int → Int) (tail_1 : Int → Int) (tail_2 : Int → Int) (tail_3 : Int → Int) (tail_4 : Int → Int) (head_1 : Int → Int) (head_2 : Int → Int) (head_3 : Int → Int) (head_4 : Int → Int) (weight_0 : Int → Int) (weight_1 : Int → Int) (weight_2 : Int → Int) (weight_3 : Int → Int) (weight_4 : Int → Int) (weight_5 : Int → Int) (oneWay_0 : Int → Int) (oneWay_1 : Int → Int) (oneWay_2 : Int → Int) (oneWay_3 : Int → Int) (oneWay_4 : Int → Int) (oneWay_5 : Int → Int) (near_1 : Int → Int) (near_2 : Int → Int) (near_3 : Int → Int) (near_4 : Int → Int) (link_1 : Int → Int) (link_2 : Int → Int) (link_3 : Int → Int) (link_4 : Int → Int) (tape_1o5 : Int → Int) (tape_2o5 : Int → Int) (tape_3o5 : Int → Int) (tape_4o5 : Int → Int) (k4 : 0 ≤ x4 ∧ x4 ≤ 47) (k13 : 1 ≤ x13 ∧ x13 ≤ 48) (d0 : x4 + 1 ≤ x13 ∧ x13 ≤ x4 + 1) (g0 : x13 = edges_0) (g14 : x4 = edges_1) (fe_0_0_1 : nodes_0 = nodes_1) (fe_0_2_1 : groups_0 = groups_1) (fe_5_5_1 : end_0o5 = end_1o5) (fe_5_6_1 : next_0o5 = next_1o5) (fe_5_8_1 : begin_0o5 = begin_1o5) (fe_0_0_2 : nodes_1 = nodes_2) (fe_0_1_2 : edges_1 = edges_2) (fe_0_2_2 : groups_1 = groups_2) (fe_5_5_2 : end_1o5 = end_2o5) (fe_5_6_2 : next_1o5 = next_2o5) (fe_5_8_2 : begin_1o5 = begin_2o5) (fe_0_0_3 : nodes_2 = nodes_3) (fe_0_1_3 : edges_2 = edges_3) (fe_0_2_3 : groups_2 = groups_3) (fe_5_5_3 : end_2o5 = end_3o5) (fe_5_6_3 : next_2o5 = next_3o5) (fe_5_8_3 : begin_2o5 = begin_3o5) (fe_0_0_4 : nodes_3 = nodes_4) (fe_0_1_4 : edges_3 = edges_4) (fe_0_2_4 : groups_3 = groups_4) (fe_5_5_4 : end_3o5 = end_4o5) (fe_5_6_4 : next_3o5 = next_4o5) (fe_5_8_4 : begin_3o5 = begin_4o5) (fe_0_0_5 : nodes_4 = nodes_5) (fe_0_1_5 : edges_4 = edges_5) (fe_0_2_5 : groups_4 = groups_5) (fe_5_5_5 : end_4o5 = end_5o5) (fe_5_6_5 : next_4o5 = next_5o5) (fe_5_8_5 : begin_4o5 = begin_5o5) (hE_0_3_1 : ∀ j : Int, name_0 j = name_1 j) (hE_0_3_2 : ∀ j : Int, name_1 j = name_2 j) (hE_0_3_3 : ∀ j : Int, name_2 j = name_3 j) (hE_0_3_4 : ∀ j : Int, name_3 j = name_4 j) (hE_0_3_5 : ∀ j : Int, name_4 j = name_5 j) (hE_0_4_1 : ∀ j : Int, nameLength_0 j = nameLength_1 j) (hE_0_4_2 : ∀ j : Int, nameLength_1 j = nameLength_2 j) (hE_0_4_3 : ∀ j : Int, nameLength_2 j = nameLength_3 j) (hE_0_4_4 : ∀ j : Int, nameLength_3 j = nameLength_4 j) (hE_0_4_5 : ∀ j : Int, nameLength_4 j = nameLength_5 j) (hE_0_7_1 : ∀ j : Int, tail_0 j = tail_1 j) (hE_0_7_2 : ∀ j : Int, tail_1 j = tail_2 j) (hE_0_7_3 : ∀ j : Int, tail_2 j = tail_3 j) (hE_0_7_4 : ∀ j : Int, tail_3 j = tail_4 j) (hE_0_8_1 : ∀ j : Int, head_0 j = head_1 j) (hE_0_8_2 : ∀ j : Int, head_1 j = head_2 j) (hE_0_8_3 : ∀ j : Int, head_2 j = head_3 j) (hE_0_8_5 : ∀ j : Int, head_4 j = head_5 j) (hE_0_9_1 : ∀ j : Int, weight_0 j = weight_1 j) (hE_0_9_2 : ∀ j : Int, weight_1 j = weight_2 j) (hE_0_9_4 : ∀ j : Int, weight_3 j = weight_4 j) (hE_0_9_5 : ∀ j : Int, weight_4 j = weight_5 j) (hE_0_10_1 : ∀ j : Int, oneWay_0 j = oneWay_1 j) (hE_0_10_3 : ∀ j : Int, oneWay_2 j = oneWay_3 j) (hE_0_10_4 : ∀ j : Int, oneWay_3 j = oneWay_4 j) (hE_0_10_5 : ∀ j : Int, oneWay_4 j = oneWay_5 j) (hE_0_14_1 : ∀ j : Int, near_0 j = near_1 j) (hE_0_14_2 : ∀ j : Int, near_1 j = near_2 j) (hE_0_14_3 : ∀ j : Int, near_2 j = near_3 j) (hE_0_14_4 : ∀ j : Int, near_3 j = near_4 j) (hE_0_14_5 : ∀ j : Int, near_4 j = near_5 j) (hE_0_15_1 : ∀ j : Int, link_0 j = link_1 j) (hE_0_15_2 : ∀ j : Int, link_1 j = link_2 j) (hE_0_15_3 : ∀ j : Int, link_2 j = link_3 j) (hE_0_15_4 : ∀ j : Int, link_3 j = link_4 j) (hE_0_15_5 : ∀ j : Int, link_4 j = link_5 j) (hE_5_0_1 : ∀ j : Int, tape_0o5 j = tape_1o5 j) (hE_5_0_2 : ∀ j : Int, tape_1o5 j = tape_2o5 j) (hE_5_0_3 : ∀ j : Int, tape_2o5 j = tape_3o5 j) (hE_5_0_4 : ∀ j : Int, tape_3o5 j = tape_4o5 j) (hE_5_0_5 : ∀ j : Int, tape_4o5 j = tape_5o5 j) (kz_0_0 : 0 ≤ nodes_0 ∧ nodes_0 ≤ 24) (kz_0_1 : 0 ≤ edges_0 ∧ edges_0 ≤ 48) (kz_0_2 : 0 ≤ groups_0 ∧ groups_0 ≤ 8) (kz_5_5 : 0 ≤ end_0o5 ∧ end_0o5 ≤ 2000) (kz_5_6 : 0 ≤ next_0o5 ∧ next_0o5 ≤ 2000) (kz_5_8 : 0 ≤ begin_0o5 ∧ begin_0o5 ≤ 2000) : (0 ≤ x4) ∧ ((x4 + 1) ≤ edges_0) := by
  subst fe_0_0_1
  subst fe_0_2_1
  subst fe_5_5_1
  subst fe_5_6_1
  subst fe_5_8_1
  subst fe_0_0_2
  subst fe_0_1_2
  subst fe_0_2_2
  subst fe_5_5_2
  subst fe_5_6_2
  subst fe_5_8_2
  subst fe_0_0_3
  subst fe_0_1_3
  subst fe_0_2_3
  subst fe_5_5_3
  subst fe_5_6_3
  subst fe_5_8_3
  subst fe_0_0_4
  subst fe_0_1_4
  subst fe_0_2_4
  subst fe_5_5_4
  subst fe_5_6_4
  subst fe_5_8_4
  subst fe_0_0_5
  subst fe_0_1_5
  subst fe_0_2_5
  subst fe_5_5_5
  subst fe_5_6_5
  subst fe_5_8_5
  have e_hE_0_3_1 := funext hE_0_3_1; subst e_hE_0_3_1
  have e_hE_0_3_2 := funext hE_0_3_2; subst e_hE_0_3_2
  have e_hE_0_3_3 := funext hE_0_3_3; subst e_hE_0_3_3
  have e_hE_0_3_4 := funext hE_0_3_4; subst e_hE_0_3_4
  have e_hE_0_3_5 := funext hE_0_3_5; subst e_hE_0_3_5
  have e_hE_0_4_1 := funext hE_0_4_1; subst e_hE_0_4_1
  have e_hE_0_4_2 := funext hE_0_4_2; subst e_hE_0_4_2
  have e_hE_0_4_3 := funext hE_0_4_3; subst e_hE_0_4_3
  have e_hE_0_4_4 := funext hE_0_4_4; subst e_hE_0_4_4
  have e_hE_0_4_5 := funext hE_0_4_5; subst e_hE_0_4_5
  have e_hE_0_7_1 := funext hE_0_7_1; subst e_hE_0_7_1
  have e_hE_0_7_2 := funext hE_0_7_2; subst e_hE_0_7_2
  have e_hE_0_7_3 := funext hE_0_7_3; subst e_hE_0_7_3
  have e_hE_0_7_4 := funext hE_0_7_4; subst e_hE_0_7_4
  have e_hE_0_8_1 := funext hE_0_8_1; subst e_hE_0_8_1
  have e_hE_0_8_2 := funext hE_0_8_2; subst e_hE_0_8_2
  have e_hE_0_8_3 := funext hE_0_8_3; subst e_hE_0_8_3
  have e_hE_0_8_5 := funext hE_0_8_5; subst e_hE_0_8_5
  have e_hE_0_9_1 := funext hE_0_9_1; subst e_hE_0_9_1
  have e_hE_0_9_2 := funext hE_0_9_2; subst e_hE_0_9_2
  have e_hE_0_9_4 := funext hE_0_9_4; subst e_hE_0_9_4
  have e_hE_0_9_5 := funext hE_0_9_5; subst e_hE_0_9_5
  have e_hE_0_10_1 := funext hE_0_10_1; subst e_hE_0_10_1
  have e_hE_0_10_3 := funext hE_0_10_3; subst e_hE_0_10_3
  have e_hE_0_10_4 := funext hE_0_10_4; subst e_hE_0_10_4
  have e_hE_0_10_5 := funext hE_0_10_5; subst e_hE_0_10_5
  have e_hE_0_14_1 := funext hE_0_14_1; subst e_hE_0_14_1
  have e_hE_0_14_2 := funext hE_0_14_2; subst e_hE_0_14_2
  have e_hE_0_14_3 := funext hE_0_14_3; subst e_hE_0_14_3
  have e_hE_0_14_4 := funext hE_0_14_4; subst e_hE_0_14_4
  have e_hE_0_14_5 := funext hE_0_14_5; subst e_hE_0_14_5
  have e_hE_0_15_1 := funext hE_0_15_1; subst e_hE_0_15_1
  have e_hE_0_15_2 := funext hE_0_15_2; subst e_hE_0_15_2
  have e_hE_0_15_3 := funext hE_0_15_3; subst e_hE_0_15_3
  have e_hE_0_15_4 := funext hE_0_15_4; subst e_hE_0_15_4
  have e_hE_0_15_5 := funext hE_0_15_5; subst e_hE_0_15_5
  have e_hE_5_0_1 := funext hE_5_0_1; subst e_hE_5_0_1
  have e_hE_5_0_2 := funext hE_5_0_2; subst e_hE_5_0_2
  have e_hE_5_0_3 := funext hE_5_0_3; subst e_hE_5_0_3
  have e_hE_5_0_4 := funext hE_5_0_4; subst e_hE_5_0_4
  have e_hE_5_0_5 := funext hE_5_0_5; subst e_hE_5_0_5
  first
    | omega
  
def o_Gr_addEdge_at_Gq_1 : or_T := (51, 14, [(0, (2, 0, 0, [164])), (4, (0, 0, 47, [])), (5, (2, 0, 0, [8])), (7, (2, 0, 0, [154])), (8, (2, 0, 0, [155])), (9, (2, 0, 0, [156])), (11, (2, 0, 0, [157])), (13, (0, 1, 48, []))], [(9, [13, 0], [1]), (101, [0, 13], [1]), (9, [4, 0], [1]), (100, [11, 4, 3], []), (100, [9, 4, 10], []), (100, [8, 4, 2], []), (100, [7, 4, 1], [])], [], [], [(20, [4, 0], [50, 1, 0, 1001, 2, 6, 0, 2, 0, 0, 1, 0, 0, 6, 4, 2, 1, 0, 0, 1, 2, 1, 1])], [], [(13, 4, 1, 1)])
set_option maxRecDepth 100000 in
theorem oo_Gr_addEdge_at_Gq_1 {kA : Nat → ClassId} : or_ok PRD kA GG o_Gr_addEdge_at_Gq_1 := by
  refine or_mk fun A ta ws vs hD hth hl => ?_
  intro t0 r0 t4 k4 t5 r5 t7 r7 t8 r8 t9 r9 t11 r11 t13 k13 d0 f0 ta1 w1 le1 s1 f14 ta2 w2 le2 s2 ta3 w3 le3 s3 ta4 w4 le4 s4 ta5 w5 le5 s5
  replace f0 := shm_215 f0
  have s1 : (∀ b j, w_el ws b j = w_el w1 b j) ∧ ∀ b j, w_fd ws b j = if b = v_ad (n_v vs 0) ∧ j = 1 then n_v vs 13 else w_fd w1 b j := s1.2
  replace f14 := shm_215 f14
  have s2 : (∀ b j, w_el w1 b j = if b = v_ad (n_v vs 11) ∧ j = (v_iv (n_v vs 4)).toNat then v_iv (n_v vs 3) else w_el w2 b j) ∧ ∀ b k, w_fd w1 b k = w_fd w2 b k := s2.2
  have s3 : (∀ b j, w_el w2 b j = if b = v_ad (n_v vs 9) ∧ j = (v_iv (n_v vs 4)).toNat then v_iv (n_v vs 10) else w_el w3 b j) ∧ ∀ b k, w_fd w2 b k = w_fd w3 b k := s3.2
  have s4 : (∀ b j, w_el w3 b j = if b = v_ad (n_v vs 8) ∧ j = (v_iv (n_v vs 4)).toNat then v_iv (n_v vs 2) else w_el w4 b j) ∧ ∀ b k, w_fd w3 b k = w_fd w4 b k := s4.2
  have s5 : (∀ b j, w_el w4 b j = if b = v_ad (n_v vs 7) ∧ j = (v_iv (n_v vs 4)).toNat then v_iv (n_v vs 1) else w_el w5 b j) ∧ ∀ b k, w_fd w4 b k = w_fd w5 b k := s5.2
  have cr_0_3 := fdq_68 hD hth r0
  have cr_0_4 := fdq_67 hD hth r0
  have cr_0_7 := fdq_70 hD hth r0
  have cr_0_8 := fdq_71 hD hth r0
  have cr_0_9 := fdq_204 hD hth r0
  have cr_0_10 := fdq_205 hD hth r0
  have cr_0_14 := fdq_72 hD hth r0
  have cr_0_15 := fdq_65 hD hth r0
  have cr_5_0 := fdq_95 hD hth r5
  have g0 : v_iv (n_v vs 13) = w_fi ws (n_v vs 0) 1 := congrArg v_iv f0
  have g14 : v_iv (n_v vs 4) = w_fi w1 (n_v vs 0) 1 := congrArg v_iv f14
  have fe_0_0_1 : w_fi ws (n_v vs 0) 0 = w_fi w1 (n_v vs 0) 0 := by show v_iv (w_fd _ _ _) = v_iv (w_fd _ _ _); rw [s1.2, if_neg (fun e => absurd e.2 (by decide))]
  have fe_0_2_1 : w_fi ws (n_v vs 0) 2 = w_fi w1 (n_v vs 0) 2 := by show v_iv (w_fd _ _ _) = v_iv (w_fd _ _ _); rw [s1.2, if_neg (fun e => absurd e.2 (by decide))]
  have fe_5_5_1 : w_fi ws (n_v vs 5) 5 = w_fi w1 (n_v vs 5) 5 := by show v_iv (w_fd _ _ _) = v_iv (w_fd _ _ _); rw [s1.2, if_neg (fun e => absurd e.2 (by decide))]
  have fe_5_6_1 : w_fi ws (n_v vs 5) 6 = w_fi w1 (n_v vs 5) 6 := by show v_iv (w_fd _ _ _) = v_iv (w_fd _ _ _); rw [s1.2, if_neg (fun e => absurd e.2 (by decide))]
  have fe_5_8_1 : w_fi ws (n_v vs 5) 8 = w_fi w1 (n_v vs 5) 8 := by show v_iv (w_fd _ _ _) = v_iv (w_fd _ _ _); rw [s1.2, if_neg (fun e => absurd e.2 (by decide))]
  have fe_0_0_2 : w_fi w1 (n_v vs 0) 0 = w_fi w2 (n_v vs 0) 0 := congrArg v_iv (s2.2 _ _)
  have fe_0_1_2 : w_fi w1 (n_v vs 0) 1 = w_fi w2 (n_v vs 0) 1 := congrArg v_iv (s2.2 _ _)
  have fe_0_2_2 : w_fi w1 (n_v vs 0) 2 = w_fi w2 (n_v vs 0) 2 := congrArg v_iv (s2.2 _ _)
  have fe_5_5_2 : w_fi w1 (n_v vs 5) 5 = w_fi w2 (n_v vs 5) 5 := congrArg v_iv (s2.2 _ _)
  have fe_5_6_2 : w_fi w1 (n_v vs 5) 6 = w_fi w2 (n_v vs 5) 6 := congrArg v_iv (s2.2 _ _)
  have fe_5_8_2 : w_fi w1 (n_v vs 5) 8 = w_fi w2 (n_v vs 5) 8 := congrArg v_iv (s2.2 _ _)
  have fe_0_0_3 : w_fi w2 (n_v vs 0) 0 = w_fi w3 (n_v vs 0) 0 := congrArg v_iv (s3.2 _ _)
  have fe_0_1_3 : w_fi w2 (n_v vs 0) 1 = w_fi w3 (n_v vs 0) 1 := congrArg v_iv (s3.2 _ _)
  have fe_0_2_3 : w_fi w2 (n_v vs 0) 2 = w_fi w3 (n_v vs 0) 2 := congrArg v_iv (s3.2 _ _)
  have fe_5_5_3 : w_fi w2 (n_v vs 5) 5 = w_fi w3 (n_v vs 5) 5 := congrArg v_iv (s3.2 _ _)
  have fe_5_6_3 : w_fi w2 (n_v vs 5) 6 = w_fi w3 (n_v vs 5) 6 := congrArg v_iv (s3.2 _ _)
  have fe_5_8_3 : w_fi w2 (n_v vs 5) 8 = w_fi w3 (n_v vs 5) 8 := congrArg v_iv (s3.2 _ _)
  have fe_0_0_4 : w_fi w3 (n_v vs 0) 0 = w_fi w4 (n_v vs 0) 0 := congrArg v_iv (s4.2 _ _)
  have fe_0_1_4 : w_fi w3 (n_v vs 0) 1 = w_fi w4 (n_v vs 0) 1 := congrArg v_iv (s4.2 _ _)
  have fe_0_2_4 : w_fi w3 (n_v vs 0) 2 = w_fi w4 (n_v vs 0) 2 := congrArg v_iv (s4.2 _ _)
  have fe_5_5_4 : w_fi w3 (n_v vs 5) 5 = w_fi w4 (n_v vs 5) 5 := congrArg v_iv (s4.2 _ _)
  have fe_5_6_4 : w_fi w3 (n_v vs 5) 6 = w_fi w4 (n_v vs 5) 6 := congrArg v_iv (s4.2 _ _)
  have fe_5_8_4 : w_fi w3 (n_v vs 5) 8 = w_fi w4 (n_v vs 5) 8 := congrArg v_iv (s4.2 _ _)
  have fe_0_0_5 : w_fi w4 (n_v vs 0) 0 = w_fi w5 (n_v vs 0) 0 := congrArg v_iv (s5.2 _ _)
  have fe_0_1_5 : w_fi w4 (n_v vs 0) 1 = w_fi w5 (n_v vs 0) 1 := congrArg v_iv (s5.2 _ _)
  have fe_0_2_5 : w_fi w4 (n_v vs 0) 2 = w_fi w5 (n_v vs 0) 2 := congrArg v_iv (s5.2 _ _)
  have fe_5_5_5 : w_fi w4 (n_v vs 5) 5 = w_fi w5 (n_v vs 5) 5 := congrArg v_iv (s5.2 _ _)
  have fe_5_6_5 : w_fi w4 (n_v vs 5) 6 = w_fi w5 (n_v vs 5) 6 := congrArg v_iv (s5.2 _ _)
  have fe_5_8_5 : w_fi w4 (n_v vs 5) 8 = w_fi w5 (n_v vs 5) 8 := congrArg v_iv (s5.2 _ _)
  have hE_0_3_1 : ∀ j : Int, w_ei ws (w_ar ws (n_v vs 0) 3) j = w_ei w1 (w_ar ws (n_v vs 0) 3) j := fun j => s1.1 _ _
  have hE_0_3_2 : ∀ j : Int, w_ei w1 (w_ar ws (n_v vs 0) 3) j = w_ei w2 (w_ar ws (n_v vs 0) 3) j := el_kp s2.1 r11 cr_0_3 (by decide)
  have hE_0_3_3 : ∀ j : Int, w_ei w2 (w_ar ws (n_v vs 0) 3) j = w_ei w3 (w_ar ws (n_v vs 0) 3) j := el_kp s3.1 r9 cr_0_3 (by decide)
  have hE_0_3_4 : ∀ j : Int, w_ei w3 (w_ar ws (n_v vs 0) 3) j = w_ei w4 (w_ar ws (n_v vs 0) 3) j := el_kp s4.1 r8 cr_0_3 (by decide)
  have hE_0_3_5 : ∀ j : Int, w_ei w4 (w_ar ws (n_v vs 0) 3) j = w_ei w5 (w_ar ws (n_v vs 0) 3) j := el_kp s5.1 r7 cr_0_3 (by decide)
  have hE_0_4_1 : ∀ j : Int, w_ei ws (w_ar ws (n_v vs 0) 4) j = w_ei w1 (w_ar ws (n_v vs 0) 4) j := fun j => s1.1 _ _
  have hE_0_4_2 : ∀ j : Int, w_ei w1 (w_ar ws (n_v vs 0) 4) j = w_ei w2 (w_ar ws (n_v vs 0) 4) j := el_kp s2.1 r11 cr_0_4 (by decide)
  have hE_0_4_3 : ∀ j : Int, w_ei w2 (w_ar ws (n_v vs 0) 4) j = w_ei w3 (w_ar ws (n_v vs 0) 4) j := el_kp s3.1 r9 cr_0_4 (by decide)
  have hE_0_4_4 : ∀ j : Int, w_ei w3 (w_ar ws (n_v vs 0) 4) j = w_ei w4 (w_ar ws (n_v vs 0) 4) j := el_kp s4.1 r8 cr_0_4 (by decide)
  have hE_0_4_5 : ∀ j : Int, w_ei w4 (w_ar ws (n_v vs 0) 4) j = w_ei w5 (w_ar ws (n_v vs 0) 4) j := el_kp s5.1 r7 cr_0_4 (by decide)
  have hE_0_7_1 : ∀ j : Int, w_ei ws (w_ar ws (n_v vs 0) 7) j = w_ei w1 (w_ar ws (n_v vs 0) 7) j := fun j => s1.1 _ _
  have hE_0_7_2 : ∀ j : Int, w_ei w1 (w_ar ws (n_v vs 0) 7) j = w_ei w2 (w_ar ws (n_v vs 0) 7) j := el_kp s2.1 r11 cr_0_7 (by decide)
  have hE_0_7_3 : ∀ j : Int, w_ei w2 (w_ar ws (n_v vs 0) 7) j = w_ei w3 (w_ar ws (n_v vs 0) 7) j := el_kp s3.1 r9 cr_0_7 (by decide)
  have hE_0_7_4 : ∀ j : Int, w_ei w3 (w_ar ws (n_v vs 0) 7) j = w_ei w4 (w_ar ws (n_v vs 0) 7) j := el_kp s4.1 r8 cr_0_7 (by decide)
  have hE_0_8_1 : ∀ j : Int, w_ei ws (w_ar ws (n_v vs 0) 8) j = w_ei w1 (w_ar ws (n_v vs 0) 8) j := fun j => s1.1 _ _
  have hE_0_8_2 : ∀ j : Int, w_ei w1 (w_ar ws (n_v vs 0) 8) j = w_ei w2 (w_ar ws (n_v vs 0) 8) j := el_kp s2.1 r11 cr_0_8 (by decide)
  have hE_0_8_3 : ∀ j : Int, w_ei w2 (w_ar ws (n_v vs 0) 8) j = w_ei w3 (w_ar ws (n_v vs 0) 8) j := el_kp s3.1 r9 cr_0_8 (by decide)
  have hE_0_8_5 : ∀ j : Int, w_ei w4 (w_ar ws (n_v vs 0) 8) j = w_ei w5 (w_ar ws (n_v vs 0) 8) j := el_kp s5.1 r7 cr_0_8 (by decide)
  have hE_0_9_1 : ∀ j : Int, w_ei ws (w_ar ws (n_v vs 0) 9) j = w_ei w1 (w_ar ws (n_v vs 0) 9) j := fun j => s1.1 _ _
  have hE_0_9_2 : ∀ j : Int, w_ei w1 (w_ar ws (n_v vs 0) 9) j = w_ei w2 (w_ar ws (n_v vs 0) 9) j := el_kp s2.1 r11 cr_0_9 (by decide)
  have hE_0_9_4 : ∀ j : Int, w_ei w3 (w_ar ws (n_v vs 0) 9) j = w_ei w4 (w_ar ws (n_v vs 0) 9) j := el_kp s4.1 r8 cr_0_9 (by decide)
  have hE_0_9_5 : ∀ j : Int, w_ei w4 (w_ar ws (n_v vs 0) 9) j = w_ei w5 (w_ar ws (n_v vs 0) 9) j := el_kp s5.1 r7 cr_0_9 (by decide)
  have hE_0_10_1 : ∀ j : Int, w_ei ws (w_ar ws (n_v vs 0) 10) j = w_ei w1 (w_ar ws (n_v vs 0) 10) j := fun j => s1.1 _ _
  have hE_0_10_3 : ∀ j : Int, w_ei w2 (w_ar ws (n_v vs 0) 10) j = w_ei w3 (w_ar ws (n_v vs 0) 10) j := el_kp s3.1 r9 cr_0_10 (by decide)
  have hE_0_10_4 : ∀ j : Int, w_ei w3 (w_ar ws (n_v vs 0) 10) j = w_ei w4 (w_ar ws (n_v vs 0) 10) j := el_kp s4.1 r8 cr_0_10 (by decide)
  have hE_0_10_5 : ∀ j : Int, w_ei w4 (w_ar ws (n_v vs 0) 10) j = w_ei w5 (w_ar ws (n_v vs 0) 10) j := el_kp s5.1 r7 cr_0_10 (by decide)
  have hE_0_14_1 : ∀ j : Int, w_ei ws (w_ar ws (n_v vs 0) 14) j = w_ei w1 (w_ar ws (n_v vs 0) 14) j := fun j => s1.1 _ _
  have hE_0_14_2 : ∀ j : Int, w_ei w1 (w_ar ws (n_v vs 0) 14) j = w_ei w2 (w_ar ws (n_v vs 0) 14) j := el_kp s2.1 r11 cr_0_14 (by decide)
  have hE_0_14_3 : ∀ j : Int, w_ei w2 (w_ar ws (n_v vs 0) 14) j = w_ei w3 (w_ar ws (n_v vs 0) 14) j := el_kp s3.1 r9 cr_0_14 (by decide)
  have hE_0_14_4 : ∀ j : Int, w_ei w3 (w_ar ws (n_v vs 0) 14) j = w_ei w4 (w_ar ws (n_v vs 0) 14) j := el_kp s4.1 r8 cr_0_14 (by decide)
  have hE_0_14_5 : ∀ j : Int, w_ei w4 (w_ar ws (n_v vs 0) 14) j = w_ei w5 (w_ar ws (n_v vs 0) 14) j := el_kp s5.1 r7 cr_0_14 (by decide)
  have hE_0_15_1 : ∀ j : Int, w_ei ws (w_ar ws (n_v vs 0) 15) j = w_ei w1 (w_ar ws (n_v vs 0) 15) j := fun j => s1.1 _ _
  have hE_0_15_2 : ∀ j : Int, w_ei w1 (w_ar ws (n_v vs 0) 15) j = w_ei w2 (w_ar ws (n_v vs 0) 15) j := el_kp s2.1 r11 cr_0_15 (by decide)
  have hE_0_15_3 : ∀ j : Int, w_ei w2 (w_ar ws (n_v vs 0) 15) j = w_ei w3 (w_ar ws (n_v vs 0) 15) j := el_kp s3.1 r9 cr_0_15 (by decide)
  have hE_0_15_4 : ∀ j : Int, w_ei w3 (w_ar ws (n_v vs 0) 15) j = w_ei w4 (w_ar ws (n_v vs 0) 15) j := el_kp s4.1 r8 cr_0_15 (by decide)
  have hE_0_15_5 : ∀ j : Int, w_ei w4 (w_ar ws (n_v vs 0) 15) j = w_ei w5 (w_ar ws (n_v vs 0) 15) j := el_kp s5.1 r7 cr_0_15 (by decide)
  have hE_5_0_1 : ∀ j : Int, w_ei ws (w_ar ws (n_v vs 5) 0) j = w_ei w1 (w_ar ws (n_v vs 5) 0) j := fun j => s1.1 _ _
  have hE_5_0_2 : ∀ j : Int, w_ei w1 (w_ar ws (n_v vs 5) 0) j = w_ei w2 (w_ar ws (n_v vs 5) 0) j := el_kp s2.1 r11 cr_5_0 (by decide)
  have hE_5_0_3 : ∀ j : Int, w_ei w2 (w_ar ws (n_v vs 5) 0) j = w_ei w3 (w_ar ws (n_v vs 5) 0) j := el_kp s3.1 r9 cr_5_0 (by decide)
  have hE_5_0_4 : ∀ j : Int, w_ei w3 (w_ar ws (n_v vs 5) 0) j = w_ei w4 (w_ar ws (n_v vs 5) 0) j := el_kp s4.1 r8 cr_5_0 (by decide)
  have hE_5_0_5 : ∀ j : Int, w_ei w4 (w_ar ws (n_v vs 5) 0) j = w_ei w5 (w_ar ws (n_v vs 5) 0) j := el_kp s5.1 r7 cr_5_0 (by decide)
  have kz_0_0 := fdq_73 hD hth r0
  have kz_0_1 := fdq_74 hD hth r0
  have kz_0_2 := fdq_206 hD hth r0
  have kz_5_5 := fdq_207 hD hth r5
  have kz_5_6 := fdq_208 hD hth r5
  have kz_5_8 := fdq_99 hD hth r5
  have nf0 : fc_1 PRD (20, [4, 0], [50, 1, 0, 1001, 2, 6, 0, 2, 0, 0, 1, 0, 0, 6, 4, 2, 1, 0, 0, 1, 2, 1, 1]) ws (vs) := ⟨nf_in hl rfl, sgq_387 (vc_Gr_addEdge_at_Gq_1_0 (v_iv (n_v vs 4)) (v_iv (n_v vs 13)) (w_fi ws (n_v vs 0) 1) (w_ei ws (w_ar ws (n_v vs 0) 14)) (w_ei ws (w_ar ws (n_v vs 0) 7)) (w_ei ws (w_ar ws (n_v vs 0) 8)) (w_fi ws (n_v vs 0) 0) (w_ei ws (w_ar ws (n_v vs 5) 0)) (w_ei ws (w_ar ws (n_v vs 0) 4)) (w_ei ws (w_ar ws (n_v vs 0) 3)) (w_fi ws (n_v vs 5) 5) (w_fi ws (n_v vs 5) 6) (w_fi ws (n_v vs 5) 8) (w_fi ws (n_v vs 0) 2) (w_ei ws (w_ar ws (n_v vs 0) 15)) (w_fi w1 (n_v vs 0) 1) (w_fi w1 (n_v vs 0) 0) (w_fi w2 (n_v vs 0) 0) (w_fi w2 (n_v vs 0) 1) (w_fi w3 (n_v vs 0) 0) (w_fi w3 (n_v vs 0) 1) (w_fi w4 (n_v vs 0) 0) (w_fi w4 (n_v vs 0) 1) (w_ei w5 (w_ar ws (n_v vs 0) 14)) (w_ei w5 (w_ar ws (n_v vs 0) 8)) (w_fi w5 (n_v vs 0) 0) (w_fi w5 (n_v vs 0) 1) (w_ei w5 (w_ar ws (n_v vs 5) 0)) (w_ei w5 (w_ar ws (n_v vs 0) 4)) (w_ei w5 (w_ar ws (n_v vs 0) 3)) (w_fi w5 (n_v vs 5) 5) (w_fi w5 (n_v vs 5) 6) (w_fi w5 (n_v vs 5) 8) (w_fi w5 (n_v vs 0) 2) (w_ei w5 (w_ar ws (n_v vs 0) 15)) (w_fi w1 (n_v vs 0) 2) (w_fi w1 (n_v vs 5) 5) (w_fi w1 (n_v vs 5) 6) (w_fi w1 (n_v vs 5) 8) (w_fi w2 (n_v vs 0) 2) (w_fi w2 (n_v vs 5) 5) (w_fi w2 (n_v vs 5) 6) (w_fi w2 (n_v vs 5) 8) (w_fi w3 (n_v vs 0) 2) (w_fi w3 (n_v vs 5) 5) (w_fi w3 (n_v vs 5) 6) (w_fi w3 (n_v vs 5) 8) (w_fi w4 (n_v vs 0) 2) (w_fi w4 (n_v vs 5) 5) (w_fi w4 (n_v vs 5) 6) (w_fi w4 (n_v vs 5) 8) (w_ei w1 (w_ar ws (n_v vs 0) 3)) (w_ei w2 (w_ar ws (n_v vs 0) 3)) (w_ei w3 (w_ar ws (n_v vs 0) 3)) (w_ei w4 (w_ar ws (n_v vs 0) 3)) (w_ei w1 (w_ar ws (n_v vs 0) 4)) (w_ei w2 (w_ar ws (n_v vs 0) 4)) (w_ei w3 (w_ar ws (n_v vs 0) 4)) (w_ei w4 (w_ar ws (n_v vs 0) 4)) (w_ei w1 (w_ar ws (n_v vs 0) 7)) (w_ei w2 (w_ar ws (n_v vs 0) 7)) (w_ei w3 (w_ar ws (n_v vs 0) 7)) (w_ei w4 (w_ar ws (n_v vs 0) 7)) (w_ei w1 (w_ar ws (n_v vs 0) 8)) (w_ei w2 (w_ar ws (n_v vs 0) 8)) (w_ei w3 (w_ar ws (n_v vs 0) 8)) (w_ei w4 (w_ar ws (n_v vs 0) 8)) (w_ei ws (w_ar ws (n_v vs 0) 9)) (w_ei w1 (w_ar ws (n_v vs 0) 9)) (w_ei w2 (w_ar ws (n_v vs 0) 9)) (w_ei w3 (w_ar ws (n_v vs 0) 9)) (w_ei w4 (w_ar ws (n_v vs 0) 9)) (w_ei w5 (w_ar ws (n_v vs 0) 9)) (w_ei ws (w_ar ws (n_v vs 0) 10)) (w_ei w1 (w_ar ws (n_v vs 0) 10)) (w_ei w2 (w_ar ws (n_v vs 0) 10)) (w_ei w3 (w_ar ws (n_v vs 0) 10)) (w_ei w4 (w_ar ws (n_v vs 0) 10)) (w_ei w5 (w_ar ws (n_v vs 0) 10)) (w_ei w1 (w_ar ws (n_v vs 0) 14)) (w_ei w2 (w_ar ws (n_v vs 0) 14)) (w_ei w3 (w_ar ws (n_v vs 0) 14)) (w_ei w4 (w_ar ws (n_v vs 0) 14)) (w_ei w1 (w_ar ws (n_v vs 0) 15)) (w_ei w2 (w_ar ws (n_v vs 0) 15)) (w_ei w3 (w_ar ws (n_v vs 0) 15)) (w_ei w4 (w_ar ws (n_v vs 0) 15)) (w_ei w1 (w_ar ws (n_v vs 5) 0)) (w_ei w2 (w_ar ws (n_v vs 5) 0)) (w_ei w3 (w_ar ws (n_v vs 5) 0)) (w_ei w4 (w_ar ws (n_v vs 5) 0)) k4 k13 d0 g0 g14 fe_0_0_1 fe_0_2_1 fe_5_5_1 fe_5_6_1 fe_5_8_1 fe_0_0_2 fe_0_1_2 fe_0_2_2 fe_5_5_2 fe_5_6_2 fe_5_8_2 fe_0_0_3 fe_0_1_3 fe_0_2_3 fe_5_5_3 fe_5_6_3 fe_5_8_3 fe_0_0_4 fe_0_1_4 fe_0_2_4 fe_5_5_4 fe_5_6_4 fe_5_8_4 fe_0_0_5 fe_0_1_5 fe_0_2_5 fe_5_5_5 fe_5_6_5 fe_5_8_5 hE_0_3_1 hE_0_3_2 hE_0_3_3 hE_0_3_4 hE_0_3_5 hE_0_4_1 hE_0_4_2 hE_0_4_3 hE_0_4_4 hE_0_4_5 hE_0_7_1 hE_0_7_2 hE_0_7_3 hE_0_7_4 hE_0_8_1 hE_0_8_2 hE_0_8_3 hE_0_8_5 hE_0_9_1 hE_0_9_2 hE_0_9_4 hE_0_9_5 hE_0_10_1 hE_0_10_3 hE_0_10_4 hE_0_10_5 hE_0_14_1 hE_0_14_2 hE_0_14_3 hE_0_14_4 hE_0_14_5 hE_0_15_1 hE_0_15_2 hE_0_15_3 hE_0_15_4 hE_0_15_5 hE_5_0_1 hE_5_0_2 hE_5_0_3 hE_5_0_4 hE_5_0_5 kz_0_0 kz_0_1 kz_0_2 kz_5_5 kz_5_6 kz_5_8)⟩
  refine ⟨(fun _ h => (by cases h)), [], trivial, ?_, (fun _ h => (by cases h))⟩
  rw [List.append_nil]
  exact List.forall_mem_cons.mpr ⟨⟨show (20 : Nat) < 100 from by decide, nf0⟩, (fun _ h => (by cases h))⟩
set_option maxHeartbeats 4000000 in
theorem vc_Gr_addEdge_at_Gq_2_0 (x4 : Int) (x13 : Int) (edges_0 : Int) (tail_0 : Int → Int) (head_0 : Int → Int) (nodes_0 : Int) (near_0 : Int → Int) (k4 : 0 ≤ x4 ∧ x4 ≤ 47) (k13 : 1 ≤ x13 ∧ x13 ≤ 48) (d0 : x4 + 1 ≤ x13 ∧ x13 ≤ x4 + 1) (g0 : x13 = edges_0) (f10 : GNL (nodes_0) (near_0) (tail_0) (head_0) (x4)) (kz_0_0 : 0 ≤ nodes_0 ∧ nodes_0 ≤ 24) (kz_0_1 : 0 ≤ edges_0 ∧ edges_0 ≤ 48) : GNB (nodes_0) (edges_0) (near_0) (tail_0) (head_0) := by
  first
    | exact gnb_ofl ‹GNL _ _ _ _ _› (by omega)
  
set_option maxHeartbeats 4000000 in
theorem vc_Gr_addEdge_at_Gq_2_1 (x4 : Int) (x13 : Int) (edges_0 : Int) (tail_0 : Int → Int) (head_0 : Int → Int) (link_0 : Int → Int) (k4 : 0 ≤ x4 ∧ x4 ≤ 47) (k13 : 1 ≤ x13 ∧ x13 ≤ 48) (d0 : x4 + 1 ≤ x13 ∧ x13 ≤ x4 + 1) (g0 : x13 = edges_0) (f12 : LK1 (tail_0) (head_0) (link_0) (x4)) (kz_0_1 : 0 ≤ edges_0 ∧ edges_0 ≤ 48) : LKG (edges_0) (tail_0) (head_0) (link_0) := by
  exact lkg_of ‹LK1 _ _ _ _› (by omega)
set_option maxHeartbeats 4000000 in
theorem vc_Gr_addEdge_at_Gq_2_2 (x4 : Int) (x6 : Int) (x13 : Int) (edges_0 : Int) (k4 : 0 ≤ x4 ∧ x4 ≤ 47) (k6 : 0 ≤ x6 ∧ x6 ≤ 47) (k13 : 1 ≤ x13 ∧ x13 ≤ 48) (d0 : x4 + 1 ≤ x13 ∧ x13 ≤ x4 + 1) (g0 : x13 = edges_0) (f8 : x4 = x6) (kz_0_1 : 0 ≤ edges_0 ∧ edges_0 ≤ 48) : edges_0 = (x6 + 1) := by
  first
    | omega
  
def o_Gr_addEdge_at_Gq_2 : or_T := (56, 14, [(0, (2, 0, 0, [164])), (4, (0, 0, 47, [])), (6, (0, 0, 47, [])), (13, (0, 1, 48, []))], [(9, [13, 0], [1]), (20, [4, 6], [50, 0, 0, 1, 2, 1, 0, 1, 1]), (20, [0, 4], [60, 1, 3, 748, 0, 14, 7, 8]), (20, [0, 4], [60, 0, 3, 1087, 7, 8, 15])], [], [], [(20, [0], [60, 2, 3, 670, 0, 1, 14, 7, 8]), (20, [0], [60, 1, 3, 1085, 1, 7, 8, 15]), (20, [0, 6], [50, 1, 0, 1, 1, 3, 2, 0, 1, 4, 2, 1, 1, 0, 1])], [], [(13, 4, 1, 1)])
theorem oo_Gr_addEdge_at_Gq_2 {kA : Nat → ClassId} : or_ok PRD kA GG o_Gr_addEdge_at_Gq_2 := by
  refine or_mk fun A ta ws vs hD hth hl => ?_
  intro t0 r0 t4 k4 t6 k6 t13 k13 d0 f0 f8 f10 f12
  replace f0 := shm_215 f0
  have g0 : v_iv (n_v vs 13) = w_fi ws (n_v vs 0) 1 := congrArg v_iv f0
  have kz_0_0 := fdq_73 hD hth r0
  have kz_0_1 := fdq_74 hD hth r0
  have nf0 : fc_1 PRD (20, [0], [60, 2, 3, 670, 0, 1, 14, 7, 8]) ws (vs) := ⟨nf_in hl rfl, sgq_825 (vc_Gr_addEdge_at_Gq_2_0 (v_iv (n_v vs 4)) (v_iv (n_v vs 13)) (w_fi ws (n_v vs 0) 1) (w_ei ws (w_ar ws (n_v vs 0) 7)) (w_ei ws (w_ar ws (n_v vs 0) 8)) (w_fi ws (n_v vs 0) 0) (w_ei ws (w_ar ws (n_v vs 0) 14)) k4 k13 d0 g0 (shm_390 f10) kz_0_0 kz_0_1)⟩
  have nf1 : fc_1 PRD (20, [0], [60, 1, 3, 1085, 1, 7, 8, 15]) ws (vs) := ⟨nf_in hl rfl, sgq_827 (vc_Gr_addEdge_at_Gq_2_1 (v_iv (n_v vs 4)) (v_iv (n_v vs 13)) (w_fi ws (n_v vs 0) 1) (w_ei ws (w_ar ws (n_v vs 0) 7)) (w_ei ws (w_ar ws (n_v vs 0) 8)) (w_ei ws (w_ar ws (n_v vs 0) 15)) k4 k13 d0 g0 (shm_391 f12) kz_0_1)⟩
  have nf2 : fc_1 PRD (20, [0, 6], [50, 1, 0, 1, 1, 3, 2, 0, 1, 4, 2, 1, 1, 0, 1]) ws (vs) := ⟨nf_in hl rfl, sgq_830 (vc_Gr_addEdge_at_Gq_2_2 (v_iv (n_v vs 4)) (v_iv (n_v vs 6)) (v_iv (n_v vs 13)) (w_fi ws (n_v vs 0) 1) k4 k6 k13 d0 g0 (shm_48 f8) kz_0_1)⟩
  refine ⟨(fun _ h => (by cases h)), [], trivial, ?_, (fun _ h => (by cases h))⟩
  rw [List.append_nil]
  exact List.forall_mem_cons.mpr ⟨⟨show (20 : Nat) < 100 from by decide, nf0⟩, List.forall_mem_cons.mpr ⟨⟨show (20 : Nat) < 100 from by decide, nf1⟩, List.forall_mem_cons.mpr ⟨⟨show (20 : Nat) < 100 from by decide, nf2⟩, (fun _ h => (by cases h))⟩⟩⟩
def n_Gr_addEdge_at_Gq_an : List an_T := []
def t_Gr_addEdge_at_Gq_ct : ct_L := [(157, 100, e_Gr_tie_at_Gq)]
set_option maxRecDepth 100000 in
theorem c_Gr_addEdge_at_Gq {l : Launch} {D : va_G} {kA : Nat → ClassId} (h_Gr_tie_at_Gq : ct_ok PRD l D kA GG y_Gr_tie_at_Gq z_Gr_tie_at_Gq e_Gr_tie_at_Gq) : ct_ok PRD l D kA GG y_Gr_addEdge_at_Gq z_Gr_addEdge_at_Gq e_Gr_addEdge_at_Gq := chk_all_ok (FT := [(15, 3, 1), (35, 3, 7), (38, 3, 8), (41, 3, 9), (44, 3, 10)]) (PT := [(15, 3, 1, .int)]) (CT := t_Gr_addEdge_at_Gq_ct) (KT := []) (NT := []) (AN := n_Gr_addEdge_at_Gq_an) (OT := [o_Gr_addEdge_at_Gq_0, o_Gr_addEdge_at_Gq_1, o_Gr_addEdge_at_Gq_2]) 0 200 (List.forall_mem_cons.mpr ⟨oo_Gr_addEdge_at_Gq_0, List.forall_mem_cons.mpr ⟨oo_Gr_addEdge_at_Gq_1, List.forall_mem_cons.mpr ⟨oo_Gr_addEdge_at_Gq_2, List.forall_mem_nil _⟩⟩⟩) (by decide +kernel) ⟨List.forall_mem_cons.mpr ⟨gf_Gr_15, List.forall_mem_cons.mpr ⟨gf_Gr_35, List.forall_mem_cons.mpr ⟨gf_Gr_38, List.forall_mem_cons.mpr ⟨gf_Gr_41, List.forall_mem_cons.mpr ⟨gf_Gr_44, List.forall_mem_nil _⟩⟩⟩⟩⟩, List.forall_mem_cons.mpr ⟨pf_Gr_15, List.forall_mem_nil _⟩, List.forall_mem_cons.mpr ⟨cl_virtual (y := y_Gr_tie_at_Gq) (ci := 3) rfl rfl ⟨_, _, rfl⟩ (by decide +kernel) h_Gr_tie_at_Gq wm_776 wm_3 wm_773 wm_775 wv_1_11 ⟨by decide, by decide, by decide +kernel⟩ (by decide), List.forall_mem_nil _⟩, List.forall_mem_nil _, List.forall_mem_nil _, GG_pl⟩ (by decide +kernel)
set_option maxHeartbeats 4000000 in
theorem vc_Gr_addEdge_at_Gr_0_0 (x1 : Int) (x2 : Int) (x4 : Int) (x10 : Int) (x11 : Int) (edges_0 : Int) (nodes_0 : Int) (edges_1 : Int) (nodes_1 : Int) (nodes_2 : Int) (nodes_3 : Int) (nodes_4 : Int) (near_5 : Int → Int) (tail_5 : Int → Int) (head_5 : Int → Int) (nodes_5 : Int) (edges_5 : Int) (edges_2 : Int) (edges_3 : Int) (edges_4 : Int) (tail_0 : Int → Int) (tail_1 : Int → Int) (tail_2 : Int → Int) (tail_3 : Int → Int) (tail_4 : Int → Int) (head_0 : Int → Int) (head_1 : Int → Int) (head_2 : Int → Int) (head_3 : Int → Int) (head_4 : Int → Int) (weight_0 : Int → Int) (weight_1 : Int → Int) (weight_2 : Int → Int) (weight_3 : Int → Int) (x8 : Int) (weight_4 : Int → Int) (weight_5 : Int → Int) (oneWay_0 : Int → Int) (oneWay_1 : Int → Int) (oneWay_2 : Int → Int) (x3 : Int) (oneWay_3 : Int → Int) (oneWay_4 : Int → Int) (oneWay_5 : Int → Int) (near_0 : Int → Int) (near_1 : Int → Int) (near_2 : Int → Int) (near_3 : Int → Int) (near_4 : Int → Int) (k1 : 0 ≤ x1 ∧ x1 ≤ 23) (k2 : 0 ≤ x2 ∧ x2 ≤ 23) (k4 : 0 ≤ x4 ∧ x4 ≤ 47) (k10 : 1 ≤ x10 ∧ x10 ≤ 1) (k11 : 1 ≤ x11 ∧ x11 ≤ 48) (d0 : x4 + 1 ≤ x11 ∧ x11 ≤ x4 + 1) (g0 : x11 = edges_0) (f5 : (0 ≤ x1) ∧ (((x1 + 1) ≤ nodes_0) ∧ ((0 ≤ x2) ∧ (((x2 + 1) ≤ nodes_0) ∧ (((x1 + 1) ≤ x2) ∨ ((x2 + 1) ≤ x1)))))) (f7 : x11 = x4 + x10) (g8 : x4 = edges_1) (f9 : (0 ≤ x1) ∧ (((x1 + 1) ≤ nodes_1) ∧ ((0 ≤ x2) ∧ (((x2 + 1) ≤ nodes_1) ∧ (((x1 + 1) ≤ x2) ∨ ((x2 + 1) ≤ x1)))))) (f11 : (0 ≤ x1) ∧ (((x1 + 1) ≤ nodes_2) ∧ ((0 ≤ x2) ∧ (((x2 + 1) ≤ nodes_2) ∧ (((x1 + 1) ≤ x2) ∨ ((x2 + 1) ≤ x1)))))) (f13 : (0 ≤ x1) ∧ (((x1 + 1) ≤ nodes_3) ∧ ((0 ≤ x2) ∧ (((x2 + 1) ≤ nodes_3) ∧ (((x1 + 1) ≤ x2) ∨ ((x2 + 1) ≤ x1)))))) (f15 : (0 ≤ x1) ∧ (((x1 + 1) ≤ nodes_4) ∧ ((0 ≤ x2) ∧ (((x2 + 1) ≤ nodes_4) ∧ (((x1 + 1) ≤ x2) ∨ ((x2 + 1) ≤ x1)))))) (f17 : GNB (nodes_5) (edges_5) (near_5) (tail_5) (head_5)) (f18 : GKE (nodes_5) (edges_5) (tail_5) (head_5)) (f19 : (0 ≤ x1) ∧ (((x1 + 1) ≤ nodes_5) ∧ ((0 ≤ x2) ∧ (((x2 + 1) ≤ nodes_5) ∧ (((x1 + 1) ≤ x2) ∨ ((x2 + 1) ≤ x1)))))) (fe_0_0_1 : nodes_0 = nodes_1) (fe_0_1_1 : edges_0 = x11) (fe_0_0_2 : nodes_1 = nodes_2) (fe_0_1_2 : edges_1 = edges_2) (fe_0_0_3 : nodes_2 = nodes_3) (fe_0_1_3 : edges_2 = edges_3) (fe_0_0_4 : nodes_3 = nodes_4) (fe_0_1_4 : edges_3 = edges_4) (fe_0_0_5 : nodes_4 = nodes_5) (fe_0_1_5 : edges_4 = edges_5) (hE_0_7_1 : ∀ j : Int, tail_0 j = tail_1 j) (hE_0_7_2 : ∀ j : Int, tail_1 j = tail_2 j) (hE_0_7_3 : ∀ j : Int, tail_2 j = tail_3 j) (hE_0_7_4 : ∀ j : Int, tail_3 j = tail_4 j) (hE_0_7_5 : ∀ j : Int, 0 ≤ j → (j = x4 → tail_4 j = x1) ∧ (j ≠ x4 → tail_4 j = tail_5 j)) (hK_0_7 : ∀ j : Int, 0 ≤ j → j < 48 → 0 ≤ tail_0 j ∧ tail_0 j ≤ 23) (hE_0_8_1 : ∀ j : Int, head_0 j = head_1 j) (hE_0_8_2 : ∀ j : Int, head_1 j = head_2 j) (hE_0_8_3 : ∀ j : Int, head_2 j = head_3 j) (hE_0_8_4 : ∀ j : Int, 0 ≤ j → (j = x4 → head_3 j = x2) ∧ (j ≠ x4 → head_3 j = head_4 j)) (hE_0_8_5 : ∀ j : Int, head_4 j = head_5 j) (hK_0_8 : ∀ j : Int, 0 ≤ j → j < 48 → 0 ≤ head_0 j ∧ head_0 j ≤ 23) (hE_0_9_1 : ∀ j : Int, weight_0 j = weight_1 j) (hE_0_9_2 : ∀ j : Int, weight_1 j = weight_2 j) (hE_0_9_3 : ∀ j : Int, 0 ≤ j → (j = x4 → weight_2 j = x8) ∧ (j ≠ x4 → weight_2 j = weight_3 j)) (hE_0_9_4 : ∀ j : Int, weight_3 j = weight_4 j) (hE_0_9_5 : ∀ j : Int, weight_4 j = weight_5 j) (hK_0_9 : ∀ j : Int, 0 ≤ j → j < 48 → 0 ≤ weight_0 j ∧ weight_0 j ≤ 9) (hE_0_10_1 : ∀ j : Int, oneWay_0 j = oneWay_1 j) (hE_0_10_2 : ∀ j : Int, 0 ≤ j → (j = x4 → oneWay_1 j = x3) ∧ (j ≠ x4 → oneWay_1 j = oneWay_2 j)) (hE_0_10_3 : ∀ j : Int, oneWay_2 j = oneWay_3 j) (hE_0_10_4 : ∀ j : Int, oneWay_3 j = oneWay_4 j) (hE_0_10_5 : ∀ j : Int, oneWay_4 j = oneWay_5 j) (hK_0_10 : ∀ j : Int, 0 ≤ j → j < 48 → 0 ≤ oneWay_0 j ∧ oneWay_0 j ≤ 1) (hE_0_14_1 : ∀ j : Int, near_0 j = near_1 j) (hE_0_14_2 : ∀ j : Int, near_1 j = near_2 j) (hE_0_14_3 : ∀ j : Int, near_2 j = near_3 j) (hE_0_14_4 : ∀ j : Int, near_3 j = near_4 j) (hE_0_14_5 : ∀ j : Int, near_4 j = near_5 j) (hK_0_14 : ∀ j : Int, 0 ≤ j → j < 24 → 0 ≤ near_0 j ∧ near_0 j ≤ 16777215) (kz_0_0 : 0 ≤ nodes_0 ∧ nodes_0 ≤ 24) (kz_0_1 : 0 ≤ edges_0 ∧ edges_0 ≤ 48) : (0 ≤ x4) ∧ ((x4 + 1) = edges_0) := by
  subst fe_0_0_1
  subst fe_0_0_2
  subst fe_0_1_2
  subst fe_0_0_3
  subst fe_0_1_3
  subst fe_0_0_4
  subst fe_0_1_4
  subst fe_0_0_5
  subst fe_0_1_5
  have e_hE_0_7_1 := funext hE_0_7_1; subst e_hE_0_7_1
  have e_hE_0_7_2 := funext hE_0_7_2; subst e_hE_0_7_2
  have e_hE_0_7_3 := funext hE_0_7_3; subst e_hE_0_7_3
  have e_hE_0_7_4 := funext hE_0_7_4; subst e_hE_0_7_4
  have e_hE_0_8_1 := funext hE_0_8_1; subst e_hE_0_8_1
  have e_hE_0_8_2 := funext hE_0_8_2; subst e_hE_0_8_2
  have e_hE_0_8_3 := funext hE_0_8_3; subst e_hE_0_8_3
  have e_hE_0_8_5 := funext hE_0_8_5; subst e_hE_0_8_5
  have e_hE_0_9_1 := funext hE_0_9_1; subst e_hE_0_9_1
  have e_hE_0_9_2 := funext hE_0_9_2; subst e_hE_0_9_2
  have e_hE_0_9_4 := funext hE_0_9_4; subst e_hE_0_9_4
  have e_hE_0_9_5 := funext hE_0_9_5; subst e_hE_0_9_5
  have e_hE_0_10_1 := funext hE_0_10_1; subst e_hE_0_10_1
  have e_hE_0_10_3 := funext hE_0_10_3; subst e_hE_0_10_3
  have e_hE_0_10_4 := funext hE_0_10_4; subst e_hE_0_10_4
  have e_hE_0_10_5 := funext hE_0_10_5; subst e_hE_0_10_5
  have e_hE_0_14_1 := funext hE_0_14_1; subst e_hE_0_14_1
  have e_hE_0_14_2 := funext hE_0_14_2; subst e_hE_0_14_2
  have e_hE_0_14_3 := funext hE_0_14_3; subst e_hE_0_14_3
  have e_hE_0_14_4 := funext hE_0_14_4; subst e_hE_0_14_4
  have e_hE_0_14_5 := funext hE_0_14_5; subst e_hE_0_14_5
  first
    | omega
  
set_option maxHeartbeats 4000000 in
theorem vc_Gr_addEdge_at_Gr_0_1 (x1 : Int) (x2 : Int) (x4 : Int) (x10 : Int) (x11 : Int) (edges_0 : Int) (nodes_0 : Int) (edges_1 : Int) (nodes_1 : Int) (nodes_2 : Int) (nodes_3 : Int) (nodes_4 : Int) (near_5 : Int → Int) (tail_5 : Int → Int) (head_5 : Int → Int) (nodes_5 : Int) (edges_5 : Int) (edges_2 : Int) (edges_3 : Int) (edges_4 : Int) (tail_0 : Int → Int) (tail_1 : Int → Int) (tail_2 : Int → Int) (tail_3 : Int → Int) (tail_4 : Int → Int) (head_0 : Int → Int) (head_1 : Int → Int) (head_2 : Int → Int) (head_3 : Int → Int) (head_4 : Int → Int) (weight_0 : Int → Int) (weight_1 : Int → Int) (weight_2 : Int → Int) (weight_3 : Int → Int) (x8 : Int) (weight_4 : Int → Int) (weight_5 : Int → Int) (oneWay_0 : Int → Int) (oneWay_1 : Int → Int) (oneWay_2 : Int → Int) (x3 : Int) (oneWay_3 : Int → Int) (oneWay_4 : Int → Int) (oneWay_5 : Int → Int) (near_0 : Int → Int) (near_1 : Int → Int) (near_2 : Int → Int) (near_3 : Int → Int) (near_4 : Int → Int) (k1 : 0 ≤ x1 ∧ x1 ≤ 23) (k2 : 0 ≤ x2 ∧ x2 ≤ 23) (k4 : 0 ≤ x4 ∧ x4 ≤ 47) (k10 : 1 ≤ x10 ∧ x10 ≤ 1) (k11 : 1 ≤ x11 ∧ x11 ≤ 48) (d0 : x4 + 1 ≤ x11 ∧ x11 ≤ x4 + 1) (g0 : x11 = edges_0) (f5 : (0 ≤ x1) ∧ (((x1 + 1) ≤ nodes_0) ∧ ((0 ≤ x2) ∧ (((x2 + 1) ≤ nodes_0) ∧ (((x1 + 1) ≤ x2) ∨ ((x2 + 1) ≤ x1)))))) (f7 : x11 = x4 + x10) (g8 : x4 = edges_1) (f9 : (0 ≤ x1) ∧ (((x1 + 1) ≤ nodes_1) ∧ ((0 ≤ x2) ∧ (((x2 + 1) ≤ nodes_1) ∧ (((x1 + 1) ≤ x2) ∨ ((x2 + 1) ≤ x1)))))) (f11 : (0 ≤ x1) ∧ (((x1 + 1) ≤ nodes_2) ∧ ((0 ≤ x2) ∧ (((x2 + 1) ≤ nodes_2) ∧ (((x1 + 1) ≤ x2) ∨ ((x2 + 1) ≤ x1)))))) (f13 : (0 ≤ x1) ∧ (((x1 + 1) ≤ nodes_3) ∧ ((0 ≤ x2) ∧ (((x2 + 1) ≤ nodes_3) ∧ (((x1 + 1) ≤ x2) ∨ ((x2 + 1) ≤ x1)))))) (f15 : (0 ≤ x1) ∧ (((x1 + 1) ≤ nodes_4) ∧ ((0 ≤ x2) ∧ (((x2 + 1) ≤ nodes_4) ∧ (((x1 + 1) ≤ x2) ∨ ((x2 + 1) ≤ x1)))))) (f17 : GNB (nodes_5) (edges_5) (near_5) (tail_5) (head_5)) (f18 : GKE (nodes_5) (edges_5) (tail_5) (head_5)) (f19 : (0 ≤ x1) ∧ (((x1 + 1) ≤ nodes_5) ∧ ((0 ≤ x2) ∧ (((x2 + 1) ≤ nodes_5) ∧ (((x1 + 1) ≤ x2) ∨ ((x2 + 1) ≤ x1)))))) (fe_0_0_1 : nodes_0 = nodes_1) (fe_0_1_1 : edges_0 = x11) (fe_0_0_2 : nodes_1 = nodes_2) (fe_0_1_2 : edges_1 = edges_2) (fe_0_0_3 : nodes_2 = nodes_3) (fe_0_1_3 : edges_2 = edges_3) (fe_0_0_4 : nodes_3 = nodes_4) (fe_0_1_4 : edges_3 = edges_4) (fe_0_0_5 : nodes_4 = nodes_5) (fe_0_1_5 : edges_4 = edges_5) (hE_0_7_1 : ∀ j : Int, tail_0 j = tail_1 j) (hE_0_7_2 : ∀ j : Int, tail_1 j = tail_2 j) (hE_0_7_3 : ∀ j : Int, tail_2 j = tail_3 j) (hE_0_7_4 : ∀ j : Int, tail_3 j = tail_4 j) (hE_0_7_5 : ∀ j : Int, 0 ≤ j → (j = x4 → tail_4 j = x1) ∧ (j ≠ x4 → tail_4 j = tail_5 j)) (hK_0_7 : ∀ j : Int, 0 ≤ j → j < 48 → 0 ≤ tail_0 j ∧ tail_0 j ≤ 23) (hE_0_8_1 : ∀ j : Int, head_0 j = head_1 j) (hE_0_8_2 : ∀ j : Int, head_1 j = head_2 j) (hE_0_8_3 : ∀ j : Int, head_2 j = head_3 j) (hE_0_8_4 : ∀ j : Int, 0 ≤ j → (j = x4 → head_3 j = x2) ∧ (j ≠ x4 → head_3 j = head_4 j)) (hE_0_8_5 : ∀ j : Int, head_4 j = head_5 j) (hK_0_8 : ∀ j : Int, 0 ≤ j → j < 48 → 0 ≤ head_0 j ∧ head_0 j ≤ 23) (hE_0_9_1 : ∀ j : Int, weight_0 j = weight_1 j) (hE_0_9_2 : ∀ j : Int, weight_1 j = weight_2 j) (hE_0_9_3 : ∀ j : Int, 0 ≤ j → (j = x4 → weight_2 j = x8) ∧ (j ≠ x4 → weight_2 j = weight_3 j)) (hE_0_9_4 : ∀ j : Int, weight_3 j = weight_4 j) (hE_0_9_5 : ∀ j : Int, weight_4 j = weight_5 j) (hK_0_9 : ∀ j : Int, 0 ≤ j → j < 48 → 0 ≤ weight_0 j ∧ weight_0 j ≤ 9) (hE_0_10_1 : ∀ j : Int, oneWay_0 j = oneWay_1 j) (hE_0_10_2 : ∀ j : Int, 0 ≤ j → (j = x4 → oneWay_1 j = x3) ∧ (j ≠ x4 → oneWay_1 j = oneWay_2 j)) (hE_0_10_3 : ∀ j : Int, oneWay_2 j = oneWay_3 j) (hE_0_10_4 : ∀ j : Int, oneWay_3 j = oneWay_4 j) (hE_0_10_5 : ∀ j : Int, oneWay_4 j = oneWay_5 j) (hK_0_10 : ∀ j : Int, 0 ≤ j → j < 48 → 0 ≤ oneWay_0 j ∧ oneWay_0 j ≤ 1) (hE_0_14_1 : ∀ j : Int, near_0 j = near_1 j) (hE_0_14_2 : ∀ j : Int, near_1 j = near_2 j) (hE_0_14_3 : ∀ j : Int, near_2 j = near_3 j) (hE_0_14_4 : ∀ j : Int, near_3 j = near_4 j) (hE_0_14_5 : ∀ j : Int, near_4 j = near_5 j) (hK_0_14 : ∀ j : Int, 0 ≤ j → j < 24 → 0 ≤ near_0 j ∧ near_0 j ≤ 16777215) (kz_0_0 : 0 ≤ nodes_0 ∧ nodes_0 ≤ 24) (kz_0_1 : 0 ≤ edges_0 ∧ edges_0 ≤ 48) : GNK (nodes_0) (near_0) (tail_0) (head_0) (x4) := by
  subst fe_0_0_1
  subst fe_0_0_2
  subst fe_0_1_2
  subst fe_0_0_3
  subst fe_0_1_3
  subst fe_0_0_4
  subst fe_0_1_4
  subst fe_0_0_5
  subst fe_0_1_5
  have e_hE_0_7_1 := funext hE_0_7_1; subst e_hE_0_7_1
  have e_hE_0_7_2 := funext hE_0_7_2; subst e_hE_0_7_2
  have e_hE_0_7_3 := funext hE_0_7_3; subst e_hE_0_7_3
  have e_hE_0_7_4 := funext hE_0_7_4; subst e_hE_0_7_4
  have e_hE_0_8_1 := funext hE_0_8_1; subst e_hE_0_8_1
  have e_hE_0_8_2 := funext hE_0_8_2; subst e_hE_0_8_2
  have e_hE_0_8_3 := funext hE_0_8_3; subst e_hE_0_8_3
  have e_hE_0_8_5 := funext hE_0_8_5; subst e_hE_0_8_5
  have e_hE_0_9_1 := funext hE_0_9_1; subst e_hE_0_9_1
  have e_hE_0_9_2 := funext hE_0_9_2; subst e_hE_0_9_2
  have e_hE_0_9_4 := funext hE_0_9_4; subst e_hE_0_9_4
  have e_hE_0_9_5 := funext hE_0_9_5; subst e_hE_0_9_5
  have e_hE_0_10_1 := funext hE_0_10_1; subst e_hE_0_10_1
  have e_hE_0_10_3 := funext hE_0_10_3; subst e_hE_0_10_3
  have e_hE_0_10_4 := funext hE_0_10_4; subst e_hE_0_10_4
  have e_hE_0_10_5 := funext hE_0_10_5; subst e_hE_0_10_5
  have e_hE_0_14_1 := funext hE_0_14_1; subst e_hE_0_14_1
  have e_hE_0_14_2 := funext hE_0_14_2; subst e_hE_0_14_2
  have e_hE_0_14_3 := funext hE_0_14_3; subst e_hE_0_14_3
  have e_hE_0_14_4 := funext hE_0_14_4; subst e_hE_0_14_4
  have e_hE_0_14_5 := funext hE_0_14_5; subst e_hE_0_14_5
  first
    | assumption
    | exact gnk_edge ‹GNB _ _ _ _ _› (by omega) hE_0_7_5 (by omega) hE_0_8_4 (by omega) (by omega)
  
set_option maxHeartbeats 4000000 in
theorem vc_Gr_addEdge_at_Gr_0_2 (x1 : Int) (x2 : Int) (x4 : Int) (x10 : Int) (x11 : Int) (edges_0 : Int) (nodes_0 : Int) (edges_1 : Int) (nodes_1 : Int) (nodes_2 : Int) (nodes_3 : Int) (nodes_4 : Int) (near_5 : Int → Int) (tail_5 : Int → Int) (head_5 : Int → Int) (nodes_5 : Int) (edges_5 : Int) (edges_2 : Int) (edges_3 : Int) (edges_4 : Int) (tail_0 : Int → Int) (tail_1 : Int → Int) (tail_2 : Int → Int) (tail_3 : Int → Int) (tail_4 : Int → Int) (head_0 : Int → Int) (head_1 : Int → Int) (head_2 : Int → Int) (head_3 : Int → Int) (head_4 : Int → Int) (weight_0 : Int → Int) (weight_1 : Int → Int) (weight_2 : Int → Int) (weight_3 : Int → Int) (x8 : Int) (weight_4 : Int → Int) (weight_5 : Int → Int) (oneWay_0 : Int → Int) (oneWay_1 : Int → Int) (oneWay_2 : Int → Int) (x3 : Int) (oneWay_3 : Int → Int) (oneWay_4 : Int → Int) (oneWay_5 : Int → Int) (near_0 : Int → Int) (near_1 : Int → Int) (near_2 : Int → Int) (near_3 : Int → Int) (near_4 : Int → Int) (k1 : 0 ≤ x1 ∧ x1 ≤ 23) (k2 : 0 ≤ x2 ∧ x2 ≤ 23) (k4 : 0 ≤ x4 ∧ x4 ≤ 47) (k10 : 1 ≤ x10 ∧ x10 ≤ 1) (k11 : 1 ≤ x11 ∧ x11 ≤ 48) (d0 : x4 + 1 ≤ x11 ∧ x11 ≤ x4 + 1) (g0 : x11 = edges_0) (f5 : (0 ≤ x1) ∧ (((x1 + 1) ≤ nodes_0) ∧ ((0 ≤ x2) ∧ (((x2 + 1) ≤ nodes_0) ∧ (((x1 + 1) ≤ x2) ∨ ((x2 + 1) ≤ x1)))))) (f7 : x11 = x4 + x10) (g8 : x4 = edges_1) (f9 : (0 ≤ x1) ∧ (((x1 + 1) ≤ nodes_1) ∧ ((0 ≤ x2) ∧ (((x2 + 1) ≤ nodes_1) ∧ (((x1 + 1) ≤ x2) ∨ ((x2 + 1) ≤ x1)))))) (f11 : (0 ≤ x1) ∧ (((x1 + 1) ≤ nodes_2) ∧ ((0 ≤ x2) ∧ (((x2 + 1) ≤ nodes_2) ∧ (((x1 + 1) ≤ x2) ∨ ((x2 + 1) ≤ x1)))))) (f13 : (0 ≤ x1) ∧ (((x1 + 1) ≤ nodes_3) ∧ ((0 ≤ x2) ∧ (((x2 + 1) ≤ nodes_3) ∧ (((x1 + 1) ≤ x2) ∨ ((x2 + 1) ≤ x1)))))) (f15 : (0 ≤ x1) ∧ (((x1 + 1) ≤ nodes_4) ∧ ((0 ≤ x2) ∧ (((x2 + 1) ≤ nodes_4) ∧ (((x1 + 1) ≤ x2) ∨ ((x2 + 1) ≤ x1)))))) (f17 : GNB (nodes_5) (edges_5) (near_5) (tail_5) (head_5)) (f18 : GKE (nodes_5) (edges_5) (tail_5) (head_5)) (f19 : (0 ≤ x1) ∧ (((x1 + 1) ≤ nodes_5) ∧ ((0 ≤ x2) ∧ (((x2 + 1) ≤ nodes_5) ∧ (((x1 + 1) ≤ x2) ∨ ((x2 + 1) ≤ x1)))))) (fe_0_0_1 : nodes_0 = nodes_1) (fe_0_1_1 : edges_0 = x11) (fe_0_0_2 : nodes_1 = nodes_2) (fe_0_1_2 : edges_1 = edges_2) (fe_0_0_3 : nodes_2 = nodes_3) (fe_0_1_3 : edges_2 = edges_3) (fe_0_0_4 : nodes_3 = nodes_4) (fe_0_1_4 : edges_3 = edges_4) (fe_0_0_5 : nodes_4 = nodes_5) (fe_0_1_5 : edges_4 = edges_5) (hE_0_7_1 : ∀ j : Int, tail_0 j = tail_1 j) (hE_0_7_2 : ∀ j : Int, tail_1 j = tail_2 j) (hE_0_7_3 : ∀ j : Int, tail_2 j = tail_3 j) (hE_0_7_4 : ∀ j : Int, tail_3 j = tail_4 j) (hE_0_7_5 : ∀ j : Int, 0 ≤ j → (j = x4 → tail_4 j = x1) ∧ (j ≠ x4 → tail_4 j = tail_5 j)) (hK_0_7 : ∀ j : Int, 0 ≤ j → j < 48 → 0 ≤ tail_0 j ∧ tail_0 j ≤ 23) (hE_0_8_1 : ∀ j : Int, head_0 j = head_1 j) (hE_0_8_2 : ∀ j : Int, head_1 j = head_2 j) (hE_0_8_3 : ∀ j : Int, head_2 j = head_3 j) (hE_0_8_4 : ∀ j : Int, 0 ≤ j → (j = x4 → head_3 j = x2) ∧ (j ≠ x4 → head_3 j = head_4 j)) (hE_0_8_5 : ∀ j : Int, head_4 j = head_5 j) (hK_0_8 : ∀ j : Int, 0 ≤ j → j < 48 → 0 ≤ head_0 j ∧ head_0 j ≤ 23) (hE_0_9_1 : ∀ j : Int, weight_0 j = weight_1 j) (hE_0_9_2 : ∀ j : Int, weight_1 j = weight_2 j) (hE_0_9_3 : ∀ j : Int, 0 ≤ j → (j = x4 → weight_2 j = x8) ∧ (j ≠ x4 → weight_2 j = weight_3 j)) (hE_0_9_4 : ∀ j : Int, weight_3 j = weight_4 j) (hE_0_9_5 : ∀ j : Int, weight_4 j = weight_5 j) (hK_0_9 : ∀ j : Int, 0 ≤ j → j < 48 → 0 ≤ weight_0 j ∧ weight_0 j ≤ 9) (hE_0_10_1 : ∀ j : Int, oneWay_0 j = oneWay_1 j) (hE_0_10_2 : ∀ j : Int, 0 ≤ j → (j = x4 → oneWay_1 j = x3) ∧ (j ≠ x4 → oneWay_1 j = oneWay_2 j)) (hE_0_10_3 : ∀ j : Int, oneWay_2 j = oneWay_3 j) (hE_0_10_4 : ∀ j : Int, oneWay_3 j = oneWay_4 j) (hE_0_10_5 : ∀ j : Int, oneWay_4 j = oneWay_5 j) (hK_0_10 : ∀ j : Int, 0 ≤ j → j < 48 → 0 ≤ oneWay_0 j ∧ oneWay_0 j ≤ 1) (hE_0_14_1 : ∀ j : Int, near_0 j = near_1 j) (hE_0_14_2 : ∀ j : Int, near_1 j = near_2 j) (hE_0_14_3 : ∀ j : Int, near_2 j = near_3 j) (hE_0_14_4 : ∀ j : Int, near_3 j = near_4 j) (hE_0_14_5 : ∀ j : Int, near_4 j = near_5 j) (hK_0_14 : ∀ j : Int, 0 ≤ j → j < 24 → 0 ≤ near_0 j ∧ near_0 j ≤ 16777215) (kz_0_0 : 0 ≤ nodes_0 ∧ nodes_0 ≤ 24) (kz_0_1 : 0 ≤ edges_0 ∧ edges_0 ≤ 48) : GKE (nodes_0) (edges_0) (tail_0) (head_0) := by
  subst fe_0_0_1
  subst fe_0_0_2
  subst fe_0_1_2
  subst fe_0_0_3
  subst fe_0_1_3
  subst fe_0_0_4
  subst fe_0_1_4
  subst fe_0_0_5
  subst fe_0_1_5
  have e_hE_0_7_1 := funext hE_0_7_1; subst e_hE_0_7_1
  have e_hE_0_7_2 := funext hE_0_7_2; subst e_hE_0_7_2
  have e_hE_0_7_3 := funext hE_0_7_3; subst e_hE_0_7_3
  have e_hE_0_7_4 := funext hE_0_7_4; subst e_hE_0_7_4
  have e_hE_0_8_1 := funext hE_0_8_1; subst e_hE_0_8_1
  have e_hE_0_8_2 := funext hE_0_8_2; subst e_hE_0_8_2
  have e_hE_0_8_3 := funext hE_0_8_3; subst e_hE_0_8_3
  have e_hE_0_8_5 := funext hE_0_8_5; subst e_hE_0_8_5
  have e_hE_0_9_1 := funext hE_0_9_1; subst e_hE_0_9_1
  have e_hE_0_9_2 := funext hE_0_9_2; subst e_hE_0_9_2
  have e_hE_0_9_4 := funext hE_0_9_4; subst e_hE_0_9_4
  have e_hE_0_9_5 := funext hE_0_9_5; subst e_hE_0_9_5
  have e_hE_0_10_1 := funext hE_0_10_1; subst e_hE_0_10_1
  have e_hE_0_10_3 := funext hE_0_10_3; subst e_hE_0_10_3
  have e_hE_0_10_4 := funext hE_0_10_4; subst e_hE_0_10_4
  have e_hE_0_10_5 := funext hE_0_10_5; subst e_hE_0_10_5
  have e_hE_0_14_1 := funext hE_0_14_1; subst e_hE_0_14_1
  have e_hE_0_14_2 := funext hE_0_14_2; subst e_hE_0_14_2
  have e_hE_0_14_3 := funext hE_0_14_3; subst e_hE_0_14_3
  have e_hE_0_14_4 := funext hE_0_14_4; subst e_hE_0_14_4
  have e_hE_0_14_5 := funext hE_0_14_5; subst e_hE_0_14_5
  first
    | assumption
    | exact gke_edge ‹GKE _ _ _ _› (by omega) (by omega) (by omega) (by omega) (by omega) hE_0_7_5 (by omega) hE_0_8_4 (by omega) (by omega)
  
def o_Gr_addEdge_at_Gr_0 : or_T := (48, 12, [(0, (2, 0, 0, [3])), (1, (0, 0, 23, [])), (2, (0, 0, 23, [])), (4, (0, 0, 47, [])), (5, (2, 0, 0, [52])), (6, (2, 0, 0, [53])), (7, (2, 0, 0, [54])), (9, (2, 0, 0, [55])), (10, (0, 1, 1, [])), (11, (0, 1, 48, []))], [(9, [11, 0], [1]), (9, [9, 0], [10]), (9, [7, 0], [9]), (9, [6, 0], [8]), (9, [5, 0], [7]), (20, [1, 0, 2], [50, 1, 0, 1000, 2, 6, 0, 2, 0, 0, 1, 0, 2, 11, 0, 6, 4, 2, 1, 0, 0, 1, 2, 1, 0, 2, 6, 0, 2, 0, 0, 1, 2, 2, 11, 0, 6, 4, 2, 1, 2, 0, 1, 2, 1, 0, 3, 10, 0, 6, 4, 2, 1, 0, 0, 1, 1, 2, 0, 6, 4, 2, 1, 2, 0, 1, 1, 0]), (101, [0, 11], [1]), (1, [11, 4, 10], []), (9, [4, 0], [1]), (20, [1, 0, 2], [50, 1, 0, 1000, 2, 6, 0, 2, 0, 0, 1, 0, 2, 11, 0, 6, 4, 2, 1, 0, 0, 1, 2, 1, 0, 2, 6, 0, 2, 0, 0, 1, 2, 2, 11, 0, 6, 4, 2, 1, 2, 0, 1, 2, 1, 0, 3, 10, 0, 6, 4, 2, 1, 0, 0, 1, 1, 2, 0, 6, 4, 2, 1, 2, 0, 1, 1, 0]), (100, [9, 4, 3], []), (20, [1, 0, 2], [50, 1, 0, 1000, 2, 6, 0, 2, 0, 0, 1, 0, 2, 11, 0, 6, 4, 2, 1, 0, 0, 1, 2, 1, 0, 2, 6, 0, 2, 0, 0, 1, 2, 2, 11, 0, 6, 4, 2, 1, 2, 0, 1, 2, 1, 0, 3, 10, 0, 6, 4, 2, 1, 0, 0, 1, 1, 2, 0, 6, 4, 2, 1, 2, 0, 1, 1, 0]), (100, [7, 4, 8], []), (20, [1, 0, 2], [50, 1, 0, 1000, 2, 6, 0, 2, 0, 0, 1, 0, 2, 11, 0, 6, 4, 2, 1, 0, 0, 1, 2, 1, 0, 2, 6, 0, 2, 0, 0, 1, 2, 2, 11, 0, 6, 4, 2, 1, 2, 0, 1, 2, 1, 0, 3, 10, 0, 6, 4, 2, 1, 0, 0, 1, 1, 2, 0, 6, 4, 2, 1, 2, 0, 1, 1, 0]), (100, [6, 4, 2], []), (20, [1, 0, 2], [50, 1, 0, 1000, 2, 6, 0, 2, 0, 0, 1, 0, 2, 11, 0, 6, 4, 2, 1, 0, 0, 1, 2, 1, 0, 2, 6, 0, 2, 0, 0, 1, 2, 2, 11, 0, 6, 4, 2, 1, 2, 0, 1, 2, 1, 0, 3, 10, 0, 6, 4, 2, 1, 0, 0, 1, 1, 2, 0, 6, 4, 2, 1, 2, 0, 1, 1, 0]), (100, [5, 4, 1], []), (20, [0], [60, 2, 3, 670, 0, 1, 14, 7, 8]), (20, [0], [60, 2, 2, 596, 0, 1, 7, 8]), (20, [1, 0, 2], [50, 1, 0, 1000, 2, 6, 0, 2, 0, 0, 1, 0, 2, 11, 0, 6, 4, 2, 1, 0, 0, 1, 2, 1, 0, 2, 6, 0, 2, 0, 0, 1, 2, 2, 11, 0, 6, 4, 2, 1, 2, 0, 1, 2, 1, 0, 3, 10, 0, 6, 4, 2, 1, 0, 0, 1, 1, 2, 0, 6, 4, 2, 1, 2, 0, 1, 1, 0])], [], [], [(20, [4, 0], [50, 1, 0, 1001, 2, 6, 0, 2, 0, 0, 1, 0, 1, 6, 4, 2, 1, 0, 0, 1, 2, 1, 1]), (20, [0, 4], [60, 1, 3, 747, 0, 14, 7, 8]), (20, [0], [60, 2, 2, 596, 0, 1, 7, 8])], [], [(11, 4, 1, 1)])
theorem oo_Gr_addEdge_at_Gr_0 {kA : Nat → ClassId} : or_ok PRD kA GG o_Gr_addEdge_at_Gr_0 := by
  refine or_mk fun A ta ws vs hD hth hl => ?_
  intro t0 r0 t1 k1 t2 k2 t4 k4 t5 r5 t6 r6 t7 r7 t9 r9 t10 k10 t11 k11 d0 f0 f1 f2 f3 f4 f5 ta1 w1 le1 s1 f7 f8 f9 ta2 w2 le2 s2 f11 ta3 w3 le3 s3 f13 ta4 w4 le4 s4 f15 ta5 w5 le5 s5 f17 f18 f19
  replace f0 := shm_215 f0
  replace f1 := shm_106 f1
  replace f2 := shm_119 f2
  replace f3 := shm_293 f3
  replace f4 := shm_198 f4
  have s1 : (∀ b j, w_el ws b j = w_el w1 b j) ∧ ∀ b j, w_fd ws b j = if b = v_ad (n_v vs 0) ∧ j = 1 then n_v vs 11 else w_fd w1 b j := s1.2
  replace f8 := shm_215 f8
  have s2 : (∀ b j, w_el w1 b j = if b = v_ad (n_v vs 9) ∧ j = (v_iv (n_v vs 4)).toNat then v_iv (n_v vs 3) else w_el w2 b j) ∧ ∀ b k, w_fd w1 b k = w_fd w2 b k := s2.2
  have s3 : (∀ b j, w_el w2 b j = if b = v_ad (n_v vs 7) ∧ j = (v_iv (n_v vs 4)).toNat then v_iv (n_v vs 8) else w_el w3 b j) ∧ ∀ b k, w_fd w2 b k = w_fd w3 b k := s3.2
  have s4 : (∀ b j, w_el w3 b j = if b = v_ad (n_v vs 6) ∧ j = (v_iv (n_v vs 4)).toNat then v_iv (n_v vs 2) else w_el w4 b j) ∧ ∀ b k, w_fd w3 b k = w_fd w4 b k := s4.2
  have s5 : (∀ b j, w_el w4 b j = if b = v_ad (n_v vs 5) ∧ j = (v_iv (n_v vs 4)).toNat then v_iv (n_v vs 1) else w_el w5 b j) ∧ ∀ b k, w_fd w4 b k = w_fd w5 b k := s5.2
  replace f17 := shm_825 f17
  replace f18 := shm_386 f18
  have ar_0_7_1 : w_ar w1 (n_v vs 0) 7 = w_ar ws (n_v vs 0) 7 := by show v_ad (w_fd w1 _ _) = v_ad (w_fd ws _ _); rw [s1.2, if_neg (fun e => absurd e.2 (by decide))]
  have ar_0_7_2 : w_ar w2 (n_v vs 0) 7 = w_ar ws (n_v vs 0) 7 := by rw [← ar_0_7_1]; show v_ad (w_fd w2 _ _) = v_ad (w_fd w1 _ _); rw [s2.2]
  have ar_0_7_3 : w_ar w3 (n_v vs 0) 7 = w_ar ws (n_v vs 0) 7 := by rw [← ar_0_7_2]; show v_ad (w_fd w3 _ _) = v_ad (w_fd w2 _ _); rw [s3.2]
  have ar_0_7_4 : w_ar w4 (n_v vs 0) 7 = w_ar ws (n_v vs 0) 7 := by rw [← ar_0_7_3]; show v_ad (w_fd w4 _ _) = v_ad (w_fd w3 _ _); rw [s4.2]
  have ar_0_7_5 : w_ar w5 (n_v vs 0) 7 = w_ar ws (n_v vs 0) 7 := by rw [← ar_0_7_4]; show v_ad (w_fd w5 _ _) = v_ad (w_fd w4 _ _); rw [s5.2]
  have cr_0_7 := fdq_46 hD hth r0
  have ar_0_8_1 : w_ar w1 (n_v vs 0) 8 = w_ar ws (n_v vs 0) 8 := by show v_ad (w_fd w1 _ _) = v_ad (w_fd ws _ _); rw [s1.2, if_neg (fun e => absurd e.2 (by decide))]
  have ar_0_8_2 : w_ar w2 (n_v vs 0) 8 = w_ar ws (n_v vs 0) 8 := by rw [← ar_0_8_1]; show v_ad (w_fd w2 _ _) = v_ad (w_fd w1 _ _); rw [s2.2]
  have ar_0_8_3 : w_ar w3 (n_v vs 0) 8 = w_ar ws (n_v vs 0) 8 := by rw [← ar_0_8_2]; show v_ad (w_fd w3 _ _) = v_ad (w_fd w2 _ _); rw [s3.2]
  have ar_0_8_4 : w_ar w4 (n_v vs 0) 8 = w_ar ws (n_v vs 0) 8 := by rw [← ar_0_8_3]; show v_ad (w_fd w4 _ _) = v_ad (w_fd w3 _ _); rw [s4.2]
  have ar_0_8_5 : w_ar w5 (n_v vs 0) 8 = w_ar ws (n_v vs 0) 8 := by rw [← ar_0_8_4]; show v_ad (w_fd w5 _ _) = v_ad (w_fd w4 _ _); rw [s5.2]
  have cr_0_8 := fdq_47 hD hth r0
  have cr_0_9 := fdq_112 hD hth r0
  have cr_0_10 := fdq_209 hD hth r0
  have ar_0_14_1 : w_ar w1 (n_v vs 0) 14 = w_ar ws (n_v vs 0) 14 := by show v_ad (w_fd w1 _ _) = v_ad (w_fd ws _ _); rw [s1.2, if_neg (fun e => absurd e.2 (by decide))]
  have ar_0_14_2 : w_ar w2 (n_v vs 0) 14 = w_ar ws (n_v vs 0) 14 := by rw [← ar_0_14_1]; show v_ad (w_fd w2 _ _) = v_ad (w_fd w1 _ _); rw [s2.2]
  have ar_0_14_3 : w_ar w3 (n_v vs 0) 14 = w_ar ws (n_v vs 0) 14 := by rw [← ar_0_14_2]; show v_ad (w_fd w3 _ _) = v_ad (w_fd w2 _ _); rw [s3.2]
  have ar_0_14_4 : w_ar w4 (n_v vs 0) 14 = w_ar ws (n_v vs 0) 14 := by rw [← ar_0_14_3]; show v_ad (w_fd w4 _ _) = v_ad (w_fd w3 _ _); rw [s4.2]
  have ar_0_14_5 : w_ar w5 (n_v vs 0) 14 = w_ar ws (n_v vs 0) 14 := by rw [← ar_0_14_4]; show v_ad (w_fd w5 _ _) = v_ad (w_fd w4 _ _); rw [s5.2]
  have cr_0_14 := fdq_75 hD hth r0
  have ad_9 : v_ad (n_v vs 9) = w_ar ws (n_v vs 0) 10 := congrArg v_ad f1
  have ad_7 : v_ad (n_v vs 7) = w_ar ws (n_v vs 0) 9 := congrArg v_ad f2
  have ad_6 : v_ad (n_v vs 6) = w_ar ws (n_v vs 0) 8 := congrArg v_ad f3
  have ad_5 : v_ad (n_v vs 5) = w_ar ws (n_v vs 0) 7 := congrArg v_ad f4
  have g0 : v_iv (n_v vs 11) = w_fi ws (n_v vs 0) 1 := congrArg v_iv f0
  have g8 : v_iv (n_v vs 4) = w_fi w1 (n_v vs 0) 1 := congrArg v_iv f8
  simp only [ar_0_7_5, ar_0_8_5, ar_0_14_5] at f17 f18
  have fe_0_0_1 : w_fi ws (n_v vs 0) 0 = w_fi w1 (n_v vs 0) 0 := by show v_iv (w_fd _ _ _) = v_iv (w_fd _ _ _); rw [s1.2, if_neg (fun e => absurd e.2 (by decide))]
  have fe_0_1_1 : w_fi ws (n_v vs 0) 1 = v_iv (n_v vs 11) := by show v_iv (w_fd _ _ _) = _; rw [s1.2, if_pos ⟨rfl, rfl⟩]
  have fe_0_0_2 : w_fi w1 (n_v vs 0) 0 = w_fi w2 (n_v vs 0) 0 := congrArg v_iv (s2.2 _ _)
  have fe_0_1_2 : w_fi w1 (n_v vs 0) 1 = w_fi w2 (n_v vs 0) 1 := congrArg v_iv (s2.2 _ _)
  have fe_0_0_3 : w_fi w2 (n_v vs 0) 0 = w_fi w3 (n_v vs 0) 0 := congrArg v_iv (s3.2 _ _)
  have fe_0_1_3 : w_fi w2 (n_v vs 0) 1 = w_fi w3 (n_v vs 0) 1 := congrArg v_iv (s3.2 _ _)
  have fe_0_0_4 : w_fi w3 (n_v vs 0) 0 = w_fi w4 (n_v vs 0) 0 := congrArg v_iv (s4.2 _ _)
  have fe_0_1_4 : w_fi w3 (n_v vs 0) 1 = w_fi w4 (n_v vs 0) 1 := congrArg v_iv (s4.2 _ _)
  have fe_0_0_5 : w_fi w4 (n_v vs 0) 0 = w_fi w5 (n_v vs 0) 0 := congrArg v_iv (s5.2 _ _)
  have fe_0_1_5 : w_fi w4 (n_v vs 0) 1 = w_fi w5 (n_v vs 0) 1 := congrArg v_iv (s5.2 _ _)
  have hE_0_7_1 : ∀ j : Int, w_ei ws (w_ar ws (n_v vs 0) 7) j = w_ei w1 (w_ar ws (n_v vs 0) 7) j := fun j => s1.1 _ _
  have hE_0_7_2 : ∀ j : Int, w_ei w1 (w_ar ws (n_v vs 0) 7) j = w_ei w2 (w_ar ws (n_v vs 0) 7) j := el_kp s2.1 r9 cr_0_7 (by decide)
  have hE_0_7_3 : ∀ j : Int, w_ei w2 (w_ar ws (n_v vs 0) 7) j = w_ei w3 (w_ar ws (n_v vs 0) 7) j := el_kp s3.1 r7 cr_0_7 (by decide)
  have hE_0_7_4 : ∀ j : Int, w_ei w3 (w_ar ws (n_v vs 0) 7) j = w_ei w4 (w_ar ws (n_v vs 0) 7) j := el_kp s4.1 r6 cr_0_7 (by decide)
  have hE_0_7_5 : ∀ j : Int, 0 ≤ j → (j = v_iv (n_v vs 4) → w_ei w4 (w_ar ws (n_v vs 0) 7) j = v_iv (n_v vs 1)) ∧ (j ≠ v_iv (n_v vs 4) → w_ei w4 (w_ar ws (n_v vs 0) 7) j = w_ei w5 (w_ar ws (n_v vs 0) 7) j) := fun j hj => ⟨fun h => by unfold w_ei; rw [s5.1, if_pos ⟨ad_5.symm, by rw [h]⟩], fun h => by unfold w_ei; rw [s5.1, if_neg (fun e => h (by have := e.2; omega))]⟩
  have hK_0_7 := elq_11 hD hth cr_0_7
  have hE_0_8_1 : ∀ j : Int, w_ei ws (w_ar ws (n_v vs 0) 8) j = w_ei w1 (w_ar ws (n_v vs 0) 8) j := fun j => s1.1 _ _
  have hE_0_8_2 : ∀ j : Int, w_ei w1 (w_ar ws (n_v vs 0) 8) j = w_ei w2 (w_ar ws (n_v vs 0) 8) j := el_kp s2.1 r9 cr_0_8 (by decide)
  have hE_0_8_3 : ∀ j : Int, w_ei w2 (w_ar ws (n_v vs 0) 8) j = w_ei w3 (w_ar ws (n_v vs 0) 8) j := el_kp s3.1 r7 cr_0_8 (by decide)
  have hE_0_8_4 : ∀ j : Int, 0 ≤ j → (j = v_iv (n_v vs 4) → w_ei w3 (w_ar ws (n_v vs 0) 8) j = v_iv (n_v vs 2)) ∧ (j ≠ v_iv (n_v vs 4) → w_ei w3 (w_ar ws (n_v vs 0) 8) j = w_ei w4 (w_ar ws (n_v vs 0) 8) j) := fun j hj => ⟨fun h => by unfold w_ei; rw [s4.1, if_pos ⟨ad_6.symm, by rw [h]⟩], fun h => by unfold w_ei; rw [s4.1, if_neg (fun e => h (by have := e.2; omega))]⟩
  have hE_0_8_5 : ∀ j : Int, w_ei w4 (w_ar ws (n_v vs 0) 8) j = w_ei w5 (w_ar ws (n_v vs 0) 8) j := el_kp s5.1 r5 cr_0_8 (by decide)
  have hK_0_8 := elq_12 hD hth cr_0_8
  have hE_0_9_1 : ∀ j : Int, w_ei ws (w_ar ws (n_v vs 0) 9) j = w_ei w1 (w_ar ws (n_v vs 0) 9) j := fun j => s1.1 _ _
  have hE_0_9_2 : ∀ j : Int, w_ei w1 (w_ar ws (n_v vs 0) 9) j = w_ei w2 (w_ar ws (n_v vs 0) 9) j := el_kp s2.1 r9 cr_0_9 (by decide)
  have hE_0_9_3 : ∀ j : Int, 0 ≤ j → (j = v_iv (n_v vs 4) → w_ei w2 (w_ar ws (n_v vs 0) 9) j = v_iv (n_v vs 8)) ∧ (j ≠ v_iv (n_v vs 4) → w_ei w2 (w_ar ws (n_v vs 0) 9) j = w_ei w3 (w_ar ws (n_v vs 0) 9) j) := fun j hj => ⟨fun h => by unfold w_ei; rw [s3.1, if_pos ⟨ad_7.symm, by rw [h]⟩], fun h => by unfold w_ei; rw [s3.1, if_neg (fun e => h (by have := e.2; omega))]⟩
  have hE_0_9_4 : ∀ j : Int, w_ei w3 (w_ar ws (n_v vs 0) 9) j = w_ei w4 (w_ar ws (n_v vs 0) 9) j := el_kp s4.1 r6 cr_0_9 (by decide)
  have hE_0_9_5 : ∀ j : Int, w_ei w4 (w_ar ws (n_v vs 0) 9) j = w_ei w5 (w_ar ws (n_v vs 0) 9) j := el_kp s5.1 r5 cr_0_9 (by decide)
  have hK_0_9 := elq_57 hD hth cr_0_9
  have hE_0_10_1 : ∀ j : Int, w_ei ws (w_ar ws (n_v vs 0) 10) j = w_ei w1 (w_ar ws (n_v vs 0) 10) j := fun j => s1.1 _ _
  have hE_0_10_2 : ∀ j : Int, 0 ≤ j → (j = v_iv (n_v vs 4) → w_ei w1 (w_ar ws (n_v vs 0) 10) j = v_iv (n_v vs 3)) ∧ (j ≠ v_iv (n_v vs 4) → w_ei w1 (w_ar ws (n_v vs 0) 10) j = w_ei w2 (w_ar ws (n_v vs 0) 10) j) := fun j hj => ⟨fun h => by unfold w_ei; rw [s2.1, if_pos ⟨ad_9.symm, by rw [h]⟩], fun h => by unfold w_ei; rw [s2.1, if_neg (fun e => h (by have := e.2; omega))]⟩
  have hE_0_10_3 : ∀ j : Int, w_ei w2 (w_ar ws (n_v vs 0) 10) j = w_ei w3 (w_ar ws (n_v vs 0) 10) j := el_kp s3.1 r7 cr_0_10 (by decide)
  have hE_0_10_4 : ∀ j : Int, w_ei w3 (w_ar ws (n_v vs 0) 10) j = w_ei w4 (w_ar ws (n_v vs 0) 10) j := el_kp s4.1 r6 cr_0_10 (by decide)
  have hE_0_10_5 : ∀ j : Int, w_ei w4 (w_ar ws (n_v vs 0) 10) j = w_ei w5 (w_ar ws (n_v vs 0) 10) j := el_kp s5.1 r5 cr_0_10 (by decide)
  have hK_0_10 := elq_123 hD hth cr_0_10
  have hE_0_14_1 : ∀ j : Int, w_ei ws (w_ar ws (n_v vs 0) 14) j = w_ei w1 (w_ar ws (n_v vs 0) 14) j := fun j => s1.1 _ _
  have hE_0_14_2 : ∀ j : Int, w_ei w1 (w_ar ws (n_v vs 0) 14) j = w_ei w2 (w_ar ws (n_v vs 0) 14) j := el_kp s2.1 r9 cr_0_14 (by decide)
  have hE_0_14_3 : ∀ j : Int, w_ei w2 (w_ar ws (n_v vs 0) 14) j = w_ei w3 (w_ar ws (n_v vs 0) 14) j := el_kp s3.1 r7 cr_0_14 (by decide)
  have hE_0_14_4 : ∀ j : Int, w_ei w3 (w_ar ws (n_v vs 0) 14) j = w_ei w4 (w_ar ws (n_v vs 0) 14) j := el_kp s4.1 r6 cr_0_14 (by decide)
  have hE_0_14_5 : ∀ j : Int, w_ei w4 (w_ar ws (n_v vs 0) 14) j = w_ei w5 (w_ar ws (n_v vs 0) 14) j := el_kp s5.1 r5 cr_0_14 (by decide)
  have hK_0_14 := elq_25 hD hth cr_0_14
  have kz_0_0 := fdq_21 hD hth r0
  have kz_0_1 := fdq_30 hD hth r0
  have nf0 : fc_1 PRD (20, [4, 0], [50, 1, 0, 1001, 2, 6, 0, 2, 0, 0, 1, 0, 1, 6, 4, 2, 1, 0, 0, 1, 2, 1, 1]) ws (vs) := ⟨nf_in hl rfl, sgq_828 (vc_Gr_addEdge_at_Gr_0_0 (v_iv (n_v vs 1)) (v_iv (n_v vs 2)) (v_iv (n_v vs 4)) (v_iv (n_v vs 10)) (v_iv (n_v vs 11)) (w_fi ws (n_v vs 0) 1) (w_fi ws (n_v vs 0) 0) (w_fi w1 (n_v vs 0) 1) (w_fi w1 (n_v vs 0) 0) (w_fi w2 (n_v vs 0) 0) (w_fi w3 (n_v vs 0) 0) (w_fi w4 (n_v vs 0) 0) (w_ei w5 (w_ar ws (n_v vs 0) 14)) (w_ei w5 (w_ar ws (n_v vs 0) 7)) (w_ei w5 (w_ar ws (n_v vs 0) 8)) (w_fi w5 (n_v vs 0) 0) (w_fi w5 (n_v vs 0) 1) (w_fi w2 (n_v vs 0) 1) (w_fi w3 (n_v vs 0) 1) (w_fi w4 (n_v vs 0) 1) (w_ei ws (w_ar ws (n_v vs 0) 7)) (w_ei w1 (w_ar ws (n_v vs 0) 7)) (w_ei w2 (w_ar ws (n_v vs 0) 7)) (w_ei w3 (w_ar ws (n_v vs 0) 7)) (w_ei w4 (w_ar ws (n_v vs 0) 7)) (w_ei ws (w_ar ws (n_v vs 0) 8)) (w_ei w1 (w_ar ws (n_v vs 0) 8)) (w_ei w2 (w_ar ws (n_v vs 0) 8)) (w_ei w3 (w_ar ws (n_v vs 0) 8)) (w_ei w4 (w_ar ws (n_v vs 0) 8)) (w_ei ws (w_ar ws (n_v vs 0) 9)) (w_ei w1 (w_ar ws (n_v vs 0) 9)) (w_ei w2 (w_ar ws (n_v vs 0) 9)) (w_ei w3 (w_ar ws (n_v vs 0) 9)) (v_iv (n_v vs 8)) (w_ei w4 (w_ar ws (n_v vs 0) 9)) (w_ei w5 (w_ar ws (n_v vs 0) 9)) (w_ei ws (w_ar ws (n_v vs 0) 10)) (w_ei w1 (w_ar ws (n_v vs 0) 10)) (w_ei w2 (w_ar ws (n_v vs 0) 10)) (v_iv (n_v vs 3)) (w_ei w3 (w_ar ws (n_v vs 0) 10)) (w_ei w4 (w_ar ws (n_v vs 0) 10)) (w_ei w5 (w_ar ws (n_v vs 0) 10)) (w_ei ws (w_ar ws (n_v vs 0) 14)) (w_ei w1 (w_ar ws (n_v vs 0) 14)) (w_ei w2 (w_ar ws (n_v vs 0) 14)) (w_ei w3 (w_ar ws (n_v vs 0) 14)) (w_ei w4 (w_ar ws (n_v vs 0) 14)) k1 k2 k4 k10 k11 d0 g0 (shm_824 f5) (shm_12 f7) g8 (shm_824 f9) (shm_824 f11) (shm_824 f13) (shm_824 f15) f17 f18 (shm_824 f19) fe_0_0_1 fe_0_1_1 fe_0_0_2 fe_0_1_2 fe_0_0_3 fe_0_1_3 fe_0_0_4 fe_0_1_4 fe_0_0_5 fe_0_1_5 hE_0_7_1 hE_0_7_2 hE_0_7_3 hE_0_7_4 hE_0_7_5 hK_0_7 hE_0_8_1 hE_0_8_2 hE_0_8_3 hE_0_8_4 hE_0_8_5 hK_0_8 hE_0_9_1 hE_0_9_2 hE_0_9_3 hE_0_9_4 hE_0_9_5 hK_0_9 hE_0_10_1 hE_0_10_2 hE_0_10_3 hE_0_10_4 hE_0_10_5 hK_0_10 hE_0_14_1 hE_0_14_2 hE_0_14_3 hE_0_14_4 hE_0_14_5 hK_0_14 kz_0_0 kz_0_1)⟩
  have nf1 : fc_1 PRD (20, [0, 4], [60, 1, 3, 747, 0, 14, 7, 8]) ws (vs) := ⟨nf_in hl rfl, sgq_388 (vc_Gr_addEdge_at_Gr_0_1 (v_iv (n_v vs 1)) (v_iv (n_v vs 2)) (v_iv (n_v vs 4)) (v_iv (n_v vs 10)) (v_iv (n_v vs 11)) (w_fi ws (n_v vs 0) 1) (w_fi ws (n_v vs 0) 0) (w_fi w1 (n_v vs 0) 1) (w_fi w1 (n_v vs 0) 0) (w_fi w2 (n_v vs 0) 0) (w_fi w3 (n_v vs 0) 0) (w_fi w4 (n_v vs 0) 0) (w_ei w5 (w_ar ws (n_v vs 0) 14)) (w_ei w5 (w_ar ws (n_v vs 0) 7)) (w_ei w5 (w_ar ws (n_v vs 0) 8)) (w_fi w5 (n_v vs 0) 0) (w_fi w5 (n_v vs 0) 1) (w_fi w2 (n_v vs 0) 1) (w_fi w3 (n_v vs 0) 1) (w_fi w4 (n_v vs 0) 1) (w_ei ws (w_ar ws (n_v vs 0) 7)) (w_ei w1 (w_ar ws (n_v vs 0) 7)) (w_ei w2 (w_ar ws (n_v vs 0) 7)) (w_ei w3 (w_ar ws (n_v vs 0) 7)) (w_ei w4 (w_ar ws (n_v vs 0) 7)) (w_ei ws (w_ar ws (n_v vs 0) 8)) (w_ei w1 (w_ar ws (n_v vs 0) 8)) (w_ei w2 (w_ar ws (n_v vs 0) 8)) (w_ei w3 (w_ar ws (n_v vs 0) 8)) (w_ei w4 (w_ar ws (n_v vs 0) 8)) (w_ei ws (w_ar ws (n_v vs 0) 9)) (w_ei w1 (w_ar ws (n_v vs 0) 9)) (w_ei w2 (w_ar ws (n_v vs 0) 9)) (w_ei w3 (w_ar ws (n_v vs 0) 9)) (v_iv (n_v vs 8)) (w_ei w4 (w_ar ws (n_v vs 0) 9)) (w_ei w5 (w_ar ws (n_v vs 0) 9)) (w_ei ws (w_ar ws (n_v vs 0) 10)) (w_ei w1 (w_ar ws (n_v vs 0) 10)) (w_ei w2 (w_ar ws (n_v vs 0) 10)) (v_iv (n_v vs 3)) (w_ei w3 (w_ar ws (n_v vs 0) 10)) (w_ei w4 (w_ar ws (n_v vs 0) 10)) (w_ei w5 (w_ar ws (n_v vs 0) 10)) (w_ei ws (w_ar ws (n_v vs 0) 14)) (w_ei w1 (w_ar ws (n_v vs 0) 14)) (w_ei w2 (w_ar ws (n_v vs 0) 14)) (w_ei w3 (w_ar ws (n_v vs 0) 14)) (w_ei w4 (w_ar ws (n_v vs 0) 14)) k1 k2 k4 k10 k11 d0 g0 (shm_824 f5) (shm_12 f7) g8 (shm_824 f9) (shm_824 f11) (shm_824 f13) (shm_824 f15) f17 f18 (shm_824 f19) fe_0_0_1 fe_0_1_1 fe_0_0_2 fe_0_1_2 fe_0_0_3 fe_0_1_3 fe_0_0_4 fe_0_1_4 fe_0_0_5 fe_0_1_5 hE_0_7_1 hE_0_7_2 hE_0_7_3 hE_0_7_4 hE_0_7_5 hK_0_7 hE_0_8_1 hE_0_8_2 hE_0_8_3 hE_0_8_4 hE_0_8_5 hK_0_8 hE_0_9_1 hE_0_9_2 hE_0_9_3 hE_0_9_4 hE_0_9_5 hK_0_9 hE_0_10_1 hE_0_10_2 hE_0_10_3 hE_0_10_4 hE_0_10_5 hK_0_10 hE_0_14_1 hE_0_14_2 hE_0_14_3 hE_0_14_4 hE_0_14_5 hK_0_14 kz_0_0 kz_0_1)⟩
  have nf2 : fc_1 PRD (20, [0], [60, 2, 2, 596, 0, 1, 7, 8]) ws (vs) := ⟨nf_in hl rfl, sgq_386 (vc_Gr_addEdge_at_Gr_0_2 (v_iv (n_v vs 1)) (v_iv (n_v vs 2)) (v_iv (n_v vs 4)) (v_iv (n_v vs 10)) (v_iv (n_v vs 11)) (w_fi ws (n_v vs 0) 1) (w_fi ws (n_v vs 0) 0) (w_fi w1 (n_v vs 0) 1) (w_fi w1 (n_v vs 0) 0) (w_fi w2 (n_v vs 0) 0) (w_fi w3 (n_v vs 0) 0) (w_fi w4 (n_v vs 0) 0) (w_ei w5 (w_ar ws (n_v vs 0) 14)) (w_ei w5 (w_ar ws (n_v vs 0) 7)) (w_ei w5 (w_ar ws (n_v vs 0) 8)) (w_fi w5 (n_v vs 0) 0) (w_fi w5 (n_v vs 0) 1) (w_fi w2 (n_v vs 0) 1) (w_fi w3 (n_v vs 0) 1) (w_fi w4 (n_v vs 0) 1) (w_ei ws (w_ar ws (n_v vs 0) 7)) (w_ei w1 (w_ar ws (n_v vs 0) 7)) (w_ei w2 (w_ar ws (n_v vs 0) 7)) (w_ei w3 (w_ar ws (n_v vs 0) 7)) (w_ei w4 (w_ar ws (n_v vs 0) 7)) (w_ei ws (w_ar ws (n_v vs 0) 8)) (w_ei w1 (w_ar ws (n_v vs 0) 8)) (w_ei w2 (w_ar ws (n_v vs 0) 8)) (w_ei w3 (w_ar ws (n_v vs 0) 8)) (w_ei w4 (w_ar ws (n_v vs 0) 8)) (w_ei ws (w_ar ws (n_v vs 0) 9)) (w_ei w1 (w_ar ws (n_v vs 0) 9)) (w_ei w2 (w_ar ws (n_v vs 0) 9)) (w_ei w3 (w_ar ws (n_v vs 0) 9)) (v_iv (n_v vs 8)) (w_ei w4 (w_ar ws (n_v vs 0) 9)) (w_ei w5 (w_ar ws (n_v vs 0) 9)) (w_ei ws (w_ar ws (n_v vs 0) 10)) (w_ei w1 (w_ar ws (n_v vs 0) 10)) (w_ei w2 (w_ar ws (n_v vs 0) 10)) (v_iv (n_v vs 3)) (w_ei w3 (w_ar ws (n_v vs 0) 10)) (w_ei w4 (w_ar ws (n_v vs 0) 10)) (w_ei w5 (w_ar ws (n_v vs 0) 10)) (w_ei ws (w_ar ws (n_v vs 0) 14)) (w_ei w1 (w_ar ws (n_v vs 0) 14)) (w_ei w2 (w_ar ws (n_v vs 0) 14)) (w_ei w3 (w_ar ws (n_v vs 0) 14)) (w_ei w4 (w_ar ws (n_v vs 0) 14)) k1 k2 k4 k10 k11 d0 g0 (shm_824 f5) (shm_12 f7) g8 (shm_824 f9) (shm_824 f11) (shm_824 f13) (shm_824 f15) f17 f18 (shm_824 f19) fe_0_0_1 fe_0_1_1 fe_0_0_2 fe_0_1_2 fe_0_0_3 fe_0_1_3 fe_0_0_4 fe_0_1_4 fe_0_0_5 fe_0_1_5 hE_0_7_1 hE_0_7_2 hE_0_7_3 hE_0_7_4 hE_0_7_5 hK_0_7 hE_0_8_1 hE_0_8_2 hE_0_8_3 hE_0_8_4 hE_0_8_5 hK_0_8 hE_0_9_1 hE_0_9_2 hE_0_9_3 hE_0_9_4 hE_0_9_5 hK_0_9 hE_0_10_1 hE_0_10_2 hE_0_10_3 hE_0_10_4 hE_0_10_5 hK_0_10 hE_0_14_1 hE_0_14_2 hE_0_14_3 hE_0_14_4 hE_0_14_5 hK_0_14 kz_0_0 kz_0_1)⟩
  refine ⟨(fun _ h => (by cases h)), [], trivial, ?_, (fun _ h => (by cases h))⟩
  rw [List.append_nil]
  exact List.forall_mem_cons.mpr ⟨⟨show (20 : Nat) < 100 from by decide, nf0⟩, List.forall_mem_cons.mpr ⟨⟨show (20 : Nat) < 100 from by decide, nf1⟩, List.forall_mem_cons.mpr ⟨⟨show (20 : Nat) < 100 from by decide, nf2⟩, (fun _ h => (by cases h))⟩⟩⟩
set_option maxHeartbeats 4000000 in
theorem vc_Gr_addEdge_at_Gr_1_0 (x1 : Int) (x2 : Int) (x4 : Int) (x10 : Int) (x11 : Int) (edges_0 : Int) (near_0 : Int → Int) (tail_0 : Int → Int) (head_0 : Int → Int) (nodes_0 : Int) (edges_1 : Int) (nodes_1 : Int) (nodes_2 : Int) (nodes_3 : Int) (nodes_4 : Int) (near_5 : Int → Int) (tail_5 : Int → Int) (head_5 : Int → Int) (nodes_5 : Int) (edges_5 : Int) (edges_2 : Int) (edges_3 : Int) (edges_4 : Int) (tail_1 : Int → Int) (tail_2 : Int → Int) (tail_3 : Int → Int) (tail_4 : Int → Int) (head_1 : Int → Int) (head_2 : Int → Int) (head_3 : Int → Int) (head_4 : Int → Int) (weight_0 : Int → Int) (weight_1 : Int → Int) (weight_2 : Int → Int) (weight_3 : Int → Int) (x8 : Int) (weight_4 : Int → Int) (weight_5 : Int → Int) (oneWay_0 : Int → Int) (oneWay_1 : Int → Int) (oneWay_2 : Int → Int) (x3 : Int) (oneWay_3 : Int → Int) (oneWay_4 : Int → Int) (oneWay_5 : Int → Int) (near_1 : Int → Int) (near_2 : Int → Int) (near_3 : Int → Int) (near_4 : Int → Int) (k1 : 0 ≤ x1 ∧ x1 ≤ 23) (k2 : 0 ≤ x2 ∧ x2 ≤ 23) (k4 : 0 ≤ x4 ∧ x4 ≤ 47) (k10 : 1 ≤ x10 ∧ x10 ≤ 1) (k11 : 1 ≤ x11 ∧ x11 ≤ 48) (d0 : x4 + 1 ≤ x11 ∧ x11 ≤ x4 + 1) (g0 : x11 = edges_0) (f5 : (0 ≤ x4) ∧ ((x4 + 1) = edges_0)) (f6 : GNK (nodes_0) (near_0) (tail_0) (head_0) (x4)) (f7 : GKE (nodes_0) (edges_0) (tail_0) (head_0)) (f8 : (0 ≤ x1) ∧ (((x1 + 1) ≤ nodes_0) ∧ ((0 ≤ x2) ∧ (((x2 + 1) ≤ nodes_0) ∧ (((x1 + 1) ≤ x2) ∨ ((x2 + 1) ≤ x1)))))) (f10 : x11 = x4 + x10) (g11 : x4 = edges_1) (f12 : (0 ≤ x1) ∧ (((x1 + 1) ≤ nodes_1) ∧ ((0 ≤ x2) ∧ (((x2 + 1) ≤ nodes_1) ∧ (((x1 + 1) ≤ x2) ∨ ((x2 + 1) ≤ x1)))))) (f14 : (0 ≤ x1) ∧ (((x1 + 1) ≤ nodes_2) ∧ ((0 ≤ x2) ∧ (((x2 + 1) ≤ nodes_2) ∧ (((x1 + 1) ≤ x2) ∨ ((x2 + 1) ≤ x1)))))) (f16 : (0 ≤ x1) ∧ (((x1 + 1) ≤ nodes_3) ∧ ((0 ≤ x2) ∧ (((x2 + 1) ≤ nodes_3) ∧ (((x1 + 1) ≤ x2) ∨ ((x2 + 1) ≤ x1)))))) (f18 : (0 ≤ x1) ∧ (((x1 + 1) ≤ nodes_4) ∧ ((0 ≤ x2) ∧ (((x2 + 1) ≤ nodes_4) ∧ (((x1 + 1) ≤ x2) ∨ ((x2 + 1) ≤ x1)))))) (f20 : GNB (nodes_5) (edges_5) (near_5) (tail_5) (head_5)) (f21 : GKE (nodes_5) (edges_5) (tail_5) (head_5)) (f22 : (0 ≤ x1) ∧ (((x1 + 1) ≤ nodes_5) ∧ ((0 ≤ x2) ∧ (((x2 + 1) ≤ nodes_5) ∧ (((x1 + 1) ≤ x2) ∨ ((x2 + 1) ≤ x1)))))) (fe_0_0_1 : nodes_0 = nodes_1) (fe_0_1_1 : edges_0 = x11) (fe_0_0_2 : nodes_1 = nodes_2) (fe_0_1_2 : edges_1 = edges_2) (fe_0_0_3 : nodes_2 = nodes_3) (fe_0_1_3 : edges_2 = edges_3) (fe_0_0_4 : nodes_3 = nodes_4) (fe_0_1_4 : edges_3 = edges_4) (fe_0_0_5 : nodes_4 = nodes_5) (fe_0_1_5 : edges_4 = edges_5) (hE_0_7_1 : ∀ j : Int, tail_0 j = tail_1 j) (hE_0_7_2 : ∀ j : Int, tail_1 j = tail_2 j) (hE_0_7_3 : ∀ j : Int, tail_2 j = tail_3 j) (hE_0_7_4 : ∀ j : Int, tail_3 j = tail_4 j) (hE_0_7_5 : ∀ j : Int, 0 ≤ j → (j = x4 → tail_4 j = x1) ∧ (j ≠ x4 → tail_4 j = tail_5 j)) (hK_0_7 : ∀ j : Int, 0 ≤ j → j < 48 → 0 ≤ tail_0 j ∧ tail_0 j ≤ 23) (hE_0_8_1 : ∀ j : Int, head_0 j = head_1 j) (hE_0_8_2 : ∀ j : Int, head_1 j = head_2 j) (hE_0_8_3 : ∀ j : Int, head_2 j = head_3 j) (hE_0_8_4 : ∀ j : Int, 0 ≤ j → (j = x4 → head_3 j = x2) ∧ (j ≠ x4 → head_3 j = head_4 j)) (hE_0_8_5 : ∀ j : Int, head_4 j = head_5 j) (hK_0_8 : ∀ j : Int, 0 ≤ j → j < 48 → 0 ≤ head_0 j ∧ head_0 j ≤ 23) (hE_0_9_1 : ∀ j : Int, weight_0 j = weight_1 j) (hE_0_9_2 : ∀ j : Int, weight_1 j = weight_2 j) (hE_0_9_3 : ∀ j : Int, 0 ≤ j → (j = x4 → weight_2 j = x8) ∧ (j ≠ x4 → weight_2 j = weight_3 j)) (hE_0_9_4 : ∀ j : Int, weight_3 j = weight_4 j) (hE_0_9_5 : ∀ j : Int, weight_4 j = weight_5 j) (hK_0_9 : ∀ j : Int, 0 ≤ j → j < 48 → 0 ≤ weight_0 j ∧ weight_0 j ≤ 9) (hE_0_10_1 : ∀ j : Int, oneWay_0 j = oneWay_1 j) (hE_0_10_2 : ∀ j : Int, 0 ≤ j → (j = x4 → oneWay_1 j = x3) ∧ (j ≠ x4 → oneWay_1 j = oneWay_2 j)) (hE_0_10_3 : ∀ j : Int, oneWay_2 j = oneWay_3 j) (hE_0_10_4 : ∀ j : Int, oneWay_3 j = oneWay_4 j) (hE_0_10_5 : ∀ j : Int, oneWay_4 j = oneWay_5 j) (hK_0_10 : ∀ j : Int, 0 ≤ j → j < 48 → 0 ≤ oneWay_0 j ∧ oneWay_0 j ≤ 1) (hE_0_14_1 : ∀ j : Int, near_0 j = near_1 j) (hE_0_14_2 : ∀ j : Int, near_1 j = near_2 j) (hE_0_14_3 : ∀ j : Int, near_2 j = near_3 j) (hE_0_14_4 : ∀ j : Int, near_3 j = near_4 j) (hE_0_14_5 : ∀ j : Int, near_4 j = near_5 j) (hK_0_14 : ∀ j : Int, 0 ≤ j → j < 24 → 0 ≤ near_0 j ∧ near_0 j ≤ 16777215) (kz_0_0 : 0 ≤ nodes_0 ∧ nodes_0 ≤ 24) (kz_0_1 : 0 ≤ edges_0 ∧ edges_0 ≤ 48) : (0 ≤ x4) ∧ ((x4 + 1) ≤ edges_0) := by
  subst fe_0_0_1
  subst fe_0_0_2
  subst fe_0_1_2
  subst fe_0_0_3
  subst fe_0_1_3
  subst fe_0_0_4
  subst fe_0_1_4
  subst fe_0_0_5
  subst fe_0_1_5
  have e_hE_0_7_1 := funext hE_0_7_1; subst e_hE_0_7_1
  have e_hE_0_7_2 := funext hE_0_7_2; subst e_hE_0_7_2
  have e_hE_0_7_3 := funext hE_0_7_3; subst e_hE_0_7_3
  have e_hE_0_7_4 := funext hE_0_7_4; subst e_hE_0_7_4
  have e_hE_0_8_1 := funext hE_0_8_1; subst e_hE_0_8_1
  have e_hE_0_8_2 := funext hE_0_8_2; subst e_hE_0_8_2
  have e_hE_0_8_3 := funext hE_0_8_3; subst e_hE_0_8_3
  have e_hE_0_8_5 := funext hE_0_8_5; subst e_hE_0_8_5
  have e_hE_0_9_1 := funext hE_0_9_1; subst e_hE_0_9_1
  have e_hE_0_9_2 := funext hE_0_9_2; subst e_hE_0_9_2
  have e_hE_0_9_4 := funext hE_0_9_4; subst e_hE_0_9_4
  have e_hE_0_9_5 := funext hE_0_9_5; subst e_hE_0_9_5
  have e_hE_0_10_1 := funext hE_0_10_1; subst e_hE_0_10_1
  have e_hE_0_10_3 := funext hE_0_10_3; subst e_hE_0_10_3
  have e_hE_0_10_4 := funext hE_0_10_4; subst e_hE_0_10_4
  have e_hE_0_10_5 := funext hE_0_10_5; subst e_hE_0_10_5
  have e_hE_0_14_1 := funext hE_0_14_1; subst e_hE_0_14_1
  have e_hE_0_14_2 := funext hE_0_14_2; subst e_hE_0_14_2
  have e_hE_0_14_3 := funext hE_0_14_3; subst e_hE_0_14_3
  have e_hE_0_14_4 := funext hE_0_14_4; subst e_hE_0_14_4
  have e_hE_0_14_5 := funext hE_0_14_5; subst e_hE_0_14_5
  first
    | omega
  
def o_Gr_addEdge_at_Gr_1 : or_T := (51, 12, [(0, (2, 0, 0, [3])), (1, (0, 0, 23, [])), (2, (0, 0, 23, [])), (4, (0, 0, 47, [])), (5, (2, 0, 0, [52])), (6, (2, 0, 0, [53])), (7, (2, 0, 0, [54])), (9, (2, 0, 0, [55])), (10, (0, 1, 1, [])), (11, (0, 1, 48, []))], [(9, [11, 0], [1]), (9, [9, 0], [10]), (9, [7, 0], [9]), (9, [6, 0], [8]), (9, [5, 0], [7]), (20, [4, 0], [50, 1, 0, 1001, 2, 6, 0, 2, 0, 0, 1, 0, 1, 6, 4, 2, 1, 0, 0, 1, 2, 1, 1]), (20, [0, 4], [60, 1, 3, 747, 0, 14, 7, 8]), (20, [0], [60, 2, 2, 596, 0, 1, 7, 8]), (20, [1, 0, 2], [50, 1, 0, 1000, 2, 6, 0, 2, 0, 0, 1, 0, 2, 11, 0, 6, 4, 2, 1, 0, 0, 1, 2, 1, 0, 2, 6, 0, 2, 0, 0, 1, 2, 2, 11, 0, 6, 4, 2, 1, 2, 0, 1, 2, 1, 0, 3, 10, 0, 6, 4, 2, 1, 0, 0, 1, 1, 2, 0, 6, 4, 2, 1, 2, 0, 1, 1, 0]), (101, [0, 11], [1]), (1, [11, 4, 10], []), (9, [4, 0], [1]), (20, [1, 0, 2], [50, 1, 0, 1000, 2, 6, 0, 2, 0, 0, 1, 0, 2, 11, 0, 6, 4, 2, 1, 0, 0, 1, 2, 1, 0, 2, 6, 0, 2, 0, 0, 1, 2, 2, 11, 0, 6, 4, 2, 1, 2, 0, 1, 2, 1, 0, 3, 10, 0, 6, 4, 2, 1, 0, 0, 1, 1, 2, 0, 6, 4, 2, 1, 2, 0, 1, 1, 0]), (100, [9, 4, 3], []), (20, [1, 0, 2], [50, 1, 0, 1000, 2, 6, 0, 2, 0, 0, 1, 0, 2, 11, 0, 6, 4, 2, 1, 0, 0, 1, 2, 1, 0, 2, 6, 0, 2, 0, 0, 1, 2, 2, 11, 0, 6, 4, 2, 1, 2, 0, 1, 2, 1, 0, 3, 10, 0, 6, 4, 2, 1, 0, 0, 1, 1, 2, 0, 6, 4, 2, 1, 2, 0, 1, 1, 0]), (100, [7, 4, 8], []), (20, [1, 0, 2], [50, 1, 0, 1000, 2, 6, 0, 2, 0, 0, 1, 0, 2, 11, 0, 6, 4, 2, 1, 0, 0, 1, 2, 1, 0, 2, 6, 0, 2, 0, 0, 1, 2, 2, 11, 0, 6, 4, 2, 1, 2, 0, 1, 2, 1, 0, 3, 10, 0, 6, 4, 2, 1, 0, 0, 1, 1, 2, 0, 6, 4, 2, 1, 2, 0, 1, 1, 0]), (100, [6, 4, 2], []), (20, [1, 0, 2], [50, 1, 0, 1000, 2, 6, 0, 2, 0, 0, 1, 0, 2, 11, 0, 6, 4, 2, 1, 0, 0, 1, 2, 1, 0, 2, 6, 0, 2, 0, 0, 1, 2, 2, 11, 0, 6, 4, 2, 1, 2, 0, 1, 2, 1, 0, 3, 10, 0, 6, 4, 2, 1, 0, 0, 1, 1, 2, 0, 6, 4, 2, 1, 2, 0, 1, 1, 0]), (100, [5, 4, 1], []), (20, [0], [60, 2, 3, 670, 0, 1, 14, 7, 8]), (20, [0], [60, 2, 2, 596, 0, 1, 7, 8]), (20, [1, 0, 2], [50, 1, 0, 1000, 2, 6, 0, 2, 0, 0, 1, 0, 2, 11, 0, 6, 4, 2, 1, 0, 0, 1, 2, 1, 0, 2, 6, 0, 2, 0, 0, 1, 2, 2, 11, 0, 6, 4, 2, 1, 2, 0, 1, 2, 1, 0, 3, 10, 0, 6, 4, 2, 1, 0, 0, 1, 1, 2, 0, 6, 4, 2, 1, 2, 0, 1, 1, 0])], [], [], [(20, [4, 0], [50, 1, 0, 1001, 2, 6, 0, 2, 0, 0, 1, 0, 0, 6, 4, 2, 1, 0, 0, 1, 2, 1, 1])], [], [(11, 4, 1, 1)])
theorem oo_Gr_addEdge_at_Gr_1 {kA : Nat → ClassId} : or_ok PRD kA GG o_Gr_addEdge_at_Gr_1 := by
  refine or_mk fun A ta ws vs hD hth hl => ?_
  intro t0 r0 t1 k1 t2 k2 t4 k4 t5 r5 t6 r6 t7 r7 t9 r9 t10 k10 t11 k11 d0 f0 f1 f2 f3 f4 f5 f6 f7 f8 ta1 w1 le1 s1 f10 f11 f12 ta2 w2 le2 s2 f14 ta3 w3 le3 s3 f16 ta4 w4 le4 s4 f18 ta5 w5 le5 s5 f20 f21 f22
  replace f0 := shm_215 f0
  replace f1 := shm_106 f1
  replace f2 := shm_119 f2
  replace f3 := shm_293 f3
  replace f4 := shm_198 f4
  have s1 : (∀ b j, w_el ws b j = w_el w1 b j) ∧ ∀ b j, w_fd ws b j = if b = v_ad (n_v vs 0) ∧ j = 1 then n_v vs 11 else w_fd w1 b j := s1.2
  replace f11 := shm_215 f11
  have s2 : (∀ b j, w_el w1 b j = if b = v_ad (n_v vs 9) ∧ j = (v_iv (n_v vs 4)).toNat then v_iv (n_v vs 3) else w_el w2 b j) ∧ ∀ b k, w_fd w1 b k = w_fd w2 b k := s2.2
  have s3 : (∀ b j, w_el w2 b j = if b = v_ad (n_v vs 7) ∧ j = (v_iv (n_v vs 4)).toNat then v_iv (n_v vs 8) else w_el w3 b j) ∧ ∀ b k, w_fd w2 b k = w_fd w3 b k := s3.2
  have s4 : (∀ b j, w_el w3 b j = if b = v_ad (n_v vs 6) ∧ j = (v_iv (n_v vs 4)).toNat then v_iv (n_v vs 2) else w_el w4 b j) ∧ ∀ b k, w_fd w3 b k = w_fd w4 b k := s4.2
  have s5 : (∀ b j, w_el w4 b j = if b = v_ad (n_v vs 5) ∧ j = (v_iv (n_v vs 4)).toNat then v_iv (n_v vs 1) else w_el w5 b j) ∧ ∀ b k, w_fd w4 b k = w_fd w5 b k := s5.2
  replace f20 := shm_825 f20
  replace f21 := shm_386 f21
  have ar_0_7_1 : w_ar w1 (n_v vs 0) 7 = w_ar ws (n_v vs 0) 7 := by show v_ad (w_fd w1 _ _) = v_ad (w_fd ws _ _); rw [s1.2, if_neg (fun e => absurd e.2 (by decide))]
  have ar_0_7_2 : w_ar w2 (n_v vs 0) 7 = w_ar ws (n_v vs 0) 7 := by rw [← ar_0_7_1]; show v_ad (w_fd w2 _ _) = v_ad (w_fd w1 _ _); rw [s2.2]
  have ar_0_7_3 : w_ar w3 (n_v vs 0) 7 = w_ar ws (n_v vs 0) 7 := by rw [← ar_0_7_2]; show v_ad (w_fd w3 _ _) = v_ad (w_fd w2 _ _); rw [s3.2]
  have ar_0_7_4 : w_ar w4 (n_v vs 0) 7 = w_ar ws (n_v vs 0) 7 := by rw [← ar_0_7_3]; show v_ad (w_fd w4 _ _) = v_ad (w_fd w3 _ _); rw [s4.2]
  have ar_0_7_5 : w_ar w5 (n_v vs 0) 7 = w_ar ws (n_v vs 0) 7 := by rw [← ar_0_7_4]; show v_ad (w_fd w5 _ _) = v_ad (w_fd w4 _ _); rw [s5.2]
  have cr_0_7 := fdq_46 hD hth r0
  have ar_0_8_1 : w_ar w1 (n_v vs 0) 8 = w_ar ws (n_v vs 0) 8 := by show v_ad (w_fd w1 _ _) = v_ad (w_fd ws _ _); rw [s1.2, if_neg (fun e => absurd e.2 (by decide))]
  have ar_0_8_2 : w_ar w2 (n_v vs 0) 8 = w_ar ws (n_v vs 0) 8 := by rw [← ar_0_8_1]; show v_ad (w_fd w2 _ _) = v_ad (w_fd w1 _ _); rw [s2.2]
  have ar_0_8_3 : w_ar w3 (n_v vs 0) 8 = w_ar ws (n_v vs 0) 8 := by rw [← ar_0_8_2]; show v_ad (w_fd w3 _ _) = v_ad (w_fd w2 _ _); rw [s3.2]
  have ar_0_8_4 : w_ar w4 (n_v vs 0) 8 = w_ar ws (n_v vs 0) 8 := by rw [← ar_0_8_3]; show v_ad (w_fd w4 _ _) = v_ad (w_fd w3 _ _); rw [s4.2]
  have ar_0_8_5 : w_ar w5 (n_v vs 0) 8 = w_ar ws (n_v vs 0) 8 := by rw [← ar_0_8_4]; show v_ad (w_fd w5 _ _) = v_ad (w_fd w4 _ _); rw [s5.2]
  have cr_0_8 := fdq_47 hD hth r0
  have cr_0_9 := fdq_112 hD hth r0
  have cr_0_10 := fdq_209 hD hth r0
  have ar_0_14_1 : w_ar w1 (n_v vs 0) 14 = w_ar ws (n_v vs 0) 14 := by show v_ad (w_fd w1 _ _) = v_ad (w_fd ws _ _); rw [s1.2, if_neg (fun e => absurd e.2 (by decide))]
  have ar_0_14_2 : w_ar w2 (n_v vs 0) 14 = w_ar ws (n_v vs 0) 14 := by rw [← ar_0_14_1]; show v_ad (w_fd w2 _ _) = v_ad (w_fd w1 _ _); rw [s2.2]
  have ar_0_14_3 : w_ar w3 (n_v vs 0) 14 = w_ar ws (n_v vs 0) 14 := by rw [← ar_0_14_2]; show v_ad (w_fd w3 _ _) = v_ad (w_fd w2 _ _); rw [s3.2]
  have ar_0_14_4 : w_ar w4 (n_v vs 0) 14 = w_ar ws (n_v vs 0) 14 := by rw [← ar_0_14_3]; show v_ad (w_fd w4 _ _) = v_ad (w_fd w3 _ _); rw [s4.2]
  have ar_0_14_5 : w_ar w5 (n_v vs 0) 14 = w_ar ws (n_v vs 0) 14 := by rw [← ar_0_14_4]; show v_ad (w_fd w5 _ _) = v_ad (w_fd w4 _ _); rw [s5.2]
  have cr_0_14 := fdq_75 hD hth r0
  have ad_9 : v_ad (n_v vs 9) = w_ar ws (n_v vs 0) 10 := congrArg v_ad f1
  have ad_7 : v_ad (n_v vs 7) = w_ar ws (n_v vs 0) 9 := congrArg v_ad f2
  have ad_6 : v_ad (n_v vs 6) = w_ar ws (n_v vs 0) 8 := congrArg v_ad f3
  have ad_5 : v_ad (n_v vs 5) = w_ar ws (n_v vs 0) 7 := congrArg v_ad f4
  have g0 : v_iv (n_v vs 11) = w_fi ws (n_v vs 0) 1 := congrArg v_iv f0
  have g11 : v_iv (n_v vs 4) = w_fi w1 (n_v vs 0) 1 := congrArg v_iv f11
  simp only [ar_0_7_5, ar_0_8_5, ar_0_14_5] at f20 f21
  have fe_0_0_1 : w_fi ws (n_v vs 0) 0 = w_fi w1 (n_v vs 0) 0 := by show v_iv (w_fd _ _ _) = v_iv (w_fd _ _ _); rw [s1.2, if_neg (fun e => absurd e.2 (by decide))]
  have fe_0_1_1 : w_fi ws (n_v vs 0) 1 = v_iv (n_v vs 11) := by show v_iv (w_fd _ _ _) = _; rw [s1.2, if_pos ⟨rfl, rfl⟩]
  have fe_0_0_2 : w_fi w1 (n_v vs 0) 0 = w_fi w2 (n_v vs 0) 0 := congrArg v_iv (s2.2 _ _)
  have fe_0_1_2 : w_fi w1 (n_v vs 0) 1 = w_fi w2 (n_v vs 0) 1 := congrArg v_iv (s2.2 _ _)
  have fe_0_0_3 : w_fi w2 (n_v vs 0) 0 = w_fi w3 (n_v vs 0) 0 := congrArg v_iv (s3.2 _ _)
  have fe_0_1_3 : w_fi w2 (n_v vs 0) 1 = w_fi w3 (n_v vs 0) 1 := congrArg v_iv (s3.2 _ _)
  have fe_0_0_4 : w_fi w3 (n_v vs 0) 0 = w_fi w4 (n_v vs 0) 0 := congrArg v_iv (s4.2 _ _)
  have fe_0_1_4 : w_fi w3 (n_v vs 0) 1 = w_fi w4 (n_v vs 0) 1 := congrArg v_iv (s4.2 _ _)
  have fe_0_0_5 : w_fi w4 (n_v vs 0) 0 = w_fi w5 (n_v vs 0) 0 := congrArg v_iv (s5.2 _ _)
  have fe_0_1_5 : w_fi w4 (n_v vs 0) 1 = w_fi w5 (n_v vs 0) 1 := congrArg v_iv (s5.2 _ _)
  have hE_0_7_1 : ∀ j : Int, w_ei ws (w_ar ws (n_v vs 0) 7) j = w_ei w1 (w_ar ws (n_v vs 0) 7) j := fun j => s1.1 _ _
  have hE_0_7_2 : ∀ j : Int, w_ei w1 (w_ar ws (n_v vs 0) 7) j = w_ei w2 (w_ar ws (n_v vs 0) 7) j := el_kp s2.1 r9 cr_0_7 (by decide)
  have hE_0_7_3 : ∀ j : Int, w_ei w2 (w_ar ws (n_v vs 0) 7) j = w_ei w3 (w_ar ws (n_v vs 0) 7) j := el_kp s3.1 r7 cr_0_7 (by decide)
  have hE_0_7_4 : ∀ j : Int, w_ei w3 (w_ar ws (n_v vs 0) 7) j = w_ei w4 (w_ar ws (n_v vs 0) 7) j := el_kp s4.1 r6 cr_0_7 (by decide)
  have hE_0_7_5 : ∀ j : Int, 0 ≤ j → (j = v_iv (n_v vs 4) → w_ei w4 (w_ar ws (n_v vs 0) 7) j = v_iv (n_v vs 1)) ∧ (j ≠ v_iv (n_v vs 4) → w_ei w4 (w_ar ws (n_v vs 0) 7) j = w_ei w5 (w_ar ws (n_v vs 0) 7) j) := fun j hj => ⟨fun h => by unfold w_ei; rw [s5.1, if_pos ⟨ad_5.symm, by rw [h]⟩], fun h => by unfold w_ei; rw [s5.1, if_neg (fun e => h (by have := e.2; omega))]⟩
  have hK_0_7 := elq_11 hD hth cr_0_7
  have hE_0_8_1 : ∀ j : Int, w_ei ws (w_ar ws (n_v vs 0) 8) j = w_ei w1 (w_ar ws (n_v vs 0) 8) j := fun j => s1.1 _ _
  have hE_0_8_2 : ∀ j : Int, w_ei w1 (w_ar ws (n_v vs 0) 8) j = w_ei w2 (w_ar ws (n_v vs 0) 8) j := el_kp s2.1 r9 cr_0_8 (by decide)
  have hE_0_8_3 : ∀ j : Int, w_ei w2 (w_ar ws (n_v vs 0) 8) j = w_ei w3 (w_ar ws (n_v vs 0) 8) j := el_kp s3.1 r7 cr_0_8 (by decide)
  have hE_0_8_4 : ∀ j : Int, 0 ≤ j → (j = v_iv (n_v vs 4) → w_ei w3 (w_ar ws (n_v vs 0) 8) j = v_iv (n_v vs 2)) ∧ (j ≠ v_iv (n_v vs 4) → w_ei w3 (w_ar ws (n_v vs 0) 8) j = w_ei w4 (w_ar ws (n_v vs 0) 8) j) := fun j hj => ⟨fun h => by unfold w_ei; rw [s4.1, if_pos ⟨ad_6.symm, by rw [h]⟩], fun h => by unfold w_ei; rw [s4.1, if_neg (fun e => h (by have := e.2; omega))]⟩
  have hE_0_8_5 : ∀ j : Int, w_ei w4 (w_ar ws (n_v vs 0) 8) j = w_ei w5 (w_ar ws (n_v vs 0) 8) j := el_kp s5.1 r5 cr_0_8 (by decide)
  have hK_0_8 := elq_12 hD hth cr_0_8
  have hE_0_9_1 : ∀ j : Int, w_ei ws (w_ar ws (n_v vs 0) 9) j = w_ei w1 (w_ar ws (n_v vs 0) 9) j := fun j => s1.1 _ _
  have hE_0_9_2 : ∀ j : Int, w_ei w1 (w_ar ws (n_v vs 0) 9) j = w_ei w2 (w_ar ws (n_v vs 0) 9) j := el_kp s2.1 r9 cr_0_9 (by decide)
  have hE_0_9_3 : ∀ j : Int, 0 ≤ j → (j = v_iv (n_v vs 4) → w_ei w2 (w_ar ws (n_v vs 0) 9) j = v_iv (n_v vs 8)) ∧ (j ≠ v_iv (n_v vs 4) → w_ei w2 (w_ar ws (n_v vs 0) 9) j = w_ei w3 (w_ar ws (n_v vs 0) 9) j) := fun j hj => ⟨fun h => by unfold w_ei; rw [s3.1, if_pos ⟨ad_7.symm, by rw [h]⟩], fun h => by unfold w_ei; rw [s3.1, if_neg (fun e => h (by have := e.2; omega))]⟩
  have hE_0_9_4 : ∀ j : Int, w_ei w3 (w_ar ws (n_v vs 0) 9) j = w_ei w4 (w_ar ws (n_v vs 0) 9) j := el_kp s4.1 r6 cr_0_9 (by decide)
  have hE_0_9_5 : ∀ j : Int, w_ei w4 (w_ar ws (n_v vs 0) 9) j = w_ei w5 (w_ar ws (n_v vs 0) 9) j := el_kp s5.1 r5 cr_0_9 (by decide)
  have hK_0_9 := elq_57 hD hth cr_0_9
  have hE_0_10_1 : ∀ j : Int, w_ei ws (w_ar ws (n_v vs 0) 10) j = w_ei w1 (w_ar ws (n_v vs 0) 10) j := fun j => s1.1 _ _
  have hE_0_10_2 : ∀ j : Int, 0 ≤ j → (j = v_iv (n_v vs 4) → w_ei w1 (w_ar ws (n_v vs 0) 10) j = v_iv (n_v vs 3)) ∧ (j ≠ v_iv (n_v vs 4) → w_ei w1 (w_ar ws (n_v vs 0) 10) j = w_ei w2 (w_ar ws (n_v vs 0) 10) j) := fun j hj => ⟨fun h => by unfold w_ei; rw [s2.1, if_pos ⟨ad_9.symm, by rw [h]⟩], fun h => by unfold w_ei; rw [s2.1, if_neg (fun e => h (by have := e.2; omega))]⟩
  have hE_0_10_3 : ∀ j : Int, w_ei w2 (w_ar ws (n_v vs 0) 10) j = w_ei w3 (w_ar ws (n_v vs 0) 10) j := el_kp s3.1 r7 cr_0_10 (by decide)
  have hE_0_10_4 : ∀ j : Int, w_ei w3 (w_ar ws (n_v vs 0) 10) j = w_ei w4 (w_ar ws (n_v vs 0) 10) j := el_kp s4.1 r6 cr_0_10 (by decide)
  have hE_0_10_5 : ∀ j : Int, w_ei w4 (w_ar ws (n_v vs 0) 10) j = w_ei w5 (w_ar ws (n_v vs 0) 10) j := el_kp s5.1 r5 cr_0_10 (by decide)
  have hK_0_10 := elq_123 hD hth cr_0_10
  have hE_0_14_1 : ∀ j : Int, w_ei ws (w_ar ws (n_v vs 0) 14) j = w_ei w1 (w_ar ws (n_v vs 0) 14) j := fun j => s1.1 _ _
  have hE_0_14_2 : ∀ j : Int, w_ei w1 (w_ar ws (n_v vs 0) 14) j = w_ei w2 (w_ar ws (n_v vs 0) 14) j := el_kp s2.1 r9 cr_0_14 (by decide)
  have hE_0_14_3 : ∀ j : Int, w_ei w2 (w_ar ws (n_v vs 0) 14) j = w_ei w3 (w_ar ws (n_v vs 0) 14) j := el_kp s3.1 r7 cr_0_14 (by decide)
  have hE_0_14_4 : ∀ j : Int, w_ei w3 (w_ar ws (n_v vs 0) 14) j = w_ei w4 (w_ar ws (n_v vs 0) 14) j := el_kp s4.1 r6 cr_0_14 (by decide)
  have hE_0_14_5 : ∀ j : Int, w_ei w4 (w_ar ws (n_v vs 0) 14) j = w_ei w5 (w_ar ws (n_v vs 0) 14) j := el_kp s5.1 r5 cr_0_14 (by decide)
  have hK_0_14 := elq_25 hD hth cr_0_14
  have kz_0_0 := fdq_21 hD hth r0
  have kz_0_1 := fdq_30 hD hth r0
  have nf0 : fc_1 PRD (20, [4, 0], [50, 1, 0, 1001, 2, 6, 0, 2, 0, 0, 1, 0, 0, 6, 4, 2, 1, 0, 0, 1, 2, 1, 1]) ws (vs) := ⟨nf_in hl rfl, sgq_387 (vc_Gr_addEdge_at_Gr_1_0 (v_iv (n_v vs 1)) (v_iv (n_v vs 2)) (v_iv (n_v vs 4)) (v_iv (n_v vs 10)) (v_iv (n_v vs 11)) (w_fi ws (n_v vs 0) 1) (w_ei ws (w_ar ws (n_v vs 0) 14)) (w_ei ws (w_ar ws (n_v vs 0) 7)) (w_ei ws (w_ar ws (n_v vs 0) 8)) (w_fi ws (n_v vs 0) 0) (w_fi w1 (n_v vs 0) 1) (w_fi w1 (n_v vs 0) 0) (w_fi w2 (n_v vs 0) 0) (w_fi w3 (n_v vs 0) 0) (w_fi w4 (n_v vs 0) 0) (w_ei w5 (w_ar ws (n_v vs 0) 14)) (w_ei w5 (w_ar ws (n_v vs 0) 7)) (w_ei w5 (w_ar ws (n_v vs 0) 8)) (w_fi w5 (n_v vs 0) 0) (w_fi w5 (n_v vs 0) 1) (w_fi w2 (n_v vs 0) 1) (w_fi w3 (n_v vs 0) 1) (w_fi w4 (n_v vs 0) 1) (w_ei w1 (w_ar ws (n_v vs 0) 7)) (w_ei w2 (w_ar ws (n_v vs 0) 7)) (w_ei w3 (w_ar ws (n_v vs 0) 7)) (w_ei w4 (w_ar ws (n_v vs 0) 7)) (w_ei w1 (w_ar ws (n_v vs 0) 8)) (w_ei w2 (w_ar ws (n_v vs 0) 8)) (w_ei w3 (w_ar ws (n_v vs 0) 8)) (w_ei w4 (w_ar ws (n_v vs 0) 8)) (w_ei ws (w_ar ws (n_v vs 0) 9)) (w_ei w1 (w_ar ws (n_v vs 0) 9)) (w_ei w2 (w_ar ws (n_v vs 0) 9)) (w_ei w3 (w_ar ws (n_v vs 0) 9)) (v_iv (n_v vs 8)) (w_ei w4 (w_ar ws (n_v vs 0) 9)) (w_ei w5 (w_ar ws (n_v vs 0) 9)) (w_ei ws (w_ar ws (n_v vs 0) 10)) (w_ei w1 (w_ar ws (n_v vs 0) 10)) (w_ei w2 (w_ar ws (n_v vs 0) 10)) (v_iv (n_v vs 3)) (w_ei w3 (w_ar ws (n_v vs 0) 10)) (w_ei w4 (w_ar ws (n_v vs 0) 10)) (w_ei w5 (w_ar ws (n_v vs 0) 10)) (w_ei w1 (w_ar ws (n_v vs 0) 14)) (w_ei w2 (w_ar ws (n_v vs 0) 14)) (w_ei w3 (w_ar ws (n_v vs 0) 14)) (w_ei w4 (w_ar ws (n_v vs 0) 14)) k1 k2 k4 k10 k11 d0 g0 (shm_828 f5) (shm_388 f6) (shm_386 f7) (shm_824 f8) (shm_12 f10) g11 (shm_824 f12) (shm_824 f14) (shm_824 f16) (shm_824 f18) f20 f21 (shm_824 f22) fe_0_0_1 fe_0_1_1 fe_0_0_2 fe_0_1_2 fe_0_0_3 fe_0_1_3 fe_0_0_4 fe_0_1_4 fe_0_0_5 fe_0_1_5 hE_0_7_1 hE_0_7_2 hE_0_7_3 hE_0_7_4 hE_0_7_5 hK_0_7 hE_0_8_1 hE_0_8_2 hE_0_8_3 hE_0_8_4 hE_0_8_5 hK_0_8 hE_0_9_1 hE_0_9_2 hE_0_9_3 hE_0_9_4 hE_0_9_5 hK_0_9 hE_0_10_1 hE_0_10_2 hE_0_10_3 hE_0_10_4 hE_0_10_5 hK_0_10 hE_0_14_1 hE_0_14_2 hE_0_14_3 hE_0_14_4 hE_0_14_5 hK_0_14 kz_0_0 kz_0_1)⟩
  refine ⟨(fun _ h => (by cases h)), [], trivial, ?_, (fun _ h => (by cases h))⟩
  rw [List.append_nil]
  exact List.forall_mem_cons.mpr ⟨⟨show (20 : Nat) < 100 from by decide, nf0⟩, (fun _ h => (by cases h))⟩
set_option maxHeartbeats 4000000 in
theorem vc_Gr_addEdge_at_Gr_2_0 (x1 : Int) (x2 : Int) (x4 : Int) (x10 : Int) (x11 : Int) (edges_0 : Int) (nodes_0 : Int) (near_0 : Int → Int) (tail_0 : Int → Int) (head_0 : Int → Int) (weight_0 : Int → Int) (oneWay_0 : Int → Int) (k1 : 0 ≤ x1 ∧ x1 ≤ 23) (k2 : 0 ≤ x2 ∧ x2 ≤ 23) (k4 : 0 ≤ x4 ∧ x4 ≤ 47) (k10 : 1 ≤ x10 ∧ x10 ≤ 1) (k11 : 1 ≤ x11 ∧ x11 ≤ 48) (d0 : x4 + 1 ≤ x11 ∧ x11 ≤ x4 + 1) (g0 : x11 = edges_0) (f5 : (0 ≤ x4) ∧ ((x4 + 1) ≤ edges_0)) (f6 : (0 ≤ x4) ∧ ((x4 + 1) = edges_0)) (f7 : (0 ≤ x1) ∧ (((x1 + 1) ≤ nodes_0) ∧ ((0 ≤ x2) ∧ (((x2 + 1) ≤ nodes_0) ∧ (((x1 + 1) ≤ x2) ∨ ((x2 + 1) ≤ x1)))))) (f8 : GNL (nodes_0) (near_0) (tail_0) (head_0) (x4)) (f9 : GKE (nodes_0) (edges_0) (tail_0) (head_0)) (f12 : x11 = x4 + x10) (hK_0_7 : ∀ j : Int, 0 ≤ j → j < 48 → 0 ≤ tail_0 j ∧ tail_0 j ≤ 23) (hK_0_8 : ∀ j : Int, 0 ≤ j → j < 48 → 0 ≤ head_0 j ∧ head_0 j ≤ 23) (hK_0_9 : ∀ j : Int, 0 ≤ j → j < 48 → 0 ≤ weight_0 j ∧ weight_0 j ≤ 9) (hK_0_10 : ∀ j : Int, 0 ≤ j → j < 48 → 0 ≤ oneWay_0 j ∧ oneWay_0 j ≤ 1) (hK_0_14 : ∀ j : Int, 0 ≤ j → j < 24 → 0 ≤ near_0 j ∧ near_0 j ≤ 16777215) (kz_0_0 : 0 ≤ nodes_0 ∧ nodes_0 ≤ 24) (kz_0_1 : 0 ≤ edges_0 ∧ edges_0 ≤ 48) : GNB (nodes_0) (edges_0) (near_0) (tail_0) (head_0) := by
  first
    | exact gnb_ofl ‹GNL _ _ _ _ _› (by omega)
  
def o_Gr_addEdge_at_Gr_2 : or_T := (56, 12, [(0, (2, 0, 0, [3])), (1, (0, 0, 23, [])), (2, (0, 0, 23, [])), (4, (0, 0, 47, [])), (10, (0, 1, 1, [])), (11, (0, 1, 48, []))], [(9, [11, 0], [1]), (20, [4, 0], [50, 1, 0, 1001, 2, 6, 0, 2, 0, 0, 1, 0, 0, 6, 4, 2, 1, 0, 0, 1, 2, 1, 1]), (20, [4, 0], [50, 1, 0, 1001, 2, 6, 0, 2, 0, 0, 1, 0, 1, 6, 4, 2, 1, 0, 0, 1, 2, 1, 1]), (20, [1, 0, 2], [50, 1, 0, 1000, 2, 6, 0, 2, 0, 0, 1, 0, 2, 11, 0, 6, 4, 2, 1, 0, 0, 1, 2, 1, 0, 2, 6, 0, 2, 0, 0, 1, 2, 2, 11, 0, 6, 4, 2, 1, 2, 0, 1, 2, 1, 0, 3, 10, 0, 6, 4, 2, 1, 0, 0, 1, 1, 2, 0, 6, 4, 2, 1, 2, 0, 1, 1, 0]), (20, [0, 4], [60, 1, 3, 748, 0, 14, 7, 8]), (20, [0], [60, 2, 2, 596, 0, 1, 7, 8]), (102, [11], [1729382256910270464]), (101, [0, 11], [1]), (1, [11, 4, 10], [])], [], [], [(20, [0], [60, 2, 3, 670, 0, 1, 14, 7, 8])], [], [(11, 4, 1, 1)])
theorem oo_Gr_addEdge_at_Gr_2 {kA : Nat → ClassId} : or_ok PRD kA GG o_Gr_addEdge_at_Gr_2 := by
  refine or_mk fun A ta ws vs hD hth hl => ?_
  intro t0 r0 t1 k1 t2 k2 t4 k4 t10 k10 t11 k11 d0 f0 f5 f6 f7 f8 f9 ta1 w1 le1 s1 ta2 w2 le2 s2 f12
  replace f0 := shm_215 f0
  have cr_0_7 := fdq_46 hD hth r0
  have cr_0_8 := fdq_47 hD hth r0
  have cr_0_9 := fdq_112 hD hth r0
  have cr_0_10 := fdq_209 hD hth r0
  have cr_0_14 := fdq_75 hD hth r0
  have g0 : v_iv (n_v vs 11) = w_fi ws (n_v vs 0) 1 := congrArg v_iv f0
  have hK_0_7 := elq_11 hD hth cr_0_7
  have hK_0_8 := elq_12 hD hth cr_0_8
  have hK_0_9 := elq_57 hD hth cr_0_9
  have hK_0_10 := elq_123 hD hth cr_0_10
  have hK_0_14 := elq_25 hD hth cr_0_14
  have kz_0_0 := fdq_21 hD hth r0
  have kz_0_1 := fdq_30 hD hth r0
  have nf0 : fc_1 PRD (20, [0], [60, 2, 3, 670, 0, 1, 14, 7, 8]) ws (vs) := ⟨nf_in hl rfl, sgq_825 (vc_Gr_addEdge_at_Gr_2_0 (v_iv (n_v vs 1)) (v_iv (n_v vs 2)) (v_iv (n_v vs 4)) (v_iv (n_v vs 10)) (v_iv (n_v vs 11)) (w_fi ws (n_v vs 0) 1) (w_fi ws (n_v vs 0) 0) (w_ei ws (w_ar ws (n_v vs 0) 14)) (w_ei ws (w_ar ws (n_v vs 0) 7)) (w_ei ws (w_ar ws (n_v vs 0) 8)) (w_ei ws (w_ar ws (n_v vs 0) 9)) (w_ei ws (w_ar ws (n_v vs 0) 10)) k1 k2 k4 k10 k11 d0 g0 (shm_387 f5) (shm_828 f6) (shm_824 f7) (shm_390 f8) (shm_386 f9) (shm_12 f12) hK_0_7 hK_0_8 hK_0_9 hK_0_10 hK_0_14 kz_0_0 kz_0_1)⟩
  refine ⟨(fun _ h => (by cases h)), [], trivial, ?_, (fun _ h => (by cases h))⟩
  rw [List.append_nil]
  exact List.forall_mem_cons.mpr ⟨⟨show (20 : Nat) < 100 from by decide, nf0⟩, (fun _ h => (by cases h))⟩
def n_Gr_addEdge_at_Gr_an : List an_T := []
def t_Gr_addEdge_at_Gr_ct : ct_L := [(157, 100, e_Gr_tie_at_Gr)]
set_option maxRecDepth 100000 in
theorem c_Gr_addEdge_at_Gr {l : Launch} {D : va_G} {kA : Nat → ClassId} (h_Gr_tie_at_Gr : ct_ok PRD l D kA GG y_Gr_tie_at_Gr z_Gr_tie_at_Gr e_Gr_tie_at_Gr) : ct_ok PRD l D kA GG y_Gr_addEdge_at_Gr z_Gr_addEdge_at_Gr e_Gr_addEdge_at_Gr := chk_all_ok (FT := [(15, 3, 1), (35, 3, 7), (38, 3, 8), (41, 3, 9), (44, 3, 10)]) (PT := [(15, 3, 1, .int)]) (CT := t_Gr_addEdge_at_Gr_ct) (KT := []) (NT := []) (AN := n_Gr_addEdge_at_Gr_an) (OT := [o_Gr_addEdge_at_Gr_0, o_Gr_addEdge_at_Gr_1, o_Gr_addEdge_at_Gr_2]) 0 200 (List.forall_mem_cons.mpr ⟨oo_Gr_addEdge_at_Gr_0, List.forall_mem_cons.mpr ⟨oo_Gr_addEdge_at_Gr_1, List.forall_mem_cons.mpr ⟨oo_Gr_addEdge_at_Gr_2, List.forall_mem_nil _⟩⟩⟩) (by decide +kernel) ⟨List.forall_mem_cons.mpr ⟨gf_Gr_15, List.forall_mem_cons.mpr ⟨gf_Gr_35, List.forall_mem_cons.mpr ⟨gf_Gr_38, List.forall_mem_cons.mpr ⟨gf_Gr_41, List.forall_mem_cons.mpr ⟨gf_Gr_44, List.forall_mem_nil _⟩⟩⟩⟩⟩, List.forall_mem_cons.mpr ⟨pf_Gr_15, List.forall_mem_nil _⟩, List.forall_mem_cons.mpr ⟨cl_virtual (y := y_Gr_tie_at_Gr) (ci := 3) rfl rfl ⟨_, _, rfl⟩ (by decide +kernel) h_Gr_tie_at_Gr wm_776 wm_3 wm_773 wm_775 wv_1_11 ⟨by decide, by decide, by decide +kernel⟩ (by decide), List.forall_mem_nil _⟩, List.forall_mem_nil _, List.forall_mem_nil _, GG_pl⟩ (by decide +kernel)
set_option maxHeartbeats 4000000 in
theorem vc_Gr_addNode_at_Gq_Retape_0_0 (x2 : Int) (x3 : Int) (x9 : Int) (x10 : Int) (x12 : Int) (x13 : Int) (tail_0 : Int → Int) (head_0 : Int → Int) (a6_0 : Int → Int) (a5_0 : Int → Int) (a1_0 : Int → Int) (k2 : 0 ≤ x2 ∧ x2 ≤ 2000) (k3 : 0 ≤ x3 ∧ x3 ≤ 8) (k9 : 0 ≤ x9 ∧ x9 ≤ 48) (k10 : 0 ≤ x10 ∧ x10 ≤ 8) (k12 : 0 ≤ x12 ∧ x12 ≤ 24) (k13 : 0 ≤ x13 ∧ x13 ≤ 2000) (f11 : CANp (a6_0) (a5_0) (tail_0) (head_0) (a1_0) (x2) (x3) (x13) (x12) (x9) (x10)) : CANq (a6_0) (tail_0) (head_0) (a1_0) (x2) (x3) (x13) (x12) (x9) (x10) := by
  exact mt_q ‹CANp _ _ _ _ _ _ _ _ _ _ _›
set_option maxHeartbeats 4000000 in
theorem vc_Gr_addNode_at_Gq_Retape_0_1 (x3 : Int) (x11 : Int) (x15 : Int) (nodes_0 : Int) (gu : Int) (k3 : 0 ≤ x3 ∧ x3 ≤ 8) (k11 : 0 ≤ x11 ∧ x11 ≤ 23) (k15 : 0 ≤ x15 ∧ x15 ≤ 184) (f4 : x15 = x11 * 8) (g5 : x11 = nodes_0) (kz_0_0 : 0 ≤ nodes_0 ∧ nodes_0 ≤ 24) (eu2 : gu = nodes_0) : x15 + x3 ≤ 192 := by
  first
    | omega
  
set_option maxHeartbeats 4000000 in
theorem vc_Gr_addNode_at_Gq_Retape_0_3 (x13 : Int) (gy : Int) (k13 : 0 ≤ x13 ∧ x13 ≤ 2000) (ey2 : gy = x13) : 1 * gy + ((-1) * x13 + 0) ≤ 0 := by
  first
    | omega
  
set_option maxHeartbeats 4000000 in
theorem vc_Gr_addNode_at_Gq_Retape_0_4 (x13 : Int) (gy : Int) (k13 : 0 ≤ x13 ∧ x13 ≤ 2000) (ey2 : gy = x13) : (-1) * gy + (1 * x13 + 0) ≤ 0 := by
  first
    | omega
  
set_option maxHeartbeats 4000000 in
theorem vc_Gr_addNode_at_Gq_Retape_0_5 (nodes_0 : Int) (gu : Int) (kz_0_0 : 0 ≤ nodes_0 ∧ nodes_0 ≤ 24) (eu2 : gu = nodes_0) : gu = nodes_0 := by
  first
    | omega
  
set_option maxHeartbeats 4000000 in
theorem vc_Gr_addNode_at_Gq_Retape_0_6 (x2 : Int) (x3 : Int) (x9 : Int) (x10 : Int) (x11 : Int) (x12 : Int) (x13 : Int) (x15 : Int) (nodes_0 : Int) (tail_0 : Int → Int) (head_0 : Int → Int) (a6_0 : Int → Int) (a5_0 : Int → Int) (a1_0 : Int → Int) (gy : Int) (gu : Int) (k2 : 0 ≤ x2 ∧ x2 ≤ 2000) (k3 : 0 ≤ x3 ∧ x3 ≤ 8) (k9 : 0 ≤ x9 ∧ x9 ≤ 48) (k10 : 0 ≤ x10 ∧ x10 ≤ 8) (k11 : 0 ≤ x11 ∧ x11 ≤ 23) (k12 : 0 ≤ x12 ∧ x12 ≤ 24) (k13 : 0 ≤ x13 ∧ x13 ≤ 2000) (k15 : 0 ≤ x15 ∧ x15 ≤ 184) (f4 : x15 = x11 * 8) (g5 : x11 = nodes_0) (f7 : nodes_0 = x12) (f11 : CANp (a6_0) (a5_0) (tail_0) (head_0) (a1_0) (x2) (x3) (x13) (x12) (x9) (x10)) (kz_0_0 : 0 ≤ nodes_0 ∧ nodes_0 ≤ 24) (ey2 : gy = x13) (eu2 : gu = nodes_0) : CN1 (a5_0) (a1_0) (a1_0) (x2) (x15) (x3) (gy) (gu) := by
  exact mt_cn1 ‹CANp _ _ _ _ _ _ _ _ _ _ _› (by omega) (by omega) (by omega)
def o_Gr_addNode_at_Gq_Retape_0 : or_T := (18, 16, [(0, (2, 0, 0, [164])), (1, (2, 0, 0, [109])), (2, (0, 0, 2000, [])), (3, (0, 0, 8, [])), (9, (0, 0, 48, [])), (10, (0, 0, 8, [])), (11, (0, 0, 23, [])), (12, (0, 0, 24, [])), (13, (0, 0, 2000, [])), (14, (0, 8, 8, [])), (15, (0, 0, 184, []))], [(9, [7, 0], [7]), (9, [8, 0], [8]), (3, [15, 11, 14], []), (9, [11, 0], [0]), (20, [0, 12], [50, 1, 0, 0, 1, 3, 2, 0, 0, 1, 1]), (20, [6, 5, 7, 8, 1, 2, 3, 13, 12, 9, 10], [61, 5, 1092])], [], [(2, 0, 0, [109]), (0, 0, 2000, []), (0, 0, 24, [])], [(20, [6, 7, 8, 1, 2, 3, 13, 12, 9, 10], [61, 4, 1096]), (21, [15, 3], [192]), (24, [1, 16], []), (23, [17, 13], [0, 1, -1]), (23, [17, 13], [0, -1, 1]), (20, [18, 0], [50, 1, 0, 1000, 1, 2, 1, 0, 2, 1, 0]), (20, [5, 1, 16, 2, 15, 3, 17, 18], [61, 3, 1094])], [], [])
theorem oo_Gr_addNode_at_Gq_Retape_0 {kA : Nat → ClassId} : or_ok PRD kA GG o_Gr_addNode_at_Gq_Retape_0 := by
  refine or_mk fun A ta ws vs hD hth hl => ?_
  intro t0 r0 t1 r1 t2 k2 t3 k3 t9 k9 t10 k10 t11 k11 t12 k12 t13 k13 t14 k14 t15 k15 f0 f1 f4 f5 f7 f11
  replace f0 := shm_198 f0
  replace f1 := shm_293 f1
  replace f4 := shm_38 f4
  rw [show v_iv (n_v vs 14) = 8 from by omega] at f4
  replace f5 := shm_163 f5
  replace f7 := shm_570 f7
  replace f11 := shm_833 f11
  have ad_7 : v_ad (n_v vs 7) = w_ar ws (n_v vs 0) 7 := congrArg v_ad f0
  have ad_8 : v_ad (n_v vs 8) = w_ar ws (n_v vs 0) 8 := congrArg v_ad f1
  have g5 : v_iv (n_v vs 11) = w_fi ws (n_v vs 0) 0 := congrArg v_iv f5
  simp only [ad_7, ad_8] at f11
  have kz_0_0 := fdq_73 hD hth r0
  obtain ⟨y, ey, hy⟩ := iv_ex (ta := ta) (lo := 0) (hi := 2000) (z := v_iv (n_v vs 13)) (by omega) (by omega) (by omega) (by omega)
  have ey2 : v_iv (Value.int y) = v_iv (n_v vs 13) := ey
  have ey3 : 0 ≤ v_iv (Value.int y) ∧ v_iv (Value.int y) ≤ 2000 := tv_rng hy
  obtain ⟨u, eu, hu⟩ := iv_ex (ta := ta) (lo := 0) (hi := 24) (z := w_fi ws (n_v vs 0) 0) (by omega) (by omega) (by omega) (by omega)
  have eu2 : v_iv (Value.int u) = w_fi ws (n_v vs 0) 0 := eu
  have eu3 : 0 ≤ v_iv (Value.int u) ∧ v_iv (Value.int u) ≤ 24 := tv_rng hu
  have e_0 : n_v (vs ++ [n_v vs 1, Value.int y, Value.int u]) 0 = n_v vs 0 := n_v_old (by rw [hl]; decide)
  have e_1 : n_v (vs ++ [n_v vs 1, Value.int y, Value.int u]) 1 = n_v vs 1 := n_v_old (by rw [hl]; decide)
  have e_2 : n_v (vs ++ [n_v vs 1, Value.int y, Value.int u]) 2 = n_v vs 2 := n_v_old (by rw [hl]; decide)
  have e_3 : n_v (vs ++ [n_v vs 1, Value.int y, Value.int u]) 3 = n_v vs 3 := n_v_old (by rw [hl]; decide)
  have e_5 : n_v (vs ++ [n_v vs 1, Value.int y, Value.int u]) 5 = n_v vs 5 := n_v_old (by rw [hl]; decide)
  have e_6 : n_v (vs ++ [n_v vs 1, Value.int y, Value.int u]) 6 = n_v vs 6 := n_v_old (by rw [hl]; decide)
  have e_7 : n_v (vs ++ [n_v vs 1, Value.int y, Value.int u]) 7 = n_v vs 7 := n_v_old (by rw [hl]; decide)
  have e_8 : n_v (vs ++ [n_v vs 1, Value.int y, Value.int u]) 8 = n_v vs 8 := n_v_old (by rw [hl]; decide)
  have e_9 : n_v (vs ++ [n_v vs 1, Value.int y, Value.int u]) 9 = n_v vs 9 := n_v_old (by rw [hl]; decide)
  have e_10 : n_v (vs ++ [n_v vs 1, Value.int y, Value.int u]) 10 = n_v vs 10 := n_v_old (by rw [hl]; decide)
  have e_12 : n_v (vs ++ [n_v vs 1, Value.int y, Value.int u]) 12 = n_v vs 12 := n_v_old (by rw [hl]; decide)
  have e_13 : n_v (vs ++ [n_v vs 1, Value.int y, Value.int u]) 13 = n_v vs 13 := n_v_old (by rw [hl]; decide)
  have e_15 : n_v (vs ++ [n_v vs 1, Value.int y, Value.int u]) 15 = n_v vs 15 := n_v_old (by rw [hl]; decide)
  have e_16 : n_v (vs ++ [n_v vs 1, Value.int y, Value.int u]) 16 = n_v vs 1 := n_v_newk (k := 0) hl rfl
  have e_17 : n_v (vs ++ [n_v vs 1, Value.int y, Value.int u]) 17 = Value.int y := n_v_newk (k := 1) hl rfl
  have e_18 : n_v (vs ++ [n_v vs 1, Value.int y, Value.int u]) 18 = Value.int u := n_v_newk (k := 2) hl rfl
  have nf0 : fc_1 PRD (20, [6, 7, 8, 1, 2, 3, 13, 12, 9, 10], [61, 4, 1096]) ws (vs ++ [n_v vs 1, Value.int y, Value.int u]) := by
    refine ⟨nf_inA hl rfl, sgq_834 ?_⟩
    · show CANq (w_ei ws (v_ad (n_v (vs ++ [n_v vs 1, Value.int y, Value.int u]) 6))) (w_ei ws (v_ad (n_v (vs ++ [n_v vs 1, Value.int y, Value.int u]) 7))) (w_ei ws (v_ad (n_v (vs ++ [n_v vs 1, Value.int y, Value.int u]) 8))) (w_ei ws (v_ad (n_v (vs ++ [n_v vs 1, Value.int y, Value.int u]) 1))) (v_iv (n_v (vs ++ [n_v vs 1, Value.int y, Value.int u]) 2)) (v_iv (n_v (vs ++ [n_v vs 1, Value.int y, Value.int u]) 3)) (v_iv (n_v (vs ++ [n_v vs 1, Value.int y, Value.int u]) 13)) (v_iv (n_v (vs ++ [n_v vs 1, Value.int y, Value.int u]) 12)) (v_iv (n_v (vs ++ [n_v vs 1, Value.int y, Value.int u]) 9)) (v_iv (n_v (vs ++ [n_v vs 1, Value.int y, Value.int u]) 10))
      simp only [e_1, e_2, e_3, e_6, e_7, e_8, e_9, e_10, e_12, e_13, ad_7, ad_8]
      exact vc_Gr_addNode_at_Gq_Retape_0_0 (v_iv (n_v vs 2)) (v_iv (n_v vs 3)) (v_iv (n_v vs 9)) (v_iv (n_v vs 10)) (v_iv (n_v vs 12)) (v_iv (n_v vs 13)) (w_ei ws (w_ar ws (n_v vs 0) 7)) (w_ei ws (w_ar ws (n_v vs 0) 8)) (w_ei ws (v_ad (n_v vs 6))) (w_ei ws (v_ad (n_v vs 5))) (w_ei ws (v_ad (n_v vs 1))) k2 k3 k9 k10 k12 k13 f11
  have nf1 : fc_1 PRD (21, [15, 3], [192]) ws (vs ++ [n_v vs 1, Value.int y, Value.int u]) := by
    refine ⟨nf_inA hl rfl, sgq_835 ?_⟩
    · show v_iv (n_v (vs ++ [n_v vs 1, Value.int y, Value.int u]) 15) + v_iv (n_v (vs ++ [n_v vs 1, Value.int y, Value.int u]) 3) ≤ 192
      simp only [e_3, e_15]
      exact vc_Gr_addNode_at_Gq_Retape_0_1 (v_iv (n_v vs 3)) (v_iv (n_v vs 11)) (v_iv (n_v vs 15)) (w_fi ws (n_v vs 0) 0) (v_iv (Value.int u)) k3 k11 k15 f4 g5 kz_0_0 eu2
  have nf2 : fc_1 PRD (24, [1, 16], []) ws (vs ++ [n_v vs 1, Value.int y, Value.int u]) := by
    refine ⟨nf_inA hl rfl, sgq_5 ?_⟩
    · show n_v (vs ++ [n_v vs 1, Value.int y, Value.int u]) 1 = n_v (vs ++ [n_v vs 1, Value.int y, Value.int u]) 16
      first | rfl | simp only [e_1, e_16]
  have nf3 : fc_1 PRD (23, [17, 13], [0, 1, -1]) ws (vs ++ [n_v vs 1, Value.int y, Value.int u]) := by
    refine ⟨nf_inA hl rfl, sgq_7 ?_⟩
    · show 1 * v_iv (n_v (vs ++ [n_v vs 1, Value.int y, Value.int u]) 17) + ((-1) * v_iv (n_v (vs ++ [n_v vs 1, Value.int y, Value.int u]) 13) + 0) ≤ 0
      simp only [e_13, e_17]
      exact vc_Gr_addNode_at_Gq_Retape_0_3 (v_iv (n_v vs 13)) (v_iv (Value.int y)) k13 ey2
  have nf4 : fc_1 PRD (23, [17, 13], [0, -1, 1]) ws (vs ++ [n_v vs 1, Value.int y, Value.int u]) := by
    refine ⟨nf_inA hl rfl, sgq_22 ?_⟩
    · show (-1) * v_iv (n_v (vs ++ [n_v vs 1, Value.int y, Value.int u]) 17) + (1 * v_iv (n_v (vs ++ [n_v vs 1, Value.int y, Value.int u]) 13) + 0) ≤ 0
      simp only [e_13, e_17]
      exact vc_Gr_addNode_at_Gq_Retape_0_4 (v_iv (n_v vs 13)) (v_iv (Value.int y)) k13 ey2
  have nf5 : fc_1 PRD (20, [18, 0], [50, 1, 0, 1000, 1, 2, 1, 0, 2, 1, 0]) ws (vs ++ [n_v vs 1, Value.int y, Value.int u]) := by
    refine ⟨nf_inA hl rfl, sgq_836 ?_⟩
    · show v_iv (n_v (vs ++ [n_v vs 1, Value.int y, Value.int u]) 18) = w_fi ws (n_v (vs ++ [n_v vs 1, Value.int y, Value.int u]) 0) 0
      simp only [e_0, e_18]
      exact vc_Gr_addNode_at_Gq_Retape_0_5 (w_fi ws (n_v vs 0) 0) (v_iv (Value.int u)) kz_0_0 eu2
  have nf6 : fc_1 PRD (20, [5, 1, 16, 2, 15, 3, 17, 18], [61, 3, 1094]) ws (vs ++ [n_v vs 1, Value.int y, Value.int u]) := by
    refine ⟨nf_inA hl rfl, sgq_837 ?_⟩
    · show CN1 (w_ei ws (v_ad (n_v (vs ++ [n_v vs 1, Value.int y, Value.int u]) 5))) (w_ei ws (v_ad (n_v (vs ++ [n_v vs 1, Value.int y, Value.int u]) 1))) (w_ei ws (v_ad (n_v (vs ++ [n_v vs 1, Value.int y, Value.int u]) 16))) (v_iv (n_v (vs ++ [n_v vs 1, Value.int y, Value.int u]) 2)) (v_iv (n_v (vs ++ [n_v vs 1, Value.int y, Value.int u]) 15)) (v_iv (n_v (vs ++ [n_v vs 1, Value.int y, Value.int u]) 3)) (v_iv (n_v (vs ++ [n_v vs 1, Value.int y, Value.int u]) 17)) (v_iv (n_v (vs ++ [n_v vs 1, Value.int y, Value.int u]) 18))
      simp only [e_1, e_2, e_3, e_5, e_15, e_16, e_17, e_18]
      exact vc_Gr_addNode_at_Gq_Retape_0_6 (v_iv (n_v vs 2)) (v_iv (n_v vs 3)) (v_iv (n_v vs 9)) (v_iv (n_v vs 10)) (v_iv (n_v vs 11)) (v_iv (n_v vs 12)) (v_iv (n_v vs 13)) (v_iv (n_v vs 15)) (w_fi ws (n_v vs 0) 0) (w_ei ws (w_ar ws (n_v vs 0) 7)) (w_ei ws (w_ar ws (n_v vs 0) 8)) (w_ei ws (v_ad (n_v vs 6))) (w_ei ws (v_ad (n_v vs 5))) (w_ei ws (v_ad (n_v vs 1))) (v_iv (Value.int y)) (v_iv (Value.int u)) k2 k3 k9 k10 k11 k12 k13 k15 f4 g5 f7 f11 kz_0_0 ey2 eu2
  exact ⟨(fun _ h => (by cases h)), [n_v vs 1, Value.int y, Value.int u], ag_three t1 hy hu, List.forall_mem_cons.mpr ⟨⟨show (20 : Nat) < 100 from by decide, nf0⟩, List.forall_mem_cons.mpr ⟨⟨show (21 : Nat) < 100 from by decide, nf1⟩, List.forall_mem_cons.mpr ⟨⟨show (24 : Nat) < 100 from by decide, nf2⟩, List.forall_mem_cons.mpr ⟨⟨show (23 : Nat) < 100 from by decide, nf3⟩, List.forall_mem_cons.mpr ⟨⟨show (23 : Nat) < 100 from by decide, nf4⟩, List.forall_mem_cons.mpr ⟨⟨show (20 : Nat) < 100 from by decide, nf5⟩, List.forall_mem_cons.mpr ⟨⟨show (20 : Nat) < 100 from by decide, nf6⟩, (fun _ h => (by cases h))⟩⟩⟩⟩⟩⟩⟩, (fun _ h => (by cases h))⟩
set_option maxHeartbeats 4000000 in
theorem vc_Gr_addNode_at_Gq_Retape_1_0 (x11 : Int) (x23 : Int) (x25 : Int) (nodes_0 : Int) (edges_0 : Int) (groups_0 : Int) (a5_0 : Int → Int) (a1_0 : Int → Int) (nodes_1 : Int) (tail_1 : Int → Int) (head_1 : Int → Int) (edges_1 : Int) (a5_1 : Int → Int) (a1_1 : Int → Int) (nodes_2 : Int) (near_2 : Int → Int) (tail_2 : Int → Int) (head_2 : Int → Int) (edges_2 : Int) (a5_2 : Int → Int) (a1_2 : Int → Int) (nodes_3 : Int) (near_3 : Int → Int) (tail_3 : Int → Int) (head_3 : Int → Int) (edges_3 : Int) (a5_3 : Int → Int) (a1_3 : Int → Int) (nodes_4 : Int) (near_4 : Int → Int) (tail_4 : Int → Int) (head_4 : Int → Int) (edges_4 : Int) (a5_4 : Int → Int) (a1_4 : Int → Int) (tail_5 : Int → Int) (head_5 : Int → Int) (a1_5 : Int → Int) (nodes_5 : Int) (near_5 : Int → Int) (edges_5 : Int) (a5_5 : Int → Int) (groups_1 : Int) (groups_2 : Int) (groups_3 : Int) (groups_4 : Int) (nameLength_0 : Int → Int) (nameLength_1 : Int → Int) (nameLength_2 : Int → Int) (nameLength_3 : Int → Int) (nameLength_4 : Int → Int) (size_0 : Int → Int) (size_1 : Int → Int) (size_2 : Int → Int) (size_3 : Int → Int) (size_4 : Int → Int) (size_5 : Int → Int) (groupOf_0 : Int → Int) (groupOf_1 : Int → Int) (groupOf_2 : Int → Int) (groupOf_3 : Int → Int) (groupOf_4 : Int → Int) (groupOf_5 : Int → Int) (tail_0 : Int → Int) (head_0 : Int → Int) (near_0 : Int → Int) (near_1 : Int → Int) (k11 : 0 ≤ x11 ∧ x11 ≤ 23) (k23 : 0 ≤ x23 ∧ x23 ≤ 0) (k25 : 1 ≤ x25 ∧ x25 ≤ 24) (d0 : x11 + 1 ≤ x25 ∧ x25 ≤ x11 + 1) (g0 : x25 = nodes_0) (g17 : x11 = nodes_1) (f68 : nodes_5 ≤ 23) (f69 : GNB (nodes_5) (edges_5) (near_5) (tail_5) (head_5)) (f70 : GKE (nodes_5) (edges_5) (tail_5) (head_5)) (fe_0_1_1 : edges_0 = edges_1) (fe_0_2_1 : groups_0 = groups_1) (fe_0_0_2 : nodes_1 = nodes_2) (fe_0_1_2 : edges_1 = edges_2) (fe_0_2_2 : groups_1 = groups_2) (fe_0_0_3 : nodes_2 = nodes_3) (fe_0_1_3 : edges_2 = edges_3) (fe_0_2_3 : groups_2 = groups_3) (fe_0_0_4 : nodes_3 = nodes_4) (fe_0_1_4 : edges_3 = edges_4) (fe_0_2_4 : groups_3 = groups_4) (fe_0_0_5 : nodes_4 = nodes_5) (fe_0_1_5 : edges_4 = edges_5) (hE_0_4_1 : ∀ j : Int, nameLength_0 j = nameLength_1 j) (hE_0_4_2 : ∀ j : Int, nameLength_1 j = nameLength_2 j) (hE_0_4_3 : ∀ j : Int, nameLength_2 j = nameLength_3 j) (hE_0_4_4 : ∀ j : Int, nameLength_3 j = nameLength_4 j) (hE_0_5_1 : ∀ j : Int, size_0 j = size_1 j) (hE_0_5_2 : ∀ j : Int, size_1 j = size_2 j) (hE_0_5_3 : ∀ j : Int, size_2 j = size_3 j) (hE_0_5_5 : ∀ j : Int, size_4 j = size_5 j) (hE_0_6_1 : ∀ j : Int, groupOf_0 j = groupOf_1 j) (hE_0_6_2 : ∀ j : Int, groupOf_1 j = groupOf_2 j) (hE_0_6_4 : ∀ j : Int, groupOf_3 j = groupOf_4 j) (hE_0_6_5 : ∀ j : Int, groupOf_4 j = groupOf_5 j) (hE_0_7_1 : ∀ j : Int, tail_0 j = tail_1 j) (hE_0_7_2 : ∀ j : Int, tail_1 j = tail_2 j) (hE_0_7_3 : ∀ j : Int, tail_2 j = tail_3 j) (hE_0_7_4 : ∀ j : Int, tail_3 j = tail_4 j) (hE_0_7_5 : ∀ j : Int, tail_4 j = tail_5 j) (hE_0_8_1 : ∀ j : Int, head_0 j = head_1 j) (hE_0_8_2 : ∀ j : Int, head_1 j = head_2 j) (hE_0_8_3 : ∀ j : Int, head_2 j = head_3 j) (hE_0_8_4 : ∀ j : Int, head_3 j = head_4 j) (hE_0_8_5 : ∀ j : Int, head_4 j = head_5 j) (hE_0_14_1 : ∀ j : Int, near_0 j = near_1 j) (hE_0_14_2 : ∀ j : Int, 0 ≤ j → (j = x11 → near_1 j = x23) ∧ (j ≠ x11 → near_1 j = near_2 j)) (hE_0_14_3 : ∀ j : Int, near_2 j = near_3 j) (hE_0_14_4 : ∀ j : Int, near_3 j = near_4 j) (hE_0_14_5 : ∀ j : Int, near_4 j = near_5 j) (hE_1_999_1 : ∀ j : Int, a1_0 j = a1_1 j) (hE_1_999_2 : ∀ j : Int, a1_1 j = a1_2 j) (hE_1_999_3 : ∀ j : Int, a1_2 j = a1_3 j) (hE_1_999_4 : ∀ j : Int, a1_3 j = a1_4 j) (hE_1_999_5 : ∀ j : Int, a1_4 j = a1_5 j) (hE_5_999_1 : ∀ j : Int, a5_0 j = a5_1 j) (hE_5_999_2 : ∀ j : Int, a5_1 j = a5_2 j) (hE_5_999_3 : ∀ j : Int, a5_2 j = a5_3 j) (hE_5_999_4 : ∀ j : Int, a5_3 j = a5_4 j) (hE_5_999_5 : ∀ j : Int, a5_4 j = a5_5 j) (kz_0_0 : 0 ≤ nodes_0 ∧ nodes_0 ≤ 24) (kz_0_1 : 0 ≤ edges_0 ∧ edges_0 ≤ 48) (kz_0_2 : 0 ≤ groups_0 ∧ groups_0 ≤ 8) : GNB (nodes_0) (edges_0) (near_0) (tail_0) (head_0) := by
  subst fe_0_1_1
  subst fe_0_2_1
  subst fe_0_0_2
  subst fe_0_1_2
  subst fe_0_2_2
  subst fe_0_0_3
  subst fe_0_1_3
  subst fe_0_2_3
  subst fe_0_0_4
  subst fe_0_1_4
  subst fe_0_2_4
  subst fe_0_0_5
  subst fe_0_1_5
  have e_hE_0_4_1 := funext hE_0_4_1; subst e_hE_0_4_1
  have e_hE_0_4_2 := funext hE_0_4_2; subst e_hE_0_4_2
  have e_hE_0_4_3 := funext hE_0_4_3; subst e_hE_0_4_3
  have e_hE_0_4_4 := funext hE_0_4_4; subst e_hE_0_4_4
  have e_hE_0_5_1 := funext hE_0_5_1; subst e_hE_0_5_1
  have e_hE_0_5_2 := funext hE_0_5_2; subst e_hE_0_5_2
  have e_hE_0_5_3 := funext hE_0_5_3; subst e_hE_0_5_3
  have e_hE_0_5_5 := funext hE_0_5_5; subst e_hE_0_5_5
  have e_hE_0_6_1 := funext hE_0_6_1; subst e_hE_0_6_1
  have e_hE_0_6_2 := funext hE_0_6_2; subst e_hE_0_6_2
  have e_hE_0_6_4 := funext hE_0_6_4; subst e_hE_0_6_4
  have e_hE_0_6_5 := funext hE_0_6_5; subst e_hE_0_6_5
  have e_hE_0_7_1 := funext hE_0_7_1; subst e_hE_0_7_1
  have e_hE_0_7_2 := funext hE_0_7_2; subst e_hE_0_7_2
  have e_hE_0_7_3 := funext hE_0_7_3; subst e_hE_0_7_3
  have e_hE_0_7_4 := funext hE_0_7_4; subst e_hE_0_7_4
  have e_hE_0_7_5 := funext hE_0_7_5; subst e_hE_0_7_5
  have e_hE_0_8_1 := funext hE_0_8_1; subst e_hE_0_8_1
  have e_hE_0_8_2 := funext hE_0_8_2; subst e_hE_0_8_2
  have e_hE_0_8_3 := funext hE_0_8_3; subst e_hE_0_8_3
  have e_hE_0_8_4 := funext hE_0_8_4; subst e_hE_0_8_4
  have e_hE_0_8_5 := funext hE_0_8_5; subst e_hE_0_8_5
  have e_hE_0_14_1 := funext hE_0_14_1; subst e_hE_0_14_1
  have e_hE_0_14_3 := funext hE_0_14_3; subst e_hE_0_14_3
  have e_hE_0_14_4 := funext hE_0_14_4; subst e_hE_0_14_4
  have e_hE_0_14_5 := funext hE_0_14_5; subst e_hE_0_14_5
  have e_hE_1_999_1 := funext hE_1_999_1; subst e_hE_1_999_1
  have e_hE_1_999_2 := funext hE_1_999_2; subst e_hE_1_999_2
  have e_hE_1_999_3 := funext hE_1_999_3; subst e_hE_1_999_3
  have e_hE_1_999_4 := funext hE_1_999_4; subst e_hE_1_999_4
  have e_hE_1_999_5 := funext hE_1_999_5; subst e_hE_1_999_5
  have e_hE_5_999_1 := funext hE_5_999_1; subst e_hE_5_999_1
  have e_hE_5_999_2 := funext hE_5_999_2; subst e_hE_5_999_2
  have e_hE_5_999_3 := funext hE_5_999_3; subst e_hE_5_999_3
  have e_hE_5_999_4 := funext hE_5_999_4; subst e_hE_5_999_4
  have e_hE_5_999_5 := funext hE_5_999_5; subst e_hE_5_999_5
  first
    | exact gnb_node2 ‹GNB _ _ _ _ _› ‹GKE _ _ _ _› (by omega) (by omega) hE_0_14_2 (by omega) (by omega) (by omega)
set_option maxHeartbeats 4000000 in
theorem vc_Gr_addNode_at_Gq_Retape_1_1 (x11 : Int) (x17 : Int) (x25 : Int) (nodes_0 : Int) (edges_0 : Int) (groups_0 : Int) (a5_0 : Int → Int) (a1_0 : Int → Int) (nodes_1 : Int) (tail_1 : Int → Int) (head_1 : Int → Int) (edges_1 : Int) (a5_1 : Int → Int) (a1_1 : Int → Int) (nodes_2 : Int) (near_2 : Int → Int) (tail_2 : Int → Int) (head_2 : Int → Int) (edges_2 : Int) (a5_2 : Int → Int) (a1_2 : Int → Int) (nodes_3 : Int) (near_3 : Int → Int) (tail_3 : Int → Int) (head_3 : Int → Int) (edges_3 : Int) (a5_3 : Int → Int) (a1_3 : Int → Int) (nodes_4 : Int) (near_4 : Int → Int) (tail_4 : Int → Int) (head_4 : Int → Int) (edges_4 : Int) (a5_4 : Int → Int) (a1_4 : Int → Int) (tail_5 : Int → Int) (head_5 : Int → Int) (a1_5 : Int → Int) (nodes_5 : Int) (near_5 : Int → Int) (edges_5 : Int) (a5_5 : Int → Int) (groups_1 : Int) (groups_2 : Int) (groups_3 : Int) (groups_4 : Int) (nameLength_0 : Int → Int) (nameLength_1 : Int → Int) (nameLength_2 : Int → Int) (nameLength_3 : Int → Int) (nameLength_4 : Int → Int) (size_0 : Int → Int) (size_1 : Int → Int) (size_2 : Int → Int) (size_3 : Int → Int) (size_4 : Int → Int) (size_5 : Int → Int) (groupOf_0 : Int → Int) (groupOf_1 : Int → Int) (groupOf_2 : Int → Int) (groupOf_3 : Int → Int) (groupOf_4 : Int → Int) (groupOf_5 : Int → Int) (tail_0 : Int → Int) (head_0 : Int → Int) (near_0 : Int → Int) (near_1 : Int → Int) (k11 : 0 ≤ x11 ∧ x11 ≤ 23) (k25 : 1 ≤ x25 ∧ x25 ≤ 24) (d0 : x11 + 1 ≤ x25 ∧ x25 ≤ x11 + 1) (g0 : x25 = nodes_0) (g17 : x11 = nodes_1) (f70 : GKE (nodes_5) (edges_5) (tail_5) (head_5)) (fe_0_1_1 : edges_0 = edges_1) (fe_0_2_1 : groups_0 = groups_1) (fe_0_0_2 : nodes_1 = nodes_2) (fe_0_1_2 : edges_1 = edges_2) (fe_0_2_2 : groups_1 = groups_2) (fe_0_0_3 : nodes_2 = nodes_3) (fe_0_1_3 : edges_2 = edges_3) (fe_0_2_3 : groups_2 = groups_3) (fe_0_0_4 : nodes_3 = nodes_4) (fe_0_1_4 : edges_3 = edges_4) (fe_0_2_4 : groups_3 = groups_4) (fe_0_0_5 : nodes_4 = nodes_5) (fe_0_1_5 : edges_4 = edges_5) (hE_0_4_1 : ∀ j : Int, nameLength_0 j = nameLength_1 j) (hE_0_4_2 : ∀ j : Int, nameLength_1 j = nameLength_2 j) (hE_0_4_3 : ∀ j : Int, nameLength_2 j = nameLength_3 j) (hE_0_4_4 : ∀ j : Int, nameLength_3 j = nameLength_4 j) (hE_0_5_1 : ∀ j : Int, size_0 j = size_1 j) (hE_0_5_2 : ∀ j : Int, size_1 j = size_2 j) (hE_0_5_3 : ∀ j : Int, size_2 j = size_3 j) (hE_0_5_5 : ∀ j : Int, size_4 j = size_5 j) (hE_0_6_1 : ∀ j : Int, groupOf_0 j = groupOf_1 j) (hE_0_6_2 : ∀ j : Int, groupOf_1 j = groupOf_2 j) (hE_0_6_4 : ∀ j : Int, groupOf_3 j = groupOf_4 j) (hE_0_6_5 : ∀ j : Int, groupOf_4 j = groupOf_5 j) (hE_0_7_1 : ∀ j : Int, tail_0 j = tail_1 j) (hE_0_7_2 : ∀ j : Int, tail_1 j = tail_2 j) (hE_0_7_3 : ∀ j : Int, tail_2 j = tail_3 j) (hE_0_7_4 : ∀ j : Int, tail_3 j = tail_4 j) (hE_0_7_5 : ∀ j : Int, tail_4 j = tail_5 j) (hE_0_8_1 : ∀ j : Int, head_0 j = head_1 j) (hE_0_8_2 : ∀ j : Int, head_1 j = head_2 j) (hE_0_8_3 : ∀ j : Int, head_2 j = head_3 j) (hE_0_8_4 : ∀ j : Int, head_3 j = head_4 j) (hE_0_8_5 : ∀ j : Int, head_4 j = head_5 j) (hE_0_14_1 : ∀ j : Int, near_0 j = near_1 j) (hE_0_14_3 : ∀ j : Int, near_2 j = near_3 j) (hE_0_14_4 : ∀ j : Int, near_3 j = near_4 j) (hE_0_14_5 : ∀ j : Int, near_4 j = near_5 j) (hE_1_999_1 : ∀ j : Int, a1_0 j = a1_1 j) (hE_1_999_2 : ∀ j : Int, a1_1 j = a1_2 j) (hE_1_999_3 : ∀ j : Int, a1_2 j = a1_3 j) (hE_1_999_4 : ∀ j : Int, a1_3 j = a1_4 j) (hE_1_999_5 : ∀ j : Int, a1_4 j = a1_5 j) (hE_5_999_1 : ∀ j : Int, a5_0 j = a5_1 j) (hE_5_999_2 : ∀ j : Int, a5_1 j = a5_2 j) (hE_5_999_3 : ∀ j : Int, a5_2 j = a5_3 j) (hE_5_999_4 : ∀ j : Int, a5_3 j = a5_4 j) (hE_5_999_5 : ∀ j : Int, a5_4 j = a5_5 j) (kz_0_0 : 0 ≤ nodes_0 ∧ nodes_0 ≤ 24) (kz_0_1 : 0 ≤ edges_0 ∧ edges_0 ≤ 48) (kz_0_2 : 0 ≤ groups_0 ∧ groups_0 ≤ 8) : GKE (nodes_0) (edges_0) (tail_0) (head_0) := by
  subst fe_0_1_1
  subst fe_0_2_1
  subst fe_0_0_2
  subst fe_0_1_2
  subst fe_0_2_2
  subst fe_0_0_3
  subst fe_0_1_3
  subst fe_0_2_3
  subst fe_0_0_4
  subst fe_0_1_4
  subst fe_0_2_4
  subst fe_0_0_5
  subst fe_0_1_5
  have e_hE_0_4_1 := funext hE_0_4_1; subst e_hE_0_4_1
  have e_hE_0_4_2 := funext hE_0_4_2; subst e_hE_0_4_2
  have e_hE_0_4_3 := funext hE_0_4_3; subst e_hE_0_4_3
  have e_hE_0_4_4 := funext hE_0_4_4; subst e_hE_0_4_4
  have e_hE_0_5_1 := funext hE_0_5_1; subst e_hE_0_5_1
  have e_hE_0_5_2 := funext hE_0_5_2; subst e_hE_0_5_2
  have e_hE_0_5_3 := funext hE_0_5_3; subst e_hE_0_5_3
  have e_hE_0_5_5 := funext hE_0_5_5; subst e_hE_0_5_5
  have e_hE_0_6_1 := funext hE_0_6_1; subst e_hE_0_6_1
  have e_hE_0_6_2 := funext hE_0_6_2; subst e_hE_0_6_2
  have e_hE_0_6_4 := funext hE_0_6_4; subst e_hE_0_6_4
  have e_hE_0_6_5 := funext hE_0_6_5; subst e_hE_0_6_5
  have e_hE_0_7_1 := funext hE_0_7_1; subst e_hE_0_7_1
  have e_hE_0_7_2 := funext hE_0_7_2; subst e_hE_0_7_2
  have e_hE_0_7_3 := funext hE_0_7_3; subst e_hE_0_7_3
  have e_hE_0_7_4 := funext hE_0_7_4; subst e_hE_0_7_4
  have e_hE_0_7_5 := funext hE_0_7_5; subst e_hE_0_7_5
  have e_hE_0_8_1 := funext hE_0_8_1; subst e_hE_0_8_1
  have e_hE_0_8_2 := funext hE_0_8_2; subst e_hE_0_8_2
  have e_hE_0_8_3 := funext hE_0_8_3; subst e_hE_0_8_3
  have e_hE_0_8_4 := funext hE_0_8_4; subst e_hE_0_8_4
  have e_hE_0_8_5 := funext hE_0_8_5; subst e_hE_0_8_5
  have e_hE_0_14_1 := funext hE_0_14_1; subst e_hE_0_14_1
  have e_hE_0_14_3 := funext hE_0_14_3; subst e_hE_0_14_3
  have e_hE_0_14_4 := funext hE_0_14_4; subst e_hE_0_14_4
  have e_hE_0_14_5 := funext hE_0_14_5; subst e_hE_0_14_5
  have e_hE_1_999_1 := funext hE_1_999_1; subst e_hE_1_999_1
  have e_hE_1_999_2 := funext hE_1_999_2; subst e_hE_1_999_2
  have e_hE_1_999_3 := funext hE_1_999_3; subst e_hE_1_999_3
  have e_hE_1_999_4 := funext hE_1_999_4; subst e_hE_1_999_4
  have e_hE_1_999_5 := funext hE_1_999_5; subst e_hE_1_999_5
  have e_hE_5_999_1 := funext hE_5_999_1; subst e_hE_5_999_1
  have e_hE_5_999_2 := funext hE_5_999_2; subst e_hE_5_999_2
  have e_hE_5_999_3 := funext hE_5_999_3; subst e_hE_5_999_3
  have e_hE_5_999_4 := funext hE_5_999_4; subst e_hE_5_999_4
  have e_hE_5_999_5 := funext hE_5_999_5; subst e_hE_5_999_5
  first
    | exact gke_node ‹GKE _ _ _ _› (by omega)
    | (rw [show nodes_0 = x17 by omega]; exact gke_node ‹GKE _ _ _ _› (by omega))
set_option maxHeartbeats 4000000 in
theorem vc_Gr_addNode_at_Gq_Retape_1_2 (x11 : Int) (x12 : Int) (x25 : Int) (nodes_0 : Int) (edges_0 : Int) (groups_0 : Int) (a5_0 : Int → Int) (a1_0 : Int → Int) (nodes_1 : Int) (tail_1 : Int → Int) (head_1 : Int → Int) (edges_1 : Int) (a5_1 : Int → Int) (a1_1 : Int → Int) (nodes_2 : Int) (near_2 : Int → Int) (tail_2 : Int → Int) (head_2 : Int → Int) (edges_2 : Int) (a5_2 : Int → Int) (a1_2 : Int → Int) (nodes_3 : Int) (near_3 : Int → Int) (tail_3 : Int → Int) (head_3 : Int → Int) (edges_3 : Int) (a5_3 : Int → Int) (a1_3 : Int → Int) (nodes_4 : Int) (near_4 : Int → Int) (tail_4 : Int → Int) (head_4 : Int → Int) (edges_4 : Int) (a5_4 : Int → Int) (a1_4 : Int → Int) (tail_5 : Int → Int) (head_5 : Int → Int) (a1_5 : Int → Int) (nodes_5 : Int) (near_5 : Int → Int) (edges_5 : Int) (a5_5 : Int → Int) (groups_1 : Int) (groups_2 : Int) (groups_3 : Int) (groups_4 : Int) (nameLength_0 : Int → Int) (nameLength_1 : Int → Int) (nameLength_2 : Int → Int) (nameLength_3 : Int → Int) (nameLength_4 : Int → Int) (size_0 : Int → Int) (size_1 : Int → Int) (size_2 : Int → Int) (size_3 : Int → Int) (size_4 : Int → Int) (size_5 : Int → Int) (groupOf_0 : Int → Int) (groupOf_1 : Int → Int) (groupOf_2 : Int → Int) (groupOf_3 : Int → Int) (groupOf_4 : Int → Int) (groupOf_5 : Int → Int) (tail_0 : Int → Int) (head_0 : Int → Int) (near_0 : Int → Int) (near_1 : Int → Int) (k11 : 0 ≤ x11 ∧ x11 ≤ 23) (k12 : 0 ≤ x12 ∧ x12 ≤ 24) (k25 : 1 ≤ x25 ∧ x25 ≤ 24) (d0 : x11 + 1 ≤ x25 ∧ x25 ≤ x11 + 1) (g0 : x25 = nodes_0) (g17 : x11 = nodes_1) (f23 : nodes_1 = x12) (fe_0_1_1 : edges_0 = edges_1) (fe_0_2_1 : groups_0 = groups_1) (fe_0_0_2 : nodes_1 = nodes_2) (fe_0_1_2 : edges_1 = edges_2) (fe_0_2_2 : groups_1 = groups_2) (fe_0_0_3 : nodes_2 = nodes_3) (fe_0_1_3 : edges_2 = edges_3) (fe_0_2_3 : groups_2 = groups_3) (fe_0_0_4 : nodes_3 = nodes_4) (fe_0_1_4 : edges_3 = edges_4) (fe_0_2_4 : groups_3 = groups_4) (fe_0_0_5 : nodes_4 = nodes_5) (fe_0_1_5 : edges_4 = edges_5) (hE_0_4_1 : ∀ j : Int, nameLength_0 j = nameLength_1 j) (hE_0_4_2 : ∀ j : Int, nameLength_1 j = nameLength_2 j) (hE_0_4_3 : ∀ j : Int, nameLength_2 j = nameLength_3 j) (hE_0_4_4 : ∀ j : Int, nameLength_3 j = nameLength_4 j) (hE_0_5_1 : ∀ j : Int, size_0 j = size_1 j) (hE_0_5_2 : ∀ j : Int, size_1 j = size_2 j) (hE_0_5_3 : ∀ j : Int, size_2 j = size_3 j) (hE_0_5_5 : ∀ j : Int, size_4 j = size_5 j) (hE_0_6_1 : ∀ j : Int, groupOf_0 j = groupOf_1 j) (hE_0_6_2 : ∀ j : Int, groupOf_1 j = groupOf_2 j) (hE_0_6_4 : ∀ j : Int, groupOf_3 j = groupOf_4 j) (hE_0_6_5 : ∀ j : Int, groupOf_4 j = groupOf_5 j) (hE_0_7_1 : ∀ j : Int, tail_0 j = tail_1 j) (hE_0_7_2 : ∀ j : Int, tail_1 j = tail_2 j) (hE_0_7_3 : ∀ j : Int, tail_2 j = tail_3 j) (hE_0_7_4 : ∀ j : Int, tail_3 j = tail_4 j) (hE_0_7_5 : ∀ j : Int, tail_4 j = tail_5 j) (hE_0_8_1 : ∀ j : Int, head_0 j = head_1 j) (hE_0_8_2 : ∀ j : Int, head_1 j = head_2 j) (hE_0_8_3 : ∀ j : Int, head_2 j = head_3 j) (hE_0_8_4 : ∀ j : Int, head_3 j = head_4 j) (hE_0_8_5 : ∀ j : Int, head_4 j = head_5 j) (hE_0_14_1 : ∀ j : Int, near_0 j = near_1 j) (hE_0_14_3 : ∀ j : Int, near_2 j = near_3 j) (hE_0_14_4 : ∀ j : Int, near_3 j = near_4 j) (hE_0_14_5 : ∀ j : Int, near_4 j = near_5 j) (hE_1_999_1 : ∀ j : Int, a1_0 j = a1_1 j) (hE_1_999_2 : ∀ j : Int, a1_1 j = a1_2 j) (hE_1_999_3 : ∀ j : Int, a1_2 j = a1_3 j) (hE_1_999_4 : ∀ j : Int, a1_3 j = a1_4 j) (hE_1_999_5 : ∀ j : Int, a1_4 j = a1_5 j) (hE_5_999_1 : ∀ j : Int, a5_0 j = a5_1 j) (hE_5_999_2 : ∀ j : Int, a5_1 j = a5_2 j) (hE_5_999_3 : ∀ j : Int, a5_2 j = a5_3 j) (hE_5_999_4 : ∀ j : Int, a5_3 j = a5_4 j) (hE_5_999_5 : ∀ j : Int, a5_4 j = a5_5 j) (kz_0_0 : 0 ≤ nodes_0 ∧ nodes_0 ≤ 24) (kz_0_1 : 0 ≤ edges_0 ∧ edges_0 ≤ 48) (kz_0_2 : 0 ≤ groups_0 ∧ groups_0 ≤ 8) : nodes_0 = (x12 + 1) := by
  subst fe_0_1_1
  subst fe_0_2_1
  subst fe_0_0_2
  subst fe_0_1_2
  subst fe_0_2_2
  subst fe_0_0_3
  subst fe_0_1_3
  subst fe_0_2_3
  subst fe_0_0_4
  subst fe_0_1_4
  subst fe_0_2_4
  subst fe_0_0_5
  subst fe_0_1_5
  have e_hE_0_4_1 := funext hE_0_4_1; subst e_hE_0_4_1
  have e_hE_0_4_2 := funext hE_0_4_2; subst e_hE_0_4_2
  have e_hE_0_4_3 := funext hE_0_4_3; subst e_hE_0_4_3
  have e_hE_0_4_4 := funext hE_0_4_4; subst e_hE_0_4_4
  have e_hE_0_5_1 := funext hE_0_5_1; subst e_hE_0_5_1
  have e_hE_0_5_2 := funext hE_0_5_2; subst e_hE_0_5_2
  have e_hE_0_5_3 := funext hE_0_5_3; subst e_hE_0_5_3
  have e_hE_0_5_5 := funext hE_0_5_5; subst e_hE_0_5_5
  have e_hE_0_6_1 := funext hE_0_6_1; subst e_hE_0_6_1
  have e_hE_0_6_2 := funext hE_0_6_2; subst e_hE_0_6_2
  have e_hE_0_6_4 := funext hE_0_6_4; subst e_hE_0_6_4
  have e_hE_0_6_5 := funext hE_0_6_5; subst e_hE_0_6_5
  have e_hE_0_7_1 := funext hE_0_7_1; subst e_hE_0_7_1
  have e_hE_0_7_2 := funext hE_0_7_2; subst e_hE_0_7_2
  have e_hE_0_7_3 := funext hE_0_7_3; subst e_hE_0_7_3
  have e_hE_0_7_4 := funext hE_0_7_4; subst e_hE_0_7_4
  have e_hE_0_7_5 := funext hE_0_7_5; subst e_hE_0_7_5
  have e_hE_0_8_1 := funext hE_0_8_1; subst e_hE_0_8_1
  have e_hE_0_8_2 := funext hE_0_8_2; subst e_hE_0_8_2
  have e_hE_0_8_3 := funext hE_0_8_3; subst e_hE_0_8_3
  have e_hE_0_8_4 := funext hE_0_8_4; subst e_hE_0_8_4
  have e_hE_0_8_5 := funext hE_0_8_5; subst e_hE_0_8_5
  have e_hE_0_14_1 := funext hE_0_14_1; subst e_hE_0_14_1
  have e_hE_0_14_3 := funext hE_0_14_3; subst e_hE_0_14_3
  have e_hE_0_14_4 := funext hE_0_14_4; subst e_hE_0_14_4
  have e_hE_0_14_5 := funext hE_0_14_5; subst e_hE_0_14_5
  have e_hE_1_999_1 := funext hE_1_999_1; subst e_hE_1_999_1
  have e_hE_1_999_2 := funext hE_1_999_2; subst e_hE_1_999_2
  have e_hE_1_999_3 := funext hE_1_999_3; subst e_hE_1_999_3
  have e_hE_1_999_4 := funext hE_1_999_4; subst e_hE_1_999_4
  have e_hE_1_999_5 := funext hE_1_999_5; subst e_hE_1_999_5
  have e_hE_5_999_1 := funext hE_5_999_1; subst e_hE_5_999_1
  have e_hE_5_999_2 := funext hE_5_999_2; subst e_hE_5_999_2
  have e_hE_5_999_3 := funext hE_5_999_3; subst e_hE_5_999_3
  have e_hE_5_999_4 := funext hE_5_999_4; subst e_hE_5_999_4
  have e_hE_5_999_5 := funext hE_5_999_5; subst e_hE_5_999_5
  first
    | omega
  
set_option maxHeartbeats 4000000 in
theorem vc_Gr_addNode_at_Gq_Retape_1_3 (x11 : Int) (x12 : Int) (x25 : Int) (nodes_0 : Int) (edges_0 : Int) (groups_0 : Int) (a5_0 : Int → Int) (a1_0 : Int → Int) (nodes_1 : Int) (tail_1 : Int → Int) (head_1 : Int → Int) (edges_1 : Int) (a5_1 : Int → Int) (a1_1 : Int → Int) (nodes_2 : Int) (near_2 : Int → Int) (tail_2 : Int → Int) (head_2 : Int → Int) (edges_2 : Int) (a5_2 : Int → Int) (a1_2 : Int → Int) (nodes_3 : Int) (near_3 : Int → Int) (tail_3 : Int → Int) (head_3 : Int → Int) (edges_3 : Int) (a5_3 : Int → Int) (a1_3 : Int → Int) (nodes_4 : Int) (near_4 : Int → Int) (tail_4 : Int → Int) (head_4 : Int → Int) (edges_4 : Int) (a5_4 : Int → Int) (a1_4 : Int → Int) (tail_5 : Int → Int) (head_5 : Int → Int) (a1_5 : Int → Int) (nodes_5 : Int) (near_5 : Int → Int) (edges_5 : Int) (a5_5 : Int → Int) (groups_1 : Int) (groups_2 : Int) (groups_3 : Int) (groups_4 : Int) (nameLength_0 : Int → Int) (nameLength_1 : Int → Int) (nameLength_2 : Int → Int) (nameLength_3 : Int → Int) (nameLength_4 : Int → Int) (size_0 : Int → Int) (size_1 : Int → Int) (size_2 : Int → Int) (size_3 : Int → Int) (size_4 : Int → Int) (size_5 : Int → Int) (groupOf_0 : Int → Int) (groupOf_1 : Int → Int) (groupOf_2 : Int → Int) (groupOf_3 : Int → Int) (groupOf_4 : Int → Int) (groupOf_5 : Int → Int) (tail_0 : Int → Int) (head_0 : Int → Int) (near_0 : Int → Int) (near_1 : Int → Int) (k11 : 0 ≤ x11 ∧ x11 ≤ 23) (k12 : 0 ≤ x12 ∧ x12 ≤ 24) (k25 : 1 ≤ x25 ∧ x25 ≤ 24) (d0 : x11 + 1 ≤ x25 ∧ x25 ≤ x11 + 1) (g0 : x25 = nodes_0) (g17 : x11 = nodes_1) (f23 : nodes_1 = x12) (fe_0_1_1 : edges_0 = edges_1) (fe_0_2_1 : groups_0 = groups_1) (fe_0_0_2 : nodes_1 = nodes_2) (fe_0_1_2 : edges_1 = edges_2) (fe_0_2_2 : groups_1 = groups_2) (fe_0_0_3 : nodes_2 = nodes_3) (fe_0_1_3 : edges_2 = edges_3) (fe_0_2_3 : groups_2 = groups_3) (fe_0_0_4 : nodes_3 = nodes_4) (fe_0_1_4 : edges_3 = edges_4) (fe_0_2_4 : groups_3 = groups_4) (fe_0_0_5 : nodes_4 = nodes_5) (fe_0_1_5 : edges_4 = edges_5) (hE_0_4_1 : ∀ j : Int, nameLength_0 j = nameLength_1 j) (hE_0_4_2 : ∀ j : Int, nameLength_1 j = nameLength_2 j) (hE_0_4_3 : ∀ j : Int, nameLength_2 j = nameLength_3 j) (hE_0_4_4 : ∀ j : Int, nameLength_3 j = nameLength_4 j) (hE_0_5_1 : ∀ j : Int, size_0 j = size_1 j) (hE_0_5_2 : ∀ j : Int, size_1 j = size_2 j) (hE_0_5_3 : ∀ j : Int, size_2 j = size_3 j) (hE_0_5_5 : ∀ j : Int, size_4 j = size_5 j) (hE_0_6_1 : ∀ j : Int, groupOf_0 j = groupOf_1 j) (hE_0_6_2 : ∀ j : Int, groupOf_1 j = groupOf_2 j) (hE_0_6_4 : ∀ j : Int, groupOf_3 j = groupOf_4 j) (hE_0_6_5 : ∀ j : Int, groupOf_4 j = groupOf_5 j) (hE_0_7_1 : ∀ j : Int, tail_0 j = tail_1 j) (hE_0_7_2 : ∀ j : Int, tail_1 j = tail_2 j) (hE_0_7_3 : ∀ j : Int, tail_2 j = tail_3 j) (hE_0_7_4 : ∀ j : Int, tail_3 j = tail_4 j) (hE_0_7_5 : ∀ j : Int, tail_4 j = tail_5 j) (hE_0_8_1 : ∀ j : Int, head_0 j = head_1 j) (hE_0_8_2 : ∀ j : Int, head_1 j = head_2 j) (hE_0_8_3 : ∀ j : Int, head_2 j = head_3 j) (hE_0_8_4 : ∀ j : Int, head_3 j = head_4 j) (hE_0_8_5 : ∀ j : Int, head_4 j = head_5 j) (hE_0_14_1 : ∀ j : Int, near_0 j = near_1 j) (hE_0_14_3 : ∀ j : Int, near_2 j = near_3 j) (hE_0_14_4 : ∀ j : Int, near_3 j = near_4 j) (hE_0_14_5 : ∀ j : Int, near_4 j = near_5 j) (hE_1_999_1 : ∀ j : Int, a1_0 j = a1_1 j) (hE_1_999_2 : ∀ j : Int, a1_1 j = a1_2 j) (hE_1_999_3 : ∀ j : Int, a1_2 j = a1_3 j) (hE_1_999_4 : ∀ j : Int, a1_3 j = a1_4 j) (hE_1_999_5 : ∀ j : Int, a1_4 j = a1_5 j) (hE_5_999_1 : ∀ j : Int, a5_0 j = a5_1 j) (hE_5_999_2 : ∀ j : Int, a5_1 j = a5_2 j) (hE_5_999_3 : ∀ j : Int, a5_2 j = a5_3 j) (hE_5_999_4 : ∀ j : Int, a5_3 j = a5_4 j) (hE_5_999_5 : ∀ j : Int, a5_4 j = a5_5 j) (kz_0_0 : 0 ≤ nodes_0 ∧ nodes_0 ≤ 24) (kz_0_1 : 0 ≤ edges_0 ∧ edges_0 ≤ 48) (kz_0_2 : 0 ≤ groups_0 ∧ groups_0 ≤ 8) : x11 = x12 := by
  subst fe_0_1_1
  subst fe_0_2_1
  subst fe_0_0_2
  subst fe_0_1_2
  subst fe_0_2_2
  subst fe_0_0_3
  subst fe_0_1_3
  subst fe_0_2_3
  subst fe_0_0_4
  subst fe_0_1_4
  subst fe_0_2_4
  subst fe_0_0_5
  subst fe_0_1_5
  have e_hE_0_4_1 := funext hE_0_4_1; subst e_hE_0_4_1
  have e_hE_0_4_2 := funext hE_0_4_2; subst e_hE_0_4_2
  have e_hE_0_4_3 := funext hE_0_4_3; subst e_hE_0_4_3
  have e_hE_0_4_4 := funext hE_0_4_4; subst e_hE_0_4_4
  have e_hE_0_5_1 := funext hE_0_5_1; subst e_hE_0_5_1
  have e_hE_0_5_2 := funext hE_0_5_2; subst e_hE_0_5_2
  have e_hE_0_5_3 := funext hE_0_5_3; subst e_hE_0_5_3
  have e_hE_0_5_5 := funext hE_0_5_5; subst e_hE_0_5_5
  have e_hE_0_6_1 := funext hE_0_6_1; subst e_hE_0_6_1
  have e_hE_0_6_2 := funext hE_0_6_2; subst e_hE_0_6_2
  have e_hE_0_6_4 := funext hE_0_6_4; subst e_hE_0_6_4
  have e_hE_0_6_5 := funext hE_0_6_5; subst e_hE_0_6_5
  have e_hE_0_7_1 := funext hE_0_7_1; subst e_hE_0_7_1
  have e_hE_0_7_2 := funext hE_0_7_2; subst e_hE_0_7_2
  have e_hE_0_7_3 := funext hE_0_7_3; subst e_hE_0_7_3
  have e_hE_0_7_4 := funext hE_0_7_4; subst e_hE_0_7_4
  have e_hE_0_7_5 := funext hE_0_7_5; subst e_hE_0_7_5
  have e_hE_0_8_1 := funext hE_0_8_1; subst e_hE_0_8_1
  have e_hE_0_8_2 := funext hE_0_8_2; subst e_hE_0_8_2
  have e_hE_0_8_3 := funext hE_0_8_3; subst e_hE_0_8_3
  have e_hE_0_8_4 := funext hE_0_8_4; subst e_hE_0_8_4
  have e_hE_0_8_5 := funext hE_0_8_5; subst e_hE_0_8_5
  have e_hE_0_14_1 := funext hE_0_14_1; subst e_hE_0_14_1
  have e_hE_0_14_3 := funext hE_0_14_3; subst e_hE_0_14_3
  have e_hE_0_14_4 := funext hE_0_14_4; subst e_hE_0_14_4
  have e_hE_0_14_5 := funext hE_0_14_5; subst e_hE_0_14_5
  have e_hE_1_999_1 := funext hE_1_999_1; subst e_hE_1_999_1
  have e_hE_1_999_2 := funext hE_1_999_2; subst e_hE_1_999_2
  have e_hE_1_999_3 := funext hE_1_999_3; subst e_hE_1_999_3
  have e_hE_1_999_4 := funext hE_1_999_4; subst e_hE_1_999_4
  have e_hE_1_999_5 := funext hE_1_999_5; subst e_hE_1_999_5
  have e_hE_5_999_1 := funext hE_5_999_1; subst e_hE_5_999_1
  have e_hE_5_999_2 := funext hE_5_999_2; subst e_hE_5_999_2
  have e_hE_5_999_3 := funext hE_5_999_3; subst e_hE_5_999_3
  have e_hE_5_999_4 := funext hE_5_999_4; subst e_hE_5_999_4
  have e_hE_5_999_5 := funext hE_5_999_5; subst e_hE_5_999_5
  first
    | omega
  
set_option maxHeartbeats 4000000 in
theorem vc_Gr_addNode_at_Gq_Retape_1_4 (x2 : Int) (x3 : Int) (x9 : Int) (x10 : Int) (x11 : Int) (x12 : Int) (x13 : Int) (x15 : Int) (x17 : Int) (x18 : Int) (x25 : Int) (nodes_0 : Int) (edges_0 : Int) (groups_0 : Int) (a5_0 : Int → Int) (a1_0 : Int → Int) (nodes_1 : Int) (tail_1 : Int → Int) (head_1 : Int → Int) (edges_1 : Int) (a5_1 : Int → Int) (a1_1 : Int → Int) (nodes_2 : Int) (near_2 : Int → Int) (tail_2 : Int → Int) (head_2 : Int → Int) (edges_2 : Int) (a5_2 : Int → Int) (a1_2 : Int → Int) (nodes_3 : Int) (near_3 : Int → Int) (tail_3 : Int → Int) (head_3 : Int → Int) (edges_3 : Int) (a5_3 : Int → Int) (a1_3 : Int → Int) (nodes_4 : Int) (near_4 : Int → Int) (tail_4 : Int → Int) (head_4 : Int → Int) (edges_4 : Int) (a5_4 : Int → Int) (a1_4 : Int → Int) (nameLength_5 : Int → Int) (tail_5 : Int → Int) (head_5 : Int → Int) (a1_5 : Int → Int) (nodes_5 : Int) (near_5 : Int → Int) (edges_5 : Int) (a5_5 : Int → Int) (groups_1 : Int) (groups_2 : Int) (groups_3 : Int) (groups_4 : Int) (nameLength_0 : Int → Int) (nameLength_1 : Int → Int) (nameLength_2 : Int → Int) (nameLength_3 : Int → Int) (nameLength_4 : Int → Int) (size_0 : Int → Int) (size_1 : Int → Int) (size_2 : Int → Int) (size_3 : Int → Int) (size_4 : Int → Int) (size_5 : Int → Int) (groupOf_0 : Int → Int) (groupOf_1 : Int → Int) (groupOf_2 : Int → Int) (groupOf_3 : Int → Int) (groupOf_4 : Int → Int) (groupOf_5 : Int → Int) (tail_0 : Int → Int) (head_0 : Int → Int) (near_0 : Int → Int) (near_1 : Int → Int) (k2 : 0 ≤ x2 ∧ x2 ≤ 2000) (k3 : 0 ≤ x3 ∧ x3 ≤ 8) (k9 : 0 ≤ x9 ∧ x9 ≤ 48) (k10 : 0 ≤ x10 ∧ x10 ≤ 8) (k11 : 0 ≤ x11 ∧ x11 ≤ 23) (k12 : 0 ≤ x12 ∧ x12 ≤ 24) (k13 : 0 ≤ x13 ∧ x13 ≤ 2000) (k15 : 0 ≤ x15 ∧ x15 ≤ 184) (k17 : 0 ≤ x17 ∧ x17 ≤ 2000) (k18 : 0 ≤ x18 ∧ x18 ≤ 24) (k25 : 1 ≤ x25 ∧ x25 ≤ 24) (g0 : x25 = nodes_0) (g7 : x9 = edges_0) (g8 : x10 = groups_0) (f11 : 1 * x17 + ((-1) * x13 + 0) ≤ 0) (f12 : (-1) * x17 + (1 * x13 + 0) ≤ 0) (g17 : x11 = nodes_1) (f61 : CANq (nameLength_5) (tail_5) (head_5) (a1_5) (x2) (x3) (x13) (x12) (x9) (x10)) (f67 : nodes_5 = x12) (f71 : CN2 (a5_5) (a1_5) (a1_5) (x2) (x15) (x3) (x17) (x18)) (fe_0_1_1 : edges_0 = edges_1) (fe_0_2_1 : groups_0 = groups_1) (fe_0_0_2 : nodes_1 = nodes_2) (fe_0_1_2 : edges_1 = edges_2) (fe_0_2_2 : groups_1 = groups_2) (fe_0_0_3 : nodes_2 = nodes_3) (fe_0_1_3 : edges_2 = edges_3) (fe_0_2_3 : groups_2 = groups_3) (fe_0_0_4 : nodes_3 = nodes_4) (fe_0_1_4 : edges_3 = edges_4) (fe_0_2_4 : groups_3 = groups_4) (fe_0_0_5 : nodes_4 = nodes_5) (fe_0_1_5 : edges_4 = edges_5) (hE_0_4_1 : ∀ j : Int, nameLength_0 j = nameLength_1 j) (hE_0_4_2 : ∀ j : Int, nameLength_1 j = nameLength_2 j) (hE_0_4_3 : ∀ j : Int, nameLength_2 j = nameLength_3 j) (hE_0_4_4 : ∀ j : Int, nameLength_3 j = nameLength_4 j) (hE_0_4_5 : ∀ j : Int, 0 ≤ j → (j = x11 → nameLength_4 j = x3) ∧ (j ≠ x11 → nameLength_4 j = nameLength_5 j)) (hE_0_5_1 : ∀ j : Int, size_0 j = size_1 j) (hE_0_5_2 : ∀ j : Int, size_1 j = size_2 j) (hE_0_5_3 : ∀ j : Int, size_2 j = size_3 j) (hE_0_5_5 : ∀ j : Int, size_4 j = size_5 j) (hE_0_6_1 : ∀ j : Int, groupOf_0 j = groupOf_1 j) (hE_0_6_2 : ∀ j : Int, groupOf_1 j = groupOf_2 j) (hE_0_6_4 : ∀ j : Int, groupOf_3 j = groupOf_4 j) (hE_0_6_5 : ∀ j : Int, groupOf_4 j = groupOf_5 j) (hE_0_7_1 : ∀ j : Int, tail_0 j = tail_1 j) (hE_0_7_2 : ∀ j : Int, tail_1 j = tail_2 j) (hE_0_7_3 : ∀ j : Int, tail_2 j = tail_3 j) (hE_0_7_4 : ∀ j : Int, tail_3 j = tail_4 j) (hE_0_7_5 : ∀ j : Int, tail_4 j = tail_5 j) (hE_0_8_1 : ∀ j : Int, head_0 j = head_1 j) (hE_0_8_2 : ∀ j : Int, head_1 j = head_2 j) (hE_0_8_3 : ∀ j : Int, head_2 j = head_3 j) (hE_0_8_4 : ∀ j : Int, head_3 j = head_4 j) (hE_0_8_5 : ∀ j : Int, head_4 j = head_5 j) (hE_0_14_1 : ∀ j : Int, near_0 j = near_1 j) (hE_0_14_3 : ∀ j : Int, near_2 j = near_3 j) (hE_0_14_4 : ∀ j : Int, near_3 j = near_4 j) (hE_0_14_5 : ∀ j : Int, near_4 j = near_5 j) (hE_1_999_1 : ∀ j : Int, a1_0 j = a1_1 j) (hE_1_999_2 : ∀ j : Int, a1_1 j = a1_2 j) (hE_1_999_3 : ∀ j : Int, a1_2 j = a1_3 j) (hE_1_999_4 : ∀ j : Int, a1_3 j = a1_4 j) (hE_1_999_5 : ∀ j : Int, a1_4 j = a1_5 j) (hE_5_999_1 : ∀ j : Int, a5_0 j = a5_1 j) (hE_5_999_2 : ∀ j : Int, a5_1 j = a5_2 j) (hE_5_999_3 : ∀ j : Int, a5_2 j = a5_3 j) (hE_5_999_4 : ∀ j : Int, a5_3 j = a5_4 j) (hE_5_999_5 : ∀ j : Int, a5_4 j = a5_5 j) (kz_0_0 : 0 ≤ nodes_0 ∧ nodes_0 ≤ 24) (kz_0_1 : 0 ≤ edges_0 ∧ edges_0 ≤ 48) (kz_0_2 : 0 ≤ groups_0 ∧ groups_0 ≤ 8) : CGMp (nameLength_0) (a5_0) (tail_0) (head_0) (a1_0) (x2) (x3) (x13) (x11) (x12) (x9) (x10) := by
  subst fe_0_1_1
  subst fe_0_2_1
  subst fe_0_0_2
  subst fe_0_1_2
  subst fe_0_2_2
  subst fe_0_0_3
  subst fe_0_1_3
  subst fe_0_2_3
  subst fe_0_0_4
  subst fe_0_1_4
  subst fe_0_2_4
  subst fe_0_0_5
  subst fe_0_1_5
  have e_hE_0_4_1 := funext hE_0_4_1; subst e_hE_0_4_1
  have e_hE_0_4_2 := funext hE_0_4_2; subst e_hE_0_4_2
  have e_hE_0_4_3 := funext hE_0_4_3; subst e_hE_0_4_3
  have e_hE_0_4_4 := funext hE_0_4_4; subst e_hE_0_4_4
  have e_hE_0_5_1 := funext hE_0_5_1; subst e_hE_0_5_1
  have e_hE_0_5_2 := funext hE_0_5_2; subst e_hE_0_5_2
  have e_hE_0_5_3 := funext hE_0_5_3; subst e_hE_0_5_3
  have e_hE_0_5_5 := funext hE_0_5_5; subst e_hE_0_5_5
  have e_hE_0_6_1 := funext hE_0_6_1; subst e_hE_0_6_1
  have e_hE_0_6_2 := funext hE_0_6_2; subst e_hE_0_6_2
  have e_hE_0_6_4 := funext hE_0_6_4; subst e_hE_0_6_4
  have e_hE_0_6_5 := funext hE_0_6_5; subst e_hE_0_6_5
  have e_hE_0_7_1 := funext hE_0_7_1; subst e_hE_0_7_1
  have e_hE_0_7_2 := funext hE_0_7_2; subst e_hE_0_7_2
  have e_hE_0_7_3 := funext hE_0_7_3; subst e_hE_0_7_3
  have e_hE_0_7_4 := funext hE_0_7_4; subst e_hE_0_7_4
  have e_hE_0_7_5 := funext hE_0_7_5; subst e_hE_0_7_5
  have e_hE_0_8_1 := funext hE_0_8_1; subst e_hE_0_8_1
  have e_hE_0_8_2 := funext hE_0_8_2; subst e_hE_0_8_2
  have e_hE_0_8_3 := funext hE_0_8_3; subst e_hE_0_8_3
  have e_hE_0_8_4 := funext hE_0_8_4; subst e_hE_0_8_4
  have e_hE_0_8_5 := funext hE_0_8_5; subst e_hE_0_8_5
  have e_hE_0_14_1 := funext hE_0_14_1; subst e_hE_0_14_1
  have e_hE_0_14_3 := funext hE_0_14_3; subst e_hE_0_14_3
  have e_hE_0_14_4 := funext hE_0_14_4; subst e_hE_0_14_4
  have e_hE_0_14_5 := funext hE_0_14_5; subst e_hE_0_14_5
  have e_hE_1_999_1 := funext hE_1_999_1; subst e_hE_1_999_1
  have e_hE_1_999_2 := funext hE_1_999_2; subst e_hE_1_999_2
  have e_hE_1_999_3 := funext hE_1_999_3; subst e_hE_1_999_3
  have e_hE_1_999_4 := funext hE_1_999_4; subst e_hE_1_999_4
  have e_hE_1_999_5 := funext hE_1_999_5; subst e_hE_1_999_5
  have e_hE_5_999_1 := funext hE_5_999_1; subst e_hE_5_999_1
  have e_hE_5_999_2 := funext hE_5_999_2; subst e_hE_5_999_2
  have e_hE_5_999_3 := funext hE_5_999_3; subst e_hE_5_999_3
  have e_hE_5_999_4 := funext hE_5_999_4; subst e_hE_5_999_4
  have e_hE_5_999_5 := funext hE_5_999_5; subst e_hE_5_999_5
  first | subst g0 | skip
  first | subst g7 | skip
  first | subst g8 | skip
  first | subst g17 | skip
  exact mt_new ‹CN2 _ _ _ _ _ _ _ _› (by omega) ‹CANq _ _ _ _ _ _ _ _ _ _› (by assumption) (by omega) (by omega) (by omega)
def o_Gr_addNode_at_Gq_Retape_1 : or_T := (66, 26, [(0, (2, 0, 0, [164])), (1, (2, 0, 0, [109])), (2, (0, 0, 2000, [])), (3, (0, 0, 8, [])), (5, (2, 0, 0, [150])), (6, (2, 0, 0, [151])), (9, (0, 0, 48, [])), (10, (0, 0, 8, [])), (11, (0, 0, 23, [])), (12, (0, 0, 24, [])), (13, (0, 0, 2000, [])), (15, (0, 0, 184, [])), (17, (0, 0, 2000, [])), (18, (0, 0, 24, [])), (19, (2, 0, 0, [152])), (21, (2, 0, 0, [153])), (22, (2, 0, 0, [161])), (23, (0, 0, 0, [])), (25, (0, 1, 24, []))], [(9, [25, 0], [0]), (9, [22, 0], [14]), (9, [6, 0], [4]), (9, [7, 0], [7]), (9, [8, 0], [8]), (9, [9, 0], [1]), (9, [10, 0], [2]), (24, [1, 16], []), (23, [17, 13], [0, 1, -1]), (23, [17, 13], [0, -1, 1]), (101, [0, 25], [0]), (9, [11, 0], [0]), (20, [0, 12], [50, 1, 0, 0, 1, 3, 2, 0, 0, 1, 1]), (100, [22, 11, 23], []), (100, [21, 11, 4], []), (100, [19, 11, 20], []), (100, [6, 11, 3], []), (20, [6, 7, 8, 1, 2, 3, 13, 12, 9, 10], [61, 4, 1096]), (20, [0, 12], [50, 1, 0, 0, 1, 3, 2, 0, 0, 1, 1]), (20, [0], [50, 1, 0, 0, 0, 3, 2, 0, 0, 0, 23]), (20, [0], [60, 2, 3, 670, 0, 1, 14, 7, 8]), (20, [0], [60, 2, 2, 596, 0, 1, 7, 8]), (20, [5, 1, 16, 2, 15, 3, 17, 18], [61, 3, 1095])], [], [], [(20, [0], [60, 2, 3, 670, 0, 1, 14, 7, 8]), (20, [0], [60, 2, 2, 596, 0, 1, 7, 8]), (20, [0, 12], [50, 1, 0, 0, 1, 3, 2, 0, 0, 4, 2, 1, 1, 0, 1]), (20, [11, 12], [50, 0, 0, 1, 2, 1, 0, 1, 1]), (20, [6, 5, 7, 8, 1, 2, 3, 13, 11, 12, 9, 10], [61, 5, 1093])], [], [(25, 11, 1, 1)])
theorem oo_Gr_addNode_at_Gq_Retape_1 {kA : Nat → ClassId} : or_ok PRD kA GG o_Gr_addNode_at_Gq_Retape_1 := by
  refine or_mk fun A ta ws vs hD hth hl => ?_
  intro t0 r0 t1 r1 t2 k2 t3 k3 t5 r5 t6 r6 t9 k9 t10 k10 t11 k11 t12 k12 t13 k13 t15 k15 t17 k17 t18 k18 t19 r19 t21 r21 t22 r22 t23 k23 t25 k25 d0 f0 f1 f4 f5 f6 f7 f8 f10 f11 f12 ta1 w1 le1 s1 f17 f23 ta2 w2 le2 s2 ta3 w3 le3 s3 ta4 w4 le4 s4 ta5 w5 le5 s5 f61 f67 f68 f69 f70 f71
  replace f0 := shm_163 f0
  replace f1 := shm_115 f1
  replace f4 := shm_108 f4
  replace f5 := shm_198 f5
  replace f6 := shm_293 f6
  replace f7 := shm_215 f7
  replace f8 := shm_120 f8
  replace f10 := shm_5 f10
  replace f11 := shm_7 f11
  replace f12 := shm_22 f12
  have s1 : (∀ b j, w_el ws b j = w_el w1 b j) ∧ ∀ b j, w_fd ws b j = if b = v_ad (n_v vs 0) ∧ j = 0 then n_v vs 25 else w_fd w1 b j := s1.2
  replace f17 := shm_163 f17
  replace f23 := shm_570 f23
  have s2 : (∀ b j, w_el w1 b j = if b = v_ad (n_v vs 22) ∧ j = (v_iv (n_v vs 11)).toNat then v_iv (n_v vs 23) else w_el w2 b j) ∧ ∀ b k, w_fd w1 b k = w_fd w2 b k := s2.2
  have s3 : (∀ b j, w_el w2 b j = if b = v_ad (n_v vs 21) ∧ j = (v_iv (n_v vs 11)).toNat then v_iv (n_v vs 4) else w_el w3 b j) ∧ ∀ b k, w_fd w2 b k = w_fd w3 b k := s3.2
  have s4 : (∀ b j, w_el w3 b j = if b = v_ad (n_v vs 19) ∧ j = (v_iv (n_v vs 11)).toNat then v_iv (n_v vs 20) else w_el w4 b j) ∧ ∀ b k, w_fd w3 b k = w_fd w4 b k := s4.2
  have s5 : (∀ b j, w_el w4 b j = if b = v_ad (n_v vs 6) ∧ j = (v_iv (n_v vs 11)).toNat then v_iv (n_v vs 3) else w_el w5 b j) ∧ ∀ b k, w_fd w4 b k = w_fd w5 b k := s5.2
  replace f61 := shm_834 f61
  replace f67 := shm_570 f67
  replace f68 := shm_832 f68
  replace f69 := shm_825 f69
  replace f70 := shm_386 f70
  replace f71 := shm_838 f71
  have q16 : n_v vs 16 = n_v vs 1 := f10.symm
  simp only [q16] at f71
  have cr_0_4 := fdq_67 hD hth r0
  have cr_0_5 := fdq_210 hD hth r0
  have cr_0_6 := fdq_211 hD hth r0
  have ar_0_7_1 : w_ar w1 (n_v vs 0) 7 = w_ar ws (n_v vs 0) 7 := by show v_ad (w_fd w1 _ _) = v_ad (w_fd ws _ _); rw [s1.2, if_neg (fun e => absurd e.2 (by decide))]
  have ar_0_7_2 : w_ar w2 (n_v vs 0) 7 = w_ar ws (n_v vs 0) 7 := by rw [← ar_0_7_1]; show v_ad (w_fd w2 _ _) = v_ad (w_fd w1 _ _); rw [s2.2]
  have ar_0_7_3 : w_ar w3 (n_v vs 0) 7 = w_ar ws (n_v vs 0) 7 := by rw [← ar_0_7_2]; show v_ad (w_fd w3 _ _) = v_ad (w_fd w2 _ _); rw [s3.2]
  have ar_0_7_4 : w_ar w4 (n_v vs 0) 7 = w_ar ws (n_v vs 0) 7 := by rw [← ar_0_7_3]; show v_ad (w_fd w4 _ _) = v_ad (w_fd w3 _ _); rw [s4.2]
  have ar_0_7_5 : w_ar w5 (n_v vs 0) 7 = w_ar ws (n_v vs 0) 7 := by rw [← ar_0_7_4]; show v_ad (w_fd w5 _ _) = v_ad (w_fd w4 _ _); rw [s5.2]
  have cr_0_7 := fdq_70 hD hth r0
  have ar_0_8_1 : w_ar w1 (n_v vs 0) 8 = w_ar ws (n_v vs 0) 8 := by show v_ad (w_fd w1 _ _) = v_ad (w_fd ws _ _); rw [s1.2, if_neg (fun e => absurd e.2 (by decide))]
  have ar_0_8_2 : w_ar w2 (n_v vs 0) 8 = w_ar ws (n_v vs 0) 8 := by rw [← ar_0_8_1]; show v_ad (w_fd w2 _ _) = v_ad (w_fd w1 _ _); rw [s2.2]
  have ar_0_8_3 : w_ar w3 (n_v vs 0) 8 = w_ar ws (n_v vs 0) 8 := by rw [← ar_0_8_2]; show v_ad (w_fd w3 _ _) = v_ad (w_fd w2 _ _); rw [s3.2]
  have ar_0_8_4 : w_ar w4 (n_v vs 0) 8 = w_ar ws (n_v vs 0) 8 := by rw [← ar_0_8_3]; show v_ad (w_fd w4 _ _) = v_ad (w_fd w3 _ _); rw [s4.2]
  have ar_0_8_5 : w_ar w5 (n_v vs 0) 8 = w_ar ws (n_v vs 0) 8 := by rw [← ar_0_8_4]; show v_ad (w_fd w5 _ _) = v_ad (w_fd w4 _ _); rw [s5.2]
  have cr_0_8 := fdq_71 hD hth r0
  have ar_0_14_1 : w_ar w1 (n_v vs 0) 14 = w_ar ws (n_v vs 0) 14 := by show v_ad (w_fd w1 _ _) = v_ad (w_fd ws _ _); rw [s1.2, if_neg (fun e => absurd e.2 (by decide))]
  have ar_0_14_2 : w_ar w2 (n_v vs 0) 14 = w_ar ws (n_v vs 0) 14 := by rw [← ar_0_14_1]; show v_ad (w_fd w2 _ _) = v_ad (w_fd w1 _ _); rw [s2.2]
  have ar_0_14_3 : w_ar w3 (n_v vs 0) 14 = w_ar ws (n_v vs 0) 14 := by rw [← ar_0_14_2]; show v_ad (w_fd w3 _ _) = v_ad (w_fd w2 _ _); rw [s3.2]
  have ar_0_14_4 : w_ar w4 (n_v vs 0) 14 = w_ar ws (n_v vs 0) 14 := by rw [← ar_0_14_3]; show v_ad (w_fd w4 _ _) = v_ad (w_fd w3 _ _); rw [s4.2]
  have ar_0_14_5 : w_ar w5 (n_v vs 0) 14 = w_ar ws (n_v vs 0) 14 := by rw [← ar_0_14_4]; show v_ad (w_fd w5 _ _) = v_ad (w_fd w4 _ _); rw [s5.2]
  have cr_0_14 := fdq_72 hD hth r0
  have cr_1_999 : ta (v_ad (n_v vs 1)) = some 109 := r1
  have cr_5_999 : ta (v_ad (n_v vs 5)) = some 150 := r5
  have ad_22 : v_ad (n_v vs 22) = w_ar ws (n_v vs 0) 14 := congrArg v_ad f1
  have ad_6 : v_ad (n_v vs 6) = w_ar ws (n_v vs 0) 4 := congrArg v_ad f4
  have ad_7 : v_ad (n_v vs 7) = w_ar ws (n_v vs 0) 7 := congrArg v_ad f5
  have ad_8 : v_ad (n_v vs 8) = w_ar ws (n_v vs 0) 8 := congrArg v_ad f6
  have g0 : v_iv (n_v vs 25) = w_fi ws (n_v vs 0) 0 := congrArg v_iv f0
  have g7 : v_iv (n_v vs 9) = w_fi ws (n_v vs 0) 1 := congrArg v_iv f7
  have g8 : v_iv (n_v vs 10) = w_fi ws (n_v vs 0) 2 := congrArg v_iv f8
  have g17 : v_iv (n_v vs 11) = w_fi w1 (n_v vs 0) 0 := congrArg v_iv f17
  simp only [ar_0_7_1, ar_0_8_1, ar_0_7_2, ar_0_8_2, ar_0_14_2, ar_0_7_3, ar_0_8_3, ar_0_14_3, ar_0_7_4, ar_0_8_4, ar_0_14_4, ad_6, ad_7, ad_8, ar_0_7_5, ar_0_8_5, ar_0_14_5] at f61 f69 f70
  have fe_0_1_1 : w_fi ws (n_v vs 0) 1 = w_fi w1 (n_v vs 0) 1 := by show v_iv (w_fd _ _ _) = v_iv (w_fd _ _ _); rw [s1.2, if_neg (fun e => absurd e.2 (by decide))]
  have fe_0_2_1 : w_fi ws (n_v vs 0) 2 = w_fi w1 (n_v vs 0) 2 := by show v_iv (w_fd _ _ _) = v_iv (w_fd _ _ _); rw [s1.2, if_neg (fun e => absurd e.2 (by decide))]
  have fe_0_0_2 : w_fi w1 (n_v vs 0) 0 = w_fi w2 (n_v vs 0) 0 := congrArg v_iv (s2.2 _ _)
  have fe_0_1_2 : w_fi w1 (n_v vs 0) 1 = w_fi w2 (n_v vs 0) 1 := congrArg v_iv (s2.2 _ _)
  have fe_0_2_2 : w_fi w1 (n_v vs 0) 2 = w_fi w2 (n_v vs 0) 2 := congrArg v_iv (s2.2 _ _)
  have fe_0_0_3 : w_fi w2 (n_v vs 0) 0 = w_fi w3 (n_v vs 0) 0 := congrArg v_iv (s3.2 _ _)
  have fe_0_1_3 : w_fi w2 (n_v vs 0) 1 = w_fi w3 (n_v vs 0) 1 := congrArg v_iv (s3.2 _ _)
  have fe_0_2_3 : w_fi w2 (n_v vs 0) 2 = w_fi w3 (n_v vs 0) 2 := congrArg v_iv (s3.2 _ _)
  have fe_0_0_4 : w_fi w3 (n_v vs 0) 0 = w_fi w4 (n_v vs 0) 0 := congrArg v_iv (s4.2 _ _)
  have fe_0_1_4 : w_fi w3 (n_v vs 0) 1 = w_fi w4 (n_v vs 0) 1 := congrArg v_iv (s4.2 _ _)
  have fe_0_2_4 : w_fi w3 (n_v vs 0) 2 = w_fi w4 (n_v vs 0) 2 := congrArg v_iv (s4.2 _ _)
  have fe_0_0_5 : w_fi w4 (n_v vs 0) 0 = w_fi w5 (n_v vs 0) 0 := congrArg v_iv (s5.2 _ _)
  have fe_0_1_5 : w_fi w4 (n_v vs 0) 1 = w_fi w5 (n_v vs 0) 1 := congrArg v_iv (s5.2 _ _)
  have hE_0_4_1 : ∀ j : Int, w_ei ws (w_ar ws (n_v vs 0) 4) j = w_ei w1 (w_ar ws (n_v vs 0) 4) j := fun j => s1.1 _ _
  have hE_0_4_2 : ∀ j : Int, w_ei w1 (w_ar ws (n_v vs 0) 4) j = w_ei w2 (w_ar ws (n_v vs 0) 4) j := el_kp s2.1 r22 cr_0_4 (by decide)
  have hE_0_4_3 : ∀ j : Int, w_ei w2 (w_ar ws (n_v vs 0) 4) j = w_ei w3 (w_ar ws (n_v vs 0) 4) j := el_kp s3.1 r21 cr_0_4 (by decide)
  have hE_0_4_4 : ∀ j : Int, w_ei w3 (w_ar ws (n_v vs 0) 4) j = w_ei w4 (w_ar ws (n_v vs 0) 4) j := el_kp s4.1 r19 cr_0_4 (by decide)
  have hE_0_4_5 : ∀ j : Int, 0 ≤ j → (j = v_iv (n_v vs 11) → w_ei w4 (w_ar ws (n_v vs 0) 4) j = v_iv (n_v vs 3)) ∧ (j ≠ v_iv (n_v vs 11) → w_ei w4 (w_ar ws (n_v vs 0) 4) j = w_ei w5 (w_ar ws (n_v vs 0) 4) j) := fun j hj => ⟨fun h => by unfold w_ei; rw [s5.1, if_pos ⟨ad_6.symm, by rw [h]⟩], fun h => by unfold w_ei; rw [s5.1, if_neg (fun e => h (by have := e.2; omega))]⟩
  have hE_0_5_1 : ∀ j : Int, w_ei ws (w_ar ws (n_v vs 0) 5) j = w_ei w1 (w_ar ws (n_v vs 0) 5) j := fun j => s1.1 _ _
  have hE_0_5_2 : ∀ j : Int, w_ei w1 (w_ar ws (n_v vs 0) 5) j = w_ei w2 (w_ar ws (n_v vs 0) 5) j := el_kp s2.1 r22 cr_0_5 (by decide)
  have hE_0_5_3 : ∀ j : Int, w_ei w2 (w_ar ws (n_v vs 0) 5) j = w_ei w3 (w_ar ws (n_v vs 0) 5) j := el_kp s3.1 r21 cr_0_5 (by decide)
  have hE_0_5_5 : ∀ j : Int, w_ei w4 (w_ar ws (n_v vs 0) 5) j = w_ei w5 (w_ar ws (n_v vs 0) 5) j := el_kp s5.1 r6 cr_0_5 (by decide)
  have hE_0_6_1 : ∀ j : Int, w_ei ws (w_ar ws (n_v vs 0) 6) j = w_ei w1 (w_ar ws (n_v vs 0) 6) j := fun j => s1.1 _ _
  have hE_0_6_2 : ∀ j : Int, w_ei w1 (w_ar ws (n_v vs 0) 6) j = w_ei w2 (w_ar ws (n_v vs 0) 6) j := el_kp s2.1 r22 cr_0_6 (by decide)
  have hE_0_6_4 : ∀ j : Int, w_ei w3 (w_ar ws (n_v vs 0) 6) j = w_ei w4 (w_ar ws (n_v vs 0) 6) j := el_kp s4.1 r19 cr_0_6 (by decide)
  have hE_0_6_5 : ∀ j : Int, w_ei w4 (w_ar ws (n_v vs 0) 6) j = w_ei w5 (w_ar ws (n_v vs 0) 6) j := el_kp s5.1 r6 cr_0_6 (by decide)
  have hE_0_7_1 : ∀ j : Int, w_ei ws (w_ar ws (n_v vs 0) 7) j = w_ei w1 (w_ar ws (n_v vs 0) 7) j := fun j => s1.1 _ _
  have hE_0_7_2 : ∀ j : Int, w_ei w1 (w_ar ws (n_v vs 0) 7) j = w_ei w2 (w_ar ws (n_v vs 0) 7) j := el_kp s2.1 r22 cr_0_7 (by decide)
  have hE_0_7_3 : ∀ j : Int, w_ei w2 (w_ar ws (n_v vs 0) 7) j = w_ei w3 (w_ar ws (n_v vs 0) 7) j := el_kp s3.1 r21 cr_0_7 (by decide)
  have hE_0_7_4 : ∀ j : Int, w_ei w3 (w_ar ws (n_v vs 0) 7) j = w_ei w4 (w_ar ws (n_v vs 0) 7) j := el_kp s4.1 r19 cr_0_7 (by decide)
  have hE_0_7_5 : ∀ j : Int, w_ei w4 (w_ar ws (n_v vs 0) 7) j = w_ei w5 (w_ar ws (n_v vs 0) 7) j := el_kp s5.1 r6 cr_0_7 (by decide)
  have hE_0_8_1 : ∀ j : Int, w_ei ws (w_ar ws (n_v vs 0) 8) j = w_ei w1 (w_ar ws (n_v vs 0) 8) j := fun j => s1.1 _ _
  have hE_0_8_2 : ∀ j : Int, w_ei w1 (w_ar ws (n_v vs 0) 8) j = w_ei w2 (w_ar ws (n_v vs 0) 8) j := el_kp s2.1 r22 cr_0_8 (by decide)
  have hE_0_8_3 : ∀ j : Int, w_ei w2 (w_ar ws (n_v vs 0) 8) j = w_ei w3 (w_ar ws (n_v vs 0) 8) j := el_kp s3.1 r21 cr_0_8 (by decide)
  have hE_0_8_4 : ∀ j : Int, w_ei w3 (w_ar ws (n_v vs 0) 8) j = w_ei w4 (w_ar ws (n_v vs 0) 8) j := el_kp s4.1 r19 cr_0_8 (by decide)
  have hE_0_8_5 : ∀ j : Int, w_ei w4 (w_ar ws (n_v vs 0) 8) j = w_ei w5 (w_ar ws (n_v vs 0) 8) j := el_kp s5.1 r6 cr_0_8 (by decide)
  have hE_0_14_1 : ∀ j : Int, w_ei ws (w_ar ws (n_v vs 0) 14) j = w_ei w1 (w_ar ws (n_v vs 0) 14) j := fun j => s1.1 _ _
  have hE_0_14_2 : ∀ j : Int, 0 ≤ j → (j = v_iv (n_v vs 11) → w_ei w1 (w_ar ws (n_v vs 0) 14) j = v_iv (n_v vs 23)) ∧ (j ≠ v_iv (n_v vs 11) → w_ei w1 (w_ar ws (n_v vs 0) 14) j = w_ei w2 (w_ar ws (n_v vs 0) 14) j) := fun j hj => ⟨fun h => by unfold w_ei; rw [s2.1, if_pos ⟨ad_22.symm, by rw [h]⟩], fun h => by unfold w_ei; rw [s2.1, if_neg (fun e => h (by have := e.2; omega))]⟩
  have hE_0_14_3 : ∀ j : Int, w_ei w2 (w_ar ws (n_v vs 0) 14) j = w_ei w3 (w_ar ws (n_v vs 0) 14) j := el_kp s3.1 r21 cr_0_14 (by decide)
  have hE_0_14_4 : ∀ j : Int, w_ei w3 (w_ar ws (n_v vs 0) 14) j = w_ei w4 (w_ar ws (n_v vs 0) 14) j := el_kp s4.1 r19 cr_0_14 (by decide)
  have hE_0_14_5 : ∀ j : Int, w_ei w4 (w_ar ws (n_v vs 0) 14) j = w_ei w5 (w_ar ws (n_v vs 0) 14) j := el_kp s5.1 r6 cr_0_14 (by decide)
  have hE_1_999_1 : ∀ j : Int, w_ei ws (v_ad (n_v vs 1)) j = w_ei w1 (v_ad (n_v vs 1)) j := fun j => s1.1 _ _
  have hE_1_999_2 : ∀ j : Int, w_ei w1 (v_ad (n_v vs 1)) j = w_ei w2 (v_ad (n_v vs 1)) j := el_kp s2.1 r22 cr_1_999 (by decide)
  have hE_1_999_3 : ∀ j : Int, w_ei w2 (v_ad (n_v vs 1)) j = w_ei w3 (v_ad (n_v vs 1)) j := el_kp s3.1 r21 cr_1_999 (by decide)
  have hE_1_999_4 : ∀ j : Int, w_ei w3 (v_ad (n_v vs 1)) j = w_ei w4 (v_ad (n_v vs 1)) j := el_kp s4.1 r19 cr_1_999 (by decide)
  have hE_1_999_5 : ∀ j : Int, w_ei w4 (v_ad (n_v vs 1)) j = w_ei w5 (v_ad (n_v vs 1)) j := el_kp s5.1 r6 cr_1_999 (by decide)
  have hE_5_999_1 : ∀ j : Int, w_ei ws (v_ad (n_v vs 5)) j = w_ei w1 (v_ad (n_v vs 5)) j := fun j => s1.1 _ _
  have hE_5_999_2 : ∀ j : Int, w_ei w1 (v_ad (n_v vs 5)) j = w_ei w2 (v_ad (n_v vs 5)) j := el_kp s2.1 r22 cr_5_999 (by decide)
  have hE_5_999_3 : ∀ j : Int, w_ei w2 (v_ad (n_v vs 5)) j = w_ei w3 (v_ad (n_v vs 5)) j := el_kp s3.1 r21 cr_5_999 (by decide)
  have hE_5_999_4 : ∀ j : Int, w_ei w3 (v_ad (n_v vs 5)) j = w_ei w4 (v_ad (n_v vs 5)) j := el_kp s4.1 r19 cr_5_999 (by decide)
  have hE_5_999_5 : ∀ j : Int, w_ei w4 (v_ad (n_v vs 5)) j = w_ei w5 (v_ad (n_v vs 5)) j := el_kp s5.1 r6 cr_5_999 (by decide)
  have kz_0_0 := fdq_73 hD hth r0
  have kz_0_1 := fdq_74 hD hth r0
  have kz_0_2 := fdq_206 hD hth r0
  have nf0 : fc_1 PRD (20, [0], [60, 2, 3, 670, 0, 1, 14, 7, 8]) ws (vs) := ⟨nf_in hl rfl, sgq_825 (vc_Gr_addNode_at_Gq_Retape_1_0 (v_iv (n_v vs 11)) (v_iv (n_v vs 23)) (v_iv (n_v vs 25)) (w_fi ws (n_v vs 0) 0) (w_fi ws (n_v vs 0) 1) (w_fi ws (n_v vs 0) 2) (w_ei ws (v_ad (n_v vs 5))) (w_ei ws (v_ad (n_v vs 1))) (w_fi w1 (n_v vs 0) 0) (w_ei w1 (w_ar ws (n_v vs 0) 7)) (w_ei w1 (w_ar ws (n_v vs 0) 8)) (w_fi w1 (n_v vs 0) 1) (w_ei w1 (v_ad (n_v vs 5))) (w_ei w1 (v_ad (n_v vs 1))) (w_fi w2 (n_v vs 0) 0) (w_ei w2 (w_ar ws (n_v vs 0) 14)) (w_ei w2 (w_ar ws (n_v vs 0) 7)) (w_ei w2 (w_ar ws (n_v vs 0) 8)) (w_fi w2 (n_v vs 0) 1) (w_ei w2 (v_ad (n_v vs 5))) (w_ei w2 (v_ad (n_v vs 1))) (w_fi w3 (n_v vs 0) 0) (w_ei w3 (w_ar ws (n_v vs 0) 14)) (w_ei w3 (w_ar ws (n_v vs 0) 7)) (w_ei w3 (w_ar ws (n_v vs 0) 8)) (w_fi w3 (n_v vs 0) 1) (w_ei w3 (v_ad (n_v vs 5))) (w_ei w3 (v_ad (n_v vs 1))) (w_fi w4 (n_v vs 0) 0) (w_ei w4 (w_ar ws (n_v vs 0) 14)) (w_ei w4 (w_ar ws (n_v vs 0) 7)) (w_ei w4 (w_ar ws (n_v vs 0) 8)) (w_fi w4 (n_v vs 0) 1) (w_ei w4 (v_ad (n_v vs 5))) (w_ei w4 (v_ad (n_v vs 1))) (w_ei w5 (w_ar ws (n_v vs 0) 7)) (w_ei w5 (w_ar ws (n_v vs 0) 8)) (w_ei w5 (v_ad (n_v vs 1))) (w_fi w5 (n_v vs 0) 0) (w_ei w5 (w_ar ws (n_v vs 0) 14)) (w_fi w5 (n_v vs 0) 1) (w_ei w5 (v_ad (n_v vs 5))) (w_fi w1 (n_v vs 0) 2) (w_fi w2 (n_v vs 0) 2) (w_fi w3 (n_v vs 0) 2) (w_fi w4 (n_v vs 0) 2) (w_ei ws (w_ar ws (n_v vs 0) 4)) (w_ei w1 (w_ar ws (n_v vs 0) 4)) (w_ei w2 (w_ar ws (n_v vs 0) 4)) (w_ei w3 (w_ar ws (n_v vs 0) 4)) (w_ei w4 (w_ar ws (n_v vs 0) 4)) (w_ei ws (w_ar ws (n_v vs 0) 5)) (w_ei w1 (w_ar ws (n_v vs 0) 5)) (w_ei w2 (w_ar ws (n_v vs 0) 5)) (w_ei w3 (w_ar ws (n_v vs 0) 5)) (w_ei w4 (w_ar ws (n_v vs 0) 5)) (w_ei w5 (w_ar ws (n_v vs 0) 5)) (w_ei ws (w_ar ws (n_v vs 0) 6)) (w_ei w1 (w_ar ws (n_v vs 0) 6)) (w_ei w2 (w_ar ws (n_v vs 0) 6)) (w_ei w3 (w_ar ws (n_v vs 0) 6)) (w_ei w4 (w_ar ws (n_v vs 0) 6)) (w_ei w5 (w_ar ws (n_v vs 0) 6)) (w_ei ws (w_ar ws (n_v vs 0) 7)) (w_ei ws (w_ar ws (n_v vs 0) 8)) (w_ei ws (w_ar ws (n_v vs 0) 14)) (w_ei w1 (w_ar ws (n_v vs 0) 14)) k11 k23 k25 d0 g0 g17 f68 f69 f70 fe_0_1_1 fe_0_2_1 fe_0_0_2 fe_0_1_2 fe_0_2_2 fe_0_0_3 fe_0_1_3 fe_0_2_3 fe_0_0_4 fe_0_1_4 fe_0_2_4 fe_0_0_5 fe_0_1_5 hE_0_4_1 hE_0_4_2 hE_0_4_3 hE_0_4_4 hE_0_5_1 hE_0_5_2 hE_0_5_3 hE_0_5_5 hE_0_6_1 hE_0_6_2 hE_0_6_4 hE_0_6_5 hE_0_7_1 hE_0_7_2 hE_0_7_3 hE_0_7_4 hE_0_7_5 hE_0_8_1 hE_0_8_2 hE_0_8_3 hE_0_8_4 hE_0_8_5 hE_0_14_1 hE_0_14_2 hE_0_14_3 hE_0_14_4 hE_0_14_5 hE_1_999_1 hE_1_999_2 hE_1_999_3 hE_1_999_4 hE_1_999_5 hE_5_999_1 hE_5_999_2 hE_5_999_3 hE_5_999_4 hE_5_999_5 kz_0_0 kz_0_1 kz_0_2)⟩
  have nf1 : fc_1 PRD (20, [0], [60, 2, 2, 596, 0, 1, 7, 8]) ws (vs) := ⟨nf_in hl rfl, sgq_386 (vc_Gr_addNode_at_Gq_Retape_1_1 (v_iv (n_v vs 11)) (v_iv (n_v vs 17)) (v_iv (n_v vs 25)) (w_fi ws (n_v vs 0) 0) (w_fi ws (n_v vs 0) 1) (w_fi ws (n_v vs 0) 2) (w_ei ws (v_ad (n_v vs 5))) (w_ei ws (v_ad (n_v vs 1))) (w_fi w1 (n_v vs 0) 0) (w_ei w1 (w_ar ws (n_v vs 0) 7)) (w_ei w1 (w_ar ws (n_v vs 0) 8)) (w_fi w1 (n_v vs 0) 1) (w_ei w1 (v_ad (n_v vs 5))) (w_ei w1 (v_ad (n_v vs 1))) (w_fi w2 (n_v vs 0) 0) (w_ei w2 (w_ar ws (n_v vs 0) 14)) (w_ei w2 (w_ar ws (n_v vs 0) 7)) (w_ei w2 (w_ar ws (n_v vs 0) 8)) (w_fi w2 (n_v vs 0) 1) (w_ei w2 (v_ad (n_v vs 5))) (w_ei w2 (v_ad (n_v vs 1))) (w_fi w3 (n_v vs 0) 0) (w_ei w3 (w_ar ws (n_v vs 0) 14)) (w_ei w3 (w_ar ws (n_v vs 0) 7)) (w_ei w3 (w_ar ws (n_v vs 0) 8)) (w_fi w3 (n_v vs 0) 1) (w_ei w3 (v_ad (n_v vs 5))) (w_ei w3 (v_ad (n_v vs 1))) (w_fi w4 (n_v vs 0) 0) (w_ei w4 (w_ar ws (n_v vs 0) 14)) (w_ei w4 (w_ar ws (n_v vs 0) 7)) (w_ei w4 (w_ar ws (n_v vs 0) 8)) (w_fi w4 (n_v vs 0) 1) (w_ei w4 (v_ad (n_v vs 5))) (w_ei w4 (v_ad (n_v vs 1))) (w_ei w5 (w_ar ws (n_v vs 0) 7)) (w_ei w5 (w_ar ws (n_v vs 0) 8)) (w_ei w5 (v_ad (n_v vs 1))) (w_fi w5 (n_v vs 0) 0) (w_ei w5 (w_ar ws (n_v vs 0) 14)) (w_fi w5 (n_v vs 0) 1) (w_ei w5 (v_ad (n_v vs 5))) (w_fi w1 (n_v vs 0) 2) (w_fi w2 (n_v vs 0) 2) (w_fi w3 (n_v vs 0) 2) (w_fi w4 (n_v vs 0) 2) (w_ei ws (w_ar ws (n_v vs 0) 4)) (w_ei w1 (w_ar ws (n_v vs 0) 4)) (w_ei w2 (w_ar ws (n_v vs 0) 4)) (w_ei w3 (w_ar ws (n_v vs 0) 4)) (w_ei w4 (w_ar ws (n_v vs 0) 4)) (w_ei ws (w_ar ws (n_v vs 0) 5)) (w_ei w1 (w_ar ws (n_v vs 0) 5)) (w_ei w2 (w_ar ws (n_v vs 0) 5)) (w_ei w3 (w_ar ws (n_v vs 0) 5)) (w_ei w4 (w_ar ws (n_v vs 0) 5)) (w_ei w5 (w_ar ws (n_v vs 0) 5)) (w_ei ws (w_ar ws (n_v vs 0) 6)) (w_ei w1 (w_ar ws (n_v vs 0) 6)) (w_ei w2 (w_ar ws (n_v vs 0) 6)) (w_ei w3 (w_ar ws (n_v vs 0) 6)) (w_ei w4 (w_ar ws (n_v vs 0) 6)) (w_ei w5 (w_ar ws (n_v vs 0) 6)) (w_ei ws (w_ar ws (n_v vs 0) 7)) (w_ei ws (w_ar ws (n_v vs 0) 8)) (w_ei ws (w_ar ws (n_v vs 0) 14)) (w_ei w1 (w_ar ws (n_v vs 0) 14)) k11 k25 d0 g0 g17 f70 fe_0_1_1 fe_0_2_1 fe_0_0_2 fe_0_1_2 fe_0_2_2 fe_0_0_3 fe_0_1_3 fe_0_2_3 fe_0_0_4 fe_0_1_4 fe_0_2_4 fe_0_0_5 fe_0_1_5 hE_0_4_1 hE_0_4_2 hE_0_4_3 hE_0_4_4 hE_0_5_1 hE_0_5_2 hE_0_5_3 hE_0_5_5 hE_0_6_1 hE_0_6_2 hE_0_6_4 hE_0_6_5 hE_0_7_1 hE_0_7_2 hE_0_7_3 hE_0_7_4 hE_0_7_5 hE_0_8_1 hE_0_8_2 hE_0_8_3 hE_0_8_4 hE_0_8_5 hE_0_14_1 hE_0_14_3 hE_0_14_4 hE_0_14_5 hE_1_999_1 hE_1_999_2 hE_1_999_3 hE_1_999_4 hE_1_999_5 hE_5_999_1 hE_5_999_2 hE_5_999_3 hE_5_999_4 hE_5_999_5 kz_0_0 kz_0_1 kz_0_2)⟩
  have nf2 : fc_1 PRD (20, [0, 12], [50, 1, 0, 0, 1, 3, 2, 0, 0, 4, 2, 1, 1, 0, 1]) ws (vs) := ⟨nf_in hl rfl, sgq_839 (vc_Gr_addNode_at_Gq_Retape_1_2 (v_iv (n_v vs 11)) (v_iv (n_v vs 12)) (v_iv (n_v vs 25)) (w_fi ws (n_v vs 0) 0) (w_fi ws (n_v vs 0) 1) (w_fi ws (n_v vs 0) 2) (w_ei ws (v_ad (n_v vs 5))) (w_ei ws (v_ad (n_v vs 1))) (w_fi w1 (n_v vs 0) 0) (w_ei w1 (w_ar ws (n_v vs 0) 7)) (w_ei w1 (w_ar ws (n_v vs 0) 8)) (w_fi w1 (n_v vs 0) 1) (w_ei w1 (v_ad (n_v vs 5))) (w_ei w1 (v_ad (n_v vs 1))) (w_fi w2 (n_v vs 0) 0) (w_ei w2 (w_ar ws (n_v vs 0) 14)) (w_ei w2 (w_ar ws (n_v vs 0) 7)) (w_ei w2 (w_ar ws (n_v vs 0) 8)) (w_fi w2 (n_v vs 0) 1) (w_ei w2 (v_ad (n_v vs 5))) (w_ei w2 (v_ad (n_v vs 1))) (w_fi w3 (n_v vs 0) 0) (w_ei w3 (w_ar ws (n_v vs 0) 14)) (w_ei w3 (w_ar ws (n_v vs 0) 7)) (w_ei w3 (w_ar ws (n_v vs 0) 8)) (w_fi w3 (n_v vs 0) 1) (w_ei w3 (v_ad (n_v vs 5))) (w_ei w3 (v_ad (n_v vs 1))) (w_fi w4 (n_v vs 0) 0) (w_ei w4 (w_ar ws (n_v vs 0) 14)) (w_ei w4 (w_ar ws (n_v vs 0) 7)) (w_ei w4 (w_ar ws (n_v vs 0) 8)) (w_fi w4 (n_v vs 0) 1) (w_ei w4 (v_ad (n_v vs 5))) (w_ei w4 (v_ad (n_v vs 1))) (w_ei w5 (w_ar ws (n_v vs 0) 7)) (w_ei w5 (w_ar ws (n_v vs 0) 8)) (w_ei w5 (v_ad (n_v vs 1))) (w_fi w5 (n_v vs 0) 0) (w_ei w5 (w_ar ws (n_v vs 0) 14)) (w_fi w5 (n_v vs 0) 1) (w_ei w5 (v_ad (n_v vs 5))) (w_fi w1 (n_v vs 0) 2) (w_fi w2 (n_v vs 0) 2) (w_fi w3 (n_v vs 0) 2) (w_fi w4 (n_v vs 0) 2) (w_ei ws (w_ar ws (n_v vs 0) 4)) (w_ei w1 (w_ar ws (n_v vs 0) 4)) (w_ei w2 (w_ar ws (n_v vs 0) 4)) (w_ei w3 (w_ar ws (n_v vs 0) 4)) (w_ei w4 (w_ar ws (n_v vs 0) 4)) (w_ei ws (w_ar ws (n_v vs 0) 5)) (w_ei w1 (w_ar ws (n_v vs 0) 5)) (w_ei w2 (w_ar ws (n_v vs 0) 5)) (w_ei w3 (w_ar ws (n_v vs 0) 5)) (w_ei w4 (w_ar ws (n_v vs 0) 5)) (w_ei w5 (w_ar ws (n_v vs 0) 5)) (w_ei ws (w_ar ws (n_v vs 0) 6)) (w_ei w1 (w_ar ws (n_v vs 0) 6)) (w_ei w2 (w_ar ws (n_v vs 0) 6)) (w_ei w3 (w_ar ws (n_v vs 0) 6)) (w_ei w4 (w_ar ws (n_v vs 0) 6)) (w_ei w5 (w_ar ws (n_v vs 0) 6)) (w_ei ws (w_ar ws (n_v vs 0) 7)) (w_ei ws (w_ar ws (n_v vs 0) 8)) (w_ei ws (w_ar ws (n_v vs 0) 14)) (w_ei w1 (w_ar ws (n_v vs 0) 14)) k11 k12 k25 d0 g0 g17 f23 fe_0_1_1 fe_0_2_1 fe_0_0_2 fe_0_1_2 fe_0_2_2 fe_0_0_3 fe_0_1_3 fe_0_2_3 fe_0_0_4 fe_0_1_4 fe_0_2_4 fe_0_0_5 fe_0_1_5 hE_0_4_1 hE_0_4_2 hE_0_4_3 hE_0_4_4 hE_0_5_1 hE_0_5_2 hE_0_5_3 hE_0_5_5 hE_0_6_1 hE_0_6_2 hE_0_6_4 hE_0_6_5 hE_0_7_1 hE_0_7_2 hE_0_7_3 hE_0_7_4 hE_0_7_5 hE_0_8_1 hE_0_8_2 hE_0_8_3 hE_0_8_4 hE_0_8_5 hE_0_14_1 hE_0_14_3 hE_0_14_4 hE_0_14_5 hE_1_999_1 hE_1_999_2 hE_1_999_3 hE_1_999_4 hE_1_999_5 hE_5_999_1 hE_5_999_2 hE_5_999_3 hE_5_999_4 hE_5_999_5 kz_0_0 kz_0_1 kz_0_2)⟩
  have nf3 : fc_1 PRD (20, [11, 12], [50, 0, 0, 1, 2, 1, 0, 1, 1]) ws (vs) := ⟨nf_in hl rfl, sgq_48 (vc_Gr_addNode_at_Gq_Retape_1_3 (v_iv (n_v vs 11)) (v_iv (n_v vs 12)) (v_iv (n_v vs 25)) (w_fi ws (n_v vs 0) 0) (w_fi ws (n_v vs 0) 1) (w_fi ws (n_v vs 0) 2) (w_ei ws (v_ad (n_v vs 5))) (w_ei ws (v_ad (n_v vs 1))) (w_fi w1 (n_v vs 0) 0) (w_ei w1 (w_ar ws (n_v vs 0) 7)) (w_ei w1 (w_ar ws (n_v vs 0) 8)) (w_fi w1 (n_v vs 0) 1) (w_ei w1 (v_ad (n_v vs 5))) (w_ei w1 (v_ad (n_v vs 1))) (w_fi w2 (n_v vs 0) 0) (w_ei w2 (w_ar ws (n_v vs 0) 14)) (w_ei w2 (w_ar ws (n_v vs 0) 7)) (w_ei w2 (w_ar ws (n_v vs 0) 8)) (w_fi w2 (n_v vs 0) 1) (w_ei w2 (v_ad (n_v vs 5))) (w_ei w2 (v_ad (n_v vs 1))) (w_fi w3 (n_v vs 0) 0) (w_ei w3 (w_ar ws (n_v vs 0) 14)) (w_ei w3 (w_ar ws (n_v vs 0) 7)) (w_ei w3 (w_ar ws (n_v vs 0) 8)) (w_fi w3 (n_v vs 0) 1) (w_ei w3 (v_ad (n_v vs 5))) (w_ei w3 (v_ad (n_v vs 1))) (w_fi w4 (n_v vs 0) 0) (w_ei w4 (w_ar ws (n_v vs 0) 14)) (w_ei w4 (w_ar ws (n_v vs 0) 7)) (w_ei w4 (w_ar ws (n_v vs 0) 8)) (w_fi w4 (n_v vs 0) 1) (w_ei w4 (v_ad (n_v vs 5))) (w_ei w4 (v_ad (n_v vs 1))) (w_ei w5 (w_ar ws (n_v vs 0) 7)) (w_ei w5 (w_ar ws (n_v vs 0) 8)) (w_ei w5 (v_ad (n_v vs 1))) (w_fi w5 (n_v vs 0) 0) (w_ei w5 (w_ar ws (n_v vs 0) 14)) (w_fi w5 (n_v vs 0) 1) (w_ei w5 (v_ad (n_v vs 5))) (w_fi w1 (n_v vs 0) 2) (w_fi w2 (n_v vs 0) 2) (w_fi w3 (n_v vs 0) 2) (w_fi w4 (n_v vs 0) 2) (w_ei ws (w_ar ws (n_v vs 0) 4)) (w_ei w1 (w_ar ws (n_v vs 0) 4)) (w_ei w2 (w_ar ws (n_v vs 0) 4)) (w_ei w3 (w_ar ws (n_v vs 0) 4)) (w_ei w4 (w_ar ws (n_v vs 0) 4)) (w_ei ws (w_ar ws (n_v vs 0) 5)) (w_ei w1 (w_ar ws (n_v vs 0) 5)) (w_ei w2 (w_ar ws (n_v vs 0) 5)) (w_ei w3 (w_ar ws (n_v vs 0) 5)) (w_ei w4 (w_ar ws (n_v vs 0) 5)) (w_ei w5 (w_ar ws (n_v vs 0) 5)) (w_ei ws (w_ar ws (n_v vs 0) 6)) (w_ei w1 (w_ar ws (n_v vs 0) 6)) (w_ei w2 (w_ar ws (n_v vs 0) 6)) (w_ei w3 (w_ar ws (n_v vs 0) 6)) (w_ei w4 (w_ar ws (n_v vs 0) 6)) (w_ei w5 (w_ar ws (n_v vs 0) 6)) (w_ei ws (w_ar ws (n_v vs 0) 7)) (w_ei ws (w_ar ws (n_v vs 0) 8)) (w_ei ws (w_ar ws (n_v vs 0) 14)) (w_ei w1 (w_ar ws (n_v vs 0) 14)) k11 k12 k25 d0 g0 g17 f23 fe_0_1_1 fe_0_2_1 fe_0_0_2 fe_0_1_2 fe_0_2_2 fe_0_0_3 fe_0_1_3 fe_0_2_3 fe_0_0_4 fe_0_1_4 fe_0_2_4 fe_0_0_5 fe_0_1_5 hE_0_4_1 hE_0_4_2 hE_0_4_3 hE_0_4_4 hE_0_5_1 hE_0_5_2 hE_0_5_3 hE_0_5_5 hE_0_6_1 hE_0_6_2 hE_0_6_4 hE_0_6_5 hE_0_7_1 hE_0_7_2 hE_0_7_3 hE_0_7_4 hE_0_7_5 hE_0_8_1 hE_0_8_2 hE_0_8_3 hE_0_8_4 hE_0_8_5 hE_0_14_1 hE_0_14_3 hE_0_14_4 hE_0_14_5 hE_1_999_1 hE_1_999_2 hE_1_999_3 hE_1_999_4 hE_1_999_5 hE_5_999_1 hE_5_999_2 hE_5_999_3 hE_5_999_4 hE_5_999_5 kz_0_0 kz_0_1 kz_0_2)⟩
  have nf4 : fc_1 PRD (20, [6, 5, 7, 8, 1, 2, 3, 13, 11, 12, 9, 10], [61, 5, 1093]) ws (vs) := by
    refine ⟨nf_in hl rfl, sgq_840 ?_⟩
    · show CGMp (w_ei ws (v_ad (n_v vs 6))) (w_ei ws (v_ad (n_v vs 5))) (w_ei ws (v_ad (n_v vs 7))) (w_ei ws (v_ad (n_v vs 8))) (w_ei ws (v_ad (n_v vs 1))) (v_iv (n_v vs 2)) (v_iv (n_v vs 3)) (v_iv (n_v vs 13)) (v_iv (n_v vs 11)) (v_iv (n_v vs 12)) (v_iv (n_v vs 9)) (v_iv (n_v vs 10))
      simp only [ad_6, ad_7, ad_8]
      exact vc_Gr_addNode_at_Gq_Retape_1_4 (v_iv (n_v vs 2)) (v_iv (n_v vs 3)) (v_iv (n_v vs 9)) (v_iv (n_v vs 10)) (v_iv (n_v vs 11)) (v_iv (n_v vs 12)) (v_iv (n_v vs 13)) (v_iv (n_v vs 15)) (v_iv (n_v vs 17)) (v_iv (n_v vs 18)) (v_iv (n_v vs 25)) (w_fi ws (n_v vs 0) 0) (w_fi ws (n_v vs 0) 1) (w_fi ws (n_v vs 0) 2) (w_ei ws (v_ad (n_v vs 5))) (w_ei ws (v_ad (n_v vs 1))) (w_fi w1 (n_v vs 0) 0) (w_ei w1 (w_ar ws (n_v vs 0) 7)) (w_ei w1 (w_ar ws (n_v vs 0) 8)) (w_fi w1 (n_v vs 0) 1) (w_ei w1 (v_ad (n_v vs 5))) (w_ei w1 (v_ad (n_v vs 1))) (w_fi w2 (n_v vs 0) 0) (w_ei w2 (w_ar ws (n_v vs 0) 14)) (w_ei w2 (w_ar ws (n_v vs 0) 7)) (w_ei w2 (w_ar ws (n_v vs 0) 8)) (w_fi w2 (n_v vs 0) 1) (w_ei w2 (v_ad (n_v vs 5))) (w_ei w2 (v_ad (n_v vs 1))) (w_fi w3 (n_v vs 0) 0) (w_ei w3 (w_ar ws (n_v vs 0) 14)) (w_ei w3 (w_ar ws (n_v vs 0) 7)) (w_ei w3 (w_ar ws (n_v vs 0) 8)) (w_fi w3 (n_v vs 0) 1) (w_ei w3 (v_ad (n_v vs 5))) (w_ei w3 (v_ad (n_v vs 1))) (w_fi w4 (n_v vs 0) 0) (w_ei w4 (w_ar ws (n_v vs 0) 14)) (w_ei w4 (w_ar ws (n_v vs 0) 7)) (w_ei w4 (w_ar ws (n_v vs 0) 8)) (w_fi w4 (n_v vs 0) 1) (w_ei w4 (v_ad (n_v vs 5))) (w_ei w4 (v_ad (n_v vs 1))) (w_ei w5 (w_ar ws (n_v vs 0) 4)) (w_ei w5 (w_ar ws (n_v vs 0) 7)) (w_ei w5 (w_ar ws (n_v vs 0) 8)) (w_ei w5 (v_ad (n_v vs 1))) (w_fi w5 (n_v vs 0) 0) (w_ei w5 (w_ar ws (n_v vs 0) 14)) (w_fi w5 (n_v vs 0) 1) (w_ei w5 (v_ad (n_v vs 5))) (w_fi w1 (n_v vs 0) 2) (w_fi w2 (n_v vs 0) 2) (w_fi w3 (n_v vs 0) 2) (w_fi w4 (n_v vs 0) 2) (w_ei ws (w_ar ws (n_v vs 0) 4)) (w_ei w1 (w_ar ws (n_v vs 0) 4)) (w_ei w2 (w_ar ws (n_v vs 0) 4)) (w_ei w3 (w_ar ws (n_v vs 0) 4)) (w_ei w4 (w_ar ws (n_v vs 0) 4)) (w_ei ws (w_ar ws (n_v vs 0) 5)) (w_ei w1 (w_ar ws (n_v vs 0) 5)) (w_ei w2 (w_ar ws (n_v vs 0) 5)) (w_ei w3 (w_ar ws (n_v vs 0) 5)) (w_ei w4 (w_ar ws (n_v vs 0) 5)) (w_ei w5 (w_ar ws (n_v vs 0) 5)) (w_ei ws (w_ar ws (n_v vs 0) 6)) (w_ei w1 (w_ar ws (n_v vs 0) 6)) (w_ei w2 (w_ar ws (n_v vs 0) 6)) (w_ei w3 (w_ar ws (n_v vs 0) 6)) (w_ei w4 (w_ar ws (n_v vs 0) 6)) (w_ei w5 (w_ar ws (n_v vs 0) 6)) (w_ei ws (w_ar ws (n_v vs 0) 7)) (w_ei ws (w_ar ws (n_v vs 0) 8)) (w_ei ws (w_ar ws (n_v vs 0) 14)) (w_ei w1 (w_ar ws (n_v vs 0) 14)) k2 k3 k9 k10 k11 k12 k13 k15 k17 k18 k25 g0 g7 g8 f11 f12 g17 f61 f67 f71 fe_0_1_1 fe_0_2_1 fe_0_0_2 fe_0_1_2 fe_0_2_2 fe_0_0_3 fe_0_1_3 fe_0_2_3 fe_0_0_4 fe_0_1_4 fe_0_2_4 fe_0_0_5 fe_0_1_5 hE_0_4_1 hE_0_4_2 hE_0_4_3 hE_0_4_4 hE_0_4_5 hE_0_5_1 hE_0_5_2 hE_0_5_3 hE_0_5_5 hE_0_6_1 hE_0_6_2 hE_0_6_4 hE_0_6_5 hE_0_7_1 hE_0_7_2 hE_0_7_3 hE_0_7_4 hE_0_7_5 hE_0_8_1 hE_0_8_2 hE_0_8_3 hE_0_8_4 hE_0_8_5 hE_0_14_1 hE_0_14_3 hE_0_14_4 hE_0_14_5 hE_1_999_1 hE_1_999_2 hE_1_999_3 hE_1_999_4 hE_1_999_5 hE_5_999_1 hE_5_999_2 hE_5_999_3 hE_5_999_4 hE_5_999_5 kz_0_0 kz_0_1 kz_0_2
  refine ⟨(fun _ h => (by cases h)), [], trivial, ?_, (fun _ h => (by cases h))⟩
  rw [List.append_nil]
  exact List.forall_mem_cons.mpr ⟨⟨show (20 : Nat) < 100 from by decide, nf0⟩, List.forall_mem_cons.mpr ⟨⟨show (20 : Nat) < 100 from by decide, nf1⟩, List.forall_mem_cons.mpr ⟨⟨show (20 : Nat) < 100 from by decide, nf2⟩, List.forall_mem_cons.mpr ⟨⟨show (20 : Nat) < 100 from by decide, nf3⟩, List.forall_mem_cons.mpr ⟨⟨show (20 : Nat) < 100 from by decide, nf4⟩, (fun _ h => (by cases h))⟩⟩⟩⟩⟩
def n_Gr_addNode_at_Gq_Retape_an : List an_T := []
def t_Gr_addNode_at_Gq_Retape_ct : ct_L := [(57, 77, e_acp_0)]
set_option maxRecDepth 100000 in
theorem c_Gr_addNode_at_Gq_Retape {l : Launch} {D : va_G} {kA : Nat → ClassId} : ct_ok PRD l D kA GG y_Gr_addNode_at_Gq_Retape z_Gr_addNode_at_Gq_Retape e_Gr_addNode_at_Gq_Retape := chk_all_ok (FT := [(9, 3, 0), (21, 3, 3), (25, 3, 4), (29, 3, 5), (32, 3, 6), (56, 3, 14)]) (PT := [(9, 3, 0, .int)]) (CT := t_Gr_addNode_at_Gq_Retape_ct) (KT := []) (NT := []) (AN := n_Gr_addNode_at_Gq_Retape_an) (OT := [o_Gr_addNode_at_Gq_Retape_0, o_Gr_addNode_at_Gq_Retape_1]) 0 200 (List.forall_mem_cons.mpr ⟨oo_Gr_addNode_at_Gq_Retape_0, List.forall_mem_cons.mpr ⟨oo_Gr_addNode_at_Gq_Retape_1, List.forall_mem_nil _⟩⟩) (by decide +kernel) ⟨List.forall_mem_cons.mpr ⟨gf_Gr_9, List.forall_mem_cons.mpr ⟨gf_Gr_21, List.forall_mem_cons.mpr ⟨gf_Gr_25, List.forall_mem_cons.mpr ⟨gf_Gr_29, List.forall_mem_cons.mpr ⟨gf_Gr_32, List.forall_mem_cons.mpr ⟨gf_Gr_56, List.forall_mem_nil _⟩⟩⟩⟩⟩⟩, List.forall_mem_cons.mpr ⟨pf_Gr_9, List.forall_mem_nil _⟩, List.forall_mem_cons.mpr ⟨cl_copyU (na := 3) rfl rfl (by decide) (Or.inl (by decide)) (fun U U_zq xs sp dp n a b c d e f e1 e2 e3 h => cn1_cn2 (U := U) (U_zq := U_zq) (xs := xs) (sp := sp) (dp := dp) (n := n) a b c d e f e1 e2 e3 h) wm_748 wm_750 wm_749 wm_15, List.forall_mem_nil _⟩, List.forall_mem_nil _, List.forall_mem_nil _, GG_pl⟩ (by decide +kernel)
set_option maxHeartbeats 4000000 in
theorem vc_Gr_addNode_at_Gr_newGrperform45_0_0 (x2 : Int) (x3 : Int) (x5 : Int) (x6 : Int) (x8 : Int) (x9 : Int) (nodes_0 : Int) (near_0 : Int → Int) (tail_0 : Int → Int) (head_0 : Int → Int) (edges_0 : Int) (k2 : 0 ≤ x2 ∧ x2 ≤ 2000) (k3 : 0 ≤ x3 ∧ x3 ≤ 8) (k5 : 0 ≤ x5 ∧ x5 ≤ 23) (k6 : 0 ≤ x6 ∧ x6 ≤ 24) (k8 : 8 ≤ x8 ∧ x8 ≤ 8) (k9 : 0 ≤ x9 ∧ x9 ≤ 184) (f0 : x9 = x5 * 8) (g1 : x5 = nodes_0) (f2 : x2 + x3 ≤ 3) (f3 : nodes_0 = x6) (f4 : nodes_0 ≤ 23) (f5 : GNB (nodes_0) (edges_0) (near_0) (tail_0) (head_0)) (f6 : GKE (nodes_0) (edges_0) (tail_0) (head_0)) (hK_0_7 : ∀ j : Int, 0 ≤ j → j < 48 → 0 ≤ tail_0 j ∧ tail_0 j ≤ 23) (hK_0_8 : ∀ j : Int, 0 ≤ j → j < 48 → 0 ≤ head_0 j ∧ head_0 j ≤ 23) (hK_0_14 : ∀ j : Int, 0 ≤ j → j < 24 → 0 ≤ near_0 j ∧ near_0 j ≤ 16777215) (kz_0_0 : 0 ≤ nodes_0 ∧ nodes_0 ≤ 24) (kz_0_1 : 0 ≤ edges_0 ∧ edges_0 ≤ 48) : x9 + x3 ≤ 192 := by
  first
    | omega
  
def o_Gr_addNode_at_Gr_newGrperform45_0 : or_T := (18, 10, [(0, (2, 0, 0, [3])), (2, (0, 0, 2000, [])), (3, (0, 0, 8, [])), (5, (0, 0, 23, [])), (6, (0, 0, 24, [])), (8, (0, 8, 8, [])), (9, (0, 0, 184, []))], [(3, [9, 5, 8], []), (9, [5, 0], [0]), (21, [2, 3], [3]), (20, [0, 6], [50, 1, 0, 0, 1, 3, 2, 0, 0, 1, 1]), (20, [0], [50, 1, 0, 0, 0, 3, 2, 0, 0, 0, 23]), (20, [0], [60, 2, 3, 670, 0, 1, 14, 7, 8]), (20, [0], [60, 2, 2, 596, 0, 1, 7, 8])], [], [], [(21, [9, 3], [192])], [], [])
theorem oo_Gr_addNode_at_Gr_newGrperform45_0 {kA : Nat → ClassId} : or_ok PRD kA GG o_Gr_addNode_at_Gr_newGrperform45_0 := by
  refine or_mk fun A ta ws vs hD hth hl => ?_
  intro t0 r0 t2 k2 t3 k3 t5 k5 t6 k6 t8 k8 t9 k9 f0 f1 f2 f3 f4 f5 f6
  replace f0 := shm_38 f0
  rw [show v_iv (n_v vs 8) = 8 from by omega] at f0
  replace f1 := shm_163 f1
  have cr_0_7 := fdq_46 hD hth r0
  have cr_0_8 := fdq_47 hD hth r0
  have cr_0_14 := fdq_75 hD hth r0
  have g1 : v_iv (n_v vs 5) = w_fi ws (n_v vs 0) 0 := congrArg v_iv f1
  have hK_0_7 := elq_11 hD hth cr_0_7
  have hK_0_8 := elq_12 hD hth cr_0_8
  have hK_0_14 := elq_25 hD hth cr_0_14
  have kz_0_0 := fdq_21 hD hth r0
  have kz_0_1 := fdq_30 hD hth r0
  have nf0 : fc_1 PRD (21, [9, 3], [192]) ws (vs) := ⟨nf_in hl rfl, sgq_835 (vc_Gr_addNode_at_Gr_newGrperform45_0_0 (v_iv (n_v vs 2)) (v_iv (n_v vs 3)) (v_iv (n_v vs 5)) (v_iv (n_v vs 6)) (v_iv (n_v vs 8)) (v_iv (n_v vs 9)) (w_fi ws (n_v vs 0) 0) (w_ei ws (w_ar ws (n_v vs 0) 14)) (w_ei ws (w_ar ws (n_v vs 0) 7)) (w_ei ws (w_ar ws (n_v vs 0) 8)) (w_fi ws (n_v vs 0) 1) k2 k3 k5 k6 k8 k9 f0 g1 (shm_174 f2) (shm_570 f3) (shm_832 f4) (shm_825 f5) (shm_386 f6) hK_0_7 hK_0_8 hK_0_14 kz_0_0 kz_0_1)⟩
  refine ⟨(fun _ h => (by cases h)), [], trivial, ?_, (fun _ h => (by cases h))⟩
  rw [List.append_nil]
  exact List.forall_mem_cons.mpr ⟨⟨show (21 : Nat) < 100 from by decide, nf0⟩, (fun _ h => (by cases h))⟩
set_option maxHeartbeats 4000000 in
theorem vc_Gr_addNode_at_Gr_newGrperform45_1_0 (x5 : Int) (x6 : Int) (x15 : Int) (x16 : Int) (x17 : Int) (nodes_0 : Int) (nodes_1 : Int) (tail_1 : Int → Int) (head_1 : Int → Int) (edges_1 : Int) (nodes_2 : Int) (near_2 : Int → Int) (tail_2 : Int → Int) (head_2 : Int → Int) (edges_2 : Int) (nodes_3 : Int) (near_3 : Int → Int) (tail_3 : Int → Int) (head_3 : Int → Int) (edges_3 : Int) (nodes_4 : Int) (near_4 : Int → Int) (tail_4 : Int → Int) (head_4 : Int → Int) (edges_4 : Int) (nodes_5 : Int) (near_5 : Int → Int) (tail_5 : Int → Int) (head_5 : Int → Int) (edges_5 : Int) (edges_0 : Int) (nameLength_0 : Int → Int) (nameLength_1 : Int → Int) (nameLength_2 : Int → Int) (nameLength_3 : Int → Int) (nameLength_4 : Int → Int) (nameLength_5 : Int → Int) (x3 : Int) (size_0 : Int → Int) (size_1 : Int → Int) (size_2 : Int → Int) (size_3 : Int → Int) (size_4 : Int → Int) (x12 : Int) (size_5 : Int → Int) (groupOf_0 : Int → Int) (groupOf_1 : Int → Int) (groupOf_2 : Int → Int) (groupOf_3 : Int → Int) (x4 : Int) (groupOf_4 : Int → Int) (groupOf_5 : Int → Int) (tail_0 : Int → Int) (head_0 : Int → Int) (near_0 : Int → Int) (near_1 : Int → Int) (k5 : 0 ≤ x5 ∧ x5 ≤ 23) (k6 : 0 ≤ x6 ∧ x6 ≤ 24) (k15 : 0 ≤ x15 ∧ x15 ≤ 0) (k16 : 1 ≤ x16 ∧ x16 ≤ 1) (k17 : 1 ≤ x17 ∧ x17 ≤ 24) (d0 : x5 + 1 ≤ x17 ∧ x17 ≤ x5 + 1) (g0 : x17 = nodes_0) (f6 : x17 = x5 + x16) (g7 : x5 = nodes_1) (f8 : nodes_1 = x6) (f9 : nodes_1 ≤ 23) (f10 : GKE (nodes_1) (edges_1) (tail_1) (head_1)) (f12 : nodes_2 = x6) (f13 : nodes_2 ≤ 23) (f14 : GNB (nodes_2) (edges_2) (near_2) (tail_2) (head_2)) (f15 : GKE (nodes_2) (edges_2) (tail_2) (head_2)) (f17 : nodes_3 = x6) (f18 : nodes_3 ≤ 23) (f19 : GNB (nodes_3) (edges_3) (near_3) (tail_3) (head_3)) (f20 : GKE (nodes_3) (edges_3) (tail_3) (head_3)) (f22 : nodes_4 = x6) (f23 : nodes_4 ≤ 23) (f24 : GNB (nodes_4) (edges_4) (near_4) (tail_4) (head_4)) (f25 : GKE (nodes_4) (edges_4) (tail_4) (head_4)) (f27 : nodes_5 = x6) (f28 : nodes_5 ≤ 23) (f29 : GNB (nodes_5) (edges_5) (near_5) (tail_5) (head_5)) (f30 : GKE (nodes_5) (edges_5) (tail_5) (head_5)) (fe_0_0_1 : nodes_0 = x17) (fe_0_1_1 : edges_0 = edges_1) (fe_0_0_2 : nodes_1 = nodes_2) (fe_0_1_2 : edges_1 = edges_2) (fe_0_0_3 : nodes_2 = nodes_3) (fe_0_1_3 : edges_2 = edges_3) (fe_0_0_4 : nodes_3 = nodes_4) (fe_0_1_4 : edges_3 = edges_4) (fe_0_0_5 : nodes_4 = nodes_5) (fe_0_1_5 : edges_4 = edges_5) (hE_0_4_1 : ∀ j : Int, nameLength_0 j = nameLength_1 j) (hE_0_4_2 : ∀ j : Int, nameLength_1 j = nameLength_2 j) (hE_0_4_3 : ∀ j : Int, nameLength_2 j = nameLength_3 j) (hE_0_4_4 : ∀ j : Int, nameLength_3 j = nameLength_4 j) (hE_0_4_5 : ∀ j : Int, 0 ≤ j → (j = x5 → nameLength_4 j = x3) ∧ (j ≠ x5 → nameLength_4 j = nameLength_5 j)) (hK_0_4 : ∀ j : Int, 0 ≤ j → j < 24 → 0 ≤ nameLength_0 j ∧ nameLength_0 j ≤ 8) (hE_0_5_1 : ∀ j : Int, size_0 j = size_1 j) (hE_0_5_2 : ∀ j : Int, size_1 j = size_2 j) (hE_0_5_3 : ∀ j : Int, size_2 j = size_3 j) (hE_0_5_4 : ∀ j : Int, 0 ≤ j → (j = x5 → size_3 j = x12) ∧ (j ≠ x5 → size_3 j = size_4 j)) (hE_0_5_5 : ∀ j : Int, size_4 j = size_5 j) (hK_0_5 : ∀ j : Int, 0 ≤ j → j < 24 → 0 ≤ size_0 j ∧ size_0 j ≤ 99) (hE_0_6_1 : ∀ j : Int, groupOf_0 j = groupOf_1 j) (hE_0_6_2 : ∀ j : Int, groupOf_1 j = groupOf_2 j) (hE_0_6_3 : ∀ j : Int, 0 ≤ j → (j = x5 → groupOf_2 j = x4) ∧ (j ≠ x5 → groupOf_2 j = groupOf_3 j)) (hE_0_6_4 : ∀ j : Int, groupOf_3 j = groupOf_4 j) (hE_0_6_5 : ∀ j : Int, groupOf_4 j = groupOf_5 j) (hK_0_6 : ∀ j : Int, 0 ≤ j → j < 24 → 0 ≤ groupOf_0 j ∧ groupOf_0 j ≤ 7) (hE_0_7_1 : ∀ j : Int, tail_0 j = tail_1 j) (hE_0_7_2 : ∀ j : Int, tail_1 j = tail_2 j) (hE_0_7_3 : ∀ j : Int, tail_2 j = tail_3 j) (hE_0_7_4 : ∀ j : Int, tail_3 j = tail_4 j) (hE_0_7_5 : ∀ j : Int, tail_4 j = tail_5 j) (hK_0_7 : ∀ j : Int, 0 ≤ j → j < 48 → 0 ≤ tail_0 j ∧ tail_0 j ≤ 23) (hE_0_8_1 : ∀ j : Int, head_0 j = head_1 j) (hE_0_8_2 : ∀ j : Int, head_1 j = head_2 j) (hE_0_8_3 : ∀ j : Int, head_2 j = head_3 j) (hE_0_8_4 : ∀ j : Int, head_3 j = head_4 j) (hE_0_8_5 : ∀ j : Int, head_4 j = head_5 j) (hK_0_8 : ∀ j : Int, 0 ≤ j → j < 48 → 0 ≤ head_0 j ∧ head_0 j ≤ 23) (hE_0_14_1 : ∀ j : Int, near_0 j = near_1 j) (hE_0_14_2 : ∀ j : Int, 0 ≤ j → (j = x5 → near_1 j = x15) ∧ (j ≠ x5 → near_1 j = near_2 j)) (hE_0_14_3 : ∀ j : Int, near_2 j = near_3 j) (hE_0_14_4 : ∀ j : Int, near_3 j = near_4 j) (hE_0_14_5 : ∀ j : Int, near_4 j = near_5 j) (hK_0_14 : ∀ j : Int, 0 ≤ j → j < 24 → 0 ≤ near_0 j ∧ near_0 j ≤ 16777215) (kz_0_0 : 0 ≤ nodes_0 ∧ nodes_0 ≤ 24) (kz_0_1 : 0 ≤ edges_0 ∧ edges_0 ≤ 48) : GNB (nodes_0) (edges_0) (near_0) (tail_0) (head_0) := by
  subst fe_0_1_1
  subst fe_0_0_2
  subst fe_0_1_2
  subst fe_0_0_3
  subst fe_0_1_3
  subst fe_0_0_4
  subst fe_0_1_4
  subst fe_0_0_5
  subst fe_0_1_5
  have e_hE_0_4_1 := funext hE_0_4_1; subst e_hE_0_4_1
  have e_hE_0_4_2 := funext hE_0_4_2; subst e_hE_0_4_2
  have e_hE_0_4_3 := funext hE_0_4_3; subst e_hE_0_4_3
  have e_hE_0_4_4 := funext hE_0_4_4; subst e_hE_0_4_4
  have e_hE_0_5_1 := funext hE_0_5_1; subst e_hE_0_5_1
  have e_hE_0_5_2 := funext hE_0_5_2; subst e_hE_0_5_2
  have e_hE_0_5_3 := funext hE_0_5_3; subst e_hE_0_5_3
  have e_hE_0_5_5 := funext hE_0_5_5; subst e_hE_0_5_5
  have e_hE_0_6_1 := funext hE_0_6_1; subst e_hE_0_6_1
  have e_hE_0_6_2 := funext hE_0_6_2; subst e_hE_0_6_2
  have e_hE_0_6_4 := funext hE_0_6_4; subst e_hE_0_6_4
  have e_hE_0_6_5 := funext hE_0_6_5; subst e_hE_0_6_5
  have e_hE_0_7_1 := funext hE_0_7_1; subst e_hE_0_7_1
  have e_hE_0_7_2 := funext hE_0_7_2; subst e_hE_0_7_2
  have e_hE_0_7_3 := funext hE_0_7_3; subst e_hE_0_7_3
  have e_hE_0_7_4 := funext hE_0_7_4; subst e_hE_0_7_4
  have e_hE_0_7_5 := funext hE_0_7_5; subst e_hE_0_7_5
  have e_hE_0_8_1 := funext hE_0_8_1; subst e_hE_0_8_1
  have e_hE_0_8_2 := funext hE_0_8_2; subst e_hE_0_8_2
  have e_hE_0_8_3 := funext hE_0_8_3; subst e_hE_0_8_3
  have e_hE_0_8_4 := funext hE_0_8_4; subst e_hE_0_8_4
  have e_hE_0_8_5 := funext hE_0_8_5; subst e_hE_0_8_5
  have e_hE_0_14_1 := funext hE_0_14_1; subst e_hE_0_14_1
  have e_hE_0_14_3 := funext hE_0_14_3; subst e_hE_0_14_3
  have e_hE_0_14_4 := funext hE_0_14_4; subst e_hE_0_14_4
  have e_hE_0_14_5 := funext hE_0_14_5; subst e_hE_0_14_5
  first
    | assumption
    | exact gnb_node2 ‹GNB _ _ _ _ _› ‹GKE _ _ _ _› (by omega) (by omega) hE_0_14_2 (by omega) (by omega) (by omega)
  
set_option maxHeartbeats 4000000 in
theorem vc_Gr_addNode_at_Gr_newGrperform45_1_1 (x5 : Int) (x6 : Int) (x15 : Int) (x16 : Int) (x17 : Int) (nodes_0 : Int) (nodes_1 : Int) (tail_1 : Int → Int) (head_1 : Int → Int) (edges_1 : Int) (nodes_2 : Int) (near_2 : Int → Int) (tail_2 : Int → Int) (head_2 : Int → Int) (edges_2 : Int) (nodes_3 : Int) (near_3 : Int → Int) (tail_3 : Int → Int) (head_3 : Int → Int) (edges_3 : Int) (nodes_4 : Int) (near_4 : Int → Int) (tail_4 : Int → Int) (head_4 : Int → Int) (edges_4 : Int) (nodes_5 : Int) (near_5 : Int → Int) (tail_5 : Int → Int) (head_5 : Int → Int) (edges_5 : Int) (edges_0 : Int) (nameLength_0 : Int → Int) (nameLength_1 : Int → Int) (nameLength_2 : Int → Int) (nameLength_3 : Int → Int) (nameLength_4 : Int → Int) (nameLength_5 : Int → Int) (x3 : Int) (size_0 : Int → Int) (size_1 : Int → Int) (size_2 : Int → Int) (size_3 : Int → Int) (size_4 : Int → Int) (x12 : Int) (size_5 : Int → Int) (groupOf_0 : Int → Int) (groupOf_1 : Int → Int) (groupOf_2 : Int → Int) (groupOf_3 : Int → Int) (x4 : Int) (groupOf_4 : Int → Int) (groupOf_5 : Int → Int) (tail_0 : Int → Int) (head_0 : Int → Int) (near_0 : Int → Int) (near_1 : Int → Int) (k5 : 0 ≤ x5 ∧ x5 ≤ 23) (k6 : 0 ≤ x6 ∧ x6 ≤ 24) (k15 : 0 ≤ x15 ∧ x15 ≤ 0) (k16 : 1 ≤ x16 ∧ x16 ≤ 1) (k17 : 1 ≤ x17 ∧ x17 ≤ 24) (d0 : x5 + 1 ≤ x17 ∧ x17 ≤ x5 + 1) (g0 : x17 = nodes_0) (f6 : x17 = x5 + x16) (g7 : x5 = nodes_1) (f8 : nodes_1 = x6) (f9 : nodes_1 ≤ 23) (f10 : GKE (nodes_1) (edges_1) (tail_1) (head_1)) (f12 : nodes_2 = x6) (f13 : nodes_2 ≤ 23) (f14 : GNB (nodes_2) (edges_2) (near_2) (tail_2) (head_2)) (f15 : GKE (nodes_2) (edges_2) (tail_2) (head_2)) (f17 : nodes_3 = x6) (f18 : nodes_3 ≤ 23) (f19 : GNB (nodes_3) (edges_3) (near_3) (tail_3) (head_3)) (f20 : GKE (nodes_3) (edges_3) (tail_3) (head_3)) (f22 : nodes_4 = x6) (f23 : nodes_4 ≤ 23) (f24 : GNB (nodes_4) (edges_4) (near_4) (tail_4) (head_4)) (f25 : GKE (nodes_4) (edges_4) (tail_4) (head_4)) (f27 : nodes_5 = x6) (f28 : nodes_5 ≤ 23) (f29 : GNB (nodes_5) (edges_5) (near_5) (tail_5) (head_5)) (f30 : GKE (nodes_5) (edges_5) (tail_5) (head_5)) (fe_0_0_1 : nodes_0 = x17) (fe_0_1_1 : edges_0 = edges_1) (fe_0_0_2 : nodes_1 = nodes_2) (fe_0_1_2 : edges_1 = edges_2) (fe_0_0_3 : nodes_2 = nodes_3) (fe_0_1_3 : edges_2 = edges_3) (fe_0_0_4 : nodes_3 = nodes_4) (fe_0_1_4 : edges_3 = edges_4) (fe_0_0_5 : nodes_4 = nodes_5) (fe_0_1_5 : edges_4 = edges_5) (hE_0_4_1 : ∀ j : Int, nameLength_0 j = nameLength_1 j) (hE_0_4_2 : ∀ j : Int, nameLength_1 j = nameLength_2 j) (hE_0_4_3 : ∀ j : Int, nameLength_2 j = nameLength_3 j) (hE_0_4_4 : ∀ j : Int, nameLength_3 j = nameLength_4 j) (hE_0_4_5 : ∀ j : Int, 0 ≤ j → (j = x5 → nameLength_4 j = x3) ∧ (j ≠ x5 → nameLength_4 j = nameLength_5 j)) (hK_0_4 : ∀ j : Int, 0 ≤ j → j < 24 → 0 ≤ nameLength_0 j ∧ nameLength_0 j ≤ 8) (hE_0_5_1 : ∀ j : Int, size_0 j = size_1 j) (hE_0_5_2 : ∀ j : Int, size_1 j = size_2 j) (hE_0_5_3 : ∀ j : Int, size_2 j = size_3 j) (hE_0_5_4 : ∀ j : Int, 0 ≤ j → (j = x5 → size_3 j = x12) ∧ (j ≠ x5 → size_3 j = size_4 j)) (hE_0_5_5 : ∀ j : Int, size_4 j = size_5 j) (hK_0_5 : ∀ j : Int, 0 ≤ j → j < 24 → 0 ≤ size_0 j ∧ size_0 j ≤ 99) (hE_0_6_1 : ∀ j : Int, groupOf_0 j = groupOf_1 j) (hE_0_6_2 : ∀ j : Int, groupOf_1 j = groupOf_2 j) (hE_0_6_3 : ∀ j : Int, 0 ≤ j → (j = x5 → groupOf_2 j = x4) ∧ (j ≠ x5 → groupOf_2 j = groupOf_3 j)) (hE_0_6_4 : ∀ j : Int, groupOf_3 j = groupOf_4 j) (hE_0_6_5 : ∀ j : Int, groupOf_4 j = groupOf_5 j) (hK_0_6 : ∀ j : Int, 0 ≤ j → j < 24 → 0 ≤ groupOf_0 j ∧ groupOf_0 j ≤ 7) (hE_0_7_1 : ∀ j : Int, tail_0 j = tail_1 j) (hE_0_7_2 : ∀ j : Int, tail_1 j = tail_2 j) (hE_0_7_3 : ∀ j : Int, tail_2 j = tail_3 j) (hE_0_7_4 : ∀ j : Int, tail_3 j = tail_4 j) (hE_0_7_5 : ∀ j : Int, tail_4 j = tail_5 j) (hK_0_7 : ∀ j : Int, 0 ≤ j → j < 48 → 0 ≤ tail_0 j ∧ tail_0 j ≤ 23) (hE_0_8_1 : ∀ j : Int, head_0 j = head_1 j) (hE_0_8_2 : ∀ j : Int, head_1 j = head_2 j) (hE_0_8_3 : ∀ j : Int, head_2 j = head_3 j) (hE_0_8_4 : ∀ j : Int, head_3 j = head_4 j) (hE_0_8_5 : ∀ j : Int, head_4 j = head_5 j) (hK_0_8 : ∀ j : Int, 0 ≤ j → j < 48 → 0 ≤ head_0 j ∧ head_0 j ≤ 23) (hE_0_14_1 : ∀ j : Int, near_0 j = near_1 j) (hE_0_14_2 : ∀ j : Int, 0 ≤ j → (j = x5 → near_1 j = x15) ∧ (j ≠ x5 → near_1 j = near_2 j)) (hE_0_14_3 : ∀ j : Int, near_2 j = near_3 j) (hE_0_14_4 : ∀ j : Int, near_3 j = near_4 j) (hE_0_14_5 : ∀ j : Int, near_4 j = near_5 j) (hK_0_14 : ∀ j : Int, 0 ≤ j → j < 24 → 0 ≤ near_0 j ∧ near_0 j ≤ 16777215) (kz_0_0 : 0 ≤ nodes_0 ∧ nodes_0 ≤ 24) (kz_0_1 : 0 ≤ edges_0 ∧ edges_0 ≤ 48) : GKE (nodes_0) (edges_0) (tail_0) (head_0) := by
  subst fe_0_1_1
  subst fe_0_0_2
  subst fe_0_1_2
  subst fe_0_0_3
  subst fe_0_1_3
  subst fe_0_0_4
  subst fe_0_1_4
  subst fe_0_0_5
  subst fe_0_1_5
  have e_hE_0_4_1 := funext hE_0_4_1; subst e_hE_0_4_1
  have e_hE_0_4_2 := funext hE_0_4_2; subst e_hE_0_4_2
  have e_hE_0_4_3 := funext hE_0_4_3; subst e_hE_0_4_3
  have e_hE_0_4_4 := funext hE_0_4_4; subst e_hE_0_4_4
  have e_hE_0_5_1 := funext hE_0_5_1; subst e_hE_0_5_1
  have e_hE_0_5_2 := funext hE_0_5_2; subst e_hE_0_5_2
  have e_hE_0_5_3 := funext hE_0_5_3; subst e_hE_0_5_3
  have e_hE_0_5_5 := funext hE_0_5_5; subst e_hE_0_5_5
  have e_hE_0_6_1 := funext hE_0_6_1; subst e_hE_0_6_1
  have e_hE_0_6_2 := funext hE_0_6_2; subst e_hE_0_6_2
  have e_hE_0_6_4 := funext hE_0_6_4; subst e_hE_0_6_4
  have e_hE_0_6_5 := funext hE_0_6_5; subst e_hE_0_6_5
  have e_hE_0_7_1 := funext hE_0_7_1; subst e_hE_0_7_1
  have e_hE_0_7_2 := funext hE_0_7_2; subst e_hE_0_7_2
  have e_hE_0_7_3 := funext hE_0_7_3; subst e_hE_0_7_3
  have e_hE_0_7_4 := funext hE_0_7_4; subst e_hE_0_7_4
  have e_hE_0_7_5 := funext hE_0_7_5; subst e_hE_0_7_5
  have e_hE_0_8_1 := funext hE_0_8_1; subst e_hE_0_8_1
  have e_hE_0_8_2 := funext hE_0_8_2; subst e_hE_0_8_2
  have e_hE_0_8_3 := funext hE_0_8_3; subst e_hE_0_8_3
  have e_hE_0_8_4 := funext hE_0_8_4; subst e_hE_0_8_4
  have e_hE_0_8_5 := funext hE_0_8_5; subst e_hE_0_8_5
  have e_hE_0_14_1 := funext hE_0_14_1; subst e_hE_0_14_1
  have e_hE_0_14_3 := funext hE_0_14_3; subst e_hE_0_14_3
  have e_hE_0_14_4 := funext hE_0_14_4; subst e_hE_0_14_4
  have e_hE_0_14_5 := funext hE_0_14_5; subst e_hE_0_14_5
  first
    | assumption
    | exact gke_node ‹GKE _ _ _ _› (by omega)
    | (rw [show nodes_0 = x17 by omega]; exact gke_node ‹GKE _ _ _ _› (by omega))
  
set_option maxHeartbeats 4000000 in
theorem vc_Gr_addNode_at_Gr_newGrperform45_1_2 (x5 : Int) (x6 : Int) (x15 : Int) (x16 : Int) (x17 : Int) (nodes_0 : Int) (nodes_1 : Int) (tail_1 : Int → Int) (head_1 : Int → Int) (edges_1 : Int) (nodes_2 : Int) (near_2 : Int → Int) (tail_2 : Int → Int) (head_2 : Int → Int) (edges_2 : Int) (nodes_3 : Int) (near_3 : Int → Int) (tail_3 : Int → Int) (head_3 : Int → Int) (edges_3 : Int) (nodes_4 : Int) (near_4 : Int → Int) (tail_4 : Int → Int) (head_4 : Int → Int) (edges_4 : Int) (nodes_5 : Int) (near_5 : Int → Int) (tail_5 : Int → Int) (head_5 : Int → Int) (edges_5 : Int) (edges_0 : Int) (nameLength_0 : Int → Int) (nameLength_1 : Int → Int) (nameLength_2 : Int → Int) (nameLength_3 : Int → Int) (nameLength_4 : Int → Int) (nameLength_5 : Int → Int) (x3 : Int) (size_0 : Int → Int) (size_1 : Int → Int) (size_2 : Int → Int) (size_3 : Int → Int) (size_4 : Int → Int) (x12 : Int) (size_5 : Int → Int) (groupOf_0 : Int → Int) (groupOf_1 : Int → Int) (groupOf_2 : Int → Int) (groupOf_3 : Int → Int) (x4 : Int) (groupOf_4 : Int → Int) (groupOf_5 : Int → Int) (tail_0 : Int → Int) (head_0 : Int → Int) (near_0 : Int → Int) (near_1 : Int → Int) (k5 : 0 ≤ x5 ∧ x5 ≤ 23) (k6 : 0 ≤ x6 ∧ x6 ≤ 24) (k15 : 0 ≤ x15 ∧ x15 ≤ 0) (k16 : 1 ≤ x16 ∧ x16 ≤ 1) (k17 : 1 ≤ x17 ∧ x17 ≤ 24) (d0 : x5 + 1 ≤ x17 ∧ x17 ≤ x5 + 1) (g0 : x17 = nodes_0) (f6 : x17 = x5 + x16) (g7 : x5 = nodes_1) (f8 : nodes_1 = x6) (f9 : nodes_1 ≤ 23) (f10 : GKE (nodes_1) (edges_1) (tail_1) (head_1)) (f12 : nodes_2 = x6) (f13 : nodes_2 ≤ 23) (f14 : GNB (nodes_2) (edges_2) (near_2) (tail_2) (head_2)) (f15 : GKE (nodes_2) (edges_2) (tail_2) (head_2)) (f17 : nodes_3 = x6) (f18 : nodes_3 ≤ 23) (f19 : GNB (nodes_3) (edges_3) (near_3) (tail_3) (head_3)) (f20 : GKE (nodes_3) (edges_3) (tail_3) (head_3)) (f22 : nodes_4 = x6) (f23 : nodes_4 ≤ 23) (f24 : GNB (nodes_4) (edges_4) (near_4) (tail_4) (head_4)) (f25 : GKE (nodes_4) (edges_4) (tail_4) (head_4)) (f27 : nodes_5 = x6) (f28 : nodes_5 ≤ 23) (f29 : GNB (nodes_5) (edges_5) (near_5) (tail_5) (head_5)) (f30 : GKE (nodes_5) (edges_5) (tail_5) (head_5)) (fe_0_0_1 : nodes_0 = x17) (fe_0_1_1 : edges_0 = edges_1) (fe_0_0_2 : nodes_1 = nodes_2) (fe_0_1_2 : edges_1 = edges_2) (fe_0_0_3 : nodes_2 = nodes_3) (fe_0_1_3 : edges_2 = edges_3) (fe_0_0_4 : nodes_3 = nodes_4) (fe_0_1_4 : edges_3 = edges_4) (fe_0_0_5 : nodes_4 = nodes_5) (fe_0_1_5 : edges_4 = edges_5) (hE_0_4_1 : ∀ j : Int, nameLength_0 j = nameLength_1 j) (hE_0_4_2 : ∀ j : Int, nameLength_1 j = nameLength_2 j) (hE_0_4_3 : ∀ j : Int, nameLength_2 j = nameLength_3 j) (hE_0_4_4 : ∀ j : Int, nameLength_3 j = nameLength_4 j) (hE_0_4_5 : ∀ j : Int, 0 ≤ j → (j = x5 → nameLength_4 j = x3) ∧ (j ≠ x5 → nameLength_4 j = nameLength_5 j)) (hK_0_4 : ∀ j : Int, 0 ≤ j → j < 24 → 0 ≤ nameLength_0 j ∧ nameLength_0 j ≤ 8) (hE_0_5_1 : ∀ j : Int, size_0 j = size_1 j) (hE_0_5_2 : ∀ j : Int, size_1 j = size_2 j) (hE_0_5_3 : ∀ j : Int, size_2 j = size_3 j) (hE_0_5_4 : ∀ j : Int, 0 ≤ j → (j = x5 → size_3 j = x12) ∧ (j ≠ x5 → size_3 j = size_4 j)) (hE_0_5_5 : ∀ j : Int, size_4 j = size_5 j) (hK_0_5 : ∀ j : Int, 0 ≤ j → j < 24 → 0 ≤ size_0 j ∧ size_0 j ≤ 99) (hE_0_6_1 : ∀ j : Int, groupOf_0 j = groupOf_1 j) (hE_0_6_2 : ∀ j : Int, groupOf_1 j = groupOf_2 j) (hE_0_6_3 : ∀ j : Int, 0 ≤ j → (j = x5 → groupOf_2 j = x4) ∧ (j ≠ x5 → groupOf_2 j = groupOf_3 j)) (hE_0_6_4 : ∀ j : Int, groupOf_3 j = groupOf_4 j) (hE_0_6_5 : ∀ j : Int, groupOf_4 j = groupOf_5 j) (hK_0_6 : ∀ j : Int, 0 ≤ j → j < 24 → 0 ≤ groupOf_0 j ∧ groupOf_0 j ≤ 7) (hE_0_7_1 : ∀ j : Int, tail_0 j = tail_1 j) (hE_0_7_2 : ∀ j : Int, tail_1 j = tail_2 j) (hE_0_7_3 : ∀ j : Int, tail_2 j = tail_3 j) (hE_0_7_4 : ∀ j : Int, tail_3 j = tail_4 j) (hE_0_7_5 : ∀ j : Int, tail_4 j = tail_5 j) (hK_0_7 : ∀ j : Int, 0 ≤ j → j < 48 → 0 ≤ tail_0 j ∧ tail_0 j ≤ 23) (hE_0_8_1 : ∀ j : Int, head_0 j = head_1 j) (hE_0_8_2 : ∀ j : Int, head_1 j = head_2 j) (hE_0_8_3 : ∀ j : Int, head_2 j = head_3 j) (hE_0_8_4 : ∀ j : Int, head_3 j = head_4 j) (hE_0_8_5 : ∀ j : Int, head_4 j = head_5 j) (hK_0_8 : ∀ j : Int, 0 ≤ j → j < 48 → 0 ≤ head_0 j ∧ head_0 j ≤ 23) (hE_0_14_1 : ∀ j : Int, near_0 j = near_1 j) (hE_0_14_2 : ∀ j : Int, 0 ≤ j → (j = x5 → near_1 j = x15) ∧ (j ≠ x5 → near_1 j = near_2 j)) (hE_0_14_3 : ∀ j : Int, near_2 j = near_3 j) (hE_0_14_4 : ∀ j : Int, near_3 j = near_4 j) (hE_0_14_5 : ∀ j : Int, near_4 j = near_5 j) (hK_0_14 : ∀ j : Int, 0 ≤ j → j < 24 → 0 ≤ near_0 j ∧ near_0 j ≤ 16777215) (kz_0_0 : 0 ≤ nodes_0 ∧ nodes_0 ≤ 24) (kz_0_1 : 0 ≤ edges_0 ∧ edges_0 ≤ 48) : nodes_0 = (x6 + 1) := by
  subst fe_0_1_1
  subst fe_0_0_2
  subst fe_0_1_2
  subst fe_0_0_3
  subst fe_0_1_3
  subst fe_0_0_4
  subst fe_0_1_4
  subst fe_0_0_5
  subst fe_0_1_5
  have e_hE_0_4_1 := funext hE_0_4_1; subst e_hE_0_4_1
  have e_hE_0_4_2 := funext hE_0_4_2; subst e_hE_0_4_2
  have e_hE_0_4_3 := funext hE_0_4_3; subst e_hE_0_4_3
  have e_hE_0_4_4 := funext hE_0_4_4; subst e_hE_0_4_4
  have e_hE_0_5_1 := funext hE_0_5_1; subst e_hE_0_5_1
  have e_hE_0_5_2 := funext hE_0_5_2; subst e_hE_0_5_2
  have e_hE_0_5_3 := funext hE_0_5_3; subst e_hE_0_5_3
  have e_hE_0_5_5 := funext hE_0_5_5; subst e_hE_0_5_5
  have e_hE_0_6_1 := funext hE_0_6_1; subst e_hE_0_6_1
  have e_hE_0_6_2 := funext hE_0_6_2; subst e_hE_0_6_2
  have e_hE_0_6_4 := funext hE_0_6_4; subst e_hE_0_6_4
  have e_hE_0_6_5 := funext hE_0_6_5; subst e_hE_0_6_5
  have e_hE_0_7_1 := funext hE_0_7_1; subst e_hE_0_7_1
  have e_hE_0_7_2 := funext hE_0_7_2; subst e_hE_0_7_2
  have e_hE_0_7_3 := funext hE_0_7_3; subst e_hE_0_7_3
  have e_hE_0_7_4 := funext hE_0_7_4; subst e_hE_0_7_4
  have e_hE_0_7_5 := funext hE_0_7_5; subst e_hE_0_7_5
  have e_hE_0_8_1 := funext hE_0_8_1; subst e_hE_0_8_1
  have e_hE_0_8_2 := funext hE_0_8_2; subst e_hE_0_8_2
  have e_hE_0_8_3 := funext hE_0_8_3; subst e_hE_0_8_3
  have e_hE_0_8_4 := funext hE_0_8_4; subst e_hE_0_8_4
  have e_hE_0_8_5 := funext hE_0_8_5; subst e_hE_0_8_5
  have e_hE_0_14_1 := funext hE_0_14_1; subst e_hE_0_14_1
  have e_hE_0_14_3 := funext hE_0_14_3; subst e_hE_0_14_3
  have e_hE_0_14_4 := funext hE_0_14_4; subst e_hE_0_14_4
  have e_hE_0_14_5 := funext hE_0_14_5; subst e_hE_0_14_5
  first
    | omega
  
set_option maxHeartbeats 4000000 in
theorem vc_Gr_addNode_at_Gr_newGrperform45_1_3 (x5 : Int) (x6 : Int) (x15 : Int) (x16 : Int) (x17 : Int) (nodes_0 : Int) (nodes_1 : Int) (tail_1 : Int → Int) (head_1 : Int → Int) (edges_1 : Int) (nodes_2 : Int) (near_2 : Int → Int) (tail_2 : Int → Int) (head_2 : Int → Int) (edges_2 : Int) (nodes_3 : Int) (near_3 : Int → Int) (tail_3 : Int → Int) (head_3 : Int → Int) (edges_3 : Int) (nodes_4 : Int) (near_4 : Int → Int) (tail_4 : Int → Int) (head_4 : Int → Int) (edges_4 : Int) (nodes_5 : Int) (near_5 : Int → Int) (tail_5 : Int → Int) (head_5 : Int → Int) (edges_5 : Int) (edges_0 : Int) (nameLength_0 : Int → Int) (nameLength_1 : Int → Int) (nameLength_2 : Int → Int) (nameLength_3 : Int → Int) (nameLength_4 : Int → Int) (nameLength_5 : Int → Int) (x3 : Int) (size_0 : Int → Int) (size_1 : Int → Int) (size_2 : Int → Int) (size_3 : Int → Int) (size_4 : Int → Int) (x12 : Int) (size_5 : Int → Int) (groupOf_0 : Int → Int) (groupOf_1 : Int → Int) (groupOf_2 : Int → Int) (groupOf_3 : Int → Int) (x4 : Int) (groupOf_4 : Int → Int) (groupOf_5 : Int → Int) (tail_0 : Int → Int) (head_0 : Int → Int) (near_0 : Int → Int) (near_1 : Int → Int) (k5 : 0 ≤ x5 ∧ x5 ≤ 23) (k6 : 0 ≤ x6 ∧ x6 ≤ 24) (k15 : 0 ≤ x15 ∧ x15 ≤ 0) (k16 : 1 ≤ x16 ∧ x16 ≤ 1) (k17 : 1 ≤ x17 ∧ x17 ≤ 24) (d0 : x5 + 1 ≤ x17 ∧ x17 ≤ x5 + 1) (g0 : x17 = nodes_0) (f6 : x17 = x5 + x16) (g7 : x5 = nodes_1) (f8 : nodes_1 = x6) (f9 : nodes_1 ≤ 23) (f10 : GKE (nodes_1) (edges_1) (tail_1) (head_1)) (f12 : nodes_2 = x6) (f13 : nodes_2 ≤ 23) (f14 : GNB (nodes_2) (edges_2) (near_2) (tail_2) (head_2)) (f15 : GKE (nodes_2) (edges_2) (tail_2) (head_2)) (f17 : nodes_3 = x6) (f18 : nodes_3 ≤ 23) (f19 : GNB (nodes_3) (edges_3) (near_3) (tail_3) (head_3)) (f20 : GKE (nodes_3) (edges_3) (tail_3) (head_3)) (f22 : nodes_4 = x6) (f23 : nodes_4 ≤ 23) (f24 : GNB (nodes_4) (edges_4) (near_4) (tail_4) (head_4)) (f25 : GKE (nodes_4) (edges_4) (tail_4) (head_4)) (f27 : nodes_5 = x6) (f28 : nodes_5 ≤ 23) (f29 : GNB (nodes_5) (edges_5) (near_5) (tail_5) (head_5)) (f30 : GKE (nodes_5) (edges_5) (tail_5) (head_5)) (fe_0_0_1 : nodes_0 = x17) (fe_0_1_1 : edges_0 = edges_1) (fe_0_0_2 : nodes_1 = nodes_2) (fe_0_1_2 : edges_1 = edges_2) (fe_0_0_3 : nodes_2 = nodes_3) (fe_0_1_3 : edges_2 = edges_3) (fe_0_0_4 : nodes_3 = nodes_4) (fe_0_1_4 : edges_3 = edges_4) (fe_0_0_5 : nodes_4 = nodes_5) (fe_0_1_5 : edges_4 = edges_5) (hE_0_4_1 : ∀ j : Int, nameLength_0 j = nameLength_1 j) (hE_0_4_2 : ∀ j : Int, nameLength_1 j = nameLength_2 j) (hE_0_4_3 : ∀ j : Int, nameLength_2 j = nameLength_3 j) (hE_0_4_4 : ∀ j : Int, nameLength_3 j = nameLength_4 j) (hE_0_4_5 : ∀ j : Int, 0 ≤ j → (j = x5 → nameLength_4 j = x3) ∧ (j ≠ x5 → nameLength_4 j = nameLength_5 j)) (hK_0_4 : ∀ j : Int, 0 ≤ j → j < 24 → 0 ≤ nameLength_0 j ∧ nameLength_0 j ≤ 8) (hE_0_5_1 : ∀ j : Int, size_0 j = size_1 j) (hE_0_5_2 : ∀ j : Int, size_1 j = size_2 j) (hE_0_5_3 : ∀ j : Int, size_2 j = size_3 j) (hE_0_5_4 : ∀ j : Int, 0 ≤ j → (j = x5 → size_3 j = x12) ∧ (j ≠ x5 → size_3 j = size_4 j)) (hE_0_5_5 : ∀ j : Int, size_4 j = size_5 j) (hK_0_5 : ∀ j : Int, 0 ≤ j → j < 24 → 0 ≤ size_0 j ∧ size_0 j ≤ 99) (hE_0_6_1 : ∀ j : Int, groupOf_0 j = groupOf_1 j) (hE_0_6_2 : ∀ j : Int, groupOf_1 j = groupOf_2 j) (hE_0_6_3 : ∀ j : Int, 0 ≤ j → (j = x5 → groupOf_2 j = x4) ∧ (j ≠ x5 → groupOf_2 j = groupOf_3 j)) (hE_0_6_4 : ∀ j : Int, groupOf_3 j = groupOf_4 j) (hE_0_6_5 : ∀ j : Int, groupOf_4 j = groupOf_5 j) (hK_0_6 : ∀ j : Int, 0 ≤ j → j < 24 → 0 ≤ groupOf_0 j ∧ groupOf_0 j ≤ 7) (hE_0_7_1 : ∀ j : Int, tail_0 j = tail_1 j) (hE_0_7_2 : ∀ j : Int, tail_1 j = tail_2 j) (hE_0_7_3 : ∀ j : Int, tail_2 j = tail_3 j) (hE_0_7_4 : ∀ j : Int, tail_3 j = tail_4 j) (hE_0_7_5 : ∀ j : Int, tail_4 j = tail_5 j) (hK_0_7 : ∀ j : Int, 0 ≤ j → j < 48 → 0 ≤ tail_0 j ∧ tail_0 j ≤ 23) (hE_0_8_1 : ∀ j : Int, head_0 j = head_1 j) (hE_0_8_2 : ∀ j : Int, head_1 j = head_2 j) (hE_0_8_3 : ∀ j : Int, head_2 j = head_3 j) (hE_0_8_4 : ∀ j : Int, head_3 j = head_4 j) (hE_0_8_5 : ∀ j : Int, head_4 j = head_5 j) (hK_0_8 : ∀ j : Int, 0 ≤ j → j < 48 → 0 ≤ head_0 j ∧ head_0 j ≤ 23) (hE_0_14_1 : ∀ j : Int, near_0 j = near_1 j) (hE_0_14_2 : ∀ j : Int, 0 ≤ j → (j = x5 → near_1 j = x15) ∧ (j ≠ x5 → near_1 j = near_2 j)) (hE_0_14_3 : ∀ j : Int, near_2 j = near_3 j) (hE_0_14_4 : ∀ j : Int, near_3 j = near_4 j) (hE_0_14_5 : ∀ j : Int, near_4 j = near_5 j) (hK_0_14 : ∀ j : Int, 0 ≤ j → j < 24 → 0 ≤ near_0 j ∧ near_0 j ≤ 16777215) (kz_0_0 : 0 ≤ nodes_0 ∧ nodes_0 ≤ 24) (kz_0_1 : 0 ≤ edges_0 ∧ edges_0 ≤ 48) : x5 = x6 := by
  subst fe_0_1_1
  subst fe_0_0_2
  subst fe_0_1_2
  subst fe_0_0_3
  subst fe_0_1_3
  subst fe_0_0_4
  subst fe_0_1_4
  subst fe_0_0_5
  subst fe_0_1_5
  have e_hE_0_4_1 := funext hE_0_4_1; subst e_hE_0_4_1
  have e_hE_0_4_2 := funext hE_0_4_2; subst e_hE_0_4_2
  have e_hE_0_4_3 := funext hE_0_4_3; subst e_hE_0_4_3
  have e_hE_0_4_4 := funext hE_0_4_4; subst e_hE_0_4_4
  have e_hE_0_5_1 := funext hE_0_5_1; subst e_hE_0_5_1
  have e_hE_0_5_2 := funext hE_0_5_2; subst e_hE_0_5_2
  have e_hE_0_5_3 := funext hE_0_5_3; subst e_hE_0_5_3
  have e_hE_0_5_5 := funext hE_0_5_5; subst e_hE_0_5_5
  have e_hE_0_6_1 := funext hE_0_6_1; subst e_hE_0_6_1
  have e_hE_0_6_2 := funext hE_0_6_2; subst e_hE_0_6_2
  have e_hE_0_6_4 := funext hE_0_6_4; subst e_hE_0_6_4
  have e_hE_0_6_5 := funext hE_0_6_5; subst e_hE_0_6_5
  have e_hE_0_7_1 := funext hE_0_7_1; subst e_hE_0_7_1
  have e_hE_0_7_2 := funext hE_0_7_2; subst e_hE_0_7_2
  have e_hE_0_7_3 := funext hE_0_7_3; subst e_hE_0_7_3
  have e_hE_0_7_4 := funext hE_0_7_4; subst e_hE_0_7_4
  have e_hE_0_7_5 := funext hE_0_7_5; subst e_hE_0_7_5
  have e_hE_0_8_1 := funext hE_0_8_1; subst e_hE_0_8_1
  have e_hE_0_8_2 := funext hE_0_8_2; subst e_hE_0_8_2
  have e_hE_0_8_3 := funext hE_0_8_3; subst e_hE_0_8_3
  have e_hE_0_8_4 := funext hE_0_8_4; subst e_hE_0_8_4
  have e_hE_0_8_5 := funext hE_0_8_5; subst e_hE_0_8_5
  have e_hE_0_14_1 := funext hE_0_14_1; subst e_hE_0_14_1
  have e_hE_0_14_3 := funext hE_0_14_3; subst e_hE_0_14_3
  have e_hE_0_14_4 := funext hE_0_14_4; subst e_hE_0_14_4
  have e_hE_0_14_5 := funext hE_0_14_5; subst e_hE_0_14_5
  first
    | omega
  
def o_Gr_addNode_at_Gr_newGrperform45_1 : or_T := (66, 18, [(0, (2, 0, 0, [3])), (5, (0, 0, 23, [])), (6, (0, 0, 24, [])), (10, (2, 0, 0, [49])), (11, (2, 0, 0, [50])), (13, (2, 0, 0, [51])), (14, (2, 0, 0, [59])), (15, (0, 0, 0, [])), (16, (0, 1, 1, [])), (17, (0, 1, 24, []))], [(9, [17, 0], [0]), (9, [14, 0], [14]), (9, [13, 0], [6]), (9, [11, 0], [5]), (9, [10, 0], [4]), (101, [0, 17], [0]), (1, [17, 5, 16], []), (9, [5, 0], [0]), (20, [0, 6], [50, 1, 0, 0, 1, 3, 2, 0, 0, 1, 1]), (20, [0], [50, 1, 0, 0, 0, 3, 2, 0, 0, 0, 23]), (20, [0], [60, 2, 2, 596, 0, 1, 7, 8]), (100, [14, 5, 15], []), (20, [0, 6], [50, 1, 0, 0, 1, 3, 2, 0, 0, 1, 1]), (20, [0], [50, 1, 0, 0, 0, 3, 2, 0, 0, 0, 23]), (20, [0], [60, 2, 3, 670, 0, 1, 14, 7, 8]), (20, [0], [60, 2, 2, 596, 0, 1, 7, 8]), (100, [13, 5, 4], []), (20, [0, 6], [50, 1, 0, 0, 1, 3, 2, 0, 0, 1, 1]), (20, [0], [50, 1, 0, 0, 0, 3, 2, 0, 0, 0, 23]), (20, [0], [60, 2, 3, 670, 0, 1, 14, 7, 8]), (20, [0], [60, 2, 2, 596, 0, 1, 7, 8]), (100, [11, 5, 12], []), (20, [0, 6], [50, 1, 0, 0, 1, 3, 2, 0, 0, 1, 1]), (20, [0], [50, 1, 0, 0, 0, 3, 2, 0, 0, 0, 23]), (20, [0], [60, 2, 3, 670, 0, 1, 14, 7, 8]), (20, [0], [60, 2, 2, 596, 0, 1, 7, 8]), (100, [10, 5, 3], []), (20, [0, 6], [50, 1, 0, 0, 1, 3, 2, 0, 0, 1, 1]), (20, [0], [50, 1, 0, 0, 0, 3, 2, 0, 0, 0, 23]), (20, [0], [60, 2, 3, 670, 0, 1, 14, 7, 8]), (20, [0], [60, 2, 2, 596, 0, 1, 7, 8])], [], [], [(20, [0], [60, 2, 3, 670, 0, 1, 14, 7, 8]), (20, [0], [60, 2, 2, 596, 0, 1, 7, 8]), (20, [0, 6], [50, 1, 0, 0, 1, 3, 2, 0, 0, 4, 2, 1, 1, 0, 1]), (20, [5, 6], [50, 0, 0, 1, 2, 1, 0, 1, 1])], [], [(17, 5, 1, 1)])
theorem oo_Gr_addNode_at_Gr_newGrperform45_1 {kA : Nat → ClassId} : or_ok PRD kA GG o_Gr_addNode_at_Gr_newGrperform45_1 := by
  refine or_mk fun A ta ws vs hD hth hl => ?_
  intro t0 r0 t5 k5 t6 k6 t10 r10 t11 r11 t13 r13 t14 r14 t15 k15 t16 k16 t17 k17 d0 f0 f1 f2 f3 f4 ta1 w1 le1 s1 f6 f7 f8 f9 f10 ta2 w2 le2 s2 f12 f13 f14 f15 ta3 w3 le3 s3 f17 f18 f19 f20 ta4 w4 le4 s4 f22 f23 f24 f25 ta5 w5 le5 s5 f27 f28 f29 f30
  replace f0 := shm_163 f0
  replace f1 := shm_115 f1
  replace f2 := shm_111 f2
  replace f3 := shm_110 f3
  replace f4 := shm_108 f4
  have s1 : (∀ b j, w_el ws b j = w_el w1 b j) ∧ ∀ b j, w_fd ws b j = if b = v_ad (n_v vs 0) ∧ j = 0 then n_v vs 17 else w_fd w1 b j := s1.2
  replace f7 := shm_163 f7
  replace f10 := shm_386 f10
  have s2 : (∀ b j, w_el w1 b j = if b = v_ad (n_v vs 14) ∧ j = (v_iv (n_v vs 5)).toNat then v_iv (n_v vs 15) else w_el w2 b j) ∧ ∀ b k, w_fd w1 b k = w_fd w2 b k := s2.2
  replace f14 := shm_825 f14
  replace f15 := shm_386 f15
  have s3 : (∀ b j, w_el w2 b j = if b = v_ad (n_v vs 13) ∧ j = (v_iv (n_v vs 5)).toNat then v_iv (n_v vs 4) else w_el w3 b j) ∧ ∀ b k, w_fd w2 b k = w_fd w3 b k := s3.2
  replace f19 := shm_825 f19
  replace f20 := shm_386 f20
  have s4 : (∀ b j, w_el w3 b j = if b = v_ad (n_v vs 11) ∧ j = (v_iv (n_v vs 5)).toNat then v_iv (n_v vs 12) else w_el w4 b j) ∧ ∀ b k, w_fd w3 b k = w_fd w4 b k := s4.2
  replace f24 := shm_825 f24
  replace f25 := shm_386 f25
  have s5 : (∀ b j, w_el w4 b j = if b = v_ad (n_v vs 10) ∧ j = (v_iv (n_v vs 5)).toNat then v_iv (n_v vs 3) else w_el w5 b j) ∧ ∀ b k, w_fd w4 b k = w_fd w5 b k := s5.2
  replace f29 := shm_825 f29
  replace f30 := shm_386 f30
  have cr_0_4 := fdq_4 hD hth r0
  have cr_0_5 := fdq_69 hD hth r0
  have cr_0_6 := fdq_212 hD hth r0
  have ar_0_7_1 : w_ar w1 (n_v vs 0) 7 = w_ar ws (n_v vs 0) 7 := by show v_ad (w_fd w1 _ _) = v_ad (w_fd ws _ _); rw [s1.2, if_neg (fun e => absurd e.2 (by decide))]
  have ar_0_7_2 : w_ar w2 (n_v vs 0) 7 = w_ar ws (n_v vs 0) 7 := by rw [← ar_0_7_1]; show v_ad (w_fd w2 _ _) = v_ad (w_fd w1 _ _); rw [s2.2]
  have ar_0_7_3 : w_ar w3 (n_v vs 0) 7 = w_ar ws (n_v vs 0) 7 := by rw [← ar_0_7_2]; show v_ad (w_fd w3 _ _) = v_ad (w_fd w2 _ _); rw [s3.2]
  have ar_0_7_4 : w_ar w4 (n_v vs 0) 7 = w_ar ws (n_v vs 0) 7 := by rw [← ar_0_7_3]; show v_ad (w_fd w4 _ _) = v_ad (w_fd w3 _ _); rw [s4.2]
  have ar_0_7_5 : w_ar w5 (n_v vs 0) 7 = w_ar ws (n_v vs 0) 7 := by rw [← ar_0_7_4]; show v_ad (w_fd w5 _ _) = v_ad (w_fd w4 _ _); rw [s5.2]
  have cr_0_7 := fdq_46 hD hth r0
  have ar_0_8_1 : w_ar w1 (n_v vs 0) 8 = w_ar ws (n_v vs 0) 8 := by show v_ad (w_fd w1 _ _) = v_ad (w_fd ws _ _); rw [s1.2, if_neg (fun e => absurd e.2 (by decide))]
  have ar_0_8_2 : w_ar w2 (n_v vs 0) 8 = w_ar ws (n_v vs 0) 8 := by rw [← ar_0_8_1]; show v_ad (w_fd w2 _ _) = v_ad (w_fd w1 _ _); rw [s2.2]
  have ar_0_8_3 : w_ar w3 (n_v vs 0) 8 = w_ar ws (n_v vs 0) 8 := by rw [← ar_0_8_2]; show v_ad (w_fd w3 _ _) = v_ad (w_fd w2 _ _); rw [s3.2]
  have ar_0_8_4 : w_ar w4 (n_v vs 0) 8 = w_ar ws (n_v vs 0) 8 := by rw [← ar_0_8_3]; show v_ad (w_fd w4 _ _) = v_ad (w_fd w3 _ _); rw [s4.2]
  have ar_0_8_5 : w_ar w5 (n_v vs 0) 8 = w_ar ws (n_v vs 0) 8 := by rw [← ar_0_8_4]; show v_ad (w_fd w5 _ _) = v_ad (w_fd w4 _ _); rw [s5.2]
  have cr_0_8 := fdq_47 hD hth r0
  have ar_0_14_1 : w_ar w1 (n_v vs 0) 14 = w_ar ws (n_v vs 0) 14 := by show v_ad (w_fd w1 _ _) = v_ad (w_fd ws _ _); rw [s1.2, if_neg (fun e => absurd e.2 (by decide))]
  have ar_0_14_2 : w_ar w2 (n_v vs 0) 14 = w_ar ws (n_v vs 0) 14 := by rw [← ar_0_14_1]; show v_ad (w_fd w2 _ _) = v_ad (w_fd w1 _ _); rw [s2.2]
  have ar_0_14_3 : w_ar w3 (n_v vs 0) 14 = w_ar ws (n_v vs 0) 14 := by rw [← ar_0_14_2]; show v_ad (w_fd w3 _ _) = v_ad (w_fd w2 _ _); rw [s3.2]
  have ar_0_14_4 : w_ar w4 (n_v vs 0) 14 = w_ar ws (n_v vs 0) 14 := by rw [← ar_0_14_3]; show v_ad (w_fd w4 _ _) = v_ad (w_fd w3 _ _); rw [s4.2]
  have ar_0_14_5 : w_ar w5 (n_v vs 0) 14 = w_ar ws (n_v vs 0) 14 := by rw [← ar_0_14_4]; show v_ad (w_fd w5 _ _) = v_ad (w_fd w4 _ _); rw [s5.2]
  have cr_0_14 := fdq_75 hD hth r0
  have ad_14 : v_ad (n_v vs 14) = w_ar ws (n_v vs 0) 14 := congrArg v_ad f1
  have ad_13 : v_ad (n_v vs 13) = w_ar ws (n_v vs 0) 6 := congrArg v_ad f2
  have ad_11 : v_ad (n_v vs 11) = w_ar ws (n_v vs 0) 5 := congrArg v_ad f3
  have ad_10 : v_ad (n_v vs 10) = w_ar ws (n_v vs 0) 4 := congrArg v_ad f4
  have g0 : v_iv (n_v vs 17) = w_fi ws (n_v vs 0) 0 := congrArg v_iv f0
  have g7 : v_iv (n_v vs 5) = w_fi w1 (n_v vs 0) 0 := congrArg v_iv f7
  simp only [ar_0_7_1, ar_0_8_1, ar_0_7_2, ar_0_8_2, ar_0_14_2, ar_0_7_3, ar_0_8_3, ar_0_14_3, ar_0_7_4, ar_0_8_4, ar_0_14_4, ar_0_7_5, ar_0_8_5, ar_0_14_5] at f10 f14 f15 f19 f20 f24 f25 f29 f30
  have fe_0_0_1 : w_fi ws (n_v vs 0) 0 = v_iv (n_v vs 17) := by show v_iv (w_fd _ _ _) = _; rw [s1.2, if_pos ⟨rfl, rfl⟩]
  have fe_0_1_1 : w_fi ws (n_v vs 0) 1 = w_fi w1 (n_v vs 0) 1 := by show v_iv (w_fd _ _ _) = v_iv (w_fd _ _ _); rw [s1.2, if_neg (fun e => absurd e.2 (by decide))]
  have fe_0_0_2 : w_fi w1 (n_v vs 0) 0 = w_fi w2 (n_v vs 0) 0 := congrArg v_iv (s2.2 _ _)
  have fe_0_1_2 : w_fi w1 (n_v vs 0) 1 = w_fi w2 (n_v vs 0) 1 := congrArg v_iv (s2.2 _ _)
  have fe_0_0_3 : w_fi w2 (n_v vs 0) 0 = w_fi w3 (n_v vs 0) 0 := congrArg v_iv (s3.2 _ _)
  have fe_0_1_3 : w_fi w2 (n_v vs 0) 1 = w_fi w3 (n_v vs 0) 1 := congrArg v_iv (s3.2 _ _)
  have fe_0_0_4 : w_fi w3 (n_v vs 0) 0 = w_fi w4 (n_v vs 0) 0 := congrArg v_iv (s4.2 _ _)
  have fe_0_1_4 : w_fi w3 (n_v vs 0) 1 = w_fi w4 (n_v vs 0) 1 := congrArg v_iv (s4.2 _ _)
  have fe_0_0_5 : w_fi w4 (n_v vs 0) 0 = w_fi w5 (n_v vs 0) 0 := congrArg v_iv (s5.2 _ _)
  have fe_0_1_5 : w_fi w4 (n_v vs 0) 1 = w_fi w5 (n_v vs 0) 1 := congrArg v_iv (s5.2 _ _)
  have hE_0_4_1 : ∀ j : Int, w_ei ws (w_ar ws (n_v vs 0) 4) j = w_ei w1 (w_ar ws (n_v vs 0) 4) j := fun j => s1.1 _ _
  have hE_0_4_2 : ∀ j : Int, w_ei w1 (w_ar ws (n_v vs 0) 4) j = w_ei w2 (w_ar ws (n_v vs 0) 4) j := el_kp s2.1 r14 cr_0_4 (by decide)
  have hE_0_4_3 : ∀ j : Int, w_ei w2 (w_ar ws (n_v vs 0) 4) j = w_ei w3 (w_ar ws (n_v vs 0) 4) j := el_kp s3.1 r13 cr_0_4 (by decide)
  have hE_0_4_4 : ∀ j : Int, w_ei w3 (w_ar ws (n_v vs 0) 4) j = w_ei w4 (w_ar ws (n_v vs 0) 4) j := el_kp s4.1 r11 cr_0_4 (by decide)
  have hE_0_4_5 : ∀ j : Int, 0 ≤ j → (j = v_iv (n_v vs 5) → w_ei w4 (w_ar ws (n_v vs 0) 4) j = v_iv (n_v vs 3)) ∧ (j ≠ v_iv (n_v vs 5) → w_ei w4 (w_ar ws (n_v vs 0) 4) j = w_ei w5 (w_ar ws (n_v vs 0) 4) j) := fun j hj => ⟨fun h => by unfold w_ei; rw [s5.1, if_pos ⟨ad_10.symm, by rw [h]⟩], fun h => by unfold w_ei; rw [s5.1, if_neg (fun e => h (by have := e.2; omega))]⟩
  have hK_0_4 := elq_3 hD hth cr_0_4
  have hE_0_5_1 : ∀ j : Int, w_ei ws (w_ar ws (n_v vs 0) 5) j = w_ei w1 (w_ar ws (n_v vs 0) 5) j := fun j => s1.1 _ _
  have hE_0_5_2 : ∀ j : Int, w_ei w1 (w_ar ws (n_v vs 0) 5) j = w_ei w2 (w_ar ws (n_v vs 0) 5) j := el_kp s2.1 r14 cr_0_5 (by decide)
  have hE_0_5_3 : ∀ j : Int, w_ei w2 (w_ar ws (n_v vs 0) 5) j = w_ei w3 (w_ar ws (n_v vs 0) 5) j := el_kp s3.1 r13 cr_0_5 (by decide)
  have hE_0_5_4 : ∀ j : Int, 0 ≤ j → (j = v_iv (n_v vs 5) → w_ei w3 (w_ar ws (n_v vs 0) 5) j = v_iv (n_v vs 12)) ∧ (j ≠ v_iv (n_v vs 5) → w_ei w3 (w_ar ws (n_v vs 0) 5) j = w_ei w4 (w_ar ws (n_v vs 0) 5) j) := fun j hj => ⟨fun h => by unfold w_ei; rw [s4.1, if_pos ⟨ad_11.symm, by rw [h]⟩], fun h => by unfold w_ei; rw [s4.1, if_neg (fun e => h (by have := e.2; omega))]⟩
  have hE_0_5_5 : ∀ j : Int, w_ei w4 (w_ar ws (n_v vs 0) 5) j = w_ei w5 (w_ar ws (n_v vs 0) 5) j := el_kp s5.1 r10 cr_0_5 (by decide)
  have hK_0_5 := elq_126 hD hth cr_0_5
  have hE_0_6_1 : ∀ j : Int, w_ei ws (w_ar ws (n_v vs 0) 6) j = w_ei w1 (w_ar ws (n_v vs 0) 6) j := fun j => s1.1 _ _
  have hE_0_6_2 : ∀ j : Int, w_ei w1 (w_ar ws (n_v vs 0) 6) j = w_ei w2 (w_ar ws (n_v vs 0) 6) j := el_kp s2.1 r14 cr_0_6 (by decide)
  have hE_0_6_3 : ∀ j : Int, 0 ≤ j → (j = v_iv (n_v vs 5) → w_ei w2 (w_ar ws (n_v vs 0) 6) j = v_iv (n_v vs 4)) ∧ (j ≠ v_iv (n_v vs 5) → w_ei w2 (w_ar ws (n_v vs 0) 6) j = w_ei w3 (w_ar ws (n_v vs 0) 6) j) := fun j hj => ⟨fun h => by unfold w_ei; rw [s3.1, if_pos ⟨ad_13.symm, by rw [h]⟩], fun h => by unfold w_ei; rw [s3.1, if_neg (fun e => h (by have := e.2; omega))]⟩
  have hE_0_6_4 : ∀ j : Int, w_ei w3 (w_ar ws (n_v vs 0) 6) j = w_ei w4 (w_ar ws (n_v vs 0) 6) j := el_kp s4.1 r11 cr_0_6 (by decide)
  have hE_0_6_5 : ∀ j : Int, w_ei w4 (w_ar ws (n_v vs 0) 6) j = w_ei w5 (w_ar ws (n_v vs 0) 6) j := el_kp s5.1 r10 cr_0_6 (by decide)
  have hK_0_6 := elq_127 hD hth cr_0_6
  have hE_0_7_1 : ∀ j : Int, w_ei ws (w_ar ws (n_v vs 0) 7) j = w_ei w1 (w_ar ws (n_v vs 0) 7) j := fun j => s1.1 _ _
  have hE_0_7_2 : ∀ j : Int, w_ei w1 (w_ar ws (n_v vs 0) 7) j = w_ei w2 (w_ar ws (n_v vs 0) 7) j := el_kp s2.1 r14 cr_0_7 (by decide)
  have hE_0_7_3 : ∀ j : Int, w_ei w2 (w_ar ws (n_v vs 0) 7) j = w_ei w3 (w_ar ws (n_v vs 0) 7) j := el_kp s3.1 r13 cr_0_7 (by decide)
  have hE_0_7_4 : ∀ j : Int, w_ei w3 (w_ar ws (n_v vs 0) 7) j = w_ei w4 (w_ar ws (n_v vs 0) 7) j := el_kp s4.1 r11 cr_0_7 (by decide)
  have hE_0_7_5 : ∀ j : Int, w_ei w4 (w_ar ws (n_v vs 0) 7) j = w_ei w5 (w_ar ws (n_v vs 0) 7) j := el_kp s5.1 r10 cr_0_7 (by decide)
  have hK_0_7 := elq_11 hD hth cr_0_7
  have hE_0_8_1 : ∀ j : Int, w_ei ws (w_ar ws (n_v vs 0) 8) j = w_ei w1 (w_ar ws (n_v vs 0) 8) j := fun j => s1.1 _ _
  have hE_0_8_2 : ∀ j : Int, w_ei w1 (w_ar ws (n_v vs 0) 8) j = w_ei w2 (w_ar ws (n_v vs 0) 8) j := el_kp s2.1 r14 cr_0_8 (by decide)
  have hE_0_8_3 : ∀ j : Int, w_ei w2 (w_ar ws (n_v vs 0) 8) j = w_ei w3 (w_ar ws (n_v vs 0) 8) j := el_kp s3.1 r13 cr_0_8 (by decide)
  have hE_0_8_4 : ∀ j : Int, w_ei w3 (w_ar ws (n_v vs 0) 8) j = w_ei w4 (w_ar ws (n_v vs 0) 8) j := el_kp s4.1 r11 cr_0_8 (by decide)
  have hE_0_8_5 : ∀ j : Int, w_ei w4 (w_ar ws (n_v vs 0) 8) j = w_ei w5 (w_ar ws (n_v vs 0) 8) j := el_kp s5.1 r10 cr_0_8 (by decide)
  have hK_0_8 := elq_12 hD hth cr_0_8
  have hE_0_14_1 : ∀ j : Int, w_ei ws (w_ar ws (n_v vs 0) 14) j = w_ei w1 (w_ar ws (n_v vs 0) 14) j := fun j => s1.1 _ _
  have hE_0_14_2 : ∀ j : Int, 0 ≤ j → (j = v_iv (n_v vs 5) → w_ei w1 (w_ar ws (n_v vs 0) 14) j = v_iv (n_v vs 15)) ∧ (j ≠ v_iv (n_v vs 5) → w_ei w1 (w_ar ws (n_v vs 0) 14) j = w_ei w2 (w_ar ws (n_v vs 0) 14) j) := fun j hj => ⟨fun h => by unfold w_ei; rw [s2.1, if_pos ⟨ad_14.symm, by rw [h]⟩], fun h => by unfold w_ei; rw [s2.1, if_neg (fun e => h (by have := e.2; omega))]⟩
  have hE_0_14_3 : ∀ j : Int, w_ei w2 (w_ar ws (n_v vs 0) 14) j = w_ei w3 (w_ar ws (n_v vs 0) 14) j := el_kp s3.1 r13 cr_0_14 (by decide)
  have hE_0_14_4 : ∀ j : Int, w_ei w3 (w_ar ws (n_v vs 0) 14) j = w_ei w4 (w_ar ws (n_v vs 0) 14) j := el_kp s4.1 r11 cr_0_14 (by decide)
  have hE_0_14_5 : ∀ j : Int, w_ei w4 (w_ar ws (n_v vs 0) 14) j = w_ei w5 (w_ar ws (n_v vs 0) 14) j := el_kp s5.1 r10 cr_0_14 (by decide)
  have hK_0_14 := elq_25 hD hth cr_0_14
  have kz_0_0 := fdq_21 hD hth r0
  have kz_0_1 := fdq_30 hD hth r0
  have nf0 : fc_1 PRD (20, [0], [60, 2, 3, 670, 0, 1, 14, 7, 8]) ws (vs) := ⟨nf_in hl rfl, sgq_825 (vc_Gr_addNode_at_Gr_newGrperform45_1_0 (v_iv (n_v vs 5)) (v_iv (n_v vs 6)) (v_iv (n_v vs 15)) (v_iv (n_v vs 16)) (v_iv (n_v vs 17)) (w_fi ws (n_v vs 0) 0) (w_fi w1 (n_v vs 0) 0) (w_ei w1 (w_ar ws (n_v vs 0) 7)) (w_ei w1 (w_ar ws (n_v vs 0) 8)) (w_fi w1 (n_v vs 0) 1) (w_fi w2 (n_v vs 0) 0) (w_ei w2 (w_ar ws (n_v vs 0) 14)) (w_ei w2 (w_ar ws (n_v vs 0) 7)) (w_ei w2 (w_ar ws (n_v vs 0) 8)) (w_fi w2 (n_v vs 0) 1) (w_fi w3 (n_v vs 0) 0) (w_ei w3 (w_ar ws (n_v vs 0) 14)) (w_ei w3 (w_ar ws (n_v vs 0) 7)) (w_ei w3 (w_ar ws (n_v vs 0) 8)) (w_fi w3 (n_v vs 0) 1) (w_fi w4 (n_v vs 0) 0) (w_ei w4 (w_ar ws (n_v vs 0) 14)) (w_ei w4 (w_ar ws (n_v vs 0) 7)) (w_ei w4 (w_ar ws (n_v vs 0) 8)) (w_fi w4 (n_v vs 0) 1) (w_fi w5 (n_v vs 0) 0) (w_ei w5 (w_ar ws (n_v vs 0) 14)) (w_ei w5 (w_ar ws (n_v vs 0) 7)) (w_ei w5 (w_ar ws (n_v vs 0) 8)) (w_fi w5 (n_v vs 0) 1) (w_fi ws (n_v vs 0) 1) (w_ei ws (w_ar ws (n_v vs 0) 4)) (w_ei w1 (w_ar ws (n_v vs 0) 4)) (w_ei w2 (w_ar ws (n_v vs 0) 4)) (w_ei w3 (w_ar ws (n_v vs 0) 4)) (w_ei w4 (w_ar ws (n_v vs 0) 4)) (w_ei w5 (w_ar ws (n_v vs 0) 4)) (v_iv (n_v vs 3)) (w_ei ws (w_ar ws (n_v vs 0) 5)) (w_ei w1 (w_ar ws (n_v vs 0) 5)) (w_ei w2 (w_ar ws (n_v vs 0) 5)) (w_ei w3 (w_ar ws (n_v vs 0) 5)) (w_ei w4 (w_ar ws (n_v vs 0) 5)) (v_iv (n_v vs 12)) (w_ei w5 (w_ar ws (n_v vs 0) 5)) (w_ei ws (w_ar ws (n_v vs 0) 6)) (w_ei w1 (w_ar ws (n_v vs 0) 6)) (w_ei w2 (w_ar ws (n_v vs 0) 6)) (w_ei w3 (w_ar ws (n_v vs 0) 6)) (v_iv (n_v vs 4)) (w_ei w4 (w_ar ws (n_v vs 0) 6)) (w_ei w5 (w_ar ws (n_v vs 0) 6)) (w_ei ws (w_ar ws (n_v vs 0) 7)) (w_ei ws (w_ar ws (n_v vs 0) 8)) (w_ei ws (w_ar ws (n_v vs 0) 14)) (w_ei w1 (w_ar ws (n_v vs 0) 14)) k5 k6 k15 k16 k17 d0 g0 (shm_12 f6) g7 (shm_570 f8) (shm_832 f9) f10 (shm_570 f12) (shm_832 f13) f14 f15 (shm_570 f17) (shm_832 f18) f19 f20 (shm_570 f22) (shm_832 f23) f24 f25 (shm_570 f27) (shm_832 f28) f29 f30 fe_0_0_1 fe_0_1_1 fe_0_0_2 fe_0_1_2 fe_0_0_3 fe_0_1_3 fe_0_0_4 fe_0_1_4 fe_0_0_5 fe_0_1_5 hE_0_4_1 hE_0_4_2 hE_0_4_3 hE_0_4_4 hE_0_4_5 hK_0_4 hE_0_5_1 hE_0_5_2 hE_0_5_3 hE_0_5_4 hE_0_5_5 hK_0_5 hE_0_6_1 hE_0_6_2 hE_0_6_3 hE_0_6_4 hE_0_6_5 hK_0_6 hE_0_7_1 hE_0_7_2 hE_0_7_3 hE_0_7_4 hE_0_7_5 hK_0_7 hE_0_8_1 hE_0_8_2 hE_0_8_3 hE_0_8_4 hE_0_8_5 hK_0_8 hE_0_14_1 hE_0_14_2 hE_0_14_3 hE_0_14_4 hE_0_14_5 hK_0_14 kz_0_0 kz_0_1)⟩
  have nf1 : fc_1 PRD (20, [0], [60, 2, 2, 596, 0, 1, 7, 8]) ws (vs) := ⟨nf_in hl rfl, sgq_386 (vc_Gr_addNode_at_Gr_newGrperform45_1_1 (v_iv (n_v vs 5)) (v_iv (n_v vs 6)) (v_iv (n_v vs 15)) (v_iv (n_v vs 16)) (v_iv (n_v vs 17)) (w_fi ws (n_v vs 0) 0) (w_fi w1 (n_v vs 0) 0) (w_ei w1 (w_ar ws (n_v vs 0) 7)) (w_ei w1 (w_ar ws (n_v vs 0) 8)) (w_fi w1 (n_v vs 0) 1) (w_fi w2 (n_v vs 0) 0) (w_ei w2 (w_ar ws (n_v vs 0) 14)) (w_ei w2 (w_ar ws (n_v vs 0) 7)) (w_ei w2 (w_ar ws (n_v vs 0) 8)) (w_fi w2 (n_v vs 0) 1) (w_fi w3 (n_v vs 0) 0) (w_ei w3 (w_ar ws (n_v vs 0) 14)) (w_ei w3 (w_ar ws (n_v vs 0) 7)) (w_ei w3 (w_ar ws (n_v vs 0) 8)) (w_fi w3 (n_v vs 0) 1) (w_fi w4 (n_v vs 0) 0) (w_ei w4 (w_ar ws (n_v vs 0) 14)) (w_ei w4 (w_ar ws (n_v vs 0) 7)) (w_ei w4 (w_ar ws (n_v vs 0) 8)) (w_fi w4 (n_v vs 0) 1) (w_fi w5 (n_v vs 0) 0) (w_ei w5 (w_ar ws (n_v vs 0) 14)) (w_ei w5 (w_ar ws (n_v vs 0) 7)) (w_ei w5 (w_ar ws (n_v vs 0) 8)) (w_fi w5 (n_v vs 0) 1) (w_fi ws (n_v vs 0) 1) (w_ei ws (w_ar ws (n_v vs 0) 4)) (w_ei w1 (w_ar ws (n_v vs 0) 4)) (w_ei w2 (w_ar ws (n_v vs 0) 4)) (w_ei w3 (w_ar ws (n_v vs 0) 4)) (w_ei w4 (w_ar ws (n_v vs 0) 4)) (w_ei w5 (w_ar ws (n_v vs 0) 4)) (v_iv (n_v vs 3)) (w_ei ws (w_ar ws (n_v vs 0) 5)) (w_ei w1 (w_ar ws (n_v vs 0) 5)) (w_ei w2 (w_ar ws (n_v vs 0) 5)) (w_ei w3 (w_ar ws (n_v vs 0) 5)) (w_ei w4 (w_ar ws (n_v vs 0) 5)) (v_iv (n_v vs 12)) (w_ei w5 (w_ar ws (n_v vs 0) 5)) (w_ei ws (w_ar ws (n_v vs 0) 6)) (w_ei w1 (w_ar ws (n_v vs 0) 6)) (w_ei w2 (w_ar ws (n_v vs 0) 6)) (w_ei w3 (w_ar ws (n_v vs 0) 6)) (v_iv (n_v vs 4)) (w_ei w4 (w_ar ws (n_v vs 0) 6)) (w_ei w5 (w_ar ws (n_v vs 0) 6)) (w_ei ws (w_ar ws (n_v vs 0) 7)) (w_ei ws (w_ar ws (n_v vs 0) 8)) (w_ei ws (w_ar ws (n_v vs 0) 14)) (w_ei w1 (w_ar ws (n_v vs 0) 14)) k5 k6 k15 k16 k17 d0 g0 (shm_12 f6) g7 (shm_570 f8) (shm_832 f9) f10 (shm_570 f12) (shm_832 f13) f14 f15 (shm_570 f17) (shm_832 f18) f19 f20 (shm_570 f22) (shm_832 f23) f24 f25 (shm_570 f27) (shm_832 f28) f29 f30 fe_0_0_1 fe_0_1_1 fe_0_0_2 fe_0_1_2 fe_0_0_3 fe_0_1_3 fe_0_0_4 fe_0_1_4 fe_0_0_5 fe_0_1_5 hE_0_4_1 hE_0_4_2 hE_0_4_3 hE_0_4_4 hE_0_4_5 hK_0_4 hE_0_5_1 hE_0_5_2 hE_0_5_3 hE_0_5_4 hE_0_5_5 hK_0_5 hE_0_6_1 hE_0_6_2 hE_0_6_3 hE_0_6_4 hE_0_6_5 hK_0_6 hE_0_7_1 hE_0_7_2 hE_0_7_3 hE_0_7_4 hE_0_7_5 hK_0_7 hE_0_8_1 hE_0_8_2 hE_0_8_3 hE_0_8_4 hE_0_8_5 hK_0_8 hE_0_14_1 hE_0_14_2 hE_0_14_3 hE_0_14_4 hE_0_14_5 hK_0_14 kz_0_0 kz_0_1)⟩
  have nf2 : fc_1 PRD (20, [0, 6], [50, 1, 0, 0, 1, 3, 2, 0, 0, 4, 2, 1, 1, 0, 1]) ws (vs) := ⟨nf_in hl rfl, sgq_839 (vc_Gr_addNode_at_Gr_newGrperform45_1_2 (v_iv (n_v vs 5)) (v_iv (n_v vs 6)) (v_iv (n_v vs 15)) (v_iv (n_v vs 16)) (v_iv (n_v vs 17)) (w_fi ws (n_v vs 0) 0) (w_fi w1 (n_v vs 0) 0) (w_ei w1 (w_ar ws (n_v vs 0) 7)) (w_ei w1 (w_ar ws (n_v vs 0) 8)) (w_fi w1 (n_v vs 0) 1) (w_fi w2 (n_v vs 0) 0) (w_ei w2 (w_ar ws (n_v vs 0) 14)) (w_ei w2 (w_ar ws (n_v vs 0) 7)) (w_ei w2 (w_ar ws (n_v vs 0) 8)) (w_fi w2 (n_v vs 0) 1) (w_fi w3 (n_v vs 0) 0) (w_ei w3 (w_ar ws (n_v vs 0) 14)) (w_ei w3 (w_ar ws (n_v vs 0) 7)) (w_ei w3 (w_ar ws (n_v vs 0) 8)) (w_fi w3 (n_v vs 0) 1) (w_fi w4 (n_v vs 0) 0) (w_ei w4 (w_ar ws (n_v vs 0) 14)) (w_ei w4 (w_ar ws (n_v vs 0) 7)) (w_ei w4 (w_ar ws (n_v vs 0) 8)) (w_fi w4 (n_v vs 0) 1) (w_fi w5 (n_v vs 0) 0) (w_ei w5 (w_ar ws (n_v vs 0) 14)) (w_ei w5 (w_ar ws (n_v vs 0) 7)) (w_ei w5 (w_ar ws (n_v vs 0) 8)) (w_fi w5 (n_v vs 0) 1) (w_fi ws (n_v vs 0) 1) (w_ei ws (w_ar ws (n_v vs 0) 4)) (w_ei w1 (w_ar ws (n_v vs 0) 4)) (w_ei w2 (w_ar ws (n_v vs 0) 4)) (w_ei w3 (w_ar ws (n_v vs 0) 4)) (w_ei w4 (w_ar ws (n_v vs 0) 4)) (w_ei w5 (w_ar ws (n_v vs 0) 4)) (v_iv (n_v vs 3)) (w_ei ws (w_ar ws (n_v vs 0) 5)) (w_ei w1 (w_ar ws (n_v vs 0) 5)) (w_ei w2 (w_ar ws (n_v vs 0) 5)) (w_ei w3 (w_ar ws (n_v vs 0) 5)) (w_ei w4 (w_ar ws (n_v vs 0) 5)) (v_iv (n_v vs 12)) (w_ei w5 (w_ar ws (n_v vs 0) 5)) (w_ei ws (w_ar ws (n_v vs 0) 6)) (w_ei w1 (w_ar ws (n_v vs 0) 6)) (w_ei w2 (w_ar ws (n_v vs 0) 6)) (w_ei w3 (w_ar ws (n_v vs 0) 6)) (v_iv (n_v vs 4)) (w_ei w4 (w_ar ws (n_v vs 0) 6)) (w_ei w5 (w_ar ws (n_v vs 0) 6)) (w_ei ws (w_ar ws (n_v vs 0) 7)) (w_ei ws (w_ar ws (n_v vs 0) 8)) (w_ei ws (w_ar ws (n_v vs 0) 14)) (w_ei w1 (w_ar ws (n_v vs 0) 14)) k5 k6 k15 k16 k17 d0 g0 (shm_12 f6) g7 (shm_570 f8) (shm_832 f9) f10 (shm_570 f12) (shm_832 f13) f14 f15 (shm_570 f17) (shm_832 f18) f19 f20 (shm_570 f22) (shm_832 f23) f24 f25 (shm_570 f27) (shm_832 f28) f29 f30 fe_0_0_1 fe_0_1_1 fe_0_0_2 fe_0_1_2 fe_0_0_3 fe_0_1_3 fe_0_0_4 fe_0_1_4 fe_0_0_5 fe_0_1_5 hE_0_4_1 hE_0_4_2 hE_0_4_3 hE_0_4_4 hE_0_4_5 hK_0_4 hE_0_5_1 hE_0_5_2 hE_0_5_3 hE_0_5_4 hE_0_5_5 hK_0_5 hE_0_6_1 hE_0_6_2 hE_0_6_3 hE_0_6_4 hE_0_6_5 hK_0_6 hE_0_7_1 hE_0_7_2 hE_0_7_3 hE_0_7_4 hE_0_7_5 hK_0_7 hE_0_8_1 hE_0_8_2 hE_0_8_3 hE_0_8_4 hE_0_8_5 hK_0_8 hE_0_14_1 hE_0_14_2 hE_0_14_3 hE_0_14_4 hE_0_14_5 hK_0_14 kz_0_0 kz_0_1)⟩
  have nf3 : fc_1 PRD (20, [5, 6], [50, 0, 0, 1, 2, 1, 0, 1, 1]) ws (vs) := ⟨nf_in hl rfl, sgq_48 (vc_Gr_addNode_at_Gr_newGrperform45_1_3 (v_iv (n_v vs 5)) (v_iv (n_v vs 6)) (v_iv (n_v vs 15)) (v_iv (n_v vs 16)) (v_iv (n_v vs 17)) (w_fi ws (n_v vs 0) 0) (w_fi w1 (n_v vs 0) 0) (w_ei w1 (w_ar ws (n_v vs 0) 7)) (w_ei w1 (w_ar ws (n_v vs 0) 8)) (w_fi w1 (n_v vs 0) 1) (w_fi w2 (n_v vs 0) 0) (w_ei w2 (w_ar ws (n_v vs 0) 14)) (w_ei w2 (w_ar ws (n_v vs 0) 7)) (w_ei w2 (w_ar ws (n_v vs 0) 8)) (w_fi w2 (n_v vs 0) 1) (w_fi w3 (n_v vs 0) 0) (w_ei w3 (w_ar ws (n_v vs 0) 14)) (w_ei w3 (w_ar ws (n_v vs 0) 7)) (w_ei w3 (w_ar ws (n_v vs 0) 8)) (w_fi w3 (n_v vs 0) 1) (w_fi w4 (n_v vs 0) 0) (w_ei w4 (w_ar ws (n_v vs 0) 14)) (w_ei w4 (w_ar ws (n_v vs 0) 7)) (w_ei w4 (w_ar ws (n_v vs 0) 8)) (w_fi w4 (n_v vs 0) 1) (w_fi w5 (n_v vs 0) 0) (w_ei w5 (w_ar ws (n_v vs 0) 14)) (w_ei w5 (w_ar ws (n_v vs 0) 7)) (w_ei w5 (w_ar ws (n_v vs 0) 8)) (w_fi w5 (n_v vs 0) 1) (w_fi ws (n_v vs 0) 1) (w_ei ws (w_ar ws (n_v vs 0) 4)) (w_ei w1 (w_ar ws (n_v vs 0) 4)) (w_ei w2 (w_ar ws (n_v vs 0) 4)) (w_ei w3 (w_ar ws (n_v vs 0) 4)) (w_ei w4 (w_ar ws (n_v vs 0) 4)) (w_ei w5 (w_ar ws (n_v vs 0) 4)) (v_iv (n_v vs 3)) (w_ei ws (w_ar ws (n_v vs 0) 5)) (w_ei w1 (w_ar ws (n_v vs 0) 5)) (w_ei w2 (w_ar ws (n_v vs 0) 5)) (w_ei w3 (w_ar ws (n_v vs 0) 5)) (w_ei w4 (w_ar ws (n_v vs 0) 5)) (v_iv (n_v vs 12)) (w_ei w5 (w_ar ws (n_v vs 0) 5)) (w_ei ws (w_ar ws (n_v vs 0) 6)) (w_ei w1 (w_ar ws (n_v vs 0) 6)) (w_ei w2 (w_ar ws (n_v vs 0) 6)) (w_ei w3 (w_ar ws (n_v vs 0) 6)) (v_iv (n_v vs 4)) (w_ei w4 (w_ar ws (n_v vs 0) 6)) (w_ei w5 (w_ar ws (n_v vs 0) 6)) (w_ei ws (w_ar ws (n_v vs 0) 7)) (w_ei ws (w_ar ws (n_v vs 0) 8)) (w_ei ws (w_ar ws (n_v vs 0) 14)) (w_ei w1 (w_ar ws (n_v vs 0) 14)) k5 k6 k15 k16 k17 d0 g0 (shm_12 f6) g7 (shm_570 f8) (shm_832 f9) f10 (shm_570 f12) (shm_832 f13) f14 f15 (shm_570 f17) (shm_832 f18) f19 f20 (shm_570 f22) (shm_832 f23) f24 f25 (shm_570 f27) (shm_832 f28) f29 f30 fe_0_0_1 fe_0_1_1 fe_0_0_2 fe_0_1_2 fe_0_0_3 fe_0_1_3 fe_0_0_4 fe_0_1_4 fe_0_0_5 fe_0_1_5 hE_0_4_1 hE_0_4_2 hE_0_4_3 hE_0_4_4 hE_0_4_5 hK_0_4 hE_0_5_1 hE_0_5_2 hE_0_5_3 hE_0_5_4 hE_0_5_5 hK_0_5 hE_0_6_1 hE_0_6_2 hE_0_6_3 hE_0_6_4 hE_0_6_5 hK_0_6 hE_0_7_1 hE_0_7_2 hE_0_7_3 hE_0_7_4 hE_0_7_5 hK_0_7 hE_0_8_1 hE_0_8_2 hE_0_8_3 hE_0_8_4 hE_0_8_5 hK_0_8 hE_0_14_1 hE_0_14_2 hE_0_14_3 hE_0_14_4 hE_0_14_5 hK_0_14 kz_0_0 kz_0_1)⟩
  refine ⟨(fun _ h => (by cases h)), [], trivial, ?_, (fun _ h => (by cases h))⟩
  rw [List.append_nil]
  exact List.forall_mem_cons.mpr ⟨⟨show (20 : Nat) < 100 from by decide, nf0⟩, List.forall_mem_cons.mpr ⟨⟨show (20 : Nat) < 100 from by decide, nf1⟩, List.forall_mem_cons.mpr ⟨⟨show (20 : Nat) < 100 from by decide, nf2⟩, List.forall_mem_cons.mpr ⟨⟨show (20 : Nat) < 100 from by decide, nf3⟩, (fun _ h => (by cases h))⟩⟩⟩⟩
def n_Gr_addNode_at_Gr_newGrperform45_an : List an_T := []
def t_Gr_addNode_at_Gr_newGrperform45_ct : ct_L := [(57, 77, e_acp_1)]
set_option maxRecDepth 100000 in
theorem c_Gr_addNode_at_Gr_newGrperform45 {l : Launch} {D : va_G} {kA : Nat → ClassId} : ct_ok PRD l D kA GG y_Gr_addNode_at_Gr_newGrperform45 z_Gr_addNode_at_Gr_newGrperform45 e_Gr_addNode_at_Gr_newGrperform45 := chk_all_ok (FT := [(9, 3, 0), (21, 3, 3), (25, 3, 4), (29, 3, 5), (32, 3, 6), (56, 3, 14)]) (PT := [(9, 3, 0, .int)]) (CT := t_Gr_addNode_at_Gr_newGrperform45_ct) (KT := []) (NT := []) (AN := n_Gr_addNode_at_Gr_newGrperform45_an) (OT := [o_Gr_addNode_at_Gr_newGrperform45_0, o_Gr_addNode_at_Gr_newGrperform45_1]) 0 200 (List.forall_mem_cons.mpr ⟨oo_Gr_addNode_at_Gr_newGrperform45_0, List.forall_mem_cons.mpr ⟨oo_Gr_addNode_at_Gr_newGrperform45_1, List.forall_mem_nil _⟩⟩) (by decide +kernel) ⟨List.forall_mem_cons.mpr ⟨gf_Gr_9, List.forall_mem_cons.mpr ⟨gf_Gr_21, List.forall_mem_cons.mpr ⟨gf_Gr_25, List.forall_mem_cons.mpr ⟨gf_Gr_29, List.forall_mem_cons.mpr ⟨gf_Gr_32, List.forall_mem_cons.mpr ⟨gf_Gr_56, List.forall_mem_nil _⟩⟩⟩⟩⟩⟩, List.forall_mem_cons.mpr ⟨pf_Gr_9, List.forall_mem_nil _⟩, List.forall_mem_cons.mpr ⟨cl_copy rfl rfl (by decide) (by decide) (by decide) wm_748 wm_750 wm_749 wm_15, List.forall_mem_nil _⟩, List.forall_mem_nil _, List.forall_mem_nil _, GG_pl⟩ (by decide +kernel)
set_option maxHeartbeats 4000000 in
theorem vc_Gr_clear_at_Gq_0_0 (x1 : Int) (x2 : Int) (edges_0 : Int) (nodes_0 : Int) (near_0 : Int → Int) (tail_0 : Int → Int) (head_0 : Int → Int) (k1 : 0 ≤ x1 ∧ x1 ≤ 0) (k2 : 0 ≤ x2 ∧ x2 ≤ 0) (g5 : x2 = edges_0) (g6 : x1 = nodes_0) (kz_0_0 : 0 ≤ nodes_0 ∧ nodes_0 ≤ 24) (kz_0_1 : 0 ≤ edges_0 ∧ edges_0 ≤ 48) : GNB (nodes_0) (edges_0) (near_0) (tail_0) (head_0) := by
  first
    | exact gnb_none2 (by omega) (by omega)
set_option maxHeartbeats 4000000 in
theorem vc_Gr_clear_at_Gq_0_1 (x2 : Int) (edges_0 : Int) (nodes_0 : Int) (tail_0 : Int → Int) (head_0 : Int → Int) (k2 : 0 ≤ x2 ∧ x2 ≤ 0) (g5 : x2 = edges_0) (kz_0_0 : 0 ≤ nodes_0 ∧ nodes_0 ≤ 24) (kz_0_1 : 0 ≤ edges_0 ∧ edges_0 ≤ 48) : GKE (nodes_0) (edges_0) (tail_0) (head_0) := by
  first
    | exact gke_none (by omega)
set_option maxHeartbeats 4000000 in
theorem vc_Gr_clear_at_Gq_0_2 (x4 : Int) (done_0 : Int) (k4 : 0 ≤ x4 ∧ x4 ≤ 0) (g3 : x4 = done_0) (kz_0_17 : 0 ≤ done_0 ∧ done_0 ≤ 30) : done_0 = 0 := by
  first
    | omega
  
set_option maxHeartbeats 4000000 in
theorem vc_Gr_clear_at_Gq_0_3 (x5 : Int) (undone_0 : Int) (k5 : 0 ≤ x5 ∧ x5 ≤ 0) (g2 : x5 = undone_0) (kz_0_18 : 0 ≤ undone_0 ∧ undone_0 ≤ 30) : undone_0 = 0 := by
  first
    | omega
  
set_option maxHeartbeats 4000000 in
theorem vc_Gr_clear_at_Gq_0_4 (x2 : Int) (x9 : Int) (edges_0 : Int) (link_0 : Int → Int) (tail_0 : Int → Int) (head_0 : Int → Int) (k2 : 0 ≤ x2 ∧ x2 ≤ 0) (k9 : (-1) ≤ x9 ∧ x9 ≤ (-1)) (g5 : x2 = edges_0) (hT8 : ∀ j : Int, 0 ≤ j → j < x9 + 577 → (-1) ≤ link_0 j ∧ link_0 j ≤ (-1)) (kz_0_1 : 0 ≤ edges_0 ∧ edges_0 ≤ 48) : LKG (edges_0) (tail_0) (head_0) (link_0) := by
  refine lkq_0 (fun j a b => ?_) (by omega)
  have h := hT8 j a (by omega)
  omega
set_option maxHeartbeats 4000000 in
theorem vc_Gr_clear_at_Gq_0_5 (x1 : Int) (x2 : Int) (x3 : Int) (groups_0 : Int) (edges_0 : Int) (nodes_0 : Int) (k1 : 0 ≤ x1 ∧ x1 ≤ 0) (k2 : 0 ≤ x2 ∧ x2 ≤ 0) (k3 : 1 ≤ x3 ∧ x3 ≤ 1) (g4 : x3 = groups_0) (g5 : x2 = edges_0) (g6 : x1 = nodes_0) (kz_0_0 : 0 ≤ nodes_0 ∧ nodes_0 ≤ 24) (kz_0_1 : 0 ≤ edges_0 ∧ edges_0 ≤ 48) (kz_0_2 : 0 ≤ groups_0 ∧ groups_0 ≤ 8) : (nodes_0 = 0) ∧ ((edges_0 = 0) ∧ (groups_0 = 1)) := by
  first
    | omega
  
def o_Gr_clear_at_Gq_0 : or_T := (41, 10, [(0, (2, 0, 0, [164])), (1, (0, 0, 0, [])), (2, (0, 0, 0, [])), (3, (0, 1, 1, [])), (4, (0, 0, 0, [])), (5, (0, 0, 0, [])), (9, (0, -1, -1, []))], [(9, [8, 0], [15]), (9, [5, 0], [18]), (9, [4, 0], [17]), (9, [3, 0], [2]), (9, [2, 0], [1]), (9, [1, 0], [0]), (20, [8, 9], [8, -1, -1, 577])], [], [], [(20, [0], [60, 2, 3, 670, 0, 1, 14, 7, 8]), (20, [0], [60, 2, 2, 596, 0, 1, 7, 8]), (20, [0], [50, 1, 0, 17, 1, 3, 2, 0, 17, 0, 0]), (20, [0], [50, 1, 0, 18, 1, 3, 2, 0, 18, 0, 0]), (20, [0], [60, 1, 3, 1085, 1, 7, 8, 15]), (20, [0], [50, 3, 0, 0, 1, 2, 2, 7, 1, 3, 2, 0, 0, 0, 0, 2, 7, 1, 3, 2, 0, 1, 0, 0, 1, 3, 2, 0, 2, 0, 1])], [], [])
theorem oo_Gr_clear_at_Gq_0 {kA : Nat → ClassId} : or_ok PRD kA GG o_Gr_clear_at_Gq_0 := by
  refine or_mk fun A ta ws vs hD hth hl => ?_
  intro t0 r0 t1 k1 t2 k2 t3 k3 t4 k4 t5 k5 t9 k9 f0 f2 f3 f4 f5 f6 f8
  replace f0 := shm_177 f0
  replace f2 := shm_799 f2
  replace f3 := shm_795 f3
  replace f4 := shm_120 f4
  replace f5 := shm_215 f5
  replace f6 := shm_163 f6
  replace f8 := shm_19 f8
  have ad_8 : v_ad (n_v vs 8) = w_ar ws (n_v vs 0) 15 := congrArg v_ad f0
  have g2 : v_iv (n_v vs 5) = w_fi ws (n_v vs 0) 18 := congrArg v_iv f2
  have g3 : v_iv (n_v vs 4) = w_fi ws (n_v vs 0) 17 := congrArg v_iv f3
  have g4 : v_iv (n_v vs 3) = w_fi ws (n_v vs 0) 2 := congrArg v_iv f4
  have g5 : v_iv (n_v vs 2) = w_fi ws (n_v vs 0) 1 := congrArg v_iv f5
  have g6 : v_iv (n_v vs 1) = w_fi ws (n_v vs 0) 0 := congrArg v_iv f6
  have hT8 : ∀ j : Int, 0 ≤ j → j < v_iv (n_v vs 9) + 577 → (-1) ≤ w_ei ws (w_ar ws (n_v vs 0) 15) j ∧ w_ei ws (w_ar ws (n_v vs 0) 15) j ≤ (-1) := fun j h0 h1 => by have h2 := f8 j.toNat (by omega); rw [ad_8] at h2; exact h2
  have kz_0_0 := fdq_73 hD hth r0
  have kz_0_1 := fdq_74 hD hth r0
  have kz_0_2 := fdq_206 hD hth r0
  have kz_0_17 := fdq_213 hD hth r0
  have kz_0_18 := fdq_214 hD hth r0
  have nf0 : fc_1 PRD (20, [0], [60, 2, 3, 670, 0, 1, 14, 7, 8]) ws (vs) := ⟨nf_in hl rfl, sgq_825 (vc_Gr_clear_at_Gq_0_0 (v_iv (n_v vs 1)) (v_iv (n_v vs 2)) (w_fi ws (n_v vs 0) 1) (w_fi ws (n_v vs 0) 0) (w_ei ws (w_ar ws (n_v vs 0) 14)) (w_ei ws (w_ar ws (n_v vs 0) 7)) (w_ei ws (w_ar ws (n_v vs 0) 8)) k1 k2 g5 g6 kz_0_0 kz_0_1)⟩
  have nf1 : fc_1 PRD (20, [0], [60, 2, 2, 596, 0, 1, 7, 8]) ws (vs) := ⟨nf_in hl rfl, sgq_386 (vc_Gr_clear_at_Gq_0_1 (v_iv (n_v vs 2)) (w_fi ws (n_v vs 0) 1) (w_fi ws (n_v vs 0) 0) (w_ei ws (w_ar ws (n_v vs 0) 7)) (w_ei ws (w_ar ws (n_v vs 0) 8)) k2 g5 kz_0_0 kz_0_1)⟩
  have nf2 : fc_1 PRD (20, [0], [50, 1, 0, 17, 1, 3, 2, 0, 17, 0, 0]) ws (vs) := ⟨nf_in hl rfl, sgq_841 (vc_Gr_clear_at_Gq_0_2 (v_iv (n_v vs 4)) (w_fi ws (n_v vs 0) 17) k4 g3 kz_0_17)⟩
  have nf3 : fc_1 PRD (20, [0], [50, 1, 0, 18, 1, 3, 2, 0, 18, 0, 0]) ws (vs) := ⟨nf_in hl rfl, sgq_842 (vc_Gr_clear_at_Gq_0_3 (v_iv (n_v vs 5)) (w_fi ws (n_v vs 0) 18) k5 g2 kz_0_18)⟩
  have nf4 : fc_1 PRD (20, [0], [60, 1, 3, 1085, 1, 7, 8, 15]) ws (vs) := ⟨nf_in hl rfl, sgq_827 (vc_Gr_clear_at_Gq_0_4 (v_iv (n_v vs 2)) (v_iv (n_v vs 9)) (w_fi ws (n_v vs 0) 1) (w_ei ws (w_ar ws (n_v vs 0) 15)) (w_ei ws (w_ar ws (n_v vs 0) 7)) (w_ei ws (w_ar ws (n_v vs 0) 8)) k2 k9 g5 hT8 kz_0_1)⟩
  have nf5 : fc_1 PRD (20, [0], [50, 3, 0, 0, 1, 2, 2, 7, 1, 3, 2, 0, 0, 0, 0, 2, 7, 1, 3, 2, 0, 1, 0, 0, 1, 3, 2, 0, 2, 0, 1]) ws (vs) := ⟨nf_in hl rfl, sgq_843 (vc_Gr_clear_at_Gq_0_5 (v_iv (n_v vs 1)) (v_iv (n_v vs 2)) (v_iv (n_v vs 3)) (w_fi ws (n_v vs 0) 2) (w_fi ws (n_v vs 0) 1) (w_fi ws (n_v vs 0) 0) k1 k2 k3 g4 g5 g6 kz_0_0 kz_0_1 kz_0_2)⟩
  refine ⟨(fun _ h => (by cases h)), [], trivial, ?_, (fun _ h => (by cases h))⟩
  rw [List.append_nil]
  exact List.forall_mem_cons.mpr ⟨⟨show (20 : Nat) < 100 from by decide, nf0⟩, List.forall_mem_cons.mpr ⟨⟨show (20 : Nat) < 100 from by decide, nf1⟩, List.forall_mem_cons.mpr ⟨⟨show (20 : Nat) < 100 from by decide, nf2⟩, List.forall_mem_cons.mpr ⟨⟨show (20 : Nat) < 100 from by decide, nf3⟩, List.forall_mem_cons.mpr ⟨⟨show (20 : Nat) < 100 from by decide, nf4⟩, List.forall_mem_cons.mpr ⟨⟨show (20 : Nat) < 100 from by decide, nf5⟩, (fun _ h => (by cases h))⟩⟩⟩⟩⟩⟩
def n_Gr_clear_at_Gq_an : List an_T := []
def t_Gr_clear_at_Gq_ct : ct_L := [(93, 71, e_jArr_fill1_v9), (117, 71, e_jArr_fill1_v10)]
set_option maxRecDepth 100000 in
theorem c_Gr_clear_at_Gq {l : Launch} {D : va_G} {kA : Nat → ClassId} : ct_ok PRD l D kA GG y_Gr_clear_at_Gq z_Gr_clear_at_Gq e_Gr_clear_at_Gq := chk_all_ok (FT := [(56, 3, 14), (59, 3, 15)]) (PT := [(9, 3, 0, .int), (15, 3, 1, .int), (18, 3, 2, .int), (65, 3, 17, .int), (68, 3, 18, .int)]) (CT := t_Gr_clear_at_Gq_ct) (KT := []) (NT := []) (AN := n_Gr_clear_at_Gq_an) (OT := [o_Gr_clear_at_Gq_0]) 0 200 (List.forall_mem_cons.mpr ⟨oo_Gr_clear_at_Gq_0, List.forall_mem_nil _⟩) (by decide +kernel) ⟨List.forall_mem_cons.mpr ⟨gf_Gr_56, List.forall_mem_cons.mpr ⟨gf_Gr_59, List.forall_mem_nil _⟩⟩, List.forall_mem_cons.mpr ⟨pf_Gr_9, List.forall_mem_cons.mpr ⟨pf_Gr_15, List.forall_mem_cons.mpr ⟨pf_Gr_18, List.forall_mem_cons.mpr ⟨pf_Gr_65, List.forall_mem_cons.mpr ⟨pf_Gr_68, List.forall_mem_nil _⟩⟩⟩⟩⟩, List.forall_mem_cons.mpr ⟨cl_static (y := y_jArr_fill1) c_jArr_fill1_v9 wm_55 wm_4 wm_53 wm_54 ⟨by decide, by decide, by decide +kernel⟩ (by decide), List.forall_mem_cons.mpr ⟨cl_static (y := y_jArr_fill1) c_jArr_fill1_v10 wm_55 wm_4 wm_53 wm_54 ⟨by decide, by decide, by decide +kernel⟩ (by decide), List.forall_mem_nil _⟩⟩, List.forall_mem_nil _, List.forall_mem_nil _, GG_pl⟩ (by decide +kernel)

set_option maxHeartbeats 4000000 in
theorem vc_Gr_findNode_at_Gq_Retape_0_0 (x2 : Int) (x3 : Int) (x12 : Int) (a1_0 : Int → Int) (a4_0 : Int → Int) (a5_0 : Int → Int) (k2 : 0 ≤ x2 ∧ x2 ≤ 2000) (k3 : 0 ≤ x3 ∧ x3 ≤ 8) (k12 : 0 ≤ x12 ∧ x12 ≤ 0) : cFNI (a5_0) (a4_0) (a1_0) (x2) (x3) (x12) := by
  first
    | exact fni_0 (by omega)
    | exact fni_s (ans := 0) ‹cFNI _ _ _ _ _ _› (by omega) (Or.inl (by omega))
    | exact fni_s ‹cFNI _ _ _ _ _ _› (by omega) (Or.inr ⟨‹HLQ _ _ _ _ _ _›, by omega⟩)
def o_Gr_findNode_at_Gq_Retape_0 : or_T := (3, 13, [(2, (0, 0, 2000, [])), (3, (0, 0, 8, [])), (12, (0, 0, 0, []))], [], [], [], [(20, [5, 4, 1, 2, 3, 12], [61, 3, 1090]), (24, [5, 5], []), (24, [4, 4], []), (24, [0, 0], []), (24, [1, 1], []), (24, [2, 2], []), (24, [3, 3], [])], [], [])
theorem oo_Gr_findNode_at_Gq_Retape_0 {kA : Nat → ClassId} : or_ok PRD kA GG o_Gr_findNode_at_Gq_Retape_0 := by
  refine or_mk fun A ta ws vs hD hth hl => ?_
  intro t2 k2 t3 k3 t12 k12
  have nf0 : fc_1 PRD (20, [5, 4, 1, 2, 3, 12], [61, 3, 1090]) ws (vs) := ⟨nf_in hl rfl, sgq_846 (vc_Gr_findNode_at_Gq_Retape_0_0 (v_iv (n_v vs 2)) (v_iv (n_v vs 3)) (v_iv (n_v vs 12)) (w_ei ws (v_ad (n_v vs 1))) (w_ei ws (v_ad (n_v vs 4))) (w_ei ws (v_ad (n_v vs 5))) k2 k3 k12)⟩
  have nf1 : fc_1 PRD (24, [5, 5], []) ws (vs) := by
    refine ⟨nf_in hl rfl, sgq_1 ?_⟩
    · show n_v vs 5 = n_v vs 5
      first | rfl | simp only [true_and]
  have nf2 : fc_1 PRD (24, [4, 4], []) ws (vs) := by
    refine ⟨nf_in hl rfl, sgq_1 ?_⟩
    · show n_v vs 4 = n_v vs 4
      first | rfl | simp only [true_and]
  have nf3 : fc_1 PRD (24, [0, 0], []) ws (vs) := by
    refine ⟨nf_in hl rfl, sgq_1 ?_⟩
    · show n_v vs 0 = n_v vs 0
      first | rfl | simp only [true_and]
  have nf4 : fc_1 PRD (24, [1, 1], []) ws (vs) := by
    refine ⟨nf_in hl rfl, sgq_1 ?_⟩
    · show n_v vs 1 = n_v vs 1
      first | rfl | simp only [true_and]
  have nf5 : fc_1 PRD (24, [2, 2], []) ws (vs) := by
    refine ⟨nf_in hl rfl, sgq_1 ?_⟩
    · show n_v vs 2 = n_v vs 2
      first | rfl | simp only [true_and]
  have nf6 : fc_1 PRD (24, [3, 3], []) ws (vs) := by
    refine ⟨nf_in hl rfl, sgq_1 ?_⟩
    · show n_v vs 3 = n_v vs 3
      first | rfl | simp only [true_and]
  refine ⟨(fun _ h => (by cases h)), [], trivial, ?_, (fun _ h => (by cases h))⟩
  rw [List.append_nil]
  exact List.forall_mem_cons.mpr ⟨⟨show (20 : Nat) < 100 from by decide, nf0⟩, List.forall_mem_cons.mpr ⟨⟨show (24 : Nat) < 100 from by decide, nf1⟩, List.forall_mem_cons.mpr ⟨⟨show (24 : Nat) < 100 from by decide, nf2⟩, List.forall_mem_cons.mpr ⟨⟨show (24 : Nat) < 100 from by decide, nf3⟩, List.forall_mem_cons.mpr ⟨⟨show (24 : Nat) < 100 from by decide, nf4⟩, List.forall_mem_cons.mpr ⟨⟨show (24 : Nat) < 100 from by decide, nf5⟩, List.forall_mem_cons.mpr ⟨⟨show (24 : Nat) < 100 from by decide, nf6⟩, (fun _ h => (by cases h))⟩⟩⟩⟩⟩⟩⟩
set_option maxHeartbeats 4000000 in
theorem vc_Gr_findNode_at_Gq_Retape_1_0 (x11 : Int) (x20 : Int) (nodes_0 : Int) (k11 : 0 ≤ x11 ∧ x11 ≤ 24) (k20 : (-1) ≤ x20 ∧ x20 ≤ (-1)) (f6 : 1 * nodes_0 + ((-1) * x11 + 0) ≤ 0) (f7 : (-1) * nodes_0 + (1 * x11 + 0) ≤ 0) (kz_0_0 : 0 ≤ nodes_0 ∧ nodes_0 ≤ 24) : (x20 = (-1)) ∨ ((0 ≤ x20) ∧ ((x20 + 1) ≤ nodes_0)) := by
  first
    | omega
  
set_option maxHeartbeats 4000000 in
theorem vc_Gr_findNode_at_Gq_Retape_1_1 (x2 : Int) (x3 : Int) (x11 : Int) (x16 : Int) (x19 : Int) (x20 : Int) (nodes_0 : Int) (a5_0 : Int → Int) (a4_0 : Int → Int) (a1_0 : Int → Int) (k2 : 0 ≤ x2 ∧ x2 ≤ 2000) (k3 : 0 ≤ x3 ∧ x3 ≤ 8) (k11 : 0 ≤ x11 ∧ x11 ≤ 24) (k16 : 0 ≤ x16 ∧ x16 ≤ 24) (k19 : 0 ≤ x19 ∧ x19 ≤ 24) (k20 : (-1) ≤ x20 ∧ x20 ≤ (-1)) (d0 : x19 + 0 ≤ x16 ∧ x16 ≤ x19 + 4294967296) (g1 : x19 = nodes_0) (f3 : cFNI (a5_0) (a4_0) (a1_0) (x2) (x3) (x16)) (f6 : 1 * nodes_0 + ((-1) * x11 + 0) ≤ 0) (f7 : (-1) * nodes_0 + (1 * x11 + 0) ≤ 0) (kz_0_0 : 0 ≤ nodes_0 ∧ nodes_0 ≤ 24) : cFNp (a5_0) (a4_0) (a1_0) (x11) (x2) (x3) (x20) := by
  first
    | exact fnq_f ‹cFNI _ _ _ _ _ _› (by omega) (by omega)
    | exact fnq_t ‹cFNI _ _ _ _ _ _› (by omega) (by omega) ‹HLQ _ _ _ _ _ _› (by omega) (by omega)
set_option maxHeartbeats 4000000 in
theorem vc_Gr_findNode_at_Gq_Retape_1_2 (x11 : Int) (nodes_0 : Int) (k11 : 0 ≤ x11 ∧ x11 ≤ 24) (f6 : 1 * nodes_0 + ((-1) * x11 + 0) ≤ 0) (f7 : (-1) * nodes_0 + (1 * x11 + 0) ≤ 0) (kz_0_0 : 0 ≤ nodes_0 ∧ nodes_0 ≤ 24) : nodes_0 = x11 := by
  first
    | omega
  
def o_Gr_findNode_at_Gq_Retape_1 : or_T := (44, 21, [(0, (2, 0, 0, [164])), (2, (0, 0, 2000, [])), (3, (0, 0, 8, [])), (11, (0, 0, 24, [])), (16, (0, 0, 24, [])), (19, (0, 0, 24, [])), (20, (0, -1, -1, []))], [(9, [19, 12], [0]), (20, [18, 17, 13, 14, 15, 16], [61, 3, 1090]), (24, [5, 18], []), (24, [4, 17], []), (20, [12, 11], [30, 0, 1, 1, 0, -1, 0, 0]), (20, [12, 11], [30, 0, -1, 1, 0, 1, 0, 0]), (24, [0, 12], []), (24, [1, 13], []), (24, [2, 14], []), (24, [3, 15], [])], [], [], [(20, [20, 0], [50, 1, 0, 1000, 3, 6, 1, 2, 1, 0, 0, -1, 2, 6, 0, 2, 0, 0, 1, 0, 0, 6, 4, 2, 1, 0, 0, 1, 2, 1, 0]), (20, [5, 4, 1, 11, 2, 3, 20], [61, 3, 1091]), (20, [0, 11], [50, 1, 0, 0, 1, 3, 2, 0, 0, 1, 1])], [], [(16, 19, 0, 4294967296)])
theorem oo_Gr_findNode_at_Gq_Retape_1 {kA : Nat → ClassId} : or_ok PRD kA GG o_Gr_findNode_at_Gq_Retape_1 := by
  refine or_mk fun A ta ws vs hD hth hl => ?_
  intro t0 r0 t2 k2 t3 k3 t11 k11 t16 k16 t19 k19 t20 k20 d0 f1 f3 f4 f5 f6 f7 f8 f9 f10 f11
  replace f1 := shm_163 f1
  replace f3 := shm_846 f3
  replace f4 := shm_5 f4
  replace f5 := shm_5 f5
  replace f6 := shm_844 f6
  replace f7 := shm_845 f7
  replace f8 := shm_5 f8
  replace f9 := shm_5 f9
  replace f10 := shm_5 f10
  replace f11 := shm_5 f11
  have q18 : n_v vs 18 = n_v vs 5 := f4.symm
  have q17 : n_v vs 17 = n_v vs 4 := f5.symm
  have q12 : n_v vs 12 = n_v vs 0 := f8.symm
  have q13 : n_v vs 13 = n_v vs 1 := f9.symm
  have q14 : n_v vs 14 = n_v vs 2 := f10.symm
  have q15 : n_v vs 15 = n_v vs 3 := f11.symm
  simp only [q12, q14, q15, q18, q17, q13] at f1 f3 f6 f7
  have g1 : v_iv (n_v vs 19) = w_fi ws (n_v vs 0) 0 := congrArg v_iv f1
  have kz_0_0 := fdq_73 hD hth r0
  have nf0 : fc_1 PRD (20, [20, 0], [50, 1, 0, 1000, 3, 6, 1, 2, 1, 0, 0, -1, 2, 6, 0, 2, 0, 0, 1, 0, 0, 6, 4, 2, 1, 0, 0, 1, 2, 1, 0]) ws (vs) := ⟨nf_in hl rfl, sgq_847 (vc_Gr_findNode_at_Gq_Retape_1_0 (v_iv (n_v vs 11)) (v_iv (n_v vs 20)) (w_fi ws (n_v vs 0) 0) k11 k20 f6 f7 kz_0_0)⟩
  have nf1 : fc_1 PRD (20, [5, 4, 1, 11, 2, 3, 20], [61, 3, 1091]) ws (vs) := ⟨nf_in hl rfl, sgq_848 (vc_Gr_findNode_at_Gq_Retape_1_1 (v_iv (n_v vs 2)) (v_iv (n_v vs 3)) (v_iv (n_v vs 11)) (v_iv (n_v vs 16)) (v_iv (n_v vs 19)) (v_iv (n_v vs 20)) (w_fi ws (n_v vs 0) 0) (w_ei ws (v_ad (n_v vs 5))) (w_ei ws (v_ad (n_v vs 4))) (w_ei ws (v_ad (n_v vs 1))) k2 k3 k11 k16 k19 k20 d0 g1 f3 f6 f7 kz_0_0)⟩
  have nf2 : fc_1 PRD (20, [0, 11], [50, 1, 0, 0, 1, 3, 2, 0, 0, 1, 1]) ws (vs) := ⟨nf_in hl rfl, sgq_570 (vc_Gr_findNode_at_Gq_Retape_1_2 (v_iv (n_v vs 11)) (w_fi ws (n_v vs 0) 0) k11 f6 f7 kz_0_0)⟩
  refine ⟨(fun _ h => (by cases h)), [], trivial, ?_, (fun _ h => (by cases h))⟩
  rw [List.append_nil]
  exact List.forall_mem_cons.mpr ⟨⟨show (20 : Nat) < 100 from by decide, nf0⟩, List.forall_mem_cons.mpr ⟨⟨show (20 : Nat) < 100 from by decide, nf1⟩, List.forall_mem_cons.mpr ⟨⟨show (20 : Nat) < 100 from by decide, nf2⟩, (fun _ h => (by cases h))⟩⟩⟩
set_option maxHeartbeats 4000000 in
theorem vc_Gr_findNode_at_Gq_Retape_2_0 (x2 : Int) (x3 : Int) (x15 : Int) (x16 : Int) (x20 : Int) (x21 : Int) (nameLength_0 : Int → Int) (a4_0 : Int → Int) (a1_0 : Int → Int) (k2 : 0 ≤ x2 ∧ x2 ≤ 2000) (k3 : 0 ≤ x3 ∧ x3 ≤ 8) (k15 : 0 ≤ x15 ∧ x15 ≤ 8) (k16 : 0 ≤ x16 ∧ x16 ≤ 23) (k20 : 0 ≤ x20 ∧ x20 ≤ 8) (k21 : 1 ≤ x21 ∧ x21 ≤ 24) (d4 : x15 + (-4294967296) ≤ x3 ∧ x3 ≤ x15 + 0) (d6 : x3 + (-4294967296) ≤ x15 ∧ x15 ≤ x3 + 0) (f0 : x21 = x16 + 1) (f1 : x20 ≠ x3) (h2 : x20 = nameLength_0 (x16)) (f7 : cFNI (nameLength_0) (a4_0) (a1_0) (x2) (x3) (x16)) : cFNI (nameLength_0) (a4_0) (a1_0) (x2) (x3) (x21) := by
  first
    | exact fni_0 (by omega)
    | exact fni_s (ans := 0) ‹cFNI _ _ _ _ _ _› (by omega) (Or.inl (by omega))
    | exact fni_s ‹cFNI _ _ _ _ _ _› (by omega) (Or.inr ⟨‹HLQ _ _ _ _ _ _›, by omega⟩)
def o_Gr_findNode_at_Gq_Retape_2 : or_T := (3, 22, [(2, (0, 0, 2000, [])), (3, (0, 0, 8, [])), (15, (0, 0, 8, [])), (16, (0, 0, 23, [])), (20, (0, 0, 8, [])), (21, (0, 1, 24, []))], [(6, [21, 16], [1]), (7, [20, 15], [1]), (10, [20, 18, 16], []), (9, [18, 12], [4]), (20, [18, 17, 13, 14, 15, 16], [61, 3, 1090]), (24, [5, 18], []), (24, [4, 17], []), (24, [0, 12], []), (24, [1, 13], []), (24, [2, 14], []), (24, [3, 15], [])], [], [], [(20, [18, 17, 13, 14, 15, 21], [61, 3, 1090])], [], [(3, 15, -4294967296, 0), (15, 3, -4294967296, 0)])
theorem oo_Gr_findNode_at_Gq_Retape_2 {kA : Nat → ClassId} : or_ok PRD kA GG o_Gr_findNode_at_Gq_Retape_2 := by
  refine or_mk fun A ta ws vs hD hth hl => ?_
  intro t2 k2 t3 k3 t15 k15 t16 k16 t20 k20 t21 k21 d4 d6 f0 f1 f2 f3 f7 f8 f9 f12 f13 f14 f15
  replace f0 := shm_4 f0
  replace f1 := shm_40 f1
  replace f2 := shm_107 f2
  replace f3 := shm_108 f3
  replace f7 := shm_846 f7
  replace f8 := shm_5 f8
  replace f9 := shm_5 f9
  replace f12 := shm_5 f12
  replace f13 := shm_5 f13
  replace f14 := shm_5 f14
  replace f15 := shm_5 f15
  have q18 : n_v vs 18 = n_v vs 5 := f8.symm
  have q17 : n_v vs 17 = n_v vs 4 := f9.symm
  have q12 : n_v vs 12 = n_v vs 0 := f12.symm
  have q13 : n_v vs 13 = n_v vs 1 := f13.symm
  have q14 : n_v vs 14 = n_v vs 2 := f14.symm
  have q15 : n_v vs 15 = n_v vs 3 := f15.symm
  simp only [q15, q18, q12, q14, q17, q13] at f1 f2 f3 f7
  have ad_5 : v_ad (n_v vs 5) = w_ar ws (n_v vs 0) 4 := congrArg v_ad f3
  simp only [ad_5] at f2
  have h2 : v_iv (n_v vs 20) = w_ei ws (w_ar ws (n_v vs 0) 4) (v_iv (n_v vs 16)) := f2
  simp only [ad_5] at f7
  have nf0 : fc_1 PRD (20, [18, 17, 13, 14, 15, 21], [61, 3, 1090]) ws (vs) := by
    refine ⟨nf_in hl rfl, sgq_846 ?_⟩
    · show cFNI (w_ei ws (v_ad (n_v vs 18))) (w_ei ws (v_ad (n_v vs 17))) (w_ei ws (v_ad (n_v vs 13))) (v_iv (n_v vs 14)) (v_iv (n_v vs 15)) (v_iv (n_v vs 21))
      simp only [q18, q17, q13, q14, q15, ad_5]
      exact vc_Gr_findNode_at_Gq_Retape_2_0 (v_iv (n_v vs 2)) (v_iv (n_v vs 3)) (v_iv (n_v vs 15)) (v_iv (n_v vs 16)) (v_iv (n_v vs 20)) (v_iv (n_v vs 21)) (w_ei ws (w_ar ws (n_v vs 0) 4)) (w_ei ws (v_ad (n_v vs 4))) (w_ei ws (v_ad (n_v vs 1))) k2 k3 k15 k16 k20 k21 d4 d6 f0 f1 h2 f7
  refine ⟨(fun _ h => (by cases h)), [], trivial, ?_, (fun _ h => (by cases h))⟩
  rw [List.append_nil]
  exact List.forall_mem_cons.mpr ⟨⟨show (20 : Nat) < 100 from by decide, nf0⟩, (fun _ h => (by cases h))⟩
set_option maxHeartbeats 4000000 in
theorem vc_Gr_findNode_at_Gq_Retape_3_0 (x2 : Int) (x3 : Int) (x14 : Int) (x15 : Int) (x16 : Int) (x20 : Int) (nameLength_0 : Int → Int) (k2 : 0 ≤ x2 ∧ x2 ≤ 2000) (k3 : 0 ≤ x3 ∧ x3 ≤ 8) (k14 : 0 ≤ x14 ∧ x14 ≤ 2000) (k15 : 0 ≤ x15 ∧ x15 ≤ 8) (k16 : 0 ≤ x16 ∧ x16 ≤ 23) (k20 : 0 ≤ x20 ∧ x20 ≤ 8) (d0 : x15 + 0 ≤ x20 ∧ x20 ≤ x15 + 0) (d2 : x14 + (-4294967296) ≤ x2 ∧ x2 ≤ x14 + 0) (d3 : x15 + (-4294967296) ≤ x3 ∧ x3 ≤ x15 + 0) (d4 : x2 + (-4294967296) ≤ x14 ∧ x14 ≤ x2 + 0) (d5 : x3 + (-4294967296) ≤ x15 ∧ x15 ≤ x3 + 0) (h1 : x20 = nameLength_0 (x16)) (f5 : x2 + x3 ≤ 2000) : 1 * nameLength_0 (x16) + (1 * x2 + 0) ≤ 2000 := by
  first
    | omega
  
def o_Gr_findNode_at_Gq_Retape_3 : or_T := (28, 21, [(2, (0, 0, 2000, [])), (3, (0, 0, 8, [])), (14, (0, 0, 2000, [])), (15, (0, 0, 8, [])), (16, (0, 0, 23, [])), (20, (0, 0, 8, []))], [(10, [20, 18, 16], []), (9, [18, 12], [4]), (21, [14, 15], [2000]), (24, [5, 18], []), (24, [0, 12], []), (24, [2, 14], []), (24, [3, 15], [])], [], [], [(20, [12, 16, 14], [30, 2000, 1, 2, 4, 1, 0, 0])], [], [(20, 15, 0, 0), (2, 14, -4294967296, 0), (3, 15, -4294967296, 0), (14, 2, -4294967296, 0), (15, 3, -4294967296, 0)])
theorem oo_Gr_findNode_at_Gq_Retape_3 {kA : Nat → ClassId} : or_ok PRD kA GG o_Gr_findNode_at_Gq_Retape_3 := by
  refine or_mk fun A ta ws vs hD hth hl => ?_
  intro t2 k2 t3 k3 t14 k14 t15 k15 t16 k16 t20 k20 d0 d2 d3 d4 d5 f1 f2 f5 f7 f11 f13 f14
  replace f1 := shm_107 f1
  replace f2 := shm_108 f2
  replace f5 := shm_831 f5
  replace f7 := shm_5 f7
  replace f11 := shm_5 f11
  replace f13 := shm_5 f13
  replace f14 := shm_5 f14
  have q18 : n_v vs 18 = n_v vs 5 := f7.symm
  have q12 : n_v vs 12 = n_v vs 0 := f11.symm
  have q14 : n_v vs 14 = n_v vs 2 := f13.symm
  have q15 : n_v vs 15 = n_v vs 3 := f14.symm
  simp only [q15, q18, q12, q14] at f1 f2 f5
  have ad_5 : v_ad (n_v vs 5) = w_ar ws (n_v vs 0) 4 := congrArg v_ad f2
  simp only [ad_5] at f1
  have h1 : v_iv (n_v vs 20) = w_ei ws (w_ar ws (n_v vs 0) 4) (v_iv (n_v vs 16)) := f1
  have nf0 : fc_1 PRD (20, [12, 16, 14], [30, 2000, 1, 2, 4, 1, 0, 0]) ws (vs) := by
    refine ⟨nf_in hl rfl, sgq_381 ?_⟩
    · show 1 * w_el ws (w_ar ws (n_v vs 12) 4) (v_iv (n_v vs 16)).toNat + (1 * v_iv (n_v vs 14) + 0) ≤ 2000
      simp only [q12, q14]
      exact vc_Gr_findNode_at_Gq_Retape_3_0 (v_iv (n_v vs 2)) (v_iv (n_v vs 3)) (v_iv (n_v vs 14)) (v_iv (n_v vs 15)) (v_iv (n_v vs 16)) (v_iv (n_v vs 20)) (w_ei ws (w_ar ws (n_v vs 0) 4)) k2 k3 k14 k15 k16 k20 d0 d2 d3 d4 d5 h1 f5
  refine ⟨(fun _ h => (by cases h)), [], trivial, ?_, (fun _ h => (by cases h))⟩
  rw [List.append_nil]
  exact List.forall_mem_cons.mpr ⟨⟨show (20 : Nat) < 100 from by decide, nf0⟩, (fun _ h => (by cases h))⟩
set_option maxHeartbeats 4000000 in
theorem vc_Gr_findNode_at_Gq_Retape_4_0 (x2 : Int) (x3 : Int) (x16 : Int) (x21 : Int) (x22 : Int) (nameLength_0 : Int → Int) (a4_0 : Int → Int) (a1_0 : Int → Int) (k2 : 0 ≤ x2 ∧ x2 ≤ 2000) (k3 : 0 ≤ x3 ∧ x3 ≤ 8) (k16 : 0 ≤ x16 ∧ x16 ≤ 23) (k21 : 0 ≤ x21 ∧ x21 ≤ 0) (k22 : 1 ≤ x22 ∧ x22 ≤ 24) (f0 : x22 = x16 + 1) (f1 : x21 = 0) (f2 : HLQ (nameLength_0) (a4_0) (a1_0) (x16) (x2) (x21)) (f10 : cFNI (nameLength_0) (a4_0) (a1_0) (x2) (x3) (x16)) : cFNI (nameLength_0) (a4_0) (a1_0) (x2) (x3) (x22) := by
  first
    | exact fni_0 (by omega)
    | exact fni_s (ans := 0) ‹cFNI _ _ _ _ _ _› (by omega) (Or.inl (by omega))
    | exact fni_s ‹cFNI _ _ _ _ _ _› (by omega) (Or.inr ⟨‹HLQ _ _ _ _ _ _›, by omega⟩)
def o_Gr_findNode_at_Gq_Retape_4 : or_T := (3, 23, [(2, (0, 0, 2000, [])), (3, (0, 0, 8, [])), (16, (0, 0, 23, [])), (21, (0, 0, 0, [])), (22, (0, 1, 24, []))], [(6, [22, 16], [1]), (8, [21], [0]), (20, [18, 17, 13, 16, 14, 21], [61, 3, 1088]), (9, [18, 12], [4]), (20, [18, 17, 13, 14, 15, 16], [61, 3, 1090]), (24, [5, 18], []), (24, [4, 17], []), (24, [0, 12], []), (24, [1, 13], []), (24, [2, 14], []), (24, [3, 15], [])], [], [], [(20, [18, 17, 13, 14, 15, 22], [61, 3, 1090])], [], [])
theorem oo_Gr_findNode_at_Gq_Retape_4 {kA : Nat → ClassId} : or_ok PRD kA GG o_Gr_findNode_at_Gq_Retape_4 := by
  refine or_mk fun A ta ws vs hD hth hl => ?_
  intro t2 k2 t3 k3 t16 k16 t21 k21 t22 k22 f0 f1 f2 f6 f10 f11 f12 f15 f16 f17 f18
  replace f0 := shm_4 f0
  replace f1 := shm_192 f1
  replace f2 := shm_383 f2
  replace f6 := shm_108 f6
  replace f10 := shm_846 f10
  replace f11 := shm_5 f11
  replace f12 := shm_5 f12
  replace f15 := shm_5 f15
  replace f16 := shm_5 f16
  replace f17 := shm_5 f17
  replace f18 := shm_5 f18
  have q18 : n_v vs 18 = n_v vs 5 := f11.symm
  have q17 : n_v vs 17 = n_v vs 4 := f12.symm
  have q12 : n_v vs 12 = n_v vs 0 := f15.symm
  have q13 : n_v vs 13 = n_v vs 1 := f16.symm
  have q14 : n_v vs 14 = n_v vs 2 := f17.symm
  have q15 : n_v vs 15 = n_v vs 3 := f18.symm
  simp only [q18, q17, q13, q14, q12, q15] at f2 f6 f10
  have ad_5 : v_ad (n_v vs 5) = w_ar ws (n_v vs 0) 4 := congrArg v_ad f6
  simp only [ad_5] at f2
  simp only [ad_5] at f10
  have nf0 : fc_1 PRD (20, [18, 17, 13, 14, 15, 22], [61, 3, 1090]) ws (vs) := by
    refine ⟨nf_in hl rfl, sgq_846 ?_⟩
    · show cFNI (w_ei ws (v_ad (n_v vs 18))) (w_ei ws (v_ad (n_v vs 17))) (w_ei ws (v_ad (n_v vs 13))) (v_iv (n_v vs 14)) (v_iv (n_v vs 15)) (v_iv (n_v vs 22))
      simp only [q18, q17, q13, q14, q15, ad_5]
      exact vc_Gr_findNode_at_Gq_Retape_4_0 (v_iv (n_v vs 2)) (v_iv (n_v vs 3)) (v_iv (n_v vs 16)) (v_iv (n_v vs 21)) (v_iv (n_v vs 22)) (w_ei ws (w_ar ws (n_v vs 0) 4)) (w_ei ws (v_ad (n_v vs 4))) (w_ei ws (v_ad (n_v vs 1))) k2 k3 k16 k21 k22 f0 f1 f2 f10
  refine ⟨(fun _ h => (by cases h)), [], trivial, ?_, (fun _ h => (by cases h))⟩
  rw [List.append_nil]
  exact List.forall_mem_cons.mpr ⟨⟨show (20 : Nat) < 100 from by decide, nf0⟩, (fun _ h => (by cases h))⟩
set_option maxHeartbeats 4000000 in
theorem vc_Gr_findNode_at_Gq_Retape_5_0 (x16 : Int) (x19 : Int) (nodes_0 : Int) (k16 : 0 ≤ x16 ∧ x16 ≤ 23) (k19 : 1 ≤ x19 ∧ x19 ≤ 24) (d1 : x19 + (-4294967296) ≤ x16 ∧ x16 ≤ x19 + (-1)) (g7 : x19 = nodes_0) (kz_0_0 : 0 ≤ nodes_0 ∧ nodes_0 ≤ 24) : (x16 = (-1)) ∨ ((0 ≤ x16) ∧ ((x16 + 1) ≤ nodes_0)) := by
  first
    | omega
  
set_option maxHeartbeats 4000000 in
theorem vc_Gr_findNode_at_Gq_Retape_5_1 (x2 : Int) (x3 : Int) (x11 : Int) (x15 : Int) (x16 : Int) (x19 : Int) (x20 : Int) (x21 : Int) (nameLength_0 : Int → Int) (a4_0 : Int → Int) (a1_0 : Int → Int) (nodes_0 : Int) (k2 : 0 ≤ x2 ∧ x2 ≤ 2000) (k3 : 0 ≤ x3 ∧ x3 ≤ 8) (k11 : 0 ≤ x11 ∧ x11 ≤ 24) (k15 : 0 ≤ x15 ∧ x15 ≤ 8) (k16 : 0 ≤ x16 ∧ x16 ≤ 23) (k19 : 1 ≤ x19 ∧ x19 ≤ 24) (k20 : 0 ≤ x20 ∧ x20 ≤ 8) (k21 : 1 ≤ x21 ∧ x21 ≤ 1) (d0 : x15 + 0 ≤ x20 ∧ x20 ≤ x15 + 0) (d1 : x19 + (-4294967296) ≤ x16 ∧ x16 ≤ x19 + (-1)) (d3 : x15 + (-4294967296) ≤ x3 ∧ x3 ≤ x15 + 0) (d5 : x3 + (-4294967296) ≤ x15 ∧ x15 ≤ x3 + 0) (f0 : x21 ≠ 0) (f1 : HLQ (nameLength_0) (a4_0) (a1_0) (x16) (x2) (x21)) (h4 : x20 = nameLength_0 (x16)) (g7 : x19 = nodes_0) (f9 : cFNI (nameLength_0) (a4_0) (a1_0) (x2) (x3) (x16)) (f12 : 1 * nodes_0 + ((-1) * x11 + 0) ≤ 0) (f13 : (-1) * nodes_0 + (1 * x11 + 0) ≤ 0) (kz_0_0 : 0 ≤ nodes_0 ∧ nodes_0 ≤ 24) : cFNp (nameLength_0) (a4_0) (a1_0) (x11) (x2) (x3) (x16) := by
  first
    | exact fnq_f ‹cFNI _ _ _ _ _ _› (by omega) (by omega)
    | exact fnq_t ‹cFNI _ _ _ _ _ _› (by omega) (by omega) ‹HLQ _ _ _ _ _ _› (by omega) (by omega)
set_option maxHeartbeats 4000000 in
theorem vc_Gr_findNode_at_Gq_Retape_5_2 (x11 : Int) (nodes_0 : Int) (k11 : 0 ≤ x11 ∧ x11 ≤ 24) (f12 : 1 * nodes_0 + ((-1) * x11 + 0) ≤ 0) (f13 : (-1) * nodes_0 + (1 * x11 + 0) ≤ 0) (kz_0_0 : 0 ≤ nodes_0 ∧ nodes_0 ≤ 24) : nodes_0 = x11 := by
  first
    | omega
  
def o_Gr_findNode_at_Gq_Retape_5 : or_T := (36, 22, [(0, (2, 0, 0, [164])), (2, (0, 0, 2000, [])), (3, (0, 0, 8, [])), (11, (0, 0, 24, [])), (15, (0, 0, 8, [])), (16, (0, 0, 23, [])), (19, (0, 1, 24, [])), (20, (0, 0, 8, [])), (21, (0, 1, 1, []))], [(8, [21], [1]), (20, [18, 17, 13, 16, 14, 21], [61, 3, 1088]), (10, [20, 18, 16], []), (9, [18, 12], [4]), (9, [19, 12], [0]), (20, [18, 17, 13, 14, 15, 16], [61, 3, 1090]), (24, [5, 18], []), (24, [4, 17], []), (20, [12, 11], [30, 0, 1, 1, 0, -1, 0, 0]), (20, [12, 11], [30, 0, -1, 1, 0, 1, 0, 0]), (24, [0, 12], []), (24, [1, 13], []), (24, [2, 14], []), (24, [3, 15], [])], [], [], [(20, [16, 0], [50, 1, 0, 1000, 3, 6, 1, 2, 1, 0, 0, -1, 2, 6, 0, 2, 0, 0, 1, 0, 0, 6, 4, 2, 1, 0, 0, 1, 2, 1, 0]), (20, [5, 4, 1, 11, 2, 3, 16], [61, 3, 1091]), (20, [0, 11], [50, 1, 0, 0, 1, 3, 2, 0, 0, 1, 1])], [], [(20, 15, 0, 0), (16, 19, -4294967296, -1), (3, 15, -4294967296, 0), (15, 3, -4294967296, 0)])
theorem oo_Gr_findNode_at_Gq_Retape_5 {kA : Nat → ClassId} : or_ok PRD kA GG o_Gr_findNode_at_Gq_Retape_5 := by
  refine or_mk fun A ta ws vs hD hth hl => ?_
  intro t0 r0 t2 k2 t3 k3 t11 k11 t15 k15 t16 k16 t19 k19 t20 k20 t21 k21 d0 d1 d3 d5 f0 f1 f4 f5 f7 f9 f10 f11 f12 f13 f14 f15 f16 f17
  replace f0 := shm_142 f0
  replace f1 := shm_383 f1
  replace f4 := shm_107 f4
  replace f5 := shm_108 f5
  replace f7 := shm_163 f7
  replace f9 := shm_846 f9
  replace f10 := shm_5 f10
  replace f11 := shm_5 f11
  replace f12 := shm_844 f12
  replace f13 := shm_845 f13
  replace f14 := shm_5 f14
  replace f15 := shm_5 f15
  replace f16 := shm_5 f16
  replace f17 := shm_5 f17
  have q18 : n_v vs 18 = n_v vs 5 := f10.symm
  have q17 : n_v vs 17 = n_v vs 4 := f11.symm
  have q12 : n_v vs 12 = n_v vs 0 := f14.symm
  have q13 : n_v vs 13 = n_v vs 1 := f15.symm
  have q14 : n_v vs 14 = n_v vs 2 := f16.symm
  have q15 : n_v vs 15 = n_v vs 3 := f17.symm
  simp only [q18, q17, q13, q14, q12, q15] at f1 f4 f5 f7 f9 f12 f13
  have ad_5 : v_ad (n_v vs 5) = w_ar ws (n_v vs 0) 4 := congrArg v_ad f5
  simp only [ad_5] at f1 f4
  have h4 : v_iv (n_v vs 20) = w_ei ws (w_ar ws (n_v vs 0) 4) (v_iv (n_v vs 16)) := f4
  have g7 : v_iv (n_v vs 19) = w_fi ws (n_v vs 0) 0 := congrArg v_iv f7
  simp only [ad_5] at f9
  have kz_0_0 := fdq_73 hD hth r0
  have nf0 : fc_1 PRD (20, [16, 0], [50, 1, 0, 1000, 3, 6, 1, 2, 1, 0, 0, -1, 2, 6, 0, 2, 0, 0, 1, 0, 0, 6, 4, 2, 1, 0, 0, 1, 2, 1, 0]) ws (vs) := ⟨nf_in hl rfl, sgq_847 (vc_Gr_findNode_at_Gq_Retape_5_0 (v_iv (n_v vs 16)) (v_iv (n_v vs 19)) (w_fi ws (n_v vs 0) 0) k16 k19 d1 g7 kz_0_0)⟩
  have nf1 : fc_1 PRD (20, [5, 4, 1, 11, 2, 3, 16], [61, 3, 1091]) ws (vs) := by
    refine ⟨nf_in hl rfl, sgq_848 ?_⟩
    · show cFNp (w_ei ws (v_ad (n_v vs 5))) (w_ei ws (v_ad (n_v vs 4))) (w_ei ws (v_ad (n_v vs 1))) (v_iv (n_v vs 11)) (v_iv (n_v vs 2)) (v_iv (n_v vs 3)) (v_iv (n_v vs 16))
      rw [ad_5]
      exact vc_Gr_findNode_at_Gq_Retape_5_1 (v_iv (n_v vs 2)) (v_iv (n_v vs 3)) (v_iv (n_v vs 11)) (v_iv (n_v vs 15)) (v_iv (n_v vs 16)) (v_iv (n_v vs 19)) (v_iv (n_v vs 20)) (v_iv (n_v vs 21)) (w_ei ws (w_ar ws (n_v vs 0) 4)) (w_ei ws (v_ad (n_v vs 4))) (w_ei ws (v_ad (n_v vs 1))) (w_fi ws (n_v vs 0) 0) k2 k3 k11 k15 k16 k19 k20 k21 d0 d1 d3 d5 f0 f1 h4 g7 f9 f12 f13 kz_0_0
  have nf2 : fc_1 PRD (20, [0, 11], [50, 1, 0, 0, 1, 3, 2, 0, 0, 1, 1]) ws (vs) := ⟨nf_in hl rfl, sgq_570 (vc_Gr_findNode_at_Gq_Retape_5_2 (v_iv (n_v vs 11)) (w_fi ws (n_v vs 0) 0) k11 f12 f13 kz_0_0)⟩
  refine ⟨(fun _ h => (by cases h)), [], trivial, ?_, (fun _ h => (by cases h))⟩
  rw [List.append_nil]
  exact List.forall_mem_cons.mpr ⟨⟨show (20 : Nat) < 100 from by decide, nf0⟩, List.forall_mem_cons.mpr ⟨⟨show (20 : Nat) < 100 from by decide, nf1⟩, List.forall_mem_cons.mpr ⟨⟨show (20 : Nat) < 100 from by decide, nf2⟩, (fun _ h => (by cases h))⟩⟩⟩
def n_Gr_findNode_at_Gq_Retape_an : List an_T := [(3, [(0, (2, 0, 0, [164])), (1, (2, 0, 0, [109])), (2, (0, 0, 2000, [])), (3, (0, 0, 8, [])), (4, (0, 0, 24, []))], [], (0, 0), [(0, 0, 99997), (1, 16, 24), (0, 0, 100000)], [(2, 14, (Int.negSucc 999999999999), 0), (3, 15, (Int.negSucc 999999999999), 0), (14, 2, (Int.negSucc 999999999999), 0), (15, 3, (Int.negSucc 999999999999), 0)], [((0, 3), (2, 0, 0, [150])), ((0, 4), (2, 0, 0, [151]))], [(2, 0, 0, [164]), (2, 0, 0, [109]), (0, 0, 2000, []), (0, 0, 8, []), (2, 0, 0, [150]), (2, 0, 0, [151]), (2, 0, 0, [154]), (2, 0, 0, [155]), (0, 0, 24, []), (0, 0, 48, []), (0, 0, 8, []), (0, 0, 24, [])], 0, [], [(21, [14, 15], [2000]), (20, [18, 17, 13, 14, 15, 16], [61, 3, 1090]), (24, [5, 18], []), (24, [4, 17], []), (20, [12, 11], [30, 0, 1, 1, 0, (Int.negSucc 0), 0, 0]), (20, [12, 11], [30, 0, (Int.negSucc 0), 1, 0, 1, 0, 0]), (24, [0, 12], []), (24, [1, 13], []), (24, [2, 14], []), (24, [3, 15], [])])]
def t_Gr_findNode_at_Gq_Retape_ct : ct_L := [(88, 96, e_Gr_hasLetters_at_Gq_Retape)]
set_option maxRecDepth 100000 in
theorem c_Gr_findNode_at_Gq_Retape {l : Launch} {D : va_G} {kA : Nat → ClassId} (h_Gr_hasLetters_at_Gq_Retape : ct_ok PRD l D kA GG y_Gr_hasLetters_at_Gq_Retape z_Gr_hasLetters_at_Gq_Retape e_Gr_hasLetters_at_Gq_Retape) : ct_ok PRD l D kA GG y_Gr_findNode_at_Gq_Retape z_Gr_findNode_at_Gq_Retape e_Gr_findNode_at_Gq_Retape := chk_all_ok (FT := [(9, 3, 0), (25, 3, 4)]) (PT := []) (CT := t_Gr_findNode_at_Gq_Retape_ct) (KT := []) (NT := []) (AN := n_Gr_findNode_at_Gq_Retape_an) (OT := [o_Gr_findNode_at_Gq_Retape_0, o_Gr_findNode_at_Gq_Retape_1, o_Gr_findNode_at_Gq_Retape_2, o_Gr_findNode_at_Gq_Retape_3, o_Gr_findNode_at_Gq_Retape_4, o_Gr_findNode_at_Gq_Retape_5]) 3 200 (List.forall_mem_cons.mpr ⟨oo_Gr_findNode_at_Gq_Retape_0, List.forall_mem_cons.mpr ⟨oo_Gr_findNode_at_Gq_Retape_1, List.forall_mem_cons.mpr ⟨oo_Gr_findNode_at_Gq_Retape_2, List.forall_mem_cons.mpr ⟨oo_Gr_findNode_at_Gq_Retape_3, List.forall_mem_cons.mpr ⟨oo_Gr_findNode_at_Gq_Retape_4, List.forall_mem_cons.mpr ⟨oo_Gr_findNode_at_Gq_Retape_5, List.forall_mem_nil _⟩⟩⟩⟩⟩⟩) (by decide +kernel) ⟨List.forall_mem_cons.mpr ⟨gf_Gr_9, List.forall_mem_cons.mpr ⟨gf_Gr_25, List.forall_mem_nil _⟩⟩, List.forall_mem_nil _, List.forall_mem_cons.mpr ⟨cl_virtual (y := y_Gr_hasLetters_at_Gq_Retape) (ci := 3) rfl rfl ⟨_, _, rfl⟩ (by decide +kernel) h_Gr_hasLetters_at_Gq_Retape wm_743 wm_3 wm_740 wm_742 wv_1_7 ⟨by decide, by decide, by decide +kernel⟩ (by decide), List.forall_mem_nil _⟩, List.forall_mem_nil _, List.forall_mem_nil _, GG_pl⟩ (by decide +kernel)
def o_Gr_findNode_at_Gr_newGrhasNextName1_0 : or_T := (3, 5, [], [], [], [], [(24, [0, 0], []), (24, [1, 1], []), (24, [2, 2], []), (24, [3, 3], [])], [], [])
theorem oo_Gr_findNode_at_Gr_newGrhasNextName1_0 {kA : Nat → ClassId} : or_ok PRD kA GG o_Gr_findNode_at_Gr_newGrhasNextName1_0 := by
  refine or_mk fun A ta ws vs hD hth hl => ?_
  have nf0 : fc_1 PRD (24, [0, 0], []) ws (vs) := by
    refine ⟨nf_in hl rfl, sgq_1 ?_⟩
    · show n_v vs 0 = n_v vs 0
      first | rfl | simp only [true_and]
  have nf1 : fc_1 PRD (24, [1, 1], []) ws (vs) := by
    refine ⟨nf_in hl rfl, sgq_1 ?_⟩
    · show n_v vs 1 = n_v vs 1
      first | rfl | simp only [true_and]
  have nf2 : fc_1 PRD (24, [2, 2], []) ws (vs) := by
    refine ⟨nf_in hl rfl, sgq_1 ?_⟩
    · show n_v vs 2 = n_v vs 2
      first | rfl | simp only [true_and]
  have nf3 : fc_1 PRD (24, [3, 3], []) ws (vs) := by
    refine ⟨nf_in hl rfl, sgq_1 ?_⟩
    · show n_v vs 3 = n_v vs 3
      first | rfl | simp only [true_and]
  refine ⟨(fun _ h => (by cases h)), [], trivial, ?_, (fun _ h => (by cases h))⟩
  rw [List.append_nil]
  exact List.forall_mem_cons.mpr ⟨⟨show (24 : Nat) < 100 from by decide, nf0⟩, List.forall_mem_cons.mpr ⟨⟨show (24 : Nat) < 100 from by decide, nf1⟩, List.forall_mem_cons.mpr ⟨⟨show (24 : Nat) < 100 from by decide, nf2⟩, List.forall_mem_cons.mpr ⟨⟨show (24 : Nat) < 100 from by decide, nf3⟩, (fun _ h => (by cases h))⟩⟩⟩⟩
set_option maxHeartbeats 4000000 in
theorem vc_Gr_findNode_at_Gr_newGrhasNextName1_1_0 (x9 : Int) (x10 : Int) (nodes_0 : Int) (k9 : 0 ≤ x9 ∧ x9 ≤ 24) (k10 : (-1) ≤ x10 ∧ x10 ≤ (-1)) (g1 : x9 = nodes_0) (kz_0_0 : 0 ≤ nodes_0 ∧ nodes_0 ≤ 24) : (x10 = (-1)) ∨ ((0 ≤ x10) ∧ ((x10 + 1) ≤ nodes_0)) := by
  first
    | omega
  
def o_Gr_findNode_at_Gr_newGrhasNextName1_1 : or_T := (44, 11, [(0, (2, 0, 0, [3])), (9, (0, 0, 24, [])), (10, (0, -1, -1, []))], [(9, [9, 4], [0]), (24, [0, 4], [])], [], [], [(20, [10, 0], [50, 1, 0, 1000, 3, 6, 1, 2, 1, 0, 0, -1, 2, 6, 0, 2, 0, 0, 1, 0, 0, 6, 4, 2, 1, 0, 0, 1, 2, 1, 0])], [], [])
theorem oo_Gr_findNode_at_Gr_newGrhasNextName1_1 {kA : Nat → ClassId} : or_ok PRD kA GG o_Gr_findNode_at_Gr_newGrhasNextName1_1 := by
  refine or_mk fun A ta ws vs hD hth hl => ?_
  intro t0 r0 t9 k9 t10 k10 f1 f2
  replace f1 := shm_163 f1
  replace f2 := shm_5 f2
  have q4 : n_v vs 4 = n_v vs 0 := f2.symm
  simp only [q4] at f1
  have g1 : v_iv (n_v vs 9) = w_fi ws (n_v vs 0) 0 := congrArg v_iv f1
  have kz_0_0 := fdq_21 hD hth r0
  have nf0 : fc_1 PRD (20, [10, 0], [50, 1, 0, 1000, 3, 6, 1, 2, 1, 0, 0, -1, 2, 6, 0, 2, 0, 0, 1, 0, 0, 6, 4, 2, 1, 0, 0, 1, 2, 1, 0]) ws (vs) := ⟨nf_in hl rfl, sgq_847 (vc_Gr_findNode_at_Gr_newGrhasNextName1_1_0 (v_iv (n_v vs 9)) (v_iv (n_v vs 10)) (w_fi ws (n_v vs 0) 0) k9 k10 g1 kz_0_0)⟩
  refine ⟨(fun _ h => (by cases h)), [], trivial, ?_, (fun _ h => (by cases h))⟩
  rw [List.append_nil]
  exact List.forall_mem_cons.mpr ⟨⟨show (20 : Nat) < 100 from by decide, nf0⟩, (fun _ h => (by cases h))⟩
set_option maxHeartbeats 4000000 in
theorem vc_Gr_findNode_at_Gr_newGrhasNextName1_2_0 (x2 : Int) (x8 : Int) (x11 : Int) (nameLength_0 : Int → Int) (k2 : 0 ≤ x2 ∧ x2 ≤ 0) (k8 : 0 ≤ x8 ∧ x8 ≤ 23) (k11 : 2 ≤ x11 ∧ x11 ≤ 3) (h1 : x11 = nameLength_0 (x8)) : 1 * nameLength_0 (x8) + (1 * x2 + 0) ≤ 3 := by
  first
    | omega
  
def o_Gr_findNode_at_Gr_newGrhasNextName1_2 : or_T := (28, 12, [(2, (0, 0, 0, [])), (8, (0, 0, 23, [])), (11, (0, 2, 3, []))], [(10, [11, 10, 8], []), (9, [10, 4], [4]), (24, [0, 4], []), (24, [2, 6], [])], [], [], [(20, [4, 8, 6], [30, 3, 1, 2, 4, 1, 0, 0])], [], [])
theorem oo_Gr_findNode_at_Gr_newGrhasNextName1_2 {kA : Nat → ClassId} : or_ok PRD kA GG o_Gr_findNode_at_Gr_newGrhasNextName1_2 := by
  refine or_mk fun A ta ws vs hD hth hl => ?_
  intro t2 k2 t8 k8 t11 k11 f1 f2 f6 f8
  replace f1 := shm_107 f1
  replace f2 := shm_108 f2
  replace f6 := shm_5 f6
  replace f8 := shm_5 f8
  have q4 : n_v vs 4 = n_v vs 0 := f6.symm
  have q6 : n_v vs 6 = n_v vs 2 := f8.symm
  simp only [q4] at f2
  have ad_10 : v_ad (n_v vs 10) = w_ar ws (n_v vs 0) 4 := congrArg v_ad f2
  simp only [ad_10] at f1
  have h1 : v_iv (n_v vs 11) = w_ei ws (w_ar ws (n_v vs 0) 4) (v_iv (n_v vs 8)) := f1
  have nf0 : fc_1 PRD (20, [4, 8, 6], [30, 3, 1, 2, 4, 1, 0, 0]) ws (vs) := by
    refine ⟨nf_in hl rfl, sgq_113 ?_⟩
    · show 1 * w_el ws (w_ar ws (n_v vs 4) 4) (v_iv (n_v vs 8)).toNat + (1 * v_iv (n_v vs 6) + 0) ≤ 3
      simp only [q4, q6]
      exact vc_Gr_findNode_at_Gr_newGrhasNextName1_2_0 (v_iv (n_v vs 2)) (v_iv (n_v vs 8)) (v_iv (n_v vs 11)) (w_ei ws (w_ar ws (n_v vs 0) 4)) k2 k8 k11 h1
  refine ⟨(fun _ h => (by cases h)), [], trivial, ?_, (fun _ h => (by cases h))⟩
  rw [List.append_nil]
  exact List.forall_mem_cons.mpr ⟨⟨show (20 : Nat) < 100 from by decide, nf0⟩, (fun _ h => (by cases h))⟩
set_option maxHeartbeats 4000000 in
theorem vc_Gr_findNode_at_Gr_newGrhasNextName1_3_0 (x8 : Int) (x9 : Int) (nodes_0 : Int) (k8 : 0 ≤ x8 ∧ x8 ≤ 23) (k9 : 1 ≤ x9 ∧ x9 ≤ 24) (d1 : x9 + (-4294967296) ≤ x8 ∧ x8 ≤ x9 + (-1)) (g5 : x9 = nodes_0) (kz_0_0 : 0 ≤ nodes_0 ∧ nodes_0 ≤ 24) : (x8 = (-1)) ∨ ((0 ≤ x8) ∧ ((x8 + 1) ≤ nodes_0)) := by
  first
    | omega
  
def o_Gr_findNode_at_Gr_newGrhasNextName1_3 : or_T := (36, 13, [(0, (2, 0, 0, [3])), (8, (0, 0, 23, [])), (9, (0, 1, 24, []))], [(9, [9, 4], [0]), (24, [0, 4], [])], [], [], [(20, [8, 0], [50, 1, 0, 1000, 3, 6, 1, 2, 1, 0, 0, -1, 2, 6, 0, 2, 0, 0, 1, 0, 0, 6, 4, 2, 1, 0, 0, 1, 2, 1, 0])], [], [(8, 9, -4294967296, -1)])
theorem oo_Gr_findNode_at_Gr_newGrhasNextName1_3 {kA : Nat → ClassId} : or_ok PRD kA GG o_Gr_findNode_at_Gr_newGrhasNextName1_3 := by
  refine or_mk fun A ta ws vs hD hth hl => ?_
  intro t0 r0 t8 k8 t9 k9 d1 f5 f7
  replace f5 := shm_163 f5
  replace f7 := shm_5 f7
  have q4 : n_v vs 4 = n_v vs 0 := f7.symm
  simp only [q4] at f5
  have g5 : v_iv (n_v vs 9) = w_fi ws (n_v vs 0) 0 := congrArg v_iv f5
  have kz_0_0 := fdq_21 hD hth r0
  have nf0 : fc_1 PRD (20, [8, 0], [50, 1, 0, 1000, 3, 6, 1, 2, 1, 0, 0, -1, 2, 6, 0, 2, 0, 0, 1, 0, 0, 6, 4, 2, 1, 0, 0, 1, 2, 1, 0]) ws (vs) := ⟨nf_in hl rfl, sgq_847 (vc_Gr_findNode_at_Gr_newGrhasNextName1_3_0 (v_iv (n_v vs 8)) (v_iv (n_v vs 9)) (w_fi ws (n_v vs 0) 0) k8 k9 d1 g5 kz_0_0)⟩
  refine ⟨(fun _ h => (by cases h)), [], trivial, ?_, (fun _ h => (by cases h))⟩
  rw [List.append_nil]
  exact List.forall_mem_cons.mpr ⟨⟨show (20 : Nat) < 100 from by decide, nf0⟩, (fun _ h => (by cases h))⟩
def n_Gr_findNode_at_Gr_newGrhasNextName1_an : List an_T := [(3, [(0, (2, 0, 0, [3])), (1, (2, 0, 0, [296])), (2, (0, 0, 0, [])), (3, (0, 2, 3, [])), (4, (0, 0, 24, []))], [], (0, 0), [(0, 0, 99997), (1, 8, 24), (0, 0, 100000)], [(3, 7, (Int.negSucc 999999999999), 0), (7, 3, (Int.negSucc 999999999999), 0)], [], [(2, 0, 0, [3]), (2, 0, 0, [296]), (0, 0, 0, []), (0, 2, 3, [])], 0, [], [(21, [6, 7], [3]), (24, [0, 4], []), (24, [1, 5], []), (24, [2, 6], []), (24, [3, 7], [])])]
def t_Gr_findNode_at_Gr_newGrhasNextName1_ct : ct_L := [(88, 96, e_Gr_hasLetters_at_Gr_newGrhasNextName1)]
set_option maxRecDepth 100000 in
theorem c_Gr_findNode_at_Gr_newGrhasNextName1 {l : Launch} {D : va_G} {kA : Nat → ClassId} (h_Gr_hasLetters_at_Gr_newGrhasNextName1 : ct_ok PRD l D kA GG y_Gr_hasLetters_at_Gr_newGrhasNextName1 z_Gr_hasLetters_at_Gr_newGrhasNextName1 e_Gr_hasLetters_at_Gr_newGrhasNextName1) : ct_ok PRD l D kA GG y_Gr_findNode_at_Gr_newGrhasNextName1 z_Gr_findNode_at_Gr_newGrhasNextName1 e_Gr_findNode_at_Gr_newGrhasNextName1 := chk_all_ok (FT := [(9, 3, 0), (25, 3, 4)]) (PT := []) (CT := t_Gr_findNode_at_Gr_newGrhasNextName1_ct) (KT := []) (NT := []) (AN := n_Gr_findNode_at_Gr_newGrhasNextName1_an) (OT := [o_Gr_findNode_at_Gr_newGrhasNextName1_0, o_Gr_findNode_at_Gr_newGrhasNextName1_1, o_Gr_findNode_at_Gr_newGrhasNextName1_2, o_Gr_findNode_at_Gr_newGrhasNextName1_3]) 3 200 (List.forall_mem_cons.mpr ⟨oo_Gr_findNode_at_Gr_newGrhasNextName1_0, List.forall_mem_cons.mpr ⟨oo_Gr_findNode_at_Gr_newGrhasNextName1_1, List.forall_mem_cons.mpr ⟨oo_Gr_findNode_at_Gr_newGrhasNextName1_2, List.forall_mem_cons.mpr ⟨oo_Gr_findNode_at_Gr_newGrhasNextName1_3, List.forall_mem_nil _⟩⟩⟩⟩) (by decide +kernel) ⟨List.forall_mem_cons.mpr ⟨gf_Gr_9, List.forall_mem_cons.mpr ⟨gf_Gr_25, List.forall_mem_nil _⟩⟩, List.forall_mem_nil _, List.forall_mem_cons.mpr ⟨cl_virtual (y := y_Gr_hasLetters_at_Gr_newGrhasNextName1) (ci := 3) rfl rfl ⟨_, _, rfl⟩ (by decide +kernel) h_Gr_hasLetters_at_Gr_newGrhasNextName1 wm_743 wm_3 wm_740 wm_742 wv_1_7 ⟨by decide, by decide, by decide +kernel⟩ (by decide), List.forall_mem_nil _⟩, List.forall_mem_nil _, List.forall_mem_nil _, GG_pl⟩ (by decide +kernel)
set_option maxHeartbeats 4000000 in
theorem vc_Gr_pack_0_0 (x1 : Int) (x3 : Int) (x4 : Int) (x5 : Int) (x6 : Int) (x7 : Int) (x8 : Int) (x9 : Int) (x10 : Int) (edges_0 : Int) (nodes_0 : Int) (tail_0 : Int → Int) (head_0 : Int → Int) (tail_1 : Int → Int) (head_1 : Int → Int) (nodes_1 : Int) (edges_1 : Int) (past_2 : Int → Int) (tail_2 : Int → Int) (head_2 : Int → Int) (nodes_2 : Int) (edges_2 : Int) (past_0 : Int → Int) (past_1 : Int → Int) (k1 : 0 ≤ x1 ∧ x1 ≤ 30) (k3 : 122 ≤ x3 ∧ x3 ≤ 122) (k4 : 0 ≤ x4 ∧ x4 ≤ 3660) (k5 : 0 ≤ x5 ∧ x5 ≤ 24) (k6 : 1 ≤ x6 ∧ x6 ≤ 1) (k7 : 1 ≤ x7 ∧ x7 ≤ 3661) (k8 : 0 ≤ x8 ∧ x8 ≤ 48) (k9 : 2 ≤ x9 ∧ x9 ≤ 3662) (k10 : 0 ≤ x10 ∧ x10 ≤ 0) (d0 : x4 + 2 ≤ x9 ∧ x9 ≤ x4 + 2) (d1 : x4 + 1 ≤ x7 ∧ x7 ≤ x4 + 1) (g0 : x8 = edges_0) (g1 : x5 = nodes_0) (f3 : x9 = x4 + 2) (f4 : GKE (nodes_0) (edges_0) (tail_0) (head_0)) (f6 : x7 = x4 + x6) (f7 : GKE (nodes_1) (edges_1) (tail_1) (head_1)) (f9 : x4 = x1 * 122) (f10 : PRO (past_2) (x1)) (f11 : GKE (nodes_2) (edges_2) (tail_2) (head_2)) (fe_0_0_1 : nodes_0 = nodes_1) (fe_0_1_1 : edges_0 = edges_1) (fe_0_0_2 : nodes_1 = nodes_2) (fe_0_1_2 : edges_1 = edges_2) (hE_0_7_1 : ∀ j : Int, tail_0 j = tail_1 j) (hE_0_7_2 : ∀ j : Int, tail_1 j = tail_2 j) (hK_0_7 : ∀ j : Int, 0 ≤ j → j < 48 → 0 ≤ tail_0 j ∧ tail_0 j ≤ 23) (hE_0_8_1 : ∀ j : Int, head_0 j = head_1 j) (hE_0_8_2 : ∀ j : Int, head_1 j = head_2 j) (hK_0_8 : ∀ j : Int, 0 ≤ j → j < 48 → 0 ≤ head_0 j ∧ head_0 j ≤ 23) (hE_0_16_1 : ∀ j : Int, 0 ≤ j → (j = x7 → past_0 j = x8) ∧ (j ≠ x7 → past_0 j = past_1 j)) (hE_0_16_2 : ∀ j : Int, 0 ≤ j → (j = x4 → past_1 j = x5) ∧ (j ≠ x4 → past_1 j = past_2 j)) (kz_0_0 : 0 ≤ nodes_0 ∧ nodes_0 ≤ 24) (kz_0_1 : 0 ≤ edges_0 ∧ edges_0 ≤ 48) : PK1 (nodes_0) (edges_0) (past_0) (x1) (x9) (x10) := by
  subst fe_0_0_1
  subst fe_0_1_1
  subst fe_0_0_2
  subst fe_0_1_2
  have e_hE_0_7_1 := funext hE_0_7_1; subst e_hE_0_7_1
  have e_hE_0_7_2 := funext hE_0_7_2; subst e_hE_0_7_2
  have e_hE_0_8_1 := funext hE_0_8_1; subst e_hE_0_8_1
  have e_hE_0_8_2 := funext hE_0_8_2; subst e_hE_0_8_2
  first
    | assumption
    | exact pk1_start (k := x4) ‹PRO _ _› (by omega) (by omega) (by omega) (by omega) (by omega) (by omega) (by omega) hE_0_16_2 rfl (by omega) hE_0_16_1 (by omega) (by omega) (by omega) (by omega)
    | exact pk1_step ‹PK1 _ _ _ _ _ _› (by omega) hE_0_16_3 rfl hE_0_16_2 (by omega) hE_0_16_1 (by omega) (pnw_of (a := x22) (b := x24) (c := x29) (t := x26) (u := x31) (x := x27) (y := x32) (s1 := x25) (s2 := x30) (by assumption) (by omega) (by assumption) (by assumption) (by omega) (by assumption) (by omega) (by omega) (by omega) (by omega) (by omega) (by omega) (by omega) (by omega) (by omega) (by omega)) (by omega) (by omega)
  
def o_Gr_pack_0 : or_T := (32, 11, [(0, (2, 0, 0, [3])), (1, (0, 0, 30, [])), (2, (2, 0, 0, [61])), (3, (0, 122, 122, [])), (4, (0, 0, 3660, [])), (5, (0, 0, 24, [])), (6, (0, 1, 1, [])), (7, (0, 1, 3661, [])), (8, (0, 0, 48, [])), (9, (0, 2, 3662, [])), (10, (0, 0, 0, []))], [(9, [8, 0], [1]), (9, [5, 0], [0]), (9, [2, 0], [16]), (6, [9, 4], [2]), (20, [0], [60, 2, 2, 596, 0, 1, 7, 8]), (100, [2, 7, 8], []), (1, [7, 4, 6], []), (20, [0], [60, 2, 2, 596, 0, 1, 7, 8]), (100, [2, 4, 5], []), (3, [4, 1, 3], []), (20, [0, 1], [60, 0, 1, 737, 16]), (20, [0], [60, 2, 2, 596, 0, 1, 7, 8])], [], [], [(20, [0, 1, 9, 10], [60, 2, 1, 741, 0, 1, 16]), (24, [0, 0], []), (24, [1, 1], [])], [], [(9, 4, 2, 2), (7, 4, 1, 1)])
theorem oo_Gr_pack_0 {kA : Nat → ClassId} : or_ok PRD kA GG o_Gr_pack_0 := by
  refine or_mk fun A ta ws vs hD hth hl => ?_
  intro t0 r0 t1 k1 t2 r2 t3 k3 t4 k4 t5 k5 t6 k6 t7 k7 t8 k8 t9 k9 t10 k10 d0 d1 f0 f1 f2 f3 f4 ta1 w1 le1 s1 f6 f7 ta2 w2 le2 s2 f9 f10 f11
  replace f0 := shm_215 f0
  replace f1 := shm_163 f1
  replace f2 := shm_176 f2
  have s1 : (∀ b j, w_el ws b j = if b = v_ad (n_v vs 2) ∧ j = (v_iv (n_v vs 7)).toNat then v_iv (n_v vs 8) else w_el w1 b j) ∧ ∀ b k, w_fd ws b k = w_fd w1 b k := s1.2
  replace f7 := shm_386 f7
  have s2 : (∀ b j, w_el w1 b j = if b = v_ad (n_v vs 2) ∧ j = (v_iv (n_v vs 4)).toNat then v_iv (n_v vs 5) else w_el w2 b j) ∧ ∀ b k, w_fd w1 b k = w_fd w2 b k := s2.2
  replace f9 := shm_38 f9
  rw [show v_iv (n_v vs 3) = 122 from by omega] at f9
  replace f10 := shm_850 f10
  replace f11 := shm_386 f11
  have ar_0_7_1 : w_ar w1 (n_v vs 0) 7 = w_ar ws (n_v vs 0) 7 := congrArg v_ad (s1.2 _ _).symm
  have ar_0_7_2 : w_ar w2 (n_v vs 0) 7 = w_ar ws (n_v vs 0) 7 := by rw [← ar_0_7_1]; show v_ad (w_fd w2 _ _) = v_ad (w_fd w1 _ _); rw [s2.2]
  have cr_0_7 := fdq_46 hD hth r0
  have ar_0_8_1 : w_ar w1 (n_v vs 0) 8 = w_ar ws (n_v vs 0) 8 := congrArg v_ad (s1.2 _ _).symm
  have ar_0_8_2 : w_ar w2 (n_v vs 0) 8 = w_ar ws (n_v vs 0) 8 := by rw [← ar_0_8_1]; show v_ad (w_fd w2 _ _) = v_ad (w_fd w1 _ _); rw [s2.2]
  have cr_0_8 := fdq_47 hD hth r0
  have ar_0_16_1 : w_ar w1 (n_v vs 0) 16 = w_ar ws (n_v vs 0) 16 := congrArg v_ad (s1.2 _ _).symm
  have ar_0_16_2 : w_ar w2 (n_v vs 0) 16 = w_ar ws (n_v vs 0) 16 := by rw [← ar_0_16_1]; show v_ad (w_fd w2 _ _) = v_ad (w_fd w1 _ _); rw [s2.2]
  have ad_2 : v_ad (n_v vs 2) = w_ar ws (n_v vs 0) 16 := congrArg v_ad f2
  have g0 : v_iv (n_v vs 8) = w_fi ws (n_v vs 0) 1 := congrArg v_iv f0
  have g1 : v_iv (n_v vs 5) = w_fi ws (n_v vs 0) 0 := congrArg v_iv f1
  simp only [ar_0_7_1, ar_0_8_1, ar_0_16_2, ar_0_7_2, ar_0_8_2] at f7 f10 f11
  have fe_0_0_1 : w_fi ws (n_v vs 0) 0 = w_fi w1 (n_v vs 0) 0 := congrArg v_iv (s1.2 _ _)
  have fe_0_1_1 : w_fi ws (n_v vs 0) 1 = w_fi w1 (n_v vs 0) 1 := congrArg v_iv (s1.2 _ _)
  have fe_0_0_2 : w_fi w1 (n_v vs 0) 0 = w_fi w2 (n_v vs 0) 0 := congrArg v_iv (s2.2 _ _)
  have fe_0_1_2 : w_fi w1 (n_v vs 0) 1 = w_fi w2 (n_v vs 0) 1 := congrArg v_iv (s2.2 _ _)
  have hE_0_7_1 : ∀ j : Int, w_ei ws (w_ar ws (n_v vs 0) 7) j = w_ei w1 (w_ar ws (n_v vs 0) 7) j := el_kp s1.1 r2 cr_0_7 (by decide)
  have hE_0_7_2 : ∀ j : Int, w_ei w1 (w_ar ws (n_v vs 0) 7) j = w_ei w2 (w_ar ws (n_v vs 0) 7) j := el_kp s2.1 r2 cr_0_7 (by decide)
  have hK_0_7 := elq_11 hD hth cr_0_7
  have hE_0_8_1 : ∀ j : Int, w_ei ws (w_ar ws (n_v vs 0) 8) j = w_ei w1 (w_ar ws (n_v vs 0) 8) j := el_kp s1.1 r2 cr_0_8 (by decide)
  have hE_0_8_2 : ∀ j : Int, w_ei w1 (w_ar ws (n_v vs 0) 8) j = w_ei w2 (w_ar ws (n_v vs 0) 8) j := el_kp s2.1 r2 cr_0_8 (by decide)
  have hK_0_8 := elq_12 hD hth cr_0_8
  have hE_0_16_1 : ∀ j : Int, 0 ≤ j → (j = v_iv (n_v vs 7) → w_ei ws (w_ar ws (n_v vs 0) 16) j = v_iv (n_v vs 8)) ∧ (j ≠ v_iv (n_v vs 7) → w_ei ws (w_ar ws (n_v vs 0) 16) j = w_ei w1 (w_ar ws (n_v vs 0) 16) j) := fun j hj => ⟨fun h => by unfold w_ei; rw [s1.1, if_pos ⟨ad_2.symm, by rw [h]⟩], fun h => by unfold w_ei; rw [s1.1, if_neg (fun e => h (by have := e.2; omega))]⟩
  have hE_0_16_2 : ∀ j : Int, 0 ≤ j → (j = v_iv (n_v vs 4) → w_ei w1 (w_ar ws (n_v vs 0) 16) j = v_iv (n_v vs 5)) ∧ (j ≠ v_iv (n_v vs 4) → w_ei w1 (w_ar ws (n_v vs 0) 16) j = w_ei w2 (w_ar ws (n_v vs 0) 16) j) := fun j hj => ⟨fun h => by unfold w_ei; rw [s2.1, if_pos ⟨ad_2.symm, by rw [h]⟩], fun h => by unfold w_ei; rw [s2.1, if_neg (fun e => h (by have := e.2; omega))]⟩
  have kz_0_0 := fdq_21 hD hth r0
  have kz_0_1 := fdq_30 hD hth r0
  have nf0 : fc_1 PRD (20, [0, 1, 9, 10], [60, 2, 1, 741, 0, 1, 16]) ws (vs) := ⟨nf_in hl rfl, sgq_851 (vc_Gr_pack_0_0 (v_iv (n_v vs 1)) (v_iv (n_v vs 3)) (v_iv (n_v vs 4)) (v_iv (n_v vs 5)) (v_iv (n_v vs 6)) (v_iv (n_v vs 7)) (v_iv (n_v vs 8)) (v_iv (n_v vs 9)) (v_iv (n_v vs 10)) (w_fi ws (n_v vs 0) 1) (w_fi ws (n_v vs 0) 0) (w_ei ws (w_ar ws (n_v vs 0) 7)) (w_ei ws (w_ar ws (n_v vs 0) 8)) (w_ei w1 (w_ar ws (n_v vs 0) 7)) (w_ei w1 (w_ar ws (n_v vs 0) 8)) (w_fi w1 (n_v vs 0) 0) (w_fi w1 (n_v vs 0) 1) (w_ei w2 (w_ar ws (n_v vs 0) 16)) (w_ei w2 (w_ar ws (n_v vs 0) 7)) (w_ei w2 (w_ar ws (n_v vs 0) 8)) (w_fi w2 (n_v vs 0) 0) (w_fi w2 (n_v vs 0) 1) (w_ei ws (w_ar ws (n_v vs 0) 16)) (w_ei w1 (w_ar ws (n_v vs 0) 16)) k1 k3 k4 k5 k6 k7 k8 k9 k10 d0 d1 g0 g1 (shm_849 f3) (shm_386 f4) (shm_12 f6) f7 f9 f10 f11 fe_0_0_1 fe_0_1_1 fe_0_0_2 fe_0_1_2 hE_0_7_1 hE_0_7_2 hK_0_7 hE_0_8_1 hE_0_8_2 hK_0_8 hE_0_16_1 hE_0_16_2 kz_0_0 kz_0_1)⟩
  have nf1 : fc_1 PRD (24, [0, 0], []) ws (vs) := by
    refine ⟨nf_in hl rfl, sgq_1 ?_⟩
    · show n_v vs 0 = n_v vs 0
      first | rfl | simp only [true_and]
  have nf2 : fc_1 PRD (24, [1, 1], []) ws (vs) := by
    refine ⟨nf_in hl rfl, sgq_1 ?_⟩
    · show n_v vs 1 = n_v vs 1
      first | rfl | simp only [true_and]
  refine ⟨(fun _ h => (by cases h)), [], trivial, ?_, (fun _ h => (by cases h))⟩
  rw [List.append_nil]
  exact List.forall_mem_cons.mpr ⟨⟨show (20 : Nat) < 100 from by decide, nf0⟩, List.forall_mem_cons.mpr ⟨⟨show (24 : Nat) < 100 from by decide, nf1⟩, List.forall_mem_cons.mpr ⟨⟨show (24 : Nat) < 100 from by decide, nf2⟩, (fun _ h => (by cases h))⟩⟩⟩
set_option maxHeartbeats 4000000 in
theorem vc_Gr_pack_1_0 (x1 : Int) (x4 : Int) (x5 : Int) (x6 : Int) (x8 : Int) (x9 : Int) (x10 : Int) (x11 : Int) (x12 : Int) (x13 : Int) (x14 : Int) (x15 : Int) (nodes_0 : Int) (past_0 : Int → Int) (edges_0 : Int) (tail_0 : Int → Int) (head_0 : Int → Int) (k1 : 0 ≤ x1 ∧ x1 ≤ 30) (k4 : 0 ≤ x4 ∧ x4 ≤ 30) (k5 : 2 ≤ x5 ∧ x5 ≤ 3784) (k6 : 0 ≤ x6 ∧ x6 ≤ 24) (k8 : 0 ≤ x8 ∧ x8 ≤ 24) (k9 : 122 ≤ x9 ∧ x9 ≤ 122) (k10 : 0 ≤ x10 ∧ x10 ≤ 3660) (k11 : 2 ≤ x11 ∧ x11 ≤ 2) (k12 : 2 ≤ x12 ∧ x12 ≤ 3662) (k13 : 72 ≤ x13 ∧ x13 ≤ 72) (k14 : 74 ≤ x14 ∧ x14 ≤ 3734) (k15 : 0 ≤ x15 ∧ x15 ≤ 0) (d0 : x12 + 72 ≤ x14 ∧ x14 ≤ x12 + 72) (d1 : x10 + 74 ≤ x14 ∧ x14 ≤ x10 + 74) (d2 : x10 + 2 ≤ x12 ∧ x12 ≤ x10 + 2) (d3 : x8 + 0 ≤ x6 ∧ x6 ≤ x8 + 4294967296) (d4 : x4 + (-4294967296) ≤ x1 ∧ x1 ≤ x4 + 0) (d5 : x1 + (-4294967296) ≤ x4 ∧ x4 ≤ x1 + 0) (d6 : x5 + (-4294967296) ≤ x6 ∧ x6 ≤ x5 + (-2)) (f1 : x14 = x12 + x13) (f2 : x12 = x10 + x11) (f3 : x10 = x1 * 122) (f4 : x8 ≤ x6) (g5 : x8 = nodes_0) (f6 : PK1 (nodes_0) (edges_0) (past_0) (x1) (x5) (x6)) (f7 : GKE (nodes_0) (edges_0) (tail_0) (head_0)) (hK_0_7 : ∀ j : Int, 0 ≤ j → j < 48 → 0 ≤ tail_0 j ∧ tail_0 j ≤ 23) (hK_0_8 : ∀ j : Int, 0 ≤ j → j < 48 → 0 ≤ head_0 j ∧ head_0 j ≤ 23) (kz_0_0 : 0 ≤ nodes_0 ∧ nodes_0 ≤ 24) (kz_0_1 : 0 ≤ edges_0 ∧ edges_0 ≤ 48) : PK2 (nodes_0) (edges_0) (past_0) (x1) (x14) (x15) := by
  first
    | assumption
    | exact pk2_start ‹PK1 _ _ _ _ _ _› (by omega) (by omega) (by omega)
    | (have g := ‹GKE _ _ _ _› x6 (by omega) (by omega); exact pk2_step ‹PK2 _ _ _ _ _ _› (by omega) hE_0_16_1 (by omega) (pew_of (a := x11) (b := x13) (c := x18) (d := x23) (t := x15) (u := x20) (v := x25) (x := x16) (y := x21) (z := x26) (s1 := x14) (s2 := x19) (s3 := x24) (by assumption) (by omega) (by assumption) (by assumption) (by omega) (by assumption) (by assumption) (by omega) (by assumption) (by omega) (by omega) (by omega) (by omega) (by omega) (by omega) (by omega) (by omega) (by omega) (by omega) (by omega) (by omega) (by omega) (by omega) (by omega) (by omega)) (by omega))
  
def o_Gr_pack_1 : or_T := (127, 16, [(0, (2, 0, 0, [3])), (1, (0, 0, 30, [])), (4, (0, 0, 30, [])), (5, (0, 2, 3784, [])), (6, (0, 0, 24, [])), (8, (0, 0, 24, [])), (9, (0, 122, 122, [])), (10, (0, 0, 3660, [])), (11, (0, 2, 2, [])), (12, (0, 2, 3662, [])), (13, (0, 72, 72, [])), (14, (0, 74, 3734, [])), (15, (0, 0, 0, []))], [(1, [14, 12, 13], []), (1, [12, 10, 11], []), (3, [10, 4, 9], []), (7, [6, 8], [3]), (9, [8, 3], [0]), (20, [3, 4, 5, 6], [60, 2, 1, 741, 0, 1, 16]), (20, [3], [60, 2, 2, 596, 0, 1, 7, 8]), (24, [0, 3], []), (24, [1, 4], [])], [], [], [(20, [3, 4, 14, 15], [60, 2, 1, 742, 0, 1, 16])], [], [(14, 12, 72, 72), (14, 10, 74, 74), (12, 10, 2, 2), (6, 8, 0, 4294967296), (1, 4, -4294967296, 0), (4, 1, -4294967296, 0), (6, 5, -4294967296, -2)])
theorem oo_Gr_pack_1 {kA : Nat → ClassId} : or_ok PRD kA GG o_Gr_pack_1 := by
  refine or_mk fun A ta ws vs hD hth hl => ?_
  intro t0 r0 t1 k1 t4 k4 t5 k5 t6 k6 t8 k8 t9 k9 t10 k10 t11 k11 t12 k12 t13 k13 t14 k14 t15 k15 d0 d1 d2 d3 d4 d5 d6 f1 f2 f3 f4 f5 f6 f7 f8 f9
  replace f1 := shm_12 f1
  replace f2 := shm_12 f2
  replace f3 := shm_38 f3
  rw [show v_iv (n_v vs 9) = 122 from by omega] at f3
  replace f4 := shm_2 f4
  replace f5 := shm_163 f5
  replace f6 := shm_851 f6
  replace f7 := shm_386 f7
  replace f8 := shm_5 f8
  replace f9 := shm_5 f9
  have q3 : n_v vs 3 = n_v vs 0 := f8.symm
  have q4 : n_v vs 4 = n_v vs 1 := f9.symm
  simp only [q3, q4] at f3 f5 f6 f7
  have cr_0_7 := fdq_46 hD hth r0
  have cr_0_8 := fdq_47 hD hth r0
  have g5 : v_iv (n_v vs 8) = w_fi ws (n_v vs 0) 0 := congrArg v_iv f5
  have hK_0_7 := elq_11 hD hth cr_0_7
  have hK_0_8 := elq_12 hD hth cr_0_8
  have kz_0_0 := fdq_21 hD hth r0
  have kz_0_1 := fdq_30 hD hth r0
  have nf0 : fc_1 PRD (20, [3, 4, 14, 15], [60, 2, 1, 742, 0, 1, 16]) ws (vs) := by
    refine ⟨nf_in hl rfl, sgq_852 ?_⟩
    · show PK2 (w_fi ws (n_v vs 3) 0) (w_fi ws (n_v vs 3) 1) (w_ei ws (w_ar ws (n_v vs 3) 16)) (v_iv (n_v vs 4)) (v_iv (n_v vs 14)) (v_iv (n_v vs 15))
      simp only [q3, q4]
      exact vc_Gr_pack_1_0 (v_iv (n_v vs 1)) (v_iv (n_v vs 4)) (v_iv (n_v vs 5)) (v_iv (n_v vs 6)) (v_iv (n_v vs 8)) (v_iv (n_v vs 9)) (v_iv (n_v vs 10)) (v_iv (n_v vs 11)) (v_iv (n_v vs 12)) (v_iv (n_v vs 13)) (v_iv (n_v vs 14)) (v_iv (n_v vs 15)) (w_fi ws (n_v vs 0) 0) (w_ei ws (w_ar ws (n_v vs 0) 16)) (w_fi ws (n_v vs 0) 1) (w_ei ws (w_ar ws (n_v vs 0) 7)) (w_ei ws (w_ar ws (n_v vs 0) 8)) k1 k4 k5 k6 k8 k9 k10 k11 k12 k13 k14 k15 d0 d1 d2 d3 d4 d5 d6 f1 f2 f3 f4 g5 f6 f7 hK_0_7 hK_0_8 kz_0_0 kz_0_1
  refine ⟨(fun _ h => (by cases h)), [], trivial, ?_, (fun _ h => (by cases h))⟩
  rw [List.append_nil]
  exact List.forall_mem_cons.mpr ⟨⟨show (20 : Nat) < 100 from by decide, nf0⟩, (fun _ h => (by cases h))⟩
set_option maxHeartbeats 4000000 in
theorem vc_Gr_pack_2_r0 (x1 : Int) (x4 : Int) (x5 : Int) (x6 : Int) (x8 : Int) (nodes_0 : Int) (past_0 : Int → Int) (edges_0 : Int) (tail_0 : Int → Int) (head_0 : Int → Int) (k1 : 0 ≤ x1 ∧ x1 ≤ 30) (k4 : 0 ≤ x4 ∧ x4 ≤ 30) (k5 : 2 ≤ x5 ∧ x5 ≤ 3784) (k6 : 0 ≤ x6 ∧ x6 ≤ 23) (k8 : 1 ≤ x8 ∧ x8 ≤ 24) (d0 : x8 + (-4294967296) ≤ x6 ∧ x6 ≤ x8 + (-1)) (d1 : x4 + (-4294967296) ≤ x1 ∧ x1 ≤ x4 + 0) (d2 : x1 + (-4294967296) ≤ x4 ∧ x4 ≤ x1 + 0) (d3 : x5 + (-4294967296) ≤ x6 ∧ x6 ≤ x5 + (-2)) (f1 : x6 < x8) (g2 : x8 = nodes_0) (f3 : PK1 (nodes_0) (edges_0) (past_0) (x1) (x5) (x6)) (f4 : GKE (nodes_0) (edges_0) (tail_0) (head_0)) (hK_0_7 : ∀ j : Int, 0 ≤ j → j < 48 → 0 ≤ tail_0 j ∧ tail_0 j ≤ 23) (hK_0_8 : ∀ j : Int, 0 ≤ j → j < 48 → 0 ≤ head_0 j ∧ head_0 j ≤ 23) (kz_0_0 : 0 ≤ nodes_0 ∧ nodes_0 ≤ 24) (kz_0_1 : 0 ≤ edges_0 ∧ edges_0 ≤ 48) : 2 ≤ x5 ∧ x5 ≤ 3781 := by
  first
    | omega
    | (have q := pk1_idx ‹PK1 _ _ _ _ _ _› (by omega); omega)
    | (have q := pk2_idx ‹PK2 _ _ _ _ _ _› (by omega); omega)
  
def o_Gr_pack_2 : or_T := (53, 12, [(0, (2, 0, 0, [3])), (1, (0, 0, 30, [])), (3, (2, 0, 0, [3])), (4, (0, 0, 30, [])), (5, (0, 2, 3784, [])), (6, (0, 0, 23, [])), (7, (2, 0, 0, [61])), (8, (0, 1, 24, []))], [(9, [7, 3], [16]), (7, [6, 8], [2]), (9, [8, 3], [0]), (20, [3, 4, 5, 6], [60, 2, 1, 741, 0, 1, 16]), (20, [3], [60, 2, 2, 596, 0, 1, 7, 8]), (24, [0, 3], []), (24, [1, 4], [])], [(5, (0, 2, 3781, []))], [], [], [], [(6, 8, -4294967296, -1), (1, 4, -4294967296, 0), (4, 1, -4294967296, 0), (6, 5, -4294967296, -2)])
theorem oo_Gr_pack_2 {kA : Nat → ClassId} : or_ok PRD kA GG o_Gr_pack_2 := by
  refine or_mk fun A ta ws vs hD hth hl => ?_
  intro t0 r0 t1 k1 t3 r3 t4 k4 t5 k5 t6 k6 t7 r7 t8 k8 d0 d1 d2 d3 f0 f1 f2 f3 f4 f5 f6
  replace f2 := shm_163 f2
  replace f3 := shm_851 f3
  replace f4 := shm_386 f4
  replace f5 := shm_5 f5
  replace f6 := shm_5 f6
  have q3 : n_v vs 3 = n_v vs 0 := f5.symm
  have q4 : n_v vs 4 = n_v vs 1 := f6.symm
  simp only [q3, q4] at f2 f3 f4
  have cr_0_7 := fdq_46 hD hth r0
  have cr_0_8 := fdq_47 hD hth r0
  have g2 : v_iv (n_v vs 8) = w_fi ws (n_v vs 0) 0 := congrArg v_iv f2
  have hK_0_7 := elq_11 hD hth cr_0_7
  have hK_0_8 := elq_12 hD hth cr_0_8
  have kz_0_0 := fdq_21 hD hth r0
  have kz_0_1 := fdq_30 hD hth r0
  have hrf0 : 2 ≤ v_iv (n_v vs 5) ∧ v_iv (n_v vs 5) ≤ 3781 := vc_Gr_pack_2_r0 (v_iv (n_v vs 1)) (v_iv (n_v vs 4)) (v_iv (n_v vs 5)) (v_iv (n_v vs 6)) (v_iv (n_v vs 8)) (w_fi ws (n_v vs 0) 0) (w_ei ws (w_ar ws (n_v vs 0) 16)) (w_fi ws (n_v vs 0) 1) (w_ei ws (w_ar ws (n_v vs 0) 7)) (w_ei ws (w_ar ws (n_v vs 0) 8)) k1 k4 k5 k6 k8 d0 d1 d2 d3 (shm_6 f1) g2 f3 f4 hK_0_7 hK_0_8 kz_0_0 kz_0_1
  have rf5 : tv_ok ta (0, 2, 3781, []) (n_v vs 5) := tv_in t5 (by first | omega | grind) (by first | omega | grind)
  refine ⟨List.forall_mem_cons.mpr ⟨rf5, (fun _ h => (by cases h))⟩, [], trivial, ?_, (fun _ h => (by cases h))⟩
  rw [List.append_nil]
  exact (fun _ h => (by cases h))
set_option maxHeartbeats 4000000 in
theorem vc_Gr_pack_3_r0 (x1 : Int) (x4 : Int) (x5 : Int) (x6 : Int) (x8 : Int) (x11 : Int) (x12 : Int) (x13 : Int) (nodes_0 : Int) (tail_0 : Int → Int) (head_0 : Int → Int) (edges_0 : Int) (past_1 : Int → Int) (nodes_1 : Int) (edges_1 : Int) (tail_1 : Int → Int) (head_1 : Int → Int) (past_0 : Int → Int) (k1 : 0 ≤ x1 ∧ x1 ≤ 30) (k4 : 0 ≤ x4 ∧ x4 ≤ 30) (k5 : 2 ≤ x5 ∧ x5 ≤ 3781) (k6 : 0 ≤ x6 ∧ x6 ≤ 23) (k8 : 1 ≤ x8 ∧ x8 ≤ 24) (k11 : (-2147483648) ≤ x11 ∧ x11 ≤ 2147483647) (k12 : 1 ≤ x12 ∧ x12 ≤ 1) (k13 : 3 ≤ x13 ∧ x13 ≤ 3782) (d0 : x5 + 1 ≤ x13 ∧ x13 ≤ x5 + 1) (d1 : x8 + (-4294967296) ≤ x6 ∧ x6 ≤ x8 + (-1)) (d2 : x4 + (-4294967296) ≤ x1 ∧ x1 ≤ x4 + 0) (d3 : x1 + (-4294967296) ≤ x4 ∧ x4 ≤ x1 + 0) (d4 : x5 + (-4294967296) ≤ x6 ∧ x6 ≤ x5 + (-2)) (g0 : x8 = nodes_0) (f1 : x13 = x5 + x12) (f3 : GKE (nodes_0) (edges_0) (tail_0) (head_0)) (f7 : x6 < x8) (f8 : PK1 (nodes_1) (edges_1) (past_1) (x1) (x5) (x6)) (f9 : GKE (nodes_1) (edges_1) (tail_1) (head_1)) (fe_0_0_1 : nodes_0 = nodes_1) (fe_0_1_1 : edges_0 = edges_1) (hE_0_7_1 : ∀ j : Int, tail_0 j = tail_1 j) (hK_0_7 : ∀ j : Int, 0 ≤ j → j < 48 → 0 ≤ tail_0 j ∧ tail_0 j ≤ 23) (hE_0_8_1 : ∀ j : Int, head_0 j = head_1 j) (hK_0_8 : ∀ j : Int, 0 ≤ j → j < 48 → 0 ≤ head_0 j ∧ head_0 j ≤ 23) (hE_0_16_1 : ∀ j : Int, 0 ≤ j → (j = x5 → past_0 j = x11) ∧ (j ≠ x5 → past_0 j = past_1 j)) (kz_0_0 : 0 ≤ nodes_0 ∧ nodes_0 ≤ 24) (kz_0_1 : 0 ≤ edges_0 ∧ edges_0 ≤ 48) : 3 ≤ x13 ∧ x13 ≤ 3781 := by
  subst fe_0_0_1
  subst fe_0_1_1
  have e_hE_0_7_1 := funext hE_0_7_1; subst e_hE_0_7_1
  have e_hE_0_8_1 := funext hE_0_8_1; subst e_hE_0_8_1
  first
    | omega
    | (have q := pk1_idx ‹PK1 _ _ _ _ _ _› (by omega); omega)
    | (have q := pk2_idx ‹PK2 _ _ _ _ _ _› (by omega); omega)
  
def o_Gr_pack_3 : or_T := (71, 19, [(0, (2, 0, 0, [3])), (1, (0, 0, 30, [])), (3, (2, 0, 0, [3])), (4, (0, 0, 30, [])), (5, (0, 2, 3781, [])), (6, (0, 0, 23, [])), (7, (2, 0, 0, [61])), (8, (0, 1, 24, [])), (11, (0, -2147483648, 2147483647, [])), (12, (0, 1, 1, [])), (13, (0, 3, 3782, []))], [(9, [8, 3], [0]), (1, [13, 5, 12], []), (9, [7, 3], [16]), (20, [3], [60, 2, 2, 596, 0, 1, 7, 8]), (24, [0, 3], []), (24, [1, 4], []), (100, [7, 5, 11], []), (7, [6, 8], [2]), (20, [3, 4, 5, 6], [60, 2, 1, 741, 0, 1, 16]), (20, [3], [60, 2, 2, 596, 0, 1, 7, 8])], [(13, (0, 3, 3781, []))], [], [], [], [(13, 5, 1, 1), (6, 8, -4294967296, -1), (1, 4, -4294967296, 0), (4, 1, -4294967296, 0), (6, 5, -4294967296, -2)])
theorem oo_Gr_pack_3 {kA : Nat → ClassId} : or_ok PRD kA GG o_Gr_pack_3 := by
  refine or_mk fun A ta ws vs hD hth hl => ?_
  intro t0 r0 t1 k1 t3 r3 t4 k4 t5 k5 t6 k6 t7 r7 t8 k8 t11 k11 t12 k12 t13 k13 d0 d1 d2 d3 d4 f0 f1 f2 f3 f4 f5 ta1 w1 le1 s1 f7 f8 f9
  replace f0 := shm_163 f0
  replace f2 := shm_176 f2
  replace f3 := shm_386 f3
  replace f4 := shm_5 f4
  replace f5 := shm_5 f5
  have s1 : (∀ b j, w_el ws b j = if b = v_ad (n_v vs 7) ∧ j = (v_iv (n_v vs 5)).toNat then v_iv (n_v vs 11) else w_el w1 b j) ∧ ∀ b k, w_fd ws b k = w_fd w1 b k := s1.2
  replace f8 := shm_851 f8
  replace f9 := shm_386 f9
  have q3 : n_v vs 3 = n_v vs 0 := f4.symm
  have q4 : n_v vs 4 = n_v vs 1 := f5.symm
  simp only [q3, q4] at f0 f2 f3 f8 f9
  have ar_0_7_1 : w_ar w1 (n_v vs 0) 7 = w_ar ws (n_v vs 0) 7 := congrArg v_ad (s1.2 _ _).symm
  have cr_0_7 := fdq_46 hD hth r0
  have ar_0_8_1 : w_ar w1 (n_v vs 0) 8 = w_ar ws (n_v vs 0) 8 := congrArg v_ad (s1.2 _ _).symm
  have cr_0_8 := fdq_47 hD hth r0
  have ar_0_16_1 : w_ar w1 (n_v vs 0) 16 = w_ar ws (n_v vs 0) 16 := congrArg v_ad (s1.2 _ _).symm
  have ad_7 : v_ad (n_v vs 7) = w_ar ws (n_v vs 0) 16 := congrArg v_ad f2
  have g0 : v_iv (n_v vs 8) = w_fi ws (n_v vs 0) 0 := congrArg v_iv f0
  simp only [ar_0_16_1, ar_0_7_1, ar_0_8_1] at f8 f9
  have fe_0_0_1 : w_fi ws (n_v vs 0) 0 = w_fi w1 (n_v vs 0) 0 := congrArg v_iv (s1.2 _ _)
  have fe_0_1_1 : w_fi ws (n_v vs 0) 1 = w_fi w1 (n_v vs 0) 1 := congrArg v_iv (s1.2 _ _)
  have hE_0_7_1 : ∀ j : Int, w_ei ws (w_ar ws (n_v vs 0) 7) j = w_ei w1 (w_ar ws (n_v vs 0) 7) j := el_kp s1.1 r7 cr_0_7 (by decide)
  have hK_0_7 := elq_11 hD hth cr_0_7
  have hE_0_8_1 : ∀ j : Int, w_ei ws (w_ar ws (n_v vs 0) 8) j = w_ei w1 (w_ar ws (n_v vs 0) 8) j := el_kp s1.1 r7 cr_0_8 (by decide)
  have hK_0_8 := elq_12 hD hth cr_0_8
  have hE_0_16_1 : ∀ j : Int, 0 ≤ j → (j = v_iv (n_v vs 5) → w_ei ws (w_ar ws (n_v vs 0) 16) j = v_iv (n_v vs 11)) ∧ (j ≠ v_iv (n_v vs 5) → w_ei ws (w_ar ws (n_v vs 0) 16) j = w_ei w1 (w_ar ws (n_v vs 0) 16) j) := fun j hj => ⟨fun h => by unfold w_ei; rw [s1.1, if_pos ⟨ad_7.symm, by rw [h]⟩], fun h => by unfold w_ei; rw [s1.1, if_neg (fun e => h (by have := e.2; omega))]⟩
  have kz_0_0 := fdq_21 hD hth r0
  have kz_0_1 := fdq_30 hD hth r0
  have hrf0 : 3 ≤ v_iv (n_v vs 13) ∧ v_iv (n_v vs 13) ≤ 3781 := vc_Gr_pack_3_r0 (v_iv (n_v vs 1)) (v_iv (n_v vs 4)) (v_iv (n_v vs 5)) (v_iv (n_v vs 6)) (v_iv (n_v vs 8)) (v_iv (n_v vs 11)) (v_iv (n_v vs 12)) (v_iv (n_v vs 13)) (w_fi ws (n_v vs 0) 0) (w_ei ws (w_ar ws (n_v vs 0) 7)) (w_ei ws (w_ar ws (n_v vs 0) 8)) (w_fi ws (n_v vs 0) 1) (w_ei w1 (w_ar ws (n_v vs 0) 16)) (w_fi w1 (n_v vs 0) 0) (w_fi w1 (n_v vs 0) 1) (w_ei w1 (w_ar ws (n_v vs 0) 7)) (w_ei w1 (w_ar ws (n_v vs 0) 8)) (w_ei ws (w_ar ws (n_v vs 0) 16)) k1 k4 k5 k6 k8 k11 k12 k13 d0 d1 d2 d3 d4 g0 (shm_12 f1) f3 (shm_6 f7) f8 f9 fe_0_0_1 fe_0_1_1 hE_0_7_1 hK_0_7 hE_0_8_1 hK_0_8 hE_0_16_1 kz_0_0 kz_0_1
  have rf13 : tv_ok ta (0, 3, 3781, []) (n_v vs 13) := tv_in t13 (by first | omega | grind) (by first | omega | grind)
  refine ⟨List.forall_mem_cons.mpr ⟨rf13, (fun _ h => (by cases h))⟩, [], trivial, ?_, (fun _ h => (by cases h))⟩
  rw [List.append_nil]
  exact (fun _ h => (by cases h))
set_option maxHeartbeats 4000000 in
theorem vc_Gr_pack_4_r0 (x1 : Int) (x4 : Int) (x5 : Int) (x6 : Int) (x8 : Int) (x11 : Int) (x12 : Int) (x13 : Int) (x18 : Int) (x19 : Int) (x20 : Int) (nodes_0 : Int) (tail_0 : Int → Int) (head_0 : Int → Int) (edges_0 : Int) (tail_1 : Int → Int) (head_1 : Int → Int) (nodes_1 : Int) (edges_1 : Int) (past_2 : Int → Int) (nodes_2 : Int) (edges_2 : Int) (tail_2 : Int → Int) (head_2 : Int → Int) (past_0 : Int → Int) (past_1 : Int → Int) (k1 : 0 ≤ x1 ∧ x1 ≤ 30) (k4 : 0 ≤ x4 ∧ x4 ≤ 30) (k5 : 2 ≤ x5 ∧ x5 ≤ 3781) (k6 : 0 ≤ x6 ∧ x6 ≤ 23) (k8 : 1 ≤ x8 ∧ x8 ≤ 24) (k11 : (-2147483648) ≤ x11 ∧ x11 ≤ 2147483647) (k12 : 1 ≤ x12 ∧ x12 ≤ 1) (k13 : 3 ≤ x13 ∧ x13 ≤ 3781) (k18 : (-2147483648) ≤ x18 ∧ x18 ≤ 2147483647) (k19 : 2 ≤ x19 ∧ x19 ≤ 2) (k20 : 4 ≤ x20 ∧ x20 ≤ 3783) (d0 : x5 + 2 ≤ x20 ∧ x20 ≤ x5 + 2) (d1 : x5 + 1 ≤ x13 ∧ x13 ≤ x5 + 1) (d2 : x8 + (-4294967296) ≤ x6 ∧ x6 ≤ x8 + (-1)) (d3 : x4 + (-4294967296) ≤ x1 ∧ x1 ≤ x4 + 0) (d4 : x1 + (-4294967296) ≤ x4 ∧ x4 ≤ x1 + 0) (d5 : x5 + (-4294967296) ≤ x6 ∧ x6 ≤ x5 + (-2)) (g0 : x8 = nodes_0) (f1 : x20 = x5 + x19) (f3 : GKE (nodes_0) (edges_0) (tail_0) (head_0)) (f7 : x13 = x5 + x12) (f8 : GKE (nodes_1) (edges_1) (tail_1) (head_1)) (f10 : x6 < x8) (f11 : PK1 (nodes_2) (edges_2) (past_2) (x1) (x5) (x6)) (f12 : GKE (nodes_2) (edges_2) (tail_2) (head_2)) (fe_0_0_1 : nodes_0 = nodes_1) (fe_0_1_1 : edges_0 = edges_1) (fe_0_0_2 : nodes_1 = nodes_2) (fe_0_1_2 : edges_1 = edges_2) (hE_0_7_1 : ∀ j : Int, tail_0 j = tail_1 j) (hE_0_7_2 : ∀ j : Int, tail_1 j = tail_2 j) (hK_0_7 : ∀ j : Int, 0 ≤ j → j < 48 → 0 ≤ tail_0 j ∧ tail_0 j ≤ 23) (hE_0_8_1 : ∀ j : Int, head_0 j = head_1 j) (hE_0_8_2 : ∀ j : Int, head_1 j = head_2 j) (hK_0_8 : ∀ j : Int, 0 ≤ j → j < 48 → 0 ≤ head_0 j ∧ head_0 j ≤ 23) (hE_0_16_1 : ∀ j : Int, 0 ≤ j → (j = x13 → past_0 j = x18) ∧ (j ≠ x13 → past_0 j = past_1 j)) (hE_0_16_2 : ∀ j : Int, 0 ≤ j → (j = x5 → past_1 j = x11) ∧ (j ≠ x5 → past_1 j = past_2 j)) (kz_0_0 : 0 ≤ nodes_0 ∧ nodes_0 ≤ 24) (kz_0_1 : 0 ≤ edges_0 ∧ edges_0 ≤ 48) : 4 ≤ x20 ∧ x20 ≤ 3781 := by
  subst fe_0_0_1
  subst fe_0_1_1
  subst fe_0_0_2
  subst fe_0_1_2
  have e_hE_0_7_1 := funext hE_0_7_1; subst e_hE_0_7_1
  have e_hE_0_7_2 := funext hE_0_7_2; subst e_hE_0_7_2
  have e_hE_0_8_1 := funext hE_0_8_1; subst e_hE_0_8_1
  have e_hE_0_8_2 := funext hE_0_8_2; subst e_hE_0_8_2
  first
    | omega
    | (have q := pk1_idx ‹PK1 _ _ _ _ _ _› (by omega); omega)
    | (have q := pk2_idx ‹PK2 _ _ _ _ _ _› (by omega); omega)
  
def o_Gr_pack_4 : or_T := (105, 33, [(0, (2, 0, 0, [3])), (1, (0, 0, 30, [])), (3, (2, 0, 0, [3])), (4, (0, 0, 30, [])), (5, (0, 2, 3781, [])), (6, (0, 0, 23, [])), (7, (2, 0, 0, [61])), (8, (0, 1, 24, [])), (11, (0, -2147483648, 2147483647, [])), (12, (0, 1, 1, [])), (13, (0, 3, 3781, [])), (18, (0, -2147483648, 2147483647, [])), (19, (0, 2, 2, [])), (20, (0, 4, 3783, []))], [(9, [8, 3], [0]), (1, [20, 5, 19], []), (9, [7, 3], [16]), (20, [3], [60, 2, 2, 596, 0, 1, 7, 8]), (24, [0, 3], []), (24, [1, 4], []), (100, [7, 13, 18], []), (1, [13, 5, 12], []), (20, [3], [60, 2, 2, 596, 0, 1, 7, 8]), (100, [7, 5, 11], []), (7, [6, 8], [2]), (20, [3, 4, 5, 6], [60, 2, 1, 741, 0, 1, 16]), (20, [3], [60, 2, 2, 596, 0, 1, 7, 8])], [(20, (0, 4, 3781, []))], [], [], [], [(20, 5, 2, 2), (13, 5, 1, 1), (6, 8, -4294967296, -1), (1, 4, -4294967296, 0), (4, 1, -4294967296, 0), (6, 5, -4294967296, -2)])
theorem oo_Gr_pack_4 {kA : Nat → ClassId} : or_ok PRD kA GG o_Gr_pack_4 := by
  refine or_mk fun A ta ws vs hD hth hl => ?_
  intro t0 r0 t1 k1 t3 r3 t4 k4 t5 k5 t6 k6 t7 r7 t8 k8 t11 k11 t12 k12 t13 k13 t18 k18 t19 k19 t20 k20 d0 d1 d2 d3 d4 d5 f0 f1 f2 f3 f4 f5 ta1 w1 le1 s1 f7 f8 ta2 w2 le2 s2 f10 f11 f12
  replace f0 := shm_163 f0
  replace f2 := shm_176 f2
  replace f3 := shm_386 f3
  replace f4 := shm_5 f4
  replace f5 := shm_5 f5
  have s1 : (∀ b j, w_el ws b j = if b = v_ad (n_v vs 7) ∧ j = (v_iv (n_v vs 13)).toNat then v_iv (n_v vs 18) else w_el w1 b j) ∧ ∀ b k, w_fd ws b k = w_fd w1 b k := s1.2
  replace f8 := shm_386 f8
  have s2 : (∀ b j, w_el w1 b j = if b = v_ad (n_v vs 7) ∧ j = (v_iv (n_v vs 5)).toNat then v_iv (n_v vs 11) else w_el w2 b j) ∧ ∀ b k, w_fd w1 b k = w_fd w2 b k := s2.2
  replace f11 := shm_851 f11
  replace f12 := shm_386 f12
  have q3 : n_v vs 3 = n_v vs 0 := f4.symm
  have q4 : n_v vs 4 = n_v vs 1 := f5.symm
  simp only [q3, q4] at f0 f2 f3 f8 f11 f12
  have ar_0_7_1 : w_ar w1 (n_v vs 0) 7 = w_ar ws (n_v vs 0) 7 := congrArg v_ad (s1.2 _ _).symm
  have ar_0_7_2 : w_ar w2 (n_v vs 0) 7 = w_ar ws (n_v vs 0) 7 := by rw [← ar_0_7_1]; show v_ad (w_fd w2 _ _) = v_ad (w_fd w1 _ _); rw [s2.2]
  have cr_0_7 := fdq_46 hD hth r0
  have ar_0_8_1 : w_ar w1 (n_v vs 0) 8 = w_ar ws (n_v vs 0) 8 := congrArg v_ad (s1.2 _ _).symm
  have ar_0_8_2 : w_ar w2 (n_v vs 0) 8 = w_ar ws (n_v vs 0) 8 := by rw [← ar_0_8_1]; show v_ad (w_fd w2 _ _) = v_ad (w_fd w1 _ _); rw [s2.2]
  have cr_0_8 := fdq_47 hD hth r0
  have ar_0_16_1 : w_ar w1 (n_v vs 0) 16 = w_ar ws (n_v vs 0) 16 := congrArg v_ad (s1.2 _ _).symm
  have ar_0_16_2 : w_ar w2 (n_v vs 0) 16 = w_ar ws (n_v vs 0) 16 := by rw [← ar_0_16_1]; show v_ad (w_fd w2 _ _) = v_ad (w_fd w1 _ _); rw [s2.2]
  have ad_7 : v_ad (n_v vs 7) = w_ar ws (n_v vs 0) 16 := congrArg v_ad f2
  have g0 : v_iv (n_v vs 8) = w_fi ws (n_v vs 0) 0 := congrArg v_iv f0
  simp only [ar_0_7_1, ar_0_8_1, ar_0_16_2, ar_0_7_2, ar_0_8_2] at f8 f11 f12
  have fe_0_0_1 : w_fi ws (n_v vs 0) 0 = w_fi w1 (n_v vs 0) 0 := congrArg v_iv (s1.2 _ _)
  have fe_0_1_1 : w_fi ws (n_v vs 0) 1 = w_fi w1 (n_v vs 0) 1 := congrArg v_iv (s1.2 _ _)
  have fe_0_0_2 : w_fi w1 (n_v vs 0) 0 = w_fi w2 (n_v vs 0) 0 := congrArg v_iv (s2.2 _ _)
  have fe_0_1_2 : w_fi w1 (n_v vs 0) 1 = w_fi w2 (n_v vs 0) 1 := congrArg v_iv (s2.2 _ _)
  have hE_0_7_1 : ∀ j : Int, w_ei ws (w_ar ws (n_v vs 0) 7) j = w_ei w1 (w_ar ws (n_v vs 0) 7) j := el_kp s1.1 r7 cr_0_7 (by decide)
  have hE_0_7_2 : ∀ j : Int, w_ei w1 (w_ar ws (n_v vs 0) 7) j = w_ei w2 (w_ar ws (n_v vs 0) 7) j := el_kp s2.1 r7 cr_0_7 (by decide)
  have hK_0_7 := elq_11 hD hth cr_0_7
  have hE_0_8_1 : ∀ j : Int, w_ei ws (w_ar ws (n_v vs 0) 8) j = w_ei w1 (w_ar ws (n_v vs 0) 8) j := el_kp s1.1 r7 cr_0_8 (by decide)
  have hE_0_8_2 : ∀ j : Int, w_ei w1 (w_ar ws (n_v vs 0) 8) j = w_ei w2 (w_ar ws (n_v vs 0) 8) j := el_kp s2.1 r7 cr_0_8 (by decide)
  have hK_0_8 := elq_12 hD hth cr_0_8
  have hE_0_16_1 : ∀ j : Int, 0 ≤ j → (j = v_iv (n_v vs 13) → w_ei ws (w_ar ws (n_v vs 0) 16) j = v_iv (n_v vs 18)) ∧ (j ≠ v_iv (n_v vs 13) → w_ei ws (w_ar ws (n_v vs 0) 16) j = w_ei w1 (w_ar ws (n_v vs 0) 16) j) := fun j hj => ⟨fun h => by unfold w_ei; rw [s1.1, if_pos ⟨ad_7.symm, by rw [h]⟩], fun h => by unfold w_ei; rw [s1.1, if_neg (fun e => h (by have := e.2; omega))]⟩
  have hE_0_16_2 : ∀ j : Int, 0 ≤ j → (j = v_iv (n_v vs 5) → w_ei w1 (w_ar ws (n_v vs 0) 16) j = v_iv (n_v vs 11)) ∧ (j ≠ v_iv (n_v vs 5) → w_ei w1 (w_ar ws (n_v vs 0) 16) j = w_ei w2 (w_ar ws (n_v vs 0) 16) j) := fun j hj => ⟨fun h => by unfold w_ei; rw [s2.1, if_pos ⟨ad_7.symm, by rw [h]⟩], fun h => by unfold w_ei; rw [s2.1, if_neg (fun e => h (by have := e.2; omega))]⟩
  have kz_0_0 := fdq_21 hD hth r0
  have kz_0_1 := fdq_30 hD hth r0
  have hrf0 : 4 ≤ v_iv (n_v vs 20) ∧ v_iv (n_v vs 20) ≤ 3781 := vc_Gr_pack_4_r0 (v_iv (n_v vs 1)) (v_iv (n_v vs 4)) (v_iv (n_v vs 5)) (v_iv (n_v vs 6)) (v_iv (n_v vs 8)) (v_iv (n_v vs 11)) (v_iv (n_v vs 12)) (v_iv (n_v vs 13)) (v_iv (n_v vs 18)) (v_iv (n_v vs 19)) (v_iv (n_v vs 20)) (w_fi ws (n_v vs 0) 0) (w_ei ws (w_ar ws (n_v vs 0) 7)) (w_ei ws (w_ar ws (n_v vs 0) 8)) (w_fi ws (n_v vs 0) 1) (w_ei w1 (w_ar ws (n_v vs 0) 7)) (w_ei w1 (w_ar ws (n_v vs 0) 8)) (w_fi w1 (n_v vs 0) 0) (w_fi w1 (n_v vs 0) 1) (w_ei w2 (w_ar ws (n_v vs 0) 16)) (w_fi w2 (n_v vs 0) 0) (w_fi w2 (n_v vs 0) 1) (w_ei w2 (w_ar ws (n_v vs 0) 7)) (w_ei w2 (w_ar ws (n_v vs 0) 8)) (w_ei ws (w_ar ws (n_v vs 0) 16)) (w_ei w1 (w_ar ws (n_v vs 0) 16)) k1 k4 k5 k6 k8 k11 k12 k13 k18 k19 k20 d0 d1 d2 d3 d4 d5 g0 (shm_12 f1) f3 (shm_12 f7) f8 (shm_6 f10) f11 f12 fe_0_0_1 fe_0_1_1 fe_0_0_2 fe_0_1_2 hE_0_7_1 hE_0_7_2 hK_0_7 hE_0_8_1 hE_0_8_2 hK_0_8 hE_0_16_1 hE_0_16_2 kz_0_0 kz_0_1
  have rf20 : tv_ok ta (0, 4, 3781, []) (n_v vs 20) := tv_in t20 (by first | omega | grind) (by first | omega | grind)
  refine ⟨List.forall_mem_cons.mpr ⟨rf20, (fun _ h => (by cases h))⟩, [], trivial, ?_, (fun _ h => (by cases h))⟩
  rw [List.append_nil]
  exact (fun _ h => (by cases h))
set_option maxHeartbeats 4000000 in
theorem vc_Gr_pack_5_0 (x1 : Int) (x4 : Int) (x5 : Int) (x6 : Int) (x8 : Int) (x11 : Int) (x12 : Int) (x13 : Int) (x18 : Int) (x19 : Int) (x20 : Int) (x22 : Int) (x24 : Int) (x25 : Int) (x26 : Int) (x27 : Int) (x29 : Int) (x30 : Int) (x31 : Int) (x32 : Int) (x33 : Int) (x34 : Int) (nodes_0 : Int) (tail_0 : Int → Int) (head_0 : Int → Int) (edges_0 : Int) (groupOf_1 : Int → Int) (size_1 : Int → Int) (nameLength_1 : Int → Int) (tail_1 : Int → Int) (head_1 : Int → Int) (nodes_1 : Int) (edges_1 : Int) (tail_2 : Int → Int) (head_2 : Int → Int) (nodes_2 : Int) (edges_2 : Int) (past_3 : Int → Int) (nodes_3 : Int) (edges_3 : Int) (tail_3 : Int → Int) (head_3 : Int → Int) (nameLength_0 : Int → Int) (nameLength_2 : Int → Int) (nameLength_3 : Int → Int) (size_0 : Int → Int) (size_2 : Int → Int) (size_3 : Int → Int) (groupOf_0 : Int → Int) (groupOf_2 : Int → Int) (groupOf_3 : Int → Int) (past_0 : Int → Int) (past_1 : Int → Int) (past_2 : Int → Int) (k1 : 0 ≤ x1 ∧ x1 ≤ 30) (k4 : 0 ≤ x4 ∧ x4 ≤ 30) (k5 : 2 ≤ x5 ∧ x5 ≤ 3781) (k6 : 0 ≤ x6 ∧ x6 ≤ 23) (k8 : 1 ≤ x8 ∧ x8 ≤ 24) (k11 : (-2147483648) ≤ x11 ∧ x11 ≤ 2147483647) (k12 : 1 ≤ x12 ∧ x12 ≤ 1) (k13 : 3 ≤ x13 ∧ x13 ≤ 3781) (k18 : (-2147483648) ≤ x18 ∧ x18 ≤ 2147483647) (k19 : 2 ≤ x19 ∧ x19 ≤ 2) (k20 : 4 ≤ x20 ∧ x20 ≤ 3781) (k22 : 0 ≤ x22 ∧ x22 ≤ 8) (k24 : 0 ≤ x24 ∧ x24 ≤ 99) (k25 : 8 ≤ x25 ∧ x25 ≤ 8) (k26 : 0 ≤ x26 ∧ x26 ≤ 25344) (k27 : 0 ≤ x27 ∧ x27 ≤ 32767) (k29 : 0 ≤ x29 ∧ x29 ≤ 7) (k30 : 16 ≤ x30 ∧ x30 ≤ 16) (k31 : 0 ≤ x31 ∧ x31 ≤ 458752) (k32 : 0 ≤ x32 ∧ x32 ≤ 524287) (k33 : 5 ≤ x33 ∧ x33 ≤ 3784) (k34 : 1 ≤ x34 ∧ x34 ≤ 24) (d0 : x6 + 1 ≤ x34 ∧ x34 ≤ x6 + 1) (d1 : x8 + (-4294967296) ≤ x34 ∧ x34 ≤ x8 + 0) (d2 : x5 + (-4294967296) ≤ x34 ∧ x34 ≤ x5 + (-1)) (d3 : x5 + 3 ≤ x33 ∧ x33 ≤ x5 + 3) (d4 : x5 + 2 ≤ x20 ∧ x20 ≤ x5 + 2) (d5 : x5 + 1 ≤ x13 ∧ x13 ≤ x5 + 1) (d6 : x8 + (-4294967296) ≤ x6 ∧ x6 ≤ x8 + (-1)) (d7 : x4 + (-4294967296) ≤ x1 ∧ x1 ≤ x4 + 0) (d8 : x1 + (-4294967296) ≤ x4 ∧ x4 ≤ x1 + 0) (d9 : x5 + (-4294967296) ≤ x6 ∧ x6 ≤ x5 + (-2)) (g3 : x8 = nodes_0) (f5 : x34 = x6 + 1) (f6 : x33 = x5 + 3) (f7 : GKE (nodes_0) (edges_0) (tail_0) (head_0)) (f11 : x32 ≤ x27 + x31 ∧ x27 ≤ x32 ∧ x31 ≤ x32) (f12 : bvp (x32) = bvp (x27) ||| bvp (x31)) (f13 : x31 = x29 * 65536) (f14 : bvp (x31) = bvp (x29) <<< (x30).toNat) (h15 : x29 = groupOf_1 (x6)) (f16 : x27 ≤ x22 + x26 ∧ x22 ≤ x27 ∧ x26 ≤ x27) (f17 : bvp (x27) = bvp (x22) ||| bvp (x26)) (f18 : x26 = x24 * 256) (f19 : bvp (x26) = bvp (x24) <<< (x25).toNat) (h20 : x24 = size_1 (x6)) (h21 : x22 = nameLength_1 (x6)) (f22 : x20 = x5 + x19) (f23 : GKE (nodes_1) (edges_1) (tail_1) (head_1)) (f25 : x13 = x5 + x12) (f26 : GKE (nodes_2) (edges_2) (tail_2) (head_2)) (f28 : x6 < x8) (f29 : PK1 (nodes_3) (edges_3) (past_3) (x1) (x5) (x6)) (f30 : GKE (nodes_3) (edges_3) (tail_3) (head_3)) (fe_0_0_1 : nodes_0 = nodes_1) (fe_0_1_1 : edges_0 = edges_1) (fe_0_0_2 : nodes_1 = nodes_2) (fe_0_1_2 : edges_1 = edges_2) (fe_0_0_3 : nodes_2 = nodes_3) (fe_0_1_3 : edges_2 = edges_3) (hE_0_4_1 : ∀ j : Int, nameLength_0 j = nameLength_1 j) (hE_0_4_2 : ∀ j : Int, nameLength_1 j = nameLength_2 j) (hE_0_4_3 : ∀ j : Int, nameLength_2 j = nameLength_3 j) (hK_0_4 : ∀ j : Int, 0 ≤ j → j < 24 → 0 ≤ nameLength_0 j ∧ nameLength_0 j ≤ 8) (hE_0_5_1 : ∀ j : Int, size_0 j = size_1 j) (hE_0_5_2 : ∀ j : Int, size_1 j = size_2 j) (hE_0_5_3 : ∀ j : Int, size_2 j = size_3 j) (hK_0_5 : ∀ j : Int, 0 ≤ j → j < 24 → 0 ≤ size_0 j ∧ size_0 j ≤ 99) (hE_0_6_1 : ∀ j : Int, groupOf_0 j = groupOf_1 j) (hE_0_6_2 : ∀ j : Int, groupOf_1 j = groupOf_2 j) (hE_0_6_3 : ∀ j : Int, groupOf_2 j = groupOf_3 j) (hK_0_6 : ∀ j : Int, 0 ≤ j → j < 24 → 0 ≤ groupOf_0 j ∧ groupOf_0 j ≤ 7) (hE_0_7_1 : ∀ j : Int, tail_0 j = tail_1 j) (hE_0_7_2 : ∀ j : Int, tail_1 j = tail_2 j) (hE_0_7_3 : ∀ j : Int, tail_2 j = tail_3 j) (hK_0_7 : ∀ j : Int, 0 ≤ j → j < 48 → 0 ≤ tail_0 j ∧ tail_0 j ≤ 23) (hE_0_8_1 : ∀ j : Int, head_0 j = head_1 j) (hE_0_8_2 : ∀ j : Int, head_1 j = head_2 j) (hE_0_8_3 : ∀ j : Int, head_2 j = head_3 j) (hK_0_8 : ∀ j : Int, 0 ≤ j → j < 48 → 0 ≤ head_0 j ∧ head_0 j ≤ 23) (hE_0_16_1 : ∀ j : Int, 0 ≤ j → (j = x20 → past_0 j = x32) ∧ (j ≠ x20 → past_0 j = past_1 j)) (hE_0_16_2 : ∀ j : Int, 0 ≤ j → (j = x13 → past_1 j = x18) ∧ (j ≠ x13 → past_1 j = past_2 j)) (hE_0_16_3 : ∀ j : Int, 0 ≤ j → (j = x5 → past_2 j = x11) ∧ (j ≠ x5 → past_2 j = past_3 j)) (kz_0_0 : 0 ≤ nodes_0 ∧ nodes_0 ≤ 24) (kz_0_1 : 0 ≤ edges_0 ∧ edges_0 ≤ 48) : PK1 (nodes_0) (edges_0) (past_0) (x1) (x33) (x34) := by
  subst fe_0_0_1
  subst fe_0_1_1
  subst fe_0_0_2
  subst fe_0_1_2
  subst fe_0_0_3
  subst fe_0_1_3
  have e_hE_0_4_1 := funext hE_0_4_1; subst e_hE_0_4_1
  have e_hE_0_4_2 := funext hE_0_4_2; subst e_hE_0_4_2
  have e_hE_0_4_3 := funext hE_0_4_3; subst e_hE_0_4_3
  have e_hE_0_5_1 := funext hE_0_5_1; subst e_hE_0_5_1
  have e_hE_0_5_2 := funext hE_0_5_2; subst e_hE_0_5_2
  have e_hE_0_5_3 := funext hE_0_5_3; subst e_hE_0_5_3
  have e_hE_0_6_1 := funext hE_0_6_1; subst e_hE_0_6_1
  have e_hE_0_6_2 := funext hE_0_6_2; subst e_hE_0_6_2
  have e_hE_0_6_3 := funext hE_0_6_3; subst e_hE_0_6_3
  have e_hE_0_7_1 := funext hE_0_7_1; subst e_hE_0_7_1
  have e_hE_0_7_2 := funext hE_0_7_2; subst e_hE_0_7_2
  have e_hE_0_7_3 := funext hE_0_7_3; subst e_hE_0_7_3
  have e_hE_0_8_1 := funext hE_0_8_1; subst e_hE_0_8_1
  have e_hE_0_8_2 := funext hE_0_8_2; subst e_hE_0_8_2
  have e_hE_0_8_3 := funext hE_0_8_3; subst e_hE_0_8_3
  first
    | assumption
    | exact pk1_start (k := x4) ‹PRO _ _› (by omega) (by omega) (by omega) (by omega) (by omega) (by omega) (by omega) hE_0_16_2 rfl (by omega) hE_0_16_1 (by omega) (by omega) (by omega) (by omega)
    | exact pk1_step ‹PK1 _ _ _ _ _ _› (by omega) hE_0_16_3 rfl hE_0_16_2 (by omega) hE_0_16_1 (by omega) (pnw_of (a := x22) (b := x24) (c := x29) (t := x26) (u := x31) (x := x27) (y := x32) (s1 := x25) (s2 := x30) (by assumption) (by omega) (by assumption) (by assumption) (by omega) (by assumption) (by omega) (by omega) (by omega) (by omega) (by omega) (by omega) (by omega) (by omega) (by omega) (by omega)) (by omega) (by omega)
  
def o_Gr_pack_5 : or_T := (32, 35, [(0, (2, 0, 0, [3])), (1, (0, 0, 30, [])), (4, (0, 0, 30, [])), (5, (0, 2, 3781, [])), (6, (0, 0, 23, [])), (7, (2, 0, 0, [61])), (8, (0, 1, 24, [])), (11, (0, -2147483648, 2147483647, [])), (12, (0, 1, 1, [])), (13, (0, 3, 3781, [])), (18, (0, -2147483648, 2147483647, [])), (19, (0, 2, 2, [])), (20, (0, 4, 3781, [])), (22, (0, 0, 8, [])), (24, (0, 0, 99, [])), (25, (0, 8, 8, [])), (26, (0, 0, 25344, [])), (27, (0, 0, 32767, [])), (29, (0, 0, 7, [])), (30, (0, 16, 16, [])), (31, (0, 0, 458752, [])), (32, (0, 0, 524287, [])), (33, (0, 5, 3784, [])), (34, (0, 1, 24, []))], [(9, [28, 3], [6]), (9, [23, 3], [5]), (9, [21, 3], [4]), (9, [8, 3], [0]), (9, [7, 3], [16]), (6, [34, 6], [1]), (6, [33, 5], [3]), (20, [3], [60, 2, 2, 596, 0, 1, 7, 8]), (24, [0, 3], []), (24, [1, 4], []), (100, [7, 20, 32], []), (13, [32, 27, 31], []), (16, [32, 27, 31], [1]), (15, [31, 29], [65536]), (16, [31, 29, 30], [3]), (10, [29, 28, 6], []), (13, [27, 22, 26], []), (16, [27, 22, 26], [1]), (15, [26, 24], [256]), (16, [26, 24, 25], [3]), (10, [24, 23, 6], []), (10, [22, 21, 6], []), (1, [20, 5, 19], []), (20, [3], [60, 2, 2, 596, 0, 1, 7, 8]), (100, [7, 13, 18], []), (1, [13, 5, 12], []), (20, [3], [60, 2, 2, 596, 0, 1, 7, 8]), (100, [7, 5, 11], []), (7, [6, 8], [2]), (20, [3, 4, 5, 6], [60, 2, 1, 741, 0, 1, 16]), (20, [3], [60, 2, 2, 596, 0, 1, 7, 8])], [], [], [(20, [3, 4, 33, 34], [60, 2, 1, 741, 0, 1, 16])], [], [(34, 6, 1, 1), (34, 8, -4294967296, 0), (34, 5, -4294967296, -1), (33, 5, 3, 3), (20, 5, 2, 2), (13, 5, 1, 1), (6, 8, -4294967296, -1), (1, 4, -4294967296, 0), (4, 1, -4294967296, 0), (6, 5, -4294967296, -2)])
theorem oo_Gr_pack_5 {kA : Nat → ClassId} : or_ok PRD kA GG o_Gr_pack_5 := by
  refine or_mk fun A ta ws vs hD hth hl => ?_
  intro t0 r0 t1 k1 t4 k4 t5 k5 t6 k6 t7 r7 t8 k8 t11 k11 t12 k12 t13 k13 t18 k18 t19 k19 t20 k20 t22 k22 t24 k24 t25 k25 t26 k26 t27 k27 t29 k29 t30 k30 t31 k31 t32 k32 t33 k33 t34 k34 d0 d1 d2 d3 d4 d5 d6 d7 d8 d9 f0 f1 f2 f3 f4 f5 f6 f7 f8 f9 ta1 w1 le1 s1 f11 f12 f13 f14 f15 f16 f17 f18 f19 f20 f21 f22 f23 ta2 w2 le2 s2 f25 f26 ta3 w3 le3 s3 f28 f29 f30
  replace f0 := shm_111 f0
  replace f1 := shm_110 f1
  replace f2 := shm_108 f2
  replace f3 := shm_163 f3
  replace f4 := shm_176 f4
  replace f5 := shm_4 f5
  replace f6 := shm_853 f6
  replace f7 := shm_386 f7
  replace f8 := shm_5 f8
  replace f9 := shm_5 f9
  have s1 : (∀ b j, w_el ws b j = if b = v_ad (n_v vs 7) ∧ j = (v_iv (n_v vs 20)).toNat then v_iv (n_v vs 32) else w_el w1 b j) ∧ ∀ b k, w_fd ws b k = w_fd w1 b k := s1.2
  have f11 : v_iv (n_v vs 32) ≤ v_iv (n_v vs 27) + v_iv (n_v vs 31) ∧ v_iv (n_v vs 27) ≤ v_iv (n_v vs 32) ∧ v_iv (n_v vs 31) ≤ v_iv (n_v vs 32) := (fun (h : v_iv (n_v vs 32) ≤ v_iv (n_v vs 27) + v_iv (n_v vs 31) ∧ v_iv (n_v vs 27) ≤ v_iv (n_v vs 32) ∧ v_iv (n_v vs 31) ≤ v_iv (n_v vs 32) ∧ (v_iv (n_v vs 32)).toNat = (v_iv (n_v vs 27)).toNat ||| (v_iv (n_v vs 31)).toNat) => ⟨h.1, h.2.1, h.2.2.1⟩) f11
  replace f12 := shm_354 f12
  replace f13 := shm_492 f13
  replace f14 := shm_349 f14
  replace f15 := shm_107 f15
  have f16 : v_iv (n_v vs 27) ≤ v_iv (n_v vs 22) + v_iv (n_v vs 26) ∧ v_iv (n_v vs 22) ≤ v_iv (n_v vs 27) ∧ v_iv (n_v vs 26) ≤ v_iv (n_v vs 27) := (fun (h : v_iv (n_v vs 27) ≤ v_iv (n_v vs 22) + v_iv (n_v vs 26) ∧ v_iv (n_v vs 22) ≤ v_iv (n_v vs 27) ∧ v_iv (n_v vs 26) ≤ v_iv (n_v vs 27) ∧ (v_iv (n_v vs 27)).toNat = (v_iv (n_v vs 22)).toNat ||| (v_iv (n_v vs 26)).toNat) => ⟨h.1, h.2.1, h.2.2.1⟩) f16
  replace f17 := shm_354 f17
  replace f18 := shm_854 f18
  replace f19 := shm_349 f19
  replace f20 := shm_107 f20
  replace f21 := shm_107 f21
  replace f22 := shm_12 f22
  replace f23 := shm_386 f23
  have s2 : (∀ b j, w_el w1 b j = if b = v_ad (n_v vs 7) ∧ j = (v_iv (n_v vs 13)).toNat then v_iv (n_v vs 18) else w_el w2 b j) ∧ ∀ b k, w_fd w1 b k = w_fd w2 b k := s2.2
  replace f25 := shm_12 f25
  replace f26 := shm_386 f26
  have s3 : (∀ b j, w_el w2 b j = if b = v_ad (n_v vs 7) ∧ j = (v_iv (n_v vs 5)).toNat then v_iv (n_v vs 11) else w_el w3 b j) ∧ ∀ b k, w_fd w2 b k = w_fd w3 b k := s3.2
  replace f28 := shm_6 f28
  replace f29 := shm_851 f29
  replace f30 := shm_386 f30
  have q3 : n_v vs 3 = n_v vs 0 := f8.symm
  have q4 : n_v vs 4 = n_v vs 1 := f9.symm
  simp only [q3, q4] at f0 f1 f2 f3 f4 f7 f23 f26 f29 f30
  have cr_0_4 := fdq_4 hD hth r0
  have cr_0_5 := fdq_69 hD hth r0
  have cr_0_6 := fdq_212 hD hth r0
  have ar_0_7_1 : w_ar w1 (n_v vs 0) 7 = w_ar ws (n_v vs 0) 7 := congrArg v_ad (s1.2 _ _).symm
  have ar_0_7_2 : w_ar w2 (n_v vs 0) 7 = w_ar ws (n_v vs 0) 7 := by rw [← ar_0_7_1]; show v_ad (w_fd w2 _ _) = v_ad (w_fd w1 _ _); rw [s2.2]
  have ar_0_7_3 : w_ar w3 (n_v vs 0) 7 = w_ar ws (n_v vs 0) 7 := by rw [← ar_0_7_2]; show v_ad (w_fd w3 _ _) = v_ad (w_fd w2 _ _); rw [s3.2]
  have cr_0_7 := fdq_46 hD hth r0
  have ar_0_8_1 : w_ar w1 (n_v vs 0) 8 = w_ar ws (n_v vs 0) 8 := congrArg v_ad (s1.2 _ _).symm
  have ar_0_8_2 : w_ar w2 (n_v vs 0) 8 = w_ar ws (n_v vs 0) 8 := by rw [← ar_0_8_1]; show v_ad (w_fd w2 _ _) = v_ad (w_fd w1 _ _); rw [s2.2]
  have ar_0_8_3 : w_ar w3 (n_v vs 0) 8 = w_ar ws (n_v vs 0) 8 := by rw [← ar_0_8_2]; show v_ad (w_fd w3 _ _) = v_ad (w_fd w2 _ _); rw [s3.2]
  have cr_0_8 := fdq_47 hD hth r0
  have ar_0_16_1 : w_ar w1 (n_v vs 0) 16 = w_ar ws (n_v vs 0) 16 := congrArg v_ad (s1.2 _ _).symm
  have ar_0_16_2 : w_ar w2 (n_v vs 0) 16 = w_ar ws (n_v vs 0) 16 := by rw [← ar_0_16_1]; show v_ad (w_fd w2 _ _) = v_ad (w_fd w1 _ _); rw [s2.2]
  have ar_0_16_3 : w_ar w3 (n_v vs 0) 16 = w_ar ws (n_v vs 0) 16 := by rw [← ar_0_16_2]; show v_ad (w_fd w3 _ _) = v_ad (w_fd w2 _ _); rw [s3.2]
  have ad_28 : v_ad (n_v vs 28) = w_ar ws (n_v vs 0) 6 := congrArg v_ad f0
  have ad_23 : v_ad (n_v vs 23) = w_ar ws (n_v vs 0) 5 := congrArg v_ad f1
  have ad_21 : v_ad (n_v vs 21) = w_ar ws (n_v vs 0) 4 := congrArg v_ad f2
  have ad_7 : v_ad (n_v vs 7) = w_ar ws (n_v vs 0) 16 := congrArg v_ad f4
  have g3 : v_iv (n_v vs 8) = w_fi ws (n_v vs 0) 0 := congrArg v_iv f3
  simp only [ad_28] at f15
  have h15 : v_iv (n_v vs 29) = w_ei w1 (w_ar ws (n_v vs 0) 6) (v_iv (n_v vs 6)) := f15
  simp only [ad_23] at f20
  have h20 : v_iv (n_v vs 24) = w_ei w1 (w_ar ws (n_v vs 0) 5) (v_iv (n_v vs 6)) := f20
  simp only [ad_21] at f21
  have h21 : v_iv (n_v vs 22) = w_ei w1 (w_ar ws (n_v vs 0) 4) (v_iv (n_v vs 6)) := f21
  simp only [ar_0_7_1, ar_0_8_1, ar_0_7_2, ar_0_8_2, ar_0_16_3, ar_0_7_3, ar_0_8_3] at f23 f26 f29 f30
  have fe_0_0_1 : w_fi ws (n_v vs 0) 0 = w_fi w1 (n_v vs 0) 0 := congrArg v_iv (s1.2 _ _)
  have fe_0_1_1 : w_fi ws (n_v vs 0) 1 = w_fi w1 (n_v vs 0) 1 := congrArg v_iv (s1.2 _ _)
  have fe_0_0_2 : w_fi w1 (n_v vs 0) 0 = w_fi w2 (n_v vs 0) 0 := congrArg v_iv (s2.2 _ _)
  have fe_0_1_2 : w_fi w1 (n_v vs 0) 1 = w_fi w2 (n_v vs 0) 1 := congrArg v_iv (s2.2 _ _)
  have fe_0_0_3 : w_fi w2 (n_v vs 0) 0 = w_fi w3 (n_v vs 0) 0 := congrArg v_iv (s3.2 _ _)
  have fe_0_1_3 : w_fi w2 (n_v vs 0) 1 = w_fi w3 (n_v vs 0) 1 := congrArg v_iv (s3.2 _ _)
  have hE_0_4_1 : ∀ j : Int, w_ei ws (w_ar ws (n_v vs 0) 4) j = w_ei w1 (w_ar ws (n_v vs 0) 4) j := el_kp s1.1 r7 cr_0_4 (by decide)
  have hE_0_4_2 : ∀ j : Int, w_ei w1 (w_ar ws (n_v vs 0) 4) j = w_ei w2 (w_ar ws (n_v vs 0) 4) j := el_kp s2.1 r7 cr_0_4 (by decide)
  have hE_0_4_3 : ∀ j : Int, w_ei w2 (w_ar ws (n_v vs 0) 4) j = w_ei w3 (w_ar ws (n_v vs 0) 4) j := el_kp s3.1 r7 cr_0_4 (by decide)
  have hK_0_4 := elq_3 hD hth cr_0_4
  have hE_0_5_1 : ∀ j : Int, w_ei ws (w_ar ws (n_v vs 0) 5) j = w_ei w1 (w_ar ws (n_v vs 0) 5) j := el_kp s1.1 r7 cr_0_5 (by decide)
  have hE_0_5_2 : ∀ j : Int, w_ei w1 (w_ar ws (n_v vs 0) 5) j = w_ei w2 (w_ar ws (n_v vs 0) 5) j := el_kp s2.1 r7 cr_0_5 (by decide)
  have hE_0_5_3 : ∀ j : Int, w_ei w2 (w_ar ws (n_v vs 0) 5) j = w_ei w3 (w_ar ws (n_v vs 0) 5) j := el_kp s3.1 r7 cr_0_5 (by decide)
  have hK_0_5 := elq_126 hD hth cr_0_5
  have hE_0_6_1 : ∀ j : Int, w_ei ws (w_ar ws (n_v vs 0) 6) j = w_ei w1 (w_ar ws (n_v vs 0) 6) j := el_kp s1.1 r7 cr_0_6 (by decide)
  have hE_0_6_2 : ∀ j : Int, w_ei w1 (w_ar ws (n_v vs 0) 6) j = w_ei w2 (w_ar ws (n_v vs 0) 6) j := el_kp s2.1 r7 cr_0_6 (by decide)
  have hE_0_6_3 : ∀ j : Int, w_ei w2 (w_ar ws (n_v vs 0) 6) j = w_ei w3 (w_ar ws (n_v vs 0) 6) j := el_kp s3.1 r7 cr_0_6 (by decide)
  have hK_0_6 := elq_127 hD hth cr_0_6
  have hE_0_7_1 : ∀ j : Int, w_ei ws (w_ar ws (n_v vs 0) 7) j = w_ei w1 (w_ar ws (n_v vs 0) 7) j := el_kp s1.1 r7 cr_0_7 (by decide)
  have hE_0_7_2 : ∀ j : Int, w_ei w1 (w_ar ws (n_v vs 0) 7) j = w_ei w2 (w_ar ws (n_v vs 0) 7) j := el_kp s2.1 r7 cr_0_7 (by decide)
  have hE_0_7_3 : ∀ j : Int, w_ei w2 (w_ar ws (n_v vs 0) 7) j = w_ei w3 (w_ar ws (n_v vs 0) 7) j := el_kp s3.1 r7 cr_0_7 (by decide)
  have hK_0_7 := elq_11 hD hth cr_0_7
  have hE_0_8_1 : ∀ j : Int, w_ei ws (w_ar ws (n_v vs 0) 8) j = w_ei w1 (w_ar ws (n_v vs 0) 8) j := el_kp s1.1 r7 cr_0_8 (by decide)
  have hE_0_8_2 : ∀ j : Int, w_ei w1 (w_ar ws (n_v vs 0) 8) j = w_ei w2 (w_ar ws (n_v vs 0) 8) j := el_kp s2.1 r7 cr_0_8 (by decide)
  have hE_0_8_3 : ∀ j : Int, w_ei w2 (w_ar ws (n_v vs 0) 8) j = w_ei w3 (w_ar ws (n_v vs 0) 8) j := el_kp s3.1 r7 cr_0_8 (by decide)
  have hK_0_8 := elq_12 hD hth cr_0_8
  have hE_0_16_1 : ∀ j : Int, 0 ≤ j → (j = v_iv (n_v vs 20) → w_ei ws (w_ar ws (n_v vs 0) 16) j = v_iv (n_v vs 32)) ∧ (j ≠ v_iv (n_v vs 20) → w_ei ws (w_ar ws (n_v vs 0) 16) j = w_ei w1 (w_ar ws (n_v vs 0) 16) j) := fun j hj => ⟨fun h => by unfold w_ei; rw [s1.1, if_pos ⟨ad_7.symm, by rw [h]⟩], fun h => by unfold w_ei; rw [s1.1, if_neg (fun e => h (by have := e.2; omega))]⟩
  have hE_0_16_2 : ∀ j : Int, 0 ≤ j → (j = v_iv (n_v vs 13) → w_ei w1 (w_ar ws (n_v vs 0) 16) j = v_iv (n_v vs 18)) ∧ (j ≠ v_iv (n_v vs 13) → w_ei w1 (w_ar ws (n_v vs 0) 16) j = w_ei w2 (w_ar ws (n_v vs 0) 16) j) := fun j hj => ⟨fun h => by unfold w_ei; rw [s2.1, if_pos ⟨ad_7.symm, by rw [h]⟩], fun h => by unfold w_ei; rw [s2.1, if_neg (fun e => h (by have := e.2; omega))]⟩
  have hE_0_16_3 : ∀ j : Int, 0 ≤ j → (j = v_iv (n_v vs 5) → w_ei w2 (w_ar ws (n_v vs 0) 16) j = v_iv (n_v vs 11)) ∧ (j ≠ v_iv (n_v vs 5) → w_ei w2 (w_ar ws (n_v vs 0) 16) j = w_ei w3 (w_ar ws (n_v vs 0) 16) j) := fun j hj => ⟨fun h => by unfold w_ei; rw [s3.1, if_pos ⟨ad_7.symm, by rw [h]⟩], fun h => by unfold w_ei; rw [s3.1, if_neg (fun e => h (by have := e.2; omega))]⟩
  have kz_0_0 := fdq_21 hD hth r0
  have kz_0_1 := fdq_30 hD hth r0
  have nf0 : fc_1 PRD (20, [3, 4, 33, 34], [60, 2, 1, 741, 0, 1, 16]) ws (vs) := by
    refine ⟨nf_in hl rfl, sgq_851 ?_⟩
    · show PK1 (w_fi ws (n_v vs 3) 0) (w_fi ws (n_v vs 3) 1) (w_ei ws (w_ar ws (n_v vs 3) 16)) (v_iv (n_v vs 4)) (v_iv (n_v vs 33)) (v_iv (n_v vs 34))
      simp only [q3, q4]
      exact vc_Gr_pack_5_0 (v_iv (n_v vs 1)) (v_iv (n_v vs 4)) (v_iv (n_v vs 5)) (v_iv (n_v vs 6)) (v_iv (n_v vs 8)) (v_iv (n_v vs 11)) (v_iv (n_v vs 12)) (v_iv (n_v vs 13)) (v_iv (n_v vs 18)) (v_iv (n_v vs 19)) (v_iv (n_v vs 20)) (v_iv (n_v vs 22)) (v_iv (n_v vs 24)) (v_iv (n_v vs 25)) (v_iv (n_v vs 26)) (v_iv (n_v vs 27)) (v_iv (n_v vs 29)) (v_iv (n_v vs 30)) (v_iv (n_v vs 31)) (v_iv (n_v vs 32)) (v_iv (n_v vs 33)) (v_iv (n_v vs 34)) (w_fi ws (n_v vs 0) 0) (w_ei ws (w_ar ws (n_v vs 0) 7)) (w_ei ws (w_ar ws (n_v vs 0) 8)) (w_fi ws (n_v vs 0) 1) (w_ei w1 (w_ar ws (n_v vs 0) 6)) (w_ei w1 (w_ar ws (n_v vs 0) 5)) (w_ei w1 (w_ar ws (n_v vs 0) 4)) (w_ei w1 (w_ar ws (n_v vs 0) 7)) (w_ei w1 (w_ar ws (n_v vs 0) 8)) (w_fi w1 (n_v vs 0) 0) (w_fi w1 (n_v vs 0) 1) (w_ei w2 (w_ar ws (n_v vs 0) 7)) (w_ei w2 (w_ar ws (n_v vs 0) 8)) (w_fi w2 (n_v vs 0) 0) (w_fi w2 (n_v vs 0) 1) (w_ei w3 (w_ar ws (n_v vs 0) 16)) (w_fi w3 (n_v vs 0) 0) (w_fi w3 (n_v vs 0) 1) (w_ei w3 (w_ar ws (n_v vs 0) 7)) (w_ei w3 (w_ar ws (n_v vs 0) 8)) (w_ei ws (w_ar ws (n_v vs 0) 4)) (w_ei w2 (w_ar ws (n_v vs 0) 4)) (w_ei w3 (w_ar ws (n_v vs 0) 4)) (w_ei ws (w_ar ws (n_v vs 0) 5)) (w_ei w2 (w_ar ws (n_v vs 0) 5)) (w_ei w3 (w_ar ws (n_v vs 0) 5)) (w_ei ws (w_ar ws (n_v vs 0) 6)) (w_ei w2 (w_ar ws (n_v vs 0) 6)) (w_ei w3 (w_ar ws (n_v vs 0) 6)) (w_ei ws (w_ar ws (n_v vs 0) 16)) (w_ei w1 (w_ar ws (n_v vs 0) 16)) (w_ei w2 (w_ar ws (n_v vs 0) 16)) k1 k4 k5 k6 k8 k11 k12 k13 k18 k19 k20 k22 k24 k25 k26 k27 k29 k30 k31 k32 k33 k34 d0 d1 d2 d3 d4 d5 d6 d7 d8 d9 g3 f5 f6 f7 f11 f12 f13 f14 h15 f16 f17 f18 f19 h20 h21 f22 f23 f25 f26 f28 f29 f30 fe_0_0_1 fe_0_1_1 fe_0_0_2 fe_0_1_2 fe_0_0_3 fe_0_1_3 hE_0_4_1 hE_0_4_2 hE_0_4_3 hK_0_4 hE_0_5_1 hE_0_5_2 hE_0_5_3 hK_0_5 hE_0_6_1 hE_0_6_2 hE_0_6_3 hK_0_6 hE_0_7_1 hE_0_7_2 hE_0_7_3 hK_0_7 hE_0_8_1 hE_0_8_2 hE_0_8_3 hK_0_8 hE_0_16_1 hE_0_16_2 hE_0_16_3 kz_0_0 kz_0_1
  refine ⟨(fun _ h => (by cases h)), [], trivial, ?_, (fun _ h => (by cases h))⟩
  rw [List.append_nil]
  exact List.forall_mem_cons.mpr ⟨⟨show (20 : Nat) < 100 from by decide, nf0⟩, (fun _ h => (by cases h))⟩
set_option maxHeartbeats 4000000 in
theorem vc_Gr_pack_6_0 (x1 : Int) (x4 : Int) (x5 : Int) (x6 : Int) (x8 : Int) (edges_0 : Int) (past_0 : Int → Int) (nodes_0 : Int) (tail_0 : Int → Int) (head_0 : Int → Int) (k1 : 0 ≤ x1 ∧ x1 ≤ 30) (k4 : 0 ≤ x4 ∧ x4 ≤ 30) (k5 : 74 ≤ x5 ∧ x5 ≤ 3734) (k6 : 0 ≤ x6 ∧ x6 ≤ 48) (k8 : 0 ≤ x8 ∧ x8 ≤ 48) (d0 : x8 + 0 ≤ x6 ∧ x6 ≤ x8 + 4294967296) (d1 : x4 + (-4294967296) ≤ x1 ∧ x1 ≤ x4 + 0) (d2 : x1 + (-4294967296) ≤ x4 ∧ x4 ≤ x1 + 0) (f1 : x8 ≤ x6) (g2 : x8 = edges_0) (f3 : PK2 (nodes_0) (edges_0) (past_0) (x1) (x5) (x6)) (f4 : GKE (nodes_0) (edges_0) (tail_0) (head_0)) (hK_0_7 : ∀ j : Int, 0 ≤ j → j < 48 → 0 ≤ tail_0 j ∧ tail_0 j ≤ 23) (hK_0_8 : ∀ j : Int, 0 ≤ j → j < 48 → 0 ≤ head_0 j ∧ head_0 j ≤ 23) (kz_0_0 : 0 ≤ nodes_0 ∧ nodes_0 ≤ 24) (kz_0_1 : 0 ≤ edges_0 ∧ edges_0 ≤ 48) : PRI (past_0) (x1) := by
  first
    | exact pri_of ‹PK2 _ _ _ _ _ _› (by omega)
  
set_option maxHeartbeats 4000000 in
theorem vc_Gr_pack_6_1 (x1 : Int) (x4 : Int) (x5 : Int) (x6 : Int) (x8 : Int) (edges_0 : Int) (past_0 : Int → Int) (nodes_0 : Int) (tail_0 : Int → Int) (head_0 : Int → Int) (k1 : 0 ≤ x1 ∧ x1 ≤ 30) (k4 : 0 ≤ x4 ∧ x4 ≤ 30) (k5 : 74 ≤ x5 ∧ x5 ≤ 3734) (k6 : 0 ≤ x6 ∧ x6 ≤ 48) (k8 : 0 ≤ x8 ∧ x8 ≤ 48) (d0 : x8 + 0 ≤ x6 ∧ x6 ≤ x8 + 4294967296) (d1 : x4 + (-4294967296) ≤ x1 ∧ x1 ≤ x4 + 0) (d2 : x1 + (-4294967296) ≤ x4 ∧ x4 ≤ x1 + 0) (f1 : x8 ≤ x6) (g2 : x8 = edges_0) (f3 : PK2 (nodes_0) (edges_0) (past_0) (x1) (x5) (x6)) (f4 : GKE (nodes_0) (edges_0) (tail_0) (head_0)) (hK_0_7 : ∀ j : Int, 0 ≤ j → j < 48 → 0 ≤ tail_0 j ∧ tail_0 j ≤ 23) (hK_0_8 : ∀ j : Int, 0 ≤ j → j < 48 → 0 ≤ head_0 j ∧ head_0 j ≤ 23) (kz_0_0 : 0 ≤ nodes_0 ∧ nodes_0 ≤ 24) (kz_0_1 : 0 ≤ edges_0 ∧ edges_0 ≤ 48) : GKE (nodes_0) (edges_0) (tail_0) (head_0) := by
  assumption
def o_Gr_pack_6 : or_T := (185, 9, [(0, (2, 0, 0, [3])), (1, (0, 0, 30, [])), (4, (0, 0, 30, [])), (5, (0, 74, 3734, [])), (6, (0, 0, 48, [])), (8, (0, 0, 48, []))], [(7, [6, 8], [3]), (9, [8, 3], [1]), (20, [3, 4, 5, 6], [60, 2, 1, 742, 0, 1, 16]), (20, [3], [60, 2, 2, 596, 0, 1, 7, 8]), (24, [0, 3], []), (24, [1, 4], [])], [], [], [(20, [0, 1], [60, 0, 1, 738, 16]), (20, [0], [60, 2, 2, 596, 0, 1, 7, 8])], [], [(6, 8, 0, 4294967296), (1, 4, -4294967296, 0), (4, 1, -4294967296, 0)])
theorem oo_Gr_pack_6 {kA : Nat → ClassId} : or_ok PRD kA GG o_Gr_pack_6 := by
  refine or_mk fun A ta ws vs hD hth hl => ?_
  intro t0 r0 t1 k1 t4 k4 t5 k5 t6 k6 t8 k8 d0 d1 d2 f1 f2 f3 f4 f5 f6
  replace f2 := shm_215 f2
  replace f3 := shm_852 f3
  replace f4 := shm_386 f4
  replace f5 := shm_5 f5
  replace f6 := shm_5 f6
  have q3 : n_v vs 3 = n_v vs 0 := f5.symm
  have q4 : n_v vs 4 = n_v vs 1 := f6.symm
  simp only [q3, q4] at f2 f3 f4
  have cr_0_7 := fdq_46 hD hth r0
  have cr_0_8 := fdq_47 hD hth r0
  have g2 : v_iv (n_v vs 8) = w_fi ws (n_v vs 0) 1 := congrArg v_iv f2
  have hK_0_7 := elq_11 hD hth cr_0_7
  have hK_0_8 := elq_12 hD hth cr_0_8
  have kz_0_0 := fdq_21 hD hth r0
  have kz_0_1 := fdq_30 hD hth r0
  have nf0 : fc_1 PRD (20, [0, 1], [60, 0, 1, 738, 16]) ws (vs) := ⟨nf_in hl rfl, sgq_855 (vc_Gr_pack_6_0 (v_iv (n_v vs 1)) (v_iv (n_v vs 4)) (v_iv (n_v vs 5)) (v_iv (n_v vs 6)) (v_iv (n_v vs 8)) (w_fi ws (n_v vs 0) 1) (w_ei ws (w_ar ws (n_v vs 0) 16)) (w_fi ws (n_v vs 0) 0) (w_ei ws (w_ar ws (n_v vs 0) 7)) (w_ei ws (w_ar ws (n_v vs 0) 8)) k1 k4 k5 k6 k8 d0 d1 d2 (shm_2 f1) g2 f3 f4 hK_0_7 hK_0_8 kz_0_0 kz_0_1)⟩
  have nf1 : fc_1 PRD (20, [0], [60, 2, 2, 596, 0, 1, 7, 8]) ws (vs) := ⟨nf_in hl rfl, sgq_386 (vc_Gr_pack_6_1 (v_iv (n_v vs 1)) (v_iv (n_v vs 4)) (v_iv (n_v vs 5)) (v_iv (n_v vs 6)) (v_iv (n_v vs 8)) (w_fi ws (n_v vs 0) 1) (w_ei ws (w_ar ws (n_v vs 0) 16)) (w_fi ws (n_v vs 0) 0) (w_ei ws (w_ar ws (n_v vs 0) 7)) (w_ei ws (w_ar ws (n_v vs 0) 8)) k1 k4 k5 k6 k8 d0 d1 d2 (shm_2 f1) g2 f3 f4 hK_0_7 hK_0_8 kz_0_0 kz_0_1)⟩
  refine ⟨(fun _ h => (by cases h)), [], trivial, ?_, (fun _ h => (by cases h))⟩
  rw [List.append_nil]
  exact List.forall_mem_cons.mpr ⟨⟨show (20 : Nat) < 100 from by decide, nf0⟩, List.forall_mem_cons.mpr ⟨⟨show (20 : Nat) < 100 from by decide, nf1⟩, (fun _ h => (by cases h))⟩⟩
set_option maxHeartbeats 4000000 in
theorem vc_Gr_pack_7_0 (x1 : Int) (x4 : Int) (x5 : Int) (x6 : Int) (x8 : Int) (x9 : Int) (x11 : Int) (x13 : Int) (x14 : Int) (x15 : Int) (x16 : Int) (x18 : Int) (x19 : Int) (x20 : Int) (x21 : Int) (x23 : Int) (x24 : Int) (x25 : Int) (x26 : Int) (x27 : Int) (edges_0 : Int) (tail_0 : Int → Int) (head_0 : Int → Int) (nodes_0 : Int) (oneWay_1 : Int → Int) (weight_1 : Int → Int) (head_1 : Int → Int) (tail_1 : Int → Int) (past_1 : Int → Int) (nodes_1 : Int) (edges_1 : Int) (weight_0 : Int → Int) (oneWay_0 : Int → Int) (past_0 : Int → Int) (k1 : 0 ≤ x1 ∧ x1 ≤ 30) (k4 : 0 ≤ x4 ∧ x4 ≤ 30) (k5 : 74 ≤ x5 ∧ x5 ≤ 3734) (k6 : 0 ≤ x6 ∧ x6 ≤ 47) (k8 : 1 ≤ x8 ∧ x8 ≤ 48) (k9 : 74 ≤ x9 ∧ x9 ≤ 3781) (k11 : 0 ≤ x11 ∧ x11 ≤ 23) (k13 : 0 ≤ x13 ∧ x13 ≤ 23) (k14 : 8 ≤ x14 ∧ x14 ≤ 8) (k15 : 0 ≤ x15 ∧ x15 ≤ 5888) (k16 : 0 ≤ x16 ∧ x16 ≤ 8191) (k18 : 0 ≤ x18 ∧ x18 ≤ 9) (k19 : 16 ≤ x19 ∧ x19 ≤ 16) (k20 : 0 ≤ x20 ∧ x20 ≤ 589824) (k21 : 0 ≤ x21 ∧ x21 ≤ 1048575) (k23 : 0 ≤ x23 ∧ x23 ≤ 1) (k24 : 24 ≤ x24 ∧ x24 ≤ 24) (k25 : 0 ≤ x25 ∧ x25 ≤ 16777216) (k26 : 0 ≤ x26 ∧ x26 ≤ 33554431) (k27 : 1 ≤ x27 ∧ x27 ≤ 48) (d0 : x6 + 1 ≤ x27 ∧ x27 ≤ x6 + 1) (d1 : x8 + (-4294967296) ≤ x27 ∧ x27 ≤ x8 + 0) (d2 : x6 + 74 ≤ x9 ∧ x9 ≤ x6 + 3734) (d3 : x8 + (-4294967296) ≤ x9 ∧ x9 ≤ x8 + 3733) (d4 : x5 + 0 ≤ x9 ∧ x9 ≤ x5 + 47) (d5 : x8 + (-4294967296) ≤ x6 ∧ x6 ≤ x8 + (-1)) (d6 : x4 + (-4294967296) ≤ x1 ∧ x1 ≤ x4 + 0) (d7 : x1 + (-4294967296) ≤ x4 ∧ x4 ≤ x1 + 0) (g4 : x8 = edges_0) (f6 : x27 = x6 + 1) (f7 : GKE (nodes_0) (edges_0) (tail_0) (head_0)) (f11 : x26 ≤ x21 + x25 ∧ x21 ≤ x26 ∧ x25 ≤ x26) (f12 : bvp (x26) = bvp (x21) ||| bvp (x25)) (f13 : x25 = x23 * 16777216) (f14 : bvp (x25) = bvp (x23) <<< (x24).toNat) (h15 : x23 = oneWay_1 (x6)) (f16 : x21 ≤ x16 + x20 ∧ x16 ≤ x21 ∧ x20 ≤ x21) (f17 : bvp (x21) = bvp (x16) ||| bvp (x20)) (f18 : x20 = x18 * 65536) (f19 : bvp (x20) = bvp (x18) <<< (x19).toNat) (h20 : x18 = weight_1 (x6)) (f21 : x16 ≤ x11 + x15 ∧ x11 ≤ x16 ∧ x15 ≤ x16) (f22 : bvp (x16) = bvp (x11) ||| bvp (x15)) (f23 : x15 = x13 * 256) (f24 : bvp (x15) = bvp (x13) <<< (x14).toNat) (h25 : x13 = head_1 (x6)) (h26 : x11 = tail_1 (x6)) (f27 : x9 = x5 + x6) (f28 : x6 < x8) (f29 : PK2 (nodes_1) (edges_1) (past_1) (x1) (x5) (x6)) (f30 : GKE (nodes_1) (edges_1) (tail_1) (head_1)) (fe_0_0_1 : nodes_0 = nodes_1) (fe_0_1_1 : edges_0 = edges_1) (hE_0_7_1 : ∀ j : Int, tail_0 j = tail_1 j) (hK_0_7 : ∀ j : Int, 0 ≤ j → j < 48 → 0 ≤ tail_0 j ∧ tail_0 j ≤ 23) (hE_0_8_1 : ∀ j : Int, head_0 j = head_1 j) (hK_0_8 : ∀ j : Int, 0 ≤ j → j < 48 → 0 ≤ head_0 j ∧ head_0 j ≤ 23) (hE_0_9_1 : ∀ j : Int, weight_0 j = weight_1 j) (hK_0_9 : ∀ j : Int, 0 ≤ j → j < 48 → 0 ≤ weight_0 j ∧ weight_0 j ≤ 9) (hE_0_10_1 : ∀ j : Int, oneWay_0 j = oneWay_1 j) (hK_0_10 : ∀ j : Int, 0 ≤ j → j < 48 → 0 ≤ oneWay_0 j ∧ oneWay_0 j ≤ 1) (hE_0_16_1 : ∀ j : Int, 0 ≤ j → (j = x9 → past_0 j = x26) ∧ (j ≠ x9 → past_0 j = past_1 j)) (kz_0_0 : 0 ≤ nodes_0 ∧ nodes_0 ≤ 24) (kz_0_1 : 0 ≤ edges_0 ∧ edges_0 ≤ 48) : PK2 (nodes_0) (edges_0) (past_0) (x1) (x5) (x27) := by
  subst fe_0_0_1
  subst fe_0_1_1
  have e_hE_0_7_1 := funext hE_0_7_1; subst e_hE_0_7_1
  have e_hE_0_8_1 := funext hE_0_8_1; subst e_hE_0_8_1
  have e_hE_0_9_1 := funext hE_0_9_1; subst e_hE_0_9_1
  have e_hE_0_10_1 := funext hE_0_10_1; subst e_hE_0_10_1
  first
    | assumption
    | exact pk2_start ‹PK1 _ _ _ _ _ _› (by omega) (by omega) (by omega)
    | (have g := ‹GKE _ _ _ _› x6 (by omega) (by omega); exact pk2_step ‹PK2 _ _ _ _ _ _› (by omega) hE_0_16_1 (by omega) (pew_of (a := x11) (b := x13) (c := x18) (d := x23) (t := x15) (u := x20) (v := x25) (x := x16) (y := x21) (z := x26) (s1 := x14) (s2 := x19) (s3 := x24) (by assumption) (by omega) (by assumption) (by assumption) (by omega) (by assumption) (by assumption) (by omega) (by assumption) (by omega) (by omega) (by omega) (by omega) (by omega) (by omega) (by omega) (by omega) (by omega) (by omega) (by omega) (by omega) (by omega) (by omega) (by omega) (by omega)) (by omega))
  
def o_Gr_pack_7 : or_T := (127, 28, [(0, (2, 0, 0, [3])), (1, (0, 0, 30, [])), (4, (0, 0, 30, [])), (5, (0, 74, 3734, [])), (6, (0, 0, 47, [])), (7, (2, 0, 0, [61])), (8, (0, 1, 48, [])), (9, (0, 74, 3781, [])), (11, (0, 0, 23, [])), (13, (0, 0, 23, [])), (14, (0, 8, 8, [])), (15, (0, 0, 5888, [])), (16, (0, 0, 8191, [])), (18, (0, 0, 9, [])), (19, (0, 16, 16, [])), (20, (0, 0, 589824, [])), (21, (0, 0, 1048575, [])), (23, (0, 0, 1, [])), (24, (0, 24, 24, [])), (25, (0, 0, 16777216, [])), (26, (0, 0, 33554431, [])), (27, (0, 1, 48, []))], [(9, [22, 3], [10]), (9, [17, 3], [9]), (9, [12, 3], [8]), (9, [10, 3], [7]), (9, [8, 3], [1]), (9, [7, 3], [16]), (6, [27, 6], [1]), (20, [3], [60, 2, 2, 596, 0, 1, 7, 8]), (24, [0, 3], []), (24, [1, 4], []), (100, [7, 9, 26], []), (13, [26, 21, 25], []), (16, [26, 21, 25], [1]), (15, [25, 23], [16777216]), (16, [25, 23, 24], [3]), (10, [23, 22, 6], []), (13, [21, 16, 20], []), (16, [21, 16, 20], [1]), (15, [20, 18], [65536]), (16, [20, 18, 19], [3]), (10, [18, 17, 6], []), (13, [16, 11, 15], []), (16, [16, 11, 15], [1]), (15, [15, 13], [256]), (16, [15, 13, 14], [3]), (10, [13, 12, 6], []), (10, [11, 10, 6], []), (1, [9, 5, 6], []), (7, [6, 8], [2]), (20, [3, 4, 5, 6], [60, 2, 1, 742, 0, 1, 16]), (20, [3], [60, 2, 2, 596, 0, 1, 7, 8])], [], [], [(20, [3, 4, 5, 27], [60, 2, 1, 742, 0, 1, 16])], [], [(27, 6, 1, 1), (27, 8, -4294967296, 0), (9, 6, 74, 3734), (9, 8, -4294967296, 3733), (9, 5, 0, 47), (6, 8, -4294967296, -1), (1, 4, -4294967296, 0), (4, 1, -4294967296, 0)])
theorem oo_Gr_pack_7 {kA : Nat → ClassId} : or_ok PRD kA GG o_Gr_pack_7 := by
  refine or_mk fun A ta ws vs hD hth hl => ?_
  intro t0 r0 t1 k1 t4 k4 t5 k5 t6 k6 t7 r7 t8 k8 t9 k9 t11 k11 t13 k13 t14 k14 t15 k15 t16 k16 t18 k18 t19 k19 t20 k20 t21 k21 t23 k23 t24 k24 t25 k25 t26 k26 t27 k27 d0 d1 d2 d3 d4 d5 d6 d7 f0 f1 f2 f3 f4 f5 f6 f7 f8 f9 ta1 w1 le1 s1 f11 f12 f13 f14 f15 f16 f17 f18 f19 f20 f21 f22 f23 f24 f25 f26 f27 f28 f29 f30
  replace f0 := shm_106 f0
  replace f1 := shm_119 f1
  replace f2 := shm_293 f2
  replace f3 := shm_198 f3
  replace f4 := shm_215 f4
  replace f5 := shm_176 f5
  replace f6 := shm_4 f6
  replace f7 := shm_386 f7
  replace f8 := shm_5 f8
  replace f9 := shm_5 f9
  have s1 : (∀ b j, w_el ws b j = if b = v_ad (n_v vs 7) ∧ j = (v_iv (n_v vs 9)).toNat then v_iv (n_v vs 26) else w_el w1 b j) ∧ ∀ b k, w_fd ws b k = w_fd w1 b k := s1.2
  have f11 : v_iv (n_v vs 26) ≤ v_iv (n_v vs 21) + v_iv (n_v vs 25) ∧ v_iv (n_v vs 21) ≤ v_iv (n_v vs 26) ∧ v_iv (n_v vs 25) ≤ v_iv (n_v vs 26) := (fun (h : v_iv (n_v vs 26) ≤ v_iv (n_v vs 21) + v_iv (n_v vs 25) ∧ v_iv (n_v vs 21) ≤ v_iv (n_v vs 26) ∧ v_iv (n_v vs 25) ≤ v_iv (n_v vs 26) ∧ (v_iv (n_v vs 26)).toNat = (v_iv (n_v vs 21)).toNat ||| (v_iv (n_v vs 25)).toNat) => ⟨h.1, h.2.1, h.2.2.1⟩) f11
  replace f12 := shm_354 f12
  replace f13 := shm_856 f13
  replace f14 := shm_349 f14
  replace f15 := shm_107 f15
  have f16 : v_iv (n_v vs 21) ≤ v_iv (n_v vs 16) + v_iv (n_v vs 20) ∧ v_iv (n_v vs 16) ≤ v_iv (n_v vs 21) ∧ v_iv (n_v vs 20) ≤ v_iv (n_v vs 21) := (fun (h : v_iv (n_v vs 21) ≤ v_iv (n_v vs 16) + v_iv (n_v vs 20) ∧ v_iv (n_v vs 16) ≤ v_iv (n_v vs 21) ∧ v_iv (n_v vs 20) ≤ v_iv (n_v vs 21) ∧ (v_iv (n_v vs 21)).toNat = (v_iv (n_v vs 16)).toNat ||| (v_iv (n_v vs 20)).toNat) => ⟨h.1, h.2.1, h.2.2.1⟩) f16
  replace f17 := shm_354 f17
  replace f18 := shm_492 f18
  replace f19 := shm_349 f19
  replace f20 := shm_107 f20
  have f21 : v_iv (n_v vs 16) ≤ v_iv (n_v vs 11) + v_iv (n_v vs 15) ∧ v_iv (n_v vs 11) ≤ v_iv (n_v vs 16) ∧ v_iv (n_v vs 15) ≤ v_iv (n_v vs 16) := (fun (h : v_iv (n_v vs 16) ≤ v_iv (n_v vs 11) + v_iv (n_v vs 15) ∧ v_iv (n_v vs 11) ≤ v_iv (n_v vs 16) ∧ v_iv (n_v vs 15) ≤ v_iv (n_v vs 16) ∧ (v_iv (n_v vs 16)).toNat = (v_iv (n_v vs 11)).toNat ||| (v_iv (n_v vs 15)).toNat) => ⟨h.1, h.2.1, h.2.2.1⟩) f21
  replace f22 := shm_354 f22
  replace f23 := shm_854 f23
  replace f24 := shm_349 f24
  replace f25 := shm_107 f25
  replace f26 := shm_107 f26
  replace f27 := shm_12 f27
  replace f28 := shm_6 f28
  replace f29 := shm_852 f29
  replace f30 := shm_386 f30
  have q3 : n_v vs 3 = n_v vs 0 := f8.symm
  have q4 : n_v vs 4 = n_v vs 1 := f9.symm
  simp only [q3, q4] at f0 f1 f2 f3 f4 f5 f7 f29 f30
  have ar_0_7_1 : w_ar w1 (n_v vs 0) 7 = w_ar ws (n_v vs 0) 7 := congrArg v_ad (s1.2 _ _).symm
  have cr_0_7 := fdq_46 hD hth r0
  have ar_0_8_1 : w_ar w1 (n_v vs 0) 8 = w_ar ws (n_v vs 0) 8 := congrArg v_ad (s1.2 _ _).symm
  have cr_0_8 := fdq_47 hD hth r0
  have cr_0_9 := fdq_112 hD hth r0
  have cr_0_10 := fdq_209 hD hth r0
  have ar_0_16_1 : w_ar w1 (n_v vs 0) 16 = w_ar ws (n_v vs 0) 16 := congrArg v_ad (s1.2 _ _).symm
  have ad_22 : v_ad (n_v vs 22) = w_ar ws (n_v vs 0) 10 := congrArg v_ad f0
  have ad_17 : v_ad (n_v vs 17) = w_ar ws (n_v vs 0) 9 := congrArg v_ad f1
  have ad_12 : v_ad (n_v vs 12) = w_ar ws (n_v vs 0) 8 := congrArg v_ad f2
  have ad_10 : v_ad (n_v vs 10) = w_ar ws (n_v vs 0) 7 := congrArg v_ad f3
  have ad_7 : v_ad (n_v vs 7) = w_ar ws (n_v vs 0) 16 := congrArg v_ad f5
  have g4 : v_iv (n_v vs 8) = w_fi ws (n_v vs 0) 1 := congrArg v_iv f4
  simp only [ad_22] at f15
  have h15 : v_iv (n_v vs 23) = w_ei w1 (w_ar ws (n_v vs 0) 10) (v_iv (n_v vs 6)) := f15
  simp only [ad_17] at f20
  have h20 : v_iv (n_v vs 18) = w_ei w1 (w_ar ws (n_v vs 0) 9) (v_iv (n_v vs 6)) := f20
  simp only [ad_12] at f25
  have h25 : v_iv (n_v vs 13) = w_ei w1 (w_ar ws (n_v vs 0) 8) (v_iv (n_v vs 6)) := f25
  simp only [ad_10] at f26
  have h26 : v_iv (n_v vs 11) = w_ei w1 (w_ar ws (n_v vs 0) 7) (v_iv (n_v vs 6)) := f26
  simp only [ar_0_16_1, ar_0_7_1, ar_0_8_1] at f29 f30
  have fe_0_0_1 : w_fi ws (n_v vs 0) 0 = w_fi w1 (n_v vs 0) 0 := congrArg v_iv (s1.2 _ _)
  have fe_0_1_1 : w_fi ws (n_v vs 0) 1 = w_fi w1 (n_v vs 0) 1 := congrArg v_iv (s1.2 _ _)
  have hE_0_7_1 : ∀ j : Int, w_ei ws (w_ar ws (n_v vs 0) 7) j = w_ei w1 (w_ar ws (n_v vs 0) 7) j := el_kp s1.1 r7 cr_0_7 (by decide)
  have hK_0_7 := elq_11 hD hth cr_0_7
  have hE_0_8_1 : ∀ j : Int, w_ei ws (w_ar ws (n_v vs 0) 8) j = w_ei w1 (w_ar ws (n_v vs 0) 8) j := el_kp s1.1 r7 cr_0_8 (by decide)
  have hK_0_8 := elq_12 hD hth cr_0_8
  have hE_0_9_1 : ∀ j : Int, w_ei ws (w_ar ws (n_v vs 0) 9) j = w_ei w1 (w_ar ws (n_v vs 0) 9) j := el_kp s1.1 r7 cr_0_9 (by decide)
  have hK_0_9 := elq_57 hD hth cr_0_9
  have hE_0_10_1 : ∀ j : Int, w_ei ws (w_ar ws (n_v vs 0) 10) j = w_ei w1 (w_ar ws (n_v vs 0) 10) j := el_kp s1.1 r7 cr_0_10 (by decide)
  have hK_0_10 := elq_123 hD hth cr_0_10
  have hE_0_16_1 : ∀ j : Int, 0 ≤ j → (j = v_iv (n_v vs 9) → w_ei ws (w_ar ws (n_v vs 0) 16) j = v_iv (n_v vs 26)) ∧ (j ≠ v_iv (n_v vs 9) → w_ei ws (w_ar ws (n_v vs 0) 16) j = w_ei w1 (w_ar ws (n_v vs 0) 16) j) := fun j hj => ⟨fun h => by unfold w_ei; rw [s1.1, if_pos ⟨ad_7.symm, by rw [h]⟩], fun h => by unfold w_ei; rw [s1.1, if_neg (fun e => h (by have := e.2; omega))]⟩
  have kz_0_0 := fdq_21 hD hth r0
  have kz_0_1 := fdq_30 hD hth r0
  have nf0 : fc_1 PRD (20, [3, 4, 5, 27], [60, 2, 1, 742, 0, 1, 16]) ws (vs) := by
    refine ⟨nf_in hl rfl, sgq_852 ?_⟩
    · show PK2 (w_fi ws (n_v vs 3) 0) (w_fi ws (n_v vs 3) 1) (w_ei ws (w_ar ws (n_v vs 3) 16)) (v_iv (n_v vs 4)) (v_iv (n_v vs 5)) (v_iv (n_v vs 27))
      simp only [q3, q4]
      exact vc_Gr_pack_7_0 (v_iv (n_v vs 1)) (v_iv (n_v vs 4)) (v_iv (n_v vs 5)) (v_iv (n_v vs 6)) (v_iv (n_v vs 8)) (v_iv (n_v vs 9)) (v_iv (n_v vs 11)) (v_iv (n_v vs 13)) (v_iv (n_v vs 14)) (v_iv (n_v vs 15)) (v_iv (n_v vs 16)) (v_iv (n_v vs 18)) (v_iv (n_v vs 19)) (v_iv (n_v vs 20)) (v_iv (n_v vs 21)) (v_iv (n_v vs 23)) (v_iv (n_v vs 24)) (v_iv (n_v vs 25)) (v_iv (n_v vs 26)) (v_iv (n_v vs 27)) (w_fi ws (n_v vs 0) 1) (w_ei ws (w_ar ws (n_v vs 0) 7)) (w_ei ws (w_ar ws (n_v vs 0) 8)) (w_fi ws (n_v vs 0) 0) (w_ei w1 (w_ar ws (n_v vs 0) 10)) (w_ei w1 (w_ar ws (n_v vs 0) 9)) (w_ei w1 (w_ar ws (n_v vs 0) 8)) (w_ei w1 (w_ar ws (n_v vs 0) 7)) (w_ei w1 (w_ar ws (n_v vs 0) 16)) (w_fi w1 (n_v vs 0) 0) (w_fi w1 (n_v vs 0) 1) (w_ei ws (w_ar ws (n_v vs 0) 9)) (w_ei ws (w_ar ws (n_v vs 0) 10)) (w_ei ws (w_ar ws (n_v vs 0) 16)) k1 k4 k5 k6 k8 k9 k11 k13 k14 k15 k16 k18 k19 k20 k21 k23 k24 k25 k26 k27 d0 d1 d2 d3 d4 d5 d6 d7 g4 f6 f7 f11 f12 f13 f14 h15 f16 f17 f18 f19 h20 f21 f22 f23 f24 h25 h26 f27 f28 f29 f30 fe_0_0_1 fe_0_1_1 hE_0_7_1 hK_0_7 hE_0_8_1 hK_0_8 hE_0_9_1 hK_0_9 hE_0_10_1 hK_0_10 hE_0_16_1 kz_0_0 kz_0_1
  refine ⟨(fun _ h => (by cases h)), [], trivial, ?_, (fun _ h => (by cases h))⟩
  rw [List.append_nil]
  exact List.forall_mem_cons.mpr ⟨⟨show (20 : Nat) < 100 from by decide, nf0⟩, (fun _ h => (by cases h))⟩
def n_Gr_pack_an : List an_T := [(32, [(0, (2, 0, 0, [3])), (1, (0, 0, 30, [])), (2, (0, 2, 3784, [])), (3, (0, 0, 24, []))], [], (0, 0), [(0, 0, 99968), (1, 5, 3784), (0, 0, 100000)], [(1, 4, (Int.negSucc 999999999999), 0), (4, 1, (Int.negSucc 999999999999), 0), (6, 5, (Int.negSucc 999999999999), (Int.negSucc 1))], [((0, 16), (2, 0, 0, [61]))], [(2, 0, 0, [3]), (0, 0, 30, []), (2, 0, 0, [61])], 0, [], [(20, [3, 4, 5, 6], [60, 2, 1, 741, 0, 1, 16]), (20, [3], [60, 2, 2, 596, 0, 1, 7, 8]), (24, [0, 3], []), (24, [1, 4], [])]), (127, [(0, (2, 0, 0, [3])), (1, (0, 0, 30, [])), (2, (0, 74, 3734, [])), (3, (0, 0, 48, []))], [], (0, 0), [(0, 0, 99873), (1, 6, 48), (0, 0, 100000)], [(1, 4, (Int.negSucc 999999999999), 0), (4, 1, (Int.negSucc 999999999999), 0)], [((0, 16), (2, 0, 0, [61]))], [(2, 0, 0, [3]), (0, 0, 30, []), (2, 0, 0, [61])], 0, [], [(20, [3, 4, 5, 6], [60, 2, 1, 742, 0, 1, 16]), (20, [3], [60, 2, 2, 596, 0, 1, 7, 8]), (24, [0, 3], []), (24, [1, 4], [])])]
def t_Gr_pack_ct : ct_L := [(1, 149, e_Gr_fourLetters)]
set_option maxRecDepth 100000 in
theorem c_Gr_pack {l : Launch} {D : va_G} {kA : Nat → ClassId} (h_Gr_fourLetters : ct_ok PRD l D kA GG y_Gr_fourLetters z_Gr_fourLetters e_Gr_fourLetters) : ct_ok PRD l D kA GG y_Gr_pack z_Gr_pack e_Gr_pack := chk_all_ok (FT := [(9, 3, 0), (15, 3, 1), (25, 3, 4), (29, 3, 5), (32, 3, 6), (35, 3, 7), (38, 3, 8), (41, 3, 9), (44, 3, 10), (62, 3, 16)]) (PT := []) (CT := t_Gr_pack_ct) (KT := []) (NT := []) (AN := n_Gr_pack_an) (OT := [o_Gr_pack_0, o_Gr_pack_1, o_Gr_pack_2, o_Gr_pack_3, o_Gr_pack_4, o_Gr_pack_5, o_Gr_pack_6, o_Gr_pack_7]) 3 488 (List.forall_mem_cons.mpr ⟨oo_Gr_pack_0, List.forall_mem_cons.mpr ⟨oo_Gr_pack_1, List.forall_mem_cons.mpr ⟨oo_Gr_pack_2, List.forall_mem_cons.mpr ⟨oo_Gr_pack_3, List.forall_mem_cons.mpr ⟨oo_Gr_pack_4, List.forall_mem_cons.mpr ⟨oo_Gr_pack_5, List.forall_mem_cons.mpr ⟨oo_Gr_pack_6, List.forall_mem_cons.mpr ⟨oo_Gr_pack_7, List.forall_mem_nil _⟩⟩⟩⟩⟩⟩⟩⟩) (by decide +kernel) ⟨List.forall_mem_cons.mpr ⟨gf_Gr_9, List.forall_mem_cons.mpr ⟨gf_Gr_15, List.forall_mem_cons.mpr ⟨gf_Gr_25, List.forall_mem_cons.mpr ⟨gf_Gr_29, List.forall_mem_cons.mpr ⟨gf_Gr_32, List.forall_mem_cons.mpr ⟨gf_Gr_35, List.forall_mem_cons.mpr ⟨gf_Gr_38, List.forall_mem_cons.mpr ⟨gf_Gr_41, List.forall_mem_cons.mpr ⟨gf_Gr_44, List.forall_mem_cons.mpr ⟨gf_Gr_62, List.forall_mem_nil _⟩⟩⟩⟩⟩⟩⟩⟩⟩⟩, List.forall_mem_nil _, List.forall_mem_cons.mpr ⟨cl_virtual (y := y_Gr_fourLetters) (ci := 3) rfl rfl ⟨_, _, rfl⟩ (by decide +kernel) h_Gr_fourLetters wm_983 wm_3 wm_980 wm_982 wv_2_15 ⟨by decide, by decide, by decide +kernel⟩ (by decide), List.forall_mem_nil _⟩, List.forall_mem_nil _, List.forall_mem_nil _, GG_pl⟩ (by decide +kernel)
set_option maxHeartbeats 4000000 in
theorem vc_Gr_removeEdge_at_gn_0_r0 (x1 : Int) (x4 : Int) (x5 : Int) (x6 : Int) (x7 : Int) (x8 : Int) (edges_0 : Int) (tail_0 : Int → Int) (head_0 : Int → Int) (nodes_0 : Int) (k1 : 0 ≤ x1 ∧ x1 ≤ 47) (k4 : 1 ≤ x4 ∧ x4 ≤ 48) (k5 : 0 ≤ x5 ∧ x5 ≤ 23) (k6 : (-46) ≤ x6 ∧ x6 ≤ 48) (k7 : 1 ≤ x7 ∧ x7 ≤ 1) (k8 : (-47) ≤ x8 ∧ x8 ≤ 47) (d0 : x6 + (-1) ≤ x8 ∧ x8 ≤ x6 + (-1)) (d1 : x4 + (-48) ≤ x8 ∧ x8 ≤ x4 + (-1)) (d2 : x4 + (-47) ≤ x6 ∧ x6 ≤ x4 + 0) (f2 : x8 = x6 - x7) (f3 : x6 = x4 - x1) (g4 : x4 = edges_0) (f5 : (0 ≤ x1) ∧ ((x1 + 1) ≤ edges_0)) (f6 : GKE (nodes_0) (edges_0) (tail_0) (head_0)) (f7 : NOQ (edges_0) (tail_0) (head_0) (x1) (x5)) (hK_0_7 : ∀ j : Int, 0 ≤ j → j < 48 → 0 ≤ tail_0 j ∧ tail_0 j ≤ 23) (hK_0_8 : ∀ j : Int, 0 ≤ j → j < 48 → 0 ≤ head_0 j ∧ head_0 j ≤ 23) (kz_0_0 : 0 ≤ nodes_0 ∧ nodes_0 ≤ 24) (kz_0_1 : 0 ≤ edges_0 ∧ edges_0 ≤ 48) : 0 ≤ x8 ∧ x8 ≤ 47 := by
  first
    | omega
  
def o_Gr_removeEdge_at_gn_0 : or_T := (8, 9, [(0, (2, 0, 0, [3])), (1, (0, 0, 47, [])), (2, (2, 0, 0, [52])), (3, (2, 0, 0, [53])), (4, (0, 1, 48, [])), (5, (0, 0, 23, [])), (6, (0, -46, 48, [])), (7, (0, 1, 1, [])), (8, (0, -47, 47, []))], [(9, [2, 0], [7]), (9, [3, 0], [8]), (2, [8, 6, 7], []), (2, [6, 4, 1], []), (9, [4, 0], [1]), (20, [1, 0], [50, 1, 0, 1001, 2, 6, 0, 2, 0, 0, 1, 0, 0, 6, 4, 2, 1, 0, 0, 1, 2, 1, 1]), (20, [0], [60, 2, 2, 596, 0, 1, 7, 8]), (20, [0, 1, 5], [60, 1, 2, 757, 1, 7, 8])], [(8, (0, 0, 47, []))], [], [], [], [(8, 6, -1, -1), (8, 4, -48, -1), (6, 4, -47, 0)])
theorem oo_Gr_removeEdge_at_gn_0 {kA : Nat → ClassId} : or_ok PRD kA GG o_Gr_removeEdge_at_gn_0 := by
  refine or_mk fun A ta ws vs hD hth hl => ?_
  intro t0 r0 t1 k1 t2 r2 t3 r3 t4 k4 t5 k5 t6 k6 t7 k7 t8 k8 d0 d1 d2 f0 f1 f2 f3 f4 f5 f6 f7
  replace f4 := shm_215 f4
  have cr_0_7 := fdq_46 hD hth r0
  have cr_0_8 := fdq_47 hD hth r0
  have g4 : v_iv (n_v vs 4) = w_fi ws (n_v vs 0) 1 := congrArg v_iv f4
  have hK_0_7 := elq_11 hD hth cr_0_7
  have hK_0_8 := elq_12 hD hth cr_0_8
  have kz_0_0 := fdq_21 hD hth r0
  have kz_0_1 := fdq_30 hD hth r0
  have hrf0 : 0 ≤ v_iv (n_v vs 8) ∧ v_iv (n_v vs 8) ≤ 47 := vc_Gr_removeEdge_at_gn_0_r0 (v_iv (n_v vs 1)) (v_iv (n_v vs 4)) (v_iv (n_v vs 5)) (v_iv (n_v vs 6)) (v_iv (n_v vs 7)) (v_iv (n_v vs 8)) (w_fi ws (n_v vs 0) 1) (w_ei ws (w_ar ws (n_v vs 0) 7)) (w_ei ws (w_ar ws (n_v vs 0) 8)) (w_fi ws (n_v vs 0) 0) k1 k4 k5 k6 k7 k8 d0 d1 d2 (shm_14 f2) (shm_14 f3) g4 (shm_387 f5) (shm_386 f6) (shm_857 f7) hK_0_7 hK_0_8 kz_0_0 kz_0_1
  have rf8 : tv_ok ta (0, 0, 47, []) (n_v vs 8) := tv_in t8 (by first | omega | grind) (by first | omega | grind)
  refine ⟨List.forall_mem_cons.mpr ⟨rf8, (fun _ h => (by cases h))⟩, [], trivial, ?_, (fun _ h => (by cases h))⟩
  rw [List.append_nil]
  exact (fun _ h => (by cases h))
set_option maxHeartbeats 4000000 in
theorem vc_Gr_removeEdge_at_gn_1_0 (x1 : Int) (x4 : Int) (x5 : Int) (x6 : Int) (x7 : Int) (x8 : Int) (x9 : Int) (x10 : Int) (edges_0 : Int) (tail_0 : Int → Int) (head_0 : Int → Int) (nodes_0 : Int) (gy : Int) (gu : Int) (gw : Int) (k1 : 0 ≤ x1 ∧ x1 ≤ 47) (k4 : 1 ≤ x4 ∧ x4 ≤ 48) (k5 : 0 ≤ x5 ∧ x5 ≤ 23) (k6 : (-46) ≤ x6 ∧ x6 ≤ 48) (k7 : 1 ≤ x7 ∧ x7 ≤ 1) (k8 : 0 ≤ x8 ∧ x8 ≤ 47) (k9 : 1 ≤ x9 ∧ x9 ≤ 1) (k10 : 1 ≤ x10 ∧ x10 ≤ 48) (d0 : x1 + 1 ≤ x10 ∧ x10 ≤ x1 + 1) (d1 : x6 + (-1) ≤ x8 ∧ x8 ≤ x6 + (-1)) (d2 : x4 + (-48) ≤ x8 ∧ x8 ≤ x4 + (-1)) (d3 : x4 + (-47) ≤ x6 ∧ x6 ≤ x4 + 0) (f2 : x10 = x1 + x9) (f3 : x8 = x6 - x7) (f4 : x6 = x4 - x1) (g5 : x4 = edges_0) (f6 : (0 ≤ x1) ∧ ((x1 + 1) ≤ edges_0)) (f7 : GKE (nodes_0) (edges_0) (tail_0) (head_0)) (f8 : NOQ (edges_0) (tail_0) (head_0) (x1) (x5)) (hK_0_7 : ∀ j : Int, 0 ≤ j → j < 48 → 0 ≤ tail_0 j ∧ tail_0 j ≤ 23) (hK_0_8 : ∀ j : Int, 0 ≤ j → j < 48 → 0 ≤ head_0 j ∧ head_0 j ≤ 23) (kz_0_0 : 0 ≤ nodes_0 ∧ nodes_0 ≤ 24) (kz_0_1 : 0 ≤ edges_0 ∧ edges_0 ≤ 48) (ey2 : gy = nodes_0) (ey3 : 0 ≤ gy ∧ gy ≤ 24) (eu2 : gu = edges_0) (eu3 : 0 ≤ gu ∧ gu ≤ 48) (ew2 : gw = x5) (ew3 : 0 ≤ gw ∧ gw ≤ 23) : x10 + x8 ≤ 48 := by
  first
    | omega
  
set_option maxHeartbeats 4000000 in
theorem vc_Gr_removeEdge_at_gn_1_1 (x1 : Int) (x4 : Int) (x5 : Int) (x6 : Int) (x7 : Int) (x8 : Int) (x9 : Int) (x10 : Int) (edges_0 : Int) (tail_0 : Int → Int) (head_0 : Int → Int) (nodes_0 : Int) (gy : Int) (gu : Int) (gw : Int) (k1 : 0 ≤ x1 ∧ x1 ≤ 47) (k4 : 1 ≤ x4 ∧ x4 ≤ 48) (k5 : 0 ≤ x5 ∧ x5 ≤ 23) (k6 : (-46) ≤ x6 ∧ x6 ≤ 48) (k7 : 1 ≤ x7 ∧ x7 ≤ 1) (k8 : 0 ≤ x8 ∧ x8 ≤ 47) (k9 : 1 ≤ x9 ∧ x9 ≤ 1) (k10 : 1 ≤ x10 ∧ x10 ≤ 48) (d0 : x1 + 1 ≤ x10 ∧ x10 ≤ x1 + 1) (d1 : x6 + (-1) ≤ x8 ∧ x8 ≤ x6 + (-1)) (d2 : x4 + (-48) ≤ x8 ∧ x8 ≤ x4 + (-1)) (d3 : x4 + (-47) ≤ x6 ∧ x6 ≤ x4 + 0) (f2 : x10 = x1 + x9) (f3 : x8 = x6 - x7) (f4 : x6 = x4 - x1) (g5 : x4 = edges_0) (f6 : (0 ≤ x1) ∧ ((x1 + 1) ≤ edges_0)) (f7 : GKE (nodes_0) (edges_0) (tail_0) (head_0)) (f8 : NOQ (edges_0) (tail_0) (head_0) (x1) (x5)) (hK_0_7 : ∀ j : Int, 0 ≤ j → j < 48 → 0 ≤ tail_0 j ∧ tail_0 j ≤ 23) (hK_0_8 : ∀ j : Int, 0 ≤ j → j < 48 → 0 ≤ head_0 j ∧ head_0 j ≤ 23) (kz_0_0 : 0 ≤ nodes_0 ∧ nodes_0 ≤ 24) (kz_0_1 : 0 ≤ edges_0 ∧ edges_0 ≤ 48) (ey2 : gy = nodes_0) (ey3 : 0 ≤ gy ∧ gy ≤ 24) (eu2 : gu = edges_0) (eu3 : 0 ≤ gu ∧ gu ≤ 48) (ew2 : gw = x5) (ew3 : 0 ≤ gw ∧ gw ≤ 23) : x1 + x8 ≤ 48 := by
  first
    | omega
  
set_option maxHeartbeats 4000000 in
theorem vc_Gr_removeEdge_at_gn_1_3 (x1 : Int) (x4 : Int) (x5 : Int) (x6 : Int) (x7 : Int) (x8 : Int) (x9 : Int) (x10 : Int) (edges_0 : Int) (tail_0 : Int → Int) (head_0 : Int → Int) (nodes_0 : Int) (gy : Int) (gu : Int) (gw : Int) (k1 : 0 ≤ x1 ∧ x1 ≤ 47) (k4 : 1 ≤ x4 ∧ x4 ≤ 48) (k5 : 0 ≤ x5 ∧ x5 ≤ 23) (k6 : (-46) ≤ x6 ∧ x6 ≤ 48) (k7 : 1 ≤ x7 ∧ x7 ≤ 1) (k8 : 0 ≤ x8 ∧ x8 ≤ 47) (k9 : 1 ≤ x9 ∧ x9 ≤ 1) (k10 : 1 ≤ x10 ∧ x10 ≤ 48) (d0 : x1 + 1 ≤ x10 ∧ x10 ≤ x1 + 1) (d1 : x6 + (-1) ≤ x8 ∧ x8 ≤ x6 + (-1)) (d2 : x4 + (-48) ≤ x8 ∧ x8 ≤ x4 + (-1)) (d3 : x4 + (-47) ≤ x6 ∧ x6 ≤ x4 + 0) (f2 : x10 = x1 + x9) (f3 : x8 = x6 - x7) (f4 : x6 = x4 - x1) (g5 : x4 = edges_0) (f6 : (0 ≤ x1) ∧ ((x1 + 1) ≤ edges_0)) (f7 : GKE (nodes_0) (edges_0) (tail_0) (head_0)) (f8 : NOQ (edges_0) (tail_0) (head_0) (x1) (x5)) (hK_0_7 : ∀ j : Int, 0 ≤ j → j < 48 → 0 ≤ tail_0 j ∧ tail_0 j ≤ 23) (hK_0_8 : ∀ j : Int, 0 ≤ j → j < 48 → 0 ≤ head_0 j ∧ head_0 j ≤ 23) (kz_0_0 : 0 ≤ nodes_0 ∧ nodes_0 ≤ 24) (kz_0_1 : 0 ≤ edges_0 ∧ edges_0 ≤ 48) (ey2 : gy = nodes_0) (ey3 : 0 ≤ gy ∧ gy ≤ 24) (eu2 : gu = edges_0) (eu3 : 0 ≤ gu ∧ gu ≤ 48) (ew2 : gw = x5) (ew3 : 0 ≤ gw ∧ gw ≤ 23) : gy = nodes_0 := by
  first
    | omega
  
set_option maxHeartbeats 4000000 in
theorem vc_Gr_removeEdge_at_gn_1_4 (x1 : Int) (x4 : Int) (x5 : Int) (x6 : Int) (x7 : Int) (x8 : Int) (x9 : Int) (x10 : Int) (edges_0 : Int) (tail_0 : Int → Int) (head_0 : Int → Int) (nodes_0 : Int) (gy : Int) (gu : Int) (gw : Int) (k1 : 0 ≤ x1 ∧ x1 ≤ 47) (k4 : 1 ≤ x4 ∧ x4 ≤ 48) (k5 : 0 ≤ x5 ∧ x5 ≤ 23) (k6 : (-46) ≤ x6 ∧ x6 ≤ 48) (k7 : 1 ≤ x7 ∧ x7 ≤ 1) (k8 : 0 ≤ x8 ∧ x8 ≤ 47) (k9 : 1 ≤ x9 ∧ x9 ≤ 1) (k10 : 1 ≤ x10 ∧ x10 ≤ 48) (d0 : x1 + 1 ≤ x10 ∧ x10 ≤ x1 + 1) (d1 : x6 + (-1) ≤ x8 ∧ x8 ≤ x6 + (-1)) (d2 : x4 + (-48) ≤ x8 ∧ x8 ≤ x4 + (-1)) (d3 : x4 + (-47) ≤ x6 ∧ x6 ≤ x4 + 0) (f2 : x10 = x1 + x9) (f3 : x8 = x6 - x7) (f4 : x6 = x4 - x1) (g5 : x4 = edges_0) (f6 : (0 ≤ x1) ∧ ((x1 + 1) ≤ edges_0)) (f7 : GKE (nodes_0) (edges_0) (tail_0) (head_0)) (f8 : NOQ (edges_0) (tail_0) (head_0) (x1) (x5)) (hK_0_7 : ∀ j : Int, 0 ≤ j → j < 48 → 0 ≤ tail_0 j ∧ tail_0 j ≤ 23) (hK_0_8 : ∀ j : Int, 0 ≤ j → j < 48 → 0 ≤ head_0 j ∧ head_0 j ≤ 23) (kz_0_0 : 0 ≤ nodes_0 ∧ nodes_0 ≤ 24) (kz_0_1 : 0 ≤ edges_0 ∧ edges_0 ≤ 48) (ey2 : gy = nodes_0) (ey3 : 0 ≤ gy ∧ gy ≤ 24) (eu2 : gu = edges_0) (eu3 : 0 ≤ gu ∧ gu ≤ 48) (ew2 : gw = x5) (ew3 : 0 ≤ gw ∧ gw ≤ 23) : gu = edges_0 := by
  first
    | omega
  
set_option maxHeartbeats 4000000 in
theorem vc_Gr_removeEdge_at_gn_1_5 (x1 : Int) (x4 : Int) (x5 : Int) (x6 : Int) (x7 : Int) (x8 : Int) (x9 : Int) (x10 : Int) (edges_0 : Int) (tail_0 : Int → Int) (head_0 : Int → Int) (nodes_0 : Int) (gy : Int) (gu : Int) (gw : Int) (k1 : 0 ≤ x1 ∧ x1 ≤ 47) (k4 : 1 ≤ x4 ∧ x4 ≤ 48) (k5 : 0 ≤ x5 ∧ x5 ≤ 23) (k6 : (-46) ≤ x6 ∧ x6 ≤ 48) (k7 : 1 ≤ x7 ∧ x7 ≤ 1) (k8 : 0 ≤ x8 ∧ x8 ≤ 47) (k9 : 1 ≤ x9 ∧ x9 ≤ 1) (k10 : 1 ≤ x10 ∧ x10 ≤ 48) (d0 : x1 + 1 ≤ x10 ∧ x10 ≤ x1 + 1) (d1 : x6 + (-1) ≤ x8 ∧ x8 ≤ x6 + (-1)) (d2 : x4 + (-48) ≤ x8 ∧ x8 ≤ x4 + (-1)) (d3 : x4 + (-47) ≤ x6 ∧ x6 ≤ x4 + 0) (f2 : x10 = x1 + x9) (f3 : x8 = x6 - x7) (f4 : x6 = x4 - x1) (g5 : x4 = edges_0) (f6 : (0 ≤ x1) ∧ ((x1 + 1) ≤ edges_0)) (f7 : GKE (nodes_0) (edges_0) (tail_0) (head_0)) (f8 : NOQ (edges_0) (tail_0) (head_0) (x1) (x5)) (hK_0_7 : ∀ j : Int, 0 ≤ j → j < 48 → 0 ≤ tail_0 j ∧ tail_0 j ≤ 23) (hK_0_8 : ∀ j : Int, 0 ≤ j → j < 48 → 0 ≤ head_0 j ∧ head_0 j ≤ 23) (kz_0_0 : 0 ≤ nodes_0 ∧ nodes_0 ≤ 24) (kz_0_1 : 0 ≤ edges_0 ∧ edges_0 ≤ 48) (ey2 : gy = nodes_0) (ey3 : 0 ≤ gy ∧ gy ≤ 24) (eu2 : gu = edges_0) (eu3 : 0 ≤ gu ∧ gu ≤ 48) (ew2 : gw = x5) (ew3 : 0 ≤ gw ∧ gw ≤ 23) : 1 * gw + ((-1) * x5 + 0) ≤ 0 := by
  first
    | omega
  
set_option maxHeartbeats 4000000 in
theorem vc_Gr_removeEdge_at_gn_1_6 (x1 : Int) (x4 : Int) (x5 : Int) (x6 : Int) (x7 : Int) (x8 : Int) (x9 : Int) (x10 : Int) (edges_0 : Int) (tail_0 : Int → Int) (head_0 : Int → Int) (nodes_0 : Int) (gy : Int) (gu : Int) (gw : Int) (k1 : 0 ≤ x1 ∧ x1 ≤ 47) (k4 : 1 ≤ x4 ∧ x4 ≤ 48) (k5 : 0 ≤ x5 ∧ x5 ≤ 23) (k6 : (-46) ≤ x6 ∧ x6 ≤ 48) (k7 : 1 ≤ x7 ∧ x7 ≤ 1) (k8 : 0 ≤ x8 ∧ x8 ≤ 47) (k9 : 1 ≤ x9 ∧ x9 ≤ 1) (k10 : 1 ≤ x10 ∧ x10 ≤ 48) (d0 : x1 + 1 ≤ x10 ∧ x10 ≤ x1 + 1) (d1 : x6 + (-1) ≤ x8 ∧ x8 ≤ x6 + (-1)) (d2 : x4 + (-48) ≤ x8 ∧ x8 ≤ x4 + (-1)) (d3 : x4 + (-47) ≤ x6 ∧ x6 ≤ x4 + 0) (f2 : x10 = x1 + x9) (f3 : x8 = x6 - x7) (f4 : x6 = x4 - x1) (g5 : x4 = edges_0) (f6 : (0 ≤ x1) ∧ ((x1 + 1) ≤ edges_0)) (f7 : GKE (nodes_0) (edges_0) (tail_0) (head_0)) (f8 : NOQ (edges_0) (tail_0) (head_0) (x1) (x5)) (hK_0_7 : ∀ j : Int, 0 ≤ j → j < 48 → 0 ≤ tail_0 j ∧ tail_0 j ≤ 23) (hK_0_8 : ∀ j : Int, 0 ≤ j → j < 48 → 0 ≤ head_0 j ∧ head_0 j ≤ 23) (kz_0_0 : 0 ≤ nodes_0 ∧ nodes_0 ≤ 24) (kz_0_1 : 0 ≤ edges_0 ∧ edges_0 ≤ 48) (ey2 : gy = nodes_0) (ey3 : 0 ≤ gy ∧ gy ≤ 24) (eu2 : gu = edges_0) (eu3 : 0 ≤ gu ∧ gu ≤ 48) (ew2 : gw = x5) (ew3 : 0 ≤ gw ∧ gw ≤ 23) : (-1) * gw + (1 * x5 + 0) ≤ 0 := by
  first
    | omega
  
set_option maxHeartbeats 4000000 in
theorem vc_Gr_removeEdge_at_gn_1_7 (x1 : Int) (x4 : Int) (x5 : Int) (x6 : Int) (x7 : Int) (x8 : Int) (x9 : Int) (x10 : Int) (edges_0 : Int) (tail_0 : Int → Int) (head_0 : Int → Int) (nodes_0 : Int) (gy : Int) (gu : Int) (gw : Int) (k1 : 0 ≤ x1 ∧ x1 ≤ 47) (k4 : 1 ≤ x4 ∧ x4 ≤ 48) (k5 : 0 ≤ x5 ∧ x5 ≤ 23) (k6 : (-46) ≤ x6 ∧ x6 ≤ 48) (k7 : 1 ≤ x7 ∧ x7 ≤ 1) (k8 : 0 ≤ x8 ∧ x8 ≤ 47) (k9 : 1 ≤ x9 ∧ x9 ≤ 1) (k10 : 1 ≤ x10 ∧ x10 ≤ 48) (d0 : x1 + 1 ≤ x10 ∧ x10 ≤ x1 + 1) (d1 : x6 + (-1) ≤ x8 ∧ x8 ≤ x6 + (-1)) (d2 : x4 + (-48) ≤ x8 ∧ x8 ≤ x4 + (-1)) (d3 : x4 + (-47) ≤ x6 ∧ x6 ≤ x4 + 0) (f2 : x10 = x1 + x9) (f3 : x8 = x6 - x7) (f4 : x6 = x4 - x1) (g5 : x4 = edges_0) (f6 : (0 ≤ x1) ∧ ((x1 + 1) ≤ edges_0)) (f7 : GKE (nodes_0) (edges_0) (tail_0) (head_0)) (f8 : NOQ (edges_0) (tail_0) (head_0) (x1) (x5)) (hK_0_7 : ∀ j : Int, 0 ≤ j → j < 48 → 0 ≤ tail_0 j ∧ tail_0 j ≤ 23) (hK_0_8 : ∀ j : Int, 0 ≤ j → j < 48 → 0 ≤ head_0 j ∧ head_0 j ≤ 23) (kz_0_0 : 0 ≤ nodes_0 ∧ nodes_0 ≤ 24) (kz_0_1 : 0 ≤ edges_0 ∧ edges_0 ≤ 48) (ey2 : gy = nodes_0) (ey3 : 0 ≤ gy ∧ gy ≤ 24) (eu2 : gu = edges_0) (eu3 : 0 ≤ gu ∧ gu ≤ 48) (ew2 : gw = x5) (ew3 : 0 ≤ gw ∧ gw ≤ 23) : RT1n (tail_0) (tail_0) (head_0) (x10) (x1) (x8) (gy) (gu) (gw) := by
  first
    | exact rt1n_of ‹GKE _ _ _ _› ‹NOQ _ _ _ _ _› (by omega) (by omega) (by omega) (by omega) (by omega) (by omega) (by omega)
  
def o_Gr_removeEdge_at_gn_1 : or_T := (22, 11, [(0, (2, 0, 0, [3])), (1, (0, 0, 47, [])), (3, (2, 0, 0, [53])), (4, (0, 1, 48, [])), (5, (0, 0, 23, [])), (6, (0, -46, 48, [])), (7, (0, 1, 1, [])), (8, (0, 0, 47, [])), (9, (0, 1, 1, [])), (10, (0, 1, 48, []))], [(9, [3, 0], [8]), (9, [2, 0], [7]), (1, [10, 1, 9], []), (2, [8, 6, 7], []), (2, [6, 4, 1], []), (9, [4, 0], [1]), (20, [1, 0], [50, 1, 0, 1001, 2, 6, 0, 2, 0, 0, 1, 0, 0, 6, 4, 2, 1, 0, 0, 1, 2, 1, 1]), (20, [0], [60, 2, 2, 596, 0, 1, 7, 8]), (20, [0, 1, 5], [60, 1, 2, 757, 1, 7, 8])], [], [(2, 0, 0, [53]), (0, 0, 24, []), (0, 0, 48, []), (0, 0, 23, [])], [(21, [10, 8], [48]), (21, [1, 8], [48]), (24, [3, 11], []), (20, [12, 0], [50, 1, 0, 1000, 1, 2, 1, 0, 2, 1, 0]), (20, [13, 0], [50, 1, 0, 1001, 1, 2, 1, 0, 2, 1, 1]), (23, [14, 5], [0, 1, -1]), (23, [14, 5], [0, -1, 1]), (20, [2, 2, 11, 10, 1, 8, 12, 13, 14], [61, 3, 750])], [], [(10, 1, 1, 1), (8, 6, -1, -1), (8, 4, -48, -1), (6, 4, -47, 0)])
theorem oo_Gr_removeEdge_at_gn_1 {kA : Nat → ClassId} : or_ok PRD kA GG o_Gr_removeEdge_at_gn_1 := by
  refine or_mk fun A ta ws vs hD hth hl => ?_
  intro t0 r0 t1 k1 t3 r3 t4 k4 t5 k5 t6 k6 t7 k7 t8 k8 t9 k9 t10 k10 d0 d1 d2 d3 f0 f1 f2 f3 f4 f5 f6 f7 f8
  replace f0 := shm_293 f0
  replace f1 := shm_198 f1
  replace f2 := shm_12 f2
  replace f3 := shm_14 f3
  replace f4 := shm_14 f4
  replace f5 := shm_215 f5
  replace f6 := shm_387 f6
  replace f7 := shm_386 f7
  replace f8 := shm_857 f8
  have cr_0_7 := fdq_46 hD hth r0
  have cr_0_8 := fdq_47 hD hth r0
  have ad_3 : v_ad (n_v vs 3) = w_ar ws (n_v vs 0) 8 := congrArg v_ad f0
  have ad_2 : v_ad (n_v vs 2) = w_ar ws (n_v vs 0) 7 := congrArg v_ad f1
  have g5 : v_iv (n_v vs 4) = w_fi ws (n_v vs 0) 1 := congrArg v_iv f5
  have hK_0_7 := elq_11 hD hth cr_0_7
  have hK_0_8 := elq_12 hD hth cr_0_8
  have kz_0_0 := fdq_21 hD hth r0
  have kz_0_1 := fdq_30 hD hth r0
  obtain ⟨y, ey, hy⟩ := iv_ex (ta := ta) (lo := 0) (hi := 24) (z := w_fi ws (n_v vs 0) 0) (by omega) (by omega) (by omega) (by omega)
  have ey2 : v_iv (Value.int y) = w_fi ws (n_v vs 0) 0 := ey
  have ey3 : 0 ≤ v_iv (Value.int y) ∧ v_iv (Value.int y) ≤ 24 := tv_rng hy
  obtain ⟨u, eu, hu⟩ := iv_ex (ta := ta) (lo := 0) (hi := 48) (z := w_fi ws (n_v vs 0) 1) (by omega) (by omega) (by omega) (by omega)
  have eu2 : v_iv (Value.int u) = w_fi ws (n_v vs 0) 1 := eu
  have eu3 : 0 ≤ v_iv (Value.int u) ∧ v_iv (Value.int u) ≤ 48 := tv_rng hu
  obtain ⟨w, ew, hw⟩ := iv_ex (ta := ta) (lo := 0) (hi := 23) (z := v_iv (n_v vs 5)) (by omega) (by omega) (by omega) (by omega)
  have ew2 : v_iv (Value.int w) = v_iv (n_v vs 5) := ew
  have ew3 : 0 ≤ v_iv (Value.int w) ∧ v_iv (Value.int w) ≤ 23 := tv_rng hw
  have e_0 : n_v (vs ++ [n_v vs 3, Value.int y, Value.int u, Value.int w]) 0 = n_v vs 0 := n_v_old (by rw [hl]; decide)
  have e_1 : n_v (vs ++ [n_v vs 3, Value.int y, Value.int u, Value.int w]) 1 = n_v vs 1 := n_v_old (by rw [hl]; decide)
  have e_2 : n_v (vs ++ [n_v vs 3, Value.int y, Value.int u, Value.int w]) 2 = n_v vs 2 := n_v_old (by rw [hl]; decide)
  have e_3 : n_v (vs ++ [n_v vs 3, Value.int y, Value.int u, Value.int w]) 3 = n_v vs 3 := n_v_old (by rw [hl]; decide)
  have e_5 : n_v (vs ++ [n_v vs 3, Value.int y, Value.int u, Value.int w]) 5 = n_v vs 5 := n_v_old (by rw [hl]; decide)
  have e_8 : n_v (vs ++ [n_v vs 3, Value.int y, Value.int u, Value.int w]) 8 = n_v vs 8 := n_v_old (by rw [hl]; decide)
  have e_10 : n_v (vs ++ [n_v vs 3, Value.int y, Value.int u, Value.int w]) 10 = n_v vs 10 := n_v_old (by rw [hl]; decide)
  have e_11 : n_v (vs ++ [n_v vs 3, Value.int y, Value.int u, Value.int w]) 11 = n_v vs 3 := n_v_newk (k := 0) hl rfl
  have e_12 : n_v (vs ++ [n_v vs 3, Value.int y, Value.int u, Value.int w]) 12 = Value.int y := n_v_newk (k := 1) hl rfl
  have e_13 : n_v (vs ++ [n_v vs 3, Value.int y, Value.int u, Value.int w]) 13 = Value.int u := n_v_newk (k := 2) hl rfl
  have e_14 : n_v (vs ++ [n_v vs 3, Value.int y, Value.int u, Value.int w]) 14 = Value.int w := n_v_newk (k := 3) hl rfl
  have nf0 : fc_1 PRD (21, [10, 8], [48]) ws (vs ++ [n_v vs 3, Value.int y, Value.int u, Value.int w]) := by
    refine ⟨nf_inA hl rfl, sgq_858 ?_⟩
    · show v_iv (n_v (vs ++ [n_v vs 3, Value.int y, Value.int u, Value.int w]) 10) + v_iv (n_v (vs ++ [n_v vs 3, Value.int y, Value.int u, Value.int w]) 8) ≤ 48
      simp only [e_8, e_10]
      exact vc_Gr_removeEdge_at_gn_1_0 (v_iv (n_v vs 1)) (v_iv (n_v vs 4)) (v_iv (n_v vs 5)) (v_iv (n_v vs 6)) (v_iv (n_v vs 7)) (v_iv (n_v vs 8)) (v_iv (n_v vs 9)) (v_iv (n_v vs 10)) (w_fi ws (n_v vs 0) 1) (w_ei ws (w_ar ws (n_v vs 0) 7)) (w_ei ws (w_ar ws (n_v vs 0) 8)) (w_fi ws (n_v vs 0) 0) (v_iv (Value.int y)) (v_iv (Value.int u)) (v_iv (Value.int w)) k1 k4 k5 k6 k7 k8 k9 k10 d0 d1 d2 d3 f2 f3 f4 g5 f6 f7 f8 hK_0_7 hK_0_8 kz_0_0 kz_0_1 ey2 ey3 eu2 eu3 ew2 ew3
  have nf1 : fc_1 PRD (21, [1, 8], [48]) ws (vs ++ [n_v vs 3, Value.int y, Value.int u, Value.int w]) := by
    refine ⟨nf_inA hl rfl, sgq_858 ?_⟩
    · show v_iv (n_v (vs ++ [n_v vs 3, Value.int y, Value.int u, Value.int w]) 1) + v_iv (n_v (vs ++ [n_v vs 3, Value.int y, Value.int u, Value.int w]) 8) ≤ 48
      simp only [e_1, e_8]
      exact vc_Gr_removeEdge_at_gn_1_1 (v_iv (n_v vs 1)) (v_iv (n_v vs 4)) (v_iv (n_v vs 5)) (v_iv (n_v vs 6)) (v_iv (n_v vs 7)) (v_iv (n_v vs 8)) (v_iv (n_v vs 9)) (v_iv (n_v vs 10)) (w_fi ws (n_v vs 0) 1) (w_ei ws (w_ar ws (n_v vs 0) 7)) (w_ei ws (w_ar ws (n_v vs 0) 8)) (w_fi ws (n_v vs 0) 0) (v_iv (Value.int y)) (v_iv (Value.int u)) (v_iv (Value.int w)) k1 k4 k5 k6 k7 k8 k9 k10 d0 d1 d2 d3 f2 f3 f4 g5 f6 f7 f8 hK_0_7 hK_0_8 kz_0_0 kz_0_1 ey2 ey3 eu2 eu3 ew2 ew3
  have nf2 : fc_1 PRD (24, [3, 11], []) ws (vs ++ [n_v vs 3, Value.int y, Value.int u, Value.int w]) := by
    refine ⟨nf_inA hl rfl, sgq_5 ?_⟩
    · show n_v (vs ++ [n_v vs 3, Value.int y, Value.int u, Value.int w]) 3 = n_v (vs ++ [n_v vs 3, Value.int y, Value.int u, Value.int w]) 11
      first | rfl | simp only [e_3, e_11]
  have nf3 : fc_1 PRD (20, [12, 0], [50, 1, 0, 1000, 1, 2, 1, 0, 2, 1, 0]) ws (vs ++ [n_v vs 3, Value.int y, Value.int u, Value.int w]) := by
    refine ⟨nf_inA hl rfl, sgq_836 ?_⟩
    · show v_iv (n_v (vs ++ [n_v vs 3, Value.int y, Value.int u, Value.int w]) 12) = w_fi ws (n_v (vs ++ [n_v vs 3, Value.int y, Value.int u, Value.int w]) 0) 0
      simp only [e_0, e_12]
      exact vc_Gr_removeEdge_at_gn_1_3 (v_iv (n_v vs 1)) (v_iv (n_v vs 4)) (v_iv (n_v vs 5)) (v_iv (n_v vs 6)) (v_iv (n_v vs 7)) (v_iv (n_v vs 8)) (v_iv (n_v vs 9)) (v_iv (n_v vs 10)) (w_fi ws (n_v vs 0) 1) (w_ei ws (w_ar ws (n_v vs 0) 7)) (w_ei ws (w_ar ws (n_v vs 0) 8)) (w_fi ws (n_v vs 0) 0) (v_iv (Value.int y)) (v_iv (Value.int u)) (v_iv (Value.int w)) k1 k4 k5 k6 k7 k8 k9 k10 d0 d1 d2 d3 f2 f3 f4 g5 f6 f7 f8 hK_0_7 hK_0_8 kz_0_0 kz_0_1 ey2 ey3 eu2 eu3 ew2 ew3
  have nf4 : fc_1 PRD (20, [13, 0], [50, 1, 0, 1001, 1, 2, 1, 0, 2, 1, 1]) ws (vs ++ [n_v vs 3, Value.int y, Value.int u, Value.int w]) := by
    refine ⟨nf_inA hl rfl, sgq_859 ?_⟩
    · show v_iv (n_v (vs ++ [n_v vs 3, Value.int y, Value.int u, Value.int w]) 13) = w_fi ws (n_v (vs ++ [n_v vs 3, Value.int y, Value.int u, Value.int w]) 0) 1
      simp only [e_0, e_13]
      exact vc_Gr_removeEdge_at_gn_1_4 (v_iv (n_v vs 1)) (v_iv (n_v vs 4)) (v_iv (n_v vs 5)) (v_iv (n_v vs 6)) (v_iv (n_v vs 7)) (v_iv (n_v vs 8)) (v_iv (n_v vs 9)) (v_iv (n_v vs 10)) (w_fi ws (n_v vs 0) 1) (w_ei ws (w_ar ws (n_v vs 0) 7)) (w_ei ws (w_ar ws (n_v vs 0) 8)) (w_fi ws (n_v vs 0) 0) (v_iv (Value.int y)) (v_iv (Value.int u)) (v_iv (Value.int w)) k1 k4 k5 k6 k7 k8 k9 k10 d0 d1 d2 d3 f2 f3 f4 g5 f6 f7 f8 hK_0_7 hK_0_8 kz_0_0 kz_0_1 ey2 ey3 eu2 eu3 ew2 ew3
  have nf5 : fc_1 PRD (23, [14, 5], [0, 1, -1]) ws (vs ++ [n_v vs 3, Value.int y, Value.int u, Value.int w]) := by
    refine ⟨nf_inA hl rfl, sgq_7 ?_⟩
    · show 1 * v_iv (n_v (vs ++ [n_v vs 3, Value.int y, Value.int u, Value.int w]) 14) + ((-1) * v_iv (n_v (vs ++ [n_v vs 3, Value.int y, Value.int u, Value.int w]) 5) + 0) ≤ 0
      simp only [e_5, e_14]
      exact vc_Gr_removeEdge_at_gn_1_5 (v_iv (n_v vs 1)) (v_iv (n_v vs 4)) (v_iv (n_v vs 5)) (v_iv (n_v vs 6)) (v_iv (n_v vs 7)) (v_iv (n_v vs 8)) (v_iv (n_v vs 9)) (v_iv (n_v vs 10)) (w_fi ws (n_v vs 0) 1) (w_ei ws (w_ar ws (n_v vs 0) 7)) (w_ei ws (w_ar ws (n_v vs 0) 8)) (w_fi ws (n_v vs 0) 0) (v_iv (Value.int y)) (v_iv (Value.int u)) (v_iv (Value.int w)) k1 k4 k5 k6 k7 k8 k9 k10 d0 d1 d2 d3 f2 f3 f4 g5 f6 f7 f8 hK_0_7 hK_0_8 kz_0_0 kz_0_1 ey2 ey3 eu2 eu3 ew2 ew3
  have nf6 : fc_1 PRD (23, [14, 5], [0, -1, 1]) ws (vs ++ [n_v vs 3, Value.int y, Value.int u, Value.int w]) := by
    refine ⟨nf_inA hl rfl, sgq_22 ?_⟩
    · show (-1) * v_iv (n_v (vs ++ [n_v vs 3, Value.int y, Value.int u, Value.int w]) 14) + (1 * v_iv (n_v (vs ++ [n_v vs 3, Value.int y, Value.int u, Value.int w]) 5) + 0) ≤ 0
      simp only [e_5, e_14]
      exact vc_Gr_removeEdge_at_gn_1_6 (v_iv (n_v vs 1)) (v_iv (n_v vs 4)) (v_iv (n_v vs 5)) (v_iv (n_v vs 6)) (v_iv (n_v vs 7)) (v_iv (n_v vs 8)) (v_iv (n_v vs 9)) (v_iv (n_v vs 10)) (w_fi ws (n_v vs 0) 1) (w_ei ws (w_ar ws (n_v vs 0) 7)) (w_ei ws (w_ar ws (n_v vs 0) 8)) (w_fi ws (n_v vs 0) 0) (v_iv (Value.int y)) (v_iv (Value.int u)) (v_iv (Value.int w)) k1 k4 k5 k6 k7 k8 k9 k10 d0 d1 d2 d3 f2 f3 f4 g5 f6 f7 f8 hK_0_7 hK_0_8 kz_0_0 kz_0_1 ey2 ey3 eu2 eu3 ew2 ew3
  have nf7 : fc_1 PRD (20, [2, 2, 11, 10, 1, 8, 12, 13, 14], [61, 3, 750]) ws (vs ++ [n_v vs 3, Value.int y, Value.int u, Value.int w]) := by
    refine ⟨nf_inA hl rfl, sgq_860 ?_⟩
    · show RT1n (w_ei ws (v_ad (n_v (vs ++ [n_v vs 3, Value.int y, Value.int u, Value.int w]) 2))) (w_ei ws (v_ad (n_v (vs ++ [n_v vs 3, Value.int y, Value.int u, Value.int w]) 2))) (w_ei ws (v_ad (n_v (vs ++ [n_v vs 3, Value.int y, Value.int u, Value.int w]) 11))) (v_iv (n_v (vs ++ [n_v vs 3, Value.int y, Value.int u, Value.int w]) 10)) (v_iv (n_v (vs ++ [n_v vs 3, Value.int y, Value.int u, Value.int w]) 1)) (v_iv (n_v (vs ++ [n_v vs 3, Value.int y, Value.int u, Value.int w]) 8)) (v_iv (n_v (vs ++ [n_v vs 3, Value.int y, Value.int u, Value.int w]) 12)) (v_iv (n_v (vs ++ [n_v vs 3, Value.int y, Value.int u, Value.int w]) 13)) (v_iv (n_v (vs ++ [n_v vs 3, Value.int y, Value.int u, Value.int w]) 14))
      simp only [e_1, e_2, e_8, e_10, e_11, e_12, e_13, e_14, ad_2, ad_3]
      exact vc_Gr_removeEdge_at_gn_1_7 (v_iv (n_v vs 1)) (v_iv (n_v vs 4)) (v_iv (n_v vs 5)) (v_iv (n_v vs 6)) (v_iv (n_v vs 7)) (v_iv (n_v vs 8)) (v_iv (n_v vs 9)) (v_iv (n_v vs 10)) (w_fi ws (n_v vs 0) 1) (w_ei ws (w_ar ws (n_v vs 0) 7)) (w_ei ws (w_ar ws (n_v vs 0) 8)) (w_fi ws (n_v vs 0) 0) (v_iv (Value.int y)) (v_iv (Value.int u)) (v_iv (Value.int w)) k1 k4 k5 k6 k7 k8 k9 k10 d0 d1 d2 d3 f2 f3 f4 g5 f6 f7 f8 hK_0_7 hK_0_8 kz_0_0 kz_0_1 ey2 ey3 eu2 eu3 ew2 ew3
  exact ⟨(fun _ h => (by cases h)), [n_v vs 3, Value.int y, Value.int u, Value.int w], ag_four t3 hy hu hw, List.forall_mem_cons.mpr ⟨⟨show (21 : Nat) < 100 from by decide, nf0⟩, List.forall_mem_cons.mpr ⟨⟨show (21 : Nat) < 100 from by decide, nf1⟩, List.forall_mem_cons.mpr ⟨⟨show (24 : Nat) < 100 from by decide, nf2⟩, List.forall_mem_cons.mpr ⟨⟨show (20 : Nat) < 100 from by decide, nf3⟩, List.forall_mem_cons.mpr ⟨⟨show (20 : Nat) < 100 from by decide, nf4⟩, List.forall_mem_cons.mpr ⟨⟨show (23 : Nat) < 100 from by decide, nf5⟩, List.forall_mem_cons.mpr ⟨⟨show (23 : Nat) < 100 from by decide, nf6⟩, List.forall_mem_cons.mpr ⟨⟨show (20 : Nat) < 100 from by decide, nf7⟩, (fun _ h => (by cases h))⟩⟩⟩⟩⟩⟩⟩⟩, (fun _ h => (by cases h))⟩
set_option maxHeartbeats 4000000 in
theorem vc_Gr_removeEdge_at_gn_2_0 (x1 : Int) (x4 : Int) (x5 : Int) (x6 : Int) (x7 : Int) (x8 : Int) (x9 : Int) (x10 : Int) (x12 : Int) (x13 : Int) (x14 : Int) (x15 : Int) (x16 : Int) (edges_0 : Int) (nodes_0 : Int) (a2_0 : Int → Int) (a3_0 : Int → Int) (gy : Int) (gu : Int) (gw : Int) (k1 : 0 ≤ x1 ∧ x1 ≤ 47) (k4 : 1 ≤ x4 ∧ x4 ≤ 48) (k5 : 0 ≤ x5 ∧ x5 ≤ 23) (k6 : (-46) ≤ x6 ∧ x6 ≤ 48) (k7 : 1 ≤ x7 ∧ x7 ≤ 1) (k8 : 0 ≤ x8 ∧ x8 ≤ 47) (k9 : 1 ≤ x9 ∧ x9 ≤ 1) (k10 : 1 ≤ x10 ∧ x10 ≤ 48) (k12 : 0 ≤ x12 ∧ x12 ≤ 24) (k13 : 0 ≤ x13 ∧ x13 ≤ 48) (k14 : 0 ≤ x14 ∧ x14 ≤ 23) (k15 : 1 ≤ x15 ∧ x15 ≤ 1) (k16 : 1 ≤ x16 ∧ x16 ≤ 48) (d0 : x1 + 1 ≤ x16 ∧ x16 ≤ x1 + 1) (d1 : x1 + 1 ≤ x10 ∧ x10 ≤ x1 + 1) (d2 : x6 + (-1) ≤ x8 ∧ x8 ≤ x6 + (-1)) (d3 : x4 + (-48) ≤ x8 ∧ x8 ≤ x4 + (-1)) (d4 : x4 + (-47) ≤ x6 ∧ x6 ≤ x4 + 0) (g0 : x4 = edges_0) (f1 : x16 = x1 + x15) (f2 : x10 + x8 ≤ 48) (f3 : x1 + x8 ≤ 48) (f5 : x12 = nodes_0) (f6 : x13 = edges_0) (f7 : 1 * x14 + ((-1) * x5 + 0) ≤ 0) (f8 : (-1) * x14 + (1 * x5 + 0) ≤ 0) (f9 : (0 ≤ x1) ∧ ((x1 + 1) ≤ edges_0)) (f10 : RT2n (a2_0) (a2_0) (a3_0) (x10) (x1) (x8) (x12) (x13) (x14)) (f12 : x10 + x8 ≤ 48) (f13 : x1 + x8 ≤ 48) (f14 : 1 * x14 + ((-1) * x5 + 0) ≤ 0) (f15 : (-1) * x14 + (1 * x5 + 0) ≤ 0) (f16 : x10 = x1 + x9) (f17 : x8 = x6 - x7) (f18 : x6 = x4 - x1) (hK_2_999 : ∀ j : Int, 0 ≤ j → j < 48 → 0 ≤ a2_0 j ∧ a2_0 j ≤ 23) (hK_3_999 : ∀ j : Int, 0 ≤ j → j < 48 → 0 ≤ a3_0 j ∧ a3_0 j ≤ 23) (kz_0_0 : 0 ≤ nodes_0 ∧ nodes_0 ≤ 24) (kz_0_1 : 0 ≤ edges_0 ∧ edges_0 ≤ 48) (ey2 : gy = nodes_0) (ey3 : 0 ≤ gy ∧ gy ≤ 24) (eu2 : gu = edges_0) (eu3 : 0 ≤ gu ∧ gu ≤ 48) (ew2 : gw = x5) (ew3 : 0 ≤ gw ∧ gw ≤ 23) : x16 + x8 ≤ 48 := by
  first
    | omega
  
set_option maxHeartbeats 4000000 in
theorem vc_Gr_removeEdge_at_gn_2_2 (x1 : Int) (x4 : Int) (x5 : Int) (x6 : Int) (x7 : Int) (x8 : Int) (x9 : Int) (x10 : Int) (x12 : Int) (x13 : Int) (x14 : Int) (x15 : Int) (x16 : Int) (edges_0 : Int) (nodes_0 : Int) (a2_0 : Int → Int) (a3_0 : Int → Int) (gy : Int) (gu : Int) (gw : Int) (k1 : 0 ≤ x1 ∧ x1 ≤ 47) (k4 : 1 ≤ x4 ∧ x4 ≤ 48) (k5 : 0 ≤ x5 ∧ x5 ≤ 23) (k6 : (-46) ≤ x6 ∧ x6 ≤ 48) (k7 : 1 ≤ x7 ∧ x7 ≤ 1) (k8 : 0 ≤ x8 ∧ x8 ≤ 47) (k9 : 1 ≤ x9 ∧ x9 ≤ 1) (k10 : 1 ≤ x10 ∧ x10 ≤ 48) (k12 : 0 ≤ x12 ∧ x12 ≤ 24) (k13 : 0 ≤ x13 ∧ x13 ≤ 48) (k14 : 0 ≤ x14 ∧ x14 ≤ 23) (k15 : 1 ≤ x15 ∧ x15 ≤ 1) (k16 : 1 ≤ x16 ∧ x16 ≤ 48) (d0 : x1 + 1 ≤ x16 ∧ x16 ≤ x1 + 1) (d1 : x1 + 1 ≤ x10 ∧ x10 ≤ x1 + 1) (d2 : x6 + (-1) ≤ x8 ∧ x8 ≤ x6 + (-1)) (d3 : x4 + (-48) ≤ x8 ∧ x8 ≤ x4 + (-1)) (d4 : x4 + (-47) ≤ x6 ∧ x6 ≤ x4 + 0) (g0 : x4 = edges_0) (f1 : x16 = x1 + x15) (f2 : x10 + x8 ≤ 48) (f3 : x1 + x8 ≤ 48) (f5 : x12 = nodes_0) (f6 : x13 = edges_0) (f7 : 1 * x14 + ((-1) * x5 + 0) ≤ 0) (f8 : (-1) * x14 + (1 * x5 + 0) ≤ 0) (f9 : (0 ≤ x1) ∧ ((x1 + 1) ≤ edges_0)) (f10 : RT2n (a2_0) (a2_0) (a3_0) (x10) (x1) (x8) (x12) (x13) (x14)) (f12 : x10 + x8 ≤ 48) (f13 : x1 + x8 ≤ 48) (f14 : 1 * x14 + ((-1) * x5 + 0) ≤ 0) (f15 : (-1) * x14 + (1 * x5 + 0) ≤ 0) (f16 : x10 = x1 + x9) (f17 : x8 = x6 - x7) (f18 : x6 = x4 - x1) (hK_2_999 : ∀ j : Int, 0 ≤ j → j < 48 → 0 ≤ a2_0 j ∧ a2_0 j ≤ 23) (hK_3_999 : ∀ j : Int, 0 ≤ j → j < 48 → 0 ≤ a3_0 j ∧ a3_0 j ≤ 23) (kz_0_0 : 0 ≤ nodes_0 ∧ nodes_0 ≤ 24) (kz_0_1 : 0 ≤ edges_0 ∧ edges_0 ≤ 48) (ey2 : gy = nodes_0) (ey3 : 0 ≤ gy ∧ gy ≤ 24) (eu2 : gu = edges_0) (eu3 : 0 ≤ gu ∧ gu ≤ 48) (ew2 : gw = x5) (ew3 : 0 ≤ gw ∧ gw ≤ 23) : gy = nodes_0 := by
  first
    | omega
  
set_option maxHeartbeats 4000000 in
theorem vc_Gr_removeEdge_at_gn_2_3 (x1 : Int) (x4 : Int) (x5 : Int) (x6 : Int) (x7 : Int) (x8 : Int) (x9 : Int) (x10 : Int) (x12 : Int) (x13 : Int) (x14 : Int) (x15 : Int) (x16 : Int) (edges_0 : Int) (nodes_0 : Int) (a2_0 : Int → Int) (a3_0 : Int → Int) (gy : Int) (gu : Int) (gw : Int) (k1 : 0 ≤ x1 ∧ x1 ≤ 47) (k4 : 1 ≤ x4 ∧ x4 ≤ 48) (k5 : 0 ≤ x5 ∧ x5 ≤ 23) (k6 : (-46) ≤ x6 ∧ x6 ≤ 48) (k7 : 1 ≤ x7 ∧ x7 ≤ 1) (k8 : 0 ≤ x8 ∧ x8 ≤ 47) (k9 : 1 ≤ x9 ∧ x9 ≤ 1) (k10 : 1 ≤ x10 ∧ x10 ≤ 48) (k12 : 0 ≤ x12 ∧ x12 ≤ 24) (k13 : 0 ≤ x13 ∧ x13 ≤ 48) (k14 : 0 ≤ x14 ∧ x14 ≤ 23) (k15 : 1 ≤ x15 ∧ x15 ≤ 1) (k16 : 1 ≤ x16 ∧ x16 ≤ 48) (d0 : x1 + 1 ≤ x16 ∧ x16 ≤ x1 + 1) (d1 : x1 + 1 ≤ x10 ∧ x10 ≤ x1 + 1) (d2 : x6 + (-1) ≤ x8 ∧ x8 ≤ x6 + (-1)) (d3 : x4 + (-48) ≤ x8 ∧ x8 ≤ x4 + (-1)) (d4 : x4 + (-47) ≤ x6 ∧ x6 ≤ x4 + 0) (g0 : x4 = edges_0) (f1 : x16 = x1 + x15) (f2 : x10 + x8 ≤ 48) (f3 : x1 + x8 ≤ 48) (f5 : x12 = nodes_0) (f6 : x13 = edges_0) (f7 : 1 * x14 + ((-1) * x5 + 0) ≤ 0) (f8 : (-1) * x14 + (1 * x5 + 0) ≤ 0) (f9 : (0 ≤ x1) ∧ ((x1 + 1) ≤ edges_0)) (f10 : RT2n (a2_0) (a2_0) (a3_0) (x10) (x1) (x8) (x12) (x13) (x14)) (f12 : x10 + x8 ≤ 48) (f13 : x1 + x8 ≤ 48) (f14 : 1 * x14 + ((-1) * x5 + 0) ≤ 0) (f15 : (-1) * x14 + (1 * x5 + 0) ≤ 0) (f16 : x10 = x1 + x9) (f17 : x8 = x6 - x7) (f18 : x6 = x4 - x1) (hK_2_999 : ∀ j : Int, 0 ≤ j → j < 48 → 0 ≤ a2_0 j ∧ a2_0 j ≤ 23) (hK_3_999 : ∀ j : Int, 0 ≤ j → j < 48 → 0 ≤ a3_0 j ∧ a3_0 j ≤ 23) (kz_0_0 : 0 ≤ nodes_0 ∧ nodes_0 ≤ 24) (kz_0_1 : 0 ≤ edges_0 ∧ edges_0 ≤ 48) (ey2 : gy = nodes_0) (ey3 : 0 ≤ gy ∧ gy ≤ 24) (eu2 : gu = edges_0) (eu3 : 0 ≤ gu ∧ gu ≤ 48) (ew2 : gw = x5) (ew3 : 0 ≤ gw ∧ gw ≤ 23) : gu = edges_0 := by
  first
    | omega
  
set_option maxHeartbeats 4000000 in
theorem vc_Gr_removeEdge_at_gn_2_4 (x1 : Int) (x4 : Int) (x5 : Int) (x6 : Int) (x7 : Int) (x8 : Int) (x9 : Int) (x10 : Int) (x12 : Int) (x13 : Int) (x14 : Int) (x15 : Int) (x16 : Int) (edges_0 : Int) (nodes_0 : Int) (a2_0 : Int → Int) (a3_0 : Int → Int) (gy : Int) (gu : Int) (gw : Int) (k1 : 0 ≤ x1 ∧ x1 ≤ 47) (k4 : 1 ≤ x4 ∧ x4 ≤ 48) (k5 : 0 ≤ x5 ∧ x5 ≤ 23) (k6 : (-46) ≤ x6 ∧ x6 ≤ 48) (k7 : 1 ≤ x7 ∧ x7 ≤ 1) (k8 : 0 ≤ x8 ∧ x8 ≤ 47) (k9 : 1 ≤ x9 ∧ x9 ≤ 1) (k10 : 1 ≤ x10 ∧ x10 ≤ 48) (k12 : 0 ≤ x12 ∧ x12 ≤ 24) (k13 : 0 ≤ x13 ∧ x13 ≤ 48) (k14 : 0 ≤ x14 ∧ x14 ≤ 23) (k15 : 1 ≤ x15 ∧ x15 ≤ 1) (k16 : 1 ≤ x16 ∧ x16 ≤ 48) (d0 : x1 + 1 ≤ x16 ∧ x16 ≤ x1 + 1) (d1 : x1 + 1 ≤ x10 ∧ x10 ≤ x1 + 1) (d2 : x6 + (-1) ≤ x8 ∧ x8 ≤ x6 + (-1)) (d3 : x4 + (-48) ≤ x8 ∧ x8 ≤ x4 + (-1)) (d4 : x4 + (-47) ≤ x6 ∧ x6 ≤ x4 + 0) (g0 : x4 = edges_0) (f1 : x16 = x1 + x15) (f2 : x10 + x8 ≤ 48) (f3 : x1 + x8 ≤ 48) (f5 : x12 = nodes_0) (f6 : x13 = edges_0) (f7 : 1 * x14 + ((-1) * x5 + 0) ≤ 0) (f8 : (-1) * x14 + (1 * x5 + 0) ≤ 0) (f9 : (0 ≤ x1) ∧ ((x1 + 1) ≤ edges_0)) (f10 : RT2n (a2_0) (a2_0) (a3_0) (x10) (x1) (x8) (x12) (x13) (x14)) (f12 : x10 + x8 ≤ 48) (f13 : x1 + x8 ≤ 48) (f14 : 1 * x14 + ((-1) * x5 + 0) ≤ 0) (f15 : (-1) * x14 + (1 * x5 + 0) ≤ 0) (f16 : x10 = x1 + x9) (f17 : x8 = x6 - x7) (f18 : x6 = x4 - x1) (hK_2_999 : ∀ j : Int, 0 ≤ j → j < 48 → 0 ≤ a2_0 j ∧ a2_0 j ≤ 23) (hK_3_999 : ∀ j : Int, 0 ≤ j → j < 48 → 0 ≤ a3_0 j ∧ a3_0 j ≤ 23) (kz_0_0 : 0 ≤ nodes_0 ∧ nodes_0 ≤ 24) (kz_0_1 : 0 ≤ edges_0 ∧ edges_0 ≤ 48) (ey2 : gy = nodes_0) (ey3 : 0 ≤ gy ∧ gy ≤ 24) (eu2 : gu = edges_0) (eu3 : 0 ≤ gu ∧ gu ≤ 48) (ew2 : gw = x5) (ew3 : 0 ≤ gw ∧ gw ≤ 23) : 1 * gw + ((-1) * x5 + 0) ≤ 0 := by
  first
    | omega
  
set_option maxHeartbeats 4000000 in
theorem vc_Gr_removeEdge_at_gn_2_5 (x1 : Int) (x4 : Int) (x5 : Int) (x6 : Int) (x7 : Int) (x8 : Int) (x9 : Int) (x10 : Int) (x12 : Int) (x13 : Int) (x14 : Int) (x15 : Int) (x16 : Int) (edges_0 : Int) (nodes_0 : Int) (a2_0 : Int → Int) (a3_0 : Int → Int) (gy : Int) (gu : Int) (gw : Int) (k1 : 0 ≤ x1 ∧ x1 ≤ 47) (k4 : 1 ≤ x4 ∧ x4 ≤ 48) (k5 : 0 ≤ x5 ∧ x5 ≤ 23) (k6 : (-46) ≤ x6 ∧ x6 ≤ 48) (k7 : 1 ≤ x7 ∧ x7 ≤ 1) (k8 : 0 ≤ x8 ∧ x8 ≤ 47) (k9 : 1 ≤ x9 ∧ x9 ≤ 1) (k10 : 1 ≤ x10 ∧ x10 ≤ 48) (k12 : 0 ≤ x12 ∧ x12 ≤ 24) (k13 : 0 ≤ x13 ∧ x13 ≤ 48) (k14 : 0 ≤ x14 ∧ x14 ≤ 23) (k15 : 1 ≤ x15 ∧ x15 ≤ 1) (k16 : 1 ≤ x16 ∧ x16 ≤ 48) (d0 : x1 + 1 ≤ x16 ∧ x16 ≤ x1 + 1) (d1 : x1 + 1 ≤ x10 ∧ x10 ≤ x1 + 1) (d2 : x6 + (-1) ≤ x8 ∧ x8 ≤ x6 + (-1)) (d3 : x4 + (-48) ≤ x8 ∧ x8 ≤ x4 + (-1)) (d4 : x4 + (-47) ≤ x6 ∧ x6 ≤ x4 + 0) (g0 : x4 = edges_0) (f1 : x16 = x1 + x15) (f2 : x10 + x8 ≤ 48) (f3 : x1 + x8 ≤ 48) (f5 : x12 = nodes_0) (f6 : x13 = edges_0) (f7 : 1 * x14 + ((-1) * x5 + 0) ≤ 0) (f8 : (-1) * x14 + (1 * x5 + 0) ≤ 0) (f9 : (0 ≤ x1) ∧ ((x1 + 1) ≤ edges_0)) (f10 : RT2n (a2_0) (a2_0) (a3_0) (x10) (x1) (x8) (x12) (x13) (x14)) (f12 : x10 + x8 ≤ 48) (f13 : x1 + x8 ≤ 48) (f14 : 1 * x14 + ((-1) * x5 + 0) ≤ 0) (f15 : (-1) * x14 + (1 * x5 + 0) ≤ 0) (f16 : x10 = x1 + x9) (f17 : x8 = x6 - x7) (f18 : x6 = x4 - x1) (hK_2_999 : ∀ j : Int, 0 ≤ j → j < 48 → 0 ≤ a2_0 j ∧ a2_0 j ≤ 23) (hK_3_999 : ∀ j : Int, 0 ≤ j → j < 48 → 0 ≤ a3_0 j ∧ a3_0 j ≤ 23) (kz_0_0 : 0 ≤ nodes_0 ∧ nodes_0 ≤ 24) (kz_0_1 : 0 ≤ edges_0 ∧ edges_0 ≤ 48) (ey2 : gy = nodes_0) (ey3 : 0 ≤ gy ∧ gy ≤ 24) (eu2 : gu = edges_0) (eu3 : 0 ≤ gu ∧ gu ≤ 48) (ew2 : gw = x5) (ew3 : 0 ≤ gw ∧ gw ≤ 23) : (-1) * gw + (1 * x5 + 0) ≤ 0 := by
  first
    | omega
  
set_option maxHeartbeats 4000000 in
theorem vc_Gr_removeEdge_at_gn_2_6 (x1 : Int) (x4 : Int) (x5 : Int) (x6 : Int) (x7 : Int) (x8 : Int) (x9 : Int) (x10 : Int) (x12 : Int) (x13 : Int) (x14 : Int) (x15 : Int) (x16 : Int) (edges_0 : Int) (nodes_0 : Int) (a2_0 : Int → Int) (a3_0 : Int → Int) (gy : Int) (gu : Int) (gw : Int) (k1 : 0 ≤ x1 ∧ x1 ≤ 47) (k4 : 1 ≤ x4 ∧ x4 ≤ 48) (k5 : 0 ≤ x5 ∧ x5 ≤ 23) (k6 : (-46) ≤ x6 ∧ x6 ≤ 48) (k7 : 1 ≤ x7 ∧ x7 ≤ 1) (k8 : 0 ≤ x8 ∧ x8 ≤ 47) (k9 : 1 ≤ x9 ∧ x9 ≤ 1) (k10 : 1 ≤ x10 ∧ x10 ≤ 48) (k12 : 0 ≤ x12 ∧ x12 ≤ 24) (k13 : 0 ≤ x13 ∧ x13 ≤ 48) (k14 : 0 ≤ x14 ∧ x14 ≤ 23) (k15 : 1 ≤ x15 ∧ x15 ≤ 1) (k16 : 1 ≤ x16 ∧ x16 ≤ 48) (d0 : x1 + 1 ≤ x16 ∧ x16 ≤ x1 + 1) (d1 : x1 + 1 ≤ x10 ∧ x10 ≤ x1 + 1) (d2 : x6 + (-1) ≤ x8 ∧ x8 ≤ x6 + (-1)) (d3 : x4 + (-48) ≤ x8 ∧ x8 ≤ x4 + (-1)) (d4 : x4 + (-47) ≤ x6 ∧ x6 ≤ x4 + 0) (g0 : x4 = edges_0) (f1 : x16 = x1 + x15) (f2 : x10 + x8 ≤ 48) (f3 : x1 + x8 ≤ 48) (f5 : x12 = nodes_0) (f6 : x13 = edges_0) (f7 : 1 * x14 + ((-1) * x5 + 0) ≤ 0) (f8 : (-1) * x14 + (1 * x5 + 0) ≤ 0) (f9 : (0 ≤ x1) ∧ ((x1 + 1) ≤ edges_0)) (f10 : RT2n (a2_0) (a2_0) (a3_0) (x10) (x1) (x8) (x12) (x13) (x14)) (f12 : x10 + x8 ≤ 48) (f13 : x1 + x8 ≤ 48) (f14 : 1 * x14 + ((-1) * x5 + 0) ≤ 0) (f15 : (-1) * x14 + (1 * x5 + 0) ≤ 0) (f16 : x10 = x1 + x9) (f17 : x8 = x6 - x7) (f18 : x6 = x4 - x1) (hK_2_999 : ∀ j : Int, 0 ≤ j → j < 48 → 0 ≤ a2_0 j ∧ a2_0 j ≤ 23) (hK_3_999 : ∀ j : Int, 0 ≤ j → j < 48 → 0 ≤ a3_0 j ∧ a3_0 j ≤ 23) (kz_0_0 : 0 ≤ nodes_0 ∧ nodes_0 ≤ 24) (kz_0_1 : 0 ≤ edges_0 ∧ edges_0 ≤ 48) (ey2 : gy = nodes_0) (ey3 : 0 ≤ gy ∧ gy ≤ 24) (eu2 : gu = edges_0) (eu3 : 0 ≤ gu ∧ gu ≤ 48) (ew2 : gw = x5) (ew3 : 0 ≤ gw ∧ gw ≤ 23) : RH1n (a3_0) (a3_0) (a2_0) (x16) (x1) (x8) (gy) (gu) (gw) := by
  first
    | exact rh1n_of ‹RT2n _ _ _ _ _ _ _ _ _› (by omega) (by omega) (by omega) (by omega) (by omega) (by omega)
  
def o_Gr_removeEdge_at_gn_2 : or_T := (38, 17, [(0, (2, 0, 0, [3])), (1, (0, 0, 47, [])), (2, (2, 0, 0, [52])), (3, (2, 0, 0, [53])), (4, (0, 1, 48, [])), (5, (0, 0, 23, [])), (6, (0, -46, 48, [])), (7, (0, 1, 1, [])), (8, (0, 0, 47, [])), (9, (0, 1, 1, [])), (10, (0, 1, 48, [])), (12, (0, 0, 24, [])), (13, (0, 0, 48, [])), (14, (0, 0, 23, [])), (15, (0, 1, 1, [])), (16, (0, 1, 48, []))], [(9, [4, 0], [1]), (1, [16, 1, 15], []), (21, [10, 8], [48]), (21, [1, 8], [48]), (24, [3, 11], []), (20, [12, 0], [50, 1, 0, 1000, 1, 2, 1, 0, 2, 1, 0]), (20, [13, 0], [50, 1, 0, 1001, 1, 2, 1, 0, 2, 1, 1]), (23, [14, 5], [0, 1, -1]), (23, [14, 5], [0, -1, 1]), (20, [1, 0], [50, 1, 0, 1001, 2, 6, 0, 2, 0, 0, 1, 0, 0, 6, 4, 2, 1, 0, 0, 1, 2, 1, 1]), (20, [2, 2, 11, 10, 1, 8, 12, 13, 14], [61, 3, 752]), (102, [14], [4503599627370496]), (21, [10, 8], [48]), (21, [1, 8], [48]), (23, [14, 5], [0, 1, -1]), (23, [14, 5], [0, -1, 1]), (1, [10, 1, 9], []), (2, [8, 6, 7], []), (2, [6, 4, 1], [])], [], [(2, 0, 0, [52]), (0, 0, 24, []), (0, 0, 48, []), (0, 0, 23, [])], [(21, [16, 8], [48]), (24, [2, 17], []), (20, [18, 0], [50, 1, 0, 1000, 1, 2, 1, 0, 2, 1, 0]), (20, [19, 0], [50, 1, 0, 1001, 1, 2, 1, 0, 2, 1, 1]), (23, [20, 5], [0, 1, -1]), (23, [20, 5], [0, -1, 1]), (20, [3, 3, 17, 16, 1, 8, 18, 19, 20], [61, 3, 754])], [], [(16, 1, 1, 1), (10, 1, 1, 1), (8, 6, -1, -1), (8, 4, -48, -1), (6, 4, -47, 0)])
theorem oo_Gr_removeEdge_at_gn_2 {kA : Nat → ClassId} : or_ok PRD kA GG o_Gr_removeEdge_at_gn_2 := by
  refine or_mk fun A ta ws vs hD hth hl => ?_
  intro t0 r0 t1 k1 t2 r2 t3 r3 t4 k4 t5 k5 t6 k6 t7 k7 t8 k8 t9 k9 t10 k10 t12 k12 t13 k13 t14 k14 t15 k15 t16 k16 d0 d1 d2 d3 d4 f0 f1 f2 f3 f4 f5 f6 f7 f8 f9 f10 ta1 w1 le1 s1 f12 f13 f14 f15 f16 f17 f18
  replace f0 := shm_215 f0
  replace f1 := shm_12 f1
  replace f2 := shm_858 f2
  replace f3 := shm_858 f3
  replace f4 := shm_5 f4
  replace f5 := shm_836 f5
  replace f6 := shm_859 f6
  replace f7 := shm_7 f7
  replace f8 := shm_22 f8
  replace f9 := shm_387 f9
  replace f10 := shm_861 f10
  replace f12 := shm_858 f12
  replace f13 := shm_858 f13
  replace f14 := shm_7 f14
  replace f15 := shm_22 f15
  replace f16 := shm_12 f16
  replace f17 := shm_14 f17
  replace f18 := shm_14 f18
  have q11 : n_v vs 11 = n_v vs 3 := f4.symm
  simp only [q11] at f10
  have cr_2_999 : ta (v_ad (n_v vs 2)) = some 52 := r2
  have cr_3_999 : ta (v_ad (n_v vs 3)) = some 53 := r3
  have g0 : v_iv (n_v vs 4) = w_fi ws (n_v vs 0) 1 := congrArg v_iv f0
  have hK_2_999 := elq_11 hD hth cr_2_999
  have hK_3_999 := elq_12 hD hth cr_3_999
  have kz_0_0 := fdq_21 hD hth r0
  have kz_0_1 := fdq_30 hD hth r0
  obtain ⟨y, ey, hy⟩ := iv_ex (ta := ta) (lo := 0) (hi := 24) (z := w_fi ws (n_v vs 0) 0) (by omega) (by omega) (by omega) (by omega)
  have ey2 : v_iv (Value.int y) = w_fi ws (n_v vs 0) 0 := ey
  have ey3 : 0 ≤ v_iv (Value.int y) ∧ v_iv (Value.int y) ≤ 24 := tv_rng hy
  obtain ⟨u, eu, hu⟩ := iv_ex (ta := ta) (lo := 0) (hi := 48) (z := w_fi ws (n_v vs 0) 1) (by omega) (by omega) (by omega) (by omega)
  have eu2 : v_iv (Value.int u) = w_fi ws (n_v vs 0) 1 := eu
  have eu3 : 0 ≤ v_iv (Value.int u) ∧ v_iv (Value.int u) ≤ 48 := tv_rng hu
  obtain ⟨w, ew, hw⟩ := iv_ex (ta := ta) (lo := 0) (hi := 23) (z := v_iv (n_v vs 5)) (by omega) (by omega) (by omega) (by omega)
  have ew2 : v_iv (Value.int w) = v_iv (n_v vs 5) := ew
  have ew3 : 0 ≤ v_iv (Value.int w) ∧ v_iv (Value.int w) ≤ 23 := tv_rng hw
  have e_0 : n_v (vs ++ [n_v vs 2, Value.int y, Value.int u, Value.int w]) 0 = n_v vs 0 := n_v_old (by rw [hl]; decide)
  have e_1 : n_v (vs ++ [n_v vs 2, Value.int y, Value.int u, Value.int w]) 1 = n_v vs 1 := n_v_old (by rw [hl]; decide)
  have e_2 : n_v (vs ++ [n_v vs 2, Value.int y, Value.int u, Value.int w]) 2 = n_v vs 2 := n_v_old (by rw [hl]; decide)
  have e_3 : n_v (vs ++ [n_v vs 2, Value.int y, Value.int u, Value.int w]) 3 = n_v vs 3 := n_v_old (by rw [hl]; decide)
  have e_5 : n_v (vs ++ [n_v vs 2, Value.int y, Value.int u, Value.int w]) 5 = n_v vs 5 := n_v_old (by rw [hl]; decide)
  have e_8 : n_v (vs ++ [n_v vs 2, Value.int y, Value.int u, Value.int w]) 8 = n_v vs 8 := n_v_old (by rw [hl]; decide)
  have e_16 : n_v (vs ++ [n_v vs 2, Value.int y, Value.int u, Value.int w]) 16 = n_v vs 16 := n_v_old (by rw [hl]; decide)
  have e_17 : n_v (vs ++ [n_v vs 2, Value.int y, Value.int u, Value.int w]) 17 = n_v vs 2 := n_v_newk (k := 0) hl rfl
  have e_18 : n_v (vs ++ [n_v vs 2, Value.int y, Value.int u, Value.int w]) 18 = Value.int y := n_v_newk (k := 1) hl rfl
  have e_19 : n_v (vs ++ [n_v vs 2, Value.int y, Value.int u, Value.int w]) 19 = Value.int u := n_v_newk (k := 2) hl rfl
  have e_20 : n_v (vs ++ [n_v vs 2, Value.int y, Value.int u, Value.int w]) 20 = Value.int w := n_v_newk (k := 3) hl rfl
  have nf0 : fc_1 PRD (21, [16, 8], [48]) ws (vs ++ [n_v vs 2, Value.int y, Value.int u, Value.int w]) := by
    refine ⟨nf_inA hl rfl, sgq_858 ?_⟩
    · show v_iv (n_v (vs ++ [n_v vs 2, Value.int y, Value.int u, Value.int w]) 16) + v_iv (n_v (vs ++ [n_v vs 2, Value.int y, Value.int u, Value.int w]) 8) ≤ 48
      simp only [e_8, e_16]
      exact vc_Gr_removeEdge_at_gn_2_0 (v_iv (n_v vs 1)) (v_iv (n_v vs 4)) (v_iv (n_v vs 5)) (v_iv (n_v vs 6)) (v_iv (n_v vs 7)) (v_iv (n_v vs 8)) (v_iv (n_v vs 9)) (v_iv (n_v vs 10)) (v_iv (n_v vs 12)) (v_iv (n_v vs 13)) (v_iv (n_v vs 14)) (v_iv (n_v vs 15)) (v_iv (n_v vs 16)) (w_fi ws (n_v vs 0) 1) (w_fi ws (n_v vs 0) 0) (w_ei ws (v_ad (n_v vs 2))) (w_ei ws (v_ad (n_v vs 3))) (v_iv (Value.int y)) (v_iv (Value.int u)) (v_iv (Value.int w)) k1 k4 k5 k6 k7 k8 k9 k10 k12 k13 k14 k15 k16 d0 d1 d2 d3 d4 g0 f1 f2 f3 f5 f6 f7 f8 f9 f10 f12 f13 f14 f15 f16 f17 f18 hK_2_999 hK_3_999 kz_0_0 kz_0_1 ey2 ey3 eu2 eu3 ew2 ew3
  have nf1 : fc_1 PRD (24, [2, 17], []) ws (vs ++ [n_v vs 2, Value.int y, Value.int u, Value.int w]) := by
    refine ⟨nf_inA hl rfl, sgq_5 ?_⟩
    · show n_v (vs ++ [n_v vs 2, Value.int y, Value.int u, Value.int w]) 2 = n_v (vs ++ [n_v vs 2, Value.int y, Value.int u, Value.int w]) 17
      first | rfl | simp only [e_2, e_17, q11]
  have nf2 : fc_1 PRD (20, [18, 0], [50, 1, 0, 1000, 1, 2, 1, 0, 2, 1, 0]) ws (vs ++ [n_v vs 2, Value.int y, Value.int u, Value.int w]) := by
    refine ⟨nf_inA hl rfl, sgq_836 ?_⟩
    · show v_iv (n_v (vs ++ [n_v vs 2, Value.int y, Value.int u, Value.int w]) 18) = w_fi ws (n_v (vs ++ [n_v vs 2, Value.int y, Value.int u, Value.int w]) 0) 0
      simp only [e_0, e_18]
      exact vc_Gr_removeEdge_at_gn_2_2 (v_iv (n_v vs 1)) (v_iv (n_v vs 4)) (v_iv (n_v vs 5)) (v_iv (n_v vs 6)) (v_iv (n_v vs 7)) (v_iv (n_v vs 8)) (v_iv (n_v vs 9)) (v_iv (n_v vs 10)) (v_iv (n_v vs 12)) (v_iv (n_v vs 13)) (v_iv (n_v vs 14)) (v_iv (n_v vs 15)) (v_iv (n_v vs 16)) (w_fi ws (n_v vs 0) 1) (w_fi ws (n_v vs 0) 0) (w_ei ws (v_ad (n_v vs 2))) (w_ei ws (v_ad (n_v vs 3))) (v_iv (Value.int y)) (v_iv (Value.int u)) (v_iv (Value.int w)) k1 k4 k5 k6 k7 k8 k9 k10 k12 k13 k14 k15 k16 d0 d1 d2 d3 d4 g0 f1 f2 f3 f5 f6 f7 f8 f9 f10 f12 f13 f14 f15 f16 f17 f18 hK_2_999 hK_3_999 kz_0_0 kz_0_1 ey2 ey3 eu2 eu3 ew2 ew3
  have nf3 : fc_1 PRD (20, [19, 0], [50, 1, 0, 1001, 1, 2, 1, 0, 2, 1, 1]) ws (vs ++ [n_v vs 2, Value.int y, Value.int u, Value.int w]) := by
    refine ⟨nf_inA hl rfl, sgq_859 ?_⟩
    · show v_iv (n_v (vs ++ [n_v vs 2, Value.int y, Value.int u, Value.int w]) 19) = w_fi ws (n_v (vs ++ [n_v vs 2, Value.int y, Value.int u, Value.int w]) 0) 1
      simp only [e_0, e_19]
      exact vc_Gr_removeEdge_at_gn_2_3 (v_iv (n_v vs 1)) (v_iv (n_v vs 4)) (v_iv (n_v vs 5)) (v_iv (n_v vs 6)) (v_iv (n_v vs 7)) (v_iv (n_v vs 8)) (v_iv (n_v vs 9)) (v_iv (n_v vs 10)) (v_iv (n_v vs 12)) (v_iv (n_v vs 13)) (v_iv (n_v vs 14)) (v_iv (n_v vs 15)) (v_iv (n_v vs 16)) (w_fi ws (n_v vs 0) 1) (w_fi ws (n_v vs 0) 0) (w_ei ws (v_ad (n_v vs 2))) (w_ei ws (v_ad (n_v vs 3))) (v_iv (Value.int y)) (v_iv (Value.int u)) (v_iv (Value.int w)) k1 k4 k5 k6 k7 k8 k9 k10 k12 k13 k14 k15 k16 d0 d1 d2 d3 d4 g0 f1 f2 f3 f5 f6 f7 f8 f9 f10 f12 f13 f14 f15 f16 f17 f18 hK_2_999 hK_3_999 kz_0_0 kz_0_1 ey2 ey3 eu2 eu3 ew2 ew3
  have nf4 : fc_1 PRD (23, [20, 5], [0, 1, -1]) ws (vs ++ [n_v vs 2, Value.int y, Value.int u, Value.int w]) := by
    refine ⟨nf_inA hl rfl, sgq_7 ?_⟩
    · show 1 * v_iv (n_v (vs ++ [n_v vs 2, Value.int y, Value.int u, Value.int w]) 20) + ((-1) * v_iv (n_v (vs ++ [n_v vs 2, Value.int y, Value.int u, Value.int w]) 5) + 0) ≤ 0
      simp only [e_5, e_20]
      exact vc_Gr_removeEdge_at_gn_2_4 (v_iv (n_v vs 1)) (v_iv (n_v vs 4)) (v_iv (n_v vs 5)) (v_iv (n_v vs 6)) (v_iv (n_v vs 7)) (v_iv (n_v vs 8)) (v_iv (n_v vs 9)) (v_iv (n_v vs 10)) (v_iv (n_v vs 12)) (v_iv (n_v vs 13)) (v_iv (n_v vs 14)) (v_iv (n_v vs 15)) (v_iv (n_v vs 16)) (w_fi ws (n_v vs 0) 1) (w_fi ws (n_v vs 0) 0) (w_ei ws (v_ad (n_v vs 2))) (w_ei ws (v_ad (n_v vs 3))) (v_iv (Value.int y)) (v_iv (Value.int u)) (v_iv (Value.int w)) k1 k4 k5 k6 k7 k8 k9 k10 k12 k13 k14 k15 k16 d0 d1 d2 d3 d4 g0 f1 f2 f3 f5 f6 f7 f8 f9 f10 f12 f13 f14 f15 f16 f17 f18 hK_2_999 hK_3_999 kz_0_0 kz_0_1 ey2 ey3 eu2 eu3 ew2 ew3
  have nf5 : fc_1 PRD (23, [20, 5], [0, -1, 1]) ws (vs ++ [n_v vs 2, Value.int y, Value.int u, Value.int w]) := by
    refine ⟨nf_inA hl rfl, sgq_22 ?_⟩
    · show (-1) * v_iv (n_v (vs ++ [n_v vs 2, Value.int y, Value.int u, Value.int w]) 20) + (1 * v_iv (n_v (vs ++ [n_v vs 2, Value.int y, Value.int u, Value.int w]) 5) + 0) ≤ 0
      simp only [e_5, e_20]
      exact vc_Gr_removeEdge_at_gn_2_5 (v_iv (n_v vs 1)) (v_iv (n_v vs 4)) (v_iv (n_v vs 5)) (v_iv (n_v vs 6)) (v_iv (n_v vs 7)) (v_iv (n_v vs 8)) (v_iv (n_v vs 9)) (v_iv (n_v vs 10)) (v_iv (n_v vs 12)) (v_iv (n_v vs 13)) (v_iv (n_v vs 14)) (v_iv (n_v vs 15)) (v_iv (n_v vs 16)) (w_fi ws (n_v vs 0) 1) (w_fi ws (n_v vs 0) 0) (w_ei ws (v_ad (n_v vs 2))) (w_ei ws (v_ad (n_v vs 3))) (v_iv (Value.int y)) (v_iv (Value.int u)) (v_iv (Value.int w)) k1 k4 k5 k6 k7 k8 k9 k10 k12 k13 k14 k15 k16 d0 d1 d2 d3 d4 g0 f1 f2 f3 f5 f6 f7 f8 f9 f10 f12 f13 f14 f15 f16 f17 f18 hK_2_999 hK_3_999 kz_0_0 kz_0_1 ey2 ey3 eu2 eu3 ew2 ew3
  have nf6 : fc_1 PRD (20, [3, 3, 17, 16, 1, 8, 18, 19, 20], [61, 3, 754]) ws (vs ++ [n_v vs 2, Value.int y, Value.int u, Value.int w]) := by
    refine ⟨nf_inA hl rfl, sgq_862 ?_⟩
    · show RH1n (w_ei ws (v_ad (n_v (vs ++ [n_v vs 2, Value.int y, Value.int u, Value.int w]) 3))) (w_ei ws (v_ad (n_v (vs ++ [n_v vs 2, Value.int y, Value.int u, Value.int w]) 3))) (w_ei ws (v_ad (n_v (vs ++ [n_v vs 2, Value.int y, Value.int u, Value.int w]) 17))) (v_iv (n_v (vs ++ [n_v vs 2, Value.int y, Value.int u, Value.int w]) 16)) (v_iv (n_v (vs ++ [n_v vs 2, Value.int y, Value.int u, Value.int w]) 1)) (v_iv (n_v (vs ++ [n_v vs 2, Value.int y, Value.int u, Value.int w]) 8)) (v_iv (n_v (vs ++ [n_v vs 2, Value.int y, Value.int u, Value.int w]) 18)) (v_iv (n_v (vs ++ [n_v vs 2, Value.int y, Value.int u, Value.int w]) 19)) (v_iv (n_v (vs ++ [n_v vs 2, Value.int y, Value.int u, Value.int w]) 20))
      simp only [e_1, e_3, e_8, e_16, e_17, e_18, e_19, e_20]
      exact vc_Gr_removeEdge_at_gn_2_6 (v_iv (n_v vs 1)) (v_iv (n_v vs 4)) (v_iv (n_v vs 5)) (v_iv (n_v vs 6)) (v_iv (n_v vs 7)) (v_iv (n_v vs 8)) (v_iv (n_v vs 9)) (v_iv (n_v vs 10)) (v_iv (n_v vs 12)) (v_iv (n_v vs 13)) (v_iv (n_v vs 14)) (v_iv (n_v vs 15)) (v_iv (n_v vs 16)) (w_fi ws (n_v vs 0) 1) (w_fi ws (n_v vs 0) 0) (w_ei ws (v_ad (n_v vs 2))) (w_ei ws (v_ad (n_v vs 3))) (v_iv (Value.int y)) (v_iv (Value.int u)) (v_iv (Value.int w)) k1 k4 k5 k6 k7 k8 k9 k10 k12 k13 k14 k15 k16 d0 d1 d2 d3 d4 g0 f1 f2 f3 f5 f6 f7 f8 f9 f10 f12 f13 f14 f15 f16 f17 f18 hK_2_999 hK_3_999 kz_0_0 kz_0_1 ey2 ey3 eu2 eu3 ew2 ew3
  exact ⟨(fun _ h => (by cases h)), [n_v vs 2, Value.int y, Value.int u, Value.int w], ag_four t2 hy hu hw, List.forall_mem_cons.mpr ⟨⟨show (21 : Nat) < 100 from by decide, nf0⟩, List.forall_mem_cons.mpr ⟨⟨show (24 : Nat) < 100 from by decide, nf1⟩, List.forall_mem_cons.mpr ⟨⟨show (20 : Nat) < 100 from by decide, nf2⟩, List.forall_mem_cons.mpr ⟨⟨show (20 : Nat) < 100 from by decide, nf3⟩, List.forall_mem_cons.mpr ⟨⟨show (23 : Nat) < 100 from by decide, nf4⟩, List.forall_mem_cons.mpr ⟨⟨show (23 : Nat) < 100 from by decide, nf5⟩, List.forall_mem_cons.mpr ⟨⟨show (20 : Nat) < 100 from by decide, nf6⟩, (fun _ h => (by cases h))⟩⟩⟩⟩⟩⟩⟩, (fun _ h => (by cases h))⟩
set_option maxHeartbeats 4000000 in
theorem vc_Gr_removeEdge_at_gn_3_0 (x1 : Int) (x4 : Int) (x5 : Int) (x6 : Int) (x7 : Int) (x8 : Int) (x9 : Int) (x10 : Int) (x12 : Int) (x13 : Int) (x14 : Int) (x15 : Int) (x16 : Int) (x18 : Int) (x19 : Int) (x20 : Int) (x22 : Int) (x23 : Int) (edges_0 : Int) (nodes_0 : Int) (a3_0 : Int → Int) (a2_0 : Int → Int) (k1 : 0 ≤ x1 ∧ x1 ≤ 47) (k4 : 1 ≤ x4 ∧ x4 ≤ 48) (k5 : 0 ≤ x5 ∧ x5 ≤ 23) (k6 : (-46) ≤ x6 ∧ x6 ≤ 48) (k7 : 1 ≤ x7 ∧ x7 ≤ 1) (k8 : 0 ≤ x8 ∧ x8 ≤ 47) (k9 : 1 ≤ x9 ∧ x9 ≤ 1) (k10 : 1 ≤ x10 ∧ x10 ≤ 48) (k12 : 0 ≤ x12 ∧ x12 ≤ 24) (k13 : 0 ≤ x13 ∧ x13 ≤ 48) (k14 : 0 ≤ x14 ∧ x14 ≤ 23) (k15 : 1 ≤ x15 ∧ x15 ≤ 1) (k16 : 1 ≤ x16 ∧ x16 ≤ 48) (k18 : 0 ≤ x18 ∧ x18 ≤ 24) (k19 : 0 ≤ x19 ∧ x19 ≤ 48) (k20 : 0 ≤ x20 ∧ x20 ≤ 23) (k22 : 1 ≤ x22 ∧ x22 ≤ 1) (k23 : 1 ≤ x23 ∧ x23 ≤ 48) (d0 : x1 + 1 ≤ x23 ∧ x23 ≤ x1 + 1) (d1 : x1 + 1 ≤ x16 ∧ x16 ≤ x1 + 1) (d2 : x1 + 1 ≤ x10 ∧ x10 ≤ x1 + 1) (d3 : x6 + (-1) ≤ x8 ∧ x8 ≤ x6 + (-1)) (d4 : x4 + (-48) ≤ x8 ∧ x8 ≤ x4 + (-1)) (d5 : x4 + (-47) ≤ x6 ∧ x6 ≤ x4 + 0) (g0 : x4 = edges_0) (f1 : x23 = x1 + x22) (f2 : x16 + x8 ≤ 48) (f4 : x18 = nodes_0) (f5 : x19 = edges_0) (f6 : 1 * x20 + ((-1) * x5 + 0) ≤ 0) (f7 : (-1) * x20 + (1 * x5 + 0) ≤ 0) (f8 : x10 + x8 ≤ 48) (f9 : x1 + x8 ≤ 48) (f11 : x12 = nodes_0) (f12 : x13 = edges_0) (f13 : 1 * x14 + ((-1) * x5 + 0) ≤ 0) (f14 : (-1) * x14 + (1 * x5 + 0) ≤ 0) (f15 : (0 ≤ x1) ∧ ((x1 + 1) ≤ edges_0)) (f16 : RH2n (a3_0) (a3_0) (a2_0) (x16) (x1) (x8) (x18) (x19) (x20)) (f18 : x16 + x8 ≤ 48) (f19 : 1 * x20 + ((-1) * x5 + 0) ≤ 0) (f20 : (-1) * x20 + (1 * x5 + 0) ≤ 0) (f21 : x16 = x1 + x15) (f22 : x10 + x8 ≤ 48) (f23 : x1 + x8 ≤ 48) (f24 : 1 * x14 + ((-1) * x5 + 0) ≤ 0) (f25 : (-1) * x14 + (1 * x5 + 0) ≤ 0) (f27 : x10 + x8 ≤ 48) (f28 : x1 + x8 ≤ 48) (f29 : 1 * x14 + ((-1) * x5 + 0) ≤ 0) (f30 : (-1) * x14 + (1 * x5 + 0) ≤ 0) (f31 : x10 = x1 + x9) (f32 : x8 = x6 - x7) (f33 : x6 = x4 - x1) (hK_2_999 : ∀ j : Int, 0 ≤ j → j < 48 → 0 ≤ a2_0 j ∧ a2_0 j ≤ 23) (hK_3_999 : ∀ j : Int, 0 ≤ j → j < 48 → 0 ≤ a3_0 j ∧ a3_0 j ≤ 23) (kz_0_0 : 0 ≤ nodes_0 ∧ nodes_0 ≤ 24) (kz_0_1 : 0 ≤ edges_0 ∧ edges_0 ≤ 48) : x23 + x8 ≤ 48 := by
  first
    | omega
  
def o_Gr_removeEdge_at_gn_3 : or_T := (54, 24, [(0, (2, 0, 0, [3])), (1, (0, 0, 47, [])), (2, (2, 0, 0, [52])), (3, (2, 0, 0, [53])), (4, (0, 1, 48, [])), (5, (0, 0, 23, [])), (6, (0, -46, 48, [])), (7, (0, 1, 1, [])), (8, (0, 0, 47, [])), (9, (0, 1, 1, [])), (10, (0, 1, 48, [])), (12, (0, 0, 24, [])), (13, (0, 0, 48, [])), (14, (0, 0, 23, [])), (15, (0, 1, 1, [])), (16, (0, 1, 48, [])), (18, (0, 0, 24, [])), (19, (0, 0, 48, [])), (20, (0, 0, 23, [])), (22, (0, 1, 1, [])), (23, (0, 1, 48, []))], [(9, [4, 0], [1]), (1, [23, 1, 22], []), (21, [16, 8], [48]), (24, [2, 17], []), (20, [18, 0], [50, 1, 0, 1000, 1, 2, 1, 0, 2, 1, 0]), (20, [19, 0], [50, 1, 0, 1001, 1, 2, 1, 0, 2, 1, 1]), (23, [20, 5], [0, 1, -1]), (23, [20, 5], [0, -1, 1]), (21, [10, 8], [48]), (21, [1, 8], [48]), (20, [12, 0], [50, 1, 0, 1000, 1, 2, 1, 0, 2, 1, 0]), (20, [13, 0], [50, 1, 0, 1001, 1, 2, 1, 0, 2, 1, 1]), (23, [14, 5], [0, 1, -1]), (23, [14, 5], [0, -1, 1]), (20, [1, 0], [50, 1, 0, 1001, 2, 6, 0, 2, 0, 0, 1, 0, 0, 6, 4, 2, 1, 0, 0, 1, 2, 1, 1]), (20, [3, 3, 17, 16, 1, 8, 18, 19, 20], [61, 3, 756]), (102, [20], [9007199254740992]), (21, [16, 8], [48]), (23, [20, 5], [0, 1, -1]), (23, [20, 5], [0, -1, 1]), (1, [16, 1, 15], []), (21, [10, 8], [48]), (21, [1, 8], [48]), (23, [14, 5], [0, 1, -1]), (23, [14, 5], [0, -1, 1]), (102, [14], [4503599627370496]), (21, [10, 8], [48]), (21, [1, 8], [48]), (23, [14, 5], [0, 1, -1]), (23, [14, 5], [0, -1, 1]), (1, [10, 1, 9], []), (2, [8, 6, 7], []), (2, [6, 4, 1], [])], [], [], [(21, [23, 8], [48])], [], [(23, 1, 1, 1), (16, 1, 1, 1), (10, 1, 1, 1), (8, 6, -1, -1), (8, 4, -48, -1), (6, 4, -47, 0)])
theorem oo_Gr_removeEdge_at_gn_3 {kA : Nat → ClassId} : or_ok PRD kA GG o_Gr_removeEdge_at_gn_3 := by
  refine or_mk fun A ta ws vs hD hth hl => ?_
  intro t0 r0 t1 k1 t2 r2 t3 r3 t4 k4 t5 k5 t6 k6 t7 k7 t8 k8 t9 k9 t10 k10 t12 k12 t13 k13 t14 k14 t15 k15 t16 k16 t18 k18 t19 k19 t20 k20 t22 k22 t23 k23 d0 d1 d2 d3 d4 d5 f0 f1 f2 f3 f4 f5 f6 f7 f8 f9 f11 f12 f13 f14 f15 f16 ta1 w1 le1 s1 f18 f19 f20 f21 f22 f23 f24 f25 ta2 w2 le2 s2 f27 f28 f29 f30 f31 f32 f33
  replace f0 := shm_215 f0
  replace f3 := shm_5 f3
  replace f16 := shm_863 f16
  have q17 : n_v vs 17 = n_v vs 2 := f3.symm
  simp only [q17] at f16
  have cr_2_999 : ta (v_ad (n_v vs 2)) = some 52 := r2
  have cr_3_999 : ta (v_ad (n_v vs 3)) = some 53 := r3
  have g0 : v_iv (n_v vs 4) = w_fi ws (n_v vs 0) 1 := congrArg v_iv f0
  have hK_2_999 := elq_11 hD hth cr_2_999
  have hK_3_999 := elq_12 hD hth cr_3_999
  have kz_0_0 := fdq_21 hD hth r0
  have kz_0_1 := fdq_30 hD hth r0
  have nf0 : fc_1 PRD (21, [23, 8], [48]) ws (vs) := ⟨nf_in hl rfl, sgq_858 (vc_Gr_removeEdge_at_gn_3_0 (v_iv (n_v vs 1)) (v_iv (n_v vs 4)) (v_iv (n_v vs 5)) (v_iv (n_v vs 6)) (v_iv (n_v vs 7)) (v_iv (n_v vs 8)) (v_iv (n_v vs 9)) (v_iv (n_v vs 10)) (v_iv (n_v vs 12)) (v_iv (n_v vs 13)) (v_iv (n_v vs 14)) (v_iv (n_v vs 15)) (v_iv (n_v vs 16)) (v_iv (n_v vs 18)) (v_iv (n_v vs 19)) (v_iv (n_v vs 20)) (v_iv (n_v vs 22)) (v_iv (n_v vs 23)) (w_fi ws (n_v vs 0) 1) (w_fi ws (n_v vs 0) 0) (w_ei ws (v_ad (n_v vs 3))) (w_ei ws (v_ad (n_v vs 2))) k1 k4 k5 k6 k7 k8 k9 k10 k12 k13 k14 k15 k16 k18 k19 k20 k22 k23 d0 d1 d2 d3 d4 d5 g0 (shm_12 f1) (shm_858 f2) (shm_836 f4) (shm_859 f5) (shm_7 f6) (shm_22 f7) (shm_858 f8) (shm_858 f9) (shm_836 f11) (shm_859 f12) (shm_7 f13) (shm_22 f14) (shm_387 f15) f16 (shm_858 f18) (shm_7 f19) (shm_22 f20) (shm_12 f21) (shm_858 f22) (shm_858 f23) (shm_7 f24) (shm_22 f25) (shm_858 f27) (shm_858 f28) (shm_7 f29) (shm_22 f30) (shm_12 f31) (shm_14 f32) (shm_14 f33) hK_2_999 hK_3_999 kz_0_0 kz_0_1)⟩
  refine ⟨(fun _ h => (by cases h)), [], trivial, ?_, (fun _ h => (by cases h))⟩
  rw [List.append_nil]
  exact List.forall_mem_cons.mpr ⟨⟨show (21 : Nat) < 100 from by decide, nf0⟩, (fun _ h => (by cases h))⟩
set_option maxHeartbeats 4000000 in
theorem vc_Gr_removeEdge_at_gn_4_0 (x1 : Int) (x4 : Int) (x5 : Int) (x6 : Int) (x7 : Int) (x8 : Int) (x9 : Int) (x10 : Int) (x12 : Int) (x13 : Int) (x14 : Int) (x15 : Int) (x16 : Int) (x18 : Int) (x19 : Int) (x20 : Int) (x22 : Int) (x23 : Int) (x25 : Int) (x26 : Int) (edges_0 : Int) (nodes_0 : Int) (a3_0 : Int → Int) (a2_0 : Int → Int) (k1 : 0 ≤ x1 ∧ x1 ≤ 47) (k4 : 1 ≤ x4 ∧ x4 ≤ 48) (k5 : 0 ≤ x5 ∧ x5 ≤ 23) (k6 : (-46) ≤ x6 ∧ x6 ≤ 48) (k7 : 1 ≤ x7 ∧ x7 ≤ 1) (k8 : 0 ≤ x8 ∧ x8 ≤ 47) (k9 : 1 ≤ x9 ∧ x9 ≤ 1) (k10 : 1 ≤ x10 ∧ x10 ≤ 48) (k12 : 0 ≤ x12 ∧ x12 ≤ 24) (k13 : 0 ≤ x13 ∧ x13 ≤ 48) (k14 : 0 ≤ x14 ∧ x14 ≤ 23) (k15 : 1 ≤ x15 ∧ x15 ≤ 1) (k16 : 1 ≤ x16 ∧ x16 ≤ 48) (k18 : 0 ≤ x18 ∧ x18 ≤ 24) (k19 : 0 ≤ x19 ∧ x19 ≤ 48) (k20 : 0 ≤ x20 ∧ x20 ≤ 23) (k22 : 1 ≤ x22 ∧ x22 ≤ 1) (k23 : 1 ≤ x23 ∧ x23 ≤ 48) (k25 : 1 ≤ x25 ∧ x25 ≤ 1) (k26 : 1 ≤ x26 ∧ x26 ≤ 48) (d0 : x1 + 1 ≤ x26 ∧ x26 ≤ x1 + 1) (d1 : x1 + 1 ≤ x23 ∧ x23 ≤ x1 + 1) (d2 : x1 + 1 ≤ x16 ∧ x16 ≤ x1 + 1) (d3 : x1 + 1 ≤ x10 ∧ x10 ≤ x1 + 1) (d4 : x6 + (-1) ≤ x8 ∧ x8 ≤ x6 + (-1)) (d5 : x4 + (-48) ≤ x8 ∧ x8 ≤ x4 + (-1)) (d6 : x4 + (-47) ≤ x6 ∧ x6 ≤ x4 + 0) (g0 : x4 = edges_0) (f1 : x26 = x1 + x25) (f2 : x23 + x8 ≤ 48) (f3 : x16 + x8 ≤ 48) (f5 : x18 = nodes_0) (f6 : x19 = edges_0) (f7 : 1 * x20 + ((-1) * x5 + 0) ≤ 0) (f8 : (-1) * x20 + (1 * x5 + 0) ≤ 0) (f9 : x10 + x8 ≤ 48) (f10 : x1 + x8 ≤ 48) (f12 : x12 = nodes_0) (f13 : x13 = edges_0) (f14 : 1 * x14 + ((-1) * x5 + 0) ≤ 0) (f15 : (-1) * x14 + (1 * x5 + 0) ≤ 0) (f16 : (0 ≤ x1) ∧ ((x1 + 1) ≤ edges_0)) (f17 : RH2n (a3_0) (a3_0) (a2_0) (x16) (x1) (x8) (x18) (x19) (x20)) (f19 : x23 + x8 ≤ 48) (f20 : x23 = x1 + x22) (f21 : x16 + x8 ≤ 48) (f22 : 1 * x20 + ((-1) * x5 + 0) ≤ 0) (f23 : (-1) * x20 + (1 * x5 + 0) ≤ 0) (f24 : x10 + x8 ≤ 48) (f25 : x1 + x8 ≤ 48) (f26 : 1 * x14 + ((-1) * x5 + 0) ≤ 0) (f27 : (-1) * x14 + (1 * x5 + 0) ≤ 0) (f29 : x16 + x8 ≤ 48) (f30 : 1 * x20 + ((-1) * x5 + 0) ≤ 0) (f31 : (-1) * x20 + (1 * x5 + 0) ≤ 0) (f32 : x16 = x1 + x15) (f33 : x10 + x8 ≤ 48) (f34 : x1 + x8 ≤ 48) (f35 : 1 * x14 + ((-1) * x5 + 0) ≤ 0) (f36 : (-1) * x14 + (1 * x5 + 0) ≤ 0) (f38 : x10 + x8 ≤ 48) (f39 : x1 + x8 ≤ 48) (f40 : 1 * x14 + ((-1) * x5 + 0) ≤ 0) (f41 : (-1) * x14 + (1 * x5 + 0) ≤ 0) (f42 : x10 = x1 + x9) (f43 : x8 = x6 - x7) (f44 : x6 = x4 - x1) (hK_2_999 : ∀ j : Int, 0 ≤ j → j < 48 → 0 ≤ a2_0 j ∧ a2_0 j ≤ 23) (hK_3_999 : ∀ j : Int, 0 ≤ j → j < 48 → 0 ≤ a3_0 j ∧ a3_0 j ≤ 23) (kz_0_0 : 0 ≤ nodes_0 ∧ nodes_0 ≤ 24) (kz_0_1 : 0 ≤ edges_0 ∧ edges_0 ≤ 48) : x26 + x8 ≤ 48 := by
  first
    | omega
  
def o_Gr_removeEdge_at_gn_4 : or_T := (70, 27, [(0, (2, 0, 0, [3])), (1, (0, 0, 47, [])), (2, (2, 0, 0, [52])), (3, (2, 0, 0, [53])), (4, (0, 1, 48, [])), (5, (0, 0, 23, [])), (6, (0, -46, 48, [])), (7, (0, 1, 1, [])), (8, (0, 0, 47, [])), (9, (0, 1, 1, [])), (10, (0, 1, 48, [])), (12, (0, 0, 24, [])), (13, (0, 0, 48, [])), (14, (0, 0, 23, [])), (15, (0, 1, 1, [])), (16, (0, 1, 48, [])), (18, (0, 0, 24, [])), (19, (0, 0, 48, [])), (20, (0, 0, 23, [])), (22, (0, 1, 1, [])), (23, (0, 1, 48, [])), (25, (0, 1, 1, [])), (26, (0, 1, 48, []))], [(9, [4, 0], [1]), (1, [26, 1, 25], []), (21, [23, 8], [48]), (21, [16, 8], [48]), (24, [2, 17], []), (20, [18, 0], [50, 1, 0, 1000, 1, 2, 1, 0, 2, 1, 0]), (20, [19, 0], [50, 1, 0, 1001, 1, 2, 1, 0, 2, 1, 1]), (23, [20, 5], [0, 1, -1]), (23, [20, 5], [0, -1, 1]), (21, [10, 8], [48]), (21, [1, 8], [48]), (20, [12, 0], [50, 1, 0, 1000, 1, 2, 1, 0, 2, 1, 0]), (20, [13, 0], [50, 1, 0, 1001, 1, 2, 1, 0, 2, 1, 1]), (23, [14, 5], [0, 1, -1]), (23, [14, 5], [0, -1, 1]), (20, [1, 0], [50, 1, 0, 1001, 2, 6, 0, 2, 0, 0, 1, 0, 0, 6, 4, 2, 1, 0, 0, 1, 2, 1, 1]), (20, [3, 3, 17, 16, 1, 8, 18, 19, 20], [61, 3, 756]), (102, [23], [18014398509481984]), (21, [23, 8], [48]), (1, [23, 1, 22], []), (21, [16, 8], [48]), (23, [20, 5], [0, 1, -1]), (23, [20, 5], [0, -1, 1]), (21, [10, 8], [48]), (21, [1, 8], [48]), (23, [14, 5], [0, 1, -1]), (23, [14, 5], [0, -1, 1]), (102, [20], [9007199254740992]), (21, [16, 8], [48]), (23, [20, 5], [0, 1, -1]), (23, [20, 5], [0, -1, 1]), (1, [16, 1, 15], []), (21, [10, 8], [48]), (21, [1, 8], [48]), (23, [14, 5], [0, 1, -1]), (23, [14, 5], [0, -1, 1]), (102, [14], [4503599627370496]), (21, [10, 8], [48]), (21, [1, 8], [48]), (23, [14, 5], [0, 1, -1]), (23, [14, 5], [0, -1, 1]), (1, [10, 1, 9], []), (2, [8, 6, 7], []), (2, [6, 4, 1], [])], [], [], [(21, [26, 8], [48])], [], [(26, 1, 1, 1), (23, 1, 1, 1), (16, 1, 1, 1), (10, 1, 1, 1), (8, 6, -1, -1), (8, 4, -48, -1), (6, 4, -47, 0)])
theorem oo_Gr_removeEdge_at_gn_4 {kA : Nat → ClassId} : or_ok PRD kA GG o_Gr_removeEdge_at_gn_4 := by
  refine or_mk fun A ta ws vs hD hth hl => ?_
  intro t0 r0 t1 k1 t2 r2 t3 r3 t4 k4 t5 k5 t6 k6 t7 k7 t8 k8 t9 k9 t10 k10 t12 k12 t13 k13 t14 k14 t15 k15 t16 k16 t18 k18 t19 k19 t20 k20 t22 k22 t23 k23 t25 k25 t26 k26 d0 d1 d2 d3 d4 d5 d6 f0 f1 f2 f3 f4 f5 f6 f7 f8 f9 f10 f12 f13 f14 f15 f16 f17 ta1 w1 le1 s1 f19 f20 f21 f22 f23 f24 f25 f26 f27 ta2 w2 le2 s2 f29 f30 f31 f32 f33 f34 f35 f36 ta3 w3 le3 s3 f38 f39 f40 f41 f42 f43 f44
  replace f0 := shm_215 f0
  replace f4 := shm_5 f4
  replace f17 := shm_863 f17
  have q17 : n_v vs 17 = n_v vs 2 := f4.symm
  simp only [q17] at f17
  have cr_2_999 : ta (v_ad (n_v vs 2)) = some 52 := r2
  have cr_3_999 : ta (v_ad (n_v vs 3)) = some 53 := r3
  have g0 : v_iv (n_v vs 4) = w_fi ws (n_v vs 0) 1 := congrArg v_iv f0
  have hK_2_999 := elq_11 hD hth cr_2_999
  have hK_3_999 := elq_12 hD hth cr_3_999
  have kz_0_0 := fdq_21 hD hth r0
  have kz_0_1 := fdq_30 hD hth r0
  have nf0 : fc_1 PRD (21, [26, 8], [48]) ws (vs) := ⟨nf_in hl rfl, sgq_858 (vc_Gr_removeEdge_at_gn_4_0 (v_iv (n_v vs 1)) (v_iv (n_v vs 4)) (v_iv (n_v vs 5)) (v_iv (n_v vs 6)) (v_iv (n_v vs 7)) (v_iv (n_v vs 8)) (v_iv (n_v vs 9)) (v_iv (n_v vs 10)) (v_iv (n_v vs 12)) (v_iv (n_v vs 13)) (v_iv (n_v vs 14)) (v_iv (n_v vs 15)) (v_iv (n_v vs 16)) (v_iv (n_v vs 18)) (v_iv (n_v vs 19)) (v_iv (n_v vs 20)) (v_iv (n_v vs 22)) (v_iv (n_v vs 23)) (v_iv (n_v vs 25)) (v_iv (n_v vs 26)) (w_fi ws (n_v vs 0) 1) (w_fi ws (n_v vs 0) 0) (w_ei ws (v_ad (n_v vs 3))) (w_ei ws (v_ad (n_v vs 2))) k1 k4 k5 k6 k7 k8 k9 k10 k12 k13 k14 k15 k16 k18 k19 k20 k22 k23 k25 k26 d0 d1 d2 d3 d4 d5 d6 g0 (shm_12 f1) (shm_858 f2) (shm_858 f3) (shm_836 f5) (shm_859 f6) (shm_7 f7) (shm_22 f8) (shm_858 f9) (shm_858 f10) (shm_836 f12) (shm_859 f13) (shm_7 f14) (shm_22 f15) (shm_387 f16) f17 (shm_858 f19) (shm_12 f20) (shm_858 f21) (shm_7 f22) (shm_22 f23) (shm_858 f24) (shm_858 f25) (shm_7 f26) (shm_22 f27) (shm_858 f29) (shm_7 f30) (shm_22 f31) (shm_12 f32) (shm_858 f33) (shm_858 f34) (shm_7 f35) (shm_22 f36) (shm_858 f38) (shm_858 f39) (shm_7 f40) (shm_22 f41) (shm_12 f42) (shm_14 f43) (shm_14 f44) hK_2_999 hK_3_999 kz_0_0 kz_0_1)⟩
  refine ⟨(fun _ h => (by cases h)), [], trivial, ?_, (fun _ h => (by cases h))⟩
  rw [List.append_nil]
  exact List.forall_mem_cons.mpr ⟨⟨show (21 : Nat) < 100 from by decide, nf0⟩, (fun _ h => (by cases h))⟩
set_option maxHeartbeats 4000000 in
theorem vc_Gr_removeEdge_at_gn_5_0 (x1 : Int) (x4 : Int) (x5 : Int) (x6 : Int) (x7 : Int) (x8 : Int) (x9 : Int) (x10 : Int) (x12 : Int) (x13 : Int) (x14 : Int) (x15 : Int) (x16 : Int) (x18 : Int) (x19 : Int) (x20 : Int) (x22 : Int) (x23 : Int) (x25 : Int) (x26 : Int) (x27 : Int) (x28 : Int) (edges_0 : Int) (nodes_0 : Int) (head_0 : Int → Int) (tail_0 : Int → Int) (edges_1 : Int) (nodes_1 : Int) (head_1 : Int → Int) (tail_1 : Int → Int) (k1 : 0 ≤ x1 ∧ x1 ≤ 47) (k4 : 1 ≤ x4 ∧ x4 ≤ 48) (k5 : 0 ≤ x5 ∧ x5 ≤ 23) (k6 : (-46) ≤ x6 ∧ x6 ≤ 48) (k7 : 1 ≤ x7 ∧ x7 ≤ 1) (k8 : 0 ≤ x8 ∧ x8 ≤ 47) (k9 : 1 ≤ x9 ∧ x9 ≤ 1) (k10 : 1 ≤ x10 ∧ x10 ≤ 48) (k12 : 0 ≤ x12 ∧ x12 ≤ 24) (k13 : 0 ≤ x13 ∧ x13 ≤ 48) (k14 : 0 ≤ x14 ∧ x14 ≤ 23) (k15 : 1 ≤ x15 ∧ x15 ≤ 1) (k16 : 1 ≤ x16 ∧ x16 ≤ 48) (k18 : 0 ≤ x18 ∧ x18 ≤ 24) (k19 : 0 ≤ x19 ∧ x19 ≤ 48) (k20 : 0 ≤ x20 ∧ x20 ≤ 23) (k22 : 1 ≤ x22 ∧ x22 ≤ 1) (k23 : 1 ≤ x23 ∧ x23 ≤ 48) (k25 : 1 ≤ x25 ∧ x25 ≤ 1) (k26 : 1 ≤ x26 ∧ x26 ≤ 48) (k27 : 1 ≤ x27 ∧ x27 ≤ 1) (k28 : 0 ≤ x28 ∧ x28 ≤ 47) (d0 : x4 + (-1) ≤ x28 ∧ x28 ≤ x4 + (-1)) (d1 : x1 + 1 ≤ x26 ∧ x26 ≤ x1 + 1) (d2 : x1 + 1 ≤ x23 ∧ x23 ≤ x1 + 1) (d3 : x1 + 1 ≤ x16 ∧ x16 ≤ x1 + 1) (d4 : x1 + 1 ≤ x10 ∧ x10 ≤ x1 + 1) (d5 : x6 + (-1) ≤ x8 ∧ x8 ≤ x6 + (-1)) (d6 : x4 + (-48) ≤ x8 ∧ x8 ≤ x4 + (-1)) (d7 : x4 + (-47) ≤ x6 ∧ x6 ≤ x4 + 0) (g0 : x28 = edges_0) (f3 : x26 + x8 ≤ 48) (f4 : x23 + x8 ≤ 48) (f5 : x16 + x8 ≤ 48) (f7 : x18 = nodes_0) (f8 : 1 * x20 + ((-1) * x5 + 0) ≤ 0) (f9 : (-1) * x20 + (1 * x5 + 0) ≤ 0) (f10 : x10 + x8 ≤ 48) (f11 : x1 + x8 ≤ 48) (f13 : x12 = nodes_0) (f14 : 1 * x14 + ((-1) * x5 + 0) ≤ 0) (f15 : (-1) * x14 + (1 * x5 + 0) ≤ 0) (f16 : RH2n (head_0) (head_0) (tail_0) (x16) (x1) (x8) (x18) (x19) (x20)) (f18 : x28 = x4 - x27) (g19 : x4 = edges_1) (f20 : x26 + x8 ≤ 48) (f21 : x23 + x8 ≤ 48) (f22 : x16 + x8 ≤ 48) (f23 : x18 = nodes_1) (f24 : x19 = edges_1) (f25 : 1 * x20 + ((-1) * x5 + 0) ≤ 0) (f26 : (-1) * x20 + (1 * x5 + 0) ≤ 0) (f27 : x10 + x8 ≤ 48) (f28 : x1 + x8 ≤ 48) (f29 : x12 = nodes_1) (f30 : x13 = edges_1) (f31 : 1 * x14 + ((-1) * x5 + 0) ≤ 0) (f32 : (-1) * x14 + (1 * x5 + 0) ≤ 0) (f33 : (0 ≤ x1) ∧ ((x1 + 1) ≤ edges_1)) (f34 : RH2n (head_1) (head_1) (tail_1) (x16) (x1) (x8) (x18) (x19) (x20)) (f36 : x26 + x8 ≤ 48) (f37 : x26 = x1 + x25) (f38 : x23 + x8 ≤ 48) (f39 : x16 + x8 ≤ 48) (f40 : 1 * x20 + ((-1) * x5 + 0) ≤ 0) (f41 : (-1) * x20 + (1 * x5 + 0) ≤ 0) (f42 : x10 + x8 ≤ 48) (f43 : x1 + x8 ≤ 48) (f44 : 1 * x14 + ((-1) * x5 + 0) ≤ 0) (f45 : (-1) * x14 + (1 * x5 + 0) ≤ 0) (f47 : x23 + x8 ≤ 48) (f48 : x23 = x1 + x22) (f49 : x16 + x8 ≤ 48) (f50 : 1 * x20 + ((-1) * x5 + 0) ≤ 0) (f51 : (-1) * x20 + (1 * x5 + 0) ≤ 0) (f52 : x10 + x8 ≤ 48) (f53 : x1 + x8 ≤ 48) (f54 : 1 * x14 + ((-1) * x5 + 0) ≤ 0) (f55 : (-1) * x14 + (1 * x5 + 0) ≤ 0) (f57 : x16 + x8 ≤ 48) (f58 : 1 * x20 + ((-1) * x5 + 0) ≤ 0) (f59 : (-1) * x20 + (1 * x5 + 0) ≤ 0) (f60 : x16 = x1 + x15) (f61 : x10 + x8 ≤ 48) (f62 : x1 + x8 ≤ 48) (f63 : 1 * x14 + ((-1) * x5 + 0) ≤ 0) (f64 : (-1) * x14 + (1 * x5 + 0) ≤ 0) (f66 : x10 + x8 ≤ 48) (f67 : x1 + x8 ≤ 48) (f68 : 1 * x14 + ((-1) * x5 + 0) ≤ 0) (f69 : (-1) * x14 + (1 * x5 + 0) ≤ 0) (f70 : x10 = x1 + x9) (f71 : x8 = x6 - x7) (f72 : x6 = x4 - x1) (fe_0_0_1 : nodes_0 = nodes_1) (fe_0_1_1 : edges_0 = x28) (hE_0_7_1 : ∀ j : Int, tail_0 j = tail_1 j) (hK_0_7 : ∀ j : Int, 0 ≤ j → j < 48 → 0 ≤ tail_0 j ∧ tail_0 j ≤ 23) (hE_0_8_1 : ∀ j : Int, head_0 j = head_1 j) (hK_0_8 : ∀ j : Int, 0 ≤ j → j < 48 → 0 ≤ head_0 j ∧ head_0 j ≤ 23) (kz_0_0 : 0 ≤ nodes_0 ∧ nodes_0 ≤ 24) (kz_0_1 : 0 ≤ edges_0 ∧ edges_0 ≤ 48) : GKE (nodes_0) (edges_0) (tail_0) (head_0) := by
  subst fe_0_0_1
  have e_hE_0_7_1 := funext hE_0_7_1; subst e_hE_0_7_1
  have e_hE_0_8_1 := funext hE_0_8_1; subst e_hE_0_8_1
  first
    | assumption
    | exact gke_rh ‹RH2n _ _ _ _ _ _ _ _ _› (by omega) (by omega)
    | exact gke_rh ‹RH2 _ _ _ _ _ _ _ _› (by omega) (by omega)
  
set_option maxHeartbeats 4000000 in
theorem vc_Gr_removeEdge_at_gn_5_1 (x1 : Int) (x4 : Int) (x5 : Int) (x6 : Int) (x7 : Int) (x8 : Int) (x9 : Int) (x10 : Int) (x12 : Int) (x13 : Int) (x14 : Int) (x15 : Int) (x16 : Int) (x18 : Int) (x19 : Int) (x20 : Int) (x22 : Int) (x23 : Int) (x25 : Int) (x26 : Int) (x27 : Int) (x28 : Int) (edges_0 : Int) (nodes_0 : Int) (head_0 : Int → Int) (tail_0 : Int → Int) (edges_1 : Int) (nodes_1 : Int) (head_1 : Int → Int) (tail_1 : Int → Int) (k1 : 0 ≤ x1 ∧ x1 ≤ 47) (k4 : 1 ≤ x4 ∧ x4 ≤ 48) (k5 : 0 ≤ x5 ∧ x5 ≤ 23) (k6 : (-46) ≤ x6 ∧ x6 ≤ 48) (k7 : 1 ≤ x7 ∧ x7 ≤ 1) (k8 : 0 ≤ x8 ∧ x8 ≤ 47) (k9 : 1 ≤ x9 ∧ x9 ≤ 1) (k10 : 1 ≤ x10 ∧ x10 ≤ 48) (k12 : 0 ≤ x12 ∧ x12 ≤ 24) (k13 : 0 ≤ x13 ∧ x13 ≤ 48) (k14 : 0 ≤ x14 ∧ x14 ≤ 23) (k15 : 1 ≤ x15 ∧ x15 ≤ 1) (k16 : 1 ≤ x16 ∧ x16 ≤ 48) (k18 : 0 ≤ x18 ∧ x18 ≤ 24) (k19 : 0 ≤ x19 ∧ x19 ≤ 48) (k20 : 0 ≤ x20 ∧ x20 ≤ 23) (k22 : 1 ≤ x22 ∧ x22 ≤ 1) (k23 : 1 ≤ x23 ∧ x23 ≤ 48) (k25 : 1 ≤ x25 ∧ x25 ≤ 1) (k26 : 1 ≤ x26 ∧ x26 ≤ 48) (k27 : 1 ≤ x27 ∧ x27 ≤ 1) (k28 : 0 ≤ x28 ∧ x28 ≤ 47) (d0 : x4 + (-1) ≤ x28 ∧ x28 ≤ x4 + (-1)) (d1 : x1 + 1 ≤ x26 ∧ x26 ≤ x1 + 1) (d2 : x1 + 1 ≤ x23 ∧ x23 ≤ x1 + 1) (d3 : x1 + 1 ≤ x16 ∧ x16 ≤ x1 + 1) (d4 : x1 + 1 ≤ x10 ∧ x10 ≤ x1 + 1) (d5 : x6 + (-1) ≤ x8 ∧ x8 ≤ x6 + (-1)) (d6 : x4 + (-48) ≤ x8 ∧ x8 ≤ x4 + (-1)) (d7 : x4 + (-47) ≤ x6 ∧ x6 ≤ x4 + 0) (g0 : x28 = edges_0) (f3 : x26 + x8 ≤ 48) (f4 : x23 + x8 ≤ 48) (f5 : x16 + x8 ≤ 48) (f7 : x18 = nodes_0) (f8 : 1 * x20 + ((-1) * x5 + 0) ≤ 0) (f9 : (-1) * x20 + (1 * x5 + 0) ≤ 0) (f10 : x10 + x8 ≤ 48) (f11 : x1 + x8 ≤ 48) (f13 : x12 = nodes_0) (f14 : 1 * x14 + ((-1) * x5 + 0) ≤ 0) (f15 : (-1) * x14 + (1 * x5 + 0) ≤ 0) (f16 : RH2n (head_0) (head_0) (tail_0) (x16) (x1) (x8) (x18) (x19) (x20)) (f18 : x28 = x4 - x27) (g19 : x4 = edges_1) (f20 : x26 + x8 ≤ 48) (f21 : x23 + x8 ≤ 48) (f22 : x16 + x8 ≤ 48) (f23 : x18 = nodes_1) (f24 : x19 = edges_1) (f25 : 1 * x20 + ((-1) * x5 + 0) ≤ 0) (f26 : (-1) * x20 + (1 * x5 + 0) ≤ 0) (f27 : x10 + x8 ≤ 48) (f28 : x1 + x8 ≤ 48) (f29 : x12 = nodes_1) (f30 : x13 = edges_1) (f31 : 1 * x14 + ((-1) * x5 + 0) ≤ 0) (f32 : (-1) * x14 + (1 * x5 + 0) ≤ 0) (f33 : (0 ≤ x1) ∧ ((x1 + 1) ≤ edges_1)) (f34 : RH2n (head_1) (head_1) (tail_1) (x16) (x1) (x8) (x18) (x19) (x20)) (f36 : x26 + x8 ≤ 48) (f37 : x26 = x1 + x25) (f38 : x23 + x8 ≤ 48) (f39 : x16 + x8 ≤ 48) (f40 : 1 * x20 + ((-1) * x5 + 0) ≤ 0) (f41 : (-1) * x20 + (1 * x5 + 0) ≤ 0) (f42 : x10 + x8 ≤ 48) (f43 : x1 + x8 ≤ 48) (f44 : 1 * x14 + ((-1) * x5 + 0) ≤ 0) (f45 : (-1) * x14 + (1 * x5 + 0) ≤ 0) (f47 : x23 + x8 ≤ 48) (f48 : x23 = x1 + x22) (f49 : x16 + x8 ≤ 48) (f50 : 1 * x20 + ((-1) * x5 + 0) ≤ 0) (f51 : (-1) * x20 + (1 * x5 + 0) ≤ 0) (f52 : x10 + x8 ≤ 48) (f53 : x1 + x8 ≤ 48) (f54 : 1 * x14 + ((-1) * x5 + 0) ≤ 0) (f55 : (-1) * x14 + (1 * x5 + 0) ≤ 0) (f57 : x16 + x8 ≤ 48) (f58 : 1 * x20 + ((-1) * x5 + 0) ≤ 0) (f59 : (-1) * x20 + (1 * x5 + 0) ≤ 0) (f60 : x16 = x1 + x15) (f61 : x10 + x8 ≤ 48) (f62 : x1 + x8 ≤ 48) (f63 : 1 * x14 + ((-1) * x5 + 0) ≤ 0) (f64 : (-1) * x14 + (1 * x5 + 0) ≤ 0) (f66 : x10 + x8 ≤ 48) (f67 : x1 + x8 ≤ 48) (f68 : 1 * x14 + ((-1) * x5 + 0) ≤ 0) (f69 : (-1) * x14 + (1 * x5 + 0) ≤ 0) (f70 : x10 = x1 + x9) (f71 : x8 = x6 - x7) (f72 : x6 = x4 - x1) (fe_0_0_1 : nodes_0 = nodes_1) (fe_0_1_1 : edges_0 = x28) (hE_0_7_1 : ∀ j : Int, tail_0 j = tail_1 j) (hK_0_7 : ∀ j : Int, 0 ≤ j → j < 48 → 0 ≤ tail_0 j ∧ tail_0 j ≤ 23) (hE_0_8_1 : ∀ j : Int, head_0 j = head_1 j) (hK_0_8 : ∀ j : Int, 0 ≤ j → j < 48 → 0 ≤ head_0 j ∧ head_0 j ≤ 23) (kz_0_0 : 0 ≤ nodes_0 ∧ nodes_0 ≤ 24) (kz_0_1 : 0 ≤ edges_0 ∧ edges_0 ≤ 48) : NOS (edges_0) (tail_0) (head_0) (x1) (x5) := by
  subst fe_0_0_1
  have e_hE_0_7_1 := funext hE_0_7_1; subst e_hE_0_7_1
  have e_hE_0_8_1 := funext hE_0_8_1; subst e_hE_0_8_1
  first
    | assumption
    | exact nos_rh ‹RH2n _ _ _ _ _ _ _ _ _› (by omega) (by omega) (by omega)
  
set_option maxHeartbeats 4000000 in
theorem vc_Gr_removeEdge_at_gn_5_2 (x1 : Int) (x4 : Int) (x5 : Int) (x6 : Int) (x7 : Int) (x8 : Int) (x9 : Int) (x10 : Int) (x12 : Int) (x13 : Int) (x14 : Int) (x15 : Int) (x16 : Int) (x18 : Int) (x19 : Int) (x20 : Int) (x22 : Int) (x23 : Int) (x25 : Int) (x26 : Int) (x27 : Int) (x28 : Int) (edges_0 : Int) (nodes_0 : Int) (head_0 : Int → Int) (tail_0 : Int → Int) (edges_1 : Int) (nodes_1 : Int) (head_1 : Int → Int) (tail_1 : Int → Int) (k1 : 0 ≤ x1 ∧ x1 ≤ 47) (k4 : 1 ≤ x4 ∧ x4 ≤ 48) (k5 : 0 ≤ x5 ∧ x5 ≤ 23) (k6 : (-46) ≤ x6 ∧ x6 ≤ 48) (k7 : 1 ≤ x7 ∧ x7 ≤ 1) (k8 : 0 ≤ x8 ∧ x8 ≤ 47) (k9 : 1 ≤ x9 ∧ x9 ≤ 1) (k10 : 1 ≤ x10 ∧ x10 ≤ 48) (k12 : 0 ≤ x12 ∧ x12 ≤ 24) (k13 : 0 ≤ x13 ∧ x13 ≤ 48) (k14 : 0 ≤ x14 ∧ x14 ≤ 23) (k15 : 1 ≤ x15 ∧ x15 ≤ 1) (k16 : 1 ≤ x16 ∧ x16 ≤ 48) (k18 : 0 ≤ x18 ∧ x18 ≤ 24) (k19 : 0 ≤ x19 ∧ x19 ≤ 48) (k20 : 0 ≤ x20 ∧ x20 ≤ 23) (k22 : 1 ≤ x22 ∧ x22 ≤ 1) (k23 : 1 ≤ x23 ∧ x23 ≤ 48) (k25 : 1 ≤ x25 ∧ x25 ≤ 1) (k26 : 1 ≤ x26 ∧ x26 ≤ 48) (k27 : 1 ≤ x27 ∧ x27 ≤ 1) (k28 : 0 ≤ x28 ∧ x28 ≤ 47) (d0 : x4 + (-1) ≤ x28 ∧ x28 ≤ x4 + (-1)) (d1 : x1 + 1 ≤ x26 ∧ x26 ≤ x1 + 1) (d2 : x1 + 1 ≤ x23 ∧ x23 ≤ x1 + 1) (d3 : x1 + 1 ≤ x16 ∧ x16 ≤ x1 + 1) (d4 : x1 + 1 ≤ x10 ∧ x10 ≤ x1 + 1) (d5 : x6 + (-1) ≤ x8 ∧ x8 ≤ x6 + (-1)) (d6 : x4 + (-48) ≤ x8 ∧ x8 ≤ x4 + (-1)) (d7 : x4 + (-47) ≤ x6 ∧ x6 ≤ x4 + 0) (g0 : x28 = edges_0) (f3 : x26 + x8 ≤ 48) (f4 : x23 + x8 ≤ 48) (f5 : x16 + x8 ≤ 48) (f7 : x18 = nodes_0) (f8 : 1 * x20 + ((-1) * x5 + 0) ≤ 0) (f9 : (-1) * x20 + (1 * x5 + 0) ≤ 0) (f10 : x10 + x8 ≤ 48) (f11 : x1 + x8 ≤ 48) (f13 : x12 = nodes_0) (f14 : 1 * x14 + ((-1) * x5 + 0) ≤ 0) (f15 : (-1) * x14 + (1 * x5 + 0) ≤ 0) (f16 : RH2n (head_0) (head_0) (tail_0) (x16) (x1) (x8) (x18) (x19) (x20)) (f18 : x28 = x4 - x27) (g19 : x4 = edges_1) (f20 : x26 + x8 ≤ 48) (f21 : x23 + x8 ≤ 48) (f22 : x16 + x8 ≤ 48) (f23 : x18 = nodes_1) (f24 : x19 = edges_1) (f25 : 1 * x20 + ((-1) * x5 + 0) ≤ 0) (f26 : (-1) * x20 + (1 * x5 + 0) ≤ 0) (f27 : x10 + x8 ≤ 48) (f28 : x1 + x8 ≤ 48) (f29 : x12 = nodes_1) (f30 : x13 = edges_1) (f31 : 1 * x14 + ((-1) * x5 + 0) ≤ 0) (f32 : (-1) * x14 + (1 * x5 + 0) ≤ 0) (f33 : (0 ≤ x1) ∧ ((x1 + 1) ≤ edges_1)) (f34 : RH2n (head_1) (head_1) (tail_1) (x16) (x1) (x8) (x18) (x19) (x20)) (f36 : x26 + x8 ≤ 48) (f37 : x26 = x1 + x25) (f38 : x23 + x8 ≤ 48) (f39 : x16 + x8 ≤ 48) (f40 : 1 * x20 + ((-1) * x5 + 0) ≤ 0) (f41 : (-1) * x20 + (1 * x5 + 0) ≤ 0) (f42 : x10 + x8 ≤ 48) (f43 : x1 + x8 ≤ 48) (f44 : 1 * x14 + ((-1) * x5 + 0) ≤ 0) (f45 : (-1) * x14 + (1 * x5 + 0) ≤ 0) (f47 : x23 + x8 ≤ 48) (f48 : x23 = x1 + x22) (f49 : x16 + x8 ≤ 48) (f50 : 1 * x20 + ((-1) * x5 + 0) ≤ 0) (f51 : (-1) * x20 + (1 * x5 + 0) ≤ 0) (f52 : x10 + x8 ≤ 48) (f53 : x1 + x8 ≤ 48) (f54 : 1 * x14 + ((-1) * x5 + 0) ≤ 0) (f55 : (-1) * x14 + (1 * x5 + 0) ≤ 0) (f57 : x16 + x8 ≤ 48) (f58 : 1 * x20 + ((-1) * x5 + 0) ≤ 0) (f59 : (-1) * x20 + (1 * x5 + 0) ≤ 0) (f60 : x16 = x1 + x15) (f61 : x10 + x8 ≤ 48) (f62 : x1 + x8 ≤ 48) (f63 : 1 * x14 + ((-1) * x5 + 0) ≤ 0) (f64 : (-1) * x14 + (1 * x5 + 0) ≤ 0) (f66 : x10 + x8 ≤ 48) (f67 : x1 + x8 ≤ 48) (f68 : 1 * x14 + ((-1) * x5 + 0) ≤ 0) (f69 : (-1) * x14 + (1 * x5 + 0) ≤ 0) (f70 : x10 = x1 + x9) (f71 : x8 = x6 - x7) (f72 : x6 = x4 - x1) (fe_0_0_1 : nodes_0 = nodes_1) (fe_0_1_1 : edges_0 = x28) (hE_0_7_1 : ∀ j : Int, tail_0 j = tail_1 j) (hK_0_7 : ∀ j : Int, 0 ≤ j → j < 48 → 0 ≤ tail_0 j ∧ tail_0 j ≤ 23) (hE_0_8_1 : ∀ j : Int, head_0 j = head_1 j) (hK_0_8 : ∀ j : Int, 0 ≤ j → j < 48 → 0 ≤ head_0 j ∧ head_0 j ≤ 23) (kz_0_0 : 0 ≤ nodes_0 ∧ nodes_0 ≤ 24) (kz_0_1 : 0 ≤ edges_0 ∧ edges_0 ≤ 48) : x1 ≤ edges_0 := by
  subst fe_0_0_1
  have e_hE_0_7_1 := funext hE_0_7_1; subst e_hE_0_7_1
  have e_hE_0_8_1 := funext hE_0_8_1; subst e_hE_0_8_1
  first
    | omega
  
def o_Gr_removeEdge_at_gn_5 : or_T := (83, 29, [(0, (2, 0, 0, [3])), (1, (0, 0, 47, [])), (4, (0, 1, 48, [])), (5, (0, 0, 23, [])), (6, (0, -46, 48, [])), (7, (0, 1, 1, [])), (8, (0, 0, 47, [])), (9, (0, 1, 1, [])), (10, (0, 1, 48, [])), (12, (0, 0, 24, [])), (13, (0, 0, 48, [])), (14, (0, 0, 23, [])), (15, (0, 1, 1, [])), (16, (0, 1, 48, [])), (18, (0, 0, 24, [])), (19, (0, 0, 48, [])), (20, (0, 0, 23, [])), (22, (0, 1, 1, [])), (23, (0, 1, 48, [])), (25, (0, 1, 1, [])), (26, (0, 1, 48, [])), (27, (0, 1, 1, [])), (28, (0, 0, 47, []))], [(9, [28, 0], [1]), (9, [2, 0], [7]), (9, [3, 0], [8]), (21, [26, 8], [48]), (21, [23, 8], [48]), (21, [16, 8], [48]), (24, [2, 17], []), (20, [18, 0], [50, 1, 0, 1000, 1, 2, 1, 0, 2, 1, 0]), (23, [20, 5], [0, 1, -1]), (23, [20, 5], [0, -1, 1]), (21, [10, 8], [48]), (21, [1, 8], [48]), (20, [12, 0], [50, 1, 0, 1000, 1, 2, 1, 0, 2, 1, 0]), (23, [14, 5], [0, 1, -1]), (23, [14, 5], [0, -1, 1]), (20, [3, 3, 17, 16, 1, 8, 18, 19, 20], [61, 3, 756]), (101, [0, 28], [1]), (2, [28, 4, 27], []), (9, [4, 0], [1]), (21, [26, 8], [48]), (21, [23, 8], [48]), (21, [16, 8], [48]), (20, [18, 0], [50, 1, 0, 1000, 1, 2, 1, 0, 2, 1, 0]), (20, [19, 0], [50, 1, 0, 1001, 1, 2, 1, 0, 2, 1, 1]), (23, [20, 5], [0, 1, -1]), (23, [20, 5], [0, -1, 1]), (21, [10, 8], [48]), (21, [1, 8], [48]), (20, [12, 0], [50, 1, 0, 1000, 1, 2, 1, 0, 2, 1, 0]), (20, [13, 0], [50, 1, 0, 1001, 1, 2, 1, 0, 2, 1, 1]), (23, [14, 5], [0, 1, -1]), (23, [14, 5], [0, -1, 1]), (20, [1, 0], [50, 1, 0, 1001, 2, 6, 0, 2, 0, 0, 1, 0, 0, 6, 4, 2, 1, 0, 0, 1, 2, 1, 1]), (20, [3, 3, 17, 16, 1, 8, 18, 19, 20], [61, 3, 756]), (102, [26], [36028797018963968]), (21, [26, 8], [48]), (1, [26, 1, 25], []), (21, [23, 8], [48]), (21, [16, 8], [48]), (23, [20, 5], [0, 1, -1]), (23, [20, 5], [0, -1, 1]), (21, [10, 8], [48]), (21, [1, 8], [48]), (23, [14, 5], [0, 1, -1]), (23, [14, 5], [0, -1, 1]), (102, [23], [18014398509481984]), (21, [23, 8], [48]), (1, [23, 1, 22], []), (21, [16, 8], [48]), (23, [20, 5], [0, 1, -1]), (23, [20, 5], [0, -1, 1]), (21, [10, 8], [48]), (21, [1, 8], [48]), (23, [14, 5], [0, 1, -1]), (23, [14, 5], [0, -1, 1]), (102, [20], [9007199254740992]), (21, [16, 8], [48]), (23, [20, 5], [0, 1, -1]), (23, [20, 5], [0, -1, 1]), (1, [16, 1, 15], []), (21, [10, 8], [48]), (21, [1, 8], [48]), (23, [14, 5], [0, 1, -1]), (23, [14, 5], [0, -1, 1]), (102, [14], [4503599627370496]), (21, [10, 8], [48]), (21, [1, 8], [48]), (23, [14, 5], [0, 1, -1]), (23, [14, 5], [0, -1, 1]), (1, [10, 1, 9], []), (2, [8, 6, 7], []), (2, [6, 4, 1], [])], [], [], [(20, [0], [60, 2, 2, 596, 0, 1, 7, 8]), (20, [0, 1, 5], [60, 1, 2, 758, 1, 7, 8]), (20, [1, 0], [50, 1, 0, 1001, 0, 2, 1, 0, 2, 1, 1])], [], [(28, 4, -1, -1), (26, 1, 1, 1), (23, 1, 1, 1), (16, 1, 1, 1), (10, 1, 1, 1), (8, 6, -1, -1), (8, 4, -48, -1), (6, 4, -47, 0)])
theorem oo_Gr_removeEdge_at_gn_5 {kA : Nat → ClassId} : or_ok PRD kA GG o_Gr_removeEdge_at_gn_5 := by
  refine or_mk fun A ta ws vs hD hth hl => ?_
  intro t0 r0 t1 k1 t4 k4 t5 k5 t6 k6 t7 k7 t8 k8 t9 k9 t10 k10 t12 k12 t13 k13 t14 k14 t15 k15 t16 k16 t18 k18 t19 k19 t20 k20 t22 k22 t23 k23 t25 k25 t26 k26 t27 k27 t28 k28 d0 d1 d2 d3 d4 d5 d6 d7 f0 f1 f2 f3 f4 f5 f6 f7 f8 f9 f10 f11 f13 f14 f15 f16 ta1 w1 le1 s1 f18 f19 f20 f21 f22 f23 f24 f25 f26 f27 f28 f29 f30 f31 f32 f33 f34 ta2 w2 le2 s2 f36 f37 f38 f39 f40 f41 f42 f43 f44 f45 ta3 w3 le3 s3 f47 f48 f49 f50 f51 f52 f53 f54 f55 ta4 w4 le4 s4 f57 f58 f59 f60 f61 f62 f63 f64 ta5 w5 le5 s5 f66 f67 f68 f69 f70 f71 f72
  replace f0 := shm_215 f0
  replace f1 := shm_198 f1
  replace f2 := shm_293 f2
  replace f6 := shm_5 f6
  replace f16 := shm_863 f16
  have s1 : (∀ b j, w_el ws b j = w_el w1 b j) ∧ ∀ b j, w_fd ws b j = if b = v_ad (n_v vs 0) ∧ j = 1 then n_v vs 28 else w_fd w1 b j := s1.2
  replace f19 := shm_215 f19
  replace f34 := shm_863 f34
  have q17 : n_v vs 17 = n_v vs 2 := f6.symm
  simp only [q17] at f16 f34
  have cr_0_7 := fdq_46 hD hth r0
  have cr_0_8 := fdq_47 hD hth r0
  have ad_2 : v_ad (n_v vs 2) = w_ar ws (n_v vs 0) 7 := congrArg v_ad f1
  have ad_3 : v_ad (n_v vs 3) = w_ar ws (n_v vs 0) 8 := congrArg v_ad f2
  have g0 : v_iv (n_v vs 28) = w_fi ws (n_v vs 0) 1 := congrArg v_iv f0
  simp only [ad_2, ad_3] at f16
  have g19 : v_iv (n_v vs 4) = w_fi w1 (n_v vs 0) 1 := congrArg v_iv f19
  simp only [ad_2, ad_3] at f34
  have fe_0_0_1 : w_fi ws (n_v vs 0) 0 = w_fi w1 (n_v vs 0) 0 := by show v_iv (w_fd _ _ _) = v_iv (w_fd _ _ _); rw [s1.2, if_neg (fun e => absurd e.2 (by decide))]
  have fe_0_1_1 : w_fi ws (n_v vs 0) 1 = v_iv (n_v vs 28) := by show v_iv (w_fd _ _ _) = _; rw [s1.2, if_pos ⟨rfl, rfl⟩]
  have hE_0_7_1 : ∀ j : Int, w_ei ws (w_ar ws (n_v vs 0) 7) j = w_ei w1 (w_ar ws (n_v vs 0) 7) j := fun j => s1.1 _ _
  have hK_0_7 := elq_11 hD hth cr_0_7
  have hE_0_8_1 : ∀ j : Int, w_ei ws (w_ar ws (n_v vs 0) 8) j = w_ei w1 (w_ar ws (n_v vs 0) 8) j := fun j => s1.1 _ _
  have hK_0_8 := elq_12 hD hth cr_0_8
  have kz_0_0 := fdq_21 hD hth r0
  have kz_0_1 := fdq_30 hD hth r0
  have nf0 : fc_1 PRD (20, [0], [60, 2, 2, 596, 0, 1, 7, 8]) ws (vs) := ⟨nf_in hl rfl, sgq_386 (vc_Gr_removeEdge_at_gn_5_0 (v_iv (n_v vs 1)) (v_iv (n_v vs 4)) (v_iv (n_v vs 5)) (v_iv (n_v vs 6)) (v_iv (n_v vs 7)) (v_iv (n_v vs 8)) (v_iv (n_v vs 9)) (v_iv (n_v vs 10)) (v_iv (n_v vs 12)) (v_iv (n_v vs 13)) (v_iv (n_v vs 14)) (v_iv (n_v vs 15)) (v_iv (n_v vs 16)) (v_iv (n_v vs 18)) (v_iv (n_v vs 19)) (v_iv (n_v vs 20)) (v_iv (n_v vs 22)) (v_iv (n_v vs 23)) (v_iv (n_v vs 25)) (v_iv (n_v vs 26)) (v_iv (n_v vs 27)) (v_iv (n_v vs 28)) (w_fi ws (n_v vs 0) 1) (w_fi ws (n_v vs 0) 0) (w_ei ws (w_ar ws (n_v vs 0) 8)) (w_ei ws (w_ar ws (n_v vs 0) 7)) (w_fi w1 (n_v vs 0) 1) (w_fi w1 (n_v vs 0) 0) (w_ei w1 (w_ar ws (n_v vs 0) 8)) (w_ei w1 (w_ar ws (n_v vs 0) 7)) k1 k4 k5 k6 k7 k8 k9 k10 k12 k13 k14 k15 k16 k18 k19 k20 k22 k23 k25 k26 k27 k28 d0 d1 d2 d3 d4 d5 d6 d7 g0 (shm_858 f3) (shm_858 f4) (shm_858 f5) (shm_836 f7) (shm_7 f8) (shm_22 f9) (shm_858 f10) (shm_858 f11) (shm_836 f13) (shm_7 f14) (shm_22 f15) f16 (shm_14 f18) g19 (shm_858 f20) (shm_858 f21) (shm_858 f22) (shm_836 f23) (shm_859 f24) (shm_7 f25) (shm_22 f26) (shm_858 f27) (shm_858 f28) (shm_836 f29) (shm_859 f30) (shm_7 f31) (shm_22 f32) (shm_387 f33) f34 (shm_858 f36) (shm_12 f37) (shm_858 f38) (shm_858 f39) (shm_7 f40) (shm_22 f41) (shm_858 f42) (shm_858 f43) (shm_7 f44) (shm_22 f45) (shm_858 f47) (shm_12 f48) (shm_858 f49) (shm_7 f50) (shm_22 f51) (shm_858 f52) (shm_858 f53) (shm_7 f54) (shm_22 f55) (shm_858 f57) (shm_7 f58) (shm_22 f59) (shm_12 f60) (shm_858 f61) (shm_858 f62) (shm_7 f63) (shm_22 f64) (shm_858 f66) (shm_858 f67) (shm_7 f68) (shm_22 f69) (shm_12 f70) (shm_14 f71) (shm_14 f72) fe_0_0_1 fe_0_1_1 hE_0_7_1 hK_0_7 hE_0_8_1 hK_0_8 kz_0_0 kz_0_1)⟩
  have nf1 : fc_1 PRD (20, [0, 1, 5], [60, 1, 2, 758, 1, 7, 8]) ws (vs) := ⟨nf_in hl rfl, sgq_864 (vc_Gr_removeEdge_at_gn_5_1 (v_iv (n_v vs 1)) (v_iv (n_v vs 4)) (v_iv (n_v vs 5)) (v_iv (n_v vs 6)) (v_iv (n_v vs 7)) (v_iv (n_v vs 8)) (v_iv (n_v vs 9)) (v_iv (n_v vs 10)) (v_iv (n_v vs 12)) (v_iv (n_v vs 13)) (v_iv (n_v vs 14)) (v_iv (n_v vs 15)) (v_iv (n_v vs 16)) (v_iv (n_v vs 18)) (v_iv (n_v vs 19)) (v_iv (n_v vs 20)) (v_iv (n_v vs 22)) (v_iv (n_v vs 23)) (v_iv (n_v vs 25)) (v_iv (n_v vs 26)) (v_iv (n_v vs 27)) (v_iv (n_v vs 28)) (w_fi ws (n_v vs 0) 1) (w_fi ws (n_v vs 0) 0) (w_ei ws (w_ar ws (n_v vs 0) 8)) (w_ei ws (w_ar ws (n_v vs 0) 7)) (w_fi w1 (n_v vs 0) 1) (w_fi w1 (n_v vs 0) 0) (w_ei w1 (w_ar ws (n_v vs 0) 8)) (w_ei w1 (w_ar ws (n_v vs 0) 7)) k1 k4 k5 k6 k7 k8 k9 k10 k12 k13 k14 k15 k16 k18 k19 k20 k22 k23 k25 k26 k27 k28 d0 d1 d2 d3 d4 d5 d6 d7 g0 (shm_858 f3) (shm_858 f4) (shm_858 f5) (shm_836 f7) (shm_7 f8) (shm_22 f9) (shm_858 f10) (shm_858 f11) (shm_836 f13) (shm_7 f14) (shm_22 f15) f16 (shm_14 f18) g19 (shm_858 f20) (shm_858 f21) (shm_858 f22) (shm_836 f23) (shm_859 f24) (shm_7 f25) (shm_22 f26) (shm_858 f27) (shm_858 f28) (shm_836 f29) (shm_859 f30) (shm_7 f31) (shm_22 f32) (shm_387 f33) f34 (shm_858 f36) (shm_12 f37) (shm_858 f38) (shm_858 f39) (shm_7 f40) (shm_22 f41) (shm_858 f42) (shm_858 f43) (shm_7 f44) (shm_22 f45) (shm_858 f47) (shm_12 f48) (shm_858 f49) (shm_7 f50) (shm_22 f51) (shm_858 f52) (shm_858 f53) (shm_7 f54) (shm_22 f55) (shm_858 f57) (shm_7 f58) (shm_22 f59) (shm_12 f60) (shm_858 f61) (shm_858 f62) (shm_7 f63) (shm_22 f64) (shm_858 f66) (shm_858 f67) (shm_7 f68) (shm_22 f69) (shm_12 f70) (shm_14 f71) (shm_14 f72) fe_0_0_1 fe_0_1_1 hE_0_7_1 hK_0_7 hE_0_8_1 hK_0_8 kz_0_0 kz_0_1)⟩
  have nf2 : fc_1 PRD (20, [1, 0], [50, 1, 0, 1001, 0, 2, 1, 0, 2, 1, 1]) ws (vs) := ⟨nf_in hl rfl, sgq_483 (vc_Gr_removeEdge_at_gn_5_2 (v_iv (n_v vs 1)) (v_iv (n_v vs 4)) (v_iv (n_v vs 5)) (v_iv (n_v vs 6)) (v_iv (n_v vs 7)) (v_iv (n_v vs 8)) (v_iv (n_v vs 9)) (v_iv (n_v vs 10)) (v_iv (n_v vs 12)) (v_iv (n_v vs 13)) (v_iv (n_v vs 14)) (v_iv (n_v vs 15)) (v_iv (n_v vs 16)) (v_iv (n_v vs 18)) (v_iv (n_v vs 19)) (v_iv (n_v vs 20)) (v_iv (n_v vs 22)) (v_iv (n_v vs 23)) (v_iv (n_v vs 25)) (v_iv (n_v vs 26)) (v_iv (n_v vs 27)) (v_iv (n_v vs 28)) (w_fi ws (n_v vs 0) 1) (w_fi ws (n_v vs 0) 0) (w_ei ws (w_ar ws (n_v vs 0) 8)) (w_ei ws (w_ar ws (n_v vs 0) 7)) (w_fi w1 (n_v vs 0) 1) (w_fi w1 (n_v vs 0) 0) (w_ei w1 (w_ar ws (n_v vs 0) 8)) (w_ei w1 (w_ar ws (n_v vs 0) 7)) k1 k4 k5 k6 k7 k8 k9 k10 k12 k13 k14 k15 k16 k18 k19 k20 k22 k23 k25 k26 k27 k28 d0 d1 d2 d3 d4 d5 d6 d7 g0 (shm_858 f3) (shm_858 f4) (shm_858 f5) (shm_836 f7) (shm_7 f8) (shm_22 f9) (shm_858 f10) (shm_858 f11) (shm_836 f13) (shm_7 f14) (shm_22 f15) f16 (shm_14 f18) g19 (shm_858 f20) (shm_858 f21) (shm_858 f22) (shm_836 f23) (shm_859 f24) (shm_7 f25) (shm_22 f26) (shm_858 f27) (shm_858 f28) (shm_836 f29) (shm_859 f30) (shm_7 f31) (shm_22 f32) (shm_387 f33) f34 (shm_858 f36) (shm_12 f37) (shm_858 f38) (shm_858 f39) (shm_7 f40) (shm_22 f41) (shm_858 f42) (shm_858 f43) (shm_7 f44) (shm_22 f45) (shm_858 f47) (shm_12 f48) (shm_858 f49) (shm_7 f50) (shm_22 f51) (shm_858 f52) (shm_858 f53) (shm_7 f54) (shm_22 f55) (shm_858 f57) (shm_7 f58) (shm_22 f59) (shm_12 f60) (shm_858 f61) (shm_858 f62) (shm_7 f63) (shm_22 f64) (shm_858 f66) (shm_858 f67) (shm_7 f68) (shm_22 f69) (shm_12 f70) (shm_14 f71) (shm_14 f72) fe_0_0_1 fe_0_1_1 hE_0_7_1 hK_0_7 hE_0_8_1 hK_0_8 kz_0_0 kz_0_1)⟩
  refine ⟨(fun _ h => (by cases h)), [], trivial, ?_, (fun _ h => (by cases h))⟩
  rw [List.append_nil]
  exact List.forall_mem_cons.mpr ⟨⟨show (20 : Nat) < 100 from by decide, nf0⟩, List.forall_mem_cons.mpr ⟨⟨show (20 : Nat) < 100 from by decide, nf1⟩, List.forall_mem_cons.mpr ⟨⟨show (20 : Nat) < 100 from by decide, nf2⟩, (fun _ h => (by cases h))⟩⟩⟩
def n_Gr_removeEdge_at_gn_an : List an_T := []
def t_Gr_removeEdge_at_gn_ct : ct_L := [(69, 77, e_acp_2), (117, 77, e_acp_3), (165, 77, e_acp_4), (213, 77, e_acp_5)]
set_option maxRecDepth 100000 in
theorem c_Gr_removeEdge_at_gn {l : Launch} {D : va_G} {kA : Nat → ClassId} : ct_ok PRD l D kA GG y_Gr_removeEdge_at_gn z_Gr_removeEdge_at_gn e_Gr_removeEdge_at_gn := chk_all_ok (FT := [(15, 3, 1), (35, 3, 7), (38, 3, 8), (41, 3, 9), (44, 3, 10)]) (PT := [(15, 3, 1, .int)]) (CT := t_Gr_removeEdge_at_gn_ct) (KT := []) (NT := []) (AN := n_Gr_removeEdge_at_gn_an) (OT := [o_Gr_removeEdge_at_gn_0, o_Gr_removeEdge_at_gn_1, o_Gr_removeEdge_at_gn_2, o_Gr_removeEdge_at_gn_3, o_Gr_removeEdge_at_gn_4, o_Gr_removeEdge_at_gn_5]) 0 216 (List.forall_mem_cons.mpr ⟨oo_Gr_removeEdge_at_gn_0, List.forall_mem_cons.mpr ⟨oo_Gr_removeEdge_at_gn_1, List.forall_mem_cons.mpr ⟨oo_Gr_removeEdge_at_gn_2, List.forall_mem_cons.mpr ⟨oo_Gr_removeEdge_at_gn_3, List.forall_mem_cons.mpr ⟨oo_Gr_removeEdge_at_gn_4, List.forall_mem_cons.mpr ⟨oo_Gr_removeEdge_at_gn_5, List.forall_mem_nil _⟩⟩⟩⟩⟩⟩) (by decide +kernel) ⟨List.forall_mem_cons.mpr ⟨gf_Gr_15, List.forall_mem_cons.mpr ⟨gf_Gr_35, List.forall_mem_cons.mpr ⟨gf_Gr_38, List.forall_mem_cons.mpr ⟨gf_Gr_41, List.forall_mem_cons.mpr ⟨gf_Gr_44, List.forall_mem_nil _⟩⟩⟩⟩⟩, List.forall_mem_cons.mpr ⟨pf_Gr_15, List.forall_mem_nil _⟩, List.forall_mem_cons.mpr ⟨cl_copyU (na := 3) rfl rfl (by decide) (Or.inl (by decide)) (fun U U_zq xs sp dp n a b c d e f e1 e2 e3 h => rt1n_rt2n (U := U) (U_zq := U_zq) (xs := xs) (sp := sp) (dp := dp) (n := n) a b c d e f e1 e2 e3 h) wm_748 wm_750 wm_749 wm_15, List.forall_mem_cons.mpr ⟨cl_copyU (na := 3) rfl rfl (by decide) (Or.inl (by decide)) (fun U U_zq xs sp dp n a b c d e f e1 e2 e3 h => rh1n_rh2n (U := U) (U_zq := U_zq) (xs := xs) (sp := sp) (dp := dp) (n := n) a b c d e f e1 e2 e3 h) wm_748 wm_750 wm_749 wm_15, List.forall_mem_cons.mpr ⟨cl_copy rfl rfl (by decide) (by decide) (by decide) wm_748 wm_750 wm_749 wm_15, List.forall_mem_cons.mpr ⟨cl_copy rfl rfl (by decide) (by decide) (by decide) wm_748 wm_750 wm_749 wm_15, List.forall_mem_nil _⟩⟩⟩⟩, List.forall_mem_nil _, List.forall_mem_nil _, GG_pl⟩ (by decide +kernel)

set_option maxHeartbeats 4000000 in
theorem vc_Gr_removeEdge_at_gx_0_r0 (x1 : Int) (x4 : Int) (x5 : Int) (x6 : Int) (x7 : Int) (edges_0 : Int) (tail_0 : Int → Int) (head_0 : Int → Int) (nodes_0 : Int) (k1 : 0 ≤ x1 ∧ x1 ≤ 47) (k4 : 1 ≤ x4 ∧ x4 ≤ 48) (k5 : (-46) ≤ x5 ∧ x5 ≤ 48) (k6 : 1 ≤ x6 ∧ x6 ≤ 1) (k7 : (-47) ≤ x7 ∧ x7 ≤ 47) (d0 : x5 + (-1) ≤ x7 ∧ x7 ≤ x5 + (-1)) (d1 : x4 + (-48) ≤ x7 ∧ x7 ≤ x4 + (-1)) (d2 : x4 + (-47) ≤ x5 ∧ x5 ≤ x4 + 0) (f2 : x7 = x5 - x6) (f3 : x5 = x4 - x1) (g4 : x4 = edges_0) (f5 : (0 ≤ x1) ∧ ((x1 + 1) ≤ edges_0)) (f6 : GKE (nodes_0) (edges_0) (tail_0) (head_0)) (hK_0_7 : ∀ j : Int, 0 ≤ j → j < 48 → 0 ≤ tail_0 j ∧ tail_0 j ≤ 23) (hK_0_8 : ∀ j : Int, 0 ≤ j → j < 48 → 0 ≤ head_0 j ∧ head_0 j ≤ 23) (kz_0_0 : 0 ≤ nodes_0 ∧ nodes_0 ≤ 24) (kz_0_1 : 0 ≤ edges_0 ∧ edges_0 ≤ 48) : 0 ≤ x7 ∧ x7 ≤ 47 := by
  first
    | omega
  
def o_Gr_removeEdge_at_gx_0 : or_T := (8, 8, [(0, (2, 0, 0, [3])), (1, (0, 0, 47, [])), (2, (2, 0, 0, [52])), (3, (2, 0, 0, [53])), (4, (0, 1, 48, [])), (5, (0, -46, 48, [])), (6, (0, 1, 1, [])), (7, (0, -47, 47, []))], [(9, [2, 0], [7]), (9, [3, 0], [8]), (2, [7, 5, 6], []), (2, [5, 4, 1], []), (9, [4, 0], [1]), (20, [1, 0], [50, 1, 0, 1001, 2, 6, 0, 2, 0, 0, 1, 0, 0, 6, 4, 2, 1, 0, 0, 1, 2, 1, 1]), (20, [0], [60, 2, 2, 596, 0, 1, 7, 8])], [(7, (0, 0, 47, []))], [], [], [], [(7, 5, -1, -1), (7, 4, -48, -1), (5, 4, -47, 0)])
theorem oo_Gr_removeEdge_at_gx_0 {kA : Nat → ClassId} : or_ok PRD kA GG o_Gr_removeEdge_at_gx_0 := by
  refine or_mk fun A ta ws vs hD hth hl => ?_
  intro t0 r0 t1 k1 t2 r2 t3 r3 t4 k4 t5 k5 t6 k6 t7 k7 d0 d1 d2 f0 f1 f2 f3 f4 f5 f6
  replace f4 := shm_215 f4
  have cr_0_7 := fdq_46 hD hth r0
  have cr_0_8 := fdq_47 hD hth r0
  have g4 : v_iv (n_v vs 4) = w_fi ws (n_v vs 0) 1 := congrArg v_iv f4
  have hK_0_7 := elq_11 hD hth cr_0_7
  have hK_0_8 := elq_12 hD hth cr_0_8
  have kz_0_0 := fdq_21 hD hth r0
  have kz_0_1 := fdq_30 hD hth r0
  have hrf0 : 0 ≤ v_iv (n_v vs 7) ∧ v_iv (n_v vs 7) ≤ 47 := vc_Gr_removeEdge_at_gx_0_r0 (v_iv (n_v vs 1)) (v_iv (n_v vs 4)) (v_iv (n_v vs 5)) (v_iv (n_v vs 6)) (v_iv (n_v vs 7)) (w_fi ws (n_v vs 0) 1) (w_ei ws (w_ar ws (n_v vs 0) 7)) (w_ei ws (w_ar ws (n_v vs 0) 8)) (w_fi ws (n_v vs 0) 0) k1 k4 k5 k6 k7 d0 d1 d2 (shm_14 f2) (shm_14 f3) g4 (shm_387 f5) (shm_386 f6) hK_0_7 hK_0_8 kz_0_0 kz_0_1
  have rf7 : tv_ok ta (0, 0, 47, []) (n_v vs 7) := tv_in t7 (by first | omega | grind) (by first | omega | grind)
  refine ⟨List.forall_mem_cons.mpr ⟨rf7, (fun _ h => (by cases h))⟩, [], trivial, ?_, (fun _ h => (by cases h))⟩
  rw [List.append_nil]
  exact (fun _ h => (by cases h))
set_option maxHeartbeats 4000000 in
theorem vc_Gr_removeEdge_at_gx_1_0 (x1 : Int) (x4 : Int) (x5 : Int) (x6 : Int) (x7 : Int) (x8 : Int) (x9 : Int) (edges_0 : Int) (tail_0 : Int → Int) (head_0 : Int → Int) (nodes_0 : Int) (gy : Int) (gu : Int) (k1 : 0 ≤ x1 ∧ x1 ≤ 47) (k4 : 1 ≤ x4 ∧ x4 ≤ 48) (k5 : (-46) ≤ x5 ∧ x5 ≤ 48) (k6 : 1 ≤ x6 ∧ x6 ≤ 1) (k7 : 0 ≤ x7 ∧ x7 ≤ 47) (k8 : 1 ≤ x8 ∧ x8 ≤ 1) (k9 : 1 ≤ x9 ∧ x9 ≤ 48) (d0 : x1 + 1 ≤ x9 ∧ x9 ≤ x1 + 1) (d1 : x5 + (-1) ≤ x7 ∧ x7 ≤ x5 + (-1)) (d2 : x4 + (-48) ≤ x7 ∧ x7 ≤ x4 + (-1)) (d3 : x4 + (-47) ≤ x5 ∧ x5 ≤ x4 + 0) (f2 : x9 = x1 + x8) (f3 : x7 = x5 - x6) (f4 : x5 = x4 - x1) (g5 : x4 = edges_0) (f6 : (0 ≤ x1) ∧ ((x1 + 1) ≤ edges_0)) (f7 : GKE (nodes_0) (edges_0) (tail_0) (head_0)) (hK_0_7 : ∀ j : Int, 0 ≤ j → j < 48 → 0 ≤ tail_0 j ∧ tail_0 j ≤ 23) (hK_0_8 : ∀ j : Int, 0 ≤ j → j < 48 → 0 ≤ head_0 j ∧ head_0 j ≤ 23) (kz_0_0 : 0 ≤ nodes_0 ∧ nodes_0 ≤ 24) (kz_0_1 : 0 ≤ edges_0 ∧ edges_0 ≤ 48) (ey2 : gy = nodes_0) (ey3 : 0 ≤ gy ∧ gy ≤ 24) (eu2 : gu = edges_0) (eu3 : 0 ≤ gu ∧ gu ≤ 48) : x9 + x7 ≤ 48 := by
  first
    | omega
  
set_option maxHeartbeats 4000000 in
theorem vc_Gr_removeEdge_at_gx_1_1 (x1 : Int) (x4 : Int) (x5 : Int) (x6 : Int) (x7 : Int) (x8 : Int) (x9 : Int) (edges_0 : Int) (tail_0 : Int → Int) (head_0 : Int → Int) (nodes_0 : Int) (gy : Int) (gu : Int) (k1 : 0 ≤ x1 ∧ x1 ≤ 47) (k4 : 1 ≤ x4 ∧ x4 ≤ 48) (k5 : (-46) ≤ x5 ∧ x5 ≤ 48) (k6 : 1 ≤ x6 ∧ x6 ≤ 1) (k7 : 0 ≤ x7 ∧ x7 ≤ 47) (k8 : 1 ≤ x8 ∧ x8 ≤ 1) (k9 : 1 ≤ x9 ∧ x9 ≤ 48) (d0 : x1 + 1 ≤ x9 ∧ x9 ≤ x1 + 1) (d1 : x5 + (-1) ≤ x7 ∧ x7 ≤ x5 + (-1)) (d2 : x4 + (-48) ≤ x7 ∧ x7 ≤ x4 + (-1)) (d3 : x4 + (-47) ≤ x5 ∧ x5 ≤ x4 + 0) (f2 : x9 = x1 + x8) (f3 : x7 = x5 - x6) (f4 : x5 = x4 - x1) (g5 : x4 = edges_0) (f6 : (0 ≤ x1) ∧ ((x1 + 1) ≤ edges_0)) (f7 : GKE (nodes_0) (edges_0) (tail_0) (head_0)) (hK_0_7 : ∀ j : Int, 0 ≤ j → j < 48 → 0 ≤ tail_0 j ∧ tail_0 j ≤ 23) (hK_0_8 : ∀ j : Int, 0 ≤ j → j < 48 → 0 ≤ head_0 j ∧ head_0 j ≤ 23) (kz_0_0 : 0 ≤ nodes_0 ∧ nodes_0 ≤ 24) (kz_0_1 : 0 ≤ edges_0 ∧ edges_0 ≤ 48) (ey2 : gy = nodes_0) (ey3 : 0 ≤ gy ∧ gy ≤ 24) (eu2 : gu = edges_0) (eu3 : 0 ≤ gu ∧ gu ≤ 48) : x1 + x7 ≤ 48 := by
  first
    | omega
  
set_option maxHeartbeats 4000000 in
theorem vc_Gr_removeEdge_at_gx_1_3 (x1 : Int) (x4 : Int) (x5 : Int) (x6 : Int) (x7 : Int) (x8 : Int) (x9 : Int) (edges_0 : Int) (tail_0 : Int → Int) (head_0 : Int → Int) (nodes_0 : Int) (gy : Int) (gu : Int) (k1 : 0 ≤ x1 ∧ x1 ≤ 47) (k4 : 1 ≤ x4 ∧ x4 ≤ 48) (k5 : (-46) ≤ x5 ∧ x5 ≤ 48) (k6 : 1 ≤ x6 ∧ x6 ≤ 1) (k7 : 0 ≤ x7 ∧ x7 ≤ 47) (k8 : 1 ≤ x8 ∧ x8 ≤ 1) (k9 : 1 ≤ x9 ∧ x9 ≤ 48) (d0 : x1 + 1 ≤ x9 ∧ x9 ≤ x1 + 1) (d1 : x5 + (-1) ≤ x7 ∧ x7 ≤ x5 + (-1)) (d2 : x4 + (-48) ≤ x7 ∧ x7 ≤ x4 + (-1)) (d3 : x4 + (-47) ≤ x5 ∧ x5 ≤ x4 + 0) (f2 : x9 = x1 + x8) (f3 : x7 = x5 - x6) (f4 : x5 = x4 - x1) (g5 : x4 = edges_0) (f6 : (0 ≤ x1) ∧ ((x1 + 1) ≤ edges_0)) (f7 : GKE (nodes_0) (edges_0) (tail_0) (head_0)) (hK_0_7 : ∀ j : Int, 0 ≤ j → j < 48 → 0 ≤ tail_0 j ∧ tail_0 j ≤ 23) (hK_0_8 : ∀ j : Int, 0 ≤ j → j < 48 → 0 ≤ head_0 j ∧ head_0 j ≤ 23) (kz_0_0 : 0 ≤ nodes_0 ∧ nodes_0 ≤ 24) (kz_0_1 : 0 ≤ edges_0 ∧ edges_0 ≤ 48) (ey2 : gy = nodes_0) (ey3 : 0 ≤ gy ∧ gy ≤ 24) (eu2 : gu = edges_0) (eu3 : 0 ≤ gu ∧ gu ≤ 48) : gy = nodes_0 := by
  first
    | omega
  
set_option maxHeartbeats 4000000 in
theorem vc_Gr_removeEdge_at_gx_1_4 (x1 : Int) (x4 : Int) (x5 : Int) (x6 : Int) (x7 : Int) (x8 : Int) (x9 : Int) (edges_0 : Int) (tail_0 : Int → Int) (head_0 : Int → Int) (nodes_0 : Int) (gy : Int) (gu : Int) (k1 : 0 ≤ x1 ∧ x1 ≤ 47) (k4 : 1 ≤ x4 ∧ x4 ≤ 48) (k5 : (-46) ≤ x5 ∧ x5 ≤ 48) (k6 : 1 ≤ x6 ∧ x6 ≤ 1) (k7 : 0 ≤ x7 ∧ x7 ≤ 47) (k8 : 1 ≤ x8 ∧ x8 ≤ 1) (k9 : 1 ≤ x9 ∧ x9 ≤ 48) (d0 : x1 + 1 ≤ x9 ∧ x9 ≤ x1 + 1) (d1 : x5 + (-1) ≤ x7 ∧ x7 ≤ x5 + (-1)) (d2 : x4 + (-48) ≤ x7 ∧ x7 ≤ x4 + (-1)) (d3 : x4 + (-47) ≤ x5 ∧ x5 ≤ x4 + 0) (f2 : x9 = x1 + x8) (f3 : x7 = x5 - x6) (f4 : x5 = x4 - x1) (g5 : x4 = edges_0) (f6 : (0 ≤ x1) ∧ ((x1 + 1) ≤ edges_0)) (f7 : GKE (nodes_0) (edges_0) (tail_0) (head_0)) (hK_0_7 : ∀ j : Int, 0 ≤ j → j < 48 → 0 ≤ tail_0 j ∧ tail_0 j ≤ 23) (hK_0_8 : ∀ j : Int, 0 ≤ j → j < 48 → 0 ≤ head_0 j ∧ head_0 j ≤ 23) (kz_0_0 : 0 ≤ nodes_0 ∧ nodes_0 ≤ 24) (kz_0_1 : 0 ≤ edges_0 ∧ edges_0 ≤ 48) (ey2 : gy = nodes_0) (ey3 : 0 ≤ gy ∧ gy ≤ 24) (eu2 : gu = edges_0) (eu3 : 0 ≤ gu ∧ gu ≤ 48) : gu = edges_0 := by
  first
    | omega
  
set_option maxHeartbeats 4000000 in
theorem vc_Gr_removeEdge_at_gx_1_5 (x1 : Int) (x4 : Int) (x5 : Int) (x6 : Int) (x7 : Int) (x8 : Int) (x9 : Int) (edges_0 : Int) (tail_0 : Int → Int) (head_0 : Int → Int) (nodes_0 : Int) (gy : Int) (gu : Int) (k1 : 0 ≤ x1 ∧ x1 ≤ 47) (k4 : 1 ≤ x4 ∧ x4 ≤ 48) (k5 : (-46) ≤ x5 ∧ x5 ≤ 48) (k6 : 1 ≤ x6 ∧ x6 ≤ 1) (k7 : 0 ≤ x7 ∧ x7 ≤ 47) (k8 : 1 ≤ x8 ∧ x8 ≤ 1) (k9 : 1 ≤ x9 ∧ x9 ≤ 48) (d0 : x1 + 1 ≤ x9 ∧ x9 ≤ x1 + 1) (d1 : x5 + (-1) ≤ x7 ∧ x7 ≤ x5 + (-1)) (d2 : x4 + (-48) ≤ x7 ∧ x7 ≤ x4 + (-1)) (d3 : x4 + (-47) ≤ x5 ∧ x5 ≤ x4 + 0) (f2 : x9 = x1 + x8) (f3 : x7 = x5 - x6) (f4 : x5 = x4 - x1) (g5 : x4 = edges_0) (f6 : (0 ≤ x1) ∧ ((x1 + 1) ≤ edges_0)) (f7 : GKE (nodes_0) (edges_0) (tail_0) (head_0)) (hK_0_7 : ∀ j : Int, 0 ≤ j → j < 48 → 0 ≤ tail_0 j ∧ tail_0 j ≤ 23) (hK_0_8 : ∀ j : Int, 0 ≤ j → j < 48 → 0 ≤ head_0 j ∧ head_0 j ≤ 23) (kz_0_0 : 0 ≤ nodes_0 ∧ nodes_0 ≤ 24) (kz_0_1 : 0 ≤ edges_0 ∧ edges_0 ≤ 48) (ey2 : gy = nodes_0) (ey3 : 0 ≤ gy ∧ gy ≤ 24) (eu2 : gu = edges_0) (eu3 : 0 ≤ gu ∧ gu ≤ 48) : RT1 (tail_0) (tail_0) (head_0) (x9) (x1) (x7) (gy) (gu) := by
  first
    | exact rt1_of ‹GKE _ _ _ _› (by omega) (by omega) (by omega) (by omega) (by omega) (by omega)
  
def o_Gr_removeEdge_at_gx_1 : or_T := (22, 10, [(0, (2, 0, 0, [3])), (1, (0, 0, 47, [])), (3, (2, 0, 0, [53])), (4, (0, 1, 48, [])), (5, (0, -46, 48, [])), (6, (0, 1, 1, [])), (7, (0, 0, 47, [])), (8, (0, 1, 1, [])), (9, (0, 1, 48, []))], [(9, [3, 0], [8]), (9, [2, 0], [7]), (1, [9, 1, 8], []), (2, [7, 5, 6], []), (2, [5, 4, 1], []), (9, [4, 0], [1]), (20, [1, 0], [50, 1, 0, 1001, 2, 6, 0, 2, 0, 0, 1, 0, 0, 6, 4, 2, 1, 0, 0, 1, 2, 1, 1]), (20, [0], [60, 2, 2, 596, 0, 1, 7, 8])], [], [(2, 0, 0, [53]), (0, 0, 24, []), (0, 0, 48, [])], [(21, [9, 7], [48]), (21, [1, 7], [48]), (24, [3, 10], []), (20, [11, 0], [50, 1, 0, 1000, 1, 2, 1, 0, 2, 1, 0]), (20, [12, 0], [50, 1, 0, 1001, 1, 2, 1, 0, 2, 1, 1]), (20, [2, 2, 10, 9, 1, 7, 11, 12], [61, 3, 749])], [], [(9, 1, 1, 1), (7, 5, -1, -1), (7, 4, -48, -1), (5, 4, -47, 0)])
theorem oo_Gr_removeEdge_at_gx_1 {kA : Nat → ClassId} : or_ok PRD kA GG o_Gr_removeEdge_at_gx_1 := by
  refine or_mk fun A ta ws vs hD hth hl => ?_
  intro t0 r0 t1 k1 t3 r3 t4 k4 t5 k5 t6 k6 t7 k7 t8 k8 t9 k9 d0 d1 d2 d3 f0 f1 f2 f3 f4 f5 f6 f7
  replace f0 := shm_293 f0
  replace f1 := shm_198 f1
  replace f2 := shm_12 f2
  replace f3 := shm_14 f3
  replace f4 := shm_14 f4
  replace f5 := shm_215 f5
  replace f6 := shm_387 f6
  replace f7 := shm_386 f7
  have cr_0_7 := fdq_46 hD hth r0
  have cr_0_8 := fdq_47 hD hth r0
  have ad_3 : v_ad (n_v vs 3) = w_ar ws (n_v vs 0) 8 := congrArg v_ad f0
  have ad_2 : v_ad (n_v vs 2) = w_ar ws (n_v vs 0) 7 := congrArg v_ad f1
  have g5 : v_iv (n_v vs 4) = w_fi ws (n_v vs 0) 1 := congrArg v_iv f5
  have hK_0_7 := elq_11 hD hth cr_0_7
  have hK_0_8 := elq_12 hD hth cr_0_8
  have kz_0_0 := fdq_21 hD hth r0
  have kz_0_1 := fdq_30 hD hth r0
  obtain ⟨y, ey, hy⟩ := iv_ex (ta := ta) (lo := 0) (hi := 24) (z := w_fi ws (n_v vs 0) 0) (by omega) (by omega) (by omega) (by omega)
  have ey2 : v_iv (Value.int y) = w_fi ws (n_v vs 0) 0 := ey
  have ey3 : 0 ≤ v_iv (Value.int y) ∧ v_iv (Value.int y) ≤ 24 := tv_rng hy
  obtain ⟨u, eu, hu⟩ := iv_ex (ta := ta) (lo := 0) (hi := 48) (z := w_fi ws (n_v vs 0) 1) (by omega) (by omega) (by omega) (by omega)
  have eu2 : v_iv (Value.int u) = w_fi ws (n_v vs 0) 1 := eu
  have eu3 : 0 ≤ v_iv (Value.int u) ∧ v_iv (Value.int u) ≤ 48 := tv_rng hu
  have e_0 : n_v (vs ++ [n_v vs 3, Value.int y, Value.int u]) 0 = n_v vs 0 := n_v_old (by rw [hl]; decide)
  have e_1 : n_v (vs ++ [n_v vs 3, Value.int y, Value.int u]) 1 = n_v vs 1 := n_v_old (by rw [hl]; decide)
  have e_2 : n_v (vs ++ [n_v vs 3, Value.int y, Value.int u]) 2 = n_v vs 2 := n_v_old (by rw [hl]; decide)
  have e_3 : n_v (vs ++ [n_v vs 3, Value.int y, Value.int u]) 3 = n_v vs 3 := n_v_old (by rw [hl]; decide)
  have e_7 : n_v (vs ++ [n_v vs 3, Value.int y, Value.int u]) 7 = n_v vs 7 := n_v_old (by rw [hl]; decide)
  have e_9 : n_v (vs ++ [n_v vs 3, Value.int y, Value.int u]) 9 = n_v vs 9 := n_v_old (by rw [hl]; decide)
  have e_10 : n_v (vs ++ [n_v vs 3, Value.int y, Value.int u]) 10 = n_v vs 3 := n_v_newk (k := 0) hl rfl
  have e_11 : n_v (vs ++ [n_v vs 3, Value.int y, Value.int u]) 11 = Value.int y := n_v_newk (k := 1) hl rfl
  have e_12 : n_v (vs ++ [n_v vs 3, Value.int y, Value.int u]) 12 = Value.int u := n_v_newk (k := 2) hl rfl
  have nf0 : fc_1 PRD (21, [9, 7], [48]) ws (vs ++ [n_v vs 3, Value.int y, Value.int u]) := by
    refine ⟨nf_inA hl rfl, sgq_858 ?_⟩
    · show v_iv (n_v (vs ++ [n_v vs 3, Value.int y, Value.int u]) 9) + v_iv (n_v (vs ++ [n_v vs 3, Value.int y, Value.int u]) 7) ≤ 48
      simp only [e_7, e_9]
      exact vc_Gr_removeEdge_at_gx_1_0 (v_iv (n_v vs 1)) (v_iv (n_v vs 4)) (v_iv (n_v vs 5)) (v_iv (n_v vs 6)) (v_iv (n_v vs 7)) (v_iv (n_v vs 8)) (v_iv (n_v vs 9)) (w_fi ws (n_v vs 0) 1) (w_ei ws (w_ar ws (n_v vs 0) 7)) (w_ei ws (w_ar ws (n_v vs 0) 8)) (w_fi ws (n_v vs 0) 0) (v_iv (Value.int y)) (v_iv (Value.int u)) k1 k4 k5 k6 k7 k8 k9 d0 d1 d2 d3 f2 f3 f4 g5 f6 f7 hK_0_7 hK_0_8 kz_0_0 kz_0_1 ey2 ey3 eu2 eu3
  have nf1 : fc_1 PRD (21, [1, 7], [48]) ws (vs ++ [n_v vs 3, Value.int y, Value.int u]) := by
    refine ⟨nf_inA hl rfl, sgq_858 ?_⟩
    · show v_iv (n_v (vs ++ [n_v vs 3, Value.int y, Value.int u]) 1) + v_iv (n_v (vs ++ [n_v vs 3, Value.int y, Value.int u]) 7) ≤ 48
      simp only [e_1, e_7]
      exact vc_Gr_removeEdge_at_gx_1_1 (v_iv (n_v vs 1)) (v_iv (n_v vs 4)) (v_iv (n_v vs 5)) (v_iv (n_v vs 6)) (v_iv (n_v vs 7)) (v_iv (n_v vs 8)) (v_iv (n_v vs 9)) (w_fi ws (n_v vs 0) 1) (w_ei ws (w_ar ws (n_v vs 0) 7)) (w_ei ws (w_ar ws (n_v vs 0) 8)) (w_fi ws (n_v vs 0) 0) (v_iv (Value.int y)) (v_iv (Value.int u)) k1 k4 k5 k6 k7 k8 k9 d0 d1 d2 d3 f2 f3 f4 g5 f6 f7 hK_0_7 hK_0_8 kz_0_0 kz_0_1 ey2 ey3 eu2 eu3
  have nf2 : fc_1 PRD (24, [3, 10], []) ws (vs ++ [n_v vs 3, Value.int y, Value.int u]) := by
    refine ⟨nf_inA hl rfl, sgq_5 ?_⟩
    · show n_v (vs ++ [n_v vs 3, Value.int y, Value.int u]) 3 = n_v (vs ++ [n_v vs 3, Value.int y, Value.int u]) 10
      first | rfl | simp only [e_3, e_10]
  have nf3 : fc_1 PRD (20, [11, 0], [50, 1, 0, 1000, 1, 2, 1, 0, 2, 1, 0]) ws (vs ++ [n_v vs 3, Value.int y, Value.int u]) := by
    refine ⟨nf_inA hl rfl, sgq_836 ?_⟩
    · show v_iv (n_v (vs ++ [n_v vs 3, Value.int y, Value.int u]) 11) = w_fi ws (n_v (vs ++ [n_v vs 3, Value.int y, Value.int u]) 0) 0
      simp only [e_0, e_11]
      exact vc_Gr_removeEdge_at_gx_1_3 (v_iv (n_v vs 1)) (v_iv (n_v vs 4)) (v_iv (n_v vs 5)) (v_iv (n_v vs 6)) (v_iv (n_v vs 7)) (v_iv (n_v vs 8)) (v_iv (n_v vs 9)) (w_fi ws (n_v vs 0) 1) (w_ei ws (w_ar ws (n_v vs 0) 7)) (w_ei ws (w_ar ws (n_v vs 0) 8)) (w_fi ws (n_v vs 0) 0) (v_iv (Value.int y)) (v_iv (Value.int u)) k1 k4 k5 k6 k7 k8 k9 d0 d1 d2 d3 f2 f3 f4 g5 f6 f7 hK_0_7 hK_0_8 kz_0_0 kz_0_1 ey2 ey3 eu2 eu3
  have nf4 : fc_1 PRD (20, [12, 0], [50, 1, 0, 1001, 1, 2, 1, 0, 2, 1, 1]) ws (vs ++ [n_v vs 3, Value.int y, Value.int u]) := by
    refine ⟨nf_inA hl rfl, sgq_859 ?_⟩
    · show v_iv (n_v (vs ++ [n_v vs 3, Value.int y, Value.int u]) 12) = w_fi ws (n_v (vs ++ [n_v vs 3, Value.int y, Value.int u]) 0) 1
      simp only [e_0, e_12]
      exact vc_Gr_removeEdge_at_gx_1_4 (v_iv (n_v vs 1)) (v_iv (n_v vs 4)) (v_iv (n_v vs 5)) (v_iv (n_v vs 6)) (v_iv (n_v vs 7)) (v_iv (n_v vs 8)) (v_iv (n_v vs 9)) (w_fi ws (n_v vs 0) 1) (w_ei ws (w_ar ws (n_v vs 0) 7)) (w_ei ws (w_ar ws (n_v vs 0) 8)) (w_fi ws (n_v vs 0) 0) (v_iv (Value.int y)) (v_iv (Value.int u)) k1 k4 k5 k6 k7 k8 k9 d0 d1 d2 d3 f2 f3 f4 g5 f6 f7 hK_0_7 hK_0_8 kz_0_0 kz_0_1 ey2 ey3 eu2 eu3
  have nf5 : fc_1 PRD (20, [2, 2, 10, 9, 1, 7, 11, 12], [61, 3, 749]) ws (vs ++ [n_v vs 3, Value.int y, Value.int u]) := by
    refine ⟨nf_inA hl rfl, sgq_865 ?_⟩
    · show RT1 (w_ei ws (v_ad (n_v (vs ++ [n_v vs 3, Value.int y, Value.int u]) 2))) (w_ei ws (v_ad (n_v (vs ++ [n_v vs 3, Value.int y, Value.int u]) 2))) (w_ei ws (v_ad (n_v (vs ++ [n_v vs 3, Value.int y, Value.int u]) 10))) (v_iv (n_v (vs ++ [n_v vs 3, Value.int y, Value.int u]) 9)) (v_iv (n_v (vs ++ [n_v vs 3, Value.int y, Value.int u]) 1)) (v_iv (n_v (vs ++ [n_v vs 3, Value.int y, Value.int u]) 7)) (v_iv (n_v (vs ++ [n_v vs 3, Value.int y, Value.int u]) 11)) (v_iv (n_v (vs ++ [n_v vs 3, Value.int y, Value.int u]) 12))
      simp only [e_1, e_2, e_7, e_9, e_10, e_11, e_12, ad_2, ad_3]
      exact vc_Gr_removeEdge_at_gx_1_5 (v_iv (n_v vs 1)) (v_iv (n_v vs 4)) (v_iv (n_v vs 5)) (v_iv (n_v vs 6)) (v_iv (n_v vs 7)) (v_iv (n_v vs 8)) (v_iv (n_v vs 9)) (w_fi ws (n_v vs 0) 1) (w_ei ws (w_ar ws (n_v vs 0) 7)) (w_ei ws (w_ar ws (n_v vs 0) 8)) (w_fi ws (n_v vs 0) 0) (v_iv (Value.int y)) (v_iv (Value.int u)) k1 k4 k5 k6 k7 k8 k9 d0 d1 d2 d3 f2 f3 f4 g5 f6 f7 hK_0_7 hK_0_8 kz_0_0 kz_0_1 ey2 ey3 eu2 eu3
  exact ⟨(fun _ h => (by cases h)), [n_v vs 3, Value.int y, Value.int u], ag_three t3 hy hu, List.forall_mem_cons.mpr ⟨⟨show (21 : Nat) < 100 from by decide, nf0⟩, List.forall_mem_cons.mpr ⟨⟨show (21 : Nat) < 100 from by decide, nf1⟩, List.forall_mem_cons.mpr ⟨⟨show (24 : Nat) < 100 from by decide, nf2⟩, List.forall_mem_cons.mpr ⟨⟨show (20 : Nat) < 100 from by decide, nf3⟩, List.forall_mem_cons.mpr ⟨⟨show (20 : Nat) < 100 from by decide, nf4⟩, List.forall_mem_cons.mpr ⟨⟨show (20 : Nat) < 100 from by decide, nf5⟩, (fun _ h => (by cases h))⟩⟩⟩⟩⟩⟩, (fun _ h => (by cases h))⟩
set_option maxHeartbeats 4000000 in
theorem vc_Gr_removeEdge_at_gx_2_0 (x1 : Int) (x4 : Int) (x5 : Int) (x6 : Int) (x7 : Int) (x8 : Int) (x9 : Int) (x11 : Int) (x12 : Int) (x13 : Int) (x14 : Int) (edges_0 : Int) (nodes_0 : Int) (a2_0 : Int → Int) (a3_0 : Int → Int) (gy : Int) (gu : Int) (k1 : 0 ≤ x1 ∧ x1 ≤ 47) (k4 : 1 ≤ x4 ∧ x4 ≤ 48) (k5 : (-46) ≤ x5 ∧ x5 ≤ 48) (k6 : 1 ≤ x6 ∧ x6 ≤ 1) (k7 : 0 ≤ x7 ∧ x7 ≤ 47) (k8 : 1 ≤ x8 ∧ x8 ≤ 1) (k9 : 1 ≤ x9 ∧ x9 ≤ 48) (k11 : 0 ≤ x11 ∧ x11 ≤ 24) (k12 : 0 ≤ x12 ∧ x12 ≤ 48) (k13 : 1 ≤ x13 ∧ x13 ≤ 1) (k14 : 1 ≤ x14 ∧ x14 ≤ 48) (d0 : x1 + 1 ≤ x14 ∧ x14 ≤ x1 + 1) (d1 : x1 + 1 ≤ x9 ∧ x9 ≤ x1 + 1) (d2 : x5 + (-1) ≤ x7 ∧ x7 ≤ x5 + (-1)) (d3 : x4 + (-48) ≤ x7 ∧ x7 ≤ x4 + (-1)) (d4 : x4 + (-47) ≤ x5 ∧ x5 ≤ x4 + 0) (g0 : x4 = edges_0) (f1 : x14 = x1 + x13) (f2 : x9 + x7 ≤ 48) (f3 : x1 + x7 ≤ 48) (f5 : x11 = nodes_0) (f6 : x12 = edges_0) (f7 : (0 ≤ x1) ∧ ((x1 + 1) ≤ edges_0)) (f8 : RT2 (a2_0) (a2_0) (a3_0) (x9) (x1) (x7) (x11) (x12)) (f10 : x9 + x7 ≤ 48) (f11 : x1 + x7 ≤ 48) (f12 : x9 = x1 + x8) (f13 : x7 = x5 - x6) (f14 : x5 = x4 - x1) (hK_2_999 : ∀ j : Int, 0 ≤ j → j < 48 → 0 ≤ a2_0 j ∧ a2_0 j ≤ 23) (hK_3_999 : ∀ j : Int, 0 ≤ j → j < 48 → 0 ≤ a3_0 j ∧ a3_0 j ≤ 23) (kz_0_0 : 0 ≤ nodes_0 ∧ nodes_0 ≤ 24) (kz_0_1 : 0 ≤ edges_0 ∧ edges_0 ≤ 48) (ey2 : gy = nodes_0) (ey3 : 0 ≤ gy ∧ gy ≤ 24) (eu2 : gu = edges_0) (eu3 : 0 ≤ gu ∧ gu ≤ 48) : x14 + x7 ≤ 48 := by
  first
    | omega
  
set_option maxHeartbeats 4000000 in
theorem vc_Gr_removeEdge_at_gx_2_2 (x1 : Int) (x4 : Int) (x5 : Int) (x6 : Int) (x7 : Int) (x8 : Int) (x9 : Int) (x11 : Int) (x12 : Int) (x13 : Int) (x14 : Int) (edges_0 : Int) (nodes_0 : Int) (a2_0 : Int → Int) (a3_0 : Int → Int) (gy : Int) (gu : Int) (k1 : 0 ≤ x1 ∧ x1 ≤ 47) (k4 : 1 ≤ x4 ∧ x4 ≤ 48) (k5 : (-46) ≤ x5 ∧ x5 ≤ 48) (k6 : 1 ≤ x6 ∧ x6 ≤ 1) (k7 : 0 ≤ x7 ∧ x7 ≤ 47) (k8 : 1 ≤ x8 ∧ x8 ≤ 1) (k9 : 1 ≤ x9 ∧ x9 ≤ 48) (k11 : 0 ≤ x11 ∧ x11 ≤ 24) (k12 : 0 ≤ x12 ∧ x12 ≤ 48) (k13 : 1 ≤ x13 ∧ x13 ≤ 1) (k14 : 1 ≤ x14 ∧ x14 ≤ 48) (d0 : x1 + 1 ≤ x14 ∧ x14 ≤ x1 + 1) (d1 : x1 + 1 ≤ x9 ∧ x9 ≤ x1 + 1) (d2 : x5 + (-1) ≤ x7 ∧ x7 ≤ x5 + (-1)) (d3 : x4 + (-48) ≤ x7 ∧ x7 ≤ x4 + (-1)) (d4 : x4 + (-47) ≤ x5 ∧ x5 ≤ x4 + 0) (g0 : x4 = edges_0) (f1 : x14 = x1 + x13) (f2 : x9 + x7 ≤ 48) (f3 : x1 + x7 ≤ 48) (f5 : x11 = nodes_0) (f6 : x12 = edges_0) (f7 : (0 ≤ x1) ∧ ((x1 + 1) ≤ edges_0)) (f8 : RT2 (a2_0) (a2_0) (a3_0) (x9) (x1) (x7) (x11) (x12)) (f10 : x9 + x7 ≤ 48) (f11 : x1 + x7 ≤ 48) (f12 : x9 = x1 + x8) (f13 : x7 = x5 - x6) (f14 : x5 = x4 - x1) (hK_2_999 : ∀ j : Int, 0 ≤ j → j < 48 → 0 ≤ a2_0 j ∧ a2_0 j ≤ 23) (hK_3_999 : ∀ j : Int, 0 ≤ j → j < 48 → 0 ≤ a3_0 j ∧ a3_0 j ≤ 23) (kz_0_0 : 0 ≤ nodes_0 ∧ nodes_0 ≤ 24) (kz_0_1 : 0 ≤ edges_0 ∧ edges_0 ≤ 48) (ey2 : gy = nodes_0) (ey3 : 0 ≤ gy ∧ gy ≤ 24) (eu2 : gu = edges_0) (eu3 : 0 ≤ gu ∧ gu ≤ 48) : gy = nodes_0 := by
  first
    | omega
  
set_option maxHeartbeats 4000000 in
theorem vc_Gr_removeEdge_at_gx_2_3 (x1 : Int) (x4 : Int) (x5 : Int) (x6 : Int) (x7 : Int) (x8 : Int) (x9 : Int) (x11 : Int) (x12 : Int) (x13 : Int) (x14 : Int) (edges_0 : Int) (nodes_0 : Int) (a2_0 : Int → Int) (a3_0 : Int → Int) (gy : Int) (gu : Int) (k1 : 0 ≤ x1 ∧ x1 ≤ 47) (k4 : 1 ≤ x4 ∧ x4 ≤ 48) (k5 : (-46) ≤ x5 ∧ x5 ≤ 48) (k6 : 1 ≤ x6 ∧ x6 ≤ 1) (k7 : 0 ≤ x7 ∧ x7 ≤ 47) (k8 : 1 ≤ x8 ∧ x8 ≤ 1) (k9 : 1 ≤ x9 ∧ x9 ≤ 48) (k11 : 0 ≤ x11 ∧ x11 ≤ 24) (k12 : 0 ≤ x12 ∧ x12 ≤ 48) (k13 : 1 ≤ x13 ∧ x13 ≤ 1) (k14 : 1 ≤ x14 ∧ x14 ≤ 48) (d0 : x1 + 1 ≤ x14 ∧ x14 ≤ x1 + 1) (d1 : x1 + 1 ≤ x9 ∧ x9 ≤ x1 + 1) (d2 : x5 + (-1) ≤ x7 ∧ x7 ≤ x5 + (-1)) (d3 : x4 + (-48) ≤ x7 ∧ x7 ≤ x4 + (-1)) (d4 : x4 + (-47) ≤ x5 ∧ x5 ≤ x4 + 0) (g0 : x4 = edges_0) (f1 : x14 = x1 + x13) (f2 : x9 + x7 ≤ 48) (f3 : x1 + x7 ≤ 48) (f5 : x11 = nodes_0) (f6 : x12 = edges_0) (f7 : (0 ≤ x1) ∧ ((x1 + 1) ≤ edges_0)) (f8 : RT2 (a2_0) (a2_0) (a3_0) (x9) (x1) (x7) (x11) (x12)) (f10 : x9 + x7 ≤ 48) (f11 : x1 + x7 ≤ 48) (f12 : x9 = x1 + x8) (f13 : x7 = x5 - x6) (f14 : x5 = x4 - x1) (hK_2_999 : ∀ j : Int, 0 ≤ j → j < 48 → 0 ≤ a2_0 j ∧ a2_0 j ≤ 23) (hK_3_999 : ∀ j : Int, 0 ≤ j → j < 48 → 0 ≤ a3_0 j ∧ a3_0 j ≤ 23) (kz_0_0 : 0 ≤ nodes_0 ∧ nodes_0 ≤ 24) (kz_0_1 : 0 ≤ edges_0 ∧ edges_0 ≤ 48) (ey2 : gy = nodes_0) (ey3 : 0 ≤ gy ∧ gy ≤ 24) (eu2 : gu = edges_0) (eu3 : 0 ≤ gu ∧ gu ≤ 48) : gu = edges_0 := by
  first
    | omega
  
set_option maxHeartbeats 4000000 in
theorem vc_Gr_removeEdge_at_gx_2_4 (x1 : Int) (x4 : Int) (x5 : Int) (x6 : Int) (x7 : Int) (x8 : Int) (x9 : Int) (x11 : Int) (x12 : Int) (x13 : Int) (x14 : Int) (edges_0 : Int) (nodes_0 : Int) (a2_0 : Int → Int) (a3_0 : Int → Int) (gy : Int) (gu : Int) (k1 : 0 ≤ x1 ∧ x1 ≤ 47) (k4 : 1 ≤ x4 ∧ x4 ≤ 48) (k5 : (-46) ≤ x5 ∧ x5 ≤ 48) (k6 : 1 ≤ x6 ∧ x6 ≤ 1) (k7 : 0 ≤ x7 ∧ x7 ≤ 47) (k8 : 1 ≤ x8 ∧ x8 ≤ 1) (k9 : 1 ≤ x9 ∧ x9 ≤ 48) (k11 : 0 ≤ x11 ∧ x11 ≤ 24) (k12 : 0 ≤ x12 ∧ x12 ≤ 48) (k13 : 1 ≤ x13 ∧ x13 ≤ 1) (k14 : 1 ≤ x14 ∧ x14 ≤ 48) (d0 : x1 + 1 ≤ x14 ∧ x14 ≤ x1 + 1) (d1 : x1 + 1 ≤ x9 ∧ x9 ≤ x1 + 1) (d2 : x5 + (-1) ≤ x7 ∧ x7 ≤ x5 + (-1)) (d3 : x4 + (-48) ≤ x7 ∧ x7 ≤ x4 + (-1)) (d4 : x4 + (-47) ≤ x5 ∧ x5 ≤ x4 + 0) (g0 : x4 = edges_0) (f1 : x14 = x1 + x13) (f2 : x9 + x7 ≤ 48) (f3 : x1 + x7 ≤ 48) (f5 : x11 = nodes_0) (f6 : x12 = edges_0) (f7 : (0 ≤ x1) ∧ ((x1 + 1) ≤ edges_0)) (f8 : RT2 (a2_0) (a2_0) (a3_0) (x9) (x1) (x7) (x11) (x12)) (f10 : x9 + x7 ≤ 48) (f11 : x1 + x7 ≤ 48) (f12 : x9 = x1 + x8) (f13 : x7 = x5 - x6) (f14 : x5 = x4 - x1) (hK_2_999 : ∀ j : Int, 0 ≤ j → j < 48 → 0 ≤ a2_0 j ∧ a2_0 j ≤ 23) (hK_3_999 : ∀ j : Int, 0 ≤ j → j < 48 → 0 ≤ a3_0 j ∧ a3_0 j ≤ 23) (kz_0_0 : 0 ≤ nodes_0 ∧ nodes_0 ≤ 24) (kz_0_1 : 0 ≤ edges_0 ∧ edges_0 ≤ 48) (ey2 : gy = nodes_0) (ey3 : 0 ≤ gy ∧ gy ≤ 24) (eu2 : gu = edges_0) (eu3 : 0 ≤ gu ∧ gu ≤ 48) : RH1 (a3_0) (a3_0) (a2_0) (x14) (x1) (x7) (gy) (gu) := by
  first
    | exact rh1_of ‹RT2 _ _ _ _ _ _ _ _› (by omega) (by omega) (by omega) (by omega) (by omega)
  
def o_Gr_removeEdge_at_gx_2 : or_T := (38, 15, [(0, (2, 0, 0, [3])), (1, (0, 0, 47, [])), (2, (2, 0, 0, [52])), (3, (2, 0, 0, [53])), (4, (0, 1, 48, [])), (5, (0, -46, 48, [])), (6, (0, 1, 1, [])), (7, (0, 0, 47, [])), (8, (0, 1, 1, [])), (9, (0, 1, 48, [])), (11, (0, 0, 24, [])), (12, (0, 0, 48, [])), (13, (0, 1, 1, [])), (14, (0, 1, 48, []))], [(9, [4, 0], [1]), (1, [14, 1, 13], []), (21, [9, 7], [48]), (21, [1, 7], [48]), (24, [3, 10], []), (20, [11, 0], [50, 1, 0, 1000, 1, 2, 1, 0, 2, 1, 0]), (20, [12, 0], [50, 1, 0, 1001, 1, 2, 1, 0, 2, 1, 1]), (20, [1, 0], [50, 1, 0, 1001, 2, 6, 0, 2, 0, 0, 1, 0, 0, 6, 4, 2, 1, 0, 0, 1, 2, 1, 1]), (20, [2, 2, 10, 9, 1, 7, 11, 12], [61, 3, 751]), (102, [12], [4503599627370496]), (21, [9, 7], [48]), (21, [1, 7], [48]), (1, [9, 1, 8], []), (2, [7, 5, 6], []), (2, [5, 4, 1], [])], [], [(2, 0, 0, [52]), (0, 0, 24, []), (0, 0, 48, [])], [(21, [14, 7], [48]), (24, [2, 15], []), (20, [16, 0], [50, 1, 0, 1000, 1, 2, 1, 0, 2, 1, 0]), (20, [17, 0], [50, 1, 0, 1001, 1, 2, 1, 0, 2, 1, 1]), (20, [3, 3, 15, 14, 1, 7, 16, 17], [61, 3, 753])], [], [(14, 1, 1, 1), (9, 1, 1, 1), (7, 5, -1, -1), (7, 4, -48, -1), (5, 4, -47, 0)])
theorem oo_Gr_removeEdge_at_gx_2 {kA : Nat → ClassId} : or_ok PRD kA GG o_Gr_removeEdge_at_gx_2 := by
  refine or_mk fun A ta ws vs hD hth hl => ?_
  intro t0 r0 t1 k1 t2 r2 t3 r3 t4 k4 t5 k5 t6 k6 t7 k7 t8 k8 t9 k9 t11 k11 t12 k12 t13 k13 t14 k14 d0 d1 d2 d3 d4 f0 f1 f2 f3 f4 f5 f6 f7 f8 ta1 w1 le1 s1 f10 f11 f12 f13 f14
  replace f0 := shm_215 f0
  replace f1 := shm_12 f1
  replace f2 := shm_858 f2
  replace f3 := shm_858 f3
  replace f4 := shm_5 f4
  replace f5 := shm_836 f5
  replace f6 := shm_859 f6
  replace f7 := shm_387 f7
  replace f8 := shm_866 f8
  replace f10 := shm_858 f10
  replace f11 := shm_858 f11
  replace f12 := shm_12 f12
  replace f13 := shm_14 f13
  replace f14 := shm_14 f14
  have q10 : n_v vs 10 = n_v vs 3 := f4.symm
  simp only [q10] at f8
  have cr_2_999 : ta (v_ad (n_v vs 2)) = some 52 := r2
  have cr_3_999 : ta (v_ad (n_v vs 3)) = some 53 := r3
  have g0 : v_iv (n_v vs 4) = w_fi ws (n_v vs 0) 1 := congrArg v_iv f0
  have hK_2_999 := elq_11 hD hth cr_2_999
  have hK_3_999 := elq_12 hD hth cr_3_999
  have kz_0_0 := fdq_21 hD hth r0
  have kz_0_1 := fdq_30 hD hth r0
  obtain ⟨y, ey, hy⟩ := iv_ex (ta := ta) (lo := 0) (hi := 24) (z := w_fi ws (n_v vs 0) 0) (by omega) (by omega) (by omega) (by omega)
  have ey2 : v_iv (Value.int y) = w_fi ws (n_v vs 0) 0 := ey
  have ey3 : 0 ≤ v_iv (Value.int y) ∧ v_iv (Value.int y) ≤ 24 := tv_rng hy
  obtain ⟨u, eu, hu⟩ := iv_ex (ta := ta) (lo := 0) (hi := 48) (z := w_fi ws (n_v vs 0) 1) (by omega) (by omega) (by omega) (by omega)
  have eu2 : v_iv (Value.int u) = w_fi ws (n_v vs 0) 1 := eu
  have eu3 : 0 ≤ v_iv (Value.int u) ∧ v_iv (Value.int u) ≤ 48 := tv_rng hu
  have e_0 : n_v (vs ++ [n_v vs 2, Value.int y, Value.int u]) 0 = n_v vs 0 := n_v_old (by rw [hl]; decide)
  have e_1 : n_v (vs ++ [n_v vs 2, Value.int y, Value.int u]) 1 = n_v vs 1 := n_v_old (by rw [hl]; decide)
  have e_2 : n_v (vs ++ [n_v vs 2, Value.int y, Value.int u]) 2 = n_v vs 2 := n_v_old (by rw [hl]; decide)
  have e_3 : n_v (vs ++ [n_v vs 2, Value.int y, Value.int u]) 3 = n_v vs 3 := n_v_old (by rw [hl]; decide)
  have e_7 : n_v (vs ++ [n_v vs 2, Value.int y, Value.int u]) 7 = n_v vs 7 := n_v_old (by rw [hl]; decide)
  have e_14 : n_v (vs ++ [n_v vs 2, Value.int y, Value.int u]) 14 = n_v vs 14 := n_v_old (by rw [hl]; decide)
  have e_15 : n_v (vs ++ [n_v vs 2, Value.int y, Value.int u]) 15 = n_v vs 2 := n_v_newk (k := 0) hl rfl
  have e_16 : n_v (vs ++ [n_v vs 2, Value.int y, Value.int u]) 16 = Value.int y := n_v_newk (k := 1) hl rfl
  have e_17 : n_v (vs ++ [n_v vs 2, Value.int y, Value.int u]) 17 = Value.int u := n_v_newk (k := 2) hl rfl
  have nf0 : fc_1 PRD (21, [14, 7], [48]) ws (vs ++ [n_v vs 2, Value.int y, Value.int u]) := by
    refine ⟨nf_inA hl rfl, sgq_858 ?_⟩
    · show v_iv (n_v (vs ++ [n_v vs 2, Value.int y, Value.int u]) 14) + v_iv (n_v (vs ++ [n_v vs 2, Value.int y, Value.int u]) 7) ≤ 48
      simp only [e_7, e_14]
      exact vc_Gr_removeEdge_at_gx_2_0 (v_iv (n_v vs 1)) (v_iv (n_v vs 4)) (v_iv (n_v vs 5)) (v_iv (n_v vs 6)) (v_iv (n_v vs 7)) (v_iv (n_v vs 8)) (v_iv (n_v vs 9)) (v_iv (n_v vs 11)) (v_iv (n_v vs 12)) (v_iv (n_v vs 13)) (v_iv (n_v vs 14)) (w_fi ws (n_v vs 0) 1) (w_fi ws (n_v vs 0) 0) (w_ei ws (v_ad (n_v vs 2))) (w_ei ws (v_ad (n_v vs 3))) (v_iv (Value.int y)) (v_iv (Value.int u)) k1 k4 k5 k6 k7 k8 k9 k11 k12 k13 k14 d0 d1 d2 d3 d4 g0 f1 f2 f3 f5 f6 f7 f8 f10 f11 f12 f13 f14 hK_2_999 hK_3_999 kz_0_0 kz_0_1 ey2 ey3 eu2 eu3
  have nf1 : fc_1 PRD (24, [2, 15], []) ws (vs ++ [n_v vs 2, Value.int y, Value.int u]) := by
    refine ⟨nf_inA hl rfl, sgq_5 ?_⟩
    · show n_v (vs ++ [n_v vs 2, Value.int y, Value.int u]) 2 = n_v (vs ++ [n_v vs 2, Value.int y, Value.int u]) 15
      first | rfl | simp only [e_2, e_15, q10]
  have nf2 : fc_1 PRD (20, [16, 0], [50, 1, 0, 1000, 1, 2, 1, 0, 2, 1, 0]) ws (vs ++ [n_v vs 2, Value.int y, Value.int u]) := by
    refine ⟨nf_inA hl rfl, sgq_836 ?_⟩
    · show v_iv (n_v (vs ++ [n_v vs 2, Value.int y, Value.int u]) 16) = w_fi ws (n_v (vs ++ [n_v vs 2, Value.int y, Value.int u]) 0) 0
      simp only [e_0, e_16]
      exact vc_Gr_removeEdge_at_gx_2_2 (v_iv (n_v vs 1)) (v_iv (n_v vs 4)) (v_iv (n_v vs 5)) (v_iv (n_v vs 6)) (v_iv (n_v vs 7)) (v_iv (n_v vs 8)) (v_iv (n_v vs 9)) (v_iv (n_v vs 11)) (v_iv (n_v vs 12)) (v_iv (n_v vs 13)) (v_iv (n_v vs 14)) (w_fi ws (n_v vs 0) 1) (w_fi ws (n_v vs 0) 0) (w_ei ws (v_ad (n_v vs 2))) (w_ei ws (v_ad (n_v vs 3))) (v_iv (Value.int y)) (v_iv (Value.int u)) k1 k4 k5 k6 k7 k8 k9 k11 k12 k13 k14 d0 d1 d2 d3 d4 g0 f1 f2 f3 f5 f6 f7 f8 f10 f11 f12 f13 f14 hK_2_999 hK_3_999 kz_0_0 kz_0_1 ey2 ey3 eu2 eu3
  have nf3 : fc_1 PRD (20, [17, 0], [50, 1, 0, 1001, 1, 2, 1, 0, 2, 1, 1]) ws (vs ++ [n_v vs 2, Value.int y, Value.int u]) := by
    refine ⟨nf_inA hl rfl, sgq_859 ?_⟩
    · show v_iv (n_v (vs ++ [n_v vs 2, Value.int y, Value.int u]) 17) = w_fi ws (n_v (vs ++ [n_v vs 2, Value.int y, Value.int u]) 0) 1
      simp only [e_0, e_17]
      exact vc_Gr_removeEdge_at_gx_2_3 (v_iv (n_v vs 1)) (v_iv (n_v vs 4)) (v_iv (n_v vs 5)) (v_iv (n_v vs 6)) (v_iv (n_v vs 7)) (v_iv (n_v vs 8)) (v_iv (n_v vs 9)) (v_iv (n_v vs 11)) (v_iv (n_v vs 12)) (v_iv (n_v vs 13)) (v_iv (n_v vs 14)) (w_fi ws (n_v vs 0) 1) (w_fi ws (n_v vs 0) 0) (w_ei ws (v_ad (n_v vs 2))) (w_ei ws (v_ad (n_v vs 3))) (v_iv (Value.int y)) (v_iv (Value.int u)) k1 k4 k5 k6 k7 k8 k9 k11 k12 k13 k14 d0 d1 d2 d3 d4 g0 f1 f2 f3 f5 f6 f7 f8 f10 f11 f12 f13 f14 hK_2_999 hK_3_999 kz_0_0 kz_0_1 ey2 ey3 eu2 eu3
  have nf4 : fc_1 PRD (20, [3, 3, 15, 14, 1, 7, 16, 17], [61, 3, 753]) ws (vs ++ [n_v vs 2, Value.int y, Value.int u]) := by
    refine ⟨nf_inA hl rfl, sgq_867 ?_⟩
    · show RH1 (w_ei ws (v_ad (n_v (vs ++ [n_v vs 2, Value.int y, Value.int u]) 3))) (w_ei ws (v_ad (n_v (vs ++ [n_v vs 2, Value.int y, Value.int u]) 3))) (w_ei ws (v_ad (n_v (vs ++ [n_v vs 2, Value.int y, Value.int u]) 15))) (v_iv (n_v (vs ++ [n_v vs 2, Value.int y, Value.int u]) 14)) (v_iv (n_v (vs ++ [n_v vs 2, Value.int y, Value.int u]) 1)) (v_iv (n_v (vs ++ [n_v vs 2, Value.int y, Value.int u]) 7)) (v_iv (n_v (vs ++ [n_v vs 2, Value.int y, Value.int u]) 16)) (v_iv (n_v (vs ++ [n_v vs 2, Value.int y, Value.int u]) 17))
      simp only [e_1, e_3, e_7, e_14, e_15, e_16, e_17]
      exact vc_Gr_removeEdge_at_gx_2_4 (v_iv (n_v vs 1)) (v_iv (n_v vs 4)) (v_iv (n_v vs 5)) (v_iv (n_v vs 6)) (v_iv (n_v vs 7)) (v_iv (n_v vs 8)) (v_iv (n_v vs 9)) (v_iv (n_v vs 11)) (v_iv (n_v vs 12)) (v_iv (n_v vs 13)) (v_iv (n_v vs 14)) (w_fi ws (n_v vs 0) 1) (w_fi ws (n_v vs 0) 0) (w_ei ws (v_ad (n_v vs 2))) (w_ei ws (v_ad (n_v vs 3))) (v_iv (Value.int y)) (v_iv (Value.int u)) k1 k4 k5 k6 k7 k8 k9 k11 k12 k13 k14 d0 d1 d2 d3 d4 g0 f1 f2 f3 f5 f6 f7 f8 f10 f11 f12 f13 f14 hK_2_999 hK_3_999 kz_0_0 kz_0_1 ey2 ey3 eu2 eu3
  exact ⟨(fun _ h => (by cases h)), [n_v vs 2, Value.int y, Value.int u], ag_three t2 hy hu, List.forall_mem_cons.mpr ⟨⟨show (21 : Nat) < 100 from by decide, nf0⟩, List.forall_mem_cons.mpr ⟨⟨show (24 : Nat) < 100 from by decide, nf1⟩, List.forall_mem_cons.mpr ⟨⟨show (20 : Nat) < 100 from by decide, nf2⟩, List.forall_mem_cons.mpr ⟨⟨show (20 : Nat) < 100 from by decide, nf3⟩, List.forall_mem_cons.mpr ⟨⟨show (20 : Nat) < 100 from by decide, nf4⟩, (fun _ h => (by cases h))⟩⟩⟩⟩⟩, (fun _ h => (by cases h))⟩
set_option maxHeartbeats 4000000 in
theorem vc_Gr_removeEdge_at_gx_3_0 (x1 : Int) (x4 : Int) (x5 : Int) (x6 : Int) (x7 : Int) (x8 : Int) (x9 : Int) (x11 : Int) (x12 : Int) (x13 : Int) (x14 : Int) (x16 : Int) (x17 : Int) (x19 : Int) (x20 : Int) (edges_0 : Int) (nodes_0 : Int) (a3_0 : Int → Int) (a2_0 : Int → Int) (k1 : 0 ≤ x1 ∧ x1 ≤ 47) (k4 : 1 ≤ x4 ∧ x4 ≤ 48) (k5 : (-46) ≤ x5 ∧ x5 ≤ 48) (k6 : 1 ≤ x6 ∧ x6 ≤ 1) (k7 : 0 ≤ x7 ∧ x7 ≤ 47) (k8 : 1 ≤ x8 ∧ x8 ≤ 1) (k9 : 1 ≤ x9 ∧ x9 ≤ 48) (k11 : 0 ≤ x11 ∧ x11 ≤ 24) (k12 : 0 ≤ x12 ∧ x12 ≤ 48) (k13 : 1 ≤ x13 ∧ x13 ≤ 1) (k14 : 1 ≤ x14 ∧ x14 ≤ 48) (k16 : 0 ≤ x16 ∧ x16 ≤ 24) (k17 : 0 ≤ x17 ∧ x17 ≤ 48) (k19 : 1 ≤ x19 ∧ x19 ≤ 1) (k20 : 1 ≤ x20 ∧ x20 ≤ 48) (d0 : x1 + 1 ≤ x20 ∧ x20 ≤ x1 + 1) (d1 : x1 + 1 ≤ x14 ∧ x14 ≤ x1 + 1) (d2 : x1 + 1 ≤ x9 ∧ x9 ≤ x1 + 1) (d3 : x5 + (-1) ≤ x7 ∧ x7 ≤ x5 + (-1)) (d4 : x4 + (-48) ≤ x7 ∧ x7 ≤ x4 + (-1)) (d5 : x4 + (-47) ≤ x5 ∧ x5 ≤ x4 + 0) (g0 : x4 = edges_0) (f1 : x20 = x1 + x19) (f2 : x14 + x7 ≤ 48) (f4 : x16 = nodes_0) (f5 : x17 = edges_0) (f6 : x9 + x7 ≤ 48) (f7 : x1 + x7 ≤ 48) (f9 : x11 = nodes_0) (f10 : x12 = edges_0) (f11 : (0 ≤ x1) ∧ ((x1 + 1) ≤ edges_0)) (f12 : RH2 (a3_0) (a3_0) (a2_0) (x14) (x1) (x7) (x16) (x17)) (f14 : x14 + x7 ≤ 48) (f15 : x14 = x1 + x13) (f16 : x9 + x7 ≤ 48) (f17 : x1 + x7 ≤ 48) (f19 : x9 + x7 ≤ 48) (f20 : x1 + x7 ≤ 48) (f21 : x9 = x1 + x8) (f22 : x7 = x5 - x6) (f23 : x5 = x4 - x1) (hK_2_999 : ∀ j : Int, 0 ≤ j → j < 48 → 0 ≤ a2_0 j ∧ a2_0 j ≤ 23) (hK_3_999 : ∀ j : Int, 0 ≤ j → j < 48 → 0 ≤ a3_0 j ∧ a3_0 j ≤ 23) (kz_0_0 : 0 ≤ nodes_0 ∧ nodes_0 ≤ 24) (kz_0_1 : 0 ≤ edges_0 ∧ edges_0 ≤ 48) : x20 + x7 ≤ 48 := by
  first
    | omega
  
def o_Gr_removeEdge_at_gx_3 : or_T := (54, 21, [(0, (2, 0, 0, [3])), (1, (0, 0, 47, [])), (2, (2, 0, 0, [52])), (3, (2, 0, 0, [53])), (4, (0, 1, 48, [])), (5, (0, -46, 48, [])), (6, (0, 1, 1, [])), (7, (0, 0, 47, [])), (8, (0, 1, 1, [])), (9, (0, 1, 48, [])), (11, (0, 0, 24, [])), (12, (0, 0, 48, [])), (13, (0, 1, 1, [])), (14, (0, 1, 48, [])), (16, (0, 0, 24, [])), (17, (0, 0, 48, [])), (19, (0, 1, 1, [])), (20, (0, 1, 48, []))], [(9, [4, 0], [1]), (1, [20, 1, 19], []), (21, [14, 7], [48]), (24, [2, 15], []), (20, [16, 0], [50, 1, 0, 1000, 1, 2, 1, 0, 2, 1, 0]), (20, [17, 0], [50, 1, 0, 1001, 1, 2, 1, 0, 2, 1, 1]), (21, [9, 7], [48]), (21, [1, 7], [48]), (20, [11, 0], [50, 1, 0, 1000, 1, 2, 1, 0, 2, 1, 0]), (20, [12, 0], [50, 1, 0, 1001, 1, 2, 1, 0, 2, 1, 1]), (20, [1, 0], [50, 1, 0, 1001, 2, 6, 0, 2, 0, 0, 1, 0, 0, 6, 4, 2, 1, 0, 0, 1, 2, 1, 1]), (20, [3, 3, 15, 14, 1, 7, 16, 17], [61, 3, 755]), (102, [17], [9007199254740992]), (21, [14, 7], [48]), (1, [14, 1, 13], []), (21, [9, 7], [48]), (21, [1, 7], [48]), (102, [12], [4503599627370496]), (21, [9, 7], [48]), (21, [1, 7], [48]), (1, [9, 1, 8], []), (2, [7, 5, 6], []), (2, [5, 4, 1], [])], [], [], [(21, [20, 7], [48])], [], [(20, 1, 1, 1), (14, 1, 1, 1), (9, 1, 1, 1), (7, 5, -1, -1), (7, 4, -48, -1), (5, 4, -47, 0)])
theorem oo_Gr_removeEdge_at_gx_3 {kA : Nat → ClassId} : or_ok PRD kA GG o_Gr_removeEdge_at_gx_3 := by
  refine or_mk fun A ta ws vs hD hth hl => ?_
  intro t0 r0 t1 k1 t2 r2 t3 r3 t4 k4 t5 k5 t6 k6 t7 k7 t8 k8 t9 k9 t11 k11 t12 k12 t13 k13 t14 k14 t16 k16 t17 k17 t19 k19 t20 k20 d0 d1 d2 d3 d4 d5 f0 f1 f2 f3 f4 f5 f6 f7 f9 f10 f11 f12 ta1 w1 le1 s1 f14 f15 f16 f17 ta2 w2 le2 s2 f19 f20 f21 f22 f23
  replace f0 := shm_215 f0
  replace f3 := shm_5 f3
  replace f12 := shm_868 f12
  have q15 : n_v vs 15 = n_v vs 2 := f3.symm
  simp only [q15] at f12
  have cr_2_999 : ta (v_ad (n_v vs 2)) = some 52 := r2
  have cr_3_999 : ta (v_ad (n_v vs 3)) = some 53 := r3
  have g0 : v_iv (n_v vs 4) = w_fi ws (n_v vs 0) 1 := congrArg v_iv f0
  have hK_2_999 := elq_11 hD hth cr_2_999
  have hK_3_999 := elq_12 hD hth cr_3_999
  have kz_0_0 := fdq_21 hD hth r0
  have kz_0_1 := fdq_30 hD hth r0
  have nf0 : fc_1 PRD (21, [20, 7], [48]) ws (vs) := ⟨nf_in hl rfl, sgq_858 (vc_Gr_removeEdge_at_gx_3_0 (v_iv (n_v vs 1)) (v_iv (n_v vs 4)) (v_iv (n_v vs 5)) (v_iv (n_v vs 6)) (v_iv (n_v vs 7)) (v_iv (n_v vs 8)) (v_iv (n_v vs 9)) (v_iv (n_v vs 11)) (v_iv (n_v vs 12)) (v_iv (n_v vs 13)) (v_iv (n_v vs 14)) (v_iv (n_v vs 16)) (v_iv (n_v vs 17)) (v_iv (n_v vs 19)) (v_iv (n_v vs 20)) (w_fi ws (n_v vs 0) 1) (w_fi ws (n_v vs 0) 0) (w_ei ws (v_ad (n_v vs 3))) (w_ei ws (v_ad (n_v vs 2))) k1 k4 k5 k6 k7 k8 k9 k11 k12 k13 k14 k16 k17 k19 k20 d0 d1 d2 d3 d4 d5 g0 (shm_12 f1) (shm_858 f2) (shm_836 f4) (shm_859 f5) (shm_858 f6) (shm_858 f7) (shm_836 f9) (shm_859 f10) (shm_387 f11) f12 (shm_858 f14) (shm_12 f15) (shm_858 f16) (shm_858 f17) (shm_858 f19) (shm_858 f20) (shm_12 f21) (shm_14 f22) (shm_14 f23) hK_2_999 hK_3_999 kz_0_0 kz_0_1)⟩
  refine ⟨(fun _ h => (by cases h)), [], trivial, ?_, (fun _ h => (by cases h))⟩
  rw [List.append_nil]
  exact List.forall_mem_cons.mpr ⟨⟨show (21 : Nat) < 100 from by decide, nf0⟩, (fun _ h => (by cases h))⟩
set_option maxHeartbeats 4000000 in
theorem vc_Gr_removeEdge_at_gx_4_0 (x1 : Int) (x4 : Int) (x5 : Int) (x6 : Int) (x7 : Int) (x8 : Int) (x9 : Int) (x11 : Int) (x12 : Int) (x13 : Int) (x14 : Int) (x16 : Int) (x17 : Int) (x19 : Int) (x20 : Int) (x22 : Int) (x23 : Int) (edges_0 : Int) (nodes_0 : Int) (a3_0 : Int → Int) (a2_0 : Int → Int) (k1 : 0 ≤ x1 ∧ x1 ≤ 47) (k4 : 1 ≤ x4 ∧ x4 ≤ 48) (k5 : (-46) ≤ x5 ∧ x5 ≤ 48) (k6 : 1 ≤ x6 ∧ x6 ≤ 1) (k7 : 0 ≤ x7 ∧ x7 ≤ 47) (k8 : 1 ≤ x8 ∧ x8 ≤ 1) (k9 : 1 ≤ x9 ∧ x9 ≤ 48) (k11 : 0 ≤ x11 ∧ x11 ≤ 24) (k12 : 0 ≤ x12 ∧ x12 ≤ 48) (k13 : 1 ≤ x13 ∧ x13 ≤ 1) (k14 : 1 ≤ x14 ∧ x14 ≤ 48) (k16 : 0 ≤ x16 ∧ x16 ≤ 24) (k17 : 0 ≤ x17 ∧ x17 ≤ 48) (k19 : 1 ≤ x19 ∧ x19 ≤ 1) (k20 : 1 ≤ x20 ∧ x20 ≤ 48) (k22 : 1 ≤ x22 ∧ x22 ≤ 1) (k23 : 1 ≤ x23 ∧ x23 ≤ 48) (d0 : x1 + 1 ≤ x23 ∧ x23 ≤ x1 + 1) (d1 : x1 + 1 ≤ x20 ∧ x20 ≤ x1 + 1) (d2 : x1 + 1 ≤ x14 ∧ x14 ≤ x1 + 1) (d3 : x1 + 1 ≤ x9 ∧ x9 ≤ x1 + 1) (d4 : x5 + (-1) ≤ x7 ∧ x7 ≤ x5 + (-1)) (d5 : x4 + (-48) ≤ x7 ∧ x7 ≤ x4 + (-1)) (d6 : x4 + (-47) ≤ x5 ∧ x5 ≤ x4 + 0) (g0 : x4 = edges_0) (f1 : x23 = x1 + x22) (f2 : x20 + x7 ≤ 48) (f3 : x14 + x7 ≤ 48) (f5 : x16 = nodes_0) (f6 : x17 = edges_0) (f7 : x9 + x7 ≤ 48) (f8 : x1 + x7 ≤ 48) (f10 : x11 = nodes_0) (f11 : x12 = edges_0) (f12 : (0 ≤ x1) ∧ ((x1 + 1) ≤ edges_0)) (f13 : RH2 (a3_0) (a3_0) (a2_0) (x14) (x1) (x7) (x16) (x17)) (f15 : x20 + x7 ≤ 48) (f16 : x20 = x1 + x19) (f17 : x14 + x7 ≤ 48) (f18 : x9 + x7 ≤ 48) (f19 : x1 + x7 ≤ 48) (f21 : x14 + x7 ≤ 48) (f22 : x14 = x1 + x13) (f23 : x9 + x7 ≤ 48) (f24 : x1 + x7 ≤ 48) (f26 : x9 + x7 ≤ 48) (f27 : x1 + x7 ≤ 48) (f28 : x9 = x1 + x8) (f29 : x7 = x5 - x6) (f30 : x5 = x4 - x1) (hK_2_999 : ∀ j : Int, 0 ≤ j → j < 48 → 0 ≤ a2_0 j ∧ a2_0 j ≤ 23) (hK_3_999 : ∀ j : Int, 0 ≤ j → j < 48 → 0 ≤ a3_0 j ∧ a3_0 j ≤ 23) (kz_0_0 : 0 ≤ nodes_0 ∧ nodes_0 ≤ 24) (kz_0_1 : 0 ≤ edges_0 ∧ edges_0 ≤ 48) : x23 + x7 ≤ 48 := by
  first
    | omega
  
def o_Gr_removeEdge_at_gx_4 : or_T := (70, 24, [(0, (2, 0, 0, [3])), (1, (0, 0, 47, [])), (2, (2, 0, 0, [52])), (3, (2, 0, 0, [53])), (4, (0, 1, 48, [])), (5, (0, -46, 48, [])), (6, (0, 1, 1, [])), (7, (0, 0, 47, [])), (8, (0, 1, 1, [])), (9, (0, 1, 48, [])), (11, (0, 0, 24, [])), (12, (0, 0, 48, [])), (13, (0, 1, 1, [])), (14, (0, 1, 48, [])), (16, (0, 0, 24, [])), (17, (0, 0, 48, [])), (19, (0, 1, 1, [])), (20, (0, 1, 48, [])), (22, (0, 1, 1, [])), (23, (0, 1, 48, []))], [(9, [4, 0], [1]), (1, [23, 1, 22], []), (21, [20, 7], [48]), (21, [14, 7], [48]), (24, [2, 15], []), (20, [16, 0], [50, 1, 0, 1000, 1, 2, 1, 0, 2, 1, 0]), (20, [17, 0], [50, 1, 0, 1001, 1, 2, 1, 0, 2, 1, 1]), (21, [9, 7], [48]), (21, [1, 7], [48]), (20, [11, 0], [50, 1, 0, 1000, 1, 2, 1, 0, 2, 1, 0]), (20, [12, 0], [50, 1, 0, 1001, 1, 2, 1, 0, 2, 1, 1]), (20, [1, 0], [50, 1, 0, 1001, 2, 6, 0, 2, 0, 0, 1, 0, 0, 6, 4, 2, 1, 0, 0, 1, 2, 1, 1]), (20, [3, 3, 15, 14, 1, 7, 16, 17], [61, 3, 755]), (102, [20], [18014398509481984]), (21, [20, 7], [48]), (1, [20, 1, 19], []), (21, [14, 7], [48]), (21, [9, 7], [48]), (21, [1, 7], [48]), (102, [17], [9007199254740992]), (21, [14, 7], [48]), (1, [14, 1, 13], []), (21, [9, 7], [48]), (21, [1, 7], [48]), (102, [12], [4503599627370496]), (21, [9, 7], [48]), (21, [1, 7], [48]), (1, [9, 1, 8], []), (2, [7, 5, 6], []), (2, [5, 4, 1], [])], [], [], [(21, [23, 7], [48])], [], [(23, 1, 1, 1), (20, 1, 1, 1), (14, 1, 1, 1), (9, 1, 1, 1), (7, 5, -1, -1), (7, 4, -48, -1), (5, 4, -47, 0)])
theorem oo_Gr_removeEdge_at_gx_4 {kA : Nat → ClassId} : or_ok PRD kA GG o_Gr_removeEdge_at_gx_4 := by
  refine or_mk fun A ta ws vs hD hth hl => ?_
  intro t0 r0 t1 k1 t2 r2 t3 r3 t4 k4 t5 k5 t6 k6 t7 k7 t8 k8 t9 k9 t11 k11 t12 k12 t13 k13 t14 k14 t16 k16 t17 k17 t19 k19 t20 k20 t22 k22 t23 k23 d0 d1 d2 d3 d4 d5 d6 f0 f1 f2 f3 f4 f5 f6 f7 f8 f10 f11 f12 f13 ta1 w1 le1 s1 f15 f16 f17 f18 f19 ta2 w2 le2 s2 f21 f22 f23 f24 ta3 w3 le3 s3 f26 f27 f28 f29 f30
  replace f0 := shm_215 f0
  replace f4 := shm_5 f4
  replace f13 := shm_868 f13
  have q15 : n_v vs 15 = n_v vs 2 := f4.symm
  simp only [q15] at f13
  have cr_2_999 : ta (v_ad (n_v vs 2)) = some 52 := r2
  have cr_3_999 : ta (v_ad (n_v vs 3)) = some 53 := r3
  have g0 : v_iv (n_v vs 4) = w_fi ws (n_v vs 0) 1 := congrArg v_iv f0
  have hK_2_999 := elq_11 hD hth cr_2_999
  have hK_3_999 := elq_12 hD hth cr_3_999
  have kz_0_0 := fdq_21 hD hth r0
  have kz_0_1 := fdq_30 hD hth r0
  have nf0 : fc_1 PRD (21, [23, 7], [48]) ws (vs) := ⟨nf_in hl rfl, sgq_858 (vc_Gr_removeEdge_at_gx_4_0 (v_iv (n_v vs 1)) (v_iv (n_v vs 4)) (v_iv (n_v vs 5)) (v_iv (n_v vs 6)) (v_iv (n_v vs 7)) (v_iv (n_v vs 8)) (v_iv (n_v vs 9)) (v_iv (n_v vs 11)) (v_iv (n_v vs 12)) (v_iv (n_v vs 13)) (v_iv (n_v vs 14)) (v_iv (n_v vs 16)) (v_iv (n_v vs 17)) (v_iv (n_v vs 19)) (v_iv (n_v vs 20)) (v_iv (n_v vs 22)) (v_iv (n_v vs 23)) (w_fi ws (n_v vs 0) 1) (w_fi ws (n_v vs 0) 0) (w_ei ws (v_ad (n_v vs 3))) (w_ei ws (v_ad (n_v vs 2))) k1 k4 k5 k6 k7 k8 k9 k11 k12 k13 k14 k16 k17 k19 k20 k22 k23 d0 d1 d2 d3 d4 d5 d6 g0 (shm_12 f1) (shm_858 f2) (shm_858 f3) (shm_836 f5) (shm_859 f6) (shm_858 f7) (shm_858 f8) (shm_836 f10) (shm_859 f11) (shm_387 f12) f13 (shm_858 f15) (shm_12 f16) (shm_858 f17) (shm_858 f18) (shm_858 f19) (shm_858 f21) (shm_12 f22) (shm_858 f23) (shm_858 f24) (shm_858 f26) (shm_858 f27) (shm_12 f28) (shm_14 f29) (shm_14 f30) hK_2_999 hK_3_999 kz_0_0 kz_0_1)⟩
  refine ⟨(fun _ h => (by cases h)), [], trivial, ?_, (fun _ h => (by cases h))⟩
  rw [List.append_nil]
  exact List.forall_mem_cons.mpr ⟨⟨show (21 : Nat) < 100 from by decide, nf0⟩, (fun _ h => (by cases h))⟩
set_option maxHeartbeats 4000000 in
theorem vc_Gr_removeEdge_at_gx_5_0 (x1 : Int) (x4 : Int) (x5 : Int) (x6 : Int) (x7 : Int) (x8 : Int) (x9 : Int) (x11 : Int) (x12 : Int) (x13 : Int) (x14 : Int) (x16 : Int) (x17 : Int) (x19 : Int) (x20 : Int) (x22 : Int) (x23 : Int) (x24 : Int) (x25 : Int) (edges_0 : Int) (nodes_0 : Int) (head_0 : Int → Int) (tail_0 : Int → Int) (edges_1 : Int) (nodes_1 : Int) (head_1 : Int → Int) (tail_1 : Int → Int) (k1 : 0 ≤ x1 ∧ x1 ≤ 47) (k4 : 1 ≤ x4 ∧ x4 ≤ 48) (k5 : (-46) ≤ x5 ∧ x5 ≤ 48) (k6 : 1 ≤ x6 ∧ x6 ≤ 1) (k7 : 0 ≤ x7 ∧ x7 ≤ 47) (k8 : 1 ≤ x8 ∧ x8 ≤ 1) (k9 : 1 ≤ x9 ∧ x9 ≤ 48) (k11 : 0 ≤ x11 ∧ x11 ≤ 24) (k12 : 0 ≤ x12 ∧ x12 ≤ 48) (k13 : 1 ≤ x13 ∧ x13 ≤ 1) (k14 : 1 ≤ x14 ∧ x14 ≤ 48) (k16 : 0 ≤ x16 ∧ x16 ≤ 24) (k17 : 0 ≤ x17 ∧ x17 ≤ 48) (k19 : 1 ≤ x19 ∧ x19 ≤ 1) (k20 : 1 ≤ x20 ∧ x20 ≤ 48) (k22 : 1 ≤ x22 ∧ x22 ≤ 1) (k23 : 1 ≤ x23 ∧ x23 ≤ 48) (k24 : 1 ≤ x24 ∧ x24 ≤ 1) (k25 : 0 ≤ x25 ∧ x25 ≤ 47) (d0 : x4 + (-1) ≤ x25 ∧ x25 ≤ x4 + (-1)) (d1 : x1 + 1 ≤ x23 ∧ x23 ≤ x1 + 1) (d2 : x1 + 1 ≤ x20 ∧ x20 ≤ x1 + 1) (d3 : x1 + 1 ≤ x14 ∧ x14 ≤ x1 + 1) (d4 : x1 + 1 ≤ x9 ∧ x9 ≤ x1 + 1) (d5 : x5 + (-1) ≤ x7 ∧ x7 ≤ x5 + (-1)) (d6 : x4 + (-48) ≤ x7 ∧ x7 ≤ x4 + (-1)) (d7 : x4 + (-47) ≤ x5 ∧ x5 ≤ x4 + 0) (g0 : x25 = edges_0) (f3 : x23 + x7 ≤ 48) (f4 : x20 + x7 ≤ 48) (f5 : x14 + x7 ≤ 48) (f7 : x16 = nodes_0) (f8 : x9 + x7 ≤ 48) (f9 : x1 + x7 ≤ 48) (f11 : x11 = nodes_0) (f12 : RH2 (head_0) (head_0) (tail_0) (x14) (x1) (x7) (x16) (x17)) (f14 : x25 = x4 - x24) (g15 : x4 = edges_1) (f16 : x23 + x7 ≤ 48) (f17 : x20 + x7 ≤ 48) (f18 : x14 + x7 ≤ 48) (f19 : x16 = nodes_1) (f20 : x17 = edges_1) (f21 : x9 + x7 ≤ 48) (f22 : x1 + x7 ≤ 48) (f23 : x11 = nodes_1) (f24 : x12 = edges_1) (f25 : (0 ≤ x1) ∧ ((x1 + 1) ≤ edges_1)) (f26 : RH2 (head_1) (head_1) (tail_1) (x14) (x1) (x7) (x16) (x17)) (f28 : x23 + x7 ≤ 48) (f29 : x23 = x1 + x22) (f30 : x20 + x7 ≤ 48) (f31 : x14 + x7 ≤ 48) (f32 : x9 + x7 ≤ 48) (f33 : x1 + x7 ≤ 48) (f35 : x20 + x7 ≤ 48) (f36 : x20 = x1 + x19) (f37 : x14 + x7 ≤ 48) (f38 : x9 + x7 ≤ 48) (f39 : x1 + x7 ≤ 48) (f41 : x14 + x7 ≤ 48) (f42 : x14 = x1 + x13) (f43 : x9 + x7 ≤ 48) (f44 : x1 + x7 ≤ 48) (f46 : x9 + x7 ≤ 48) (f47 : x1 + x7 ≤ 48) (f48 : x9 = x1 + x8) (f49 : x7 = x5 - x6) (f50 : x5 = x4 - x1) (fe_0_0_1 : nodes_0 = nodes_1) (fe_0_1_1 : edges_0 = x25) (hE_0_7_1 : ∀ j : Int, tail_0 j = tail_1 j) (hK_0_7 : ∀ j : Int, 0 ≤ j → j < 48 → 0 ≤ tail_0 j ∧ tail_0 j ≤ 23) (hE_0_8_1 : ∀ j : Int, head_0 j = head_1 j) (hK_0_8 : ∀ j : Int, 0 ≤ j → j < 48 → 0 ≤ head_0 j ∧ head_0 j ≤ 23) (kz_0_0 : 0 ≤ nodes_0 ∧ nodes_0 ≤ 24) (kz_0_1 : 0 ≤ edges_0 ∧ edges_0 ≤ 48) : GKE (nodes_0) (edges_0) (tail_0) (head_0) := by
  subst fe_0_0_1
  have e_hE_0_7_1 := funext hE_0_7_1; subst e_hE_0_7_1
  have e_hE_0_8_1 := funext hE_0_8_1; subst e_hE_0_8_1
  first
    | assumption
    | exact gke_rh ‹RH2n _ _ _ _ _ _ _ _ _› (by omega) (by omega)
    | exact gke_rh ‹RH2 _ _ _ _ _ _ _ _› (by omega) (by omega)
  
def o_Gr_removeEdge_at_gx_5 : or_T := (83, 26, [(0, (2, 0, 0, [3])), (1, (0, 0, 47, [])), (4, (0, 1, 48, [])), (5, (0, -46, 48, [])), (6, (0, 1, 1, [])), (7, (0, 0, 47, [])), (8, (0, 1, 1, [])), (9, (0, 1, 48, [])), (11, (0, 0, 24, [])), (12, (0, 0, 48, [])), (13, (0, 1, 1, [])), (14, (0, 1, 48, [])), (16, (0, 0, 24, [])), (17, (0, 0, 48, [])), (19, (0, 1, 1, [])), (20, (0, 1, 48, [])), (22, (0, 1, 1, [])), (23, (0, 1, 48, [])), (24, (0, 1, 1, [])), (25, (0, 0, 47, []))], [(9, [25, 0], [1]), (9, [2, 0], [7]), (9, [3, 0], [8]), (21, [23, 7], [48]), (21, [20, 7], [48]), (21, [14, 7], [48]), (24, [2, 15], []), (20, [16, 0], [50, 1, 0, 1000, 1, 2, 1, 0, 2, 1, 0]), (21, [9, 7], [48]), (21, [1, 7], [48]), (20, [11, 0], [50, 1, 0, 1000, 1, 2, 1, 0, 2, 1, 0]), (20, [3, 3, 15, 14, 1, 7, 16, 17], [61, 3, 755]), (101, [0, 25], [1]), (2, [25, 4, 24], []), (9, [4, 0], [1]), (21, [23, 7], [48]), (21, [20, 7], [48]), (21, [14, 7], [48]), (20, [16, 0], [50, 1, 0, 1000, 1, 2, 1, 0, 2, 1, 0]), (20, [17, 0], [50, 1, 0, 1001, 1, 2, 1, 0, 2, 1, 1]), (21, [9, 7], [48]), (21, [1, 7], [48]), (20, [11, 0], [50, 1, 0, 1000, 1, 2, 1, 0, 2, 1, 0]), (20, [12, 0], [50, 1, 0, 1001, 1, 2, 1, 0, 2, 1, 1]), (20, [1, 0], [50, 1, 0, 1001, 2, 6, 0, 2, 0, 0, 1, 0, 0, 6, 4, 2, 1, 0, 0, 1, 2, 1, 1]), (20, [3, 3, 15, 14, 1, 7, 16, 17], [61, 3, 755]), (102, [23], [36028797018963968]), (21, [23, 7], [48]), (1, [23, 1, 22], []), (21, [20, 7], [48]), (21, [14, 7], [48]), (21, [9, 7], [48]), (21, [1, 7], [48]), (102, [20], [18014398509481984]), (21, [20, 7], [48]), (1, [20, 1, 19], []), (21, [14, 7], [48]), (21, [9, 7], [48]), (21, [1, 7], [48]), (102, [17], [9007199254740992]), (21, [14, 7], [48]), (1, [14, 1, 13], []), (21, [9, 7], [48]), (21, [1, 7], [48]), (102, [12], [4503599627370496]), (21, [9, 7], [48]), (21, [1, 7], [48]), (1, [9, 1, 8], []), (2, [7, 5, 6], []), (2, [5, 4, 1], [])], [], [], [(20, [0], [60, 2, 2, 596, 0, 1, 7, 8])], [], [(25, 4, -1, -1), (23, 1, 1, 1), (20, 1, 1, 1), (14, 1, 1, 1), (9, 1, 1, 1), (7, 5, -1, -1), (7, 4, -48, -1), (5, 4, -47, 0)])
theorem oo_Gr_removeEdge_at_gx_5 {kA : Nat → ClassId} : or_ok PRD kA GG o_Gr_removeEdge_at_gx_5 := by
  refine or_mk fun A ta ws vs hD hth hl => ?_
  intro t0 r0 t1 k1 t4 k4 t5 k5 t6 k6 t7 k7 t8 k8 t9 k9 t11 k11 t12 k12 t13 k13 t14 k14 t16 k16 t17 k17 t19 k19 t20 k20 t22 k22 t23 k23 t24 k24 t25 k25 d0 d1 d2 d3 d4 d5 d6 d7 f0 f1 f2 f3 f4 f5 f6 f7 f8 f9 f11 f12 ta1 w1 le1 s1 f14 f15 f16 f17 f18 f19 f20 f21 f22 f23 f24 f25 f26 ta2 w2 le2 s2 f28 f29 f30 f31 f32 f33 ta3 w3 le3 s3 f35 f36 f37 f38 f39 ta4 w4 le4 s4 f41 f42 f43 f44 ta5 w5 le5 s5 f46 f47 f48 f49 f50
  replace f0 := shm_215 f0
  replace f1 := shm_198 f1
  replace f2 := shm_293 f2
  replace f6 := shm_5 f6
  replace f12 := shm_868 f12
  have s1 : (∀ b j, w_el ws b j = w_el w1 b j) ∧ ∀ b j, w_fd ws b j = if b = v_ad (n_v vs 0) ∧ j = 1 then n_v vs 25 else w_fd w1 b j := s1.2
  replace f15 := shm_215 f15
  replace f26 := shm_868 f26
  have q15 : n_v vs 15 = n_v vs 2 := f6.symm
  simp only [q15] at f12 f26
  have cr_0_7 := fdq_46 hD hth r0
  have cr_0_8 := fdq_47 hD hth r0
  have ad_2 : v_ad (n_v vs 2) = w_ar ws (n_v vs 0) 7 := congrArg v_ad f1
  have ad_3 : v_ad (n_v vs 3) = w_ar ws (n_v vs 0) 8 := congrArg v_ad f2
  have g0 : v_iv (n_v vs 25) = w_fi ws (n_v vs 0) 1 := congrArg v_iv f0
  simp only [ad_2, ad_3] at f12
  have g15 : v_iv (n_v vs 4) = w_fi w1 (n_v vs 0) 1 := congrArg v_iv f15
  simp only [ad_2, ad_3] at f26
  have fe_0_0_1 : w_fi ws (n_v vs 0) 0 = w_fi w1 (n_v vs 0) 0 := by show v_iv (w_fd _ _ _) = v_iv (w_fd _ _ _); rw [s1.2, if_neg (fun e => absurd e.2 (by decide))]
  have fe_0_1_1 : w_fi ws (n_v vs 0) 1 = v_iv (n_v vs 25) := by show v_iv (w_fd _ _ _) = _; rw [s1.2, if_pos ⟨rfl, rfl⟩]
  have hE_0_7_1 : ∀ j : Int, w_ei ws (w_ar ws (n_v vs 0) 7) j = w_ei w1 (w_ar ws (n_v vs 0) 7) j := fun j => s1.1 _ _
  have hK_0_7 := elq_11 hD hth cr_0_7
  have hE_0_8_1 : ∀ j : Int, w_ei ws (w_ar ws (n_v vs 0) 8) j = w_ei w1 (w_ar ws (n_v vs 0) 8) j := fun j => s1.1 _ _
  have hK_0_8 := elq_12 hD hth cr_0_8
  have kz_0_0 := fdq_21 hD hth r0
  have kz_0_1 := fdq_30 hD hth r0
  have nf0 : fc_1 PRD (20, [0], [60, 2, 2, 596, 0, 1, 7, 8]) ws (vs) := ⟨nf_in hl rfl, sgq_386 (vc_Gr_removeEdge_at_gx_5_0 (v_iv (n_v vs 1)) (v_iv (n_v vs 4)) (v_iv (n_v vs 5)) (v_iv (n_v vs 6)) (v_iv (n_v vs 7)) (v_iv (n_v vs 8)) (v_iv (n_v vs 9)) (v_iv (n_v vs 11)) (v_iv (n_v vs 12)) (v_iv (n_v vs 13)) (v_iv (n_v vs 14)) (v_iv (n_v vs 16)) (v_iv (n_v vs 17)) (v_iv (n_v vs 19)) (v_iv (n_v vs 20)) (v_iv (n_v vs 22)) (v_iv (n_v vs 23)) (v_iv (n_v vs 24)) (v_iv (n_v vs 25)) (w_fi ws (n_v vs 0) 1) (w_fi ws (n_v vs 0) 0) (w_ei ws (w_ar ws (n_v vs 0) 8)) (w_ei ws (w_ar ws (n_v vs 0) 7)) (w_fi w1 (n_v vs 0) 1) (w_fi w1 (n_v vs 0) 0) (w_ei w1 (w_ar ws (n_v vs 0) 8)) (w_ei w1 (w_ar ws (n_v vs 0) 7)) k1 k4 k5 k6 k7 k8 k9 k11 k12 k13 k14 k16 k17 k19 k20 k22 k23 k24 k25 d0 d1 d2 d3 d4 d5 d6 d7 g0 (shm_858 f3) (shm_858 f4) (shm_858 f5) (shm_836 f7) (shm_858 f8) (shm_858 f9) (shm_836 f11) f12 (shm_14 f14) g15 (shm_858 f16) (shm_858 f17) (shm_858 f18) (shm_836 f19) (shm_859 f20) (shm_858 f21) (shm_858 f22) (shm_836 f23) (shm_859 f24) (shm_387 f25) f26 (shm_858 f28) (shm_12 f29) (shm_858 f30) (shm_858 f31) (shm_858 f32) (shm_858 f33) (shm_858 f35) (shm_12 f36) (shm_858 f37) (shm_858 f38) (shm_858 f39) (shm_858 f41) (shm_12 f42) (shm_858 f43) (shm_858 f44) (shm_858 f46) (shm_858 f47) (shm_12 f48) (shm_14 f49) (shm_14 f50) fe_0_0_1 fe_0_1_1 hE_0_7_1 hK_0_7 hE_0_8_1 hK_0_8 kz_0_0 kz_0_1)⟩
  refine ⟨(fun _ h => (by cases h)), [], trivial, ?_, (fun _ h => (by cases h))⟩
  rw [List.append_nil]
  exact List.forall_mem_cons.mpr ⟨⟨show (20 : Nat) < 100 from by decide, nf0⟩, (fun _ h => (by cases h))⟩
def n_Gr_removeEdge_at_gx_an : List an_T := []
def t_Gr_removeEdge_at_gx_ct : ct_L := [(69, 77, e_acp_6), (117, 77, e_acp_7), (165, 77, e_acp_4), (213, 77, e_acp_5)]
set_option maxRecDepth 100000 in
theorem c_Gr_removeEdge_at_gx {l : Launch} {D : va_G} {kA : Nat → ClassId} : ct_ok PRD l D kA GG y_Gr_removeEdge_at_gx z_Gr_removeEdge_at_gx e_Gr_removeEdge_at_gx := chk_all_ok (FT := [(15, 3, 1), (35, 3, 7), (38, 3, 8), (41, 3, 9), (44, 3, 10)]) (PT := [(15, 3, 1, .int)]) (CT := t_Gr_removeEdge_at_gx_ct) (KT := []) (NT := []) (AN := n_Gr_removeEdge_at_gx_an) (OT := [o_Gr_removeEdge_at_gx_0, o_Gr_removeEdge_at_gx_1, o_Gr_removeEdge_at_gx_2, o_Gr_removeEdge_at_gx_3, o_Gr_removeEdge_at_gx_4, o_Gr_removeEdge_at_gx_5]) 0 216 (List.forall_mem_cons.mpr ⟨oo_Gr_removeEdge_at_gx_0, List.forall_mem_cons.mpr ⟨oo_Gr_removeEdge_at_gx_1, List.forall_mem_cons.mpr ⟨oo_Gr_removeEdge_at_gx_2, List.forall_mem_cons.mpr ⟨oo_Gr_removeEdge_at_gx_3, List.forall_mem_cons.mpr ⟨oo_Gr_removeEdge_at_gx_4, List.forall_mem_cons.mpr ⟨oo_Gr_removeEdge_at_gx_5, List.forall_mem_nil _⟩⟩⟩⟩⟩⟩) (by decide +kernel) ⟨List.forall_mem_cons.mpr ⟨gf_Gr_15, List.forall_mem_cons.mpr ⟨gf_Gr_35, List.forall_mem_cons.mpr ⟨gf_Gr_38, List.forall_mem_cons.mpr ⟨gf_Gr_41, List.forall_mem_cons.mpr ⟨gf_Gr_44, List.forall_mem_nil _⟩⟩⟩⟩⟩, List.forall_mem_cons.mpr ⟨pf_Gr_15, List.forall_mem_nil _⟩, List.forall_mem_cons.mpr ⟨cl_copyU (na := 3) rfl rfl (by decide) (Or.inl (by decide)) (fun U U_zq xs sp dp n a b c d e f e1 e2 e3 h => rt1_rt2 (U := U) (U_zq := U_zq) (xs := xs) (sp := sp) (dp := dp) (n := n) a b c d e f e1 e2 e3 h) wm_748 wm_750 wm_749 wm_15, List.forall_mem_cons.mpr ⟨cl_copyU (na := 3) rfl rfl (by decide) (Or.inl (by decide)) (fun U U_zq xs sp dp n a b c d e f e1 e2 e3 h => rh1_rh2 (U := U) (U_zq := U_zq) (xs := xs) (sp := sp) (dp := dp) (n := n) a b c d e f e1 e2 e3 h) wm_748 wm_750 wm_749 wm_15, List.forall_mem_cons.mpr ⟨cl_copy rfl rfl (by decide) (by decide) (by decide) wm_748 wm_750 wm_749 wm_15, List.forall_mem_cons.mpr ⟨cl_copy rfl rfl (by decide) (by decide) (by decide) wm_748 wm_750 wm_749 wm_15, List.forall_mem_nil _⟩⟩⟩⟩, List.forall_mem_nil _, List.forall_mem_nil _, GG_pl⟩ (by decide +kernel)
set_option maxHeartbeats 4000000 in
theorem vc_La_fillPairs_0_r0 (x1 : Int) (x2 : Int) (x4 : Int) (x5 : Int) (x6 : Int) (x9 : Int) (x10 : Int) (slot_0 : Int → Int) (pieceLower_0 : Int → Int) (pieceStart_0 : Int → Int) (items_0 : Int) (layerCount_0 : Int) (k1 : 0 ≤ x1 ∧ x1 ≤ 22) (k2 : 0 ≤ x2 ∧ x2 ≤ 119) (k4 : 1 ≤ x4 ∧ x4 ≤ 1) (k5 : 1 ≤ x5 ∧ x5 ≤ 23) (k6 : 1 ≤ x6 ∧ x6 ≤ 120) (k9 : 0 ≤ x9 ∧ x9 ≤ 71) (k10 : 0 ≤ x10 ∧ x10 ≤ 71) (d0 : x6 + (-4294967296) ≤ x2 ∧ x2 ≤ x6 + (-1)) (d1 : x1 + 1 ≤ x5 ∧ x5 ≤ x1 + 1) (h0 : x10 = slot_0 (x9)) (h1 : x9 = pieceLower_0 (x2)) (f4 : x2 < x6) (h5 : x6 = pieceStart_0 (x5)) (f6 : x5 = x1 + x4) (f8 : PCL (items_0) (layerCount_0) (pieceLower_0) (pieceStart_0)) (f9 : SLT (items_0) (slot_0)) (f10 : (0 ≤ x1) ∧ ((x1 + 2) ≤ layerCount_0)) (hK_0_7 : ∀ j : Int, 0 ≤ j → j < 120 → 0 ≤ pieceLower_0 j ∧ pieceLower_0 j ≤ 71) (hK_0_9 : ∀ j : Int, 0 ≤ j → j < 26 → 0 ≤ pieceStart_0 j ∧ pieceStart_0 j ≤ 120) (hK_0_12 : ∀ j : Int, 0 ≤ j → j < 72 → 0 ≤ slot_0 j ∧ slot_0 j ≤ 71) (kz_0_2 : 0 ≤ layerCount_0 ∧ layerCount_0 ≤ 24) (kz_0_3 : 0 ≤ items_0 ∧ items_0 ≤ 72) : 0 ≤ x10 ∧ x10 ≤ 5 := by
  first
    | omega
    | exact slt_pcl (l := x1) (i := x2) (e := x6) (q := x5) (x := x9) (y := x10) ‹SLT _ _› ‹PCL _ _ _ _› (by omega) (by omega) (by omega) (by assumption) (by omega) (by omega) (by assumption) (by assumption)
    | exact slt_pcl (l := x1) (i := x5) (e := x9) (q := x8) (x := x12) (y := x13) ‹SLT _ _› ‹PCL _ _ _ _› (by omega) (by omega) (by omega) (by assumption) (by omega) (by omega) (by assumption) (by assumption)
  
def o_La_fillPairs_0 : or_T := (38, 11, [(0, (2, 0, 0, [4])), (1, (0, 0, 22, [])), (2, (0, 0, 119, [])), (3, (2, 0, 0, [67])), (4, (0, 1, 1, [])), (5, (0, 1, 23, [])), (6, (0, 1, 120, [])), (7, (2, 0, 0, [70])), (8, (2, 0, 0, [65])), (9, (0, 0, 71, [])), (10, (0, 0, 71, []))], [(10, [10, 7, 9], []), (10, [9, 8, 2], []), (9, [8, 0], [7]), (9, [7, 0], [12]), (7, [2, 6], [2]), (10, [6, 3, 5], []), (1, [5, 1, 4], []), (9, [3, 0], [9]), (20, [0], [60, 2, 2, 668, 3, 2, 7, 9]), (20, [0], [60, 1, 1, 688, 3, 12]), (20, [1, 0], [50, 1, 0, 1002, 2, 6, 0, 2, 0, 0, 1, 0, 0, 6, 4, 2, 1, 0, 0, 2, 2, 1, 2])], [(10, (0, 0, 5, []))], [], [], [], [(2, 6, -4294967296, -1), (5, 1, 1, 1)])
theorem oo_La_fillPairs_0 {kA : Nat → ClassId} : or_ok PRD kA GG o_La_fillPairs_0 := by
  refine or_mk fun A ta ws vs hD hth hl => ?_
  intro t0 r0 t1 k1 t2 k2 t3 r3 t4 k4 t5 k5 t6 k6 t7 r7 t8 r8 t9 k9 t10 k10 d0 d1 f0 f1 f2 f3 f4 f5 f6 f7 f8 f9 f10
  replace f0 := shm_107 f0
  replace f1 := shm_107 f1
  replace f2 := shm_198 f2
  replace f3 := shm_103 f3
  replace f5 := shm_107 f5
  replace f7 := shm_119 f7
  have cr_0_7 := fdq_215 hD hth r0
  have cr_0_9 := fdq_216 hD hth r0
  have cr_0_12 := fdq_217 hD hth r0
  have ad_8 : v_ad (n_v vs 8) = w_ar ws (n_v vs 0) 7 := congrArg v_ad f2
  have ad_7 : v_ad (n_v vs 7) = w_ar ws (n_v vs 0) 12 := congrArg v_ad f3
  have ad_3 : v_ad (n_v vs 3) = w_ar ws (n_v vs 0) 9 := congrArg v_ad f7
  simp only [ad_7] at f0
  have h0 : v_iv (n_v vs 10) = w_ei ws (w_ar ws (n_v vs 0) 12) (v_iv (n_v vs 9)) := f0
  simp only [ad_8] at f1
  have h1 : v_iv (n_v vs 9) = w_ei ws (w_ar ws (n_v vs 0) 7) (v_iv (n_v vs 2)) := f1
  simp only [ad_3] at f5
  have h5 : v_iv (n_v vs 6) = w_ei ws (w_ar ws (n_v vs 0) 9) (v_iv (n_v vs 5)) := f5
  have hK_0_7 := elq_128 hD hth cr_0_7
  have hK_0_9 := elq_129 hD hth cr_0_9
  have hK_0_12 := elq_130 hD hth cr_0_12
  have kz_0_2 := fdq_77 hD hth r0
  have kz_0_3 := fdq_218 hD hth r0
  have hrf0 : 0 ≤ v_iv (n_v vs 10) ∧ v_iv (n_v vs 10) ≤ 5 := vc_La_fillPairs_0_r0 (v_iv (n_v vs 1)) (v_iv (n_v vs 2)) (v_iv (n_v vs 4)) (v_iv (n_v vs 5)) (v_iv (n_v vs 6)) (v_iv (n_v vs 9)) (v_iv (n_v vs 10)) (w_ei ws (w_ar ws (n_v vs 0) 12)) (w_ei ws (w_ar ws (n_v vs 0) 7)) (w_ei ws (w_ar ws (n_v vs 0) 9)) (w_fi ws (n_v vs 0) 3) (w_fi ws (n_v vs 0) 2) k1 k2 k4 k5 k6 k9 k10 d0 d1 h0 h1 (shm_6 f4) h5 (shm_12 f6) (shm_869 f8) (shm_870 f9) (shm_871 f10) hK_0_7 hK_0_9 hK_0_12 kz_0_2 kz_0_3
  have rf10 : tv_ok ta (0, 0, 5, []) (n_v vs 10) := tv_in t10 (by first | omega | grind) (by first | omega | grind)
  refine ⟨List.forall_mem_cons.mpr ⟨rf10, (fun _ h => (by cases h))⟩, [], trivial, ?_, (fun _ h => (by cases h))⟩
  rw [List.append_nil]
  exact (fun _ h => (by cases h))
set_option maxHeartbeats 4000000 in
theorem vc_La_fillPairs_1_r0 (x1 : Int) (x5 : Int) (x7 : Int) (x8 : Int) (x9 : Int) (x12 : Int) (x13 : Int) (slot_0 : Int → Int) (pieceLower_0 : Int → Int) (pieceStart_0 : Int → Int) (items_0 : Int) (layerCount_0 : Int) (k1 : 0 ≤ x1 ∧ x1 ≤ 22) (k5 : 1 ≤ x5 ∧ x5 ≤ 119) (k7 : 1 ≤ x7 ∧ x7 ≤ 1) (k8 : 1 ≤ x8 ∧ x8 ≤ 23) (k9 : 2 ≤ x9 ∧ x9 ≤ 120) (k12 : 0 ≤ x12 ∧ x12 ≤ 71) (k13 : 0 ≤ x13 ∧ x13 ≤ 71) (d0 : x9 + (-4294967296) ≤ x5 ∧ x5 ≤ x9 + (-1)) (d1 : x1 + 1 ≤ x8 ∧ x8 ≤ x1 + 1) (h0 : x13 = slot_0 (x12)) (h1 : x12 = pieceLower_0 (x5)) (f4 : x5 < x9) (h5 : x9 = pieceStart_0 (x8)) (f6 : x8 = x1 + x7) (f8 : PCL (items_0) (layerCount_0) (pieceLower_0) (pieceStart_0)) (f9 : SLT (items_0) (slot_0)) (f10 : (0 ≤ x1) ∧ ((x1 + 2) ≤ layerCount_0)) (hK_0_7 : ∀ j : Int, 0 ≤ j → j < 120 → 0 ≤ pieceLower_0 j ∧ pieceLower_0 j ≤ 71) (hK_0_9 : ∀ j : Int, 0 ≤ j → j < 26 → 0 ≤ pieceStart_0 j ∧ pieceStart_0 j ≤ 120) (hK_0_12 : ∀ j : Int, 0 ≤ j → j < 72 → 0 ≤ slot_0 j ∧ slot_0 j ≤ 71) (kz_0_2 : 0 ≤ layerCount_0 ∧ layerCount_0 ≤ 24) (kz_0_3 : 0 ≤ items_0 ∧ items_0 ≤ 72) : 0 ≤ x13 ∧ x13 ≤ 5 := by
  first
    | omega
    | exact slt_pcl (l := x1) (i := x2) (e := x6) (q := x5) (x := x9) (y := x10) ‹SLT _ _› ‹PCL _ _ _ _› (by omega) (by omega) (by omega) (by assumption) (by omega) (by omega) (by assumption) (by assumption)
    | exact slt_pcl (l := x1) (i := x5) (e := x9) (q := x8) (x := x12) (y := x13) ‹SLT _ _› ‹PCL _ _ _ _› (by omega) (by omega) (by omega) (by assumption) (by omega) (by omega) (by assumption) (by assumption)
  
def o_La_fillPairs_1 : or_T := (82, 14, [(0, (2, 0, 0, [4])), (1, (0, 0, 22, [])), (5, (0, 1, 119, [])), (6, (2, 0, 0, [67])), (7, (0, 1, 1, [])), (8, (0, 1, 23, [])), (9, (0, 2, 120, [])), (10, (2, 0, 0, [70])), (11, (2, 0, 0, [65])), (12, (0, 0, 71, [])), (13, (0, 0, 71, []))], [(10, [13, 10, 12], []), (10, [12, 11, 5], []), (9, [11, 0], [7]), (9, [10, 0], [12]), (7, [5, 9], [2]), (10, [9, 6, 8], []), (1, [8, 1, 7], []), (9, [6, 0], [9]), (20, [0], [60, 2, 2, 668, 3, 2, 7, 9]), (20, [0], [60, 1, 1, 688, 3, 12]), (20, [1, 0], [50, 1, 0, 1002, 2, 6, 0, 2, 0, 0, 1, 0, 0, 6, 4, 2, 1, 0, 0, 2, 2, 1, 2])], [(13, (0, 0, 5, []))], [], [], [], [(5, 9, -4294967296, -1), (8, 1, 1, 1)])
theorem oo_La_fillPairs_1 {kA : Nat → ClassId} : or_ok PRD kA GG o_La_fillPairs_1 := by
  refine or_mk fun A ta ws vs hD hth hl => ?_
  intro t0 r0 t1 k1 t5 k5 t6 r6 t7 k7 t8 k8 t9 k9 t10 r10 t11 r11 t12 k12 t13 k13 d0 d1 f0 f1 f2 f3 f4 f5 f6 f7 f8 f9 f10
  replace f0 := shm_107 f0
  replace f1 := shm_107 f1
  replace f2 := shm_198 f2
  replace f3 := shm_103 f3
  replace f5 := shm_107 f5
  replace f7 := shm_119 f7
  have cr_0_7 := fdq_215 hD hth r0
  have cr_0_9 := fdq_216 hD hth r0
  have cr_0_12 := fdq_217 hD hth r0
  have ad_11 : v_ad (n_v vs 11) = w_ar ws (n_v vs 0) 7 := congrArg v_ad f2
  have ad_10 : v_ad (n_v vs 10) = w_ar ws (n_v vs 0) 12 := congrArg v_ad f3
  have ad_6 : v_ad (n_v vs 6) = w_ar ws (n_v vs 0) 9 := congrArg v_ad f7
  simp only [ad_10] at f0
  have h0 : v_iv (n_v vs 13) = w_ei ws (w_ar ws (n_v vs 0) 12) (v_iv (n_v vs 12)) := f0
  simp only [ad_11] at f1
  have h1 : v_iv (n_v vs 12) = w_ei ws (w_ar ws (n_v vs 0) 7) (v_iv (n_v vs 5)) := f1
  simp only [ad_6] at f5
  have h5 : v_iv (n_v vs 9) = w_ei ws (w_ar ws (n_v vs 0) 9) (v_iv (n_v vs 8)) := f5
  have hK_0_7 := elq_128 hD hth cr_0_7
  have hK_0_9 := elq_129 hD hth cr_0_9
  have hK_0_12 := elq_130 hD hth cr_0_12
  have kz_0_2 := fdq_77 hD hth r0
  have kz_0_3 := fdq_218 hD hth r0
  have hrf0 : 0 ≤ v_iv (n_v vs 13) ∧ v_iv (n_v vs 13) ≤ 5 := vc_La_fillPairs_1_r0 (v_iv (n_v vs 1)) (v_iv (n_v vs 5)) (v_iv (n_v vs 7)) (v_iv (n_v vs 8)) (v_iv (n_v vs 9)) (v_iv (n_v vs 12)) (v_iv (n_v vs 13)) (w_ei ws (w_ar ws (n_v vs 0) 12)) (w_ei ws (w_ar ws (n_v vs 0) 7)) (w_ei ws (w_ar ws (n_v vs 0) 9)) (w_fi ws (n_v vs 0) 3) (w_fi ws (n_v vs 0) 2) k1 k5 k7 k8 k9 k12 k13 d0 d1 h0 h1 (shm_6 f4) h5 (shm_12 f6) (shm_869 f8) (shm_870 f9) (shm_871 f10) hK_0_7 hK_0_9 hK_0_12 kz_0_2 kz_0_3
  have rf13 : tv_ok ta (0, 0, 5, []) (n_v vs 13) := tv_in t13 (by first | omega | grind) (by first | omega | grind)
  refine ⟨List.forall_mem_cons.mpr ⟨rf13, (fun _ h => (by cases h))⟩, [], trivial, ?_, (fun _ h => (by cases h))⟩
  rw [List.append_nil]
  exact (fun _ h => (by cases h))
def n_La_fillPairs_an : List an_T := [(15, [(0, (2, 0, 0, [4])), (1, (0, 0, 22, [])), (2, (0, 0, 120, []))], [], (0, 0), [(0, 0, 99985), (1, 2, 120), (0, 0, 100000), (0, 0, 0), (0, 0, 0)], [], [], [], 0, [], [(20, [0], [60, 2, 2, 668, 3, 2, 7, 9]), (20, [0], [60, 1, 1, 688, 3, 12]), (20, [1, 0], [50, 1, 0, 1002, 2, 6, 0, 2, 0, 0, 1, 0, 0, 6, 4, 2, 1, 0, 0, 2, 2, 1, 2])]), (57, [(0, (2, 0, 0, [4])), (1, (0, 0, 22, [])), (2, (0, 0, 119, [])), (3, (0, 0, 5, [])), (4, (0, 0, 71, [])), (5, (0, 1, 120, []))], [], (0, 0), [(0, 0, 99985), (1, 2, 120), (0, 0, 99943), (1, 5, 120), (0, 0, 100000)], [(2, 5, (Int.negSucc 999999999999), (Int.negSucc 0))], [], [], 0, [], [(20, [0], [60, 2, 2, 668, 3, 2, 7, 9]), (20, [0], [60, 1, 1, 688, 3, 12]), (20, [1, 0], [50, 1, 0, 1002, 2, 6, 0, 2, 0, 0, 1, 0, 0, 6, 4, 2, 1, 0, 0, 2, 2, 1, 2])])]
def t_La_fillPairs_ct : ct_L := [(18, 214, e_jArr_fill1_v11)]
set_option maxRecDepth 100000 in
theorem c_La_fillPairs {l : Launch} {D : va_G} {kA : Nat → ClassId} : ct_ok PRD l D kA GG y_La_fillPairs z_La_fillPairs e_La_fillPairs := chk_all_ok (FT := [(36, 4, 6), (39, 4, 7), (45, 4, 9), (54, 4, 12), (60, 4, 14), (78, 4, 20)]) (PT := []) (CT := t_La_fillPairs_ct) (KT := []) (NT := []) (AN := n_La_fillPairs_an) (OT := [o_La_fillPairs_0, o_La_fillPairs_1]) 5 528 (List.forall_mem_cons.mpr ⟨oo_La_fillPairs_0, List.forall_mem_cons.mpr ⟨oo_La_fillPairs_1, List.forall_mem_nil _⟩⟩) (by decide +kernel) ⟨List.forall_mem_cons.mpr ⟨gf_La_36, List.forall_mem_cons.mpr ⟨gf_La_39, List.forall_mem_cons.mpr ⟨gf_La_45, List.forall_mem_cons.mpr ⟨gf_La_54, List.forall_mem_cons.mpr ⟨gf_La_60, List.forall_mem_cons.mpr ⟨gf_La_78, List.forall_mem_nil _⟩⟩⟩⟩⟩⟩, List.forall_mem_nil _, List.forall_mem_cons.mpr ⟨cl_static (y := y_jArr_fill1) c_jArr_fill1_v11 wm_55 wm_4 wm_1403 wm_54 ⟨by decide, by decide, by decide +kernel⟩ (by decide), List.forall_mem_nil _⟩, List.forall_mem_nil _, List.forall_mem_nil _, GG_pl⟩ (by decide +kernel)
set_option maxHeartbeats 4000000 in
theorem vc_La_listLayers_0_0 (x1 : Int) (x2 : Int) (x3 : Int) (layerOf_0 : Int → Int) (layerStart_0 : Int → Int) (slot_0 : Int → Int) (layerCount_0 : Int) (items_0 : Int) (k1 : 0 ≤ x1 ∧ x1 ≤ 0) (k2 : 0 ≤ x2 ∧ x2 ≤ 0) (k3 : 0 ≤ x3 ∧ x3 ≤ 0) (hK_0_4 : ∀ j : Int, 0 ≤ j → j < 72 → 0 ≤ layerOf_0 j ∧ layerOf_0 j ≤ 23) (hK_0_10 : ∀ j : Int, 0 ≤ j → j < 26 → 0 ≤ layerStart_0 j ∧ layerStart_0 j ≤ 72) (hK_0_12 : ∀ j : Int, 0 ≤ j → j < 72 → 0 ≤ slot_0 j ∧ slot_0 j ≤ 71) (kz_0_2 : 0 ≤ layerCount_0 ∧ layerCount_0 ≤ 24) (kz_0_3 : 0 ≤ items_0 ∧ items_0 ≤ 72) : LL1 (layerCount_0) (items_0) (layerOf_0) (layerStart_0) (x1) (x2) (x3) := by
  first
    | exact ll1_start (by omega) (by omega) (by omega) (by omega) (by omega) (fun j a b => by have q := ‹∀ j : Int, 0 ≤ j → j < 72 → 0 ≤ layerOf_0 j ∧ layerOf_0 j ≤ 23› j a (by omega); omega)
    | (skip; exact ll1_next ‹LL2 _ _ _ _ _ _ _ _› (by omega) (by omega) (by omega) (by omega))
  
set_option maxHeartbeats 4000000 in
theorem vc_La_listLayers_0_1 (x1 : Int) (x2 : Int) (x3 : Int) (layerOf_0 : Int → Int) (layerStart_0 : Int → Int) (slot_0 : Int → Int) (layerCount_0 : Int) (items_0 : Int) (k1 : 0 ≤ x1 ∧ x1 ≤ 0) (k2 : 0 ≤ x2 ∧ x2 ≤ 0) (k3 : 0 ≤ x3 ∧ x3 ≤ 0) (hK_0_4 : ∀ j : Int, 0 ≤ j → j < 72 → 0 ≤ layerOf_0 j ∧ layerOf_0 j ≤ 23) (hK_0_10 : ∀ j : Int, 0 ≤ j → j < 26 → 0 ≤ layerStart_0 j ∧ layerStart_0 j ≤ 72) (hK_0_12 : ∀ j : Int, 0 ≤ j → j < 72 → 0 ≤ slot_0 j ∧ slot_0 j ≤ 71) (kz_0_2 : 0 ≤ layerCount_0 ∧ layerCount_0 ≤ 24) (kz_0_3 : 0 ≤ items_0 ∧ items_0 ≤ 72) : SLA (items_0) (layerOf_0) (slot_0) (x2) (x3) := by
  first
    | exact sla_start (by omega)
    | (skip; exact sla_next ‹SLB _ _ _ _ _ _ _ _› (by omega) (by omega) (by omega) (by omega))
  
set_option maxHeartbeats 4000000 in
theorem vc_La_listLayers_0_2 (x1 : Int) (x2 : Int) (x3 : Int) (layerOf_0 : Int → Int) (layerStart_0 : Int → Int) (slot_0 : Int → Int) (layerCount_0 : Int) (items_0 : Int) (k1 : 0 ≤ x1 ∧ x1 ≤ 0) (k2 : 0 ≤ x2 ∧ x2 ≤ 0) (k3 : 0 ≤ x3 ∧ x3 ≤ 0) (hK_0_4 : ∀ j : Int, 0 ≤ j → j < 72 → 0 ≤ layerOf_0 j ∧ layerOf_0 j ≤ 23) (hK_0_10 : ∀ j : Int, 0 ≤ j → j < 26 → 0 ≤ layerStart_0 j ∧ layerStart_0 j ≤ 72) (hK_0_12 : ∀ j : Int, 0 ≤ j → j < 72 → 0 ≤ slot_0 j ∧ slot_0 j ≤ 71) (kz_0_2 : 0 ≤ layerCount_0 ∧ layerCount_0 ≤ 24) (kz_0_3 : 0 ≤ items_0 ∧ items_0 ≤ 72) : x3 ≤ layerCount_0 := by
  first
    | omega
    | (have q := ll1_low ‹LL1 _ _ _ _ _ _ _›; omega)
    | (skip; have q := ll2_low ‹LL2 _ _ _ _ _ _ _ _› (by omega) (by omega); omega)
  
def o_La_listLayers_0 : or_T := (6, 4, [(0, (2, 0, 0, [4])), (1, (0, 0, 0, [])), (2, (0, 0, 0, [])), (3, (0, 0, 0, []))], [], [], [], [(20, [0, 1, 2, 3], [60, 2, 2, 633, 2, 3, 4, 10]), (20, [0, 2, 3], [60, 1, 2, 689, 3, 4, 12]), (20, [3, 0], [50, 1, 0, 1002, 0, 2, 1, 0, 2, 1, 2]), (24, [0, 0], [])], [], [])
theorem oo_La_listLayers_0 {kA : Nat → ClassId} : or_ok PRD kA GG o_La_listLayers_0 := by
  refine or_mk fun A ta ws vs hD hth hl => ?_
  intro t0 r0 t1 k1 t2 k2 t3 k3
  have cr_0_4 := fdq_219 hD hth r0
  have cr_0_10 := fdq_5 hD hth r0
  have cr_0_12 := fdq_217 hD hth r0
  have hK_0_4 := elq_131 hD hth cr_0_4
  have hK_0_10 := elq_39 hD hth cr_0_10
  have hK_0_12 := elq_130 hD hth cr_0_12
  have kz_0_2 := fdq_77 hD hth r0
  have kz_0_3 := fdq_218 hD hth r0
  have nf0 : fc_1 PRD (20, [0, 1, 2, 3], [60, 2, 2, 633, 2, 3, 4, 10]) ws (vs) := ⟨nf_in hl rfl, sgq_872 (vc_La_listLayers_0_0 (v_iv (n_v vs 1)) (v_iv (n_v vs 2)) (v_iv (n_v vs 3)) (w_ei ws (w_ar ws (n_v vs 0) 4)) (w_ei ws (w_ar ws (n_v vs 0) 10)) (w_ei ws (w_ar ws (n_v vs 0) 12)) (w_fi ws (n_v vs 0) 2) (w_fi ws (n_v vs 0) 3) k1 k2 k3 hK_0_4 hK_0_10 hK_0_12 kz_0_2 kz_0_3)⟩
  have nf1 : fc_1 PRD (20, [0, 2, 3], [60, 1, 2, 689, 3, 4, 12]) ws (vs) := ⟨nf_in hl rfl, sgq_873 (vc_La_listLayers_0_1 (v_iv (n_v vs 1)) (v_iv (n_v vs 2)) (v_iv (n_v vs 3)) (w_ei ws (w_ar ws (n_v vs 0) 4)) (w_ei ws (w_ar ws (n_v vs 0) 10)) (w_ei ws (w_ar ws (n_v vs 0) 12)) (w_fi ws (n_v vs 0) 2) (w_fi ws (n_v vs 0) 3) k1 k2 k3 hK_0_4 hK_0_10 hK_0_12 kz_0_2 kz_0_3)⟩
  have nf2 : fc_1 PRD (20, [3, 0], [50, 1, 0, 1002, 0, 2, 1, 0, 2, 1, 2]) ws (vs) := ⟨nf_in hl rfl, sgq_874 (vc_La_listLayers_0_2 (v_iv (n_v vs 1)) (v_iv (n_v vs 2)) (v_iv (n_v vs 3)) (w_ei ws (w_ar ws (n_v vs 0) 4)) (w_ei ws (w_ar ws (n_v vs 0) 10)) (w_ei ws (w_ar ws (n_v vs 0) 12)) (w_fi ws (n_v vs 0) 2) (w_fi ws (n_v vs 0) 3) k1 k2 k3 hK_0_4 hK_0_10 hK_0_12 kz_0_2 kz_0_3)⟩
  have nf3 : fc_1 PRD (24, [0, 0], []) ws (vs) := by
    refine ⟨nf_in hl rfl, sgq_1 ?_⟩
    · show n_v vs 0 = n_v vs 0
      first | rfl | simp only [true_and]
  refine ⟨(fun _ h => (by cases h)), [], trivial, ?_, (fun _ h => (by cases h))⟩
  rw [List.append_nil]
  exact List.forall_mem_cons.mpr ⟨⟨show (20 : Nat) < 100 from by decide, nf0⟩, List.forall_mem_cons.mpr ⟨⟨show (20 : Nat) < 100 from by decide, nf1⟩, List.forall_mem_cons.mpr ⟨⟨show (20 : Nat) < 100 from by decide, nf2⟩, List.forall_mem_cons.mpr ⟨⟨show (24 : Nat) < 100 from by decide, nf3⟩, (fun _ h => (by cases h))⟩⟩⟩⟩
set_option maxHeartbeats 4000000 in
theorem vc_La_listLayers_1_0 (x2 : Int) (x3 : Int) (x4 : Int) (x5 : Int) (layerOf_0 : Int → Int) (slot_0 : Int → Int) (items_0 : Int) (layerCount_0 : Int) (layerCount_1 : Int) (layerOf_1 : Int → Int) (layerStart_1 : Int → Int) (items_1 : Int) (slot_1 : Int → Int) (layerStart_0 : Int → Int) (k2 : 0 ≤ x2 ∧ x2 ≤ 72) (k3 : 0 ≤ x3 ∧ x3 ≤ 72) (k4 : 0 ≤ x4 ∧ x4 ≤ 24) (k5 : 0 ≤ x5 ∧ x5 ≤ 24) (d0 : x5 + 0 ≤ x4 ∧ x4 ≤ x5 + 4294967296) (f0 : SLA (items_0) (layerOf_0) (slot_0) (x3) (x4)) (f1 : x4 ≤ layerCount_0) (g4 : x5 = layerCount_1) (f6 : x5 ≤ x4) (f7 : LL1 (layerCount_1) (items_1) (layerOf_1) (layerStart_1) (x2) (x3) (x4)) (f8 : SLA (items_1) (layerOf_1) (slot_1) (x3) (x4)) (f9 : x4 ≤ layerCount_1) (fe_0_2_1 : layerCount_0 = layerCount_1) (fe_0_3_1 : items_0 = items_1) (hE_0_4_1 : ∀ j : Int, layerOf_0 j = layerOf_1 j) (hK_0_4 : ∀ j : Int, 0 ≤ j → j < 72 → 0 ≤ layerOf_0 j ∧ layerOf_0 j ≤ 23) (hE_0_10_1 : ∀ j : Int, 0 ≤ j → (j = x5 → layerStart_0 j = x2) ∧ (j ≠ x5 → layerStart_0 j = layerStart_1 j)) (hK_0_10 : ∀ j : Int, 0 ≤ j → j < 26 → 0 ≤ layerStart_0 j ∧ layerStart_0 j ≤ 72) (hE_0_12_1 : ∀ j : Int, slot_0 j = slot_1 j) (hK_0_12 : ∀ j : Int, 0 ≤ j → j < 72 → 0 ≤ slot_0 j ∧ slot_0 j ≤ 71) (kz_0_2 : 0 ≤ layerCount_0 ∧ layerCount_0 ≤ 24) (kz_0_3 : 0 ≤ items_0 ∧ items_0 ≤ 72) : LST (layerCount_0) (layerStart_0) (x3) := by
  subst fe_0_2_1
  subst fe_0_3_1
  have e_hE_0_4_1 := funext hE_0_4_1; subst e_hE_0_4_1
  have e_hE_0_12_1 := funext hE_0_12_1; subst e_hE_0_12_1
  exact lst_of ‹LL1 _ _ _ _ _ _ _› (by omega) (by omega) (by assumption) (by omega) (by omega) (by omega)
set_option maxHeartbeats 4000000 in
theorem vc_La_listLayers_1_1 (x2 : Int) (x3 : Int) (x4 : Int) (x5 : Int) (layerOf_0 : Int → Int) (slot_0 : Int → Int) (items_0 : Int) (layerCount_0 : Int) (layerCount_1 : Int) (layerOf_1 : Int → Int) (layerStart_1 : Int → Int) (items_1 : Int) (slot_1 : Int → Int) (layerStart_0 : Int → Int) (k2 : 0 ≤ x2 ∧ x2 ≤ 72) (k3 : 0 ≤ x3 ∧ x3 ≤ 72) (k4 : 0 ≤ x4 ∧ x4 ≤ 24) (k5 : 0 ≤ x5 ∧ x5 ≤ 24) (d0 : x5 + 0 ≤ x4 ∧ x4 ≤ x5 + 4294967296) (f0 : SLA (items_0) (layerOf_0) (slot_0) (x3) (x4)) (f1 : x4 ≤ layerCount_0) (g4 : x5 = layerCount_1) (f6 : x5 ≤ x4) (f7 : LL1 (layerCount_1) (items_1) (layerOf_1) (layerStart_1) (x2) (x3) (x4)) (f8 : SLA (items_1) (layerOf_1) (slot_1) (x3) (x4)) (f9 : x4 ≤ layerCount_1) (fe_0_2_1 : layerCount_0 = layerCount_1) (fe_0_3_1 : items_0 = items_1) (hE_0_4_1 : ∀ j : Int, layerOf_0 j = layerOf_1 j) (hK_0_4 : ∀ j : Int, 0 ≤ j → j < 72 → 0 ≤ layerOf_0 j ∧ layerOf_0 j ≤ 23) (hE_0_10_1 : ∀ j : Int, 0 ≤ j → (j = x5 → layerStart_0 j = x2) ∧ (j ≠ x5 → layerStart_0 j = layerStart_1 j)) (hK_0_10 : ∀ j : Int, 0 ≤ j → j < 26 → 0 ≤ layerStart_0 j ∧ layerStart_0 j ≤ 72) (hE_0_12_1 : ∀ j : Int, slot_0 j = slot_1 j) (hK_0_12 : ∀ j : Int, 0 ≤ j → j < 72 → 0 ≤ slot_0 j ∧ slot_0 j ≤ 71) (kz_0_2 : 0 ≤ layerCount_0 ∧ layerCount_0 ≤ 24) (kz_0_3 : 0 ≤ items_0 ∧ items_0 ≤ 72) : SLW (items_0) (layerCount_0) (layerOf_0) (slot_0) (x3) := by
  subst fe_0_2_1
  subst fe_0_3_1
  have e_hE_0_4_1 := funext hE_0_4_1; subst e_hE_0_4_1
  have e_hE_0_12_1 := funext hE_0_12_1; subst e_hE_0_12_1
  first
    | exact slw_of ‹SLA _ _ _ _ _› (by omega)
  
def o_La_listLayers_1 : or_T := (128, 7, [(0, (2, 0, 0, [4])), (2, (0, 0, 72, [])), (3, (0, 0, 72, [])), (4, (0, 0, 24, [])), (5, (0, 0, 24, [])), (6, (2, 0, 0, [68]))], [(20, [1, 3, 4], [60, 1, 2, 689, 3, 4, 12]), (20, [4, 1], [50, 1, 0, 1002, 0, 2, 1, 0, 2, 1, 2]), (24, [0, 1], []), (100, [6, 5, 2], []), (9, [5, 1], [2]), (9, [6, 1], [10]), (7, [4, 5], [3]), (20, [1, 2, 3, 4], [60, 2, 2, 633, 2, 3, 4, 10]), (20, [1, 3, 4], [60, 1, 2, 689, 3, 4, 12]), (20, [4, 1], [50, 1, 0, 1002, 0, 2, 1, 0, 2, 1, 2])], [], [], [(20, [0, 3], [60, 1, 1, 635, 2, 10]), (20, [0, 3], [60, 2, 2, 691, 3, 2, 4, 12])], [], [(4, 5, 0, 4294967296)])
theorem oo_La_listLayers_1 {kA : Nat → ClassId} : or_ok PRD kA GG o_La_listLayers_1 := by
  refine or_mk fun A ta ws vs hD hth hl => ?_
  intro t0 r0 t2 k2 t3 k3 t4 k4 t5 k5 t6 r6 d0 f0 f1 f2 ta1 w1 le1 s1 f4 f5 f6 f7 f8 f9
  replace f0 := shm_873 f0
  replace f1 := shm_874 f1
  replace f2 := shm_5 f2
  have s1 : (∀ b j, w_el ws b j = if b = v_ad (n_v vs 6) ∧ j = (v_iv (n_v vs 5)).toNat then v_iv (n_v vs 2) else w_el w1 b j) ∧ ∀ b k, w_fd ws b k = w_fd w1 b k := s1.2
  replace f4 := shm_120 f4
  replace f5 := shm_106 f5
  replace f7 := shm_872 f7
  replace f8 := shm_873 f8
  replace f9 := shm_874 f9
  have q1 : n_v vs 1 = n_v vs 0 := f2.symm
  simp only [q1] at f0 f1 f4 f5 f7 f8 f9
  have ar_0_4_1 : w_ar w1 (n_v vs 0) 4 = w_ar ws (n_v vs 0) 4 := congrArg v_ad (s1.2 _ _).symm
  have cr_0_4 := fdq_219 hD hth r0
  have ar_0_10_1 : w_ar w1 (n_v vs 0) 10 = w_ar ws (n_v vs 0) 10 := congrArg v_ad (s1.2 _ _).symm
  have cr_0_10 := fdq_5 hD hth r0
  have ar_0_12_1 : w_ar w1 (n_v vs 0) 12 = w_ar ws (n_v vs 0) 12 := congrArg v_ad (s1.2 _ _).symm
  have cr_0_12 := fdq_217 hD hth r0
  have ad_6 : v_ad (n_v vs 6) = w_ar ws (n_v vs 0) 10 := (congrArg v_ad f5).trans ar_0_10_1
  have g4 : v_iv (n_v vs 5) = w_fi w1 (n_v vs 0) 2 := congrArg v_iv f4
  simp only [ar_0_4_1, ar_0_10_1, ar_0_12_1] at f7 f8
  have fe_0_2_1 : w_fi ws (n_v vs 0) 2 = w_fi w1 (n_v vs 0) 2 := congrArg v_iv (s1.2 _ _)
  have fe_0_3_1 : w_fi ws (n_v vs 0) 3 = w_fi w1 (n_v vs 0) 3 := congrArg v_iv (s1.2 _ _)
  have hE_0_4_1 : ∀ j : Int, w_ei ws (w_ar ws (n_v vs 0) 4) j = w_ei w1 (w_ar ws (n_v vs 0) 4) j := el_kp s1.1 r6 cr_0_4 (by decide)
  have hK_0_4 := elq_131 hD hth cr_0_4
  have hE_0_10_1 : ∀ j : Int, 0 ≤ j → (j = v_iv (n_v vs 5) → w_ei ws (w_ar ws (n_v vs 0) 10) j = v_iv (n_v vs 2)) ∧ (j ≠ v_iv (n_v vs 5) → w_ei ws (w_ar ws (n_v vs 0) 10) j = w_ei w1 (w_ar ws (n_v vs 0) 10) j) := fun j hj => ⟨fun h => by unfold w_ei; rw [s1.1, if_pos ⟨ad_6.symm, by rw [h]⟩], fun h => by unfold w_ei; rw [s1.1, if_neg (fun e => h (by have := e.2; omega))]⟩
  have hK_0_10 := elq_39 hD hth cr_0_10
  have hE_0_12_1 : ∀ j : Int, w_ei ws (w_ar ws (n_v vs 0) 12) j = w_ei w1 (w_ar ws (n_v vs 0) 12) j := el_kp s1.1 r6 cr_0_12 (by decide)
  have hK_0_12 := elq_130 hD hth cr_0_12
  have kz_0_2 := fdq_77 hD hth r0
  have kz_0_3 := fdq_218 hD hth r0
  have nf0 : fc_1 PRD (20, [0, 3], [60, 1, 1, 635, 2, 10]) ws (vs) := ⟨nf_in hl rfl, sgq_875 (vc_La_listLayers_1_0 (v_iv (n_v vs 2)) (v_iv (n_v vs 3)) (v_iv (n_v vs 4)) (v_iv (n_v vs 5)) (w_ei ws (w_ar ws (n_v vs 0) 4)) (w_ei ws (w_ar ws (n_v vs 0) 12)) (w_fi ws (n_v vs 0) 3) (w_fi ws (n_v vs 0) 2) (w_fi w1 (n_v vs 0) 2) (w_ei w1 (w_ar ws (n_v vs 0) 4)) (w_ei w1 (w_ar ws (n_v vs 0) 10)) (w_fi w1 (n_v vs 0) 3) (w_ei w1 (w_ar ws (n_v vs 0) 12)) (w_ei ws (w_ar ws (n_v vs 0) 10)) k2 k3 k4 k5 d0 f0 f1 g4 (shm_2 f6) f7 f8 f9 fe_0_2_1 fe_0_3_1 hE_0_4_1 hK_0_4 hE_0_10_1 hK_0_10 hE_0_12_1 hK_0_12 kz_0_2 kz_0_3)⟩
  have nf1 : fc_1 PRD (20, [0, 3], [60, 2, 2, 691, 3, 2, 4, 12]) ws (vs) := ⟨nf_in hl rfl, sgq_876 (vc_La_listLayers_1_1 (v_iv (n_v vs 2)) (v_iv (n_v vs 3)) (v_iv (n_v vs 4)) (v_iv (n_v vs 5)) (w_ei ws (w_ar ws (n_v vs 0) 4)) (w_ei ws (w_ar ws (n_v vs 0) 12)) (w_fi ws (n_v vs 0) 3) (w_fi ws (n_v vs 0) 2) (w_fi w1 (n_v vs 0) 2) (w_ei w1 (w_ar ws (n_v vs 0) 4)) (w_ei w1 (w_ar ws (n_v vs 0) 10)) (w_fi w1 (n_v vs 0) 3) (w_ei w1 (w_ar ws (n_v vs 0) 12)) (w_ei ws (w_ar ws (n_v vs 0) 10)) k2 k3 k4 k5 d0 f0 f1 g4 (shm_2 f6) f7 f8 f9 fe_0_2_1 fe_0_3_1 hE_0_4_1 hK_0_4 hE_0_10_1 hK_0_10 hE_0_12_1 hK_0_12 kz_0_2 kz_0_3)⟩
  refine ⟨(fun _ h => (by cases h)), [], trivial, ?_, (fun _ h => (by cases h))⟩
  rw [List.append_nil]
  exact List.forall_mem_cons.mpr ⟨⟨show (20 : Nat) < 100 from by decide, nf0⟩, List.forall_mem_cons.mpr ⟨⟨show (20 : Nat) < 100 from by decide, nf1⟩, (fun _ h => (by cases h))⟩⟩
set_option maxHeartbeats 4000000 in
theorem vc_La_listLayers_2_0 (x2 : Int) (x3 : Int) (x4 : Int) (x5 : Int) (x7 : Int) (layerOf_0 : Int → Int) (slot_0 : Int → Int) (items_0 : Int) (layerCount_0 : Int) (layerCount_1 : Int) (layerOf_1 : Int → Int) (layerStart_1 : Int → Int) (items_1 : Int) (slot_1 : Int → Int) (layerStart_0 : Int → Int) (k2 : 0 ≤ x2 ∧ x2 ≤ 72) (k3 : 0 ≤ x3 ∧ x3 ≤ 72) (k4 : 0 ≤ x4 ∧ x4 ≤ 23) (k5 : 1 ≤ x5 ∧ x5 ≤ 24) (k7 : 0 ≤ x7 ∧ x7 ≤ 0) (d0 : x5 + (-4294967296) ≤ x4 ∧ x4 ≤ x5 + (-1)) (f0 : SLA (items_0) (layerOf_0) (slot_0) (x3) (x4)) (f1 : x4 ≤ layerCount_0) (f5 : x4 < x5) (g6 : x5 = layerCount_1) (f7 : LL1 (layerCount_1) (items_1) (layerOf_1) (layerStart_1) (x2) (x3) (x4)) (f8 : SLA (items_1) (layerOf_1) (slot_1) (x3) (x4)) (f9 : x4 ≤ layerCount_1) (fe_0_2_1 : layerCount_0 = layerCount_1) (fe_0_3_1 : items_0 = items_1) (hE_0_4_1 : ∀ j : Int, layerOf_0 j = layerOf_1 j) (hK_0_4 : ∀ j : Int, 0 ≤ j → j < 72 → 0 ≤ layerOf_0 j ∧ layerOf_0 j ≤ 23) (hE_0_10_1 : ∀ j : Int, 0 ≤ j → (j = x4 → layerStart_0 j = x2) ∧ (j ≠ x4 → layerStart_0 j = layerStart_1 j)) (hK_0_10 : ∀ j : Int, 0 ≤ j → j < 26 → 0 ≤ layerStart_0 j ∧ layerStart_0 j ≤ 72) (hE_0_12_1 : ∀ j : Int, slot_0 j = slot_1 j) (hK_0_12 : ∀ j : Int, 0 ≤ j → j < 72 → 0 ≤ slot_0 j ∧ slot_0 j ≤ 71) (kz_0_2 : 0 ≤ layerCount_0 ∧ layerCount_0 ≤ 24) (kz_0_3 : 0 ≤ items_0 ∧ items_0 ≤ 72) : LL2 (layerCount_0) (items_0) (layerOf_0) (layerStart_0) (x2) (x3) (x4) (x7) := by
  subst fe_0_2_1
  subst fe_0_3_1
  have e_hE_0_4_1 := funext hE_0_4_1; subst e_hE_0_4_1
  have e_hE_0_12_1 := funext hE_0_12_1; subst e_hE_0_12_1
  first
    | exact ll2_start ‹LL1 _ _ _ _ _ _ _› (by assumption) (by omega) (by omega) (by omega)
    | (skip; exact ll2_skip ‹LL2 _ _ _ _ _ _ _ _› (by omega) (by omega) (by omega))
    | (skip; exact ll2_take ‹LL2 _ _ _ _ _ _ _ _› (by omega) (by omega) (by omega) (by omega))
  
set_option maxHeartbeats 4000000 in
theorem vc_La_listLayers_2_1 (x2 : Int) (x3 : Int) (x4 : Int) (x5 : Int) (x7 : Int) (layerOf_0 : Int → Int) (slot_0 : Int → Int) (items_0 : Int) (layerCount_0 : Int) (layerCount_1 : Int) (layerOf_1 : Int → Int) (layerStart_1 : Int → Int) (items_1 : Int) (slot_1 : Int → Int) (layerStart_0 : Int → Int) (k2 : 0 ≤ x2 ∧ x2 ≤ 72) (k3 : 0 ≤ x3 ∧ x3 ≤ 72) (k4 : 0 ≤ x4 ∧ x4 ≤ 23) (k5 : 1 ≤ x5 ∧ x5 ≤ 24) (k7 : 0 ≤ x7 ∧ x7 ≤ 0) (d0 : x5 + (-4294967296) ≤ x4 ∧ x4 ≤ x5 + (-1)) (f0 : SLA (items_0) (layerOf_0) (slot_0) (x3) (x4)) (f1 : x4 ≤ layerCount_0) (f5 : x4 < x5) (g6 : x5 = layerCount_1) (f7 : LL1 (layerCount_1) (items_1) (layerOf_1) (layerStart_1) (x2) (x3) (x4)) (f8 : SLA (items_1) (layerOf_1) (slot_1) (x3) (x4)) (f9 : x4 ≤ layerCount_1) (fe_0_2_1 : layerCount_0 = layerCount_1) (fe_0_3_1 : items_0 = items_1) (hE_0_4_1 : ∀ j : Int, layerOf_0 j = layerOf_1 j) (hK_0_4 : ∀ j : Int, 0 ≤ j → j < 72 → 0 ≤ layerOf_0 j ∧ layerOf_0 j ≤ 23) (hE_0_10_1 : ∀ j : Int, 0 ≤ j → (j = x4 → layerStart_0 j = x2) ∧ (j ≠ x4 → layerStart_0 j = layerStart_1 j)) (hK_0_10 : ∀ j : Int, 0 ≤ j → j < 26 → 0 ≤ layerStart_0 j ∧ layerStart_0 j ≤ 72) (hE_0_12_1 : ∀ j : Int, slot_0 j = slot_1 j) (hK_0_12 : ∀ j : Int, 0 ≤ j → j < 72 → 0 ≤ slot_0 j ∧ slot_0 j ≤ 71) (kz_0_2 : 0 ≤ layerCount_0 ∧ layerCount_0 ≤ 24) (kz_0_3 : 0 ≤ items_0 ∧ items_0 ≤ 72) : SLB (items_0) (layerOf_0) (slot_0) (layerStart_0) (x3) (x4) (x7) (x2) := by
  subst fe_0_2_1
  subst fe_0_3_1
  have e_hE_0_4_1 := funext hE_0_4_1; subst e_hE_0_4_1
  have e_hE_0_12_1 := funext hE_0_12_1; subst e_hE_0_12_1
  first
    | exact slb_start ‹SLA _ _ _ _ _› (by omega)
    | (skip; exact slb_skip ‹SLB _ _ _ _ _ _ _ _› (by omega) (by omega))
    | exact slb_take (p := x5) (x := x16) ‹SLB _ _ _ _ _ _ _ _› (by omega) hE_0_12_1 rfl (by have q := (hE_0_14_2 x5 (by omega)).1 rfl; omega) (by omega) (by omega) (by omega)
  
set_option maxHeartbeats 4000000 in
theorem vc_La_listLayers_2_2 (x2 : Int) (x3 : Int) (x4 : Int) (x5 : Int) (x7 : Int) (layerOf_0 : Int → Int) (slot_0 : Int → Int) (items_0 : Int) (layerCount_0 : Int) (layerCount_1 : Int) (layerOf_1 : Int → Int) (layerStart_1 : Int → Int) (items_1 : Int) (slot_1 : Int → Int) (layerStart_0 : Int → Int) (k2 : 0 ≤ x2 ∧ x2 ≤ 72) (k3 : 0 ≤ x3 ∧ x3 ≤ 72) (k4 : 0 ≤ x4 ∧ x4 ≤ 23) (k5 : 1 ≤ x5 ∧ x5 ≤ 24) (k7 : 0 ≤ x7 ∧ x7 ≤ 0) (d0 : x5 + (-4294967296) ≤ x4 ∧ x4 ≤ x5 + (-1)) (f0 : SLA (items_0) (layerOf_0) (slot_0) (x3) (x4)) (f1 : x4 ≤ layerCount_0) (f5 : x4 < x5) (g6 : x5 = layerCount_1) (f7 : LL1 (layerCount_1) (items_1) (layerOf_1) (layerStart_1) (x2) (x3) (x4)) (f8 : SLA (items_1) (layerOf_1) (slot_1) (x3) (x4)) (f9 : x4 ≤ layerCount_1) (fe_0_2_1 : layerCount_0 = layerCount_1) (fe_0_3_1 : items_0 = items_1) (hE_0_4_1 : ∀ j : Int, layerOf_0 j = layerOf_1 j) (hK_0_4 : ∀ j : Int, 0 ≤ j → j < 72 → 0 ≤ layerOf_0 j ∧ layerOf_0 j ≤ 23) (hE_0_10_1 : ∀ j : Int, 0 ≤ j → (j = x4 → layerStart_0 j = x2) ∧ (j ≠ x4 → layerStart_0 j = layerStart_1 j)) (hK_0_10 : ∀ j : Int, 0 ≤ j → j < 26 → 0 ≤ layerStart_0 j ∧ layerStart_0 j ≤ 72) (hE_0_12_1 : ∀ j : Int, slot_0 j = slot_1 j) (hK_0_12 : ∀ j : Int, 0 ≤ j → j < 72 → 0 ≤ slot_0 j ∧ slot_0 j ≤ 71) (kz_0_2 : 0 ≤ layerCount_0 ∧ layerCount_0 ≤ 24) (kz_0_3 : 0 ≤ items_0 ∧ items_0 ≤ 72) : (x4 + 1) ≤ layerCount_0 := by
  subst fe_0_2_1
  subst fe_0_3_1
  have e_hE_0_4_1 := funext hE_0_4_1; subst e_hE_0_4_1
  have e_hE_0_12_1 := funext hE_0_12_1; subst e_hE_0_12_1
  first
    | omega
    | (have q := ll1_low ‹LL1 _ _ _ _ _ _ _›; omega)
    | (skip; have q := ll2_low ‹LL2 _ _ _ _ _ _ _ _› (by omega) (by omega); omega)
  
def o_La_listLayers_2 : or_T := (24, 8, [(0, (2, 0, 0, [4])), (2, (0, 0, 72, [])), (3, (0, 0, 72, [])), (4, (0, 0, 23, [])), (5, (0, 1, 24, [])), (6, (2, 0, 0, [68])), (7, (0, 0, 0, []))], [(20, [1, 3, 4], [60, 1, 2, 689, 3, 4, 12]), (20, [4, 1], [50, 1, 0, 1002, 0, 2, 1, 0, 2, 1, 2]), (24, [0, 1], []), (100, [6, 4, 2], []), (9, [6, 1], [10]), (7, [4, 5], [2]), (9, [5, 1], [2]), (20, [1, 2, 3, 4], [60, 2, 2, 633, 2, 3, 4, 10]), (20, [1, 3, 4], [60, 1, 2, 689, 3, 4, 12]), (20, [4, 1], [50, 1, 0, 1002, 0, 2, 1, 0, 2, 1, 2])], [], [], [(20, [1, 2, 3, 4, 7], [60, 2, 2, 634, 2, 3, 4, 10]), (20, [1, 3, 4, 7, 2], [60, 1, 3, 690, 3, 4, 12, 10]), (20, [4, 1], [50, 1, 0, 1002, 0, 6, 4, 2, 1, 0, 0, 1, 2, 1, 2])], [], [(4, 5, -4294967296, -1)])
theorem oo_La_listLayers_2 {kA : Nat → ClassId} : or_ok PRD kA GG o_La_listLayers_2 := by
  refine or_mk fun A ta ws vs hD hth hl => ?_
  intro t0 r0 t2 k2 t3 k3 t4 k4 t5 k5 t6 r6 t7 k7 d0 f0 f1 f2 ta1 w1 le1 s1 f4 f5 f6 f7 f8 f9
  replace f0 := shm_873 f0
  replace f1 := shm_874 f1
  replace f2 := shm_5 f2
  have s1 : (∀ b j, w_el ws b j = if b = v_ad (n_v vs 6) ∧ j = (v_iv (n_v vs 4)).toNat then v_iv (n_v vs 2) else w_el w1 b j) ∧ ∀ b k, w_fd ws b k = w_fd w1 b k := s1.2
  replace f4 := shm_106 f4
  replace f5 := shm_6 f5
  replace f6 := shm_120 f6
  replace f7 := shm_872 f7
  replace f8 := shm_873 f8
  replace f9 := shm_874 f9
  have q1 : n_v vs 1 = n_v vs 0 := f2.symm
  simp only [q1] at f0 f1 f4 f6 f7 f8 f9
  have ar_0_4_1 : w_ar w1 (n_v vs 0) 4 = w_ar ws (n_v vs 0) 4 := congrArg v_ad (s1.2 _ _).symm
  have cr_0_4 := fdq_219 hD hth r0
  have ar_0_10_1 : w_ar w1 (n_v vs 0) 10 = w_ar ws (n_v vs 0) 10 := congrArg v_ad (s1.2 _ _).symm
  have cr_0_10 := fdq_5 hD hth r0
  have ar_0_12_1 : w_ar w1 (n_v vs 0) 12 = w_ar ws (n_v vs 0) 12 := congrArg v_ad (s1.2 _ _).symm
  have cr_0_12 := fdq_217 hD hth r0
  have ad_6 : v_ad (n_v vs 6) = w_ar ws (n_v vs 0) 10 := (congrArg v_ad f4).trans ar_0_10_1
  have g6 : v_iv (n_v vs 5) = w_fi w1 (n_v vs 0) 2 := congrArg v_iv f6
  simp only [ar_0_4_1, ar_0_10_1, ar_0_12_1] at f7 f8
  have fe_0_2_1 : w_fi ws (n_v vs 0) 2 = w_fi w1 (n_v vs 0) 2 := congrArg v_iv (s1.2 _ _)
  have fe_0_3_1 : w_fi ws (n_v vs 0) 3 = w_fi w1 (n_v vs 0) 3 := congrArg v_iv (s1.2 _ _)
  have hE_0_4_1 : ∀ j : Int, w_ei ws (w_ar ws (n_v vs 0) 4) j = w_ei w1 (w_ar ws (n_v vs 0) 4) j := el_kp s1.1 r6 cr_0_4 (by decide)
  have hK_0_4 := elq_131 hD hth cr_0_4
  have hE_0_10_1 : ∀ j : Int, 0 ≤ j → (j = v_iv (n_v vs 4) → w_ei ws (w_ar ws (n_v vs 0) 10) j = v_iv (n_v vs 2)) ∧ (j ≠ v_iv (n_v vs 4) → w_ei ws (w_ar ws (n_v vs 0) 10) j = w_ei w1 (w_ar ws (n_v vs 0) 10) j) := fun j hj => ⟨fun h => by unfold w_ei; rw [s1.1, if_pos ⟨ad_6.symm, by rw [h]⟩], fun h => by unfold w_ei; rw [s1.1, if_neg (fun e => h (by have := e.2; omega))]⟩
  have hK_0_10 := elq_39 hD hth cr_0_10
  have hE_0_12_1 : ∀ j : Int, w_ei ws (w_ar ws (n_v vs 0) 12) j = w_ei w1 (w_ar ws (n_v vs 0) 12) j := el_kp s1.1 r6 cr_0_12 (by decide)
  have hK_0_12 := elq_130 hD hth cr_0_12
  have kz_0_2 := fdq_77 hD hth r0
  have kz_0_3 := fdq_218 hD hth r0
  have nf0 : fc_1 PRD (20, [1, 2, 3, 4, 7], [60, 2, 2, 634, 2, 3, 4, 10]) ws (vs) := by
    refine ⟨nf_in hl rfl, sgq_877 ?_⟩
    · show LL2 (w_fi ws (n_v vs 1) 2) (w_fi ws (n_v vs 1) 3) (w_ei ws (w_ar ws (n_v vs 1) 4)) (w_ei ws (w_ar ws (n_v vs 1) 10)) (v_iv (n_v vs 2)) (v_iv (n_v vs 3)) (v_iv (n_v vs 4)) (v_iv (n_v vs 7))
      rw [q1]
      exact vc_La_listLayers_2_0 (v_iv (n_v vs 2)) (v_iv (n_v vs 3)) (v_iv (n_v vs 4)) (v_iv (n_v vs 5)) (v_iv (n_v vs 7)) (w_ei ws (w_ar ws (n_v vs 0) 4)) (w_ei ws (w_ar ws (n_v vs 0) 12)) (w_fi ws (n_v vs 0) 3) (w_fi ws (n_v vs 0) 2) (w_fi w1 (n_v vs 0) 2) (w_ei w1 (w_ar ws (n_v vs 0) 4)) (w_ei w1 (w_ar ws (n_v vs 0) 10)) (w_fi w1 (n_v vs 0) 3) (w_ei w1 (w_ar ws (n_v vs 0) 12)) (w_ei ws (w_ar ws (n_v vs 0) 10)) k2 k3 k4 k5 k7 d0 f0 f1 f5 g6 f7 f8 f9 fe_0_2_1 fe_0_3_1 hE_0_4_1 hK_0_4 hE_0_10_1 hK_0_10 hE_0_12_1 hK_0_12 kz_0_2 kz_0_3
  have nf1 : fc_1 PRD (20, [1, 3, 4, 7, 2], [60, 1, 3, 690, 3, 4, 12, 10]) ws (vs) := by
    refine ⟨nf_in hl rfl, sgq_878 ?_⟩
    · show SLB (w_fi ws (n_v vs 1) 3) (w_ei ws (w_ar ws (n_v vs 1) 4)) (w_ei ws (w_ar ws (n_v vs 1) 12)) (w_ei ws (w_ar ws (n_v vs 1) 10)) (v_iv (n_v vs 3)) (v_iv (n_v vs 4)) (v_iv (n_v vs 7)) (v_iv (n_v vs 2))
      rw [q1]
      exact vc_La_listLayers_2_1 (v_iv (n_v vs 2)) (v_iv (n_v vs 3)) (v_iv (n_v vs 4)) (v_iv (n_v vs 5)) (v_iv (n_v vs 7)) (w_ei ws (w_ar ws (n_v vs 0) 4)) (w_ei ws (w_ar ws (n_v vs 0) 12)) (w_fi ws (n_v vs 0) 3) (w_fi ws (n_v vs 0) 2) (w_fi w1 (n_v vs 0) 2) (w_ei w1 (w_ar ws (n_v vs 0) 4)) (w_ei w1 (w_ar ws (n_v vs 0) 10)) (w_fi w1 (n_v vs 0) 3) (w_ei w1 (w_ar ws (n_v vs 0) 12)) (w_ei ws (w_ar ws (n_v vs 0) 10)) k2 k3 k4 k5 k7 d0 f0 f1 f5 g6 f7 f8 f9 fe_0_2_1 fe_0_3_1 hE_0_4_1 hK_0_4 hE_0_10_1 hK_0_10 hE_0_12_1 hK_0_12 kz_0_2 kz_0_3
  have nf2 : fc_1 PRD (20, [4, 1], [50, 1, 0, 1002, 0, 6, 4, 2, 1, 0, 0, 1, 2, 1, 2]) ws (vs) := by
    refine ⟨nf_in hl rfl, sgq_879 ?_⟩
    · show (v_iv (n_v vs 4) + 1) ≤ w_fi ws (n_v vs 1) 2
      rw [q1]
      exact vc_La_listLayers_2_2 (v_iv (n_v vs 2)) (v_iv (n_v vs 3)) (v_iv (n_v vs 4)) (v_iv (n_v vs 5)) (v_iv (n_v vs 7)) (w_ei ws (w_ar ws (n_v vs 0) 4)) (w_ei ws (w_ar ws (n_v vs 0) 12)) (w_fi ws (n_v vs 0) 3) (w_fi ws (n_v vs 0) 2) (w_fi w1 (n_v vs 0) 2) (w_ei w1 (w_ar ws (n_v vs 0) 4)) (w_ei w1 (w_ar ws (n_v vs 0) 10)) (w_fi w1 (n_v vs 0) 3) (w_ei w1 (w_ar ws (n_v vs 0) 12)) (w_ei ws (w_ar ws (n_v vs 0) 10)) k2 k3 k4 k5 k7 d0 f0 f1 f5 g6 f7 f8 f9 fe_0_2_1 fe_0_3_1 hE_0_4_1 hK_0_4 hE_0_10_1 hK_0_10 hE_0_12_1 hK_0_12 kz_0_2 kz_0_3
  refine ⟨(fun _ h => (by cases h)), [], trivial, ?_, (fun _ h => (by cases h))⟩
  rw [List.append_nil]
  exact List.forall_mem_cons.mpr ⟨⟨show (20 : Nat) < 100 from by decide, nf0⟩, List.forall_mem_cons.mpr ⟨⟨show (20 : Nat) < 100 from by decide, nf1⟩, List.forall_mem_cons.mpr ⟨⟨show (20 : Nat) < 100 from by decide, nf2⟩, (fun _ h => (by cases h))⟩⟩⟩
set_option maxHeartbeats 4000000 in
theorem vc_La_listLayers_3_0 (x2 : Int) (x3 : Int) (x4 : Int) (x5 : Int) (x6 : Int) (x8 : Int) (x9 : Int) (x10 : Int) (x11 : Int) (layerStart_0 : Int → Int) (items_0 : Int) (layerOf_0 : Int → Int) (layerCount_0 : Int) (slot_0 : Int → Int) (k2 : 0 ≤ x2 ∧ x2 ≤ 72) (k3 : 0 ≤ x3 ∧ x3 ≤ 72) (k4 : 0 ≤ x4 ∧ x4 ≤ 23) (k5 : 0 ≤ x5 ∧ x5 ≤ 72) (k6 : 0 ≤ x6 ∧ x6 ≤ 72) (k8 : 0 ≤ x8 ∧ x8 ≤ 72) (k9 : (-72) ≤ x9 ∧ x9 ≤ 72) (k10 : 0 ≤ x10 ∧ x10 ≤ 72) (k11 : 1 ≤ x11 ∧ x11 ≤ 24) (d0 : x4 + 1 ≤ x11 ∧ x11 ≤ x4 + 1) (d1 : x2 + (-72) ≤ x9 ∧ x9 ≤ x2 + 0) (d2 : x6 + 0 ≤ x5 ∧ x5 ≤ x6 + 4294967296) (f0 : x11 = x4 + 1) (f1 : 1 * x3 + ((-1) * x10 + 0) ≤ 0) (f2 : 1 * x9 + ((-1) * x10 + 0) ≤ 0) (f3 : x9 = x2 - x8) (h4 : x8 = layerStart_0 (x4)) (f6 : x6 ≤ x5) (g7 : x6 = items_0) (f8 : LL2 (layerCount_0) (items_0) (layerOf_0) (layerStart_0) (x2) (x3) (x4) (x5)) (f9 : SLB (items_0) (layerOf_0) (slot_0) (layerStart_0) (x3) (x4) (x5) (x2)) (f10 : (x4 + 1) ≤ layerCount_0) (hK_0_4 : ∀ j : Int, 0 ≤ j → j < 72 → 0 ≤ layerOf_0 j ∧ layerOf_0 j ≤ 23) (hK_0_10 : ∀ j : Int, 0 ≤ j → j < 26 → 0 ≤ layerStart_0 j ∧ layerStart_0 j ≤ 72) (hK_0_12 : ∀ j : Int, 0 ≤ j → j < 72 → 0 ≤ slot_0 j ∧ slot_0 j ≤ 71) (kz_0_2 : 0 ≤ layerCount_0 ∧ layerCount_0 ≤ 24) (kz_0_3 : 0 ≤ items_0 ∧ items_0 ≤ 72) : LL1 (layerCount_0) (items_0) (layerOf_0) (layerStart_0) (x2) (x10) (x11) := by
  first
    | exact ll1_start (by omega) (by omega) (by omega) (by omega) (by omega) (fun j a b => by have q := ‹∀ j : Int, 0 ≤ j → j < 72 → 0 ≤ layerOf_0 j ∧ layerOf_0 j ≤ 23› j a (by omega); omega)
    | (skip; (first | subst h4 | skip); exact ll1_next ‹LL2 _ _ _ _ _ _ _ _› (by omega) (by omega) (by omega) (by omega))
  
set_option maxHeartbeats 4000000 in
theorem vc_La_listLayers_3_1 (x2 : Int) (x3 : Int) (x4 : Int) (x5 : Int) (x6 : Int) (x8 : Int) (x9 : Int) (x10 : Int) (x11 : Int) (layerStart_0 : Int → Int) (items_0 : Int) (layerOf_0 : Int → Int) (layerCount_0 : Int) (slot_0 : Int → Int) (k2 : 0 ≤ x2 ∧ x2 ≤ 72) (k3 : 0 ≤ x3 ∧ x3 ≤ 72) (k4 : 0 ≤ x4 ∧ x4 ≤ 23) (k5 : 0 ≤ x5 ∧ x5 ≤ 72) (k6 : 0 ≤ x6 ∧ x6 ≤ 72) (k8 : 0 ≤ x8 ∧ x8 ≤ 72) (k9 : (-72) ≤ x9 ∧ x9 ≤ 72) (k10 : 0 ≤ x10 ∧ x10 ≤ 72) (k11 : 1 ≤ x11 ∧ x11 ≤ 24) (d0 : x4 + 1 ≤ x11 ∧ x11 ≤ x4 + 1) (d1 : x2 + (-72) ≤ x9 ∧ x9 ≤ x2 + 0) (d2 : x6 + 0 ≤ x5 ∧ x5 ≤ x6 + 4294967296) (f0 : x11 = x4 + 1) (f1 : 1 * x3 + ((-1) * x10 + 0) ≤ 0) (f2 : 1 * x9 + ((-1) * x10 + 0) ≤ 0) (f3 : x9 = x2 - x8) (h4 : x8 = layerStart_0 (x4)) (f6 : x6 ≤ x5) (g7 : x6 = items_0) (f8 : LL2 (layerCount_0) (items_0) (layerOf_0) (layerStart_0) (x2) (x3) (x4) (x5)) (f9 : SLB (items_0) (layerOf_0) (slot_0) (layerStart_0) (x3) (x4) (x5) (x2)) (f10 : (x4 + 1) ≤ layerCount_0) (hK_0_4 : ∀ j : Int, 0 ≤ j → j < 72 → 0 ≤ layerOf_0 j ∧ layerOf_0 j ≤ 23) (hK_0_10 : ∀ j : Int, 0 ≤ j → j < 26 → 0 ≤ layerStart_0 j ∧ layerStart_0 j ≤ 72) (hK_0_12 : ∀ j : Int, 0 ≤ j → j < 72 → 0 ≤ slot_0 j ∧ slot_0 j ≤ 71) (kz_0_2 : 0 ≤ layerCount_0 ∧ layerCount_0 ≤ 24) (kz_0_3 : 0 ≤ items_0 ∧ items_0 ≤ 72) : SLA (items_0) (layerOf_0) (slot_0) (x10) (x11) := by
  first
    | exact sla_start (by omega)
    | (skip; (first | subst h4 | skip); exact sla_next ‹SLB _ _ _ _ _ _ _ _› (by omega) (by omega) (by omega) (by omega))
  
set_option maxHeartbeats 4000000 in
theorem vc_La_listLayers_3_2 (x2 : Int) (x3 : Int) (x4 : Int) (x5 : Int) (x6 : Int) (x8 : Int) (x9 : Int) (x10 : Int) (x11 : Int) (layerStart_0 : Int → Int) (items_0 : Int) (layerOf_0 : Int → Int) (layerCount_0 : Int) (slot_0 : Int → Int) (k2 : 0 ≤ x2 ∧ x2 ≤ 72) (k3 : 0 ≤ x3 ∧ x3 ≤ 72) (k4 : 0 ≤ x4 ∧ x4 ≤ 23) (k5 : 0 ≤ x5 ∧ x5 ≤ 72) (k6 : 0 ≤ x6 ∧ x6 ≤ 72) (k8 : 0 ≤ x8 ∧ x8 ≤ 72) (k9 : (-72) ≤ x9 ∧ x9 ≤ 72) (k10 : 0 ≤ x10 ∧ x10 ≤ 72) (k11 : 1 ≤ x11 ∧ x11 ≤ 24) (d0 : x4 + 1 ≤ x11 ∧ x11 ≤ x4 + 1) (d1 : x2 + (-72) ≤ x9 ∧ x9 ≤ x2 + 0) (d2 : x6 + 0 ≤ x5 ∧ x5 ≤ x6 + 4294967296) (f0 : x11 = x4 + 1) (f1 : 1 * x3 + ((-1) * x10 + 0) ≤ 0) (f2 : 1 * x9 + ((-1) * x10 + 0) ≤ 0) (f3 : x9 = x2 - x8) (h4 : x8 = layerStart_0 (x4)) (f6 : x6 ≤ x5) (g7 : x6 = items_0) (f8 : LL2 (layerCount_0) (items_0) (layerOf_0) (layerStart_0) (x2) (x3) (x4) (x5)) (f9 : SLB (items_0) (layerOf_0) (slot_0) (layerStart_0) (x3) (x4) (x5) (x2)) (f10 : (x4 + 1) ≤ layerCount_0) (hK_0_4 : ∀ j : Int, 0 ≤ j → j < 72 → 0 ≤ layerOf_0 j ∧ layerOf_0 j ≤ 23) (hK_0_10 : ∀ j : Int, 0 ≤ j → j < 26 → 0 ≤ layerStart_0 j ∧ layerStart_0 j ≤ 72) (hK_0_12 : ∀ j : Int, 0 ≤ j → j < 72 → 0 ≤ slot_0 j ∧ slot_0 j ≤ 71) (kz_0_2 : 0 ≤ layerCount_0 ∧ layerCount_0 ≤ 24) (kz_0_3 : 0 ≤ items_0 ∧ items_0 ≤ 72) : x11 ≤ layerCount_0 := by
  first
    | omega
    | (have q := ll1_low ‹LL1 _ _ _ _ _ _ _›; omega)
    | (skip; (first | subst h4 | skip); have q := ll2_low ‹LL2 _ _ _ _ _ _ _ _› (by omega) (by omega); omega)
  
def o_La_listLayers_3 : or_T := (6, 12, [(0, (2, 0, 0, [4])), (2, (0, 0, 72, [])), (3, (0, 0, 72, [])), (4, (0, 0, 23, [])), (5, (0, 0, 72, [])), (6, (0, 0, 72, [])), (8, (0, 0, 72, [])), (9, (0, -72, 72, [])), (10, (0, 0, 72, [])), (11, (0, 1, 24, []))], [(6, [11, 4], [1]), (23, [3, 10], [0, 1, -1]), (23, [9, 10], [0, 1, -1]), (2, [9, 2, 8], []), (10, [8, 7, 4], []), (9, [7, 1], [10]), (7, [5, 6], [3]), (9, [6, 1], [3]), (20, [1, 2, 3, 4, 5], [60, 2, 2, 634, 2, 3, 4, 10]), (20, [1, 3, 4, 5, 2], [60, 1, 3, 690, 3, 4, 12, 10]), (20, [4, 1], [50, 1, 0, 1002, 0, 6, 4, 2, 1, 0, 0, 1, 2, 1, 2]), (24, [0, 1], [])], [], [], [(20, [1, 2, 10, 11], [60, 2, 2, 633, 2, 3, 4, 10]), (20, [1, 10, 11], [60, 1, 2, 689, 3, 4, 12]), (20, [11, 1], [50, 1, 0, 1002, 0, 2, 1, 0, 2, 1, 2])], [], [(11, 4, 1, 1), (9, 2, -72, 0), (5, 6, 0, 4294967296)])
theorem oo_La_listLayers_3 {kA : Nat → ClassId} : or_ok PRD kA GG o_La_listLayers_3 := by
  refine or_mk fun A ta ws vs hD hth hl => ?_
  intro t0 r0 t2 k2 t3 k3 t4 k4 t5 k5 t6 k6 t8 k8 t9 k9 t10 k10 t11 k11 d0 d1 d2 f0 f1 f2 f3 f4 f5 f6 f7 f8 f9 f10 f11
  replace f0 := shm_4 f0
  replace f1 := shm_7 f1
  replace f2 := shm_7 f2
  replace f3 := shm_14 f3
  replace f4 := shm_107 f4
  replace f5 := shm_106 f5
  replace f6 := shm_2 f6
  replace f7 := shm_137 f7
  replace f8 := shm_877 f8
  replace f9 := shm_878 f9
  replace f10 := shm_879 f10
  replace f11 := shm_5 f11
  have q1 : n_v vs 1 = n_v vs 0 := f11.symm
  simp only [q1] at f5 f7 f8 f9 f10
  have cr_0_4 := fdq_219 hD hth r0
  have cr_0_10 := fdq_5 hD hth r0
  have cr_0_12 := fdq_217 hD hth r0
  have ad_7 : v_ad (n_v vs 7) = w_ar ws (n_v vs 0) 10 := congrArg v_ad f5
  simp only [ad_7] at f4
  have h4 : v_iv (n_v vs 8) = w_ei ws (w_ar ws (n_v vs 0) 10) (v_iv (n_v vs 4)) := f4
  have g7 : v_iv (n_v vs 6) = w_fi ws (n_v vs 0) 3 := congrArg v_iv f7
  have hK_0_4 := elq_131 hD hth cr_0_4
  have hK_0_10 := elq_39 hD hth cr_0_10
  have hK_0_12 := elq_130 hD hth cr_0_12
  have kz_0_2 := fdq_77 hD hth r0
  have kz_0_3 := fdq_218 hD hth r0
  have nf0 : fc_1 PRD (20, [1, 2, 10, 11], [60, 2, 2, 633, 2, 3, 4, 10]) ws (vs) := by
    refine ⟨nf_in hl rfl, sgq_872 ?_⟩
    · show LL1 (w_fi ws (n_v vs 1) 2) (w_fi ws (n_v vs 1) 3) (w_ei ws (w_ar ws (n_v vs 1) 4)) (w_ei ws (w_ar ws (n_v vs 1) 10)) (v_iv (n_v vs 2)) (v_iv (n_v vs 10)) (v_iv (n_v vs 11))
      rw [q1]
      exact vc_La_listLayers_3_0 (v_iv (n_v vs 2)) (v_iv (n_v vs 3)) (v_iv (n_v vs 4)) (v_iv (n_v vs 5)) (v_iv (n_v vs 6)) (v_iv (n_v vs 8)) (v_iv (n_v vs 9)) (v_iv (n_v vs 10)) (v_iv (n_v vs 11)) (w_ei ws (w_ar ws (n_v vs 0) 10)) (w_fi ws (n_v vs 0) 3) (w_ei ws (w_ar ws (n_v vs 0) 4)) (w_fi ws (n_v vs 0) 2) (w_ei ws (w_ar ws (n_v vs 0) 12)) k2 k3 k4 k5 k6 k8 k9 k10 k11 d0 d1 d2 f0 f1 f2 f3 h4 f6 g7 f8 f9 f10 hK_0_4 hK_0_10 hK_0_12 kz_0_2 kz_0_3
  have nf1 : fc_1 PRD (20, [1, 10, 11], [60, 1, 2, 689, 3, 4, 12]) ws (vs) := by
    refine ⟨nf_in hl rfl, sgq_873 ?_⟩
    · show SLA (w_fi ws (n_v vs 1) 3) (w_ei ws (w_ar ws (n_v vs 1) 4)) (w_ei ws (w_ar ws (n_v vs 1) 12)) (v_iv (n_v vs 10)) (v_iv (n_v vs 11))
      rw [q1]
      exact vc_La_listLayers_3_1 (v_iv (n_v vs 2)) (v_iv (n_v vs 3)) (v_iv (n_v vs 4)) (v_iv (n_v vs 5)) (v_iv (n_v vs 6)) (v_iv (n_v vs 8)) (v_iv (n_v vs 9)) (v_iv (n_v vs 10)) (v_iv (n_v vs 11)) (w_ei ws (w_ar ws (n_v vs 0) 10)) (w_fi ws (n_v vs 0) 3) (w_ei ws (w_ar ws (n_v vs 0) 4)) (w_fi ws (n_v vs 0) 2) (w_ei ws (w_ar ws (n_v vs 0) 12)) k2 k3 k4 k5 k6 k8 k9 k10 k11 d0 d1 d2 f0 f1 f2 f3 h4 f6 g7 f8 f9 f10 hK_0_4 hK_0_10 hK_0_12 kz_0_2 kz_0_3
  have nf2 : fc_1 PRD (20, [11, 1], [50, 1, 0, 1002, 0, 2, 1, 0, 2, 1, 2]) ws (vs) := by
    refine ⟨nf_in hl rfl, sgq_874 ?_⟩
    · show v_iv (n_v vs 11) ≤ w_fi ws (n_v vs 1) 2
      rw [q1]
      exact vc_La_listLayers_3_2 (v_iv (n_v vs 2)) (v_iv (n_v vs 3)) (v_iv (n_v vs 4)) (v_iv (n_v vs 5)) (v_iv (n_v vs 6)) (v_iv (n_v vs 8)) (v_iv (n_v vs 9)) (v_iv (n_v vs 10)) (v_iv (n_v vs 11)) (w_ei ws (w_ar ws (n_v vs 0) 10)) (w_fi ws (n_v vs 0) 3) (w_ei ws (w_ar ws (n_v vs 0) 4)) (w_fi ws (n_v vs 0) 2) (w_ei ws (w_ar ws (n_v vs 0) 12)) k2 k3 k4 k5 k6 k8 k9 k10 k11 d0 d1 d2 f0 f1 f2 f3 h4 f6 g7 f8 f9 f10 hK_0_4 hK_0_10 hK_0_12 kz_0_2 kz_0_3
  refine ⟨(fun _ h => (by cases h)), [], trivial, ?_, (fun _ h => (by cases h))⟩
  rw [List.append_nil]
  exact List.forall_mem_cons.mpr ⟨⟨show (20 : Nat) < 100 from by decide, nf0⟩, List.forall_mem_cons.mpr ⟨⟨show (20 : Nat) < 100 from by decide, nf1⟩, List.forall_mem_cons.mpr ⟨⟨show (20 : Nat) < 100 from by decide, nf2⟩, (fun _ h => (by cases h))⟩⟩⟩
set_option maxHeartbeats 4000000 in
theorem vc_La_listLayers_4_0 (x2 : Int) (x3 : Int) (x4 : Int) (x5 : Int) (x6 : Int) (x8 : Int) (x9 : Int) (layerOf_0 : Int → Int) (items_0 : Int) (layerStart_0 : Int → Int) (layerCount_0 : Int) (slot_0 : Int → Int) (k2 : 0 ≤ x2 ∧ x2 ≤ 72) (k3 : 0 ≤ x3 ∧ x3 ≤ 72) (k4 : 0 ≤ x4 ∧ x4 ≤ 23) (k5 : 0 ≤ x5 ∧ x5 ≤ 71) (k6 : 1 ≤ x6 ∧ x6 ≤ 72) (k8 : 0 ≤ x8 ∧ x8 ≤ 23) (k9 : 1 ≤ x9 ∧ x9 ≤ 72) (d0 : x5 + 1 ≤ x9 ∧ x9 ≤ x5 + 1) (d1 : x6 + (-4294967296) ≤ x9 ∧ x9 ≤ x6 + 0) (d2 : x6 + (-4294967296) ≤ x5 ∧ x5 ≤ x6 + (-1)) (f0 : x9 = x5 + 1) (f1 : x8 ≠ x4) (h2 : x8 = layerOf_0 (x5)) (f4 : x5 < x6) (g5 : x6 = items_0) (f6 : LL2 (layerCount_0) (items_0) (layerOf_0) (layerStart_0) (x2) (x3) (x4) (x5)) (f7 : SLB (items_0) (layerOf_0) (slot_0) (layerStart_0) (x3) (x4) (x5) (x2)) (f8 : (x4 + 1) ≤ layerCount_0) (hK_0_4 : ∀ j : Int, 0 ≤ j → j < 72 → 0 ≤ layerOf_0 j ∧ layerOf_0 j ≤ 23) (hK_0_10 : ∀ j : Int, 0 ≤ j → j < 26 → 0 ≤ layerStart_0 j ∧ layerStart_0 j ≤ 72) (hK_0_12 : ∀ j : Int, 0 ≤ j → j < 72 → 0 ≤ slot_0 j ∧ slot_0 j ≤ 71) (kz_0_2 : 0 ≤ layerCount_0 ∧ layerCount_0 ≤ 24) (kz_0_3 : 0 ≤ items_0 ∧ items_0 ≤ 72) : LL2 (layerCount_0) (items_0) (layerOf_0) (layerStart_0) (x2) (x3) (x4) (x9) := by
  first
    | exact ll2_start ‹LL1 _ _ _ _ _ _ _› (by assumption) (by omega) (by omega) (by omega)
    | (skip; (first | subst h2 | skip); exact ll2_skip ‹LL2 _ _ _ _ _ _ _ _› (by omega) (by omega) (by omega))
    | (skip; (first | subst h2 | skip); exact ll2_take ‹LL2 _ _ _ _ _ _ _ _› (by omega) (by omega) (by omega) (by omega))
  
set_option maxHeartbeats 4000000 in
theorem vc_La_listLayers_4_1 (x2 : Int) (x3 : Int) (x4 : Int) (x5 : Int) (x6 : Int) (x8 : Int) (x9 : Int) (layerOf_0 : Int → Int) (items_0 : Int) (layerStart_0 : Int → Int) (layerCount_0 : Int) (slot_0 : Int → Int) (k2 : 0 ≤ x2 ∧ x2 ≤ 72) (k3 : 0 ≤ x3 ∧ x3 ≤ 72) (k4 : 0 ≤ x4 ∧ x4 ≤ 23) (k5 : 0 ≤ x5 ∧ x5 ≤ 71) (k6 : 1 ≤ x6 ∧ x6 ≤ 72) (k8 : 0 ≤ x8 ∧ x8 ≤ 23) (k9 : 1 ≤ x9 ∧ x9 ≤ 72) (d0 : x5 + 1 ≤ x9 ∧ x9 ≤ x5 + 1) (d1 : x6 + (-4294967296) ≤ x9 ∧ x9 ≤ x6 + 0) (d2 : x6 + (-4294967296) ≤ x5 ∧ x5 ≤ x6 + (-1)) (f0 : x9 = x5 + 1) (f1 : x8 ≠ x4) (h2 : x8 = layerOf_0 (x5)) (f4 : x5 < x6) (g5 : x6 = items_0) (f6 : LL2 (layerCount_0) (items_0) (layerOf_0) (layerStart_0) (x2) (x3) (x4) (x5)) (f7 : SLB (items_0) (layerOf_0) (slot_0) (layerStart_0) (x3) (x4) (x5) (x2)) (f8 : (x4 + 1) ≤ layerCount_0) (hK_0_4 : ∀ j : Int, 0 ≤ j → j < 72 → 0 ≤ layerOf_0 j ∧ layerOf_0 j ≤ 23) (hK_0_10 : ∀ j : Int, 0 ≤ j → j < 26 → 0 ≤ layerStart_0 j ∧ layerStart_0 j ≤ 72) (hK_0_12 : ∀ j : Int, 0 ≤ j → j < 72 → 0 ≤ slot_0 j ∧ slot_0 j ≤ 71) (kz_0_2 : 0 ≤ layerCount_0 ∧ layerCount_0 ≤ 24) (kz_0_3 : 0 ≤ items_0 ∧ items_0 ≤ 72) : SLB (items_0) (layerOf_0) (slot_0) (layerStart_0) (x3) (x4) (x9) (x2) := by
  first
    | exact slb_start ‹SLA _ _ _ _ _› (by omega)
    | (skip; (first | subst h2 | skip); exact slb_skip ‹SLB _ _ _ _ _ _ _ _› (by omega) (by omega))
    | exact slb_take (p := x5) (x := x16) ‹SLB _ _ _ _ _ _ _ _› (by omega) hE_0_12_1 rfl (by have q := (hE_0_14_2 x5 (by omega)).1 rfl; omega) (by omega) (by omega) (by omega)
  
def o_La_listLayers_4 : or_T := (24, 10, [(0, (2, 0, 0, [4])), (2, (0, 0, 72, [])), (3, (0, 0, 72, [])), (4, (0, 0, 23, [])), (5, (0, 0, 71, [])), (6, (0, 1, 72, [])), (8, (0, 0, 23, [])), (9, (0, 1, 72, []))], [(6, [9, 5], [1]), (7, [8, 4], [1]), (10, [8, 7, 5], []), (9, [7, 1], [4]), (7, [5, 6], [2]), (9, [6, 1], [3]), (20, [1, 2, 3, 4, 5], [60, 2, 2, 634, 2, 3, 4, 10]), (20, [1, 3, 4, 5, 2], [60, 1, 3, 690, 3, 4, 12, 10]), (20, [4, 1], [50, 1, 0, 1002, 0, 6, 4, 2, 1, 0, 0, 1, 2, 1, 2]), (24, [0, 1], [])], [], [], [(20, [1, 2, 3, 4, 9], [60, 2, 2, 634, 2, 3, 4, 10]), (20, [1, 3, 4, 9, 2], [60, 1, 3, 690, 3, 4, 12, 10])], [], [(9, 5, 1, 1), (9, 6, -4294967296, 0), (5, 6, -4294967296, -1)])
theorem oo_La_listLayers_4 {kA : Nat → ClassId} : or_ok PRD kA GG o_La_listLayers_4 := by
  refine or_mk fun A ta ws vs hD hth hl => ?_
  intro t0 r0 t2 k2 t3 k3 t4 k4 t5 k5 t6 k6 t8 k8 t9 k9 d0 d1 d2 f0 f1 f2 f3 f4 f5 f6 f7 f8 f9
  replace f0 := shm_4 f0
  replace f1 := shm_40 f1
  replace f2 := shm_107 f2
  replace f3 := shm_108 f3
  replace f4 := shm_6 f4
  replace f5 := shm_137 f5
  replace f6 := shm_877 f6
  replace f7 := shm_878 f7
  replace f8 := shm_879 f8
  replace f9 := shm_5 f9
  have q1 : n_v vs 1 = n_v vs 0 := f9.symm
  simp only [q1] at f3 f5 f6 f7 f8
  have cr_0_4 := fdq_219 hD hth r0
  have cr_0_10 := fdq_5 hD hth r0
  have cr_0_12 := fdq_217 hD hth r0
  have ad_7 : v_ad (n_v vs 7) = w_ar ws (n_v vs 0) 4 := congrArg v_ad f3
  simp only [ad_7] at f2
  have h2 : v_iv (n_v vs 8) = w_ei ws (w_ar ws (n_v vs 0) 4) (v_iv (n_v vs 5)) := f2
  have g5 : v_iv (n_v vs 6) = w_fi ws (n_v vs 0) 3 := congrArg v_iv f5
  have hK_0_4 := elq_131 hD hth cr_0_4
  have hK_0_10 := elq_39 hD hth cr_0_10
  have hK_0_12 := elq_130 hD hth cr_0_12
  have kz_0_2 := fdq_77 hD hth r0
  have kz_0_3 := fdq_218 hD hth r0
  have nf0 : fc_1 PRD (20, [1, 2, 3, 4, 9], [60, 2, 2, 634, 2, 3, 4, 10]) ws (vs) := by
    refine ⟨nf_in hl rfl, sgq_877 ?_⟩
    · show LL2 (w_fi ws (n_v vs 1) 2) (w_fi ws (n_v vs 1) 3) (w_ei ws (w_ar ws (n_v vs 1) 4)) (w_ei ws (w_ar ws (n_v vs 1) 10)) (v_iv (n_v vs 2)) (v_iv (n_v vs 3)) (v_iv (n_v vs 4)) (v_iv (n_v vs 9))
      rw [q1]
      exact vc_La_listLayers_4_0 (v_iv (n_v vs 2)) (v_iv (n_v vs 3)) (v_iv (n_v vs 4)) (v_iv (n_v vs 5)) (v_iv (n_v vs 6)) (v_iv (n_v vs 8)) (v_iv (n_v vs 9)) (w_ei ws (w_ar ws (n_v vs 0) 4)) (w_fi ws (n_v vs 0) 3) (w_ei ws (w_ar ws (n_v vs 0) 10)) (w_fi ws (n_v vs 0) 2) (w_ei ws (w_ar ws (n_v vs 0) 12)) k2 k3 k4 k5 k6 k8 k9 d0 d1 d2 f0 f1 h2 f4 g5 f6 f7 f8 hK_0_4 hK_0_10 hK_0_12 kz_0_2 kz_0_3
  have nf1 : fc_1 PRD (20, [1, 3, 4, 9, 2], [60, 1, 3, 690, 3, 4, 12, 10]) ws (vs) := by
    refine ⟨nf_in hl rfl, sgq_878 ?_⟩
    · show SLB (w_fi ws (n_v vs 1) 3) (w_ei ws (w_ar ws (n_v vs 1) 4)) (w_ei ws (w_ar ws (n_v vs 1) 12)) (w_ei ws (w_ar ws (n_v vs 1) 10)) (v_iv (n_v vs 3)) (v_iv (n_v vs 4)) (v_iv (n_v vs 9)) (v_iv (n_v vs 2))
      rw [q1]
      exact vc_La_listLayers_4_1 (v_iv (n_v vs 2)) (v_iv (n_v vs 3)) (v_iv (n_v vs 4)) (v_iv (n_v vs 5)) (v_iv (n_v vs 6)) (v_iv (n_v vs 8)) (v_iv (n_v vs 9)) (w_ei ws (w_ar ws (n_v vs 0) 4)) (w_fi ws (n_v vs 0) 3) (w_ei ws (w_ar ws (n_v vs 0) 10)) (w_fi ws (n_v vs 0) 2) (w_ei ws (w_ar ws (n_v vs 0) 12)) k2 k3 k4 k5 k6 k8 k9 d0 d1 d2 f0 f1 h2 f4 g5 f6 f7 f8 hK_0_4 hK_0_10 hK_0_12 kz_0_2 kz_0_3
  refine ⟨(fun _ h => (by cases h)), [], trivial, ?_, (fun _ h => (by cases h))⟩
  rw [List.append_nil]
  exact List.forall_mem_cons.mpr ⟨⟨show (20 : Nat) < 100 from by decide, nf0⟩, List.forall_mem_cons.mpr ⟨⟨show (20 : Nat) < 100 from by decide, nf1⟩, (fun _ h => (by cases h))⟩⟩
set_option maxHeartbeats 4000000 in
theorem vc_La_listLayers_5_r0 (x2 : Int) (x3 : Int) (x4 : Int) (x5 : Int) (x6 : Int) (x8 : Int) (layerOf_0 : Int → Int) (items_0 : Int) (layerStart_0 : Int → Int) (layerCount_0 : Int) (slot_0 : Int → Int) (k2 : 0 ≤ x2 ∧ x2 ≤ 72) (k3 : 0 ≤ x3 ∧ x3 ≤ 72) (k4 : 0 ≤ x4 ∧ x4 ≤ 23) (k5 : 0 ≤ x5 ∧ x5 ≤ 71) (k6 : 1 ≤ x6 ∧ x6 ≤ 72) (k8 : 0 ≤ x8 ∧ x8 ≤ 23) (d0 : x4 + 0 ≤ x8 ∧ x8 ≤ x4 + 0) (d1 : x6 + (-4294967296) ≤ x5 ∧ x5 ≤ x6 + (-1)) (f0 : x8 = x4) (h1 : x8 = layerOf_0 (x5)) (f3 : x5 < x6) (g4 : x6 = items_0) (f5 : LL2 (layerCount_0) (items_0) (layerOf_0) (layerStart_0) (x2) (x3) (x4) (x5)) (f6 : SLB (items_0) (layerOf_0) (slot_0) (layerStart_0) (x3) (x4) (x5) (x2)) (f7 : (x4 + 1) ≤ layerCount_0) (hK_0_4 : ∀ j : Int, 0 ≤ j → j < 72 → 0 ≤ layerOf_0 j ∧ layerOf_0 j ≤ 23) (hK_0_10 : ∀ j : Int, 0 ≤ j → j < 26 → 0 ≤ layerStart_0 j ∧ layerStart_0 j ≤ 72) (hK_0_12 : ∀ j : Int, 0 ≤ j → j < 72 → 0 ≤ slot_0 j ∧ slot_0 j ≤ 71) (kz_0_2 : 0 ≤ layerCount_0 ∧ layerCount_0 ≤ 24) (kz_0_3 : 0 ≤ items_0 ∧ items_0 ≤ 72) : 0 ≤ x2 ∧ x2 ≤ 71 := by
  first
    | omega
    | (have q := ll1_low ‹LL1 _ _ _ _ _ _ _›; omega)
    | (skip; (first | subst h1 | skip); have q := ll2_low ‹LL2 _ _ _ _ _ _ _ _› (by omega) (by omega); omega)
  
def o_La_listLayers_5 : or_T := (51, 10, [(0, (2, 0, 0, [4])), (1, (2, 0, 0, [4])), (2, (0, 0, 72, [])), (3, (0, 0, 72, [])), (4, (0, 0, 23, [])), (5, (0, 0, 71, [])), (6, (0, 1, 72, [])), (7, (2, 0, 0, [62])), (8, (0, 0, 23, []))], [(7, [8, 4], [0]), (10, [8, 7, 5], []), (9, [7, 1], [4]), (7, [5, 6], [2]), (9, [6, 1], [3]), (20, [1, 2, 3, 4, 5], [60, 2, 2, 634, 2, 3, 4, 10]), (20, [1, 3, 4, 5, 2], [60, 1, 3, 690, 3, 4, 12, 10]), (20, [4, 1], [50, 1, 0, 1002, 0, 6, 4, 2, 1, 0, 0, 1, 2, 1, 2]), (24, [0, 1], [])], [(2, (0, 0, 71, []))], [], [], [], [(8, 4, 0, 0), (5, 6, -4294967296, -1)])
theorem oo_La_listLayers_5 {kA : Nat → ClassId} : or_ok PRD kA GG o_La_listLayers_5 := by
  refine or_mk fun A ta ws vs hD hth hl => ?_
  intro t0 r0 t1 r1 t2 k2 t3 k3 t4 k4 t5 k5 t6 k6 t7 r7 t8 k8 d0 d1 f0 f1 f2 f3 f4 f5 f6 f7 f8
  replace f1 := shm_107 f1
  replace f2 := shm_108 f2
  replace f4 := shm_137 f4
  replace f5 := shm_877 f5
  replace f6 := shm_878 f6
  replace f7 := shm_879 f7
  replace f8 := shm_5 f8
  have q1 : n_v vs 1 = n_v vs 0 := f8.symm
  simp only [q1] at f2 f4 f5 f6 f7
  have cr_0_4 := fdq_219 hD hth r0
  have cr_0_10 := fdq_5 hD hth r0
  have cr_0_12 := fdq_217 hD hth r0
  have ad_7 : v_ad (n_v vs 7) = w_ar ws (n_v vs 0) 4 := congrArg v_ad f2
  simp only [ad_7] at f1
  have h1 : v_iv (n_v vs 8) = w_ei ws (w_ar ws (n_v vs 0) 4) (v_iv (n_v vs 5)) := f1
  have g4 : v_iv (n_v vs 6) = w_fi ws (n_v vs 0) 3 := congrArg v_iv f4
  have hK_0_4 := elq_131 hD hth cr_0_4
  have hK_0_10 := elq_39 hD hth cr_0_10
  have hK_0_12 := elq_130 hD hth cr_0_12
  have kz_0_2 := fdq_77 hD hth r0
  have kz_0_3 := fdq_218 hD hth r0
  have hrf0 : 0 ≤ v_iv (n_v vs 2) ∧ v_iv (n_v vs 2) ≤ 71 := vc_La_listLayers_5_r0 (v_iv (n_v vs 2)) (v_iv (n_v vs 3)) (v_iv (n_v vs 4)) (v_iv (n_v vs 5)) (v_iv (n_v vs 6)) (v_iv (n_v vs 8)) (w_ei ws (w_ar ws (n_v vs 0) 4)) (w_fi ws (n_v vs 0) 3) (w_ei ws (w_ar ws (n_v vs 0) 10)) (w_fi ws (n_v vs 0) 2) (w_ei ws (w_ar ws (n_v vs 0) 12)) k2 k3 k4 k5 k6 k8 d0 d1 (shm_37 f0) h1 (shm_6 f3) g4 f5 f6 f7 hK_0_4 hK_0_10 hK_0_12 kz_0_2 kz_0_3
  have rf2 : tv_ok ta (0, 0, 71, []) (n_v vs 2) := tv_in t2 (by first | omega | grind) (by first | omega | grind)
  refine ⟨List.forall_mem_cons.mpr ⟨rf2, (fun _ h => (by cases h))⟩, [], trivial, ?_, (fun _ h => (by cases h))⟩
  rw [List.append_nil]
  exact (fun _ h => (by cases h))
set_option maxHeartbeats 4000000 in
theorem vc_La_listLayers_6_r0 (x2 : Int) (x3 : Int) (x4 : Int) (x5 : Int) (x6 : Int) (x8 : Int) (x13 : Int) (x14 : Int) (layerStart_0 : Int → Int) (layerOf_0 : Int → Int) (layerCount_0 : Int) (items_0 : Int) (slot_0 : Int → Int) (layerOf_1 : Int → Int) (layerStart_1 : Int → Int) (layerCount_1 : Int) (items_1 : Int) (slot_1 : Int → Int) (layerOf_2 : Int → Int) (items_2 : Int) (layerStart_2 : Int → Int) (layerCount_2 : Int) (slot_2 : Int → Int) (listed_0 : Int → Int) (listed_1 : Int → Int) (listed_2 : Int → Int) (row_0 : Int → Int) (row_1 : Int → Int) (row_2 : Int → Int) (k2 : 0 ≤ x2 ∧ x2 ≤ 71) (k3 : 0 ≤ x3 ∧ x3 ≤ 72) (k4 : 0 ≤ x4 ∧ x4 ≤ 23) (k5 : 0 ≤ x5 ∧ x5 ≤ 71) (k6 : 1 ≤ x6 ∧ x6 ≤ 72) (k8 : 0 ≤ x8 ∧ x8 ≤ 23) (k13 : 0 ≤ x13 ∧ x13 ≤ 72) (k14 : (-72) ≤ x14 ∧ x14 ≤ 71) (d0 : x2 + (-72) ≤ x14 ∧ x14 ≤ x2 + 0) (d1 : x4 + 0 ≤ x8 ∧ x8 ≤ x4 + 0) (d2 : x6 + (-4294967296) ≤ x5 ∧ x5 ≤ x6 + (-1)) (f0 : x14 = x2 - x13) (h1 : x13 = layerStart_0 (x4)) (f3 : LL2 (layerCount_0) (items_0) (layerOf_0) (layerStart_0) (x2) (x3) (x4) (x5)) (f4 : SLB (items_0) (layerOf_0) (slot_0) (layerStart_0) (x3) (x4) (x5) (x2)) (f5 : (x4 + 1) ≤ layerCount_0) (f9 : LL2 (layerCount_1) (items_1) (layerOf_1) (layerStart_1) (x2) (x3) (x4) (x5)) (f10 : SLB (items_1) (layerOf_1) (slot_1) (layerStart_1) (x3) (x4) (x5) (x2)) (f11 : (x4 + 1) ≤ layerCount_1) (f14 : x8 = x4) (h15 : x8 = layerOf_2 (x5)) (f17 : x5 < x6) (g18 : x6 = items_2) (f19 : LL2 (layerCount_2) (items_2) (layerOf_2) (layerStart_2) (x2) (x3) (x4) (x5)) (f20 : SLB (items_2) (layerOf_2) (slot_2) (layerStart_2) (x3) (x4) (x5) (x2)) (f21 : (x4 + 1) ≤ layerCount_2) (fe_0_2_1 : layerCount_0 = layerCount_1) (fe_0_3_1 : items_0 = items_1) (fe_0_2_2 : layerCount_1 = layerCount_2) (fe_0_3_2 : items_1 = items_2) (hE_0_4_1 : ∀ j : Int, layerOf_0 j = layerOf_1 j) (hE_0_4_2 : ∀ j : Int, layerOf_1 j = layerOf_2 j) (hK_0_4 : ∀ j : Int, 0 ≤ j → j < 72 → 0 ≤ layerOf_0 j ∧ layerOf_0 j ≤ 23) (hE_0_10_1 : ∀ j : Int, layerStart_0 j = layerStart_1 j) (hE_0_10_2 : ∀ j : Int, layerStart_1 j = layerStart_2 j) (hK_0_10 : ∀ j : Int, 0 ≤ j → j < 26 → 0 ≤ layerStart_0 j ∧ layerStart_0 j ≤ 72) (hE_0_11_1 : ∀ j : Int, listed_0 j = listed_1 j) (hE_0_11_2 : ∀ j : Int, 0 ≤ j → (j = x2 → listed_1 j = x5) ∧ (j ≠ x2 → listed_1 j = listed_2 j)) (hK_0_11 : ∀ j : Int, 0 ≤ j → j < 72 → 0 ≤ listed_0 j ∧ listed_0 j ≤ 71) (hE_0_12_1 : ∀ j : Int, slot_0 j = slot_1 j) (hE_0_12_2 : ∀ j : Int, slot_1 j = slot_2 j) (hK_0_12 : ∀ j : Int, 0 ≤ j → j < 72 → 0 ≤ slot_0 j ∧ slot_0 j ≤ 71) (hE_0_13_1 : ∀ j : Int, 0 ≤ j → (j = x2 → row_0 j = x5) ∧ (j ≠ x2 → row_0 j = row_1 j)) (hE_0_13_2 : ∀ j : Int, row_1 j = row_2 j) (hK_0_13 : ∀ j : Int, 0 ≤ j → j < 72 → 0 ≤ row_0 j ∧ row_0 j ≤ 71) (kz_0_2 : 0 ≤ layerCount_0 ∧ layerCount_0 ≤ 24) (kz_0_3 : 0 ≤ items_0 ∧ items_0 ≤ 72) : 0 ≤ x14 ∧ x14 ≤ 71 := by
  subst fe_0_2_1
  subst fe_0_3_1
  subst fe_0_2_2
  subst fe_0_3_2
  have e_hE_0_4_1 := funext hE_0_4_1; subst e_hE_0_4_1
  have e_hE_0_4_2 := funext hE_0_4_2; subst e_hE_0_4_2
  have e_hE_0_10_1 := funext hE_0_10_1; subst e_hE_0_10_1
  have e_hE_0_10_2 := funext hE_0_10_2; subst e_hE_0_10_2
  have e_hE_0_11_1 := funext hE_0_11_1; subst e_hE_0_11_1
  have e_hE_0_12_1 := funext hE_0_12_1; subst e_hE_0_12_1
  have e_hE_0_12_2 := funext hE_0_12_2; subst e_hE_0_12_2
  have e_hE_0_13_2 := funext hE_0_13_2; subst e_hE_0_13_2
  first
    | omega
    | (have q := ll1_low ‹LL1 _ _ _ _ _ _ _›; omega)
    | (skip; (first | subst h1 | skip); (first | subst h15 | skip); have q := ll2_low ‹LL2 _ _ _ _ _ _ _ _› (by omega) (by omega); omega)
  
def o_La_listLayers_6 : or_T := (74, 15, [(0, (2, 0, 0, [4])), (1, (2, 0, 0, [4])), (2, (0, 0, 71, [])), (3, (0, 0, 72, [])), (4, (0, 0, 23, [])), (5, (0, 0, 71, [])), (6, (0, 1, 72, [])), (7, (2, 0, 0, [62])), (8, (0, 0, 23, [])), (9, (2, 0, 0, [69])), (10, (2, 0, 0, [71])), (12, (2, 0, 0, [68])), (13, (0, 0, 72, [])), (14, (0, -72, 71, []))], [(2, [14, 2, 13], []), (10, [13, 12, 4], []), (9, [12, 1], [10]), (20, [1, 2, 3, 4, 5], [60, 2, 2, 634, 2, 3, 4, 10]), (20, [1, 3, 4, 5, 2], [60, 1, 3, 690, 3, 4, 12, 10]), (20, [4, 1], [50, 1, 0, 1002, 0, 6, 4, 2, 1, 0, 0, 1, 2, 1, 2]), (24, [0, 1], []), (100, [10, 2, 5], []), (9, [10, 1], [13]), (20, [1, 2, 3, 4, 5], [60, 2, 2, 634, 2, 3, 4, 10]), (20, [1, 3, 4, 5, 2], [60, 1, 3, 690, 3, 4, 12, 10]), (20, [4, 1], [50, 1, 0, 1002, 0, 6, 4, 2, 1, 0, 0, 1, 2, 1, 2]), (100, [9, 2, 5], []), (9, [9, 1], [11]), (7, [8, 4], [0]), (10, [8, 7, 5], []), (9, [7, 1], [4]), (7, [5, 6], [2]), (9, [6, 1], [3]), (20, [1, 2, 3, 4, 5], [60, 2, 2, 634, 2, 3, 4, 10]), (20, [1, 3, 4, 5, 2], [60, 1, 3, 690, 3, 4, 12, 10]), (20, [4, 1], [50, 1, 0, 1002, 0, 6, 4, 2, 1, 0, 0, 1, 2, 1, 2])], [(14, (0, 0, 71, []))], [], [], [], [(14, 2, -72, 0), (8, 4, 0, 0), (5, 6, -4294967296, -1)])
theorem oo_La_listLayers_6 {kA : Nat → ClassId} : or_ok PRD kA GG o_La_listLayers_6 := by
  refine or_mk fun A ta ws vs hD hth hl => ?_
  intro t0 r0 t1 r1 t2 k2 t3 k3 t4 k4 t5 k5 t6 k6 t7 r7 t8 k8 t9 r9 t10 r10 t12 r12 t13 k13 t14 k14 d0 d1 d2 f0 f1 f2 f3 f4 f5 f6 ta1 w1 le1 s1 f8 f9 f10 f11 ta2 w2 le2 s2 f13 f14 f15 f16 f17 f18 f19 f20 f21
  replace f1 := shm_107 f1
  replace f2 := shm_106 f2
  replace f3 := shm_877 f3
  replace f4 := shm_878 f4
  replace f5 := shm_879 f5
  replace f6 := shm_5 f6
  have s1 : (∀ b j, w_el ws b j = if b = v_ad (n_v vs 10) ∧ j = (v_iv (n_v vs 2)).toNat then v_iv (n_v vs 5) else w_el w1 b j) ∧ ∀ b k, w_fd ws b k = w_fd w1 b k := s1.2
  replace f8 := shm_361 f8
  replace f9 := shm_877 f9
  replace f10 := shm_878 f10
  replace f11 := shm_879 f11
  have s2 : (∀ b j, w_el w1 b j = if b = v_ad (n_v vs 9) ∧ j = (v_iv (n_v vs 2)).toNat then v_iv (n_v vs 5) else w_el w2 b j) ∧ ∀ b k, w_fd w1 b k = w_fd w2 b k := s2.2
  replace f13 := shm_116 f13
  replace f15 := shm_107 f15
  replace f16 := shm_108 f16
  replace f18 := shm_137 f18
  replace f19 := shm_877 f19
  replace f20 := shm_878 f20
  replace f21 := shm_879 f21
  have q1 : n_v vs 1 = n_v vs 0 := f6.symm
  simp only [q1] at f2 f3 f4 f5 f8 f9 f10 f11 f13 f16 f18 f19 f20 f21
  have ar_0_4_1 : w_ar w1 (n_v vs 0) 4 = w_ar ws (n_v vs 0) 4 := congrArg v_ad (s1.2 _ _).symm
  have ar_0_4_2 : w_ar w2 (n_v vs 0) 4 = w_ar ws (n_v vs 0) 4 := by rw [← ar_0_4_1]; show v_ad (w_fd w2 _ _) = v_ad (w_fd w1 _ _); rw [s2.2]
  have cr_0_4 := fdq_219 hD hth r0
  have ar_0_10_1 : w_ar w1 (n_v vs 0) 10 = w_ar ws (n_v vs 0) 10 := congrArg v_ad (s1.2 _ _).symm
  have ar_0_10_2 : w_ar w2 (n_v vs 0) 10 = w_ar ws (n_v vs 0) 10 := by rw [← ar_0_10_1]; show v_ad (w_fd w2 _ _) = v_ad (w_fd w1 _ _); rw [s2.2]
  have cr_0_10 := fdq_5 hD hth r0
  have ar_0_11_1 : w_ar w1 (n_v vs 0) 11 = w_ar ws (n_v vs 0) 11 := congrArg v_ad (s1.2 _ _).symm
  have ar_0_11_2 : w_ar w2 (n_v vs 0) 11 = w_ar ws (n_v vs 0) 11 := by rw [← ar_0_11_1]; show v_ad (w_fd w2 _ _) = v_ad (w_fd w1 _ _); rw [s2.2]
  have cr_0_11 := fdq_220 hD hth r0
  have ar_0_12_1 : w_ar w1 (n_v vs 0) 12 = w_ar ws (n_v vs 0) 12 := congrArg v_ad (s1.2 _ _).symm
  have ar_0_12_2 : w_ar w2 (n_v vs 0) 12 = w_ar ws (n_v vs 0) 12 := by rw [← ar_0_12_1]; show v_ad (w_fd w2 _ _) = v_ad (w_fd w1 _ _); rw [s2.2]
  have cr_0_12 := fdq_217 hD hth r0
  have ar_0_13_1 : w_ar w1 (n_v vs 0) 13 = w_ar ws (n_v vs 0) 13 := congrArg v_ad (s1.2 _ _).symm
  have cr_0_13 := fdq_221 hD hth r0
  have ad_12 : v_ad (n_v vs 12) = w_ar ws (n_v vs 0) 10 := congrArg v_ad f2
  have ad_10 : v_ad (n_v vs 10) = w_ar ws (n_v vs 0) 13 := (congrArg v_ad f8).trans ar_0_13_1
  have ad_9 : v_ad (n_v vs 9) = w_ar ws (n_v vs 0) 11 := (congrArg v_ad f13).trans ar_0_11_2
  have ad_7 : v_ad (n_v vs 7) = w_ar ws (n_v vs 0) 4 := (congrArg v_ad f16).trans ar_0_4_2
  simp only [ad_12] at f1
  have h1 : v_iv (n_v vs 13) = w_ei ws (w_ar ws (n_v vs 0) 10) (v_iv (n_v vs 4)) := f1
  simp only [ar_0_4_1, ar_0_10_1, ar_0_12_1, ad_7] at f9 f10 f15
  have h15 : v_iv (n_v vs 8) = w_ei w2 (w_ar ws (n_v vs 0) 4) (v_iv (n_v vs 5)) := f15
  have g18 : v_iv (n_v vs 6) = w_fi w2 (n_v vs 0) 3 := congrArg v_iv f18
  simp only [ar_0_4_2, ar_0_10_2, ar_0_12_2] at f19 f20
  have fe_0_2_1 : w_fi ws (n_v vs 0) 2 = w_fi w1 (n_v vs 0) 2 := congrArg v_iv (s1.2 _ _)
  have fe_0_3_1 : w_fi ws (n_v vs 0) 3 = w_fi w1 (n_v vs 0) 3 := congrArg v_iv (s1.2 _ _)
  have fe_0_2_2 : w_fi w1 (n_v vs 0) 2 = w_fi w2 (n_v vs 0) 2 := congrArg v_iv (s2.2 _ _)
  have fe_0_3_2 : w_fi w1 (n_v vs 0) 3 = w_fi w2 (n_v vs 0) 3 := congrArg v_iv (s2.2 _ _)
  have hE_0_4_1 : ∀ j : Int, w_ei ws (w_ar ws (n_v vs 0) 4) j = w_ei w1 (w_ar ws (n_v vs 0) 4) j := el_kp s1.1 r10 cr_0_4 (by decide)
  have hE_0_4_2 : ∀ j : Int, w_ei w1 (w_ar ws (n_v vs 0) 4) j = w_ei w2 (w_ar ws (n_v vs 0) 4) j := el_kp s2.1 r9 cr_0_4 (by decide)
  have hK_0_4 := elq_131 hD hth cr_0_4
  have hE_0_10_1 : ∀ j : Int, w_ei ws (w_ar ws (n_v vs 0) 10) j = w_ei w1 (w_ar ws (n_v vs 0) 10) j := el_kp s1.1 r10 cr_0_10 (by decide)
  have hE_0_10_2 : ∀ j : Int, w_ei w1 (w_ar ws (n_v vs 0) 10) j = w_ei w2 (w_ar ws (n_v vs 0) 10) j := el_kp s2.1 r9 cr_0_10 (by decide)
  have hK_0_10 := elq_39 hD hth cr_0_10
  have hE_0_11_1 : ∀ j : Int, w_ei ws (w_ar ws (n_v vs 0) 11) j = w_ei w1 (w_ar ws (n_v vs 0) 11) j := el_kp s1.1 r10 cr_0_11 (by decide)
  have hE_0_11_2 : ∀ j : Int, 0 ≤ j → (j = v_iv (n_v vs 2) → w_ei w1 (w_ar ws (n_v vs 0) 11) j = v_iv (n_v vs 5)) ∧ (j ≠ v_iv (n_v vs 2) → w_ei w1 (w_ar ws (n_v vs 0) 11) j = w_ei w2 (w_ar ws (n_v vs 0) 11) j) := fun j hj => ⟨fun h => by unfold w_ei; rw [s2.1, if_pos ⟨ad_9.symm, by rw [h]⟩], fun h => by unfold w_ei; rw [s2.1, if_neg (fun e => h (by have := e.2; omega))]⟩
  have hK_0_11 := elq_132 hD hth cr_0_11
  have hE_0_12_1 : ∀ j : Int, w_ei ws (w_ar ws (n_v vs 0) 12) j = w_ei w1 (w_ar ws (n_v vs 0) 12) j := el_kp s1.1 r10 cr_0_12 (by decide)
  have hE_0_12_2 : ∀ j : Int, w_ei w1 (w_ar ws (n_v vs 0) 12) j = w_ei w2 (w_ar ws (n_v vs 0) 12) j := el_kp s2.1 r9 cr_0_12 (by decide)
  have hK_0_12 := elq_130 hD hth cr_0_12
  have hE_0_13_1 : ∀ j : Int, 0 ≤ j → (j = v_iv (n_v vs 2) → w_ei ws (w_ar ws (n_v vs 0) 13) j = v_iv (n_v vs 5)) ∧ (j ≠ v_iv (n_v vs 2) → w_ei ws (w_ar ws (n_v vs 0) 13) j = w_ei w1 (w_ar ws (n_v vs 0) 13) j) := fun j hj => ⟨fun h => by unfold w_ei; rw [s1.1, if_pos ⟨ad_10.symm, by rw [h]⟩], fun h => by unfold w_ei; rw [s1.1, if_neg (fun e => h (by have := e.2; omega))]⟩
  have hE_0_13_2 : ∀ j : Int, w_ei w1 (w_ar ws (n_v vs 0) 13) j = w_ei w2 (w_ar ws (n_v vs 0) 13) j := el_kp s2.1 r9 cr_0_13 (by decide)
  have hK_0_13 := elq_133 hD hth cr_0_13
  have kz_0_2 := fdq_77 hD hth r0
  have kz_0_3 := fdq_218 hD hth r0
  have hrf0 : 0 ≤ v_iv (n_v vs 14) ∧ v_iv (n_v vs 14) ≤ 71 := vc_La_listLayers_6_r0 (v_iv (n_v vs 2)) (v_iv (n_v vs 3)) (v_iv (n_v vs 4)) (v_iv (n_v vs 5)) (v_iv (n_v vs 6)) (v_iv (n_v vs 8)) (v_iv (n_v vs 13)) (v_iv (n_v vs 14)) (w_ei ws (w_ar ws (n_v vs 0) 10)) (w_ei ws (w_ar ws (n_v vs 0) 4)) (w_fi ws (n_v vs 0) 2) (w_fi ws (n_v vs 0) 3) (w_ei ws (w_ar ws (n_v vs 0) 12)) (w_ei w1 (w_ar ws (n_v vs 0) 4)) (w_ei w1 (w_ar ws (n_v vs 0) 10)) (w_fi w1 (n_v vs 0) 2) (w_fi w1 (n_v vs 0) 3) (w_ei w1 (w_ar ws (n_v vs 0) 12)) (w_ei w2 (w_ar ws (n_v vs 0) 4)) (w_fi w2 (n_v vs 0) 3) (w_ei w2 (w_ar ws (n_v vs 0) 10)) (w_fi w2 (n_v vs 0) 2) (w_ei w2 (w_ar ws (n_v vs 0) 12)) (w_ei ws (w_ar ws (n_v vs 0) 11)) (w_ei w1 (w_ar ws (n_v vs 0) 11)) (w_ei w2 (w_ar ws (n_v vs 0) 11)) (w_ei ws (w_ar ws (n_v vs 0) 13)) (w_ei w1 (w_ar ws (n_v vs 0) 13)) (w_ei w2 (w_ar ws (n_v vs 0) 13)) k2 k3 k4 k5 k6 k8 k13 k14 d0 d1 d2 (shm_14 f0) h1 f3 f4 f5 f9 f10 f11 (shm_37 f14) h15 (shm_6 f17) g18 f19 f20 f21 fe_0_2_1 fe_0_3_1 fe_0_2_2 fe_0_3_2 hE_0_4_1 hE_0_4_2 hK_0_4 hE_0_10_1 hE_0_10_2 hK_0_10 hE_0_11_1 hE_0_11_2 hK_0_11 hE_0_12_1 hE_0_12_2 hK_0_12 hE_0_13_1 hE_0_13_2 hK_0_13 kz_0_2 kz_0_3
  have rf14 : tv_ok ta (0, 0, 71, []) (n_v vs 14) := tv_in t14 (by first | omega | grind) (by first | omega | grind)
  refine ⟨List.forall_mem_cons.mpr ⟨rf14, (fun _ h => (by cases h))⟩, [], trivial, ?_, (fun _ h => (by cases h))⟩
  rw [List.append_nil]
  exact (fun _ h => (by cases h))
set_option maxHeartbeats 4000000 in
theorem vc_La_listLayers_7_0 (x2 : Int) (x3 : Int) (x4 : Int) (x5 : Int) (x6 : Int) (x8 : Int) (x13 : Int) (x14 : Int) (x16 : Int) (x17 : Int) (x18 : Int) (layerOf_0 : Int → Int) (layerStart_0 : Int → Int) (layerCount_0 : Int) (items_0 : Int) (place_1 : Int → Int) (layerOf_1 : Int → Int) (layerStart_1 : Int → Int) (layerCount_1 : Int) (items_1 : Int) (slot_1 : Int → Int) (layerStart_2 : Int → Int) (layerOf_2 : Int → Int) (layerCount_2 : Int) (items_2 : Int) (slot_2 : Int → Int) (layerOf_3 : Int → Int) (layerStart_3 : Int → Int) (layerCount_3 : Int) (items_3 : Int) (slot_3 : Int → Int) (layerOf_4 : Int → Int) (items_4 : Int) (layerStart_4 : Int → Int) (layerCount_4 : Int) (slot_4 : Int → Int) (listed_0 : Int → Int) (listed_1 : Int → Int) (listed_2 : Int → Int) (listed_3 : Int → Int) (listed_4 : Int → Int) (slot_0 : Int → Int) (row_0 : Int → Int) (row_1 : Int → Int) (row_2 : Int → Int) (row_3 : Int → Int) (row_4 : Int → Int) (place_0 : Int → Int) (place_2 : Int → Int) (place_3 : Int → Int) (place_4 : Int → Int) (k2 : 0 ≤ x2 ∧ x2 ≤ 71) (k3 : 0 ≤ x3 ∧ x3 ≤ 72) (k4 : 0 ≤ x4 ∧ x4 ≤ 23) (k5 : 0 ≤ x5 ∧ x5 ≤ 71) (k6 : 1 ≤ x6 ∧ x6 ≤ 72) (k8 : 0 ≤ x8 ∧ x8 ≤ 23) (k13 : 0 ≤ x13 ∧ x13 ≤ 72) (k14 : 0 ≤ x14 ∧ x14 ≤ 71) (k16 : 0 ≤ x16 ∧ x16 ≤ 71) (k17 : 1 ≤ x17 ∧ x17 ≤ 72) (k18 : 1 ≤ x18 ∧ x18 ≤ 72) (d0 : x5 + 1 ≤ x18 ∧ x18 ≤ x5 + 1) (d1 : x6 + (-4294967296) ≤ x18 ∧ x18 ≤ x6 + 0) (d2 : x2 + 1 ≤ x17 ∧ x17 ≤ x2 + 1) (d3 : x2 + (-72) ≤ x14 ∧ x14 ≤ x2 + 0) (d4 : x4 + 0 ≤ x8 ∧ x8 ≤ x4 + 0) (d5 : x6 + (-4294967296) ≤ x5 ∧ x5 ≤ x6 + (-1)) (f0 : x18 = x5 + 1) (f1 : x17 = x2 + 1) (f2 : LL2 (layerCount_0) (items_0) (layerOf_0) (layerStart_0) (x2) (x3) (x4) (x5)) (f3 : (x4 + 1) ≤ layerCount_0) (h6 : x16 = place_1 (x5)) (f9 : LL2 (layerCount_1) (items_1) (layerOf_1) (layerStart_1) (x2) (x3) (x4) (x5)) (f10 : SLB (items_1) (layerOf_1) (slot_1) (layerStart_1) (x3) (x4) (x5) (x2)) (f11 : (x4 + 1) ≤ layerCount_1) (f13 : x14 = x2 - x13) (h14 : x13 = layerStart_2 (x4)) (f16 : LL2 (layerCount_2) (items_2) (layerOf_2) (layerStart_2) (x2) (x3) (x4) (x5)) (f17 : SLB (items_2) (layerOf_2) (slot_2) (layerStart_2) (x3) (x4) (x5) (x2)) (f18 : (x4 + 1) ≤ layerCount_2) (f21 : LL2 (layerCount_3) (items_3) (layerOf_3) (layerStart_3) (x2) (x3) (x4) (x5)) (f22 : SLB (items_3) (layerOf_3) (slot_3) (layerStart_3) (x3) (x4) (x5) (x2)) (f23 : (x4 + 1) ≤ layerCount_3) (f26 : x8 = x4) (h27 : x8 = layerOf_4 (x5)) (f29 : x5 < x6) (g30 : x6 = items_4) (f31 : LL2 (layerCount_4) (items_4) (layerOf_4) (layerStart_4) (x2) (x3) (x4) (x5)) (f32 : SLB (items_4) (layerOf_4) (slot_4) (layerStart_4) (x3) (x4) (x5) (x2)) (f33 : (x4 + 1) ≤ layerCount_4) (fe_0_2_1 : layerCount_0 = layerCount_1) (fe_0_3_1 : items_0 = items_1) (fe_0_2_2 : layerCount_1 = layerCount_2) (fe_0_3_2 : items_1 = items_2) (fe_0_2_3 : layerCount_2 = layerCount_3) (fe_0_3_3 : items_2 = items_3) (fe_0_2_4 : layerCount_3 = layerCount_4) (fe_0_3_4 : items_3 = items_4) (hE_0_4_1 : ∀ j : Int, layerOf_0 j = layerOf_1 j) (hE_0_4_2 : ∀ j : Int, layerOf_1 j = layerOf_2 j) (hE_0_4_3 : ∀ j : Int, layerOf_2 j = layerOf_3 j) (hE_0_4_4 : ∀ j : Int, layerOf_3 j = layerOf_4 j) (hK_0_4 : ∀ j : Int, 0 ≤ j → j < 72 → 0 ≤ layerOf_0 j ∧ layerOf_0 j ≤ 23) (hE_0_10_1 : ∀ j : Int, layerStart_0 j = layerStart_1 j) (hE_0_10_2 : ∀ j : Int, layerStart_1 j = layerStart_2 j) (hE_0_10_3 : ∀ j : Int, layerStart_2 j = layerStart_3 j) (hE_0_10_4 : ∀ j : Int, layerStart_3 j = layerStart_4 j) (hK_0_10 : ∀ j : Int, 0 ≤ j → j < 26 → 0 ≤ layerStart_0 j ∧ layerStart_0 j ≤ 72) (hE_0_11_1 : ∀ j : Int, listed_0 j = listed_1 j) (hE_0_11_2 : ∀ j : Int, listed_1 j = listed_2 j) (hE_0_11_3 : ∀ j : Int, listed_2 j = listed_3 j) (hE_0_11_4 : ∀ j : Int, 0 ≤ j → (j = x2 → listed_3 j = x5) ∧ (j ≠ x2 → listed_3 j = listed_4 j)) (hK_0_11 : ∀ j : Int, 0 ≤ j → j < 72 → 0 ≤ listed_0 j ∧ listed_0 j ≤ 71) (hE_0_12_1 : ∀ j : Int, 0 ≤ j → (j = x5 → slot_0 j = x16) ∧ (j ≠ x5 → slot_0 j = slot_1 j)) (hE_0_12_2 : ∀ j : Int, slot_1 j = slot_2 j) (hE_0_12_3 : ∀ j : Int, slot_2 j = slot_3 j) (hE_0_12_4 : ∀ j : Int, slot_3 j = slot_4 j) (hK_0_12 : ∀ j : Int, 0 ≤ j → j < 72 → 0 ≤ slot_0 j ∧ slot_0 j ≤ 71) (hE_0_13_1 : ∀ j : Int, row_0 j = row_1 j) (hE_0_13_2 : ∀ j : Int, row_1 j = row_2 j) (hE_0_13_3 : ∀ j : Int, 0 ≤ j → (j = x2 → row_2 j = x5) ∧ (j ≠ x2 → row_2 j = row_3 j)) (hE_0_13_4 : ∀ j : Int, row_3 j = row_4 j) (hK_0_13 : ∀ j : Int, 0 ≤ j → j < 72 → 0 ≤ row_0 j ∧ row_0 j ≤ 71) (hE_0_14_1 : ∀ j : Int, place_0 j = place_1 j) (hE_0_14_2 : ∀ j : Int, 0 ≤ j → (j = x5 → place_1 j = x14) ∧ (j ≠ x5 → place_1 j = place_2 j)) (hE_0_14_3 : ∀ j : Int, place_2 j = place_3 j) (hE_0_14_4 : ∀ j : Int, place_3 j = place_4 j) (hK_0_14 : ∀ j : Int, 0 ≤ j → j < 72 → 0 ≤ place_0 j ∧ place_0 j ≤ 71) (kz_0_2 : 0 ≤ layerCount_0 ∧ layerCount_0 ≤ 24) (kz_0_3 : 0 ≤ items_0 ∧ items_0 ≤ 72) : LL2 (layerCount_0) (items_0) (layerOf_0) (layerStart_0) (x17) (x3) (x4) (x18) := by
  subst fe_0_2_1
  subst fe_0_3_1
  subst fe_0_2_2
  subst fe_0_3_2
  subst fe_0_2_3
  subst fe_0_3_3
  subst fe_0_2_4
  subst fe_0_3_4
  have e_hE_0_4_1 := funext hE_0_4_1; subst e_hE_0_4_1
  have e_hE_0_4_2 := funext hE_0_4_2; subst e_hE_0_4_2
  have e_hE_0_4_3 := funext hE_0_4_3; subst e_hE_0_4_3
  have e_hE_0_4_4 := funext hE_0_4_4; subst e_hE_0_4_4
  have e_hE_0_10_1 := funext hE_0_10_1; subst e_hE_0_10_1
  have e_hE_0_10_2 := funext hE_0_10_2; subst e_hE_0_10_2
  have e_hE_0_10_3 := funext hE_0_10_3; subst e_hE_0_10_3
  have e_hE_0_10_4 := funext hE_0_10_4; subst e_hE_0_10_4
  have e_hE_0_11_1 := funext hE_0_11_1; subst e_hE_0_11_1
  have e_hE_0_11_2 := funext hE_0_11_2; subst e_hE_0_11_2
  have e_hE_0_11_3 := funext hE_0_11_3; subst e_hE_0_11_3
  have e_hE_0_12_2 := funext hE_0_12_2; subst e_hE_0_12_2
  have e_hE_0_12_3 := funext hE_0_12_3; subst e_hE_0_12_3
  have e_hE_0_12_4 := funext hE_0_12_4; subst e_hE_0_12_4
  have e_hE_0_13_1 := funext hE_0_13_1; subst e_hE_0_13_1
  have e_hE_0_13_2 := funext hE_0_13_2; subst e_hE_0_13_2
  have e_hE_0_13_4 := funext hE_0_13_4; subst e_hE_0_13_4
  have e_hE_0_14_1 := funext hE_0_14_1; subst e_hE_0_14_1
  have e_hE_0_14_3 := funext hE_0_14_3; subst e_hE_0_14_3
  have e_hE_0_14_4 := funext hE_0_14_4; subst e_hE_0_14_4
  first
    | exact ll2_start ‹LL1 _ _ _ _ _ _ _› (by assumption) (by omega) (by omega) (by omega)
    | (skip; (first | subst h6 | skip); (first | subst h14 | skip); (first | subst h27 | skip); exact ll2_skip ‹LL2 _ _ _ _ _ _ _ _› (by omega) (by omega) (by omega))
    | (skip; (first | subst h6 | skip); (first | subst h14 | skip); (first | subst h27 | skip); exact ll2_take ‹LL2 _ _ _ _ _ _ _ _› (by omega) (by omega) (by omega) (by omega))
  
set_option maxHeartbeats 4000000 in
theorem vc_La_listLayers_7_1 (x2 : Int) (x3 : Int) (x4 : Int) (x5 : Int) (x6 : Int) (x8 : Int) (x13 : Int) (x14 : Int) (x16 : Int) (x17 : Int) (x18 : Int) (layerOf_0 : Int → Int) (layerStart_0 : Int → Int) (layerCount_0 : Int) (items_0 : Int) (place_1 : Int → Int) (layerOf_1 : Int → Int) (layerStart_1 : Int → Int) (layerCount_1 : Int) (items_1 : Int) (slot_1 : Int → Int) (layerStart_2 : Int → Int) (layerOf_2 : Int → Int) (layerCount_2 : Int) (items_2 : Int) (slot_2 : Int → Int) (layerOf_3 : Int → Int) (layerStart_3 : Int → Int) (layerCount_3 : Int) (items_3 : Int) (slot_3 : Int → Int) (layerOf_4 : Int → Int) (items_4 : Int) (layerStart_4 : Int → Int) (layerCount_4 : Int) (slot_4 : Int → Int) (listed_0 : Int → Int) (listed_1 : Int → Int) (listed_2 : Int → Int) (listed_3 : Int → Int) (listed_4 : Int → Int) (slot_0 : Int → Int) (row_0 : Int → Int) (row_1 : Int → Int) (row_2 : Int → Int) (row_3 : Int → Int) (row_4 : Int → Int) (place_0 : Int → Int) (place_2 : Int → Int) (place_3 : Int → Int) (place_4 : Int → Int) (k2 : 0 ≤ x2 ∧ x2 ≤ 71) (k3 : 0 ≤ x3 ∧ x3 ≤ 72) (k4 : 0 ≤ x4 ∧ x4 ≤ 23) (k5 : 0 ≤ x5 ∧ x5 ≤ 71) (k6 : 1 ≤ x6 ∧ x6 ≤ 72) (k8 : 0 ≤ x8 ∧ x8 ≤ 23) (k13 : 0 ≤ x13 ∧ x13 ≤ 72) (k14 : 0 ≤ x14 ∧ x14 ≤ 71) (k16 : 0 ≤ x16 ∧ x16 ≤ 71) (k17 : 1 ≤ x17 ∧ x17 ≤ 72) (k18 : 1 ≤ x18 ∧ x18 ≤ 72) (d0 : x5 + 1 ≤ x18 ∧ x18 ≤ x5 + 1) (d1 : x6 + (-4294967296) ≤ x18 ∧ x18 ≤ x6 + 0) (d2 : x2 + 1 ≤ x17 ∧ x17 ≤ x2 + 1) (d3 : x2 + (-72) ≤ x14 ∧ x14 ≤ x2 + 0) (d4 : x4 + 0 ≤ x8 ∧ x8 ≤ x4 + 0) (d5 : x6 + (-4294967296) ≤ x5 ∧ x5 ≤ x6 + (-1)) (f0 : x18 = x5 + 1) (f1 : x17 = x2 + 1) (f2 : LL2 (layerCount_0) (items_0) (layerOf_0) (layerStart_0) (x2) (x3) (x4) (x5)) (f3 : (x4 + 1) ≤ layerCount_0) (h6 : x16 = place_1 (x5)) (f9 : LL2 (layerCount_1) (items_1) (layerOf_1) (layerStart_1) (x2) (x3) (x4) (x5)) (f10 : SLB (items_1) (layerOf_1) (slot_1) (layerStart_1) (x3) (x4) (x5) (x2)) (f11 : (x4 + 1) ≤ layerCount_1) (f13 : x14 = x2 - x13) (h14 : x13 = layerStart_2 (x4)) (f16 : LL2 (layerCount_2) (items_2) (layerOf_2) (layerStart_2) (x2) (x3) (x4) (x5)) (f17 : SLB (items_2) (layerOf_2) (slot_2) (layerStart_2) (x3) (x4) (x5) (x2)) (f18 : (x4 + 1) ≤ layerCount_2) (f21 : LL2 (layerCount_3) (items_3) (layerOf_3) (layerStart_3) (x2) (x3) (x4) (x5)) (f22 : SLB (items_3) (layerOf_3) (slot_3) (layerStart_3) (x3) (x4) (x5) (x2)) (f23 : (x4 + 1) ≤ layerCount_3) (f26 : x8 = x4) (h27 : x8 = layerOf_4 (x5)) (f29 : x5 < x6) (g30 : x6 = items_4) (f31 : LL2 (layerCount_4) (items_4) (layerOf_4) (layerStart_4) (x2) (x3) (x4) (x5)) (f32 : SLB (items_4) (layerOf_4) (slot_4) (layerStart_4) (x3) (x4) (x5) (x2)) (f33 : (x4 + 1) ≤ layerCount_4) (fe_0_2_1 : layerCount_0 = layerCount_1) (fe_0_3_1 : items_0 = items_1) (fe_0_2_2 : layerCount_1 = layerCount_2) (fe_0_3_2 : items_1 = items_2) (fe_0_2_3 : layerCount_2 = layerCount_3) (fe_0_3_3 : items_2 = items_3) (fe_0_2_4 : layerCount_3 = layerCount_4) (fe_0_3_4 : items_3 = items_4) (hE_0_4_1 : ∀ j : Int, layerOf_0 j = layerOf_1 j) (hE_0_4_2 : ∀ j : Int, layerOf_1 j = layerOf_2 j) (hE_0_4_3 : ∀ j : Int, layerOf_2 j = layerOf_3 j) (hE_0_4_4 : ∀ j : Int, layerOf_3 j = layerOf_4 j) (hK_0_4 : ∀ j : Int, 0 ≤ j → j < 72 → 0 ≤ layerOf_0 j ∧ layerOf_0 j ≤ 23) (hE_0_10_1 : ∀ j : Int, layerStart_0 j = layerStart_1 j) (hE_0_10_2 : ∀ j : Int, layerStart_1 j = layerStart_2 j) (hE_0_10_3 : ∀ j : Int, layerStart_2 j = layerStart_3 j) (hE_0_10_4 : ∀ j : Int, layerStart_3 j = layerStart_4 j) (hK_0_10 : ∀ j : Int, 0 ≤ j → j < 26 → 0 ≤ layerStart_0 j ∧ layerStart_0 j ≤ 72) (hE_0_11_1 : ∀ j : Int, listed_0 j = listed_1 j) (hE_0_11_2 : ∀ j : Int, listed_1 j = listed_2 j) (hE_0_11_3 : ∀ j : Int, listed_2 j = listed_3 j) (hE_0_11_4 : ∀ j : Int, 0 ≤ j → (j = x2 → listed_3 j = x5) ∧ (j ≠ x2 → listed_3 j = listed_4 j)) (hK_0_11 : ∀ j : Int, 0 ≤ j → j < 72 → 0 ≤ listed_0 j ∧ listed_0 j ≤ 71) (hE_0_12_1 : ∀ j : Int, 0 ≤ j → (j = x5 → slot_0 j = x16) ∧ (j ≠ x5 → slot_0 j = slot_1 j)) (hE_0_12_2 : ∀ j : Int, slot_1 j = slot_2 j) (hE_0_12_3 : ∀ j : Int, slot_2 j = slot_3 j) (hE_0_12_4 : ∀ j : Int, slot_3 j = slot_4 j) (hK_0_12 : ∀ j : Int, 0 ≤ j → j < 72 → 0 ≤ slot_0 j ∧ slot_0 j ≤ 71) (hE_0_13_1 : ∀ j : Int, row_0 j = row_1 j) (hE_0_13_2 : ∀ j : Int, row_1 j = row_2 j) (hE_0_13_3 : ∀ j : Int, 0 ≤ j → (j = x2 → row_2 j = x5) ∧ (j ≠ x2 → row_2 j = row_3 j)) (hE_0_13_4 : ∀ j : Int, row_3 j = row_4 j) (hK_0_13 : ∀ j : Int, 0 ≤ j → j < 72 → 0 ≤ row_0 j ∧ row_0 j ≤ 71) (hE_0_14_1 : ∀ j : Int, place_0 j = place_1 j) (hE_0_14_2 : ∀ j : Int, 0 ≤ j → (j = x5 → place_1 j = x14) ∧ (j ≠ x5 → place_1 j = place_2 j)) (hE_0_14_3 : ∀ j : Int, place_2 j = place_3 j) (hE_0_14_4 : ∀ j : Int, place_3 j = place_4 j) (hK_0_14 : ∀ j : Int, 0 ≤ j → j < 72 → 0 ≤ place_0 j ∧ place_0 j ≤ 71) (kz_0_2 : 0 ≤ layerCount_0 ∧ layerCount_0 ≤ 24) (kz_0_3 : 0 ≤ items_0 ∧ items_0 ≤ 72) : SLB (items_0) (layerOf_0) (slot_0) (layerStart_0) (x3) (x4) (x18) (x17) := by
  subst fe_0_2_1
  subst fe_0_3_1
  subst fe_0_2_2
  subst fe_0_3_2
  subst fe_0_2_3
  subst fe_0_3_3
  subst fe_0_2_4
  subst fe_0_3_4
  have e_hE_0_4_1 := funext hE_0_4_1; subst e_hE_0_4_1
  have e_hE_0_4_2 := funext hE_0_4_2; subst e_hE_0_4_2
  have e_hE_0_4_3 := funext hE_0_4_3; subst e_hE_0_4_3
  have e_hE_0_4_4 := funext hE_0_4_4; subst e_hE_0_4_4
  have e_hE_0_10_1 := funext hE_0_10_1; subst e_hE_0_10_1
  have e_hE_0_10_2 := funext hE_0_10_2; subst e_hE_0_10_2
  have e_hE_0_10_3 := funext hE_0_10_3; subst e_hE_0_10_3
  have e_hE_0_10_4 := funext hE_0_10_4; subst e_hE_0_10_4
  have e_hE_0_11_1 := funext hE_0_11_1; subst e_hE_0_11_1
  have e_hE_0_11_2 := funext hE_0_11_2; subst e_hE_0_11_2
  have e_hE_0_11_3 := funext hE_0_11_3; subst e_hE_0_11_3
  have e_hE_0_12_2 := funext hE_0_12_2; subst e_hE_0_12_2
  have e_hE_0_12_3 := funext hE_0_12_3; subst e_hE_0_12_3
  have e_hE_0_12_4 := funext hE_0_12_4; subst e_hE_0_12_4
  have e_hE_0_13_1 := funext hE_0_13_1; subst e_hE_0_13_1
  have e_hE_0_13_2 := funext hE_0_13_2; subst e_hE_0_13_2
  have e_hE_0_13_4 := funext hE_0_13_4; subst e_hE_0_13_4
  have e_hE_0_14_1 := funext hE_0_14_1; subst e_hE_0_14_1
  have e_hE_0_14_3 := funext hE_0_14_3; subst e_hE_0_14_3
  have e_hE_0_14_4 := funext hE_0_14_4; subst e_hE_0_14_4
  first
    | exact slb_start ‹SLA _ _ _ _ _› (by omega)
    | (skip; (first | subst h6 | skip); (first | subst h14 | skip); (first | subst h27 | skip); exact slb_skip ‹SLB _ _ _ _ _ _ _ _› (by omega) (by omega))
    | exact slb_take (p := x5) (x := x16) ‹SLB _ _ _ _ _ _ _ _› (by omega) hE_0_12_1 rfl (by have q := (hE_0_14_2 x5 (by omega)).1 rfl; omega) (by omega) (by omega) (by omega)
  
def o_La_listLayers_7 : or_T := (24, 19, [(0, (2, 0, 0, [4])), (2, (0, 0, 71, [])), (3, (0, 0, 72, [])), (4, (0, 0, 23, [])), (5, (0, 0, 71, [])), (6, (0, 1, 72, [])), (8, (0, 0, 23, [])), (9, (2, 0, 0, [69])), (10, (2, 0, 0, [71])), (11, (2, 0, 0, [72])), (13, (0, 0, 72, [])), (14, (0, 0, 71, [])), (15, (2, 0, 0, [70])), (16, (0, 0, 71, [])), (17, (0, 1, 72, [])), (18, (0, 1, 72, []))], [(6, [18, 5], [1]), (6, [17, 2], [1]), (20, [1, 2, 3, 4, 5], [60, 2, 2, 634, 2, 3, 4, 10]), (20, [4, 1], [50, 1, 0, 1002, 0, 6, 4, 2, 1, 0, 0, 1, 2, 1, 2]), (24, [0, 1], []), (100, [15, 5, 16], []), (10, [16, 11, 5], []), (9, [11, 1], [14]), (9, [15, 1], [12]), (20, [1, 2, 3, 4, 5], [60, 2, 2, 634, 2, 3, 4, 10]), (20, [1, 3, 4, 5, 2], [60, 1, 3, 690, 3, 4, 12, 10]), (20, [4, 1], [50, 1, 0, 1002, 0, 6, 4, 2, 1, 0, 0, 1, 2, 1, 2]), (100, [11, 5, 14], []), (2, [14, 2, 13], []), (10, [13, 12, 4], []), (9, [12, 1], [10]), (20, [1, 2, 3, 4, 5], [60, 2, 2, 634, 2, 3, 4, 10]), (20, [1, 3, 4, 5, 2], [60, 1, 3, 690, 3, 4, 12, 10]), (20, [4, 1], [50, 1, 0, 1002, 0, 6, 4, 2, 1, 0, 0, 1, 2, 1, 2]), (100, [10, 2, 5], []), (9, [10, 1], [13]), (20, [1, 2, 3, 4, 5], [60, 2, 2, 634, 2, 3, 4, 10]), (20, [1, 3, 4, 5, 2], [60, 1, 3, 690, 3, 4, 12, 10]), (20, [4, 1], [50, 1, 0, 1002, 0, 6, 4, 2, 1, 0, 0, 1, 2, 1, 2]), (100, [9, 2, 5], []), (9, [9, 1], [11]), (7, [8, 4], [0]), (10, [8, 7, 5], []), (9, [7, 1], [4]), (7, [5, 6], [2]), (9, [6, 1], [3]), (20, [1, 2, 3, 4, 5], [60, 2, 2, 634, 2, 3, 4, 10]), (20, [1, 3, 4, 5, 2], [60, 1, 3, 690, 3, 4, 12, 10]), (20, [4, 1], [50, 1, 0, 1002, 0, 6, 4, 2, 1, 0, 0, 1, 2, 1, 2])], [], [], [(20, [1, 17, 3, 4, 18], [60, 2, 2, 634, 2, 3, 4, 10]), (20, [1, 3, 4, 18, 17], [60, 1, 3, 690, 3, 4, 12, 10])], [], [(18, 5, 1, 1), (18, 6, -4294967296, 0), (17, 2, 1, 1), (14, 2, -72, 0), (8, 4, 0, 0), (5, 6, -4294967296, -1)])
theorem oo_La_listLayers_7 {kA : Nat → ClassId} : or_ok PRD kA GG o_La_listLayers_7 := by
  refine or_mk fun A ta ws vs hD hth hl => ?_
  intro t0 r0 t2 k2 t3 k3 t4 k4 t5 k5 t6 k6 t8 k8 t9 r9 t10 r10 t11 r11 t13 k13 t14 k14 t15 r15 t16 k16 t17 k17 t18 k18 d0 d1 d2 d3 d4 d5 f0 f1 f2 f3 f4 ta1 w1 le1 s1 f6 f7 f8 f9 f10 f11 ta2 w2 le2 s2 f13 f14 f15 f16 f17 f18 ta3 w3 le3 s3 f20 f21 f22 f23 ta4 w4 le4 s4 f25 f26 f27 f28 f29 f30 f31 f32 f33
  replace f0 := shm_4 f0
  replace f1 := shm_4 f1
  replace f2 := shm_877 f2
  replace f3 := shm_879 f3
  replace f4 := shm_5 f4
  have s1 : (∀ b j, w_el ws b j = if b = v_ad (n_v vs 15) ∧ j = (v_iv (n_v vs 5)).toNat then v_iv (n_v vs 16) else w_el w1 b j) ∧ ∀ b k, w_fd ws b k = w_fd w1 b k := s1.2
  replace f6 := shm_107 f6
  replace f7 := shm_115 f7
  replace f8 := shm_103 f8
  replace f9 := shm_877 f9
  replace f10 := shm_878 f10
  replace f11 := shm_879 f11
  have s2 : (∀ b j, w_el w1 b j = if b = v_ad (n_v vs 11) ∧ j = (v_iv (n_v vs 5)).toNat then v_iv (n_v vs 14) else w_el w2 b j) ∧ ∀ b k, w_fd w1 b k = w_fd w2 b k := s2.2
  replace f13 := shm_14 f13
  replace f14 := shm_107 f14
  replace f15 := shm_106 f15
  replace f16 := shm_877 f16
  replace f17 := shm_878 f17
  replace f18 := shm_879 f18
  have s3 : (∀ b j, w_el w2 b j = if b = v_ad (n_v vs 10) ∧ j = (v_iv (n_v vs 2)).toNat then v_iv (n_v vs 5) else w_el w3 b j) ∧ ∀ b k, w_fd w2 b k = w_fd w3 b k := s3.2
  replace f20 := shm_361 f20
  replace f21 := shm_877 f21
  replace f22 := shm_878 f22
  replace f23 := shm_879 f23
  have s4 : (∀ b j, w_el w3 b j = if b = v_ad (n_v vs 9) ∧ j = (v_iv (n_v vs 2)).toNat then v_iv (n_v vs 5) else w_el w4 b j) ∧ ∀ b k, w_fd w3 b k = w_fd w4 b k := s4.2
  replace f25 := shm_116 f25
  replace f26 := shm_37 f26
  replace f27 := shm_107 f27
  replace f28 := shm_108 f28
  replace f29 := shm_6 f29
  replace f30 := shm_137 f30
  replace f31 := shm_877 f31
  replace f32 := shm_878 f32
  replace f33 := shm_879 f33
  have q1 : n_v vs 1 = n_v vs 0 := f4.symm
  simp only [q1] at f2 f3 f7 f8 f9 f10 f11 f15 f16 f17 f18 f20 f21 f22 f23 f25 f28 f30 f31 f32 f33
  have ar_0_4_1 : w_ar w1 (n_v vs 0) 4 = w_ar ws (n_v vs 0) 4 := congrArg v_ad (s1.2 _ _).symm
  have ar_0_4_2 : w_ar w2 (n_v vs 0) 4 = w_ar ws (n_v vs 0) 4 := by rw [← ar_0_4_1]; show v_ad (w_fd w2 _ _) = v_ad (w_fd w1 _ _); rw [s2.2]
  have ar_0_4_3 : w_ar w3 (n_v vs 0) 4 = w_ar ws (n_v vs 0) 4 := by rw [← ar_0_4_2]; show v_ad (w_fd w3 _ _) = v_ad (w_fd w2 _ _); rw [s3.2]
  have ar_0_4_4 : w_ar w4 (n_v vs 0) 4 = w_ar ws (n_v vs 0) 4 := by rw [← ar_0_4_3]; show v_ad (w_fd w4 _ _) = v_ad (w_fd w3 _ _); rw [s4.2]
  have cr_0_4 := fdq_219 hD hth r0
  have ar_0_10_1 : w_ar w1 (n_v vs 0) 10 = w_ar ws (n_v vs 0) 10 := congrArg v_ad (s1.2 _ _).symm
  have ar_0_10_2 : w_ar w2 (n_v vs 0) 10 = w_ar ws (n_v vs 0) 10 := by rw [← ar_0_10_1]; show v_ad (w_fd w2 _ _) = v_ad (w_fd w1 _ _); rw [s2.2]
  have ar_0_10_3 : w_ar w3 (n_v vs 0) 10 = w_ar ws (n_v vs 0) 10 := by rw [← ar_0_10_2]; show v_ad (w_fd w3 _ _) = v_ad (w_fd w2 _ _); rw [s3.2]
  have ar_0_10_4 : w_ar w4 (n_v vs 0) 10 = w_ar ws (n_v vs 0) 10 := by rw [← ar_0_10_3]; show v_ad (w_fd w4 _ _) = v_ad (w_fd w3 _ _); rw [s4.2]
  have cr_0_10 := fdq_5 hD hth r0
  have ar_0_11_1 : w_ar w1 (n_v vs 0) 11 = w_ar ws (n_v vs 0) 11 := congrArg v_ad (s1.2 _ _).symm
  have ar_0_11_2 : w_ar w2 (n_v vs 0) 11 = w_ar ws (n_v vs 0) 11 := by rw [← ar_0_11_1]; show v_ad (w_fd w2 _ _) = v_ad (w_fd w1 _ _); rw [s2.2]
  have ar_0_11_3 : w_ar w3 (n_v vs 0) 11 = w_ar ws (n_v vs 0) 11 := by rw [← ar_0_11_2]; show v_ad (w_fd w3 _ _) = v_ad (w_fd w2 _ _); rw [s3.2]
  have ar_0_11_4 : w_ar w4 (n_v vs 0) 11 = w_ar ws (n_v vs 0) 11 := by rw [← ar_0_11_3]; show v_ad (w_fd w4 _ _) = v_ad (w_fd w3 _ _); rw [s4.2]
  have cr_0_11 := fdq_220 hD hth r0
  have ar_0_12_1 : w_ar w1 (n_v vs 0) 12 = w_ar ws (n_v vs 0) 12 := congrArg v_ad (s1.2 _ _).symm
  have ar_0_12_2 : w_ar w2 (n_v vs 0) 12 = w_ar ws (n_v vs 0) 12 := by rw [← ar_0_12_1]; show v_ad (w_fd w2 _ _) = v_ad (w_fd w1 _ _); rw [s2.2]
  have ar_0_12_3 : w_ar w3 (n_v vs 0) 12 = w_ar ws (n_v vs 0) 12 := by rw [← ar_0_12_2]; show v_ad (w_fd w3 _ _) = v_ad (w_fd w2 _ _); rw [s3.2]
  have ar_0_12_4 : w_ar w4 (n_v vs 0) 12 = w_ar ws (n_v vs 0) 12 := by rw [← ar_0_12_3]; show v_ad (w_fd w4 _ _) = v_ad (w_fd w3 _ _); rw [s4.2]
  have cr_0_12 := fdq_217 hD hth r0
  have ar_0_13_1 : w_ar w1 (n_v vs 0) 13 = w_ar ws (n_v vs 0) 13 := congrArg v_ad (s1.2 _ _).symm
  have ar_0_13_2 : w_ar w2 (n_v vs 0) 13 = w_ar ws (n_v vs 0) 13 := by rw [← ar_0_13_1]; show v_ad (w_fd w2 _ _) = v_ad (w_fd w1 _ _); rw [s2.2]
  have ar_0_13_3 : w_ar w3 (n_v vs 0) 13 = w_ar ws (n_v vs 0) 13 := by rw [← ar_0_13_2]; show v_ad (w_fd w3 _ _) = v_ad (w_fd w2 _ _); rw [s3.2]
  have cr_0_13 := fdq_221 hD hth r0
  have ar_0_14_1 : w_ar w1 (n_v vs 0) 14 = w_ar ws (n_v vs 0) 14 := congrArg v_ad (s1.2 _ _).symm
  have cr_0_14 := fdq_6 hD hth r0
  have ad_11 : v_ad (n_v vs 11) = w_ar ws (n_v vs 0) 14 := (congrArg v_ad f7).trans ar_0_14_1
  have ad_15 : v_ad (n_v vs 15) = w_ar ws (n_v vs 0) 12 := (congrArg v_ad f8).trans ar_0_12_1
  have ad_12 : v_ad (n_v vs 12) = w_ar ws (n_v vs 0) 10 := (congrArg v_ad f15).trans ar_0_10_2
  have ad_10 : v_ad (n_v vs 10) = w_ar ws (n_v vs 0) 13 := (congrArg v_ad f20).trans ar_0_13_3
  have ad_9 : v_ad (n_v vs 9) = w_ar ws (n_v vs 0) 11 := (congrArg v_ad f25).trans ar_0_11_4
  have ad_7 : v_ad (n_v vs 7) = w_ar ws (n_v vs 0) 4 := (congrArg v_ad f28).trans ar_0_4_4
  simp only [ad_11] at f6
  have h6 : v_iv (n_v vs 16) = w_ei w1 (w_ar ws (n_v vs 0) 14) (v_iv (n_v vs 5)) := f6
  simp only [ar_0_4_1, ar_0_10_1, ar_0_12_1, ad_12] at f9 f10 f14
  have h14 : v_iv (n_v vs 13) = w_ei w2 (w_ar ws (n_v vs 0) 10) (v_iv (n_v vs 4)) := f14
  simp only [ar_0_4_2, ar_0_10_2, ar_0_12_2, ar_0_4_3, ar_0_10_3, ar_0_12_3, ad_7] at f16 f17 f21 f22 f27
  have h27 : v_iv (n_v vs 8) = w_ei w4 (w_ar ws (n_v vs 0) 4) (v_iv (n_v vs 5)) := f27
  have g30 : v_iv (n_v vs 6) = w_fi w4 (n_v vs 0) 3 := congrArg v_iv f30
  simp only [ar_0_4_4, ar_0_10_4, ar_0_12_4] at f31 f32
  have fe_0_2_1 : w_fi ws (n_v vs 0) 2 = w_fi w1 (n_v vs 0) 2 := congrArg v_iv (s1.2 _ _)
  have fe_0_3_1 : w_fi ws (n_v vs 0) 3 = w_fi w1 (n_v vs 0) 3 := congrArg v_iv (s1.2 _ _)
  have fe_0_2_2 : w_fi w1 (n_v vs 0) 2 = w_fi w2 (n_v vs 0) 2 := congrArg v_iv (s2.2 _ _)
  have fe_0_3_2 : w_fi w1 (n_v vs 0) 3 = w_fi w2 (n_v vs 0) 3 := congrArg v_iv (s2.2 _ _)
  have fe_0_2_3 : w_fi w2 (n_v vs 0) 2 = w_fi w3 (n_v vs 0) 2 := congrArg v_iv (s3.2 _ _)
  have fe_0_3_3 : w_fi w2 (n_v vs 0) 3 = w_fi w3 (n_v vs 0) 3 := congrArg v_iv (s3.2 _ _)
  have fe_0_2_4 : w_fi w3 (n_v vs 0) 2 = w_fi w4 (n_v vs 0) 2 := congrArg v_iv (s4.2 _ _)
  have fe_0_3_4 : w_fi w3 (n_v vs 0) 3 = w_fi w4 (n_v vs 0) 3 := congrArg v_iv (s4.2 _ _)
  have hE_0_4_1 : ∀ j : Int, w_ei ws (w_ar ws (n_v vs 0) 4) j = w_ei w1 (w_ar ws (n_v vs 0) 4) j := el_kp s1.1 r15 cr_0_4 (by decide)
  have hE_0_4_2 : ∀ j : Int, w_ei w1 (w_ar ws (n_v vs 0) 4) j = w_ei w2 (w_ar ws (n_v vs 0) 4) j := el_kp s2.1 r11 cr_0_4 (by decide)
  have hE_0_4_3 : ∀ j : Int, w_ei w2 (w_ar ws (n_v vs 0) 4) j = w_ei w3 (w_ar ws (n_v vs 0) 4) j := el_kp s3.1 r10 cr_0_4 (by decide)
  have hE_0_4_4 : ∀ j : Int, w_ei w3 (w_ar ws (n_v vs 0) 4) j = w_ei w4 (w_ar ws (n_v vs 0) 4) j := el_kp s4.1 r9 cr_0_4 (by decide)
  have hK_0_4 := elq_131 hD hth cr_0_4
  have hE_0_10_1 : ∀ j : Int, w_ei ws (w_ar ws (n_v vs 0) 10) j = w_ei w1 (w_ar ws (n_v vs 0) 10) j := el_kp s1.1 r15 cr_0_10 (by decide)
  have hE_0_10_2 : ∀ j : Int, w_ei w1 (w_ar ws (n_v vs 0) 10) j = w_ei w2 (w_ar ws (n_v vs 0) 10) j := el_kp s2.1 r11 cr_0_10 (by decide)
  have hE_0_10_3 : ∀ j : Int, w_ei w2 (w_ar ws (n_v vs 0) 10) j = w_ei w3 (w_ar ws (n_v vs 0) 10) j := el_kp s3.1 r10 cr_0_10 (by decide)
  have hE_0_10_4 : ∀ j : Int, w_ei w3 (w_ar ws (n_v vs 0) 10) j = w_ei w4 (w_ar ws (n_v vs 0) 10) j := el_kp s4.1 r9 cr_0_10 (by decide)
  have hK_0_10 := elq_39 hD hth cr_0_10
  have hE_0_11_1 : ∀ j : Int, w_ei ws (w_ar ws (n_v vs 0) 11) j = w_ei w1 (w_ar ws (n_v vs 0) 11) j := el_kp s1.1 r15 cr_0_11 (by decide)
  have hE_0_11_2 : ∀ j : Int, w_ei w1 (w_ar ws (n_v vs 0) 11) j = w_ei w2 (w_ar ws (n_v vs 0) 11) j := el_kp s2.1 r11 cr_0_11 (by decide)
  have hE_0_11_3 : ∀ j : Int, w_ei w2 (w_ar ws (n_v vs 0) 11) j = w_ei w3 (w_ar ws (n_v vs 0) 11) j := el_kp s3.1 r10 cr_0_11 (by decide)
  have hE_0_11_4 : ∀ j : Int, 0 ≤ j → (j = v_iv (n_v vs 2) → w_ei w3 (w_ar ws (n_v vs 0) 11) j = v_iv (n_v vs 5)) ∧ (j ≠ v_iv (n_v vs 2) → w_ei w3 (w_ar ws (n_v vs 0) 11) j = w_ei w4 (w_ar ws (n_v vs 0) 11) j) := fun j hj => ⟨fun h => by unfold w_ei; rw [s4.1, if_pos ⟨ad_9.symm, by rw [h]⟩], fun h => by unfold w_ei; rw [s4.1, if_neg (fun e => h (by have := e.2; omega))]⟩
  have hK_0_11 := elq_132 hD hth cr_0_11
  have hE_0_12_1 : ∀ j : Int, 0 ≤ j → (j = v_iv (n_v vs 5) → w_ei ws (w_ar ws (n_v vs 0) 12) j = v_iv (n_v vs 16)) ∧ (j ≠ v_iv (n_v vs 5) → w_ei ws (w_ar ws (n_v vs 0) 12) j = w_ei w1 (w_ar ws (n_v vs 0) 12) j) := fun j hj => ⟨fun h => by unfold w_ei; rw [s1.1, if_pos ⟨ad_15.symm, by rw [h]⟩], fun h => by unfold w_ei; rw [s1.1, if_neg (fun e => h (by have := e.2; omega))]⟩
  have hE_0_12_2 : ∀ j : Int, w_ei w1 (w_ar ws (n_v vs 0) 12) j = w_ei w2 (w_ar ws (n_v vs 0) 12) j := el_kp s2.1 r11 cr_0_12 (by decide)
  have hE_0_12_3 : ∀ j : Int, w_ei w2 (w_ar ws (n_v vs 0) 12) j = w_ei w3 (w_ar ws (n_v vs 0) 12) j := el_kp s3.1 r10 cr_0_12 (by decide)
  have hE_0_12_4 : ∀ j : Int, w_ei w3 (w_ar ws (n_v vs 0) 12) j = w_ei w4 (w_ar ws (n_v vs 0) 12) j := el_kp s4.1 r9 cr_0_12 (by decide)
  have hK_0_12 := elq_130 hD hth cr_0_12
  have hE_0_13_1 : ∀ j : Int, w_ei ws (w_ar ws (n_v vs 0) 13) j = w_ei w1 (w_ar ws (n_v vs 0) 13) j := el_kp s1.1 r15 cr_0_13 (by decide)
  have hE_0_13_2 : ∀ j : Int, w_ei w1 (w_ar ws (n_v vs 0) 13) j = w_ei w2 (w_ar ws (n_v vs 0) 13) j := el_kp s2.1 r11 cr_0_13 (by decide)
  have hE_0_13_3 : ∀ j : Int, 0 ≤ j → (j = v_iv (n_v vs 2) → w_ei w2 (w_ar ws (n_v vs 0) 13) j = v_iv (n_v vs 5)) ∧ (j ≠ v_iv (n_v vs 2) → w_ei w2 (w_ar ws (n_v vs 0) 13) j = w_ei w3 (w_ar ws (n_v vs 0) 13) j) := fun j hj => ⟨fun h => by unfold w_ei; rw [s3.1, if_pos ⟨ad_10.symm, by rw [h]⟩], fun h => by unfold w_ei; rw [s3.1, if_neg (fun e => h (by have := e.2; omega))]⟩
  have hE_0_13_4 : ∀ j : Int, w_ei w3 (w_ar ws (n_v vs 0) 13) j = w_ei w4 (w_ar ws (n_v vs 0) 13) j := el_kp s4.1 r9 cr_0_13 (by decide)
  have hK_0_13 := elq_133 hD hth cr_0_13
  have hE_0_14_1 : ∀ j : Int, w_ei ws (w_ar ws (n_v vs 0) 14) j = w_ei w1 (w_ar ws (n_v vs 0) 14) j := el_kp s1.1 r15 cr_0_14 (by decide)
  have hE_0_14_2 : ∀ j : Int, 0 ≤ j → (j = v_iv (n_v vs 5) → w_ei w1 (w_ar ws (n_v vs 0) 14) j = v_iv (n_v vs 14)) ∧ (j ≠ v_iv (n_v vs 5) → w_ei w1 (w_ar ws (n_v vs 0) 14) j = w_ei w2 (w_ar ws (n_v vs 0) 14) j) := fun j hj => ⟨fun h => by unfold w_ei; rw [s2.1, if_pos ⟨ad_11.symm, by rw [h]⟩], fun h => by unfold w_ei; rw [s2.1, if_neg (fun e => h (by have := e.2; omega))]⟩
  have hE_0_14_3 : ∀ j : Int, w_ei w2 (w_ar ws (n_v vs 0) 14) j = w_ei w3 (w_ar ws (n_v vs 0) 14) j := el_kp s3.1 r10 cr_0_14 (by decide)
  have hE_0_14_4 : ∀ j : Int, w_ei w3 (w_ar ws (n_v vs 0) 14) j = w_ei w4 (w_ar ws (n_v vs 0) 14) j := el_kp s4.1 r9 cr_0_14 (by decide)
  have hK_0_14 := elq_134 hD hth cr_0_14
  have kz_0_2 := fdq_77 hD hth r0
  have kz_0_3 := fdq_218 hD hth r0
  have nf0 : fc_1 PRD (20, [1, 17, 3, 4, 18], [60, 2, 2, 634, 2, 3, 4, 10]) ws (vs) := by
    refine ⟨nf_in hl rfl, sgq_877 ?_⟩
    · show LL2 (w_fi ws (n_v vs 1) 2) (w_fi ws (n_v vs 1) 3) (w_ei ws (w_ar ws (n_v vs 1) 4)) (w_ei ws (w_ar ws (n_v vs 1) 10)) (v_iv (n_v vs 17)) (v_iv (n_v vs 3)) (v_iv (n_v vs 4)) (v_iv (n_v vs 18))
      rw [q1]
      exact vc_La_listLayers_7_0 (v_iv (n_v vs 2)) (v_iv (n_v vs 3)) (v_iv (n_v vs 4)) (v_iv (n_v vs 5)) (v_iv (n_v vs 6)) (v_iv (n_v vs 8)) (v_iv (n_v vs 13)) (v_iv (n_v vs 14)) (v_iv (n_v vs 16)) (v_iv (n_v vs 17)) (v_iv (n_v vs 18)) (w_ei ws (w_ar ws (n_v vs 0) 4)) (w_ei ws (w_ar ws (n_v vs 0) 10)) (w_fi ws (n_v vs 0) 2) (w_fi ws (n_v vs 0) 3) (w_ei w1 (w_ar ws (n_v vs 0) 14)) (w_ei w1 (w_ar ws (n_v vs 0) 4)) (w_ei w1 (w_ar ws (n_v vs 0) 10)) (w_fi w1 (n_v vs 0) 2) (w_fi w1 (n_v vs 0) 3) (w_ei w1 (w_ar ws (n_v vs 0) 12)) (w_ei w2 (w_ar ws (n_v vs 0) 10)) (w_ei w2 (w_ar ws (n_v vs 0) 4)) (w_fi w2 (n_v vs 0) 2) (w_fi w2 (n_v vs 0) 3) (w_ei w2 (w_ar ws (n_v vs 0) 12)) (w_ei w3 (w_ar ws (n_v vs 0) 4)) (w_ei w3 (w_ar ws (n_v vs 0) 10)) (w_fi w3 (n_v vs 0) 2) (w_fi w3 (n_v vs 0) 3) (w_ei w3 (w_ar ws (n_v vs 0) 12)) (w_ei w4 (w_ar ws (n_v vs 0) 4)) (w_fi w4 (n_v vs 0) 3) (w_ei w4 (w_ar ws (n_v vs 0) 10)) (w_fi w4 (n_v vs 0) 2) (w_ei w4 (w_ar ws (n_v vs 0) 12)) (w_ei ws (w_ar ws (n_v vs 0) 11)) (w_ei w1 (w_ar ws (n_v vs 0) 11)) (w_ei w2 (w_ar ws (n_v vs 0) 11)) (w_ei w3 (w_ar ws (n_v vs 0) 11)) (w_ei w4 (w_ar ws (n_v vs 0) 11)) (w_ei ws (w_ar ws (n_v vs 0) 12)) (w_ei ws (w_ar ws (n_v vs 0) 13)) (w_ei w1 (w_ar ws (n_v vs 0) 13)) (w_ei w2 (w_ar ws (n_v vs 0) 13)) (w_ei w3 (w_ar ws (n_v vs 0) 13)) (w_ei w4 (w_ar ws (n_v vs 0) 13)) (w_ei ws (w_ar ws (n_v vs 0) 14)) (w_ei w2 (w_ar ws (n_v vs 0) 14)) (w_ei w3 (w_ar ws (n_v vs 0) 14)) (w_ei w4 (w_ar ws (n_v vs 0) 14)) k2 k3 k4 k5 k6 k8 k13 k14 k16 k17 k18 d0 d1 d2 d3 d4 d5 f0 f1 f2 f3 h6 f9 f10 f11 f13 h14 f16 f17 f18 f21 f22 f23 f26 h27 f29 g30 f31 f32 f33 fe_0_2_1 fe_0_3_1 fe_0_2_2 fe_0_3_2 fe_0_2_3 fe_0_3_3 fe_0_2_4 fe_0_3_4 hE_0_4_1 hE_0_4_2 hE_0_4_3 hE_0_4_4 hK_0_4 hE_0_10_1 hE_0_10_2 hE_0_10_3 hE_0_10_4 hK_0_10 hE_0_11_1 hE_0_11_2 hE_0_11_3 hE_0_11_4 hK_0_11 hE_0_12_1 hE_0_12_2 hE_0_12_3 hE_0_12_4 hK_0_12 hE_0_13_1 hE_0_13_2 hE_0_13_3 hE_0_13_4 hK_0_13 hE_0_14_1 hE_0_14_2 hE_0_14_3 hE_0_14_4 hK_0_14 kz_0_2 kz_0_3
  have nf1 : fc_1 PRD (20, [1, 3, 4, 18, 17], [60, 1, 3, 690, 3, 4, 12, 10]) ws (vs) := by
    refine ⟨nf_in hl rfl, sgq_878 ?_⟩
    · show SLB (w_fi ws (n_v vs 1) 3) (w_ei ws (w_ar ws (n_v vs 1) 4)) (w_ei ws (w_ar ws (n_v vs 1) 12)) (w_ei ws (w_ar ws (n_v vs 1) 10)) (v_iv (n_v vs 3)) (v_iv (n_v vs 4)) (v_iv (n_v vs 18)) (v_iv (n_v vs 17))
      rw [q1]
      exact vc_La_listLayers_7_1 (v_iv (n_v vs 2)) (v_iv (n_v vs 3)) (v_iv (n_v vs 4)) (v_iv (n_v vs 5)) (v_iv (n_v vs 6)) (v_iv (n_v vs 8)) (v_iv (n_v vs 13)) (v_iv (n_v vs 14)) (v_iv (n_v vs 16)) (v_iv (n_v vs 17)) (v_iv (n_v vs 18)) (w_ei ws (w_ar ws (n_v vs 0) 4)) (w_ei ws (w_ar ws (n_v vs 0) 10)) (w_fi ws (n_v vs 0) 2) (w_fi ws (n_v vs 0) 3) (w_ei w1 (w_ar ws (n_v vs 0) 14)) (w_ei w1 (w_ar ws (n_v vs 0) 4)) (w_ei w1 (w_ar ws (n_v vs 0) 10)) (w_fi w1 (n_v vs 0) 2) (w_fi w1 (n_v vs 0) 3) (w_ei w1 (w_ar ws (n_v vs 0) 12)) (w_ei w2 (w_ar ws (n_v vs 0) 10)) (w_ei w2 (w_ar ws (n_v vs 0) 4)) (w_fi w2 (n_v vs 0) 2) (w_fi w2 (n_v vs 0) 3) (w_ei w2 (w_ar ws (n_v vs 0) 12)) (w_ei w3 (w_ar ws (n_v vs 0) 4)) (w_ei w3 (w_ar ws (n_v vs 0) 10)) (w_fi w3 (n_v vs 0) 2) (w_fi w3 (n_v vs 0) 3) (w_ei w3 (w_ar ws (n_v vs 0) 12)) (w_ei w4 (w_ar ws (n_v vs 0) 4)) (w_fi w4 (n_v vs 0) 3) (w_ei w4 (w_ar ws (n_v vs 0) 10)) (w_fi w4 (n_v vs 0) 2) (w_ei w4 (w_ar ws (n_v vs 0) 12)) (w_ei ws (w_ar ws (n_v vs 0) 11)) (w_ei w1 (w_ar ws (n_v vs 0) 11)) (w_ei w2 (w_ar ws (n_v vs 0) 11)) (w_ei w3 (w_ar ws (n_v vs 0) 11)) (w_ei w4 (w_ar ws (n_v vs 0) 11)) (w_ei ws (w_ar ws (n_v vs 0) 12)) (w_ei ws (w_ar ws (n_v vs 0) 13)) (w_ei w1 (w_ar ws (n_v vs 0) 13)) (w_ei w2 (w_ar ws (n_v vs 0) 13)) (w_ei w3 (w_ar ws (n_v vs 0) 13)) (w_ei w4 (w_ar ws (n_v vs 0) 13)) (w_ei ws (w_ar ws (n_v vs 0) 14)) (w_ei w2 (w_ar ws (n_v vs 0) 14)) (w_ei w3 (w_ar ws (n_v vs 0) 14)) (w_ei w4 (w_ar ws (n_v vs 0) 14)) k2 k3 k4 k5 k6 k8 k13 k14 k16 k17 k18 d0 d1 d2 d3 d4 d5 f0 f1 f2 f3 h6 f9 f10 f11 f13 h14 f16 f17 f18 f21 f22 f23 f26 h27 f29 g30 f31 f32 f33 fe_0_2_1 fe_0_3_1 fe_0_2_2 fe_0_3_2 fe_0_2_3 fe_0_3_3 fe_0_2_4 fe_0_3_4 hE_0_4_1 hE_0_4_2 hE_0_4_3 hE_0_4_4 hK_0_4 hE_0_10_1 hE_0_10_2 hE_0_10_3 hE_0_10_4 hK_0_10 hE_0_11_1 hE_0_11_2 hE_0_11_3 hE_0_11_4 hK_0_11 hE_0_12_1 hE_0_12_2 hE_0_12_3 hE_0_12_4 hK_0_12 hE_0_13_1 hE_0_13_2 hE_0_13_3 hE_0_13_4 hK_0_13 hE_0_14_1 hE_0_14_2 hE_0_14_3 hE_0_14_4 hK_0_14 kz_0_2 kz_0_3
  refine ⟨(fun _ h => (by cases h)), [], trivial, ?_, (fun _ h => (by cases h))⟩
  rw [List.append_nil]
  exact List.forall_mem_cons.mpr ⟨⟨show (20 : Nat) < 100 from by decide, nf0⟩, List.forall_mem_cons.mpr ⟨⟨show (20 : Nat) < 100 from by decide, nf1⟩, (fun _ h => (by cases h))⟩⟩
def n_La_listLayers_an : List an_T := [(6, [(0, (2, 0, 0, [4])), (1, (0, 0, 72, [])), (2, (0, 0, 72, [])), (3, (0, 0, 24, []))], [], (0, 0), [(0, 0, 99994), (1, 4, 24), (0, 0, 100000), (0, 0, 0), (0, 0, 0)], [], [], [(2, 0, 0, [4])], 0, [], [(20, [1, 2, 3, 4], [60, 2, 2, 633, 2, 3, 4, 10]), (20, [1, 3, 4], [60, 1, 2, 689, 3, 4, 12]), (20, [4, 1], [50, 1, 0, 1002, 0, 2, 1, 0, 2, 1, 2]), (24, [0, 1], [])]), (24, [(0, (2, 0, 0, [4])), (1, (0, 0, 72, [])), (2, (0, 0, 72, [])), (3, (0, 0, 23, [])), (4, (0, 0, 72, []))], [], (0, 0), [(0, 0, 99994), (1, 4, 24), (0, 0, 99976), (1, 5, 72), (0, 0, 100000)], [], [], [(2, 0, 0, [4])], 0, [], [(20, [1, 2, 3, 4, 5], [60, 2, 2, 634, 2, 3, 4, 10]), (20, [1, 3, 4, 5, 2], [60, 1, 3, 690, 3, 4, 12, 10]), (20, [4, 1], [50, 1, 0, 1002, 0, 6, 4, 2, 1, 0, 0, 1, 2, 1, 2]), (24, [0, 1], [])])]
def t_La_listLayers_ct : ct_L := [(324, 170, e_jMath_max1_v12), (324, 170, e_jMath_max1_v13), (324, 170, e_jMath_max1_v14), (324, 170, e_jMath_max1_v15), (324, 170, e_jMath_max1_v16), (324, 170, e_jMath_max1_v17), (324, 170, e_jMath_max1_v18), (324, 170, e_jMath_max1_v19), (324, 170, e_jMath_max1_v20), (324, 170, e_jMath_max1_v21), (324, 170, e_jMath_max1_v22), (324, 170, e_jMath_max1_v23), (324, 170, e_jMath_max1_v24), (324, 170, e_jMath_max1_v25), (324, 170, e_jMath_max1_v26), (324, 170, e_jMath_max1_v27), (324, 170, e_jMath_max1_v28), (324, 170, e_jMath_max1_v29), (324, 170, e_jMath_max1_v30), (324, 170, e_jMath_max1_v31), (324, 170, e_jMath_max1_v32), (324, 170, e_jMath_max1_v33)]
set_option maxRecDepth 100000 in
theorem c_La_listLayers {l : Launch} {D : va_G} {kA : Nat → ClassId} : ct_ok PRD l D kA GG y_La_listLayers z_La_listLayers e_La_listLayers := chk_all_ok (FT := [(22, 4, 2), (26, 4, 3), (29, 4, 4), (48, 4, 10), (51, 4, 11), (54, 4, 12), (57, 4, 13), (60, 4, 14)]) (PT := []) (CT := t_La_listLayers_ct) (KT := []) (NT := []) (AN := n_La_listLayers_an) (OT := [o_La_listLayers_0, o_La_listLayers_1, o_La_listLayers_2, o_La_listLayers_3, o_La_listLayers_4, o_La_listLayers_5, o_La_listLayers_6, o_La_listLayers_7]) 5 316 (List.forall_mem_cons.mpr ⟨oo_La_listLayers_0, List.forall_mem_cons.mpr ⟨oo_La_listLayers_1, List.forall_mem_cons.mpr ⟨oo_La_listLayers_2, List.forall_mem_cons.mpr ⟨oo_La_listLayers_3, List.forall_mem_cons.mpr ⟨oo_La_listLayers_4, List.forall_mem_cons.mpr ⟨oo_La_listLayers_5, List.forall_mem_cons.mpr ⟨oo_La_listLayers_6, List.forall_mem_cons.mpr ⟨oo_La_listLayers_7, List.forall_mem_nil _⟩⟩⟩⟩⟩⟩⟩⟩) (by decide +kernel) ⟨List.forall_mem_cons.mpr ⟨gf_La_22, List.forall_mem_cons.mpr ⟨gf_La_26, List.forall_mem_cons.mpr ⟨gf_La_29, List.forall_mem_cons.mpr ⟨gf_La_48, List.forall_mem_cons.mpr ⟨gf_La_51, List.forall_mem_cons.mpr ⟨gf_La_54, List.forall_mem_cons.mpr ⟨gf_La_57, List.forall_mem_cons.mpr ⟨gf_La_60, List.forall_mem_nil _⟩⟩⟩⟩⟩⟩⟩⟩, List.forall_mem_nil _, List.forall_mem_cons.mpr ⟨cl_static (y := y_jMath_max1) c_jMath_max1_v12 wm_836 wm_10 wm_1362 wm_835 ⟨by decide, by decide, by decide +kernel⟩ (by decide), List.forall_mem_cons.mpr ⟨cl_static (y := y_jMath_max1) c_jMath_max1_v13 wm_836 wm_10 wm_1362 wm_835 ⟨by decide, by decide, by decide +kernel⟩ (by decide), List.forall_mem_cons.mpr ⟨cl_static (y := y_jMath_max1) c_jMath_max1_v14 wm_836 wm_10 wm_1362 wm_835 ⟨by decide, by decide, by decide +kernel⟩ (by decide), List.forall_mem_cons.mpr ⟨cl_static (y := y_jMath_max1) c_jMath_max1_v15 wm_836 wm_10 wm_1362 wm_835 ⟨by decide, by decide, by decide +kernel⟩ (by decide), List.forall_mem_cons.mpr ⟨cl_static (y := y_jMath_max1) c_jMath_max1_v16 wm_836 wm_10 wm_1362 wm_835 ⟨by decide, by decide, by decide +kernel⟩ (by decide), List.forall_mem_cons.mpr ⟨cl_static (y := y_jMath_max1) c_jMath_max1_v17 wm_836 wm_10 wm_1362 wm_835 ⟨by decide, by decide, by decide +kernel⟩ (by decide), List.forall_mem_cons.mpr ⟨cl_static (y := y_jMath_max1) c_jMath_max1_v18 wm_836 wm_10 wm_1362 wm_835 ⟨by decide, by decide, by decide +kernel⟩ (by decide), List.forall_mem_cons.mpr ⟨cl_static (y := y_jMath_max1) c_jMath_max1_v19 wm_836 wm_10 wm_1362 wm_835 ⟨by decide, by decide, by decide +kernel⟩ (by decide), List.forall_mem_cons.mpr ⟨cl_static (y := y_jMath_max1) c_jMath_max1_v20 wm_836 wm_10 wm_1362 wm_835 ⟨by decide, by decide, by decide +kernel⟩ (by decide), List.forall_mem_cons.mpr ⟨cl_static (y := y_jMath_max1) c_jMath_max1_v21 wm_836 wm_10 wm_1362 wm_835 ⟨by decide, by decide, by decide +kernel⟩ (by decide), List.forall_mem_cons.mpr ⟨cl_static (y := y_jMath_max1) c_jMath_max1_v22 wm_836 wm_10 wm_1362 wm_835 ⟨by decide, by decide, by decide +kernel⟩ (by decide), List.forall_mem_cons.mpr ⟨cl_static (y := y_jMath_max1) c_jMath_max1_v23 wm_836 wm_10 wm_1362 wm_835 ⟨by decide, by decide, by decide +kernel⟩ (by decide), List.forall_mem_cons.mpr ⟨cl_static (y := y_jMath_max1) c_jMath_max1_v24 wm_836 wm_10 wm_1362 wm_835 ⟨by decide, by decide, by decide +kernel⟩ (by decide), List.forall_mem_cons.mpr ⟨cl_static (y := y_jMath_max1) c_jMath_max1_v25 wm_836 wm_10 wm_1362 wm_835 ⟨by decide, by decide, by decide +kernel⟩ (by decide), List.forall_mem_cons.mpr ⟨cl_static (y := y_jMath_max1) c_jMath_max1_v26 wm_836 wm_10 wm_1362 wm_835 ⟨by decide, by decide, by decide +kernel⟩ (by decide), List.forall_mem_cons.mpr ⟨cl_static (y := y_jMath_max1) c_jMath_max1_v27 wm_836 wm_10 wm_1362 wm_835 ⟨by decide, by decide, by decide +kernel⟩ (by decide), List.forall_mem_cons.mpr ⟨cl_static (y := y_jMath_max1) c_jMath_max1_v28 wm_836 wm_10 wm_1362 wm_835 ⟨by decide, by decide, by decide +kernel⟩ (by decide), List.forall_mem_cons.mpr ⟨cl_static (y := y_jMath_max1) c_jMath_max1_v29 wm_836 wm_10 wm_1362 wm_835 ⟨by decide, by decide, by decide +kernel⟩ (by decide), List.forall_mem_cons.mpr ⟨cl_static (y := y_jMath_max1) c_jMath_max1_v30 wm_836 wm_10 wm_1362 wm_835 ⟨by decide, by decide, by decide +kernel⟩ (by decide), List.forall_mem_cons.mpr ⟨cl_static (y := y_jMath_max1) c_jMath_max1_v31 wm_836 wm_10 wm_1362 wm_835 ⟨by decide, by decide, by decide +kernel⟩ (by decide), List.forall_mem_cons.mpr ⟨cl_static (y := y_jMath_max1) c_jMath_max1_v32 wm_836 wm_10 wm_1362 wm_835 ⟨by decide, by decide, by decide +kernel⟩ (by decide), List.forall_mem_cons.mpr ⟨cl_static (y := y_jMath_max1) c_jMath_max1_v33 wm_836 wm_10 wm_1362 wm_835 ⟨by decide, by decide, by decide +kernel⟩ (by decide), List.forall_mem_nil _⟩⟩⟩⟩⟩⟩⟩⟩⟩⟩⟩⟩⟩⟩⟩⟩⟩⟩⟩⟩⟩⟩, List.forall_mem_nil _, List.forall_mem_nil _, GG_pl⟩ (by decide +kernel)
def o_La_nextOrder_0 : or_T := (4, 4, [], [], [], [], [(24, [0, 0], []), (24, [1, 1], [])], [], [])
theorem oo_La_nextOrder_0 {kA : Nat → ClassId} : or_ok PRD kA GG o_La_nextOrder_0 := by
  refine or_mk fun A ta ws vs hD hth hl => ?_
  have nf0 : fc_1 PRD (24, [0, 0], []) ws (vs) := by
    refine ⟨nf_in hl rfl, sgq_1 ?_⟩
    · show n_v vs 0 = n_v vs 0
      first | rfl | simp only [true_and]
  have nf1 : fc_1 PRD (24, [1, 1], []) ws (vs) := by
    refine ⟨nf_in hl rfl, sgq_1 ?_⟩
    · show n_v vs 1 = n_v vs 1
      first | rfl | simp only [true_and]
  refine ⟨(fun _ h => (by cases h)), [], trivial, ?_, (fun _ h => (by cases h))⟩
  rw [List.append_nil]
  exact List.forall_mem_cons.mpr ⟨⟨show (24 : Nat) < 100 from by decide, nf0⟩, List.forall_mem_cons.mpr ⟨⟨show (24 : Nat) < 100 from by decide, nf1⟩, (fun _ h => (by cases h))⟩⟩
set_option maxHeartbeats 4000000 in
theorem vc_La_nextOrder_1_0 (x1 : Int) (x3 : Int) (a0_0 : Int → Int) (k1 : 1 ≤ x1 ∧ x1 ≤ 6) (k3 : 1 ≤ x3 ∧ x3 ≤ 6) (d0 : x3 + (-4294967296) ≤ x1 ∧ x1 ≤ x3 + 0) (d1 : x1 + (-4294967296) ≤ x3 ∧ x3 ≤ x1 + 0) (f0 : DGS (a0_0) (x1)) (hK_0_999 : ∀ j : Int, 0 ≤ j → j < 6 → 0 ≤ a0_0 j ∧ a0_0 j ≤ 7) : DGS (a0_0) (x1) := by
  first
    | assumption
    | exact dgs_eq ‹DGS _ _› (by omega)
  
def o_La_nextOrder_1 : or_T := (29, 5, [(0, (2, 0, 0, [298])), (1, (0, 1, 6, [])), (3, (0, 1, 6, []))], [(20, [2, 3], [61, 1, 735]), (24, [0, 2], []), (24, [1, 3], [])], [], [], [(20, [0, 1], [61, 1, 735])], [], [(1, 3, -4294967296, 0), (3, 1, -4294967296, 0)])
theorem oo_La_nextOrder_1 {kA : Nat → ClassId} : or_ok PRD kA GG o_La_nextOrder_1 := by
  refine or_mk fun A ta ws vs hD hth hl => ?_
  intro t0 r0 t1 k1 t3 k3 d0 d1 f0 f1 f2
  replace f0 := shm_401 f0
  replace f1 := shm_5 f1
  replace f2 := shm_5 f2
  have q2 : n_v vs 2 = n_v vs 0 := f1.symm
  have q3 : n_v vs 3 = n_v vs 1 := f2.symm
  simp only [q2, q3] at f0
  have cr_0_999 : ta (v_ad (n_v vs 0)) = some 298 := r0
  have hK_0_999 := elq_40 hD hth cr_0_999
  have nf0 : fc_1 PRD (20, [0, 1], [61, 1, 735]) ws (vs) := ⟨nf_in hl rfl, sgq_401 (vc_La_nextOrder_1_0 (v_iv (n_v vs 1)) (v_iv (n_v vs 3)) (w_ei ws (v_ad (n_v vs 0))) k1 k3 d0 d1 f0 hK_0_999)⟩
  refine ⟨(fun _ h => (by cases h)), [], trivial, ?_, (fun _ h => (by cases h))⟩
  rw [List.append_nil]
  exact List.forall_mem_cons.mpr ⟨⟨show (20 : Nat) < 100 from by decide, nf0⟩, (fun _ h => (by cases h))⟩
set_option maxHeartbeats 4000000 in
theorem vc_La_nextOrder_2_0 (x1 : Int) (x3 : Int) (x4 : Int) (x5 : Int) (x6 : Int) (x7 : Int) (x8 : Int) (x9 : Int) (x10 : Int) (a0_0 : Int → Int) (k1 : 2 ≤ x1 ∧ x1 ≤ 6) (k3 : 2 ≤ x3 ∧ x3 ≤ 6) (k4 : 0 ≤ x4 ∧ x4 ≤ 4) (k5 : 0 ≤ x5 ∧ x5 ≤ 7) (k6 : 1 ≤ x6 ∧ x6 ≤ 1) (k7 : 1 ≤ x7 ∧ x7 ≤ 5) (k8 : 0 ≤ x8 ∧ x8 ≤ 7) (k9 : 1 ≤ x9 ∧ x9 ≤ 1) (k10 : 1 ≤ x10 ∧ x10 ≤ 5) (d0 : x3 + (-1) ≤ x10 ∧ x10 ≤ x3 + (-1)) (d1 : x1 + (-4294967296) ≤ x10 ∧ x10 ≤ x1 + (-1)) (d2 : x8 + (-4294967296) ≤ x5 ∧ x5 ≤ x8 + 0) (d3 : x4 + 1 ≤ x7 ∧ x7 ≤ x4 + 1) (d4 : x1 + (-4294967296) ≤ x7 ∧ x7 ≤ x1 + (-1)) (d5 : x3 + (-4294967296) ≤ x7 ∧ x7 ≤ x3 + (-1)) (d6 : x3 + (-4294967296) ≤ x1 ∧ x1 ≤ x3 + 0) (d7 : x1 + (-4294967296) ≤ x3 ∧ x3 ≤ x1 + 0) (d8 : x1 + (-4294967296) ≤ x4 ∧ x4 ≤ x1 + (-2)) (d9 : x3 + (-4294967296) ≤ x4 ∧ x4 ≤ x3 + (-2)) (f0 : x10 = x1 - x9) (f1 : 0 ≤ x4) (f2 : x5 ≤ x8) (h3 : x8 = a0_0 (x7)) (f4 : x7 = x4 + x6) (h5 : x5 = a0_0 (x4)) (f6 : 0 ≤ x4) (f7 : DGS (a0_0) (x1)) (hK_0_999 : ∀ j : Int, 0 ≤ j → j < 6 → 0 ≤ a0_0 j ∧ a0_0 j ≤ 7) : (x4 ≤ x10) ∧ ((x10 + 1) ≤ x1) := by
  first
    | omega
  
def o_La_nextOrder_2 : or_T := (34, 11, [(0, (2, 0, 0, [298])), (1, (0, 2, 6, [])), (3, (0, 2, 6, [])), (4, (0, 0, 4, [])), (5, (0, 0, 7, [])), (6, (0, 1, 1, [])), (7, (0, 1, 5, [])), (8, (0, 0, 7, [])), (9, (0, 1, 1, [])), (10, (0, 1, 5, []))], [(2, [10, 3, 9], []), (8, [4], [3]), (7, [5, 8], [5]), (10, [8, 2, 7], []), (1, [7, 4, 6], []), (10, [5, 2, 4], []), (8, [4], [3]), (20, [2, 3], [61, 1, 735]), (24, [0, 2], []), (24, [1, 3], [])], [], [], [(20, [4, 10, 3], [50, 0, 0, 2, 6, 0, 2, 1, 0, 1, 1, 0, 6, 4, 2, 1, 1, 0, 1, 1, 2])], [], [(10, 3, -1, -1), (10, 1, -4294967296, -1), (5, 8, -4294967296, 0), (7, 4, 1, 1), (7, 1, -4294967296, -1), (7, 3, -4294967296, -1), (1, 3, -4294967296, 0), (3, 1, -4294967296, 0), (4, 1, -4294967296, -2), (4, 3, -4294967296, -2)])
theorem oo_La_nextOrder_2 {kA : Nat → ClassId} : or_ok PRD kA GG o_La_nextOrder_2 := by
  refine or_mk fun A ta ws vs hD hth hl => ?_
  intro t0 r0 t1 k1 t3 k3 t4 k4 t5 k5 t6 k6 t7 k7 t8 k8 t9 k9 t10 k10 d0 d1 d2 d3 d4 d5 d6 d7 d8 d9 f0 f1 f2 f3 f4 f5 f6 f7 f8 f9
  replace f0 := shm_14 f0
  replace f1 := shm_32 f1
  replace f2 := shm_24 f2
  replace f3 := shm_107 f3
  replace f4 := shm_12 f4
  replace f5 := shm_107 f5
  replace f6 := shm_32 f6
  replace f7 := shm_401 f7
  replace f8 := shm_5 f8
  replace f9 := shm_5 f9
  have q2 : n_v vs 2 = n_v vs 0 := f8.symm
  have q3 : n_v vs 3 = n_v vs 1 := f9.symm
  simp only [q3, q2] at f0 f3 f5 f7
  have cr_0_999 : ta (v_ad (n_v vs 0)) = some 298 := r0
  have h3 : v_iv (n_v vs 8) = w_ei ws (v_ad (n_v vs 0)) (v_iv (n_v vs 7)) := f3
  have h5 : v_iv (n_v vs 5) = w_ei ws (v_ad (n_v vs 0)) (v_iv (n_v vs 4)) := f5
  have hK_0_999 := elq_40 hD hth cr_0_999
  have nf0 : fc_1 PRD (20, [4, 10, 3], [50, 0, 0, 2, 6, 0, 2, 1, 0, 1, 1, 0, 6, 4, 2, 1, 1, 0, 1, 1, 2]) ws (vs) := by
    refine ⟨nf_in hl rfl, sgq_880 ?_⟩
    · show (v_iv (n_v vs 4) ≤ v_iv (n_v vs 10)) ∧ ((v_iv (n_v vs 10) + 1) ≤ v_iv (n_v vs 3))
      rw [q3]
      exact vc_La_nextOrder_2_0 (v_iv (n_v vs 1)) (v_iv (n_v vs 3)) (v_iv (n_v vs 4)) (v_iv (n_v vs 5)) (v_iv (n_v vs 6)) (v_iv (n_v vs 7)) (v_iv (n_v vs 8)) (v_iv (n_v vs 9)) (v_iv (n_v vs 10)) (w_ei ws (v_ad (n_v vs 0))) k1 k3 k4 k5 k6 k7 k8 k9 k10 d0 d1 d2 d3 d4 d5 d6 d7 d8 d9 f0 f1 f2 h3 f4 h5 f6 f7 hK_0_999
  refine ⟨(fun _ h => (by cases h)), [], trivial, ?_, (fun _ h => (by cases h))⟩
  rw [List.append_nil]
  exact List.forall_mem_cons.mpr ⟨⟨show (20 : Nat) < 100 from by decide, nf0⟩, (fun _ h => (by cases h))⟩
set_option maxHeartbeats 4000000 in
theorem vc_La_nextOrder_3_0 (x1 : Int) (x3 : Int) (x4 : Int) (x5 : Int) (a0_0 : Int → Int) (gx : Int) (k1 : 2 ≤ x1 ∧ x1 ≤ 6) (k3 : 2 ≤ x3 ∧ x3 ≤ 6) (k4 : 0 ≤ x4 ∧ x4 ≤ 4) (k5 : 0 ≤ x5 ∧ x5 ≤ 4) (d0 : x4 + (-4294967296) ≤ x5 ∧ x5 ≤ x4 + 0) (d1 : x3 + (-4294967296) ≤ x1 ∧ x1 ≤ x3 + 0) (d2 : x1 + (-4294967296) ≤ x3 ∧ x3 ≤ x1 + 0) (d3 : x1 + (-4294967296) ≤ x4 ∧ x4 ≤ x1 + (-2)) (d4 : x3 + (-4294967296) ≤ x4 ∧ x4 ≤ x3 + (-2)) (d5 : x5 + (-4294967296) ≤ x4 ∧ x4 ≤ x5 + 0) (d6 : x1 + (-4294967296) ≤ x5 ∧ x5 ≤ x1 + (-1)) (d7 : x3 + (-4294967296) ≤ x5 ∧ x5 ≤ x3 + (-1)) (f0 : x5 ≤ x4) (f1 : DGS (a0_0) (x1)) (f2 : (x4 ≤ x5) ∧ ((x5 + 1) ≤ x1)) (hK_0_999 : ∀ j : Int, 0 ≤ j → j < 6 → 0 ≤ a0_0 j ∧ a0_0 j ≤ 7) (ex2 : gx = x1) (ex3 : 1 ≤ gx ∧ gx ≤ 6) : 1 * gx + ((-1) * x1 + 0) ≤ 0 := by
  first
    | omega
  
set_option maxHeartbeats 4000000 in
theorem vc_La_nextOrder_3_1 (x1 : Int) (x3 : Int) (x4 : Int) (x5 : Int) (a0_0 : Int → Int) (gx : Int) (k1 : 2 ≤ x1 ∧ x1 ≤ 6) (k3 : 2 ≤ x3 ∧ x3 ≤ 6) (k4 : 0 ≤ x4 ∧ x4 ≤ 4) (k5 : 0 ≤ x5 ∧ x5 ≤ 4) (d0 : x4 + (-4294967296) ≤ x5 ∧ x5 ≤ x4 + 0) (d1 : x3 + (-4294967296) ≤ x1 ∧ x1 ≤ x3 + 0) (d2 : x1 + (-4294967296) ≤ x3 ∧ x3 ≤ x1 + 0) (d3 : x1 + (-4294967296) ≤ x4 ∧ x4 ≤ x1 + (-2)) (d4 : x3 + (-4294967296) ≤ x4 ∧ x4 ≤ x3 + (-2)) (d5 : x5 + (-4294967296) ≤ x4 ∧ x4 ≤ x5 + 0) (d6 : x1 + (-4294967296) ≤ x5 ∧ x5 ≤ x1 + (-1)) (d7 : x3 + (-4294967296) ≤ x5 ∧ x5 ≤ x3 + (-1)) (f0 : x5 ≤ x4) (f1 : DGS (a0_0) (x1)) (f2 : (x4 ≤ x5) ∧ ((x5 + 1) ≤ x1)) (hK_0_999 : ∀ j : Int, 0 ≤ j → j < 6 → 0 ≤ a0_0 j ∧ a0_0 j ≤ 7) (ex2 : gx = x1) (ex3 : 1 ≤ gx ∧ gx ≤ 6) : (-1) * gx + (1 * x1 + 0) ≤ 0 := by
  first
    | omega
  
set_option maxHeartbeats 4000000 in
theorem vc_La_nextOrder_3_2 (x1 : Int) (x3 : Int) (x4 : Int) (x5 : Int) (a0_0 : Int → Int) (gx : Int) (k1 : 2 ≤ x1 ∧ x1 ≤ 6) (k3 : 2 ≤ x3 ∧ x3 ≤ 6) (k4 : 0 ≤ x4 ∧ x4 ≤ 4) (k5 : 0 ≤ x5 ∧ x5 ≤ 4) (d0 : x4 + (-4294967296) ≤ x5 ∧ x5 ≤ x4 + 0) (d1 : x3 + (-4294967296) ≤ x1 ∧ x1 ≤ x3 + 0) (d2 : x1 + (-4294967296) ≤ x3 ∧ x3 ≤ x1 + 0) (d3 : x1 + (-4294967296) ≤ x4 ∧ x4 ≤ x1 + (-2)) (d4 : x3 + (-4294967296) ≤ x4 ∧ x4 ≤ x3 + (-2)) (d5 : x5 + (-4294967296) ≤ x4 ∧ x4 ≤ x5 + 0) (d6 : x1 + (-4294967296) ≤ x5 ∧ x5 ≤ x1 + (-1)) (d7 : x3 + (-4294967296) ≤ x5 ∧ x5 ≤ x3 + (-1)) (f0 : x5 ≤ x4) (f1 : DGS (a0_0) (x1)) (f2 : (x4 ≤ x5) ∧ ((x5 + 1) ≤ x1)) (hK_0_999 : ∀ j : Int, 0 ≤ j → j < 6 → 0 ≤ a0_0 j ∧ a0_0 j ≤ 7) (ex2 : gx = x1) (ex3 : 1 ≤ gx ∧ gx ≤ 6) : DGS (a0_0) (gx) := by
  first
    | assumption
    | exact dgs_eq ‹DGS _ _› (by omega)
  
set_option maxHeartbeats 4000000 in
theorem vc_La_nextOrder_3_3 (x1 : Int) (x3 : Int) (x4 : Int) (x5 : Int) (a0_0 : Int → Int) (gx : Int) (k1 : 2 ≤ x1 ∧ x1 ≤ 6) (k3 : 2 ≤ x3 ∧ x3 ≤ 6) (k4 : 0 ≤ x4 ∧ x4 ≤ 4) (k5 : 0 ≤ x5 ∧ x5 ≤ 4) (d0 : x4 + (-4294967296) ≤ x5 ∧ x5 ≤ x4 + 0) (d1 : x3 + (-4294967296) ≤ x1 ∧ x1 ≤ x3 + 0) (d2 : x1 + (-4294967296) ≤ x3 ∧ x3 ≤ x1 + 0) (d3 : x1 + (-4294967296) ≤ x4 ∧ x4 ≤ x1 + (-2)) (d4 : x3 + (-4294967296) ≤ x4 ∧ x4 ≤ x3 + (-2)) (d5 : x5 + (-4294967296) ≤ x4 ∧ x4 ≤ x5 + 0) (d6 : x1 + (-4294967296) ≤ x5 ∧ x5 ≤ x1 + (-1)) (d7 : x3 + (-4294967296) ≤ x5 ∧ x5 ≤ x3 + (-1)) (f0 : x5 ≤ x4) (f1 : DGS (a0_0) (x1)) (f2 : (x4 ≤ x5) ∧ ((x5 + 1) ≤ x1)) (hK_0_999 : ∀ j : Int, 0 ≤ j → j < 6 → 0 ≤ a0_0 j ∧ a0_0 j ≤ 7) (ex2 : gx = x1) (ex3 : 1 ≤ gx ∧ gx ≤ 6) : (0 ≤ x4) ∧ ((x4 + 1) ≤ gx) := by
  first
    | omega
  
set_option maxHeartbeats 4000000 in
theorem vc_La_nextOrder_3_4 (x1 : Int) (x3 : Int) (x4 : Int) (x5 : Int) (a0_0 : Int → Int) (gx : Int) (k1 : 2 ≤ x1 ∧ x1 ≤ 6) (k3 : 2 ≤ x3 ∧ x3 ≤ 6) (k4 : 0 ≤ x4 ∧ x4 ≤ 4) (k5 : 0 ≤ x5 ∧ x5 ≤ 4) (d0 : x4 + (-4294967296) ≤ x5 ∧ x5 ≤ x4 + 0) (d1 : x3 + (-4294967296) ≤ x1 ∧ x1 ≤ x3 + 0) (d2 : x1 + (-4294967296) ≤ x3 ∧ x3 ≤ x1 + 0) (d3 : x1 + (-4294967296) ≤ x4 ∧ x4 ≤ x1 + (-2)) (d4 : x3 + (-4294967296) ≤ x4 ∧ x4 ≤ x3 + (-2)) (d5 : x5 + (-4294967296) ≤ x4 ∧ x4 ≤ x5 + 0) (d6 : x1 + (-4294967296) ≤ x5 ∧ x5 ≤ x1 + (-1)) (d7 : x3 + (-4294967296) ≤ x5 ∧ x5 ≤ x3 + (-1)) (f0 : x5 ≤ x4) (f1 : DGS (a0_0) (x1)) (f2 : (x4 ≤ x5) ∧ ((x5 + 1) ≤ x1)) (hK_0_999 : ∀ j : Int, 0 ≤ j → j < 6 → 0 ≤ a0_0 j ∧ a0_0 j ≤ 7) (ex2 : gx = x1) (ex3 : 1 ≤ gx ∧ gx ≤ 6) : (0 ≤ x5) ∧ ((x5 + 1) ≤ gx) := by
  first
    | omega
  
def o_La_nextOrder_3 : or_T := (57, 6, [(0, (2, 0, 0, [298])), (1, (0, 2, 6, [])), (3, (0, 2, 6, [])), (4, (0, 0, 4, [])), (5, (0, 0, 4, []))], [(7, [5, 4], [5]), (20, [2, 3], [61, 1, 735]), (20, [4, 5, 3], [50, 0, 0, 2, 6, 0, 2, 1, 0, 1, 1, 0, 6, 4, 2, 1, 1, 0, 1, 1, 2]), (24, [0, 2], []), (24, [1, 3], [])], [], [(0, 1, 6, [])], [(23, [6, 3], [0, 1, -1]), (23, [6, 3], [0, -1, 1]), (20, [2, 6], [61, 1, 735]), (20, [4, 6], [50, 0, 0, 2, 6, 0, 2, 0, 0, 1, 0, 0, 6, 4, 2, 1, 0, 0, 1, 1, 1]), (20, [5, 6], [50, 0, 0, 2, 6, 0, 2, 0, 0, 1, 0, 0, 6, 4, 2, 1, 0, 0, 1, 1, 1])], [], [(5, 4, -4294967296, 0), (1, 3, -4294967296, 0), (3, 1, -4294967296, 0), (4, 1, -4294967296, -2), (4, 3, -4294967296, -2), (4, 5, -4294967296, 0), (5, 1, -4294967296, -1), (5, 3, -4294967296, -1)])
theorem oo_La_nextOrder_3 {kA : Nat → ClassId} : or_ok PRD kA GG o_La_nextOrder_3 := by
  refine or_mk fun A ta ws vs hD hth hl => ?_
  intro t0 r0 t1 k1 t3 k3 t4 k4 t5 k5 d0 d1 d2 d3 d4 d5 d6 d7 f0 f1 f2 f3 f4
  replace f0 := shm_24 f0
  replace f1 := shm_401 f1
  replace f2 := shm_880 f2
  replace f3 := shm_5 f3
  replace f4 := shm_5 f4
  have q2 : n_v vs 2 = n_v vs 0 := f3.symm
  have q3 : n_v vs 3 = n_v vs 1 := f4.symm
  simp only [q2, q3] at f1 f2
  have cr_0_999 : ta (v_ad (n_v vs 0)) = some 298 := r0
  have hK_0_999 := elq_40 hD hth cr_0_999
  obtain ⟨x, ex, hx⟩ := iv_ex (ta := ta) (lo := 1) (hi := 6) (z := v_iv (n_v vs 1)) (by omega) (by omega) (by omega) (by omega)
  have ex2 : v_iv (Value.int x) = v_iv (n_v vs 1) := ex
  have ex3 : 1 ≤ v_iv (Value.int x) ∧ v_iv (Value.int x) ≤ 6 := tv_rng hx
  have e_2 : n_v (vs ++ [Value.int x]) 2 = n_v vs 2 := n_v_old (by rw [hl]; decide)
  have e_3 : n_v (vs ++ [Value.int x]) 3 = n_v vs 3 := n_v_old (by rw [hl]; decide)
  have e_4 : n_v (vs ++ [Value.int x]) 4 = n_v vs 4 := n_v_old (by rw [hl]; decide)
  have e_5 : n_v (vs ++ [Value.int x]) 5 = n_v vs 5 := n_v_old (by rw [hl]; decide)
  have e_6 : n_v (vs ++ [Value.int x]) 6 = Value.int x := n_v_new hl
  have nf0 : fc_1 PRD (23, [6, 3], [0, 1, -1]) ws (vs ++ [Value.int x]) := by
    refine ⟨nf_inA hl rfl, sgq_7 ?_⟩
    · show 1 * v_iv (n_v (vs ++ [Value.int x]) 6) + ((-1) * v_iv (n_v (vs ++ [Value.int x]) 3) + 0) ≤ 0
      simp only [e_3, e_6, q3]
      exact vc_La_nextOrder_3_0 (v_iv (n_v vs 1)) (v_iv (n_v vs 3)) (v_iv (n_v vs 4)) (v_iv (n_v vs 5)) (w_ei ws (v_ad (n_v vs 0))) (v_iv (Value.int x)) k1 k3 k4 k5 d0 d1 d2 d3 d4 d5 d6 d7 f0 f1 f2 hK_0_999 ex2 ex3
  have nf1 : fc_1 PRD (23, [6, 3], [0, -1, 1]) ws (vs ++ [Value.int x]) := by
    refine ⟨nf_inA hl rfl, sgq_22 ?_⟩
    · show (-1) * v_iv (n_v (vs ++ [Value.int x]) 6) + (1 * v_iv (n_v (vs ++ [Value.int x]) 3) + 0) ≤ 0
      simp only [e_3, e_6, q3]
      exact vc_La_nextOrder_3_1 (v_iv (n_v vs 1)) (v_iv (n_v vs 3)) (v_iv (n_v vs 4)) (v_iv (n_v vs 5)) (w_ei ws (v_ad (n_v vs 0))) (v_iv (Value.int x)) k1 k3 k4 k5 d0 d1 d2 d3 d4 d5 d6 d7 f0 f1 f2 hK_0_999 ex2 ex3
  have nf2 : fc_1 PRD (20, [2, 6], [61, 1, 735]) ws (vs ++ [Value.int x]) := by
    refine ⟨nf_inA hl rfl, sgq_401 ?_⟩
    · show DGS (w_ei ws (v_ad (n_v (vs ++ [Value.int x]) 2))) (v_iv (n_v (vs ++ [Value.int x]) 6))
      simp only [e_2, e_6, q2]
      exact vc_La_nextOrder_3_2 (v_iv (n_v vs 1)) (v_iv (n_v vs 3)) (v_iv (n_v vs 4)) (v_iv (n_v vs 5)) (w_ei ws (v_ad (n_v vs 0))) (v_iv (Value.int x)) k1 k3 k4 k5 d0 d1 d2 d3 d4 d5 d6 d7 f0 f1 f2 hK_0_999 ex2 ex3
  have nf3 : fc_1 PRD (20, [4, 6], [50, 0, 0, 2, 6, 0, 2, 0, 0, 1, 0, 0, 6, 4, 2, 1, 0, 0, 1, 1, 1]) ws (vs ++ [Value.int x]) := by
    refine ⟨nf_inA hl rfl, sgq_400 ?_⟩
    · show (0 ≤ v_iv (n_v (vs ++ [Value.int x]) 4)) ∧ ((v_iv (n_v (vs ++ [Value.int x]) 4) + 1) ≤ v_iv (n_v (vs ++ [Value.int x]) 6))
      simp only [e_4, e_6]
      exact vc_La_nextOrder_3_3 (v_iv (n_v vs 1)) (v_iv (n_v vs 3)) (v_iv (n_v vs 4)) (v_iv (n_v vs 5)) (w_ei ws (v_ad (n_v vs 0))) (v_iv (Value.int x)) k1 k3 k4 k5 d0 d1 d2 d3 d4 d5 d6 d7 f0 f1 f2 hK_0_999 ex2 ex3
  have nf4 : fc_1 PRD (20, [5, 6], [50, 0, 0, 2, 6, 0, 2, 0, 0, 1, 0, 0, 6, 4, 2, 1, 0, 0, 1, 1, 1]) ws (vs ++ [Value.int x]) := by
    refine ⟨nf_inA hl rfl, sgq_400 ?_⟩
    · show (0 ≤ v_iv (n_v (vs ++ [Value.int x]) 5)) ∧ ((v_iv (n_v (vs ++ [Value.int x]) 5) + 1) ≤ v_iv (n_v (vs ++ [Value.int x]) 6))
      simp only [e_5, e_6]
      exact vc_La_nextOrder_3_4 (v_iv (n_v vs 1)) (v_iv (n_v vs 3)) (v_iv (n_v vs 4)) (v_iv (n_v vs 5)) (w_ei ws (v_ad (n_v vs 0))) (v_iv (Value.int x)) k1 k3 k4 k5 d0 d1 d2 d3 d4 d5 d6 d7 f0 f1 f2 hK_0_999 ex2 ex3
  exact ⟨(fun _ h => (by cases h)), [Value.int x], ag_one hx, List.forall_mem_cons.mpr ⟨⟨show (23 : Nat) < 100 from by decide, nf0⟩, List.forall_mem_cons.mpr ⟨⟨show (23 : Nat) < 100 from by decide, nf1⟩, List.forall_mem_cons.mpr ⟨⟨show (20 : Nat) < 100 from by decide, nf2⟩, List.forall_mem_cons.mpr ⟨⟨show (20 : Nat) < 100 from by decide, nf3⟩, List.forall_mem_cons.mpr ⟨⟨show (20 : Nat) < 100 from by decide, nf4⟩, (fun _ h => (by cases h))⟩⟩⟩⟩⟩, (fun _ h => (by cases h))⟩
set_option maxHeartbeats 4000000 in
theorem vc_La_nextOrder_4_0 (x1 : Int) (x3 : Int) (x4 : Int) (x5 : Int) (x6 : Int) (a0_0 : Int → Int) (k1 : 2 ≤ x1 ∧ x1 ≤ 6) (k3 : 2 ≤ x3 ∧ x3 ≤ 6) (k4 : 0 ≤ x4 ∧ x4 ≤ 4) (k5 : 0 ≤ x5 ∧ x5 ≤ 4) (k6 : 1 ≤ x6 ∧ x6 ≤ 6) (d0 : x4 + (-4294967296) ≤ x5 ∧ x5 ≤ x4 + 0) (d1 : x3 + (-4294967296) ≤ x1 ∧ x1 ≤ x3 + 0) (d2 : x1 + (-4294967296) ≤ x3 ∧ x3 ≤ x1 + 0) (d3 : x1 + (-4294967296) ≤ x4 ∧ x4 ≤ x1 + (-2)) (d4 : x3 + (-4294967296) ≤ x4 ∧ x4 ≤ x3 + (-2)) (d5 : x5 + (-4294967296) ≤ x4 ∧ x4 ≤ x5 + 0) (d6 : x1 + (-4294967296) ≤ x5 ∧ x5 ≤ x1 + (-1)) (d7 : x3 + (-4294967296) ≤ x5 ∧ x5 ≤ x3 + (-1)) (f0 : 1 * x6 + ((-1) * x1 + 0) ≤ 0) (f1 : (-1) * x6 + (1 * x1 + 0) ≤ 0) (f2 : (0 ≤ x4) ∧ ((x4 + 1) ≤ x6)) (f3 : (0 ≤ x5) ∧ ((x5 + 1) ≤ x6)) (f4 : (x4 ≤ x5) ∧ ((x5 + 1) ≤ x1)) (f7 : DGS (a0_0) (x6)) (f9 : 1 * x6 + ((-1) * x1 + 0) ≤ 0) (f10 : (-1) * x6 + (1 * x1 + 0) ≤ 0) (f11 : x5 ≤ x4) (hK_0_999 : ∀ j : Int, 0 ≤ j → j < 6 → 0 ≤ a0_0 j ∧ a0_0 j ≤ 7) : DGS (a0_0) (x1) := by
  first
    | assumption
    | exact dgs_eq ‹DGS _ _› (by omega)
  
def o_La_nextOrder_4 : or_T := (63, 8, [(0, (2, 0, 0, [298])), (1, (0, 2, 6, [])), (3, (0, 2, 6, [])), (4, (0, 0, 4, [])), (5, (0, 0, 4, [])), (6, (0, 1, 6, []))], [(23, [6, 3], [0, 1, -1]), (23, [6, 3], [0, -1, 1]), (20, [4, 6], [50, 0, 0, 2, 6, 0, 2, 0, 0, 1, 0, 0, 6, 4, 2, 1, 0, 0, 1, 1, 1]), (20, [5, 6], [50, 0, 0, 2, 6, 0, 2, 0, 0, 1, 0, 0, 6, 4, 2, 1, 0, 0, 1, 1, 1]), (20, [4, 5, 3], [50, 0, 0, 2, 6, 0, 2, 1, 0, 1, 1, 0, 6, 4, 2, 1, 1, 0, 1, 1, 2]), (24, [0, 2], []), (24, [1, 3], []), (20, [2, 6], [61, 1, 735]), (102, [6], [509258994083621521567111422102344540262867098416484062659035112338595324940834176545849344]), (23, [6, 3], [0, 1, -1]), (23, [6, 3], [0, -1, 1]), (7, [5, 4], [5])], [], [], [(20, [2, 3], [61, 1, 735])], [], [(5, 4, -4294967296, 0), (1, 3, -4294967296, 0), (3, 1, -4294967296, 0), (4, 1, -4294967296, -2), (4, 3, -4294967296, -2), (4, 5, -4294967296, 0), (5, 1, -4294967296, -1), (5, 3, -4294967296, -1)])
theorem oo_La_nextOrder_4 {kA : Nat → ClassId} : or_ok PRD kA GG o_La_nextOrder_4 := by
  refine or_mk fun A ta ws vs hD hth hl => ?_
  intro t0 r0 t1 k1 t3 k3 t4 k4 t5 k5 t6 k6 d0 d1 d2 d3 d4 d5 d6 d7 f0 f1 f2 f3 f4 f5 f6 f7 ta1 w1 le1 s1 f9 f10 f11
  replace f0 := shm_7 f0
  replace f1 := shm_22 f1
  replace f2 := shm_400 f2
  replace f3 := shm_400 f3
  replace f4 := shm_880 f4
  replace f5 := shm_5 f5
  replace f6 := shm_5 f6
  replace f7 := shm_401 f7
  replace f9 := shm_7 f9
  replace f10 := shm_22 f10
  replace f11 := shm_24 f11
  have q2 : n_v vs 2 = n_v vs 0 := f5.symm
  have q3 : n_v vs 3 = n_v vs 1 := f6.symm
  simp only [q3, q2] at f0 f1 f4 f7 f9 f10
  have cr_0_999 : ta (v_ad (n_v vs 0)) = some 298 := r0
  have hK_0_999 := elq_40 hD hth cr_0_999
  have nf0 : fc_1 PRD (20, [2, 3], [61, 1, 735]) ws (vs) := by
    refine ⟨nf_in hl rfl, sgq_401 ?_⟩
    · show DGS (w_ei ws (v_ad (n_v vs 2))) (v_iv (n_v vs 3))
      simp only [q2, q3]
      exact vc_La_nextOrder_4_0 (v_iv (n_v vs 1)) (v_iv (n_v vs 3)) (v_iv (n_v vs 4)) (v_iv (n_v vs 5)) (v_iv (n_v vs 6)) (w_ei ws (v_ad (n_v vs 0))) k1 k3 k4 k5 k6 d0 d1 d2 d3 d4 d5 d6 d7 f0 f1 f2 f3 f4 f7 f9 f10 f11 hK_0_999
  refine ⟨(fun _ h => (by cases h)), [], trivial, ?_, (fun _ h => (by cases h))⟩
  rw [List.append_nil]
  exact List.forall_mem_cons.mpr ⟨⟨show (20 : Nat) < 100 from by decide, nf0⟩, (fun _ h => (by cases h))⟩
set_option maxHeartbeats 4000000 in
theorem vc_La_nextOrder_5_0 (x1 : Int) (x3 : Int) (x4 : Int) (x5 : Int) (x6 : Int) (x7 : Int) (a0_0 : Int → Int) (gx : Int) (k1 : 2 ≤ x1 ∧ x1 ≤ 6) (k3 : 2 ≤ x3 ∧ x3 ≤ 6) (k4 : 0 ≤ x4 ∧ x4 ≤ 4) (k5 : 1 ≤ x5 ∧ x5 ≤ 5) (k6 : 0 ≤ x6 ∧ x6 ≤ 7) (k7 : 0 ≤ x7 ∧ x7 ≤ 7) (d0 : x7 + 0 ≤ x6 ∧ x6 ≤ x7 + 4294967296) (d1 : x4 + 1 ≤ x5 ∧ x5 ≤ x4 + 4294967296) (d2 : x3 + (-4294967296) ≤ x1 ∧ x1 ≤ x3 + 0) (d3 : x1 + (-4294967296) ≤ x3 ∧ x3 ≤ x1 + 0) (d4 : x1 + (-4294967296) ≤ x4 ∧ x4 ≤ x1 + (-2)) (d5 : x3 + (-4294967296) ≤ x4 ∧ x4 ≤ x3 + (-2)) (d6 : x5 + (-4294967296) ≤ x4 ∧ x4 ≤ x5 + 0) (d7 : x1 + (-4294967296) ≤ x5 ∧ x5 ≤ x1 + (-1)) (d8 : x3 + (-4294967296) ≤ x5 ∧ x5 ≤ x3 + (-1)) (f0 : x7 ≤ x6) (h1 : x7 = a0_0 (x4)) (h2 : x6 = a0_0 (x5)) (f3 : x4 < x5) (f4 : DGS (a0_0) (x1)) (f5 : (x4 ≤ x5) ∧ ((x5 + 1) ≤ x1)) (hK_0_999 : ∀ j : Int, 0 ≤ j → j < 6 → 0 ≤ a0_0 j ∧ a0_0 j ≤ 7) (ex2 : gx = x1) (ex3 : 1 ≤ gx ∧ gx ≤ 6) : 1 * gx + ((-1) * x1 + 0) ≤ 0 := by
  first
    | omega
  
set_option maxHeartbeats 4000000 in
theorem vc_La_nextOrder_5_1 (x1 : Int) (x3 : Int) (x4 : Int) (x5 : Int) (x6 : Int) (x7 : Int) (a0_0 : Int → Int) (gx : Int) (k1 : 2 ≤ x1 ∧ x1 ≤ 6) (k3 : 2 ≤ x3 ∧ x3 ≤ 6) (k4 : 0 ≤ x4 ∧ x4 ≤ 4) (k5 : 1 ≤ x5 ∧ x5 ≤ 5) (k6 : 0 ≤ x6 ∧ x6 ≤ 7) (k7 : 0 ≤ x7 ∧ x7 ≤ 7) (d0 : x7 + 0 ≤ x6 ∧ x6 ≤ x7 + 4294967296) (d1 : x4 + 1 ≤ x5 ∧ x5 ≤ x4 + 4294967296) (d2 : x3 + (-4294967296) ≤ x1 ∧ x1 ≤ x3 + 0) (d3 : x1 + (-4294967296) ≤ x3 ∧ x3 ≤ x1 + 0) (d4 : x1 + (-4294967296) ≤ x4 ∧ x4 ≤ x1 + (-2)) (d5 : x3 + (-4294967296) ≤ x4 ∧ x4 ≤ x3 + (-2)) (d6 : x5 + (-4294967296) ≤ x4 ∧ x4 ≤ x5 + 0) (d7 : x1 + (-4294967296) ≤ x5 ∧ x5 ≤ x1 + (-1)) (d8 : x3 + (-4294967296) ≤ x5 ∧ x5 ≤ x3 + (-1)) (f0 : x7 ≤ x6) (h1 : x7 = a0_0 (x4)) (h2 : x6 = a0_0 (x5)) (f3 : x4 < x5) (f4 : DGS (a0_0) (x1)) (f5 : (x4 ≤ x5) ∧ ((x5 + 1) ≤ x1)) (hK_0_999 : ∀ j : Int, 0 ≤ j → j < 6 → 0 ≤ a0_0 j ∧ a0_0 j ≤ 7) (ex2 : gx = x1) (ex3 : 1 ≤ gx ∧ gx ≤ 6) : (-1) * gx + (1 * x1 + 0) ≤ 0 := by
  first
    | omega
  
set_option maxHeartbeats 4000000 in
theorem vc_La_nextOrder_5_2 (x1 : Int) (x3 : Int) (x4 : Int) (x5 : Int) (x6 : Int) (x7 : Int) (a0_0 : Int → Int) (gx : Int) (k1 : 2 ≤ x1 ∧ x1 ≤ 6) (k3 : 2 ≤ x3 ∧ x3 ≤ 6) (k4 : 0 ≤ x4 ∧ x4 ≤ 4) (k5 : 1 ≤ x5 ∧ x5 ≤ 5) (k6 : 0 ≤ x6 ∧ x6 ≤ 7) (k7 : 0 ≤ x7 ∧ x7 ≤ 7) (d0 : x7 + 0 ≤ x6 ∧ x6 ≤ x7 + 4294967296) (d1 : x4 + 1 ≤ x5 ∧ x5 ≤ x4 + 4294967296) (d2 : x3 + (-4294967296) ≤ x1 ∧ x1 ≤ x3 + 0) (d3 : x1 + (-4294967296) ≤ x3 ∧ x3 ≤ x1 + 0) (d4 : x1 + (-4294967296) ≤ x4 ∧ x4 ≤ x1 + (-2)) (d5 : x3 + (-4294967296) ≤ x4 ∧ x4 ≤ x3 + (-2)) (d6 : x5 + (-4294967296) ≤ x4 ∧ x4 ≤ x5 + 0) (d7 : x1 + (-4294967296) ≤ x5 ∧ x5 ≤ x1 + (-1)) (d8 : x3 + (-4294967296) ≤ x5 ∧ x5 ≤ x3 + (-1)) (f0 : x7 ≤ x6) (h1 : x7 = a0_0 (x4)) (h2 : x6 = a0_0 (x5)) (f3 : x4 < x5) (f4 : DGS (a0_0) (x1)) (f5 : (x4 ≤ x5) ∧ ((x5 + 1) ≤ x1)) (hK_0_999 : ∀ j : Int, 0 ≤ j → j < 6 → 0 ≤ a0_0 j ∧ a0_0 j ≤ 7) (ex2 : gx = x1) (ex3 : 1 ≤ gx ∧ gx ≤ 6) : DGS (a0_0) (gx) := by
  first
    | assumption
    | exact dgs_eq ‹DGS _ _› (by omega)
  
set_option maxHeartbeats 4000000 in
theorem vc_La_nextOrder_5_3 (x1 : Int) (x3 : Int) (x4 : Int) (x5 : Int) (x6 : Int) (x7 : Int) (a0_0 : Int → Int) (gx : Int) (k1 : 2 ≤ x1 ∧ x1 ≤ 6) (k3 : 2 ≤ x3 ∧ x3 ≤ 6) (k4 : 0 ≤ x4 ∧ x4 ≤ 4) (k5 : 1 ≤ x5 ∧ x5 ≤ 5) (k6 : 0 ≤ x6 ∧ x6 ≤ 7) (k7 : 0 ≤ x7 ∧ x7 ≤ 7) (d0 : x7 + 0 ≤ x6 ∧ x6 ≤ x7 + 4294967296) (d1 : x4 + 1 ≤ x5 ∧ x5 ≤ x4 + 4294967296) (d2 : x3 + (-4294967296) ≤ x1 ∧ x1 ≤ x3 + 0) (d3 : x1 + (-4294967296) ≤ x3 ∧ x3 ≤ x1 + 0) (d4 : x1 + (-4294967296) ≤ x4 ∧ x4 ≤ x1 + (-2)) (d5 : x3 + (-4294967296) ≤ x4 ∧ x4 ≤ x3 + (-2)) (d6 : x5 + (-4294967296) ≤ x4 ∧ x4 ≤ x5 + 0) (d7 : x1 + (-4294967296) ≤ x5 ∧ x5 ≤ x1 + (-1)) (d8 : x3 + (-4294967296) ≤ x5 ∧ x5 ≤ x3 + (-1)) (f0 : x7 ≤ x6) (h1 : x7 = a0_0 (x4)) (h2 : x6 = a0_0 (x5)) (f3 : x4 < x5) (f4 : DGS (a0_0) (x1)) (f5 : (x4 ≤ x5) ∧ ((x5 + 1) ≤ x1)) (hK_0_999 : ∀ j : Int, 0 ≤ j → j < 6 → 0 ≤ a0_0 j ∧ a0_0 j ≤ 7) (ex2 : gx = x1) (ex3 : 1 ≤ gx ∧ gx ≤ 6) : (0 ≤ x4) ∧ ((x4 + 1) ≤ gx) := by
  first
    | omega
  
set_option maxHeartbeats 4000000 in
theorem vc_La_nextOrder_5_4 (x1 : Int) (x3 : Int) (x4 : Int) (x5 : Int) (x6 : Int) (x7 : Int) (a0_0 : Int → Int) (gx : Int) (k1 : 2 ≤ x1 ∧ x1 ≤ 6) (k3 : 2 ≤ x3 ∧ x3 ≤ 6) (k4 : 0 ≤ x4 ∧ x4 ≤ 4) (k5 : 1 ≤ x5 ∧ x5 ≤ 5) (k6 : 0 ≤ x6 ∧ x6 ≤ 7) (k7 : 0 ≤ x7 ∧ x7 ≤ 7) (d0 : x7 + 0 ≤ x6 ∧ x6 ≤ x7 + 4294967296) (d1 : x4 + 1 ≤ x5 ∧ x5 ≤ x4 + 4294967296) (d2 : x3 + (-4294967296) ≤ x1 ∧ x1 ≤ x3 + 0) (d3 : x1 + (-4294967296) ≤ x3 ∧ x3 ≤ x1 + 0) (d4 : x1 + (-4294967296) ≤ x4 ∧ x4 ≤ x1 + (-2)) (d5 : x3 + (-4294967296) ≤ x4 ∧ x4 ≤ x3 + (-2)) (d6 : x5 + (-4294967296) ≤ x4 ∧ x4 ≤ x5 + 0) (d7 : x1 + (-4294967296) ≤ x5 ∧ x5 ≤ x1 + (-1)) (d8 : x3 + (-4294967296) ≤ x5 ∧ x5 ≤ x3 + (-1)) (f0 : x7 ≤ x6) (h1 : x7 = a0_0 (x4)) (h2 : x6 = a0_0 (x5)) (f3 : x4 < x5) (f4 : DGS (a0_0) (x1)) (f5 : (x4 ≤ x5) ∧ ((x5 + 1) ≤ x1)) (hK_0_999 : ∀ j : Int, 0 ≤ j → j < 6 → 0 ≤ a0_0 j ∧ a0_0 j ≤ 7) (ex2 : gx = x1) (ex3 : 1 ≤ gx ∧ gx ≤ 6) : (0 ≤ x5) ∧ ((x5 + 1) ≤ gx) := by
  first
    | omega
  
def o_La_nextOrder_5 : or_T := (57, 8, [(0, (2, 0, 0, [298])), (1, (0, 2, 6, [])), (3, (0, 2, 6, [])), (4, (0, 0, 4, [])), (5, (0, 1, 5, [])), (6, (0, 0, 7, [])), (7, (0, 0, 7, []))], [(7, [6, 7], [3]), (10, [7, 2, 4], []), (10, [6, 2, 5], []), (7, [5, 4], [4]), (20, [2, 3], [61, 1, 735]), (20, [4, 5, 3], [50, 0, 0, 2, 6, 0, 2, 1, 0, 1, 1, 0, 6, 4, 2, 1, 1, 0, 1, 1, 2]), (24, [0, 2], []), (24, [1, 3], [])], [], [(0, 1, 6, [])], [(23, [8, 3], [0, 1, -1]), (23, [8, 3], [0, -1, 1]), (20, [2, 8], [61, 1, 735]), (20, [4, 8], [50, 0, 0, 2, 6, 0, 2, 0, 0, 1, 0, 0, 6, 4, 2, 1, 0, 0, 1, 1, 1]), (20, [5, 8], [50, 0, 0, 2, 6, 0, 2, 0, 0, 1, 0, 0, 6, 4, 2, 1, 0, 0, 1, 1, 1])], [], [(6, 7, 0, 4294967296), (5, 4, 1, 4294967296), (1, 3, -4294967296, 0), (3, 1, -4294967296, 0), (4, 1, -4294967296, -2), (4, 3, -4294967296, -2), (4, 5, -4294967296, 0), (5, 1, -4294967296, -1), (5, 3, -4294967296, -1)])
theorem oo_La_nextOrder_5 {kA : Nat → ClassId} : or_ok PRD kA GG o_La_nextOrder_5 := by
  refine or_mk fun A ta ws vs hD hth hl => ?_
  intro t0 r0 t1 k1 t3 k3 t4 k4 t5 k5 t6 k6 t7 k7 d0 d1 d2 d3 d4 d5 d6 d7 d8 f0 f1 f2 f3 f4 f5 f6 f7
  replace f0 := shm_2 f0
  replace f1 := shm_107 f1
  replace f2 := shm_107 f2
  replace f3 := shm_21 f3
  replace f4 := shm_401 f4
  replace f5 := shm_880 f5
  replace f6 := shm_5 f6
  replace f7 := shm_5 f7
  have q2 : n_v vs 2 = n_v vs 0 := f6.symm
  have q3 : n_v vs 3 = n_v vs 1 := f7.symm
  simp only [q2, q3] at f1 f2 f4 f5
  have cr_0_999 : ta (v_ad (n_v vs 0)) = some 298 := r0
  have h1 : v_iv (n_v vs 7) = w_ei ws (v_ad (n_v vs 0)) (v_iv (n_v vs 4)) := f1
  have h2 : v_iv (n_v vs 6) = w_ei ws (v_ad (n_v vs 0)) (v_iv (n_v vs 5)) := f2
  have hK_0_999 := elq_40 hD hth cr_0_999
  obtain ⟨x, ex, hx⟩ := iv_ex (ta := ta) (lo := 1) (hi := 6) (z := v_iv (n_v vs 1)) (by omega) (by omega) (by omega) (by omega)
  have ex2 : v_iv (Value.int x) = v_iv (n_v vs 1) := ex
  have ex3 : 1 ≤ v_iv (Value.int x) ∧ v_iv (Value.int x) ≤ 6 := tv_rng hx
  have e_2 : n_v (vs ++ [Value.int x]) 2 = n_v vs 2 := n_v_old (by rw [hl]; decide)
  have e_3 : n_v (vs ++ [Value.int x]) 3 = n_v vs 3 := n_v_old (by rw [hl]; decide)
  have e_4 : n_v (vs ++ [Value.int x]) 4 = n_v vs 4 := n_v_old (by rw [hl]; decide)
  have e_5 : n_v (vs ++ [Value.int x]) 5 = n_v vs 5 := n_v_old (by rw [hl]; decide)
  have e_8 : n_v (vs ++ [Value.int x]) 8 = Value.int x := n_v_new hl
  have nf0 : fc_1 PRD (23, [8, 3], [0, 1, -1]) ws (vs ++ [Value.int x]) := by
    refine ⟨nf_inA hl rfl, sgq_7 ?_⟩
    · show 1 * v_iv (n_v (vs ++ [Value.int x]) 8) + ((-1) * v_iv (n_v (vs ++ [Value.int x]) 3) + 0) ≤ 0
      simp only [e_3, e_8, q3]
      exact vc_La_nextOrder_5_0 (v_iv (n_v vs 1)) (v_iv (n_v vs 3)) (v_iv (n_v vs 4)) (v_iv (n_v vs 5)) (v_iv (n_v vs 6)) (v_iv (n_v vs 7)) (w_ei ws (v_ad (n_v vs 0))) (v_iv (Value.int x)) k1 k3 k4 k5 k6 k7 d0 d1 d2 d3 d4 d5 d6 d7 d8 f0 h1 h2 f3 f4 f5 hK_0_999 ex2 ex3
  have nf1 : fc_1 PRD (23, [8, 3], [0, -1, 1]) ws (vs ++ [Value.int x]) := by
    refine ⟨nf_inA hl rfl, sgq_22 ?_⟩
    · show (-1) * v_iv (n_v (vs ++ [Value.int x]) 8) + (1 * v_iv (n_v (vs ++ [Value.int x]) 3) + 0) ≤ 0
      simp only [e_3, e_8, q3]
      exact vc_La_nextOrder_5_1 (v_iv (n_v vs 1)) (v_iv (n_v vs 3)) (v_iv (n_v vs 4)) (v_iv (n_v vs 5)) (v_iv (n_v vs 6)) (v_iv (n_v vs 7)) (w_ei ws (v_ad (n_v vs 0))) (v_iv (Value.int x)) k1 k3 k4 k5 k6 k7 d0 d1 d2 d3 d4 d5 d6 d7 d8 f0 h1 h2 f3 f4 f5 hK_0_999 ex2 ex3
  have nf2 : fc_1 PRD (20, [2, 8], [61, 1, 735]) ws (vs ++ [Value.int x]) := by
    refine ⟨nf_inA hl rfl, sgq_401 ?_⟩
    · show DGS (w_ei ws (v_ad (n_v (vs ++ [Value.int x]) 2))) (v_iv (n_v (vs ++ [Value.int x]) 8))
      simp only [e_2, e_8, q2]
      exact vc_La_nextOrder_5_2 (v_iv (n_v vs 1)) (v_iv (n_v vs 3)) (v_iv (n_v vs 4)) (v_iv (n_v vs 5)) (v_iv (n_v vs 6)) (v_iv (n_v vs 7)) (w_ei ws (v_ad (n_v vs 0))) (v_iv (Value.int x)) k1 k3 k4 k5 k6 k7 d0 d1 d2 d3 d4 d5 d6 d7 d8 f0 h1 h2 f3 f4 f5 hK_0_999 ex2 ex3
  have nf3 : fc_1 PRD (20, [4, 8], [50, 0, 0, 2, 6, 0, 2, 0, 0, 1, 0, 0, 6, 4, 2, 1, 0, 0, 1, 1, 1]) ws (vs ++ [Value.int x]) := by
    refine ⟨nf_inA hl rfl, sgq_400 ?_⟩
    · show (0 ≤ v_iv (n_v (vs ++ [Value.int x]) 4)) ∧ ((v_iv (n_v (vs ++ [Value.int x]) 4) + 1) ≤ v_iv (n_v (vs ++ [Value.int x]) 8))
      simp only [e_4, e_8]
      exact vc_La_nextOrder_5_3 (v_iv (n_v vs 1)) (v_iv (n_v vs 3)) (v_iv (n_v vs 4)) (v_iv (n_v vs 5)) (v_iv (n_v vs 6)) (v_iv (n_v vs 7)) (w_ei ws (v_ad (n_v vs 0))) (v_iv (Value.int x)) k1 k3 k4 k5 k6 k7 d0 d1 d2 d3 d4 d5 d6 d7 d8 f0 h1 h2 f3 f4 f5 hK_0_999 ex2 ex3
  have nf4 : fc_1 PRD (20, [5, 8], [50, 0, 0, 2, 6, 0, 2, 0, 0, 1, 0, 0, 6, 4, 2, 1, 0, 0, 1, 1, 1]) ws (vs ++ [Value.int x]) := by
    refine ⟨nf_inA hl rfl, sgq_400 ?_⟩
    · show (0 ≤ v_iv (n_v (vs ++ [Value.int x]) 5)) ∧ ((v_iv (n_v (vs ++ [Value.int x]) 5) + 1) ≤ v_iv (n_v (vs ++ [Value.int x]) 8))
      simp only [e_5, e_8]
      exact vc_La_nextOrder_5_4 (v_iv (n_v vs 1)) (v_iv (n_v vs 3)) (v_iv (n_v vs 4)) (v_iv (n_v vs 5)) (v_iv (n_v vs 6)) (v_iv (n_v vs 7)) (w_ei ws (v_ad (n_v vs 0))) (v_iv (Value.int x)) k1 k3 k4 k5 k6 k7 d0 d1 d2 d3 d4 d5 d6 d7 d8 f0 h1 h2 f3 f4 f5 hK_0_999 ex2 ex3
  exact ⟨(fun _ h => (by cases h)), [Value.int x], ag_one hx, List.forall_mem_cons.mpr ⟨⟨show (23 : Nat) < 100 from by decide, nf0⟩, List.forall_mem_cons.mpr ⟨⟨show (23 : Nat) < 100 from by decide, nf1⟩, List.forall_mem_cons.mpr ⟨⟨show (20 : Nat) < 100 from by decide, nf2⟩, List.forall_mem_cons.mpr ⟨⟨show (20 : Nat) < 100 from by decide, nf3⟩, List.forall_mem_cons.mpr ⟨⟨show (20 : Nat) < 100 from by decide, nf4⟩, (fun _ h => (by cases h))⟩⟩⟩⟩⟩, (fun _ h => (by cases h))⟩
set_option maxHeartbeats 4000000 in
theorem vc_La_nextOrder_6_0 (x1 : Int) (x3 : Int) (x4 : Int) (x5 : Int) (x8 : Int) (a0_0 : Int → Int) (k1 : 2 ≤ x1 ∧ x1 ≤ 6) (k3 : 2 ≤ x3 ∧ x3 ≤ 6) (k4 : 0 ≤ x4 ∧ x4 ≤ 4) (k5 : 1 ≤ x5 ∧ x5 ≤ 5) (k8 : 1 ≤ x8 ∧ x8 ≤ 6) (d0 : x4 + 1 ≤ x5 ∧ x5 ≤ x4 + 4294967296) (d1 : x3 + (-4294967296) ≤ x1 ∧ x1 ≤ x3 + 0) (d2 : x1 + (-4294967296) ≤ x3 ∧ x3 ≤ x1 + 0) (d3 : x1 + (-4294967296) ≤ x4 ∧ x4 ≤ x1 + (-2)) (d4 : x3 + (-4294967296) ≤ x4 ∧ x4 ≤ x3 + (-2)) (d5 : x5 + (-4294967296) ≤ x4 ∧ x4 ≤ x5 + 0) (d6 : x1 + (-4294967296) ≤ x5 ∧ x5 ≤ x1 + (-1)) (d7 : x3 + (-4294967296) ≤ x5 ∧ x5 ≤ x3 + (-1)) (f0 : 1 * x8 + ((-1) * x1 + 0) ≤ 0) (f1 : (-1) * x8 + (1 * x1 + 0) ≤ 0) (f2 : (0 ≤ x4) ∧ ((x4 + 1) ≤ x8)) (f3 : (0 ≤ x5) ∧ ((x5 + 1) ≤ x8)) (f4 : (x4 ≤ x5) ∧ ((x5 + 1) ≤ x1)) (f7 : DGS (a0_0) (x8)) (f9 : 1 * x8 + ((-1) * x1 + 0) ≤ 0) (f10 : (-1) * x8 + (1 * x1 + 0) ≤ 0) (f11 : x4 < x5) (hK_0_999 : ∀ j : Int, 0 ≤ j → j < 6 → 0 ≤ a0_0 j ∧ a0_0 j ≤ 7) : DGS (a0_0) (x1) := by
  first
    | assumption
    | exact dgs_eq ‹DGS _ _› (by omega)
  
def o_La_nextOrder_6 : or_T := (63, 10, [(0, (2, 0, 0, [298])), (1, (0, 2, 6, [])), (3, (0, 2, 6, [])), (4, (0, 0, 4, [])), (5, (0, 1, 5, [])), (8, (0, 1, 6, []))], [(23, [8, 3], [0, 1, -1]), (23, [8, 3], [0, -1, 1]), (20, [4, 8], [50, 0, 0, 2, 6, 0, 2, 0, 0, 1, 0, 0, 6, 4, 2, 1, 0, 0, 1, 1, 1]), (20, [5, 8], [50, 0, 0, 2, 6, 0, 2, 0, 0, 1, 0, 0, 6, 4, 2, 1, 0, 0, 1, 1, 1]), (20, [4, 5, 3], [50, 0, 0, 2, 6, 0, 2, 1, 0, 1, 1, 0, 6, 4, 2, 1, 1, 0, 1, 1, 2]), (24, [0, 2], []), (24, [1, 3], []), (20, [2, 8], [61, 1, 735]), (102, [8], [509258994083621521567111422102344540262867098416484062659035112338595324940834176545849344]), (23, [8, 3], [0, 1, -1]), (23, [8, 3], [0, -1, 1]), (7, [5, 4], [4])], [], [], [(20, [2, 3], [61, 1, 735])], [], [(5, 4, 1, 4294967296), (1, 3, -4294967296, 0), (3, 1, -4294967296, 0), (4, 1, -4294967296, -2), (4, 3, -4294967296, -2), (4, 5, -4294967296, 0), (5, 1, -4294967296, -1), (5, 3, -4294967296, -1)])
theorem oo_La_nextOrder_6 {kA : Nat → ClassId} : or_ok PRD kA GG o_La_nextOrder_6 := by
  refine or_mk fun A ta ws vs hD hth hl => ?_
  intro t0 r0 t1 k1 t3 k3 t4 k4 t5 k5 t8 k8 d0 d1 d2 d3 d4 d5 d6 d7 f0 f1 f2 f3 f4 f5 f6 f7 ta1 w1 le1 s1 f9 f10 f11
  replace f0 := shm_7 f0
  replace f1 := shm_22 f1
  replace f2 := shm_400 f2
  replace f3 := shm_400 f3
  replace f4 := shm_880 f4
  replace f5 := shm_5 f5
  replace f6 := shm_5 f6
  replace f7 := shm_401 f7
  replace f9 := shm_7 f9
  replace f10 := shm_22 f10
  replace f11 := shm_21 f11
  have q2 : n_v vs 2 = n_v vs 0 := f5.symm
  have q3 : n_v vs 3 = n_v vs 1 := f6.symm
  simp only [q3, q2] at f0 f1 f4 f7 f9 f10
  have cr_0_999 : ta (v_ad (n_v vs 0)) = some 298 := r0
  have hK_0_999 := elq_40 hD hth cr_0_999
  have nf0 : fc_1 PRD (20, [2, 3], [61, 1, 735]) ws (vs) := by
    refine ⟨nf_in hl rfl, sgq_401 ?_⟩
    · show DGS (w_ei ws (v_ad (n_v vs 2))) (v_iv (n_v vs 3))
      simp only [q2, q3]
      exact vc_La_nextOrder_6_0 (v_iv (n_v vs 1)) (v_iv (n_v vs 3)) (v_iv (n_v vs 4)) (v_iv (n_v vs 5)) (v_iv (n_v vs 8)) (w_ei ws (v_ad (n_v vs 0))) k1 k3 k4 k5 k8 d0 d1 d2 d3 d4 d5 d6 d7 f0 f1 f2 f3 f4 f7 f9 f10 f11 hK_0_999
  refine ⟨(fun _ h => (by cases h)), [], trivial, ?_, (fun _ h => (by cases h))⟩
  rw [List.append_nil]
  exact List.forall_mem_cons.mpr ⟨⟨show (20 : Nat) < 100 from by decide, nf0⟩, (fun _ h => (by cases h))⟩
set_option maxHeartbeats 4000000 in
theorem vc_La_nextOrder_7_0 (x1 : Int) (x3 : Int) (x4 : Int) (x5 : Int) (x6 : Int) (x7 : Int) (x8 : Int) (a0_0 : Int → Int) (k1 : 2 ≤ x1 ∧ x1 ≤ 6) (k3 : 2 ≤ x3 ∧ x3 ≤ 6) (k4 : 0 ≤ x4 ∧ x4 ≤ 4) (k5 : 1 ≤ x5 ∧ x5 ≤ 5) (k6 : 0 ≤ x6 ∧ x6 ≤ 6) (k7 : 1 ≤ x7 ∧ x7 ≤ 7) (k8 : 0 ≤ x8 ∧ x8 ≤ 4) (d0 : x5 + (-1) ≤ x8 ∧ x8 ≤ x5 + (-1)) (d1 : x4 + 0 ≤ x8 ∧ x8 ≤ x4 + 4294967296) (d2 : x1 + (-4294967296) ≤ x8 ∧ x8 ≤ x1 + (-2)) (d3 : x3 + (-4294967296) ≤ x8 ∧ x8 ≤ x3 + (-2)) (d4 : x7 + (-4294967296) ≤ x6 ∧ x6 ≤ x7 + (-1)) (d5 : x4 + 1 ≤ x5 ∧ x5 ≤ x4 + 4294967296) (d6 : x3 + (-4294967296) ≤ x1 ∧ x1 ≤ x3 + 0) (d7 : x1 + (-4294967296) ≤ x3 ∧ x3 ≤ x1 + 0) (d8 : x1 + (-4294967296) ≤ x4 ∧ x4 ≤ x1 + (-2)) (d9 : x3 + (-4294967296) ≤ x4 ∧ x4 ≤ x3 + (-2)) (d10 : x5 + (-4294967296) ≤ x4 ∧ x4 ≤ x5 + 0) (d11 : x1 + (-4294967296) ≤ x5 ∧ x5 ≤ x1 + (-1)) (d12 : x3 + (-4294967296) ≤ x5 ∧ x5 ≤ x3 + (-1)) (f0 : x8 = x5 + (-1)) (f1 : x6 < x7) (h2 : x7 = a0_0 (x4)) (h3 : x6 = a0_0 (x5)) (f4 : x4 < x5) (f5 : DGS (a0_0) (x1)) (f6 : (x4 ≤ x5) ∧ ((x5 + 1) ≤ x1)) (hK_0_999 : ∀ j : Int, 0 ≤ j → j < 6 → 0 ≤ a0_0 j ∧ a0_0 j ≤ 7) : (x4 ≤ x8) ∧ ((x8 + 1) ≤ x1) := by
  first
    | omega
  
def o_La_nextOrder_7 : or_T := (34, 9, [(0, (2, 0, 0, [298])), (1, (0, 2, 6, [])), (3, (0, 2, 6, [])), (4, (0, 0, 4, [])), (5, (0, 1, 5, [])), (6, (0, 0, 6, [])), (7, (0, 1, 7, [])), (8, (0, 0, 4, []))], [(6, [8, 5], [-1]), (7, [6, 7], [2]), (10, [7, 2, 4], []), (10, [6, 2, 5], []), (7, [5, 4], [4]), (20, [2, 3], [61, 1, 735]), (20, [4, 5, 3], [50, 0, 0, 2, 6, 0, 2, 1, 0, 1, 1, 0, 6, 4, 2, 1, 1, 0, 1, 1, 2]), (24, [0, 2], []), (24, [1, 3], [])], [], [], [(20, [4, 8, 3], [50, 0, 0, 2, 6, 0, 2, 1, 0, 1, 1, 0, 6, 4, 2, 1, 1, 0, 1, 1, 2])], [], [(8, 5, -1, -1), (8, 4, 0, 4294967296), (8, 1, -4294967296, -2), (8, 3, -4294967296, -2), (6, 7, -4294967296, -1), (5, 4, 1, 4294967296), (1, 3, -4294967296, 0), (3, 1, -4294967296, 0), (4, 1, -4294967296, -2), (4, 3, -4294967296, -2), (4, 5, -4294967296, 0), (5, 1, -4294967296, -1), (5, 3, -4294967296, -1)])
theorem oo_La_nextOrder_7 {kA : Nat → ClassId} : or_ok PRD kA GG o_La_nextOrder_7 := by
  refine or_mk fun A ta ws vs hD hth hl => ?_
  intro t0 r0 t1 k1 t3 k3 t4 k4 t5 k5 t6 k6 t7 k7 t8 k8 d0 d1 d2 d3 d4 d5 d6 d7 d8 d9 d10 d11 d12 f0 f1 f2 f3 f4 f5 f6 f7 f8
  replace f0 := shm_186 f0
  replace f1 := shm_6 f1
  replace f2 := shm_107 f2
  replace f3 := shm_107 f3
  replace f4 := shm_21 f4
  replace f5 := shm_401 f5
  replace f6 := shm_880 f6
  replace f7 := shm_5 f7
  replace f8 := shm_5 f8
  have q2 : n_v vs 2 = n_v vs 0 := f7.symm
  have q3 : n_v vs 3 = n_v vs 1 := f8.symm
  simp only [q2, q3] at f2 f3 f5 f6
  have cr_0_999 : ta (v_ad (n_v vs 0)) = some 298 := r0
  have h2 : v_iv (n_v vs 7) = w_ei ws (v_ad (n_v vs 0)) (v_iv (n_v vs 4)) := f2
  have h3 : v_iv (n_v vs 6) = w_ei ws (v_ad (n_v vs 0)) (v_iv (n_v vs 5)) := f3
  have hK_0_999 := elq_40 hD hth cr_0_999
  have nf0 : fc_1 PRD (20, [4, 8, 3], [50, 0, 0, 2, 6, 0, 2, 1, 0, 1, 1, 0, 6, 4, 2, 1, 1, 0, 1, 1, 2]) ws (vs) := by
    refine ⟨nf_in hl rfl, sgq_880 ?_⟩
    · show (v_iv (n_v vs 4) ≤ v_iv (n_v vs 8)) ∧ ((v_iv (n_v vs 8) + 1) ≤ v_iv (n_v vs 3))
      rw [q3]
      exact vc_La_nextOrder_7_0 (v_iv (n_v vs 1)) (v_iv (n_v vs 3)) (v_iv (n_v vs 4)) (v_iv (n_v vs 5)) (v_iv (n_v vs 6)) (v_iv (n_v vs 7)) (v_iv (n_v vs 8)) (w_ei ws (v_ad (n_v vs 0))) k1 k3 k4 k5 k6 k7 k8 d0 d1 d2 d3 d4 d5 d6 d7 d8 d9 d10 d11 d12 f0 f1 h2 h3 f4 f5 f6 hK_0_999
  refine ⟨(fun _ h => (by cases h)), [], trivial, ?_, (fun _ h => (by cases h))⟩
  rw [List.append_nil]
  exact List.forall_mem_cons.mpr ⟨⟨show (20 : Nat) < 100 from by decide, nf0⟩, (fun _ h => (by cases h))⟩
set_option maxHeartbeats 4000000 in
theorem vc_La_nextOrder_8_0 (x1 : Int) (x3 : Int) (x4 : Int) (x6 : Int) (x7 : Int) (x8 : Int) (x9 : Int) (x10 : Int) (x11 : Int) (x12 : Int) (a0_0 : Int → Int) (k1 : 1 ≤ x1 ∧ x1 ≤ 6) (k3 : 2 ≤ x3 ∧ x3 ≤ 6) (k4 : 0 ≤ x4 ∧ x4 ≤ 4) (k6 : 0 ≤ x6 ∧ x6 ≤ 4) (k7 : 1 ≤ x7 ∧ x7 ≤ 1) (k8 : 1 ≤ x8 ∧ x8 ≤ 5) (k9 : 1 ≤ x9 ∧ x9 ≤ 9) (k10 : 1 ≤ x10 ∧ x10 ≤ 1) (k11 : 1 ≤ x11 ∧ x11 ≤ 5) (k12 : (-3) ≤ x12 ∧ x12 ≤ 5) (d0 : x12 + 0 ≤ x9 ∧ x9 ≤ x12 + 4294967296) (d1 : x11 + (-4) ≤ x12 ∧ x12 ≤ x11 + 0) (d2 : x3 + (-5) ≤ x12 ∧ x12 ≤ x3 + (-1)) (d3 : x1 + (-4294967296) ≤ x12 ∧ x12 ≤ x1 + (-1)) (d4 : x3 + (-1) ≤ x11 ∧ x11 ≤ x3 + (-1)) (d5 : x1 + (-4294967296) ≤ x11 ∧ x11 ≤ x1 + (-1)) (d6 : x6 + 1 ≤ x9 ∧ x9 ≤ x6 + 5) (d7 : x8 + 0 ≤ x9 ∧ x9 ≤ x8 + 4) (d8 : x4 + 1 ≤ x9 ∧ x9 ≤ x4 + 5) (d9 : x1 + (-4294967296) ≤ x9 ∧ x9 ≤ x1 + 3) (d10 : x3 + (-4294967296) ≤ x9 ∧ x9 ≤ x3 + 3) (d11 : x4 + 1 ≤ x8 ∧ x8 ≤ x4 + 1) (d12 : x1 + (-4294967296) ≤ x8 ∧ x8 ≤ x1 + (-1)) (d13 : x3 + (-4294967296) ≤ x8 ∧ x8 ≤ x3 + (-1)) (d14 : x3 + (-4294967296) ≤ x1 ∧ x1 ≤ x3 + 0) (d15 : x1 + (-4294967296) ≤ x3 ∧ x3 ≤ x1 + 0) (d16 : x1 + (-4294967296) ≤ x4 ∧ x4 ≤ x1 + (-2)) (d17 : x3 + (-4294967296) ≤ x4 ∧ x4 ≤ x3 + (-2)) (f0 : x12 ≤ x9) (f1 : x12 = x11 - x6) (f2 : x11 = x1 - x10) (f3 : x9 = x8 + x6) (f4 : x8 = x4 + x7) (f5 : DGS (a0_0) (x1)) (hK_0_999 : ∀ j : Int, 0 ≤ j → j < 6 → 0 ≤ a0_0 j ∧ a0_0 j ≤ 7) : DGS (a0_0) (x1) := by
  first
    | assumption
    | exact dgs_eq ‹DGS _ _› (by omega)
  
def o_La_nextOrder_8 : or_T := (100, 13, [(0, (2, 0, 0, [298])), (1, (0, 1, 6, [])), (3, (0, 2, 6, [])), (4, (0, 0, 4, [])), (6, (0, 0, 4, [])), (7, (0, 1, 1, [])), (8, (0, 1, 5, [])), (9, (0, 1, 9, [])), (10, (0, 1, 1, [])), (11, (0, 1, 5, [])), (12, (0, -3, 5, []))], [(7, [9, 12], [3]), (2, [12, 11, 6], []), (2, [11, 3, 10], []), (1, [9, 8, 6], []), (1, [8, 4, 7], []), (20, [2, 3], [61, 1, 735]), (24, [0, 2], []), (24, [1, 3], [])], [], [], [(20, [0, 1], [61, 1, 735])], [], [(9, 12, 0, 4294967296), (12, 11, -4, 0), (12, 3, -5, -1), (12, 1, -4294967296, -1), (11, 3, -1, -1), (11, 1, -4294967296, -1), (9, 6, 1, 5), (9, 8, 0, 4), (9, 4, 1, 5), (9, 1, -4294967296, 3), (9, 3, -4294967296, 3), (8, 4, 1, 1), (8, 1, -4294967296, -1), (8, 3, -4294967296, -1), (1, 3, -4294967296, 0), (3, 1, -4294967296, 0), (4, 1, -4294967296, -2), (4, 3, -4294967296, -2)])
theorem oo_La_nextOrder_8 {kA : Nat → ClassId} : or_ok PRD kA GG o_La_nextOrder_8 := by
  refine or_mk fun A ta ws vs hD hth hl => ?_
  intro t0 r0 t1 k1 t3 k3 t4 k4 t6 k6 t7 k7 t8 k8 t9 k9 t10 k10 t11 k11 t12 k12 d0 d1 d2 d3 d4 d5 d6 d7 d8 d9 d10 d11 d12 d13 d14 d15 d16 d17 f0 f1 f2 f3 f4 f5 f6 f7
  replace f2 := shm_14 f2
  replace f5 := shm_401 f5
  replace f6 := shm_5 f6
  replace f7 := shm_5 f7
  have q2 : n_v vs 2 = n_v vs 0 := f6.symm
  have q3 : n_v vs 3 = n_v vs 1 := f7.symm
  simp only [q3, q2] at f2 f5
  have cr_0_999 : ta (v_ad (n_v vs 0)) = some 298 := r0
  have hK_0_999 := elq_40 hD hth cr_0_999
  have nf0 : fc_1 PRD (20, [0, 1], [61, 1, 735]) ws (vs) := ⟨nf_in hl rfl, sgq_401 (vc_La_nextOrder_8_0 (v_iv (n_v vs 1)) (v_iv (n_v vs 3)) (v_iv (n_v vs 4)) (v_iv (n_v vs 6)) (v_iv (n_v vs 7)) (v_iv (n_v vs 8)) (v_iv (n_v vs 9)) (v_iv (n_v vs 10)) (v_iv (n_v vs 11)) (v_iv (n_v vs 12)) (w_ei ws (v_ad (n_v vs 0))) k1 k3 k4 k6 k7 k8 k9 k10 k11 k12 d0 d1 d2 d3 d4 d5 d6 d7 d8 d9 d10 d11 d12 d13 d14 d15 d16 d17 (shm_2 f0) (shm_14 f1) f2 (shm_12 f3) (shm_12 f4) f5 hK_0_999)⟩
  refine ⟨(fun _ h => (by cases h)), [], trivial, ?_, (fun _ h => (by cases h))⟩
  rw [List.append_nil]
  exact List.forall_mem_cons.mpr ⟨⟨show (20 : Nat) < 100 from by decide, nf0⟩, (fun _ h => (by cases h))⟩
set_option maxHeartbeats 4000000 in
theorem vc_La_nextOrder_9_r0 (x1 : Int) (x3 : Int) (x4 : Int) (x6 : Int) (x7 : Int) (x8 : Int) (x9 : Int) (x10 : Int) (x11 : Int) (x12 : Int) (x13 : Int) (x14 : Int) (x15 : Int) (x16 : Int) (x17 : Int) (x18 : Int) (a0_0 : Int → Int) (gx : Int) (k1 : 3 ≤ x1 ∧ x1 ≤ 6) (k3 : 3 ≤ x3 ∧ x3 ≤ 6) (k4 : 0 ≤ x4 ∧ x4 ≤ 3) (k6 : 0 ≤ x6 ∧ x6 ≤ 3) (k7 : 1 ≤ x7 ∧ x7 ≤ 1) (k8 : 1 ≤ x8 ∧ x8 ≤ 4) (k9 : 1 ≤ x9 ∧ x9 ≤ 4) (k10 : 1 ≤ x10 ∧ x10 ≤ 1) (k11 : 2 ≤ x11 ∧ x11 ≤ 5) (k12 : 2 ≤ x12 ∧ x12 ≤ 5) (k13 : 1 ≤ x13 ∧ x13 ≤ 1) (k14 : 1 ≤ x14 ∧ x14 ≤ 4) (k15 : 1 ≤ x15 ∧ x15 ≤ 7) (k16 : 1 ≤ x16 ∧ x16 ≤ 1) (k17 : 2 ≤ x17 ∧ x17 ≤ 5) (k18 : (-1) ≤ x18 ∧ x18 ≤ 5) (d0 : x17 + (-3) ≤ x18 ∧ x18 ≤ x17 + 0) (d1 : x3 + (-4) ≤ x18 ∧ x18 ≤ x3 + (-1)) (d2 : x1 + (-4294967296) ≤ x18 ∧ x18 ≤ x1 + (-1)) (d3 : x3 + (-1) ≤ x17 ∧ x17 ≤ x3 + (-1)) (d4 : x1 + (-4294967296) ≤ x17 ∧ x17 ≤ x1 + (-1)) (d5 : x6 + 1 ≤ x15 ∧ x15 ≤ x6 + 4) (d6 : x14 + 0 ≤ x15 ∧ x15 ≤ x14 + 3) (d7 : x4 + 1 ≤ x15 ∧ x15 ≤ x4 + 4) (d8 : x1 + (-4294967296) ≤ x15 ∧ x15 ≤ x1 + 2) (d9 : x3 + (-4294967296) ≤ x15 ∧ x15 ≤ x3 + 2) (d10 : x4 + 1 ≤ x14 ∧ x14 ≤ x4 + 1) (d11 : x1 + (-4294967296) ≤ x14 ∧ x14 ≤ x1 + (-1)) (d12 : x3 + (-4294967296) ≤ x14 ∧ x14 ≤ x3 + (-1)) (d13 : x12 + (-4294967296) ≤ x9 ∧ x9 ≤ x12 + (-1)) (d14 : x11 + (-4) ≤ x12 ∧ x12 ≤ x11 + 0) (d15 : x3 + (-5) ≤ x12 ∧ x12 ≤ x3 + (-1)) (d16 : x1 + (-4294967296) ≤ x12 ∧ x12 ≤ x1 + (-1)) (d17 : x3 + (-1) ≤ x11 ∧ x11 ≤ x3 + (-1)) (d18 : x1 + (-4294967296) ≤ x11 ∧ x11 ≤ x1 + (-1)) (d19 : x6 + 1 ≤ x9 ∧ x9 ≤ x6 + 5) (d20 : x8 + 0 ≤ x9 ∧ x9 ≤ x8 + 4) (d21 : x4 + 1 ≤ x9 ∧ x9 ≤ x4 + 5) (d22 : x4 + 1 ≤ x8 ∧ x8 ≤ x4 + 1) (d23 : x1 + (-4294967296) ≤ x8 ∧ x8 ≤ x1 + (-1)) (d24 : x3 + (-4294967296) ≤ x8 ∧ x8 ≤ x3 + (-1)) (d25 : x3 + (-4294967296) ≤ x1 ∧ x1 ≤ x3 + 0) (d26 : x1 + (-4294967296) ≤ x3 ∧ x3 ≤ x1 + 0) (d27 : x1 + (-4294967296) ≤ x4 ∧ x4 ≤ x1 + (-2)) (d28 : x3 + (-4294967296) ≤ x4 ∧ x4 ≤ x3 + (-2)) (f0 : x18 = x17 - x6) (f1 : x17 = x1 - x16) (f2 : x15 = x14 + x6) (f3 : x14 = x4 + x13) (f4 : x9 < x12) (f5 : x12 = x11 - x6) (f6 : x11 = x1 - x10) (f7 : x9 = x8 + x6) (f8 : x8 = x4 + x7) (f9 : DGS (a0_0) (x1)) (hK_0_999 : ∀ j : Int, 0 ≤ j → j < 6 → 0 ≤ a0_0 j ∧ a0_0 j ≤ 7) (ex2 : gx = x1) (ex3 : 1 ≤ gx ∧ gx ≤ 6) : 0 ≤ x18 ∧ x18 ≤ 5 := by
  first
    | omega
  
set_option maxHeartbeats 4000000 in
theorem vc_La_nextOrder_9_r1 (x1 : Int) (x3 : Int) (x4 : Int) (x6 : Int) (x7 : Int) (x8 : Int) (x9 : Int) (x10 : Int) (x11 : Int) (x12 : Int) (x13 : Int) (x14 : Int) (x15 : Int) (x16 : Int) (x17 : Int) (x18 : Int) (a0_0 : Int → Int) (gx : Int) (k1 : 3 ≤ x1 ∧ x1 ≤ 6) (k3 : 3 ≤ x3 ∧ x3 ≤ 6) (k4 : 0 ≤ x4 ∧ x4 ≤ 3) (k6 : 0 ≤ x6 ∧ x6 ≤ 3) (k7 : 1 ≤ x7 ∧ x7 ≤ 1) (k8 : 1 ≤ x8 ∧ x8 ≤ 4) (k9 : 1 ≤ x9 ∧ x9 ≤ 4) (k10 : 1 ≤ x10 ∧ x10 ≤ 1) (k11 : 2 ≤ x11 ∧ x11 ≤ 5) (k12 : 2 ≤ x12 ∧ x12 ≤ 5) (k13 : 1 ≤ x13 ∧ x13 ≤ 1) (k14 : 1 ≤ x14 ∧ x14 ≤ 4) (k15 : 1 ≤ x15 ∧ x15 ≤ 7) (k16 : 1 ≤ x16 ∧ x16 ≤ 1) (k17 : 2 ≤ x17 ∧ x17 ≤ 5) (k18 : (-1) ≤ x18 ∧ x18 ≤ 5) (d0 : x17 + (-3) ≤ x18 ∧ x18 ≤ x17 + 0) (d1 : x3 + (-4) ≤ x18 ∧ x18 ≤ x3 + (-1)) (d2 : x1 + (-4294967296) ≤ x18 ∧ x18 ≤ x1 + (-1)) (d3 : x3 + (-1) ≤ x17 ∧ x17 ≤ x3 + (-1)) (d4 : x1 + (-4294967296) ≤ x17 ∧ x17 ≤ x1 + (-1)) (d5 : x6 + 1 ≤ x15 ∧ x15 ≤ x6 + 4) (d6 : x14 + 0 ≤ x15 ∧ x15 ≤ x14 + 3) (d7 : x4 + 1 ≤ x15 ∧ x15 ≤ x4 + 4) (d8 : x1 + (-4294967296) ≤ x15 ∧ x15 ≤ x1 + 2) (d9 : x3 + (-4294967296) ≤ x15 ∧ x15 ≤ x3 + 2) (d10 : x4 + 1 ≤ x14 ∧ x14 ≤ x4 + 1) (d11 : x1 + (-4294967296) ≤ x14 ∧ x14 ≤ x1 + (-1)) (d12 : x3 + (-4294967296) ≤ x14 ∧ x14 ≤ x3 + (-1)) (d13 : x12 + (-4294967296) ≤ x9 ∧ x9 ≤ x12 + (-1)) (d14 : x11 + (-4) ≤ x12 ∧ x12 ≤ x11 + 0) (d15 : x3 + (-5) ≤ x12 ∧ x12 ≤ x3 + (-1)) (d16 : x1 + (-4294967296) ≤ x12 ∧ x12 ≤ x1 + (-1)) (d17 : x3 + (-1) ≤ x11 ∧ x11 ≤ x3 + (-1)) (d18 : x1 + (-4294967296) ≤ x11 ∧ x11 ≤ x1 + (-1)) (d19 : x6 + 1 ≤ x9 ∧ x9 ≤ x6 + 5) (d20 : x8 + 0 ≤ x9 ∧ x9 ≤ x8 + 4) (d21 : x4 + 1 ≤ x9 ∧ x9 ≤ x4 + 5) (d22 : x4 + 1 ≤ x8 ∧ x8 ≤ x4 + 1) (d23 : x1 + (-4294967296) ≤ x8 ∧ x8 ≤ x1 + (-1)) (d24 : x3 + (-4294967296) ≤ x8 ∧ x8 ≤ x3 + (-1)) (d25 : x3 + (-4294967296) ≤ x1 ∧ x1 ≤ x3 + 0) (d26 : x1 + (-4294967296) ≤ x3 ∧ x3 ≤ x1 + 0) (d27 : x1 + (-4294967296) ≤ x4 ∧ x4 ≤ x1 + (-2)) (d28 : x3 + (-4294967296) ≤ x4 ∧ x4 ≤ x3 + (-2)) (f0 : x18 = x17 - x6) (f1 : x17 = x1 - x16) (f2 : x15 = x14 + x6) (f3 : x14 = x4 + x13) (f4 : x9 < x12) (f5 : x12 = x11 - x6) (f6 : x11 = x1 - x10) (f7 : x9 = x8 + x6) (f8 : x8 = x4 + x7) (f9 : DGS (a0_0) (x1)) (hK_0_999 : ∀ j : Int, 0 ≤ j → j < 6 → 0 ≤ a0_0 j ∧ a0_0 j ≤ 7) (ex2 : gx = x1) (ex3 : 1 ≤ gx ∧ gx ≤ 6) : 1 ≤ x15 ∧ x15 ≤ 5 := by
  first
    | omega
  
set_option maxHeartbeats 4000000 in
theorem vc_La_nextOrder_9_0 (x1 : Int) (x3 : Int) (x4 : Int) (x6 : Int) (x7 : Int) (x8 : Int) (x9 : Int) (x10 : Int) (x11 : Int) (x12 : Int) (x13 : Int) (x14 : Int) (x15 : Int) (x16 : Int) (x17 : Int) (x18 : Int) (a0_0 : Int → Int) (gx : Int) (k1 : 3 ≤ x1 ∧ x1 ≤ 6) (k3 : 3 ≤ x3 ∧ x3 ≤ 6) (k4 : 0 ≤ x4 ∧ x4 ≤ 3) (k6 : 0 ≤ x6 ∧ x6 ≤ 3) (k7 : 1 ≤ x7 ∧ x7 ≤ 1) (k8 : 1 ≤ x8 ∧ x8 ≤ 4) (k9 : 1 ≤ x9 ∧ x9 ≤ 4) (k10 : 1 ≤ x10 ∧ x10 ≤ 1) (k11 : 2 ≤ x11 ∧ x11 ≤ 5) (k12 : 2 ≤ x12 ∧ x12 ≤ 5) (k13 : 1 ≤ x13 ∧ x13 ≤ 1) (k14 : 1 ≤ x14 ∧ x14 ≤ 4) (k15 : 1 ≤ x15 ∧ x15 ≤ 7) (k16 : 1 ≤ x16 ∧ x16 ≤ 1) (k17 : 2 ≤ x17 ∧ x17 ≤ 5) (k18 : (-1) ≤ x18 ∧ x18 ≤ 5) (d0 : x17 + (-3) ≤ x18 ∧ x18 ≤ x17 + 0) (d1 : x3 + (-4) ≤ x18 ∧ x18 ≤ x3 + (-1)) (d2 : x1 + (-4294967296) ≤ x18 ∧ x18 ≤ x1 + (-1)) (d3 : x3 + (-1) ≤ x17 ∧ x17 ≤ x3 + (-1)) (d4 : x1 + (-4294967296) ≤ x17 ∧ x17 ≤ x1 + (-1)) (d5 : x6 + 1 ≤ x15 ∧ x15 ≤ x6 + 4) (d6 : x14 + 0 ≤ x15 ∧ x15 ≤ x14 + 3) (d7 : x4 + 1 ≤ x15 ∧ x15 ≤ x4 + 4) (d8 : x1 + (-4294967296) ≤ x15 ∧ x15 ≤ x1 + 2) (d9 : x3 + (-4294967296) ≤ x15 ∧ x15 ≤ x3 + 2) (d10 : x4 + 1 ≤ x14 ∧ x14 ≤ x4 + 1) (d11 : x1 + (-4294967296) ≤ x14 ∧ x14 ≤ x1 + (-1)) (d12 : x3 + (-4294967296) ≤ x14 ∧ x14 ≤ x3 + (-1)) (d13 : x12 + (-4294967296) ≤ x9 ∧ x9 ≤ x12 + (-1)) (d14 : x11 + (-4) ≤ x12 ∧ x12 ≤ x11 + 0) (d15 : x3 + (-5) ≤ x12 ∧ x12 ≤ x3 + (-1)) (d16 : x1 + (-4294967296) ≤ x12 ∧ x12 ≤ x1 + (-1)) (d17 : x3 + (-1) ≤ x11 ∧ x11 ≤ x3 + (-1)) (d18 : x1 + (-4294967296) ≤ x11 ∧ x11 ≤ x1 + (-1)) (d19 : x6 + 1 ≤ x9 ∧ x9 ≤ x6 + 5) (d20 : x8 + 0 ≤ x9 ∧ x9 ≤ x8 + 4) (d21 : x4 + 1 ≤ x9 ∧ x9 ≤ x4 + 5) (d22 : x4 + 1 ≤ x8 ∧ x8 ≤ x4 + 1) (d23 : x1 + (-4294967296) ≤ x8 ∧ x8 ≤ x1 + (-1)) (d24 : x3 + (-4294967296) ≤ x8 ∧ x8 ≤ x3 + (-1)) (d25 : x3 + (-4294967296) ≤ x1 ∧ x1 ≤ x3 + 0) (d26 : x1 + (-4294967296) ≤ x3 ∧ x3 ≤ x1 + 0) (d27 : x1 + (-4294967296) ≤ x4 ∧ x4 ≤ x1 + (-2)) (d28 : x3 + (-4294967296) ≤ x4 ∧ x4 ≤ x3 + (-2)) (f0 : x18 = x17 - x6) (f1 : x17 = x1 - x16) (f2 : x15 = x14 + x6) (f3 : x14 = x4 + x13) (f4 : x9 < x12) (f5 : x12 = x11 - x6) (f6 : x11 = x1 - x10) (f7 : x9 = x8 + x6) (f8 : x8 = x4 + x7) (f9 : DGS (a0_0) (x1)) (hK_0_999 : ∀ j : Int, 0 ≤ j → j < 6 → 0 ≤ a0_0 j ∧ a0_0 j ≤ 7) (ex2 : gx = x1) (ex3 : 1 ≤ gx ∧ gx ≤ 6) : 1 * gx + ((-1) * x1 + 0) ≤ 0 := by
  first
    | omega
  
set_option maxHeartbeats 4000000 in
theorem vc_La_nextOrder_9_1 (x1 : Int) (x3 : Int) (x4 : Int) (x6 : Int) (x7 : Int) (x8 : Int) (x9 : Int) (x10 : Int) (x11 : Int) (x12 : Int) (x13 : Int) (x14 : Int) (x15 : Int) (x16 : Int) (x17 : Int) (x18 : Int) (a0_0 : Int → Int) (gx : Int) (k1 : 3 ≤ x1 ∧ x1 ≤ 6) (k3 : 3 ≤ x3 ∧ x3 ≤ 6) (k4 : 0 ≤ x4 ∧ x4 ≤ 3) (k6 : 0 ≤ x6 ∧ x6 ≤ 3) (k7 : 1 ≤ x7 ∧ x7 ≤ 1) (k8 : 1 ≤ x8 ∧ x8 ≤ 4) (k9 : 1 ≤ x9 ∧ x9 ≤ 4) (k10 : 1 ≤ x10 ∧ x10 ≤ 1) (k11 : 2 ≤ x11 ∧ x11 ≤ 5) (k12 : 2 ≤ x12 ∧ x12 ≤ 5) (k13 : 1 ≤ x13 ∧ x13 ≤ 1) (k14 : 1 ≤ x14 ∧ x14 ≤ 4) (k15 : 1 ≤ x15 ∧ x15 ≤ 7) (k16 : 1 ≤ x16 ∧ x16 ≤ 1) (k17 : 2 ≤ x17 ∧ x17 ≤ 5) (k18 : (-1) ≤ x18 ∧ x18 ≤ 5) (d0 : x17 + (-3) ≤ x18 ∧ x18 ≤ x17 + 0) (d1 : x3 + (-4) ≤ x18 ∧ x18 ≤ x3 + (-1)) (d2 : x1 + (-4294967296) ≤ x18 ∧ x18 ≤ x1 + (-1)) (d3 : x3 + (-1) ≤ x17 ∧ x17 ≤ x3 + (-1)) (d4 : x1 + (-4294967296) ≤ x17 ∧ x17 ≤ x1 + (-1)) (d5 : x6 + 1 ≤ x15 ∧ x15 ≤ x6 + 4) (d6 : x14 + 0 ≤ x15 ∧ x15 ≤ x14 + 3) (d7 : x4 + 1 ≤ x15 ∧ x15 ≤ x4 + 4) (d8 : x1 + (-4294967296) ≤ x15 ∧ x15 ≤ x1 + 2) (d9 : x3 + (-4294967296) ≤ x15 ∧ x15 ≤ x3 + 2) (d10 : x4 + 1 ≤ x14 ∧ x14 ≤ x4 + 1) (d11 : x1 + (-4294967296) ≤ x14 ∧ x14 ≤ x1 + (-1)) (d12 : x3 + (-4294967296) ≤ x14 ∧ x14 ≤ x3 + (-1)) (d13 : x12 + (-4294967296) ≤ x9 ∧ x9 ≤ x12 + (-1)) (d14 : x11 + (-4) ≤ x12 ∧ x12 ≤ x11 + 0) (d15 : x3 + (-5) ≤ x12 ∧ x12 ≤ x3 + (-1)) (d16 : x1 + (-4294967296) ≤ x12 ∧ x12 ≤ x1 + (-1)) (d17 : x3 + (-1) ≤ x11 ∧ x11 ≤ x3 + (-1)) (d18 : x1 + (-4294967296) ≤ x11 ∧ x11 ≤ x1 + (-1)) (d19 : x6 + 1 ≤ x9 ∧ x9 ≤ x6 + 5) (d20 : x8 + 0 ≤ x9 ∧ x9 ≤ x8 + 4) (d21 : x4 + 1 ≤ x9 ∧ x9 ≤ x4 + 5) (d22 : x4 + 1 ≤ x8 ∧ x8 ≤ x4 + 1) (d23 : x1 + (-4294967296) ≤ x8 ∧ x8 ≤ x1 + (-1)) (d24 : x3 + (-4294967296) ≤ x8 ∧ x8 ≤ x3 + (-1)) (d25 : x3 + (-4294967296) ≤ x1 ∧ x1 ≤ x3 + 0) (d26 : x1 + (-4294967296) ≤ x3 ∧ x3 ≤ x1 + 0) (d27 : x1 + (-4294967296) ≤ x4 ∧ x4 ≤ x1 + (-2)) (d28 : x3 + (-4294967296) ≤ x4 ∧ x4 ≤ x3 + (-2)) (f0 : x18 = x17 - x6) (f1 : x17 = x1 - x16) (f2 : x15 = x14 + x6) (f3 : x14 = x4 + x13) (f4 : x9 < x12) (f5 : x12 = x11 - x6) (f6 : x11 = x1 - x10) (f7 : x9 = x8 + x6) (f8 : x8 = x4 + x7) (f9 : DGS (a0_0) (x1)) (hK_0_999 : ∀ j : Int, 0 ≤ j → j < 6 → 0 ≤ a0_0 j ∧ a0_0 j ≤ 7) (ex2 : gx = x1) (ex3 : 1 ≤ gx ∧ gx ≤ 6) : (-1) * gx + (1 * x1 + 0) ≤ 0 := by
  first
    | omega
  
set_option maxHeartbeats 4000000 in
theorem vc_La_nextOrder_9_2 (x1 : Int) (x3 : Int) (x4 : Int) (x6 : Int) (x7 : Int) (x8 : Int) (x9 : Int) (x10 : Int) (x11 : Int) (x12 : Int) (x13 : Int) (x14 : Int) (x15 : Int) (x16 : Int) (x17 : Int) (x18 : Int) (a0_0 : Int → Int) (gx : Int) (k1 : 3 ≤ x1 ∧ x1 ≤ 6) (k3 : 3 ≤ x3 ∧ x3 ≤ 6) (k4 : 0 ≤ x4 ∧ x4 ≤ 3) (k6 : 0 ≤ x6 ∧ x6 ≤ 3) (k7 : 1 ≤ x7 ∧ x7 ≤ 1) (k8 : 1 ≤ x8 ∧ x8 ≤ 4) (k9 : 1 ≤ x9 ∧ x9 ≤ 4) (k10 : 1 ≤ x10 ∧ x10 ≤ 1) (k11 : 2 ≤ x11 ∧ x11 ≤ 5) (k12 : 2 ≤ x12 ∧ x12 ≤ 5) (k13 : 1 ≤ x13 ∧ x13 ≤ 1) (k14 : 1 ≤ x14 ∧ x14 ≤ 4) (k15 : 1 ≤ x15 ∧ x15 ≤ 7) (k16 : 1 ≤ x16 ∧ x16 ≤ 1) (k17 : 2 ≤ x17 ∧ x17 ≤ 5) (k18 : (-1) ≤ x18 ∧ x18 ≤ 5) (d0 : x17 + (-3) ≤ x18 ∧ x18 ≤ x17 + 0) (d1 : x3 + (-4) ≤ x18 ∧ x18 ≤ x3 + (-1)) (d2 : x1 + (-4294967296) ≤ x18 ∧ x18 ≤ x1 + (-1)) (d3 : x3 + (-1) ≤ x17 ∧ x17 ≤ x3 + (-1)) (d4 : x1 + (-4294967296) ≤ x17 ∧ x17 ≤ x1 + (-1)) (d5 : x6 + 1 ≤ x15 ∧ x15 ≤ x6 + 4) (d6 : x14 + 0 ≤ x15 ∧ x15 ≤ x14 + 3) (d7 : x4 + 1 ≤ x15 ∧ x15 ≤ x4 + 4) (d8 : x1 + (-4294967296) ≤ x15 ∧ x15 ≤ x1 + 2) (d9 : x3 + (-4294967296) ≤ x15 ∧ x15 ≤ x3 + 2) (d10 : x4 + 1 ≤ x14 ∧ x14 ≤ x4 + 1) (d11 : x1 + (-4294967296) ≤ x14 ∧ x14 ≤ x1 + (-1)) (d12 : x3 + (-4294967296) ≤ x14 ∧ x14 ≤ x3 + (-1)) (d13 : x12 + (-4294967296) ≤ x9 ∧ x9 ≤ x12 + (-1)) (d14 : x11 + (-4) ≤ x12 ∧ x12 ≤ x11 + 0) (d15 : x3 + (-5) ≤ x12 ∧ x12 ≤ x3 + (-1)) (d16 : x1 + (-4294967296) ≤ x12 ∧ x12 ≤ x1 + (-1)) (d17 : x3 + (-1) ≤ x11 ∧ x11 ≤ x3 + (-1)) (d18 : x1 + (-4294967296) ≤ x11 ∧ x11 ≤ x1 + (-1)) (d19 : x6 + 1 ≤ x9 ∧ x9 ≤ x6 + 5) (d20 : x8 + 0 ≤ x9 ∧ x9 ≤ x8 + 4) (d21 : x4 + 1 ≤ x9 ∧ x9 ≤ x4 + 5) (d22 : x4 + 1 ≤ x8 ∧ x8 ≤ x4 + 1) (d23 : x1 + (-4294967296) ≤ x8 ∧ x8 ≤ x1 + (-1)) (d24 : x3 + (-4294967296) ≤ x8 ∧ x8 ≤ x3 + (-1)) (d25 : x3 + (-4294967296) ≤ x1 ∧ x1 ≤ x3 + 0) (d26 : x1 + (-4294967296) ≤ x3 ∧ x3 ≤ x1 + 0) (d27 : x1 + (-4294967296) ≤ x4 ∧ x4 ≤ x1 + (-2)) (d28 : x3 + (-4294967296) ≤ x4 ∧ x4 ≤ x3 + (-2)) (f0 : x18 = x17 - x6) (f1 : x17 = x1 - x16) (f2 : x15 = x14 + x6) (f3 : x14 = x4 + x13) (f4 : x9 < x12) (f5 : x12 = x11 - x6) (f6 : x11 = x1 - x10) (f7 : x9 = x8 + x6) (f8 : x8 = x4 + x7) (f9 : DGS (a0_0) (x1)) (hK_0_999 : ∀ j : Int, 0 ≤ j → j < 6 → 0 ≤ a0_0 j ∧ a0_0 j ≤ 7) (ex2 : gx = x1) (ex3 : 1 ≤ gx ∧ gx ≤ 6) : DGS (a0_0) (gx) := by
  first
    | assumption
    | exact dgs_eq ‹DGS _ _› (by omega)
  
set_option maxHeartbeats 4000000 in
theorem vc_La_nextOrder_9_3 (x1 : Int) (x3 : Int) (x4 : Int) (x6 : Int) (x7 : Int) (x8 : Int) (x9 : Int) (x10 : Int) (x11 : Int) (x12 : Int) (x13 : Int) (x14 : Int) (x15 : Int) (x16 : Int) (x17 : Int) (x18 : Int) (a0_0 : Int → Int) (gx : Int) (k1 : 3 ≤ x1 ∧ x1 ≤ 6) (k3 : 3 ≤ x3 ∧ x3 ≤ 6) (k4 : 0 ≤ x4 ∧ x4 ≤ 3) (k6 : 0 ≤ x6 ∧ x6 ≤ 3) (k7 : 1 ≤ x7 ∧ x7 ≤ 1) (k8 : 1 ≤ x8 ∧ x8 ≤ 4) (k9 : 1 ≤ x9 ∧ x9 ≤ 4) (k10 : 1 ≤ x10 ∧ x10 ≤ 1) (k11 : 2 ≤ x11 ∧ x11 ≤ 5) (k12 : 2 ≤ x12 ∧ x12 ≤ 5) (k13 : 1 ≤ x13 ∧ x13 ≤ 1) (k14 : 1 ≤ x14 ∧ x14 ≤ 4) (k15 : 1 ≤ x15 ∧ x15 ≤ 7) (k16 : 1 ≤ x16 ∧ x16 ≤ 1) (k17 : 2 ≤ x17 ∧ x17 ≤ 5) (k18 : (-1) ≤ x18 ∧ x18 ≤ 5) (d0 : x17 + (-3) ≤ x18 ∧ x18 ≤ x17 + 0) (d1 : x3 + (-4) ≤ x18 ∧ x18 ≤ x3 + (-1)) (d2 : x1 + (-4294967296) ≤ x18 ∧ x18 ≤ x1 + (-1)) (d3 : x3 + (-1) ≤ x17 ∧ x17 ≤ x3 + (-1)) (d4 : x1 + (-4294967296) ≤ x17 ∧ x17 ≤ x1 + (-1)) (d5 : x6 + 1 ≤ x15 ∧ x15 ≤ x6 + 4) (d6 : x14 + 0 ≤ x15 ∧ x15 ≤ x14 + 3) (d7 : x4 + 1 ≤ x15 ∧ x15 ≤ x4 + 4) (d8 : x1 + (-4294967296) ≤ x15 ∧ x15 ≤ x1 + 2) (d9 : x3 + (-4294967296) ≤ x15 ∧ x15 ≤ x3 + 2) (d10 : x4 + 1 ≤ x14 ∧ x14 ≤ x4 + 1) (d11 : x1 + (-4294967296) ≤ x14 ∧ x14 ≤ x1 + (-1)) (d12 : x3 + (-4294967296) ≤ x14 ∧ x14 ≤ x3 + (-1)) (d13 : x12 + (-4294967296) ≤ x9 ∧ x9 ≤ x12 + (-1)) (d14 : x11 + (-4) ≤ x12 ∧ x12 ≤ x11 + 0) (d15 : x3 + (-5) ≤ x12 ∧ x12 ≤ x3 + (-1)) (d16 : x1 + (-4294967296) ≤ x12 ∧ x12 ≤ x1 + (-1)) (d17 : x3 + (-1) ≤ x11 ∧ x11 ≤ x3 + (-1)) (d18 : x1 + (-4294967296) ≤ x11 ∧ x11 ≤ x1 + (-1)) (d19 : x6 + 1 ≤ x9 ∧ x9 ≤ x6 + 5) (d20 : x8 + 0 ≤ x9 ∧ x9 ≤ x8 + 4) (d21 : x4 + 1 ≤ x9 ∧ x9 ≤ x4 + 5) (d22 : x4 + 1 ≤ x8 ∧ x8 ≤ x4 + 1) (d23 : x1 + (-4294967296) ≤ x8 ∧ x8 ≤ x1 + (-1)) (d24 : x3 + (-4294967296) ≤ x8 ∧ x8 ≤ x3 + (-1)) (d25 : x3 + (-4294967296) ≤ x1 ∧ x1 ≤ x3 + 0) (d26 : x1 + (-4294967296) ≤ x3 ∧ x3 ≤ x1 + 0) (d27 : x1 + (-4294967296) ≤ x4 ∧ x4 ≤ x1 + (-2)) (d28 : x3 + (-4294967296) ≤ x4 ∧ x4 ≤ x3 + (-2)) (f0 : x18 = x17 - x6) (f1 : x17 = x1 - x16) (f2 : x15 = x14 + x6) (f3 : x14 = x4 + x13) (f4 : x9 < x12) (f5 : x12 = x11 - x6) (f6 : x11 = x1 - x10) (f7 : x9 = x8 + x6) (f8 : x8 = x4 + x7) (f9 : DGS (a0_0) (x1)) (hK_0_999 : ∀ j : Int, 0 ≤ j → j < 6 → 0 ≤ a0_0 j ∧ a0_0 j ≤ 7) (ex2 : gx = x1) (ex3 : 1 ≤ gx ∧ gx ≤ 6) : (0 ≤ x15) ∧ ((x15 + 1) ≤ gx) := by
  first
    | omega
  
set_option maxHeartbeats 4000000 in
theorem vc_La_nextOrder_9_4 (x1 : Int) (x3 : Int) (x4 : Int) (x6 : Int) (x7 : Int) (x8 : Int) (x9 : Int) (x10 : Int) (x11 : Int) (x12 : Int) (x13 : Int) (x14 : Int) (x15 : Int) (x16 : Int) (x17 : Int) (x18 : Int) (a0_0 : Int → Int) (gx : Int) (k1 : 3 ≤ x1 ∧ x1 ≤ 6) (k3 : 3 ≤ x3 ∧ x3 ≤ 6) (k4 : 0 ≤ x4 ∧ x4 ≤ 3) (k6 : 0 ≤ x6 ∧ x6 ≤ 3) (k7 : 1 ≤ x7 ∧ x7 ≤ 1) (k8 : 1 ≤ x8 ∧ x8 ≤ 4) (k9 : 1 ≤ x9 ∧ x9 ≤ 4) (k10 : 1 ≤ x10 ∧ x10 ≤ 1) (k11 : 2 ≤ x11 ∧ x11 ≤ 5) (k12 : 2 ≤ x12 ∧ x12 ≤ 5) (k13 : 1 ≤ x13 ∧ x13 ≤ 1) (k14 : 1 ≤ x14 ∧ x14 ≤ 4) (k15 : 1 ≤ x15 ∧ x15 ≤ 7) (k16 : 1 ≤ x16 ∧ x16 ≤ 1) (k17 : 2 ≤ x17 ∧ x17 ≤ 5) (k18 : (-1) ≤ x18 ∧ x18 ≤ 5) (d0 : x17 + (-3) ≤ x18 ∧ x18 ≤ x17 + 0) (d1 : x3 + (-4) ≤ x18 ∧ x18 ≤ x3 + (-1)) (d2 : x1 + (-4294967296) ≤ x18 ∧ x18 ≤ x1 + (-1)) (d3 : x3 + (-1) ≤ x17 ∧ x17 ≤ x3 + (-1)) (d4 : x1 + (-4294967296) ≤ x17 ∧ x17 ≤ x1 + (-1)) (d5 : x6 + 1 ≤ x15 ∧ x15 ≤ x6 + 4) (d6 : x14 + 0 ≤ x15 ∧ x15 ≤ x14 + 3) (d7 : x4 + 1 ≤ x15 ∧ x15 ≤ x4 + 4) (d8 : x1 + (-4294967296) ≤ x15 ∧ x15 ≤ x1 + 2) (d9 : x3 + (-4294967296) ≤ x15 ∧ x15 ≤ x3 + 2) (d10 : x4 + 1 ≤ x14 ∧ x14 ≤ x4 + 1) (d11 : x1 + (-4294967296) ≤ x14 ∧ x14 ≤ x1 + (-1)) (d12 : x3 + (-4294967296) ≤ x14 ∧ x14 ≤ x3 + (-1)) (d13 : x12 + (-4294967296) ≤ x9 ∧ x9 ≤ x12 + (-1)) (d14 : x11 + (-4) ≤ x12 ∧ x12 ≤ x11 + 0) (d15 : x3 + (-5) ≤ x12 ∧ x12 ≤ x3 + (-1)) (d16 : x1 + (-4294967296) ≤ x12 ∧ x12 ≤ x1 + (-1)) (d17 : x3 + (-1) ≤ x11 ∧ x11 ≤ x3 + (-1)) (d18 : x1 + (-4294967296) ≤ x11 ∧ x11 ≤ x1 + (-1)) (d19 : x6 + 1 ≤ x9 ∧ x9 ≤ x6 + 5) (d20 : x8 + 0 ≤ x9 ∧ x9 ≤ x8 + 4) (d21 : x4 + 1 ≤ x9 ∧ x9 ≤ x4 + 5) (d22 : x4 + 1 ≤ x8 ∧ x8 ≤ x4 + 1) (d23 : x1 + (-4294967296) ≤ x8 ∧ x8 ≤ x1 + (-1)) (d24 : x3 + (-4294967296) ≤ x8 ∧ x8 ≤ x3 + (-1)) (d25 : x3 + (-4294967296) ≤ x1 ∧ x1 ≤ x3 + 0) (d26 : x1 + (-4294967296) ≤ x3 ∧ x3 ≤ x1 + 0) (d27 : x1 + (-4294967296) ≤ x4 ∧ x4 ≤ x1 + (-2)) (d28 : x3 + (-4294967296) ≤ x4 ∧ x4 ≤ x3 + (-2)) (f0 : x18 = x17 - x6) (f1 : x17 = x1 - x16) (f2 : x15 = x14 + x6) (f3 : x14 = x4 + x13) (f4 : x9 < x12) (f5 : x12 = x11 - x6) (f6 : x11 = x1 - x10) (f7 : x9 = x8 + x6) (f8 : x8 = x4 + x7) (f9 : DGS (a0_0) (x1)) (hK_0_999 : ∀ j : Int, 0 ≤ j → j < 6 → 0 ≤ a0_0 j ∧ a0_0 j ≤ 7) (ex2 : gx = x1) (ex3 : 1 ≤ gx ∧ gx ≤ 6) : (0 ≤ x18) ∧ ((x18 + 1) ≤ gx) := by
  first
    | omega
  
def o_La_nextOrder_9 : or_T := (91, 19, [(0, (2, 0, 0, [298])), (1, (0, 3, 6, [])), (2, (2, 0, 0, [298])), (3, (0, 3, 6, [])), (4, (0, 0, 3, [])), (6, (0, 0, 3, [])), (7, (0, 1, 1, [])), (8, (0, 1, 4, [])), (9, (0, 1, 4, [])), (10, (0, 1, 1, [])), (11, (0, 2, 5, [])), (12, (0, 2, 5, [])), (13, (0, 1, 1, [])), (14, (0, 1, 4, [])), (15, (0, 1, 7, [])), (16, (0, 1, 1, [])), (17, (0, 2, 5, [])), (18, (0, -1, 5, []))], [(2, [18, 17, 6], []), (2, [17, 3, 16], []), (1, [15, 14, 6], []), (1, [14, 4, 13], []), (7, [9, 12], [2]), (2, [12, 11, 6], []), (2, [11, 3, 10], []), (1, [9, 8, 6], []), (1, [8, 4, 7], []), (20, [2, 3], [61, 1, 735]), (24, [0, 2], []), (24, [1, 3], [])], [(18, (0, 0, 5, [])), (15, (0, 1, 5, []))], [(0, 1, 6, [])], [(23, [19, 3], [0, 1, -1]), (23, [19, 3], [0, -1, 1]), (20, [2, 19], [61, 1, 735]), (20, [15, 19], [50, 0, 0, 2, 6, 0, 2, 0, 0, 1, 0, 0, 6, 4, 2, 1, 0, 0, 1, 1, 1]), (20, [18, 19], [50, 0, 0, 2, 6, 0, 2, 0, 0, 1, 0, 0, 6, 4, 2, 1, 0, 0, 1, 1, 1])], [], [(18, 17, -3, 0), (18, 3, -4, -1), (18, 1, -4294967296, -1), (17, 3, -1, -1), (17, 1, -4294967296, -1), (15, 6, 1, 4), (15, 14, 0, 3), (15, 4, 1, 4), (15, 1, -4294967296, 2), (15, 3, -4294967296, 2), (14, 4, 1, 1), (14, 1, -4294967296, -1), (14, 3, -4294967296, -1), (9, 12, -4294967296, -1), (12, 11, -4, 0), (12, 3, -5, -1), (12, 1, -4294967296, -1), (11, 3, -1, -1), (11, 1, -4294967296, -1), (9, 6, 1, 5), (9, 8, 0, 4), (9, 4, 1, 5), (8, 4, 1, 1), (8, 1, -4294967296, -1), (8, 3, -4294967296, -1), (1, 3, -4294967296, 0), (3, 1, -4294967296, 0), (4, 1, -4294967296, -2), (4, 3, -4294967296, -2)])
theorem oo_La_nextOrder_9 {kA : Nat → ClassId} : or_ok PRD kA GG o_La_nextOrder_9 := by
  refine or_mk fun A ta ws vs hD hth hl => ?_
  intro t0 r0 t1 k1 t2 r2 t3 k3 t4 k4 t6 k6 t7 k7 t8 k8 t9 k9 t10 k10 t11 k11 t12 k12 t13 k13 t14 k14 t15 k15 t16 k16 t17 k17 t18 k18 d0 d1 d2 d3 d4 d5 d6 d7 d8 d9 d10 d11 d12 d13 d14 d15 d16 d17 d18 d19 d20 d21 d22 d23 d24 d25 d26 d27 d28 f0 f1 f2 f3 f4 f5 f6 f7 f8 f9 f10 f11
  replace f0 := shm_14 f0
  replace f1 := shm_14 f1
  replace f2 := shm_12 f2
  replace f3 := shm_12 f3
  replace f4 := shm_6 f4
  replace f5 := shm_14 f5
  replace f6 := shm_14 f6
  replace f7 := shm_12 f7
  replace f8 := shm_12 f8
  replace f9 := shm_401 f9
  replace f10 := shm_5 f10
  replace f11 := shm_5 f11
  have q2 : n_v vs 2 = n_v vs 0 := f10.symm
  have q3 : n_v vs 3 = n_v vs 1 := f11.symm
  simp only [q3, q2] at f1 f6 f9
  have cr_0_999 : ta (v_ad (n_v vs 0)) = some 298 := r0
  have hK_0_999 := elq_40 hD hth cr_0_999
  obtain ⟨x, ex, hx⟩ := iv_ex (ta := ta) (lo := 1) (hi := 6) (z := v_iv (n_v vs 1)) (by omega) (by omega) (by omega) (by omega)
  have ex2 : v_iv (Value.int x) = v_iv (n_v vs 1) := ex
  have ex3 : 1 ≤ v_iv (Value.int x) ∧ v_iv (Value.int x) ≤ 6 := tv_rng hx
  have hrf0 : 0 ≤ v_iv (n_v vs 18) ∧ v_iv (n_v vs 18) ≤ 5 := vc_La_nextOrder_9_r0 (v_iv (n_v vs 1)) (v_iv (n_v vs 3)) (v_iv (n_v vs 4)) (v_iv (n_v vs 6)) (v_iv (n_v vs 7)) (v_iv (n_v vs 8)) (v_iv (n_v vs 9)) (v_iv (n_v vs 10)) (v_iv (n_v vs 11)) (v_iv (n_v vs 12)) (v_iv (n_v vs 13)) (v_iv (n_v vs 14)) (v_iv (n_v vs 15)) (v_iv (n_v vs 16)) (v_iv (n_v vs 17)) (v_iv (n_v vs 18)) (w_ei ws (v_ad (n_v vs 0))) (v_iv (Value.int x)) k1 k3 k4 k6 k7 k8 k9 k10 k11 k12 k13 k14 k15 k16 k17 k18 d0 d1 d2 d3 d4 d5 d6 d7 d8 d9 d10 d11 d12 d13 d14 d15 d16 d17 d18 d19 d20 d21 d22 d23 d24 d25 d26 d27 d28 f0 f1 f2 f3 f4 f5 f6 f7 f8 f9 hK_0_999 ex2 ex3
  have hrf1 : 1 ≤ v_iv (n_v vs 15) ∧ v_iv (n_v vs 15) ≤ 5 := vc_La_nextOrder_9_r1 (v_iv (n_v vs 1)) (v_iv (n_v vs 3)) (v_iv (n_v vs 4)) (v_iv (n_v vs 6)) (v_iv (n_v vs 7)) (v_iv (n_v vs 8)) (v_iv (n_v vs 9)) (v_iv (n_v vs 10)) (v_iv (n_v vs 11)) (v_iv (n_v vs 12)) (v_iv (n_v vs 13)) (v_iv (n_v vs 14)) (v_iv (n_v vs 15)) (v_iv (n_v vs 16)) (v_iv (n_v vs 17)) (v_iv (n_v vs 18)) (w_ei ws (v_ad (n_v vs 0))) (v_iv (Value.int x)) k1 k3 k4 k6 k7 k8 k9 k10 k11 k12 k13 k14 k15 k16 k17 k18 d0 d1 d2 d3 d4 d5 d6 d7 d8 d9 d10 d11 d12 d13 d14 d15 d16 d17 d18 d19 d20 d21 d22 d23 d24 d25 d26 d27 d28 f0 f1 f2 f3 f4 f5 f6 f7 f8 f9 hK_0_999 ex2 ex3
  have e_2 : n_v (vs ++ [Value.int x]) 2 = n_v vs 2 := n_v_old (by rw [hl]; decide)
  have e_3 : n_v (vs ++ [Value.int x]) 3 = n_v vs 3 := n_v_old (by rw [hl]; decide)
  have e_15 : n_v (vs ++ [Value.int x]) 15 = n_v vs 15 := n_v_old (by rw [hl]; decide)
  have e_18 : n_v (vs ++ [Value.int x]) 18 = n_v vs 18 := n_v_old (by rw [hl]; decide)
  have e_19 : n_v (vs ++ [Value.int x]) 19 = Value.int x := n_v_new hl
  have nf0 : fc_1 PRD (23, [19, 3], [0, 1, -1]) ws (vs ++ [Value.int x]) := by
    refine ⟨nf_inA hl rfl, sgq_7 ?_⟩
    · show 1 * v_iv (n_v (vs ++ [Value.int x]) 19) + ((-1) * v_iv (n_v (vs ++ [Value.int x]) 3) + 0) ≤ 0
      simp only [e_3, e_19, q3]
      exact vc_La_nextOrder_9_0 (v_iv (n_v vs 1)) (v_iv (n_v vs 3)) (v_iv (n_v vs 4)) (v_iv (n_v vs 6)) (v_iv (n_v vs 7)) (v_iv (n_v vs 8)) (v_iv (n_v vs 9)) (v_iv (n_v vs 10)) (v_iv (n_v vs 11)) (v_iv (n_v vs 12)) (v_iv (n_v vs 13)) (v_iv (n_v vs 14)) (v_iv (n_v vs 15)) (v_iv (n_v vs 16)) (v_iv (n_v vs 17)) (v_iv (n_v vs 18)) (w_ei ws (v_ad (n_v vs 0))) (v_iv (Value.int x)) k1 k3 k4 k6 k7 k8 k9 k10 k11 k12 k13 k14 k15 k16 k17 k18 d0 d1 d2 d3 d4 d5 d6 d7 d8 d9 d10 d11 d12 d13 d14 d15 d16 d17 d18 d19 d20 d21 d22 d23 d24 d25 d26 d27 d28 f0 f1 f2 f3 f4 f5 f6 f7 f8 f9 hK_0_999 ex2 ex3
  have nf1 : fc_1 PRD (23, [19, 3], [0, -1, 1]) ws (vs ++ [Value.int x]) := by
    refine ⟨nf_inA hl rfl, sgq_22 ?_⟩
    · show (-1) * v_iv (n_v (vs ++ [Value.int x]) 19) + (1 * v_iv (n_v (vs ++ [Value.int x]) 3) + 0) ≤ 0
      simp only [e_3, e_19, q3]
      exact vc_La_nextOrder_9_1 (v_iv (n_v vs 1)) (v_iv (n_v vs 3)) (v_iv (n_v vs 4)) (v_iv (n_v vs 6)) (v_iv (n_v vs 7)) (v_iv (n_v vs 8)) (v_iv (n_v vs 9)) (v_iv (n_v vs 10)) (v_iv (n_v vs 11)) (v_iv (n_v vs 12)) (v_iv (n_v vs 13)) (v_iv (n_v vs 14)) (v_iv (n_v vs 15)) (v_iv (n_v vs 16)) (v_iv (n_v vs 17)) (v_iv (n_v vs 18)) (w_ei ws (v_ad (n_v vs 0))) (v_iv (Value.int x)) k1 k3 k4 k6 k7 k8 k9 k10 k11 k12 k13 k14 k15 k16 k17 k18 d0 d1 d2 d3 d4 d5 d6 d7 d8 d9 d10 d11 d12 d13 d14 d15 d16 d17 d18 d19 d20 d21 d22 d23 d24 d25 d26 d27 d28 f0 f1 f2 f3 f4 f5 f6 f7 f8 f9 hK_0_999 ex2 ex3
  have nf2 : fc_1 PRD (20, [2, 19], [61, 1, 735]) ws (vs ++ [Value.int x]) := by
    refine ⟨nf_inA hl rfl, sgq_401 ?_⟩
    · show DGS (w_ei ws (v_ad (n_v (vs ++ [Value.int x]) 2))) (v_iv (n_v (vs ++ [Value.int x]) 19))
      simp only [e_2, e_19, q2]
      exact vc_La_nextOrder_9_2 (v_iv (n_v vs 1)) (v_iv (n_v vs 3)) (v_iv (n_v vs 4)) (v_iv (n_v vs 6)) (v_iv (n_v vs 7)) (v_iv (n_v vs 8)) (v_iv (n_v vs 9)) (v_iv (n_v vs 10)) (v_iv (n_v vs 11)) (v_iv (n_v vs 12)) (v_iv (n_v vs 13)) (v_iv (n_v vs 14)) (v_iv (n_v vs 15)) (v_iv (n_v vs 16)) (v_iv (n_v vs 17)) (v_iv (n_v vs 18)) (w_ei ws (v_ad (n_v vs 0))) (v_iv (Value.int x)) k1 k3 k4 k6 k7 k8 k9 k10 k11 k12 k13 k14 k15 k16 k17 k18 d0 d1 d2 d3 d4 d5 d6 d7 d8 d9 d10 d11 d12 d13 d14 d15 d16 d17 d18 d19 d20 d21 d22 d23 d24 d25 d26 d27 d28 f0 f1 f2 f3 f4 f5 f6 f7 f8 f9 hK_0_999 ex2 ex3
  have nf3 : fc_1 PRD (20, [15, 19], [50, 0, 0, 2, 6, 0, 2, 0, 0, 1, 0, 0, 6, 4, 2, 1, 0, 0, 1, 1, 1]) ws (vs ++ [Value.int x]) := by
    refine ⟨nf_inA hl rfl, sgq_400 ?_⟩
    · show (0 ≤ v_iv (n_v (vs ++ [Value.int x]) 15)) ∧ ((v_iv (n_v (vs ++ [Value.int x]) 15) + 1) ≤ v_iv (n_v (vs ++ [Value.int x]) 19))
      simp only [e_15, e_19]
      exact vc_La_nextOrder_9_3 (v_iv (n_v vs 1)) (v_iv (n_v vs 3)) (v_iv (n_v vs 4)) (v_iv (n_v vs 6)) (v_iv (n_v vs 7)) (v_iv (n_v vs 8)) (v_iv (n_v vs 9)) (v_iv (n_v vs 10)) (v_iv (n_v vs 11)) (v_iv (n_v vs 12)) (v_iv (n_v vs 13)) (v_iv (n_v vs 14)) (v_iv (n_v vs 15)) (v_iv (n_v vs 16)) (v_iv (n_v vs 17)) (v_iv (n_v vs 18)) (w_ei ws (v_ad (n_v vs 0))) (v_iv (Value.int x)) k1 k3 k4 k6 k7 k8 k9 k10 k11 k12 k13 k14 k15 k16 k17 k18 d0 d1 d2 d3 d4 d5 d6 d7 d8 d9 d10 d11 d12 d13 d14 d15 d16 d17 d18 d19 d20 d21 d22 d23 d24 d25 d26 d27 d28 f0 f1 f2 f3 f4 f5 f6 f7 f8 f9 hK_0_999 ex2 ex3
  have nf4 : fc_1 PRD (20, [18, 19], [50, 0, 0, 2, 6, 0, 2, 0, 0, 1, 0, 0, 6, 4, 2, 1, 0, 0, 1, 1, 1]) ws (vs ++ [Value.int x]) := by
    refine ⟨nf_inA hl rfl, sgq_400 ?_⟩
    · show (0 ≤ v_iv (n_v (vs ++ [Value.int x]) 18)) ∧ ((v_iv (n_v (vs ++ [Value.int x]) 18) + 1) ≤ v_iv (n_v (vs ++ [Value.int x]) 19))
      simp only [e_18, e_19]
      exact vc_La_nextOrder_9_4 (v_iv (n_v vs 1)) (v_iv (n_v vs 3)) (v_iv (n_v vs 4)) (v_iv (n_v vs 6)) (v_iv (n_v vs 7)) (v_iv (n_v vs 8)) (v_iv (n_v vs 9)) (v_iv (n_v vs 10)) (v_iv (n_v vs 11)) (v_iv (n_v vs 12)) (v_iv (n_v vs 13)) (v_iv (n_v vs 14)) (v_iv (n_v vs 15)) (v_iv (n_v vs 16)) (v_iv (n_v vs 17)) (v_iv (n_v vs 18)) (w_ei ws (v_ad (n_v vs 0))) (v_iv (Value.int x)) k1 k3 k4 k6 k7 k8 k9 k10 k11 k12 k13 k14 k15 k16 k17 k18 d0 d1 d2 d3 d4 d5 d6 d7 d8 d9 d10 d11 d12 d13 d14 d15 d16 d17 d18 d19 d20 d21 d22 d23 d24 d25 d26 d27 d28 f0 f1 f2 f3 f4 f5 f6 f7 f8 f9 hK_0_999 ex2 ex3
  have rf18 : tv_ok ta (0, 0, 5, []) (n_v vs 18) := tv_in t18 (by first | omega | grind) (by first | omega | grind)
  have rf15 : tv_ok ta (0, 1, 5, []) (n_v vs 15) := tv_in t15 (by first | omega | grind) (by first | omega | grind)
  exact ⟨List.forall_mem_cons.mpr ⟨rf18, List.forall_mem_cons.mpr ⟨rf15, (fun _ h => (by cases h))⟩⟩, [Value.int x], ag_one hx, List.forall_mem_cons.mpr ⟨⟨show (23 : Nat) < 100 from by decide, nf0⟩, List.forall_mem_cons.mpr ⟨⟨show (23 : Nat) < 100 from by decide, nf1⟩, List.forall_mem_cons.mpr ⟨⟨show (20 : Nat) < 100 from by decide, nf2⟩, List.forall_mem_cons.mpr ⟨⟨show (20 : Nat) < 100 from by decide, nf3⟩, List.forall_mem_cons.mpr ⟨⟨show (20 : Nat) < 100 from by decide, nf4⟩, (fun _ h => (by cases h))⟩⟩⟩⟩⟩, (fun _ h => (by cases h))⟩
