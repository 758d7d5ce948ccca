set_option maxHeartbeats 4000000 in
theorem vc_Fa_nearOf_at_Grnear_0_0 (x1 : Int) (x2 : Int) (x3 : Int) (x4 : Int) (a0_0 : Int → Int) (k1 : 1 ≤ x1 ∧ x1 ≤ 24) (k2 : 0 ≤ x2 ∧ x2 ≤ 16777215) (k3 : 0 ≤ x3 ∧ x3 ≤ 0) (k4 : 0 ≤ x4 ∧ x4 ≤ 0) (hK_0_999 : ∀ j : Int, 0 ≤ j → j < 24 → 0 ≤ a0_0 j ∧ a0_0 j ≤ 16777215) : NEI (a0_0) (x4) (x2) (x3) := by
  first
    | exact nei_start (by omega) (by omega)
    | exact nei_skip ‹NEI _ _ _ _› (fun z => by have := (bit_one (by assumption) (by assumption) (by omega) (by omega) (by omega) (by omega)).mp z; omega) (by omega)
    | exact nei_step ‹NEI _ _ _ _› (by omega) ((bit_one (by assumption) (by assumption) (by omega) (by omega) (by omega) (by omega)).mpr (by omega)) (by assumption) (by assumption) (by omega)
  
set_option maxHeartbeats 4000000 in
theorem vc_Fa_nearOf_at_Grnear_0_1 (x1 : Int) (x2 : Int) (x3 : Int) (x4 : Int) (a0_0 : Int → Int) (k1 : 1 ≤ x1 ∧ x1 ≤ 24) (k2 : 0 ≤ x2 ∧ x2 ≤ 16777215) (k3 : 0 ≤ x3 ∧ x3 ≤ 0) (k4 : 0 ≤ x4 ∧ x4 ≤ 0) (hK_0_999 : ∀ j : Int, 0 ≤ j → j < 24 → 0 ≤ a0_0 j ∧ a0_0 j ≤ 16777215) : 1 * x4 + ((-1) * x1 + 0) ≤ 0 := by
  first | omega
def o_Fa_nearOf_at_Grnear_0 : or_T := (5, 5, [(0, (2, 0, 0, [59])), (1, (0, 1, 24, [])), (2, (0, 0, 16777215, [])), (3, (0, 0, 0, [])), (4, (0, 0, 0, []))], [], [], [], [(20, [0, 4, 2, 3], [61, 1, 556]), (23, [4, 1], [0, 1, -1]), (24, [0, 0], []), (24, [1, 1], []), (24, [2, 2], [])], [], [])
theorem oo_Fa_nearOf_at_Grnear_0 {kA : Nat → ClassId} : or_ok PRD kA GG o_Fa_nearOf_at_Grnear_0 := by
  refine or_mk fun A ta ws vs hD hth hl => ?_
  intro t0 r0 t1 k1 t2 k2 t3 k3 t4 k4
  have cr_0_999 : ta (v_ad (n_v vs 0)) = some 59 := r0
  have hK_0_999 := elq_24 hD hth cr_0_999
  have nf0 : fc_1 PRD (20, [0, 4, 2, 3], [61, 1, 556]) ws (vs) := ⟨nf_in hl rfl, sgq_380 (vc_Fa_nearOf_at_Grnear_0_0 (v_iv (n_v vs 1)) (v_iv (n_v vs 2)) (v_iv (n_v vs 3)) (v_iv (n_v vs 4)) (w_ei ws (v_ad (n_v vs 0))) k1 k2 k3 k4 hK_0_999)⟩
  have nf1 : fc_1 PRD (23, [4, 1], [0, 1, -1]) ws (vs) := ⟨nf_in hl rfl, sgq_7 (vc_Fa_nearOf_at_Grnear_0_1 (v_iv (n_v vs 1)) (v_iv (n_v vs 2)) (v_iv (n_v vs 3)) (v_iv (n_v vs 4)) (w_ei ws (v_ad (n_v vs 0))) k1 k2 k3 k4 hK_0_999)⟩
  have nf2 : fc_1 PRD (24, [0, 0], []) ws (vs) := by
    refine ⟨nf_in hl rfl, sgq_1 ?_⟩
    · show n_v vs 0 = n_v vs 0
      first | rfl | simp only [true_and]
  have nf3 : fc_1 PRD (24, [1, 1], []) ws (vs) := by
    refine ⟨nf_in hl rfl, sgq_1 ?_⟩
    · show n_v vs 1 = n_v vs 1
      first | rfl | simp only [true_and]
  have nf4 : fc_1 PRD (24, [2, 2], []) ws (vs) := by
    refine ⟨nf_in hl rfl, sgq_1 ?_⟩
    · show n_v vs 2 = n_v vs 2
      first | rfl | simp only [true_and]
  refine ⟨(fun _ h => (by cases h)), [], trivial, ?_, (fun _ h => (by cases h))⟩
  rw [List.append_nil]
  exact List.forall_mem_cons.mpr ⟨⟨show (20 : Nat) < 100 from by decide, nf0⟩, List.forall_mem_cons.mpr ⟨⟨show (23 : Nat) < 100 from by decide, nf1⟩, List.forall_mem_cons.mpr ⟨⟨show (24 : Nat) < 100 from by decide, nf2⟩, List.forall_mem_cons.mpr ⟨⟨show (24 : Nat) < 100 from by decide, nf3⟩, List.forall_mem_cons.mpr ⟨⟨show (24 : Nat) < 100 from by decide, nf4⟩, (fun _ h => (by cases h))⟩⟩⟩⟩⟩
set_option maxHeartbeats 4000000 in
theorem vc_Fa_nearOf_at_Grnear_1_0 (x1 : Int) (x2 : Int) (x4 : Int) (x5 : Int) (x6 : Int) (x7 : Int) (a0_0 : Int → Int) (k1 : 1 ≤ x1 ∧ x1 ≤ 24) (k2 : 0 ≤ x2 ∧ x2 ≤ 16777215) (k4 : 1 ≤ x4 ∧ x4 ≤ 24) (k5 : 0 ≤ x5 ∧ x5 ≤ 16777215) (k6 : 0 ≤ x6 ∧ x6 ≤ 16777215) (k7 : 1 ≤ x7 ∧ x7 ≤ 24) (d0 : x4 + 0 ≤ x7 ∧ x7 ≤ x4 + 4294967296) (d1 : x4 + (-4294967296) ≤ x1 ∧ x1 ≤ x4 + 0) (d2 : x5 + (-4294967296) ≤ x2 ∧ x2 ≤ x5 + 0) (d3 : x1 + (-4294967296) ≤ x4 ∧ x4 ≤ x1 + 0) (d4 : x2 + (-4294967296) ≤ x5 ∧ x5 ≤ x2 + 0) (d5 : x1 + (-4294967296) ≤ x7 ∧ x7 ≤ x1 + 0) (d6 : x4 + (-4294967296) ≤ x7 ∧ x7 ≤ x4 + 0) (f0 : x1 ≤ x7) (f1 : NEI (a0_0) (x7) (x2) (x6)) (f2 : 1 * x7 + ((-1) * x1 + 0) ≤ 0) (hK_0_999 : ∀ j : Int, 0 ≤ j → j < 24 → 0 ≤ a0_0 j ∧ a0_0 j ≤ 16777215) : NEF (a0_0) (x1) (x2) (x6) := by
  first
    | (rw [show x1 = x7 by omega]; assumption)
  
def o_Fa_nearOf_at_Grnear_1 : or_T := (34, 8, [(0, (2, 0, 0, [59])), (1, (0, 1, 24, [])), (2, (0, 0, 16777215, [])), (4, (0, 1, 24, [])), (5, (0, 0, 16777215, [])), (6, (0, 0, 16777215, [])), (7, (0, 1, 24, []))], [(7, [7, 4], [3]), (20, [3, 7, 5, 6], [61, 1, 556]), (23, [7, 4], [0, 1, -1]), (24, [0, 3], []), (24, [1, 4], []), (24, [2, 5], [])], [], [], [(20, [0, 1, 2, 6], [61, 1, 557])], [], [(7, 4, 0, 4294967296), (1, 4, -4294967296, 0), (2, 5, -4294967296, 0), (4, 1, -4294967296, 0), (5, 2, -4294967296, 0), (7, 1, -4294967296, 0), (7, 4, -4294967296, 0)])
theorem oo_Fa_nearOf_at_Grnear_1 {kA : Nat → ClassId} : or_ok PRD kA GG o_Fa_nearOf_at_Grnear_1 := by
  refine or_mk fun A ta ws vs hD hth hl => ?_
  intro t0 r0 t1 k1 t2 k2 t4 k4 t5 k5 t6 k6 t7 k7 d0 d1 d2 d3 d4 d5 d6 f0 f1 f2 f3 f4 f5
  replace f0 := shm_2 f0
  replace f1 := shm_380 f1
  replace f2 := shm_7 f2
  replace f3 := shm_5 f3
  replace f4 := shm_5 f4
  replace f5 := shm_5 f5
  have q3 : n_v vs 3 = n_v vs 0 := f3.symm
  have q4 : n_v vs 4 = n_v vs 1 := f4.symm
  have q5 : n_v vs 5 = n_v vs 2 := f5.symm
  simp only [q4, q3, q5] at f0 f1 f2
  have cr_0_999 : ta (v_ad (n_v vs 0)) = some 59 := r0
  have hK_0_999 := elq_24 hD hth cr_0_999
  have nf0 : fc_1 PRD (20, [0, 1, 2, 6], [61, 1, 557]) ws (vs) := ⟨nf_in hl rfl, sgq_381 (vc_Fa_nearOf_at_Grnear_1_0 (v_iv (n_v vs 1)) (v_iv (n_v vs 2)) (v_iv (n_v vs 4)) (v_iv (n_v vs 5)) (v_iv (n_v vs 6)) (v_iv (n_v vs 7)) (w_ei ws (v_ad (n_v vs 0))) k1 k2 k4 k5 k6 k7 d0 d1 d2 d3 d4 d5 d6 f0 f1 f2 hK_0_999)⟩
  refine ⟨(fun _ h => (by cases h)), [], trivial, ?_, (fun _ h => (by cases h))⟩
  rw [List.append_nil]
  exact List.forall_mem_cons.mpr ⟨⟨show (20 : Nat) < 100 from by decide, nf0⟩, (fun _ h => (by cases h))⟩
set_option maxHeartbeats 4000000 in
theorem vc_Fa_nearOf_at_Grnear_2_0 (x1 : Int) (x2 : Int) (x4 : Int) (x5 : Int) (x6 : Int) (x7 : Int) (x8 : Int) (x9 : Int) (x10 : Int) (x11 : Int) (a0_0 : Int → Int) (k1 : 1 ≤ x1 ∧ x1 ≤ 24) (k2 : 0 ≤ x2 ∧ x2 ≤ 16777215) (k4 : 1 ≤ x4 ∧ x4 ≤ 24) (k5 : 0 ≤ x5 ∧ x5 ≤ 16777215) (k6 : 0 ≤ x6 ∧ x6 ≤ 16777215) (k7 : 0 ≤ x7 ∧ x7 ≤ 23) (k8 : 0 ≤ x8 ∧ x8 ≤ 16777215) (k9 : 1 ≤ x9 ∧ x9 ≤ 1) (k10 : 0 ≤ x10 ∧ x10 ≤ 0) (k11 : 1 ≤ x11 ∧ x11 ≤ 24) (d0 : x7 + 1 ≤ x11 ∧ x11 ≤ x7 + 1) (d1 : x4 + (-4294967296) ≤ x11 ∧ x11 ≤ x4 + 0) (d2 : x1 + (-4294967296) ≤ x11 ∧ x11 ≤ x1 + 1) (d3 : x4 + (-4294967296) ≤ x11 ∧ x11 ≤ x4 + 1) (d4 : x4 + (-4294967296) ≤ x7 ∧ x7 ≤ x4 + (-1)) (d5 : x4 + (-4294967296) ≤ x1 ∧ x1 ≤ x4 + 0) (d6 : x5 + (-4294967296) ≤ x2 ∧ x2 ≤ x5 + 0) (d7 : x1 + (-4294967296) ≤ x4 ∧ x4 ≤ x1 + 0) (d8 : x2 + (-4294967296) ≤ x5 ∧ x5 ≤ x2 + 0) (d9 : x7 + (-4294967296) ≤ x6 ∧ x6 ≤ x7 + 16777214) (d10 : x1 + (-4294967296) ≤ x7 ∧ x7 ≤ x1 + 0) (d11 : x4 + (-4294967296) ≤ x7 ∧ x7 ≤ x4 + 0) (f0 : x11 = x7 + 1) (f1 : x10 = 0) (f2 : x10 = x8 % 2) (f3 : bvp (x10) = bvp (x8) &&& bvp (x9)) (f4 : bvp (x8) = bvp (x2) >>> (x7).toNat) (f5 : x7 < x1) (f6 : NEI (a0_0) (x7) (x2) (x6)) (f7 : 1 * x7 + ((-1) * x1 + 0) ≤ 0) (hK_0_999 : ∀ j : Int, 0 ≤ j → j < 24 → 0 ≤ a0_0 j ∧ a0_0 j ≤ 16777215) : NEI (a0_0) (x11) (x2) (x6) := by
  first
    | exact nei_start (by omega) (by omega)
    | exact nei_skip ‹NEI _ _ _ _› (fun z => by have := (bit_one (by assumption) (by assumption) (by omega) (by omega) (by omega) (by omega)).mp z; omega) (by omega)
    | exact nei_step ‹NEI _ _ _ _› (by omega) ((bit_one (by assumption) (by assumption) (by omega) (by omega) (by omega) (by omega)).mpr (by omega)) (by assumption) (by assumption) (by omega)
  
set_option maxHeartbeats 4000000 in
theorem vc_Fa_nearOf_at_Grnear_2_1 (x1 : Int) (x2 : Int) (x4 : Int) (x5 : Int) (x6 : Int) (x7 : Int) (x8 : Int) (x9 : Int) (x10 : Int) (x11 : Int) (a0_0 : Int → Int) (k1 : 1 ≤ x1 ∧ x1 ≤ 24) (k2 : 0 ≤ x2 ∧ x2 ≤ 16777215) (k4 : 1 ≤ x4 ∧ x4 ≤ 24) (k5 : 0 ≤ x5 ∧ x5 ≤ 16777215) (k6 : 0 ≤ x6 ∧ x6 ≤ 16777215) (k7 : 0 ≤ x7 ∧ x7 ≤ 23) (k8 : 0 ≤ x8 ∧ x8 ≤ 16777215) (k9 : 1 ≤ x9 ∧ x9 ≤ 1) (k10 : 0 ≤ x10 ∧ x10 ≤ 0) (k11 : 1 ≤ x11 ∧ x11 ≤ 24) (d0 : x7 + 1 ≤ x11 ∧ x11 ≤ x7 + 1) (d1 : x4 + (-4294967296) ≤ x11 ∧ x11 ≤ x4 + 0) (d2 : x1 + (-4294967296) ≤ x11 ∧ x11 ≤ x1 + 1) (d3 : x4 + (-4294967296) ≤ x11 ∧ x11 ≤ x4 + 1) (d4 : x4 + (-4294967296) ≤ x7 ∧ x7 ≤ x4 + (-1)) (d5 : x4 + (-4294967296) ≤ x1 ∧ x1 ≤ x4 + 0) (d6 : x5 + (-4294967296) ≤ x2 ∧ x2 ≤ x5 + 0) (d7 : x1 + (-4294967296) ≤ x4 ∧ x4 ≤ x1 + 0) (d8 : x2 + (-4294967296) ≤ x5 ∧ x5 ≤ x2 + 0) (d9 : x7 + (-4294967296) ≤ x6 ∧ x6 ≤ x7 + 16777214) (d10 : x1 + (-4294967296) ≤ x7 ∧ x7 ≤ x1 + 0) (d11 : x4 + (-4294967296) ≤ x7 ∧ x7 ≤ x4 + 0) (f0 : x11 = x7 + 1) (f1 : x10 = 0) (f2 : x10 = x8 % 2) (f3 : bvp (x10) = bvp (x8) &&& bvp (x9)) (f4 : bvp (x8) = bvp (x2) >>> (x7).toNat) (f5 : x7 < x1) (f6 : NEI (a0_0) (x7) (x2) (x6)) (f7 : 1 * x7 + ((-1) * x1 + 0) ≤ 0) (hK_0_999 : ∀ j : Int, 0 ≤ j → j < 24 → 0 ≤ a0_0 j ∧ a0_0 j ≤ 16777215) : 1 * x11 + ((-1) * x1 + 0) ≤ 0 := by
  first | omega
def o_Fa_nearOf_at_Grnear_2 : or_T := (5, 12, [(0, (2, 0, 0, [59])), (1, (0, 1, 24, [])), (2, (0, 0, 16777215, [])), (4, (0, 1, 24, [])), (5, (0, 0, 16777215, [])), (6, (0, 0, 16777215, [])), (7, (0, 0, 23, [])), (8, (0, 0, 16777215, [])), (9, (0, 1, 1, [])), (10, (0, 0, 0, [])), (11, (0, 1, 24, []))], [(6, [11, 7], [1]), (8, [10], [0]), (12, [10, 8], [2]), (16, [10, 8, 9], [0]), (16, [8, 5, 7], [4]), (7, [7, 4], [2]), (20, [3, 7, 5, 6], [61, 1, 556]), (23, [7, 4], [0, 1, -1]), (24, [0, 3], []), (24, [1, 4], []), (24, [2, 5], [])], [], [], [(20, [3, 11, 5, 6], [61, 1, 556]), (23, [11, 4], [0, 1, -1])], [], [(11, 7, 1, 1), (11, 4, -4294967296, 0), (11, 1, -4294967296, 1), (11, 4, -4294967296, 1), (7, 4, -4294967296, -1), (1, 4, -4294967296, 0), (2, 5, -4294967296, 0), (4, 1, -4294967296, 0), (5, 2, -4294967296, 0), (6, 7, -4294967296, 16777214), (7, 1, -4294967296, 0), (7, 4, -4294967296, 0)])
theorem oo_Fa_nearOf_at_Grnear_2 {kA : Nat → ClassId} : or_ok PRD kA GG o_Fa_nearOf_at_Grnear_2 := by
  refine or_mk fun A ta ws vs hD hth hl => ?_
  intro t0 r0 t1 k1 t2 k2 t4 k4 t5 k5 t6 k6 t7 k7 t8 k8 t9 k9 t10 k10 t11 k11 d0 d1 d2 d3 d4 d5 d6 d7 d8 d9 d10 d11 f0 f1 f2 f3 f4 f5 f6 f7 f8 f9 f10
  replace f0 := shm_4 f0
  replace f1 := shm_210 f1
  replace f2 := shm_382 f2
  replace f3 := shm_11 f3
  replace f4 := shm_13 f4
  replace f5 := shm_6 f5
  replace f6 := shm_380 f6
  replace f7 := shm_7 f7
  replace f8 := shm_5 f8
  replace f9 := shm_5 f9
  replace f10 := shm_5 f10
  have q3 : n_v vs 3 = n_v vs 0 := f8.symm
  have q4 : n_v vs 4 = n_v vs 1 := f9.symm
  have q5 : n_v vs 5 = n_v vs 2 := f10.symm
  simp only [q5, q4, q3] at f4 f5 f6 f7
  have cr_0_999 : ta (v_ad (n_v vs 0)) = some 59 := r0
  have hK_0_999 := elq_24 hD hth cr_0_999
  have nf0 : fc_1 PRD (20, [3, 11, 5, 6], [61, 1, 556]) ws (vs) := by
    refine ⟨nf_in hl rfl, sgq_380 ?_⟩
    · show NEI (w_ei ws (v_ad (n_v vs 3))) (v_iv (n_v vs 11)) (v_iv (n_v vs 5)) (v_iv (n_v vs 6))
      simp only [q3, q5]
      exact vc_Fa_nearOf_at_Grnear_2_0 (v_iv (n_v vs 1)) (v_iv (n_v vs 2)) (v_iv (n_v vs 4)) (v_iv (n_v vs 5)) (v_iv (n_v vs 6)) (v_iv (n_v vs 7)) (v_iv (n_v vs 8)) (v_iv (n_v vs 9)) (v_iv (n_v vs 10)) (v_iv (n_v vs 11)) (w_ei ws (v_ad (n_v vs 0))) k1 k2 k4 k5 k6 k7 k8 k9 k10 k11 d0 d1 d2 d3 d4 d5 d6 d7 d8 d9 d10 d11 f0 f1 f2 f3 f4 f5 f6 f7 hK_0_999
  have nf1 : fc_1 PRD (23, [11, 4], [0, 1, -1]) ws (vs) := by
    refine ⟨nf_in hl rfl, sgq_7 ?_⟩
    · show 1 * v_iv (n_v vs 11) + ((-1) * v_iv (n_v vs 4) + 0) ≤ 0
      rw [q4]
      exact vc_Fa_nearOf_at_Grnear_2_1 (v_iv (n_v vs 1)) (v_iv (n_v vs 2)) (v_iv (n_v vs 4)) (v_iv (n_v vs 5)) (v_iv (n_v vs 6)) (v_iv (n_v vs 7)) (v_iv (n_v vs 8)) (v_iv (n_v vs 9)) (v_iv (n_v vs 10)) (v_iv (n_v vs 11)) (w_ei ws (v_ad (n_v vs 0))) k1 k2 k4 k5 k6 k7 k8 k9 k10 k11 d0 d1 d2 d3 d4 d5 d6 d7 d8 d9 d10 d11 f0 f1 f2 f3 f4 f5 f6 f7 hK_0_999
  refine ⟨(fun _ h => (by cases h)), [], trivial, ?_, (fun _ h => (by cases h))⟩
  rw [List.append_nil]
  exact List.forall_mem_cons.mpr ⟨⟨show (20 : Nat) < 100 from by decide, nf0⟩, List.forall_mem_cons.mpr ⟨⟨show (23 : Nat) < 100 from by decide, nf1⟩, (fun _ h => (by cases h))⟩⟩
set_option maxHeartbeats 4000000 in
theorem vc_Fa_nearOf_at_Grnear_3_0 (x1 : Int) (x2 : Int) (x4 : Int) (x5 : Int) (x6 : Int) (x7 : Int) (x8 : Int) (x9 : Int) (x10 : Int) (x11 : Int) (x12 : Int) (x13 : Int) (a0_0 : Int → Int) (k1 : 1 ≤ x1 ∧ x1 ≤ 24) (k2 : 0 ≤ x2 ∧ x2 ≤ 16777215) (k4 : 1 ≤ x4 ∧ x4 ≤ 24) (k5 : 0 ≤ x5 ∧ x5 ≤ 16777215) (k6 : 0 ≤ x6 ∧ x6 ≤ 16777215) (k7 : 0 ≤ x7 ∧ x7 ≤ 23) (k8 : 0 ≤ x8 ∧ x8 ≤ 16777215) (k9 : 1 ≤ x9 ∧ x9 ≤ 1) (k10 : 1 ≤ x10 ∧ x10 ≤ 1) (k11 : 0 ≤ x11 ∧ x11 ≤ 16777215) (k12 : 0 ≤ x12 ∧ x12 ≤ 16777215) (k13 : 1 ≤ x13 ∧ x13 ≤ 24) (d0 : x7 + 1 ≤ x13 ∧ x13 ≤ x7 + 1) (d1 : x4 + (-4294967296) ≤ x13 ∧ x13 ≤ x4 + 0) (d2 : x1 + (-4294967296) ≤ x13 ∧ x13 ≤ x1 + 1) (d3 : x4 + (-4294967296) ≤ x13 ∧ x13 ≤ x4 + 1) (d4 : x4 + (-4294967296) ≤ x7 ∧ x7 ≤ x4 + (-1)) (d5 : x4 + (-4294967296) ≤ x1 ∧ x1 ≤ x4 + 0) (d6 : x5 + (-4294967296) ≤ x2 ∧ x2 ≤ x5 + 0) (d7 : x1 + (-4294967296) ≤ x4 ∧ x4 ≤ x1 + 0) (d8 : x2 + (-4294967296) ≤ x5 ∧ x5 ≤ x2 + 0) (d9 : x7 + (-4294967296) ≤ x6 ∧ x6 ≤ x7 + 16777214) (d10 : x1 + (-4294967296) ≤ x7 ∧ x7 ≤ x1 + 0) (d11 : x4 + (-4294967296) ≤ x7 ∧ x7 ≤ x4 + 0) (f0 : x13 = x7 + 1) (f1 : x12 ≤ x6 + x11 ∧ x6 ≤ x12 ∧ x11 ≤ x12) (f2 : bvp (x12) = bvp (x6) ||| bvp (x11)) (h3 : x11 = a0_0 (x7)) (f4 : x10 ≠ 0) (f5 : x10 = x8 % 2) (f6 : bvp (x10) = bvp (x8) &&& bvp (x9)) (f7 : bvp (x8) = bvp (x2) >>> (x7).toNat) (f8 : x7 < x1) (f9 : NEI (a0_0) (x7) (x2) (x6)) (f10 : 1 * x7 + ((-1) * x1 + 0) ≤ 0) (hK_0_999 : ∀ j : Int, 0 ≤ j → j < 24 → 0 ≤ a0_0 j ∧ a0_0 j ≤ 16777215) : NEI (a0_0) (x13) (x2) (x12) := by
  first
    | exact nei_start (by omega) (by omega)
    | exact nei_skip ‹NEI _ _ _ _› (fun z => by have := (bit_one (by assumption) (by assumption) (by omega) (by omega) (by omega) (by omega)).mp z; omega) (by omega)
    | exact nei_step ‹NEI _ _ _ _› (by omega) ((bit_one (by assumption) (by assumption) (by omega) (by omega) (by omega) (by omega)).mpr (by omega)) (by assumption) (by assumption) (by omega)
  
set_option maxHeartbeats 4000000 in
theorem vc_Fa_nearOf_at_Grnear_3_1 (x1 : Int) (x2 : Int) (x4 : Int) (x5 : Int) (x6 : Int) (x7 : Int) (x8 : Int) (x9 : Int) (x10 : Int) (x11 : Int) (x12 : Int) (x13 : Int) (a0_0 : Int → Int) (k1 : 1 ≤ x1 ∧ x1 ≤ 24) (k2 : 0 ≤ x2 ∧ x2 ≤ 16777215) (k4 : 1 ≤ x4 ∧ x4 ≤ 24) (k5 : 0 ≤ x5 ∧ x5 ≤ 16777215) (k6 : 0 ≤ x6 ∧ x6 ≤ 16777215) (k7 : 0 ≤ x7 ∧ x7 ≤ 23) (k8 : 0 ≤ x8 ∧ x8 ≤ 16777215) (k9 : 1 ≤ x9 ∧ x9 ≤ 1) (k10 : 1 ≤ x10 ∧ x10 ≤ 1) (k11 : 0 ≤ x11 ∧ x11 ≤ 16777215) (k12 : 0 ≤ x12 ∧ x12 ≤ 16777215) (k13 : 1 ≤ x13 ∧ x13 ≤ 24) (d0 : x7 + 1 ≤ x13 ∧ x13 ≤ x7 + 1) (d1 : x4 + (-4294967296) ≤ x13 ∧ x13 ≤ x4 + 0) (d2 : x1 + (-4294967296) ≤ x13 ∧ x13 ≤ x1 + 1) (d3 : x4 + (-4294967296) ≤ x13 ∧ x13 ≤ x4 + 1) (d4 : x4 + (-4294967296) ≤ x7 ∧ x7 ≤ x4 + (-1)) (d5 : x4 + (-4294967296) ≤ x1 ∧ x1 ≤ x4 + 0) (d6 : x5 + (-4294967296) ≤ x2 ∧ x2 ≤ x5 + 0) (d7 : x1 + (-4294967296) ≤ x4 ∧ x4 ≤ x1 + 0) (d8 : x2 + (-4294967296) ≤ x5 ∧ x5 ≤ x2 + 0) (d9 : x7 + (-4294967296) ≤ x6 ∧ x6 ≤ x7 + 16777214) (d10 : x1 + (-4294967296) ≤ x7 ∧ x7 ≤ x1 + 0) (d11 : x4 + (-4294967296) ≤ x7 ∧ x7 ≤ x4 + 0) (f0 : x13 = x7 + 1) (f1 : x12 ≤ x6 + x11 ∧ x6 ≤ x12 ∧ x11 ≤ x12) (f2 : bvp (x12) = bvp (x6) ||| bvp (x11)) (h3 : x11 = a0_0 (x7)) (f4 : x10 ≠ 0) (f5 : x10 = x8 % 2) (f6 : bvp (x10) = bvp (x8) &&& bvp (x9)) (f7 : bvp (x8) = bvp (x2) >>> (x7).toNat) (f8 : x7 < x1) (f9 : NEI (a0_0) (x7) (x2) (x6)) (f10 : 1 * x7 + ((-1) * x1 + 0) ≤ 0) (hK_0_999 : ∀ j : Int, 0 ≤ j → j < 24 → 0 ≤ a0_0 j ∧ a0_0 j ≤ 16777215) : 1 * x13 + ((-1) * x1 + 0) ≤ 0 := by
  first | omega
def o_Fa_nearOf_at_Grnear_3 : or_T := (5, 14, [(0, (2, 0, 0, [59])), (1, (0, 1, 24, [])), (2, (0, 0, 16777215, [])), (4, (0, 1, 24, [])), (5, (0, 0, 16777215, [])), (6, (0, 0, 16777215, [])), (7, (0, 0, 23, [])), (8, (0, 0, 16777215, [])), (9, (0, 1, 1, [])), (10, (0, 1, 1, [])), (11, (0, 0, 16777215, [])), (12, (0, 0, 16777215, [])), (13, (0, 1, 24, []))], [(6, [13, 7], [1]), (13, [12, 6, 11], []), (16, [12, 6, 11], [1]), (10, [11, 3, 7], []), (8, [10], [1]), (12, [10, 8], [2]), (16, [10, 8, 9], [0]), (16, [8, 5, 7], [4]), (7, [7, 4], [2]), (20, [3, 7, 5, 6], [61, 1, 556]), (23, [7, 4], [0, 1, -1]), (24, [0, 3], []), (24, [1, 4], []), (24, [2, 5], [])], [], [], [(20, [3, 13, 5, 12], [61, 1, 556]), (23, [13, 4], [0, 1, -1])], [], [(13, 7, 1, 1), (13, 4, -4294967296, 0), (13, 1, -4294967296, 1), (13, 4, -4294967296, 1), (7, 4, -4294967296, -1), (1, 4, -4294967296, 0), (2, 5, -4294967296, 0), (4, 1, -4294967296, 0), (5, 2, -4294967296, 0), (6, 7, -4294967296, 16777214), (7, 1, -4294967296, 0), (7, 4, -4294967296, 0)])
theorem oo_Fa_nearOf_at_Grnear_3 {kA : Nat → ClassId} : or_ok PRD kA GG o_Fa_nearOf_at_Grnear_3 := by
  refine or_mk fun A ta ws vs hD hth hl => ?_
  intro t0 r0 t1 k1 t2 k2 t4 k4 t5 k5 t6 k6 t7 k7 t8 k8 t9 k9 t10 k10 t11 k11 t12 k12 t13 k13 d0 d1 d2 d3 d4 d5 d6 d7 d8 d9 d10 d11 f0 f1 f2 f3 f4 f5 f6 f7 f8 f9 f10 f11 f12 f13
  replace f0 := shm_4 f0
  have f1 : v_iv (n_v vs 12) ≤ v_iv (n_v vs 6) + v_iv (n_v vs 11) ∧ v_iv (n_v vs 6) ≤ v_iv (n_v vs 12) ∧ v_iv (n_v vs 11) ≤ v_iv (n_v vs 12) := (fun (h : v_iv (n_v vs 12) ≤ v_iv (n_v vs 6) + v_iv (n_v vs 11) ∧ v_iv (n_v vs 6) ≤ v_iv (n_v vs 12) ∧ v_iv (n_v vs 11) ≤ v_iv (n_v vs 12) ∧ (v_iv (n_v vs 12)).toNat = (v_iv (n_v vs 6)).toNat ||| (v_iv (n_v vs 11)).toNat) => ⟨h.1, h.2.1, h.2.2.1⟩) f1
  replace f2 := shm_372 f2
  replace f3 := shm_106 f3
  replace f4 := shm_154 f4
  replace f5 := shm_382 f5
  replace f6 := shm_11 f6
  replace f7 := shm_13 f7
  replace f8 := shm_6 f8
  replace f9 := shm_380 f9
  replace f10 := shm_7 f10
  replace f11 := shm_5 f11
  replace f12 := shm_5 f12
  replace f13 := shm_5 f13
  have q3 : n_v vs 3 = n_v vs 0 := f11.symm
  have q4 : n_v vs 4 = n_v vs 1 := f12.symm
  have q5 : n_v vs 5 = n_v vs 2 := f13.symm
  simp only [q3, q5, q4] at f3 f7 f8 f9 f10
  have cr_0_999 : ta (v_ad (n_v vs 0)) = some 59 := r0
  have h3 : v_iv (n_v vs 11) = w_ei ws (v_ad (n_v vs 0)) (v_iv (n_v vs 7)) := f3
  have hK_0_999 := elq_24 hD hth cr_0_999
  have nf0 : fc_1 PRD (20, [3, 13, 5, 12], [61, 1, 556]) ws (vs) := by
    refine ⟨nf_in hl rfl, sgq_380 ?_⟩
    · show NEI (w_ei ws (v_ad (n_v vs 3))) (v_iv (n_v vs 13)) (v_iv (n_v vs 5)) (v_iv (n_v vs 12))
      simp only [q3, q5]
      exact vc_Fa_nearOf_at_Grnear_3_0 (v_iv (n_v vs 1)) (v_iv (n_v vs 2)) (v_iv (n_v vs 4)) (v_iv (n_v vs 5)) (v_iv (n_v vs 6)) (v_iv (n_v vs 7)) (v_iv (n_v vs 8)) (v_iv (n_v vs 9)) (v_iv (n_v vs 10)) (v_iv (n_v vs 11)) (v_iv (n_v vs 12)) (v_iv (n_v vs 13)) (w_ei ws (v_ad (n_v vs 0))) k1 k2 k4 k5 k6 k7 k8 k9 k10 k11 k12 k13 d0 d1 d2 d3 d4 d5 d6 d7 d8 d9 d10 d11 f0 f1 f2 h3 f4 f5 f6 f7 f8 f9 f10 hK_0_999
  have nf1 : fc_1 PRD (23, [13, 4], [0, 1, -1]) ws (vs) := by
    refine ⟨nf_in hl rfl, sgq_7 ?_⟩
    · show 1 * v_iv (n_v vs 13) + ((-1) * v_iv (n_v vs 4) + 0) ≤ 0
      rw [q4]
      exact vc_Fa_nearOf_at_Grnear_3_1 (v_iv (n_v vs 1)) (v_iv (n_v vs 2)) (v_iv (n_v vs 4)) (v_iv (n_v vs 5)) (v_iv (n_v vs 6)) (v_iv (n_v vs 7)) (v_iv (n_v vs 8)) (v_iv (n_v vs 9)) (v_iv (n_v vs 10)) (v_iv (n_v vs 11)) (v_iv (n_v vs 12)) (v_iv (n_v vs 13)) (w_ei ws (v_ad (n_v vs 0))) k1 k2 k4 k5 k6 k7 k8 k9 k10 k11 k12 k13 d0 d1 d2 d3 d4 d5 d6 d7 d8 d9 d10 d11 f0 f1 f2 h3 f4 f5 f6 f7 f8 f9 f10 hK_0_999
  refine ⟨(fun _ h => (by cases h)), [], trivial, ?_, (fun _ h => (by cases h))⟩
  rw [List.append_nil]
  exact List.forall_mem_cons.mpr ⟨⟨show (20 : Nat) < 100 from by decide, nf0⟩, List.forall_mem_cons.mpr ⟨⟨show (23 : Nat) < 100 from by decide, nf1⟩, (fun _ h => (by cases h))⟩⟩
def n_Fa_nearOf_at_Grnear_an : List an_T := [(5, [(0, (2, 0, 0, [59])), (1, (0, 1, 24, [])), (2, (0, 0, 16777215, [])), (3, (0, 0, 16777215, [])), (4, (0, 0, 24, []))], [], (0, 0), [(0, 0, 99995), (1, 7, 24), (0, 0, 100000)], [(1, 4, (Int.negSucc 999999999999), 0), (2, 5, (Int.negSucc 999999999999), 0), (4, 1, (Int.negSucc 999999999999), 0), (5, 2, (Int.negSucc 999999999999), 0), (6, 7, (Int.negSucc 999999999999), 16777214), (7, 1, (Int.negSucc 999999999999), 0), (7, 4, (Int.negSucc 999999999999), 0)], [], [(2, 0, 0, [59]), (0, 1, 24, []), (0, 0, 16777215, [])], 0, [], [(20, [3, 7, 5, 6], [61, 1, 556]), (23, [7, 4], [0, 1, (Int.negSucc 0)]), (24, [0, 3], []), (24, [1, 4], []), (24, [2, 5], [])])]
def t_Fa_nearOf_at_Grnear_ct : ct_L := []
set_option maxRecDepth 100000 in
theorem c_Fa_nearOf_at_Grnear {l : Launch} {D : va_G} {kA : Nat → ClassId} : ct_ok PRD l D kA GG y_Fa_nearOf_at_Grnear z_Fa_nearOf_at_Grnear e_Fa_nearOf_at_Grnear := chk_all_ok (FT := []) (PT := []) (CT := t_Fa_nearOf_at_Grnear_ct) (KT := []) (NT := []) (AN := n_Fa_nearOf_at_Grnear_an) (OT := [o_Fa_nearOf_at_Grnear_0, o_Fa_nearOf_at_Grnear_1, o_Fa_nearOf_at_Grnear_2, o_Fa_nearOf_at_Grnear_3]) 3 200 (List.forall_mem_cons.mpr ⟨oo_Fa_nearOf_at_Grnear_0, List.forall_mem_cons.mpr ⟨oo_Fa_nearOf_at_Grnear_1, List.forall_mem_cons.mpr ⟨oo_Fa_nearOf_at_Grnear_2, List.forall_mem_cons.mpr ⟨oo_Fa_nearOf_at_Grnear_3, List.forall_mem_nil _⟩⟩⟩⟩) (by decide +kernel) ⟨List.forall_mem_nil _, List.forall_mem_nil _, List.forall_mem_nil _, List.forall_mem_nil _, List.forall_mem_nil _, GG_pl⟩ (by decide +kernel)
set_option maxHeartbeats 4000000 in
theorem vc_Fa_nearOf_at_Nenear_0_0 (x1 : Int) (x2 : Int) (x3 : Int) (x4 : Int) (a0_0 : Int → Int) (k1 : 0 ≤ x1 ∧ x1 ≤ 24) (k2 : 0 ≤ x2 ∧ x2 ≤ 33554431) (k3 : 0 ≤ x3 ∧ x3 ≤ 0) (k4 : 0 ≤ x4 ∧ x4 ≤ 0) (hK_0_999 : ∀ j : Int, 0 ≤ j → j < 25 → 0 ≤ a0_0 j ∧ a0_0 j ≤ 16777215) : NEI (a0_0) (x4) (x2) (x3) := by
  first
    | exact nei_start (by omega) (by omega)
    | exact nei_skip ‹NEI _ _ _ _› (fun z => by have := (bit_one (by assumption) (by assumption) (by omega) (by omega) (by omega) (by omega)).mp z; omega) (by omega)
    | exact nei_step ‹NEI _ _ _ _› (by omega) ((bit_one (by assumption) (by assumption) (by omega) (by omega) (by omega) (by omega)).mpr (by omega)) (by assumption) (by assumption) (by omega)
  
set_option maxHeartbeats 4000000 in
theorem vc_Fa_nearOf_at_Nenear_0_1 (x1 : Int) (x2 : Int) (x3 : Int) (x4 : Int) (a0_0 : Int → Int) (k1 : 0 ≤ x1 ∧ x1 ≤ 24) (k2 : 0 ≤ x2 ∧ x2 ≤ 33554431) (k3 : 0 ≤ x3 ∧ x3 ≤ 0) (k4 : 0 ≤ x4 ∧ x4 ≤ 0) (hK_0_999 : ∀ j : Int, 0 ≤ j → j < 25 → 0 ≤ a0_0 j ∧ a0_0 j ≤ 16777215) : 1 * x4 + ((-1) * x1 + 0) ≤ 0 := by
  first | omega
def o_Fa_nearOf_at_Nenear_0 : or_T := (5, 5, [(0, (2, 0, 0, [82])), (1, (0, 0, 24, [])), (2, (0, 0, 33554431, [])), (3, (0, 0, 0, [])), (4, (0, 0, 0, []))], [], [], [], [(20, [0, 4, 2, 3], [61, 1, 556]), (23, [4, 1], [0, 1, -1]), (24, [0, 0], []), (24, [1, 1], []), (24, [2, 2], [])], [], [])
theorem oo_Fa_nearOf_at_Nenear_0 {kA : Nat → ClassId} : or_ok PRD kA GG o_Fa_nearOf_at_Nenear_0 := by
  refine or_mk fun A ta ws vs hD hth hl => ?_
  intro t0 r0 t1 k1 t2 k2 t3 k3 t4 k4
  have cr_0_999 : ta (v_ad (n_v vs 0)) = some 82 := r0
  have hK_0_999 := elq_25 hD hth cr_0_999
  have nf0 : fc_1 PRD (20, [0, 4, 2, 3], [61, 1, 556]) ws (vs) := ⟨nf_in hl rfl, sgq_380 (vc_Fa_nearOf_at_Nenear_0_0 (v_iv (n_v vs 1)) (v_iv (n_v vs 2)) (v_iv (n_v vs 3)) (v_iv (n_v vs 4)) (w_ei ws (v_ad (n_v vs 0))) k1 k2 k3 k4 hK_0_999)⟩
  have nf1 : fc_1 PRD (23, [4, 1], [0, 1, -1]) ws (vs) := ⟨nf_in hl rfl, sgq_7 (vc_Fa_nearOf_at_Nenear_0_1 (v_iv (n_v vs 1)) (v_iv (n_v vs 2)) (v_iv (n_v vs 3)) (v_iv (n_v vs 4)) (w_ei ws (v_ad (n_v vs 0))) k1 k2 k3 k4 hK_0_999)⟩
  have nf2 : fc_1 PRD (24, [0, 0], []) ws (vs) := by
    refine ⟨nf_in hl rfl, sgq_1 ?_⟩
    · show n_v vs 0 = n_v vs 0
      first | rfl | simp only [true_and]
  have nf3 : fc_1 PRD (24, [1, 1], []) ws (vs) := by
    refine ⟨nf_in hl rfl, sgq_1 ?_⟩
    · show n_v vs 1 = n_v vs 1
      first | rfl | simp only [true_and]
  have nf4 : fc_1 PRD (24, [2, 2], []) ws (vs) := by
    refine ⟨nf_in hl rfl, sgq_1 ?_⟩
    · show n_v vs 2 = n_v vs 2
      first | rfl | simp only [true_and]
  refine ⟨(fun _ h => (by cases h)), [], trivial, ?_, (fun _ h => (by cases h))⟩
  rw [List.append_nil]
  exact List.forall_mem_cons.mpr ⟨⟨show (20 : Nat) < 100 from by decide, nf0⟩, List.forall_mem_cons.mpr ⟨⟨show (23 : Nat) < 100 from by decide, nf1⟩, List.forall_mem_cons.mpr ⟨⟨show (24 : Nat) < 100 from by decide, nf2⟩, List.forall_mem_cons.mpr ⟨⟨show (24 : Nat) < 100 from by decide, nf3⟩, List.forall_mem_cons.mpr ⟨⟨show (24 : Nat) < 100 from by decide, nf4⟩, (fun _ h => (by cases h))⟩⟩⟩⟩⟩
set_option maxHeartbeats 4000000 in
theorem vc_Fa_nearOf_at_Nenear_1_0 (x1 : Int) (x2 : Int) (x4 : Int) (x5 : Int) (x6 : Int) (x7 : Int) (a0_0 : Int → Int) (k1 : 0 ≤ x1 ∧ x1 ≤ 24) (k2 : 0 ≤ x2 ∧ x2 ≤ 33554431) (k4 : 0 ≤ x4 ∧ x4 ≤ 24) (k5 : 0 ≤ x5 ∧ x5 ≤ 33554431) (k6 : 0 ≤ x6 ∧ x6 ≤ 16777215) (k7 : 0 ≤ x7 ∧ x7 ≤ 24) (d0 : x4 + 0 ≤ x7 ∧ x7 ≤ x4 + 4294967296) (d1 : x4 + (-4294967296) ≤ x1 ∧ x1 ≤ x4 + 0) (d2 : x5 + (-4294967296) ≤ x2 ∧ x2 ≤ x5 + 0) (d3 : x1 + (-4294967296) ≤ x4 ∧ x4 ≤ x1 + 0) (d4 : x2 + (-4294967296) ≤ x5 ∧ x5 ≤ x2 + 0) (d5 : x1 + (-4294967296) ≤ x6 ∧ x6 ≤ x1 + 16777214) (d6 : x4 + (-4294967296) ≤ x6 ∧ x6 ≤ x4 + 16777214) (d7 : x7 + (-4294967296) ≤ x6 ∧ x6 ≤ x7 + 16777214) (d8 : x1 + (-4294967296) ≤ x7 ∧ x7 ≤ x1 + 0) (d9 : x4 + (-4294967296) ≤ x7 ∧ x7 ≤ x4 + 0) (f0 : x1 ≤ x7) (f1 : NEI (a0_0) (x7) (x2) (x6)) (f2 : 1 * x7 + ((-1) * x1 + 0) ≤ 0) (hK_0_999 : ∀ j : Int, 0 ≤ j → j < 25 → 0 ≤ a0_0 j ∧ a0_0 j ≤ 16777215) : NEF (a0_0) (x1) (x2) (x6) := by
  first
    | (rw [show x1 = x7 by omega]; assumption)
  
def o_Fa_nearOf_at_Nenear_1 : or_T := (34, 8, [(0, (2, 0, 0, [82])), (1, (0, 0, 24, [])), (2, (0, 0, 33554431, [])), (4, (0, 0, 24, [])), (5, (0, 0, 33554431, [])), (6, (0, 0, 16777215, [])), (7, (0, 0, 24, []))], [(7, [7, 4], [3]), (20, [3, 7, 5, 6], [61, 1, 556]), (23, [7, 4], [0, 1, -1]), (24, [0, 3], []), (24, [1, 4], []), (24, [2, 5], [])], [], [], [(20, [0, 1, 2, 6], [61, 1, 557])], [], [(7, 4, 0, 4294967296), (1, 4, -4294967296, 0), (2, 5, -4294967296, 0), (4, 1, -4294967296, 0), (5, 2, -4294967296, 0), (6, 1, -4294967296, 16777214), (6, 4, -4294967296, 16777214), (6, 7, -4294967296, 16777214), (7, 1, -4294967296, 0), (7, 4, -4294967296, 0)])
theorem oo_Fa_nearOf_at_Nenear_1 {kA : Nat → ClassId} : or_ok PRD kA GG o_Fa_nearOf_at_Nenear_1 := by
  refine or_mk fun A ta ws vs hD hth hl => ?_
  intro t0 r0 t1 k1 t2 k2 t4 k4 t5 k5 t6 k6 t7 k7 d0 d1 d2 d3 d4 d5 d6 d7 d8 d9 f0 f1 f2 f3 f4 f5
  replace f0 := shm_2 f0
  replace f1 := shm_380 f1
  replace f2 := shm_7 f2
  replace f3 := shm_5 f3
  replace f4 := shm_5 f4
  replace f5 := shm_5 f5
  have q3 : n_v vs 3 = n_v vs 0 := f3.symm
  have q4 : n_v vs 4 = n_v vs 1 := f4.symm
  have q5 : n_v vs 5 = n_v vs 2 := f5.symm
  simp only [q4, q3, q5] at f0 f1 f2
  have cr_0_999 : ta (v_ad (n_v vs 0)) = some 82 := r0
  have hK_0_999 := elq_25 hD hth cr_0_999
  have nf0 : fc_1 PRD (20, [0, 1, 2, 6], [61, 1, 557]) ws (vs) := ⟨nf_in hl rfl, sgq_381 (vc_Fa_nearOf_at_Nenear_1_0 (v_iv (n_v vs 1)) (v_iv (n_v vs 2)) (v_iv (n_v vs 4)) (v_iv (n_v vs 5)) (v_iv (n_v vs 6)) (v_iv (n_v vs 7)) (w_ei ws (v_ad (n_v vs 0))) k1 k2 k4 k5 k6 k7 d0 d1 d2 d3 d4 d5 d6 d7 d8 d9 f0 f1 f2 hK_0_999)⟩
  refine ⟨(fun _ h => (by cases h)), [], trivial, ?_, (fun _ h => (by cases h))⟩
  rw [List.append_nil]
  exact List.forall_mem_cons.mpr ⟨⟨show (20 : Nat) < 100 from by decide, nf0⟩, (fun _ h => (by cases h))⟩
set_option maxHeartbeats 4000000 in
theorem vc_Fa_nearOf_at_Nenear_2_0 (x1 : Int) (x2 : Int) (x4 : Int) (x5 : Int) (x6 : Int) (x7 : Int) (x8 : Int) (x9 : Int) (x10 : Int) (x11 : Int) (a0_0 : Int → Int) (k1 : 1 ≤ x1 ∧ x1 ≤ 24) (k2 : 0 ≤ x2 ∧ x2 ≤ 33554431) (k4 : 1 ≤ x4 ∧ x4 ≤ 24) (k5 : 0 ≤ x5 ∧ x5 ≤ 33554431) (k6 : 0 ≤ x6 ∧ x6 ≤ 16777215) (k7 : 0 ≤ x7 ∧ x7 ≤ 23) (k8 : 0 ≤ x8 ∧ x8 ≤ 33554431) (k9 : 1 ≤ x9 ∧ x9 ≤ 1) (k10 : 0 ≤ x10 ∧ x10 ≤ 0) (k11 : 1 ≤ x11 ∧ x11 ≤ 24) (d0 : x7 + 1 ≤ x11 ∧ x11 ≤ x7 + 1) (d1 : x4 + (-4294967296) ≤ x11 ∧ x11 ≤ x4 + 0) (d2 : x1 + (-4294967296) ≤ x11 ∧ x11 ≤ x1 + 1) (d3 : x4 + (-4294967296) ≤ x11 ∧ x11 ≤ x4 + 1) (d4 : x4 + (-4294967296) ≤ x7 ∧ x7 ≤ x4 + (-1)) (d5 : x4 + (-4294967296) ≤ x1 ∧ x1 ≤ x4 + 0) (d6 : x5 + (-4294967296) ≤ x2 ∧ x2 ≤ x5 + 0) (d7 : x1 + (-4294967296) ≤ x4 ∧ x4 ≤ x1 + 0) (d8 : x2 + (-4294967296) ≤ x5 ∧ x5 ≤ x2 + 0) (d9 : x7 + (-4294967296) ≤ x6 ∧ x6 ≤ x7 + 16777214) (d10 : x1 + (-4294967296) ≤ x7 ∧ x7 ≤ x1 + 0) (d11 : x4 + (-4294967296) ≤ x7 ∧ x7 ≤ x4 + 0) (f0 : x11 = x7 + 1) (f1 : x10 = 0) (f2 : x10 = x8 % 2) (f3 : bvp (x10) = bvp (x8) &&& bvp (x9)) (f4 : bvp (x8) = bvp (x2) >>> (x7).toNat) (f5 : x7 < x1) (f6 : NEI (a0_0) (x7) (x2) (x6)) (f7 : 1 * x7 + ((-1) * x1 + 0) ≤ 0) (hK_0_999 : ∀ j : Int, 0 ≤ j → j < 25 → 0 ≤ a0_0 j ∧ a0_0 j ≤ 16777215) : NEI (a0_0) (x11) (x2) (x6) := by
  first
    | exact nei_start (by omega) (by omega)
    | exact nei_skip ‹NEI _ _ _ _› (fun z => by have := (bit_one (by assumption) (by assumption) (by omega) (by omega) (by omega) (by omega)).mp z; omega) (by omega)
    | exact nei_step ‹NEI _ _ _ _› (by omega) ((bit_one (by assumption) (by assumption) (by omega) (by omega) (by omega) (by omega)).mpr (by omega)) (by assumption) (by assumption) (by omega)
  
set_option maxHeartbeats 4000000 in
theorem vc_Fa_nearOf_at_Nenear_2_1 (x1 : Int) (x2 : Int) (x4 : Int) (x5 : Int) (x6 : Int) (x7 : Int) (x8 : Int) (x9 : Int) (x10 : Int) (x11 : Int) (a0_0 : Int → Int) (k1 : 1 ≤ x1 ∧ x1 ≤ 24) (k2 : 0 ≤ x2 ∧ x2 ≤ 33554431) (k4 : 1 ≤ x4 ∧ x4 ≤ 24) (k5 : 0 ≤ x5 ∧ x5 ≤ 33554431) (k6 : 0 ≤ x6 ∧ x6 ≤ 16777215) (k7 : 0 ≤ x7 ∧ x7 ≤ 23) (k8 : 0 ≤ x8 ∧ x8 ≤ 33554431) (k9 : 1 ≤ x9 ∧ x9 ≤ 1) (k10 : 0 ≤ x10 ∧ x10 ≤ 0) (k11 : 1 ≤ x11 ∧ x11 ≤ 24) (d0 : x7 + 1 ≤ x11 ∧ x11 ≤ x7 + 1) (d1 : x4 + (-4294967296) ≤ x11 ∧ x11 ≤ x4 + 0) (d2 : x1 + (-4294967296) ≤ x11 ∧ x11 ≤ x1 + 1) (d3 : x4 + (-4294967296) ≤ x11 ∧ x11 ≤ x4 + 1) (d4 : x4 + (-4294967296) ≤ x7 ∧ x7 ≤ x4 + (-1)) (d5 : x4 + (-4294967296) ≤ x1 ∧ x1 ≤ x4 + 0) (d6 : x5 + (-4294967296) ≤ x2 ∧ x2 ≤ x5 + 0) (d7 : x1 + (-4294967296) ≤ x4 ∧ x4 ≤ x1 + 0) (d8 : x2 + (-4294967296) ≤ x5 ∧ x5 ≤ x2 + 0) (d9 : x7 + (-4294967296) ≤ x6 ∧ x6 ≤ x7 + 16777214) (d10 : x1 + (-4294967296) ≤ x7 ∧ x7 ≤ x1 + 0) (d11 : x4 + (-4294967296) ≤ x7 ∧ x7 ≤ x4 + 0) (f0 : x11 = x7 + 1) (f1 : x10 = 0) (f2 : x10 = x8 % 2) (f3 : bvp (x10) = bvp (x8) &&& bvp (x9)) (f4 : bvp (x8) = bvp (x2) >>> (x7).toNat) (f5 : x7 < x1) (f6 : NEI (a0_0) (x7) (x2) (x6)) (f7 : 1 * x7 + ((-1) * x1 + 0) ≤ 0) (hK_0_999 : ∀ j : Int, 0 ≤ j → j < 25 → 0 ≤ a0_0 j ∧ a0_0 j ≤ 16777215) : 1 * x11 + ((-1) * x1 + 0) ≤ 0 := by
  first | omega
def o_Fa_nearOf_at_Nenear_2 : or_T := (5, 12, [(0, (2, 0, 0, [82])), (1, (0, 1, 24, [])), (2, (0, 0, 33554431, [])), (4, (0, 1, 24, [])), (5, (0, 0, 33554431, [])), (6, (0, 0, 16777215, [])), (7, (0, 0, 23, [])), (8, (0, 0, 33554431, [])), (9, (0, 1, 1, [])), (10, (0, 0, 0, [])), (11, (0, 1, 24, []))], [(6, [11, 7], [1]), (8, [10], [0]), (12, [10, 8], [2]), (16, [10, 8, 9], [0]), (16, [8, 5, 7], [4]), (7, [7, 4], [2]), (20, [3, 7, 5, 6], [61, 1, 556]), (23, [7, 4], [0, 1, -1]), (24, [0, 3], []), (24, [1, 4], []), (24, [2, 5], [])], [], [], [(20, [3, 11, 5, 6], [61, 1, 556]), (23, [11, 4], [0, 1, -1])], [], [(11, 7, 1, 1), (11, 4, -4294967296, 0), (11, 1, -4294967296, 1), (11, 4, -4294967296, 1), (7, 4, -4294967296, -1), (1, 4, -4294967296, 0), (2, 5, -4294967296, 0), (4, 1, -4294967296, 0), (5, 2, -4294967296, 0), (6, 7, -4294967296, 16777214), (7, 1, -4294967296, 0), (7, 4, -4294967296, 0)])
theorem oo_Fa_nearOf_at_Nenear_2 {kA : Nat → ClassId} : or_ok PRD kA GG o_Fa_nearOf_at_Nenear_2 := by
  refine or_mk fun A ta ws vs hD hth hl => ?_
  intro t0 r0 t1 k1 t2 k2 t4 k4 t5 k5 t6 k6 t7 k7 t8 k8 t9 k9 t10 k10 t11 k11 d0 d1 d2 d3 d4 d5 d6 d7 d8 d9 d10 d11 f0 f1 f2 f3 f4 f5 f6 f7 f8 f9 f10
  replace f0 := shm_4 f0
  replace f1 := shm_210 f1
  replace f2 := shm_382 f2
  replace f3 := shm_11 f3
  replace f4 := shm_13 f4
  replace f5 := shm_6 f5
  replace f6 := shm_380 f6
  replace f7 := shm_7 f7
  replace f8 := shm_5 f8
  replace f9 := shm_5 f9
  replace f10 := shm_5 f10
  have q3 : n_v vs 3 = n_v vs 0 := f8.symm
  have q4 : n_v vs 4 = n_v vs 1 := f9.symm
  have q5 : n_v vs 5 = n_v vs 2 := f10.symm
  simp only [q5, q4, q3] at f4 f5 f6 f7
  have cr_0_999 : ta (v_ad (n_v vs 0)) = some 82 := r0
  have hK_0_999 := elq_25 hD hth cr_0_999
  have nf0 : fc_1 PRD (20, [3, 11, 5, 6], [61, 1, 556]) ws (vs) := by
    refine ⟨nf_in hl rfl, sgq_380 ?_⟩
    · show NEI (w_ei ws (v_ad (n_v vs 3))) (v_iv (n_v vs 11)) (v_iv (n_v vs 5)) (v_iv (n_v vs 6))
      simp only [q3, q5]
      exact vc_Fa_nearOf_at_Nenear_2_0 (v_iv (n_v vs 1)) (v_iv (n_v vs 2)) (v_iv (n_v vs 4)) (v_iv (n_v vs 5)) (v_iv (n_v vs 6)) (v_iv (n_v vs 7)) (v_iv (n_v vs 8)) (v_iv (n_v vs 9)) (v_iv (n_v vs 10)) (v_iv (n_v vs 11)) (w_ei ws (v_ad (n_v vs 0))) k1 k2 k4 k5 k6 k7 k8 k9 k10 k11 d0 d1 d2 d3 d4 d5 d6 d7 d8 d9 d10 d11 f0 f1 f2 f3 f4 f5 f6 f7 hK_0_999
  have nf1 : fc_1 PRD (23, [11, 4], [0, 1, -1]) ws (vs) := by
    refine ⟨nf_in hl rfl, sgq_7 ?_⟩
    · show 1 * v_iv (n_v vs 11) + ((-1) * v_iv (n_v vs 4) + 0) ≤ 0
      rw [q4]
      exact vc_Fa_nearOf_at_Nenear_2_1 (v_iv (n_v vs 1)) (v_iv (n_v vs 2)) (v_iv (n_v vs 4)) (v_iv (n_v vs 5)) (v_iv (n_v vs 6)) (v_iv (n_v vs 7)) (v_iv (n_v vs 8)) (v_iv (n_v vs 9)) (v_iv (n_v vs 10)) (v_iv (n_v vs 11)) (w_ei ws (v_ad (n_v vs 0))) k1 k2 k4 k5 k6 k7 k8 k9 k10 k11 d0 d1 d2 d3 d4 d5 d6 d7 d8 d9 d10 d11 f0 f1 f2 f3 f4 f5 f6 f7 hK_0_999
  refine ⟨(fun _ h => (by cases h)), [], trivial, ?_, (fun _ h => (by cases h))⟩
  rw [List.append_nil]
  exact List.forall_mem_cons.mpr ⟨⟨show (20 : Nat) < 100 from by decide, nf0⟩, List.forall_mem_cons.mpr ⟨⟨show (23 : Nat) < 100 from by decide, nf1⟩, (fun _ h => (by cases h))⟩⟩
set_option maxHeartbeats 4000000 in
theorem vc_Fa_nearOf_at_Nenear_3_0 (x1 : Int) (x2 : Int) (x4 : Int) (x5 : Int) (x6 : Int) (x7 : Int) (x8 : Int) (x9 : Int) (x10 : Int) (x11 : Int) (x12 : Int) (x13 : Int) (a0_0 : Int → Int) (k1 : 1 ≤ x1 ∧ x1 ≤ 24) (k2 : 0 ≤ x2 ∧ x2 ≤ 33554431) (k4 : 1 ≤ x4 ∧ x4 ≤ 24) (k5 : 0 ≤ x5 ∧ x5 ≤ 33554431) (k6 : 0 ≤ x6 ∧ x6 ≤ 16777215) (k7 : 0 ≤ x7 ∧ x7 ≤ 23) (k8 : 0 ≤ x8 ∧ x8 ≤ 33554431) (k9 : 1 ≤ x9 ∧ x9 ≤ 1) (k10 : 1 ≤ x10 ∧ x10 ≤ 1) (k11 : 0 ≤ x11 ∧ x11 ≤ 16777215) (k12 : 0 ≤ x12 ∧ x12 ≤ 16777215) (k13 : 1 ≤ x13 ∧ x13 ≤ 24) (d0 : x7 + 1 ≤ x13 ∧ x13 ≤ x7 + 1) (d1 : x4 + (-4294967296) ≤ x13 ∧ x13 ≤ x4 + 0) (d2 : x1 + (-4294967296) ≤ x13 ∧ x13 ≤ x1 + 1) (d3 : x4 + (-4294967296) ≤ x13 ∧ x13 ≤ x4 + 1) (d4 : x4 + (-4294967296) ≤ x7 ∧ x7 ≤ x4 + (-1)) (d5 : x4 + (-4294967296) ≤ x1 ∧ x1 ≤ x4 + 0) (d6 : x5 + (-4294967296) ≤ x2 ∧ x2 ≤ x5 + 0) (d7 : x1 + (-4294967296) ≤ x4 ∧ x4 ≤ x1 + 0) (d8 : x2 + (-4294967296) ≤ x5 ∧ x5 ≤ x2 + 0) (d9 : x7 + (-4294967296) ≤ x6 ∧ x6 ≤ x7 + 16777214) (d10 : x1 + (-4294967296) ≤ x7 ∧ x7 ≤ x1 + 0) (d11 : x4 + (-4294967296) ≤ x7 ∧ x7 ≤ x4 + 0) (f0 : x13 = x7 + 1) (f1 : x12 ≤ x6 + x11 ∧ x6 ≤ x12 ∧ x11 ≤ x12) (f2 : bvp (x12) = bvp (x6) ||| bvp (x11)) (h3 : x11 = a0_0 (x7)) (f4 : x10 ≠ 0) (f5 : x10 = x8 % 2) (f6 : bvp (x10) = bvp (x8) &&& bvp (x9)) (f7 : bvp (x8) = bvp (x2) >>> (x7).toNat) (f8 : x7 < x1) (f9 : NEI (a0_0) (x7) (x2) (x6)) (f10 : 1 * x7 + ((-1) * x1 + 0) ≤ 0) (hK_0_999 : ∀ j : Int, 0 ≤ j → j < 25 → 0 ≤ a0_0 j ∧ a0_0 j ≤ 16777215) : NEI (a0_0) (x13) (x2) (x12) := by
  first
    | exact nei_start (by omega) (by omega)
    | exact nei_skip ‹NEI _ _ _ _› (fun z => by have := (bit_one (by assumption) (by assumption) (by omega) (by omega) (by omega) (by omega)).mp z; omega) (by omega)
    | exact nei_step ‹NEI _ _ _ _› (by omega) ((bit_one (by assumption) (by assumption) (by omega) (by omega) (by omega) (by omega)).mpr (by omega)) (by assumption) (by assumption) (by omega)
  
set_option maxHeartbeats 4000000 in
theorem vc_Fa_nearOf_at_Nenear_3_1 (x1 : Int) (x2 : Int) (x4 : Int) (x5 : Int) (x6 : Int) (x7 : Int) (x8 : Int) (x9 : Int) (x10 : Int) (x11 : Int) (x12 : Int) (x13 : Int) (a0_0 : Int → Int) (k1 : 1 ≤ x1 ∧ x1 ≤ 24) (k2 : 0 ≤ x2 ∧ x2 ≤ 33554431) (k4 : 1 ≤ x4 ∧ x4 ≤ 24) (k5 : 0 ≤ x5 ∧ x5 ≤ 33554431) (k6 : 0 ≤ x6 ∧ x6 ≤ 16777215) (k7 : 0 ≤ x7 ∧ x7 ≤ 23) (k8 : 0 ≤ x8 ∧ x8 ≤ 33554431) (k9 : 1 ≤ x9 ∧ x9 ≤ 1) (k10 : 1 ≤ x10 ∧ x10 ≤ 1) (k11 : 0 ≤ x11 ∧ x11 ≤ 16777215) (k12 : 0 ≤ x12 ∧ x12 ≤ 16777215) (k13 : 1 ≤ x13 ∧ x13 ≤ 24) (d0 : x7 + 1 ≤ x13 ∧ x13 ≤ x7 + 1) (d1 : x4 + (-4294967296) ≤ x13 ∧ x13 ≤ x4 + 0) (d2 : x1 + (-4294967296) ≤ x13 ∧ x13 ≤ x1 + 1) (d3 : x4 + (-4294967296) ≤ x13 ∧ x13 ≤ x4 + 1) (d4 : x4 + (-4294967296) ≤ x7 ∧ x7 ≤ x4 + (-1)) (d5 : x4 + (-4294967296) ≤ x1 ∧ x1 ≤ x4 + 0) (d6 : x5 + (-4294967296) ≤ x2 ∧ x2 ≤ x5 + 0) (d7 : x1 + (-4294967296) ≤ x4 ∧ x4 ≤ x1 + 0) (d8 : x2 + (-4294967296) ≤ x5 ∧ x5 ≤ x2 + 0) (d9 : x7 + (-4294967296) ≤ x6 ∧ x6 ≤ x7 + 16777214) (d10 : x1 + (-4294967296) ≤ x7 ∧ x7 ≤ x1 + 0) (d11 : x4 + (-4294967296) ≤ x7 ∧ x7 ≤ x4 + 0) (f0 : x13 = x7 + 1) (f1 : x12 ≤ x6 + x11 ∧ x6 ≤ x12 ∧ x11 ≤ x12) (f2 : bvp (x12) = bvp (x6) ||| bvp (x11)) (h3 : x11 = a0_0 (x7)) (f4 : x10 ≠ 0) (f5 : x10 = x8 % 2) (f6 : bvp (x10) = bvp (x8) &&& bvp (x9)) (f7 : bvp (x8) = bvp (x2) >>> (x7).toNat) (f8 : x7 < x1) (f9 : NEI (a0_0) (x7) (x2) (x6)) (f10 : 1 * x7 + ((-1) * x1 + 0) ≤ 0) (hK_0_999 : ∀ j : Int, 0 ≤ j → j < 25 → 0 ≤ a0_0 j ∧ a0_0 j ≤ 16777215) : 1 * x13 + ((-1) * x1 + 0) ≤ 0 := by
  first | omega
def o_Fa_nearOf_at_Nenear_3 : or_T := (5, 14, [(0, (2, 0, 0, [82])), (1, (0, 1, 24, [])), (2, (0, 0, 33554431, [])), (4, (0, 1, 24, [])), (5, (0, 0, 33554431, [])), (6, (0, 0, 16777215, [])), (7, (0, 0, 23, [])), (8, (0, 0, 33554431, [])), (9, (0, 1, 1, [])), (10, (0, 1, 1, [])), (11, (0, 0, 16777215, [])), (12, (0, 0, 16777215, [])), (13, (0, 1, 24, []))], [(6, [13, 7], [1]), (13, [12, 6, 11], []), (16, [12, 6, 11], [1]), (10, [11, 3, 7], []), (8, [10], [1]), (12, [10, 8], [2]), (16, [10, 8, 9], [0]), (16, [8, 5, 7], [4]), (7, [7, 4], [2]), (20, [3, 7, 5, 6], [61, 1, 556]), (23, [7, 4], [0, 1, -1]), (24, [0, 3], []), (24, [1, 4], []), (24, [2, 5], [])], [], [], [(20, [3, 13, 5, 12], [61, 1, 556]), (23, [13, 4], [0, 1, -1])], [], [(13, 7, 1, 1), (13, 4, -4294967296, 0), (13, 1, -4294967296, 1), (13, 4, -4294967296, 1), (7, 4, -4294967296, -1), (1, 4, -4294967296, 0), (2, 5, -4294967296, 0), (4, 1, -4294967296, 0), (5, 2, -4294967296, 0), (6, 7, -4294967296, 16777214), (7, 1, -4294967296, 0), (7, 4, -4294967296, 0)])
theorem oo_Fa_nearOf_at_Nenear_3 {kA : Nat → ClassId} : or_ok PRD kA GG o_Fa_nearOf_at_Nenear_3 := by
  refine or_mk fun A ta ws vs hD hth hl => ?_
  intro t0 r0 t1 k1 t2 k2 t4 k4 t5 k5 t6 k6 t7 k7 t8 k8 t9 k9 t10 k10 t11 k11 t12 k12 t13 k13 d0 d1 d2 d3 d4 d5 d6 d7 d8 d9 d10 d11 f0 f1 f2 f3 f4 f5 f6 f7 f8 f9 f10 f11 f12 f13
  replace f0 := shm_4 f0
  have f1 : v_iv (n_v vs 12) ≤ v_iv (n_v vs 6) + v_iv (n_v vs 11) ∧ v_iv (n_v vs 6) ≤ v_iv (n_v vs 12) ∧ v_iv (n_v vs 11) ≤ v_iv (n_v vs 12) := (fun (h : v_iv (n_v vs 12) ≤ v_iv (n_v vs 6) + v_iv (n_v vs 11) ∧ v_iv (n_v vs 6) ≤ v_iv (n_v vs 12) ∧ v_iv (n_v vs 11) ≤ v_iv (n_v vs 12) ∧ (v_iv (n_v vs 12)).toNat = (v_iv (n_v vs 6)).toNat ||| (v_iv (n_v vs 11)).toNat) => ⟨h.1, h.2.1, h.2.2.1⟩) f1
  replace f2 := shm_372 f2
  replace f3 := shm_106 f3
  replace f4 := shm_154 f4
  replace f5 := shm_382 f5
  replace f6 := shm_11 f6
  replace f7 := shm_13 f7
  replace f8 := shm_6 f8
  replace f9 := shm_380 f9
  replace f10 := shm_7 f10
  replace f11 := shm_5 f11
  replace f12 := shm_5 f12
  replace f13 := shm_5 f13
  have q3 : n_v vs 3 = n_v vs 0 := f11.symm
  have q4 : n_v vs 4 = n_v vs 1 := f12.symm
  have q5 : n_v vs 5 = n_v vs 2 := f13.symm
  simp only [q3, q5, q4] at f3 f7 f8 f9 f10
  have cr_0_999 : ta (v_ad (n_v vs 0)) = some 82 := r0
  have h3 : v_iv (n_v vs 11) = w_ei ws (v_ad (n_v vs 0)) (v_iv (n_v vs 7)) := f3
  have hK_0_999 := elq_25 hD hth cr_0_999
  have nf0 : fc_1 PRD (20, [3, 13, 5, 12], [61, 1, 556]) ws (vs) := by
    refine ⟨nf_in hl rfl, sgq_380 ?_⟩
    · show NEI (w_ei ws (v_ad (n_v vs 3))) (v_iv (n_v vs 13)) (v_iv (n_v vs 5)) (v_iv (n_v vs 12))
      simp only [q3, q5]
      exact vc_Fa_nearOf_at_Nenear_3_0 (v_iv (n_v vs 1)) (v_iv (n_v vs 2)) (v_iv (n_v vs 4)) (v_iv (n_v vs 5)) (v_iv (n_v vs 6)) (v_iv (n_v vs 7)) (v_iv (n_v vs 8)) (v_iv (n_v vs 9)) (v_iv (n_v vs 10)) (v_iv (n_v vs 11)) (v_iv (n_v vs 12)) (v_iv (n_v vs 13)) (w_ei ws (v_ad (n_v vs 0))) k1 k2 k4 k5 k6 k7 k8 k9 k10 k11 k12 k13 d0 d1 d2 d3 d4 d5 d6 d7 d8 d9 d10 d11 f0 f1 f2 h3 f4 f5 f6 f7 f8 f9 f10 hK_0_999
  have nf1 : fc_1 PRD (23, [13, 4], [0, 1, -1]) ws (vs) := by
    refine ⟨nf_in hl rfl, sgq_7 ?_⟩
    · show 1 * v_iv (n_v vs 13) + ((-1) * v_iv (n_v vs 4) + 0) ≤ 0
      rw [q4]
      exact vc_Fa_nearOf_at_Nenear_3_1 (v_iv (n_v vs 1)) (v_iv (n_v vs 2)) (v_iv (n_v vs 4)) (v_iv (n_v vs 5)) (v_iv (n_v vs 6)) (v_iv (n_v vs 7)) (v_iv (n_v vs 8)) (v_iv (n_v vs 9)) (v_iv (n_v vs 10)) (v_iv (n_v vs 11)) (v_iv (n_v vs 12)) (v_iv (n_v vs 13)) (w_ei ws (v_ad (n_v vs 0))) k1 k2 k4 k5 k6 k7 k8 k9 k10 k11 k12 k13 d0 d1 d2 d3 d4 d5 d6 d7 d8 d9 d10 d11 f0 f1 f2 h3 f4 f5 f6 f7 f8 f9 f10 hK_0_999
  refine ⟨(fun _ h => (by cases h)), [], trivial, ?_, (fun _ h => (by cases h))⟩
  rw [List.append_nil]
  exact List.forall_mem_cons.mpr ⟨⟨show (20 : Nat) < 100 from by decide, nf0⟩, List.forall_mem_cons.mpr ⟨⟨show (23 : Nat) < 100 from by decide, nf1⟩, (fun _ h => (by cases h))⟩⟩
def n_Fa_nearOf_at_Nenear_an : List an_T := [(5, [(0, (2, 0, 0, [82])), (1, (0, 0, 24, [])), (2, (0, 0, 33554431, [])), (3, (0, 0, 16777215, [])), (4, (0, 0, 24, []))], [], (0, 0), [(0, 0, 99995), (1, 7, 24), (0, 0, 100000)], [(1, 4, (Int.negSucc 999999999999), 0), (2, 5, (Int.negSucc 999999999999), 0), (4, 1, (Int.negSucc 999999999999), 0), (5, 2, (Int.negSucc 999999999999), 0), (6, 1, (Int.negSucc 999999999999), 16777214), (6, 4, (Int.negSucc 999999999999), 16777214), (6, 7, (Int.negSucc 999999999999), 16777214), (7, 1, (Int.negSucc 999999999999), 0), (7, 4, (Int.negSucc 999999999999), 0)], [], [(2, 0, 0, [82]), (0, 0, 24, []), (0, 0, 33554431, [])], 0, [], [(20, [3, 7, 5, 6], [61, 1, 556]), (23, [7, 4], [0, 1, (Int.negSucc 0)]), (24, [0, 3], []), (24, [1, 4], []), (24, [2, 5], [])])]
def t_Fa_nearOf_at_Nenear_ct : ct_L := []
set_option maxRecDepth 100000 in
theorem c_Fa_nearOf_at_Nenear {l : Launch} {D : va_G} {kA : Nat → ClassId} : ct_ok PRD l D kA GG y_Fa_nearOf_at_Nenear z_Fa_nearOf_at_Nenear e_Fa_nearOf_at_Nenear := chk_all_ok (FT := []) (PT := []) (CT := t_Fa_nearOf_at_Nenear_ct) (KT := []) (NT := []) (AN := n_Fa_nearOf_at_Nenear_an) (OT := [o_Fa_nearOf_at_Nenear_0, o_Fa_nearOf_at_Nenear_1, o_Fa_nearOf_at_Nenear_2, o_Fa_nearOf_at_Nenear_3]) 3 200 (List.forall_mem_cons.mpr ⟨oo_Fa_nearOf_at_Nenear_0, List.forall_mem_cons.mpr ⟨oo_Fa_nearOf_at_Nenear_1, List.forall_mem_cons.mpr ⟨oo_Fa_nearOf_at_Nenear_2, List.forall_mem_cons.mpr ⟨oo_Fa_nearOf_at_Nenear_3, List.forall_mem_nil _⟩⟩⟩⟩) (by decide +kernel) ⟨List.forall_mem_nil _, List.forall_mem_nil _, List.forall_mem_nil _, List.forall_mem_nil _, List.forall_mem_nil _, GG_pl⟩ (by decide +kernel)
set_option maxHeartbeats 4000000 in
theorem vc_Fa_nearOf_at_Npnear_0_0 (x1 : Int) (x2 : Int) (x3 : Int) (x4 : Int) (a0_0 : Int → Int) (k1 : 0 ≤ x1 ∧ x1 ≤ 25) (k2 : 0 ≤ x2 ∧ x2 ≤ 33554431) (k3 : 0 ≤ x3 ∧ x3 ≤ 0) (k4 : 0 ≤ x4 ∧ x4 ≤ 0) (hK_0_999 : ∀ j : Int, 0 ≤ j → j < 25 → 0 ≤ a0_0 j ∧ a0_0 j ≤ 33554431) : NEI (a0_0) (x4) (x2) (x3) := by
  first
    | exact nei_start (by omega) (by omega)
    | exact nei_skip ‹NEI _ _ _ _› (fun z => by have := (bit_one (by assumption) (by assumption) (by omega) (by omega) (by omega) (by omega)).mp z; omega) (by omega)
    | exact nei_step ‹NEI _ _ _ _› (by omega) ((bit_one (by assumption) (by assumption) (by omega) (by omega) (by omega) (by omega)).mpr (by omega)) (by assumption) (by assumption) (by omega)
  
set_option maxHeartbeats 4000000 in
theorem vc_Fa_nearOf_at_Npnear_0_1 (x1 : Int) (x2 : Int) (x3 : Int) (x4 : Int) (a0_0 : Int → Int) (k1 : 0 ≤ x1 ∧ x1 ≤ 25) (k2 : 0 ≤ x2 ∧ x2 ≤ 33554431) (k3 : 0 ≤ x3 ∧ x3 ≤ 0) (k4 : 0 ≤ x4 ∧ x4 ≤ 0) (hK_0_999 : ∀ j : Int, 0 ≤ j → j < 25 → 0 ≤ a0_0 j ∧ a0_0 j ≤ 33554431) : 1 * x4 + ((-1) * x1 + 0) ≤ 0 := by
  first | omega
def o_Fa_nearOf_at_Npnear_0 : or_T := (5, 5, [(0, (2, 0, 0, [142])), (1, (0, 0, 25, [])), (2, (0, 0, 33554431, [])), (3, (0, 0, 0, [])), (4, (0, 0, 0, []))], [], [], [], [(20, [0, 4, 2, 3], [61, 1, 556]), (23, [4, 1], [0, 1, -1]), (24, [0, 0], []), (24, [1, 1], []), (24, [2, 2], [])], [], [])
theorem oo_Fa_nearOf_at_Npnear_0 {kA : Nat → ClassId} : or_ok PRD kA GG o_Fa_nearOf_at_Npnear_0 := by
  refine or_mk fun A ta ws vs hD hth hl => ?_
  intro t0 r0 t1 k1 t2 k2 t3 k3 t4 k4
  have cr_0_999 : ta (v_ad (n_v vs 0)) = some 142 := r0
  have hK_0_999 := elq_26 hD hth cr_0_999
  have nf0 : fc_1 PRD (20, [0, 4, 2, 3], [61, 1, 556]) ws (vs) := ⟨nf_in hl rfl, sgq_380 (vc_Fa_nearOf_at_Npnear_0_0 (v_iv (n_v vs 1)) (v_iv (n_v vs 2)) (v_iv (n_v vs 3)) (v_iv (n_v vs 4)) (w_ei ws (v_ad (n_v vs 0))) k1 k2 k3 k4 hK_0_999)⟩
  have nf1 : fc_1 PRD (23, [4, 1], [0, 1, -1]) ws (vs) := ⟨nf_in hl rfl, sgq_7 (vc_Fa_nearOf_at_Npnear_0_1 (v_iv (n_v vs 1)) (v_iv (n_v vs 2)) (v_iv (n_v vs 3)) (v_iv (n_v vs 4)) (w_ei ws (v_ad (n_v vs 0))) k1 k2 k3 k4 hK_0_999)⟩
  have nf2 : fc_1 PRD (24, [0, 0], []) ws (vs) := by
    refine ⟨nf_in hl rfl, sgq_1 ?_⟩
    · show n_v vs 0 = n_v vs 0
      first | rfl | simp only [true_and]
  have nf3 : fc_1 PRD (24, [1, 1], []) ws (vs) := by
    refine ⟨nf_in hl rfl, sgq_1 ?_⟩
    · show n_v vs 1 = n_v vs 1
      first | rfl | simp only [true_and]
  have nf4 : fc_1 PRD (24, [2, 2], []) ws (vs) := by
    refine ⟨nf_in hl rfl, sgq_1 ?_⟩
    · show n_v vs 2 = n_v vs 2
      first | rfl | simp only [true_and]
  refine ⟨(fun _ h => (by cases h)), [], trivial, ?_, (fun _ h => (by cases h))⟩
  rw [List.append_nil]
  exact List.forall_mem_cons.mpr ⟨⟨show (20 : Nat) < 100 from by decide, nf0⟩, List.forall_mem_cons.mpr ⟨⟨show (23 : Nat) < 100 from by decide, nf1⟩, List.forall_mem_cons.mpr ⟨⟨show (24 : Nat) < 100 from by decide, nf2⟩, List.forall_mem_cons.mpr ⟨⟨show (24 : Nat) < 100 from by decide, nf3⟩, List.forall_mem_cons.mpr ⟨⟨show (24 : Nat) < 100 from by decide, nf4⟩, (fun _ h => (by cases h))⟩⟩⟩⟩⟩
set_option maxHeartbeats 4000000 in
theorem vc_Fa_nearOf_at_Npnear_1_0 (x1 : Int) (x2 : Int) (x4 : Int) (x5 : Int) (x6 : Int) (x7 : Int) (a0_0 : Int → Int) (k1 : 0 ≤ x1 ∧ x1 ≤ 25) (k2 : 0 ≤ x2 ∧ x2 ≤ 33554431) (k4 : 0 ≤ x4 ∧ x4 ≤ 25) (k5 : 0 ≤ x5 ∧ x5 ≤ 33554431) (k6 : 0 ≤ x6 ∧ x6 ≤ 33554431) (k7 : 0 ≤ x7 ∧ x7 ≤ 25) (d0 : x4 + 0 ≤ x7 ∧ x7 ≤ x4 + 4294967296) (d1 : x4 + (-4294967296) ≤ x1 ∧ x1 ≤ x4 + 0) (d2 : x5 + (-4294967296) ≤ x2 ∧ x2 ≤ x5 + 0) (d3 : x1 + (-4294967296) ≤ x4 ∧ x4 ≤ x1 + 0) (d4 : x2 + (-4294967296) ≤ x5 ∧ x5 ≤ x2 + 0) (d5 : x1 + (-4294967296) ≤ x6 ∧ x6 ≤ x1 + 33554430) (d6 : x4 + (-4294967296) ≤ x6 ∧ x6 ≤ x4 + 33554430) (d7 : x7 + (-4294967296) ≤ x6 ∧ x6 ≤ x7 + 33554430) (d8 : x1 + (-4294967296) ≤ x7 ∧ x7 ≤ x1 + 0) (d9 : x4 + (-4294967296) ≤ x7 ∧ x7 ≤ x4 + 0) (f0 : x1 ≤ x7) (f1 : NEI (a0_0) (x7) (x2) (x6)) (f2 : 1 * x7 + ((-1) * x1 + 0) ≤ 0) (hK_0_999 : ∀ j : Int, 0 ≤ j → j < 25 → 0 ≤ a0_0 j ∧ a0_0 j ≤ 33554431) : NEF (a0_0) (x1) (x2) (x6) := by
  first
    | (rw [show x1 = x7 by omega]; assumption)
  
def o_Fa_nearOf_at_Npnear_1 : or_T := (34, 8, [(0, (2, 0, 0, [142])), (1, (0, 0, 25, [])), (2, (0, 0, 33554431, [])), (4, (0, 0, 25, [])), (5, (0, 0, 33554431, [])), (6, (0, 0, 33554431, [])), (7, (0, 0, 25, []))], [(7, [7, 4], [3]), (20, [3, 7, 5, 6], [61, 1, 556]), (23, [7, 4], [0, 1, -1]), (24, [0, 3], []), (24, [1, 4], []), (24, [2, 5], [])], [], [], [(20, [0, 1, 2, 6], [61, 1, 557])], [], [(7, 4, 0, 4294967296), (1, 4, -4294967296, 0), (2, 5, -4294967296, 0), (4, 1, -4294967296, 0), (5, 2, -4294967296, 0), (6, 1, -4294967296, 33554430), (6, 4, -4294967296, 33554430), (6, 7, -4294967296, 33554430), (7, 1, -4294967296, 0), (7, 4, -4294967296, 0)])
theorem oo_Fa_nearOf_at_Npnear_1 {kA : Nat → ClassId} : or_ok PRD kA GG o_Fa_nearOf_at_Npnear_1 := by
  refine or_mk fun A ta ws vs hD hth hl => ?_
  intro t0 r0 t1 k1 t2 k2 t4 k4 t5 k5 t6 k6 t7 k7 d0 d1 d2 d3 d4 d5 d6 d7 d8 d9 f0 f1 f2 f3 f4 f5
  replace f0 := shm_2 f0
  replace f1 := shm_380 f1
  replace f2 := shm_7 f2
  replace f3 := shm_5 f3
  replace f4 := shm_5 f4
  replace f5 := shm_5 f5
  have q3 : n_v vs 3 = n_v vs 0 := f3.symm
  have q4 : n_v vs 4 = n_v vs 1 := f4.symm
  have q5 : n_v vs 5 = n_v vs 2 := f5.symm
  simp only [q4, q3, q5] at f0 f1 f2
  have cr_0_999 : ta (v_ad (n_v vs 0)) = some 142 := r0
  have hK_0_999 := elq_26 hD hth cr_0_999
  have nf0 : fc_1 PRD (20, [0, 1, 2, 6], [61, 1, 557]) ws (vs) := ⟨nf_in hl rfl, sgq_381 (vc_Fa_nearOf_at_Npnear_1_0 (v_iv (n_v vs 1)) (v_iv (n_v vs 2)) (v_iv (n_v vs 4)) (v_iv (n_v vs 5)) (v_iv (n_v vs 6)) (v_iv (n_v vs 7)) (w_ei ws (v_ad (n_v vs 0))) k1 k2 k4 k5 k6 k7 d0 d1 d2 d3 d4 d5 d6 d7 d8 d9 f0 f1 f2 hK_0_999)⟩
  refine ⟨(fun _ h => (by cases h)), [], trivial, ?_, (fun _ h => (by cases h))⟩
  rw [List.append_nil]
  exact List.forall_mem_cons.mpr ⟨⟨show (20 : Nat) < 100 from by decide, nf0⟩, (fun _ h => (by cases h))⟩
set_option maxHeartbeats 4000000 in
theorem vc_Fa_nearOf_at_Npnear_2_0 (x1 : Int) (x2 : Int) (x4 : Int) (x5 : Int) (x6 : Int) (x7 : Int) (x8 : Int) (x9 : Int) (x10 : Int) (x11 : Int) (a0_0 : Int → Int) (k1 : 1 ≤ x1 ∧ x1 ≤ 25) (k2 : 0 ≤ x2 ∧ x2 ≤ 33554431) (k4 : 1 ≤ x4 ∧ x4 ≤ 25) (k5 : 0 ≤ x5 ∧ x5 ≤ 33554431) (k6 : 0 ≤ x6 ∧ x6 ≤ 33554431) (k7 : 0 ≤ x7 ∧ x7 ≤ 24) (k8 : 0 ≤ x8 ∧ x8 ≤ 33554431) (k9 : 1 ≤ x9 ∧ x9 ≤ 1) (k10 : 0 ≤ x10 ∧ x10 ≤ 0) (k11 : 1 ≤ x11 ∧ x11 ≤ 25) (d0 : x7 + 1 ≤ x11 ∧ x11 ≤ x7 + 1) (d1 : x4 + (-4294967296) ≤ x11 ∧ x11 ≤ x4 + 0) (d2 : x1 + (-4294967296) ≤ x11 ∧ x11 ≤ x1 + 1) (d3 : x4 + (-4294967296) ≤ x11 ∧ x11 ≤ x4 + 1) (d4 : x4 + (-4294967296) ≤ x7 ∧ x7 ≤ x4 + (-1)) (d5 : x4 + (-4294967296) ≤ x1 ∧ x1 ≤ x4 + 0) (d6 : x5 + (-4294967296) ≤ x2 ∧ x2 ≤ x5 + 0) (d7 : x1 + (-4294967296) ≤ x4 ∧ x4 ≤ x1 + 0) (d8 : x2 + (-4294967296) ≤ x5 ∧ x5 ≤ x2 + 0) (d9 : x7 + (-4294967296) ≤ x6 ∧ x6 ≤ x7 + 33554430) (d10 : x1 + (-4294967296) ≤ x7 ∧ x7 ≤ x1 + 0) (d11 : x4 + (-4294967296) ≤ x7 ∧ x7 ≤ x4 + 0) (f0 : x11 = x7 + 1) (f1 : x10 = 0) (f2 : x10 = x8 % 2) (f3 : bvp (x10) = bvp (x8) &&& bvp (x9)) (f4 : bvp (x8) = bvp (x2) >>> (x7).toNat) (f5 : x7 < x1) (f6 : NEI (a0_0) (x7) (x2) (x6)) (f7 : 1 * x7 + ((-1) * x1 + 0) ≤ 0) (hK_0_999 : ∀ j : Int, 0 ≤ j → j < 25 → 0 ≤ a0_0 j ∧ a0_0 j ≤ 33554431) : NEI (a0_0) (x11) (x2) (x6) := by
  first
    | exact nei_start (by omega) (by omega)
    | exact nei_skip ‹NEI _ _ _ _› (fun z => by have := (bit_one (by assumption) (by assumption) (by omega) (by omega) (by omega) (by omega)).mp z; omega) (by omega)
    | exact nei_step ‹NEI _ _ _ _› (by omega) ((bit_one (by assumption) (by assumption) (by omega) (by omega) (by omega) (by omega)).mpr (by omega)) (by assumption) (by assumption) (by omega)
  
set_option maxHeartbeats 4000000 in
theorem vc_Fa_nearOf_at_Npnear_2_1 (x1 : Int) (x2 : Int) (x4 : Int) (x5 : Int) (x6 : Int) (x7 : Int) (x8 : Int) (x9 : Int) (x10 : Int) (x11 : Int) (a0_0 : Int → Int) (k1 : 1 ≤ x1 ∧ x1 ≤ 25) (k2 : 0 ≤ x2 ∧ x2 ≤ 33554431) (k4 : 1 ≤ x4 ∧ x4 ≤ 25) (k5 : 0 ≤ x5 ∧ x5 ≤ 33554431) (k6 : 0 ≤ x6 ∧ x6 ≤ 33554431) (k7 : 0 ≤ x7 ∧ x7 ≤ 24) (k8 : 0 ≤ x8 ∧ x8 ≤ 33554431) (k9 : 1 ≤ x9 ∧ x9 ≤ 1) (k10 : 0 ≤ x10 ∧ x10 ≤ 0) (k11 : 1 ≤ x11 ∧ x11 ≤ 25) (d0 : x7 + 1 ≤ x11 ∧ x11 ≤ x7 + 1) (d1 : x4 + (-4294967296) ≤ x11 ∧ x11 ≤ x4 + 0) (d2 : x1 + (-4294967296) ≤ x11 ∧ x11 ≤ x1 + 1) (d3 : x4 + (-4294967296) ≤ x11 ∧ x11 ≤ x4 + 1) (d4 : x4 + (-4294967296) ≤ x7 ∧ x7 ≤ x4 + (-1)) (d5 : x4 + (-4294967296) ≤ x1 ∧ x1 ≤ x4 + 0) (d6 : x5 + (-4294967296) ≤ x2 ∧ x2 ≤ x5 + 0) (d7 : x1 + (-4294967296) ≤ x4 ∧ x4 ≤ x1 + 0) (d8 : x2 + (-4294967296) ≤ x5 ∧ x5 ≤ x2 + 0) (d9 : x7 + (-4294967296) ≤ x6 ∧ x6 ≤ x7 + 33554430) (d10 : x1 + (-4294967296) ≤ x7 ∧ x7 ≤ x1 + 0) (d11 : x4 + (-4294967296) ≤ x7 ∧ x7 ≤ x4 + 0) (f0 : x11 = x7 + 1) (f1 : x10 = 0) (f2 : x10 = x8 % 2) (f3 : bvp (x10) = bvp (x8) &&& bvp (x9)) (f4 : bvp (x8) = bvp (x2) >>> (x7).toNat) (f5 : x7 < x1) (f6 : NEI (a0_0) (x7) (x2) (x6)) (f7 : 1 * x7 + ((-1) * x1 + 0) ≤ 0) (hK_0_999 : ∀ j : Int, 0 ≤ j → j < 25 → 0 ≤ a0_0 j ∧ a0_0 j ≤ 33554431) : 1 * x11 + ((-1) * x1 + 0) ≤ 0 := by
  first | omega
def o_Fa_nearOf_at_Npnear_2 : or_T := (5, 12, [(0, (2, 0, 0, [142])), (1, (0, 1, 25, [])), (2, (0, 0, 33554431, [])), (4, (0, 1, 25, [])), (5, (0, 0, 33554431, [])), (6, (0, 0, 33554431, [])), (7, (0, 0, 24, [])), (8, (0, 0, 33554431, [])), (9, (0, 1, 1, [])), (10, (0, 0, 0, [])), (11, (0, 1, 25, []))], [(6, [11, 7], [1]), (8, [10], [0]), (12, [10, 8], [2]), (16, [10, 8, 9], [0]), (16, [8, 5, 7], [4]), (7, [7, 4], [2]), (20, [3, 7, 5, 6], [61, 1, 556]), (23, [7, 4], [0, 1, -1]), (24, [0, 3], []), (24, [1, 4], []), (24, [2, 5], [])], [], [], [(20, [3, 11, 5, 6], [61, 1, 556]), (23, [11, 4], [0, 1, -1])], [], [(11, 7, 1, 1), (11, 4, -4294967296, 0), (11, 1, -4294967296, 1), (11, 4, -4294967296, 1), (7, 4, -4294967296, -1), (1, 4, -4294967296, 0), (2, 5, -4294967296, 0), (4, 1, -4294967296, 0), (5, 2, -4294967296, 0), (6, 7, -4294967296, 33554430), (7, 1, -4294967296, 0), (7, 4, -4294967296, 0)])
theorem oo_Fa_nearOf_at_Npnear_2 {kA : Nat → ClassId} : or_ok PRD kA GG o_Fa_nearOf_at_Npnear_2 := by
  refine or_mk fun A ta ws vs hD hth hl => ?_
  intro t0 r0 t1 k1 t2 k2 t4 k4 t5 k5 t6 k6 t7 k7 t8 k8 t9 k9 t10 k10 t11 k11 d0 d1 d2 d3 d4 d5 d6 d7 d8 d9 d10 d11 f0 f1 f2 f3 f4 f5 f6 f7 f8 f9 f10
  replace f0 := shm_4 f0
  replace f1 := shm_210 f1
  replace f2 := shm_382 f2
  replace f3 := shm_11 f3
  replace f4 := shm_13 f4
  replace f5 := shm_6 f5
  replace f6 := shm_380 f6
  replace f7 := shm_7 f7
  replace f8 := shm_5 f8
  replace f9 := shm_5 f9
  replace f10 := shm_5 f10
  have q3 : n_v vs 3 = n_v vs 0 := f8.symm
  have q4 : n_v vs 4 = n_v vs 1 := f9.symm
  have q5 : n_v vs 5 = n_v vs 2 := f10.symm
  simp only [q5, q4, q3] at f4 f5 f6 f7
  have cr_0_999 : ta (v_ad (n_v vs 0)) = some 142 := r0
  have hK_0_999 := elq_26 hD hth cr_0_999
  have nf0 : fc_1 PRD (20, [3, 11, 5, 6], [61, 1, 556]) ws (vs) := by
    refine ⟨nf_in hl rfl, sgq_380 ?_⟩
    · show NEI (w_ei ws (v_ad (n_v vs 3))) (v_iv (n_v vs 11)) (v_iv (n_v vs 5)) (v_iv (n_v vs 6))
      simp only [q3, q5]
      exact vc_Fa_nearOf_at_Npnear_2_0 (v_iv (n_v vs 1)) (v_iv (n_v vs 2)) (v_iv (n_v vs 4)) (v_iv (n_v vs 5)) (v_iv (n_v vs 6)) (v_iv (n_v vs 7)) (v_iv (n_v vs 8)) (v_iv (n_v vs 9)) (v_iv (n_v vs 10)) (v_iv (n_v vs 11)) (w_ei ws (v_ad (n_v vs 0))) k1 k2 k4 k5 k6 k7 k8 k9 k10 k11 d0 d1 d2 d3 d4 d5 d6 d7 d8 d9 d10 d11 f0 f1 f2 f3 f4 f5 f6 f7 hK_0_999
  have nf1 : fc_1 PRD (23, [11, 4], [0, 1, -1]) ws (vs) := by
    refine ⟨nf_in hl rfl, sgq_7 ?_⟩
    · show 1 * v_iv (n_v vs 11) + ((-1) * v_iv (n_v vs 4) + 0) ≤ 0
      rw [q4]
      exact vc_Fa_nearOf_at_Npnear_2_1 (v_iv (n_v vs 1)) (v_iv (n_v vs 2)) (v_iv (n_v vs 4)) (v_iv (n_v vs 5)) (v_iv (n_v vs 6)) (v_iv (n_v vs 7)) (v_iv (n_v vs 8)) (v_iv (n_v vs 9)) (v_iv (n_v vs 10)) (v_iv (n_v vs 11)) (w_ei ws (v_ad (n_v vs 0))) k1 k2 k4 k5 k6 k7 k8 k9 k10 k11 d0 d1 d2 d3 d4 d5 d6 d7 d8 d9 d10 d11 f0 f1 f2 f3 f4 f5 f6 f7 hK_0_999
  refine ⟨(fun _ h => (by cases h)), [], trivial, ?_, (fun _ h => (by cases h))⟩
  rw [List.append_nil]
  exact List.forall_mem_cons.mpr ⟨⟨show (20 : Nat) < 100 from by decide, nf0⟩, List.forall_mem_cons.mpr ⟨⟨show (23 : Nat) < 100 from by decide, nf1⟩, (fun _ h => (by cases h))⟩⟩
set_option maxHeartbeats 4000000 in
theorem vc_Fa_nearOf_at_Npnear_3_0 (x1 : Int) (x2 : Int) (x4 : Int) (x5 : Int) (x6 : Int) (x7 : Int) (x8 : Int) (x9 : Int) (x10 : Int) (x11 : Int) (x12 : Int) (x13 : Int) (a0_0 : Int → Int) (k1 : 1 ≤ x1 ∧ x1 ≤ 25) (k2 : 0 ≤ x2 ∧ x2 ≤ 33554431) (k4 : 1 ≤ x4 ∧ x4 ≤ 25) (k5 : 0 ≤ x5 ∧ x5 ≤ 33554431) (k6 : 0 ≤ x6 ∧ x6 ≤ 33554431) (k7 : 0 ≤ x7 ∧ x7 ≤ 24) (k8 : 0 ≤ x8 ∧ x8 ≤ 33554431) (k9 : 1 ≤ x9 ∧ x9 ≤ 1) (k10 : 1 ≤ x10 ∧ x10 ≤ 1) (k11 : 0 ≤ x11 ∧ x11 ≤ 33554431) (k12 : 0 ≤ x12 ∧ x12 ≤ 33554431) (k13 : 1 ≤ x13 ∧ x13 ≤ 25) (d0 : x7 + 1 ≤ x13 ∧ x13 ≤ x7 + 1) (d1 : x4 + (-4294967296) ≤ x13 ∧ x13 ≤ x4 + 0) (d2 : x1 + (-4294967296) ≤ x13 ∧ x13 ≤ x1 + 1) (d3 : x4 + (-4294967296) ≤ x13 ∧ x13 ≤ x4 + 1) (d4 : x4 + (-4294967296) ≤ x7 ∧ x7 ≤ x4 + (-1)) (d5 : x4 + (-4294967296) ≤ x1 ∧ x1 ≤ x4 + 0) (d6 : x5 + (-4294967296) ≤ x2 ∧ x2 ≤ x5 + 0) (d7 : x1 + (-4294967296) ≤ x4 ∧ x4 ≤ x1 + 0) (d8 : x2 + (-4294967296) ≤ x5 ∧ x5 ≤ x2 + 0) (d9 : x7 + (-4294967296) ≤ x6 ∧ x6 ≤ x7 + 33554430) (d10 : x1 + (-4294967296) ≤ x7 ∧ x7 ≤ x1 + 0) (d11 : x4 + (-4294967296) ≤ x7 ∧ x7 ≤ x4 + 0) (f0 : x13 = x7 + 1) (f1 : x12 ≤ x6 + x11 ∧ x6 ≤ x12 ∧ x11 ≤ x12) (f2 : bvp (x12) = bvp (x6) ||| bvp (x11)) (h3 : x11 = a0_0 (x7)) (f4 : x10 ≠ 0) (f5 : x10 = x8 % 2) (f6 : bvp (x10) = bvp (x8) &&& bvp (x9)) (f7 : bvp (x8) = bvp (x2) >>> (x7).toNat) (f8 : x7 < x1) (f9 : NEI (a0_0) (x7) (x2) (x6)) (f10 : 1 * x7 + ((-1) * x1 + 0) ≤ 0) (hK_0_999 : ∀ j : Int, 0 ≤ j → j < 25 → 0 ≤ a0_0 j ∧ a0_0 j ≤ 33554431) : NEI (a0_0) (x13) (x2) (x12) := by
  first
    | exact nei_start (by omega) (by omega)
    | exact nei_skip ‹NEI _ _ _ _› (fun z => by have := (bit_one (by assumption) (by assumption) (by omega) (by omega) (by omega) (by omega)).mp z; omega) (by omega)
    | exact nei_step ‹NEI _ _ _ _› (by omega) ((bit_one (by assumption) (by assumption) (by omega) (by omega) (by omega) (by omega)).mpr (by omega)) (by assumption) (by assumption) (by omega)
  
set_option maxHeartbeats 4000000 in
theorem vc_Fa_nearOf_at_Npnear_3_1 (x1 : Int) (x2 : Int) (x4 : Int) (x5 : Int) (x6 : Int) (x7 : Int) (x8 : Int) (x9 : Int) (x10 : Int) (x11 : Int) (x12 : Int) (x13 : Int) (a0_0 : Int → Int) (k1 : 1 ≤ x1 ∧ x1 ≤ 25) (k2 : 0 ≤ x2 ∧ x2 ≤ 33554431) (k4 : 1 ≤ x4 ∧ x4 ≤ 25) (k5 : 0 ≤ x5 ∧ x5 ≤ 33554431) (k6 : 0 ≤ x6 ∧ x6 ≤ 33554431) (k7 : 0 ≤ x7 ∧ x7 ≤ 24) (k8 : 0 ≤ x8 ∧ x8 ≤ 33554431) (k9 : 1 ≤ x9 ∧ x9 ≤ 1) (k10 : 1 ≤ x10 ∧ x10 ≤ 1) (k11 : 0 ≤ x11 ∧ x11 ≤ 33554431) (k12 : 0 ≤ x12 ∧ x12 ≤ 33554431) (k13 : 1 ≤ x13 ∧ x13 ≤ 25) (d0 : x7 + 1 ≤ x13 ∧ x13 ≤ x7 + 1) (d1 : x4 + (-4294967296) ≤ x13 ∧ x13 ≤ x4 + 0) (d2 : x1 + (-4294967296) ≤ x13 ∧ x13 ≤ x1 + 1) (d3 : x4 + (-4294967296) ≤ x13 ∧ x13 ≤ x4 + 1) (d4 : x4 + (-4294967296) ≤ x7 ∧ x7 ≤ x4 + (-1)) (d5 : x4 + (-4294967296) ≤ x1 ∧ x1 ≤ x4 + 0) (d6 : x5 + (-4294967296) ≤ x2 ∧ x2 ≤ x5 + 0) (d7 : x1 + (-4294967296) ≤ x4 ∧ x4 ≤ x1 + 0) (d8 : x2 + (-4294967296) ≤ x5 ∧ x5 ≤ x2 + 0) (d9 : x7 + (-4294967296) ≤ x6 ∧ x6 ≤ x7 + 33554430) (d10 : x1 + (-4294967296) ≤ x7 ∧ x7 ≤ x1 + 0) (d11 : x4 + (-4294967296) ≤ x7 ∧ x7 ≤ x4 + 0) (f0 : x13 = x7 + 1) (f1 : x12 ≤ x6 + x11 ∧ x6 ≤ x12 ∧ x11 ≤ x12) (f2 : bvp (x12) = bvp (x6) ||| bvp (x11)) (h3 : x11 = a0_0 (x7)) (f4 : x10 ≠ 0) (f5 : x10 = x8 % 2) (f6 : bvp (x10) = bvp (x8) &&& bvp (x9)) (f7 : bvp (x8) = bvp (x2) >>> (x7).toNat) (f8 : x7 < x1) (f9 : NEI (a0_0) (x7) (x2) (x6)) (f10 : 1 * x7 + ((-1) * x1 + 0) ≤ 0) (hK_0_999 : ∀ j : Int, 0 ≤ j → j < 25 → 0 ≤ a0_0 j ∧ a0_0 j ≤ 33554431) : 1 * x13 + ((-1) * x1 + 0) ≤ 0 := by
  first | omega
def o_Fa_nearOf_at_Npnear_3 : or_T := (5, 14, [(0, (2, 0, 0, [142])), (1, (0, 1, 25, [])), (2, (0, 0, 33554431, [])), (4, (0, 1, 25, [])), (5, (0, 0, 33554431, [])), (6, (0, 0, 33554431, [])), (7, (0, 0, 24, [])), (8, (0, 0, 33554431, [])), (9, (0, 1, 1, [])), (10, (0, 1, 1, [])), (11, (0, 0, 33554431, [])), (12, (0, 0, 33554431, [])), (13, (0, 1, 25, []))], [(6, [13, 7], [1]), (13, [12, 6, 11], []), (16, [12, 6, 11], [1]), (10, [11, 3, 7], []), (8, [10], [1]), (12, [10, 8], [2]), (16, [10, 8, 9], [0]), (16, [8, 5, 7], [4]), (7, [7, 4], [2]), (20, [3, 7, 5, 6], [61, 1, 556]), (23, [7, 4], [0, 1, -1]), (24, [0, 3], []), (24, [1, 4], []), (24, [2, 5], [])], [], [], [(20, [3, 13, 5, 12], [61, 1, 556]), (23, [13, 4], [0, 1, -1])], [], [(13, 7, 1, 1), (13, 4, -4294967296, 0), (13, 1, -4294967296, 1), (13, 4, -4294967296, 1), (7, 4, -4294967296, -1), (1, 4, -4294967296, 0), (2, 5, -4294967296, 0), (4, 1, -4294967296, 0), (5, 2, -4294967296, 0), (6, 7, -4294967296, 33554430), (7, 1, -4294967296, 0), (7, 4, -4294967296, 0)])
theorem oo_Fa_nearOf_at_Npnear_3 {kA : Nat → ClassId} : or_ok PRD kA GG o_Fa_nearOf_at_Npnear_3 := by
  refine or_mk fun A ta ws vs hD hth hl => ?_
  intro t0 r0 t1 k1 t2 k2 t4 k4 t5 k5 t6 k6 t7 k7 t8 k8 t9 k9 t10 k10 t11 k11 t12 k12 t13 k13 d0 d1 d2 d3 d4 d5 d6 d7 d8 d9 d10 d11 f0 f1 f2 f3 f4 f5 f6 f7 f8 f9 f10 f11 f12 f13
  replace f0 := shm_4 f0
  have f1 : v_iv (n_v vs 12) ≤ v_iv (n_v vs 6) + v_iv (n_v vs 11) ∧ v_iv (n_v vs 6) ≤ v_iv (n_v vs 12) ∧ v_iv (n_v vs 11) ≤ v_iv (n_v vs 12) := (fun (h : v_iv (n_v vs 12) ≤ v_iv (n_v vs 6) + v_iv (n_v vs 11) ∧ v_iv (n_v vs 6) ≤ v_iv (n_v vs 12) ∧ v_iv (n_v vs 11) ≤ v_iv (n_v vs 12) ∧ (v_iv (n_v vs 12)).toNat = (v_iv (n_v vs 6)).toNat ||| (v_iv (n_v vs 11)).toNat) => ⟨h.1, h.2.1, h.2.2.1⟩) f1
  replace f2 := shm_372 f2
  replace f3 := shm_106 f3
  replace f4 := shm_154 f4
  replace f5 := shm_382 f5
  replace f6 := shm_11 f6
  replace f7 := shm_13 f7
  replace f8 := shm_6 f8
  replace f9 := shm_380 f9
  replace f10 := shm_7 f10
  replace f11 := shm_5 f11
  replace f12 := shm_5 f12
  replace f13 := shm_5 f13
  have q3 : n_v vs 3 = n_v vs 0 := f11.symm
  have q4 : n_v vs 4 = n_v vs 1 := f12.symm
  have q5 : n_v vs 5 = n_v vs 2 := f13.symm
  simp only [q3, q5, q4] at f3 f7 f8 f9 f10
  have cr_0_999 : ta (v_ad (n_v vs 0)) = some 142 := r0
  have h3 : v_iv (n_v vs 11) = w_ei ws (v_ad (n_v vs 0)) (v_iv (n_v vs 7)) := f3
  have hK_0_999 := elq_26 hD hth cr_0_999
  have nf0 : fc_1 PRD (20, [3, 13, 5, 12], [61, 1, 556]) ws (vs) := by
    refine ⟨nf_in hl rfl, sgq_380 ?_⟩
    · show NEI (w_ei ws (v_ad (n_v vs 3))) (v_iv (n_v vs 13)) (v_iv (n_v vs 5)) (v_iv (n_v vs 12))
      simp only [q3, q5]
      exact vc_Fa_nearOf_at_Npnear_3_0 (v_iv (n_v vs 1)) (v_iv (n_v vs 2)) (v_iv (n_v vs 4)) (v_iv (n_v vs 5)) (v_iv (n_v vs 6)) (v_iv (n_v vs 7)) (v_iv (n_v vs 8)) (v_iv (n_v vs 9)) (v_iv (n_v vs 10)) (v_iv (n_v vs 11)) (v_iv (n_v vs 12)) (v_iv (n_v vs 13)) (w_ei ws (v_ad (n_v vs 0))) k1 k2 k4 k5 k6 k7 k8 k9 k10 k11 k12 k13 d0 d1 d2 d3 d4 d5 d6 d7 d8 d9 d10 d11 f0 f1 f2 h3 f4 f5 f6 f7 f8 f9 f10 hK_0_999
  have nf1 : fc_1 PRD (23, [13, 4], [0, 1, -1]) ws (vs) := by
    refine ⟨nf_in hl rfl, sgq_7 ?_⟩
    · show 1 * v_iv (n_v vs 13) + ((-1) * v_iv (n_v vs 4) + 0) ≤ 0
      rw [q4]
      exact vc_Fa_nearOf_at_Npnear_3_1 (v_iv (n_v vs 1)) (v_iv (n_v vs 2)) (v_iv (n_v vs 4)) (v_iv (n_v vs 5)) (v_iv (n_v vs 6)) (v_iv (n_v vs 7)) (v_iv (n_v vs 8)) (v_iv (n_v vs 9)) (v_iv (n_v vs 10)) (v_iv (n_v vs 11)) (v_iv (n_v vs 12)) (v_iv (n_v vs 13)) (w_ei ws (v_ad (n_v vs 0))) k1 k2 k4 k5 k6 k7 k8 k9 k10 k11 k12 k13 d0 d1 d2 d3 d4 d5 d6 d7 d8 d9 d10 d11 f0 f1 f2 h3 f4 f5 f6 f7 f8 f9 f10 hK_0_999
  refine ⟨(fun _ h => (by cases h)), [], trivial, ?_, (fun _ h => (by cases h))⟩
  rw [List.append_nil]
  exact List.forall_mem_cons.mpr ⟨⟨show (20 : Nat) < 100 from by decide, nf0⟩, List.forall_mem_cons.mpr ⟨⟨show (23 : Nat) < 100 from by decide, nf1⟩, (fun _ h => (by cases h))⟩⟩
def n_Fa_nearOf_at_Npnear_an : List an_T := [(5, [(0, (2, 0, 0, [142])), (1, (0, 0, 25, [])), (2, (0, 0, 33554431, [])), (3, (0, 0, 33554431, [])), (4, (0, 0, 25, []))], [], (0, 0), [(0, 0, 99995), (1, 7, 25), (0, 0, 100000)], [(1, 4, (Int.negSucc 999999999999), 0), (2, 5, (Int.negSucc 999999999999), 0), (4, 1, (Int.negSucc 999999999999), 0), (5, 2, (Int.negSucc 999999999999), 0), (6, 1, (Int.negSucc 999999999999), 33554430), (6, 4, (Int.negSucc 999999999999), 33554430), (6, 7, (Int.negSucc 999999999999), 33554430), (7, 1, (Int.negSucc 999999999999), 0), (7, 4, (Int.negSucc 999999999999), 0)], [], [(2, 0, 0, [142]), (0, 0, 25, []), (0, 0, 33554431, [])], 0, [], [(20, [3, 7, 5, 6], [61, 1, 556]), (23, [7, 4], [0, 1, (Int.negSucc 0)]), (24, [0, 3], []), (24, [1, 4], []), (24, [2, 5], [])])]
def t_Fa_nearOf_at_Npnear_ct : ct_L := []
set_option maxRecDepth 100000 in
theorem c_Fa_nearOf_at_Npnear {l : Launch} {D : va_G} {kA : Nat → ClassId} : ct_ok PRD l D kA GG y_Fa_nearOf_at_Npnear z_Fa_nearOf_at_Npnear e_Fa_nearOf_at_Npnear := chk_all_ok (FT := []) (PT := []) (CT := t_Fa_nearOf_at_Npnear_ct) (KT := []) (NT := []) (AN := n_Fa_nearOf_at_Npnear_an) (OT := [o_Fa_nearOf_at_Npnear_0, o_Fa_nearOf_at_Npnear_1, o_Fa_nearOf_at_Npnear_2, o_Fa_nearOf_at_Npnear_3]) 3 200 (List.forall_mem_cons.mpr ⟨oo_Fa_nearOf_at_Npnear_0, List.forall_mem_cons.mpr ⟨oo_Fa_nearOf_at_Npnear_1, List.forall_mem_cons.mpr ⟨oo_Fa_nearOf_at_Npnear_2, List.forall_mem_cons.mpr ⟨oo_Fa_nearOf_at_Npnear_3, List.forall_mem_nil _⟩⟩⟩⟩) (by decide +kernel) ⟨List.forall_mem_nil _, List.forall_mem_nil _, List.forall_mem_nil _, List.forall_mem_nil _, List.forall_mem_nil _, GG_pl⟩ (by decide +kernel)
set_option maxHeartbeats 4000000 in
theorem vc_Fa_relabel_at_Emblock_gn_0_0 (x1 : Int) (x2 : Int) (x3 : Int) (x6 : Int) (x8 : Int) (x9 : Int) (x10 : Int) (a0_0 : Int → Int) (a4_0 : Int → Int) (a5_0 : Int → Int) (a7_0 : Int → Int) (k1 : 1 ≤ x1 ∧ x1 ≤ 72) (k2 : 0 ≤ x2 ∧ x2 ≤ 71) (k3 : 0 ≤ x3 ∧ x3 ≤ 71) (k6 : 0 ≤ x6 ∧ x6 ≤ 24) (k8 : 0 ≤ x8 ∧ x8 ≤ 25) (k9 : (-2147483648) ≤ x9 ∧ x9 ≤ 2147483647) (k10 : 0 ≤ x10 ∧ x10 ≤ 0) (f0 : BLQ (a0_0) (x1)) (f1 : (0 ≤ x3) ∧ (x3 ≤ x2)) (f2 : RLP (a0_0) (a4_0) (a5_0) (x1) (x2) (x3) (x6)) (f3 : QKP (a0_0) (a4_0) (a5_0) (a7_0) (x8) (x1) (x6) (x9) (x2) (x3)) (hK_0_999 : ∀ j : Int, 0 ≤ j → j < 72 → (-1) ≤ a0_0 j ∧ a0_0 j ≤ 71) (hK_4_999 : ∀ j : Int, 0 ≤ j → j < 72 → 0 ≤ a4_0 j ∧ a4_0 j ≤ 23) (hK_5_999 : ∀ j : Int, 0 ≤ j → j < 72 → 0 ≤ a5_0 j ∧ a5_0 j ≤ 23) (hK_7_999 : ∀ j : Int, 0 ≤ j → j < 25 → 0 ≤ a7_0 j ∧ a7_0 j ≤ 16777215) : RLI (a0_0) (a4_0) (a5_0) (x1) (x2) (x3) (x6) (x10) := by
  first
    | exact rli_start ‹RLP _ _ _ _ _ _ _› (by omega)
    | exact rli_skip ‹RLI _ _ _ _ _ _ _ _› (by assumption) (by omega) (by omega)
    | exact rli_step ‹RLI _ _ _ _ _ _ _ _› (by assumption) (by omega) (by assumption) (by omega) (by omega) (by omega)
  
set_option maxHeartbeats 4000000 in
theorem vc_Fa_relabel_at_Emblock_gn_0_1 (x1 : Int) (x2 : Int) (x3 : Int) (x6 : Int) (x8 : Int) (x9 : Int) (x10 : Int) (a0_0 : Int → Int) (a4_0 : Int → Int) (a5_0 : Int → Int) (a7_0 : Int → Int) (k1 : 1 ≤ x1 ∧ x1 ≤ 72) (k2 : 0 ≤ x2 ∧ x2 ≤ 71) (k3 : 0 ≤ x3 ∧ x3 ≤ 71) (k6 : 0 ≤ x6 ∧ x6 ≤ 24) (k8 : 0 ≤ x8 ∧ x8 ≤ 25) (k9 : (-2147483648) ≤ x9 ∧ x9 ≤ 2147483647) (k10 : 0 ≤ x10 ∧ x10 ≤ 0) (f0 : BLQ (a0_0) (x1)) (f1 : (0 ≤ x3) ∧ (x3 ≤ x2)) (f2 : RLP (a0_0) (a4_0) (a5_0) (x1) (x2) (x3) (x6)) (f3 : QKP (a0_0) (a4_0) (a5_0) (a7_0) (x8) (x1) (x6) (x9) (x2) (x3)) (hK_0_999 : ∀ j : Int, 0 ≤ j → j < 72 → (-1) ≤ a0_0 j ∧ a0_0 j ≤ 71) (hK_4_999 : ∀ j : Int, 0 ≤ j → j < 72 → 0 ≤ a4_0 j ∧ a4_0 j ≤ 23) (hK_5_999 : ∀ j : Int, 0 ≤ j → j < 72 → 0 ≤ a5_0 j ∧ a5_0 j ≤ 23) (hK_7_999 : ∀ j : Int, 0 ≤ j → j < 25 → 0 ≤ a7_0 j ∧ a7_0 j ≤ 16777215) : QKI (a0_0) (a4_0) (a5_0) (a7_0) (x8) (x1) (x6) (x9) (x2) (x3) (x10) := by
  first
    | exact qki_start ‹QKP _ _ _ _ _ _ _ _ _ _› (by omega)
    | exact qki_skip ‹QKI _ _ _ _ _ _ _ _ _ _ _› (by assumption) (by omega) (by omega)
    | exact qki_step ‹QKI _ _ _ _ _ _ _ _ _ _ _› (by assumption) (by omega) (by assumption) rfl (by omega) (by omega)
  
def o_Fa_relabel_at_Emblock_gn_0 : or_T := (3, 11, [(0, (2, 0, 0, [26])), (1, (0, 1, 72, [])), (2, (0, 0, 71, [])), (3, (0, 0, 71, [])), (4, (2, 0, 0, [80])), (5, (2, 0, 0, [81])), (6, (0, 0, 24, [])), (7, (2, 0, 0, [82])), (8, (0, 0, 25, [])), (9, (0, -2147483648, 2147483647, [])), (10, (0, 0, 0, []))], [(20, [0, 1], [61, 1, 566]), (20, [3, 2], [50, 0, 0, 2, 6, 0, 2, 0, 0, 1, 0, 0, 2, 1, 0, 1, 1]), (20, [0, 4, 5, 1, 2, 3, 6], [61, 3, 581]), (20, [0, 4, 5, 7, 8, 1, 6, 9, 2, 3], [61, 4, 590])], [], [], [(20, [0, 4, 5, 1, 2, 3, 6, 10], [61, 3, 582]), (20, [0, 4, 5, 7, 8, 1, 6, 9, 2, 3, 10], [61, 4, 591]), (24, [0, 0], []), (24, [1, 1], []), (24, [2, 2], []), (24, [3, 3], [])], [], [])
theorem oo_Fa_relabel_at_Emblock_gn_0 {kA : Nat → ClassId} : or_ok PRD kA GG o_Fa_relabel_at_Emblock_gn_0 := by
  refine or_mk fun A ta ws vs hD hth hl => ?_
  intro t0 r0 t1 k1 t2 k2 t3 k3 t4 r4 t5 r5 t6 k6 t7 r7 t8 k8 t9 k9 t10 k10 f0 f1 f2 f3
  have cr_0_999 : ta (v_ad (n_v vs 0)) = some 26 := r0
  have cr_4_999 : ta (v_ad (n_v vs 4)) = some 80 := r4
  have cr_5_999 : ta (v_ad (n_v vs 5)) = some 81 := r5
  have cr_7_999 : ta (v_ad (n_v vs 7)) = some 82 := r7
  have hK_0_999 := elq_17 hD hth cr_0_999
  have hK_4_999 := elq_18 hD hth cr_4_999
  have hK_5_999 := elq_19 hD hth cr_5_999
  have hK_7_999 := elq_25 hD hth cr_7_999
  have nf0 : fc_1 PRD (20, [0, 4, 5, 1, 2, 3, 6, 10], [61, 3, 582]) ws (vs) := ⟨nf_in hl rfl, sgq_387 (vc_Fa_relabel_at_Emblock_gn_0_0 (v_iv (n_v vs 1)) (v_iv (n_v vs 2)) (v_iv (n_v vs 3)) (v_iv (n_v vs 6)) (v_iv (n_v vs 8)) (v_iv (n_v vs 9)) (v_iv (n_v vs 10)) (w_ei ws (v_ad (n_v vs 0))) (w_ei ws (v_ad (n_v vs 4))) (w_ei ws (v_ad (n_v vs 5))) (w_ei ws (v_ad (n_v vs 7))) k1 k2 k3 k6 k8 k9 k10 (shm_383 f0) (shm_384 f1) (shm_385 f2) (shm_386 f3) hK_0_999 hK_4_999 hK_5_999 hK_7_999)⟩
  have nf1 : fc_1 PRD (20, [0, 4, 5, 7, 8, 1, 6, 9, 2, 3, 10], [61, 4, 591]) ws (vs) := ⟨nf_in hl rfl, sgq_388 (vc_Fa_relabel_at_Emblock_gn_0_1 (v_iv (n_v vs 1)) (v_iv (n_v vs 2)) (v_iv (n_v vs 3)) (v_iv (n_v vs 6)) (v_iv (n_v vs 8)) (v_iv (n_v vs 9)) (v_iv (n_v vs 10)) (w_ei ws (v_ad (n_v vs 0))) (w_ei ws (v_ad (n_v vs 4))) (w_ei ws (v_ad (n_v vs 5))) (w_ei ws (v_ad (n_v vs 7))) k1 k2 k3 k6 k8 k9 k10 (shm_383 f0) (shm_384 f1) (shm_385 f2) (shm_386 f3) hK_0_999 hK_4_999 hK_5_999 hK_7_999)⟩
  have nf2 : fc_1 PRD (24, [0, 0], []) ws (vs) := by
    refine ⟨nf_in hl rfl, sgq_1 ?_⟩
    · show n_v vs 0 = n_v vs 0
      first | rfl | simp only [true_and]
  have nf3 : fc_1 PRD (24, [1, 1], []) ws (vs) := by
    refine ⟨nf_in hl rfl, sgq_1 ?_⟩
    · show n_v vs 1 = n_v vs 1
      first | rfl | simp only [true_and]
  have nf4 : fc_1 PRD (24, [2, 2], []) ws (vs) := by
    refine ⟨nf_in hl rfl, sgq_1 ?_⟩
    · show n_v vs 2 = n_v vs 2
      first | rfl | simp only [true_and]
  have nf5 : fc_1 PRD (24, [3, 3], []) ws (vs) := by
    refine ⟨nf_in hl rfl, sgq_1 ?_⟩
    · show n_v vs 3 = n_v vs 3
      first | rfl | simp only [true_and]
  refine ⟨(fun _ h => (by cases h)), [], trivial, ?_, (fun _ h => (by cases h))⟩
  rw [List.append_nil]
  exact List.forall_mem_cons.mpr ⟨⟨show (20 : Nat) < 100 from by decide, nf0⟩, List.forall_mem_cons.mpr ⟨⟨show (20 : Nat) < 100 from by decide, nf1⟩, List.forall_mem_cons.mpr ⟨⟨show (24 : Nat) < 100 from by decide, nf2⟩, List.forall_mem_cons.mpr ⟨⟨show (24 : Nat) < 100 from by decide, nf3⟩, List.forall_mem_cons.mpr ⟨⟨show (24 : Nat) < 100 from by decide, nf4⟩, List.forall_mem_cons.mpr ⟨⟨show (24 : Nat) < 100 from by decide, nf5⟩, (fun _ h => (by cases h))⟩⟩⟩⟩⟩⟩
set_option maxHeartbeats 4000000 in
theorem vc_Fa_relabel_at_Emblock_gn_1_0 (x1 : Int) (x2 : Int) (x3 : Int) (x6 : Int) (x8 : Int) (x9 : Int) (x11 : Int) (x12 : Int) (x13 : Int) (x14 : Int) (a0_0 : Int → Int) (a4_0 : Int → Int) (a5_0 : Int → Int) (a7_0 : Int → Int) (k1 : 1 ≤ x1 ∧ x1 ≤ 72) (k2 : 0 ≤ x2 ∧ x2 ≤ 71) (k3 : 0 ≤ x3 ∧ x3 ≤ 71) (k6 : 0 ≤ x6 ∧ x6 ≤ 24) (k8 : 0 ≤ x8 ∧ x8 ≤ 25) (k9 : (-2147483648) ≤ x9 ∧ x9 ≤ 2147483647) (k11 : 1 ≤ x11 ∧ x11 ≤ 72) (k12 : 0 ≤ x12 ∧ x12 ≤ 71) (k13 : 0 ≤ x13 ∧ x13 ≤ 71) (k14 : 1 ≤ x14 ∧ x14 ≤ 72) (d0 : x11 + 0 ≤ x14 ∧ x14 ≤ x11 + 4294967296) (d1 : x11 + (-4294967296) ≤ x1 ∧ x1 ≤ x11 + 0) (d2 : x12 + (-4294967296) ≤ x2 ∧ x2 ≤ x12 + 0) (d3 : x13 + (-4294967296) ≤ x3 ∧ x3 ≤ x13 + 0) (d4 : x1 + (-4294967296) ≤ x11 ∧ x11 ≤ x1 + 0) (d5 : x2 + (-4294967296) ≤ x12 ∧ x12 ≤ x2 + 0) (d6 : x3 + (-4294967296) ≤ x13 ∧ x13 ≤ x3 + 0) (d7 : x1 + (-4294967296) ≤ x14 ∧ x14 ≤ x1 + 0) (d8 : x11 + (-4294967296) ≤ x14 ∧ x14 ≤ x11 + 0) (f0 : x1 ≤ x14) (f1 : BLQ (a0_0) (x1)) (f2 : (0 ≤ x3) ∧ (x3 ≤ x2)) (f3 : RLI (a0_0) (a4_0) (a5_0) (x1) (x2) (x3) (x6) (x14)) (f4 : QKI (a0_0) (a4_0) (a5_0) (a7_0) (x8) (x1) (x6) (x9) (x2) (x3) (x14)) (hK_0_999 : ∀ j : Int, 0 ≤ j → j < 72 → (-1) ≤ a0_0 j ∧ a0_0 j ≤ 71) (hK_4_999 : ∀ j : Int, 0 ≤ j → j < 72 → 0 ≤ a4_0 j ∧ a4_0 j ≤ 23) (hK_5_999 : ∀ j : Int, 0 ≤ j → j < 72 → 0 ≤ a5_0 j ∧ a5_0 j ≤ 23) (hK_7_999 : ∀ j : Int, 0 ≤ j → j < 25 → 0 ≤ a7_0 j ∧ a7_0 j ≤ 16777215) : BLQ (a0_0) (x1) := by
  first
    | assumption
    | (skip; exact blq_set ‹BLQ _ _› (by assumption) rfl rfl (by omega) (by omega) (by omega) (by omega) (by omega))
  
set_option maxHeartbeats 4000000 in
theorem vc_Fa_relabel_at_Emblock_gn_1_1 (x1 : Int) (x2 : Int) (x3 : Int) (x6 : Int) (x8 : Int) (x9 : Int) (x11 : Int) (x12 : Int) (x13 : Int) (x14 : Int) (a0_0 : Int → Int) (a4_0 : Int → Int) (a5_0 : Int → Int) (a7_0 : Int → Int) (k1 : 1 ≤ x1 ∧ x1 ≤ 72) (k2 : 0 ≤ x2 ∧ x2 ≤ 71) (k3 : 0 ≤ x3 ∧ x3 ≤ 71) (k6 : 0 ≤ x6 ∧ x6 ≤ 24) (k8 : 0 ≤ x8 ∧ x8 ≤ 25) (k9 : (-2147483648) ≤ x9 ∧ x9 ≤ 2147483647) (k11 : 1 ≤ x11 ∧ x11 ≤ 72) (k12 : 0 ≤ x12 ∧ x12 ≤ 71) (k13 : 0 ≤ x13 ∧ x13 ≤ 71) (k14 : 1 ≤ x14 ∧ x14 ≤ 72) (d0 : x11 + 0 ≤ x14 ∧ x14 ≤ x11 + 4294967296) (d1 : x11 + (-4294967296) ≤ x1 ∧ x1 ≤ x11 + 0) (d2 : x12 + (-4294967296) ≤ x2 ∧ x2 ≤ x12 + 0) (d3 : x13 + (-4294967296) ≤ x3 ∧ x3 ≤ x13 + 0) (d4 : x1 + (-4294967296) ≤ x11 ∧ x11 ≤ x1 + 0) (d5 : x2 + (-4294967296) ≤ x12 ∧ x12 ≤ x2 + 0) (d6 : x3 + (-4294967296) ≤ x13 ∧ x13 ≤ x3 + 0) (d7 : x1 + (-4294967296) ≤ x14 ∧ x14 ≤ x1 + 0) (d8 : x11 + (-4294967296) ≤ x14 ∧ x14 ≤ x11 + 0) (f0 : x1 ≤ x14) (f1 : BLQ (a0_0) (x1)) (f2 : (0 ≤ x3) ∧ (x3 ≤ x2)) (f3 : RLI (a0_0) (a4_0) (a5_0) (x1) (x2) (x3) (x6) (x14)) (f4 : QKI (a0_0) (a4_0) (a5_0) (a7_0) (x8) (x1) (x6) (x9) (x2) (x3) (x14)) (hK_0_999 : ∀ j : Int, 0 ≤ j → j < 72 → (-1) ≤ a0_0 j ∧ a0_0 j ≤ 71) (hK_4_999 : ∀ j : Int, 0 ≤ j → j < 72 → 0 ≤ a4_0 j ∧ a4_0 j ≤ 23) (hK_5_999 : ∀ j : Int, 0 ≤ j → j < 72 → 0 ≤ a5_0 j ∧ a5_0 j ≤ 23) (hK_7_999 : ∀ j : Int, 0 ≤ j → j < 25 → 0 ≤ a7_0 j ∧ a7_0 j ≤ 16777215) : RLO (a0_0) (a4_0) (a5_0) (x1) (x3) (x6) := by
  first
    | exact rlo_of ‹RLI _ _ _ _ _ _ _ _› (by omega)
  
set_option maxHeartbeats 4000000 in
theorem vc_Fa_relabel_at_Emblock_gn_1_2 (x1 : Int) (x2 : Int) (x3 : Int) (x6 : Int) (x8 : Int) (x9 : Int) (x11 : Int) (x12 : Int) (x13 : Int) (x14 : Int) (a0_0 : Int → Int) (a4_0 : Int → Int) (a5_0 : Int → Int) (a7_0 : Int → Int) (k1 : 1 ≤ x1 ∧ x1 ≤ 72) (k2 : 0 ≤ x2 ∧ x2 ≤ 71) (k3 : 0 ≤ x3 ∧ x3 ≤ 71) (k6 : 0 ≤ x6 ∧ x6 ≤ 24) (k8 : 0 ≤ x8 ∧ x8 ≤ 25) (k9 : (-2147483648) ≤ x9 ∧ x9 ≤ 2147483647) (k11 : 1 ≤ x11 ∧ x11 ≤ 72) (k12 : 0 ≤ x12 ∧ x12 ≤ 71) (k13 : 0 ≤ x13 ∧ x13 ≤ 71) (k14 : 1 ≤ x14 ∧ x14 ≤ 72) (d0 : x11 + 0 ≤ x14 ∧ x14 ≤ x11 + 4294967296) (d1 : x11 + (-4294967296) ≤ x1 ∧ x1 ≤ x11 + 0) (d2 : x12 + (-4294967296) ≤ x2 ∧ x2 ≤ x12 + 0) (d3 : x13 + (-4294967296) ≤ x3 ∧ x3 ≤ x13 + 0) (d4 : x1 + (-4294967296) ≤ x11 ∧ x11 ≤ x1 + 0) (d5 : x2 + (-4294967296) ≤ x12 ∧ x12 ≤ x2 + 0) (d6 : x3 + (-4294967296) ≤ x13 ∧ x13 ≤ x3 + 0) (d7 : x1 + (-4294967296) ≤ x14 ∧ x14 ≤ x1 + 0) (d8 : x11 + (-4294967296) ≤ x14 ∧ x14 ≤ x11 + 0) (f0 : x1 ≤ x14) (f1 : BLQ (a0_0) (x1)) (f2 : (0 ≤ x3) ∧ (x3 ≤ x2)) (f3 : RLI (a0_0) (a4_0) (a5_0) (x1) (x2) (x3) (x6) (x14)) (f4 : QKI (a0_0) (a4_0) (a5_0) (a7_0) (x8) (x1) (x6) (x9) (x2) (x3) (x14)) (hK_0_999 : ∀ j : Int, 0 ≤ j → j < 72 → (-1) ≤ a0_0 j ∧ a0_0 j ≤ 71) (hK_4_999 : ∀ j : Int, 0 ≤ j → j < 72 → 0 ≤ a4_0 j ∧ a4_0 j ≤ 23) (hK_5_999 : ∀ j : Int, 0 ≤ j → j < 72 → 0 ≤ a5_0 j ∧ a5_0 j ≤ 23) (hK_7_999 : ∀ j : Int, 0 ≤ j → j < 25 → 0 ≤ a7_0 j ∧ a7_0 j ≤ 16777215) : QKO (a0_0) (a4_0) (a5_0) (a7_0) (x8) (x1) (x6) (x9) (x3) := by
  first
    | exact qko_of ‹QKI _ _ _ _ _ _ _ _ _ _ _› (by omega)
  
def o_Fa_relabel_at_Emblock_gn_1 : or_T := (28, 15, [(0, (2, 0, 0, [26])), (1, (0, 1, 72, [])), (2, (0, 0, 71, [])), (3, (0, 0, 71, [])), (4, (2, 0, 0, [80])), (5, (2, 0, 0, [81])), (6, (0, 0, 24, [])), (7, (2, 0, 0, [82])), (8, (0, 0, 25, [])), (9, (0, -2147483648, 2147483647, [])), (11, (0, 1, 72, [])), (12, (0, 0, 71, [])), (13, (0, 0, 71, [])), (14, (0, 1, 72, []))], [(7, [14, 11], [3]), (20, [10, 11], [61, 1, 566]), (20, [13, 12], [50, 0, 0, 2, 6, 0, 2, 0, 0, 1, 0, 0, 2, 1, 0, 1, 1]), (20, [10, 4, 5, 11, 12, 13, 6, 14], [61, 3, 582]), (20, [10, 4, 5, 7, 8, 11, 6, 9, 12, 13, 14], [61, 4, 591]), (24, [0, 10], []), (24, [1, 11], []), (24, [2, 12], []), (24, [3, 13], [])], [], [], [(20, [0, 1], [61, 1, 566]), (20, [0, 4, 5, 1, 3, 6], [61, 3, 583]), (20, [0, 4, 5, 7, 8, 1, 6, 9, 3], [61, 4, 592])], [], [(14, 11, 0, 4294967296), (1, 11, -4294967296, 0), (2, 12, -4294967296, 0), (3, 13, -4294967296, 0), (11, 1, -4294967296, 0), (12, 2, -4294967296, 0), (13, 3, -4294967296, 0), (14, 1, -4294967296, 0), (14, 11, -4294967296, 0)])
theorem oo_Fa_relabel_at_Emblock_gn_1 {kA : Nat → ClassId} : or_ok PRD kA GG o_Fa_relabel_at_Emblock_gn_1 := by
  refine or_mk fun A ta ws vs hD hth hl => ?_
  intro t0 r0 t1 k1 t2 k2 t3 k3 t4 r4 t5 r5 t6 k6 t7 r7 t8 k8 t9 k9 t11 k11 t12 k12 t13 k13 t14 k14 d0 d1 d2 d3 d4 d5 d6 d7 d8 f0 f1 f2 f3 f4 f5 f6 f7 f8
  replace f0 := shm_2 f0
  replace f1 := shm_383 f1
  replace f2 := shm_384 f2
  replace f3 := shm_387 f3
  replace f4 := shm_388 f4
  replace f5 := shm_5 f5
  replace f6 := shm_5 f6
  replace f7 := shm_5 f7
  replace f8 := shm_5 f8
  have q10 : n_v vs 10 = n_v vs 0 := f5.symm
  have q11 : n_v vs 11 = n_v vs 1 := f6.symm
  have q12 : n_v vs 12 = n_v vs 2 := f7.symm
  have q13 : n_v vs 13 = n_v vs 3 := f8.symm
  simp only [q11, q10, q12, q13] at f0 f1 f2 f3 f4
  have cr_0_999 : ta (v_ad (n_v vs 0)) = some 26 := r0
  have cr_4_999 : ta (v_ad (n_v vs 4)) = some 80 := r4
  have cr_5_999 : ta (v_ad (n_v vs 5)) = some 81 := r5
  have cr_7_999 : ta (v_ad (n_v vs 7)) = some 82 := r7
  have hK_0_999 := elq_17 hD hth cr_0_999
  have hK_4_999 := elq_18 hD hth cr_4_999
  have hK_5_999 := elq_19 hD hth cr_5_999
  have hK_7_999 := elq_25 hD hth cr_7_999
  have nf0 : fc_1 PRD (20, [0, 1], [61, 1, 566]) ws (vs) := ⟨nf_in hl rfl, sgq_383 (vc_Fa_relabel_at_Emblock_gn_1_0 (v_iv (n_v vs 1)) (v_iv (n_v vs 2)) (v_iv (n_v vs 3)) (v_iv (n_v vs 6)) (v_iv (n_v vs 8)) (v_iv (n_v vs 9)) (v_iv (n_v vs 11)) (v_iv (n_v vs 12)) (v_iv (n_v vs 13)) (v_iv (n_v vs 14)) (w_ei ws (v_ad (n_v vs 0))) (w_ei ws (v_ad (n_v vs 4))) (w_ei ws (v_ad (n_v vs 5))) (w_ei ws (v_ad (n_v vs 7))) k1 k2 k3 k6 k8 k9 k11 k12 k13 k14 d0 d1 d2 d3 d4 d5 d6 d7 d8 f0 f1 f2 f3 f4 hK_0_999 hK_4_999 hK_5_999 hK_7_999)⟩
  have nf1 : fc_1 PRD (20, [0, 4, 5, 1, 3, 6], [61, 3, 583]) ws (vs) := ⟨nf_in hl rfl, sgq_389 (vc_Fa_relabel_at_Emblock_gn_1_1 (v_iv (n_v vs 1)) (v_iv (n_v vs 2)) (v_iv (n_v vs 3)) (v_iv (n_v vs 6)) (v_iv (n_v vs 8)) (v_iv (n_v vs 9)) (v_iv (n_v vs 11)) (v_iv (n_v vs 12)) (v_iv (n_v vs 13)) (v_iv (n_v vs 14)) (w_ei ws (v_ad (n_v vs 0))) (w_ei ws (v_ad (n_v vs 4))) (w_ei ws (v_ad (n_v vs 5))) (w_ei ws (v_ad (n_v vs 7))) k1 k2 k3 k6 k8 k9 k11 k12 k13 k14 d0 d1 d2 d3 d4 d5 d6 d7 d8 f0 f1 f2 f3 f4 hK_0_999 hK_4_999 hK_5_999 hK_7_999)⟩
  have nf2 : fc_1 PRD (20, [0, 4, 5, 7, 8, 1, 6, 9, 3], [61, 4, 592]) ws (vs) := ⟨nf_in hl rfl, sgq_390 (vc_Fa_relabel_at_Emblock_gn_1_2 (v_iv (n_v vs 1)) (v_iv (n_v vs 2)) (v_iv (n_v vs 3)) (v_iv (n_v vs 6)) (v_iv (n_v vs 8)) (v_iv (n_v vs 9)) (v_iv (n_v vs 11)) (v_iv (n_v vs 12)) (v_iv (n_v vs 13)) (v_iv (n_v vs 14)) (w_ei ws (v_ad (n_v vs 0))) (w_ei ws (v_ad (n_v vs 4))) (w_ei ws (v_ad (n_v vs 5))) (w_ei ws (v_ad (n_v vs 7))) k1 k2 k3 k6 k8 k9 k11 k12 k13 k14 d0 d1 d2 d3 d4 d5 d6 d7 d8 f0 f1 f2 f3 f4 hK_0_999 hK_4_999 hK_5_999 hK_7_999)⟩
  refine ⟨(fun _ h => (by cases h)), [], trivial, ?_, (fun _ h => (by cases h))⟩
  rw [List.append_nil]
  exact List.forall_mem_cons.mpr ⟨⟨show (20 : Nat) < 100 from by decide, nf0⟩, List.forall_mem_cons.mpr ⟨⟨show (20 : Nat) < 100 from by decide, nf1⟩, List.forall_mem_cons.mpr ⟨⟨show (20 : Nat) < 100 from by decide, nf2⟩, (fun _ h => (by cases h))⟩⟩⟩
set_option maxHeartbeats 4000000 in
theorem vc_Fa_relabel_at_Emblock_gn_2_0 (x1 : Int) (x2 : Int) (x3 : Int) (x6 : Int) (x8 : Int) (x9 : Int) (x11 : Int) (x12 : Int) (x13 : Int) (x14 : Int) (x15 : Int) (x16 : Int) (a0_0 : Int → Int) (a4_0 : Int → Int) (a5_0 : Int → Int) (a7_0 : Int → Int) (k1 : 1 ≤ x1 ∧ x1 ≤ 72) (k2 : 0 ≤ x2 ∧ x2 ≤ 71) (k3 : 0 ≤ x3 ∧ x3 ≤ 71) (k6 : 0 ≤ x6 ∧ x6 ≤ 24) (k8 : 0 ≤ x8 ∧ x8 ≤ 25) (k9 : (-2147483648) ≤ x9 ∧ x9 ≤ 2147483647) (k11 : 1 ≤ x11 ∧ x11 ≤ 72) (k12 : 0 ≤ x12 ∧ x12 ≤ 71) (k13 : 0 ≤ x13 ∧ x13 ≤ 71) (k14 : 0 ≤ x14 ∧ x14 ≤ 71) (k15 : (-1) ≤ x15 ∧ x15 ≤ 71) (k16 : 1 ≤ x16 ∧ x16 ≤ 72) (d0 : x14 + 1 ≤ x16 ∧ x16 ≤ x14 + 1) (d1 : x11 + (-4294967296) ≤ x16 ∧ x16 ≤ x11 + 0) (d2 : x1 + (-4294967296) ≤ x16 ∧ x16 ≤ x1 + 1) (d3 : x11 + (-4294967296) ≤ x16 ∧ x16 ≤ x11 + 1) (d4 : x11 + (-4294967296) ≤ x14 ∧ x14 ≤ x11 + (-1)) (d5 : x11 + (-4294967296) ≤ x1 ∧ x1 ≤ x11 + 0) (d6 : x12 + (-4294967296) ≤ x2 ∧ x2 ≤ x12 + 0) (d7 : x13 + (-4294967296) ≤ x3 ∧ x3 ≤ x13 + 0) (d8 : x1 + (-4294967296) ≤ x11 ∧ x11 ≤ x1 + 0) (d9 : x2 + (-4294967296) ≤ x12 ∧ x12 ≤ x2 + 0) (d10 : x3 + (-4294967296) ≤ x13 ∧ x13 ≤ x3 + 0) (d11 : x1 + (-4294967296) ≤ x14 ∧ x14 ≤ x1 + 0) (d12 : x11 + (-4294967296) ≤ x14 ∧ x14 ≤ x11 + 0) (f0 : x16 = x14 + 1) (f1 : x15 ≠ x2) (h2 : x15 = a0_0 (x14)) (f3 : x14 < x1) (f4 : BLQ (a0_0) (x1)) (f5 : (0 ≤ x3) ∧ (x3 ≤ x2)) (f6 : RLI (a0_0) (a4_0) (a5_0) (x1) (x2) (x3) (x6) (x14)) (f7 : QKI (a0_0) (a4_0) (a5_0) (a7_0) (x8) (x1) (x6) (x9) (x2) (x3) (x14)) (hK_0_999 : ∀ j : Int, 0 ≤ j → j < 72 → (-1) ≤ a0_0 j ∧ a0_0 j ≤ 71) (hK_4_999 : ∀ j : Int, 0 ≤ j → j < 72 → 0 ≤ a4_0 j ∧ a4_0 j ≤ 23) (hK_5_999 : ∀ j : Int, 0 ≤ j → j < 72 → 0 ≤ a5_0 j ∧ a5_0 j ≤ 23) (hK_7_999 : ∀ j : Int, 0 ≤ j → j < 25 → 0 ≤ a7_0 j ∧ a7_0 j ≤ 16777215) : RLI (a0_0) (a4_0) (a5_0) (x1) (x2) (x3) (x6) (x16) := by
  first
    | exact rli_start ‹RLP _ _ _ _ _ _ _› (by omega)
    | exact rli_skip ‹RLI _ _ _ _ _ _ _ _› (by assumption) (by omega) (by omega)
    | exact rli_step ‹RLI _ _ _ _ _ _ _ _› (by assumption) (by omega) (by assumption) (by omega) (by omega) (by omega)
  
set_option maxHeartbeats 4000000 in
theorem vc_Fa_relabel_at_Emblock_gn_2_1 (x1 : Int) (x2 : Int) (x3 : Int) (x6 : Int) (x8 : Int) (x9 : Int) (x11 : Int) (x12 : Int) (x13 : Int) (x14 : Int) (x15 : Int) (x16 : Int) (a0_0 : Int → Int) (a4_0 : Int → Int) (a5_0 : Int → Int) (a7_0 : Int → Int) (k1 : 1 ≤ x1 ∧ x1 ≤ 72) (k2 : 0 ≤ x2 ∧ x2 ≤ 71) (k3 : 0 ≤ x3 ∧ x3 ≤ 71) (k6 : 0 ≤ x6 ∧ x6 ≤ 24) (k8 : 0 ≤ x8 ∧ x8 ≤ 25) (k9 : (-2147483648) ≤ x9 ∧ x9 ≤ 2147483647) (k11 : 1 ≤ x11 ∧ x11 ≤ 72) (k12 : 0 ≤ x12 ∧ x12 ≤ 71) (k13 : 0 ≤ x13 ∧ x13 ≤ 71) (k14 : 0 ≤ x14 ∧ x14 ≤ 71) (k15 : (-1) ≤ x15 ∧ x15 ≤ 71) (k16 : 1 ≤ x16 ∧ x16 ≤ 72) (d0 : x14 + 1 ≤ x16 ∧ x16 ≤ x14 + 1) (d1 : x11 + (-4294967296) ≤ x16 ∧ x16 ≤ x11 + 0) (d2 : x1 + (-4294967296) ≤ x16 ∧ x16 ≤ x1 + 1) (d3 : x11 + (-4294967296) ≤ x16 ∧ x16 ≤ x11 + 1) (d4 : x11 + (-4294967296) ≤ x14 ∧ x14 ≤ x11 + (-1)) (d5 : x11 + (-4294967296) ≤ x1 ∧ x1 ≤ x11 + 0) (d6 : x12 + (-4294967296) ≤ x2 ∧ x2 ≤ x12 + 0) (d7 : x13 + (-4294967296) ≤ x3 ∧ x3 ≤ x13 + 0) (d8 : x1 + (-4294967296) ≤ x11 ∧ x11 ≤ x1 + 0) (d9 : x2 + (-4294967296) ≤ x12 ∧ x12 ≤ x2 + 0) (d10 : x3 + (-4294967296) ≤ x13 ∧ x13 ≤ x3 + 0) (d11 : x1 + (-4294967296) ≤ x14 ∧ x14 ≤ x1 + 0) (d12 : x11 + (-4294967296) ≤ x14 ∧ x14 ≤ x11 + 0) (f0 : x16 = x14 + 1) (f1 : x15 ≠ x2) (h2 : x15 = a0_0 (x14)) (f3 : x14 < x1) (f4 : BLQ (a0_0) (x1)) (f5 : (0 ≤ x3) ∧ (x3 ≤ x2)) (f6 : RLI (a0_0) (a4_0) (a5_0) (x1) (x2) (x3) (x6) (x14)) (f7 : QKI (a0_0) (a4_0) (a5_0) (a7_0) (x8) (x1) (x6) (x9) (x2) (x3) (x14)) (hK_0_999 : ∀ j : Int, 0 ≤ j → j < 72 → (-1) ≤ a0_0 j ∧ a0_0 j ≤ 71) (hK_4_999 : ∀ j : Int, 0 ≤ j → j < 72 → 0 ≤ a4_0 j ∧ a4_0 j ≤ 23) (hK_5_999 : ∀ j : Int, 0 ≤ j → j < 72 → 0 ≤ a5_0 j ∧ a5_0 j ≤ 23) (hK_7_999 : ∀ j : Int, 0 ≤ j → j < 25 → 0 ≤ a7_0 j ∧ a7_0 j ≤ 16777215) : QKI (a0_0) (a4_0) (a5_0) (a7_0) (x8) (x1) (x6) (x9) (x2) (x3) (x16) := by
  first
    | exact qki_start ‹QKP _ _ _ _ _ _ _ _ _ _› (by omega)
    | exact qki_skip ‹QKI _ _ _ _ _ _ _ _ _ _ _› (by assumption) (by omega) (by omega)
    | exact qki_step ‹QKI _ _ _ _ _ _ _ _ _ _ _› (by assumption) (by omega) (by assumption) rfl (by omega) (by omega)
  
def o_Fa_relabel_at_Emblock_gn_2 : or_T := (3, 17, [(0, (2, 0, 0, [26])), (1, (0, 1, 72, [])), (2, (0, 0, 71, [])), (3, (0, 0, 71, [])), (4, (2, 0, 0, [80])), (5, (2, 0, 0, [81])), (6, (0, 0, 24, [])), (7, (2, 0, 0, [82])), (8, (0, 0, 25, [])), (9, (0, -2147483648, 2147483647, [])), (10, (2, 0, 0, [26])), (11, (0, 1, 72, [])), (12, (0, 0, 71, [])), (13, (0, 0, 71, [])), (14, (0, 0, 71, [])), (15, (0, -1, 71, [])), (16, (0, 1, 72, []))], [(6, [16, 14], [1]), (7, [15, 12], [1]), (10, [15, 10, 14], []), (7, [14, 11], [2]), (20, [10, 11], [61, 1, 566]), (20, [13, 12], [50, 0, 0, 2, 6, 0, 2, 0, 0, 1, 0, 0, 2, 1, 0, 1, 1]), (20, [10, 4, 5, 11, 12, 13, 6, 14], [61, 3, 582]), (20, [10, 4, 5, 7, 8, 11, 6, 9, 12, 13, 14], [61, 4, 591]), (24, [0, 10], []), (24, [1, 11], []), (24, [2, 12], []), (24, [3, 13], [])], [], [], [(20, [10, 4, 5, 11, 12, 13, 6, 16], [61, 3, 582]), (20, [10, 4, 5, 7, 8, 11, 6, 9, 12, 13, 16], [61, 4, 591])], [], [(16, 14, 1, 1), (16, 11, -4294967296, 0), (16, 1, -4294967296, 1), (16, 11, -4294967296, 1), (14, 11, -4294967296, -1), (1, 11, -4294967296, 0), (2, 12, -4294967296, 0), (3, 13, -4294967296, 0), (11, 1, -4294967296, 0), (12, 2, -4294967296, 0), (13, 3, -4294967296, 0), (14, 1, -4294967296, 0), (14, 11, -4294967296, 0)])
theorem oo_Fa_relabel_at_Emblock_gn_2 {kA : Nat → ClassId} : or_ok PRD kA GG o_Fa_relabel_at_Emblock_gn_2 := by
  refine or_mk fun A ta ws vs hD hth hl => ?_
  intro t0 r0 t1 k1 t2 k2 t3 k3 t4 r4 t5 r5 t6 k6 t7 r7 t8 k8 t9 k9 t10 r10 t11 k11 t12 k12 t13 k13 t14 k14 t15 k15 t16 k16 d0 d1 d2 d3 d4 d5 d6 d7 d8 d9 d10 d11 d12 f0 f1 f2 f3 f4 f5 f6 f7 f8 f9 f10 f11
  replace f0 := shm_4 f0
  replace f1 := shm_40 f1
  replace f2 := shm_106 f2
  replace f3 := shm_6 f3
  replace f4 := shm_383 f4
  replace f5 := shm_384 f5
  replace f6 := shm_387 f6
  replace f7 := shm_388 f7
  replace f8 := shm_5 f8
  replace f9 := shm_5 f9
  replace f10 := shm_5 f10
  replace f11 := shm_5 f11
  have q10 : n_v vs 10 = n_v vs 0 := f8.symm
  have q11 : n_v vs 11 = n_v vs 1 := f9.symm
  have q12 : n_v vs 12 = n_v vs 2 := f10.symm
  have q13 : n_v vs 13 = n_v vs 3 := f11.symm
  simp only [q12, q10, q11, q13] at f1 f2 f3 f4 f5 f6 f7
  have cr_0_999 : ta (v_ad (n_v vs 0)) = some 26 := r0
  have cr_4_999 : ta (v_ad (n_v vs 4)) = some 80 := r4
  have cr_5_999 : ta (v_ad (n_v vs 5)) = some 81 := r5
  have cr_7_999 : ta (v_ad (n_v vs 7)) = some 82 := r7
  have h2 : v_iv (n_v vs 15) = w_ei ws (v_ad (n_v vs 0)) (v_iv (n_v vs 14)) := f2
  have hK_0_999 := elq_17 hD hth cr_0_999
  have hK_4_999 := elq_18 hD hth cr_4_999
  have hK_5_999 := elq_19 hD hth cr_5_999
  have hK_7_999 := elq_25 hD hth cr_7_999
  have nf0 : fc_1 PRD (20, [10, 4, 5, 11, 12, 13, 6, 16], [61, 3, 582]) ws (vs) := by
    refine ⟨nf_in hl rfl, sgq_387 ?_⟩
    · show RLI (w_ei ws (v_ad (n_v vs 10))) (w_ei ws (v_ad (n_v vs 4))) (w_ei ws (v_ad (n_v vs 5))) (v_iv (n_v vs 11)) (v_iv (n_v vs 12)) (v_iv (n_v vs 13)) (v_iv (n_v vs 6)) (v_iv (n_v vs 16))
      simp only [q10, q11, q12, q13]
      exact vc_Fa_relabel_at_Emblock_gn_2_0 (v_iv (n_v vs 1)) (v_iv (n_v vs 2)) (v_iv (n_v vs 3)) (v_iv (n_v vs 6)) (v_iv (n_v vs 8)) (v_iv (n_v vs 9)) (v_iv (n_v vs 11)) (v_iv (n_v vs 12)) (v_iv (n_v vs 13)) (v_iv (n_v vs 14)) (v_iv (n_v vs 15)) (v_iv (n_v vs 16)) (w_ei ws (v_ad (n_v vs 0))) (w_ei ws (v_ad (n_v vs 4))) (w_ei ws (v_ad (n_v vs 5))) (w_ei ws (v_ad (n_v vs 7))) k1 k2 k3 k6 k8 k9 k11 k12 k13 k14 k15 k16 d0 d1 d2 d3 d4 d5 d6 d7 d8 d9 d10 d11 d12 f0 f1 h2 f3 f4 f5 f6 f7 hK_0_999 hK_4_999 hK_5_999 hK_7_999
  have nf1 : fc_1 PRD (20, [10, 4, 5, 7, 8, 11, 6, 9, 12, 13, 16], [61, 4, 591]) ws (vs) := by
    refine ⟨nf_in hl rfl, sgq_388 ?_⟩
    · show QKI (w_ei ws (v_ad (n_v vs 10))) (w_ei ws (v_ad (n_v vs 4))) (w_ei ws (v_ad (n_v vs 5))) (w_ei ws (v_ad (n_v vs 7))) (v_iv (n_v vs 8)) (v_iv (n_v vs 11)) (v_iv (n_v vs 6)) (v_iv (n_v vs 9)) (v_iv (n_v vs 12)) (v_iv (n_v vs 13)) (v_iv (n_v vs 16))
      simp only [q10, q11, q12, q13]
      exact vc_Fa_relabel_at_Emblock_gn_2_1 (v_iv (n_v vs 1)) (v_iv (n_v vs 2)) (v_iv (n_v vs 3)) (v_iv (n_v vs 6)) (v_iv (n_v vs 8)) (v_iv (n_v vs 9)) (v_iv (n_v vs 11)) (v_iv (n_v vs 12)) (v_iv (n_v vs 13)) (v_iv (n_v vs 14)) (v_iv (n_v vs 15)) (v_iv (n_v vs 16)) (w_ei ws (v_ad (n_v vs 0))) (w_ei ws (v_ad (n_v vs 4))) (w_ei ws (v_ad (n_v vs 5))) (w_ei ws (v_ad (n_v vs 7))) k1 k2 k3 k6 k8 k9 k11 k12 k13 k14 k15 k16 d0 d1 d2 d3 d4 d5 d6 d7 d8 d9 d10 d11 d12 f0 f1 h2 f3 f4 f5 f6 f7 hK_0_999 hK_4_999 hK_5_999 hK_7_999
  refine ⟨(fun _ h => (by cases h)), [], trivial, ?_, (fun _ h => (by cases h))⟩
  rw [List.append_nil]
  exact List.forall_mem_cons.mpr ⟨⟨show (20 : Nat) < 100 from by decide, nf0⟩, List.forall_mem_cons.mpr ⟨⟨show (20 : Nat) < 100 from by decide, nf1⟩, (fun _ h => (by cases h))⟩⟩
set_option maxHeartbeats 4000000 in
theorem vc_Fa_relabel_at_Emblock_gn_3_0 (x1 : Int) (x2 : Int) (x3 : Int) (x6 : Int) (x8 : Int) (x9 : Int) (x11 : Int) (x12 : Int) (x13 : Int) (x14 : Int) (x15 : Int) (x16 : Int) (a0_1 : Int → Int) (a4_1 : Int → Int) (a5_1 : Int → Int) (a7_1 : Int → Int) (a0_0 : Int → Int) (a4_0 : Int → Int) (a5_0 : Int → Int) (a7_0 : Int → Int) (k1 : 1 ≤ x1 ∧ x1 ≤ 72) (k2 : 0 ≤ x2 ∧ x2 ≤ 71) (k3 : 0 ≤ x3 ∧ x3 ≤ 71) (k6 : 0 ≤ x6 ∧ x6 ≤ 24) (k8 : 0 ≤ x8 ∧ x8 ≤ 25) (k9 : (-2147483648) ≤ x9 ∧ x9 ≤ 2147483647) (k11 : 1 ≤ x11 ∧ x11 ≤ 72) (k12 : 0 ≤ x12 ∧ x12 ≤ 71) (k13 : 0 ≤ x13 ∧ x13 ≤ 71) (k14 : 0 ≤ x14 ∧ x14 ≤ 71) (k15 : 0 ≤ x15 ∧ x15 ≤ 71) (k16 : 1 ≤ x16 ∧ x16 ≤ 72) (d0 : x14 + 1 ≤ x16 ∧ x16 ≤ x14 + 1) (d1 : x11 + (-4294967296) ≤ x16 ∧ x16 ≤ x11 + 0) (d2 : x1 + (-4294967296) ≤ x16 ∧ x16 ≤ x1 + 1) (d3 : x11 + (-4294967296) ≤ x16 ∧ x16 ≤ x11 + 1) (d4 : x12 + 0 ≤ x15 ∧ x15 ≤ x12 + 0) (d5 : x11 + (-4294967296) ≤ x14 ∧ x14 ≤ x11 + (-1)) (d6 : x11 + (-4294967296) ≤ x1 ∧ x1 ≤ x11 + 0) (d7 : x12 + (-4294967296) ≤ x2 ∧ x2 ≤ x12 + 0) (d8 : x13 + (-4294967296) ≤ x3 ∧ x3 ≤ x13 + 0) (d9 : x1 + (-4294967296) ≤ x11 ∧ x11 ≤ x1 + 0) (d10 : x2 + (-4294967296) ≤ x12 ∧ x12 ≤ x2 + 0) (d11 : x3 + (-4294967296) ≤ x13 ∧ x13 ≤ x3 + 0) (d12 : x1 + (-4294967296) ≤ x14 ∧ x14 ≤ x1 + 0) (d13 : x11 + (-4294967296) ≤ x14 ∧ x14 ≤ x11 + 0) (f0 : x16 = x14 + 1) (f1 : (0 ≤ x3) ∧ (x3 ≤ x2)) (f7 : x15 = x2) (h8 : x15 = a0_1 (x14)) (f9 : x14 < x1) (f10 : BLQ (a0_1) (x1)) (f11 : (0 ≤ x3) ∧ (x3 ≤ x2)) (f12 : RLI (a0_1) (a4_1) (a5_1) (x1) (x2) (x3) (x6) (x14)) (f13 : QKI (a0_1) (a4_1) (a5_1) (a7_1) (x8) (x1) (x6) (x9) (x2) (x3) (x14)) (hE_0_999_1 : ∀ j : Int, 0 ≤ j → (j = x14 → a0_0 j = x3) ∧ (j ≠ x14 → a0_0 j = a0_1 j)) (hK_0_999 : ∀ j : Int, 0 ≤ j → j < 72 → (-1) ≤ a0_0 j ∧ a0_0 j ≤ 71) (hE_4_999_1 : ∀ j : Int, a4_0 j = a4_1 j) (hK_4_999 : ∀ j : Int, 0 ≤ j → j < 72 → 0 ≤ a4_0 j ∧ a4_0 j ≤ 23) (hE_5_999_1 : ∀ j : Int, a5_0 j = a5_1 j) (hK_5_999 : ∀ j : Int, 0 ≤ j → j < 72 → 0 ≤ a5_0 j ∧ a5_0 j ≤ 23) (hE_7_999_1 : ∀ j : Int, a7_0 j = a7_1 j) (hK_7_999 : ∀ j : Int, 0 ≤ j → j < 25 → 0 ≤ a7_0 j ∧ a7_0 j ≤ 16777215) : BLQ (a0_0) (x1) := by
  have e_hE_4_999_1 := funext hE_4_999_1; subst e_hE_4_999_1
  have e_hE_5_999_1 := funext hE_5_999_1; subst e_hE_5_999_1
  have e_hE_7_999_1 := funext hE_7_999_1; subst e_hE_7_999_1
  first
    | assumption
    | (skip; (first | subst h8 | skip); exact blq_set ‹BLQ _ _› (by assumption) rfl rfl (by omega) (by omega) (by omega) (by omega) (by omega))
  
set_option maxHeartbeats 4000000 in
theorem vc_Fa_relabel_at_Emblock_gn_3_1 (x1 : Int) (x2 : Int) (x3 : Int) (x6 : Int) (x8 : Int) (x9 : Int) (x11 : Int) (x12 : Int) (x13 : Int) (x14 : Int) (x15 : Int) (x16 : Int) (a0_1 : Int → Int) (a4_1 : Int → Int) (a5_1 : Int → Int) (a7_1 : Int → Int) (a0_0 : Int → Int) (a4_0 : Int → Int) (a5_0 : Int → Int) (a7_0 : Int → Int) (k1 : 1 ≤ x1 ∧ x1 ≤ 72) (k2 : 0 ≤ x2 ∧ x2 ≤ 71) (k3 : 0 ≤ x3 ∧ x3 ≤ 71) (k6 : 0 ≤ x6 ∧ x6 ≤ 24) (k8 : 0 ≤ x8 ∧ x8 ≤ 25) (k9 : (-2147483648) ≤ x9 ∧ x9 ≤ 2147483647) (k11 : 1 ≤ x11 ∧ x11 ≤ 72) (k12 : 0 ≤ x12 ∧ x12 ≤ 71) (k13 : 0 ≤ x13 ∧ x13 ≤ 71) (k14 : 0 ≤ x14 ∧ x14 ≤ 71) (k15 : 0 ≤ x15 ∧ x15 ≤ 71) (k16 : 1 ≤ x16 ∧ x16 ≤ 72) (d0 : x14 + 1 ≤ x16 ∧ x16 ≤ x14 + 1) (d1 : x11 + (-4294967296) ≤ x16 ∧ x16 ≤ x11 + 0) (d2 : x1 + (-4294967296) ≤ x16 ∧ x16 ≤ x1 + 1) (d3 : x11 + (-4294967296) ≤ x16 ∧ x16 ≤ x11 + 1) (d4 : x12 + 0 ≤ x15 ∧ x15 ≤ x12 + 0) (d5 : x11 + (-4294967296) ≤ x14 ∧ x14 ≤ x11 + (-1)) (d6 : x11 + (-4294967296) ≤ x1 ∧ x1 ≤ x11 + 0) (d7 : x12 + (-4294967296) ≤ x2 ∧ x2 ≤ x12 + 0) (d8 : x13 + (-4294967296) ≤ x3 ∧ x3 ≤ x13 + 0) (d9 : x1 + (-4294967296) ≤ x11 ∧ x11 ≤ x1 + 0) (d10 : x2 + (-4294967296) ≤ x12 ∧ x12 ≤ x2 + 0) (d11 : x3 + (-4294967296) ≤ x13 ∧ x13 ≤ x3 + 0) (d12 : x1 + (-4294967296) ≤ x14 ∧ x14 ≤ x1 + 0) (d13 : x11 + (-4294967296) ≤ x14 ∧ x14 ≤ x11 + 0) (f0 : x16 = x14 + 1) (f1 : (0 ≤ x3) ∧ (x3 ≤ x2)) (f7 : x15 = x2) (h8 : x15 = a0_1 (x14)) (f9 : x14 < x1) (f10 : BLQ (a0_1) (x1)) (f11 : (0 ≤ x3) ∧ (x3 ≤ x2)) (f12 : RLI (a0_1) (a4_1) (a5_1) (x1) (x2) (x3) (x6) (x14)) (f13 : QKI (a0_1) (a4_1) (a5_1) (a7_1) (x8) (x1) (x6) (x9) (x2) (x3) (x14)) (hE_0_999_1 : ∀ j : Int, 0 ≤ j → (j = x14 → a0_0 j = x3) ∧ (j ≠ x14 → a0_0 j = a0_1 j)) (hK_0_999 : ∀ j : Int, 0 ≤ j → j < 72 → (-1) ≤ a0_0 j ∧ a0_0 j ≤ 71) (hE_4_999_1 : ∀ j : Int, a4_0 j = a4_1 j) (hK_4_999 : ∀ j : Int, 0 ≤ j → j < 72 → 0 ≤ a4_0 j ∧ a4_0 j ≤ 23) (hE_5_999_1 : ∀ j : Int, a5_0 j = a5_1 j) (hK_5_999 : ∀ j : Int, 0 ≤ j → j < 72 → 0 ≤ a5_0 j ∧ a5_0 j ≤ 23) (hE_7_999_1 : ∀ j : Int, a7_0 j = a7_1 j) (hK_7_999 : ∀ j : Int, 0 ≤ j → j < 25 → 0 ≤ a7_0 j ∧ a7_0 j ≤ 16777215) : RLI (a0_0) (a4_0) (a5_0) (x1) (x2) (x3) (x6) (x16) := by
  have e_hE_4_999_1 := funext hE_4_999_1; subst e_hE_4_999_1
  have e_hE_5_999_1 := funext hE_5_999_1; subst e_hE_5_999_1
  have e_hE_7_999_1 := funext hE_7_999_1; subst e_hE_7_999_1
  first
    | exact rli_start ‹RLP _ _ _ _ _ _ _› (by omega)
    | exact rli_skip ‹RLI _ _ _ _ _ _ _ _› (by assumption) (by omega) (by omega)
    | exact rli_step ‹RLI _ _ _ _ _ _ _ _› (by assumption) (by omega) (by assumption) (by omega) (by omega) (by omega)
  
set_option maxHeartbeats 4000000 in
theorem vc_Fa_relabel_at_Emblock_gn_3_2 (x1 : Int) (x2 : Int) (x3 : Int) (x6 : Int) (x8 : Int) (x9 : Int) (x11 : Int) (x12 : Int) (x13 : Int) (x14 : Int) (x15 : Int) (x16 : Int) (a0_1 : Int → Int) (a4_1 : Int → Int) (a5_1 : Int → Int) (a7_1 : Int → Int) (a0_0 : Int → Int) (a4_0 : Int → Int) (a5_0 : Int → Int) (a7_0 : Int → Int) (k1 : 1 ≤ x1 ∧ x1 ≤ 72) (k2 : 0 ≤ x2 ∧ x2 ≤ 71) (k3 : 0 ≤ x3 ∧ x3 ≤ 71) (k6 : 0 ≤ x6 ∧ x6 ≤ 24) (k8 : 0 ≤ x8 ∧ x8 ≤ 25) (k9 : (-2147483648) ≤ x9 ∧ x9 ≤ 2147483647) (k11 : 1 ≤ x11 ∧ x11 ≤ 72) (k12 : 0 ≤ x12 ∧ x12 ≤ 71) (k13 : 0 ≤ x13 ∧ x13 ≤ 71) (k14 : 0 ≤ x14 ∧ x14 ≤ 71) (k15 : 0 ≤ x15 ∧ x15 ≤ 71) (k16 : 1 ≤ x16 ∧ x16 ≤ 72) (d0 : x14 + 1 ≤ x16 ∧ x16 ≤ x14 + 1) (d1 : x11 + (-4294967296) ≤ x16 ∧ x16 ≤ x11 + 0) (d2 : x1 + (-4294967296) ≤ x16 ∧ x16 ≤ x1 + 1) (d3 : x11 + (-4294967296) ≤ x16 ∧ x16 ≤ x11 + 1) (d4 : x12 + 0 ≤ x15 ∧ x15 ≤ x12 + 0) (d5 : x11 + (-4294967296) ≤ x14 ∧ x14 ≤ x11 + (-1)) (d6 : x11 + (-4294967296) ≤ x1 ∧ x1 ≤ x11 + 0) (d7 : x12 + (-4294967296) ≤ x2 ∧ x2 ≤ x12 + 0) (d8 : x13 + (-4294967296) ≤ x3 ∧ x3 ≤ x13 + 0) (d9 : x1 + (-4294967296) ≤ x11 ∧ x11 ≤ x1 + 0) (d10 : x2 + (-4294967296) ≤ x12 ∧ x12 ≤ x2 + 0) (d11 : x3 + (-4294967296) ≤ x13 ∧ x13 ≤ x3 + 0) (d12 : x1 + (-4294967296) ≤ x14 ∧ x14 ≤ x1 + 0) (d13 : x11 + (-4294967296) ≤ x14 ∧ x14 ≤ x11 + 0) (f0 : x16 = x14 + 1) (f1 : (0 ≤ x3) ∧ (x3 ≤ x2)) (f7 : x15 = x2) (h8 : x15 = a0_1 (x14)) (f9 : x14 < x1) (f10 : BLQ (a0_1) (x1)) (f11 : (0 ≤ x3) ∧ (x3 ≤ x2)) (f12 : RLI (a0_1) (a4_1) (a5_1) (x1) (x2) (x3) (x6) (x14)) (f13 : QKI (a0_1) (a4_1) (a5_1) (a7_1) (x8) (x1) (x6) (x9) (x2) (x3) (x14)) (hE_0_999_1 : ∀ j : Int, 0 ≤ j → (j = x14 → a0_0 j = x3) ∧ (j ≠ x14 → a0_0 j = a0_1 j)) (hK_0_999 : ∀ j : Int, 0 ≤ j → j < 72 → (-1) ≤ a0_0 j ∧ a0_0 j ≤ 71) (hE_4_999_1 : ∀ j : Int, a4_0 j = a4_1 j) (hK_4_999 : ∀ j : Int, 0 ≤ j → j < 72 → 0 ≤ a4_0 j ∧ a4_0 j ≤ 23) (hE_5_999_1 : ∀ j : Int, a5_0 j = a5_1 j) (hK_5_999 : ∀ j : Int, 0 ≤ j → j < 72 → 0 ≤ a5_0 j ∧ a5_0 j ≤ 23) (hE_7_999_1 : ∀ j : Int, a7_0 j = a7_1 j) (hK_7_999 : ∀ j : Int, 0 ≤ j → j < 25 → 0 ≤ a7_0 j ∧ a7_0 j ≤ 16777215) : QKI (a0_0) (a4_0) (a5_0) (a7_0) (x8) (x1) (x6) (x9) (x2) (x3) (x16) := by
  have e_hE_4_999_1 := funext hE_4_999_1; subst e_hE_4_999_1
  have e_hE_5_999_1 := funext hE_5_999_1; subst e_hE_5_999_1
  have e_hE_7_999_1 := funext hE_7_999_1; subst e_hE_7_999_1
  first
    | exact qki_start ‹QKP _ _ _ _ _ _ _ _ _ _› (by omega)
    | exact qki_skip ‹QKI _ _ _ _ _ _ _ _ _ _ _› (by assumption) (by omega) (by omega)
    | exact qki_step ‹QKI _ _ _ _ _ _ _ _ _ _ _› (by assumption) (by omega) (by assumption) rfl (by omega) (by omega)
  
def o_Fa_relabel_at_Emblock_gn_3 : or_T := (3, 17, [(0, (2, 0, 0, [26])), (1, (0, 1, 72, [])), (2, (0, 0, 71, [])), (3, (0, 0, 71, [])), (4, (2, 0, 0, [80])), (5, (2, 0, 0, [81])), (6, (0, 0, 24, [])), (7, (2, 0, 0, [82])), (8, (0, 0, 25, [])), (9, (0, -2147483648, 2147483647, [])), (10, (2, 0, 0, [26])), (11, (0, 1, 72, [])), (12, (0, 0, 71, [])), (13, (0, 0, 71, [])), (14, (0, 0, 71, [])), (15, (0, 0, 71, [])), (16, (0, 1, 72, []))], [(6, [16, 14], [1]), (20, [13, 12], [50, 0, 0, 2, 6, 0, 2, 0, 0, 1, 0, 0, 2, 1, 0, 1, 1]), (24, [0, 10], []), (24, [1, 11], []), (24, [2, 12], []), (24, [3, 13], []), (100, [10, 14, 13], []), (7, [15, 12], [0]), (10, [15, 10, 14], []), (7, [14, 11], [2]), (20, [10, 11], [61, 1, 566]), (20, [13, 12], [50, 0, 0, 2, 6, 0, 2, 0, 0, 1, 0, 0, 2, 1, 0, 1, 1]), (20, [10, 4, 5, 11, 12, 13, 6, 14], [61, 3, 582]), (20, [10, 4, 5, 7, 8, 11, 6, 9, 12, 13, 14], [61, 4, 591])], [], [], [(20, [10, 11], [61, 1, 566]), (20, [10, 4, 5, 11, 12, 13, 6, 16], [61, 3, 582]), (20, [10, 4, 5, 7, 8, 11, 6, 9, 12, 13, 16], [61, 4, 591])], [], [(16, 14, 1, 1), (16, 11, -4294967296, 0), (16, 1, -4294967296, 1), (16, 11, -4294967296, 1), (15, 12, 0, 0), (14, 11, -4294967296, -1), (1, 11, -4294967296, 0), (2, 12, -4294967296, 0), (3, 13, -4294967296, 0), (11, 1, -4294967296, 0), (12, 2, -4294967296, 0), (13, 3, -4294967296, 0), (14, 1, -4294967296, 0), (14, 11, -4294967296, 0)])
theorem oo_Fa_relabel_at_Emblock_gn_3 {kA : Nat → ClassId} : or_ok PRD kA GG o_Fa_relabel_at_Emblock_gn_3 := by
  refine or_mk fun A ta ws vs hD hth hl => ?_
  intro t0 r0 t1 k1 t2 k2 t3 k3 t4 r4 t5 r5 t6 k6 t7 r7 t8 k8 t9 k9 t10 r10 t11 k11 t12 k12 t13 k13 t14 k14 t15 k15 t16 k16 d0 d1 d2 d3 d4 d5 d6 d7 d8 d9 d10 d11 d12 d13 f0 f1 f2 f3 f4 f5 ta1 w1 le1 s1 f7 f8 f9 f10 f11 f12 f13
  replace f0 := shm_4 f0
  replace f1 := shm_384 f1
  replace f2 := shm_5 f2
  replace f3 := shm_5 f3
  replace f4 := shm_5 f4
  replace f5 := shm_5 f5
  have s1 : (∀ b j, w_el ws b j = if b = v_ad (n_v vs 10) ∧ j = (v_iv (n_v vs 14)).toNat then v_iv (n_v vs 13) else w_el w1 b j) ∧ ∀ b k, w_fd ws b k = w_fd w1 b k := s1.2
  replace f7 := shm_37 f7
  replace f8 := shm_106 f8
  replace f9 := shm_6 f9
  replace f10 := shm_383 f10
  replace f11 := shm_384 f11
  replace f12 := shm_387 f12
  replace f13 := shm_388 f13
  have q10 : n_v vs 10 = n_v vs 0 := f2.symm
  have q11 : n_v vs 11 = n_v vs 1 := f3.symm
  have q12 : n_v vs 12 = n_v vs 2 := f4.symm
  have q13 : n_v vs 13 = n_v vs 3 := f5.symm
  simp only [q12, q13] at f1
  rw [q10] at s1
  rw [q13] at s1
  simp only [q12, q10, q11, q13] at f7 f8 f9 f10 f11 f12 f13
  have cr_0_999 : ta (v_ad (n_v vs 0)) = some 26 := r0
  have cr_4_999 : ta (v_ad (n_v vs 4)) = some 80 := r4
  have cr_5_999 : ta (v_ad (n_v vs 5)) = some 81 := r5
  have cr_7_999 : ta (v_ad (n_v vs 7)) = some 82 := r7
  have ad_0 : v_ad (n_v vs 0) = v_ad (n_v vs 0) := rfl
  have h8 : v_iv (n_v vs 15) = w_ei w1 (v_ad (n_v vs 0)) (v_iv (n_v vs 14)) := f8
  have hE_0_999_1 : ∀ j : Int, 0 ≤ j → (j = v_iv (n_v vs 14) → w_ei ws (v_ad (n_v vs 0)) j = v_iv (n_v vs 3)) ∧ (j ≠ v_iv (n_v vs 14) → w_ei ws (v_ad (n_v vs 0)) j = w_ei w1 (v_ad (n_v vs 0)) j) := fun j hj => ⟨fun h => by unfold w_ei; rw [s1.1, if_pos ⟨ad_0.symm, by rw [h]⟩], fun h => by unfold w_ei; rw [s1.1, if_neg (fun e => h (by have := e.2; omega))]⟩
  have hK_0_999 := elq_17 hD hth cr_0_999
  have hE_4_999_1 : ∀ j : Int, w_ei ws (v_ad (n_v vs 4)) j = w_ei w1 (v_ad (n_v vs 4)) j := el_kp s1.1 r0 cr_4_999 (by decide)
  have hK_4_999 := elq_18 hD hth cr_4_999
  have hE_5_999_1 : ∀ j : Int, w_ei ws (v_ad (n_v vs 5)) j = w_ei w1 (v_ad (n_v vs 5)) j := el_kp s1.1 r0 cr_5_999 (by decide)
  have hK_5_999 := elq_19 hD hth cr_5_999
  have hE_7_999_1 : ∀ j : Int, w_ei ws (v_ad (n_v vs 7)) j = w_ei w1 (v_ad (n_v vs 7)) j := el_kp s1.1 r0 cr_7_999 (by decide)
  have hK_7_999 := elq_25 hD hth cr_7_999
  have nf0 : fc_1 PRD (20, [10, 11], [61, 1, 566]) ws (vs) := by
    refine ⟨nf_in hl rfl, sgq_383 ?_⟩
    · show BLQ (w_ei ws (v_ad (n_v vs 10))) (v_iv (n_v vs 11))
      simp only [q10, q11]
      exact vc_Fa_relabel_at_Emblock_gn_3_0 (v_iv (n_v vs 1)) (v_iv (n_v vs 2)) (v_iv (n_v vs 3)) (v_iv (n_v vs 6)) (v_iv (n_v vs 8)) (v_iv (n_v vs 9)) (v_iv (n_v vs 11)) (v_iv (n_v vs 12)) (v_iv (n_v vs 13)) (v_iv (n_v vs 14)) (v_iv (n_v vs 15)) (v_iv (n_v vs 16)) (w_ei w1 (v_ad (n_v vs 0))) (w_ei w1 (v_ad (n_v vs 4))) (w_ei w1 (v_ad (n_v vs 5))) (w_ei w1 (v_ad (n_v vs 7))) (w_ei ws (v_ad (n_v vs 0))) (w_ei ws (v_ad (n_v vs 4))) (w_ei ws (v_ad (n_v vs 5))) (w_ei ws (v_ad (n_v vs 7))) k1 k2 k3 k6 k8 k9 k11 k12 k13 k14 k15 k16 d0 d1 d2 d3 d4 d5 d6 d7 d8 d9 d10 d11 d12 d13 f0 f1 f7 h8 f9 f10 f11 f12 f13 hE_0_999_1 hK_0_999 hE_4_999_1 hK_4_999 hE_5_999_1 hK_5_999 hE_7_999_1 hK_7_999
  have nf1 : fc_1 PRD (20, [10, 4, 5, 11, 12, 13, 6, 16], [61, 3, 582]) ws (vs) := by
    refine ⟨nf_in hl rfl, sgq_387 ?_⟩
    · show RLI (w_ei ws (v_ad (n_v vs 10))) (w_ei ws (v_ad (n_v vs 4))) (w_ei ws (v_ad (n_v vs 5))) (v_iv (n_v vs 11)) (v_iv (n_v vs 12)) (v_iv (n_v vs 13)) (v_iv (n_v vs 6)) (v_iv (n_v vs 16))
      simp only [q10, q11, q12, q13]
      exact vc_Fa_relabel_at_Emblock_gn_3_1 (v_iv (n_v vs 1)) (v_iv (n_v vs 2)) (v_iv (n_v vs 3)) (v_iv (n_v vs 6)) (v_iv (n_v vs 8)) (v_iv (n_v vs 9)) (v_iv (n_v vs 11)) (v_iv (n_v vs 12)) (v_iv (n_v vs 13)) (v_iv (n_v vs 14)) (v_iv (n_v vs 15)) (v_iv (n_v vs 16)) (w_ei w1 (v_ad (n_v vs 0))) (w_ei w1 (v_ad (n_v vs 4))) (w_ei w1 (v_ad (n_v vs 5))) (w_ei w1 (v_ad (n_v vs 7))) (w_ei ws (v_ad (n_v vs 0))) (w_ei ws (v_ad (n_v vs 4))) (w_ei ws (v_ad (n_v vs 5))) (w_ei ws (v_ad (n_v vs 7))) k1 k2 k3 k6 k8 k9 k11 k12 k13 k14 k15 k16 d0 d1 d2 d3 d4 d5 d6 d7 d8 d9 d10 d11 d12 d13 f0 f1 f7 h8 f9 f10 f11 f12 f13 hE_0_999_1 hK_0_999 hE_4_999_1 hK_4_999 hE_5_999_1 hK_5_999 hE_7_999_1 hK_7_999
  have nf2 : fc_1 PRD (20, [10, 4, 5, 7, 8, 11, 6, 9, 12, 13, 16], [61, 4, 591]) ws (vs) := by
    refine ⟨nf_in hl rfl, sgq_388 ?_⟩
    · show QKI (w_ei ws (v_ad (n_v vs 10))) (w_ei ws (v_ad (n_v vs 4))) (w_ei ws (v_ad (n_v vs 5))) (w_ei ws (v_ad (n_v vs 7))) (v_iv (n_v vs 8)) (v_iv (n_v vs 11)) (v_iv (n_v vs 6)) (v_iv (n_v vs 9)) (v_iv (n_v vs 12)) (v_iv (n_v vs 13)) (v_iv (n_v vs 16))
      simp only [q10, q11, q12, q13]
      exact vc_Fa_relabel_at_Emblock_gn_3_2 (v_iv (n_v vs 1)) (v_iv (n_v vs 2)) (v_iv (n_v vs 3)) (v_iv (n_v vs 6)) (v_iv (n_v vs 8)) (v_iv (n_v vs 9)) (v_iv (n_v vs 11)) (v_iv (n_v vs 12)) (v_iv (n_v vs 13)) (v_iv (n_v vs 14)) (v_iv (n_v vs 15)) (v_iv (n_v vs 16)) (w_ei w1 (v_ad (n_v vs 0))) (w_ei w1 (v_ad (n_v vs 4))) (w_ei w1 (v_ad (n_v vs 5))) (w_ei w1 (v_ad (n_v vs 7))) (w_ei ws (v_ad (n_v vs 0))) (w_ei ws (v_ad (n_v vs 4))) (w_ei ws (v_ad (n_v vs 5))) (w_ei ws (v_ad (n_v vs 7))) k1 k2 k3 k6 k8 k9 k11 k12 k13 k14 k15 k16 d0 d1 d2 d3 d4 d5 d6 d7 d8 d9 d10 d11 d12 d13 f0 f1 f7 h8 f9 f10 f11 f12 f13 hE_0_999_1 hK_0_999 hE_4_999_1 hK_4_999 hE_5_999_1 hK_5_999 hE_7_999_1 hK_7_999
  refine ⟨(fun _ h => (by cases h)), [], trivial, ?_, (fun _ h => (by cases h))⟩
  rw [List.append_nil]
  exact List.forall_mem_cons.mpr ⟨⟨show (20 : Nat) < 100 from by decide, nf0⟩, List.forall_mem_cons.mpr ⟨⟨show (20 : Nat) < 100 from by decide, nf1⟩, List.forall_mem_cons.mpr ⟨⟨show (20 : Nat) < 100 from by decide, nf2⟩, (fun _ h => (by cases h))⟩⟩⟩
def n_Fa_relabel_at_Emblock_gn_an : List an_T := [(3, [(0, (2, 0, 0, [26])), (1, (0, 1, 72, [])), (2, (0, 0, 71, [])), (3, (0, 0, 71, [])), (4, (0, 0, 72, []))], [], (0, 0), [(0, 0, 99997), (1, 14, 72), (0, 0, 100000)], [(1, 11, (Int.negSucc 999999999999), 0), (2, 12, (Int.negSucc 999999999999), 0), (3, 13, (Int.negSucc 999999999999), 0), (11, 1, (Int.negSucc 999999999999), 0), (12, 2, (Int.negSucc 999999999999), 0), (13, 3, (Int.negSucc 999999999999), 0), (14, 1, (Int.negSucc 999999999999), 0), (14, 11, (Int.negSucc 999999999999), 0)], [], [(2, 0, 0, [26]), (0, 1, 72, []), (0, 0, 71, []), (0, 0, 71, []), (2, 0, 0, [80]), (2, 0, 0, [81]), (0, 0, 24, []), (2, 0, 0, [82]), (0, 0, 25, []), (0, (Int.negSucc 2147483647), 2147483647, [])], 0, [], [(20, [10, 11], [61, 1, 566]), (20, [13, 12], [50, 0, 0, 2, 6, 0, 2, 0, 0, 1, 0, 0, 2, 1, 0, 1, 1]), (20, [10, 4, 5, 11, 12, 13, 6, 14], [61, 3, 582]), (20, [10, 4, 5, 7, 8, 11, 6, 9, 12, 13, 14], [61, 4, 591]), (24, [0, 10], []), (24, [1, 11], []), (24, [2, 12], []), (24, [3, 13], [])])]
def t_Fa_relabel_at_Emblock_gn_ct : ct_L := []
set_option maxRecDepth 100000 in
theorem c_Fa_relabel_at_Emblock_gn {l : Launch} {D : va_G} {kA : Nat → ClassId} : ct_ok PRD l D kA GG y_Fa_relabel_at_Emblock_gn z_Fa_relabel_at_Emblock_gn e_Fa_relabel_at_Emblock_gn := chk_all_ok (FT := []) (PT := []) (CT := t_Fa_relabel_at_Emblock_gn_ct) (KT := []) (NT := []) (AN := n_Fa_relabel_at_Emblock_gn_an) (OT := [o_Fa_relabel_at_Emblock_gn_0, o_Fa_relabel_at_Emblock_gn_1, o_Fa_relabel_at_Emblock_gn_2, o_Fa_relabel_at_Emblock_gn_3]) 3 200 (List.forall_mem_cons.mpr ⟨oo_Fa_relabel_at_Emblock_gn_0, List.forall_mem_cons.mpr ⟨oo_Fa_relabel_at_Emblock_gn_1, List.forall_mem_cons.mpr ⟨oo_Fa_relabel_at_Emblock_gn_2, List.forall_mem_cons.mpr ⟨oo_Fa_relabel_at_Emblock_gn_3, List.forall_mem_nil _⟩⟩⟩⟩) (by decide +kernel) ⟨List.forall_mem_nil _, List.forall_mem_nil _, List.forall_mem_nil _, List.forall_mem_nil _, List.forall_mem_nil _, GG_pl⟩ (by decide +kernel)

set_option maxHeartbeats 4000000 in
theorem vc_Fa_relabel_at_Emblock_gp_0_0 (x1 : Int) (x2 : Int) (x3 : Int) (x6 : Int) (x8 : Int) (x9 : Int) (x10 : Int) (a0_0 : Int → Int) (a4_0 : Int → Int) (a5_0 : Int → Int) (a7_0 : Int → Int) (k1 : 1 ≤ x1 ∧ x1 ≤ 72) (k2 : 0 ≤ x2 ∧ x2 ≤ 71) (k3 : 0 ≤ x3 ∧ x3 ≤ 71) (k6 : 0 ≤ x6 ∧ x6 ≤ 24) (k8 : 0 ≤ x8 ∧ x8 ≤ 25) (k9 : (-2147483648) ≤ x9 ∧ x9 ≤ 2147483647) (k10 : 0 ≤ x10 ∧ x10 ≤ 0) (f0 : BLQ (a0_0) (x1)) (f1 : (0 ≤ x3) ∧ (x3 ≤ x2)) (f2 : RLP (a0_0) (a4_0) (a5_0) (x1) (x2) (x3) (x6)) (f3 : QKP (a0_0) (a4_0) (a5_0) (a7_0) (x8) (x1) (x6) (x9) (x2) (x3)) (hK_0_999 : ∀ j : Int, 0 ≤ j → j < 72 → (-1) ≤ a0_0 j ∧ a0_0 j ≤ 71) (hK_4_999 : ∀ j : Int, 0 ≤ j → j < 72 → 0 ≤ a4_0 j ∧ a4_0 j ≤ 24) (hK_5_999 : ∀ j : Int, 0 ≤ j → j < 72 → 0 ≤ a5_0 j ∧ a5_0 j ≤ 24) (hK_7_999 : ∀ j : Int, 0 ≤ j → j < 25 → 0 ≤ a7_0 j ∧ a7_0 j ≤ 33554431) : RLI (a0_0) (a4_0) (a5_0) (x1) (x2) (x3) (x6) (x10) := by
  first
    | exact rli_start ‹RLP _ _ _ _ _ _ _› (by omega)
    | exact rli_skip ‹RLI _ _ _ _ _ _ _ _› (by assumption) (by omega) (by omega)
    | exact rli_step ‹RLI _ _ _ _ _ _ _ _› (by assumption) (by omega) (by assumption) (by omega) (by omega) (by omega)
  
set_option maxHeartbeats 4000000 in
theorem vc_Fa_relabel_at_Emblock_gp_0_1 (x1 : Int) (x2 : Int) (x3 : Int) (x6 : Int) (x8 : Int) (x9 : Int) (x10 : Int) (a0_0 : Int → Int) (a4_0 : Int → Int) (a5_0 : Int → Int) (a7_0 : Int → Int) (k1 : 1 ≤ x1 ∧ x1 ≤ 72) (k2 : 0 ≤ x2 ∧ x2 ≤ 71) (k3 : 0 ≤ x3 ∧ x3 ≤ 71) (k6 : 0 ≤ x6 ∧ x6 ≤ 24) (k8 : 0 ≤ x8 ∧ x8 ≤ 25) (k9 : (-2147483648) ≤ x9 ∧ x9 ≤ 2147483647) (k10 : 0 ≤ x10 ∧ x10 ≤ 0) (f0 : BLQ (a0_0) (x1)) (f1 : (0 ≤ x3) ∧ (x3 ≤ x2)) (f2 : RLP (a0_0) (a4_0) (a5_0) (x1) (x2) (x3) (x6)) (f3 : QKP (a0_0) (a4_0) (a5_0) (a7_0) (x8) (x1) (x6) (x9) (x2) (x3)) (hK_0_999 : ∀ j : Int, 0 ≤ j → j < 72 → (-1) ≤ a0_0 j ∧ a0_0 j ≤ 71) (hK_4_999 : ∀ j : Int, 0 ≤ j → j < 72 → 0 ≤ a4_0 j ∧ a4_0 j ≤ 24) (hK_5_999 : ∀ j : Int, 0 ≤ j → j < 72 → 0 ≤ a5_0 j ∧ a5_0 j ≤ 24) (hK_7_999 : ∀ j : Int, 0 ≤ j → j < 25 → 0 ≤ a7_0 j ∧ a7_0 j ≤ 33554431) : QKI (a0_0) (a4_0) (a5_0) (a7_0) (x8) (x1) (x6) (x9) (x2) (x3) (x10) := by
  first
    | exact qki_start ‹QKP _ _ _ _ _ _ _ _ _ _› (by omega)
    | exact qki_skip ‹QKI _ _ _ _ _ _ _ _ _ _ _› (by assumption) (by omega) (by omega)
    | exact qki_step ‹QKI _ _ _ _ _ _ _ _ _ _ _› (by assumption) (by omega) (by assumption) rfl (by omega) (by omega)
  
def o_Fa_relabel_at_Emblock_gp_0 : or_T := (3, 11, [(0, (2, 0, 0, [26])), (1, (0, 1, 72, [])), (2, (0, 0, 71, [])), (3, (0, 0, 71, [])), (4, (2, 0, 0, [140])), (5, (2, 0, 0, [141])), (6, (0, 0, 24, [])), (7, (2, 0, 0, [142])), (8, (0, 0, 25, [])), (9, (0, -2147483648, 2147483647, [])), (10, (0, 0, 0, []))], [(20, [0, 1], [61, 1, 566]), (20, [3, 2], [50, 0, 0, 2, 6, 0, 2, 0, 0, 1, 0, 0, 2, 1, 0, 1, 1]), (20, [0, 4, 5, 1, 2, 3, 6], [61, 3, 581]), (20, [0, 4, 5, 7, 8, 1, 6, 9, 2, 3], [61, 4, 590])], [], [], [(20, [0, 4, 5, 1, 2, 3, 6, 10], [61, 3, 582]), (20, [0, 4, 5, 7, 8, 1, 6, 9, 2, 3, 10], [61, 4, 591]), (24, [0, 0], []), (24, [1, 1], []), (24, [2, 2], []), (24, [3, 3], [])], [], [])
theorem oo_Fa_relabel_at_Emblock_gp_0 {kA : Nat → ClassId} : or_ok PRD kA GG o_Fa_relabel_at_Emblock_gp_0 := by
  refine or_mk fun A ta ws vs hD hth hl => ?_
  intro t0 r0 t1 k1 t2 k2 t3 k3 t4 r4 t5 r5 t6 k6 t7 r7 t8 k8 t9 k9 t10 k10 f0 f1 f2 f3
  have cr_0_999 : ta (v_ad (n_v vs 0)) = some 26 := r0
  have cr_4_999 : ta (v_ad (n_v vs 4)) = some 140 := r4
  have cr_5_999 : ta (v_ad (n_v vs 5)) = some 141 := r5
  have cr_7_999 : ta (v_ad (n_v vs 7)) = some 142 := r7
  have hK_0_999 := elq_17 hD hth cr_0_999
  have hK_4_999 := elq_20 hD hth cr_4_999
  have hK_5_999 := elq_21 hD hth cr_5_999
  have hK_7_999 := elq_26 hD hth cr_7_999
  have nf0 : fc_1 PRD (20, [0, 4, 5, 1, 2, 3, 6, 10], [61, 3, 582]) ws (vs) := ⟨nf_in hl rfl, sgq_387 (vc_Fa_relabel_at_Emblock_gp_0_0 (v_iv (n_v vs 1)) (v_iv (n_v vs 2)) (v_iv (n_v vs 3)) (v_iv (n_v vs 6)) (v_iv (n_v vs 8)) (v_iv (n_v vs 9)) (v_iv (n_v vs 10)) (w_ei ws (v_ad (n_v vs 0))) (w_ei ws (v_ad (n_v vs 4))) (w_ei ws (v_ad (n_v vs 5))) (w_ei ws (v_ad (n_v vs 7))) k1 k2 k3 k6 k8 k9 k10 (shm_383 f0) (shm_384 f1) (shm_385 f2) (shm_386 f3) hK_0_999 hK_4_999 hK_5_999 hK_7_999)⟩
  have nf1 : fc_1 PRD (20, [0, 4, 5, 7, 8, 1, 6, 9, 2, 3, 10], [61, 4, 591]) ws (vs) := ⟨nf_in hl rfl, sgq_388 (vc_Fa_relabel_at_Emblock_gp_0_1 (v_iv (n_v vs 1)) (v_iv (n_v vs 2)) (v_iv (n_v vs 3)) (v_iv (n_v vs 6)) (v_iv (n_v vs 8)) (v_iv (n_v vs 9)) (v_iv (n_v vs 10)) (w_ei ws (v_ad (n_v vs 0))) (w_ei ws (v_ad (n_v vs 4))) (w_ei ws (v_ad (n_v vs 5))) (w_ei ws (v_ad (n_v vs 7))) k1 k2 k3 k6 k8 k9 k10 (shm_383 f0) (shm_384 f1) (shm_385 f2) (shm_386 f3) hK_0_999 hK_4_999 hK_5_999 hK_7_999)⟩
  have nf2 : fc_1 PRD (24, [0, 0], []) ws (vs) := by
    refine ⟨nf_in hl rfl, sgq_1 ?_⟩
    · show n_v vs 0 = n_v vs 0
      first | rfl | simp only [true_and]
  have nf3 : fc_1 PRD (24, [1, 1], []) ws (vs) := by
    refine ⟨nf_in hl rfl, sgq_1 ?_⟩
    · show n_v vs 1 = n_v vs 1
      first | rfl | simp only [true_and]
  have nf4 : fc_1 PRD (24, [2, 2], []) ws (vs) := by
    refine ⟨nf_in hl rfl, sgq_1 ?_⟩
    · show n_v vs 2 = n_v vs 2
      first | rfl | simp only [true_and]
  have nf5 : fc_1 PRD (24, [3, 3], []) ws (vs) := by
    refine ⟨nf_in hl rfl, sgq_1 ?_⟩
    · show n_v vs 3 = n_v vs 3
      first | rfl | simp only [true_and]
  refine ⟨(fun _ h => (by cases h)), [], trivial, ?_, (fun _ h => (by cases h))⟩
  rw [List.append_nil]
  exact List.forall_mem_cons.mpr ⟨⟨show (20 : Nat) < 100 from by decide, nf0⟩, List.forall_mem_cons.mpr ⟨⟨show (20 : Nat) < 100 from by decide, nf1⟩, List.forall_mem_cons.mpr ⟨⟨show (24 : Nat) < 100 from by decide, nf2⟩, List.forall_mem_cons.mpr ⟨⟨show (24 : Nat) < 100 from by decide, nf3⟩, List.forall_mem_cons.mpr ⟨⟨show (24 : Nat) < 100 from by decide, nf4⟩, List.forall_mem_cons.mpr ⟨⟨show (24 : Nat) < 100 from by decide, nf5⟩, (fun _ h => (by cases h))⟩⟩⟩⟩⟩⟩
set_option maxHeartbeats 4000000 in
theorem vc_Fa_relabel_at_Emblock_gp_1_0 (x1 : Int) (x2 : Int) (x3 : Int) (x6 : Int) (x8 : Int) (x9 : Int) (x11 : Int) (x12 : Int) (x13 : Int) (x14 : Int) (a0_0 : Int → Int) (a4_0 : Int → Int) (a5_0 : Int → Int) (a7_0 : Int → Int) (k1 : 1 ≤ x1 ∧ x1 ≤ 72) (k2 : 0 ≤ x2 ∧ x2 ≤ 71) (k3 : 0 ≤ x3 ∧ x3 ≤ 71) (k6 : 0 ≤ x6 ∧ x6 ≤ 24) (k8 : 0 ≤ x8 ∧ x8 ≤ 25) (k9 : (-2147483648) ≤ x9 ∧ x9 ≤ 2147483647) (k11 : 1 ≤ x11 ∧ x11 ≤ 72) (k12 : 0 ≤ x12 ∧ x12 ≤ 71) (k13 : 0 ≤ x13 ∧ x13 ≤ 71) (k14 : 1 ≤ x14 ∧ x14 ≤ 72) (d0 : x11 + 0 ≤ x14 ∧ x14 ≤ x11 + 4294967296) (d1 : x11 + (-4294967296) ≤ x1 ∧ x1 ≤ x11 + 0) (d2 : x12 + (-4294967296) ≤ x2 ∧ x2 ≤ x12 + 0) (d3 : x13 + (-4294967296) ≤ x3 ∧ x3 ≤ x13 + 0) (d4 : x1 + (-4294967296) ≤ x11 ∧ x11 ≤ x1 + 0) (d5 : x2 + (-4294967296) ≤ x12 ∧ x12 ≤ x2 + 0) (d6 : x3 + (-4294967296) ≤ x13 ∧ x13 ≤ x3 + 0) (d7 : x1 + (-4294967296) ≤ x14 ∧ x14 ≤ x1 + 0) (d8 : x11 + (-4294967296) ≤ x14 ∧ x14 ≤ x11 + 0) (f0 : x1 ≤ x14) (f1 : BLQ (a0_0) (x1)) (f2 : (0 ≤ x3) ∧ (x3 ≤ x2)) (f3 : RLI (a0_0) (a4_0) (a5_0) (x1) (x2) (x3) (x6) (x14)) (f4 : QKI (a0_0) (a4_0) (a5_0) (a7_0) (x8) (x1) (x6) (x9) (x2) (x3) (x14)) (hK_0_999 : ∀ j : Int, 0 ≤ j → j < 72 → (-1) ≤ a0_0 j ∧ a0_0 j ≤ 71) (hK_4_999 : ∀ j : Int, 0 ≤ j → j < 72 → 0 ≤ a4_0 j ∧ a4_0 j ≤ 24) (hK_5_999 : ∀ j : Int, 0 ≤ j → j < 72 → 0 ≤ a5_0 j ∧ a5_0 j ≤ 24) (hK_7_999 : ∀ j : Int, 0 ≤ j → j < 25 → 0 ≤ a7_0 j ∧ a7_0 j ≤ 33554431) : BLQ (a0_0) (x1) := by
  first
    | assumption
    | (skip; exact blq_set ‹BLQ _ _› (by assumption) rfl rfl (by omega) (by omega) (by omega) (by omega) (by omega))
  
set_option maxHeartbeats 4000000 in
theorem vc_Fa_relabel_at_Emblock_gp_1_1 (x1 : Int) (x2 : Int) (x3 : Int) (x6 : Int) (x8 : Int) (x9 : Int) (x11 : Int) (x12 : Int) (x13 : Int) (x14 : Int) (a0_0 : Int → Int) (a4_0 : Int → Int) (a5_0 : Int → Int) (a7_0 : Int → Int) (k1 : 1 ≤ x1 ∧ x1 ≤ 72) (k2 : 0 ≤ x2 ∧ x2 ≤ 71) (k3 : 0 ≤ x3 ∧ x3 ≤ 71) (k6 : 0 ≤ x6 ∧ x6 ≤ 24) (k8 : 0 ≤ x8 ∧ x8 ≤ 25) (k9 : (-2147483648) ≤ x9 ∧ x9 ≤ 2147483647) (k11 : 1 ≤ x11 ∧ x11 ≤ 72) (k12 : 0 ≤ x12 ∧ x12 ≤ 71) (k13 : 0 ≤ x13 ∧ x13 ≤ 71) (k14 : 1 ≤ x14 ∧ x14 ≤ 72) (d0 : x11 + 0 ≤ x14 ∧ x14 ≤ x11 + 4294967296) (d1 : x11 + (-4294967296) ≤ x1 ∧ x1 ≤ x11 + 0) (d2 : x12 + (-4294967296) ≤ x2 ∧ x2 ≤ x12 + 0) (d3 : x13 + (-4294967296) ≤ x3 ∧ x3 ≤ x13 + 0) (d4 : x1 + (-4294967296) ≤ x11 ∧ x11 ≤ x1 + 0) (d5 : x2 + (-4294967296) ≤ x12 ∧ x12 ≤ x2 + 0) (d6 : x3 + (-4294967296) ≤ x13 ∧ x13 ≤ x3 + 0) (d7 : x1 + (-4294967296) ≤ x14 ∧ x14 ≤ x1 + 0) (d8 : x11 + (-4294967296) ≤ x14 ∧ x14 ≤ x11 + 0) (f0 : x1 ≤ x14) (f1 : BLQ (a0_0) (x1)) (f2 : (0 ≤ x3) ∧ (x3 ≤ x2)) (f3 : RLI (a0_0) (a4_0) (a5_0) (x1) (x2) (x3) (x6) (x14)) (f4 : QKI (a0_0) (a4_0) (a5_0) (a7_0) (x8) (x1) (x6) (x9) (x2) (x3) (x14)) (hK_0_999 : ∀ j : Int, 0 ≤ j → j < 72 → (-1) ≤ a0_0 j ∧ a0_0 j ≤ 71) (hK_4_999 : ∀ j : Int, 0 ≤ j → j < 72 → 0 ≤ a4_0 j ∧ a4_0 j ≤ 24) (hK_5_999 : ∀ j : Int, 0 ≤ j → j < 72 → 0 ≤ a5_0 j ∧ a5_0 j ≤ 24) (hK_7_999 : ∀ j : Int, 0 ≤ j → j < 25 → 0 ≤ a7_0 j ∧ a7_0 j ≤ 33554431) : RLO (a0_0) (a4_0) (a5_0) (x1) (x3) (x6) := by
  first
    | exact rlo_of ‹RLI _ _ _ _ _ _ _ _› (by omega)
  
set_option maxHeartbeats 4000000 in
theorem vc_Fa_relabel_at_Emblock_gp_1_2 (x1 : Int) (x2 : Int) (x3 : Int) (x6 : Int) (x8 : Int) (x9 : Int) (x11 : Int) (x12 : Int) (x13 : Int) (x14 : Int) (a0_0 : Int → Int) (a4_0 : Int → Int) (a5_0 : Int → Int) (a7_0 : Int → Int) (k1 : 1 ≤ x1 ∧ x1 ≤ 72) (k2 : 0 ≤ x2 ∧ x2 ≤ 71) (k3 : 0 ≤ x3 ∧ x3 ≤ 71) (k6 : 0 ≤ x6 ∧ x6 ≤ 24) (k8 : 0 ≤ x8 ∧ x8 ≤ 25) (k9 : (-2147483648) ≤ x9 ∧ x9 ≤ 2147483647) (k11 : 1 ≤ x11 ∧ x11 ≤ 72) (k12 : 0 ≤ x12 ∧ x12 ≤ 71) (k13 : 0 ≤ x13 ∧ x13 ≤ 71) (k14 : 1 ≤ x14 ∧ x14 ≤ 72) (d0 : x11 + 0 ≤ x14 ∧ x14 ≤ x11 + 4294967296) (d1 : x11 + (-4294967296) ≤ x1 ∧ x1 ≤ x11 + 0) (d2 : x12 + (-4294967296) ≤ x2 ∧ x2 ≤ x12 + 0) (d3 : x13 + (-4294967296) ≤ x3 ∧ x3 ≤ x13 + 0) (d4 : x1 + (-4294967296) ≤ x11 ∧ x11 ≤ x1 + 0) (d5 : x2 + (-4294967296) ≤ x12 ∧ x12 ≤ x2 + 0) (d6 : x3 + (-4294967296) ≤ x13 ∧ x13 ≤ x3 + 0) (d7 : x1 + (-4294967296) ≤ x14 ∧ x14 ≤ x1 + 0) (d8 : x11 + (-4294967296) ≤ x14 ∧ x14 ≤ x11 + 0) (f0 : x1 ≤ x14) (f1 : BLQ (a0_0) (x1)) (f2 : (0 ≤ x3) ∧ (x3 ≤ x2)) (f3 : RLI (a0_0) (a4_0) (a5_0) (x1) (x2) (x3) (x6) (x14)) (f4 : QKI (a0_0) (a4_0) (a5_0) (a7_0) (x8) (x1) (x6) (x9) (x2) (x3) (x14)) (hK_0_999 : ∀ j : Int, 0 ≤ j → j < 72 → (-1) ≤ a0_0 j ∧ a0_0 j ≤ 71) (hK_4_999 : ∀ j : Int, 0 ≤ j → j < 72 → 0 ≤ a4_0 j ∧ a4_0 j ≤ 24) (hK_5_999 : ∀ j : Int, 0 ≤ j → j < 72 → 0 ≤ a5_0 j ∧ a5_0 j ≤ 24) (hK_7_999 : ∀ j : Int, 0 ≤ j → j < 25 → 0 ≤ a7_0 j ∧ a7_0 j ≤ 33554431) : QKO (a0_0) (a4_0) (a5_0) (a7_0) (x8) (x1) (x6) (x9) (x3) := by
  first
    | exact qko_of ‹QKI _ _ _ _ _ _ _ _ _ _ _› (by omega)
  
def o_Fa_relabel_at_Emblock_gp_1 : or_T := (28, 15, [(0, (2, 0, 0, [26])), (1, (0, 1, 72, [])), (2, (0, 0, 71, [])), (3, (0, 0, 71, [])), (4, (2, 0, 0, [140])), (5, (2, 0, 0, [141])), (6, (0, 0, 24, [])), (7, (2, 0, 0, [142])), (8, (0, 0, 25, [])), (9, (0, -2147483648, 2147483647, [])), (11, (0, 1, 72, [])), (12, (0, 0, 71, [])), (13, (0, 0, 71, [])), (14, (0, 1, 72, []))], [(7, [14, 11], [3]), (20, [10, 11], [61, 1, 566]), (20, [13, 12], [50, 0, 0, 2, 6, 0, 2, 0, 0, 1, 0, 0, 2, 1, 0, 1, 1]), (20, [10, 4, 5, 11, 12, 13, 6, 14], [61, 3, 582]), (20, [10, 4, 5, 7, 8, 11, 6, 9, 12, 13, 14], [61, 4, 591]), (24, [0, 10], []), (24, [1, 11], []), (24, [2, 12], []), (24, [3, 13], [])], [], [], [(20, [0, 1], [61, 1, 566]), (20, [0, 4, 5, 1, 3, 6], [61, 3, 583]), (20, [0, 4, 5, 7, 8, 1, 6, 9, 3], [61, 4, 592])], [], [(14, 11, 0, 4294967296), (1, 11, -4294967296, 0), (2, 12, -4294967296, 0), (3, 13, -4294967296, 0), (11, 1, -4294967296, 0), (12, 2, -4294967296, 0), (13, 3, -4294967296, 0), (14, 1, -4294967296, 0), (14, 11, -4294967296, 0)])
theorem oo_Fa_relabel_at_Emblock_gp_1 {kA : Nat → ClassId} : or_ok PRD kA GG o_Fa_relabel_at_Emblock_gp_1 := by
  refine or_mk fun A ta ws vs hD hth hl => ?_
  intro t0 r0 t1 k1 t2 k2 t3 k3 t4 r4 t5 r5 t6 k6 t7 r7 t8 k8 t9 k9 t11 k11 t12 k12 t13 k13 t14 k14 d0 d1 d2 d3 d4 d5 d6 d7 d8 f0 f1 f2 f3 f4 f5 f6 f7 f8
  replace f0 := shm_2 f0
  replace f1 := shm_383 f1
  replace f2 := shm_384 f2
  replace f3 := shm_387 f3
  replace f4 := shm_388 f4
  replace f5 := shm_5 f5
  replace f6 := shm_5 f6
  replace f7 := shm_5 f7
  replace f8 := shm_5 f8
  have q10 : n_v vs 10 = n_v vs 0 := f5.symm
  have q11 : n_v vs 11 = n_v vs 1 := f6.symm
  have q12 : n_v vs 12 = n_v vs 2 := f7.symm
  have q13 : n_v vs 13 = n_v vs 3 := f8.symm
  simp only [q11, q10, q12, q13] at f0 f1 f2 f3 f4
  have cr_0_999 : ta (v_ad (n_v vs 0)) = some 26 := r0
  have cr_4_999 : ta (v_ad (n_v vs 4)) = some 140 := r4
  have cr_5_999 : ta (v_ad (n_v vs 5)) = some 141 := r5
  have cr_7_999 : ta (v_ad (n_v vs 7)) = some 142 := r7
  have hK_0_999 := elq_17 hD hth cr_0_999
  have hK_4_999 := elq_20 hD hth cr_4_999
  have hK_5_999 := elq_21 hD hth cr_5_999
  have hK_7_999 := elq_26 hD hth cr_7_999
  have nf0 : fc_1 PRD (20, [0, 1], [61, 1, 566]) ws (vs) := ⟨nf_in hl rfl, sgq_383 (vc_Fa_relabel_at_Emblock_gp_1_0 (v_iv (n_v vs 1)) (v_iv (n_v vs 2)) (v_iv (n_v vs 3)) (v_iv (n_v vs 6)) (v_iv (n_v vs 8)) (v_iv (n_v vs 9)) (v_iv (n_v vs 11)) (v_iv (n_v vs 12)) (v_iv (n_v vs 13)) (v_iv (n_v vs 14)) (w_ei ws (v_ad (n_v vs 0))) (w_ei ws (v_ad (n_v vs 4))) (w_ei ws (v_ad (n_v vs 5))) (w_ei ws (v_ad (n_v vs 7))) k1 k2 k3 k6 k8 k9 k11 k12 k13 k14 d0 d1 d2 d3 d4 d5 d6 d7 d8 f0 f1 f2 f3 f4 hK_0_999 hK_4_999 hK_5_999 hK_7_999)⟩
  have nf1 : fc_1 PRD (20, [0, 4, 5, 1, 3, 6], [61, 3, 583]) ws (vs) := ⟨nf_in hl rfl, sgq_389 (vc_Fa_relabel_at_Emblock_gp_1_1 (v_iv (n_v vs 1)) (v_iv (n_v vs 2)) (v_iv (n_v vs 3)) (v_iv (n_v vs 6)) (v_iv (n_v vs 8)) (v_iv (n_v vs 9)) (v_iv (n_v vs 11)) (v_iv (n_v vs 12)) (v_iv (n_v vs 13)) (v_iv (n_v vs 14)) (w_ei ws (v_ad (n_v vs 0))) (w_ei ws (v_ad (n_v vs 4))) (w_ei ws (v_ad (n_v vs 5))) (w_ei ws (v_ad (n_v vs 7))) k1 k2 k3 k6 k8 k9 k11 k12 k13 k14 d0 d1 d2 d3 d4 d5 d6 d7 d8 f0 f1 f2 f3 f4 hK_0_999 hK_4_999 hK_5_999 hK_7_999)⟩
  have nf2 : fc_1 PRD (20, [0, 4, 5, 7, 8, 1, 6, 9, 3], [61, 4, 592]) ws (vs) := ⟨nf_in hl rfl, sgq_390 (vc_Fa_relabel_at_Emblock_gp_1_2 (v_iv (n_v vs 1)) (v_iv (n_v vs 2)) (v_iv (n_v vs 3)) (v_iv (n_v vs 6)) (v_iv (n_v vs 8)) (v_iv (n_v vs 9)) (v_iv (n_v vs 11)) (v_iv (n_v vs 12)) (v_iv (n_v vs 13)) (v_iv (n_v vs 14)) (w_ei ws (v_ad (n_v vs 0))) (w_ei ws (v_ad (n_v vs 4))) (w_ei ws (v_ad (n_v vs 5))) (w_ei ws (v_ad (n_v vs 7))) k1 k2 k3 k6 k8 k9 k11 k12 k13 k14 d0 d1 d2 d3 d4 d5 d6 d7 d8 f0 f1 f2 f3 f4 hK_0_999 hK_4_999 hK_5_999 hK_7_999)⟩
  refine ⟨(fun _ h => (by cases h)), [], trivial, ?_, (fun _ h => (by cases h))⟩
  rw [List.append_nil]
  exact List.forall_mem_cons.mpr ⟨⟨show (20 : Nat) < 100 from by decide, nf0⟩, List.forall_mem_cons.mpr ⟨⟨show (20 : Nat) < 100 from by decide, nf1⟩, List.forall_mem_cons.mpr ⟨⟨show (20 : Nat) < 100 from by decide, nf2⟩, (fun _ h => (by cases h))⟩⟩⟩
set_option maxHeartbeats 4000000 in
theorem vc_Fa_relabel_at_Emblock_gp_2_0 (x1 : Int) (x2 : Int) (x3 : Int) (x6 : Int) (x8 : Int) (x9 : Int) (x11 : Int) (x12 : Int) (x13 : Int) (x14 : Int) (x15 : Int) (x16 : Int) (a0_0 : Int → Int) (a4_0 : Int → Int) (a5_0 : Int → Int) (a7_0 : Int → Int) (k1 : 1 ≤ x1 ∧ x1 ≤ 72) (k2 : 0 ≤ x2 ∧ x2 ≤ 71) (k3 : 0 ≤ x3 ∧ x3 ≤ 71) (k6 : 0 ≤ x6 ∧ x6 ≤ 24) (k8 : 0 ≤ x8 ∧ x8 ≤ 25) (k9 : (-2147483648) ≤ x9 ∧ x9 ≤ 2147483647) (k11 : 1 ≤ x11 ∧ x11 ≤ 72) (k12 : 0 ≤ x12 ∧ x12 ≤ 71) (k13 : 0 ≤ x13 ∧ x13 ≤ 71) (k14 : 0 ≤ x14 ∧ x14 ≤ 71) (k15 : (-1) ≤ x15 ∧ x15 ≤ 71) (k16 : 1 ≤ x16 ∧ x16 ≤ 72) (d0 : x14 + 1 ≤ x16 ∧ x16 ≤ x14 + 1) (d1 : x11 + (-4294967296) ≤ x16 ∧ x16 ≤ x11 + 0) (d2 : x1 + (-4294967296) ≤ x16 ∧ x16 ≤ x1 + 1) (d3 : x11 + (-4294967296) ≤ x16 ∧ x16 ≤ x11 + 1) (d4 : x11 + (-4294967296) ≤ x14 ∧ x14 ≤ x11 + (-1)) (d5 : x11 + (-4294967296) ≤ x1 ∧ x1 ≤ x11 + 0) (d6 : x12 + (-4294967296) ≤ x2 ∧ x2 ≤ x12 + 0) (d7 : x13 + (-4294967296) ≤ x3 ∧ x3 ≤ x13 + 0) (d8 : x1 + (-4294967296) ≤ x11 ∧ x11 ≤ x1 + 0) (d9 : x2 + (-4294967296) ≤ x12 ∧ x12 ≤ x2 + 0) (d10 : x3 + (-4294967296) ≤ x13 ∧ x13 ≤ x3 + 0) (d11 : x1 + (-4294967296) ≤ x14 ∧ x14 ≤ x1 + 0) (d12 : x11 + (-4294967296) ≤ x14 ∧ x14 ≤ x11 + 0) (f0 : x16 = x14 + 1) (f1 : x15 ≠ x2) (h2 : x15 = a0_0 (x14)) (f3 : x14 < x1) (f4 : BLQ (a0_0) (x1)) (f5 : (0 ≤ x3) ∧ (x3 ≤ x2)) (f6 : RLI (a0_0) (a4_0) (a5_0) (x1) (x2) (x3) (x6) (x14)) (f7 : QKI (a0_0) (a4_0) (a5_0) (a7_0) (x8) (x1) (x6) (x9) (x2) (x3) (x14)) (hK_0_999 : ∀ j : Int, 0 ≤ j → j < 72 → (-1) ≤ a0_0 j ∧ a0_0 j ≤ 71) (hK_4_999 : ∀ j : Int, 0 ≤ j → j < 72 → 0 ≤ a4_0 j ∧ a4_0 j ≤ 24) (hK_5_999 : ∀ j : Int, 0 ≤ j → j < 72 → 0 ≤ a5_0 j ∧ a5_0 j ≤ 24) (hK_7_999 : ∀ j : Int, 0 ≤ j → j < 25 → 0 ≤ a7_0 j ∧ a7_0 j ≤ 33554431) : RLI (a0_0) (a4_0) (a5_0) (x1) (x2) (x3) (x6) (x16) := by
  first
    | exact rli_start ‹RLP _ _ _ _ _ _ _› (by omega)
    | exact rli_skip ‹RLI _ _ _ _ _ _ _ _› (by assumption) (by omega) (by omega)
    | exact rli_step ‹RLI _ _ _ _ _ _ _ _› (by assumption) (by omega) (by assumption) (by omega) (by omega) (by omega)
  
set_option maxHeartbeats 4000000 in
theorem vc_Fa_relabel_at_Emblock_gp_2_1 (x1 : Int) (x2 : Int) (x3 : Int) (x6 : Int) (x8 : Int) (x9 : Int) (x11 : Int) (x12 : Int) (x13 : Int) (x14 : Int) (x15 : Int) (x16 : Int) (a0_0 : Int → Int) (a4_0 : Int → Int) (a5_0 : Int → Int) (a7_0 : Int → Int) (k1 : 1 ≤ x1 ∧ x1 ≤ 72) (k2 : 0 ≤ x2 ∧ x2 ≤ 71) (k3 : 0 ≤ x3 ∧ x3 ≤ 71) (k6 : 0 ≤ x6 ∧ x6 ≤ 24) (k8 : 0 ≤ x8 ∧ x8 ≤ 25) (k9 : (-2147483648) ≤ x9 ∧ x9 ≤ 2147483647) (k11 : 1 ≤ x11 ∧ x11 ≤ 72) (k12 : 0 ≤ x12 ∧ x12 ≤ 71) (k13 : 0 ≤ x13 ∧ x13 ≤ 71) (k14 : 0 ≤ x14 ∧ x14 ≤ 71) (k15 : (-1) ≤ x15 ∧ x15 ≤ 71) (k16 : 1 ≤ x16 ∧ x16 ≤ 72) (d0 : x14 + 1 ≤ x16 ∧ x16 ≤ x14 + 1) (d1 : x11 + (-4294967296) ≤ x16 ∧ x16 ≤ x11 + 0) (d2 : x1 + (-4294967296) ≤ x16 ∧ x16 ≤ x1 + 1) (d3 : x11 + (-4294967296) ≤ x16 ∧ x16 ≤ x11 + 1) (d4 : x11 + (-4294967296) ≤ x14 ∧ x14 ≤ x11 + (-1)) (d5 : x11 + (-4294967296) ≤ x1 ∧ x1 ≤ x11 + 0) (d6 : x12 + (-4294967296) ≤ x2 ∧ x2 ≤ x12 + 0) (d7 : x13 + (-4294967296) ≤ x3 ∧ x3 ≤ x13 + 0) (d8 : x1 + (-4294967296) ≤ x11 ∧ x11 ≤ x1 + 0) (d9 : x2 + (-4294967296) ≤ x12 ∧ x12 ≤ x2 + 0) (d10 : x3 + (-4294967296) ≤ x13 ∧ x13 ≤ x3 + 0) (d11 : x1 + (-4294967296) ≤ x14 ∧ x14 ≤ x1 + 0) (d12 : x11 + (-4294967296) ≤ x14 ∧ x14 ≤ x11 + 0) (f0 : x16 = x14 + 1) (f1 : x15 ≠ x2) (h2 : x15 = a0_0 (x14)) (f3 : x14 < x1) (f4 : BLQ (a0_0) (x1)) (f5 : (0 ≤ x3) ∧ (x3 ≤ x2)) (f6 : RLI (a0_0) (a4_0) (a5_0) (x1) (x2) (x3) (x6) (x14)) (f7 : QKI (a0_0) (a4_0) (a5_0) (a7_0) (x8) (x1) (x6) (x9) (x2) (x3) (x14)) (hK_0_999 : ∀ j : Int, 0 ≤ j → j < 72 → (-1) ≤ a0_0 j ∧ a0_0 j ≤ 71) (hK_4_999 : ∀ j : Int, 0 ≤ j → j < 72 → 0 ≤ a4_0 j ∧ a4_0 j ≤ 24) (hK_5_999 : ∀ j : Int, 0 ≤ j → j < 72 → 0 ≤ a5_0 j ∧ a5_0 j ≤ 24) (hK_7_999 : ∀ j : Int, 0 ≤ j → j < 25 → 0 ≤ a7_0 j ∧ a7_0 j ≤ 33554431) : QKI (a0_0) (a4_0) (a5_0) (a7_0) (x8) (x1) (x6) (x9) (x2) (x3) (x16) := by
  first
    | exact qki_start ‹QKP _ _ _ _ _ _ _ _ _ _› (by omega)
    | exact qki_skip ‹QKI _ _ _ _ _ _ _ _ _ _ _› (by assumption) (by omega) (by omega)
    | exact qki_step ‹QKI _ _ _ _ _ _ _ _ _ _ _› (by assumption) (by omega) (by assumption) rfl (by omega) (by omega)
  
def o_Fa_relabel_at_Emblock_gp_2 : or_T := (3, 17, [(0, (2, 0, 0, [26])), (1, (0, 1, 72, [])), (2, (0, 0, 71, [])), (3, (0, 0, 71, [])), (4, (2, 0, 0, [140])), (5, (2, 0, 0, [141])), (6, (0, 0, 24, [])), (7, (2, 0, 0, [142])), (8, (0, 0, 25, [])), (9, (0, -2147483648, 2147483647, [])), (10, (2, 0, 0, [26])), (11, (0, 1, 72, [])), (12, (0, 0, 71, [])), (13, (0, 0, 71, [])), (14, (0, 0, 71, [])), (15, (0, -1, 71, [])), (16, (0, 1, 72, []))], [(6, [16, 14], [1]), (7, [15, 12], [1]), (10, [15, 10, 14], []), (7, [14, 11], [2]), (20, [10, 11], [61, 1, 566]), (20, [13, 12], [50, 0, 0, 2, 6, 0, 2, 0, 0, 1, 0, 0, 2, 1, 0, 1, 1]), (20, [10, 4, 5, 11, 12, 13, 6, 14], [61, 3, 582]), (20, [10, 4, 5, 7, 8, 11, 6, 9, 12, 13, 14], [61, 4, 591]), (24, [0, 10], []), (24, [1, 11], []), (24, [2, 12], []), (24, [3, 13], [])], [], [], [(20, [10, 4, 5, 11, 12, 13, 6, 16], [61, 3, 582]), (20, [10, 4, 5, 7, 8, 11, 6, 9, 12, 13, 16], [61, 4, 591])], [], [(16, 14, 1, 1), (16, 11, -4294967296, 0), (16, 1, -4294967296, 1), (16, 11, -4294967296, 1), (14, 11, -4294967296, -1), (1, 11, -4294967296, 0), (2, 12, -4294967296, 0), (3, 13, -4294967296, 0), (11, 1, -4294967296, 0), (12, 2, -4294967296, 0), (13, 3, -4294967296, 0), (14, 1, -4294967296, 0), (14, 11, -4294967296, 0)])
theorem oo_Fa_relabel_at_Emblock_gp_2 {kA : Nat → ClassId} : or_ok PRD kA GG o_Fa_relabel_at_Emblock_gp_2 := by
  refine or_mk fun A ta ws vs hD hth hl => ?_
  intro t0 r0 t1 k1 t2 k2 t3 k3 t4 r4 t5 r5 t6 k6 t7 r7 t8 k8 t9 k9 t10 r10 t11 k11 t12 k12 t13 k13 t14 k14 t15 k15 t16 k16 d0 d1 d2 d3 d4 d5 d6 d7 d8 d9 d10 d11 d12 f0 f1 f2 f3 f4 f5 f6 f7 f8 f9 f10 f11
  replace f0 := shm_4 f0
  replace f1 := shm_40 f1
  replace f2 := shm_106 f2
  replace f3 := shm_6 f3
  replace f4 := shm_383 f4
  replace f5 := shm_384 f5
  replace f6 := shm_387 f6
  replace f7 := shm_388 f7
  replace f8 := shm_5 f8
  replace f9 := shm_5 f9
  replace f10 := shm_5 f10
  replace f11 := shm_5 f11
  have q10 : n_v vs 10 = n_v vs 0 := f8.symm
  have q11 : n_v vs 11 = n_v vs 1 := f9.symm
  have q12 : n_v vs 12 = n_v vs 2 := f10.symm
  have q13 : n_v vs 13 = n_v vs 3 := f11.symm
  simp only [q12, q10, q11, q13] at f1 f2 f3 f4 f5 f6 f7
  have cr_0_999 : ta (v_ad (n_v vs 0)) = some 26 := r0
  have cr_4_999 : ta (v_ad (n_v vs 4)) = some 140 := r4
  have cr_5_999 : ta (v_ad (n_v vs 5)) = some 141 := r5
  have cr_7_999 : ta (v_ad (n_v vs 7)) = some 142 := r7
  have h2 : v_iv (n_v vs 15) = w_ei ws (v_ad (n_v vs 0)) (v_iv (n_v vs 14)) := f2
  have hK_0_999 := elq_17 hD hth cr_0_999
  have hK_4_999 := elq_20 hD hth cr_4_999
  have hK_5_999 := elq_21 hD hth cr_5_999
  have hK_7_999 := elq_26 hD hth cr_7_999
  have nf0 : fc_1 PRD (20, [10, 4, 5, 11, 12, 13, 6, 16], [61, 3, 582]) ws (vs) := by
    refine ⟨nf_in hl rfl, sgq_387 ?_⟩
    · show RLI (w_ei ws (v_ad (n_v vs 10))) (w_ei ws (v_ad (n_v vs 4))) (w_ei ws (v_ad (n_v vs 5))) (v_iv (n_v vs 11)) (v_iv (n_v vs 12)) (v_iv (n_v vs 13)) (v_iv (n_v vs 6)) (v_iv (n_v vs 16))
      simp only [q10, q11, q12, q13]
      exact vc_Fa_relabel_at_Emblock_gp_2_0 (v_iv (n_v vs 1)) (v_iv (n_v vs 2)) (v_iv (n_v vs 3)) (v_iv (n_v vs 6)) (v_iv (n_v vs 8)) (v_iv (n_v vs 9)) (v_iv (n_v vs 11)) (v_iv (n_v vs 12)) (v_iv (n_v vs 13)) (v_iv (n_v vs 14)) (v_iv (n_v vs 15)) (v_iv (n_v vs 16)) (w_ei ws (v_ad (n_v vs 0))) (w_ei ws (v_ad (n_v vs 4))) (w_ei ws (v_ad (n_v vs 5))) (w_ei ws (v_ad (n_v vs 7))) k1 k2 k3 k6 k8 k9 k11 k12 k13 k14 k15 k16 d0 d1 d2 d3 d4 d5 d6 d7 d8 d9 d10 d11 d12 f0 f1 h2 f3 f4 f5 f6 f7 hK_0_999 hK_4_999 hK_5_999 hK_7_999
  have nf1 : fc_1 PRD (20, [10, 4, 5, 7, 8, 11, 6, 9, 12, 13, 16], [61, 4, 591]) ws (vs) := by
    refine ⟨nf_in hl rfl, sgq_388 ?_⟩
    · show QKI (w_ei ws (v_ad (n_v vs 10))) (w_ei ws (v_ad (n_v vs 4))) (w_ei ws (v_ad (n_v vs 5))) (w_ei ws (v_ad (n_v vs 7))) (v_iv (n_v vs 8)) (v_iv (n_v vs 11)) (v_iv (n_v vs 6)) (v_iv (n_v vs 9)) (v_iv (n_v vs 12)) (v_iv (n_v vs 13)) (v_iv (n_v vs 16))
      simp only [q10, q11, q12, q13]
      exact vc_Fa_relabel_at_Emblock_gp_2_1 (v_iv (n_v vs 1)) (v_iv (n_v vs 2)) (v_iv (n_v vs 3)) (v_iv (n_v vs 6)) (v_iv (n_v vs 8)) (v_iv (n_v vs 9)) (v_iv (n_v vs 11)) (v_iv (n_v vs 12)) (v_iv (n_v vs 13)) (v_iv (n_v vs 14)) (v_iv (n_v vs 15)) (v_iv (n_v vs 16)) (w_ei ws (v_ad (n_v vs 0))) (w_ei ws (v_ad (n_v vs 4))) (w_ei ws (v_ad (n_v vs 5))) (w_ei ws (v_ad (n_v vs 7))) k1 k2 k3 k6 k8 k9 k11 k12 k13 k14 k15 k16 d0 d1 d2 d3 d4 d5 d6 d7 d8 d9 d10 d11 d12 f0 f1 h2 f3 f4 f5 f6 f7 hK_0_999 hK_4_999 hK_5_999 hK_7_999
  refine ⟨(fun _ h => (by cases h)), [], trivial, ?_, (fun _ h => (by cases h))⟩
  rw [List.append_nil]
  exact List.forall_mem_cons.mpr ⟨⟨show (20 : Nat) < 100 from by decide, nf0⟩, List.forall_mem_cons.mpr ⟨⟨show (20 : Nat) < 100 from by decide, nf1⟩, (fun _ h => (by cases h))⟩⟩
set_option maxHeartbeats 4000000 in
theorem vc_Fa_relabel_at_Emblock_gp_3_0 (x1 : Int) (x2 : Int) (x3 : Int) (x6 : Int) (x8 : Int) (x9 : Int) (x11 : Int) (x12 : Int) (x13 : Int) (x14 : Int) (x15 : Int) (x16 : Int) (a0_1 : Int → Int) (a4_1 : Int → Int) (a5_1 : Int → Int) (a7_1 : Int → Int) (a0_0 : Int → Int) (a4_0 : Int → Int) (a5_0 : Int → Int) (a7_0 : Int → Int) (k1 : 1 ≤ x1 ∧ x1 ≤ 72) (k2 : 0 ≤ x2 ∧ x2 ≤ 71) (k3 : 0 ≤ x3 ∧ x3 ≤ 71) (k6 : 0 ≤ x6 ∧ x6 ≤ 24) (k8 : 0 ≤ x8 ∧ x8 ≤ 25) (k9 : (-2147483648) ≤ x9 ∧ x9 ≤ 2147483647) (k11 : 1 ≤ x11 ∧ x11 ≤ 72) (k12 : 0 ≤ x12 ∧ x12 ≤ 71) (k13 : 0 ≤ x13 ∧ x13 ≤ 71) (k14 : 0 ≤ x14 ∧ x14 ≤ 71) (k15 : 0 ≤ x15 ∧ x15 ≤ 71) (k16 : 1 ≤ x16 ∧ x16 ≤ 72) (d0 : x14 + 1 ≤ x16 ∧ x16 ≤ x14 + 1) (d1 : x11 + (-4294967296) ≤ x16 ∧ x16 ≤ x11 + 0) (d2 : x1 + (-4294967296) ≤ x16 ∧ x16 ≤ x1 + 1) (d3 : x11 + (-4294967296) ≤ x16 ∧ x16 ≤ x11 + 1) (d4 : x12 + 0 ≤ x15 ∧ x15 ≤ x12 + 0) (d5 : x11 + (-4294967296) ≤ x14 ∧ x14 ≤ x11 + (-1)) (d6 : x11 + (-4294967296) ≤ x1 ∧ x1 ≤ x11 + 0) (d7 : x12 + (-4294967296) ≤ x2 ∧ x2 ≤ x12 + 0) (d8 : x13 + (-4294967296) ≤ x3 ∧ x3 ≤ x13 + 0) (d9 : x1 + (-4294967296) ≤ x11 ∧ x11 ≤ x1 + 0) (d10 : x2 + (-4294967296) ≤ x12 ∧ x12 ≤ x2 + 0) (d11 : x3 + (-4294967296) ≤ x13 ∧ x13 ≤ x3 + 0) (d12 : x1 + (-4294967296) ≤ x14 ∧ x14 ≤ x1 + 0) (d13 : x11 + (-4294967296) ≤ x14 ∧ x14 ≤ x11 + 0) (f0 : x16 = x14 + 1) (f1 : (0 ≤ x3) ∧ (x3 ≤ x2)) (f7 : x15 = x2) (h8 : x15 = a0_1 (x14)) (f9 : x14 < x1) (f10 : BLQ (a0_1) (x1)) (f11 : (0 ≤ x3) ∧ (x3 ≤ x2)) (f12 : RLI (a0_1) (a4_1) (a5_1) (x1) (x2) (x3) (x6) (x14)) (f13 : QKI (a0_1) (a4_1) (a5_1) (a7_1) (x8) (x1) (x6) (x9) (x2) (x3) (x14)) (hE_0_999_1 : ∀ j : Int, 0 ≤ j → (j = x14 → a0_0 j = x3) ∧ (j ≠ x14 → a0_0 j = a0_1 j)) (hK_0_999 : ∀ j : Int, 0 ≤ j → j < 72 → (-1) ≤ a0_0 j ∧ a0_0 j ≤ 71) (hE_4_999_1 : ∀ j : Int, a4_0 j = a4_1 j) (hK_4_999 : ∀ j : Int, 0 ≤ j → j < 72 → 0 ≤ a4_0 j ∧ a4_0 j ≤ 24) (hE_5_999_1 : ∀ j : Int, a5_0 j = a5_1 j) (hK_5_999 : ∀ j : Int, 0 ≤ j → j < 72 → 0 ≤ a5_0 j ∧ a5_0 j ≤ 24) (hE_7_999_1 : ∀ j : Int, a7_0 j = a7_1 j) (hK_7_999 : ∀ j : Int, 0 ≤ j → j < 25 → 0 ≤ a7_0 j ∧ a7_0 j ≤ 33554431) : BLQ (a0_0) (x1) := by
  have e_hE_4_999_1 := funext hE_4_999_1; subst e_hE_4_999_1
  have e_hE_5_999_1 := funext hE_5_999_1; subst e_hE_5_999_1
  have e_hE_7_999_1 := funext hE_7_999_1; subst e_hE_7_999_1
  first
    | assumption
    | (skip; (first | subst h8 | skip); exact blq_set ‹BLQ _ _› (by assumption) rfl rfl (by omega) (by omega) (by omega) (by omega) (by omega))
  
set_option maxHeartbeats 4000000 in
theorem vc_Fa_relabel_at_Emblock_gp_3_1 (x1 : Int) (x2 : Int) (x3 : Int) (x6 : Int) (x8 : Int) (x9 : Int) (x11 : Int) (x12 : Int) (x13 : Int) (x14 : Int) (x15 : Int) (x16 : Int) (a0_1 : Int → Int) (a4_1 : Int → Int) (a5_1 : Int → Int) (a7_1 : Int → Int) (a0_0 : Int → Int) (a4_0 : Int → Int) (a5_0 : Int → Int) (a7_0 : Int → Int) (k1 : 1 ≤ x1 ∧ x1 ≤ 72) (k2 : 0 ≤ x2 ∧ x2 ≤ 71) (k3 : 0 ≤ x3 ∧ x3 ≤ 71) (k6 : 0 ≤ x6 ∧ x6 ≤ 24) (k8 : 0 ≤ x8 ∧ x8 ≤ 25) (k9 : (-2147483648) ≤ x9 ∧ x9 ≤ 2147483647) (k11 : 1 ≤ x11 ∧ x11 ≤ 72) (k12 : 0 ≤ x12 ∧ x12 ≤ 71) (k13 : 0 ≤ x13 ∧ x13 ≤ 71) (k14 : 0 ≤ x14 ∧ x14 ≤ 71) (k15 : 0 ≤ x15 ∧ x15 ≤ 71) (k16 : 1 ≤ x16 ∧ x16 ≤ 72) (d0 : x14 + 1 ≤ x16 ∧ x16 ≤ x14 + 1) (d1 : x11 + (-4294967296) ≤ x16 ∧ x16 ≤ x11 + 0) (d2 : x1 + (-4294967296) ≤ x16 ∧ x16 ≤ x1 + 1) (d3 : x11 + (-4294967296) ≤ x16 ∧ x16 ≤ x11 + 1) (d4 : x12 + 0 ≤ x15 ∧ x15 ≤ x12 + 0) (d5 : x11 + (-4294967296) ≤ x14 ∧ x14 ≤ x11 + (-1)) (d6 : x11 + (-4294967296) ≤ x1 ∧ x1 ≤ x11 + 0) (d7 : x12 + (-4294967296) ≤ x2 ∧ x2 ≤ x12 + 0) (d8 : x13 + (-4294967296) ≤ x3 ∧ x3 ≤ x13 + 0) (d9 : x1 + (-4294967296) ≤ x11 ∧ x11 ≤ x1 + 0) (d10 : x2 + (-4294967296) ≤ x12 ∧ x12 ≤ x2 + 0) (d11 : x3 + (-4294967296) ≤ x13 ∧ x13 ≤ x3 + 0) (d12 : x1 + (-4294967296) ≤ x14 ∧ x14 ≤ x1 + 0) (d13 : x11 + (-4294967296) ≤ x14 ∧ x14 ≤ x11 + 0) (f0 : x16 = x14 + 1) (f1 : (0 ≤ x3) ∧ (x3 ≤ x2)) (f7 : x15 = x2) (h8 : x15 = a0_1 (x14)) (f9 : x14 < x1) (f10 : BLQ (a0_1) (x1)) (f11 : (0 ≤ x3) ∧ (x3 ≤ x2)) (f12 : RLI (a0_1) (a4_1) (a5_1) (x1) (x2) (x3) (x6) (x14)) (f13 : QKI (a0_1) (a4_1) (a5_1) (a7_1) (x8) (x1) (x6) (x9) (x2) (x3) (x14)) (hE_0_999_1 : ∀ j : Int, 0 ≤ j → (j = x14 → a0_0 j = x3) ∧ (j ≠ x14 → a0_0 j = a0_1 j)) (hK_0_999 : ∀ j : Int, 0 ≤ j → j < 72 → (-1) ≤ a0_0 j ∧ a0_0 j ≤ 71) (hE_4_999_1 : ∀ j : Int, a4_0 j = a4_1 j) (hK_4_999 : ∀ j : Int, 0 ≤ j → j < 72 → 0 ≤ a4_0 j ∧ a4_0 j ≤ 24) (hE_5_999_1 : ∀ j : Int, a5_0 j = a5_1 j) (hK_5_999 : ∀ j : Int, 0 ≤ j → j < 72 → 0 ≤ a5_0 j ∧ a5_0 j ≤ 24) (hE_7_999_1 : ∀ j : Int, a7_0 j = a7_1 j) (hK_7_999 : ∀ j : Int, 0 ≤ j → j < 25 → 0 ≤ a7_0 j ∧ a7_0 j ≤ 33554431) : RLI (a0_0) (a4_0) (a5_0) (x1) (x2) (x3) (x6) (x16) := by
  have e_hE_4_999_1 := funext hE_4_999_1; subst e_hE_4_999_1
  have e_hE_5_999_1 := funext hE_5_999_1; subst e_hE_5_999_1
  have e_hE_7_999_1 := funext hE_7_999_1; subst e_hE_7_999_1
  first
    | exact rli_start ‹RLP _ _ _ _ _ _ _› (by omega)
    | exact rli_skip ‹RLI _ _ _ _ _ _ _ _› (by assumption) (by omega) (by omega)
    | exact rli_step ‹RLI _ _ _ _ _ _ _ _› (by assumption) (by omega) (by assumption) (by omega) (by omega) (by omega)
  
set_option maxHeartbeats 4000000 in
theorem vc_Fa_relabel_at_Emblock_gp_3_2 (x1 : Int) (x2 : Int) (x3 : Int) (x6 : Int) (x8 : Int) (x9 : Int) (x11 : Int) (x12 : Int) (x13 : Int) (x14 : Int) (x15 : Int) (x16 : Int) (a0_1 : Int → Int) (a4_1 : Int → Int) (a5_1 : Int → Int) (a7_1 : Int → Int) (a0_0 : Int → Int) (a4_0 : Int → Int) (a5_0 : Int → Int) (a7_0 : Int → Int) (k1 : 1 ≤ x1 ∧ x1 ≤ 72) (k2 : 0 ≤ x2 ∧ x2 ≤ 71) (k3 : 0 ≤ x3 ∧ x3 ≤ 71) (k6 : 0 ≤ x6 ∧ x6 ≤ 24) (k8 : 0 ≤ x8 ∧ x8 ≤ 25) (k9 : (-2147483648) ≤ x9 ∧ x9 ≤ 2147483647) (k11 : 1 ≤ x11 ∧ x11 ≤ 72) (k12 : 0 ≤ x12 ∧ x12 ≤ 71) (k13 : 0 ≤ x13 ∧ x13 ≤ 71) (k14 : 0 ≤ x14 ∧ x14 ≤ 71) (k15 : 0 ≤ x15 ∧ x15 ≤ 71) (k16 : 1 ≤ x16 ∧ x16 ≤ 72) (d0 : x14 + 1 ≤ x16 ∧ x16 ≤ x14 + 1) (d1 : x11 + (-4294967296) ≤ x16 ∧ x16 ≤ x11 + 0) (d2 : x1 + (-4294967296) ≤ x16 ∧ x16 ≤ x1 + 1) (d3 : x11 + (-4294967296) ≤ x16 ∧ x16 ≤ x11 + 1) (d4 : x12 + 0 ≤ x15 ∧ x15 ≤ x12 + 0) (d5 : x11 + (-4294967296) ≤ x14 ∧ x14 ≤ x11 + (-1)) (d6 : x11 + (-4294967296) ≤ x1 ∧ x1 ≤ x11 + 0) (d7 : x12 + (-4294967296) ≤ x2 ∧ x2 ≤ x12 + 0) (d8 : x13 + (-4294967296) ≤ x3 ∧ x3 ≤ x13 + 0) (d9 : x1 + (-4294967296) ≤ x11 ∧ x11 ≤ x1 + 0) (d10 : x2 + (-4294967296) ≤ x12 ∧ x12 ≤ x2 + 0) (d11 : x3 + (-4294967296) ≤ x13 ∧ x13 ≤ x3 + 0) (d12 : x1 + (-4294967296) ≤ x14 ∧ x14 ≤ x1 + 0) (d13 : x11 + (-4294967296) ≤ x14 ∧ x14 ≤ x11 + 0) (f0 : x16 = x14 + 1) (f1 : (0 ≤ x3) ∧ (x3 ≤ x2)) (f7 : x15 = x2) (h8 : x15 = a0_1 (x14)) (f9 : x14 < x1) (f10 : BLQ (a0_1) (x1)) (f11 : (0 ≤ x3) ∧ (x3 ≤ x2)) (f12 : RLI (a0_1) (a4_1) (a5_1) (x1) (x2) (x3) (x6) (x14)) (f13 : QKI (a0_1) (a4_1) (a5_1) (a7_1) (x8) (x1) (x6) (x9) (x2) (x3) (x14)) (hE_0_999_1 : ∀ j : Int, 0 ≤ j → (j = x14 → a0_0 j = x3) ∧ (j ≠ x14 → a0_0 j = a0_1 j)) (hK_0_999 : ∀ j : Int, 0 ≤ j → j < 72 → (-1) ≤ a0_0 j ∧ a0_0 j ≤ 71) (hE_4_999_1 : ∀ j : Int, a4_0 j = a4_1 j) (hK_4_999 : ∀ j : Int, 0 ≤ j → j < 72 → 0 ≤ a4_0 j ∧ a4_0 j ≤ 24) (hE_5_999_1 : ∀ j : Int, a5_0 j = a5_1 j) (hK_5_999 : ∀ j : Int, 0 ≤ j → j < 72 → 0 ≤ a5_0 j ∧ a5_0 j ≤ 24) (hE_7_999_1 : ∀ j : Int, a7_0 j = a7_1 j) (hK_7_999 : ∀ j : Int, 0 ≤ j → j < 25 → 0 ≤ a7_0 j ∧ a7_0 j ≤ 33554431) : QKI (a0_0) (a4_0) (a5_0) (a7_0) (x8) (x1) (x6) (x9) (x2) (x3) (x16) := by
  have e_hE_4_999_1 := funext hE_4_999_1; subst e_hE_4_999_1
  have e_hE_5_999_1 := funext hE_5_999_1; subst e_hE_5_999_1
  have e_hE_7_999_1 := funext hE_7_999_1; subst e_hE_7_999_1
  first
    | exact qki_start ‹QKP _ _ _ _ _ _ _ _ _ _› (by omega)
    | exact qki_skip ‹QKI _ _ _ _ _ _ _ _ _ _ _› (by assumption) (by omega) (by omega)
    | exact qki_step ‹QKI _ _ _ _ _ _ _ _ _ _ _› (by assumption) (by omega) (by assumption) rfl (by omega) (by omega)
  
def o_Fa_relabel_at_Emblock_gp_3 : or_T := (3, 17, [(0, (2, 0, 0, [26])), (1, (0, 1, 72, [])), (2, (0, 0, 71, [])), (3, (0, 0, 71, [])), (4, (2, 0, 0, [140])), (5, (2, 0, 0, [141])), (6, (0, 0, 24, [])), (7, (2, 0, 0, [142])), (8, (0, 0, 25, [])), (9, (0, -2147483648, 2147483647, [])), (10, (2, 0, 0, [26])), (11, (0, 1, 72, [])), (12, (0, 0, 71, [])), (13, (0, 0, 71, [])), (14, (0, 0, 71, [])), (15, (0, 0, 71, [])), (16, (0, 1, 72, []))], [(6, [16, 14], [1]), (20, [13, 12], [50, 0, 0, 2, 6, 0, 2, 0, 0, 1, 0, 0, 2, 1, 0, 1, 1]), (24, [0, 10], []), (24, [1, 11], []), (24, [2, 12], []), (24, [3, 13], []), (100, [10, 14, 13], []), (7, [15, 12], [0]), (10, [15, 10, 14], []), (7, [14, 11], [2]), (20, [10, 11], [61, 1, 566]), (20, [13, 12], [50, 0, 0, 2, 6, 0, 2, 0, 0, 1, 0, 0, 2, 1, 0, 1, 1]), (20, [10, 4, 5, 11, 12, 13, 6, 14], [61, 3, 582]), (20, [10, 4, 5, 7, 8, 11, 6, 9, 12, 13, 14], [61, 4, 591])], [], [], [(20, [10, 11], [61, 1, 566]), (20, [10, 4, 5, 11, 12, 13, 6, 16], [61, 3, 582]), (20, [10, 4, 5, 7, 8, 11, 6, 9, 12, 13, 16], [61, 4, 591])], [], [(16, 14, 1, 1), (16, 11, -4294967296, 0), (16, 1, -4294967296, 1), (16, 11, -4294967296, 1), (15, 12, 0, 0), (14, 11, -4294967296, -1), (1, 11, -4294967296, 0), (2, 12, -4294967296, 0), (3, 13, -4294967296, 0), (11, 1, -4294967296, 0), (12, 2, -4294967296, 0), (13, 3, -4294967296, 0), (14, 1, -4294967296, 0), (14, 11, -4294967296, 0)])
theorem oo_Fa_relabel_at_Emblock_gp_3 {kA : Nat → ClassId} : or_ok PRD kA GG o_Fa_relabel_at_Emblock_gp_3 := by
  refine or_mk fun A ta ws vs hD hth hl => ?_
  intro t0 r0 t1 k1 t2 k2 t3 k3 t4 r4 t5 r5 t6 k6 t7 r7 t8 k8 t9 k9 t10 r10 t11 k11 t12 k12 t13 k13 t14 k14 t15 k15 t16 k16 d0 d1 d2 d3 d4 d5 d6 d7 d8 d9 d10 d11 d12 d13 f0 f1 f2 f3 f4 f5 ta1 w1 le1 s1 f7 f8 f9 f10 f11 f12 f13
  replace f0 := shm_4 f0
  replace f1 := shm_384 f1
  replace f2 := shm_5 f2
  replace f3 := shm_5 f3
  replace f4 := shm_5 f4
  replace f5 := shm_5 f5
  have s1 : (∀ b j, w_el ws b j = if b = v_ad (n_v vs 10) ∧ j = (v_iv (n_v vs 14)).toNat then v_iv (n_v vs 13) else w_el w1 b j) ∧ ∀ b k, w_fd ws b k = w_fd w1 b k := s1.2
  replace f7 := shm_37 f7
  replace f8 := shm_106 f8
  replace f9 := shm_6 f9
  replace f10 := shm_383 f10
  replace f11 := shm_384 f11
  replace f12 := shm_387 f12
  replace f13 := shm_388 f13
  have q10 : n_v vs 10 = n_v vs 0 := f2.symm
  have q11 : n_v vs 11 = n_v vs 1 := f3.symm
  have q12 : n_v vs 12 = n_v vs 2 := f4.symm
  have q13 : n_v vs 13 = n_v vs 3 := f5.symm
  simp only [q12, q13] at f1
  rw [q10] at s1
  rw [q13] at s1
  simp only [q12, q10, q11, q13] at f7 f8 f9 f10 f11 f12 f13
  have cr_0_999 : ta (v_ad (n_v vs 0)) = some 26 := r0
  have cr_4_999 : ta (v_ad (n_v vs 4)) = some 140 := r4
  have cr_5_999 : ta (v_ad (n_v vs 5)) = some 141 := r5
  have cr_7_999 : ta (v_ad (n_v vs 7)) = some 142 := r7
  have ad_0 : v_ad (n_v vs 0) = v_ad (n_v vs 0) := rfl
  have h8 : v_iv (n_v vs 15) = w_ei w1 (v_ad (n_v vs 0)) (v_iv (n_v vs 14)) := f8
  have hE_0_999_1 : ∀ j : Int, 0 ≤ j → (j = v_iv (n_v vs 14) → w_ei ws (v_ad (n_v vs 0)) j = v_iv (n_v vs 3)) ∧ (j ≠ v_iv (n_v vs 14) → w_ei ws (v_ad (n_v vs 0)) j = w_ei w1 (v_ad (n_v vs 0)) j) := fun j hj => ⟨fun h => by unfold w_ei; rw [s1.1, if_pos ⟨ad_0.symm, by rw [h]⟩], fun h => by unfold w_ei; rw [s1.1, if_neg (fun e => h (by have := e.2; omega))]⟩
  have hK_0_999 := elq_17 hD hth cr_0_999
  have hE_4_999_1 : ∀ j : Int, w_ei ws (v_ad (n_v vs 4)) j = w_ei w1 (v_ad (n_v vs 4)) j := el_kp s1.1 r0 cr_4_999 (by decide)
  have hK_4_999 := elq_20 hD hth cr_4_999
  have hE_5_999_1 : ∀ j : Int, w_ei ws (v_ad (n_v vs 5)) j = w_ei w1 (v_ad (n_v vs 5)) j := el_kp s1.1 r0 cr_5_999 (by decide)
  have hK_5_999 := elq_21 hD hth cr_5_999
  have hE_7_999_1 : ∀ j : Int, w_ei ws (v_ad (n_v vs 7)) j = w_ei w1 (v_ad (n_v vs 7)) j := el_kp s1.1 r0 cr_7_999 (by decide)
  have hK_7_999 := elq_26 hD hth cr_7_999
  have nf0 : fc_1 PRD (20, [10, 11], [61, 1, 566]) ws (vs) := by
    refine ⟨nf_in hl rfl, sgq_383 ?_⟩
    · show BLQ (w_ei ws (v_ad (n_v vs 10))) (v_iv (n_v vs 11))
      simp only [q10, q11]
      exact vc_Fa_relabel_at_Emblock_gp_3_0 (v_iv (n_v vs 1)) (v_iv (n_v vs 2)) (v_iv (n_v vs 3)) (v_iv (n_v vs 6)) (v_iv (n_v vs 8)) (v_iv (n_v vs 9)) (v_iv (n_v vs 11)) (v_iv (n_v vs 12)) (v_iv (n_v vs 13)) (v_iv (n_v vs 14)) (v_iv (n_v vs 15)) (v_iv (n_v vs 16)) (w_ei w1 (v_ad (n_v vs 0))) (w_ei w1 (v_ad (n_v vs 4))) (w_ei w1 (v_ad (n_v vs 5))) (w_ei w1 (v_ad (n_v vs 7))) (w_ei ws (v_ad (n_v vs 0))) (w_ei ws (v_ad (n_v vs 4))) (w_ei ws (v_ad (n_v vs 5))) (w_ei ws (v_ad (n_v vs 7))) k1 k2 k3 k6 k8 k9 k11 k12 k13 k14 k15 k16 d0 d1 d2 d3 d4 d5 d6 d7 d8 d9 d10 d11 d12 d13 f0 f1 f7 h8 f9 f10 f11 f12 f13 hE_0_999_1 hK_0_999 hE_4_999_1 hK_4_999 hE_5_999_1 hK_5_999 hE_7_999_1 hK_7_999
  have nf1 : fc_1 PRD (20, [10, 4, 5, 11, 12, 13, 6, 16], [61, 3, 582]) ws (vs) := by
    refine ⟨nf_in hl rfl, sgq_387 ?_⟩
    · show RLI (w_ei ws (v_ad (n_v vs 10))) (w_ei ws (v_ad (n_v vs 4))) (w_ei ws (v_ad (n_v vs 5))) (v_iv (n_v vs 11)) (v_iv (n_v vs 12)) (v_iv (n_v vs 13)) (v_iv (n_v vs 6)) (v_iv (n_v vs 16))
      simp only [q10, q11, q12, q13]
      exact vc_Fa_relabel_at_Emblock_gp_3_1 (v_iv (n_v vs 1)) (v_iv (n_v vs 2)) (v_iv (n_v vs 3)) (v_iv (n_v vs 6)) (v_iv (n_v vs 8)) (v_iv (n_v vs 9)) (v_iv (n_v vs 11)) (v_iv (n_v vs 12)) (v_iv (n_v vs 13)) (v_iv (n_v vs 14)) (v_iv (n_v vs 15)) (v_iv (n_v vs 16)) (w_ei w1 (v_ad (n_v vs 0))) (w_ei w1 (v_ad (n_v vs 4))) (w_ei w1 (v_ad (n_v vs 5))) (w_ei w1 (v_ad (n_v vs 7))) (w_ei ws (v_ad (n_v vs 0))) (w_ei ws (v_ad (n_v vs 4))) (w_ei ws (v_ad (n_v vs 5))) (w_ei ws (v_ad (n_v vs 7))) k1 k2 k3 k6 k8 k9 k11 k12 k13 k14 k15 k16 d0 d1 d2 d3 d4 d5 d6 d7 d8 d9 d10 d11 d12 d13 f0 f1 f7 h8 f9 f10 f11 f12 f13 hE_0_999_1 hK_0_999 hE_4_999_1 hK_4_999 hE_5_999_1 hK_5_999 hE_7_999_1 hK_7_999
  have nf2 : fc_1 PRD (20, [10, 4, 5, 7, 8, 11, 6, 9, 12, 13, 16], [61, 4, 591]) ws (vs) := by
    refine ⟨nf_in hl rfl, sgq_388 ?_⟩
    · show QKI (w_ei ws (v_ad (n_v vs 10))) (w_ei ws (v_ad (n_v vs 4))) (w_ei ws (v_ad (n_v vs 5))) (w_ei ws (v_ad (n_v vs 7))) (v_iv (n_v vs 8)) (v_iv (n_v vs 11)) (v_iv (n_v vs 6)) (v_iv (n_v vs 9)) (v_iv (n_v vs 12)) (v_iv (n_v vs 13)) (v_iv (n_v vs 16))
      simp only [q10, q11, q12, q13]
      exact vc_Fa_relabel_at_Emblock_gp_3_2 (v_iv (n_v vs 1)) (v_iv (n_v vs 2)) (v_iv (n_v vs 3)) (v_iv (n_v vs 6)) (v_iv (n_v vs 8)) (v_iv (n_v vs 9)) (v_iv (n_v vs 11)) (v_iv (n_v vs 12)) (v_iv (n_v vs 13)) (v_iv (n_v vs 14)) (v_iv (n_v vs 15)) (v_iv (n_v vs 16)) (w_ei w1 (v_ad (n_v vs 0))) (w_ei w1 (v_ad (n_v vs 4))) (w_ei w1 (v_ad (n_v vs 5))) (w_ei w1 (v_ad (n_v vs 7))) (w_ei ws (v_ad (n_v vs 0))) (w_ei ws (v_ad (n_v vs 4))) (w_ei ws (v_ad (n_v vs 5))) (w_ei ws (v_ad (n_v vs 7))) k1 k2 k3 k6 k8 k9 k11 k12 k13 k14 k15 k16 d0 d1 d2 d3 d4 d5 d6 d7 d8 d9 d10 d11 d12 d13 f0 f1 f7 h8 f9 f10 f11 f12 f13 hE_0_999_1 hK_0_999 hE_4_999_1 hK_4_999 hE_5_999_1 hK_5_999 hE_7_999_1 hK_7_999
  refine ⟨(fun _ h => (by cases h)), [], trivial, ?_, (fun _ h => (by cases h))⟩
  rw [List.append_nil]
  exact List.forall_mem_cons.mpr ⟨⟨show (20 : Nat) < 100 from by decide, nf0⟩, List.forall_mem_cons.mpr ⟨⟨show (20 : Nat) < 100 from by decide, nf1⟩, List.forall_mem_cons.mpr ⟨⟨show (20 : Nat) < 100 from by decide, nf2⟩, (fun _ h => (by cases h))⟩⟩⟩
def n_Fa_relabel_at_Emblock_gp_an : List an_T := [(3, [(0, (2, 0, 0, [26])), (1, (0, 1, 72, [])), (2, (0, 0, 71, [])), (3, (0, 0, 71, [])), (4, (0, 0, 72, []))], [], (0, 0), [(0, 0, 99997), (1, 14, 72), (0, 0, 100000)], [(1, 11, (Int.negSucc 999999999999), 0), (2, 12, (Int.negSucc 999999999999), 0), (3, 13, (Int.negSucc 999999999999), 0), (11, 1, (Int.negSucc 999999999999), 0), (12, 2, (Int.negSucc 999999999999), 0), (13, 3, (Int.negSucc 999999999999), 0), (14, 1, (Int.negSucc 999999999999), 0), (14, 11, (Int.negSucc 999999999999), 0)], [], [(2, 0, 0, [26]), (0, 1, 72, []), (0, 0, 71, []), (0, 0, 71, []), (2, 0, 0, [140]), (2, 0, 0, [141]), (0, 0, 24, []), (2, 0, 0, [142]), (0, 0, 25, []), (0, (Int.negSucc 2147483647), 2147483647, [])], 0, [], [(20, [10, 11], [61, 1, 566]), (20, [13, 12], [50, 0, 0, 2, 6, 0, 2, 0, 0, 1, 0, 0, 2, 1, 0, 1, 1]), (20, [10, 4, 5, 11, 12, 13, 6, 14], [61, 3, 582]), (20, [10, 4, 5, 7, 8, 11, 6, 9, 12, 13, 14], [61, 4, 591]), (24, [0, 10], []), (24, [1, 11], []), (24, [2, 12], []), (24, [3, 13], [])])]
def t_Fa_relabel_at_Emblock_gp_ct : ct_L := []
set_option maxRecDepth 100000 in
theorem c_Fa_relabel_at_Emblock_gp {l : Launch} {D : va_G} {kA : Nat → ClassId} : ct_ok PRD l D kA GG y_Fa_relabel_at_Emblock_gp z_Fa_relabel_at_Emblock_gp e_Fa_relabel_at_Emblock_gp := chk_all_ok (FT := []) (PT := []) (CT := t_Fa_relabel_at_Emblock_gp_ct) (KT := []) (NT := []) (AN := n_Fa_relabel_at_Emblock_gp_an) (OT := [o_Fa_relabel_at_Emblock_gp_0, o_Fa_relabel_at_Emblock_gp_1, o_Fa_relabel_at_Emblock_gp_2, o_Fa_relabel_at_Emblock_gp_3]) 3 200 (List.forall_mem_cons.mpr ⟨oo_Fa_relabel_at_Emblock_gp_0, List.forall_mem_cons.mpr ⟨oo_Fa_relabel_at_Emblock_gp_1, List.forall_mem_cons.mpr ⟨oo_Fa_relabel_at_Emblock_gp_2, List.forall_mem_cons.mpr ⟨oo_Fa_relabel_at_Emblock_gp_3, List.forall_mem_nil _⟩⟩⟩⟩) (by decide +kernel) ⟨List.forall_mem_nil _, List.forall_mem_nil _, List.forall_mem_nil _, List.forall_mem_nil _, List.forall_mem_nil _, GG_pl⟩ (by decide +kernel)
set_option maxHeartbeats 4000000 in
theorem vc_Fa_relabel_at_Fablock_gr_0_0 (x1 : Int) (x2 : Int) (x3 : Int) (x6 : Int) (x8 : Int) (x9 : Int) (x10 : Int) (a0_0 : Int → Int) (a4_0 : Int → Int) (a5_0 : Int → Int) (a7_0 : Int → Int) (k1 : 1 ≤ x1 ∧ x1 ≤ 48) (k2 : 0 ≤ x2 ∧ x2 ≤ 47) (k3 : 0 ≤ x3 ∧ x3 ≤ 47) (k6 : 0 ≤ x6 ∧ x6 ≤ 24) (k8 : 0 ≤ x8 ∧ x8 ≤ 25) (k9 : (-2147483648) ≤ x9 ∧ x9 ≤ 2147483647) (k10 : 0 ≤ x10 ∧ x10 ≤ 0) (f0 : BLQ (a0_0) (x1)) (f1 : (0 ≤ x3) ∧ (x3 ≤ x2)) (f2 : RLP (a0_0) (a4_0) (a5_0) (x1) (x2) (x3) (x6)) (f3 : QKP (a0_0) (a4_0) (a5_0) (a7_0) (x8) (x1) (x6) (x9) (x2) (x3)) (hK_0_999 : ∀ j : Int, 0 ≤ j → j < 48 → (-1) ≤ a0_0 j ∧ a0_0 j ≤ 47) (hK_4_999 : ∀ j : Int, 0 ≤ j → j < 48 → 0 ≤ a4_0 j ∧ a4_0 j ≤ 23) (hK_5_999 : ∀ j : Int, 0 ≤ j → j < 48 → 0 ≤ a5_0 j ∧ a5_0 j ≤ 23) (hK_7_999 : ∀ j : Int, 0 ≤ j → j < 24 → 0 ≤ a7_0 j ∧ a7_0 j ≤ 16777215) : RLI (a0_0) (a4_0) (a5_0) (x1) (x2) (x3) (x6) (x10) := by
  first
    | exact rli_start ‹RLP _ _ _ _ _ _ _› (by omega)
    | exact rli_skip ‹RLI _ _ _ _ _ _ _ _› (by assumption) (by omega) (by omega)
    | exact rli_step ‹RLI _ _ _ _ _ _ _ _› (by assumption) (by omega) (by assumption) (by omega) (by omega) (by omega)
  
set_option maxHeartbeats 4000000 in
theorem vc_Fa_relabel_at_Fablock_gr_0_1 (x1 : Int) (x2 : Int) (x3 : Int) (x6 : Int) (x8 : Int) (x9 : Int) (x10 : Int) (a0_0 : Int → Int) (a4_0 : Int → Int) (a5_0 : Int → Int) (a7_0 : Int → Int) (k1 : 1 ≤ x1 ∧ x1 ≤ 48) (k2 : 0 ≤ x2 ∧ x2 ≤ 47) (k3 : 0 ≤ x3 ∧ x3 ≤ 47) (k6 : 0 ≤ x6 ∧ x6 ≤ 24) (k8 : 0 ≤ x8 ∧ x8 ≤ 25) (k9 : (-2147483648) ≤ x9 ∧ x9 ≤ 2147483647) (k10 : 0 ≤ x10 ∧ x10 ≤ 0) (f0 : BLQ (a0_0) (x1)) (f1 : (0 ≤ x3) ∧ (x3 ≤ x2)) (f2 : RLP (a0_0) (a4_0) (a5_0) (x1) (x2) (x3) (x6)) (f3 : QKP (a0_0) (a4_0) (a5_0) (a7_0) (x8) (x1) (x6) (x9) (x2) (x3)) (hK_0_999 : ∀ j : Int, 0 ≤ j → j < 48 → (-1) ≤ a0_0 j ∧ a0_0 j ≤ 47) (hK_4_999 : ∀ j : Int, 0 ≤ j → j < 48 → 0 ≤ a4_0 j ∧ a4_0 j ≤ 23) (hK_5_999 : ∀ j : Int, 0 ≤ j → j < 48 → 0 ≤ a5_0 j ∧ a5_0 j ≤ 23) (hK_7_999 : ∀ j : Int, 0 ≤ j → j < 24 → 0 ≤ a7_0 j ∧ a7_0 j ≤ 16777215) : QKI (a0_0) (a4_0) (a5_0) (a7_0) (x8) (x1) (x6) (x9) (x2) (x3) (x10) := by
  first
    | exact qki_start ‹QKP _ _ _ _ _ _ _ _ _ _› (by omega)
    | exact qki_skip ‹QKI _ _ _ _ _ _ _ _ _ _ _› (by assumption) (by omega) (by omega)
    | exact qki_step ‹QKI _ _ _ _ _ _ _ _ _ _ _› (by assumption) (by omega) (by assumption) rfl (by omega) (by omega)
  
def o_Fa_relabel_at_Fablock_gr_0 : or_T := (3, 11, [(0, (2, 0, 0, [38])), (1, (0, 1, 48, [])), (2, (0, 0, 47, [])), (3, (0, 0, 47, [])), (4, (2, 0, 0, [52])), (5, (2, 0, 0, [53])), (6, (0, 0, 24, [])), (7, (2, 0, 0, [59])), (8, (0, 0, 25, [])), (9, (0, -2147483648, 2147483647, [])), (10, (0, 0, 0, []))], [(20, [0, 1], [61, 1, 566]), (20, [3, 2], [50, 0, 0, 2, 6, 0, 2, 0, 0, 1, 0, 0, 2, 1, 0, 1, 1]), (20, [0, 4, 5, 1, 2, 3, 6], [61, 3, 581]), (20, [0, 4, 5, 7, 8, 1, 6, 9, 2, 3], [61, 4, 590])], [], [], [(20, [0, 4, 5, 1, 2, 3, 6, 10], [61, 3, 582]), (20, [0, 4, 5, 7, 8, 1, 6, 9, 2, 3, 10], [61, 4, 591]), (24, [0, 0], []), (24, [1, 1], []), (24, [2, 2], []), (24, [3, 3], [])], [], [])
theorem oo_Fa_relabel_at_Fablock_gr_0 {kA : Nat → ClassId} : or_ok PRD kA GG o_Fa_relabel_at_Fablock_gr_0 := by
  refine or_mk fun A ta ws vs hD hth hl => ?_
  intro t0 r0 t1 k1 t2 k2 t3 k3 t4 r4 t5 r5 t6 k6 t7 r7 t8 k8 t9 k9 t10 k10 f0 f1 f2 f3
  have cr_0_999 : ta (v_ad (n_v vs 0)) = some 38 := r0
  have cr_4_999 : ta (v_ad (n_v vs 4)) = some 52 := r4
  have cr_5_999 : ta (v_ad (n_v vs 5)) = some 53 := r5
  have cr_7_999 : ta (v_ad (n_v vs 7)) = some 59 := r7
  have hK_0_999 := elq_27 hD hth cr_0_999
  have hK_4_999 := elq_10 hD hth cr_4_999
  have hK_5_999 := elq_11 hD hth cr_5_999
  have hK_7_999 := elq_24 hD hth cr_7_999
  have nf0 : fc_1 PRD (20, [0, 4, 5, 1, 2, 3, 6, 10], [61, 3, 582]) ws (vs) := ⟨nf_in hl rfl, sgq_387 (vc_Fa_relabel_at_Fablock_gr_0_0 (v_iv (n_v vs 1)) (v_iv (n_v vs 2)) (v_iv (n_v vs 3)) (v_iv (n_v vs 6)) (v_iv (n_v vs 8)) (v_iv (n_v vs 9)) (v_iv (n_v vs 10)) (w_ei ws (v_ad (n_v vs 0))) (w_ei ws (v_ad (n_v vs 4))) (w_ei ws (v_ad (n_v vs 5))) (w_ei ws (v_ad (n_v vs 7))) k1 k2 k3 k6 k8 k9 k10 (shm_383 f0) (shm_384 f1) (shm_385 f2) (shm_386 f3) hK_0_999 hK_4_999 hK_5_999 hK_7_999)⟩
  have nf1 : fc_1 PRD (20, [0, 4, 5, 7, 8, 1, 6, 9, 2, 3, 10], [61, 4, 591]) ws (vs) := ⟨nf_in hl rfl, sgq_388 (vc_Fa_relabel_at_Fablock_gr_0_1 (v_iv (n_v vs 1)) (v_iv (n_v vs 2)) (v_iv (n_v vs 3)) (v_iv (n_v vs 6)) (v_iv (n_v vs 8)) (v_iv (n_v vs 9)) (v_iv (n_v vs 10)) (w_ei ws (v_ad (n_v vs 0))) (w_ei ws (v_ad (n_v vs 4))) (w_ei ws (v_ad (n_v vs 5))) (w_ei ws (v_ad (n_v vs 7))) k1 k2 k3 k6 k8 k9 k10 (shm_383 f0) (shm_384 f1) (shm_385 f2) (shm_386 f3) hK_0_999 hK_4_999 hK_5_999 hK_7_999)⟩
  have nf2 : fc_1 PRD (24, [0, 0], []) ws (vs) := by
    refine ⟨nf_in hl rfl, sgq_1 ?_⟩
    · show n_v vs 0 = n_v vs 0
      first | rfl | simp only [true_and]
  have nf3 : fc_1 PRD (24, [1, 1], []) ws (vs) := by
    refine ⟨nf_in hl rfl, sgq_1 ?_⟩
    · show n_v vs 1 = n_v vs 1
      first | rfl | simp only [true_and]
  have nf4 : fc_1 PRD (24, [2, 2], []) ws (vs) := by
    refine ⟨nf_in hl rfl, sgq_1 ?_⟩
    · show n_v vs 2 = n_v vs 2
      first | rfl | simp only [true_and]
  have nf5 : fc_1 PRD (24, [3, 3], []) ws (vs) := by
    refine ⟨nf_in hl rfl, sgq_1 ?_⟩
    · show n_v vs 3 = n_v vs 3
      first | rfl | simp only [true_and]
  refine ⟨(fun _ h => (by cases h)), [], trivial, ?_, (fun _ h => (by cases h))⟩
  rw [List.append_nil]
  exact List.forall_mem_cons.mpr ⟨⟨show (20 : Nat) < 100 from by decide, nf0⟩, List.forall_mem_cons.mpr ⟨⟨show (20 : Nat) < 100 from by decide, nf1⟩, List.forall_mem_cons.mpr ⟨⟨show (24 : Nat) < 100 from by decide, nf2⟩, List.forall_mem_cons.mpr ⟨⟨show (24 : Nat) < 100 from by decide, nf3⟩, List.forall_mem_cons.mpr ⟨⟨show (24 : Nat) < 100 from by decide, nf4⟩, List.forall_mem_cons.mpr ⟨⟨show (24 : Nat) < 100 from by decide, nf5⟩, (fun _ h => (by cases h))⟩⟩⟩⟩⟩⟩
set_option maxHeartbeats 4000000 in
theorem vc_Fa_relabel_at_Fablock_gr_1_0 (x1 : Int) (x2 : Int) (x3 : Int) (x6 : Int) (x8 : Int) (x9 : Int) (x11 : Int) (x12 : Int) (x13 : Int) (x14 : Int) (a0_0 : Int → Int) (a4_0 : Int → Int) (a5_0 : Int → Int) (a7_0 : Int → Int) (k1 : 1 ≤ x1 ∧ x1 ≤ 48) (k2 : 0 ≤ x2 ∧ x2 ≤ 47) (k3 : 0 ≤ x3 ∧ x3 ≤ 47) (k6 : 0 ≤ x6 ∧ x6 ≤ 24) (k8 : 0 ≤ x8 ∧ x8 ≤ 25) (k9 : (-2147483648) ≤ x9 ∧ x9 ≤ 2147483647) (k11 : 1 ≤ x11 ∧ x11 ≤ 48) (k12 : 0 ≤ x12 ∧ x12 ≤ 47) (k13 : 0 ≤ x13 ∧ x13 ≤ 47) (k14 : 1 ≤ x14 ∧ x14 ≤ 48) (d0 : x11 + 0 ≤ x14 ∧ x14 ≤ x11 + 4294967296) (d1 : x11 + (-4294967296) ≤ x1 ∧ x1 ≤ x11 + 0) (d2 : x12 + (-4294967296) ≤ x2 ∧ x2 ≤ x12 + 0) (d3 : x13 + (-4294967296) ≤ x3 ∧ x3 ≤ x13 + 0) (d4 : x1 + (-4294967296) ≤ x11 ∧ x11 ≤ x1 + 0) (d5 : x2 + (-4294967296) ≤ x12 ∧ x12 ≤ x2 + 0) (d6 : x3 + (-4294967296) ≤ x13 ∧ x13 ≤ x3 + 0) (d7 : x1 + (-4294967296) ≤ x14 ∧ x14 ≤ x1 + 0) (d8 : x11 + (-4294967296) ≤ x14 ∧ x14 ≤ x11 + 0) (f0 : x1 ≤ x14) (f1 : BLQ (a0_0) (x1)) (f2 : (0 ≤ x3) ∧ (x3 ≤ x2)) (f3 : RLI (a0_0) (a4_0) (a5_0) (x1) (x2) (x3) (x6) (x14)) (f4 : QKI (a0_0) (a4_0) (a5_0) (a7_0) (x8) (x1) (x6) (x9) (x2) (x3) (x14)) (hK_0_999 : ∀ j : Int, 0 ≤ j → j < 48 → (-1) ≤ a0_0 j ∧ a0_0 j ≤ 47) (hK_4_999 : ∀ j : Int, 0 ≤ j → j < 48 → 0 ≤ a4_0 j ∧ a4_0 j ≤ 23) (hK_5_999 : ∀ j : Int, 0 ≤ j → j < 48 → 0 ≤ a5_0 j ∧ a5_0 j ≤ 23) (hK_7_999 : ∀ j : Int, 0 ≤ j → j < 24 → 0 ≤ a7_0 j ∧ a7_0 j ≤ 16777215) : BLQ (a0_0) (x1) := by
  first
    | assumption
    | (skip; exact blq_set ‹BLQ _ _› (by assumption) rfl rfl (by omega) (by omega) (by omega) (by omega) (by omega))
  
set_option maxHeartbeats 4000000 in
theorem vc_Fa_relabel_at_Fablock_gr_1_1 (x1 : Int) (x2 : Int) (x3 : Int) (x6 : Int) (x8 : Int) (x9 : Int) (x11 : Int) (x12 : Int) (x13 : Int) (x14 : Int) (a0_0 : Int → Int) (a4_0 : Int → Int) (a5_0 : Int → Int) (a7_0 : Int → Int) (k1 : 1 ≤ x1 ∧ x1 ≤ 48) (k2 : 0 ≤ x2 ∧ x2 ≤ 47) (k3 : 0 ≤ x3 ∧ x3 ≤ 47) (k6 : 0 ≤ x6 ∧ x6 ≤ 24) (k8 : 0 ≤ x8 ∧ x8 ≤ 25) (k9 : (-2147483648) ≤ x9 ∧ x9 ≤ 2147483647) (k11 : 1 ≤ x11 ∧ x11 ≤ 48) (k12 : 0 ≤ x12 ∧ x12 ≤ 47) (k13 : 0 ≤ x13 ∧ x13 ≤ 47) (k14 : 1 ≤ x14 ∧ x14 ≤ 48) (d0 : x11 + 0 ≤ x14 ∧ x14 ≤ x11 + 4294967296) (d1 : x11 + (-4294967296) ≤ x1 ∧ x1 ≤ x11 + 0) (d2 : x12 + (-4294967296) ≤ x2 ∧ x2 ≤ x12 + 0) (d3 : x13 + (-4294967296) ≤ x3 ∧ x3 ≤ x13 + 0) (d4 : x1 + (-4294967296) ≤ x11 ∧ x11 ≤ x1 + 0) (d5 : x2 + (-4294967296) ≤ x12 ∧ x12 ≤ x2 + 0) (d6 : x3 + (-4294967296) ≤ x13 ∧ x13 ≤ x3 + 0) (d7 : x1 + (-4294967296) ≤ x14 ∧ x14 ≤ x1 + 0) (d8 : x11 + (-4294967296) ≤ x14 ∧ x14 ≤ x11 + 0) (f0 : x1 ≤ x14) (f1 : BLQ (a0_0) (x1)) (f2 : (0 ≤ x3) ∧ (x3 ≤ x2)) (f3 : RLI (a0_0) (a4_0) (a5_0) (x1) (x2) (x3) (x6) (x14)) (f4 : QKI (a0_0) (a4_0) (a5_0) (a7_0) (x8) (x1) (x6) (x9) (x2) (x3) (x14)) (hK_0_999 : ∀ j : Int, 0 ≤ j → j < 48 → (-1) ≤ a0_0 j ∧ a0_0 j ≤ 47) (hK_4_999 : ∀ j : Int, 0 ≤ j → j < 48 → 0 ≤ a4_0 j ∧ a4_0 j ≤ 23) (hK_5_999 : ∀ j : Int, 0 ≤ j → j < 48 → 0 ≤ a5_0 j ∧ a5_0 j ≤ 23) (hK_7_999 : ∀ j : Int, 0 ≤ j → j < 24 → 0 ≤ a7_0 j ∧ a7_0 j ≤ 16777215) : RLO (a0_0) (a4_0) (a5_0) (x1) (x3) (x6) := by
  first
    | exact rlo_of ‹RLI _ _ _ _ _ _ _ _› (by omega)
  
set_option maxHeartbeats 4000000 in
theorem vc_Fa_relabel_at_Fablock_gr_1_2 (x1 : Int) (x2 : Int) (x3 : Int) (x6 : Int) (x8 : Int) (x9 : Int) (x11 : Int) (x12 : Int) (x13 : Int) (x14 : Int) (a0_0 : Int → Int) (a4_0 : Int → Int) (a5_0 : Int → Int) (a7_0 : Int → Int) (k1 : 1 ≤ x1 ∧ x1 ≤ 48) (k2 : 0 ≤ x2 ∧ x2 ≤ 47) (k3 : 0 ≤ x3 ∧ x3 ≤ 47) (k6 : 0 ≤ x6 ∧ x6 ≤ 24) (k8 : 0 ≤ x8 ∧ x8 ≤ 25) (k9 : (-2147483648) ≤ x9 ∧ x9 ≤ 2147483647) (k11 : 1 ≤ x11 ∧ x11 ≤ 48) (k12 : 0 ≤ x12 ∧ x12 ≤ 47) (k13 : 0 ≤ x13 ∧ x13 ≤ 47) (k14 : 1 ≤ x14 ∧ x14 ≤ 48) (d0 : x11 + 0 ≤ x14 ∧ x14 ≤ x11 + 4294967296) (d1 : x11 + (-4294967296) ≤ x1 ∧ x1 ≤ x11 + 0) (d2 : x12 + (-4294967296) ≤ x2 ∧ x2 ≤ x12 + 0) (d3 : x13 + (-4294967296) ≤ x3 ∧ x3 ≤ x13 + 0) (d4 : x1 + (-4294967296) ≤ x11 ∧ x11 ≤ x1 + 0) (d5 : x2 + (-4294967296) ≤ x12 ∧ x12 ≤ x2 + 0) (d6 : x3 + (-4294967296) ≤ x13 ∧ x13 ≤ x3 + 0) (d7 : x1 + (-4294967296) ≤ x14 ∧ x14 ≤ x1 + 0) (d8 : x11 + (-4294967296) ≤ x14 ∧ x14 ≤ x11 + 0) (f0 : x1 ≤ x14) (f1 : BLQ (a0_0) (x1)) (f2 : (0 ≤ x3) ∧ (x3 ≤ x2)) (f3 : RLI (a0_0) (a4_0) (a5_0) (x1) (x2) (x3) (x6) (x14)) (f4 : QKI (a0_0) (a4_0) (a5_0) (a7_0) (x8) (x1) (x6) (x9) (x2) (x3) (x14)) (hK_0_999 : ∀ j : Int, 0 ≤ j → j < 48 → (-1) ≤ a0_0 j ∧ a0_0 j ≤ 47) (hK_4_999 : ∀ j : Int, 0 ≤ j → j < 48 → 0 ≤ a4_0 j ∧ a4_0 j ≤ 23) (hK_5_999 : ∀ j : Int, 0 ≤ j → j < 48 → 0 ≤ a5_0 j ∧ a5_0 j ≤ 23) (hK_7_999 : ∀ j : Int, 0 ≤ j → j < 24 → 0 ≤ a7_0 j ∧ a7_0 j ≤ 16777215) : QKO (a0_0) (a4_0) (a5_0) (a7_0) (x8) (x1) (x6) (x9) (x3) := by
  first
    | exact qko_of ‹QKI _ _ _ _ _ _ _ _ _ _ _› (by omega)
  
def o_Fa_relabel_at_Fablock_gr_1 : or_T := (28, 15, [(0, (2, 0, 0, [38])), (1, (0, 1, 48, [])), (2, (0, 0, 47, [])), (3, (0, 0, 47, [])), (4, (2, 0, 0, [52])), (5, (2, 0, 0, [53])), (6, (0, 0, 24, [])), (7, (2, 0, 0, [59])), (8, (0, 0, 25, [])), (9, (0, -2147483648, 2147483647, [])), (11, (0, 1, 48, [])), (12, (0, 0, 47, [])), (13, (0, 0, 47, [])), (14, (0, 1, 48, []))], [(7, [14, 11], [3]), (20, [10, 11], [61, 1, 566]), (20, [13, 12], [50, 0, 0, 2, 6, 0, 2, 0, 0, 1, 0, 0, 2, 1, 0, 1, 1]), (20, [10, 4, 5, 11, 12, 13, 6, 14], [61, 3, 582]), (20, [10, 4, 5, 7, 8, 11, 6, 9, 12, 13, 14], [61, 4, 591]), (24, [0, 10], []), (24, [1, 11], []), (24, [2, 12], []), (24, [3, 13], [])], [], [], [(20, [0, 1], [61, 1, 566]), (20, [0, 4, 5, 1, 3, 6], [61, 3, 583]), (20, [0, 4, 5, 7, 8, 1, 6, 9, 3], [61, 4, 592])], [], [(14, 11, 0, 4294967296), (1, 11, -4294967296, 0), (2, 12, -4294967296, 0), (3, 13, -4294967296, 0), (11, 1, -4294967296, 0), (12, 2, -4294967296, 0), (13, 3, -4294967296, 0), (14, 1, -4294967296, 0), (14, 11, -4294967296, 0)])
theorem oo_Fa_relabel_at_Fablock_gr_1 {kA : Nat → ClassId} : or_ok PRD kA GG o_Fa_relabel_at_Fablock_gr_1 := by
  refine or_mk fun A ta ws vs hD hth hl => ?_
  intro t0 r0 t1 k1 t2 k2 t3 k3 t4 r4 t5 r5 t6 k6 t7 r7 t8 k8 t9 k9 t11 k11 t12 k12 t13 k13 t14 k14 d0 d1 d2 d3 d4 d5 d6 d7 d8 f0 f1 f2 f3 f4 f5 f6 f7 f8
  replace f0 := shm_2 f0
  replace f1 := shm_383 f1
  replace f2 := shm_384 f2
  replace f3 := shm_387 f3
  replace f4 := shm_388 f4
  replace f5 := shm_5 f5
  replace f6 := shm_5 f6
  replace f7 := shm_5 f7
  replace f8 := shm_5 f8
  have q10 : n_v vs 10 = n_v vs 0 := f5.symm
  have q11 : n_v vs 11 = n_v vs 1 := f6.symm
  have q12 : n_v vs 12 = n_v vs 2 := f7.symm
  have q13 : n_v vs 13 = n_v vs 3 := f8.symm
  simp only [q11, q10, q12, q13] at f0 f1 f2 f3 f4
  have cr_0_999 : ta (v_ad (n_v vs 0)) = some 38 := r0
  have cr_4_999 : ta (v_ad (n_v vs 4)) = some 52 := r4
  have cr_5_999 : ta (v_ad (n_v vs 5)) = some 53 := r5
  have cr_7_999 : ta (v_ad (n_v vs 7)) = some 59 := r7
  have hK_0_999 := elq_27 hD hth cr_0_999
  have hK_4_999 := elq_10 hD hth cr_4_999
  have hK_5_999 := elq_11 hD hth cr_5_999
  have hK_7_999 := elq_24 hD hth cr_7_999
  have nf0 : fc_1 PRD (20, [0, 1], [61, 1, 566]) ws (vs) := ⟨nf_in hl rfl, sgq_383 (vc_Fa_relabel_at_Fablock_gr_1_0 (v_iv (n_v vs 1)) (v_iv (n_v vs 2)) (v_iv (n_v vs 3)) (v_iv (n_v vs 6)) (v_iv (n_v vs 8)) (v_iv (n_v vs 9)) (v_iv (n_v vs 11)) (v_iv (n_v vs 12)) (v_iv (n_v vs 13)) (v_iv (n_v vs 14)) (w_ei ws (v_ad (n_v vs 0))) (w_ei ws (v_ad (n_v vs 4))) (w_ei ws (v_ad (n_v vs 5))) (w_ei ws (v_ad (n_v vs 7))) k1 k2 k3 k6 k8 k9 k11 k12 k13 k14 d0 d1 d2 d3 d4 d5 d6 d7 d8 f0 f1 f2 f3 f4 hK_0_999 hK_4_999 hK_5_999 hK_7_999)⟩
  have nf1 : fc_1 PRD (20, [0, 4, 5, 1, 3, 6], [61, 3, 583]) ws (vs) := ⟨nf_in hl rfl, sgq_389 (vc_Fa_relabel_at_Fablock_gr_1_1 (v_iv (n_v vs 1)) (v_iv (n_v vs 2)) (v_iv (n_v vs 3)) (v_iv (n_v vs 6)) (v_iv (n_v vs 8)) (v_iv (n_v vs 9)) (v_iv (n_v vs 11)) (v_iv (n_v vs 12)) (v_iv (n_v vs 13)) (v_iv (n_v vs 14)) (w_ei ws (v_ad (n_v vs 0))) (w_ei ws (v_ad (n_v vs 4))) (w_ei ws (v_ad (n_v vs 5))) (w_ei ws (v_ad (n_v vs 7))) k1 k2 k3 k6 k8 k9 k11 k12 k13 k14 d0 d1 d2 d3 d4 d5 d6 d7 d8 f0 f1 f2 f3 f4 hK_0_999 hK_4_999 hK_5_999 hK_7_999)⟩
  have nf2 : fc_1 PRD (20, [0, 4, 5, 7, 8, 1, 6, 9, 3], [61, 4, 592]) ws (vs) := ⟨nf_in hl rfl, sgq_390 (vc_Fa_relabel_at_Fablock_gr_1_2 (v_iv (n_v vs 1)) (v_iv (n_v vs 2)) (v_iv (n_v vs 3)) (v_iv (n_v vs 6)) (v_iv (n_v vs 8)) (v_iv (n_v vs 9)) (v_iv (n_v vs 11)) (v_iv (n_v vs 12)) (v_iv (n_v vs 13)) (v_iv (n_v vs 14)) (w_ei ws (v_ad (n_v vs 0))) (w_ei ws (v_ad (n_v vs 4))) (w_ei ws (v_ad (n_v vs 5))) (w_ei ws (v_ad (n_v vs 7))) k1 k2 k3 k6 k8 k9 k11 k12 k13 k14 d0 d1 d2 d3 d4 d5 d6 d7 d8 f0 f1 f2 f3 f4 hK_0_999 hK_4_999 hK_5_999 hK_7_999)⟩
  refine ⟨(fun _ h => (by cases h)), [], trivial, ?_, (fun _ h => (by cases h))⟩
  rw [List.append_nil]
  exact List.forall_mem_cons.mpr ⟨⟨show (20 : Nat) < 100 from by decide, nf0⟩, List.forall_mem_cons.mpr ⟨⟨show (20 : Nat) < 100 from by decide, nf1⟩, List.forall_mem_cons.mpr ⟨⟨show (20 : Nat) < 100 from by decide, nf2⟩, (fun _ h => (by cases h))⟩⟩⟩
set_option maxHeartbeats 4000000 in
theorem vc_Fa_relabel_at_Fablock_gr_2_0 (x1 : Int) (x2 : Int) (x3 : Int) (x6 : Int) (x8 : Int) (x9 : Int) (x11 : Int) (x12 : Int) (x13 : Int) (x14 : Int) (x15 : Int) (x16 : Int) (a0_0 : Int → Int) (a4_0 : Int → Int) (a5_0 : Int → Int) (a7_0 : Int → Int) (k1 : 1 ≤ x1 ∧ x1 ≤ 48) (k2 : 0 ≤ x2 ∧ x2 ≤ 47) (k3 : 0 ≤ x3 ∧ x3 ≤ 47) (k6 : 0 ≤ x6 ∧ x6 ≤ 24) (k8 : 0 ≤ x8 ∧ x8 ≤ 25) (k9 : (-2147483648) ≤ x9 ∧ x9 ≤ 2147483647) (k11 : 1 ≤ x11 ∧ x11 ≤ 48) (k12 : 0 ≤ x12 ∧ x12 ≤ 47) (k13 : 0 ≤ x13 ∧ x13 ≤ 47) (k14 : 0 ≤ x14 ∧ x14 ≤ 47) (k15 : (-1) ≤ x15 ∧ x15 ≤ 47) (k16 : 1 ≤ x16 ∧ x16 ≤ 48) (d0 : x14 + 1 ≤ x16 ∧ x16 ≤ x14 + 1) (d1 : x11 + (-4294967296) ≤ x16 ∧ x16 ≤ x11 + 0) (d2 : x1 + (-4294967296) ≤ x16 ∧ x16 ≤ x1 + 1) (d3 : x11 + (-4294967296) ≤ x16 ∧ x16 ≤ x11 + 1) (d4 : x11 + (-4294967296) ≤ x14 ∧ x14 ≤ x11 + (-1)) (d5 : x11 + (-4294967296) ≤ x1 ∧ x1 ≤ x11 + 0) (d6 : x12 + (-4294967296) ≤ x2 ∧ x2 ≤ x12 + 0) (d7 : x13 + (-4294967296) ≤ x3 ∧ x3 ≤ x13 + 0) (d8 : x1 + (-4294967296) ≤ x11 ∧ x11 ≤ x1 + 0) (d9 : x2 + (-4294967296) ≤ x12 ∧ x12 ≤ x2 + 0) (d10 : x3 + (-4294967296) ≤ x13 ∧ x13 ≤ x3 + 0) (d11 : x1 + (-4294967296) ≤ x14 ∧ x14 ≤ x1 + 0) (d12 : x11 + (-4294967296) ≤ x14 ∧ x14 ≤ x11 + 0) (f0 : x16 = x14 + 1) (f1 : x15 ≠ x2) (h2 : x15 = a0_0 (x14)) (f3 : x14 < x1) (f4 : BLQ (a0_0) (x1)) (f5 : (0 ≤ x3) ∧ (x3 ≤ x2)) (f6 : RLI (a0_0) (a4_0) (a5_0) (x1) (x2) (x3) (x6) (x14)) (f7 : QKI (a0_0) (a4_0) (a5_0) (a7_0) (x8) (x1) (x6) (x9) (x2) (x3) (x14)) (hK_0_999 : ∀ j : Int, 0 ≤ j → j < 48 → (-1) ≤ a0_0 j ∧ a0_0 j ≤ 47) (hK_4_999 : ∀ j : Int, 0 ≤ j → j < 48 → 0 ≤ a4_0 j ∧ a4_0 j ≤ 23) (hK_5_999 : ∀ j : Int, 0 ≤ j → j < 48 → 0 ≤ a5_0 j ∧ a5_0 j ≤ 23) (hK_7_999 : ∀ j : Int, 0 ≤ j → j < 24 → 0 ≤ a7_0 j ∧ a7_0 j ≤ 16777215) : RLI (a0_0) (a4_0) (a5_0) (x1) (x2) (x3) (x6) (x16) := by
  first
    | exact rli_start ‹RLP _ _ _ _ _ _ _› (by omega)
    | exact rli_skip ‹RLI _ _ _ _ _ _ _ _› (by assumption) (by omega) (by omega)
    | exact rli_step ‹RLI _ _ _ _ _ _ _ _› (by assumption) (by omega) (by assumption) (by omega) (by omega) (by omega)
  
set_option maxHeartbeats 4000000 in
theorem vc_Fa_relabel_at_Fablock_gr_2_1 (x1 : Int) (x2 : Int) (x3 : Int) (x6 : Int) (x8 : Int) (x9 : Int) (x11 : Int) (x12 : Int) (x13 : Int) (x14 : Int) (x15 : Int) (x16 : Int) (a0_0 : Int → Int) (a4_0 : Int → Int) (a5_0 : Int → Int) (a7_0 : Int → Int) (k1 : 1 ≤ x1 ∧ x1 ≤ 48) (k2 : 0 ≤ x2 ∧ x2 ≤ 47) (k3 : 0 ≤ x3 ∧ x3 ≤ 47) (k6 : 0 ≤ x6 ∧ x6 ≤ 24) (k8 : 0 ≤ x8 ∧ x8 ≤ 25) (k9 : (-2147483648) ≤ x9 ∧ x9 ≤ 2147483647) (k11 : 1 ≤ x11 ∧ x11 ≤ 48) (k12 : 0 ≤ x12 ∧ x12 ≤ 47) (k13 : 0 ≤ x13 ∧ x13 ≤ 47) (k14 : 0 ≤ x14 ∧ x14 ≤ 47) (k15 : (-1) ≤ x15 ∧ x15 ≤ 47) (k16 : 1 ≤ x16 ∧ x16 ≤ 48) (d0 : x14 + 1 ≤ x16 ∧ x16 ≤ x14 + 1) (d1 : x11 + (-4294967296) ≤ x16 ∧ x16 ≤ x11 + 0) (d2 : x1 + (-4294967296) ≤ x16 ∧ x16 ≤ x1 + 1) (d3 : x11 + (-4294967296) ≤ x16 ∧ x16 ≤ x11 + 1) (d4 : x11 + (-4294967296) ≤ x14 ∧ x14 ≤ x11 + (-1)) (d5 : x11 + (-4294967296) ≤ x1 ∧ x1 ≤ x11 + 0) (d6 : x12 + (-4294967296) ≤ x2 ∧ x2 ≤ x12 + 0) (d7 : x13 + (-4294967296) ≤ x3 ∧ x3 ≤ x13 + 0) (d8 : x1 + (-4294967296) ≤ x11 ∧ x11 ≤ x1 + 0) (d9 : x2 + (-4294967296) ≤ x12 ∧ x12 ≤ x2 + 0) (d10 : x3 + (-4294967296) ≤ x13 ∧ x13 ≤ x3 + 0) (d11 : x1 + (-4294967296) ≤ x14 ∧ x14 ≤ x1 + 0) (d12 : x11 + (-4294967296) ≤ x14 ∧ x14 ≤ x11 + 0) (f0 : x16 = x14 + 1) (f1 : x15 ≠ x2) (h2 : x15 = a0_0 (x14)) (f3 : x14 < x1) (f4 : BLQ (a0_0) (x1)) (f5 : (0 ≤ x3) ∧ (x3 ≤ x2)) (f6 : RLI (a0_0) (a4_0) (a5_0) (x1) (x2) (x3) (x6) (x14)) (f7 : QKI (a0_0) (a4_0) (a5_0) (a7_0) (x8) (x1) (x6) (x9) (x2) (x3) (x14)) (hK_0_999 : ∀ j : Int, 0 ≤ j → j < 48 → (-1) ≤ a0_0 j ∧ a0_0 j ≤ 47) (hK_4_999 : ∀ j : Int, 0 ≤ j → j < 48 → 0 ≤ a4_0 j ∧ a4_0 j ≤ 23) (hK_5_999 : ∀ j : Int, 0 ≤ j → j < 48 → 0 ≤ a5_0 j ∧ a5_0 j ≤ 23) (hK_7_999 : ∀ j : Int, 0 ≤ j → j < 24 → 0 ≤ a7_0 j ∧ a7_0 j ≤ 16777215) : QKI (a0_0) (a4_0) (a5_0) (a7_0) (x8) (x1) (x6) (x9) (x2) (x3) (x16) := by
  first
    | exact qki_start ‹QKP _ _ _ _ _ _ _ _ _ _› (by omega)
    | exact qki_skip ‹QKI _ _ _ _ _ _ _ _ _ _ _› (by assumption) (by omega) (by omega)
    | exact qki_step ‹QKI _ _ _ _ _ _ _ _ _ _ _› (by assumption) (by omega) (by assumption) rfl (by omega) (by omega)
  
def o_Fa_relabel_at_Fablock_gr_2 : or_T := (3, 17, [(0, (2, 0, 0, [38])), (1, (0, 1, 48, [])), (2, (0, 0, 47, [])), (3, (0, 0, 47, [])), (4, (2, 0, 0, [52])), (5, (2, 0, 0, [53])), (6, (0, 0, 24, [])), (7, (2, 0, 0, [59])), (8, (0, 0, 25, [])), (9, (0, -2147483648, 2147483647, [])), (10, (2, 0, 0, [38])), (11, (0, 1, 48, [])), (12, (0, 0, 47, [])), (13, (0, 0, 47, [])), (14, (0, 0, 47, [])), (15, (0, -1, 47, [])), (16, (0, 1, 48, []))], [(6, [16, 14], [1]), (7, [15, 12], [1]), (10, [15, 10, 14], []), (7, [14, 11], [2]), (20, [10, 11], [61, 1, 566]), (20, [13, 12], [50, 0, 0, 2, 6, 0, 2, 0, 0, 1, 0, 0, 2, 1, 0, 1, 1]), (20, [10, 4, 5, 11, 12, 13, 6, 14], [61, 3, 582]), (20, [10, 4, 5, 7, 8, 11, 6, 9, 12, 13, 14], [61, 4, 591]), (24, [0, 10], []), (24, [1, 11], []), (24, [2, 12], []), (24, [3, 13], [])], [], [], [(20, [10, 4, 5, 11, 12, 13, 6, 16], [61, 3, 582]), (20, [10, 4, 5, 7, 8, 11, 6, 9, 12, 13, 16], [61, 4, 591])], [], [(16, 14, 1, 1), (16, 11, -4294967296, 0), (16, 1, -4294967296, 1), (16, 11, -4294967296, 1), (14, 11, -4294967296, -1), (1, 11, -4294967296, 0), (2, 12, -4294967296, 0), (3, 13, -4294967296, 0), (11, 1, -4294967296, 0), (12, 2, -4294967296, 0), (13, 3, -4294967296, 0), (14, 1, -4294967296, 0), (14, 11, -4294967296, 0)])
theorem oo_Fa_relabel_at_Fablock_gr_2 {kA : Nat → ClassId} : or_ok PRD kA GG o_Fa_relabel_at_Fablock_gr_2 := by
  refine or_mk fun A ta ws vs hD hth hl => ?_
  intro t0 r0 t1 k1 t2 k2 t3 k3 t4 r4 t5 r5 t6 k6 t7 r7 t8 k8 t9 k9 t10 r10 t11 k11 t12 k12 t13 k13 t14 k14 t15 k15 t16 k16 d0 d1 d2 d3 d4 d5 d6 d7 d8 d9 d10 d11 d12 f0 f1 f2 f3 f4 f5 f6 f7 f8 f9 f10 f11
  replace f0 := shm_4 f0
  replace f1 := shm_40 f1
  replace f2 := shm_106 f2
  replace f3 := shm_6 f3
  replace f4 := shm_383 f4
  replace f5 := shm_384 f5
  replace f6 := shm_387 f6
  replace f7 := shm_388 f7
  replace f8 := shm_5 f8
  replace f9 := shm_5 f9
  replace f10 := shm_5 f10
  replace f11 := shm_5 f11
  have q10 : n_v vs 10 = n_v vs 0 := f8.symm
  have q11 : n_v vs 11 = n_v vs 1 := f9.symm
  have q12 : n_v vs 12 = n_v vs 2 := f10.symm
  have q13 : n_v vs 13 = n_v vs 3 := f11.symm
  simp only [q12, q10, q11, q13] at f1 f2 f3 f4 f5 f6 f7
  have cr_0_999 : ta (v_ad (n_v vs 0)) = some 38 := r0
  have cr_4_999 : ta (v_ad (n_v vs 4)) = some 52 := r4
  have cr_5_999 : ta (v_ad (n_v vs 5)) = some 53 := r5
  have cr_7_999 : ta (v_ad (n_v vs 7)) = some 59 := r7
  have h2 : v_iv (n_v vs 15) = w_ei ws (v_ad (n_v vs 0)) (v_iv (n_v vs 14)) := f2
  have hK_0_999 := elq_27 hD hth cr_0_999
  have hK_4_999 := elq_10 hD hth cr_4_999
  have hK_5_999 := elq_11 hD hth cr_5_999
  have hK_7_999 := elq_24 hD hth cr_7_999
  have nf0 : fc_1 PRD (20, [10, 4, 5, 11, 12, 13, 6, 16], [61, 3, 582]) ws (vs) := by
    refine ⟨nf_in hl rfl, sgq_387 ?_⟩
    · show RLI (w_ei ws (v_ad (n_v vs 10))) (w_ei ws (v_ad (n_v vs 4))) (w_ei ws (v_ad (n_v vs 5))) (v_iv (n_v vs 11)) (v_iv (n_v vs 12)) (v_iv (n_v vs 13)) (v_iv (n_v vs 6)) (v_iv (n_v vs 16))
      simp only [q10, q11, q12, q13]
      exact vc_Fa_relabel_at_Fablock_gr_2_0 (v_iv (n_v vs 1)) (v_iv (n_v vs 2)) (v_iv (n_v vs 3)) (v_iv (n_v vs 6)) (v_iv (n_v vs 8)) (v_iv (n_v vs 9)) (v_iv (n_v vs 11)) (v_iv (n_v vs 12)) (v_iv (n_v vs 13)) (v_iv (n_v vs 14)) (v_iv (n_v vs 15)) (v_iv (n_v vs 16)) (w_ei ws (v_ad (n_v vs 0))) (w_ei ws (v_ad (n_v vs 4))) (w_ei ws (v_ad (n_v vs 5))) (w_ei ws (v_ad (n_v vs 7))) k1 k2 k3 k6 k8 k9 k11 k12 k13 k14 k15 k16 d0 d1 d2 d3 d4 d5 d6 d7 d8 d9 d10 d11 d12 f0 f1 h2 f3 f4 f5 f6 f7 hK_0_999 hK_4_999 hK_5_999 hK_7_999
  have nf1 : fc_1 PRD (20, [10, 4, 5, 7, 8, 11, 6, 9, 12, 13, 16], [61, 4, 591]) ws (vs) := by
    refine ⟨nf_in hl rfl, sgq_388 ?_⟩
    · show QKI (w_ei ws (v_ad (n_v vs 10))) (w_ei ws (v_ad (n_v vs 4))) (w_ei ws (v_ad (n_v vs 5))) (w_ei ws (v_ad (n_v vs 7))) (v_iv (n_v vs 8)) (v_iv (n_v vs 11)) (v_iv (n_v vs 6)) (v_iv (n_v vs 9)) (v_iv (n_v vs 12)) (v_iv (n_v vs 13)) (v_iv (n_v vs 16))
      simp only [q10, q11, q12, q13]
      exact vc_Fa_relabel_at_Fablock_gr_2_1 (v_iv (n_v vs 1)) (v_iv (n_v vs 2)) (v_iv (n_v vs 3)) (v_iv (n_v vs 6)) (v_iv (n_v vs 8)) (v_iv (n_v vs 9)) (v_iv (n_v vs 11)) (v_iv (n_v vs 12)) (v_iv (n_v vs 13)) (v_iv (n_v vs 14)) (v_iv (n_v vs 15)) (v_iv (n_v vs 16)) (w_ei ws (v_ad (n_v vs 0))) (w_ei ws (v_ad (n_v vs 4))) (w_ei ws (v_ad (n_v vs 5))) (w_ei ws (v_ad (n_v vs 7))) k1 k2 k3 k6 k8 k9 k11 k12 k13 k14 k15 k16 d0 d1 d2 d3 d4 d5 d6 d7 d8 d9 d10 d11 d12 f0 f1 h2 f3 f4 f5 f6 f7 hK_0_999 hK_4_999 hK_5_999 hK_7_999
  refine ⟨(fun _ h => (by cases h)), [], trivial, ?_, (fun _ h => (by cases h))⟩
  rw [List.append_nil]
  exact List.forall_mem_cons.mpr ⟨⟨show (20 : Nat) < 100 from by decide, nf0⟩, List.forall_mem_cons.mpr ⟨⟨show (20 : Nat) < 100 from by decide, nf1⟩, (fun _ h => (by cases h))⟩⟩
set_option maxHeartbeats 4000000 in
theorem vc_Fa_relabel_at_Fablock_gr_3_0 (x1 : Int) (x2 : Int) (x3 : Int) (x6 : Int) (x8 : Int) (x9 : Int) (x11 : Int) (x12 : Int) (x13 : Int) (x14 : Int) (x15 : Int) (x16 : Int) (a0_1 : Int → Int) (a4_1 : Int → Int) (a5_1 : Int → Int) (a7_1 : Int → Int) (a0_0 : Int → Int) (a4_0 : Int → Int) (a5_0 : Int → Int) (a7_0 : Int → Int) (k1 : 1 ≤ x1 ∧ x1 ≤ 48) (k2 : 0 ≤ x2 ∧ x2 ≤ 47) (k3 : 0 ≤ x3 ∧ x3 ≤ 47) (k6 : 0 ≤ x6 ∧ x6 ≤ 24) (k8 : 0 ≤ x8 ∧ x8 ≤ 25) (k9 : (-2147483648) ≤ x9 ∧ x9 ≤ 2147483647) (k11 : 1 ≤ x11 ∧ x11 ≤ 48) (k12 : 0 ≤ x12 ∧ x12 ≤ 47) (k13 : 0 ≤ x13 ∧ x13 ≤ 47) (k14 : 0 ≤ x14 ∧ x14 ≤ 47) (k15 : 0 ≤ x15 ∧ x15 ≤ 47) (k16 : 1 ≤ x16 ∧ x16 ≤ 48) (d0 : x14 + 1 ≤ x16 ∧ x16 ≤ x14 + 1) (d1 : x11 + (-4294967296) ≤ x16 ∧ x16 ≤ x11 + 0) (d2 : x1 + (-4294967296) ≤ x16 ∧ x16 ≤ x1 + 1) (d3 : x11 + (-4294967296) ≤ x16 ∧ x16 ≤ x11 + 1) (d4 : x12 + 0 ≤ x15 ∧ x15 ≤ x12 + 0) (d5 : x11 + (-4294967296) ≤ x14 ∧ x14 ≤ x11 + (-1)) (d6 : x11 + (-4294967296) ≤ x1 ∧ x1 ≤ x11 + 0) (d7 : x12 + (-4294967296) ≤ x2 ∧ x2 ≤ x12 + 0) (d8 : x13 + (-4294967296) ≤ x3 ∧ x3 ≤ x13 + 0) (d9 : x1 + (-4294967296) ≤ x11 ∧ x11 ≤ x1 + 0) (d10 : x2 + (-4294967296) ≤ x12 ∧ x12 ≤ x2 + 0) (d11 : x3 + (-4294967296) ≤ x13 ∧ x13 ≤ x3 + 0) (d12 : x1 + (-4294967296) ≤ x14 ∧ x14 ≤ x1 + 0) (d13 : x11 + (-4294967296) ≤ x14 ∧ x14 ≤ x11 + 0) (f0 : x16 = x14 + 1) (f1 : (0 ≤ x3) ∧ (x3 ≤ x2)) (f7 : x15 = x2) (h8 : x15 = a0_1 (x14)) (f9 : x14 < x1) (f10 : BLQ (a0_1) (x1)) (f11 : (0 ≤ x3) ∧ (x3 ≤ x2)) (f12 : RLI (a0_1) (a4_1) (a5_1) (x1) (x2) (x3) (x6) (x14)) (f13 : QKI (a0_1) (a4_1) (a5_1) (a7_1) (x8) (x1) (x6) (x9) (x2) (x3) (x14)) (hE_0_999_1 : ∀ j : Int, 0 ≤ j → (j = x14 → a0_0 j = x3) ∧ (j ≠ x14 → a0_0 j = a0_1 j)) (hK_0_999 : ∀ j : Int, 0 ≤ j → j < 48 → (-1) ≤ a0_0 j ∧ a0_0 j ≤ 47) (hE_4_999_1 : ∀ j : Int, a4_0 j = a4_1 j) (hK_4_999 : ∀ j : Int, 0 ≤ j → j < 48 → 0 ≤ a4_0 j ∧ a4_0 j ≤ 23) (hE_5_999_1 : ∀ j : Int, a5_0 j = a5_1 j) (hK_5_999 : ∀ j : Int, 0 ≤ j → j < 48 → 0 ≤ a5_0 j ∧ a5_0 j ≤ 23) (hE_7_999_1 : ∀ j : Int, a7_0 j = a7_1 j) (hK_7_999 : ∀ j : Int, 0 ≤ j → j < 24 → 0 ≤ a7_0 j ∧ a7_0 j ≤ 16777215) : BLQ (a0_0) (x1) := by
  have e_hE_4_999_1 := funext hE_4_999_1; subst e_hE_4_999_1
  have e_hE_5_999_1 := funext hE_5_999_1; subst e_hE_5_999_1
  have e_hE_7_999_1 := funext hE_7_999_1; subst e_hE_7_999_1
  first
    | assumption
    | (skip; (first | subst h8 | skip); exact blq_set ‹BLQ _ _› (by assumption) rfl rfl (by omega) (by omega) (by omega) (by omega) (by omega))
  
set_option maxHeartbeats 4000000 in
theorem vc_Fa_relabel_at_Fablock_gr_3_1 (x1 : Int) (x2 : Int) (x3 : Int) (x6 : Int) (x8 : Int) (x9 : Int) (x11 : Int) (x12 : Int) (x13 : Int) (x14 : Int) (x15 : Int) (x16 : Int) (a0_1 : Int → Int) (a4_1 : Int → Int) (a5_1 : Int → Int) (a7_1 : Int → Int) (a0_0 : Int → Int) (a4_0 : Int → Int) (a5_0 : Int → Int) (a7_0 : Int → Int) (k1 : 1 ≤ x1 ∧ x1 ≤ 48) (k2 : 0 ≤ x2 ∧ x2 ≤ 47) (k3 : 0 ≤ x3 ∧ x3 ≤ 47) (k6 : 0 ≤ x6 ∧ x6 ≤ 24) (k8 : 0 ≤ x8 ∧ x8 ≤ 25) (k9 : (-2147483648) ≤ x9 ∧ x9 ≤ 2147483647) (k11 : 1 ≤ x11 ∧ x11 ≤ 48) (k12 : 0 ≤ x12 ∧ x12 ≤ 47) (k13 : 0 ≤ x13 ∧ x13 ≤ 47) (k14 : 0 ≤ x14 ∧ x14 ≤ 47) (k15 : 0 ≤ x15 ∧ x15 ≤ 47) (k16 : 1 ≤ x16 ∧ x16 ≤ 48) (d0 : x14 + 1 ≤ x16 ∧ x16 ≤ x14 + 1) (d1 : x11 + (-4294967296) ≤ x16 ∧ x16 ≤ x11 + 0) (d2 : x1 + (-4294967296) ≤ x16 ∧ x16 ≤ x1 + 1) (d3 : x11 + (-4294967296) ≤ x16 ∧ x16 ≤ x11 + 1) (d4 : x12 + 0 ≤ x15 ∧ x15 ≤ x12 + 0) (d5 : x11 + (-4294967296) ≤ x14 ∧ x14 ≤ x11 + (-1)) (d6 : x11 + (-4294967296) ≤ x1 ∧ x1 ≤ x11 + 0) (d7 : x12 + (-4294967296) ≤ x2 ∧ x2 ≤ x12 + 0) (d8 : x13 + (-4294967296) ≤ x3 ∧ x3 ≤ x13 + 0) (d9 : x1 + (-4294967296) ≤ x11 ∧ x11 ≤ x1 + 0) (d10 : x2 + (-4294967296) ≤ x12 ∧ x12 ≤ x2 + 0) (d11 : x3 + (-4294967296) ≤ x13 ∧ x13 ≤ x3 + 0) (d12 : x1 + (-4294967296) ≤ x14 ∧ x14 ≤ x1 + 0) (d13 : x11 + (-4294967296) ≤ x14 ∧ x14 ≤ x11 + 0) (f0 : x16 = x14 + 1) (f1 : (0 ≤ x3) ∧ (x3 ≤ x2)) (f7 : x15 = x2) (h8 : x15 = a0_1 (x14)) (f9 : x14 < x1) (f10 : BLQ (a0_1) (x1)) (f11 : (0 ≤ x3) ∧ (x3 ≤ x2)) (f12 : RLI (a0_1) (a4_1) (a5_1) (x1) (x2) (x3) (x6) (x14)) (f13 : QKI (a0_1) (a4_1) (a5_1) (a7_1) (x8) (x1) (x6) (x9) (x2) (x3) (x14)) (hE_0_999_1 : ∀ j : Int, 0 ≤ j → (j = x14 → a0_0 j = x3) ∧ (j ≠ x14 → a0_0 j = a0_1 j)) (hK_0_999 : ∀ j : Int, 0 ≤ j → j < 48 → (-1) ≤ a0_0 j ∧ a0_0 j ≤ 47) (hE_4_999_1 : ∀ j : Int, a4_0 j = a4_1 j) (hK_4_999 : ∀ j : Int, 0 ≤ j → j < 48 → 0 ≤ a4_0 j ∧ a4_0 j ≤ 23) (hE_5_999_1 : ∀ j : Int, a5_0 j = a5_1 j) (hK_5_999 : ∀ j : Int, 0 ≤ j → j < 48 → 0 ≤ a5_0 j ∧ a5_0 j ≤ 23) (hE_7_999_1 : ∀ j : Int, a7_0 j = a7_1 j) (hK_7_999 : ∀ j : Int, 0 ≤ j → j < 24 → 0 ≤ a7_0 j ∧ a7_0 j ≤ 16777215) : RLI (a0_0) (a4_0) (a5_0) (x1) (x2) (x3) (x6) (x16) := by
  have e_hE_4_999_1 := funext hE_4_999_1; subst e_hE_4_999_1
  have e_hE_5_999_1 := funext hE_5_999_1; subst e_hE_5_999_1
  have e_hE_7_999_1 := funext hE_7_999_1; subst e_hE_7_999_1
  first
    | exact rli_start ‹RLP _ _ _ _ _ _ _› (by omega)
    | exact rli_skip ‹RLI _ _ _ _ _ _ _ _› (by assumption) (by omega) (by omega)
    | exact rli_step ‹RLI _ _ _ _ _ _ _ _› (by assumption) (by omega) (by assumption) (by omega) (by omega) (by omega)
  
set_option maxHeartbeats 4000000 in
theorem vc_Fa_relabel_at_Fablock_gr_3_2 (x1 : Int) (x2 : Int) (x3 : Int) (x6 : Int) (x8 : Int) (x9 : Int) (x11 : Int) (x12 : Int) (x13 : Int) (x14 : Int) (x15 : Int) (x16 : Int) (a0_1 : Int → Int) (a4_1 : Int → Int) (a5_1 : Int → Int) (a7_1 : Int → Int) (a0_0 : Int → Int) (a4_0 : Int → Int) (a5_0 : Int → Int) (a7_0 : Int → Int) (k1 : 1 ≤ x1 ∧ x1 ≤ 48) (k2 : 0 ≤ x2 ∧ x2 ≤ 47) (k3 : 0 ≤ x3 ∧ x3 ≤ 47) (k6 : 0 ≤ x6 ∧ x6 ≤ 24) (k8 : 0 ≤ x8 ∧ x8 ≤ 25) (k9 : (-2147483648) ≤ x9 ∧ x9 ≤ 2147483647) (k11 : 1 ≤ x11 ∧ x11 ≤ 48) (k12 : 0 ≤ x12 ∧ x12 ≤ 47) (k13 : 0 ≤ x13 ∧ x13 ≤ 47) (k14 : 0 ≤ x14 ∧ x14 ≤ 47) (k15 : 0 ≤ x15 ∧ x15 ≤ 47) (k16 : 1 ≤ x16 ∧ x16 ≤ 48) (d0 : x14 + 1 ≤ x16 ∧ x16 ≤ x14 + 1) (d1 : x11 + (-4294967296) ≤ x16 ∧ x16 ≤ x11 + 0) (d2 : x1 + (-4294967296) ≤ x16 ∧ x16 ≤ x1 + 1) (d3 : x11 + (-4294967296) ≤ x16 ∧ x16 ≤ x11 + 1) (d4 : x12 + 0 ≤ x15 ∧ x15 ≤ x12 + 0) (d5 : x11 + (-4294967296) ≤ x14 ∧ x14 ≤ x11 + (-1)) (d6 : x11 + (-4294967296) ≤ x1 ∧ x1 ≤ x11 + 0) (d7 : x12 + (-4294967296) ≤ x2 ∧ x2 ≤ x12 + 0) (d8 : x13 + (-4294967296) ≤ x3 ∧ x3 ≤ x13 + 0) (d9 : x1 + (-4294967296) ≤ x11 ∧ x11 ≤ x1 + 0) (d10 : x2 + (-4294967296) ≤ x12 ∧ x12 ≤ x2 + 0) (d11 : x3 + (-4294967296) ≤ x13 ∧ x13 ≤ x3 + 0) (d12 : x1 + (-4294967296) ≤ x14 ∧ x14 ≤ x1 + 0) (d13 : x11 + (-4294967296) ≤ x14 ∧ x14 ≤ x11 + 0) (f0 : x16 = x14 + 1) (f1 : (0 ≤ x3) ∧ (x3 ≤ x2)) (f7 : x15 = x2) (h8 : x15 = a0_1 (x14)) (f9 : x14 < x1) (f10 : BLQ (a0_1) (x1)) (f11 : (0 ≤ x3) ∧ (x3 ≤ x2)) (f12 : RLI (a0_1) (a4_1) (a5_1) (x1) (x2) (x3) (x6) (x14)) (f13 : QKI (a0_1) (a4_1) (a5_1) (a7_1) (x8) (x1) (x6) (x9) (x2) (x3) (x14)) (hE_0_999_1 : ∀ j : Int, 0 ≤ j → (j = x14 → a0_0 j = x3) ∧ (j ≠ x14 → a0_0 j = a0_1 j)) (hK_0_999 : ∀ j : Int, 0 ≤ j → j < 48 → (-1) ≤ a0_0 j ∧ a0_0 j ≤ 47) (hE_4_999_1 : ∀ j : Int, a4_0 j = a4_1 j) (hK_4_999 : ∀ j : Int, 0 ≤ j → j < 48 → 0 ≤ a4_0 j ∧ a4_0 j ≤ 23) (hE_5_999_1 : ∀ j : Int, a5_0 j = a5_1 j) (hK_5_999 : ∀ j : Int, 0 ≤ j → j < 48 → 0 ≤ a5_0 j ∧ a5_0 j ≤ 23) (hE_7_999_1 : ∀ j : Int, a7_0 j = a7_1 j) (hK_7_999 : ∀ j : Int, 0 ≤ j → j < 24 → 0 ≤ a7_0 j ∧ a7_0 j ≤ 16777215) : QKI (a0_0) (a4_0) (a5_0) (a7_0) (x8) (x1) (x6) (x9) (x2) (x3) (x16) := by
  have e_hE_4_999_1 := funext hE_4_999_1; subst e_hE_4_999_1
  have e_hE_5_999_1 := funext hE_5_999_1; subst e_hE_5_999_1
  have e_hE_7_999_1 := funext hE_7_999_1; subst e_hE_7_999_1
  first
    | exact qki_start ‹QKP _ _ _ _ _ _ _ _ _ _› (by omega)
    | exact qki_skip ‹QKI _ _ _ _ _ _ _ _ _ _ _› (by assumption) (by omega) (by omega)
    | exact qki_step ‹QKI _ _ _ _ _ _ _ _ _ _ _› (by assumption) (by omega) (by assumption) rfl (by omega) (by omega)
  
def o_Fa_relabel_at_Fablock_gr_3 : or_T := (3, 17, [(0, (2, 0, 0, [38])), (1, (0, 1, 48, [])), (2, (0, 0, 47, [])), (3, (0, 0, 47, [])), (4, (2, 0, 0, [52])), (5, (2, 0, 0, [53])), (6, (0, 0, 24, [])), (7, (2, 0, 0, [59])), (8, (0, 0, 25, [])), (9, (0, -2147483648, 2147483647, [])), (10, (2, 0, 0, [38])), (11, (0, 1, 48, [])), (12, (0, 0, 47, [])), (13, (0, 0, 47, [])), (14, (0, 0, 47, [])), (15, (0, 0, 47, [])), (16, (0, 1, 48, []))], [(6, [16, 14], [1]), (20, [13, 12], [50, 0, 0, 2, 6, 0, 2, 0, 0, 1, 0, 0, 2, 1, 0, 1, 1]), (24, [0, 10], []), (24, [1, 11], []), (24, [2, 12], []), (24, [3, 13], []), (100, [10, 14, 13], []), (7, [15, 12], [0]), (10, [15, 10, 14], []), (7, [14, 11], [2]), (20, [10, 11], [61, 1, 566]), (20, [13, 12], [50, 0, 0, 2, 6, 0, 2, 0, 0, 1, 0, 0, 2, 1, 0, 1, 1]), (20, [10, 4, 5, 11, 12, 13, 6, 14], [61, 3, 582]), (20, [10, 4, 5, 7, 8, 11, 6, 9, 12, 13, 14], [61, 4, 591])], [], [], [(20, [10, 11], [61, 1, 566]), (20, [10, 4, 5, 11, 12, 13, 6, 16], [61, 3, 582]), (20, [10, 4, 5, 7, 8, 11, 6, 9, 12, 13, 16], [61, 4, 591])], [], [(16, 14, 1, 1), (16, 11, -4294967296, 0), (16, 1, -4294967296, 1), (16, 11, -4294967296, 1), (15, 12, 0, 0), (14, 11, -4294967296, -1), (1, 11, -4294967296, 0), (2, 12, -4294967296, 0), (3, 13, -4294967296, 0), (11, 1, -4294967296, 0), (12, 2, -4294967296, 0), (13, 3, -4294967296, 0), (14, 1, -4294967296, 0), (14, 11, -4294967296, 0)])
theorem oo_Fa_relabel_at_Fablock_gr_3 {kA : Nat → ClassId} : or_ok PRD kA GG o_Fa_relabel_at_Fablock_gr_3 := by
  refine or_mk fun A ta ws vs hD hth hl => ?_
  intro t0 r0 t1 k1 t2 k2 t3 k3 t4 r4 t5 r5 t6 k6 t7 r7 t8 k8 t9 k9 t10 r10 t11 k11 t12 k12 t13 k13 t14 k14 t15 k15 t16 k16 d0 d1 d2 d3 d4 d5 d6 d7 d8 d9 d10 d11 d12 d13 f0 f1 f2 f3 f4 f5 ta1 w1 le1 s1 f7 f8 f9 f10 f11 f12 f13
  replace f0 := shm_4 f0
  replace f1 := shm_384 f1
  replace f2 := shm_5 f2
  replace f3 := shm_5 f3
  replace f4 := shm_5 f4
  replace f5 := shm_5 f5
  have s1 : (∀ b j, w_el ws b j = if b = v_ad (n_v vs 10) ∧ j = (v_iv (n_v vs 14)).toNat then v_iv (n_v vs 13) else w_el w1 b j) ∧ ∀ b k, w_fd ws b k = w_fd w1 b k := s1.2
  replace f7 := shm_37 f7
  replace f8 := shm_106 f8
  replace f9 := shm_6 f9
  replace f10 := shm_383 f10
  replace f11 := shm_384 f11
  replace f12 := shm_387 f12
  replace f13 := shm_388 f13
  have q10 : n_v vs 10 = n_v vs 0 := f2.symm
  have q11 : n_v vs 11 = n_v vs 1 := f3.symm
  have q12 : n_v vs 12 = n_v vs 2 := f4.symm
  have q13 : n_v vs 13 = n_v vs 3 := f5.symm
  simp only [q12, q13] at f1
  rw [q10] at s1
  rw [q13] at s1
  simp only [q12, q10, q11, q13] at f7 f8 f9 f10 f11 f12 f13
  have cr_0_999 : ta (v_ad (n_v vs 0)) = some 38 := r0
  have cr_4_999 : ta (v_ad (n_v vs 4)) = some 52 := r4
  have cr_5_999 : ta (v_ad (n_v vs 5)) = some 53 := r5
  have cr_7_999 : ta (v_ad (n_v vs 7)) = some 59 := r7
  have ad_0 : v_ad (n_v vs 0) = v_ad (n_v vs 0) := rfl
  have h8 : v_iv (n_v vs 15) = w_ei w1 (v_ad (n_v vs 0)) (v_iv (n_v vs 14)) := f8
  have hE_0_999_1 : ∀ j : Int, 0 ≤ j → (j = v_iv (n_v vs 14) → w_ei ws (v_ad (n_v vs 0)) j = v_iv (n_v vs 3)) ∧ (j ≠ v_iv (n_v vs 14) → w_ei ws (v_ad (n_v vs 0)) j = w_ei w1 (v_ad (n_v vs 0)) j) := fun j hj => ⟨fun h => by unfold w_ei; rw [s1.1, if_pos ⟨ad_0.symm, by rw [h]⟩], fun h => by unfold w_ei; rw [s1.1, if_neg (fun e => h (by have := e.2; omega))]⟩
  have hK_0_999 := elq_27 hD hth cr_0_999
  have hE_4_999_1 : ∀ j : Int, w_ei ws (v_ad (n_v vs 4)) j = w_ei w1 (v_ad (n_v vs 4)) j := el_kp s1.1 r0 cr_4_999 (by decide)
  have hK_4_999 := elq_10 hD hth cr_4_999
  have hE_5_999_1 : ∀ j : Int, w_ei ws (v_ad (n_v vs 5)) j = w_ei w1 (v_ad (n_v vs 5)) j := el_kp s1.1 r0 cr_5_999 (by decide)
  have hK_5_999 := elq_11 hD hth cr_5_999
  have hE_7_999_1 : ∀ j : Int, w_ei ws (v_ad (n_v vs 7)) j = w_ei w1 (v_ad (n_v vs 7)) j := el_kp s1.1 r0 cr_7_999 (by decide)
  have hK_7_999 := elq_24 hD hth cr_7_999
  have nf0 : fc_1 PRD (20, [10, 11], [61, 1, 566]) ws (vs) := by
    refine ⟨nf_in hl rfl, sgq_383 ?_⟩
    · show BLQ (w_ei ws (v_ad (n_v vs 10))) (v_iv (n_v vs 11))
      simp only [q10, q11]
      exact vc_Fa_relabel_at_Fablock_gr_3_0 (v_iv (n_v vs 1)) (v_iv (n_v vs 2)) (v_iv (n_v vs 3)) (v_iv (n_v vs 6)) (v_iv (n_v vs 8)) (v_iv (n_v vs 9)) (v_iv (n_v vs 11)) (v_iv (n_v vs 12)) (v_iv (n_v vs 13)) (v_iv (n_v vs 14)) (v_iv (n_v vs 15)) (v_iv (n_v vs 16)) (w_ei w1 (v_ad (n_v vs 0))) (w_ei w1 (v_ad (n_v vs 4))) (w_ei w1 (v_ad (n_v vs 5))) (w_ei w1 (v_ad (n_v vs 7))) (w_ei ws (v_ad (n_v vs 0))) (w_ei ws (v_ad (n_v vs 4))) (w_ei ws (v_ad (n_v vs 5))) (w_ei ws (v_ad (n_v vs 7))) k1 k2 k3 k6 k8 k9 k11 k12 k13 k14 k15 k16 d0 d1 d2 d3 d4 d5 d6 d7 d8 d9 d10 d11 d12 d13 f0 f1 f7 h8 f9 f10 f11 f12 f13 hE_0_999_1 hK_0_999 hE_4_999_1 hK_4_999 hE_5_999_1 hK_5_999 hE_7_999_1 hK_7_999
  have nf1 : fc_1 PRD (20, [10, 4, 5, 11, 12, 13, 6, 16], [61, 3, 582]) ws (vs) := by
    refine ⟨nf_in hl rfl, sgq_387 ?_⟩
    · show RLI (w_ei ws (v_ad (n_v vs 10))) (w_ei ws (v_ad (n_v vs 4))) (w_ei ws (v_ad (n_v vs 5))) (v_iv (n_v vs 11)) (v_iv (n_v vs 12)) (v_iv (n_v vs 13)) (v_iv (n_v vs 6)) (v_iv (n_v vs 16))
      simp only [q10, q11, q12, q13]
      exact vc_Fa_relabel_at_Fablock_gr_3_1 (v_iv (n_v vs 1)) (v_iv (n_v vs 2)) (v_iv (n_v vs 3)) (v_iv (n_v vs 6)) (v_iv (n_v vs 8)) (v_iv (n_v vs 9)) (v_iv (n_v vs 11)) (v_iv (n_v vs 12)) (v_iv (n_v vs 13)) (v_iv (n_v vs 14)) (v_iv (n_v vs 15)) (v_iv (n_v vs 16)) (w_ei w1 (v_ad (n_v vs 0))) (w_ei w1 (v_ad (n_v vs 4))) (w_ei w1 (v_ad (n_v vs 5))) (w_ei w1 (v_ad (n_v vs 7))) (w_ei ws (v_ad (n_v vs 0))) (w_ei ws (v_ad (n_v vs 4))) (w_ei ws (v_ad (n_v vs 5))) (w_ei ws (v_ad (n_v vs 7))) k1 k2 k3 k6 k8 k9 k11 k12 k13 k14 k15 k16 d0 d1 d2 d3 d4 d5 d6 d7 d8 d9 d10 d11 d12 d13 f0 f1 f7 h8 f9 f10 f11 f12 f13 hE_0_999_1 hK_0_999 hE_4_999_1 hK_4_999 hE_5_999_1 hK_5_999 hE_7_999_1 hK_7_999
  have nf2 : fc_1 PRD (20, [10, 4, 5, 7, 8, 11, 6, 9, 12, 13, 16], [61, 4, 591]) ws (vs) := by
    refine ⟨nf_in hl rfl, sgq_388 ?_⟩
    · show QKI (w_ei ws (v_ad (n_v vs 10))) (w_ei ws (v_ad (n_v vs 4))) (w_ei ws (v_ad (n_v vs 5))) (w_ei ws (v_ad (n_v vs 7))) (v_iv (n_v vs 8)) (v_iv (n_v vs 11)) (v_iv (n_v vs 6)) (v_iv (n_v vs 9)) (v_iv (n_v vs 12)) (v_iv (n_v vs 13)) (v_iv (n_v vs 16))
      simp only [q10, q11, q12, q13]
      exact vc_Fa_relabel_at_Fablock_gr_3_2 (v_iv (n_v vs 1)) (v_iv (n_v vs 2)) (v_iv (n_v vs 3)) (v_iv (n_v vs 6)) (v_iv (n_v vs 8)) (v_iv (n_v vs 9)) (v_iv (n_v vs 11)) (v_iv (n_v vs 12)) (v_iv (n_v vs 13)) (v_iv (n_v vs 14)) (v_iv (n_v vs 15)) (v_iv (n_v vs 16)) (w_ei w1 (v_ad (n_v vs 0))) (w_ei w1 (v_ad (n_v vs 4))) (w_ei w1 (v_ad (n_v vs 5))) (w_ei w1 (v_ad (n_v vs 7))) (w_ei ws (v_ad (n_v vs 0))) (w_ei ws (v_ad (n_v vs 4))) (w_ei ws (v_ad (n_v vs 5))) (w_ei ws (v_ad (n_v vs 7))) k1 k2 k3 k6 k8 k9 k11 k12 k13 k14 k15 k16 d0 d1 d2 d3 d4 d5 d6 d7 d8 d9 d10 d11 d12 d13 f0 f1 f7 h8 f9 f10 f11 f12 f13 hE_0_999_1 hK_0_999 hE_4_999_1 hK_4_999 hE_5_999_1 hK_5_999 hE_7_999_1 hK_7_999
  refine ⟨(fun _ h => (by cases h)), [], trivial, ?_, (fun _ h => (by cases h))⟩
  rw [List.append_nil]
  exact List.forall_mem_cons.mpr ⟨⟨show (20 : Nat) < 100 from by decide, nf0⟩, List.forall_mem_cons.mpr ⟨⟨show (20 : Nat) < 100 from by decide, nf1⟩, List.forall_mem_cons.mpr ⟨⟨show (20 : Nat) < 100 from by decide, nf2⟩, (fun _ h => (by cases h))⟩⟩⟩
def n_Fa_relabel_at_Fablock_gr_an : List an_T := [(3, [(0, (2, 0, 0, [38])), (1, (0, 1, 48, [])), (2, (0, 0, 47, [])), (3, (0, 0, 47, [])), (4, (0, 0, 48, []))], [], (0, 0), [(0, 0, 99997), (1, 14, 48), (0, 0, 100000)], [(1, 11, (Int.negSucc 999999999999), 0), (2, 12, (Int.negSucc 999999999999), 0), (3, 13, (Int.negSucc 999999999999), 0), (11, 1, (Int.negSucc 999999999999), 0), (12, 2, (Int.negSucc 999999999999), 0), (13, 3, (Int.negSucc 999999999999), 0), (14, 1, (Int.negSucc 999999999999), 0), (14, 11, (Int.negSucc 999999999999), 0)], [], [(2, 0, 0, [38]), (0, 1, 48, []), (0, 0, 47, []), (0, 0, 47, []), (2, 0, 0, [52]), (2, 0, 0, [53]), (0, 0, 24, []), (2, 0, 0, [59]), (0, 0, 25, []), (0, (Int.negSucc 2147483647), 2147483647, [])], 0, [], [(20, [10, 11], [61, 1, 566]), (20, [13, 12], [50, 0, 0, 2, 6, 0, 2, 0, 0, 1, 0, 0, 2, 1, 0, 1, 1]), (20, [10, 4, 5, 11, 12, 13, 6, 14], [61, 3, 582]), (20, [10, 4, 5, 7, 8, 11, 6, 9, 12, 13, 14], [61, 4, 591]), (24, [0, 10], []), (24, [1, 11], []), (24, [2, 12], []), (24, [3, 13], [])])]
def t_Fa_relabel_at_Fablock_gr_ct : ct_L := []
set_option maxRecDepth 100000 in
theorem c_Fa_relabel_at_Fablock_gr {l : Launch} {D : va_G} {kA : Nat → ClassId} : ct_ok PRD l D kA GG y_Fa_relabel_at_Fablock_gr z_Fa_relabel_at_Fablock_gr e_Fa_relabel_at_Fablock_gr := chk_all_ok (FT := []) (PT := []) (CT := t_Fa_relabel_at_Fablock_gr_ct) (KT := []) (NT := []) (AN := n_Fa_relabel_at_Fablock_gr_an) (OT := [o_Fa_relabel_at_Fablock_gr_0, o_Fa_relabel_at_Fablock_gr_1, o_Fa_relabel_at_Fablock_gr_2, o_Fa_relabel_at_Fablock_gr_3]) 3 200 (List.forall_mem_cons.mpr ⟨oo_Fa_relabel_at_Fablock_gr_0, List.forall_mem_cons.mpr ⟨oo_Fa_relabel_at_Fablock_gr_1, List.forall_mem_cons.mpr ⟨oo_Fa_relabel_at_Fablock_gr_2, List.forall_mem_cons.mpr ⟨oo_Fa_relabel_at_Fablock_gr_3, List.forall_mem_nil _⟩⟩⟩⟩) (by decide +kernel) ⟨List.forall_mem_nil _, List.forall_mem_nil _, List.forall_mem_nil _, List.forall_mem_nil _, List.forall_mem_nil _, GG_pl⟩ (by decide +kernel)
set_option maxHeartbeats 4000000 in
theorem vc_Fa_setAll_0_0 (x1 : Int) (x2 : Int) (x3 : Int) (x5 : Int) (x6 : Int) (x7 : Int) (a0_0 : Int → Int) (a4_0 : Int → Int) (k1 : 1 ≤ x1 ∧ x1 ≤ 24) (k2 : 0 ≤ x2 ∧ x2 ≤ 16777215) (k3 : 0 ≤ x3 ∧ x3 ≤ 23) (k5 : (-2147483648) ≤ x5 ∧ x5 ≤ 2147483647) (k6 : 0 ≤ x6 ∧ x6 ≤ 23) (k7 : 0 ≤ x7 ∧ x7 ≤ 0) (f0 : SAQ (a0_0) (a4_0) (x1) (x2) (x3) (x5) (x6)) (hK_0_999 : ∀ j : Int, 0 ≤ j → j < 24 → (-1) ≤ a0_0 j ∧ a0_0 j ≤ 24) (hK_4_999 : ∀ j : Int, 0 ≤ j → j < 24 → 0 ≤ a4_0 j ∧ a4_0 j ≤ 16777215) : SAI (a0_0) (a4_0) (x1) (x2) (x3) (x5) (x6) (x7) := by
  first
    | exact sai_start ‹SAQ _ _ _ _ _ _ _› (by omega)
    | (have q := bit_one (s := x2) (t := x12) (c := x14) (v := x11) (one := x13) (by assumption) (by assumption) (by omega) (by omega) (by omega) (by omega); exact sai_skip ‹SAI _ _ _ _ _ _ _ _› (fun z => by have := q.mp z; omega) (by omega))
    | (have q := bit_one (s := x2) (t := x12) (c := x14) (v := x11) (one := x13) (by assumption) (by assumption) (by omega) (by omega) (by omega) (by omega); exact sai_step (p := x11) (x := x3) ‹SAI _ _ _ _ _ _ _ _› (q.mpr (by omega)) (by assumption) rfl rfl (by omega))
  
def o_Fa_setAll_0 : or_T := (3, 8, [(0, (2, 0, 0, [37])), (1, (0, 1, 24, [])), (2, (0, 0, 16777215, [])), (3, (0, 0, 23, [])), (4, (2, 0, 0, [59])), (5, (0, -2147483648, 2147483647, [])), (6, (0, 0, 23, [])), (7, (0, 0, 0, []))], [(20, [0, 4, 1, 2, 3, 5, 6], [61, 2, 675])], [], [], [(20, [0, 4, 1, 2, 3, 5, 6, 7], [61, 2, 676]), (24, [0, 0], []), (24, [1, 1], []), (24, [2, 2], []), (24, [3, 3], [])], [], [])
theorem oo_Fa_setAll_0 {kA : Nat → ClassId} : or_ok PRD kA GG o_Fa_setAll_0 := by
  refine or_mk fun A ta ws vs hD hth hl => ?_
  intro t0 r0 t1 k1 t2 k2 t3 k3 t4 r4 t5 k5 t6 k6 t7 k7 f0
  have cr_0_999 : ta (v_ad (n_v vs 0)) = some 37 := r0
  have cr_4_999 : ta (v_ad (n_v vs 4)) = some 59 := r4
  have hK_0_999 := elq_28 hD hth cr_0_999
  have hK_4_999 := elq_24 hD hth cr_4_999
  have nf0 : fc_1 PRD (20, [0, 4, 1, 2, 3, 5, 6, 7], [61, 2, 676]) ws (vs) := ⟨nf_in hl rfl, sgq_392 (vc_Fa_setAll_0_0 (v_iv (n_v vs 1)) (v_iv (n_v vs 2)) (v_iv (n_v vs 3)) (v_iv (n_v vs 5)) (v_iv (n_v vs 6)) (v_iv (n_v vs 7)) (w_ei ws (v_ad (n_v vs 0))) (w_ei ws (v_ad (n_v vs 4))) k1 k2 k3 k5 k6 k7 (shm_391 f0) hK_0_999 hK_4_999)⟩
  have nf1 : fc_1 PRD (24, [0, 0], []) ws (vs) := by
    refine ⟨nf_in hl rfl, sgq_1 ?_⟩
    · show n_v vs 0 = n_v vs 0
      first | rfl | simp only [true_and]
  have nf2 : fc_1 PRD (24, [1, 1], []) ws (vs) := by
    refine ⟨nf_in hl rfl, sgq_1 ?_⟩
    · show n_v vs 1 = n_v vs 1
      first | rfl | simp only [true_and]
  have nf3 : fc_1 PRD (24, [2, 2], []) ws (vs) := by
    refine ⟨nf_in hl rfl, sgq_1 ?_⟩
    · show n_v vs 2 = n_v vs 2
      first | rfl | simp only [true_and]
  have nf4 : fc_1 PRD (24, [3, 3], []) ws (vs) := by
    refine ⟨nf_in hl rfl, sgq_1 ?_⟩
    · show n_v vs 3 = n_v vs 3
      first | rfl | simp only [true_and]
  refine ⟨(fun _ h => (by cases h)), [], trivial, ?_, (fun _ h => (by cases h))⟩
  rw [List.append_nil]
  exact List.forall_mem_cons.mpr ⟨⟨show (20 : Nat) < 100 from by decide, nf0⟩, List.forall_mem_cons.mpr ⟨⟨show (24 : Nat) < 100 from by decide, nf1⟩, List.forall_mem_cons.mpr ⟨⟨show (24 : Nat) < 100 from by decide, nf2⟩, List.forall_mem_cons.mpr ⟨⟨show (24 : Nat) < 100 from by decide, nf3⟩, List.forall_mem_cons.mpr ⟨⟨show (24 : Nat) < 100 from by decide, nf4⟩, (fun _ h => (by cases h))⟩⟩⟩⟩⟩
set_option maxHeartbeats 4000000 in
theorem vc_Fa_setAll_1_0 (x1 : Int) (x2 : Int) (x3 : Int) (x5 : Int) (x6 : Int) (x8 : Int) (x9 : Int) (x10 : Int) (x11 : Int) (a0_0 : Int → Int) (a4_0 : Int → Int) (k1 : 1 ≤ x1 ∧ x1 ≤ 24) (k2 : 0 ≤ x2 ∧ x2 ≤ 16777215) (k3 : 0 ≤ x3 ∧ x3 ≤ 23) (k5 : (-2147483648) ≤ x5 ∧ x5 ≤ 2147483647) (k6 : 0 ≤ x6 ∧ x6 ≤ 23) (k8 : 1 ≤ x8 ∧ x8 ≤ 24) (k9 : 0 ≤ x9 ∧ x9 ≤ 16777215) (k10 : 0 ≤ x10 ∧ x10 ≤ 23) (k11 : 1 ≤ x11 ∧ x11 ≤ 24) (d0 : x8 + 0 ≤ x11 ∧ x11 ≤ x8 + 4294967296) (d1 : x8 + (-4294967296) ≤ x1 ∧ x1 ≤ x8 + 0) (d2 : x9 + (-4294967296) ≤ x2 ∧ x2 ≤ x9 + 0) (d3 : x10 + (-4294967296) ≤ x3 ∧ x3 ≤ x10 + 0) (d4 : x1 + (-4294967296) ≤ x8 ∧ x8 ≤ x1 + 0) (d5 : x2 + (-4294967296) ≤ x9 ∧ x9 ≤ x2 + 0) (d6 : x3 + (-4294967296) ≤ x10 ∧ x10 ≤ x3 + 0) (d7 : x1 + (-4294967296) ≤ x11 ∧ x11 ≤ x1 + 0) (d8 : x8 + (-4294967296) ≤ x11 ∧ x11 ≤ x8 + 0) (f0 : x1 ≤ x11) (f1 : SAI (a0_0) (a4_0) (x1) (x2) (x3) (x5) (x6) (x11)) (hK_0_999 : ∀ j : Int, 0 ≤ j → j < 24 → (-1) ≤ a0_0 j ∧ a0_0 j ≤ 24) (hK_4_999 : ∀ j : Int, 0 ≤ j → j < 24 → 0 ≤ a4_0 j ∧ a4_0 j ≤ 16777215) : SAO (a0_0) (a4_0) (x1) (x2) (x3) (x5) (x6) := by
  first
    | exact sao_of ‹SAI _ _ _ _ _ _ _ _› (by omega)
  
def o_Fa_setAll_1 : or_T := (29, 12, [(0, (2, 0, 0, [37])), (1, (0, 1, 24, [])), (2, (0, 0, 16777215, [])), (3, (0, 0, 23, [])), (4, (2, 0, 0, [59])), (5, (0, -2147483648, 2147483647, [])), (6, (0, 0, 23, [])), (8, (0, 1, 24, [])), (9, (0, 0, 16777215, [])), (10, (0, 0, 23, [])), (11, (0, 1, 24, []))], [(7, [11, 8], [3]), (20, [7, 4, 8, 9, 10, 5, 6, 11], [61, 2, 676]), (24, [0, 7], []), (24, [1, 8], []), (24, [2, 9], []), (24, [3, 10], [])], [], [], [(20, [0, 4, 1, 2, 3, 5, 6], [61, 2, 677])], [], [(11, 8, 0, 4294967296), (1, 8, -4294967296, 0), (2, 9, -4294967296, 0), (3, 10, -4294967296, 0), (8, 1, -4294967296, 0), (9, 2, -4294967296, 0), (10, 3, -4294967296, 0), (11, 1, -4294967296, 0), (11, 8, -4294967296, 0)])
theorem oo_Fa_setAll_1 {kA : Nat → ClassId} : or_ok PRD kA GG o_Fa_setAll_1 := by
  refine or_mk fun A ta ws vs hD hth hl => ?_
  intro t0 r0 t1 k1 t2 k2 t3 k3 t4 r4 t5 k5 t6 k6 t8 k8 t9 k9 t10 k10 t11 k11 d0 d1 d2 d3 d4 d5 d6 d7 d8 f0 f1 f2 f3 f4 f5
  replace f0 := shm_2 f0
  replace f1 := shm_392 f1
  replace f2 := shm_5 f2
  replace f3 := shm_5 f3
  replace f4 := shm_5 f4
  replace f5 := shm_5 f5
  have q7 : n_v vs 7 = n_v vs 0 := f2.symm
  have q8 : n_v vs 8 = n_v vs 1 := f3.symm
  have q9 : n_v vs 9 = n_v vs 2 := f4.symm
  have q10 : n_v vs 10 = n_v vs 3 := f5.symm
  simp only [q8, q7, q9, q10] at f0 f1
  have cr_0_999 : ta (v_ad (n_v vs 0)) = some 37 := r0
  have cr_4_999 : ta (v_ad (n_v vs 4)) = some 59 := r4
  have hK_0_999 := elq_28 hD hth cr_0_999
  have hK_4_999 := elq_24 hD hth cr_4_999
  have nf0 : fc_1 PRD (20, [0, 4, 1, 2, 3, 5, 6], [61, 2, 677]) ws (vs) := ⟨nf_in hl rfl, sgq_393 (vc_Fa_setAll_1_0 (v_iv (n_v vs 1)) (v_iv (n_v vs 2)) (v_iv (n_v vs 3)) (v_iv (n_v vs 5)) (v_iv (n_v vs 6)) (v_iv (n_v vs 8)) (v_iv (n_v vs 9)) (v_iv (n_v vs 10)) (v_iv (n_v vs 11)) (w_ei ws (v_ad (n_v vs 0))) (w_ei ws (v_ad (n_v vs 4))) k1 k2 k3 k5 k6 k8 k9 k10 k11 d0 d1 d2 d3 d4 d5 d6 d7 d8 f0 f1 hK_0_999 hK_4_999)⟩
  refine ⟨(fun _ h => (by cases h)), [], trivial, ?_, (fun _ h => (by cases h))⟩
  rw [List.append_nil]
  exact List.forall_mem_cons.mpr ⟨⟨show (20 : Nat) < 100 from by decide, nf0⟩, (fun _ h => (by cases h))⟩
set_option maxHeartbeats 4000000 in
theorem vc_Fa_setAll_2_0 (x1 : Int) (x2 : Int) (x3 : Int) (x5 : Int) (x6 : Int) (x8 : Int) (x9 : Int) (x10 : Int) (x11 : Int) (x12 : Int) (x13 : Int) (x14 : Int) (x15 : Int) (a0_0 : Int → Int) (a4_0 : Int → Int) (k1 : 1 ≤ x1 ∧ x1 ≤ 24) (k2 : 0 ≤ x2 ∧ x2 ≤ 16777215) (k3 : 0 ≤ x3 ∧ x3 ≤ 23) (k5 : (-2147483648) ≤ x5 ∧ x5 ≤ 2147483647) (k6 : 0 ≤ x6 ∧ x6 ≤ 23) (k8 : 1 ≤ x8 ∧ x8 ≤ 24) (k9 : 0 ≤ x9 ∧ x9 ≤ 16777215) (k10 : 0 ≤ x10 ∧ x10 ≤ 23) (k11 : 0 ≤ x11 ∧ x11 ≤ 23) (k12 : 0 ≤ x12 ∧ x12 ≤ 16777215) (k13 : 1 ≤ x13 ∧ x13 ≤ 1) (k14 : 0 ≤ x14 ∧ x14 ≤ 0) (k15 : 1 ≤ x15 ∧ x15 ≤ 24) (d0 : x11 + 1 ≤ x15 ∧ x15 ≤ x11 + 1) (d1 : x8 + (-4294967296) ≤ x15 ∧ x15 ≤ x8 + 0) (d2 : x1 + (-4294967296) ≤ x15 ∧ x15 ≤ x1 + 1) (d3 : x8 + (-4294967296) ≤ x15 ∧ x15 ≤ x8 + 1) (d4 : x8 + (-4294967296) ≤ x11 ∧ x11 ≤ x8 + (-1)) (d5 : x8 + (-4294967296) ≤ x1 ∧ x1 ≤ x8 + 0) (d6 : x9 + (-4294967296) ≤ x2 ∧ x2 ≤ x9 + 0) (d7 : x10 + (-4294967296) ≤ x3 ∧ x3 ≤ x10 + 0) (d8 : x1 + (-4294967296) ≤ x8 ∧ x8 ≤ x1 + 0) (d9 : x2 + (-4294967296) ≤ x9 ∧ x9 ≤ x2 + 0) (d10 : x3 + (-4294967296) ≤ x10 ∧ x10 ≤ x3 + 0) (d11 : x1 + (-4294967296) ≤ x11 ∧ x11 ≤ x1 + 0) (d12 : x8 + (-4294967296) ≤ x11 ∧ x11 ≤ x8 + 0) (f0 : x15 = x11 + 1) (f1 : x14 = 0) (f2 : x14 = x12 % 2) (f3 : bvp (x14) = bvp (x12) &&& bvp (x13)) (f4 : bvp (x12) = bvp (x2) >>> (x11).toNat) (f5 : x11 < x1) (f6 : SAI (a0_0) (a4_0) (x1) (x2) (x3) (x5) (x6) (x11)) (hK_0_999 : ∀ j : Int, 0 ≤ j → j < 24 → (-1) ≤ a0_0 j ∧ a0_0 j ≤ 24) (hK_4_999 : ∀ j : Int, 0 ≤ j → j < 24 → 0 ≤ a4_0 j ∧ a4_0 j ≤ 16777215) : SAI (a0_0) (a4_0) (x1) (x2) (x3) (x5) (x6) (x15) := by
  first
    | exact sai_start ‹SAQ _ _ _ _ _ _ _› (by omega)
    | (have q := bit_one (s := x2) (t := x12) (c := x14) (v := x11) (one := x13) (by assumption) (by assumption) (by omega) (by omega) (by omega) (by omega); exact sai_skip ‹SAI _ _ _ _ _ _ _ _› (fun z => by have := q.mp z; omega) (by omega))
    | (have q := bit_one (s := x2) (t := x12) (c := x14) (v := x11) (one := x13) (by assumption) (by assumption) (by omega) (by omega) (by omega) (by omega); exact sai_step (p := x11) (x := x3) ‹SAI _ _ _ _ _ _ _ _› (q.mpr (by omega)) (by assumption) rfl rfl (by omega))
  
def o_Fa_setAll_2 : or_T := (3, 16, [(0, (2, 0, 0, [37])), (1, (0, 1, 24, [])), (2, (0, 0, 16777215, [])), (3, (0, 0, 23, [])), (4, (2, 0, 0, [59])), (5, (0, -2147483648, 2147483647, [])), (6, (0, 0, 23, [])), (7, (2, 0, 0, [37])), (8, (0, 1, 24, [])), (9, (0, 0, 16777215, [])), (10, (0, 0, 23, [])), (11, (0, 0, 23, [])), (12, (0, 0, 16777215, [])), (13, (0, 1, 1, [])), (14, (0, 0, 0, [])), (15, (0, 1, 24, []))], [(6, [15, 11], [1]), (8, [14], [0]), (12, [14, 12], [2]), (16, [14, 12, 13], [0]), (16, [12, 9, 11], [4]), (7, [11, 8], [2]), (20, [7, 4, 8, 9, 10, 5, 6, 11], [61, 2, 676]), (24, [0, 7], []), (24, [1, 8], []), (24, [2, 9], []), (24, [3, 10], [])], [], [], [(20, [7, 4, 8, 9, 10, 5, 6, 15], [61, 2, 676])], [], [(15, 11, 1, 1), (15, 8, -4294967296, 0), (15, 1, -4294967296, 1), (15, 8, -4294967296, 1), (11, 8, -4294967296, -1), (1, 8, -4294967296, 0), (2, 9, -4294967296, 0), (3, 10, -4294967296, 0), (8, 1, -4294967296, 0), (9, 2, -4294967296, 0), (10, 3, -4294967296, 0), (11, 1, -4294967296, 0), (11, 8, -4294967296, 0)])
theorem oo_Fa_setAll_2 {kA : Nat → ClassId} : or_ok PRD kA GG o_Fa_setAll_2 := by
  refine or_mk fun A ta ws vs hD hth hl => ?_
  intro t0 r0 t1 k1 t2 k2 t3 k3 t4 r4 t5 k5 t6 k6 t7 r7 t8 k8 t9 k9 t10 k10 t11 k11 t12 k12 t13 k13 t14 k14 t15 k15 d0 d1 d2 d3 d4 d5 d6 d7 d8 d9 d10 d11 d12 f0 f1 f2 f3 f4 f5 f6 f7 f8 f9 f10
  replace f0 := shm_4 f0
  replace f1 := shm_210 f1
  replace f2 := shm_382 f2
  replace f3 := shm_11 f3
  replace f4 := shm_13 f4
  replace f5 := shm_6 f5
  replace f6 := shm_392 f6
  replace f7 := shm_5 f7
  replace f8 := shm_5 f8
  replace f9 := shm_5 f9
  replace f10 := shm_5 f10
  have q7 : n_v vs 7 = n_v vs 0 := f7.symm
  have q8 : n_v vs 8 = n_v vs 1 := f8.symm
  have q9 : n_v vs 9 = n_v vs 2 := f9.symm
  have q10 : n_v vs 10 = n_v vs 3 := f10.symm
  simp only [q9, q8, q7, q10] at f4 f5 f6
  have cr_0_999 : ta (v_ad (n_v vs 0)) = some 37 := r0
  have cr_4_999 : ta (v_ad (n_v vs 4)) = some 59 := r4
  have hK_0_999 := elq_28 hD hth cr_0_999
  have hK_4_999 := elq_24 hD hth cr_4_999
  have nf0 : fc_1 PRD (20, [7, 4, 8, 9, 10, 5, 6, 15], [61, 2, 676]) ws (vs) := by
    refine ⟨nf_in hl rfl, sgq_392 ?_⟩
    · show SAI (w_ei ws (v_ad (n_v vs 7))) (w_ei ws (v_ad (n_v vs 4))) (v_iv (n_v vs 8)) (v_iv (n_v vs 9)) (v_iv (n_v vs 10)) (v_iv (n_v vs 5)) (v_iv (n_v vs 6)) (v_iv (n_v vs 15))
      simp only [q7, q8, q9, q10]
      exact vc_Fa_setAll_2_0 (v_iv (n_v vs 1)) (v_iv (n_v vs 2)) (v_iv (n_v vs 3)) (v_iv (n_v vs 5)) (v_iv (n_v vs 6)) (v_iv (n_v vs 8)) (v_iv (n_v vs 9)) (v_iv (n_v vs 10)) (v_iv (n_v vs 11)) (v_iv (n_v vs 12)) (v_iv (n_v vs 13)) (v_iv (n_v vs 14)) (v_iv (n_v vs 15)) (w_ei ws (v_ad (n_v vs 0))) (w_ei ws (v_ad (n_v vs 4))) k1 k2 k3 k5 k6 k8 k9 k10 k11 k12 k13 k14 k15 d0 d1 d2 d3 d4 d5 d6 d7 d8 d9 d10 d11 d12 f0 f1 f2 f3 f4 f5 f6 hK_0_999 hK_4_999
  refine ⟨(fun _ h => (by cases h)), [], trivial, ?_, (fun _ h => (by cases h))⟩
  rw [List.append_nil]
  exact List.forall_mem_cons.mpr ⟨⟨show (20 : Nat) < 100 from by decide, nf0⟩, (fun _ h => (by cases h))⟩
set_option maxHeartbeats 4000000 in
theorem vc_Fa_setAll_3_0 (x1 : Int) (x2 : Int) (x3 : Int) (x5 : Int) (x6 : Int) (x8 : Int) (x9 : Int) (x10 : Int) (x11 : Int) (x12 : Int) (x13 : Int) (x14 : Int) (x15 : Int) (a0_1 : Int → Int) (a4_1 : Int → Int) (a0_0 : Int → Int) (a4_0 : Int → Int) (k1 : 1 ≤ x1 ∧ x1 ≤ 24) (k2 : 0 ≤ x2 ∧ x2 ≤ 16777215) (k3 : 0 ≤ x3 ∧ x3 ≤ 23) (k5 : (-2147483648) ≤ x5 ∧ x5 ≤ 2147483647) (k6 : 0 ≤ x6 ∧ x6 ≤ 23) (k8 : 1 ≤ x8 ∧ x8 ≤ 24) (k9 : 0 ≤ x9 ∧ x9 ≤ 16777215) (k10 : 0 ≤ x10 ∧ x10 ≤ 23) (k11 : 0 ≤ x11 ∧ x11 ≤ 23) (k12 : 0 ≤ x12 ∧ x12 ≤ 16777215) (k13 : 1 ≤ x13 ∧ x13 ≤ 1) (k14 : 1 ≤ x14 ∧ x14 ≤ 1) (k15 : 1 ≤ x15 ∧ x15 ≤ 24) (d0 : x11 + 1 ≤ x15 ∧ x15 ≤ x11 + 1) (d1 : x8 + (-4294967296) ≤ x15 ∧ x15 ≤ x8 + 0) (d2 : x1 + (-4294967296) ≤ x15 ∧ x15 ≤ x1 + 1) (d3 : x8 + (-4294967296) ≤ x15 ∧ x15 ≤ x8 + 1) (d4 : x8 + (-4294967296) ≤ x11 ∧ x11 ≤ x8 + (-1)) (d5 : x8 + (-4294967296) ≤ x1 ∧ x1 ≤ x8 + 0) (d6 : x9 + (-4294967296) ≤ x2 ∧ x2 ≤ x9 + 0) (d7 : x10 + (-4294967296) ≤ x3 ∧ x3 ≤ x10 + 0) (d8 : x1 + (-4294967296) ≤ x8 ∧ x8 ≤ x1 + 0) (d9 : x2 + (-4294967296) ≤ x9 ∧ x9 ≤ x2 + 0) (d10 : x3 + (-4294967296) ≤ x10 ∧ x10 ≤ x3 + 0) (d11 : x1 + (-4294967296) ≤ x11 ∧ x11 ≤ x1 + 0) (d12 : x8 + (-4294967296) ≤ x11 ∧ x11 ≤ x8 + 0) (f0 : x15 = x11 + 1) (f6 : x14 ≠ 0) (f7 : x14 = x12 % 2) (f8 : bvp (x14) = bvp (x12) &&& bvp (x13)) (f9 : bvp (x12) = bvp (x2) >>> (x11).toNat) (f10 : x11 < x1) (f11 : SAI (a0_1) (a4_1) (x1) (x2) (x3) (x5) (x6) (x11)) (hE_0_999_1 : ∀ j : Int, 0 ≤ j → (j = x11 → a0_0 j = x3) ∧ (j ≠ x11 → a0_0 j = a0_1 j)) (hK_0_999 : ∀ j : Int, 0 ≤ j → j < 24 → (-1) ≤ a0_0 j ∧ a0_0 j ≤ 24) (hE_4_999_1 : ∀ j : Int, a4_0 j = a4_1 j) (hK_4_999 : ∀ j : Int, 0 ≤ j → j < 24 → 0 ≤ a4_0 j ∧ a4_0 j ≤ 16777215) : SAI (a0_0) (a4_0) (x1) (x2) (x3) (x5) (x6) (x15) := by
  have e_hE_4_999_1 := funext hE_4_999_1; subst e_hE_4_999_1
  first
    | exact sai_start ‹SAQ _ _ _ _ _ _ _› (by omega)
    | (have q := bit_one (s := x2) (t := x12) (c := x14) (v := x11) (one := x13) (by assumption) (by assumption) (by omega) (by omega) (by omega) (by omega); exact sai_skip ‹SAI _ _ _ _ _ _ _ _› (fun z => by have := q.mp z; omega) (by omega))
    | (have q := bit_one (s := x2) (t := x12) (c := x14) (v := x11) (one := x13) (by assumption) (by assumption) (by omega) (by omega) (by omega) (by omega); exact sai_step (p := x11) (x := x3) ‹SAI _ _ _ _ _ _ _ _› (q.mpr (by omega)) (by assumption) rfl rfl (by omega))
  
def o_Fa_setAll_3 : or_T := (3, 16, [(0, (2, 0, 0, [37])), (1, (0, 1, 24, [])), (2, (0, 0, 16777215, [])), (3, (0, 0, 23, [])), (4, (2, 0, 0, [59])), (5, (0, -2147483648, 2147483647, [])), (6, (0, 0, 23, [])), (7, (2, 0, 0, [37])), (8, (0, 1, 24, [])), (9, (0, 0, 16777215, [])), (10, (0, 0, 23, [])), (11, (0, 0, 23, [])), (12, (0, 0, 16777215, [])), (13, (0, 1, 1, [])), (14, (0, 1, 1, [])), (15, (0, 1, 24, []))], [(6, [15, 11], [1]), (24, [0, 7], []), (24, [1, 8], []), (24, [2, 9], []), (24, [3, 10], []), (100, [7, 11, 10], []), (8, [14], [1]), (12, [14, 12], [2]), (16, [14, 12, 13], [0]), (16, [12, 9, 11], [4]), (7, [11, 8], [2]), (20, [7, 4, 8, 9, 10, 5, 6, 11], [61, 2, 676])], [], [], [(20, [7, 4, 8, 9, 10, 5, 6, 15], [61, 2, 676])], [], [(15, 11, 1, 1), (15, 8, -4294967296, 0), (15, 1, -4294967296, 1), (15, 8, -4294967296, 1), (11, 8, -4294967296, -1), (1, 8, -4294967296, 0), (2, 9, -4294967296, 0), (3, 10, -4294967296, 0), (8, 1, -4294967296, 0), (9, 2, -4294967296, 0), (10, 3, -4294967296, 0), (11, 1, -4294967296, 0), (11, 8, -4294967296, 0)])
theorem oo_Fa_setAll_3 {kA : Nat → ClassId} : or_ok PRD kA GG o_Fa_setAll_3 := by
  refine or_mk fun A ta ws vs hD hth hl => ?_
  intro t0 r0 t1 k1 t2 k2 t3 k3 t4 r4 t5 k5 t6 k6 t7 r7 t8 k8 t9 k9 t10 k10 t11 k11 t12 k12 t13 k13 t14 k14 t15 k15 d0 d1 d2 d3 d4 d5 d6 d7 d8 d9 d10 d11 d12 f0 f1 f2 f3 f4 ta1 w1 le1 s1 f6 f7 f8 f9 f10 f11
  replace f0 := shm_4 f0
  replace f1 := shm_5 f1
  replace f2 := shm_5 f2
  replace f3 := shm_5 f3
  replace f4 := shm_5 f4
  have s1 : (∀ b j, w_el ws b j = if b = v_ad (n_v vs 7) ∧ j = (v_iv (n_v vs 11)).toNat then v_iv (n_v vs 10) else w_el w1 b j) ∧ ∀ b k, w_fd ws b k = w_fd w1 b k := s1.2
  replace f6 := shm_154 f6
  replace f7 := shm_382 f7
  replace f8 := shm_11 f8
  replace f9 := shm_13 f9
  replace f10 := shm_6 f10
  replace f11 := shm_392 f11
  have q7 : n_v vs 7 = n_v vs 0 := f1.symm
  have q8 : n_v vs 8 = n_v vs 1 := f2.symm
  have q9 : n_v vs 9 = n_v vs 2 := f3.symm
  have q10 : n_v vs 10 = n_v vs 3 := f4.symm
  rw [q7] at s1
  rw [q10] at s1
  simp only [q9, q8, q7, q10] at f9 f10 f11
  have cr_0_999 : ta (v_ad (n_v vs 0)) = some 37 := r0
  have cr_4_999 : ta (v_ad (n_v vs 4)) = some 59 := r4
  have ad_0 : v_ad (n_v vs 0) = v_ad (n_v vs 0) := rfl
  have hE_0_999_1 : ∀ j : Int, 0 ≤ j → (j = v_iv (n_v vs 11) → w_ei ws (v_ad (n_v vs 0)) j = v_iv (n_v vs 3)) ∧ (j ≠ v_iv (n_v vs 11) → w_ei ws (v_ad (n_v vs 0)) j = w_ei w1 (v_ad (n_v vs 0)) j) := fun j hj => ⟨fun h => by unfold w_ei; rw [s1.1, if_pos ⟨ad_0.symm, by rw [h]⟩], fun h => by unfold w_ei; rw [s1.1, if_neg (fun e => h (by have := e.2; omega))]⟩
  have hK_0_999 := elq_28 hD hth cr_0_999
  have hE_4_999_1 : ∀ j : Int, w_ei ws (v_ad (n_v vs 4)) j = w_ei w1 (v_ad (n_v vs 4)) j := el_kp s1.1 r0 cr_4_999 (by decide)
  have hK_4_999 := elq_24 hD hth cr_4_999
  have nf0 : fc_1 PRD (20, [7, 4, 8, 9, 10, 5, 6, 15], [61, 2, 676]) ws (vs) := by
    refine ⟨nf_in hl rfl, sgq_392 ?_⟩
    · show SAI (w_ei ws (v_ad (n_v vs 7))) (w_ei ws (v_ad (n_v vs 4))) (v_iv (n_v vs 8)) (v_iv (n_v vs 9)) (v_iv (n_v vs 10)) (v_iv (n_v vs 5)) (v_iv (n_v vs 6)) (v_iv (n_v vs 15))
      simp only [q7, q8, q9, q10]
      exact vc_Fa_setAll_3_0 (v_iv (n_v vs 1)) (v_iv (n_v vs 2)) (v_iv (n_v vs 3)) (v_iv (n_v vs 5)) (v_iv (n_v vs 6)) (v_iv (n_v vs 8)) (v_iv (n_v vs 9)) (v_iv (n_v vs 10)) (v_iv (n_v vs 11)) (v_iv (n_v vs 12)) (v_iv (n_v vs 13)) (v_iv (n_v vs 14)) (v_iv (n_v vs 15)) (w_ei w1 (v_ad (n_v vs 0))) (w_ei w1 (v_ad (n_v vs 4))) (w_ei ws (v_ad (n_v vs 0))) (w_ei ws (v_ad (n_v vs 4))) k1 k2 k3 k5 k6 k8 k9 k10 k11 k12 k13 k14 k15 d0 d1 d2 d3 d4 d5 d6 d7 d8 d9 d10 d11 d12 f0 f6 f7 f8 f9 f10 f11 hE_0_999_1 hK_0_999 hE_4_999_1 hK_4_999
  refine ⟨(fun _ h => (by cases h)), [], trivial, ?_, (fun _ h => (by cases h))⟩
  rw [List.append_nil]
  exact List.forall_mem_cons.mpr ⟨⟨show (20 : Nat) < 100 from by decide, nf0⟩, (fun _ h => (by cases h))⟩
def n_Fa_setAll_an : List an_T := [(3, [(0, (2, 0, 0, [37])), (1, (0, 1, 24, [])), (2, (0, 0, 16777215, [])), (3, (0, 0, 23, [])), (4, (0, 0, 24, []))], [], (0, 0), [(0, 0, 99997), (1, 11, 24), (0, 0, 100000)], [(1, 8, (Int.negSucc 999999999999), 0), (2, 9, (Int.negSucc 999999999999), 0), (3, 10, (Int.negSucc 999999999999), 0), (8, 1, (Int.negSucc 999999999999), 0), (9, 2, (Int.negSucc 999999999999), 0), (10, 3, (Int.negSucc 999999999999), 0), (11, 1, (Int.negSucc 999999999999), 0), (11, 8, (Int.negSucc 999999999999), 0)], [], [(2, 0, 0, [37]), (0, 1, 24, []), (0, 0, 16777215, []), (0, 0, 23, []), (2, 0, 0, [59]), (0, (Int.negSucc 2147483647), 2147483647, []), (0, 0, 23, [])], 0, [], [(20, [7, 4, 8, 9, 10, 5, 6, 11], [61, 2, 676]), (24, [0, 7], []), (24, [1, 8], []), (24, [2, 9], []), (24, [3, 10], [])])]
def t_Fa_setAll_ct : ct_L := []
set_option maxRecDepth 100000 in
theorem c_Fa_setAll {l : Launch} {D : va_G} {kA : Nat → ClassId} : ct_ok PRD l D kA GG y_Fa_setAll z_Fa_setAll e_Fa_setAll := chk_all_ok (FT := []) (PT := []) (CT := t_Fa_setAll_ct) (KT := []) (NT := []) (AN := n_Fa_setAll_an) (OT := [o_Fa_setAll_0, o_Fa_setAll_1, o_Fa_setAll_2, o_Fa_setAll_3]) 3 200 (List.forall_mem_cons.mpr ⟨oo_Fa_setAll_0, List.forall_mem_cons.mpr ⟨oo_Fa_setAll_1, List.forall_mem_cons.mpr ⟨oo_Fa_setAll_2, List.forall_mem_cons.mpr ⟨oo_Fa_setAll_3, List.forall_mem_nil _⟩⟩⟩⟩) (by decide +kernel) ⟨List.forall_mem_nil _, List.forall_mem_nil _, List.forall_mem_nil _, List.forall_mem_nil _, List.forall_mem_nil _, GG_pl⟩ (by decide +kernel)
set_option maxHeartbeats 4000000 in
theorem vc_Gr_edgeBetween_at_Gq_0_0 (x1 : Int) (x2 : Int) (x4 : Int) (x5 : Int) (x6 : Int) (x7 : Int) (link_0 : Int → Int) (k1 : 0 ≤ x1 ∧ x1 ≤ 23) (k2 : 0 ≤ x2 ∧ x2 ≤ 23) (k4 : 24 ≤ x4 ∧ x4 ≤ 24) (k5 : 0 ≤ x5 ∧ x5 ≤ 552) (k6 : 0 ≤ x6 ∧ x6 ≤ 575) (k7 : (-1) ≤ x7 ∧ x7 ≤ 47) (d0 : x2 + 0 ≤ x6 ∧ x6 ≤ x2 + 552) (d1 : x5 + 0 ≤ x6 ∧ x6 ≤ x5 + 23) (h0 : x7 = link_0 (x6)) (f1 : x6 = x5 + x2) (f2 : x5 = x1 * 24) (hK_0_15 : ∀ j : Int, 0 ≤ j → j < 576 → (-1) ≤ link_0 j ∧ link_0 j ≤ 47) : x7 = link_0 (((x1 * 24) + x2)) := by
  first
    | omega
    | (rw [show x1 * 24 + x2 = x6 by omega]; assumption)
  
def o_Gr_edgeBetween_at_Gq_0 : or_T := (11, 8, [(0, (2, 0, 0, [164])), (1, (0, 0, 23, [])), (2, (0, 0, 23, [])), (4, (0, 24, 24, [])), (5, (0, 0, 552, [])), (6, (0, 0, 575, [])), (7, (0, -1, 47, []))], [(10, [7, 3, 6], []), (1, [6, 5, 2], []), (3, [5, 1, 4], []), (9, [3, 0], [15])], [], [], [(20, [7, 0, 1, 2], [50, 0, 1, 1015, 1, 2, 1, 0, 3, 1, 15, 4, 6, 6, 2, 1, 2, 0, 24, 1, 3])], [], [(6, 2, 0, 552), (6, 5, 0, 23)])
theorem oo_Gr_edgeBetween_at_Gq_0 {kA : Nat → ClassId} : or_ok PRD kA GG o_Gr_edgeBetween_at_Gq_0 := by
  refine or_mk fun A ta ws vs hD hth hl => ?_
  intro t0 r0 t1 k1 t2 k2 t4 k4 t5 k5 t6 k6 t7 k7 d0 d1 f0 f1 f2 f3
  replace f0 := shm_106 f0
  replace f2 := shm_38 f2
  rw [show v_iv (n_v vs 4) = 24 from by omega] at f2
  replace f3 := shm_189 f3
  have cr_0_15 := fdq_71 hD hth r0
  have ad_3 : v_ad (n_v vs 3) = w_ar ws (n_v vs 0) 15 := congrArg v_ad f3
  simp only [ad_3] at f0
  have h0 : v_iv (n_v vs 7) = w_ei ws (w_ar ws (n_v vs 0) 15) (v_iv (n_v vs 6)) := f0
  have hK_0_15 := elq_29 hD hth cr_0_15
  have nf0 : fc_1 PRD (20, [7, 0, 1, 2], [50, 0, 1, 1015, 1, 2, 1, 0, 3, 1, 15, 4, 6, 6, 2, 1, 2, 0, 24, 1, 3]) ws (vs) := ⟨nf_in hl rfl, sgq_394 (vc_Gr_edgeBetween_at_Gq_0_0 (v_iv (n_v vs 1)) (v_iv (n_v vs 2)) (v_iv (n_v vs 4)) (v_iv (n_v vs 5)) (v_iv (n_v vs 6)) (v_iv (n_v vs 7)) (w_ei ws (w_ar ws (n_v vs 0) 15)) k1 k2 k4 k5 k6 k7 d0 d1 h0 (shm_12 f1) f2 hK_0_15)⟩
  refine ⟨(fun _ h => (by cases h)), [], trivial, ?_, (fun _ h => (by cases h))⟩
  rw [List.append_nil]
  exact List.forall_mem_cons.mpr ⟨⟨show (20 : Nat) < 100 from by decide, nf0⟩, (fun _ h => (by cases h))⟩
def n_Gr_edgeBetween_at_Gq_an : List an_T := []
def t_Gr_edgeBetween_at_Gq_ct : ct_L := []
set_option maxRecDepth 100000 in
theorem c_Gr_edgeBetween_at_Gq {l : Launch} {D : va_G} {kA : Nat → ClassId} : ct_ok PRD l D kA GG y_Gr_edgeBetween_at_Gq z_Gr_edgeBetween_at_Gq e_Gr_edgeBetween_at_Gq := chk_all_ok (FT := [(59, 3, 15)]) (PT := []) (CT := t_Gr_edgeBetween_at_Gq_ct) (KT := []) (NT := []) (AN := n_Gr_edgeBetween_at_Gq_an) (OT := [o_Gr_edgeBetween_at_Gq_0]) 0 200 (List.forall_mem_cons.mpr ⟨oo_Gr_edgeBetween_at_Gq_0, List.forall_mem_nil _⟩) (by decide +kernel) ⟨List.forall_mem_cons.mpr ⟨gf_Gr_59, List.forall_mem_nil _⟩, List.forall_mem_nil _, List.forall_mem_nil _, List.forall_mem_nil _, List.forall_mem_nil _, GG_pl⟩ (by decide +kernel)
set_option maxHeartbeats 4000000 in
theorem vc_Gr_edgeBetween_at_Gr_0_0 (x1 : Int) (x2 : Int) (x4 : Int) (x5 : Int) (x6 : Int) (x7 : Int) (link_0 : Int → Int) (k1 : 0 ≤ x1 ∧ x1 ≤ 23) (k2 : 0 ≤ x2 ∧ x2 ≤ 23) (k4 : 24 ≤ x4 ∧ x4 ≤ 24) (k5 : 0 ≤ x5 ∧ x5 ≤ 552) (k6 : 0 ≤ x6 ∧ x6 ≤ 575) (k7 : (-1) ≤ x7 ∧ x7 ≤ 47) (d0 : x2 + 0 ≤ x6 ∧ x6 ≤ x2 + 552) (d1 : x5 + 0 ≤ x6 ∧ x6 ≤ x5 + 23) (h0 : x7 = link_0 (x6)) (f1 : x6 = x5 + x2) (f2 : x5 = x1 * 24) (hK_0_15 : ∀ j : Int, 0 ≤ j → j < 576 → (-1) ≤ link_0 j ∧ link_0 j ≤ 47) : x7 = link_0 (((x1 * 24) + x2)) := by
  first
    | omega
    | (rw [show x1 * 24 + x2 = x6 by omega]; assumption)
  
def o_Gr_edgeBetween_at_Gr_0 : or_T := (11, 8, [(0, (2, 0, 0, [3])), (1, (0, 0, 23, [])), (2, (0, 0, 23, [])), (4, (0, 24, 24, [])), (5, (0, 0, 552, [])), (6, (0, 0, 575, [])), (7, (0, -1, 47, []))], [(10, [7, 3, 6], []), (1, [6, 5, 2], []), (3, [5, 1, 4], []), (9, [3, 0], [15])], [], [], [(20, [7, 0, 1, 2], [50, 0, 1, 1015, 1, 2, 1, 0, 3, 1, 15, 4, 6, 6, 2, 1, 2, 0, 24, 1, 3])], [], [(6, 2, 0, 552), (6, 5, 0, 23)])
theorem oo_Gr_edgeBetween_at_Gr_0 {kA : Nat → ClassId} : or_ok PRD kA GG o_Gr_edgeBetween_at_Gr_0 := by
  refine or_mk fun A ta ws vs hD hth hl => ?_
  intro t0 r0 t1 k1 t2 k2 t4 k4 t5 k5 t6 k6 t7 k7 d0 d1 f0 f1 f2 f3
  replace f0 := shm_106 f0
  replace f2 := shm_38 f2
  rw [show v_iv (n_v vs 4) = 24 from by omega] at f2
  replace f3 := shm_189 f3
  have cr_0_15 := fdq_72 hD hth r0
  have ad_3 : v_ad (n_v vs 3) = w_ar ws (n_v vs 0) 15 := congrArg v_ad f3
  simp only [ad_3] at f0
  have h0 : v_iv (n_v vs 7) = w_ei ws (w_ar ws (n_v vs 0) 15) (v_iv (n_v vs 6)) := f0
  have hK_0_15 := elq_30 hD hth cr_0_15
  have nf0 : fc_1 PRD (20, [7, 0, 1, 2], [50, 0, 1, 1015, 1, 2, 1, 0, 3, 1, 15, 4, 6, 6, 2, 1, 2, 0, 24, 1, 3]) ws (vs) := ⟨nf_in hl rfl, sgq_394 (vc_Gr_edgeBetween_at_Gr_0_0 (v_iv (n_v vs 1)) (v_iv (n_v vs 2)) (v_iv (n_v vs 4)) (v_iv (n_v vs 5)) (v_iv (n_v vs 6)) (v_iv (n_v vs 7)) (w_ei ws (w_ar ws (n_v vs 0) 15)) k1 k2 k4 k5 k6 k7 d0 d1 h0 (shm_12 f1) f2 hK_0_15)⟩
  refine ⟨(fun _ h => (by cases h)), [], trivial, ?_, (fun _ h => (by cases h))⟩
  rw [List.append_nil]
  exact List.forall_mem_cons.mpr ⟨⟨show (20 : Nat) < 100 from by decide, nf0⟩, (fun _ h => (by cases h))⟩
def n_Gr_edgeBetween_at_Gr_an : List an_T := []
def t_Gr_edgeBetween_at_Gr_ct : ct_L := []
set_option maxRecDepth 100000 in
theorem c_Gr_edgeBetween_at_Gr {l : Launch} {D : va_G} {kA : Nat → ClassId} : ct_ok PRD l D kA GG y_Gr_edgeBetween_at_Gr z_Gr_edgeBetween_at_Gr e_Gr_edgeBetween_at_Gr := chk_all_ok (FT := [(59, 3, 15)]) (PT := []) (CT := t_Gr_edgeBetween_at_Gr_ct) (KT := []) (NT := []) (AN := n_Gr_edgeBetween_at_Gr_an) (OT := [o_Gr_edgeBetween_at_Gr_0]) 0 200 (List.forall_mem_cons.mpr ⟨oo_Gr_edgeBetween_at_Gr_0, List.forall_mem_nil _⟩) (by decide +kernel) ⟨List.forall_mem_cons.mpr ⟨gf_Gr_59, List.forall_mem_nil _⟩, List.forall_mem_nil _, List.forall_mem_nil _, List.forall_mem_nil _, List.forall_mem_nil _, GG_pl⟩ (by decide +kernel)
set_option maxHeartbeats 4000000 in
theorem vc_Gr_half_0_0 (x1 : Int) (x3 : Int) (x4 : Int) (x5 : Int) (nameLength_0 : Int → Int) (k1 : 0 ≤ x1 ∧ x1 ≤ 23) (k3 : 0 ≤ x3 ∧ x3 ≤ 8) (k4 : 1 ≤ x4 ∧ x4 ≤ 1) (k5 : 1 ≤ x5 ∧ x5 ≤ 9) (d0 : x3 + 1 ≤ x5 ∧ x5 ≤ x3 + 1) (f0 : x5 = x3 + x4) (h1 : x3 = nameLength_0 (x1)) (hK_0_4 : ∀ j : Int, 0 ≤ j → j < 24 → 0 ≤ nameLength_0 j ∧ nameLength_0 j ≤ 8) : x5 = (nameLength_0 (x1) + 1) := by
  first | assumption | (clear hK_0_4; omega) | omega | grind
def o_Gr_half_0 : or_T := (8, 6, [(0, (2, 0, 0, [3])), (1, (0, 0, 23, [])), (3, (0, 0, 8, [])), (4, (0, 1, 1, [])), (5, (0, 1, 9, []))], [(1, [5, 3, 4], []), (10, [3, 2, 1], []), (9, [2, 0], [4])], [], [], [(20, [5, 0, 1], [50, 0, 1, 1004, 1, 2, 1, 0, 4, 5, 3, 1, 4, 1, 2, 0, 1])], [], [(5, 3, 1, 1)])
theorem oo_Gr_half_0 {kA : Nat → ClassId} : or_ok PRD kA GG o_Gr_half_0 := by
  refine or_mk fun A ta ws vs hD hth hl => ?_
  intro t0 r0 t1 k1 t3 k3 t4 k4 t5 k5 d0 f0 f1 f2
  replace f1 := shm_106 f1
  replace f2 := shm_107 f2
  have cr_0_4 := fdq_5 hD hth r0
  have ad_2 : v_ad (n_v vs 2) = w_ar ws (n_v vs 0) 4 := congrArg v_ad f2
  simp only [ad_2] at f1
  have h1 : v_iv (n_v vs 3) = w_ei ws (w_ar ws (n_v vs 0) 4) (v_iv (n_v vs 1)) := f1
  have hK_0_4 := elq_31 hD hth cr_0_4
  have nf0 : fc_1 PRD (20, [5, 0, 1], [50, 0, 1, 1004, 1, 2, 1, 0, 4, 5, 3, 1, 4, 1, 2, 0, 1]) ws (vs) := ⟨nf_in hl rfl, sgq_395 (vc_Gr_half_0_0 (v_iv (n_v vs 1)) (v_iv (n_v vs 3)) (v_iv (n_v vs 4)) (v_iv (n_v vs 5)) (w_ei ws (w_ar ws (n_v vs 0) 4)) k1 k3 k4 k5 d0 (shm_12 f0) h1 hK_0_4)⟩
  refine ⟨(fun _ h => (by cases h)), [], trivial, ?_, (fun _ h => (by cases h))⟩
  rw [List.append_nil]
  exact List.forall_mem_cons.mpr ⟨⟨show (20 : Nat) < 100 from by decide, nf0⟩, (fun _ h => (by cases h))⟩
def n_Gr_half_an : List an_T := []
def t_Gr_half_ct : ct_L := []
set_option maxRecDepth 100000 in
theorem c_Gr_half {l : Launch} {D : va_G} {kA : Nat → ClassId} : ct_ok PRD l D kA GG y_Gr_half z_Gr_half e_Gr_half := chk_all_ok (FT := [(25, 3, 4)]) (PT := []) (CT := t_Gr_half_ct) (KT := []) (NT := []) (AN := n_Gr_half_an) (OT := [o_Gr_half_0]) 0 200 (List.forall_mem_cons.mpr ⟨oo_Gr_half_0, List.forall_mem_nil _⟩) (by decide +kernel) ⟨List.forall_mem_cons.mpr ⟨gf_Gr_25, List.forall_mem_nil _⟩, List.forall_mem_nil _, List.forall_mem_nil _, List.forall_mem_nil _, List.forall_mem_nil _, GG_pl⟩ (by decide +kernel)
set_option maxHeartbeats 4000000 in
theorem vc_Gr_hasEdge_0_0 (x1 : Int) (x2 : Int) (edges_0 : Int) (k1 : (-2147483648) ≤ x1 ∧ x1 ≤ (-1)) (k2 : 0 ≤ x2 ∧ x2 ≤ 0) (f0 : x1 < 0) (kz_0_1 : 0 ≤ edges_0 ∧ edges_0 ≤ 48) : (x2 = 1) → ((0 ≤ x1) ∧ ((x1 + 1) ≤ edges_0)) := by
  first | assumption | omega | grind
set_option maxHeartbeats 4000000 in
theorem vc_Gr_hasEdge_0_1 (x1 : Int) (x2 : Int) (edges_0 : Int) (k1 : (-2147483648) ≤ x1 ∧ x1 ≤ (-1)) (k2 : 0 ≤ x2 ∧ x2 ≤ 0) (f0 : x1 < 0) (kz_0_1 : 0 ≤ edges_0 ∧ edges_0 ≤ 48) : (x2 = 0) → ((x1 ≤ (-1)) ∨ (edges_0 ≤ x1)) := by
  first | assumption | omega | grind
def o_Gr_hasEdge_0 : or_T := (17, 3, [(0, (2, 0, 0, [3])), (1, (0, -2147483648, -1, [])), (2, (0, 0, 0, []))], [(8, [1], [2])], [], [], [(20, [2, 1, 0], [50, 1, 0, 2001, 4, 6, 1, 2, 1, 0, 0, 1, 2, 6, 0, 2, 0, 0, 1, 1, 0, 6, 4, 2, 1, 1, 0, 1, 2, 2, 1]), (20, [2, 1, 0], [50, 1, 0, 2001, 4, 6, 1, 2, 1, 0, 0, 0, 3, 6, 0, 2, 1, 1, 0, -1, 0, 3, 2, 2, 1, 1, 1])], [], [])
theorem oo_Gr_hasEdge_0 {kA : Nat → ClassId} : or_ok PRD kA GG o_Gr_hasEdge_0 := by
  refine or_mk fun A ta ws vs hD hth hl => ?_
  intro t0 r0 t1 k1 t2 k2 f0
  have kz_0_1 := fdq_38 hD hth r0
  have nf0 : fc_1 PRD (20, [2, 1, 0], [50, 1, 0, 2001, 4, 6, 1, 2, 1, 0, 0, 1, 2, 6, 0, 2, 0, 0, 1, 1, 0, 6, 4, 2, 1, 1, 0, 1, 2, 2, 1]) ws (vs) := ⟨nf_in hl rfl, sgq_396 (vc_Gr_hasEdge_0_0 (v_iv (n_v vs 1)) (v_iv (n_v vs 2)) (w_fi ws (n_v vs 0) 1) k1 k2 (shm_39 f0) kz_0_1)⟩
  have nf1 : fc_1 PRD (20, [2, 1, 0], [50, 1, 0, 2001, 4, 6, 1, 2, 1, 0, 0, 0, 3, 6, 0, 2, 1, 1, 0, -1, 0, 3, 2, 2, 1, 1, 1]) ws (vs) := ⟨nf_in hl rfl, sgq_397 (vc_Gr_hasEdge_0_1 (v_iv (n_v vs 1)) (v_iv (n_v vs 2)) (w_fi ws (n_v vs 0) 1) k1 k2 (shm_39 f0) kz_0_1)⟩
  refine ⟨(fun _ h => (by cases h)), [], trivial, ?_, (fun _ h => (by cases h))⟩
  rw [List.append_nil]
  exact List.forall_mem_cons.mpr ⟨⟨show (20 : Nat) < 100 from by decide, nf0⟩, List.forall_mem_cons.mpr ⟨⟨show (20 : Nat) < 100 from by decide, nf1⟩, (fun _ h => (by cases h))⟩⟩
set_option maxHeartbeats 4000000 in
theorem vc_Gr_hasEdge_1_0 (x1 : Int) (x2 : Int) (x3 : Int) (edges_0 : Int) (k1 : 0 ≤ x1 ∧ x1 ≤ 2147483647) (k2 : 0 ≤ x2 ∧ x2 ≤ 48) (k3 : 0 ≤ x3 ∧ x3 ≤ 0) (d0 : x2 + 0 ≤ x1 ∧ x1 ≤ x2 + 4294967296) (f0 : x2 ≤ x1) (g1 : x2 = edges_0) (f2 : 0 ≤ x1) (kz_0_1 : 0 ≤ edges_0 ∧ edges_0 ≤ 48) : (x3 = 1) → ((0 ≤ x1) ∧ ((x1 + 1) ≤ edges_0)) := by
  first | assumption | omega | grind
set_option maxHeartbeats 4000000 in
theorem vc_Gr_hasEdge_1_1 (x1 : Int) (x2 : Int) (x3 : Int) (edges_0 : Int) (k1 : 0 ≤ x1 ∧ x1 ≤ 2147483647) (k2 : 0 ≤ x2 ∧ x2 ≤ 48) (k3 : 0 ≤ x3 ∧ x3 ≤ 0) (d0 : x2 + 0 ≤ x1 ∧ x1 ≤ x2 + 4294967296) (f0 : x2 ≤ x1) (g1 : x2 = edges_0) (f2 : 0 ≤ x1) (kz_0_1 : 0 ≤ edges_0 ∧ edges_0 ≤ 48) : (x3 = 0) → ((x1 ≤ (-1)) ∨ (edges_0 ≤ x1)) := by
  first | assumption | omega | grind
def o_Gr_hasEdge_1 : or_T := (17, 4, [(0, (2, 0, 0, [3])), (1, (0, 0, 2147483647, [])), (2, (0, 0, 48, [])), (3, (0, 0, 0, []))], [(7, [1, 2], [3]), (9, [2, 0], [1]), (8, [1], [3])], [], [], [(20, [3, 1, 0], [50, 1, 0, 2001, 4, 6, 1, 2, 1, 0, 0, 1, 2, 6, 0, 2, 0, 0, 1, 1, 0, 6, 4, 2, 1, 1, 0, 1, 2, 2, 1]), (20, [3, 1, 0], [50, 1, 0, 2001, 4, 6, 1, 2, 1, 0, 0, 0, 3, 6, 0, 2, 1, 1, 0, -1, 0, 3, 2, 2, 1, 1, 1])], [], [(1, 2, 0, 4294967296)])
theorem oo_Gr_hasEdge_1 {kA : Nat → ClassId} : or_ok PRD kA GG o_Gr_hasEdge_1 := by
  refine or_mk fun A ta ws vs hD hth hl => ?_
  intro t0 r0 t1 k1 t2 k2 t3 k3 d0 f0 f1 f2
  replace f1 := shm_127 f1
  have g1 : v_iv (n_v vs 2) = w_fi ws (n_v vs 0) 1 := congrArg v_iv f1
  have kz_0_1 := fdq_38 hD hth r0
  have nf0 : fc_1 PRD (20, [3, 1, 0], [50, 1, 0, 2001, 4, 6, 1, 2, 1, 0, 0, 1, 2, 6, 0, 2, 0, 0, 1, 1, 0, 6, 4, 2, 1, 1, 0, 1, 2, 2, 1]) ws (vs) := ⟨nf_in hl rfl, sgq_396 (vc_Gr_hasEdge_1_0 (v_iv (n_v vs 1)) (v_iv (n_v vs 2)) (v_iv (n_v vs 3)) (w_fi ws (n_v vs 0) 1) k1 k2 k3 d0 (shm_2 f0) g1 (shm_32 f2) kz_0_1)⟩
  have nf1 : fc_1 PRD (20, [3, 1, 0], [50, 1, 0, 2001, 4, 6, 1, 2, 1, 0, 0, 0, 3, 6, 0, 2, 1, 1, 0, -1, 0, 3, 2, 2, 1, 1, 1]) ws (vs) := ⟨nf_in hl rfl, sgq_397 (vc_Gr_hasEdge_1_1 (v_iv (n_v vs 1)) (v_iv (n_v vs 2)) (v_iv (n_v vs 3)) (w_fi ws (n_v vs 0) 1) k1 k2 k3 d0 (shm_2 f0) g1 (shm_32 f2) kz_0_1)⟩
  refine ⟨(fun _ h => (by cases h)), [], trivial, ?_, (fun _ h => (by cases h))⟩
  rw [List.append_nil]
  exact List.forall_mem_cons.mpr ⟨⟨show (20 : Nat) < 100 from by decide, nf0⟩, List.forall_mem_cons.mpr ⟨⟨show (20 : Nat) < 100 from by decide, nf1⟩, (fun _ h => (by cases h))⟩⟩
set_option maxHeartbeats 4000000 in
theorem vc_Gr_hasEdge_2_0 (x1 : Int) (x2 : Int) (x3 : Int) (edges_0 : Int) (k1 : 0 ≤ x1 ∧ x1 ≤ 47) (k2 : 1 ≤ x2 ∧ x2 ≤ 48) (k3 : 1 ≤ x3 ∧ x3 ≤ 1) (d0 : x2 + (-4294967296) ≤ x1 ∧ x1 ≤ x2 + (-1)) (f0 : x1 < x2) (g1 : x2 = edges_0) (f2 : 0 ≤ x1) (kz_0_1 : 0 ≤ edges_0 ∧ edges_0 ≤ 48) : (x3 = 1) → ((0 ≤ x1) ∧ ((x1 + 1) ≤ edges_0)) := by
  first | assumption | omega | grind
set_option maxHeartbeats 4000000 in
theorem vc_Gr_hasEdge_2_1 (x1 : Int) (x2 : Int) (x3 : Int) (edges_0 : Int) (k1 : 0 ≤ x1 ∧ x1 ≤ 47) (k2 : 1 ≤ x2 ∧ x2 ≤ 48) (k3 : 1 ≤ x3 ∧ x3 ≤ 1) (d0 : x2 + (-4294967296) ≤ x1 ∧ x1 ≤ x2 + (-1)) (f0 : x1 < x2) (g1 : x2 = edges_0) (f2 : 0 ≤ x1) (kz_0_1 : 0 ≤ edges_0 ∧ edges_0 ≤ 48) : (x3 = 0) → ((x1 ≤ (-1)) ∨ (edges_0 ≤ x1)) := by
  first | assumption | omega | grind
def o_Gr_hasEdge_2 : or_T := (17, 4, [(0, (2, 0, 0, [3])), (1, (0, 0, 47, [])), (2, (0, 1, 48, [])), (3, (0, 1, 1, []))], [(7, [1, 2], [2]), (9, [2, 0], [1]), (8, [1], [3])], [], [], [(20, [3, 1, 0], [50, 1, 0, 2001, 4, 6, 1, 2, 1, 0, 0, 1, 2, 6, 0, 2, 0, 0, 1, 1, 0, 6, 4, 2, 1, 1, 0, 1, 2, 2, 1]), (20, [3, 1, 0], [50, 1, 0, 2001, 4, 6, 1, 2, 1, 0, 0, 0, 3, 6, 0, 2, 1, 1, 0, -1, 0, 3, 2, 2, 1, 1, 1])], [], [(1, 2, -4294967296, -1)])
theorem oo_Gr_hasEdge_2 {kA : Nat → ClassId} : or_ok PRD kA GG o_Gr_hasEdge_2 := by
  refine or_mk fun A ta ws vs hD hth hl => ?_
  intro t0 r0 t1 k1 t2 k2 t3 k3 d0 f0 f1 f2
  replace f1 := shm_127 f1
  have g1 : v_iv (n_v vs 2) = w_fi ws (n_v vs 0) 1 := congrArg v_iv f1
  have kz_0_1 := fdq_38 hD hth r0
  have nf0 : fc_1 PRD (20, [3, 1, 0], [50, 1, 0, 2001, 4, 6, 1, 2, 1, 0, 0, 1, 2, 6, 0, 2, 0, 0, 1, 1, 0, 6, 4, 2, 1, 1, 0, 1, 2, 2, 1]) ws (vs) := ⟨nf_in hl rfl, sgq_396 (vc_Gr_hasEdge_2_0 (v_iv (n_v vs 1)) (v_iv (n_v vs 2)) (v_iv (n_v vs 3)) (w_fi ws (n_v vs 0) 1) k1 k2 k3 d0 (shm_6 f0) g1 (shm_32 f2) kz_0_1)⟩
  have nf1 : fc_1 PRD (20, [3, 1, 0], [50, 1, 0, 2001, 4, 6, 1, 2, 1, 0, 0, 0, 3, 6, 0, 2, 1, 1, 0, -1, 0, 3, 2, 2, 1, 1, 1]) ws (vs) := ⟨nf_in hl rfl, sgq_397 (vc_Gr_hasEdge_2_1 (v_iv (n_v vs 1)) (v_iv (n_v vs 2)) (v_iv (n_v vs 3)) (w_fi ws (n_v vs 0) 1) k1 k2 k3 d0 (shm_6 f0) g1 (shm_32 f2) kz_0_1)⟩
  refine ⟨(fun _ h => (by cases h)), [], trivial, ?_, (fun _ h => (by cases h))⟩
  rw [List.append_nil]
  exact List.forall_mem_cons.mpr ⟨⟨show (20 : Nat) < 100 from by decide, nf0⟩, List.forall_mem_cons.mpr ⟨⟨show (20 : Nat) < 100 from by decide, nf1⟩, (fun _ h => (by cases h))⟩⟩
def n_Gr_hasEdge_an : List an_T := []
def t_Gr_hasEdge_ct : ct_L := []
set_option maxRecDepth 100000 in
theorem c_Gr_hasEdge {l : Launch} {D : va_G} {kA : Nat → ClassId} : ct_ok PRD l D kA GG y_Gr_hasEdge z_Gr_hasEdge e_Gr_hasEdge := chk_all_ok (FT := [(15, 3, 1)]) (PT := []) (CT := t_Gr_hasEdge_ct) (KT := []) (NT := []) (AN := n_Gr_hasEdge_an) (OT := [o_Gr_hasEdge_0, o_Gr_hasEdge_1, o_Gr_hasEdge_2]) 0 200 (List.forall_mem_cons.mpr ⟨oo_Gr_hasEdge_0, List.forall_mem_cons.mpr ⟨oo_Gr_hasEdge_1, List.forall_mem_cons.mpr ⟨oo_Gr_hasEdge_2, List.forall_mem_nil _⟩⟩⟩) (by decide +kernel) ⟨List.forall_mem_cons.mpr ⟨gf_Gr_15, List.forall_mem_nil _⟩, List.forall_mem_nil _, List.forall_mem_nil _, List.forall_mem_nil _, List.forall_mem_nil _, GG_pl⟩ (by decide +kernel)
set_option maxHeartbeats 4000000 in
theorem vc_Gr_hasGroup_0_0 (x1 : Int) (x2 : Int) (groups_0 : Int) (k1 : (-2147483648) ≤ x1 ∧ x1 ≤ (-1)) (k2 : 0 ≤ x2 ∧ x2 ≤ 0) (f0 : x1 < 0) (kz_0_2 : 0 ≤ groups_0 ∧ groups_0 ≤ 8) : (x2 = 1) → ((0 ≤ x1) ∧ ((x1 + 1) ≤ groups_0)) := by
  first | assumption | omega | grind
def o_Gr_hasGroup_0 : or_T := (17, 3, [(0, (2, 0, 0, [3])), (1, (0, -2147483648, -1, [])), (2, (0, 0, 0, []))], [(8, [1], [2])], [], [], [(20, [2, 1, 0], [50, 1, 0, 2002, 4, 6, 1, 2, 1, 0, 0, 1, 2, 6, 0, 2, 0, 0, 1, 1, 0, 6, 4, 2, 1, 1, 0, 1, 2, 2, 2])], [], [])
theorem oo_Gr_hasGroup_0 {kA : Nat → ClassId} : or_ok PRD kA GG o_Gr_hasGroup_0 := by
  refine or_mk fun A ta ws vs hD hth hl => ?_
  intro t0 r0 t1 k1 t2 k2 f0
  have kz_0_2 := fdq_22 hD hth r0
  have nf0 : fc_1 PRD (20, [2, 1, 0], [50, 1, 0, 2002, 4, 6, 1, 2, 1, 0, 0, 1, 2, 6, 0, 2, 0, 0, 1, 1, 0, 6, 4, 2, 1, 1, 0, 1, 2, 2, 2]) ws (vs) := ⟨nf_in hl rfl, sgq_398 (vc_Gr_hasGroup_0_0 (v_iv (n_v vs 1)) (v_iv (n_v vs 2)) (w_fi ws (n_v vs 0) 2) k1 k2 (shm_39 f0) kz_0_2)⟩
  refine ⟨(fun _ h => (by cases h)), [], trivial, ?_, (fun _ h => (by cases h))⟩
  rw [List.append_nil]
  exact List.forall_mem_cons.mpr ⟨⟨show (20 : Nat) < 100 from by decide, nf0⟩, (fun _ h => (by cases h))⟩
set_option maxHeartbeats 4000000 in
theorem vc_Gr_hasGroup_1_0 (x1 : Int) (x2 : Int) (x3 : Int) (groups_0 : Int) (k1 : 0 ≤ x1 ∧ x1 ≤ 2147483647) (k2 : 0 ≤ x2 ∧ x2 ≤ 8) (k3 : 0 ≤ x3 ∧ x3 ≤ 0) (d0 : x2 + 0 ≤ x1 ∧ x1 ≤ x2 + 4294967296) (f0 : x2 ≤ x1) (g1 : x2 = groups_0) (f2 : 0 ≤ x1) (kz_0_2 : 0 ≤ groups_0 ∧ groups_0 ≤ 8) : (x3 = 1) → ((0 ≤ x1) ∧ ((x1 + 1) ≤ groups_0)) := by
  first | assumption | omega | grind
def o_Gr_hasGroup_1 : or_T := (17, 4, [(0, (2, 0, 0, [3])), (1, (0, 0, 2147483647, [])), (2, (0, 0, 8, [])), (3, (0, 0, 0, []))], [(7, [1, 2], [3]), (9, [2, 0], [2]), (8, [1], [3])], [], [], [(20, [3, 1, 0], [50, 1, 0, 2002, 4, 6, 1, 2, 1, 0, 0, 1, 2, 6, 0, 2, 0, 0, 1, 1, 0, 6, 4, 2, 1, 1, 0, 1, 2, 2, 2])], [], [(1, 2, 0, 4294967296)])
theorem oo_Gr_hasGroup_1 {kA : Nat → ClassId} : or_ok PRD kA GG o_Gr_hasGroup_1 := by
  refine or_mk fun A ta ws vs hD hth hl => ?_
  intro t0 r0 t1 k1 t2 k2 t3 k3 d0 f0 f1 f2
  replace f1 := shm_129 f1
  have g1 : v_iv (n_v vs 2) = w_fi ws (n_v vs 0) 2 := congrArg v_iv f1
  have kz_0_2 := fdq_22 hD hth r0
  have nf0 : fc_1 PRD (20, [3, 1, 0], [50, 1, 0, 2002, 4, 6, 1, 2, 1, 0, 0, 1, 2, 6, 0, 2, 0, 0, 1, 1, 0, 6, 4, 2, 1, 1, 0, 1, 2, 2, 2]) ws (vs) := ⟨nf_in hl rfl, sgq_398 (vc_Gr_hasGroup_1_0 (v_iv (n_v vs 1)) (v_iv (n_v vs 2)) (v_iv (n_v vs 3)) (w_fi ws (n_v vs 0) 2) k1 k2 k3 d0 (shm_2 f0) g1 (shm_32 f2) kz_0_2)⟩
  refine ⟨(fun _ h => (by cases h)), [], trivial, ?_, (fun _ h => (by cases h))⟩
  rw [List.append_nil]
  exact List.forall_mem_cons.mpr ⟨⟨show (20 : Nat) < 100 from by decide, nf0⟩, (fun _ h => (by cases h))⟩
set_option maxHeartbeats 4000000 in
theorem vc_Gr_hasGroup_2_0 (x1 : Int) (x2 : Int) (x3 : Int) (groups_0 : Int) (k1 : 0 ≤ x1 ∧ x1 ≤ 7) (k2 : 1 ≤ x2 ∧ x2 ≤ 8) (k3 : 1 ≤ x3 ∧ x3 ≤ 1) (d0 : x2 + (-4294967296) ≤ x1 ∧ x1 ≤ x2 + (-1)) (f0 : x1 < x2) (g1 : x2 = groups_0) (f2 : 0 ≤ x1) (kz_0_2 : 0 ≤ groups_0 ∧ groups_0 ≤ 8) : (x3 = 1) → ((0 ≤ x1) ∧ ((x1 + 1) ≤ groups_0)) := by
  first | assumption | omega | grind
def o_Gr_hasGroup_2 : or_T := (17, 4, [(0, (2, 0, 0, [3])), (1, (0, 0, 7, [])), (2, (0, 1, 8, [])), (3, (0, 1, 1, []))], [(7, [1, 2], [2]), (9, [2, 0], [2]), (8, [1], [3])], [], [], [(20, [3, 1, 0], [50, 1, 0, 2002, 4, 6, 1, 2, 1, 0, 0, 1, 2, 6, 0, 2, 0, 0, 1, 1, 0, 6, 4, 2, 1, 1, 0, 1, 2, 2, 2])], [], [(1, 2, -4294967296, -1)])
theorem oo_Gr_hasGroup_2 {kA : Nat → ClassId} : or_ok PRD kA GG o_Gr_hasGroup_2 := by
  refine or_mk fun A ta ws vs hD hth hl => ?_
  intro t0 r0 t1 k1 t2 k2 t3 k3 d0 f0 f1 f2
  replace f1 := shm_129 f1
  have g1 : v_iv (n_v vs 2) = w_fi ws (n_v vs 0) 2 := congrArg v_iv f1
  have kz_0_2 := fdq_22 hD hth r0
  have nf0 : fc_1 PRD (20, [3, 1, 0], [50, 1, 0, 2002, 4, 6, 1, 2, 1, 0, 0, 1, 2, 6, 0, 2, 0, 0, 1, 1, 0, 6, 4, 2, 1, 1, 0, 1, 2, 2, 2]) ws (vs) := ⟨nf_in hl rfl, sgq_398 (vc_Gr_hasGroup_2_0 (v_iv (n_v vs 1)) (v_iv (n_v vs 2)) (v_iv (n_v vs 3)) (w_fi ws (n_v vs 0) 2) k1 k2 k3 d0 (shm_6 f0) g1 (shm_32 f2) kz_0_2)⟩
  refine ⟨(fun _ h => (by cases h)), [], trivial, ?_, (fun _ h => (by cases h))⟩
  rw [List.append_nil]
  exact List.forall_mem_cons.mpr ⟨⟨show (20 : Nat) < 100 from by decide, nf0⟩, (fun _ h => (by cases h))⟩
def n_Gr_hasGroup_an : List an_T := []
def t_Gr_hasGroup_ct : ct_L := []
set_option maxRecDepth 100000 in
theorem c_Gr_hasGroup {l : Launch} {D : va_G} {kA : Nat → ClassId} : ct_ok PRD l D kA GG y_Gr_hasGroup z_Gr_hasGroup e_Gr_hasGroup := chk_all_ok (FT := [(18, 3, 2)]) (PT := []) (CT := t_Gr_hasGroup_ct) (KT := []) (NT := []) (AN := n_Gr_hasGroup_an) (OT := [o_Gr_hasGroup_0, o_Gr_hasGroup_1, o_Gr_hasGroup_2]) 0 200 (List.forall_mem_cons.mpr ⟨oo_Gr_hasGroup_0, List.forall_mem_cons.mpr ⟨oo_Gr_hasGroup_1, List.forall_mem_cons.mpr ⟨oo_Gr_hasGroup_2, List.forall_mem_nil _⟩⟩⟩) (by decide +kernel) ⟨List.forall_mem_cons.mpr ⟨gf_Gr_18, List.forall_mem_nil _⟩, List.forall_mem_nil _, List.forall_mem_nil _, List.forall_mem_nil _, List.forall_mem_nil _, GG_pl⟩ (by decide +kernel)
set_option maxHeartbeats 4000000 in
theorem vc_Gr_hasNode_0_0 (x1 : Int) (x2 : Int) (nodes_0 : Int) (k1 : (-2147483648) ≤ x1 ∧ x1 ≤ (-1)) (k2 : 0 ≤ x2 ∧ x2 ≤ 0) (f0 : x1 < 0) (kz_0_0 : 0 ≤ nodes_0 ∧ nodes_0 ≤ 24) : (x2 = 1) → ((0 ≤ x1) ∧ ((x1 + 1) ≤ nodes_0)) := by
  first | assumption | omega | grind
def o_Gr_hasNode_0 : or_T := (17, 3, [(0, (2, 0, 0, [3])), (1, (0, -2147483648, -1, [])), (2, (0, 0, 0, []))], [(8, [1], [2])], [], [], [(20, [2, 1, 0], [50, 1, 0, 2000, 4, 6, 1, 2, 1, 0, 0, 1, 2, 6, 0, 2, 0, 0, 1, 1, 0, 6, 4, 2, 1, 1, 0, 1, 2, 2, 0])], [], [])
theorem oo_Gr_hasNode_0 {kA : Nat → ClassId} : or_ok PRD kA GG o_Gr_hasNode_0 := by
  refine or_mk fun A ta ws vs hD hth hl => ?_
  intro t0 r0 t1 k1 t2 k2 f0
  have kz_0_0 := fdq_23 hD hth r0
  have nf0 : fc_1 PRD (20, [2, 1, 0], [50, 1, 0, 2000, 4, 6, 1, 2, 1, 0, 0, 1, 2, 6, 0, 2, 0, 0, 1, 1, 0, 6, 4, 2, 1, 1, 0, 1, 2, 2, 0]) ws (vs) := ⟨nf_in hl rfl, sgq_399 (vc_Gr_hasNode_0_0 (v_iv (n_v vs 1)) (v_iv (n_v vs 2)) (w_fi ws (n_v vs 0) 0) k1 k2 (shm_39 f0) kz_0_0)⟩
  refine ⟨(fun _ h => (by cases h)), [], trivial, ?_, (fun _ h => (by cases h))⟩
  rw [List.append_nil]
  exact List.forall_mem_cons.mpr ⟨⟨show (20 : Nat) < 100 from by decide, nf0⟩, (fun _ h => (by cases h))⟩
set_option maxHeartbeats 4000000 in
theorem vc_Gr_hasNode_1_0 (x1 : Int) (x2 : Int) (x3 : Int) (nodes_0 : Int) (k1 : 0 ≤ x1 ∧ x1 ≤ 2147483647) (k2 : 0 ≤ x2 ∧ x2 ≤ 24) (k3 : 0 ≤ x3 ∧ x3 ≤ 0) (d0 : x2 + 0 ≤ x1 ∧ x1 ≤ x2 + 4294967296) (f0 : x2 ≤ x1) (g1 : x2 = nodes_0) (f2 : 0 ≤ x1) (kz_0_0 : 0 ≤ nodes_0 ∧ nodes_0 ≤ 24) : (x3 = 1) → ((0 ≤ x1) ∧ ((x1 + 1) ≤ nodes_0)) := by
  first | assumption | omega | grind
def o_Gr_hasNode_1 : or_T := (17, 4, [(0, (2, 0, 0, [3])), (1, (0, 0, 2147483647, [])), (2, (0, 0, 24, [])), (3, (0, 0, 0, []))], [(7, [1, 2], [3]), (9, [2, 0], [0]), (8, [1], [3])], [], [], [(20, [3, 1, 0], [50, 1, 0, 2000, 4, 6, 1, 2, 1, 0, 0, 1, 2, 6, 0, 2, 0, 0, 1, 1, 0, 6, 4, 2, 1, 1, 0, 1, 2, 2, 0])], [], [(1, 2, 0, 4294967296)])
theorem oo_Gr_hasNode_1 {kA : Nat → ClassId} : or_ok PRD kA GG o_Gr_hasNode_1 := by
  refine or_mk fun A ta ws vs hD hth hl => ?_
  intro t0 r0 t1 k1 t2 k2 t3 k3 d0 f0 f1 f2
  replace f1 := shm_175 f1
  have g1 : v_iv (n_v vs 2) = w_fi ws (n_v vs 0) 0 := congrArg v_iv f1
  have kz_0_0 := fdq_23 hD hth r0
  have nf0 : fc_1 PRD (20, [3, 1, 0], [50, 1, 0, 2000, 4, 6, 1, 2, 1, 0, 0, 1, 2, 6, 0, 2, 0, 0, 1, 1, 0, 6, 4, 2, 1, 1, 0, 1, 2, 2, 0]) ws (vs) := ⟨nf_in hl rfl, sgq_399 (vc_Gr_hasNode_1_0 (v_iv (n_v vs 1)) (v_iv (n_v vs 2)) (v_iv (n_v vs 3)) (w_fi ws (n_v vs 0) 0) k1 k2 k3 d0 (shm_2 f0) g1 (shm_32 f2) kz_0_0)⟩
  refine ⟨(fun _ h => (by cases h)), [], trivial, ?_, (fun _ h => (by cases h))⟩
  rw [List.append_nil]
  exact List.forall_mem_cons.mpr ⟨⟨show (20 : Nat) < 100 from by decide, nf0⟩, (fun _ h => (by cases h))⟩
set_option maxHeartbeats 4000000 in
theorem vc_Gr_hasNode_2_0 (x1 : Int) (x2 : Int) (x3 : Int) (nodes_0 : Int) (k1 : 0 ≤ x1 ∧ x1 ≤ 23) (k2 : 1 ≤ x2 ∧ x2 ≤ 24) (k3 : 1 ≤ x3 ∧ x3 ≤ 1) (d0 : x2 + (-4294967296) ≤ x1 ∧ x1 ≤ x2 + (-1)) (f0 : x1 < x2) (g1 : x2 = nodes_0) (f2 : 0 ≤ x1) (kz_0_0 : 0 ≤ nodes_0 ∧ nodes_0 ≤ 24) : (x3 = 1) → ((0 ≤ x1) ∧ ((x1 + 1) ≤ nodes_0)) := by
  first | assumption | omega | grind
def o_Gr_hasNode_2 : or_T := (17, 4, [(0, (2, 0, 0, [3])), (1, (0, 0, 23, [])), (2, (0, 1, 24, [])), (3, (0, 1, 1, []))], [(7, [1, 2], [2]), (9, [2, 0], [0]), (8, [1], [3])], [], [], [(20, [3, 1, 0], [50, 1, 0, 2000, 4, 6, 1, 2, 1, 0, 0, 1, 2, 6, 0, 2, 0, 0, 1, 1, 0, 6, 4, 2, 1, 1, 0, 1, 2, 2, 0])], [], [(1, 2, -4294967296, -1)])
theorem oo_Gr_hasNode_2 {kA : Nat → ClassId} : or_ok PRD kA GG o_Gr_hasNode_2 := by
  refine or_mk fun A ta ws vs hD hth hl => ?_
  intro t0 r0 t1 k1 t2 k2 t3 k3 d0 f0 f1 f2
  replace f1 := shm_175 f1
  have g1 : v_iv (n_v vs 2) = w_fi ws (n_v vs 0) 0 := congrArg v_iv f1
  have kz_0_0 := fdq_23 hD hth r0
  have nf0 : fc_1 PRD (20, [3, 1, 0], [50, 1, 0, 2000, 4, 6, 1, 2, 1, 0, 0, 1, 2, 6, 0, 2, 0, 0, 1, 1, 0, 6, 4, 2, 1, 1, 0, 1, 2, 2, 0]) ws (vs) := ⟨nf_in hl rfl, sgq_399 (vc_Gr_hasNode_2_0 (v_iv (n_v vs 1)) (v_iv (n_v vs 2)) (v_iv (n_v vs 3)) (w_fi ws (n_v vs 0) 0) k1 k2 k3 d0 (shm_6 f0) g1 (shm_32 f2) kz_0_0)⟩
  refine ⟨(fun _ h => (by cases h)), [], trivial, ?_, (fun _ h => (by cases h))⟩
  rw [List.append_nil]
  exact List.forall_mem_cons.mpr ⟨⟨show (20 : Nat) < 100 from by decide, nf0⟩, (fun _ h => (by cases h))⟩
def n_Gr_hasNode_an : List an_T := []
def t_Gr_hasNode_ct : ct_L := []
set_option maxRecDepth 100000 in
theorem c_Gr_hasNode {l : Launch} {D : va_G} {kA : Nat → ClassId} : ct_ok PRD l D kA GG y_Gr_hasNode z_Gr_hasNode e_Gr_hasNode := chk_all_ok (FT := [(9, 3, 0)]) (PT := []) (CT := t_Gr_hasNode_ct) (KT := []) (NT := []) (AN := n_Gr_hasNode_an) (OT := [o_Gr_hasNode_0, o_Gr_hasNode_1, o_Gr_hasNode_2]) 0 200 (List.forall_mem_cons.mpr ⟨oo_Gr_hasNode_0, List.forall_mem_cons.mpr ⟨oo_Gr_hasNode_1, List.forall_mem_cons.mpr ⟨oo_Gr_hasNode_2, List.forall_mem_nil _⟩⟩⟩) (by decide +kernel) ⟨List.forall_mem_cons.mpr ⟨gf_Gr_9, List.forall_mem_nil _⟩, List.forall_mem_nil _, List.forall_mem_nil _, List.forall_mem_nil _, List.forall_mem_nil _, GG_pl⟩ (by decide +kernel)
set_option maxHeartbeats 4000000 in
theorem vc_Gr_sizeOfGroup_0_0 (x2 : Int) (x3 : Int) (k2 : 0 ≤ x2 ∧ x2 ≤ 0) (k3 : 0 ≤ x3 ∧ x3 ≤ 0) : ((0 ≤ x2) ∧ (0 ≤ x3)) ∧ (x2 ≤ (99 * x3)) := by
  first | assumption | omega | grind
def o_Gr_sizeOfGroup_0 : or_T := (4, 4, [(2, (0, 0, 0, [])), (3, (0, 0, 0, []))], [], [], [], [(20, [2, 3], [50, 0, 0, 2, 14, 2, 6, 0, 2, 0, 0, 1, 0, 0, 2, 0, 0, 1, 1, 0, 2, 1, 0, 6, 2, 0, 99, 1, 1])], [], [])
theorem oo_Gr_sizeOfGroup_0 {kA : Nat → ClassId} : or_ok PRD kA GG o_Gr_sizeOfGroup_0 := by
  refine or_mk fun A ta ws vs hD hth hl => ?_
  intro t2 k2 t3 k3
  have nf0 : fc_1 PRD (20, [2, 3], [50, 0, 0, 2, 14, 2, 6, 0, 2, 0, 0, 1, 0, 0, 2, 0, 0, 1, 1, 0, 2, 1, 0, 6, 2, 0, 99, 1, 1]) ws (vs) := ⟨nf_in hl rfl, sgq_400 (vc_Gr_sizeOfGroup_0_0 (v_iv (n_v vs 2)) (v_iv (n_v vs 3)) k2 k3)⟩
  refine ⟨(fun _ h => (by cases h)), [], trivial, ?_, (fun _ h => (by cases h))⟩
  rw [List.append_nil]
  exact List.forall_mem_cons.mpr ⟨⟨show (20 : Nat) < 100 from by decide, nf0⟩, (fun _ h => (by cases h))⟩
set_option maxHeartbeats 4000000 in
theorem vc_Gr_sizeOfGroup_1_r0 (x2 : Int) (x3 : Int) (x4 : Int) (nodes_0 : Int) (k2 : 0 ≤ x2 ∧ x2 ≤ 4095) (k3 : 0 ≤ x3 ∧ x3 ≤ 24) (k4 : 0 ≤ x4 ∧ x4 ≤ 24) (d0 : x4 + 0 ≤ x3 ∧ x3 ≤ x4 + 4294967296) (f0 : x4 ≤ x3) (g1 : x4 = nodes_0) (f2 : ((0 ≤ x2) ∧ (0 ≤ x3)) ∧ (x2 ≤ (99 * x3))) (kz_0_0 : 0 ≤ nodes_0 ∧ nodes_0 ≤ 24) : 0 ≤ x2 ∧ x2 ≤ 2376 := by
  first | assumption | omega | grind
def o_Gr_sizeOfGroup_1 : or_T := (73, 5, [(0, (2, 0, 0, [3])), (2, (0, 0, 4095, [])), (3, (0, 0, 24, [])), (4, (0, 0, 24, []))], [(7, [3, 4], [3]), (9, [4, 0], [0]), (20, [2, 3], [50, 0, 0, 2, 14, 2, 6, 0, 2, 0, 0, 1, 0, 0, 2, 0, 0, 1, 1, 0, 2, 1, 0, 6, 2, 0, 99, 1, 1])], [(2, (0, 0, 2376, []))], [], [], [], [(3, 4, 0, 4294967296)])
theorem oo_Gr_sizeOfGroup_1 {kA : Nat → ClassId} : or_ok PRD kA GG o_Gr_sizeOfGroup_1 := by
  refine or_mk fun A ta ws vs hD hth hl => ?_
  intro t0 r0 t2 k2 t3 k3 t4 k4 d0 f0 f1 f2
  replace f1 := shm_175 f1
  have g1 : v_iv (n_v vs 4) = w_fi ws (n_v vs 0) 0 := congrArg v_iv f1
  have kz_0_0 := fdq_23 hD hth r0
  have hrf0 : 0 ≤ v_iv (n_v vs 2) ∧ v_iv (n_v vs 2) ≤ 2376 := vc_Gr_sizeOfGroup_1_r0 (v_iv (n_v vs 2)) (v_iv (n_v vs 3)) (v_iv (n_v vs 4)) (w_fi ws (n_v vs 0) 0) k2 k3 k4 d0 (shm_2 f0) g1 (shm_400 f2) kz_0_0
  have rf2 : tv_ok ta (0, 0, 2376, []) (n_v vs 2) := tv_in t2 (by first | omega | grind) (by first | omega | grind)
  refine ⟨List.forall_mem_cons.mpr ⟨rf2, (fun _ h => (by cases h))⟩, [], trivial, ?_, (fun _ h => (by cases h))⟩
  rw [List.append_nil]
  exact (fun _ h => (by cases h))
set_option maxHeartbeats 4000000 in
theorem vc_Gr_sizeOfGroup_2_0 (x2 : Int) (x3 : Int) (x7 : Int) (k2 : 0 ≤ x2 ∧ x2 ≤ 4095) (k3 : 0 ≤ x3 ∧ x3 ≤ 23) (k7 : 1 ≤ x7 ∧ x7 ≤ 24) (d0 : x3 + 1 ≤ x7 ∧ x7 ≤ x3 + 1) (f0 : x7 = x3 + 1) (f1 : ((0 ≤ x2) ∧ (0 ≤ x3)) ∧ (x2 ≤ (99 * x3))) : ((0 ≤ x2) ∧ (0 ≤ x7)) ∧ (x2 ≤ (99 * x7)) := by
  first | assumption | omega | grind
def o_Gr_sizeOfGroup_2 : or_T := (4, 8, [(2, (0, 0, 4095, [])), (3, (0, 0, 23, [])), (7, (0, 1, 24, []))], [(6, [7, 3], [1]), (20, [2, 3], [50, 0, 0, 2, 14, 2, 6, 0, 2, 0, 0, 1, 0, 0, 2, 0, 0, 1, 1, 0, 2, 1, 0, 6, 2, 0, 99, 1, 1])], [], [], [(20, [2, 7], [50, 0, 0, 2, 14, 2, 6, 0, 2, 0, 0, 1, 0, 0, 2, 0, 0, 1, 1, 0, 2, 1, 0, 6, 2, 0, 99, 1, 1])], [], [(7, 3, 1, 1)])
theorem oo_Gr_sizeOfGroup_2 {kA : Nat → ClassId} : or_ok PRD kA GG o_Gr_sizeOfGroup_2 := by
  refine or_mk fun A ta ws vs hD hth hl => ?_
  intro t2 k2 t3 k3 t7 k7 d0 f0 f1
  have nf0 : fc_1 PRD (20, [2, 7], [50, 0, 0, 2, 14, 2, 6, 0, 2, 0, 0, 1, 0, 0, 2, 0, 0, 1, 1, 0, 2, 1, 0, 6, 2, 0, 99, 1, 1]) ws (vs) := ⟨nf_in hl rfl, sgq_400 (vc_Gr_sizeOfGroup_2_0 (v_iv (n_v vs 2)) (v_iv (n_v vs 3)) (v_iv (n_v vs 7)) k2 k3 k7 d0 (shm_4 f0) (shm_400 f1))⟩
  refine ⟨(fun _ h => (by cases h)), [], trivial, ?_, (fun _ h => (by cases h))⟩
  rw [List.append_nil]
  exact List.forall_mem_cons.mpr ⟨⟨show (20 : Nat) < 100 from by decide, nf0⟩, (fun _ h => (by cases h))⟩
set_option maxHeartbeats 4000000 in
theorem vc_Gr_sizeOfGroup_3_r0 (x2 : Int) (x3 : Int) (k2 : 0 ≤ x2 ∧ x2 ≤ 4095) (k3 : 0 ≤ x3 ∧ x3 ≤ 23) (f0 : ((0 ≤ x2) ∧ (0 ≤ x3)) ∧ (x2 ≤ (99 * x3))) : 0 ≤ x2 ∧ x2 ≤ 2376 := by
  first | assumption | omega | grind
def o_Gr_sizeOfGroup_3 : or_T := (64, 9, [(2, (0, 0, 4095, [])), (3, (0, 0, 23, []))], [(20, [2, 3], [50, 0, 0, 2, 14, 2, 6, 0, 2, 0, 0, 1, 0, 0, 2, 0, 0, 1, 1, 0, 2, 1, 0, 6, 2, 0, 99, 1, 1])], [(2, (0, 0, 2376, []))], [], [], [], [])
theorem oo_Gr_sizeOfGroup_3 {kA : Nat → ClassId} : or_ok PRD kA GG o_Gr_sizeOfGroup_3 := by
  refine or_mk fun A ta ws vs hD hth hl => ?_
  intro t2 k2 t3 k3 f0
  have hrf0 : 0 ≤ v_iv (n_v vs 2) ∧ v_iv (n_v vs 2) ≤ 2376 := vc_Gr_sizeOfGroup_3_r0 (v_iv (n_v vs 2)) (v_iv (n_v vs 3)) k2 k3 (shm_400 f0)
  have rf2 : tv_ok ta (0, 0, 2376, []) (n_v vs 2) := tv_in t2 (by first | omega | grind) (by first | omega | grind)
  refine ⟨List.forall_mem_cons.mpr ⟨rf2, (fun _ h => (by cases h))⟩, [], trivial, ?_, (fun _ h => (by cases h))⟩
  rw [List.append_nil]
  exact (fun _ h => (by cases h))
set_option maxHeartbeats 4000000 in
theorem vc_Gr_sizeOfGroup_4_0 (x2 : Int) (x3 : Int) (x8 : Int) (x9 : Int) (x10 : Int) (size_0 : Int → Int) (k2 : 0 ≤ x2 ∧ x2 ≤ 2376) (k3 : 0 ≤ x3 ∧ x3 ≤ 23) (k8 : 0 ≤ x8 ∧ x8 ≤ 99) (k9 : 0 ≤ x9 ∧ x9 ≤ 2475) (k10 : 1 ≤ x10 ∧ x10 ≤ 24) (d0 : x3 + 1 ≤ x10 ∧ x10 ≤ x3 + 1) (d1 : x8 + 0 ≤ x9 ∧ x9 ≤ x8 + 2376) (d2 : x2 + 0 ≤ x9 ∧ x9 ≤ x2 + 99) (f0 : x10 = x3 + 1) (f1 : x9 = x2 + x8) (h2 : x8 = size_0 (x3)) (f4 : ((0 ≤ x2) ∧ (0 ≤ x3)) ∧ (x2 ≤ (99 * x3))) : ((0 ≤ x9) ∧ (0 ≤ x10)) ∧ (x9 ≤ (99 * x10)) := by
  first | assumption | omega | grind
def o_Gr_sizeOfGroup_4 : or_T := (4, 11, [(2, (0, 0, 2376, [])), (3, (0, 0, 23, [])), (8, (0, 0, 99, [])), (9, (0, 0, 2475, [])), (10, (0, 1, 24, []))], [(6, [10, 3], [1]), (1, [9, 2, 8], []), (10, [8, 7, 3], []), (9, [7, 0], [5]), (20, [2, 3], [50, 0, 0, 2, 14, 2, 6, 0, 2, 0, 0, 1, 0, 0, 2, 0, 0, 1, 1, 0, 2, 1, 0, 6, 2, 0, 99, 1, 1])], [], [], [(20, [9, 10], [50, 0, 0, 2, 14, 2, 6, 0, 2, 0, 0, 1, 0, 0, 2, 0, 0, 1, 1, 0, 2, 1, 0, 6, 2, 0, 99, 1, 1])], [], [(10, 3, 1, 1), (9, 8, 0, 2376), (9, 2, 0, 99)])
theorem oo_Gr_sizeOfGroup_4 {kA : Nat → ClassId} : or_ok PRD kA GG o_Gr_sizeOfGroup_4 := by
  refine or_mk fun A ta ws vs hD hth hl => ?_
  intro t2 k2 t3 k3 t8 k8 t9 k9 t10 k10 d0 d1 d2 f0 f1 f2 f3 f4
  replace f2 := shm_106 f2
  replace f3 := shm_109 f3
  have ad_7 : v_ad (n_v vs 7) = w_ar ws (n_v vs 0) 5 := congrArg v_ad f3
  simp only [ad_7] at f2
  have h2 : v_iv (n_v vs 8) = w_ei ws (w_ar ws (n_v vs 0) 5) (v_iv (n_v vs 3)) := f2
  have nf0 : fc_1 PRD (20, [9, 10], [50, 0, 0, 2, 14, 2, 6, 0, 2, 0, 0, 1, 0, 0, 2, 0, 0, 1, 1, 0, 2, 1, 0, 6, 2, 0, 99, 1, 1]) ws (vs) := ⟨nf_in hl rfl, sgq_400 (vc_Gr_sizeOfGroup_4_0 (v_iv (n_v vs 2)) (v_iv (n_v vs 3)) (v_iv (n_v vs 8)) (v_iv (n_v vs 9)) (v_iv (n_v vs 10)) (w_ei ws (w_ar ws (n_v vs 0) 5)) k2 k3 k8 k9 k10 d0 d1 d2 (shm_4 f0) (shm_12 f1) h2 (shm_400 f4))⟩
  refine ⟨(fun _ h => (by cases h)), [], trivial, ?_, (fun _ h => (by cases h))⟩
  rw [List.append_nil]
  exact List.forall_mem_cons.mpr ⟨⟨show (20 : Nat) < 100 from by decide, nf0⟩, (fun _ h => (by cases h))⟩
def n_Gr_sizeOfGroup_an : List an_T := [(4, [(0, (2, 0, 0, [3])), (1, (0, 0, 7, [])), (2, (0, 0, 4095, [])), (3, (0, 0, 24, []))], [], (0, 0), [(0, 0, 99996), (1, 3, 24), (0, 0, 100000), (0, 0, 0), (0, 0, 0)], [], [], [], 0, [], [(20, [2, 3], [50, 0, 0, 2, 14, 2, 6, 0, 2, 0, 0, 1, 0, 0, 2, 0, 0, 1, 1, 0, 2, 1, 0, 6, 2, 0, 99, 1, 1])]), (23, [(0, (2, 0, 0, [3])), (1, (0, 0, 7, [])), (2, (0, 0, 4095, [])), (3, (0, 0, 23, [])), (4, (0, (Int.negSucc 0), 7, [])), (5, (0, 0, 8, []))], [], (0, 0), [(0, 0, 99996), (1, 3, 24), (0, 0, 99977), (1, 5, 8), (0, 0, 100000)], [(1, 4, (Int.negSucc 999999999999), 7)], [], [], 0, [], [(20, [2, 3], [50, 0, 0, 2, 14, 2, 6, 0, 2, 0, 0, 1, 0, 0, 2, 0, 0, 1, 1, 0, 2, 1, 0, 6, 2, 0, 99, 1, 1])])]
def t_Gr_sizeOfGroup_ct : ct_L := []
set_option maxRecDepth 100000 in
theorem c_Gr_sizeOfGroup {l : Launch} {D : va_G} {kA : Nat → ClassId} : ct_ok PRD l D kA GG y_Gr_sizeOfGroup z_Gr_sizeOfGroup e_Gr_sizeOfGroup := chk_all_ok (FT := [(9, 3, 0), (29, 3, 5), (32, 3, 6), (47, 3, 11)]) (PT := []) (CT := t_Gr_sizeOfGroup_ct) (KT := []) (NT := []) (AN := n_Gr_sizeOfGroup_an) (OT := [o_Gr_sizeOfGroup_0, o_Gr_sizeOfGroup_1, o_Gr_sizeOfGroup_2, o_Gr_sizeOfGroup_3, o_Gr_sizeOfGroup_4]) 5 232 (List.forall_mem_cons.mpr ⟨oo_Gr_sizeOfGroup_0, List.forall_mem_cons.mpr ⟨oo_Gr_sizeOfGroup_1, List.forall_mem_cons.mpr ⟨oo_Gr_sizeOfGroup_2, List.forall_mem_cons.mpr ⟨oo_Gr_sizeOfGroup_3, List.forall_mem_cons.mpr ⟨oo_Gr_sizeOfGroup_4, List.forall_mem_nil _⟩⟩⟩⟩⟩) (by decide +kernel) ⟨List.forall_mem_cons.mpr ⟨gf_Gr_9, List.forall_mem_cons.mpr ⟨gf_Gr_29, List.forall_mem_cons.mpr ⟨gf_Gr_32, List.forall_mem_cons.mpr ⟨gf_Gr_47, List.forall_mem_nil _⟩⟩⟩⟩, List.forall_mem_nil _, List.forall_mem_nil _, List.forall_mem_nil _, List.forall_mem_nil _, GG_pl⟩ (by decide +kernel)
set_option maxHeartbeats 4000000 in
theorem vc_Gr_tie_at_Gq_0_0 (x1 : Int) (x4 : Int) (x8 : Int) (x9 : Int) (x10 : Int) (x13 : Int) (x14 : Int) (x16 : Int) (x17 : Int) (x18 : Int) (x19 : Int) (x20 : Int) (x21 : Int) (x22 : Int) (x23 : Int) (x24 : Int) (x25 : Int) (x26 : Int) (x27 : Int) (tail_0 : Int → Int) (head_0 : Int → Int) (nodes_0 : Int) (edges_0 : Int) (tail_1 : Int → Int) (near_1 : Int → Int) (head_1 : Int → Int) (nodes_1 : Int) (edges_1 : Int) (head_2 : Int → Int) (near_2 : Int → Int) (tail_2 : Int → Int) (nodes_2 : Int) (edges_2 : Int) (tail_3 : Int → Int) (head_3 : Int → Int) (near_3 : Int → Int) (nodes_3 : Int) (edges_3 : Int) (head_4 : Int → Int) (tail_4 : Int → Int) (near_4 : Int → Int) (nodes_4 : Int) (edges_4 : Int) (near_0 : Int → Int) (link_0 : Int → Int) (link_1 : Int → Int) (link_2 : Int → Int) (link_3 : Int → Int) (link_4 : Int → Int) (k1 : 0 ≤ x1 ∧ x1 ≤ 47) (k4 : 0 ≤ x4 ∧ x4 ≤ 23) (k8 : 0 ≤ x8 ∧ x8 ≤ 23) (k9 : 0 ≤ x9 ∧ x9 ≤ 575) (k10 : 0 ≤ x10 ∧ x10 ≤ 23) (k13 : 0 ≤ x13 ∧ x13 ≤ 23) (k14 : 0 ≤ x14 ∧ x14 ≤ 575) (k16 : 0 ≤ x16 ∧ x16 ≤ 23) (k17 : 0 ≤ x17 ∧ x17 ≤ 16777215) (k18 : 1 ≤ x18 ∧ x18 ≤ 1) (k19 : 0 ≤ x19 ∧ x19 ≤ 23) (k20 : 1 ≤ x20 ∧ x20 ≤ 8388608) (k21 : 0 ≤ x21 ∧ x21 ≤ 16777215) (k22 : 0 ≤ x22 ∧ x22 ≤ 23) (k23 : 0 ≤ x23 ∧ x23 ≤ 16777215) (k24 : 1 ≤ x24 ∧ x24 ≤ 1) (k25 : 0 ≤ x25 ∧ x25 ≤ 23) (k26 : 1 ≤ x26 ∧ x26 ≤ 8388608) (k27 : 0 ≤ x27 ∧ x27 ≤ 16777215) (d0 : x13 + 0 ≤ x14 ∧ x14 ≤ x13 + 552) (d1 : x8 + 0 ≤ x9 ∧ x9 ≤ x8 + 552) (f4 : GKE (nodes_0) (edges_0) (tail_0) (head_0)) (f5 : (0 ≤ x1) ∧ ((x1 + 1) ≤ edges_0)) (f7 : x27 ≤ x23 + x26 ∧ x23 ≤ x27 ∧ x26 ≤ x27) (f8 : bvp (x27) = bvp (x23) ||| bvp (x26)) (f9 : bvp (x26) = bvp (x24) <<< (x25).toNat) (h10 : x25 = tail_1 (x1)) (h11 : x23 = near_1 (x22)) (h12 : x22 = head_1 (x1)) (f13 : GKE (nodes_1) (edges_1) (tail_1) (head_1)) (f14 : (0 ≤ x1) ∧ ((x1 + 1) ≤ edges_1)) (f16 : x21 ≤ x17 + x20 ∧ x17 ≤ x21 ∧ x20 ≤ x21) (f17 : bvp (x21) = bvp (x17) ||| bvp (x20)) (f18 : bvp (x20) = bvp (x18) <<< (x19).toNat) (h19 : x19 = head_2 (x1)) (h20 : x17 = near_2 (x16)) (h21 : x16 = tail_2 (x1)) (f22 : GNK (nodes_2) (near_2) (tail_2) (head_2) (x1)) (f23 : GKE (nodes_2) (edges_2) (tail_2) (head_2)) (f24 : (0 ≤ x1) ∧ ((x1 + 1) ≤ edges_2)) (h26 : x13 = tail_3 (x1)) (h27 : x10 = head_3 (x1)) (f28 : GNK (nodes_3) (near_3) (tail_3) (head_3) (x1)) (f29 : GKE (nodes_3) (edges_3) (tail_3) (head_3)) (f30 : (0 ≤ x1) ∧ ((x1 + 1) ≤ edges_3)) (h32 : x8 = head_4 (x1)) (h33 : x4 = tail_4 (x1)) (f34 : GNK (nodes_4) (near_4) (tail_4) (head_4) (x1)) (f35 : GKE (nodes_4) (edges_4) (tail_4) (head_4)) (f36 : (0 ≤ x1) ∧ ((x1 + 1) ≤ edges_4)) (fe_0_0_1 : nodes_0 = nodes_1) (fe_0_1_1 : edges_0 = edges_1) (fe_0_0_2 : nodes_1 = nodes_2) (fe_0_1_2 : edges_1 = edges_2) (fe_0_0_3 : nodes_2 = nodes_3) (fe_0_1_3 : edges_2 = edges_3) (fe_0_0_4 : nodes_3 = nodes_4) (fe_0_1_4 : edges_3 = edges_4) (hE_0_7_1 : ∀ j : Int, tail_0 j = tail_1 j) (hE_0_7_2 : ∀ j : Int, tail_1 j = tail_2 j) (hE_0_7_3 : ∀ j : Int, tail_2 j = tail_3 j) (hE_0_7_4 : ∀ j : Int, tail_3 j = tail_4 j) (hK_0_7 : ∀ j : Int, 0 ≤ j → j < 48 → 0 ≤ tail_0 j ∧ tail_0 j ≤ 23) (hE_0_8_1 : ∀ j : Int, head_0 j = head_1 j) (hE_0_8_2 : ∀ j : Int, head_1 j = head_2 j) (hE_0_8_3 : ∀ j : Int, head_2 j = head_3 j) (hE_0_8_4 : ∀ j : Int, head_3 j = head_4 j) (hK_0_8 : ∀ j : Int, 0 ≤ j → j < 48 → 0 ≤ head_0 j ∧ head_0 j ≤ 23) (hE_0_14_1 : ∀ j : Int, 0 ≤ j → (j = x22 → near_0 j = x27) ∧ (j ≠ x22 → near_0 j = near_1 j)) (hE_0_14_2 : ∀ j : Int, 0 ≤ j → (j = x16 → near_1 j = x21) ∧ (j ≠ x16 → near_1 j = near_2 j)) (hE_0_14_3 : ∀ j : Int, near_2 j = near_3 j) (hE_0_14_4 : ∀ j : Int, near_3 j = near_4 j) (hK_0_14 : ∀ j : Int, 0 ≤ j → j < 24 → 0 ≤ near_0 j ∧ near_0 j ≤ 16777215) (hE_0_15_1 : ∀ j : Int, link_0 j = link_1 j) (hE_0_15_2 : ∀ j : Int, link_1 j = link_2 j) (hE_0_15_3 : ∀ j : Int, 0 ≤ j → (j = x14 → link_2 j = x1) ∧ (j ≠ x14 → link_2 j = link_3 j)) (hE_0_15_4 : ∀ j : Int, 0 ≤ j → (j = x9 → link_3 j = x1) ∧ (j ≠ x9 → link_3 j = link_4 j)) (hK_0_15 : ∀ j : Int, 0 ≤ j → j < 576 → (-1) ≤ link_0 j ∧ link_0 j ≤ 47) (kz_0_0 : 0 ≤ nodes_0 ∧ nodes_0 ≤ 24) (kz_0_1 : 0 ≤ edges_0 ∧ edges_0 ≤ 48) : GNL (nodes_0) (near_0) (tail_0) (head_0) (x1) := by
  subst fe_0_0_1
  subst fe_0_1_1
  subst fe_0_0_2
  subst fe_0_1_2
  subst fe_0_0_3
  subst fe_0_1_3
  subst fe_0_0_4
  subst fe_0_1_4
  have e_hE_0_7_1 := funext hE_0_7_1; subst e_hE_0_7_1
  have e_hE_0_7_2 := funext hE_0_7_2; subst e_hE_0_7_2
  have e_hE_0_7_3 := funext hE_0_7_3; subst e_hE_0_7_3
  have e_hE_0_7_4 := funext hE_0_7_4; subst e_hE_0_7_4
  have e_hE_0_8_1 := funext hE_0_8_1; subst e_hE_0_8_1
  have e_hE_0_8_2 := funext hE_0_8_2; subst e_hE_0_8_2
  have e_hE_0_8_3 := funext hE_0_8_3; subst e_hE_0_8_3
  have e_hE_0_8_4 := funext hE_0_8_4; subst e_hE_0_8_4
  have e_hE_0_14_3 := funext hE_0_14_3; subst e_hE_0_14_3
  have e_hE_0_14_4 := funext hE_0_14_4; subst e_hE_0_14_4
  have e_hE_0_15_1 := funext hE_0_15_1; subst e_hE_0_15_1
  have e_hE_0_15_2 := funext hE_0_15_2; subst e_hE_0_15_2
  first
    | (have g := ‹GKE _ _ _ _› x1 (by omega) (by omega); exact gnk_tie (k := x1) (a := x16) (b := x22) (x := x21) (y := x27) (q1 := x20) (q2 := x26) (z1 := x17) (z2 := x23) (o1 := x18) (o2 := x24) (s1 := x19) (s2 := x25) ‹GNK _ _ _ _ _› (fun e a b => by have q := ‹GKE _ _ _ _› e a (by omega); exact ⟨by omega, by omega⟩) (by omega) (by omega) (by omega) (by omega) (by omega) (by omega) (by omega) (by omega) (by omega) (by assumption) (by omega) (by omega) (by assumption) (by assumption) hE_0_14_2 (by assumption) (by omega) (by omega) (by assumption) (by assumption) hE_0_14_1)
  
def o_Gr_tie_at_Gq_0 : or_T := (88, 28, [(0, (2, 0, 0, [164])), (1, (0, 0, 47, [])), (2, (2, 0, 0, [162])), (4, (0, 0, 23, [])), (8, (0, 0, 23, [])), (9, (0, 0, 575, [])), (10, (0, 0, 23, [])), (13, (0, 0, 23, [])), (14, (0, 0, 575, [])), (15, (2, 0, 0, [161])), (16, (0, 0, 23, [])), (17, (0, 0, 16777215, [])), (18, (0, 1, 1, [])), (19, (0, 0, 23, [])), (20, (0, 1, 8388608, [])), (21, (0, 0, 16777215, [])), (22, (0, 0, 23, [])), (23, (0, 0, 16777215, [])), (24, (0, 1, 1, [])), (25, (0, 0, 23, [])), (26, (0, 1, 8388608, [])), (27, (0, 0, 16777215, []))], [(9, [15, 0], [14]), (9, [7, 0], [8]), (9, [3, 0], [7]), (9, [2, 0], [15]), (20, [0], [60, 2, 2, 596, 0, 1, 7, 8]), (20, [1, 0], [50, 1, 0, 1001, 2, 6, 0, 2, 0, 0, 1, 0, 0, 6, 4, 2, 1, 0, 0, 1, 2, 1, 1]), (100, [15, 22, 27], []), (13, [27, 23, 26], []), (16, [27, 23, 26], [1]), (16, [26, 24, 25], [3]), (10, [25, 3, 1], []), (10, [23, 15, 22], []), (10, [22, 7, 1], []), (20, [0], [60, 2, 2, 596, 0, 1, 7, 8]), (20, [1, 0], [50, 1, 0, 1001, 2, 6, 0, 2, 0, 0, 1, 0, 0, 6, 4, 2, 1, 0, 0, 1, 2, 1, 1]), (100, [15, 16, 21], []), (13, [21, 17, 20], []), (16, [21, 17, 20], [1]), (16, [20, 18, 19], [3]), (10, [19, 7, 1], []), (10, [17, 15, 16], []), (10, [16, 3, 1], []), (20, [0, 1], [60, 1, 3, 747, 0, 14, 7, 8]), (20, [0], [60, 2, 2, 596, 0, 1, 7, 8]), (20, [1, 0], [50, 1, 0, 1001, 2, 6, 0, 2, 0, 0, 1, 0, 0, 6, 4, 2, 1, 0, 0, 1, 2, 1, 1]), (100, [2, 14, 1], []), (10, [13, 3, 1], []), (10, [10, 7, 1], []), (20, [0, 1], [60, 1, 3, 747, 0, 14, 7, 8]), (20, [0], [60, 2, 2, 596, 0, 1, 7, 8]), (20, [1, 0], [50, 1, 0, 1001, 2, 6, 0, 2, 0, 0, 1, 0, 0, 6, 4, 2, 1, 0, 0, 1, 2, 1, 1]), (100, [2, 9, 1], []), (10, [8, 7, 1], []), (10, [4, 3, 1], []), (20, [0, 1], [60, 1, 3, 747, 0, 14, 7, 8]), (20, [0], [60, 2, 2, 596, 0, 1, 7, 8]), (20, [1, 0], [50, 1, 0, 1001, 2, 6, 0, 2, 0, 0, 1, 0, 0, 6, 4, 2, 1, 0, 0, 1, 2, 1, 1])], [], [], [(20, [0, 1], [60, 1, 3, 748, 0, 14, 7, 8])], [], [(14, 13, 0, 552), (9, 8, 0, 552)])
theorem oo_Gr_tie_at_Gq_0 {kA : Nat → ClassId} : or_ok PRD kA GG o_Gr_tie_at_Gq_0 := by
  refine or_mk fun A ta ws vs hD hth hl => ?_
  intro t0 r0 t1 k1 t2 r2 t4 k4 t8 k8 t9 k9 t10 k10 t13 k13 t14 k14 t15 r15 t16 k16 t17 k17 t18 k18 t19 k19 t20 k20 t21 k21 t22 k22 t23 k23 t24 k24 t25 k25 t26 k26 t27 k27 d0 d1 f0 f1 f2 f3 f4 f5 ta1 w1 le1 s1 f7 f8 f9 f10 f11 f12 f13 f14 ta2 w2 le2 s2 f16 f17 f18 f19 f20 f21 f22 f23 f24 ta3 w3 le3 s3 f26 f27 f28 f29 f30 ta4 w4 le4 s4 f32 f33 f34 f35 f36
  replace f0 := shm_116 f0
  replace f1 := shm_143 f1
  replace f2 := shm_216 f2
  replace f3 := shm_189 f3
  have s1 : (∀ b j, w_el ws b j = if b = v_ad (n_v vs 15) ∧ j = (v_iv (n_v vs 22)).toNat then v_iv (n_v vs 27) else w_el w1 b j) ∧ ∀ b k, w_fd ws b k = w_fd w1 b k := s1.2
  have f7 : v_iv (n_v vs 27) ≤ v_iv (n_v vs 23) + v_iv (n_v vs 26) ∧ v_iv (n_v vs 23) ≤ v_iv (n_v vs 27) ∧ v_iv (n_v vs 26) ≤ v_iv (n_v vs 27) := (fun (h : v_iv (n_v vs 27) ≤ v_iv (n_v vs 23) + v_iv (n_v vs 26) ∧ v_iv (n_v vs 23) ≤ v_iv (n_v vs 27) ∧ v_iv (n_v vs 26) ≤ v_iv (n_v vs 27) ∧ (v_iv (n_v vs 27)).toNat = (v_iv (n_v vs 23)).toNat ||| (v_iv (n_v vs 26)).toNat) => ⟨h.1, h.2.1, h.2.2.1⟩) f7
  replace f10 := shm_106 f10
  replace f11 := shm_106 f11
  replace f12 := shm_106 f12
  replace f13 := shm_401 f13
  have s2 : (∀ b j, w_el w1 b j = if b = v_ad (n_v vs 15) ∧ j = (v_iv (n_v vs 16)).toNat then v_iv (n_v vs 21) else w_el w2 b j) ∧ ∀ b k, w_fd w1 b k = w_fd w2 b k := s2.2
  have f16 : v_iv (n_v vs 21) ≤ v_iv (n_v vs 17) + v_iv (n_v vs 20) ∧ v_iv (n_v vs 17) ≤ v_iv (n_v vs 21) ∧ v_iv (n_v vs 20) ≤ v_iv (n_v vs 21) := (fun (h : v_iv (n_v vs 21) ≤ v_iv (n_v vs 17) + v_iv (n_v vs 20) ∧ v_iv (n_v vs 17) ≤ v_iv (n_v vs 21) ∧ v_iv (n_v vs 20) ≤ v_iv (n_v vs 21) ∧ (v_iv (n_v vs 21)).toNat = (v_iv (n_v vs 17)).toNat ||| (v_iv (n_v vs 20)).toNat) => ⟨h.1, h.2.1, h.2.2.1⟩) f16
  replace f19 := shm_106 f19
  replace f20 := shm_106 f20
  replace f21 := shm_106 f21
  replace f22 := shm_403 f22
  replace f23 := shm_401 f23
  have s3 : (∀ b j, w_el w2 b j = if b = v_ad (n_v vs 2) ∧ j = (v_iv (n_v vs 14)).toNat then v_iv (n_v vs 1) else w_el w3 b j) ∧ ∀ b k, w_fd w2 b k = w_fd w3 b k := s3.2
  replace f26 := shm_106 f26
  replace f27 := shm_106 f27
  replace f28 := shm_403 f28
  replace f29 := shm_401 f29
  have s4 : (∀ b j, w_el w3 b j = if b = v_ad (n_v vs 2) ∧ j = (v_iv (n_v vs 9)).toNat then v_iv (n_v vs 1) else w_el w4 b j) ∧ ∀ b k, w_fd w3 b k = w_fd w4 b k := s4.2
  replace f32 := shm_106 f32
  replace f33 := shm_106 f33
  replace f34 := shm_403 f34
  replace f35 := shm_401 f35
  have ar_0_7_1 : w_ar w1 (n_v vs 0) 7 = w_ar ws (n_v vs 0) 7 := congrArg v_ad (s1.2 _ _).symm
  have ar_0_7_2 : w_ar w2 (n_v vs 0) 7 = w_ar ws (n_v vs 0) 7 := by rw [← ar_0_7_1]; show v_ad (w_fd w2 _ _) = v_ad (w_fd w1 _ _); rw [s2.2]
  have ar_0_7_3 : w_ar w3 (n_v vs 0) 7 = w_ar ws (n_v vs 0) 7 := by rw [← ar_0_7_2]; show v_ad (w_fd w3 _ _) = v_ad (w_fd w2 _ _); rw [s3.2]
  have ar_0_7_4 : w_ar w4 (n_v vs 0) 7 = w_ar ws (n_v vs 0) 7 := by rw [← ar_0_7_3]; show v_ad (w_fd w4 _ _) = v_ad (w_fd w3 _ _); rw [s4.2]
  have cr_0_7 := fdq_74 hD hth r0
  have ar_0_8_1 : w_ar w1 (n_v vs 0) 8 = w_ar ws (n_v vs 0) 8 := congrArg v_ad (s1.2 _ _).symm
  have ar_0_8_2 : w_ar w2 (n_v vs 0) 8 = w_ar ws (n_v vs 0) 8 := by rw [← ar_0_8_1]; show v_ad (w_fd w2 _ _) = v_ad (w_fd w1 _ _); rw [s2.2]
  have ar_0_8_3 : w_ar w3 (n_v vs 0) 8 = w_ar ws (n_v vs 0) 8 := by rw [← ar_0_8_2]; show v_ad (w_fd w3 _ _) = v_ad (w_fd w2 _ _); rw [s3.2]
  have ar_0_8_4 : w_ar w4 (n_v vs 0) 8 = w_ar ws (n_v vs 0) 8 := by rw [← ar_0_8_3]; show v_ad (w_fd w4 _ _) = v_ad (w_fd w3 _ _); rw [s4.2]
  have cr_0_8 := fdq_75 hD hth r0
  have ar_0_14_1 : w_ar w1 (n_v vs 0) 14 = w_ar ws (n_v vs 0) 14 := congrArg v_ad (s1.2 _ _).symm
  have ar_0_14_2 : w_ar w2 (n_v vs 0) 14 = w_ar ws (n_v vs 0) 14 := by rw [← ar_0_14_1]; show v_ad (w_fd w2 _ _) = v_ad (w_fd w1 _ _); rw [s2.2]
  have ar_0_14_3 : w_ar w3 (n_v vs 0) 14 = w_ar ws (n_v vs 0) 14 := by rw [← ar_0_14_2]; show v_ad (w_fd w3 _ _) = v_ad (w_fd w2 _ _); rw [s3.2]
  have ar_0_14_4 : w_ar w4 (n_v vs 0) 14 = w_ar ws (n_v vs 0) 14 := by rw [← ar_0_14_3]; show v_ad (w_fd w4 _ _) = v_ad (w_fd w3 _ _); rw [s4.2]
  have cr_0_14 := fdq_76 hD hth r0
  have cr_0_15 := fdq_71 hD hth r0
  have ad_15 : v_ad (n_v vs 15) = w_ar ws (n_v vs 0) 14 := congrArg v_ad f0
  have ad_7 : v_ad (n_v vs 7) = w_ar ws (n_v vs 0) 8 := congrArg v_ad f1
  have ad_3 : v_ad (n_v vs 3) = w_ar ws (n_v vs 0) 7 := congrArg v_ad f2
  have ad_2 : v_ad (n_v vs 2) = w_ar ws (n_v vs 0) 15 := congrArg v_ad f3
  simp only [ad_3] at f10
  have h10 : v_iv (n_v vs 25) = w_ei w1 (w_ar ws (n_v vs 0) 7) (v_iv (n_v vs 1)) := f10
  simp only [ad_15] at f11
  have h11 : v_iv (n_v vs 23) = w_ei w1 (w_ar ws (n_v vs 0) 14) (v_iv (n_v vs 22)) := f11
  simp only [ad_7] at f12
  have h12 : v_iv (n_v vs 22) = w_ei w1 (w_ar ws (n_v vs 0) 8) (v_iv (n_v vs 1)) := f12
  simp only [ar_0_7_1, ar_0_8_1, ad_7] at f13 f19
  have h19 : v_iv (n_v vs 19) = w_ei w2 (w_ar ws (n_v vs 0) 8) (v_iv (n_v vs 1)) := f19
  simp only [ad_15] at f20
  have h20 : v_iv (n_v vs 17) = w_ei w2 (w_ar ws (n_v vs 0) 14) (v_iv (n_v vs 16)) := f20
  simp only [ad_3] at f21
  have h21 : v_iv (n_v vs 16) = w_ei w2 (w_ar ws (n_v vs 0) 7) (v_iv (n_v vs 1)) := f21
  simp only [ar_0_7_2, ar_0_8_2, ar_0_14_2, ad_3] at f22 f23 f26
  have h26 : v_iv (n_v vs 13) = w_ei w3 (w_ar ws (n_v vs 0) 7) (v_iv (n_v vs 1)) := f26
  simp only [ad_7] at f27
  have h27 : v_iv (n_v vs 10) = w_ei w3 (w_ar ws (n_v vs 0) 8) (v_iv (n_v vs 1)) := f27
  simp only [ar_0_7_3, ar_0_8_3, ar_0_14_3, ad_7] at f28 f29 f32
  have h32 : v_iv (n_v vs 8) = w_ei w4 (w_ar ws (n_v vs 0) 8) (v_iv (n_v vs 1)) := f32
  simp only [ad_3] at f33
  have h33 : v_iv (n_v vs 4) = w_ei w4 (w_ar ws (n_v vs 0) 7) (v_iv (n_v vs 1)) := f33
  simp only [ar_0_7_4, ar_0_8_4, ar_0_14_4] at f34 f35
  have fe_0_0_1 : w_fi ws (n_v vs 0) 0 = w_fi w1 (n_v vs 0) 0 := congrArg v_iv (s1.2 _ _)
  have fe_0_1_1 : w_fi ws (n_v vs 0) 1 = w_fi w1 (n_v vs 0) 1 := congrArg v_iv (s1.2 _ _)
  have fe_0_0_2 : w_fi w1 (n_v vs 0) 0 = w_fi w2 (n_v vs 0) 0 := congrArg v_iv (s2.2 _ _)
  have fe_0_1_2 : w_fi w1 (n_v vs 0) 1 = w_fi w2 (n_v vs 0) 1 := congrArg v_iv (s2.2 _ _)
  have fe_0_0_3 : w_fi w2 (n_v vs 0) 0 = w_fi w3 (n_v vs 0) 0 := congrArg v_iv (s3.2 _ _)
  have fe_0_1_3 : w_fi w2 (n_v vs 0) 1 = w_fi w3 (n_v vs 0) 1 := congrArg v_iv (s3.2 _ _)
  have fe_0_0_4 : w_fi w3 (n_v vs 0) 0 = w_fi w4 (n_v vs 0) 0 := congrArg v_iv (s4.2 _ _)
  have fe_0_1_4 : w_fi w3 (n_v vs 0) 1 = w_fi w4 (n_v vs 0) 1 := congrArg v_iv (s4.2 _ _)
  have hE_0_7_1 : ∀ j : Int, w_ei ws (w_ar ws (n_v vs 0) 7) j = w_ei w1 (w_ar ws (n_v vs 0) 7) j := el_kp s1.1 r15 cr_0_7 (by decide)
  have hE_0_7_2 : ∀ j : Int, w_ei w1 (w_ar ws (n_v vs 0) 7) j = w_ei w2 (w_ar ws (n_v vs 0) 7) j := el_kp s2.1 r15 cr_0_7 (by decide)
  have hE_0_7_3 : ∀ j : Int, w_ei w2 (w_ar ws (n_v vs 0) 7) j = w_ei w3 (w_ar ws (n_v vs 0) 7) j := el_kp s3.1 r2 cr_0_7 (by decide)
  have hE_0_7_4 : ∀ j : Int, w_ei w3 (w_ar ws (n_v vs 0) 7) j = w_ei w4 (w_ar ws (n_v vs 0) 7) j := el_kp s4.1 r2 cr_0_7 (by decide)
  have hK_0_7 := elq_32 hD hth cr_0_7
  have hE_0_8_1 : ∀ j : Int, w_ei ws (w_ar ws (n_v vs 0) 8) j = w_ei w1 (w_ar ws (n_v vs 0) 8) j := el_kp s1.1 r15 cr_0_8 (by decide)
  have hE_0_8_2 : ∀ j : Int, w_ei w1 (w_ar ws (n_v vs 0) 8) j = w_ei w2 (w_ar ws (n_v vs 0) 8) j := el_kp s2.1 r15 cr_0_8 (by decide)
  have hE_0_8_3 : ∀ j : Int, w_ei w2 (w_ar ws (n_v vs 0) 8) j = w_ei w3 (w_ar ws (n_v vs 0) 8) j := el_kp s3.1 r2 cr_0_8 (by decide)
  have hE_0_8_4 : ∀ j : Int, w_ei w3 (w_ar ws (n_v vs 0) 8) j = w_ei w4 (w_ar ws (n_v vs 0) 8) j := el_kp s4.1 r2 cr_0_8 (by decide)
  have hK_0_8 := elq_33 hD hth cr_0_8
  have hE_0_14_1 : ∀ j : Int, 0 ≤ j → (j = v_iv (n_v vs 22) → w_ei ws (w_ar ws (n_v vs 0) 14) j = v_iv (n_v vs 27)) ∧ (j ≠ v_iv (n_v vs 22) → w_ei ws (w_ar ws (n_v vs 0) 14) j = w_ei w1 (w_ar ws (n_v vs 0) 14) j) := fun j hj => ⟨fun h => by unfold w_ei; rw [s1.1, if_pos ⟨ad_15.symm, by rw [h]⟩], fun h => by unfold w_ei; rw [s1.1, if_neg (fun e => h (by have := e.2; omega))]⟩
  have hE_0_14_2 : ∀ j : Int, 0 ≤ j → (j = v_iv (n_v vs 16) → w_ei w1 (w_ar ws (n_v vs 0) 14) j = v_iv (n_v vs 21)) ∧ (j ≠ v_iv (n_v vs 16) → w_ei w1 (w_ar ws (n_v vs 0) 14) j = w_ei w2 (w_ar ws (n_v vs 0) 14) j) := fun j hj => ⟨fun h => by unfold w_ei; rw [s2.1, if_pos ⟨ad_15.symm, by rw [h]⟩], fun h => by unfold w_ei; rw [s2.1, if_neg (fun e => h (by have := e.2; omega))]⟩
  have hE_0_14_3 : ∀ j : Int, w_ei w2 (w_ar ws (n_v vs 0) 14) j = w_ei w3 (w_ar ws (n_v vs 0) 14) j := el_kp s3.1 r2 cr_0_14 (by decide)
  have hE_0_14_4 : ∀ j : Int, w_ei w3 (w_ar ws (n_v vs 0) 14) j = w_ei w4 (w_ar ws (n_v vs 0) 14) j := el_kp s4.1 r2 cr_0_14 (by decide)
  have hK_0_14 := elq_34 hD hth cr_0_14
  have hE_0_15_1 : ∀ j : Int, w_ei ws (w_ar ws (n_v vs 0) 15) j = w_ei w1 (w_ar ws (n_v vs 0) 15) j := el_kp s1.1 r15 cr_0_15 (by decide)
  have hE_0_15_2 : ∀ j : Int, w_ei w1 (w_ar ws (n_v vs 0) 15) j = w_ei w2 (w_ar ws (n_v vs 0) 15) j := el_kp s2.1 r15 cr_0_15 (by decide)
  have hE_0_15_3 : ∀ j : Int, 0 ≤ j → (j = v_iv (n_v vs 14) → w_ei w2 (w_ar ws (n_v vs 0) 15) j = v_iv (n_v vs 1)) ∧ (j ≠ v_iv (n_v vs 14) → w_ei w2 (w_ar ws (n_v vs 0) 15) j = w_ei w3 (w_ar ws (n_v vs 0) 15) j) := fun j hj => ⟨fun h => by unfold w_ei; rw [s3.1, if_pos ⟨ad_2.symm, by rw [h]⟩], fun h => by unfold w_ei; rw [s3.1, if_neg (fun e => h (by have := e.2; omega))]⟩
  have hE_0_15_4 : ∀ j : Int, 0 ≤ j → (j = v_iv (n_v vs 9) → w_ei w3 (w_ar ws (n_v vs 0) 15) j = v_iv (n_v vs 1)) ∧ (j ≠ v_iv (n_v vs 9) → w_ei w3 (w_ar ws (n_v vs 0) 15) j = w_ei w4 (w_ar ws (n_v vs 0) 15) j) := fun j hj => ⟨fun h => by unfold w_ei; rw [s4.1, if_pos ⟨ad_2.symm, by rw [h]⟩], fun h => by unfold w_ei; rw [s4.1, if_neg (fun e => h (by have := e.2; omega))]⟩
  have hK_0_15 := elq_29 hD hth cr_0_15
  have kz_0_0 := fdq_77 hD hth r0
  have kz_0_1 := fdq_78 hD hth r0
  have nf0 : fc_1 PRD (20, [0, 1], [60, 1, 3, 748, 0, 14, 7, 8]) ws (vs) := ⟨nf_in hl rfl, sgq_404 (vc_Gr_tie_at_Gq_0_0 (v_iv (n_v vs 1)) (v_iv (n_v vs 4)) (v_iv (n_v vs 8)) (v_iv (n_v vs 9)) (v_iv (n_v vs 10)) (v_iv (n_v vs 13)) (v_iv (n_v vs 14)) (v_iv (n_v vs 16)) (v_iv (n_v vs 17)) (v_iv (n_v vs 18)) (v_iv (n_v vs 19)) (v_iv (n_v vs 20)) (v_iv (n_v vs 21)) (v_iv (n_v vs 22)) (v_iv (n_v vs 23)) (v_iv (n_v vs 24)) (v_iv (n_v vs 25)) (v_iv (n_v vs 26)) (v_iv (n_v vs 27)) (w_ei ws (w_ar ws (n_v vs 0) 7)) (w_ei ws (w_ar ws (n_v vs 0) 8)) (w_fi ws (n_v vs 0) 0) (w_fi ws (n_v vs 0) 1) (w_ei w1 (w_ar ws (n_v vs 0) 7)) (w_ei w1 (w_ar ws (n_v vs 0) 14)) (w_ei w1 (w_ar ws (n_v vs 0) 8)) (w_fi w1 (n_v vs 0) 0) (w_fi w1 (n_v vs 0) 1) (w_ei w2 (w_ar ws (n_v vs 0) 8)) (w_ei w2 (w_ar ws (n_v vs 0) 14)) (w_ei w2 (w_ar ws (n_v vs 0) 7)) (w_fi w2 (n_v vs 0) 0) (w_fi w2 (n_v vs 0) 1) (w_ei w3 (w_ar ws (n_v vs 0) 7)) (w_ei w3 (w_ar ws (n_v vs 0) 8)) (w_ei w3 (w_ar ws (n_v vs 0) 14)) (w_fi w3 (n_v vs 0) 0) (w_fi w3 (n_v vs 0) 1) (w_ei w4 (w_ar ws (n_v vs 0) 8)) (w_ei w4 (w_ar ws (n_v vs 0) 7)) (w_ei w4 (w_ar ws (n_v vs 0) 14)) (w_fi w4 (n_v vs 0) 0) (w_fi w4 (n_v vs 0) 1) (w_ei ws (w_ar ws (n_v vs 0) 14)) (w_ei ws (w_ar ws (n_v vs 0) 15)) (w_ei w1 (w_ar ws (n_v vs 0) 15)) (w_ei w2 (w_ar ws (n_v vs 0) 15)) (w_ei w3 (w_ar ws (n_v vs 0) 15)) (w_ei w4 (w_ar ws (n_v vs 0) 15)) k1 k4 k8 k9 k10 k13 k14 k16 k17 k18 k19 k20 k21 k22 k23 k24 k25 k26 k27 d0 d1 (shm_401 f4) (shm_402 f5) f7 (shm_372 f8) (shm_367 f9) h10 h11 h12 f13 (shm_402 f14) f16 (shm_372 f17) (shm_367 f18) h19 h20 h21 f22 f23 (shm_402 f24) h26 h27 f28 f29 (shm_402 f30) h32 h33 f34 f35 (shm_402 f36) fe_0_0_1 fe_0_1_1 fe_0_0_2 fe_0_1_2 fe_0_0_3 fe_0_1_3 fe_0_0_4 fe_0_1_4 hE_0_7_1 hE_0_7_2 hE_0_7_3 hE_0_7_4 hK_0_7 hE_0_8_1 hE_0_8_2 hE_0_8_3 hE_0_8_4 hK_0_8 hE_0_14_1 hE_0_14_2 hE_0_14_3 hE_0_14_4 hK_0_14 hE_0_15_1 hE_0_15_2 hE_0_15_3 hE_0_15_4 hK_0_15 kz_0_0 kz_0_1)⟩
  refine ⟨(fun _ h => (by cases h)), [], trivial, ?_, (fun _ h => (by cases h))⟩
  rw [List.append_nil]
  exact List.forall_mem_cons.mpr ⟨⟨show (20 : Nat) < 100 from by decide, nf0⟩, (fun _ h => (by cases h))⟩
def n_Gr_tie_at_Gq_an : List an_T := []
def t_Gr_tie_at_Gq_ct : ct_L := []
set_option maxRecDepth 100000 in
theorem c_Gr_tie_at_Gq {l : Launch} {D : va_G} {kA : Nat → ClassId} : ct_ok PRD l D kA GG y_Gr_tie_at_Gq z_Gr_tie_at_Gq e_Gr_tie_at_Gq := chk_all_ok (FT := [(35, 3, 7), (38, 3, 8), (56, 3, 14), (59, 3, 15)]) (PT := []) (CT := t_Gr_tie_at_Gq_ct) (KT := []) (NT := []) (AN := n_Gr_tie_at_Gq_an) (OT := [o_Gr_tie_at_Gq_0]) 0 252 (List.forall_mem_cons.mpr ⟨oo_Gr_tie_at_Gq_0, List.forall_mem_nil _⟩) (by decide +kernel) ⟨List.forall_mem_cons.mpr ⟨gf_Gr_35, List.forall_mem_cons.mpr ⟨gf_Gr_38, List.forall_mem_cons.mpr ⟨gf_Gr_56, List.forall_mem_cons.mpr ⟨gf_Gr_59, List.forall_mem_nil _⟩⟩⟩⟩, List.forall_mem_nil _, List.forall_mem_nil _, List.forall_mem_nil _, List.forall_mem_nil _, GG_pl⟩ (by decide +kernel)
set_option maxHeartbeats 4000000 in
theorem vc_Gr_tie_at_Gr_0_0 (x1 : Int) (x4 : Int) (x8 : Int) (x9 : Int) (x10 : Int) (x13 : Int) (x14 : Int) (x16 : Int) (x17 : Int) (x18 : Int) (x19 : Int) (x20 : Int) (x21 : Int) (x22 : Int) (x23 : Int) (x24 : Int) (x25 : Int) (x26 : Int) (x27 : Int) (tail_0 : Int → Int) (head_0 : Int → Int) (nodes_0 : Int) (edges_0 : Int) (tail_1 : Int → Int) (near_1 : Int → Int) (head_1 : Int → Int) (nodes_1 : Int) (edges_1 : Int) (head_2 : Int → Int) (near_2 : Int → Int) (tail_2 : Int → Int) (nodes_2 : Int) (edges_2 : Int) (tail_3 : Int → Int) (head_3 : Int → Int) (near_3 : Int → Int) (nodes_3 : Int) (edges_3 : Int) (head_4 : Int → Int) (tail_4 : Int → Int) (near_4 : Int → Int) (nodes_4 : Int) (edges_4 : Int) (near_0 : Int → Int) (link_0 : Int → Int) (link_1 : Int → Int) (link_2 : Int → Int) (link_3 : Int → Int) (link_4 : Int → Int) (k1 : 0 ≤ x1 ∧ x1 ≤ 47) (k4 : 0 ≤ x4 ∧ x4 ≤ 23) (k8 : 0 ≤ x8 ∧ x8 ≤ 23) (k9 : 0 ≤ x9 ∧ x9 ≤ 575) (k10 : 0 ≤ x10 ∧ x10 ≤ 23) (k13 : 0 ≤ x13 ∧ x13 ≤ 23) (k14 : 0 ≤ x14 ∧ x14 ≤ 575) (k16 : 0 ≤ x16 ∧ x16 ≤ 23) (k17 : 0 ≤ x17 ∧ x17 ≤ 16777215) (k18 : 1 ≤ x18 ∧ x18 ≤ 1) (k19 : 0 ≤ x19 ∧ x19 ≤ 23) (k20 : 1 ≤ x20 ∧ x20 ≤ 8388608) (k21 : 0 ≤ x21 ∧ x21 ≤ 16777215) (k22 : 0 ≤ x22 ∧ x22 ≤ 23) (k23 : 0 ≤ x23 ∧ x23 ≤ 16777215) (k24 : 1 ≤ x24 ∧ x24 ≤ 1) (k25 : 0 ≤ x25 ∧ x25 ≤ 23) (k26 : 1 ≤ x26 ∧ x26 ≤ 8388608) (k27 : 0 ≤ x27 ∧ x27 ≤ 16777215) (d0 : x13 + 0 ≤ x14 ∧ x14 ≤ x13 + 552) (d1 : x8 + 0 ≤ x9 ∧ x9 ≤ x8 + 552) (f4 : GKE (nodes_0) (edges_0) (tail_0) (head_0)) (f5 : (0 ≤ x1) ∧ ((x1 + 1) ≤ edges_0)) (f7 : x27 ≤ x23 + x26 ∧ x23 ≤ x27 ∧ x26 ≤ x27) (f8 : bvp (x27) = bvp (x23) ||| bvp (x26)) (f9 : bvp (x26) = bvp (x24) <<< (x25).toNat) (h10 : x25 = tail_1 (x1)) (h11 : x23 = near_1 (x22)) (h12 : x22 = head_1 (x1)) (f13 : GKE (nodes_1) (edges_1) (tail_1) (head_1)) (f14 : (0 ≤ x1) ∧ ((x1 + 1) ≤ edges_1)) (f16 : x21 ≤ x17 + x20 ∧ x17 ≤ x21 ∧ x20 ≤ x21) (f17 : bvp (x21) = bvp (x17) ||| bvp (x20)) (f18 : bvp (x20) = bvp (x18) <<< (x19).toNat) (h19 : x19 = head_2 (x1)) (h20 : x17 = near_2 (x16)) (h21 : x16 = tail_2 (x1)) (f22 : GNK (nodes_2) (near_2) (tail_2) (head_2) (x1)) (f23 : GKE (nodes_2) (edges_2) (tail_2) (head_2)) (f24 : (0 ≤ x1) ∧ ((x1 + 1) ≤ edges_2)) (h26 : x13 = tail_3 (x1)) (h27 : x10 = head_3 (x1)) (f28 : GNK (nodes_3) (near_3) (tail_3) (head_3) (x1)) (f29 : GKE (nodes_3) (edges_3) (tail_3) (head_3)) (f30 : (0 ≤ x1) ∧ ((x1 + 1) ≤ edges_3)) (h32 : x8 = head_4 (x1)) (h33 : x4 = tail_4 (x1)) (f34 : GNK (nodes_4) (near_4) (tail_4) (head_4) (x1)) (f35 : GKE (nodes_4) (edges_4) (tail_4) (head_4)) (f36 : (0 ≤ x1) ∧ ((x1 + 1) ≤ edges_4)) (fe_0_0_1 : nodes_0 = nodes_1) (fe_0_1_1 : edges_0 = edges_1) (fe_0_0_2 : nodes_1 = nodes_2) (fe_0_1_2 : edges_1 = edges_2) (fe_0_0_3 : nodes_2 = nodes_3) (fe_0_1_3 : edges_2 = edges_3) (fe_0_0_4 : nodes_3 = nodes_4) (fe_0_1_4 : edges_3 = edges_4) (hE_0_7_1 : ∀ j : Int, tail_0 j = tail_1 j) (hE_0_7_2 : ∀ j : Int, tail_1 j = tail_2 j) (hE_0_7_3 : ∀ j : Int, tail_2 j = tail_3 j) (hE_0_7_4 : ∀ j : Int, tail_3 j = tail_4 j) (hK_0_7 : ∀ j : Int, 0 ≤ j → j < 48 → 0 ≤ tail_0 j ∧ tail_0 j ≤ 23) (hE_0_8_1 : ∀ j : Int, head_0 j = head_1 j) (hE_0_8_2 : ∀ j : Int, head_1 j = head_2 j) (hE_0_8_3 : ∀ j : Int, head_2 j = head_3 j) (hE_0_8_4 : ∀ j : Int, head_3 j = head_4 j) (hK_0_8 : ∀ j : Int, 0 ≤ j → j < 48 → 0 ≤ head_0 j ∧ head_0 j ≤ 23) (hE_0_14_1 : ∀ j : Int, 0 ≤ j → (j = x22 → near_0 j = x27) ∧ (j ≠ x22 → near_0 j = near_1 j)) (hE_0_14_2 : ∀ j : Int, 0 ≤ j → (j = x16 → near_1 j = x21) ∧ (j ≠ x16 → near_1 j = near_2 j)) (hE_0_14_3 : ∀ j : Int, near_2 j = near_3 j) (hE_0_14_4 : ∀ j : Int, near_3 j = near_4 j) (hK_0_14 : ∀ j : Int, 0 ≤ j → j < 24 → 0 ≤ near_0 j ∧ near_0 j ≤ 16777215) (hE_0_15_1 : ∀ j : Int, link_0 j = link_1 j) (hE_0_15_2 : ∀ j : Int, link_1 j = link_2 j) (hE_0_15_3 : ∀ j : Int, 0 ≤ j → (j = x14 → link_2 j = x1) ∧ (j ≠ x14 → link_2 j = link_3 j)) (hE_0_15_4 : ∀ j : Int, 0 ≤ j → (j = x9 → link_3 j = x1) ∧ (j ≠ x9 → link_3 j = link_4 j)) (hK_0_15 : ∀ j : Int, 0 ≤ j → j < 576 → (-1) ≤ link_0 j ∧ link_0 j ≤ 47) (kz_0_0 : 0 ≤ nodes_0 ∧ nodes_0 ≤ 24) (kz_0_1 : 0 ≤ edges_0 ∧ edges_0 ≤ 48) : GNL (nodes_0) (near_0) (tail_0) (head_0) (x1) := by
  subst fe_0_0_1
  subst fe_0_1_1
  subst fe_0_0_2
  subst fe_0_1_2
  subst fe_0_0_3
  subst fe_0_1_3
  subst fe_0_0_4
  subst fe_0_1_4
  have e_hE_0_7_1 := funext hE_0_7_1; subst e_hE_0_7_1
  have e_hE_0_7_2 := funext hE_0_7_2; subst e_hE_0_7_2
  have e_hE_0_7_3 := funext hE_0_7_3; subst e_hE_0_7_3
  have e_hE_0_7_4 := funext hE_0_7_4; subst e_hE_0_7_4
  have e_hE_0_8_1 := funext hE_0_8_1; subst e_hE_0_8_1
  have e_hE_0_8_2 := funext hE_0_8_2; subst e_hE_0_8_2
  have e_hE_0_8_3 := funext hE_0_8_3; subst e_hE_0_8_3
  have e_hE_0_8_4 := funext hE_0_8_4; subst e_hE_0_8_4
  have e_hE_0_14_3 := funext hE_0_14_3; subst e_hE_0_14_3
  have e_hE_0_14_4 := funext hE_0_14_4; subst e_hE_0_14_4
  have e_hE_0_15_1 := funext hE_0_15_1; subst e_hE_0_15_1
  have e_hE_0_15_2 := funext hE_0_15_2; subst e_hE_0_15_2
  first
    | (have g := ‹GKE _ _ _ _› x1 (by omega) (by omega); exact gnk_tie (k := x1) (a := x16) (b := x22) (x := x21) (y := x27) (q1 := x20) (q2 := x26) (z1 := x17) (z2 := x23) (o1 := x18) (o2 := x24) (s1 := x19) (s2 := x25) ‹GNK _ _ _ _ _› (fun e a b => by have q := ‹GKE _ _ _ _› e a (by omega); exact ⟨by omega, by omega⟩) (by omega) (by omega) (by omega) (by omega) (by omega) (by omega) (by omega) (by omega) (by omega) (by assumption) (by omega) (by omega) (by assumption) (by assumption) hE_0_14_2 (by assumption) (by omega) (by omega) (by assumption) (by assumption) hE_0_14_1)
  
def o_Gr_tie_at_Gr_0 : or_T := (88, 28, [(0, (2, 0, 0, [3])), (1, (0, 0, 47, [])), (2, (2, 0, 0, [60])), (4, (0, 0, 23, [])), (8, (0, 0, 23, [])), (9, (0, 0, 575, [])), (10, (0, 0, 23, [])), (13, (0, 0, 23, [])), (14, (0, 0, 575, [])), (15, (2, 0, 0, [59])), (16, (0, 0, 23, [])), (17, (0, 0, 16777215, [])), (18, (0, 1, 1, [])), (19, (0, 0, 23, [])), (20, (0, 1, 8388608, [])), (21, (0, 0, 16777215, [])), (22, (0, 0, 23, [])), (23, (0, 0, 16777215, [])), (24, (0, 1, 1, [])), (25, (0, 0, 23, [])), (26, (0, 1, 8388608, [])), (27, (0, 0, 16777215, []))], [(9, [15, 0], [14]), (9, [7, 0], [8]), (9, [3, 0], [7]), (9, [2, 0], [15]), (20, [0], [60, 2, 2, 596, 0, 1, 7, 8]), (20, [1, 0], [50, 1, 0, 1001, 2, 6, 0, 2, 0, 0, 1, 0, 0, 6, 4, 2, 1, 0, 0, 1, 2, 1, 1]), (100, [15, 22, 27], []), (13, [27, 23, 26], []), (16, [27, 23, 26], [1]), (16, [26, 24, 25], [3]), (10, [25, 3, 1], []), (10, [23, 15, 22], []), (10, [22, 7, 1], []), (20, [0], [60, 2, 2, 596, 0, 1, 7, 8]), (20, [1, 0], [50, 1, 0, 1001, 2, 6, 0, 2, 0, 0, 1, 0, 0, 6, 4, 2, 1, 0, 0, 1, 2, 1, 1]), (100, [15, 16, 21], []), (13, [21, 17, 20], []), (16, [21, 17, 20], [1]), (16, [20, 18, 19], [3]), (10, [19, 7, 1], []), (10, [17, 15, 16], []), (10, [16, 3, 1], []), (20, [0, 1], [60, 1, 3, 747, 0, 14, 7, 8]), (20, [0], [60, 2, 2, 596, 0, 1, 7, 8]), (20, [1, 0], [50, 1, 0, 1001, 2, 6, 0, 2, 0, 0, 1, 0, 0, 6, 4, 2, 1, 0, 0, 1, 2, 1, 1]), (100, [2, 14, 1], []), (10, [13, 3, 1], []), (10, [10, 7, 1], []), (20, [0, 1], [60, 1, 3, 747, 0, 14, 7, 8]), (20, [0], [60, 2, 2, 596, 0, 1, 7, 8]), (20, [1, 0], [50, 1, 0, 1001, 2, 6, 0, 2, 0, 0, 1, 0, 0, 6, 4, 2, 1, 0, 0, 1, 2, 1, 1]), (100, [2, 9, 1], []), (10, [8, 7, 1], []), (10, [4, 3, 1], []), (20, [0, 1], [60, 1, 3, 747, 0, 14, 7, 8]), (20, [0], [60, 2, 2, 596, 0, 1, 7, 8]), (20, [1, 0], [50, 1, 0, 1001, 2, 6, 0, 2, 0, 0, 1, 0, 0, 6, 4, 2, 1, 0, 0, 1, 2, 1, 1])], [], [], [(20, [0, 1], [60, 1, 3, 748, 0, 14, 7, 8])], [], [(14, 13, 0, 552), (9, 8, 0, 552)])
theorem oo_Gr_tie_at_Gr_0 {kA : Nat → ClassId} : or_ok PRD kA GG o_Gr_tie_at_Gr_0 := by
  refine or_mk fun A ta ws vs hD hth hl => ?_
  intro t0 r0 t1 k1 t2 r2 t4 k4 t8 k8 t9 k9 t10 k10 t13 k13 t14 k14 t15 r15 t16 k16 t17 k17 t18 k18 t19 k19 t20 k20 t21 k21 t22 k22 t23 k23 t24 k24 t25 k25 t26 k26 t27 k27 d0 d1 f0 f1 f2 f3 f4 f5 ta1 w1 le1 s1 f7 f8 f9 f10 f11 f12 f13 f14 ta2 w2 le2 s2 f16 f17 f18 f19 f20 f21 f22 f23 f24 ta3 w3 le3 s3 f26 f27 f28 f29 f30 ta4 w4 le4 s4 f32 f33 f34 f35 f36
  replace f0 := shm_116 f0
  replace f1 := shm_143 f1
  replace f2 := shm_216 f2
  replace f3 := shm_189 f3
  have s1 : (∀ b j, w_el ws b j = if b = v_ad (n_v vs 15) ∧ j = (v_iv (n_v vs 22)).toNat then v_iv (n_v vs 27) else w_el w1 b j) ∧ ∀ b k, w_fd ws b k = w_fd w1 b k := s1.2
  have f7 : v_iv (n_v vs 27) ≤ v_iv (n_v vs 23) + v_iv (n_v vs 26) ∧ v_iv (n_v vs 23) ≤ v_iv (n_v vs 27) ∧ v_iv (n_v vs 26) ≤ v_iv (n_v vs 27) := (fun (h : v_iv (n_v vs 27) ≤ v_iv (n_v vs 23) + v_iv (n_v vs 26) ∧ v_iv (n_v vs 23) ≤ v_iv (n_v vs 27) ∧ v_iv (n_v vs 26) ≤ v_iv (n_v vs 27) ∧ (v_iv (n_v vs 27)).toNat = (v_iv (n_v vs 23)).toNat ||| (v_iv (n_v vs 26)).toNat) => ⟨h.1, h.2.1, h.2.2.1⟩) f7
  replace f10 := shm_106 f10
  replace f11 := shm_106 f11
  replace f12 := shm_106 f12
  replace f13 := shm_401 f13
  have s2 : (∀ b j, w_el w1 b j = if b = v_ad (n_v vs 15) ∧ j = (v_iv (n_v vs 16)).toNat then v_iv (n_v vs 21) else w_el w2 b j) ∧ ∀ b k, w_fd w1 b k = w_fd w2 b k := s2.2
  have f16 : v_iv (n_v vs 21) ≤ v_iv (n_v vs 17) + v_iv (n_v vs 20) ∧ v_iv (n_v vs 17) ≤ v_iv (n_v vs 21) ∧ v_iv (n_v vs 20) ≤ v_iv (n_v vs 21) := (fun (h : v_iv (n_v vs 21) ≤ v_iv (n_v vs 17) + v_iv (n_v vs 20) ∧ v_iv (n_v vs 17) ≤ v_iv (n_v vs 21) ∧ v_iv (n_v vs 20) ≤ v_iv (n_v vs 21) ∧ (v_iv (n_v vs 21)).toNat = (v_iv (n_v vs 17)).toNat ||| (v_iv (n_v vs 20)).toNat) => ⟨h.1, h.2.1, h.2.2.1⟩) f16
  replace f19 := shm_106 f19
  replace f20 := shm_106 f20
  replace f21 := shm_106 f21
  replace f22 := shm_403 f22
  replace f23 := shm_401 f23
  have s3 : (∀ b j, w_el w2 b j = if b = v_ad (n_v vs 2) ∧ j = (v_iv (n_v vs 14)).toNat then v_iv (n_v vs 1) else w_el w3 b j) ∧ ∀ b k, w_fd w2 b k = w_fd w3 b k := s3.2
  replace f26 := shm_106 f26
  replace f27 := shm_106 f27
  replace f28 := shm_403 f28
  replace f29 := shm_401 f29
  have s4 : (∀ b j, w_el w3 b j = if b = v_ad (n_v vs 2) ∧ j = (v_iv (n_v vs 9)).toNat then v_iv (n_v vs 1) else w_el w4 b j) ∧ ∀ b k, w_fd w3 b k = w_fd w4 b k := s4.2
  replace f32 := shm_106 f32
  replace f33 := shm_106 f33
  replace f34 := shm_403 f34
  replace f35 := shm_401 f35
  have ar_0_7_1 : w_ar w1 (n_v vs 0) 7 = w_ar ws (n_v vs 0) 7 := congrArg v_ad (s1.2 _ _).symm
  have ar_0_7_2 : w_ar w2 (n_v vs 0) 7 = w_ar ws (n_v vs 0) 7 := by rw [← ar_0_7_1]; show v_ad (w_fd w2 _ _) = v_ad (w_fd w1 _ _); rw [s2.2]
  have ar_0_7_3 : w_ar w3 (n_v vs 0) 7 = w_ar ws (n_v vs 0) 7 := by rw [← ar_0_7_2]; show v_ad (w_fd w3 _ _) = v_ad (w_fd w2 _ _); rw [s3.2]
  have ar_0_7_4 : w_ar w4 (n_v vs 0) 7 = w_ar ws (n_v vs 0) 7 := by rw [← ar_0_7_3]; show v_ad (w_fd w4 _ _) = v_ad (w_fd w3 _ _); rw [s4.2]
  have cr_0_7 := fdq_52 hD hth r0
  have ar_0_8_1 : w_ar w1 (n_v vs 0) 8 = w_ar ws (n_v vs 0) 8 := congrArg v_ad (s1.2 _ _).symm
  have ar_0_8_2 : w_ar w2 (n_v vs 0) 8 = w_ar ws (n_v vs 0) 8 := by rw [← ar_0_8_1]; show v_ad (w_fd w2 _ _) = v_ad (w_fd w1 _ _); rw [s2.2]
  have ar_0_8_3 : w_ar w3 (n_v vs 0) 8 = w_ar ws (n_v vs 0) 8 := by rw [← ar_0_8_2]; show v_ad (w_fd w3 _ _) = v_ad (w_fd w2 _ _); rw [s3.2]
  have ar_0_8_4 : w_ar w4 (n_v vs 0) 8 = w_ar ws (n_v vs 0) 8 := by rw [← ar_0_8_3]; show v_ad (w_fd w4 _ _) = v_ad (w_fd w3 _ _); rw [s4.2]
  have cr_0_8 := fdq_53 hD hth r0
  have ar_0_14_1 : w_ar w1 (n_v vs 0) 14 = w_ar ws (n_v vs 0) 14 := congrArg v_ad (s1.2 _ _).symm
  have ar_0_14_2 : w_ar w2 (n_v vs 0) 14 = w_ar ws (n_v vs 0) 14 := by rw [← ar_0_14_1]; show v_ad (w_fd w2 _ _) = v_ad (w_fd w1 _ _); rw [s2.2]
  have ar_0_14_3 : w_ar w3 (n_v vs 0) 14 = w_ar ws (n_v vs 0) 14 := by rw [← ar_0_14_2]; show v_ad (w_fd w3 _ _) = v_ad (w_fd w2 _ _); rw [s3.2]
  have ar_0_14_4 : w_ar w4 (n_v vs 0) 14 = w_ar ws (n_v vs 0) 14 := by rw [← ar_0_14_3]; show v_ad (w_fd w4 _ _) = v_ad (w_fd w3 _ _); rw [s4.2]
  have cr_0_14 := fdq_79 hD hth r0
  have cr_0_15 := fdq_72 hD hth r0
  have ad_15 : v_ad (n_v vs 15) = w_ar ws (n_v vs 0) 14 := congrArg v_ad f0
  have ad_7 : v_ad (n_v vs 7) = w_ar ws (n_v vs 0) 8 := congrArg v_ad f1
  have ad_3 : v_ad (n_v vs 3) = w_ar ws (n_v vs 0) 7 := congrArg v_ad f2
  have ad_2 : v_ad (n_v vs 2) = w_ar ws (n_v vs 0) 15 := congrArg v_ad f3
  simp only [ad_3] at f10
  have h10 : v_iv (n_v vs 25) = w_ei w1 (w_ar ws (n_v vs 0) 7) (v_iv (n_v vs 1)) := f10
  simp only [ad_15] at f11
  have h11 : v_iv (n_v vs 23) = w_ei w1 (w_ar ws (n_v vs 0) 14) (v_iv (n_v vs 22)) := f11
  simp only [ad_7] at f12
  have h12 : v_iv (n_v vs 22) = w_ei w1 (w_ar ws (n_v vs 0) 8) (v_iv (n_v vs 1)) := f12
  simp only [ar_0_7_1, ar_0_8_1, ad_7] at f13 f19
  have h19 : v_iv (n_v vs 19) = w_ei w2 (w_ar ws (n_v vs 0) 8) (v_iv (n_v vs 1)) := f19
  simp only [ad_15] at f20
  have h20 : v_iv (n_v vs 17) = w_ei w2 (w_ar ws (n_v vs 0) 14) (v_iv (n_v vs 16)) := f20
  simp only [ad_3] at f21
  have h21 : v_iv (n_v vs 16) = w_ei w2 (w_ar ws (n_v vs 0) 7) (v_iv (n_v vs 1)) := f21
  simp only [ar_0_7_2, ar_0_8_2, ar_0_14_2, ad_3] at f22 f23 f26
  have h26 : v_iv (n_v vs 13) = w_ei w3 (w_ar ws (n_v vs 0) 7) (v_iv (n_v vs 1)) := f26
  simp only [ad_7] at f27
  have h27 : v_iv (n_v vs 10) = w_ei w3 (w_ar ws (n_v vs 0) 8) (v_iv (n_v vs 1)) := f27
  simp only [ar_0_7_3, ar_0_8_3, ar_0_14_3, ad_7] at f28 f29 f32
  have h32 : v_iv (n_v vs 8) = w_ei w4 (w_ar ws (n_v vs 0) 8) (v_iv (n_v vs 1)) := f32
  simp only [ad_3] at f33
  have h33 : v_iv (n_v vs 4) = w_ei w4 (w_ar ws (n_v vs 0) 7) (v_iv (n_v vs 1)) := f33
  simp only [ar_0_7_4, ar_0_8_4, ar_0_14_4] at f34 f35
  have fe_0_0_1 : w_fi ws (n_v vs 0) 0 = w_fi w1 (n_v vs 0) 0 := congrArg v_iv (s1.2 _ _)
  have fe_0_1_1 : w_fi ws (n_v vs 0) 1 = w_fi w1 (n_v vs 0) 1 := congrArg v_iv (s1.2 _ _)
  have fe_0_0_2 : w_fi w1 (n_v vs 0) 0 = w_fi w2 (n_v vs 0) 0 := congrArg v_iv (s2.2 _ _)
  have fe_0_1_2 : w_fi w1 (n_v vs 0) 1 = w_fi w2 (n_v vs 0) 1 := congrArg v_iv (s2.2 _ _)
  have fe_0_0_3 : w_fi w2 (n_v vs 0) 0 = w_fi w3 (n_v vs 0) 0 := congrArg v_iv (s3.2 _ _)
  have fe_0_1_3 : w_fi w2 (n_v vs 0) 1 = w_fi w3 (n_v vs 0) 1 := congrArg v_iv (s3.2 _ _)
  have fe_0_0_4 : w_fi w3 (n_v vs 0) 0 = w_fi w4 (n_v vs 0) 0 := congrArg v_iv (s4.2 _ _)
  have fe_0_1_4 : w_fi w3 (n_v vs 0) 1 = w_fi w4 (n_v vs 0) 1 := congrArg v_iv (s4.2 _ _)
  have hE_0_7_1 : ∀ j : Int, w_ei ws (w_ar ws (n_v vs 0) 7) j = w_ei w1 (w_ar ws (n_v vs 0) 7) j := el_kp s1.1 r15 cr_0_7 (by decide)
  have hE_0_7_2 : ∀ j : Int, w_ei w1 (w_ar ws (n_v vs 0) 7) j = w_ei w2 (w_ar ws (n_v vs 0) 7) j := el_kp s2.1 r15 cr_0_7 (by decide)
  have hE_0_7_3 : ∀ j : Int, w_ei w2 (w_ar ws (n_v vs 0) 7) j = w_ei w3 (w_ar ws (n_v vs 0) 7) j := el_kp s3.1 r2 cr_0_7 (by decide)
  have hE_0_7_4 : ∀ j : Int, w_ei w3 (w_ar ws (n_v vs 0) 7) j = w_ei w4 (w_ar ws (n_v vs 0) 7) j := el_kp s4.1 r2 cr_0_7 (by decide)
  have hK_0_7 := elq_10 hD hth cr_0_7
  have hE_0_8_1 : ∀ j : Int, w_ei ws (w_ar ws (n_v vs 0) 8) j = w_ei w1 (w_ar ws (n_v vs 0) 8) j := el_kp s1.1 r15 cr_0_8 (by decide)
  have hE_0_8_2 : ∀ j : Int, w_ei w1 (w_ar ws (n_v vs 0) 8) j = w_ei w2 (w_ar ws (n_v vs 0) 8) j := el_kp s2.1 r15 cr_0_8 (by decide)
  have hE_0_8_3 : ∀ j : Int, w_ei w2 (w_ar ws (n_v vs 0) 8) j = w_ei w3 (w_ar ws (n_v vs 0) 8) j := el_kp s3.1 r2 cr_0_8 (by decide)
  have hE_0_8_4 : ∀ j : Int, w_ei w3 (w_ar ws (n_v vs 0) 8) j = w_ei w4 (w_ar ws (n_v vs 0) 8) j := el_kp s4.1 r2 cr_0_8 (by decide)
  have hK_0_8 := elq_11 hD hth cr_0_8
  have hE_0_14_1 : ∀ j : Int, 0 ≤ j → (j = v_iv (n_v vs 22) → w_ei ws (w_ar ws (n_v vs 0) 14) j = v_iv (n_v vs 27)) ∧ (j ≠ v_iv (n_v vs 22) → w_ei ws (w_ar ws (n_v vs 0) 14) j = w_ei w1 (w_ar ws (n_v vs 0) 14) j) := fun j hj => ⟨fun h => by unfold w_ei; rw [s1.1, if_pos ⟨ad_15.symm, by rw [h]⟩], fun h => by unfold w_ei; rw [s1.1, if_neg (fun e => h (by have := e.2; omega))]⟩
  have hE_0_14_2 : ∀ j : Int, 0 ≤ j → (j = v_iv (n_v vs 16) → w_ei w1 (w_ar ws (n_v vs 0) 14) j = v_iv (n_v vs 21)) ∧ (j ≠ v_iv (n_v vs 16) → w_ei w1 (w_ar ws (n_v vs 0) 14) j = w_ei w2 (w_ar ws (n_v vs 0) 14) j) := fun j hj => ⟨fun h => by unfold w_ei; rw [s2.1, if_pos ⟨ad_15.symm, by rw [h]⟩], fun h => by unfold w_ei; rw [s2.1, if_neg (fun e => h (by have := e.2; omega))]⟩
  have hE_0_14_3 : ∀ j : Int, w_ei w2 (w_ar ws (n_v vs 0) 14) j = w_ei w3 (w_ar ws (n_v vs 0) 14) j := el_kp s3.1 r2 cr_0_14 (by decide)
  have hE_0_14_4 : ∀ j : Int, w_ei w3 (w_ar ws (n_v vs 0) 14) j = w_ei w4 (w_ar ws (n_v vs 0) 14) j := el_kp s4.1 r2 cr_0_14 (by decide)
  have hK_0_14 := elq_24 hD hth cr_0_14
  have hE_0_15_1 : ∀ j : Int, w_ei ws (w_ar ws (n_v vs 0) 15) j = w_ei w1 (w_ar ws (n_v vs 0) 15) j := el_kp s1.1 r15 cr_0_15 (by decide)
  have hE_0_15_2 : ∀ j : Int, w_ei w1 (w_ar ws (n_v vs 0) 15) j = w_ei w2 (w_ar ws (n_v vs 0) 15) j := el_kp s2.1 r15 cr_0_15 (by decide)
  have hE_0_15_3 : ∀ j : Int, 0 ≤ j → (j = v_iv (n_v vs 14) → w_ei w2 (w_ar ws (n_v vs 0) 15) j = v_iv (n_v vs 1)) ∧ (j ≠ v_iv (n_v vs 14) → w_ei w2 (w_ar ws (n_v vs 0) 15) j = w_ei w3 (w_ar ws (n_v vs 0) 15) j) := fun j hj => ⟨fun h => by unfold w_ei; rw [s3.1, if_pos ⟨ad_2.symm, by rw [h]⟩], fun h => by unfold w_ei; rw [s3.1, if_neg (fun e => h (by have := e.2; omega))]⟩
  have hE_0_15_4 : ∀ j : Int, 0 ≤ j → (j = v_iv (n_v vs 9) → w_ei w3 (w_ar ws (n_v vs 0) 15) j = v_iv (n_v vs 1)) ∧ (j ≠ v_iv (n_v vs 9) → w_ei w3 (w_ar ws (n_v vs 0) 15) j = w_ei w4 (w_ar ws (n_v vs 0) 15) j) := fun j hj => ⟨fun h => by unfold w_ei; rw [s4.1, if_pos ⟨ad_2.symm, by rw [h]⟩], fun h => by unfold w_ei; rw [s4.1, if_neg (fun e => h (by have := e.2; omega))]⟩
  have hK_0_15 := elq_30 hD hth cr_0_15
  have kz_0_0 := fdq_23 hD hth r0
  have kz_0_1 := fdq_38 hD hth r0
  have nf0 : fc_1 PRD (20, [0, 1], [60, 1, 3, 748, 0, 14, 7, 8]) ws (vs) := ⟨nf_in hl rfl, sgq_404 (vc_Gr_tie_at_Gr_0_0 (v_iv (n_v vs 1)) (v_iv (n_v vs 4)) (v_iv (n_v vs 8)) (v_iv (n_v vs 9)) (v_iv (n_v vs 10)) (v_iv (n_v vs 13)) (v_iv (n_v vs 14)) (v_iv (n_v vs 16)) (v_iv (n_v vs 17)) (v_iv (n_v vs 18)) (v_iv (n_v vs 19)) (v_iv (n_v vs 20)) (v_iv (n_v vs 21)) (v_iv (n_v vs 22)) (v_iv (n_v vs 23)) (v_iv (n_v vs 24)) (v_iv (n_v vs 25)) (v_iv (n_v vs 26)) (v_iv (n_v vs 27)) (w_ei ws (w_ar ws (n_v vs 0) 7)) (w_ei ws (w_ar ws (n_v vs 0) 8)) (w_fi ws (n_v vs 0) 0) (w_fi ws (n_v vs 0) 1) (w_ei w1 (w_ar ws (n_v vs 0) 7)) (w_ei w1 (w_ar ws (n_v vs 0) 14)) (w_ei w1 (w_ar ws (n_v vs 0) 8)) (w_fi w1 (n_v vs 0) 0) (w_fi w1 (n_v vs 0) 1) (w_ei w2 (w_ar ws (n_v vs 0) 8)) (w_ei w2 (w_ar ws (n_v vs 0) 14)) (w_ei w2 (w_ar ws (n_v vs 0) 7)) (w_fi w2 (n_v vs 0) 0) (w_fi w2 (n_v vs 0) 1) (w_ei w3 (w_ar ws (n_v vs 0) 7)) (w_ei w3 (w_ar ws (n_v vs 0) 8)) (w_ei w3 (w_ar ws (n_v vs 0) 14)) (w_fi w3 (n_v vs 0) 0) (w_fi w3 (n_v vs 0) 1) (w_ei w4 (w_ar ws (n_v vs 0) 8)) (w_ei w4 (w_ar ws (n_v vs 0) 7)) (w_ei w4 (w_ar ws (n_v vs 0) 14)) (w_fi w4 (n_v vs 0) 0) (w_fi w4 (n_v vs 0) 1) (w_ei ws (w_ar ws (n_v vs 0) 14)) (w_ei ws (w_ar ws (n_v vs 0) 15)) (w_ei w1 (w_ar ws (n_v vs 0) 15)) (w_ei w2 (w_ar ws (n_v vs 0) 15)) (w_ei w3 (w_ar ws (n_v vs 0) 15)) (w_ei w4 (w_ar ws (n_v vs 0) 15)) k1 k4 k8 k9 k10 k13 k14 k16 k17 k18 k19 k20 k21 k22 k23 k24 k25 k26 k27 d0 d1 (shm_401 f4) (shm_402 f5) f7 (shm_372 f8) (shm_367 f9) h10 h11 h12 f13 (shm_402 f14) f16 (shm_372 f17) (shm_367 f18) h19 h20 h21 f22 f23 (shm_402 f24) h26 h27 f28 f29 (shm_402 f30) h32 h33 f34 f35 (shm_402 f36) fe_0_0_1 fe_0_1_1 fe_0_0_2 fe_0_1_2 fe_0_0_3 fe_0_1_3 fe_0_0_4 fe_0_1_4 hE_0_7_1 hE_0_7_2 hE_0_7_3 hE_0_7_4 hK_0_7 hE_0_8_1 hE_0_8_2 hE_0_8_3 hE_0_8_4 hK_0_8 hE_0_14_1 hE_0_14_2 hE_0_14_3 hE_0_14_4 hK_0_14 hE_0_15_1 hE_0_15_2 hE_0_15_3 hE_0_15_4 hK_0_15 kz_0_0 kz_0_1)⟩
  refine ⟨(fun _ h => (by cases h)), [], trivial, ?_, (fun _ h => (by cases h))⟩
  rw [List.append_nil]
  exact List.forall_mem_cons.mpr ⟨⟨show (20 : Nat) < 100 from by decide, nf0⟩, (fun _ h => (by cases h))⟩
def n_Gr_tie_at_Gr_an : List an_T := []
def t_Gr_tie_at_Gr_ct : ct_L := []
set_option maxRecDepth 100000 in
theorem c_Gr_tie_at_Gr {l : Launch} {D : va_G} {kA : Nat → ClassId} : ct_ok PRD l D kA GG y_Gr_tie_at_Gr z_Gr_tie_at_Gr e_Gr_tie_at_Gr := chk_all_ok (FT := [(35, 3, 7), (38, 3, 8), (56, 3, 14), (59, 3, 15)]) (PT := []) (CT := t_Gr_tie_at_Gr_ct) (KT := []) (NT := []) (AN := n_Gr_tie_at_Gr_an) (OT := [o_Gr_tie_at_Gr_0]) 0 252 (List.forall_mem_cons.mpr ⟨oo_Gr_tie_at_Gr_0, List.forall_mem_nil _⟩) (by decide +kernel) ⟨List.forall_mem_cons.mpr ⟨gf_Gr_35, List.forall_mem_cons.mpr ⟨gf_Gr_38, List.forall_mem_cons.mpr ⟨gf_Gr_56, List.forall_mem_cons.mpr ⟨gf_Gr_59, List.forall_mem_nil _⟩⟩⟩⟩, List.forall_mem_nil _, List.forall_mem_nil _, List.forall_mem_nil _, List.forall_mem_nil _, GG_pl⟩ (by decide +kernel)
set_option maxHeartbeats 4000000 in
theorem vc_La_lowerEnd_0_0 (x2 : Int) (x5 : Int) (x7 : Int) (head_0o3 : Int → Int) (turned_0o1 : Int → Int) (tail_0o3 : Int → Int) (k2 : 0 ≤ x2 ∧ x2 ≤ 47) (k5 : 0 ≤ x5 ∧ x5 ≤ 0) (k7 : 0 ≤ x7 ∧ x7 ≤ 23) (h0 : x7 = head_0o3 (x2)) (f2 : x5 = 0) (h3 : x5 = turned_0o1 (x2)) (hK_1_9 : ∀ j : Int, 0 ≤ j → j < 48 → 0 ≤ turned_0o1 j ∧ turned_0o1 j ≤ 1) (hK_3_7 : ∀ j : Int, 0 ≤ j → j < 48 → 0 ≤ tail_0o3 j ∧ tail_0o3 j ≤ 23) (hK_3_8 : ∀ j : Int, 0 ≤ j → j < 48 → 0 ≤ head_0o3 j ∧ head_0o3 j ≤ 23) : LOX (tail_0o3) (head_0o3) (turned_0o1) (x2) (x7) := by
  first
    | exact lox_t (by assumption) (by omega) (by assumption)
    | exact lox_f (by assumption) (by omega) (by assumption)
  
def o_La_lowerEnd_0 : or_T := (30, 8, [(1, (2, 0, 0, [2])), (2, (0, 0, 47, [])), (3, (2, 0, 0, [3])), (4, (2, 0, 0, [42])), (5, (0, 0, 0, [])), (6, (2, 0, 0, [53])), (7, (0, 0, 23, []))], [(10, [7, 6, 2], []), (9, [6, 3], [8]), (8, [5], [0]), (10, [5, 4, 2], []), (9, [4, 1], [9])], [], [], [(20, [3, 1, 2, 7], [60, 0, 3, 650, 7, 8, 1009])], [], [])
theorem oo_La_lowerEnd_0 {kA : Nat → ClassId} : or_ok PRD kA GG o_La_lowerEnd_0 := by
  refine or_mk fun A ta ws vs hD hth hl => ?_
  intro t1 r1 t2 k2 t3 r3 t4 r4 t5 k5 t6 r6 t7 k7 f0 f1 f2 f3 f4
  replace f0 := shm_106 f0
  replace f1 := shm_143 f1
  replace f3 := shm_106 f3
  replace f4 := shm_120 f4
  have cr_1_9 := fdq_80 hD hth r1
  have cr_3_7 := fdq_52 hD hth r3
  have cr_3_8 := fdq_53 hD hth r3
  have ad_6 : v_ad (n_v vs 6) = w_ar ws (n_v vs 3) 8 := congrArg v_ad f1
  have ad_4 : v_ad (n_v vs 4) = w_ar ws (n_v vs 1) 9 := congrArg v_ad f4
  simp only [ad_6] at f0
  have h0 : v_iv (n_v vs 7) = w_ei ws (w_ar ws (n_v vs 3) 8) (v_iv (n_v vs 2)) := f0
  simp only [ad_4] at f3
  have h3 : v_iv (n_v vs 5) = w_ei ws (w_ar ws (n_v vs 1) 9) (v_iv (n_v vs 2)) := f3
  have hK_1_9 := elq_35 hD hth cr_1_9
  have hK_3_7 := elq_10 hD hth cr_3_7
  have hK_3_8 := elq_11 hD hth cr_3_8
  have nf0 : fc_1 PRD (20, [3, 1, 2, 7], [60, 0, 3, 650, 7, 8, 1009]) ws (vs) := ⟨nf_in hl rfl, sgq_405 (vc_La_lowerEnd_0_0 (v_iv (n_v vs 2)) (v_iv (n_v vs 5)) (v_iv (n_v vs 7)) (w_ei ws (w_ar ws (n_v vs 3) 8)) (w_ei ws (w_ar ws (n_v vs 1) 9)) (w_ei ws (w_ar ws (n_v vs 3) 7)) k2 k5 k7 h0 (shm_210 f2) h3 hK_1_9 hK_3_7 hK_3_8)⟩
  refine ⟨(fun _ h => (by cases h)), [], trivial, ?_, (fun _ h => (by cases h))⟩
  rw [List.append_nil]
  exact List.forall_mem_cons.mpr ⟨⟨show (20 : Nat) < 100 from by decide, nf0⟩, (fun _ h => (by cases h))⟩
set_option maxHeartbeats 4000000 in
theorem vc_La_lowerEnd_1_0 (x2 : Int) (x5 : Int) (x7 : Int) (tail_0o3 : Int → Int) (turned_0o1 : Int → Int) (head_0o3 : Int → Int) (k2 : 0 ≤ x2 ∧ x2 ≤ 47) (k5 : 1 ≤ x5 ∧ x5 ≤ 1) (k7 : 0 ≤ x7 ∧ x7 ≤ 23) (h0 : x7 = tail_0o3 (x2)) (f2 : x5 ≠ 0) (h3 : x5 = turned_0o1 (x2)) (hK_1_9 : ∀ j : Int, 0 ≤ j → j < 48 → 0 ≤ turned_0o1 j ∧ turned_0o1 j ≤ 1) (hK_3_7 : ∀ j : Int, 0 ≤ j → j < 48 → 0 ≤ tail_0o3 j ∧ tail_0o3 j ≤ 23) (hK_3_8 : ∀ j : Int, 0 ≤ j → j < 48 → 0 ≤ head_0o3 j ∧ head_0o3 j ≤ 23) : LOX (tail_0o3) (head_0o3) (turned_0o1) (x2) (x7) := by
  first
    | exact lox_t (by assumption) (by omega) (by assumption)
    | exact lox_f (by assumption) (by omega) (by assumption)
  
def o_La_lowerEnd_1 : or_T := (30, 8, [(1, (2, 0, 0, [2])), (2, (0, 0, 47, [])), (3, (2, 0, 0, [3])), (4, (2, 0, 0, [42])), (5, (0, 1, 1, [])), (6, (2, 0, 0, [52])), (7, (0, 0, 23, []))], [(10, [7, 6, 2], []), (9, [6, 3], [7]), (8, [5], [1]), (10, [5, 4, 2], []), (9, [4, 1], [9])], [], [], [(20, [3, 1, 2, 7], [60, 0, 3, 650, 7, 8, 1009])], [], [])
theorem oo_La_lowerEnd_1 {kA : Nat → ClassId} : or_ok PRD kA GG o_La_lowerEnd_1 := by
  refine or_mk fun A ta ws vs hD hth hl => ?_
  intro t1 r1 t2 k2 t3 r3 t4 r4 t5 k5 t6 r6 t7 k7 f0 f1 f2 f3 f4
  replace f0 := shm_106 f0
  replace f1 := shm_216 f1
  replace f3 := shm_106 f3
  replace f4 := shm_120 f4
  have cr_1_9 := fdq_80 hD hth r1
  have cr_3_7 := fdq_52 hD hth r3
  have cr_3_8 := fdq_53 hD hth r3
  have ad_6 : v_ad (n_v vs 6) = w_ar ws (n_v vs 3) 7 := congrArg v_ad f1
  have ad_4 : v_ad (n_v vs 4) = w_ar ws (n_v vs 1) 9 := congrArg v_ad f4
  simp only [ad_6] at f0
  have h0 : v_iv (n_v vs 7) = w_ei ws (w_ar ws (n_v vs 3) 7) (v_iv (n_v vs 2)) := f0
  simp only [ad_4] at f3
  have h3 : v_iv (n_v vs 5) = w_ei ws (w_ar ws (n_v vs 1) 9) (v_iv (n_v vs 2)) := f3
  have hK_1_9 := elq_35 hD hth cr_1_9
  have hK_3_7 := elq_10 hD hth cr_3_7
  have hK_3_8 := elq_11 hD hth cr_3_8
  have nf0 : fc_1 PRD (20, [3, 1, 2, 7], [60, 0, 3, 650, 7, 8, 1009]) ws (vs) := ⟨nf_in hl rfl, sgq_405 (vc_La_lowerEnd_1_0 (v_iv (n_v vs 2)) (v_iv (n_v vs 5)) (v_iv (n_v vs 7)) (w_ei ws (w_ar ws (n_v vs 3) 7)) (w_ei ws (w_ar ws (n_v vs 1) 9)) (w_ei ws (w_ar ws (n_v vs 3) 8)) k2 k5 k7 h0 (shm_154 f2) h3 hK_1_9 hK_3_7 hK_3_8)⟩
  refine ⟨(fun _ h => (by cases h)), [], trivial, ?_, (fun _ h => (by cases h))⟩
  rw [List.append_nil]
  exact List.forall_mem_cons.mpr ⟨⟨show (20 : Nat) < 100 from by decide, nf0⟩, (fun _ h => (by cases h))⟩
def n_La_lowerEnd_an : List an_T := []
def t_La_lowerEnd_ct : ct_L := []
set_option maxRecDepth 100000 in
theorem c_La_lowerEnd {l : Launch} {D : va_G} {kA : Nat → ClassId} : ct_ok PRD l D kA GG y_La_lowerEnd z_La_lowerEnd e_La_lowerEnd := chk_all_ok (FT := [(18, 4, 1), (125, 2, 9), (131, 3, 8), (136, 3, 7)]) (PT := []) (CT := t_La_lowerEnd_ct) (KT := []) (NT := []) (AN := n_La_lowerEnd_an) (OT := [o_La_lowerEnd_0, o_La_lowerEnd_1]) 0 200 (List.forall_mem_cons.mpr ⟨oo_La_lowerEnd_0, List.forall_mem_cons.mpr ⟨oo_La_lowerEnd_1, List.forall_mem_nil _⟩⟩) (by decide +kernel) ⟨List.forall_mem_cons.mpr ⟨gf_La_18, List.forall_mem_cons.mpr ⟨gf_La_125, List.forall_mem_cons.mpr ⟨gf_La_131, List.forall_mem_cons.mpr ⟨gf_La_136, List.forall_mem_nil _⟩⟩⟩⟩, List.forall_mem_nil _, List.forall_mem_nil _, List.forall_mem_nil _, List.forall_mem_nil _, GG_pl⟩ (by decide +kernel)
set_option maxHeartbeats 4000000 in
theorem vc_La_pairCost_0_r0 (x1 : Int) (x2 : Int) (x4 : Int) (x5 : Int) (x6 : Int) (x7 : Int) (x8 : Int) (x9 : Int) (k1 : 0 ≤ x1 ∧ x1 ≤ 262143) (k2 : 1 ≤ x2 ∧ x2 ≤ 6) (k4 : 0 ≤ x4 ∧ x4 ≤ 5) (k5 : 3 ≤ x5 ∧ x5 ≤ 3) (k6 : 0 ≤ x6 ∧ x6 ≤ 15) (k7 : 0 ≤ x7 ∧ x7 ≤ 262143) (k8 : 7 ≤ x8 ∧ x8 ≤ 7) (k9 : 0 ≤ x9 ∧ x9 ≤ 7) (d0 : x2 + (-4294967296) ≤ x4 ∧ x4 ≤ x2 + (-1)) (d1 : x2 + (-4294967296) ≤ x4 ∧ x4 ≤ x2 + 0) (f0 : x9 = x7 % 8) (f1 : bvp (x9) = bvp (x7) &&& bvp (x8)) (f2 : bvp (x7) = bvp (x1) >>> (x6).toNat) (f3 : x6 = 3 * x4) (f4 : x4 < x2) (f5 : OPD (x1) (x2)) (f6 : x2 ≤ 6) : 0 ≤ x9 ∧ x9 ≤ 5 := by
  first
    | omega
    | (have q := opd_dig (p := x1) (n := x2) (s := x6) (q := x7) (d := x9) (i := x4) (sv := x8) ‹OPD _ _› (by omega) (by omega) (by assumption) (by omega) (by assumption) (by omega) (by omega) (by omega) (by omega) (by omega); omega)
    | (have q := opd_dig (p := x1) (n := x2) (s := x9) (q := x10) (d := x12) (i := x6) (sv := x11) ‹OPD _ _› (by omega) (by omega) (by assumption) (by omega) (by assumption) (by omega) (by omega) (by omega) (by omega) (by omega); omega)
  
def o_La_pairCost_0 : or_T := (20, 10, [(1, (0, 0, 262143, [])), (2, (0, 1, 6, [])), (4, (0, 0, 5, [])), (5, (0, 3, 3, [])), (6, (0, 0, 15, [])), (7, (0, 0, 262143, [])), (8, (0, 7, 7, [])), (9, (0, 0, 7, []))], [(12, [9, 7], [8]), (16, [9, 7, 8], [0]), (16, [7, 1, 6], [4]), (3, [6, 5, 4], []), (7, [4, 2], [2]), (20, [1, 2], [61, 0, 687]), (20, [2], [50, 0, 0, 0, 2, 1, 0, 0, 6])], [(9, (0, 0, 5, []))], [], [], [], [(4, 2, -4294967296, -1), (4, 2, -4294967296, 0)])
theorem oo_La_pairCost_0 {kA : Nat → ClassId} : or_ok PRD kA GG o_La_pairCost_0 := by
  refine or_mk fun A ta ws vs hD hth hl => ?_
  intro t1 k1 t2 k2 t4 k4 t5 k5 t6 k6 t7 k7 t8 k8 t9 k9 d0 d1 f0 f1 f2 f3 f4 f5 f6
  replace f3 := shm_38 f3
  rw [show v_iv (n_v vs 5) = 3 from by omega] at f3
  have hrf0 : 0 ≤ v_iv (n_v vs 9) ∧ v_iv (n_v vs 9) ≤ 5 := vc_La_pairCost_0_r0 (v_iv (n_v vs 1)) (v_iv (n_v vs 2)) (v_iv (n_v vs 4)) (v_iv (n_v vs 5)) (v_iv (n_v vs 6)) (v_iv (n_v vs 7)) (v_iv (n_v vs 8)) (v_iv (n_v vs 9)) k1 k2 k4 k5 k6 k7 k8 k9 d0 d1 (shm_406 f0) (shm_11 f1) (shm_13 f2) f3 (shm_6 f4) (shm_407 f5) (shm_408 f6)
  have rf9 : tv_ok ta (0, 0, 5, []) (n_v vs 9) := tv_in t9 (by first | omega | grind) (by first | omega | grind)
  refine ⟨List.forall_mem_cons.mpr ⟨rf9, (fun _ h => (by cases h))⟩, [], trivial, ?_, (fun _ h => (by cases h))⟩
  rw [List.append_nil]
  exact (fun _ h => (by cases h))
set_option maxHeartbeats 4000000 in
theorem vc_La_pairCost_1_0 (x1 : Int) (x2 : Int) (x4 : Int) (x5 : Int) (x6 : Int) (x7 : Int) (x8 : Int) (x9 : Int) (x12 : Int) (x13 : Int) (k1 : 0 ≤ x1 ∧ x1 ≤ 262143) (k2 : 1 ≤ x2 ∧ x2 ≤ 6) (k4 : 0 ≤ x4 ∧ x4 ≤ 5) (k5 : 3 ≤ x5 ∧ x5 ≤ 3) (k6 : 0 ≤ x6 ∧ x6 ≤ 15) (k7 : 0 ≤ x7 ∧ x7 ≤ 262143) (k8 : 7 ≤ x8 ∧ x8 ≤ 7) (k9 : 0 ≤ x9 ∧ x9 ≤ 5) (k12 : 1 ≤ x12 ∧ x12 ≤ 1) (k13 : 1 ≤ x13 ∧ x13 ≤ 6) (d0 : x4 + 1 ≤ x13 ∧ x13 ≤ x4 + 1) (d1 : x2 + (-4294967296) ≤ x13 ∧ x13 ≤ x2 + 0) (d2 : x2 + (-4294967296) ≤ x13 ∧ x13 ≤ x2 + 1) (d3 : x2 + (-4294967296) ≤ x4 ∧ x4 ≤ x2 + (-1)) (d4 : x2 + (-4294967296) ≤ x4 ∧ x4 ≤ x2 + 0) (f0 : x13 = x4 + x12) (f1 : x9 = x7 % 8) (f2 : bvp (x9) = bvp (x7) &&& bvp (x8)) (f3 : bvp (x7) = bvp (x1) >>> (x6).toNat) (f4 : x6 = 3 * x4) (f5 : x4 < x2) (f6 : OPD (x1) (x2)) (f7 : x2 ≤ 6) : (x4 + 1) ≤ x13 := by
  first
    | omega
    | (have q := opd_dig (p := x1) (n := x2) (s := x6) (q := x7) (d := x9) (i := x4) (sv := x8) ‹OPD _ _› (by omega) (by omega) (by assumption) (by omega) (by assumption) (by omega) (by omega) (by omega) (by omega) (by omega); omega)
    | (have q := opd_dig (p := x1) (n := x2) (s := x9) (q := x10) (d := x12) (i := x6) (sv := x11) ‹OPD _ _› (by omega) (by omega) (by assumption) (by omega) (by assumption) (by omega) (by omega) (by omega) (by omega) (by omega); omega)
  
def o_La_pairCost_1 : or_T := (31, 14, [(1, (0, 0, 262143, [])), (2, (0, 1, 6, [])), (4, (0, 0, 5, [])), (5, (0, 3, 3, [])), (6, (0, 0, 15, [])), (7, (0, 0, 262143, [])), (8, (0, 7, 7, [])), (9, (0, 0, 5, [])), (12, (0, 1, 1, [])), (13, (0, 1, 6, []))], [(1, [13, 4, 12], []), (12, [9, 7], [8]), (16, [9, 7, 8], [0]), (16, [7, 1, 6], [4]), (3, [6, 5, 4], []), (7, [4, 2], [2]), (20, [1, 2], [61, 0, 687]), (20, [2], [50, 0, 0, 0, 2, 1, 0, 0, 6])], [], [], [(20, [4, 13], [50, 0, 0, 0, 6, 4, 2, 1, 0, 0, 1, 1, 1])], [], [(13, 4, 1, 1), (13, 2, -4294967296, 0), (13, 2, -4294967296, 1), (4, 2, -4294967296, -1), (4, 2, -4294967296, 0)])
theorem oo_La_pairCost_1 {kA : Nat → ClassId} : or_ok PRD kA GG o_La_pairCost_1 := by
  refine or_mk fun A ta ws vs hD hth hl => ?_
  intro t1 k1 t2 k2 t4 k4 t5 k5 t6 k6 t7 k7 t8 k8 t9 k9 t12 k12 t13 k13 d0 d1 d2 d3 d4 f0 f1 f2 f3 f4 f5 f6 f7
  replace f4 := shm_38 f4
  rw [show v_iv (n_v vs 5) = 3 from by omega] at f4
  have nf0 : fc_1 PRD (20, [4, 13], [50, 0, 0, 0, 6, 4, 2, 1, 0, 0, 1, 1, 1]) ws (vs) := ⟨nf_in hl rfl, sgq_409 (vc_La_pairCost_1_0 (v_iv (n_v vs 1)) (v_iv (n_v vs 2)) (v_iv (n_v vs 4)) (v_iv (n_v vs 5)) (v_iv (n_v vs 6)) (v_iv (n_v vs 7)) (v_iv (n_v vs 8)) (v_iv (n_v vs 9)) (v_iv (n_v vs 12)) (v_iv (n_v vs 13)) k1 k2 k4 k5 k6 k7 k8 k9 k12 k13 d0 d1 d2 d3 d4 (shm_12 f0) (shm_406 f1) (shm_11 f2) (shm_13 f3) f4 (shm_6 f5) (shm_407 f6) (shm_408 f7))⟩
  refine ⟨(fun _ h => (by cases h)), [], trivial, ?_, (fun _ h => (by cases h))⟩
  rw [List.append_nil]
  exact List.forall_mem_cons.mpr ⟨⟨show (20 : Nat) < 100 from by decide, nf0⟩, (fun _ h => (by cases h))⟩
set_option maxHeartbeats 4000000 in
theorem vc_La_pairCost_2_r0 (x1 : Int) (x2 : Int) (x4 : Int) (x6 : Int) (x8 : Int) (x9 : Int) (x10 : Int) (x11 : Int) (x12 : Int) (k1 : 0 ≤ x1 ∧ x1 ≤ 262143) (k2 : 2 ≤ x2 ∧ x2 ≤ 6) (k4 : 0 ≤ x4 ∧ x4 ≤ 4) (k6 : 1 ≤ x6 ∧ x6 ≤ 5) (k8 : 3 ≤ x8 ∧ x8 ≤ 3) (k9 : 3 ≤ x9 ∧ x9 ≤ 15) (k10 : 0 ≤ x10 ∧ x10 ≤ 32767) (k11 : 7 ≤ x11 ∧ x11 ≤ 7) (k12 : 0 ≤ x12 ∧ x12 ≤ 7) (d0 : x2 + (-4294967296) ≤ x6 ∧ x6 ≤ x2 + (-1)) (d1 : x2 + (-4294967296) ≤ x4 ∧ x4 ≤ x2 + (-1)) (d2 : x6 + (-4294967296) ≤ x4 ∧ x4 ≤ x6 + (-1)) (d3 : x2 + (-4294967296) ≤ x6 ∧ x6 ≤ x2 + 0) (f0 : x12 = x10 % 8) (f1 : bvp (x12) = bvp (x10) &&& bvp (x11)) (f2 : bvp (x10) = bvp (x1) >>> (x9).toNat) (f3 : x9 = 3 * x6) (f4 : x6 < x2) (f5 : OPD (x1) (x2)) (f6 : x2 ≤ 6) (f7 : (x4 + 1) ≤ x6) : 0 ≤ x12 ∧ x12 ≤ 5 := by
  first
    | omega
    | (have q := opd_dig (p := x1) (n := x2) (s := x6) (q := x7) (d := x9) (i := x4) (sv := x8) ‹OPD _ _› (by omega) (by omega) (by assumption) (by omega) (by assumption) (by omega) (by omega) (by omega) (by omega) (by omega); omega)
    | (have q := opd_dig (p := x1) (n := x2) (s := x9) (q := x10) (d := x12) (i := x6) (sv := x11) ‹OPD _ _› (by omega) (by omega) (by assumption) (by omega) (by assumption) (by omega) (by omega) (by omega) (by omega) (by omega); omega)
  
def o_La_pairCost_2 : or_T := (53, 13, [(1, (0, 0, 262143, [])), (2, (0, 2, 6, [])), (4, (0, 0, 4, [])), (6, (0, 1, 5, [])), (8, (0, 3, 3, [])), (9, (0, 3, 15, [])), (10, (0, 0, 32767, [])), (11, (0, 7, 7, [])), (12, (0, 0, 7, []))], [(12, [12, 10], [8]), (16, [12, 10, 11], [0]), (16, [10, 1, 9], [4]), (3, [9, 8, 6], []), (7, [6, 2], [2]), (20, [1, 2], [61, 0, 687]), (20, [2], [50, 0, 0, 0, 2, 1, 0, 0, 6]), (20, [4, 6], [50, 0, 0, 0, 6, 4, 2, 1, 0, 0, 1, 1, 1])], [(12, (0, 0, 5, []))], [], [], [], [(6, 2, -4294967296, -1), (4, 2, -4294967296, -1), (4, 6, -4294967296, -1), (6, 2, -4294967296, 0)])
theorem oo_La_pairCost_2 {kA : Nat → ClassId} : or_ok PRD kA GG o_La_pairCost_2 := by
  refine or_mk fun A ta ws vs hD hth hl => ?_
  intro t1 k1 t2 k2 t4 k4 t6 k6 t8 k8 t9 k9 t10 k10 t11 k11 t12 k12 d0 d1 d2 d3 f0 f1 f2 f3 f4 f5 f6 f7
  replace f3 := shm_38 f3
  rw [show v_iv (n_v vs 8) = 3 from by omega] at f3
  have hrf0 : 0 ≤ v_iv (n_v vs 12) ∧ v_iv (n_v vs 12) ≤ 5 := vc_La_pairCost_2_r0 (v_iv (n_v vs 1)) (v_iv (n_v vs 2)) (v_iv (n_v vs 4)) (v_iv (n_v vs 6)) (v_iv (n_v vs 8)) (v_iv (n_v vs 9)) (v_iv (n_v vs 10)) (v_iv (n_v vs 11)) (v_iv (n_v vs 12)) k1 k2 k4 k6 k8 k9 k10 k11 k12 d0 d1 d2 d3 (shm_406 f0) (shm_11 f1) (shm_13 f2) f3 (shm_6 f4) (shm_407 f5) (shm_408 f6) (shm_409 f7)
  have rf12 : tv_ok ta (0, 0, 5, []) (n_v vs 12) := tv_in t12 (by first | omega | grind) (by first | omega | grind)
  refine ⟨List.forall_mem_cons.mpr ⟨rf12, (fun _ h => (by cases h))⟩, [], trivial, ?_, (fun _ h => (by cases h))⟩
  rw [List.append_nil]
  exact (fun _ h => (by cases h))
set_option maxHeartbeats 4000000 in
theorem vc_La_pairCost_3_0 (x1 : Int) (x2 : Int) (x4 : Int) (x6 : Int) (x8 : Int) (x9 : Int) (x10 : Int) (x11 : Int) (x12 : Int) (x16 : Int) (k1 : 0 ≤ x1 ∧ x1 ≤ 262143) (k2 : 2 ≤ x2 ∧ x2 ≤ 6) (k4 : 0 ≤ x4 ∧ x4 ≤ 4) (k6 : 1 ≤ x6 ∧ x6 ≤ 5) (k8 : 3 ≤ x8 ∧ x8 ≤ 3) (k9 : 3 ≤ x9 ∧ x9 ≤ 15) (k10 : 0 ≤ x10 ∧ x10 ≤ 32767) (k11 : 7 ≤ x11 ∧ x11 ≤ 7) (k12 : 0 ≤ x12 ∧ x12 ≤ 5) (k16 : 2 ≤ x16 ∧ x16 ≤ 6) (d0 : x6 + 1 ≤ x16 ∧ x16 ≤ x6 + 1) (d1 : x2 + (-4294967296) ≤ x16 ∧ x16 ≤ x2 + 0) (d2 : x2 + (-4294967296) ≤ x16 ∧ x16 ≤ x2 + 1) (d3 : x2 + (-4294967296) ≤ x6 ∧ x6 ≤ x2 + (-1)) (d4 : x2 + (-4294967296) ≤ x4 ∧ x4 ≤ x2 + (-1)) (d5 : x6 + (-4294967296) ≤ x4 ∧ x4 ≤ x6 + (-1)) (d6 : x2 + (-4294967296) ≤ x6 ∧ x6 ≤ x2 + 0) (f0 : x16 = x6 + 1) (f1 : x12 = x10 % 8) (f2 : bvp (x12) = bvp (x10) &&& bvp (x11)) (f3 : bvp (x10) = bvp (x1) >>> (x9).toNat) (f4 : x9 = 3 * x6) (f5 : x6 < x2) (f6 : OPD (x1) (x2)) (f7 : x2 ≤ 6) (f8 : (x4 + 1) ≤ x6) : (x4 + 1) ≤ x16 := by
  first
    | omega
    | (have q := opd_dig (p := x1) (n := x2) (s := x6) (q := x7) (d := x9) (i := x4) (sv := x8) ‹OPD _ _› (by omega) (by omega) (by assumption) (by omega) (by assumption) (by omega) (by omega) (by omega) (by omega) (by omega); omega)
    | (have q := opd_dig (p := x1) (n := x2) (s := x9) (q := x10) (d := x12) (i := x6) (sv := x11) ‹OPD _ _› (by omega) (by omega) (by assumption) (by omega) (by assumption) (by omega) (by omega) (by omega) (by omega) (by omega); omega)
  
def o_La_pairCost_3 : or_T := (31, 17, [(1, (0, 0, 262143, [])), (2, (0, 2, 6, [])), (4, (0, 0, 4, [])), (6, (0, 1, 5, [])), (8, (0, 3, 3, [])), (9, (0, 3, 15, [])), (10, (0, 0, 32767, [])), (11, (0, 7, 7, [])), (12, (0, 0, 5, [])), (16, (0, 2, 6, []))], [(6, [16, 6], [1]), (12, [12, 10], [8]), (16, [12, 10, 11], [0]), (16, [10, 1, 9], [4]), (3, [9, 8, 6], []), (7, [6, 2], [2]), (20, [1, 2], [61, 0, 687]), (20, [2], [50, 0, 0, 0, 2, 1, 0, 0, 6]), (20, [4, 6], [50, 0, 0, 0, 6, 4, 2, 1, 0, 0, 1, 1, 1])], [], [], [(20, [4, 16], [50, 0, 0, 0, 6, 4, 2, 1, 0, 0, 1, 1, 1])], [], [(16, 6, 1, 1), (16, 2, -4294967296, 0), (16, 2, -4294967296, 1), (6, 2, -4294967296, -1), (4, 2, -4294967296, -1), (4, 6, -4294967296, -1), (6, 2, -4294967296, 0)])
theorem oo_La_pairCost_3 {kA : Nat → ClassId} : or_ok PRD kA GG o_La_pairCost_3 := by
  refine or_mk fun A ta ws vs hD hth hl => ?_
  intro t1 k1 t2 k2 t4 k4 t6 k6 t8 k8 t9 k9 t10 k10 t11 k11 t12 k12 t16 k16 d0 d1 d2 d3 d4 d5 d6 f0 f1 f2 f3 f4 f5 f6 f7 f8
  replace f4 := shm_38 f4
  rw [show v_iv (n_v vs 8) = 3 from by omega] at f4
  have nf0 : fc_1 PRD (20, [4, 16], [50, 0, 0, 0, 6, 4, 2, 1, 0, 0, 1, 1, 1]) ws (vs) := ⟨nf_in hl rfl, sgq_409 (vc_La_pairCost_3_0 (v_iv (n_v vs 1)) (v_iv (n_v vs 2)) (v_iv (n_v vs 4)) (v_iv (n_v vs 6)) (v_iv (n_v vs 8)) (v_iv (n_v vs 9)) (v_iv (n_v vs 10)) (v_iv (n_v vs 11)) (v_iv (n_v vs 12)) (v_iv (n_v vs 16)) k1 k2 k4 k6 k8 k9 k10 k11 k12 k16 d0 d1 d2 d3 d4 d5 d6 (shm_4 f0) (shm_406 f1) (shm_11 f2) (shm_13 f3) f4 (shm_6 f5) (shm_407 f6) (shm_408 f7) (shm_409 f8))⟩
  refine ⟨(fun _ h => (by cases h)), [], trivial, ?_, (fun _ h => (by cases h))⟩
  rw [List.append_nil]
  exact List.forall_mem_cons.mpr ⟨⟨show (20 : Nat) < 100 from by decide, nf0⟩, (fun _ h => (by cases h))⟩
def n_La_pairCost_an : List an_T := [(5, [(0, (2, 0, 0, [4])), (1, (0, 0, 262143, [])), (2, (0, 0, 6, [])), (3, (0, (Int.negSucc 2147483647), 2147483647, [])), (4, (0, 0, 6, []))], [], (0, 0), [(0, 0, 99995), (1, 4, 6), (0, 0, 100000), (0, 0, 0), (0, 0, 0)], [(3, 2, (Int.negSucc 999999999999), 2147483645), (3, 4, (Int.negSucc 999999999999), 2147483646), (4, 2, (Int.negSucc 999999999999), 0)], [], [], 0, [], [(20, [1, 2], [61, 0, 687]), (20, [2], [50, 0, 0, 0, 2, 1, 0, 0, 6])]), (31, [(0, (2, 0, 0, [4])), (1, (0, 0, 262143, [])), (2, (0, 1, 6, [])), (3, (0, (Int.negSucc 2147483647), 2147483647, [])), (4, (0, 0, 5, [])), (5, (0, 0, 30, [])), (6, (0, 1, 6, []))], [], (0, 0), [(0, 0, 99995), (1, 4, 6), (0, 0, 99969), (1, 6, 6), (0, 0, 100000)], [(3, 2, (Int.negSucc 999999999999), 2147483645), (3, 6, (Int.negSucc 999999999999), 2147483645), (4, 2, (Int.negSucc 999999999999), (Int.negSucc 0)), (4, 6, (Int.negSucc 999999999999), (Int.negSucc 0)), (6, 2, (Int.negSucc 999999999999), 0)], [], [], 0, [], [(20, [1, 2], [61, 0, 687]), (20, [2], [50, 0, 0, 0, 2, 1, 0, 0, 6]), (20, [4, 6], [50, 0, 0, 0, 6, 4, 2, 1, 0, 0, 1, 1, 1])])]
def t_La_pairCost_ct : ct_L := []
set_option maxRecDepth 100000 in
theorem c_La_pairCost {l : Launch} {D : va_G} {kA : Nat → ClassId} : ct_ok PRD l D kA GG y_La_pairCost z_La_pairCost e_La_pairCost := chk_all_ok (FT := [(78, 4, 20)]) (PT := []) (CT := t_La_pairCost_ct) (KT := []) (NT := []) (AN := n_La_pairCost_an) (OT := [o_La_pairCost_0, o_La_pairCost_1, o_La_pairCost_2, o_La_pairCost_3]) 5 200 (List.forall_mem_cons.mpr ⟨oo_La_pairCost_0, List.forall_mem_cons.mpr ⟨oo_La_pairCost_1, List.forall_mem_cons.mpr ⟨oo_La_pairCost_2, List.forall_mem_cons.mpr ⟨oo_La_pairCost_3, List.forall_mem_nil _⟩⟩⟩⟩) (by decide +kernel) ⟨List.forall_mem_cons.mpr ⟨gf_La_78, List.forall_mem_nil _⟩, List.forall_mem_nil _, List.forall_mem_nil _, List.forall_mem_nil _, List.forall_mem_nil _, GG_pl⟩ (by decide +kernel)
set_option maxHeartbeats 4000000 in
theorem vc_La_sizeOf_0_r0 (x1 : Int) (x3 : Int) (x4 : Int) (layerStart_0 : Int → Int) (layerCount_0 : Int) (k1 : (-1) ≤ x1 ∧ x1 ≤ 23) (k3 : 1 ≤ x3 ∧ x3 ≤ 1) (k4 : 0 ≤ x4 ∧ x4 ≤ 24) (d0 : x1 + 1 ≤ x4 ∧ x4 ≤ x1 + 1) (f0 : x4 = x1 + x3) (f2 : LS6 (layerCount_0) (layerStart_0)) (f3 : (0 ≤ x1) ∧ ((x1 + 1) ≤ layerCount_0)) (hK_0_10 : ∀ j : Int, 0 ≤ j → j < 26 → 0 ≤ layerStart_0 j ∧ layerStart_0 j ≤ 72) (kz_0_2 : 0 ≤ layerCount_0 ∧ layerCount_0 ≤ 24) : 1 ≤ x4 ∧ x4 ≤ 24 := by
  first
    | omega
    | exact ls6_size (l := x1) (a := x5) (b := x6) (d := x4) ‹LS6 _ _› (by omega) (by omega) (by assumption) (by omega) (by assumption) (by omega)
    | (rw [show x1 + 1 = x4 by omega]; omega)
  
def o_La_sizeOf_0 : or_T := (7, 5, [(0, (2, 0, 0, [4])), (1, (0, -1, 23, [])), (2, (2, 0, 0, [68])), (3, (0, 1, 1, [])), (4, (0, 0, 24, []))], [(1, [4, 1, 3], []), (9, [2, 0], [10]), (20, [0], [60, 1, 1, 636, 2, 10]), (20, [1, 0], [50, 1, 0, 1002, 2, 6, 0, 2, 0, 0, 1, 0, 0, 6, 4, 2, 1, 0, 0, 1, 2, 1, 2])], [(4, (0, 1, 24, []))], [], [], [], [(4, 1, 1, 1)])
theorem oo_La_sizeOf_0 {kA : Nat → ClassId} : or_ok PRD kA GG o_La_sizeOf_0 := by
  refine or_mk fun A ta ws vs hD hth hl => ?_
  intro t0 r0 t1 k1 t2 r2 t3 k3 t4 k4 d0 f0 f1 f2 f3
  have cr_0_10 := fdq_6 hD hth r0
  have hK_0_10 := elq_36 hD hth cr_0_10
  have kz_0_2 := fdq_81 hD hth r0
  have hrf0 : 1 ≤ v_iv (n_v vs 4) ∧ v_iv (n_v vs 4) ≤ 24 := vc_La_sizeOf_0_r0 (v_iv (n_v vs 1)) (v_iv (n_v vs 3)) (v_iv (n_v vs 4)) (w_ei ws (w_ar ws (n_v vs 0) 10)) (w_fi ws (n_v vs 0) 2) k1 k3 k4 d0 (shm_12 f0) (shm_410 f2) (shm_411 f3) hK_0_10 kz_0_2
  have rf4 : tv_ok ta (0, 1, 24, []) (n_v vs 4) := tv_in t4 (by first | omega | grind) (by first | omega | grind)
  refine ⟨List.forall_mem_cons.mpr ⟨rf4, (fun _ h => (by cases h))⟩, [], trivial, ?_, (fun _ h => (by cases h))⟩
  rw [List.append_nil]
  exact (fun _ h => (by cases h))
set_option maxHeartbeats 4000000 in
theorem vc_La_sizeOf_1_r0 (x1 : Int) (x3 : Int) (x4 : Int) (x5 : Int) (layerStart_0 : Int → Int) (layerCount_0 : Int) (k1 : (-1) ≤ x1 ∧ x1 ≤ 23) (k3 : 1 ≤ x3 ∧ x3 ≤ 1) (k4 : 1 ≤ x4 ∧ x4 ≤ 24) (k5 : 0 ≤ x5 ∧ x5 ≤ 72) (d0 : x1 + 1 ≤ x4 ∧ x4 ≤ x1 + 1) (h1 : x5 = layerStart_0 (x4)) (f2 : x4 = x1 + x3) (f3 : LS6 (layerCount_0) (layerStart_0)) (f4 : (0 ≤ x1) ∧ ((x1 + 1) ≤ layerCount_0)) (hK_0_10 : ∀ j : Int, 0 ≤ j → j < 26 → 0 ≤ layerStart_0 j ∧ layerStart_0 j ≤ 72) (kz_0_2 : 0 ≤ layerCount_0 ∧ layerCount_0 ≤ 24) : 0 ≤ x1 ∧ x1 ≤ 23 := by
  first
    | omega
    | exact ls6_size (l := x1) (a := x5) (b := x6) (d := x4) ‹LS6 _ _› (by omega) (by omega) (by assumption) (by omega) (by assumption) (by omega)
    | (rw [show x1 + 1 = x4 by omega]; omega)
  
def o_La_sizeOf_1 : or_T := (13, 6, [(0, (2, 0, 0, [4])), (1, (0, -1, 23, [])), (2, (2, 0, 0, [68])), (3, (0, 1, 1, [])), (4, (0, 1, 24, [])), (5, (0, 0, 72, []))], [(9, [2, 0], [10]), (10, [5, 2, 4], []), (1, [4, 1, 3], []), (20, [0], [60, 1, 1, 636, 2, 10]), (20, [1, 0], [50, 1, 0, 1002, 2, 6, 0, 2, 0, 0, 1, 0, 0, 6, 4, 2, 1, 0, 0, 1, 2, 1, 2])], [(1, (0, 0, 23, []))], [], [], [], [(4, 1, 1, 1)])
theorem oo_La_sizeOf_1 {kA : Nat → ClassId} : or_ok PRD kA GG o_La_sizeOf_1 := by
  refine or_mk fun A ta ws vs hD hth hl => ?_
  intro t0 r0 t1 k1 t2 r2 t3 k3 t4 k4 t5 k5 d0 f0 f1 f2 f3 f4
  replace f0 := shm_114 f0
  replace f1 := shm_106 f1
  have cr_0_10 := fdq_6 hD hth r0
  have ad_2 : v_ad (n_v vs 2) = w_ar ws (n_v vs 0) 10 := congrArg v_ad f0
  simp only [ad_2] at f1
  have h1 : v_iv (n_v vs 5) = w_ei ws (w_ar ws (n_v vs 0) 10) (v_iv (n_v vs 4)) := f1
  have hK_0_10 := elq_36 hD hth cr_0_10
  have kz_0_2 := fdq_81 hD hth r0
  have hrf0 : 0 ≤ v_iv (n_v vs 1) ∧ v_iv (n_v vs 1) ≤ 23 := vc_La_sizeOf_1_r0 (v_iv (n_v vs 1)) (v_iv (n_v vs 3)) (v_iv (n_v vs 4)) (v_iv (n_v vs 5)) (w_ei ws (w_ar ws (n_v vs 0) 10)) (w_fi ws (n_v vs 0) 2) k1 k3 k4 k5 d0 h1 (shm_12 f2) (shm_410 f3) (shm_411 f4) hK_0_10 kz_0_2
  have rf1 : tv_ok ta (0, 0, 23, []) (n_v vs 1) := tv_in t1 (by first | omega | grind) (by first | omega | grind)
  refine ⟨List.forall_mem_cons.mpr ⟨rf1, (fun _ h => (by cases h))⟩, [], trivial, ?_, (fun _ h => (by cases h))⟩
  rw [List.append_nil]
  exact (fun _ h => (by cases h))
set_option maxHeartbeats 4000000 in
theorem vc_La_sizeOf_2_r0 (x1 : Int) (x3 : Int) (x4 : Int) (x5 : Int) (x6 : Int) (x7 : Int) (layerStart_0 : Int → Int) (layerCount_0 : Int) (k1 : 0 ≤ x1 ∧ x1 ≤ 23) (k3 : 1 ≤ x3 ∧ x3 ≤ 1) (k4 : 1 ≤ x4 ∧ x4 ≤ 24) (k5 : 0 ≤ x5 ∧ x5 ≤ 72) (k6 : 0 ≤ x6 ∧ x6 ≤ 72) (k7 : (-72) ≤ x7 ∧ x7 ≤ 72) (d0 : x5 + (-72) ≤ x7 ∧ x7 ≤ x5 + 0) (d1 : x1 + 1 ≤ x4 ∧ x4 ≤ x1 + 1) (f0 : x7 = x5 - x6) (h1 : x6 = layerStart_0 (x1)) (h3 : x5 = layerStart_0 (x4)) (f4 : x4 = x1 + x3) (f5 : LS6 (layerCount_0) (layerStart_0)) (f6 : (0 ≤ x1) ∧ ((x1 + 1) ≤ layerCount_0)) (hK_0_10 : ∀ j : Int, 0 ≤ j → j < 26 → 0 ≤ layerStart_0 j ∧ layerStart_0 j ≤ 72) (kz_0_2 : 0 ≤ layerCount_0 ∧ layerCount_0 ≤ 24) : 0 ≤ x7 ∧ x7 ≤ 6 := by
  first
    | omega
    | exact ls6_size (l := x1) (a := x5) (b := x6) (d := x4) ‹LS6 _ _› (by omega) (by omega) (by assumption) (by omega) (by assumption) (by omega)
    | (rw [show x1 + 1 = x4 by omega]; omega)
  
set_option maxHeartbeats 4000000 in
theorem vc_La_sizeOf_2_0 (x1 : Int) (x3 : Int) (x4 : Int) (x5 : Int) (x6 : Int) (x7 : Int) (layerStart_0 : Int → Int) (layerCount_0 : Int) (k1 : 0 ≤ x1 ∧ x1 ≤ 23) (k3 : 1 ≤ x3 ∧ x3 ≤ 1) (k4 : 1 ≤ x4 ∧ x4 ≤ 24) (k5 : 0 ≤ x5 ∧ x5 ≤ 72) (k6 : 0 ≤ x6 ∧ x6 ≤ 72) (k7 : (-72) ≤ x7 ∧ x7 ≤ 72) (d0 : x5 + (-72) ≤ x7 ∧ x7 ≤ x5 + 0) (d1 : x1 + 1 ≤ x4 ∧ x4 ≤ x1 + 1) (f0 : x7 = x5 - x6) (h1 : x6 = layerStart_0 (x1)) (h3 : x5 = layerStart_0 (x4)) (f4 : x4 = x1 + x3) (f5 : LS6 (layerCount_0) (layerStart_0)) (f6 : (0 ≤ x1) ∧ ((x1 + 1) ≤ layerCount_0)) (hK_0_10 : ∀ j : Int, 0 ≤ j → j < 26 → 0 ≤ layerStart_0 j ∧ layerStart_0 j ≤ 72) (kz_0_2 : 0 ≤ layerCount_0 ∧ layerCount_0 ≤ 24) : x7 = (layerStart_0 ((x1 + 1)) - layerStart_0 (x1)) := by
  first
    | omega
    | exact ls6_size (l := x1) (a := x5) (b := x6) (d := x4) ‹LS6 _ _› (by omega) (by omega) (by assumption) (by omega) (by assumption) (by omega)
    | (rw [show x1 + 1 = x4 by omega]; omega)
  
def o_La_sizeOf_2 : or_T := (15, 8, [(0, (2, 0, 0, [4])), (1, (0, 0, 23, [])), (2, (2, 0, 0, [68])), (3, (0, 1, 1, [])), (4, (0, 1, 24, [])), (5, (0, 0, 72, [])), (6, (0, 0, 72, [])), (7, (0, -72, 72, []))], [(2, [7, 5, 6], []), (10, [6, 2, 1], []), (9, [2, 0], [10]), (10, [5, 2, 4], []), (1, [4, 1, 3], []), (20, [0], [60, 1, 1, 636, 2, 10]), (20, [1, 0], [50, 1, 0, 1002, 2, 6, 0, 2, 0, 0, 1, 0, 0, 6, 4, 2, 1, 0, 0, 1, 2, 1, 2])], [(7, (0, 0, 6, []))], [], [(20, [7, 0, 1], [50, 0, 1, 1010, 1, 2, 1, 0, 5, 9, 3, 1, 10, 4, 2, 1, 2, 0, 1, 3, 1, 10, 1, 2])], [], [(7, 5, -72, 0), (4, 1, 1, 1)])
theorem oo_La_sizeOf_2 {kA : Nat → ClassId} : or_ok PRD kA GG o_La_sizeOf_2 := by
  refine or_mk fun A ta ws vs hD hth hl => ?_
  intro t0 r0 t1 k1 t2 r2 t3 k3 t4 k4 t5 k5 t6 k6 t7 k7 d0 d1 f0 f1 f2 f3 f4 f5 f6
  replace f1 := shm_106 f1
  replace f2 := shm_114 f2
  replace f3 := shm_106 f3
  have cr_0_10 := fdq_6 hD hth r0
  have ad_2 : v_ad (n_v vs 2) = w_ar ws (n_v vs 0) 10 := congrArg v_ad f2
  simp only [ad_2] at f1
  have h1 : v_iv (n_v vs 6) = w_ei ws (w_ar ws (n_v vs 0) 10) (v_iv (n_v vs 1)) := f1
  simp only [ad_2] at f3
  have h3 : v_iv (n_v vs 5) = w_ei ws (w_ar ws (n_v vs 0) 10) (v_iv (n_v vs 4)) := f3
  have hK_0_10 := elq_36 hD hth cr_0_10
  have kz_0_2 := fdq_81 hD hth r0
  have hrf0 : 0 ≤ v_iv (n_v vs 7) ∧ v_iv (n_v vs 7) ≤ 6 := vc_La_sizeOf_2_r0 (v_iv (n_v vs 1)) (v_iv (n_v vs 3)) (v_iv (n_v vs 4)) (v_iv (n_v vs 5)) (v_iv (n_v vs 6)) (v_iv (n_v vs 7)) (w_ei ws (w_ar ws (n_v vs 0) 10)) (w_fi ws (n_v vs 0) 2) k1 k3 k4 k5 k6 k7 d0 d1 (shm_14 f0) h1 h3 (shm_12 f4) (shm_410 f5) (shm_411 f6) hK_0_10 kz_0_2
  have nf0 : fc_1 PRD (20, [7, 0, 1], [50, 0, 1, 1010, 1, 2, 1, 0, 5, 9, 3, 1, 10, 4, 2, 1, 2, 0, 1, 3, 1, 10, 1, 2]) ws (vs) := ⟨nf_in hl rfl, sgq_412 (vc_La_sizeOf_2_0 (v_iv (n_v vs 1)) (v_iv (n_v vs 3)) (v_iv (n_v vs 4)) (v_iv (n_v vs 5)) (v_iv (n_v vs 6)) (v_iv (n_v vs 7)) (w_ei ws (w_ar ws (n_v vs 0) 10)) (w_fi ws (n_v vs 0) 2) k1 k3 k4 k5 k6 k7 d0 d1 (shm_14 f0) h1 h3 (shm_12 f4) (shm_410 f5) (shm_411 f6) hK_0_10 kz_0_2)⟩
  have rf7 : tv_ok ta (0, 0, 6, []) (n_v vs 7) := tv_in t7 (by first | omega | grind) (by first | omega | grind)
  refine ⟨List.forall_mem_cons.mpr ⟨rf7, (fun _ h => (by cases h))⟩, [], trivial, ?_, (fun _ h => (by cases h))⟩
  rw [List.append_nil]
  exact List.forall_mem_cons.mpr ⟨⟨show (20 : Nat) < 100 from by decide, nf0⟩, (fun _ h => (by cases h))⟩
def n_La_sizeOf_an : List an_T := []
def t_La_sizeOf_ct : ct_L := []
set_option maxRecDepth 100000 in
theorem c_La_sizeOf {l : Launch} {D : va_G} {kA : Nat → ClassId} : ct_ok PRD l D kA GG y_La_sizeOf z_La_sizeOf e_La_sizeOf := chk_all_ok (FT := [(48, 4, 10)]) (PT := []) (CT := t_La_sizeOf_ct) (KT := []) (NT := []) (AN := n_La_sizeOf_an) (OT := [o_La_sizeOf_0, o_La_sizeOf_1, o_La_sizeOf_2]) 0 200 (List.forall_mem_cons.mpr ⟨oo_La_sizeOf_0, List.forall_mem_cons.mpr ⟨oo_La_sizeOf_1, List.forall_mem_cons.mpr ⟨oo_La_sizeOf_2, List.forall_mem_nil _⟩⟩⟩) (by decide +kernel) ⟨List.forall_mem_cons.mpr ⟨gf_La_48, List.forall_mem_nil _⟩, List.forall_mem_nil _, List.forall_mem_nil _, List.forall_mem_nil _, List.forall_mem_nil _, GG_pl⟩ (by decide +kernel)
set_option maxHeartbeats 4000000 in
theorem vc_La_swap_0_0 (x1 : Int) (x2 : Int) (x3 : Int) (x4 : Int) (x5 : Int) (a0_2 : Int → Int) (a0_0 : Int → Int) (a0_1 : Int → Int) (k1 : 0 ≤ x1 ∧ x1 ≤ 5) (k2 : 0 ≤ x2 ∧ x2 ≤ 5) (k3 : 1 ≤ x3 ∧ x3 ≤ 6) (k4 : 0 ≤ x4 ∧ x4 ≤ 7) (k5 : 0 ≤ x5 ∧ x5 ≤ 7) (f0 : (0 ≤ x1) ∧ ((x1 + 1) ≤ x3)) (f1 : (0 ≤ x2) ∧ ((x2 + 1) ≤ x3)) (f3 : (0 ≤ x1) ∧ ((x1 + 1) ≤ x3)) (f4 : (0 ≤ x2) ∧ ((x2 + 1) ≤ x3)) (h6 : x5 = a0_2 (x2)) (h7 : x4 = a0_2 (x1)) (f8 : DGS (a0_2) (x3)) (f9 : (0 ≤ x1) ∧ ((x1 + 1) ≤ x3)) (f10 : (0 ≤ x2) ∧ ((x2 + 1) ≤ x3)) (hE_0_999_1 : ∀ j : Int, 0 ≤ j → (j = x2 → a0_0 j = x4) ∧ (j ≠ x2 → a0_0 j = a0_1 j)) (hE_0_999_2 : ∀ j : Int, 0 ≤ j → (j = x1 → a0_1 j = x5) ∧ (j ≠ x1 → a0_1 j = a0_2 j)) (hK_0_999 : ∀ j : Int, 0 ≤ j → j < 6 → 0 ≤ a0_0 j ∧ a0_0 j ≤ 7) : DGS (a0_0) (x3) := by
  first
    | assumption
    | exact dgs_swap (i := x1) (j := x2) (a := x4) (b := x5) ‹DGS _ _› (by omega) (by omega) (by omega) (by omega) (by assumption) (by assumption) hE_0_999_2 hE_0_999_1
  
def o_La_swap_0 : or_T := (14, 6, [(0, (2, 0, 0, [298])), (1, (0, 0, 5, [])), (2, (0, 0, 5, [])), (3, (0, 1, 6, [])), (4, (0, 0, 7, [])), (5, (0, 0, 7, []))], [(20, [1, 3], [50, 0, 0, 2, 6, 0, 2, 0, 0, 1, 0, 0, 6, 4, 2, 1, 0, 0, 1, 1, 1]), (20, [2, 3], [50, 0, 0, 2, 6, 0, 2, 0, 0, 1, 0, 0, 6, 4, 2, 1, 0, 0, 1, 1, 1]), (100, [0, 2, 4], []), (20, [1, 3], [50, 0, 0, 2, 6, 0, 2, 0, 0, 1, 0, 0, 6, 4, 2, 1, 0, 0, 1, 1, 1]), (20, [2, 3], [50, 0, 0, 2, 6, 0, 2, 0, 0, 1, 0, 0, 6, 4, 2, 1, 0, 0, 1, 1, 1]), (100, [0, 1, 5], []), (10, [5, 0, 2], []), (10, [4, 0, 1], []), (20, [0, 3], [61, 1, 735]), (20, [1, 3], [50, 0, 0, 2, 6, 0, 2, 0, 0, 1, 0, 0, 6, 4, 2, 1, 0, 0, 1, 1, 1]), (20, [2, 3], [50, 0, 0, 2, 6, 0, 2, 0, 0, 1, 0, 0, 6, 4, 2, 1, 0, 0, 1, 1, 1])], [], [], [(20, [0, 3], [61, 1, 735])], [], [])
theorem oo_La_swap_0 {kA : Nat → ClassId} : or_ok PRD kA GG o_La_swap_0 := by
  refine or_mk fun A ta ws vs hD hth hl => ?_
  intro t0 r0 t1 k1 t2 k2 t3 k3 t4 k4 t5 k5 f0 f1 ta1 w1 le1 s1 f3 f4 ta2 w2 le2 s2 f6 f7 f8 f9 f10
  have s1 : (∀ b j, w_el ws b j = if b = v_ad (n_v vs 0) ∧ j = (v_iv (n_v vs 2)).toNat then v_iv (n_v vs 4) else w_el w1 b j) ∧ ∀ b k, w_fd ws b k = w_fd w1 b k := s1.2
  have s2 : (∀ b j, w_el w1 b j = if b = v_ad (n_v vs 0) ∧ j = (v_iv (n_v vs 1)).toNat then v_iv (n_v vs 5) else w_el w2 b j) ∧ ∀ b k, w_fd w1 b k = w_fd w2 b k := s2.2
  replace f6 := shm_106 f6
  replace f7 := shm_106 f7
  have cr_0_999 : ta (v_ad (n_v vs 0)) = some 298 := r0
  have ad_0 : v_ad (n_v vs 0) = v_ad (n_v vs 0) := rfl
  have h6 : v_iv (n_v vs 5) = w_ei w2 (v_ad (n_v vs 0)) (v_iv (n_v vs 2)) := f6
  have h7 : v_iv (n_v vs 4) = w_ei w2 (v_ad (n_v vs 0)) (v_iv (n_v vs 1)) := f7
  have hE_0_999_1 : ∀ j : Int, 0 ≤ j → (j = v_iv (n_v vs 2) → w_ei ws (v_ad (n_v vs 0)) j = v_iv (n_v vs 4)) ∧ (j ≠ v_iv (n_v vs 2) → w_ei ws (v_ad (n_v vs 0)) j = w_ei w1 (v_ad (n_v vs 0)) j) := fun j hj => ⟨fun h => by unfold w_ei; rw [s1.1, if_pos ⟨ad_0.symm, by rw [h]⟩], fun h => by unfold w_ei; rw [s1.1, if_neg (fun e => h (by have := e.2; omega))]⟩
  have hE_0_999_2 : ∀ j : Int, 0 ≤ j → (j = v_iv (n_v vs 1) → w_ei w1 (v_ad (n_v vs 0)) j = v_iv (n_v vs 5)) ∧ (j ≠ v_iv (n_v vs 1) → w_ei w1 (v_ad (n_v vs 0)) j = w_ei w2 (v_ad (n_v vs 0)) j) := fun j hj => ⟨fun h => by unfold w_ei; rw [s2.1, if_pos ⟨ad_0.symm, by rw [h]⟩], fun h => by unfold w_ei; rw [s2.1, if_neg (fun e => h (by have := e.2; omega))]⟩
  have hK_0_999 := elq_37 hD hth cr_0_999
  have nf0 : fc_1 PRD (20, [0, 3], [61, 1, 735]) ws (vs) := ⟨nf_in hl rfl, sgq_414 (vc_La_swap_0_0 (v_iv (n_v vs 1)) (v_iv (n_v vs 2)) (v_iv (n_v vs 3)) (v_iv (n_v vs 4)) (v_iv (n_v vs 5)) (w_ei w2 (v_ad (n_v vs 0))) (w_ei ws (v_ad (n_v vs 0))) (w_ei w1 (v_ad (n_v vs 0))) k1 k2 k3 k4 k5 (shm_413 f0) (shm_413 f1) (shm_413 f3) (shm_413 f4) h6 h7 (shm_414 f8) (shm_413 f9) (shm_413 f10) hE_0_999_1 hE_0_999_2 hK_0_999)⟩
  refine ⟨(fun _ h => (by cases h)), [], trivial, ?_, (fun _ h => (by cases h))⟩
  rw [List.append_nil]
  exact List.forall_mem_cons.mpr ⟨⟨show (20 : Nat) < 100 from by decide, nf0⟩, (fun _ h => (by cases h))⟩
def n_La_swap_an : List an_T := []
def t_La_swap_ct : ct_L := []
set_option maxRecDepth 100000 in
theorem c_La_swap {l : Launch} {D : va_G} {kA : Nat → ClassId} : ct_ok PRD l D kA GG y_La_swap z_La_swap e_La_swap := chk_all_ok (FT := []) (PT := []) (CT := t_La_swap_ct) (KT := []) (NT := []) (AN := n_La_swap_an) (OT := [o_La_swap_0]) 0 200 (List.forall_mem_cons.mpr ⟨oo_La_swap_0, List.forall_mem_nil _⟩) (by decide +kernel) ⟨List.forall_mem_nil _, List.forall_mem_nil _, List.forall_mem_nil _, List.forall_mem_nil _, List.forall_mem_nil _, GG_pl⟩ (by decide +kernel)

set_option maxHeartbeats 4000000 in
theorem vc_La_upperEnd_0_0 (x2 : Int) (x5 : Int) (x7 : Int) (tail_0o3 : Int → Int) (turned_0o1 : Int → Int) (head_0o3 : Int → Int) (k2 : 0 ≤ x2 ∧ x2 ≤ 47) (k5 : 0 ≤ x5 ∧ x5 ≤ 0) (k7 : 0 ≤ x7 ∧ x7 ≤ 23) (h0 : x7 = tail_0o3 (x2)) (f2 : x5 = 0) (h3 : x5 = turned_0o1 (x2)) (hK_1_9 : ∀ j : Int, 0 ≤ j → j < 48 → 0 ≤ turned_0o1 j ∧ turned_0o1 j ≤ 1) (hK_3_7 : ∀ j : Int, 0 ≤ j → j < 48 → 0 ≤ tail_0o3 j ∧ tail_0o3 j ≤ 23) (hK_3_8 : ∀ j : Int, 0 ≤ j → j < 48 → 0 ≤ head_0o3 j ∧ head_0o3 j ≤ 23) : UPX (tail_0o3) (head_0o3) (turned_0o1) (x2) (x7) := by
  first
    | exact upx_t (by assumption) (by omega) (by assumption)
    | exact upx_f (by assumption) (by omega) (by assumption)
  
def o_La_upperEnd_0 : or_T := (30, 8, [(1, (2, 0, 0, [2])), (2, (0, 0, 47, [])), (3, (2, 0, 0, [3])), (4, (2, 0, 0, [42])), (5, (0, 0, 0, [])), (6, (2, 0, 0, [52])), (7, (0, 0, 23, []))], [(10, [7, 6, 2], []), (9, [6, 3], [7]), (8, [5], [0]), (10, [5, 4, 2], []), (9, [4, 1], [9])], [], [], [(20, [3, 1, 2, 7], [60, 0, 3, 649, 7, 8, 1009])], [], [])
theorem oo_La_upperEnd_0 {kA : Nat → ClassId} : or_ok PRD kA GG o_La_upperEnd_0 := by
  refine or_mk fun A ta ws vs hD hth hl => ?_
  intro t1 r1 t2 k2 t3 r3 t4 r4 t5 k5 t6 r6 t7 k7 f0 f1 f2 f3 f4
  replace f0 := shm_106 f0
  replace f1 := shm_216 f1
  replace f3 := shm_106 f3
  replace f4 := shm_120 f4
  have cr_1_9 := fdq_80 hD hth r1
  have cr_3_7 := fdq_52 hD hth r3
  have cr_3_8 := fdq_53 hD hth r3
  have ad_6 : v_ad (n_v vs 6) = w_ar ws (n_v vs 3) 7 := congrArg v_ad f1
  have ad_4 : v_ad (n_v vs 4) = w_ar ws (n_v vs 1) 9 := congrArg v_ad f4
  simp only [ad_6] at f0
  have h0 : v_iv (n_v vs 7) = w_ei ws (w_ar ws (n_v vs 3) 7) (v_iv (n_v vs 2)) := f0
  simp only [ad_4] at f3
  have h3 : v_iv (n_v vs 5) = w_ei ws (w_ar ws (n_v vs 1) 9) (v_iv (n_v vs 2)) := f3
  have hK_1_9 := elq_35 hD hth cr_1_9
  have hK_3_7 := elq_10 hD hth cr_3_7
  have hK_3_8 := elq_11 hD hth cr_3_8
  have nf0 : fc_1 PRD (20, [3, 1, 2, 7], [60, 0, 3, 649, 7, 8, 1009]) ws (vs) := ⟨nf_in hl rfl, sgq_415 (vc_La_upperEnd_0_0 (v_iv (n_v vs 2)) (v_iv (n_v vs 5)) (v_iv (n_v vs 7)) (w_ei ws (w_ar ws (n_v vs 3) 7)) (w_ei ws (w_ar ws (n_v vs 1) 9)) (w_ei ws (w_ar ws (n_v vs 3) 8)) k2 k5 k7 h0 (shm_210 f2) h3 hK_1_9 hK_3_7 hK_3_8)⟩
  refine ⟨(fun _ h => (by cases h)), [], trivial, ?_, (fun _ h => (by cases h))⟩
  rw [List.append_nil]
  exact List.forall_mem_cons.mpr ⟨⟨show (20 : Nat) < 100 from by decide, nf0⟩, (fun _ h => (by cases h))⟩
set_option maxHeartbeats 4000000 in
theorem vc_La_upperEnd_1_0 (x2 : Int) (x5 : Int) (x7 : Int) (head_0o3 : Int → Int) (turned_0o1 : Int → Int) (tail_0o3 : Int → Int) (k2 : 0 ≤ x2 ∧ x2 ≤ 47) (k5 : 1 ≤ x5 ∧ x5 ≤ 1) (k7 : 0 ≤ x7 ∧ x7 ≤ 23) (h0 : x7 = head_0o3 (x2)) (f2 : x5 ≠ 0) (h3 : x5 = turned_0o1 (x2)) (hK_1_9 : ∀ j : Int, 0 ≤ j → j < 48 → 0 ≤ turned_0o1 j ∧ turned_0o1 j ≤ 1) (hK_3_7 : ∀ j : Int, 0 ≤ j → j < 48 → 0 ≤ tail_0o3 j ∧ tail_0o3 j ≤ 23) (hK_3_8 : ∀ j : Int, 0 ≤ j → j < 48 → 0 ≤ head_0o3 j ∧ head_0o3 j ≤ 23) : UPX (tail_0o3) (head_0o3) (turned_0o1) (x2) (x7) := by
  first
    | exact upx_t (by assumption) (by omega) (by assumption)
    | exact upx_f (by assumption) (by omega) (by assumption)
  
def o_La_upperEnd_1 : or_T := (30, 8, [(1, (2, 0, 0, [2])), (2, (0, 0, 47, [])), (3, (2, 0, 0, [3])), (4, (2, 0, 0, [42])), (5, (0, 1, 1, [])), (6, (2, 0, 0, [53])), (7, (0, 0, 23, []))], [(10, [7, 6, 2], []), (9, [6, 3], [8]), (8, [5], [1]), (10, [5, 4, 2], []), (9, [4, 1], [9])], [], [], [(20, [3, 1, 2, 7], [60, 0, 3, 649, 7, 8, 1009])], [], [])
theorem oo_La_upperEnd_1 {kA : Nat → ClassId} : or_ok PRD kA GG o_La_upperEnd_1 := by
  refine or_mk fun A ta ws vs hD hth hl => ?_
  intro t1 r1 t2 k2 t3 r3 t4 r4 t5 k5 t6 r6 t7 k7 f0 f1 f2 f3 f4
  replace f0 := shm_106 f0
  replace f1 := shm_143 f1
  replace f3 := shm_106 f3
  replace f4 := shm_120 f4
  have cr_1_9 := fdq_80 hD hth r1
  have cr_3_7 := fdq_52 hD hth r3
  have cr_3_8 := fdq_53 hD hth r3
  have ad_6 : v_ad (n_v vs 6) = w_ar ws (n_v vs 3) 8 := congrArg v_ad f1
  have ad_4 : v_ad (n_v vs 4) = w_ar ws (n_v vs 1) 9 := congrArg v_ad f4
  simp only [ad_6] at f0
  have h0 : v_iv (n_v vs 7) = w_ei ws (w_ar ws (n_v vs 3) 8) (v_iv (n_v vs 2)) := f0
  simp only [ad_4] at f3
  have h3 : v_iv (n_v vs 5) = w_ei ws (w_ar ws (n_v vs 1) 9) (v_iv (n_v vs 2)) := f3
  have hK_1_9 := elq_35 hD hth cr_1_9
  have hK_3_7 := elq_10 hD hth cr_3_7
  have hK_3_8 := elq_11 hD hth cr_3_8
  have nf0 : fc_1 PRD (20, [3, 1, 2, 7], [60, 0, 3, 649, 7, 8, 1009]) ws (vs) := ⟨nf_in hl rfl, sgq_415 (vc_La_upperEnd_1_0 (v_iv (n_v vs 2)) (v_iv (n_v vs 5)) (v_iv (n_v vs 7)) (w_ei ws (w_ar ws (n_v vs 3) 8)) (w_ei ws (w_ar ws (n_v vs 1) 9)) (w_ei ws (w_ar ws (n_v vs 3) 7)) k2 k5 k7 h0 (shm_154 f2) h3 hK_1_9 hK_3_7 hK_3_8)⟩
  refine ⟨(fun _ h => (by cases h)), [], trivial, ?_, (fun _ h => (by cases h))⟩
  rw [List.append_nil]
  exact List.forall_mem_cons.mpr ⟨⟨show (20 : Nat) < 100 from by decide, nf0⟩, (fun _ h => (by cases h))⟩
def n_La_upperEnd_an : List an_T := []
def t_La_upperEnd_ct : ct_L := []
set_option maxRecDepth 100000 in
theorem c_La_upperEnd {l : Launch} {D : va_G} {kA : Nat → ClassId} : ct_ok PRD l D kA GG y_La_upperEnd z_La_upperEnd e_La_upperEnd := chk_all_ok (FT := [(18, 4, 1), (125, 2, 9), (131, 3, 8), (136, 3, 7)]) (PT := []) (CT := t_La_upperEnd_ct) (KT := []) (NT := []) (AN := n_La_upperEnd_an) (OT := [o_La_upperEnd_0, o_La_upperEnd_1]) 0 200 (List.forall_mem_cons.mpr ⟨oo_La_upperEnd_0, List.forall_mem_cons.mpr ⟨oo_La_upperEnd_1, List.forall_mem_nil _⟩⟩) (by decide +kernel) ⟨List.forall_mem_cons.mpr ⟨gf_La_18, List.forall_mem_cons.mpr ⟨gf_La_125, List.forall_mem_cons.mpr ⟨gf_La_131, List.forall_mem_cons.mpr ⟨gf_La_136, List.forall_mem_nil _⟩⟩⟩⟩, List.forall_mem_nil _, List.forall_mem_nil _, List.forall_mem_nil _, List.forall_mem_nil _, GG_pl⟩ (by decide +kernel)
set_option maxHeartbeats 4000000 in
theorem vc_Ne_forget_0_0 (x1 : Int) (x4 : Int) (barredEdges_0 : Int) (planar_0 : Int) (planar_1 : Int) (planar_2 : Int) (barredEdges_1 : Int) (barredEdges_2 : Int) (planar_3 : Int) (barredEdges_3 : Int) (barredEdges_4 : Int) (k1 : (-1) ≤ x1 ∧ x1 ≤ (-1)) (k4 : 0 ≤ x4 ∧ x4 ≤ 0) (g0 : x4 = barredEdges_0) (g1 : x1 = planar_0) (fe_0_0_1 : planar_0 = planar_1) (fe_0_3_1 : barredEdges_0 = x4) (fe_0_0_2 : planar_1 = planar_2) (fe_0_3_2 : barredEdges_1 = barredEdges_2) (fe_0_0_3 : planar_2 = planar_3) (fe_0_3_3 : barredEdges_2 = barredEdges_3) (fe_0_0_4 : planar_3 = x1) (fe_0_3_4 : barredEdges_3 = barredEdges_4) (kz_0_0 : (-1) ≤ planar_0 ∧ planar_0 ≤ 1) (kz_0_3 : 0 ≤ barredEdges_0 ∧ barredEdges_0 ≤ 48) : planar_0 = (-1) := by
  subst fe_0_0_1
  subst fe_0_0_2
  subst fe_0_3_2
  subst fe_0_0_3
  subst fe_0_3_3
  subst fe_0_3_4
  first
    | omega
  
set_option maxHeartbeats 4000000 in
theorem vc_Ne_forget_0_1 (x1 : Int) (x4 : Int) (barredEdges_0 : Int) (planar_0 : Int) (planar_1 : Int) (planar_2 : Int) (barredEdges_1 : Int) (barredEdges_2 : Int) (planar_3 : Int) (barredEdges_3 : Int) (barredEdges_4 : Int) (k1 : (-1) ≤ x1 ∧ x1 ≤ (-1)) (k4 : 0 ≤ x4 ∧ x4 ≤ 0) (g0 : x4 = barredEdges_0) (g1 : x1 = planar_0) (fe_0_0_1 : planar_0 = planar_1) (fe_0_3_1 : barredEdges_0 = x4) (fe_0_0_2 : planar_1 = planar_2) (fe_0_3_2 : barredEdges_1 = barredEdges_2) (fe_0_0_3 : planar_2 = planar_3) (fe_0_3_3 : barredEdges_2 = barredEdges_3) (fe_0_0_4 : planar_3 = x1) (fe_0_3_4 : barredEdges_3 = barredEdges_4) (kz_0_0 : (-1) ≤ planar_0 ∧ planar_0 ≤ 1) (kz_0_3 : 0 ≤ barredEdges_0 ∧ barredEdges_0 ≤ 48) : barredEdges_0 = 0 := by
  subst fe_0_0_1
  subst fe_0_0_2
  subst fe_0_3_2
  subst fe_0_0_3
  subst fe_0_3_3
  subst fe_0_3_4
  first
    | omega
  
def o_Ne_forget_0 : or_T := (20, 5, [(0, (2, 0, 0, [5])), (1, (0, -1, -1, [])), (4, (0, 0, 0, []))], [(9, [4, 0], [3]), (9, [1, 0], [0]), (101, [0, 4], [3]), (101, [0, 3], [2]), (101, [0, 2], [1]), (101, [0, 1], [0])], [], [], [(20, [0], [50, 1, 0, 0, 1, 3, 2, 0, 0, 0, -1]), (20, [0], [50, 1, 0, 3, 1, 3, 2, 0, 3, 0, 0])], [], [])
theorem oo_Ne_forget_0 {kA : Nat → ClassId} : or_ok PRD kA GG o_Ne_forget_0 := by
  refine or_mk fun A ta ws vs hD hth hl => ?_
  intro t0 r0 t1 k1 t4 k4 f0 f1 ta1 w1 le1 s1 ta2 w2 le2 s2 ta3 w3 le3 s3 ta4 w4 le4 s4
  replace f0 := shm_149 f0
  replace f1 := shm_175 f1
  have s1 : (∀ b j, w_el ws b j = w_el w1 b j) ∧ ∀ b j, w_fd ws b j = if b = v_ad (n_v vs 0) ∧ j = 3 then n_v vs 4 else w_fd w1 b j := s1.2
  have s2 : (∀ b j, w_el w1 b j = w_el w2 b j) ∧ ∀ b j, w_fd w1 b j = if b = v_ad (n_v vs 0) ∧ j = 2 then n_v vs 3 else w_fd w2 b j := s2.2
  have s3 : (∀ b j, w_el w2 b j = w_el w3 b j) ∧ ∀ b j, w_fd w2 b j = if b = v_ad (n_v vs 0) ∧ j = 1 then n_v vs 2 else w_fd w3 b j := s3.2
  have s4 : (∀ b j, w_el w3 b j = w_el w4 b j) ∧ ∀ b j, w_fd w3 b j = if b = v_ad (n_v vs 0) ∧ j = 0 then n_v vs 1 else w_fd w4 b j := s4.2
  have g0 : v_iv (n_v vs 4) = w_fi ws (n_v vs 0) 3 := congrArg v_iv f0
  have g1 : v_iv (n_v vs 1) = w_fi ws (n_v vs 0) 0 := congrArg v_iv f1
  have fe_0_0_1 : w_fi ws (n_v vs 0) 0 = w_fi w1 (n_v vs 0) 0 := by show v_iv (w_fd _ _ _) = v_iv (w_fd _ _ _); rw [s1.2, if_neg (fun e => absurd e.2 (by decide))]
  have fe_0_3_1 : w_fi ws (n_v vs 0) 3 = v_iv (n_v vs 4) := by show v_iv (w_fd _ _ _) = _; rw [s1.2, if_pos ⟨rfl, rfl⟩]
  have fe_0_0_2 : w_fi w1 (n_v vs 0) 0 = w_fi w2 (n_v vs 0) 0 := by show v_iv (w_fd _ _ _) = v_iv (w_fd _ _ _); rw [s2.2, if_neg (fun e => absurd e.2 (by decide))]
  have fe_0_3_2 : w_fi w1 (n_v vs 0) 3 = w_fi w2 (n_v vs 0) 3 := by show v_iv (w_fd _ _ _) = v_iv (w_fd _ _ _); rw [s2.2, if_neg (fun e => absurd e.2 (by decide))]
  have fe_0_0_3 : w_fi w2 (n_v vs 0) 0 = w_fi w3 (n_v vs 0) 0 := by show v_iv (w_fd _ _ _) = v_iv (w_fd _ _ _); rw [s3.2, if_neg (fun e => absurd e.2 (by decide))]
  have fe_0_3_3 : w_fi w2 (n_v vs 0) 3 = w_fi w3 (n_v vs 0) 3 := by show v_iv (w_fd _ _ _) = v_iv (w_fd _ _ _); rw [s3.2, if_neg (fun e => absurd e.2 (by decide))]
  have fe_0_0_4 : w_fi w3 (n_v vs 0) 0 = v_iv (n_v vs 1) := by show v_iv (w_fd _ _ _) = _; rw [s4.2, if_pos ⟨rfl, rfl⟩]
  have fe_0_3_4 : w_fi w3 (n_v vs 0) 3 = w_fi w4 (n_v vs 0) 3 := by show v_iv (w_fd _ _ _) = v_iv (w_fd _ _ _); rw [s4.2, if_neg (fun e => absurd e.2 (by decide))]
  have kz_0_0 := fdq_82 hD hth r0
  have kz_0_3 := fdq_83 hD hth r0
  have nf0 : fc_1 PRD (20, [0], [50, 1, 0, 0, 1, 3, 2, 0, 0, 0, -1]) ws (vs) := ⟨nf_in hl rfl, sgq_416 (vc_Ne_forget_0_0 (v_iv (n_v vs 1)) (v_iv (n_v vs 4)) (w_fi ws (n_v vs 0) 3) (w_fi ws (n_v vs 0) 0) (w_fi w1 (n_v vs 0) 0) (w_fi w2 (n_v vs 0) 0) (w_fi w1 (n_v vs 0) 3) (w_fi w2 (n_v vs 0) 3) (w_fi w3 (n_v vs 0) 0) (w_fi w3 (n_v vs 0) 3) (w_fi w4 (n_v vs 0) 3) k1 k4 g0 g1 fe_0_0_1 fe_0_3_1 fe_0_0_2 fe_0_3_2 fe_0_0_3 fe_0_3_3 fe_0_0_4 fe_0_3_4 kz_0_0 kz_0_3)⟩
  have nf1 : fc_1 PRD (20, [0], [50, 1, 0, 3, 1, 3, 2, 0, 3, 0, 0]) ws (vs) := ⟨nf_in hl rfl, sgq_417 (vc_Ne_forget_0_1 (v_iv (n_v vs 1)) (v_iv (n_v vs 4)) (w_fi ws (n_v vs 0) 3) (w_fi ws (n_v vs 0) 0) (w_fi w1 (n_v vs 0) 0) (w_fi w2 (n_v vs 0) 0) (w_fi w1 (n_v vs 0) 3) (w_fi w2 (n_v vs 0) 3) (w_fi w3 (n_v vs 0) 0) (w_fi w3 (n_v vs 0) 3) (w_fi w4 (n_v vs 0) 3) k1 k4 g0 g1 fe_0_0_1 fe_0_3_1 fe_0_0_2 fe_0_3_2 fe_0_0_3 fe_0_3_3 fe_0_0_4 fe_0_3_4 kz_0_0 kz_0_3)⟩
  refine ⟨(fun _ h => (by cases h)), [], trivial, ?_, (fun _ h => (by cases h))⟩
  rw [List.append_nil]
  exact List.forall_mem_cons.mpr ⟨⟨show (20 : Nat) < 100 from by decide, nf0⟩, List.forall_mem_cons.mpr ⟨⟨show (20 : Nat) < 100 from by decide, nf1⟩, (fun _ h => (by cases h))⟩⟩
def n_Ne_forget_an : List an_T := []
def t_Ne_forget_ct : ct_L := []
set_option maxRecDepth 100000 in
theorem c_Ne_forget {l : Launch} {D : va_G} {kA : Nat → ClassId} : ct_ok PRD l D kA GG y_Ne_forget z_Ne_forget e_Ne_forget := chk_all_ok (FT := []) (PT := [(9, 5, 0, .int), (15, 5, 1, .int), (18, 5, 2, .int), (21, 5, 3, .int)]) (CT := t_Ne_forget_ct) (KT := []) (NT := []) (AN := n_Ne_forget_an) (OT := [o_Ne_forget_0]) 0 200 (List.forall_mem_cons.mpr ⟨oo_Ne_forget_0, List.forall_mem_nil _⟩) (by decide +kernel) ⟨List.forall_mem_nil _, List.forall_mem_cons.mpr ⟨pf_Ne_9, List.forall_mem_cons.mpr ⟨pf_Ne_15, List.forall_mem_cons.mpr ⟨pf_Ne_18, List.forall_mem_cons.mpr ⟨pf_Ne_21, List.forall_mem_nil _⟩⟩⟩⟩, List.forall_mem_nil _, List.forall_mem_nil _, List.forall_mem_nil _, GG_pl⟩ (by decide +kernel)
set_option maxHeartbeats 4000000 in
theorem vc_Ne_join_at_Ne_gk_0_0 (x1 : Int) (x2 : Int) (x3 : Int) (x4 : Int) (x5 : Int) (x11 : Int) (x14 : Int) (x16 : Int) (x17 : Int) (x18 : Int) (x19 : Int) (x20 : Int) (x21 : Int) (x22 : Int) (x23 : Int) (x24 : Int) (x25 : Int) (edges_0 : Int) (nodes_0 : Int) (edges_1 : Int) (nodes_1 : Int) (near_2 : Int → Int) (nodes_2 : Int) (edges_2 : Int) (near_3 : Int → Int) (nodes_3 : Int) (edges_3 : Int) (nodes_4 : Int) (edges_4 : Int) (nodes_5 : Int) (edges_5 : Int) (nodes_6 : Int) (edges_6 : Int) (tail_7 : Int → Int) (head_7 : Int → Int) (near_7 : Int → Int) (nodes_7 : Int) (edges_7 : Int) (tail_0 : Int → Int) (tail_1 : Int → Int) (tail_2 : Int → Int) (tail_3 : Int → Int) (tail_4 : Int → Int) (tail_5 : Int → Int) (tail_6 : Int → Int) (head_0 : Int → Int) (head_1 : Int → Int) (head_2 : Int → Int) (head_3 : Int → Int) (head_4 : Int → Int) (head_5 : Int → Int) (head_6 : Int → Int) (near_0 : Int → Int) (near_1 : Int → Int) (near_4 : Int → Int) (near_5 : Int → Int) (near_6 : Int → Int) (link_0 : Int → Int) (link_1 : Int → Int) (link_2 : Int → Int) (link_3 : Int → Int) (link_4 : Int → Int) (link_5 : Int → Int) (link_6 : Int → Int) (link_7 : Int → Int) (k1 : 0 ≤ x1 ∧ x1 ≤ 23) (k2 : 0 ≤ x2 ∧ x2 ≤ 23) (k3 : 0 ≤ x3 ∧ x3 ≤ 72) (k4 : 0 ≤ x4 ∧ x4 ≤ 71) (k5 : 72 ≤ x5 ∧ x5 ≤ 72) (k11 : 0 ≤ x11 ∧ x11 ≤ 598) (k14 : 0 ≤ x14 ∧ x14 ≤ 598) (k16 : 0 ≤ x16 ∧ x16 ≤ 16777215) (k17 : 1 ≤ x17 ∧ x17 ≤ 1) (k18 : 1 ≤ x18 ∧ x18 ≤ 8388608) (k19 : 0 ≤ x19 ∧ x19 ≤ 16777215) (k20 : 0 ≤ x20 ∧ x20 ≤ 16777215) (k21 : 1 ≤ x21 ∧ x21 ≤ 1) (k22 : 1 ≤ x22 ∧ x22 ≤ 8388608) (k23 : 0 ≤ x23 ∧ x23 ≤ 16777215) (k24 : 1 ≤ x24 ∧ x24 ≤ 1) (k25 : 1 ≤ x25 ∧ x25 ≤ 72) (d0 : x4 + 1 ≤ x25 ∧ x25 ≤ x4 + 1) (d1 : x1 + 0 ≤ x14 ∧ x14 ≤ x1 + 575) (d2 : x2 + 0 ≤ x11 ∧ x11 ≤ x2 + 575) (g0 : x25 = edges_0) (f5 : (0 ≤ x1) ∧ ((x1 + 1) ≤ nodes_0)) (f6 : (0 ≤ x2) ∧ ((x2 + 1) ≤ nodes_0)) (f7 : x1 ≠ x2) (f9 : x25 = x4 + x24) (g10 : x4 = edges_1) (f11 : (0 ≤ x1) ∧ ((x1 + 1) ≤ nodes_1)) (f12 : (0 ≤ x2) ∧ ((x2 + 1) ≤ nodes_1)) (f13 : x1 ≠ x2) (f14 : edges_1 = x3) (f16 : x23 ≤ x20 + x22 ∧ x20 ≤ x23 ∧ x22 ≤ x23) (f17 : bvp (x23) = bvp (x20) ||| bvp (x22)) (f18 : bvp (x22) = bvp (x21) <<< (x1).toNat) (h19 : x20 = near_2 (x2)) (f20 : (0 ≤ x1) ∧ ((x1 + 1) ≤ nodes_2)) (f21 : (0 ≤ x2) ∧ ((x2 + 1) ≤ nodes_2)) (f22 : x1 ≠ x2) (f23 : edges_2 = x3) (f25 : x19 ≤ x16 + x18 ∧ x16 ≤ x19 ∧ x18 ≤ x19) (f26 : bvp (x19) = bvp (x16) ||| bvp (x18)) (f27 : bvp (x18) = bvp (x17) <<< (x2).toNat) (h28 : x16 = near_3 (x1)) (f29 : (0 ≤ x1) ∧ ((x1 + 1) ≤ nodes_3)) (f30 : (0 ≤ x2) ∧ ((x2 + 1) ≤ nodes_3)) (f31 : x1 ≠ x2) (f32 : edges_3 = x3) (f34 : (0 ≤ x1) ∧ ((x1 + 1) ≤ nodes_4)) (f35 : (0 ≤ x2) ∧ ((x2 + 1) ≤ nodes_4)) (f36 : x1 ≠ x2) (f37 : edges_4 = x3) (f39 : (0 ≤ x1) ∧ ((x1 + 1) ≤ nodes_5)) (f40 : (0 ≤ x2) ∧ ((x2 + 1) ≤ nodes_5)) (f41 : x1 ≠ x2) (f42 : edges_5 = x3) (f44 : (0 ≤ x1) ∧ ((x1 + 1) ≤ nodes_6)) (f45 : (0 ≤ x2) ∧ ((x2 + 1) ≤ nodes_6)) (f46 : x1 ≠ x2) (f47 : edges_6 = x3) (f49 : x4 < x5) (f50 : NOK (nodes_7) (edges_7) (tail_7) (head_7) (near_7)) (f51 : (0 ≤ x1) ∧ ((x1 + 1) ≤ nodes_7)) (f52 : (0 ≤ x2) ∧ ((x2 + 1) ≤ nodes_7)) (f53 : x1 ≠ x2) (f54 : edges_7 = x3) (fe_0_5_1 : nodes_0 = nodes_1) (fe_0_6_1 : edges_0 = x25) (fe_0_5_2 : nodes_1 = nodes_2) (fe_0_6_2 : edges_1 = edges_2) (fe_0_5_3 : nodes_2 = nodes_3) (fe_0_6_3 : edges_2 = edges_3) (fe_0_5_4 : nodes_3 = nodes_4) (fe_0_6_4 : edges_3 = edges_4) (fe_0_5_5 : nodes_4 = nodes_5) (fe_0_6_5 : edges_4 = edges_5) (fe_0_5_6 : nodes_5 = nodes_6) (fe_0_6_6 : edges_5 = edges_6) (fe_0_5_7 : nodes_6 = nodes_7) (fe_0_6_7 : edges_6 = edges_7) (hE_0_7_1 : ∀ j : Int, tail_0 j = tail_1 j) (hE_0_7_2 : ∀ j : Int, tail_1 j = tail_2 j) (hE_0_7_3 : ∀ j : Int, tail_2 j = tail_3 j) (hE_0_7_4 : ∀ j : Int, tail_3 j = tail_4 j) (hE_0_7_5 : ∀ j : Int, tail_4 j = tail_5 j) (hE_0_7_6 : ∀ j : Int, tail_5 j = tail_6 j) (hE_0_7_7 : ∀ j : Int, 0 ≤ j → (j = x4 → tail_6 j = x1) ∧ (j ≠ x4 → tail_6 j = tail_7 j)) (hK_0_7 : ∀ j : Int, 0 ≤ j → j < 72 → 0 ≤ tail_0 j ∧ tail_0 j ≤ 23) (hE_0_8_1 : ∀ j : Int, head_0 j = head_1 j) (hE_0_8_2 : ∀ j : Int, head_1 j = head_2 j) (hE_0_8_3 : ∀ j : Int, head_2 j = head_3 j) (hE_0_8_4 : ∀ j : Int, head_3 j = head_4 j) (hE_0_8_5 : ∀ j : Int, head_4 j = head_5 j) (hE_0_8_6 : ∀ j : Int, 0 ≤ j → (j = x4 → head_5 j = x2) ∧ (j ≠ x4 → head_5 j = head_6 j)) (hE_0_8_7 : ∀ j : Int, head_6 j = head_7 j) (hK_0_8 : ∀ j : Int, 0 ≤ j → j < 72 → 0 ≤ head_0 j ∧ head_0 j ≤ 23) (hE_0_9_1 : ∀ j : Int, near_0 j = near_1 j) (hE_0_9_2 : ∀ j : Int, 0 ≤ j → (j = x2 → near_1 j = x23) ∧ (j ≠ x2 → near_1 j = near_2 j)) (hE_0_9_3 : ∀ j : Int, 0 ≤ j → (j = x1 → near_2 j = x19) ∧ (j ≠ x1 → near_2 j = near_3 j)) (hE_0_9_4 : ∀ j : Int, near_3 j = near_4 j) (hE_0_9_5 : ∀ j : Int, near_4 j = near_5 j) (hE_0_9_6 : ∀ j : Int, near_5 j = near_6 j) (hE_0_9_7 : ∀ j : Int, near_6 j = near_7 j) (hK_0_9 : ∀ j : Int, 0 ≤ j → j < 25 → 0 ≤ near_0 j ∧ near_0 j ≤ 16777215) (hE_0_10_1 : ∀ j : Int, link_0 j = link_1 j) (hE_0_10_2 : ∀ j : Int, link_1 j = link_2 j) (hE_0_10_3 : ∀ j : Int, link_2 j = link_3 j) (hE_0_10_4 : ∀ j : Int, 0 ≤ j → (j = x14 → link_3 j = x4) ∧ (j ≠ x14 → link_3 j = link_4 j)) (hE_0_10_5 : ∀ j : Int, 0 ≤ j → (j = x11 → link_4 j = x4) ∧ (j ≠ x11 → link_4 j = link_5 j)) (hE_0_10_6 : ∀ j : Int, link_5 j = link_6 j) (hE_0_10_7 : ∀ j : Int, link_6 j = link_7 j) (hK_0_10 : ∀ j : Int, 0 ≤ j → j < 625 → (-1) ≤ link_0 j ∧ link_0 j ≤ 71) (kz_0_5 : 0 ≤ nodes_0 ∧ nodes_0 ≤ 24) (kz_0_6 : 0 ≤ edges_0 ∧ edges_0 ≤ 72) : NOK (nodes_0) (edges_0) (tail_0) (head_0) (near_0) := by
  subst fe_0_5_1
  subst fe_0_5_2
  subst fe_0_6_2
  subst fe_0_5_3
  subst fe_0_6_3
  subst fe_0_5_4
  subst fe_0_6_4
  subst fe_0_5_5
  subst fe_0_6_5
  subst fe_0_5_6
  subst fe_0_6_6
  subst fe_0_5_7
  subst fe_0_6_7
  have e_hE_0_7_1 := funext hE_0_7_1; subst e_hE_0_7_1
  have e_hE_0_7_2 := funext hE_0_7_2; subst e_hE_0_7_2
  have e_hE_0_7_3 := funext hE_0_7_3; subst e_hE_0_7_3
  have e_hE_0_7_4 := funext hE_0_7_4; subst e_hE_0_7_4
  have e_hE_0_7_5 := funext hE_0_7_5; subst e_hE_0_7_5
  have e_hE_0_7_6 := funext hE_0_7_6; subst e_hE_0_7_6
  have e_hE_0_8_1 := funext hE_0_8_1; subst e_hE_0_8_1
  have e_hE_0_8_2 := funext hE_0_8_2; subst e_hE_0_8_2
  have e_hE_0_8_3 := funext hE_0_8_3; subst e_hE_0_8_3
  have e_hE_0_8_4 := funext hE_0_8_4; subst e_hE_0_8_4
  have e_hE_0_8_5 := funext hE_0_8_5; subst e_hE_0_8_5
  have e_hE_0_8_7 := funext hE_0_8_7; subst e_hE_0_8_7
  have e_hE_0_9_1 := funext hE_0_9_1; subst e_hE_0_9_1
  have e_hE_0_9_4 := funext hE_0_9_4; subst e_hE_0_9_4
  have e_hE_0_9_5 := funext hE_0_9_5; subst e_hE_0_9_5
  have e_hE_0_9_6 := funext hE_0_9_6; subst e_hE_0_9_6
  have e_hE_0_9_7 := funext hE_0_9_7; subst e_hE_0_9_7
  have e_hE_0_10_1 := funext hE_0_10_1; subst e_hE_0_10_1
  have e_hE_0_10_2 := funext hE_0_10_2; subst e_hE_0_10_2
  have e_hE_0_10_3 := funext hE_0_10_3; subst e_hE_0_10_3
  have e_hE_0_10_6 := funext hE_0_10_6; subst e_hE_0_10_6
  have e_hE_0_10_7 := funext hE_0_10_7; subst e_hE_0_10_7
  first
    | assumption
    | (have o1 : x20 = 1 := by omega
       have o2 : x16 = 1 := by omega
       subst o1 o2
       exact nok_join (a := x1) (b := x2) (p1 := x3) (p2 := x3) (a1 := x1) (b1 := x2) (x1 := x15) (q1 := x17) (y1 := x18) (x2 := x19) (q2 := x21) (y2 := x22) (pa := x1) (pb := x2) ‹NOK _ _ _ _ _› (by omega) (by omega) (by omega) (by omega) (by omega) (by omega) (by omega) (by assumption) (by omega) rfl (by assumption) (by omega) rfl (by assumption) (by assumption) (by assumption) (by assumption) rfl (by assumption) (by assumption) (by assumption) (by assumption) rfl (by omega))
    | (have o1 : x21 = 1 := by omega
       have o2 : x17 = 1 := by omega
       subst o1 o2
       exact nok_join (a := x1) (b := x2) (p1 := x4) (p2 := x4) (a1 := x1) (b1 := x2) (x1 := x16) (q1 := x18) (y1 := x19) (x2 := x20) (q2 := x22) (y2 := x23) (pa := x1) (pb := x2) ‹NOK _ _ _ _ _› (by omega) (by omega) (by omega) (by omega) (by omega) (by omega) (by omega) (by assumption) (by omega) rfl (by assumption) (by omega) rfl (by assumption) (by assumption) (by assumption) (by assumption) rfl (by assumption) (by assumption) (by assumption) (by assumption) rfl (by omega))
    | exact nok_join ‹NOK _ _ _ _ _› (by omega) (by omega) (by omega) (by omega) (by omega) (by omega) (by omega) (by assumption) (by omega) rfl (by assumption) (by omega) rfl (by assumption) (by assumption) (by assumption) (by assumption) rfl (by assumption) (by assumption) (by assumption) (by assumption) rfl (by omega)
  
set_option maxHeartbeats 4000000 in
theorem vc_Ne_join_at_Ne_gk_0_1 (x1 : Int) (x2 : Int) (x3 : Int) (x4 : Int) (x5 : Int) (x11 : Int) (x14 : Int) (x16 : Int) (x17 : Int) (x18 : Int) (x19 : Int) (x20 : Int) (x21 : Int) (x22 : Int) (x23 : Int) (x24 : Int) (x25 : Int) (edges_0 : Int) (nodes_0 : Int) (edges_1 : Int) (nodes_1 : Int) (near_2 : Int → Int) (nodes_2 : Int) (edges_2 : Int) (near_3 : Int → Int) (nodes_3 : Int) (edges_3 : Int) (nodes_4 : Int) (edges_4 : Int) (nodes_5 : Int) (edges_5 : Int) (nodes_6 : Int) (edges_6 : Int) (tail_7 : Int → Int) (head_7 : Int → Int) (near_7 : Int → Int) (nodes_7 : Int) (edges_7 : Int) (tail_0 : Int → Int) (tail_1 : Int → Int) (tail_2 : Int → Int) (tail_3 : Int → Int) (tail_4 : Int → Int) (tail_5 : Int → Int) (tail_6 : Int → Int) (head_0 : Int → Int) (head_1 : Int → Int) (head_2 : Int → Int) (head_3 : Int → Int) (head_4 : Int → Int) (head_5 : Int → Int) (head_6 : Int → Int) (near_0 : Int → Int) (near_1 : Int → Int) (near_4 : Int → Int) (near_5 : Int → Int) (near_6 : Int → Int) (link_0 : Int → Int) (link_1 : Int → Int) (link_2 : Int → Int) (link_3 : Int → Int) (link_4 : Int → Int) (link_5 : Int → Int) (link_6 : Int → Int) (link_7 : Int → Int) (k1 : 0 ≤ x1 ∧ x1 ≤ 23) (k2 : 0 ≤ x2 ∧ x2 ≤ 23) (k3 : 0 ≤ x3 ∧ x3 ≤ 72) (k4 : 0 ≤ x4 ∧ x4 ≤ 71) (k5 : 72 ≤ x5 ∧ x5 ≤ 72) (k11 : 0 ≤ x11 ∧ x11 ≤ 598) (k14 : 0 ≤ x14 ∧ x14 ≤ 598) (k16 : 0 ≤ x16 ∧ x16 ≤ 16777215) (k17 : 1 ≤ x17 ∧ x17 ≤ 1) (k18 : 1 ≤ x18 ∧ x18 ≤ 8388608) (k19 : 0 ≤ x19 ∧ x19 ≤ 16777215) (k20 : 0 ≤ x20 ∧ x20 ≤ 16777215) (k21 : 1 ≤ x21 ∧ x21 ≤ 1) (k22 : 1 ≤ x22 ∧ x22 ≤ 8388608) (k23 : 0 ≤ x23 ∧ x23 ≤ 16777215) (k24 : 1 ≤ x24 ∧ x24 ≤ 1) (k25 : 1 ≤ x25 ∧ x25 ≤ 72) (d0 : x4 + 1 ≤ x25 ∧ x25 ≤ x4 + 1) (d1 : x1 + 0 ≤ x14 ∧ x14 ≤ x1 + 575) (d2 : x2 + 0 ≤ x11 ∧ x11 ≤ x2 + 575) (g0 : x25 = edges_0) (f5 : (0 ≤ x1) ∧ ((x1 + 1) ≤ nodes_0)) (f6 : (0 ≤ x2) ∧ ((x2 + 1) ≤ nodes_0)) (f7 : x1 ≠ x2) (f9 : x25 = x4 + x24) (g10 : x4 = edges_1) (f11 : (0 ≤ x1) ∧ ((x1 + 1) ≤ nodes_1)) (f12 : (0 ≤ x2) ∧ ((x2 + 1) ≤ nodes_1)) (f13 : x1 ≠ x2) (f14 : edges_1 = x3) (f16 : x23 ≤ x20 + x22 ∧ x20 ≤ x23 ∧ x22 ≤ x23) (f17 : bvp (x23) = bvp (x20) ||| bvp (x22)) (f18 : bvp (x22) = bvp (x21) <<< (x1).toNat) (h19 : x20 = near_2 (x2)) (f20 : (0 ≤ x1) ∧ ((x1 + 1) ≤ nodes_2)) (f21 : (0 ≤ x2) ∧ ((x2 + 1) ≤ nodes_2)) (f22 : x1 ≠ x2) (f23 : edges_2 = x3) (f25 : x19 ≤ x16 + x18 ∧ x16 ≤ x19 ∧ x18 ≤ x19) (f26 : bvp (x19) = bvp (x16) ||| bvp (x18)) (f27 : bvp (x18) = bvp (x17) <<< (x2).toNat) (h28 : x16 = near_3 (x1)) (f29 : (0 ≤ x1) ∧ ((x1 + 1) ≤ nodes_3)) (f30 : (0 ≤ x2) ∧ ((x2 + 1) ≤ nodes_3)) (f31 : x1 ≠ x2) (f32 : edges_3 = x3) (f34 : (0 ≤ x1) ∧ ((x1 + 1) ≤ nodes_4)) (f35 : (0 ≤ x2) ∧ ((x2 + 1) ≤ nodes_4)) (f36 : x1 ≠ x2) (f37 : edges_4 = x3) (f39 : (0 ≤ x1) ∧ ((x1 + 1) ≤ nodes_5)) (f40 : (0 ≤ x2) ∧ ((x2 + 1) ≤ nodes_5)) (f41 : x1 ≠ x2) (f42 : edges_5 = x3) (f44 : (0 ≤ x1) ∧ ((x1 + 1) ≤ nodes_6)) (f45 : (0 ≤ x2) ∧ ((x2 + 1) ≤ nodes_6)) (f46 : x1 ≠ x2) (f47 : edges_6 = x3) (f49 : x4 < x5) (f50 : NOK (nodes_7) (edges_7) (tail_7) (head_7) (near_7)) (f51 : (0 ≤ x1) ∧ ((x1 + 1) ≤ nodes_7)) (f52 : (0 ≤ x2) ∧ ((x2 + 1) ≤ nodes_7)) (f53 : x1 ≠ x2) (f54 : edges_7 = x3) (fe_0_5_1 : nodes_0 = nodes_1) (fe_0_6_1 : edges_0 = x25) (fe_0_5_2 : nodes_1 = nodes_2) (fe_0_6_2 : edges_1 = edges_2) (fe_0_5_3 : nodes_2 = nodes_3) (fe_0_6_3 : edges_2 = edges_3) (fe_0_5_4 : nodes_3 = nodes_4) (fe_0_6_4 : edges_3 = edges_4) (fe_0_5_5 : nodes_4 = nodes_5) (fe_0_6_5 : edges_4 = edges_5) (fe_0_5_6 : nodes_5 = nodes_6) (fe_0_6_6 : edges_5 = edges_6) (fe_0_5_7 : nodes_6 = nodes_7) (fe_0_6_7 : edges_6 = edges_7) (hE_0_7_1 : ∀ j : Int, tail_0 j = tail_1 j) (hE_0_7_2 : ∀ j : Int, tail_1 j = tail_2 j) (hE_0_7_3 : ∀ j : Int, tail_2 j = tail_3 j) (hE_0_7_4 : ∀ j : Int, tail_3 j = tail_4 j) (hE_0_7_5 : ∀ j : Int, tail_4 j = tail_5 j) (hE_0_7_6 : ∀ j : Int, tail_5 j = tail_6 j) (hE_0_7_7 : ∀ j : Int, 0 ≤ j → (j = x4 → tail_6 j = x1) ∧ (j ≠ x4 → tail_6 j = tail_7 j)) (hK_0_7 : ∀ j : Int, 0 ≤ j → j < 72 → 0 ≤ tail_0 j ∧ tail_0 j ≤ 23) (hE_0_8_1 : ∀ j : Int, head_0 j = head_1 j) (hE_0_8_2 : ∀ j : Int, head_1 j = head_2 j) (hE_0_8_3 : ∀ j : Int, head_2 j = head_3 j) (hE_0_8_4 : ∀ j : Int, head_3 j = head_4 j) (hE_0_8_5 : ∀ j : Int, head_4 j = head_5 j) (hE_0_8_6 : ∀ j : Int, 0 ≤ j → (j = x4 → head_5 j = x2) ∧ (j ≠ x4 → head_5 j = head_6 j)) (hE_0_8_7 : ∀ j : Int, head_6 j = head_7 j) (hK_0_8 : ∀ j : Int, 0 ≤ j → j < 72 → 0 ≤ head_0 j ∧ head_0 j ≤ 23) (hE_0_9_1 : ∀ j : Int, near_0 j = near_1 j) (hE_0_9_2 : ∀ j : Int, 0 ≤ j → (j = x2 → near_1 j = x23) ∧ (j ≠ x2 → near_1 j = near_2 j)) (hE_0_9_3 : ∀ j : Int, 0 ≤ j → (j = x1 → near_2 j = x19) ∧ (j ≠ x1 → near_2 j = near_3 j)) (hE_0_9_4 : ∀ j : Int, near_3 j = near_4 j) (hE_0_9_5 : ∀ j : Int, near_4 j = near_5 j) (hE_0_9_6 : ∀ j : Int, near_5 j = near_6 j) (hE_0_9_7 : ∀ j : Int, near_6 j = near_7 j) (hK_0_9 : ∀ j : Int, 0 ≤ j → j < 25 → 0 ≤ near_0 j ∧ near_0 j ≤ 16777215) (hE_0_10_1 : ∀ j : Int, link_0 j = link_1 j) (hE_0_10_2 : ∀ j : Int, link_1 j = link_2 j) (hE_0_10_3 : ∀ j : Int, link_2 j = link_3 j) (hE_0_10_4 : ∀ j : Int, 0 ≤ j → (j = x14 → link_3 j = x4) ∧ (j ≠ x14 → link_3 j = link_4 j)) (hE_0_10_5 : ∀ j : Int, 0 ≤ j → (j = x11 → link_4 j = x4) ∧ (j ≠ x11 → link_4 j = link_5 j)) (hE_0_10_6 : ∀ j : Int, link_5 j = link_6 j) (hE_0_10_7 : ∀ j : Int, link_6 j = link_7 j) (hK_0_10 : ∀ j : Int, 0 ≤ j → j < 625 → (-1) ≤ link_0 j ∧ link_0 j ≤ 71) (kz_0_5 : 0 ≤ nodes_0 ∧ nodes_0 ≤ 24) (kz_0_6 : 0 ≤ edges_0 ∧ edges_0 ≤ 72) : (72 ≤ x3) ∨ (edges_0 = (x3 + 1)) := by
  subst fe_0_5_1
  subst fe_0_5_2
  subst fe_0_6_2
  subst fe_0_5_3
  subst fe_0_6_3
  subst fe_0_5_4
  subst fe_0_6_4
  subst fe_0_5_5
  subst fe_0_6_5
  subst fe_0_5_6
  subst fe_0_6_6
  subst fe_0_5_7
  subst fe_0_6_7
  have e_hE_0_7_1 := funext hE_0_7_1; subst e_hE_0_7_1
  have e_hE_0_7_2 := funext hE_0_7_2; subst e_hE_0_7_2
  have e_hE_0_7_3 := funext hE_0_7_3; subst e_hE_0_7_3
  have e_hE_0_7_4 := funext hE_0_7_4; subst e_hE_0_7_4
  have e_hE_0_7_5 := funext hE_0_7_5; subst e_hE_0_7_5
  have e_hE_0_7_6 := funext hE_0_7_6; subst e_hE_0_7_6
  have e_hE_0_8_1 := funext hE_0_8_1; subst e_hE_0_8_1
  have e_hE_0_8_2 := funext hE_0_8_2; subst e_hE_0_8_2
  have e_hE_0_8_3 := funext hE_0_8_3; subst e_hE_0_8_3
  have e_hE_0_8_4 := funext hE_0_8_4; subst e_hE_0_8_4
  have e_hE_0_8_5 := funext hE_0_8_5; subst e_hE_0_8_5
  have e_hE_0_8_7 := funext hE_0_8_7; subst e_hE_0_8_7
  have e_hE_0_9_1 := funext hE_0_9_1; subst e_hE_0_9_1
  have e_hE_0_9_4 := funext hE_0_9_4; subst e_hE_0_9_4
  have e_hE_0_9_5 := funext hE_0_9_5; subst e_hE_0_9_5
  have e_hE_0_9_6 := funext hE_0_9_6; subst e_hE_0_9_6
  have e_hE_0_9_7 := funext hE_0_9_7; subst e_hE_0_9_7
  have e_hE_0_10_1 := funext hE_0_10_1; subst e_hE_0_10_1
  have e_hE_0_10_2 := funext hE_0_10_2; subst e_hE_0_10_2
  have e_hE_0_10_3 := funext hE_0_10_3; subst e_hE_0_10_3
  have e_hE_0_10_6 := funext hE_0_10_6; subst e_hE_0_10_6
  have e_hE_0_10_7 := funext hE_0_10_7; subst e_hE_0_10_7
  first
    | omega
  
def o_Ne_join_at_Ne_gk_0 : or_T := (89, 26, [(0, (2, 0, 0, [5])), (1, (0, 0, 23, [])), (2, (0, 0, 23, [])), (3, (0, 0, 72, [])), (4, (0, 0, 71, [])), (5, (0, 72, 72, [])), (6, (2, 0, 0, [80])), (7, (2, 0, 0, [81])), (8, (2, 0, 0, [83])), (11, (0, 0, 598, [])), (14, (0, 0, 598, [])), (15, (2, 0, 0, [82])), (16, (0, 0, 16777215, [])), (17, (0, 1, 1, [])), (18, (0, 1, 8388608, [])), (19, (0, 0, 16777215, [])), (20, (0, 0, 16777215, [])), (21, (0, 1, 1, [])), (22, (0, 1, 8388608, [])), (23, (0, 0, 16777215, [])), (24, (0, 1, 1, [])), (25, (0, 1, 72, []))], [(9, [25, 0], [6]), (9, [15, 0], [9]), (9, [8, 0], [10]), (9, [7, 0], [8]), (9, [6, 0], [7]), (20, [1, 0], [50, 1, 0, 1005, 2, 6, 0, 2, 0, 0, 1, 0, 0, 6, 4, 2, 1, 0, 0, 1, 2, 1, 5]), (20, [2, 0], [50, 1, 0, 1005, 2, 6, 0, 2, 0, 0, 1, 0, 0, 6, 4, 2, 1, 0, 0, 1, 2, 1, 5]), (20, [1, 2], [50, 0, 0, 7, 2, 1, 0, 1, 1]), (101, [0, 25], [6]), (1, [25, 4, 24], []), (9, [4, 0], [6]), (20, [1, 0], [50, 1, 0, 1005, 2, 6, 0, 2, 0, 0, 1, 0, 0, 6, 4, 2, 1, 0, 0, 1, 2, 1, 5]), (20, [2, 0], [50, 1, 0, 1005, 2, 6, 0, 2, 0, 0, 1, 0, 0, 6, 4, 2, 1, 0, 0, 1, 2, 1, 5]), (20, [1, 2], [50, 0, 0, 7, 2, 1, 0, 1, 1]), (20, [0, 3], [50, 1, 0, 6, 1, 3, 2, 0, 6, 1, 1]), (100, [15, 2, 23], []), (13, [23, 20, 22], []), (16, [23, 20, 22], [1]), (16, [22, 21, 1], [3]), (10, [20, 15, 2], []), (20, [1, 0], [50, 1, 0, 1005, 2, 6, 0, 2, 0, 0, 1, 0, 0, 6, 4, 2, 1, 0, 0, 1, 2, 1, 5]), (20, [2, 0], [50, 1, 0, 1005, 2, 6, 0, 2, 0, 0, 1, 0, 0, 6, 4, 2, 1, 0, 0, 1, 2, 1, 5]), (20, [1, 2], [50, 0, 0, 7, 2, 1, 0, 1, 1]), (20, [0, 3], [50, 1, 0, 6, 1, 3, 2, 0, 6, 1, 1]), (100, [15, 1, 19], []), (13, [19, 16, 18], []), (16, [19, 16, 18], [1]), (16, [18, 17, 2], [3]), (10, [16, 15, 1], []), (20, [1, 0], [50, 1, 0, 1005, 2, 6, 0, 2, 0, 0, 1, 0, 0, 6, 4, 2, 1, 0, 0, 1, 2, 1, 5]), (20, [2, 0], [50, 1, 0, 1005, 2, 6, 0, 2, 0, 0, 1, 0, 0, 6, 4, 2, 1, 0, 0, 1, 2, 1, 5]), (20, [1, 2], [50, 0, 0, 7, 2, 1, 0, 1, 1]), (20, [0, 3], [50, 1, 0, 6, 1, 3, 2, 0, 6, 1, 1]), (100, [8, 14, 4], []), (20, [1, 0], [50, 1, 0, 1005, 2, 6, 0, 2, 0, 0, 1, 0, 0, 6, 4, 2, 1, 0, 0, 1, 2, 1, 5]), (20, [2, 0], [50, 1, 0, 1005, 2, 6, 0, 2, 0, 0, 1, 0, 0, 6, 4, 2, 1, 0, 0, 1, 2, 1, 5]), (20, [1, 2], [50, 0, 0, 7, 2, 1, 0, 1, 1]), (20, [0, 3], [50, 1, 0, 6, 1, 3, 2, 0, 6, 1, 1]), (100, [8, 11, 4], []), (20, [1, 0], [50, 1, 0, 1005, 2, 6, 0, 2, 0, 0, 1, 0, 0, 6, 4, 2, 1, 0, 0, 1, 2, 1, 5]), (20, [2, 0], [50, 1, 0, 1005, 2, 6, 0, 2, 0, 0, 1, 0, 0, 6, 4, 2, 1, 0, 0, 1, 2, 1, 5]), (20, [1, 2], [50, 0, 0, 7, 2, 1, 0, 1, 1]), (20, [0, 3], [50, 1, 0, 6, 1, 3, 2, 0, 6, 1, 1]), (100, [7, 4, 2], []), (20, [1, 0], [50, 1, 0, 1005, 2, 6, 0, 2, 0, 0, 1, 0, 0, 6, 4, 2, 1, 0, 0, 1, 2, 1, 5]), (20, [2, 0], [50, 1, 0, 1005, 2, 6, 0, 2, 0, 0, 1, 0, 0, 6, 4, 2, 1, 0, 0, 1, 2, 1, 5]), (20, [1, 2], [50, 0, 0, 7, 2, 1, 0, 1, 1]), (20, [0, 3], [50, 1, 0, 6, 1, 3, 2, 0, 6, 1, 1]), (100, [6, 4, 1], []), (7, [4, 5], [2]), (20, [0], [60, 2, 3, 595, 5, 6, 7, 8, 9]), (20, [1, 0], [50, 1, 0, 1005, 2, 6, 0, 2, 0, 0, 1, 0, 0, 6, 4, 2, 1, 0, 0, 1, 2, 1, 5]), (20, [2, 0], [50, 1, 0, 1005, 2, 6, 0, 2, 0, 0, 1, 0, 0, 6, 4, 2, 1, 0, 0, 1, 2, 1, 5]), (20, [1, 2], [50, 0, 0, 7, 2, 1, 0, 1, 1]), (20, [0, 3], [50, 1, 0, 6, 1, 3, 2, 0, 6, 1, 1])], [], [], [(20, [0], [60, 2, 3, 595, 5, 6, 7, 8, 9]), (20, [3, 0], [50, 1, 0, 1006, 3, 6, 0, 2, 0, 72, 1, 0, 1, 3, 2, 1, 6, 4, 2, 1, 0, 0, 1])], [], [(25, 4, 1, 1), (14, 1, 0, 575), (11, 2, 0, 575)])
theorem oo_Ne_join_at_Ne_gk_0 {kA : Nat → ClassId} : or_ok PRD kA GG o_Ne_join_at_Ne_gk_0 := by
  refine or_mk fun A ta ws vs hD hth hl => ?_
  intro t0 r0 t1 k1 t2 k2 t3 k3 t4 k4 t5 k5 t6 r6 t7 r7 t8 r8 t11 k11 t14 k14 t15 r15 t16 k16 t17 k17 t18 k18 t19 k19 t20 k20 t21 k21 t22 k22 t23 k23 t24 k24 t25 k25 d0 d1 d2 f0 f1 f2 f3 f4 f5 f6 f7 ta1 w1 le1 s1 f9 f10 f11 f12 f13 f14 ta2 w2 le2 s2 f16 f17 f18 f19 f20 f21 f22 f23 ta3 w3 le3 s3 f25 f26 f27 f28 f29 f30 f31 f32 ta4 w4 le4 s4 f34 f35 f36 f37 ta5 w5 le5 s5 f39 f40 f41 f42 ta6 w6 le6 s6 f44 f45 f46 f47 ta7 w7 le7 s7 f49 f50 f51 f52 f53 f54
  replace f0 := shm_110 f0
  replace f1 := shm_120 f1
  replace f2 := shm_114 f2
  replace f3 := shm_143 f3
  replace f4 := shm_216 f4
  have s1 : (∀ b j, w_el ws b j = w_el w1 b j) ∧ ∀ b j, w_fd ws b j = if b = v_ad (n_v vs 0) ∧ j = 6 then n_v vs 25 else w_fd w1 b j := s1.2
  replace f10 := shm_110 f10
  have s2 : (∀ b j, w_el w1 b j = if b = v_ad (n_v vs 15) ∧ j = (v_iv (n_v vs 2)).toNat then v_iv (n_v vs 23) else w_el w2 b j) ∧ ∀ b k, w_fd w1 b k = w_fd w2 b k := s2.2
  have f16 : v_iv (n_v vs 23) ≤ v_iv (n_v vs 20) + v_iv (n_v vs 22) ∧ v_iv (n_v vs 20) ≤ v_iv (n_v vs 23) ∧ v_iv (n_v vs 22) ≤ v_iv (n_v vs 23) := (fun (h : v_iv (n_v vs 23) ≤ v_iv (n_v vs 20) + v_iv (n_v vs 22) ∧ v_iv (n_v vs 20) ≤ v_iv (n_v vs 23) ∧ v_iv (n_v vs 22) ≤ v_iv (n_v vs 23) ∧ (v_iv (n_v vs 23)).toNat = (v_iv (n_v vs 20)).toNat ||| (v_iv (n_v vs 22)).toNat) => ⟨h.1, h.2.1, h.2.2.1⟩) f16
  replace f19 := shm_106 f19
  have s3 : (∀ b j, w_el w2 b j = if b = v_ad (n_v vs 15) ∧ j = (v_iv (n_v vs 1)).toNat then v_iv (n_v vs 19) else w_el w3 b j) ∧ ∀ b k, w_fd w2 b k = w_fd w3 b k := s3.2
  have f25 : v_iv (n_v vs 19) ≤ v_iv (n_v vs 16) + v_iv (n_v vs 18) ∧ v_iv (n_v vs 16) ≤ v_iv (n_v vs 19) ∧ v_iv (n_v vs 18) ≤ v_iv (n_v vs 19) := (fun (h : v_iv (n_v vs 19) ≤ v_iv (n_v vs 16) + v_iv (n_v vs 18) ∧ v_iv (n_v vs 16) ≤ v_iv (n_v vs 19) ∧ v_iv (n_v vs 18) ≤ v_iv (n_v vs 19) ∧ (v_iv (n_v vs 19)).toNat = (v_iv (n_v vs 16)).toNat ||| (v_iv (n_v vs 18)).toNat) => ⟨h.1, h.2.1, h.2.2.1⟩) f25
  replace f28 := shm_106 f28
  have s4 : (∀ b j, w_el w3 b j = if b = v_ad (n_v vs 8) ∧ j = (v_iv (n_v vs 14)).toNat then v_iv (n_v vs 4) else w_el w4 b j) ∧ ∀ b k, w_fd w3 b k = w_fd w4 b k := s4.2
  have s5 : (∀ b j, w_el w4 b j = if b = v_ad (n_v vs 8) ∧ j = (v_iv (n_v vs 11)).toNat then v_iv (n_v vs 4) else w_el w5 b j) ∧ ∀ b k, w_fd w4 b k = w_fd w5 b k := s5.2
  have s6 : (∀ b j, w_el w5 b j = if b = v_ad (n_v vs 7) ∧ j = (v_iv (n_v vs 4)).toNat then v_iv (n_v vs 2) else w_el w6 b j) ∧ ∀ b k, w_fd w5 b k = w_fd w6 b k := s6.2
  have s7 : (∀ b j, w_el w6 b j = if b = v_ad (n_v vs 6) ∧ j = (v_iv (n_v vs 4)).toNat then v_iv (n_v vs 1) else w_el w7 b j) ∧ ∀ b k, w_fd w6 b k = w_fd w7 b k := s7.2
  replace f50 := shm_421 f50
  have ar_0_7_1 : w_ar w1 (n_v vs 0) 7 = w_ar ws (n_v vs 0) 7 := by show v_ad (w_fd w1 _ _) = v_ad (w_fd ws _ _); rw [s1.2, if_neg (fun e => absurd e.2 (by decide))]
  have ar_0_7_2 : w_ar w2 (n_v vs 0) 7 = w_ar ws (n_v vs 0) 7 := by rw [← ar_0_7_1]; show v_ad (w_fd w2 _ _) = v_ad (w_fd w1 _ _); rw [s2.2]
  have ar_0_7_3 : w_ar w3 (n_v vs 0) 7 = w_ar ws (n_v vs 0) 7 := by rw [← ar_0_7_2]; show v_ad (w_fd w3 _ _) = v_ad (w_fd w2 _ _); rw [s3.2]
  have ar_0_7_4 : w_ar w4 (n_v vs 0) 7 = w_ar ws (n_v vs 0) 7 := by rw [← ar_0_7_3]; show v_ad (w_fd w4 _ _) = v_ad (w_fd w3 _ _); rw [s4.2]
  have ar_0_7_5 : w_ar w5 (n_v vs 0) 7 = w_ar ws (n_v vs 0) 7 := by rw [← ar_0_7_4]; show v_ad (w_fd w5 _ _) = v_ad (w_fd w4 _ _); rw [s5.2]
  have ar_0_7_6 : w_ar w6 (n_v vs 0) 7 = w_ar ws (n_v vs 0) 7 := by rw [← ar_0_7_5]; show v_ad (w_fd w6 _ _) = v_ad (w_fd w5 _ _); rw [s6.2]
  have ar_0_7_7 : w_ar w7 (n_v vs 0) 7 = w_ar ws (n_v vs 0) 7 := by rw [← ar_0_7_6]; show v_ad (w_fd w7 _ _) = v_ad (w_fd w6 _ _); rw [s7.2]
  have cr_0_7 := fdq_63 hD hth r0
  have ar_0_8_1 : w_ar w1 (n_v vs 0) 8 = w_ar ws (n_v vs 0) 8 := by show v_ad (w_fd w1 _ _) = v_ad (w_fd ws _ _); rw [s1.2, if_neg (fun e => absurd e.2 (by decide))]
  have ar_0_8_2 : w_ar w2 (n_v vs 0) 8 = w_ar ws (n_v vs 0) 8 := by rw [← ar_0_8_1]; show v_ad (w_fd w2 _ _) = v_ad (w_fd w1 _ _); rw [s2.2]
  have ar_0_8_3 : w_ar w3 (n_v vs 0) 8 = w_ar ws (n_v vs 0) 8 := by rw [← ar_0_8_2]; show v_ad (w_fd w3 _ _) = v_ad (w_fd w2 _ _); rw [s3.2]
  have ar_0_8_4 : w_ar w4 (n_v vs 0) 8 = w_ar ws (n_v vs 0) 8 := by rw [← ar_0_8_3]; show v_ad (w_fd w4 _ _) = v_ad (w_fd w3 _ _); rw [s4.2]
  have ar_0_8_5 : w_ar w5 (n_v vs 0) 8 = w_ar ws (n_v vs 0) 8 := by rw [← ar_0_8_4]; show v_ad (w_fd w5 _ _) = v_ad (w_fd w4 _ _); rw [s5.2]
  have ar_0_8_6 : w_ar w6 (n_v vs 0) 8 = w_ar ws (n_v vs 0) 8 := by rw [← ar_0_8_5]; show v_ad (w_fd w6 _ _) = v_ad (w_fd w5 _ _); rw [s6.2]
  have ar_0_8_7 : w_ar w7 (n_v vs 0) 8 = w_ar ws (n_v vs 0) 8 := by rw [← ar_0_8_6]; show v_ad (w_fd w7 _ _) = v_ad (w_fd w6 _ _); rw [s7.2]
  have cr_0_8 := fdq_64 hD hth r0
  have ar_0_9_1 : w_ar w1 (n_v vs 0) 9 = w_ar ws (n_v vs 0) 9 := by show v_ad (w_fd w1 _ _) = v_ad (w_fd ws _ _); rw [s1.2, if_neg (fun e => absurd e.2 (by decide))]
  have ar_0_9_2 : w_ar w2 (n_v vs 0) 9 = w_ar ws (n_v vs 0) 9 := by rw [← ar_0_9_1]; show v_ad (w_fd w2 _ _) = v_ad (w_fd w1 _ _); rw [s2.2]
  have ar_0_9_3 : w_ar w3 (n_v vs 0) 9 = w_ar ws (n_v vs 0) 9 := by rw [← ar_0_9_2]; show v_ad (w_fd w3 _ _) = v_ad (w_fd w2 _ _); rw [s3.2]
  have ar_0_9_4 : w_ar w4 (n_v vs 0) 9 = w_ar ws (n_v vs 0) 9 := by rw [← ar_0_9_3]; show v_ad (w_fd w4 _ _) = v_ad (w_fd w3 _ _); rw [s4.2]
  have ar_0_9_5 : w_ar w5 (n_v vs 0) 9 = w_ar ws (n_v vs 0) 9 := by rw [← ar_0_9_4]; show v_ad (w_fd w5 _ _) = v_ad (w_fd w4 _ _); rw [s5.2]
  have ar_0_9_6 : w_ar w6 (n_v vs 0) 9 = w_ar ws (n_v vs 0) 9 := by rw [← ar_0_9_5]; show v_ad (w_fd w6 _ _) = v_ad (w_fd w5 _ _); rw [s6.2]
  have ar_0_9_7 : w_ar w7 (n_v vs 0) 9 = w_ar ws (n_v vs 0) 9 := by rw [← ar_0_9_6]; show v_ad (w_fd w7 _ _) = v_ad (w_fd w6 _ _); rw [s7.2]
  have cr_0_9 := fdq_84 hD hth r0
  have cr_0_10 := fdq_85 hD hth r0
  have ad_15 : v_ad (n_v vs 15) = w_ar ws (n_v vs 0) 9 := congrArg v_ad f1
  have ad_8 : v_ad (n_v vs 8) = w_ar ws (n_v vs 0) 10 := congrArg v_ad f2
  have ad_7 : v_ad (n_v vs 7) = w_ar ws (n_v vs 0) 8 := congrArg v_ad f3
  have ad_6 : v_ad (n_v vs 6) = w_ar ws (n_v vs 0) 7 := congrArg v_ad f4
  have g0 : v_iv (n_v vs 25) = w_fi ws (n_v vs 0) 6 := congrArg v_iv f0
  have g10 : v_iv (n_v vs 4) = w_fi w1 (n_v vs 0) 6 := congrArg v_iv f10
  simp only [ad_15] at f19
  have h19 : v_iv (n_v vs 20) = w_ei w2 (w_ar ws (n_v vs 0) 9) (v_iv (n_v vs 2)) := f19
  simp only [ad_15] at f28
  have h28 : v_iv (n_v vs 16) = w_ei w3 (w_ar ws (n_v vs 0) 9) (v_iv (n_v vs 1)) := f28
  simp only [ar_0_7_7, ar_0_8_7, ar_0_9_7] at f50
  have fe_0_5_1 : w_fi ws (n_v vs 0) 5 = w_fi w1 (n_v vs 0) 5 := by show v_iv (w_fd _ _ _) = v_iv (w_fd _ _ _); rw [s1.2, if_neg (fun e => absurd e.2 (by decide))]
  have fe_0_6_1 : w_fi ws (n_v vs 0) 6 = v_iv (n_v vs 25) := by show v_iv (w_fd _ _ _) = _; rw [s1.2, if_pos ⟨rfl, rfl⟩]
  have fe_0_5_2 : w_fi w1 (n_v vs 0) 5 = w_fi w2 (n_v vs 0) 5 := congrArg v_iv (s2.2 _ _)
  have fe_0_6_2 : w_fi w1 (n_v vs 0) 6 = w_fi w2 (n_v vs 0) 6 := congrArg v_iv (s2.2 _ _)
  have fe_0_5_3 : w_fi w2 (n_v vs 0) 5 = w_fi w3 (n_v vs 0) 5 := congrArg v_iv (s3.2 _ _)
  have fe_0_6_3 : w_fi w2 (n_v vs 0) 6 = w_fi w3 (n_v vs 0) 6 := congrArg v_iv (s3.2 _ _)
  have fe_0_5_4 : w_fi w3 (n_v vs 0) 5 = w_fi w4 (n_v vs 0) 5 := congrArg v_iv (s4.2 _ _)
  have fe_0_6_4 : w_fi w3 (n_v vs 0) 6 = w_fi w4 (n_v vs 0) 6 := congrArg v_iv (s4.2 _ _)
  have fe_0_5_5 : w_fi w4 (n_v vs 0) 5 = w_fi w5 (n_v vs 0) 5 := congrArg v_iv (s5.2 _ _)
  have fe_0_6_5 : w_fi w4 (n_v vs 0) 6 = w_fi w5 (n_v vs 0) 6 := congrArg v_iv (s5.2 _ _)
  have fe_0_5_6 : w_fi w5 (n_v vs 0) 5 = w_fi w6 (n_v vs 0) 5 := congrArg v_iv (s6.2 _ _)
  have fe_0_6_6 : w_fi w5 (n_v vs 0) 6 = w_fi w6 (n_v vs 0) 6 := congrArg v_iv (s6.2 _ _)
  have fe_0_5_7 : w_fi w6 (n_v vs 0) 5 = w_fi w7 (n_v vs 0) 5 := congrArg v_iv (s7.2 _ _)
  have fe_0_6_7 : w_fi w6 (n_v vs 0) 6 = w_fi w7 (n_v vs 0) 6 := congrArg v_iv (s7.2 _ _)
  have hE_0_7_1 : ∀ j : Int, w_ei ws (w_ar ws (n_v vs 0) 7) j = w_ei w1 (w_ar ws (n_v vs 0) 7) j := fun j => s1.1 _ _
  have hE_0_7_2 : ∀ j : Int, w_ei w1 (w_ar ws (n_v vs 0) 7) j = w_ei w2 (w_ar ws (n_v vs 0) 7) j := el_kp s2.1 r15 cr_0_7 (by decide)
  have hE_0_7_3 : ∀ j : Int, w_ei w2 (w_ar ws (n_v vs 0) 7) j = w_ei w3 (w_ar ws (n_v vs 0) 7) j := el_kp s3.1 r15 cr_0_7 (by decide)
  have hE_0_7_4 : ∀ j : Int, w_ei w3 (w_ar ws (n_v vs 0) 7) j = w_ei w4 (w_ar ws (n_v vs 0) 7) j := el_kp s4.1 r8 cr_0_7 (by decide)
  have hE_0_7_5 : ∀ j : Int, w_ei w4 (w_ar ws (n_v vs 0) 7) j = w_ei w5 (w_ar ws (n_v vs 0) 7) j := el_kp s5.1 r8 cr_0_7 (by decide)
  have hE_0_7_6 : ∀ j : Int, w_ei w5 (w_ar ws (n_v vs 0) 7) j = w_ei w6 (w_ar ws (n_v vs 0) 7) j := el_kp s6.1 r7 cr_0_7 (by decide)
  have hE_0_7_7 : ∀ j : Int, 0 ≤ j → (j = v_iv (n_v vs 4) → w_ei w6 (w_ar ws (n_v vs 0) 7) j = v_iv (n_v vs 1)) ∧ (j ≠ v_iv (n_v vs 4) → w_ei w6 (w_ar ws (n_v vs 0) 7) j = w_ei w7 (w_ar ws (n_v vs 0) 7) j) := fun j hj => ⟨fun h => by unfold w_ei; rw [s7.1, if_pos ⟨ad_6.symm, by rw [h]⟩], fun h => by unfold w_ei; rw [s7.1, if_neg (fun e => h (by have := e.2; omega))]⟩
  have hK_0_7 := elq_18 hD hth cr_0_7
  have hE_0_8_1 : ∀ j : Int, w_ei ws (w_ar ws (n_v vs 0) 8) j = w_ei w1 (w_ar ws (n_v vs 0) 8) j := fun j => s1.1 _ _
  have hE_0_8_2 : ∀ j : Int, w_ei w1 (w_ar ws (n_v vs 0) 8) j = w_ei w2 (w_ar ws (n_v vs 0) 8) j := el_kp s2.1 r15 cr_0_8 (by decide)
  have hE_0_8_3 : ∀ j : Int, w_ei w2 (w_ar ws (n_v vs 0) 8) j = w_ei w3 (w_ar ws (n_v vs 0) 8) j := el_kp s3.1 r15 cr_0_8 (by decide)
  have hE_0_8_4 : ∀ j : Int, w_ei w3 (w_ar ws (n_v vs 0) 8) j = w_ei w4 (w_ar ws (n_v vs 0) 8) j := el_kp s4.1 r8 cr_0_8 (by decide)
  have hE_0_8_5 : ∀ j : Int, w_ei w4 (w_ar ws (n_v vs 0) 8) j = w_ei w5 (w_ar ws (n_v vs 0) 8) j := el_kp s5.1 r8 cr_0_8 (by decide)
  have hE_0_8_6 : ∀ j : Int, 0 ≤ j → (j = v_iv (n_v vs 4) → w_ei w5 (w_ar ws (n_v vs 0) 8) j = v_iv (n_v vs 2)) ∧ (j ≠ v_iv (n_v vs 4) → w_ei w5 (w_ar ws (n_v vs 0) 8) j = w_ei w6 (w_ar ws (n_v vs 0) 8) j) := fun j hj => ⟨fun h => by unfold w_ei; rw [s6.1, if_pos ⟨ad_7.symm, by rw [h]⟩], fun h => by unfold w_ei; rw [s6.1, if_neg (fun e => h (by have := e.2; omega))]⟩
  have hE_0_8_7 : ∀ j : Int, w_ei w6 (w_ar ws (n_v vs 0) 8) j = w_ei w7 (w_ar ws (n_v vs 0) 8) j := el_kp s7.1 r6 cr_0_8 (by decide)
  have hK_0_8 := elq_19 hD hth cr_0_8
  have hE_0_9_1 : ∀ j : Int, w_ei ws (w_ar ws (n_v vs 0) 9) j = w_ei w1 (w_ar ws (n_v vs 0) 9) j := fun j => s1.1 _ _
  have hE_0_9_2 : ∀ j : Int, 0 ≤ j → (j = v_iv (n_v vs 2) → w_ei w1 (w_ar ws (n_v vs 0) 9) j = v_iv (n_v vs 23)) ∧ (j ≠ v_iv (n_v vs 2) → w_ei w1 (w_ar ws (n_v vs 0) 9) j = w_ei w2 (w_ar ws (n_v vs 0) 9) j) := fun j hj => ⟨fun h => by unfold w_ei; rw [s2.1, if_pos ⟨ad_15.symm, by rw [h]⟩], fun h => by unfold w_ei; rw [s2.1, if_neg (fun e => h (by have := e.2; omega))]⟩
  have hE_0_9_3 : ∀ j : Int, 0 ≤ j → (j = v_iv (n_v vs 1) → w_ei w2 (w_ar ws (n_v vs 0) 9) j = v_iv (n_v vs 19)) ∧ (j ≠ v_iv (n_v vs 1) → w_ei w2 (w_ar ws (n_v vs 0) 9) j = w_ei w3 (w_ar ws (n_v vs 0) 9) j) := fun j hj => ⟨fun h => by unfold w_ei; rw [s3.1, if_pos ⟨ad_15.symm, by rw [h]⟩], fun h => by unfold w_ei; rw [s3.1, if_neg (fun e => h (by have := e.2; omega))]⟩
  have hE_0_9_4 : ∀ j : Int, w_ei w3 (w_ar ws (n_v vs 0) 9) j = w_ei w4 (w_ar ws (n_v vs 0) 9) j := el_kp s4.1 r8 cr_0_9 (by decide)
  have hE_0_9_5 : ∀ j : Int, w_ei w4 (w_ar ws (n_v vs 0) 9) j = w_ei w5 (w_ar ws (n_v vs 0) 9) j := el_kp s5.1 r8 cr_0_9 (by decide)
  have hE_0_9_6 : ∀ j : Int, w_ei w5 (w_ar ws (n_v vs 0) 9) j = w_ei w6 (w_ar ws (n_v vs 0) 9) j := el_kp s6.1 r7 cr_0_9 (by decide)
  have hE_0_9_7 : ∀ j : Int, w_ei w6 (w_ar ws (n_v vs 0) 9) j = w_ei w7 (w_ar ws (n_v vs 0) 9) j := el_kp s7.1 r6 cr_0_9 (by decide)
  have hK_0_9 := elq_25 hD hth cr_0_9
  have hE_0_10_1 : ∀ j : Int, w_ei ws (w_ar ws (n_v vs 0) 10) j = w_ei w1 (w_ar ws (n_v vs 0) 10) j := fun j => s1.1 _ _
  have hE_0_10_2 : ∀ j : Int, w_ei w1 (w_ar ws (n_v vs 0) 10) j = w_ei w2 (w_ar ws (n_v vs 0) 10) j := el_kp s2.1 r15 cr_0_10 (by decide)
  have hE_0_10_3 : ∀ j : Int, w_ei w2 (w_ar ws (n_v vs 0) 10) j = w_ei w3 (w_ar ws (n_v vs 0) 10) j := el_kp s3.1 r15 cr_0_10 (by decide)
  have hE_0_10_4 : ∀ j : Int, 0 ≤ j → (j = v_iv (n_v vs 14) → w_ei w3 (w_ar ws (n_v vs 0) 10) j = v_iv (n_v vs 4)) ∧ (j ≠ v_iv (n_v vs 14) → w_ei w3 (w_ar ws (n_v vs 0) 10) j = w_ei w4 (w_ar ws (n_v vs 0) 10) j) := fun j hj => ⟨fun h => by unfold w_ei; rw [s4.1, if_pos ⟨ad_8.symm, by rw [h]⟩], fun h => by unfold w_ei; rw [s4.1, if_neg (fun e => h (by have := e.2; omega))]⟩
  have hE_0_10_5 : ∀ j : Int, 0 ≤ j → (j = v_iv (n_v vs 11) → w_ei w4 (w_ar ws (n_v vs 0) 10) j = v_iv (n_v vs 4)) ∧ (j ≠ v_iv (n_v vs 11) → w_ei w4 (w_ar ws (n_v vs 0) 10) j = w_ei w5 (w_ar ws (n_v vs 0) 10) j) := fun j hj => ⟨fun h => by unfold w_ei; rw [s5.1, if_pos ⟨ad_8.symm, by rw [h]⟩], fun h => by unfold w_ei; rw [s5.1, if_neg (fun e => h (by have := e.2; omega))]⟩
  have hE_0_10_6 : ∀ j : Int, w_ei w5 (w_ar ws (n_v vs 0) 10) j = w_ei w6 (w_ar ws (n_v vs 0) 10) j := el_kp s6.1 r7 cr_0_10 (by decide)
  have hE_0_10_7 : ∀ j : Int, w_ei w6 (w_ar ws (n_v vs 0) 10) j = w_ei w7 (w_ar ws (n_v vs 0) 10) j := el_kp s7.1 r6 cr_0_10 (by decide)
  have hK_0_10 := elq_38 hD hth cr_0_10
  have kz_0_5 := fdq_86 hD hth r0
  have kz_0_6 := fdq_65 hD hth r0
  have nf0 : fc_1 PRD (20, [0], [60, 2, 3, 595, 5, 6, 7, 8, 9]) ws (vs) := ⟨nf_in hl rfl, sgq_421 (vc_Ne_join_at_Ne_gk_0_0 (v_iv (n_v vs 1)) (v_iv (n_v vs 2)) (v_iv (n_v vs 3)) (v_iv (n_v vs 4)) (v_iv (n_v vs 5)) (v_iv (n_v vs 11)) (v_iv (n_v vs 14)) (v_iv (n_v vs 16)) (v_iv (n_v vs 17)) (v_iv (n_v vs 18)) (v_iv (n_v vs 19)) (v_iv (n_v vs 20)) (v_iv (n_v vs 21)) (v_iv (n_v vs 22)) (v_iv (n_v vs 23)) (v_iv (n_v vs 24)) (v_iv (n_v vs 25)) (w_fi ws (n_v vs 0) 6) (w_fi ws (n_v vs 0) 5) (w_fi w1 (n_v vs 0) 6) (w_fi w1 (n_v vs 0) 5) (w_ei w2 (w_ar ws (n_v vs 0) 9)) (w_fi w2 (n_v vs 0) 5) (w_fi w2 (n_v vs 0) 6) (w_ei w3 (w_ar ws (n_v vs 0) 9)) (w_fi w3 (n_v vs 0) 5) (w_fi w3 (n_v vs 0) 6) (w_fi w4 (n_v vs 0) 5) (w_fi w4 (n_v vs 0) 6) (w_fi w5 (n_v vs 0) 5) (w_fi w5 (n_v vs 0) 6) (w_fi w6 (n_v vs 0) 5) (w_fi w6 (n_v vs 0) 6) (w_ei w7 (w_ar ws (n_v vs 0) 7)) (w_ei w7 (w_ar ws (n_v vs 0) 8)) (w_ei w7 (w_ar ws (n_v vs 0) 9)) (w_fi w7 (n_v vs 0) 5) (w_fi w7 (n_v vs 0) 6) (w_ei ws (w_ar ws (n_v vs 0) 7)) (w_ei w1 (w_ar ws (n_v vs 0) 7)) (w_ei w2 (w_ar ws (n_v vs 0) 7)) (w_ei w3 (w_ar ws (n_v vs 0) 7)) (w_ei w4 (w_ar ws (n_v vs 0) 7)) (w_ei w5 (w_ar ws (n_v vs 0) 7)) (w_ei w6 (w_ar ws (n_v vs 0) 7)) (w_ei ws (w_ar ws (n_v vs 0) 8)) (w_ei w1 (w_ar ws (n_v vs 0) 8)) (w_ei w2 (w_ar ws (n_v vs 0) 8)) (w_ei w3 (w_ar ws (n_v vs 0) 8)) (w_ei w4 (w_ar ws (n_v vs 0) 8)) (w_ei w5 (w_ar ws (n_v vs 0) 8)) (w_ei w6 (w_ar ws (n_v vs 0) 8)) (w_ei ws (w_ar ws (n_v vs 0) 9)) (w_ei w1 (w_ar ws (n_v vs 0) 9)) (w_ei w4 (w_ar ws (n_v vs 0) 9)) (w_ei w5 (w_ar ws (n_v vs 0) 9)) (w_ei w6 (w_ar ws (n_v vs 0) 9)) (w_ei ws (w_ar ws (n_v vs 0) 10)) (w_ei w1 (w_ar ws (n_v vs 0) 10)) (w_ei w2 (w_ar ws (n_v vs 0) 10)) (w_ei w3 (w_ar ws (n_v vs 0) 10)) (w_ei w4 (w_ar ws (n_v vs 0) 10)) (w_ei w5 (w_ar ws (n_v vs 0) 10)) (w_ei w6 (w_ar ws (n_v vs 0) 10)) (w_ei w7 (w_ar ws (n_v vs 0) 10)) k1 k2 k3 k4 k5 k11 k14 k16 k17 k18 k19 k20 k21 k22 k23 k24 k25 d0 d1 d2 g0 (shm_418 f5) (shm_418 f6) (shm_419 f7) (shm_12 f9) g10 (shm_418 f11) (shm_418 f12) (shm_419 f13) (shm_420 f14) f16 (shm_372 f17) (shm_367 f18) h19 (shm_418 f20) (shm_418 f21) (shm_419 f22) (shm_420 f23) f25 (shm_372 f26) (shm_367 f27) h28 (shm_418 f29) (shm_418 f30) (shm_419 f31) (shm_420 f32) (shm_418 f34) (shm_418 f35) (shm_419 f36) (shm_420 f37) (shm_418 f39) (shm_418 f40) (shm_419 f41) (shm_420 f42) (shm_418 f44) (shm_418 f45) (shm_419 f46) (shm_420 f47) (shm_6 f49) f50 (shm_418 f51) (shm_418 f52) (shm_419 f53) (shm_420 f54) fe_0_5_1 fe_0_6_1 fe_0_5_2 fe_0_6_2 fe_0_5_3 fe_0_6_3 fe_0_5_4 fe_0_6_4 fe_0_5_5 fe_0_6_5 fe_0_5_6 fe_0_6_6 fe_0_5_7 fe_0_6_7 hE_0_7_1 hE_0_7_2 hE_0_7_3 hE_0_7_4 hE_0_7_5 hE_0_7_6 hE_0_7_7 hK_0_7 hE_0_8_1 hE_0_8_2 hE_0_8_3 hE_0_8_4 hE_0_8_5 hE_0_8_6 hE_0_8_7 hK_0_8 hE_0_9_1 hE_0_9_2 hE_0_9_3 hE_0_9_4 hE_0_9_5 hE_0_9_6 hE_0_9_7 hK_0_9 hE_0_10_1 hE_0_10_2 hE_0_10_3 hE_0_10_4 hE_0_10_5 hE_0_10_6 hE_0_10_7 hK_0_10 kz_0_5 kz_0_6)⟩
  have nf1 : fc_1 PRD (20, [3, 0], [50, 1, 0, 1006, 3, 6, 0, 2, 0, 72, 1, 0, 1, 3, 2, 1, 6, 4, 2, 1, 0, 0, 1]) ws (vs) := ⟨nf_in hl rfl, sgq_422 (vc_Ne_join_at_Ne_gk_0_1 (v_iv (n_v vs 1)) (v_iv (n_v vs 2)) (v_iv (n_v vs 3)) (v_iv (n_v vs 4)) (v_iv (n_v vs 5)) (v_iv (n_v vs 11)) (v_iv (n_v vs 14)) (v_iv (n_v vs 16)) (v_iv (n_v vs 17)) (v_iv (n_v vs 18)) (v_iv (n_v vs 19)) (v_iv (n_v vs 20)) (v_iv (n_v vs 21)) (v_iv (n_v vs 22)) (v_iv (n_v vs 23)) (v_iv (n_v vs 24)) (v_iv (n_v vs 25)) (w_fi ws (n_v vs 0) 6) (w_fi ws (n_v vs 0) 5) (w_fi w1 (n_v vs 0) 6) (w_fi w1 (n_v vs 0) 5) (w_ei w2 (w_ar ws (n_v vs 0) 9)) (w_fi w2 (n_v vs 0) 5) (w_fi w2 (n_v vs 0) 6) (w_ei w3 (w_ar ws (n_v vs 0) 9)) (w_fi w3 (n_v vs 0) 5) (w_fi w3 (n_v vs 0) 6) (w_fi w4 (n_v vs 0) 5) (w_fi w4 (n_v vs 0) 6) (w_fi w5 (n_v vs 0) 5) (w_fi w5 (n_v vs 0) 6) (w_fi w6 (n_v vs 0) 5) (w_fi w6 (n_v vs 0) 6) (w_ei w7 (w_ar ws (n_v vs 0) 7)) (w_ei w7 (w_ar ws (n_v vs 0) 8)) (w_ei w7 (w_ar ws (n_v vs 0) 9)) (w_fi w7 (n_v vs 0) 5) (w_fi w7 (n_v vs 0) 6) (w_ei ws (w_ar ws (n_v vs 0) 7)) (w_ei w1 (w_ar ws (n_v vs 0) 7)) (w_ei w2 (w_ar ws (n_v vs 0) 7)) (w_ei w3 (w_ar ws (n_v vs 0) 7)) (w_ei w4 (w_ar ws (n_v vs 0) 7)) (w_ei w5 (w_ar ws (n_v vs 0) 7)) (w_ei w6 (w_ar ws (n_v vs 0) 7)) (w_ei ws (w_ar ws (n_v vs 0) 8)) (w_ei w1 (w_ar ws (n_v vs 0) 8)) (w_ei w2 (w_ar ws (n_v vs 0) 8)) (w_ei w3 (w_ar ws (n_v vs 0) 8)) (w_ei w4 (w_ar ws (n_v vs 0) 8)) (w_ei w5 (w_ar ws (n_v vs 0) 8)) (w_ei w6 (w_ar ws (n_v vs 0) 8)) (w_ei ws (w_ar ws (n_v vs 0) 9)) (w_ei w1 (w_ar ws (n_v vs 0) 9)) (w_ei w4 (w_ar ws (n_v vs 0) 9)) (w_ei w5 (w_ar ws (n_v vs 0) 9)) (w_ei w6 (w_ar ws (n_v vs 0) 9)) (w_ei ws (w_ar ws (n_v vs 0) 10)) (w_ei w1 (w_ar ws (n_v vs 0) 10)) (w_ei w2 (w_ar ws (n_v vs 0) 10)) (w_ei w3 (w_ar ws (n_v vs 0) 10)) (w_ei w4 (w_ar ws (n_v vs 0) 10)) (w_ei w5 (w_ar ws (n_v vs 0) 10)) (w_ei w6 (w_ar ws (n_v vs 0) 10)) (w_ei w7 (w_ar ws (n_v vs 0) 10)) k1 k2 k3 k4 k5 k11 k14 k16 k17 k18 k19 k20 k21 k22 k23 k24 k25 d0 d1 d2 g0 (shm_418 f5) (shm_418 f6) (shm_419 f7) (shm_12 f9) g10 (shm_418 f11) (shm_418 f12) (shm_419 f13) (shm_420 f14) f16 (shm_372 f17) (shm_367 f18) h19 (shm_418 f20) (shm_418 f21) (shm_419 f22) (shm_420 f23) f25 (shm_372 f26) (shm_367 f27) h28 (shm_418 f29) (shm_418 f30) (shm_419 f31) (shm_420 f32) (shm_418 f34) (shm_418 f35) (shm_419 f36) (shm_420 f37) (shm_418 f39) (shm_418 f40) (shm_419 f41) (shm_420 f42) (shm_418 f44) (shm_418 f45) (shm_419 f46) (shm_420 f47) (shm_6 f49) f50 (shm_418 f51) (shm_418 f52) (shm_419 f53) (shm_420 f54) fe_0_5_1 fe_0_6_1 fe_0_5_2 fe_0_6_2 fe_0_5_3 fe_0_6_3 fe_0_5_4 fe_0_6_4 fe_0_5_5 fe_0_6_5 fe_0_5_6 fe_0_6_6 fe_0_5_7 fe_0_6_7 hE_0_7_1 hE_0_7_2 hE_0_7_3 hE_0_7_4 hE_0_7_5 hE_0_7_6 hE_0_7_7 hK_0_7 hE_0_8_1 hE_0_8_2 hE_0_8_3 hE_0_8_4 hE_0_8_5 hE_0_8_6 hE_0_8_7 hK_0_8 hE_0_9_1 hE_0_9_2 hE_0_9_3 hE_0_9_4 hE_0_9_5 hE_0_9_6 hE_0_9_7 hK_0_9 hE_0_10_1 hE_0_10_2 hE_0_10_3 hE_0_10_4 hE_0_10_5 hE_0_10_6 hE_0_10_7 hK_0_10 kz_0_5 kz_0_6)⟩
  refine ⟨(fun _ h => (by cases h)), [], trivial, ?_, (fun _ h => (by cases h))⟩
  rw [List.append_nil]
  exact List.forall_mem_cons.mpr ⟨⟨show (20 : Nat) < 100 from by decide, nf0⟩, List.forall_mem_cons.mpr ⟨⟨show (20 : Nat) < 100 from by decide, nf1⟩, (fun _ h => (by cases h))⟩⟩
set_option maxHeartbeats 4000000 in
theorem vc_Ne_join_at_Ne_gk_1_0 (x1 : Int) (x2 : Int) (x3 : Int) (x4 : Int) (x5 : Int) (edges_0 : Int) (tail_0 : Int → Int) (head_0 : Int → Int) (near_0 : Int → Int) (nodes_0 : Int) (k1 : 0 ≤ x1 ∧ x1 ≤ 23) (k2 : 0 ≤ x2 ∧ x2 ≤ 23) (k3 : 0 ≤ x3 ∧ x3 ≤ 72) (k4 : 72 ≤ x4 ∧ x4 ≤ 72) (k5 : 72 ≤ x5 ∧ x5 ≤ 72) (f0 : x5 ≤ x4) (g1 : x4 = edges_0) (f2 : NOK (nodes_0) (edges_0) (tail_0) (head_0) (near_0)) (f3 : (0 ≤ x1) ∧ ((x1 + 1) ≤ nodes_0)) (f4 : (0 ≤ x2) ∧ ((x2 + 1) ≤ nodes_0)) (f5 : x1 ≠ x2) (f6 : edges_0 = x3) (hK_0_7 : ∀ j : Int, 0 ≤ j → j < 72 → 0 ≤ tail_0 j ∧ tail_0 j ≤ 23) (hK_0_8 : ∀ j : Int, 0 ≤ j → j < 72 → 0 ≤ head_0 j ∧ head_0 j ≤ 23) (hK_0_9 : ∀ j : Int, 0 ≤ j → j < 25 → 0 ≤ near_0 j ∧ near_0 j ≤ 16777215) (kz_0_5 : 0 ≤ nodes_0 ∧ nodes_0 ≤ 24) (kz_0_6 : 0 ≤ edges_0 ∧ edges_0 ≤ 72) : (72 ≤ x3) ∨ (edges_0 = (x3 + 1)) := by
  first
    | omega
  
def o_Ne_join_at_Ne_gk_1 : or_T := (10, 7, [(0, (2, 0, 0, [5])), (1, (0, 0, 23, [])), (2, (0, 0, 23, [])), (3, (0, 0, 72, [])), (4, (0, 72, 72, [])), (5, (0, 72, 72, []))], [(7, [4, 5], [3]), (9, [4, 0], [6]), (20, [0], [60, 2, 3, 595, 5, 6, 7, 8, 9]), (20, [1, 0], [50, 1, 0, 1005, 2, 6, 0, 2, 0, 0, 1, 0, 0, 6, 4, 2, 1, 0, 0, 1, 2, 1, 5]), (20, [2, 0], [50, 1, 0, 1005, 2, 6, 0, 2, 0, 0, 1, 0, 0, 6, 4, 2, 1, 0, 0, 1, 2, 1, 5]), (20, [1, 2], [50, 0, 0, 7, 2, 1, 0, 1, 1]), (20, [0, 3], [50, 1, 0, 6, 1, 3, 2, 0, 6, 1, 1])], [], [], [(20, [3, 0], [50, 1, 0, 1006, 3, 6, 0, 2, 0, 72, 1, 0, 1, 3, 2, 1, 6, 4, 2, 1, 0, 0, 1])], [], [])
theorem oo_Ne_join_at_Ne_gk_1 {kA : Nat → ClassId} : or_ok PRD kA GG o_Ne_join_at_Ne_gk_1 := by
  refine or_mk fun A ta ws vs hD hth hl => ?_
  intro t0 r0 t1 k1 t2 k2 t3 k3 t4 k4 t5 k5 f0 f1 f2 f3 f4 f5 f6
  replace f1 := shm_110 f1
  have cr_0_7 := fdq_63 hD hth r0
  have cr_0_8 := fdq_64 hD hth r0
  have cr_0_9 := fdq_84 hD hth r0
  have g1 : v_iv (n_v vs 4) = w_fi ws (n_v vs 0) 6 := congrArg v_iv f1
  have hK_0_7 := elq_18 hD hth cr_0_7
  have hK_0_8 := elq_19 hD hth cr_0_8
  have hK_0_9 := elq_25 hD hth cr_0_9
  have kz_0_5 := fdq_86 hD hth r0
  have kz_0_6 := fdq_65 hD hth r0
  have nf0 : fc_1 PRD (20, [3, 0], [50, 1, 0, 1006, 3, 6, 0, 2, 0, 72, 1, 0, 1, 3, 2, 1, 6, 4, 2, 1, 0, 0, 1]) ws (vs) := ⟨nf_in hl rfl, sgq_422 (vc_Ne_join_at_Ne_gk_1_0 (v_iv (n_v vs 1)) (v_iv (n_v vs 2)) (v_iv (n_v vs 3)) (v_iv (n_v vs 4)) (v_iv (n_v vs 5)) (w_fi ws (n_v vs 0) 6) (w_ei ws (w_ar ws (n_v vs 0) 7)) (w_ei ws (w_ar ws (n_v vs 0) 8)) (w_ei ws (w_ar ws (n_v vs 0) 9)) (w_fi ws (n_v vs 0) 5) k1 k2 k3 k4 k5 (shm_2 f0) g1 (shm_421 f2) (shm_418 f3) (shm_418 f4) (shm_419 f5) (shm_420 f6) hK_0_7 hK_0_8 hK_0_9 kz_0_5 kz_0_6)⟩
  refine ⟨(fun _ h => (by cases h)), [], trivial, ?_, (fun _ h => (by cases h))⟩
  rw [List.append_nil]
  exact List.forall_mem_cons.mpr ⟨⟨show (20 : Nat) < 100 from by decide, nf0⟩, (fun _ h => (by cases h))⟩
def n_Ne_join_at_Ne_gk_an : List an_T := []
def t_Ne_join_at_Ne_gk_ct : ct_L := []
set_option maxRecDepth 100000 in
theorem c_Ne_join_at_Ne_gk {l : Launch} {D : va_G} {kA : Nat → ClassId} : ct_ok PRD l D kA GG y_Ne_join_at_Ne_gk z_Ne_join_at_Ne_gk e_Ne_join_at_Ne_gk := chk_all_ok (FT := [(31, 5, 6), (34, 5, 7), (37, 5, 8), (40, 5, 9), (43, 5, 10)]) (PT := [(31, 5, 6, .int)]) (CT := t_Ne_join_at_Ne_gk_ct) (KT := []) (NT := []) (AN := n_Ne_join_at_Ne_gk_an) (OT := [o_Ne_join_at_Ne_gk_0, o_Ne_join_at_Ne_gk_1]) 0 260 (List.forall_mem_cons.mpr ⟨oo_Ne_join_at_Ne_gk_0, List.forall_mem_cons.mpr ⟨oo_Ne_join_at_Ne_gk_1, List.forall_mem_nil _⟩⟩) (by decide +kernel) ⟨List.forall_mem_cons.mpr ⟨gf_Ne_31, List.forall_mem_cons.mpr ⟨gf_Ne_34, List.forall_mem_cons.mpr ⟨gf_Ne_37, List.forall_mem_cons.mpr ⟨gf_Ne_40, List.forall_mem_cons.mpr ⟨gf_Ne_43, List.forall_mem_nil _⟩⟩⟩⟩⟩, List.forall_mem_cons.mpr ⟨pf_Ne_31, List.forall_mem_nil _⟩, List.forall_mem_nil _, List.forall_mem_nil _, List.forall_mem_nil _, GG_pl⟩ (by decide +kernel)
set_option maxHeartbeats 4000000 in
theorem vc_Ne_join_at_Np_gk_0_0 (x1 : Int) (x2 : Int) (x3 : Int) (x4 : Int) (x5 : Int) (x11 : Int) (x14 : Int) (x16 : Int) (x17 : Int) (x18 : Int) (x19 : Int) (x20 : Int) (x21 : Int) (x22 : Int) (x23 : Int) (x24 : Int) (x25 : Int) (edges_0 : Int) (nodes_0 : Int) (edges_1 : Int) (nodes_1 : Int) (near_2 : Int → Int) (nodes_2 : Int) (edges_2 : Int) (near_3 : Int → Int) (nodes_3 : Int) (edges_3 : Int) (nodes_4 : Int) (edges_4 : Int) (nodes_5 : Int) (edges_5 : Int) (nodes_6 : Int) (edges_6 : Int) (tail_7 : Int → Int) (head_7 : Int → Int) (near_7 : Int → Int) (nodes_7 : Int) (edges_7 : Int) (tail_0 : Int → Int) (tail_1 : Int → Int) (tail_2 : Int → Int) (tail_3 : Int → Int) (tail_4 : Int → Int) (tail_5 : Int → Int) (tail_6 : Int → Int) (head_0 : Int → Int) (head_1 : Int → Int) (head_2 : Int → Int) (head_3 : Int → Int) (head_4 : Int → Int) (head_5 : Int → Int) (head_6 : Int → Int) (near_0 : Int → Int) (near_1 : Int → Int) (near_4 : Int → Int) (near_5 : Int → Int) (near_6 : Int → Int) (link_0 : Int → Int) (link_1 : Int → Int) (link_2 : Int → Int) (link_3 : Int → Int) (link_4 : Int → Int) (link_5 : Int → Int) (link_6 : Int → Int) (link_7 : Int → Int) (k1 : 0 ≤ x1 ∧ x1 ≤ 23) (k2 : 0 ≤ x2 ∧ x2 ≤ 24) (k3 : 0 ≤ x3 ∧ x3 ≤ 72) (k4 : 0 ≤ x4 ∧ x4 ≤ 71) (k5 : 72 ≤ x5 ∧ x5 ≤ 72) (k11 : 0 ≤ x11 ∧ x11 ≤ 599) (k14 : 0 ≤ x14 ∧ x14 ≤ 623) (k16 : 0 ≤ x16 ∧ x16 ≤ 33554431) (k17 : 1 ≤ x17 ∧ x17 ≤ 1) (k18 : 1 ≤ x18 ∧ x18 ≤ 16777216) (k19 : 0 ≤ x19 ∧ x19 ≤ 33554431) (k20 : 0 ≤ x20 ∧ x20 ≤ 33554431) (k21 : 1 ≤ x21 ∧ x21 ≤ 1) (k22 : 1 ≤ x22 ∧ x22 ≤ 8388608) (k23 : 0 ≤ x23 ∧ x23 ≤ 33554431) (k24 : 1 ≤ x24 ∧ x24 ≤ 1) (k25 : 1 ≤ x25 ∧ x25 ≤ 72) (d0 : x4 + 1 ≤ x25 ∧ x25 ≤ x4 + 1) (d1 : x1 + 0 ≤ x14 ∧ x14 ≤ x1 + 600) (d2 : x2 + 0 ≤ x11 ∧ x11 ≤ x2 + 575) (g0 : x25 = edges_0) (f5 : (0 ≤ x1) ∧ ((x1 + 1) ≤ nodes_0)) (f6 : (0 ≤ x2) ∧ ((x2 + 1) ≤ nodes_0)) (f7 : x1 ≠ x2) (f9 : x25 = x4 + x24) (g10 : x4 = edges_1) (f11 : (0 ≤ x1) ∧ ((x1 + 1) ≤ nodes_1)) (f12 : (0 ≤ x2) ∧ ((x2 + 1) ≤ nodes_1)) (f13 : x1 ≠ x2) (f14 : edges_1 = x3) (f16 : x23 ≤ x20 + x22 ∧ x20 ≤ x23 ∧ x22 ≤ x23) (f17 : bvp (x23) = bvp (x20) ||| bvp (x22)) (f18 : bvp (x22) = bvp (x21) <<< (x1).toNat) (h19 : x20 = near_2 (x2)) (f20 : (0 ≤ x1) ∧ ((x1 + 1) ≤ nodes_2)) (f21 : (0 ≤ x2) ∧ ((x2 + 1) ≤ nodes_2)) (f22 : x1 ≠ x2) (f23 : edges_2 = x3) (f25 : x19 ≤ x16 + x18 ∧ x16 ≤ x19 ∧ x18 ≤ x19) (f26 : bvp (x19) = bvp (x16) ||| bvp (x18)) (f27 : bvp (x18) = bvp (x17) <<< (x2).toNat) (h28 : x16 = near_3 (x1)) (f29 : (0 ≤ x1) ∧ ((x1 + 1) ≤ nodes_3)) (f30 : (0 ≤ x2) ∧ ((x2 + 1) ≤ nodes_3)) (f31 : x1 ≠ x2) (f32 : edges_3 = x3) (f34 : (0 ≤ x1) ∧ ((x1 + 1) ≤ nodes_4)) (f35 : (0 ≤ x2) ∧ ((x2 + 1) ≤ nodes_4)) (f36 : x1 ≠ x2) (f37 : edges_4 = x3) (f39 : (0 ≤ x1) ∧ ((x1 + 1) ≤ nodes_5)) (f40 : (0 ≤ x2) ∧ ((x2 + 1) ≤ nodes_5)) (f41 : x1 ≠ x2) (f42 : edges_5 = x3) (f44 : (0 ≤ x1) ∧ ((x1 + 1) ≤ nodes_6)) (f45 : (0 ≤ x2) ∧ ((x2 + 1) ≤ nodes_6)) (f46 : x1 ≠ x2) (f47 : edges_6 = x3) (f49 : x4 < x5) (f50 : NOK (nodes_7) (edges_7) (tail_7) (head_7) (near_7)) (f51 : (0 ≤ x1) ∧ ((x1 + 1) ≤ nodes_7)) (f52 : (0 ≤ x2) ∧ ((x2 + 1) ≤ nodes_7)) (f53 : x1 ≠ x2) (f54 : edges_7 = x3) (fe_0_5_1 : nodes_0 = nodes_1) (fe_0_6_1 : edges_0 = x25) (fe_0_5_2 : nodes_1 = nodes_2) (fe_0_6_2 : edges_1 = edges_2) (fe_0_5_3 : nodes_2 = nodes_3) (fe_0_6_3 : edges_2 = edges_3) (fe_0_5_4 : nodes_3 = nodes_4) (fe_0_6_4 : edges_3 = edges_4) (fe_0_5_5 : nodes_4 = nodes_5) (fe_0_6_5 : edges_4 = edges_5) (fe_0_5_6 : nodes_5 = nodes_6) (fe_0_6_6 : edges_5 = edges_6) (fe_0_5_7 : nodes_6 = nodes_7) (fe_0_6_7 : edges_6 = edges_7) (hE_0_7_1 : ∀ j : Int, tail_0 j = tail_1 j) (hE_0_7_2 : ∀ j : Int, tail_1 j = tail_2 j) (hE_0_7_3 : ∀ j : Int, tail_2 j = tail_3 j) (hE_0_7_4 : ∀ j : Int, tail_3 j = tail_4 j) (hE_0_7_5 : ∀ j : Int, tail_4 j = tail_5 j) (hE_0_7_6 : ∀ j : Int, tail_5 j = tail_6 j) (hE_0_7_7 : ∀ j : Int, 0 ≤ j → (j = x4 → tail_6 j = x1) ∧ (j ≠ x4 → tail_6 j = tail_7 j)) (hK_0_7 : ∀ j : Int, 0 ≤ j → j < 72 → 0 ≤ tail_0 j ∧ tail_0 j ≤ 24) (hE_0_8_1 : ∀ j : Int, head_0 j = head_1 j) (hE_0_8_2 : ∀ j : Int, head_1 j = head_2 j) (hE_0_8_3 : ∀ j : Int, head_2 j = head_3 j) (hE_0_8_4 : ∀ j : Int, head_3 j = head_4 j) (hE_0_8_5 : ∀ j : Int, head_4 j = head_5 j) (hE_0_8_6 : ∀ j : Int, 0 ≤ j → (j = x4 → head_5 j = x2) ∧ (j ≠ x4 → head_5 j = head_6 j)) (hE_0_8_7 : ∀ j : Int, head_6 j = head_7 j) (hK_0_8 : ∀ j : Int, 0 ≤ j → j < 72 → 0 ≤ head_0 j ∧ head_0 j ≤ 24) (hE_0_9_1 : ∀ j : Int, near_0 j = near_1 j) (hE_0_9_2 : ∀ j : Int, 0 ≤ j → (j = x2 → near_1 j = x23) ∧ (j ≠ x2 → near_1 j = near_2 j)) (hE_0_9_3 : ∀ j : Int, 0 ≤ j → (j = x1 → near_2 j = x19) ∧ (j ≠ x1 → near_2 j = near_3 j)) (hE_0_9_4 : ∀ j : Int, near_3 j = near_4 j) (hE_0_9_5 : ∀ j : Int, near_4 j = near_5 j) (hE_0_9_6 : ∀ j : Int, near_5 j = near_6 j) (hE_0_9_7 : ∀ j : Int, near_6 j = near_7 j) (hK_0_9 : ∀ j : Int, 0 ≤ j → j < 25 → 0 ≤ near_0 j ∧ near_0 j ≤ 33554431) (hE_0_10_1 : ∀ j : Int, link_0 j = link_1 j) (hE_0_10_2 : ∀ j : Int, link_1 j = link_2 j) (hE_0_10_3 : ∀ j : Int, link_2 j = link_3 j) (hE_0_10_4 : ∀ j : Int, 0 ≤ j → (j = x14 → link_3 j = x4) ∧ (j ≠ x14 → link_3 j = link_4 j)) (hE_0_10_5 : ∀ j : Int, 0 ≤ j → (j = x11 → link_4 j = x4) ∧ (j ≠ x11 → link_4 j = link_5 j)) (hE_0_10_6 : ∀ j : Int, link_5 j = link_6 j) (hE_0_10_7 : ∀ j : Int, link_6 j = link_7 j) (hK_0_10 : ∀ j : Int, 0 ≤ j → j < 625 → (-1) ≤ link_0 j ∧ link_0 j ≤ 71) (kz_0_5 : 0 ≤ nodes_0 ∧ nodes_0 ≤ 25) (kz_0_6 : 0 ≤ edges_0 ∧ edges_0 ≤ 72) : NOK (nodes_0) (edges_0) (tail_0) (head_0) (near_0) := by
  subst fe_0_5_1
  subst fe_0_5_2
  subst fe_0_6_2
  subst fe_0_5_3
  subst fe_0_6_3
  subst fe_0_5_4
  subst fe_0_6_4
  subst fe_0_5_5
  subst fe_0_6_5
  subst fe_0_5_6
  subst fe_0_6_6
  subst fe_0_5_7
  subst fe_0_6_7
  have e_hE_0_7_1 := funext hE_0_7_1; subst e_hE_0_7_1
  have e_hE_0_7_2 := funext hE_0_7_2; subst e_hE_0_7_2
  have e_hE_0_7_3 := funext hE_0_7_3; subst e_hE_0_7_3
  have e_hE_0_7_4 := funext hE_0_7_4; subst e_hE_0_7_4
  have e_hE_0_7_5 := funext hE_0_7_5; subst e_hE_0_7_5
  have e_hE_0_7_6 := funext hE_0_7_6; subst e_hE_0_7_6
  have e_hE_0_8_1 := funext hE_0_8_1; subst e_hE_0_8_1
  have e_hE_0_8_2 := funext hE_0_8_2; subst e_hE_0_8_2
  have e_hE_0_8_3 := funext hE_0_8_3; subst e_hE_0_8_3
  have e_hE_0_8_4 := funext hE_0_8_4; subst e_hE_0_8_4
  have e_hE_0_8_5 := funext hE_0_8_5; subst e_hE_0_8_5
  have e_hE_0_8_7 := funext hE_0_8_7; subst e_hE_0_8_7
  have e_hE_0_9_1 := funext hE_0_9_1; subst e_hE_0_9_1
  have e_hE_0_9_4 := funext hE_0_9_4; subst e_hE_0_9_4
  have e_hE_0_9_5 := funext hE_0_9_5; subst e_hE_0_9_5
  have e_hE_0_9_6 := funext hE_0_9_6; subst e_hE_0_9_6
  have e_hE_0_9_7 := funext hE_0_9_7; subst e_hE_0_9_7
  have e_hE_0_10_1 := funext hE_0_10_1; subst e_hE_0_10_1
  have e_hE_0_10_2 := funext hE_0_10_2; subst e_hE_0_10_2
  have e_hE_0_10_3 := funext hE_0_10_3; subst e_hE_0_10_3
  have e_hE_0_10_6 := funext hE_0_10_6; subst e_hE_0_10_6
  have e_hE_0_10_7 := funext hE_0_10_7; subst e_hE_0_10_7
  first
    | assumption
    | (have o1 : x20 = 1 := by omega
       have o2 : x16 = 1 := by omega
       subst o1 o2
       exact nok_join (a := x1) (b := x2) (p1 := x3) (p2 := x3) (a1 := x1) (b1 := x2) (x1 := x15) (q1 := x17) (y1 := x18) (x2 := x19) (q2 := x21) (y2 := x22) (pa := x1) (pb := x2) ‹NOK _ _ _ _ _› (by omega) (by omega) (by omega) (by omega) (by omega) (by omega) (by omega) (by assumption) (by omega) rfl (by assumption) (by omega) rfl (by assumption) (by assumption) (by assumption) (by assumption) rfl (by assumption) (by assumption) (by assumption) (by assumption) rfl (by omega))
    | (have o1 : x21 = 1 := by omega
       have o2 : x17 = 1 := by omega
       subst o1 o2
       exact nok_join (a := x1) (b := x2) (p1 := x4) (p2 := x4) (a1 := x1) (b1 := x2) (x1 := x16) (q1 := x18) (y1 := x19) (x2 := x20) (q2 := x22) (y2 := x23) (pa := x1) (pb := x2) ‹NOK _ _ _ _ _› (by omega) (by omega) (by omega) (by omega) (by omega) (by omega) (by omega) (by assumption) (by omega) rfl (by assumption) (by omega) rfl (by assumption) (by assumption) (by assumption) (by assumption) rfl (by assumption) (by assumption) (by assumption) (by assumption) rfl (by omega))
    | exact nok_join ‹NOK _ _ _ _ _› (by omega) (by omega) (by omega) (by omega) (by omega) (by omega) (by omega) (by assumption) (by omega) rfl (by assumption) (by omega) rfl (by assumption) (by assumption) (by assumption) (by assumption) rfl (by assumption) (by assumption) (by assumption) (by assumption) rfl (by omega)
  
set_option maxHeartbeats 4000000 in
theorem vc_Ne_join_at_Np_gk_0_1 (x1 : Int) (x2 : Int) (x3 : Int) (x4 : Int) (x5 : Int) (x11 : Int) (x14 : Int) (x16 : Int) (x17 : Int) (x18 : Int) (x19 : Int) (x20 : Int) (x21 : Int) (x22 : Int) (x23 : Int) (x24 : Int) (x25 : Int) (edges_0 : Int) (nodes_0 : Int) (edges_1 : Int) (nodes_1 : Int) (near_2 : Int → Int) (nodes_2 : Int) (edges_2 : Int) (near_3 : Int → Int) (nodes_3 : Int) (edges_3 : Int) (nodes_4 : Int) (edges_4 : Int) (nodes_5 : Int) (edges_5 : Int) (nodes_6 : Int) (edges_6 : Int) (tail_7 : Int → Int) (head_7 : Int → Int) (near_7 : Int → Int) (nodes_7 : Int) (edges_7 : Int) (tail_0 : Int → Int) (tail_1 : Int → Int) (tail_2 : Int → Int) (tail_3 : Int → Int) (tail_4 : Int → Int) (tail_5 : Int → Int) (tail_6 : Int → Int) (head_0 : Int → Int) (head_1 : Int → Int) (head_2 : Int → Int) (head_3 : Int → Int) (head_4 : Int → Int) (head_5 : Int → Int) (head_6 : Int → Int) (near_0 : Int → Int) (near_1 : Int → Int) (near_4 : Int → Int) (near_5 : Int → Int) (near_6 : Int → Int) (link_0 : Int → Int) (link_1 : Int → Int) (link_2 : Int → Int) (link_3 : Int → Int) (link_4 : Int → Int) (link_5 : Int → Int) (link_6 : Int → Int) (link_7 : Int → Int) (k1 : 0 ≤ x1 ∧ x1 ≤ 23) (k2 : 0 ≤ x2 ∧ x2 ≤ 24) (k3 : 0 ≤ x3 ∧ x3 ≤ 72) (k4 : 0 ≤ x4 ∧ x4 ≤ 71) (k5 : 72 ≤ x5 ∧ x5 ≤ 72) (k11 : 0 ≤ x11 ∧ x11 ≤ 599) (k14 : 0 ≤ x14 ∧ x14 ≤ 623) (k16 : 0 ≤ x16 ∧ x16 ≤ 33554431) (k17 : 1 ≤ x17 ∧ x17 ≤ 1) (k18 : 1 ≤ x18 ∧ x18 ≤ 16777216) (k19 : 0 ≤ x19 ∧ x19 ≤ 33554431) (k20 : 0 ≤ x20 ∧ x20 ≤ 33554431) (k21 : 1 ≤ x21 ∧ x21 ≤ 1) (k22 : 1 ≤ x22 ∧ x22 ≤ 8388608) (k23 : 0 ≤ x23 ∧ x23 ≤ 33554431) (k24 : 1 ≤ x24 ∧ x24 ≤ 1) (k25 : 1 ≤ x25 ∧ x25 ≤ 72) (d0 : x4 + 1 ≤ x25 ∧ x25 ≤ x4 + 1) (d1 : x1 + 0 ≤ x14 ∧ x14 ≤ x1 + 600) (d2 : x2 + 0 ≤ x11 ∧ x11 ≤ x2 + 575) (g0 : x25 = edges_0) (f5 : (0 ≤ x1) ∧ ((x1 + 1) ≤ nodes_0)) (f6 : (0 ≤ x2) ∧ ((x2 + 1) ≤ nodes_0)) (f7 : x1 ≠ x2) (f9 : x25 = x4 + x24) (g10 : x4 = edges_1) (f11 : (0 ≤ x1) ∧ ((x1 + 1) ≤ nodes_1)) (f12 : (0 ≤ x2) ∧ ((x2 + 1) ≤ nodes_1)) (f13 : x1 ≠ x2) (f14 : edges_1 = x3) (f16 : x23 ≤ x20 + x22 ∧ x20 ≤ x23 ∧ x22 ≤ x23) (f17 : bvp (x23) = bvp (x20) ||| bvp (x22)) (f18 : bvp (x22) = bvp (x21) <<< (x1).toNat) (h19 : x20 = near_2 (x2)) (f20 : (0 ≤ x1) ∧ ((x1 + 1) ≤ nodes_2)) (f21 : (0 ≤ x2) ∧ ((x2 + 1) ≤ nodes_2)) (f22 : x1 ≠ x2) (f23 : edges_2 = x3) (f25 : x19 ≤ x16 + x18 ∧ x16 ≤ x19 ∧ x18 ≤ x19) (f26 : bvp (x19) = bvp (x16) ||| bvp (x18)) (f27 : bvp (x18) = bvp (x17) <<< (x2).toNat) (h28 : x16 = near_3 (x1)) (f29 : (0 ≤ x1) ∧ ((x1 + 1) ≤ nodes_3)) (f30 : (0 ≤ x2) ∧ ((x2 + 1) ≤ nodes_3)) (f31 : x1 ≠ x2) (f32 : edges_3 = x3) (f34 : (0 ≤ x1) ∧ ((x1 + 1) ≤ nodes_4)) (f35 : (0 ≤ x2) ∧ ((x2 + 1) ≤ nodes_4)) (f36 : x1 ≠ x2) (f37 : edges_4 = x3) (f39 : (0 ≤ x1) ∧ ((x1 + 1) ≤ nodes_5)) (f40 : (0 ≤ x2) ∧ ((x2 + 1) ≤ nodes_5)) (f41 : x1 ≠ x2) (f42 : edges_5 = x3) (f44 : (0 ≤ x1) ∧ ((x1 + 1) ≤ nodes_6)) (f45 : (0 ≤ x2) ∧ ((x2 + 1) ≤ nodes_6)) (f46 : x1 ≠ x2) (f47 : edges_6 = x3) (f49 : x4 < x5) (f50 : NOK (nodes_7) (edges_7) (tail_7) (head_7) (near_7)) (f51 : (0 ≤ x1) ∧ ((x1 + 1) ≤ nodes_7)) (f52 : (0 ≤ x2) ∧ ((x2 + 1) ≤ nodes_7)) (f53 : x1 ≠ x2) (f54 : edges_7 = x3) (fe_0_5_1 : nodes_0 = nodes_1) (fe_0_6_1 : edges_0 = x25) (fe_0_5_2 : nodes_1 = nodes_2) (fe_0_6_2 : edges_1 = edges_2) (fe_0_5_3 : nodes_2 = nodes_3) (fe_0_6_3 : edges_2 = edges_3) (fe_0_5_4 : nodes_3 = nodes_4) (fe_0_6_4 : edges_3 = edges_4) (fe_0_5_5 : nodes_4 = nodes_5) (fe_0_6_5 : edges_4 = edges_5) (fe_0_5_6 : nodes_5 = nodes_6) (fe_0_6_6 : edges_5 = edges_6) (fe_0_5_7 : nodes_6 = nodes_7) (fe_0_6_7 : edges_6 = edges_7) (hE_0_7_1 : ∀ j : Int, tail_0 j = tail_1 j) (hE_0_7_2 : ∀ j : Int, tail_1 j = tail_2 j) (hE_0_7_3 : ∀ j : Int, tail_2 j = tail_3 j) (hE_0_7_4 : ∀ j : Int, tail_3 j = tail_4 j) (hE_0_7_5 : ∀ j : Int, tail_4 j = tail_5 j) (hE_0_7_6 : ∀ j : Int, tail_5 j = tail_6 j) (hE_0_7_7 : ∀ j : Int, 0 ≤ j → (j = x4 → tail_6 j = x1) ∧ (j ≠ x4 → tail_6 j = tail_7 j)) (hK_0_7 : ∀ j : Int, 0 ≤ j → j < 72 → 0 ≤ tail_0 j ∧ tail_0 j ≤ 24) (hE_0_8_1 : ∀ j : Int, head_0 j = head_1 j) (hE_0_8_2 : ∀ j : Int, head_1 j = head_2 j) (hE_0_8_3 : ∀ j : Int, head_2 j = head_3 j) (hE_0_8_4 : ∀ j : Int, head_3 j = head_4 j) (hE_0_8_5 : ∀ j : Int, head_4 j = head_5 j) (hE_0_8_6 : ∀ j : Int, 0 ≤ j → (j = x4 → head_5 j = x2) ∧ (j ≠ x4 → head_5 j = head_6 j)) (hE_0_8_7 : ∀ j : Int, head_6 j = head_7 j) (hK_0_8 : ∀ j : Int, 0 ≤ j → j < 72 → 0 ≤ head_0 j ∧ head_0 j ≤ 24) (hE_0_9_1 : ∀ j : Int, near_0 j = near_1 j) (hE_0_9_2 : ∀ j : Int, 0 ≤ j → (j = x2 → near_1 j = x23) ∧ (j ≠ x2 → near_1 j = near_2 j)) (hE_0_9_3 : ∀ j : Int, 0 ≤ j → (j = x1 → near_2 j = x19) ∧ (j ≠ x1 → near_2 j = near_3 j)) (hE_0_9_4 : ∀ j : Int, near_3 j = near_4 j) (hE_0_9_5 : ∀ j : Int, near_4 j = near_5 j) (hE_0_9_6 : ∀ j : Int, near_5 j = near_6 j) (hE_0_9_7 : ∀ j : Int, near_6 j = near_7 j) (hK_0_9 : ∀ j : Int, 0 ≤ j → j < 25 → 0 ≤ near_0 j ∧ near_0 j ≤ 33554431) (hE_0_10_1 : ∀ j : Int, link_0 j = link_1 j) (hE_0_10_2 : ∀ j : Int, link_1 j = link_2 j) (hE_0_10_3 : ∀ j : Int, link_2 j = link_3 j) (hE_0_10_4 : ∀ j : Int, 0 ≤ j → (j = x14 → link_3 j = x4) ∧ (j ≠ x14 → link_3 j = link_4 j)) (hE_0_10_5 : ∀ j : Int, 0 ≤ j → (j = x11 → link_4 j = x4) ∧ (j ≠ x11 → link_4 j = link_5 j)) (hE_0_10_6 : ∀ j : Int, link_5 j = link_6 j) (hE_0_10_7 : ∀ j : Int, link_6 j = link_7 j) (hK_0_10 : ∀ j : Int, 0 ≤ j → j < 625 → (-1) ≤ link_0 j ∧ link_0 j ≤ 71) (kz_0_5 : 0 ≤ nodes_0 ∧ nodes_0 ≤ 25) (kz_0_6 : 0 ≤ edges_0 ∧ edges_0 ≤ 72) : (72 ≤ x3) ∨ (edges_0 = (x3 + 1)) := by
  subst fe_0_5_1
  subst fe_0_5_2
  subst fe_0_6_2
  subst fe_0_5_3
  subst fe_0_6_3
  subst fe_0_5_4
  subst fe_0_6_4
  subst fe_0_5_5
  subst fe_0_6_5
  subst fe_0_5_6
  subst fe_0_6_6
  subst fe_0_5_7
  subst fe_0_6_7
  have e_hE_0_7_1 := funext hE_0_7_1; subst e_hE_0_7_1
  have e_hE_0_7_2 := funext hE_0_7_2; subst e_hE_0_7_2
  have e_hE_0_7_3 := funext hE_0_7_3; subst e_hE_0_7_3
  have e_hE_0_7_4 := funext hE_0_7_4; subst e_hE_0_7_4
  have e_hE_0_7_5 := funext hE_0_7_5; subst e_hE_0_7_5
  have e_hE_0_7_6 := funext hE_0_7_6; subst e_hE_0_7_6
  have e_hE_0_8_1 := funext hE_0_8_1; subst e_hE_0_8_1
  have e_hE_0_8_2 := funext hE_0_8_2; subst e_hE_0_8_2
  have e_hE_0_8_3 := funext hE_0_8_3; subst e_hE_0_8_3
  have e_hE_0_8_4 := funext hE_0_8_4; subst e_hE_0_8_4
  have e_hE_0_8_5 := funext hE_0_8_5; subst e_hE_0_8_5
  have e_hE_0_8_7 := funext hE_0_8_7; subst e_hE_0_8_7
  have e_hE_0_9_1 := funext hE_0_9_1; subst e_hE_0_9_1
  have e_hE_0_9_4 := funext hE_0_9_4; subst e_hE_0_9_4
  have e_hE_0_9_5 := funext hE_0_9_5; subst e_hE_0_9_5
  have e_hE_0_9_6 := funext hE_0_9_6; subst e_hE_0_9_6
  have e_hE_0_9_7 := funext hE_0_9_7; subst e_hE_0_9_7
  have e_hE_0_10_1 := funext hE_0_10_1; subst e_hE_0_10_1
  have e_hE_0_10_2 := funext hE_0_10_2; subst e_hE_0_10_2
  have e_hE_0_10_3 := funext hE_0_10_3; subst e_hE_0_10_3
  have e_hE_0_10_6 := funext hE_0_10_6; subst e_hE_0_10_6
  have e_hE_0_10_7 := funext hE_0_10_7; subst e_hE_0_10_7
  first
    | omega
  
def o_Ne_join_at_Np_gk_0 : or_T := (89, 26, [(0, (2, 0, 0, [149])), (1, (0, 0, 23, [])), (2, (0, 0, 24, [])), (3, (0, 0, 72, [])), (4, (0, 0, 71, [])), (5, (0, 72, 72, [])), (6, (2, 0, 0, [140])), (7, (2, 0, 0, [141])), (8, (2, 0, 0, [143])), (11, (0, 0, 599, [])), (14, (0, 0, 623, [])), (15, (2, 0, 0, [142])), (16, (0, 0, 33554431, [])), (17, (0, 1, 1, [])), (18, (0, 1, 16777216, [])), (19, (0, 0, 33554431, [])), (20, (0, 0, 33554431, [])), (21, (0, 1, 1, [])), (22, (0, 1, 8388608, [])), (23, (0, 0, 33554431, [])), (24, (0, 1, 1, [])), (25, (0, 1, 72, []))], [(9, [25, 0], [6]), (9, [15, 0], [9]), (9, [8, 0], [10]), (9, [7, 0], [8]), (9, [6, 0], [7]), (20, [1, 0], [50, 1, 0, 1005, 2, 6, 0, 2, 0, 0, 1, 0, 0, 6, 4, 2, 1, 0, 0, 1, 2, 1, 5]), (20, [2, 0], [50, 1, 0, 1005, 2, 6, 0, 2, 0, 0, 1, 0, 0, 6, 4, 2, 1, 0, 0, 1, 2, 1, 5]), (20, [1, 2], [50, 0, 0, 7, 2, 1, 0, 1, 1]), (101, [0, 25], [6]), (1, [25, 4, 24], []), (9, [4, 0], [6]), (20, [1, 0], [50, 1, 0, 1005, 2, 6, 0, 2, 0, 0, 1, 0, 0, 6, 4, 2, 1, 0, 0, 1, 2, 1, 5]), (20, [2, 0], [50, 1, 0, 1005, 2, 6, 0, 2, 0, 0, 1, 0, 0, 6, 4, 2, 1, 0, 0, 1, 2, 1, 5]), (20, [1, 2], [50, 0, 0, 7, 2, 1, 0, 1, 1]), (20, [0, 3], [50, 1, 0, 6, 1, 3, 2, 0, 6, 1, 1]), (100, [15, 2, 23], []), (13, [23, 20, 22], []), (16, [23, 20, 22], [1]), (16, [22, 21, 1], [3]), (10, [20, 15, 2], []), (20, [1, 0], [50, 1, 0, 1005, 2, 6, 0, 2, 0, 0, 1, 0, 0, 6, 4, 2, 1, 0, 0, 1, 2, 1, 5]), (20, [2, 0], [50, 1, 0, 1005, 2, 6, 0, 2, 0, 0, 1, 0, 0, 6, 4, 2, 1, 0, 0, 1, 2, 1, 5]), (20, [1, 2], [50, 0, 0, 7, 2, 1, 0, 1, 1]), (20, [0, 3], [50, 1, 0, 6, 1, 3, 2, 0, 6, 1, 1]), (100, [15, 1, 19], []), (13, [19, 16, 18], []), (16, [19, 16, 18], [1]), (16, [18, 17, 2], [3]), (10, [16, 15, 1], []), (20, [1, 0], [50, 1, 0, 1005, 2, 6, 0, 2, 0, 0, 1, 0, 0, 6, 4, 2, 1, 0, 0, 1, 2, 1, 5]), (20, [2, 0], [50, 1, 0, 1005, 2, 6, 0, 2, 0, 0, 1, 0, 0, 6, 4, 2, 1, 0, 0, 1, 2, 1, 5]), (20, [1, 2], [50, 0, 0, 7, 2, 1, 0, 1, 1]), (20, [0, 3], [50, 1, 0, 6, 1, 3, 2, 0, 6, 1, 1]), (100, [8, 14, 4], []), (20, [1, 0], [50, 1, 0, 1005, 2, 6, 0, 2, 0, 0, 1, 0, 0, 6, 4, 2, 1, 0, 0, 1, 2, 1, 5]), (20, [2, 0], [50, 1, 0, 1005, 2, 6, 0, 2, 0, 0, 1, 0, 0, 6, 4, 2, 1, 0, 0, 1, 2, 1, 5]), (20, [1, 2], [50, 0, 0, 7, 2, 1, 0, 1, 1]), (20, [0, 3], [50, 1, 0, 6, 1, 3, 2, 0, 6, 1, 1]), (100, [8, 11, 4], []), (20, [1, 0], [50, 1, 0, 1005, 2, 6, 0, 2, 0, 0, 1, 0, 0, 6, 4, 2, 1, 0, 0, 1, 2, 1, 5]), (20, [2, 0], [50, 1, 0, 1005, 2, 6, 0, 2, 0, 0, 1, 0, 0, 6, 4, 2, 1, 0, 0, 1, 2, 1, 5]), (20, [1, 2], [50, 0, 0, 7, 2, 1, 0, 1, 1]), (20, [0, 3], [50, 1, 0, 6, 1, 3, 2, 0, 6, 1, 1]), (100, [7, 4, 2], []), (20, [1, 0], [50, 1, 0, 1005, 2, 6, 0, 2, 0, 0, 1, 0, 0, 6, 4, 2, 1, 0, 0, 1, 2, 1, 5]), (20, [2, 0], [50, 1, 0, 1005, 2, 6, 0, 2, 0, 0, 1, 0, 0, 6, 4, 2, 1, 0, 0, 1, 2, 1, 5]), (20, [1, 2], [50, 0, 0, 7, 2, 1, 0, 1, 1]), (20, [0, 3], [50, 1, 0, 6, 1, 3, 2, 0, 6, 1, 1]), (100, [6, 4, 1], []), (7, [4, 5], [2]), (20, [0], [60, 2, 3, 595, 5, 6, 7, 8, 9]), (20, [1, 0], [50, 1, 0, 1005, 2, 6, 0, 2, 0, 0, 1, 0, 0, 6, 4, 2, 1, 0, 0, 1, 2, 1, 5]), (20, [2, 0], [50, 1, 0, 1005, 2, 6, 0, 2, 0, 0, 1, 0, 0, 6, 4, 2, 1, 0, 0, 1, 2, 1, 5]), (20, [1, 2], [50, 0, 0, 7, 2, 1, 0, 1, 1]), (20, [0, 3], [50, 1, 0, 6, 1, 3, 2, 0, 6, 1, 1])], [], [], [(20, [0], [60, 2, 3, 595, 5, 6, 7, 8, 9]), (20, [3, 0], [50, 1, 0, 1006, 3, 6, 0, 2, 0, 72, 1, 0, 1, 3, 2, 1, 6, 4, 2, 1, 0, 0, 1])], [], [(25, 4, 1, 1), (14, 1, 0, 600), (11, 2, 0, 575)])
theorem oo_Ne_join_at_Np_gk_0 {kA : Nat → ClassId} : or_ok PRD kA GG o_Ne_join_at_Np_gk_0 := by
  refine or_mk fun A ta ws vs hD hth hl => ?_
  intro t0 r0 t1 k1 t2 k2 t3 k3 t4 k4 t5 k5 t6 r6 t7 r7 t8 r8 t11 k11 t14 k14 t15 r15 t16 k16 t17 k17 t18 k18 t19 k19 t20 k20 t21 k21 t22 k22 t23 k23 t24 k24 t25 k25 d0 d1 d2 f0 f1 f2 f3 f4 f5 f6 f7 ta1 w1 le1 s1 f9 f10 f11 f12 f13 f14 ta2 w2 le2 s2 f16 f17 f18 f19 f20 f21 f22 f23 ta3 w3 le3 s3 f25 f26 f27 f28 f29 f30 f31 f32 ta4 w4 le4 s4 f34 f35 f36 f37 ta5 w5 le5 s5 f39 f40 f41 f42 ta6 w6 le6 s6 f44 f45 f46 f47 ta7 w7 le7 s7 f49 f50 f51 f52 f53 f54
  replace f0 := shm_110 f0
  replace f1 := shm_120 f1
  replace f2 := shm_114 f2
  replace f3 := shm_143 f3
  replace f4 := shm_216 f4
  have s1 : (∀ b j, w_el ws b j = w_el w1 b j) ∧ ∀ b j, w_fd ws b j = if b = v_ad (n_v vs 0) ∧ j = 6 then n_v vs 25 else w_fd w1 b j := s1.2
  replace f10 := shm_110 f10
  have s2 : (∀ b j, w_el w1 b j = if b = v_ad (n_v vs 15) ∧ j = (v_iv (n_v vs 2)).toNat then v_iv (n_v vs 23) else w_el w2 b j) ∧ ∀ b k, w_fd w1 b k = w_fd w2 b k := s2.2
  have f16 : v_iv (n_v vs 23) ≤ v_iv (n_v vs 20) + v_iv (n_v vs 22) ∧ v_iv (n_v vs 20) ≤ v_iv (n_v vs 23) ∧ v_iv (n_v vs 22) ≤ v_iv (n_v vs 23) := (fun (h : v_iv (n_v vs 23) ≤ v_iv (n_v vs 20) + v_iv (n_v vs 22) ∧ v_iv (n_v vs 20) ≤ v_iv (n_v vs 23) ∧ v_iv (n_v vs 22) ≤ v_iv (n_v vs 23) ∧ (v_iv (n_v vs 23)).toNat = (v_iv (n_v vs 20)).toNat ||| (v_iv (n_v vs 22)).toNat) => ⟨h.1, h.2.1, h.2.2.1⟩) f16
  replace f19 := shm_106 f19
  have s3 : (∀ b j, w_el w2 b j = if b = v_ad (n_v vs 15) ∧ j = (v_iv (n_v vs 1)).toNat then v_iv (n_v vs 19) else w_el w3 b j) ∧ ∀ b k, w_fd w2 b k = w_fd w3 b k := s3.2
  have f25 : v_iv (n_v vs 19) ≤ v_iv (n_v vs 16) + v_iv (n_v vs 18) ∧ v_iv (n_v vs 16) ≤ v_iv (n_v vs 19) ∧ v_iv (n_v vs 18) ≤ v_iv (n_v vs 19) := (fun (h : v_iv (n_v vs 19) ≤ v_iv (n_v vs 16) + v_iv (n_v vs 18) ∧ v_iv (n_v vs 16) ≤ v_iv (n_v vs 19) ∧ v_iv (n_v vs 18) ≤ v_iv (n_v vs 19) ∧ (v_iv (n_v vs 19)).toNat = (v_iv (n_v vs 16)).toNat ||| (v_iv (n_v vs 18)).toNat) => ⟨h.1, h.2.1, h.2.2.1⟩) f25
  replace f28 := shm_106 f28
  have s4 : (∀ b j, w_el w3 b j = if b = v_ad (n_v vs 8) ∧ j = (v_iv (n_v vs 14)).toNat then v_iv (n_v vs 4) else w_el w4 b j) ∧ ∀ b k, w_fd w3 b k = w_fd w4 b k := s4.2
  have s5 : (∀ b j, w_el w4 b j = if b = v_ad (n_v vs 8) ∧ j = (v_iv (n_v vs 11)).toNat then v_iv (n_v vs 4) else w_el w5 b j) ∧ ∀ b k, w_fd w4 b k = w_fd w5 b k := s5.2
  have s6 : (∀ b j, w_el w5 b j = if b = v_ad (n_v vs 7) ∧ j = (v_iv (n_v vs 4)).toNat then v_iv (n_v vs 2) else w_el w6 b j) ∧ ∀ b k, w_fd w5 b k = w_fd w6 b k := s6.2
  have s7 : (∀ b j, w_el w6 b j = if b = v_ad (n_v vs 6) ∧ j = (v_iv (n_v vs 4)).toNat then v_iv (n_v vs 1) else w_el w7 b j) ∧ ∀ b k, w_fd w6 b k = w_fd w7 b k := s7.2
  replace f50 := shm_421 f50
  have ar_0_7_1 : w_ar w1 (n_v vs 0) 7 = w_ar ws (n_v vs 0) 7 := by show v_ad (w_fd w1 _ _) = v_ad (w_fd ws _ _); rw [s1.2, if_neg (fun e => absurd e.2 (by decide))]
  have ar_0_7_2 : w_ar w2 (n_v vs 0) 7 = w_ar ws (n_v vs 0) 7 := by rw [← ar_0_7_1]; show v_ad (w_fd w2 _ _) = v_ad (w_fd w1 _ _); rw [s2.2]
  have ar_0_7_3 : w_ar w3 (n_v vs 0) 7 = w_ar ws (n_v vs 0) 7 := by rw [← ar_0_7_2]; show v_ad (w_fd w3 _ _) = v_ad (w_fd w2 _ _); rw [s3.2]
  have ar_0_7_4 : w_ar w4 (n_v vs 0) 7 = w_ar ws (n_v vs 0) 7 := by rw [← ar_0_7_3]; show v_ad (w_fd w4 _ _) = v_ad (w_fd w3 _ _); rw [s4.2]
  have ar_0_7_5 : w_ar w5 (n_v vs 0) 7 = w_ar ws (n_v vs 0) 7 := by rw [← ar_0_7_4]; show v_ad (w_fd w5 _ _) = v_ad (w_fd w4 _ _); rw [s5.2]
  have ar_0_7_6 : w_ar w6 (n_v vs 0) 7 = w_ar ws (n_v vs 0) 7 := by rw [← ar_0_7_5]; show v_ad (w_fd w6 _ _) = v_ad (w_fd w5 _ _); rw [s6.2]
  have ar_0_7_7 : w_ar w7 (n_v vs 0) 7 = w_ar ws (n_v vs 0) 7 := by rw [← ar_0_7_6]; show v_ad (w_fd w7 _ _) = v_ad (w_fd w6 _ _); rw [s7.2]
  have cr_0_7 := fdq_66 hD hth r0
  have ar_0_8_1 : w_ar w1 (n_v vs 0) 8 = w_ar ws (n_v vs 0) 8 := by show v_ad (w_fd w1 _ _) = v_ad (w_fd ws _ _); rw [s1.2, if_neg (fun e => absurd e.2 (by decide))]
  have ar_0_8_2 : w_ar w2 (n_v vs 0) 8 = w_ar ws (n_v vs 0) 8 := by rw [← ar_0_8_1]; show v_ad (w_fd w2 _ _) = v_ad (w_fd w1 _ _); rw [s2.2]
  have ar_0_8_3 : w_ar w3 (n_v vs 0) 8 = w_ar ws (n_v vs 0) 8 := by rw [← ar_0_8_2]; show v_ad (w_fd w3 _ _) = v_ad (w_fd w2 _ _); rw [s3.2]
  have ar_0_8_4 : w_ar w4 (n_v vs 0) 8 = w_ar ws (n_v vs 0) 8 := by rw [← ar_0_8_3]; show v_ad (w_fd w4 _ _) = v_ad (w_fd w3 _ _); rw [s4.2]
  have ar_0_8_5 : w_ar w5 (n_v vs 0) 8 = w_ar ws (n_v vs 0) 8 := by rw [← ar_0_8_4]; show v_ad (w_fd w5 _ _) = v_ad (w_fd w4 _ _); rw [s5.2]
  have ar_0_8_6 : w_ar w6 (n_v vs 0) 8 = w_ar ws (n_v vs 0) 8 := by rw [← ar_0_8_5]; show v_ad (w_fd w6 _ _) = v_ad (w_fd w5 _ _); rw [s6.2]
  have ar_0_8_7 : w_ar w7 (n_v vs 0) 8 = w_ar ws (n_v vs 0) 8 := by rw [← ar_0_8_6]; show v_ad (w_fd w7 _ _) = v_ad (w_fd w6 _ _); rw [s7.2]
  have cr_0_8 := fdq_67 hD hth r0
  have ar_0_9_1 : w_ar w1 (n_v vs 0) 9 = w_ar ws (n_v vs 0) 9 := by show v_ad (w_fd w1 _ _) = v_ad (w_fd ws _ _); rw [s1.2, if_neg (fun e => absurd e.2 (by decide))]
  have ar_0_9_2 : w_ar w2 (n_v vs 0) 9 = w_ar ws (n_v vs 0) 9 := by rw [← ar_0_9_1]; show v_ad (w_fd w2 _ _) = v_ad (w_fd w1 _ _); rw [s2.2]
  have ar_0_9_3 : w_ar w3 (n_v vs 0) 9 = w_ar ws (n_v vs 0) 9 := by rw [← ar_0_9_2]; show v_ad (w_fd w3 _ _) = v_ad (w_fd w2 _ _); rw [s3.2]
  have ar_0_9_4 : w_ar w4 (n_v vs 0) 9 = w_ar ws (n_v vs 0) 9 := by rw [← ar_0_9_3]; show v_ad (w_fd w4 _ _) = v_ad (w_fd w3 _ _); rw [s4.2]
  have ar_0_9_5 : w_ar w5 (n_v vs 0) 9 = w_ar ws (n_v vs 0) 9 := by rw [← ar_0_9_4]; show v_ad (w_fd w5 _ _) = v_ad (w_fd w4 _ _); rw [s5.2]
  have ar_0_9_6 : w_ar w6 (n_v vs 0) 9 = w_ar ws (n_v vs 0) 9 := by rw [← ar_0_9_5]; show v_ad (w_fd w6 _ _) = v_ad (w_fd w5 _ _); rw [s6.2]
  have ar_0_9_7 : w_ar w7 (n_v vs 0) 9 = w_ar ws (n_v vs 0) 9 := by rw [← ar_0_9_6]; show v_ad (w_fd w7 _ _) = v_ad (w_fd w6 _ _); rw [s7.2]
  have cr_0_9 := fdq_87 hD hth r0
  have cr_0_10 := fdq_88 hD hth r0
  have ad_15 : v_ad (n_v vs 15) = w_ar ws (n_v vs 0) 9 := congrArg v_ad f1
  have ad_8 : v_ad (n_v vs 8) = w_ar ws (n_v vs 0) 10 := congrArg v_ad f2
  have ad_7 : v_ad (n_v vs 7) = w_ar ws (n_v vs 0) 8 := congrArg v_ad f3
  have ad_6 : v_ad (n_v vs 6) = w_ar ws (n_v vs 0) 7 := congrArg v_ad f4
  have g0 : v_iv (n_v vs 25) = w_fi ws (n_v vs 0) 6 := congrArg v_iv f0
  have g10 : v_iv (n_v vs 4) = w_fi w1 (n_v vs 0) 6 := congrArg v_iv f10
  simp only [ad_15] at f19
  have h19 : v_iv (n_v vs 20) = w_ei w2 (w_ar ws (n_v vs 0) 9) (v_iv (n_v vs 2)) := f19
  simp only [ad_15] at f28
  have h28 : v_iv (n_v vs 16) = w_ei w3 (w_ar ws (n_v vs 0) 9) (v_iv (n_v vs 1)) := f28
  simp only [ar_0_7_7, ar_0_8_7, ar_0_9_7] at f50
  have fe_0_5_1 : w_fi ws (n_v vs 0) 5 = w_fi w1 (n_v vs 0) 5 := by show v_iv (w_fd _ _ _) = v_iv (w_fd _ _ _); rw [s1.2, if_neg (fun e => absurd e.2 (by decide))]
  have fe_0_6_1 : w_fi ws (n_v vs 0) 6 = v_iv (n_v vs 25) := by show v_iv (w_fd _ _ _) = _; rw [s1.2, if_pos ⟨rfl, rfl⟩]
  have fe_0_5_2 : w_fi w1 (n_v vs 0) 5 = w_fi w2 (n_v vs 0) 5 := congrArg v_iv (s2.2 _ _)
  have fe_0_6_2 : w_fi w1 (n_v vs 0) 6 = w_fi w2 (n_v vs 0) 6 := congrArg v_iv (s2.2 _ _)
  have fe_0_5_3 : w_fi w2 (n_v vs 0) 5 = w_fi w3 (n_v vs 0) 5 := congrArg v_iv (s3.2 _ _)
  have fe_0_6_3 : w_fi w2 (n_v vs 0) 6 = w_fi w3 (n_v vs 0) 6 := congrArg v_iv (s3.2 _ _)
  have fe_0_5_4 : w_fi w3 (n_v vs 0) 5 = w_fi w4 (n_v vs 0) 5 := congrArg v_iv (s4.2 _ _)
  have fe_0_6_4 : w_fi w3 (n_v vs 0) 6 = w_fi w4 (n_v vs 0) 6 := congrArg v_iv (s4.2 _ _)
  have fe_0_5_5 : w_fi w4 (n_v vs 0) 5 = w_fi w5 (n_v vs 0) 5 := congrArg v_iv (s5.2 _ _)
  have fe_0_6_5 : w_fi w4 (n_v vs 0) 6 = w_fi w5 (n_v vs 0) 6 := congrArg v_iv (s5.2 _ _)
  have fe_0_5_6 : w_fi w5 (n_v vs 0) 5 = w_fi w6 (n_v vs 0) 5 := congrArg v_iv (s6.2 _ _)
  have fe_0_6_6 : w_fi w5 (n_v vs 0) 6 = w_fi w6 (n_v vs 0) 6 := congrArg v_iv (s6.2 _ _)
  have fe_0_5_7 : w_fi w6 (n_v vs 0) 5 = w_fi w7 (n_v vs 0) 5 := congrArg v_iv (s7.2 _ _)
  have fe_0_6_7 : w_fi w6 (n_v vs 0) 6 = w_fi w7 (n_v vs 0) 6 := congrArg v_iv (s7.2 _ _)
  have hE_0_7_1 : ∀ j : Int, w_ei ws (w_ar ws (n_v vs 0) 7) j = w_ei w1 (w_ar ws (n_v vs 0) 7) j := fun j => s1.1 _ _
  have hE_0_7_2 : ∀ j : Int, w_ei w1 (w_ar ws (n_v vs 0) 7) j = w_ei w2 (w_ar ws (n_v vs 0) 7) j := el_kp s2.1 r15 cr_0_7 (by decide)
  have hE_0_7_3 : ∀ j : Int, w_ei w2 (w_ar ws (n_v vs 0) 7) j = w_ei w3 (w_ar ws (n_v vs 0) 7) j := el_kp s3.1 r15 cr_0_7 (by decide)
  have hE_0_7_4 : ∀ j : Int, w_ei w3 (w_ar ws (n_v vs 0) 7) j = w_ei w4 (w_ar ws (n_v vs 0) 7) j := el_kp s4.1 r8 cr_0_7 (by decide)
  have hE_0_7_5 : ∀ j : Int, w_ei w4 (w_ar ws (n_v vs 0) 7) j = w_ei w5 (w_ar ws (n_v vs 0) 7) j := el_kp s5.1 r8 cr_0_7 (by decide)
  have hE_0_7_6 : ∀ j : Int, w_ei w5 (w_ar ws (n_v vs 0) 7) j = w_ei w6 (w_ar ws (n_v vs 0) 7) j := el_kp s6.1 r7 cr_0_7 (by decide)
  have hE_0_7_7 : ∀ j : Int, 0 ≤ j → (j = v_iv (n_v vs 4) → w_ei w6 (w_ar ws (n_v vs 0) 7) j = v_iv (n_v vs 1)) ∧ (j ≠ v_iv (n_v vs 4) → w_ei w6 (w_ar ws (n_v vs 0) 7) j = w_ei w7 (w_ar ws (n_v vs 0) 7) j) := fun j hj => ⟨fun h => by unfold w_ei; rw [s7.1, if_pos ⟨ad_6.symm, by rw [h]⟩], fun h => by unfold w_ei; rw [s7.1, if_neg (fun e => h (by have := e.2; omega))]⟩
  have hK_0_7 := elq_20 hD hth cr_0_7
  have hE_0_8_1 : ∀ j : Int, w_ei ws (w_ar ws (n_v vs 0) 8) j = w_ei w1 (w_ar ws (n_v vs 0) 8) j := fun j => s1.1 _ _
  have hE_0_8_2 : ∀ j : Int, w_ei w1 (w_ar ws (n_v vs 0) 8) j = w_ei w2 (w_ar ws (n_v vs 0) 8) j := el_kp s2.1 r15 cr_0_8 (by decide)
  have hE_0_8_3 : ∀ j : Int, w_ei w2 (w_ar ws (n_v vs 0) 8) j = w_ei w3 (w_ar ws (n_v vs 0) 8) j := el_kp s3.1 r15 cr_0_8 (by decide)
  have hE_0_8_4 : ∀ j : Int, w_ei w3 (w_ar ws (n_v vs 0) 8) j = w_ei w4 (w_ar ws (n_v vs 0) 8) j := el_kp s4.1 r8 cr_0_8 (by decide)
  have hE_0_8_5 : ∀ j : Int, w_ei w4 (w_ar ws (n_v vs 0) 8) j = w_ei w5 (w_ar ws (n_v vs 0) 8) j := el_kp s5.1 r8 cr_0_8 (by decide)
  have hE_0_8_6 : ∀ j : Int, 0 ≤ j → (j = v_iv (n_v vs 4) → w_ei w5 (w_ar ws (n_v vs 0) 8) j = v_iv (n_v vs 2)) ∧ (j ≠ v_iv (n_v vs 4) → w_ei w5 (w_ar ws (n_v vs 0) 8) j = w_ei w6 (w_ar ws (n_v vs 0) 8) j) := fun j hj => ⟨fun h => by unfold w_ei; rw [s6.1, if_pos ⟨ad_7.symm, by rw [h]⟩], fun h => by unfold w_ei; rw [s6.1, if_neg (fun e => h (by have := e.2; omega))]⟩
  have hE_0_8_7 : ∀ j : Int, w_ei w6 (w_ar ws (n_v vs 0) 8) j = w_ei w7 (w_ar ws (n_v vs 0) 8) j := el_kp s7.1 r6 cr_0_8 (by decide)
  have hK_0_8 := elq_21 hD hth cr_0_8
  have hE_0_9_1 : ∀ j : Int, w_ei ws (w_ar ws (n_v vs 0) 9) j = w_ei w1 (w_ar ws (n_v vs 0) 9) j := fun j => s1.1 _ _
  have hE_0_9_2 : ∀ j : Int, 0 ≤ j → (j = v_iv (n_v vs 2) → w_ei w1 (w_ar ws (n_v vs 0) 9) j = v_iv (n_v vs 23)) ∧ (j ≠ v_iv (n_v vs 2) → w_ei w1 (w_ar ws (n_v vs 0) 9) j = w_ei w2 (w_ar ws (n_v vs 0) 9) j) := fun j hj => ⟨fun h => by unfold w_ei; rw [s2.1, if_pos ⟨ad_15.symm, by rw [h]⟩], fun h => by unfold w_ei; rw [s2.1, if_neg (fun e => h (by have := e.2; omega))]⟩
  have hE_0_9_3 : ∀ j : Int, 0 ≤ j → (j = v_iv (n_v vs 1) → w_ei w2 (w_ar ws (n_v vs 0) 9) j = v_iv (n_v vs 19)) ∧ (j ≠ v_iv (n_v vs 1) → w_ei w2 (w_ar ws (n_v vs 0) 9) j = w_ei w3 (w_ar ws (n_v vs 0) 9) j) := fun j hj => ⟨fun h => by unfold w_ei; rw [s3.1, if_pos ⟨ad_15.symm, by rw [h]⟩], fun h => by unfold w_ei; rw [s3.1, if_neg (fun e => h (by have := e.2; omega))]⟩
  have hE_0_9_4 : ∀ j : Int, w_ei w3 (w_ar ws (n_v vs 0) 9) j = w_ei w4 (w_ar ws (n_v vs 0) 9) j := el_kp s4.1 r8 cr_0_9 (by decide)
  have hE_0_9_5 : ∀ j : Int, w_ei w4 (w_ar ws (n_v vs 0) 9) j = w_ei w5 (w_ar ws (n_v vs 0) 9) j := el_kp s5.1 r8 cr_0_9 (by decide)
  have hE_0_9_6 : ∀ j : Int, w_ei w5 (w_ar ws (n_v vs 0) 9) j = w_ei w6 (w_ar ws (n_v vs 0) 9) j := el_kp s6.1 r7 cr_0_9 (by decide)
  have hE_0_9_7 : ∀ j : Int, w_ei w6 (w_ar ws (n_v vs 0) 9) j = w_ei w7 (w_ar ws (n_v vs 0) 9) j := el_kp s7.1 r6 cr_0_9 (by decide)
  have hK_0_9 := elq_26 hD hth cr_0_9
  have hE_0_10_1 : ∀ j : Int, w_ei ws (w_ar ws (n_v vs 0) 10) j = w_ei w1 (w_ar ws (n_v vs 0) 10) j := fun j => s1.1 _ _
  have hE_0_10_2 : ∀ j : Int, w_ei w1 (w_ar ws (n_v vs 0) 10) j = w_ei w2 (w_ar ws (n_v vs 0) 10) j := el_kp s2.1 r15 cr_0_10 (by decide)
  have hE_0_10_3 : ∀ j : Int, w_ei w2 (w_ar ws (n_v vs 0) 10) j = w_ei w3 (w_ar ws (n_v vs 0) 10) j := el_kp s3.1 r15 cr_0_10 (by decide)
  have hE_0_10_4 : ∀ j : Int, 0 ≤ j → (j = v_iv (n_v vs 14) → w_ei w3 (w_ar ws (n_v vs 0) 10) j = v_iv (n_v vs 4)) ∧ (j ≠ v_iv (n_v vs 14) → w_ei w3 (w_ar ws (n_v vs 0) 10) j = w_ei w4 (w_ar ws (n_v vs 0) 10) j) := fun j hj => ⟨fun h => by unfold w_ei; rw [s4.1, if_pos ⟨ad_8.symm, by rw [h]⟩], fun h => by unfold w_ei; rw [s4.1, if_neg (fun e => h (by have := e.2; omega))]⟩
  have hE_0_10_5 : ∀ j : Int, 0 ≤ j → (j = v_iv (n_v vs 11) → w_ei w4 (w_ar ws (n_v vs 0) 10) j = v_iv (n_v vs 4)) ∧ (j ≠ v_iv (n_v vs 11) → w_ei w4 (w_ar ws (n_v vs 0) 10) j = w_ei w5 (w_ar ws (n_v vs 0) 10) j) := fun j hj => ⟨fun h => by unfold w_ei; rw [s5.1, if_pos ⟨ad_8.symm, by rw [h]⟩], fun h => by unfold w_ei; rw [s5.1, if_neg (fun e => h (by have := e.2; omega))]⟩
  have hE_0_10_6 : ∀ j : Int, w_ei w5 (w_ar ws (n_v vs 0) 10) j = w_ei w6 (w_ar ws (n_v vs 0) 10) j := el_kp s6.1 r7 cr_0_10 (by decide)
  have hE_0_10_7 : ∀ j : Int, w_ei w6 (w_ar ws (n_v vs 0) 10) j = w_ei w7 (w_ar ws (n_v vs 0) 10) j := el_kp s7.1 r6 cr_0_10 (by decide)
  have hK_0_10 := elq_39 hD hth cr_0_10
  have kz_0_5 := fdq_89 hD hth r0
  have kz_0_6 := fdq_68 hD hth r0
  have nf0 : fc_1 PRD (20, [0], [60, 2, 3, 595, 5, 6, 7, 8, 9]) ws (vs) := ⟨nf_in hl rfl, sgq_421 (vc_Ne_join_at_Np_gk_0_0 (v_iv (n_v vs 1)) (v_iv (n_v vs 2)) (v_iv (n_v vs 3)) (v_iv (n_v vs 4)) (v_iv (n_v vs 5)) (v_iv (n_v vs 11)) (v_iv (n_v vs 14)) (v_iv (n_v vs 16)) (v_iv (n_v vs 17)) (v_iv (n_v vs 18)) (v_iv (n_v vs 19)) (v_iv (n_v vs 20)) (v_iv (n_v vs 21)) (v_iv (n_v vs 22)) (v_iv (n_v vs 23)) (v_iv (n_v vs 24)) (v_iv (n_v vs 25)) (w_fi ws (n_v vs 0) 6) (w_fi ws (n_v vs 0) 5) (w_fi w1 (n_v vs 0) 6) (w_fi w1 (n_v vs 0) 5) (w_ei w2 (w_ar ws (n_v vs 0) 9)) (w_fi w2 (n_v vs 0) 5) (w_fi w2 (n_v vs 0) 6) (w_ei w3 (w_ar ws (n_v vs 0) 9)) (w_fi w3 (n_v vs 0) 5) (w_fi w3 (n_v vs 0) 6) (w_fi w4 (n_v vs 0) 5) (w_fi w4 (n_v vs 0) 6) (w_fi w5 (n_v vs 0) 5) (w_fi w5 (n_v vs 0) 6) (w_fi w6 (n_v vs 0) 5) (w_fi w6 (n_v vs 0) 6) (w_ei w7 (w_ar ws (n_v vs 0) 7)) (w_ei w7 (w_ar ws (n_v vs 0) 8)) (w_ei w7 (w_ar ws (n_v vs 0) 9)) (w_fi w7 (n_v vs 0) 5) (w_fi w7 (n_v vs 0) 6) (w_ei ws (w_ar ws (n_v vs 0) 7)) (w_ei w1 (w_ar ws (n_v vs 0) 7)) (w_ei w2 (w_ar ws (n_v vs 0) 7)) (w_ei w3 (w_ar ws (n_v vs 0) 7)) (w_ei w4 (w_ar ws (n_v vs 0) 7)) (w_ei w5 (w_ar ws (n_v vs 0) 7)) (w_ei w6 (w_ar ws (n_v vs 0) 7)) (w_ei ws (w_ar ws (n_v vs 0) 8)) (w_ei w1 (w_ar ws (n_v vs 0) 8)) (w_ei w2 (w_ar ws (n_v vs 0) 8)) (w_ei w3 (w_ar ws (n_v vs 0) 8)) (w_ei w4 (w_ar ws (n_v vs 0) 8)) (w_ei w5 (w_ar ws (n_v vs 0) 8)) (w_ei w6 (w_ar ws (n_v vs 0) 8)) (w_ei ws (w_ar ws (n_v vs 0) 9)) (w_ei w1 (w_ar ws (n_v vs 0) 9)) (w_ei w4 (w_ar ws (n_v vs 0) 9)) (w_ei w5 (w_ar ws (n_v vs 0) 9)) (w_ei w6 (w_ar ws (n_v vs 0) 9)) (w_ei ws (w_ar ws (n_v vs 0) 10)) (w_ei w1 (w_ar ws (n_v vs 0) 10)) (w_ei w2 (w_ar ws (n_v vs 0) 10)) (w_ei w3 (w_ar ws (n_v vs 0) 10)) (w_ei w4 (w_ar ws (n_v vs 0) 10)) (w_ei w5 (w_ar ws (n_v vs 0) 10)) (w_ei w6 (w_ar ws (n_v vs 0) 10)) (w_ei w7 (w_ar ws (n_v vs 0) 10)) k1 k2 k3 k4 k5 k11 k14 k16 k17 k18 k19 k20 k21 k22 k23 k24 k25 d0 d1 d2 g0 (shm_418 f5) (shm_418 f6) (shm_419 f7) (shm_12 f9) g10 (shm_418 f11) (shm_418 f12) (shm_419 f13) (shm_420 f14) f16 (shm_372 f17) (shm_367 f18) h19 (shm_418 f20) (shm_418 f21) (shm_419 f22) (shm_420 f23) f25 (shm_372 f26) (shm_367 f27) h28 (shm_418 f29) (shm_418 f30) (shm_419 f31) (shm_420 f32) (shm_418 f34) (shm_418 f35) (shm_419 f36) (shm_420 f37) (shm_418 f39) (shm_418 f40) (shm_419 f41) (shm_420 f42) (shm_418 f44) (shm_418 f45) (shm_419 f46) (shm_420 f47) (shm_6 f49) f50 (shm_418 f51) (shm_418 f52) (shm_419 f53) (shm_420 f54) fe_0_5_1 fe_0_6_1 fe_0_5_2 fe_0_6_2 fe_0_5_3 fe_0_6_3 fe_0_5_4 fe_0_6_4 fe_0_5_5 fe_0_6_5 fe_0_5_6 fe_0_6_6 fe_0_5_7 fe_0_6_7 hE_0_7_1 hE_0_7_2 hE_0_7_3 hE_0_7_4 hE_0_7_5 hE_0_7_6 hE_0_7_7 hK_0_7 hE_0_8_1 hE_0_8_2 hE_0_8_3 hE_0_8_4 hE_0_8_5 hE_0_8_6 hE_0_8_7 hK_0_8 hE_0_9_1 hE_0_9_2 hE_0_9_3 hE_0_9_4 hE_0_9_5 hE_0_9_6 hE_0_9_7 hK_0_9 hE_0_10_1 hE_0_10_2 hE_0_10_3 hE_0_10_4 hE_0_10_5 hE_0_10_6 hE_0_10_7 hK_0_10 kz_0_5 kz_0_6)⟩
  have nf1 : fc_1 PRD (20, [3, 0], [50, 1, 0, 1006, 3, 6, 0, 2, 0, 72, 1, 0, 1, 3, 2, 1, 6, 4, 2, 1, 0, 0, 1]) ws (vs) := ⟨nf_in hl rfl, sgq_422 (vc_Ne_join_at_Np_gk_0_1 (v_iv (n_v vs 1)) (v_iv (n_v vs 2)) (v_iv (n_v vs 3)) (v_iv (n_v vs 4)) (v_iv (n_v vs 5)) (v_iv (n_v vs 11)) (v_iv (n_v vs 14)) (v_iv (n_v vs 16)) (v_iv (n_v vs 17)) (v_iv (n_v vs 18)) (v_iv (n_v vs 19)) (v_iv (n_v vs 20)) (v_iv (n_v vs 21)) (v_iv (n_v vs 22)) (v_iv (n_v vs 23)) (v_iv (n_v vs 24)) (v_iv (n_v vs 25)) (w_fi ws (n_v vs 0) 6) (w_fi ws (n_v vs 0) 5) (w_fi w1 (n_v vs 0) 6) (w_fi w1 (n_v vs 0) 5) (w_ei w2 (w_ar ws (n_v vs 0) 9)) (w_fi w2 (n_v vs 0) 5) (w_fi w2 (n_v vs 0) 6) (w_ei w3 (w_ar ws (n_v vs 0) 9)) (w_fi w3 (n_v vs 0) 5) (w_fi w3 (n_v vs 0) 6) (w_fi w4 (n_v vs 0) 5) (w_fi w4 (n_v vs 0) 6) (w_fi w5 (n_v vs 0) 5) (w_fi w5 (n_v vs 0) 6) (w_fi w6 (n_v vs 0) 5) (w_fi w6 (n_v vs 0) 6) (w_ei w7 (w_ar ws (n_v vs 0) 7)) (w_ei w7 (w_ar ws (n_v vs 0) 8)) (w_ei w7 (w_ar ws (n_v vs 0) 9)) (w_fi w7 (n_v vs 0) 5) (w_fi w7 (n_v vs 0) 6) (w_ei ws (w_ar ws (n_v vs 0) 7)) (w_ei w1 (w_ar ws (n_v vs 0) 7)) (w_ei w2 (w_ar ws (n_v vs 0) 7)) (w_ei w3 (w_ar ws (n_v vs 0) 7)) (w_ei w4 (w_ar ws (n_v vs 0) 7)) (w_ei w5 (w_ar ws (n_v vs 0) 7)) (w_ei w6 (w_ar ws (n_v vs 0) 7)) (w_ei ws (w_ar ws (n_v vs 0) 8)) (w_ei w1 (w_ar ws (n_v vs 0) 8)) (w_ei w2 (w_ar ws (n_v vs 0) 8)) (w_ei w3 (w_ar ws (n_v vs 0) 8)) (w_ei w4 (w_ar ws (n_v vs 0) 8)) (w_ei w5 (w_ar ws (n_v vs 0) 8)) (w_ei w6 (w_ar ws (n_v vs 0) 8)) (w_ei ws (w_ar ws (n_v vs 0) 9)) (w_ei w1 (w_ar ws (n_v vs 0) 9)) (w_ei w4 (w_ar ws (n_v vs 0) 9)) (w_ei w5 (w_ar ws (n_v vs 0) 9)) (w_ei w6 (w_ar ws (n_v vs 0) 9)) (w_ei ws (w_ar ws (n_v vs 0) 10)) (w_ei w1 (w_ar ws (n_v vs 0) 10)) (w_ei w2 (w_ar ws (n_v vs 0) 10)) (w_ei w3 (w_ar ws (n_v vs 0) 10)) (w_ei w4 (w_ar ws (n_v vs 0) 10)) (w_ei w5 (w_ar ws (n_v vs 0) 10)) (w_ei w6 (w_ar ws (n_v vs 0) 10)) (w_ei w7 (w_ar ws (n_v vs 0) 10)) k1 k2 k3 k4 k5 k11 k14 k16 k17 k18 k19 k20 k21 k22 k23 k24 k25 d0 d1 d2 g0 (shm_418 f5) (shm_418 f6) (shm_419 f7) (shm_12 f9) g10 (shm_418 f11) (shm_418 f12) (shm_419 f13) (shm_420 f14) f16 (shm_372 f17) (shm_367 f18) h19 (shm_418 f20) (shm_418 f21) (shm_419 f22) (shm_420 f23) f25 (shm_372 f26) (shm_367 f27) h28 (shm_418 f29) (shm_418 f30) (shm_419 f31) (shm_420 f32) (shm_418 f34) (shm_418 f35) (shm_419 f36) (shm_420 f37) (shm_418 f39) (shm_418 f40) (shm_419 f41) (shm_420 f42) (shm_418 f44) (shm_418 f45) (shm_419 f46) (shm_420 f47) (shm_6 f49) f50 (shm_418 f51) (shm_418 f52) (shm_419 f53) (shm_420 f54) fe_0_5_1 fe_0_6_1 fe_0_5_2 fe_0_6_2 fe_0_5_3 fe_0_6_3 fe_0_5_4 fe_0_6_4 fe_0_5_5 fe_0_6_5 fe_0_5_6 fe_0_6_6 fe_0_5_7 fe_0_6_7 hE_0_7_1 hE_0_7_2 hE_0_7_3 hE_0_7_4 hE_0_7_5 hE_0_7_6 hE_0_7_7 hK_0_7 hE_0_8_1 hE_0_8_2 hE_0_8_3 hE_0_8_4 hE_0_8_5 hE_0_8_6 hE_0_8_7 hK_0_8 hE_0_9_1 hE_0_9_2 hE_0_9_3 hE_0_9_4 hE_0_9_5 hE_0_9_6 hE_0_9_7 hK_0_9 hE_0_10_1 hE_0_10_2 hE_0_10_3 hE_0_10_4 hE_0_10_5 hE_0_10_6 hE_0_10_7 hK_0_10 kz_0_5 kz_0_6)⟩
  refine ⟨(fun _ h => (by cases h)), [], trivial, ?_, (fun _ h => (by cases h))⟩
  rw [List.append_nil]
  exact List.forall_mem_cons.mpr ⟨⟨show (20 : Nat) < 100 from by decide, nf0⟩, List.forall_mem_cons.mpr ⟨⟨show (20 : Nat) < 100 from by decide, nf1⟩, (fun _ h => (by cases h))⟩⟩
set_option maxHeartbeats 4000000 in
theorem vc_Ne_join_at_Np_gk_1_0 (x1 : Int) (x2 : Int) (x3 : Int) (x4 : Int) (x5 : Int) (edges_0 : Int) (tail_0 : Int → Int) (head_0 : Int → Int) (near_0 : Int → Int) (nodes_0 : Int) (k1 : 0 ≤ x1 ∧ x1 ≤ 23) (k2 : 0 ≤ x2 ∧ x2 ≤ 24) (k3 : 0 ≤ x3 ∧ x3 ≤ 72) (k4 : 72 ≤ x4 ∧ x4 ≤ 72) (k5 : 72 ≤ x5 ∧ x5 ≤ 72) (f0 : x5 ≤ x4) (g1 : x4 = edges_0) (f2 : NOK (nodes_0) (edges_0) (tail_0) (head_0) (near_0)) (f3 : (0 ≤ x1) ∧ ((x1 + 1) ≤ nodes_0)) (f4 : (0 ≤ x2) ∧ ((x2 + 1) ≤ nodes_0)) (f5 : x1 ≠ x2) (f6 : edges_0 = x3) (hK_0_7 : ∀ j : Int, 0 ≤ j → j < 72 → 0 ≤ tail_0 j ∧ tail_0 j ≤ 24) (hK_0_8 : ∀ j : Int, 0 ≤ j → j < 72 → 0 ≤ head_0 j ∧ head_0 j ≤ 24) (hK_0_9 : ∀ j : Int, 0 ≤ j → j < 25 → 0 ≤ near_0 j ∧ near_0 j ≤ 33554431) (kz_0_5 : 0 ≤ nodes_0 ∧ nodes_0 ≤ 25) (kz_0_6 : 0 ≤ edges_0 ∧ edges_0 ≤ 72) : (72 ≤ x3) ∨ (edges_0 = (x3 + 1)) := by
  first
    | omega
  
def o_Ne_join_at_Np_gk_1 : or_T := (10, 7, [(0, (2, 0, 0, [149])), (1, (0, 0, 23, [])), (2, (0, 0, 24, [])), (3, (0, 0, 72, [])), (4, (0, 72, 72, [])), (5, (0, 72, 72, []))], [(7, [4, 5], [3]), (9, [4, 0], [6]), (20, [0], [60, 2, 3, 595, 5, 6, 7, 8, 9]), (20, [1, 0], [50, 1, 0, 1005, 2, 6, 0, 2, 0, 0, 1, 0, 0, 6, 4, 2, 1, 0, 0, 1, 2, 1, 5]), (20, [2, 0], [50, 1, 0, 1005, 2, 6, 0, 2, 0, 0, 1, 0, 0, 6, 4, 2, 1, 0, 0, 1, 2, 1, 5]), (20, [1, 2], [50, 0, 0, 7, 2, 1, 0, 1, 1]), (20, [0, 3], [50, 1, 0, 6, 1, 3, 2, 0, 6, 1, 1])], [], [], [(20, [3, 0], [50, 1, 0, 1006, 3, 6, 0, 2, 0, 72, 1, 0, 1, 3, 2, 1, 6, 4, 2, 1, 0, 0, 1])], [], [])
theorem oo_Ne_join_at_Np_gk_1 {kA : Nat → ClassId} : or_ok PRD kA GG o_Ne_join_at_Np_gk_1 := by
  refine or_mk fun A ta ws vs hD hth hl => ?_
  intro t0 r0 t1 k1 t2 k2 t3 k3 t4 k4 t5 k5 f0 f1 f2 f3 f4 f5 f6
  replace f1 := shm_110 f1
  have cr_0_7 := fdq_66 hD hth r0
  have cr_0_8 := fdq_67 hD hth r0
  have cr_0_9 := fdq_87 hD hth r0
  have g1 : v_iv (n_v vs 4) = w_fi ws (n_v vs 0) 6 := congrArg v_iv f1
  have hK_0_7 := elq_20 hD hth cr_0_7
  have hK_0_8 := elq_21 hD hth cr_0_8
  have hK_0_9 := elq_26 hD hth cr_0_9
  have kz_0_5 := fdq_89 hD hth r0
  have kz_0_6 := fdq_68 hD hth r0
  have nf0 : fc_1 PRD (20, [3, 0], [50, 1, 0, 1006, 3, 6, 0, 2, 0, 72, 1, 0, 1, 3, 2, 1, 6, 4, 2, 1, 0, 0, 1]) ws (vs) := ⟨nf_in hl rfl, sgq_422 (vc_Ne_join_at_Np_gk_1_0 (v_iv (n_v vs 1)) (v_iv (n_v vs 2)) (v_iv (n_v vs 3)) (v_iv (n_v vs 4)) (v_iv (n_v vs 5)) (w_fi ws (n_v vs 0) 6) (w_ei ws (w_ar ws (n_v vs 0) 7)) (w_ei ws (w_ar ws (n_v vs 0) 8)) (w_ei ws (w_ar ws (n_v vs 0) 9)) (w_fi ws (n_v vs 0) 5) k1 k2 k3 k4 k5 (shm_2 f0) g1 (shm_421 f2) (shm_418 f3) (shm_418 f4) (shm_419 f5) (shm_420 f6) hK_0_7 hK_0_8 hK_0_9 kz_0_5 kz_0_6)⟩
  refine ⟨(fun _ h => (by cases h)), [], trivial, ?_, (fun _ h => (by cases h))⟩
  rw [List.append_nil]
  exact List.forall_mem_cons.mpr ⟨⟨show (20 : Nat) < 100 from by decide, nf0⟩, (fun _ h => (by cases h))⟩
def n_Ne_join_at_Np_gk_an : List an_T := []
def t_Ne_join_at_Np_gk_ct : ct_L := []
set_option maxRecDepth 100000 in
theorem c_Ne_join_at_Np_gk {l : Launch} {D : va_G} {kA : Nat → ClassId} : ct_ok PRD l D kA GG y_Ne_join_at_Np_gk z_Ne_join_at_Np_gk e_Ne_join_at_Np_gk := chk_all_ok (FT := [(31, 5, 6), (34, 5, 7), (37, 5, 8), (40, 5, 9), (43, 5, 10)]) (PT := [(31, 5, 6, .int)]) (CT := t_Ne_join_at_Np_gk_ct) (KT := []) (NT := []) (AN := n_Ne_join_at_Np_gk_an) (OT := [o_Ne_join_at_Np_gk_0, o_Ne_join_at_Np_gk_1]) 0 260 (List.forall_mem_cons.mpr ⟨oo_Ne_join_at_Np_gk_0, List.forall_mem_cons.mpr ⟨oo_Ne_join_at_Np_gk_1, List.forall_mem_nil _⟩⟩) (by decide +kernel) ⟨List.forall_mem_cons.mpr ⟨gf_Ne_31, List.forall_mem_cons.mpr ⟨gf_Ne_34, List.forall_mem_cons.mpr ⟨gf_Ne_37, List.forall_mem_cons.mpr ⟨gf_Ne_40, List.forall_mem_cons.mpr ⟨gf_Ne_43, List.forall_mem_nil _⟩⟩⟩⟩⟩, List.forall_mem_cons.mpr ⟨pf_Ne_31, List.forall_mem_nil _⟩, List.forall_mem_nil _, List.forall_mem_nil _, List.forall_mem_nil _, GG_pl⟩ (by decide +kernel)
set_option maxHeartbeats 4000000 in
theorem vc_Pl_edgeOfLevel_0_0 (x1 : Int) (x2 : Int) (x6 : Int) (x7 : Int) (level_0 : Int → Int) (x_0o5 : Int → Int) (nodes_0o4 : Int) (k1 : 0 ≤ x1 ∧ x1 ≤ 16777215) (k2 : 0 ≤ x2 ∧ x2 ≤ 23) (k6 : (-2147483648) ≤ x6 ∧ x6 ≤ (-2147483648)) (k7 : 0 ≤ x7 ∧ x7 ≤ 0) (hK_0_4 : ∀ j : Int, 0 ≤ j → j < 24 → 0 ≤ level_0 j ∧ level_0 j ≤ 23) (hK_5_2 : ∀ j : Int, 0 ≤ j → j < 24 → (-40000000) ≤ x_0o5 j ∧ x_0o5 j ≤ 690000000) (kz_4_0 : 0 ≤ nodes_0o4 ∧ nodes_0o4 ≤ 24) : TQF (level_0) (x_0o5) (x1) (x2) (x6) (x7) := by
  first
    | exact tqf_start (by omega) (by omega)
    | (have q := bit_one (s := x1) (t := x15) (c := x17) (v := x11) (one := x16) (by assumption) (by assumption) (by omega) (by omega) (by omega) (by omega)
       first
         | exact tqf_skip ‹TQF _ _ _ _ _ _› (Or.inl (fun z => by have := q.mp z; omega)) (by omega)
         | exact tqf_skip ‹TQF _ _ _ _ _ _› (Or.inr (by omega)) (by omega)
         | exact tqf_keep ‹TQF _ _ _ _ _ _› (by omega) (by omega)
         | exact tqf_take (v := x11) (by omega) (q.mpr (by omega)) (by omega) (by omega) (by omega))
  
set_option maxHeartbeats 4000000 in
theorem vc_Pl_edgeOfLevel_0_3 (x1 : Int) (x2 : Int) (x6 : Int) (x7 : Int) (level_0 : Int → Int) (x_0o5 : Int → Int) (nodes_0o4 : Int) (k1 : 0 ≤ x1 ∧ x1 ≤ 16777215) (k2 : 0 ≤ x2 ∧ x2 ≤ 23) (k6 : (-2147483648) ≤ x6 ∧ x6 ≤ (-2147483648)) (k7 : 0 ≤ x7 ∧ x7 ≤ 0) (hK_0_4 : ∀ j : Int, 0 ≤ j → j < 24 → 0 ≤ level_0 j ∧ level_0 j ≤ 23) (hK_5_2 : ∀ j : Int, 0 ≤ j → j < 24 → (-40000000) ≤ x_0o5 j ∧ x_0o5 j ≤ 690000000) (kz_4_0 : 0 ≤ nodes_0o4 ∧ nodes_0o4 ≤ 24) : x7 ≤ nodes_0o4 := by
  first
    | omega
  
def o_Pl_edgeOfLevel_0 : or_T := (7, 8, [(0, (2, 0, 0, [6])), (1, (0, 0, 16777215, [])), (2, (0, 0, 23, [])), (4, (2, 0, 0, [3])), (5, (2, 0, 0, [0])), (6, (0, -2147483648, -2147483648, [])), (7, (0, 0, 0, []))], [], [], [], [(20, [0, 5, 1, 2, 6, 7], [60, 0, 2, 867, 4, 1002]), (24, [4, 4], []), (24, [5, 5], []), (20, [7, 4], [50, 1, 0, 1000, 0, 2, 1, 0, 2, 1, 0]), (24, [1, 1], []), (24, [2, 2], []), (24, [0, 0], []), (24, [1, 1], []), (24, [2, 2], [])], [], [])
theorem oo_Pl_edgeOfLevel_0 {kA : Nat → ClassId} : or_ok PRD kA GG o_Pl_edgeOfLevel_0 := by
  refine or_mk fun A ta ws vs hD hth hl => ?_
  intro t0 r0 t1 k1 t2 k2 t4 r4 t5 r5 t6 k6 t7 k7
  have cr_0_4 := fdq_90 hD hth r0
  have cr_5_2 := fdq_51 hD hth r5
  have hK_0_4 := elq_40 hD hth cr_0_4
  have hK_5_2 := elq_9 hD hth cr_5_2
  have kz_4_0 := fdq_23 hD hth r4
  have nf0 : fc_1 PRD (20, [0, 5, 1, 2, 6, 7], [60, 0, 2, 867, 4, 1002]) ws (vs) := ⟨nf_in hl rfl, sgq_423 (vc_Pl_edgeOfLevel_0_0 (v_iv (n_v vs 1)) (v_iv (n_v vs 2)) (v_iv (n_v vs 6)) (v_iv (n_v vs 7)) (w_ei ws (w_ar ws (n_v vs 0) 4)) (w_ei ws (w_ar ws (n_v vs 5) 2)) (w_fi ws (n_v vs 4) 0) k1 k2 k6 k7 hK_0_4 hK_5_2 kz_4_0)⟩
  have nf1 : fc_1 PRD (24, [4, 4], []) ws (vs) := by
    refine ⟨nf_in hl rfl, sgq_1 ?_⟩
    · show n_v vs 4 = n_v vs 4
      first | rfl | simp only [true_and]
  have nf2 : fc_1 PRD (24, [5, 5], []) ws (vs) := by
    refine ⟨nf_in hl rfl, sgq_1 ?_⟩
    · show n_v vs 5 = n_v vs 5
      first | rfl | simp only [true_and]
  have nf3 : fc_1 PRD (20, [7, 4], [50, 1, 0, 1000, 0, 2, 1, 0, 2, 1, 0]) ws (vs) := ⟨nf_in hl rfl, sgq_424 (vc_Pl_edgeOfLevel_0_3 (v_iv (n_v vs 1)) (v_iv (n_v vs 2)) (v_iv (n_v vs 6)) (v_iv (n_v vs 7)) (w_ei ws (w_ar ws (n_v vs 0) 4)) (w_ei ws (w_ar ws (n_v vs 5) 2)) (w_fi ws (n_v vs 4) 0) k1 k2 k6 k7 hK_0_4 hK_5_2 kz_4_0)⟩
  have nf4 : fc_1 PRD (24, [1, 1], []) ws (vs) := by
    refine ⟨nf_in hl rfl, sgq_1 ?_⟩
    · show n_v vs 1 = n_v vs 1
      first | rfl | simp only [true_and]
  have nf5 : fc_1 PRD (24, [2, 2], []) ws (vs) := by
    refine ⟨nf_in hl rfl, sgq_1 ?_⟩
    · show n_v vs 2 = n_v vs 2
      first | rfl | simp only [true_and]
  have nf6 : fc_1 PRD (24, [0, 0], []) ws (vs) := by
    refine ⟨nf_in hl rfl, sgq_1 ?_⟩
    · show n_v vs 0 = n_v vs 0
      first | rfl | simp only [true_and]
  have nf7 : fc_1 PRD (24, [1, 1], []) ws (vs) := by
    refine ⟨nf_in hl rfl, sgq_1 ?_⟩
    · show n_v vs 1 = n_v vs 1
      first | rfl | simp only [true_and]
  have nf8 : fc_1 PRD (24, [2, 2], []) ws (vs) := by
    refine ⟨nf_in hl rfl, sgq_1 ?_⟩
    · show n_v vs 2 = n_v vs 2
      first | rfl | simp only [true_and]
  refine ⟨(fun _ h => (by cases h)), [], trivial, ?_, (fun _ h => (by cases h))⟩
  rw [List.append_nil]
  exact List.forall_mem_cons.mpr ⟨⟨show (20 : Nat) < 100 from by decide, nf0⟩, List.forall_mem_cons.mpr ⟨⟨show (24 : Nat) < 100 from by decide, nf1⟩, List.forall_mem_cons.mpr ⟨⟨show (24 : Nat) < 100 from by decide, nf2⟩, List.forall_mem_cons.mpr ⟨⟨show (20 : Nat) < 100 from by decide, nf3⟩, List.forall_mem_cons.mpr ⟨⟨show (24 : Nat) < 100 from by decide, nf4⟩, List.forall_mem_cons.mpr ⟨⟨show (24 : Nat) < 100 from by decide, nf5⟩, List.forall_mem_cons.mpr ⟨⟨show (24 : Nat) < 100 from by decide, nf6⟩, List.forall_mem_cons.mpr ⟨⟨show (24 : Nat) < 100 from by decide, nf7⟩, List.forall_mem_cons.mpr ⟨⟨show (24 : Nat) < 100 from by decide, nf8⟩, (fun _ h => (by cases h))⟩⟩⟩⟩⟩⟩⟩⟩⟩
set_option maxHeartbeats 4000000 in
theorem vc_Pl_edgeOfLevel_1_0 (x1 : Int) (x2 : Int) (x7 : Int) (x8 : Int) (x10 : Int) (x11 : Int) (x14 : Int) (nodes_0o4 : Int) (level_0 : Int → Int) (x_0o5 : Int → Int) (k1 : 0 ≤ x1 ∧ x1 ≤ 16777215) (k2 : 0 ≤ x2 ∧ x2 ≤ 23) (k7 : 0 ≤ x7 ∧ x7 ≤ 16777215) (k8 : 0 ≤ x8 ∧ x8 ≤ 23) (k10 : (-2147483648) ≤ x10 ∧ x10 ≤ 690000000) (k11 : 0 ≤ x11 ∧ x11 ≤ 24) (k14 : 0 ≤ x14 ∧ x14 ≤ 24) (d0 : x14 + 0 ≤ x11 ∧ x11 ≤ x14 + 4294967296) (d1 : x7 + (-4294967296) ≤ x1 ∧ x1 ≤ x7 + 0) (d2 : x8 + (-4294967296) ≤ x2 ∧ x2 ≤ x8 + 0) (d3 : x1 + (-4294967296) ≤ x7 ∧ x7 ≤ x1 + 0) (d4 : x2 + (-4294967296) ≤ x8 ∧ x8 ≤ x2 + 0) (f0 : x14 ≤ x11) (g1 : x14 = nodes_0o4) (f2 : TQF (level_0) (x_0o5) (x1) (x2) (x10) (x11)) (f5 : x11 ≤ nodes_0o4) (hK_0_4 : ∀ j : Int, 0 ≤ j → j < 24 → 0 ≤ level_0 j ∧ level_0 j ≤ 23) (hK_5_2 : ∀ j : Int, 0 ≤ j → j < 24 → (-40000000) ≤ x_0o5 j ∧ x_0o5 j ≤ 690000000) (kz_4_0 : 0 ≤ nodes_0o4 ∧ nodes_0o4 ≤ 24) : TQE (nodes_0o4) (level_0) (x_0o5) (x1) (x2) (x10) := by
  first
    | exact tqe_of ‹TQF _ _ _ _ _ _› (by omega)
  
def o_Pl_edgeOfLevel_1 : or_T := (91, 15, [(0, (2, 0, 0, [6])), (1, (0, 0, 16777215, [])), (2, (0, 0, 23, [])), (4, (2, 0, 0, [3])), (5, (2, 0, 0, [0])), (7, (0, 0, 16777215, [])), (8, (0, 0, 23, [])), (10, (0, -2147483648, 690000000, [])), (11, (0, 0, 24, [])), (14, (0, 0, 24, []))], [(7, [11, 14], [3]), (9, [14, 12], [0]), (20, [6, 13, 7, 8, 10, 11], [60, 0, 2, 867, 4, 1002]), (24, [4, 12], []), (24, [5, 13], []), (20, [11, 12], [50, 1, 0, 1000, 0, 2, 1, 0, 2, 1, 0]), (24, [1, 7], []), (24, [2, 8], []), (24, [0, 6], [])], [], [], [(20, [0, 4, 5, 1, 2, 10], [60, 1, 2, 868, 1000, 4, 2002])], [], [(11, 14, 0, 4294967296), (1, 7, -4294967296, 0), (2, 8, -4294967296, 0), (7, 1, -4294967296, 0), (8, 2, -4294967296, 0)])
theorem oo_Pl_edgeOfLevel_1 {kA : Nat → ClassId} : or_ok PRD kA GG o_Pl_edgeOfLevel_1 := by
  refine or_mk fun A ta ws vs hD hth hl => ?_
  intro t0 r0 t1 k1 t2 k2 t4 r4 t5 r5 t7 k7 t8 k8 t10 k10 t11 k11 t14 k14 d0 d1 d2 d3 d4 f0 f1 f2 f3 f4 f5 f6 f7 f8
  replace f1 := shm_175 f1
  replace f2 := shm_423 f2
  replace f3 := shm_5 f3
  replace f4 := shm_5 f4
  replace f5 := shm_424 f5
  replace f6 := shm_5 f6
  replace f7 := shm_5 f7
  replace f8 := shm_5 f8
  have q12 : n_v vs 12 = n_v vs 4 := f3.symm
  have q13 : n_v vs 13 = n_v vs 5 := f4.symm
  have q7 : n_v vs 7 = n_v vs 1 := f6.symm
  have q8 : n_v vs 8 = n_v vs 2 := f7.symm
  have q6 : n_v vs 6 = n_v vs 0 := f8.symm
  simp only [q12, q13, q7, q8, q6] at f1 f2 f5
  have cr_0_4 := fdq_90 hD hth r0
  have cr_5_2 := fdq_51 hD hth r5
  have g1 : v_iv (n_v vs 14) = w_fi ws (n_v vs 4) 0 := congrArg v_iv f1
  have hK_0_4 := elq_40 hD hth cr_0_4
  have hK_5_2 := elq_9 hD hth cr_5_2
  have kz_4_0 := fdq_23 hD hth r4
  have nf0 : fc_1 PRD (20, [0, 4, 5, 1, 2, 10], [60, 1, 2, 868, 1000, 4, 2002]) ws (vs) := ⟨nf_in hl rfl, sgq_425 (vc_Pl_edgeOfLevel_1_0 (v_iv (n_v vs 1)) (v_iv (n_v vs 2)) (v_iv (n_v vs 7)) (v_iv (n_v vs 8)) (v_iv (n_v vs 10)) (v_iv (n_v vs 11)) (v_iv (n_v vs 14)) (w_fi ws (n_v vs 4) 0) (w_ei ws (w_ar ws (n_v vs 0) 4)) (w_ei ws (w_ar ws (n_v vs 5) 2)) k1 k2 k7 k8 k10 k11 k14 d0 d1 d2 d3 d4 (shm_2 f0) g1 f2 f5 hK_0_4 hK_5_2 kz_4_0)⟩
  refine ⟨(fun _ h => (by cases h)), [], trivial, ?_, (fun _ h => (by cases h))⟩
  rw [List.append_nil]
  exact List.forall_mem_cons.mpr ⟨⟨show (20 : Nat) < 100 from by decide, nf0⟩, (fun _ h => (by cases h))⟩
set_option maxHeartbeats 4000000 in
theorem vc_Pl_edgeOfLevel_2_0 (x1 : Int) (x2 : Int) (x7 : Int) (x8 : Int) (x10 : Int) (x11 : Int) (x14 : Int) (x15 : Int) (x16 : Int) (x17 : Int) (x18 : Int) (nodes_0o4 : Int) (level_0 : Int → Int) (x_0o5 : Int → Int) (k1 : 0 ≤ x1 ∧ x1 ≤ 16777215) (k2 : 0 ≤ x2 ∧ x2 ≤ 23) (k7 : 0 ≤ x7 ∧ x7 ≤ 16777215) (k8 : 0 ≤ x8 ∧ x8 ≤ 23) (k10 : (-2147483648) ≤ x10 ∧ x10 ≤ 690000000) (k11 : 0 ≤ x11 ∧ x11 ≤ 23) (k14 : 1 ≤ x14 ∧ x14 ≤ 24) (k15 : 0 ≤ x15 ∧ x15 ≤ 16777215) (k16 : 1 ≤ x16 ∧ x16 ≤ 1) (k17 : 0 ≤ x17 ∧ x17 ≤ 0) (k18 : 1 ≤ x18 ∧ x18 ≤ 24) (d0 : x11 + 1 ≤ x18 ∧ x18 ≤ x11 + 1) (d1 : x14 + (-4294967296) ≤ x18 ∧ x18 ≤ x14 + 0) (d2 : x14 + (-4294967296) ≤ x11 ∧ x11 ≤ x14 + (-1)) (d3 : x7 + (-4294967296) ≤ x1 ∧ x1 ≤ x7 + 0) (d4 : x8 + (-4294967296) ≤ x2 ∧ x2 ≤ x8 + 0) (d5 : x1 + (-4294967296) ≤ x7 ∧ x7 ≤ x1 + 0) (d6 : x2 + (-4294967296) ≤ x8 ∧ x8 ≤ x2 + 0) (f0 : x18 = x11 + 1) (f1 : x17 = 0) (f2 : x17 = x15 % 2) (f3 : bvp (x17) = bvp (x15) &&& bvp (x16)) (f4 : bvp (x15) = bvp (x1) >>> (x11).toNat) (f5 : x11 < x14) (g6 : x14 = nodes_0o4) (f7 : TQF (level_0) (x_0o5) (x1) (x2) (x10) (x11)) (f10 : x11 ≤ nodes_0o4) (hK_0_4 : ∀ j : Int, 0 ≤ j → j < 24 → 0 ≤ level_0 j ∧ level_0 j ≤ 23) (hK_5_2 : ∀ j : Int, 0 ≤ j → j < 24 → (-40000000) ≤ x_0o5 j ∧ x_0o5 j ≤ 690000000) (kz_4_0 : 0 ≤ nodes_0o4 ∧ nodes_0o4 ≤ 24) : TQF (level_0) (x_0o5) (x1) (x2) (x10) (x18) := by
  first
    | exact tqf_start (by omega) (by omega)
    | (have q := bit_one (s := x1) (t := x15) (c := x17) (v := x11) (one := x16) (by assumption) (by assumption) (by omega) (by omega) (by omega) (by omega)
       first
         | exact tqf_skip ‹TQF _ _ _ _ _ _› (Or.inl (fun z => by have := q.mp z; omega)) (by omega)
         | exact tqf_skip ‹TQF _ _ _ _ _ _› (Or.inr (by omega)) (by omega)
         | exact tqf_keep ‹TQF _ _ _ _ _ _› (by omega) (by omega)
         | exact tqf_take (v := x11) (by omega) (q.mpr (by omega)) (by omega) (by omega) (by omega))
  
set_option maxHeartbeats 4000000 in
theorem vc_Pl_edgeOfLevel_2_1 (x1 : Int) (x2 : Int) (x7 : Int) (x8 : Int) (x10 : Int) (x11 : Int) (x14 : Int) (x15 : Int) (x16 : Int) (x17 : Int) (x18 : Int) (nodes_0o4 : Int) (level_0 : Int → Int) (x_0o5 : Int → Int) (k1 : 0 ≤ x1 ∧ x1 ≤ 16777215) (k2 : 0 ≤ x2 ∧ x2 ≤ 23) (k7 : 0 ≤ x7 ∧ x7 ≤ 16777215) (k8 : 0 ≤ x8 ∧ x8 ≤ 23) (k10 : (-2147483648) ≤ x10 ∧ x10 ≤ 690000000) (k11 : 0 ≤ x11 ∧ x11 ≤ 23) (k14 : 1 ≤ x14 ∧ x14 ≤ 24) (k15 : 0 ≤ x15 ∧ x15 ≤ 16777215) (k16 : 1 ≤ x16 ∧ x16 ≤ 1) (k17 : 0 ≤ x17 ∧ x17 ≤ 0) (k18 : 1 ≤ x18 ∧ x18 ≤ 24) (d0 : x11 + 1 ≤ x18 ∧ x18 ≤ x11 + 1) (d1 : x14 + (-4294967296) ≤ x18 ∧ x18 ≤ x14 + 0) (d2 : x14 + (-4294967296) ≤ x11 ∧ x11 ≤ x14 + (-1)) (d3 : x7 + (-4294967296) ≤ x1 ∧ x1 ≤ x7 + 0) (d4 : x8 + (-4294967296) ≤ x2 ∧ x2 ≤ x8 + 0) (d5 : x1 + (-4294967296) ≤ x7 ∧ x7 ≤ x1 + 0) (d6 : x2 + (-4294967296) ≤ x8 ∧ x8 ≤ x2 + 0) (f0 : x18 = x11 + 1) (f1 : x17 = 0) (f2 : x17 = x15 % 2) (f3 : bvp (x17) = bvp (x15) &&& bvp (x16)) (f4 : bvp (x15) = bvp (x1) >>> (x11).toNat) (f5 : x11 < x14) (g6 : x14 = nodes_0o4) (f7 : TQF (level_0) (x_0o5) (x1) (x2) (x10) (x11)) (f10 : x11 ≤ nodes_0o4) (hK_0_4 : ∀ j : Int, 0 ≤ j → j < 24 → 0 ≤ level_0 j ∧ level_0 j ≤ 23) (hK_5_2 : ∀ j : Int, 0 ≤ j → j < 24 → (-40000000) ≤ x_0o5 j ∧ x_0o5 j ≤ 690000000) (kz_4_0 : 0 ≤ nodes_0o4 ∧ nodes_0o4 ≤ 24) : x18 ≤ nodes_0o4 := by
  first
    | omega
  
def o_Pl_edgeOfLevel_2 : or_T := (7, 19, [(0, (2, 0, 0, [6])), (1, (0, 0, 16777215, [])), (2, (0, 0, 23, [])), (4, (2, 0, 0, [3])), (5, (2, 0, 0, [0])), (7, (0, 0, 16777215, [])), (8, (0, 0, 23, [])), (10, (0, -2147483648, 690000000, [])), (11, (0, 0, 23, [])), (14, (0, 1, 24, [])), (15, (0, 0, 16777215, [])), (16, (0, 1, 1, [])), (17, (0, 0, 0, [])), (18, (0, 1, 24, []))], [(6, [18, 11], [1]), (8, [17], [0]), (12, [17, 15], [2]), (16, [17, 15, 16], [0]), (16, [15, 7, 11], [4]), (7, [11, 14], [2]), (9, [14, 12], [0]), (20, [6, 13, 7, 8, 10, 11], [60, 0, 2, 867, 4, 1002]), (24, [4, 12], []), (24, [5, 13], []), (20, [11, 12], [50, 1, 0, 1000, 0, 2, 1, 0, 2, 1, 0]), (24, [1, 7], []), (24, [2, 8], []), (24, [0, 6], [])], [], [], [(20, [6, 13, 7, 8, 10, 18], [60, 0, 2, 867, 4, 1002]), (20, [18, 12], [50, 1, 0, 1000, 0, 2, 1, 0, 2, 1, 0])], [], [(18, 11, 1, 1), (18, 14, -4294967296, 0), (11, 14, -4294967296, -1), (1, 7, -4294967296, 0), (2, 8, -4294967296, 0), (7, 1, -4294967296, 0), (8, 2, -4294967296, 0)])
theorem oo_Pl_edgeOfLevel_2 {kA : Nat → ClassId} : or_ok PRD kA GG o_Pl_edgeOfLevel_2 := by
  refine or_mk fun A ta ws vs hD hth hl => ?_
  intro t0 r0 t1 k1 t2 k2 t4 r4 t5 r5 t7 k7 t8 k8 t10 k10 t11 k11 t14 k14 t15 k15 t16 k16 t17 k17 t18 k18 d0 d1 d2 d3 d4 d5 d6 f0 f1 f2 f3 f4 f5 f6 f7 f8 f9 f10 f11 f12 f13
  replace f0 := shm_4 f0
  replace f1 := shm_210 f1
  replace f2 := shm_382 f2
  replace f3 := shm_11 f3
  replace f4 := shm_13 f4
  replace f5 := shm_6 f5
  replace f6 := shm_175 f6
  replace f7 := shm_423 f7
  replace f8 := shm_5 f8
  replace f9 := shm_5 f9
  replace f10 := shm_424 f10
  replace f11 := shm_5 f11
  replace f12 := shm_5 f12
  replace f13 := shm_5 f13
  have q12 : n_v vs 12 = n_v vs 4 := f8.symm
  have q13 : n_v vs 13 = n_v vs 5 := f9.symm
  have q7 : n_v vs 7 = n_v vs 1 := f11.symm
  have q8 : n_v vs 8 = n_v vs 2 := f12.symm
  have q6 : n_v vs 6 = n_v vs 0 := f13.symm
  simp only [q7, q12, q13, q8, q6] at f4 f6 f7 f10
  have cr_0_4 := fdq_90 hD hth r0
  have cr_5_2 := fdq_51 hD hth r5
  have g6 : v_iv (n_v vs 14) = w_fi ws (n_v vs 4) 0 := congrArg v_iv f6
  have hK_0_4 := elq_40 hD hth cr_0_4
  have hK_5_2 := elq_9 hD hth cr_5_2
  have kz_4_0 := fdq_23 hD hth r4
  have nf0 : fc_1 PRD (20, [6, 13, 7, 8, 10, 18], [60, 0, 2, 867, 4, 1002]) ws (vs) := by
    refine ⟨nf_in hl rfl, sgq_423 ?_⟩
    · show TQF (w_ei ws (w_ar ws (n_v vs 6) 4)) (w_ei ws (w_ar ws (n_v vs 13) 2)) (v_iv (n_v vs 7)) (v_iv (n_v vs 8)) (v_iv (n_v vs 10)) (v_iv (n_v vs 18))
      simp only [q13, q7, q8, q6]
      exact vc_Pl_edgeOfLevel_2_0 (v_iv (n_v vs 1)) (v_iv (n_v vs 2)) (v_iv (n_v vs 7)) (v_iv (n_v vs 8)) (v_iv (n_v vs 10)) (v_iv (n_v vs 11)) (v_iv (n_v vs 14)) (v_iv (n_v vs 15)) (v_iv (n_v vs 16)) (v_iv (n_v vs 17)) (v_iv (n_v vs 18)) (w_fi ws (n_v vs 4) 0) (w_ei ws (w_ar ws (n_v vs 0) 4)) (w_ei ws (w_ar ws (n_v vs 5) 2)) k1 k2 k7 k8 k10 k11 k14 k15 k16 k17 k18 d0 d1 d2 d3 d4 d5 d6 f0 f1 f2 f3 f4 f5 g6 f7 f10 hK_0_4 hK_5_2 kz_4_0
  have nf1 : fc_1 PRD (20, [18, 12], [50, 1, 0, 1000, 0, 2, 1, 0, 2, 1, 0]) ws (vs) := by
    refine ⟨nf_in hl rfl, sgq_424 ?_⟩
    · show v_iv (n_v vs 18) ≤ w_fi ws (n_v vs 12) 0
      rw [q12]
      exact vc_Pl_edgeOfLevel_2_1 (v_iv (n_v vs 1)) (v_iv (n_v vs 2)) (v_iv (n_v vs 7)) (v_iv (n_v vs 8)) (v_iv (n_v vs 10)) (v_iv (n_v vs 11)) (v_iv (n_v vs 14)) (v_iv (n_v vs 15)) (v_iv (n_v vs 16)) (v_iv (n_v vs 17)) (v_iv (n_v vs 18)) (w_fi ws (n_v vs 4) 0) (w_ei ws (w_ar ws (n_v vs 0) 4)) (w_ei ws (w_ar ws (n_v vs 5) 2)) k1 k2 k7 k8 k10 k11 k14 k15 k16 k17 k18 d0 d1 d2 d3 d4 d5 d6 f0 f1 f2 f3 f4 f5 g6 f7 f10 hK_0_4 hK_5_2 kz_4_0
  refine ⟨(fun _ h => (by cases h)), [], trivial, ?_, (fun _ h => (by cases h))⟩
  rw [List.append_nil]
  exact List.forall_mem_cons.mpr ⟨⟨show (20 : Nat) < 100 from by decide, nf0⟩, List.forall_mem_cons.mpr ⟨⟨show (20 : Nat) < 100 from by decide, nf1⟩, (fun _ h => (by cases h))⟩⟩
set_option maxHeartbeats 4000000 in
theorem vc_Pl_edgeOfLevel_3_0 (x1 : Int) (x2 : Int) (x7 : Int) (x8 : Int) (x10 : Int) (x11 : Int) (x14 : Int) (x15 : Int) (x16 : Int) (x17 : Int) (x19 : Int) (x20 : Int) (level_0 : Int → Int) (nodes_0o4 : Int) (x_0o5 : Int → Int) (k1 : 0 ≤ x1 ∧ x1 ≤ 16777215) (k2 : 0 ≤ x2 ∧ x2 ≤ 23) (k7 : 0 ≤ x7 ∧ x7 ≤ 16777215) (k8 : 0 ≤ x8 ∧ x8 ≤ 23) (k10 : (-2147483648) ≤ x10 ∧ x10 ≤ 690000000) (k11 : 0 ≤ x11 ∧ x11 ≤ 23) (k14 : 1 ≤ x14 ∧ x14 ≤ 24) (k15 : 0 ≤ x15 ∧ x15 ≤ 16777215) (k16 : 1 ≤ x16 ∧ x16 ≤ 1) (k17 : 1 ≤ x17 ∧ x17 ≤ 1) (k19 : 0 ≤ x19 ∧ x19 ≤ 23) (k20 : 1 ≤ x20 ∧ x20 ≤ 24) (d0 : x11 + 1 ≤ x20 ∧ x20 ≤ x11 + 1) (d1 : x14 + (-4294967296) ≤ x20 ∧ x20 ≤ x14 + 0) (d2 : x14 + (-4294967296) ≤ x11 ∧ x11 ≤ x14 + (-1)) (d3 : x7 + (-4294967296) ≤ x1 ∧ x1 ≤ x7 + 0) (d4 : x8 + (-4294967296) ≤ x2 ∧ x2 ≤ x8 + 0) (d5 : x1 + (-4294967296) ≤ x7 ∧ x7 ≤ x1 + 0) (d6 : x2 + (-4294967296) ≤ x8 ∧ x8 ≤ x2 + 0) (f0 : x20 = x11 + 1) (f1 : x19 ≠ x2) (h2 : x19 = level_0 (x11)) (f4 : x17 ≠ 0) (f5 : x17 = x15 % 2) (f6 : bvp (x17) = bvp (x15) &&& bvp (x16)) (f7 : bvp (x15) = bvp (x1) >>> (x11).toNat) (f8 : x11 < x14) (g9 : x14 = nodes_0o4) (f10 : TQF (level_0) (x_0o5) (x1) (x2) (x10) (x11)) (f13 : x11 ≤ nodes_0o4) (hK_0_4 : ∀ j : Int, 0 ≤ j → j < 24 → 0 ≤ level_0 j ∧ level_0 j ≤ 23) (hK_5_2 : ∀ j : Int, 0 ≤ j → j < 24 → (-40000000) ≤ x_0o5 j ∧ x_0o5 j ≤ 690000000) (kz_4_0 : 0 ≤ nodes_0o4 ∧ nodes_0o4 ≤ 24) : TQF (level_0) (x_0o5) (x1) (x2) (x10) (x20) := by
  first
    | exact tqf_start (by omega) (by omega)
    | (have q := bit_one (s := x1) (t := x15) (c := x17) (v := x11) (one := x16) (by assumption) (by assumption) (by omega) (by omega) (by omega) (by omega)
       first
         | exact tqf_skip ‹TQF _ _ _ _ _ _› (Or.inl (fun z => by have := q.mp z; omega)) (by omega)
         | exact tqf_skip ‹TQF _ _ _ _ _ _› (Or.inr (by omega)) (by omega)
         | exact tqf_keep ‹TQF _ _ _ _ _ _› (by omega) (by omega)
         | exact tqf_take (v := x11) (by omega) (q.mpr (by omega)) (by omega) (by omega) (by omega))
  
set_option maxHeartbeats 4000000 in
theorem vc_Pl_edgeOfLevel_3_1 (x1 : Int) (x2 : Int) (x7 : Int) (x8 : Int) (x10 : Int) (x11 : Int) (x14 : Int) (x15 : Int) (x16 : Int) (x17 : Int) (x19 : Int) (x20 : Int) (level_0 : Int → Int) (nodes_0o4 : Int) (x_0o5 : Int → Int) (k1 : 0 ≤ x1 ∧ x1 ≤ 16777215) (k2 : 0 ≤ x2 ∧ x2 ≤ 23) (k7 : 0 ≤ x7 ∧ x7 ≤ 16777215) (k8 : 0 ≤ x8 ∧ x8 ≤ 23) (k10 : (-2147483648) ≤ x10 ∧ x10 ≤ 690000000) (k11 : 0 ≤ x11 ∧ x11 ≤ 23) (k14 : 1 ≤ x14 ∧ x14 ≤ 24) (k15 : 0 ≤ x15 ∧ x15 ≤ 16777215) (k16 : 1 ≤ x16 ∧ x16 ≤ 1) (k17 : 1 ≤ x17 ∧ x17 ≤ 1) (k19 : 0 ≤ x19 ∧ x19 ≤ 23) (k20 : 1 ≤ x20 ∧ x20 ≤ 24) (d0 : x11 + 1 ≤ x20 ∧ x20 ≤ x11 + 1) (d1 : x14 + (-4294967296) ≤ x20 ∧ x20 ≤ x14 + 0) (d2 : x14 + (-4294967296) ≤ x11 ∧ x11 ≤ x14 + (-1)) (d3 : x7 + (-4294967296) ≤ x1 ∧ x1 ≤ x7 + 0) (d4 : x8 + (-4294967296) ≤ x2 ∧ x2 ≤ x8 + 0) (d5 : x1 + (-4294967296) ≤ x7 ∧ x7 ≤ x1 + 0) (d6 : x2 + (-4294967296) ≤ x8 ∧ x8 ≤ x2 + 0) (f0 : x20 = x11 + 1) (f1 : x19 ≠ x2) (h2 : x19 = level_0 (x11)) (f4 : x17 ≠ 0) (f5 : x17 = x15 % 2) (f6 : bvp (x17) = bvp (x15) &&& bvp (x16)) (f7 : bvp (x15) = bvp (x1) >>> (x11).toNat) (f8 : x11 < x14) (g9 : x14 = nodes_0o4) (f10 : TQF (level_0) (x_0o5) (x1) (x2) (x10) (x11)) (f13 : x11 ≤ nodes_0o4) (hK_0_4 : ∀ j : Int, 0 ≤ j → j < 24 → 0 ≤ level_0 j ∧ level_0 j ≤ 23) (hK_5_2 : ∀ j : Int, 0 ≤ j → j < 24 → (-40000000) ≤ x_0o5 j ∧ x_0o5 j ≤ 690000000) (kz_4_0 : 0 ≤ nodes_0o4 ∧ nodes_0o4 ≤ 24) : x20 ≤ nodes_0o4 := by
  first
    | omega
  
def o_Pl_edgeOfLevel_3 : or_T := (7, 21, [(0, (2, 0, 0, [6])), (1, (0, 0, 16777215, [])), (2, (0, 0, 23, [])), (4, (2, 0, 0, [3])), (5, (2, 0, 0, [0])), (7, (0, 0, 16777215, [])), (8, (0, 0, 23, [])), (10, (0, -2147483648, 690000000, [])), (11, (0, 0, 23, [])), (14, (0, 1, 24, [])), (15, (0, 0, 16777215, [])), (16, (0, 1, 1, [])), (17, (0, 1, 1, [])), (19, (0, 0, 23, [])), (20, (0, 1, 24, []))], [(6, [20, 11], [1]), (7, [19, 8], [1]), (10, [19, 18, 11], []), (9, [18, 6], [4]), (8, [17], [1]), (12, [17, 15], [2]), (16, [17, 15, 16], [0]), (16, [15, 7, 11], [4]), (7, [11, 14], [2]), (9, [14, 12], [0]), (20, [6, 13, 7, 8, 10, 11], [60, 0, 2, 867, 4, 1002]), (24, [4, 12], []), (24, [5, 13], []), (20, [11, 12], [50, 1, 0, 1000, 0, 2, 1, 0, 2, 1, 0]), (24, [1, 7], []), (24, [2, 8], []), (24, [0, 6], [])], [], [], [(20, [6, 13, 7, 8, 10, 20], [60, 0, 2, 867, 4, 1002]), (20, [20, 12], [50, 1, 0, 1000, 0, 2, 1, 0, 2, 1, 0])], [], [(20, 11, 1, 1), (20, 14, -4294967296, 0), (11, 14, -4294967296, -1), (1, 7, -4294967296, 0), (2, 8, -4294967296, 0), (7, 1, -4294967296, 0), (8, 2, -4294967296, 0)])
theorem oo_Pl_edgeOfLevel_3 {kA : Nat → ClassId} : or_ok PRD kA GG o_Pl_edgeOfLevel_3 := by
  refine or_mk fun A ta ws vs hD hth hl => ?_
  intro t0 r0 t1 k1 t2 k2 t4 r4 t5 r5 t7 k7 t8 k8 t10 k10 t11 k11 t14 k14 t15 k15 t16 k16 t17 k17 t19 k19 t20 k20 d0 d1 d2 d3 d4 d5 d6 f0 f1 f2 f3 f4 f5 f6 f7 f8 f9 f10 f11 f12 f13 f14 f15 f16
  replace f0 := shm_4 f0
  replace f1 := shm_40 f1
  replace f2 := shm_106 f2
  replace f3 := shm_107 f3
  replace f4 := shm_154 f4
  replace f5 := shm_382 f5
  replace f6 := shm_11 f6
  replace f7 := shm_13 f7
  replace f8 := shm_6 f8
  replace f9 := shm_175 f9
  replace f10 := shm_423 f10
  replace f11 := shm_5 f11
  replace f12 := shm_5 f12
  replace f13 := shm_424 f13
  replace f14 := shm_5 f14
  replace f15 := shm_5 f15
  replace f16 := shm_5 f16
  have q12 : n_v vs 12 = n_v vs 4 := f11.symm
  have q13 : n_v vs 13 = n_v vs 5 := f12.symm
  have q7 : n_v vs 7 = n_v vs 1 := f14.symm
  have q8 : n_v vs 8 = n_v vs 2 := f15.symm
  have q6 : n_v vs 6 = n_v vs 0 := f16.symm
  simp only [q8, q6, q7, q12, q13] at f1 f3 f7 f9 f10 f13
  have cr_0_4 := fdq_90 hD hth r0
  have cr_5_2 := fdq_51 hD hth r5
  have ad_18 : v_ad (n_v vs 18) = w_ar ws (n_v vs 0) 4 := congrArg v_ad f3
  simp only [ad_18] at f2
  have h2 : v_iv (n_v vs 19) = w_ei ws (w_ar ws (n_v vs 0) 4) (v_iv (n_v vs 11)) := f2
  have g9 : v_iv (n_v vs 14) = w_fi ws (n_v vs 4) 0 := congrArg v_iv f9
  have hK_0_4 := elq_40 hD hth cr_0_4
  have hK_5_2 := elq_9 hD hth cr_5_2
  have kz_4_0 := fdq_23 hD hth r4
  have nf0 : fc_1 PRD (20, [6, 13, 7, 8, 10, 20], [60, 0, 2, 867, 4, 1002]) ws (vs) := by
    refine ⟨nf_in hl rfl, sgq_423 ?_⟩
    · show TQF (w_ei ws (w_ar ws (n_v vs 6) 4)) (w_ei ws (w_ar ws (n_v vs 13) 2)) (v_iv (n_v vs 7)) (v_iv (n_v vs 8)) (v_iv (n_v vs 10)) (v_iv (n_v vs 20))
      simp only [q13, q7, q8, q6]
      exact vc_Pl_edgeOfLevel_3_0 (v_iv (n_v vs 1)) (v_iv (n_v vs 2)) (v_iv (n_v vs 7)) (v_iv (n_v vs 8)) (v_iv (n_v vs 10)) (v_iv (n_v vs 11)) (v_iv (n_v vs 14)) (v_iv (n_v vs 15)) (v_iv (n_v vs 16)) (v_iv (n_v vs 17)) (v_iv (n_v vs 19)) (v_iv (n_v vs 20)) (w_ei ws (w_ar ws (n_v vs 0) 4)) (w_fi ws (n_v vs 4) 0) (w_ei ws (w_ar ws (n_v vs 5) 2)) k1 k2 k7 k8 k10 k11 k14 k15 k16 k17 k19 k20 d0 d1 d2 d3 d4 d5 d6 f0 f1 h2 f4 f5 f6 f7 f8 g9 f10 f13 hK_0_4 hK_5_2 kz_4_0
  have nf1 : fc_1 PRD (20, [20, 12], [50, 1, 0, 1000, 0, 2, 1, 0, 2, 1, 0]) ws (vs) := by
    refine ⟨nf_in hl rfl, sgq_424 ?_⟩
    · show v_iv (n_v vs 20) ≤ w_fi ws (n_v vs 12) 0
      rw [q12]
      exact vc_Pl_edgeOfLevel_3_1 (v_iv (n_v vs 1)) (v_iv (n_v vs 2)) (v_iv (n_v vs 7)) (v_iv (n_v vs 8)) (v_iv (n_v vs 10)) (v_iv (n_v vs 11)) (v_iv (n_v vs 14)) (v_iv (n_v vs 15)) (v_iv (n_v vs 16)) (v_iv (n_v vs 17)) (v_iv (n_v vs 19)) (v_iv (n_v vs 20)) (w_ei ws (w_ar ws (n_v vs 0) 4)) (w_fi ws (n_v vs 4) 0) (w_ei ws (w_ar ws (n_v vs 5) 2)) k1 k2 k7 k8 k10 k11 k14 k15 k16 k17 k19 k20 d0 d1 d2 d3 d4 d5 d6 f0 f1 h2 f4 f5 f6 f7 f8 g9 f10 f13 hK_0_4 hK_5_2 kz_4_0
  refine ⟨(fun _ h => (by cases h)), [], trivial, ?_, (fun _ h => (by cases h))⟩
  rw [List.append_nil]
  exact List.forall_mem_cons.mpr ⟨⟨show (20 : Nat) < 100 from by decide, nf0⟩, List.forall_mem_cons.mpr ⟨⟨show (20 : Nat) < 100 from by decide, nf1⟩, (fun _ h => (by cases h))⟩⟩
set_option maxHeartbeats 4000000 in
theorem vc_Pl_edgeOfLevel_4_0 (x1 : Int) (x2 : Int) (x7 : Int) (x8 : Int) (x10 : Int) (x11 : Int) (x14 : Int) (x15 : Int) (x16 : Int) (x17 : Int) (x19 : Int) (x21 : Int) (x22 : Int) (x23 : Int) (x_0o5 : Int → Int) (level_0 : Int → Int) (nodes_0o4 : Int) (k1 : 0 ≤ x1 ∧ x1 ≤ 16777215) (k2 : 0 ≤ x2 ∧ x2 ≤ 23) (k7 : 0 ≤ x7 ∧ x7 ≤ 16777215) (k8 : 0 ≤ x8 ∧ x8 ≤ 23) (k10 : (-2147483648) ≤ x10 ∧ x10 ≤ (-2147483648)) (k11 : 0 ≤ x11 ∧ x11 ≤ 23) (k14 : 1 ≤ x14 ∧ x14 ≤ 24) (k15 : 0 ≤ x15 ∧ x15 ≤ 16777215) (k16 : 1 ≤ x16 ∧ x16 ≤ 1) (k17 : 1 ≤ x17 ∧ x17 ≤ 1) (k19 : 0 ≤ x19 ∧ x19 ≤ 23) (k21 : (-40000000) ≤ x21 ∧ x21 ≤ 690000000) (k22 : (-2147483648) ≤ x22 ∧ x22 ≤ (-2147483648)) (k23 : 1 ≤ x23 ∧ x23 ≤ 24) (d0 : x11 + 1 ≤ x23 ∧ x23 ≤ x11 + 1) (d1 : x14 + (-4294967296) ≤ x23 ∧ x23 ≤ x14 + 0) (d2 : x8 + 0 ≤ x19 ∧ x19 ≤ x8 + 0) (d3 : x14 + (-4294967296) ≤ x11 ∧ x11 ≤ x14 + (-1)) (d4 : x7 + (-4294967296) ≤ x1 ∧ x1 ≤ x7 + 0) (d5 : x8 + (-4294967296) ≤ x2 ∧ x2 ≤ x8 + 0) (d6 : x1 + (-4294967296) ≤ x7 ∧ x7 ≤ x1 + 0) (d7 : x2 + (-4294967296) ≤ x8 ∧ x8 ≤ x2 + 0) (f0 : x23 = x11 + 1) (f1 : x10 = x22) (h2 : x21 = x_0o5 (x11)) (f4 : x19 = x2) (h5 : x19 = level_0 (x11)) (f7 : x17 ≠ 0) (f8 : x17 = x15 % 2) (f9 : bvp (x17) = bvp (x15) &&& bvp (x16)) (f10 : bvp (x15) = bvp (x1) >>> (x11).toNat) (f11 : x11 < x14) (g12 : x14 = nodes_0o4) (f13 : TQF (level_0) (x_0o5) (x1) (x2) (x10) (x11)) (f16 : x11 ≤ nodes_0o4) (hK_0_4 : ∀ j : Int, 0 ≤ j → j < 24 → 0 ≤ level_0 j ∧ level_0 j ≤ 23) (hK_5_2 : ∀ j : Int, 0 ≤ j → j < 24 → (-40000000) ≤ x_0o5 j ∧ x_0o5 j ≤ 690000000) (kz_4_0 : 0 ≤ nodes_0o4 ∧ nodes_0o4 ≤ 24) : TQF (level_0) (x_0o5) (x1) (x2) (x21) (x23) := by
  first
    | exact tqf_start (by omega) (by omega)
    | (have q := bit_one (s := x1) (t := x15) (c := x17) (v := x11) (one := x16) (by assumption) (by assumption) (by omega) (by omega) (by omega) (by omega)
       first
         | exact tqf_skip ‹TQF _ _ _ _ _ _› (Or.inl (fun z => by have := q.mp z; omega)) (by omega)
         | exact tqf_skip ‹TQF _ _ _ _ _ _› (Or.inr (by omega)) (by omega)
         | exact tqf_keep ‹TQF _ _ _ _ _ _› (by omega) (by omega)
         | exact tqf_take (v := x11) (by omega) (q.mpr (by omega)) (by omega) (by omega) (by omega))
  
set_option maxHeartbeats 4000000 in
theorem vc_Pl_edgeOfLevel_4_1 (x1 : Int) (x2 : Int) (x7 : Int) (x8 : Int) (x10 : Int) (x11 : Int) (x14 : Int) (x15 : Int) (x16 : Int) (x17 : Int) (x19 : Int) (x21 : Int) (x22 : Int) (x23 : Int) (x_0o5 : Int → Int) (level_0 : Int → Int) (nodes_0o4 : Int) (k1 : 0 ≤ x1 ∧ x1 ≤ 16777215) (k2 : 0 ≤ x2 ∧ x2 ≤ 23) (k7 : 0 ≤ x7 ∧ x7 ≤ 16777215) (k8 : 0 ≤ x8 ∧ x8 ≤ 23) (k10 : (-2147483648) ≤ x10 ∧ x10 ≤ (-2147483648)) (k11 : 0 ≤ x11 ∧ x11 ≤ 23) (k14 : 1 ≤ x14 ∧ x14 ≤ 24) (k15 : 0 ≤ x15 ∧ x15 ≤ 16777215) (k16 : 1 ≤ x16 ∧ x16 ≤ 1) (k17 : 1 ≤ x17 ∧ x17 ≤ 1) (k19 : 0 ≤ x19 ∧ x19 ≤ 23) (k21 : (-40000000) ≤ x21 ∧ x21 ≤ 690000000) (k22 : (-2147483648) ≤ x22 ∧ x22 ≤ (-2147483648)) (k23 : 1 ≤ x23 ∧ x23 ≤ 24) (d0 : x11 + 1 ≤ x23 ∧ x23 ≤ x11 + 1) (d1 : x14 + (-4294967296) ≤ x23 ∧ x23 ≤ x14 + 0) (d2 : x8 + 0 ≤ x19 ∧ x19 ≤ x8 + 0) (d3 : x14 + (-4294967296) ≤ x11 ∧ x11 ≤ x14 + (-1)) (d4 : x7 + (-4294967296) ≤ x1 ∧ x1 ≤ x7 + 0) (d5 : x8 + (-4294967296) ≤ x2 ∧ x2 ≤ x8 + 0) (d6 : x1 + (-4294967296) ≤ x7 ∧ x7 ≤ x1 + 0) (d7 : x2 + (-4294967296) ≤ x8 ∧ x8 ≤ x2 + 0) (f0 : x23 = x11 + 1) (f1 : x10 = x22) (h2 : x21 = x_0o5 (x11)) (f4 : x19 = x2) (h5 : x19 = level_0 (x11)) (f7 : x17 ≠ 0) (f8 : x17 = x15 % 2) (f9 : bvp (x17) = bvp (x15) &&& bvp (x16)) (f10 : bvp (x15) = bvp (x1) >>> (x11).toNat) (f11 : x11 < x14) (g12 : x14 = nodes_0o4) (f13 : TQF (level_0) (x_0o5) (x1) (x2) (x10) (x11)) (f16 : x11 ≤ nodes_0o4) (hK_0_4 : ∀ j : Int, 0 ≤ j → j < 24 → 0 ≤ level_0 j ∧ level_0 j ≤ 23) (hK_5_2 : ∀ j : Int, 0 ≤ j → j < 24 → (-40000000) ≤ x_0o5 j ∧ x_0o5 j ≤ 690000000) (kz_4_0 : 0 ≤ nodes_0o4 ∧ nodes_0o4 ≤ 24) : x23 ≤ nodes_0o4 := by
  first
    | omega
  
def o_Pl_edgeOfLevel_4 : or_T := (7, 24, [(0, (2, 0, 0, [6])), (1, (0, 0, 16777215, [])), (2, (0, 0, 23, [])), (4, (2, 0, 0, [3])), (5, (2, 0, 0, [0])), (6, (2, 0, 0, [6])), (7, (0, 0, 16777215, [])), (8, (0, 0, 23, [])), (10, (0, -2147483648, -2147483648, [])), (11, (0, 0, 23, [])), (12, (2, 0, 0, [3])), (13, (2, 0, 0, [0])), (14, (0, 1, 24, [])), (15, (0, 0, 16777215, [])), (16, (0, 1, 1, [])), (17, (0, 1, 1, [])), (18, (2, 0, 0, [91])), (19, (0, 0, 23, [])), (20, (2, 0, 0, [14])), (21, (0, -40000000, 690000000, [])), (22, (0, -2147483648, -2147483648, [])), (23, (0, 1, 24, []))], [(6, [23, 11], [1]), (7, [10, 22], [0]), (10, [21, 20, 11], []), (9, [20, 13], [2]), (7, [19, 8], [0]), (10, [19, 18, 11], []), (9, [18, 6], [4]), (8, [17], [1]), (12, [17, 15], [2]), (16, [17, 15, 16], [0]), (16, [15, 7, 11], [4]), (7, [11, 14], [2]), (9, [14, 12], [0]), (20, [6, 13, 7, 8, 10, 11], [60, 0, 2, 867, 4, 1002]), (24, [4, 12], []), (24, [5, 13], []), (20, [11, 12], [50, 1, 0, 1000, 0, 2, 1, 0, 2, 1, 0]), (24, [1, 7], []), (24, [2, 8], []), (24, [0, 6], [])], [], [], [(20, [6, 13, 7, 8, 21, 23], [60, 0, 2, 867, 4, 1002]), (20, [23, 12], [50, 1, 0, 1000, 0, 2, 1, 0, 2, 1, 0])], [], [(23, 11, 1, 1), (23, 14, -4294967296, 0), (19, 8, 0, 0), (11, 14, -4294967296, -1), (1, 7, -4294967296, 0), (2, 8, -4294967296, 0), (7, 1, -4294967296, 0), (8, 2, -4294967296, 0)])
theorem oo_Pl_edgeOfLevel_4 {kA : Nat → ClassId} : or_ok PRD kA GG o_Pl_edgeOfLevel_4 := by
  refine or_mk fun A ta ws vs hD hth hl => ?_
  intro t0 r0 t1 k1 t2 k2 t4 r4 t5 r5 t6 r6 t7 k7 t8 k8 t10 k10 t11 k11 t12 r12 t13 r13 t14 k14 t15 k15 t16 k16 t17 k17 t18 r18 t19 k19 t20 r20 t21 k21 t22 k22 t23 k23 d0 d1 d2 d3 d4 d5 d6 d7 f0 f1 f2 f3 f4 f5 f6 f7 f8 f9 f10 f11 f12 f13 f14 f15 f16 f17 f18 f19
  replace f0 := shm_4 f0
  replace f1 := shm_37 f1
  replace f2 := shm_106 f2
  replace f3 := shm_129 f3
  replace f4 := shm_37 f4
  replace f5 := shm_106 f5
  replace f6 := shm_107 f6
  replace f7 := shm_154 f7
  replace f8 := shm_382 f8
  replace f9 := shm_11 f9
  replace f10 := shm_13 f10
  replace f11 := shm_6 f11
  replace f12 := shm_175 f12
  replace f13 := shm_423 f13
  replace f14 := shm_5 f14
  replace f15 := shm_5 f15
  replace f16 := shm_424 f16
  replace f17 := shm_5 f17
  replace f18 := shm_5 f18
  replace f19 := shm_5 f19
  have q12 : n_v vs 12 = n_v vs 4 := f14.symm
  have q13 : n_v vs 13 = n_v vs 5 := f15.symm
  have q7 : n_v vs 7 = n_v vs 1 := f17.symm
  have q8 : n_v vs 8 = n_v vs 2 := f18.symm
  have q6 : n_v vs 6 = n_v vs 0 := f19.symm
  simp only [q13, q8, q6, q7, q12] at f3 f4 f6 f10 f12 f13 f16
  have cr_0_4 := fdq_90 hD hth r0
  have cr_5_2 := fdq_51 hD hth r5
  have ad_20 : v_ad (n_v vs 20) = w_ar ws (n_v vs 5) 2 := congrArg v_ad f3
  have ad_18 : v_ad (n_v vs 18) = w_ar ws (n_v vs 0) 4 := congrArg v_ad f6
  simp only [ad_20] at f2
  have h2 : v_iv (n_v vs 21) = w_ei ws (w_ar ws (n_v vs 5) 2) (v_iv (n_v vs 11)) := f2
  simp only [ad_18] at f5
  have h5 : v_iv (n_v vs 19) = w_ei ws (w_ar ws (n_v vs 0) 4) (v_iv (n_v vs 11)) := f5
  have g12 : v_iv (n_v vs 14) = w_fi ws (n_v vs 4) 0 := congrArg v_iv f12
  have hK_0_4 := elq_40 hD hth cr_0_4
  have hK_5_2 := elq_9 hD hth cr_5_2
  have kz_4_0 := fdq_23 hD hth r4
  have nf0 : fc_1 PRD (20, [6, 13, 7, 8, 21, 23], [60, 0, 2, 867, 4, 1002]) ws (vs) := by
    refine ⟨nf_in hl rfl, sgq_423 ?_⟩
    · show TQF (w_ei ws (w_ar ws (n_v vs 6) 4)) (w_ei ws (w_ar ws (n_v vs 13) 2)) (v_iv (n_v vs 7)) (v_iv (n_v vs 8)) (v_iv (n_v vs 21)) (v_iv (n_v vs 23))
      simp only [q13, q7, q8, q6]
      exact vc_Pl_edgeOfLevel_4_0 (v_iv (n_v vs 1)) (v_iv (n_v vs 2)) (v_iv (n_v vs 7)) (v_iv (n_v vs 8)) (v_iv (n_v vs 10)) (v_iv (n_v vs 11)) (v_iv (n_v vs 14)) (v_iv (n_v vs 15)) (v_iv (n_v vs 16)) (v_iv (n_v vs 17)) (v_iv (n_v vs 19)) (v_iv (n_v vs 21)) (v_iv (n_v vs 22)) (v_iv (n_v vs 23)) (w_ei ws (w_ar ws (n_v vs 5) 2)) (w_ei ws (w_ar ws (n_v vs 0) 4)) (w_fi ws (n_v vs 4) 0) k1 k2 k7 k8 k10 k11 k14 k15 k16 k17 k19 k21 k22 k23 d0 d1 d2 d3 d4 d5 d6 d7 f0 f1 h2 f4 h5 f7 f8 f9 f10 f11 g12 f13 f16 hK_0_4 hK_5_2 kz_4_0
  have nf1 : fc_1 PRD (20, [23, 12], [50, 1, 0, 1000, 0, 2, 1, 0, 2, 1, 0]) ws (vs) := by
    refine ⟨nf_in hl rfl, sgq_424 ?_⟩
    · show v_iv (n_v vs 23) ≤ w_fi ws (n_v vs 12) 0
      rw [q12]
      exact vc_Pl_edgeOfLevel_4_1 (v_iv (n_v vs 1)) (v_iv (n_v vs 2)) (v_iv (n_v vs 7)) (v_iv (n_v vs 8)) (v_iv (n_v vs 10)) (v_iv (n_v vs 11)) (v_iv (n_v vs 14)) (v_iv (n_v vs 15)) (v_iv (n_v vs 16)) (v_iv (n_v vs 17)) (v_iv (n_v vs 19)) (v_iv (n_v vs 21)) (v_iv (n_v vs 22)) (v_iv (n_v vs 23)) (w_ei ws (w_ar ws (n_v vs 5) 2)) (w_ei ws (w_ar ws (n_v vs 0) 4)) (w_fi ws (n_v vs 4) 0) k1 k2 k7 k8 k10 k11 k14 k15 k16 k17 k19 k21 k22 k23 d0 d1 d2 d3 d4 d5 d6 d7 f0 f1 h2 f4 h5 f7 f8 f9 f10 f11 g12 f13 f16 hK_0_4 hK_5_2 kz_4_0
  refine ⟨(fun _ h => (by cases h)), [], trivial, ?_, (fun _ h => (by cases h))⟩
  rw [List.append_nil]
  exact List.forall_mem_cons.mpr ⟨⟨show (20 : Nat) < 100 from by decide, nf0⟩, List.forall_mem_cons.mpr ⟨⟨show (20 : Nat) < 100 from by decide, nf1⟩, (fun _ h => (by cases h))⟩⟩
set_option maxHeartbeats 4000000 in
theorem vc_Pl_edgeOfLevel_5_0 (x1 : Int) (x2 : Int) (x7 : Int) (x8 : Int) (x10 : Int) (x11 : Int) (x14 : Int) (x15 : Int) (x16 : Int) (x17 : Int) (x19 : Int) (x21 : Int) (x22 : Int) (x23 : Int) (x_0o5 : Int → Int) (level_0 : Int → Int) (nodes_0o4 : Int) (k1 : 0 ≤ x1 ∧ x1 ≤ 16777215) (k2 : 0 ≤ x2 ∧ x2 ≤ 23) (k7 : 0 ≤ x7 ∧ x7 ≤ 16777215) (k8 : 0 ≤ x8 ∧ x8 ≤ 23) (k10 : (-2147483647) ≤ x10 ∧ x10 ≤ 690000000) (k11 : 0 ≤ x11 ∧ x11 ≤ 23) (k14 : 1 ≤ x14 ∧ x14 ≤ 24) (k15 : 0 ≤ x15 ∧ x15 ≤ 16777215) (k16 : 1 ≤ x16 ∧ x16 ≤ 1) (k17 : 1 ≤ x17 ∧ x17 ≤ 1) (k19 : 0 ≤ x19 ∧ x19 ≤ 23) (k21 : (-40000000) ≤ x21 ∧ x21 ≤ 690000000) (k22 : (-2147483648) ≤ x22 ∧ x22 ≤ (-2147483648)) (k23 : 1 ≤ x23 ∧ x23 ≤ 24) (d0 : x11 + 1 ≤ x23 ∧ x23 ≤ x11 + 1) (d1 : x14 + (-4294967296) ≤ x23 ∧ x23 ≤ x14 + 0) (d2 : x10 + 0 ≤ x21 ∧ x21 ≤ x10 + 4294967296) (d3 : x8 + 0 ≤ x19 ∧ x19 ≤ x8 + 0) (d4 : x14 + (-4294967296) ≤ x11 ∧ x11 ≤ x14 + (-1)) (d5 : x7 + (-4294967296) ≤ x1 ∧ x1 ≤ x7 + 0) (d6 : x8 + (-4294967296) ≤ x2 ∧ x2 ≤ x8 + 0) (d7 : x1 + (-4294967296) ≤ x7 ∧ x7 ≤ x1 + 0) (d8 : x2 + (-4294967296) ≤ x8 ∧ x8 ≤ x2 + 0) (f0 : x23 = x11 + 1) (f1 : x10 ≤ x21) (f2 : x10 ≠ x22) (h3 : x21 = x_0o5 (x11)) (f5 : x19 = x2) (h6 : x19 = level_0 (x11)) (f8 : x17 ≠ 0) (f9 : x17 = x15 % 2) (f10 : bvp (x17) = bvp (x15) &&& bvp (x16)) (f11 : bvp (x15) = bvp (x1) >>> (x11).toNat) (f12 : x11 < x14) (g13 : x14 = nodes_0o4) (f14 : TQF (level_0) (x_0o5) (x1) (x2) (x10) (x11)) (f17 : x11 ≤ nodes_0o4) (hK_0_4 : ∀ j : Int, 0 ≤ j → j < 24 → 0 ≤ level_0 j ∧ level_0 j ≤ 23) (hK_5_2 : ∀ j : Int, 0 ≤ j → j < 24 → (-40000000) ≤ x_0o5 j ∧ x_0o5 j ≤ 690000000) (kz_4_0 : 0 ≤ nodes_0o4 ∧ nodes_0o4 ≤ 24) : TQF (level_0) (x_0o5) (x1) (x2) (x10) (x23) := by
  first
    | exact tqf_start (by omega) (by omega)
    | (have q := bit_one (s := x1) (t := x15) (c := x17) (v := x11) (one := x16) (by assumption) (by assumption) (by omega) (by omega) (by omega) (by omega)
       first
         | exact tqf_skip ‹TQF _ _ _ _ _ _› (Or.inl (fun z => by have := q.mp z; omega)) (by omega)
         | exact tqf_skip ‹TQF _ _ _ _ _ _› (Or.inr (by omega)) (by omega)
         | exact tqf_keep ‹TQF _ _ _ _ _ _› (by omega) (by omega)
         | exact tqf_take (v := x11) (by omega) (q.mpr (by omega)) (by omega) (by omega) (by omega))
  
set_option maxHeartbeats 4000000 in
theorem vc_Pl_edgeOfLevel_5_1 (x1 : Int) (x2 : Int) (x7 : Int) (x8 : Int) (x10 : Int) (x11 : Int) (x14 : Int) (x15 : Int) (x16 : Int) (x17 : Int) (x19 : Int) (x21 : Int) (x22 : Int) (x23 : Int) (x_0o5 : Int → Int) (level_0 : Int → Int) (nodes_0o4 : Int) (k1 : 0 ≤ x1 ∧ x1 ≤ 16777215) (k2 : 0 ≤ x2 ∧ x2 ≤ 23) (k7 : 0 ≤ x7 ∧ x7 ≤ 16777215) (k8 : 0 ≤ x8 ∧ x8 ≤ 23) (k10 : (-2147483647) ≤ x10 ∧ x10 ≤ 690000000) (k11 : 0 ≤ x11 ∧ x11 ≤ 23) (k14 : 1 ≤ x14 ∧ x14 ≤ 24) (k15 : 0 ≤ x15 ∧ x15 ≤ 16777215) (k16 : 1 ≤ x16 ∧ x16 ≤ 1) (k17 : 1 ≤ x17 ∧ x17 ≤ 1) (k19 : 0 ≤ x19 ∧ x19 ≤ 23) (k21 : (-40000000) ≤ x21 ∧ x21 ≤ 690000000) (k22 : (-2147483648) ≤ x22 ∧ x22 ≤ (-2147483648)) (k23 : 1 ≤ x23 ∧ x23 ≤ 24) (d0 : x11 + 1 ≤ x23 ∧ x23 ≤ x11 + 1) (d1 : x14 + (-4294967296) ≤ x23 ∧ x23 ≤ x14 + 0) (d2 : x10 + 0 ≤ x21 ∧ x21 ≤ x10 + 4294967296) (d3 : x8 + 0 ≤ x19 ∧ x19 ≤ x8 + 0) (d4 : x14 + (-4294967296) ≤ x11 ∧ x11 ≤ x14 + (-1)) (d5 : x7 + (-4294967296) ≤ x1 ∧ x1 ≤ x7 + 0) (d6 : x8 + (-4294967296) ≤ x2 ∧ x2 ≤ x8 + 0) (d7 : x1 + (-4294967296) ≤ x7 ∧ x7 ≤ x1 + 0) (d8 : x2 + (-4294967296) ≤ x8 ∧ x8 ≤ x2 + 0) (f0 : x23 = x11 + 1) (f1 : x10 ≤ x21) (f2 : x10 ≠ x22) (h3 : x21 = x_0o5 (x11)) (f5 : x19 = x2) (h6 : x19 = level_0 (x11)) (f8 : x17 ≠ 0) (f9 : x17 = x15 % 2) (f10 : bvp (x17) = bvp (x15) &&& bvp (x16)) (f11 : bvp (x15) = bvp (x1) >>> (x11).toNat) (f12 : x11 < x14) (g13 : x14 = nodes_0o4) (f14 : TQF (level_0) (x_0o5) (x1) (x2) (x10) (x11)) (f17 : x11 ≤ nodes_0o4) (hK_0_4 : ∀ j : Int, 0 ≤ j → j < 24 → 0 ≤ level_0 j ∧ level_0 j ≤ 23) (hK_5_2 : ∀ j : Int, 0 ≤ j → j < 24 → (-40000000) ≤ x_0o5 j ∧ x_0o5 j ≤ 690000000) (kz_4_0 : 0 ≤ nodes_0o4 ∧ nodes_0o4 ≤ 24) : x23 ≤ nodes_0o4 := by
  first
    | omega
  
def o_Pl_edgeOfLevel_5 : or_T := (7, 24, [(0, (2, 0, 0, [6])), (1, (0, 0, 16777215, [])), (2, (0, 0, 23, [])), (4, (2, 0, 0, [3])), (5, (2, 0, 0, [0])), (6, (2, 0, 0, [6])), (7, (0, 0, 16777215, [])), (8, (0, 0, 23, [])), (10, (0, -2147483647, 690000000, [])), (11, (0, 0, 23, [])), (12, (2, 0, 0, [3])), (13, (2, 0, 0, [0])), (14, (0, 1, 24, [])), (15, (0, 0, 16777215, [])), (16, (0, 1, 1, [])), (17, (0, 1, 1, [])), (18, (2, 0, 0, [91])), (19, (0, 0, 23, [])), (20, (2, 0, 0, [14])), (21, (0, -40000000, 690000000, [])), (22, (0, -2147483648, -2147483648, [])), (23, (0, 1, 24, []))], [(6, [23, 11], [1]), (7, [21, 10], [3]), (7, [10, 22], [1]), (10, [21, 20, 11], []), (9, [20, 13], [2]), (7, [19, 8], [0]), (10, [19, 18, 11], []), (9, [18, 6], [4]), (8, [17], [1]), (12, [17, 15], [2]), (16, [17, 15, 16], [0]), (16, [15, 7, 11], [4]), (7, [11, 14], [2]), (9, [14, 12], [0]), (20, [6, 13, 7, 8, 10, 11], [60, 0, 2, 867, 4, 1002]), (24, [4, 12], []), (24, [5, 13], []), (20, [11, 12], [50, 1, 0, 1000, 0, 2, 1, 0, 2, 1, 0]), (24, [1, 7], []), (24, [2, 8], []), (24, [0, 6], [])], [], [], [(20, [6, 13, 7, 8, 10, 23], [60, 0, 2, 867, 4, 1002]), (20, [23, 12], [50, 1, 0, 1000, 0, 2, 1, 0, 2, 1, 0])], [], [(23, 11, 1, 1), (23, 14, -4294967296, 0), (21, 10, 0, 4294967296), (19, 8, 0, 0), (11, 14, -4294967296, -1), (1, 7, -4294967296, 0), (2, 8, -4294967296, 0), (7, 1, -4294967296, 0), (8, 2, -4294967296, 0)])
theorem oo_Pl_edgeOfLevel_5 {kA : Nat → ClassId} : or_ok PRD kA GG o_Pl_edgeOfLevel_5 := by
  refine or_mk fun A ta ws vs hD hth hl => ?_
  intro t0 r0 t1 k1 t2 k2 t4 r4 t5 r5 t6 r6 t7 k7 t8 k8 t10 k10 t11 k11 t12 r12 t13 r13 t14 k14 t15 k15 t16 k16 t17 k17 t18 r18 t19 k19 t20 r20 t21 k21 t22 k22 t23 k23 d0 d1 d2 d3 d4 d5 d6 d7 d8 f0 f1 f2 f3 f4 f5 f6 f7 f8 f9 f10 f11 f12 f13 f14 f15 f16 f17 f18 f19 f20
  replace f0 := shm_4 f0
  replace f1 := shm_2 f1
  replace f2 := shm_40 f2
  replace f3 := shm_106 f3
  replace f4 := shm_129 f4
  replace f5 := shm_37 f5
  replace f6 := shm_106 f6
  replace f7 := shm_107 f7
  replace f8 := shm_154 f8
  replace f9 := shm_382 f9
  replace f10 := shm_11 f10
  replace f11 := shm_13 f11
  replace f12 := shm_6 f12
  replace f13 := shm_175 f13
  replace f14 := shm_423 f14
  replace f15 := shm_5 f15
  replace f16 := shm_5 f16
  replace f17 := shm_424 f17
  replace f18 := shm_5 f18
  replace f19 := shm_5 f19
  replace f20 := shm_5 f20
  have q12 : n_v vs 12 = n_v vs 4 := f15.symm
  have q13 : n_v vs 13 = n_v vs 5 := f16.symm
  have q7 : n_v vs 7 = n_v vs 1 := f18.symm
  have q8 : n_v vs 8 = n_v vs 2 := f19.symm
  have q6 : n_v vs 6 = n_v vs 0 := f20.symm
  simp only [q13, q8, q6, q7, q12] at f4 f5 f7 f11 f13 f14 f17
  have cr_0_4 := fdq_90 hD hth r0
  have cr_5_2 := fdq_51 hD hth r5
  have ad_20 : v_ad (n_v vs 20) = w_ar ws (n_v vs 5) 2 := congrArg v_ad f4
  have ad_18 : v_ad (n_v vs 18) = w_ar ws (n_v vs 0) 4 := congrArg v_ad f7
  simp only [ad_20] at f3
  have h3 : v_iv (n_v vs 21) = w_ei ws (w_ar ws (n_v vs 5) 2) (v_iv (n_v vs 11)) := f3
  simp only [ad_18] at f6
  have h6 : v_iv (n_v vs 19) = w_ei ws (w_ar ws (n_v vs 0) 4) (v_iv (n_v vs 11)) := f6
  have g13 : v_iv (n_v vs 14) = w_fi ws (n_v vs 4) 0 := congrArg v_iv f13
  have hK_0_4 := elq_40 hD hth cr_0_4
  have hK_5_2 := elq_9 hD hth cr_5_2
  have kz_4_0 := fdq_23 hD hth r4
  have nf0 : fc_1 PRD (20, [6, 13, 7, 8, 10, 23], [60, 0, 2, 867, 4, 1002]) ws (vs) := by
    refine ⟨nf_in hl rfl, sgq_423 ?_⟩
    · show TQF (w_ei ws (w_ar ws (n_v vs 6) 4)) (w_ei ws (w_ar ws (n_v vs 13) 2)) (v_iv (n_v vs 7)) (v_iv (n_v vs 8)) (v_iv (n_v vs 10)) (v_iv (n_v vs 23))
      simp only [q13, q7, q8, q6]
      exact vc_Pl_edgeOfLevel_5_0 (v_iv (n_v vs 1)) (v_iv (n_v vs 2)) (v_iv (n_v vs 7)) (v_iv (n_v vs 8)) (v_iv (n_v vs 10)) (v_iv (n_v vs 11)) (v_iv (n_v vs 14)) (v_iv (n_v vs 15)) (v_iv (n_v vs 16)) (v_iv (n_v vs 17)) (v_iv (n_v vs 19)) (v_iv (n_v vs 21)) (v_iv (n_v vs 22)) (v_iv (n_v vs 23)) (w_ei ws (w_ar ws (n_v vs 5) 2)) (w_ei ws (w_ar ws (n_v vs 0) 4)) (w_fi ws (n_v vs 4) 0) k1 k2 k7 k8 k10 k11 k14 k15 k16 k17 k19 k21 k22 k23 d0 d1 d2 d3 d4 d5 d6 d7 d8 f0 f1 f2 h3 f5 h6 f8 f9 f10 f11 f12 g13 f14 f17 hK_0_4 hK_5_2 kz_4_0
  have nf1 : fc_1 PRD (20, [23, 12], [50, 1, 0, 1000, 0, 2, 1, 0, 2, 1, 0]) ws (vs) := by
    refine ⟨nf_in hl rfl, sgq_424 ?_⟩
    · show v_iv (n_v vs 23) ≤ w_fi ws (n_v vs 12) 0
      rw [q12]
      exact vc_Pl_edgeOfLevel_5_1 (v_iv (n_v vs 1)) (v_iv (n_v vs 2)) (v_iv (n_v vs 7)) (v_iv (n_v vs 8)) (v_iv (n_v vs 10)) (v_iv (n_v vs 11)) (v_iv (n_v vs 14)) (v_iv (n_v vs 15)) (v_iv (n_v vs 16)) (v_iv (n_v vs 17)) (v_iv (n_v vs 19)) (v_iv (n_v vs 21)) (v_iv (n_v vs 22)) (v_iv (n_v vs 23)) (w_ei ws (w_ar ws (n_v vs 5) 2)) (w_ei ws (w_ar ws (n_v vs 0) 4)) (w_fi ws (n_v vs 4) 0) k1 k2 k7 k8 k10 k11 k14 k15 k16 k17 k19 k21 k22 k23 d0 d1 d2 d3 d4 d5 d6 d7 d8 f0 f1 f2 h3 f5 h6 f8 f9 f10 f11 f12 g13 f14 f17 hK_0_4 hK_5_2 kz_4_0
  refine ⟨(fun _ h => (by cases h)), [], trivial, ?_, (fun _ h => (by cases h))⟩
  rw [List.append_nil]
  exact List.forall_mem_cons.mpr ⟨⟨show (20 : Nat) < 100 from by decide, nf0⟩, List.forall_mem_cons.mpr ⟨⟨show (20 : Nat) < 100 from by decide, nf1⟩, (fun _ h => (by cases h))⟩⟩
set_option maxHeartbeats 4000000 in
theorem vc_Pl_edgeOfLevel_6_0 (x1 : Int) (x2 : Int) (x7 : Int) (x8 : Int) (x10 : Int) (x11 : Int) (x14 : Int) (x15 : Int) (x16 : Int) (x17 : Int) (x19 : Int) (x21 : Int) (x22 : Int) (x23 : Int) (x_0o5 : Int → Int) (level_0 : Int → Int) (nodes_0o4 : Int) (k1 : 0 ≤ x1 ∧ x1 ≤ 16777215) (k2 : 0 ≤ x2 ∧ x2 ≤ 23) (k7 : 0 ≤ x7 ∧ x7 ≤ 16777215) (k8 : 0 ≤ x8 ∧ x8 ≤ 23) (k10 : (-39999999) ≤ x10 ∧ x10 ≤ 690000000) (k11 : 0 ≤ x11 ∧ x11 ≤ 23) (k14 : 1 ≤ x14 ∧ x14 ≤ 24) (k15 : 0 ≤ x15 ∧ x15 ≤ 16777215) (k16 : 1 ≤ x16 ∧ x16 ≤ 1) (k17 : 1 ≤ x17 ∧ x17 ≤ 1) (k19 : 0 ≤ x19 ∧ x19 ≤ 23) (k21 : (-40000000) ≤ x21 ∧ x21 ≤ 689999999) (k22 : (-2147483648) ≤ x22 ∧ x22 ≤ (-2147483648)) (k23 : 1 ≤ x23 ∧ x23 ≤ 24) (d0 : x11 + 1 ≤ x23 ∧ x23 ≤ x11 + 1) (d1 : x14 + (-4294967296) ≤ x23 ∧ x23 ≤ x14 + 0) (d2 : x10 + (-4294967296) ≤ x21 ∧ x21 ≤ x10 + (-1)) (d3 : x8 + 0 ≤ x19 ∧ x19 ≤ x8 + 0) (d4 : x14 + (-4294967296) ≤ x11 ∧ x11 ≤ x14 + (-1)) (d5 : x7 + (-4294967296) ≤ x1 ∧ x1 ≤ x7 + 0) (d6 : x8 + (-4294967296) ≤ x2 ∧ x2 ≤ x8 + 0) (d7 : x1 + (-4294967296) ≤ x7 ∧ x7 ≤ x1 + 0) (d8 : x2 + (-4294967296) ≤ x8 ∧ x8 ≤ x2 + 0) (f0 : x23 = x11 + 1) (f1 : x21 < x10) (f2 : x10 ≠ x22) (h3 : x21 = x_0o5 (x11)) (f5 : x19 = x2) (h6 : x19 = level_0 (x11)) (f8 : x17 ≠ 0) (f9 : x17 = x15 % 2) (f10 : bvp (x17) = bvp (x15) &&& bvp (x16)) (f11 : bvp (x15) = bvp (x1) >>> (x11).toNat) (f12 : x11 < x14) (g13 : x14 = nodes_0o4) (f14 : TQF (level_0) (x_0o5) (x1) (x2) (x10) (x11)) (f17 : x11 ≤ nodes_0o4) (hK_0_4 : ∀ j : Int, 0 ≤ j → j < 24 → 0 ≤ level_0 j ∧ level_0 j ≤ 23) (hK_5_2 : ∀ j : Int, 0 ≤ j → j < 24 → (-40000000) ≤ x_0o5 j ∧ x_0o5 j ≤ 690000000) (kz_4_0 : 0 ≤ nodes_0o4 ∧ nodes_0o4 ≤ 24) : TQF (level_0) (x_0o5) (x1) (x2) (x21) (x23) := by
  first
    | exact tqf_start (by omega) (by omega)
    | (have q := bit_one (s := x1) (t := x15) (c := x17) (v := x11) (one := x16) (by assumption) (by assumption) (by omega) (by omega) (by omega) (by omega)
       first
         | exact tqf_skip ‹TQF _ _ _ _ _ _› (Or.inl (fun z => by have := q.mp z; omega)) (by omega)
         | exact tqf_skip ‹TQF _ _ _ _ _ _› (Or.inr (by omega)) (by omega)
         | exact tqf_keep ‹TQF _ _ _ _ _ _› (by omega) (by omega)
         | exact tqf_take (v := x11) (by omega) (q.mpr (by omega)) (by omega) (by omega) (by omega))
  
set_option maxHeartbeats 4000000 in
theorem vc_Pl_edgeOfLevel_6_1 (x1 : Int) (x2 : Int) (x7 : Int) (x8 : Int) (x10 : Int) (x11 : Int) (x14 : Int) (x15 : Int) (x16 : Int) (x17 : Int) (x19 : Int) (x21 : Int) (x22 : Int) (x23 : Int) (x_0o5 : Int → Int) (level_0 : Int → Int) (nodes_0o4 : Int) (k1 : 0 ≤ x1 ∧ x1 ≤ 16777215) (k2 : 0 ≤ x2 ∧ x2 ≤ 23) (k7 : 0 ≤ x7 ∧ x7 ≤ 16777215) (k8 : 0 ≤ x8 ∧ x8 ≤ 23) (k10 : (-39999999) ≤ x10 ∧ x10 ≤ 690000000) (k11 : 0 ≤ x11 ∧ x11 ≤ 23) (k14 : 1 ≤ x14 ∧ x14 ≤ 24) (k15 : 0 ≤ x15 ∧ x15 ≤ 16777215) (k16 : 1 ≤ x16 ∧ x16 ≤ 1) (k17 : 1 ≤ x17 ∧ x17 ≤ 1) (k19 : 0 ≤ x19 ∧ x19 ≤ 23) (k21 : (-40000000) ≤ x21 ∧ x21 ≤ 689999999) (k22 : (-2147483648) ≤ x22 ∧ x22 ≤ (-2147483648)) (k23 : 1 ≤ x23 ∧ x23 ≤ 24) (d0 : x11 + 1 ≤ x23 ∧ x23 ≤ x11 + 1) (d1 : x14 + (-4294967296) ≤ x23 ∧ x23 ≤ x14 + 0) (d2 : x10 + (-4294967296) ≤ x21 ∧ x21 ≤ x10 + (-1)) (d3 : x8 + 0 ≤ x19 ∧ x19 ≤ x8 + 0) (d4 : x14 + (-4294967296) ≤ x11 ∧ x11 ≤ x14 + (-1)) (d5 : x7 + (-4294967296) ≤ x1 ∧ x1 ≤ x7 + 0) (d6 : x8 + (-4294967296) ≤ x2 ∧ x2 ≤ x8 + 0) (d7 : x1 + (-4294967296) ≤ x7 ∧ x7 ≤ x1 + 0) (d8 : x2 + (-4294967296) ≤ x8 ∧ x8 ≤ x2 + 0) (f0 : x23 = x11 + 1) (f1 : x21 < x10) (f2 : x10 ≠ x22) (h3 : x21 = x_0o5 (x11)) (f5 : x19 = x2) (h6 : x19 = level_0 (x11)) (f8 : x17 ≠ 0) (f9 : x17 = x15 % 2) (f10 : bvp (x17) = bvp (x15) &&& bvp (x16)) (f11 : bvp (x15) = bvp (x1) >>> (x11).toNat) (f12 : x11 < x14) (g13 : x14 = nodes_0o4) (f14 : TQF (level_0) (x_0o5) (x1) (x2) (x10) (x11)) (f17 : x11 ≤ nodes_0o4) (hK_0_4 : ∀ j : Int, 0 ≤ j → j < 24 → 0 ≤ level_0 j ∧ level_0 j ≤ 23) (hK_5_2 : ∀ j : Int, 0 ≤ j → j < 24 → (-40000000) ≤ x_0o5 j ∧ x_0o5 j ≤ 690000000) (kz_4_0 : 0 ≤ nodes_0o4 ∧ nodes_0o4 ≤ 24) : x23 ≤ nodes_0o4 := by
  first
    | omega
  
def o_Pl_edgeOfLevel_6 : or_T := (7, 24, [(0, (2, 0, 0, [6])), (1, (0, 0, 16777215, [])), (2, (0, 0, 23, [])), (4, (2, 0, 0, [3])), (5, (2, 0, 0, [0])), (6, (2, 0, 0, [6])), (7, (0, 0, 16777215, [])), (8, (0, 0, 23, [])), (10, (0, -39999999, 690000000, [])), (11, (0, 0, 23, [])), (12, (2, 0, 0, [3])), (13, (2, 0, 0, [0])), (14, (0, 1, 24, [])), (15, (0, 0, 16777215, [])), (16, (0, 1, 1, [])), (17, (0, 1, 1, [])), (18, (2, 0, 0, [91])), (19, (0, 0, 23, [])), (20, (2, 0, 0, [14])), (21, (0, -40000000, 689999999, [])), (22, (0, -2147483648, -2147483648, [])), (23, (0, 1, 24, []))], [(6, [23, 11], [1]), (7, [21, 10], [2]), (7, [10, 22], [1]), (10, [21, 20, 11], []), (9, [20, 13], [2]), (7, [19, 8], [0]), (10, [19, 18, 11], []), (9, [18, 6], [4]), (8, [17], [1]), (12, [17, 15], [2]), (16, [17, 15, 16], [0]), (16, [15, 7, 11], [4]), (7, [11, 14], [2]), (9, [14, 12], [0]), (20, [6, 13, 7, 8, 10, 11], [60, 0, 2, 867, 4, 1002]), (24, [4, 12], []), (24, [5, 13], []), (20, [11, 12], [50, 1, 0, 1000, 0, 2, 1, 0, 2, 1, 0]), (24, [1, 7], []), (24, [2, 8], []), (24, [0, 6], [])], [], [], [(20, [6, 13, 7, 8, 21, 23], [60, 0, 2, 867, 4, 1002]), (20, [23, 12], [50, 1, 0, 1000, 0, 2, 1, 0, 2, 1, 0])], [], [(23, 11, 1, 1), (23, 14, -4294967296, 0), (21, 10, -4294967296, -1), (19, 8, 0, 0), (11, 14, -4294967296, -1), (1, 7, -4294967296, 0), (2, 8, -4294967296, 0), (7, 1, -4294967296, 0), (8, 2, -4294967296, 0)])
theorem oo_Pl_edgeOfLevel_6 {kA : Nat → ClassId} : or_ok PRD kA GG o_Pl_edgeOfLevel_6 := by
  refine or_mk fun A ta ws vs hD hth hl => ?_
  intro t0 r0 t1 k1 t2 k2 t4 r4 t5 r5 t6 r6 t7 k7 t8 k8 t10 k10 t11 k11 t12 r12 t13 r13 t14 k14 t15 k15 t16 k16 t17 k17 t18 r18 t19 k19 t20 r20 t21 k21 t22 k22 t23 k23 d0 d1 d2 d3 d4 d5 d6 d7 d8 f0 f1 f2 f3 f4 f5 f6 f7 f8 f9 f10 f11 f12 f13 f14 f15 f16 f17 f18 f19 f20
  replace f0 := shm_4 f0
  replace f1 := shm_6 f1
  replace f2 := shm_40 f2
  replace f3 := shm_106 f3
  replace f4 := shm_129 f4
  replace f5 := shm_37 f5
  replace f6 := shm_106 f6
  replace f7 := shm_107 f7
  replace f8 := shm_154 f8
  replace f9 := shm_382 f9
  replace f10 := shm_11 f10
  replace f11 := shm_13 f11
  replace f12 := shm_6 f12
  replace f13 := shm_175 f13
  replace f14 := shm_423 f14
  replace f15 := shm_5 f15
  replace f16 := shm_5 f16
  replace f17 := shm_424 f17
  replace f18 := shm_5 f18
  replace f19 := shm_5 f19
  replace f20 := shm_5 f20
  have q12 : n_v vs 12 = n_v vs 4 := f15.symm
  have q13 : n_v vs 13 = n_v vs 5 := f16.symm
  have q7 : n_v vs 7 = n_v vs 1 := f18.symm
  have q8 : n_v vs 8 = n_v vs 2 := f19.symm
  have q6 : n_v vs 6 = n_v vs 0 := f20.symm
  simp only [q13, q8, q6, q7, q12] at f4 f5 f7 f11 f13 f14 f17
  have cr_0_4 := fdq_90 hD hth r0
  have cr_5_2 := fdq_51 hD hth r5
  have ad_20 : v_ad (n_v vs 20) = w_ar ws (n_v vs 5) 2 := congrArg v_ad f4
  have ad_18 : v_ad (n_v vs 18) = w_ar ws (n_v vs 0) 4 := congrArg v_ad f7
  simp only [ad_20] at f3
  have h3 : v_iv (n_v vs 21) = w_ei ws (w_ar ws (n_v vs 5) 2) (v_iv (n_v vs 11)) := f3
  simp only [ad_18] at f6
  have h6 : v_iv (n_v vs 19) = w_ei ws (w_ar ws (n_v vs 0) 4) (v_iv (n_v vs 11)) := f6
  have g13 : v_iv (n_v vs 14) = w_fi ws (n_v vs 4) 0 := congrArg v_iv f13
  have hK_0_4 := elq_40 hD hth cr_0_4
  have hK_5_2 := elq_9 hD hth cr_5_2
  have kz_4_0 := fdq_23 hD hth r4
  have nf0 : fc_1 PRD (20, [6, 13, 7, 8, 21, 23], [60, 0, 2, 867, 4, 1002]) ws (vs) := by
    refine ⟨nf_in hl rfl, sgq_423 ?_⟩
    · show TQF (w_ei ws (w_ar ws (n_v vs 6) 4)) (w_ei ws (w_ar ws (n_v vs 13) 2)) (v_iv (n_v vs 7)) (v_iv (n_v vs 8)) (v_iv (n_v vs 21)) (v_iv (n_v vs 23))
      simp only [q13, q7, q8, q6]
      exact vc_Pl_edgeOfLevel_6_0 (v_iv (n_v vs 1)) (v_iv (n_v vs 2)) (v_iv (n_v vs 7)) (v_iv (n_v vs 8)) (v_iv (n_v vs 10)) (v_iv (n_v vs 11)) (v_iv (n_v vs 14)) (v_iv (n_v vs 15)) (v_iv (n_v vs 16)) (v_iv (n_v vs 17)) (v_iv (n_v vs 19)) (v_iv (n_v vs 21)) (v_iv (n_v vs 22)) (v_iv (n_v vs 23)) (w_ei ws (w_ar ws (n_v vs 5) 2)) (w_ei ws (w_ar ws (n_v vs 0) 4)) (w_fi ws (n_v vs 4) 0) k1 k2 k7 k8 k10 k11 k14 k15 k16 k17 k19 k21 k22 k23 d0 d1 d2 d3 d4 d5 d6 d7 d8 f0 f1 f2 h3 f5 h6 f8 f9 f10 f11 f12 g13 f14 f17 hK_0_4 hK_5_2 kz_4_0
  have nf1 : fc_1 PRD (20, [23, 12], [50, 1, 0, 1000, 0, 2, 1, 0, 2, 1, 0]) ws (vs) := by
    refine ⟨nf_in hl rfl, sgq_424 ?_⟩
    · show v_iv (n_v vs 23) ≤ w_fi ws (n_v vs 12) 0
      rw [q12]
      exact vc_Pl_edgeOfLevel_6_1 (v_iv (n_v vs 1)) (v_iv (n_v vs 2)) (v_iv (n_v vs 7)) (v_iv (n_v vs 8)) (v_iv (n_v vs 10)) (v_iv (n_v vs 11)) (v_iv (n_v vs 14)) (v_iv (n_v vs 15)) (v_iv (n_v vs 16)) (v_iv (n_v vs 17)) (v_iv (n_v vs 19)) (v_iv (n_v vs 21)) (v_iv (n_v vs 22)) (v_iv (n_v vs 23)) (w_ei ws (w_ar ws (n_v vs 5) 2)) (w_ei ws (w_ar ws (n_v vs 0) 4)) (w_fi ws (n_v vs 4) 0) k1 k2 k7 k8 k10 k11 k14 k15 k16 k17 k19 k21 k22 k23 d0 d1 d2 d3 d4 d5 d6 d7 d8 f0 f1 f2 h3 f5 h6 f8 f9 f10 f11 f12 g13 f14 f17 hK_0_4 hK_5_2 kz_4_0
  refine ⟨(fun _ h => (by cases h)), [], trivial, ?_, (fun _ h => (by cases h))⟩
  rw [List.append_nil]
  exact List.forall_mem_cons.mpr ⟨⟨show (20 : Nat) < 100 from by decide, nf0⟩, List.forall_mem_cons.mpr ⟨⟨show (20 : Nat) < 100 from by decide, nf1⟩, (fun _ h => (by cases h))⟩⟩
set_option maxHeartbeats 4000000 in
theorem vc_Pl_edgeOfLevel_7_0 (x1 : Int) (x2 : Int) (x7 : Int) (x8 : Int) (x10 : Int) (x11 : Int) (x14 : Int) (x15 : Int) (x16 : Int) (x17 : Int) (x19 : Int) (x21 : Int) (x22 : Int) (x23 : Int) (x_0o5 : Int → Int) (level_0 : Int → Int) (nodes_0o4 : Int) (k1 : 0 ≤ x1 ∧ x1 ≤ 16777215) (k2 : 0 ≤ x2 ∧ x2 ≤ 23) (k7 : 0 ≤ x7 ∧ x7 ≤ 16777215) (k8 : 0 ≤ x8 ∧ x8 ≤ 23) (k10 : (-40000000) ≤ x10 ∧ x10 ≤ 690000000) (k11 : 0 ≤ x11 ∧ x11 ≤ 23) (k14 : 1 ≤ x14 ∧ x14 ≤ 24) (k15 : 0 ≤ x15 ∧ x15 ≤ 16777215) (k16 : 1 ≤ x16 ∧ x16 ≤ 1) (k17 : 1 ≤ x17 ∧ x17 ≤ 1) (k19 : 0 ≤ x19 ∧ x19 ≤ 23) (k21 : (-40000000) ≤ x21 ∧ x21 ≤ 690000000) (k22 : (-2147483648) ≤ x22 ∧ x22 ≤ (-2147483648)) (k23 : 1 ≤ x23 ∧ x23 ≤ 24) (d0 : x11 + 1 ≤ x23 ∧ x23 ≤ x11 + 1) (d1 : x14 + (-4294967296) ≤ x23 ∧ x23 ≤ x14 + 0) (d2 : x10 + (-4294967296) ≤ x21 ∧ x21 ≤ x10 + 0) (d3 : x8 + 0 ≤ x19 ∧ x19 ≤ x8 + 0) (d4 : x14 + (-4294967296) ≤ x11 ∧ x11 ≤ x14 + (-1)) (d5 : x7 + (-4294967296) ≤ x1 ∧ x1 ≤ x7 + 0) (d6 : x8 + (-4294967296) ≤ x2 ∧ x2 ≤ x8 + 0) (d7 : x1 + (-4294967296) ≤ x7 ∧ x7 ≤ x1 + 0) (d8 : x2 + (-4294967296) ≤ x8 ∧ x8 ≤ x2 + 0) (f0 : x23 = x11 + 1) (f1 : x21 ≤ x10) (f2 : x10 ≠ x22) (h3 : x21 = x_0o5 (x11)) (f5 : x19 = x2) (h6 : x19 = level_0 (x11)) (f8 : x17 ≠ 0) (f9 : x17 = x15 % 2) (f10 : bvp (x17) = bvp (x15) &&& bvp (x16)) (f11 : bvp (x15) = bvp (x1) >>> (x11).toNat) (f12 : x11 < x14) (g13 : x14 = nodes_0o4) (f14 : TQF (level_0) (x_0o5) (x1) (x2) (x10) (x11)) (f17 : x11 ≤ nodes_0o4) (hK_0_4 : ∀ j : Int, 0 ≤ j → j < 24 → 0 ≤ level_0 j ∧ level_0 j ≤ 23) (hK_5_2 : ∀ j : Int, 0 ≤ j → j < 24 → (-40000000) ≤ x_0o5 j ∧ x_0o5 j ≤ 690000000) (kz_4_0 : 0 ≤ nodes_0o4 ∧ nodes_0o4 ≤ 24) : TQF (level_0) (x_0o5) (x1) (x2) (x10) (x23) := by
  first
    | exact tqf_start (by omega) (by omega)
    | (have q := bit_one (s := x1) (t := x15) (c := x17) (v := x11) (one := x16) (by assumption) (by assumption) (by omega) (by omega) (by omega) (by omega)
       first
         | exact tqf_skip ‹TQF _ _ _ _ _ _› (Or.inl (fun z => by have := q.mp z; omega)) (by omega)
         | exact tqf_skip ‹TQF _ _ _ _ _ _› (Or.inr (by omega)) (by omega)
         | exact tqf_keep ‹TQF _ _ _ _ _ _› (by omega) (by omega)
         | exact tqf_take (v := x11) (by omega) (q.mpr (by omega)) (by omega) (by omega) (by omega))
  
set_option maxHeartbeats 4000000 in
theorem vc_Pl_edgeOfLevel_7_1 (x1 : Int) (x2 : Int) (x7 : Int) (x8 : Int) (x10 : Int) (x11 : Int) (x14 : Int) (x15 : Int) (x16 : Int) (x17 : Int) (x19 : Int) (x21 : Int) (x22 : Int) (x23 : Int) (x_0o5 : Int → Int) (level_0 : Int → Int) (nodes_0o4 : Int) (k1 : 0 ≤ x1 ∧ x1 ≤ 16777215) (k2 : 0 ≤ x2 ∧ x2 ≤ 23) (k7 : 0 ≤ x7 ∧ x7 ≤ 16777215) (k8 : 0 ≤ x8 ∧ x8 ≤ 23) (k10 : (-40000000) ≤ x10 ∧ x10 ≤ 690000000) (k11 : 0 ≤ x11 ∧ x11 ≤ 23) (k14 : 1 ≤ x14 ∧ x14 ≤ 24) (k15 : 0 ≤ x15 ∧ x15 ≤ 16777215) (k16 : 1 ≤ x16 ∧ x16 ≤ 1) (k17 : 1 ≤ x17 ∧ x17 ≤ 1) (k19 : 0 ≤ x19 ∧ x19 ≤ 23) (k21 : (-40000000) ≤ x21 ∧ x21 ≤ 690000000) (k22 : (-2147483648) ≤ x22 ∧ x22 ≤ (-2147483648)) (k23 : 1 ≤ x23 ∧ x23 ≤ 24) (d0 : x11 + 1 ≤ x23 ∧ x23 ≤ x11 + 1) (d1 : x14 + (-4294967296) ≤ x23 ∧ x23 ≤ x14 + 0) (d2 : x10 + (-4294967296) ≤ x21 ∧ x21 ≤ x10 + 0) (d3 : x8 + 0 ≤ x19 ∧ x19 ≤ x8 + 0) (d4 : x14 + (-4294967296) ≤ x11 ∧ x11 ≤ x14 + (-1)) (d5 : x7 + (-4294967296) ≤ x1 ∧ x1 ≤ x7 + 0) (d6 : x8 + (-4294967296) ≤ x2 ∧ x2 ≤ x8 + 0) (d7 : x1 + (-4294967296) ≤ x7 ∧ x7 ≤ x1 + 0) (d8 : x2 + (-4294967296) ≤ x8 ∧ x8 ≤ x2 + 0) (f0 : x23 = x11 + 1) (f1 : x21 ≤ x10) (f2 : x10 ≠ x22) (h3 : x21 = x_0o5 (x11)) (f5 : x19 = x2) (h6 : x19 = level_0 (x11)) (f8 : x17 ≠ 0) (f9 : x17 = x15 % 2) (f10 : bvp (x17) = bvp (x15) &&& bvp (x16)) (f11 : bvp (x15) = bvp (x1) >>> (x11).toNat) (f12 : x11 < x14) (g13 : x14 = nodes_0o4) (f14 : TQF (level_0) (x_0o5) (x1) (x2) (x10) (x11)) (f17 : x11 ≤ nodes_0o4) (hK_0_4 : ∀ j : Int, 0 ≤ j → j < 24 → 0 ≤ level_0 j ∧ level_0 j ≤ 23) (hK_5_2 : ∀ j : Int, 0 ≤ j → j < 24 → (-40000000) ≤ x_0o5 j ∧ x_0o5 j ≤ 690000000) (kz_4_0 : 0 ≤ nodes_0o4 ∧ nodes_0o4 ≤ 24) : x23 ≤ nodes_0o4 := by
  first
    | omega
  
def o_Pl_edgeOfLevel_7 : or_T := (7, 24, [(0, (2, 0, 0, [6])), (1, (0, 0, 16777215, [])), (2, (0, 0, 23, [])), (4, (2, 0, 0, [3])), (5, (2, 0, 0, [0])), (6, (2, 0, 0, [6])), (7, (0, 0, 16777215, [])), (8, (0, 0, 23, [])), (10, (0, -40000000, 690000000, [])), (11, (0, 0, 23, [])), (12, (2, 0, 0, [3])), (13, (2, 0, 0, [0])), (14, (0, 1, 24, [])), (15, (0, 0, 16777215, [])), (16, (0, 1, 1, [])), (17, (0, 1, 1, [])), (18, (2, 0, 0, [91])), (19, (0, 0, 23, [])), (20, (2, 0, 0, [14])), (21, (0, -40000000, 690000000, [])), (22, (0, -2147483648, -2147483648, [])), (23, (0, 1, 24, []))], [(6, [23, 11], [1]), (7, [21, 10], [5]), (7, [10, 22], [1]), (10, [21, 20, 11], []), (9, [20, 13], [2]), (7, [19, 8], [0]), (10, [19, 18, 11], []), (9, [18, 6], [4]), (8, [17], [1]), (12, [17, 15], [2]), (16, [17, 15, 16], [0]), (16, [15, 7, 11], [4]), (7, [11, 14], [2]), (9, [14, 12], [0]), (20, [6, 13, 7, 8, 10, 11], [60, 0, 2, 867, 4, 1002]), (24, [4, 12], []), (24, [5, 13], []), (20, [11, 12], [50, 1, 0, 1000, 0, 2, 1, 0, 2, 1, 0]), (24, [1, 7], []), (24, [2, 8], []), (24, [0, 6], [])], [], [], [(20, [6, 13, 7, 8, 10, 23], [60, 0, 2, 867, 4, 1002]), (20, [23, 12], [50, 1, 0, 1000, 0, 2, 1, 0, 2, 1, 0])], [], [(23, 11, 1, 1), (23, 14, -4294967296, 0), (21, 10, -4294967296, 0), (19, 8, 0, 0), (11, 14, -4294967296, -1), (1, 7, -4294967296, 0), (2, 8, -4294967296, 0), (7, 1, -4294967296, 0), (8, 2, -4294967296, 0)])
theorem oo_Pl_edgeOfLevel_7 {kA : Nat → ClassId} : or_ok PRD kA GG o_Pl_edgeOfLevel_7 := by
  refine or_mk fun A ta ws vs hD hth hl => ?_
  intro t0 r0 t1 k1 t2 k2 t4 r4 t5 r5 t6 r6 t7 k7 t8 k8 t10 k10 t11 k11 t12 r12 t13 r13 t14 k14 t15 k15 t16 k16 t17 k17 t18 r18 t19 k19 t20 r20 t21 k21 t22 k22 t23 k23 d0 d1 d2 d3 d4 d5 d6 d7 d8 f0 f1 f2 f3 f4 f5 f6 f7 f8 f9 f10 f11 f12 f13 f14 f15 f16 f17 f18 f19 f20
  replace f0 := shm_4 f0
  replace f1 := shm_24 f1
  replace f2 := shm_40 f2
  replace f3 := shm_106 f3
  replace f4 := shm_129 f4
  replace f5 := shm_37 f5
  replace f6 := shm_106 f6
  replace f7 := shm_107 f7
  replace f8 := shm_154 f8
  replace f9 := shm_382 f9
  replace f10 := shm_11 f10
  replace f11 := shm_13 f11
  replace f12 := shm_6 f12
  replace f13 := shm_175 f13
  replace f14 := shm_423 f14
  replace f15 := shm_5 f15
  replace f16 := shm_5 f16
  replace f17 := shm_424 f17
  replace f18 := shm_5 f18
  replace f19 := shm_5 f19
  replace f20 := shm_5 f20
  have q12 : n_v vs 12 = n_v vs 4 := f15.symm
  have q13 : n_v vs 13 = n_v vs 5 := f16.symm
  have q7 : n_v vs 7 = n_v vs 1 := f18.symm
  have q8 : n_v vs 8 = n_v vs 2 := f19.symm
  have q6 : n_v vs 6 = n_v vs 0 := f20.symm
  simp only [q13, q8, q6, q7, q12] at f4 f5 f7 f11 f13 f14 f17
  have cr_0_4 := fdq_90 hD hth r0
  have cr_5_2 := fdq_51 hD hth r5
  have ad_20 : v_ad (n_v vs 20) = w_ar ws (n_v vs 5) 2 := congrArg v_ad f4
  have ad_18 : v_ad (n_v vs 18) = w_ar ws (n_v vs 0) 4 := congrArg v_ad f7
  simp only [ad_20] at f3
  have h3 : v_iv (n_v vs 21) = w_ei ws (w_ar ws (n_v vs 5) 2) (v_iv (n_v vs 11)) := f3
  simp only [ad_18] at f6
  have h6 : v_iv (n_v vs 19) = w_ei ws (w_ar ws (n_v vs 0) 4) (v_iv (n_v vs 11)) := f6
  have g13 : v_iv (n_v vs 14) = w_fi ws (n_v vs 4) 0 := congrArg v_iv f13
  have hK_0_4 := elq_40 hD hth cr_0_4
  have hK_5_2 := elq_9 hD hth cr_5_2
  have kz_4_0 := fdq_23 hD hth r4
  have nf0 : fc_1 PRD (20, [6, 13, 7, 8, 10, 23], [60, 0, 2, 867, 4, 1002]) ws (vs) := by
    refine ⟨nf_in hl rfl, sgq_423 ?_⟩
    · show TQF (w_ei ws (w_ar ws (n_v vs 6) 4)) (w_ei ws (w_ar ws (n_v vs 13) 2)) (v_iv (n_v vs 7)) (v_iv (n_v vs 8)) (v_iv (n_v vs 10)) (v_iv (n_v vs 23))
      simp only [q13, q7, q8, q6]
      exact vc_Pl_edgeOfLevel_7_0 (v_iv (n_v vs 1)) (v_iv (n_v vs 2)) (v_iv (n_v vs 7)) (v_iv (n_v vs 8)) (v_iv (n_v vs 10)) (v_iv (n_v vs 11)) (v_iv (n_v vs 14)) (v_iv (n_v vs 15)) (v_iv (n_v vs 16)) (v_iv (n_v vs 17)) (v_iv (n_v vs 19)) (v_iv (n_v vs 21)) (v_iv (n_v vs 22)) (v_iv (n_v vs 23)) (w_ei ws (w_ar ws (n_v vs 5) 2)) (w_ei ws (w_ar ws (n_v vs 0) 4)) (w_fi ws (n_v vs 4) 0) k1 k2 k7 k8 k10 k11 k14 k15 k16 k17 k19 k21 k22 k23 d0 d1 d2 d3 d4 d5 d6 d7 d8 f0 f1 f2 h3 f5 h6 f8 f9 f10 f11 f12 g13 f14 f17 hK_0_4 hK_5_2 kz_4_0
  have nf1 : fc_1 PRD (20, [23, 12], [50, 1, 0, 1000, 0, 2, 1, 0, 2, 1, 0]) ws (vs) := by
    refine ⟨nf_in hl rfl, sgq_424 ?_⟩
    · show v_iv (n_v vs 23) ≤ w_fi ws (n_v vs 12) 0
      rw [q12]
      exact vc_Pl_edgeOfLevel_7_1 (v_iv (n_v vs 1)) (v_iv (n_v vs 2)) (v_iv (n_v vs 7)) (v_iv (n_v vs 8)) (v_iv (n_v vs 10)) (v_iv (n_v vs 11)) (v_iv (n_v vs 14)) (v_iv (n_v vs 15)) (v_iv (n_v vs 16)) (v_iv (n_v vs 17)) (v_iv (n_v vs 19)) (v_iv (n_v vs 21)) (v_iv (n_v vs 22)) (v_iv (n_v vs 23)) (w_ei ws (w_ar ws (n_v vs 5) 2)) (w_ei ws (w_ar ws (n_v vs 0) 4)) (w_fi ws (n_v vs 4) 0) k1 k2 k7 k8 k10 k11 k14 k15 k16 k17 k19 k21 k22 k23 d0 d1 d2 d3 d4 d5 d6 d7 d8 f0 f1 f2 h3 f5 h6 f8 f9 f10 f11 f12 g13 f14 f17 hK_0_4 hK_5_2 kz_4_0
  refine ⟨(fun _ h => (by cases h)), [], trivial, ?_, (fun _ h => (by cases h))⟩
  rw [List.append_nil]
  exact List.forall_mem_cons.mpr ⟨⟨show (20 : Nat) < 100 from by decide, nf0⟩, List.forall_mem_cons.mpr ⟨⟨show (20 : Nat) < 100 from by decide, nf1⟩, (fun _ h => (by cases h))⟩⟩
set_option maxHeartbeats 4000000 in
theorem vc_Pl_edgeOfLevel_8_0 (x1 : Int) (x2 : Int) (x7 : Int) (x8 : Int) (x10 : Int) (x11 : Int) (x14 : Int) (x15 : Int) (x16 : Int) (x17 : Int) (x19 : Int) (x21 : Int) (x22 : Int) (x23 : Int) (x_0o5 : Int → Int) (level_0 : Int → Int) (nodes_0o4 : Int) (k1 : 0 ≤ x1 ∧ x1 ≤ 16777215) (k2 : 0 ≤ x2 ∧ x2 ≤ 23) (k7 : 0 ≤ x7 ∧ x7 ≤ 16777215) (k8 : 0 ≤ x8 ∧ x8 ≤ 23) (k10 : (-2147483647) ≤ x10 ∧ x10 ≤ 689999999) (k11 : 0 ≤ x11 ∧ x11 ≤ 23) (k14 : 1 ≤ x14 ∧ x14 ≤ 24) (k15 : 0 ≤ x15 ∧ x15 ≤ 16777215) (k16 : 1 ≤ x16 ∧ x16 ≤ 1) (k17 : 1 ≤ x17 ∧ x17 ≤ 1) (k19 : 0 ≤ x19 ∧ x19 ≤ 23) (k21 : (-40000000) ≤ x21 ∧ x21 ≤ 690000000) (k22 : (-2147483648) ≤ x22 ∧ x22 ≤ (-2147483648)) (k23 : 1 ≤ x23 ∧ x23 ≤ 24) (d0 : x11 + 1 ≤ x23 ∧ x23 ≤ x11 + 1) (d1 : x14 + (-4294967296) ≤ x23 ∧ x23 ≤ x14 + 0) (d2 : x10 + 1 ≤ x21 ∧ x21 ≤ x10 + 4294967296) (d3 : x8 + 0 ≤ x19 ∧ x19 ≤ x8 + 0) (d4 : x14 + (-4294967296) ≤ x11 ∧ x11 ≤ x14 + (-1)) (d5 : x7 + (-4294967296) ≤ x1 ∧ x1 ≤ x7 + 0) (d6 : x8 + (-4294967296) ≤ x2 ∧ x2 ≤ x8 + 0) (d7 : x1 + (-4294967296) ≤ x7 ∧ x7 ≤ x1 + 0) (d8 : x2 + (-4294967296) ≤ x8 ∧ x8 ≤ x2 + 0) (f0 : x23 = x11 + 1) (f1 : x10 < x21) (f2 : x10 ≠ x22) (h3 : x21 = x_0o5 (x11)) (f5 : x19 = x2) (h6 : x19 = level_0 (x11)) (f8 : x17 ≠ 0) (f9 : x17 = x15 % 2) (f10 : bvp (x17) = bvp (x15) &&& bvp (x16)) (f11 : bvp (x15) = bvp (x1) >>> (x11).toNat) (f12 : x11 < x14) (g13 : x14 = nodes_0o4) (f14 : TQF (level_0) (x_0o5) (x1) (x2) (x10) (x11)) (f17 : x11 ≤ nodes_0o4) (hK_0_4 : ∀ j : Int, 0 ≤ j → j < 24 → 0 ≤ level_0 j ∧ level_0 j ≤ 23) (hK_5_2 : ∀ j : Int, 0 ≤ j → j < 24 → (-40000000) ≤ x_0o5 j ∧ x_0o5 j ≤ 690000000) (kz_4_0 : 0 ≤ nodes_0o4 ∧ nodes_0o4 ≤ 24) : TQF (level_0) (x_0o5) (x1) (x2) (x21) (x23) := by
  first
    | exact tqf_start (by omega) (by omega)
    | (have q := bit_one (s := x1) (t := x15) (c := x17) (v := x11) (one := x16) (by assumption) (by assumption) (by omega) (by omega) (by omega) (by omega)
       first
         | exact tqf_skip ‹TQF _ _ _ _ _ _› (Or.inl (fun z => by have := q.mp z; omega)) (by omega)
         | exact tqf_skip ‹TQF _ _ _ _ _ _› (Or.inr (by omega)) (by omega)
         | exact tqf_keep ‹TQF _ _ _ _ _ _› (by omega) (by omega)
         | exact tqf_take (v := x11) (by omega) (q.mpr (by omega)) (by omega) (by omega) (by omega))
  
set_option maxHeartbeats 4000000 in
theorem vc_Pl_edgeOfLevel_8_1 (x1 : Int) (x2 : Int) (x7 : Int) (x8 : Int) (x10 : Int) (x11 : Int) (x14 : Int) (x15 : Int) (x16 : Int) (x17 : Int) (x19 : Int) (x21 : Int) (x22 : Int) (x23 : Int) (x_0o5 : Int → Int) (level_0 : Int → Int) (nodes_0o4 : Int) (k1 : 0 ≤ x1 ∧ x1 ≤ 16777215) (k2 : 0 ≤ x2 ∧ x2 ≤ 23) (k7 : 0 ≤ x7 ∧ x7 ≤ 16777215) (k8 : 0 ≤ x8 ∧ x8 ≤ 23) (k10 : (-2147483647) ≤ x10 ∧ x10 ≤ 689999999) (k11 : 0 ≤ x11 ∧ x11 ≤ 23) (k14 : 1 ≤ x14 ∧ x14 ≤ 24) (k15 : 0 ≤ x15 ∧ x15 ≤ 16777215) (k16 : 1 ≤ x16 ∧ x16 ≤ 1) (k17 : 1 ≤ x17 ∧ x17 ≤ 1) (k19 : 0 ≤ x19 ∧ x19 ≤ 23) (k21 : (-40000000) ≤ x21 ∧ x21 ≤ 690000000) (k22 : (-2147483648) ≤ x22 ∧ x22 ≤ (-2147483648)) (k23 : 1 ≤ x23 ∧ x23 ≤ 24) (d0 : x11 + 1 ≤ x23 ∧ x23 ≤ x11 + 1) (d1 : x14 + (-4294967296) ≤ x23 ∧ x23 ≤ x14 + 0) (d2 : x10 + 1 ≤ x21 ∧ x21 ≤ x10 + 4294967296) (d3 : x8 + 0 ≤ x19 ∧ x19 ≤ x8 + 0) (d4 : x14 + (-4294967296) ≤ x11 ∧ x11 ≤ x14 + (-1)) (d5 : x7 + (-4294967296) ≤ x1 ∧ x1 ≤ x7 + 0) (d6 : x8 + (-4294967296) ≤ x2 ∧ x2 ≤ x8 + 0) (d7 : x1 + (-4294967296) ≤ x7 ∧ x7 ≤ x1 + 0) (d8 : x2 + (-4294967296) ≤ x8 ∧ x8 ≤ x2 + 0) (f0 : x23 = x11 + 1) (f1 : x10 < x21) (f2 : x10 ≠ x22) (h3 : x21 = x_0o5 (x11)) (f5 : x19 = x2) (h6 : x19 = level_0 (x11)) (f8 : x17 ≠ 0) (f9 : x17 = x15 % 2) (f10 : bvp (x17) = bvp (x15) &&& bvp (x16)) (f11 : bvp (x15) = bvp (x1) >>> (x11).toNat) (f12 : x11 < x14) (g13 : x14 = nodes_0o4) (f14 : TQF (level_0) (x_0o5) (x1) (x2) (x10) (x11)) (f17 : x11 ≤ nodes_0o4) (hK_0_4 : ∀ j : Int, 0 ≤ j → j < 24 → 0 ≤ level_0 j ∧ level_0 j ≤ 23) (hK_5_2 : ∀ j : Int, 0 ≤ j → j < 24 → (-40000000) ≤ x_0o5 j ∧ x_0o5 j ≤ 690000000) (kz_4_0 : 0 ≤ nodes_0o4 ∧ nodes_0o4 ≤ 24) : x23 ≤ nodes_0o4 := by
  first
    | omega
  
def o_Pl_edgeOfLevel_8 : or_T := (7, 24, [(0, (2, 0, 0, [6])), (1, (0, 0, 16777215, [])), (2, (0, 0, 23, [])), (4, (2, 0, 0, [3])), (5, (2, 0, 0, [0])), (6, (2, 0, 0, [6])), (7, (0, 0, 16777215, [])), (8, (0, 0, 23, [])), (10, (0, -2147483647, 689999999, [])), (11, (0, 0, 23, [])), (12, (2, 0, 0, [3])), (13, (2, 0, 0, [0])), (14, (0, 1, 24, [])), (15, (0, 0, 16777215, [])), (16, (0, 1, 1, [])), (17, (0, 1, 1, [])), (18, (2, 0, 0, [91])), (19, (0, 0, 23, [])), (20, (2, 0, 0, [14])), (21, (0, -40000000, 690000000, [])), (22, (0, -2147483648, -2147483648, [])), (23, (0, 1, 24, []))], [(6, [23, 11], [1]), (7, [21, 10], [4]), (7, [10, 22], [1]), (10, [21, 20, 11], []), (9, [20, 13], [2]), (7, [19, 8], [0]), (10, [19, 18, 11], []), (9, [18, 6], [4]), (8, [17], [1]), (12, [17, 15], [2]), (16, [17, 15, 16], [0]), (16, [15, 7, 11], [4]), (7, [11, 14], [2]), (9, [14, 12], [0]), (20, [6, 13, 7, 8, 10, 11], [60, 0, 2, 867, 4, 1002]), (24, [4, 12], []), (24, [5, 13], []), (20, [11, 12], [50, 1, 0, 1000, 0, 2, 1, 0, 2, 1, 0]), (24, [1, 7], []), (24, [2, 8], []), (24, [0, 6], [])], [], [], [(20, [6, 13, 7, 8, 21, 23], [60, 0, 2, 867, 4, 1002]), (20, [23, 12], [50, 1, 0, 1000, 0, 2, 1, 0, 2, 1, 0])], [], [(23, 11, 1, 1), (23, 14, -4294967296, 0), (21, 10, 1, 4294967296), (19, 8, 0, 0), (11, 14, -4294967296, -1), (1, 7, -4294967296, 0), (2, 8, -4294967296, 0), (7, 1, -4294967296, 0), (8, 2, -4294967296, 0)])
theorem oo_Pl_edgeOfLevel_8 {kA : Nat → ClassId} : or_ok PRD kA GG o_Pl_edgeOfLevel_8 := by
  refine or_mk fun A ta ws vs hD hth hl => ?_
  intro t0 r0 t1 k1 t2 k2 t4 r4 t5 r5 t6 r6 t7 k7 t8 k8 t10 k10 t11 k11 t12 r12 t13 r13 t14 k14 t15 k15 t16 k16 t17 k17 t18 r18 t19 k19 t20 r20 t21 k21 t22 k22 t23 k23 d0 d1 d2 d3 d4 d5 d6 d7 d8 f0 f1 f2 f3 f4 f5 f6 f7 f8 f9 f10 f11 f12 f13 f14 f15 f16 f17 f18 f19 f20
  replace f0 := shm_4 f0
  replace f1 := shm_21 f1
  replace f2 := shm_40 f2
  replace f3 := shm_106 f3
  replace f4 := shm_129 f4
  replace f5 := shm_37 f5
  replace f6 := shm_106 f6
  replace f7 := shm_107 f7
  replace f8 := shm_154 f8
  replace f9 := shm_382 f9
  replace f10 := shm_11 f10
  replace f11 := shm_13 f11
  replace f12 := shm_6 f12
  replace f13 := shm_175 f13
  replace f14 := shm_423 f14
  replace f15 := shm_5 f15
  replace f16 := shm_5 f16
  replace f17 := shm_424 f17
  replace f18 := shm_5 f18
  replace f19 := shm_5 f19
  replace f20 := shm_5 f20
  have q12 : n_v vs 12 = n_v vs 4 := f15.symm
  have q13 : n_v vs 13 = n_v vs 5 := f16.symm
  have q7 : n_v vs 7 = n_v vs 1 := f18.symm
  have q8 : n_v vs 8 = n_v vs 2 := f19.symm
  have q6 : n_v vs 6 = n_v vs 0 := f20.symm
  simp only [q13, q8, q6, q7, q12] at f4 f5 f7 f11 f13 f14 f17
  have cr_0_4 := fdq_90 hD hth r0
  have cr_5_2 := fdq_51 hD hth r5
  have ad_20 : v_ad (n_v vs 20) = w_ar ws (n_v vs 5) 2 := congrArg v_ad f4
  have ad_18 : v_ad (n_v vs 18) = w_ar ws (n_v vs 0) 4 := congrArg v_ad f7
  simp only [ad_20] at f3
  have h3 : v_iv (n_v vs 21) = w_ei ws (w_ar ws (n_v vs 5) 2) (v_iv (n_v vs 11)) := f3
  simp only [ad_18] at f6
  have h6 : v_iv (n_v vs 19) = w_ei ws (w_ar ws (n_v vs 0) 4) (v_iv (n_v vs 11)) := f6
  have g13 : v_iv (n_v vs 14) = w_fi ws (n_v vs 4) 0 := congrArg v_iv f13
  have hK_0_4 := elq_40 hD hth cr_0_4
  have hK_5_2 := elq_9 hD hth cr_5_2
  have kz_4_0 := fdq_23 hD hth r4
  have nf0 : fc_1 PRD (20, [6, 13, 7, 8, 21, 23], [60, 0, 2, 867, 4, 1002]) ws (vs) := by
    refine ⟨nf_in hl rfl, sgq_423 ?_⟩
    · show TQF (w_ei ws (w_ar ws (n_v vs 6) 4)) (w_ei ws (w_ar ws (n_v vs 13) 2)) (v_iv (n_v vs 7)) (v_iv (n_v vs 8)) (v_iv (n_v vs 21)) (v_iv (n_v vs 23))
      simp only [q13, q7, q8, q6]
      exact vc_Pl_edgeOfLevel_8_0 (v_iv (n_v vs 1)) (v_iv (n_v vs 2)) (v_iv (n_v vs 7)) (v_iv (n_v vs 8)) (v_iv (n_v vs 10)) (v_iv (n_v vs 11)) (v_iv (n_v vs 14)) (v_iv (n_v vs 15)) (v_iv (n_v vs 16)) (v_iv (n_v vs 17)) (v_iv (n_v vs 19)) (v_iv (n_v vs 21)) (v_iv (n_v vs 22)) (v_iv (n_v vs 23)) (w_ei ws (w_ar ws (n_v vs 5) 2)) (w_ei ws (w_ar ws (n_v vs 0) 4)) (w_fi ws (n_v vs 4) 0) k1 k2 k7 k8 k10 k11 k14 k15 k16 k17 k19 k21 k22 k23 d0 d1 d2 d3 d4 d5 d6 d7 d8 f0 f1 f2 h3 f5 h6 f8 f9 f10 f11 f12 g13 f14 f17 hK_0_4 hK_5_2 kz_4_0
  have nf1 : fc_1 PRD (20, [23, 12], [50, 1, 0, 1000, 0, 2, 1, 0, 2, 1, 0]) ws (vs) := by
    refine ⟨nf_in hl rfl, sgq_424 ?_⟩
    · show v_iv (n_v vs 23) ≤ w_fi ws (n_v vs 12) 0
      rw [q12]
      exact vc_Pl_edgeOfLevel_8_1 (v_iv (n_v vs 1)) (v_iv (n_v vs 2)) (v_iv (n_v vs 7)) (v_iv (n_v vs 8)) (v_iv (n_v vs 10)) (v_iv (n_v vs 11)) (v_iv (n_v vs 14)) (v_iv (n_v vs 15)) (v_iv (n_v vs 16)) (v_iv (n_v vs 17)) (v_iv (n_v vs 19)) (v_iv (n_v vs 21)) (v_iv (n_v vs 22)) (v_iv (n_v vs 23)) (w_ei ws (w_ar ws (n_v vs 5) 2)) (w_ei ws (w_ar ws (n_v vs 0) 4)) (w_fi ws (n_v vs 4) 0) k1 k2 k7 k8 k10 k11 k14 k15 k16 k17 k19 k21 k22 k23 d0 d1 d2 d3 d4 d5 d6 d7 d8 f0 f1 f2 h3 f5 h6 f8 f9 f10 f11 f12 g13 f14 f17 hK_0_4 hK_5_2 kz_4_0
  refine ⟨(fun _ h => (by cases h)), [], trivial, ?_, (fun _ h => (by cases h))⟩
  rw [List.append_nil]
  exact List.forall_mem_cons.mpr ⟨⟨show (20 : Nat) < 100 from by decide, nf0⟩, List.forall_mem_cons.mpr ⟨⟨show (20 : Nat) < 100 from by decide, nf1⟩, (fun _ h => (by cases h))⟩⟩
def n_Pl_edgeOfLevel_an : List an_T := [(7, [(0, (2, 0, 0, [6])), (1, (0, 0, 16777215, [])), (2, (0, 0, 23, [])), (3, (0, 0, 1, [])), (4, (0, (Int.negSucc 2147483647), 690000000, [])), (5, (0, 0, 24, []))], [], (0, 0), [(0, 0, 99993), (1, 11, 24), (0, 0, 100000)], [(1, 7, (Int.negSucc 999999999999), 0), (2, 8, (Int.negSucc 999999999999), 0), (3, 9, (Int.negSucc 999999999999), 0), (7, 1, (Int.negSucc 999999999999), 0), (8, 2, (Int.negSucc 999999999999), 0), (9, 3, (Int.negSucc 999999999999), 0)], [((0, 0), (2, 0, 0, [3])), ((0, 1), (2, 0, 0, [0]))], [(2, 0, 0, [6]), (0, 0, 16777215, []), (0, 0, 23, []), (0, 0, 1, []), (2, 0, 0, [3]), (2, 0, 0, [0])], 0, [], [(20, [6, 13, 7, 8, 10, 11], [60, 0, 2, 867, 4, 1002]), (24, [4, 12], []), (24, [5, 13], []), (20, [11, 12], [50, 1, 0, 1000, 0, 2, 1, 0, 2, 1, 0]), (24, [1, 7], []), (24, [2, 8], []), (24, [0, 6], []), (24, [1, 7], []), (24, [2, 8], [])])]
def t_Pl_edgeOfLevel_ct : ct_L := []
set_option maxRecDepth 100000 in
theorem c_Pl_edgeOfLevel {l : Launch} {D : va_G} {kA : Nat → ClassId} : ct_ok PRD l D kA GG y_Pl_edgeOfLevel z_Pl_edgeOfLevel e_Pl_edgeOfLevel := chk_all_ok (FT := [(9, 6, 0), (15, 6, 1), (26, 6, 4), (74, 3, 0), (127, 0, 2)]) (PT := []) (CT := t_Pl_edgeOfLevel_ct) (KT := [(0, 149, .int (Int32.ofInt (-2147483648)), (0, -2147483648, -2147483648, []))]) (NT := []) (AN := n_Pl_edgeOfLevel_an) (OT := [o_Pl_edgeOfLevel_0, o_Pl_edgeOfLevel_1, o_Pl_edgeOfLevel_2, o_Pl_edgeOfLevel_3, o_Pl_edgeOfLevel_4, o_Pl_edgeOfLevel_5, o_Pl_edgeOfLevel_6, o_Pl_edgeOfLevel_7, o_Pl_edgeOfLevel_8]) 3 244 (List.forall_mem_cons.mpr ⟨oo_Pl_edgeOfLevel_0, List.forall_mem_cons.mpr ⟨oo_Pl_edgeOfLevel_1, List.forall_mem_cons.mpr ⟨oo_Pl_edgeOfLevel_2, List.forall_mem_cons.mpr ⟨oo_Pl_edgeOfLevel_3, List.forall_mem_cons.mpr ⟨oo_Pl_edgeOfLevel_4, List.forall_mem_cons.mpr ⟨oo_Pl_edgeOfLevel_5, List.forall_mem_cons.mpr ⟨oo_Pl_edgeOfLevel_6, List.forall_mem_cons.mpr ⟨oo_Pl_edgeOfLevel_7, List.forall_mem_cons.mpr ⟨oo_Pl_edgeOfLevel_8, List.forall_mem_nil _⟩⟩⟩⟩⟩⟩⟩⟩⟩) (by decide +kernel) ⟨List.forall_mem_cons.mpr ⟨gf_Pl_9, List.forall_mem_cons.mpr ⟨gf_Pl_15, List.forall_mem_cons.mpr ⟨gf_Pl_26, List.forall_mem_cons.mpr ⟨gf_Pl_74, List.forall_mem_cons.mpr ⟨gf_Pl_127, List.forall_mem_nil _⟩⟩⟩⟩⟩, List.forall_mem_nil _, List.forall_mem_nil _, List.forall_mem_cons.mpr ⟨kx_Pl_0_149, List.forall_mem_nil _⟩, List.forall_mem_nil _, GG_pl⟩ (by decide +kernel)
set_option maxHeartbeats 4000000 in
theorem vc_Pl_leastOfPart_0_0 (x2 : Int) (x4 : Int) (part_0o1 : Int → Int) (nodes_0o3 : Int) (k2 : 0 ≤ x2 ∧ x2 ≤ 23) (k4 : 0 ≤ x4 ∧ x4 ≤ 0) (f0 : FPE (nodes_0o3) (part_0o1) (x2)) (hK_1_4 : ∀ j : Int, 0 ≤ j → j < 24 → (-1) ≤ part_0o1 j ∧ part_0o1 j ≤ 24) (kz_3_0 : 0 ≤ nodes_0o3 ∧ nodes_0o3 ≤ 24) : FPF (nodes_0o3) (part_0o1) (x2) (x4) := by
  first
    | exact fpf_start ‹FPE _ _ _› (by omega)
    | exact fpf_skip ‹FPF _ _ _ _› (by assumption) (by omega) (by omega)
  
def o_Pl_leastOfPart_0 : or_T := (2, 5, [(1, (2, 0, 0, [2])), (2, (0, 0, 23, [])), (3, (2, 0, 0, [3])), (4, (0, 0, 0, []))], [(20, [3, 1, 2], [60, 1, 1, 681, 0, 1004])], [], [], [(20, [3, 1, 2, 4], [60, 1, 1, 682, 0, 1004]), (24, [3, 3], []), (24, [1, 1], []), (24, [2, 2], []), (24, [0, 0], []), (24, [1, 1], []), (24, [2, 2], [])], [], [])
theorem oo_Pl_leastOfPart_0 {kA : Nat → ClassId} : or_ok PRD kA GG o_Pl_leastOfPart_0 := by
  refine or_mk fun A ta ws vs hD hth hl => ?_
  intro t1 r1 t2 k2 t3 r3 t4 k4 f0
  have cr_1_4 := fdq_91 hD hth r1
  have hK_1_4 := elq_28 hD hth cr_1_4
  have kz_3_0 := fdq_23 hD hth r3
  have nf0 : fc_1 PRD (20, [3, 1, 2, 4], [60, 1, 1, 682, 0, 1004]) ws (vs) := ⟨nf_in hl rfl, sgq_427 (vc_Pl_leastOfPart_0_0 (v_iv (n_v vs 2)) (v_iv (n_v vs 4)) (w_ei ws (w_ar ws (n_v vs 1) 4)) (w_fi ws (n_v vs 3) 0) k2 k4 (shm_426 f0) hK_1_4 kz_3_0)⟩
  have nf1 : fc_1 PRD (24, [3, 3], []) ws (vs) := by
    refine ⟨nf_in hl rfl, sgq_1 ?_⟩
    · show n_v vs 3 = n_v vs 3
      first | rfl | simp only [true_and]
  have nf2 : fc_1 PRD (24, [1, 1], []) ws (vs) := by
    refine ⟨nf_in hl rfl, sgq_1 ?_⟩
    · show n_v vs 1 = n_v vs 1
      first | rfl | simp only [true_and]
  have nf3 : fc_1 PRD (24, [2, 2], []) ws (vs) := by
    refine ⟨nf_in hl rfl, sgq_1 ?_⟩
    · show n_v vs 2 = n_v vs 2
      first | rfl | simp only [true_and]
  have nf4 : fc_1 PRD (24, [0, 0], []) ws (vs) := by
    refine ⟨nf_in hl rfl, sgq_1 ?_⟩
    · show n_v vs 0 = n_v vs 0
      first | rfl | simp only [true_and]
  have nf5 : fc_1 PRD (24, [1, 1], []) ws (vs) := by
    refine ⟨nf_in hl rfl, sgq_1 ?_⟩
    · show n_v vs 1 = n_v vs 1
      first | rfl | simp only [true_and]
  have nf6 : fc_1 PRD (24, [2, 2], []) ws (vs) := by
    refine ⟨nf_in hl rfl, sgq_1 ?_⟩
    · show n_v vs 2 = n_v vs 2
      first | rfl | simp only [true_and]
  refine ⟨(fun _ h => (by cases h)), [], trivial, ?_, (fun _ h => (by cases h))⟩
  rw [List.append_nil]
  exact List.forall_mem_cons.mpr ⟨⟨show (20 : Nat) < 100 from by decide, nf0⟩, List.forall_mem_cons.mpr ⟨⟨show (24 : Nat) < 100 from by decide, nf1⟩, List.forall_mem_cons.mpr ⟨⟨show (24 : Nat) < 100 from by decide, nf2⟩, List.forall_mem_cons.mpr ⟨⟨show (24 : Nat) < 100 from by decide, nf3⟩, List.forall_mem_cons.mpr ⟨⟨show (24 : Nat) < 100 from by decide, nf4⟩, List.forall_mem_cons.mpr ⟨⟨show (24 : Nat) < 100 from by decide, nf5⟩, List.forall_mem_cons.mpr ⟨⟨show (24 : Nat) < 100 from by decide, nf6⟩, (fun _ h => (by cases h))⟩⟩⟩⟩⟩⟩⟩
set_option maxHeartbeats 4000000 in
theorem vc_Pl_leastOfPart_1_0 (x2 : Int) (x6 : Int) (x7 : Int) (x9 : Int) (x10 : Int) (nodes_0o3 : Int) (part_0o1 : Int → Int) (k2 : 0 ≤ x2 ∧ x2 ≤ 23) (k6 : 0 ≤ x6 ∧ x6 ≤ 23) (k7 : 0 ≤ x7 ∧ x7 ≤ 24) (k9 : 0 ≤ x9 ∧ x9 ≤ 24) (k10 : 0 ≤ x10 ∧ x10 ≤ 0) (d0 : x9 + 0 ≤ x7 ∧ x7 ≤ x9 + 4294967296) (d1 : x6 + (-4294967296) ≤ x2 ∧ x2 ≤ x6 + 0) (d2 : x2 + (-4294967296) ≤ x6 ∧ x6 ≤ x2 + 0) (f0 : x9 ≤ x7) (g1 : x9 = nodes_0o3) (f2 : FPF (nodes_0o3) (part_0o1) (x2) (x7)) (hK_1_4 : ∀ j : Int, 0 ≤ j → j < 24 → (-1) ≤ part_0o1 j ∧ part_0o1 j ≤ 24) (kz_3_0 : 0 ≤ nodes_0o3 ∧ nodes_0o3 ≤ 24) : RTP (part_0o1) (x10) (x2) := by
  first
    | (obtain ⟨u, u0, u1, u2, u3⟩ := (‹FPF _ _ _ _›); exfalso; omega)
    | (show part_0o1 x7 = x2; omega)
  
set_option maxHeartbeats 4000000 in
theorem vc_Pl_leastOfPart_1_1 (x2 : Int) (x6 : Int) (x7 : Int) (x9 : Int) (x10 : Int) (nodes_0o3 : Int) (part_0o1 : Int → Int) (k2 : 0 ≤ x2 ∧ x2 ≤ 23) (k6 : 0 ≤ x6 ∧ x6 ≤ 23) (k7 : 0 ≤ x7 ∧ x7 ≤ 24) (k9 : 0 ≤ x9 ∧ x9 ≤ 24) (k10 : 0 ≤ x10 ∧ x10 ≤ 0) (d0 : x9 + 0 ≤ x7 ∧ x7 ≤ x9 + 4294967296) (d1 : x6 + (-4294967296) ≤ x2 ∧ x2 ≤ x6 + 0) (d2 : x2 + (-4294967296) ≤ x6 ∧ x6 ≤ x2 + 0) (f0 : x9 ≤ x7) (g1 : x9 = nodes_0o3) (f2 : FPF (nodes_0o3) (part_0o1) (x2) (x7)) (hK_1_4 : ∀ j : Int, 0 ≤ j → j < 24 → (-1) ≤ part_0o1 j ∧ part_0o1 j ≤ 24) (kz_3_0 : 0 ≤ nodes_0o3 ∧ nodes_0o3 ≤ 24) : (0 ≤ x10) ∧ ((x10 + 1) ≤ nodes_0o3) := by
  first
    | omega
    | (obtain ⟨u, u0, u1, u2, u3⟩ := (‹FPF _ _ _ _›); omega)
  
def o_Pl_leastOfPart_1 : or_T := (32, 11, [(1, (2, 0, 0, [2])), (2, (0, 0, 23, [])), (3, (2, 0, 0, [3])), (6, (0, 0, 23, [])), (7, (0, 0, 24, [])), (9, (0, 0, 24, [])), (10, (0, 0, 0, []))], [(7, [7, 9], [3]), (9, [9, 8], [0]), (20, [8, 5, 6, 7], [60, 1, 1, 682, 0, 1004]), (24, [3, 8], []), (24, [1, 5], []), (24, [2, 6], [])], [], [], [(20, [1, 10, 2], [60, 0, 1, 680, 4]), (20, [10, 3], [50, 1, 0, 1000, 2, 6, 0, 2, 0, 0, 1, 0, 0, 6, 4, 2, 1, 0, 0, 1, 2, 1, 0])], [], [(7, 9, 0, 4294967296), (2, 6, -4294967296, 0), (6, 2, -4294967296, 0)])
theorem oo_Pl_leastOfPart_1 {kA : Nat → ClassId} : or_ok PRD kA GG o_Pl_leastOfPart_1 := by
  refine or_mk fun A ta ws vs hD hth hl => ?_
  intro t1 r1 t2 k2 t3 r3 t6 k6 t7 k7 t9 k9 t10 k10 d0 d1 d2 f0 f1 f2 f3 f4 f5
  replace f1 := shm_175 f1
  replace f2 := shm_427 f2
  replace f3 := shm_5 f3
  replace f4 := shm_5 f4
  replace f5 := shm_5 f5
  have q8 : n_v vs 8 = n_v vs 3 := f3.symm
  have q5 : n_v vs 5 = n_v vs 1 := f4.symm
  have q6 : n_v vs 6 = n_v vs 2 := f5.symm
  simp only [q8, q5, q6] at f1 f2
  have cr_1_4 := fdq_91 hD hth r1
  have g1 : v_iv (n_v vs 9) = w_fi ws (n_v vs 3) 0 := congrArg v_iv f1
  have hK_1_4 := elq_28 hD hth cr_1_4
  have kz_3_0 := fdq_23 hD hth r3
  have nf0 : fc_1 PRD (20, [1, 10, 2], [60, 0, 1, 680, 4]) ws (vs) := ⟨nf_in hl rfl, sgq_428 (vc_Pl_leastOfPart_1_0 (v_iv (n_v vs 2)) (v_iv (n_v vs 6)) (v_iv (n_v vs 7)) (v_iv (n_v vs 9)) (v_iv (n_v vs 10)) (w_fi ws (n_v vs 3) 0) (w_ei ws (w_ar ws (n_v vs 1) 4)) k2 k6 k7 k9 k10 d0 d1 d2 (shm_2 f0) g1 f2 hK_1_4 kz_3_0)⟩
  have nf1 : fc_1 PRD (20, [10, 3], [50, 1, 0, 1000, 2, 6, 0, 2, 0, 0, 1, 0, 0, 6, 4, 2, 1, 0, 0, 1, 2, 1, 0]) ws (vs) := ⟨nf_in hl rfl, sgq_429 (vc_Pl_leastOfPart_1_1 (v_iv (n_v vs 2)) (v_iv (n_v vs 6)) (v_iv (n_v vs 7)) (v_iv (n_v vs 9)) (v_iv (n_v vs 10)) (w_fi ws (n_v vs 3) 0) (w_ei ws (w_ar ws (n_v vs 1) 4)) k2 k6 k7 k9 k10 d0 d1 d2 (shm_2 f0) g1 f2 hK_1_4 kz_3_0)⟩
  refine ⟨(fun _ h => (by cases h)), [], trivial, ?_, (fun _ h => (by cases h))⟩
  rw [List.append_nil]
  exact List.forall_mem_cons.mpr ⟨⟨show (20 : Nat) < 100 from by decide, nf0⟩, List.forall_mem_cons.mpr ⟨⟨show (20 : Nat) < 100 from by decide, nf1⟩, (fun _ h => (by cases h))⟩⟩
set_option maxHeartbeats 4000000 in
theorem vc_Pl_leastOfPart_2_0 (x2 : Int) (x6 : Int) (x7 : Int) (x9 : Int) (x11 : Int) (x12 : Int) (part_0o1 : Int → Int) (nodes_0o3 : Int) (k2 : 0 ≤ x2 ∧ x2 ≤ 23) (k6 : 0 ≤ x6 ∧ x6 ≤ 23) (k7 : 0 ≤ x7 ∧ x7 ≤ 23) (k9 : 1 ≤ x9 ∧ x9 ≤ 24) (k11 : (-1) ≤ x11 ∧ x11 ≤ 24) (k12 : 1 ≤ x12 ∧ x12 ≤ 24) (d0 : x7 + 1 ≤ x12 ∧ x12 ≤ x7 + 1) (d1 : x9 + (-4294967296) ≤ x12 ∧ x12 ≤ x9 + 0) (d2 : x9 + (-4294967296) ≤ x7 ∧ x7 ≤ x9 + (-1)) (d3 : x6 + (-4294967296) ≤ x2 ∧ x2 ≤ x6 + 0) (d4 : x2 + (-4294967296) ≤ x6 ∧ x6 ≤ x2 + 0) (f0 : x12 = x7 + 1) (f1 : x11 ≠ x2) (h2 : x11 = part_0o1 (x7)) (f4 : x7 < x9) (g5 : x9 = nodes_0o3) (f6 : FPF (nodes_0o3) (part_0o1) (x2) (x7)) (hK_1_4 : ∀ j : Int, 0 ≤ j → j < 24 → (-1) ≤ part_0o1 j ∧ part_0o1 j ≤ 24) (kz_3_0 : 0 ≤ nodes_0o3 ∧ nodes_0o3 ≤ 24) : FPF (nodes_0o3) (part_0o1) (x2) (x12) := by
  first
    | exact fpf_start ‹FPE _ _ _› (by omega)
    | exact fpf_skip ‹FPF _ _ _ _› (by assumption) (by omega) (by omega)
  
def o_Pl_leastOfPart_2 : or_T := (2, 13, [(1, (2, 0, 0, [2])), (2, (0, 0, 23, [])), (3, (2, 0, 0, [3])), (6, (0, 0, 23, [])), (7, (0, 0, 23, [])), (9, (0, 1, 24, [])), (11, (0, -1, 24, [])), (12, (0, 1, 24, []))], [(6, [12, 7], [1]), (7, [11, 6], [1]), (10, [11, 10, 7], []), (9, [10, 5], [4]), (7, [7, 9], [2]), (9, [9, 8], [0]), (20, [8, 5, 6, 7], [60, 1, 1, 682, 0, 1004]), (24, [3, 8], []), (24, [1, 5], []), (24, [2, 6], [])], [], [], [(20, [8, 5, 6, 12], [60, 1, 1, 682, 0, 1004])], [], [(12, 7, 1, 1), (12, 9, -4294967296, 0), (7, 9, -4294967296, -1), (2, 6, -4294967296, 0), (6, 2, -4294967296, 0)])
theorem oo_Pl_leastOfPart_2 {kA : Nat → ClassId} : or_ok PRD kA GG o_Pl_leastOfPart_2 := by
  refine or_mk fun A ta ws vs hD hth hl => ?_
  intro t1 r1 t2 k2 t3 r3 t6 k6 t7 k7 t9 k9 t11 k11 t12 k12 d0 d1 d2 d3 d4 f0 f1 f2 f3 f4 f5 f6 f7 f8 f9
  replace f0 := shm_4 f0
  replace f1 := shm_40 f1
  replace f2 := shm_106 f2
  replace f3 := shm_107 f3
  replace f4 := shm_6 f4
  replace f5 := shm_175 f5
  replace f6 := shm_427 f6
  replace f7 := shm_5 f7
  replace f8 := shm_5 f8
  replace f9 := shm_5 f9
  have q8 : n_v vs 8 = n_v vs 3 := f7.symm
  have q5 : n_v vs 5 = n_v vs 1 := f8.symm
  have q6 : n_v vs 6 = n_v vs 2 := f9.symm
  simp only [q6, q5, q8] at f1 f3 f5 f6
  have cr_1_4 := fdq_91 hD hth r1
  have ad_10 : v_ad (n_v vs 10) = w_ar ws (n_v vs 1) 4 := congrArg v_ad f3
  simp only [ad_10] at f2
  have h2 : v_iv (n_v vs 11) = w_ei ws (w_ar ws (n_v vs 1) 4) (v_iv (n_v vs 7)) := f2
  have g5 : v_iv (n_v vs 9) = w_fi ws (n_v vs 3) 0 := congrArg v_iv f5
  have hK_1_4 := elq_28 hD hth cr_1_4
  have kz_3_0 := fdq_23 hD hth r3
  have nf0 : fc_1 PRD (20, [8, 5, 6, 12], [60, 1, 1, 682, 0, 1004]) ws (vs) := by
    refine ⟨nf_in hl rfl, sgq_427 ?_⟩
    · show FPF (w_fi ws (n_v vs 8) 0) (w_ei ws (w_ar ws (n_v vs 5) 4)) (v_iv (n_v vs 6)) (v_iv (n_v vs 12))
      simp only [q8, q5, q6]
      exact vc_Pl_leastOfPart_2_0 (v_iv (n_v vs 2)) (v_iv (n_v vs 6)) (v_iv (n_v vs 7)) (v_iv (n_v vs 9)) (v_iv (n_v vs 11)) (v_iv (n_v vs 12)) (w_ei ws (w_ar ws (n_v vs 1) 4)) (w_fi ws (n_v vs 3) 0) k2 k6 k7 k9 k11 k12 d0 d1 d2 d3 d4 f0 f1 h2 f4 g5 f6 hK_1_4 kz_3_0
  refine ⟨(fun _ h => (by cases h)), [], trivial, ?_, (fun _ h => (by cases h))⟩
  rw [List.append_nil]
  exact List.forall_mem_cons.mpr ⟨⟨show (20 : Nat) < 100 from by decide, nf0⟩, (fun _ h => (by cases h))⟩
set_option maxHeartbeats 4000000 in
theorem vc_Pl_leastOfPart_3_0 (x2 : Int) (x6 : Int) (x7 : Int) (x9 : Int) (x11 : Int) (part_0o1 : Int → Int) (nodes_0o3 : Int) (k2 : 0 ≤ x2 ∧ x2 ≤ 23) (k6 : 0 ≤ x6 ∧ x6 ≤ 23) (k7 : 0 ≤ x7 ∧ x7 ≤ 23) (k9 : 1 ≤ x9 ∧ x9 ≤ 24) (k11 : 0 ≤ x11 ∧ x11 ≤ 23) (d0 : x6 + 0 ≤ x11 ∧ x11 ≤ x6 + 0) (d1 : x9 + (-4294967296) ≤ x7 ∧ x7 ≤ x9 + (-1)) (d2 : x6 + (-4294967296) ≤ x2 ∧ x2 ≤ x6 + 0) (d3 : x2 + (-4294967296) ≤ x6 ∧ x6 ≤ x2 + 0) (f0 : x11 = x2) (h1 : x11 = part_0o1 (x7)) (f3 : x7 < x9) (g4 : x9 = nodes_0o3) (f5 : FPF (nodes_0o3) (part_0o1) (x2) (x7)) (hK_1_4 : ∀ j : Int, 0 ≤ j → j < 24 → (-1) ≤ part_0o1 j ∧ part_0o1 j ≤ 24) (kz_3_0 : 0 ≤ nodes_0o3 ∧ nodes_0o3 ≤ 24) : RTP (part_0o1) (x7) (x2) := by
  first
    | (obtain ⟨u, u0, u1, u2, u3⟩ := (‹FPF _ _ _ _›); exfalso; omega)
    | (show part_0o1 x7 = x2; omega)
  
set_option maxHeartbeats 4000000 in
theorem vc_Pl_leastOfPart_3_1 (x2 : Int) (x6 : Int) (x7 : Int) (x9 : Int) (x11 : Int) (part_0o1 : Int → Int) (nodes_0o3 : Int) (k2 : 0 ≤ x2 ∧ x2 ≤ 23) (k6 : 0 ≤ x6 ∧ x6 ≤ 23) (k7 : 0 ≤ x7 ∧ x7 ≤ 23) (k9 : 1 ≤ x9 ∧ x9 ≤ 24) (k11 : 0 ≤ x11 ∧ x11 ≤ 23) (d0 : x6 + 0 ≤ x11 ∧ x11 ≤ x6 + 0) (d1 : x9 + (-4294967296) ≤ x7 ∧ x7 ≤ x9 + (-1)) (d2 : x6 + (-4294967296) ≤ x2 ∧ x2 ≤ x6 + 0) (d3 : x2 + (-4294967296) ≤ x6 ∧ x6 ≤ x2 + 0) (f0 : x11 = x2) (h1 : x11 = part_0o1 (x7)) (f3 : x7 < x9) (g4 : x9 = nodes_0o3) (f5 : FPF (nodes_0o3) (part_0o1) (x2) (x7)) (hK_1_4 : ∀ j : Int, 0 ≤ j → j < 24 → (-1) ≤ part_0o1 j ∧ part_0o1 j ≤ 24) (kz_3_0 : 0 ≤ nodes_0o3 ∧ nodes_0o3 ≤ 24) : (0 ≤ x7) ∧ ((x7 + 1) ≤ nodes_0o3) := by
  first
    | omega
    | (obtain ⟨u, u0, u1, u2, u3⟩ := (‹FPF _ _ _ _›); omega)
  
def o_Pl_leastOfPart_3 : or_T := (24, 12, [(1, (2, 0, 0, [2])), (2, (0, 0, 23, [])), (3, (2, 0, 0, [3])), (6, (0, 0, 23, [])), (7, (0, 0, 23, [])), (9, (0, 1, 24, [])), (11, (0, 0, 23, []))], [(7, [11, 6], [0]), (10, [11, 10, 7], []), (9, [10, 5], [4]), (7, [7, 9], [2]), (9, [9, 8], [0]), (20, [8, 5, 6, 7], [60, 1, 1, 682, 0, 1004]), (24, [3, 8], []), (24, [1, 5], []), (24, [2, 6], [])], [], [], [(20, [1, 7, 2], [60, 0, 1, 680, 4]), (20, [7, 3], [50, 1, 0, 1000, 2, 6, 0, 2, 0, 0, 1, 0, 0, 6, 4, 2, 1, 0, 0, 1, 2, 1, 0])], [], [(11, 6, 0, 0), (7, 9, -4294967296, -1), (2, 6, -4294967296, 0), (6, 2, -4294967296, 0)])
theorem oo_Pl_leastOfPart_3 {kA : Nat → ClassId} : or_ok PRD kA GG o_Pl_leastOfPart_3 := by
  refine or_mk fun A ta ws vs hD hth hl => ?_
  intro t1 r1 t2 k2 t3 r3 t6 k6 t7 k7 t9 k9 t11 k11 d0 d1 d2 d3 f0 f1 f2 f3 f4 f5 f6 f7 f8
  replace f0 := shm_37 f0
  replace f1 := shm_106 f1
  replace f2 := shm_107 f2
  replace f4 := shm_175 f4
  replace f5 := shm_427 f5
  replace f6 := shm_5 f6
  replace f7 := shm_5 f7
  replace f8 := shm_5 f8
  have q8 : n_v vs 8 = n_v vs 3 := f6.symm
  have q5 : n_v vs 5 = n_v vs 1 := f7.symm
  have q6 : n_v vs 6 = n_v vs 2 := f8.symm
  simp only [q6, q5, q8] at f0 f2 f4 f5
  have cr_1_4 := fdq_91 hD hth r1
  have ad_10 : v_ad (n_v vs 10) = w_ar ws (n_v vs 1) 4 := congrArg v_ad f2
  simp only [ad_10] at f1
  have h1 : v_iv (n_v vs 11) = w_ei ws (w_ar ws (n_v vs 1) 4) (v_iv (n_v vs 7)) := f1
  have g4 : v_iv (n_v vs 9) = w_fi ws (n_v vs 3) 0 := congrArg v_iv f4
  have hK_1_4 := elq_28 hD hth cr_1_4
  have kz_3_0 := fdq_23 hD hth r3
  have nf0 : fc_1 PRD (20, [1, 7, 2], [60, 0, 1, 680, 4]) ws (vs) := ⟨nf_in hl rfl, sgq_428 (vc_Pl_leastOfPart_3_0 (v_iv (n_v vs 2)) (v_iv (n_v vs 6)) (v_iv (n_v vs 7)) (v_iv (n_v vs 9)) (v_iv (n_v vs 11)) (w_ei ws (w_ar ws (n_v vs 1) 4)) (w_fi ws (n_v vs 3) 0) k2 k6 k7 k9 k11 d0 d1 d2 d3 f0 h1 (shm_6 f3) g4 f5 hK_1_4 kz_3_0)⟩
  have nf1 : fc_1 PRD (20, [7, 3], [50, 1, 0, 1000, 2, 6, 0, 2, 0, 0, 1, 0, 0, 6, 4, 2, 1, 0, 0, 1, 2, 1, 0]) ws (vs) := ⟨nf_in hl rfl, sgq_429 (vc_Pl_leastOfPart_3_1 (v_iv (n_v vs 2)) (v_iv (n_v vs 6)) (v_iv (n_v vs 7)) (v_iv (n_v vs 9)) (v_iv (n_v vs 11)) (w_ei ws (w_ar ws (n_v vs 1) 4)) (w_fi ws (n_v vs 3) 0) k2 k6 k7 k9 k11 d0 d1 d2 d3 f0 h1 (shm_6 f3) g4 f5 hK_1_4 kz_3_0)⟩
  refine ⟨(fun _ h => (by cases h)), [], trivial, ?_, (fun _ h => (by cases h))⟩
  rw [List.append_nil]
  exact List.forall_mem_cons.mpr ⟨⟨show (20 : Nat) < 100 from by decide, nf0⟩, List.forall_mem_cons.mpr ⟨⟨show (20 : Nat) < 100 from by decide, nf1⟩, (fun _ h => (by cases h))⟩⟩
def n_Pl_leastOfPart_an : List an_T := [(2, [(0, (2, 0, 0, [6])), (1, (2, 0, 0, [2])), (2, (0, 0, 23, [])), (3, (0, 0, 24, []))], [], (0, 0), [(0, 0, 99998), (1, 7, 24), (0, 0, 100000)], [(2, 6, (Int.negSucc 999999999999), 0), (6, 2, (Int.negSucc 999999999999), 0)], [((0, 0), (2, 0, 0, [3]))], [(2, 0, 0, [6]), (2, 0, 0, [2]), (0, 0, 23, []), (2, 0, 0, [3])], 0, [], [(20, [8, 5, 6, 7], [60, 1, 1, 682, 0, 1004]), (24, [3, 8], []), (24, [1, 5], []), (24, [2, 6], []), (24, [0, 4], []), (24, [1, 5], []), (24, [2, 6], [])])]
def t_Pl_leastOfPart_ct : ct_L := []
set_option maxRecDepth 100000 in
theorem c_Pl_leastOfPart {l : Launch} {D : va_G} {kA : Nat → ClassId} : ct_ok PRD l D kA GG y_Pl_leastOfPart z_Pl_leastOfPart e_Pl_leastOfPart := chk_all_ok (FT := [(9, 6, 0), (74, 3, 0), (109, 2, 4)]) (PT := []) (CT := t_Pl_leastOfPart_ct) (KT := []) (NT := []) (AN := n_Pl_leastOfPart_an) (OT := [o_Pl_leastOfPart_0, o_Pl_leastOfPart_1, o_Pl_leastOfPart_2, o_Pl_leastOfPart_3]) 3 200 (List.forall_mem_cons.mpr ⟨oo_Pl_leastOfPart_0, List.forall_mem_cons.mpr ⟨oo_Pl_leastOfPart_1, List.forall_mem_cons.mpr ⟨oo_Pl_leastOfPart_2, List.forall_mem_cons.mpr ⟨oo_Pl_leastOfPart_3, List.forall_mem_nil _⟩⟩⟩⟩) (by decide +kernel) ⟨List.forall_mem_cons.mpr ⟨gf_Pl_9, List.forall_mem_cons.mpr ⟨gf_Pl_74, List.forall_mem_cons.mpr ⟨gf_Pl_109, List.forall_mem_nil _⟩⟩⟩, List.forall_mem_nil _, List.forall_mem_nil _, List.forall_mem_nil _, List.forall_mem_nil _, GG_pl⟩ (by decide +kernel)
set_option maxHeartbeats 4000000 in
theorem vc_Pl_setArea_0_0 (x1 : Int) (x2 : Int) (x3 : Int) (x4 : Int) (x5 : Int) (x8 : Int) (x9 : Int) (x10 : Int) (x11 : Int) (x12 : Int) (x13 : Int) (x14 : Int) (x15 : Int) (x16 : Int) (x17 : Int) (x18 : Int) (x19 : Int) (x20 : Int) (x21 : Int) (area_4o6 : Int → Int) (area_0o6 : Int → Int) (area_1o6 : Int → Int) (area_2o6 : Int → Int) (area_3o6 : Int → Int) (k1 : 0 ≤ x1 ∧ x1 ≤ 31) (k2 : 0 ≤ x2 ∧ x2 ≤ 512) (k3 : 0 ≤ x3 ∧ x3 ≤ 512) (k4 : (-512) ≤ x4 ∧ x4 ≤ 512) (k5 : (-512) ≤ x5 ∧ x5 ≤ 512) (k8 : 4 ≤ x8 ∧ x8 ≤ 4) (k9 : 0 ≤ x9 ∧ x9 ≤ 124) (k10 : 4 ≤ x10 ∧ x10 ≤ 4) (k11 : 0 ≤ x11 ∧ x11 ≤ 124) (k12 : 1 ≤ x12 ∧ x12 ≤ 1) (k13 : 1 ≤ x13 ∧ x13 ≤ 125) (k14 : 4 ≤ x14 ∧ x14 ≤ 4) (k15 : 0 ≤ x15 ∧ x15 ≤ 124) (k16 : 2 ≤ x16 ∧ x16 ≤ 2) (k17 : 2 ≤ x17 ∧ x17 ≤ 126) (k18 : 4 ≤ x18 ∧ x18 ≤ 4) (k19 : 0 ≤ x19 ∧ x19 ≤ 124) (k20 : 3 ≤ x20 ∧ x20 ≤ 3) (k21 : 3 ≤ x21 ∧ x21 ≤ 127) (d0 : x19 + 3 ≤ x21 ∧ x21 ≤ x19 + 3) (d1 : x15 + 2 ≤ x17 ∧ x17 ≤ x15 + 2) (d2 : x11 + 1 ≤ x13 ∧ x13 ≤ x11 + 1) (f1 : HUL (x2) (x4)) (f2 : HUL (x3) (x5)) (f4 : x21 = x19 + x20) (f5 : x19 = 4 * x1) (f6 : HUL (x2) (x4)) (f7 : HUL (x3) (x5)) (f9 : x17 = x15 + x16) (f10 : x15 = 4 * x1) (f11 : HUL (x2) (x4)) (f12 : HUL (x3) (x5)) (f14 : x13 = x11 + x12) (f15 : x11 = 4 * x1) (f16 : HUL (x2) (x4)) (f17 : HUL (x3) (x5)) (f19 : x9 = 4 * x1) (f20 : HUL (x2) (x4)) (f21 : HUL (x3) (x5)) (f22 : BXA (area_4o6)) (hE_6_13_1 : ∀ j : Int, 0 ≤ j → (j = x21 → area_0o6 j = x5) ∧ (j ≠ x21 → area_0o6 j = area_1o6 j)) (hE_6_13_2 : ∀ j : Int, 0 ≤ j → (j = x17 → area_1o6 j = x4) ∧ (j ≠ x17 → area_1o6 j = area_2o6 j)) (hE_6_13_3 : ∀ j : Int, 0 ≤ j → (j = x13 → area_2o6 j = x3) ∧ (j ≠ x13 → area_2o6 j = area_3o6 j)) (hE_6_13_4 : ∀ j : Int, 0 ≤ j → (j = x9 → area_3o6 j = x2) ∧ (j ≠ x9 → area_3o6 j = area_4o6 j)) (hK_6_13 : ∀ j : Int, 0 ≤ j → j < 128 → (-512) ≤ area_0o6 j ∧ area_0o6 j ≤ 512) : BXA (area_0o6) := by
  first
    | exact bxa_set (i := x1) ‹BXA _› (by omega) (show HUL x2 x4 by assumption) (show HUL x3 x5 by assumption) hE_6_13_4 hE_6_13_3 hE_6_13_2 hE_6_13_1 (by omega) (by omega) (by omega) (by omega)
  
def o_Pl_setArea_0 : or_T := (56, 22, [(1, (0, 0, 31, [])), (2, (0, 0, 512, [])), (3, (0, 0, 512, [])), (4, (0, -512, 512, [])), (5, (0, -512, 512, [])), (6, (2, 0, 0, [0])), (8, (0, 4, 4, [])), (9, (0, 0, 124, [])), (10, (0, 4, 4, [])), (11, (0, 0, 124, [])), (12, (0, 1, 1, [])), (13, (0, 1, 125, [])), (14, (0, 4, 4, [])), (15, (0, 0, 124, [])), (16, (0, 2, 2, [])), (17, (0, 2, 126, [])), (18, (0, 4, 4, [])), (19, (0, 0, 124, [])), (20, (0, 3, 3, [])), (21, (0, 3, 127, []))], [(9, [7, 6], [13]), (20, [2, 4], [61, 0, 791]), (20, [3, 5], [61, 0, 791]), (100, [7, 21, 5], []), (1, [21, 19, 20], []), (3, [19, 18, 1], []), (20, [2, 4], [61, 0, 791]), (20, [3, 5], [61, 0, 791]), (100, [7, 17, 4], []), (1, [17, 15, 16], []), (3, [15, 14, 1], []), (20, [2, 4], [61, 0, 791]), (20, [3, 5], [61, 0, 791]), (100, [7, 13, 3], []), (1, [13, 11, 12], []), (3, [11, 10, 1], []), (20, [2, 4], [61, 0, 791]), (20, [3, 5], [61, 0, 791]), (100, [7, 9, 2], []), (3, [9, 8, 1], []), (20, [2, 4], [61, 0, 791]), (20, [3, 5], [61, 0, 791]), (20, [6], [60, 0, 1, 844, 13])], [], [], [(20, [6], [60, 0, 1, 844, 13])], [], [(21, 19, 3, 3), (17, 15, 2, 2), (13, 11, 1, 1)])
theorem oo_Pl_setArea_0 {kA : Nat → ClassId} : or_ok PRD kA GG o_Pl_setArea_0 := by
  refine or_mk fun A ta ws vs hD hth hl => ?_
  intro t1 k1 t2 k2 t3 k3 t4 k4 t5 k5 t6 r6 t8 k8 t9 k9 t10 k10 t11 k11 t12 k12 t13 k13 t14 k14 t15 k15 t16 k16 t17 k17 t18 k18 t19 k19 t20 k20 t21 k21 d0 d1 d2 f0 f1 f2 ta1 w1 le1 s1 f4 f5 f6 f7 ta2 w2 le2 s2 f9 f10 f11 f12 ta3 w3 le3 s3 f14 f15 f16 f17 ta4 w4 le4 s4 f19 f20 f21 f22
  replace f0 := shm_379 f0
  have s1 : (∀ b j, w_el ws b j = if b = v_ad (n_v vs 7) ∧ j = (v_iv (n_v vs 21)).toNat then v_iv (n_v vs 5) else w_el w1 b j) ∧ ∀ b k, w_fd ws b k = w_fd w1 b k := s1.2
  replace f5 := shm_38 f5
  rw [show v_iv (n_v vs 18) = 4 from by omega] at f5
  have s2 : (∀ b j, w_el w1 b j = if b = v_ad (n_v vs 7) ∧ j = (v_iv (n_v vs 17)).toNat then v_iv (n_v vs 4) else w_el w2 b j) ∧ ∀ b k, w_fd w1 b k = w_fd w2 b k := s2.2
  replace f10 := shm_38 f10
  rw [show v_iv (n_v vs 14) = 4 from by omega] at f10
  have s3 : (∀ b j, w_el w2 b j = if b = v_ad (n_v vs 7) ∧ j = (v_iv (n_v vs 13)).toNat then v_iv (n_v vs 3) else w_el w3 b j) ∧ ∀ b k, w_fd w2 b k = w_fd w3 b k := s3.2
  replace f15 := shm_38 f15
  rw [show v_iv (n_v vs 10) = 4 from by omega] at f15
  have s4 : (∀ b j, w_el w3 b j = if b = v_ad (n_v vs 7) ∧ j = (v_iv (n_v vs 9)).toNat then v_iv (n_v vs 2) else w_el w4 b j) ∧ ∀ b k, w_fd w3 b k = w_fd w4 b k := s4.2
  replace f19 := shm_38 f19
  rw [show v_iv (n_v vs 8) = 4 from by omega] at f19
  replace f22 := shm_431 f22
  have ar_6_13_1 : w_ar w1 (n_v vs 6) 13 = w_ar ws (n_v vs 6) 13 := congrArg v_ad (s1.2 _ _).symm
  have ar_6_13_2 : w_ar w2 (n_v vs 6) 13 = w_ar ws (n_v vs 6) 13 := by rw [← ar_6_13_1]; show v_ad (w_fd w2 _ _) = v_ad (w_fd w1 _ _); rw [s2.2]
  have ar_6_13_3 : w_ar w3 (n_v vs 6) 13 = w_ar ws (n_v vs 6) 13 := by rw [← ar_6_13_2]; show v_ad (w_fd w3 _ _) = v_ad (w_fd w2 _ _); rw [s3.2]
  have ar_6_13_4 : w_ar w4 (n_v vs 6) 13 = w_ar ws (n_v vs 6) 13 := by rw [← ar_6_13_3]; show v_ad (w_fd w4 _ _) = v_ad (w_fd w3 _ _); rw [s4.2]
  have cr_6_13 := fdq_92 hD hth r6
  have ad_7 : v_ad (n_v vs 7) = w_ar ws (n_v vs 6) 13 := congrArg v_ad f0
  simp only [ar_6_13_4] at f22
  have hE_6_13_1 : ∀ j : Int, 0 ≤ j → (j = v_iv (n_v vs 21) → w_ei ws (w_ar ws (n_v vs 6) 13) j = v_iv (n_v vs 5)) ∧ (j ≠ v_iv (n_v vs 21) → w_ei ws (w_ar ws (n_v vs 6) 13) j = w_ei w1 (w_ar ws (n_v vs 6) 13) j) := fun j hj => ⟨fun h => by unfold w_ei; rw [s1.1, if_pos ⟨ad_7.symm, by rw [h]⟩], fun h => by unfold w_ei; rw [s1.1, if_neg (fun e => h (by have := e.2; omega))]⟩
  have hE_6_13_2 : ∀ j : Int, 0 ≤ j → (j = v_iv (n_v vs 17) → w_ei w1 (w_ar ws (n_v vs 6) 13) j = v_iv (n_v vs 4)) ∧ (j ≠ v_iv (n_v vs 17) → w_ei w1 (w_ar ws (n_v vs 6) 13) j = w_ei w2 (w_ar ws (n_v vs 6) 13) j) := fun j hj => ⟨fun h => by unfold w_ei; rw [s2.1, if_pos ⟨ad_7.symm, by rw [h]⟩], fun h => by unfold w_ei; rw [s2.1, if_neg (fun e => h (by have := e.2; omega))]⟩
  have hE_6_13_3 : ∀ j : Int, 0 ≤ j → (j = v_iv (n_v vs 13) → w_ei w2 (w_ar ws (n_v vs 6) 13) j = v_iv (n_v vs 3)) ∧ (j ≠ v_iv (n_v vs 13) → w_ei w2 (w_ar ws (n_v vs 6) 13) j = w_ei w3 (w_ar ws (n_v vs 6) 13) j) := fun j hj => ⟨fun h => by unfold w_ei; rw [s3.1, if_pos ⟨ad_7.symm, by rw [h]⟩], fun h => by unfold w_ei; rw [s3.1, if_neg (fun e => h (by have := e.2; omega))]⟩
  have hE_6_13_4 : ∀ j : Int, 0 ≤ j → (j = v_iv (n_v vs 9) → w_ei w3 (w_ar ws (n_v vs 6) 13) j = v_iv (n_v vs 2)) ∧ (j ≠ v_iv (n_v vs 9) → w_ei w3 (w_ar ws (n_v vs 6) 13) j = w_ei w4 (w_ar ws (n_v vs 6) 13) j) := fun j hj => ⟨fun h => by unfold w_ei; rw [s4.1, if_pos ⟨ad_7.symm, by rw [h]⟩], fun h => by unfold w_ei; rw [s4.1, if_neg (fun e => h (by have := e.2; omega))]⟩
  have hK_6_13 := elq_41 hD hth cr_6_13
  have nf0 : fc_1 PRD (20, [6], [60, 0, 1, 844, 13]) ws (vs) := ⟨nf_in hl rfl, sgq_431 (vc_Pl_setArea_0_0 (v_iv (n_v vs 1)) (v_iv (n_v vs 2)) (v_iv (n_v vs 3)) (v_iv (n_v vs 4)) (v_iv (n_v vs 5)) (v_iv (n_v vs 8)) (v_iv (n_v vs 9)) (v_iv (n_v vs 10)) (v_iv (n_v vs 11)) (v_iv (n_v vs 12)) (v_iv (n_v vs 13)) (v_iv (n_v vs 14)) (v_iv (n_v vs 15)) (v_iv (n_v vs 16)) (v_iv (n_v vs 17)) (v_iv (n_v vs 18)) (v_iv (n_v vs 19)) (v_iv (n_v vs 20)) (v_iv (n_v vs 21)) (w_ei w4 (w_ar ws (n_v vs 6) 13)) (w_ei ws (w_ar ws (n_v vs 6) 13)) (w_ei w1 (w_ar ws (n_v vs 6) 13)) (w_ei w2 (w_ar ws (n_v vs 6) 13)) (w_ei w3 (w_ar ws (n_v vs 6) 13)) k1 k2 k3 k4 k5 k8 k9 k10 k11 k12 k13 k14 k15 k16 k17 k18 k19 k20 k21 d0 d1 d2 (shm_430 f1) (shm_430 f2) (shm_12 f4) f5 (shm_430 f6) (shm_430 f7) (shm_12 f9) f10 (shm_430 f11) (shm_430 f12) (shm_12 f14) f15 (shm_430 f16) (shm_430 f17) f19 (shm_430 f20) (shm_430 f21) f22 hE_6_13_1 hE_6_13_2 hE_6_13_3 hE_6_13_4 hK_6_13)⟩
  refine ⟨(fun _ h => (by cases h)), [], trivial, ?_, (fun _ h => (by cases h))⟩
  rw [List.append_nil]
  exact List.forall_mem_cons.mpr ⟨⟨show (20 : Nat) < 100 from by decide, nf0⟩, (fun _ h => (by cases h))⟩
def n_Pl_setArea_an : List an_T := []
def t_Pl_setArea_ct : ct_L := []
set_option maxRecDepth 100000 in
theorem c_Pl_setArea {l : Launch} {D : va_G} {kA : Nat → ClassId} : ct_ok PRD l D kA GG y_Pl_setArea z_Pl_setArea e_Pl_setArea := chk_all_ok (FT := [(15, 6, 1), (153, 0, 13)]) (PT := []) (CT := t_Pl_setArea_ct) (KT := []) (NT := []) (AN := n_Pl_setArea_an) (OT := [o_Pl_setArea_0]) 0 200 (List.forall_mem_cons.mpr ⟨oo_Pl_setArea_0, List.forall_mem_nil _⟩) (by decide +kernel) ⟨List.forall_mem_cons.mpr ⟨gf_Pl_15, List.forall_mem_cons.mpr ⟨gf_Pl_153, List.forall_mem_nil _⟩⟩, List.forall_mem_nil _, List.forall_mem_nil _, List.forall_mem_nil _, List.forall_mem_nil _, GG_pl⟩ (by decide +kernel)

set_option maxHeartbeats 4000000 in
theorem vc_Pl_walkTree_0_0 (x1 : Int) (x2 : Int) (x5 : Int) (x6 : Int) (x7 : Int) (x8 : Int) (x9 : Int) (x12 : Int) (x14 : Int) (part_0o4 : Int → Int) (near_0o3 : Int → Int) (nodes_0o3 : Int) (part_1o4 : Int → Int) (near_1o3 : Int → Int) (nodes_1o3 : Int) (part_2o4 : Int → Int) (near_2o3 : Int → Int) (nodes_2o3 : Int) (order_3 : Int → Int) (part_3o4 : Int → Int) (near_3o3 : Int → Int) (nodes_3o3 : Int) (parent_3 : Int → Int) (level_3 : Int → Int) (order_0 : Int → Int) (order_1 : Int → Int) (order_2 : Int → Int) (level_0 : Int → Int) (level_1 : Int → Int) (level_2 : Int → Int) (parent_0 : Int → Int) (parent_1 : Int → Int) (parent_2 : Int → Int) (k1 : 0 ≤ x1 ∧ x1 ≤ 23) (k2 : 0 ≤ x2 ∧ x2 ≤ 23) (k5 : 0 ≤ x5 ∧ x5 ≤ 24) (k6 : 1 ≤ x6 ∧ x6 ≤ 1) (k7 : 1 ≤ x7 ∧ x7 ≤ 8388608) (k8 : 1 ≤ x8 ∧ x8 ≤ 1) (k9 : 1 ≤ x9 ∧ x9 ≤ 24) (k12 : (-1) ≤ x12 ∧ x12 ≤ (-1)) (k14 : 0 ≤ x14 ∧ x14 ≤ 0) (d0 : x2 + 1 ≤ x9 ∧ x9 ≤ x2 + 1) (f3 : RTP (part_0o4) (x1) (x5)) (f4 : PNC (nodes_0o3) (near_0o3) (part_0o4)) (f5 : (0 ≤ x1) ∧ ((x1 + 1) ≤ nodes_0o3)) (f7 : RTP (part_1o4) (x1) (x5)) (f8 : PNC (nodes_1o3) (near_1o3) (part_1o4)) (f9 : (0 ≤ x1) ∧ ((x1 + 1) ≤ nodes_1o3)) (f11 : RTP (part_2o4) (x1) (x5)) (f12 : PNC (nodes_2o3) (near_2o3) (part_2o4)) (f13 : (0 ≤ x1) ∧ ((x1 + 1) ≤ nodes_2o3)) (f15 : x9 = x2 + x8) (f16 : bvp (x7) = bvp (x6) <<< (x1).toNat) (f17 : WTB (order_3) (part_3o4) (x2) (x5)) (f18 : RTP (part_3o4) (x1) (x5)) (f19 : PNC (nodes_3o3) (near_3o3) (part_3o4)) (f20 : (0 ≤ x1) ∧ ((x1 + 1) ≤ nodes_3o3)) (f21 : TQB (nodes_3o3) (order_3) (parent_3) (level_3) (part_3o4) (x2) (x5)) (fe_3_0_1 : nodes_0o3 = nodes_1o3) (fe_3_0_2 : nodes_1o3 = nodes_2o3) (fe_3_0_3 : nodes_2o3 = nodes_3o3) (hE_0_2_1 : ∀ j : Int, order_0 j = order_1 j) (hE_0_2_2 : ∀ j : Int, order_1 j = order_2 j) (hE_0_2_3 : ∀ j : Int, 0 ≤ j → (j = x2 → order_2 j = x1) ∧ (j ≠ x2 → order_2 j = order_3 j)) (hK_0_2 : ∀ j : Int, 0 ≤ j → j < 24 → 0 ≤ order_0 j ∧ order_0 j ≤ 23) (hE_0_4_1 : ∀ j : Int, 0 ≤ j → (j = x1 → level_0 j = x14) ∧ (j ≠ x1 → level_0 j = level_1 j)) (hE_0_4_2 : ∀ j : Int, level_1 j = level_2 j) (hE_0_4_3 : ∀ j : Int, level_2 j = level_3 j) (hK_0_4 : ∀ j : Int, 0 ≤ j → j < 24 → 0 ≤ level_0 j ∧ level_0 j ≤ 23) (hE_0_5_1 : ∀ j : Int, parent_0 j = parent_1 j) (hE_0_5_2 : ∀ j : Int, 0 ≤ j → (j = x1 → parent_1 j = x12) ∧ (j ≠ x1 → parent_1 j = parent_2 j)) (hE_0_5_3 : ∀ j : Int, parent_2 j = parent_3 j) (hK_0_5 : ∀ j : Int, 0 ≤ j → j < 24 → (-1) ≤ parent_0 j ∧ parent_0 j ≤ 23) (hE_3_14_1 : ∀ j : Int, near_0o3 j = near_1o3 j) (hE_3_14_2 : ∀ j : Int, near_1o3 j = near_2o3 j) (hE_3_14_3 : ∀ j : Int, near_2o3 j = near_3o3 j) (hK_3_14 : ∀ j : Int, 0 ≤ j → j < 24 → 0 ≤ near_0o3 j ∧ near_0o3 j ≤ 16777215) (hE_4_4_1 : ∀ j : Int, part_0o4 j = part_1o4 j) (hE_4_4_2 : ∀ j : Int, part_1o4 j = part_2o4 j) (hE_4_4_3 : ∀ j : Int, part_2o4 j = part_3o4 j) (hK_4_4 : ∀ j : Int, 0 ≤ j → j < 24 → (-1) ≤ part_0o4 j ∧ part_0o4 j ≤ 24) (kz_3_0 : 0 ≤ nodes_0o3 ∧ nodes_0o3 ≤ 24) : WTI (nodes_0o3) (order_0) (part_0o4) (x7) (x2) (x9) (x5) (x2) := by
  subst fe_3_0_1
  subst fe_3_0_2
  subst fe_3_0_3
  have e_hE_0_2_1 := funext hE_0_2_1; subst e_hE_0_2_1
  have e_hE_0_2_2 := funext hE_0_2_2; subst e_hE_0_2_2
  have e_hE_0_4_2 := funext hE_0_4_2; subst e_hE_0_4_2
  have e_hE_0_4_3 := funext hE_0_4_3; subst e_hE_0_4_3
  have e_hE_0_5_1 := funext hE_0_5_1; subst e_hE_0_5_1
  have e_hE_0_5_3 := funext hE_0_5_3; subst e_hE_0_5_3
  have e_hE_3_14_1 := funext hE_3_14_1; subst e_hE_3_14_1
  have e_hE_3_14_2 := funext hE_3_14_2; subst e_hE_3_14_2
  have e_hE_3_14_3 := funext hE_3_14_3; subst e_hE_3_14_3
  have e_hE_4_4_1 := funext hE_4_4_1; subst e_hE_4_4_1
  have e_hE_4_4_2 := funext hE_4_4_2; subst e_hE_4_4_2
  have e_hE_4_4_3 := funext hE_4_4_3; subst e_hE_4_4_3
  first
    | assumption
    | exact wti_next ‹WTI _ _ _ _ _ _ _ _› (by omega)
    | (have o1 : x6 = 1 := by omega
       subst o1
       exact wti_start (q := x2) (x := x1) ‹WTB _ _ _ _› (by omega) (by omega) (by omega) (by omega) ‹RTP _ _ _› (by assumption) rfl rfl (by assumption) (by omega) rfl)
    | (have qa := bit_one (s := x18) (t := x19) (c := x21) (v := x13) (one := x20) (by assumption) (by assumption) (by omega) (by omega) (by omega) (by omega)
       have qb := bit_one (s := x9) (t := x22) (c := x24) (v := x13) (one := x23) (by assumption) (by assumption) (by omega) (by omega) (by omega) (by omega)
       have o1 : x25 = 1 := by omega
       subst o1
       exact wti_step (v := x12) (w := x13) (q := x10) (x := x13) (o := x26) ‹WTI _ _ _ _ _ _ _ _› (by omega) (by omega) ‹PNC _ _ _› (by assumption) (by omega) (by omega) (by omega) (by have e := (‹x18 = _›); rw [← e]; exact qa.mpr (by omega)) (fun z => by have := qb.mp z; omega) (by assumption) rfl rfl (by assumption) (by assumption) (by omega))
  
set_option maxHeartbeats 4000000 in
theorem vc_Pl_walkTree_0_3 (x1 : Int) (x2 : Int) (x5 : Int) (x6 : Int) (x7 : Int) (x8 : Int) (x9 : Int) (x12 : Int) (x14 : Int) (part_0o4 : Int → Int) (near_0o3 : Int → Int) (nodes_0o3 : Int) (part_1o4 : Int → Int) (near_1o3 : Int → Int) (nodes_1o3 : Int) (part_2o4 : Int → Int) (near_2o3 : Int → Int) (nodes_2o3 : Int) (order_3 : Int → Int) (part_3o4 : Int → Int) (near_3o3 : Int → Int) (nodes_3o3 : Int) (parent_3 : Int → Int) (level_3 : Int → Int) (order_0 : Int → Int) (order_1 : Int → Int) (order_2 : Int → Int) (level_0 : Int → Int) (level_1 : Int → Int) (level_2 : Int → Int) (parent_0 : Int → Int) (parent_1 : Int → Int) (parent_2 : Int → Int) (k1 : 0 ≤ x1 ∧ x1 ≤ 23) (k2 : 0 ≤ x2 ∧ x2 ≤ 23) (k5 : 0 ≤ x5 ∧ x5 ≤ 24) (k6 : 1 ≤ x6 ∧ x6 ≤ 1) (k7 : 1 ≤ x7 ∧ x7 ≤ 8388608) (k8 : 1 ≤ x8 ∧ x8 ≤ 1) (k9 : 1 ≤ x9 ∧ x9 ≤ 24) (k12 : (-1) ≤ x12 ∧ x12 ≤ (-1)) (k14 : 0 ≤ x14 ∧ x14 ≤ 0) (d0 : x2 + 1 ≤ x9 ∧ x9 ≤ x2 + 1) (f3 : RTP (part_0o4) (x1) (x5)) (f4 : PNC (nodes_0o3) (near_0o3) (part_0o4)) (f5 : (0 ≤ x1) ∧ ((x1 + 1) ≤ nodes_0o3)) (f7 : RTP (part_1o4) (x1) (x5)) (f8 : PNC (nodes_1o3) (near_1o3) (part_1o4)) (f9 : (0 ≤ x1) ∧ ((x1 + 1) ≤ nodes_1o3)) (f11 : RTP (part_2o4) (x1) (x5)) (f12 : PNC (nodes_2o3) (near_2o3) (part_2o4)) (f13 : (0 ≤ x1) ∧ ((x1 + 1) ≤ nodes_2o3)) (f15 : x9 = x2 + x8) (f16 : bvp (x7) = bvp (x6) <<< (x1).toNat) (f17 : WTB (order_3) (part_3o4) (x2) (x5)) (f18 : RTP (part_3o4) (x1) (x5)) (f19 : PNC (nodes_3o3) (near_3o3) (part_3o4)) (f20 : (0 ≤ x1) ∧ ((x1 + 1) ≤ nodes_3o3)) (f21 : TQB (nodes_3o3) (order_3) (parent_3) (level_3) (part_3o4) (x2) (x5)) (fe_3_0_1 : nodes_0o3 = nodes_1o3) (fe_3_0_2 : nodes_1o3 = nodes_2o3) (fe_3_0_3 : nodes_2o3 = nodes_3o3) (hE_0_2_1 : ∀ j : Int, order_0 j = order_1 j) (hE_0_2_2 : ∀ j : Int, order_1 j = order_2 j) (hE_0_2_3 : ∀ j : Int, 0 ≤ j → (j = x2 → order_2 j = x1) ∧ (j ≠ x2 → order_2 j = order_3 j)) (hK_0_2 : ∀ j : Int, 0 ≤ j → j < 24 → 0 ≤ order_0 j ∧ order_0 j ≤ 23) (hE_0_4_1 : ∀ j : Int, 0 ≤ j → (j = x1 → level_0 j = x14) ∧ (j ≠ x1 → level_0 j = level_1 j)) (hE_0_4_2 : ∀ j : Int, level_1 j = level_2 j) (hE_0_4_3 : ∀ j : Int, level_2 j = level_3 j) (hK_0_4 : ∀ j : Int, 0 ≤ j → j < 24 → 0 ≤ level_0 j ∧ level_0 j ≤ 23) (hE_0_5_1 : ∀ j : Int, parent_0 j = parent_1 j) (hE_0_5_2 : ∀ j : Int, 0 ≤ j → (j = x1 → parent_1 j = x12) ∧ (j ≠ x1 → parent_1 j = parent_2 j)) (hE_0_5_3 : ∀ j : Int, parent_2 j = parent_3 j) (hK_0_5 : ∀ j : Int, 0 ≤ j → j < 24 → (-1) ≤ parent_0 j ∧ parent_0 j ≤ 23) (hE_3_14_1 : ∀ j : Int, near_0o3 j = near_1o3 j) (hE_3_14_2 : ∀ j : Int, near_1o3 j = near_2o3 j) (hE_3_14_3 : ∀ j : Int, near_2o3 j = near_3o3 j) (hK_3_14 : ∀ j : Int, 0 ≤ j → j < 24 → 0 ≤ near_0o3 j ∧ near_0o3 j ≤ 16777215) (hE_4_4_1 : ∀ j : Int, part_0o4 j = part_1o4 j) (hE_4_4_2 : ∀ j : Int, part_1o4 j = part_2o4 j) (hE_4_4_3 : ∀ j : Int, part_2o4 j = part_3o4 j) (hK_4_4 : ∀ j : Int, 0 ≤ j → j < 24 → (-1) ≤ part_0o4 j ∧ part_0o4 j ≤ 24) (kz_3_0 : 0 ≤ nodes_0o3 ∧ nodes_0o3 ≤ 24) : TQH (nodes_0o3) (order_0) (parent_0) (level_0) (near_0o3) (part_0o4) (x7) (x2) (x9) (x5) (x2) := by
  subst fe_3_0_1
  subst fe_3_0_2
  subst fe_3_0_3
  have e_hE_0_2_1 := funext hE_0_2_1; subst e_hE_0_2_1
  have e_hE_0_2_2 := funext hE_0_2_2; subst e_hE_0_2_2
  have e_hE_0_4_2 := funext hE_0_4_2; subst e_hE_0_4_2
  have e_hE_0_4_3 := funext hE_0_4_3; subst e_hE_0_4_3
  have e_hE_0_5_1 := funext hE_0_5_1; subst e_hE_0_5_1
  have e_hE_0_5_3 := funext hE_0_5_3; subst e_hE_0_5_3
  have e_hE_3_14_1 := funext hE_3_14_1; subst e_hE_3_14_1
  have e_hE_3_14_2 := funext hE_3_14_2; subst e_hE_3_14_2
  have e_hE_3_14_3 := funext hE_3_14_3; subst e_hE_3_14_3
  have e_hE_4_4_1 := funext hE_4_4_1; subst e_hE_4_4_1
  have e_hE_4_4_2 := funext hE_4_4_2; subst e_hE_4_4_2
  have e_hE_4_4_3 := funext hE_4_4_3; subst e_hE_4_4_3
  first
    | assumption
    | exact tqi_next ‹TQI _ _ _ _ _ _ _ _ _ _ _ _› (by omega) (Or.inl (by omega)) (by omega)
    | exact tqi_next ‹TQI _ _ _ _ _ _ _ _ _ _ _ _› (by omega) (Or.inr (by omega)) (by omega)
    | (have o1 : x6 = 1 := by omega
       subst o1
       exact tqi_start (q := x2) (x := x1) (pv := x12) (lq := x14) ‹TQB _ _ _ _ _ _ _› ‹WTB _ _ _ _› (by omega) (by omega) (by omega) ‹RTP _ _ _› (by assumption) rfl rfl (by assumption) (by omega) (by assumption) (by omega) (by assumption) (by omega) rfl)
  
def o_Pl_walkTree_0 : or_T := (33, 15, [(0, (2, 0, 0, [6])), (1, (0, 0, 23, [])), (2, (0, 0, 23, [])), (3, (2, 0, 0, [3])), (4, (2, 0, 0, [2])), (5, (0, 0, 24, [])), (6, (0, 1, 1, [])), (7, (0, 1, 8388608, [])), (8, (0, 1, 1, [])), (9, (0, 1, 24, [])), (10, (2, 0, 0, [89])), (11, (2, 0, 0, [92])), (12, (0, -1, -1, [])), (13, (2, 0, 0, [91])), (14, (0, 0, 0, []))], [(9, [13, 0], [4]), (9, [11, 0], [5]), (9, [10, 0], [2]), (20, [4, 1, 5], [60, 0, 1, 680, 4]), (20, [3, 4], [60, 1, 2, 671, 0, 14, 1004]), (20, [1, 3], [50, 1, 0, 1000, 2, 6, 0, 2, 0, 0, 1, 0, 0, 6, 4, 2, 1, 0, 0, 1, 2, 1, 0]), (100, [13, 1, 14], []), (20, [4, 1, 5], [60, 0, 1, 680, 4]), (20, [3, 4], [60, 1, 2, 671, 0, 14, 1004]), (20, [1, 3], [50, 1, 0, 1000, 2, 6, 0, 2, 0, 0, 1, 0, 0, 6, 4, 2, 1, 0, 0, 1, 2, 1, 0]), (100, [11, 1, 12], []), (20, [4, 1, 5], [60, 0, 1, 680, 4]), (20, [3, 4], [60, 1, 2, 671, 0, 14, 1004]), (20, [1, 3], [50, 1, 0, 1000, 2, 6, 0, 2, 0, 0, 1, 0, 0, 6, 4, 2, 1, 0, 0, 1, 2, 1, 0]), (100, [10, 2, 1], []), (1, [9, 2, 8], []), (16, [7, 6, 1], [3]), (20, [0, 4, 2, 5], [60, 0, 2, 678, 2, 1004]), (20, [4, 1, 5], [60, 0, 1, 680, 4]), (20, [3, 4], [60, 1, 2, 671, 0, 14, 1004]), (20, [1, 3], [50, 1, 0, 1000, 2, 6, 0, 2, 0, 0, 1, 0, 0, 6, 4, 2, 1, 0, 0, 1, 2, 1, 0]), (20, [0, 3, 4, 2, 5], [60, 1, 4, 855, 1000, 2, 5, 4, 2004])], [], [], [(20, [0, 3, 4, 7, 2, 9, 5, 2], [60, 1, 2, 683, 1000, 2, 2004]), (24, [3, 3], []), (24, [2, 2], []), (20, [0, 3, 4, 7, 2, 9, 5, 2], [60, 1, 5, 858, 1000, 2, 5, 4, 1014, 2004]), (24, [0, 0], []), (24, [1, 1], []), (24, [2, 2], [])], [], [(9, 2, 1, 1)])
theorem oo_Pl_walkTree_0 {kA : Nat → ClassId} : or_ok PRD kA GG o_Pl_walkTree_0 := by
  refine or_mk fun A ta ws vs hD hth hl => ?_
  intro t0 r0 t1 k1 t2 k2 t3 r3 t4 r4 t5 k5 t6 k6 t7 k7 t8 k8 t9 k9 t10 r10 t11 r11 t12 k12 t13 r13 t14 k14 d0 f0 f1 f2 f3 f4 f5 ta1 w1 le1 s1 f7 f8 f9 ta2 w2 le2 s2 f11 f12 f13 ta3 w3 le3 s3 f15 f16 f17 f18 f19 f20 f21
  replace f0 := shm_107 f0
  replace f1 := shm_109 f1
  replace f2 := shm_129 f2
  have s1 : (∀ b j, w_el ws b j = if b = v_ad (n_v vs 13) ∧ j = (v_iv (n_v vs 1)).toNat then v_iv (n_v vs 14) else w_el w1 b j) ∧ ∀ b k, w_fd ws b k = w_fd w1 b k := s1.2
  replace f7 := shm_428 f7
  replace f8 := shm_432 f8
  have s2 : (∀ b j, w_el w1 b j = if b = v_ad (n_v vs 11) ∧ j = (v_iv (n_v vs 1)).toNat then v_iv (n_v vs 12) else w_el w2 b j) ∧ ∀ b k, w_fd w1 b k = w_fd w2 b k := s2.2
  replace f11 := shm_428 f11
  replace f12 := shm_432 f12
  have s3 : (∀ b j, w_el w2 b j = if b = v_ad (n_v vs 10) ∧ j = (v_iv (n_v vs 2)).toNat then v_iv (n_v vs 1) else w_el w3 b j) ∧ ∀ b k, w_fd w2 b k = w_fd w3 b k := s3.2
  replace f17 := shm_433 f17
  replace f18 := shm_428 f18
  replace f19 := shm_432 f19
  replace f21 := shm_434 f21
  have ar_0_2_1 : w_ar w1 (n_v vs 0) 2 = w_ar ws (n_v vs 0) 2 := congrArg v_ad (s1.2 _ _).symm
  have ar_0_2_2 : w_ar w2 (n_v vs 0) 2 = w_ar ws (n_v vs 0) 2 := by rw [← ar_0_2_1]; show v_ad (w_fd w2 _ _) = v_ad (w_fd w1 _ _); rw [s2.2]
  have ar_0_2_3 : w_ar w3 (n_v vs 0) 2 = w_ar ws (n_v vs 0) 2 := by rw [← ar_0_2_2]; show v_ad (w_fd w3 _ _) = v_ad (w_fd w2 _ _); rw [s3.2]
  have cr_0_2 := fdq_93 hD hth r0
  have ar_0_4_1 : w_ar w1 (n_v vs 0) 4 = w_ar ws (n_v vs 0) 4 := congrArg v_ad (s1.2 _ _).symm
  have ar_0_4_2 : w_ar w2 (n_v vs 0) 4 = w_ar ws (n_v vs 0) 4 := by rw [← ar_0_4_1]; show v_ad (w_fd w2 _ _) = v_ad (w_fd w1 _ _); rw [s2.2]
  have ar_0_4_3 : w_ar w3 (n_v vs 0) 4 = w_ar ws (n_v vs 0) 4 := by rw [← ar_0_4_2]; show v_ad (w_fd w3 _ _) = v_ad (w_fd w2 _ _); rw [s3.2]
  have cr_0_4 := fdq_90 hD hth r0
  have ar_0_5_1 : w_ar w1 (n_v vs 0) 5 = w_ar ws (n_v vs 0) 5 := congrArg v_ad (s1.2 _ _).symm
  have ar_0_5_2 : w_ar w2 (n_v vs 0) 5 = w_ar ws (n_v vs 0) 5 := by rw [← ar_0_5_1]; show v_ad (w_fd w2 _ _) = v_ad (w_fd w1 _ _); rw [s2.2]
  have ar_0_5_3 : w_ar w3 (n_v vs 0) 5 = w_ar ws (n_v vs 0) 5 := by rw [← ar_0_5_2]; show v_ad (w_fd w3 _ _) = v_ad (w_fd w2 _ _); rw [s3.2]
  have cr_0_5 := fdq_94 hD hth r0
  have ar_3_14_1 : w_ar w1 (n_v vs 3) 14 = w_ar ws (n_v vs 3) 14 := congrArg v_ad (s1.2 _ _).symm
  have ar_3_14_2 : w_ar w2 (n_v vs 3) 14 = w_ar ws (n_v vs 3) 14 := by rw [← ar_3_14_1]; show v_ad (w_fd w2 _ _) = v_ad (w_fd w1 _ _); rw [s2.2]
  have ar_3_14_3 : w_ar w3 (n_v vs 3) 14 = w_ar ws (n_v vs 3) 14 := by rw [← ar_3_14_2]; show v_ad (w_fd w3 _ _) = v_ad (w_fd w2 _ _); rw [s3.2]
  have cr_3_14 := fdq_79 hD hth r3
  have ar_4_4_1 : w_ar w1 (n_v vs 4) 4 = w_ar ws (n_v vs 4) 4 := congrArg v_ad (s1.2 _ _).symm
  have ar_4_4_2 : w_ar w2 (n_v vs 4) 4 = w_ar ws (n_v vs 4) 4 := by rw [← ar_4_4_1]; show v_ad (w_fd w2 _ _) = v_ad (w_fd w1 _ _); rw [s2.2]
  have ar_4_4_3 : w_ar w3 (n_v vs 4) 4 = w_ar ws (n_v vs 4) 4 := by rw [← ar_4_4_2]; show v_ad (w_fd w3 _ _) = v_ad (w_fd w2 _ _); rw [s3.2]
  have cr_4_4 := fdq_91 hD hth r4
  have ad_13 : v_ad (n_v vs 13) = w_ar ws (n_v vs 0) 4 := congrArg v_ad f0
  have ad_11 : v_ad (n_v vs 11) = w_ar ws (n_v vs 0) 5 := congrArg v_ad f1
  have ad_10 : v_ad (n_v vs 10) = w_ar ws (n_v vs 0) 2 := congrArg v_ad f2
  simp only [ar_4_4_1, ar_3_14_1, ar_4_4_2, ar_3_14_2, ar_0_2_3, ar_4_4_3, ar_3_14_3, ar_0_4_3, ar_0_5_3] at f7 f8 f11 f12 f17 f18 f19 f21
  have fe_3_0_1 : w_fi ws (n_v vs 3) 0 = w_fi w1 (n_v vs 3) 0 := congrArg v_iv (s1.2 _ _)
  have fe_3_0_2 : w_fi w1 (n_v vs 3) 0 = w_fi w2 (n_v vs 3) 0 := congrArg v_iv (s2.2 _ _)
  have fe_3_0_3 : w_fi w2 (n_v vs 3) 0 = w_fi w3 (n_v vs 3) 0 := congrArg v_iv (s3.2 _ _)
  have hE_0_2_1 : ∀ j : Int, w_ei ws (w_ar ws (n_v vs 0) 2) j = w_ei w1 (w_ar ws (n_v vs 0) 2) j := el_kp s1.1 r13 cr_0_2 (by decide)
  have hE_0_2_2 : ∀ j : Int, w_ei w1 (w_ar ws (n_v vs 0) 2) j = w_ei w2 (w_ar ws (n_v vs 0) 2) j := el_kp s2.1 r11 cr_0_2 (by decide)
  have hE_0_2_3 : ∀ j : Int, 0 ≤ j → (j = v_iv (n_v vs 2) → w_ei w2 (w_ar ws (n_v vs 0) 2) j = v_iv (n_v vs 1)) ∧ (j ≠ v_iv (n_v vs 2) → w_ei w2 (w_ar ws (n_v vs 0) 2) j = w_ei w3 (w_ar ws (n_v vs 0) 2) j) := fun j hj => ⟨fun h => by unfold w_ei; rw [s3.1, if_pos ⟨ad_10.symm, by rw [h]⟩], fun h => by unfold w_ei; rw [s3.1, if_neg (fun e => h (by have := e.2; omega))]⟩
  have hK_0_2 := elq_42 hD hth cr_0_2
  have hE_0_4_1 : ∀ j : Int, 0 ≤ j → (j = v_iv (n_v vs 1) → w_ei ws (w_ar ws (n_v vs 0) 4) j = v_iv (n_v vs 14)) ∧ (j ≠ v_iv (n_v vs 1) → w_ei ws (w_ar ws (n_v vs 0) 4) j = w_ei w1 (w_ar ws (n_v vs 0) 4) j) := fun j hj => ⟨fun h => by unfold w_ei; rw [s1.1, if_pos ⟨ad_13.symm, by rw [h]⟩], fun h => by unfold w_ei; rw [s1.1, if_neg (fun e => h (by have := e.2; omega))]⟩
  have hE_0_4_2 : ∀ j : Int, w_ei w1 (w_ar ws (n_v vs 0) 4) j = w_ei w2 (w_ar ws (n_v vs 0) 4) j := el_kp s2.1 r11 cr_0_4 (by decide)
  have hE_0_4_3 : ∀ j : Int, w_ei w2 (w_ar ws (n_v vs 0) 4) j = w_ei w3 (w_ar ws (n_v vs 0) 4) j := el_kp s3.1 r10 cr_0_4 (by decide)
  have hK_0_4 := elq_40 hD hth cr_0_4
  have hE_0_5_1 : ∀ j : Int, w_ei ws (w_ar ws (n_v vs 0) 5) j = w_ei w1 (w_ar ws (n_v vs 0) 5) j := el_kp s1.1 r13 cr_0_5 (by decide)
  have hE_0_5_2 : ∀ j : Int, 0 ≤ j → (j = v_iv (n_v vs 1) → w_ei w1 (w_ar ws (n_v vs 0) 5) j = v_iv (n_v vs 12)) ∧ (j ≠ v_iv (n_v vs 1) → w_ei w1 (w_ar ws (n_v vs 0) 5) j = w_ei w2 (w_ar ws (n_v vs 0) 5) j) := fun j hj => ⟨fun h => by unfold w_ei; rw [s2.1, if_pos ⟨ad_11.symm, by rw [h]⟩], fun h => by unfold w_ei; rw [s2.1, if_neg (fun e => h (by have := e.2; omega))]⟩
  have hE_0_5_3 : ∀ j : Int, w_ei w2 (w_ar ws (n_v vs 0) 5) j = w_ei w3 (w_ar ws (n_v vs 0) 5) j := el_kp s3.1 r10 cr_0_5 (by decide)
  have hK_0_5 := elq_43 hD hth cr_0_5
  have hE_3_14_1 : ∀ j : Int, w_ei ws (w_ar ws (n_v vs 3) 14) j = w_ei w1 (w_ar ws (n_v vs 3) 14) j := el_kp s1.1 r13 cr_3_14 (by decide)
  have hE_3_14_2 : ∀ j : Int, w_ei w1 (w_ar ws (n_v vs 3) 14) j = w_ei w2 (w_ar ws (n_v vs 3) 14) j := el_kp s2.1 r11 cr_3_14 (by decide)
  have hE_3_14_3 : ∀ j : Int, w_ei w2 (w_ar ws (n_v vs 3) 14) j = w_ei w3 (w_ar ws (n_v vs 3) 14) j := el_kp s3.1 r10 cr_3_14 (by decide)
  have hK_3_14 := elq_24 hD hth cr_3_14
  have hE_4_4_1 : ∀ j : Int, w_ei ws (w_ar ws (n_v vs 4) 4) j = w_ei w1 (w_ar ws (n_v vs 4) 4) j := el_kp s1.1 r13 cr_4_4 (by decide)
  have hE_4_4_2 : ∀ j : Int, w_ei w1 (w_ar ws (n_v vs 4) 4) j = w_ei w2 (w_ar ws (n_v vs 4) 4) j := el_kp s2.1 r11 cr_4_4 (by decide)
  have hE_4_4_3 : ∀ j : Int, w_ei w2 (w_ar ws (n_v vs 4) 4) j = w_ei w3 (w_ar ws (n_v vs 4) 4) j := el_kp s3.1 r10 cr_4_4 (by decide)
  have hK_4_4 := elq_28 hD hth cr_4_4
  have kz_3_0 := fdq_23 hD hth r3
  have nf0 : fc_1 PRD (20, [0, 3, 4, 7, 2, 9, 5, 2], [60, 1, 2, 683, 1000, 2, 2004]) ws (vs) := ⟨nf_in hl rfl, sgq_435 (vc_Pl_walkTree_0_0 (v_iv (n_v vs 1)) (v_iv (n_v vs 2)) (v_iv (n_v vs 5)) (v_iv (n_v vs 6)) (v_iv (n_v vs 7)) (v_iv (n_v vs 8)) (v_iv (n_v vs 9)) (v_iv (n_v vs 12)) (v_iv (n_v vs 14)) (w_ei ws (w_ar ws (n_v vs 4) 4)) (w_ei ws (w_ar ws (n_v vs 3) 14)) (w_fi ws (n_v vs 3) 0) (w_ei w1 (w_ar ws (n_v vs 4) 4)) (w_ei w1 (w_ar ws (n_v vs 3) 14)) (w_fi w1 (n_v vs 3) 0) (w_ei w2 (w_ar ws (n_v vs 4) 4)) (w_ei w2 (w_ar ws (n_v vs 3) 14)) (w_fi w2 (n_v vs 3) 0) (w_ei w3 (w_ar ws (n_v vs 0) 2)) (w_ei w3 (w_ar ws (n_v vs 4) 4)) (w_ei w3 (w_ar ws (n_v vs 3) 14)) (w_fi w3 (n_v vs 3) 0) (w_ei w3 (w_ar ws (n_v vs 0) 5)) (w_ei w3 (w_ar ws (n_v vs 0) 4)) (w_ei ws (w_ar ws (n_v vs 0) 2)) (w_ei w1 (w_ar ws (n_v vs 0) 2)) (w_ei w2 (w_ar ws (n_v vs 0) 2)) (w_ei ws (w_ar ws (n_v vs 0) 4)) (w_ei w1 (w_ar ws (n_v vs 0) 4)) (w_ei w2 (w_ar ws (n_v vs 0) 4)) (w_ei ws (w_ar ws (n_v vs 0) 5)) (w_ei w1 (w_ar ws (n_v vs 0) 5)) (w_ei w2 (w_ar ws (n_v vs 0) 5)) k1 k2 k5 k6 k7 k8 k9 k12 k14 d0 (shm_428 f3) (shm_432 f4) (shm_429 f5) f7 f8 (shm_429 f9) f11 f12 (shm_429 f13) (shm_12 f15) (shm_367 f16) f17 f18 f19 (shm_429 f20) f21 fe_3_0_1 fe_3_0_2 fe_3_0_3 hE_0_2_1 hE_0_2_2 hE_0_2_3 hK_0_2 hE_0_4_1 hE_0_4_2 hE_0_4_3 hK_0_4 hE_0_5_1 hE_0_5_2 hE_0_5_3 hK_0_5 hE_3_14_1 hE_3_14_2 hE_3_14_3 hK_3_14 hE_4_4_1 hE_4_4_2 hE_4_4_3 hK_4_4 kz_3_0)⟩
  have nf1 : fc_1 PRD (24, [3, 3], []) ws (vs) := by
    refine ⟨nf_in hl rfl, sgq_1 ?_⟩
    · show n_v vs 3 = n_v vs 3
      first | rfl | simp only [true_and]
  have nf2 : fc_1 PRD (24, [2, 2], []) ws (vs) := by
    refine ⟨nf_in hl rfl, sgq_1 ?_⟩
    · show n_v vs 2 = n_v vs 2
      first | rfl | simp only [true_and]
  have nf3 : fc_1 PRD (20, [0, 3, 4, 7, 2, 9, 5, 2], [60, 1, 5, 858, 1000, 2, 5, 4, 1014, 2004]) ws (vs) := ⟨nf_in hl rfl, sgq_436 (vc_Pl_walkTree_0_3 (v_iv (n_v vs 1)) (v_iv (n_v vs 2)) (v_iv (n_v vs 5)) (v_iv (n_v vs 6)) (v_iv (n_v vs 7)) (v_iv (n_v vs 8)) (v_iv (n_v vs 9)) (v_iv (n_v vs 12)) (v_iv (n_v vs 14)) (w_ei ws (w_ar ws (n_v vs 4) 4)) (w_ei ws (w_ar ws (n_v vs 3) 14)) (w_fi ws (n_v vs 3) 0) (w_ei w1 (w_ar ws (n_v vs 4) 4)) (w_ei w1 (w_ar ws (n_v vs 3) 14)) (w_fi w1 (n_v vs 3) 0) (w_ei w2 (w_ar ws (n_v vs 4) 4)) (w_ei w2 (w_ar ws (n_v vs 3) 14)) (w_fi w2 (n_v vs 3) 0) (w_ei w3 (w_ar ws (n_v vs 0) 2)) (w_ei w3 (w_ar ws (n_v vs 4) 4)) (w_ei w3 (w_ar ws (n_v vs 3) 14)) (w_fi w3 (n_v vs 3) 0) (w_ei w3 (w_ar ws (n_v vs 0) 5)) (w_ei w3 (w_ar ws (n_v vs 0) 4)) (w_ei ws (w_ar ws (n_v vs 0) 2)) (w_ei w1 (w_ar ws (n_v vs 0) 2)) (w_ei w2 (w_ar ws (n_v vs 0) 2)) (w_ei ws (w_ar ws (n_v vs 0) 4)) (w_ei w1 (w_ar ws (n_v vs 0) 4)) (w_ei w2 (w_ar ws (n_v vs 0) 4)) (w_ei ws (w_ar ws (n_v vs 0) 5)) (w_ei w1 (w_ar ws (n_v vs 0) 5)) (w_ei w2 (w_ar ws (n_v vs 0) 5)) k1 k2 k5 k6 k7 k8 k9 k12 k14 d0 (shm_428 f3) (shm_432 f4) (shm_429 f5) f7 f8 (shm_429 f9) f11 f12 (shm_429 f13) (shm_12 f15) (shm_367 f16) f17 f18 f19 (shm_429 f20) f21 fe_3_0_1 fe_3_0_2 fe_3_0_3 hE_0_2_1 hE_0_2_2 hE_0_2_3 hK_0_2 hE_0_4_1 hE_0_4_2 hE_0_4_3 hK_0_4 hE_0_5_1 hE_0_5_2 hE_0_5_3 hK_0_5 hE_3_14_1 hE_3_14_2 hE_3_14_3 hK_3_14 hE_4_4_1 hE_4_4_2 hE_4_4_3 hK_4_4 kz_3_0)⟩
  have nf4 : fc_1 PRD (24, [0, 0], []) ws (vs) := by
    refine ⟨nf_in hl rfl, sgq_1 ?_⟩
    · show n_v vs 0 = n_v vs 0
      first | rfl | simp only [true_and]
  have nf5 : fc_1 PRD (24, [1, 1], []) ws (vs) := by
    refine ⟨nf_in hl rfl, sgq_1 ?_⟩
    · show n_v vs 1 = n_v vs 1
      first | rfl | simp only [true_and]
  have nf6 : fc_1 PRD (24, [2, 2], []) ws (vs) := by
    refine ⟨nf_in hl rfl, sgq_1 ?_⟩
    · show n_v vs 2 = n_v vs 2
      first | rfl | simp only [true_and]
  refine ⟨(fun _ h => (by cases h)), [], trivial, ?_, (fun _ h => (by cases h))⟩
  rw [List.append_nil]
  exact List.forall_mem_cons.mpr ⟨⟨show (20 : Nat) < 100 from by decide, nf0⟩, List.forall_mem_cons.mpr ⟨⟨show (24 : Nat) < 100 from by decide, nf1⟩, List.forall_mem_cons.mpr ⟨⟨show (24 : Nat) < 100 from by decide, nf2⟩, List.forall_mem_cons.mpr ⟨⟨show (20 : Nat) < 100 from by decide, nf3⟩, List.forall_mem_cons.mpr ⟨⟨show (24 : Nat) < 100 from by decide, nf4⟩, List.forall_mem_cons.mpr ⟨⟨show (24 : Nat) < 100 from by decide, nf5⟩, List.forall_mem_cons.mpr ⟨⟨show (24 : Nat) < 100 from by decide, nf6⟩, (fun _ h => (by cases h))⟩⟩⟩⟩⟩⟩⟩
set_option maxHeartbeats 4000000 in
theorem vc_Pl_walkTree_1_0 (x1 : Int) (x2 : Int) (x5 : Int) (x7 : Int) (x8 : Int) (x9 : Int) (x10 : Int) (x11 : Int) (order_0 : Int → Int) (part_0o4 : Int → Int) (nodes_0o3 : Int) (near_0o3 : Int → Int) (parent_0 : Int → Int) (level_0 : Int → Int) (k1 : 0 ≤ x1 ∧ x1 ≤ 23) (k2 : 0 ≤ x2 ∧ x2 ≤ 23) (k5 : 0 ≤ x5 ∧ x5 ≤ 24) (k7 : 0 ≤ x7 ∧ x7 ≤ 23) (k8 : 0 ≤ x8 ∧ x8 ≤ 23) (k9 : 0 ≤ x9 ∧ x9 ≤ 16777215) (k10 : 1 ≤ x10 ∧ x10 ≤ 24) (k11 : 1 ≤ x11 ∧ x11 ≤ 24) (d0 : x10 + 0 ≤ x11 ∧ x11 ≤ x10 + 4294967296) (d1 : x7 + (-4294967296) ≤ x1 ∧ x1 ≤ x7 + 0) (d2 : x8 + (-4294967296) ≤ x2 ∧ x2 ≤ x8 + 0) (d3 : x9 + (-4294967296) ≤ x2 ∧ x2 ≤ x9 + 22) (d4 : x10 + (-4294967296) ≤ x2 ∧ x2 ≤ x10 + (-1)) (d5 : x11 + (-4294967296) ≤ x2 ∧ x2 ≤ x11 + 0) (d6 : x1 + (-4294967296) ≤ x7 ∧ x7 ≤ x1 + 0) (d7 : x2 + (-4294967296) ≤ x8 ∧ x8 ≤ x2 + 0) (d8 : x9 + (-4294967296) ≤ x8 ∧ x8 ≤ x9 + 22) (d9 : x10 + (-4294967296) ≤ x8 ∧ x8 ≤ x10 + (-1)) (d10 : x11 + (-4294967296) ≤ x8 ∧ x8 ≤ x11 + 0) (d11 : x10 + (-4294967296) ≤ x9 ∧ x9 ≤ x10 + 16777213) (d12 : x10 + (-4294967296) ≤ x11 ∧ x11 ≤ x10 + 0) (f0 : x10 ≤ x11) (f1 : WTI (nodes_0o3) (order_0) (part_0o4) (x9) (x2) (x10) (x5) (x11)) (f2 : PNC (nodes_0o3) (near_0o3) (part_0o4)) (f5 : TQH (nodes_0o3) (order_0) (parent_0) (level_0) (near_0o3) (part_0o4) (x9) (x2) (x10) (x5) (x11)) (hK_0_2 : ∀ j : Int, 0 ≤ j → j < 24 → 0 ≤ order_0 j ∧ order_0 j ≤ 23) (hK_0_4 : ∀ j : Int, 0 ≤ j → j < 24 → 0 ≤ level_0 j ∧ level_0 j ≤ 23) (hK_0_5 : ∀ j : Int, 0 ≤ j → j < 24 → (-1) ≤ parent_0 j ∧ parent_0 j ≤ 23) (hK_3_14 : ∀ j : Int, 0 ≤ j → j < 24 → 0 ≤ near_0o3 j ∧ near_0o3 j ≤ 16777215) (hK_4_4 : ∀ j : Int, 0 ≤ j → j < 24 → (-1) ≤ part_0o4 j ∧ part_0o4 j ≤ 24) (kz_3_0 : 0 ≤ nodes_0o3 ∧ nodes_0o3 ≤ 24) : WTA (order_0) (part_0o4) (x10) (x5) := by
  first
    | exact wta_of ‹WTI _ _ _ _ _ _ _ _› (by omega) (by omega)
  
set_option maxHeartbeats 4000000 in
theorem vc_Pl_walkTree_1_1 (x1 : Int) (x2 : Int) (x5 : Int) (x7 : Int) (x8 : Int) (x9 : Int) (x10 : Int) (x11 : Int) (order_0 : Int → Int) (part_0o4 : Int → Int) (nodes_0o3 : Int) (near_0o3 : Int → Int) (parent_0 : Int → Int) (level_0 : Int → Int) (k1 : 0 ≤ x1 ∧ x1 ≤ 23) (k2 : 0 ≤ x2 ∧ x2 ≤ 23) (k5 : 0 ≤ x5 ∧ x5 ≤ 24) (k7 : 0 ≤ x7 ∧ x7 ≤ 23) (k8 : 0 ≤ x8 ∧ x8 ≤ 23) (k9 : 0 ≤ x9 ∧ x9 ≤ 16777215) (k10 : 1 ≤ x10 ∧ x10 ≤ 24) (k11 : 1 ≤ x11 ∧ x11 ≤ 24) (d0 : x10 + 0 ≤ x11 ∧ x11 ≤ x10 + 4294967296) (d1 : x7 + (-4294967296) ≤ x1 ∧ x1 ≤ x7 + 0) (d2 : x8 + (-4294967296) ≤ x2 ∧ x2 ≤ x8 + 0) (d3 : x9 + (-4294967296) ≤ x2 ∧ x2 ≤ x9 + 22) (d4 : x10 + (-4294967296) ≤ x2 ∧ x2 ≤ x10 + (-1)) (d5 : x11 + (-4294967296) ≤ x2 ∧ x2 ≤ x11 + 0) (d6 : x1 + (-4294967296) ≤ x7 ∧ x7 ≤ x1 + 0) (d7 : x2 + (-4294967296) ≤ x8 ∧ x8 ≤ x2 + 0) (d8 : x9 + (-4294967296) ≤ x8 ∧ x8 ≤ x9 + 22) (d9 : x10 + (-4294967296) ≤ x8 ∧ x8 ≤ x10 + (-1)) (d10 : x11 + (-4294967296) ≤ x8 ∧ x8 ≤ x11 + 0) (d11 : x10 + (-4294967296) ≤ x9 ∧ x9 ≤ x10 + 16777213) (d12 : x10 + (-4294967296) ≤ x11 ∧ x11 ≤ x10 + 0) (f0 : x10 ≤ x11) (f1 : WTI (nodes_0o3) (order_0) (part_0o4) (x9) (x2) (x10) (x5) (x11)) (f2 : PNC (nodes_0o3) (near_0o3) (part_0o4)) (f5 : TQH (nodes_0o3) (order_0) (parent_0) (level_0) (near_0o3) (part_0o4) (x9) (x2) (x10) (x5) (x11)) (hK_0_2 : ∀ j : Int, 0 ≤ j → j < 24 → 0 ≤ order_0 j ∧ order_0 j ≤ 23) (hK_0_4 : ∀ j : Int, 0 ≤ j → j < 24 → 0 ≤ level_0 j ∧ level_0 j ≤ 23) (hK_0_5 : ∀ j : Int, 0 ≤ j → j < 24 → (-1) ≤ parent_0 j ∧ parent_0 j ≤ 23) (hK_3_14 : ∀ j : Int, 0 ≤ j → j < 24 → 0 ≤ near_0o3 j ∧ near_0o3 j ≤ 16777215) (hK_4_4 : ∀ j : Int, 0 ≤ j → j < 24 → (-1) ≤ part_0o4 j ∧ part_0o4 j ≤ 24) (kz_3_0 : 0 ≤ nodes_0o3 ∧ nodes_0o3 ≤ 24) : TQA (nodes_0o3) (order_0) (parent_0) (level_0) (part_0o4) (x10) (x5) := by
  first
    | exact tqa_of ‹TQH _ _ _ _ _ _ _ _ _ _ _› ‹WTI _ _ _ _ _ _ _ _› ‹PNC _ _ _› (by omega) (by omega) (by omega)
  
def o_Pl_walkTree_1 : or_T := (156, 13, [(0, (2, 0, 0, [6])), (1, (0, 0, 23, [])), (2, (0, 0, 23, [])), (3, (2, 0, 0, [3])), (4, (2, 0, 0, [2])), (5, (0, 0, 24, [])), (7, (0, 0, 23, [])), (8, (0, 0, 23, [])), (9, (0, 0, 16777215, [])), (10, (0, 1, 24, [])), (11, (0, 1, 24, []))], [(7, [11, 10], [3]), (20, [6, 12, 4, 9, 8, 10, 5, 11], [60, 1, 2, 683, 1000, 2, 2004]), (20, [12, 4], [60, 1, 2, 671, 0, 14, 1004]), (24, [3, 12], []), (24, [2, 8], []), (20, [6, 12, 4, 9, 8, 10, 5, 11], [60, 1, 5, 858, 1000, 2, 5, 4, 1014, 2004]), (24, [0, 6], [])], [], [], [(20, [0, 4, 10, 5], [60, 0, 2, 679, 2, 1004]), (20, [0, 3, 4, 10, 5], [60, 1, 4, 856, 1000, 2, 5, 4, 2004])], [], [(11, 10, 0, 4294967296), (1, 7, -4294967296, 0), (2, 8, -4294967296, 0), (2, 9, -4294967296, 22), (2, 10, -4294967296, -1), (2, 11, -4294967296, 0), (7, 1, -4294967296, 0), (8, 2, -4294967296, 0), (8, 9, -4294967296, 22), (8, 10, -4294967296, -1), (8, 11, -4294967296, 0), (9, 10, -4294967296, 16777213), (11, 10, -4294967296, 0)])
theorem oo_Pl_walkTree_1 {kA : Nat → ClassId} : or_ok PRD kA GG o_Pl_walkTree_1 := by
  refine or_mk fun A ta ws vs hD hth hl => ?_
  intro t0 r0 t1 k1 t2 k2 t3 r3 t4 r4 t5 k5 t7 k7 t8 k8 t9 k9 t10 k10 t11 k11 d0 d1 d2 d3 d4 d5 d6 d7 d8 d9 d10 d11 d12 f0 f1 f2 f3 f4 f5 f6
  replace f1 := shm_437 f1
  replace f2 := shm_432 f2
  replace f3 := shm_5 f3
  replace f4 := shm_5 f4
  replace f5 := shm_438 f5
  replace f6 := shm_5 f6
  have q12 : n_v vs 12 = n_v vs 3 := f3.symm
  have q8 : n_v vs 8 = n_v vs 2 := f4.symm
  have q6 : n_v vs 6 = n_v vs 0 := f6.symm
  simp only [q12, q8, q6] at f1 f2 f5
  have cr_0_2 := fdq_93 hD hth r0
  have cr_0_4 := fdq_90 hD hth r0
  have cr_0_5 := fdq_94 hD hth r0
  have cr_3_14 := fdq_79 hD hth r3
  have cr_4_4 := fdq_91 hD hth r4
  have hK_0_2 := elq_42 hD hth cr_0_2
  have hK_0_4 := elq_40 hD hth cr_0_4
  have hK_0_5 := elq_43 hD hth cr_0_5
  have hK_3_14 := elq_24 hD hth cr_3_14
  have hK_4_4 := elq_28 hD hth cr_4_4
  have kz_3_0 := fdq_23 hD hth r3
  have nf0 : fc_1 PRD (20, [0, 4, 10, 5], [60, 0, 2, 679, 2, 1004]) ws (vs) := ⟨nf_in hl rfl, sgq_439 (vc_Pl_walkTree_1_0 (v_iv (n_v vs 1)) (v_iv (n_v vs 2)) (v_iv (n_v vs 5)) (v_iv (n_v vs 7)) (v_iv (n_v vs 8)) (v_iv (n_v vs 9)) (v_iv (n_v vs 10)) (v_iv (n_v vs 11)) (w_ei ws (w_ar ws (n_v vs 0) 2)) (w_ei ws (w_ar ws (n_v vs 4) 4)) (w_fi ws (n_v vs 3) 0) (w_ei ws (w_ar ws (n_v vs 3) 14)) (w_ei ws (w_ar ws (n_v vs 0) 5)) (w_ei ws (w_ar ws (n_v vs 0) 4)) k1 k2 k5 k7 k8 k9 k10 k11 d0 d1 d2 d3 d4 d5 d6 d7 d8 d9 d10 d11 d12 (shm_2 f0) f1 f2 f5 hK_0_2 hK_0_4 hK_0_5 hK_3_14 hK_4_4 kz_3_0)⟩
  have nf1 : fc_1 PRD (20, [0, 3, 4, 10, 5], [60, 1, 4, 856, 1000, 2, 5, 4, 2004]) ws (vs) := ⟨nf_in hl rfl, sgq_440 (vc_Pl_walkTree_1_1 (v_iv (n_v vs 1)) (v_iv (n_v vs 2)) (v_iv (n_v vs 5)) (v_iv (n_v vs 7)) (v_iv (n_v vs 8)) (v_iv (n_v vs 9)) (v_iv (n_v vs 10)) (v_iv (n_v vs 11)) (w_ei ws (w_ar ws (n_v vs 0) 2)) (w_ei ws (w_ar ws (n_v vs 4) 4)) (w_fi ws (n_v vs 3) 0) (w_ei ws (w_ar ws (n_v vs 3) 14)) (w_ei ws (w_ar ws (n_v vs 0) 5)) (w_ei ws (w_ar ws (n_v vs 0) 4)) k1 k2 k5 k7 k8 k9 k10 k11 d0 d1 d2 d3 d4 d5 d6 d7 d8 d9 d10 d11 d12 (shm_2 f0) f1 f2 f5 hK_0_2 hK_0_4 hK_0_5 hK_3_14 hK_4_4 kz_3_0)⟩
  refine ⟨(fun _ h => (by cases h)), [], trivial, ?_, (fun _ h => (by cases h))⟩
  rw [List.append_nil]
  exact List.forall_mem_cons.mpr ⟨⟨show (20 : Nat) < 100 from by decide, nf0⟩, List.forall_mem_cons.mpr ⟨⟨show (20 : Nat) < 100 from by decide, nf1⟩, (fun _ h => (by cases h))⟩⟩
set_option maxHeartbeats 4000000 in
theorem vc_Pl_walkTree_2_0 (x1 : Int) (x2 : Int) (x5 : Int) (x7 : Int) (x8 : Int) (x9 : Int) (x10 : Int) (x11 : Int) (x14 : Int) (x15 : Int) (order_0 : Int → Int) (part_0o4 : Int → Int) (nodes_0o3 : Int) (near_0o3 : Int → Int) (parent_0 : Int → Int) (level_0 : Int → Int) (k1 : 0 ≤ x1 ∧ x1 ≤ 23) (k2 : 0 ≤ x2 ∧ x2 ≤ 23) (k5 : 0 ≤ x5 ∧ x5 ≤ 24) (k7 : 0 ≤ x7 ∧ x7 ≤ 23) (k8 : 0 ≤ x8 ∧ x8 ≤ 23) (k9 : 0 ≤ x9 ∧ x9 ≤ 16777215) (k10 : 1 ≤ x10 ∧ x10 ≤ 24) (k11 : 0 ≤ x11 ∧ x11 ≤ 23) (k14 : 0 ≤ x14 ∧ x14 ≤ 23) (k15 : 0 ≤ x15 ∧ x15 ≤ 0) (d0 : x10 + (-4294967296) ≤ x11 ∧ x11 ≤ x10 + (-1)) (d1 : x7 + (-4294967296) ≤ x1 ∧ x1 ≤ x7 + 0) (d2 : x8 + (-4294967296) ≤ x2 ∧ x2 ≤ x8 + 0) (d3 : x9 + (-4294967296) ≤ x2 ∧ x2 ≤ x9 + 22) (d4 : x10 + (-4294967296) ≤ x2 ∧ x2 ≤ x10 + (-1)) (d5 : x11 + (-4294967296) ≤ x2 ∧ x2 ≤ x11 + 0) (d6 : x1 + (-4294967296) ≤ x7 ∧ x7 ≤ x1 + 0) (d7 : x2 + (-4294967296) ≤ x8 ∧ x8 ≤ x2 + 0) (d8 : x9 + (-4294967296) ≤ x8 ∧ x8 ≤ x9 + 22) (d9 : x10 + (-4294967296) ≤ x8 ∧ x8 ≤ x10 + (-1)) (d10 : x11 + (-4294967296) ≤ x8 ∧ x8 ≤ x11 + 0) (d11 : x10 + (-4294967296) ≤ x9 ∧ x9 ≤ x10 + 16777213) (d12 : x11 + (-4294967296) ≤ x9 ∧ x9 ≤ x11 + 16777214) (d13 : x11 + (-4294967296) ≤ x10 ∧ x10 ≤ x11 + 23) (d14 : x10 + (-4294967296) ≤ x11 ∧ x11 ≤ x10 + 0) (h0 : x14 = order_0 (x11)) (f2 : x11 < x10) (f3 : WTI (nodes_0o3) (order_0) (part_0o4) (x9) (x2) (x10) (x5) (x11)) (f4 : PNC (nodes_0o3) (near_0o3) (part_0o4)) (f7 : TQH (nodes_0o3) (order_0) (parent_0) (level_0) (near_0o3) (part_0o4) (x9) (x2) (x10) (x5) (x11)) (hK_0_2 : ∀ j : Int, 0 ≤ j → j < 24 → 0 ≤ order_0 j ∧ order_0 j ≤ 23) (hK_0_4 : ∀ j : Int, 0 ≤ j → j < 24 → 0 ≤ level_0 j ∧ level_0 j ≤ 23) (hK_0_5 : ∀ j : Int, 0 ≤ j → j < 24 → (-1) ≤ parent_0 j ∧ parent_0 j ≤ 23) (hK_3_14 : ∀ j : Int, 0 ≤ j → j < 24 → 0 ≤ near_0o3 j ∧ near_0o3 j ≤ 16777215) (hK_4_4 : ∀ j : Int, 0 ≤ j → j < 24 → (-1) ≤ part_0o4 j ∧ part_0o4 j ≤ 24) (kz_3_0 : 0 ≤ nodes_0o3 ∧ nodes_0o3 ≤ 24) : x14 = order_0 (x11) := by
  first
    | omega
    | (have q := (‹TQI _ _ _ _ _ _ _ _ _ _ _ _›).2.2.2.1 x11 (by have := (‹WTI _ _ _ _ _ _ _ _›).1; have := (‹WTI _ _ _ _ _ _ _ _›).2.2.1; omega) (by omega)
       have q1 := q.1
       have e : x12 = order_0 x11 := by assumption
       first
         | (rw [← e] at q1; omega)
         | (have e2 : x12 = order_1 x11 := by assumption
            rw [← e2] at q1
            omega))
    | (have q := (hE_0_2_1 x11 (by omega)).2 (by omega); omega)
  
set_option maxHeartbeats 4000000 in
theorem vc_Pl_walkTree_2_1 (x1 : Int) (x2 : Int) (x5 : Int) (x7 : Int) (x8 : Int) (x9 : Int) (x10 : Int) (x11 : Int) (x14 : Int) (x15 : Int) (order_0 : Int → Int) (part_0o4 : Int → Int) (nodes_0o3 : Int) (near_0o3 : Int → Int) (parent_0 : Int → Int) (level_0 : Int → Int) (k1 : 0 ≤ x1 ∧ x1 ≤ 23) (k2 : 0 ≤ x2 ∧ x2 ≤ 23) (k5 : 0 ≤ x5 ∧ x5 ≤ 24) (k7 : 0 ≤ x7 ∧ x7 ≤ 23) (k8 : 0 ≤ x8 ∧ x8 ≤ 23) (k9 : 0 ≤ x9 ∧ x9 ≤ 16777215) (k10 : 1 ≤ x10 ∧ x10 ≤ 24) (k11 : 0 ≤ x11 ∧ x11 ≤ 23) (k14 : 0 ≤ x14 ∧ x14 ≤ 23) (k15 : 0 ≤ x15 ∧ x15 ≤ 0) (d0 : x10 + (-4294967296) ≤ x11 ∧ x11 ≤ x10 + (-1)) (d1 : x7 + (-4294967296) ≤ x1 ∧ x1 ≤ x7 + 0) (d2 : x8 + (-4294967296) ≤ x2 ∧ x2 ≤ x8 + 0) (d3 : x9 + (-4294967296) ≤ x2 ∧ x2 ≤ x9 + 22) (d4 : x10 + (-4294967296) ≤ x2 ∧ x2 ≤ x10 + (-1)) (d5 : x11 + (-4294967296) ≤ x2 ∧ x2 ≤ x11 + 0) (d6 : x1 + (-4294967296) ≤ x7 ∧ x7 ≤ x1 + 0) (d7 : x2 + (-4294967296) ≤ x8 ∧ x8 ≤ x2 + 0) (d8 : x9 + (-4294967296) ≤ x8 ∧ x8 ≤ x9 + 22) (d9 : x10 + (-4294967296) ≤ x8 ∧ x8 ≤ x10 + (-1)) (d10 : x11 + (-4294967296) ≤ x8 ∧ x8 ≤ x11 + 0) (d11 : x10 + (-4294967296) ≤ x9 ∧ x9 ≤ x10 + 16777213) (d12 : x11 + (-4294967296) ≤ x9 ∧ x9 ≤ x11 + 16777214) (d13 : x11 + (-4294967296) ≤ x10 ∧ x10 ≤ x11 + 23) (d14 : x10 + (-4294967296) ≤ x11 ∧ x11 ≤ x10 + 0) (h0 : x14 = order_0 (x11)) (f2 : x11 < x10) (f3 : WTI (nodes_0o3) (order_0) (part_0o4) (x9) (x2) (x10) (x5) (x11)) (f4 : PNC (nodes_0o3) (near_0o3) (part_0o4)) (f7 : TQH (nodes_0o3) (order_0) (parent_0) (level_0) (near_0o3) (part_0o4) (x9) (x2) (x10) (x5) (x11)) (hK_0_2 : ∀ j : Int, 0 ≤ j → j < 24 → 0 ≤ order_0 j ∧ order_0 j ≤ 23) (hK_0_4 : ∀ j : Int, 0 ≤ j → j < 24 → 0 ≤ level_0 j ∧ level_0 j ≤ 23) (hK_0_5 : ∀ j : Int, 0 ≤ j → j < 24 → (-1) ≤ parent_0 j ∧ parent_0 j ≤ 23) (hK_3_14 : ∀ j : Int, 0 ≤ j → j < 24 → 0 ≤ near_0o3 j ∧ near_0o3 j ≤ 16777215) (hK_4_4 : ∀ j : Int, 0 ≤ j → j < 24 → (-1) ≤ part_0o4 j ∧ part_0o4 j ≤ 24) (kz_3_0 : 0 ≤ nodes_0o3 ∧ nodes_0o3 ≤ 24) : (x11 + 1) ≤ x10 := by
  first
    | omega
    | (have q := (‹TQI _ _ _ _ _ _ _ _ _ _ _ _›).2.2.2.1 x11 (by have := (‹WTI _ _ _ _ _ _ _ _›).1; have := (‹WTI _ _ _ _ _ _ _ _›).2.2.1; omega) (by omega)
       have q1 := q.1
       have e : x12 = order_0 x11 := by assumption
       first
         | (rw [← e] at q1; omega)
         | (have e2 : x12 = order_1 x11 := by assumption
            rw [← e2] at q1
            omega))
    | (have q := (hE_0_2_1 x11 (by omega)).2 (by omega); omega)
  
set_option maxHeartbeats 4000000 in
theorem vc_Pl_walkTree_2_2 (x1 : Int) (x2 : Int) (x5 : Int) (x7 : Int) (x8 : Int) (x9 : Int) (x10 : Int) (x11 : Int) (x14 : Int) (x15 : Int) (order_0 : Int → Int) (part_0o4 : Int → Int) (nodes_0o3 : Int) (near_0o3 : Int → Int) (parent_0 : Int → Int) (level_0 : Int → Int) (k1 : 0 ≤ x1 ∧ x1 ≤ 23) (k2 : 0 ≤ x2 ∧ x2 ≤ 23) (k5 : 0 ≤ x5 ∧ x5 ≤ 24) (k7 : 0 ≤ x7 ∧ x7 ≤ 23) (k8 : 0 ≤ x8 ∧ x8 ≤ 23) (k9 : 0 ≤ x9 ∧ x9 ≤ 16777215) (k10 : 1 ≤ x10 ∧ x10 ≤ 24) (k11 : 0 ≤ x11 ∧ x11 ≤ 23) (k14 : 0 ≤ x14 ∧ x14 ≤ 23) (k15 : 0 ≤ x15 ∧ x15 ≤ 0) (d0 : x10 + (-4294967296) ≤ x11 ∧ x11 ≤ x10 + (-1)) (d1 : x7 + (-4294967296) ≤ x1 ∧ x1 ≤ x7 + 0) (d2 : x8 + (-4294967296) ≤ x2 ∧ x2 ≤ x8 + 0) (d3 : x9 + (-4294967296) ≤ x2 ∧ x2 ≤ x9 + 22) (d4 : x10 + (-4294967296) ≤ x2 ∧ x2 ≤ x10 + (-1)) (d5 : x11 + (-4294967296) ≤ x2 ∧ x2 ≤ x11 + 0) (d6 : x1 + (-4294967296) ≤ x7 ∧ x7 ≤ x1 + 0) (d7 : x2 + (-4294967296) ≤ x8 ∧ x8 ≤ x2 + 0) (d8 : x9 + (-4294967296) ≤ x8 ∧ x8 ≤ x9 + 22) (d9 : x10 + (-4294967296) ≤ x8 ∧ x8 ≤ x10 + (-1)) (d10 : x11 + (-4294967296) ≤ x8 ∧ x8 ≤ x11 + 0) (d11 : x10 + (-4294967296) ≤ x9 ∧ x9 ≤ x10 + 16777213) (d12 : x11 + (-4294967296) ≤ x9 ∧ x9 ≤ x11 + 16777214) (d13 : x11 + (-4294967296) ≤ x10 ∧ x10 ≤ x11 + 23) (d14 : x10 + (-4294967296) ≤ x11 ∧ x11 ≤ x10 + 0) (h0 : x14 = order_0 (x11)) (f2 : x11 < x10) (f3 : WTI (nodes_0o3) (order_0) (part_0o4) (x9) (x2) (x10) (x5) (x11)) (f4 : PNC (nodes_0o3) (near_0o3) (part_0o4)) (f7 : TQH (nodes_0o3) (order_0) (parent_0) (level_0) (near_0o3) (part_0o4) (x9) (x2) (x10) (x5) (x11)) (hK_0_2 : ∀ j : Int, 0 ≤ j → j < 24 → 0 ≤ order_0 j ∧ order_0 j ≤ 23) (hK_0_4 : ∀ j : Int, 0 ≤ j → j < 24 → 0 ≤ level_0 j ∧ level_0 j ≤ 23) (hK_0_5 : ∀ j : Int, 0 ≤ j → j < 24 → (-1) ≤ parent_0 j ∧ parent_0 j ≤ 23) (hK_3_14 : ∀ j : Int, 0 ≤ j → j < 24 → 0 ≤ near_0o3 j ∧ near_0o3 j ≤ 16777215) (hK_4_4 : ∀ j : Int, 0 ≤ j → j < 24 → (-1) ≤ part_0o4 j ∧ part_0o4 j ≤ 24) (kz_3_0 : 0 ≤ nodes_0o3 ∧ nodes_0o3 ≤ 24) : TQI (nodes_0o3) (order_0) (parent_0) (level_0) (near_0o3) (part_0o4) (x9) (x2) (x10) (x5) (x11) (x15) := by
  first
    | exact tqi_of ‹TQH _ _ _ _ _ _ _ _ _ _ _› (by omega) (by omega)
    | (have qa := bit_one (s := x18) (t := x19) (c := x21) (v := x13) (one := x20) (by assumption) (by assumption) (by omega) (by omega) (by omega) (by omega)
       have e := (‹x18 = _›)
       exact tqi_skip (v := x12) (w := x13) ‹TQI _ _ _ _ _ _ _ _ _ _ _ _› (by assumption) (Or.inl (fun z => by rw [← e] at z; have := qa.mp z; omega)) (by omega))
    | (have qb := bit_one (s := x9) (t := x22) (c := x24) (v := x13) (one := x23) (by assumption) (by assumption) (by omega) (by omega) (by omega) (by omega)
       exact tqi_skip (v := x12) (w := x13) ‹TQI _ _ _ _ _ _ _ _ _ _ _ _› (by assumption) (Or.inr (qb.mpr (by omega))) (by omega))
    | (have qa := bit_one (s := x18) (t := x19) (c := x21) (v := x13) (one := x20) (by assumption) (by assumption) (by omega) (by omega) (by omega) (by omega)
       have qb := bit_one (s := x9) (t := x22) (c := x24) (v := x13) (one := x23) (by assumption) (by assumption) (by omega) (by omega) (by omega) (by omega)
       have o1 : x25 = 1 := by omega
       subst o1
       exact tqi_step (v := x12) (w := x13) (q := x10) (x := x13) (o := x26) (pv := x12) (l0 := x30) (l1 := x32) ‹TQI _ _ _ _ _ _ _ _ _ _ _ _› ‹WTI _ _ _ _ _ _ _ _› (by omega) (by omega) ‹PNC _ _ _› (by assumption) (by omega) (by omega) (by omega) (by have e := (‹x18 = _›); rw [← e]; exact qa.mpr (by omega)) (fun z => by have := qb.mp z; omega) (by assumption) rfl rfl (by assumption) rfl (by assumption) (by assumption) (by omega) (by assumption) (by assumption) (by omega) (by omega))
  
def o_Pl_walkTree_2 : or_T := (52, 16, [(0, (2, 0, 0, [6])), (1, (0, 0, 23, [])), (2, (0, 0, 23, [])), (3, (2, 0, 0, [3])), (4, (2, 0, 0, [2])), (5, (0, 0, 24, [])), (7, (0, 0, 23, [])), (8, (0, 0, 23, [])), (9, (0, 0, 16777215, [])), (10, (0, 1, 24, [])), (11, (0, 0, 23, [])), (14, (0, 0, 23, [])), (15, (0, 0, 0, []))], [(10, [14, 13, 11], []), (9, [13, 6], [2]), (7, [11, 10], [2]), (20, [6, 12, 4, 9, 8, 10, 5, 11], [60, 1, 2, 683, 1000, 2, 2004]), (20, [12, 4], [60, 1, 2, 671, 0, 14, 1004]), (24, [3, 12], []), (24, [2, 8], []), (20, [6, 12, 4, 9, 8, 10, 5, 11], [60, 1, 5, 858, 1000, 2, 5, 4, 1014, 2004]), (24, [0, 6], [])], [], [], [(20, [14, 6, 11], [50, 0, 1, 1002, 1, 2, 1, 0, 3, 1, 2, 1, 2]), (20, [11, 10], [50, 0, 0, 0, 6, 4, 2, 1, 0, 0, 1, 1, 1]), (20, [6, 12, 4, 9, 8, 10, 5, 11, 15], [60, 1, 5, 857, 1000, 2, 5, 4, 1014, 2004])], [], [(11, 10, -4294967296, -1), (1, 7, -4294967296, 0), (2, 8, -4294967296, 0), (2, 9, -4294967296, 22), (2, 10, -4294967296, -1), (2, 11, -4294967296, 0), (7, 1, -4294967296, 0), (8, 2, -4294967296, 0), (8, 9, -4294967296, 22), (8, 10, -4294967296, -1), (8, 11, -4294967296, 0), (9, 10, -4294967296, 16777213), (9, 11, -4294967296, 16777214), (10, 11, -4294967296, 23), (11, 10, -4294967296, 0)])
theorem oo_Pl_walkTree_2 {kA : Nat → ClassId} : or_ok PRD kA GG o_Pl_walkTree_2 := by
  refine or_mk fun A ta ws vs hD hth hl => ?_
  intro t0 r0 t1 k1 t2 k2 t3 r3 t4 r4 t5 k5 t7 k7 t8 k8 t9 k9 t10 k10 t11 k11 t14 k14 t15 k15 d0 d1 d2 d3 d4 d5 d6 d7 d8 d9 d10 d11 d12 d13 d14 f0 f1 f2 f3 f4 f5 f6 f7 f8
  replace f0 := shm_106 f0
  replace f1 := shm_129 f1
  replace f2 := shm_6 f2
  replace f3 := shm_437 f3
  replace f4 := shm_432 f4
  replace f5 := shm_5 f5
  replace f6 := shm_5 f6
  replace f7 := shm_438 f7
  replace f8 := shm_5 f8
  have q12 : n_v vs 12 = n_v vs 3 := f5.symm
  have q8 : n_v vs 8 = n_v vs 2 := f6.symm
  have q6 : n_v vs 6 = n_v vs 0 := f8.symm
  simp only [q6, q12, q8] at f1 f3 f4 f7
  have cr_0_2 := fdq_93 hD hth r0
  have cr_0_4 := fdq_90 hD hth r0
  have cr_0_5 := fdq_94 hD hth r0
  have cr_3_14 := fdq_79 hD hth r3
  have cr_4_4 := fdq_91 hD hth r4
  have ad_13 : v_ad (n_v vs 13) = w_ar ws (n_v vs 0) 2 := congrArg v_ad f1
  simp only [ad_13] at f0
  have h0 : v_iv (n_v vs 14) = w_ei ws (w_ar ws (n_v vs 0) 2) (v_iv (n_v vs 11)) := f0
  have hK_0_2 := elq_42 hD hth cr_0_2
  have hK_0_4 := elq_40 hD hth cr_0_4
  have hK_0_5 := elq_43 hD hth cr_0_5
  have hK_3_14 := elq_24 hD hth cr_3_14
  have hK_4_4 := elq_28 hD hth cr_4_4
  have kz_3_0 := fdq_23 hD hth r3
  have nf0 : fc_1 PRD (20, [14, 6, 11], [50, 0, 1, 1002, 1, 2, 1, 0, 3, 1, 2, 1, 2]) ws (vs) := by
    refine ⟨nf_in hl rfl, sgq_441 ?_⟩
    · show v_iv (n_v vs 14) = w_ei ws (w_ar ws (n_v vs 6) 2) (v_iv (n_v vs 11))
      rw [q6]
      exact vc_Pl_walkTree_2_0 (v_iv (n_v vs 1)) (v_iv (n_v vs 2)) (v_iv (n_v vs 5)) (v_iv (n_v vs 7)) (v_iv (n_v vs 8)) (v_iv (n_v vs 9)) (v_iv (n_v vs 10)) (v_iv (n_v vs 11)) (v_iv (n_v vs 14)) (v_iv (n_v vs 15)) (w_ei ws (w_ar ws (n_v vs 0) 2)) (w_ei ws (w_ar ws (n_v vs 4) 4)) (w_fi ws (n_v vs 3) 0) (w_ei ws (w_ar ws (n_v vs 3) 14)) (w_ei ws (w_ar ws (n_v vs 0) 5)) (w_ei ws (w_ar ws (n_v vs 0) 4)) k1 k2 k5 k7 k8 k9 k10 k11 k14 k15 d0 d1 d2 d3 d4 d5 d6 d7 d8 d9 d10 d11 d12 d13 d14 h0 f2 f3 f4 f7 hK_0_2 hK_0_4 hK_0_5 hK_3_14 hK_4_4 kz_3_0
  have nf1 : fc_1 PRD (20, [11, 10], [50, 0, 0, 0, 6, 4, 2, 1, 0, 0, 1, 1, 1]) ws (vs) := ⟨nf_in hl rfl, sgq_409 (vc_Pl_walkTree_2_1 (v_iv (n_v vs 1)) (v_iv (n_v vs 2)) (v_iv (n_v vs 5)) (v_iv (n_v vs 7)) (v_iv (n_v vs 8)) (v_iv (n_v vs 9)) (v_iv (n_v vs 10)) (v_iv (n_v vs 11)) (v_iv (n_v vs 14)) (v_iv (n_v vs 15)) (w_ei ws (w_ar ws (n_v vs 0) 2)) (w_ei ws (w_ar ws (n_v vs 4) 4)) (w_fi ws (n_v vs 3) 0) (w_ei ws (w_ar ws (n_v vs 3) 14)) (w_ei ws (w_ar ws (n_v vs 0) 5)) (w_ei ws (w_ar ws (n_v vs 0) 4)) k1 k2 k5 k7 k8 k9 k10 k11 k14 k15 d0 d1 d2 d3 d4 d5 d6 d7 d8 d9 d10 d11 d12 d13 d14 h0 f2 f3 f4 f7 hK_0_2 hK_0_4 hK_0_5 hK_3_14 hK_4_4 kz_3_0)⟩
  have nf2 : fc_1 PRD (20, [6, 12, 4, 9, 8, 10, 5, 11, 15], [60, 1, 5, 857, 1000, 2, 5, 4, 1014, 2004]) ws (vs) := by
    refine ⟨nf_in hl rfl, sgq_442 ?_⟩
    · show TQI (w_fi ws (n_v vs 12) 0) (w_ei ws (w_ar ws (n_v vs 6) 2)) (w_ei ws (w_ar ws (n_v vs 6) 5)) (w_ei ws (w_ar ws (n_v vs 6) 4)) (w_ei ws (w_ar ws (n_v vs 12) 14)) (w_ei ws (w_ar ws (n_v vs 4) 4)) (v_iv (n_v vs 9)) (v_iv (n_v vs 8)) (v_iv (n_v vs 10)) (v_iv (n_v vs 5)) (v_iv (n_v vs 11)) (v_iv (n_v vs 15))
      simp only [q12, q8, q6]
      exact vc_Pl_walkTree_2_2 (v_iv (n_v vs 1)) (v_iv (n_v vs 2)) (v_iv (n_v vs 5)) (v_iv (n_v vs 7)) (v_iv (n_v vs 8)) (v_iv (n_v vs 9)) (v_iv (n_v vs 10)) (v_iv (n_v vs 11)) (v_iv (n_v vs 14)) (v_iv (n_v vs 15)) (w_ei ws (w_ar ws (n_v vs 0) 2)) (w_ei ws (w_ar ws (n_v vs 4) 4)) (w_fi ws (n_v vs 3) 0) (w_ei ws (w_ar ws (n_v vs 3) 14)) (w_ei ws (w_ar ws (n_v vs 0) 5)) (w_ei ws (w_ar ws (n_v vs 0) 4)) k1 k2 k5 k7 k8 k9 k10 k11 k14 k15 d0 d1 d2 d3 d4 d5 d6 d7 d8 d9 d10 d11 d12 d13 d14 h0 f2 f3 f4 f7 hK_0_2 hK_0_4 hK_0_5 hK_3_14 hK_4_4 kz_3_0
  refine ⟨(fun _ h => (by cases h)), [], trivial, ?_, (fun _ h => (by cases h))⟩
  rw [List.append_nil]
  exact List.forall_mem_cons.mpr ⟨⟨show (20 : Nat) < 100 from by decide, nf0⟩, List.forall_mem_cons.mpr ⟨⟨show (20 : Nat) < 100 from by decide, nf1⟩, List.forall_mem_cons.mpr ⟨⟨show (20 : Nat) < 100 from by decide, nf2⟩, (fun _ h => (by cases h))⟩⟩⟩
set_option maxHeartbeats 4000000 in
theorem vc_Pl_walkTree_3_0 (x1 : Int) (x2 : Int) (x5 : Int) (x7 : Int) (x8 : Int) (x9 : Int) (x10 : Int) (x11 : Int) (x12 : Int) (x13 : Int) (x15 : Int) (x16 : Int) (nodes_0o3 : Int) (order_0 : Int → Int) (part_0o4 : Int → Int) (near_0o3 : Int → Int) (parent_0 : Int → Int) (level_0 : Int → Int) (k1 : 0 ≤ x1 ∧ x1 ≤ 23) (k2 : 0 ≤ x2 ∧ x2 ≤ 23) (k5 : 0 ≤ x5 ∧ x5 ≤ 24) (k7 : 0 ≤ x7 ∧ x7 ≤ 23) (k8 : 0 ≤ x8 ∧ x8 ≤ 23) (k9 : 0 ≤ x9 ∧ x9 ≤ 16777215) (k10 : 1 ≤ x10 ∧ x10 ≤ 24) (k11 : 0 ≤ x11 ∧ x11 ≤ 23) (k12 : 0 ≤ x12 ∧ x12 ≤ 23) (k13 : 0 ≤ x13 ∧ x13 ≤ 24) (k15 : 0 ≤ x15 ∧ x15 ≤ 24) (k16 : 1 ≤ x16 ∧ x16 ≤ 24) (d0 : x11 + 1 ≤ x16 ∧ x16 ≤ x11 + 1) (d1 : x10 + (-4294967296) ≤ x16 ∧ x16 ≤ x10 + 0) (d2 : x15 + 0 ≤ x13 ∧ x13 ≤ x15 + 4294967296) (d3 : x7 + (-4294967296) ≤ x1 ∧ x1 ≤ x7 + 0) (d4 : x8 + (-4294967296) ≤ x2 ∧ x2 ≤ x8 + 0) (d5 : x9 + (-4294967296) ≤ x2 ∧ x2 ≤ x9 + 22) (d6 : x10 + (-4294967296) ≤ x2 ∧ x2 ≤ x10 + (-1)) (d7 : x11 + (-4294967296) ≤ x2 ∧ x2 ≤ x11 + 0) (d8 : x1 + (-4294967296) ≤ x7 ∧ x7 ≤ x1 + 0) (d9 : x2 + (-4294967296) ≤ x8 ∧ x8 ≤ x2 + 0) (d10 : x9 + (-4294967296) ≤ x8 ∧ x8 ≤ x9 + 22) (d11 : x10 + (-4294967296) ≤ x8 ∧ x8 ≤ x10 + (-1)) (d12 : x11 + (-4294967296) ≤ x8 ∧ x8 ≤ x11 + 0) (d13 : x10 + (-4294967296) ≤ x9 ∧ x9 ≤ x10 + 16777213) (d14 : x10 + (-4294967296) ≤ x11 ∧ x11 ≤ x10 + (-1)) (f0 : x16 = x11 + 1) (f1 : x15 ≤ x13) (g2 : x15 = nodes_0o3) (f3 : WTI (nodes_0o3) (order_0) (part_0o4) (x9) (x2) (x10) (x5) (x11)) (f4 : PNC (nodes_0o3) (near_0o3) (part_0o4)) (f7 : x12 = order_0 (x11)) (f8 : (x11 + 1) ≤ x10) (f9 : TQI (nodes_0o3) (order_0) (parent_0) (level_0) (near_0o3) (part_0o4) (x9) (x2) (x10) (x5) (x11) (x13)) (hK_0_2 : ∀ j : Int, 0 ≤ j → j < 24 → 0 ≤ order_0 j ∧ order_0 j ≤ 23) (hK_0_4 : ∀ j : Int, 0 ≤ j → j < 24 → 0 ≤ level_0 j ∧ level_0 j ≤ 23) (hK_0_5 : ∀ j : Int, 0 ≤ j → j < 24 → (-1) ≤ parent_0 j ∧ parent_0 j ≤ 23) (hK_3_14 : ∀ j : Int, 0 ≤ j → j < 24 → 0 ≤ near_0o3 j ∧ near_0o3 j ≤ 16777215) (hK_4_4 : ∀ j : Int, 0 ≤ j → j < 24 → (-1) ≤ part_0o4 j ∧ part_0o4 j ≤ 24) (kz_3_0 : 0 ≤ nodes_0o3 ∧ nodes_0o3 ≤ 24) : WTI (nodes_0o3) (order_0) (part_0o4) (x9) (x2) (x10) (x5) (x16) := by
  first
    | assumption
    | exact wti_next ‹WTI _ _ _ _ _ _ _ _› (by omega)
    | (have o1 : x6 = 1 := by omega
       subst o1
       exact wti_start (q := x2) (x := x1) ‹WTB _ _ _ _› (by omega) (by omega) (by omega) (by omega) ‹RTP _ _ _› (by assumption) rfl rfl (by assumption) (by omega) rfl)
    | (have qa := bit_one (s := x18) (t := x19) (c := x21) (v := x13) (one := x20) (by assumption) (by assumption) (by omega) (by omega) (by omega) (by omega)
       have qb := bit_one (s := x9) (t := x22) (c := x24) (v := x13) (one := x23) (by assumption) (by assumption) (by omega) (by omega) (by omega) (by omega)
       have o1 : x25 = 1 := by omega
       subst o1
       exact wti_step (v := x12) (w := x13) (q := x10) (x := x13) (o := x26) ‹WTI _ _ _ _ _ _ _ _› (by omega) (by omega) ‹PNC _ _ _› (by assumption) (by omega) (by omega) (by omega) (by have e := (‹x18 = _›); rw [← e]; exact qa.mpr (by omega)) (fun z => by have := qb.mp z; omega) (by assumption) rfl rfl (by assumption) (by assumption) (by omega))
  
set_option maxHeartbeats 4000000 in
theorem vc_Pl_walkTree_3_1 (x1 : Int) (x2 : Int) (x5 : Int) (x7 : Int) (x8 : Int) (x9 : Int) (x10 : Int) (x11 : Int) (x12 : Int) (x13 : Int) (x15 : Int) (x16 : Int) (nodes_0o3 : Int) (order_0 : Int → Int) (part_0o4 : Int → Int) (near_0o3 : Int → Int) (parent_0 : Int → Int) (level_0 : Int → Int) (k1 : 0 ≤ x1 ∧ x1 ≤ 23) (k2 : 0 ≤ x2 ∧ x2 ≤ 23) (k5 : 0 ≤ x5 ∧ x5 ≤ 24) (k7 : 0 ≤ x7 ∧ x7 ≤ 23) (k8 : 0 ≤ x8 ∧ x8 ≤ 23) (k9 : 0 ≤ x9 ∧ x9 ≤ 16777215) (k10 : 1 ≤ x10 ∧ x10 ≤ 24) (k11 : 0 ≤ x11 ∧ x11 ≤ 23) (k12 : 0 ≤ x12 ∧ x12 ≤ 23) (k13 : 0 ≤ x13 ∧ x13 ≤ 24) (k15 : 0 ≤ x15 ∧ x15 ≤ 24) (k16 : 1 ≤ x16 ∧ x16 ≤ 24) (d0 : x11 + 1 ≤ x16 ∧ x16 ≤ x11 + 1) (d1 : x10 + (-4294967296) ≤ x16 ∧ x16 ≤ x10 + 0) (d2 : x15 + 0 ≤ x13 ∧ x13 ≤ x15 + 4294967296) (d3 : x7 + (-4294967296) ≤ x1 ∧ x1 ≤ x7 + 0) (d4 : x8 + (-4294967296) ≤ x2 ∧ x2 ≤ x8 + 0) (d5 : x9 + (-4294967296) ≤ x2 ∧ x2 ≤ x9 + 22) (d6 : x10 + (-4294967296) ≤ x2 ∧ x2 ≤ x10 + (-1)) (d7 : x11 + (-4294967296) ≤ x2 ∧ x2 ≤ x11 + 0) (d8 : x1 + (-4294967296) ≤ x7 ∧ x7 ≤ x1 + 0) (d9 : x2 + (-4294967296) ≤ x8 ∧ x8 ≤ x2 + 0) (d10 : x9 + (-4294967296) ≤ x8 ∧ x8 ≤ x9 + 22) (d11 : x10 + (-4294967296) ≤ x8 ∧ x8 ≤ x10 + (-1)) (d12 : x11 + (-4294967296) ≤ x8 ∧ x8 ≤ x11 + 0) (d13 : x10 + (-4294967296) ≤ x9 ∧ x9 ≤ x10 + 16777213) (d14 : x10 + (-4294967296) ≤ x11 ∧ x11 ≤ x10 + (-1)) (f0 : x16 = x11 + 1) (f1 : x15 ≤ x13) (g2 : x15 = nodes_0o3) (f3 : WTI (nodes_0o3) (order_0) (part_0o4) (x9) (x2) (x10) (x5) (x11)) (f4 : PNC (nodes_0o3) (near_0o3) (part_0o4)) (f7 : x12 = order_0 (x11)) (f8 : (x11 + 1) ≤ x10) (f9 : TQI (nodes_0o3) (order_0) (parent_0) (level_0) (near_0o3) (part_0o4) (x9) (x2) (x10) (x5) (x11) (x13)) (hK_0_2 : ∀ j : Int, 0 ≤ j → j < 24 → 0 ≤ order_0 j ∧ order_0 j ≤ 23) (hK_0_4 : ∀ j : Int, 0 ≤ j → j < 24 → 0 ≤ level_0 j ∧ level_0 j ≤ 23) (hK_0_5 : ∀ j : Int, 0 ≤ j → j < 24 → (-1) ≤ parent_0 j ∧ parent_0 j ≤ 23) (hK_3_14 : ∀ j : Int, 0 ≤ j → j < 24 → 0 ≤ near_0o3 j ∧ near_0o3 j ≤ 16777215) (hK_4_4 : ∀ j : Int, 0 ≤ j → j < 24 → (-1) ≤ part_0o4 j ∧ part_0o4 j ≤ 24) (kz_3_0 : 0 ≤ nodes_0o3 ∧ nodes_0o3 ≤ 24) : TQH (nodes_0o3) (order_0) (parent_0) (level_0) (near_0o3) (part_0o4) (x9) (x2) (x10) (x5) (x16) := by
  first
    | assumption
    | exact tqi_next ‹TQI _ _ _ _ _ _ _ _ _ _ _ _› (by omega) (Or.inl (by omega)) (by omega)
    | exact tqi_next ‹TQI _ _ _ _ _ _ _ _ _ _ _ _› (by omega) (Or.inr (by omega)) (by omega)
    | (have o1 : x6 = 1 := by omega
       subst o1
       exact tqi_start (q := x2) (x := x1) (pv := x12) (lq := x14) ‹TQB _ _ _ _ _ _ _› ‹WTB _ _ _ _› (by omega) (by omega) (by omega) ‹RTP _ _ _› (by assumption) rfl rfl (by assumption) (by omega) (by assumption) (by omega) (by assumption) (by omega) rfl)
  
def o_Pl_walkTree_3 : or_T := (33, 17, [(0, (2, 0, 0, [6])), (1, (0, 0, 23, [])), (2, (0, 0, 23, [])), (3, (2, 0, 0, [3])), (4, (2, 0, 0, [2])), (5, (0, 0, 24, [])), (7, (0, 0, 23, [])), (8, (0, 0, 23, [])), (9, (0, 0, 16777215, [])), (10, (0, 1, 24, [])), (11, (0, 0, 23, [])), (12, (0, 0, 23, [])), (13, (0, 0, 24, [])), (15, (0, 0, 24, [])), (16, (0, 1, 24, []))], [(6, [16, 11], [1]), (7, [13, 15], [3]), (9, [15, 14], [0]), (20, [6, 14, 4, 9, 8, 10, 5, 11], [60, 1, 2, 683, 1000, 2, 2004]), (20, [14, 4], [60, 1, 2, 671, 0, 14, 1004]), (24, [3, 14], []), (24, [2, 8], []), (20, [12, 6, 11], [50, 0, 1, 1002, 1, 2, 1, 0, 3, 1, 2, 1, 2]), (20, [11, 10], [50, 0, 0, 0, 6, 4, 2, 1, 0, 0, 1, 1, 1]), (20, [6, 14, 4, 9, 8, 10, 5, 11, 13], [60, 1, 5, 857, 1000, 2, 5, 4, 1014, 2004]), (24, [0, 6], [])], [], [], [(20, [6, 14, 4, 9, 8, 10, 5, 16], [60, 1, 2, 683, 1000, 2, 2004]), (20, [6, 14, 4, 9, 8, 10, 5, 16], [60, 1, 5, 858, 1000, 2, 5, 4, 1014, 2004])], [], [(16, 11, 1, 1), (16, 10, -4294967296, 0), (13, 15, 0, 4294967296), (1, 7, -4294967296, 0), (2, 8, -4294967296, 0), (2, 9, -4294967296, 22), (2, 10, -4294967296, -1), (2, 11, -4294967296, 0), (7, 1, -4294967296, 0), (8, 2, -4294967296, 0), (8, 9, -4294967296, 22), (8, 10, -4294967296, -1), (8, 11, -4294967296, 0), (9, 10, -4294967296, 16777213), (11, 10, -4294967296, -1)])
theorem oo_Pl_walkTree_3 {kA : Nat → ClassId} : or_ok PRD kA GG o_Pl_walkTree_3 := by
  refine or_mk fun A ta ws vs hD hth hl => ?_
  intro t0 r0 t1 k1 t2 k2 t3 r3 t4 r4 t5 k5 t7 k7 t8 k8 t9 k9 t10 k10 t11 k11 t12 k12 t13 k13 t15 k15 t16 k16 d0 d1 d2 d3 d4 d5 d6 d7 d8 d9 d10 d11 d12 d13 d14 f0 f1 f2 f3 f4 f5 f6 f7 f8 f9 f10
  replace f0 := shm_4 f0
  replace f1 := shm_2 f1
  replace f2 := shm_175 f2
  replace f3 := shm_437 f3
  replace f4 := shm_432 f4
  replace f5 := shm_5 f5
  replace f6 := shm_5 f6
  replace f7 := shm_441 f7
  replace f8 := shm_409 f8
  replace f9 := shm_442 f9
  replace f10 := shm_5 f10
  have q14 : n_v vs 14 = n_v vs 3 := f5.symm
  have q8 : n_v vs 8 = n_v vs 2 := f6.symm
  have q6 : n_v vs 6 = n_v vs 0 := f10.symm
  simp only [q14, q8, q6] at f2 f3 f4 f7 f9
  have cr_0_2 := fdq_93 hD hth r0
  have cr_0_4 := fdq_90 hD hth r0
  have cr_0_5 := fdq_94 hD hth r0
  have cr_3_14 := fdq_79 hD hth r3
  have cr_4_4 := fdq_91 hD hth r4
  have g2 : v_iv (n_v vs 15) = w_fi ws (n_v vs 3) 0 := congrArg v_iv f2
  have hK_0_2 := elq_42 hD hth cr_0_2
  have hK_0_4 := elq_40 hD hth cr_0_4
  have hK_0_5 := elq_43 hD hth cr_0_5
  have hK_3_14 := elq_24 hD hth cr_3_14
  have hK_4_4 := elq_28 hD hth cr_4_4
  have kz_3_0 := fdq_23 hD hth r3
  have nf0 : fc_1 PRD (20, [6, 14, 4, 9, 8, 10, 5, 16], [60, 1, 2, 683, 1000, 2, 2004]) ws (vs) := by
    refine ⟨nf_in hl rfl, sgq_437 ?_⟩
    · show WTI (w_fi ws (n_v vs 14) 0) (w_ei ws (w_ar ws (n_v vs 6) 2)) (w_ei ws (w_ar ws (n_v vs 4) 4)) (v_iv (n_v vs 9)) (v_iv (n_v vs 8)) (v_iv (n_v vs 10)) (v_iv (n_v vs 5)) (v_iv (n_v vs 16))
      simp only [q14, q8, q6]
      exact vc_Pl_walkTree_3_0 (v_iv (n_v vs 1)) (v_iv (n_v vs 2)) (v_iv (n_v vs 5)) (v_iv (n_v vs 7)) (v_iv (n_v vs 8)) (v_iv (n_v vs 9)) (v_iv (n_v vs 10)) (v_iv (n_v vs 11)) (v_iv (n_v vs 12)) (v_iv (n_v vs 13)) (v_iv (n_v vs 15)) (v_iv (n_v vs 16)) (w_fi ws (n_v vs 3) 0) (w_ei ws (w_ar ws (n_v vs 0) 2)) (w_ei ws (w_ar ws (n_v vs 4) 4)) (w_ei ws (w_ar ws (n_v vs 3) 14)) (w_ei ws (w_ar ws (n_v vs 0) 5)) (w_ei ws (w_ar ws (n_v vs 0) 4)) k1 k2 k5 k7 k8 k9 k10 k11 k12 k13 k15 k16 d0 d1 d2 d3 d4 d5 d6 d7 d8 d9 d10 d11 d12 d13 d14 f0 f1 g2 f3 f4 f7 f8 f9 hK_0_2 hK_0_4 hK_0_5 hK_3_14 hK_4_4 kz_3_0
  have nf1 : fc_1 PRD (20, [6, 14, 4, 9, 8, 10, 5, 16], [60, 1, 5, 858, 1000, 2, 5, 4, 1014, 2004]) ws (vs) := by
    refine ⟨nf_in hl rfl, sgq_438 ?_⟩
    · show TQH (w_fi ws (n_v vs 14) 0) (w_ei ws (w_ar ws (n_v vs 6) 2)) (w_ei ws (w_ar ws (n_v vs 6) 5)) (w_ei ws (w_ar ws (n_v vs 6) 4)) (w_ei ws (w_ar ws (n_v vs 14) 14)) (w_ei ws (w_ar ws (n_v vs 4) 4)) (v_iv (n_v vs 9)) (v_iv (n_v vs 8)) (v_iv (n_v vs 10)) (v_iv (n_v vs 5)) (v_iv (n_v vs 16))
      simp only [q14, q8, q6]
      exact vc_Pl_walkTree_3_1 (v_iv (n_v vs 1)) (v_iv (n_v vs 2)) (v_iv (n_v vs 5)) (v_iv (n_v vs 7)) (v_iv (n_v vs 8)) (v_iv (n_v vs 9)) (v_iv (n_v vs 10)) (v_iv (n_v vs 11)) (v_iv (n_v vs 12)) (v_iv (n_v vs 13)) (v_iv (n_v vs 15)) (v_iv (n_v vs 16)) (w_fi ws (n_v vs 3) 0) (w_ei ws (w_ar ws (n_v vs 0) 2)) (w_ei ws (w_ar ws (n_v vs 4) 4)) (w_ei ws (w_ar ws (n_v vs 3) 14)) (w_ei ws (w_ar ws (n_v vs 0) 5)) (w_ei ws (w_ar ws (n_v vs 0) 4)) k1 k2 k5 k7 k8 k9 k10 k11 k12 k13 k15 k16 d0 d1 d2 d3 d4 d5 d6 d7 d8 d9 d10 d11 d12 d13 d14 f0 f1 g2 f3 f4 f7 f8 f9 hK_0_2 hK_0_4 hK_0_5 hK_3_14 hK_4_4 kz_3_0
  refine ⟨(fun _ h => (by cases h)), [], trivial, ?_, (fun _ h => (by cases h))⟩
  rw [List.append_nil]
  exact List.forall_mem_cons.mpr ⟨⟨show (20 : Nat) < 100 from by decide, nf0⟩, List.forall_mem_cons.mpr ⟨⟨show (20 : Nat) < 100 from by decide, nf1⟩, (fun _ h => (by cases h))⟩⟩
set_option maxHeartbeats 4000000 in
theorem vc_Pl_walkTree_4_0 (x1 : Int) (x2 : Int) (x5 : Int) (x7 : Int) (x8 : Int) (x9 : Int) (x10 : Int) (x11 : Int) (x12 : Int) (x13 : Int) (x15 : Int) (x16 : Int) (x17 : Int) (nodes_0o3 : Int) (order_0 : Int → Int) (part_0o4 : Int → Int) (near_0o3 : Int → Int) (parent_0 : Int → Int) (level_0 : Int → Int) (k1 : 0 ≤ x1 ∧ x1 ≤ 23) (k2 : 0 ≤ x2 ∧ x2 ≤ 23) (k5 : 0 ≤ x5 ∧ x5 ≤ 24) (k7 : 0 ≤ x7 ∧ x7 ≤ 23) (k8 : 0 ≤ x8 ∧ x8 ≤ 23) (k9 : 0 ≤ x9 ∧ x9 ≤ 16777215) (k10 : 24 ≤ x10 ∧ x10 ≤ 24) (k11 : 0 ≤ x11 ∧ x11 ≤ 23) (k12 : 0 ≤ x12 ∧ x12 ≤ 23) (k13 : 0 ≤ x13 ∧ x13 ≤ 23) (k15 : 1 ≤ x15 ∧ x15 ≤ 24) (k16 : 24 ≤ x16 ∧ x16 ≤ 24) (k17 : 1 ≤ x17 ∧ x17 ≤ 24) (d0 : x11 + 1 ≤ x17 ∧ x17 ≤ x11 + 1) (d1 : x15 + (-4294967296) ≤ x13 ∧ x13 ≤ x15 + (-1)) (d2 : x7 + (-4294967296) ≤ x1 ∧ x1 ≤ x7 + 0) (d3 : x8 + (-4294967296) ≤ x2 ∧ x2 ≤ x8 + 0) (d4 : x9 + (-4294967296) ≤ x2 ∧ x2 ≤ x9 + 22) (d5 : x11 + (-4294967296) ≤ x2 ∧ x2 ≤ x11 + 0) (d6 : x1 + (-4294967296) ≤ x7 ∧ x7 ≤ x1 + 0) (d7 : x2 + (-4294967296) ≤ x8 ∧ x8 ≤ x2 + 0) (d8 : x9 + (-4294967296) ≤ x8 ∧ x8 ≤ x9 + 22) (d9 : x11 + (-4294967296) ≤ x8 ∧ x8 ≤ x11 + 0) (f0 : x17 = x11 + 1) (f1 : x16 ≤ x10) (f2 : x13 < x15) (g3 : x15 = nodes_0o3) (f4 : WTI (nodes_0o3) (order_0) (part_0o4) (x9) (x2) (x10) (x5) (x11)) (f5 : PNC (nodes_0o3) (near_0o3) (part_0o4)) (f8 : x12 = order_0 (x11)) (f9 : (x11 + 1) ≤ x10) (f10 : TQI (nodes_0o3) (order_0) (parent_0) (level_0) (near_0o3) (part_0o4) (x9) (x2) (x10) (x5) (x11) (x13)) (hK_0_2 : ∀ j : Int, 0 ≤ j → j < 24 → 0 ≤ order_0 j ∧ order_0 j ≤ 23) (hK_0_4 : ∀ j : Int, 0 ≤ j → j < 24 → 0 ≤ level_0 j ∧ level_0 j ≤ 23) (hK_0_5 : ∀ j : Int, 0 ≤ j → j < 24 → (-1) ≤ parent_0 j ∧ parent_0 j ≤ 23) (hK_3_14 : ∀ j : Int, 0 ≤ j → j < 24 → 0 ≤ near_0o3 j ∧ near_0o3 j ≤ 16777215) (hK_4_4 : ∀ j : Int, 0 ≤ j → j < 24 → (-1) ≤ part_0o4 j ∧ part_0o4 j ≤ 24) (kz_3_0 : 0 ≤ nodes_0o3 ∧ nodes_0o3 ≤ 24) : WTI (nodes_0o3) (order_0) (part_0o4) (x9) (x2) (x10) (x5) (x17) := by
  first
    | assumption
    | exact wti_next ‹WTI _ _ _ _ _ _ _ _› (by omega)
    | (have o1 : x6 = 1 := by omega
       subst o1
       exact wti_start (q := x2) (x := x1) ‹WTB _ _ _ _› (by omega) (by omega) (by omega) (by omega) ‹RTP _ _ _› (by assumption) rfl rfl (by assumption) (by omega) rfl)
    | (have qa := bit_one (s := x18) (t := x19) (c := x21) (v := x13) (one := x20) (by assumption) (by assumption) (by omega) (by omega) (by omega) (by omega)
       have qb := bit_one (s := x9) (t := x22) (c := x24) (v := x13) (one := x23) (by assumption) (by assumption) (by omega) (by omega) (by omega) (by omega)
       have o1 : x25 = 1 := by omega
       subst o1
       exact wti_step (v := x12) (w := x13) (q := x10) (x := x13) (o := x26) ‹WTI _ _ _ _ _ _ _ _› (by omega) (by omega) ‹PNC _ _ _› (by assumption) (by omega) (by omega) (by omega) (by have e := (‹x18 = _›); rw [← e]; exact qa.mpr (by omega)) (fun z => by have := qb.mp z; omega) (by assumption) rfl rfl (by assumption) (by assumption) (by omega))
  
set_option maxHeartbeats 4000000 in
theorem vc_Pl_walkTree_4_1 (x1 : Int) (x2 : Int) (x5 : Int) (x7 : Int) (x8 : Int) (x9 : Int) (x10 : Int) (x11 : Int) (x12 : Int) (x13 : Int) (x15 : Int) (x16 : Int) (x17 : Int) (nodes_0o3 : Int) (order_0 : Int → Int) (part_0o4 : Int → Int) (near_0o3 : Int → Int) (parent_0 : Int → Int) (level_0 : Int → Int) (k1 : 0 ≤ x1 ∧ x1 ≤ 23) (k2 : 0 ≤ x2 ∧ x2 ≤ 23) (k5 : 0 ≤ x5 ∧ x5 ≤ 24) (k7 : 0 ≤ x7 ∧ x7 ≤ 23) (k8 : 0 ≤ x8 ∧ x8 ≤ 23) (k9 : 0 ≤ x9 ∧ x9 ≤ 16777215) (k10 : 24 ≤ x10 ∧ x10 ≤ 24) (k11 : 0 ≤ x11 ∧ x11 ≤ 23) (k12 : 0 ≤ x12 ∧ x12 ≤ 23) (k13 : 0 ≤ x13 ∧ x13 ≤ 23) (k15 : 1 ≤ x15 ∧ x15 ≤ 24) (k16 : 24 ≤ x16 ∧ x16 ≤ 24) (k17 : 1 ≤ x17 ∧ x17 ≤ 24) (d0 : x11 + 1 ≤ x17 ∧ x17 ≤ x11 + 1) (d1 : x15 + (-4294967296) ≤ x13 ∧ x13 ≤ x15 + (-1)) (d2 : x7 + (-4294967296) ≤ x1 ∧ x1 ≤ x7 + 0) (d3 : x8 + (-4294967296) ≤ x2 ∧ x2 ≤ x8 + 0) (d4 : x9 + (-4294967296) ≤ x2 ∧ x2 ≤ x9 + 22) (d5 : x11 + (-4294967296) ≤ x2 ∧ x2 ≤ x11 + 0) (d6 : x1 + (-4294967296) ≤ x7 ∧ x7 ≤ x1 + 0) (d7 : x2 + (-4294967296) ≤ x8 ∧ x8 ≤ x2 + 0) (d8 : x9 + (-4294967296) ≤ x8 ∧ x8 ≤ x9 + 22) (d9 : x11 + (-4294967296) ≤ x8 ∧ x8 ≤ x11 + 0) (f0 : x17 = x11 + 1) (f1 : x16 ≤ x10) (f2 : x13 < x15) (g3 : x15 = nodes_0o3) (f4 : WTI (nodes_0o3) (order_0) (part_0o4) (x9) (x2) (x10) (x5) (x11)) (f5 : PNC (nodes_0o3) (near_0o3) (part_0o4)) (f8 : x12 = order_0 (x11)) (f9 : (x11 + 1) ≤ x10) (f10 : TQI (nodes_0o3) (order_0) (parent_0) (level_0) (near_0o3) (part_0o4) (x9) (x2) (x10) (x5) (x11) (x13)) (hK_0_2 : ∀ j : Int, 0 ≤ j → j < 24 → 0 ≤ order_0 j ∧ order_0 j ≤ 23) (hK_0_4 : ∀ j : Int, 0 ≤ j → j < 24 → 0 ≤ level_0 j ∧ level_0 j ≤ 23) (hK_0_5 : ∀ j : Int, 0 ≤ j → j < 24 → (-1) ≤ parent_0 j ∧ parent_0 j ≤ 23) (hK_3_14 : ∀ j : Int, 0 ≤ j → j < 24 → 0 ≤ near_0o3 j ∧ near_0o3 j ≤ 16777215) (hK_4_4 : ∀ j : Int, 0 ≤ j → j < 24 → (-1) ≤ part_0o4 j ∧ part_0o4 j ≤ 24) (kz_3_0 : 0 ≤ nodes_0o3 ∧ nodes_0o3 ≤ 24) : TQH (nodes_0o3) (order_0) (parent_0) (level_0) (near_0o3) (part_0o4) (x9) (x2) (x10) (x5) (x17) := by
  first
    | assumption
    | exact tqi_next ‹TQI _ _ _ _ _ _ _ _ _ _ _ _› (by omega) (Or.inl (by omega)) (by omega)
    | exact tqi_next ‹TQI _ _ _ _ _ _ _ _ _ _ _ _› (by omega) (Or.inr (by omega)) (by omega)
    | (have o1 : x6 = 1 := by omega
       subst o1
       exact tqi_start (q := x2) (x := x1) (pv := x12) (lq := x14) ‹TQB _ _ _ _ _ _ _› ‹WTB _ _ _ _› (by omega) (by omega) (by omega) ‹RTP _ _ _› (by assumption) rfl rfl (by assumption) (by omega) (by assumption) (by omega) (by assumption) (by omega) rfl)
  
def o_Pl_walkTree_4 : or_T := (33, 18, [(0, (2, 0, 0, [6])), (1, (0, 0, 23, [])), (2, (0, 0, 23, [])), (3, (2, 0, 0, [3])), (4, (2, 0, 0, [2])), (5, (0, 0, 24, [])), (7, (0, 0, 23, [])), (8, (0, 0, 23, [])), (9, (0, 0, 16777215, [])), (10, (0, 24, 24, [])), (11, (0, 0, 23, [])), (12, (0, 0, 23, [])), (13, (0, 0, 23, [])), (15, (0, 1, 24, [])), (16, (0, 24, 24, [])), (17, (0, 1, 24, []))], [(6, [17, 11], [1]), (7, [10, 16], [3]), (7, [13, 15], [2]), (9, [15, 14], [0]), (20, [6, 14, 4, 9, 8, 10, 5, 11], [60, 1, 2, 683, 1000, 2, 2004]), (20, [14, 4], [60, 1, 2, 671, 0, 14, 1004]), (24, [3, 14], []), (24, [2, 8], []), (20, [12, 6, 11], [50, 0, 1, 1002, 1, 2, 1, 0, 3, 1, 2, 1, 2]), (20, [11, 10], [50, 0, 0, 0, 6, 4, 2, 1, 0, 0, 1, 1, 1]), (20, [6, 14, 4, 9, 8, 10, 5, 11, 13], [60, 1, 5, 857, 1000, 2, 5, 4, 1014, 2004]), (24, [0, 6], [])], [], [], [(20, [6, 14, 4, 9, 8, 10, 5, 17], [60, 1, 2, 683, 1000, 2, 2004]), (20, [6, 14, 4, 9, 8, 10, 5, 17], [60, 1, 5, 858, 1000, 2, 5, 4, 1014, 2004])], [], [(17, 11, 1, 1), (13, 15, -4294967296, -1), (1, 7, -4294967296, 0), (2, 8, -4294967296, 0), (2, 9, -4294967296, 22), (2, 11, -4294967296, 0), (7, 1, -4294967296, 0), (8, 2, -4294967296, 0), (8, 9, -4294967296, 22), (8, 11, -4294967296, 0)])
theorem oo_Pl_walkTree_4 {kA : Nat → ClassId} : or_ok PRD kA GG o_Pl_walkTree_4 := by
  refine or_mk fun A ta ws vs hD hth hl => ?_
  intro t0 r0 t1 k1 t2 k2 t3 r3 t4 r4 t5 k5 t7 k7 t8 k8 t9 k9 t10 k10 t11 k11 t12 k12 t13 k13 t15 k15 t16 k16 t17 k17 d0 d1 d2 d3 d4 d5 d6 d7 d8 d9 f0 f1 f2 f3 f4 f5 f6 f7 f8 f9 f10 f11
  replace f0 := shm_4 f0
  replace f1 := shm_2 f1
  replace f2 := shm_6 f2
  replace f3 := shm_175 f3
  replace f4 := shm_437 f4
  replace f5 := shm_432 f5
  replace f6 := shm_5 f6
  replace f7 := shm_5 f7
  replace f8 := shm_441 f8
  replace f9 := shm_409 f9
  replace f10 := shm_442 f10
  replace f11 := shm_5 f11
  have q14 : n_v vs 14 = n_v vs 3 := f6.symm
  have q8 : n_v vs 8 = n_v vs 2 := f7.symm
  have q6 : n_v vs 6 = n_v vs 0 := f11.symm
  simp only [q14, q8, q6] at f3 f4 f5 f8 f10
  have cr_0_2 := fdq_93 hD hth r0
  have cr_0_4 := fdq_90 hD hth r0
  have cr_0_5 := fdq_94 hD hth r0
  have cr_3_14 := fdq_79 hD hth r3
  have cr_4_4 := fdq_91 hD hth r4
  have g3 : v_iv (n_v vs 15) = w_fi ws (n_v vs 3) 0 := congrArg v_iv f3
  have hK_0_2 := elq_42 hD hth cr_0_2
  have hK_0_4 := elq_40 hD hth cr_0_4
  have hK_0_5 := elq_43 hD hth cr_0_5
  have hK_3_14 := elq_24 hD hth cr_3_14
  have hK_4_4 := elq_28 hD hth cr_4_4
  have kz_3_0 := fdq_23 hD hth r3
  have nf0 : fc_1 PRD (20, [6, 14, 4, 9, 8, 10, 5, 17], [60, 1, 2, 683, 1000, 2, 2004]) ws (vs) := by
    refine ⟨nf_in hl rfl, sgq_437 ?_⟩
    · show WTI (w_fi ws (n_v vs 14) 0) (w_ei ws (w_ar ws (n_v vs 6) 2)) (w_ei ws (w_ar ws (n_v vs 4) 4)) (v_iv (n_v vs 9)) (v_iv (n_v vs 8)) (v_iv (n_v vs 10)) (v_iv (n_v vs 5)) (v_iv (n_v vs 17))
      simp only [q14, q8, q6]
      exact vc_Pl_walkTree_4_0 (v_iv (n_v vs 1)) (v_iv (n_v vs 2)) (v_iv (n_v vs 5)) (v_iv (n_v vs 7)) (v_iv (n_v vs 8)) (v_iv (n_v vs 9)) (v_iv (n_v vs 10)) (v_iv (n_v vs 11)) (v_iv (n_v vs 12)) (v_iv (n_v vs 13)) (v_iv (n_v vs 15)) (v_iv (n_v vs 16)) (v_iv (n_v vs 17)) (w_fi ws (n_v vs 3) 0) (w_ei ws (w_ar ws (n_v vs 0) 2)) (w_ei ws (w_ar ws (n_v vs 4) 4)) (w_ei ws (w_ar ws (n_v vs 3) 14)) (w_ei ws (w_ar ws (n_v vs 0) 5)) (w_ei ws (w_ar ws (n_v vs 0) 4)) k1 k2 k5 k7 k8 k9 k10 k11 k12 k13 k15 k16 k17 d0 d1 d2 d3 d4 d5 d6 d7 d8 d9 f0 f1 f2 g3 f4 f5 f8 f9 f10 hK_0_2 hK_0_4 hK_0_5 hK_3_14 hK_4_4 kz_3_0
  have nf1 : fc_1 PRD (20, [6, 14, 4, 9, 8, 10, 5, 17], [60, 1, 5, 858, 1000, 2, 5, 4, 1014, 2004]) ws (vs) := by
    refine ⟨nf_in hl rfl, sgq_438 ?_⟩
    · show TQH (w_fi ws (n_v vs 14) 0) (w_ei ws (w_ar ws (n_v vs 6) 2)) (w_ei ws (w_ar ws (n_v vs 6) 5)) (w_ei ws (w_ar ws (n_v vs 6) 4)) (w_ei ws (w_ar ws (n_v vs 14) 14)) (w_ei ws (w_ar ws (n_v vs 4) 4)) (v_iv (n_v vs 9)) (v_iv (n_v vs 8)) (v_iv (n_v vs 10)) (v_iv (n_v vs 5)) (v_iv (n_v vs 17))
      simp only [q14, q8, q6]
      exact vc_Pl_walkTree_4_1 (v_iv (n_v vs 1)) (v_iv (n_v vs 2)) (v_iv (n_v vs 5)) (v_iv (n_v vs 7)) (v_iv (n_v vs 8)) (v_iv (n_v vs 9)) (v_iv (n_v vs 10)) (v_iv (n_v vs 11)) (v_iv (n_v vs 12)) (v_iv (n_v vs 13)) (v_iv (n_v vs 15)) (v_iv (n_v vs 16)) (v_iv (n_v vs 17)) (w_fi ws (n_v vs 3) 0) (w_ei ws (w_ar ws (n_v vs 0) 2)) (w_ei ws (w_ar ws (n_v vs 4) 4)) (w_ei ws (w_ar ws (n_v vs 3) 14)) (w_ei ws (w_ar ws (n_v vs 0) 5)) (w_ei ws (w_ar ws (n_v vs 0) 4)) k1 k2 k5 k7 k8 k9 k10 k11 k12 k13 k15 k16 k17 d0 d1 d2 d3 d4 d5 d6 d7 d8 d9 f0 f1 f2 g3 f4 f5 f8 f9 f10 hK_0_2 hK_0_4 hK_0_5 hK_3_14 hK_4_4 kz_3_0
  refine ⟨(fun _ h => (by cases h)), [], trivial, ?_, (fun _ h => (by cases h))⟩
  rw [List.append_nil]
  exact List.forall_mem_cons.mpr ⟨⟨show (20 : Nat) < 100 from by decide, nf0⟩, List.forall_mem_cons.mpr ⟨⟨show (20 : Nat) < 100 from by decide, nf1⟩, (fun _ h => (by cases h))⟩⟩
set_option maxHeartbeats 4000000 in
theorem vc_Pl_walkTree_5_0 (x1 : Int) (x2 : Int) (x5 : Int) (x7 : Int) (x8 : Int) (x9 : Int) (x10 : Int) (x11 : Int) (x12 : Int) (x13 : Int) (x15 : Int) (x16 : Int) (x18 : Int) (x19 : Int) (x20 : Int) (x21 : Int) (x22 : Int) (near_0o3 : Int → Int) (nodes_0o3 : Int) (order_0 : Int → Int) (part_0o4 : Int → Int) (parent_0 : Int → Int) (level_0 : Int → Int) (k1 : 0 ≤ x1 ∧ x1 ≤ 23) (k2 : 0 ≤ x2 ∧ x2 ≤ 22) (k5 : 0 ≤ x5 ∧ x5 ≤ 24) (k7 : 0 ≤ x7 ∧ x7 ≤ 23) (k8 : 0 ≤ x8 ∧ x8 ≤ 22) (k9 : 0 ≤ x9 ∧ x9 ≤ 16777215) (k10 : 1 ≤ x10 ∧ x10 ≤ 23) (k11 : 0 ≤ x11 ∧ x11 ≤ 22) (k12 : 0 ≤ x12 ∧ x12 ≤ 23) (k13 : 0 ≤ x13 ∧ x13 ≤ 23) (k15 : 1 ≤ x15 ∧ x15 ≤ 24) (k16 : 24 ≤ x16 ∧ x16 ≤ 24) (k18 : 0 ≤ x18 ∧ x18 ≤ 16777215) (k19 : 0 ≤ x19 ∧ x19 ≤ 16777215) (k20 : 1 ≤ x20 ∧ x20 ≤ 1) (k21 : 0 ≤ x21 ∧ x21 ≤ 0) (k22 : 1 ≤ x22 ∧ x22 ≤ 24) (d0 : x13 + 1 ≤ x22 ∧ x22 ≤ x13 + 1) (d1 : x15 + (-4294967296) ≤ x22 ∧ x22 ≤ x15 + 0) (d2 : x15 + (-4294967296) ≤ x13 ∧ x13 ≤ x15 + (-1)) (d3 : x7 + (-4294967296) ≤ x1 ∧ x1 ≤ x7 + 0) (d4 : x8 + (-4294967296) ≤ x2 ∧ x2 ≤ x8 + 0) (d5 : x10 + (-4294967296) ≤ x2 ∧ x2 ≤ x10 + (-1)) (d6 : x11 + (-4294967296) ≤ x2 ∧ x2 ≤ x11 + 0) (d7 : x1 + (-4294967296) ≤ x7 ∧ x7 ≤ x1 + 0) (d8 : x2 + (-4294967296) ≤ x8 ∧ x8 ≤ x2 + 0) (d9 : x10 + (-4294967296) ≤ x8 ∧ x8 ≤ x10 + (-1)) (d10 : x11 + (-4294967296) ≤ x8 ∧ x8 ≤ x11 + 0) (d11 : x10 + (-4294967296) ≤ x9 ∧ x9 ≤ x10 + 16777213) (d12 : x10 + (-4294967296) ≤ x11 ∧ x11 ≤ x10 + (-1)) (f0 : x22 = x13 + 1) (f1 : x21 = 0) (f2 : x21 = x19 % 2) (f3 : bvp (x21) = bvp (x19) &&& bvp (x20)) (f4 : bvp (x19) = bvp (x18) >>> (x13).toNat) (h5 : x18 = near_0o3 (x12)) (f7 : x10 < x16) (f8 : x13 < x15) (g9 : x15 = nodes_0o3) (f10 : WTI (nodes_0o3) (order_0) (part_0o4) (x9) (x2) (x10) (x5) (x11)) (f11 : PNC (nodes_0o3) (near_0o3) (part_0o4)) (f14 : x12 = order_0 (x11)) (f15 : (x11 + 1) ≤ x10) (f16 : TQI (nodes_0o3) (order_0) (parent_0) (level_0) (near_0o3) (part_0o4) (x9) (x2) (x10) (x5) (x11) (x13)) (hK_0_2 : ∀ j : Int, 0 ≤ j → j < 24 → 0 ≤ order_0 j ∧ order_0 j ≤ 23) (hK_0_4 : ∀ j : Int, 0 ≤ j → j < 24 → 0 ≤ level_0 j ∧ level_0 j ≤ 23) (hK_0_5 : ∀ j : Int, 0 ≤ j → j < 24 → (-1) ≤ parent_0 j ∧ parent_0 j ≤ 23) (hK_3_14 : ∀ j : Int, 0 ≤ j → j < 24 → 0 ≤ near_0o3 j ∧ near_0o3 j ≤ 16777215) (hK_4_4 : ∀ j : Int, 0 ≤ j → j < 24 → (-1) ≤ part_0o4 j ∧ part_0o4 j ≤ 24) (kz_3_0 : 0 ≤ nodes_0o3 ∧ nodes_0o3 ≤ 24) : TQI (nodes_0o3) (order_0) (parent_0) (level_0) (near_0o3) (part_0o4) (x9) (x2) (x10) (x5) (x11) (x22) := by
  first
    | exact tqi_of ‹TQH _ _ _ _ _ _ _ _ _ _ _› (by omega) (by omega)
    | (have qa := bit_one (s := x18) (t := x19) (c := x21) (v := x13) (one := x20) (by assumption) (by assumption) (by omega) (by omega) (by omega) (by omega)
       have e := (‹x18 = _›)
       exact tqi_skip (v := x12) (w := x13) ‹TQI _ _ _ _ _ _ _ _ _ _ _ _› (by assumption) (Or.inl (fun z => by rw [← e] at z; have := qa.mp z; omega)) (by omega))
    | (have qb := bit_one (s := x9) (t := x22) (c := x24) (v := x13) (one := x23) (by assumption) (by assumption) (by omega) (by omega) (by omega) (by omega)
       exact tqi_skip (v := x12) (w := x13) ‹TQI _ _ _ _ _ _ _ _ _ _ _ _› (by assumption) (Or.inr (qb.mpr (by omega))) (by omega))
    | (have qa := bit_one (s := x18) (t := x19) (c := x21) (v := x13) (one := x20) (by assumption) (by assumption) (by omega) (by omega) (by omega) (by omega)
       have qb := bit_one (s := x9) (t := x22) (c := x24) (v := x13) (one := x23) (by assumption) (by assumption) (by omega) (by omega) (by omega) (by omega)
       have o1 : x25 = 1 := by omega
       subst o1
       exact tqi_step (v := x12) (w := x13) (q := x10) (x := x13) (o := x26) (pv := x12) (l0 := x30) (l1 := x32) ‹TQI _ _ _ _ _ _ _ _ _ _ _ _› ‹WTI _ _ _ _ _ _ _ _› (by omega) (by omega) ‹PNC _ _ _› (by assumption) (by omega) (by omega) (by omega) (by have e := (‹x18 = _›); rw [← e]; exact qa.mpr (by omega)) (fun z => by have := qb.mp z; omega) (by assumption) rfl rfl (by assumption) rfl (by assumption) (by assumption) (by omega) (by assumption) (by assumption) (by omega) (by omega))
  
def o_Pl_walkTree_5 : or_T := (52, 23, [(0, (2, 0, 0, [6])), (1, (0, 0, 23, [])), (2, (0, 0, 22, [])), (3, (2, 0, 0, [3])), (4, (2, 0, 0, [2])), (5, (0, 0, 24, [])), (7, (0, 0, 23, [])), (8, (0, 0, 22, [])), (9, (0, 0, 16777215, [])), (10, (0, 1, 23, [])), (11, (0, 0, 22, [])), (12, (0, 0, 23, [])), (13, (0, 0, 23, [])), (15, (0, 1, 24, [])), (16, (0, 24, 24, [])), (18, (0, 0, 16777215, [])), (19, (0, 0, 16777215, [])), (20, (0, 1, 1, [])), (21, (0, 0, 0, [])), (22, (0, 1, 24, []))], [(6, [22, 13], [1]), (8, [21], [0]), (12, [21, 19], [2]), (16, [21, 19, 20], [0]), (16, [19, 18, 13], [4]), (10, [18, 17, 12], []), (9, [17, 14], [14]), (7, [10, 16], [2]), (7, [13, 15], [2]), (9, [15, 14], [0]), (20, [6, 14, 4, 9, 8, 10, 5, 11], [60, 1, 2, 683, 1000, 2, 2004]), (20, [14, 4], [60, 1, 2, 671, 0, 14, 1004]), (24, [3, 14], []), (24, [2, 8], []), (20, [12, 6, 11], [50, 0, 1, 1002, 1, 2, 1, 0, 3, 1, 2, 1, 2]), (20, [11, 10], [50, 0, 0, 0, 6, 4, 2, 1, 0, 0, 1, 1, 1]), (20, [6, 14, 4, 9, 8, 10, 5, 11, 13], [60, 1, 5, 857, 1000, 2, 5, 4, 1014, 2004]), (24, [0, 6], [])], [], [], [(20, [6, 14, 4, 9, 8, 10, 5, 11, 22], [60, 1, 5, 857, 1000, 2, 5, 4, 1014, 2004])], [], [(22, 13, 1, 1), (22, 15, -4294967296, 0), (13, 15, -4294967296, -1), (1, 7, -4294967296, 0), (2, 8, -4294967296, 0), (2, 10, -4294967296, -1), (2, 11, -4294967296, 0), (7, 1, -4294967296, 0), (8, 2, -4294967296, 0), (8, 10, -4294967296, -1), (8, 11, -4294967296, 0), (9, 10, -4294967296, 16777213), (11, 10, -4294967296, -1)])
theorem oo_Pl_walkTree_5 {kA : Nat → ClassId} : or_ok PRD kA GG o_Pl_walkTree_5 := by
  refine or_mk fun A ta ws vs hD hth hl => ?_
  intro t0 r0 t1 k1 t2 k2 t3 r3 t4 r4 t5 k5 t7 k7 t8 k8 t9 k9 t10 k10 t11 k11 t12 k12 t13 k13 t15 k15 t16 k16 t18 k18 t19 k19 t20 k20 t21 k21 t22 k22 d0 d1 d2 d3 d4 d5 d6 d7 d8 d9 d10 d11 d12 f0 f1 f2 f3 f4 f5 f6 f7 f8 f9 f10 f11 f12 f13 f14 f15 f16 f17
  replace f0 := shm_4 f0
  replace f1 := shm_210 f1
  replace f2 := shm_382 f2
  replace f3 := shm_11 f3
  replace f4 := shm_13 f4
  replace f5 := shm_106 f5
  replace f6 := shm_116 f6
  replace f7 := shm_6 f7
  replace f8 := shm_6 f8
  replace f9 := shm_175 f9
  replace f10 := shm_437 f10
  replace f11 := shm_432 f11
  replace f12 := shm_5 f12
  replace f13 := shm_5 f13
  replace f14 := shm_441 f14
  replace f15 := shm_409 f15
  replace f16 := shm_442 f16
  replace f17 := shm_5 f17
  have q14 : n_v vs 14 = n_v vs 3 := f12.symm
  have q8 : n_v vs 8 = n_v vs 2 := f13.symm
  have q6 : n_v vs 6 = n_v vs 0 := f17.symm
  simp only [q14, q8, q6] at f6 f9 f10 f11 f14 f16
  have cr_0_2 := fdq_93 hD hth r0
  have cr_0_4 := fdq_90 hD hth r0
  have cr_0_5 := fdq_94 hD hth r0
  have cr_3_14 := fdq_79 hD hth r3
  have cr_4_4 := fdq_91 hD hth r4
  have ad_17 : v_ad (n_v vs 17) = w_ar ws (n_v vs 3) 14 := congrArg v_ad f6
  simp only [ad_17] at f5
  have h5 : v_iv (n_v vs 18) = w_ei ws (w_ar ws (n_v vs 3) 14) (v_iv (n_v vs 12)) := f5
  have g9 : v_iv (n_v vs 15) = w_fi ws (n_v vs 3) 0 := congrArg v_iv f9
  have hK_0_2 := elq_42 hD hth cr_0_2
  have hK_0_4 := elq_40 hD hth cr_0_4
  have hK_0_5 := elq_43 hD hth cr_0_5
  have hK_3_14 := elq_24 hD hth cr_3_14
  have hK_4_4 := elq_28 hD hth cr_4_4
  have kz_3_0 := fdq_23 hD hth r3
  have nf0 : fc_1 PRD (20, [6, 14, 4, 9, 8, 10, 5, 11, 22], [60, 1, 5, 857, 1000, 2, 5, 4, 1014, 2004]) ws (vs) := by
    refine ⟨nf_in hl rfl, sgq_442 ?_⟩
    · show TQI (w_fi ws (n_v vs 14) 0) (w_ei ws (w_ar ws (n_v vs 6) 2)) (w_ei ws (w_ar ws (n_v vs 6) 5)) (w_ei ws (w_ar ws (n_v vs 6) 4)) (w_ei ws (w_ar ws (n_v vs 14) 14)) (w_ei ws (w_ar ws (n_v vs 4) 4)) (v_iv (n_v vs 9)) (v_iv (n_v vs 8)) (v_iv (n_v vs 10)) (v_iv (n_v vs 5)) (v_iv (n_v vs 11)) (v_iv (n_v vs 22))
      simp only [q14, q8, q6]
      exact vc_Pl_walkTree_5_0 (v_iv (n_v vs 1)) (v_iv (n_v vs 2)) (v_iv (n_v vs 5)) (v_iv (n_v vs 7)) (v_iv (n_v vs 8)) (v_iv (n_v vs 9)) (v_iv (n_v vs 10)) (v_iv (n_v vs 11)) (v_iv (n_v vs 12)) (v_iv (n_v vs 13)) (v_iv (n_v vs 15)) (v_iv (n_v vs 16)) (v_iv (n_v vs 18)) (v_iv (n_v vs 19)) (v_iv (n_v vs 20)) (v_iv (n_v vs 21)) (v_iv (n_v vs 22)) (w_ei ws (w_ar ws (n_v vs 3) 14)) (w_fi ws (n_v vs 3) 0) (w_ei ws (w_ar ws (n_v vs 0) 2)) (w_ei ws (w_ar ws (n_v vs 4) 4)) (w_ei ws (w_ar ws (n_v vs 0) 5)) (w_ei ws (w_ar ws (n_v vs 0) 4)) k1 k2 k5 k7 k8 k9 k10 k11 k12 k13 k15 k16 k18 k19 k20 k21 k22 d0 d1 d2 d3 d4 d5 d6 d7 d8 d9 d10 d11 d12 f0 f1 f2 f3 f4 h5 f7 f8 g9 f10 f11 f14 f15 f16 hK_0_2 hK_0_4 hK_0_5 hK_3_14 hK_4_4 kz_3_0
  refine ⟨(fun _ h => (by cases h)), [], trivial, ?_, (fun _ h => (by cases h))⟩
  rw [List.append_nil]
  exact List.forall_mem_cons.mpr ⟨⟨show (20 : Nat) < 100 from by decide, nf0⟩, (fun _ h => (by cases h))⟩
set_option maxHeartbeats 4000000 in
theorem vc_Pl_walkTree_6_0 (x1 : Int) (x2 : Int) (x5 : Int) (x7 : Int) (x8 : Int) (x9 : Int) (x10 : Int) (x11 : Int) (x12 : Int) (x13 : Int) (x15 : Int) (x16 : Int) (x18 : Int) (x19 : Int) (x20 : Int) (x21 : Int) (x22 : Int) (x23 : Int) (x24 : Int) (x25 : Int) (near_0o3 : Int → Int) (nodes_0o3 : Int) (order_0 : Int → Int) (part_0o4 : Int → Int) (parent_0 : Int → Int) (level_0 : Int → Int) (k1 : 0 ≤ x1 ∧ x1 ≤ 23) (k2 : 0 ≤ x2 ∧ x2 ≤ 22) (k5 : 0 ≤ x5 ∧ x5 ≤ 24) (k7 : 0 ≤ x7 ∧ x7 ≤ 23) (k8 : 0 ≤ x8 ∧ x8 ≤ 22) (k9 : 0 ≤ x9 ∧ x9 ≤ 16777215) (k10 : 1 ≤ x10 ∧ x10 ≤ 23) (k11 : 0 ≤ x11 ∧ x11 ≤ 22) (k12 : 0 ≤ x12 ∧ x12 ≤ 23) (k13 : 0 ≤ x13 ∧ x13 ≤ 23) (k15 : 1 ≤ x15 ∧ x15 ≤ 24) (k16 : 24 ≤ x16 ∧ x16 ≤ 24) (k18 : 0 ≤ x18 ∧ x18 ≤ 16777215) (k19 : 0 ≤ x19 ∧ x19 ≤ 16777215) (k20 : 1 ≤ x20 ∧ x20 ≤ 1) (k21 : 1 ≤ x21 ∧ x21 ≤ 1) (k22 : 0 ≤ x22 ∧ x22 ≤ 16777215) (k23 : 1 ≤ x23 ∧ x23 ≤ 1) (k24 : 1 ≤ x24 ∧ x24 ≤ 1) (k25 : 1 ≤ x25 ∧ x25 ≤ 24) (d0 : x13 + 1 ≤ x25 ∧ x25 ≤ x13 + 1) (d1 : x15 + (-4294967296) ≤ x25 ∧ x25 ≤ x15 + 0) (d2 : x15 + (-4294967296) ≤ x13 ∧ x13 ≤ x15 + (-1)) (d3 : x7 + (-4294967296) ≤ x1 ∧ x1 ≤ x7 + 0) (d4 : x8 + (-4294967296) ≤ x2 ∧ x2 ≤ x8 + 0) (d5 : x10 + (-4294967296) ≤ x2 ∧ x2 ≤ x10 + (-1)) (d6 : x11 + (-4294967296) ≤ x2 ∧ x2 ≤ x11 + 0) (d7 : x1 + (-4294967296) ≤ x7 ∧ x7 ≤ x1 + 0) (d8 : x2 + (-4294967296) ≤ x8 ∧ x8 ≤ x2 + 0) (d9 : x10 + (-4294967296) ≤ x8 ∧ x8 ≤ x10 + (-1)) (d10 : x11 + (-4294967296) ≤ x8 ∧ x8 ≤ x11 + 0) (d11 : x10 + (-4294967296) ≤ x9 ∧ x9 ≤ x10 + 16777213) (d12 : x10 + (-4294967296) ≤ x11 ∧ x11 ≤ x10 + (-1)) (f0 : x25 = x13 + 1) (f1 : x24 ≠ 0) (f2 : x24 = x22 % 2) (f3 : bvp (x24) = bvp (x22) &&& bvp (x23)) (f4 : bvp (x22) = bvp (x9) >>> (x13).toNat) (f5 : x21 ≠ 0) (f6 : x21 = x19 % 2) (f7 : bvp (x21) = bvp (x19) &&& bvp (x20)) (f8 : bvp (x19) = bvp (x18) >>> (x13).toNat) (h9 : x18 = near_0o3 (x12)) (f11 : x10 < x16) (f12 : x13 < x15) (g13 : x15 = nodes_0o3) (f14 : WTI (nodes_0o3) (order_0) (part_0o4) (x9) (x2) (x10) (x5) (x11)) (f15 : PNC (nodes_0o3) (near_0o3) (part_0o4)) (f18 : x12 = order_0 (x11)) (f19 : (x11 + 1) ≤ x10) (f20 : TQI (nodes_0o3) (order_0) (parent_0) (level_0) (near_0o3) (part_0o4) (x9) (x2) (x10) (x5) (x11) (x13)) (hK_0_2 : ∀ j : Int, 0 ≤ j → j < 24 → 0 ≤ order_0 j ∧ order_0 j ≤ 23) (hK_0_4 : ∀ j : Int, 0 ≤ j → j < 24 → 0 ≤ level_0 j ∧ level_0 j ≤ 23) (hK_0_5 : ∀ j : Int, 0 ≤ j → j < 24 → (-1) ≤ parent_0 j ∧ parent_0 j ≤ 23) (hK_3_14 : ∀ j : Int, 0 ≤ j → j < 24 → 0 ≤ near_0o3 j ∧ near_0o3 j ≤ 16777215) (hK_4_4 : ∀ j : Int, 0 ≤ j → j < 24 → (-1) ≤ part_0o4 j ∧ part_0o4 j ≤ 24) (kz_3_0 : 0 ≤ nodes_0o3 ∧ nodes_0o3 ≤ 24) : TQI (nodes_0o3) (order_0) (parent_0) (level_0) (near_0o3) (part_0o4) (x9) (x2) (x10) (x5) (x11) (x25) := by
  first
    | exact tqi_of ‹TQH _ _ _ _ _ _ _ _ _ _ _› (by omega) (by omega)
    | (have qa := bit_one (s := x18) (t := x19) (c := x21) (v := x13) (one := x20) (by assumption) (by assumption) (by omega) (by omega) (by omega) (by omega)
       have e := (‹x18 = _›)
       exact tqi_skip (v := x12) (w := x13) ‹TQI _ _ _ _ _ _ _ _ _ _ _ _› (by assumption) (Or.inl (fun z => by rw [← e] at z; have := qa.mp z; omega)) (by omega))
    | (have qb := bit_one (s := x9) (t := x22) (c := x24) (v := x13) (one := x23) (by assumption) (by assumption) (by omega) (by omega) (by omega) (by omega)
       exact tqi_skip (v := x12) (w := x13) ‹TQI _ _ _ _ _ _ _ _ _ _ _ _› (by assumption) (Or.inr (qb.mpr (by omega))) (by omega))
    | (have qa := bit_one (s := x18) (t := x19) (c := x21) (v := x13) (one := x20) (by assumption) (by assumption) (by omega) (by omega) (by omega) (by omega)
       have qb := bit_one (s := x9) (t := x22) (c := x24) (v := x13) (one := x23) (by assumption) (by assumption) (by omega) (by omega) (by omega) (by omega)
       have o1 : x25 = 1 := by omega
       subst o1
       exact tqi_step (v := x12) (w := x13) (q := x10) (x := x13) (o := x26) (pv := x12) (l0 := x30) (l1 := x32) ‹TQI _ _ _ _ _ _ _ _ _ _ _ _› ‹WTI _ _ _ _ _ _ _ _› (by omega) (by omega) ‹PNC _ _ _› (by assumption) (by omega) (by omega) (by omega) (by have e := (‹x18 = _›); rw [← e]; exact qa.mpr (by omega)) (fun z => by have := qb.mp z; omega) (by assumption) rfl rfl (by assumption) rfl (by assumption) (by assumption) (by omega) (by assumption) (by assumption) (by omega) (by omega))
  
def o_Pl_walkTree_6 : or_T := (52, 26, [(0, (2, 0, 0, [6])), (1, (0, 0, 23, [])), (2, (0, 0, 22, [])), (3, (2, 0, 0, [3])), (4, (2, 0, 0, [2])), (5, (0, 0, 24, [])), (7, (0, 0, 23, [])), (8, (0, 0, 22, [])), (9, (0, 0, 16777215, [])), (10, (0, 1, 23, [])), (11, (0, 0, 22, [])), (12, (0, 0, 23, [])), (13, (0, 0, 23, [])), (15, (0, 1, 24, [])), (16, (0, 24, 24, [])), (18, (0, 0, 16777215, [])), (19, (0, 0, 16777215, [])), (20, (0, 1, 1, [])), (21, (0, 1, 1, [])), (22, (0, 0, 16777215, [])), (23, (0, 1, 1, [])), (24, (0, 1, 1, [])), (25, (0, 1, 24, []))], [(6, [25, 13], [1]), (8, [24], [1]), (12, [24, 22], [2]), (16, [24, 22, 23], [0]), (16, [22, 9, 13], [4]), (8, [21], [1]), (12, [21, 19], [2]), (16, [21, 19, 20], [0]), (16, [19, 18, 13], [4]), (10, [18, 17, 12], []), (9, [17, 14], [14]), (7, [10, 16], [2]), (7, [13, 15], [2]), (9, [15, 14], [0]), (20, [6, 14, 4, 9, 8, 10, 5, 11], [60, 1, 2, 683, 1000, 2, 2004]), (20, [14, 4], [60, 1, 2, 671, 0, 14, 1004]), (24, [3, 14], []), (24, [2, 8], []), (20, [12, 6, 11], [50, 0, 1, 1002, 1, 2, 1, 0, 3, 1, 2, 1, 2]), (20, [11, 10], [50, 0, 0, 0, 6, 4, 2, 1, 0, 0, 1, 1, 1]), (20, [6, 14, 4, 9, 8, 10, 5, 11, 13], [60, 1, 5, 857, 1000, 2, 5, 4, 1014, 2004]), (24, [0, 6], [])], [], [], [(20, [6, 14, 4, 9, 8, 10, 5, 11, 25], [60, 1, 5, 857, 1000, 2, 5, 4, 1014, 2004])], [], [(25, 13, 1, 1), (25, 15, -4294967296, 0), (13, 15, -4294967296, -1), (1, 7, -4294967296, 0), (2, 8, -4294967296, 0), (2, 10, -4294967296, -1), (2, 11, -4294967296, 0), (7, 1, -4294967296, 0), (8, 2, -4294967296, 0), (8, 10, -4294967296, -1), (8, 11, -4294967296, 0), (9, 10, -4294967296, 16777213), (11, 10, -4294967296, -1)])
theorem oo_Pl_walkTree_6 {kA : Nat → ClassId} : or_ok PRD kA GG o_Pl_walkTree_6 := by
  refine or_mk fun A ta ws vs hD hth hl => ?_
  intro t0 r0 t1 k1 t2 k2 t3 r3 t4 r4 t5 k5 t7 k7 t8 k8 t9 k9 t10 k10 t11 k11 t12 k12 t13 k13 t15 k15 t16 k16 t18 k18 t19 k19 t20 k20 t21 k21 t22 k22 t23 k23 t24 k24 t25 k25 d0 d1 d2 d3 d4 d5 d6 d7 d8 d9 d10 d11 d12 f0 f1 f2 f3 f4 f5 f6 f7 f8 f9 f10 f11 f12 f13 f14 f15 f16 f17 f18 f19 f20 f21
  replace f0 := shm_4 f0
  replace f1 := shm_154 f1
  replace f2 := shm_382 f2
  replace f3 := shm_11 f3
  replace f4 := shm_13 f4
  replace f5 := shm_154 f5
  replace f6 := shm_382 f6
  replace f7 := shm_11 f7
  replace f8 := shm_13 f8
  replace f9 := shm_106 f9
  replace f10 := shm_116 f10
  replace f11 := shm_6 f11
  replace f12 := shm_6 f12
  replace f13 := shm_175 f13
  replace f14 := shm_437 f14
  replace f15 := shm_432 f15
  replace f16 := shm_5 f16
  replace f17 := shm_5 f17
  replace f18 := shm_441 f18
  replace f19 := shm_409 f19
  replace f20 := shm_442 f20
  replace f21 := shm_5 f21
  have q14 : n_v vs 14 = n_v vs 3 := f16.symm
  have q8 : n_v vs 8 = n_v vs 2 := f17.symm
  have q6 : n_v vs 6 = n_v vs 0 := f21.symm
  simp only [q14, q8, q6] at f10 f13 f14 f15 f18 f20
  have cr_0_2 := fdq_93 hD hth r0
  have cr_0_4 := fdq_90 hD hth r0
  have cr_0_5 := fdq_94 hD hth r0
  have cr_3_14 := fdq_79 hD hth r3
  have cr_4_4 := fdq_91 hD hth r4
  have ad_17 : v_ad (n_v vs 17) = w_ar ws (n_v vs 3) 14 := congrArg v_ad f10
  simp only [ad_17] at f9
  have h9 : v_iv (n_v vs 18) = w_ei ws (w_ar ws (n_v vs 3) 14) (v_iv (n_v vs 12)) := f9
  have g13 : v_iv (n_v vs 15) = w_fi ws (n_v vs 3) 0 := congrArg v_iv f13
  have hK_0_2 := elq_42 hD hth cr_0_2
  have hK_0_4 := elq_40 hD hth cr_0_4
  have hK_0_5 := elq_43 hD hth cr_0_5
  have hK_3_14 := elq_24 hD hth cr_3_14
  have hK_4_4 := elq_28 hD hth cr_4_4
  have kz_3_0 := fdq_23 hD hth r3
  have nf0 : fc_1 PRD (20, [6, 14, 4, 9, 8, 10, 5, 11, 25], [60, 1, 5, 857, 1000, 2, 5, 4, 1014, 2004]) ws (vs) := by
    refine ⟨nf_in hl rfl, sgq_442 ?_⟩
    · show TQI (w_fi ws (n_v vs 14) 0) (w_ei ws (w_ar ws (n_v vs 6) 2)) (w_ei ws (w_ar ws (n_v vs 6) 5)) (w_ei ws (w_ar ws (n_v vs 6) 4)) (w_ei ws (w_ar ws (n_v vs 14) 14)) (w_ei ws (w_ar ws (n_v vs 4) 4)) (v_iv (n_v vs 9)) (v_iv (n_v vs 8)) (v_iv (n_v vs 10)) (v_iv (n_v vs 5)) (v_iv (n_v vs 11)) (v_iv (n_v vs 25))
      simp only [q14, q8, q6]
      exact vc_Pl_walkTree_6_0 (v_iv (n_v vs 1)) (v_iv (n_v vs 2)) (v_iv (n_v vs 5)) (v_iv (n_v vs 7)) (v_iv (n_v vs 8)) (v_iv (n_v vs 9)) (v_iv (n_v vs 10)) (v_iv (n_v vs 11)) (v_iv (n_v vs 12)) (v_iv (n_v vs 13)) (v_iv (n_v vs 15)) (v_iv (n_v vs 16)) (v_iv (n_v vs 18)) (v_iv (n_v vs 19)) (v_iv (n_v vs 20)) (v_iv (n_v vs 21)) (v_iv (n_v vs 22)) (v_iv (n_v vs 23)) (v_iv (n_v vs 24)) (v_iv (n_v vs 25)) (w_ei ws (w_ar ws (n_v vs 3) 14)) (w_fi ws (n_v vs 3) 0) (w_ei ws (w_ar ws (n_v vs 0) 2)) (w_ei ws (w_ar ws (n_v vs 4) 4)) (w_ei ws (w_ar ws (n_v vs 0) 5)) (w_ei ws (w_ar ws (n_v vs 0) 4)) k1 k2 k5 k7 k8 k9 k10 k11 k12 k13 k15 k16 k18 k19 k20 k21 k22 k23 k24 k25 d0 d1 d2 d3 d4 d5 d6 d7 d8 d9 d10 d11 d12 f0 f1 f2 f3 f4 f5 f6 f7 f8 h9 f11 f12 g13 f14 f15 f18 f19 f20 hK_0_2 hK_0_4 hK_0_5 hK_3_14 hK_4_4 kz_3_0
  refine ⟨(fun _ h => (by cases h)), [], trivial, ?_, (fun _ h => (by cases h))⟩
  rw [List.append_nil]
  exact List.forall_mem_cons.mpr ⟨⟨show (20 : Nat) < 100 from by decide, nf0⟩, (fun _ h => (by cases h))⟩
set_option maxHeartbeats 4000000 in
theorem vc_Pl_walkTree_7_r0 (x1 : Int) (x2 : Int) (x5 : Int) (x7 : Int) (x8 : Int) (x9 : Int) (x10 : Int) (x11 : Int) (x12 : Int) (x13 : Int) (x15 : Int) (x16 : Int) (x18 : Int) (x19 : Int) (x20 : Int) (x21 : Int) (x22 : Int) (x23 : Int) (x24 : Int) (x25 : Int) (x26 : Int) (x27 : Int) (x30 : Int) (x31 : Int) (x32 : Int) (nodes_0o3 : Int) (level_0 : Int → Int) (order_0 : Int → Int) (part_0o4 : Int → Int) (near_0o3 : Int → Int) (near_1o3 : Int → Int) (order_1 : Int → Int) (part_1o4 : Int → Int) (nodes_1o3 : Int) (parent_1 : Int → Int) (level_1 : Int → Int) (parent_0 : Int → Int) (k1 : 0 ≤ x1 ∧ x1 ≤ 23) (k2 : 0 ≤ x2 ∧ x2 ≤ 22) (k5 : 0 ≤ x5 ∧ x5 ≤ 24) (k7 : 0 ≤ x7 ∧ x7 ≤ 23) (k8 : 0 ≤ x8 ∧ x8 ≤ 22) (k9 : 0 ≤ x9 ∧ x9 ≤ 16777215) (k10 : 1 ≤ x10 ∧ x10 ≤ 23) (k11 : 0 ≤ x11 ∧ x11 ≤ 22) (k12 : 0 ≤ x12 ∧ x12 ≤ 23) (k13 : 0 ≤ x13 ∧ x13 ≤ 23) (k15 : 1 ≤ x15 ∧ x15 ≤ 24) (k16 : 24 ≤ x16 ∧ x16 ≤ 24) (k18 : 0 ≤ x18 ∧ x18 ≤ 16777215) (k19 : 0 ≤ x19 ∧ x19 ≤ 16777215) (k20 : 1 ≤ x20 ∧ x20 ≤ 1) (k21 : 1 ≤ x21 ∧ x21 ≤ 1) (k22 : 0 ≤ x22 ∧ x22 ≤ 16777215) (k23 : 1 ≤ x23 ∧ x23 ≤ 1) (k24 : 0 ≤ x24 ∧ x24 ≤ 0) (k25 : 1 ≤ x25 ∧ x25 ≤ 1) (k26 : 1 ≤ x26 ∧ x26 ≤ 8388608) (k27 : 0 ≤ x27 ∧ x27 ≤ 16777215) (k30 : 0 ≤ x30 ∧ x30 ≤ 23) (k31 : 1 ≤ x31 ∧ x31 ≤ 1) (k32 : 1 ≤ x32 ∧ x32 ≤ 24) (d0 : x30 + 1 ≤ x32 ∧ x32 ≤ x30 + 1) (d1 : x15 + (-4294967296) ≤ x13 ∧ x13 ≤ x15 + (-1)) (d2 : x7 + (-4294967296) ≤ x1 ∧ x1 ≤ x7 + 0) (d3 : x8 + (-4294967296) ≤ x2 ∧ x2 ≤ x8 + 0) (d4 : x10 + (-4294967296) ≤ x2 ∧ x2 ≤ x10 + (-1)) (d5 : x11 + (-4294967296) ≤ x2 ∧ x2 ≤ x11 + 0) (d6 : x1 + (-4294967296) ≤ x7 ∧ x7 ≤ x1 + 0) (d7 : x2 + (-4294967296) ≤ x8 ∧ x8 ≤ x2 + 0) (d8 : x10 + (-4294967296) ≤ x8 ∧ x8 ≤ x10 + (-1)) (d9 : x11 + (-4294967296) ≤ x8 ∧ x8 ≤ x11 + 0) (d10 : x10 + (-4294967296) ≤ x9 ∧ x9 ≤ x10 + 16777213) (d11 : x10 + (-4294967296) ≤ x11 ∧ x11 ≤ x10 + (-1)) (g2 : x15 = nodes_0o3) (f3 : x32 = x30 + x31) (h4 : x30 = level_0 (x12)) (f6 : WTI (nodes_0o3) (order_0) (part_0o4) (x9) (x2) (x10) (x5) (x11)) (f7 : PNC (nodes_0o3) (near_0o3) (part_0o4)) (f10 : x12 = order_0 (x11)) (f11 : (x11 + 1) ≤ x10) (f15 : x27 ≤ x9 + x26 ∧ x9 ≤ x27 ∧ x26 ≤ x27) (f16 : bvp (x27) = bvp (x9) ||| bvp (x26)) (f17 : bvp (x26) = bvp (x25) <<< (x13).toNat) (f18 : x24 = 0) (f19 : x24 = x22 % 2) (f20 : bvp (x24) = bvp (x22) &&& bvp (x23)) (f21 : bvp (x22) = bvp (x9) >>> (x13).toNat) (f22 : x21 ≠ 0) (f23 : x21 = x19 % 2) (f24 : bvp (x21) = bvp (x19) &&& bvp (x20)) (f25 : bvp (x19) = bvp (x18) >>> (x13).toNat) (h26 : x18 = near_1o3 (x12)) (f27 : x10 < x16) (f28 : x13 < x15) (f29 : WTI (nodes_1o3) (order_1) (part_1o4) (x9) (x2) (x10) (x5) (x11)) (f30 : PNC (nodes_1o3) (near_1o3) (part_1o4)) (f31 : x12 = order_1 (x11)) (f32 : (x11 + 1) ≤ x10) (f33 : TQI (nodes_1o3) (order_1) (parent_1) (level_1) (near_1o3) (part_1o4) (x9) (x2) (x10) (x5) (x11) (x13)) (fe_3_0_1 : nodes_0o3 = nodes_1o3) (hE_0_2_1 : ∀ j : Int, order_0 j = order_1 j) (hK_0_2 : ∀ j : Int, 0 ≤ j → j < 24 → 0 ≤ order_0 j ∧ order_0 j ≤ 23) (hE_0_4_1 : ∀ j : Int, level_0 j = level_1 j) (hK_0_4 : ∀ j : Int, 0 ≤ j → j < 24 → 0 ≤ level_0 j ∧ level_0 j ≤ 23) (hE_0_5_1 : ∀ j : Int, 0 ≤ j → (j = x13 → parent_0 j = x12) ∧ (j ≠ x13 → parent_0 j = parent_1 j)) (hK_0_5 : ∀ j : Int, 0 ≤ j → j < 24 → (-1) ≤ parent_0 j ∧ parent_0 j ≤ 23) (hE_3_14_1 : ∀ j : Int, near_0o3 j = near_1o3 j) (hK_3_14 : ∀ j : Int, 0 ≤ j → j < 24 → 0 ≤ near_0o3 j ∧ near_0o3 j ≤ 16777215) (hE_4_4_1 : ∀ j : Int, part_0o4 j = part_1o4 j) (hK_4_4 : ∀ j : Int, 0 ≤ j → j < 24 → (-1) ≤ part_0o4 j ∧ part_0o4 j ≤ 24) (kz_3_0 : 0 ≤ nodes_0o3 ∧ nodes_0o3 ≤ 24) : 1 ≤ x32 ∧ x32 ≤ 23 := by
  subst fe_3_0_1
  have e_hE_0_2_1 := funext hE_0_2_1; subst e_hE_0_2_1
  have e_hE_0_4_1 := funext hE_0_4_1; subst e_hE_0_4_1
  have e_hE_3_14_1 := funext hE_3_14_1; subst e_hE_3_14_1
  have e_hE_4_4_1 := funext hE_4_4_1; subst e_hE_4_4_1
  first
    | omega
    | (have q := (‹TQI _ _ _ _ _ _ _ _ _ _ _ _›).2.2.2.1 x11 (by have := (‹WTI _ _ _ _ _ _ _ _›).1; have := (‹WTI _ _ _ _ _ _ _ _›).2.2.1; omega) (by omega)
       have q1 := q.1
       have e : x12 = order_0 x11 := by assumption
       first
         | (rw [← e] at q1; omega)
         | (have e2 : x12 = order_1 x11 := by assumption
            rw [← e2] at q1
            omega))
    | (have q := (hE_0_2_1 x11 (by omega)).2 (by omega); omega)
  
def o_Pl_walkTree_7 : or_T := (129, 33, [(0, (2, 0, 0, [6])), (1, (0, 0, 23, [])), (2, (0, 0, 22, [])), (3, (2, 0, 0, [3])), (4, (2, 0, 0, [2])), (5, (0, 0, 24, [])), (6, (2, 0, 0, [6])), (7, (0, 0, 23, [])), (8, (0, 0, 22, [])), (9, (0, 0, 16777215, [])), (10, (0, 1, 23, [])), (11, (0, 0, 22, [])), (12, (0, 0, 23, [])), (13, (0, 0, 23, [])), (14, (2, 0, 0, [3])), (15, (0, 1, 24, [])), (16, (0, 24, 24, [])), (17, (2, 0, 0, [59])), (18, (0, 0, 16777215, [])), (19, (0, 0, 16777215, [])), (20, (0, 1, 1, [])), (21, (0, 1, 1, [])), (22, (0, 0, 16777215, [])), (23, (0, 1, 1, [])), (24, (0, 0, 0, [])), (25, (0, 1, 1, [])), (26, (0, 1, 8388608, [])), (27, (0, 0, 16777215, [])), (28, (2, 0, 0, [92])), (29, (2, 0, 0, [91])), (30, (0, 0, 23, [])), (31, (0, 1, 1, [])), (32, (0, 1, 24, []))], [(9, [28, 6], [5]), (9, [17, 14], [14]), (9, [15, 14], [0]), (1, [32, 30, 31], []), (10, [30, 29, 12], []), (9, [29, 6], [4]), (20, [6, 14, 4, 9, 8, 10, 5, 11], [60, 1, 2, 683, 1000, 2, 2004]), (20, [14, 4], [60, 1, 2, 671, 0, 14, 1004]), (24, [3, 14], []), (24, [2, 8], []), (20, [12, 6, 11], [50, 0, 1, 1002, 1, 2, 1, 0, 3, 1, 2, 1, 2]), (20, [11, 10], [50, 0, 0, 0, 6, 4, 2, 1, 0, 0, 1, 1, 1]), (24, [0, 6], []), (24, [1, 7], []), (100, [28, 13, 12], []), (13, [27, 9, 26], []), (16, [27, 9, 26], [1]), (16, [26, 25, 13], [3]), (8, [24], [0]), (12, [24, 22], [2]), (16, [24, 22, 23], [0]), (16, [22, 9, 13], [4]), (8, [21], [1]), (12, [21, 19], [2]), (16, [21, 19, 20], [0]), (16, [19, 18, 13], [4]), (10, [18, 17, 12], []), (7, [10, 16], [2]), (7, [13, 15], [2]), (20, [6, 14, 4, 9, 8, 10, 5, 11], [60, 1, 2, 683, 1000, 2, 2004]), (20, [14, 4], [60, 1, 2, 671, 0, 14, 1004]), (20, [12, 6, 11], [50, 0, 1, 1002, 1, 2, 1, 0, 3, 1, 2, 1, 2]), (20, [11, 10], [50, 0, 0, 0, 6, 4, 2, 1, 0, 0, 1, 1, 1]), (20, [6, 14, 4, 9, 8, 10, 5, 11, 13], [60, 1, 5, 857, 1000, 2, 5, 4, 1014, 2004])], [(32, (0, 1, 23, []))], [], [], [], [(32, 30, 1, 1), (13, 15, -4294967296, -1), (1, 7, -4294967296, 0), (2, 8, -4294967296, 0), (2, 10, -4294967296, -1), (2, 11, -4294967296, 0), (7, 1, -4294967296, 0), (8, 2, -4294967296, 0), (8, 10, -4294967296, -1), (8, 11, -4294967296, 0), (9, 10, -4294967296, 16777213), (11, 10, -4294967296, -1)])
theorem oo_Pl_walkTree_7 {kA : Nat → ClassId} : or_ok PRD kA GG o_Pl_walkTree_7 := by
  refine or_mk fun A ta ws vs hD hth hl => ?_
  intro t0 r0 t1 k1 t2 k2 t3 r3 t4 r4 t5 k5 t6 r6 t7 k7 t8 k8 t9 k9 t10 k10 t11 k11 t12 k12 t13 k13 t14 r14 t15 k15 t16 k16 t17 r17 t18 k18 t19 k19 t20 k20 t21 k21 t22 k22 t23 k23 t24 k24 t25 k25 t26 k26 t27 k27 t28 r28 t29 r29 t30 k30 t31 k31 t32 k32 d0 d1 d2 d3 d4 d5 d6 d7 d8 d9 d10 d11 f0 f1 f2 f3 f4 f5 f6 f7 f8 f9 f10 f11 f12 f13 ta1 w1 le1 s1 f15 f16 f17 f18 f19 f20 f21 f22 f23 f24 f25 f26 f27 f28 f29 f30 f31 f32 f33
  replace f0 := shm_109 f0
  replace f1 := shm_116 f1
  replace f2 := shm_175 f2
  replace f4 := shm_106 f4
  replace f5 := shm_107 f5
  replace f6 := shm_437 f6
  replace f7 := shm_432 f7
  replace f8 := shm_5 f8
  replace f9 := shm_5 f9
  replace f10 := shm_441 f10
  replace f12 := shm_5 f12
  have s1 : (∀ b j, w_el ws b j = if b = v_ad (n_v vs 28) ∧ j = (v_iv (n_v vs 13)).toNat then v_iv (n_v vs 12) else w_el w1 b j) ∧ ∀ b k, w_fd ws b k = w_fd w1 b k := s1.2
  have f15 : v_iv (n_v vs 27) ≤ v_iv (n_v vs 9) + v_iv (n_v vs 26) ∧ v_iv (n_v vs 9) ≤ v_iv (n_v vs 27) ∧ v_iv (n_v vs 26) ≤ v_iv (n_v vs 27) := (fun (h : v_iv (n_v vs 27) ≤ v_iv (n_v vs 9) + v_iv (n_v vs 26) ∧ v_iv (n_v vs 9) ≤ v_iv (n_v vs 27) ∧ v_iv (n_v vs 26) ≤ v_iv (n_v vs 27) ∧ (v_iv (n_v vs 27)).toNat = (v_iv (n_v vs 9)).toNat ||| (v_iv (n_v vs 26)).toNat) => ⟨h.1, h.2.1, h.2.2.1⟩) f15
  replace f26 := shm_106 f26
  replace f29 := shm_437 f29
  replace f30 := shm_432 f30
  replace f31 := shm_441 f31
  replace f33 := shm_442 f33
  have q14 : n_v vs 14 = n_v vs 3 := f8.symm
  have q8 : n_v vs 8 = n_v vs 2 := f9.symm
  have q6 : n_v vs 6 = n_v vs 0 := f12.symm
  simp only [q6, q14, q8] at f0 f1 f2 f5 f6 f7 f10 f29 f30 f31 f33
  have ar_0_2_1 : w_ar w1 (n_v vs 0) 2 = w_ar ws (n_v vs 0) 2 := congrArg v_ad (s1.2 _ _).symm
  have cr_0_2 := fdq_93 hD hth r0
  have ar_0_4_1 : w_ar w1 (n_v vs 0) 4 = w_ar ws (n_v vs 0) 4 := congrArg v_ad (s1.2 _ _).symm
  have cr_0_4 := fdq_90 hD hth r0
  have ar_0_5_1 : w_ar w1 (n_v vs 0) 5 = w_ar ws (n_v vs 0) 5 := congrArg v_ad (s1.2 _ _).symm
  have cr_0_5 := fdq_94 hD hth r0
  have ar_3_14_1 : w_ar w1 (n_v vs 3) 14 = w_ar ws (n_v vs 3) 14 := congrArg v_ad (s1.2 _ _).symm
  have cr_3_14 := fdq_79 hD hth r3
  have ar_4_4_1 : w_ar w1 (n_v vs 4) 4 = w_ar ws (n_v vs 4) 4 := congrArg v_ad (s1.2 _ _).symm
  have cr_4_4 := fdq_91 hD hth r4
  have ad_28 : v_ad (n_v vs 28) = w_ar ws (n_v vs 0) 5 := congrArg v_ad f0
  have ad_17 : v_ad (n_v vs 17) = w_ar ws (n_v vs 3) 14 := congrArg v_ad f1
  have ad_29 : v_ad (n_v vs 29) = w_ar ws (n_v vs 0) 4 := congrArg v_ad f5
  have g2 : v_iv (n_v vs 15) = w_fi ws (n_v vs 3) 0 := congrArg v_iv f2
  simp only [ad_29] at f4
  have h4 : v_iv (n_v vs 30) = w_ei ws (w_ar ws (n_v vs 0) 4) (v_iv (n_v vs 12)) := f4
  simp only [ad_17] at f26
  have h26 : v_iv (n_v vs 18) = w_ei w1 (w_ar ws (n_v vs 3) 14) (v_iv (n_v vs 12)) := f26
  simp only [ar_0_2_1, ar_4_4_1, ar_3_14_1, ar_0_4_1, ar_0_5_1] at f29 f30 f31 f33
  have fe_3_0_1 : w_fi ws (n_v vs 3) 0 = w_fi w1 (n_v vs 3) 0 := congrArg v_iv (s1.2 _ _)
  have hE_0_2_1 : ∀ j : Int, w_ei ws (w_ar ws (n_v vs 0) 2) j = w_ei w1 (w_ar ws (n_v vs 0) 2) j := el_kp s1.1 r28 cr_0_2 (by decide)
  have hK_0_2 := elq_42 hD hth cr_0_2
  have hE_0_4_1 : ∀ j : Int, w_ei ws (w_ar ws (n_v vs 0) 4) j = w_ei w1 (w_ar ws (n_v vs 0) 4) j := el_kp s1.1 r28 cr_0_4 (by decide)
  have hK_0_4 := elq_40 hD hth cr_0_4
  have hE_0_5_1 : ∀ j : Int, 0 ≤ j → (j = v_iv (n_v vs 13) → w_ei ws (w_ar ws (n_v vs 0) 5) j = v_iv (n_v vs 12)) ∧ (j ≠ v_iv (n_v vs 13) → w_ei ws (w_ar ws (n_v vs 0) 5) j = w_ei w1 (w_ar ws (n_v vs 0) 5) j) := fun j hj => ⟨fun h => by unfold w_ei; rw [s1.1, if_pos ⟨ad_28.symm, by rw [h]⟩], fun h => by unfold w_ei; rw [s1.1, if_neg (fun e => h (by have := e.2; omega))]⟩
  have hK_0_5 := elq_43 hD hth cr_0_5
  have hE_3_14_1 : ∀ j : Int, w_ei ws (w_ar ws (n_v vs 3) 14) j = w_ei w1 (w_ar ws (n_v vs 3) 14) j := el_kp s1.1 r28 cr_3_14 (by decide)
  have hK_3_14 := elq_24 hD hth cr_3_14
  have hE_4_4_1 : ∀ j : Int, w_ei ws (w_ar ws (n_v vs 4) 4) j = w_ei w1 (w_ar ws (n_v vs 4) 4) j := el_kp s1.1 r28 cr_4_4 (by decide)
  have hK_4_4 := elq_28 hD hth cr_4_4
  have kz_3_0 := fdq_23 hD hth r3
  have hrf0 : 1 ≤ v_iv (n_v vs 32) ∧ v_iv (n_v vs 32) ≤ 23 := vc_Pl_walkTree_7_r0 (v_iv (n_v vs 1)) (v_iv (n_v vs 2)) (v_iv (n_v vs 5)) (v_iv (n_v vs 7)) (v_iv (n_v vs 8)) (v_iv (n_v vs 9)) (v_iv (n_v vs 10)) (v_iv (n_v vs 11)) (v_iv (n_v vs 12)) (v_iv (n_v vs 13)) (v_iv (n_v vs 15)) (v_iv (n_v vs 16)) (v_iv (n_v vs 18)) (v_iv (n_v vs 19)) (v_iv (n_v vs 20)) (v_iv (n_v vs 21)) (v_iv (n_v vs 22)) (v_iv (n_v vs 23)) (v_iv (n_v vs 24)) (v_iv (n_v vs 25)) (v_iv (n_v vs 26)) (v_iv (n_v vs 27)) (v_iv (n_v vs 30)) (v_iv (n_v vs 31)) (v_iv (n_v vs 32)) (w_fi ws (n_v vs 3) 0) (w_ei ws (w_ar ws (n_v vs 0) 4)) (w_ei ws (w_ar ws (n_v vs 0) 2)) (w_ei ws (w_ar ws (n_v vs 4) 4)) (w_ei ws (w_ar ws (n_v vs 3) 14)) (w_ei w1 (w_ar ws (n_v vs 3) 14)) (w_ei w1 (w_ar ws (n_v vs 0) 2)) (w_ei w1 (w_ar ws (n_v vs 4) 4)) (w_fi w1 (n_v vs 3) 0) (w_ei w1 (w_ar ws (n_v vs 0) 5)) (w_ei w1 (w_ar ws (n_v vs 0) 4)) (w_ei ws (w_ar ws (n_v vs 0) 5)) k1 k2 k5 k7 k8 k9 k10 k11 k12 k13 k15 k16 k18 k19 k20 k21 k22 k23 k24 k25 k26 k27 k30 k31 k32 d0 d1 d2 d3 d4 d5 d6 d7 d8 d9 d10 d11 g2 (shm_12 f3) h4 f6 f7 f10 (shm_409 f11) f15 (shm_372 f16) (shm_367 f17) (shm_210 f18) (shm_382 f19) (shm_11 f20) (shm_13 f21) (shm_154 f22) (shm_382 f23) (shm_11 f24) (shm_13 f25) h26 (shm_6 f27) (shm_6 f28) f29 f30 f31 (shm_409 f32) f33 fe_3_0_1 hE_0_2_1 hK_0_2 hE_0_4_1 hK_0_4 hE_0_5_1 hK_0_5 hE_3_14_1 hK_3_14 hE_4_4_1 hK_4_4 kz_3_0
  have rf32 : tv_ok ta (0, 1, 23, []) (n_v vs 32) := tv_in t32 (by first | omega | grind) (by first | omega | grind)
  refine ⟨List.forall_mem_cons.mpr ⟨rf32, (fun _ h => (by cases h))⟩, [], trivial, ?_, (fun _ h => (by cases h))⟩
  rw [List.append_nil]
  exact (fun _ h => (by cases h))
set_option maxHeartbeats 4000000 in
theorem vc_Pl_walkTree_8_0 (x1 : Int) (x2 : Int) (x5 : Int) (x7 : Int) (x8 : Int) (x9 : Int) (x10 : Int) (x11 : Int) (x12 : Int) (x13 : Int) (x15 : Int) (x16 : Int) (x18 : Int) (x19 : Int) (x20 : Int) (x21 : Int) (x22 : Int) (x23 : Int) (x24 : Int) (x25 : Int) (x26 : Int) (x27 : Int) (x30 : Int) (x31 : Int) (x32 : Int) (x34 : Int) (x35 : Int) (nodes_0o3 : Int) (near_0o3 : Int → Int) (part_0o4 : Int → Int) (order_1 : Int → Int) (part_1o4 : Int → Int) (nodes_1o3 : Int) (near_1o3 : Int → Int) (level_2 : Int → Int) (order_2 : Int → Int) (part_2o4 : Int → Int) (nodes_2o3 : Int) (near_2o3 : Int → Int) (near_3o3 : Int → Int) (order_3 : Int → Int) (part_3o4 : Int → Int) (nodes_3o3 : Int) (parent_3 : Int → Int) (level_3 : Int → Int) (order_0 : Int → Int) (level_0 : Int → Int) (level_1 : Int → Int) (parent_0 : Int → Int) (parent_1 : Int → Int) (parent_2 : Int → Int) (k1 : 0 ≤ x1 ∧ x1 ≤ 23) (k2 : 0 ≤ x2 ∧ x2 ≤ 22) (k5 : 0 ≤ x5 ∧ x5 ≤ 24) (k7 : 0 ≤ x7 ∧ x7 ≤ 23) (k8 : 0 ≤ x8 ∧ x8 ≤ 22) (k9 : 0 ≤ x9 ∧ x9 ≤ 16777215) (k10 : 1 ≤ x10 ∧ x10 ≤ 23) (k11 : 0 ≤ x11 ∧ x11 ≤ 22) (k12 : 0 ≤ x12 ∧ x12 ≤ 23) (k13 : 0 ≤ x13 ∧ x13 ≤ 23) (k15 : 1 ≤ x15 ∧ x15 ≤ 24) (k16 : 24 ≤ x16 ∧ x16 ≤ 24) (k18 : 0 ≤ x18 ∧ x18 ≤ 16777215) (k19 : 0 ≤ x19 ∧ x19 ≤ 16777215) (k20 : 1 ≤ x20 ∧ x20 ≤ 1) (k21 : 1 ≤ x21 ∧ x21 ≤ 1) (k22 : 0 ≤ x22 ∧ x22 ≤ 16777215) (k23 : 1 ≤ x23 ∧ x23 ≤ 1) (k24 : 0 ≤ x24 ∧ x24 ≤ 0) (k25 : 1 ≤ x25 ∧ x25 ≤ 1) (k26 : 1 ≤ x26 ∧ x26 ≤ 8388608) (k27 : 0 ≤ x27 ∧ x27 ≤ 16777215) (k30 : 0 ≤ x30 ∧ x30 ≤ 23) (k31 : 1 ≤ x31 ∧ x31 ≤ 1) (k32 : 1 ≤ x32 ∧ x32 ≤ 23) (k34 : 2 ≤ x34 ∧ x34 ≤ 24) (k35 : 1 ≤ x35 ∧ x35 ≤ 24) (d0 : x13 + 1 ≤ x35 ∧ x35 ≤ x13 + 1) (d1 : x15 + (-4294967296) ≤ x35 ∧ x35 ≤ x15 + 0) (d2 : x10 + 1 ≤ x34 ∧ x34 ≤ x10 + 1) (d3 : x30 + 1 ≤ x32 ∧ x32 ≤ x30 + 1) (d4 : x15 + (-4294967296) ≤ x13 ∧ x13 ≤ x15 + (-1)) (d5 : x7 + (-4294967296) ≤ x1 ∧ x1 ≤ x7 + 0) (d6 : x8 + (-4294967296) ≤ x2 ∧ x2 ≤ x8 + 0) (d7 : x10 + (-4294967296) ≤ x2 ∧ x2 ≤ x10 + (-1)) (d8 : x11 + (-4294967296) ≤ x2 ∧ x2 ≤ x11 + 0) (d9 : x1 + (-4294967296) ≤ x7 ∧ x7 ≤ x1 + 0) (d10 : x2 + (-4294967296) ≤ x8 ∧ x8 ≤ x2 + 0) (d11 : x10 + (-4294967296) ≤ x8 ∧ x8 ≤ x10 + (-1)) (d12 : x11 + (-4294967296) ≤ x8 ∧ x8 ≤ x11 + 0) (d13 : x10 + (-4294967296) ≤ x9 ∧ x9 ≤ x10 + 16777213) (d14 : x10 + (-4294967296) ≤ x11 ∧ x11 ≤ x10 + (-1)) (g4 : x15 = nodes_0o3) (f5 : x35 = x13 + 1) (f6 : x34 = x10 + 1) (f7 : PNC (nodes_0o3) (near_0o3) (part_0o4)) (f10 : (x11 + 1) ≤ x10) (f14 : WTI (nodes_1o3) (order_1) (part_1o4) (x9) (x2) (x10) (x5) (x11)) (f15 : PNC (nodes_1o3) (near_1o3) (part_1o4)) (f16 : x12 = order_1 (x11)) (f17 : (x11 + 1) ≤ x10) (f19 : x32 = x30 + x31) (h20 : x30 = level_2 (x12)) (f21 : WTI (nodes_2o3) (order_2) (part_2o4) (x9) (x2) (x10) (x5) (x11)) (f22 : PNC (nodes_2o3) (near_2o3) (part_2o4)) (f23 : x12 = order_2 (x11)) (f24 : (x11 + 1) ≤ x10) (f26 : x27 ≤ x9 + x26 ∧ x9 ≤ x27 ∧ x26 ≤ x27) (f27 : bvp (x27) = bvp (x9) ||| bvp (x26)) (f28 : bvp (x26) = bvp (x25) <<< (x13).toNat) (f29 : x24 = 0) (f30 : x24 = x22 % 2) (f31 : bvp (x24) = bvp (x22) &&& bvp (x23)) (f32 : bvp (x22) = bvp (x9) >>> (x13).toNat) (f33 : x21 ≠ 0) (f34 : x21 = x19 % 2) (f35 : bvp (x21) = bvp (x19) &&& bvp (x20)) (f36 : bvp (x19) = bvp (x18) >>> (x13).toNat) (h37 : x18 = near_3o3 (x12)) (f38 : x10 < x16) (f39 : x13 < x15) (f40 : WTI (nodes_3o3) (order_3) (part_3o4) (x9) (x2) (x10) (x5) (x11)) (f41 : PNC (nodes_3o3) (near_3o3) (part_3o4)) (f42 : x12 = order_3 (x11)) (f43 : (x11 + 1) ≤ x10) (f44 : TQI (nodes_3o3) (order_3) (parent_3) (level_3) (near_3o3) (part_3o4) (x9) (x2) (x10) (x5) (x11) (x13)) (fe_3_0_1 : nodes_0o3 = nodes_1o3) (fe_3_0_2 : nodes_1o3 = nodes_2o3) (fe_3_0_3 : nodes_2o3 = nodes_3o3) (hE_0_2_1 : ∀ j : Int, 0 ≤ j → (j = x10 → order_0 j = x13) ∧ (j ≠ x10 → order_0 j = order_1 j)) (hE_0_2_2 : ∀ j : Int, order_1 j = order_2 j) (hE_0_2_3 : ∀ j : Int, order_2 j = order_3 j) (hK_0_2 : ∀ j : Int, 0 ≤ j → j < 24 → 0 ≤ order_0 j ∧ order_0 j ≤ 23) (hE_0_4_1 : ∀ j : Int, level_0 j = level_1 j) (hE_0_4_2 : ∀ j : Int, 0 ≤ j → (j = x13 → level_1 j = x32) ∧ (j ≠ x13 → level_1 j = level_2 j)) (hE_0_4_3 : ∀ j : Int, level_2 j = level_3 j) (hK_0_4 : ∀ j : Int, 0 ≤ j → j < 24 → 0 ≤ level_0 j ∧ level_0 j ≤ 23) (hE_0_5_1 : ∀ j : Int, parent_0 j = parent_1 j) (hE_0_5_2 : ∀ j : Int, parent_1 j = parent_2 j) (hE_0_5_3 : ∀ j : Int, 0 ≤ j → (j = x13 → parent_2 j = x12) ∧ (j ≠ x13 → parent_2 j = parent_3 j)) (hK_0_5 : ∀ j : Int, 0 ≤ j → j < 24 → (-1) ≤ parent_0 j ∧ parent_0 j ≤ 23) (hE_3_14_1 : ∀ j : Int, near_0o3 j = near_1o3 j) (hE_3_14_2 : ∀ j : Int, near_1o3 j = near_2o3 j) (hE_3_14_3 : ∀ j : Int, near_2o3 j = near_3o3 j) (hK_3_14 : ∀ j : Int, 0 ≤ j → j < 24 → 0 ≤ near_0o3 j ∧ near_0o3 j ≤ 16777215) (hE_4_4_1 : ∀ j : Int, part_0o4 j = part_1o4 j) (hE_4_4_2 : ∀ j : Int, part_1o4 j = part_2o4 j) (hE_4_4_3 : ∀ j : Int, part_2o4 j = part_3o4 j) (hK_4_4 : ∀ j : Int, 0 ≤ j → j < 24 → (-1) ≤ part_0o4 j ∧ part_0o4 j ≤ 24) (kz_3_0 : 0 ≤ nodes_0o3 ∧ nodes_0o3 ≤ 24) : WTI (nodes_0o3) (order_0) (part_0o4) (x27) (x2) (x34) (x5) (x11) := by
  subst fe_3_0_1
  subst fe_3_0_2
  subst fe_3_0_3
  have e_hE_0_2_2 := funext hE_0_2_2; subst e_hE_0_2_2
  have e_hE_0_2_3 := funext hE_0_2_3; subst e_hE_0_2_3
  have e_hE_0_4_1 := funext hE_0_4_1; subst e_hE_0_4_1
  have e_hE_0_4_3 := funext hE_0_4_3; subst e_hE_0_4_3
  have e_hE_0_5_1 := funext hE_0_5_1; subst e_hE_0_5_1
  have e_hE_0_5_2 := funext hE_0_5_2; subst e_hE_0_5_2
  have e_hE_3_14_1 := funext hE_3_14_1; subst e_hE_3_14_1
  have e_hE_3_14_2 := funext hE_3_14_2; subst e_hE_3_14_2
  have e_hE_3_14_3 := funext hE_3_14_3; subst e_hE_3_14_3
  have e_hE_4_4_1 := funext hE_4_4_1; subst e_hE_4_4_1
  have e_hE_4_4_2 := funext hE_4_4_2; subst e_hE_4_4_2
  have e_hE_4_4_3 := funext hE_4_4_3; subst e_hE_4_4_3
  first
    | assumption
    | exact wti_next ‹WTI _ _ _ _ _ _ _ _› (by omega)
    | (have o1 : x6 = 1 := by omega
       subst o1
       exact wti_start (q := x2) (x := x1) ‹WTB _ _ _ _› (by omega) (by omega) (by omega) (by omega) ‹RTP _ _ _› (by assumption) rfl rfl (by assumption) (by omega) rfl)
    | (have qa := bit_one (s := x18) (t := x19) (c := x21) (v := x13) (one := x20) (by assumption) (by assumption) (by omega) (by omega) (by omega) (by omega)
       have qb := bit_one (s := x9) (t := x22) (c := x24) (v := x13) (one := x23) (by assumption) (by assumption) (by omega) (by omega) (by omega) (by omega)
       have o1 : x25 = 1 := by omega
       subst o1
       exact wti_step (v := x12) (w := x13) (q := x10) (x := x13) (o := x26) ‹WTI _ _ _ _ _ _ _ _› (by omega) (by omega) ‹PNC _ _ _› (by assumption) (by omega) (by omega) (by omega) (by have e := (‹x18 = _›); rw [← e]; exact qa.mpr (by omega)) (fun z => by have := qb.mp z; omega) (by assumption) rfl rfl (by assumption) (by assumption) (by omega))
  
set_option maxHeartbeats 4000000 in
theorem vc_Pl_walkTree_8_1 (x1 : Int) (x2 : Int) (x5 : Int) (x7 : Int) (x8 : Int) (x9 : Int) (x10 : Int) (x11 : Int) (x12 : Int) (x13 : Int) (x15 : Int) (x16 : Int) (x18 : Int) (x19 : Int) (x20 : Int) (x21 : Int) (x22 : Int) (x23 : Int) (x24 : Int) (x25 : Int) (x26 : Int) (x27 : Int) (x30 : Int) (x31 : Int) (x32 : Int) (x34 : Int) (x35 : Int) (nodes_0o3 : Int) (near_0o3 : Int → Int) (part_0o4 : Int → Int) (order_1 : Int → Int) (part_1o4 : Int → Int) (nodes_1o3 : Int) (near_1o3 : Int → Int) (level_2 : Int → Int) (order_2 : Int → Int) (part_2o4 : Int → Int) (nodes_2o3 : Int) (near_2o3 : Int → Int) (near_3o3 : Int → Int) (order_3 : Int → Int) (part_3o4 : Int → Int) (nodes_3o3 : Int) (parent_3 : Int → Int) (level_3 : Int → Int) (order_0 : Int → Int) (level_0 : Int → Int) (level_1 : Int → Int) (parent_0 : Int → Int) (parent_1 : Int → Int) (parent_2 : Int → Int) (k1 : 0 ≤ x1 ∧ x1 ≤ 23) (k2 : 0 ≤ x2 ∧ x2 ≤ 22) (k5 : 0 ≤ x5 ∧ x5 ≤ 24) (k7 : 0 ≤ x7 ∧ x7 ≤ 23) (k8 : 0 ≤ x8 ∧ x8 ≤ 22) (k9 : 0 ≤ x9 ∧ x9 ≤ 16777215) (k10 : 1 ≤ x10 ∧ x10 ≤ 23) (k11 : 0 ≤ x11 ∧ x11 ≤ 22) (k12 : 0 ≤ x12 ∧ x12 ≤ 23) (k13 : 0 ≤ x13 ∧ x13 ≤ 23) (k15 : 1 ≤ x15 ∧ x15 ≤ 24) (k16 : 24 ≤ x16 ∧ x16 ≤ 24) (k18 : 0 ≤ x18 ∧ x18 ≤ 16777215) (k19 : 0 ≤ x19 ∧ x19 ≤ 16777215) (k20 : 1 ≤ x20 ∧ x20 ≤ 1) (k21 : 1 ≤ x21 ∧ x21 ≤ 1) (k22 : 0 ≤ x22 ∧ x22 ≤ 16777215) (k23 : 1 ≤ x23 ∧ x23 ≤ 1) (k24 : 0 ≤ x24 ∧ x24 ≤ 0) (k25 : 1 ≤ x25 ∧ x25 ≤ 1) (k26 : 1 ≤ x26 ∧ x26 ≤ 8388608) (k27 : 0 ≤ x27 ∧ x27 ≤ 16777215) (k30 : 0 ≤ x30 ∧ x30 ≤ 23) (k31 : 1 ≤ x31 ∧ x31 ≤ 1) (k32 : 1 ≤ x32 ∧ x32 ≤ 23) (k34 : 2 ≤ x34 ∧ x34 ≤ 24) (k35 : 1 ≤ x35 ∧ x35 ≤ 24) (d0 : x13 + 1 ≤ x35 ∧ x35 ≤ x13 + 1) (d1 : x15 + (-4294967296) ≤ x35 ∧ x35 ≤ x15 + 0) (d2 : x10 + 1 ≤ x34 ∧ x34 ≤ x10 + 1) (d3 : x30 + 1 ≤ x32 ∧ x32 ≤ x30 + 1) (d4 : x15 + (-4294967296) ≤ x13 ∧ x13 ≤ x15 + (-1)) (d5 : x7 + (-4294967296) ≤ x1 ∧ x1 ≤ x7 + 0) (d6 : x8 + (-4294967296) ≤ x2 ∧ x2 ≤ x8 + 0) (d7 : x10 + (-4294967296) ≤ x2 ∧ x2 ≤ x10 + (-1)) (d8 : x11 + (-4294967296) ≤ x2 ∧ x2 ≤ x11 + 0) (d9 : x1 + (-4294967296) ≤ x7 ∧ x7 ≤ x1 + 0) (d10 : x2 + (-4294967296) ≤ x8 ∧ x8 ≤ x2 + 0) (d11 : x10 + (-4294967296) ≤ x8 ∧ x8 ≤ x10 + (-1)) (d12 : x11 + (-4294967296) ≤ x8 ∧ x8 ≤ x11 + 0) (d13 : x10 + (-4294967296) ≤ x9 ∧ x9 ≤ x10 + 16777213) (d14 : x10 + (-4294967296) ≤ x11 ∧ x11 ≤ x10 + (-1)) (g4 : x15 = nodes_0o3) (f5 : x35 = x13 + 1) (f6 : x34 = x10 + 1) (f7 : PNC (nodes_0o3) (near_0o3) (part_0o4)) (f10 : (x11 + 1) ≤ x10) (f14 : WTI (nodes_1o3) (order_1) (part_1o4) (x9) (x2) (x10) (x5) (x11)) (f15 : PNC (nodes_1o3) (near_1o3) (part_1o4)) (f16 : x12 = order_1 (x11)) (f17 : (x11 + 1) ≤ x10) (f19 : x32 = x30 + x31) (h20 : x30 = level_2 (x12)) (f21 : WTI (nodes_2o3) (order_2) (part_2o4) (x9) (x2) (x10) (x5) (x11)) (f22 : PNC (nodes_2o3) (near_2o3) (part_2o4)) (f23 : x12 = order_2 (x11)) (f24 : (x11 + 1) ≤ x10) (f26 : x27 ≤ x9 + x26 ∧ x9 ≤ x27 ∧ x26 ≤ x27) (f27 : bvp (x27) = bvp (x9) ||| bvp (x26)) (f28 : bvp (x26) = bvp (x25) <<< (x13).toNat) (f29 : x24 = 0) (f30 : x24 = x22 % 2) (f31 : bvp (x24) = bvp (x22) &&& bvp (x23)) (f32 : bvp (x22) = bvp (x9) >>> (x13).toNat) (f33 : x21 ≠ 0) (f34 : x21 = x19 % 2) (f35 : bvp (x21) = bvp (x19) &&& bvp (x20)) (f36 : bvp (x19) = bvp (x18) >>> (x13).toNat) (h37 : x18 = near_3o3 (x12)) (f38 : x10 < x16) (f39 : x13 < x15) (f40 : WTI (nodes_3o3) (order_3) (part_3o4) (x9) (x2) (x10) (x5) (x11)) (f41 : PNC (nodes_3o3) (near_3o3) (part_3o4)) (f42 : x12 = order_3 (x11)) (f43 : (x11 + 1) ≤ x10) (f44 : TQI (nodes_3o3) (order_3) (parent_3) (level_3) (near_3o3) (part_3o4) (x9) (x2) (x10) (x5) (x11) (x13)) (fe_3_0_1 : nodes_0o3 = nodes_1o3) (fe_3_0_2 : nodes_1o3 = nodes_2o3) (fe_3_0_3 : nodes_2o3 = nodes_3o3) (hE_0_2_1 : ∀ j : Int, 0 ≤ j → (j = x10 → order_0 j = x13) ∧ (j ≠ x10 → order_0 j = order_1 j)) (hE_0_2_2 : ∀ j : Int, order_1 j = order_2 j) (hE_0_2_3 : ∀ j : Int, order_2 j = order_3 j) (hK_0_2 : ∀ j : Int, 0 ≤ j → j < 24 → 0 ≤ order_0 j ∧ order_0 j ≤ 23) (hE_0_4_1 : ∀ j : Int, level_0 j = level_1 j) (hE_0_4_2 : ∀ j : Int, 0 ≤ j → (j = x13 → level_1 j = x32) ∧ (j ≠ x13 → level_1 j = level_2 j)) (hE_0_4_3 : ∀ j : Int, level_2 j = level_3 j) (hK_0_4 : ∀ j : Int, 0 ≤ j → j < 24 → 0 ≤ level_0 j ∧ level_0 j ≤ 23) (hE_0_5_1 : ∀ j : Int, parent_0 j = parent_1 j) (hE_0_5_2 : ∀ j : Int, parent_1 j = parent_2 j) (hE_0_5_3 : ∀ j : Int, 0 ≤ j → (j = x13 → parent_2 j = x12) ∧ (j ≠ x13 → parent_2 j = parent_3 j)) (hK_0_5 : ∀ j : Int, 0 ≤ j → j < 24 → (-1) ≤ parent_0 j ∧ parent_0 j ≤ 23) (hE_3_14_1 : ∀ j : Int, near_0o3 j = near_1o3 j) (hE_3_14_2 : ∀ j : Int, near_1o3 j = near_2o3 j) (hE_3_14_3 : ∀ j : Int, near_2o3 j = near_3o3 j) (hK_3_14 : ∀ j : Int, 0 ≤ j → j < 24 → 0 ≤ near_0o3 j ∧ near_0o3 j ≤ 16777215) (hE_4_4_1 : ∀ j : Int, part_0o4 j = part_1o4 j) (hE_4_4_2 : ∀ j : Int, part_1o4 j = part_2o4 j) (hE_4_4_3 : ∀ j : Int, part_2o4 j = part_3o4 j) (hK_4_4 : ∀ j : Int, 0 ≤ j → j < 24 → (-1) ≤ part_0o4 j ∧ part_0o4 j ≤ 24) (kz_3_0 : 0 ≤ nodes_0o3 ∧ nodes_0o3 ≤ 24) : x12 = order_0 (x11) := by
  subst fe_3_0_1
  subst fe_3_0_2
  subst fe_3_0_3
  have e_hE_0_2_2 := funext hE_0_2_2; subst e_hE_0_2_2
  have e_hE_0_2_3 := funext hE_0_2_3; subst e_hE_0_2_3
  have e_hE_0_4_1 := funext hE_0_4_1; subst e_hE_0_4_1
  have e_hE_0_4_3 := funext hE_0_4_3; subst e_hE_0_4_3
  have e_hE_0_5_1 := funext hE_0_5_1; subst e_hE_0_5_1
  have e_hE_0_5_2 := funext hE_0_5_2; subst e_hE_0_5_2
  have e_hE_3_14_1 := funext hE_3_14_1; subst e_hE_3_14_1
  have e_hE_3_14_2 := funext hE_3_14_2; subst e_hE_3_14_2
  have e_hE_3_14_3 := funext hE_3_14_3; subst e_hE_3_14_3
  have e_hE_4_4_1 := funext hE_4_4_1; subst e_hE_4_4_1
  have e_hE_4_4_2 := funext hE_4_4_2; subst e_hE_4_4_2
  have e_hE_4_4_3 := funext hE_4_4_3; subst e_hE_4_4_3
  first
    | omega
    | (have q := (‹TQI _ _ _ _ _ _ _ _ _ _ _ _›).2.2.2.1 x11 (by have := (‹WTI _ _ _ _ _ _ _ _›).1; have := (‹WTI _ _ _ _ _ _ _ _›).2.2.1; omega) (by omega)
       have q1 := q.1
       have e : x12 = order_0 x11 := by assumption
       first
         | (rw [← e] at q1; omega)
         | (have e2 : x12 = order_1 x11 := by assumption
            rw [← e2] at q1
            omega))
    | (have q := (hE_0_2_1 x11 (by omega)).2 (by omega); omega)
  
set_option maxHeartbeats 4000000 in
theorem vc_Pl_walkTree_8_2 (x1 : Int) (x2 : Int) (x5 : Int) (x7 : Int) (x8 : Int) (x9 : Int) (x10 : Int) (x11 : Int) (x12 : Int) (x13 : Int) (x15 : Int) (x16 : Int) (x18 : Int) (x19 : Int) (x20 : Int) (x21 : Int) (x22 : Int) (x23 : Int) (x24 : Int) (x25 : Int) (x26 : Int) (x27 : Int) (x30 : Int) (x31 : Int) (x32 : Int) (x34 : Int) (x35 : Int) (nodes_0o3 : Int) (near_0o3 : Int → Int) (part_0o4 : Int → Int) (order_1 : Int → Int) (part_1o4 : Int → Int) (nodes_1o3 : Int) (near_1o3 : Int → Int) (level_2 : Int → Int) (order_2 : Int → Int) (part_2o4 : Int → Int) (nodes_2o3 : Int) (near_2o3 : Int → Int) (near_3o3 : Int → Int) (order_3 : Int → Int) (part_3o4 : Int → Int) (nodes_3o3 : Int) (parent_3 : Int → Int) (level_3 : Int → Int) (order_0 : Int → Int) (level_0 : Int → Int) (level_1 : Int → Int) (parent_0 : Int → Int) (parent_1 : Int → Int) (parent_2 : Int → Int) (k1 : 0 ≤ x1 ∧ x1 ≤ 23) (k2 : 0 ≤ x2 ∧ x2 ≤ 22) (k5 : 0 ≤ x5 ∧ x5 ≤ 24) (k7 : 0 ≤ x7 ∧ x7 ≤ 23) (k8 : 0 ≤ x8 ∧ x8 ≤ 22) (k9 : 0 ≤ x9 ∧ x9 ≤ 16777215) (k10 : 1 ≤ x10 ∧ x10 ≤ 23) (k11 : 0 ≤ x11 ∧ x11 ≤ 22) (k12 : 0 ≤ x12 ∧ x12 ≤ 23) (k13 : 0 ≤ x13 ∧ x13 ≤ 23) (k15 : 1 ≤ x15 ∧ x15 ≤ 24) (k16 : 24 ≤ x16 ∧ x16 ≤ 24) (k18 : 0 ≤ x18 ∧ x18 ≤ 16777215) (k19 : 0 ≤ x19 ∧ x19 ≤ 16777215) (k20 : 1 ≤ x20 ∧ x20 ≤ 1) (k21 : 1 ≤ x21 ∧ x21 ≤ 1) (k22 : 0 ≤ x22 ∧ x22 ≤ 16777215) (k23 : 1 ≤ x23 ∧ x23 ≤ 1) (k24 : 0 ≤ x24 ∧ x24 ≤ 0) (k25 : 1 ≤ x25 ∧ x25 ≤ 1) (k26 : 1 ≤ x26 ∧ x26 ≤ 8388608) (k27 : 0 ≤ x27 ∧ x27 ≤ 16777215) (k30 : 0 ≤ x30 ∧ x30 ≤ 23) (k31 : 1 ≤ x31 ∧ x31 ≤ 1) (k32 : 1 ≤ x32 ∧ x32 ≤ 23) (k34 : 2 ≤ x34 ∧ x34 ≤ 24) (k35 : 1 ≤ x35 ∧ x35 ≤ 24) (d0 : x13 + 1 ≤ x35 ∧ x35 ≤ x13 + 1) (d1 : x15 + (-4294967296) ≤ x35 ∧ x35 ≤ x15 + 0) (d2 : x10 + 1 ≤ x34 ∧ x34 ≤ x10 + 1) (d3 : x30 + 1 ≤ x32 ∧ x32 ≤ x30 + 1) (d4 : x15 + (-4294967296) ≤ x13 ∧ x13 ≤ x15 + (-1)) (d5 : x7 + (-4294967296) ≤ x1 ∧ x1 ≤ x7 + 0) (d6 : x8 + (-4294967296) ≤ x2 ∧ x2 ≤ x8 + 0) (d7 : x10 + (-4294967296) ≤ x2 ∧ x2 ≤ x10 + (-1)) (d8 : x11 + (-4294967296) ≤ x2 ∧ x2 ≤ x11 + 0) (d9 : x1 + (-4294967296) ≤ x7 ∧ x7 ≤ x1 + 0) (d10 : x2 + (-4294967296) ≤ x8 ∧ x8 ≤ x2 + 0) (d11 : x10 + (-4294967296) ≤ x8 ∧ x8 ≤ x10 + (-1)) (d12 : x11 + (-4294967296) ≤ x8 ∧ x8 ≤ x11 + 0) (d13 : x10 + (-4294967296) ≤ x9 ∧ x9 ≤ x10 + 16777213) (d14 : x10 + (-4294967296) ≤ x11 ∧ x11 ≤ x10 + (-1)) (g4 : x15 = nodes_0o3) (f5 : x35 = x13 + 1) (f6 : x34 = x10 + 1) (f7 : PNC (nodes_0o3) (near_0o3) (part_0o4)) (f10 : (x11 + 1) ≤ x10) (f14 : WTI (nodes_1o3) (order_1) (part_1o4) (x9) (x2) (x10) (x5) (x11)) (f15 : PNC (nodes_1o3) (near_1o3) (part_1o4)) (f16 : x12 = order_1 (x11)) (f17 : (x11 + 1) ≤ x10) (f19 : x32 = x30 + x31) (h20 : x30 = level_2 (x12)) (f21 : WTI (nodes_2o3) (order_2) (part_2o4) (x9) (x2) (x10) (x5) (x11)) (f22 : PNC (nodes_2o3) (near_2o3) (part_2o4)) (f23 : x12 = order_2 (x11)) (f24 : (x11 + 1) ≤ x10) (f26 : x27 ≤ x9 + x26 ∧ x9 ≤ x27 ∧ x26 ≤ x27) (f27 : bvp (x27) = bvp (x9) ||| bvp (x26)) (f28 : bvp (x26) = bvp (x25) <<< (x13).toNat) (f29 : x24 = 0) (f30 : x24 = x22 % 2) (f31 : bvp (x24) = bvp (x22) &&& bvp (x23)) (f32 : bvp (x22) = bvp (x9) >>> (x13).toNat) (f33 : x21 ≠ 0) (f34 : x21 = x19 % 2) (f35 : bvp (x21) = bvp (x19) &&& bvp (x20)) (f36 : bvp (x19) = bvp (x18) >>> (x13).toNat) (h37 : x18 = near_3o3 (x12)) (f38 : x10 < x16) (f39 : x13 < x15) (f40 : WTI (nodes_3o3) (order_3) (part_3o4) (x9) (x2) (x10) (x5) (x11)) (f41 : PNC (nodes_3o3) (near_3o3) (part_3o4)) (f42 : x12 = order_3 (x11)) (f43 : (x11 + 1) ≤ x10) (f44 : TQI (nodes_3o3) (order_3) (parent_3) (level_3) (near_3o3) (part_3o4) (x9) (x2) (x10) (x5) (x11) (x13)) (fe_3_0_1 : nodes_0o3 = nodes_1o3) (fe_3_0_2 : nodes_1o3 = nodes_2o3) (fe_3_0_3 : nodes_2o3 = nodes_3o3) (hE_0_2_1 : ∀ j : Int, 0 ≤ j → (j = x10 → order_0 j = x13) ∧ (j ≠ x10 → order_0 j = order_1 j)) (hE_0_2_2 : ∀ j : Int, order_1 j = order_2 j) (hE_0_2_3 : ∀ j : Int, order_2 j = order_3 j) (hK_0_2 : ∀ j : Int, 0 ≤ j → j < 24 → 0 ≤ order_0 j ∧ order_0 j ≤ 23) (hE_0_4_1 : ∀ j : Int, level_0 j = level_1 j) (hE_0_4_2 : ∀ j : Int, 0 ≤ j → (j = x13 → level_1 j = x32) ∧ (j ≠ x13 → level_1 j = level_2 j)) (hE_0_4_3 : ∀ j : Int, level_2 j = level_3 j) (hK_0_4 : ∀ j : Int, 0 ≤ j → j < 24 → 0 ≤ level_0 j ∧ level_0 j ≤ 23) (hE_0_5_1 : ∀ j : Int, parent_0 j = parent_1 j) (hE_0_5_2 : ∀ j : Int, parent_1 j = parent_2 j) (hE_0_5_3 : ∀ j : Int, 0 ≤ j → (j = x13 → parent_2 j = x12) ∧ (j ≠ x13 → parent_2 j = parent_3 j)) (hK_0_5 : ∀ j : Int, 0 ≤ j → j < 24 → (-1) ≤ parent_0 j ∧ parent_0 j ≤ 23) (hE_3_14_1 : ∀ j : Int, near_0o3 j = near_1o3 j) (hE_3_14_2 : ∀ j : Int, near_1o3 j = near_2o3 j) (hE_3_14_3 : ∀ j : Int, near_2o3 j = near_3o3 j) (hK_3_14 : ∀ j : Int, 0 ≤ j → j < 24 → 0 ≤ near_0o3 j ∧ near_0o3 j ≤ 16777215) (hE_4_4_1 : ∀ j : Int, part_0o4 j = part_1o4 j) (hE_4_4_2 : ∀ j : Int, part_1o4 j = part_2o4 j) (hE_4_4_3 : ∀ j : Int, part_2o4 j = part_3o4 j) (hK_4_4 : ∀ j : Int, 0 ≤ j → j < 24 → (-1) ≤ part_0o4 j ∧ part_0o4 j ≤ 24) (kz_3_0 : 0 ≤ nodes_0o3 ∧ nodes_0o3 ≤ 24) : (x11 + 1) ≤ x34 := by
  subst fe_3_0_1
  subst fe_3_0_2
  subst fe_3_0_3
  have e_hE_0_2_2 := funext hE_0_2_2; subst e_hE_0_2_2
  have e_hE_0_2_3 := funext hE_0_2_3; subst e_hE_0_2_3
  have e_hE_0_4_1 := funext hE_0_4_1; subst e_hE_0_4_1
  have e_hE_0_4_3 := funext hE_0_4_3; subst e_hE_0_4_3
  have e_hE_0_5_1 := funext hE_0_5_1; subst e_hE_0_5_1
  have e_hE_0_5_2 := funext hE_0_5_2; subst e_hE_0_5_2
  have e_hE_3_14_1 := funext hE_3_14_1; subst e_hE_3_14_1
  have e_hE_3_14_2 := funext hE_3_14_2; subst e_hE_3_14_2
  have e_hE_3_14_3 := funext hE_3_14_3; subst e_hE_3_14_3
  have e_hE_4_4_1 := funext hE_4_4_1; subst e_hE_4_4_1
  have e_hE_4_4_2 := funext hE_4_4_2; subst e_hE_4_4_2
  have e_hE_4_4_3 := funext hE_4_4_3; subst e_hE_4_4_3
  first
    | omega
    | (have q := (‹TQI _ _ _ _ _ _ _ _ _ _ _ _›).2.2.2.1 x11 (by have := (‹WTI _ _ _ _ _ _ _ _›).1; have := (‹WTI _ _ _ _ _ _ _ _›).2.2.1; omega) (by omega)
       have q1 := q.1
       have e : x12 = order_0 x11 := by assumption
       first
         | (rw [← e] at q1; omega)
         | (have e2 : x12 = order_1 x11 := by assumption
            rw [← e2] at q1
            omega))
    | (have q := (hE_0_2_1 x11 (by omega)).2 (by omega); omega)
  
set_option maxHeartbeats 4000000 in
theorem vc_Pl_walkTree_8_3 (x1 : Int) (x2 : Int) (x5 : Int) (x7 : Int) (x8 : Int) (x9 : Int) (x10 : Int) (x11 : Int) (x12 : Int) (x13 : Int) (x15 : Int) (x16 : Int) (x18 : Int) (x19 : Int) (x20 : Int) (x21 : Int) (x22 : Int) (x23 : Int) (x24 : Int) (x25 : Int) (x26 : Int) (x27 : Int) (x30 : Int) (x31 : Int) (x32 : Int) (x34 : Int) (x35 : Int) (nodes_0o3 : Int) (near_0o3 : Int → Int) (part_0o4 : Int → Int) (order_1 : Int → Int) (part_1o4 : Int → Int) (nodes_1o3 : Int) (near_1o3 : Int → Int) (level_2 : Int → Int) (order_2 : Int → Int) (part_2o4 : Int → Int) (nodes_2o3 : Int) (near_2o3 : Int → Int) (near_3o3 : Int → Int) (order_3 : Int → Int) (part_3o4 : Int → Int) (nodes_3o3 : Int) (parent_3 : Int → Int) (level_3 : Int → Int) (order_0 : Int → Int) (level_0 : Int → Int) (level_1 : Int → Int) (parent_0 : Int → Int) (parent_1 : Int → Int) (parent_2 : Int → Int) (k1 : 0 ≤ x1 ∧ x1 ≤ 23) (k2 : 0 ≤ x2 ∧ x2 ≤ 22) (k5 : 0 ≤ x5 ∧ x5 ≤ 24) (k7 : 0 ≤ x7 ∧ x7 ≤ 23) (k8 : 0 ≤ x8 ∧ x8 ≤ 22) (k9 : 0 ≤ x9 ∧ x9 ≤ 16777215) (k10 : 1 ≤ x10 ∧ x10 ≤ 23) (k11 : 0 ≤ x11 ∧ x11 ≤ 22) (k12 : 0 ≤ x12 ∧ x12 ≤ 23) (k13 : 0 ≤ x13 ∧ x13 ≤ 23) (k15 : 1 ≤ x15 ∧ x15 ≤ 24) (k16 : 24 ≤ x16 ∧ x16 ≤ 24) (k18 : 0 ≤ x18 ∧ x18 ≤ 16777215) (k19 : 0 ≤ x19 ∧ x19 ≤ 16777215) (k20 : 1 ≤ x20 ∧ x20 ≤ 1) (k21 : 1 ≤ x21 ∧ x21 ≤ 1) (k22 : 0 ≤ x22 ∧ x22 ≤ 16777215) (k23 : 1 ≤ x23 ∧ x23 ≤ 1) (k24 : 0 ≤ x24 ∧ x24 ≤ 0) (k25 : 1 ≤ x25 ∧ x25 ≤ 1) (k26 : 1 ≤ x26 ∧ x26 ≤ 8388608) (k27 : 0 ≤ x27 ∧ x27 ≤ 16777215) (k30 : 0 ≤ x30 ∧ x30 ≤ 23) (k31 : 1 ≤ x31 ∧ x31 ≤ 1) (k32 : 1 ≤ x32 ∧ x32 ≤ 23) (k34 : 2 ≤ x34 ∧ x34 ≤ 24) (k35 : 1 ≤ x35 ∧ x35 ≤ 24) (d0 : x13 + 1 ≤ x35 ∧ x35 ≤ x13 + 1) (d1 : x15 + (-4294967296) ≤ x35 ∧ x35 ≤ x15 + 0) (d2 : x10 + 1 ≤ x34 ∧ x34 ≤ x10 + 1) (d3 : x30 + 1 ≤ x32 ∧ x32 ≤ x30 + 1) (d4 : x15 + (-4294967296) ≤ x13 ∧ x13 ≤ x15 + (-1)) (d5 : x7 + (-4294967296) ≤ x1 ∧ x1 ≤ x7 + 0) (d6 : x8 + (-4294967296) ≤ x2 ∧ x2 ≤ x8 + 0) (d7 : x10 + (-4294967296) ≤ x2 ∧ x2 ≤ x10 + (-1)) (d8 : x11 + (-4294967296) ≤ x2 ∧ x2 ≤ x11 + 0) (d9 : x1 + (-4294967296) ≤ x7 ∧ x7 ≤ x1 + 0) (d10 : x2 + (-4294967296) ≤ x8 ∧ x8 ≤ x2 + 0) (d11 : x10 + (-4294967296) ≤ x8 ∧ x8 ≤ x10 + (-1)) (d12 : x11 + (-4294967296) ≤ x8 ∧ x8 ≤ x11 + 0) (d13 : x10 + (-4294967296) ≤ x9 ∧ x9 ≤ x10 + 16777213) (d14 : x10 + (-4294967296) ≤ x11 ∧ x11 ≤ x10 + (-1)) (g4 : x15 = nodes_0o3) (f5 : x35 = x13 + 1) (f6 : x34 = x10 + 1) (f7 : PNC (nodes_0o3) (near_0o3) (part_0o4)) (f10 : (x11 + 1) ≤ x10) (f14 : WTI (nodes_1o3) (order_1) (part_1o4) (x9) (x2) (x10) (x5) (x11)) (f15 : PNC (nodes_1o3) (near_1o3) (part_1o4)) (f16 : x12 = order_1 (x11)) (f17 : (x11 + 1) ≤ x10) (f19 : x32 = x30 + x31) (h20 : x30 = level_2 (x12)) (f21 : WTI (nodes_2o3) (order_2) (part_2o4) (x9) (x2) (x10) (x5) (x11)) (f22 : PNC (nodes_2o3) (near_2o3) (part_2o4)) (f23 : x12 = order_2 (x11)) (f24 : (x11 + 1) ≤ x10) (f26 : x27 ≤ x9 + x26 ∧ x9 ≤ x27 ∧ x26 ≤ x27) (f27 : bvp (x27) = bvp (x9) ||| bvp (x26)) (f28 : bvp (x26) = bvp (x25) <<< (x13).toNat) (f29 : x24 = 0) (f30 : x24 = x22 % 2) (f31 : bvp (x24) = bvp (x22) &&& bvp (x23)) (f32 : bvp (x22) = bvp (x9) >>> (x13).toNat) (f33 : x21 ≠ 0) (f34 : x21 = x19 % 2) (f35 : bvp (x21) = bvp (x19) &&& bvp (x20)) (f36 : bvp (x19) = bvp (x18) >>> (x13).toNat) (h37 : x18 = near_3o3 (x12)) (f38 : x10 < x16) (f39 : x13 < x15) (f40 : WTI (nodes_3o3) (order_3) (part_3o4) (x9) (x2) (x10) (x5) (x11)) (f41 : PNC (nodes_3o3) (near_3o3) (part_3o4)) (f42 : x12 = order_3 (x11)) (f43 : (x11 + 1) ≤ x10) (f44 : TQI (nodes_3o3) (order_3) (parent_3) (level_3) (near_3o3) (part_3o4) (x9) (x2) (x10) (x5) (x11) (x13)) (fe_3_0_1 : nodes_0o3 = nodes_1o3) (fe_3_0_2 : nodes_1o3 = nodes_2o3) (fe_3_0_3 : nodes_2o3 = nodes_3o3) (hE_0_2_1 : ∀ j : Int, 0 ≤ j → (j = x10 → order_0 j = x13) ∧ (j ≠ x10 → order_0 j = order_1 j)) (hE_0_2_2 : ∀ j : Int, order_1 j = order_2 j) (hE_0_2_3 : ∀ j : Int, order_2 j = order_3 j) (hK_0_2 : ∀ j : Int, 0 ≤ j → j < 24 → 0 ≤ order_0 j ∧ order_0 j ≤ 23) (hE_0_4_1 : ∀ j : Int, level_0 j = level_1 j) (hE_0_4_2 : ∀ j : Int, 0 ≤ j → (j = x13 → level_1 j = x32) ∧ (j ≠ x13 → level_1 j = level_2 j)) (hE_0_4_3 : ∀ j : Int, level_2 j = level_3 j) (hK_0_4 : ∀ j : Int, 0 ≤ j → j < 24 → 0 ≤ level_0 j ∧ level_0 j ≤ 23) (hE_0_5_1 : ∀ j : Int, parent_0 j = parent_1 j) (hE_0_5_2 : ∀ j : Int, parent_1 j = parent_2 j) (hE_0_5_3 : ∀ j : Int, 0 ≤ j → (j = x13 → parent_2 j = x12) ∧ (j ≠ x13 → parent_2 j = parent_3 j)) (hK_0_5 : ∀ j : Int, 0 ≤ j → j < 24 → (-1) ≤ parent_0 j ∧ parent_0 j ≤ 23) (hE_3_14_1 : ∀ j : Int, near_0o3 j = near_1o3 j) (hE_3_14_2 : ∀ j : Int, near_1o3 j = near_2o3 j) (hE_3_14_3 : ∀ j : Int, near_2o3 j = near_3o3 j) (hK_3_14 : ∀ j : Int, 0 ≤ j → j < 24 → 0 ≤ near_0o3 j ∧ near_0o3 j ≤ 16777215) (hE_4_4_1 : ∀ j : Int, part_0o4 j = part_1o4 j) (hE_4_4_2 : ∀ j : Int, part_1o4 j = part_2o4 j) (hE_4_4_3 : ∀ j : Int, part_2o4 j = part_3o4 j) (hK_4_4 : ∀ j : Int, 0 ≤ j → j < 24 → (-1) ≤ part_0o4 j ∧ part_0o4 j ≤ 24) (kz_3_0 : 0 ≤ nodes_0o3 ∧ nodes_0o3 ≤ 24) : TQI (nodes_0o3) (order_0) (parent_0) (level_0) (near_0o3) (part_0o4) (x27) (x2) (x34) (x5) (x11) (x35) := by
  subst fe_3_0_1
  subst fe_3_0_2
  subst fe_3_0_3
  have e_hE_0_2_2 := funext hE_0_2_2; subst e_hE_0_2_2
  have e_hE_0_2_3 := funext hE_0_2_3; subst e_hE_0_2_3
  have e_hE_0_4_1 := funext hE_0_4_1; subst e_hE_0_4_1
  have e_hE_0_4_3 := funext hE_0_4_3; subst e_hE_0_4_3
  have e_hE_0_5_1 := funext hE_0_5_1; subst e_hE_0_5_1
  have e_hE_0_5_2 := funext hE_0_5_2; subst e_hE_0_5_2
  have e_hE_3_14_1 := funext hE_3_14_1; subst e_hE_3_14_1
  have e_hE_3_14_2 := funext hE_3_14_2; subst e_hE_3_14_2
  have e_hE_3_14_3 := funext hE_3_14_3; subst e_hE_3_14_3
  have e_hE_4_4_1 := funext hE_4_4_1; subst e_hE_4_4_1
  have e_hE_4_4_2 := funext hE_4_4_2; subst e_hE_4_4_2
  have e_hE_4_4_3 := funext hE_4_4_3; subst e_hE_4_4_3
  first
    | exact tqi_of ‹TQH _ _ _ _ _ _ _ _ _ _ _› (by omega) (by omega)
    | (have qa := bit_one (s := x18) (t := x19) (c := x21) (v := x13) (one := x20) (by assumption) (by assumption) (by omega) (by omega) (by omega) (by omega)
       have e := (‹x18 = _›)
       exact tqi_skip (v := x12) (w := x13) ‹TQI _ _ _ _ _ _ _ _ _ _ _ _› (by assumption) (Or.inl (fun z => by rw [← e] at z; have := qa.mp z; omega)) (by omega))
    | (have qb := bit_one (s := x9) (t := x22) (c := x24) (v := x13) (one := x23) (by assumption) (by assumption) (by omega) (by omega) (by omega) (by omega)
       exact tqi_skip (v := x12) (w := x13) ‹TQI _ _ _ _ _ _ _ _ _ _ _ _› (by assumption) (Or.inr (qb.mpr (by omega))) (by omega))
    | (have qa := bit_one (s := x18) (t := x19) (c := x21) (v := x13) (one := x20) (by assumption) (by assumption) (by omega) (by omega) (by omega) (by omega)
       have qb := bit_one (s := x9) (t := x22) (c := x24) (v := x13) (one := x23) (by assumption) (by assumption) (by omega) (by omega) (by omega) (by omega)
       have o1 : x25 = 1 := by omega
       subst o1
       exact tqi_step (v := x12) (w := x13) (q := x10) (x := x13) (o := x26) (pv := x12) (l0 := x30) (l1 := x32) ‹TQI _ _ _ _ _ _ _ _ _ _ _ _› ‹WTI _ _ _ _ _ _ _ _› (by omega) (by omega) ‹PNC _ _ _› (by assumption) (by omega) (by omega) (by omega) (by have e := (‹x18 = _›); rw [← e]; exact qa.mpr (by omega)) (fun z => by have := qb.mp z; omega) (by assumption) rfl rfl (by assumption) rfl (by assumption) (by assumption) (by omega) (by assumption) (by assumption) (by omega) (by omega))
  
def o_Pl_walkTree_8 : or_T := (52, 36, [(0, (2, 0, 0, [6])), (1, (0, 0, 23, [])), (2, (0, 0, 22, [])), (3, (2, 0, 0, [3])), (4, (2, 0, 0, [2])), (5, (0, 0, 24, [])), (7, (0, 0, 23, [])), (8, (0, 0, 22, [])), (9, (0, 0, 16777215, [])), (10, (0, 1, 23, [])), (11, (0, 0, 22, [])), (12, (0, 0, 23, [])), (13, (0, 0, 23, [])), (15, (0, 1, 24, [])), (16, (0, 24, 24, [])), (18, (0, 0, 16777215, [])), (19, (0, 0, 16777215, [])), (20, (0, 1, 1, [])), (21, (0, 1, 1, [])), (22, (0, 0, 16777215, [])), (23, (0, 1, 1, [])), (24, (0, 0, 0, [])), (25, (0, 1, 1, [])), (26, (0, 1, 8388608, [])), (27, (0, 0, 16777215, [])), (28, (2, 0, 0, [92])), (29, (2, 0, 0, [91])), (30, (0, 0, 23, [])), (31, (0, 1, 1, [])), (32, (0, 1, 23, [])), (33, (2, 0, 0, [89])), (34, (0, 2, 24, [])), (35, (0, 1, 24, []))], [(9, [33, 6], [2]), (9, [29, 6], [4]), (9, [28, 6], [5]), (9, [17, 14], [14]), (9, [15, 14], [0]), (6, [35, 13], [1]), (6, [34, 10], [1]), (20, [14, 4], [60, 1, 2, 671, 0, 14, 1004]), (24, [3, 14], []), (24, [2, 8], []), (20, [11, 10], [50, 0, 0, 0, 6, 4, 2, 1, 0, 0, 1, 1, 1]), (24, [0, 6], []), (100, [33, 10, 13], []), (20, [6, 14, 4, 9, 8, 10, 5, 11], [60, 1, 2, 683, 1000, 2, 2004]), (20, [14, 4], [60, 1, 2, 671, 0, 14, 1004]), (20, [12, 6, 11], [50, 0, 1, 1002, 1, 2, 1, 0, 3, 1, 2, 1, 2]), (20, [11, 10], [50, 0, 0, 0, 6, 4, 2, 1, 0, 0, 1, 1, 1]), (100, [29, 13, 32], []), (1, [32, 30, 31], []), (10, [30, 29, 12], []), (20, [6, 14, 4, 9, 8, 10, 5, 11], [60, 1, 2, 683, 1000, 2, 2004]), (20, [14, 4], [60, 1, 2, 671, 0, 14, 1004]), (20, [12, 6, 11], [50, 0, 1, 1002, 1, 2, 1, 0, 3, 1, 2, 1, 2]), (20, [11, 10], [50, 0, 0, 0, 6, 4, 2, 1, 0, 0, 1, 1, 1]), (100, [28, 13, 12], []), (13, [27, 9, 26], []), (16, [27, 9, 26], [1]), (16, [26, 25, 13], [3]), (8, [24], [0]), (12, [24, 22], [2]), (16, [24, 22, 23], [0]), (16, [22, 9, 13], [4]), (8, [21], [1]), (12, [21, 19], [2]), (16, [21, 19, 20], [0]), (16, [19, 18, 13], [4]), (10, [18, 17, 12], []), (7, [10, 16], [2]), (7, [13, 15], [2]), (20, [6, 14, 4, 9, 8, 10, 5, 11], [60, 1, 2, 683, 1000, 2, 2004]), (20, [14, 4], [60, 1, 2, 671, 0, 14, 1004]), (20, [12, 6, 11], [50, 0, 1, 1002, 1, 2, 1, 0, 3, 1, 2, 1, 2]), (20, [11, 10], [50, 0, 0, 0, 6, 4, 2, 1, 0, 0, 1, 1, 1]), (20, [6, 14, 4, 9, 8, 10, 5, 11, 13], [60, 1, 5, 857, 1000, 2, 5, 4, 1014, 2004])], [], [], [(20, [6, 14, 4, 27, 8, 34, 5, 11], [60, 1, 2, 683, 1000, 2, 2004]), (20, [12, 6, 11], [50, 0, 1, 1002, 1, 2, 1, 0, 3, 1, 2, 1, 2]), (20, [11, 34], [50, 0, 0, 0, 6, 4, 2, 1, 0, 0, 1, 1, 1]), (20, [6, 14, 4, 27, 8, 34, 5, 11, 35], [60, 1, 5, 857, 1000, 2, 5, 4, 1014, 2004])], [], [(35, 13, 1, 1), (35, 15, -4294967296, 0), (34, 10, 1, 1), (32, 30, 1, 1), (13, 15, -4294967296, -1), (1, 7, -4294967296, 0), (2, 8, -4294967296, 0), (2, 10, -4294967296, -1), (2, 11, -4294967296, 0), (7, 1, -4294967296, 0), (8, 2, -4294967296, 0), (8, 10, -4294967296, -1), (8, 11, -4294967296, 0), (9, 10, -4294967296, 16777213), (11, 10, -4294967296, -1)])
theorem oo_Pl_walkTree_8 {kA : Nat → ClassId} : or_ok PRD kA GG o_Pl_walkTree_8 := by
  refine or_mk fun A ta ws vs hD hth hl => ?_
  intro t0 r0 t1 k1 t2 k2 t3 r3 t4 r4 t5 k5 t7 k7 t8 k8 t9 k9 t10 k10 t11 k11 t12 k12 t13 k13 t15 k15 t16 k16 t18 k18 t19 k19 t20 k20 t21 k21 t22 k22 t23 k23 t24 k24 t25 k25 t26 k26 t27 k27 t28 r28 t29 r29 t30 k30 t31 k31 t32 k32 t33 r33 t34 k34 t35 k35 d0 d1 d2 d3 d4 d5 d6 d7 d8 d9 d10 d11 d12 d13 d14 f0 f1 f2 f3 f4 f5 f6 f7 f8 f9 f10 f11 ta1 w1 le1 s1 f14 f15 f16 f17 ta2 w2 le2 s2 f19 f20 f21 f22 f23 f24 ta3 w3 le3 s3 f26 f27 f28 f29 f30 f31 f32 f33 f34 f35 f36 f37 f38 f39 f40 f41 f42 f43 f44
  replace f0 := shm_129 f0
  replace f1 := shm_107 f1
  replace f2 := shm_109 f2
  replace f3 := shm_116 f3
  replace f4 := shm_175 f4
  replace f5 := shm_4 f5
  replace f6 := shm_4 f6
  replace f7 := shm_432 f7
  replace f8 := shm_5 f8
  replace f9 := shm_5 f9
  replace f10 := shm_409 f10
  replace f11 := shm_5 f11
  have s1 : (∀ b j, w_el ws b j = if b = v_ad (n_v vs 33) ∧ j = (v_iv (n_v vs 10)).toNat then v_iv (n_v vs 13) else w_el w1 b j) ∧ ∀ b k, w_fd ws b k = w_fd w1 b k := s1.2
  replace f14 := shm_437 f14
  replace f15 := shm_432 f15
  replace f16 := shm_441 f16
  replace f17 := shm_409 f17
  have s2 : (∀ b j, w_el w1 b j = if b = v_ad (n_v vs 29) ∧ j = (v_iv (n_v vs 13)).toNat then v_iv (n_v vs 32) else w_el w2 b j) ∧ ∀ b k, w_fd w1 b k = w_fd w2 b k := s2.2
  replace f19 := shm_12 f19
  replace f20 := shm_106 f20
  replace f21 := shm_437 f21
  replace f22 := shm_432 f22
  replace f23 := shm_441 f23
  replace f24 := shm_409 f24
  have s3 : (∀ b j, w_el w2 b j = if b = v_ad (n_v vs 28) ∧ j = (v_iv (n_v vs 13)).toNat then v_iv (n_v vs 12) else w_el w3 b j) ∧ ∀ b k, w_fd w2 b k = w_fd w3 b k := s3.2
  have f26 : v_iv (n_v vs 27) ≤ v_iv (n_v vs 9) + v_iv (n_v vs 26) ∧ v_iv (n_v vs 9) ≤ v_iv (n_v vs 27) ∧ v_iv (n_v vs 26) ≤ v_iv (n_v vs 27) := (fun (h : v_iv (n_v vs 27) ≤ v_iv (n_v vs 9) + v_iv (n_v vs 26) ∧ v_iv (n_v vs 9) ≤ v_iv (n_v vs 27) ∧ v_iv (n_v vs 26) ≤ v_iv (n_v vs 27) ∧ (v_iv (n_v vs 27)).toNat = (v_iv (n_v vs 9)).toNat ||| (v_iv (n_v vs 26)).toNat) => ⟨h.1, h.2.1, h.2.2.1⟩) f26
  replace f27 := shm_372 f27
  replace f28 := shm_367 f28
  replace f29 := shm_210 f29
  replace f30 := shm_382 f30
  replace f31 := shm_11 f31
  replace f32 := shm_13 f32
  replace f33 := shm_154 f33
  replace f34 := shm_382 f34
  replace f35 := shm_11 f35
  replace f36 := shm_13 f36
  replace f37 := shm_106 f37
  replace f38 := shm_6 f38
  replace f39 := shm_6 f39
  replace f40 := shm_437 f40
  replace f41 := shm_432 f41
  replace f42 := shm_441 f42
  replace f43 := shm_409 f43
  replace f44 := shm_442 f44
  have q14 : n_v vs 14 = n_v vs 3 := f8.symm
  have q8 : n_v vs 8 = n_v vs 2 := f9.symm
  have q6 : n_v vs 6 = n_v vs 0 := f11.symm
  simp only [q6, q14, q8] at f0 f1 f2 f3 f4 f7 f14 f15 f16 f21 f22 f23 f40 f41 f42 f44
  have ar_0_2_1 : w_ar w1 (n_v vs 0) 2 = w_ar ws (n_v vs 0) 2 := congrArg v_ad (s1.2 _ _).symm
  have ar_0_2_2 : w_ar w2 (n_v vs 0) 2 = w_ar ws (n_v vs 0) 2 := by rw [← ar_0_2_1]; show v_ad (w_fd w2 _ _) = v_ad (w_fd w1 _ _); rw [s2.2]
  have ar_0_2_3 : w_ar w3 (n_v vs 0) 2 = w_ar ws (n_v vs 0) 2 := by rw [← ar_0_2_2]; show v_ad (w_fd w3 _ _) = v_ad (w_fd w2 _ _); rw [s3.2]
  have cr_0_2 := fdq_93 hD hth r0
  have ar_0_4_1 : w_ar w1 (n_v vs 0) 4 = w_ar ws (n_v vs 0) 4 := congrArg v_ad (s1.2 _ _).symm
  have ar_0_4_2 : w_ar w2 (n_v vs 0) 4 = w_ar ws (n_v vs 0) 4 := by rw [← ar_0_4_1]; show v_ad (w_fd w2 _ _) = v_ad (w_fd w1 _ _); rw [s2.2]
  have ar_0_4_3 : w_ar w3 (n_v vs 0) 4 = w_ar ws (n_v vs 0) 4 := by rw [← ar_0_4_2]; show v_ad (w_fd w3 _ _) = v_ad (w_fd w2 _ _); rw [s3.2]
  have cr_0_4 := fdq_90 hD hth r0
  have ar_0_5_1 : w_ar w1 (n_v vs 0) 5 = w_ar ws (n_v vs 0) 5 := congrArg v_ad (s1.2 _ _).symm
  have ar_0_5_2 : w_ar w2 (n_v vs 0) 5 = w_ar ws (n_v vs 0) 5 := by rw [← ar_0_5_1]; show v_ad (w_fd w2 _ _) = v_ad (w_fd w1 _ _); rw [s2.2]
  have ar_0_5_3 : w_ar w3 (n_v vs 0) 5 = w_ar ws (n_v vs 0) 5 := by rw [← ar_0_5_2]; show v_ad (w_fd w3 _ _) = v_ad (w_fd w2 _ _); rw [s3.2]
  have cr_0_5 := fdq_94 hD hth r0
  have ar_3_14_1 : w_ar w1 (n_v vs 3) 14 = w_ar ws (n_v vs 3) 14 := congrArg v_ad (s1.2 _ _).symm
  have ar_3_14_2 : w_ar w2 (n_v vs 3) 14 = w_ar ws (n_v vs 3) 14 := by rw [← ar_3_14_1]; show v_ad (w_fd w2 _ _) = v_ad (w_fd w1 _ _); rw [s2.2]
  have ar_3_14_3 : w_ar w3 (n_v vs 3) 14 = w_ar ws (n_v vs 3) 14 := by rw [← ar_3_14_2]; show v_ad (w_fd w3 _ _) = v_ad (w_fd w2 _ _); rw [s3.2]
  have cr_3_14 := fdq_79 hD hth r3
  have ar_4_4_1 : w_ar w1 (n_v vs 4) 4 = w_ar ws (n_v vs 4) 4 := congrArg v_ad (s1.2 _ _).symm
  have ar_4_4_2 : w_ar w2 (n_v vs 4) 4 = w_ar ws (n_v vs 4) 4 := by rw [← ar_4_4_1]; show v_ad (w_fd w2 _ _) = v_ad (w_fd w1 _ _); rw [s2.2]
  have ar_4_4_3 : w_ar w3 (n_v vs 4) 4 = w_ar ws (n_v vs 4) 4 := by rw [← ar_4_4_2]; show v_ad (w_fd w3 _ _) = v_ad (w_fd w2 _ _); rw [s3.2]
  have cr_4_4 := fdq_91 hD hth r4
  have ad_33 : v_ad (n_v vs 33) = w_ar ws (n_v vs 0) 2 := congrArg v_ad f0
  have ad_29 : v_ad (n_v vs 29) = w_ar ws (n_v vs 0) 4 := congrArg v_ad f1
  have ad_28 : v_ad (n_v vs 28) = w_ar ws (n_v vs 0) 5 := congrArg v_ad f2
  have ad_17 : v_ad (n_v vs 17) = w_ar ws (n_v vs 3) 14 := congrArg v_ad f3
  have g4 : v_iv (n_v vs 15) = w_fi ws (n_v vs 3) 0 := congrArg v_iv f4
  simp only [ar_0_2_1, ar_4_4_1, ar_3_14_1, ad_29] at f14 f15 f16 f20
  have h20 : v_iv (n_v vs 30) = w_ei w2 (w_ar ws (n_v vs 0) 4) (v_iv (n_v vs 12)) := f20
  simp only [ar_0_2_2, ar_4_4_2, ar_3_14_2, ad_17] at f21 f22 f23 f37
  have h37 : v_iv (n_v vs 18) = w_ei w3 (w_ar ws (n_v vs 3) 14) (v_iv (n_v vs 12)) := f37
  simp only [ar_0_2_3, ar_4_4_3, ar_3_14_3, ar_0_4_3, ar_0_5_3] at f40 f41 f42 f44
  have fe_3_0_1 : w_fi ws (n_v vs 3) 0 = w_fi w1 (n_v vs 3) 0 := congrArg v_iv (s1.2 _ _)
  have fe_3_0_2 : w_fi w1 (n_v vs 3) 0 = w_fi w2 (n_v vs 3) 0 := congrArg v_iv (s2.2 _ _)
  have fe_3_0_3 : w_fi w2 (n_v vs 3) 0 = w_fi w3 (n_v vs 3) 0 := congrArg v_iv (s3.2 _ _)
  have hE_0_2_1 : ∀ j : Int, 0 ≤ j → (j = v_iv (n_v vs 10) → w_ei ws (w_ar ws (n_v vs 0) 2) j = v_iv (n_v vs 13)) ∧ (j ≠ v_iv (n_v vs 10) → w_ei ws (w_ar ws (n_v vs 0) 2) j = w_ei w1 (w_ar ws (n_v vs 0) 2) j) := fun j hj => ⟨fun h => by unfold w_ei; rw [s1.1, if_pos ⟨ad_33.symm, by rw [h]⟩], fun h => by unfold w_ei; rw [s1.1, if_neg (fun e => h (by have := e.2; omega))]⟩
  have hE_0_2_2 : ∀ j : Int, w_ei w1 (w_ar ws (n_v vs 0) 2) j = w_ei w2 (w_ar ws (n_v vs 0) 2) j := el_kp s2.1 r29 cr_0_2 (by decide)
  have hE_0_2_3 : ∀ j : Int, w_ei w2 (w_ar ws (n_v vs 0) 2) j = w_ei w3 (w_ar ws (n_v vs 0) 2) j := el_kp s3.1 r28 cr_0_2 (by decide)
  have hK_0_2 := elq_42 hD hth cr_0_2
  have hE_0_4_1 : ∀ j : Int, w_ei ws (w_ar ws (n_v vs 0) 4) j = w_ei w1 (w_ar ws (n_v vs 0) 4) j := el_kp s1.1 r33 cr_0_4 (by decide)
  have hE_0_4_2 : ∀ j : Int, 0 ≤ j → (j = v_iv (n_v vs 13) → w_ei w1 (w_ar ws (n_v vs 0) 4) j = v_iv (n_v vs 32)) ∧ (j ≠ v_iv (n_v vs 13) → w_ei w1 (w_ar ws (n_v vs 0) 4) j = w_ei w2 (w_ar ws (n_v vs 0) 4) j) := fun j hj => ⟨fun h => by unfold w_ei; rw [s2.1, if_pos ⟨ad_29.symm, by rw [h]⟩], fun h => by unfold w_ei; rw [s2.1, if_neg (fun e => h (by have := e.2; omega))]⟩
  have hE_0_4_3 : ∀ j : Int, w_ei w2 (w_ar ws (n_v vs 0) 4) j = w_ei w3 (w_ar ws (n_v vs 0) 4) j := el_kp s3.1 r28 cr_0_4 (by decide)
  have hK_0_4 := elq_40 hD hth cr_0_4
  have hE_0_5_1 : ∀ j : Int, w_ei ws (w_ar ws (n_v vs 0) 5) j = w_ei w1 (w_ar ws (n_v vs 0) 5) j := el_kp s1.1 r33 cr_0_5 (by decide)
  have hE_0_5_2 : ∀ j : Int, w_ei w1 (w_ar ws (n_v vs 0) 5) j = w_ei w2 (w_ar ws (n_v vs 0) 5) j := el_kp s2.1 r29 cr_0_5 (by decide)
  have hE_0_5_3 : ∀ j : Int, 0 ≤ j → (j = v_iv (n_v vs 13) → w_ei w2 (w_ar ws (n_v vs 0) 5) j = v_iv (n_v vs 12)) ∧ (j ≠ v_iv (n_v vs 13) → w_ei w2 (w_ar ws (n_v vs 0) 5) j = w_ei w3 (w_ar ws (n_v vs 0) 5) j) := fun j hj => ⟨fun h => by unfold w_ei; rw [s3.1, if_pos ⟨ad_28.symm, by rw [h]⟩], fun h => by unfold w_ei; rw [s3.1, if_neg (fun e => h (by have := e.2; omega))]⟩
  have hK_0_5 := elq_43 hD hth cr_0_5
  have hE_3_14_1 : ∀ j : Int, w_ei ws (w_ar ws (n_v vs 3) 14) j = w_ei w1 (w_ar ws (n_v vs 3) 14) j := el_kp s1.1 r33 cr_3_14 (by decide)
  have hE_3_14_2 : ∀ j : Int, w_ei w1 (w_ar ws (n_v vs 3) 14) j = w_ei w2 (w_ar ws (n_v vs 3) 14) j := el_kp s2.1 r29 cr_3_14 (by decide)
  have hE_3_14_3 : ∀ j : Int, w_ei w2 (w_ar ws (n_v vs 3) 14) j = w_ei w3 (w_ar ws (n_v vs 3) 14) j := el_kp s3.1 r28 cr_3_14 (by decide)
  have hK_3_14 := elq_24 hD hth cr_3_14
  have hE_4_4_1 : ∀ j : Int, w_ei ws (w_ar ws (n_v vs 4) 4) j = w_ei w1 (w_ar ws (n_v vs 4) 4) j := el_kp s1.1 r33 cr_4_4 (by decide)
  have hE_4_4_2 : ∀ j : Int, w_ei w1 (w_ar ws (n_v vs 4) 4) j = w_ei w2 (w_ar ws (n_v vs 4) 4) j := el_kp s2.1 r29 cr_4_4 (by decide)
  have hE_4_4_3 : ∀ j : Int, w_ei w2 (w_ar ws (n_v vs 4) 4) j = w_ei w3 (w_ar ws (n_v vs 4) 4) j := el_kp s3.1 r28 cr_4_4 (by decide)
  have hK_4_4 := elq_28 hD hth cr_4_4
  have kz_3_0 := fdq_23 hD hth r3
  have nf0 : fc_1 PRD (20, [6, 14, 4, 27, 8, 34, 5, 11], [60, 1, 2, 683, 1000, 2, 2004]) ws (vs) := by
    refine ⟨nf_in hl rfl, sgq_437 ?_⟩
    · show WTI (w_fi ws (n_v vs 14) 0) (w_ei ws (w_ar ws (n_v vs 6) 2)) (w_ei ws (w_ar ws (n_v vs 4) 4)) (v_iv (n_v vs 27)) (v_iv (n_v vs 8)) (v_iv (n_v vs 34)) (v_iv (n_v vs 5)) (v_iv (n_v vs 11))
      simp only [q14, q8, q6]
      exact vc_Pl_walkTree_8_0 (v_iv (n_v vs 1)) (v_iv (n_v vs 2)) (v_iv (n_v vs 5)) (v_iv (n_v vs 7)) (v_iv (n_v vs 8)) (v_iv (n_v vs 9)) (v_iv (n_v vs 10)) (v_iv (n_v vs 11)) (v_iv (n_v vs 12)) (v_iv (n_v vs 13)) (v_iv (n_v vs 15)) (v_iv (n_v vs 16)) (v_iv (n_v vs 18)) (v_iv (n_v vs 19)) (v_iv (n_v vs 20)) (v_iv (n_v vs 21)) (v_iv (n_v vs 22)) (v_iv (n_v vs 23)) (v_iv (n_v vs 24)) (v_iv (n_v vs 25)) (v_iv (n_v vs 26)) (v_iv (n_v vs 27)) (v_iv (n_v vs 30)) (v_iv (n_v vs 31)) (v_iv (n_v vs 32)) (v_iv (n_v vs 34)) (v_iv (n_v vs 35)) (w_fi ws (n_v vs 3) 0) (w_ei ws (w_ar ws (n_v vs 3) 14)) (w_ei ws (w_ar ws (n_v vs 4) 4)) (w_ei w1 (w_ar ws (n_v vs 0) 2)) (w_ei w1 (w_ar ws (n_v vs 4) 4)) (w_fi w1 (n_v vs 3) 0) (w_ei w1 (w_ar ws (n_v vs 3) 14)) (w_ei w2 (w_ar ws (n_v vs 0) 4)) (w_ei w2 (w_ar ws (n_v vs 0) 2)) (w_ei w2 (w_ar ws (n_v vs 4) 4)) (w_fi w2 (n_v vs 3) 0) (w_ei w2 (w_ar ws (n_v vs 3) 14)) (w_ei w3 (w_ar ws (n_v vs 3) 14)) (w_ei w3 (w_ar ws (n_v vs 0) 2)) (w_ei w3 (w_ar ws (n_v vs 4) 4)) (w_fi w3 (n_v vs 3) 0) (w_ei w3 (w_ar ws (n_v vs 0) 5)) (w_ei w3 (w_ar ws (n_v vs 0) 4)) (w_ei ws (w_ar ws (n_v vs 0) 2)) (w_ei ws (w_ar ws (n_v vs 0) 4)) (w_ei w1 (w_ar ws (n_v vs 0) 4)) (w_ei ws (w_ar ws (n_v vs 0) 5)) (w_ei w1 (w_ar ws (n_v vs 0) 5)) (w_ei w2 (w_ar ws (n_v vs 0) 5)) k1 k2 k5 k7 k8 k9 k10 k11 k12 k13 k15 k16 k18 k19 k20 k21 k22 k23 k24 k25 k26 k27 k30 k31 k32 k34 k35 d0 d1 d2 d3 d4 d5 d6 d7 d8 d9 d10 d11 d12 d13 d14 g4 f5 f6 f7 f10 f14 f15 f16 f17 f19 h20 f21 f22 f23 f24 f26 f27 f28 f29 f30 f31 f32 f33 f34 f35 f36 h37 f38 f39 f40 f41 f42 f43 f44 fe_3_0_1 fe_3_0_2 fe_3_0_3 hE_0_2_1 hE_0_2_2 hE_0_2_3 hK_0_2 hE_0_4_1 hE_0_4_2 hE_0_4_3 hK_0_4 hE_0_5_1 hE_0_5_2 hE_0_5_3 hK_0_5 hE_3_14_1 hE_3_14_2 hE_3_14_3 hK_3_14 hE_4_4_1 hE_4_4_2 hE_4_4_3 hK_4_4 kz_3_0
  have nf1 : fc_1 PRD (20, [12, 6, 11], [50, 0, 1, 1002, 1, 2, 1, 0, 3, 1, 2, 1, 2]) ws (vs) := by
    refine ⟨nf_in hl rfl, sgq_441 ?_⟩
    · show v_iv (n_v vs 12) = w_ei ws (w_ar ws (n_v vs 6) 2) (v_iv (n_v vs 11))
      rw [q6]
      exact vc_Pl_walkTree_8_1 (v_iv (n_v vs 1)) (v_iv (n_v vs 2)) (v_iv (n_v vs 5)) (v_iv (n_v vs 7)) (v_iv (n_v vs 8)) (v_iv (n_v vs 9)) (v_iv (n_v vs 10)) (v_iv (n_v vs 11)) (v_iv (n_v vs 12)) (v_iv (n_v vs 13)) (v_iv (n_v vs 15)) (v_iv (n_v vs 16)) (v_iv (n_v vs 18)) (v_iv (n_v vs 19)) (v_iv (n_v vs 20)) (v_iv (n_v vs 21)) (v_iv (n_v vs 22)) (v_iv (n_v vs 23)) (v_iv (n_v vs 24)) (v_iv (n_v vs 25)) (v_iv (n_v vs 26)) (v_iv (n_v vs 27)) (v_iv (n_v vs 30)) (v_iv (n_v vs 31)) (v_iv (n_v vs 32)) (v_iv (n_v vs 34)) (v_iv (n_v vs 35)) (w_fi ws (n_v vs 3) 0) (w_ei ws (w_ar ws (n_v vs 3) 14)) (w_ei ws (w_ar ws (n_v vs 4) 4)) (w_ei w1 (w_ar ws (n_v vs 0) 2)) (w_ei w1 (w_ar ws (n_v vs 4) 4)) (w_fi w1 (n_v vs 3) 0) (w_ei w1 (w_ar ws (n_v vs 3) 14)) (w_ei w2 (w_ar ws (n_v vs 0) 4)) (w_ei w2 (w_ar ws (n_v vs 0) 2)) (w_ei w2 (w_ar ws (n_v vs 4) 4)) (w_fi w2 (n_v vs 3) 0) (w_ei w2 (w_ar ws (n_v vs 3) 14)) (w_ei w3 (w_ar ws (n_v vs 3) 14)) (w_ei w3 (w_ar ws (n_v vs 0) 2)) (w_ei w3 (w_ar ws (n_v vs 4) 4)) (w_fi w3 (n_v vs 3) 0) (w_ei w3 (w_ar ws (n_v vs 0) 5)) (w_ei w3 (w_ar ws (n_v vs 0) 4)) (w_ei ws (w_ar ws (n_v vs 0) 2)) (w_ei ws (w_ar ws (n_v vs 0) 4)) (w_ei w1 (w_ar ws (n_v vs 0) 4)) (w_ei ws (w_ar ws (n_v vs 0) 5)) (w_ei w1 (w_ar ws (n_v vs 0) 5)) (w_ei w2 (w_ar ws (n_v vs 0) 5)) k1 k2 k5 k7 k8 k9 k10 k11 k12 k13 k15 k16 k18 k19 k20 k21 k22 k23 k24 k25 k26 k27 k30 k31 k32 k34 k35 d0 d1 d2 d3 d4 d5 d6 d7 d8 d9 d10 d11 d12 d13 d14 g4 f5 f6 f7 f10 f14 f15 f16 f17 f19 h20 f21 f22 f23 f24 f26 f27 f28 f29 f30 f31 f32 f33 f34 f35 f36 h37 f38 f39 f40 f41 f42 f43 f44 fe_3_0_1 fe_3_0_2 fe_3_0_3 hE_0_2_1 hE_0_2_2 hE_0_2_3 hK_0_2 hE_0_4_1 hE_0_4_2 hE_0_4_3 hK_0_4 hE_0_5_1 hE_0_5_2 hE_0_5_3 hK_0_5 hE_3_14_1 hE_3_14_2 hE_3_14_3 hK_3_14 hE_4_4_1 hE_4_4_2 hE_4_4_3 hK_4_4 kz_3_0
  have nf2 : fc_1 PRD (20, [11, 34], [50, 0, 0, 0, 6, 4, 2, 1, 0, 0, 1, 1, 1]) ws (vs) := ⟨nf_in hl rfl, sgq_409 (vc_Pl_walkTree_8_2 (v_iv (n_v vs 1)) (v_iv (n_v vs 2)) (v_iv (n_v vs 5)) (v_iv (n_v vs 7)) (v_iv (n_v vs 8)) (v_iv (n_v vs 9)) (v_iv (n_v vs 10)) (v_iv (n_v vs 11)) (v_iv (n_v vs 12)) (v_iv (n_v vs 13)) (v_iv (n_v vs 15)) (v_iv (n_v vs 16)) (v_iv (n_v vs 18)) (v_iv (n_v vs 19)) (v_iv (n_v vs 20)) (v_iv (n_v vs 21)) (v_iv (n_v vs 22)) (v_iv (n_v vs 23)) (v_iv (n_v vs 24)) (v_iv (n_v vs 25)) (v_iv (n_v vs 26)) (v_iv (n_v vs 27)) (v_iv (n_v vs 30)) (v_iv (n_v vs 31)) (v_iv (n_v vs 32)) (v_iv (n_v vs 34)) (v_iv (n_v vs 35)) (w_fi ws (n_v vs 3) 0) (w_ei ws (w_ar ws (n_v vs 3) 14)) (w_ei ws (w_ar ws (n_v vs 4) 4)) (w_ei w1 (w_ar ws (n_v vs 0) 2)) (w_ei w1 (w_ar ws (n_v vs 4) 4)) (w_fi w1 (n_v vs 3) 0) (w_ei w1 (w_ar ws (n_v vs 3) 14)) (w_ei w2 (w_ar ws (n_v vs 0) 4)) (w_ei w2 (w_ar ws (n_v vs 0) 2)) (w_ei w2 (w_ar ws (n_v vs 4) 4)) (w_fi w2 (n_v vs 3) 0) (w_ei w2 (w_ar ws (n_v vs 3) 14)) (w_ei w3 (w_ar ws (n_v vs 3) 14)) (w_ei w3 (w_ar ws (n_v vs 0) 2)) (w_ei w3 (w_ar ws (n_v vs 4) 4)) (w_fi w3 (n_v vs 3) 0) (w_ei w3 (w_ar ws (n_v vs 0) 5)) (w_ei w3 (w_ar ws (n_v vs 0) 4)) (w_ei ws (w_ar ws (n_v vs 0) 2)) (w_ei ws (w_ar ws (n_v vs 0) 4)) (w_ei w1 (w_ar ws (n_v vs 0) 4)) (w_ei ws (w_ar ws (n_v vs 0) 5)) (w_ei w1 (w_ar ws (n_v vs 0) 5)) (w_ei w2 (w_ar ws (n_v vs 0) 5)) k1 k2 k5 k7 k8 k9 k10 k11 k12 k13 k15 k16 k18 k19 k20 k21 k22 k23 k24 k25 k26 k27 k30 k31 k32 k34 k35 d0 d1 d2 d3 d4 d5 d6 d7 d8 d9 d10 d11 d12 d13 d14 g4 f5 f6 f7 f10 f14 f15 f16 f17 f19 h20 f21 f22 f23 f24 f26 f27 f28 f29 f30 f31 f32 f33 f34 f35 f36 h37 f38 f39 f40 f41 f42 f43 f44 fe_3_0_1 fe_3_0_2 fe_3_0_3 hE_0_2_1 hE_0_2_2 hE_0_2_3 hK_0_2 hE_0_4_1 hE_0_4_2 hE_0_4_3 hK_0_4 hE_0_5_1 hE_0_5_2 hE_0_5_3 hK_0_5 hE_3_14_1 hE_3_14_2 hE_3_14_3 hK_3_14 hE_4_4_1 hE_4_4_2 hE_4_4_3 hK_4_4 kz_3_0)⟩
  have nf3 : fc_1 PRD (20, [6, 14, 4, 27, 8, 34, 5, 11, 35], [60, 1, 5, 857, 1000, 2, 5, 4, 1014, 2004]) ws (vs) := by
    refine ⟨nf_in hl rfl, sgq_442 ?_⟩
    · show TQI (w_fi ws (n_v vs 14) 0) (w_ei ws (w_ar ws (n_v vs 6) 2)) (w_ei ws (w_ar ws (n_v vs 6) 5)) (w_ei ws (w_ar ws (n_v vs 6) 4)) (w_ei ws (w_ar ws (n_v vs 14) 14)) (w_ei ws (w_ar ws (n_v vs 4) 4)) (v_iv (n_v vs 27)) (v_iv (n_v vs 8)) (v_iv (n_v vs 34)) (v_iv (n_v vs 5)) (v_iv (n_v vs 11)) (v_iv (n_v vs 35))
      simp only [q14, q8, q6]
      exact vc_Pl_walkTree_8_3 (v_iv (n_v vs 1)) (v_iv (n_v vs 2)) (v_iv (n_v vs 5)) (v_iv (n_v vs 7)) (v_iv (n_v vs 8)) (v_iv (n_v vs 9)) (v_iv (n_v vs 10)) (v_iv (n_v vs 11)) (v_iv (n_v vs 12)) (v_iv (n_v vs 13)) (v_iv (n_v vs 15)) (v_iv (n_v vs 16)) (v_iv (n_v vs 18)) (v_iv (n_v vs 19)) (v_iv (n_v vs 20)) (v_iv (n_v vs 21)) (v_iv (n_v vs 22)) (v_iv (n_v vs 23)) (v_iv (n_v vs 24)) (v_iv (n_v vs 25)) (v_iv (n_v vs 26)) (v_iv (n_v vs 27)) (v_iv (n_v vs 30)) (v_iv (n_v vs 31)) (v_iv (n_v vs 32)) (v_iv (n_v vs 34)) (v_iv (n_v vs 35)) (w_fi ws (n_v vs 3) 0) (w_ei ws (w_ar ws (n_v vs 3) 14)) (w_ei ws (w_ar ws (n_v vs 4) 4)) (w_ei w1 (w_ar ws (n_v vs 0) 2)) (w_ei w1 (w_ar ws (n_v vs 4) 4)) (w_fi w1 (n_v vs 3) 0) (w_ei w1 (w_ar ws (n_v vs 3) 14)) (w_ei w2 (w_ar ws (n_v vs 0) 4)) (w_ei w2 (w_ar ws (n_v vs 0) 2)) (w_ei w2 (w_ar ws (n_v vs 4) 4)) (w_fi w2 (n_v vs 3) 0) (w_ei w2 (w_ar ws (n_v vs 3) 14)) (w_ei w3 (w_ar ws (n_v vs 3) 14)) (w_ei w3 (w_ar ws (n_v vs 0) 2)) (w_ei w3 (w_ar ws (n_v vs 4) 4)) (w_fi w3 (n_v vs 3) 0) (w_ei w3 (w_ar ws (n_v vs 0) 5)) (w_ei w3 (w_ar ws (n_v vs 0) 4)) (w_ei ws (w_ar ws (n_v vs 0) 2)) (w_ei ws (w_ar ws (n_v vs 0) 4)) (w_ei w1 (w_ar ws (n_v vs 0) 4)) (w_ei ws (w_ar ws (n_v vs 0) 5)) (w_ei w1 (w_ar ws (n_v vs 0) 5)) (w_ei w2 (w_ar ws (n_v vs 0) 5)) k1 k2 k5 k7 k8 k9 k10 k11 k12 k13 k15 k16 k18 k19 k20 k21 k22 k23 k24 k25 k26 k27 k30 k31 k32 k34 k35 d0 d1 d2 d3 d4 d5 d6 d7 d8 d9 d10 d11 d12 d13 d14 g4 f5 f6 f7 f10 f14 f15 f16 f17 f19 h20 f21 f22 f23 f24 f26 f27 f28 f29 f30 f31 f32 f33 f34 f35 f36 h37 f38 f39 f40 f41 f42 f43 f44 fe_3_0_1 fe_3_0_2 fe_3_0_3 hE_0_2_1 hE_0_2_2 hE_0_2_3 hK_0_2 hE_0_4_1 hE_0_4_2 hE_0_4_3 hK_0_4 hE_0_5_1 hE_0_5_2 hE_0_5_3 hK_0_5 hE_3_14_1 hE_3_14_2 hE_3_14_3 hK_3_14 hE_4_4_1 hE_4_4_2 hE_4_4_3 hK_4_4 kz_3_0
  refine ⟨(fun _ h => (by cases h)), [], trivial, ?_, (fun _ h => (by cases h))⟩
  rw [List.append_nil]
  exact List.forall_mem_cons.mpr ⟨⟨show (20 : Nat) < 100 from by decide, nf0⟩, List.forall_mem_cons.mpr ⟨⟨show (20 : Nat) < 100 from by decide, nf1⟩, List.forall_mem_cons.mpr ⟨⟨show (20 : Nat) < 100 from by decide, nf2⟩, List.forall_mem_cons.mpr ⟨⟨show (20 : Nat) < 100 from by decide, nf3⟩, (fun _ h => (by cases h))⟩⟩⟩⟩
def n_Pl_walkTree_an : List an_T := [(33, [(0, (2, 0, 0, [6])), (1, (0, 0, 23, [])), (2, (0, 0, 23, [])), (3, (0, 0, 16777215, [])), (4, (0, 1, 24, [])), (5, (0, 0, 24, []))], [], (0, 0), [(0, 0, 99967), (1, 11, 24), (0, 0, 100000), (0, 0, 0), (0, 0, 0)], [(1, 7, (Int.negSucc 999999999999), 0), (2, 8, (Int.negSucc 999999999999), 0), (2, 9, (Int.negSucc 999999999999), 22), (2, 10, (Int.negSucc 999999999999), (Int.negSucc 0)), (2, 11, (Int.negSucc 999999999999), 0), (7, 1, (Int.negSucc 999999999999), 0), (8, 2, (Int.negSucc 999999999999), 0), (8, 9, (Int.negSucc 999999999999), 22), (8, 10, (Int.negSucc 999999999999), (Int.negSucc 0)), (8, 11, (Int.negSucc 999999999999), 0), (9, 10, (Int.negSucc 999999999999), 16777213), (9, 11, (Int.negSucc 999999999999), 16777214), (10, 11, (Int.negSucc 999999999999), 23), (11, 10, (Int.negSucc 999999999999), 0)], [((0, 0), (2, 0, 0, [3]))], [(2, 0, 0, [6]), (0, 0, 23, []), (0, 0, 23, []), (2, 0, 0, [3]), (2, 0, 0, [2]), (0, 0, 24, [])], 0, [], [(20, [6, 12, 4, 9, 8, 10, 5, 11], [60, 1, 2, 683, 1000, 2, 2004]), (20, [12, 4], [60, 1, 2, 671, 0, 14, 1004]), (24, [3, 12], []), (24, [2, 8], []), (20, [6, 12, 4, 9, 8, 10, 5, 11], [60, 1, 5, 858, 1000, 2, 5, 4, 1014, 2004]), (24, [0, 6], []), (24, [1, 7], []), (24, [2, 8], [])]), (52, [(0, (2, 0, 0, [6])), (1, (0, 0, 23, [])), (2, (0, 0, 23, [])), (3, (0, 0, 16777215, [])), (4, (0, 1, 24, [])), (5, (0, 0, 23, [])), (6, (0, 0, 23, [])), (7, (0, 0, 24, []))], [], (0, 0), [(0, 0, 99967), (1, 11, 24), (0, 0, 99948), (1, 13, 24), (0, 0, 100000)], [(1, 7, (Int.negSucc 999999999999), 0), (2, 8, (Int.negSucc 999999999999), 0), (2, 9, (Int.negSucc 999999999999), 22), (2, 10, (Int.negSucc 999999999999), (Int.negSucc 0)), (2, 11, (Int.negSucc 999999999999), 0), (7, 1, (Int.negSucc 999999999999), 0), (8, 2, (Int.negSucc 999999999999), 0), (8, 9, (Int.negSucc 999999999999), 22), (8, 10, (Int.negSucc 999999999999), (Int.negSucc 0)), (8, 11, (Int.negSucc 999999999999), 0), (9, 10, (Int.negSucc 999999999999), 16777213), (11, 10, (Int.negSucc 999999999999), (Int.negSucc 0))], [((0, 0), (2, 0, 0, [3]))], [(2, 0, 0, [6]), (0, 0, 23, []), (0, 0, 23, []), (2, 0, 0, [3]), (2, 0, 0, [2]), (0, 0, 24, [])], 0, [], [(20, [6, 14, 4, 9, 8, 10, 5, 11], [60, 1, 2, 683, 1000, 2, 2004]), (20, [14, 4], [60, 1, 2, 671, 0, 14, 1004]), (24, [3, 14], []), (24, [2, 8], []), (20, [12, 6, 11], [50, 0, 1, 1002, 1, 2, 1, 0, 3, 1, 2, 1, 2]), (20, [11, 10], [50, 0, 0, 0, 6, 4, 2, 1, 0, 0, 1, 1, 1]), (20, [6, 14, 4, 9, 8, 10, 5, 11, 13], [60, 1, 5, 857, 1000, 2, 5, 4, 1014, 2004]), (24, [0, 6], []), (24, [1, 7], []), (24, [2, 8], [])])]
def t_Pl_walkTree_ct : ct_L := []
set_option maxRecDepth 100000 in
theorem c_Pl_walkTree {l : Launch} {D : va_G} {kA : Nat → ClassId} : ct_ok PRD l D kA GG y_Pl_walkTree z_Pl_walkTree e_Pl_walkTree := chk_all_ok (FT := [(9, 6, 0), (19, 6, 2), (26, 6, 4), (29, 6, 5), (74, 3, 0), (138, 3, 14)]) (PT := []) (CT := t_Pl_walkTree_ct) (KT := []) (NT := []) (AN := n_Pl_walkTree_an) (OT := [o_Pl_walkTree_0, o_Pl_walkTree_1, o_Pl_walkTree_2, o_Pl_walkTree_3, o_Pl_walkTree_4, o_Pl_walkTree_5, o_Pl_walkTree_6, o_Pl_walkTree_7, o_Pl_walkTree_8]) 5 392 (List.forall_mem_cons.mpr ⟨oo_Pl_walkTree_0, List.forall_mem_cons.mpr ⟨oo_Pl_walkTree_1, List.forall_mem_cons.mpr ⟨oo_Pl_walkTree_2, List.forall_mem_cons.mpr ⟨oo_Pl_walkTree_3, List.forall_mem_cons.mpr ⟨oo_Pl_walkTree_4, List.forall_mem_cons.mpr ⟨oo_Pl_walkTree_5, List.forall_mem_cons.mpr ⟨oo_Pl_walkTree_6, List.forall_mem_cons.mpr ⟨oo_Pl_walkTree_7, List.forall_mem_cons.mpr ⟨oo_Pl_walkTree_8, List.forall_mem_nil _⟩⟩⟩⟩⟩⟩⟩⟩⟩) (by decide +kernel) ⟨List.forall_mem_cons.mpr ⟨gf_Pl_9, List.forall_mem_cons.mpr ⟨gf_Pl_19, List.forall_mem_cons.mpr ⟨gf_Pl_26, List.forall_mem_cons.mpr ⟨gf_Pl_29, List.forall_mem_cons.mpr ⟨gf_Pl_74, List.forall_mem_cons.mpr ⟨gf_Pl_138, List.forall_mem_nil _⟩⟩⟩⟩⟩⟩, List.forall_mem_nil _, List.forall_mem_nil _, List.forall_mem_nil _, List.forall_mem_nil _, GG_pl⟩ (by decide +kernel)
set_option maxHeartbeats 4000000 in
theorem vc_Pn_leftFace_0_0 (x2 : Int) (x11 : Int) (x12 : Int) (x13 : Int) (x14 : Int) (x15 : Int) (faceOf_0 : Int → Int) (k2 : 1 ≤ x2 ∧ x2 ≤ 47) (k11 : 2 ≤ x11 ∧ x11 ≤ 2) (k12 : 2 ≤ x12 ∧ x12 ≤ 94) (k13 : 1 ≤ x13 ∧ x13 ≤ 1) (k14 : 3 ≤ x14 ∧ x14 ≤ 95) (k15 : (-1) ≤ x15 ∧ x15 ≤ 143) (d0 : x12 + 1 ≤ x14 ∧ x14 ≤ x12 + 1) (h0 : x15 = faceOf_0 (x14)) (f1 : x14 = x12 + x13) (f2 : x12 = 2 * x2) (hK_0_16 : ∀ j : Int, 0 ≤ j → j < 144 → (-1) ≤ faceOf_0 j ∧ faceOf_0 j ≤ 143) : LFA (faceOf_0) (x2) (x15) := by
  first
    | exact lfa_0 (by assumption) (by omega)
    | exact lfa_1 (by assumption) (by omega)
  
def o_Pn_leftFace_0 : or_T := (45, 16, [(0, (2, 0, 0, [5])), (2, (0, 1, 47, [])), (11, (0, 2, 2, [])), (12, (0, 2, 94, [])), (13, (0, 1, 1, [])), (14, (0, 3, 95, [])), (15, (0, -1, 143, []))], [(10, [15, 10, 14], []), (1, [14, 12, 13], []), (3, [12, 11, 2], []), (9, [10, 0], [16])], [], [], [(20, [0, 2, 15], [60, 0, 1, 640, 16])], [], [(14, 12, 1, 1)])
theorem oo_Pn_leftFace_0 {kA : Nat → ClassId} : or_ok PRD kA GG o_Pn_leftFace_0 := by
  refine or_mk fun A ta ws vs hD hth hl => ?_
  intro t0 r0 t2 k2 t11 k11 t12 k12 t13 k13 t14 k14 t15 k15 d0 f0 f1 f2 f3
  replace f0 := shm_106 f0
  replace f2 := shm_38 f2
  rw [show v_iv (n_v vs 11) = 2 from by omega] at f2
  replace f3 := shm_188 f3
  have cr_0_16 := fdq_95 hD hth r0
  have ad_10 : v_ad (n_v vs 10) = w_ar ws (n_v vs 0) 16 := congrArg v_ad f3
  simp only [ad_10] at f0
  have h0 : v_iv (n_v vs 15) = w_ei ws (w_ar ws (n_v vs 0) 16) (v_iv (n_v vs 14)) := f0
  have hK_0_16 := elq_44 hD hth cr_0_16
  have nf0 : fc_1 PRD (20, [0, 2, 15], [60, 0, 1, 640, 16]) ws (vs) := ⟨nf_in hl rfl, sgq_443 (vc_Pn_leftFace_0_0 (v_iv (n_v vs 2)) (v_iv (n_v vs 11)) (v_iv (n_v vs 12)) (v_iv (n_v vs 13)) (v_iv (n_v vs 14)) (v_iv (n_v vs 15)) (w_ei ws (w_ar ws (n_v vs 0) 16)) k2 k11 k12 k13 k14 k15 d0 h0 (shm_12 f1) f2 hK_0_16)⟩
  refine ⟨(fun _ h => (by cases h)), [], trivial, ?_, (fun _ h => (by cases h))⟩
  rw [List.append_nil]
  exact List.forall_mem_cons.mpr ⟨⟨show (20 : Nat) < 100 from by decide, nf0⟩, (fun _ h => (by cases h))⟩
set_option maxHeartbeats 4000000 in
theorem vc_Pn_leftFace_1_0 (x2 : Int) (x11 : Int) (x12 : Int) (x13 : Int) (faceOf_0 : Int → Int) (k2 : 1 ≤ x2 ∧ x2 ≤ 47) (k11 : 2 ≤ x11 ∧ x11 ≤ 2) (k12 : 2 ≤ x12 ∧ x12 ≤ 94) (k13 : (-1) ≤ x13 ∧ x13 ≤ 143) (h0 : x13 = faceOf_0 (x12)) (f1 : x12 = 2 * x2) (hK_0_16 : ∀ j : Int, 0 ≤ j → j < 144 → (-1) ≤ faceOf_0 j ∧ faceOf_0 j ≤ 143) : LFA (faceOf_0) (x2) (x13) := by
  first
    | exact lfa_0 (by assumption) (by omega)
    | exact lfa_1 (by assumption) (by omega)
  
def o_Pn_leftFace_1 : or_T := (45, 14, [(0, (2, 0, 0, [5])), (2, (0, 1, 47, [])), (11, (0, 2, 2, [])), (12, (0, 2, 94, [])), (13, (0, -1, 143, []))], [(10, [13, 10, 12], []), (3, [12, 11, 2], []), (9, [10, 0], [16])], [], [], [(20, [0, 2, 13], [60, 0, 1, 640, 16])], [], [])
theorem oo_Pn_leftFace_1 {kA : Nat → ClassId} : or_ok PRD kA GG o_Pn_leftFace_1 := by
  refine or_mk fun A ta ws vs hD hth hl => ?_
  intro t0 r0 t2 k2 t11 k11 t12 k12 t13 k13 f0 f1 f2
  replace f0 := shm_106 f0
  replace f1 := shm_38 f1
  rw [show v_iv (n_v vs 11) = 2 from by omega] at f1
  replace f2 := shm_188 f2
  have cr_0_16 := fdq_95 hD hth r0
  have ad_10 : v_ad (n_v vs 10) = w_ar ws (n_v vs 0) 16 := congrArg v_ad f2
  simp only [ad_10] at f0
  have h0 : v_iv (n_v vs 13) = w_ei ws (w_ar ws (n_v vs 0) 16) (v_iv (n_v vs 12)) := f0
  have hK_0_16 := elq_44 hD hth cr_0_16
  have nf0 : fc_1 PRD (20, [0, 2, 13], [60, 0, 1, 640, 16]) ws (vs) := ⟨nf_in hl rfl, sgq_443 (vc_Pn_leftFace_1_0 (v_iv (n_v vs 2)) (v_iv (n_v vs 11)) (v_iv (n_v vs 12)) (v_iv (n_v vs 13)) (w_ei ws (w_ar ws (n_v vs 0) 16)) k2 k11 k12 k13 h0 f1 hK_0_16)⟩
  refine ⟨(fun _ h => (by cases h)), [], trivial, ?_, (fun _ h => (by cases h))⟩
  rw [List.append_nil]
  exact List.forall_mem_cons.mpr ⟨⟨show (20 : Nat) < 100 from by decide, nf0⟩, (fun _ h => (by cases h))⟩
def n_Pn_leftFace_an : List an_T := []
def t_Pn_leftFace_ct : ct_L := []
set_option maxRecDepth 100000 in
theorem c_Pn_leftFace {l : Launch} {D : va_G} {kA : Nat → ClassId} : ct_ok PRD l D kA GG y_Pn_leftFace z_Pn_leftFace e_Pn_leftFace := chk_all_ok (FT := [(162, 5, 7), (165, 5, 8), (228, 5, 16)]) (PT := []) (CT := t_Pn_leftFace_ct) (KT := []) (NT := []) (AN := n_Pn_leftFace_an) (OT := [o_Pn_leftFace_0, o_Pn_leftFace_1]) 0 200 (List.forall_mem_cons.mpr ⟨oo_Pn_leftFace_0, List.forall_mem_cons.mpr ⟨oo_Pn_leftFace_1, List.forall_mem_nil _⟩⟩) (by decide +kernel) ⟨List.forall_mem_cons.mpr ⟨gf_Pn_162, List.forall_mem_cons.mpr ⟨gf_Pn_165, List.forall_mem_cons.mpr ⟨gf_Pn_228, List.forall_mem_nil _⟩⟩⟩, List.forall_mem_nil _, List.forall_mem_nil _, List.forall_mem_nil _, List.forall_mem_nil _, GG_pl⟩ (by decide +kernel)
set_option maxHeartbeats 4000000 in
theorem vc_Pn_rightFace_0_0 (x2 : Int) (x11 : Int) (x12 : Int) (x13 : Int) (faceOf_0 : Int → Int) (k2 : 0 ≤ x2 ∧ x2 ≤ 47) (k11 : 2 ≤ x11 ∧ x11 ≤ 2) (k12 : 0 ≤ x12 ∧ x12 ≤ 94) (k13 : (-1) ≤ x13 ∧ x13 ≤ 143) (h0 : x13 = faceOf_0 (x12)) (f1 : x12 = 2 * x2) (hK_0_16 : ∀ j : Int, 0 ≤ j → j < 144 → (-1) ≤ faceOf_0 j ∧ faceOf_0 j ≤ 143) : LFA (faceOf_0) (x2) (x13) := by
  first
    | exact lfa_0 (by assumption) (by omega)
    | exact lfa_1 (by assumption) (by omega)
  
def o_Pn_rightFace_0 : or_T := (45, 14, [(0, (2, 0, 0, [5])), (2, (0, 0, 47, [])), (11, (0, 2, 2, [])), (12, (0, 0, 94, [])), (13, (0, -1, 143, []))], [(10, [13, 10, 12], []), (3, [12, 11, 2], []), (9, [10, 0], [16])], [], [], [(20, [0, 2, 13], [60, 0, 1, 640, 16])], [], [])
theorem oo_Pn_rightFace_0 {kA : Nat → ClassId} : or_ok PRD kA GG o_Pn_rightFace_0 := by
  refine or_mk fun A ta ws vs hD hth hl => ?_
  intro t0 r0 t2 k2 t11 k11 t12 k12 t13 k13 f0 f1 f2
  replace f0 := shm_106 f0
  replace f1 := shm_38 f1
  rw [show v_iv (n_v vs 11) = 2 from by omega] at f1
  replace f2 := shm_188 f2
  have cr_0_16 := fdq_95 hD hth r0
  have ad_10 : v_ad (n_v vs 10) = w_ar ws (n_v vs 0) 16 := congrArg v_ad f2
  simp only [ad_10] at f0
  have h0 : v_iv (n_v vs 13) = w_ei ws (w_ar ws (n_v vs 0) 16) (v_iv (n_v vs 12)) := f0
  have hK_0_16 := elq_44 hD hth cr_0_16
  have nf0 : fc_1 PRD (20, [0, 2, 13], [60, 0, 1, 640, 16]) ws (vs) := ⟨nf_in hl rfl, sgq_443 (vc_Pn_rightFace_0_0 (v_iv (n_v vs 2)) (v_iv (n_v vs 11)) (v_iv (n_v vs 12)) (v_iv (n_v vs 13)) (w_ei ws (w_ar ws (n_v vs 0) 16)) k2 k11 k12 k13 h0 f1 hK_0_16)⟩
  refine ⟨(fun _ h => (by cases h)), [], trivial, ?_, (fun _ h => (by cases h))⟩
  rw [List.append_nil]
  exact List.forall_mem_cons.mpr ⟨⟨show (20 : Nat) < 100 from by decide, nf0⟩, (fun _ h => (by cases h))⟩
set_option maxHeartbeats 4000000 in
theorem vc_Pn_rightFace_1_0 (x2 : Int) (x11 : Int) (x12 : Int) (x13 : Int) (x14 : Int) (x15 : Int) (faceOf_0 : Int → Int) (k2 : 0 ≤ x2 ∧ x2 ≤ 47) (k11 : 2 ≤ x11 ∧ x11 ≤ 2) (k12 : 0 ≤ x12 ∧ x12 ≤ 94) (k13 : 1 ≤ x13 ∧ x13 ≤ 1) (k14 : 1 ≤ x14 ∧ x14 ≤ 95) (k15 : (-1) ≤ x15 ∧ x15 ≤ 143) (d0 : x12 + 1 ≤ x14 ∧ x14 ≤ x12 + 1) (h0 : x15 = faceOf_0 (x14)) (f1 : x14 = x12 + x13) (f2 : x12 = 2 * x2) (hK_0_16 : ∀ j : Int, 0 ≤ j → j < 144 → (-1) ≤ faceOf_0 j ∧ faceOf_0 j ≤ 143) : LFA (faceOf_0) (x2) (x15) := by
  first
    | exact lfa_0 (by assumption) (by omega)
    | exact lfa_1 (by assumption) (by omega)
  
def o_Pn_rightFace_1 : or_T := (45, 16, [(0, (2, 0, 0, [5])), (2, (0, 0, 47, [])), (11, (0, 2, 2, [])), (12, (0, 0, 94, [])), (13, (0, 1, 1, [])), (14, (0, 1, 95, [])), (15, (0, -1, 143, []))], [(10, [15, 10, 14], []), (1, [14, 12, 13], []), (3, [12, 11, 2], []), (9, [10, 0], [16])], [], [], [(20, [0, 2, 15], [60, 0, 1, 640, 16])], [], [(14, 12, 1, 1)])
theorem oo_Pn_rightFace_1 {kA : Nat → ClassId} : or_ok PRD kA GG o_Pn_rightFace_1 := by
  refine or_mk fun A ta ws vs hD hth hl => ?_
  intro t0 r0 t2 k2 t11 k11 t12 k12 t13 k13 t14 k14 t15 k15 d0 f0 f1 f2 f3
  replace f0 := shm_106 f0
  replace f2 := shm_38 f2
  rw [show v_iv (n_v vs 11) = 2 from by omega] at f2
  replace f3 := shm_188 f3
  have cr_0_16 := fdq_95 hD hth r0
  have ad_10 : v_ad (n_v vs 10) = w_ar ws (n_v vs 0) 16 := congrArg v_ad f3
  simp only [ad_10] at f0
  have h0 : v_iv (n_v vs 15) = w_ei ws (w_ar ws (n_v vs 0) 16) (v_iv (n_v vs 14)) := f0
  have hK_0_16 := elq_44 hD hth cr_0_16
  have nf0 : fc_1 PRD (20, [0, 2, 15], [60, 0, 1, 640, 16]) ws (vs) := ⟨nf_in hl rfl, sgq_443 (vc_Pn_rightFace_1_0 (v_iv (n_v vs 2)) (v_iv (n_v vs 11)) (v_iv (n_v vs 12)) (v_iv (n_v vs 13)) (v_iv (n_v vs 14)) (v_iv (n_v vs 15)) (w_ei ws (w_ar ws (n_v vs 0) 16)) k2 k11 k12 k13 k14 k15 d0 h0 (shm_12 f1) f2 hK_0_16)⟩
  refine ⟨(fun _ h => (by cases h)), [], trivial, ?_, (fun _ h => (by cases h))⟩
  rw [List.append_nil]
  exact List.forall_mem_cons.mpr ⟨⟨show (20 : Nat) < 100 from by decide, nf0⟩, (fun _ h => (by cases h))⟩
def n_Pn_rightFace_an : List an_T := []
def t_Pn_rightFace_ct : ct_L := []
set_option maxRecDepth 100000 in
theorem c_Pn_rightFace {l : Launch} {D : va_G} {kA : Nat → ClassId} : ct_ok PRD l D kA GG y_Pn_rightFace z_Pn_rightFace e_Pn_rightFace := chk_all_ok (FT := [(162, 5, 7), (165, 5, 8), (228, 5, 16)]) (PT := []) (CT := t_Pn_rightFace_ct) (KT := []) (NT := []) (AN := n_Pn_rightFace_an) (OT := [o_Pn_rightFace_0, o_Pn_rightFace_1]) 0 200 (List.forall_mem_cons.mpr ⟨oo_Pn_rightFace_0, List.forall_mem_cons.mpr ⟨oo_Pn_rightFace_1, List.forall_mem_nil _⟩⟩) (by decide +kernel) ⟨List.forall_mem_cons.mpr ⟨gf_Pn_162, List.forall_mem_cons.mpr ⟨gf_Pn_165, List.forall_mem_cons.mpr ⟨gf_Pn_228, List.forall_mem_nil _⟩⟩⟩, List.forall_mem_nil _, List.forall_mem_nil _, List.forall_mem_nil _, List.forall_mem_nil _, GG_pl⟩ (by decide +kernel)
set_option maxHeartbeats 4000000 in
theorem vc_Pn_shiftUnder_0_0 (x2 : Int) (x3 : Int) (x4 : Int) (x5 : Int) (x6 : Int) (x7 : Int) (order_0 : Int → Int) (under_0 : Int → Int) (x_0o1 : Int → Int) (y_0o1 : Int → Int) (k2 : 0 ≤ x2 ∧ x2 ≤ 23) (k3 : 1 ≤ x3 ∧ x3 ≤ 2) (k4 : 3 ≤ x4 ∧ x4 ≤ 23) (k5 : 1 ≤ x5 ∧ x5 ≤ 23) (k6 : 0 ≤ x6 ∧ x6 ≤ 23) (k7 : 0 ≤ x7 ∧ x7 ≤ 0) (f0 : CO2 (order_0) (under_0) (x_0o1) (y_0o1) (x4) (x5) (x6)) (f1 : (1 ≤ x3) ∧ (x3 ≤ 2)) (f2 : TOQ (order_0) (x2) (x4)) (hK_0_1 : ∀ j : Int, 0 ≤ j → j < 24 → 0 ≤ order_0 j ∧ order_0 j ≤ 23) (hK_0_4 : ∀ j : Int, 0 ≤ j → j < 24 → 0 ≤ under_0 j ∧ under_0 j ≤ 16777215) (hK_1_2 : ∀ j : Int, 0 ≤ j → j < 24 → (-40000000) ≤ x_0o1 j ∧ x_0o1 j ≤ 690000000) (hK_1_3 : ∀ j : Int, 0 ≤ j → j < 24 → (-40000000) ≤ y_0o1 j ∧ y_0o1 j ≤ 690000000) : COS (order_0) (under_0) (x_0o1) (y_0o1) (x4) (x5) (x6) (x7) := by
  first
    | exact cgs_start ‹CO2 _ _ _ _ _ _ _›
    | exact cgs_step (d := x10) ‹COS _ _ _ _ _ _ _ _› (by omega) (by assumption) rfl (by omega) (by omega) (by omega)
    | exact cgs_skip ‹COS _ _ _ _ _ _ _ _› (by omega)
  
def o_Pn_shiftUnder_0 : or_T := (3, 8, [(0, (2, 0, 0, [7])), (1, (2, 0, 0, [0])), (2, (0, 0, 23, [])), (3, (0, 1, 2, [])), (4, (0, 3, 23, [])), (5, (0, 1, 23, [])), (6, (0, 0, 23, [])), (7, (0, 0, 0, []))], [(20, [0, 1, 4, 5, 6], [60, 0, 4, 885, 1, 4, 1002, 1003]), (20, [3], [50, 0, 0, 2, 6, 0, 2, 0, 1, 1, 0, 0, 2, 1, 0, 0, 2]), (20, [0, 2, 4], [60, 0, 1, 891, 1])], [], [], [(20, [0, 1, 4, 5, 6, 7], [60, 0, 4, 887, 1, 4, 1002, 1003]), (24, [0, 0], []), (24, [1, 1], [])], [], [])
theorem oo_Pn_shiftUnder_0 {kA : Nat → ClassId} : or_ok PRD kA GG o_Pn_shiftUnder_0 := by
  refine or_mk fun A ta ws vs hD hth hl => ?_
  intro t0 r0 t1 r1 t2 k2 t3 k3 t4 k4 t5 k5 t6 k6 t7 k7 f0 f1 f2
  have cr_0_1 := fdq_96 hD hth r0
  have cr_0_4 := fdq_97 hD hth r0
  have cr_1_2 := fdq_51 hD hth r1
  have cr_1_3 := fdq_54 hD hth r1
  have hK_0_1 := elq_45 hD hth cr_0_1
  have hK_0_4 := elq_46 hD hth cr_0_4
  have hK_1_2 := elq_9 hD hth cr_1_2
  have hK_1_3 := elq_12 hD hth cr_1_3
  have nf0 : fc_1 PRD (20, [0, 1, 4, 5, 6, 7], [60, 0, 4, 887, 1, 4, 1002, 1003]) ws (vs) := ⟨nf_in hl rfl, sgq_447 (vc_Pn_shiftUnder_0_0 (v_iv (n_v vs 2)) (v_iv (n_v vs 3)) (v_iv (n_v vs 4)) (v_iv (n_v vs 5)) (v_iv (n_v vs 6)) (v_iv (n_v vs 7)) (w_ei ws (w_ar ws (n_v vs 0) 1)) (w_ei ws (w_ar ws (n_v vs 0) 4)) (w_ei ws (w_ar ws (n_v vs 1) 2)) (w_ei ws (w_ar ws (n_v vs 1) 3)) k2 k3 k4 k5 k6 k7 (shm_444 f0) (shm_445 f1) (shm_446 f2) hK_0_1 hK_0_4 hK_1_2 hK_1_3)⟩
  have nf1 : fc_1 PRD (24, [0, 0], []) ws (vs) := by
    refine ⟨nf_in hl rfl, sgq_1 ?_⟩
    · show n_v vs 0 = n_v vs 0
      first | rfl | simp only [true_and]
  have nf2 : fc_1 PRD (24, [1, 1], []) ws (vs) := by
    refine ⟨nf_in hl rfl, sgq_1 ?_⟩
    · show n_v vs 1 = n_v vs 1
      first | rfl | simp only [true_and]
  refine ⟨(fun _ h => (by cases h)), [], trivial, ?_, (fun _ h => (by cases h))⟩
  rw [List.append_nil]
  exact List.forall_mem_cons.mpr ⟨⟨show (20 : Nat) < 100 from by decide, nf0⟩, List.forall_mem_cons.mpr ⟨⟨show (24 : Nat) < 100 from by decide, nf1⟩, List.forall_mem_cons.mpr ⟨⟨show (24 : Nat) < 100 from by decide, nf2⟩, (fun _ h => (by cases h))⟩⟩⟩
set_option maxHeartbeats 4000000 in
theorem vc_Pn_shiftUnder_1_0 (x4 : Int) (x5 : Int) (x6 : Int) (x9 : Int) (x10 : Int) (x11 : Int) (x13 : Int) (nodes_0o12 : Int) (order_0 : Int → Int) (under_0 : Int → Int) (x_0o1 : Int → Int) (y_0o1 : Int → Int) (k4 : 3 ≤ x4 ∧ x4 ≤ 23) (k5 : 1 ≤ x5 ∧ x5 ≤ 23) (k6 : 0 ≤ x6 ∧ x6 ≤ 23) (k9 : 0 ≤ x9 ∧ x9 ≤ 23) (k10 : 1 ≤ x10 ∧ x10 ≤ 2) (k11 : 0 ≤ x11 ∧ x11 ≤ 24) (k13 : 0 ≤ x13 ∧ x13 ≤ 24) (d0 : x13 + 0 ≤ x11 ∧ x11 ≤ x13 + 4294967296) (f0 : x13 ≤ x11) (g1 : x13 = nodes_0o12) (f2 : COS (order_0) (under_0) (x_0o1) (y_0o1) (x4) (x5) (x6) (x11)) (f3 : (1 ≤ x10) ∧ (x10 ≤ 2)) (f4 : TOQ (order_0) (x9) (x4)) (hK_0_1 : ∀ j : Int, 0 ≤ j → j < 24 → 0 ≤ order_0 j ∧ order_0 j ≤ 23) (hK_0_4 : ∀ j : Int, 0 ≤ j → j < 24 → 0 ≤ under_0 j ∧ under_0 j ≤ 16777215) (hK_1_2 : ∀ j : Int, 0 ≤ j → j < 24 → (-40000000) ≤ x_0o1 j ∧ x_0o1 j ≤ 690000000) (hK_1_3 : ∀ j : Int, 0 ≤ j → j < 24 → (-40000000) ≤ y_0o1 j ∧ y_0o1 j ≤ 690000000) (kz_12_5 : 0 ≤ nodes_0o12 ∧ nodes_0o12 ≤ 24) : CO2n (order_0) (under_0) (x_0o1) (y_0o1) (x4) (x5) (x6) := by
  first
    | exact cgs_end ‹COS _ _ _ _ _ _ _ _›
  
def o_Pn_shiftUnder_1 : or_T := (46, 14, [(0, (2, 0, 0, [7])), (1, (2, 0, 0, [0])), (4, (0, 3, 23, [])), (5, (0, 1, 23, [])), (6, (0, 0, 23, [])), (9, (0, 0, 23, [])), (10, (0, 1, 2, [])), (11, (0, 0, 24, [])), (12, (2, 0, 0, [294])), (13, (0, 0, 24, []))], [(7, [11, 13], [3]), (9, [13, 12], [5]), (20, [7, 8, 4, 5, 6, 11], [60, 0, 4, 887, 1, 4, 1002, 1003]), (20, [10], [50, 0, 0, 2, 6, 0, 2, 0, 1, 1, 0, 0, 2, 1, 0, 0, 2]), (20, [7, 9, 4], [60, 0, 1, 891, 1]), (24, [0, 7], []), (24, [1, 8], [])], [], [], [(20, [0, 1, 4, 5, 6], [60, 0, 4, 886, 1, 4, 1002, 1003])], [], [(11, 13, 0, 4294967296)])
theorem oo_Pn_shiftUnder_1 {kA : Nat → ClassId} : or_ok PRD kA GG o_Pn_shiftUnder_1 := by
  refine or_mk fun A ta ws vs hD hth hl => ?_
  intro t0 r0 t1 r1 t4 k4 t5 k5 t6 k6 t9 k9 t10 k10 t11 k11 t12 r12 t13 k13 d0 f0 f1 f2 f3 f4 f5 f6
  replace f1 := shm_109 f1
  replace f2 := shm_447 f2
  replace f4 := shm_446 f4
  replace f5 := shm_5 f5
  replace f6 := shm_5 f6
  have q7 : n_v vs 7 = n_v vs 0 := f5.symm
  have q8 : n_v vs 8 = n_v vs 1 := f6.symm
  simp only [q7, q8] at f2 f4
  have cr_0_1 := fdq_96 hD hth r0
  have cr_0_4 := fdq_97 hD hth r0
  have cr_1_2 := fdq_51 hD hth r1
  have cr_1_3 := fdq_54 hD hth r1
  have g1 : v_iv (n_v vs 13) = w_fi ws (n_v vs 12) 5 := congrArg v_iv f1
  have hK_0_1 := elq_45 hD hth cr_0_1
  have hK_0_4 := elq_46 hD hth cr_0_4
  have hK_1_2 := elq_9 hD hth cr_1_2
  have hK_1_3 := elq_12 hD hth cr_1_3
  have kz_12_5 := fdq_98 hD hth r12
  have nf0 : fc_1 PRD (20, [0, 1, 4, 5, 6], [60, 0, 4, 886, 1, 4, 1002, 1003]) ws (vs) := ⟨nf_in hl rfl, sgq_448 (vc_Pn_shiftUnder_1_0 (v_iv (n_v vs 4)) (v_iv (n_v vs 5)) (v_iv (n_v vs 6)) (v_iv (n_v vs 9)) (v_iv (n_v vs 10)) (v_iv (n_v vs 11)) (v_iv (n_v vs 13)) (w_fi ws (n_v vs 12) 5) (w_ei ws (w_ar ws (n_v vs 0) 1)) (w_ei ws (w_ar ws (n_v vs 0) 4)) (w_ei ws (w_ar ws (n_v vs 1) 2)) (w_ei ws (w_ar ws (n_v vs 1) 3)) k4 k5 k6 k9 k10 k11 k13 d0 (shm_2 f0) g1 f2 (shm_445 f3) f4 hK_0_1 hK_0_4 hK_1_2 hK_1_3 kz_12_5)⟩
  refine ⟨(fun _ h => (by cases h)), [], trivial, ?_, (fun _ h => (by cases h))⟩
  rw [List.append_nil]
  exact List.forall_mem_cons.mpr ⟨⟨show (20 : Nat) < 100 from by decide, nf0⟩, (fun _ h => (by cases h))⟩
set_option maxHeartbeats 4000000 in
theorem vc_Pn_shiftUnder_2_0 (x4 : Int) (x5 : Int) (x6 : Int) (x9 : Int) (x10 : Int) (x11 : Int) (x13 : Int) (x15 : Int) (x16 : Int) (x17 : Int) (x18 : Int) (x19 : Int) (under_0 : Int → Int) (nodes_0o12 : Int) (order_0 : Int → Int) (x_0o1 : Int → Int) (y_0o1 : Int → Int) (k4 : 3 ≤ x4 ∧ x4 ≤ 23) (k5 : 1 ≤ x5 ∧ x5 ≤ 23) (k6 : 0 ≤ x6 ∧ x6 ≤ 23) (k9 : 0 ≤ x9 ∧ x9 ≤ 23) (k10 : 1 ≤ x10 ∧ x10 ≤ 2) (k11 : 0 ≤ x11 ∧ x11 ≤ 23) (k13 : 1 ≤ x13 ∧ x13 ≤ 24) (k15 : 0 ≤ x15 ∧ x15 ≤ 16777215) (k16 : 0 ≤ x16 ∧ x16 ≤ 16777215) (k17 : 1 ≤ x17 ∧ x17 ≤ 1) (k18 : 0 ≤ x18 ∧ x18 ≤ 0) (k19 : 1 ≤ x19 ∧ x19 ≤ 24) (d0 : x11 + 1 ≤ x19 ∧ x19 ≤ x11 + 1) (d1 : x13 + (-4294967296) ≤ x19 ∧ x19 ≤ x13 + 0) (d2 : x13 + (-4294967296) ≤ x11 ∧ x11 ≤ x13 + (-1)) (f0 : x19 = x11 + 1) (f1 : x18 = 0) (f2 : x18 = x16 % 2) (f3 : bvp (x18) = bvp (x16) &&& bvp (x17)) (f4 : bvp (x16) = bvp (x15) >>> (x11).toNat) (h5 : x15 = under_0 (x9)) (f7 : x11 < x13) (g8 : x13 = nodes_0o12) (f9 : COS (order_0) (under_0) (x_0o1) (y_0o1) (x4) (x5) (x6) (x11)) (f10 : (1 ≤ x10) ∧ (x10 ≤ 2)) (f11 : TOQ (order_0) (x9) (x4)) (hK_0_1 : ∀ j : Int, 0 ≤ j → j < 24 → 0 ≤ order_0 j ∧ order_0 j ≤ 23) (hK_0_4 : ∀ j : Int, 0 ≤ j → j < 24 → 0 ≤ under_0 j ∧ under_0 j ≤ 16777215) (hK_1_2 : ∀ j : Int, 0 ≤ j → j < 24 → (-40000000) ≤ x_0o1 j ∧ x_0o1 j ≤ 690000000) (hK_1_3 : ∀ j : Int, 0 ≤ j → j < 24 → (-40000000) ≤ y_0o1 j ∧ y_0o1 j ≤ 690000000) (kz_12_5 : 0 ≤ nodes_0o12 ∧ nodes_0o12 ≤ 24) : COS (order_0) (under_0) (x_0o1) (y_0o1) (x4) (x5) (x6) (x19) := by
  first
    | exact cgs_start ‹CO2 _ _ _ _ _ _ _›
    | exact cgs_step (d := x10) ‹COS _ _ _ _ _ _ _ _› (by omega) (by assumption) rfl (by omega) (by omega) (by omega)
    | exact cgs_skip ‹COS _ _ _ _ _ _ _ _› (by omega)
  
def o_Pn_shiftUnder_2 : or_T := (3, 20, [(0, (2, 0, 0, [7])), (1, (2, 0, 0, [0])), (4, (0, 3, 23, [])), (5, (0, 1, 23, [])), (6, (0, 0, 23, [])), (9, (0, 0, 23, [])), (10, (0, 1, 2, [])), (11, (0, 0, 23, [])), (12, (2, 0, 0, [294])), (13, (0, 1, 24, [])), (15, (0, 0, 16777215, [])), (16, (0, 0, 16777215, [])), (17, (0, 1, 1, [])), (18, (0, 0, 0, [])), (19, (0, 1, 24, []))], [(6, [19, 11], [1]), (8, [18], [0]), (12, [18, 16], [2]), (16, [18, 16, 17], [0]), (16, [16, 15, 11], [4]), (10, [15, 14, 9], []), (9, [14, 7], [4]), (7, [11, 13], [2]), (9, [13, 12], [5]), (20, [7, 8, 4, 5, 6, 11], [60, 0, 4, 887, 1, 4, 1002, 1003]), (20, [10], [50, 0, 0, 2, 6, 0, 2, 0, 1, 1, 0, 0, 2, 1, 0, 0, 2]), (20, [7, 9, 4], [60, 0, 1, 891, 1]), (24, [0, 7], []), (24, [1, 8], [])], [], [], [(20, [7, 8, 4, 5, 6, 19], [60, 0, 4, 887, 1, 4, 1002, 1003])], [], [(19, 11, 1, 1), (19, 13, -4294967296, 0), (11, 13, -4294967296, -1)])
theorem oo_Pn_shiftUnder_2 {kA : Nat → ClassId} : or_ok PRD kA GG o_Pn_shiftUnder_2 := by
  refine or_mk fun A ta ws vs hD hth hl => ?_
  intro t0 r0 t1 r1 t4 k4 t5 k5 t6 k6 t9 k9 t10 k10 t11 k11 t12 r12 t13 k13 t15 k15 t16 k16 t17 k17 t18 k18 t19 k19 d0 d1 d2 f0 f1 f2 f3 f4 f5 f6 f7 f8 f9 f10 f11 f12 f13
  replace f0 := shm_4 f0
  replace f1 := shm_210 f1
  replace f2 := shm_382 f2
  replace f3 := shm_11 f3
  replace f4 := shm_13 f4
  replace f5 := shm_106 f5
  replace f6 := shm_107 f6
  replace f7 := shm_6 f7
  replace f8 := shm_109 f8
  replace f9 := shm_447 f9
  replace f10 := shm_445 f10
  replace f11 := shm_446 f11
  replace f12 := shm_5 f12
  replace f13 := shm_5 f13
  have q7 : n_v vs 7 = n_v vs 0 := f12.symm
  have q8 : n_v vs 8 = n_v vs 1 := f13.symm
  simp only [q7, q8] at f6 f9 f11
  have cr_0_1 := fdq_96 hD hth r0
  have cr_0_4 := fdq_97 hD hth r0
  have cr_1_2 := fdq_51 hD hth r1
  have cr_1_3 := fdq_54 hD hth r1
  have ad_14 : v_ad (n_v vs 14) = w_ar ws (n_v vs 0) 4 := congrArg v_ad f6
  simp only [ad_14] at f5
  have h5 : v_iv (n_v vs 15) = w_ei ws (w_ar ws (n_v vs 0) 4) (v_iv (n_v vs 9)) := f5
  have g8 : v_iv (n_v vs 13) = w_fi ws (n_v vs 12) 5 := congrArg v_iv f8
  have hK_0_1 := elq_45 hD hth cr_0_1
  have hK_0_4 := elq_46 hD hth cr_0_4
  have hK_1_2 := elq_9 hD hth cr_1_2
  have hK_1_3 := elq_12 hD hth cr_1_3
  have kz_12_5 := fdq_98 hD hth r12
  have nf0 : fc_1 PRD (20, [7, 8, 4, 5, 6, 19], [60, 0, 4, 887, 1, 4, 1002, 1003]) ws (vs) := by
    refine ⟨nf_in hl rfl, sgq_447 ?_⟩
    · show COS (w_ei ws (w_ar ws (n_v vs 7) 1)) (w_ei ws (w_ar ws (n_v vs 7) 4)) (w_ei ws (w_ar ws (n_v vs 8) 2)) (w_ei ws (w_ar ws (n_v vs 8) 3)) (v_iv (n_v vs 4)) (v_iv (n_v vs 5)) (v_iv (n_v vs 6)) (v_iv (n_v vs 19))
      simp only [q7, q8]
      exact vc_Pn_shiftUnder_2_0 (v_iv (n_v vs 4)) (v_iv (n_v vs 5)) (v_iv (n_v vs 6)) (v_iv (n_v vs 9)) (v_iv (n_v vs 10)) (v_iv (n_v vs 11)) (v_iv (n_v vs 13)) (v_iv (n_v vs 15)) (v_iv (n_v vs 16)) (v_iv (n_v vs 17)) (v_iv (n_v vs 18)) (v_iv (n_v vs 19)) (w_ei ws (w_ar ws (n_v vs 0) 4)) (w_fi ws (n_v vs 12) 5) (w_ei ws (w_ar ws (n_v vs 0) 1)) (w_ei ws (w_ar ws (n_v vs 1) 2)) (w_ei ws (w_ar ws (n_v vs 1) 3)) k4 k5 k6 k9 k10 k11 k13 k15 k16 k17 k18 k19 d0 d1 d2 f0 f1 f2 f3 f4 h5 f7 g8 f9 f10 f11 hK_0_1 hK_0_4 hK_1_2 hK_1_3 kz_12_5
  refine ⟨(fun _ h => (by cases h)), [], trivial, ?_, (fun _ h => (by cases h))⟩
  rw [List.append_nil]
  exact List.forall_mem_cons.mpr ⟨⟨show (20 : Nat) < 100 from by decide, nf0⟩, (fun _ h => (by cases h))⟩
set_option maxHeartbeats 4000000 in
theorem vc_Pn_shiftUnder_3_r0 (x4 : Int) (x5 : Int) (x6 : Int) (x9 : Int) (x10 : Int) (x11 : Int) (x13 : Int) (x15 : Int) (x16 : Int) (x17 : Int) (x18 : Int) (x20 : Int) (x21 : Int) (x_0o1 : Int → Int) (under_0 : Int → Int) (nodes_0o12 : Int) (order_0 : Int → Int) (y_0o1 : Int → Int) (k4 : 3 ≤ x4 ∧ x4 ≤ 23) (k5 : 1 ≤ x5 ∧ x5 ≤ 23) (k6 : 0 ≤ x6 ∧ x6 ≤ 23) (k9 : 0 ≤ x9 ∧ x9 ≤ 23) (k10 : 1 ≤ x10 ∧ x10 ≤ 2) (k11 : 0 ≤ x11 ∧ x11 ≤ 23) (k13 : 1 ≤ x13 ∧ x13 ≤ 24) (k15 : 0 ≤ x15 ∧ x15 ≤ 16777215) (k16 : 0 ≤ x16 ∧ x16 ≤ 16777215) (k17 : 1 ≤ x17 ∧ x17 ≤ 1) (k18 : 1 ≤ x18 ∧ x18 ≤ 1) (k20 : (-40000000) ≤ x20 ∧ x20 ≤ 690000000) (k21 : (-39999999) ≤ x21 ∧ x21 ≤ 690000002) (d0 : x10 + (-40000000) ≤ x21 ∧ x21 ≤ x10 + 690000000) (d1 : x20 + 1 ≤ x21 ∧ x21 ≤ x20 + 2) (d2 : x13 + (-4294967296) ≤ x11 ∧ x11 ≤ x13 + (-1)) (f0 : x21 = x20 + x10) (h1 : x20 = x_0o1 (x11)) (f3 : x18 ≠ 0) (f4 : x18 = x16 % 2) (f5 : bvp (x18) = bvp (x16) &&& bvp (x17)) (f6 : bvp (x16) = bvp (x15) >>> (x11).toNat) (h7 : x15 = under_0 (x9)) (f9 : x11 < x13) (g10 : x13 = nodes_0o12) (f11 : COS (order_0) (under_0) (x_0o1) (y_0o1) (x4) (x5) (x6) (x11)) (f12 : (1 ≤ x10) ∧ (x10 ≤ 2)) (f13 : TOQ (order_0) (x9) (x4)) (hK_0_1 : ∀ j : Int, 0 ≤ j → j < 24 → 0 ≤ order_0 j ∧ order_0 j ≤ 23) (hK_0_4 : ∀ j : Int, 0 ≤ j → j < 24 → 0 ≤ under_0 j ∧ under_0 j ≤ 16777215) (hK_1_2 : ∀ j : Int, 0 ≤ j → j < 24 → (-40000000) ≤ x_0o1 j ∧ x_0o1 j ≤ 690000000) (hK_1_3 : ∀ j : Int, 0 ≤ j → j < 24 → (-40000000) ≤ y_0o1 j ∧ y_0o1 j ≤ 690000000) (kz_12_5 : 0 ≤ nodes_0o12 ∧ nodes_0o12 ≤ 24) : (-900000) ≤ x21 ∧ x21 ≤ 900000 := by
  first
    | omega
    | (have b : bit x15 x11 := (bit_shr (n := x16) (by assumption) (by omega)).1 ((bit_and (n := x18) (by assumption) 0).1 ((bit_01 (by omega) (by omega)).2 (by omega))).1
       rw [‹x15 = under_0 x9›] at b
       have q := cos_val (u := x20) ‹COS _ _ _ _ _ _ _ _› ‹TOQ _ _ _› (by omega) (by omega) b (by assumption) (by omega) (by omega)
       omega)
  
def o_Pn_shiftUnder_3 : or_T := (39, 22, [(0, (2, 0, 0, [7])), (1, (2, 0, 0, [0])), (4, (0, 3, 23, [])), (5, (0, 1, 23, [])), (6, (0, 0, 23, [])), (7, (2, 0, 0, [7])), (8, (2, 0, 0, [0])), (9, (0, 0, 23, [])), (10, (0, 1, 2, [])), (11, (0, 0, 23, [])), (12, (2, 0, 0, [294])), (13, (0, 1, 24, [])), (14, (2, 0, 0, [104])), (15, (0, 0, 16777215, [])), (16, (0, 0, 16777215, [])), (17, (0, 1, 1, [])), (18, (0, 1, 1, [])), (19, (2, 0, 0, [14])), (20, (0, -40000000, 690000000, [])), (21, (0, -39999999, 690000002, []))], [(1, [21, 20, 10], []), (10, [20, 19, 11], []), (9, [19, 8], [2]), (8, [18], [1]), (12, [18, 16], [2]), (16, [18, 16, 17], [0]), (16, [16, 15, 11], [4]), (10, [15, 14, 9], []), (9, [14, 7], [4]), (7, [11, 13], [2]), (9, [13, 12], [5]), (20, [7, 8, 4, 5, 6, 11], [60, 0, 4, 887, 1, 4, 1002, 1003]), (20, [10], [50, 0, 0, 2, 6, 0, 2, 0, 1, 1, 0, 0, 2, 1, 0, 0, 2]), (20, [7, 9, 4], [60, 0, 1, 891, 1]), (24, [0, 7], []), (24, [1, 8], [])], [(21, (0, -900000, 900000, []))], [], [], [], [(21, 10, -40000000, 690000000), (21, 20, 1, 2), (11, 13, -4294967296, -1)])
theorem oo_Pn_shiftUnder_3 {kA : Nat → ClassId} : or_ok PRD kA GG o_Pn_shiftUnder_3 := by
  refine or_mk fun A ta ws vs hD hth hl => ?_
  intro t0 r0 t1 r1 t4 k4 t5 k5 t6 k6 t7 r7 t8 r8 t9 k9 t10 k10 t11 k11 t12 r12 t13 k13 t14 r14 t15 k15 t16 k16 t17 k17 t18 k18 t19 r19 t20 k20 t21 k21 d0 d1 d2 f0 f1 f2 f3 f4 f5 f6 f7 f8 f9 f10 f11 f12 f13 f14 f15
  replace f1 := shm_106 f1
  replace f2 := shm_129 f2
  replace f7 := shm_106 f7
  replace f8 := shm_107 f8
  replace f10 := shm_109 f10
  replace f11 := shm_447 f11
  replace f13 := shm_446 f13
  replace f14 := shm_5 f14
  replace f15 := shm_5 f15
  have q7 : n_v vs 7 = n_v vs 0 := f14.symm
  have q8 : n_v vs 8 = n_v vs 1 := f15.symm
  simp only [q8, q7] at f2 f8 f11 f13
  have cr_0_1 := fdq_96 hD hth r0
  have cr_0_4 := fdq_97 hD hth r0
  have cr_1_2 := fdq_51 hD hth r1
  have cr_1_3 := fdq_54 hD hth r1
  have ad_19 : v_ad (n_v vs 19) = w_ar ws (n_v vs 1) 2 := congrArg v_ad f2
  have ad_14 : v_ad (n_v vs 14) = w_ar ws (n_v vs 0) 4 := congrArg v_ad f8
  simp only [ad_19] at f1
  have h1 : v_iv (n_v vs 20) = w_ei ws (w_ar ws (n_v vs 1) 2) (v_iv (n_v vs 11)) := f1
  simp only [ad_14] at f7
  have h7 : v_iv (n_v vs 15) = w_ei ws (w_ar ws (n_v vs 0) 4) (v_iv (n_v vs 9)) := f7
  have g10 : v_iv (n_v vs 13) = w_fi ws (n_v vs 12) 5 := congrArg v_iv f10
  have hK_0_1 := elq_45 hD hth cr_0_1
  have hK_0_4 := elq_46 hD hth cr_0_4
  have hK_1_2 := elq_9 hD hth cr_1_2
  have hK_1_3 := elq_12 hD hth cr_1_3
  have kz_12_5 := fdq_98 hD hth r12
  have hrf0 : (-900000) ≤ v_iv (n_v vs 21) ∧ v_iv (n_v vs 21) ≤ 900000 := vc_Pn_shiftUnder_3_r0 (v_iv (n_v vs 4)) (v_iv (n_v vs 5)) (v_iv (n_v vs 6)) (v_iv (n_v vs 9)) (v_iv (n_v vs 10)) (v_iv (n_v vs 11)) (v_iv (n_v vs 13)) (v_iv (n_v vs 15)) (v_iv (n_v vs 16)) (v_iv (n_v vs 17)) (v_iv (n_v vs 18)) (v_iv (n_v vs 20)) (v_iv (n_v vs 21)) (w_ei ws (w_ar ws (n_v vs 1) 2)) (w_ei ws (w_ar ws (n_v vs 0) 4)) (w_fi ws (n_v vs 12) 5) (w_ei ws (w_ar ws (n_v vs 0) 1)) (w_ei ws (w_ar ws (n_v vs 1) 3)) k4 k5 k6 k9 k10 k11 k13 k15 k16 k17 k18 k20 k21 d0 d1 d2 (shm_12 f0) h1 (shm_154 f3) (shm_382 f4) (shm_11 f5) (shm_13 f6) h7 (shm_6 f9) g10 f11 (shm_445 f12) f13 hK_0_1 hK_0_4 hK_1_2 hK_1_3 kz_12_5
  have rf21 : tv_ok ta (0, -900000, 900000, []) (n_v vs 21) := tv_in t21 (by first | omega | grind) (by first | omega | grind)
  refine ⟨List.forall_mem_cons.mpr ⟨rf21, (fun _ h => (by cases h))⟩, [], trivial, ?_, (fun _ h => (by cases h))⟩
  rw [List.append_nil]
  exact (fun _ h => (by cases h))
set_option maxHeartbeats 4000000 in
theorem vc_Pn_shiftUnder_4_0 (x4 : Int) (x5 : Int) (x6 : Int) (x9 : Int) (x10 : Int) (x11 : Int) (x13 : Int) (x15 : Int) (x16 : Int) (x17 : Int) (x18 : Int) (x20 : Int) (x21 : Int) (x22 : Int) (order_0 : Int → Int) (x_1o1 : Int → Int) (under_1 : Int → Int) (nodes_1o12 : Int) (order_1 : Int → Int) (y_1o1 : Int → Int) (nodes_0o12 : Int) (under_0 : Int → Int) (x_0o1 : Int → Int) (y_0o1 : Int → Int) (k4 : 3 ≤ x4 ∧ x4 ≤ 23) (k5 : 1 ≤ x5 ∧ x5 ≤ 23) (k6 : 0 ≤ x6 ∧ x6 ≤ 23) (k9 : 0 ≤ x9 ∧ x9 ≤ 23) (k10 : 1 ≤ x10 ∧ x10 ≤ 2) (k11 : 0 ≤ x11 ∧ x11 ≤ 23) (k13 : 1 ≤ x13 ∧ x13 ≤ 24) (k15 : 0 ≤ x15 ∧ x15 ≤ 16777215) (k16 : 0 ≤ x16 ∧ x16 ≤ 16777215) (k17 : 1 ≤ x17 ∧ x17 ≤ 1) (k18 : 1 ≤ x18 ∧ x18 ≤ 1) (k20 : (-40000000) ≤ x20 ∧ x20 ≤ 690000000) (k21 : (-900000) ≤ x21 ∧ x21 ≤ 900000) (k22 : 1 ≤ x22 ∧ x22 ≤ 24) (d0 : x11 + 1 ≤ x22 ∧ x22 ≤ x11 + 1) (d1 : x13 + (-4294967296) ≤ x22 ∧ x22 ≤ x13 + 0) (d2 : x20 + 1 ≤ x21 ∧ x21 ≤ x20 + 2) (d3 : x13 + (-4294967296) ≤ x11 ∧ x11 ≤ x13 + (-1)) (f0 : x22 = x11 + 1) (f1 : (1 ≤ x10) ∧ (x10 ≤ 2)) (f2 : TOQ (order_0) (x9) (x4)) (f6 : x21 = x20 + x10) (h7 : x20 = x_1o1 (x11)) (f9 : x18 ≠ 0) (f10 : x18 = x16 % 2) (f11 : bvp (x18) = bvp (x16) &&& bvp (x17)) (f12 : bvp (x16) = bvp (x15) >>> (x11).toNat) (h13 : x15 = under_1 (x9)) (f15 : x11 < x13) (g16 : x13 = nodes_1o12) (f17 : COS (order_1) (under_1) (x_1o1) (y_1o1) (x4) (x5) (x6) (x11)) (f18 : (1 ≤ x10) ∧ (x10 ≤ 2)) (f19 : TOQ (order_1) (x9) (x4)) (fe_12_5_1 : nodes_0o12 = nodes_1o12) (hE_0_1_1 : ∀ j : Int, order_0 j = order_1 j) (hK_0_1 : ∀ j : Int, 0 ≤ j → j < 24 → 0 ≤ order_0 j ∧ order_0 j ≤ 23) (hE_0_4_1 : ∀ j : Int, under_0 j = under_1 j) (hK_0_4 : ∀ j : Int, 0 ≤ j → j < 24 → 0 ≤ under_0 j ∧ under_0 j ≤ 16777215) (hE_1_2_1 : ∀ j : Int, 0 ≤ j → (j = x11 → x_0o1 j = x21) ∧ (j ≠ x11 → x_0o1 j = x_1o1 j)) (hK_1_2 : ∀ j : Int, 0 ≤ j → j < 24 → (-40000000) ≤ x_0o1 j ∧ x_0o1 j ≤ 690000000) (hE_1_3_1 : ∀ j : Int, y_0o1 j = y_1o1 j) (hK_1_3 : ∀ j : Int, 0 ≤ j → j < 24 → (-40000000) ≤ y_0o1 j ∧ y_0o1 j ≤ 690000000) (kz_12_5 : 0 ≤ nodes_0o12 ∧ nodes_0o12 ≤ 24) : COS (order_0) (under_0) (x_0o1) (y_0o1) (x4) (x5) (x6) (x22) := by
  subst fe_12_5_1
  have e_hE_0_1_1 := funext hE_0_1_1; subst e_hE_0_1_1
  have e_hE_0_4_1 := funext hE_0_4_1; subst e_hE_0_4_1
  have e_hE_1_3_1 := funext hE_1_3_1; subst e_hE_1_3_1
  first
    | exact cgs_start ‹CO2 _ _ _ _ _ _ _›
    | exact cgs_step (d := x10) ‹COS _ _ _ _ _ _ _ _› (by omega) (by assumption) rfl (by omega) (by omega) (by omega)
    | exact cgs_skip ‹COS _ _ _ _ _ _ _ _› (by omega)
  
def o_Pn_shiftUnder_4 : or_T := (3, 23, [(0, (2, 0, 0, [7])), (1, (2, 0, 0, [0])), (4, (0, 3, 23, [])), (5, (0, 1, 23, [])), (6, (0, 0, 23, [])), (9, (0, 0, 23, [])), (10, (0, 1, 2, [])), (11, (0, 0, 23, [])), (12, (2, 0, 0, [294])), (13, (0, 1, 24, [])), (15, (0, 0, 16777215, [])), (16, (0, 0, 16777215, [])), (17, (0, 1, 1, [])), (18, (0, 1, 1, [])), (19, (2, 0, 0, [14])), (20, (0, -40000000, 690000000, [])), (21, (0, -900000, 900000, [])), (22, (0, 1, 24, []))], [(6, [22, 11], [1]), (20, [10], [50, 0, 0, 2, 6, 0, 2, 0, 1, 1, 0, 0, 2, 1, 0, 0, 2]), (20, [7, 9, 4], [60, 0, 1, 891, 1]), (24, [0, 7], []), (24, [1, 8], []), (100, [19, 11, 21], []), (1, [21, 20, 10], []), (10, [20, 19, 11], []), (9, [19, 8], [2]), (8, [18], [1]), (12, [18, 16], [2]), (16, [18, 16, 17], [0]), (16, [16, 15, 11], [4]), (10, [15, 14, 9], []), (9, [14, 7], [4]), (7, [11, 13], [2]), (9, [13, 12], [5]), (20, [7, 8, 4, 5, 6, 11], [60, 0, 4, 887, 1, 4, 1002, 1003]), (20, [10], [50, 0, 0, 2, 6, 0, 2, 0, 1, 1, 0, 0, 2, 1, 0, 0, 2]), (20, [7, 9, 4], [60, 0, 1, 891, 1])], [], [], [(20, [7, 8, 4, 5, 6, 22], [60, 0, 4, 887, 1, 4, 1002, 1003])], [], [(22, 11, 1, 1), (22, 13, -4294967296, 0), (21, 20, 1, 2), (11, 13, -4294967296, -1)])
theorem oo_Pn_shiftUnder_4 {kA : Nat → ClassId} : or_ok PRD kA GG o_Pn_shiftUnder_4 := by
  refine or_mk fun A ta ws vs hD hth hl => ?_
  intro t0 r0 t1 r1 t4 k4 t5 k5 t6 k6 t9 k9 t10 k10 t11 k11 t12 r12 t13 k13 t15 k15 t16 k16 t17 k17 t18 k18 t19 r19 t20 k20 t21 k21 t22 k22 d0 d1 d2 d3 f0 f1 f2 f3 f4 ta1 w1 le1 s1 f6 f7 f8 f9 f10 f11 f12 f13 f14 f15 f16 f17 f18 f19
  replace f0 := shm_4 f0
  replace f1 := shm_445 f1
  replace f2 := shm_446 f2
  replace f3 := shm_5 f3
  replace f4 := shm_5 f4
  have s1 : (∀ b j, w_el ws b j = if b = v_ad (n_v vs 19) ∧ j = (v_iv (n_v vs 11)).toNat then v_iv (n_v vs 21) else w_el w1 b j) ∧ ∀ b k, w_fd ws b k = w_fd w1 b k := s1.2
  replace f6 := shm_12 f6
  replace f7 := shm_106 f7
  replace f8 := shm_129 f8
  replace f9 := shm_154 f9
  replace f10 := shm_382 f10
  replace f11 := shm_11 f11
  replace f12 := shm_13 f12
  replace f13 := shm_106 f13
  replace f14 := shm_107 f14
  replace f15 := shm_6 f15
  replace f16 := shm_109 f16
  replace f17 := shm_447 f17
  replace f18 := shm_445 f18
  replace f19 := shm_446 f19
  have q7 : n_v vs 7 = n_v vs 0 := f3.symm
  have q8 : n_v vs 8 = n_v vs 1 := f4.symm
  simp only [q7, q8] at f2 f8 f14 f17 f19
  have ar_0_1_1 : w_ar w1 (n_v vs 0) 1 = w_ar ws (n_v vs 0) 1 := congrArg v_ad (s1.2 _ _).symm
  have cr_0_1 := fdq_96 hD hth r0
  have ar_0_4_1 : w_ar w1 (n_v vs 0) 4 = w_ar ws (n_v vs 0) 4 := congrArg v_ad (s1.2 _ _).symm
  have cr_0_4 := fdq_97 hD hth r0
  have ar_1_2_1 : w_ar w1 (n_v vs 1) 2 = w_ar ws (n_v vs 1) 2 := congrArg v_ad (s1.2 _ _).symm
  have cr_1_2 := fdq_51 hD hth r1
  have ar_1_3_1 : w_ar w1 (n_v vs 1) 3 = w_ar ws (n_v vs 1) 3 := congrArg v_ad (s1.2 _ _).symm
  have cr_1_3 := fdq_54 hD hth r1
  have ad_19 : v_ad (n_v vs 19) = w_ar ws (n_v vs 1) 2 := (congrArg v_ad f8).trans ar_1_2_1
  have ad_14 : v_ad (n_v vs 14) = w_ar ws (n_v vs 0) 4 := (congrArg v_ad f14).trans ar_0_4_1
  simp only [ad_19] at f7
  have h7 : v_iv (n_v vs 20) = w_ei w1 (w_ar ws (n_v vs 1) 2) (v_iv (n_v vs 11)) := f7
  simp only [ad_14] at f13
  have h13 : v_iv (n_v vs 15) = w_ei w1 (w_ar ws (n_v vs 0) 4) (v_iv (n_v vs 9)) := f13
  have g16 : v_iv (n_v vs 13) = w_fi w1 (n_v vs 12) 5 := congrArg v_iv f16
  simp only [ar_0_1_1, ar_0_4_1, ar_1_2_1, ar_1_3_1] at f17 f19
  have fe_12_5_1 : w_fi ws (n_v vs 12) 5 = w_fi w1 (n_v vs 12) 5 := congrArg v_iv (s1.2 _ _)
  have hE_0_1_1 : ∀ j : Int, w_ei ws (w_ar ws (n_v vs 0) 1) j = w_ei w1 (w_ar ws (n_v vs 0) 1) j := el_kp s1.1 r19 cr_0_1 (by decide)
  have hK_0_1 := elq_45 hD hth cr_0_1
  have hE_0_4_1 : ∀ j : Int, w_ei ws (w_ar ws (n_v vs 0) 4) j = w_ei w1 (w_ar ws (n_v vs 0) 4) j := el_kp s1.1 r19 cr_0_4 (by decide)
  have hK_0_4 := elq_46 hD hth cr_0_4
  have hE_1_2_1 : ∀ j : Int, 0 ≤ j → (j = v_iv (n_v vs 11) → w_ei ws (w_ar ws (n_v vs 1) 2) j = v_iv (n_v vs 21)) ∧ (j ≠ v_iv (n_v vs 11) → w_ei ws (w_ar ws (n_v vs 1) 2) j = w_ei w1 (w_ar ws (n_v vs 1) 2) j) := fun j hj => ⟨fun h => by unfold w_ei; rw [s1.1, if_pos ⟨ad_19.symm, by rw [h]⟩], fun h => by unfold w_ei; rw [s1.1, if_neg (fun e => h (by have := e.2; omega))]⟩
  have hK_1_2 := elq_9 hD hth cr_1_2
  have hE_1_3_1 : ∀ j : Int, w_ei ws (w_ar ws (n_v vs 1) 3) j = w_ei w1 (w_ar ws (n_v vs 1) 3) j := el_kp s1.1 r19 cr_1_3 (by decide)
  have hK_1_3 := elq_12 hD hth cr_1_3
  have kz_12_5 := fdq_98 hD hth r12
  have nf0 : fc_1 PRD (20, [7, 8, 4, 5, 6, 22], [60, 0, 4, 887, 1, 4, 1002, 1003]) ws (vs) := by
    refine ⟨nf_in hl rfl, sgq_447 ?_⟩
    · show COS (w_ei ws (w_ar ws (n_v vs 7) 1)) (w_ei ws (w_ar ws (n_v vs 7) 4)) (w_ei ws (w_ar ws (n_v vs 8) 2)) (w_ei ws (w_ar ws (n_v vs 8) 3)) (v_iv (n_v vs 4)) (v_iv (n_v vs 5)) (v_iv (n_v vs 6)) (v_iv (n_v vs 22))
      simp only [q7, q8]
      exact vc_Pn_shiftUnder_4_0 (v_iv (n_v vs 4)) (v_iv (n_v vs 5)) (v_iv (n_v vs 6)) (v_iv (n_v vs 9)) (v_iv (n_v vs 10)) (v_iv (n_v vs 11)) (v_iv (n_v vs 13)) (v_iv (n_v vs 15)) (v_iv (n_v vs 16)) (v_iv (n_v vs 17)) (v_iv (n_v vs 18)) (v_iv (n_v vs 20)) (v_iv (n_v vs 21)) (v_iv (n_v vs 22)) (w_ei ws (w_ar ws (n_v vs 0) 1)) (w_ei w1 (w_ar ws (n_v vs 1) 2)) (w_ei w1 (w_ar ws (n_v vs 0) 4)) (w_fi w1 (n_v vs 12) 5) (w_ei w1 (w_ar ws (n_v vs 0) 1)) (w_ei w1 (w_ar ws (n_v vs 1) 3)) (w_fi ws (n_v vs 12) 5) (w_ei ws (w_ar ws (n_v vs 0) 4)) (w_ei ws (w_ar ws (n_v vs 1) 2)) (w_ei ws (w_ar ws (n_v vs 1) 3)) k4 k5 k6 k9 k10 k11 k13 k15 k16 k17 k18 k20 k21 k22 d0 d1 d2 d3 f0 f1 f2 f6 h7 f9 f10 f11 f12 h13 f15 g16 f17 f18 f19 fe_12_5_1 hE_0_1_1 hK_0_1 hE_0_4_1 hK_0_4 hE_1_2_1 hK_1_2 hE_1_3_1 hK_1_3 kz_12_5
  refine ⟨(fun _ h => (by cases h)), [], trivial, ?_, (fun _ h => (by cases h))⟩
  rw [List.append_nil]
  exact List.forall_mem_cons.mpr ⟨⟨show (20 : Nat) < 100 from by decide, nf0⟩, (fun _ h => (by cases h))⟩
def n_Pn_shiftUnder_an : List an_T := [(3, [(0, (2, 0, 0, [7])), (1, (2, 0, 0, [0])), (2, (0, 0, 23, [])), (3, (0, 1, 2, [])), (4, (0, 0, 24, []))], [], (0, 0), [(0, 0, 99997), (1, 11, 24), (0, 0, 100000)], [(2, 9, (Int.negSucc 999999999999), 0), (3, 10, (Int.negSucc 999999999999), 0), (9, 2, (Int.negSucc 999999999999), 0), (10, 3, (Int.negSucc 999999999999), 0)], [], [(2, 0, 0, [7]), (2, 0, 0, [0]), (0, 0, 23, []), (0, 1, 2, []), (0, 3, 23, []), (0, 1, 23, []), (0, 0, 23, [])], 0, [], [(20, [7, 8, 4, 5, 6, 11], [60, 0, 4, 887, 1, 4, 1002, 1003]), (20, [10], [50, 0, 0, 2, 6, 0, 2, 0, 1, 1, 0, 0, 2, 1, 0, 0, 2]), (20, [7, 9, 4], [60, 0, 1, 891, 1]), (24, [0, 7], []), (24, [1, 8], [])])]
def t_Pn_shiftUnder_ct : ct_L := []
set_option maxRecDepth 100000 in
theorem c_Pn_shiftUnder {l : Launch} {D : va_G} {kA : Nat → ClassId} : ct_ok PRD l D kA GG y_Pn_shiftUnder z_Pn_shiftUnder e_Pn_shiftUnder := chk_all_ok (FT := [(12, 7, 0), (29, 7, 4), (86, 5, 5), (177, 0, 2)]) (PT := []) (CT := t_Pn_shiftUnder_ct) (KT := []) (NT := []) (AN := n_Pn_shiftUnder_an) (OT := [o_Pn_shiftUnder_0, o_Pn_shiftUnder_1, o_Pn_shiftUnder_2, o_Pn_shiftUnder_3, o_Pn_shiftUnder_4]) 3 200 (List.forall_mem_cons.mpr ⟨oo_Pn_shiftUnder_0, List.forall_mem_cons.mpr ⟨oo_Pn_shiftUnder_1, List.forall_mem_cons.mpr ⟨oo_Pn_shiftUnder_2, List.forall_mem_cons.mpr ⟨oo_Pn_shiftUnder_3, List.forall_mem_cons.mpr ⟨oo_Pn_shiftUnder_4, List.forall_mem_nil _⟩⟩⟩⟩⟩) (by decide +kernel) ⟨List.forall_mem_cons.mpr ⟨gf_Pn_12, List.forall_mem_cons.mpr ⟨gf_Pn_29, List.forall_mem_cons.mpr ⟨gf_Pn_86, List.forall_mem_cons.mpr ⟨gf_Pn_177, List.forall_mem_nil _⟩⟩⟩⟩, List.forall_mem_nil _, List.forall_mem_nil _, List.forall_mem_nil _, List.forall_mem_nil _, GG_pl⟩ (by decide +kernel)
set_option maxHeartbeats 4000000 in
theorem vc_Ro_enter_0_0 (x1 : Int) (x3 : Int) (list_0 : Int → Int) (entries_0 : Int) (entryState_0 : Int → Int) (width_0 : Int) (height_0 : Int) (entryNext_0 : Int → Int) (k1 : 0 ≤ x1 ∧ x1 ≤ 23999) (k3 : 0 ≤ x3 ∧ x3 ≤ 48004) (f0 : ∀ j0 : Int, 0 ≤ j0 → j0 < 4 → ((list_0 (j0) + 1) ≤ entries_0)) (f1 : ∀ j0 : Int, 0 ≤ j0 → j0 < entries_0 → ((entryState_0 (j0) + 1) ≤ (4 * (width_0 * height_0)))) (f2 : ∀ j0 : Int, 0 ≤ j0 → j0 < entries_0 → ((entryNext_0 (j0) + 1) ≤ entries_0)) (f3 : (x1 + 1) ≤ (4 * (width_0 * height_0))) (f4 : 1 * entries_0 + ((-1) * x3 + 0) ≤ 0) (f5 : (-1) * entries_0 + (1 * x3 + 0) ≤ 0) (hK_0_11 : ∀ j : Int, 0 ≤ j → j < 4 → (-1) ≤ list_0 j ∧ list_0 j ≤ 48003) (hK_0_12 : ∀ j : Int, 0 ≤ j → j < 48004 → 0 ≤ entryState_0 j ∧ entryState_0 j ≤ 23999) (hK_0_13 : ∀ j : Int, 0 ≤ j → j < 48004 → (-1) ≤ entryNext_0 j ∧ entryNext_0 j ≤ 48003) (kz_0_4 : (-2147483648) ≤ width_0 ∧ width_0 ≤ 2147483647) (kz_0_5 : (-2147483648) ≤ height_0 ∧ height_0 ≤ 2147483647) (kz_0_14 : 0 ≤ entries_0 ∧ entries_0 ≤ 48004) : 1 * x3 + ((-1) * entries_0 + 0) ≤ 0 := by
  first | assumption | (clear f0 f1 f2 hK_0_11 hK_0_12 hK_0_13; omega) | omega | grind
def o_Ro_enter_0 : or_T := (75, 6, [(0, (2, 0, 0, [9])), (1, (0, 0, 23999, [])), (3, (0, 0, 48004, []))], [(20, [0], [50, 1, 1, 14, 11, 5, 2, 0, 4, 0, 9, 4, 5, 3, 0, 11, 7, 0, 0, 1, 2, 0, 14]), (20, [0], [50, 3, 1, 14, 4, 5, 12, 5, 3, 2, 0, 14, 0, 9, 4, 5, 3, 0, 12, 7, 0, 0, 1, 6, 2, 0, 4, 6, 3, 2, 0, 4, 2, 0, 5]), (20, [0], [50, 1, 1, 14, 13, 5, 3, 2, 0, 14, 0, 9, 4, 5, 3, 0, 13, 7, 0, 0, 1, 2, 0, 14]), (20, [1, 0], [50, 2, 0, 1004, 1005, 0, 6, 4, 2, 1, 0, 0, 1, 6, 2, 0, 4, 6, 3, 2, 1, 4, 2, 1, 5]), (20, [0, 3], [30, 0, 1, 1, 14, -1, 0, 0]), (20, [0, 3], [30, 0, -1, 1, 14, 1, 0, 0])], [], [], [(20, [3, 0], [30, 0, 1, 0, 0, -1, 1, 14])], [], [])
set_option maxHeartbeats 8000000 in
theorem oo_Ro_enter_0 {kA : Nat → ClassId} : or_ok PRD kA GG o_Ro_enter_0 := by
  refine or_mk fun A ta ws vs hD hth hl => ?_
  intro t0 r0 t1 k1 t3 k3 f0 f1 f2 f3 f4 f5
  have cr_0_11 := fdq_99 hD hth r0
  have cr_0_12 := fdq_100 hD hth r0
  have cr_0_13 := fdq_101 hD hth r0
  have hK_0_11 := elq_47 hD hth cr_0_11
  have hK_0_12 := elq_48 hD hth cr_0_12
  have hK_0_13 := elq_49 hD hth cr_0_13
  have kz_0_4 := fdq_102 hD hth r0
  have kz_0_5 := fdq_103 hD hth r0
  have kz_0_14 := fdq_104 hD hth r0
  have nf0 : fc_1 PRD (20, [3, 0], [30, 0, 1, 0, 0, -1, 1, 14]) ws (vs) := ⟨nf_in hl rfl, sgq_455 (vc_Ro_enter_0_0 (v_iv (n_v vs 1)) (v_iv (n_v vs 3)) (w_ei ws (w_ar ws (n_v vs 0) 11)) (w_fi ws (n_v vs 0) 14) (w_ei ws (w_ar ws (n_v vs 0) 12)) (w_fi ws (n_v vs 0) 4) (w_fi ws (n_v vs 0) 5) (w_ei ws (w_ar ws (n_v vs 0) 13)) k1 k3 (shm_449 f0) (shm_450 f1) (shm_451 f2) (shm_452 f3) (shm_453 f4) (shm_454 f5) hK_0_11 hK_0_12 hK_0_13 kz_0_4 kz_0_5 kz_0_14)⟩
  refine ⟨(fun _ h => (by cases h)), [], trivial, ?_, (fun _ h => (by cases h))⟩
  rw [List.append_nil]
  exact List.forall_mem_cons.mpr ⟨⟨show (20 : Nat) < 100 from by decide, nf0⟩, (fun _ h => (by cases h))⟩
set_option maxHeartbeats 4000000 in
theorem vc_Ro_enter_1_0 (x1 : Int) (x3 : Int) (x6 : Int) (x7 : Int) (entries_0 : Int) (list_0 : Int → Int) (entryState_0 : Int → Int) (width_0 : Int) (height_0 : Int) (entryNext_0 : Int → Int) (k1 : 0 ≤ x1 ∧ x1 ≤ 23999) (k3 : 0 ≤ x3 ∧ x3 ≤ 48004) (k6 : 48004 ≤ x6 ∧ x6 ≤ 48004) (k7 : 48004 ≤ x7 ∧ x7 ≤ 48004) (f0 : x7 ≤ x6) (g1 : x6 = entries_0) (f2 : ∀ j0 : Int, 0 ≤ j0 → j0 < 4 → ((list_0 (j0) + 1) ≤ entries_0)) (f3 : ∀ j0 : Int, 0 ≤ j0 → j0 < entries_0 → ((entryState_0 (j0) + 1) ≤ (4 * (width_0 * height_0)))) (f4 : ∀ j0 : Int, 0 ≤ j0 → j0 < entries_0 → ((entryNext_0 (j0) + 1) ≤ entries_0)) (f5 : (x1 + 1) ≤ (4 * (width_0 * height_0))) (f6 : 1 * entries_0 + ((-1) * x3 + 0) ≤ 0) (f7 : (-1) * entries_0 + (1 * x3 + 0) ≤ 0) (hK_0_11 : ∀ j : Int, 0 ≤ j → j < 4 → (-1) ≤ list_0 j ∧ list_0 j ≤ 48003) (hK_0_12 : ∀ j : Int, 0 ≤ j → j < 48004 → 0 ≤ entryState_0 j ∧ entryState_0 j ≤ 23999) (hK_0_13 : ∀ j : Int, 0 ≤ j → j < 48004 → (-1) ≤ entryNext_0 j ∧ entryNext_0 j ≤ 48003) (kz_0_4 : (-2147483648) ≤ width_0 ∧ width_0 ≤ 2147483647) (kz_0_5 : (-2147483648) ≤ height_0 ∧ height_0 ≤ 2147483647) (kz_0_14 : 0 ≤ entries_0 ∧ entries_0 ≤ 48004) : 1 * x3 + ((-1) * entries_0 + 0) ≤ 0 := by
  first | assumption | (clear f2 f3 f4 hK_0_11 hK_0_12 hK_0_13; omega) | omega | grind
def o_Ro_enter_1 : or_T := (75, 8, [(0, (2, 0, 0, [9])), (1, (0, 0, 23999, [])), (3, (0, 0, 48004, [])), (6, (0, 48004, 48004, [])), (7, (0, 48004, 48004, []))], [(7, [6, 7], [3]), (9, [6, 0], [14]), (20, [0], [50, 1, 1, 14, 11, 5, 2, 0, 4, 0, 9, 4, 5, 3, 0, 11, 7, 0, 0, 1, 2, 0, 14]), (20, [0], [50, 3, 1, 14, 4, 5, 12, 5, 3, 2, 0, 14, 0, 9, 4, 5, 3, 0, 12, 7, 0, 0, 1, 6, 2, 0, 4, 6, 3, 2, 0, 4, 2, 0, 5]), (20, [0], [50, 1, 1, 14, 13, 5, 3, 2, 0, 14, 0, 9, 4, 5, 3, 0, 13, 7, 0, 0, 1, 2, 0, 14]), (20, [1, 0], [50, 2, 0, 1004, 1005, 0, 6, 4, 2, 1, 0, 0, 1, 6, 2, 0, 4, 6, 3, 2, 1, 4, 2, 1, 5]), (20, [0, 3], [30, 0, 1, 1, 14, -1, 0, 0]), (20, [0, 3], [30, 0, -1, 1, 14, 1, 0, 0])], [], [], [(20, [3, 0], [30, 0, 1, 0, 0, -1, 1, 14])], [], [])
set_option maxHeartbeats 8000000 in
theorem oo_Ro_enter_1 {kA : Nat → ClassId} : or_ok PRD kA GG o_Ro_enter_1 := by
  refine or_mk fun A ta ws vs hD hth hl => ?_
  intro t0 r0 t1 k1 t3 k3 t6 k6 t7 k7 f0 f1 f2 f3 f4 f5 f6 f7
  replace f1 := shm_116 f1
  have cr_0_11 := fdq_99 hD hth r0
  have cr_0_12 := fdq_100 hD hth r0
  have cr_0_13 := fdq_101 hD hth r0
  have g1 : v_iv (n_v vs 6) = w_fi ws (n_v vs 0) 14 := congrArg v_iv f1
  have hK_0_11 := elq_47 hD hth cr_0_11
  have hK_0_12 := elq_48 hD hth cr_0_12
  have hK_0_13 := elq_49 hD hth cr_0_13
  have kz_0_4 := fdq_102 hD hth r0
  have kz_0_5 := fdq_103 hD hth r0
  have kz_0_14 := fdq_104 hD hth r0
  have nf0 : fc_1 PRD (20, [3, 0], [30, 0, 1, 0, 0, -1, 1, 14]) ws (vs) := ⟨nf_in hl rfl, sgq_455 (vc_Ro_enter_1_0 (v_iv (n_v vs 1)) (v_iv (n_v vs 3)) (v_iv (n_v vs 6)) (v_iv (n_v vs 7)) (w_fi ws (n_v vs 0) 14) (w_ei ws (w_ar ws (n_v vs 0) 11)) (w_ei ws (w_ar ws (n_v vs 0) 12)) (w_fi ws (n_v vs 0) 4) (w_fi ws (n_v vs 0) 5) (w_ei ws (w_ar ws (n_v vs 0) 13)) k1 k3 k6 k7 (shm_2 f0) g1 (shm_449 f2) (shm_450 f3) (shm_451 f4) (shm_452 f5) (shm_453 f6) (shm_454 f7) hK_0_11 hK_0_12 hK_0_13 kz_0_4 kz_0_5 kz_0_14)⟩
  refine ⟨(fun _ h => (by cases h)), [], trivial, ?_, (fun _ h => (by cases h))⟩
  rw [List.append_nil]
  exact List.forall_mem_cons.mpr ⟨⟨show (20 : Nat) < 100 from by decide, nf0⟩, (fun _ h => (by cases h))⟩
def o_Ro_enter_2 : or_T := (36, 9, [(0, (2, 0, 0, [9])), (1, (0, 0, 23999, [])), (3, (0, 0, 48004, [])), (6, (0, 0, 48003, [])), (8, (2, 0, 0, [114]))], [(20, [0], [50, 1, 1, 14, 11, 5, 2, 0, 4, 0, 9, 4, 5, 3, 0, 11, 7, 0, 0, 1, 2, 0, 14]), (20, [0], [50, 1, 1, 14, 13, 5, 3, 2, 0, 14, 0, 9, 4, 5, 3, 0, 13, 7, 0, 0, 1, 2, 0, 14]), (20, [1, 0], [50, 2, 0, 1004, 1005, 0, 6, 4, 2, 1, 0, 0, 1, 6, 2, 0, 4, 6, 3, 2, 1, 4, 2, 1, 5]), (20, [0, 3], [30, 0, 1, 1, 14, -1, 0, 0]), (20, [0, 3], [30, 0, -1, 1, 14, 1, 0, 0]), (100, [8, 6, 1], []), (9, [6, 0], [14]), (9, [8, 0], [12]), (20, [0], [50, 1, 1, 14, 11, 5, 2, 0, 4, 0, 9, 4, 5, 3, 0, 11, 7, 0, 0, 1, 2, 0, 14]), (20, [0], [50, 3, 1, 14, 4, 5, 12, 5, 3, 2, 0, 14, 0, 9, 4, 5, 3, 0, 12, 7, 0, 0, 1, 6, 2, 0, 4, 6, 3, 2, 0, 4, 2, 0, 5]), (20, [0], [50, 1, 1, 14, 13, 5, 3, 2, 0, 14, 0, 9, 4, 5, 3, 0, 13, 7, 0, 0, 1, 2, 0, 14]), (20, [1, 0], [50, 2, 0, 1004, 1005, 0, 6, 4, 2, 1, 0, 0, 1, 6, 2, 0, 4, 6, 3, 2, 1, 4, 2, 1, 5]), (20, [0, 3], [30, 0, 1, 1, 14, -1, 0, 0]), (20, [0, 3], [30, 0, -1, 1, 14, 1, 0, 0])], [], [], [(20, [0], [50, 3, 1, 14, 4, 5, 12, 5, 7, 4, 3, 2, 0, 14, 0, 1, 0, 9, 4, 5, 3, 0, 12, 7, 0, 0, 1, 6, 2, 0, 4, 6, 3, 2, 0, 4, 2, 0, 5])], [], [])
set_option maxHeartbeats 8000000 in
theorem oo_Ro_enter_2 {kA : Nat → ClassId} : or_ok PRD kA GG o_Ro_enter_2 := by
  refine or_mk fun A ta ws vs hD hth hl => ?_
  intro t0 r0 t1 k1 t3 k3 t6 k6 t8 r8 f0 f1 f2 f3 f4 ta1 w1 le1 s1 f6 f7 f8 f9 f10 f11 f12 f13
  replace f0 := shm_449 f0
  replace f1 := shm_451 f1
  replace f2 := shm_452 f2
  replace f3 := shm_453 f3
  replace f4 := shm_454 f4
  have s1 : (∀ b j, w_el ws b j = if b = v_ad (n_v vs 8) ∧ j = (v_iv (n_v vs 6)).toNat then v_iv (n_v vs 1) else w_el w1 b j) ∧ ∀ b k, w_fd ws b k = w_fd w1 b k := s1.2
  replace f6 := shm_116 f6
  replace f7 := shm_103 f7
  replace f8 := shm_449 f8
  replace f9 := shm_450 f9
  replace f10 := shm_451 f10
  replace f11 := shm_452 f11
  replace f12 := shm_453 f12
  replace f13 := shm_454 f13
  have ar_0_11_1 : w_ar w1 (n_v vs 0) 11 = w_ar ws (n_v vs 0) 11 := congrArg v_ad (s1.2 _ _).symm
  have cr_0_11 := fdq_99 hD hth r0
  have ar_0_12_1 : w_ar w1 (n_v vs 0) 12 = w_ar ws (n_v vs 0) 12 := congrArg v_ad (s1.2 _ _).symm
  have cr_0_12 := fdq_100 hD hth r0
  have ar_0_13_1 : w_ar w1 (n_v vs 0) 13 = w_ar ws (n_v vs 0) 13 := congrArg v_ad (s1.2 _ _).symm
  have cr_0_13 := fdq_101 hD hth r0
  have ad_8 : v_ad (n_v vs 8) = w_ar ws (n_v vs 0) 12 := (congrArg v_ad f7).trans ar_0_12_1
  have g6 : v_iv (n_v vs 6) = w_fi w1 (n_v vs 0) 14 := congrArg v_iv f6
  simp only [ar_0_11_1, ar_0_12_1, ar_0_13_1] at f8 f9 f10
  have fe_0_4_1 : w_fi ws (n_v vs 0) 4 = w_fi w1 (n_v vs 0) 4 := congrArg v_iv (s1.2 _ _)
  have fe_0_5_1 : w_fi ws (n_v vs 0) 5 = w_fi w1 (n_v vs 0) 5 := congrArg v_iv (s1.2 _ _)
  have fe_0_14_1 : w_fi ws (n_v vs 0) 14 = w_fi w1 (n_v vs 0) 14 := congrArg v_iv (s1.2 _ _)
  have hE_0_11_1 : ∀ j : Int, w_ei ws (w_ar ws (n_v vs 0) 11) j = w_ei w1 (w_ar ws (n_v vs 0) 11) j := el_kp s1.1 r8 cr_0_11 (by decide)
  have hK_0_11 := elq_47 hD hth cr_0_11
  have hE_0_12_1 : ∀ j : Int, 0 ≤ j → (j = v_iv (n_v vs 6) → w_ei ws (w_ar ws (n_v vs 0) 12) j = v_iv (n_v vs 1)) ∧ (j ≠ v_iv (n_v vs 6) → w_ei ws (w_ar ws (n_v vs 0) 12) j = w_ei w1 (w_ar ws (n_v vs 0) 12) j) := fun j hj => ⟨fun h => by unfold w_ei; rw [s1.1, if_pos ⟨ad_8.symm, by rw [h]⟩], fun h => by unfold w_ei; rw [s1.1, if_neg (fun e => h (by have := e.2; omega))]⟩
  have hK_0_12 := elq_48 hD hth cr_0_12
  have hE_0_13_1 : ∀ j : Int, w_ei ws (w_ar ws (n_v vs 0) 13) j = w_ei w1 (w_ar ws (n_v vs 0) 13) j := el_kp s1.1 r8 cr_0_13 (by decide)
  have hK_0_13 := elq_49 hD hth cr_0_13
  have pe_0_4_5_1 : w_fi ws (n_v vs 0) 4 * w_fi ws (n_v vs 0) 5 = w_fi w1 (n_v vs 0) 4 * w_fi w1 (n_v vs 0) 5 := by rw [fe_0_4_1, fe_0_5_1]
  have kz_0_4 := fdq_102 hD hth r0
  have kz_0_5 := fdq_103 hD hth r0
  have kz_0_14 := fdq_104 hD hth r0
  first | have qi1 := (hE_0_12_1 (v_iv (n_v vs 6)) (by omega)).1 (by omega) | have qi1 := (hE_0_12_1 (v_iv (n_v vs 6)) (by omega)).2 (by omega) | skip
  first | have qi2 := f9 (v_iv (n_v vs 6)) (by omega) (by omega) | skip
  first | have qi3 := hK_0_12 (v_iv (n_v vs 6)) (by omega) (by omega) | skip
  have nf0 : fc_1 PRD (20, [0], [50, 3, 1, 14, 4, 5, 12, 5, 7, 4, 3, 2, 0, 14, 0, 1, 0, 9, 4, 5, 3, 0, 12, 7, 0, 0, 1, 6, 2, 0, 4, 6, 3, 2, 0, 4, 2, 0, 5]) ws (vs) := by
    refine ⟨nf_in hl rfl, sgq_456 ?_⟩
    · show ∀ j0 : Int, 0 ≤ j0 → j0 < (w_fi ws (n_v vs 0) 14 + 1) → ((w_ei ws (w_ar ws (n_v vs 0) 12) (j0) + 1) ≤ (4 * (w_fi ws (n_v vs 0) 4 * w_fi ws (n_v vs 0) 5)))
      first | (intro j0 hj00 hj01; (rcases Decidable.em (j0 = v_iv (n_v vs 6)) with hc3 | hc3); (have hc3v := (hE_0_12_1 (j0) hj00).1 hc3; (first | have i1 := f9 (j0) hj00 | skip); (first | have i2 := hK_0_12 (j0) hj00 | skip); omega); (have hc3v := (hE_0_12_1 (j0) hj00).2 hc3; (first | have i1 := f9 (j0) hj00 | skip); (first | have i2 := hK_0_12 (j0) hj00 | skip); omega)) | (set_option maxHeartbeats 200000 in grind)
  refine ⟨(fun _ h => (by cases h)), [], trivial, ?_, (fun _ h => (by cases h))⟩
  rw [List.append_nil]
  exact List.forall_mem_cons.mpr ⟨⟨show (20 : Nat) < 100 from by decide, nf0⟩, (fun _ h => (by cases h))⟩
def o_Ro_enter_3 : or_T := (53, 14, [(0, (2, 0, 0, [9])), (1, (0, 0, 23999, [])), (3, (0, 0, 48004, [])), (6, (0, 0, 48003, [])), (9, (2, 0, 0, [115])), (10, (2, 0, 0, [113])), (12, (0, 0, 3, [])), (13, (0, -1, 48003, []))], [(20, [0], [50, 3, 1, 14, 4, 5, 12, 5, 7, 4, 3, 2, 0, 14, 0, 1, 0, 9, 4, 5, 3, 0, 12, 7, 0, 0, 1, 6, 2, 0, 4, 6, 3, 2, 0, 4, 2, 0, 5]), (20, [0], [50, 1, 1, 14, 11, 5, 2, 0, 4, 0, 9, 4, 5, 3, 0, 11, 7, 0, 0, 1, 2, 0, 14]), (20, [1, 0], [50, 2, 0, 1004, 1005, 0, 6, 4, 2, 1, 0, 0, 1, 6, 2, 0, 4, 6, 3, 2, 1, 4, 2, 1, 5]), (20, [0, 3], [30, 0, 1, 1, 14, -1, 0, 0]), (20, [0, 3], [30, 0, -1, 1, 14, 1, 0, 0]), (100, [9, 6, 13], []), (10, [13, 10, 12], []), (9, [10, 0], [11]), (9, [6, 0], [14]), (9, [9, 0], [13]), (20, [0], [50, 3, 1, 14, 4, 5, 12, 5, 7, 4, 3, 2, 0, 14, 0, 1, 0, 9, 4, 5, 3, 0, 12, 7, 0, 0, 1, 6, 2, 0, 4, 6, 3, 2, 0, 4, 2, 0, 5]), (20, [0], [50, 1, 1, 14, 11, 5, 2, 0, 4, 0, 9, 4, 5, 3, 0, 11, 7, 0, 0, 1, 2, 0, 14]), (20, [0], [50, 1, 1, 14, 13, 5, 3, 2, 0, 14, 0, 9, 4, 5, 3, 0, 13, 7, 0, 0, 1, 2, 0, 14]), (20, [1, 0], [50, 2, 0, 1004, 1005, 0, 6, 4, 2, 1, 0, 0, 1, 6, 2, 0, 4, 6, 3, 2, 1, 4, 2, 1, 5]), (20, [0, 3], [30, 0, 1, 1, 14, -1, 0, 0]), (20, [0, 3], [30, 0, -1, 1, 14, 1, 0, 0])], [], [], [(20, [0], [50, 1, 1, 14, 13, 5, 7, 4, 3, 2, 0, 14, 0, 1, 0, 9, 4, 5, 3, 0, 13, 7, 0, 0, 1, 2, 0, 14])], [], [])
set_option maxHeartbeats 8000000 in
theorem oo_Ro_enter_3 {kA : Nat → ClassId} : or_ok PRD kA GG o_Ro_enter_3 := by
  refine or_mk fun A ta ws vs hD hth hl => ?_
  intro t0 r0 t1 k1 t3 k3 t6 k6 t9 r9 t10 r10 t12 k12 t13 k13 f0 f1 f2 f3 f4 ta1 w1 le1 s1 f6 f7 f8 f9 f10 f11 f12 f13 f14 f15
  replace f0 := shm_456 f0
  replace f1 := shm_449 f1
  replace f2 := shm_452 f2
  replace f3 := shm_453 f3
  replace f4 := shm_454 f4
  have s1 : (∀ b j, w_el ws b j = if b = v_ad (n_v vs 9) ∧ j = (v_iv (n_v vs 6)).toNat then v_iv (n_v vs 13) else w_el w1 b j) ∧ ∀ b k, w_fd ws b k = w_fd w1 b k := s1.2
  replace f6 := shm_106 f6
  replace f7 := shm_117 f7
  replace f8 := shm_116 f8
  replace f9 := shm_379 f9
  replace f10 := shm_456 f10
  replace f11 := shm_449 f11
  replace f12 := shm_451 f12
  replace f13 := shm_452 f13
  replace f14 := shm_453 f14
  replace f15 := shm_454 f15
  have ar_0_11_1 : w_ar w1 (n_v vs 0) 11 = w_ar ws (n_v vs 0) 11 := congrArg v_ad (s1.2 _ _).symm
  have cr_0_11 := fdq_99 hD hth r0
  have ar_0_12_1 : w_ar w1 (n_v vs 0) 12 = w_ar ws (n_v vs 0) 12 := congrArg v_ad (s1.2 _ _).symm
  have cr_0_12 := fdq_100 hD hth r0
  have ar_0_13_1 : w_ar w1 (n_v vs 0) 13 = w_ar ws (n_v vs 0) 13 := congrArg v_ad (s1.2 _ _).symm
  have cr_0_13 := fdq_101 hD hth r0
  have ad_10 : v_ad (n_v vs 10) = w_ar ws (n_v vs 0) 11 := (congrArg v_ad f7).trans ar_0_11_1
  have ad_9 : v_ad (n_v vs 9) = w_ar ws (n_v vs 0) 13 := (congrArg v_ad f9).trans ar_0_13_1
  simp only [ad_10] at f6
  have h6 : v_iv (n_v vs 13) = w_ei w1 (w_ar ws (n_v vs 0) 11) (v_iv (n_v vs 12)) := f6
  have g8 : v_iv (n_v vs 6) = w_fi w1 (n_v vs 0) 14 := congrArg v_iv f8
  simp only [ar_0_12_1, ar_0_11_1, ar_0_13_1] at f10 f11 f12
  have fe_0_4_1 : w_fi ws (n_v vs 0) 4 = w_fi w1 (n_v vs 0) 4 := congrArg v_iv (s1.2 _ _)
  have fe_0_5_1 : w_fi ws (n_v vs 0) 5 = w_fi w1 (n_v vs 0) 5 := congrArg v_iv (s1.2 _ _)
  have fe_0_14_1 : w_fi ws (n_v vs 0) 14 = w_fi w1 (n_v vs 0) 14 := congrArg v_iv (s1.2 _ _)
  have ee_0_11_12_1 : w_el ws (w_ar ws (n_v vs 0) 11) (v_iv (n_v vs 12)).toNat = w_el w1 (w_ar ws (n_v vs 0) 11) (v_iv (n_v vs 12)).toNat := by rw [s1.1, if_neg (fun e => by have e1 := e.1; rw [← e1] at r9; rw [cr_0_11] at r9; exact absurd (Option.some.inj r9) (by decide))]
  have br_0_11_12_0 : w_ei ws (w_ar ws (n_v vs 0) 11) (v_iv (n_v vs 12)) = w_el ws (w_ar ws (n_v vs 0) 11) (v_iv (n_v vs 12)).toNat := rfl
  have br_0_11_12_1 : w_ei w1 (w_ar ws (n_v vs 0) 11) (v_iv (n_v vs 12)) = w_el w1 (w_ar ws (n_v vs 0) 11) (v_iv (n_v vs 12)).toNat := rfl
  have hE_0_11_1 : ∀ j : Int, w_ei ws (w_ar ws (n_v vs 0) 11) j = w_ei w1 (w_ar ws (n_v vs 0) 11) j := el_kp s1.1 r9 cr_0_11 (by decide)
  have hK_0_11 := elq_47 hD hth cr_0_11
  have hE_0_12_1 : ∀ j : Int, w_ei ws (w_ar ws (n_v vs 0) 12) j = w_ei w1 (w_ar ws (n_v vs 0) 12) j := el_kp s1.1 r9 cr_0_12 (by decide)
  have hK_0_12 := elq_48 hD hth cr_0_12
  have hE_0_13_1 : ∀ j : Int, 0 ≤ j → (j = v_iv (n_v vs 6) → w_ei ws (w_ar ws (n_v vs 0) 13) j = v_iv (n_v vs 13)) ∧ (j ≠ v_iv (n_v vs 6) → w_ei ws (w_ar ws (n_v vs 0) 13) j = w_ei w1 (w_ar ws (n_v vs 0) 13) j) := fun j hj => ⟨fun h => by unfold w_ei; rw [s1.1, if_pos ⟨ad_9.symm, by rw [h]⟩], fun h => by unfold w_ei; rw [s1.1, if_neg (fun e => h (by have := e.2; omega))]⟩
  have hK_0_13 := elq_49 hD hth cr_0_13
  have pe_0_4_5_1 : w_fi ws (n_v vs 0) 4 * w_fi ws (n_v vs 0) 5 = w_fi w1 (n_v vs 0) 4 * w_fi w1 (n_v vs 0) 5 := by rw [fe_0_4_1, fe_0_5_1]
  have kz_0_4 := fdq_102 hD hth r0
  have kz_0_5 := fdq_103 hD hth r0
  have kz_0_14 := fdq_104 hD hth r0
  have qi1 := hE_0_11_1 (v_iv (n_v vs 12))
  first | have qi2 := f1 (v_iv (n_v vs 12)) (by omega) (by omega) | skip
  first | have qi3 := f11 (v_iv (n_v vs 12)) (by omega) (by omega) | skip
  first | have qi4 := hK_0_11 (v_iv (n_v vs 12)) (by omega) (by omega) | skip
  first | have qi5 := (hE_0_13_1 (v_iv (n_v vs 6)) (by omega)).1 (by omega) | have qi5 := (hE_0_13_1 (v_iv (n_v vs 6)) (by omega)).2 (by omega) | skip
  first | have qi6 := f12 (v_iv (n_v vs 6)) (by omega) (by omega) | skip
  first | have qi7 := hK_0_13 (v_iv (n_v vs 6)) (by omega) (by omega) | skip
  have nf0 : fc_1 PRD (20, [0], [50, 1, 1, 14, 13, 5, 7, 4, 3, 2, 0, 14, 0, 1, 0, 9, 4, 5, 3, 0, 13, 7, 0, 0, 1, 2, 0, 14]) ws (vs) := by
    refine ⟨nf_in hl rfl, sgq_457 ?_⟩
    · show ∀ j0 : Int, 0 ≤ j0 → j0 < (w_fi ws (n_v vs 0) 14 + 1) → ((w_ei ws (w_ar ws (n_v vs 0) 13) (j0) + 1) ≤ w_fi ws (n_v vs 0) 14)
      first | (intro j0 hj00 hj01; (rcases Decidable.em (j0 = v_iv (n_v vs 6)) with hc3 | hc3); (have hc3v := (hE_0_13_1 (j0) hj00).1 hc3; (first | have i1 := f12 (j0) hj00 | skip); (first | have i2 := hK_0_13 (j0) hj00 | skip); omega); (have hc3v := (hE_0_13_1 (j0) hj00).2 hc3; (first | have i1 := f12 (j0) hj00 | skip); (first | have i2 := hK_0_13 (j0) hj00 | skip); omega)) | (set_option maxHeartbeats 200000 in grind)
  refine ⟨(fun _ h => (by cases h)), [], trivial, ?_, (fun _ h => (by cases h))⟩
  rw [List.append_nil]
  exact List.forall_mem_cons.mpr ⟨⟨show (20 : Nat) < 100 from by decide, nf0⟩, (fun _ h => (by cases h))⟩
def o_Ro_enter_4 : or_T := (65, 16, [(0, (2, 0, 0, [9])), (1, (0, 0, 23999, [])), (3, (0, 0, 48004, [])), (6, (0, 0, 48003, [])), (10, (2, 0, 0, [113])), (15, (0, 0, 3, []))], [(20, [0], [50, 1, 1, 14, 13, 5, 7, 4, 3, 2, 0, 14, 0, 1, 0, 9, 4, 5, 3, 0, 13, 7, 0, 0, 1, 2, 0, 14]), (20, [0], [50, 3, 1, 14, 4, 5, 12, 5, 7, 4, 3, 2, 0, 14, 0, 1, 0, 9, 4, 5, 3, 0, 12, 7, 0, 0, 1, 6, 2, 0, 4, 6, 3, 2, 0, 4, 2, 0, 5]), (20, [1, 0], [50, 2, 0, 1004, 1005, 0, 6, 4, 2, 1, 0, 0, 1, 6, 2, 0, 4, 6, 3, 2, 1, 4, 2, 1, 5]), (20, [0, 3], [30, 0, 1, 1, 14, -1, 0, 0]), (20, [0, 3], [30, 0, -1, 1, 14, 1, 0, 0]), (100, [10, 15, 6], []), (9, [6, 0], [14]), (9, [10, 0], [11]), (20, [0], [50, 1, 1, 14, 13, 5, 7, 4, 3, 2, 0, 14, 0, 1, 0, 9, 4, 5, 3, 0, 13, 7, 0, 0, 1, 2, 0, 14]), (20, [0], [50, 3, 1, 14, 4, 5, 12, 5, 7, 4, 3, 2, 0, 14, 0, 1, 0, 9, 4, 5, 3, 0, 12, 7, 0, 0, 1, 6, 2, 0, 4, 6, 3, 2, 0, 4, 2, 0, 5]), (20, [0], [50, 1, 1, 14, 11, 5, 2, 0, 4, 0, 9, 4, 5, 3, 0, 11, 7, 0, 0, 1, 2, 0, 14]), (20, [1, 0], [50, 2, 0, 1004, 1005, 0, 6, 4, 2, 1, 0, 0, 1, 6, 2, 0, 4, 6, 3, 2, 1, 4, 2, 1, 5]), (20, [0, 3], [30, 0, 1, 1, 14, -1, 0, 0]), (20, [0, 3], [30, 0, -1, 1, 14, 1, 0, 0])], [], [], [(20, [0], [50, 1, 1, 14, 11, 5, 2, 0, 4, 0, 5, 3, 0, 11, 7, 0, 2, 0, 14]), (20, [0, 3], [50, 1, 0, 14, 1, 3, 2, 0, 14, 1, 1])], [], [])
set_option maxHeartbeats 8000000 in
theorem oo_Ro_enter_4 {kA : Nat → ClassId} : or_ok PRD kA GG o_Ro_enter_4 := by
  refine or_mk fun A ta ws vs hD hth hl => ?_
  intro t0 r0 t1 k1 t3 k3 t6 k6 t10 r10 t15 k15 f0 f1 f2 f3 f4 ta1 w1 le1 s1 f6 f7 f8 f9 f10 f11 f12 f13
  replace f0 := shm_457 f0
  replace f1 := shm_456 f1
  replace f2 := shm_452 f2
  replace f3 := shm_453 f3
  replace f4 := shm_454 f4
  have s1 : (∀ b j, w_el ws b j = if b = v_ad (n_v vs 10) ∧ j = (v_iv (n_v vs 15)).toNat then v_iv (n_v vs 6) else w_el w1 b j) ∧ ∀ b k, w_fd ws b k = w_fd w1 b k := s1.2
  replace f6 := shm_116 f6
  replace f7 := shm_117 f7
  replace f8 := shm_457 f8
  replace f9 := shm_456 f9
  replace f10 := shm_449 f10
  replace f11 := shm_452 f11
  replace f12 := shm_453 f12
  replace f13 := shm_454 f13
  have ar_0_11_1 : w_ar w1 (n_v vs 0) 11 = w_ar ws (n_v vs 0) 11 := congrArg v_ad (s1.2 _ _).symm
  have cr_0_11 := fdq_99 hD hth r0
  have ar_0_12_1 : w_ar w1 (n_v vs 0) 12 = w_ar ws (n_v vs 0) 12 := congrArg v_ad (s1.2 _ _).symm
  have cr_0_12 := fdq_100 hD hth r0
  have ar_0_13_1 : w_ar w1 (n_v vs 0) 13 = w_ar ws (n_v vs 0) 13 := congrArg v_ad (s1.2 _ _).symm
  have cr_0_13 := fdq_101 hD hth r0
  have ad_10 : v_ad (n_v vs 10) = w_ar ws (n_v vs 0) 11 := (congrArg v_ad f7).trans ar_0_11_1
  have g6 : v_iv (n_v vs 6) = w_fi w1 (n_v vs 0) 14 := congrArg v_iv f6
  simp only [ar_0_13_1, ar_0_12_1, ar_0_11_1] at f8 f9 f10
  have fe_0_4_1 : w_fi ws (n_v vs 0) 4 = w_fi w1 (n_v vs 0) 4 := congrArg v_iv (s1.2 _ _)
  have fe_0_5_1 : w_fi ws (n_v vs 0) 5 = w_fi w1 (n_v vs 0) 5 := congrArg v_iv (s1.2 _ _)
  have fe_0_14_1 : w_fi ws (n_v vs 0) 14 = w_fi w1 (n_v vs 0) 14 := congrArg v_iv (s1.2 _ _)
  have hE_0_11_1 : ∀ j : Int, 0 ≤ j → (j = v_iv (n_v vs 15) → w_ei ws (w_ar ws (n_v vs 0) 11) j = v_iv (n_v vs 6)) ∧ (j ≠ v_iv (n_v vs 15) → w_ei ws (w_ar ws (n_v vs 0) 11) j = w_ei w1 (w_ar ws (n_v vs 0) 11) j) := fun j hj => ⟨fun h => by unfold w_ei; rw [s1.1, if_pos ⟨ad_10.symm, by rw [h]⟩], fun h => by unfold w_ei; rw [s1.1, if_neg (fun e => h (by have := e.2; omega))]⟩
  have hK_0_11 := elq_47 hD hth cr_0_11
  have hE_0_12_1 : ∀ j : Int, w_ei ws (w_ar ws (n_v vs 0) 12) j = w_ei w1 (w_ar ws (n_v vs 0) 12) j := el_kp s1.1 r10 cr_0_12 (by decide)
  have hK_0_12 := elq_48 hD hth cr_0_12
  have hE_0_13_1 : ∀ j : Int, w_ei ws (w_ar ws (n_v vs 0) 13) j = w_ei w1 (w_ar ws (n_v vs 0) 13) j := el_kp s1.1 r10 cr_0_13 (by decide)
  have hK_0_13 := elq_49 hD hth cr_0_13
  have pe_0_4_5_1 : w_fi ws (n_v vs 0) 4 * w_fi ws (n_v vs 0) 5 = w_fi w1 (n_v vs 0) 4 * w_fi w1 (n_v vs 0) 5 := by rw [fe_0_4_1, fe_0_5_1]
  have kz_0_4 := fdq_102 hD hth r0
  have kz_0_5 := fdq_103 hD hth r0
  have kz_0_14 := fdq_104 hD hth r0
  first | have qi1 := (hE_0_11_1 (v_iv (n_v vs 15)) (by omega)).1 (by omega) | have qi1 := (hE_0_11_1 (v_iv (n_v vs 15)) (by omega)).2 (by omega) | skip
  first | have qi2 := f10 (v_iv (n_v vs 15)) (by omega) (by omega) | skip
  first | have qi3 := hK_0_11 (v_iv (n_v vs 15)) (by omega) (by omega) | skip
  have nf0 : fc_1 PRD (20, [0], [50, 1, 1, 14, 11, 5, 2, 0, 4, 0, 5, 3, 0, 11, 7, 0, 2, 0, 14]) ws (vs) := by
    refine ⟨nf_in hl rfl, sgq_458 ?_⟩
    · show ∀ j0 : Int, 0 ≤ j0 → j0 < 4 → (w_ei ws (w_ar ws (n_v vs 0) 11) (j0) ≤ w_fi ws (n_v vs 0) 14)
      first | (intro j0 hj00 hj01; (rcases Decidable.em (j0 = v_iv (n_v vs 15)) with hc3 | hc3); (have hc3v := (hE_0_11_1 (j0) hj00).1 hc3; (first | have i1 := f10 (j0) hj00 | skip); (first | have i2 := hK_0_11 (j0) hj00 | skip); omega); (have hc3v := (hE_0_11_1 (j0) hj00).2 hc3; (first | have i1 := f10 (j0) hj00 | skip); (first | have i2 := hK_0_11 (j0) hj00 | skip); omega)) | (set_option maxHeartbeats 200000 in grind)
  have nf1 : fc_1 PRD (20, [0, 3], [50, 1, 0, 14, 1, 3, 2, 0, 14, 1, 1]) ws (vs) := by
    refine ⟨nf_in hl rfl, sgq_459 ?_⟩
    · show w_fi ws (n_v vs 0) 14 = v_iv (n_v vs 3)
      first | (omega) | (set_option maxHeartbeats 200000 in grind)
  refine ⟨(fun _ h => (by cases h)), [], trivial, ?_, (fun _ h => (by cases h))⟩
  rw [List.append_nil]
  exact List.forall_mem_cons.mpr ⟨⟨show (20 : Nat) < 100 from by decide, nf0⟩, List.forall_mem_cons.mpr ⟨⟨show (20 : Nat) < 100 from by decide, nf1⟩, (fun _ h => (by cases h))⟩⟩
def o_Ro_enter_5 : or_T := (75, 18, [(0, (2, 0, 0, [9])), (1, (0, 0, 23999, [])), (3, (0, 0, 48004, [])), (6, (0, 0, 48003, [])), (16, (0, 1, 1, [])), (17, (0, 1, 48004, []))], [(20, [1, 0], [50, 2, 0, 1004, 1005, 0, 6, 4, 2, 1, 0, 0, 1, 6, 2, 0, 4, 6, 3, 2, 1, 4, 2, 1, 5]), (101, [0, 17], [14]), (1, [17, 6, 16], []), (9, [6, 0], [14]), (20, [0], [50, 1, 1, 14, 11, 5, 2, 0, 4, 0, 5, 3, 0, 11, 7, 0, 2, 0, 14]), (20, [0, 3], [50, 1, 0, 14, 1, 3, 2, 0, 14, 1, 1]), (20, [0], [50, 1, 1, 14, 13, 5, 7, 4, 3, 2, 0, 14, 0, 1, 0, 9, 4, 5, 3, 0, 13, 7, 0, 0, 1, 2, 0, 14]), (20, [0], [50, 3, 1, 14, 4, 5, 12, 5, 7, 4, 3, 2, 0, 14, 0, 1, 0, 9, 4, 5, 3, 0, 12, 7, 0, 0, 1, 6, 2, 0, 4, 6, 3, 2, 0, 4, 2, 0, 5]), (20, [1, 0], [50, 2, 0, 1004, 1005, 0, 6, 4, 2, 1, 0, 0, 1, 6, 2, 0, 4, 6, 3, 2, 1, 4, 2, 1, 5]), (20, [0, 3], [30, 0, 1, 1, 14, -1, 0, 0]), (20, [0, 3], [30, 0, -1, 1, 14, 1, 0, 0])], [], [], [(20, [0], [50, 1, 1, 14, 11, 5, 2, 0, 4, 0, 9, 4, 5, 3, 0, 11, 7, 0, 0, 1, 2, 0, 14]), (20, [0], [50, 3, 1, 14, 4, 5, 12, 5, 3, 2, 0, 14, 0, 9, 4, 5, 3, 0, 12, 7, 0, 0, 1, 6, 2, 0, 4, 6, 3, 2, 0, 4, 2, 0, 5]), (20, [0], [50, 1, 1, 14, 13, 5, 3, 2, 0, 14, 0, 9, 4, 5, 3, 0, 13, 7, 0, 0, 1, 2, 0, 14]), (20, [3, 0], [30, 0, 1, 0, 0, -1, 1, 14])], [], [(17, 6, 1, 1)])
set_option maxHeartbeats 8000000 in
theorem oo_Ro_enter_5 {kA : Nat → ClassId} : or_ok PRD kA GG o_Ro_enter_5 := by
  refine or_mk fun A ta ws vs hD hth hl => ?_
  intro t0 r0 t1 k1 t3 k3 t6 k6 t16 k16 t17 k17 d0 f0 ta1 w1 le1 s1 f2 f3 f4 f5 f6 f7 f8 f9 f10
  replace f0 := shm_452 f0
  have s1 : (∀ b j, w_el ws b j = w_el w1 b j) ∧ ∀ b j, w_fd ws b j = if b = v_ad (n_v vs 0) ∧ j = 14 then n_v vs 17 else w_fd w1 b j := s1.2
  replace f2 := shm_12 f2
  replace f3 := shm_116 f3
  replace f4 := shm_458 f4
  replace f5 := shm_459 f5
  replace f6 := shm_457 f6
  replace f7 := shm_456 f7
  replace f8 := shm_452 f8
  replace f9 := shm_453 f9
  replace f10 := shm_454 f10
  have ar_0_11_1 : w_ar w1 (n_v vs 0) 11 = w_ar ws (n_v vs 0) 11 := by show v_ad (w_fd w1 _ _) = v_ad (w_fd ws _ _); rw [s1.2, if_neg (fun e => absurd e.2 (by decide))]
  have cr_0_11 := fdq_99 hD hth r0
  have ar_0_12_1 : w_ar w1 (n_v vs 0) 12 = w_ar ws (n_v vs 0) 12 := by show v_ad (w_fd w1 _ _) = v_ad (w_fd ws _ _); rw [s1.2, if_neg (fun e => absurd e.2 (by decide))]
  have cr_0_12 := fdq_100 hD hth r0
  have ar_0_13_1 : w_ar w1 (n_v vs 0) 13 = w_ar ws (n_v vs 0) 13 := by show v_ad (w_fd w1 _ _) = v_ad (w_fd ws _ _); rw [s1.2, if_neg (fun e => absurd e.2 (by decide))]
  have cr_0_13 := fdq_101 hD hth r0
  have g3 : v_iv (n_v vs 6) = w_fi w1 (n_v vs 0) 14 := congrArg v_iv f3
  simp only [ar_0_11_1, ar_0_13_1, ar_0_12_1] at f4 f6 f7
  have fe_0_4_1 : w_fi ws (n_v vs 0) 4 = w_fi w1 (n_v vs 0) 4 := by show v_iv (w_fd _ _ _) = v_iv (w_fd _ _ _); rw [s1.2, if_neg (fun e => absurd e.2 (by decide))]
  have fe_0_5_1 : w_fi ws (n_v vs 0) 5 = w_fi w1 (n_v vs 0) 5 := by show v_iv (w_fd _ _ _) = v_iv (w_fd _ _ _); rw [s1.2, if_neg (fun e => absurd e.2 (by decide))]
  have fe_0_14_1 : w_fi ws (n_v vs 0) 14 = v_iv (n_v vs 17) := by show v_iv (w_fd _ _ _) = _; rw [s1.2, if_pos ⟨rfl, rfl⟩]
  have hE_0_11_1 : ∀ j : Int, w_ei ws (w_ar ws (n_v vs 0) 11) j = w_ei w1 (w_ar ws (n_v vs 0) 11) j := fun j => s1.1 _ _
  have hK_0_11 := elq_47 hD hth cr_0_11
  have hE_0_12_1 : ∀ j : Int, w_ei ws (w_ar ws (n_v vs 0) 12) j = w_ei w1 (w_ar ws (n_v vs 0) 12) j := fun j => s1.1 _ _
  have hK_0_12 := elq_48 hD hth cr_0_12
  have hE_0_13_1 : ∀ j : Int, w_ei ws (w_ar ws (n_v vs 0) 13) j = w_ei w1 (w_ar ws (n_v vs 0) 13) j := fun j => s1.1 _ _
  have hK_0_13 := elq_49 hD hth cr_0_13
  have pe_0_4_5_1 : w_fi ws (n_v vs 0) 4 * w_fi ws (n_v vs 0) 5 = w_fi w1 (n_v vs 0) 4 * w_fi w1 (n_v vs 0) 5 := by rw [fe_0_4_1, fe_0_5_1]
  have kz_0_4 := fdq_102 hD hth r0
  have kz_0_5 := fdq_103 hD hth r0
  have kz_0_14 := fdq_104 hD hth r0
  have nf0 : fc_1 PRD (20, [0], [50, 1, 1, 14, 11, 5, 2, 0, 4, 0, 9, 4, 5, 3, 0, 11, 7, 0, 0, 1, 2, 0, 14]) ws (vs) := by
    refine ⟨nf_in hl rfl, sgq_449 ?_⟩
    · show ∀ j0 : Int, 0 ≤ j0 → j0 < 4 → ((w_ei ws (w_ar ws (n_v vs 0) 11) (j0) + 1) ≤ w_fi ws (n_v vs 0) 14)
      first | (intro j0 hj00 hj01; (first | have i1 := f4 (j0) hj00 | skip); (first | have i2 := hK_0_11 (j0) hj00 | skip); (first | have i3 := hE_0_11_1 (j0) | skip); omega) | (set_option maxHeartbeats 200000 in grind)
  have nf1 : fc_1 PRD (20, [0], [50, 3, 1, 14, 4, 5, 12, 5, 3, 2, 0, 14, 0, 9, 4, 5, 3, 0, 12, 7, 0, 0, 1, 6, 2, 0, 4, 6, 3, 2, 0, 4, 2, 0, 5]) ws (vs) := by
    refine ⟨nf_in hl rfl, sgq_450 ?_⟩
    · show ∀ j0 : Int, 0 ≤ j0 → j0 < w_fi ws (n_v vs 0) 14 → ((w_ei ws (w_ar ws (n_v vs 0) 12) (j0) + 1) ≤ (4 * (w_fi ws (n_v vs 0) 4 * w_fi ws (n_v vs 0) 5)))
      first | (intro j0 hj00 hj01; (first | have i1 := f7 (j0) hj00 | skip); (first | have i2 := hK_0_12 (j0) hj00 | skip); (first | have i3 := hE_0_12_1 (j0) | skip); omega) | (set_option maxHeartbeats 200000 in grind)
  have nf2 : fc_1 PRD (20, [0], [50, 1, 1, 14, 13, 5, 3, 2, 0, 14, 0, 9, 4, 5, 3, 0, 13, 7, 0, 0, 1, 2, 0, 14]) ws (vs) := by
    refine ⟨nf_in hl rfl, sgq_451 ?_⟩
    · show ∀ j0 : Int, 0 ≤ j0 → j0 < w_fi ws (n_v vs 0) 14 → ((w_ei ws (w_ar ws (n_v vs 0) 13) (j0) + 1) ≤ w_fi ws (n_v vs 0) 14)
      first | (intro j0 hj00 hj01; (first | have i1 := f6 (j0) hj00 | skip); (first | have i2 := hK_0_13 (j0) hj00 | skip); (first | have i3 := hE_0_13_1 (j0) | skip); omega) | (set_option maxHeartbeats 200000 in grind)
  have nf3 : fc_1 PRD (20, [3, 0], [30, 0, 1, 0, 0, -1, 1, 14]) ws (vs) := by
    refine ⟨nf_in hl rfl, sgq_455 ?_⟩
    · show 1 * v_iv (n_v vs 3) + ((-1) * w_fi ws (n_v vs 0) 14 + 0) ≤ 0
      omega
  refine ⟨(fun _ h => (by cases h)), [], trivial, ?_, (fun _ h => (by cases h))⟩
  rw [List.append_nil]
  exact List.forall_mem_cons.mpr ⟨⟨show (20 : Nat) < 100 from by decide, nf0⟩, List.forall_mem_cons.mpr ⟨⟨show (20 : Nat) < 100 from by decide, nf1⟩, List.forall_mem_cons.mpr ⟨⟨show (20 : Nat) < 100 from by decide, nf2⟩, List.forall_mem_cons.mpr ⟨⟨show (20 : Nat) < 100 from by decide, nf3⟩, (fun _ h => (by cases h))⟩⟩⟩⟩
def n_Ro_enter_an : List an_T := []
def t_Ro_enter_ct : ct_L := []
set_option maxRecDepth 100000 in
theorem c_Ro_enter {l : Launch} {D : va_G} {kA : Nat → ClassId} : ct_ok PRD l D kA GG y_Ro_enter z_Ro_enter e_Ro_enter := chk_all_ok (FT := [(45, 9, 10), (49, 9, 11), (53, 9, 12), (56, 9, 13), (59, 9, 14)]) (PT := [(59, 9, 14, .int)]) (CT := t_Ro_enter_ct) (KT := [(0, 52, .int (48004), (0, 48004, 48004, []))]) (NT := []) (AN := n_Ro_enter_an) (OT := [o_Ro_enter_0, o_Ro_enter_1, o_Ro_enter_2, o_Ro_enter_3, o_Ro_enter_4, o_Ro_enter_5]) 0 200 (List.forall_mem_cons.mpr ⟨oo_Ro_enter_0, List.forall_mem_cons.mpr ⟨oo_Ro_enter_1, List.forall_mem_cons.mpr ⟨oo_Ro_enter_2, List.forall_mem_cons.mpr ⟨oo_Ro_enter_3, List.forall_mem_cons.mpr ⟨oo_Ro_enter_4, List.forall_mem_cons.mpr ⟨oo_Ro_enter_5, List.forall_mem_nil _⟩⟩⟩⟩⟩⟩) (by decide +kernel) ⟨List.forall_mem_cons.mpr ⟨gf_Ro_45, List.forall_mem_cons.mpr ⟨gf_Ro_49, List.forall_mem_cons.mpr ⟨gf_Ro_53, List.forall_mem_cons.mpr ⟨gf_Ro_56, List.forall_mem_cons.mpr ⟨gf_Ro_59, List.forall_mem_nil _⟩⟩⟩⟩⟩, List.forall_mem_cons.mpr ⟨pf_Ro_59, List.forall_mem_nil _⟩, List.forall_mem_nil _, List.forall_mem_cons.mpr ⟨kx_Ro_0_52, List.forall_mem_nil _⟩, List.forall_mem_nil _, GG_pl⟩ (by decide +kernel)

def o_Ro_next_0 : or_T := (5, 4, [(0, (2, 0, 0, [9])), (1, (0, 0, 5999, [])), (3, (0, -2147483648, 2147483647, []))], [(9, [3, 0], [4]), (20, [0], [50, 2, 0, 4, 5, 2, 7, 0, 2, 0, 1, 2, 0, 4, 2, 7, 0, 2, 0, 1, 2, 0, 5, 0, 8, 6, 3, 2, 0, 4, 2, 0, 5, 0, 6000]), (20, [1, 0], [50, 2, 0, 1004, 1005, 0, 6, 4, 2, 1, 0, 0, 1, 6, 3, 2, 1, 4, 2, 1, 5])], [(3, (0, 1, 6000, []))], [], [], [], [])
theorem oo_Ro_next_0 {kA : Nat → ClassId} : or_ok PRD kA GG o_Ro_next_0 := by
  refine or_mk fun A ta ws vs hD hth hl => ?_
  intro t0 r0 t1 k1 t3 k3 f0 f1 f2
  replace f0 := shm_107 f0
  replace f1 := shm_460 f1
  replace f2 := shm_461 f2
  have g0 : v_iv (n_v vs 3) = w_fi ws (n_v vs 0) 4 := congrArg v_iv f0
  have kz_0_4 := fdq_102 hD hth r0
  have kz_0_5 := fdq_103 hD hth r0
  have g1 := grid_bd (w := w_fi ws (n_v vs 0) 4) (h := w_fi ws (n_v vs 0) 5) (by omega) (by omega) (by omega)
  have rf3 : tv_ok ta (0, 1, 6000, []) (n_v vs 3) := tv_in t3 (by first | omega | grind) (by first | omega | grind)
  refine ⟨List.forall_mem_cons.mpr ⟨rf3, (fun _ h => (by cases h))⟩, [], trivial, ?_, (fun _ h => (by cases h))⟩
  rw [List.append_nil]
  exact (fun _ h => (by cases h))
def o_Ro_next_1 : or_T := (114, 7, [(0, (2, 0, 0, [9])), (1, (0, 0, 5999, [])), (3, (0, 1, 6000, [])), (4, (0, 0, 5999, [])), (5, (0, -6000, -1, [])), (6, (0, -1, -1, []))], [(8, [5], [2]), (2, [5, 1, 3], []), (9, [3, 0], [4]), (5, [4, 1, 3], []), (20, [0], [50, 2, 0, 4, 5, 2, 7, 0, 2, 0, 1, 2, 0, 4, 2, 7, 0, 2, 0, 1, 2, 0, 5, 0, 8, 6, 3, 2, 0, 4, 2, 0, 5, 0, 6000]), (20, [1, 0], [50, 2, 0, 1004, 1005, 0, 6, 4, 2, 1, 0, 0, 1, 6, 3, 2, 1, 4, 2, 1, 5])], [], [], [(20, [6, 0], [50, 2, 0, 1004, 1005, 3, 6, 1, 2, 1, 0, 0, -1, 2, 6, 0, 2, 0, 0, 1, 0, 0, 6, 4, 2, 1, 0, 0, 1, 6, 3, 2, 1, 4, 2, 1, 5])], [], [(5, 1, -6000, -1), (4, 3, -4294967295, -1)])
theorem oo_Ro_next_1 {kA : Nat → ClassId} : or_ok PRD kA GG o_Ro_next_1 := by
  refine or_mk fun A ta ws vs hD hth hl => ?_
  intro t0 r0 t1 k1 t3 k3 t4 k4 t5 k5 t6 k6 d0 d1 f0 f1 f2 f3 f4 f5
  replace f0 := shm_39 f0
  replace f1 := shm_14 f1
  replace f2 := shm_107 f2
  replace f3 := shm_462 f3
  replace f4 := shm_460 f4
  replace f5 := shm_461 f5
  have g2 : v_iv (n_v vs 3) = w_fi ws (n_v vs 0) 4 := congrArg v_iv f2
  have kz_0_4 := fdq_102 hD hth r0
  have kz_0_5 := fdq_103 hD hth r0
  have g1 := grid_bd (w := w_fi ws (n_v vs 0) 4) (h := w_fi ws (n_v vs 0) 5) (by omega) (by omega) (by omega)
  have nf0 : fc_1 PRD (20, [6, 0], [50, 2, 0, 1004, 1005, 3, 6, 1, 2, 1, 0, 0, -1, 2, 6, 0, 2, 0, 0, 1, 0, 0, 6, 4, 2, 1, 0, 0, 1, 6, 3, 2, 1, 4, 2, 1, 5]) ws (vs) := by
    refine ⟨nf_in hl rfl, sgq_463 ?_⟩
    · show (v_iv (n_v vs 6) = (-1)) ∨ ((0 ≤ v_iv (n_v vs 6)) ∧ ((v_iv (n_v vs 6) + 1) ≤ (w_fi ws (n_v vs 0) 4 * w_fi ws (n_v vs 0) 5)))
      first | omega | grind
  refine ⟨(fun _ h => (by cases h)), [], trivial, ?_, (fun _ h => (by cases h))⟩
  rw [List.append_nil]
  exact List.forall_mem_cons.mpr ⟨⟨show (20 : Nat) < 100 from by decide, nf0⟩, (fun _ h => (by cases h))⟩
def o_Ro_next_2 : or_T := (114, 7, [(0, (2, 0, 0, [9])), (1, (0, 1, 5999, [])), (3, (0, 1, 6000, [])), (4, (0, 0, 5999, [])), (5, (0, 0, 5998, [])), (6, (0, -5999, 5998, []))], [(2, [6, 1, 3], []), (9, [3, 0], [4]), (8, [5], [3]), (2, [5, 1, 3], []), (5, [4, 1, 3], []), (20, [0], [50, 2, 0, 4, 5, 2, 7, 0, 2, 0, 1, 2, 0, 4, 2, 7, 0, 2, 0, 1, 2, 0, 5, 0, 8, 6, 3, 2, 0, 4, 2, 0, 5, 0, 6000]), (20, [1, 0], [50, 2, 0, 1004, 1005, 0, 6, 4, 2, 1, 0, 0, 1, 6, 3, 2, 1, 4, 2, 1, 5])], [(6, (0, -1, 5998, []))], [], [(20, [6, 0], [50, 2, 0, 1004, 1005, 3, 6, 1, 2, 1, 0, 0, -1, 2, 6, 0, 2, 0, 0, 1, 0, 0, 6, 4, 2, 1, 0, 0, 1, 6, 3, 2, 1, 4, 2, 1, 5])], [], [(6, 1, -6000, -1), (5, 1, -6000, -1), (4, 3, -4294967295, -1)])
theorem oo_Ro_next_2 {kA : Nat → ClassId} : or_ok PRD kA GG o_Ro_next_2 := by
  refine or_mk fun A ta ws vs hD hth hl => ?_
  intro t0 r0 t1 k1 t3 k3 t4 k4 t5 k5 t6 k6 d0 d1 d2 f0 f1 f2 f3 f4 f5 f6
  replace f0 := shm_14 f0
  replace f1 := shm_107 f1
  replace f2 := shm_32 f2
  replace f3 := shm_14 f3
  replace f4 := shm_462 f4
  replace f5 := shm_460 f5
  replace f6 := shm_461 f6
  have g1 : v_iv (n_v vs 3) = w_fi ws (n_v vs 0) 4 := congrArg v_iv f1
  have kz_0_4 := fdq_102 hD hth r0
  have kz_0_5 := fdq_103 hD hth r0
  have g1 := grid_bd (w := w_fi ws (n_v vs 0) 4) (h := w_fi ws (n_v vs 0) 5) (by omega) (by omega) (by omega)
  have nf0 : fc_1 PRD (20, [6, 0], [50, 2, 0, 1004, 1005, 3, 6, 1, 2, 1, 0, 0, -1, 2, 6, 0, 2, 0, 0, 1, 0, 0, 6, 4, 2, 1, 0, 0, 1, 6, 3, 2, 1, 4, 2, 1, 5]) ws (vs) := by
    refine ⟨nf_in hl rfl, sgq_463 ?_⟩
    · show (v_iv (n_v vs 6) = (-1)) ∨ ((0 ≤ v_iv (n_v vs 6)) ∧ ((v_iv (n_v vs 6) + 1) ≤ (w_fi ws (n_v vs 0) 4 * w_fi ws (n_v vs 0) 5)))
      first | omega | grind
  have rf6 : tv_ok ta (0, -1, 5998, []) (n_v vs 6) := tv_in t6 (by first | omega | grind) (by first | omega | grind)
  refine ⟨List.forall_mem_cons.mpr ⟨rf6, (fun _ h => (by cases h))⟩, [], trivial, ?_, (fun _ h => (by cases h))⟩
  rw [List.append_nil]
  exact List.forall_mem_cons.mpr ⟨⟨show (20 : Nat) < 100 from by decide, nf0⟩, (fun _ h => (by cases h))⟩
def o_Ro_next_3 : or_T := (53, 8, [(0, (2, 0, 0, [9])), (1, (0, 0, 5999, [])), (3, (0, 1, 6000, [])), (4, (0, 0, 5999, [])), (5, (0, 1, 1, [])), (6, (0, 1, 6000, [])), (7, (0, -1, -1, []))], [(7, [6, 3], [3]), (9, [3, 0], [4]), (1, [6, 4, 5], []), (5, [4, 1, 3], []), (20, [0], [50, 2, 0, 4, 5, 2, 7, 0, 2, 0, 1, 2, 0, 4, 2, 7, 0, 2, 0, 1, 2, 0, 5, 0, 8, 6, 3, 2, 0, 4, 2, 0, 5, 0, 6000]), (20, [1, 0], [50, 2, 0, 1004, 1005, 0, 6, 4, 2, 1, 0, 0, 1, 6, 3, 2, 1, 4, 2, 1, 5])], [], [], [(20, [7, 0], [50, 2, 0, 1004, 1005, 3, 6, 1, 2, 1, 0, 0, -1, 2, 6, 0, 2, 0, 0, 1, 0, 0, 6, 4, 2, 1, 0, 0, 1, 6, 3, 2, 1, 4, 2, 1, 5])], [], [(6, 3, 0, 4294967296), (6, 4, 1, 1), (6, 3, -4294967294, 0), (4, 3, -4294967295, -1)])
theorem oo_Ro_next_3 {kA : Nat → ClassId} : or_ok PRD kA GG o_Ro_next_3 := by
  refine or_mk fun A ta ws vs hD hth hl => ?_
  intro t0 r0 t1 k1 t3 k3 t4 k4 t5 k5 t6 k6 t7 k7 d0 d1 d2 d3 f0 f1 f2 f3 f4 f5
  replace f0 := shm_2 f0
  replace f1 := shm_107 f1
  replace f2 := shm_12 f2
  replace f3 := shm_462 f3
  replace f4 := shm_460 f4
  replace f5 := shm_461 f5
  have g1 : v_iv (n_v vs 3) = w_fi ws (n_v vs 0) 4 := congrArg v_iv f1
  have kz_0_4 := fdq_102 hD hth r0
  have kz_0_5 := fdq_103 hD hth r0
  have g1 := grid_bd (w := w_fi ws (n_v vs 0) 4) (h := w_fi ws (n_v vs 0) 5) (by omega) (by omega) (by omega)
  first | have g2 := nx_right (c := v_iv (n_v vs 4)) (p := v_iv (n_v vs 1)) (w := v_iv (n_v vs 3)) (W := w_fi ws (n_v vs 0) 4) (h := w_fi ws (n_v vs 0) 5) (by assumption) (by omega) (by omega) (by omega) (by omega) (by omega) | skip
  have nf0 : fc_1 PRD (20, [7, 0], [50, 2, 0, 1004, 1005, 3, 6, 1, 2, 1, 0, 0, -1, 2, 6, 0, 2, 0, 0, 1, 0, 0, 6, 4, 2, 1, 0, 0, 1, 6, 3, 2, 1, 4, 2, 1, 5]) ws (vs) := by
    refine ⟨nf_in hl rfl, sgq_463 ?_⟩
    · show (v_iv (n_v vs 7) = (-1)) ∨ ((0 ≤ v_iv (n_v vs 7)) ∧ ((v_iv (n_v vs 7) + 1) ≤ (w_fi ws (n_v vs 0) 4 * w_fi ws (n_v vs 0) 5)))
      first | omega | grind
  refine ⟨(fun _ h => (by cases h)), [], trivial, ?_, (fun _ h => (by cases h))⟩
  rw [List.append_nil]
  exact List.forall_mem_cons.mpr ⟨⟨show (20 : Nat) < 100 from by decide, nf0⟩, (fun _ h => (by cases h))⟩
def o_Ro_next_4 : or_T := (53, 9, [(0, (2, 0, 0, [9])), (1, (0, 0, 5999, [])), (3, (0, 2, 6000, [])), (4, (0, 0, 5998, [])), (5, (0, 1, 1, [])), (6, (0, 1, 5999, [])), (7, (0, 1, 1, [])), (8, (0, 1, 6000, []))], [(1, [8, 1, 7], []), (7, [6, 3], [2]), (9, [3, 0], [4]), (1, [6, 4, 5], []), (5, [4, 1, 3], []), (20, [0], [50, 2, 0, 4, 5, 2, 7, 0, 2, 0, 1, 2, 0, 4, 2, 7, 0, 2, 0, 1, 2, 0, 5, 0, 8, 6, 3, 2, 0, 4, 2, 0, 5, 0, 6000]), (20, [1, 0], [50, 2, 0, 1004, 1005, 0, 6, 4, 2, 1, 0, 0, 1, 6, 3, 2, 1, 4, 2, 1, 5])], [(8, (0, 1, 5999, []))], [], [(20, [8, 0], [50, 2, 0, 1004, 1005, 3, 6, 1, 2, 1, 0, 0, -1, 2, 6, 0, 2, 0, 0, 1, 0, 0, 6, 4, 2, 1, 0, 0, 1, 6, 3, 2, 1, 4, 2, 1, 5])], [], [(8, 1, 1, 1), (6, 3, -4294967296, -1), (6, 4, 1, 1), (6, 3, -4294967294, 0), (4, 3, -4294967295, -1)])
theorem oo_Ro_next_4 {kA : Nat → ClassId} : or_ok PRD kA GG o_Ro_next_4 := by
  refine or_mk fun A ta ws vs hD hth hl => ?_
  intro t0 r0 t1 k1 t3 k3 t4 k4 t5 k5 t6 k6 t7 k7 t8 k8 d0 d1 d2 d3 d4 f0 f1 f2 f3 f4 f5 f6
  replace f0 := shm_12 f0
  replace f1 := shm_6 f1
  replace f2 := shm_107 f2
  replace f3 := shm_12 f3
  replace f4 := shm_462 f4
  replace f5 := shm_460 f5
  replace f6 := shm_461 f6
  have g2 : v_iv (n_v vs 3) = w_fi ws (n_v vs 0) 4 := congrArg v_iv f2
  have kz_0_4 := fdq_102 hD hth r0
  have kz_0_5 := fdq_103 hD hth r0
  have g1 := grid_bd (w := w_fi ws (n_v vs 0) 4) (h := w_fi ws (n_v vs 0) 5) (by omega) (by omega) (by omega)
  first | have g2 := nx_right (c := v_iv (n_v vs 4)) (p := v_iv (n_v vs 1)) (w := v_iv (n_v vs 3)) (W := w_fi ws (n_v vs 0) 4) (h := w_fi ws (n_v vs 0) 5) (by assumption) (by omega) (by omega) (by omega) (by omega) (by omega) | skip
  have nf0 : fc_1 PRD (20, [8, 0], [50, 2, 0, 1004, 1005, 3, 6, 1, 2, 1, 0, 0, -1, 2, 6, 0, 2, 0, 0, 1, 0, 0, 6, 4, 2, 1, 0, 0, 1, 6, 3, 2, 1, 4, 2, 1, 5]) ws (vs) := by
    refine ⟨nf_in hl rfl, sgq_463 ?_⟩
    · show (v_iv (n_v vs 8) = (-1)) ∨ ((0 ≤ v_iv (n_v vs 8)) ∧ ((v_iv (n_v vs 8) + 1) ≤ (w_fi ws (n_v vs 0) 4 * w_fi ws (n_v vs 0) 5)))
      first | omega | grind
  have rf8 : tv_ok ta (0, 1, 5999, []) (n_v vs 8) := tv_in t8 (by first | omega | grind) (by first | omega | grind)
  refine ⟨List.forall_mem_cons.mpr ⟨rf8, (fun _ h => (by cases h))⟩, [], trivial, ?_, (fun _ h => (by cases h))⟩
  rw [List.append_nil]
  exact List.forall_mem_cons.mpr ⟨⟨show (20 : Nat) < 100 from by decide, nf0⟩, (fun _ h => (by cases h))⟩
def o_Ro_next_5 : or_T := (68, 7, [(0, (2, 0, 0, [9])), (1, (0, 0, 5999, [])), (3, (0, 1, 6000, [])), (4, (0, 0, 5999, [])), (5, (0, 1, 11999, [])), (6, (0, -2147483648, 2147483647, []))], [(9, [6, 0], [5]), (9, [3, 0], [4]), (1, [5, 1, 3], []), (5, [4, 1, 3], []), (20, [0], [50, 2, 0, 4, 5, 2, 7, 0, 2, 0, 1, 2, 0, 4, 2, 7, 0, 2, 0, 1, 2, 0, 5, 0, 8, 6, 3, 2, 0, 4, 2, 0, 5, 0, 6000]), (20, [1, 0], [50, 2, 0, 1004, 1005, 0, 6, 4, 2, 1, 0, 0, 1, 6, 3, 2, 1, 4, 2, 1, 5])], [(6, (0, 1, 6000, []))], [], [], [], [(5, 3, 0, 5999), (5, 1, 1, 6000), (4, 3, -4294967295, -1)])
theorem oo_Ro_next_5 {kA : Nat → ClassId} : or_ok PRD kA GG o_Ro_next_5 := by
  refine or_mk fun A ta ws vs hD hth hl => ?_
  intro t0 r0 t1 k1 t3 k3 t4 k4 t5 k5 t6 k6 d0 d1 d2 f0 f1 f2 f3 f4 f5
  replace f0 := shm_109 f0
  replace f1 := shm_107 f1
  replace f2 := shm_12 f2
  replace f3 := shm_462 f3
  replace f4 := shm_460 f4
  replace f5 := shm_461 f5
  have g0 : v_iv (n_v vs 6) = w_fi ws (n_v vs 0) 5 := congrArg v_iv f0
  have g1 : v_iv (n_v vs 3) = w_fi ws (n_v vs 0) 4 := congrArg v_iv f1
  have kz_0_4 := fdq_102 hD hth r0
  have kz_0_5 := fdq_103 hD hth r0
  have g1 := grid_bd (w := w_fi ws (n_v vs 0) 4) (h := w_fi ws (n_v vs 0) 5) (by omega) (by omega) (by omega)
  have rf6 : tv_ok ta (0, 1, 6000, []) (n_v vs 6) := tv_in t6 (by first | omega | grind) (by first | omega | grind)
  refine ⟨List.forall_mem_cons.mpr ⟨rf6, (fun _ h => (by cases h))⟩, [], trivial, ?_, (fun _ h => (by cases h))⟩
  rw [List.append_nil]
  exact (fun _ h => (by cases h))
def o_Ro_next_6 : or_T := (69, 8, [(0, (2, 0, 0, [9])), (1, (0, 0, 5999, [])), (3, (0, 1, 6000, [])), (4, (0, 0, 5999, [])), (5, (0, 1, 11999, [])), (6, (0, 1, 6000, [])), (7, (0, 1, 36000000, []))], [(3, [7, 3, 6], []), (9, [6, 0], [5]), (9, [3, 0], [4]), (1, [5, 1, 3], []), (5, [4, 1, 3], []), (20, [0], [50, 2, 0, 4, 5, 2, 7, 0, 2, 0, 1, 2, 0, 4, 2, 7, 0, 2, 0, 1, 2, 0, 5, 0, 8, 6, 3, 2, 0, 4, 2, 0, 5, 0, 6000]), (20, [1, 0], [50, 2, 0, 1004, 1005, 0, 6, 4, 2, 1, 0, 0, 1, 6, 3, 2, 1, 4, 2, 1, 5])], [], [], [(20, [7, 0], [50, 2, 0, 1004, 1005, 1, 2, 1, 0, 6, 3, 2, 1, 4, 2, 1, 5])], [], [(5, 3, 0, 5999), (5, 1, 1, 6000), (4, 3, -4294967295, -1)])
theorem oo_Ro_next_6 {kA : Nat → ClassId} : or_ok PRD kA GG o_Ro_next_6 := by
  refine or_mk fun A ta ws vs hD hth hl => ?_
  intro t0 r0 t1 k1 t3 k3 t4 k4 t5 k5 t6 k6 t7 k7 d0 d1 d2 f0 f1 f2 f3 f4 f5 f6
  replace f0 := shm_38 f0
  replace f1 := shm_109 f1
  replace f2 := shm_107 f2
  replace f3 := shm_12 f3
  replace f4 := shm_462 f4
  replace f5 := shm_460 f5
  replace f6 := shm_461 f6
  have g1 : v_iv (n_v vs 6) = w_fi ws (n_v vs 0) 5 := congrArg v_iv f1
  have g2 : v_iv (n_v vs 3) = w_fi ws (n_v vs 0) 4 := congrArg v_iv f2
  have kz_0_4 := fdq_102 hD hth r0
  have kz_0_5 := fdq_103 hD hth r0
  have g1 := grid_bd (w := w_fi ws (n_v vs 0) 4) (h := w_fi ws (n_v vs 0) 5) (by omega) (by omega) (by omega)
  have nf0 : fc_1 PRD (20, [7, 0], [50, 2, 0, 1004, 1005, 1, 2, 1, 0, 6, 3, 2, 1, 4, 2, 1, 5]) ws (vs) := by
    refine ⟨nf_in hl rfl, sgq_464 ?_⟩
    · show v_iv (n_v vs 7) = (w_fi ws (n_v vs 0) 4 * w_fi ws (n_v vs 0) 5)
      first | omega | grind
  refine ⟨(fun _ h => (by cases h)), [], trivial, ?_, (fun _ h => (by cases h))⟩
  rw [List.append_nil]
  exact List.forall_mem_cons.mpr ⟨⟨show (20 : Nat) < 100 from by decide, nf0⟩, (fun _ h => (by cases h))⟩
def o_Ro_next_7 : or_T := (82, 9, [(0, (2, 0, 0, [9])), (1, (0, 0, 5999, [])), (3, (0, 1, 6000, [])), (4, (0, 0, 5999, [])), (5, (0, 1, 11999, [])), (6, (0, 1, 6000, [])), (7, (0, 1, 11999, [])), (8, (0, -1, -1, []))], [(7, [5, 7], [3]), (20, [7, 0], [50, 2, 0, 1004, 1005, 1, 2, 1, 0, 6, 3, 2, 1, 4, 2, 1, 5]), (3, [7, 3, 6], []), (9, [6, 0], [5]), (9, [3, 0], [4]), (1, [5, 1, 3], []), (5, [4, 1, 3], []), (20, [0], [50, 2, 0, 4, 5, 2, 7, 0, 2, 0, 1, 2, 0, 4, 2, 7, 0, 2, 0, 1, 2, 0, 5, 0, 8, 6, 3, 2, 0, 4, 2, 0, 5, 0, 6000]), (20, [1, 0], [50, 2, 0, 1004, 1005, 0, 6, 4, 2, 1, 0, 0, 1, 6, 3, 2, 1, 4, 2, 1, 5])], [], [], [(20, [8, 0], [50, 2, 0, 1004, 1005, 3, 6, 1, 2, 1, 0, 0, -1, 2, 6, 0, 2, 0, 0, 1, 0, 0, 6, 4, 2, 1, 0, 0, 1, 6, 3, 2, 1, 4, 2, 1, 5])], [], [(5, 7, 0, 4294967296), (5, 3, 0, 5999), (5, 1, 1, 6000), (4, 3, -4294967295, -1)])
theorem oo_Ro_next_7 {kA : Nat → ClassId} : or_ok PRD kA GG o_Ro_next_7 := by
  refine or_mk fun A ta ws vs hD hth hl => ?_
  intro t0 r0 t1 k1 t3 k3 t4 k4 t5 k5 t6 k6 t7 k7 t8 k8 d0 d1 d2 d3 f0 f1 f2 f3 f4 f5 f6 f7 f8
  replace f0 := shm_2 f0
  replace f1 := shm_464 f1
  replace f2 := shm_38 f2
  replace f3 := shm_109 f3
  replace f4 := shm_107 f4
  replace f5 := shm_12 f5
  replace f6 := shm_462 f6
  replace f7 := shm_460 f7
  replace f8 := shm_461 f8
  have g3 : v_iv (n_v vs 6) = w_fi ws (n_v vs 0) 5 := congrArg v_iv f3
  have g4 : v_iv (n_v vs 3) = w_fi ws (n_v vs 0) 4 := congrArg v_iv f4
  have kz_0_4 := fdq_102 hD hth r0
  have kz_0_5 := fdq_103 hD hth r0
  have g1 := grid_bd (w := w_fi ws (n_v vs 0) 4) (h := w_fi ws (n_v vs 0) 5) (by omega) (by omega) (by omega)
  have nf0 : fc_1 PRD (20, [8, 0], [50, 2, 0, 1004, 1005, 3, 6, 1, 2, 1, 0, 0, -1, 2, 6, 0, 2, 0, 0, 1, 0, 0, 6, 4, 2, 1, 0, 0, 1, 6, 3, 2, 1, 4, 2, 1, 5]) ws (vs) := by
    refine ⟨nf_in hl rfl, sgq_463 ?_⟩
    · show (v_iv (n_v vs 8) = (-1)) ∨ ((0 ≤ v_iv (n_v vs 8)) ∧ ((v_iv (n_v vs 8) + 1) ≤ (w_fi ws (n_v vs 0) 4 * w_fi ws (n_v vs 0) 5)))
      first | omega | grind
  refine ⟨(fun _ h => (by cases h)), [], trivial, ?_, (fun _ h => (by cases h))⟩
  rw [List.append_nil]
  exact List.forall_mem_cons.mpr ⟨⟨show (20 : Nat) < 100 from by decide, nf0⟩, (fun _ h => (by cases h))⟩
def o_Ro_next_8 : or_T := (82, 9, [(0, (2, 0, 0, [9])), (1, (0, 0, 5999, [])), (3, (0, 1, 6000, [])), (4, (0, 0, 5999, [])), (5, (0, 1, 11999, [])), (6, (0, 1, 6000, [])), (7, (0, 2, 36000000, [])), (8, (0, 1, 11999, []))], [(1, [8, 1, 3], []), (9, [3, 0], [4]), (7, [5, 7], [2]), (20, [7, 0], [50, 2, 0, 1004, 1005, 1, 2, 1, 0, 6, 3, 2, 1, 4, 2, 1, 5]), (3, [7, 3, 6], []), (9, [6, 0], [5]), (1, [5, 1, 3], []), (5, [4, 1, 3], []), (20, [0], [50, 2, 0, 4, 5, 2, 7, 0, 2, 0, 1, 2, 0, 4, 2, 7, 0, 2, 0, 1, 2, 0, 5, 0, 8, 6, 3, 2, 0, 4, 2, 0, 5, 0, 6000]), (20, [1, 0], [50, 2, 0, 1004, 1005, 0, 6, 4, 2, 1, 0, 0, 1, 6, 3, 2, 1, 4, 2, 1, 5])], [(8, (0, 1, 5999, []))], [], [(20, [8, 0], [50, 2, 0, 1004, 1005, 3, 6, 1, 2, 1, 0, 0, -1, 2, 6, 0, 2, 0, 0, 1, 0, 0, 6, 4, 2, 1, 0, 0, 1, 6, 3, 2, 1, 4, 2, 1, 5])], [], [(8, 3, 0, 5999), (8, 1, 1, 6000), (5, 7, -4294967296, -1), (5, 3, 0, 5999), (5, 1, 1, 6000), (4, 3, -4294967295, -1)])
theorem oo_Ro_next_8 {kA : Nat → ClassId} : or_ok PRD kA GG o_Ro_next_8 := by
  refine or_mk fun A ta ws vs hD hth hl => ?_
  intro t0 r0 t1 k1 t3 k3 t4 k4 t5 k5 t6 k6 t7 k7 t8 k8 d0 d1 d2 d3 d4 d5 f0 f1 f2 f3 f4 f5 f6 f7 f8 f9
  replace f0 := shm_12 f0
  replace f1 := shm_107 f1
  replace f2 := shm_6 f2
  replace f3 := shm_464 f3
  replace f4 := shm_38 f4
  replace f5 := shm_109 f5
  replace f6 := shm_12 f6
  replace f7 := shm_462 f7
  replace f8 := shm_460 f8
  replace f9 := shm_461 f9
  have g1 : v_iv (n_v vs 3) = w_fi ws (n_v vs 0) 4 := congrArg v_iv f1
  have g5 : v_iv (n_v vs 6) = w_fi ws (n_v vs 0) 5 := congrArg v_iv f5
  have kz_0_4 := fdq_102 hD hth r0
  have kz_0_5 := fdq_103 hD hth r0
  have g1 := grid_bd (w := w_fi ws (n_v vs 0) 4) (h := w_fi ws (n_v vs 0) 5) (by omega) (by omega) (by omega)
  have nf0 : fc_1 PRD (20, [8, 0], [50, 2, 0, 1004, 1005, 3, 6, 1, 2, 1, 0, 0, -1, 2, 6, 0, 2, 0, 0, 1, 0, 0, 6, 4, 2, 1, 0, 0, 1, 6, 3, 2, 1, 4, 2, 1, 5]) ws (vs) := by
    refine ⟨nf_in hl rfl, sgq_463 ?_⟩
    · show (v_iv (n_v vs 8) = (-1)) ∨ ((0 ≤ v_iv (n_v vs 8)) ∧ ((v_iv (n_v vs 8) + 1) ≤ (w_fi ws (n_v vs 0) 4 * w_fi ws (n_v vs 0) 5)))
      first | omega | grind
  have rf8 : tv_ok ta (0, 1, 5999, []) (n_v vs 8) := tv_in t8 (by first | omega | grind) (by first | omega | grind)
  refine ⟨List.forall_mem_cons.mpr ⟨rf8, (fun _ h => (by cases h))⟩, [], trivial, ?_, (fun _ h => (by cases h))⟩
  rw [List.append_nil]
  exact List.forall_mem_cons.mpr ⟨⟨show (20 : Nat) < 100 from by decide, nf0⟩, (fun _ h => (by cases h))⟩
def o_Ro_next_9 : or_T := (94, 6, [(0, (2, 0, 0, [9])), (1, (0, 0, 5999, [])), (3, (0, 1, 6000, [])), (4, (0, 0, 0, [])), (5, (0, -1, -1, []))], [(8, [4], [5]), (5, [4, 1, 3], []), (9, [3, 0], [4]), (20, [0], [50, 2, 0, 4, 5, 2, 7, 0, 2, 0, 1, 2, 0, 4, 2, 7, 0, 2, 0, 1, 2, 0, 5, 0, 8, 6, 3, 2, 0, 4, 2, 0, 5, 0, 6000]), (20, [1, 0], [50, 2, 0, 1004, 1005, 0, 6, 4, 2, 1, 0, 0, 1, 6, 3, 2, 1, 4, 2, 1, 5])], [], [], [(20, [5, 0], [50, 2, 0, 1004, 1005, 3, 6, 1, 2, 1, 0, 0, -1, 2, 6, 0, 2, 0, 0, 1, 0, 0, 6, 4, 2, 1, 0, 0, 1, 6, 3, 2, 1, 4, 2, 1, 5])], [], [])
theorem oo_Ro_next_9 {kA : Nat → ClassId} : or_ok PRD kA GG o_Ro_next_9 := by
  refine or_mk fun A ta ws vs hD hth hl => ?_
  intro t0 r0 t1 k1 t3 k3 t4 k4 t5 k5 f0 f1 f2 f3 f4
  replace f0 := shm_142 f0
  replace f1 := shm_462 f1
  replace f2 := shm_107 f2
  replace f3 := shm_460 f3
  replace f4 := shm_461 f4
  have g2 : v_iv (n_v vs 3) = w_fi ws (n_v vs 0) 4 := congrArg v_iv f2
  have kz_0_4 := fdq_102 hD hth r0
  have kz_0_5 := fdq_103 hD hth r0
  have g1 := grid_bd (w := w_fi ws (n_v vs 0) 4) (h := w_fi ws (n_v vs 0) 5) (by omega) (by omega) (by omega)
  have nf0 : fc_1 PRD (20, [5, 0], [50, 2, 0, 1004, 1005, 3, 6, 1, 2, 1, 0, 0, -1, 2, 6, 0, 2, 0, 0, 1, 0, 0, 6, 4, 2, 1, 0, 0, 1, 6, 3, 2, 1, 4, 2, 1, 5]) ws (vs) := by
    refine ⟨nf_in hl rfl, sgq_463 ?_⟩
    · show (v_iv (n_v vs 5) = (-1)) ∨ ((0 ≤ v_iv (n_v vs 5)) ∧ ((v_iv (n_v vs 5) + 1) ≤ (w_fi ws (n_v vs 0) 4 * w_fi ws (n_v vs 0) 5)))
      first | omega | grind
  refine ⟨(fun _ h => (by cases h)), [], trivial, ?_, (fun _ h => (by cases h))⟩
  rw [List.append_nil]
  exact List.forall_mem_cons.mpr ⟨⟨show (20 : Nat) < 100 from by decide, nf0⟩, (fun _ h => (by cases h))⟩
def o_Ro_next_10 : or_T := (94, 7, [(0, (2, 0, 0, [9])), (1, (0, 0, 5999, [])), (3, (0, 2, 6000, [])), (4, (0, 1, 5999, [])), (5, (0, 1, 1, [])), (6, (0, -1, 5998, []))], [(2, [6, 1, 5], []), (8, [4], [4]), (5, [4, 1, 3], []), (9, [3, 0], [4]), (20, [0], [50, 2, 0, 4, 5, 2, 7, 0, 2, 0, 1, 2, 0, 4, 2, 7, 0, 2, 0, 1, 2, 0, 5, 0, 8, 6, 3, 2, 0, 4, 2, 0, 5, 0, 6000]), (20, [1, 0], [50, 2, 0, 1004, 1005, 0, 6, 4, 2, 1, 0, 0, 1, 6, 3, 2, 1, 4, 2, 1, 5])], [], [], [(20, [6, 0], [50, 2, 0, 1004, 1005, 3, 6, 1, 2, 1, 0, 0, -1, 2, 6, 0, 2, 0, 0, 1, 0, 0, 6, 4, 2, 1, 0, 0, 1, 6, 3, 2, 1, 4, 2, 1, 5])], [], [(6, 1, -1, -1), (4, 3, -4294967295, -1)])
theorem oo_Ro_next_10 {kA : Nat → ClassId} : or_ok PRD kA GG o_Ro_next_10 := by
  refine or_mk fun A ta ws vs hD hth hl => ?_
  intro t0 r0 t1 k1 t3 k3 t4 k4 t5 k5 t6 k6 d0 d1 f0 f1 f2 f3 f4 f5
  replace f0 := shm_14 f0
  replace f1 := shm_145 f1
  replace f2 := shm_462 f2
  replace f3 := shm_107 f3
  replace f4 := shm_460 f4
  replace f5 := shm_461 f5
  have g3 : v_iv (n_v vs 3) = w_fi ws (n_v vs 0) 4 := congrArg v_iv f3
  have kz_0_4 := fdq_102 hD hth r0
  have kz_0_5 := fdq_103 hD hth r0
  have g1 := grid_bd (w := w_fi ws (n_v vs 0) 4) (h := w_fi ws (n_v vs 0) 5) (by omega) (by omega) (by omega)
  have nf0 : fc_1 PRD (20, [6, 0], [50, 2, 0, 1004, 1005, 3, 6, 1, 2, 1, 0, 0, -1, 2, 6, 0, 2, 0, 0, 1, 0, 0, 6, 4, 2, 1, 0, 0, 1, 6, 3, 2, 1, 4, 2, 1, 5]) ws (vs) := by
    refine ⟨nf_in hl rfl, sgq_463 ?_⟩
    · show (v_iv (n_v vs 6) = (-1)) ∨ ((0 ≤ v_iv (n_v vs 6)) ∧ ((v_iv (n_v vs 6) + 1) ≤ (w_fi ws (n_v vs 0) 4 * w_fi ws (n_v vs 0) 5)))
      first | omega | grind
  refine ⟨(fun _ h => (by cases h)), [], trivial, ?_, (fun _ h => (by cases h))⟩
  rw [List.append_nil]
  exact List.forall_mem_cons.mpr ⟨⟨show (20 : Nat) < 100 from by decide, nf0⟩, (fun _ h => (by cases h))⟩
def n_Ro_next_an : List an_T := []
def t_Ro_next_ct : ct_L := []
set_option maxRecDepth 100000 in
theorem c_Ro_next {l : Launch} {D : va_G} {kA : Nat → ClassId} : ct_ok PRD l D kA GG y_Ro_next z_Ro_next e_Ro_next := chk_all_ok (FT := [(26, 9, 4), (29, 9, 5)]) (PT := []) (CT := t_Ro_next_ct) (KT := []) (NT := []) (AN := n_Ro_next_an) (OT := [o_Ro_next_0, o_Ro_next_1, o_Ro_next_2, o_Ro_next_3, o_Ro_next_4, o_Ro_next_5, o_Ro_next_6, o_Ro_next_7, o_Ro_next_8, o_Ro_next_9, o_Ro_next_10]) 0 240 (List.forall_mem_cons.mpr ⟨oo_Ro_next_0, List.forall_mem_cons.mpr ⟨oo_Ro_next_1, List.forall_mem_cons.mpr ⟨oo_Ro_next_2, List.forall_mem_cons.mpr ⟨oo_Ro_next_3, List.forall_mem_cons.mpr ⟨oo_Ro_next_4, List.forall_mem_cons.mpr ⟨oo_Ro_next_5, List.forall_mem_cons.mpr ⟨oo_Ro_next_6, List.forall_mem_cons.mpr ⟨oo_Ro_next_7, List.forall_mem_cons.mpr ⟨oo_Ro_next_8, List.forall_mem_cons.mpr ⟨oo_Ro_next_9, List.forall_mem_cons.mpr ⟨oo_Ro_next_10, List.forall_mem_nil _⟩⟩⟩⟩⟩⟩⟩⟩⟩⟩⟩) (by decide +kernel) ⟨List.forall_mem_cons.mpr ⟨gf_Ro_26, List.forall_mem_cons.mpr ⟨gf_Ro_29, List.forall_mem_nil _⟩⟩, List.forall_mem_nil _, List.forall_mem_nil _, List.forall_mem_nil _, List.forall_mem_nil _, GG_pl⟩ (by decide +kernel)
set_option maxHeartbeats 4000000 in
theorem vc_Ro_pointOf_0_r0 (x1 : Int) (x5 : Int) (x6 : Int) (x7 : Int) (x8 : Int) (width_0 : Int) (top_0 : Int) (y_0o3 : Int → Int) (nameLength_0o2 : Int → Int) (x_0o3 : Int → Int) (left_0 : Int) (height_0 : Int) (nodes_0o2 : Int) (k1 : 0 ≤ x1 ∧ x1 ≤ 23) (k5 : (-40000000) ≤ x5 ∧ x5 ≤ 690000000) (k6 : (-40000003) ≤ x6 ∧ x6 ≤ 1000000000) (k7 : (-1040000000) ≤ x7 ∧ x7 ≤ 730000003) (k8 : (-2147483648) ≤ x8 ∧ x8 ≤ 2147483647) (d0 : x5 + (-1000000000) ≤ x7 ∧ x7 ≤ x5 + 40000003) (g0 : x8 = width_0) (f1 : x7 = x5 - x6) (g2 : x6 = top_0) (h3 : x5 = y_0o3 (x1)) (f5 : FRM (left_0) (top_0) (width_0) (height_0) (nodes_0o2) (nameLength_0o2) (x_0o3) (y_0o3)) (f6 : (0 ≤ x1) ∧ ((x1 + 1) ≤ nodes_0o2)) (hK_2_4 : ∀ j : Int, 0 ≤ j → j < 24 → 0 ≤ nameLength_0o2 j ∧ nameLength_0o2 j ≤ 8) (hK_3_2 : ∀ j : Int, 0 ≤ j → j < 24 → (-40000000) ≤ x_0o3 j ∧ x_0o3 j ≤ 690000000) (hK_3_3 : ∀ j : Int, 0 ≤ j → j < 24 → (-40000000) ≤ y_0o3 j ∧ y_0o3 j ≤ 690000000) (kz_0_2 : (-40000011) ≤ left_0 ∧ left_0 ≤ 1000000000) (kz_0_3 : (-40000003) ≤ top_0 ∧ top_0 ≤ 1000000000) (kz_0_4 : (-2147483648) ≤ width_0 ∧ width_0 ≤ 2147483647) (kz_0_5 : (-2147483648) ≤ height_0 ∧ height_0 ≤ 2147483647) (kz_2_0 : 0 ≤ nodes_0o2 ∧ nodes_0o2 ≤ 24) : 1 ≤ x8 ∧ x8 ≤ 6000 := by
  have h := frm_wh ‹FRM _ _ _ _ _ _ _ _›
  have c := ‹FRM _ _ _ _ _ _ _ _›.2.2 x1 (by omega) (by omega)
  omega
set_option maxHeartbeats 4000000 in
theorem vc_Ro_pointOf_0_r1 (x1 : Int) (x5 : Int) (x6 : Int) (x7 : Int) (x8 : Int) (width_0 : Int) (top_0 : Int) (y_0o3 : Int → Int) (nameLength_0o2 : Int → Int) (x_0o3 : Int → Int) (left_0 : Int) (height_0 : Int) (nodes_0o2 : Int) (k1 : 0 ≤ x1 ∧ x1 ≤ 23) (k5 : (-40000000) ≤ x5 ∧ x5 ≤ 690000000) (k6 : (-40000003) ≤ x6 ∧ x6 ≤ 1000000000) (k7 : (-1040000000) ≤ x7 ∧ x7 ≤ 730000003) (k8 : (-2147483648) ≤ x8 ∧ x8 ≤ 2147483647) (d0 : x5 + (-1000000000) ≤ x7 ∧ x7 ≤ x5 + 40000003) (g0 : x8 = width_0) (f1 : x7 = x5 - x6) (g2 : x6 = top_0) (h3 : x5 = y_0o3 (x1)) (f5 : FRM (left_0) (top_0) (width_0) (height_0) (nodes_0o2) (nameLength_0o2) (x_0o3) (y_0o3)) (f6 : (0 ≤ x1) ∧ ((x1 + 1) ≤ nodes_0o2)) (hK_2_4 : ∀ j : Int, 0 ≤ j → j < 24 → 0 ≤ nameLength_0o2 j ∧ nameLength_0o2 j ≤ 8) (hK_3_2 : ∀ j : Int, 0 ≤ j → j < 24 → (-40000000) ≤ x_0o3 j ∧ x_0o3 j ≤ 690000000) (hK_3_3 : ∀ j : Int, 0 ≤ j → j < 24 → (-40000000) ≤ y_0o3 j ∧ y_0o3 j ≤ 690000000) (kz_0_2 : (-40000011) ≤ left_0 ∧ left_0 ≤ 1000000000) (kz_0_3 : (-40000003) ≤ top_0 ∧ top_0 ≤ 1000000000) (kz_0_4 : (-2147483648) ≤ width_0 ∧ width_0 ≤ 2147483647) (kz_0_5 : (-2147483648) ≤ height_0 ∧ height_0 ≤ 2147483647) (kz_2_0 : 0 ≤ nodes_0o2 ∧ nodes_0o2 ≤ 24) : 0 ≤ x7 ∧ x7 ≤ 5999 := by
  have h := frm_wh ‹FRM _ _ _ _ _ _ _ _›
  have c := ‹FRM _ _ _ _ _ _ _ _›.2.2 x1 (by omega) (by omega)
  omega
def o_Ro_pointOf_0 : or_T := (18, 9, [(0, (2, 0, 0, [9])), (1, (0, 0, 23, [])), (2, (2, 0, 0, [3])), (3, (2, 0, 0, [0])), (4, (2, 0, 0, [15])), (5, (0, -40000000, 690000000, [])), (6, (0, -40000003, 1000000000, [])), (7, (0, -1040000000, 730000003, [])), (8, (0, -2147483648, 2147483647, []))], [(9, [8, 0], [4]), (2, [7, 5, 6], []), (9, [6, 0], [3]), (10, [5, 4, 1], []), (9, [4, 3], [3]), (20, [0, 2, 3], [60, 5, 3, 839, 2, 3, 4, 5, 1000, 1004, 2002, 2003]), (20, [1, 2], [50, 1, 0, 1000, 2, 6, 0, 2, 0, 0, 1, 0, 0, 6, 4, 2, 1, 0, 0, 1, 2, 1, 0])], [(8, (0, 1, 6000, [])), (7, (0, 0, 5999, []))], [], [], [], [(7, 5, -1000000000, 40000003)])
theorem oo_Ro_pointOf_0 {kA : Nat → ClassId} : or_ok PRD kA GG o_Ro_pointOf_0 := by
  refine or_mk fun A ta ws vs hD hth hl => ?_
  intro t0 r0 t1 k1 t2 r2 t3 r3 t4 r4 t5 k5 t6 k6 t7 k7 t8 k8 d0 f0 f1 f2 f3 f4 f5 f6
  replace f0 := shm_107 f0
  replace f2 := shm_149 f2
  replace f3 := shm_106 f3
  replace f4 := shm_149 f4
  have cr_2_4 := fdq_5 hD hth r2
  have cr_3_2 := fdq_51 hD hth r3
  have cr_3_3 := fdq_54 hD hth r3
  have ad_4 : v_ad (n_v vs 4) = w_ar ws (n_v vs 3) 3 := congrArg v_ad f4
  have g0 : v_iv (n_v vs 8) = w_fi ws (n_v vs 0) 4 := congrArg v_iv f0
  have g2 : v_iv (n_v vs 6) = w_fi ws (n_v vs 0) 3 := congrArg v_iv f2
  simp only [ad_4] at f3
  have h3 : v_iv (n_v vs 5) = w_ei ws (w_ar ws (n_v vs 3) 3) (v_iv (n_v vs 1)) := f3
  have hK_2_4 := elq_31 hD hth cr_2_4
  have hK_3_2 := elq_9 hD hth cr_3_2
  have hK_3_3 := elq_12 hD hth cr_3_3
  have kz_0_2 := fdq_105 hD hth r0
  have kz_0_3 := fdq_106 hD hth r0
  have kz_0_4 := fdq_102 hD hth r0
  have kz_0_5 := fdq_103 hD hth r0
  have kz_2_0 := fdq_23 hD hth r2
  have hrf0 : 1 ≤ v_iv (n_v vs 8) ∧ v_iv (n_v vs 8) ≤ 6000 := vc_Ro_pointOf_0_r0 (v_iv (n_v vs 1)) (v_iv (n_v vs 5)) (v_iv (n_v vs 6)) (v_iv (n_v vs 7)) (v_iv (n_v vs 8)) (w_fi ws (n_v vs 0) 4) (w_fi ws (n_v vs 0) 3) (w_ei ws (w_ar ws (n_v vs 3) 3)) (w_ei ws (w_ar ws (n_v vs 2) 4)) (w_ei ws (w_ar ws (n_v vs 3) 2)) (w_fi ws (n_v vs 0) 2) (w_fi ws (n_v vs 0) 5) (w_fi ws (n_v vs 2) 0) k1 k5 k6 k7 k8 d0 g0 (shm_14 f1) g2 h3 (shm_465 f5) (shm_429 f6) hK_2_4 hK_3_2 hK_3_3 kz_0_2 kz_0_3 kz_0_4 kz_0_5 kz_2_0
  have hrf1 : 0 ≤ v_iv (n_v vs 7) ∧ v_iv (n_v vs 7) ≤ 5999 := vc_Ro_pointOf_0_r1 (v_iv (n_v vs 1)) (v_iv (n_v vs 5)) (v_iv (n_v vs 6)) (v_iv (n_v vs 7)) (v_iv (n_v vs 8)) (w_fi ws (n_v vs 0) 4) (w_fi ws (n_v vs 0) 3) (w_ei ws (w_ar ws (n_v vs 3) 3)) (w_ei ws (w_ar ws (n_v vs 2) 4)) (w_ei ws (w_ar ws (n_v vs 3) 2)) (w_fi ws (n_v vs 0) 2) (w_fi ws (n_v vs 0) 5) (w_fi ws (n_v vs 2) 0) k1 k5 k6 k7 k8 d0 g0 (shm_14 f1) g2 h3 (shm_465 f5) (shm_429 f6) hK_2_4 hK_3_2 hK_3_3 kz_0_2 kz_0_3 kz_0_4 kz_0_5 kz_2_0
  have rf8 : tv_ok ta (0, 1, 6000, []) (n_v vs 8) := tv_in t8 (by first | omega | grind) (by first | omega | grind)
  have rf7 : tv_ok ta (0, 0, 5999, []) (n_v vs 7) := tv_in t7 (by first | omega | grind) (by first | omega | grind)
  refine ⟨List.forall_mem_cons.mpr ⟨rf8, List.forall_mem_cons.mpr ⟨rf7, (fun _ h => (by cases h))⟩⟩, [], trivial, ?_, (fun _ h => (by cases h))⟩
  rw [List.append_nil]
  exact (fun _ h => (by cases h))
set_option maxHeartbeats 4000000 in
theorem vc_Ro_pointOf_1_r0 (x1 : Int) (x5 : Int) (x6 : Int) (x7 : Int) (x8 : Int) (x9 : Int) (x11 : Int) (x12 : Int) (x13 : Int) (x14 : Int) (left_0 : Int) (x_0o3 : Int → Int) (width_0 : Int) (top_0 : Int) (y_0o3 : Int → Int) (nameLength_0o2 : Int → Int) (height_0 : Int) (nodes_0o2 : Int) (k1 : 0 ≤ x1 ∧ x1 ≤ 23) (k5 : (-40000000) ≤ x5 ∧ x5 ≤ 690000000) (k6 : (-40000003) ≤ x6 ∧ x6 ≤ 1000000000) (k7 : 0 ≤ x7 ∧ x7 ≤ 5999) (k8 : 1 ≤ x8 ∧ x8 ≤ 6000) (k9 : 0 ≤ x9 ∧ x9 ≤ 35994000) (k11 : (-40000000) ≤ x11 ∧ x11 ≤ 690000000) (k12 : (-40000000) ≤ x12 ∧ x12 ≤ 725994000) (k13 : (-40000011) ≤ x13 ∧ x13 ≤ 1000000000) (k14 : (-1040000000) ≤ x14 ∧ x14 ≤ 765994011) (d0 : x12 + (-1000000000) ≤ x14 ∧ x14 ≤ x12 + 40000011) (d1 : x11 + (-1000000000) ≤ x14 ∧ x14 ≤ x11 + 75994011) (d2 : x9 + (-1040000000) ≤ x14 ∧ x14 ≤ x9 + 730000011) (d3 : x11 + 0 ≤ x12 ∧ x12 ≤ x11 + 35994000) (d4 : x9 + (-40000000) ≤ x12 ∧ x12 ≤ x9 + 690000000) (d5 : x5 + (-1000000000) ≤ x7 ∧ x7 ≤ x5 + 40000003) (f0 : x14 = x12 - x13) (g1 : x13 = left_0) (f2 : x12 = x9 + x11) (h3 : x11 = x_0o3 (x1)) (f5 : x9 = x7 * x8) (g6 : x8 = width_0) (f7 : x7 = x5 - x6) (g8 : x6 = top_0) (h9 : x5 = y_0o3 (x1)) (f11 : FRM (left_0) (top_0) (width_0) (height_0) (nodes_0o2) (nameLength_0o2) (x_0o3) (y_0o3)) (f12 : (0 ≤ x1) ∧ ((x1 + 1) ≤ nodes_0o2)) (hK_2_4 : ∀ j : Int, 0 ≤ j → j < 24 → 0 ≤ nameLength_0o2 j ∧ nameLength_0o2 j ≤ 8) (hK_3_2 : ∀ j : Int, 0 ≤ j → j < 24 → (-40000000) ≤ x_0o3 j ∧ x_0o3 j ≤ 690000000) (hK_3_3 : ∀ j : Int, 0 ≤ j → j < 24 → (-40000000) ≤ y_0o3 j ∧ y_0o3 j ≤ 690000000) (kz_0_2 : (-40000011) ≤ left_0 ∧ left_0 ≤ 1000000000) (kz_0_3 : (-40000003) ≤ top_0 ∧ top_0 ≤ 1000000000) (kz_0_4 : (-2147483648) ≤ width_0 ∧ width_0 ≤ 2147483647) (kz_0_5 : (-2147483648) ≤ height_0 ∧ height_0 ≤ 2147483647) (kz_2_0 : 0 ≤ nodes_0o2 ∧ nodes_0o2 ≤ 24) : 0 ≤ x14 ∧ x14 ≤ 5999 := by
  first
    | omega
    | (have p : PTO left_0 top_0 width_0 x_0o3 y_0o3 x1 x14 := pto_of (a := x5) (b := x11) (d := x7) (e := x8) (p := x9) (s := x12) (by omega) (by omega) (by assumption) (by assumption) (by assumption) (by omega) (by omega)
       have g := frm_pt ‹FRM _ _ _ _ _ _ _ _› (by omega) (by omega) (‹∀ j : Int, 0 ≤ j → j < 24 → 0 ≤ nameLength_0o2 j ∧ nameLength_0o2 j ≤ 8› x1 (by omega) (by omega)).1 p
       have g2 := ‹FRM _ _ _ _ _ _ _ _›.1.2.2
       first
         | omega
         | exact g)
set_option maxHeartbeats 4000000 in
theorem vc_Ro_pointOf_1_0 (x1 : Int) (x5 : Int) (x6 : Int) (x7 : Int) (x8 : Int) (x9 : Int) (x11 : Int) (x12 : Int) (x13 : Int) (x14 : Int) (left_0 : Int) (x_0o3 : Int → Int) (width_0 : Int) (top_0 : Int) (y_0o3 : Int → Int) (nameLength_0o2 : Int → Int) (height_0 : Int) (nodes_0o2 : Int) (k1 : 0 ≤ x1 ∧ x1 ≤ 23) (k5 : (-40000000) ≤ x5 ∧ x5 ≤ 690000000) (k6 : (-40000003) ≤ x6 ∧ x6 ≤ 1000000000) (k7 : 0 ≤ x7 ∧ x7 ≤ 5999) (k8 : 1 ≤ x8 ∧ x8 ≤ 6000) (k9 : 0 ≤ x9 ∧ x9 ≤ 35994000) (k11 : (-40000000) ≤ x11 ∧ x11 ≤ 690000000) (k12 : (-40000000) ≤ x12 ∧ x12 ≤ 725994000) (k13 : (-40000011) ≤ x13 ∧ x13 ≤ 1000000000) (k14 : (-1040000000) ≤ x14 ∧ x14 ≤ 765994011) (d0 : x12 + (-1000000000) ≤ x14 ∧ x14 ≤ x12 + 40000011) (d1 : x11 + (-1000000000) ≤ x14 ∧ x14 ≤ x11 + 75994011) (d2 : x9 + (-1040000000) ≤ x14 ∧ x14 ≤ x9 + 730000011) (d3 : x11 + 0 ≤ x12 ∧ x12 ≤ x11 + 35994000) (d4 : x9 + (-40000000) ≤ x12 ∧ x12 ≤ x9 + 690000000) (d5 : x5 + (-1000000000) ≤ x7 ∧ x7 ≤ x5 + 40000003) (f0 : x14 = x12 - x13) (g1 : x13 = left_0) (f2 : x12 = x9 + x11) (h3 : x11 = x_0o3 (x1)) (f5 : x9 = x7 * x8) (g6 : x8 = width_0) (f7 : x7 = x5 - x6) (g8 : x6 = top_0) (h9 : x5 = y_0o3 (x1)) (f11 : FRM (left_0) (top_0) (width_0) (height_0) (nodes_0o2) (nameLength_0o2) (x_0o3) (y_0o3)) (f12 : (0 ≤ x1) ∧ ((x1 + 1) ≤ nodes_0o2)) (hK_2_4 : ∀ j : Int, 0 ≤ j → j < 24 → 0 ≤ nameLength_0o2 j ∧ nameLength_0o2 j ≤ 8) (hK_3_2 : ∀ j : Int, 0 ≤ j → j < 24 → (-40000000) ≤ x_0o3 j ∧ x_0o3 j ≤ 690000000) (hK_3_3 : ∀ j : Int, 0 ≤ j → j < 24 → (-40000000) ≤ y_0o3 j ∧ y_0o3 j ≤ 690000000) (kz_0_2 : (-40000011) ≤ left_0 ∧ left_0 ≤ 1000000000) (kz_0_3 : (-40000003) ≤ top_0 ∧ top_0 ≤ 1000000000) (kz_0_4 : (-2147483648) ≤ width_0 ∧ width_0 ≤ 2147483647) (kz_0_5 : (-2147483648) ≤ height_0 ∧ height_0 ≤ 2147483647) (kz_2_0 : 0 ≤ nodes_0o2 ∧ nodes_0o2 ≤ 24) : PTO (left_0) (top_0) (width_0) (x_0o3) (y_0o3) (x1) (x14) := by
  exact pto_of (a := x5) (b := x11) (d := x7) (e := x8) (p := x9) (s := x12) (by omega) (by omega) (by assumption) (by assumption) (by assumption) (by omega) (by omega)
set_option maxHeartbeats 4000000 in
theorem vc_Ro_pointOf_1_1 (x1 : Int) (x5 : Int) (x6 : Int) (x7 : Int) (x8 : Int) (x9 : Int) (x11 : Int) (x12 : Int) (x13 : Int) (x14 : Int) (left_0 : Int) (x_0o3 : Int → Int) (width_0 : Int) (top_0 : Int) (y_0o3 : Int → Int) (nameLength_0o2 : Int → Int) (height_0 : Int) (nodes_0o2 : Int) (k1 : 0 ≤ x1 ∧ x1 ≤ 23) (k5 : (-40000000) ≤ x5 ∧ x5 ≤ 690000000) (k6 : (-40000003) ≤ x6 ∧ x6 ≤ 1000000000) (k7 : 0 ≤ x7 ∧ x7 ≤ 5999) (k8 : 1 ≤ x8 ∧ x8 ≤ 6000) (k9 : 0 ≤ x9 ∧ x9 ≤ 35994000) (k11 : (-40000000) ≤ x11 ∧ x11 ≤ 690000000) (k12 : (-40000000) ≤ x12 ∧ x12 ≤ 725994000) (k13 : (-40000011) ≤ x13 ∧ x13 ≤ 1000000000) (k14 : (-1040000000) ≤ x14 ∧ x14 ≤ 765994011) (d0 : x12 + (-1000000000) ≤ x14 ∧ x14 ≤ x12 + 40000011) (d1 : x11 + (-1000000000) ≤ x14 ∧ x14 ≤ x11 + 75994011) (d2 : x9 + (-1040000000) ≤ x14 ∧ x14 ≤ x9 + 730000011) (d3 : x11 + 0 ≤ x12 ∧ x12 ≤ x11 + 35994000) (d4 : x9 + (-40000000) ≤ x12 ∧ x12 ≤ x9 + 690000000) (d5 : x5 + (-1000000000) ≤ x7 ∧ x7 ≤ x5 + 40000003) (f0 : x14 = x12 - x13) (g1 : x13 = left_0) (f2 : x12 = x9 + x11) (h3 : x11 = x_0o3 (x1)) (f5 : x9 = x7 * x8) (g6 : x8 = width_0) (f7 : x7 = x5 - x6) (g8 : x6 = top_0) (h9 : x5 = y_0o3 (x1)) (f11 : FRM (left_0) (top_0) (width_0) (height_0) (nodes_0o2) (nameLength_0o2) (x_0o3) (y_0o3)) (f12 : (0 ≤ x1) ∧ ((x1 + 1) ≤ nodes_0o2)) (hK_2_4 : ∀ j : Int, 0 ≤ j → j < 24 → 0 ≤ nameLength_0o2 j ∧ nameLength_0o2 j ≤ 8) (hK_3_2 : ∀ j : Int, 0 ≤ j → j < 24 → (-40000000) ≤ x_0o3 j ∧ x_0o3 j ≤ 690000000) (hK_3_3 : ∀ j : Int, 0 ≤ j → j < 24 → (-40000000) ≤ y_0o3 j ∧ y_0o3 j ≤ 690000000) (kz_0_2 : (-40000011) ≤ left_0 ∧ left_0 ≤ 1000000000) (kz_0_3 : (-40000003) ≤ top_0 ∧ top_0 ≤ 1000000000) (kz_0_4 : (-2147483648) ≤ width_0 ∧ width_0 ≤ 2147483647) (kz_0_5 : (-2147483648) ≤ height_0 ∧ height_0 ≤ 2147483647) (kz_2_0 : 0 ≤ nodes_0o2 ∧ nodes_0o2 ≤ 24) : (0 ≤ x14) ∧ ((x14 + 1) ≤ (width_0 * height_0)) := by
  first
    | omega
    | (have p : PTO left_0 top_0 width_0 x_0o3 y_0o3 x1 x14 := pto_of (a := x5) (b := x11) (d := x7) (e := x8) (p := x9) (s := x12) (by omega) (by omega) (by assumption) (by assumption) (by assumption) (by omega) (by omega)
       have g := frm_pt ‹FRM _ _ _ _ _ _ _ _› (by omega) (by omega) (‹∀ j : Int, 0 ≤ j → j < 24 → 0 ≤ nameLength_0o2 j ∧ nameLength_0o2 j ≤ 8› x1 (by omega) (by omega)).1 p
       have g2 := ‹FRM _ _ _ _ _ _ _ _›.1.2.2
       first
         | omega
         | exact g)
def o_Ro_pointOf_1 : or_T := (34, 15, [(0, (2, 0, 0, [9])), (1, (0, 0, 23, [])), (2, (2, 0, 0, [3])), (3, (2, 0, 0, [0])), (4, (2, 0, 0, [15])), (5, (0, -40000000, 690000000, [])), (6, (0, -40000003, 1000000000, [])), (7, (0, 0, 5999, [])), (8, (0, 1, 6000, [])), (9, (0, 0, 35994000, [])), (10, (2, 0, 0, [14])), (11, (0, -40000000, 690000000, [])), (12, (0, -40000000, 725994000, [])), (13, (0, -40000011, 1000000000, [])), (14, (0, -1040000000, 765994011, []))], [(2, [14, 12, 13], []), (9, [13, 0], [2]), (1, [12, 9, 11], []), (10, [11, 10, 1], []), (9, [10, 3], [2]), (3, [9, 7, 8], []), (9, [8, 0], [4]), (2, [7, 5, 6], []), (9, [6, 0], [3]), (10, [5, 4, 1], []), (9, [4, 3], [3]), (20, [0, 2, 3], [60, 5, 3, 839, 2, 3, 4, 5, 1000, 1004, 2002, 2003]), (20, [1, 2], [50, 1, 0, 1000, 2, 6, 0, 2, 0, 0, 1, 0, 0, 6, 4, 2, 1, 0, 0, 1, 2, 1, 0])], [(14, (0, 0, 5999, []))], [], [(20, [0, 3, 1, 14], [60, 3, 2, 842, 2, 3, 4, 1002, 1003]), (20, [14, 0], [50, 2, 0, 1004, 1005, 2, 6, 0, 2, 0, 0, 1, 0, 0, 6, 4, 2, 1, 0, 0, 1, 6, 3, 2, 1, 4, 2, 1, 5])], [], [(14, 12, -1000000000, 40000011), (14, 11, -1000000000, 75994011), (14, 9, -1040000000, 730000011), (12, 11, 0, 35994000), (12, 9, -40000000, 690000000), (7, 5, -1000000000, 40000003)])
theorem oo_Ro_pointOf_1 {kA : Nat → ClassId} : or_ok PRD kA GG o_Ro_pointOf_1 := by
  refine or_mk fun A ta ws vs hD hth hl => ?_
  intro t0 r0 t1 k1 t2 r2 t3 r3 t4 r4 t5 k5 t6 k6 t7 k7 t8 k8 t9 k9 t10 r10 t11 k11 t12 k12 t13 k13 t14 k14 d0 d1 d2 d3 d4 d5 f0 f1 f2 f3 f4 f5 f6 f7 f8 f9 f10 f11 f12
  replace f1 := shm_129 f1
  replace f3 := shm_106 f3
  replace f4 := shm_129 f4
  replace f6 := shm_107 f6
  replace f8 := shm_149 f8
  replace f9 := shm_106 f9
  replace f10 := shm_149 f10
  have cr_2_4 := fdq_5 hD hth r2
  have cr_3_2 := fdq_51 hD hth r3
  have cr_3_3 := fdq_54 hD hth r3
  have ad_10 : v_ad (n_v vs 10) = w_ar ws (n_v vs 3) 2 := congrArg v_ad f4
  have ad_4 : v_ad (n_v vs 4) = w_ar ws (n_v vs 3) 3 := congrArg v_ad f10
  have g1 : v_iv (n_v vs 13) = w_fi ws (n_v vs 0) 2 := congrArg v_iv f1
  simp only [ad_10] at f3
  have h3 : v_iv (n_v vs 11) = w_ei ws (w_ar ws (n_v vs 3) 2) (v_iv (n_v vs 1)) := f3
  have g6 : v_iv (n_v vs 8) = w_fi ws (n_v vs 0) 4 := congrArg v_iv f6
  have g8 : v_iv (n_v vs 6) = w_fi ws (n_v vs 0) 3 := congrArg v_iv f8
  simp only [ad_4] at f9
  have h9 : v_iv (n_v vs 5) = w_ei ws (w_ar ws (n_v vs 3) 3) (v_iv (n_v vs 1)) := f9
  have hK_2_4 := elq_31 hD hth cr_2_4
  have hK_3_2 := elq_9 hD hth cr_3_2
  have hK_3_3 := elq_12 hD hth cr_3_3
  have kz_0_2 := fdq_105 hD hth r0
  have kz_0_3 := fdq_106 hD hth r0
  have kz_0_4 := fdq_102 hD hth r0
  have kz_0_5 := fdq_103 hD hth r0
  have kz_2_0 := fdq_23 hD hth r2
  have hrf0 : 0 ≤ v_iv (n_v vs 14) ∧ v_iv (n_v vs 14) ≤ 5999 := vc_Ro_pointOf_1_r0 (v_iv (n_v vs 1)) (v_iv (n_v vs 5)) (v_iv (n_v vs 6)) (v_iv (n_v vs 7)) (v_iv (n_v vs 8)) (v_iv (n_v vs 9)) (v_iv (n_v vs 11)) (v_iv (n_v vs 12)) (v_iv (n_v vs 13)) (v_iv (n_v vs 14)) (w_fi ws (n_v vs 0) 2) (w_ei ws (w_ar ws (n_v vs 3) 2)) (w_fi ws (n_v vs 0) 4) (w_fi ws (n_v vs 0) 3) (w_ei ws (w_ar ws (n_v vs 3) 3)) (w_ei ws (w_ar ws (n_v vs 2) 4)) (w_fi ws (n_v vs 0) 5) (w_fi ws (n_v vs 2) 0) k1 k5 k6 k7 k8 k9 k11 k12 k13 k14 d0 d1 d2 d3 d4 d5 (shm_14 f0) g1 (shm_12 f2) h3 (shm_38 f5) g6 (shm_14 f7) g8 h9 (shm_465 f11) (shm_429 f12) hK_2_4 hK_3_2 hK_3_3 kz_0_2 kz_0_3 kz_0_4 kz_0_5 kz_2_0
  have nf0 : fc_1 PRD (20, [0, 3, 1, 14], [60, 3, 2, 842, 2, 3, 4, 1002, 1003]) ws (vs) := ⟨nf_in hl rfl, sgq_466 (vc_Ro_pointOf_1_0 (v_iv (n_v vs 1)) (v_iv (n_v vs 5)) (v_iv (n_v vs 6)) (v_iv (n_v vs 7)) (v_iv (n_v vs 8)) (v_iv (n_v vs 9)) (v_iv (n_v vs 11)) (v_iv (n_v vs 12)) (v_iv (n_v vs 13)) (v_iv (n_v vs 14)) (w_fi ws (n_v vs 0) 2) (w_ei ws (w_ar ws (n_v vs 3) 2)) (w_fi ws (n_v vs 0) 4) (w_fi ws (n_v vs 0) 3) (w_ei ws (w_ar ws (n_v vs 3) 3)) (w_ei ws (w_ar ws (n_v vs 2) 4)) (w_fi ws (n_v vs 0) 5) (w_fi ws (n_v vs 2) 0) k1 k5 k6 k7 k8 k9 k11 k12 k13 k14 d0 d1 d2 d3 d4 d5 (shm_14 f0) g1 (shm_12 f2) h3 (shm_38 f5) g6 (shm_14 f7) g8 h9 (shm_465 f11) (shm_429 f12) hK_2_4 hK_3_2 hK_3_3 kz_0_2 kz_0_3 kz_0_4 kz_0_5 kz_2_0)⟩
  have nf1 : fc_1 PRD (20, [14, 0], [50, 2, 0, 1004, 1005, 2, 6, 0, 2, 0, 0, 1, 0, 0, 6, 4, 2, 1, 0, 0, 1, 6, 3, 2, 1, 4, 2, 1, 5]) ws (vs) := ⟨nf_in hl rfl, sgq_467 (vc_Ro_pointOf_1_1 (v_iv (n_v vs 1)) (v_iv (n_v vs 5)) (v_iv (n_v vs 6)) (v_iv (n_v vs 7)) (v_iv (n_v vs 8)) (v_iv (n_v vs 9)) (v_iv (n_v vs 11)) (v_iv (n_v vs 12)) (v_iv (n_v vs 13)) (v_iv (n_v vs 14)) (w_fi ws (n_v vs 0) 2) (w_ei ws (w_ar ws (n_v vs 3) 2)) (w_fi ws (n_v vs 0) 4) (w_fi ws (n_v vs 0) 3) (w_ei ws (w_ar ws (n_v vs 3) 3)) (w_ei ws (w_ar ws (n_v vs 2) 4)) (w_fi ws (n_v vs 0) 5) (w_fi ws (n_v vs 2) 0) k1 k5 k6 k7 k8 k9 k11 k12 k13 k14 d0 d1 d2 d3 d4 d5 (shm_14 f0) g1 (shm_12 f2) h3 (shm_38 f5) g6 (shm_14 f7) g8 h9 (shm_465 f11) (shm_429 f12) hK_2_4 hK_3_2 hK_3_3 kz_0_2 kz_0_3 kz_0_4 kz_0_5 kz_2_0)⟩
  have rf14 : tv_ok ta (0, 0, 5999, []) (n_v vs 14) := tv_in t14 (by first | omega | grind) (by first | omega | grind)
  refine ⟨List.forall_mem_cons.mpr ⟨rf14, (fun _ h => (by cases h))⟩, [], trivial, ?_, (fun _ h => (by cases h))⟩
  rw [List.append_nil]
  exact List.forall_mem_cons.mpr ⟨⟨show (20 : Nat) < 100 from by decide, nf0⟩, List.forall_mem_cons.mpr ⟨⟨show (20 : Nat) < 100 from by decide, nf1⟩, (fun _ h => (by cases h))⟩⟩
def n_Ro_pointOf_an : List an_T := []
def t_Ro_pointOf_ct : ct_L := []
set_option maxRecDepth 100000 in
theorem c_Ro_pointOf {l : Launch} {D : va_G} {kA : Nat → ClassId} : ct_ok PRD l D kA GG y_Ro_pointOf z_Ro_pointOf e_Ro_pointOf := chk_all_ok (FT := [(15, 9, 1), (19, 9, 2), (23, 9, 3), (26, 9, 4), (111, 0, 2), (126, 0, 3)]) (PT := []) (CT := t_Ro_pointOf_ct) (KT := []) (NT := []) (AN := n_Ro_pointOf_an) (OT := [o_Ro_pointOf_0, o_Ro_pointOf_1]) 0 200 (List.forall_mem_cons.mpr ⟨oo_Ro_pointOf_0, List.forall_mem_cons.mpr ⟨oo_Ro_pointOf_1, List.forall_mem_nil _⟩⟩) (by decide +kernel) ⟨List.forall_mem_cons.mpr ⟨gf_Ro_15, List.forall_mem_cons.mpr ⟨gf_Ro_19, List.forall_mem_cons.mpr ⟨gf_Ro_23, List.forall_mem_cons.mpr ⟨gf_Ro_26, List.forall_mem_cons.mpr ⟨gf_Ro_111, List.forall_mem_cons.mpr ⟨gf_Ro_126, List.forall_mem_nil _⟩⟩⟩⟩⟩⟩, List.forall_mem_nil _, List.forall_mem_nil _, List.forall_mem_nil _, List.forall_mem_nil _, GG_pl⟩ (by decide +kernel)
set_option maxHeartbeats 4000000 in
theorem vc_St_addArc_at_gl_0_0 (x1 : Int) (x2 : Int) (x3 : Int) (x4 : Int) (x7 : Int) (x8 : Int) (x9 : Int) (arcs_0 : Int) (from_0 : Int → Int) (to_0 : Int → Int) (room_0 : Int → Int) (gain_0 : Int → Int) (tail_0o5 : Int → Int) (head_0o5 : Int → Int) (weight_0o5 : Int → Int) (turned_0o6 : Int → Int) (k1 : 0 ≤ x1 ∧ x1 ≤ 23) (k2 : 0 ≤ x2 ∧ x2 ≤ 23) (k3 : 0 ≤ x3 ∧ x3 ≤ 1000000000) (k4 : (-1) ≤ x4 ∧ x4 ≤ 1) (k7 : 0 ≤ x7 ∧ x7 ≤ 384) (k8 : 384 ≤ x8 ∧ x8 ≤ 384) (k9 : 384 ≤ x9 ∧ x9 ≤ 384) (f0 : x9 ≤ x8) (g1 : x8 = arcs_0) (f2 : AP (arcs_0) (from_0) (to_0) (room_0) (gain_0) (tail_0o5) (head_0o5) (weight_0o5) (turned_0o6) (x7)) (f3 : APX (tail_0o5) (head_0o5) (weight_0o5) (turned_0o6) (x7) (x1) (x2) (x3) (x4)) (f4 : x7 ≤ 191) (hK_0_2 : ∀ j : Int, 0 ≤ j → j < 384 → 0 ≤ from_0 j ∧ from_0 j ≤ 71) (hK_0_3 : ∀ j : Int, 0 ≤ j → j < 384 → 0 ≤ to_0 j ∧ to_0 j ≤ 71) (hK_0_4 : ∀ j : Int, 0 ≤ j → j < 384 → (-2147483648) ≤ room_0 j ∧ room_0 j ≤ 2147483647) (hK_0_5 : ∀ j : Int, 0 ≤ j → j < 384 → (-20) ≤ gain_0 j ∧ gain_0 j ≤ 20) (hK_5_7 : ∀ j : Int, 0 ≤ j → j < 48 → 0 ≤ tail_0o5 j ∧ tail_0o5 j ≤ 23) (hK_5_8 : ∀ j : Int, 0 ≤ j → j < 48 → 0 ≤ head_0o5 j ∧ head_0o5 j ≤ 23) (hK_5_9 : ∀ j : Int, 0 ≤ j → j < 48 → 0 ≤ weight_0o5 j ∧ weight_0o5 j ≤ 9) (hK_6_9 : ∀ j : Int, 0 ≤ j → j < 48 → 0 ≤ turned_0o6 j ∧ turned_0o6 j ≤ 1) (kz_0_1 : 0 ≤ arcs_0 ∧ arcs_0 ≤ 384) : APA (arcs_0) (from_0) (to_0) (room_0) (gain_0) (tail_0o5) (head_0o5) (weight_0o5) (turned_0o6) (x7) := by
  first
    | (exfalso; have q := (‹AP _ _ _ _ _ _ _ _ _ _›).1; omega)
    | exact ap_add ‹AP _ _ _ _ _ _ _ _ _ _› ‹APX _ _ _ _ _ _ _ _ _› (by assumption) (by omega) (by assumption) (by omega) (by assumption) (by omega) (by assumption) (by omega) (by omega)
  
def o_St_addArc_at_gl_0 : or_T := (61, 10, [(0, (2, 0, 0, [10])), (1, (0, 0, 23, [])), (2, (0, 0, 23, [])), (3, (0, 0, 1000000000, [])), (4, (0, -1, 1, [])), (5, (2, 0, 0, [3])), (6, (2, 0, 0, [2])), (7, (0, 0, 384, [])), (8, (0, 384, 384, [])), (9, (0, 384, 384, []))], [(7, [8, 9], [3]), (9, [8, 0], [1]), (20, [0, 5, 6, 7], [60, 1, 8, 651, 1, 2, 3, 4, 5, 1007, 1008, 1009, 2009]), (20, [5, 6, 7, 1, 2, 3, 4], [60, 0, 4, 655, 7, 8, 9, 1009]), (20, [7], [50, 0, 0, 0, 2, 1, 0, 0, 191])], [], [], [(20, [0, 5, 6, 7], [60, 1, 8, 652, 1, 2, 3, 4, 5, 1007, 1008, 1009, 2009])], [], [])
theorem oo_St_addArc_at_gl_0 {kA : Nat → ClassId} : or_ok PRD kA GG o_St_addArc_at_gl_0 := by
  refine or_mk fun A ta ws vs hD hth hl => ?_
  intro t0 r0 t1 k1 t2 k2 t3 k3 t4 k4 t5 r5 t6 r6 t7 k7 t8 k8 t9 k9 f0 f1 f2 f3 f4
  replace f1 := shm_127 f1
  have cr_0_2 := fdq_107 hD hth r0
  have cr_0_3 := fdq_108 hD hth r0
  have cr_0_4 := fdq_109 hD hth r0
  have cr_0_5 := fdq_110 hD hth r0
  have cr_5_7 := fdq_52 hD hth r5
  have cr_5_8 := fdq_53 hD hth r5
  have cr_5_9 := fdq_111 hD hth r5
  have cr_6_9 := fdq_80 hD hth r6
  have g1 : v_iv (n_v vs 8) = w_fi ws (n_v vs 0) 1 := congrArg v_iv f1
  have hK_0_2 := elq_50 hD hth cr_0_2
  have hK_0_3 := elq_51 hD hth cr_0_3
  have hK_0_4 := elq_52 hD hth cr_0_4
  have hK_0_5 := elq_53 hD hth cr_0_5
  have hK_5_7 := elq_10 hD hth cr_5_7
  have hK_5_8 := elq_11 hD hth cr_5_8
  have hK_5_9 := elq_54 hD hth cr_5_9
  have hK_6_9 := elq_35 hD hth cr_6_9
  have kz_0_1 := fdq_112 hD hth r0
  have nf0 : fc_1 PRD (20, [0, 5, 6, 7], [60, 1, 8, 652, 1, 2, 3, 4, 5, 1007, 1008, 1009, 2009]) ws (vs) := ⟨nf_in hl rfl, sgq_471 (vc_St_addArc_at_gl_0_0 (v_iv (n_v vs 1)) (v_iv (n_v vs 2)) (v_iv (n_v vs 3)) (v_iv (n_v vs 4)) (v_iv (n_v vs 7)) (v_iv (n_v vs 8)) (v_iv (n_v vs 9)) (w_fi ws (n_v vs 0) 1) (w_ei ws (w_ar ws (n_v vs 0) 2)) (w_ei ws (w_ar ws (n_v vs 0) 3)) (w_ei ws (w_ar ws (n_v vs 0) 4)) (w_ei ws (w_ar ws (n_v vs 0) 5)) (w_ei ws (w_ar ws (n_v vs 5) 7)) (w_ei ws (w_ar ws (n_v vs 5) 8)) (w_ei ws (w_ar ws (n_v vs 5) 9)) (w_ei ws (w_ar ws (n_v vs 6) 9)) k1 k2 k3 k4 k7 k8 k9 (shm_2 f0) g1 (shm_468 f2) (shm_469 f3) (shm_470 f4) hK_0_2 hK_0_3 hK_0_4 hK_0_5 hK_5_7 hK_5_8 hK_5_9 hK_6_9 kz_0_1)⟩
  refine ⟨(fun _ h => (by cases h)), [], trivial, ?_, (fun _ h => (by cases h))⟩
  rw [List.append_nil]
  exact List.forall_mem_cons.mpr ⟨⟨show (20 : Nat) < 100 from by decide, nf0⟩, (fun _ h => (by cases h))⟩
set_option maxHeartbeats 4000000 in
theorem vc_St_addArc_at_gl_1_0 (x1 : Int) (x2 : Int) (x3 : Int) (x4 : Int) (x7 : Int) (x8 : Int) (x9 : Int) (x14 : Int) (x15 : Int) (arcs_0 : Int) (tail_0o5 : Int → Int) (head_0o5 : Int → Int) (weight_0o5 : Int → Int) (turned_0o6 : Int → Int) (arcs_1 : Int) (tail_1o5 : Int → Int) (head_1o5 : Int → Int) (weight_1o5 : Int → Int) (turned_1o6 : Int → Int) (tail_2o5 : Int → Int) (head_2o5 : Int → Int) (weight_2o5 : Int → Int) (turned_2o6 : Int → Int) (tail_3o5 : Int → Int) (head_3o5 : Int → Int) (weight_3o5 : Int → Int) (turned_3o6 : Int → Int) (tail_4o5 : Int → Int) (head_4o5 : Int → Int) (weight_4o5 : Int → Int) (turned_4o6 : Int → Int) (from_5 : Int → Int) (to_5 : Int → Int) (room_5 : Int → Int) (gain_5 : Int → Int) (tail_5o5 : Int → Int) (head_5o5 : Int → Int) (weight_5o5 : Int → Int) (turned_5o6 : Int → Int) (arcs_5 : Int) (arcs_2 : Int) (arcs_3 : Int) (arcs_4 : Int) (from_0 : Int → Int) (from_1 : Int → Int) (from_2 : Int → Int) (from_3 : Int → Int) (from_4 : Int → Int) (to_0 : Int → Int) (to_1 : Int → Int) (to_2 : Int → Int) (to_3 : Int → Int) (to_4 : Int → Int) (room_0 : Int → Int) (room_1 : Int → Int) (room_2 : Int → Int) (room_3 : Int → Int) (room_4 : Int → Int) (gain_0 : Int → Int) (gain_1 : Int → Int) (gain_2 : Int → Int) (gain_3 : Int → Int) (gain_4 : Int → Int) (k1 : 0 ≤ x1 ∧ x1 ≤ 23) (k2 : 0 ≤ x2 ∧ x2 ≤ 23) (k3 : 0 ≤ x3 ∧ x3 ≤ 1000000000) (k4 : (-1) ≤ x4 ∧ x4 ≤ 1) (k7 : 0 ≤ x7 ∧ x7 ≤ 384) (k8 : 0 ≤ x8 ∧ x8 ≤ 383) (k9 : 384 ≤ x9 ∧ x9 ≤ 384) (k14 : 1 ≤ x14 ∧ x14 ≤ 1) (k15 : 1 ≤ x15 ∧ x15 ≤ 384) (d0 : x8 + 1 ≤ x15 ∧ x15 ≤ x8 + 1) (g0 : x15 = arcs_0) (f5 : APX (tail_0o5) (head_0o5) (weight_0o5) (turned_0o6) (x7) (x1) (x2) (x3) (x4)) (f6 : x7 ≤ 191) (f8 : x15 = x8 + x14) (g9 : x8 = arcs_1) (f10 : APX (tail_1o5) (head_1o5) (weight_1o5) (turned_1o6) (x7) (x1) (x2) (x3) (x4)) (f11 : x7 ≤ 191) (f13 : APX (tail_2o5) (head_2o5) (weight_2o5) (turned_2o6) (x7) (x1) (x2) (x3) (x4)) (f14 : x7 ≤ 191) (f16 : APX (tail_3o5) (head_3o5) (weight_3o5) (turned_3o6) (x7) (x1) (x2) (x3) (x4)) (f17 : x7 ≤ 191) (f19 : APX (tail_4o5) (head_4o5) (weight_4o5) (turned_4o6) (x7) (x1) (x2) (x3) (x4)) (f20 : x7 ≤ 191) (f22 : x8 < x9) (f23 : AP (arcs_5) (from_5) (to_5) (room_5) (gain_5) (tail_5o5) (head_5o5) (weight_5o5) (turned_5o6) (x7)) (f24 : APX (tail_5o5) (head_5o5) (weight_5o5) (turned_5o6) (x7) (x1) (x2) (x3) (x4)) (f25 : x7 ≤ 191) (fe_0_1_1 : arcs_0 = x15) (fe_0_1_2 : arcs_1 = arcs_2) (fe_0_1_3 : arcs_2 = arcs_3) (fe_0_1_4 : arcs_3 = arcs_4) (fe_0_1_5 : arcs_4 = arcs_5) (hE_0_2_1 : ∀ j : Int, from_0 j = from_1 j) (hE_0_2_2 : ∀ j : Int, from_1 j = from_2 j) (hE_0_2_3 : ∀ j : Int, from_2 j = from_3 j) (hE_0_2_4 : ∀ j : Int, from_3 j = from_4 j) (hE_0_2_5 : ∀ j : Int, 0 ≤ j → (j = x8 → from_4 j = x1) ∧ (j ≠ x8 → from_4 j = from_5 j)) (hK_0_2 : ∀ j : Int, 0 ≤ j → j < 384 → 0 ≤ from_0 j ∧ from_0 j ≤ 71) (hE_0_3_1 : ∀ j : Int, to_0 j = to_1 j) (hE_0_3_2 : ∀ j : Int, to_1 j = to_2 j) (hE_0_3_3 : ∀ j : Int, to_2 j = to_3 j) (hE_0_3_4 : ∀ j : Int, 0 ≤ j → (j = x8 → to_3 j = x2) ∧ (j ≠ x8 → to_3 j = to_4 j)) (hE_0_3_5 : ∀ j : Int, to_4 j = to_5 j) (hK_0_3 : ∀ j : Int, 0 ≤ j → j < 384 → 0 ≤ to_0 j ∧ to_0 j ≤ 71) (hE_0_4_1 : ∀ j : Int, room_0 j = room_1 j) (hE_0_4_2 : ∀ j : Int, room_1 j = room_2 j) (hE_0_4_3 : ∀ j : Int, 0 ≤ j → (j = x8 → room_2 j = x3) ∧ (j ≠ x8 → room_2 j = room_3 j)) (hE_0_4_4 : ∀ j : Int, room_3 j = room_4 j) (hE_0_4_5 : ∀ j : Int, room_4 j = room_5 j) (hK_0_4 : ∀ j : Int, 0 ≤ j → j < 384 → (-2147483648) ≤ room_0 j ∧ room_0 j ≤ 2147483647) (hE_0_5_1 : ∀ j : Int, gain_0 j = gain_1 j) (hE_0_5_2 : ∀ j : Int, 0 ≤ j → (j = x8 → gain_1 j = x4) ∧ (j ≠ x8 → gain_1 j = gain_2 j)) (hE_0_5_3 : ∀ j : Int, gain_2 j = gain_3 j) (hE_0_5_4 : ∀ j : Int, gain_3 j = gain_4 j) (hE_0_5_5 : ∀ j : Int, gain_4 j = gain_5 j) (hK_0_5 : ∀ j : Int, 0 ≤ j → j < 384 → (-20) ≤ gain_0 j ∧ gain_0 j ≤ 20) (hE_5_7_1 : ∀ j : Int, tail_0o5 j = tail_1o5 j) (hE_5_7_2 : ∀ j : Int, tail_1o5 j = tail_2o5 j) (hE_5_7_3 : ∀ j : Int, tail_2o5 j = tail_3o5 j) (hE_5_7_4 : ∀ j : Int, tail_3o5 j = tail_4o5 j) (hE_5_7_5 : ∀ j : Int, tail_4o5 j = tail_5o5 j) (hK_5_7 : ∀ j : Int, 0 ≤ j → j < 48 → 0 ≤ tail_0o5 j ∧ tail_0o5 j ≤ 23) (hE_5_8_1 : ∀ j : Int, head_0o5 j = head_1o5 j) (hE_5_8_2 : ∀ j : Int, head_1o5 j = head_2o5 j) (hE_5_8_3 : ∀ j : Int, head_2o5 j = head_3o5 j) (hE_5_8_4 : ∀ j : Int, head_3o5 j = head_4o5 j) (hE_5_8_5 : ∀ j : Int, head_4o5 j = head_5o5 j) (hK_5_8 : ∀ j : Int, 0 ≤ j → j < 48 → 0 ≤ head_0o5 j ∧ head_0o5 j ≤ 23) (hE_5_9_1 : ∀ j : Int, weight_0o5 j = weight_1o5 j) (hE_5_9_2 : ∀ j : Int, weight_1o5 j = weight_2o5 j) (hE_5_9_3 : ∀ j : Int, weight_2o5 j = weight_3o5 j) (hE_5_9_4 : ∀ j : Int, weight_3o5 j = weight_4o5 j) (hE_5_9_5 : ∀ j : Int, weight_4o5 j = weight_5o5 j) (hK_5_9 : ∀ j : Int, 0 ≤ j → j < 48 → 0 ≤ weight_0o5 j ∧ weight_0o5 j ≤ 9) (hE_6_9_1 : ∀ j : Int, turned_0o6 j = turned_1o6 j) (hE_6_9_2 : ∀ j : Int, turned_1o6 j = turned_2o6 j) (hE_6_9_3 : ∀ j : Int, turned_2o6 j = turned_3o6 j) (hE_6_9_4 : ∀ j : Int, turned_3o6 j = turned_4o6 j) (hE_6_9_5 : ∀ j : Int, turned_4o6 j = turned_5o6 j) (hK_6_9 : ∀ j : Int, 0 ≤ j → j < 48 → 0 ≤ turned_0o6 j ∧ turned_0o6 j ≤ 1) (kz_0_1 : 0 ≤ arcs_0 ∧ arcs_0 ≤ 384) : APA (arcs_0) (from_0) (to_0) (room_0) (gain_0) (tail_0o5) (head_0o5) (weight_0o5) (turned_0o6) (x7) := by
  subst fe_0_1_2
  subst fe_0_1_3
  subst fe_0_1_4
  subst fe_0_1_5
  have e_hE_0_2_1 := funext hE_0_2_1; subst e_hE_0_2_1
  have e_hE_0_2_2 := funext hE_0_2_2; subst e_hE_0_2_2
  have e_hE_0_2_3 := funext hE_0_2_3; subst e_hE_0_2_3
  have e_hE_0_2_4 := funext hE_0_2_4; subst e_hE_0_2_4
  have e_hE_0_3_1 := funext hE_0_3_1; subst e_hE_0_3_1
  have e_hE_0_3_2 := funext hE_0_3_2; subst e_hE_0_3_2
  have e_hE_0_3_3 := funext hE_0_3_3; subst e_hE_0_3_3
  have e_hE_0_3_5 := funext hE_0_3_5; subst e_hE_0_3_5
  have e_hE_0_4_1 := funext hE_0_4_1; subst e_hE_0_4_1
  have e_hE_0_4_2 := funext hE_0_4_2; subst e_hE_0_4_2
  have e_hE_0_4_4 := funext hE_0_4_4; subst e_hE_0_4_4
  have e_hE_0_4_5 := funext hE_0_4_5; subst e_hE_0_4_5
  have e_hE_0_5_1 := funext hE_0_5_1; subst e_hE_0_5_1
  have e_hE_0_5_3 := funext hE_0_5_3; subst e_hE_0_5_3
  have e_hE_0_5_4 := funext hE_0_5_4; subst e_hE_0_5_4
  have e_hE_0_5_5 := funext hE_0_5_5; subst e_hE_0_5_5
  have e_hE_5_7_1 := funext hE_5_7_1; subst e_hE_5_7_1
  have e_hE_5_7_2 := funext hE_5_7_2; subst e_hE_5_7_2
  have e_hE_5_7_3 := funext hE_5_7_3; subst e_hE_5_7_3
  have e_hE_5_7_4 := funext hE_5_7_4; subst e_hE_5_7_4
  have e_hE_5_7_5 := funext hE_5_7_5; subst e_hE_5_7_5
  have e_hE_5_8_1 := funext hE_5_8_1; subst e_hE_5_8_1
  have e_hE_5_8_2 := funext hE_5_8_2; subst e_hE_5_8_2
  have e_hE_5_8_3 := funext hE_5_8_3; subst e_hE_5_8_3
  have e_hE_5_8_4 := funext hE_5_8_4; subst e_hE_5_8_4
  have e_hE_5_8_5 := funext hE_5_8_5; subst e_hE_5_8_5
  have e_hE_5_9_1 := funext hE_5_9_1; subst e_hE_5_9_1
  have e_hE_5_9_2 := funext hE_5_9_2; subst e_hE_5_9_2
  have e_hE_5_9_3 := funext hE_5_9_3; subst e_hE_5_9_3
  have e_hE_5_9_4 := funext hE_5_9_4; subst e_hE_5_9_4
  have e_hE_5_9_5 := funext hE_5_9_5; subst e_hE_5_9_5
  have e_hE_6_9_1 := funext hE_6_9_1; subst e_hE_6_9_1
  have e_hE_6_9_2 := funext hE_6_9_2; subst e_hE_6_9_2
  have e_hE_6_9_3 := funext hE_6_9_3; subst e_hE_6_9_3
  have e_hE_6_9_4 := funext hE_6_9_4; subst e_hE_6_9_4
  have e_hE_6_9_5 := funext hE_6_9_5; subst e_hE_6_9_5
  first
    | (exfalso; have q := (‹AP _ _ _ _ _ _ _ _ _ _›).1; omega)
    | exact ap_add ‹AP _ _ _ _ _ _ _ _ _ _› ‹APX _ _ _ _ _ _ _ _ _› (by assumption) (by omega) (by assumption) (by omega) (by assumption) (by omega) (by assumption) (by omega) (by omega)
  
def o_St_addArc_at_gl_1 : or_T := (61, 16, [(0, (2, 0, 0, [10])), (1, (0, 0, 23, [])), (2, (0, 0, 23, [])), (3, (0, 0, 1000000000, [])), (4, (0, -1, 1, [])), (5, (2, 0, 0, [3])), (6, (2, 0, 0, [2])), (7, (0, 0, 384, [])), (8, (0, 0, 383, [])), (9, (0, 384, 384, [])), (10, (2, 0, 0, [118])), (11, (2, 0, 0, [119])), (12, (2, 0, 0, [120])), (13, (2, 0, 0, [121])), (14, (0, 1, 1, [])), (15, (0, 1, 384, []))], [(9, [15, 0], [1]), (9, [13, 0], [5]), (9, [12, 0], [4]), (9, [11, 0], [3]), (9, [10, 0], [2]), (20, [5, 6, 7, 1, 2, 3, 4], [60, 0, 4, 655, 7, 8, 9, 1009]), (20, [7], [50, 0, 0, 0, 2, 1, 0, 0, 191]), (101, [0, 15], [1]), (1, [15, 8, 14], []), (9, [8, 0], [1]), (20, [5, 6, 7, 1, 2, 3, 4], [60, 0, 4, 655, 7, 8, 9, 1009]), (20, [7], [50, 0, 0, 0, 2, 1, 0, 0, 191]), (100, [13, 8, 4], []), (20, [5, 6, 7, 1, 2, 3, 4], [60, 0, 4, 655, 7, 8, 9, 1009]), (20, [7], [50, 0, 0, 0, 2, 1, 0, 0, 191]), (100, [12, 8, 3], []), (20, [5, 6, 7, 1, 2, 3, 4], [60, 0, 4, 655, 7, 8, 9, 1009]), (20, [7], [50, 0, 0, 0, 2, 1, 0, 0, 191]), (100, [11, 8, 2], []), (20, [5, 6, 7, 1, 2, 3, 4], [60, 0, 4, 655, 7, 8, 9, 1009]), (20, [7], [50, 0, 0, 0, 2, 1, 0, 0, 191]), (100, [10, 8, 1], []), (7, [8, 9], [2]), (20, [0, 5, 6, 7], [60, 1, 8, 651, 1, 2, 3, 4, 5, 1007, 1008, 1009, 2009]), (20, [5, 6, 7, 1, 2, 3, 4], [60, 0, 4, 655, 7, 8, 9, 1009]), (20, [7], [50, 0, 0, 0, 2, 1, 0, 0, 191])], [], [], [(20, [0, 5, 6, 7], [60, 1, 8, 652, 1, 2, 3, 4, 5, 1007, 1008, 1009, 2009])], [], [(15, 8, 1, 1)])
theorem oo_St_addArc_at_gl_1 {kA : Nat → ClassId} : or_ok PRD kA GG o_St_addArc_at_gl_1 := by
  refine or_mk fun A ta ws vs hD hth hl => ?_
  intro t0 r0 t1 k1 t2 k2 t3 k3 t4 k4 t5 r5 t6 r6 t7 k7 t8 k8 t9 k9 t10 r10 t11 r11 t12 r12 t13 r13 t14 k14 t15 k15 d0 f0 f1 f2 f3 f4 f5 f6 ta1 w1 le1 s1 f8 f9 f10 f11 ta2 w2 le2 s2 f13 f14 ta3 w3 le3 s3 f16 f17 ta4 w4 le4 s4 f19 f20 ta5 w5 le5 s5 f22 f23 f24 f25
  replace f0 := shm_127 f0
  replace f1 := shm_109 f1
  replace f2 := shm_107 f2
  replace f3 := shm_149 f3
  replace f4 := shm_129 f4
  have s1 : (∀ b j, w_el ws b j = w_el w1 b j) ∧ ∀ b j, w_fd ws b j = if b = v_ad (n_v vs 0) ∧ j = 1 then n_v vs 15 else w_fd w1 b j := s1.2
  replace f9 := shm_127 f9
  replace f10 := shm_469 f10
  have s2 : (∀ b j, w_el w1 b j = if b = v_ad (n_v vs 13) ∧ j = (v_iv (n_v vs 8)).toNat then v_iv (n_v vs 4) else w_el w2 b j) ∧ ∀ b k, w_fd w1 b k = w_fd w2 b k := s2.2
  replace f13 := shm_469 f13
  have s3 : (∀ b j, w_el w2 b j = if b = v_ad (n_v vs 12) ∧ j = (v_iv (n_v vs 8)).toNat then v_iv (n_v vs 3) else w_el w3 b j) ∧ ∀ b k, w_fd w2 b k = w_fd w3 b k := s3.2
  replace f16 := shm_469 f16
  have s4 : (∀ b j, w_el w3 b j = if b = v_ad (n_v vs 11) ∧ j = (v_iv (n_v vs 8)).toNat then v_iv (n_v vs 2) else w_el w4 b j) ∧ ∀ b k, w_fd w3 b k = w_fd w4 b k := s4.2
  replace f19 := shm_469 f19
  have s5 : (∀ b j, w_el w4 b j = if b = v_ad (n_v vs 10) ∧ j = (v_iv (n_v vs 8)).toNat then v_iv (n_v vs 1) else w_el w5 b j) ∧ ∀ b k, w_fd w4 b k = w_fd w5 b k := s5.2
  replace f23 := shm_468 f23
  replace f24 := shm_469 f24
  have ar_0_2_1 : w_ar w1 (n_v vs 0) 2 = w_ar ws (n_v vs 0) 2 := by show v_ad (w_fd w1 _ _) = v_ad (w_fd ws _ _); rw [s1.2, if_neg (fun e => absurd e.2 (by decide))]
  have ar_0_2_2 : w_ar w2 (n_v vs 0) 2 = w_ar ws (n_v vs 0) 2 := by rw [← ar_0_2_1]; show v_ad (w_fd w2 _ _) = v_ad (w_fd w1 _ _); rw [s2.2]
  have ar_0_2_3 : w_ar w3 (n_v vs 0) 2 = w_ar ws (n_v vs 0) 2 := by rw [← ar_0_2_2]; show v_ad (w_fd w3 _ _) = v_ad (w_fd w2 _ _); rw [s3.2]
  have ar_0_2_4 : w_ar w4 (n_v vs 0) 2 = w_ar ws (n_v vs 0) 2 := by rw [← ar_0_2_3]; show v_ad (w_fd w4 _ _) = v_ad (w_fd w3 _ _); rw [s4.2]
  have ar_0_2_5 : w_ar w5 (n_v vs 0) 2 = w_ar ws (n_v vs 0) 2 := by rw [← ar_0_2_4]; show v_ad (w_fd w5 _ _) = v_ad (w_fd w4 _ _); rw [s5.2]
  have cr_0_2 := fdq_107 hD hth r0
  have ar_0_3_1 : w_ar w1 (n_v vs 0) 3 = w_ar ws (n_v vs 0) 3 := by show v_ad (w_fd w1 _ _) = v_ad (w_fd ws _ _); rw [s1.2, if_neg (fun e => absurd e.2 (by decide))]
  have ar_0_3_2 : w_ar w2 (n_v vs 0) 3 = w_ar ws (n_v vs 0) 3 := by rw [← ar_0_3_1]; show v_ad (w_fd w2 _ _) = v_ad (w_fd w1 _ _); rw [s2.2]
  have ar_0_3_3 : w_ar w3 (n_v vs 0) 3 = w_ar ws (n_v vs 0) 3 := by rw [← ar_0_3_2]; show v_ad (w_fd w3 _ _) = v_ad (w_fd w2 _ _); rw [s3.2]
  have ar_0_3_4 : w_ar w4 (n_v vs 0) 3 = w_ar ws (n_v vs 0) 3 := by rw [← ar_0_3_3]; show v_ad (w_fd w4 _ _) = v_ad (w_fd w3 _ _); rw [s4.2]
  have ar_0_3_5 : w_ar w5 (n_v vs 0) 3 = w_ar ws (n_v vs 0) 3 := by rw [← ar_0_3_4]; show v_ad (w_fd w5 _ _) = v_ad (w_fd w4 _ _); rw [s5.2]
  have cr_0_3 := fdq_108 hD hth r0
  have ar_0_4_1 : w_ar w1 (n_v vs 0) 4 = w_ar ws (n_v vs 0) 4 := by show v_ad (w_fd w1 _ _) = v_ad (w_fd ws _ _); rw [s1.2, if_neg (fun e => absurd e.2 (by decide))]
  have ar_0_4_2 : w_ar w2 (n_v vs 0) 4 = w_ar ws (n_v vs 0) 4 := by rw [← ar_0_4_1]; show v_ad (w_fd w2 _ _) = v_ad (w_fd w1 _ _); rw [s2.2]
  have ar_0_4_3 : w_ar w3 (n_v vs 0) 4 = w_ar ws (n_v vs 0) 4 := by rw [← ar_0_4_2]; show v_ad (w_fd w3 _ _) = v_ad (w_fd w2 _ _); rw [s3.2]
  have ar_0_4_4 : w_ar w4 (n_v vs 0) 4 = w_ar ws (n_v vs 0) 4 := by rw [← ar_0_4_3]; show v_ad (w_fd w4 _ _) = v_ad (w_fd w3 _ _); rw [s4.2]
  have ar_0_4_5 : w_ar w5 (n_v vs 0) 4 = w_ar ws (n_v vs 0) 4 := by rw [← ar_0_4_4]; show v_ad (w_fd w5 _ _) = v_ad (w_fd w4 _ _); rw [s5.2]
  have cr_0_4 := fdq_109 hD hth r0
  have ar_0_5_1 : w_ar w1 (n_v vs 0) 5 = w_ar ws (n_v vs 0) 5 := by show v_ad (w_fd w1 _ _) = v_ad (w_fd ws _ _); rw [s1.2, if_neg (fun e => absurd e.2 (by decide))]
  have ar_0_5_2 : w_ar w2 (n_v vs 0) 5 = w_ar ws (n_v vs 0) 5 := by rw [← ar_0_5_1]; show v_ad (w_fd w2 _ _) = v_ad (w_fd w1 _ _); rw [s2.2]
  have ar_0_5_3 : w_ar w3 (n_v vs 0) 5 = w_ar ws (n_v vs 0) 5 := by rw [← ar_0_5_2]; show v_ad (w_fd w3 _ _) = v_ad (w_fd w2 _ _); rw [s3.2]
  have ar_0_5_4 : w_ar w4 (n_v vs 0) 5 = w_ar ws (n_v vs 0) 5 := by rw [← ar_0_5_3]; show v_ad (w_fd w4 _ _) = v_ad (w_fd w3 _ _); rw [s4.2]
  have ar_0_5_5 : w_ar w5 (n_v vs 0) 5 = w_ar ws (n_v vs 0) 5 := by rw [← ar_0_5_4]; show v_ad (w_fd w5 _ _) = v_ad (w_fd w4 _ _); rw [s5.2]
  have cr_0_5 := fdq_110 hD hth r0
  have ar_5_7_1 : w_ar w1 (n_v vs 5) 7 = w_ar ws (n_v vs 5) 7 := by show v_ad (w_fd w1 _ _) = v_ad (w_fd ws _ _); rw [s1.2, if_neg (fun e => absurd e.2 (by decide))]
  have ar_5_7_2 : w_ar w2 (n_v vs 5) 7 = w_ar ws (n_v vs 5) 7 := by rw [← ar_5_7_1]; show v_ad (w_fd w2 _ _) = v_ad (w_fd w1 _ _); rw [s2.2]
  have ar_5_7_3 : w_ar w3 (n_v vs 5) 7 = w_ar ws (n_v vs 5) 7 := by rw [← ar_5_7_2]; show v_ad (w_fd w3 _ _) = v_ad (w_fd w2 _ _); rw [s3.2]
  have ar_5_7_4 : w_ar w4 (n_v vs 5) 7 = w_ar ws (n_v vs 5) 7 := by rw [← ar_5_7_3]; show v_ad (w_fd w4 _ _) = v_ad (w_fd w3 _ _); rw [s4.2]
  have ar_5_7_5 : w_ar w5 (n_v vs 5) 7 = w_ar ws (n_v vs 5) 7 := by rw [← ar_5_7_4]; show v_ad (w_fd w5 _ _) = v_ad (w_fd w4 _ _); rw [s5.2]
  have cr_5_7 := fdq_52 hD hth r5
  have ar_5_8_1 : w_ar w1 (n_v vs 5) 8 = w_ar ws (n_v vs 5) 8 := by show v_ad (w_fd w1 _ _) = v_ad (w_fd ws _ _); rw [s1.2, if_neg (fun e => absurd e.2 (by decide))]
  have ar_5_8_2 : w_ar w2 (n_v vs 5) 8 = w_ar ws (n_v vs 5) 8 := by rw [← ar_5_8_1]; show v_ad (w_fd w2 _ _) = v_ad (w_fd w1 _ _); rw [s2.2]
  have ar_5_8_3 : w_ar w3 (n_v vs 5) 8 = w_ar ws (n_v vs 5) 8 := by rw [← ar_5_8_2]; show v_ad (w_fd w3 _ _) = v_ad (w_fd w2 _ _); rw [s3.2]
  have ar_5_8_4 : w_ar w4 (n_v vs 5) 8 = w_ar ws (n_v vs 5) 8 := by rw [← ar_5_8_3]; show v_ad (w_fd w4 _ _) = v_ad (w_fd w3 _ _); rw [s4.2]
  have ar_5_8_5 : w_ar w5 (n_v vs 5) 8 = w_ar ws (n_v vs 5) 8 := by rw [← ar_5_8_4]; show v_ad (w_fd w5 _ _) = v_ad (w_fd w4 _ _); rw [s5.2]
  have cr_5_8 := fdq_53 hD hth r5
  have ar_5_9_1 : w_ar w1 (n_v vs 5) 9 = w_ar ws (n_v vs 5) 9 := by show v_ad (w_fd w1 _ _) = v_ad (w_fd ws _ _); rw [s1.2, if_neg (fun e => absurd e.2 (by decide))]
  have ar_5_9_2 : w_ar w2 (n_v vs 5) 9 = w_ar ws (n_v vs 5) 9 := by rw [← ar_5_9_1]; show v_ad (w_fd w2 _ _) = v_ad (w_fd w1 _ _); rw [s2.2]
  have ar_5_9_3 : w_ar w3 (n_v vs 5) 9 = w_ar ws (n_v vs 5) 9 := by rw [← ar_5_9_2]; show v_ad (w_fd w3 _ _) = v_ad (w_fd w2 _ _); rw [s3.2]
  have ar_5_9_4 : w_ar w4 (n_v vs 5) 9 = w_ar ws (n_v vs 5) 9 := by rw [← ar_5_9_3]; show v_ad (w_fd w4 _ _) = v_ad (w_fd w3 _ _); rw [s4.2]
  have ar_5_9_5 : w_ar w5 (n_v vs 5) 9 = w_ar ws (n_v vs 5) 9 := by rw [← ar_5_9_4]; show v_ad (w_fd w5 _ _) = v_ad (w_fd w4 _ _); rw [s5.2]
  have cr_5_9 := fdq_111 hD hth r5
  have ar_6_9_1 : w_ar w1 (n_v vs 6) 9 = w_ar ws (n_v vs 6) 9 := by show v_ad (w_fd w1 _ _) = v_ad (w_fd ws _ _); rw [s1.2, if_neg (fun e => absurd e.2 (by decide))]
  have ar_6_9_2 : w_ar w2 (n_v vs 6) 9 = w_ar ws (n_v vs 6) 9 := by rw [← ar_6_9_1]; show v_ad (w_fd w2 _ _) = v_ad (w_fd w1 _ _); rw [s2.2]
  have ar_6_9_3 : w_ar w3 (n_v vs 6) 9 = w_ar ws (n_v vs 6) 9 := by rw [← ar_6_9_2]; show v_ad (w_fd w3 _ _) = v_ad (w_fd w2 _ _); rw [s3.2]
  have ar_6_9_4 : w_ar w4 (n_v vs 6) 9 = w_ar ws (n_v vs 6) 9 := by rw [← ar_6_9_3]; show v_ad (w_fd w4 _ _) = v_ad (w_fd w3 _ _); rw [s4.2]
  have ar_6_9_5 : w_ar w5 (n_v vs 6) 9 = w_ar ws (n_v vs 6) 9 := by rw [← ar_6_9_4]; show v_ad (w_fd w5 _ _) = v_ad (w_fd w4 _ _); rw [s5.2]
  have cr_6_9 := fdq_80 hD hth r6
  have ad_13 : v_ad (n_v vs 13) = w_ar ws (n_v vs 0) 5 := congrArg v_ad f1
  have ad_12 : v_ad (n_v vs 12) = w_ar ws (n_v vs 0) 4 := congrArg v_ad f2
  have ad_11 : v_ad (n_v vs 11) = w_ar ws (n_v vs 0) 3 := congrArg v_ad f3
  have ad_10 : v_ad (n_v vs 10) = w_ar ws (n_v vs 0) 2 := congrArg v_ad f4
  have g0 : v_iv (n_v vs 15) = w_fi ws (n_v vs 0) 1 := congrArg v_iv f0
  have g9 : v_iv (n_v vs 8) = w_fi w1 (n_v vs 0) 1 := congrArg v_iv f9
  simp only [ar_5_7_1, ar_5_8_1, ar_5_9_1, ar_6_9_1, ar_5_7_2, ar_5_8_2, ar_5_9_2, ar_6_9_2, ar_5_7_3, ar_5_8_3, ar_5_9_3, ar_6_9_3, ar_5_7_4, ar_5_8_4, ar_5_9_4, ar_6_9_4, ar_0_2_5, ar_0_3_5, ar_0_4_5, ar_0_5_5, ar_5_7_5, ar_5_8_5, ar_5_9_5, ar_6_9_5] at f10 f13 f16 f19 f23 f24
  have fe_0_1_1 : w_fi ws (n_v vs 0) 1 = v_iv (n_v vs 15) := by show v_iv (w_fd _ _ _) = _; rw [s1.2, if_pos ⟨rfl, rfl⟩]
  have fe_0_1_2 : w_fi w1 (n_v vs 0) 1 = w_fi w2 (n_v vs 0) 1 := congrArg v_iv (s2.2 _ _)
  have fe_0_1_3 : w_fi w2 (n_v vs 0) 1 = w_fi w3 (n_v vs 0) 1 := congrArg v_iv (s3.2 _ _)
  have fe_0_1_4 : w_fi w3 (n_v vs 0) 1 = w_fi w4 (n_v vs 0) 1 := congrArg v_iv (s4.2 _ _)
  have fe_0_1_5 : w_fi w4 (n_v vs 0) 1 = w_fi w5 (n_v vs 0) 1 := congrArg v_iv (s5.2 _ _)
  have hE_0_2_1 : ∀ j : Int, w_ei ws (w_ar ws (n_v vs 0) 2) j = w_ei w1 (w_ar ws (n_v vs 0) 2) j := fun j => s1.1 _ _
  have hE_0_2_2 : ∀ j : Int, w_ei w1 (w_ar ws (n_v vs 0) 2) j = w_ei w2 (w_ar ws (n_v vs 0) 2) j := el_kp s2.1 r13 cr_0_2 (by decide)
  have hE_0_2_3 : ∀ j : Int, w_ei w2 (w_ar ws (n_v vs 0) 2) j = w_ei w3 (w_ar ws (n_v vs 0) 2) j := el_kp s3.1 r12 cr_0_2 (by decide)
  have hE_0_2_4 : ∀ j : Int, w_ei w3 (w_ar ws (n_v vs 0) 2) j = w_ei w4 (w_ar ws (n_v vs 0) 2) j := el_kp s4.1 r11 cr_0_2 (by decide)
  have hE_0_2_5 : ∀ j : Int, 0 ≤ j → (j = v_iv (n_v vs 8) → w_ei w4 (w_ar ws (n_v vs 0) 2) j = v_iv (n_v vs 1)) ∧ (j ≠ v_iv (n_v vs 8) → w_ei w4 (w_ar ws (n_v vs 0) 2) j = w_ei w5 (w_ar ws (n_v vs 0) 2) j) := fun j hj => ⟨fun h => by unfold w_ei; rw [s5.1, if_pos ⟨ad_10.symm, by rw [h]⟩], fun h => by unfold w_ei; rw [s5.1, if_neg (fun e => h (by have := e.2; omega))]⟩
  have hK_0_2 := elq_50 hD hth cr_0_2
  have hE_0_3_1 : ∀ j : Int, w_ei ws (w_ar ws (n_v vs 0) 3) j = w_ei w1 (w_ar ws (n_v vs 0) 3) j := fun j => s1.1 _ _
  have hE_0_3_2 : ∀ j : Int, w_ei w1 (w_ar ws (n_v vs 0) 3) j = w_ei w2 (w_ar ws (n_v vs 0) 3) j := el_kp s2.1 r13 cr_0_3 (by decide)
  have hE_0_3_3 : ∀ j : Int, w_ei w2 (w_ar ws (n_v vs 0) 3) j = w_ei w3 (w_ar ws (n_v vs 0) 3) j := el_kp s3.1 r12 cr_0_3 (by decide)
  have hE_0_3_4 : ∀ j : Int, 0 ≤ j → (j = v_iv (n_v vs 8) → w_ei w3 (w_ar ws (n_v vs 0) 3) j = v_iv (n_v vs 2)) ∧ (j ≠ v_iv (n_v vs 8) → w_ei w3 (w_ar ws (n_v vs 0) 3) j = w_ei w4 (w_ar ws (n_v vs 0) 3) j) := fun j hj => ⟨fun h => by unfold w_ei; rw [s4.1, if_pos ⟨ad_11.symm, by rw [h]⟩], fun h => by unfold w_ei; rw [s4.1, if_neg (fun e => h (by have := e.2; omega))]⟩
  have hE_0_3_5 : ∀ j : Int, w_ei w4 (w_ar ws (n_v vs 0) 3) j = w_ei w5 (w_ar ws (n_v vs 0) 3) j := el_kp s5.1 r10 cr_0_3 (by decide)
  have hK_0_3 := elq_51 hD hth cr_0_3
  have hE_0_4_1 : ∀ j : Int, w_ei ws (w_ar ws (n_v vs 0) 4) j = w_ei w1 (w_ar ws (n_v vs 0) 4) j := fun j => s1.1 _ _
  have hE_0_4_2 : ∀ j : Int, w_ei w1 (w_ar ws (n_v vs 0) 4) j = w_ei w2 (w_ar ws (n_v vs 0) 4) j := el_kp s2.1 r13 cr_0_4 (by decide)
  have hE_0_4_3 : ∀ j : Int, 0 ≤ j → (j = v_iv (n_v vs 8) → w_ei w2 (w_ar ws (n_v vs 0) 4) j = v_iv (n_v vs 3)) ∧ (j ≠ v_iv (n_v vs 8) → w_ei w2 (w_ar ws (n_v vs 0) 4) j = w_ei w3 (w_ar ws (n_v vs 0) 4) j) := fun j hj => ⟨fun h => by unfold w_ei; rw [s3.1, if_pos ⟨ad_12.symm, by rw [h]⟩], fun h => by unfold w_ei; rw [s3.1, if_neg (fun e => h (by have := e.2; omega))]⟩
  have hE_0_4_4 : ∀ j : Int, w_ei w3 (w_ar ws (n_v vs 0) 4) j = w_ei w4 (w_ar ws (n_v vs 0) 4) j := el_kp s4.1 r11 cr_0_4 (by decide)
  have hE_0_4_5 : ∀ j : Int, w_ei w4 (w_ar ws (n_v vs 0) 4) j = w_ei w5 (w_ar ws (n_v vs 0) 4) j := el_kp s5.1 r10 cr_0_4 (by decide)
  have hK_0_4 := elq_52 hD hth cr_0_4
  have hE_0_5_1 : ∀ j : Int, w_ei ws (w_ar ws (n_v vs 0) 5) j = w_ei w1 (w_ar ws (n_v vs 0) 5) j := fun j => s1.1 _ _
  have hE_0_5_2 : ∀ j : Int, 0 ≤ j → (j = v_iv (n_v vs 8) → w_ei w1 (w_ar ws (n_v vs 0) 5) j = v_iv (n_v vs 4)) ∧ (j ≠ v_iv (n_v vs 8) → w_ei w1 (w_ar ws (n_v vs 0) 5) j = w_ei w2 (w_ar ws (n_v vs 0) 5) j) := fun j hj => ⟨fun h => by unfold w_ei; rw [s2.1, if_pos ⟨ad_13.symm, by rw [h]⟩], fun h => by unfold w_ei; rw [s2.1, if_neg (fun e => h (by have := e.2; omega))]⟩
  have hE_0_5_3 : ∀ j : Int, w_ei w2 (w_ar ws (n_v vs 0) 5) j = w_ei w3 (w_ar ws (n_v vs 0) 5) j := el_kp s3.1 r12 cr_0_5 (by decide)
  have hE_0_5_4 : ∀ j : Int, w_ei w3 (w_ar ws (n_v vs 0) 5) j = w_ei w4 (w_ar ws (n_v vs 0) 5) j := el_kp s4.1 r11 cr_0_5 (by decide)
  have hE_0_5_5 : ∀ j : Int, w_ei w4 (w_ar ws (n_v vs 0) 5) j = w_ei w5 (w_ar ws (n_v vs 0) 5) j := el_kp s5.1 r10 cr_0_5 (by decide)
  have hK_0_5 := elq_53 hD hth cr_0_5
  have hE_5_7_1 : ∀ j : Int, w_ei ws (w_ar ws (n_v vs 5) 7) j = w_ei w1 (w_ar ws (n_v vs 5) 7) j := fun j => s1.1 _ _
  have hE_5_7_2 : ∀ j : Int, w_ei w1 (w_ar ws (n_v vs 5) 7) j = w_ei w2 (w_ar ws (n_v vs 5) 7) j := el_kp s2.1 r13 cr_5_7 (by decide)
  have hE_5_7_3 : ∀ j : Int, w_ei w2 (w_ar ws (n_v vs 5) 7) j = w_ei w3 (w_ar ws (n_v vs 5) 7) j := el_kp s3.1 r12 cr_5_7 (by decide)
  have hE_5_7_4 : ∀ j : Int, w_ei w3 (w_ar ws (n_v vs 5) 7) j = w_ei w4 (w_ar ws (n_v vs 5) 7) j := el_kp s4.1 r11 cr_5_7 (by decide)
  have hE_5_7_5 : ∀ j : Int, w_ei w4 (w_ar ws (n_v vs 5) 7) j = w_ei w5 (w_ar ws (n_v vs 5) 7) j := el_kp s5.1 r10 cr_5_7 (by decide)
  have hK_5_7 := elq_10 hD hth cr_5_7
  have hE_5_8_1 : ∀ j : Int, w_ei ws (w_ar ws (n_v vs 5) 8) j = w_ei w1 (w_ar ws (n_v vs 5) 8) j := fun j => s1.1 _ _
  have hE_5_8_2 : ∀ j : Int, w_ei w1 (w_ar ws (n_v vs 5) 8) j = w_ei w2 (w_ar ws (n_v vs 5) 8) j := el_kp s2.1 r13 cr_5_8 (by decide)
  have hE_5_8_3 : ∀ j : Int, w_ei w2 (w_ar ws (n_v vs 5) 8) j = w_ei w3 (w_ar ws (n_v vs 5) 8) j := el_kp s3.1 r12 cr_5_8 (by decide)
  have hE_5_8_4 : ∀ j : Int, w_ei w3 (w_ar ws (n_v vs 5) 8) j = w_ei w4 (w_ar ws (n_v vs 5) 8) j := el_kp s4.1 r11 cr_5_8 (by decide)
  have hE_5_8_5 : ∀ j : Int, w_ei w4 (w_ar ws (n_v vs 5) 8) j = w_ei w5 (w_ar ws (n_v vs 5) 8) j := el_kp s5.1 r10 cr_5_8 (by decide)
  have hK_5_8 := elq_11 hD hth cr_5_8
  have hE_5_9_1 : ∀ j : Int, w_ei ws (w_ar ws (n_v vs 5) 9) j = w_ei w1 (w_ar ws (n_v vs 5) 9) j := fun j => s1.1 _ _
  have hE_5_9_2 : ∀ j : Int, w_ei w1 (w_ar ws (n_v vs 5) 9) j = w_ei w2 (w_ar ws (n_v vs 5) 9) j := el_kp s2.1 r13 cr_5_9 (by decide)
  have hE_5_9_3 : ∀ j : Int, w_ei w2 (w_ar ws (n_v vs 5) 9) j = w_ei w3 (w_ar ws (n_v vs 5) 9) j := el_kp s3.1 r12 cr_5_9 (by decide)
  have hE_5_9_4 : ∀ j : Int, w_ei w3 (w_ar ws (n_v vs 5) 9) j = w_ei w4 (w_ar ws (n_v vs 5) 9) j := el_kp s4.1 r11 cr_5_9 (by decide)
  have hE_5_9_5 : ∀ j : Int, w_ei w4 (w_ar ws (n_v vs 5) 9) j = w_ei w5 (w_ar ws (n_v vs 5) 9) j := el_kp s5.1 r10 cr_5_9 (by decide)
  have hK_5_9 := elq_54 hD hth cr_5_9
  have hE_6_9_1 : ∀ j : Int, w_ei ws (w_ar ws (n_v vs 6) 9) j = w_ei w1 (w_ar ws (n_v vs 6) 9) j := fun j => s1.1 _ _
  have hE_6_9_2 : ∀ j : Int, w_ei w1 (w_ar ws (n_v vs 6) 9) j = w_ei w2 (w_ar ws (n_v vs 6) 9) j := el_kp s2.1 r13 cr_6_9 (by decide)
  have hE_6_9_3 : ∀ j : Int, w_ei w2 (w_ar ws (n_v vs 6) 9) j = w_ei w3 (w_ar ws (n_v vs 6) 9) j := el_kp s3.1 r12 cr_6_9 (by decide)
  have hE_6_9_4 : ∀ j : Int, w_ei w3 (w_ar ws (n_v vs 6) 9) j = w_ei w4 (w_ar ws (n_v vs 6) 9) j := el_kp s4.1 r11 cr_6_9 (by decide)
  have hE_6_9_5 : ∀ j : Int, w_ei w4 (w_ar ws (n_v vs 6) 9) j = w_ei w5 (w_ar ws (n_v vs 6) 9) j := el_kp s5.1 r10 cr_6_9 (by decide)
  have hK_6_9 := elq_35 hD hth cr_6_9
  have kz_0_1 := fdq_112 hD hth r0
  have nf0 : fc_1 PRD (20, [0, 5, 6, 7], [60, 1, 8, 652, 1, 2, 3, 4, 5, 1007, 1008, 1009, 2009]) ws (vs) := ⟨nf_in hl rfl, sgq_471 (vc_St_addArc_at_gl_1_0 (v_iv (n_v vs 1)) (v_iv (n_v vs 2)) (v_iv (n_v vs 3)) (v_iv (n_v vs 4)) (v_iv (n_v vs 7)) (v_iv (n_v vs 8)) (v_iv (n_v vs 9)) (v_iv (n_v vs 14)) (v_iv (n_v vs 15)) (w_fi ws (n_v vs 0) 1) (w_ei ws (w_ar ws (n_v vs 5) 7)) (w_ei ws (w_ar ws (n_v vs 5) 8)) (w_ei ws (w_ar ws (n_v vs 5) 9)) (w_ei ws (w_ar ws (n_v vs 6) 9)) (w_fi w1 (n_v vs 0) 1) (w_ei w1 (w_ar ws (n_v vs 5) 7)) (w_ei w1 (w_ar ws (n_v vs 5) 8)) (w_ei w1 (w_ar ws (n_v vs 5) 9)) (w_ei w1 (w_ar ws (n_v vs 6) 9)) (w_ei w2 (w_ar ws (n_v vs 5) 7)) (w_ei w2 (w_ar ws (n_v vs 5) 8)) (w_ei w2 (w_ar ws (n_v vs 5) 9)) (w_ei w2 (w_ar ws (n_v vs 6) 9)) (w_ei w3 (w_ar ws (n_v vs 5) 7)) (w_ei w3 (w_ar ws (n_v vs 5) 8)) (w_ei w3 (w_ar ws (n_v vs 5) 9)) (w_ei w3 (w_ar ws (n_v vs 6) 9)) (w_ei w4 (w_ar ws (n_v vs 5) 7)) (w_ei w4 (w_ar ws (n_v vs 5) 8)) (w_ei w4 (w_ar ws (n_v vs 5) 9)) (w_ei w4 (w_ar ws (n_v vs 6) 9)) (w_ei w5 (w_ar ws (n_v vs 0) 2)) (w_ei w5 (w_ar ws (n_v vs 0) 3)) (w_ei w5 (w_ar ws (n_v vs 0) 4)) (w_ei w5 (w_ar ws (n_v vs 0) 5)) (w_ei w5 (w_ar ws (n_v vs 5) 7)) (w_ei w5 (w_ar ws (n_v vs 5) 8)) (w_ei w5 (w_ar ws (n_v vs 5) 9)) (w_ei w5 (w_ar ws (n_v vs 6) 9)) (w_fi w5 (n_v vs 0) 1) (w_fi w2 (n_v vs 0) 1) (w_fi w3 (n_v vs 0) 1) (w_fi w4 (n_v vs 0) 1) (w_ei ws (w_ar ws (n_v vs 0) 2)) (w_ei w1 (w_ar ws (n_v vs 0) 2)) (w_ei w2 (w_ar ws (n_v vs 0) 2)) (w_ei w3 (w_ar ws (n_v vs 0) 2)) (w_ei w4 (w_ar ws (n_v vs 0) 2)) (w_ei ws (w_ar ws (n_v vs 0) 3)) (w_ei w1 (w_ar ws (n_v vs 0) 3)) (w_ei w2 (w_ar ws (n_v vs 0) 3)) (w_ei w3 (w_ar ws (n_v vs 0) 3)) (w_ei w4 (w_ar ws (n_v vs 0) 3)) (w_ei ws (w_ar ws (n_v vs 0) 4)) (w_ei w1 (w_ar ws (n_v vs 0) 4)) (w_ei w2 (w_ar ws (n_v vs 0) 4)) (w_ei w3 (w_ar ws (n_v vs 0) 4)) (w_ei w4 (w_ar ws (n_v vs 0) 4)) (w_ei ws (w_ar ws (n_v vs 0) 5)) (w_ei w1 (w_ar ws (n_v vs 0) 5)) (w_ei w2 (w_ar ws (n_v vs 0) 5)) (w_ei w3 (w_ar ws (n_v vs 0) 5)) (w_ei w4 (w_ar ws (n_v vs 0) 5)) k1 k2 k3 k4 k7 k8 k9 k14 k15 d0 g0 (shm_469 f5) (shm_470 f6) (shm_12 f8) g9 f10 (shm_470 f11) f13 (shm_470 f14) f16 (shm_470 f17) f19 (shm_470 f20) (shm_6 f22) f23 f24 (shm_470 f25) fe_0_1_1 fe_0_1_2 fe_0_1_3 fe_0_1_4 fe_0_1_5 hE_0_2_1 hE_0_2_2 hE_0_2_3 hE_0_2_4 hE_0_2_5 hK_0_2 hE_0_3_1 hE_0_3_2 hE_0_3_3 hE_0_3_4 hE_0_3_5 hK_0_3 hE_0_4_1 hE_0_4_2 hE_0_4_3 hE_0_4_4 hE_0_4_5 hK_0_4 hE_0_5_1 hE_0_5_2 hE_0_5_3 hE_0_5_4 hE_0_5_5 hK_0_5 hE_5_7_1 hE_5_7_2 hE_5_7_3 hE_5_7_4 hE_5_7_5 hK_5_7 hE_5_8_1 hE_5_8_2 hE_5_8_3 hE_5_8_4 hE_5_8_5 hK_5_8 hE_5_9_1 hE_5_9_2 hE_5_9_3 hE_5_9_4 hE_5_9_5 hK_5_9 hE_6_9_1 hE_6_9_2 hE_6_9_3 hE_6_9_4 hE_6_9_5 hK_6_9 kz_0_1)⟩
  refine ⟨(fun _ h => (by cases h)), [], trivial, ?_, (fun _ h => (by cases h))⟩
  rw [List.append_nil]
  exact List.forall_mem_cons.mpr ⟨⟨show (20 : Nat) < 100 from by decide, nf0⟩, (fun _ h => (by cases h))⟩
def n_St_addArc_at_gl_an : List an_T := []
def t_St_addArc_at_gl_ct : ct_L := []
set_option maxRecDepth 100000 in
theorem c_St_addArc_at_gl {l : Launch} {D : va_G} {kA : Nat → ClassId} : ct_ok PRD l D kA GG y_St_addArc_at_gl z_St_addArc_at_gl e_St_addArc_at_gl := chk_all_ok (FT := [(15, 10, 1), (18, 10, 2), (22, 10, 3), (25, 10, 4), (28, 10, 5)]) (PT := [(15, 10, 1, .int)]) (CT := t_St_addArc_at_gl_ct) (KT := []) (NT := []) (AN := n_St_addArc_at_gl_an) (OT := [o_St_addArc_at_gl_0, o_St_addArc_at_gl_1]) 0 200 (List.forall_mem_cons.mpr ⟨oo_St_addArc_at_gl_0, List.forall_mem_cons.mpr ⟨oo_St_addArc_at_gl_1, List.forall_mem_nil _⟩⟩) (by decide +kernel) ⟨List.forall_mem_cons.mpr ⟨gf_St_15, List.forall_mem_cons.mpr ⟨gf_St_18, List.forall_mem_cons.mpr ⟨gf_St_22, List.forall_mem_cons.mpr ⟨gf_St_25, List.forall_mem_cons.mpr ⟨gf_St_28, List.forall_mem_nil _⟩⟩⟩⟩⟩, List.forall_mem_cons.mpr ⟨pf_St_15, List.forall_mem_nil _⟩, List.forall_mem_nil _, List.forall_mem_nil _, List.forall_mem_nil _, GG_pl⟩ (by decide +kernel)
set_option maxHeartbeats 4000000 in
theorem vc_St_begin_0_0 (x1 : Int) (x2 : Int) (arcs_0 : Int) (nodes_0 : Int) (nodes_1 : Int) (arcs_1 : Int) (arcs_2 : Int) (k1 : 0 ≤ x1 ∧ x1 ≤ 72) (k2 : 0 ≤ x2 ∧ x2 ≤ 0) (g0 : x2 = arcs_0) (g1 : x1 = nodes_0) (fe_0_0_1 : nodes_0 = nodes_1) (fe_0_1_1 : arcs_0 = x2) (fe_0_0_2 : nodes_1 = x1) (fe_0_1_2 : arcs_1 = arcs_2) (kz_0_0 : 0 ≤ nodes_0 ∧ nodes_0 ≤ 72) (kz_0_1 : 0 ≤ arcs_0 ∧ arcs_0 ≤ 384) : (arcs_0 = 0) ∧ (nodes_0 = x1) := by
  subst fe_0_0_1
  subst fe_0_1_2
  first
    | omega
  
def o_St_begin_0 : or_T := (10, 3, [(0, (2, 0, 0, [10])), (1, (0, 0, 72, [])), (2, (0, 0, 0, []))], [(9, [2, 0], [1]), (9, [1, 0], [0]), (101, [0, 2], [1]), (101, [0, 1], [0])], [], [], [(20, [0, 1], [50, 2, 0, 1, 0, 2, 7, 1, 3, 2, 0, 1, 0, 0, 1, 3, 2, 0, 0, 1, 1])], [], [])
theorem oo_St_begin_0 {kA : Nat → ClassId} : or_ok PRD kA GG o_St_begin_0 := by
  refine or_mk fun A ta ws vs hD hth hl => ?_
  intro t0 r0 t1 k1 t2 k2 f0 f1 ta1 w1 le1 s1 ta2 w2 le2 s2
  replace f0 := shm_127 f0
  replace f1 := shm_175 f1
  have s1 : (∀ b j, w_el ws b j = w_el w1 b j) ∧ ∀ b j, w_fd ws b j = if b = v_ad (n_v vs 0) ∧ j = 1 then n_v vs 2 else w_fd w1 b j := s1.2
  have s2 : (∀ b j, w_el w1 b j = w_el w2 b j) ∧ ∀ b j, w_fd w1 b j = if b = v_ad (n_v vs 0) ∧ j = 0 then n_v vs 1 else w_fd w2 b j := s2.2
  have g0 : v_iv (n_v vs 2) = w_fi ws (n_v vs 0) 1 := congrArg v_iv f0
  have g1 : v_iv (n_v vs 1) = w_fi ws (n_v vs 0) 0 := congrArg v_iv f1
  have fe_0_0_1 : w_fi ws (n_v vs 0) 0 = w_fi w1 (n_v vs 0) 0 := by show v_iv (w_fd _ _ _) = v_iv (w_fd _ _ _); rw [s1.2, if_neg (fun e => absurd e.2 (by decide))]
  have fe_0_1_1 : w_fi ws (n_v vs 0) 1 = v_iv (n_v vs 2) := by show v_iv (w_fd _ _ _) = _; rw [s1.2, if_pos ⟨rfl, rfl⟩]
  have fe_0_0_2 : w_fi w1 (n_v vs 0) 0 = v_iv (n_v vs 1) := by show v_iv (w_fd _ _ _) = _; rw [s2.2, if_pos ⟨rfl, rfl⟩]
  have fe_0_1_2 : w_fi w1 (n_v vs 0) 1 = w_fi w2 (n_v vs 0) 1 := by show v_iv (w_fd _ _ _) = v_iv (w_fd _ _ _); rw [s2.2, if_neg (fun e => absurd e.2 (by decide))]
  have kz_0_0 := fdq_113 hD hth r0
  have kz_0_1 := fdq_112 hD hth r0
  have nf0 : fc_1 PRD (20, [0, 1], [50, 2, 0, 1, 0, 2, 7, 1, 3, 2, 0, 1, 0, 0, 1, 3, 2, 0, 0, 1, 1]) ws (vs) := ⟨nf_in hl rfl, sgq_472 (vc_St_begin_0_0 (v_iv (n_v vs 1)) (v_iv (n_v vs 2)) (w_fi ws (n_v vs 0) 1) (w_fi ws (n_v vs 0) 0) (w_fi w1 (n_v vs 0) 0) (w_fi w1 (n_v vs 0) 1) (w_fi w2 (n_v vs 0) 1) k1 k2 g0 g1 fe_0_0_1 fe_0_1_1 fe_0_0_2 fe_0_1_2 kz_0_0 kz_0_1)⟩
  refine ⟨(fun _ h => (by cases h)), [], trivial, ?_, (fun _ h => (by cases h))⟩
  rw [List.append_nil]
  exact List.forall_mem_cons.mpr ⟨⟨show (20 : Nat) < 100 from by decide, nf0⟩, (fun _ h => (by cases h))⟩
def n_St_begin_an : List an_T := []
def t_St_begin_ct : ct_L := []
set_option maxRecDepth 100000 in
theorem c_St_begin {l : Launch} {D : va_G} {kA : Nat → ClassId} : ct_ok PRD l D kA GG y_St_begin z_St_begin e_St_begin := chk_all_ok (FT := []) (PT := [(9, 10, 0, .int), (15, 10, 1, .int)]) (CT := t_St_begin_ct) (KT := []) (NT := []) (AN := n_St_begin_an) (OT := [o_St_begin_0]) 0 200 (List.forall_mem_cons.mpr ⟨oo_St_begin_0, List.forall_mem_nil _⟩) (by decide +kernel) ⟨List.forall_mem_nil _, List.forall_mem_cons.mpr ⟨pf_St_9, List.forall_mem_cons.mpr ⟨pf_St_15, List.forall_mem_nil _⟩⟩, List.forall_mem_nil _, List.forall_mem_nil _, List.forall_mem_nil _, GG_pl⟩ (by decide +kernel)
set_option maxHeartbeats 4000000 in
theorem vc_St_raise_at_gl_0_0 (x1 : Int) (x2 : Int) (x3 : Int) (x4 : Int) (from_0 : Int → Int) (to_0 : Int → Int) (room_0 : Int → Int) (gain_0 : Int → Int) (place_0 : Int → Int) (by_0 : Int → Int) (nodes_0 : Int) (arcs_0 : Int) (k1 : 0 ≤ x1 ∧ x1 ≤ 288) (k2 : 0 ≤ x2 ∧ x2 ≤ 9999) (k3 : 0 ≤ x3 ∧ x3 ≤ 0) (k4 : 0 ≤ x4 ∧ x4 ≤ 0) (f0 : FRI (nodes_0) (arcs_0) (from_0) (to_0) (room_0) (gain_0) (place_0) (by_0) (x1)) (f1 : PBT (nodes_0) (place_0) (x2) (x1)) (hK_0_2 : ∀ j : Int, 0 ≤ j → j < 384 → 0 ≤ from_0 j ∧ from_0 j ≤ 71) (hK_0_3 : ∀ j : Int, 0 ≤ j → j < 384 → 0 ≤ to_0 j ∧ to_0 j ≤ 71) (hK_0_4 : ∀ j : Int, 0 ≤ j → j < 384 → (-2147483648) ≤ room_0 j ∧ room_0 j ≤ 2147483647) (hK_0_5 : ∀ j : Int, 0 ≤ j → j < 384 → (-20) ≤ gain_0 j ∧ gain_0 j ≤ 20) (hK_0_6 : ∀ j : Int, 0 ≤ j → j < 72 → (-2147483648) ≤ place_0 j ∧ place_0 j ≤ 2147483647) (hK_0_7 : ∀ j : Int, 0 ≤ j → j < 72 → (-1) ≤ by_0 j ∧ by_0 j ≤ 383) (kz_0_0 : 0 ≤ nodes_0 ∧ nodes_0 ≤ 72) (kz_0_1 : 0 ≤ arcs_0 ∧ arcs_0 ≤ 384) : RAI (nodes_0) (arcs_0) (from_0) (to_0) (room_0) (gain_0) (place_0) (by_0) (x1) (x4) (x3) := by
  first
    | exact rai_start ‹FRI _ _ _ _ _ _ _ _ _› (by omega) (by omega)
    | (skip; exact rai_skip ‹RAI _ _ _ _ _ _ _ _ _ _ _› (by first | (left; omega) | (right; omega)) (by omega))
    | (skip; exact rai_set ‹RAI _ _ _ _ _ _ _ _ _ _ _› (by assumption) rfl (by omega) (by assumption) rfl rfl (by omega) (by omega) (by omega) (by omega) (by omega))
  
set_option maxHeartbeats 4000000 in
theorem vc_St_raise_at_gl_0_1 (x1 : Int) (x2 : Int) (x3 : Int) (x4 : Int) (from_0 : Int → Int) (to_0 : Int → Int) (room_0 : Int → Int) (gain_0 : Int → Int) (place_0 : Int → Int) (by_0 : Int → Int) (nodes_0 : Int) (arcs_0 : Int) (k1 : 0 ≤ x1 ∧ x1 ≤ 288) (k2 : 0 ≤ x2 ∧ x2 ≤ 9999) (k3 : 0 ≤ x3 ∧ x3 ≤ 0) (k4 : 0 ≤ x4 ∧ x4 ≤ 0) (f0 : FRI (nodes_0) (arcs_0) (from_0) (to_0) (room_0) (gain_0) (place_0) (by_0) (x1)) (f1 : PBT (nodes_0) (place_0) (x2) (x1)) (hK_0_2 : ∀ j : Int, 0 ≤ j → j < 384 → 0 ≤ from_0 j ∧ from_0 j ≤ 71) (hK_0_3 : ∀ j : Int, 0 ≤ j → j < 384 → 0 ≤ to_0 j ∧ to_0 j ≤ 71) (hK_0_4 : ∀ j : Int, 0 ≤ j → j < 384 → (-2147483648) ≤ room_0 j ∧ room_0 j ≤ 2147483647) (hK_0_5 : ∀ j : Int, 0 ≤ j → j < 384 → (-20) ≤ gain_0 j ∧ gain_0 j ≤ 20) (hK_0_6 : ∀ j : Int, 0 ≤ j → j < 72 → (-2147483648) ≤ place_0 j ∧ place_0 j ≤ 2147483647) (hK_0_7 : ∀ j : Int, 0 ≤ j → j < 72 → (-1) ≤ by_0 j ∧ by_0 j ≤ 383) (kz_0_0 : 0 ≤ nodes_0 ∧ nodes_0 ≤ 72) (kz_0_1 : 0 ≤ arcs_0 ∧ arcs_0 ≤ 384) : PBW (nodes_0) (place_0) (x2) (x1) (x4) := by
  first
    | exact pbw_up ‹PBT _ _ _ _› (by omega)
    | exact pbw_up ‹PBW _ _ _ _ _› (by omega)
    | (skip; exact pbw_set ‹PBW _ _ _ _ _› (‹RAI _ _ _ _ _ _ _ _ _ _ _›).1 (by assumption) rfl (by omega) (by have := (‹RAI _ _ _ _ _ _ _ _ _ _ _›).2.2.1; omega) (by omega) (by omega) (by omega))
  
set_option maxHeartbeats 4000000 in
theorem vc_St_raise_at_gl_0_2 (x1 : Int) (x2 : Int) (x3 : Int) (x4 : Int) (from_0 : Int → Int) (to_0 : Int → Int) (room_0 : Int → Int) (gain_0 : Int → Int) (place_0 : Int → Int) (by_0 : Int → Int) (nodes_0 : Int) (arcs_0 : Int) (k1 : 0 ≤ x1 ∧ x1 ≤ 288) (k2 : 0 ≤ x2 ∧ x2 ≤ 9999) (k3 : 0 ≤ x3 ∧ x3 ≤ 0) (k4 : 0 ≤ x4 ∧ x4 ≤ 0) (f0 : FRI (nodes_0) (arcs_0) (from_0) (to_0) (room_0) (gain_0) (place_0) (by_0) (x1)) (f1 : PBT (nodes_0) (place_0) (x2) (x1)) (hK_0_2 : ∀ j : Int, 0 ≤ j → j < 384 → 0 ≤ from_0 j ∧ from_0 j ≤ 71) (hK_0_3 : ∀ j : Int, 0 ≤ j → j < 384 → 0 ≤ to_0 j ∧ to_0 j ≤ 71) (hK_0_4 : ∀ j : Int, 0 ≤ j → j < 384 → (-2147483648) ≤ room_0 j ∧ room_0 j ≤ 2147483647) (hK_0_5 : ∀ j : Int, 0 ≤ j → j < 384 → (-20) ≤ gain_0 j ∧ gain_0 j ≤ 20) (hK_0_6 : ∀ j : Int, 0 ≤ j → j < 72 → (-2147483648) ≤ place_0 j ∧ place_0 j ≤ 2147483647) (hK_0_7 : ∀ j : Int, 0 ≤ j → j < 72 → (-1) ≤ by_0 j ∧ by_0 j ≤ 383) (kz_0_0 : 0 ≤ nodes_0 ∧ nodes_0 ≤ 72) (kz_0_1 : 0 ≤ arcs_0 ∧ arcs_0 ≤ 384) : x4 ≤ arcs_0 := by
  first
    | (have a := (‹FRI _ _ _ _ _ _ _ _ _›).1.2.2.1; omega)
    | omega
def o_St_raise_at_gl_0 : or_T := (4, 5, [(0, (2, 0, 0, [10])), (1, (0, 0, 288, [])), (2, (0, 0, 9999, [])), (3, (0, 0, 0, [])), (4, (0, 0, 0, []))], [(20, [0, 1], [60, 2, 6, 516, 0, 1, 2, 3, 4, 5, 6, 7]), (20, [0, 2, 1], [60, 1, 1, 520, 0, 6])], [], [], [(20, [0, 1, 4, 3], [60, 2, 6, 517, 0, 1, 2, 3, 4, 5, 6, 7]), (20, [0, 2, 1, 4], [60, 1, 1, 519, 0, 6]), (20, [4, 0], [50, 1, 0, 1001, 0, 2, 1, 0, 2, 1, 1]), (24, [0, 0], [])], [], [])
theorem oo_St_raise_at_gl_0 {kA : Nat → ClassId} : or_ok PRD kA GG o_St_raise_at_gl_0 := by
  refine or_mk fun A ta ws vs hD hth hl => ?_
  intro t0 r0 t1 k1 t2 k2 t3 k3 t4 k4 f0 f1
  have cr_0_2 := fdq_107 hD hth r0
  have cr_0_3 := fdq_108 hD hth r0
  have cr_0_4 := fdq_109 hD hth r0
  have cr_0_5 := fdq_110 hD hth r0
  have cr_0_6 := fdq_114 hD hth r0
  have cr_0_7 := fdq_115 hD hth r0
  have hK_0_2 := elq_50 hD hth cr_0_2
  have hK_0_3 := elq_51 hD hth cr_0_3
  have hK_0_4 := elq_52 hD hth cr_0_4
  have hK_0_5 := elq_53 hD hth cr_0_5
  have hK_0_6 := elq_55 hD hth cr_0_6
  have hK_0_7 := elq_56 hD hth cr_0_7
  have kz_0_0 := fdq_113 hD hth r0
  have kz_0_1 := fdq_112 hD hth r0
  have nf0 : fc_1 PRD (20, [0, 1, 4, 3], [60, 2, 6, 517, 0, 1, 2, 3, 4, 5, 6, 7]) ws (vs) := ⟨nf_in hl rfl, sgq_475 (vc_St_raise_at_gl_0_0 (v_iv (n_v vs 1)) (v_iv (n_v vs 2)) (v_iv (n_v vs 3)) (v_iv (n_v vs 4)) (w_ei ws (w_ar ws (n_v vs 0) 2)) (w_ei ws (w_ar ws (n_v vs 0) 3)) (w_ei ws (w_ar ws (n_v vs 0) 4)) (w_ei ws (w_ar ws (n_v vs 0) 5)) (w_ei ws (w_ar ws (n_v vs 0) 6)) (w_ei ws (w_ar ws (n_v vs 0) 7)) (w_fi ws (n_v vs 0) 0) (w_fi ws (n_v vs 0) 1) k1 k2 k3 k4 (shm_473 f0) (shm_474 f1) hK_0_2 hK_0_3 hK_0_4 hK_0_5 hK_0_6 hK_0_7 kz_0_0 kz_0_1)⟩
  have nf1 : fc_1 PRD (20, [0, 2, 1, 4], [60, 1, 1, 519, 0, 6]) ws (vs) := ⟨nf_in hl rfl, sgq_476 (vc_St_raise_at_gl_0_1 (v_iv (n_v vs 1)) (v_iv (n_v vs 2)) (v_iv (n_v vs 3)) (v_iv (n_v vs 4)) (w_ei ws (w_ar ws (n_v vs 0) 2)) (w_ei ws (w_ar ws (n_v vs 0) 3)) (w_ei ws (w_ar ws (n_v vs 0) 4)) (w_ei ws (w_ar ws (n_v vs 0) 5)) (w_ei ws (w_ar ws (n_v vs 0) 6)) (w_ei ws (w_ar ws (n_v vs 0) 7)) (w_fi ws (n_v vs 0) 0) (w_fi ws (n_v vs 0) 1) k1 k2 k3 k4 (shm_473 f0) (shm_474 f1) hK_0_2 hK_0_3 hK_0_4 hK_0_5 hK_0_6 hK_0_7 kz_0_0 kz_0_1)⟩
  have nf2 : fc_1 PRD (20, [4, 0], [50, 1, 0, 1001, 0, 2, 1, 0, 2, 1, 1]) ws (vs) := ⟨nf_in hl rfl, sgq_477 (vc_St_raise_at_gl_0_2 (v_iv (n_v vs 1)) (v_iv (n_v vs 2)) (v_iv (n_v vs 3)) (v_iv (n_v vs 4)) (w_ei ws (w_ar ws (n_v vs 0) 2)) (w_ei ws (w_ar ws (n_v vs 0) 3)) (w_ei ws (w_ar ws (n_v vs 0) 4)) (w_ei ws (w_ar ws (n_v vs 0) 5)) (w_ei ws (w_ar ws (n_v vs 0) 6)) (w_ei ws (w_ar ws (n_v vs 0) 7)) (w_fi ws (n_v vs 0) 0) (w_fi ws (n_v vs 0) 1) k1 k2 k3 k4 (shm_473 f0) (shm_474 f1) hK_0_2 hK_0_3 hK_0_4 hK_0_5 hK_0_6 hK_0_7 kz_0_0 kz_0_1)⟩
  have nf3 : fc_1 PRD (24, [0, 0], []) ws (vs) := by
    refine ⟨nf_in hl rfl, sgq_1 ?_⟩
    · show n_v vs 0 = n_v vs 0
      first | rfl | simp only [true_and]
  refine ⟨(fun _ h => (by cases h)), [], trivial, ?_, (fun _ h => (by cases h))⟩
  rw [List.append_nil]
  exact List.forall_mem_cons.mpr ⟨⟨show (20 : Nat) < 100 from by decide, nf0⟩, List.forall_mem_cons.mpr ⟨⟨show (20 : Nat) < 100 from by decide, nf1⟩, List.forall_mem_cons.mpr ⟨⟨show (20 : Nat) < 100 from by decide, nf2⟩, List.forall_mem_cons.mpr ⟨⟨show (24 : Nat) < 100 from by decide, nf3⟩, (fun _ h => (by cases h))⟩⟩⟩⟩
set_option maxHeartbeats 4000000 in
theorem vc_St_raise_at_gl_1_0 (x1 : Int) (x2 : Int) (x4 : Int) (x5 : Int) (x6 : Int) (arcs_0 : Int) (from_0 : Int → Int) (to_0 : Int → Int) (room_0 : Int → Int) (gain_0 : Int → Int) (place_0 : Int → Int) (by_0 : Int → Int) (nodes_0 : Int) (k1 : 0 ≤ x1 ∧ x1 ≤ 288) (k2 : 0 ≤ x2 ∧ x2 ≤ 9999) (k4 : 0 ≤ x4 ∧ x4 ≤ 1) (k5 : 0 ≤ x5 ∧ x5 ≤ 384) (k6 : 0 ≤ x6 ∧ x6 ≤ 384) (d0 : x6 + 0 ≤ x5 ∧ x5 ≤ x6 + 4294967296) (d1 : x5 + (-4294967296) ≤ x4 ∧ x4 ≤ x5 + 0) (f0 : x6 ≤ x5) (g1 : x6 = arcs_0) (f2 : RAI (nodes_0) (arcs_0) (from_0) (to_0) (room_0) (gain_0) (place_0) (by_0) (x1) (x5) (x4)) (f3 : PBW (nodes_0) (place_0) (x2) (x1) (x5)) (f4 : x5 ≤ arcs_0) (hK_0_2 : ∀ j : Int, 0 ≤ j → j < 384 → 0 ≤ from_0 j ∧ from_0 j ≤ 71) (hK_0_3 : ∀ j : Int, 0 ≤ j → j < 384 → 0 ≤ to_0 j ∧ to_0 j ≤ 71) (hK_0_4 : ∀ j : Int, 0 ≤ j → j < 384 → (-2147483648) ≤ room_0 j ∧ room_0 j ≤ 2147483647) (hK_0_5 : ∀ j : Int, 0 ≤ j → j < 384 → (-20) ≤ gain_0 j ∧ gain_0 j ≤ 20) (hK_0_6 : ∀ j : Int, 0 ≤ j → j < 72 → (-2147483648) ≤ place_0 j ∧ place_0 j ≤ 2147483647) (hK_0_7 : ∀ j : Int, 0 ≤ j → j < 72 → (-1) ≤ by_0 j ∧ by_0 j ≤ 383) (kz_0_0 : 0 ≤ nodes_0 ∧ nodes_0 ≤ 72) (kz_0_1 : 0 ≤ arcs_0 ∧ arcs_0 ≤ 384) : RAP (nodes_0) (arcs_0) (from_0) (to_0) (room_0) (gain_0) (place_0) (by_0) (x1) (x4) := by
  exact rai_end ‹RAI _ _ _ _ _ _ _ _ _ _ _› (by omega) (by omega) (by omega)
set_option maxHeartbeats 4000000 in
theorem vc_St_raise_at_gl_1_1 (x1 : Int) (x2 : Int) (x4 : Int) (x5 : Int) (x6 : Int) (arcs_0 : Int) (from_0 : Int → Int) (to_0 : Int → Int) (room_0 : Int → Int) (gain_0 : Int → Int) (place_0 : Int → Int) (by_0 : Int → Int) (nodes_0 : Int) (k1 : 0 ≤ x1 ∧ x1 ≤ 288) (k2 : 0 ≤ x2 ∧ x2 ≤ 9999) (k4 : 0 ≤ x4 ∧ x4 ≤ 1) (k5 : 0 ≤ x5 ∧ x5 ≤ 384) (k6 : 0 ≤ x6 ∧ x6 ≤ 384) (d0 : x6 + 0 ≤ x5 ∧ x5 ≤ x6 + 4294967296) (d1 : x5 + (-4294967296) ≤ x4 ∧ x4 ≤ x5 + 0) (f0 : x6 ≤ x5) (g1 : x6 = arcs_0) (f2 : RAI (nodes_0) (arcs_0) (from_0) (to_0) (room_0) (gain_0) (place_0) (by_0) (x1) (x5) (x4)) (f3 : PBW (nodes_0) (place_0) (x2) (x1) (x5)) (f4 : x5 ≤ arcs_0) (hK_0_2 : ∀ j : Int, 0 ≤ j → j < 384 → 0 ≤ from_0 j ∧ from_0 j ≤ 71) (hK_0_3 : ∀ j : Int, 0 ≤ j → j < 384 → 0 ≤ to_0 j ∧ to_0 j ≤ 71) (hK_0_4 : ∀ j : Int, 0 ≤ j → j < 384 → (-2147483648) ≤ room_0 j ∧ room_0 j ≤ 2147483647) (hK_0_5 : ∀ j : Int, 0 ≤ j → j < 384 → (-20) ≤ gain_0 j ∧ gain_0 j ≤ 20) (hK_0_6 : ∀ j : Int, 0 ≤ j → j < 72 → (-2147483648) ≤ place_0 j ∧ place_0 j ≤ 2147483647) (hK_0_7 : ∀ j : Int, 0 ≤ j → j < 72 → (-1) ≤ by_0 j ∧ by_0 j ≤ 383) (kz_0_0 : 0 ≤ nodes_0 ∧ nodes_0 ≤ 72) (kz_0_1 : 0 ≤ arcs_0 ∧ arcs_0 ≤ 384) : PBU (nodes_0) (place_0) (x2) (x1) := by
  exact pbw_round ‹PBW _ _ _ _ _› (by have := (‹RAI _ _ _ _ _ _ _ _ _ _ _›).1.2.2.2.1; omega) (by omega) (by omega)
def o_St_raise_at_gl_1 : or_T := (103, 7, [(0, (2, 0, 0, [10])), (1, (0, 0, 288, [])), (2, (0, 0, 9999, [])), (4, (0, 0, 1, [])), (5, (0, 0, 384, [])), (6, (0, 0, 384, []))], [(7, [5, 6], [3]), (9, [6, 3], [1]), (20, [3, 1, 5, 4], [60, 2, 6, 517, 0, 1, 2, 3, 4, 5, 6, 7]), (20, [3, 2, 1, 5], [60, 1, 1, 519, 0, 6]), (20, [5, 3], [50, 1, 0, 1001, 0, 2, 1, 0, 2, 1, 1]), (24, [0, 3], [])], [], [], [(20, [0, 1, 4], [60, 2, 6, 518, 0, 1, 2, 3, 4, 5, 6, 7]), (20, [0, 2, 1], [60, 1, 1, 521, 0, 6])], [], [(5, 6, 0, 4294967296), (4, 5, -4294967296, 0)])
theorem oo_St_raise_at_gl_1 {kA : Nat → ClassId} : or_ok PRD kA GG o_St_raise_at_gl_1 := by
  refine or_mk fun A ta ws vs hD hth hl => ?_
  intro t0 r0 t1 k1 t2 k2 t4 k4 t5 k5 t6 k6 d0 d1 f0 f1 f2 f3 f4 f5
  replace f1 := shm_127 f1
  replace f2 := shm_475 f2
  replace f3 := shm_476 f3
  replace f4 := shm_477 f4
  replace f5 := shm_5 f5
  have q3 : n_v vs 3 = n_v vs 0 := f5.symm
  simp only [q3] at f1 f2 f3 f4
  have cr_0_2 := fdq_107 hD hth r0
  have cr_0_3 := fdq_108 hD hth r0
  have cr_0_4 := fdq_109 hD hth r0
  have cr_0_5 := fdq_110 hD hth r0
  have cr_0_6 := fdq_114 hD hth r0
  have cr_0_7 := fdq_115 hD hth r0
  have g1 : v_iv (n_v vs 6) = w_fi ws (n_v vs 0) 1 := congrArg v_iv f1
  have hK_0_2 := elq_50 hD hth cr_0_2
  have hK_0_3 := elq_51 hD hth cr_0_3
  have hK_0_4 := elq_52 hD hth cr_0_4
  have hK_0_5 := elq_53 hD hth cr_0_5
  have hK_0_6 := elq_55 hD hth cr_0_6
  have hK_0_7 := elq_56 hD hth cr_0_7
  have kz_0_0 := fdq_113 hD hth r0
  have kz_0_1 := fdq_112 hD hth r0
  have nf0 : fc_1 PRD (20, [0, 1, 4], [60, 2, 6, 518, 0, 1, 2, 3, 4, 5, 6, 7]) ws (vs) := ⟨nf_in hl rfl, sgq_478 (vc_St_raise_at_gl_1_0 (v_iv (n_v vs 1)) (v_iv (n_v vs 2)) (v_iv (n_v vs 4)) (v_iv (n_v vs 5)) (v_iv (n_v vs 6)) (w_fi ws (n_v vs 0) 1) (w_ei ws (w_ar ws (n_v vs 0) 2)) (w_ei ws (w_ar ws (n_v vs 0) 3)) (w_ei ws (w_ar ws (n_v vs 0) 4)) (w_ei ws (w_ar ws (n_v vs 0) 5)) (w_ei ws (w_ar ws (n_v vs 0) 6)) (w_ei ws (w_ar ws (n_v vs 0) 7)) (w_fi ws (n_v vs 0) 0) k1 k2 k4 k5 k6 d0 d1 (shm_2 f0) g1 f2 f3 f4 hK_0_2 hK_0_3 hK_0_4 hK_0_5 hK_0_6 hK_0_7 kz_0_0 kz_0_1)⟩
  have nf1 : fc_1 PRD (20, [0, 2, 1], [60, 1, 1, 521, 0, 6]) ws (vs) := ⟨nf_in hl rfl, sgq_479 (vc_St_raise_at_gl_1_1 (v_iv (n_v vs 1)) (v_iv (n_v vs 2)) (v_iv (n_v vs 4)) (v_iv (n_v vs 5)) (v_iv (n_v vs 6)) (w_fi ws (n_v vs 0) 1) (w_ei ws (w_ar ws (n_v vs 0) 2)) (w_ei ws (w_ar ws (n_v vs 0) 3)) (w_ei ws (w_ar ws (n_v vs 0) 4)) (w_ei ws (w_ar ws (n_v vs 0) 5)) (w_ei ws (w_ar ws (n_v vs 0) 6)) (w_ei ws (w_ar ws (n_v vs 0) 7)) (w_fi ws (n_v vs 0) 0) k1 k2 k4 k5 k6 d0 d1 (shm_2 f0) g1 f2 f3 f4 hK_0_2 hK_0_3 hK_0_4 hK_0_5 hK_0_6 hK_0_7 kz_0_0 kz_0_1)⟩
  refine ⟨(fun _ h => (by cases h)), [], trivial, ?_, (fun _ h => (by cases h))⟩
  rw [List.append_nil]
  exact List.forall_mem_cons.mpr ⟨⟨show (20 : Nat) < 100 from by decide, nf0⟩, List.forall_mem_cons.mpr ⟨⟨show (20 : Nat) < 100 from by decide, nf1⟩, (fun _ h => (by cases h))⟩⟩
set_option maxHeartbeats 4000000 in
theorem vc_St_raise_at_gl_2_0 (x1 : Int) (x2 : Int) (x4 : Int) (x5 : Int) (x6 : Int) (x8 : Int) (x9 : Int) (room_0 : Int → Int) (arcs_0 : Int) (from_0 : Int → Int) (to_0 : Int → Int) (gain_0 : Int → Int) (place_0 : Int → Int) (by_0 : Int → Int) (nodes_0 : Int) (k1 : 0 ≤ x1 ∧ x1 ≤ 288) (k2 : 0 ≤ x2 ∧ x2 ≤ 9999) (k4 : 0 ≤ x4 ∧ x4 ≤ 1) (k5 : 0 ≤ x5 ∧ x5 ≤ 383) (k6 : 1 ≤ x6 ∧ x6 ≤ 384) (k8 : (-2147483648) ≤ x8 ∧ x8 ≤ 0) (k9 : 1 ≤ x9 ∧ x9 ≤ 384) (d0 : x5 + 1 ≤ x9 ∧ x9 ≤ x5 + 1) (d1 : x6 + (-4294967296) ≤ x9 ∧ x9 ≤ x6 + 0) (d2 : x6 + (-4294967296) ≤ x5 ∧ x5 ≤ x6 + (-1)) (d3 : x5 + (-4294967296) ≤ x4 ∧ x4 ≤ x5 + 0) (f0 : x9 = x5 + 1) (f1 : x8 ≤ 0) (h2 : x8 = room_0 (x5)) (f4 : x5 < x6) (g5 : x6 = arcs_0) (f6 : RAI (nodes_0) (arcs_0) (from_0) (to_0) (room_0) (gain_0) (place_0) (by_0) (x1) (x5) (x4)) (f7 : PBW (nodes_0) (place_0) (x2) (x1) (x5)) (f8 : x5 ≤ arcs_0) (hK_0_2 : ∀ j : Int, 0 ≤ j → j < 384 → 0 ≤ from_0 j ∧ from_0 j ≤ 71) (hK_0_3 : ∀ j : Int, 0 ≤ j → j < 384 → 0 ≤ to_0 j ∧ to_0 j ≤ 71) (hK_0_4 : ∀ j : Int, 0 ≤ j → j < 384 → (-2147483648) ≤ room_0 j ∧ room_0 j ≤ 2147483647) (hK_0_5 : ∀ j : Int, 0 ≤ j → j < 384 → (-20) ≤ gain_0 j ∧ gain_0 j ≤ 20) (hK_0_6 : ∀ j : Int, 0 ≤ j → j < 72 → (-2147483648) ≤ place_0 j ∧ place_0 j ≤ 2147483647) (hK_0_7 : ∀ j : Int, 0 ≤ j → j < 72 → (-1) ≤ by_0 j ∧ by_0 j ≤ 383) (kz_0_0 : 0 ≤ nodes_0 ∧ nodes_0 ≤ 72) (kz_0_1 : 0 ≤ arcs_0 ∧ arcs_0 ≤ 384) : RAI (nodes_0) (arcs_0) (from_0) (to_0) (room_0) (gain_0) (place_0) (by_0) (x1) (x9) (x4) := by
  first
    | exact rai_start ‹FRI _ _ _ _ _ _ _ _ _› (by omega) (by omega)
    | (skip; (first | subst h2 | skip); exact rai_skip ‹RAI _ _ _ _ _ _ _ _ _ _ _› (by first | (left; omega) | (right; omega)) (by omega))
    | (skip; (first | subst h2 | skip); exact rai_set ‹RAI _ _ _ _ _ _ _ _ _ _ _› (by assumption) rfl (by omega) (by assumption) rfl rfl (by omega) (by omega) (by omega) (by omega) (by omega))
  
set_option maxHeartbeats 4000000 in
theorem vc_St_raise_at_gl_2_1 (x1 : Int) (x2 : Int) (x4 : Int) (x5 : Int) (x6 : Int) (x8 : Int) (x9 : Int) (room_0 : Int → Int) (arcs_0 : Int) (from_0 : Int → Int) (to_0 : Int → Int) (gain_0 : Int → Int) (place_0 : Int → Int) (by_0 : Int → Int) (nodes_0 : Int) (k1 : 0 ≤ x1 ∧ x1 ≤ 288) (k2 : 0 ≤ x2 ∧ x2 ≤ 9999) (k4 : 0 ≤ x4 ∧ x4 ≤ 1) (k5 : 0 ≤ x5 ∧ x5 ≤ 383) (k6 : 1 ≤ x6 ∧ x6 ≤ 384) (k8 : (-2147483648) ≤ x8 ∧ x8 ≤ 0) (k9 : 1 ≤ x9 ∧ x9 ≤ 384) (d0 : x5 + 1 ≤ x9 ∧ x9 ≤ x5 + 1) (d1 : x6 + (-4294967296) ≤ x9 ∧ x9 ≤ x6 + 0) (d2 : x6 + (-4294967296) ≤ x5 ∧ x5 ≤ x6 + (-1)) (d3 : x5 + (-4294967296) ≤ x4 ∧ x4 ≤ x5 + 0) (f0 : x9 = x5 + 1) (f1 : x8 ≤ 0) (h2 : x8 = room_0 (x5)) (f4 : x5 < x6) (g5 : x6 = arcs_0) (f6 : RAI (nodes_0) (arcs_0) (from_0) (to_0) (room_0) (gain_0) (place_0) (by_0) (x1) (x5) (x4)) (f7 : PBW (nodes_0) (place_0) (x2) (x1) (x5)) (f8 : x5 ≤ arcs_0) (hK_0_2 : ∀ j : Int, 0 ≤ j → j < 384 → 0 ≤ from_0 j ∧ from_0 j ≤ 71) (hK_0_3 : ∀ j : Int, 0 ≤ j → j < 384 → 0 ≤ to_0 j ∧ to_0 j ≤ 71) (hK_0_4 : ∀ j : Int, 0 ≤ j → j < 384 → (-2147483648) ≤ room_0 j ∧ room_0 j ≤ 2147483647) (hK_0_5 : ∀ j : Int, 0 ≤ j → j < 384 → (-20) ≤ gain_0 j ∧ gain_0 j ≤ 20) (hK_0_6 : ∀ j : Int, 0 ≤ j → j < 72 → (-2147483648) ≤ place_0 j ∧ place_0 j ≤ 2147483647) (hK_0_7 : ∀ j : Int, 0 ≤ j → j < 72 → (-1) ≤ by_0 j ∧ by_0 j ≤ 383) (kz_0_0 : 0 ≤ nodes_0 ∧ nodes_0 ≤ 72) (kz_0_1 : 0 ≤ arcs_0 ∧ arcs_0 ≤ 384) : PBW (nodes_0) (place_0) (x2) (x1) (x9) := by
  first
    | exact pbw_up ‹PBT _ _ _ _› (by omega)
    | exact pbw_up ‹PBW _ _ _ _ _› (by omega)
    | (skip; (first | subst h2 | skip); exact pbw_set ‹PBW _ _ _ _ _› (‹RAI _ _ _ _ _ _ _ _ _ _ _›).1 (by assumption) rfl (by omega) (by have := (‹RAI _ _ _ _ _ _ _ _ _ _ _›).2.2.1; omega) (by omega) (by omega) (by omega))
  
set_option maxHeartbeats 4000000 in
theorem vc_St_raise_at_gl_2_2 (x1 : Int) (x2 : Int) (x4 : Int) (x5 : Int) (x6 : Int) (x8 : Int) (x9 : Int) (room_0 : Int → Int) (arcs_0 : Int) (from_0 : Int → Int) (to_0 : Int → Int) (gain_0 : Int → Int) (place_0 : Int → Int) (by_0 : Int → Int) (nodes_0 : Int) (k1 : 0 ≤ x1 ∧ x1 ≤ 288) (k2 : 0 ≤ x2 ∧ x2 ≤ 9999) (k4 : 0 ≤ x4 ∧ x4 ≤ 1) (k5 : 0 ≤ x5 ∧ x5 ≤ 383) (k6 : 1 ≤ x6 ∧ x6 ≤ 384) (k8 : (-2147483648) ≤ x8 ∧ x8 ≤ 0) (k9 : 1 ≤ x9 ∧ x9 ≤ 384) (d0 : x5 + 1 ≤ x9 ∧ x9 ≤ x5 + 1) (d1 : x6 + (-4294967296) ≤ x9 ∧ x9 ≤ x6 + 0) (d2 : x6 + (-4294967296) ≤ x5 ∧ x5 ≤ x6 + (-1)) (d3 : x5 + (-4294967296) ≤ x4 ∧ x4 ≤ x5 + 0) (f0 : x9 = x5 + 1) (f1 : x8 ≤ 0) (h2 : x8 = room_0 (x5)) (f4 : x5 < x6) (g5 : x6 = arcs_0) (f6 : RAI (nodes_0) (arcs_0) (from_0) (to_0) (room_0) (gain_0) (place_0) (by_0) (x1) (x5) (x4)) (f7 : PBW (nodes_0) (place_0) (x2) (x1) (x5)) (f8 : x5 ≤ arcs_0) (hK_0_2 : ∀ j : Int, 0 ≤ j → j < 384 → 0 ≤ from_0 j ∧ from_0 j ≤ 71) (hK_0_3 : ∀ j : Int, 0 ≤ j → j < 384 → 0 ≤ to_0 j ∧ to_0 j ≤ 71) (hK_0_4 : ∀ j : Int, 0 ≤ j → j < 384 → (-2147483648) ≤ room_0 j ∧ room_0 j ≤ 2147483647) (hK_0_5 : ∀ j : Int, 0 ≤ j → j < 384 → (-20) ≤ gain_0 j ∧ gain_0 j ≤ 20) (hK_0_6 : ∀ j : Int, 0 ≤ j → j < 72 → (-2147483648) ≤ place_0 j ∧ place_0 j ≤ 2147483647) (hK_0_7 : ∀ j : Int, 0 ≤ j → j < 72 → (-1) ≤ by_0 j ∧ by_0 j ≤ 383) (kz_0_0 : 0 ≤ nodes_0 ∧ nodes_0 ≤ 72) (kz_0_1 : 0 ≤ arcs_0 ∧ arcs_0 ≤ 384) : x9 ≤ arcs_0 := by
  first
    | (have a := (‹FRI _ _ _ _ _ _ _ _ _›).1.2.2.1; omega)
    | omega
def o_St_raise_at_gl_2 : or_T := (4, 10, [(0, (2, 0, 0, [10])), (1, (0, 0, 288, [])), (2, (0, 0, 9999, [])), (4, (0, 0, 1, [])), (5, (0, 0, 383, [])), (6, (0, 1, 384, [])), (8, (0, -2147483648, 0, [])), (9, (0, 1, 384, []))], [(6, [9, 5], [1]), (8, [8], [5]), (10, [8, 7, 5], []), (9, [7, 3], [4]), (7, [5, 6], [2]), (9, [6, 3], [1]), (20, [3, 1, 5, 4], [60, 2, 6, 517, 0, 1, 2, 3, 4, 5, 6, 7]), (20, [3, 2, 1, 5], [60, 1, 1, 519, 0, 6]), (20, [5, 3], [50, 1, 0, 1001, 0, 2, 1, 0, 2, 1, 1]), (24, [0, 3], [])], [], [], [(20, [3, 1, 9, 4], [60, 2, 6, 517, 0, 1, 2, 3, 4, 5, 6, 7]), (20, [3, 2, 1, 9], [60, 1, 1, 519, 0, 6]), (20, [9, 3], [50, 1, 0, 1001, 0, 2, 1, 0, 2, 1, 1])], [], [(9, 5, 1, 1), (9, 6, -4294967296, 0), (5, 6, -4294967296, -1), (4, 5, -4294967296, 0)])
theorem oo_St_raise_at_gl_2 {kA : Nat → ClassId} : or_ok PRD kA GG o_St_raise_at_gl_2 := by
  refine or_mk fun A ta ws vs hD hth hl => ?_
  intro t0 r0 t1 k1 t2 k2 t4 k4 t5 k5 t6 k6 t8 k8 t9 k9 d0 d1 d2 d3 f0 f1 f2 f3 f4 f5 f6 f7 f8 f9
  replace f0 := shm_4 f0
  replace f1 := shm_142 f1
  replace f2 := shm_106 f2
  replace f3 := shm_107 f3
  replace f4 := shm_6 f4
  replace f5 := shm_127 f5
  replace f6 := shm_475 f6
  replace f7 := shm_476 f7
  replace f8 := shm_477 f8
  replace f9 := shm_5 f9
  have q3 : n_v vs 3 = n_v vs 0 := f9.symm
  simp only [q3] at f3 f5 f6 f7 f8
  have cr_0_2 := fdq_107 hD hth r0
  have cr_0_3 := fdq_108 hD hth r0
  have cr_0_4 := fdq_109 hD hth r0
  have cr_0_5 := fdq_110 hD hth r0
  have cr_0_6 := fdq_114 hD hth r0
  have cr_0_7 := fdq_115 hD hth r0
  have ad_7 : v_ad (n_v vs 7) = w_ar ws (n_v vs 0) 4 := congrArg v_ad f3
  simp only [ad_7] at f2
  have h2 : v_iv (n_v vs 8) = w_ei ws (w_ar ws (n_v vs 0) 4) (v_iv (n_v vs 5)) := f2
  have g5 : v_iv (n_v vs 6) = w_fi ws (n_v vs 0) 1 := congrArg v_iv f5
  have hK_0_2 := elq_50 hD hth cr_0_2
  have hK_0_3 := elq_51 hD hth cr_0_3
  have hK_0_4 := elq_52 hD hth cr_0_4
  have hK_0_5 := elq_53 hD hth cr_0_5
  have hK_0_6 := elq_55 hD hth cr_0_6
  have hK_0_7 := elq_56 hD hth cr_0_7
  have kz_0_0 := fdq_113 hD hth r0
  have kz_0_1 := fdq_112 hD hth r0
  have nf0 : fc_1 PRD (20, [3, 1, 9, 4], [60, 2, 6, 517, 0, 1, 2, 3, 4, 5, 6, 7]) ws (vs) := by
    refine ⟨nf_in hl rfl, sgq_475 ?_⟩
    · show RAI (w_fi ws (n_v vs 3) 0) (w_fi ws (n_v vs 3) 1) (w_ei ws (w_ar ws (n_v vs 3) 2)) (w_ei ws (w_ar ws (n_v vs 3) 3)) (w_ei ws (w_ar ws (n_v vs 3) 4)) (w_ei ws (w_ar ws (n_v vs 3) 5)) (w_ei ws (w_ar ws (n_v vs 3) 6)) (w_ei ws (w_ar ws (n_v vs 3) 7)) (v_iv (n_v vs 1)) (v_iv (n_v vs 9)) (v_iv (n_v vs 4))
      rw [q3]
      exact vc_St_raise_at_gl_2_0 (v_iv (n_v vs 1)) (v_iv (n_v vs 2)) (v_iv (n_v vs 4)) (v_iv (n_v vs 5)) (v_iv (n_v vs 6)) (v_iv (n_v vs 8)) (v_iv (n_v vs 9)) (w_ei ws (w_ar ws (n_v vs 0) 4)) (w_fi ws (n_v vs 0) 1) (w_ei ws (w_ar ws (n_v vs 0) 2)) (w_ei ws (w_ar ws (n_v vs 0) 3)) (w_ei ws (w_ar ws (n_v vs 0) 5)) (w_ei ws (w_ar ws (n_v vs 0) 6)) (w_ei ws (w_ar ws (n_v vs 0) 7)) (w_fi ws (n_v vs 0) 0) k1 k2 k4 k5 k6 k8 k9 d0 d1 d2 d3 f0 f1 h2 f4 g5 f6 f7 f8 hK_0_2 hK_0_3 hK_0_4 hK_0_5 hK_0_6 hK_0_7 kz_0_0 kz_0_1
  have nf1 : fc_1 PRD (20, [3, 2, 1, 9], [60, 1, 1, 519, 0, 6]) ws (vs) := by
    refine ⟨nf_in hl rfl, sgq_476 ?_⟩
    · show PBW (w_fi ws (n_v vs 3) 0) (w_ei ws (w_ar ws (n_v vs 3) 6)) (v_iv (n_v vs 2)) (v_iv (n_v vs 1)) (v_iv (n_v vs 9))
      rw [q3]
      exact vc_St_raise_at_gl_2_1 (v_iv (n_v vs 1)) (v_iv (n_v vs 2)) (v_iv (n_v vs 4)) (v_iv (n_v vs 5)) (v_iv (n_v vs 6)) (v_iv (n_v vs 8)) (v_iv (n_v vs 9)) (w_ei ws (w_ar ws (n_v vs 0) 4)) (w_fi ws (n_v vs 0) 1) (w_ei ws (w_ar ws (n_v vs 0) 2)) (w_ei ws (w_ar ws (n_v vs 0) 3)) (w_ei ws (w_ar ws (n_v vs 0) 5)) (w_ei ws (w_ar ws (n_v vs 0) 6)) (w_ei ws (w_ar ws (n_v vs 0) 7)) (w_fi ws (n_v vs 0) 0) k1 k2 k4 k5 k6 k8 k9 d0 d1 d2 d3 f0 f1 h2 f4 g5 f6 f7 f8 hK_0_2 hK_0_3 hK_0_4 hK_0_5 hK_0_6 hK_0_7 kz_0_0 kz_0_1
  have nf2 : fc_1 PRD (20, [9, 3], [50, 1, 0, 1001, 0, 2, 1, 0, 2, 1, 1]) ws (vs) := by
    refine ⟨nf_in hl rfl, sgq_477 ?_⟩
    · show v_iv (n_v vs 9) ≤ w_fi ws (n_v vs 3) 1
      rw [q3]
      exact vc_St_raise_at_gl_2_2 (v_iv (n_v vs 1)) (v_iv (n_v vs 2)) (v_iv (n_v vs 4)) (v_iv (n_v vs 5)) (v_iv (n_v vs 6)) (v_iv (n_v vs 8)) (v_iv (n_v vs 9)) (w_ei ws (w_ar ws (n_v vs 0) 4)) (w_fi ws (n_v vs 0) 1) (w_ei ws (w_ar ws (n_v vs 0) 2)) (w_ei ws (w_ar ws (n_v vs 0) 3)) (w_ei ws (w_ar ws (n_v vs 0) 5)) (w_ei ws (w_ar ws (n_v vs 0) 6)) (w_ei ws (w_ar ws (n_v vs 0) 7)) (w_fi ws (n_v vs 0) 0) k1 k2 k4 k5 k6 k8 k9 d0 d1 d2 d3 f0 f1 h2 f4 g5 f6 f7 f8 hK_0_2 hK_0_3 hK_0_4 hK_0_5 hK_0_6 hK_0_7 kz_0_0 kz_0_1
  refine ⟨(fun _ h => (by cases h)), [], trivial, ?_, (fun _ h => (by cases h))⟩
  rw [List.append_nil]
  exact List.forall_mem_cons.mpr ⟨⟨show (20 : Nat) < 100 from by decide, nf0⟩, List.forall_mem_cons.mpr ⟨⟨show (20 : Nat) < 100 from by decide, nf1⟩, List.forall_mem_cons.mpr ⟨⟨show (20 : Nat) < 100 from by decide, nf2⟩, (fun _ h => (by cases h))⟩⟩⟩
set_option maxHeartbeats 4000000 in
theorem vc_St_raise_at_gl_3_r0 (x1 : Int) (x2 : Int) (x4 : Int) (x5 : Int) (x6 : Int) (x8 : Int) (x11 : Int) (x12 : Int) (x14 : Int) (gain_0 : Int → Int) (place_0 : Int → Int) (from_0 : Int → Int) (room_0 : Int → Int) (arcs_0 : Int) (to_0 : Int → Int) (by_0 : Int → Int) (nodes_0 : Int) (k1 : 0 ≤ x1 ∧ x1 ≤ 288) (k2 : 0 ≤ x2 ∧ x2 ≤ 9999) (k4 : 0 ≤ x4 ∧ x4 ≤ 1) (k5 : 0 ≤ x5 ∧ x5 ≤ 383) (k6 : 1 ≤ x6 ∧ x6 ≤ 384) (k8 : 1 ≤ x8 ∧ x8 ≤ 2147483647) (k11 : 0 ≤ x11 ∧ x11 ≤ 71) (k12 : (-2147483648) ≤ x12 ∧ x12 ≤ 2147483647) (k14 : (-20) ≤ x14 ∧ x14 ≤ 20) (d0 : x6 + (-4294967296) ≤ x5 ∧ x5 ≤ x6 + (-1)) (d1 : x5 + (-4294967296) ≤ x4 ∧ x4 ≤ x5 + 0) (h0 : x14 = gain_0 (x5)) (h2 : x12 = place_0 (x11)) (h3 : x11 = from_0 (x5)) (f6 : 0 < x8) (h7 : x8 = room_0 (x5)) (f9 : x5 < x6) (g10 : x6 = arcs_0) (f11 : RAI (nodes_0) (arcs_0) (from_0) (to_0) (room_0) (gain_0) (place_0) (by_0) (x1) (x5) (x4)) (f12 : PBW (nodes_0) (place_0) (x2) (x1) (x5)) (f13 : x5 ≤ arcs_0) (hK_0_2 : ∀ j : Int, 0 ≤ j → j < 384 → 0 ≤ from_0 j ∧ from_0 j ≤ 71) (hK_0_3 : ∀ j : Int, 0 ≤ j → j < 384 → 0 ≤ to_0 j ∧ to_0 j ≤ 71) (hK_0_4 : ∀ j : Int, 0 ≤ j → j < 384 → (-2147483648) ≤ room_0 j ∧ room_0 j ≤ 2147483647) (hK_0_5 : ∀ j : Int, 0 ≤ j → j < 384 → (-20) ≤ gain_0 j ∧ gain_0 j ≤ 20) (hK_0_6 : ∀ j : Int, 0 ≤ j → j < 72 → (-2147483648) ≤ place_0 j ∧ place_0 j ≤ 2147483647) (hK_0_7 : ∀ j : Int, 0 ≤ j → j < 72 → (-1) ≤ by_0 j ∧ by_0 j ≤ 383) (kz_0_0 : 0 ≤ nodes_0 ∧ nodes_0 ≤ 72) (kz_0_1 : 0 ≤ arcs_0 ∧ arcs_0 ≤ 384) : 0 ≤ x12 ∧ x12 ≤ 600000000 := by
  first | subst h0 | skip
  first | subst h2 | skip
  first | subst h3 | skip
  first | subst h7 | skip
  have r := (‹RAI _ _ _ _ _ _ _ _ _ _ _›).1.2.2.2.2
  have r0 := (‹RAI _ _ _ _ _ _ _ _ _ _ _›).2.2.1
  have r1 := r x5 (by omega) (by omega)
  have b := ‹PBW _ _ _ _ _› (from_0 x5) r1.1 r1.2.1
  have a := (‹RAI _ _ _ _ _ _ _ _ _ _ _›).1.2.2.2.1
  omega
set_option maxHeartbeats 4000000 in
theorem vc_St_raise_at_gl_3_r1 (x1 : Int) (x2 : Int) (x4 : Int) (x5 : Int) (x6 : Int) (x8 : Int) (x11 : Int) (x12 : Int) (x14 : Int) (gain_0 : Int → Int) (place_0 : Int → Int) (from_0 : Int → Int) (room_0 : Int → Int) (arcs_0 : Int) (to_0 : Int → Int) (by_0 : Int → Int) (nodes_0 : Int) (k1 : 0 ≤ x1 ∧ x1 ≤ 288) (k2 : 0 ≤ x2 ∧ x2 ≤ 9999) (k4 : 0 ≤ x4 ∧ x4 ≤ 1) (k5 : 0 ≤ x5 ∧ x5 ≤ 383) (k6 : 1 ≤ x6 ∧ x6 ≤ 384) (k8 : 1 ≤ x8 ∧ x8 ≤ 2147483647) (k11 : 0 ≤ x11 ∧ x11 ≤ 71) (k12 : (-2147483648) ≤ x12 ∧ x12 ≤ 2147483647) (k14 : (-20) ≤ x14 ∧ x14 ≤ 20) (d0 : x6 + (-4294967296) ≤ x5 ∧ x5 ≤ x6 + (-1)) (d1 : x5 + (-4294967296) ≤ x4 ∧ x4 ≤ x5 + 0) (h0 : x14 = gain_0 (x5)) (h2 : x12 = place_0 (x11)) (h3 : x11 = from_0 (x5)) (f6 : 0 < x8) (h7 : x8 = room_0 (x5)) (f9 : x5 < x6) (g10 : x6 = arcs_0) (f11 : RAI (nodes_0) (arcs_0) (from_0) (to_0) (room_0) (gain_0) (place_0) (by_0) (x1) (x5) (x4)) (f12 : PBW (nodes_0) (place_0) (x2) (x1) (x5)) (f13 : x5 ≤ arcs_0) (hK_0_2 : ∀ j : Int, 0 ≤ j → j < 384 → 0 ≤ from_0 j ∧ from_0 j ≤ 71) (hK_0_3 : ∀ j : Int, 0 ≤ j → j < 384 → 0 ≤ to_0 j ∧ to_0 j ≤ 71) (hK_0_4 : ∀ j : Int, 0 ≤ j → j < 384 → (-2147483648) ≤ room_0 j ∧ room_0 j ≤ 2147483647) (hK_0_5 : ∀ j : Int, 0 ≤ j → j < 384 → (-20) ≤ gain_0 j ∧ gain_0 j ≤ 20) (hK_0_6 : ∀ j : Int, 0 ≤ j → j < 72 → (-2147483648) ≤ place_0 j ∧ place_0 j ≤ 2147483647) (hK_0_7 : ∀ j : Int, 0 ≤ j → j < 72 → (-1) ≤ by_0 j ∧ by_0 j ≤ 383) (kz_0_0 : 0 ≤ nodes_0 ∧ nodes_0 ≤ 72) (kz_0_1 : 0 ≤ arcs_0 ∧ arcs_0 ≤ 384) : (-1) ≤ x14 ∧ x14 ≤ 1 := by
  first | subst h0 | skip
  first | subst h2 | skip
  first | subst h3 | skip
  first | subst h7 | skip
  have r := (‹RAI _ _ _ _ _ _ _ _ _ _ _›).1.2.2.2.2
  have r0 := (‹RAI _ _ _ _ _ _ _ _ _ _ _›).2.2.1
  have r1 := r x5 (by omega) (by omega)
  have b := ‹PBW _ _ _ _ _› (from_0 x5) r1.1 r1.2.1
  have a := (‹RAI _ _ _ _ _ _ _ _ _ _ _›).1.2.2.2.1
  omega
def o_St_raise_at_gl_3 : or_T := (38, 15, [(0, (2, 0, 0, [10])), (1, (0, 0, 288, [])), (2, (0, 0, 9999, [])), (3, (2, 0, 0, [10])), (4, (0, 0, 1, [])), (5, (0, 0, 383, [])), (6, (0, 1, 384, [])), (7, (2, 0, 0, [120])), (8, (0, 1, 2147483647, [])), (9, (2, 0, 0, [122])), (10, (2, 0, 0, [118])), (11, (0, 0, 71, [])), (12, (0, -2147483648, 2147483647, [])), (13, (2, 0, 0, [121])), (14, (0, -20, 20, []))], [(10, [14, 13, 5], []), (9, [13, 3], [5]), (10, [12, 9, 11], []), (10, [11, 10, 5], []), (9, [10, 3], [2]), (9, [9, 3], [6]), (8, [8], [4]), (10, [8, 7, 5], []), (9, [7, 3], [4]), (7, [5, 6], [2]), (9, [6, 3], [1]), (20, [3, 1, 5, 4], [60, 2, 6, 517, 0, 1, 2, 3, 4, 5, 6, 7]), (20, [3, 2, 1, 5], [60, 1, 1, 519, 0, 6]), (20, [5, 3], [50, 1, 0, 1001, 0, 2, 1, 0, 2, 1, 1]), (24, [0, 3], [])], [(12, (0, 0, 600000000, [])), (14, (0, -1, 1, []))], [], [], [], [(5, 6, -4294967296, -1), (4, 5, -4294967296, 0)])
theorem oo_St_raise_at_gl_3 {kA : Nat → ClassId} : or_ok PRD kA GG o_St_raise_at_gl_3 := by
  refine or_mk fun A ta ws vs hD hth hl => ?_
  intro t0 r0 t1 k1 t2 k2 t3 r3 t4 k4 t5 k5 t6 k6 t7 r7 t8 k8 t9 r9 t10 r10 t11 k11 t12 k12 t13 r13 t14 k14 d0 d1 f0 f1 f2 f3 f4 f5 f6 f7 f8 f9 f10 f11 f12 f13 f14
  replace f0 := shm_106 f0
  replace f1 := shm_109 f1
  replace f2 := shm_106 f2
  replace f3 := shm_106 f3
  replace f4 := shm_129 f4
  replace f5 := shm_110 f5
  replace f7 := shm_106 f7
  replace f8 := shm_107 f8
  replace f10 := shm_127 f10
  replace f11 := shm_475 f11
  replace f12 := shm_476 f12
  replace f13 := shm_477 f13
  replace f14 := shm_5 f14
  have q3 : n_v vs 3 = n_v vs 0 := f14.symm
  simp only [q3] at f1 f4 f5 f8 f10 f11 f12 f13
  have cr_0_2 := fdq_107 hD hth r0
  have cr_0_3 := fdq_108 hD hth r0
  have cr_0_4 := fdq_109 hD hth r0
  have cr_0_5 := fdq_110 hD hth r0
  have cr_0_6 := fdq_114 hD hth r0
  have cr_0_7 := fdq_115 hD hth r0
  have ad_13 : v_ad (n_v vs 13) = w_ar ws (n_v vs 0) 5 := congrArg v_ad f1
  have ad_10 : v_ad (n_v vs 10) = w_ar ws (n_v vs 0) 2 := congrArg v_ad f4
  have ad_9 : v_ad (n_v vs 9) = w_ar ws (n_v vs 0) 6 := congrArg v_ad f5
  have ad_7 : v_ad (n_v vs 7) = w_ar ws (n_v vs 0) 4 := congrArg v_ad f8
  simp only [ad_13] at f0
  have h0 : v_iv (n_v vs 14) = w_ei ws (w_ar ws (n_v vs 0) 5) (v_iv (n_v vs 5)) := f0
  simp only [ad_9] at f2
  have h2 : v_iv (n_v vs 12) = w_ei ws (w_ar ws (n_v vs 0) 6) (v_iv (n_v vs 11)) := f2
  simp only [ad_10] at f3
  have h3 : v_iv (n_v vs 11) = w_ei ws (w_ar ws (n_v vs 0) 2) (v_iv (n_v vs 5)) := f3
  simp only [ad_7] at f7
  have h7 : v_iv (n_v vs 8) = w_ei ws (w_ar ws (n_v vs 0) 4) (v_iv (n_v vs 5)) := f7
  have g10 : v_iv (n_v vs 6) = w_fi ws (n_v vs 0) 1 := congrArg v_iv f10
  have hK_0_2 := elq_50 hD hth cr_0_2
  have hK_0_3 := elq_51 hD hth cr_0_3
  have hK_0_4 := elq_52 hD hth cr_0_4
  have hK_0_5 := elq_53 hD hth cr_0_5
  have hK_0_6 := elq_55 hD hth cr_0_6
  have hK_0_7 := elq_56 hD hth cr_0_7
  have kz_0_0 := fdq_113 hD hth r0
  have kz_0_1 := fdq_112 hD hth r0
  have hrf0 : 0 ≤ v_iv (n_v vs 12) ∧ v_iv (n_v vs 12) ≤ 600000000 := vc_St_raise_at_gl_3_r0 (v_iv (n_v vs 1)) (v_iv (n_v vs 2)) (v_iv (n_v vs 4)) (v_iv (n_v vs 5)) (v_iv (n_v vs 6)) (v_iv (n_v vs 8)) (v_iv (n_v vs 11)) (v_iv (n_v vs 12)) (v_iv (n_v vs 14)) (w_ei ws (w_ar ws (n_v vs 0) 5)) (w_ei ws (w_ar ws (n_v vs 0) 6)) (w_ei ws (w_ar ws (n_v vs 0) 2)) (w_ei ws (w_ar ws (n_v vs 0) 4)) (w_fi ws (n_v vs 0) 1) (w_ei ws (w_ar ws (n_v vs 0) 3)) (w_ei ws (w_ar ws (n_v vs 0) 7)) (w_fi ws (n_v vs 0) 0) k1 k2 k4 k5 k6 k8 k11 k12 k14 d0 d1 h0 h2 h3 (shm_145 f6) h7 (shm_6 f9) g10 f11 f12 f13 hK_0_2 hK_0_3 hK_0_4 hK_0_5 hK_0_6 hK_0_7 kz_0_0 kz_0_1
  have hrf1 : (-1) ≤ v_iv (n_v vs 14) ∧ v_iv (n_v vs 14) ≤ 1 := vc_St_raise_at_gl_3_r1 (v_iv (n_v vs 1)) (v_iv (n_v vs 2)) (v_iv (n_v vs 4)) (v_iv (n_v vs 5)) (v_iv (n_v vs 6)) (v_iv (n_v vs 8)) (v_iv (n_v vs 11)) (v_iv (n_v vs 12)) (v_iv (n_v vs 14)) (w_ei ws (w_ar ws (n_v vs 0) 5)) (w_ei ws (w_ar ws (n_v vs 0) 6)) (w_ei ws (w_ar ws (n_v vs 0) 2)) (w_ei ws (w_ar ws (n_v vs 0) 4)) (w_fi ws (n_v vs 0) 1) (w_ei ws (w_ar ws (n_v vs 0) 3)) (w_ei ws (w_ar ws (n_v vs 0) 7)) (w_fi ws (n_v vs 0) 0) k1 k2 k4 k5 k6 k8 k11 k12 k14 d0 d1 h0 h2 h3 (shm_145 f6) h7 (shm_6 f9) g10 f11 f12 f13 hK_0_2 hK_0_3 hK_0_4 hK_0_5 hK_0_6 hK_0_7 kz_0_0 kz_0_1
  have rf12 : tv_ok ta (0, 0, 600000000, []) (n_v vs 12) := tv_in t12 (by first | omega | grind) (by first | omega | grind)
  have rf14 : tv_ok ta (0, -1, 1, []) (n_v vs 14) := tv_in t14 (by first | omega | grind) (by first | omega | grind)
  refine ⟨List.forall_mem_cons.mpr ⟨rf12, List.forall_mem_cons.mpr ⟨rf14, (fun _ h => (by cases h))⟩⟩, [], trivial, ?_, (fun _ h => (by cases h))⟩
  rw [List.append_nil]
  exact (fun _ h => (by cases h))
set_option maxHeartbeats 4000000 in
theorem vc_St_raise_at_gl_4_0 (x1 : Int) (x2 : Int) (x4 : Int) (x5 : Int) (x6 : Int) (x8 : Int) (x11 : Int) (x12 : Int) (x14 : Int) (x15 : Int) (x17 : Int) (x18 : Int) (x19 : Int) (place_0 : Int → Int) (to_0 : Int → Int) (gain_0 : Int → Int) (from_0 : Int → Int) (room_0 : Int → Int) (arcs_0 : Int) (by_0 : Int → Int) (nodes_0 : Int) (k1 : 0 ≤ x1 ∧ x1 ≤ 288) (k2 : 0 ≤ x2 ∧ x2 ≤ 9999) (k4 : 0 ≤ x4 ∧ x4 ≤ 1) (k5 : 0 ≤ x5 ∧ x5 ≤ 383) (k6 : 1 ≤ x6 ∧ x6 ≤ 384) (k8 : 1 ≤ x8 ∧ x8 ≤ 2147483647) (k11 : 0 ≤ x11 ∧ x11 ≤ 71) (k12 : 0 ≤ x12 ∧ x12 ≤ 600000000) (k14 : (-1) ≤ x14 ∧ x14 ≤ 1) (k15 : (-1) ≤ x15 ∧ x15 ≤ 600000001) (k17 : 0 ≤ x17 ∧ x17 ≤ 71) (k18 : (-1) ≤ x18 ∧ x18 ≤ 2147483647) (k19 : 1 ≤ x19 ∧ x19 ≤ 384) (d0 : x5 + 1 ≤ x19 ∧ x19 ≤ x5 + 1) (d1 : x6 + (-4294967296) ≤ x19 ∧ x19 ≤ x6 + 0) (d2 : x18 + (-4294967296) ≤ x15 ∧ x15 ≤ x18 + 0) (d3 : x14 + 0 ≤ x15 ∧ x15 ≤ x14 + 600000000) (d4 : x12 + (-1) ≤ x15 ∧ x15 ≤ x12 + 1) (d5 : x6 + (-4294967296) ≤ x5 ∧ x5 ≤ x6 + (-1)) (d6 : x5 + (-4294967296) ≤ x4 ∧ x4 ≤ x5 + 0) (f0 : x19 = x5 + 1) (f1 : x15 ≤ x18) (h2 : x18 = place_0 (x17)) (h3 : x17 = to_0 (x5)) (f6 : x15 = x12 + x14) (h7 : x14 = gain_0 (x5)) (h9 : x12 = place_0 (x11)) (h10 : x11 = from_0 (x5)) (f12 : 0 < x8) (h13 : x8 = room_0 (x5)) (f15 : x5 < x6) (g16 : x6 = arcs_0) (f17 : RAI (nodes_0) (arcs_0) (from_0) (to_0) (room_0) (gain_0) (place_0) (by_0) (x1) (x5) (x4)) (f18 : PBW (nodes_0) (place_0) (x2) (x1) (x5)) (f19 : x5 ≤ arcs_0) (hK_0_2 : ∀ j : Int, 0 ≤ j → j < 384 → 0 ≤ from_0 j ∧ from_0 j ≤ 71) (hK_0_3 : ∀ j : Int, 0 ≤ j → j < 384 → 0 ≤ to_0 j ∧ to_0 j ≤ 71) (hK_0_4 : ∀ j : Int, 0 ≤ j → j < 384 → (-2147483648) ≤ room_0 j ∧ room_0 j ≤ 2147483647) (hK_0_5 : ∀ j : Int, 0 ≤ j → j < 384 → (-20) ≤ gain_0 j ∧ gain_0 j ≤ 20) (hK_0_6 : ∀ j : Int, 0 ≤ j → j < 72 → (-2147483648) ≤ place_0 j ∧ place_0 j ≤ 2147483647) (hK_0_7 : ∀ j : Int, 0 ≤ j → j < 72 → (-1) ≤ by_0 j ∧ by_0 j ≤ 383) (kz_0_0 : 0 ≤ nodes_0 ∧ nodes_0 ≤ 72) (kz_0_1 : 0 ≤ arcs_0 ∧ arcs_0 ≤ 384) : RAI (nodes_0) (arcs_0) (from_0) (to_0) (room_0) (gain_0) (place_0) (by_0) (x1) (x19) (x4) := by
  first
    | exact rai_start ‹FRI _ _ _ _ _ _ _ _ _› (by omega) (by omega)
    | (skip; (first | subst h2 | skip); (first | subst h3 | skip); (first | subst h7 | skip); (first | subst h9 | skip); (first | subst h10 | skip); (first | subst h13 | skip); exact rai_skip ‹RAI _ _ _ _ _ _ _ _ _ _ _› (by first | (left; omega) | (right; omega)) (by omega))
    | (skip; (first | subst h2 | skip); (first | subst h3 | skip); (first | subst h7 | skip); (first | subst h9 | skip); (first | subst h10 | skip); (first | subst h13 | skip); exact rai_set ‹RAI _ _ _ _ _ _ _ _ _ _ _› (by assumption) rfl (by omega) (by assumption) rfl rfl (by omega) (by omega) (by omega) (by omega) (by omega))
  
set_option maxHeartbeats 4000000 in
theorem vc_St_raise_at_gl_4_1 (x1 : Int) (x2 : Int) (x4 : Int) (x5 : Int) (x6 : Int) (x8 : Int) (x11 : Int) (x12 : Int) (x14 : Int) (x15 : Int) (x17 : Int) (x18 : Int) (x19 : Int) (place_0 : Int → Int) (to_0 : Int → Int) (gain_0 : Int → Int) (from_0 : Int → Int) (room_0 : Int → Int) (arcs_0 : Int) (by_0 : Int → Int) (nodes_0 : Int) (k1 : 0 ≤ x1 ∧ x1 ≤ 288) (k2 : 0 ≤ x2 ∧ x2 ≤ 9999) (k4 : 0 ≤ x4 ∧ x4 ≤ 1) (k5 : 0 ≤ x5 ∧ x5 ≤ 383) (k6 : 1 ≤ x6 ∧ x6 ≤ 384) (k8 : 1 ≤ x8 ∧ x8 ≤ 2147483647) (k11 : 0 ≤ x11 ∧ x11 ≤ 71) (k12 : 0 ≤ x12 ∧ x12 ≤ 600000000) (k14 : (-1) ≤ x14 ∧ x14 ≤ 1) (k15 : (-1) ≤ x15 ∧ x15 ≤ 600000001) (k17 : 0 ≤ x17 ∧ x17 ≤ 71) (k18 : (-1) ≤ x18 ∧ x18 ≤ 2147483647) (k19 : 1 ≤ x19 ∧ x19 ≤ 384) (d0 : x5 + 1 ≤ x19 ∧ x19 ≤ x5 + 1) (d1 : x6 + (-4294967296) ≤ x19 ∧ x19 ≤ x6 + 0) (d2 : x18 + (-4294967296) ≤ x15 ∧ x15 ≤ x18 + 0) (d3 : x14 + 0 ≤ x15 ∧ x15 ≤ x14 + 600000000) (d4 : x12 + (-1) ≤ x15 ∧ x15 ≤ x12 + 1) (d5 : x6 + (-4294967296) ≤ x5 ∧ x5 ≤ x6 + (-1)) (d6 : x5 + (-4294967296) ≤ x4 ∧ x4 ≤ x5 + 0) (f0 : x19 = x5 + 1) (f1 : x15 ≤ x18) (h2 : x18 = place_0 (x17)) (h3 : x17 = to_0 (x5)) (f6 : x15 = x12 + x14) (h7 : x14 = gain_0 (x5)) (h9 : x12 = place_0 (x11)) (h10 : x11 = from_0 (x5)) (f12 : 0 < x8) (h13 : x8 = room_0 (x5)) (f15 : x5 < x6) (g16 : x6 = arcs_0) (f17 : RAI (nodes_0) (arcs_0) (from_0) (to_0) (room_0) (gain_0) (place_0) (by_0) (x1) (x5) (x4)) (f18 : PBW (nodes_0) (place_0) (x2) (x1) (x5)) (f19 : x5 ≤ arcs_0) (hK_0_2 : ∀ j : Int, 0 ≤ j → j < 384 → 0 ≤ from_0 j ∧ from_0 j ≤ 71) (hK_0_3 : ∀ j : Int, 0 ≤ j → j < 384 → 0 ≤ to_0 j ∧ to_0 j ≤ 71) (hK_0_4 : ∀ j : Int, 0 ≤ j → j < 384 → (-2147483648) ≤ room_0 j ∧ room_0 j ≤ 2147483647) (hK_0_5 : ∀ j : Int, 0 ≤ j → j < 384 → (-20) ≤ gain_0 j ∧ gain_0 j ≤ 20) (hK_0_6 : ∀ j : Int, 0 ≤ j → j < 72 → (-2147483648) ≤ place_0 j ∧ place_0 j ≤ 2147483647) (hK_0_7 : ∀ j : Int, 0 ≤ j → j < 72 → (-1) ≤ by_0 j ∧ by_0 j ≤ 383) (kz_0_0 : 0 ≤ nodes_0 ∧ nodes_0 ≤ 72) (kz_0_1 : 0 ≤ arcs_0 ∧ arcs_0 ≤ 384) : PBW (nodes_0) (place_0) (x2) (x1) (x19) := by
  first
    | exact pbw_up ‹PBT _ _ _ _› (by omega)
    | exact pbw_up ‹PBW _ _ _ _ _› (by omega)
    | (skip; (first | subst h2 | skip); (first | subst h3 | skip); (first | subst h7 | skip); (first | subst h9 | skip); (first | subst h10 | skip); (first | subst h13 | skip); exact pbw_set ‹PBW _ _ _ _ _› (‹RAI _ _ _ _ _ _ _ _ _ _ _›).1 (by assumption) rfl (by omega) (by have := (‹RAI _ _ _ _ _ _ _ _ _ _ _›).2.2.1; omega) (by omega) (by omega) (by omega))
  
set_option maxHeartbeats 4000000 in
theorem vc_St_raise_at_gl_4_2 (x1 : Int) (x2 : Int) (x4 : Int) (x5 : Int) (x6 : Int) (x8 : Int) (x11 : Int) (x12 : Int) (x14 : Int) (x15 : Int) (x17 : Int) (x18 : Int) (x19 : Int) (place_0 : Int → Int) (to_0 : Int → Int) (gain_0 : Int → Int) (from_0 : Int → Int) (room_0 : Int → Int) (arcs_0 : Int) (by_0 : Int → Int) (nodes_0 : Int) (k1 : 0 ≤ x1 ∧ x1 ≤ 288) (k2 : 0 ≤ x2 ∧ x2 ≤ 9999) (k4 : 0 ≤ x4 ∧ x4 ≤ 1) (k5 : 0 ≤ x5 ∧ x5 ≤ 383) (k6 : 1 ≤ x6 ∧ x6 ≤ 384) (k8 : 1 ≤ x8 ∧ x8 ≤ 2147483647) (k11 : 0 ≤ x11 ∧ x11 ≤ 71) (k12 : 0 ≤ x12 ∧ x12 ≤ 600000000) (k14 : (-1) ≤ x14 ∧ x14 ≤ 1) (k15 : (-1) ≤ x15 ∧ x15 ≤ 600000001) (k17 : 0 ≤ x17 ∧ x17 ≤ 71) (k18 : (-1) ≤ x18 ∧ x18 ≤ 2147483647) (k19 : 1 ≤ x19 ∧ x19 ≤ 384) (d0 : x5 + 1 ≤ x19 ∧ x19 ≤ x5 + 1) (d1 : x6 + (-4294967296) ≤ x19 ∧ x19 ≤ x6 + 0) (d2 : x18 + (-4294967296) ≤ x15 ∧ x15 ≤ x18 + 0) (d3 : x14 + 0 ≤ x15 ∧ x15 ≤ x14 + 600000000) (d4 : x12 + (-1) ≤ x15 ∧ x15 ≤ x12 + 1) (d5 : x6 + (-4294967296) ≤ x5 ∧ x5 ≤ x6 + (-1)) (d6 : x5 + (-4294967296) ≤ x4 ∧ x4 ≤ x5 + 0) (f0 : x19 = x5 + 1) (f1 : x15 ≤ x18) (h2 : x18 = place_0 (x17)) (h3 : x17 = to_0 (x5)) (f6 : x15 = x12 + x14) (h7 : x14 = gain_0 (x5)) (h9 : x12 = place_0 (x11)) (h10 : x11 = from_0 (x5)) (f12 : 0 < x8) (h13 : x8 = room_0 (x5)) (f15 : x5 < x6) (g16 : x6 = arcs_0) (f17 : RAI (nodes_0) (arcs_0) (from_0) (to_0) (room_0) (gain_0) (place_0) (by_0) (x1) (x5) (x4)) (f18 : PBW (nodes_0) (place_0) (x2) (x1) (x5)) (f19 : x5 ≤ arcs_0) (hK_0_2 : ∀ j : Int, 0 ≤ j → j < 384 → 0 ≤ from_0 j ∧ from_0 j ≤ 71) (hK_0_3 : ∀ j : Int, 0 ≤ j → j < 384 → 0 ≤ to_0 j ∧ to_0 j ≤ 71) (hK_0_4 : ∀ j : Int, 0 ≤ j → j < 384 → (-2147483648) ≤ room_0 j ∧ room_0 j ≤ 2147483647) (hK_0_5 : ∀ j : Int, 0 ≤ j → j < 384 → (-20) ≤ gain_0 j ∧ gain_0 j ≤ 20) (hK_0_6 : ∀ j : Int, 0 ≤ j → j < 72 → (-2147483648) ≤ place_0 j ∧ place_0 j ≤ 2147483647) (hK_0_7 : ∀ j : Int, 0 ≤ j → j < 72 → (-1) ≤ by_0 j ∧ by_0 j ≤ 383) (kz_0_0 : 0 ≤ nodes_0 ∧ nodes_0 ≤ 72) (kz_0_1 : 0 ≤ arcs_0 ∧ arcs_0 ≤ 384) : x19 ≤ arcs_0 := by
  first
    | (have a := (‹FRI _ _ _ _ _ _ _ _ _›).1.2.2.1; omega)
    | omega
def o_St_raise_at_gl_4 : or_T := (4, 20, [(0, (2, 0, 0, [10])), (1, (0, 0, 288, [])), (2, (0, 0, 9999, [])), (4, (0, 0, 1, [])), (5, (0, 0, 383, [])), (6, (0, 1, 384, [])), (8, (0, 1, 2147483647, [])), (11, (0, 0, 71, [])), (12, (0, 0, 600000000, [])), (14, (0, -1, 1, [])), (15, (0, -1, 600000001, [])), (17, (0, 0, 71, [])), (18, (0, -1, 2147483647, [])), (19, (0, 1, 384, []))], [(6, [19, 5], [1]), (7, [15, 18], [5]), (10, [18, 9, 17], []), (10, [17, 16, 5], []), (9, [16, 3], [3]), (9, [9, 3], [6]), (1, [15, 12, 14], []), (10, [14, 13, 5], []), (9, [13, 3], [5]), (10, [12, 9, 11], []), (10, [11, 10, 5], []), (9, [10, 3], [2]), (8, [8], [4]), (10, [8, 7, 5], []), (9, [7, 3], [4]), (7, [5, 6], [2]), (9, [6, 3], [1]), (20, [3, 1, 5, 4], [60, 2, 6, 517, 0, 1, 2, 3, 4, 5, 6, 7]), (20, [3, 2, 1, 5], [60, 1, 1, 519, 0, 6]), (20, [5, 3], [50, 1, 0, 1001, 0, 2, 1, 0, 2, 1, 1]), (24, [0, 3], [])], [], [], [(20, [3, 1, 19, 4], [60, 2, 6, 517, 0, 1, 2, 3, 4, 5, 6, 7]), (20, [3, 2, 1, 19], [60, 1, 1, 519, 0, 6]), (20, [19, 3], [50, 1, 0, 1001, 0, 2, 1, 0, 2, 1, 1])], [], [(19, 5, 1, 1), (19, 6, -4294967296, 0), (15, 18, -4294967296, 0), (15, 14, 0, 600000000), (15, 12, -1, 1), (5, 6, -4294967296, -1), (4, 5, -4294967296, 0)])
theorem oo_St_raise_at_gl_4 {kA : Nat → ClassId} : or_ok PRD kA GG o_St_raise_at_gl_4 := by
  refine or_mk fun A ta ws vs hD hth hl => ?_
  intro t0 r0 t1 k1 t2 k2 t4 k4 t5 k5 t6 k6 t8 k8 t11 k11 t12 k12 t14 k14 t15 k15 t17 k17 t18 k18 t19 k19 d0 d1 d2 d3 d4 d5 d6 f0 f1 f2 f3 f4 f5 f6 f7 f8 f9 f10 f11 f12 f13 f14 f15 f16 f17 f18 f19 f20
  replace f0 := shm_4 f0
  replace f1 := shm_24 f1
  replace f2 := shm_106 f2
  replace f3 := shm_106 f3
  replace f4 := shm_149 f4
  replace f5 := shm_110 f5
  replace f6 := shm_12 f6
  replace f7 := shm_106 f7
  replace f8 := shm_109 f8
  replace f9 := shm_106 f9
  replace f10 := shm_106 f10
  replace f11 := shm_129 f11
  replace f12 := shm_145 f12
  replace f13 := shm_106 f13
  replace f14 := shm_107 f14
  replace f15 := shm_6 f15
  replace f16 := shm_127 f16
  replace f17 := shm_475 f17
  replace f18 := shm_476 f18
  replace f19 := shm_477 f19
  replace f20 := shm_5 f20
  have q3 : n_v vs 3 = n_v vs 0 := f20.symm
  simp only [q3] at f4 f5 f8 f11 f14 f16 f17 f18 f19
  have cr_0_2 := fdq_107 hD hth r0
  have cr_0_3 := fdq_108 hD hth r0
  have cr_0_4 := fdq_109 hD hth r0
  have cr_0_5 := fdq_110 hD hth r0
  have cr_0_6 := fdq_114 hD hth r0
  have cr_0_7 := fdq_115 hD hth r0
  have ad_16 : v_ad (n_v vs 16) = w_ar ws (n_v vs 0) 3 := congrArg v_ad f4
  have ad_9 : v_ad (n_v vs 9) = w_ar ws (n_v vs 0) 6 := congrArg v_ad f5
  have ad_13 : v_ad (n_v vs 13) = w_ar ws (n_v vs 0) 5 := congrArg v_ad f8
  have ad_10 : v_ad (n_v vs 10) = w_ar ws (n_v vs 0) 2 := congrArg v_ad f11
  have ad_7 : v_ad (n_v vs 7) = w_ar ws (n_v vs 0) 4 := congrArg v_ad f14
  simp only [ad_9] at f2
  have h2 : v_iv (n_v vs 18) = w_ei ws (w_ar ws (n_v vs 0) 6) (v_iv (n_v vs 17)) := f2
  simp only [ad_16] at f3
  have h3 : v_iv (n_v vs 17) = w_ei ws (w_ar ws (n_v vs 0) 3) (v_iv (n_v vs 5)) := f3
  simp only [ad_13] at f7
  have h7 : v_iv (n_v vs 14) = w_ei ws (w_ar ws (n_v vs 0) 5) (v_iv (n_v vs 5)) := f7
  simp only [ad_9] at f9
  have h9 : v_iv (n_v vs 12) = w_ei ws (w_ar ws (n_v vs 0) 6) (v_iv (n_v vs 11)) := f9
  simp only [ad_10] at f10
  have h10 : v_iv (n_v vs 11) = w_ei ws (w_ar ws (n_v vs 0) 2) (v_iv (n_v vs 5)) := f10
  simp only [ad_7] at f13
  have h13 : v_iv (n_v vs 8) = w_ei ws (w_ar ws (n_v vs 0) 4) (v_iv (n_v vs 5)) := f13
  have g16 : v_iv (n_v vs 6) = w_fi ws (n_v vs 0) 1 := congrArg v_iv f16
  have hK_0_2 := elq_50 hD hth cr_0_2
  have hK_0_3 := elq_51 hD hth cr_0_3
  have hK_0_4 := elq_52 hD hth cr_0_4
  have hK_0_5 := elq_53 hD hth cr_0_5
  have hK_0_6 := elq_55 hD hth cr_0_6
  have hK_0_7 := elq_56 hD hth cr_0_7
  have kz_0_0 := fdq_113 hD hth r0
  have kz_0_1 := fdq_112 hD hth r0
  have nf0 : fc_1 PRD (20, [3, 1, 19, 4], [60, 2, 6, 517, 0, 1, 2, 3, 4, 5, 6, 7]) ws (vs) := by
    refine ⟨nf_in hl rfl, sgq_475 ?_⟩
    · show RAI (w_fi ws (n_v vs 3) 0) (w_fi ws (n_v vs 3) 1) (w_ei ws (w_ar ws (n_v vs 3) 2)) (w_ei ws (w_ar ws (n_v vs 3) 3)) (w_ei ws (w_ar ws (n_v vs 3) 4)) (w_ei ws (w_ar ws (n_v vs 3) 5)) (w_ei ws (w_ar ws (n_v vs 3) 6)) (w_ei ws (w_ar ws (n_v vs 3) 7)) (v_iv (n_v vs 1)) (v_iv (n_v vs 19)) (v_iv (n_v vs 4))
      rw [q3]
      exact vc_St_raise_at_gl_4_0 (v_iv (n_v vs 1)) (v_iv (n_v vs 2)) (v_iv (n_v vs 4)) (v_iv (n_v vs 5)) (v_iv (n_v vs 6)) (v_iv (n_v vs 8)) (v_iv (n_v vs 11)) (v_iv (n_v vs 12)) (v_iv (n_v vs 14)) (v_iv (n_v vs 15)) (v_iv (n_v vs 17)) (v_iv (n_v vs 18)) (v_iv (n_v vs 19)) (w_ei ws (w_ar ws (n_v vs 0) 6)) (w_ei ws (w_ar ws (n_v vs 0) 3)) (w_ei ws (w_ar ws (n_v vs 0) 5)) (w_ei ws (w_ar ws (n_v vs 0) 2)) (w_ei ws (w_ar ws (n_v vs 0) 4)) (w_fi ws (n_v vs 0) 1) (w_ei ws (w_ar ws (n_v vs 0) 7)) (w_fi ws (n_v vs 0) 0) k1 k2 k4 k5 k6 k8 k11 k12 k14 k15 k17 k18 k19 d0 d1 d2 d3 d4 d5 d6 f0 f1 h2 h3 f6 h7 h9 h10 f12 h13 f15 g16 f17 f18 f19 hK_0_2 hK_0_3 hK_0_4 hK_0_5 hK_0_6 hK_0_7 kz_0_0 kz_0_1
  have nf1 : fc_1 PRD (20, [3, 2, 1, 19], [60, 1, 1, 519, 0, 6]) ws (vs) := by
    refine ⟨nf_in hl rfl, sgq_476 ?_⟩
    · show PBW (w_fi ws (n_v vs 3) 0) (w_ei ws (w_ar ws (n_v vs 3) 6)) (v_iv (n_v vs 2)) (v_iv (n_v vs 1)) (v_iv (n_v vs 19))
      rw [q3]
      exact vc_St_raise_at_gl_4_1 (v_iv (n_v vs 1)) (v_iv (n_v vs 2)) (v_iv (n_v vs 4)) (v_iv (n_v vs 5)) (v_iv (n_v vs 6)) (v_iv (n_v vs 8)) (v_iv (n_v vs 11)) (v_iv (n_v vs 12)) (v_iv (n_v vs 14)) (v_iv (n_v vs 15)) (v_iv (n_v vs 17)) (v_iv (n_v vs 18)) (v_iv (n_v vs 19)) (w_ei ws (w_ar ws (n_v vs 0) 6)) (w_ei ws (w_ar ws (n_v vs 0) 3)) (w_ei ws (w_ar ws (n_v vs 0) 5)) (w_ei ws (w_ar ws (n_v vs 0) 2)) (w_ei ws (w_ar ws (n_v vs 0) 4)) (w_fi ws (n_v vs 0) 1) (w_ei ws (w_ar ws (n_v vs 0) 7)) (w_fi ws (n_v vs 0) 0) k1 k2 k4 k5 k6 k8 k11 k12 k14 k15 k17 k18 k19 d0 d1 d2 d3 d4 d5 d6 f0 f1 h2 h3 f6 h7 h9 h10 f12 h13 f15 g16 f17 f18 f19 hK_0_2 hK_0_3 hK_0_4 hK_0_5 hK_0_6 hK_0_7 kz_0_0 kz_0_1
  have nf2 : fc_1 PRD (20, [19, 3], [50, 1, 0, 1001, 0, 2, 1, 0, 2, 1, 1]) ws (vs) := by
    refine ⟨nf_in hl rfl, sgq_477 ?_⟩
    · show v_iv (n_v vs 19) ≤ w_fi ws (n_v vs 3) 1
      rw [q3]
      exact vc_St_raise_at_gl_4_2 (v_iv (n_v vs 1)) (v_iv (n_v vs 2)) (v_iv (n_v vs 4)) (v_iv (n_v vs 5)) (v_iv (n_v vs 6)) (v_iv (n_v vs 8)) (v_iv (n_v vs 11)) (v_iv (n_v vs 12)) (v_iv (n_v vs 14)) (v_iv (n_v vs 15)) (v_iv (n_v vs 17)) (v_iv (n_v vs 18)) (v_iv (n_v vs 19)) (w_ei ws (w_ar ws (n_v vs 0) 6)) (w_ei ws (w_ar ws (n_v vs 0) 3)) (w_ei ws (w_ar ws (n_v vs 0) 5)) (w_ei ws (w_ar ws (n_v vs 0) 2)) (w_ei ws (w_ar ws (n_v vs 0) 4)) (w_fi ws (n_v vs 0) 1) (w_ei ws (w_ar ws (n_v vs 0) 7)) (w_fi ws (n_v vs 0) 0) k1 k2 k4 k5 k6 k8 k11 k12 k14 k15 k17 k18 k19 d0 d1 d2 d3 d4 d5 d6 f0 f1 h2 h3 f6 h7 h9 h10 f12 h13 f15 g16 f17 f18 f19 hK_0_2 hK_0_3 hK_0_4 hK_0_5 hK_0_6 hK_0_7 kz_0_0 kz_0_1
  refine ⟨(fun _ h => (by cases h)), [], trivial, ?_, (fun _ h => (by cases h))⟩
  rw [List.append_nil]
  exact List.forall_mem_cons.mpr ⟨⟨show (20 : Nat) < 100 from by decide, nf0⟩, List.forall_mem_cons.mpr ⟨⟨show (20 : Nat) < 100 from by decide, nf1⟩, List.forall_mem_cons.mpr ⟨⟨show (20 : Nat) < 100 from by decide, nf2⟩, (fun _ h => (by cases h))⟩⟩⟩
set_option maxHeartbeats 4000000 in
theorem vc_St_raise_at_gl_5_r0 (x1 : Int) (x2 : Int) (x4 : Int) (x5 : Int) (x6 : Int) (x8 : Int) (x11 : Int) (x12 : Int) (x14 : Int) (x15 : Int) (x17 : Int) (x18 : Int) (x19 : Int) (x20 : Int) (x21 : Int) (x22 : Int) (gain_0 : Int → Int) (place_0 : Int → Int) (from_0 : Int → Int) (to_0 : Int → Int) (room_0 : Int → Int) (arcs_0 : Int) (by_0 : Int → Int) (nodes_0 : Int) (k1 : 0 ≤ x1 ∧ x1 ≤ 288) (k2 : 0 ≤ x2 ∧ x2 ≤ 9999) (k4 : 0 ≤ x4 ∧ x4 ≤ 1) (k5 : 0 ≤ x5 ∧ x5 ≤ 383) (k6 : 1 ≤ x6 ∧ x6 ≤ 384) (k8 : 1 ≤ x8 ∧ x8 ≤ 2147483647) (k11 : 0 ≤ x11 ∧ x11 ≤ 71) (k12 : 0 ≤ x12 ∧ x12 ≤ 600000000) (k14 : (-1) ≤ x14 ∧ x14 ≤ 1) (k15 : (-1) ≤ x15 ∧ x15 ≤ 600000001) (k17 : 0 ≤ x17 ∧ x17 ≤ 71) (k18 : (-2147483648) ≤ x18 ∧ x18 ≤ 600000000) (k19 : 0 ≤ x19 ∧ x19 ≤ 71) (k20 : 0 ≤ x20 ∧ x20 ≤ 71) (k21 : (-2147483648) ≤ x21 ∧ x21 ≤ 2147483647) (k22 : (-20) ≤ x22 ∧ x22 ≤ 20) (d0 : x18 + 1 ≤ x15 ∧ x15 ≤ x18 + 4294967296) (d1 : x14 + 0 ≤ x15 ∧ x15 ≤ x14 + 600000000) (d2 : x12 + (-1) ≤ x15 ∧ x15 ≤ x12 + 1) (d3 : x6 + (-4294967296) ≤ x5 ∧ x5 ≤ x6 + (-1)) (d4 : x5 + (-4294967296) ≤ x4 ∧ x4 ≤ x5 + 0) (h0 : x22 = gain_0 (x5)) (h2 : x21 = place_0 (x20)) (h3 : x20 = from_0 (x5)) (h6 : x19 = to_0 (x5)) (f8 : x18 < x15) (h9 : x18 = place_0 (x17)) (h10 : x17 = to_0 (x5)) (f11 : x15 = x12 + x14) (h12 : x14 = gain_0 (x5)) (h13 : x12 = place_0 (x11)) (h14 : x11 = from_0 (x5)) (f15 : 0 < x8) (h16 : x8 = room_0 (x5)) (f18 : x5 < x6) (g19 : x6 = arcs_0) (f20 : RAI (nodes_0) (arcs_0) (from_0) (to_0) (room_0) (gain_0) (place_0) (by_0) (x1) (x5) (x4)) (f21 : PBW (nodes_0) (place_0) (x2) (x1) (x5)) (f22 : x5 ≤ arcs_0) (hK_0_2 : ∀ j : Int, 0 ≤ j → j < 384 → 0 ≤ from_0 j ∧ from_0 j ≤ 71) (hK_0_3 : ∀ j : Int, 0 ≤ j → j < 384 → 0 ≤ to_0 j ∧ to_0 j ≤ 71) (hK_0_4 : ∀ j : Int, 0 ≤ j → j < 384 → (-2147483648) ≤ room_0 j ∧ room_0 j ≤ 2147483647) (hK_0_5 : ∀ j : Int, 0 ≤ j → j < 384 → (-20) ≤ gain_0 j ∧ gain_0 j ≤ 20) (hK_0_6 : ∀ j : Int, 0 ≤ j → j < 72 → (-2147483648) ≤ place_0 j ∧ place_0 j ≤ 2147483647) (hK_0_7 : ∀ j : Int, 0 ≤ j → j < 72 → (-1) ≤ by_0 j ∧ by_0 j ≤ 383) (kz_0_0 : 0 ≤ nodes_0 ∧ nodes_0 ≤ 72) (kz_0_1 : 0 ≤ arcs_0 ∧ arcs_0 ≤ 384) : 0 ≤ x21 ∧ x21 ≤ 600000000 := by
  first | subst h0 | skip
  first | subst h2 | skip
  first | subst h3 | skip
  first | subst h6 | skip
  first | subst h9 | skip
  first | subst h10 | skip
  first | subst h12 | skip
  first | subst h13 | skip
  first | subst h14 | skip
  first | subst h16 | skip
  have r := (‹RAI _ _ _ _ _ _ _ _ _ _ _›).1.2.2.2.2
  have r0 := (‹RAI _ _ _ _ _ _ _ _ _ _ _›).2.2.1
  have r1 := r x5 (by omega) (by omega)
  have b := ‹PBW _ _ _ _ _› (from_0 x5) r1.1 r1.2.1
  have a := (‹RAI _ _ _ _ _ _ _ _ _ _ _›).1.2.2.2.1
  omega
set_option maxHeartbeats 4000000 in
theorem vc_St_raise_at_gl_5_r1 (x1 : Int) (x2 : Int) (x4 : Int) (x5 : Int) (x6 : Int) (x8 : Int) (x11 : Int) (x12 : Int) (x14 : Int) (x15 : Int) (x17 : Int) (x18 : Int) (x19 : Int) (x20 : Int) (x21 : Int) (x22 : Int) (gain_0 : Int → Int) (place_0 : Int → Int) (from_0 : Int → Int) (to_0 : Int → Int) (room_0 : Int → Int) (arcs_0 : Int) (by_0 : Int → Int) (nodes_0 : Int) (k1 : 0 ≤ x1 ∧ x1 ≤ 288) (k2 : 0 ≤ x2 ∧ x2 ≤ 9999) (k4 : 0 ≤ x4 ∧ x4 ≤ 1) (k5 : 0 ≤ x5 ∧ x5 ≤ 383) (k6 : 1 ≤ x6 ∧ x6 ≤ 384) (k8 : 1 ≤ x8 ∧ x8 ≤ 2147483647) (k11 : 0 ≤ x11 ∧ x11 ≤ 71) (k12 : 0 ≤ x12 ∧ x12 ≤ 600000000) (k14 : (-1) ≤ x14 ∧ x14 ≤ 1) (k15 : (-1) ≤ x15 ∧ x15 ≤ 600000001) (k17 : 0 ≤ x17 ∧ x17 ≤ 71) (k18 : (-2147483648) ≤ x18 ∧ x18 ≤ 600000000) (k19 : 0 ≤ x19 ∧ x19 ≤ 71) (k20 : 0 ≤ x20 ∧ x20 ≤ 71) (k21 : (-2147483648) ≤ x21 ∧ x21 ≤ 2147483647) (k22 : (-20) ≤ x22 ∧ x22 ≤ 20) (d0 : x18 + 1 ≤ x15 ∧ x15 ≤ x18 + 4294967296) (d1 : x14 + 0 ≤ x15 ∧ x15 ≤ x14 + 600000000) (d2 : x12 + (-1) ≤ x15 ∧ x15 ≤ x12 + 1) (d3 : x6 + (-4294967296) ≤ x5 ∧ x5 ≤ x6 + (-1)) (d4 : x5 + (-4294967296) ≤ x4 ∧ x4 ≤ x5 + 0) (h0 : x22 = gain_0 (x5)) (h2 : x21 = place_0 (x20)) (h3 : x20 = from_0 (x5)) (h6 : x19 = to_0 (x5)) (f8 : x18 < x15) (h9 : x18 = place_0 (x17)) (h10 : x17 = to_0 (x5)) (f11 : x15 = x12 + x14) (h12 : x14 = gain_0 (x5)) (h13 : x12 = place_0 (x11)) (h14 : x11 = from_0 (x5)) (f15 : 0 < x8) (h16 : x8 = room_0 (x5)) (f18 : x5 < x6) (g19 : x6 = arcs_0) (f20 : RAI (nodes_0) (arcs_0) (from_0) (to_0) (room_0) (gain_0) (place_0) (by_0) (x1) (x5) (x4)) (f21 : PBW (nodes_0) (place_0) (x2) (x1) (x5)) (f22 : x5 ≤ arcs_0) (hK_0_2 : ∀ j : Int, 0 ≤ j → j < 384 → 0 ≤ from_0 j ∧ from_0 j ≤ 71) (hK_0_3 : ∀ j : Int, 0 ≤ j → j < 384 → 0 ≤ to_0 j ∧ to_0 j ≤ 71) (hK_0_4 : ∀ j : Int, 0 ≤ j → j < 384 → (-2147483648) ≤ room_0 j ∧ room_0 j ≤ 2147483647) (hK_0_5 : ∀ j : Int, 0 ≤ j → j < 384 → (-20) ≤ gain_0 j ∧ gain_0 j ≤ 20) (hK_0_6 : ∀ j : Int, 0 ≤ j → j < 72 → (-2147483648) ≤ place_0 j ∧ place_0 j ≤ 2147483647) (hK_0_7 : ∀ j : Int, 0 ≤ j → j < 72 → (-1) ≤ by_0 j ∧ by_0 j ≤ 383) (kz_0_0 : 0 ≤ nodes_0 ∧ nodes_0 ≤ 72) (kz_0_1 : 0 ≤ arcs_0 ∧ arcs_0 ≤ 384) : (-1) ≤ x22 ∧ x22 ≤ 1 := by
  first | subst h0 | skip
  first | subst h2 | skip
  first | subst h3 | skip
  first | subst h6 | skip
  first | subst h9 | skip
  first | subst h10 | skip
  first | subst h12 | skip
  first | subst h13 | skip
  first | subst h14 | skip
  first | subst h16 | skip
  have r := (‹RAI _ _ _ _ _ _ _ _ _ _ _›).1.2.2.2.2
  have r0 := (‹RAI _ _ _ _ _ _ _ _ _ _ _›).2.2.1
  have r1 := r x5 (by omega) (by omega)
  have b := ‹PBW _ _ _ _ _› (from_0 x5) r1.1 r1.2.1
  have a := (‹RAI _ _ _ _ _ _ _ _ _ _ _›).1.2.2.2.1
  omega
def o_St_raise_at_gl_5 : or_T := (80, 23, [(0, (2, 0, 0, [10])), (1, (0, 0, 288, [])), (2, (0, 0, 9999, [])), (3, (2, 0, 0, [10])), (4, (0, 0, 1, [])), (5, (0, 0, 383, [])), (6, (0, 1, 384, [])), (7, (2, 0, 0, [120])), (8, (0, 1, 2147483647, [])), (9, (2, 0, 0, [122])), (10, (2, 0, 0, [118])), (11, (0, 0, 71, [])), (12, (0, 0, 600000000, [])), (13, (2, 0, 0, [121])), (14, (0, -1, 1, [])), (15, (0, -1, 600000001, [])), (16, (2, 0, 0, [119])), (17, (0, 0, 71, [])), (18, (0, -2147483648, 600000000, [])), (19, (0, 0, 71, [])), (20, (0, 0, 71, [])), (21, (0, -2147483648, 2147483647, [])), (22, (0, -20, 20, []))], [(10, [22, 13, 5], []), (9, [13, 3], [5]), (10, [21, 9, 20], []), (10, [20, 10, 5], []), (9, [10, 3], [2]), (9, [9, 3], [6]), (10, [19, 16, 5], []), (9, [16, 3], [3]), (7, [15, 18], [4]), (10, [18, 9, 17], []), (10, [17, 16, 5], []), (1, [15, 12, 14], []), (10, [14, 13, 5], []), (10, [12, 9, 11], []), (10, [11, 10, 5], []), (8, [8], [4]), (10, [8, 7, 5], []), (9, [7, 3], [4]), (7, [5, 6], [2]), (9, [6, 3], [1]), (20, [3, 1, 5, 4], [60, 2, 6, 517, 0, 1, 2, 3, 4, 5, 6, 7]), (20, [3, 2, 1, 5], [60, 1, 1, 519, 0, 6]), (20, [5, 3], [50, 1, 0, 1001, 0, 2, 1, 0, 2, 1, 1]), (24, [0, 3], [])], [(21, (0, 0, 600000000, [])), (22, (0, -1, 1, []))], [], [], [], [(15, 18, 1, 4294967296), (15, 14, 0, 600000000), (15, 12, -1, 1), (5, 6, -4294967296, -1), (4, 5, -4294967296, 0)])
theorem oo_St_raise_at_gl_5 {kA : Nat → ClassId} : or_ok PRD kA GG o_St_raise_at_gl_5 := by
  refine or_mk fun A ta ws vs hD hth hl => ?_
  intro t0 r0 t1 k1 t2 k2 t3 r3 t4 k4 t5 k5 t6 k6 t7 r7 t8 k8 t9 r9 t10 r10 t11 k11 t12 k12 t13 r13 t14 k14 t15 k15 t16 r16 t17 k17 t18 k18 t19 k19 t20 k20 t21 k21 t22 k22 d0 d1 d2 d3 d4 f0 f1 f2 f3 f4 f5 f6 f7 f8 f9 f10 f11 f12 f13 f14 f15 f16 f17 f18 f19 f20 f21 f22 f23
  replace f0 := shm_106 f0
  replace f1 := shm_109 f1
  replace f2 := shm_106 f2
  replace f3 := shm_106 f3
  replace f4 := shm_129 f4
  replace f5 := shm_110 f5
  replace f6 := shm_106 f6
  replace f7 := shm_149 f7
  replace f9 := shm_106 f9
  replace f10 := shm_106 f10
  replace f12 := shm_106 f12
  replace f13 := shm_106 f13
  replace f14 := shm_106 f14
  replace f16 := shm_106 f16
  replace f17 := shm_107 f17
  replace f19 := shm_127 f19
  replace f20 := shm_475 f20
  replace f21 := shm_476 f21
  replace f22 := shm_477 f22
  replace f23 := shm_5 f23
  have q3 : n_v vs 3 = n_v vs 0 := f23.symm
  simp only [q3] at f1 f4 f5 f7 f17 f19 f20 f21 f22
  have cr_0_2 := fdq_107 hD hth r0
  have cr_0_3 := fdq_108 hD hth r0
  have cr_0_4 := fdq_109 hD hth r0
  have cr_0_5 := fdq_110 hD hth r0
  have cr_0_6 := fdq_114 hD hth r0
  have cr_0_7 := fdq_115 hD hth r0
  have ad_13 : v_ad (n_v vs 13) = w_ar ws (n_v vs 0) 5 := congrArg v_ad f1
  have ad_10 : v_ad (n_v vs 10) = w_ar ws (n_v vs 0) 2 := congrArg v_ad f4
  have ad_9 : v_ad (n_v vs 9) = w_ar ws (n_v vs 0) 6 := congrArg v_ad f5
  have ad_16 : v_ad (n_v vs 16) = w_ar ws (n_v vs 0) 3 := congrArg v_ad f7
  have ad_7 : v_ad (n_v vs 7) = w_ar ws (n_v vs 0) 4 := congrArg v_ad f17
  simp only [ad_13] at f0
  have h0 : v_iv (n_v vs 22) = w_ei ws (w_ar ws (n_v vs 0) 5) (v_iv (n_v vs 5)) := f0
  simp only [ad_9] at f2
  have h2 : v_iv (n_v vs 21) = w_ei ws (w_ar ws (n_v vs 0) 6) (v_iv (n_v vs 20)) := f2
  simp only [ad_10] at f3
  have h3 : v_iv (n_v vs 20) = w_ei ws (w_ar ws (n_v vs 0) 2) (v_iv (n_v vs 5)) := f3
  simp only [ad_16] at f6
  have h6 : v_iv (n_v vs 19) = w_ei ws (w_ar ws (n_v vs 0) 3) (v_iv (n_v vs 5)) := f6
  simp only [ad_9] at f9
  have h9 : v_iv (n_v vs 18) = w_ei ws (w_ar ws (n_v vs 0) 6) (v_iv (n_v vs 17)) := f9
  simp only [ad_16] at f10
  have h10 : v_iv (n_v vs 17) = w_ei ws (w_ar ws (n_v vs 0) 3) (v_iv (n_v vs 5)) := f10
  simp only [ad_13] at f12
  have h12 : v_iv (n_v vs 14) = w_ei ws (w_ar ws (n_v vs 0) 5) (v_iv (n_v vs 5)) := f12
  simp only [ad_9] at f13
  have h13 : v_iv (n_v vs 12) = w_ei ws (w_ar ws (n_v vs 0) 6) (v_iv (n_v vs 11)) := f13
  simp only [ad_10] at f14
  have h14 : v_iv (n_v vs 11) = w_ei ws (w_ar ws (n_v vs 0) 2) (v_iv (n_v vs 5)) := f14
  simp only [ad_7] at f16
  have h16 : v_iv (n_v vs 8) = w_ei ws (w_ar ws (n_v vs 0) 4) (v_iv (n_v vs 5)) := f16
  have g19 : v_iv (n_v vs 6) = w_fi ws (n_v vs 0) 1 := congrArg v_iv f19
  have hK_0_2 := elq_50 hD hth cr_0_2
  have hK_0_3 := elq_51 hD hth cr_0_3
  have hK_0_4 := elq_52 hD hth cr_0_4
  have hK_0_5 := elq_53 hD hth cr_0_5
  have hK_0_6 := elq_55 hD hth cr_0_6
  have hK_0_7 := elq_56 hD hth cr_0_7
  have kz_0_0 := fdq_113 hD hth r0
  have kz_0_1 := fdq_112 hD hth r0
  have hrf0 : 0 ≤ v_iv (n_v vs 21) ∧ v_iv (n_v vs 21) ≤ 600000000 := vc_St_raise_at_gl_5_r0 (v_iv (n_v vs 1)) (v_iv (n_v vs 2)) (v_iv (n_v vs 4)) (v_iv (n_v vs 5)) (v_iv (n_v vs 6)) (v_iv (n_v vs 8)) (v_iv (n_v vs 11)) (v_iv (n_v vs 12)) (v_iv (n_v vs 14)) (v_iv (n_v vs 15)) (v_iv (n_v vs 17)) (v_iv (n_v vs 18)) (v_iv (n_v vs 19)) (v_iv (n_v vs 20)) (v_iv (n_v vs 21)) (v_iv (n_v vs 22)) (w_ei ws (w_ar ws (n_v vs 0) 5)) (w_ei ws (w_ar ws (n_v vs 0) 6)) (w_ei ws (w_ar ws (n_v vs 0) 2)) (w_ei ws (w_ar ws (n_v vs 0) 3)) (w_ei ws (w_ar ws (n_v vs 0) 4)) (w_fi ws (n_v vs 0) 1) (w_ei ws (w_ar ws (n_v vs 0) 7)) (w_fi ws (n_v vs 0) 0) k1 k2 k4 k5 k6 k8 k11 k12 k14 k15 k17 k18 k19 k20 k21 k22 d0 d1 d2 d3 d4 h0 h2 h3 h6 (shm_21 f8) h9 h10 (shm_12 f11) h12 h13 h14 (shm_145 f15) h16 (shm_6 f18) g19 f20 f21 f22 hK_0_2 hK_0_3 hK_0_4 hK_0_5 hK_0_6 hK_0_7 kz_0_0 kz_0_1
  have hrf1 : (-1) ≤ v_iv (n_v vs 22) ∧ v_iv (n_v vs 22) ≤ 1 := vc_St_raise_at_gl_5_r1 (v_iv (n_v vs 1)) (v_iv (n_v vs 2)) (v_iv (n_v vs 4)) (v_iv (n_v vs 5)) (v_iv (n_v vs 6)) (v_iv (n_v vs 8)) (v_iv (n_v vs 11)) (v_iv (n_v vs 12)) (v_iv (n_v vs 14)) (v_iv (n_v vs 15)) (v_iv (n_v vs 17)) (v_iv (n_v vs 18)) (v_iv (n_v vs 19)) (v_iv (n_v vs 20)) (v_iv (n_v vs 21)) (v_iv (n_v vs 22)) (w_ei ws (w_ar ws (n_v vs 0) 5)) (w_ei ws (w_ar ws (n_v vs 0) 6)) (w_ei ws (w_ar ws (n_v vs 0) 2)) (w_ei ws (w_ar ws (n_v vs 0) 3)) (w_ei ws (w_ar ws (n_v vs 0) 4)) (w_fi ws (n_v vs 0) 1) (w_ei ws (w_ar ws (n_v vs 0) 7)) (w_fi ws (n_v vs 0) 0) k1 k2 k4 k5 k6 k8 k11 k12 k14 k15 k17 k18 k19 k20 k21 k22 d0 d1 d2 d3 d4 h0 h2 h3 h6 (shm_21 f8) h9 h10 (shm_12 f11) h12 h13 h14 (shm_145 f15) h16 (shm_6 f18) g19 f20 f21 f22 hK_0_2 hK_0_3 hK_0_4 hK_0_5 hK_0_6 hK_0_7 kz_0_0 kz_0_1
  have rf21 : tv_ok ta (0, 0, 600000000, []) (n_v vs 21) := tv_in t21 (by first | omega | grind) (by first | omega | grind)
  have rf22 : tv_ok ta (0, -1, 1, []) (n_v vs 22) := tv_in t22 (by first | omega | grind) (by first | omega | grind)
  refine ⟨List.forall_mem_cons.mpr ⟨rf21, List.forall_mem_cons.mpr ⟨rf22, (fun _ h => (by cases h))⟩⟩, [], trivial, ?_, (fun _ h => (by cases h))⟩
  rw [List.append_nil]
  exact (fun _ h => (by cases h))
