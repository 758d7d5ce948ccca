
set_option maxHeartbeats 4000000 in
theorem vc_Mo_nextOrder_at_gx_3_0 (x1 : Int) (x2 : Int) (x4 : Int) (x5 : Int) (x7 : Int) (x8 : Int) (x9 : Int) (x10 : Int) (x11 : Int) (order_0 : Int → Int) (k1 : 2 ≤ x1 ∧ x1 ≤ 8) (k2 : (-2) ≤ x2 ∧ x2 ≤ 16777216) (k4 : 2 ≤ x4 ∧ x4 ≤ 8) (k5 : 0 ≤ x5 ∧ x5 ≤ 6) (k7 : 1 ≤ x7 ∧ x7 ≤ 25) (k8 : 1 ≤ x8 ∧ x8 ≤ 1) (k9 : 1 ≤ x9 ∧ x9 ≤ 7) (k10 : 0 ≤ x10 ∧ x10 ≤ 24) (k11 : (-1) ≤ x11 ∧ x11 ≤ 5) (d0 : x5 + (-1) ≤ x11 ∧ x11 ≤ x5 + (-1)) (d1 : x1 + (-4294967296) ≤ x11 ∧ x11 ≤ x1 + (-3)) (d2 : x4 + (-4294967296) ≤ x11 ∧ x11 ≤ x4 + (-3)) (d3 : x10 + 1 ≤ x7 ∧ x7 ≤ x10 + 4294967296) (d4 : x5 + 1 ≤ x9 ∧ x9 ≤ x5 + 1) (d5 : x1 + (-4294967296) ≤ x9 ∧ x9 ≤ x1 + (-1)) (d6 : x4 + (-4294967296) ≤ x9 ∧ x9 ≤ x4 + (-1)) (d7 : x4 + (-4294967296) ≤ x1 ∧ x1 ≤ x4 + 0) (d8 : x1 + (-4294967296) ≤ x4 ∧ x4 ≤ x1 + 0) (d9 : x1 + (-4294967296) ≤ x5 ∧ x5 ≤ x1 + (-2)) (d10 : x4 + (-4294967296) ≤ x5 ∧ x5 ≤ x4 + (-2)) (f0 : x11 = x5 + (-1)) (f1 : x10 < x7) (h2 : x10 = order_0 (x9)) (f3 : x9 = x5 + x8) (h5 : x7 = order_0 (x5)) (f6 : 0 ≤ x5) (f7 : x1 ≤ 8) (f8 : NO1 (order_0) (x1) (x5)) (f9 : ORM (order_0) (x1) (x2)) (hK_0_96 : ∀ j : Int, 0 ≤ j → j < 26 → 0 ≤ order_0 j ∧ order_0 j ≤ 25) : NO1 (order_0) (x1) (x11) := by
  first
    | exact ⟨‹DIS _ _›, by omega⟩
    | (have h := ‹NO1 _ _ _›
       exact ⟨h.1, by have := h.2; omega⟩)
def o_Mo_nextOrder_at_gx_3 : or_T := (4, 12, [(0, (2, 0, 0, [165])), (1, (0, 2, 8, [])), (2, (0, -2, 16777216, [])), (4, (0, 2, 8, [])), (5, (0, 0, 6, [])), (7, (0, 1, 25, [])), (8, (0, 1, 1, [])), (9, (0, 1, 7, [])), (10, (0, 0, 24, [])), (11, (0, -1, 5, []))], [(6, [11, 5], [-1]), (7, [7, 10], [4]), (10, [10, 6, 9], []), (1, [9, 5, 8], []), (9, [6, 3], [96]), (10, [7, 6, 5], []), (8, [5], [3]), (20, [4], [50, 0, 0, 0, 2, 1, 0, 0, 8]), (20, [3, 4, 5], [60, 0, 1, 325, 96]), (20, [3, 4, 2], [60, 0, 1, 323, 96]), (24, [0, 3], []), (24, [1, 4], [])], [], [], [(20, [3, 4, 11], [60, 0, 1, 325, 96])], [], [(11, 5, -1, -1), (11, 1, -4294967296, -3), (11, 4, -4294967296, -3), (7, 10, 1, 4294967296), (9, 5, 1, 1), (9, 1, -4294967296, -1), (9, 4, -4294967296, -1), (1, 4, -4294967296, 0), (4, 1, -4294967296, 0), (5, 1, -4294967296, -2), (5, 4, -4294967296, -2)])
theorem oo_Mo_nextOrder_at_gx_3 {kA : Nat → ClassId} : or_ok PRD kA GG o_Mo_nextOrder_at_gx_3 := by
  refine or_mk fun A ta ws vs hD hth hl => ?_
  intro t0 r0 t1 k1 t2 k2 t4 k4 t5 k5 t7 k7 t8 k8 t9 k9 t10 k10 t11 k11 d0 d1 d2 d3 d4 d5 d6 d7 d8 d9 d10 f0 f1 f2 f3 f4 f5 f6 f7 f8 f9 f10 f11
  replace f0 := shm_186 f0
  replace f1 := shm_21 f1
  replace f2 := shm_107 f2
  replace f3 := shm_12 f3
  replace f4 := shm_666 f4
  replace f5 := shm_107 f5
  replace f6 := shm_32 f6
  replace f7 := shm_660 f7
  replace f8 := shm_664 f8
  replace f9 := shm_662 f9
  replace f10 := shm_5 f10
  replace f11 := shm_5 f11
  have q3 : n_v vs 3 = n_v vs 0 := f10.symm
  have q4 : n_v vs 4 = n_v vs 1 := f11.symm
  simp only [q3, q4] at f4 f7 f8 f9
  have cr_0_96 := fdq_166 hD hth r0
  have ad_6 : v_ad (n_v vs 6) = w_ar ws (n_v vs 0) 96 := congrArg v_ad f4
  simp only [ad_6] at f2
  have h2 : v_iv (n_v vs 10) = w_ei ws (w_ar ws (n_v vs 0) 96) (v_iv (n_v vs 9)) := f2
  simp only [ad_6] at f5
  have h5 : v_iv (n_v vs 7) = w_ei ws (w_ar ws (n_v vs 0) 96) (v_iv (n_v vs 5)) := f5
  have hK_0_96 := elq_96 hD hth cr_0_96
  have nf0 : fc_1 PRD (20, [3, 4, 11], [60, 0, 1, 325, 96]) ws (vs) := by
    refine ⟨nf_in hl rfl, sgq_664 ?_⟩
    · show NO1 (w_ei ws (w_ar ws (n_v vs 3) 96)) (v_iv (n_v vs 4)) (v_iv (n_v vs 11))
      simp only [q3, q4]
      exact vc_Mo_nextOrder_at_gx_3_0 (v_iv (n_v vs 1)) (v_iv (n_v vs 2)) (v_iv (n_v vs 4)) (v_iv (n_v vs 5)) (v_iv (n_v vs 7)) (v_iv (n_v vs 8)) (v_iv (n_v vs 9)) (v_iv (n_v vs 10)) (v_iv (n_v vs 11)) (w_ei ws (w_ar ws (n_v vs 0) 96)) k1 k2 k4 k5 k7 k8 k9 k10 k11 d0 d1 d2 d3 d4 d5 d6 d7 d8 d9 d10 f0 f1 h2 f3 h5 f6 f7 f8 f9 hK_0_96
  refine ⟨(fun _ h => (by cases h)), [], trivial, ?_, (fun _ h => (by cases h))⟩
  rw [List.append_nil]
  exact List.forall_mem_cons.mpr ⟨⟨show (20 : Nat) < 100 from by decide, nf0⟩, (fun _ h => (by cases h))⟩
set_option maxHeartbeats 4000000 in
theorem vc_Mo_nextOrder_at_gx_4_0 (x1 : Int) (x2 : Int) (x4 : Int) (x5 : Int) (x6 : Int) (x8 : Int) (x9 : Int) (x10 : Int) (x11 : Int) (x12 : Int) (x13 : Int) (x14 : Int) (x15 : Int) (order_2 : Int → Int) (order_0 : Int → Int) (order_1 : Int → Int) (k1 : 0 ≤ x1 ∧ x1 ≤ 8) (k2 : (-2) ≤ x2 ∧ x2 ≤ 16777216) (k4 : 2 ≤ x4 ∧ x4 ≤ 8) (k5 : 0 ≤ x5 ∧ x5 ≤ 6) (k6 : 0 ≤ x6 ∧ x6 ≤ 7) (k8 : 0 ≤ x8 ∧ x8 ≤ 25) (k9 : 0 ≤ x9 ∧ x9 ≤ 25) (k10 : 0 ≤ x10 ∧ x10 ≤ 25) (k11 : 0 ≤ x11 ∧ x11 ≤ 25) (k12 : 1 ≤ x12 ∧ x12 ≤ 1) (k13 : 1 ≤ x13 ∧ x13 ≤ 7) (k14 : 1 ≤ x14 ∧ x14 ≤ 1) (k15 : 1 ≤ x15 ∧ x15 ≤ 7) (d0 : x4 + (-1) ≤ x15 ∧ x15 ≤ x4 + (-1)) (d1 : x1 + (-4294967296) ≤ x15 ∧ x15 ≤ x1 + (-1)) (d2 : x5 + 1 ≤ x13 ∧ x13 ≤ x5 + 1) (d3 : x1 + (-4294967296) ≤ x13 ∧ x13 ≤ x1 + (-1)) (d4 : x4 + (-4294967296) ≤ x13 ∧ x13 ≤ x4 + (-1)) (d5 : x9 + 0 ≤ x8 ∧ x8 ≤ x9 + 4294967296) (d6 : x4 + (-4294967296) ≤ x1 ∧ x1 ≤ x4 + 0) (d7 : x1 + (-4294967296) ≤ x4 ∧ x4 ≤ x1 + 0) (d8 : x1 + (-4294967296) ≤ x5 ∧ x5 ≤ x1 + (-2)) (d9 : x4 + (-4294967296) ≤ x5 ∧ x5 ≤ x4 + (-2)) (d10 : x1 + (-4294967296) ≤ x6 ∧ x6 ≤ x1 + (-1)) (d11 : x4 + (-4294967296) ≤ x6 ∧ x6 ≤ x4 + (-1)) (f0 : x15 = x1 - x14) (f1 : x13 = x5 + x12) (f2 : x1 ≤ 8) (f7 : x1 ≤ 8) (h9 : x11 = order_2 (x6)) (h10 : x10 = order_2 (x5)) (f11 : x9 ≤ x8) (h12 : x9 = order_2 (x5)) (h13 : x8 = order_2 (x6)) (f14 : x1 ≤ 8) (f15 : NO2 (order_2) (x1) (x5) (x6)) (f16 : ORM (order_2) (x1) (x2)) (hE_0_96_1 : ∀ j : Int, 0 ≤ j → (j = x6 → order_0 j = x10) ∧ (j ≠ x6 → order_0 j = order_1 j)) (hE_0_96_2 : ∀ j : Int, 0 ≤ j → (j = x5 → order_1 j = x11) ∧ (j ≠ x5 → order_1 j = order_2 j)) (hK_0_96 : ∀ j : Int, 0 ≤ j → j < 26 → 0 ≤ order_0 j ∧ order_0 j ≤ 25) : NO3 (order_0) (x1) (x5) (x13) (x15) (x2) := by
  first
    | (have h := ‹NO2 _ _ _ _›
       have h2 := h.2.1
       have h4 := h.2.2.2
       exact no3_start h (by omega) (swp_st (by omega) (by omega) (by omega) (by assumption) (by omega) (by omega) (by assumption) (by omega) (by omega)) (by omega) (by omega) ‹ORM _ _ _›)
    | (have h := ‹NO3 _ _ _ _ _ _›
       have h2 := h.2.1
       have h3 := h.2.2.1
       have h4 := h.2.2.2.1
       exact no3_step h (by omega) (swp_st (by omega) (by omega) (by omega) (by assumption) (by omega) (by omega) (by assumption) (by omega) (by omega)) (by omega) (by omega))
def o_Mo_nextOrder_at_gx_4 : or_T := (100, 16, [(0, (2, 0, 0, [165])), (1, (0, 0, 8, [])), (2, (0, -2, 16777216, [])), (4, (0, 2, 8, [])), (5, (0, 0, 6, [])), (6, (0, 0, 7, [])), (8, (0, 0, 25, [])), (9, (0, 0, 25, [])), (10, (0, 0, 25, [])), (11, (0, 0, 25, [])), (12, (0, 1, 1, [])), (13, (0, 1, 7, [])), (14, (0, 1, 1, [])), (15, (0, 1, 7, []))], [(2, [15, 4, 14], []), (1, [13, 5, 12], []), (20, [4], [50, 0, 0, 0, 2, 1, 0, 0, 8]), (24, [0, 3], []), (24, [1, 4], []), (100, [7, 6, 10], []), (9, [7, 3], [96]), (20, [4], [50, 0, 0, 0, 2, 1, 0, 0, 8]), (100, [7, 5, 11], []), (10, [11, 7, 6], []), (10, [10, 7, 5], []), (7, [8, 9], [3]), (10, [9, 7, 5], []), (10, [8, 7, 6], []), (20, [4], [50, 0, 0, 0, 2, 1, 0, 0, 8]), (20, [3, 4, 5, 6], [60, 0, 1, 326, 96]), (20, [3, 4, 2], [60, 0, 1, 323, 96])], [], [], [(20, [3, 4, 5, 13, 15, 2], [60, 0, 1, 327, 96])], [], [(15, 4, -1, -1), (15, 1, -4294967296, -1), (13, 5, 1, 1), (13, 1, -4294967296, -1), (13, 4, -4294967296, -1), (8, 9, 0, 4294967296), (1, 4, -4294967296, 0), (4, 1, -4294967296, 0), (5, 1, -4294967296, -2), (5, 4, -4294967296, -2), (6, 1, -4294967296, -1), (6, 4, -4294967296, -1)])
theorem oo_Mo_nextOrder_at_gx_4 {kA : Nat → ClassId} : or_ok PRD kA GG o_Mo_nextOrder_at_gx_4 := by
  refine or_mk fun A ta ws vs hD hth hl => ?_
  intro t0 r0 t1 k1 t2 k2 t4 k4 t5 k5 t6 k6 t8 k8 t9 k9 t10 k10 t11 k11 t12 k12 t13 k13 t14 k14 t15 k15 d0 d1 d2 d3 d4 d5 d6 d7 d8 d9 d10 d11 f0 f1 f2 f3 f4 ta1 w1 le1 s1 f6 f7 ta2 w2 le2 s2 f9 f10 f11 f12 f13 f14 f15 f16
  replace f0 := shm_14 f0
  replace f1 := shm_12 f1
  replace f2 := shm_660 f2
  replace f3 := shm_5 f3
  replace f4 := shm_5 f4
  have s1 : (∀ b j, w_el ws b j = if b = v_ad (n_v vs 7) ∧ j = (v_iv (n_v vs 6)).toNat then v_iv (n_v vs 10) else w_el w1 b j) ∧ ∀ b k, w_fd ws b k = w_fd w1 b k := s1.2
  replace f6 := shm_666 f6
  replace f7 := shm_660 f7
  have s2 : (∀ b j, w_el w1 b j = if b = v_ad (n_v vs 7) ∧ j = (v_iv (n_v vs 5)).toNat then v_iv (n_v vs 11) else w_el w2 b j) ∧ ∀ b k, w_fd w1 b k = w_fd w2 b k := s2.2
  replace f9 := shm_107 f9
  replace f10 := shm_107 f10
  replace f11 := shm_2 f11
  replace f12 := shm_107 f12
  replace f13 := shm_107 f13
  replace f14 := shm_660 f14
  replace f15 := shm_667 f15
  replace f16 := shm_662 f16
  have q3 : n_v vs 3 = n_v vs 0 := f3.symm
  have q4 : n_v vs 4 = n_v vs 1 := f4.symm
  simp only [q4, q3] at f0 f2 f6 f7 f14 f15 f16
  have ar_0_96_1 : w_ar w1 (n_v vs 0) 96 = w_ar ws (n_v vs 0) 96 := congrArg v_ad (s1.2 _ _).symm
  have ar_0_96_2 : w_ar w2 (n_v vs 0) 96 = w_ar ws (n_v vs 0) 96 := by rw [← ar_0_96_1]; show v_ad (w_fd w2 _ _) = v_ad (w_fd w1 _ _); rw [s2.2]
  have cr_0_96 := fdq_166 hD hth r0
  have ad_7 : v_ad (n_v vs 7) = w_ar ws (n_v vs 0) 96 := (congrArg v_ad f6).trans ar_0_96_1
  simp only [ad_7] at f9
  have h9 : v_iv (n_v vs 11) = w_ei w2 (w_ar ws (n_v vs 0) 96) (v_iv (n_v vs 6)) := f9
  simp only [ad_7] at f10
  have h10 : v_iv (n_v vs 10) = w_ei w2 (w_ar ws (n_v vs 0) 96) (v_iv (n_v vs 5)) := f10
  simp only [ad_7] at f12
  have h12 : v_iv (n_v vs 9) = w_ei w2 (w_ar ws (n_v vs 0) 96) (v_iv (n_v vs 5)) := f12
  simp only [ad_7] at f13
  have h13 : v_iv (n_v vs 8) = w_ei w2 (w_ar ws (n_v vs 0) 96) (v_iv (n_v vs 6)) := f13
  simp only [ar_0_96_2] at f15 f16
  have hE_0_96_1 : ∀ j : Int, 0 ≤ j → (j = v_iv (n_v vs 6) → w_ei ws (w_ar ws (n_v vs 0) 96) j = v_iv (n_v vs 10)) ∧ (j ≠ v_iv (n_v vs 6) → w_ei ws (w_ar ws (n_v vs 0) 96) j = w_ei w1 (w_ar ws (n_v vs 0) 96) j) := fun j hj => ⟨fun h => by unfold w_ei; rw [s1.1, if_pos ⟨ad_7.symm, by rw [h]⟩], fun h => by unfold w_ei; rw [s1.1, if_neg (fun e => h (by have := e.2; omega))]⟩
  have hE_0_96_2 : ∀ j : Int, 0 ≤ j → (j = v_iv (n_v vs 5) → w_ei w1 (w_ar ws (n_v vs 0) 96) j = v_iv (n_v vs 11)) ∧ (j ≠ v_iv (n_v vs 5) → w_ei w1 (w_ar ws (n_v vs 0) 96) j = w_ei w2 (w_ar ws (n_v vs 0) 96) j) := fun j hj => ⟨fun h => by unfold w_ei; rw [s2.1, if_pos ⟨ad_7.symm, by rw [h]⟩], fun h => by unfold w_ei; rw [s2.1, if_neg (fun e => h (by have := e.2; omega))]⟩
  have hK_0_96 := elq_96 hD hth cr_0_96
  have nf0 : fc_1 PRD (20, [3, 4, 5, 13, 15, 2], [60, 0, 1, 327, 96]) ws (vs) := by
    refine ⟨nf_in hl rfl, sgq_668 ?_⟩
    · show NO3 (w_ei ws (w_ar ws (n_v vs 3) 96)) (v_iv (n_v vs 4)) (v_iv (n_v vs 5)) (v_iv (n_v vs 13)) (v_iv (n_v vs 15)) (v_iv (n_v vs 2))
      simp only [q3, q4]
      exact vc_Mo_nextOrder_at_gx_4_0 (v_iv (n_v vs 1)) (v_iv (n_v vs 2)) (v_iv (n_v vs 4)) (v_iv (n_v vs 5)) (v_iv (n_v vs 6)) (v_iv (n_v vs 8)) (v_iv (n_v vs 9)) (v_iv (n_v vs 10)) (v_iv (n_v vs 11)) (v_iv (n_v vs 12)) (v_iv (n_v vs 13)) (v_iv (n_v vs 14)) (v_iv (n_v vs 15)) (w_ei w2 (w_ar ws (n_v vs 0) 96)) (w_ei ws (w_ar ws (n_v vs 0) 96)) (w_ei w1 (w_ar ws (n_v vs 0) 96)) k1 k2 k4 k5 k6 k8 k9 k10 k11 k12 k13 k14 k15 d0 d1 d2 d3 d4 d5 d6 d7 d8 d9 d10 d11 f0 f1 f2 f7 h9 h10 f11 h12 h13 f14 f15 f16 hE_0_96_1 hE_0_96_2 hK_0_96
  refine ⟨(fun _ h => (by cases h)), [], trivial, ?_, (fun _ h => (by cases h))⟩
  rw [List.append_nil]
  exact List.forall_mem_cons.mpr ⟨⟨show (20 : Nat) < 100 from by decide, nf0⟩, (fun _ h => (by cases h))⟩
set_option maxHeartbeats 4000000 in
theorem vc_Mo_nextOrder_at_gx_5_r0 (x1 : Int) (x2 : Int) (x4 : Int) (x5 : Int) (x6 : Int) (x8 : Int) (x9 : Int) (order_0 : Int → Int) (k1 : 0 ≤ x1 ∧ x1 ≤ 8) (k2 : (-2) ≤ x2 ∧ x2 ≤ 16777216) (k4 : 2 ≤ x4 ∧ x4 ≤ 8) (k5 : 0 ≤ x5 ∧ x5 ≤ 6) (k6 : 0 ≤ x6 ∧ x6 ≤ 7) (k8 : 0 ≤ x8 ∧ x8 ≤ 24) (k9 : 1 ≤ x9 ∧ x9 ≤ 25) (d0 : x9 + (-4294967296) ≤ x8 ∧ x8 ≤ x9 + (-1)) (d1 : x4 + (-4294967296) ≤ x1 ∧ x1 ≤ x4 + 0) (d2 : x1 + (-4294967296) ≤ x4 ∧ x4 ≤ x1 + 0) (d3 : x1 + (-4294967296) ≤ x5 ∧ x5 ≤ x1 + (-2)) (d4 : x4 + (-4294967296) ≤ x5 ∧ x5 ≤ x4 + (-2)) (d5 : x1 + (-4294967296) ≤ x6 ∧ x6 ≤ x1 + (-1)) (d6 : x4 + (-4294967296) ≤ x6 ∧ x6 ≤ x4 + (-1)) (f0 : x8 < x9) (h1 : x9 = order_0 (x5)) (h3 : x8 = order_0 (x6)) (f4 : x1 ≤ 8) (f5 : NO2 (order_0) (x1) (x5) (x6)) (f6 : ORM (order_0) (x1) (x2)) (hK_0_96 : ∀ j : Int, 0 ≤ j → j < 26 → 0 ≤ order_0 j ∧ order_0 j ≤ 25) : 1 ≤ x6 ∧ x6 ≤ 7 := by
  first
    | omega
    | (have h := ‹NO1 _ _ _›.2; omega)
    | (have h := ‹NO2 _ _ _ _›.2; omega)
    | (have h := ‹NO3 _ _ _ _ _ _›.2; omega)
def o_Mo_nextOrder_at_gx_5 : or_T := (56, 10, [(0, (2, 0, 0, [165])), (1, (0, 0, 8, [])), (2, (0, -2, 16777216, [])), (3, (2, 0, 0, [165])), (4, (0, 2, 8, [])), (5, (0, 0, 6, [])), (6, (0, 0, 7, [])), (7, (2, 0, 0, [232])), (8, (0, 0, 24, [])), (9, (0, 1, 25, []))], [(7, [8, 9], [2]), (10, [9, 7, 5], []), (9, [7, 3], [96]), (10, [8, 7, 6], []), (20, [4], [50, 0, 0, 0, 2, 1, 0, 0, 8]), (20, [3, 4, 5, 6], [60, 0, 1, 326, 96]), (20, [3, 4, 2], [60, 0, 1, 323, 96]), (24, [0, 3], []), (24, [1, 4], [])], [(6, (0, 1, 7, []))], [], [], [], [(8, 9, -4294967296, -1), (1, 4, -4294967296, 0), (4, 1, -4294967296, 0), (5, 1, -4294967296, -2), (5, 4, -4294967296, -2), (6, 1, -4294967296, -1), (6, 4, -4294967296, -1)])
theorem oo_Mo_nextOrder_at_gx_5 {kA : Nat → ClassId} : or_ok PRD kA GG o_Mo_nextOrder_at_gx_5 := by
  refine or_mk fun A ta ws vs hD hth hl => ?_
  intro t0 r0 t1 k1 t2 k2 t3 r3 t4 k4 t5 k5 t6 k6 t7 r7 t8 k8 t9 k9 d0 d1 d2 d3 d4 d5 d6 f0 f1 f2 f3 f4 f5 f6 f7 f8
  replace f1 := shm_107 f1
  replace f2 := shm_666 f2
  replace f3 := shm_107 f3
  replace f4 := shm_660 f4
  replace f5 := shm_667 f5
  replace f6 := shm_662 f6
  replace f7 := shm_5 f7
  replace f8 := shm_5 f8
  have q3 : n_v vs 3 = n_v vs 0 := f7.symm
  have q4 : n_v vs 4 = n_v vs 1 := f8.symm
  simp only [q3, q4] at f2 f4 f5 f6
  have cr_0_96 := fdq_166 hD hth r0
  have ad_7 : v_ad (n_v vs 7) = w_ar ws (n_v vs 0) 96 := congrArg v_ad f2
  simp only [ad_7] at f1
  have h1 : v_iv (n_v vs 9) = w_ei ws (w_ar ws (n_v vs 0) 96) (v_iv (n_v vs 5)) := f1
  simp only [ad_7] at f3
  have h3 : v_iv (n_v vs 8) = w_ei ws (w_ar ws (n_v vs 0) 96) (v_iv (n_v vs 6)) := f3
  have hK_0_96 := elq_96 hD hth cr_0_96
  have hrf0 : 1 ≤ v_iv (n_v vs 6) ∧ v_iv (n_v vs 6) ≤ 7 := vc_Mo_nextOrder_at_gx_5_r0 (v_iv (n_v vs 1)) (v_iv (n_v vs 2)) (v_iv (n_v vs 4)) (v_iv (n_v vs 5)) (v_iv (n_v vs 6)) (v_iv (n_v vs 8)) (v_iv (n_v vs 9)) (w_ei ws (w_ar ws (n_v vs 0) 96)) k1 k2 k4 k5 k6 k8 k9 d0 d1 d2 d3 d4 d5 d6 (shm_6 f0) h1 h3 f4 f5 f6 hK_0_96
  have rf6 : tv_ok ta (0, 1, 7, []) (n_v vs 6) := tv_in t6 (by first | omega | grind) (by first | omega | grind)
  refine ⟨List.forall_mem_cons.mpr ⟨rf6, (fun _ h => (by cases h))⟩, [], trivial, ?_, (fun _ h => (by cases h))⟩
  rw [List.append_nil]
  exact (fun _ h => (by cases h))
set_option maxHeartbeats 4000000 in
theorem vc_Mo_nextOrder_at_gx_6_0 (x1 : Int) (x2 : Int) (x4 : Int) (x5 : Int) (x6 : Int) (x8 : Int) (x9 : Int) (x10 : Int) (order_0 : Int → Int) (k1 : 0 ≤ x1 ∧ x1 ≤ 8) (k2 : (-2) ≤ x2 ∧ x2 ≤ 16777216) (k4 : 2 ≤ x4 ∧ x4 ≤ 8) (k5 : 0 ≤ x5 ∧ x5 ≤ 6) (k6 : 1 ≤ x6 ∧ x6 ≤ 7) (k8 : 0 ≤ x8 ∧ x8 ≤ 24) (k9 : 1 ≤ x9 ∧ x9 ≤ 25) (k10 : 0 ≤ x10 ∧ x10 ≤ 6) (d0 : x6 + (-1) ≤ x10 ∧ x10 ≤ x6 + (-1)) (d1 : x1 + (-4294967296) ≤ x10 ∧ x10 ≤ x1 + (-2)) (d2 : x4 + (-4294967296) ≤ x10 ∧ x10 ≤ x4 + (-2)) (d3 : x9 + (-4294967296) ≤ x8 ∧ x8 ≤ x9 + (-1)) (d4 : x4 + (-4294967296) ≤ x1 ∧ x1 ≤ x4 + 0) (d5 : x1 + (-4294967296) ≤ x4 ∧ x4 ≤ x1 + 0) (d6 : x1 + (-4294967296) ≤ x5 ∧ x5 ≤ x1 + (-2)) (d7 : x4 + (-4294967296) ≤ x5 ∧ x5 ≤ x4 + (-2)) (d8 : x1 + (-4294967296) ≤ x6 ∧ x6 ≤ x1 + (-1)) (d9 : x4 + (-4294967296) ≤ x6 ∧ x6 ≤ x4 + (-1)) (f0 : x10 = x6 + (-1)) (f1 : x8 < x9) (h2 : x9 = order_0 (x5)) (h4 : x8 = order_0 (x6)) (f5 : x1 ≤ 8) (f6 : NO2 (order_0) (x1) (x5) (x6)) (f7 : ORM (order_0) (x1) (x2)) (hK_0_96 : ∀ j : Int, 0 ≤ j → j < 26 → 0 ≤ order_0 j ∧ order_0 j ≤ 25) : NO2 (order_0) (x1) (x5) (x10) := by
  first
    | exact no2_start ‹NO1 _ _ _› (by omega) (by rw [← (by omega : x9 = x5 + 1)]; omega) (by omega)
    | exact no2_step ‹NO2 _ _ _ _› (by omega) (by omega)
def o_Mo_nextOrder_at_gx_6 : or_T := (41, 11, [(0, (2, 0, 0, [165])), (1, (0, 0, 8, [])), (2, (0, -2, 16777216, [])), (4, (0, 2, 8, [])), (5, (0, 0, 6, [])), (6, (0, 1, 7, [])), (8, (0, 0, 24, [])), (9, (0, 1, 25, [])), (10, (0, 0, 6, []))], [(6, [10, 6], [-1]), (7, [8, 9], [2]), (10, [9, 7, 5], []), (9, [7, 3], [96]), (10, [8, 7, 6], []), (20, [4], [50, 0, 0, 0, 2, 1, 0, 0, 8]), (20, [3, 4, 5, 6], [60, 0, 1, 326, 96]), (20, [3, 4, 2], [60, 0, 1, 323, 96]), (24, [0, 3], []), (24, [1, 4], [])], [], [], [(20, [3, 4, 5, 10], [60, 0, 1, 326, 96])], [], [(10, 6, -1, -1), (10, 1, -4294967296, -2), (10, 4, -4294967296, -2), (8, 9, -4294967296, -1), (1, 4, -4294967296, 0), (4, 1, -4294967296, 0), (5, 1, -4294967296, -2), (5, 4, -4294967296, -2), (6, 1, -4294967296, -1), (6, 4, -4294967296, -1)])
theorem oo_Mo_nextOrder_at_gx_6 {kA : Nat → ClassId} : or_ok PRD kA GG o_Mo_nextOrder_at_gx_6 := by
  refine or_mk fun A ta ws vs hD hth hl => ?_
  intro t0 r0 t1 k1 t2 k2 t4 k4 t5 k5 t6 k6 t8 k8 t9 k9 t10 k10 d0 d1 d2 d3 d4 d5 d6 d7 d8 d9 f0 f1 f2 f3 f4 f5 f6 f7 f8 f9
  replace f0 := shm_186 f0
  replace f1 := shm_6 f1
  replace f2 := shm_107 f2
  replace f3 := shm_666 f3
  replace f4 := shm_107 f4
  replace f5 := shm_660 f5
  replace f6 := shm_667 f6
  replace f7 := shm_662 f7
  replace f8 := shm_5 f8
  replace f9 := shm_5 f9
  have q3 : n_v vs 3 = n_v vs 0 := f8.symm
  have q4 : n_v vs 4 = n_v vs 1 := f9.symm
  simp only [q3, q4] at f3 f5 f6 f7
  have cr_0_96 := fdq_166 hD hth r0
  have ad_7 : v_ad (n_v vs 7) = w_ar ws (n_v vs 0) 96 := congrArg v_ad f3
  simp only [ad_7] at f2
  have h2 : v_iv (n_v vs 9) = w_ei ws (w_ar ws (n_v vs 0) 96) (v_iv (n_v vs 5)) := f2
  simp only [ad_7] at f4
  have h4 : v_iv (n_v vs 8) = w_ei ws (w_ar ws (n_v vs 0) 96) (v_iv (n_v vs 6)) := f4
  have hK_0_96 := elq_96 hD hth cr_0_96
  have nf0 : fc_1 PRD (20, [3, 4, 5, 10], [60, 0, 1, 326, 96]) ws (vs) := by
    refine ⟨nf_in hl rfl, sgq_667 ?_⟩
    · show NO2 (w_ei ws (w_ar ws (n_v vs 3) 96)) (v_iv (n_v vs 4)) (v_iv (n_v vs 5)) (v_iv (n_v vs 10))
      simp only [q3, q4]
      exact vc_Mo_nextOrder_at_gx_6_0 (v_iv (n_v vs 1)) (v_iv (n_v vs 2)) (v_iv (n_v vs 4)) (v_iv (n_v vs 5)) (v_iv (n_v vs 6)) (v_iv (n_v vs 8)) (v_iv (n_v vs 9)) (v_iv (n_v vs 10)) (w_ei ws (w_ar ws (n_v vs 0) 96)) k1 k2 k4 k5 k6 k8 k9 k10 d0 d1 d2 d3 d4 d5 d6 d7 d8 d9 f0 f1 h2 h4 f5 f6 f7 hK_0_96
  refine ⟨(fun _ h => (by cases h)), [], trivial, ?_, (fun _ h => (by cases h))⟩
  rw [List.append_nil]
  exact List.forall_mem_cons.mpr ⟨⟨show (20 : Nat) < 100 from by decide, nf0⟩, (fun _ h => (by cases h))⟩
set_option maxHeartbeats 4000000 in
theorem vc_Mo_nextOrder_at_gx_7_0 (x1 : Int) (x2 : Int) (x4 : Int) (x5 : Int) (x8 : Int) (x9 : Int) (x10 : Int) (order_0 : Int → Int) (k1 : 2 ≤ x1 ∧ x1 ≤ 8) (k2 : (-2) ≤ x2 ∧ x2 ≤ 16777216) (k4 : 2 ≤ x4 ∧ x4 ≤ 8) (k5 : 0 ≤ x5 ∧ x5 ≤ 6) (k8 : 1 ≤ x8 ∧ x8 ≤ 7) (k9 : 1 ≤ x9 ∧ x9 ≤ 7) (k10 : 1 ≤ x10 ∧ x10 ≤ 1) (d0 : x9 + 0 ≤ x8 ∧ x8 ≤ x9 + 4294967296) (d1 : x4 + (-4294967296) ≤ x1 ∧ x1 ≤ x4 + 0) (d2 : x1 + (-4294967296) ≤ x4 ∧ x4 ≤ x1 + 0) (d3 : x1 + (-4294967296) ≤ x5 ∧ x5 ≤ x1 + (-2)) (d4 : x4 + (-4294967296) ≤ x5 ∧ x5 ≤ x4 + (-2)) (d5 : x8 + (-4294967296) ≤ x5 ∧ x5 ≤ x8 + (-1)) (d6 : x1 + (-4294967296) ≤ x8 ∧ x8 ≤ x1 + (-1)) (d7 : x4 + (-4294967296) ≤ x8 ∧ x8 ≤ x4 + (-1)) (d8 : x9 + (-4294967296) ≤ x8 ∧ x8 ≤ x9 + 1) (d9 : x1 + (-4294967296) ≤ x9 ∧ x9 ≤ x1 + (-1)) (d10 : x4 + (-4294967296) ≤ x9 ∧ x9 ≤ x4 + (-1)) (f0 : x9 ≤ x8) (f1 : x1 ≤ 8) (f2 : NO3 (order_0) (x1) (x5) (x8) (x9) (x2)) (hK_0_96 : ∀ j : Int, 0 ≤ j → j < 26 → 0 ≤ order_0 j ∧ order_0 j ≤ 25) : DIS (order_0) (x1) := by
  exact ‹NO3 _ _ _ _ _ _›.1
set_option maxHeartbeats 4000000 in
theorem vc_Mo_nextOrder_at_gx_7_1 (x1 : Int) (x2 : Int) (x4 : Int) (x5 : Int) (x8 : Int) (x9 : Int) (x10 : Int) (order_0 : Int → Int) (k1 : 2 ≤ x1 ∧ x1 ≤ 8) (k2 : (-2) ≤ x2 ∧ x2 ≤ 16777216) (k4 : 2 ≤ x4 ∧ x4 ≤ 8) (k5 : 0 ≤ x5 ∧ x5 ≤ 6) (k8 : 1 ≤ x8 ∧ x8 ≤ 7) (k9 : 1 ≤ x9 ∧ x9 ≤ 7) (k10 : 1 ≤ x10 ∧ x10 ≤ 1) (d0 : x9 + 0 ≤ x8 ∧ x8 ≤ x9 + 4294967296) (d1 : x4 + (-4294967296) ≤ x1 ∧ x1 ≤ x4 + 0) (d2 : x1 + (-4294967296) ≤ x4 ∧ x4 ≤ x1 + 0) (d3 : x1 + (-4294967296) ≤ x5 ∧ x5 ≤ x1 + (-2)) (d4 : x4 + (-4294967296) ≤ x5 ∧ x5 ≤ x4 + (-2)) (d5 : x8 + (-4294967296) ≤ x5 ∧ x5 ≤ x8 + (-1)) (d6 : x1 + (-4294967296) ≤ x8 ∧ x8 ≤ x1 + (-1)) (d7 : x4 + (-4294967296) ≤ x8 ∧ x8 ≤ x4 + (-1)) (d8 : x9 + (-4294967296) ≤ x8 ∧ x8 ≤ x9 + 1) (d9 : x1 + (-4294967296) ≤ x9 ∧ x9 ≤ x1 + (-1)) (d10 : x4 + (-4294967296) ≤ x9 ∧ x9 ≤ x4 + (-1)) (f0 : x9 ≤ x8) (f1 : x1 ≤ 8) (f2 : NO3 (order_0) (x1) (x5) (x8) (x9) (x2)) (hK_0_96 : ∀ j : Int, 0 ≤ j → j < 26 → 0 ≤ order_0 j ∧ order_0 j ≤ 25) : ORN (order_0) (x1) (x2) (x10) := by
  exact no3_end (by omega) ‹NO3 _ _ _ _ _ _›
def o_Mo_nextOrder_at_gx_7 : or_T := (149, 11, [(0, (2, 0, 0, [165])), (1, (0, 2, 8, [])), (2, (0, -2, 16777216, [])), (4, (0, 2, 8, [])), (5, (0, 0, 6, [])), (8, (0, 1, 7, [])), (9, (0, 1, 7, [])), (10, (0, 1, 1, []))], [(7, [8, 9], [3]), (20, [4], [50, 0, 0, 0, 2, 1, 0, 0, 8]), (20, [3, 4, 5, 8, 9, 2], [60, 0, 1, 327, 96]), (24, [0, 3], []), (24, [1, 4], [])], [], [], [(20, [0, 1], [60, 0, 1, 322, 96]), (20, [0, 1, 2, 10], [60, 0, 1, 324, 96])], [], [(8, 9, 0, 4294967296), (1, 4, -4294967296, 0), (4, 1, -4294967296, 0), (5, 1, -4294967296, -2), (5, 4, -4294967296, -2), (5, 8, -4294967296, -1), (8, 1, -4294967296, -1), (8, 4, -4294967296, -1), (8, 9, -4294967296, 1), (9, 1, -4294967296, -1), (9, 4, -4294967296, -1)])
theorem oo_Mo_nextOrder_at_gx_7 {kA : Nat → ClassId} : or_ok PRD kA GG o_Mo_nextOrder_at_gx_7 := by
  refine or_mk fun A ta ws vs hD hth hl => ?_
  intro t0 r0 t1 k1 t2 k2 t4 k4 t5 k5 t8 k8 t9 k9 t10 k10 d0 d1 d2 d3 d4 d5 d6 d7 d8 d9 d10 f0 f1 f2 f3 f4
  replace f1 := shm_660 f1
  replace f2 := shm_668 f2
  replace f3 := shm_5 f3
  replace f4 := shm_5 f4
  have q3 : n_v vs 3 = n_v vs 0 := f3.symm
  have q4 : n_v vs 4 = n_v vs 1 := f4.symm
  simp only [q4, q3] at f1 f2
  have cr_0_96 := fdq_166 hD hth r0
  have hK_0_96 := elq_96 hD hth cr_0_96
  have nf0 : fc_1 PRD (20, [0, 1], [60, 0, 1, 322, 96]) ws (vs) := ⟨nf_in hl rfl, sgq_661 (vc_Mo_nextOrder_at_gx_7_0 (v_iv (n_v vs 1)) (v_iv (n_v vs 2)) (v_iv (n_v vs 4)) (v_iv (n_v vs 5)) (v_iv (n_v vs 8)) (v_iv (n_v vs 9)) (v_iv (n_v vs 10)) (w_ei ws (w_ar ws (n_v vs 0) 96)) k1 k2 k4 k5 k8 k9 k10 d0 d1 d2 d3 d4 d5 d6 d7 d8 d9 d10 (shm_2 f0) f1 f2 hK_0_96)⟩
  have nf1 : fc_1 PRD (20, [0, 1, 2, 10], [60, 0, 1, 324, 96]) ws (vs) := ⟨nf_in hl rfl, sgq_665 (vc_Mo_nextOrder_at_gx_7_1 (v_iv (n_v vs 1)) (v_iv (n_v vs 2)) (v_iv (n_v vs 4)) (v_iv (n_v vs 5)) (v_iv (n_v vs 8)) (v_iv (n_v vs 9)) (v_iv (n_v vs 10)) (w_ei ws (w_ar ws (n_v vs 0) 96)) k1 k2 k4 k5 k8 k9 k10 d0 d1 d2 d3 d4 d5 d6 d7 d8 d9 d10 (shm_2 f0) f1 f2 hK_0_96)⟩
  refine ⟨(fun _ h => (by cases h)), [], trivial, ?_, (fun _ h => (by cases h))⟩
  rw [List.append_nil]
  exact List.forall_mem_cons.mpr ⟨⟨show (20 : Nat) < 100 from by decide, nf0⟩, List.forall_mem_cons.mpr ⟨⟨show (20 : Nat) < 100 from by decide, nf1⟩, (fun _ h => (by cases h))⟩⟩
set_option maxHeartbeats 4000000 in
theorem vc_Mo_nextOrder_at_gx_8_0 (x1 : Int) (x2 : Int) (x4 : Int) (x5 : Int) (x8 : Int) (x9 : Int) (x11 : Int) (x12 : Int) (x13 : Int) (x14 : Int) (order_2 : Int → Int) (order_0 : Int → Int) (order_1 : Int → Int) (k1 : 3 ≤ x1 ∧ x1 ≤ 8) (k2 : (-2) ≤ x2 ∧ x2 ≤ 16777216) (k4 : 3 ≤ x4 ∧ x4 ≤ 8) (k5 : 0 ≤ x5 ∧ x5 ≤ 5) (k8 : 1 ≤ x8 ∧ x8 ≤ 6) (k9 : 2 ≤ x9 ∧ x9 ≤ 7) (k11 : 0 ≤ x11 ∧ x11 ≤ 25) (k12 : 0 ≤ x12 ∧ x12 ≤ 25) (k13 : 2 ≤ x13 ∧ x13 ≤ 7) (k14 : 1 ≤ x14 ∧ x14 ≤ 6) (d0 : x9 + (-1) ≤ x14 ∧ x14 ≤ x9 + (-1)) (d1 : x1 + (-4294967296) ≤ x14 ∧ x14 ≤ x1 + (-2)) (d2 : x4 + (-4294967296) ≤ x14 ∧ x14 ≤ x4 + (-2)) (d3 : x8 + 1 ≤ x13 ∧ x13 ≤ x8 + 1) (d4 : x9 + (-4294967296) ≤ x13 ∧ x13 ≤ x9 + 0) (d5 : x1 + (-4294967296) ≤ x13 ∧ x13 ≤ x1 + 0) (d6 : x4 + (-4294967296) ≤ x13 ∧ x13 ≤ x4 + 0) (d7 : x9 + (-4294967296) ≤ x13 ∧ x13 ≤ x9 + 2) (d8 : x9 + (-4294967296) ≤ x8 ∧ x8 ≤ x9 + (-1)) (d9 : x4 + (-4294967296) ≤ x1 ∧ x1 ≤ x4 + 0) (d10 : x1 + (-4294967296) ≤ x4 ∧ x4 ≤ x1 + 0) (d11 : x1 + (-4294967296) ≤ x5 ∧ x5 ≤ x1 + (-2)) (d12 : x4 + (-4294967296) ≤ x5 ∧ x5 ≤ x4 + (-2)) (d13 : x8 + (-4294967296) ≤ x5 ∧ x5 ≤ x8 + (-1)) (d14 : x1 + (-4294967296) ≤ x8 ∧ x8 ≤ x1 + (-1)) (d15 : x4 + (-4294967296) ≤ x8 ∧ x8 ≤ x4 + (-1)) (d16 : x9 + (-4294967296) ≤ x8 ∧ x8 ≤ x9 + 1) (d17 : x1 + (-4294967296) ≤ x9 ∧ x9 ≤ x1 + (-1)) (d18 : x4 + (-4294967296) ≤ x9 ∧ x9 ≤ x4 + (-1)) (f0 : x14 = x9 + (-1)) (f1 : x13 = x8 + 1) (f2 : x1 ≤ 8) (f7 : x1 ≤ 8) (h9 : x12 = order_2 (x9)) (h10 : x11 = order_2 (x8)) (f11 : x8 < x9) (f12 : x1 ≤ 8) (f13 : NO3 (order_2) (x1) (x5) (x8) (x9) (x2)) (hE_0_96_1 : ∀ j : Int, 0 ≤ j → (j = x9 → order_0 j = x11) ∧ (j ≠ x9 → order_0 j = order_1 j)) (hE_0_96_2 : ∀ j : Int, 0 ≤ j → (j = x8 → order_1 j = x12) ∧ (j ≠ x8 → order_1 j = order_2 j)) (hK_0_96 : ∀ j : Int, 0 ≤ j → j < 26 → 0 ≤ order_0 j ∧ order_0 j ≤ 25) : NO3 (order_0) (x1) (x5) (x13) (x14) (x2) := by
  first
    | (have h := ‹NO2 _ _ _ _›
       have h2 := h.2.1
       have h4 := h.2.2.2
       exact no3_start h (by omega) (swp_st (by omega) (by omega) (by omega) (by assumption) (by omega) (by omega) (by assumption) (by omega) (by omega)) (by omega) (by omega) ‹ORM _ _ _›)
    | (have h := ‹NO3 _ _ _ _ _ _›
       have h2 := h.2.1
       have h3 := h.2.2.1
       have h4 := h.2.2.2.1
       exact no3_step h (by omega) (swp_st (by omega) (by omega) (by omega) (by assumption) (by omega) (by omega) (by assumption) (by omega) (by omega)) (by omega) (by omega))
def o_Mo_nextOrder_at_gx_8 : or_T := (100, 15, [(0, (2, 0, 0, [165])), (1, (0, 3, 8, [])), (2, (0, -2, 16777216, [])), (4, (0, 3, 8, [])), (5, (0, 0, 5, [])), (8, (0, 1, 6, [])), (9, (0, 2, 7, [])), (11, (0, 0, 25, [])), (12, (0, 0, 25, [])), (13, (0, 2, 7, [])), (14, (0, 1, 6, []))], [(6, [14, 9], [-1]), (6, [13, 8], [1]), (20, [4], [50, 0, 0, 0, 2, 1, 0, 0, 8]), (24, [0, 3], []), (24, [1, 4], []), (100, [10, 9, 11], []), (9, [10, 3], [96]), (20, [4], [50, 0, 0, 0, 2, 1, 0, 0, 8]), (100, [10, 8, 12], []), (10, [12, 10, 9], []), (10, [11, 10, 8], []), (7, [8, 9], [2]), (20, [4], [50, 0, 0, 0, 2, 1, 0, 0, 8]), (20, [3, 4, 5, 8, 9, 2], [60, 0, 1, 327, 96])], [], [], [(20, [3, 4, 5, 13, 14, 2], [60, 0, 1, 327, 96])], [], [(14, 9, -1, -1), (14, 1, -4294967296, -2), (14, 4, -4294967296, -2), (13, 8, 1, 1), (13, 9, -4294967296, 0), (13, 1, -4294967296, 0), (13, 4, -4294967296, 0), (13, 9, -4294967296, 2), (8, 9, -4294967296, -1), (1, 4, -4294967296, 0), (4, 1, -4294967296, 0), (5, 1, -4294967296, -2), (5, 4, -4294967296, -2), (5, 8, -4294967296, -1), (8, 1, -4294967296, -1), (8, 4, -4294967296, -1), (8, 9, -4294967296, 1), (9, 1, -4294967296, -1), (9, 4, -4294967296, -1)])
theorem oo_Mo_nextOrder_at_gx_8 {kA : Nat → ClassId} : or_ok PRD kA GG o_Mo_nextOrder_at_gx_8 := by
  refine or_mk fun A ta ws vs hD hth hl => ?_
  intro t0 r0 t1 k1 t2 k2 t4 k4 t5 k5 t8 k8 t9 k9 t11 k11 t12 k12 t13 k13 t14 k14 d0 d1 d2 d3 d4 d5 d6 d7 d8 d9 d10 d11 d12 d13 d14 d15 d16 d17 d18 f0 f1 f2 f3 f4 ta1 w1 le1 s1 f6 f7 ta2 w2 le2 s2 f9 f10 f11 f12 f13
  replace f0 := shm_186 f0
  replace f1 := shm_4 f1
  replace f2 := shm_660 f2
  replace f3 := shm_5 f3
  replace f4 := shm_5 f4
  have s1 : (∀ b j, w_el ws b j = if b = v_ad (n_v vs 10) ∧ j = (v_iv (n_v vs 9)).toNat then v_iv (n_v vs 11) else w_el w1 b j) ∧ ∀ b k, w_fd ws b k = w_fd w1 b k := s1.2
  replace f6 := shm_666 f6
  replace f7 := shm_660 f7
  have s2 : (∀ b j, w_el w1 b j = if b = v_ad (n_v vs 10) ∧ j = (v_iv (n_v vs 8)).toNat then v_iv (n_v vs 12) else w_el w2 b j) ∧ ∀ b k, w_fd w1 b k = w_fd w2 b k := s2.2
  replace f9 := shm_107 f9
  replace f10 := shm_107 f10
  replace f11 := shm_6 f11
  replace f12 := shm_660 f12
  replace f13 := shm_668 f13
  have q3 : n_v vs 3 = n_v vs 0 := f3.symm
  have q4 : n_v vs 4 = n_v vs 1 := f4.symm
  simp only [q4, q3] at f2 f6 f7 f12 f13
  have ar_0_96_1 : w_ar w1 (n_v vs 0) 96 = w_ar ws (n_v vs 0) 96 := congrArg v_ad (s1.2 _ _).symm
  have ar_0_96_2 : w_ar w2 (n_v vs 0) 96 = w_ar ws (n_v vs 0) 96 := by rw [← ar_0_96_1]; show v_ad (w_fd w2 _ _) = v_ad (w_fd w1 _ _); rw [s2.2]
  have cr_0_96 := fdq_166 hD hth r0
  have ad_10 : v_ad (n_v vs 10) = w_ar ws (n_v vs 0) 96 := (congrArg v_ad f6).trans ar_0_96_1
  simp only [ad_10] at f9
  have h9 : v_iv (n_v vs 12) = w_ei w2 (w_ar ws (n_v vs 0) 96) (v_iv (n_v vs 9)) := f9
  simp only [ad_10] at f10
  have h10 : v_iv (n_v vs 11) = w_ei w2 (w_ar ws (n_v vs 0) 96) (v_iv (n_v vs 8)) := f10
  simp only [ar_0_96_2] at f13
  have hE_0_96_1 : ∀ j : Int, 0 ≤ j → (j = v_iv (n_v vs 9) → w_ei ws (w_ar ws (n_v vs 0) 96) j = v_iv (n_v vs 11)) ∧ (j ≠ v_iv (n_v vs 9) → w_ei ws (w_ar ws (n_v vs 0) 96) j = w_ei w1 (w_ar ws (n_v vs 0) 96) j) := fun j hj => ⟨fun h => by unfold w_ei; rw [s1.1, if_pos ⟨ad_10.symm, by rw [h]⟩], fun h => by unfold w_ei; rw [s1.1, if_neg (fun e => h (by have := e.2; omega))]⟩
  have hE_0_96_2 : ∀ j : Int, 0 ≤ j → (j = v_iv (n_v vs 8) → w_ei w1 (w_ar ws (n_v vs 0) 96) j = v_iv (n_v vs 12)) ∧ (j ≠ v_iv (n_v vs 8) → w_ei w1 (w_ar ws (n_v vs 0) 96) j = w_ei w2 (w_ar ws (n_v vs 0) 96) j) := fun j hj => ⟨fun h => by unfold w_ei; rw [s2.1, if_pos ⟨ad_10.symm, by rw [h]⟩], fun h => by unfold w_ei; rw [s2.1, if_neg (fun e => h (by have := e.2; omega))]⟩
  have hK_0_96 := elq_96 hD hth cr_0_96
  have nf0 : fc_1 PRD (20, [3, 4, 5, 13, 14, 2], [60, 0, 1, 327, 96]) ws (vs) := by
    refine ⟨nf_in hl rfl, sgq_668 ?_⟩
    · show NO3 (w_ei ws (w_ar ws (n_v vs 3) 96)) (v_iv (n_v vs 4)) (v_iv (n_v vs 5)) (v_iv (n_v vs 13)) (v_iv (n_v vs 14)) (v_iv (n_v vs 2))
      simp only [q3, q4]
      exact vc_Mo_nextOrder_at_gx_8_0 (v_iv (n_v vs 1)) (v_iv (n_v vs 2)) (v_iv (n_v vs 4)) (v_iv (n_v vs 5)) (v_iv (n_v vs 8)) (v_iv (n_v vs 9)) (v_iv (n_v vs 11)) (v_iv (n_v vs 12)) (v_iv (n_v vs 13)) (v_iv (n_v vs 14)) (w_ei w2 (w_ar ws (n_v vs 0) 96)) (w_ei ws (w_ar ws (n_v vs 0) 96)) (w_ei w1 (w_ar ws (n_v vs 0) 96)) k1 k2 k4 k5 k8 k9 k11 k12 k13 k14 d0 d1 d2 d3 d4 d5 d6 d7 d8 d9 d10 d11 d12 d13 d14 d15 d16 d17 d18 f0 f1 f2 f7 h9 h10 f11 f12 f13 hE_0_96_1 hE_0_96_2 hK_0_96
  refine ⟨(fun _ h => (by cases h)), [], trivial, ?_, (fun _ h => (by cases h))⟩
  rw [List.append_nil]
  exact List.forall_mem_cons.mpr ⟨⟨show (20 : Nat) < 100 from by decide, nf0⟩, (fun _ h => (by cases h))⟩
def n_Mo_nextOrder_at_gx_an : List an_T := [(4, [(0, (2, 0, 0, [165])), (1, (0, 0, 8, [])), (2, (0, (Int.negSucc 1), 6, []))], [], (0, 0), [(0, 0, 99996), (2, 5, (Int.negSucc 1)), (0, 0, 100000)], [(1, 4, (Int.negSucc 999999999999), 0), (4, 1, (Int.negSucc 999999999999), 0), (5, 1, (Int.negSucc 999999999999), (Int.negSucc 1)), (5, 4, (Int.negSucc 999999999999), (Int.negSucc 1))], [], [(2, 0, 0, [165]), (0, 0, 8, []), (0, (Int.negSucc 1), 16777216, [])], 0, [], [(20, [4], [50, 0, 0, 0, 2, 1, 0, 0, 8]), (20, [3, 4, 5], [60, 0, 1, 325, 96]), (20, [3, 4, 2], [60, 0, 1, 323, 96]), (24, [0, 3], []), (24, [1, 4], [])]), (41, [(0, (2, 0, 0, [165])), (1, (0, 2, 8, [])), (2, (0, 0, 6, [])), (3, (0, 0, 7, []))], [], (0, 0), [(0, 0, 99959), (2, 6, 0), (0, 0, 100000)], [(1, 4, (Int.negSucc 999999999999), 0), (4, 1, (Int.negSucc 999999999999), 0), (5, 1, (Int.negSucc 999999999999), (Int.negSucc 1)), (5, 4, (Int.negSucc 999999999999), (Int.negSucc 1)), (6, 1, (Int.negSucc 999999999999), (Int.negSucc 0)), (6, 4, (Int.negSucc 999999999999), (Int.negSucc 0))], [], [(2, 0, 0, [165]), (0, 0, 8, []), (0, (Int.negSucc 1), 16777216, [])], 0, [], [(20, [4], [50, 0, 0, 0, 2, 1, 0, 0, 8]), (20, [3, 4, 5, 6], [60, 0, 1, 326, 96]), (20, [3, 4, 2], [60, 0, 1, 323, 96]), (24, [0, 3], []), (24, [1, 4], [])]), (100, [(0, (2, 0, 0, [165])), (1, (0, 2, 8, [])), (2, (0, 0, 6, [])), (3, (0, 0, 7, [])), (4, (0, 0, 25, [])), (5, (0, 1, 7, [])), (6, (0, 1, 7, []))], [], (0, 0), [(0, 0, 99900), (1, 8, 7), (0, 0, 100000)], [(1, 4, (Int.negSucc 999999999999), 0), (4, 1, (Int.negSucc 999999999999), 0), (5, 1, (Int.negSucc 999999999999), (Int.negSucc 1)), (5, 4, (Int.negSucc 999999999999), (Int.negSucc 1)), (5, 8, (Int.negSucc 999999999999), (Int.negSucc 0)), (6, 1, (Int.negSucc 999999999999), (Int.negSucc 0)), (6, 4, (Int.negSucc 999999999999), (Int.negSucc 0)), (8, 1, (Int.negSucc 999999999999), (Int.negSucc 0)), (8, 4, (Int.negSucc 999999999999), (Int.negSucc 0)), (8, 9, (Int.negSucc 999999999999), 1), (9, 1, (Int.negSucc 999999999999), (Int.negSucc 0)), (9, 4, (Int.negSucc 999999999999), (Int.negSucc 0))], [], [(2, 0, 0, [165]), (0, 0, 8, []), (0, (Int.negSucc 1), 16777216, [])], 0, [], [(20, [4], [50, 0, 0, 0, 2, 1, 0, 0, 8]), (20, [3, 4, 5, 8, 9, 2], [60, 0, 1, 327, 96]), (24, [0, 3], []), (24, [1, 4], [])])]
def t_Mo_nextOrder_at_gx_ct : ct_L := []
set_option maxRecDepth 100000 in
theorem c_Mo_nextOrder_at_gx {l : Launch} {D : va_G} {kA : Nat → ClassId} : ct_ok PRD l D kA GG y_Mo_nextOrder_at_gx z_Mo_nextOrder_at_gx e_Mo_nextOrder_at_gx := chk_all_ok (FT := [(213, 13, 96)]) (PT := []) (CT := t_Mo_nextOrder_at_gx_ct) (KT := []) (NT := []) (AN := n_Mo_nextOrder_at_gx_an) (OT := [o_Mo_nextOrder_at_gx_0, o_Mo_nextOrder_at_gx_1, o_Mo_nextOrder_at_gx_2, o_Mo_nextOrder_at_gx_3, o_Mo_nextOrder_at_gx_4, o_Mo_nextOrder_at_gx_5, o_Mo_nextOrder_at_gx_6, o_Mo_nextOrder_at_gx_7, o_Mo_nextOrder_at_gx_8]) 3 368 (List.forall_mem_cons.mpr ⟨oo_Mo_nextOrder_at_gx_0, List.forall_mem_cons.mpr ⟨oo_Mo_nextOrder_at_gx_1, List.forall_mem_cons.mpr ⟨oo_Mo_nextOrder_at_gx_2, List.forall_mem_cons.mpr ⟨oo_Mo_nextOrder_at_gx_3, List.forall_mem_cons.mpr ⟨oo_Mo_nextOrder_at_gx_4, List.forall_mem_cons.mpr ⟨oo_Mo_nextOrder_at_gx_5, List.forall_mem_cons.mpr ⟨oo_Mo_nextOrder_at_gx_6, List.forall_mem_cons.mpr ⟨oo_Mo_nextOrder_at_gx_7, List.forall_mem_cons.mpr ⟨oo_Mo_nextOrder_at_gx_8, List.forall_mem_nil _⟩⟩⟩⟩⟩⟩⟩⟩⟩) (by decide +kernel) ⟨List.forall_mem_cons.mpr ⟨gf_Mo_213, List.forall_mem_nil _⟩, List.forall_mem_nil _, List.forall_mem_nil _, List.forall_mem_nil _, List.forall_mem_nil _, GG_pl⟩ (by decide +kernel)
set_option maxHeartbeats 4000000 in
theorem vc_Mo_placeIn_0_0 (x1 : Int) (x2 : Int) (best_0 : Int → Int) (members_0 : Int) (k1 : 0 ≤ x1 ∧ x1 ≤ 23) (k2 : 0 ≤ x2 ∧ x2 ≤ 0) (hK_0_97 : ∀ j : Int, 0 ≤ j → j < 26 → 0 ≤ best_0 j ∧ best_0 j ≤ 25) (kz_0_99 : 0 ≤ members_0 ∧ members_0 ≤ 26) : PIL (best_0) (x1) (x2) := by
  first
    | (intro j a b; exfalso; omega)
    | exact pil_next ‹PIL _ _ _› (by omega) (by assumption) (by omega)
set_option maxHeartbeats 4000000 in
theorem vc_Mo_placeIn_0_1 (x1 : Int) (x2 : Int) (best_0 : Int → Int) (members_0 : Int) (k1 : 0 ≤ x1 ∧ x1 ≤ 23) (k2 : 0 ≤ x2 ∧ x2 ≤ 0) (hK_0_97 : ∀ j : Int, 0 ≤ j → j < 26 → 0 ≤ best_0 j ∧ best_0 j ≤ 25) (kz_0_99 : 0 ≤ members_0 ∧ members_0 ≤ 26) : x2 ≤ members_0 := by
  omega
def o_Mo_placeIn_0 : or_T := (2, 3, [(0, (2, 0, 0, [165])), (1, (0, 0, 23, [])), (2, (0, 0, 0, []))], [], [], [], [(20, [0, 1, 2], [60, 0, 1, 360, 97]), (20, [2, 0], [50, 1, 0, 1099, 0, 2, 1, 0, 2, 1, 99]), (24, [0, 0], []), (24, [1, 1], [])], [], [])
theorem oo_Mo_placeIn_0 {kA : Nat → ClassId} : or_ok PRD kA GG o_Mo_placeIn_0 := by
  refine or_mk fun A ta ws vs hD hth hl => ?_
  intro t0 r0 t1 k1 t2 k2
  have cr_0_97 := fdq_169 hD hth r0
  have hK_0_97 := elq_99 hD hth cr_0_97
  have kz_0_99 := fdq_158 hD hth r0
  have nf0 : fc_1 PRD (20, [0, 1, 2], [60, 0, 1, 360, 97]) ws (vs) := ⟨nf_in hl rfl, sgq_669 (vc_Mo_placeIn_0_0 (v_iv (n_v vs 1)) (v_iv (n_v vs 2)) (w_ei ws (w_ar ws (n_v vs 0) 97)) (w_fi ws (n_v vs 0) 99) k1 k2 hK_0_97 kz_0_99)⟩
  have nf1 : fc_1 PRD (20, [2, 0], [50, 1, 0, 1099, 0, 2, 1, 0, 2, 1, 99]) ws (vs) := ⟨nf_in hl rfl, sgq_670 (vc_Mo_placeIn_0_1 (v_iv (n_v vs 1)) (v_iv (n_v vs 2)) (w_ei ws (w_ar ws (n_v vs 0) 97)) (w_fi ws (n_v vs 0) 99) k1 k2 hK_0_97 kz_0_99)⟩
  have nf2 : fc_1 PRD (24, [0, 0], []) ws (vs) := by
    refine ⟨nf_in hl rfl, sgq_1 ?_⟩
    · show n_v vs 0 = n_v vs 0
      first | rfl | simp only [true_and]
  have nf3 : fc_1 PRD (24, [1, 1], []) ws (vs) := by
    refine ⟨nf_in hl rfl, sgq_1 ?_⟩
    · show n_v vs 1 = n_v vs 1
      first | rfl | simp only [true_and]
  refine ⟨(fun _ h => (by cases h)), [], trivial, ?_, (fun _ h => (by cases h))⟩
  rw [List.append_nil]
  exact List.forall_mem_cons.mpr ⟨⟨show (20 : Nat) < 100 from by decide, nf0⟩, List.forall_mem_cons.mpr ⟨⟨show (20 : Nat) < 100 from by decide, nf1⟩, List.forall_mem_cons.mpr ⟨⟨show (24 : Nat) < 100 from by decide, nf2⟩, List.forall_mem_cons.mpr ⟨⟨show (24 : Nat) < 100 from by decide, nf3⟩, (fun _ h => (by cases h))⟩⟩⟩⟩
set_option maxHeartbeats 4000000 in
theorem vc_Mo_placeIn_1_0 (x1 : Int) (x3 : Int) (x4 : Int) (x5 : Int) (members_0 : Int) (best_0 : Int → Int) (k1 : 0 ≤ x1 ∧ x1 ≤ 23) (k3 : 0 ≤ x3 ∧ x3 ≤ 23) (k4 : 0 ≤ x4 ∧ x4 ≤ 26) (k5 : 0 ≤ x5 ∧ x5 ≤ 26) (d0 : x5 + 0 ≤ x4 ∧ x4 ≤ x5 + 4294967296) (d1 : x3 + (-4294967296) ≤ x1 ∧ x1 ≤ x3 + 0) (d2 : x1 + (-4294967296) ≤ x3 ∧ x3 ≤ x1 + 0) (f0 : x5 ≤ x4) (g1 : x5 = members_0) (f2 : PIL (best_0) (x1) (x4)) (f3 : x4 ≤ members_0) (hK_0_97 : ∀ j : Int, 0 ≤ j → j < 26 → 0 ≤ best_0 j ∧ best_0 j ≤ 25) (kz_0_99 : 0 ≤ members_0 ∧ members_0 ≤ 26) : PIN (members_0) (best_0) (x1) (x4) := by
  first
    | exact ⟨by omega, ‹PIL _ _ _›, fun z => by exfalso; omega⟩
    | exact ⟨by omega, ‹PIL _ _ _›, fun z => by omega⟩
def o_Mo_placeIn_1 : or_T := (27, 6, [(0, (2, 0, 0, [165])), (1, (0, 0, 23, [])), (3, (0, 0, 23, [])), (4, (0, 0, 26, [])), (5, (0, 0, 26, []))], [(7, [4, 5], [3]), (9, [5, 2], [99]), (20, [2, 3, 4], [60, 0, 1, 360, 97]), (20, [4, 2], [50, 1, 0, 1099, 0, 2, 1, 0, 2, 1, 99]), (24, [0, 2], []), (24, [1, 3], [])], [], [], [(20, [0, 1, 4], [60, 1, 1, 359, 99, 97])], [], [(4, 5, 0, 4294967296), (1, 3, -4294967296, 0), (3, 1, -4294967296, 0)])
theorem oo_Mo_placeIn_1 {kA : Nat → ClassId} : or_ok PRD kA GG o_Mo_placeIn_1 := by
  refine or_mk fun A ta ws vs hD hth hl => ?_
  intro t0 r0 t1 k1 t3 k3 t4 k4 t5 k5 d0 d1 d2 f0 f1 f2 f3 f4 f5
  replace f1 := shm_612 f1
  replace f2 := shm_669 f2
  replace f3 := shm_670 f3
  replace f4 := shm_5 f4
  replace f5 := shm_5 f5
  have q2 : n_v vs 2 = n_v vs 0 := f4.symm
  have q3 : n_v vs 3 = n_v vs 1 := f5.symm
  simp only [q2, q3] at f1 f2 f3
  have cr_0_97 := fdq_169 hD hth r0
  have g1 : v_iv (n_v vs 5) = w_fi ws (n_v vs 0) 99 := congrArg v_iv f1
  have hK_0_97 := elq_99 hD hth cr_0_97
  have kz_0_99 := fdq_158 hD hth r0
  have nf0 : fc_1 PRD (20, [0, 1, 4], [60, 1, 1, 359, 99, 97]) ws (vs) := ⟨nf_in hl rfl, sgq_671 (vc_Mo_placeIn_1_0 (v_iv (n_v vs 1)) (v_iv (n_v vs 3)) (v_iv (n_v vs 4)) (v_iv (n_v vs 5)) (w_fi ws (n_v vs 0) 99) (w_ei ws (w_ar ws (n_v vs 0) 97)) k1 k3 k4 k5 d0 d1 d2 (shm_2 f0) g1 f2 f3 hK_0_97 kz_0_99)⟩
  refine ⟨(fun _ h => (by cases h)), [], trivial, ?_, (fun _ h => (by cases h))⟩
  rw [List.append_nil]
  exact List.forall_mem_cons.mpr ⟨⟨show (20 : Nat) < 100 from by decide, nf0⟩, (fun _ h => (by cases h))⟩
set_option maxHeartbeats 4000000 in
theorem vc_Mo_placeIn_2_0 (x1 : Int) (x3 : Int) (x4 : Int) (x5 : Int) (x7 : Int) (best_0 : Int → Int) (members_0 : Int) (k1 : 0 ≤ x1 ∧ x1 ≤ 23) (k3 : 0 ≤ x3 ∧ x3 ≤ 23) (k4 : 0 ≤ x4 ∧ x4 ≤ 25) (k5 : 1 ≤ x5 ∧ x5 ≤ 26) (k7 : 0 ≤ x7 ∧ x7 ≤ 23) (d0 : x3 + 0 ≤ x7 ∧ x7 ≤ x3 + 0) (d1 : x5 + (-4294967296) ≤ x4 ∧ x4 ≤ x5 + (-1)) (d2 : x3 + (-4294967296) ≤ x1 ∧ x1 ≤ x3 + 0) (d3 : x1 + (-4294967296) ≤ x3 ∧ x3 ≤ x1 + 0) (f0 : x7 = x1) (h1 : x7 = best_0 (x4)) (f3 : x4 < x5) (g4 : x5 = members_0) (f5 : PIL (best_0) (x1) (x4)) (f6 : x4 ≤ members_0) (hK_0_97 : ∀ j : Int, 0 ≤ j → j < 26 → 0 ≤ best_0 j ∧ best_0 j ≤ 25) (kz_0_99 : 0 ≤ members_0 ∧ members_0 ≤ 26) : PIN (members_0) (best_0) (x1) (x4) := by
  first
    | exact ⟨by omega, ‹PIL _ _ _›, fun z => by exfalso; omega⟩
    | exact ⟨by omega, ‹PIL _ _ _›, fun z => by omega⟩
def o_Mo_placeIn_2 : or_T := (27, 8, [(0, (2, 0, 0, [165])), (1, (0, 0, 23, [])), (3, (0, 0, 23, [])), (4, (0, 0, 25, [])), (5, (0, 1, 26, [])), (7, (0, 0, 23, []))], [(7, [7, 3], [0]), (10, [7, 6, 4], []), (9, [6, 2], [97]), (7, [4, 5], [2]), (9, [5, 2], [99]), (20, [2, 3, 4], [60, 0, 1, 360, 97]), (20, [4, 2], [50, 1, 0, 1099, 0, 2, 1, 0, 2, 1, 99]), (24, [0, 2], []), (24, [1, 3], [])], [], [], [(20, [0, 1, 4], [60, 1, 1, 359, 99, 97])], [], [(7, 3, 0, 0), (4, 5, -4294967296, -1), (1, 3, -4294967296, 0), (3, 1, -4294967296, 0)])
theorem oo_Mo_placeIn_2 {kA : Nat → ClassId} : or_ok PRD kA GG o_Mo_placeIn_2 := by
  refine or_mk fun A ta ws vs hD hth hl => ?_
  intro t0 r0 t1 k1 t3 k3 t4 k4 t5 k5 t7 k7 d0 d1 d2 d3 f0 f1 f2 f3 f4 f5 f6 f7 f8
  replace f0 := shm_37 f0
  replace f1 := shm_107 f1
  replace f2 := shm_672 f2
  replace f4 := shm_612 f4
  replace f5 := shm_669 f5
  replace f6 := shm_670 f6
  replace f7 := shm_5 f7
  replace f8 := shm_5 f8
  have q2 : n_v vs 2 = n_v vs 0 := f7.symm
  have q3 : n_v vs 3 = n_v vs 1 := f8.symm
  simp only [q3, q2] at f0 f2 f4 f5 f6
  have cr_0_97 := fdq_169 hD hth r0
  have ad_6 : v_ad (n_v vs 6) = w_ar ws (n_v vs 0) 97 := congrArg v_ad f2
  simp only [ad_6] at f1
  have h1 : v_iv (n_v vs 7) = w_ei ws (w_ar ws (n_v vs 0) 97) (v_iv (n_v vs 4)) := f1
  have g4 : v_iv (n_v vs 5) = w_fi ws (n_v vs 0) 99 := congrArg v_iv f4
  have hK_0_97 := elq_99 hD hth cr_0_97
  have kz_0_99 := fdq_158 hD hth r0
  have nf0 : fc_1 PRD (20, [0, 1, 4], [60, 1, 1, 359, 99, 97]) ws (vs) := ⟨nf_in hl rfl, sgq_671 (vc_Mo_placeIn_2_0 (v_iv (n_v vs 1)) (v_iv (n_v vs 3)) (v_iv (n_v vs 4)) (v_iv (n_v vs 5)) (v_iv (n_v vs 7)) (w_ei ws (w_ar ws (n_v vs 0) 97)) (w_fi ws (n_v vs 0) 99) k1 k3 k4 k5 k7 d0 d1 d2 d3 f0 h1 (shm_6 f3) g4 f5 f6 hK_0_97 kz_0_99)⟩
  refine ⟨(fun _ h => (by cases h)), [], trivial, ?_, (fun _ h => (by cases h))⟩
  rw [List.append_nil]
  exact List.forall_mem_cons.mpr ⟨⟨show (20 : Nat) < 100 from by decide, nf0⟩, (fun _ h => (by cases h))⟩
set_option maxHeartbeats 4000000 in
theorem vc_Mo_placeIn_3_0 (x1 : Int) (x3 : Int) (x4 : Int) (x5 : Int) (x7 : Int) (x8 : Int) (best_0 : Int → Int) (members_0 : Int) (k1 : 0 ≤ x1 ∧ x1 ≤ 23) (k3 : 0 ≤ x3 ∧ x3 ≤ 23) (k4 : 0 ≤ x4 ∧ x4 ≤ 25) (k5 : 1 ≤ x5 ∧ x5 ≤ 26) (k7 : 0 ≤ x7 ∧ x7 ≤ 25) (k8 : 1 ≤ x8 ∧ x8 ≤ 26) (d0 : x4 + 1 ≤ x8 ∧ x8 ≤ x4 + 1) (d1 : x5 + (-4294967296) ≤ x8 ∧ x8 ≤ x5 + 0) (d2 : x5 + (-4294967296) ≤ x4 ∧ x4 ≤ x5 + (-1)) (d3 : x3 + (-4294967296) ≤ x1 ∧ x1 ≤ x3 + 0) (d4 : x1 + (-4294967296) ≤ x3 ∧ x3 ≤ x1 + 0) (f0 : x8 = x4 + 1) (f1 : x7 ≠ x1) (h2 : x7 = best_0 (x4)) (f4 : x4 < x5) (g5 : x5 = members_0) (f6 : PIL (best_0) (x1) (x4)) (f7 : x4 ≤ members_0) (hK_0_97 : ∀ j : Int, 0 ≤ j → j < 26 → 0 ≤ best_0 j ∧ best_0 j ≤ 25) (kz_0_99 : 0 ≤ members_0 ∧ members_0 ≤ 26) : PIL (best_0) (x1) (x8) := by
  first
    | (intro j a b; exfalso; omega)
    | exact pil_next ‹PIL _ _ _› (by omega) (by assumption) (by omega)
set_option maxHeartbeats 4000000 in
theorem vc_Mo_placeIn_3_1 (x1 : Int) (x3 : Int) (x4 : Int) (x5 : Int) (x7 : Int) (x8 : Int) (best_0 : Int → Int) (members_0 : Int) (k1 : 0 ≤ x1 ∧ x1 ≤ 23) (k3 : 0 ≤ x3 ∧ x3 ≤ 23) (k4 : 0 ≤ x4 ∧ x4 ≤ 25) (k5 : 1 ≤ x5 ∧ x5 ≤ 26) (k7 : 0 ≤ x7 ∧ x7 ≤ 25) (k8 : 1 ≤ x8 ∧ x8 ≤ 26) (d0 : x4 + 1 ≤ x8 ∧ x8 ≤ x4 + 1) (d1 : x5 + (-4294967296) ≤ x8 ∧ x8 ≤ x5 + 0) (d2 : x5 + (-4294967296) ≤ x4 ∧ x4 ≤ x5 + (-1)) (d3 : x3 + (-4294967296) ≤ x1 ∧ x1 ≤ x3 + 0) (d4 : x1 + (-4294967296) ≤ x3 ∧ x3 ≤ x1 + 0) (f0 : x8 = x4 + 1) (f1 : x7 ≠ x1) (h2 : x7 = best_0 (x4)) (f4 : x4 < x5) (g5 : x5 = members_0) (f6 : PIL (best_0) (x1) (x4)) (f7 : x4 ≤ members_0) (hK_0_97 : ∀ j : Int, 0 ≤ j → j < 26 → 0 ≤ best_0 j ∧ best_0 j ≤ 25) (kz_0_99 : 0 ≤ members_0 ∧ members_0 ≤ 26) : x8 ≤ members_0 := by
  omega
def o_Mo_placeIn_3 : or_T := (2, 9, [(0, (2, 0, 0, [165])), (1, (0, 0, 23, [])), (3, (0, 0, 23, [])), (4, (0, 0, 25, [])), (5, (0, 1, 26, [])), (7, (0, 0, 25, [])), (8, (0, 1, 26, []))], [(6, [8, 4], [1]), (7, [7, 3], [1]), (10, [7, 6, 4], []), (9, [6, 2], [97]), (7, [4, 5], [2]), (9, [5, 2], [99]), (20, [2, 3, 4], [60, 0, 1, 360, 97]), (20, [4, 2], [50, 1, 0, 1099, 0, 2, 1, 0, 2, 1, 99]), (24, [0, 2], []), (24, [1, 3], [])], [], [], [(20, [2, 3, 8], [60, 0, 1, 360, 97]), (20, [8, 2], [50, 1, 0, 1099, 0, 2, 1, 0, 2, 1, 99])], [], [(8, 4, 1, 1), (8, 5, -4294967296, 0), (4, 5, -4294967296, -1), (1, 3, -4294967296, 0), (3, 1, -4294967296, 0)])
theorem oo_Mo_placeIn_3 {kA : Nat → ClassId} : or_ok PRD kA GG o_Mo_placeIn_3 := by
  refine or_mk fun A ta ws vs hD hth hl => ?_
  intro t0 r0 t1 k1 t3 k3 t4 k4 t5 k5 t7 k7 t8 k8 d0 d1 d2 d3 d4 f0 f1 f2 f3 f4 f5 f6 f7 f8 f9
  replace f0 := shm_4 f0
  replace f1 := shm_40 f1
  replace f2 := shm_107 f2
  replace f3 := shm_672 f3
  replace f4 := shm_6 f4
  replace f5 := shm_612 f5
  replace f6 := shm_669 f6
  replace f7 := shm_670 f7
  replace f8 := shm_5 f8
  replace f9 := shm_5 f9
  have q2 : n_v vs 2 = n_v vs 0 := f8.symm
  have q3 : n_v vs 3 = n_v vs 1 := f9.symm
  simp only [q3, q2] at f1 f3 f5 f6 f7
  have cr_0_97 := fdq_169 hD hth r0
  have ad_6 : v_ad (n_v vs 6) = w_ar ws (n_v vs 0) 97 := congrArg v_ad f3
  simp only [ad_6] at f2
  have h2 : v_iv (n_v vs 7) = w_ei ws (w_ar ws (n_v vs 0) 97) (v_iv (n_v vs 4)) := f2
  have g5 : v_iv (n_v vs 5) = w_fi ws (n_v vs 0) 99 := congrArg v_iv f5
  have hK_0_97 := elq_99 hD hth cr_0_97
  have kz_0_99 := fdq_158 hD hth r0
  have nf0 : fc_1 PRD (20, [2, 3, 8], [60, 0, 1, 360, 97]) ws (vs) := by
    refine ⟨nf_in hl rfl, sgq_669 ?_⟩
    · show PIL (w_ei ws (w_ar ws (n_v vs 2) 97)) (v_iv (n_v vs 3)) (v_iv (n_v vs 8))
      simp only [q2, q3]
      exact vc_Mo_placeIn_3_0 (v_iv (n_v vs 1)) (v_iv (n_v vs 3)) (v_iv (n_v vs 4)) (v_iv (n_v vs 5)) (v_iv (n_v vs 7)) (v_iv (n_v vs 8)) (w_ei ws (w_ar ws (n_v vs 0) 97)) (w_fi ws (n_v vs 0) 99) k1 k3 k4 k5 k7 k8 d0 d1 d2 d3 d4 f0 f1 h2 f4 g5 f6 f7 hK_0_97 kz_0_99
  have nf1 : fc_1 PRD (20, [8, 2], [50, 1, 0, 1099, 0, 2, 1, 0, 2, 1, 99]) ws (vs) := by
    refine ⟨nf_in hl rfl, sgq_670 ?_⟩
    · show v_iv (n_v vs 8) ≤ w_fi ws (n_v vs 2) 99
      rw [q2]
      exact vc_Mo_placeIn_3_1 (v_iv (n_v vs 1)) (v_iv (n_v vs 3)) (v_iv (n_v vs 4)) (v_iv (n_v vs 5)) (v_iv (n_v vs 7)) (v_iv (n_v vs 8)) (w_ei ws (w_ar ws (n_v vs 0) 97)) (w_fi ws (n_v vs 0) 99) k1 k3 k4 k5 k7 k8 d0 d1 d2 d3 d4 f0 f1 h2 f4 g5 f6 f7 hK_0_97 kz_0_99
  refine ⟨(fun _ h => (by cases h)), [], trivial, ?_, (fun _ h => (by cases h))⟩
  rw [List.append_nil]
  exact List.forall_mem_cons.mpr ⟨⟨show (20 : Nat) < 100 from by decide, nf0⟩, List.forall_mem_cons.mpr ⟨⟨show (20 : Nat) < 100 from by decide, nf1⟩, (fun _ h => (by cases h))⟩⟩
def n_Mo_placeIn_an : List an_T := [(2, [(0, (2, 0, 0, [165])), (1, (0, 0, 23, [])), (2, (0, 0, 26, []))], [], (0, 0), [(0, 0, 99998), (1, 4, 26), (0, 0, 100000)], [(1, 3, (Int.negSucc 999999999999), 0), (3, 1, (Int.negSucc 999999999999), 0)], [], [(2, 0, 0, [165]), (0, 0, 23, [])], 0, [], [(20, [2, 3, 4], [60, 0, 1, 360, 97]), (20, [4, 2], [50, 1, 0, 1099, 0, 2, 1, 0, 2, 1, 99]), (24, [0, 2], []), (24, [1, 3], [])])]
def t_Mo_placeIn_ct : ct_L := []
set_option maxRecDepth 100000 in
theorem c_Mo_placeIn {l : Launch} {D : va_G} {kA : Nat → ClassId} : ct_ok PRD l D kA GG y_Mo_placeIn z_Mo_placeIn e_Mo_placeIn := chk_all_ok (FT := [(216, 13, 97), (795, 13, 99)]) (PT := []) (CT := t_Mo_placeIn_ct) (KT := []) (NT := []) (AN := n_Mo_placeIn_an) (OT := [o_Mo_placeIn_0, o_Mo_placeIn_1, o_Mo_placeIn_2, o_Mo_placeIn_3]) 3 200 (List.forall_mem_cons.mpr ⟨oo_Mo_placeIn_0, List.forall_mem_cons.mpr ⟨oo_Mo_placeIn_1, List.forall_mem_cons.mpr ⟨oo_Mo_placeIn_2, List.forall_mem_cons.mpr ⟨oo_Mo_placeIn_3, List.forall_mem_nil _⟩⟩⟩⟩) (by decide +kernel) ⟨List.forall_mem_cons.mpr ⟨gf_Mo_216, List.forall_mem_cons.mpr ⟨gf_Mo_795, List.forall_mem_nil _⟩⟩, List.forall_mem_nil _, List.forall_mem_nil _, List.forall_mem_nil _, List.forall_mem_nil _, GG_pl⟩ (by decide +kernel)
set_option maxHeartbeats 4000000 in
theorem vc_Mo_placeOf_0_0 (x1 : Int) (x3 : Int) (x4 : Int) (itemLayer_0 : Int → Int) (all_0 : Int → Int) (turned_0 : Int → Int) (firstJoint_0 : Int → Int) (lineA_0 : Int → Int) (lineB_0 : Int → Int) (r_0 : Int) (items_0 : Int) (layerMany_0 : Int) (lines_0 : Int) (layerSize_0 : Int → Int) (layerItem_0 : Int → Int) (k1 : 0 ≤ x1 ∧ x1 ≤ 75) (k3 : 0 ≤ x3 ∧ x3 ≤ 75) (k4 : 0 ≤ x4 ∧ x4 ≤ 0) (h0 : x3 = itemLayer_0 (x1)) (f2 : LSA (r_0) (items_0) (layerMany_0) (lines_0) (all_0) (turned_0) (itemLayer_0) (firstJoint_0) (lineA_0) (lineB_0)) (f3 : LSB (items_0) (layerMany_0) (itemLayer_0) (layerSize_0) (layerItem_0)) (f4 : (0 ≤ x1) ∧ ((x1 + 1) ≤ items_0)) (hK_0_95 : ∀ j : Int, 0 ≤ j → j < 48 → 0 ≤ turned_0 j ∧ turned_0 j ≤ 1) (hK_0_102 : ∀ j : Int, 0 ≤ j → j < 76 → 0 ≤ itemLayer_0 j ∧ itemLayer_0 j ≤ 75) (hK_0_104 : ∀ j : Int, 0 ≤ j → j < 48 → 0 ≤ firstJoint_0 j ∧ firstJoint_0 j ≤ 76) (hK_0_105 : ∀ j : Int, 0 ≤ j → j < 76 → 0 ≤ layerSize_0 j ∧ layerSize_0 j ≤ 76) (hK_0_106 : ∀ j : Int, 0 ≤ j → j < 5776 → 0 ≤ layerItem_0 j ∧ layerItem_0 j ≤ 75) (hK_0_108 : ∀ j : Int, 0 ≤ j → j < 130 → 0 ≤ lineA_0 j ∧ lineA_0 j ≤ 75) (hK_0_109 : ∀ j : Int, 0 ≤ j → j < 130 → 0 ≤ lineB_0 j ∧ lineB_0 j ≤ 75) (kz_0_100 : 0 ≤ items_0 ∧ items_0 ≤ 76) (kz_0_101 : 0 ≤ layerMany_0 ∧ layerMany_0 ≤ 76) (kz_0_107 : 0 ≤ lines_0 ∧ lines_0 ≤ 130) : PLG (itemLayer_0) (layerItem_0) (x1) (x3) (x4) := by
  first
    | exact plg_zero (by assumption) (by omega)
    | exact plg_next (q := x9) (v := x10) ‹PLG _ _ _ _ _› (by assumption) (by omega) (by assumption) (by omega)
set_option maxHeartbeats 4000000 in
theorem vc_Mo_placeOf_0_1 (x1 : Int) (x3 : Int) (x4 : Int) (itemLayer_0 : Int → Int) (all_0 : Int → Int) (turned_0 : Int → Int) (firstJoint_0 : Int → Int) (lineA_0 : Int → Int) (lineB_0 : Int → Int) (r_0 : Int) (items_0 : Int) (layerMany_0 : Int) (lines_0 : Int) (layerSize_0 : Int → Int) (layerItem_0 : Int → Int) (k1 : 0 ≤ x1 ∧ x1 ≤ 75) (k3 : 0 ≤ x3 ∧ x3 ≤ 75) (k4 : 0 ≤ x4 ∧ x4 ≤ 0) (h0 : x3 = itemLayer_0 (x1)) (f2 : LSA (r_0) (items_0) (layerMany_0) (lines_0) (all_0) (turned_0) (itemLayer_0) (firstJoint_0) (lineA_0) (lineB_0)) (f3 : LSB (items_0) (layerMany_0) (itemLayer_0) (layerSize_0) (layerItem_0)) (f4 : (0 ≤ x1) ∧ ((x1 + 1) ≤ items_0)) (hK_0_95 : ∀ j : Int, 0 ≤ j → j < 48 → 0 ≤ turned_0 j ∧ turned_0 j ≤ 1) (hK_0_102 : ∀ j : Int, 0 ≤ j → j < 76 → 0 ≤ itemLayer_0 j ∧ itemLayer_0 j ≤ 75) (hK_0_104 : ∀ j : Int, 0 ≤ j → j < 48 → 0 ≤ firstJoint_0 j ∧ firstJoint_0 j ≤ 76) (hK_0_105 : ∀ j : Int, 0 ≤ j → j < 76 → 0 ≤ layerSize_0 j ∧ layerSize_0 j ≤ 76) (hK_0_106 : ∀ j : Int, 0 ≤ j → j < 5776 → 0 ≤ layerItem_0 j ∧ layerItem_0 j ≤ 75) (hK_0_108 : ∀ j : Int, 0 ≤ j → j < 130 → 0 ≤ lineA_0 j ∧ lineA_0 j ≤ 75) (hK_0_109 : ∀ j : Int, 0 ≤ j → j < 130 → 0 ≤ lineB_0 j ∧ lineB_0 j ≤ 75) (kz_0_100 : 0 ≤ items_0 ∧ items_0 ≤ 76) (kz_0_101 : 0 ≤ layerMany_0 ∧ layerMany_0 ≤ 76) (kz_0_107 : 0 ≤ lines_0 ∧ lines_0 ≤ 130) : (x3 ≤ 23) ∧ (x4 ≤ 75) := by
  first
    | omega
    | (have h := ‹LSA _ _ _ _ _ _ _ _ _ _›.2.2.1 x1 (by omega) (by omega); have h2 := ‹LSA _ _ _ _ _ _ _ _ _ _›.2.1; omega)
def o_Mo_placeOf_0 : or_T := (9, 5, [(0, (2, 0, 0, [165])), (1, (0, 0, 75, [])), (3, (0, 0, 75, [])), (4, (0, 0, 0, []))], [(10, [3, 2, 1], []), (9, [2, 0], [102]), (20, [0], [60, 4, 6, 445, 5, 100, 101, 107, 2, 95, 102, 104, 108, 109]), (20, [0], [60, 2, 3, 448, 100, 101, 102, 105, 106]), (20, [1, 0], [50, 1, 0, 1100, 2, 6, 0, 2, 0, 0, 1, 0, 0, 6, 4, 2, 1, 0, 0, 1, 2, 1, 100])], [], [], [(20, [0, 1, 3, 4], [60, 0, 2, 450, 102, 106]), (20, [3, 4], [50, 0, 0, 2, 6, 0, 2, 1, 0, 0, 23, 0, 2, 1, 1, 0, 75]), (24, [0, 0], []), (24, [1, 1], [])], [], [])
theorem oo_Mo_placeOf_0 {kA : Nat → ClassId} : or_ok PRD kA GG o_Mo_placeOf_0 := by
  refine or_mk fun A ta ws vs hD hth hl => ?_
  intro t0 r0 t1 k1 t3 k3 t4 k4 f0 f1 f2 f3 f4
  replace f0 := shm_107 f0
  replace f1 := shm_673 f1
  have cr_0_95 := fdq_130 hD hth r0
  have cr_0_102 := fdq_159 hD hth r0
  have cr_0_104 := fdq_170 hD hth r0
  have cr_0_105 := fdq_122 hD hth r0
  have cr_0_106 := fdq_123 hD hth r0
  have cr_0_108 := fdq_160 hD hth r0
  have cr_0_109 := fdq_161 hD hth r0
  have ad_2 : v_ad (n_v vs 2) = w_ar ws (n_v vs 0) 102 := congrArg v_ad f1
  simp only [ad_2] at f0
  have h0 : v_iv (n_v vs 3) = w_ei ws (w_ar ws (n_v vs 0) 102) (v_iv (n_v vs 1)) := f0
  have hK_0_95 := elq_71 hD hth cr_0_95
  have hK_0_102 := elq_91 hD hth cr_0_102
  have hK_0_104 := elq_100 hD hth cr_0_104
  have hK_0_105 := elq_65 hD hth cr_0_105
  have hK_0_106 := elq_66 hD hth cr_0_106
  have hK_0_108 := elq_92 hD hth cr_0_108
  have hK_0_109 := elq_93 hD hth cr_0_109
  have kz_0_100 := fdq_162 hD hth r0
  have kz_0_101 := fdq_125 hD hth r0
  have kz_0_107 := fdq_163 hD hth r0
  have nf0 : fc_1 PRD (20, [0, 1, 3, 4], [60, 0, 2, 450, 102, 106]) ws (vs) := ⟨nf_in hl rfl, sgq_677 (vc_Mo_placeOf_0_0 (v_iv (n_v vs 1)) (v_iv (n_v vs 3)) (v_iv (n_v vs 4)) (w_ei ws (w_ar ws (n_v vs 0) 102)) (w_ei ws (w_ar ws (n_v vs 0) 2)) (w_ei ws (w_ar ws (n_v vs 0) 95)) (w_ei ws (w_ar ws (n_v vs 0) 104)) (w_ei ws (w_ar ws (n_v vs 0) 108)) (w_ei ws (w_ar ws (n_v vs 0) 109)) (w_fi ws (n_v vs 0) 5) (w_fi ws (n_v vs 0) 100) (w_fi ws (n_v vs 0) 101) (w_fi ws (n_v vs 0) 107) (w_ei ws (w_ar ws (n_v vs 0) 105)) (w_ei ws (w_ar ws (n_v vs 0) 106)) k1 k3 k4 h0 (shm_674 f2) (shm_675 f3) (shm_676 f4) hK_0_95 hK_0_102 hK_0_104 hK_0_105 hK_0_106 hK_0_108 hK_0_109 kz_0_100 kz_0_101 kz_0_107)⟩
  have nf1 : fc_1 PRD (20, [3, 4], [50, 0, 0, 2, 6, 0, 2, 1, 0, 0, 23, 0, 2, 1, 1, 0, 75]) ws (vs) := ⟨nf_in hl rfl, sgq_678 (vc_Mo_placeOf_0_1 (v_iv (n_v vs 1)) (v_iv (n_v vs 3)) (v_iv (n_v vs 4)) (w_ei ws (w_ar ws (n_v vs 0) 102)) (w_ei ws (w_ar ws (n_v vs 0) 2)) (w_ei ws (w_ar ws (n_v vs 0) 95)) (w_ei ws (w_ar ws (n_v vs 0) 104)) (w_ei ws (w_ar ws (n_v vs 0) 108)) (w_ei ws (w_ar ws (n_v vs 0) 109)) (w_fi ws (n_v vs 0) 5) (w_fi ws (n_v vs 0) 100) (w_fi ws (n_v vs 0) 101) (w_fi ws (n_v vs 0) 107) (w_ei ws (w_ar ws (n_v vs 0) 105)) (w_ei ws (w_ar ws (n_v vs 0) 106)) k1 k3 k4 h0 (shm_674 f2) (shm_675 f3) (shm_676 f4) hK_0_95 hK_0_102 hK_0_104 hK_0_105 hK_0_106 hK_0_108 hK_0_109 kz_0_100 kz_0_101 kz_0_107)⟩
  have nf2 : fc_1 PRD (24, [0, 0], []) ws (vs) := by
    refine ⟨nf_in hl rfl, sgq_1 ?_⟩
    · show n_v vs 0 = n_v vs 0
      first | rfl | simp only [true_and]
  have nf3 : fc_1 PRD (24, [1, 1], []) ws (vs) := by
    refine ⟨nf_in hl rfl, sgq_1 ?_⟩
    · show n_v vs 1 = n_v vs 1
      first | rfl | simp only [true_and]
  refine ⟨(fun _ h => (by cases h)), [], trivial, ?_, (fun _ h => (by cases h))⟩
  rw [List.append_nil]
  exact List.forall_mem_cons.mpr ⟨⟨show (20 : Nat) < 100 from by decide, nf0⟩, List.forall_mem_cons.mpr ⟨⟨show (20 : Nat) < 100 from by decide, nf1⟩, List.forall_mem_cons.mpr ⟨⟨show (24 : Nat) < 100 from by decide, nf2⟩, List.forall_mem_cons.mpr ⟨⟨show (24 : Nat) < 100 from by decide, nf3⟩, (fun _ h => (by cases h))⟩⟩⟩⟩
set_option maxHeartbeats 4000000 in
theorem vc_Mo_placeOf_1_0 (x1 : Int) (x3 : Int) (x4 : Int) (x5 : Int) (x7 : Int) (x8 : Int) (x9 : Int) (x10 : Int) (layerItem_0 : Int → Int) (all_0 : Int → Int) (turned_0 : Int → Int) (itemLayer_0 : Int → Int) (firstJoint_0 : Int → Int) (lineA_0 : Int → Int) (lineB_0 : Int → Int) (r_0 : Int) (items_0 : Int) (layerMany_0 : Int) (lines_0 : Int) (layerSize_0 : Int → Int) (k1 : 0 ≤ x1 ∧ x1 ≤ 75) (k3 : 0 ≤ x3 ∧ x3 ≤ 75) (k4 : 0 ≤ x4 ∧ x4 ≤ 75) (k5 : 0 ≤ x5 ∧ x5 ≤ 75) (k7 : 76 ≤ x7 ∧ x7 ≤ 76) (k8 : 0 ≤ x8 ∧ x8 ≤ 5700) (k9 : 0 ≤ x9 ∧ x9 ≤ 5775) (k10 : 0 ≤ x10 ∧ x10 ≤ 75) (d0 : x3 + 0 ≤ x10 ∧ x10 ≤ x3 + 0) (d1 : x5 + 0 ≤ x9 ∧ x9 ≤ x5 + 5700) (d2 : x8 + 0 ≤ x9 ∧ x9 ≤ x8 + 75) (d3 : x3 + (-4294967296) ≤ x1 ∧ x1 ≤ x3 + 0) (d4 : x1 + (-4294967296) ≤ x3 ∧ x3 ≤ x1 + 0) (f0 : x10 = x1) (h1 : x10 = layerItem_0 (x9)) (f2 : x9 = x8 + x5) (f3 : x8 = 76 * x4) (f5 : LSA (r_0) (items_0) (layerMany_0) (lines_0) (all_0) (turned_0) (itemLayer_0) (firstJoint_0) (lineA_0) (lineB_0)) (f6 : LSB (items_0) (layerMany_0) (itemLayer_0) (layerSize_0) (layerItem_0)) (f7 : PLG (itemLayer_0) (layerItem_0) (x1) (x4) (x5)) (f8 : (0 ≤ x1) ∧ ((x1 + 1) ≤ items_0)) (f9 : (x4 ≤ 23) ∧ (x5 ≤ 75)) (hK_0_95 : ∀ j : Int, 0 ≤ j → j < 48 → 0 ≤ turned_0 j ∧ turned_0 j ≤ 1) (hK_0_102 : ∀ j : Int, 0 ≤ j → j < 76 → 0 ≤ itemLayer_0 j ∧ itemLayer_0 j ≤ 75) (hK_0_104 : ∀ j : Int, 0 ≤ j → j < 48 → 0 ≤ firstJoint_0 j ∧ firstJoint_0 j ≤ 76) (hK_0_105 : ∀ j : Int, 0 ≤ j → j < 76 → 0 ≤ layerSize_0 j ∧ layerSize_0 j ≤ 76) (hK_0_106 : ∀ j : Int, 0 ≤ j → j < 5776 → 0 ≤ layerItem_0 j ∧ layerItem_0 j ≤ 75) (hK_0_108 : ∀ j : Int, 0 ≤ j → j < 130 → 0 ≤ lineA_0 j ∧ lineA_0 j ≤ 75) (hK_0_109 : ∀ j : Int, 0 ≤ j → j < 130 → 0 ≤ lineB_0 j ∧ lineB_0 j ≤ 75) (kz_0_100 : 0 ≤ items_0 ∧ items_0 ≤ 76) (kz_0_101 : 0 ≤ layerMany_0 ∧ layerMany_0 ≤ 76) (kz_0_107 : 0 ≤ lines_0 ∧ lines_0 ≤ 130) : PLF (itemLayer_0) (layerSize_0) (layerItem_0) (x1) (x5) := by
  exact plf_of (q := x9) ‹LSA _ _ _ _ _ _ _ _ _ _› ‹LSB _ _ _ _ _› ‹PLG _ _ _ _ _› (by omega) (by omega) (by omega) (by omega) (by omega)
def o_Mo_placeOf_1 : or_T := (31, 11, [(0, (2, 0, 0, [165])), (1, (0, 0, 75, [])), (3, (0, 0, 75, [])), (4, (0, 0, 75, [])), (5, (0, 0, 75, [])), (7, (0, 76, 76, [])), (8, (0, 0, 5700, [])), (9, (0, 0, 5775, [])), (10, (0, 0, 75, []))], [(7, [10, 3], [0]), (10, [10, 6, 9], []), (1, [9, 8, 5], []), (3, [8, 7, 4], []), (9, [6, 2], [106]), (20, [2], [60, 4, 6, 445, 5, 100, 101, 107, 2, 95, 102, 104, 108, 109]), (20, [2], [60, 2, 3, 448, 100, 101, 102, 105, 106]), (20, [2, 3, 4, 5], [60, 0, 2, 450, 102, 106]), (20, [3, 2], [50, 1, 0, 1100, 2, 6, 0, 2, 0, 0, 1, 0, 0, 6, 4, 2, 1, 0, 0, 1, 2, 1, 100]), (20, [4, 5], [50, 0, 0, 2, 6, 0, 2, 1, 0, 0, 23, 0, 2, 1, 1, 0, 75]), (24, [0, 2], []), (24, [1, 3], [])], [], [], [(20, [0, 1, 5], [60, 0, 3, 449, 102, 105, 106])], [], [(10, 3, 0, 0), (9, 5, 0, 5700), (9, 8, 0, 75), (1, 3, -4294967296, 0), (3, 1, -4294967296, 0)])
theorem oo_Mo_placeOf_1 {kA : Nat → ClassId} : or_ok PRD kA GG o_Mo_placeOf_1 := by
  refine or_mk fun A ta ws vs hD hth hl => ?_
  intro t0 r0 t1 k1 t3 k3 t4 k4 t5 k5 t7 k7 t8 k8 t9 k9 t10 k10 d0 d1 d2 d3 d4 f0 f1 f2 f3 f4 f5 f6 f7 f8 f9 f10 f11
  replace f0 := shm_37 f0
  replace f1 := shm_107 f1
  replace f3 := shm_38 f3
  rw [show v_iv (n_v vs 7) = 76 from by omega] at f3
  replace f4 := shm_679 f4
  replace f5 := shm_674 f5
  replace f6 := shm_675 f6
  replace f7 := shm_677 f7
  replace f8 := shm_676 f8
  replace f10 := shm_5 f10
  replace f11 := shm_5 f11
  have q2 : n_v vs 2 = n_v vs 0 := f10.symm
  have q3 : n_v vs 3 = n_v vs 1 := f11.symm
  simp only [q3, q2] at f0 f4 f5 f6 f7 f8
  have cr_0_95 := fdq_130 hD hth r0
  have cr_0_102 := fdq_159 hD hth r0
  have cr_0_104 := fdq_170 hD hth r0
  have cr_0_105 := fdq_122 hD hth r0
  have cr_0_106 := fdq_123 hD hth r0
  have cr_0_108 := fdq_160 hD hth r0
  have cr_0_109 := fdq_161 hD hth r0
  have ad_6 : v_ad (n_v vs 6) = w_ar ws (n_v vs 0) 106 := congrArg v_ad f4
  simp only [ad_6] at f1
  have h1 : v_iv (n_v vs 10) = w_ei ws (w_ar ws (n_v vs 0) 106) (v_iv (n_v vs 9)) := f1
  have hK_0_95 := elq_71 hD hth cr_0_95
  have hK_0_102 := elq_91 hD hth cr_0_102
  have hK_0_104 := elq_100 hD hth cr_0_104
  have hK_0_105 := elq_65 hD hth cr_0_105
  have hK_0_106 := elq_66 hD hth cr_0_106
  have hK_0_108 := elq_92 hD hth cr_0_108
  have hK_0_109 := elq_93 hD hth cr_0_109
  have kz_0_100 := fdq_162 hD hth r0
  have kz_0_101 := fdq_125 hD hth r0
  have kz_0_107 := fdq_163 hD hth r0
  have nf0 : fc_1 PRD (20, [0, 1, 5], [60, 0, 3, 449, 102, 105, 106]) ws (vs) := ⟨nf_in hl rfl, sgq_680 (vc_Mo_placeOf_1_0 (v_iv (n_v vs 1)) (v_iv (n_v vs 3)) (v_iv (n_v vs 4)) (v_iv (n_v vs 5)) (v_iv (n_v vs 7)) (v_iv (n_v vs 8)) (v_iv (n_v vs 9)) (v_iv (n_v vs 10)) (w_ei ws (w_ar ws (n_v vs 0) 106)) (w_ei ws (w_ar ws (n_v vs 0) 2)) (w_ei ws (w_ar ws (n_v vs 0) 95)) (w_ei ws (w_ar ws (n_v vs 0) 102)) (w_ei ws (w_ar ws (n_v vs 0) 104)) (w_ei ws (w_ar ws (n_v vs 0) 108)) (w_ei ws (w_ar ws (n_v vs 0) 109)) (w_fi ws (n_v vs 0) 5) (w_fi ws (n_v vs 0) 100) (w_fi ws (n_v vs 0) 101) (w_fi ws (n_v vs 0) 107) (w_ei ws (w_ar ws (n_v vs 0) 105)) k1 k3 k4 k5 k7 k8 k9 k10 d0 d1 d2 d3 d4 f0 h1 (shm_12 f2) f3 f5 f6 f7 f8 (shm_678 f9) hK_0_95 hK_0_102 hK_0_104 hK_0_105 hK_0_106 hK_0_108 hK_0_109 kz_0_100 kz_0_101 kz_0_107)⟩
  refine ⟨(fun _ h => (by cases h)), [], trivial, ?_, (fun _ h => (by cases h))⟩
  rw [List.append_nil]
  exact List.forall_mem_cons.mpr ⟨⟨show (20 : Nat) < 100 from by decide, nf0⟩, (fun _ h => (by cases h))⟩
set_option maxHeartbeats 4000000 in
theorem vc_Mo_placeOf_2_r0 (x1 : Int) (x3 : Int) (x4 : Int) (x5 : Int) (x7 : Int) (x8 : Int) (x9 : Int) (x10 : Int) (x11 : Int) (layerItem_0 : Int → Int) (all_0 : Int → Int) (turned_0 : Int → Int) (itemLayer_0 : Int → Int) (firstJoint_0 : Int → Int) (lineA_0 : Int → Int) (lineB_0 : Int → Int) (r_0 : Int) (items_0 : Int) (layerMany_0 : Int) (lines_0 : Int) (layerSize_0 : Int → Int) (k1 : 0 ≤ x1 ∧ x1 ≤ 75) (k3 : 0 ≤ x3 ∧ x3 ≤ 75) (k4 : 0 ≤ x4 ∧ x4 ≤ 75) (k5 : 0 ≤ x5 ∧ x5 ≤ 75) (k7 : 76 ≤ x7 ∧ x7 ≤ 76) (k8 : 0 ≤ x8 ∧ x8 ≤ 5700) (k9 : 0 ≤ x9 ∧ x9 ≤ 5775) (k10 : 0 ≤ x10 ∧ x10 ≤ 75) (k11 : 1 ≤ x11 ∧ x11 ≤ 76) (d0 : x5 + 1 ≤ x11 ∧ x11 ≤ x5 + 1) (d1 : x5 + 0 ≤ x9 ∧ x9 ≤ x5 + 5700) (d2 : x8 + 0 ≤ x9 ∧ x9 ≤ x8 + 75) (d3 : x3 + (-4294967296) ≤ x1 ∧ x1 ≤ x3 + 0) (d4 : x1 + (-4294967296) ≤ x3 ∧ x3 ≤ x1 + 0) (f0 : x11 = x5 + 1) (f1 : x10 ≠ x1) (h2 : x10 = layerItem_0 (x9)) (f3 : x9 = x8 + x5) (f4 : x8 = 76 * x4) (f6 : LSA (r_0) (items_0) (layerMany_0) (lines_0) (all_0) (turned_0) (itemLayer_0) (firstJoint_0) (lineA_0) (lineB_0)) (f7 : LSB (items_0) (layerMany_0) (itemLayer_0) (layerSize_0) (layerItem_0)) (f8 : PLG (itemLayer_0) (layerItem_0) (x1) (x4) (x5)) (f9 : (0 ≤ x1) ∧ ((x1 + 1) ≤ items_0)) (f10 : (x4 ≤ 23) ∧ (x5 ≤ 75)) (hK_0_95 : ∀ j : Int, 0 ≤ j → j < 48 → 0 ≤ turned_0 j ∧ turned_0 j ≤ 1) (hK_0_102 : ∀ j : Int, 0 ≤ j → j < 76 → 0 ≤ itemLayer_0 j ∧ itemLayer_0 j ≤ 75) (hK_0_104 : ∀ j : Int, 0 ≤ j → j < 48 → 0 ≤ firstJoint_0 j ∧ firstJoint_0 j ≤ 76) (hK_0_105 : ∀ j : Int, 0 ≤ j → j < 76 → 0 ≤ layerSize_0 j ∧ layerSize_0 j ≤ 76) (hK_0_106 : ∀ j : Int, 0 ≤ j → j < 5776 → 0 ≤ layerItem_0 j ∧ layerItem_0 j ≤ 75) (hK_0_108 : ∀ j : Int, 0 ≤ j → j < 130 → 0 ≤ lineA_0 j ∧ lineA_0 j ≤ 75) (hK_0_109 : ∀ j : Int, 0 ≤ j → j < 130 → 0 ≤ lineB_0 j ∧ lineB_0 j ≤ 75) (kz_0_100 : 0 ≤ items_0 ∧ items_0 ≤ 76) (kz_0_101 : 0 ≤ layerMany_0 ∧ layerMany_0 ≤ 76) (kz_0_107 : 0 ≤ lines_0 ∧ lines_0 ≤ 130) : 1 ≤ x11 ∧ x11 ≤ 75 := by
  have h := plg_bd ‹LSA _ _ _ _ _ _ _ _ _ _› ‹LSB _ _ _ _ _› (plg_next (q := x9) (v := x10) ‹PLG _ _ _ _ _› ‹x11 = x5 + 1› (by omega) (by assumption) (by omega)) (by omega) (by omega) (by omega)
  omega
def o_Mo_placeOf_2 : or_T := (27, 12, [(0, (2, 0, 0, [165])), (1, (0, 0, 75, [])), (2, (2, 0, 0, [165])), (3, (0, 0, 75, [])), (4, (0, 0, 75, [])), (5, (0, 0, 75, [])), (6, (2, 0, 0, [239])), (7, (0, 76, 76, [])), (8, (0, 0, 5700, [])), (9, (0, 0, 5775, [])), (10, (0, 0, 75, [])), (11, (0, 1, 76, []))], [(6, [11, 5], [1]), (7, [10, 3], [1]), (10, [10, 6, 9], []), (1, [9, 8, 5], []), (3, [8, 7, 4], []), (9, [6, 2], [106]), (20, [2], [60, 4, 6, 445, 5, 100, 101, 107, 2, 95, 102, 104, 108, 109]), (20, [2], [60, 2, 3, 448, 100, 101, 102, 105, 106]), (20, [2, 3, 4, 5], [60, 0, 2, 450, 102, 106]), (20, [3, 2], [50, 1, 0, 1100, 2, 6, 0, 2, 0, 0, 1, 0, 0, 6, 4, 2, 1, 0, 0, 1, 2, 1, 100]), (20, [4, 5], [50, 0, 0, 2, 6, 0, 2, 1, 0, 0, 23, 0, 2, 1, 1, 0, 75]), (24, [0, 2], []), (24, [1, 3], [])], [(11, (0, 1, 75, []))], [], [], [], [(11, 5, 1, 1), (9, 5, 0, 5700), (9, 8, 0, 75), (1, 3, -4294967296, 0), (3, 1, -4294967296, 0)])
theorem oo_Mo_placeOf_2 {kA : Nat → ClassId} : or_ok PRD kA GG o_Mo_placeOf_2 := by
  refine or_mk fun A ta ws vs hD hth hl => ?_
  intro t0 r0 t1 k1 t2 r2 t3 k3 t4 k4 t5 k5 t6 r6 t7 k7 t8 k8 t9 k9 t10 k10 t11 k11 d0 d1 d2 d3 d4 f0 f1 f2 f3 f4 f5 f6 f7 f8 f9 f10 f11 f12
  replace f1 := shm_40 f1
  replace f2 := shm_107 f2
  replace f4 := shm_38 f4
  rw [show v_iv (n_v vs 7) = 76 from by omega] at f4
  replace f5 := shm_679 f5
  replace f6 := shm_674 f6
  replace f7 := shm_675 f7
  replace f8 := shm_677 f8
  replace f9 := shm_676 f9
  replace f11 := shm_5 f11
  replace f12 := shm_5 f12
  have q2 : n_v vs 2 = n_v vs 0 := f11.symm
  have q3 : n_v vs 3 = n_v vs 1 := f12.symm
  simp only [q3, q2] at f1 f5 f6 f7 f8 f9
  have cr_0_95 := fdq_130 hD hth r0
  have cr_0_102 := fdq_159 hD hth r0
  have cr_0_104 := fdq_170 hD hth r0
  have cr_0_105 := fdq_122 hD hth r0
  have cr_0_106 := fdq_123 hD hth r0
  have cr_0_108 := fdq_160 hD hth r0
  have cr_0_109 := fdq_161 hD hth r0
  have ad_6 : v_ad (n_v vs 6) = w_ar ws (n_v vs 0) 106 := congrArg v_ad f5
  simp only [ad_6] at f2
  have h2 : v_iv (n_v vs 10) = w_ei ws (w_ar ws (n_v vs 0) 106) (v_iv (n_v vs 9)) := f2
  have hK_0_95 := elq_71 hD hth cr_0_95
  have hK_0_102 := elq_91 hD hth cr_0_102
  have hK_0_104 := elq_100 hD hth cr_0_104
  have hK_0_105 := elq_65 hD hth cr_0_105
  have hK_0_106 := elq_66 hD hth cr_0_106
  have hK_0_108 := elq_92 hD hth cr_0_108
  have hK_0_109 := elq_93 hD hth cr_0_109
  have kz_0_100 := fdq_162 hD hth r0
  have kz_0_101 := fdq_125 hD hth r0
  have kz_0_107 := fdq_163 hD hth r0
  have hrf0 : 1 ≤ v_iv (n_v vs 11) ∧ v_iv (n_v vs 11) ≤ 75 := vc_Mo_placeOf_2_r0 (v_iv (n_v vs 1)) (v_iv (n_v vs 3)) (v_iv (n_v vs 4)) (v_iv (n_v vs 5)) (v_iv (n_v vs 7)) (v_iv (n_v vs 8)) (v_iv (n_v vs 9)) (v_iv (n_v vs 10)) (v_iv (n_v vs 11)) (w_ei ws (w_ar ws (n_v vs 0) 106)) (w_ei ws (w_ar ws (n_v vs 0) 2)) (w_ei ws (w_ar ws (n_v vs 0) 95)) (w_ei ws (w_ar ws (n_v vs 0) 102)) (w_ei ws (w_ar ws (n_v vs 0) 104)) (w_ei ws (w_ar ws (n_v vs 0) 108)) (w_ei ws (w_ar ws (n_v vs 0) 109)) (w_fi ws (n_v vs 0) 5) (w_fi ws (n_v vs 0) 100) (w_fi ws (n_v vs 0) 101) (w_fi ws (n_v vs 0) 107) (w_ei ws (w_ar ws (n_v vs 0) 105)) k1 k3 k4 k5 k7 k8 k9 k10 k11 d0 d1 d2 d3 d4 (shm_4 f0) f1 h2 (shm_12 f3) f4 f6 f7 f8 f9 (shm_678 f10) hK_0_95 hK_0_102 hK_0_104 hK_0_105 hK_0_106 hK_0_108 hK_0_109 kz_0_100 kz_0_101 kz_0_107
  have rf11 : tv_ok ta (0, 1, 75, []) (n_v vs 11) := tv_in t11 (by first | omega | grind) (by first | omega | grind)
  refine ⟨List.forall_mem_cons.mpr ⟨rf11, (fun _ h => (by cases h))⟩, [], trivial, ?_, (fun _ h => (by cases h))⟩
  rw [List.append_nil]
  exact (fun _ h => (by cases h))
set_option maxHeartbeats 4000000 in
theorem vc_Mo_placeOf_3_0 (x1 : Int) (x3 : Int) (x4 : Int) (x5 : Int) (x7 : Int) (x8 : Int) (x9 : Int) (x10 : Int) (x11 : Int) (layerItem_0 : Int → Int) (all_0 : Int → Int) (turned_0 : Int → Int) (itemLayer_0 : Int → Int) (firstJoint_0 : Int → Int) (lineA_0 : Int → Int) (lineB_0 : Int → Int) (r_0 : Int) (items_0 : Int) (layerMany_0 : Int) (lines_0 : Int) (layerSize_0 : Int → Int) (k1 : 0 ≤ x1 ∧ x1 ≤ 75) (k3 : 0 ≤ x3 ∧ x3 ≤ 75) (k4 : 0 ≤ x4 ∧ x4 ≤ 75) (k5 : 0 ≤ x5 ∧ x5 ≤ 75) (k7 : 76 ≤ x7 ∧ x7 ≤ 76) (k8 : 0 ≤ x8 ∧ x8 ≤ 5700) (k9 : 0 ≤ x9 ∧ x9 ≤ 5775) (k10 : 0 ≤ x10 ∧ x10 ≤ 75) (k11 : 1 ≤ x11 ∧ x11 ≤ 75) (d0 : x5 + 1 ≤ x11 ∧ x11 ≤ x5 + 1) (d1 : x5 + 0 ≤ x9 ∧ x9 ≤ x5 + 5700) (d2 : x8 + 0 ≤ x9 ∧ x9 ≤ x8 + 75) (d3 : x3 + (-4294967296) ≤ x1 ∧ x1 ≤ x3 + 0) (d4 : x1 + (-4294967296) ≤ x3 ∧ x3 ≤ x1 + 0) (f0 : x11 = x5 + 1) (f1 : x10 ≠ x1) (h2 : x10 = layerItem_0 (x9)) (f3 : x9 = x8 + x5) (f4 : x8 = 76 * x4) (f6 : LSA (r_0) (items_0) (layerMany_0) (lines_0) (all_0) (turned_0) (itemLayer_0) (firstJoint_0) (lineA_0) (lineB_0)) (f7 : LSB (items_0) (layerMany_0) (itemLayer_0) (layerSize_0) (layerItem_0)) (f8 : PLG (itemLayer_0) (layerItem_0) (x1) (x4) (x5)) (f9 : (0 ≤ x1) ∧ ((x1 + 1) ≤ items_0)) (f10 : (x4 ≤ 23) ∧ (x5 ≤ 75)) (hK_0_95 : ∀ j : Int, 0 ≤ j → j < 48 → 0 ≤ turned_0 j ∧ turned_0 j ≤ 1) (hK_0_102 : ∀ j : Int, 0 ≤ j → j < 76 → 0 ≤ itemLayer_0 j ∧ itemLayer_0 j ≤ 75) (hK_0_104 : ∀ j : Int, 0 ≤ j → j < 48 → 0 ≤ firstJoint_0 j ∧ firstJoint_0 j ≤ 76) (hK_0_105 : ∀ j : Int, 0 ≤ j → j < 76 → 0 ≤ layerSize_0 j ∧ layerSize_0 j ≤ 76) (hK_0_106 : ∀ j : Int, 0 ≤ j → j < 5776 → 0 ≤ layerItem_0 j ∧ layerItem_0 j ≤ 75) (hK_0_108 : ∀ j : Int, 0 ≤ j → j < 130 → 0 ≤ lineA_0 j ∧ lineA_0 j ≤ 75) (hK_0_109 : ∀ j : Int, 0 ≤ j → j < 130 → 0 ≤ lineB_0 j ∧ lineB_0 j ≤ 75) (kz_0_100 : 0 ≤ items_0 ∧ items_0 ≤ 76) (kz_0_101 : 0 ≤ layerMany_0 ∧ layerMany_0 ≤ 76) (kz_0_107 : 0 ≤ lines_0 ∧ lines_0 ≤ 130) : PLG (itemLayer_0) (layerItem_0) (x1) (x4) (x11) := by
  first
    | exact plg_zero (by assumption) (by omega)
    | exact plg_next (q := x9) (v := x10) ‹PLG _ _ _ _ _› (by assumption) (by omega) (by assumption) (by omega)
set_option maxHeartbeats 4000000 in
theorem vc_Mo_placeOf_3_1 (x1 : Int) (x3 : Int) (x4 : Int) (x5 : Int) (x7 : Int) (x8 : Int) (x9 : Int) (x10 : Int) (x11 : Int) (layerItem_0 : Int → Int) (all_0 : Int → Int) (turned_0 : Int → Int) (itemLayer_0 : Int → Int) (firstJoint_0 : Int → Int) (lineA_0 : Int → Int) (lineB_0 : Int → Int) (r_0 : Int) (items_0 : Int) (layerMany_0 : Int) (lines_0 : Int) (layerSize_0 : Int → Int) (k1 : 0 ≤ x1 ∧ x1 ≤ 75) (k3 : 0 ≤ x3 ∧ x3 ≤ 75) (k4 : 0 ≤ x4 ∧ x4 ≤ 75) (k5 : 0 ≤ x5 ∧ x5 ≤ 75) (k7 : 76 ≤ x7 ∧ x7 ≤ 76) (k8 : 0 ≤ x8 ∧ x8 ≤ 5700) (k9 : 0 ≤ x9 ∧ x9 ≤ 5775) (k10 : 0 ≤ x10 ∧ x10 ≤ 75) (k11 : 1 ≤ x11 ∧ x11 ≤ 75) (d0 : x5 + 1 ≤ x11 ∧ x11 ≤ x5 + 1) (d1 : x5 + 0 ≤ x9 ∧ x9 ≤ x5 + 5700) (d2 : x8 + 0 ≤ x9 ∧ x9 ≤ x8 + 75) (d3 : x3 + (-4294967296) ≤ x1 ∧ x1 ≤ x3 + 0) (d4 : x1 + (-4294967296) ≤ x3 ∧ x3 ≤ x1 + 0) (f0 : x11 = x5 + 1) (f1 : x10 ≠ x1) (h2 : x10 = layerItem_0 (x9)) (f3 : x9 = x8 + x5) (f4 : x8 = 76 * x4) (f6 : LSA (r_0) (items_0) (layerMany_0) (lines_0) (all_0) (turned_0) (itemLayer_0) (firstJoint_0) (lineA_0) (lineB_0)) (f7 : LSB (items_0) (layerMany_0) (itemLayer_0) (layerSize_0) (layerItem_0)) (f8 : PLG (itemLayer_0) (layerItem_0) (x1) (x4) (x5)) (f9 : (0 ≤ x1) ∧ ((x1 + 1) ≤ items_0)) (f10 : (x4 ≤ 23) ∧ (x5 ≤ 75)) (hK_0_95 : ∀ j : Int, 0 ≤ j → j < 48 → 0 ≤ turned_0 j ∧ turned_0 j ≤ 1) (hK_0_102 : ∀ j : Int, 0 ≤ j → j < 76 → 0 ≤ itemLayer_0 j ∧ itemLayer_0 j ≤ 75) (hK_0_104 : ∀ j : Int, 0 ≤ j → j < 48 → 0 ≤ firstJoint_0 j ∧ firstJoint_0 j ≤ 76) (hK_0_105 : ∀ j : Int, 0 ≤ j → j < 76 → 0 ≤ layerSize_0 j ∧ layerSize_0 j ≤ 76) (hK_0_106 : ∀ j : Int, 0 ≤ j → j < 5776 → 0 ≤ layerItem_0 j ∧ layerItem_0 j ≤ 75) (hK_0_108 : ∀ j : Int, 0 ≤ j → j < 130 → 0 ≤ lineA_0 j ∧ lineA_0 j ≤ 75) (hK_0_109 : ∀ j : Int, 0 ≤ j → j < 130 → 0 ≤ lineB_0 j ∧ lineB_0 j ≤ 75) (kz_0_100 : 0 ≤ items_0 ∧ items_0 ≤ 76) (kz_0_101 : 0 ≤ layerMany_0 ∧ layerMany_0 ≤ 76) (kz_0_107 : 0 ≤ lines_0 ∧ lines_0 ≤ 130) : (x4 ≤ 23) ∧ (x11 ≤ 75) := by
  first
    | omega
    | (have h := ‹LSA _ _ _ _ _ _ _ _ _ _›.2.2.1 x1 (by omega) (by omega); have h2 := ‹LSA _ _ _ _ _ _ _ _ _ _›.2.1; omega)
def o_Mo_placeOf_3 : or_T := (9, 12, [(0, (2, 0, 0, [165])), (1, (0, 0, 75, [])), (3, (0, 0, 75, [])), (4, (0, 0, 75, [])), (5, (0, 0, 75, [])), (7, (0, 76, 76, [])), (8, (0, 0, 5700, [])), (9, (0, 0, 5775, [])), (10, (0, 0, 75, [])), (11, (0, 1, 75, []))], [(6, [11, 5], [1]), (7, [10, 3], [1]), (10, [10, 6, 9], []), (1, [9, 8, 5], []), (3, [8, 7, 4], []), (9, [6, 2], [106]), (20, [2], [60, 4, 6, 445, 5, 100, 101, 107, 2, 95, 102, 104, 108, 109]), (20, [2], [60, 2, 3, 448, 100, 101, 102, 105, 106]), (20, [2, 3, 4, 5], [60, 0, 2, 450, 102, 106]), (20, [3, 2], [50, 1, 0, 1100, 2, 6, 0, 2, 0, 0, 1, 0, 0, 6, 4, 2, 1, 0, 0, 1, 2, 1, 100]), (20, [4, 5], [50, 0, 0, 2, 6, 0, 2, 1, 0, 0, 23, 0, 2, 1, 1, 0, 75]), (24, [0, 2], []), (24, [1, 3], [])], [], [], [(20, [2, 3, 4, 11], [60, 0, 2, 450, 102, 106]), (20, [4, 11], [50, 0, 0, 2, 6, 0, 2, 1, 0, 0, 23, 0, 2, 1, 1, 0, 75])], [], [(11, 5, 1, 1), (9, 5, 0, 5700), (9, 8, 0, 75), (1, 3, -4294967296, 0), (3, 1, -4294967296, 0)])
theorem oo_Mo_placeOf_3 {kA : Nat → ClassId} : or_ok PRD kA GG o_Mo_placeOf_3 := by
  refine or_mk fun A ta ws vs hD hth hl => ?_
  intro t0 r0 t1 k1 t3 k3 t4 k4 t5 k5 t7 k7 t8 k8 t9 k9 t10 k10 t11 k11 d0 d1 d2 d3 d4 f0 f1 f2 f3 f4 f5 f6 f7 f8 f9 f10 f11 f12
  replace f0 := shm_4 f0
  replace f1 := shm_40 f1
  replace f2 := shm_107 f2
  replace f3 := shm_12 f3
  replace f4 := shm_38 f4
  rw [show v_iv (n_v vs 7) = 76 from by omega] at f4
  replace f5 := shm_679 f5
  replace f6 := shm_674 f6
  replace f7 := shm_675 f7
  replace f8 := shm_677 f8
  replace f9 := shm_676 f9
  replace f10 := shm_678 f10
  replace f11 := shm_5 f11
  replace f12 := shm_5 f12
  have q2 : n_v vs 2 = n_v vs 0 := f11.symm
  have q3 : n_v vs 3 = n_v vs 1 := f12.symm
  simp only [q3, q2] at f1 f5 f6 f7 f8 f9
  have cr_0_95 := fdq_130 hD hth r0
  have cr_0_102 := fdq_159 hD hth r0
  have cr_0_104 := fdq_170 hD hth r0
  have cr_0_105 := fdq_122 hD hth r0
  have cr_0_106 := fdq_123 hD hth r0
  have cr_0_108 := fdq_160 hD hth r0
  have cr_0_109 := fdq_161 hD hth r0
  have ad_6 : v_ad (n_v vs 6) = w_ar ws (n_v vs 0) 106 := congrArg v_ad f5
  simp only [ad_6] at f2
  have h2 : v_iv (n_v vs 10) = w_ei ws (w_ar ws (n_v vs 0) 106) (v_iv (n_v vs 9)) := f2
  have hK_0_95 := elq_71 hD hth cr_0_95
  have hK_0_102 := elq_91 hD hth cr_0_102
  have hK_0_104 := elq_100 hD hth cr_0_104
  have hK_0_105 := elq_65 hD hth cr_0_105
  have hK_0_106 := elq_66 hD hth cr_0_106
  have hK_0_108 := elq_92 hD hth cr_0_108
  have hK_0_109 := elq_93 hD hth cr_0_109
  have kz_0_100 := fdq_162 hD hth r0
  have kz_0_101 := fdq_125 hD hth r0
  have kz_0_107 := fdq_163 hD hth r0
  have nf0 : fc_1 PRD (20, [2, 3, 4, 11], [60, 0, 2, 450, 102, 106]) ws (vs) := by
    refine ⟨nf_in hl rfl, sgq_677 ?_⟩
    · show PLG (w_ei ws (w_ar ws (n_v vs 2) 102)) (w_ei ws (w_ar ws (n_v vs 2) 106)) (v_iv (n_v vs 3)) (v_iv (n_v vs 4)) (v_iv (n_v vs 11))
      simp only [q2, q3]
      exact vc_Mo_placeOf_3_0 (v_iv (n_v vs 1)) (v_iv (n_v vs 3)) (v_iv (n_v vs 4)) (v_iv (n_v vs 5)) (v_iv (n_v vs 7)) (v_iv (n_v vs 8)) (v_iv (n_v vs 9)) (v_iv (n_v vs 10)) (v_iv (n_v vs 11)) (w_ei ws (w_ar ws (n_v vs 0) 106)) (w_ei ws (w_ar ws (n_v vs 0) 2)) (w_ei ws (w_ar ws (n_v vs 0) 95)) (w_ei ws (w_ar ws (n_v vs 0) 102)) (w_ei ws (w_ar ws (n_v vs 0) 104)) (w_ei ws (w_ar ws (n_v vs 0) 108)) (w_ei ws (w_ar ws (n_v vs 0) 109)) (w_fi ws (n_v vs 0) 5) (w_fi ws (n_v vs 0) 100) (w_fi ws (n_v vs 0) 101) (w_fi ws (n_v vs 0) 107) (w_ei ws (w_ar ws (n_v vs 0) 105)) k1 k3 k4 k5 k7 k8 k9 k10 k11 d0 d1 d2 d3 d4 f0 f1 h2 f3 f4 f6 f7 f8 f9 f10 hK_0_95 hK_0_102 hK_0_104 hK_0_105 hK_0_106 hK_0_108 hK_0_109 kz_0_100 kz_0_101 kz_0_107
  have nf1 : fc_1 PRD (20, [4, 11], [50, 0, 0, 2, 6, 0, 2, 1, 0, 0, 23, 0, 2, 1, 1, 0, 75]) ws (vs) := ⟨nf_in hl rfl, sgq_678 (vc_Mo_placeOf_3_1 (v_iv (n_v vs 1)) (v_iv (n_v vs 3)) (v_iv (n_v vs 4)) (v_iv (n_v vs 5)) (v_iv (n_v vs 7)) (v_iv (n_v vs 8)) (v_iv (n_v vs 9)) (v_iv (n_v vs 10)) (v_iv (n_v vs 11)) (w_ei ws (w_ar ws (n_v vs 0) 106)) (w_ei ws (w_ar ws (n_v vs 0) 2)) (w_ei ws (w_ar ws (n_v vs 0) 95)) (w_ei ws (w_ar ws (n_v vs 0) 102)) (w_ei ws (w_ar ws (n_v vs 0) 104)) (w_ei ws (w_ar ws (n_v vs 0) 108)) (w_ei ws (w_ar ws (n_v vs 0) 109)) (w_fi ws (n_v vs 0) 5) (w_fi ws (n_v vs 0) 100) (w_fi ws (n_v vs 0) 101) (w_fi ws (n_v vs 0) 107) (w_ei ws (w_ar ws (n_v vs 0) 105)) k1 k3 k4 k5 k7 k8 k9 k10 k11 d0 d1 d2 d3 d4 f0 f1 h2 f3 f4 f6 f7 f8 f9 f10 hK_0_95 hK_0_102 hK_0_104 hK_0_105 hK_0_106 hK_0_108 hK_0_109 kz_0_100 kz_0_101 kz_0_107)⟩
  refine ⟨(fun _ h => (by cases h)), [], trivial, ?_, (fun _ h => (by cases h))⟩
  rw [List.append_nil]
  exact List.forall_mem_cons.mpr ⟨⟨show (20 : Nat) < 100 from by decide, nf0⟩, List.forall_mem_cons.mpr ⟨⟨show (20 : Nat) < 100 from by decide, nf1⟩, (fun _ h => (by cases h))⟩⟩
def n_Mo_placeOf_an : List an_T := [(9, [(0, (2, 0, 0, [165])), (1, (0, 0, 75, [])), (2, (0, 0, 75, [])), (3, (0, 0, 75, []))], [], (0, 0), [(0, 0, 99991), (1, 5, 75), (0, 0, 100000)], [(1, 3, (Int.negSucc 999999999999), 0), (3, 1, (Int.negSucc 999999999999), 0)], [], [(2, 0, 0, [165]), (0, 0, 75, [])], 0, [], [(20, [2], [60, 4, 6, 445, 5, 100, 101, 107, 2, 95, 102, 104, 108, 109]), (20, [2], [60, 2, 3, 448, 100, 101, 102, 105, 106]), (20, [2, 3, 4, 5], [60, 0, 2, 450, 102, 106]), (20, [3, 2], [50, 1, 0, 1100, 2, 6, 0, 2, 0, 0, 1, 0, 0, 6, 4, 2, 1, 0, 0, 1, 2, 1, 100]), (20, [4, 5], [50, 0, 0, 2, 6, 0, 2, 1, 0, 0, 23, 0, 2, 1, 1, 0, 75]), (24, [0, 2], []), (24, [1, 3], [])])]
def t_Mo_placeOf_ct : ct_L := []
set_option maxRecDepth 100000 in
theorem c_Mo_placeOf {l : Launch} {D : va_G} {kA : Nat → ClassId} : ct_ok PRD l D kA GG y_Mo_placeOf z_Mo_placeOf e_Mo_placeOf := chk_all_ok (FT := [(222, 13, 102), (234, 13, 106)]) (PT := []) (CT := t_Mo_placeOf_ct) (KT := []) (NT := []) (AN := n_Mo_placeOf_an) (OT := [o_Mo_placeOf_0, o_Mo_placeOf_1, o_Mo_placeOf_2, o_Mo_placeOf_3]) 3 200 (List.forall_mem_cons.mpr ⟨oo_Mo_placeOf_0, List.forall_mem_cons.mpr ⟨oo_Mo_placeOf_1, List.forall_mem_cons.mpr ⟨oo_Mo_placeOf_2, List.forall_mem_cons.mpr ⟨oo_Mo_placeOf_3, List.forall_mem_nil _⟩⟩⟩⟩) (by decide +kernel) ⟨List.forall_mem_cons.mpr ⟨gf_Mo_222, List.forall_mem_cons.mpr ⟨gf_Mo_234, List.forall_mem_nil _⟩⟩, List.forall_mem_nil _, List.forall_mem_nil _, List.forall_mem_nil _, List.forall_mem_nil _, GG_pl⟩ (by decide +kernel)
set_option maxHeartbeats 4000000 in
theorem vc_Mo_pointsOf_0_0 (x1 : Int) (x3 : Int) (x4 : Int) (x5 : Int) (x6 : Int) (x7 : Int) (x8 : Int) (x9 : Int) (bendMany_0 : Int → Int) (g0_0 : Int) (k1 : 0 ≤ x1 ∧ x1 ≤ 47) (k3 : 48 ≤ x3 ∧ x3 ≤ 48) (k4 : 0 ≤ x4 ∧ x4 ≤ 3) (k5 : 0 ≤ x5 ∧ x5 ≤ 144) (k6 : 0 ≤ x6 ∧ x6 ≤ 191) (k7 : 0 ≤ x7 ∧ x7 ≤ 24) (k8 : 2 ≤ x8 ∧ x8 ≤ 2) (k9 : 2 ≤ x9 ∧ x9 ≤ 26) (d0 : x7 + 2 ≤ x9 ∧ x9 ≤ x7 + 2) (d1 : x1 + 0 ≤ x6 ∧ x6 ≤ x1 + 144) (d2 : x5 + 0 ≤ x6 ∧ x6 ≤ x5 + 47) (f0 : x9 = x7 + x8) (h1 : x7 = bendMany_0 (x6)) (f2 : x6 = x5 + x1) (f3 : x5 = 48 * x4) (g4 : x4 = g0_0) (hK_0_64 : ∀ j : Int, 0 ≤ j → j < 192 → 0 ≤ bendMany_0 j ∧ bendMany_0 j ≤ 24) (kz_0_139 : 0 ≤ g0_0 ∧ g0_0 ≤ 3) : x9 = (bendMany_0 (((48 * g0_0) + x1)) + 2) := by
  first | assumption | (clear hK_0_64; omega) | omega | grind
def o_Mo_pointsOf_0 : or_T := (16, 10, [(0, (2, 0, 0, [165])), (1, (0, 0, 47, [])), (3, (0, 48, 48, [])), (4, (0, 0, 3, [])), (5, (0, 0, 144, [])), (6, (0, 0, 191, [])), (7, (0, 0, 24, [])), (8, (0, 2, 2, [])), (9, (0, 2, 26, []))], [(1, [9, 7, 8], []), (10, [7, 2, 6], []), (1, [6, 5, 1], []), (3, [5, 3, 4], []), (9, [4, 0], [139]), (9, [2, 0], [64])], [], [], [(20, [9, 0, 1], [50, 1, 1, 1139, 1064, 1, 2, 1, 0, 4, 14, 3, 1, 64, 4, 7, 6, 2, 0, 48, 2, 1, 139, 1, 2, 0, 2])], [], [(9, 7, 2, 2), (6, 1, 0, 144), (6, 5, 0, 47)])
theorem oo_Mo_pointsOf_0 {kA : Nat → ClassId} : or_ok PRD kA GG o_Mo_pointsOf_0 := by
  refine or_mk fun A ta ws vs hD hth hl => ?_
  intro t0 r0 t1 k1 t3 k3 t4 k4 t5 k5 t6 k6 t7 k7 t8 k8 t9 k9 d0 d1 d2 f0 f1 f2 f3 f4 f5
  replace f1 := shm_107 f1
  replace f3 := shm_38 f3
  rw [show v_iv (n_v vs 3) = 48 from by omega] at f3
  replace f4 := shm_681 f4
  replace f5 := shm_682 f5
  have cr_0_64 := fdq_171 hD hth r0
  have ad_2 : v_ad (n_v vs 2) = w_ar ws (n_v vs 0) 64 := congrArg v_ad f5
  simp only [ad_2] at f1
  have h1 : v_iv (n_v vs 7) = w_ei ws (w_ar ws (n_v vs 0) 64) (v_iv (n_v vs 6)) := f1
  have g4 : v_iv (n_v vs 4) = w_fi ws (n_v vs 0) 139 := congrArg v_iv f4
  have hK_0_64 := elq_101 hD hth cr_0_64
  have kz_0_139 := fdq_172 hD hth r0
  have nf0 : fc_1 PRD (20, [9, 0, 1], [50, 1, 1, 1139, 1064, 1, 2, 1, 0, 4, 14, 3, 1, 64, 4, 7, 6, 2, 0, 48, 2, 1, 139, 1, 2, 0, 2]) ws (vs) := ⟨nf_in hl rfl, sgq_683 (vc_Mo_pointsOf_0_0 (v_iv (n_v vs 1)) (v_iv (n_v vs 3)) (v_iv (n_v vs 4)) (v_iv (n_v vs 5)) (v_iv (n_v vs 6)) (v_iv (n_v vs 7)) (v_iv (n_v vs 8)) (v_iv (n_v vs 9)) (w_ei ws (w_ar ws (n_v vs 0) 64)) (w_fi ws (n_v vs 0) 139) k1 k3 k4 k5 k6 k7 k8 k9 d0 d1 d2 (shm_12 f0) h1 (shm_12 f2) f3 g4 hK_0_64 kz_0_139)⟩
  refine ⟨(fun _ h => (by cases h)), [], trivial, ?_, (fun _ h => (by cases h))⟩
  rw [List.append_nil]
  exact List.forall_mem_cons.mpr ⟨⟨show (20 : Nat) < 100 from by decide, nf0⟩, (fun _ h => (by cases h))⟩
def n_Mo_pointsOf_an : List an_T := []
def t_Mo_pointsOf_ct : ct_L := []
set_option maxRecDepth 100000 in
theorem c_Mo_pointsOf {l : Launch} {D : va_G} {kA : Nat → ClassId} : ct_ok PRD l D kA GG y_Mo_pointsOf z_Mo_pointsOf e_Mo_pointsOf := chk_all_ok (FT := [(129, 13, 64), (1020, 13, 139)]) (PT := []) (CT := t_Mo_pointsOf_ct) (KT := []) (NT := []) (AN := n_Mo_pointsOf_an) (OT := [o_Mo_pointsOf_0]) 0 200 (List.forall_mem_cons.mpr ⟨oo_Mo_pointsOf_0, List.forall_mem_nil _⟩) (by decide +kernel) ⟨List.forall_mem_cons.mpr ⟨gf_Mo_129, List.forall_mem_cons.mpr ⟨gf_Mo_1020, List.forall_mem_nil _⟩⟩, List.forall_mem_nil _, List.forall_mem_nil _, List.forall_mem_nil _, List.forall_mem_nil _, GG_pl⟩ (by decide +kernel)
set_option maxHeartbeats 4000000 in
theorem vc_Mo_putAt_at_g1_0_0 (x1 : Int) (x2 : Int) (x3 : Int) (x4 : Int) (x6 : Int) (rotMany_0 : Int → Int) (pt_0 : Int → Int) (ph_0 : Int → Int) (alive_0 : Int → Int) (rot_0 : Int → Int) (pn_0 : Int) (pm_0 : Int) (k1 : 0 ≤ x1 ∧ x1 ≤ 24) (k2 : 0 ≤ x2 ∧ x2 ≤ 79) (k3 : 0 ≤ x3 ∧ x3 ≤ 79) (k4 : 0 ≤ x4 ∧ x4 ≤ 24) (k6 : 0 ≤ x6 ∧ x6 ≤ 80) (h0 : x6 = rotMany_0 (x1)) (f2 : PAa (pn_0) (pm_0) (pt_0) (ph_0) (alive_0) (rotMany_0) (rot_0) (x1) (x2) (x3) (x4)) (hK_0_33 : ∀ j : Int, 0 ≤ j → j < 80 → 0 ≤ pt_0 j ∧ pt_0 j ≤ 24) (hK_0_34 : ∀ j : Int, 0 ≤ j → j < 80 → 0 ≤ ph_0 j ∧ ph_0 j ≤ 24) (hK_0_35 : ∀ j : Int, 0 ≤ j → j < 80 → 0 ≤ alive_0 j ∧ alive_0 j ≤ 1) (hK_0_36 : ∀ j : Int, 0 ≤ j → j < 26 → 0 ≤ rotMany_0 j ∧ rotMany_0 j ≤ 80) (hK_0_37 : ∀ j : Int, 0 ≤ j → j < 2080 → 0 ≤ rot_0 j ∧ rot_0 j ≤ 79) (kz_0_31 : 0 ≤ pn_0 ∧ pn_0 ≤ 25) (kz_0_32 : 0 ≤ pm_0 ∧ pm_0 ≤ 80) : PLa (pn_0) (pm_0) (pt_0) (ph_0) (alive_0) (rotMany_0) (rot_0) (x1) (x2) (x3) (x6) (x4) := by
  first
    | exact pal_start ‹PAa _ _ _ _ _ _ _ _ _ _ _› (by omega)
    | exact pal_step ‹PLa _ _ _ _ _ _ _ _ _ _ _ _› (by omega) (by omega) (by assumption) (by omega) (by assumption) (by omega)
def o_Mo_putAt_at_g1_0 : or_T := (8, 7, [(0, (2, 0, 0, [165])), (1, (0, 0, 24, [])), (2, (0, 0, 79, [])), (3, (0, 0, 79, [])), (4, (0, 0, 24, [])), (6, (0, 0, 80, []))], [(10, [6, 5, 1], []), (9, [5, 0], [36]), (20, [0, 1, 2, 3, 4], [60, 2, 5, 251, 31, 32, 33, 34, 35, 36, 37])], [], [], [(20, [0, 1, 2, 3, 6, 4], [60, 2, 5, 255, 31, 32, 33, 34, 35, 36, 37]), (24, [0, 0], []), (24, [1, 1], []), (24, [2, 2], [])], [], [])
theorem oo_Mo_putAt_at_g1_0 {kA : Nat → ClassId} : or_ok PRD kA GG o_Mo_putAt_at_g1_0 := by
  refine or_mk fun A ta ws vs hD hth hl => ?_
  intro t0 r0 t1 k1 t2 k2 t3 k3 t4 k4 t6 k6 f0 f1 f2
  replace f0 := shm_107 f0
  replace f1 := shm_684 f1
  have cr_0_33 := fdq_117 hD hth r0
  have cr_0_34 := fdq_118 hD hth r0
  have cr_0_35 := fdq_132 hD hth r0
  have cr_0_36 := fdq_167 hD hth r0
  have cr_0_37 := fdq_168 hD hth r0
  have ad_5 : v_ad (n_v vs 5) = w_ar ws (n_v vs 0) 36 := congrArg v_ad f1
  simp only [ad_5] at f0
  have h0 : v_iv (n_v vs 6) = w_ei ws (w_ar ws (n_v vs 0) 36) (v_iv (n_v vs 1)) := f0
  have hK_0_33 := elq_60 hD hth cr_0_33
  have hK_0_34 := elq_61 hD hth cr_0_34
  have hK_0_35 := elq_72 hD hth cr_0_35
  have hK_0_36 := elq_97 hD hth cr_0_36
  have hK_0_37 := elq_98 hD hth cr_0_37
  have kz_0_31 := fdq_145 hD hth r0
  have kz_0_32 := fdq_140 hD hth r0
  have nf0 : fc_1 PRD (20, [0, 1, 2, 3, 6, 4], [60, 2, 5, 255, 31, 32, 33, 34, 35, 36, 37]) ws (vs) := ⟨nf_in hl rfl, sgq_686 (vc_Mo_putAt_at_g1_0_0 (v_iv (n_v vs 1)) (v_iv (n_v vs 2)) (v_iv (n_v vs 3)) (v_iv (n_v vs 4)) (v_iv (n_v vs 6)) (w_ei ws (w_ar ws (n_v vs 0) 36)) (w_ei ws (w_ar ws (n_v vs 0) 33)) (w_ei ws (w_ar ws (n_v vs 0) 34)) (w_ei ws (w_ar ws (n_v vs 0) 35)) (w_ei ws (w_ar ws (n_v vs 0) 37)) (w_fi ws (n_v vs 0) 31) (w_fi ws (n_v vs 0) 32) k1 k2 k3 k4 k6 h0 (shm_685 f2) hK_0_33 hK_0_34 hK_0_35 hK_0_36 hK_0_37 kz_0_31 kz_0_32)⟩
  have nf1 : fc_1 PRD (24, [0, 0], []) ws (vs) := by
    refine ⟨nf_in hl rfl, sgq_1 ?_⟩
    · show n_v vs 0 = n_v vs 0
      first | rfl | simp only [true_and]
  have nf2 : fc_1 PRD (24, [1, 1], []) ws (vs) := by
    refine ⟨nf_in hl rfl, sgq_1 ?_⟩
    · show n_v vs 1 = n_v vs 1
      first | rfl | simp only [true_and]
  have nf3 : fc_1 PRD (24, [2, 2], []) ws (vs) := by
    refine ⟨nf_in hl rfl, sgq_1 ?_⟩
    · show n_v vs 2 = n_v vs 2
      first | rfl | simp only [true_and]
  refine ⟨(fun _ h => (by cases h)), [], trivial, ?_, (fun _ h => (by cases h))⟩
  rw [List.append_nil]
  exact List.forall_mem_cons.mpr ⟨⟨show (20 : Nat) < 100 from by decide, nf0⟩, List.forall_mem_cons.mpr ⟨⟨show (24 : Nat) < 100 from by decide, nf1⟩, List.forall_mem_cons.mpr ⟨⟨show (24 : Nat) < 100 from by decide, nf2⟩, List.forall_mem_cons.mpr ⟨⟨show (24 : Nat) < 100 from by decide, nf3⟩, (fun _ h => (by cases h))⟩⟩⟩⟩
set_option maxHeartbeats 4000000 in
theorem vc_Mo_putAt_at_g1_1_r0 (x1 : Int) (x2 : Int) (x4 : Int) (x6 : Int) (x7 : Int) (x8 : Int) (x9 : Int) (x11 : Int) (x12 : Int) (x13 : Int) (x15 : Int) (x16 : Int) (x17 : Int) (rotMany_0 : Int → Int) (pt_1 : Int → Int) (ph_1 : Int → Int) (alive_1 : Int → Int) (rotMany_1 : Int → Int) (rot_1 : Int → Int) (pn_1 : Int) (pm_1 : Int) (pn_0 : Int) (pm_0 : Int) (pt_0 : Int → Int) (ph_0 : Int → Int) (alive_0 : Int → Int) (rot_0 : Int → Int) (k1 : 0 ≤ x1 ∧ x1 ≤ 24) (k2 : 0 ≤ x2 ∧ x2 ≤ 79) (k4 : 0 ≤ x4 ∧ x4 ≤ 24) (k6 : 0 ≤ x6 ∧ x6 ≤ 24) (k7 : 0 ≤ x7 ∧ x7 ≤ 79) (k8 : 0 ≤ x8 ∧ x8 ≤ 79) (k9 : 0 ≤ x9 ∧ x9 ≤ 79) (k11 : 80 ≤ x11 ∧ x11 ≤ 80) (k12 : 0 ≤ x12 ∧ x12 ≤ 1920) (k13 : 0 ≤ x13 ∧ x13 ≤ 1999) (k15 : 0 ≤ x15 ∧ x15 ≤ 80) (k16 : 1 ≤ x16 ∧ x16 ≤ 1) (k17 : 1 ≤ x17 ∧ x17 ≤ 81) (d0 : x15 + 1 ≤ x17 ∧ x17 ≤ x15 + 1) (d1 : x8 + 0 ≤ x13 ∧ x13 ≤ x8 + 1920) (d2 : x12 + 0 ≤ x13 ∧ x13 ≤ x12 + 79) (d3 : x8 + (-4294967296) ≤ x9 ∧ x9 ≤ x8 + 0) (d4 : x6 + (-4294967296) ≤ x1 ∧ x1 ≤ x6 + 0) (d5 : x7 + (-4294967296) ≤ x2 ∧ x2 ≤ x7 + 0) (d6 : x1 + (-4294967296) ≤ x6 ∧ x6 ≤ x1 + 0) (d7 : x2 + (-4294967296) ≤ x7 ∧ x7 ≤ x2 + 0) (f0 : x17 = x15 + x16) (h1 : x15 = rotMany_0 (x1)) (f7 : x13 = x12 + x8) (f8 : x12 = 80 * x1) (f10 : x9 ≤ x8) (f11 : PLa (pn_1) (pm_1) (pt_1) (ph_1) (alive_1) (rotMany_1) (rot_1) (x1) (x2) (x8) (x9) (x4)) (fe_0_31_1 : pn_0 = pn_1) (fe_0_32_1 : pm_0 = pm_1) (hE_0_33_1 : ∀ j : Int, pt_0 j = pt_1 j) (hK_0_33 : ∀ j : Int, 0 ≤ j → j < 80 → 0 ≤ pt_0 j ∧ pt_0 j ≤ 24) (hE_0_34_1 : ∀ j : Int, ph_0 j = ph_1 j) (hK_0_34 : ∀ j : Int, 0 ≤ j → j < 80 → 0 ≤ ph_0 j ∧ ph_0 j ≤ 24) (hE_0_35_1 : ∀ j : Int, alive_0 j = alive_1 j) (hK_0_35 : ∀ j : Int, 0 ≤ j → j < 80 → 0 ≤ alive_0 j ∧ alive_0 j ≤ 1) (hE_0_36_1 : ∀ j : Int, rotMany_0 j = rotMany_1 j) (hK_0_36 : ∀ j : Int, 0 ≤ j → j < 26 → 0 ≤ rotMany_0 j ∧ rotMany_0 j ≤ 80) (hE_0_37_1 : ∀ j : Int, 0 ≤ j → (j = x13 → rot_0 j = x2) ∧ (j ≠ x13 → rot_0 j = rot_1 j)) (hK_0_37 : ∀ j : Int, 0 ≤ j → j < 2080 → 0 ≤ rot_0 j ∧ rot_0 j ≤ 79) (kz_0_31 : 0 ≤ pn_0 ∧ pn_0 ≤ 25) (kz_0_32 : 0 ≤ pm_0 ∧ pm_0 ≤ 80) : 1 ≤ x17 ∧ x17 ≤ 80 := by
  subst fe_0_31_1
  subst fe_0_32_1
  have e_hE_0_33_1 := funext hE_0_33_1; subst e_hE_0_33_1
  have e_hE_0_34_1 := funext hE_0_34_1; subst e_hE_0_34_1
  have e_hE_0_35_1 := funext hE_0_35_1; subst e_hE_0_35_1
  have e_hE_0_36_1 := funext hE_0_36_1; subst e_hE_0_36_1
  first
    | omega
    | (have h := pax_len ‹PAa _ _ _ _ _ _ _ _ _ _ _›; omega)
    | (have h := pax_len ‹PAb _ _ _ _ _ _ _ _ _ _ _›; omega)
    | (have h := pax_len ‹PAc _ _ _ _ _ _ _ _ _ _ _ _ _ _›; omega)
    | (have h := pax_len ‹PAd _ _ _ _ _ _ _ _ _ _ _ _ _ _›; omega)
    | (have h := pal_len ‹PLa _ _ _ _ _ _ _ _ _ _ _ _›; omega)
    | (have h := pal_len ‹PLb _ _ _ _ _ _ _ _ _ _ _ _›; omega)
    | (have h := pal_len ‹PLc _ _ _ _ _ _ _ _ _ _ _ _ _ _ _›; omega)
    | (have h := pal_len ‹PLd _ _ _ _ _ _ _ _ _ _ _ _ _ _ _›; omega)
def o_Mo_putAt_at_g1_1 : or_T := (67, 18, [(0, (2, 0, 0, [165])), (1, (0, 0, 24, [])), (2, (0, 0, 79, [])), (4, (0, 0, 24, [])), (5, (2, 0, 0, [165])), (6, (0, 0, 24, [])), (7, (0, 0, 79, [])), (8, (0, 0, 79, [])), (9, (0, 0, 79, [])), (10, (2, 0, 0, [184])), (11, (0, 80, 80, [])), (12, (0, 0, 1920, [])), (13, (0, 0, 1999, [])), (14, (2, 0, 0, [183])), (15, (0, 0, 80, [])), (16, (0, 1, 1, [])), (17, (0, 1, 81, []))], [(1, [17, 15, 16], []), (10, [15, 14, 6], []), (9, [14, 5], [36]), (24, [0, 5], []), (24, [1, 6], []), (24, [2, 7], []), (100, [10, 13, 7], []), (1, [13, 12, 8], []), (3, [12, 11, 6], []), (9, [10, 5], [37]), (7, [9, 8], [5]), (20, [5, 6, 7, 8, 9, 4], [60, 2, 5, 255, 31, 32, 33, 34, 35, 36, 37])], [(17, (0, 1, 80, []))], [], [], [], [(17, 15, 1, 1), (13, 8, 0, 1920), (13, 12, 0, 79), (9, 8, -4294967296, 0), (1, 6, -4294967296, 0), (2, 7, -4294967296, 0), (6, 1, -4294967296, 0), (7, 2, -4294967296, 0)])
theorem oo_Mo_putAt_at_g1_1 {kA : Nat → ClassId} : or_ok PRD kA GG o_Mo_putAt_at_g1_1 := by
  refine or_mk fun A ta ws vs hD hth hl => ?_
  intro t0 r0 t1 k1 t2 k2 t4 k4 t5 r5 t6 k6 t7 k7 t8 k8 t9 k9 t10 r10 t11 k11 t12 k12 t13 k13 t14 r14 t15 k15 t16 k16 t17 k17 d0 d1 d2 d3 d4 d5 d6 d7 f0 f1 f2 f3 f4 f5 ta1 w1 le1 s1 f7 f8 f9 f10 f11
  replace f1 := shm_107 f1
  replace f2 := shm_684 f2
  replace f3 := shm_5 f3
  replace f4 := shm_5 f4
  replace f5 := shm_5 f5
  have s1 : (∀ b j, w_el ws b j = if b = v_ad (n_v vs 10) ∧ j = (v_iv (n_v vs 13)).toNat then v_iv (n_v vs 7) else w_el w1 b j) ∧ ∀ b k, w_fd ws b k = w_fd w1 b k := s1.2
  replace f8 := shm_38 f8
  rw [show v_iv (n_v vs 11) = 80 from by omega] at f8
  replace f9 := shm_687 f9
  replace f11 := shm_686 f11
  have q5 : n_v vs 5 = n_v vs 0 := f3.symm
  have q6 : n_v vs 6 = n_v vs 1 := f4.symm
  have q7 : n_v vs 7 = n_v vs 2 := f5.symm
  simp only [q6, q5] at f1 f2
  rw [q7] at s1
  simp only [q6, q5, q7] at f8 f9 f11
  have ar_0_33_1 : w_ar w1 (n_v vs 0) 33 = w_ar ws (n_v vs 0) 33 := congrArg v_ad (s1.2 _ _).symm
  have cr_0_33 := fdq_117 hD hth r0
  have ar_0_34_1 : w_ar w1 (n_v vs 0) 34 = w_ar ws (n_v vs 0) 34 := congrArg v_ad (s1.2 _ _).symm
  have cr_0_34 := fdq_118 hD hth r0
  have ar_0_35_1 : w_ar w1 (n_v vs 0) 35 = w_ar ws (n_v vs 0) 35 := congrArg v_ad (s1.2 _ _).symm
  have cr_0_35 := fdq_132 hD hth r0
  have ar_0_36_1 : w_ar w1 (n_v vs 0) 36 = w_ar ws (n_v vs 0) 36 := congrArg v_ad (s1.2 _ _).symm
  have cr_0_36 := fdq_167 hD hth r0
  have ar_0_37_1 : w_ar w1 (n_v vs 0) 37 = w_ar ws (n_v vs 0) 37 := congrArg v_ad (s1.2 _ _).symm
  have cr_0_37 := fdq_168 hD hth r0
  have ad_14 : v_ad (n_v vs 14) = w_ar ws (n_v vs 0) 36 := congrArg v_ad f2
  have ad_10 : v_ad (n_v vs 10) = w_ar ws (n_v vs 0) 37 := (congrArg v_ad f9).trans ar_0_37_1
  simp only [ad_14] at f1
  have h1 : v_iv (n_v vs 15) = w_ei ws (w_ar ws (n_v vs 0) 36) (v_iv (n_v vs 1)) := f1
  simp only [ar_0_33_1, ar_0_34_1, ar_0_35_1, ar_0_36_1, ar_0_37_1] at f11
  have fe_0_31_1 : w_fi ws (n_v vs 0) 31 = w_fi w1 (n_v vs 0) 31 := congrArg v_iv (s1.2 _ _)
  have fe_0_32_1 : w_fi ws (n_v vs 0) 32 = w_fi w1 (n_v vs 0) 32 := congrArg v_iv (s1.2 _ _)
  have hE_0_33_1 : ∀ j : Int, w_ei ws (w_ar ws (n_v vs 0) 33) j = w_ei w1 (w_ar ws (n_v vs 0) 33) j := el_kp s1.1 r10 cr_0_33 (by decide)
  have hK_0_33 := elq_60 hD hth cr_0_33
  have hE_0_34_1 : ∀ j : Int, w_ei ws (w_ar ws (n_v vs 0) 34) j = w_ei w1 (w_ar ws (n_v vs 0) 34) j := el_kp s1.1 r10 cr_0_34 (by decide)
  have hK_0_34 := elq_61 hD hth cr_0_34
  have hE_0_35_1 : ∀ j : Int, w_ei ws (w_ar ws (n_v vs 0) 35) j = w_ei w1 (w_ar ws (n_v vs 0) 35) j := el_kp s1.1 r10 cr_0_35 (by decide)
  have hK_0_35 := elq_72 hD hth cr_0_35
  have hE_0_36_1 : ∀ j : Int, w_ei ws (w_ar ws (n_v vs 0) 36) j = w_ei w1 (w_ar ws (n_v vs 0) 36) j := el_kp s1.1 r10 cr_0_36 (by decide)
  have hK_0_36 := elq_97 hD hth cr_0_36
  have hE_0_37_1 : ∀ j : Int, 0 ≤ j → (j = v_iv (n_v vs 13) → w_ei ws (w_ar ws (n_v vs 0) 37) j = v_iv (n_v vs 2)) ∧ (j ≠ v_iv (n_v vs 13) → w_ei ws (w_ar ws (n_v vs 0) 37) j = w_ei w1 (w_ar ws (n_v vs 0) 37) j) := fun j hj => ⟨fun h => by unfold w_ei; rw [s1.1, if_pos ⟨ad_10.symm, by rw [h]⟩], fun h => by unfold w_ei; rw [s1.1, if_neg (fun e => h (by have := e.2; omega))]⟩
  have hK_0_37 := elq_98 hD hth cr_0_37
  have kz_0_31 := fdq_145 hD hth r0
  have kz_0_32 := fdq_140 hD hth r0
  have hrf0 : 1 ≤ v_iv (n_v vs 17) ∧ v_iv (n_v vs 17) ≤ 80 := vc_Mo_putAt_at_g1_1_r0 (v_iv (n_v vs 1)) (v_iv (n_v vs 2)) (v_iv (n_v vs 4)) (v_iv (n_v vs 6)) (v_iv (n_v vs 7)) (v_iv (n_v vs 8)) (v_iv (n_v vs 9)) (v_iv (n_v vs 11)) (v_iv (n_v vs 12)) (v_iv (n_v vs 13)) (v_iv (n_v vs 15)) (v_iv (n_v vs 16)) (v_iv (n_v vs 17)) (w_ei ws (w_ar ws (n_v vs 0) 36)) (w_ei w1 (w_ar ws (n_v vs 0) 33)) (w_ei w1 (w_ar ws (n_v vs 0) 34)) (w_ei w1 (w_ar ws (n_v vs 0) 35)) (w_ei w1 (w_ar ws (n_v vs 0) 36)) (w_ei w1 (w_ar ws (n_v vs 0) 37)) (w_fi w1 (n_v vs 0) 31) (w_fi w1 (n_v vs 0) 32) (w_fi ws (n_v vs 0) 31) (w_fi ws (n_v vs 0) 32) (w_ei ws (w_ar ws (n_v vs 0) 33)) (w_ei ws (w_ar ws (n_v vs 0) 34)) (w_ei ws (w_ar ws (n_v vs 0) 35)) (w_ei ws (w_ar ws (n_v vs 0) 37)) k1 k2 k4 k6 k7 k8 k9 k11 k12 k13 k15 k16 k17 d0 d1 d2 d3 d4 d5 d6 d7 (shm_12 f0) h1 (shm_12 f7) f8 (shm_24 f10) f11 fe_0_31_1 fe_0_32_1 hE_0_33_1 hK_0_33 hE_0_34_1 hK_0_34 hE_0_35_1 hK_0_35 hE_0_36_1 hK_0_36 hE_0_37_1 hK_0_37 kz_0_31 kz_0_32
  have rf17 : tv_ok ta (0, 1, 80, []) (n_v vs 17) := tv_in t17 (by first | omega | grind) (by first | omega | grind)
  refine ⟨List.forall_mem_cons.mpr ⟨rf17, (fun _ h => (by cases h))⟩, [], trivial, ?_, (fun _ h => (by cases h))⟩
  rw [List.append_nil]
  exact (fun _ h => (by cases h))
set_option maxHeartbeats 4000000 in
theorem vc_Mo_putAt_at_g1_2_0 (x1 : Int) (x2 : Int) (x4 : Int) (x6 : Int) (x7 : Int) (x8 : Int) (x9 : Int) (x11 : Int) (x12 : Int) (x13 : Int) (x15 : Int) (x16 : Int) (x17 : Int) (rotMany_1 : Int → Int) (pt_2 : Int → Int) (ph_2 : Int → Int) (alive_2 : Int → Int) (rotMany_2 : Int → Int) (rot_2 : Int → Int) (pn_2 : Int) (pm_2 : Int) (pn_0 : Int) (pn_1 : Int) (pm_0 : Int) (pm_1 : Int) (pt_0 : Int → Int) (pt_1 : Int → Int) (ph_0 : Int → Int) (ph_1 : Int → Int) (alive_0 : Int → Int) (alive_1 : Int → Int) (rotMany_0 : Int → Int) (rot_0 : Int → Int) (rot_1 : Int → Int) (k1 : 0 ≤ x1 ∧ x1 ≤ 24) (k2 : 0 ≤ x2 ∧ x2 ≤ 79) (k4 : 0 ≤ x4 ∧ x4 ≤ 24) (k6 : 0 ≤ x6 ∧ x6 ≤ 24) (k7 : 0 ≤ x7 ∧ x7 ≤ 79) (k8 : 0 ≤ x8 ∧ x8 ≤ 79) (k9 : 0 ≤ x9 ∧ x9 ≤ 79) (k11 : 80 ≤ x11 ∧ x11 ≤ 80) (k12 : 0 ≤ x12 ∧ x12 ≤ 1920) (k13 : 0 ≤ x13 ∧ x13 ≤ 1999) (k15 : 0 ≤ x15 ∧ x15 ≤ 80) (k16 : 1 ≤ x16 ∧ x16 ≤ 1) (k17 : 1 ≤ x17 ∧ x17 ≤ 80) (d0 : x15 + 1 ≤ x17 ∧ x17 ≤ x15 + 1) (d1 : x8 + 0 ≤ x13 ∧ x13 ≤ x8 + 1920) (d2 : x12 + 0 ≤ x13 ∧ x13 ≤ x12 + 79) (d3 : x8 + (-4294967296) ≤ x9 ∧ x9 ≤ x8 + 0) (d4 : x6 + (-4294967296) ≤ x1 ∧ x1 ≤ x6 + 0) (d5 : x7 + (-4294967296) ≤ x2 ∧ x2 ≤ x7 + 0) (d6 : x1 + (-4294967296) ≤ x6 ∧ x6 ≤ x1 + 0) (d7 : x2 + (-4294967296) ≤ x7 ∧ x7 ≤ x2 + 0) (f4 : x17 = x15 + x16) (h5 : x15 = rotMany_1 (x1)) (f8 : x13 = x12 + x8) (f9 : x12 = 80 * x1) (f11 : x9 ≤ x8) (f12 : PLa (pn_2) (pm_2) (pt_2) (ph_2) (alive_2) (rotMany_2) (rot_2) (x1) (x2) (x8) (x9) (x4)) (fe_0_31_1 : pn_0 = pn_1) (fe_0_32_1 : pm_0 = pm_1) (fe_0_31_2 : pn_1 = pn_2) (fe_0_32_2 : pm_1 = pm_2) (hE_0_33_1 : ∀ j : Int, pt_0 j = pt_1 j) (hE_0_33_2 : ∀ j : Int, pt_1 j = pt_2 j) (hK_0_33 : ∀ j : Int, 0 ≤ j → j < 80 → 0 ≤ pt_0 j ∧ pt_0 j ≤ 24) (hE_0_34_1 : ∀ j : Int, ph_0 j = ph_1 j) (hE_0_34_2 : ∀ j : Int, ph_1 j = ph_2 j) (hK_0_34 : ∀ j : Int, 0 ≤ j → j < 80 → 0 ≤ ph_0 j ∧ ph_0 j ≤ 24) (hE_0_35_1 : ∀ j : Int, alive_0 j = alive_1 j) (hE_0_35_2 : ∀ j : Int, alive_1 j = alive_2 j) (hK_0_35 : ∀ j : Int, 0 ≤ j → j < 80 → 0 ≤ alive_0 j ∧ alive_0 j ≤ 1) (hE_0_36_1 : ∀ j : Int, 0 ≤ j → (j = x1 → rotMany_0 j = x17) ∧ (j ≠ x1 → rotMany_0 j = rotMany_1 j)) (hE_0_36_2 : ∀ j : Int, rotMany_1 j = rotMany_2 j) (hK_0_36 : ∀ j : Int, 0 ≤ j → j < 26 → 0 ≤ rotMany_0 j ∧ rotMany_0 j ≤ 80) (hE_0_37_1 : ∀ j : Int, rot_0 j = rot_1 j) (hE_0_37_2 : ∀ j : Int, 0 ≤ j → (j = x13 → rot_1 j = x2) ∧ (j ≠ x13 → rot_1 j = rot_2 j)) (hK_0_37 : ∀ j : Int, 0 ≤ j → j < 2080 → 0 ≤ rot_0 j ∧ rot_0 j ≤ 79) (kz_0_31 : 0 ≤ pn_0 ∧ pn_0 ≤ 25) (kz_0_32 : 0 ≤ pm_0 ∧ pm_0 ≤ 80) : PUb (pn_0) (pm_0) (pt_0) (ph_0) (alive_0) (rotMany_0) (rot_0) (x4) (x2) := by
  subst fe_0_31_1
  subst fe_0_32_1
  subst fe_0_31_2
  subst fe_0_32_2
  have e_hE_0_33_1 := funext hE_0_33_1; subst e_hE_0_33_1
  have e_hE_0_33_2 := funext hE_0_33_2; subst e_hE_0_33_2
  have e_hE_0_34_1 := funext hE_0_34_1; subst e_hE_0_34_1
  have e_hE_0_34_2 := funext hE_0_34_2; subst e_hE_0_34_2
  have e_hE_0_35_1 := funext hE_0_35_1; subst e_hE_0_35_1
  have e_hE_0_35_2 := funext hE_0_35_2; subst e_hE_0_35_2
  have e_hE_0_36_2 := funext hE_0_36_2; subst e_hE_0_36_2
  have e_hE_0_37_1 := funext hE_0_37_1; subst e_hE_0_37_1
  exact pal_end ‹PLa _ _ _ _ _ _ _ _ _ _ _ _› (by omega) (by assumption) (by omega) (by omega) (by assumption) (by omega) (by omega)
def o_Mo_putAt_at_g1_2 : or_T := (68, 18, [(0, (2, 0, 0, [165])), (1, (0, 0, 24, [])), (2, (0, 0, 79, [])), (4, (0, 0, 24, [])), (6, (0, 0, 24, [])), (7, (0, 0, 79, [])), (8, (0, 0, 79, [])), (9, (0, 0, 79, [])), (10, (2, 0, 0, [184])), (11, (0, 80, 80, [])), (12, (0, 0, 1920, [])), (13, (0, 0, 1999, [])), (14, (2, 0, 0, [183])), (15, (0, 0, 80, [])), (16, (0, 1, 1, [])), (17, (0, 1, 80, []))], [(24, [0, 5], []), (24, [1, 6], []), (24, [2, 7], []), (100, [14, 6, 17], []), (1, [17, 15, 16], []), (10, [15, 14, 6], []), (9, [14, 5], [36]), (100, [10, 13, 7], []), (1, [13, 12, 8], []), (3, [12, 11, 6], []), (9, [10, 5], [37]), (7, [9, 8], [5]), (20, [5, 6, 7, 8, 9, 4], [60, 2, 5, 255, 31, 32, 33, 34, 35, 36, 37])], [], [], [(20, [0, 4, 2], [60, 2, 5, 248, 31, 32, 33, 34, 35, 36, 37])], [], [(17, 15, 1, 1), (13, 8, 0, 1920), (13, 12, 0, 79), (9, 8, -4294967296, 0), (1, 6, -4294967296, 0), (2, 7, -4294967296, 0), (6, 1, -4294967296, 0), (7, 2, -4294967296, 0)])
theorem oo_Mo_putAt_at_g1_2 {kA : Nat → ClassId} : or_ok PRD kA GG o_Mo_putAt_at_g1_2 := by
  refine or_mk fun A ta ws vs hD hth hl => ?_
  intro t0 r0 t1 k1 t2 k2 t4 k4 t6 k6 t7 k7 t8 k8 t9 k9 t10 r10 t11 k11 t12 k12 t13 k13 t14 r14 t15 k15 t16 k16 t17 k17 d0 d1 d2 d3 d4 d5 d6 d7 f0 f1 f2 ta1 w1 le1 s1 f4 f5 f6 ta2 w2 le2 s2 f8 f9 f10 f11 f12
  replace f0 := shm_5 f0
  replace f1 := shm_5 f1
  replace f2 := shm_5 f2
  have s1 : (∀ b j, w_el ws b j = if b = v_ad (n_v vs 14) ∧ j = (v_iv (n_v vs 6)).toNat then v_iv (n_v vs 17) else w_el w1 b j) ∧ ∀ b k, w_fd ws b k = w_fd w1 b k := s1.2
  replace f5 := shm_107 f5
  replace f6 := shm_684 f6
  have s2 : (∀ b j, w_el w1 b j = if b = v_ad (n_v vs 10) ∧ j = (v_iv (n_v vs 13)).toNat then v_iv (n_v vs 7) else w_el w2 b j) ∧ ∀ b k, w_fd w1 b k = w_fd w2 b k := s2.2
  replace f9 := shm_38 f9
  rw [show v_iv (n_v vs 11) = 80 from by omega] at f9
  replace f10 := shm_687 f10
  replace f12 := shm_686 f12
  have q5 : n_v vs 5 = n_v vs 0 := f0.symm
  have q6 : n_v vs 6 = n_v vs 1 := f1.symm
  have q7 : n_v vs 7 = n_v vs 2 := f2.symm
  rw [q6] at s1
  simp only [q6, q5] at f5 f6
  rw [q7] at s2
  simp only [q6, q5, q7] at f9 f10 f12
  have ar_0_33_1 : w_ar w1 (n_v vs 0) 33 = w_ar ws (n_v vs 0) 33 := congrArg v_ad (s1.2 _ _).symm
  have ar_0_33_2 : w_ar w2 (n_v vs 0) 33 = w_ar ws (n_v vs 0) 33 := by rw [← ar_0_33_1]; show v_ad (w_fd w2 _ _) = v_ad (w_fd w1 _ _); rw [s2.2]
  have cr_0_33 := fdq_117 hD hth r0
  have ar_0_34_1 : w_ar w1 (n_v vs 0) 34 = w_ar ws (n_v vs 0) 34 := congrArg v_ad (s1.2 _ _).symm
  have ar_0_34_2 : w_ar w2 (n_v vs 0) 34 = w_ar ws (n_v vs 0) 34 := by rw [← ar_0_34_1]; show v_ad (w_fd w2 _ _) = v_ad (w_fd w1 _ _); rw [s2.2]
  have cr_0_34 := fdq_118 hD hth r0
  have ar_0_35_1 : w_ar w1 (n_v vs 0) 35 = w_ar ws (n_v vs 0) 35 := congrArg v_ad (s1.2 _ _).symm
  have ar_0_35_2 : w_ar w2 (n_v vs 0) 35 = w_ar ws (n_v vs 0) 35 := by rw [← ar_0_35_1]; show v_ad (w_fd w2 _ _) = v_ad (w_fd w1 _ _); rw [s2.2]
  have cr_0_35 := fdq_132 hD hth r0
  have ar_0_36_1 : w_ar w1 (n_v vs 0) 36 = w_ar ws (n_v vs 0) 36 := congrArg v_ad (s1.2 _ _).symm
  have ar_0_36_2 : w_ar w2 (n_v vs 0) 36 = w_ar ws (n_v vs 0) 36 := by rw [← ar_0_36_1]; show v_ad (w_fd w2 _ _) = v_ad (w_fd w1 _ _); rw [s2.2]
  have cr_0_36 := fdq_167 hD hth r0
  have ar_0_37_1 : w_ar w1 (n_v vs 0) 37 = w_ar ws (n_v vs 0) 37 := congrArg v_ad (s1.2 _ _).symm
  have ar_0_37_2 : w_ar w2 (n_v vs 0) 37 = w_ar ws (n_v vs 0) 37 := by rw [← ar_0_37_1]; show v_ad (w_fd w2 _ _) = v_ad (w_fd w1 _ _); rw [s2.2]
  have cr_0_37 := fdq_168 hD hth r0
  have ad_14 : v_ad (n_v vs 14) = w_ar ws (n_v vs 0) 36 := (congrArg v_ad f6).trans ar_0_36_1
  have ad_10 : v_ad (n_v vs 10) = w_ar ws (n_v vs 0) 37 := (congrArg v_ad f10).trans ar_0_37_2
  simp only [ad_14] at f5
  have h5 : v_iv (n_v vs 15) = w_ei w1 (w_ar ws (n_v vs 0) 36) (v_iv (n_v vs 1)) := f5
  simp only [ar_0_33_2, ar_0_34_2, ar_0_35_2, ar_0_36_2, ar_0_37_2] at f12
  have fe_0_31_1 : w_fi ws (n_v vs 0) 31 = w_fi w1 (n_v vs 0) 31 := congrArg v_iv (s1.2 _ _)
  have fe_0_32_1 : w_fi ws (n_v vs 0) 32 = w_fi w1 (n_v vs 0) 32 := congrArg v_iv (s1.2 _ _)
  have fe_0_31_2 : w_fi w1 (n_v vs 0) 31 = w_fi w2 (n_v vs 0) 31 := congrArg v_iv (s2.2 _ _)
  have fe_0_32_2 : w_fi w1 (n_v vs 0) 32 = w_fi w2 (n_v vs 0) 32 := congrArg v_iv (s2.2 _ _)
  have hE_0_33_1 : ∀ j : Int, w_ei ws (w_ar ws (n_v vs 0) 33) j = w_ei w1 (w_ar ws (n_v vs 0) 33) j := el_kp s1.1 r14 cr_0_33 (by decide)
  have hE_0_33_2 : ∀ j : Int, w_ei w1 (w_ar ws (n_v vs 0) 33) j = w_ei w2 (w_ar ws (n_v vs 0) 33) j := el_kp s2.1 r10 cr_0_33 (by decide)
  have hK_0_33 := elq_60 hD hth cr_0_33
  have hE_0_34_1 : ∀ j : Int, w_ei ws (w_ar ws (n_v vs 0) 34) j = w_ei w1 (w_ar ws (n_v vs 0) 34) j := el_kp s1.1 r14 cr_0_34 (by decide)
  have hE_0_34_2 : ∀ j : Int, w_ei w1 (w_ar ws (n_v vs 0) 34) j = w_ei w2 (w_ar ws (n_v vs 0) 34) j := el_kp s2.1 r10 cr_0_34 (by decide)
  have hK_0_34 := elq_61 hD hth cr_0_34
  have hE_0_35_1 : ∀ j : Int, w_ei ws (w_ar ws (n_v vs 0) 35) j = w_ei w1 (w_ar ws (n_v vs 0) 35) j := el_kp s1.1 r14 cr_0_35 (by decide)
  have hE_0_35_2 : ∀ j : Int, w_ei w1 (w_ar ws (n_v vs 0) 35) j = w_ei w2 (w_ar ws (n_v vs 0) 35) j := el_kp s2.1 r10 cr_0_35 (by decide)
  have hK_0_35 := elq_72 hD hth cr_0_35
  have hE_0_36_1 : ∀ j : Int, 0 ≤ j → (j = v_iv (n_v vs 1) → w_ei ws (w_ar ws (n_v vs 0) 36) j = v_iv (n_v vs 17)) ∧ (j ≠ v_iv (n_v vs 1) → w_ei ws (w_ar ws (n_v vs 0) 36) j = w_ei w1 (w_ar ws (n_v vs 0) 36) j) := fun j hj => ⟨fun h => by unfold w_ei; rw [s1.1, if_pos ⟨ad_14.symm, by rw [h]⟩], fun h => by unfold w_ei; rw [s1.1, if_neg (fun e => h (by have := e.2; omega))]⟩
  have hE_0_36_2 : ∀ j : Int, w_ei w1 (w_ar ws (n_v vs 0) 36) j = w_ei w2 (w_ar ws (n_v vs 0) 36) j := el_kp s2.1 r10 cr_0_36 (by decide)
  have hK_0_36 := elq_97 hD hth cr_0_36
  have hE_0_37_1 : ∀ j : Int, w_ei ws (w_ar ws (n_v vs 0) 37) j = w_ei w1 (w_ar ws (n_v vs 0) 37) j := el_kp s1.1 r14 cr_0_37 (by decide)
  have hE_0_37_2 : ∀ j : Int, 0 ≤ j → (j = v_iv (n_v vs 13) → w_ei w1 (w_ar ws (n_v vs 0) 37) j = v_iv (n_v vs 2)) ∧ (j ≠ v_iv (n_v vs 13) → w_ei w1 (w_ar ws (n_v vs 0) 37) j = w_ei w2 (w_ar ws (n_v vs 0) 37) j) := fun j hj => ⟨fun h => by unfold w_ei; rw [s2.1, if_pos ⟨ad_10.symm, by rw [h]⟩], fun h => by unfold w_ei; rw [s2.1, if_neg (fun e => h (by have := e.2; omega))]⟩
  have hK_0_37 := elq_98 hD hth cr_0_37
  have kz_0_31 := fdq_145 hD hth r0
  have kz_0_32 := fdq_140 hD hth r0
  have nf0 : fc_1 PRD (20, [0, 4, 2], [60, 2, 5, 248, 31, 32, 33, 34, 35, 36, 37]) ws (vs) := ⟨nf_in hl rfl, sgq_688 (vc_Mo_putAt_at_g1_2_0 (v_iv (n_v vs 1)) (v_iv (n_v vs 2)) (v_iv (n_v vs 4)) (v_iv (n_v vs 6)) (v_iv (n_v vs 7)) (v_iv (n_v vs 8)) (v_iv (n_v vs 9)) (v_iv (n_v vs 11)) (v_iv (n_v vs 12)) (v_iv (n_v vs 13)) (v_iv (n_v vs 15)) (v_iv (n_v vs 16)) (v_iv (n_v vs 17)) (w_ei w1 (w_ar ws (n_v vs 0) 36)) (w_ei w2 (w_ar ws (n_v vs 0) 33)) (w_ei w2 (w_ar ws (n_v vs 0) 34)) (w_ei w2 (w_ar ws (n_v vs 0) 35)) (w_ei w2 (w_ar ws (n_v vs 0) 36)) (w_ei w2 (w_ar ws (n_v vs 0) 37)) (w_fi w2 (n_v vs 0) 31) (w_fi w2 (n_v vs 0) 32) (w_fi ws (n_v vs 0) 31) (w_fi w1 (n_v vs 0) 31) (w_fi ws (n_v vs 0) 32) (w_fi w1 (n_v vs 0) 32) (w_ei ws (w_ar ws (n_v vs 0) 33)) (w_ei w1 (w_ar ws (n_v vs 0) 33)) (w_ei ws (w_ar ws (n_v vs 0) 34)) (w_ei w1 (w_ar ws (n_v vs 0) 34)) (w_ei ws (w_ar ws (n_v vs 0) 35)) (w_ei w1 (w_ar ws (n_v vs 0) 35)) (w_ei ws (w_ar ws (n_v vs 0) 36)) (w_ei ws (w_ar ws (n_v vs 0) 37)) (w_ei w1 (w_ar ws (n_v vs 0) 37)) k1 k2 k4 k6 k7 k8 k9 k11 k12 k13 k15 k16 k17 d0 d1 d2 d3 d4 d5 d6 d7 (shm_12 f4) h5 (shm_12 f8) f9 (shm_24 f11) f12 fe_0_31_1 fe_0_32_1 fe_0_31_2 fe_0_32_2 hE_0_33_1 hE_0_33_2 hK_0_33 hE_0_34_1 hE_0_34_2 hK_0_34 hE_0_35_1 hE_0_35_2 hK_0_35 hE_0_36_1 hE_0_36_2 hK_0_36 hE_0_37_1 hE_0_37_2 hK_0_37 kz_0_31 kz_0_32)⟩
  refine ⟨(fun _ h => (by cases h)), [], trivial, ?_, (fun _ h => (by cases h))⟩
  rw [List.append_nil]
  exact List.forall_mem_cons.mpr ⟨⟨show (20 : Nat) < 100 from by decide, nf0⟩, (fun _ h => (by cases h))⟩
set_option maxHeartbeats 4000000 in
theorem vc_Mo_putAt_at_g1_3_0 (x1 : Int) (x2 : Int) (x4 : Int) (x6 : Int) (x7 : Int) (x8 : Int) (x9 : Int) (x11 : Int) (x12 : Int) (x13 : Int) (x14 : Int) (x15 : Int) (x16 : Int) (x17 : Int) (x18 : Int) (x19 : Int) (x20 : Int) (rot_1 : Int → Int) (pt_1 : Int → Int) (ph_1 : Int → Int) (alive_1 : Int → Int) (rotMany_1 : Int → Int) (pn_1 : Int) (pm_1 : Int) (pn_0 : Int) (pm_0 : Int) (pt_0 : Int → Int) (ph_0 : Int → Int) (alive_0 : Int → Int) (rotMany_0 : Int → Int) (rot_0 : Int → Int) (k1 : 0 ≤ x1 ∧ x1 ≤ 24) (k2 : 0 ≤ x2 ∧ x2 ≤ 79) (k4 : 0 ≤ x4 ∧ x4 ≤ 24) (k6 : 0 ≤ x6 ∧ x6 ≤ 24) (k7 : 0 ≤ x7 ∧ x7 ≤ 79) (k8 : 0 ≤ x8 ∧ x8 ≤ 79) (k9 : 1 ≤ x9 ∧ x9 ≤ 80) (k11 : 80 ≤ x11 ∧ x11 ≤ 80) (k12 : 0 ≤ x12 ∧ x12 ≤ 1920) (k13 : 1 ≤ x13 ∧ x13 ≤ 2000) (k14 : 80 ≤ x14 ∧ x14 ≤ 80) (k15 : 0 ≤ x15 ∧ x15 ≤ 1920) (k16 : 1 ≤ x16 ∧ x16 ≤ 2000) (k17 : 1 ≤ x17 ∧ x17 ≤ 1) (k18 : 0 ≤ x18 ∧ x18 ≤ 1999) (k19 : 0 ≤ x19 ∧ x19 ≤ 79) (k20 : 0 ≤ x20 ∧ x20 ≤ 79) (d0 : x9 + (-1) ≤ x20 ∧ x20 ≤ x9 + (-1)) (d1 : x8 + 0 ≤ x20 ∧ x20 ≤ x8 + 4294967296) (d2 : x16 + (-1) ≤ x18 ∧ x18 ≤ x16 + (-1)) (d3 : x9 + (-1) ≤ x18 ∧ x18 ≤ x9 + 1919) (d4 : x8 + 0 ≤ x18 ∧ x18 ≤ x8 + 4294967296) (d5 : x15 + 0 ≤ x18 ∧ x18 ≤ x15 + 79) (d6 : x9 + 0 ≤ x16 ∧ x16 ≤ x9 + 1920) (d7 : x8 + 1 ≤ x16 ∧ x16 ≤ x8 + 4294967296) (d8 : x15 + 1 ≤ x16 ∧ x16 ≤ x15 + 80) (d9 : x9 + 0 ≤ x13 ∧ x13 ≤ x9 + 1920) (d10 : x8 + 1 ≤ x13 ∧ x13 ≤ x8 + 4294967296) (d11 : x12 + 1 ≤ x13 ∧ x13 ≤ x12 + 80) (d12 : x8 + 1 ≤ x9 ∧ x9 ≤ x8 + 4294967296) (d13 : x6 + (-4294967296) ≤ x1 ∧ x1 ≤ x6 + 0) (d14 : x7 + (-4294967296) ≤ x2 ∧ x2 ≤ x7 + 0) (d15 : x1 + (-4294967296) ≤ x6 ∧ x6 ≤ x1 + 0) (d16 : x2 + (-4294967296) ≤ x7 ∧ x7 ≤ x2 + 0) (f0 : x20 = x9 + (-1)) (h5 : x19 = rot_1 (x18)) (f6 : x18 = x16 - x17) (f7 : x16 = x15 + x9) (f8 : x15 = 80 * x1) (f10 : x13 = x12 + x9) (f11 : x12 = 80 * x1) (f12 : x8 < x9) (f13 : PLa (pn_1) (pm_1) (pt_1) (ph_1) (alive_1) (rotMany_1) (rot_1) (x1) (x2) (x8) (x9) (x4)) (fe_0_31_1 : pn_0 = pn_1) (fe_0_32_1 : pm_0 = pm_1) (hE_0_33_1 : ∀ j : Int, pt_0 j = pt_1 j) (hK_0_33 : ∀ j : Int, 0 ≤ j → j < 80 → 0 ≤ pt_0 j ∧ pt_0 j ≤ 24) (hE_0_34_1 : ∀ j : Int, ph_0 j = ph_1 j) (hK_0_34 : ∀ j : Int, 0 ≤ j → j < 80 → 0 ≤ ph_0 j ∧ ph_0 j ≤ 24) (hE_0_35_1 : ∀ j : Int, alive_0 j = alive_1 j) (hK_0_35 : ∀ j : Int, 0 ≤ j → j < 80 → 0 ≤ alive_0 j ∧ alive_0 j ≤ 1) (hE_0_36_1 : ∀ j : Int, rotMany_0 j = rotMany_1 j) (hK_0_36 : ∀ j : Int, 0 ≤ j → j < 26 → 0 ≤ rotMany_0 j ∧ rotMany_0 j ≤ 80) (hE_0_37_1 : ∀ j : Int, 0 ≤ j → (j = x13 → rot_0 j = x19) ∧ (j ≠ x13 → rot_0 j = rot_1 j)) (hK_0_37 : ∀ j : Int, 0 ≤ j → j < 2080 → 0 ≤ rot_0 j ∧ rot_0 j ≤ 79) (kz_0_31 : 0 ≤ pn_0 ∧ pn_0 ≤ 25) (kz_0_32 : 0 ≤ pm_0 ∧ pm_0 ≤ 80) : PLa (pn_0) (pm_0) (pt_0) (ph_0) (alive_0) (rotMany_0) (rot_0) (x1) (x2) (x8) (x20) (x4) := by
  subst fe_0_31_1
  subst fe_0_32_1
  have e_hE_0_33_1 := funext hE_0_33_1; subst e_hE_0_33_1
  have e_hE_0_34_1 := funext hE_0_34_1; subst e_hE_0_34_1
  have e_hE_0_35_1 := funext hE_0_35_1; subst e_hE_0_35_1
  have e_hE_0_36_1 := funext hE_0_36_1; subst e_hE_0_36_1
  first
    | exact pal_start ‹PAa _ _ _ _ _ _ _ _ _ _ _› (by omega)
    | exact pal_step ‹PLa _ _ _ _ _ _ _ _ _ _ _ _› (by omega) (by omega) (by assumption) (by omega) (by assumption) (by omega)
def o_Mo_putAt_at_g1_3 : or_T := (8, 21, [(0, (2, 0, 0, [165])), (1, (0, 0, 24, [])), (2, (0, 0, 79, [])), (4, (0, 0, 24, [])), (6, (0, 0, 24, [])), (7, (0, 0, 79, [])), (8, (0, 0, 79, [])), (9, (0, 1, 80, [])), (10, (2, 0, 0, [184])), (11, (0, 80, 80, [])), (12, (0, 0, 1920, [])), (13, (0, 1, 2000, [])), (14, (0, 80, 80, [])), (15, (0, 0, 1920, [])), (16, (0, 1, 2000, [])), (17, (0, 1, 1, [])), (18, (0, 0, 1999, [])), (19, (0, 0, 79, [])), (20, (0, 0, 79, []))], [(6, [20, 9], [-1]), (24, [0, 5], []), (24, [1, 6], []), (24, [2, 7], []), (100, [10, 13, 19], []), (10, [19, 10, 18], []), (2, [18, 16, 17], []), (1, [16, 15, 9], []), (3, [15, 14, 6], []), (9, [10, 5], [37]), (1, [13, 12, 9], []), (3, [12, 11, 6], []), (7, [9, 8], [4]), (20, [5, 6, 7, 8, 9, 4], [60, 2, 5, 255, 31, 32, 33, 34, 35, 36, 37])], [], [], [(20, [5, 6, 7, 8, 20, 4], [60, 2, 5, 255, 31, 32, 33, 34, 35, 36, 37])], [], [(20, 9, -1, -1), (20, 8, 0, 4294967296), (18, 16, -1, -1), (18, 9, -1, 1919), (18, 8, 0, 4294967296), (18, 15, 0, 79), (16, 9, 0, 1920), (16, 8, 1, 4294967296), (16, 15, 1, 80), (13, 9, 0, 1920), (13, 8, 1, 4294967296), (13, 12, 1, 80), (9, 8, 1, 4294967296), (1, 6, -4294967296, 0), (2, 7, -4294967296, 0), (6, 1, -4294967296, 0), (7, 2, -4294967296, 0)])
theorem oo_Mo_putAt_at_g1_3 {kA : Nat → ClassId} : or_ok PRD kA GG o_Mo_putAt_at_g1_3 := by
  refine or_mk fun A ta ws vs hD hth hl => ?_
  intro t0 r0 t1 k1 t2 k2 t4 k4 t6 k6 t7 k7 t8 k8 t9 k9 t10 r10 t11 k11 t12 k12 t13 k13 t14 k14 t15 k15 t16 k16 t17 k17 t18 k18 t19 k19 t20 k20 d0 d1 d2 d3 d4 d5 d6 d7 d8 d9 d10 d11 d12 d13 d14 d15 d16 f0 f1 f2 f3 ta1 w1 le1 s1 f5 f6 f7 f8 f9 f10 f11 f12 f13
  replace f0 := shm_186 f0
  replace f1 := shm_5 f1
  replace f2 := shm_5 f2
  replace f3 := shm_5 f3
  have s1 : (∀ b j, w_el ws b j = if b = v_ad (n_v vs 10) ∧ j = (v_iv (n_v vs 13)).toNat then v_iv (n_v vs 19) else w_el w1 b j) ∧ ∀ b k, w_fd ws b k = w_fd w1 b k := s1.2
  replace f5 := shm_107 f5
  replace f6 := shm_14 f6
  replace f7 := shm_12 f7
  replace f8 := shm_38 f8
  rw [show v_iv (n_v vs 14) = 80 from by omega] at f8
  replace f9 := shm_687 f9
  replace f10 := shm_12 f10
  replace f11 := shm_38 f11
  rw [show v_iv (n_v vs 11) = 80 from by omega] at f11
  replace f12 := shm_21 f12
  replace f13 := shm_686 f13
  have q5 : n_v vs 5 = n_v vs 0 := f1.symm
  have q6 : n_v vs 6 = n_v vs 1 := f2.symm
  have q7 : n_v vs 7 = n_v vs 2 := f3.symm
  simp only [q6, q5, q7] at f8 f9 f11 f13
  have ar_0_33_1 : w_ar w1 (n_v vs 0) 33 = w_ar ws (n_v vs 0) 33 := congrArg v_ad (s1.2 _ _).symm
  have cr_0_33 := fdq_117 hD hth r0
  have ar_0_34_1 : w_ar w1 (n_v vs 0) 34 = w_ar ws (n_v vs 0) 34 := congrArg v_ad (s1.2 _ _).symm
  have cr_0_34 := fdq_118 hD hth r0
  have ar_0_35_1 : w_ar w1 (n_v vs 0) 35 = w_ar ws (n_v vs 0) 35 := congrArg v_ad (s1.2 _ _).symm
  have cr_0_35 := fdq_132 hD hth r0
  have ar_0_36_1 : w_ar w1 (n_v vs 0) 36 = w_ar ws (n_v vs 0) 36 := congrArg v_ad (s1.2 _ _).symm
  have cr_0_36 := fdq_167 hD hth r0
  have ar_0_37_1 : w_ar w1 (n_v vs 0) 37 = w_ar ws (n_v vs 0) 37 := congrArg v_ad (s1.2 _ _).symm
  have cr_0_37 := fdq_168 hD hth r0
  have ad_10 : v_ad (n_v vs 10) = w_ar ws (n_v vs 0) 37 := (congrArg v_ad f9).trans ar_0_37_1
  simp only [ad_10] at f5
  have h5 : v_iv (n_v vs 19) = w_ei w1 (w_ar ws (n_v vs 0) 37) (v_iv (n_v vs 18)) := f5
  simp only [ar_0_33_1, ar_0_34_1, ar_0_35_1, ar_0_36_1, ar_0_37_1] at f13
  have fe_0_31_1 : w_fi ws (n_v vs 0) 31 = w_fi w1 (n_v vs 0) 31 := congrArg v_iv (s1.2 _ _)
  have fe_0_32_1 : w_fi ws (n_v vs 0) 32 = w_fi w1 (n_v vs 0) 32 := congrArg v_iv (s1.2 _ _)
  have hE_0_33_1 : ∀ j : Int, w_ei ws (w_ar ws (n_v vs 0) 33) j = w_ei w1 (w_ar ws (n_v vs 0) 33) j := el_kp s1.1 r10 cr_0_33 (by decide)
  have hK_0_33 := elq_60 hD hth cr_0_33
  have hE_0_34_1 : ∀ j : Int, w_ei ws (w_ar ws (n_v vs 0) 34) j = w_ei w1 (w_ar ws (n_v vs 0) 34) j := el_kp s1.1 r10 cr_0_34 (by decide)
  have hK_0_34 := elq_61 hD hth cr_0_34
  have hE_0_35_1 : ∀ j : Int, w_ei ws (w_ar ws (n_v vs 0) 35) j = w_ei w1 (w_ar ws (n_v vs 0) 35) j := el_kp s1.1 r10 cr_0_35 (by decide)
  have hK_0_35 := elq_72 hD hth cr_0_35
  have hE_0_36_1 : ∀ j : Int, w_ei ws (w_ar ws (n_v vs 0) 36) j = w_ei w1 (w_ar ws (n_v vs 0) 36) j := el_kp s1.1 r10 cr_0_36 (by decide)
  have hK_0_36 := elq_97 hD hth cr_0_36
  have hE_0_37_1 : ∀ j : Int, 0 ≤ j → (j = v_iv (n_v vs 13) → w_ei ws (w_ar ws (n_v vs 0) 37) j = v_iv (n_v vs 19)) ∧ (j ≠ v_iv (n_v vs 13) → w_ei ws (w_ar ws (n_v vs 0) 37) j = w_ei w1 (w_ar ws (n_v vs 0) 37) j) := fun j hj => ⟨fun h => by unfold w_ei; rw [s1.1, if_pos ⟨ad_10.symm, by rw [h]⟩], fun h => by unfold w_ei; rw [s1.1, if_neg (fun e => h (by have := e.2; omega))]⟩
  have hK_0_37 := elq_98 hD hth cr_0_37
  have kz_0_31 := fdq_145 hD hth r0
  have kz_0_32 := fdq_140 hD hth r0
  have nf0 : fc_1 PRD (20, [5, 6, 7, 8, 20, 4], [60, 2, 5, 255, 31, 32, 33, 34, 35, 36, 37]) ws (vs) := by
    refine ⟨nf_in hl rfl, sgq_686 ?_⟩
    · show PLa (w_fi ws (n_v vs 5) 31) (w_fi ws (n_v vs 5) 32) (w_ei ws (w_ar ws (n_v vs 5) 33)) (w_ei ws (w_ar ws (n_v vs 5) 34)) (w_ei ws (w_ar ws (n_v vs 5) 35)) (w_ei ws (w_ar ws (n_v vs 5) 36)) (w_ei ws (w_ar ws (n_v vs 5) 37)) (v_iv (n_v vs 6)) (v_iv (n_v vs 7)) (v_iv (n_v vs 8)) (v_iv (n_v vs 20)) (v_iv (n_v vs 4))
      simp only [q5, q6, q7]
      exact vc_Mo_putAt_at_g1_3_0 (v_iv (n_v vs 1)) (v_iv (n_v vs 2)) (v_iv (n_v vs 4)) (v_iv (n_v vs 6)) (v_iv (n_v vs 7)) (v_iv (n_v vs 8)) (v_iv (n_v vs 9)) (v_iv (n_v vs 11)) (v_iv (n_v vs 12)) (v_iv (n_v vs 13)) (v_iv (n_v vs 14)) (v_iv (n_v vs 15)) (v_iv (n_v vs 16)) (v_iv (n_v vs 17)) (v_iv (n_v vs 18)) (v_iv (n_v vs 19)) (v_iv (n_v vs 20)) (w_ei w1 (w_ar ws (n_v vs 0) 37)) (w_ei w1 (w_ar ws (n_v vs 0) 33)) (w_ei w1 (w_ar ws (n_v vs 0) 34)) (w_ei w1 (w_ar ws (n_v vs 0) 35)) (w_ei w1 (w_ar ws (n_v vs 0) 36)) (w_fi w1 (n_v vs 0) 31) (w_fi w1 (n_v vs 0) 32) (w_fi ws (n_v vs 0) 31) (w_fi ws (n_v vs 0) 32) (w_ei ws (w_ar ws (n_v vs 0) 33)) (w_ei ws (w_ar ws (n_v vs 0) 34)) (w_ei ws (w_ar ws (n_v vs 0) 35)) (w_ei ws (w_ar ws (n_v vs 0) 36)) (w_ei ws (w_ar ws (n_v vs 0) 37)) k1 k2 k4 k6 k7 k8 k9 k11 k12 k13 k14 k15 k16 k17 k18 k19 k20 d0 d1 d2 d3 d4 d5 d6 d7 d8 d9 d10 d11 d12 d13 d14 d15 d16 f0 h5 f6 f7 f8 f10 f11 f12 f13 fe_0_31_1 fe_0_32_1 hE_0_33_1 hK_0_33 hE_0_34_1 hK_0_34 hE_0_35_1 hK_0_35 hE_0_36_1 hK_0_36 hE_0_37_1 hK_0_37 kz_0_31 kz_0_32
  refine ⟨(fun _ h => (by cases h)), [], trivial, ?_, (fun _ h => (by cases h))⟩
  rw [List.append_nil]
  exact List.forall_mem_cons.mpr ⟨⟨show (20 : Nat) < 100 from by decide, nf0⟩, (fun _ h => (by cases h))⟩
def n_Mo_putAt_at_g1_an : List an_T := [(8, [(0, (2, 0, 0, [165])), (1, (0, 0, 24, [])), (2, (0, 0, 79, [])), (3, (0, 0, 79, [])), (4, (0, 0, 80, []))], [], (0, 0), [(0, 0, 99992), (2, 9, 0), (0, 0, 100000)], [(1, 6, (Int.negSucc 999999999999), 0), (2, 7, (Int.negSucc 999999999999), 0), (3, 8, (Int.negSucc 999999999999), 0), (6, 1, (Int.negSucc 999999999999), 0), (7, 2, (Int.negSucc 999999999999), 0), (8, 3, (Int.negSucc 999999999999), 0)], [], [(2, 0, 0, [165]), (0, 0, 24, []), (0, 0, 79, []), (0, 0, 79, []), (0, 0, 24, [])], 0, [], [(20, [5, 6, 7, 8, 9, 4], [60, 2, 5, 255, 31, 32, 33, 34, 35, 36, 37]), (24, [0, 5], []), (24, [1, 6], []), (24, [2, 7], [])])]
def t_Mo_putAt_at_g1_ct : ct_L := []
set_option maxRecDepth 100000 in
theorem c_Mo_putAt_at_g1 {l : Launch} {D : va_G} {kA : Nat → ClassId} : ct_ok PRD l D kA GG y_Mo_putAt_at_g1 z_Mo_putAt_at_g1 e_Mo_putAt_at_g1 := chk_all_ok (FT := [(66, 13, 36), (69, 13, 37)]) (PT := []) (CT := t_Mo_putAt_at_g1_ct) (KT := []) (NT := []) (AN := n_Mo_putAt_at_g1_an) (OT := [o_Mo_putAt_at_g1_0, o_Mo_putAt_at_g1_1, o_Mo_putAt_at_g1_2, o_Mo_putAt_at_g1_3]) 3 200 (List.forall_mem_cons.mpr ⟨oo_Mo_putAt_at_g1_0, List.forall_mem_cons.mpr ⟨oo_Mo_putAt_at_g1_1, List.forall_mem_cons.mpr ⟨oo_Mo_putAt_at_g1_2, List.forall_mem_cons.mpr ⟨oo_Mo_putAt_at_g1_3, List.forall_mem_nil _⟩⟩⟩⟩) (by decide +kernel) ⟨List.forall_mem_cons.mpr ⟨gf_Mo_66, List.forall_mem_cons.mpr ⟨gf_Mo_69, List.forall_mem_nil _⟩⟩, List.forall_mem_nil _, List.forall_mem_nil _, List.forall_mem_nil _, List.forall_mem_nil _, GG_pl⟩ (by decide +kernel)
set_option maxHeartbeats 4000000 in
theorem vc_Mo_putAt_at_g2_0_0 (x1 : Int) (x2 : Int) (x3 : Int) (x4 : Int) (x6 : Int) (rotMany_0 : Int → Int) (pt_0 : Int → Int) (ph_0 : Int → Int) (alive_0 : Int → Int) (rot_0 : Int → Int) (pn_0 : Int) (pm_0 : Int) (k1 : 0 ≤ x1 ∧ x1 ≤ 24) (k2 : 0 ≤ x2 ∧ x2 ≤ 79) (k3 : 0 ≤ x3 ∧ x3 ≤ 79) (k4 : 0 ≤ x4 ∧ x4 ≤ 24) (k6 : 0 ≤ x6 ∧ x6 ≤ 80) (h0 : x6 = rotMany_0 (x1)) (f2 : PAb (pn_0) (pm_0) (pt_0) (ph_0) (alive_0) (rotMany_0) (rot_0) (x1) (x2) (x3) (x4)) (hK_0_33 : ∀ j : Int, 0 ≤ j → j < 80 → 0 ≤ pt_0 j ∧ pt_0 j ≤ 24) (hK_0_34 : ∀ j : Int, 0 ≤ j → j < 80 → 0 ≤ ph_0 j ∧ ph_0 j ≤ 24) (hK_0_35 : ∀ j : Int, 0 ≤ j → j < 80 → 0 ≤ alive_0 j ∧ alive_0 j ≤ 1) (hK_0_36 : ∀ j : Int, 0 ≤ j → j < 26 → 0 ≤ rotMany_0 j ∧ rotMany_0 j ≤ 80) (hK_0_37 : ∀ j : Int, 0 ≤ j → j < 2080 → 0 ≤ rot_0 j ∧ rot_0 j ≤ 79) (kz_0_31 : 0 ≤ pn_0 ∧ pn_0 ≤ 25) (kz_0_32 : 0 ≤ pm_0 ∧ pm_0 ≤ 80) : PLb (pn_0) (pm_0) (pt_0) (ph_0) (alive_0) (rotMany_0) (rot_0) (x1) (x2) (x3) (x6) (x4) := by
  first
    | exact pal_start ‹PAb _ _ _ _ _ _ _ _ _ _ _› (by omega)
    | exact pal_step ‹PLb _ _ _ _ _ _ _ _ _ _ _ _› (by omega) (by omega) (by assumption) (by omega) (by assumption) (by omega)
def o_Mo_putAt_at_g2_0 : or_T := (8, 7, [(0, (2, 0, 0, [165])), (1, (0, 0, 24, [])), (2, (0, 0, 79, [])), (3, (0, 0, 79, [])), (4, (0, 0, 24, [])), (6, (0, 0, 80, []))], [(10, [6, 5, 1], []), (9, [5, 0], [36]), (20, [0, 1, 2, 3, 4], [60, 2, 5, 252, 31, 32, 33, 34, 35, 36, 37])], [], [], [(20, [0, 1, 2, 3, 6, 4], [60, 2, 5, 256, 31, 32, 33, 34, 35, 36, 37]), (24, [0, 0], []), (24, [1, 1], []), (24, [2, 2], [])], [], [])
theorem oo_Mo_putAt_at_g2_0 {kA : Nat → ClassId} : or_ok PRD kA GG o_Mo_putAt_at_g2_0 := by
  refine or_mk fun A ta ws vs hD hth hl => ?_
  intro t0 r0 t1 k1 t2 k2 t3 k3 t4 k4 t6 k6 f0 f1 f2
  replace f0 := shm_107 f0
  replace f1 := shm_684 f1
  have cr_0_33 := fdq_117 hD hth r0
  have cr_0_34 := fdq_118 hD hth r0
  have cr_0_35 := fdq_132 hD hth r0
  have cr_0_36 := fdq_167 hD hth r0
  have cr_0_37 := fdq_168 hD hth r0
  have ad_5 : v_ad (n_v vs 5) = w_ar ws (n_v vs 0) 36 := congrArg v_ad f1
  simp only [ad_5] at f0
  have h0 : v_iv (n_v vs 6) = w_ei ws (w_ar ws (n_v vs 0) 36) (v_iv (n_v vs 1)) := f0
  have hK_0_33 := elq_60 hD hth cr_0_33
  have hK_0_34 := elq_61 hD hth cr_0_34
  have hK_0_35 := elq_72 hD hth cr_0_35
  have hK_0_36 := elq_97 hD hth cr_0_36
  have hK_0_37 := elq_98 hD hth cr_0_37
  have kz_0_31 := fdq_145 hD hth r0
  have kz_0_32 := fdq_140 hD hth r0
  have nf0 : fc_1 PRD (20, [0, 1, 2, 3, 6, 4], [60, 2, 5, 256, 31, 32, 33, 34, 35, 36, 37]) ws (vs) := ⟨nf_in hl rfl, sgq_690 (vc_Mo_putAt_at_g2_0_0 (v_iv (n_v vs 1)) (v_iv (n_v vs 2)) (v_iv (n_v vs 3)) (v_iv (n_v vs 4)) (v_iv (n_v vs 6)) (w_ei ws (w_ar ws (n_v vs 0) 36)) (w_ei ws (w_ar ws (n_v vs 0) 33)) (w_ei ws (w_ar ws (n_v vs 0) 34)) (w_ei ws (w_ar ws (n_v vs 0) 35)) (w_ei ws (w_ar ws (n_v vs 0) 37)) (w_fi ws (n_v vs 0) 31) (w_fi ws (n_v vs 0) 32) k1 k2 k3 k4 k6 h0 (shm_689 f2) hK_0_33 hK_0_34 hK_0_35 hK_0_36 hK_0_37 kz_0_31 kz_0_32)⟩
  have nf1 : fc_1 PRD (24, [0, 0], []) ws (vs) := by
    refine ⟨nf_in hl rfl, sgq_1 ?_⟩
    · show n_v vs 0 = n_v vs 0
      first | rfl | simp only [true_and]
  have nf2 : fc_1 PRD (24, [1, 1], []) ws (vs) := by
    refine ⟨nf_in hl rfl, sgq_1 ?_⟩
    · show n_v vs 1 = n_v vs 1
      first | rfl | simp only [true_and]
  have nf3 : fc_1 PRD (24, [2, 2], []) ws (vs) := by
    refine ⟨nf_in hl rfl, sgq_1 ?_⟩
    · show n_v vs 2 = n_v vs 2
      first | rfl | simp only [true_and]
  refine ⟨(fun _ h => (by cases h)), [], trivial, ?_, (fun _ h => (by cases h))⟩
  rw [List.append_nil]
  exact List.forall_mem_cons.mpr ⟨⟨show (20 : Nat) < 100 from by decide, nf0⟩, List.forall_mem_cons.mpr ⟨⟨show (24 : Nat) < 100 from by decide, nf1⟩, List.forall_mem_cons.mpr ⟨⟨show (24 : Nat) < 100 from by decide, nf2⟩, List.forall_mem_cons.mpr ⟨⟨show (24 : Nat) < 100 from by decide, nf3⟩, (fun _ h => (by cases h))⟩⟩⟩⟩
set_option maxHeartbeats 4000000 in
theorem vc_Mo_putAt_at_g2_1_r0 (x1 : Int) (x2 : Int) (x4 : Int) (x6 : Int) (x7 : Int) (x8 : Int) (x9 : Int) (x11 : Int) (x12 : Int) (x13 : Int) (x15 : Int) (x16 : Int) (x17 : Int) (rotMany_0 : Int → Int) (pt_1 : Int → Int) (ph_1 : Int → Int) (alive_1 : Int → Int) (rotMany_1 : Int → Int) (rot_1 : Int → Int) (pn_1 : Int) (pm_1 : Int) (pn_0 : Int) (pm_0 : Int) (pt_0 : Int → Int) (ph_0 : Int → Int) (alive_0 : Int → Int) (rot_0 : Int → Int) (k1 : 0 ≤ x1 ∧ x1 ≤ 24) (k2 : 0 ≤ x2 ∧ x2 ≤ 79) (k4 : 0 ≤ x4 ∧ x4 ≤ 24) (k6 : 0 ≤ x6 ∧ x6 ≤ 24) (k7 : 0 ≤ x7 ∧ x7 ≤ 79) (k8 : 0 ≤ x8 ∧ x8 ≤ 79) (k9 : 0 ≤ x9 ∧ x9 ≤ 79) (k11 : 80 ≤ x11 ∧ x11 ≤ 80) (k12 : 0 ≤ x12 ∧ x12 ≤ 1920) (k13 : 0 ≤ x13 ∧ x13 ≤ 1999) (k15 : 0 ≤ x15 ∧ x15 ≤ 80) (k16 : 1 ≤ x16 ∧ x16 ≤ 1) (k17 : 1 ≤ x17 ∧ x17 ≤ 81) (d0 : x15 + 1 ≤ x17 ∧ x17 ≤ x15 + 1) (d1 : x8 + 0 ≤ x13 ∧ x13 ≤ x8 + 1920) (d2 : x12 + 0 ≤ x13 ∧ x13 ≤ x12 + 79) (d3 : x8 + (-4294967296) ≤ x9 ∧ x9 ≤ x8 + 0) (d4 : x6 + (-4294967296) ≤ x1 ∧ x1 ≤ x6 + 0) (d5 : x7 + (-4294967296) ≤ x2 ∧ x2 ≤ x7 + 0) (d6 : x1 + (-4294967296) ≤ x6 ∧ x6 ≤ x1 + 0) (d7 : x2 + (-4294967296) ≤ x7 ∧ x7 ≤ x2 + 0) (f0 : x17 = x15 + x16) (h1 : x15 = rotMany_0 (x1)) (f7 : x13 = x12 + x8) (f8 : x12 = 80 * x1) (f10 : x9 ≤ x8) (f11 : PLb (pn_1) (pm_1) (pt_1) (ph_1) (alive_1) (rotMany_1) (rot_1) (x1) (x2) (x8) (x9) (x4)) (fe_0_31_1 : pn_0 = pn_1) (fe_0_32_1 : pm_0 = pm_1) (hE_0_33_1 : ∀ j : Int, pt_0 j = pt_1 j) (hK_0_33 : ∀ j : Int, 0 ≤ j → j < 80 → 0 ≤ pt_0 j ∧ pt_0 j ≤ 24) (hE_0_34_1 : ∀ j : Int, ph_0 j = ph_1 j) (hK_0_34 : ∀ j : Int, 0 ≤ j → j < 80 → 0 ≤ ph_0 j ∧ ph_0 j ≤ 24) (hE_0_35_1 : ∀ j : Int, alive_0 j = alive_1 j) (hK_0_35 : ∀ j : Int, 0 ≤ j → j < 80 → 0 ≤ alive_0 j ∧ alive_0 j ≤ 1) (hE_0_36_1 : ∀ j : Int, rotMany_0 j = rotMany_1 j) (hK_0_36 : ∀ j : Int, 0 ≤ j → j < 26 → 0 ≤ rotMany_0 j ∧ rotMany_0 j ≤ 80) (hE_0_37_1 : ∀ j : Int, 0 ≤ j → (j = x13 → rot_0 j = x2) ∧ (j ≠ x13 → rot_0 j = rot_1 j)) (hK_0_37 : ∀ j : Int, 0 ≤ j → j < 2080 → 0 ≤ rot_0 j ∧ rot_0 j ≤ 79) (kz_0_31 : 0 ≤ pn_0 ∧ pn_0 ≤ 25) (kz_0_32 : 0 ≤ pm_0 ∧ pm_0 ≤ 80) : 1 ≤ x17 ∧ x17 ≤ 80 := by
  subst fe_0_31_1
  subst fe_0_32_1
  have e_hE_0_33_1 := funext hE_0_33_1; subst e_hE_0_33_1
  have e_hE_0_34_1 := funext hE_0_34_1; subst e_hE_0_34_1
  have e_hE_0_35_1 := funext hE_0_35_1; subst e_hE_0_35_1
  have e_hE_0_36_1 := funext hE_0_36_1; subst e_hE_0_36_1
  first
    | omega
    | (have h := pax_len ‹PAa _ _ _ _ _ _ _ _ _ _ _›; omega)
    | (have h := pax_len ‹PAb _ _ _ _ _ _ _ _ _ _ _›; omega)
    | (have h := pax_len ‹PAc _ _ _ _ _ _ _ _ _ _ _ _ _ _›; omega)
    | (have h := pax_len ‹PAd _ _ _ _ _ _ _ _ _ _ _ _ _ _›; omega)
    | (have h := pal_len ‹PLa _ _ _ _ _ _ _ _ _ _ _ _›; omega)
    | (have h := pal_len ‹PLb _ _ _ _ _ _ _ _ _ _ _ _›; omega)
    | (have h := pal_len ‹PLc _ _ _ _ _ _ _ _ _ _ _ _ _ _ _›; omega)
    | (have h := pal_len ‹PLd _ _ _ _ _ _ _ _ _ _ _ _ _ _ _›; omega)
def o_Mo_putAt_at_g2_1 : or_T := (67, 18, [(0, (2, 0, 0, [165])), (1, (0, 0, 24, [])), (2, (0, 0, 79, [])), (4, (0, 0, 24, [])), (5, (2, 0, 0, [165])), (6, (0, 0, 24, [])), (7, (0, 0, 79, [])), (8, (0, 0, 79, [])), (9, (0, 0, 79, [])), (10, (2, 0, 0, [184])), (11, (0, 80, 80, [])), (12, (0, 0, 1920, [])), (13, (0, 0, 1999, [])), (14, (2, 0, 0, [183])), (15, (0, 0, 80, [])), (16, (0, 1, 1, [])), (17, (0, 1, 81, []))], [(1, [17, 15, 16], []), (10, [15, 14, 6], []), (9, [14, 5], [36]), (24, [0, 5], []), (24, [1, 6], []), (24, [2, 7], []), (100, [10, 13, 7], []), (1, [13, 12, 8], []), (3, [12, 11, 6], []), (9, [10, 5], [37]), (7, [9, 8], [5]), (20, [5, 6, 7, 8, 9, 4], [60, 2, 5, 256, 31, 32, 33, 34, 35, 36, 37])], [(17, (0, 1, 80, []))], [], [], [], [(17, 15, 1, 1), (13, 8, 0, 1920), (13, 12, 0, 79), (9, 8, -4294967296, 0), (1, 6, -4294967296, 0), (2, 7, -4294967296, 0), (6, 1, -4294967296, 0), (7, 2, -4294967296, 0)])
theorem oo_Mo_putAt_at_g2_1 {kA : Nat → ClassId} : or_ok PRD kA GG o_Mo_putAt_at_g2_1 := by
  refine or_mk fun A ta ws vs hD hth hl => ?_
  intro t0 r0 t1 k1 t2 k2 t4 k4 t5 r5 t6 k6 t7 k7 t8 k8 t9 k9 t10 r10 t11 k11 t12 k12 t13 k13 t14 r14 t15 k15 t16 k16 t17 k17 d0 d1 d2 d3 d4 d5 d6 d7 f0 f1 f2 f3 f4 f5 ta1 w1 le1 s1 f7 f8 f9 f10 f11
  replace f1 := shm_107 f1
  replace f2 := shm_684 f2
  replace f3 := shm_5 f3
  replace f4 := shm_5 f4
  replace f5 := shm_5 f5
  have s1 : (∀ b j, w_el ws b j = if b = v_ad (n_v vs 10) ∧ j = (v_iv (n_v vs 13)).toNat then v_iv (n_v vs 7) else w_el w1 b j) ∧ ∀ b k, w_fd ws b k = w_fd w1 b k := s1.2
  replace f8 := shm_38 f8
  rw [show v_iv (n_v vs 11) = 80 from by omega] at f8
  replace f9 := shm_687 f9
  replace f11 := shm_690 f11
  have q5 : n_v vs 5 = n_v vs 0 := f3.symm
  have q6 : n_v vs 6 = n_v vs 1 := f4.symm
  have q7 : n_v vs 7 = n_v vs 2 := f5.symm
  simp only [q6, q5] at f1 f2
  rw [q7] at s1
  simp only [q6, q5, q7] at f8 f9 f11
  have ar_0_33_1 : w_ar w1 (n_v vs 0) 33 = w_ar ws (n_v vs 0) 33 := congrArg v_ad (s1.2 _ _).symm
  have cr_0_33 := fdq_117 hD hth r0
  have ar_0_34_1 : w_ar w1 (n_v vs 0) 34 = w_ar ws (n_v vs 0) 34 := congrArg v_ad (s1.2 _ _).symm
  have cr_0_34 := fdq_118 hD hth r0
  have ar_0_35_1 : w_ar w1 (n_v vs 0) 35 = w_ar ws (n_v vs 0) 35 := congrArg v_ad (s1.2 _ _).symm
  have cr_0_35 := fdq_132 hD hth r0
  have ar_0_36_1 : w_ar w1 (n_v vs 0) 36 = w_ar ws (n_v vs 0) 36 := congrArg v_ad (s1.2 _ _).symm
  have cr_0_36 := fdq_167 hD hth r0
  have ar_0_37_1 : w_ar w1 (n_v vs 0) 37 = w_ar ws (n_v vs 0) 37 := congrArg v_ad (s1.2 _ _).symm
  have cr_0_37 := fdq_168 hD hth r0
  have ad_14 : v_ad (n_v vs 14) = w_ar ws (n_v vs 0) 36 := congrArg v_ad f2
  have ad_10 : v_ad (n_v vs 10) = w_ar ws (n_v vs 0) 37 := (congrArg v_ad f9).trans ar_0_37_1
  simp only [ad_14] at f1
  have h1 : v_iv (n_v vs 15) = w_ei ws (w_ar ws (n_v vs 0) 36) (v_iv (n_v vs 1)) := f1
  simp only [ar_0_33_1, ar_0_34_1, ar_0_35_1, ar_0_36_1, ar_0_37_1] at f11
  have fe_0_31_1 : w_fi ws (n_v vs 0) 31 = w_fi w1 (n_v vs 0) 31 := congrArg v_iv (s1.2 _ _)
  have fe_0_32_1 : w_fi ws (n_v vs 0) 32 = w_fi w1 (n_v vs 0) 32 := congrArg v_iv (s1.2 _ _)
  have hE_0_33_1 : ∀ j : Int, w_ei ws (w_ar ws (n_v vs 0) 33) j = w_ei w1 (w_ar ws (n_v vs 0) 33) j := el_kp s1.1 r10 cr_0_33 (by decide)
  have hK_0_33 := elq_60 hD hth cr_0_33
  have hE_0_34_1 : ∀ j : Int, w_ei ws (w_ar ws (n_v vs 0) 34) j = w_ei w1 (w_ar ws (n_v vs 0) 34) j := el_kp s1.1 r10 cr_0_34 (by decide)
  have hK_0_34 := elq_61 hD hth cr_0_34
  have hE_0_35_1 : ∀ j : Int, w_ei ws (w_ar ws (n_v vs 0) 35) j = w_ei w1 (w_ar ws (n_v vs 0) 35) j := el_kp s1.1 r10 cr_0_35 (by decide)
  have hK_0_35 := elq_72 hD hth cr_0_35
  have hE_0_36_1 : ∀ j : Int, w_ei ws (w_ar ws (n_v vs 0) 36) j = w_ei w1 (w_ar ws (n_v vs 0) 36) j := el_kp s1.1 r10 cr_0_36 (by decide)
  have hK_0_36 := elq_97 hD hth cr_0_36
  have hE_0_37_1 : ∀ j : Int, 0 ≤ j → (j = v_iv (n_v vs 13) → w_ei ws (w_ar ws (n_v vs 0) 37) j = v_iv (n_v vs 2)) ∧ (j ≠ v_iv (n_v vs 13) → w_ei ws (w_ar ws (n_v vs 0) 37) j = w_ei w1 (w_ar ws (n_v vs 0) 37) j) := fun j hj => ⟨fun h => by unfold w_ei; rw [s1.1, if_pos ⟨ad_10.symm, by rw [h]⟩], fun h => by unfold w_ei; rw [s1.1, if_neg (fun e => h (by have := e.2; omega))]⟩
  have hK_0_37 := elq_98 hD hth cr_0_37
  have kz_0_31 := fdq_145 hD hth r0
  have kz_0_32 := fdq_140 hD hth r0
  have hrf0 : 1 ≤ v_iv (n_v vs 17) ∧ v_iv (n_v vs 17) ≤ 80 := vc_Mo_putAt_at_g2_1_r0 (v_iv (n_v vs 1)) (v_iv (n_v vs 2)) (v_iv (n_v vs 4)) (v_iv (n_v vs 6)) (v_iv (n_v vs 7)) (v_iv (n_v vs 8)) (v_iv (n_v vs 9)) (v_iv (n_v vs 11)) (v_iv (n_v vs 12)) (v_iv (n_v vs 13)) (v_iv (n_v vs 15)) (v_iv (n_v vs 16)) (v_iv (n_v vs 17)) (w_ei ws (w_ar ws (n_v vs 0) 36)) (w_ei w1 (w_ar ws (n_v vs 0) 33)) (w_ei w1 (w_ar ws (n_v vs 0) 34)) (w_ei w1 (w_ar ws (n_v vs 0) 35)) (w_ei w1 (w_ar ws (n_v vs 0) 36)) (w_ei w1 (w_ar ws (n_v vs 0) 37)) (w_fi w1 (n_v vs 0) 31) (w_fi w1 (n_v vs 0) 32) (w_fi ws (n_v vs 0) 31) (w_fi ws (n_v vs 0) 32) (w_ei ws (w_ar ws (n_v vs 0) 33)) (w_ei ws (w_ar ws (n_v vs 0) 34)) (w_ei ws (w_ar ws (n_v vs 0) 35)) (w_ei ws (w_ar ws (n_v vs 0) 37)) k1 k2 k4 k6 k7 k8 k9 k11 k12 k13 k15 k16 k17 d0 d1 d2 d3 d4 d5 d6 d7 (shm_12 f0) h1 (shm_12 f7) f8 (shm_24 f10) f11 fe_0_31_1 fe_0_32_1 hE_0_33_1 hK_0_33 hE_0_34_1 hK_0_34 hE_0_35_1 hK_0_35 hE_0_36_1 hK_0_36 hE_0_37_1 hK_0_37 kz_0_31 kz_0_32
  have rf17 : tv_ok ta (0, 1, 80, []) (n_v vs 17) := tv_in t17 (by first | omega | grind) (by first | omega | grind)
  refine ⟨List.forall_mem_cons.mpr ⟨rf17, (fun _ h => (by cases h))⟩, [], trivial, ?_, (fun _ h => (by cases h))⟩
  rw [List.append_nil]
  exact (fun _ h => (by cases h))
set_option maxHeartbeats 4000000 in
theorem vc_Mo_putAt_at_g2_2_0 (x1 : Int) (x2 : Int) (x4 : Int) (x6 : Int) (x7 : Int) (x8 : Int) (x9 : Int) (x11 : Int) (x12 : Int) (x13 : Int) (x15 : Int) (x16 : Int) (x17 : Int) (rotMany_1 : Int → Int) (pt_2 : Int → Int) (ph_2 : Int → Int) (alive_2 : Int → Int) (rotMany_2 : Int → Int) (rot_2 : Int → Int) (pn_2 : Int) (pm_2 : Int) (pn_0 : Int) (pn_1 : Int) (pm_0 : Int) (pm_1 : Int) (pt_0 : Int → Int) (pt_1 : Int → Int) (ph_0 : Int → Int) (ph_1 : Int → Int) (alive_0 : Int → Int) (alive_1 : Int → Int) (rotMany_0 : Int → Int) (rot_0 : Int → Int) (rot_1 : Int → Int) (k1 : 0 ≤ x1 ∧ x1 ≤ 24) (k2 : 0 ≤ x2 ∧ x2 ≤ 79) (k4 : 0 ≤ x4 ∧ x4 ≤ 24) (k6 : 0 ≤ x6 ∧ x6 ≤ 24) (k7 : 0 ≤ x7 ∧ x7 ≤ 79) (k8 : 0 ≤ x8 ∧ x8 ≤ 79) (k9 : 0 ≤ x9 ∧ x9 ≤ 79) (k11 : 80 ≤ x11 ∧ x11 ≤ 80) (k12 : 0 ≤ x12 ∧ x12 ≤ 1920) (k13 : 0 ≤ x13 ∧ x13 ≤ 1999) (k15 : 0 ≤ x15 ∧ x15 ≤ 80) (k16 : 1 ≤ x16 ∧ x16 ≤ 1) (k17 : 1 ≤ x17 ∧ x17 ≤ 80) (d0 : x15 + 1 ≤ x17 ∧ x17 ≤ x15 + 1) (d1 : x8 + 0 ≤ x13 ∧ x13 ≤ x8 + 1920) (d2 : x12 + 0 ≤ x13 ∧ x13 ≤ x12 + 79) (d3 : x8 + (-4294967296) ≤ x9 ∧ x9 ≤ x8 + 0) (d4 : x6 + (-4294967296) ≤ x1 ∧ x1 ≤ x6 + 0) (d5 : x7 + (-4294967296) ≤ x2 ∧ x2 ≤ x7 + 0) (d6 : x1 + (-4294967296) ≤ x6 ∧ x6 ≤ x1 + 0) (d7 : x2 + (-4294967296) ≤ x7 ∧ x7 ≤ x2 + 0) (f4 : x17 = x15 + x16) (h5 : x15 = rotMany_1 (x1)) (f8 : x13 = x12 + x8) (f9 : x12 = 80 * x1) (f11 : x9 ≤ x8) (f12 : PLb (pn_2) (pm_2) (pt_2) (ph_2) (alive_2) (rotMany_2) (rot_2) (x1) (x2) (x8) (x9) (x4)) (fe_0_31_1 : pn_0 = pn_1) (fe_0_32_1 : pm_0 = pm_1) (fe_0_31_2 : pn_1 = pn_2) (fe_0_32_2 : pm_1 = pm_2) (hE_0_33_1 : ∀ j : Int, pt_0 j = pt_1 j) (hE_0_33_2 : ∀ j : Int, pt_1 j = pt_2 j) (hK_0_33 : ∀ j : Int, 0 ≤ j → j < 80 → 0 ≤ pt_0 j ∧ pt_0 j ≤ 24) (hE_0_34_1 : ∀ j : Int, ph_0 j = ph_1 j) (hE_0_34_2 : ∀ j : Int, ph_1 j = ph_2 j) (hK_0_34 : ∀ j : Int, 0 ≤ j → j < 80 → 0 ≤ ph_0 j ∧ ph_0 j ≤ 24) (hE_0_35_1 : ∀ j : Int, alive_0 j = alive_1 j) (hE_0_35_2 : ∀ j : Int, alive_1 j = alive_2 j) (hK_0_35 : ∀ j : Int, 0 ≤ j → j < 80 → 0 ≤ alive_0 j ∧ alive_0 j ≤ 1) (hE_0_36_1 : ∀ j : Int, 0 ≤ j → (j = x1 → rotMany_0 j = x17) ∧ (j ≠ x1 → rotMany_0 j = rotMany_1 j)) (hE_0_36_2 : ∀ j : Int, rotMany_1 j = rotMany_2 j) (hK_0_36 : ∀ j : Int, 0 ≤ j → j < 26 → 0 ≤ rotMany_0 j ∧ rotMany_0 j ≤ 80) (hE_0_37_1 : ∀ j : Int, rot_0 j = rot_1 j) (hE_0_37_2 : ∀ j : Int, 0 ≤ j → (j = x13 → rot_1 j = x2) ∧ (j ≠ x13 → rot_1 j = rot_2 j)) (hK_0_37 : ∀ j : Int, 0 ≤ j → j < 2080 → 0 ≤ rot_0 j ∧ rot_0 j ≤ 79) (kz_0_31 : 0 ≤ pn_0 ∧ pn_0 ≤ 25) (kz_0_32 : 0 ≤ pm_0 ∧ pm_0 ≤ 80) : GRI (pn_0) (pm_0) (pt_0) (ph_0) (alive_0) (rotMany_0) (rot_0) := by
  subst fe_0_31_1
  subst fe_0_32_1
  subst fe_0_31_2
  subst fe_0_32_2
  have e_hE_0_33_1 := funext hE_0_33_1; subst e_hE_0_33_1
  have e_hE_0_33_2 := funext hE_0_33_2; subst e_hE_0_33_2
  have e_hE_0_34_1 := funext hE_0_34_1; subst e_hE_0_34_1
  have e_hE_0_34_2 := funext hE_0_34_2; subst e_hE_0_34_2
  have e_hE_0_35_1 := funext hE_0_35_1; subst e_hE_0_35_1
  have e_hE_0_35_2 := funext hE_0_35_2; subst e_hE_0_35_2
  have e_hE_0_36_2 := funext hE_0_36_2; subst e_hE_0_36_2
  have e_hE_0_37_1 := funext hE_0_37_1; subst e_hE_0_37_1
  first
    | exact (pal_end ‹PLb _ _ _ _ _ _ _ _ _ _ _ _› (by omega) (by assumption) (by omega) (by omega) (by assumption) (by omega) (by omega)).2.2.2.2 rfl
    | exact (pal_end ‹PLd _ _ _ _ _ _ _ _ _ _ _ _ _ _ _› (by omega) (by assumption) (by omega) (by omega) (by assumption) (by omega) (by omega)).2.2.2.2 rfl
def o_Mo_putAt_at_g2_2 : or_T := (68, 18, [(0, (2, 0, 0, [165])), (1, (0, 0, 24, [])), (2, (0, 0, 79, [])), (4, (0, 0, 24, [])), (6, (0, 0, 24, [])), (7, (0, 0, 79, [])), (8, (0, 0, 79, [])), (9, (0, 0, 79, [])), (10, (2, 0, 0, [184])), (11, (0, 80, 80, [])), (12, (0, 0, 1920, [])), (13, (0, 0, 1999, [])), (14, (2, 0, 0, [183])), (15, (0, 0, 80, [])), (16, (0, 1, 1, [])), (17, (0, 1, 80, []))], [(24, [0, 5], []), (24, [1, 6], []), (24, [2, 7], []), (100, [14, 6, 17], []), (1, [17, 15, 16], []), (10, [15, 14, 6], []), (9, [14, 5], [36]), (100, [10, 13, 7], []), (1, [13, 12, 8], []), (3, [12, 11, 6], []), (9, [10, 5], [37]), (7, [9, 8], [5]), (20, [5, 6, 7, 8, 9, 4], [60, 2, 5, 256, 31, 32, 33, 34, 35, 36, 37])], [], [], [(20, [0], [60, 2, 5, 261, 31, 32, 33, 34, 35, 36, 37])], [], [(17, 15, 1, 1), (13, 8, 0, 1920), (13, 12, 0, 79), (9, 8, -4294967296, 0), (1, 6, -4294967296, 0), (2, 7, -4294967296, 0), (6, 1, -4294967296, 0), (7, 2, -4294967296, 0)])
theorem oo_Mo_putAt_at_g2_2 {kA : Nat → ClassId} : or_ok PRD kA GG o_Mo_putAt_at_g2_2 := by
  refine or_mk fun A ta ws vs hD hth hl => ?_
  intro t0 r0 t1 k1 t2 k2 t4 k4 t6 k6 t7 k7 t8 k8 t9 k9 t10 r10 t11 k11 t12 k12 t13 k13 t14 r14 t15 k15 t16 k16 t17 k17 d0 d1 d2 d3 d4 d5 d6 d7 f0 f1 f2 ta1 w1 le1 s1 f4 f5 f6 ta2 w2 le2 s2 f8 f9 f10 f11 f12
  replace f0 := shm_5 f0
  replace f1 := shm_5 f1
  replace f2 := shm_5 f2
  have s1 : (∀ b j, w_el ws b j = if b = v_ad (n_v vs 14) ∧ j = (v_iv (n_v vs 6)).toNat then v_iv (n_v vs 17) else w_el w1 b j) ∧ ∀ b k, w_fd ws b k = w_fd w1 b k := s1.2
  replace f5 := shm_107 f5
  replace f6 := shm_684 f6
  have s2 : (∀ b j, w_el w1 b j = if b = v_ad (n_v vs 10) ∧ j = (v_iv (n_v vs 13)).toNat then v_iv (n_v vs 7) else w_el w2 b j) ∧ ∀ b k, w_fd w1 b k = w_fd w2 b k := s2.2
  replace f9 := shm_38 f9
  rw [show v_iv (n_v vs 11) = 80 from by omega] at f9
  replace f10 := shm_687 f10
  replace f12 := shm_690 f12
  have q5 : n_v vs 5 = n_v vs 0 := f0.symm
  have q6 : n_v vs 6 = n_v vs 1 := f1.symm
  have q7 : n_v vs 7 = n_v vs 2 := f2.symm
  rw [q6] at s1
  simp only [q6, q5] at f5 f6
  rw [q7] at s2
  simp only [q6, q5, q7] at f9 f10 f12
  have ar_0_33_1 : w_ar w1 (n_v vs 0) 33 = w_ar ws (n_v vs 0) 33 := congrArg v_ad (s1.2 _ _).symm
  have ar_0_33_2 : w_ar w2 (n_v vs 0) 33 = w_ar ws (n_v vs 0) 33 := by rw [← ar_0_33_1]; show v_ad (w_fd w2 _ _) = v_ad (w_fd w1 _ _); rw [s2.2]
  have cr_0_33 := fdq_117 hD hth r0
  have ar_0_34_1 : w_ar w1 (n_v vs 0) 34 = w_ar ws (n_v vs 0) 34 := congrArg v_ad (s1.2 _ _).symm
  have ar_0_34_2 : w_ar w2 (n_v vs 0) 34 = w_ar ws (n_v vs 0) 34 := by rw [← ar_0_34_1]; show v_ad (w_fd w2 _ _) = v_ad (w_fd w1 _ _); rw [s2.2]
  have cr_0_34 := fdq_118 hD hth r0
  have ar_0_35_1 : w_ar w1 (n_v vs 0) 35 = w_ar ws (n_v vs 0) 35 := congrArg v_ad (s1.2 _ _).symm
  have ar_0_35_2 : w_ar w2 (n_v vs 0) 35 = w_ar ws (n_v vs 0) 35 := by rw [← ar_0_35_1]; show v_ad (w_fd w2 _ _) = v_ad (w_fd w1 _ _); rw [s2.2]
  have cr_0_35 := fdq_132 hD hth r0
  have ar_0_36_1 : w_ar w1 (n_v vs 0) 36 = w_ar ws (n_v vs 0) 36 := congrArg v_ad (s1.2 _ _).symm
  have ar_0_36_2 : w_ar w2 (n_v vs 0) 36 = w_ar ws (n_v vs 0) 36 := by rw [← ar_0_36_1]; show v_ad (w_fd w2 _ _) = v_ad (w_fd w1 _ _); rw [s2.2]
  have cr_0_36 := fdq_167 hD hth r0
  have ar_0_37_1 : w_ar w1 (n_v vs 0) 37 = w_ar ws (n_v vs 0) 37 := congrArg v_ad (s1.2 _ _).symm
  have ar_0_37_2 : w_ar w2 (n_v vs 0) 37 = w_ar ws (n_v vs 0) 37 := by rw [← ar_0_37_1]; show v_ad (w_fd w2 _ _) = v_ad (w_fd w1 _ _); rw [s2.2]
  have cr_0_37 := fdq_168 hD hth r0
  have ad_14 : v_ad (n_v vs 14) = w_ar ws (n_v vs 0) 36 := (congrArg v_ad f6).trans ar_0_36_1
  have ad_10 : v_ad (n_v vs 10) = w_ar ws (n_v vs 0) 37 := (congrArg v_ad f10).trans ar_0_37_2
  simp only [ad_14] at f5
  have h5 : v_iv (n_v vs 15) = w_ei w1 (w_ar ws (n_v vs 0) 36) (v_iv (n_v vs 1)) := f5
  simp only [ar_0_33_2, ar_0_34_2, ar_0_35_2, ar_0_36_2, ar_0_37_2] at f12
  have fe_0_31_1 : w_fi ws (n_v vs 0) 31 = w_fi w1 (n_v vs 0) 31 := congrArg v_iv (s1.2 _ _)
  have fe_0_32_1 : w_fi ws (n_v vs 0) 32 = w_fi w1 (n_v vs 0) 32 := congrArg v_iv (s1.2 _ _)
  have fe_0_31_2 : w_fi w1 (n_v vs 0) 31 = w_fi w2 (n_v vs 0) 31 := congrArg v_iv (s2.2 _ _)
  have fe_0_32_2 : w_fi w1 (n_v vs 0) 32 = w_fi w2 (n_v vs 0) 32 := congrArg v_iv (s2.2 _ _)
  have hE_0_33_1 : ∀ j : Int, w_ei ws (w_ar ws (n_v vs 0) 33) j = w_ei w1 (w_ar ws (n_v vs 0) 33) j := el_kp s1.1 r14 cr_0_33 (by decide)
  have hE_0_33_2 : ∀ j : Int, w_ei w1 (w_ar ws (n_v vs 0) 33) j = w_ei w2 (w_ar ws (n_v vs 0) 33) j := el_kp s2.1 r10 cr_0_33 (by decide)
  have hK_0_33 := elq_60 hD hth cr_0_33
  have hE_0_34_1 : ∀ j : Int, w_ei ws (w_ar ws (n_v vs 0) 34) j = w_ei w1 (w_ar ws (n_v vs 0) 34) j := el_kp s1.1 r14 cr_0_34 (by decide)
  have hE_0_34_2 : ∀ j : Int, w_ei w1 (w_ar ws (n_v vs 0) 34) j = w_ei w2 (w_ar ws (n_v vs 0) 34) j := el_kp s2.1 r10 cr_0_34 (by decide)
  have hK_0_34 := elq_61 hD hth cr_0_34
  have hE_0_35_1 : ∀ j : Int, w_ei ws (w_ar ws (n_v vs 0) 35) j = w_ei w1 (w_ar ws (n_v vs 0) 35) j := el_kp s1.1 r14 cr_0_35 (by decide)
  have hE_0_35_2 : ∀ j : Int, w_ei w1 (w_ar ws (n_v vs 0) 35) j = w_ei w2 (w_ar ws (n_v vs 0) 35) j := el_kp s2.1 r10 cr_0_35 (by decide)
  have hK_0_35 := elq_72 hD hth cr_0_35
  have hE_0_36_1 : ∀ j : Int, 0 ≤ j → (j = v_iv (n_v vs 1) → w_ei ws (w_ar ws (n_v vs 0) 36) j = v_iv (n_v vs 17)) ∧ (j ≠ v_iv (n_v vs 1) → w_ei ws (w_ar ws (n_v vs 0) 36) j = w_ei w1 (w_ar ws (n_v vs 0) 36) j) := fun j hj => ⟨fun h => by unfold w_ei; rw [s1.1, if_pos ⟨ad_14.symm, by rw [h]⟩], fun h => by unfold w_ei; rw [s1.1, if_neg (fun e => h (by have := e.2; omega))]⟩
  have hE_0_36_2 : ∀ j : Int, w_ei w1 (w_ar ws (n_v vs 0) 36) j = w_ei w2 (w_ar ws (n_v vs 0) 36) j := el_kp s2.1 r10 cr_0_36 (by decide)
  have hK_0_36 := elq_97 hD hth cr_0_36
  have hE_0_37_1 : ∀ j : Int, w_ei ws (w_ar ws (n_v vs 0) 37) j = w_ei w1 (w_ar ws (n_v vs 0) 37) j := el_kp s1.1 r14 cr_0_37 (by decide)
  have hE_0_37_2 : ∀ j : Int, 0 ≤ j → (j = v_iv (n_v vs 13) → w_ei w1 (w_ar ws (n_v vs 0) 37) j = v_iv (n_v vs 2)) ∧ (j ≠ v_iv (n_v vs 13) → w_ei w1 (w_ar ws (n_v vs 0) 37) j = w_ei w2 (w_ar ws (n_v vs 0) 37) j) := fun j hj => ⟨fun h => by unfold w_ei; rw [s2.1, if_pos ⟨ad_10.symm, by rw [h]⟩], fun h => by unfold w_ei; rw [s2.1, if_neg (fun e => h (by have := e.2; omega))]⟩
  have hK_0_37 := elq_98 hD hth cr_0_37
  have kz_0_31 := fdq_145 hD hth r0
  have kz_0_32 := fdq_140 hD hth r0
  have nf0 : fc_1 PRD (20, [0], [60, 2, 5, 261, 31, 32, 33, 34, 35, 36, 37]) ws (vs) := ⟨nf_in hl rfl, sgq_691 (vc_Mo_putAt_at_g2_2_0 (v_iv (n_v vs 1)) (v_iv (n_v vs 2)) (v_iv (n_v vs 4)) (v_iv (n_v vs 6)) (v_iv (n_v vs 7)) (v_iv (n_v vs 8)) (v_iv (n_v vs 9)) (v_iv (n_v vs 11)) (v_iv (n_v vs 12)) (v_iv (n_v vs 13)) (v_iv (n_v vs 15)) (v_iv (n_v vs 16)) (v_iv (n_v vs 17)) (w_ei w1 (w_ar ws (n_v vs 0) 36)) (w_ei w2 (w_ar ws (n_v vs 0) 33)) (w_ei w2 (w_ar ws (n_v vs 0) 34)) (w_ei w2 (w_ar ws (n_v vs 0) 35)) (w_ei w2 (w_ar ws (n_v vs 0) 36)) (w_ei w2 (w_ar ws (n_v vs 0) 37)) (w_fi w2 (n_v vs 0) 31) (w_fi w2 (n_v vs 0) 32) (w_fi ws (n_v vs 0) 31) (w_fi w1 (n_v vs 0) 31) (w_fi ws (n_v vs 0) 32) (w_fi w1 (n_v vs 0) 32) (w_ei ws (w_ar ws (n_v vs 0) 33)) (w_ei w1 (w_ar ws (n_v vs 0) 33)) (w_ei ws (w_ar ws (n_v vs 0) 34)) (w_ei w1 (w_ar ws (n_v vs 0) 34)) (w_ei ws (w_ar ws (n_v vs 0) 35)) (w_ei w1 (w_ar ws (n_v vs 0) 35)) (w_ei ws (w_ar ws (n_v vs 0) 36)) (w_ei ws (w_ar ws (n_v vs 0) 37)) (w_ei w1 (w_ar ws (n_v vs 0) 37)) k1 k2 k4 k6 k7 k8 k9 k11 k12 k13 k15 k16 k17 d0 d1 d2 d3 d4 d5 d6 d7 (shm_12 f4) h5 (shm_12 f8) f9 (shm_24 f11) f12 fe_0_31_1 fe_0_32_1 fe_0_31_2 fe_0_32_2 hE_0_33_1 hE_0_33_2 hK_0_33 hE_0_34_1 hE_0_34_2 hK_0_34 hE_0_35_1 hE_0_35_2 hK_0_35 hE_0_36_1 hE_0_36_2 hK_0_36 hE_0_37_1 hE_0_37_2 hK_0_37 kz_0_31 kz_0_32)⟩
  refine ⟨(fun _ h => (by cases h)), [], trivial, ?_, (fun _ h => (by cases h))⟩
  rw [List.append_nil]
  exact List.forall_mem_cons.mpr ⟨⟨show (20 : Nat) < 100 from by decide, nf0⟩, (fun _ h => (by cases h))⟩
set_option maxHeartbeats 4000000 in
theorem vc_Mo_putAt_at_g2_3_0 (x1 : Int) (x2 : Int) (x4 : Int) (x6 : Int) (x7 : Int) (x8 : Int) (x9 : Int) (x11 : Int) (x12 : Int) (x13 : Int) (x14 : Int) (x15 : Int) (x16 : Int) (x17 : Int) (x18 : Int) (x19 : Int) (x20 : Int) (rot_1 : Int → Int) (pt_1 : Int → Int) (ph_1 : Int → Int) (alive_1 : Int → Int) (rotMany_1 : Int → Int) (pn_1 : Int) (pm_1 : Int) (pn_0 : Int) (pm_0 : Int) (pt_0 : Int → Int) (ph_0 : Int → Int) (alive_0 : Int → Int) (rotMany_0 : Int → Int) (rot_0 : Int → Int) (k1 : 0 ≤ x1 ∧ x1 ≤ 24) (k2 : 0 ≤ x2 ∧ x2 ≤ 79) (k4 : 0 ≤ x4 ∧ x4 ≤ 24) (k6 : 0 ≤ x6 ∧ x6 ≤ 24) (k7 : 0 ≤ x7 ∧ x7 ≤ 79) (k8 : 0 ≤ x8 ∧ x8 ≤ 79) (k9 : 1 ≤ x9 ∧ x9 ≤ 80) (k11 : 80 ≤ x11 ∧ x11 ≤ 80) (k12 : 0 ≤ x12 ∧ x12 ≤ 1920) (k13 : 1 ≤ x13 ∧ x13 ≤ 2000) (k14 : 80 ≤ x14 ∧ x14 ≤ 80) (k15 : 0 ≤ x15 ∧ x15 ≤ 1920) (k16 : 1 ≤ x16 ∧ x16 ≤ 2000) (k17 : 1 ≤ x17 ∧ x17 ≤ 1) (k18 : 0 ≤ x18 ∧ x18 ≤ 1999) (k19 : 0 ≤ x19 ∧ x19 ≤ 79) (k20 : 0 ≤ x20 ∧ x20 ≤ 79) (d0 : x9 + (-1) ≤ x20 ∧ x20 ≤ x9 + (-1)) (d1 : x8 + 0 ≤ x20 ∧ x20 ≤ x8 + 4294967296) (d2 : x16 + (-1) ≤ x18 ∧ x18 ≤ x16 + (-1)) (d3 : x9 + (-1) ≤ x18 ∧ x18 ≤ x9 + 1919) (d4 : x8 + 0 ≤ x18 ∧ x18 ≤ x8 + 4294967296) (d5 : x15 + 0 ≤ x18 ∧ x18 ≤ x15 + 79) (d6 : x9 + 0 ≤ x16 ∧ x16 ≤ x9 + 1920) (d7 : x8 + 1 ≤ x16 ∧ x16 ≤ x8 + 4294967296) (d8 : x15 + 1 ≤ x16 ∧ x16 ≤ x15 + 80) (d9 : x9 + 0 ≤ x13 ∧ x13 ≤ x9 + 1920) (d10 : x8 + 1 ≤ x13 ∧ x13 ≤ x8 + 4294967296) (d11 : x12 + 1 ≤ x13 ∧ x13 ≤ x12 + 80) (d12 : x8 + 1 ≤ x9 ∧ x9 ≤ x8 + 4294967296) (d13 : x6 + (-4294967296) ≤ x1 ∧ x1 ≤ x6 + 0) (d14 : x7 + (-4294967296) ≤ x2 ∧ x2 ≤ x7 + 0) (d15 : x1 + (-4294967296) ≤ x6 ∧ x6 ≤ x1 + 0) (d16 : x2 + (-4294967296) ≤ x7 ∧ x7 ≤ x2 + 0) (f0 : x20 = x9 + (-1)) (h5 : x19 = rot_1 (x18)) (f6 : x18 = x16 - x17) (f7 : x16 = x15 + x9) (f8 : x15 = 80 * x1) (f10 : x13 = x12 + x9) (f11 : x12 = 80 * x1) (f12 : x8 < x9) (f13 : PLb (pn_1) (pm_1) (pt_1) (ph_1) (alive_1) (rotMany_1) (rot_1) (x1) (x2) (x8) (x9) (x4)) (fe_0_31_1 : pn_0 = pn_1) (fe_0_32_1 : pm_0 = pm_1) (hE_0_33_1 : ∀ j : Int, pt_0 j = pt_1 j) (hK_0_33 : ∀ j : Int, 0 ≤ j → j < 80 → 0 ≤ pt_0 j ∧ pt_0 j ≤ 24) (hE_0_34_1 : ∀ j : Int, ph_0 j = ph_1 j) (hK_0_34 : ∀ j : Int, 0 ≤ j → j < 80 → 0 ≤ ph_0 j ∧ ph_0 j ≤ 24) (hE_0_35_1 : ∀ j : Int, alive_0 j = alive_1 j) (hK_0_35 : ∀ j : Int, 0 ≤ j → j < 80 → 0 ≤ alive_0 j ∧ alive_0 j ≤ 1) (hE_0_36_1 : ∀ j : Int, rotMany_0 j = rotMany_1 j) (hK_0_36 : ∀ j : Int, 0 ≤ j → j < 26 → 0 ≤ rotMany_0 j ∧ rotMany_0 j ≤ 80) (hE_0_37_1 : ∀ j : Int, 0 ≤ j → (j = x13 → rot_0 j = x19) ∧ (j ≠ x13 → rot_0 j = rot_1 j)) (hK_0_37 : ∀ j : Int, 0 ≤ j → j < 2080 → 0 ≤ rot_0 j ∧ rot_0 j ≤ 79) (kz_0_31 : 0 ≤ pn_0 ∧ pn_0 ≤ 25) (kz_0_32 : 0 ≤ pm_0 ∧ pm_0 ≤ 80) : PLb (pn_0) (pm_0) (pt_0) (ph_0) (alive_0) (rotMany_0) (rot_0) (x1) (x2) (x8) (x20) (x4) := by
  subst fe_0_31_1
  subst fe_0_32_1
  have e_hE_0_33_1 := funext hE_0_33_1; subst e_hE_0_33_1
  have e_hE_0_34_1 := funext hE_0_34_1; subst e_hE_0_34_1
  have e_hE_0_35_1 := funext hE_0_35_1; subst e_hE_0_35_1
  have e_hE_0_36_1 := funext hE_0_36_1; subst e_hE_0_36_1
  first
    | exact pal_start ‹PAb _ _ _ _ _ _ _ _ _ _ _› (by omega)
    | exact pal_step ‹PLb _ _ _ _ _ _ _ _ _ _ _ _› (by omega) (by omega) (by assumption) (by omega) (by assumption) (by omega)
def o_Mo_putAt_at_g2_3 : or_T := (8, 21, [(0, (2, 0, 0, [165])), (1, (0, 0, 24, [])), (2, (0, 0, 79, [])), (4, (0, 0, 24, [])), (6, (0, 0, 24, [])), (7, (0, 0, 79, [])), (8, (0, 0, 79, [])), (9, (0, 1, 80, [])), (10, (2, 0, 0, [184])), (11, (0, 80, 80, [])), (12, (0, 0, 1920, [])), (13, (0, 1, 2000, [])), (14, (0, 80, 80, [])), (15, (0, 0, 1920, [])), (16, (0, 1, 2000, [])), (17, (0, 1, 1, [])), (18, (0, 0, 1999, [])), (19, (0, 0, 79, [])), (20, (0, 0, 79, []))], [(6, [20, 9], [-1]), (24, [0, 5], []), (24, [1, 6], []), (24, [2, 7], []), (100, [10, 13, 19], []), (10, [19, 10, 18], []), (2, [18, 16, 17], []), (1, [16, 15, 9], []), (3, [15, 14, 6], []), (9, [10, 5], [37]), (1, [13, 12, 9], []), (3, [12, 11, 6], []), (7, [9, 8], [4]), (20, [5, 6, 7, 8, 9, 4], [60, 2, 5, 256, 31, 32, 33, 34, 35, 36, 37])], [], [], [(20, [5, 6, 7, 8, 20, 4], [60, 2, 5, 256, 31, 32, 33, 34, 35, 36, 37])], [], [(20, 9, -1, -1), (20, 8, 0, 4294967296), (18, 16, -1, -1), (18, 9, -1, 1919), (18, 8, 0, 4294967296), (18, 15, 0, 79), (16, 9, 0, 1920), (16, 8, 1, 4294967296), (16, 15, 1, 80), (13, 9, 0, 1920), (13, 8, 1, 4294967296), (13, 12, 1, 80), (9, 8, 1, 4294967296), (1, 6, -4294967296, 0), (2, 7, -4294967296, 0), (6, 1, -4294967296, 0), (7, 2, -4294967296, 0)])
theorem oo_Mo_putAt_at_g2_3 {kA : Nat → ClassId} : or_ok PRD kA GG o_Mo_putAt_at_g2_3 := by
  refine or_mk fun A ta ws vs hD hth hl => ?_
  intro t0 r0 t1 k1 t2 k2 t4 k4 t6 k6 t7 k7 t8 k8 t9 k9 t10 r10 t11 k11 t12 k12 t13 k13 t14 k14 t15 k15 t16 k16 t17 k17 t18 k18 t19 k19 t20 k20 d0 d1 d2 d3 d4 d5 d6 d7 d8 d9 d10 d11 d12 d13 d14 d15 d16 f0 f1 f2 f3 ta1 w1 le1 s1 f5 f6 f7 f8 f9 f10 f11 f12 f13
  replace f0 := shm_186 f0
  replace f1 := shm_5 f1
  replace f2 := shm_5 f2
  replace f3 := shm_5 f3
  have s1 : (∀ b j, w_el ws b j = if b = v_ad (n_v vs 10) ∧ j = (v_iv (n_v vs 13)).toNat then v_iv (n_v vs 19) else w_el w1 b j) ∧ ∀ b k, w_fd ws b k = w_fd w1 b k := s1.2
  replace f5 := shm_107 f5
  replace f6 := shm_14 f6
  replace f7 := shm_12 f7
  replace f8 := shm_38 f8
  rw [show v_iv (n_v vs 14) = 80 from by omega] at f8
  replace f9 := shm_687 f9
  replace f10 := shm_12 f10
  replace f11 := shm_38 f11
  rw [show v_iv (n_v vs 11) = 80 from by omega] at f11
  replace f12 := shm_21 f12
  replace f13 := shm_690 f13
  have q5 : n_v vs 5 = n_v vs 0 := f1.symm
  have q6 : n_v vs 6 = n_v vs 1 := f2.symm
  have q7 : n_v vs 7 = n_v vs 2 := f3.symm
  simp only [q6, q5, q7] at f8 f9 f11 f13
  have ar_0_33_1 : w_ar w1 (n_v vs 0) 33 = w_ar ws (n_v vs 0) 33 := congrArg v_ad (s1.2 _ _).symm
  have cr_0_33 := fdq_117 hD hth r0
  have ar_0_34_1 : w_ar w1 (n_v vs 0) 34 = w_ar ws (n_v vs 0) 34 := congrArg v_ad (s1.2 _ _).symm
  have cr_0_34 := fdq_118 hD hth r0
  have ar_0_35_1 : w_ar w1 (n_v vs 0) 35 = w_ar ws (n_v vs 0) 35 := congrArg v_ad (s1.2 _ _).symm
  have cr_0_35 := fdq_132 hD hth r0
  have ar_0_36_1 : w_ar w1 (n_v vs 0) 36 = w_ar ws (n_v vs 0) 36 := congrArg v_ad (s1.2 _ _).symm
  have cr_0_36 := fdq_167 hD hth r0
  have ar_0_37_1 : w_ar w1 (n_v vs 0) 37 = w_ar ws (n_v vs 0) 37 := congrArg v_ad (s1.2 _ _).symm
  have cr_0_37 := fdq_168 hD hth r0
  have ad_10 : v_ad (n_v vs 10) = w_ar ws (n_v vs 0) 37 := (congrArg v_ad f9).trans ar_0_37_1
  simp only [ad_10] at f5
  have h5 : v_iv (n_v vs 19) = w_ei w1 (w_ar ws (n_v vs 0) 37) (v_iv (n_v vs 18)) := f5
  simp only [ar_0_33_1, ar_0_34_1, ar_0_35_1, ar_0_36_1, ar_0_37_1] at f13
  have fe_0_31_1 : w_fi ws (n_v vs 0) 31 = w_fi w1 (n_v vs 0) 31 := congrArg v_iv (s1.2 _ _)
  have fe_0_32_1 : w_fi ws (n_v vs 0) 32 = w_fi w1 (n_v vs 0) 32 := congrArg v_iv (s1.2 _ _)
  have hE_0_33_1 : ∀ j : Int, w_ei ws (w_ar ws (n_v vs 0) 33) j = w_ei w1 (w_ar ws (n_v vs 0) 33) j := el_kp s1.1 r10 cr_0_33 (by decide)
  have hK_0_33 := elq_60 hD hth cr_0_33
  have hE_0_34_1 : ∀ j : Int, w_ei ws (w_ar ws (n_v vs 0) 34) j = w_ei w1 (w_ar ws (n_v vs 0) 34) j := el_kp s1.1 r10 cr_0_34 (by decide)
  have hK_0_34 := elq_61 hD hth cr_0_34
  have hE_0_35_1 : ∀ j : Int, w_ei ws (w_ar ws (n_v vs 0) 35) j = w_ei w1 (w_ar ws (n_v vs 0) 35) j := el_kp s1.1 r10 cr_0_35 (by decide)
  have hK_0_35 := elq_72 hD hth cr_0_35
  have hE_0_36_1 : ∀ j : Int, w_ei ws (w_ar ws (n_v vs 0) 36) j = w_ei w1 (w_ar ws (n_v vs 0) 36) j := el_kp s1.1 r10 cr_0_36 (by decide)
  have hK_0_36 := elq_97 hD hth cr_0_36
  have hE_0_37_1 : ∀ j : Int, 0 ≤ j → (j = v_iv (n_v vs 13) → w_ei ws (w_ar ws (n_v vs 0) 37) j = v_iv (n_v vs 19)) ∧ (j ≠ v_iv (n_v vs 13) → w_ei ws (w_ar ws (n_v vs 0) 37) j = w_ei w1 (w_ar ws (n_v vs 0) 37) j) := fun j hj => ⟨fun h => by unfold w_ei; rw [s1.1, if_pos ⟨ad_10.symm, by rw [h]⟩], fun h => by unfold w_ei; rw [s1.1, if_neg (fun e => h (by have := e.2; omega))]⟩
  have hK_0_37 := elq_98 hD hth cr_0_37
  have kz_0_31 := fdq_145 hD hth r0
  have kz_0_32 := fdq_140 hD hth r0
  have nf0 : fc_1 PRD (20, [5, 6, 7, 8, 20, 4], [60, 2, 5, 256, 31, 32, 33, 34, 35, 36, 37]) ws (vs) := by
    refine ⟨nf_in hl rfl, sgq_690 ?_⟩
    · show PLb (w_fi ws (n_v vs 5) 31) (w_fi ws (n_v vs 5) 32) (w_ei ws (w_ar ws (n_v vs 5) 33)) (w_ei ws (w_ar ws (n_v vs 5) 34)) (w_ei ws (w_ar ws (n_v vs 5) 35)) (w_ei ws (w_ar ws (n_v vs 5) 36)) (w_ei ws (w_ar ws (n_v vs 5) 37)) (v_iv (n_v vs 6)) (v_iv (n_v vs 7)) (v_iv (n_v vs 8)) (v_iv (n_v vs 20)) (v_iv (n_v vs 4))
      simp only [q5, q6, q7]
      exact vc_Mo_putAt_at_g2_3_0 (v_iv (n_v vs 1)) (v_iv (n_v vs 2)) (v_iv (n_v vs 4)) (v_iv (n_v vs 6)) (v_iv (n_v vs 7)) (v_iv (n_v vs 8)) (v_iv (n_v vs 9)) (v_iv (n_v vs 11)) (v_iv (n_v vs 12)) (v_iv (n_v vs 13)) (v_iv (n_v vs 14)) (v_iv (n_v vs 15)) (v_iv (n_v vs 16)) (v_iv (n_v vs 17)) (v_iv (n_v vs 18)) (v_iv (n_v vs 19)) (v_iv (n_v vs 20)) (w_ei w1 (w_ar ws (n_v vs 0) 37)) (w_ei w1 (w_ar ws (n_v vs 0) 33)) (w_ei w1 (w_ar ws (n_v vs 0) 34)) (w_ei w1 (w_ar ws (n_v vs 0) 35)) (w_ei w1 (w_ar ws (n_v vs 0) 36)) (w_fi w1 (n_v vs 0) 31) (w_fi w1 (n_v vs 0) 32) (w_fi ws (n_v vs 0) 31) (w_fi ws (n_v vs 0) 32) (w_ei ws (w_ar ws (n_v vs 0) 33)) (w_ei ws (w_ar ws (n_v vs 0) 34)) (w_ei ws (w_ar ws (n_v vs 0) 35)) (w_ei ws (w_ar ws (n_v vs 0) 36)) (w_ei ws (w_ar ws (n_v vs 0) 37)) k1 k2 k4 k6 k7 k8 k9 k11 k12 k13 k14 k15 k16 k17 k18 k19 k20 d0 d1 d2 d3 d4 d5 d6 d7 d8 d9 d10 d11 d12 d13 d14 d15 d16 f0 h5 f6 f7 f8 f10 f11 f12 f13 fe_0_31_1 fe_0_32_1 hE_0_33_1 hK_0_33 hE_0_34_1 hK_0_34 hE_0_35_1 hK_0_35 hE_0_36_1 hK_0_36 hE_0_37_1 hK_0_37 kz_0_31 kz_0_32
  refine ⟨(fun _ h => (by cases h)), [], trivial, ?_, (fun _ h => (by cases h))⟩
  rw [List.append_nil]
  exact List.forall_mem_cons.mpr ⟨⟨show (20 : Nat) < 100 from by decide, nf0⟩, (fun _ h => (by cases h))⟩
def n_Mo_putAt_at_g2_an : List an_T := [(8, [(0, (2, 0, 0, [165])), (1, (0, 0, 24, [])), (2, (0, 0, 79, [])), (3, (0, 0, 79, [])), (4, (0, 0, 80, []))], [], (0, 0), [(0, 0, 99992), (2, 9, 0), (0, 0, 100000)], [(1, 6, (Int.negSucc 999999999999), 0), (2, 7, (Int.negSucc 999999999999), 0), (3, 8, (Int.negSucc 999999999999), 0), (6, 1, (Int.negSucc 999999999999), 0), (7, 2, (Int.negSucc 999999999999), 0), (8, 3, (Int.negSucc 999999999999), 0)], [], [(2, 0, 0, [165]), (0, 0, 24, []), (0, 0, 79, []), (0, 0, 79, []), (0, 0, 24, [])], 0, [], [(20, [5, 6, 7, 8, 9, 4], [60, 2, 5, 256, 31, 32, 33, 34, 35, 36, 37]), (24, [0, 5], []), (24, [1, 6], []), (24, [2, 7], [])])]
def t_Mo_putAt_at_g2_ct : ct_L := []
set_option maxRecDepth 100000 in
theorem c_Mo_putAt_at_g2 {l : Launch} {D : va_G} {kA : Nat → ClassId} : ct_ok PRD l D kA GG y_Mo_putAt_at_g2 z_Mo_putAt_at_g2 e_Mo_putAt_at_g2 := chk_all_ok (FT := [(66, 13, 36), (69, 13, 37)]) (PT := []) (CT := t_Mo_putAt_at_g2_ct) (KT := []) (NT := []) (AN := n_Mo_putAt_at_g2_an) (OT := [o_Mo_putAt_at_g2_0, o_Mo_putAt_at_g2_1, o_Mo_putAt_at_g2_2, o_Mo_putAt_at_g2_3]) 3 200 (List.forall_mem_cons.mpr ⟨oo_Mo_putAt_at_g2_0, List.forall_mem_cons.mpr ⟨oo_Mo_putAt_at_g2_1, List.forall_mem_cons.mpr ⟨oo_Mo_putAt_at_g2_2, List.forall_mem_cons.mpr ⟨oo_Mo_putAt_at_g2_3, List.forall_mem_nil _⟩⟩⟩⟩) (by decide +kernel) ⟨List.forall_mem_cons.mpr ⟨gf_Mo_66, List.forall_mem_cons.mpr ⟨gf_Mo_69, List.forall_mem_nil _⟩⟩, List.forall_mem_nil _, List.forall_mem_nil _, List.forall_mem_nil _, List.forall_mem_nil _, GG_pl⟩ (by decide +kernel)
set_option maxHeartbeats 4000000 in
theorem vc_Mo_putAt_at_g3_0_0 (x1 : Int) (x2 : Int) (x3 : Int) (x4 : Int) (x5 : Int) (x6 : Int) (x7 : Int) (x9 : Int) (rotMany_0 : Int → Int) (pt_0 : Int → Int) (ph_0 : Int → Int) (alive_0 : Int → Int) (rot_0 : Int → Int) (pn_0 : Int) (pm_0 : Int) (k1 : 0 ≤ x1 ∧ x1 ≤ 24) (k2 : 0 ≤ x2 ∧ x2 ≤ 79) (k3 : 0 ≤ x3 ∧ x3 ≤ 79) (k4 : 0 ≤ x4 ∧ x4 ≤ 24) (k5 : 0 ≤ x5 ∧ x5 ≤ 24) (k6 : 0 ≤ x6 ∧ x6 ≤ 159) (k7 : 0 ≤ x7 ∧ x7 ≤ 159) (k9 : 0 ≤ x9 ∧ x9 ≤ 80) (h0 : x9 = rotMany_0 (x1)) (f2 : PAc (pn_0) (pm_0) (pt_0) (ph_0) (alive_0) (rotMany_0) (rot_0) (x1) (x2) (x3) (x4) (x5) (x6) (x7)) (hK_0_33 : ∀ j : Int, 0 ≤ j → j < 80 → 0 ≤ pt_0 j ∧ pt_0 j ≤ 24) (hK_0_34 : ∀ j : Int, 0 ≤ j → j < 80 → 0 ≤ ph_0 j ∧ ph_0 j ≤ 24) (hK_0_35 : ∀ j : Int, 0 ≤ j → j < 80 → 0 ≤ alive_0 j ∧ alive_0 j ≤ 1) (hK_0_36 : ∀ j : Int, 0 ≤ j → j < 26 → 0 ≤ rotMany_0 j ∧ rotMany_0 j ≤ 80) (hK_0_37 : ∀ j : Int, 0 ≤ j → j < 2080 → 0 ≤ rot_0 j ∧ rot_0 j ≤ 79) (kz_0_31 : 0 ≤ pn_0 ∧ pn_0 ≤ 25) (kz_0_32 : 0 ≤ pm_0 ∧ pm_0 ≤ 80) : PLc (pn_0) (pm_0) (pt_0) (ph_0) (alive_0) (rotMany_0) (rot_0) (x1) (x2) (x3) (x9) (x4) (x5) (x6) (x7) := by
  first
    | exact pal_start ‹PAc _ _ _ _ _ _ _ _ _ _ _ _ _ _› (by omega)
    | exact pal_step ‹PLc _ _ _ _ _ _ _ _ _ _ _ _ _ _ _› (by omega) (by omega) (by assumption) (by omega) (by assumption) (by omega)
def o_Mo_putAt_at_g3_0 : or_T := (8, 10, [(0, (2, 0, 0, [165])), (1, (0, 0, 24, [])), (2, (0, 0, 79, [])), (3, (0, 0, 79, [])), (4, (0, 0, 24, [])), (5, (0, 0, 24, [])), (6, (0, 0, 159, [])), (7, (0, 0, 159, [])), (9, (0, 0, 80, []))], [(10, [9, 8, 1], []), (9, [8, 0], [36]), (20, [0, 1, 2, 3, 4, 5, 6, 7], [60, 2, 5, 253, 31, 32, 33, 34, 35, 36, 37])], [], [], [(20, [0, 1, 2, 3, 9, 4, 5, 6, 7], [60, 2, 5, 257, 31, 32, 33, 34, 35, 36, 37]), (24, [0, 0], []), (24, [1, 1], []), (24, [2, 2], [])], [], [])
theorem oo_Mo_putAt_at_g3_0 {kA : Nat → ClassId} : or_ok PRD kA GG o_Mo_putAt_at_g3_0 := by
  refine or_mk fun A ta ws vs hD hth hl => ?_
  intro t0 r0 t1 k1 t2 k2 t3 k3 t4 k4 t5 k5 t6 k6 t7 k7 t9 k9 f0 f1 f2
  replace f0 := shm_107 f0
  replace f1 := shm_684 f1
  have cr_0_33 := fdq_117 hD hth r0
  have cr_0_34 := fdq_118 hD hth r0
  have cr_0_35 := fdq_132 hD hth r0
  have cr_0_36 := fdq_167 hD hth r0
  have cr_0_37 := fdq_168 hD hth r0
  have ad_8 : v_ad (n_v vs 8) = w_ar ws (n_v vs 0) 36 := congrArg v_ad f1
  simp only [ad_8] at f0
  have h0 : v_iv (n_v vs 9) = w_ei ws (w_ar ws (n_v vs 0) 36) (v_iv (n_v vs 1)) := f0
  have hK_0_33 := elq_60 hD hth cr_0_33
  have hK_0_34 := elq_61 hD hth cr_0_34
  have hK_0_35 := elq_72 hD hth cr_0_35
  have hK_0_36 := elq_97 hD hth cr_0_36
  have hK_0_37 := elq_98 hD hth cr_0_37
  have kz_0_31 := fdq_145 hD hth r0
  have kz_0_32 := fdq_140 hD hth r0
  have nf0 : fc_1 PRD (20, [0, 1, 2, 3, 9, 4, 5, 6, 7], [60, 2, 5, 257, 31, 32, 33, 34, 35, 36, 37]) ws (vs) := ⟨nf_in hl rfl, sgq_693 (vc_Mo_putAt_at_g3_0_0 (v_iv (n_v vs 1)) (v_iv (n_v vs 2)) (v_iv (n_v vs 3)) (v_iv (n_v vs 4)) (v_iv (n_v vs 5)) (v_iv (n_v vs 6)) (v_iv (n_v vs 7)) (v_iv (n_v vs 9)) (w_ei ws (w_ar ws (n_v vs 0) 36)) (w_ei ws (w_ar ws (n_v vs 0) 33)) (w_ei ws (w_ar ws (n_v vs 0) 34)) (w_ei ws (w_ar ws (n_v vs 0) 35)) (w_ei ws (w_ar ws (n_v vs 0) 37)) (w_fi ws (n_v vs 0) 31) (w_fi ws (n_v vs 0) 32) k1 k2 k3 k4 k5 k6 k7 k9 h0 (shm_692 f2) hK_0_33 hK_0_34 hK_0_35 hK_0_36 hK_0_37 kz_0_31 kz_0_32)⟩
  have nf1 : fc_1 PRD (24, [0, 0], []) ws (vs) := by
    refine ⟨nf_in hl rfl, sgq_1 ?_⟩
    · show n_v vs 0 = n_v vs 0
      first | rfl | simp only [true_and]
  have nf2 : fc_1 PRD (24, [1, 1], []) ws (vs) := by
    refine ⟨nf_in hl rfl, sgq_1 ?_⟩
    · show n_v vs 1 = n_v vs 1
      first | rfl | simp only [true_and]
  have nf3 : fc_1 PRD (24, [2, 2], []) ws (vs) := by
    refine ⟨nf_in hl rfl, sgq_1 ?_⟩
    · show n_v vs 2 = n_v vs 2
      first | rfl | simp only [true_and]
  refine ⟨(fun _ h => (by cases h)), [], trivial, ?_, (fun _ h => (by cases h))⟩
  rw [List.append_nil]
  exact List.forall_mem_cons.mpr ⟨⟨show (20 : Nat) < 100 from by decide, nf0⟩, List.forall_mem_cons.mpr ⟨⟨show (24 : Nat) < 100 from by decide, nf1⟩, List.forall_mem_cons.mpr ⟨⟨show (24 : Nat) < 100 from by decide, nf2⟩, List.forall_mem_cons.mpr ⟨⟨show (24 : Nat) < 100 from by decide, nf3⟩, (fun _ h => (by cases h))⟩⟩⟩⟩
set_option maxHeartbeats 4000000 in
theorem vc_Mo_putAt_at_g3_1_r0 (x1 : Int) (x2 : Int) (x4 : Int) (x5 : Int) (x6 : Int) (x7 : Int) (x9 : Int) (x10 : Int) (x11 : Int) (x12 : Int) (x14 : Int) (x15 : Int) (x16 : Int) (x18 : Int) (x19 : Int) (x20 : Int) (rotMany_0 : Int → Int) (pt_1 : Int → Int) (ph_1 : Int → Int) (alive_1 : Int → Int) (rotMany_1 : Int → Int) (rot_1 : Int → Int) (pn_1 : Int) (pm_1 : Int) (pn_0 : Int) (pm_0 : Int) (pt_0 : Int → Int) (ph_0 : Int → Int) (alive_0 : Int → Int) (rot_0 : Int → Int) (k1 : 0 ≤ x1 ∧ x1 ≤ 24) (k2 : 0 ≤ x2 ∧ x2 ≤ 79) (k4 : 0 ≤ x4 ∧ x4 ≤ 24) (k5 : 0 ≤ x5 ∧ x5 ≤ 24) (k6 : 0 ≤ x6 ∧ x6 ≤ 159) (k7 : 0 ≤ x7 ∧ x7 ≤ 159) (k9 : 0 ≤ x9 ∧ x9 ≤ 24) (k10 : 0 ≤ x10 ∧ x10 ≤ 79) (k11 : 0 ≤ x11 ∧ x11 ≤ 79) (k12 : 0 ≤ x12 ∧ x12 ≤ 79) (k14 : 80 ≤ x14 ∧ x14 ≤ 80) (k15 : 0 ≤ x15 ∧ x15 ≤ 1920) (k16 : 0 ≤ x16 ∧ x16 ≤ 1999) (k18 : 0 ≤ x18 ∧ x18 ≤ 80) (k19 : 1 ≤ x19 ∧ x19 ≤ 1) (k20 : 1 ≤ x20 ∧ x20 ≤ 81) (d0 : x18 + 1 ≤ x20 ∧ x20 ≤ x18 + 1) (d1 : x11 + 0 ≤ x16 ∧ x16 ≤ x11 + 1920) (d2 : x15 + 0 ≤ x16 ∧ x16 ≤ x15 + 79) (d3 : x11 + (-4294967296) ≤ x12 ∧ x12 ≤ x11 + 0) (d4 : x9 + (-4294967296) ≤ x1 ∧ x1 ≤ x9 + 0) (d5 : x10 + (-4294967296) ≤ x2 ∧ x2 ≤ x10 + 0) (d6 : x1 + (-4294967296) ≤ x9 ∧ x9 ≤ x1 + 0) (d7 : x2 + (-4294967296) ≤ x10 ∧ x10 ≤ x2 + 0) (f0 : x20 = x18 + x19) (h1 : x18 = rotMany_0 (x1)) (f7 : x16 = x15 + x11) (f8 : x15 = 80 * x1) (f10 : x12 ≤ x11) (f11 : PLc (pn_1) (pm_1) (pt_1) (ph_1) (alive_1) (rotMany_1) (rot_1) (x1) (x2) (x11) (x12) (x4) (x5) (x6) (x7)) (fe_0_31_1 : pn_0 = pn_1) (fe_0_32_1 : pm_0 = pm_1) (hE_0_33_1 : ∀ j : Int, pt_0 j = pt_1 j) (hK_0_33 : ∀ j : Int, 0 ≤ j → j < 80 → 0 ≤ pt_0 j ∧ pt_0 j ≤ 24) (hE_0_34_1 : ∀ j : Int, ph_0 j = ph_1 j) (hK_0_34 : ∀ j : Int, 0 ≤ j → j < 80 → 0 ≤ ph_0 j ∧ ph_0 j ≤ 24) (hE_0_35_1 : ∀ j : Int, alive_0 j = alive_1 j) (hK_0_35 : ∀ j : Int, 0 ≤ j → j < 80 → 0 ≤ alive_0 j ∧ alive_0 j ≤ 1) (hE_0_36_1 : ∀ j : Int, rotMany_0 j = rotMany_1 j) (hK_0_36 : ∀ j : Int, 0 ≤ j → j < 26 → 0 ≤ rotMany_0 j ∧ rotMany_0 j ≤ 80) (hE_0_37_1 : ∀ j : Int, 0 ≤ j → (j = x16 → rot_0 j = x2) ∧ (j ≠ x16 → rot_0 j = rot_1 j)) (hK_0_37 : ∀ j : Int, 0 ≤ j → j < 2080 → 0 ≤ rot_0 j ∧ rot_0 j ≤ 79) (kz_0_31 : 0 ≤ pn_0 ∧ pn_0 ≤ 25) (kz_0_32 : 0 ≤ pm_0 ∧ pm_0 ≤ 80) : 1 ≤ x20 ∧ x20 ≤ 80 := by
  subst fe_0_31_1
  subst fe_0_32_1
  have e_hE_0_33_1 := funext hE_0_33_1; subst e_hE_0_33_1
  have e_hE_0_34_1 := funext hE_0_34_1; subst e_hE_0_34_1
  have e_hE_0_35_1 := funext hE_0_35_1; subst e_hE_0_35_1
  have e_hE_0_36_1 := funext hE_0_36_1; subst e_hE_0_36_1
  first
    | omega
    | (have h := pax_len ‹PAa _ _ _ _ _ _ _ _ _ _ _›; omega)
    | (have h := pax_len ‹PAb _ _ _ _ _ _ _ _ _ _ _›; omega)
    | (have h := pax_len ‹PAc _ _ _ _ _ _ _ _ _ _ _ _ _ _›; omega)
    | (have h := pax_len ‹PAd _ _ _ _ _ _ _ _ _ _ _ _ _ _›; omega)
    | (have h := pal_len ‹PLa _ _ _ _ _ _ _ _ _ _ _ _›; omega)
    | (have h := pal_len ‹PLb _ _ _ _ _ _ _ _ _ _ _ _›; omega)
    | (have h := pal_len ‹PLc _ _ _ _ _ _ _ _ _ _ _ _ _ _ _›; omega)
    | (have h := pal_len ‹PLd _ _ _ _ _ _ _ _ _ _ _ _ _ _ _›; omega)
def o_Mo_putAt_at_g3_1 : or_T := (67, 21, [(0, (2, 0, 0, [165])), (1, (0, 0, 24, [])), (2, (0, 0, 79, [])), (4, (0, 0, 24, [])), (5, (0, 0, 24, [])), (6, (0, 0, 159, [])), (7, (0, 0, 159, [])), (8, (2, 0, 0, [165])), (9, (0, 0, 24, [])), (10, (0, 0, 79, [])), (11, (0, 0, 79, [])), (12, (0, 0, 79, [])), (13, (2, 0, 0, [184])), (14, (0, 80, 80, [])), (15, (0, 0, 1920, [])), (16, (0, 0, 1999, [])), (17, (2, 0, 0, [183])), (18, (0, 0, 80, [])), (19, (0, 1, 1, [])), (20, (0, 1, 81, []))], [(1, [20, 18, 19], []), (10, [18, 17, 9], []), (9, [17, 8], [36]), (24, [0, 8], []), (24, [1, 9], []), (24, [2, 10], []), (100, [13, 16, 10], []), (1, [16, 15, 11], []), (3, [15, 14, 9], []), (9, [13, 8], [37]), (7, [12, 11], [5]), (20, [8, 9, 10, 11, 12, 4, 5, 6, 7], [60, 2, 5, 257, 31, 32, 33, 34, 35, 36, 37])], [(20, (0, 1, 80, []))], [], [], [], [(20, 18, 1, 1), (16, 11, 0, 1920), (16, 15, 0, 79), (12, 11, -4294967296, 0), (1, 9, -4294967296, 0), (2, 10, -4294967296, 0), (9, 1, -4294967296, 0), (10, 2, -4294967296, 0)])
theorem oo_Mo_putAt_at_g3_1 {kA : Nat → ClassId} : or_ok PRD kA GG o_Mo_putAt_at_g3_1 := by
  refine or_mk fun A ta ws vs hD hth hl => ?_
  intro t0 r0 t1 k1 t2 k2 t4 k4 t5 k5 t6 k6 t7 k7 t8 r8 t9 k9 t10 k10 t11 k11 t12 k12 t13 r13 t14 k14 t15 k15 t16 k16 t17 r17 t18 k18 t19 k19 t20 k20 d0 d1 d2 d3 d4 d5 d6 d7 f0 f1 f2 f3 f4 f5 ta1 w1 le1 s1 f7 f8 f9 f10 f11
  replace f1 := shm_107 f1
  replace f2 := shm_684 f2
  replace f3 := shm_5 f3
  replace f4 := shm_5 f4
  replace f5 := shm_5 f5
  have s1 : (∀ b j, w_el ws b j = if b = v_ad (n_v vs 13) ∧ j = (v_iv (n_v vs 16)).toNat then v_iv (n_v vs 10) else w_el w1 b j) ∧ ∀ b k, w_fd ws b k = w_fd w1 b k := s1.2
  replace f8 := shm_38 f8
  rw [show v_iv (n_v vs 14) = 80 from by omega] at f8
  replace f9 := shm_687 f9
  replace f11 := shm_693 f11
  have q8 : n_v vs 8 = n_v vs 0 := f3.symm
  have q9 : n_v vs 9 = n_v vs 1 := f4.symm
  have q10 : n_v vs 10 = n_v vs 2 := f5.symm
  simp only [q9, q8] at f1 f2
  rw [q10] at s1
  simp only [q9, q8, q10] at f8 f9 f11
  have ar_0_33_1 : w_ar w1 (n_v vs 0) 33 = w_ar ws (n_v vs 0) 33 := congrArg v_ad (s1.2 _ _).symm
  have cr_0_33 := fdq_117 hD hth r0
  have ar_0_34_1 : w_ar w1 (n_v vs 0) 34 = w_ar ws (n_v vs 0) 34 := congrArg v_ad (s1.2 _ _).symm
  have cr_0_34 := fdq_118 hD hth r0
  have ar_0_35_1 : w_ar w1 (n_v vs 0) 35 = w_ar ws (n_v vs 0) 35 := congrArg v_ad (s1.2 _ _).symm
  have cr_0_35 := fdq_132 hD hth r0
  have ar_0_36_1 : w_ar w1 (n_v vs 0) 36 = w_ar ws (n_v vs 0) 36 := congrArg v_ad (s1.2 _ _).symm
  have cr_0_36 := fdq_167 hD hth r0
  have ar_0_37_1 : w_ar w1 (n_v vs 0) 37 = w_ar ws (n_v vs 0) 37 := congrArg v_ad (s1.2 _ _).symm
  have cr_0_37 := fdq_168 hD hth r0
  have ad_17 : v_ad (n_v vs 17) = w_ar ws (n_v vs 0) 36 := congrArg v_ad f2
  have ad_13 : v_ad (n_v vs 13) = w_ar ws (n_v vs 0) 37 := (congrArg v_ad f9).trans ar_0_37_1
  simp only [ad_17] at f1
  have h1 : v_iv (n_v vs 18) = w_ei ws (w_ar ws (n_v vs 0) 36) (v_iv (n_v vs 1)) := f1
  simp only [ar_0_33_1, ar_0_34_1, ar_0_35_1, ar_0_36_1, ar_0_37_1] at f11
  have fe_0_31_1 : w_fi ws (n_v vs 0) 31 = w_fi w1 (n_v vs 0) 31 := congrArg v_iv (s1.2 _ _)
  have fe_0_32_1 : w_fi ws (n_v vs 0) 32 = w_fi w1 (n_v vs 0) 32 := congrArg v_iv (s1.2 _ _)
  have hE_0_33_1 : ∀ j : Int, w_ei ws (w_ar ws (n_v vs 0) 33) j = w_ei w1 (w_ar ws (n_v vs 0) 33) j := el_kp s1.1 r13 cr_0_33 (by decide)
  have hK_0_33 := elq_60 hD hth cr_0_33
  have hE_0_34_1 : ∀ j : Int, w_ei ws (w_ar ws (n_v vs 0) 34) j = w_ei w1 (w_ar ws (n_v vs 0) 34) j := el_kp s1.1 r13 cr_0_34 (by decide)
  have hK_0_34 := elq_61 hD hth cr_0_34
  have hE_0_35_1 : ∀ j : Int, w_ei ws (w_ar ws (n_v vs 0) 35) j = w_ei w1 (w_ar ws (n_v vs 0) 35) j := el_kp s1.1 r13 cr_0_35 (by decide)
  have hK_0_35 := elq_72 hD hth cr_0_35
  have hE_0_36_1 : ∀ j : Int, w_ei ws (w_ar ws (n_v vs 0) 36) j = w_ei w1 (w_ar ws (n_v vs 0) 36) j := el_kp s1.1 r13 cr_0_36 (by decide)
  have hK_0_36 := elq_97 hD hth cr_0_36
  have hE_0_37_1 : ∀ j : Int, 0 ≤ j → (j = v_iv (n_v vs 16) → w_ei ws (w_ar ws (n_v vs 0) 37) j = v_iv (n_v vs 2)) ∧ (j ≠ v_iv (n_v vs 16) → w_ei ws (w_ar ws (n_v vs 0) 37) j = w_ei w1 (w_ar ws (n_v vs 0) 37) j) := fun j hj => ⟨fun h => by unfold w_ei; rw [s1.1, if_pos ⟨ad_13.symm, by rw [h]⟩], fun h => by unfold w_ei; rw [s1.1, if_neg (fun e => h (by have := e.2; omega))]⟩
  have hK_0_37 := elq_98 hD hth cr_0_37
  have kz_0_31 := fdq_145 hD hth r0
  have kz_0_32 := fdq_140 hD hth r0
  have hrf0 : 1 ≤ v_iv (n_v vs 20) ∧ v_iv (n_v vs 20) ≤ 80 := vc_Mo_putAt_at_g3_1_r0 (v_iv (n_v vs 1)) (v_iv (n_v vs 2)) (v_iv (n_v vs 4)) (v_iv (n_v vs 5)) (v_iv (n_v vs 6)) (v_iv (n_v vs 7)) (v_iv (n_v vs 9)) (v_iv (n_v vs 10)) (v_iv (n_v vs 11)) (v_iv (n_v vs 12)) (v_iv (n_v vs 14)) (v_iv (n_v vs 15)) (v_iv (n_v vs 16)) (v_iv (n_v vs 18)) (v_iv (n_v vs 19)) (v_iv (n_v vs 20)) (w_ei ws (w_ar ws (n_v vs 0) 36)) (w_ei w1 (w_ar ws (n_v vs 0) 33)) (w_ei w1 (w_ar ws (n_v vs 0) 34)) (w_ei w1 (w_ar ws (n_v vs 0) 35)) (w_ei w1 (w_ar ws (n_v vs 0) 36)) (w_ei w1 (w_ar ws (n_v vs 0) 37)) (w_fi w1 (n_v vs 0) 31) (w_fi w1 (n_v vs 0) 32) (w_fi ws (n_v vs 0) 31) (w_fi ws (n_v vs 0) 32) (w_ei ws (w_ar ws (n_v vs 0) 33)) (w_ei ws (w_ar ws (n_v vs 0) 34)) (w_ei ws (w_ar ws (n_v vs 0) 35)) (w_ei ws (w_ar ws (n_v vs 0) 37)) k1 k2 k4 k5 k6 k7 k9 k10 k11 k12 k14 k15 k16 k18 k19 k20 d0 d1 d2 d3 d4 d5 d6 d7 (shm_12 f0) h1 (shm_12 f7) f8 (shm_24 f10) f11 fe_0_31_1 fe_0_32_1 hE_0_33_1 hK_0_33 hE_0_34_1 hK_0_34 hE_0_35_1 hK_0_35 hE_0_36_1 hK_0_36 hE_0_37_1 hK_0_37 kz_0_31 kz_0_32
  have rf20 : tv_ok ta (0, 1, 80, []) (n_v vs 20) := tv_in t20 (by first | omega | grind) (by first | omega | grind)
  refine ⟨List.forall_mem_cons.mpr ⟨rf20, (fun _ h => (by cases h))⟩, [], trivial, ?_, (fun _ h => (by cases h))⟩
  rw [List.append_nil]
  exact (fun _ h => (by cases h))
set_option maxHeartbeats 4000000 in
theorem vc_Mo_putAt_at_g3_2_0 (x1 : Int) (x2 : Int) (x4 : Int) (x5 : Int) (x6 : Int) (x7 : Int) (x9 : Int) (x10 : Int) (x11 : Int) (x12 : Int) (x14 : Int) (x15 : Int) (x16 : Int) (x18 : Int) (x19 : Int) (x20 : Int) (rotMany_1 : Int → Int) (pt_2 : Int → Int) (ph_2 : Int → Int) (alive_2 : Int → Int) (rotMany_2 : Int → Int) (rot_2 : Int → Int) (pn_2 : Int) (pm_2 : Int) (pn_0 : Int) (pn_1 : Int) (pm_0 : Int) (pm_1 : Int) (pt_0 : Int → Int) (pt_1 : Int → Int) (ph_0 : Int → Int) (ph_1 : Int → Int) (alive_0 : Int → Int) (alive_1 : Int → Int) (rotMany_0 : Int → Int) (rot_0 : Int → Int) (rot_1 : Int → Int) (k1 : 0 ≤ x1 ∧ x1 ≤ 24) (k2 : 0 ≤ x2 ∧ x2 ≤ 79) (k4 : 0 ≤ x4 ∧ x4 ≤ 24) (k5 : 0 ≤ x5 ∧ x5 ≤ 24) (k6 : 0 ≤ x6 ∧ x6 ≤ 159) (k7 : 0 ≤ x7 ∧ x7 ≤ 159) (k9 : 0 ≤ x9 ∧ x9 ≤ 24) (k10 : 0 ≤ x10 ∧ x10 ≤ 79) (k11 : 0 ≤ x11 ∧ x11 ≤ 79) (k12 : 0 ≤ x12 ∧ x12 ≤ 79) (k14 : 80 ≤ x14 ∧ x14 ≤ 80) (k15 : 0 ≤ x15 ∧ x15 ≤ 1920) (k16 : 0 ≤ x16 ∧ x16 ≤ 1999) (k18 : 0 ≤ x18 ∧ x18 ≤ 80) (k19 : 1 ≤ x19 ∧ x19 ≤ 1) (k20 : 1 ≤ x20 ∧ x20 ≤ 80) (d0 : x18 + 1 ≤ x20 ∧ x20 ≤ x18 + 1) (d1 : x11 + 0 ≤ x16 ∧ x16 ≤ x11 + 1920) (d2 : x15 + 0 ≤ x16 ∧ x16 ≤ x15 + 79) (d3 : x11 + (-4294967296) ≤ x12 ∧ x12 ≤ x11 + 0) (d4 : x9 + (-4294967296) ≤ x1 ∧ x1 ≤ x9 + 0) (d5 : x10 + (-4294967296) ≤ x2 ∧ x2 ≤ x10 + 0) (d6 : x1 + (-4294967296) ≤ x9 ∧ x9 ≤ x1 + 0) (d7 : x2 + (-4294967296) ≤ x10 ∧ x10 ≤ x2 + 0) (f4 : x20 = x18 + x19) (h5 : x18 = rotMany_1 (x1)) (f8 : x16 = x15 + x11) (f9 : x15 = 80 * x1) (f11 : x12 ≤ x11) (f12 : PLc (pn_2) (pm_2) (pt_2) (ph_2) (alive_2) (rotMany_2) (rot_2) (x1) (x2) (x11) (x12) (x4) (x5) (x6) (x7)) (fe_0_31_1 : pn_0 = pn_1) (fe_0_32_1 : pm_0 = pm_1) (fe_0_31_2 : pn_1 = pn_2) (fe_0_32_2 : pm_1 = pm_2) (hE_0_33_1 : ∀ j : Int, pt_0 j = pt_1 j) (hE_0_33_2 : ∀ j : Int, pt_1 j = pt_2 j) (hK_0_33 : ∀ j : Int, 0 ≤ j → j < 80 → 0 ≤ pt_0 j ∧ pt_0 j ≤ 24) (hE_0_34_1 : ∀ j : Int, ph_0 j = ph_1 j) (hE_0_34_2 : ∀ j : Int, ph_1 j = ph_2 j) (hK_0_34 : ∀ j : Int, 0 ≤ j → j < 80 → 0 ≤ ph_0 j ∧ ph_0 j ≤ 24) (hE_0_35_1 : ∀ j : Int, alive_0 j = alive_1 j) (hE_0_35_2 : ∀ j : Int, alive_1 j = alive_2 j) (hK_0_35 : ∀ j : Int, 0 ≤ j → j < 80 → 0 ≤ alive_0 j ∧ alive_0 j ≤ 1) (hE_0_36_1 : ∀ j : Int, 0 ≤ j → (j = x1 → rotMany_0 j = x20) ∧ (j ≠ x1 → rotMany_0 j = rotMany_1 j)) (hE_0_36_2 : ∀ j : Int, rotMany_1 j = rotMany_2 j) (hK_0_36 : ∀ j : Int, 0 ≤ j → j < 26 → 0 ≤ rotMany_0 j ∧ rotMany_0 j ≤ 80) (hE_0_37_1 : ∀ j : Int, rot_0 j = rot_1 j) (hE_0_37_2 : ∀ j : Int, 0 ≤ j → (j = x16 → rot_1 j = x2) ∧ (j ≠ x16 → rot_1 j = rot_2 j)) (hK_0_37 : ∀ j : Int, 0 ≤ j → j < 2080 → 0 ≤ rot_0 j ∧ rot_0 j ≤ 79) (kz_0_31 : 0 ≤ pn_0 ∧ pn_0 ≤ 25) (kz_0_32 : 0 ≤ pm_0 ∧ pm_0 ≤ 80) : PUd (pn_0) (pm_0) (pt_0) (ph_0) (alive_0) (rotMany_0) (rot_0) (x4) (x5) (x6) (x7) (x2) := by
  subst fe_0_31_1
  subst fe_0_32_1
  subst fe_0_31_2
  subst fe_0_32_2
  have e_hE_0_33_1 := funext hE_0_33_1; subst e_hE_0_33_1
  have e_hE_0_33_2 := funext hE_0_33_2; subst e_hE_0_33_2
  have e_hE_0_34_1 := funext hE_0_34_1; subst e_hE_0_34_1
  have e_hE_0_34_2 := funext hE_0_34_2; subst e_hE_0_34_2
  have e_hE_0_35_1 := funext hE_0_35_1; subst e_hE_0_35_1
  have e_hE_0_35_2 := funext hE_0_35_2; subst e_hE_0_35_2
  have e_hE_0_36_2 := funext hE_0_36_2; subst e_hE_0_36_2
  have e_hE_0_37_1 := funext hE_0_37_1; subst e_hE_0_37_1
  exact pal_end ‹PLc _ _ _ _ _ _ _ _ _ _ _ _ _ _ _› (by omega) (by assumption) (by omega) (by omega) (by assumption) (by omega) (by omega)
def o_Mo_putAt_at_g3_2 : or_T := (68, 21, [(0, (2, 0, 0, [165])), (1, (0, 0, 24, [])), (2, (0, 0, 79, [])), (4, (0, 0, 24, [])), (5, (0, 0, 24, [])), (6, (0, 0, 159, [])), (7, (0, 0, 159, [])), (9, (0, 0, 24, [])), (10, (0, 0, 79, [])), (11, (0, 0, 79, [])), (12, (0, 0, 79, [])), (13, (2, 0, 0, [184])), (14, (0, 80, 80, [])), (15, (0, 0, 1920, [])), (16, (0, 0, 1999, [])), (17, (2, 0, 0, [183])), (18, (0, 0, 80, [])), (19, (0, 1, 1, [])), (20, (0, 1, 80, []))], [(24, [0, 8], []), (24, [1, 9], []), (24, [2, 10], []), (100, [17, 9, 20], []), (1, [20, 18, 19], []), (10, [18, 17, 9], []), (9, [17, 8], [36]), (100, [13, 16, 10], []), (1, [16, 15, 11], []), (3, [15, 14, 9], []), (9, [13, 8], [37]), (7, [12, 11], [5]), (20, [8, 9, 10, 11, 12, 4, 5, 6, 7], [60, 2, 5, 257, 31, 32, 33, 34, 35, 36, 37])], [], [], [(20, [0, 4, 5, 6, 7, 2], [60, 2, 5, 250, 31, 32, 33, 34, 35, 36, 37])], [], [(20, 18, 1, 1), (16, 11, 0, 1920), (16, 15, 0, 79), (12, 11, -4294967296, 0), (1, 9, -4294967296, 0), (2, 10, -4294967296, 0), (9, 1, -4294967296, 0), (10, 2, -4294967296, 0)])
theorem oo_Mo_putAt_at_g3_2 {kA : Nat → ClassId} : or_ok PRD kA GG o_Mo_putAt_at_g3_2 := by
  refine or_mk fun A ta ws vs hD hth hl => ?_
  intro t0 r0 t1 k1 t2 k2 t4 k4 t5 k5 t6 k6 t7 k7 t9 k9 t10 k10 t11 k11 t12 k12 t13 r13 t14 k14 t15 k15 t16 k16 t17 r17 t18 k18 t19 k19 t20 k20 d0 d1 d2 d3 d4 d5 d6 d7 f0 f1 f2 ta1 w1 le1 s1 f4 f5 f6 ta2 w2 le2 s2 f8 f9 f10 f11 f12
  replace f0 := shm_5 f0
  replace f1 := shm_5 f1
  replace f2 := shm_5 f2
  have s1 : (∀ b j, w_el ws b j = if b = v_ad (n_v vs 17) ∧ j = (v_iv (n_v vs 9)).toNat then v_iv (n_v vs 20) else w_el w1 b j) ∧ ∀ b k, w_fd ws b k = w_fd w1 b k := s1.2
  replace f5 := shm_107 f5
  replace f6 := shm_684 f6
  have s2 : (∀ b j, w_el w1 b j = if b = v_ad (n_v vs 13) ∧ j = (v_iv (n_v vs 16)).toNat then v_iv (n_v vs 10) else w_el w2 b j) ∧ ∀ b k, w_fd w1 b k = w_fd w2 b k := s2.2
  replace f9 := shm_38 f9
  rw [show v_iv (n_v vs 14) = 80 from by omega] at f9
  replace f10 := shm_687 f10
  replace f12 := shm_693 f12
  have q8 : n_v vs 8 = n_v vs 0 := f0.symm
  have q9 : n_v vs 9 = n_v vs 1 := f1.symm
  have q10 : n_v vs 10 = n_v vs 2 := f2.symm
  rw [q9] at s1
  simp only [q9, q8] at f5 f6
  rw [q10] at s2
  simp only [q9, q8, q10] at f9 f10 f12
  have ar_0_33_1 : w_ar w1 (n_v vs 0) 33 = w_ar ws (n_v vs 0) 33 := congrArg v_ad (s1.2 _ _).symm
  have ar_0_33_2 : w_ar w2 (n_v vs 0) 33 = w_ar ws (n_v vs 0) 33 := by rw [← ar_0_33_1]; show v_ad (w_fd w2 _ _) = v_ad (w_fd w1 _ _); rw [s2.2]
  have cr_0_33 := fdq_117 hD hth r0
  have ar_0_34_1 : w_ar w1 (n_v vs 0) 34 = w_ar ws (n_v vs 0) 34 := congrArg v_ad (s1.2 _ _).symm
  have ar_0_34_2 : w_ar w2 (n_v vs 0) 34 = w_ar ws (n_v vs 0) 34 := by rw [← ar_0_34_1]; show v_ad (w_fd w2 _ _) = v_ad (w_fd w1 _ _); rw [s2.2]
  have cr_0_34 := fdq_118 hD hth r0
  have ar_0_35_1 : w_ar w1 (n_v vs 0) 35 = w_ar ws (n_v vs 0) 35 := congrArg v_ad (s1.2 _ _).symm
  have ar_0_35_2 : w_ar w2 (n_v vs 0) 35 = w_ar ws (n_v vs 0) 35 := by rw [← ar_0_35_1]; show v_ad (w_fd w2 _ _) = v_ad (w_fd w1 _ _); rw [s2.2]
  have cr_0_35 := fdq_132 hD hth r0
  have ar_0_36_1 : w_ar w1 (n_v vs 0) 36 = w_ar ws (n_v vs 0) 36 := congrArg v_ad (s1.2 _ _).symm
  have ar_0_36_2 : w_ar w2 (n_v vs 0) 36 = w_ar ws (n_v vs 0) 36 := by rw [← ar_0_36_1]; show v_ad (w_fd w2 _ _) = v_ad (w_fd w1 _ _); rw [s2.2]
  have cr_0_36 := fdq_167 hD hth r0
  have ar_0_37_1 : w_ar w1 (n_v vs 0) 37 = w_ar ws (n_v vs 0) 37 := congrArg v_ad (s1.2 _ _).symm
  have ar_0_37_2 : w_ar w2 (n_v vs 0) 37 = w_ar ws (n_v vs 0) 37 := by rw [← ar_0_37_1]; show v_ad (w_fd w2 _ _) = v_ad (w_fd w1 _ _); rw [s2.2]
  have cr_0_37 := fdq_168 hD hth r0
  have ad_17 : v_ad (n_v vs 17) = w_ar ws (n_v vs 0) 36 := (congrArg v_ad f6).trans ar_0_36_1
  have ad_13 : v_ad (n_v vs 13) = w_ar ws (n_v vs 0) 37 := (congrArg v_ad f10).trans ar_0_37_2
  simp only [ad_17] at f5
  have h5 : v_iv (n_v vs 18) = w_ei w1 (w_ar ws (n_v vs 0) 36) (v_iv (n_v vs 1)) := f5
  simp only [ar_0_33_2, ar_0_34_2, ar_0_35_2, ar_0_36_2, ar_0_37_2] at f12
  have fe_0_31_1 : w_fi ws (n_v vs 0) 31 = w_fi w1 (n_v vs 0) 31 := congrArg v_iv (s1.2 _ _)
  have fe_0_32_1 : w_fi ws (n_v vs 0) 32 = w_fi w1 (n_v vs 0) 32 := congrArg v_iv (s1.2 _ _)
  have fe_0_31_2 : w_fi w1 (n_v vs 0) 31 = w_fi w2 (n_v vs 0) 31 := congrArg v_iv (s2.2 _ _)
  have fe_0_32_2 : w_fi w1 (n_v vs 0) 32 = w_fi w2 (n_v vs 0) 32 := congrArg v_iv (s2.2 _ _)
  have hE_0_33_1 : ∀ j : Int, w_ei ws (w_ar ws (n_v vs 0) 33) j = w_ei w1 (w_ar ws (n_v vs 0) 33) j := el_kp s1.1 r17 cr_0_33 (by decide)
  have hE_0_33_2 : ∀ j : Int, w_ei w1 (w_ar ws (n_v vs 0) 33) j = w_ei w2 (w_ar ws (n_v vs 0) 33) j := el_kp s2.1 r13 cr_0_33 (by decide)
  have hK_0_33 := elq_60 hD hth cr_0_33
  have hE_0_34_1 : ∀ j : Int, w_ei ws (w_ar ws (n_v vs 0) 34) j = w_ei w1 (w_ar ws (n_v vs 0) 34) j := el_kp s1.1 r17 cr_0_34 (by decide)
  have hE_0_34_2 : ∀ j : Int, w_ei w1 (w_ar ws (n_v vs 0) 34) j = w_ei w2 (w_ar ws (n_v vs 0) 34) j := el_kp s2.1 r13 cr_0_34 (by decide)
  have hK_0_34 := elq_61 hD hth cr_0_34
  have hE_0_35_1 : ∀ j : Int, w_ei ws (w_ar ws (n_v vs 0) 35) j = w_ei w1 (w_ar ws (n_v vs 0) 35) j := el_kp s1.1 r17 cr_0_35 (by decide)
  have hE_0_35_2 : ∀ j : Int, w_ei w1 (w_ar ws (n_v vs 0) 35) j = w_ei w2 (w_ar ws (n_v vs 0) 35) j := el_kp s2.1 r13 cr_0_35 (by decide)
  have hK_0_35 := elq_72 hD hth cr_0_35
  have hE_0_36_1 : ∀ j : Int, 0 ≤ j → (j = v_iv (n_v vs 1) → w_ei ws (w_ar ws (n_v vs 0) 36) j = v_iv (n_v vs 20)) ∧ (j ≠ v_iv (n_v vs 1) → w_ei ws (w_ar ws (n_v vs 0) 36) j = w_ei w1 (w_ar ws (n_v vs 0) 36) j) := fun j hj => ⟨fun h => by unfold w_ei; rw [s1.1, if_pos ⟨ad_17.symm, by rw [h]⟩], fun h => by unfold w_ei; rw [s1.1, if_neg (fun e => h (by have := e.2; omega))]⟩
  have hE_0_36_2 : ∀ j : Int, w_ei w1 (w_ar ws (n_v vs 0) 36) j = w_ei w2 (w_ar ws (n_v vs 0) 36) j := el_kp s2.1 r13 cr_0_36 (by decide)
  have hK_0_36 := elq_97 hD hth cr_0_36
  have hE_0_37_1 : ∀ j : Int, w_ei ws (w_ar ws (n_v vs 0) 37) j = w_ei w1 (w_ar ws (n_v vs 0) 37) j := el_kp s1.1 r17 cr_0_37 (by decide)
  have hE_0_37_2 : ∀ j : Int, 0 ≤ j → (j = v_iv (n_v vs 16) → w_ei w1 (w_ar ws (n_v vs 0) 37) j = v_iv (n_v vs 2)) ∧ (j ≠ v_iv (n_v vs 16) → w_ei w1 (w_ar ws (n_v vs 0) 37) j = w_ei w2 (w_ar ws (n_v vs 0) 37) j) := fun j hj => ⟨fun h => by unfold w_ei; rw [s2.1, if_pos ⟨ad_13.symm, by rw [h]⟩], fun h => by unfold w_ei; rw [s2.1, if_neg (fun e => h (by have := e.2; omega))]⟩
  have hK_0_37 := elq_98 hD hth cr_0_37
  have kz_0_31 := fdq_145 hD hth r0
  have kz_0_32 := fdq_140 hD hth r0
  have nf0 : fc_1 PRD (20, [0, 4, 5, 6, 7, 2], [60, 2, 5, 250, 31, 32, 33, 34, 35, 36, 37]) ws (vs) := ⟨nf_in hl rfl, sgq_694 (vc_Mo_putAt_at_g3_2_0 (v_iv (n_v vs 1)) (v_iv (n_v vs 2)) (v_iv (n_v vs 4)) (v_iv (n_v vs 5)) (v_iv (n_v vs 6)) (v_iv (n_v vs 7)) (v_iv (n_v vs 9)) (v_iv (n_v vs 10)) (v_iv (n_v vs 11)) (v_iv (n_v vs 12)) (v_iv (n_v vs 14)) (v_iv (n_v vs 15)) (v_iv (n_v vs 16)) (v_iv (n_v vs 18)) (v_iv (n_v vs 19)) (v_iv (n_v vs 20)) (w_ei w1 (w_ar ws (n_v vs 0) 36)) (w_ei w2 (w_ar ws (n_v vs 0) 33)) (w_ei w2 (w_ar ws (n_v vs 0) 34)) (w_ei w2 (w_ar ws (n_v vs 0) 35)) (w_ei w2 (w_ar ws (n_v vs 0) 36)) (w_ei w2 (w_ar ws (n_v vs 0) 37)) (w_fi w2 (n_v vs 0) 31) (w_fi w2 (n_v vs 0) 32) (w_fi ws (n_v vs 0) 31) (w_fi w1 (n_v vs 0) 31) (w_fi ws (n_v vs 0) 32) (w_fi w1 (n_v vs 0) 32) (w_ei ws (w_ar ws (n_v vs 0) 33)) (w_ei w1 (w_ar ws (n_v vs 0) 33)) (w_ei ws (w_ar ws (n_v vs 0) 34)) (w_ei w1 (w_ar ws (n_v vs 0) 34)) (w_ei ws (w_ar ws (n_v vs 0) 35)) (w_ei w1 (w_ar ws (n_v vs 0) 35)) (w_ei ws (w_ar ws (n_v vs 0) 36)) (w_ei ws (w_ar ws (n_v vs 0) 37)) (w_ei w1 (w_ar ws (n_v vs 0) 37)) k1 k2 k4 k5 k6 k7 k9 k10 k11 k12 k14 k15 k16 k18 k19 k20 d0 d1 d2 d3 d4 d5 d6 d7 (shm_12 f4) h5 (shm_12 f8) f9 (shm_24 f11) f12 fe_0_31_1 fe_0_32_1 fe_0_31_2 fe_0_32_2 hE_0_33_1 hE_0_33_2 hK_0_33 hE_0_34_1 hE_0_34_2 hK_0_34 hE_0_35_1 hE_0_35_2 hK_0_35 hE_0_36_1 hE_0_36_2 hK_0_36 hE_0_37_1 hE_0_37_2 hK_0_37 kz_0_31 kz_0_32)⟩
  refine ⟨(fun _ h => (by cases h)), [], trivial, ?_, (fun _ h => (by cases h))⟩
  rw [List.append_nil]
  exact List.forall_mem_cons.mpr ⟨⟨show (20 : Nat) < 100 from by decide, nf0⟩, (fun _ h => (by cases h))⟩
set_option maxHeartbeats 4000000 in
theorem vc_Mo_putAt_at_g3_3_0 (x1 : Int) (x2 : Int) (x4 : Int) (x5 : Int) (x6 : Int) (x7 : Int) (x9 : Int) (x10 : Int) (x11 : Int) (x12 : Int) (x14 : Int) (x15 : Int) (x16 : Int) (x17 : Int) (x18 : Int) (x19 : Int) (x20 : Int) (x21 : Int) (x22 : Int) (x23 : Int) (rot_1 : Int → Int) (pt_1 : Int → Int) (ph_1 : Int → Int) (alive_1 : Int → Int) (rotMany_1 : Int → Int) (pn_1 : Int) (pm_1 : Int) (pn_0 : Int) (pm_0 : Int) (pt_0 : Int → Int) (ph_0 : Int → Int) (alive_0 : Int → Int) (rotMany_0 : Int → Int) (rot_0 : Int → Int) (k1 : 0 ≤ x1 ∧ x1 ≤ 24) (k2 : 0 ≤ x2 ∧ x2 ≤ 79) (k4 : 0 ≤ x4 ∧ x4 ≤ 24) (k5 : 0 ≤ x5 ∧ x5 ≤ 24) (k6 : 0 ≤ x6 ∧ x6 ≤ 159) (k7 : 0 ≤ x7 ∧ x7 ≤ 159) (k9 : 0 ≤ x9 ∧ x9 ≤ 24) (k10 : 0 ≤ x10 ∧ x10 ≤ 79) (k11 : 0 ≤ x11 ∧ x11 ≤ 79) (k12 : 1 ≤ x12 ∧ x12 ≤ 80) (k14 : 80 ≤ x14 ∧ x14 ≤ 80) (k15 : 0 ≤ x15 ∧ x15 ≤ 1920) (k16 : 1 ≤ x16 ∧ x16 ≤ 2000) (k17 : 80 ≤ x17 ∧ x17 ≤ 80) (k18 : 0 ≤ x18 ∧ x18 ≤ 1920) (k19 : 1 ≤ x19 ∧ x19 ≤ 2000) (k20 : 1 ≤ x20 ∧ x20 ≤ 1) (k21 : 0 ≤ x21 ∧ x21 ≤ 1999) (k22 : 0 ≤ x22 ∧ x22 ≤ 79) (k23 : 0 ≤ x23 ∧ x23 ≤ 79) (d0 : x12 + (-1) ≤ x23 ∧ x23 ≤ x12 + (-1)) (d1 : x11 + 0 ≤ x23 ∧ x23 ≤ x11 + 4294967296) (d2 : x19 + (-1) ≤ x21 ∧ x21 ≤ x19 + (-1)) (d3 : x12 + (-1) ≤ x21 ∧ x21 ≤ x12 + 1919) (d4 : x11 + 0 ≤ x21 ∧ x21 ≤ x11 + 4294967296) (d5 : x18 + 0 ≤ x21 ∧ x21 ≤ x18 + 79) (d6 : x12 + 0 ≤ x19 ∧ x19 ≤ x12 + 1920) (d7 : x11 + 1 ≤ x19 ∧ x19 ≤ x11 + 4294967296) (d8 : x18 + 1 ≤ x19 ∧ x19 ≤ x18 + 80) (d9 : x12 + 0 ≤ x16 ∧ x16 ≤ x12 + 1920) (d10 : x11 + 1 ≤ x16 ∧ x16 ≤ x11 + 4294967296) (d11 : x15 + 1 ≤ x16 ∧ x16 ≤ x15 + 80) (d12 : x11 + 1 ≤ x12 ∧ x12 ≤ x11 + 4294967296) (d13 : x9 + (-4294967296) ≤ x1 ∧ x1 ≤ x9 + 0) (d14 : x10 + (-4294967296) ≤ x2 ∧ x2 ≤ x10 + 0) (d15 : x1 + (-4294967296) ≤ x9 ∧ x9 ≤ x1 + 0) (d16 : x2 + (-4294967296) ≤ x10 ∧ x10 ≤ x2 + 0) (f0 : x23 = x12 + (-1)) (h5 : x22 = rot_1 (x21)) (f6 : x21 = x19 - x20) (f7 : x19 = x18 + x12) (f8 : x18 = 80 * x1) (f10 : x16 = x15 + x12) (f11 : x15 = 80 * x1) (f12 : x11 < x12) (f13 : PLc (pn_1) (pm_1) (pt_1) (ph_1) (alive_1) (rotMany_1) (rot_1) (x1) (x2) (x11) (x12) (x4) (x5) (x6) (x7)) (fe_0_31_1 : pn_0 = pn_1) (fe_0_32_1 : pm_0 = pm_1) (hE_0_33_1 : ∀ j : Int, pt_0 j = pt_1 j) (hK_0_33 : ∀ j : Int, 0 ≤ j → j < 80 → 0 ≤ pt_0 j ∧ pt_0 j ≤ 24) (hE_0_34_1 : ∀ j : Int, ph_0 j = ph_1 j) (hK_0_34 : ∀ j : Int, 0 ≤ j → j < 80 → 0 ≤ ph_0 j ∧ ph_0 j ≤ 24) (hE_0_35_1 : ∀ j : Int, alive_0 j = alive_1 j) (hK_0_35 : ∀ j : Int, 0 ≤ j → j < 80 → 0 ≤ alive_0 j ∧ alive_0 j ≤ 1) (hE_0_36_1 : ∀ j : Int, rotMany_0 j = rotMany_1 j) (hK_0_36 : ∀ j : Int, 0 ≤ j → j < 26 → 0 ≤ rotMany_0 j ∧ rotMany_0 j ≤ 80) (hE_0_37_1 : ∀ j : Int, 0 ≤ j → (j = x16 → rot_0 j = x22) ∧ (j ≠ x16 → rot_0 j = rot_1 j)) (hK_0_37 : ∀ j : Int, 0 ≤ j → j < 2080 → 0 ≤ rot_0 j ∧ rot_0 j ≤ 79) (kz_0_31 : 0 ≤ pn_0 ∧ pn_0 ≤ 25) (kz_0_32 : 0 ≤ pm_0 ∧ pm_0 ≤ 80) : PLc (pn_0) (pm_0) (pt_0) (ph_0) (alive_0) (rotMany_0) (rot_0) (x1) (x2) (x11) (x23) (x4) (x5) (x6) (x7) := by
  subst fe_0_31_1
  subst fe_0_32_1
  have e_hE_0_33_1 := funext hE_0_33_1; subst e_hE_0_33_1
  have e_hE_0_34_1 := funext hE_0_34_1; subst e_hE_0_34_1
  have e_hE_0_35_1 := funext hE_0_35_1; subst e_hE_0_35_1
  have e_hE_0_36_1 := funext hE_0_36_1; subst e_hE_0_36_1
  first
    | exact pal_start ‹PAc _ _ _ _ _ _ _ _ _ _ _ _ _ _› (by omega)
    | exact pal_step ‹PLc _ _ _ _ _ _ _ _ _ _ _ _ _ _ _› (by omega) (by omega) (by assumption) (by omega) (by assumption) (by omega)
def o_Mo_putAt_at_g3_3 : or_T := (8, 24, [(0, (2, 0, 0, [165])), (1, (0, 0, 24, [])), (2, (0, 0, 79, [])), (4, (0, 0, 24, [])), (5, (0, 0, 24, [])), (6, (0, 0, 159, [])), (7, (0, 0, 159, [])), (9, (0, 0, 24, [])), (10, (0, 0, 79, [])), (11, (0, 0, 79, [])), (12, (0, 1, 80, [])), (13, (2, 0, 0, [184])), (14, (0, 80, 80, [])), (15, (0, 0, 1920, [])), (16, (0, 1, 2000, [])), (17, (0, 80, 80, [])), (18, (0, 0, 1920, [])), (19, (0, 1, 2000, [])), (20, (0, 1, 1, [])), (21, (0, 0, 1999, [])), (22, (0, 0, 79, [])), (23, (0, 0, 79, []))], [(6, [23, 12], [-1]), (24, [0, 8], []), (24, [1, 9], []), (24, [2, 10], []), (100, [13, 16, 22], []), (10, [22, 13, 21], []), (2, [21, 19, 20], []), (1, [19, 18, 12], []), (3, [18, 17, 9], []), (9, [13, 8], [37]), (1, [16, 15, 12], []), (3, [15, 14, 9], []), (7, [12, 11], [4]), (20, [8, 9, 10, 11, 12, 4, 5, 6, 7], [60, 2, 5, 257, 31, 32, 33, 34, 35, 36, 37])], [], [], [(20, [8, 9, 10, 11, 23, 4, 5, 6, 7], [60, 2, 5, 257, 31, 32, 33, 34, 35, 36, 37])], [], [(23, 12, -1, -1), (23, 11, 0, 4294967296), (21, 19, -1, -1), (21, 12, -1, 1919), (21, 11, 0, 4294967296), (21, 18, 0, 79), (19, 12, 0, 1920), (19, 11, 1, 4294967296), (19, 18, 1, 80), (16, 12, 0, 1920), (16, 11, 1, 4294967296), (16, 15, 1, 80), (12, 11, 1, 4294967296), (1, 9, -4294967296, 0), (2, 10, -4294967296, 0), (9, 1, -4294967296, 0), (10, 2, -4294967296, 0)])
theorem oo_Mo_putAt_at_g3_3 {kA : Nat → ClassId} : or_ok PRD kA GG o_Mo_putAt_at_g3_3 := by
  refine or_mk fun A ta ws vs hD hth hl => ?_
  intro t0 r0 t1 k1 t2 k2 t4 k4 t5 k5 t6 k6 t7 k7 t9 k9 t10 k10 t11 k11 t12 k12 t13 r13 t14 k14 t15 k15 t16 k16 t17 k17 t18 k18 t19 k19 t20 k20 t21 k21 t22 k22 t23 k23 d0 d1 d2 d3 d4 d5 d6 d7 d8 d9 d10 d11 d12 d13 d14 d15 d16 f0 f1 f2 f3 ta1 w1 le1 s1 f5 f6 f7 f8 f9 f10 f11 f12 f13
  replace f0 := shm_186 f0
  replace f1 := shm_5 f1
  replace f2 := shm_5 f2
  replace f3 := shm_5 f3
  have s1 : (∀ b j, w_el ws b j = if b = v_ad (n_v vs 13) ∧ j = (v_iv (n_v vs 16)).toNat then v_iv (n_v vs 22) else w_el w1 b j) ∧ ∀ b k, w_fd ws b k = w_fd w1 b k := s1.2
  replace f5 := shm_107 f5
  replace f6 := shm_14 f6
  replace f7 := shm_12 f7
  replace f8 := shm_38 f8
  rw [show v_iv (n_v vs 17) = 80 from by omega] at f8
  replace f9 := shm_687 f9
  replace f10 := shm_12 f10
  replace f11 := shm_38 f11
  rw [show v_iv (n_v vs 14) = 80 from by omega] at f11
  replace f12 := shm_21 f12
  replace f13 := shm_693 f13
  have q8 : n_v vs 8 = n_v vs 0 := f1.symm
  have q9 : n_v vs 9 = n_v vs 1 := f2.symm
  have q10 : n_v vs 10 = n_v vs 2 := f3.symm
  simp only [q9, q8, q10] at f8 f9 f11 f13
  have ar_0_33_1 : w_ar w1 (n_v vs 0) 33 = w_ar ws (n_v vs 0) 33 := congrArg v_ad (s1.2 _ _).symm
  have cr_0_33 := fdq_117 hD hth r0
  have ar_0_34_1 : w_ar w1 (n_v vs 0) 34 = w_ar ws (n_v vs 0) 34 := congrArg v_ad (s1.2 _ _).symm
  have cr_0_34 := fdq_118 hD hth r0
  have ar_0_35_1 : w_ar w1 (n_v vs 0) 35 = w_ar ws (n_v vs 0) 35 := congrArg v_ad (s1.2 _ _).symm
  have cr_0_35 := fdq_132 hD hth r0
  have ar_0_36_1 : w_ar w1 (n_v vs 0) 36 = w_ar ws (n_v vs 0) 36 := congrArg v_ad (s1.2 _ _).symm
  have cr_0_36 := fdq_167 hD hth r0
  have ar_0_37_1 : w_ar w1 (n_v vs 0) 37 = w_ar ws (n_v vs 0) 37 := congrArg v_ad (s1.2 _ _).symm
  have cr_0_37 := fdq_168 hD hth r0
  have ad_13 : v_ad (n_v vs 13) = w_ar ws (n_v vs 0) 37 := (congrArg v_ad f9).trans ar_0_37_1
  simp only [ad_13] at f5
  have h5 : v_iv (n_v vs 22) = w_ei w1 (w_ar ws (n_v vs 0) 37) (v_iv (n_v vs 21)) := f5
  simp only [ar_0_33_1, ar_0_34_1, ar_0_35_1, ar_0_36_1, ar_0_37_1] at f13
  have fe_0_31_1 : w_fi ws (n_v vs 0) 31 = w_fi w1 (n_v vs 0) 31 := congrArg v_iv (s1.2 _ _)
  have fe_0_32_1 : w_fi ws (n_v vs 0) 32 = w_fi w1 (n_v vs 0) 32 := congrArg v_iv (s1.2 _ _)
  have hE_0_33_1 : ∀ j : Int, w_ei ws (w_ar ws (n_v vs 0) 33) j = w_ei w1 (w_ar ws (n_v vs 0) 33) j := el_kp s1.1 r13 cr_0_33 (by decide)
  have hK_0_33 := elq_60 hD hth cr_0_33
  have hE_0_34_1 : ∀ j : Int, w_ei ws (w_ar ws (n_v vs 0) 34) j = w_ei w1 (w_ar ws (n_v vs 0) 34) j := el_kp s1.1 r13 cr_0_34 (by decide)
  have hK_0_34 := elq_61 hD hth cr_0_34
  have hE_0_35_1 : ∀ j : Int, w_ei ws (w_ar ws (n_v vs 0) 35) j = w_ei w1 (w_ar ws (n_v vs 0) 35) j := el_kp s1.1 r13 cr_0_35 (by decide)
  have hK_0_35 := elq_72 hD hth cr_0_35
  have hE_0_36_1 : ∀ j : Int, w_ei ws (w_ar ws (n_v vs 0) 36) j = w_ei w1 (w_ar ws (n_v vs 0) 36) j := el_kp s1.1 r13 cr_0_36 (by decide)
  have hK_0_36 := elq_97 hD hth cr_0_36
  have hE_0_37_1 : ∀ j : Int, 0 ≤ j → (j = v_iv (n_v vs 16) → w_ei ws (w_ar ws (n_v vs 0) 37) j = v_iv (n_v vs 22)) ∧ (j ≠ v_iv (n_v vs 16) → w_ei ws (w_ar ws (n_v vs 0) 37) j = w_ei w1 (w_ar ws (n_v vs 0) 37) j) := fun j hj => ⟨fun h => by unfold w_ei; rw [s1.1, if_pos ⟨ad_13.symm, by rw [h]⟩], fun h => by unfold w_ei; rw [s1.1, if_neg (fun e => h (by have := e.2; omega))]⟩
  have hK_0_37 := elq_98 hD hth cr_0_37
  have kz_0_31 := fdq_145 hD hth r0
  have kz_0_32 := fdq_140 hD hth r0
  have nf0 : fc_1 PRD (20, [8, 9, 10, 11, 23, 4, 5, 6, 7], [60, 2, 5, 257, 31, 32, 33, 34, 35, 36, 37]) ws (vs) := by
    refine ⟨nf_in hl rfl, sgq_693 ?_⟩
    · show PLc (w_fi ws (n_v vs 8) 31) (w_fi ws (n_v vs 8) 32) (w_ei ws (w_ar ws (n_v vs 8) 33)) (w_ei ws (w_ar ws (n_v vs 8) 34)) (w_ei ws (w_ar ws (n_v vs 8) 35)) (w_ei ws (w_ar ws (n_v vs 8) 36)) (w_ei ws (w_ar ws (n_v vs 8) 37)) (v_iv (n_v vs 9)) (v_iv (n_v vs 10)) (v_iv (n_v vs 11)) (v_iv (n_v vs 23)) (v_iv (n_v vs 4)) (v_iv (n_v vs 5)) (v_iv (n_v vs 6)) (v_iv (n_v vs 7))
      simp only [q8, q9, q10]
      exact vc_Mo_putAt_at_g3_3_0 (v_iv (n_v vs 1)) (v_iv (n_v vs 2)) (v_iv (n_v vs 4)) (v_iv (n_v vs 5)) (v_iv (n_v vs 6)) (v_iv (n_v vs 7)) (v_iv (n_v vs 9)) (v_iv (n_v vs 10)) (v_iv (n_v vs 11)) (v_iv (n_v vs 12)) (v_iv (n_v vs 14)) (v_iv (n_v vs 15)) (v_iv (n_v vs 16)) (v_iv (n_v vs 17)) (v_iv (n_v vs 18)) (v_iv (n_v vs 19)) (v_iv (n_v vs 20)) (v_iv (n_v vs 21)) (v_iv (n_v vs 22)) (v_iv (n_v vs 23)) (w_ei w1 (w_ar ws (n_v vs 0) 37)) (w_ei w1 (w_ar ws (n_v vs 0) 33)) (w_ei w1 (w_ar ws (n_v vs 0) 34)) (w_ei w1 (w_ar ws (n_v vs 0) 35)) (w_ei w1 (w_ar ws (n_v vs 0) 36)) (w_fi w1 (n_v vs 0) 31) (w_fi w1 (n_v vs 0) 32) (w_fi ws (n_v vs 0) 31) (w_fi ws (n_v vs 0) 32) (w_ei ws (w_ar ws (n_v vs 0) 33)) (w_ei ws (w_ar ws (n_v vs 0) 34)) (w_ei ws (w_ar ws (n_v vs 0) 35)) (w_ei ws (w_ar ws (n_v vs 0) 36)) (w_ei ws (w_ar ws (n_v vs 0) 37)) k1 k2 k4 k5 k6 k7 k9 k10 k11 k12 k14 k15 k16 k17 k18 k19 k20 k21 k22 k23 d0 d1 d2 d3 d4 d5 d6 d7 d8 d9 d10 d11 d12 d13 d14 d15 d16 f0 h5 f6 f7 f8 f10 f11 f12 f13 fe_0_31_1 fe_0_32_1 hE_0_33_1 hK_0_33 hE_0_34_1 hK_0_34 hE_0_35_1 hK_0_35 hE_0_36_1 hK_0_36 hE_0_37_1 hK_0_37 kz_0_31 kz_0_32
  refine ⟨(fun _ h => (by cases h)), [], trivial, ?_, (fun _ h => (by cases h))⟩
  rw [List.append_nil]
  exact List.forall_mem_cons.mpr ⟨⟨show (20 : Nat) < 100 from by decide, nf0⟩, (fun _ h => (by cases h))⟩
def n_Mo_putAt_at_g3_an : List an_T := [(8, [(0, (2, 0, 0, [165])), (1, (0, 0, 24, [])), (2, (0, 0, 79, [])), (3, (0, 0, 79, [])), (4, (0, 0, 80, []))], [], (0, 0), [(0, 0, 99992), (2, 12, 0), (0, 0, 100000)], [(1, 9, (Int.negSucc 999999999999), 0), (2, 10, (Int.negSucc 999999999999), 0), (3, 11, (Int.negSucc 999999999999), 0), (9, 1, (Int.negSucc 999999999999), 0), (10, 2, (Int.negSucc 999999999999), 0), (11, 3, (Int.negSucc 999999999999), 0)], [], [(2, 0, 0, [165]), (0, 0, 24, []), (0, 0, 79, []), (0, 0, 79, []), (0, 0, 24, []), (0, 0, 24, []), (0, 0, 159, []), (0, 0, 159, [])], 0, [], [(20, [8, 9, 10, 11, 12, 4, 5, 6, 7], [60, 2, 5, 257, 31, 32, 33, 34, 35, 36, 37]), (24, [0, 8], []), (24, [1, 9], []), (24, [2, 10], [])])]
def t_Mo_putAt_at_g3_ct : ct_L := []
set_option maxRecDepth 100000 in
theorem c_Mo_putAt_at_g3 {l : Launch} {D : va_G} {kA : Nat → ClassId} : ct_ok PRD l D kA GG y_Mo_putAt_at_g3 z_Mo_putAt_at_g3 e_Mo_putAt_at_g3 := chk_all_ok (FT := [(66, 13, 36), (69, 13, 37)]) (PT := []) (CT := t_Mo_putAt_at_g3_ct) (KT := []) (NT := []) (AN := n_Mo_putAt_at_g3_an) (OT := [o_Mo_putAt_at_g3_0, o_Mo_putAt_at_g3_1, o_Mo_putAt_at_g3_2, o_Mo_putAt_at_g3_3]) 3 200 (List.forall_mem_cons.mpr ⟨oo_Mo_putAt_at_g3_0, List.forall_mem_cons.mpr ⟨oo_Mo_putAt_at_g3_1, List.forall_mem_cons.mpr ⟨oo_Mo_putAt_at_g3_2, List.forall_mem_cons.mpr ⟨oo_Mo_putAt_at_g3_3, List.forall_mem_nil _⟩⟩⟩⟩) (by decide +kernel) ⟨List.forall_mem_cons.mpr ⟨gf_Mo_66, List.forall_mem_cons.mpr ⟨gf_Mo_69, List.forall_mem_nil _⟩⟩, List.forall_mem_nil _, List.forall_mem_nil _, List.forall_mem_nil _, List.forall_mem_nil _, GG_pl⟩ (by decide +kernel)

set_option maxHeartbeats 4000000 in
theorem vc_Mo_putAt_at_g4_0_0 (x1 : Int) (x2 : Int) (x3 : Int) (x4 : Int) (x5 : Int) (x6 : Int) (x7 : Int) (x9 : Int) (rotMany_0 : Int → Int) (pt_0 : Int → Int) (ph_0 : Int → Int) (alive_0 : Int → Int) (rot_0 : Int → Int) (pn_0 : Int) (pm_0 : Int) (k1 : 0 ≤ x1 ∧ x1 ≤ 24) (k2 : 0 ≤ x2 ∧ x2 ≤ 79) (k3 : 0 ≤ x3 ∧ x3 ≤ 79) (k4 : 0 ≤ x4 ∧ x4 ≤ 24) (k5 : 0 ≤ x5 ∧ x5 ≤ 24) (k6 : 0 ≤ x6 ∧ x6 ≤ 159) (k7 : 0 ≤ x7 ∧ x7 ≤ 159) (k9 : 0 ≤ x9 ∧ x9 ≤ 80) (h0 : x9 = rotMany_0 (x1)) (f2 : PAd (pn_0) (pm_0) (pt_0) (ph_0) (alive_0) (rotMany_0) (rot_0) (x1) (x2) (x3) (x4) (x5) (x6) (x7)) (hK_0_33 : ∀ j : Int, 0 ≤ j → j < 80 → 0 ≤ pt_0 j ∧ pt_0 j ≤ 24) (hK_0_34 : ∀ j : Int, 0 ≤ j → j < 80 → 0 ≤ ph_0 j ∧ ph_0 j ≤ 24) (hK_0_35 : ∀ j : Int, 0 ≤ j → j < 80 → 0 ≤ alive_0 j ∧ alive_0 j ≤ 1) (hK_0_36 : ∀ j : Int, 0 ≤ j → j < 26 → 0 ≤ rotMany_0 j ∧ rotMany_0 j ≤ 80) (hK_0_37 : ∀ j : Int, 0 ≤ j → j < 2080 → 0 ≤ rot_0 j ∧ rot_0 j ≤ 79) (kz_0_31 : 0 ≤ pn_0 ∧ pn_0 ≤ 25) (kz_0_32 : 0 ≤ pm_0 ∧ pm_0 ≤ 80) : PLd (pn_0) (pm_0) (pt_0) (ph_0) (alive_0) (rotMany_0) (rot_0) (x1) (x2) (x3) (x9) (x4) (x5) (x6) (x7) := by
  first
    | exact pal_start ‹PAd _ _ _ _ _ _ _ _ _ _ _ _ _ _› (by omega)
    | exact pal_step ‹PLd _ _ _ _ _ _ _ _ _ _ _ _ _ _ _› (by omega) (by omega) (by assumption) (by omega) (by assumption) (by omega)
def o_Mo_putAt_at_g4_0 : or_T := (8, 10, [(0, (2, 0, 0, [165])), (1, (0, 0, 24, [])), (2, (0, 0, 79, [])), (3, (0, 0, 79, [])), (4, (0, 0, 24, [])), (5, (0, 0, 24, [])), (6, (0, 0, 159, [])), (7, (0, 0, 159, [])), (9, (0, 0, 80, []))], [(10, [9, 8, 1], []), (9, [8, 0], [36]), (20, [0, 1, 2, 3, 4, 5, 6, 7], [60, 2, 5, 254, 31, 32, 33, 34, 35, 36, 37])], [], [], [(20, [0, 1, 2, 3, 9, 4, 5, 6, 7], [60, 2, 5, 258, 31, 32, 33, 34, 35, 36, 37]), (24, [0, 0], []), (24, [1, 1], []), (24, [2, 2], [])], [], [])
theorem oo_Mo_putAt_at_g4_0 {kA : Nat → ClassId} : or_ok PRD kA GG o_Mo_putAt_at_g4_0 := by
  refine or_mk fun A ta ws vs hD hth hl => ?_
  intro t0 r0 t1 k1 t2 k2 t3 k3 t4 k4 t5 k5 t6 k6 t7 k7 t9 k9 f0 f1 f2
  replace f0 := shm_107 f0
  replace f1 := shm_684 f1
  have cr_0_33 := fdq_117 hD hth r0
  have cr_0_34 := fdq_118 hD hth r0
  have cr_0_35 := fdq_132 hD hth r0
  have cr_0_36 := fdq_167 hD hth r0
  have cr_0_37 := fdq_168 hD hth r0
  have ad_8 : v_ad (n_v vs 8) = w_ar ws (n_v vs 0) 36 := congrArg v_ad f1
  simp only [ad_8] at f0
  have h0 : v_iv (n_v vs 9) = w_ei ws (w_ar ws (n_v vs 0) 36) (v_iv (n_v vs 1)) := f0
  have hK_0_33 := elq_60 hD hth cr_0_33
  have hK_0_34 := elq_61 hD hth cr_0_34
  have hK_0_35 := elq_72 hD hth cr_0_35
  have hK_0_36 := elq_97 hD hth cr_0_36
  have hK_0_37 := elq_98 hD hth cr_0_37
  have kz_0_31 := fdq_145 hD hth r0
  have kz_0_32 := fdq_140 hD hth r0
  have nf0 : fc_1 PRD (20, [0, 1, 2, 3, 9, 4, 5, 6, 7], [60, 2, 5, 258, 31, 32, 33, 34, 35, 36, 37]) ws (vs) := ⟨nf_in hl rfl, sgq_696 (vc_Mo_putAt_at_g4_0_0 (v_iv (n_v vs 1)) (v_iv (n_v vs 2)) (v_iv (n_v vs 3)) (v_iv (n_v vs 4)) (v_iv (n_v vs 5)) (v_iv (n_v vs 6)) (v_iv (n_v vs 7)) (v_iv (n_v vs 9)) (w_ei ws (w_ar ws (n_v vs 0) 36)) (w_ei ws (w_ar ws (n_v vs 0) 33)) (w_ei ws (w_ar ws (n_v vs 0) 34)) (w_ei ws (w_ar ws (n_v vs 0) 35)) (w_ei ws (w_ar ws (n_v vs 0) 37)) (w_fi ws (n_v vs 0) 31) (w_fi ws (n_v vs 0) 32) k1 k2 k3 k4 k5 k6 k7 k9 h0 (shm_695 f2) hK_0_33 hK_0_34 hK_0_35 hK_0_36 hK_0_37 kz_0_31 kz_0_32)⟩
  have nf1 : fc_1 PRD (24, [0, 0], []) ws (vs) := by
    refine ⟨nf_in hl rfl, sgq_1 ?_⟩
    · show n_v vs 0 = n_v vs 0
      first | rfl | simp only [true_and]
  have nf2 : fc_1 PRD (24, [1, 1], []) ws (vs) := by
    refine ⟨nf_in hl rfl, sgq_1 ?_⟩
    · show n_v vs 1 = n_v vs 1
      first | rfl | simp only [true_and]
  have nf3 : fc_1 PRD (24, [2, 2], []) ws (vs) := by
    refine ⟨nf_in hl rfl, sgq_1 ?_⟩
    · show n_v vs 2 = n_v vs 2
      first | rfl | simp only [true_and]
  refine ⟨(fun _ h => (by cases h)), [], trivial, ?_, (fun _ h => (by cases h))⟩
  rw [List.append_nil]
  exact List.forall_mem_cons.mpr ⟨⟨show (20 : Nat) < 100 from by decide, nf0⟩, List.forall_mem_cons.mpr ⟨⟨show (24 : Nat) < 100 from by decide, nf1⟩, List.forall_mem_cons.mpr ⟨⟨show (24 : Nat) < 100 from by decide, nf2⟩, List.forall_mem_cons.mpr ⟨⟨show (24 : Nat) < 100 from by decide, nf3⟩, (fun _ h => (by cases h))⟩⟩⟩⟩
set_option maxHeartbeats 4000000 in
theorem vc_Mo_putAt_at_g4_1_r0 (x1 : Int) (x2 : Int) (x4 : Int) (x5 : Int) (x6 : Int) (x7 : Int) (x9 : Int) (x10 : Int) (x11 : Int) (x12 : Int) (x14 : Int) (x15 : Int) (x16 : Int) (x18 : Int) (x19 : Int) (x20 : Int) (rotMany_0 : Int → Int) (pt_1 : Int → Int) (ph_1 : Int → Int) (alive_1 : Int → Int) (rotMany_1 : Int → Int) (rot_1 : Int → Int) (pn_1 : Int) (pm_1 : Int) (pn_0 : Int) (pm_0 : Int) (pt_0 : Int → Int) (ph_0 : Int → Int) (alive_0 : Int → Int) (rot_0 : Int → Int) (k1 : 0 ≤ x1 ∧ x1 ≤ 24) (k2 : 0 ≤ x2 ∧ x2 ≤ 79) (k4 : 0 ≤ x4 ∧ x4 ≤ 24) (k5 : 0 ≤ x5 ∧ x5 ≤ 24) (k6 : 0 ≤ x6 ∧ x6 ≤ 159) (k7 : 0 ≤ x7 ∧ x7 ≤ 159) (k9 : 0 ≤ x9 ∧ x9 ≤ 24) (k10 : 0 ≤ x10 ∧ x10 ≤ 79) (k11 : 0 ≤ x11 ∧ x11 ≤ 79) (k12 : 0 ≤ x12 ∧ x12 ≤ 79) (k14 : 80 ≤ x14 ∧ x14 ≤ 80) (k15 : 0 ≤ x15 ∧ x15 ≤ 1920) (k16 : 0 ≤ x16 ∧ x16 ≤ 1999) (k18 : 0 ≤ x18 ∧ x18 ≤ 80) (k19 : 1 ≤ x19 ∧ x19 ≤ 1) (k20 : 1 ≤ x20 ∧ x20 ≤ 81) (d0 : x18 + 1 ≤ x20 ∧ x20 ≤ x18 + 1) (d1 : x11 + 0 ≤ x16 ∧ x16 ≤ x11 + 1920) (d2 : x15 + 0 ≤ x16 ∧ x16 ≤ x15 + 79) (d3 : x11 + (-4294967296) ≤ x12 ∧ x12 ≤ x11 + 0) (d4 : x9 + (-4294967296) ≤ x1 ∧ x1 ≤ x9 + 0) (d5 : x10 + (-4294967296) ≤ x2 ∧ x2 ≤ x10 + 0) (d6 : x1 + (-4294967296) ≤ x9 ∧ x9 ≤ x1 + 0) (d7 : x2 + (-4294967296) ≤ x10 ∧ x10 ≤ x2 + 0) (f0 : x20 = x18 + x19) (h1 : x18 = rotMany_0 (x1)) (f7 : x16 = x15 + x11) (f8 : x15 = 80 * x1) (f10 : x12 ≤ x11) (f11 : PLd (pn_1) (pm_1) (pt_1) (ph_1) (alive_1) (rotMany_1) (rot_1) (x1) (x2) (x11) (x12) (x4) (x5) (x6) (x7)) (fe_0_31_1 : pn_0 = pn_1) (fe_0_32_1 : pm_0 = pm_1) (hE_0_33_1 : ∀ j : Int, pt_0 j = pt_1 j) (hK_0_33 : ∀ j : Int, 0 ≤ j → j < 80 → 0 ≤ pt_0 j ∧ pt_0 j ≤ 24) (hE_0_34_1 : ∀ j : Int, ph_0 j = ph_1 j) (hK_0_34 : ∀ j : Int, 0 ≤ j → j < 80 → 0 ≤ ph_0 j ∧ ph_0 j ≤ 24) (hE_0_35_1 : ∀ j : Int, alive_0 j = alive_1 j) (hK_0_35 : ∀ j : Int, 0 ≤ j → j < 80 → 0 ≤ alive_0 j ∧ alive_0 j ≤ 1) (hE_0_36_1 : ∀ j : Int, rotMany_0 j = rotMany_1 j) (hK_0_36 : ∀ j : Int, 0 ≤ j → j < 26 → 0 ≤ rotMany_0 j ∧ rotMany_0 j ≤ 80) (hE_0_37_1 : ∀ j : Int, 0 ≤ j → (j = x16 → rot_0 j = x2) ∧ (j ≠ x16 → rot_0 j = rot_1 j)) (hK_0_37 : ∀ j : Int, 0 ≤ j → j < 2080 → 0 ≤ rot_0 j ∧ rot_0 j ≤ 79) (kz_0_31 : 0 ≤ pn_0 ∧ pn_0 ≤ 25) (kz_0_32 : 0 ≤ pm_0 ∧ pm_0 ≤ 80) : 1 ≤ x20 ∧ x20 ≤ 80 := by
  subst fe_0_31_1
  subst fe_0_32_1
  have e_hE_0_33_1 := funext hE_0_33_1; subst e_hE_0_33_1
  have e_hE_0_34_1 := funext hE_0_34_1; subst e_hE_0_34_1
  have e_hE_0_35_1 := funext hE_0_35_1; subst e_hE_0_35_1
  have e_hE_0_36_1 := funext hE_0_36_1; subst e_hE_0_36_1
  first
    | omega
    | (have h := pax_len ‹PAa _ _ _ _ _ _ _ _ _ _ _›; omega)
    | (have h := pax_len ‹PAb _ _ _ _ _ _ _ _ _ _ _›; omega)
    | (have h := pax_len ‹PAc _ _ _ _ _ _ _ _ _ _ _ _ _ _›; omega)
    | (have h := pax_len ‹PAd _ _ _ _ _ _ _ _ _ _ _ _ _ _›; omega)
    | (have h := pal_len ‹PLa _ _ _ _ _ _ _ _ _ _ _ _›; omega)
    | (have h := pal_len ‹PLb _ _ _ _ _ _ _ _ _ _ _ _›; omega)
    | (have h := pal_len ‹PLc _ _ _ _ _ _ _ _ _ _ _ _ _ _ _›; omega)
    | (have h := pal_len ‹PLd _ _ _ _ _ _ _ _ _ _ _ _ _ _ _›; omega)
def o_Mo_putAt_at_g4_1 : or_T := (67, 21, [(0, (2, 0, 0, [165])), (1, (0, 0, 24, [])), (2, (0, 0, 79, [])), (4, (0, 0, 24, [])), (5, (0, 0, 24, [])), (6, (0, 0, 159, [])), (7, (0, 0, 159, [])), (8, (2, 0, 0, [165])), (9, (0, 0, 24, [])), (10, (0, 0, 79, [])), (11, (0, 0, 79, [])), (12, (0, 0, 79, [])), (13, (2, 0, 0, [184])), (14, (0, 80, 80, [])), (15, (0, 0, 1920, [])), (16, (0, 0, 1999, [])), (17, (2, 0, 0, [183])), (18, (0, 0, 80, [])), (19, (0, 1, 1, [])), (20, (0, 1, 81, []))], [(1, [20, 18, 19], []), (10, [18, 17, 9], []), (9, [17, 8], [36]), (24, [0, 8], []), (24, [1, 9], []), (24, [2, 10], []), (100, [13, 16, 10], []), (1, [16, 15, 11], []), (3, [15, 14, 9], []), (9, [13, 8], [37]), (7, [12, 11], [5]), (20, [8, 9, 10, 11, 12, 4, 5, 6, 7], [60, 2, 5, 258, 31, 32, 33, 34, 35, 36, 37])], [(20, (0, 1, 80, []))], [], [], [], [(20, 18, 1, 1), (16, 11, 0, 1920), (16, 15, 0, 79), (12, 11, -4294967296, 0), (1, 9, -4294967296, 0), (2, 10, -4294967296, 0), (9, 1, -4294967296, 0), (10, 2, -4294967296, 0)])
theorem oo_Mo_putAt_at_g4_1 {kA : Nat → ClassId} : or_ok PRD kA GG o_Mo_putAt_at_g4_1 := by
  refine or_mk fun A ta ws vs hD hth hl => ?_
  intro t0 r0 t1 k1 t2 k2 t4 k4 t5 k5 t6 k6 t7 k7 t8 r8 t9 k9 t10 k10 t11 k11 t12 k12 t13 r13 t14 k14 t15 k15 t16 k16 t17 r17 t18 k18 t19 k19 t20 k20 d0 d1 d2 d3 d4 d5 d6 d7 f0 f1 f2 f3 f4 f5 ta1 w1 le1 s1 f7 f8 f9 f10 f11
  replace f1 := shm_107 f1
  replace f2 := shm_684 f2
  replace f3 := shm_5 f3
  replace f4 := shm_5 f4
  replace f5 := shm_5 f5
  have s1 : (∀ b j, w_el ws b j = if b = v_ad (n_v vs 13) ∧ j = (v_iv (n_v vs 16)).toNat then v_iv (n_v vs 10) else w_el w1 b j) ∧ ∀ b k, w_fd ws b k = w_fd w1 b k := s1.2
  replace f8 := shm_38 f8
  rw [show v_iv (n_v vs 14) = 80 from by omega] at f8
  replace f9 := shm_687 f9
  replace f11 := shm_696 f11
  have q8 : n_v vs 8 = n_v vs 0 := f3.symm
  have q9 : n_v vs 9 = n_v vs 1 := f4.symm
  have q10 : n_v vs 10 = n_v vs 2 := f5.symm
  simp only [q9, q8] at f1 f2
  rw [q10] at s1
  simp only [q9, q8, q10] at f8 f9 f11
  have ar_0_33_1 : w_ar w1 (n_v vs 0) 33 = w_ar ws (n_v vs 0) 33 := congrArg v_ad (s1.2 _ _).symm
  have cr_0_33 := fdq_117 hD hth r0
  have ar_0_34_1 : w_ar w1 (n_v vs 0) 34 = w_ar ws (n_v vs 0) 34 := congrArg v_ad (s1.2 _ _).symm
  have cr_0_34 := fdq_118 hD hth r0
  have ar_0_35_1 : w_ar w1 (n_v vs 0) 35 = w_ar ws (n_v vs 0) 35 := congrArg v_ad (s1.2 _ _).symm
  have cr_0_35 := fdq_132 hD hth r0
  have ar_0_36_1 : w_ar w1 (n_v vs 0) 36 = w_ar ws (n_v vs 0) 36 := congrArg v_ad (s1.2 _ _).symm
  have cr_0_36 := fdq_167 hD hth r0
  have ar_0_37_1 : w_ar w1 (n_v vs 0) 37 = w_ar ws (n_v vs 0) 37 := congrArg v_ad (s1.2 _ _).symm
  have cr_0_37 := fdq_168 hD hth r0
  have ad_17 : v_ad (n_v vs 17) = w_ar ws (n_v vs 0) 36 := congrArg v_ad f2
  have ad_13 : v_ad (n_v vs 13) = w_ar ws (n_v vs 0) 37 := (congrArg v_ad f9).trans ar_0_37_1
  simp only [ad_17] at f1
  have h1 : v_iv (n_v vs 18) = w_ei ws (w_ar ws (n_v vs 0) 36) (v_iv (n_v vs 1)) := f1
  simp only [ar_0_33_1, ar_0_34_1, ar_0_35_1, ar_0_36_1, ar_0_37_1] at f11
  have fe_0_31_1 : w_fi ws (n_v vs 0) 31 = w_fi w1 (n_v vs 0) 31 := congrArg v_iv (s1.2 _ _)
  have fe_0_32_1 : w_fi ws (n_v vs 0) 32 = w_fi w1 (n_v vs 0) 32 := congrArg v_iv (s1.2 _ _)
  have hE_0_33_1 : ∀ j : Int, w_ei ws (w_ar ws (n_v vs 0) 33) j = w_ei w1 (w_ar ws (n_v vs 0) 33) j := el_kp s1.1 r13 cr_0_33 (by decide)
  have hK_0_33 := elq_60 hD hth cr_0_33
  have hE_0_34_1 : ∀ j : Int, w_ei ws (w_ar ws (n_v vs 0) 34) j = w_ei w1 (w_ar ws (n_v vs 0) 34) j := el_kp s1.1 r13 cr_0_34 (by decide)
  have hK_0_34 := elq_61 hD hth cr_0_34
  have hE_0_35_1 : ∀ j : Int, w_ei ws (w_ar ws (n_v vs 0) 35) j = w_ei w1 (w_ar ws (n_v vs 0) 35) j := el_kp s1.1 r13 cr_0_35 (by decide)
  have hK_0_35 := elq_72 hD hth cr_0_35
  have hE_0_36_1 : ∀ j : Int, w_ei ws (w_ar ws (n_v vs 0) 36) j = w_ei w1 (w_ar ws (n_v vs 0) 36) j := el_kp s1.1 r13 cr_0_36 (by decide)
  have hK_0_36 := elq_97 hD hth cr_0_36
  have hE_0_37_1 : ∀ j : Int, 0 ≤ j → (j = v_iv (n_v vs 16) → w_ei ws (w_ar ws (n_v vs 0) 37) j = v_iv (n_v vs 2)) ∧ (j ≠ v_iv (n_v vs 16) → w_ei ws (w_ar ws (n_v vs 0) 37) j = w_ei w1 (w_ar ws (n_v vs 0) 37) j) := fun j hj => ⟨fun h => by unfold w_ei; rw [s1.1, if_pos ⟨ad_13.symm, by rw [h]⟩], fun h => by unfold w_ei; rw [s1.1, if_neg (fun e => h (by have := e.2; omega))]⟩
  have hK_0_37 := elq_98 hD hth cr_0_37
  have kz_0_31 := fdq_145 hD hth r0
  have kz_0_32 := fdq_140 hD hth r0
  have hrf0 : 1 ≤ v_iv (n_v vs 20) ∧ v_iv (n_v vs 20) ≤ 80 := vc_Mo_putAt_at_g4_1_r0 (v_iv (n_v vs 1)) (v_iv (n_v vs 2)) (v_iv (n_v vs 4)) (v_iv (n_v vs 5)) (v_iv (n_v vs 6)) (v_iv (n_v vs 7)) (v_iv (n_v vs 9)) (v_iv (n_v vs 10)) (v_iv (n_v vs 11)) (v_iv (n_v vs 12)) (v_iv (n_v vs 14)) (v_iv (n_v vs 15)) (v_iv (n_v vs 16)) (v_iv (n_v vs 18)) (v_iv (n_v vs 19)) (v_iv (n_v vs 20)) (w_ei ws (w_ar ws (n_v vs 0) 36)) (w_ei w1 (w_ar ws (n_v vs 0) 33)) (w_ei w1 (w_ar ws (n_v vs 0) 34)) (w_ei w1 (w_ar ws (n_v vs 0) 35)) (w_ei w1 (w_ar ws (n_v vs 0) 36)) (w_ei w1 (w_ar ws (n_v vs 0) 37)) (w_fi w1 (n_v vs 0) 31) (w_fi w1 (n_v vs 0) 32) (w_fi ws (n_v vs 0) 31) (w_fi ws (n_v vs 0) 32) (w_ei ws (w_ar ws (n_v vs 0) 33)) (w_ei ws (w_ar ws (n_v vs 0) 34)) (w_ei ws (w_ar ws (n_v vs 0) 35)) (w_ei ws (w_ar ws (n_v vs 0) 37)) k1 k2 k4 k5 k6 k7 k9 k10 k11 k12 k14 k15 k16 k18 k19 k20 d0 d1 d2 d3 d4 d5 d6 d7 (shm_12 f0) h1 (shm_12 f7) f8 (shm_24 f10) f11 fe_0_31_1 fe_0_32_1 hE_0_33_1 hK_0_33 hE_0_34_1 hK_0_34 hE_0_35_1 hK_0_35 hE_0_36_1 hK_0_36 hE_0_37_1 hK_0_37 kz_0_31 kz_0_32
  have rf20 : tv_ok ta (0, 1, 80, []) (n_v vs 20) := tv_in t20 (by first | omega | grind) (by first | omega | grind)
  refine ⟨List.forall_mem_cons.mpr ⟨rf20, (fun _ h => (by cases h))⟩, [], trivial, ?_, (fun _ h => (by cases h))⟩
  rw [List.append_nil]
  exact (fun _ h => (by cases h))
set_option maxHeartbeats 4000000 in
theorem vc_Mo_putAt_at_g4_2_0 (x1 : Int) (x2 : Int) (x4 : Int) (x5 : Int) (x6 : Int) (x7 : Int) (x9 : Int) (x10 : Int) (x11 : Int) (x12 : Int) (x14 : Int) (x15 : Int) (x16 : Int) (x18 : Int) (x19 : Int) (x20 : Int) (rotMany_1 : Int → Int) (pt_2 : Int → Int) (ph_2 : Int → Int) (alive_2 : Int → Int) (rotMany_2 : Int → Int) (rot_2 : Int → Int) (pn_2 : Int) (pm_2 : Int) (pn_0 : Int) (pn_1 : Int) (pm_0 : Int) (pm_1 : Int) (pt_0 : Int → Int) (pt_1 : Int → Int) (ph_0 : Int → Int) (ph_1 : Int → Int) (alive_0 : Int → Int) (alive_1 : Int → Int) (rotMany_0 : Int → Int) (rot_0 : Int → Int) (rot_1 : Int → Int) (k1 : 0 ≤ x1 ∧ x1 ≤ 24) (k2 : 0 ≤ x2 ∧ x2 ≤ 79) (k4 : 0 ≤ x4 ∧ x4 ≤ 24) (k5 : 0 ≤ x5 ∧ x5 ≤ 24) (k6 : 0 ≤ x6 ∧ x6 ≤ 159) (k7 : 0 ≤ x7 ∧ x7 ≤ 159) (k9 : 0 ≤ x9 ∧ x9 ≤ 24) (k10 : 0 ≤ x10 ∧ x10 ≤ 79) (k11 : 0 ≤ x11 ∧ x11 ≤ 79) (k12 : 0 ≤ x12 ∧ x12 ≤ 79) (k14 : 80 ≤ x14 ∧ x14 ≤ 80) (k15 : 0 ≤ x15 ∧ x15 ≤ 1920) (k16 : 0 ≤ x16 ∧ x16 ≤ 1999) (k18 : 0 ≤ x18 ∧ x18 ≤ 80) (k19 : 1 ≤ x19 ∧ x19 ≤ 1) (k20 : 1 ≤ x20 ∧ x20 ≤ 80) (d0 : x18 + 1 ≤ x20 ∧ x20 ≤ x18 + 1) (d1 : x11 + 0 ≤ x16 ∧ x16 ≤ x11 + 1920) (d2 : x15 + 0 ≤ x16 ∧ x16 ≤ x15 + 79) (d3 : x11 + (-4294967296) ≤ x12 ∧ x12 ≤ x11 + 0) (d4 : x9 + (-4294967296) ≤ x1 ∧ x1 ≤ x9 + 0) (d5 : x10 + (-4294967296) ≤ x2 ∧ x2 ≤ x10 + 0) (d6 : x1 + (-4294967296) ≤ x9 ∧ x9 ≤ x1 + 0) (d7 : x2 + (-4294967296) ≤ x10 ∧ x10 ≤ x2 + 0) (f4 : x20 = x18 + x19) (h5 : x18 = rotMany_1 (x1)) (f8 : x16 = x15 + x11) (f9 : x15 = 80 * x1) (f11 : x12 ≤ x11) (f12 : PLd (pn_2) (pm_2) (pt_2) (ph_2) (alive_2) (rotMany_2) (rot_2) (x1) (x2) (x11) (x12) (x4) (x5) (x6) (x7)) (fe_0_31_1 : pn_0 = pn_1) (fe_0_32_1 : pm_0 = pm_1) (fe_0_31_2 : pn_1 = pn_2) (fe_0_32_2 : pm_1 = pm_2) (hE_0_33_1 : ∀ j : Int, pt_0 j = pt_1 j) (hE_0_33_2 : ∀ j : Int, pt_1 j = pt_2 j) (hK_0_33 : ∀ j : Int, 0 ≤ j → j < 80 → 0 ≤ pt_0 j ∧ pt_0 j ≤ 24) (hE_0_34_1 : ∀ j : Int, ph_0 j = ph_1 j) (hE_0_34_2 : ∀ j : Int, ph_1 j = ph_2 j) (hK_0_34 : ∀ j : Int, 0 ≤ j → j < 80 → 0 ≤ ph_0 j ∧ ph_0 j ≤ 24) (hE_0_35_1 : ∀ j : Int, alive_0 j = alive_1 j) (hE_0_35_2 : ∀ j : Int, alive_1 j = alive_2 j) (hK_0_35 : ∀ j : Int, 0 ≤ j → j < 80 → 0 ≤ alive_0 j ∧ alive_0 j ≤ 1) (hE_0_36_1 : ∀ j : Int, 0 ≤ j → (j = x1 → rotMany_0 j = x20) ∧ (j ≠ x1 → rotMany_0 j = rotMany_1 j)) (hE_0_36_2 : ∀ j : Int, rotMany_1 j = rotMany_2 j) (hK_0_36 : ∀ j : Int, 0 ≤ j → j < 26 → 0 ≤ rotMany_0 j ∧ rotMany_0 j ≤ 80) (hE_0_37_1 : ∀ j : Int, rot_0 j = rot_1 j) (hE_0_37_2 : ∀ j : Int, 0 ≤ j → (j = x16 → rot_1 j = x2) ∧ (j ≠ x16 → rot_1 j = rot_2 j)) (hK_0_37 : ∀ j : Int, 0 ≤ j → j < 2080 → 0 ≤ rot_0 j ∧ rot_0 j ≤ 79) (kz_0_31 : 0 ≤ pn_0 ∧ pn_0 ≤ 25) (kz_0_32 : 0 ≤ pm_0 ∧ pm_0 ≤ 80) : GRI (pn_0) (pm_0) (pt_0) (ph_0) (alive_0) (rotMany_0) (rot_0) := by
  subst fe_0_31_1
  subst fe_0_32_1
  subst fe_0_31_2
  subst fe_0_32_2
  have e_hE_0_33_1 := funext hE_0_33_1; subst e_hE_0_33_1
  have e_hE_0_33_2 := funext hE_0_33_2; subst e_hE_0_33_2
  have e_hE_0_34_1 := funext hE_0_34_1; subst e_hE_0_34_1
  have e_hE_0_34_2 := funext hE_0_34_2; subst e_hE_0_34_2
  have e_hE_0_35_1 := funext hE_0_35_1; subst e_hE_0_35_1
  have e_hE_0_35_2 := funext hE_0_35_2; subst e_hE_0_35_2
  have e_hE_0_36_2 := funext hE_0_36_2; subst e_hE_0_36_2
  have e_hE_0_37_1 := funext hE_0_37_1; subst e_hE_0_37_1
  first
    | exact (pal_end ‹PLb _ _ _ _ _ _ _ _ _ _ _ _› (by omega) (by assumption) (by omega) (by omega) (by assumption) (by omega) (by omega)).2.2.2.2 rfl
    | exact (pal_end ‹PLd _ _ _ _ _ _ _ _ _ _ _ _ _ _ _› (by omega) (by assumption) (by omega) (by omega) (by assumption) (by omega) (by omega)).2.2.2.2 rfl
def o_Mo_putAt_at_g4_2 : or_T := (68, 21, [(0, (2, 0, 0, [165])), (1, (0, 0, 24, [])), (2, (0, 0, 79, [])), (4, (0, 0, 24, [])), (5, (0, 0, 24, [])), (6, (0, 0, 159, [])), (7, (0, 0, 159, [])), (9, (0, 0, 24, [])), (10, (0, 0, 79, [])), (11, (0, 0, 79, [])), (12, (0, 0, 79, [])), (13, (2, 0, 0, [184])), (14, (0, 80, 80, [])), (15, (0, 0, 1920, [])), (16, (0, 0, 1999, [])), (17, (2, 0, 0, [183])), (18, (0, 0, 80, [])), (19, (0, 1, 1, [])), (20, (0, 1, 80, []))], [(24, [0, 8], []), (24, [1, 9], []), (24, [2, 10], []), (100, [17, 9, 20], []), (1, [20, 18, 19], []), (10, [18, 17, 9], []), (9, [17, 8], [36]), (100, [13, 16, 10], []), (1, [16, 15, 11], []), (3, [15, 14, 9], []), (9, [13, 8], [37]), (7, [12, 11], [5]), (20, [8, 9, 10, 11, 12, 4, 5, 6, 7], [60, 2, 5, 258, 31, 32, 33, 34, 35, 36, 37])], [], [], [(20, [0], [60, 2, 5, 261, 31, 32, 33, 34, 35, 36, 37])], [], [(20, 18, 1, 1), (16, 11, 0, 1920), (16, 15, 0, 79), (12, 11, -4294967296, 0), (1, 9, -4294967296, 0), (2, 10, -4294967296, 0), (9, 1, -4294967296, 0), (10, 2, -4294967296, 0)])
theorem oo_Mo_putAt_at_g4_2 {kA : Nat → ClassId} : or_ok PRD kA GG o_Mo_putAt_at_g4_2 := by
  refine or_mk fun A ta ws vs hD hth hl => ?_
  intro t0 r0 t1 k1 t2 k2 t4 k4 t5 k5 t6 k6 t7 k7 t9 k9 t10 k10 t11 k11 t12 k12 t13 r13 t14 k14 t15 k15 t16 k16 t17 r17 t18 k18 t19 k19 t20 k20 d0 d1 d2 d3 d4 d5 d6 d7 f0 f1 f2 ta1 w1 le1 s1 f4 f5 f6 ta2 w2 le2 s2 f8 f9 f10 f11 f12
  replace f0 := shm_5 f0
  replace f1 := shm_5 f1
  replace f2 := shm_5 f2
  have s1 : (∀ b j, w_el ws b j = if b = v_ad (n_v vs 17) ∧ j = (v_iv (n_v vs 9)).toNat then v_iv (n_v vs 20) else w_el w1 b j) ∧ ∀ b k, w_fd ws b k = w_fd w1 b k := s1.2
  replace f5 := shm_107 f5
  replace f6 := shm_684 f6
  have s2 : (∀ b j, w_el w1 b j = if b = v_ad (n_v vs 13) ∧ j = (v_iv (n_v vs 16)).toNat then v_iv (n_v vs 10) else w_el w2 b j) ∧ ∀ b k, w_fd w1 b k = w_fd w2 b k := s2.2
  replace f9 := shm_38 f9
  rw [show v_iv (n_v vs 14) = 80 from by omega] at f9
  replace f10 := shm_687 f10
  replace f12 := shm_696 f12
  have q8 : n_v vs 8 = n_v vs 0 := f0.symm
  have q9 : n_v vs 9 = n_v vs 1 := f1.symm
  have q10 : n_v vs 10 = n_v vs 2 := f2.symm
  rw [q9] at s1
  simp only [q9, q8] at f5 f6
  rw [q10] at s2
  simp only [q9, q8, q10] at f9 f10 f12
  have ar_0_33_1 : w_ar w1 (n_v vs 0) 33 = w_ar ws (n_v vs 0) 33 := congrArg v_ad (s1.2 _ _).symm
  have ar_0_33_2 : w_ar w2 (n_v vs 0) 33 = w_ar ws (n_v vs 0) 33 := by rw [← ar_0_33_1]; show v_ad (w_fd w2 _ _) = v_ad (w_fd w1 _ _); rw [s2.2]
  have cr_0_33 := fdq_117 hD hth r0
  have ar_0_34_1 : w_ar w1 (n_v vs 0) 34 = w_ar ws (n_v vs 0) 34 := congrArg v_ad (s1.2 _ _).symm
  have ar_0_34_2 : w_ar w2 (n_v vs 0) 34 = w_ar ws (n_v vs 0) 34 := by rw [← ar_0_34_1]; show v_ad (w_fd w2 _ _) = v_ad (w_fd w1 _ _); rw [s2.2]
  have cr_0_34 := fdq_118 hD hth r0
  have ar_0_35_1 : w_ar w1 (n_v vs 0) 35 = w_ar ws (n_v vs 0) 35 := congrArg v_ad (s1.2 _ _).symm
  have ar_0_35_2 : w_ar w2 (n_v vs 0) 35 = w_ar ws (n_v vs 0) 35 := by rw [← ar_0_35_1]; show v_ad (w_fd w2 _ _) = v_ad (w_fd w1 _ _); rw [s2.2]
  have cr_0_35 := fdq_132 hD hth r0
  have ar_0_36_1 : w_ar w1 (n_v vs 0) 36 = w_ar ws (n_v vs 0) 36 := congrArg v_ad (s1.2 _ _).symm
  have ar_0_36_2 : w_ar w2 (n_v vs 0) 36 = w_ar ws (n_v vs 0) 36 := by rw [← ar_0_36_1]; show v_ad (w_fd w2 _ _) = v_ad (w_fd w1 _ _); rw [s2.2]
  have cr_0_36 := fdq_167 hD hth r0
  have ar_0_37_1 : w_ar w1 (n_v vs 0) 37 = w_ar ws (n_v vs 0) 37 := congrArg v_ad (s1.2 _ _).symm
  have ar_0_37_2 : w_ar w2 (n_v vs 0) 37 = w_ar ws (n_v vs 0) 37 := by rw [← ar_0_37_1]; show v_ad (w_fd w2 _ _) = v_ad (w_fd w1 _ _); rw [s2.2]
  have cr_0_37 := fdq_168 hD hth r0
  have ad_17 : v_ad (n_v vs 17) = w_ar ws (n_v vs 0) 36 := (congrArg v_ad f6).trans ar_0_36_1
  have ad_13 : v_ad (n_v vs 13) = w_ar ws (n_v vs 0) 37 := (congrArg v_ad f10).trans ar_0_37_2
  simp only [ad_17] at f5
  have h5 : v_iv (n_v vs 18) = w_ei w1 (w_ar ws (n_v vs 0) 36) (v_iv (n_v vs 1)) := f5
  simp only [ar_0_33_2, ar_0_34_2, ar_0_35_2, ar_0_36_2, ar_0_37_2] at f12
  have fe_0_31_1 : w_fi ws (n_v vs 0) 31 = w_fi w1 (n_v vs 0) 31 := congrArg v_iv (s1.2 _ _)
  have fe_0_32_1 : w_fi ws (n_v vs 0) 32 = w_fi w1 (n_v vs 0) 32 := congrArg v_iv (s1.2 _ _)
  have fe_0_31_2 : w_fi w1 (n_v vs 0) 31 = w_fi w2 (n_v vs 0) 31 := congrArg v_iv (s2.2 _ _)
  have fe_0_32_2 : w_fi w1 (n_v vs 0) 32 = w_fi w2 (n_v vs 0) 32 := congrArg v_iv (s2.2 _ _)
  have hE_0_33_1 : ∀ j : Int, w_ei ws (w_ar ws (n_v vs 0) 33) j = w_ei w1 (w_ar ws (n_v vs 0) 33) j := el_kp s1.1 r17 cr_0_33 (by decide)
  have hE_0_33_2 : ∀ j : Int, w_ei w1 (w_ar ws (n_v vs 0) 33) j = w_ei w2 (w_ar ws (n_v vs 0) 33) j := el_kp s2.1 r13 cr_0_33 (by decide)
  have hK_0_33 := elq_60 hD hth cr_0_33
  have hE_0_34_1 : ∀ j : Int, w_ei ws (w_ar ws (n_v vs 0) 34) j = w_ei w1 (w_ar ws (n_v vs 0) 34) j := el_kp s1.1 r17 cr_0_34 (by decide)
  have hE_0_34_2 : ∀ j : Int, w_ei w1 (w_ar ws (n_v vs 0) 34) j = w_ei w2 (w_ar ws (n_v vs 0) 34) j := el_kp s2.1 r13 cr_0_34 (by decide)
  have hK_0_34 := elq_61 hD hth cr_0_34
  have hE_0_35_1 : ∀ j : Int, w_ei ws (w_ar ws (n_v vs 0) 35) j = w_ei w1 (w_ar ws (n_v vs 0) 35) j := el_kp s1.1 r17 cr_0_35 (by decide)
  have hE_0_35_2 : ∀ j : Int, w_ei w1 (w_ar ws (n_v vs 0) 35) j = w_ei w2 (w_ar ws (n_v vs 0) 35) j := el_kp s2.1 r13 cr_0_35 (by decide)
  have hK_0_35 := elq_72 hD hth cr_0_35
  have hE_0_36_1 : ∀ j : Int, 0 ≤ j → (j = v_iv (n_v vs 1) → w_ei ws (w_ar ws (n_v vs 0) 36) j = v_iv (n_v vs 20)) ∧ (j ≠ v_iv (n_v vs 1) → w_ei ws (w_ar ws (n_v vs 0) 36) j = w_ei w1 (w_ar ws (n_v vs 0) 36) j) := fun j hj => ⟨fun h => by unfold w_ei; rw [s1.1, if_pos ⟨ad_17.symm, by rw [h]⟩], fun h => by unfold w_ei; rw [s1.1, if_neg (fun e => h (by have := e.2; omega))]⟩
  have hE_0_36_2 : ∀ j : Int, w_ei w1 (w_ar ws (n_v vs 0) 36) j = w_ei w2 (w_ar ws (n_v vs 0) 36) j := el_kp s2.1 r13 cr_0_36 (by decide)
  have hK_0_36 := elq_97 hD hth cr_0_36
  have hE_0_37_1 : ∀ j : Int, w_ei ws (w_ar ws (n_v vs 0) 37) j = w_ei w1 (w_ar ws (n_v vs 0) 37) j := el_kp s1.1 r17 cr_0_37 (by decide)
  have hE_0_37_2 : ∀ j : Int, 0 ≤ j → (j = v_iv (n_v vs 16) → w_ei w1 (w_ar ws (n_v vs 0) 37) j = v_iv (n_v vs 2)) ∧ (j ≠ v_iv (n_v vs 16) → w_ei w1 (w_ar ws (n_v vs 0) 37) j = w_ei w2 (w_ar ws (n_v vs 0) 37) j) := fun j hj => ⟨fun h => by unfold w_ei; rw [s2.1, if_pos ⟨ad_13.symm, by rw [h]⟩], fun h => by unfold w_ei; rw [s2.1, if_neg (fun e => h (by have := e.2; omega))]⟩
  have hK_0_37 := elq_98 hD hth cr_0_37
  have kz_0_31 := fdq_145 hD hth r0
  have kz_0_32 := fdq_140 hD hth r0
  have nf0 : fc_1 PRD (20, [0], [60, 2, 5, 261, 31, 32, 33, 34, 35, 36, 37]) ws (vs) := ⟨nf_in hl rfl, sgq_691 (vc_Mo_putAt_at_g4_2_0 (v_iv (n_v vs 1)) (v_iv (n_v vs 2)) (v_iv (n_v vs 4)) (v_iv (n_v vs 5)) (v_iv (n_v vs 6)) (v_iv (n_v vs 7)) (v_iv (n_v vs 9)) (v_iv (n_v vs 10)) (v_iv (n_v vs 11)) (v_iv (n_v vs 12)) (v_iv (n_v vs 14)) (v_iv (n_v vs 15)) (v_iv (n_v vs 16)) (v_iv (n_v vs 18)) (v_iv (n_v vs 19)) (v_iv (n_v vs 20)) (w_ei w1 (w_ar ws (n_v vs 0) 36)) (w_ei w2 (w_ar ws (n_v vs 0) 33)) (w_ei w2 (w_ar ws (n_v vs 0) 34)) (w_ei w2 (w_ar ws (n_v vs 0) 35)) (w_ei w2 (w_ar ws (n_v vs 0) 36)) (w_ei w2 (w_ar ws (n_v vs 0) 37)) (w_fi w2 (n_v vs 0) 31) (w_fi w2 (n_v vs 0) 32) (w_fi ws (n_v vs 0) 31) (w_fi w1 (n_v vs 0) 31) (w_fi ws (n_v vs 0) 32) (w_fi w1 (n_v vs 0) 32) (w_ei ws (w_ar ws (n_v vs 0) 33)) (w_ei w1 (w_ar ws (n_v vs 0) 33)) (w_ei ws (w_ar ws (n_v vs 0) 34)) (w_ei w1 (w_ar ws (n_v vs 0) 34)) (w_ei ws (w_ar ws (n_v vs 0) 35)) (w_ei w1 (w_ar ws (n_v vs 0) 35)) (w_ei ws (w_ar ws (n_v vs 0) 36)) (w_ei ws (w_ar ws (n_v vs 0) 37)) (w_ei w1 (w_ar ws (n_v vs 0) 37)) k1 k2 k4 k5 k6 k7 k9 k10 k11 k12 k14 k15 k16 k18 k19 k20 d0 d1 d2 d3 d4 d5 d6 d7 (shm_12 f4) h5 (shm_12 f8) f9 (shm_24 f11) f12 fe_0_31_1 fe_0_32_1 fe_0_31_2 fe_0_32_2 hE_0_33_1 hE_0_33_2 hK_0_33 hE_0_34_1 hE_0_34_2 hK_0_34 hE_0_35_1 hE_0_35_2 hK_0_35 hE_0_36_1 hE_0_36_2 hK_0_36 hE_0_37_1 hE_0_37_2 hK_0_37 kz_0_31 kz_0_32)⟩
  refine ⟨(fun _ h => (by cases h)), [], trivial, ?_, (fun _ h => (by cases h))⟩
  rw [List.append_nil]
  exact List.forall_mem_cons.mpr ⟨⟨show (20 : Nat) < 100 from by decide, nf0⟩, (fun _ h => (by cases h))⟩
set_option maxHeartbeats 4000000 in
theorem vc_Mo_putAt_at_g4_3_0 (x1 : Int) (x2 : Int) (x4 : Int) (x5 : Int) (x6 : Int) (x7 : Int) (x9 : Int) (x10 : Int) (x11 : Int) (x12 : Int) (x14 : Int) (x15 : Int) (x16 : Int) (x17 : Int) (x18 : Int) (x19 : Int) (x20 : Int) (x21 : Int) (x22 : Int) (x23 : Int) (rot_1 : Int → Int) (pt_1 : Int → Int) (ph_1 : Int → Int) (alive_1 : Int → Int) (rotMany_1 : Int → Int) (pn_1 : Int) (pm_1 : Int) (pn_0 : Int) (pm_0 : Int) (pt_0 : Int → Int) (ph_0 : Int → Int) (alive_0 : Int → Int) (rotMany_0 : Int → Int) (rot_0 : Int → Int) (k1 : 0 ≤ x1 ∧ x1 ≤ 24) (k2 : 0 ≤ x2 ∧ x2 ≤ 79) (k4 : 0 ≤ x4 ∧ x4 ≤ 24) (k5 : 0 ≤ x5 ∧ x5 ≤ 24) (k6 : 0 ≤ x6 ∧ x6 ≤ 159) (k7 : 0 ≤ x7 ∧ x7 ≤ 159) (k9 : 0 ≤ x9 ∧ x9 ≤ 24) (k10 : 0 ≤ x10 ∧ x10 ≤ 79) (k11 : 0 ≤ x11 ∧ x11 ≤ 79) (k12 : 1 ≤ x12 ∧ x12 ≤ 80) (k14 : 80 ≤ x14 ∧ x14 ≤ 80) (k15 : 0 ≤ x15 ∧ x15 ≤ 1920) (k16 : 1 ≤ x16 ∧ x16 ≤ 2000) (k17 : 80 ≤ x17 ∧ x17 ≤ 80) (k18 : 0 ≤ x18 ∧ x18 ≤ 1920) (k19 : 1 ≤ x19 ∧ x19 ≤ 2000) (k20 : 1 ≤ x20 ∧ x20 ≤ 1) (k21 : 0 ≤ x21 ∧ x21 ≤ 1999) (k22 : 0 ≤ x22 ∧ x22 ≤ 79) (k23 : 0 ≤ x23 ∧ x23 ≤ 79) (d0 : x12 + (-1) ≤ x23 ∧ x23 ≤ x12 + (-1)) (d1 : x11 + 0 ≤ x23 ∧ x23 ≤ x11 + 4294967296) (d2 : x19 + (-1) ≤ x21 ∧ x21 ≤ x19 + (-1)) (d3 : x12 + (-1) ≤ x21 ∧ x21 ≤ x12 + 1919) (d4 : x11 + 0 ≤ x21 ∧ x21 ≤ x11 + 4294967296) (d5 : x18 + 0 ≤ x21 ∧ x21 ≤ x18 + 79) (d6 : x12 + 0 ≤ x19 ∧ x19 ≤ x12 + 1920) (d7 : x11 + 1 ≤ x19 ∧ x19 ≤ x11 + 4294967296) (d8 : x18 + 1 ≤ x19 ∧ x19 ≤ x18 + 80) (d9 : x12 + 0 ≤ x16 ∧ x16 ≤ x12 + 1920) (d10 : x11 + 1 ≤ x16 ∧ x16 ≤ x11 + 4294967296) (d11 : x15 + 1 ≤ x16 ∧ x16 ≤ x15 + 80) (d12 : x11 + 1 ≤ x12 ∧ x12 ≤ x11 + 4294967296) (d13 : x9 + (-4294967296) ≤ x1 ∧ x1 ≤ x9 + 0) (d14 : x10 + (-4294967296) ≤ x2 ∧ x2 ≤ x10 + 0) (d15 : x1 + (-4294967296) ≤ x9 ∧ x9 ≤ x1 + 0) (d16 : x2 + (-4294967296) ≤ x10 ∧ x10 ≤ x2 + 0) (f0 : x23 = x12 + (-1)) (h5 : x22 = rot_1 (x21)) (f6 : x21 = x19 - x20) (f7 : x19 = x18 + x12) (f8 : x18 = 80 * x1) (f10 : x16 = x15 + x12) (f11 : x15 = 80 * x1) (f12 : x11 < x12) (f13 : PLd (pn_1) (pm_1) (pt_1) (ph_1) (alive_1) (rotMany_1) (rot_1) (x1) (x2) (x11) (x12) (x4) (x5) (x6) (x7)) (fe_0_31_1 : pn_0 = pn_1) (fe_0_32_1 : pm_0 = pm_1) (hE_0_33_1 : ∀ j : Int, pt_0 j = pt_1 j) (hK_0_33 : ∀ j : Int, 0 ≤ j → j < 80 → 0 ≤ pt_0 j ∧ pt_0 j ≤ 24) (hE_0_34_1 : ∀ j : Int, ph_0 j = ph_1 j) (hK_0_34 : ∀ j : Int, 0 ≤ j → j < 80 → 0 ≤ ph_0 j ∧ ph_0 j ≤ 24) (hE_0_35_1 : ∀ j : Int, alive_0 j = alive_1 j) (hK_0_35 : ∀ j : Int, 0 ≤ j → j < 80 → 0 ≤ alive_0 j ∧ alive_0 j ≤ 1) (hE_0_36_1 : ∀ j : Int, rotMany_0 j = rotMany_1 j) (hK_0_36 : ∀ j : Int, 0 ≤ j → j < 26 → 0 ≤ rotMany_0 j ∧ rotMany_0 j ≤ 80) (hE_0_37_1 : ∀ j : Int, 0 ≤ j → (j = x16 → rot_0 j = x22) ∧ (j ≠ x16 → rot_0 j = rot_1 j)) (hK_0_37 : ∀ j : Int, 0 ≤ j → j < 2080 → 0 ≤ rot_0 j ∧ rot_0 j ≤ 79) (kz_0_31 : 0 ≤ pn_0 ∧ pn_0 ≤ 25) (kz_0_32 : 0 ≤ pm_0 ∧ pm_0 ≤ 80) : PLd (pn_0) (pm_0) (pt_0) (ph_0) (alive_0) (rotMany_0) (rot_0) (x1) (x2) (x11) (x23) (x4) (x5) (x6) (x7) := by
  subst fe_0_31_1
  subst fe_0_32_1
  have e_hE_0_33_1 := funext hE_0_33_1; subst e_hE_0_33_1
  have e_hE_0_34_1 := funext hE_0_34_1; subst e_hE_0_34_1
  have e_hE_0_35_1 := funext hE_0_35_1; subst e_hE_0_35_1
  have e_hE_0_36_1 := funext hE_0_36_1; subst e_hE_0_36_1
  first
    | exact pal_start ‹PAd _ _ _ _ _ _ _ _ _ _ _ _ _ _› (by omega)
    | exact pal_step ‹PLd _ _ _ _ _ _ _ _ _ _ _ _ _ _ _› (by omega) (by omega) (by assumption) (by omega) (by assumption) (by omega)
def o_Mo_putAt_at_g4_3 : or_T := (8, 24, [(0, (2, 0, 0, [165])), (1, (0, 0, 24, [])), (2, (0, 0, 79, [])), (4, (0, 0, 24, [])), (5, (0, 0, 24, [])), (6, (0, 0, 159, [])), (7, (0, 0, 159, [])), (9, (0, 0, 24, [])), (10, (0, 0, 79, [])), (11, (0, 0, 79, [])), (12, (0, 1, 80, [])), (13, (2, 0, 0, [184])), (14, (0, 80, 80, [])), (15, (0, 0, 1920, [])), (16, (0, 1, 2000, [])), (17, (0, 80, 80, [])), (18, (0, 0, 1920, [])), (19, (0, 1, 2000, [])), (20, (0, 1, 1, [])), (21, (0, 0, 1999, [])), (22, (0, 0, 79, [])), (23, (0, 0, 79, []))], [(6, [23, 12], [-1]), (24, [0, 8], []), (24, [1, 9], []), (24, [2, 10], []), (100, [13, 16, 22], []), (10, [22, 13, 21], []), (2, [21, 19, 20], []), (1, [19, 18, 12], []), (3, [18, 17, 9], []), (9, [13, 8], [37]), (1, [16, 15, 12], []), (3, [15, 14, 9], []), (7, [12, 11], [4]), (20, [8, 9, 10, 11, 12, 4, 5, 6, 7], [60, 2, 5, 258, 31, 32, 33, 34, 35, 36, 37])], [], [], [(20, [8, 9, 10, 11, 23, 4, 5, 6, 7], [60, 2, 5, 258, 31, 32, 33, 34, 35, 36, 37])], [], [(23, 12, -1, -1), (23, 11, 0, 4294967296), (21, 19, -1, -1), (21, 12, -1, 1919), (21, 11, 0, 4294967296), (21, 18, 0, 79), (19, 12, 0, 1920), (19, 11, 1, 4294967296), (19, 18, 1, 80), (16, 12, 0, 1920), (16, 11, 1, 4294967296), (16, 15, 1, 80), (12, 11, 1, 4294967296), (1, 9, -4294967296, 0), (2, 10, -4294967296, 0), (9, 1, -4294967296, 0), (10, 2, -4294967296, 0)])
theorem oo_Mo_putAt_at_g4_3 {kA : Nat → ClassId} : or_ok PRD kA GG o_Mo_putAt_at_g4_3 := by
  refine or_mk fun A ta ws vs hD hth hl => ?_
  intro t0 r0 t1 k1 t2 k2 t4 k4 t5 k5 t6 k6 t7 k7 t9 k9 t10 k10 t11 k11 t12 k12 t13 r13 t14 k14 t15 k15 t16 k16 t17 k17 t18 k18 t19 k19 t20 k20 t21 k21 t22 k22 t23 k23 d0 d1 d2 d3 d4 d5 d6 d7 d8 d9 d10 d11 d12 d13 d14 d15 d16 f0 f1 f2 f3 ta1 w1 le1 s1 f5 f6 f7 f8 f9 f10 f11 f12 f13
  replace f0 := shm_186 f0
  replace f1 := shm_5 f1
  replace f2 := shm_5 f2
  replace f3 := shm_5 f3
  have s1 : (∀ b j, w_el ws b j = if b = v_ad (n_v vs 13) ∧ j = (v_iv (n_v vs 16)).toNat then v_iv (n_v vs 22) else w_el w1 b j) ∧ ∀ b k, w_fd ws b k = w_fd w1 b k := s1.2
  replace f5 := shm_107 f5
  replace f6 := shm_14 f6
  replace f7 := shm_12 f7
  replace f8 := shm_38 f8
  rw [show v_iv (n_v vs 17) = 80 from by omega] at f8
  replace f9 := shm_687 f9
  replace f10 := shm_12 f10
  replace f11 := shm_38 f11
  rw [show v_iv (n_v vs 14) = 80 from by omega] at f11
  replace f12 := shm_21 f12
  replace f13 := shm_696 f13
  have q8 : n_v vs 8 = n_v vs 0 := f1.symm
  have q9 : n_v vs 9 = n_v vs 1 := f2.symm
  have q10 : n_v vs 10 = n_v vs 2 := f3.symm
  simp only [q9, q8, q10] at f8 f9 f11 f13
  have ar_0_33_1 : w_ar w1 (n_v vs 0) 33 = w_ar ws (n_v vs 0) 33 := congrArg v_ad (s1.2 _ _).symm
  have cr_0_33 := fdq_117 hD hth r0
  have ar_0_34_1 : w_ar w1 (n_v vs 0) 34 = w_ar ws (n_v vs 0) 34 := congrArg v_ad (s1.2 _ _).symm
  have cr_0_34 := fdq_118 hD hth r0
  have ar_0_35_1 : w_ar w1 (n_v vs 0) 35 = w_ar ws (n_v vs 0) 35 := congrArg v_ad (s1.2 _ _).symm
  have cr_0_35 := fdq_132 hD hth r0
  have ar_0_36_1 : w_ar w1 (n_v vs 0) 36 = w_ar ws (n_v vs 0) 36 := congrArg v_ad (s1.2 _ _).symm
  have cr_0_36 := fdq_167 hD hth r0
  have ar_0_37_1 : w_ar w1 (n_v vs 0) 37 = w_ar ws (n_v vs 0) 37 := congrArg v_ad (s1.2 _ _).symm
  have cr_0_37 := fdq_168 hD hth r0
  have ad_13 : v_ad (n_v vs 13) = w_ar ws (n_v vs 0) 37 := (congrArg v_ad f9).trans ar_0_37_1
  simp only [ad_13] at f5
  have h5 : v_iv (n_v vs 22) = w_ei w1 (w_ar ws (n_v vs 0) 37) (v_iv (n_v vs 21)) := f5
  simp only [ar_0_33_1, ar_0_34_1, ar_0_35_1, ar_0_36_1, ar_0_37_1] at f13
  have fe_0_31_1 : w_fi ws (n_v vs 0) 31 = w_fi w1 (n_v vs 0) 31 := congrArg v_iv (s1.2 _ _)
  have fe_0_32_1 : w_fi ws (n_v vs 0) 32 = w_fi w1 (n_v vs 0) 32 := congrArg v_iv (s1.2 _ _)
  have hE_0_33_1 : ∀ j : Int, w_ei ws (w_ar ws (n_v vs 0) 33) j = w_ei w1 (w_ar ws (n_v vs 0) 33) j := el_kp s1.1 r13 cr_0_33 (by decide)
  have hK_0_33 := elq_60 hD hth cr_0_33
  have hE_0_34_1 : ∀ j : Int, w_ei ws (w_ar ws (n_v vs 0) 34) j = w_ei w1 (w_ar ws (n_v vs 0) 34) j := el_kp s1.1 r13 cr_0_34 (by decide)
  have hK_0_34 := elq_61 hD hth cr_0_34
  have hE_0_35_1 : ∀ j : Int, w_ei ws (w_ar ws (n_v vs 0) 35) j = w_ei w1 (w_ar ws (n_v vs 0) 35) j := el_kp s1.1 r13 cr_0_35 (by decide)
  have hK_0_35 := elq_72 hD hth cr_0_35
  have hE_0_36_1 : ∀ j : Int, w_ei ws (w_ar ws (n_v vs 0) 36) j = w_ei w1 (w_ar ws (n_v vs 0) 36) j := el_kp s1.1 r13 cr_0_36 (by decide)
  have hK_0_36 := elq_97 hD hth cr_0_36
  have hE_0_37_1 : ∀ j : Int, 0 ≤ j → (j = v_iv (n_v vs 16) → w_ei ws (w_ar ws (n_v vs 0) 37) j = v_iv (n_v vs 22)) ∧ (j ≠ v_iv (n_v vs 16) → w_ei ws (w_ar ws (n_v vs 0) 37) j = w_ei w1 (w_ar ws (n_v vs 0) 37) j) := fun j hj => ⟨fun h => by unfold w_ei; rw [s1.1, if_pos ⟨ad_13.symm, by rw [h]⟩], fun h => by unfold w_ei; rw [s1.1, if_neg (fun e => h (by have := e.2; omega))]⟩
  have hK_0_37 := elq_98 hD hth cr_0_37
  have kz_0_31 := fdq_145 hD hth r0
  have kz_0_32 := fdq_140 hD hth r0
  have nf0 : fc_1 PRD (20, [8, 9, 10, 11, 23, 4, 5, 6, 7], [60, 2, 5, 258, 31, 32, 33, 34, 35, 36, 37]) ws (vs) := by
    refine ⟨nf_in hl rfl, sgq_696 ?_⟩
    · show PLd (w_fi ws (n_v vs 8) 31) (w_fi ws (n_v vs 8) 32) (w_ei ws (w_ar ws (n_v vs 8) 33)) (w_ei ws (w_ar ws (n_v vs 8) 34)) (w_ei ws (w_ar ws (n_v vs 8) 35)) (w_ei ws (w_ar ws (n_v vs 8) 36)) (w_ei ws (w_ar ws (n_v vs 8) 37)) (v_iv (n_v vs 9)) (v_iv (n_v vs 10)) (v_iv (n_v vs 11)) (v_iv (n_v vs 23)) (v_iv (n_v vs 4)) (v_iv (n_v vs 5)) (v_iv (n_v vs 6)) (v_iv (n_v vs 7))
      simp only [q8, q9, q10]
      exact vc_Mo_putAt_at_g4_3_0 (v_iv (n_v vs 1)) (v_iv (n_v vs 2)) (v_iv (n_v vs 4)) (v_iv (n_v vs 5)) (v_iv (n_v vs 6)) (v_iv (n_v vs 7)) (v_iv (n_v vs 9)) (v_iv (n_v vs 10)) (v_iv (n_v vs 11)) (v_iv (n_v vs 12)) (v_iv (n_v vs 14)) (v_iv (n_v vs 15)) (v_iv (n_v vs 16)) (v_iv (n_v vs 17)) (v_iv (n_v vs 18)) (v_iv (n_v vs 19)) (v_iv (n_v vs 20)) (v_iv (n_v vs 21)) (v_iv (n_v vs 22)) (v_iv (n_v vs 23)) (w_ei w1 (w_ar ws (n_v vs 0) 37)) (w_ei w1 (w_ar ws (n_v vs 0) 33)) (w_ei w1 (w_ar ws (n_v vs 0) 34)) (w_ei w1 (w_ar ws (n_v vs 0) 35)) (w_ei w1 (w_ar ws (n_v vs 0) 36)) (w_fi w1 (n_v vs 0) 31) (w_fi w1 (n_v vs 0) 32) (w_fi ws (n_v vs 0) 31) (w_fi ws (n_v vs 0) 32) (w_ei ws (w_ar ws (n_v vs 0) 33)) (w_ei ws (w_ar ws (n_v vs 0) 34)) (w_ei ws (w_ar ws (n_v vs 0) 35)) (w_ei ws (w_ar ws (n_v vs 0) 36)) (w_ei ws (w_ar ws (n_v vs 0) 37)) k1 k2 k4 k5 k6 k7 k9 k10 k11 k12 k14 k15 k16 k17 k18 k19 k20 k21 k22 k23 d0 d1 d2 d3 d4 d5 d6 d7 d8 d9 d10 d11 d12 d13 d14 d15 d16 f0 h5 f6 f7 f8 f10 f11 f12 f13 fe_0_31_1 fe_0_32_1 hE_0_33_1 hK_0_33 hE_0_34_1 hK_0_34 hE_0_35_1 hK_0_35 hE_0_36_1 hK_0_36 hE_0_37_1 hK_0_37 kz_0_31 kz_0_32
  refine ⟨(fun _ h => (by cases h)), [], trivial, ?_, (fun _ h => (by cases h))⟩
  rw [List.append_nil]
  exact List.forall_mem_cons.mpr ⟨⟨show (20 : Nat) < 100 from by decide, nf0⟩, (fun _ h => (by cases h))⟩
def n_Mo_putAt_at_g4_an : List an_T := [(8, [(0, (2, 0, 0, [165])), (1, (0, 0, 24, [])), (2, (0, 0, 79, [])), (3, (0, 0, 79, [])), (4, (0, 0, 80, []))], [], (0, 0), [(0, 0, 99992), (2, 12, 0), (0, 0, 100000)], [(1, 9, (Int.negSucc 999999999999), 0), (2, 10, (Int.negSucc 999999999999), 0), (3, 11, (Int.negSucc 999999999999), 0), (9, 1, (Int.negSucc 999999999999), 0), (10, 2, (Int.negSucc 999999999999), 0), (11, 3, (Int.negSucc 999999999999), 0)], [], [(2, 0, 0, [165]), (0, 0, 24, []), (0, 0, 79, []), (0, 0, 79, []), (0, 0, 24, []), (0, 0, 24, []), (0, 0, 159, []), (0, 0, 159, [])], 0, [], [(20, [8, 9, 10, 11, 12, 4, 5, 6, 7], [60, 2, 5, 258, 31, 32, 33, 34, 35, 36, 37]), (24, [0, 8], []), (24, [1, 9], []), (24, [2, 10], [])])]
def t_Mo_putAt_at_g4_ct : ct_L := []
set_option maxRecDepth 100000 in
theorem c_Mo_putAt_at_g4 {l : Launch} {D : va_G} {kA : Nat → ClassId} : ct_ok PRD l D kA GG y_Mo_putAt_at_g4 z_Mo_putAt_at_g4 e_Mo_putAt_at_g4 := chk_all_ok (FT := [(66, 13, 36), (69, 13, 37)]) (PT := []) (CT := t_Mo_putAt_at_g4_ct) (KT := []) (NT := []) (AN := n_Mo_putAt_at_g4_an) (OT := [o_Mo_putAt_at_g4_0, o_Mo_putAt_at_g4_1, o_Mo_putAt_at_g4_2, o_Mo_putAt_at_g4_3]) 3 200 (List.forall_mem_cons.mpr ⟨oo_Mo_putAt_at_g4_0, List.forall_mem_cons.mpr ⟨oo_Mo_putAt_at_g4_1, List.forall_mem_cons.mpr ⟨oo_Mo_putAt_at_g4_2, List.forall_mem_cons.mpr ⟨oo_Mo_putAt_at_g4_3, List.forall_mem_nil _⟩⟩⟩⟩) (by decide +kernel) ⟨List.forall_mem_cons.mpr ⟨gf_Mo_66, List.forall_mem_cons.mpr ⟨gf_Mo_69, List.forall_mem_nil _⟩⟩, List.forall_mem_nil _, List.forall_mem_nil _, List.forall_mem_nil _, List.forall_mem_nil _, GG_pl⟩ (by decide +kernel)
set_option maxHeartbeats 4000000 in
theorem vc_Mo_px_0_0 (x1 : Int) (x3 : Int) (x4 : Int) (x5 : Int) (x6 : Int) (x7 : Int) (nodeX_0 : Int → Int) (g0_0 : Int) (k1 : 0 ≤ x1 ∧ x1 ≤ 23) (k3 : 24 ≤ x3 ∧ x3 ≤ 24) (k4 : 0 ≤ x4 ∧ x4 ≤ 3) (k5 : 0 ≤ x5 ∧ x5 ≤ 72) (k6 : 0 ≤ x6 ∧ x6 ≤ 95) (k7 : (-300000000) ≤ x7 ∧ x7 ≤ 300000000) (d0 : x1 + 0 ≤ x6 ∧ x6 ≤ x1 + 72) (d1 : x5 + 0 ≤ x6 ∧ x6 ≤ x5 + 23) (h0 : x7 = nodeX_0 (x6)) (f1 : x6 = x5 + x1) (f2 : x5 = 24 * x4) (g3 : x4 = g0_0) (hK_0_62 : ∀ j : Int, 0 ≤ j → j < 96 → (-300000000) ≤ nodeX_0 j ∧ nodeX_0 j ≤ 300000000) (kz_0_139 : 0 ≤ g0_0 ∧ g0_0 ≤ 3) : x7 = nodeX_0 (((24 * g0_0) + x1)) := by
  first | assumption | (clear hK_0_62; omega) | omega | grind
def o_Mo_px_0 : or_T := (14, 8, [(0, (2, 0, 0, [165])), (1, (0, 0, 23, [])), (3, (0, 24, 24, [])), (4, (0, 0, 3, [])), (5, (0, 0, 72, [])), (6, (0, 0, 95, [])), (7, (0, -300000000, 300000000, []))], [(10, [7, 2, 6], []), (1, [6, 5, 1], []), (3, [5, 3, 4], []), (9, [4, 0], [139]), (9, [2, 0], [62])], [], [], [(20, [7, 0, 1], [50, 1, 1, 1139, 1062, 1, 2, 1, 0, 3, 1, 62, 4, 7, 6, 2, 0, 24, 2, 1, 139, 1, 2])], [], [(6, 1, 0, 72), (6, 5, 0, 23)])
theorem oo_Mo_px_0 {kA : Nat → ClassId} : or_ok PRD kA GG o_Mo_px_0 := by
  refine or_mk fun A ta ws vs hD hth hl => ?_
  intro t0 r0 t1 k1 t3 k3 t4 k4 t5 k5 t6 k6 t7 k7 d0 d1 f0 f1 f2 f3 f4
  replace f0 := shm_107 f0
  replace f2 := shm_38 f2
  rw [show v_iv (n_v vs 3) = 24 from by omega] at f2
  replace f3 := shm_681 f3
  replace f4 := shm_697 f4
  have cr_0_62 := fdq_173 hD hth r0
  have ad_2 : v_ad (n_v vs 2) = w_ar ws (n_v vs 0) 62 := congrArg v_ad f4
  simp only [ad_2] at f0
  have h0 : v_iv (n_v vs 7) = w_ei ws (w_ar ws (n_v vs 0) 62) (v_iv (n_v vs 6)) := f0
  have g3 : v_iv (n_v vs 4) = w_fi ws (n_v vs 0) 139 := congrArg v_iv f3
  have hK_0_62 := elq_102 hD hth cr_0_62
  have kz_0_139 := fdq_172 hD hth r0
  have nf0 : fc_1 PRD (20, [7, 0, 1], [50, 1, 1, 1139, 1062, 1, 2, 1, 0, 3, 1, 62, 4, 7, 6, 2, 0, 24, 2, 1, 139, 1, 2]) ws (vs) := ⟨nf_in hl rfl, sgq_698 (vc_Mo_px_0_0 (v_iv (n_v vs 1)) (v_iv (n_v vs 3)) (v_iv (n_v vs 4)) (v_iv (n_v vs 5)) (v_iv (n_v vs 6)) (v_iv (n_v vs 7)) (w_ei ws (w_ar ws (n_v vs 0) 62)) (w_fi ws (n_v vs 0) 139) k1 k3 k4 k5 k6 k7 d0 d1 h0 (shm_12 f1) f2 g3 hK_0_62 kz_0_139)⟩
  refine ⟨(fun _ h => (by cases h)), [], trivial, ?_, (fun _ h => (by cases h))⟩
  rw [List.append_nil]
  exact List.forall_mem_cons.mpr ⟨⟨show (20 : Nat) < 100 from by decide, nf0⟩, (fun _ h => (by cases h))⟩
def n_Mo_px_an : List an_T := []
def t_Mo_px_ct : ct_L := []
set_option maxRecDepth 100000 in
theorem c_Mo_px {l : Launch} {D : va_G} {kA : Nat → ClassId} : ct_ok PRD l D kA GG y_Mo_px z_Mo_px e_Mo_px := chk_all_ok (FT := [(123, 13, 62), (1020, 13, 139)]) (PT := []) (CT := t_Mo_px_ct) (KT := []) (NT := []) (AN := n_Mo_px_an) (OT := [o_Mo_px_0]) 0 200 (List.forall_mem_cons.mpr ⟨oo_Mo_px_0, List.forall_mem_nil _⟩) (by decide +kernel) ⟨List.forall_mem_cons.mpr ⟨gf_Mo_123, List.forall_mem_cons.mpr ⟨gf_Mo_1020, List.forall_mem_nil _⟩⟩, List.forall_mem_nil _, List.forall_mem_nil _, List.forall_mem_nil _, List.forall_mem_nil _, GG_pl⟩ (by decide +kernel)
set_option maxHeartbeats 4000000 in
theorem vc_Mo_py_0_0 (x1 : Int) (x3 : Int) (x4 : Int) (x5 : Int) (x6 : Int) (x7 : Int) (nodeY_0 : Int → Int) (g0_0 : Int) (k1 : 0 ≤ x1 ∧ x1 ≤ 23) (k3 : 24 ≤ x3 ∧ x3 ≤ 24) (k4 : 0 ≤ x4 ∧ x4 ≤ 3) (k5 : 0 ≤ x5 ∧ x5 ≤ 72) (k6 : 0 ≤ x6 ∧ x6 ≤ 95) (k7 : (-300000000) ≤ x7 ∧ x7 ≤ 300000000) (d0 : x1 + 0 ≤ x6 ∧ x6 ≤ x1 + 72) (d1 : x5 + 0 ≤ x6 ∧ x6 ≤ x5 + 23) (h0 : x7 = nodeY_0 (x6)) (f1 : x6 = x5 + x1) (f2 : x5 = 24 * x4) (g3 : x4 = g0_0) (hK_0_63 : ∀ j : Int, 0 ≤ j → j < 96 → (-300000000) ≤ nodeY_0 j ∧ nodeY_0 j ≤ 300000000) (kz_0_139 : 0 ≤ g0_0 ∧ g0_0 ≤ 3) : x7 = nodeY_0 (((24 * g0_0) + x1)) := by
  first | assumption | (clear hK_0_63; omega) | omega | grind
def o_Mo_py_0 : or_T := (14, 8, [(0, (2, 0, 0, [165])), (1, (0, 0, 23, [])), (3, (0, 24, 24, [])), (4, (0, 0, 3, [])), (5, (0, 0, 72, [])), (6, (0, 0, 95, [])), (7, (0, -300000000, 300000000, []))], [(10, [7, 2, 6], []), (1, [6, 5, 1], []), (3, [5, 3, 4], []), (9, [4, 0], [139]), (9, [2, 0], [63])], [], [], [(20, [7, 0, 1], [50, 1, 1, 1139, 1063, 1, 2, 1, 0, 3, 1, 63, 4, 7, 6, 2, 0, 24, 2, 1, 139, 1, 2])], [], [(6, 1, 0, 72), (6, 5, 0, 23)])
theorem oo_Mo_py_0 {kA : Nat → ClassId} : or_ok PRD kA GG o_Mo_py_0 := by
  refine or_mk fun A ta ws vs hD hth hl => ?_
  intro t0 r0 t1 k1 t3 k3 t4 k4 t5 k5 t6 k6 t7 k7 d0 d1 f0 f1 f2 f3 f4
  replace f0 := shm_107 f0
  replace f2 := shm_38 f2
  rw [show v_iv (n_v vs 3) = 24 from by omega] at f2
  replace f3 := shm_681 f3
  replace f4 := shm_699 f4
  have cr_0_63 := fdq_174 hD hth r0
  have ad_2 : v_ad (n_v vs 2) = w_ar ws (n_v vs 0) 63 := congrArg v_ad f4
  simp only [ad_2] at f0
  have h0 : v_iv (n_v vs 7) = w_ei ws (w_ar ws (n_v vs 0) 63) (v_iv (n_v vs 6)) := f0
  have g3 : v_iv (n_v vs 4) = w_fi ws (n_v vs 0) 139 := congrArg v_iv f3
  have hK_0_63 := elq_103 hD hth cr_0_63
  have kz_0_139 := fdq_172 hD hth r0
  have nf0 : fc_1 PRD (20, [7, 0, 1], [50, 1, 1, 1139, 1063, 1, 2, 1, 0, 3, 1, 63, 4, 7, 6, 2, 0, 24, 2, 1, 139, 1, 2]) ws (vs) := ⟨nf_in hl rfl, sgq_700 (vc_Mo_py_0_0 (v_iv (n_v vs 1)) (v_iv (n_v vs 3)) (v_iv (n_v vs 4)) (v_iv (n_v vs 5)) (v_iv (n_v vs 6)) (v_iv (n_v vs 7)) (w_ei ws (w_ar ws (n_v vs 0) 63)) (w_fi ws (n_v vs 0) 139) k1 k3 k4 k5 k6 k7 d0 d1 h0 (shm_12 f1) f2 g3 hK_0_63 kz_0_139)⟩
  refine ⟨(fun _ h => (by cases h)), [], trivial, ?_, (fun _ h => (by cases h))⟩
  rw [List.append_nil]
  exact List.forall_mem_cons.mpr ⟨⟨show (20 : Nat) < 100 from by decide, nf0⟩, (fun _ h => (by cases h))⟩
def n_Mo_py_an : List an_T := []
def t_Mo_py_ct : ct_L := []
set_option maxRecDepth 100000 in
theorem c_Mo_py {l : Launch} {D : va_G} {kA : Nat → ClassId} : ct_ok PRD l D kA GG y_Mo_py z_Mo_py e_Mo_py := chk_all_ok (FT := [(126, 13, 63), (1020, 13, 139)]) (PT := []) (CT := t_Mo_py_ct) (KT := []) (NT := []) (AN := n_Mo_py_an) (OT := [o_Mo_py_0]) 0 200 (List.forall_mem_cons.mpr ⟨oo_Mo_py_0, List.forall_mem_nil _⟩) (by decide +kernel) ⟨List.forall_mem_cons.mpr ⟨gf_Mo_126, List.forall_mem_cons.mpr ⟨gf_Mo_1020, List.forall_mem_nil _⟩⟩, List.forall_mem_nil _, List.forall_mem_nil _, List.forall_mem_nil _, List.forall_mem_nil _, GG_pl⟩ (by decide +kernel)
set_option maxHeartbeats 4000000 in
theorem vc_Mo_reached_at_gb_0_r0 (x1 : Int) (x2 : Int) (x3 : Int) (x4 : Int) (x5 : Int) (x7 : Int) (x8 : Int) (x9 : Int) (x11 : Int) (x12 : Int) (x14 : Int) (x15 : Int) (x16 : Int) (x17 : Int) (x18 : Int) (bucketMany_0 : Int → Int) (bucketMany_1 : Int → Int) (costOf_2 : Int → Int) (barredPoint_2 : Int → Int) (bucket_2 : Int → Int) (bucketMany_2 : Int → Int) (wide_2 : Int) (tall_2 : Int) (wide_0 : Int) (wide_1 : Int) (tall_0 : Int) (tall_1 : Int) (costOf_0 : Int → Int) (costOf_1 : Int → Int) (bucket_0 : Int → Int) (bucket_1 : Int → Int) (barredPoint_0 : Int → Int) (barredPoint_1 : Int → Int) (k1 : 0 ≤ x1 ∧ x1 ≤ 23999) (k2 : 1 ≤ x2 ∧ x2 ≤ 999999) (k3 : 0 ≤ x3 ∧ x3 ≤ 5999) (k4 : 0 ≤ x4 ∧ x4 ≤ 1000008) (k5 : 0 ≤ x5 ∧ x5 ≤ 23999) (k7 : 2 ≤ x7 ∧ x7 ≤ 1000000) (k8 : 3 ≤ x8 ∧ x8 ≤ 3) (k9 : 0 ≤ x9 ∧ x9 ≤ 3) (k11 : 24010 ≤ x11 ∧ x11 ≤ 24010) (k12 : 0 ≤ x12 ∧ x12 ≤ 72030) (k14 : 0 ≤ x14 ∧ x14 ≤ 24009) (k15 : 0 ≤ x15 ∧ x15 ≤ 96039) (k16 : 0 ≤ x16 ∧ x16 ≤ 24009) (k17 : 1 ≤ x17 ∧ x17 ≤ 1) (k18 : 1 ≤ x18 ∧ x18 ≤ 24010) (d0 : x16 + 1 ≤ x18 ∧ x18 ≤ x16 + 1) (d1 : x14 + 0 ≤ x15 ∧ x15 ≤ x14 + 72030) (d2 : x12 + 0 ≤ x15 ∧ x15 ≤ x12 + 24009) (d3 : x2 + 1 ≤ x7 ∧ x7 ≤ x2 + 4294967296) (f0 : x18 = x16 + x17) (h1 : x16 = bucketMany_0 (x9)) (f4 : x15 = x12 + x14) (h5 : x14 = bucketMany_1 (x9)) (f6 : x12 = 24010 * x9) (f8 : x9 = x2 % 4) (f9 : bvp (x9) = bvp (x2) &&& bvp (x8)) (f12 : x2 < x7) (h13 : x7 = costOf_2 (x1)) (f14 : RTQ (wide_2) (tall_2) (barredPoint_2) (costOf_2) (bucket_2) (bucketMany_2) (x3) (x4)) (f15 : RJB (wide_2) (tall_2) (barredPoint_2) (costOf_2) (x3) (x4) (x1) (x2)) (f16 : PIV (costOf_2) (x5) (x4)) (fe_0_146_1 : wide_0 = wide_1) (fe_0_147_1 : tall_0 = tall_1) (fe_0_146_2 : wide_1 = wide_2) (fe_0_147_2 : tall_1 = tall_2) (hE_0_140_1 : ∀ j : Int, costOf_0 j = costOf_1 j) (hE_0_140_2 : ∀ j : Int, 0 ≤ j → (j = x1 → costOf_1 j = x2) ∧ (j ≠ x1 → costOf_1 j = costOf_2 j)) (hK_0_140 : ∀ j : Int, 0 ≤ j → j < 24000 → 0 ≤ costOf_0 j ∧ costOf_0 j ≤ 1000000) (hE_0_141_1 : ∀ j : Int, 0 ≤ j → (j = x15 → bucket_0 j = x1) ∧ (j ≠ x15 → bucket_0 j = bucket_1 j)) (hE_0_141_2 : ∀ j : Int, bucket_1 j = bucket_2 j) (hK_0_141 : ∀ j : Int, 0 ≤ j → j < 96040 → 0 ≤ bucket_0 j ∧ bucket_0 j ≤ 23999) (hE_0_142_1 : ∀ j : Int, bucketMany_0 j = bucketMany_1 j) (hE_0_142_2 : ∀ j : Int, bucketMany_1 j = bucketMany_2 j) (hK_0_142 : ∀ j : Int, 0 ≤ j → j < 4 → 0 ≤ bucketMany_0 j ∧ bucketMany_0 j ≤ 24009) (hE_0_143_1 : ∀ j : Int, barredPoint_0 j = barredPoint_1 j) (hE_0_143_2 : ∀ j : Int, barredPoint_1 j = barredPoint_2 j) (hK_0_143 : ∀ j : Int, 0 ≤ j → j < 6000 → 0 ≤ barredPoint_0 j ∧ barredPoint_0 j ≤ 1) (kz_0_146 : (-3999999) ≤ wide_0 ∧ wide_0 ≤ 600000023) (kz_0_147 : (-3999999) ≤ tall_0 ∧ tall_0 ≤ 600000007) : 1 ≤ x18 ∧ x18 ≤ 24001 := by
  subst fe_0_146_1
  subst fe_0_147_1
  subst fe_0_146_2
  subst fe_0_147_2
  have e_hE_0_140_1 := funext hE_0_140_1; subst e_hE_0_140_1
  have e_hE_0_141_2 := funext hE_0_141_2; subst e_hE_0_141_2
  have e_hE_0_142_1 := funext hE_0_142_1; subst e_hE_0_142_1
  have e_hE_0_142_2 := funext hE_0_142_2; subst e_hE_0_142_2
  have e_hE_0_143_1 := funext hE_0_143_1; subst e_hE_0_143_1
  have e_hE_0_143_2 := funext hE_0_143_2; subst e_hE_0_143_2
  first
    | (have h := reach_room (b := x7) (m := x14) (s := x1) (v := x2) (c := 0) ‹RT0 _ _ _ _ _ _ _› ‹RJ0 _ _ _ _ _ _ _› (by omega) (by omega) (by assumption); omega)
    | (have h := reach_room (b := x9) (m := x16) (s := x1) (v := x2) ‹RTQ _ _ _ _ _ _ _ _› ‹RJB _ _ _ _ _ _ _ _› (by omega) (by omega) (by assumption); omega)
def o_Mo_reached_at_gb_0 : or_T := (49, 19, [(0, (2, 0, 0, [165])), (1, (0, 0, 23999, [])), (2, (0, 1, 999999, [])), (3, (0, 0, 5999, [])), (4, (0, 0, 1000008, [])), (5, (0, 0, 23999, [])), (6, (2, 0, 0, [266])), (7, (0, 2, 1000000, [])), (8, (0, 3, 3, [])), (9, (0, 0, 3, [])), (10, (2, 0, 0, [267])), (11, (0, 24010, 24010, [])), (12, (0, 0, 72030, [])), (13, (2, 0, 0, [268])), (14, (0, 0, 24009, [])), (15, (0, 0, 96039, [])), (16, (0, 0, 24009, [])), (17, (0, 1, 1, [])), (18, (0, 1, 24010, []))], [(1, [18, 16, 17], []), (10, [16, 13, 9], []), (9, [13, 0], [142]), (100, [10, 15, 1], []), (1, [15, 12, 14], []), (10, [14, 13, 9], []), (3, [12, 11, 9], []), (9, [10, 0], [141]), (12, [9, 2], [4]), (16, [9, 2, 8], [0]), (100, [6, 1, 2], []), (9, [6, 0], [140]), (7, [7, 2], [4]), (10, [7, 6, 1], []), (20, [0, 3, 4], [60, 2, 4, 495, 146, 147, 143, 140, 141, 142]), (20, [0, 3, 4, 1, 2], [60, 2, 2, 498, 146, 147, 143, 140]), (20, [0, 5, 4], [60, 0, 1, 497, 140])], [(18, (0, 1, 24001, []))], [], [], [], [(18, 16, 1, 1), (15, 14, 0, 72030), (15, 12, 0, 24009), (7, 2, 1, 4294967296)])
theorem oo_Mo_reached_at_gb_0 {kA : Nat → ClassId} : or_ok PRD kA GG o_Mo_reached_at_gb_0 := by
  refine or_mk fun A ta ws vs hD hth hl => ?_
  intro t0 r0 t1 k1 t2 k2 t3 k3 t4 k4 t5 k5 t6 r6 t7 k7 t8 k8 t9 k9 t10 r10 t11 k11 t12 k12 t13 r13 t14 k14 t15 k15 t16 k16 t17 k17 t18 k18 d0 d1 d2 d3 f0 f1 f2 ta1 w1 le1 s1 f4 f5 f6 f7 f8 f9 ta2 w2 le2 s2 f11 f12 f13 f14 f15 f16
  replace f1 := shm_107 f1
  replace f2 := shm_701 f2
  have s1 : (∀ b j, w_el ws b j = if b = v_ad (n_v vs 10) ∧ j = (v_iv (n_v vs 15)).toNat then v_iv (n_v vs 1) else w_el w1 b j) ∧ ∀ b k, w_fd ws b k = w_fd w1 b k := s1.2
  replace f5 := shm_107 f5
  replace f6 := shm_38 f6
  rw [show v_iv (n_v vs 11) = 24010 from by omega] at f6
  replace f7 := shm_702 f7
  have s2 : (∀ b j, w_el w1 b j = if b = v_ad (n_v vs 6) ∧ j = (v_iv (n_v vs 1)).toNat then v_iv (n_v vs 2) else w_el w2 b j) ∧ ∀ b k, w_fd w1 b k = w_fd w2 b k := s2.2
  replace f11 := shm_703 f11
  replace f13 := shm_107 f13
  replace f14 := shm_704 f14
  replace f15 := shm_705 f15
  replace f16 := shm_706 f16
  have ar_0_140_1 : w_ar w1 (n_v vs 0) 140 = w_ar ws (n_v vs 0) 140 := congrArg v_ad (s1.2 _ _).symm
  have ar_0_140_2 : w_ar w2 (n_v vs 0) 140 = w_ar ws (n_v vs 0) 140 := by rw [← ar_0_140_1]; show v_ad (w_fd w2 _ _) = v_ad (w_fd w1 _ _); rw [s2.2]
  have cr_0_140 := fdq_175 hD hth r0
  have ar_0_141_1 : w_ar w1 (n_v vs 0) 141 = w_ar ws (n_v vs 0) 141 := congrArg v_ad (s1.2 _ _).symm
  have ar_0_141_2 : w_ar w2 (n_v vs 0) 141 = w_ar ws (n_v vs 0) 141 := by rw [← ar_0_141_1]; show v_ad (w_fd w2 _ _) = v_ad (w_fd w1 _ _); rw [s2.2]
  have cr_0_141 := fdq_176 hD hth r0
  have ar_0_142_1 : w_ar w1 (n_v vs 0) 142 = w_ar ws (n_v vs 0) 142 := congrArg v_ad (s1.2 _ _).symm
  have ar_0_142_2 : w_ar w2 (n_v vs 0) 142 = w_ar ws (n_v vs 0) 142 := by rw [← ar_0_142_1]; show v_ad (w_fd w2 _ _) = v_ad (w_fd w1 _ _); rw [s2.2]
  have cr_0_142 := fdq_177 hD hth r0
  have ar_0_143_1 : w_ar w1 (n_v vs 0) 143 = w_ar ws (n_v vs 0) 143 := congrArg v_ad (s1.2 _ _).symm
  have ar_0_143_2 : w_ar w2 (n_v vs 0) 143 = w_ar ws (n_v vs 0) 143 := by rw [← ar_0_143_1]; show v_ad (w_fd w2 _ _) = v_ad (w_fd w1 _ _); rw [s2.2]
  have cr_0_143 := fdq_178 hD hth r0
  have ad_13 : v_ad (n_v vs 13) = w_ar ws (n_v vs 0) 142 := congrArg v_ad f2
  have ad_10 : v_ad (n_v vs 10) = w_ar ws (n_v vs 0) 141 := (congrArg v_ad f7).trans ar_0_141_1
  have ad_6 : v_ad (n_v vs 6) = w_ar ws (n_v vs 0) 140 := (congrArg v_ad f11).trans ar_0_140_2
  simp only [ad_13] at f1
  have h1 : v_iv (n_v vs 16) = w_ei ws (w_ar ws (n_v vs 0) 142) (v_iv (n_v vs 9)) := f1
  simp only [ad_13] at f5
  have h5 : v_iv (n_v vs 14) = w_ei w1 (w_ar ws (n_v vs 0) 142) (v_iv (n_v vs 9)) := f5
  simp only [ad_6] at f13
  have h13 : v_iv (n_v vs 7) = w_ei w2 (w_ar ws (n_v vs 0) 140) (v_iv (n_v vs 1)) := f13
  simp only [ar_0_140_2, ar_0_141_2, ar_0_142_2, ar_0_143_2] at f14 f15 f16
  have fe_0_146_1 : w_fi ws (n_v vs 0) 146 = w_fi w1 (n_v vs 0) 146 := congrArg v_iv (s1.2 _ _)
  have fe_0_147_1 : w_fi ws (n_v vs 0) 147 = w_fi w1 (n_v vs 0) 147 := congrArg v_iv (s1.2 _ _)
  have fe_0_146_2 : w_fi w1 (n_v vs 0) 146 = w_fi w2 (n_v vs 0) 146 := congrArg v_iv (s2.2 _ _)
  have fe_0_147_2 : w_fi w1 (n_v vs 0) 147 = w_fi w2 (n_v vs 0) 147 := congrArg v_iv (s2.2 _ _)
  have hE_0_140_1 : ∀ j : Int, w_ei ws (w_ar ws (n_v vs 0) 140) j = w_ei w1 (w_ar ws (n_v vs 0) 140) j := el_kp s1.1 r10 cr_0_140 (by decide)
  have hE_0_140_2 : ∀ j : Int, 0 ≤ j → (j = v_iv (n_v vs 1) → w_ei w1 (w_ar ws (n_v vs 0) 140) j = v_iv (n_v vs 2)) ∧ (j ≠ v_iv (n_v vs 1) → w_ei w1 (w_ar ws (n_v vs 0) 140) j = w_ei w2 (w_ar ws (n_v vs 0) 140) j) := fun j hj => ⟨fun h => by unfold w_ei; rw [s2.1, if_pos ⟨ad_6.symm, by rw [h]⟩], fun h => by unfold w_ei; rw [s2.1, if_neg (fun e => h (by have := e.2; omega))]⟩
  have hK_0_140 := elq_104 hD hth cr_0_140
  have hE_0_141_1 : ∀ j : Int, 0 ≤ j → (j = v_iv (n_v vs 15) → w_ei ws (w_ar ws (n_v vs 0) 141) j = v_iv (n_v vs 1)) ∧ (j ≠ v_iv (n_v vs 15) → w_ei ws (w_ar ws (n_v vs 0) 141) j = w_ei w1 (w_ar ws (n_v vs 0) 141) j) := fun j hj => ⟨fun h => by unfold w_ei; rw [s1.1, if_pos ⟨ad_10.symm, by rw [h]⟩], fun h => by unfold w_ei; rw [s1.1, if_neg (fun e => h (by have := e.2; omega))]⟩
  have hE_0_141_2 : ∀ j : Int, w_ei w1 (w_ar ws (n_v vs 0) 141) j = w_ei w2 (w_ar ws (n_v vs 0) 141) j := el_kp s2.1 r6 cr_0_141 (by decide)
  have hK_0_141 := elq_105 hD hth cr_0_141
  have hE_0_142_1 : ∀ j : Int, w_ei ws (w_ar ws (n_v vs 0) 142) j = w_ei w1 (w_ar ws (n_v vs 0) 142) j := el_kp s1.1 r10 cr_0_142 (by decide)
  have hE_0_142_2 : ∀ j : Int, w_ei w1 (w_ar ws (n_v vs 0) 142) j = w_ei w2 (w_ar ws (n_v vs 0) 142) j := el_kp s2.1 r6 cr_0_142 (by decide)
  have hK_0_142 := elq_106 hD hth cr_0_142
  have hE_0_143_1 : ∀ j : Int, w_ei ws (w_ar ws (n_v vs 0) 143) j = w_ei w1 (w_ar ws (n_v vs 0) 143) j := el_kp s1.1 r10 cr_0_143 (by decide)
  have hE_0_143_2 : ∀ j : Int, w_ei w1 (w_ar ws (n_v vs 0) 143) j = w_ei w2 (w_ar ws (n_v vs 0) 143) j := el_kp s2.1 r6 cr_0_143 (by decide)
  have hK_0_143 := elq_107 hD hth cr_0_143
  have kz_0_146 := fdq_179 hD hth r0
  have kz_0_147 := fdq_180 hD hth r0
  have hrf0 : 1 ≤ v_iv (n_v vs 18) ∧ v_iv (n_v vs 18) ≤ 24001 := vc_Mo_reached_at_gb_0_r0 (v_iv (n_v vs 1)) (v_iv (n_v vs 2)) (v_iv (n_v vs 3)) (v_iv (n_v vs 4)) (v_iv (n_v vs 5)) (v_iv (n_v vs 7)) (v_iv (n_v vs 8)) (v_iv (n_v vs 9)) (v_iv (n_v vs 11)) (v_iv (n_v vs 12)) (v_iv (n_v vs 14)) (v_iv (n_v vs 15)) (v_iv (n_v vs 16)) (v_iv (n_v vs 17)) (v_iv (n_v vs 18)) (w_ei ws (w_ar ws (n_v vs 0) 142)) (w_ei w1 (w_ar ws (n_v vs 0) 142)) (w_ei w2 (w_ar ws (n_v vs 0) 140)) (w_ei w2 (w_ar ws (n_v vs 0) 143)) (w_ei w2 (w_ar ws (n_v vs 0) 141)) (w_ei w2 (w_ar ws (n_v vs 0) 142)) (w_fi w2 (n_v vs 0) 146) (w_fi w2 (n_v vs 0) 147) (w_fi ws (n_v vs 0) 146) (w_fi w1 (n_v vs 0) 146) (w_fi ws (n_v vs 0) 147) (w_fi w1 (n_v vs 0) 147) (w_ei ws (w_ar ws (n_v vs 0) 140)) (w_ei w1 (w_ar ws (n_v vs 0) 140)) (w_ei ws (w_ar ws (n_v vs 0) 141)) (w_ei w1 (w_ar ws (n_v vs 0) 141)) (w_ei ws (w_ar ws (n_v vs 0) 143)) (w_ei w1 (w_ar ws (n_v vs 0) 143)) k1 k2 k3 k4 k5 k7 k8 k9 k11 k12 k14 k15 k16 k17 k18 d0 d1 d2 d3 (shm_12 f0) h1 (shm_12 f4) h5 f6 (shm_573 f8) (shm_11 f9) (shm_21 f12) h13 f14 f15 f16 fe_0_146_1 fe_0_147_1 fe_0_146_2 fe_0_147_2 hE_0_140_1 hE_0_140_2 hK_0_140 hE_0_141_1 hE_0_141_2 hK_0_141 hE_0_142_1 hE_0_142_2 hK_0_142 hE_0_143_1 hE_0_143_2 hK_0_143 kz_0_146 kz_0_147
  have rf18 : tv_ok ta (0, 1, 24001, []) (n_v vs 18) := tv_in t18 (by first | omega | grind) (by first | omega | grind)
  refine ⟨List.forall_mem_cons.mpr ⟨rf18, (fun _ h => (by cases h))⟩, [], trivial, ?_, (fun _ h => (by cases h))⟩
  rw [List.append_nil]
  exact (fun _ h => (by cases h))
set_option maxHeartbeats 4000000 in
theorem vc_Mo_reached_at_gb_1_0 (x1 : Int) (x2 : Int) (x3 : Int) (x4 : Int) (x5 : Int) (x7 : Int) (x8 : Int) (x9 : Int) (x11 : Int) (x12 : Int) (x14 : Int) (x15 : Int) (x16 : Int) (x17 : Int) (x18 : Int) (bucketMany_1 : Int → Int) (bucketMany_2 : Int → Int) (costOf_3 : Int → Int) (barredPoint_3 : Int → Int) (bucket_3 : Int → Int) (bucketMany_3 : Int → Int) (wide_3 : Int) (tall_3 : Int) (wide_0 : Int) (wide_1 : Int) (tall_0 : Int) (tall_1 : Int) (wide_2 : Int) (tall_2 : Int) (costOf_0 : Int → Int) (costOf_1 : Int → Int) (costOf_2 : Int → Int) (bucket_0 : Int → Int) (bucket_1 : Int → Int) (bucket_2 : Int → Int) (bucketMany_0 : Int → Int) (barredPoint_0 : Int → Int) (barredPoint_1 : Int → Int) (barredPoint_2 : Int → Int) (k1 : 0 ≤ x1 ∧ x1 ≤ 23999) (k2 : 1 ≤ x2 ∧ x2 ≤ 999999) (k3 : 0 ≤ x3 ∧ x3 ≤ 5999) (k4 : 0 ≤ x4 ∧ x4 ≤ 1000008) (k5 : 0 ≤ x5 ∧ x5 ≤ 23999) (k7 : 2 ≤ x7 ∧ x7 ≤ 1000000) (k8 : 3 ≤ x8 ∧ x8 ≤ 3) (k9 : 0 ≤ x9 ∧ x9 ≤ 3) (k11 : 24010 ≤ x11 ∧ x11 ≤ 24010) (k12 : 0 ≤ x12 ∧ x12 ≤ 72030) (k14 : 0 ≤ x14 ∧ x14 ≤ 24009) (k15 : 0 ≤ x15 ∧ x15 ≤ 96039) (k16 : 0 ≤ x16 ∧ x16 ≤ 24009) (k17 : 1 ≤ x17 ∧ x17 ≤ 1) (k18 : 1 ≤ x18 ∧ x18 ≤ 24001) (d0 : x16 + 1 ≤ x18 ∧ x18 ≤ x16 + 1) (d1 : x14 + 0 ≤ x15 ∧ x15 ≤ x14 + 72030) (d2 : x12 + 0 ≤ x15 ∧ x15 ≤ x12 + 24009) (d3 : x2 + 1 ≤ x7 ∧ x7 ≤ x2 + 4294967296) (f1 : x18 = x16 + x17) (h2 : x16 = bucketMany_1 (x9)) (f5 : x15 = x12 + x14) (h6 : x14 = bucketMany_2 (x9)) (f7 : x12 = 24010 * x9) (f9 : x9 = x2 % 4) (f10 : bvp (x9) = bvp (x2) &&& bvp (x8)) (f13 : x2 < x7) (h14 : x7 = costOf_3 (x1)) (f15 : RTQ (wide_3) (tall_3) (barredPoint_3) (costOf_3) (bucket_3) (bucketMany_3) (x3) (x4)) (f16 : RJB (wide_3) (tall_3) (barredPoint_3) (costOf_3) (x3) (x4) (x1) (x2)) (f17 : PIV (costOf_3) (x5) (x4)) (fe_0_146_1 : wide_0 = wide_1) (fe_0_147_1 : tall_0 = tall_1) (fe_0_146_2 : wide_1 = wide_2) (fe_0_147_2 : tall_1 = tall_2) (fe_0_146_3 : wide_2 = wide_3) (fe_0_147_3 : tall_2 = tall_3) (hE_0_140_1 : ∀ j : Int, costOf_0 j = costOf_1 j) (hE_0_140_2 : ∀ j : Int, costOf_1 j = costOf_2 j) (hE_0_140_3 : ∀ j : Int, 0 ≤ j → (j = x1 → costOf_2 j = x2) ∧ (j ≠ x1 → costOf_2 j = costOf_3 j)) (hK_0_140 : ∀ j : Int, 0 ≤ j → j < 24000 → 0 ≤ costOf_0 j ∧ costOf_0 j ≤ 1000000) (hE_0_141_1 : ∀ j : Int, bucket_0 j = bucket_1 j) (hE_0_141_2 : ∀ j : Int, 0 ≤ j → (j = x15 → bucket_1 j = x1) ∧ (j ≠ x15 → bucket_1 j = bucket_2 j)) (hE_0_141_3 : ∀ j : Int, bucket_2 j = bucket_3 j) (hK_0_141 : ∀ j : Int, 0 ≤ j → j < 96040 → 0 ≤ bucket_0 j ∧ bucket_0 j ≤ 23999) (hE_0_142_1 : ∀ j : Int, 0 ≤ j → (j = x9 → bucketMany_0 j = x18) ∧ (j ≠ x9 → bucketMany_0 j = bucketMany_1 j)) (hE_0_142_2 : ∀ j : Int, bucketMany_1 j = bucketMany_2 j) (hE_0_142_3 : ∀ j : Int, bucketMany_2 j = bucketMany_3 j) (hK_0_142 : ∀ j : Int, 0 ≤ j → j < 4 → 0 ≤ bucketMany_0 j ∧ bucketMany_0 j ≤ 24009) (hE_0_143_1 : ∀ j : Int, barredPoint_0 j = barredPoint_1 j) (hE_0_143_2 : ∀ j : Int, barredPoint_1 j = barredPoint_2 j) (hE_0_143_3 : ∀ j : Int, barredPoint_2 j = barredPoint_3 j) (hK_0_143 : ∀ j : Int, 0 ≤ j → j < 6000 → 0 ≤ barredPoint_0 j ∧ barredPoint_0 j ≤ 1) (kz_0_146 : (-3999999) ≤ wide_0 ∧ wide_0 ≤ 600000023) (kz_0_147 : (-3999999) ≤ tall_0 ∧ tall_0 ≤ 600000007) : RTQ (wide_0) (tall_0) (barredPoint_0) (costOf_0) (bucket_0) (bucketMany_0) (x3) (x4) := by
  subst fe_0_146_1
  subst fe_0_147_1
  subst fe_0_146_2
  subst fe_0_147_2
  subst fe_0_146_3
  subst fe_0_147_3
  have e_hE_0_140_1 := funext hE_0_140_1; subst e_hE_0_140_1
  have e_hE_0_140_2 := funext hE_0_140_2; subst e_hE_0_140_2
  have e_hE_0_141_1 := funext hE_0_141_1; subst e_hE_0_141_1
  have e_hE_0_141_3 := funext hE_0_141_3; subst e_hE_0_141_3
  have e_hE_0_142_2 := funext hE_0_142_2; subst e_hE_0_142_2
  have e_hE_0_142_3 := funext hE_0_142_3; subst e_hE_0_142_3
  have e_hE_0_143_1 := funext hE_0_143_1; subst e_hE_0_143_1
  have e_hE_0_143_2 := funext hE_0_143_2; subst e_hE_0_143_2
  have e_hE_0_143_3 := funext hE_0_143_3; subst e_hE_0_143_3
  first
    | assumption
    | exact reach_b (b := x9) (m := x14) (p := x15) (q := x16) (o := x18) (s := x1) (v := x2) ‹RTQ _ _ _ _ _ _ _ _› ‹RJB _ _ _ _ _ _ _ _› (by omega) (by assumption) (by omega) (by assumption) (by omega) (by assumption) (by assumption) (by omega) (by assumption)
set_option maxHeartbeats 4000000 in
theorem vc_Mo_reached_at_gb_1_1 (x1 : Int) (x2 : Int) (x3 : Int) (x4 : Int) (x5 : Int) (x7 : Int) (x8 : Int) (x9 : Int) (x11 : Int) (x12 : Int) (x14 : Int) (x15 : Int) (x16 : Int) (x17 : Int) (x18 : Int) (bucketMany_1 : Int → Int) (bucketMany_2 : Int → Int) (costOf_3 : Int → Int) (barredPoint_3 : Int → Int) (bucket_3 : Int → Int) (bucketMany_3 : Int → Int) (wide_3 : Int) (tall_3 : Int) (wide_0 : Int) (wide_1 : Int) (tall_0 : Int) (tall_1 : Int) (wide_2 : Int) (tall_2 : Int) (costOf_0 : Int → Int) (costOf_1 : Int → Int) (costOf_2 : Int → Int) (bucket_0 : Int → Int) (bucket_1 : Int → Int) (bucket_2 : Int → Int) (bucketMany_0 : Int → Int) (barredPoint_0 : Int → Int) (barredPoint_1 : Int → Int) (barredPoint_2 : Int → Int) (k1 : 0 ≤ x1 ∧ x1 ≤ 23999) (k2 : 1 ≤ x2 ∧ x2 ≤ 999999) (k3 : 0 ≤ x3 ∧ x3 ≤ 5999) (k4 : 0 ≤ x4 ∧ x4 ≤ 1000008) (k5 : 0 ≤ x5 ∧ x5 ≤ 23999) (k7 : 2 ≤ x7 ∧ x7 ≤ 1000000) (k8 : 3 ≤ x8 ∧ x8 ≤ 3) (k9 : 0 ≤ x9 ∧ x9 ≤ 3) (k11 : 24010 ≤ x11 ∧ x11 ≤ 24010) (k12 : 0 ≤ x12 ∧ x12 ≤ 72030) (k14 : 0 ≤ x14 ∧ x14 ≤ 24009) (k15 : 0 ≤ x15 ∧ x15 ≤ 96039) (k16 : 0 ≤ x16 ∧ x16 ≤ 24009) (k17 : 1 ≤ x17 ∧ x17 ≤ 1) (k18 : 1 ≤ x18 ∧ x18 ≤ 24001) (d0 : x16 + 1 ≤ x18 ∧ x18 ≤ x16 + 1) (d1 : x14 + 0 ≤ x15 ∧ x15 ≤ x14 + 72030) (d2 : x12 + 0 ≤ x15 ∧ x15 ≤ x12 + 24009) (d3 : x2 + 1 ≤ x7 ∧ x7 ≤ x2 + 4294967296) (f1 : x18 = x16 + x17) (h2 : x16 = bucketMany_1 (x9)) (f5 : x15 = x12 + x14) (h6 : x14 = bucketMany_2 (x9)) (f7 : x12 = 24010 * x9) (f9 : x9 = x2 % 4) (f10 : bvp (x9) = bvp (x2) &&& bvp (x8)) (f13 : x2 < x7) (h14 : x7 = costOf_3 (x1)) (f15 : RTQ (wide_3) (tall_3) (barredPoint_3) (costOf_3) (bucket_3) (bucketMany_3) (x3) (x4)) (f16 : RJB (wide_3) (tall_3) (barredPoint_3) (costOf_3) (x3) (x4) (x1) (x2)) (f17 : PIV (costOf_3) (x5) (x4)) (fe_0_146_1 : wide_0 = wide_1) (fe_0_147_1 : tall_0 = tall_1) (fe_0_146_2 : wide_1 = wide_2) (fe_0_147_2 : tall_1 = tall_2) (fe_0_146_3 : wide_2 = wide_3) (fe_0_147_3 : tall_2 = tall_3) (hE_0_140_1 : ∀ j : Int, costOf_0 j = costOf_1 j) (hE_0_140_2 : ∀ j : Int, costOf_1 j = costOf_2 j) (hE_0_140_3 : ∀ j : Int, 0 ≤ j → (j = x1 → costOf_2 j = x2) ∧ (j ≠ x1 → costOf_2 j = costOf_3 j)) (hK_0_140 : ∀ j : Int, 0 ≤ j → j < 24000 → 0 ≤ costOf_0 j ∧ costOf_0 j ≤ 1000000) (hE_0_141_1 : ∀ j : Int, bucket_0 j = bucket_1 j) (hE_0_141_2 : ∀ j : Int, 0 ≤ j → (j = x15 → bucket_1 j = x1) ∧ (j ≠ x15 → bucket_1 j = bucket_2 j)) (hE_0_141_3 : ∀ j : Int, bucket_2 j = bucket_3 j) (hK_0_141 : ∀ j : Int, 0 ≤ j → j < 96040 → 0 ≤ bucket_0 j ∧ bucket_0 j ≤ 23999) (hE_0_142_1 : ∀ j : Int, 0 ≤ j → (j = x9 → bucketMany_0 j = x18) ∧ (j ≠ x9 → bucketMany_0 j = bucketMany_1 j)) (hE_0_142_2 : ∀ j : Int, bucketMany_1 j = bucketMany_2 j) (hE_0_142_3 : ∀ j : Int, bucketMany_2 j = bucketMany_3 j) (hK_0_142 : ∀ j : Int, 0 ≤ j → j < 4 → 0 ≤ bucketMany_0 j ∧ bucketMany_0 j ≤ 24009) (hE_0_143_1 : ∀ j : Int, barredPoint_0 j = barredPoint_1 j) (hE_0_143_2 : ∀ j : Int, barredPoint_1 j = barredPoint_2 j) (hE_0_143_3 : ∀ j : Int, barredPoint_2 j = barredPoint_3 j) (hK_0_143 : ∀ j : Int, 0 ≤ j → j < 6000 → 0 ≤ barredPoint_0 j ∧ barredPoint_0 j ≤ 1) (kz_0_146 : (-3999999) ≤ wide_0 ∧ wide_0 ≤ 600000023) (kz_0_147 : (-3999999) ≤ tall_0 ∧ tall_0 ≤ 600000007) : PIV (costOf_0) (x5) (x4) := by
  subst fe_0_146_1
  subst fe_0_147_1
  subst fe_0_146_2
  subst fe_0_147_2
  subst fe_0_146_3
  subst fe_0_147_3
  have e_hE_0_140_1 := funext hE_0_140_1; subst e_hE_0_140_1
  have e_hE_0_140_2 := funext hE_0_140_2; subst e_hE_0_140_2
  have e_hE_0_141_1 := funext hE_0_141_1; subst e_hE_0_141_1
  have e_hE_0_141_3 := funext hE_0_141_3; subst e_hE_0_141_3
  have e_hE_0_142_2 := funext hE_0_142_2; subst e_hE_0_142_2
  have e_hE_0_142_3 := funext hE_0_142_3; subst e_hE_0_142_3
  have e_hE_0_143_1 := funext hE_0_143_1; subst e_hE_0_143_1
  have e_hE_0_143_2 := funext hE_0_143_2; subst e_hE_0_143_2
  have e_hE_0_143_3 := funext hE_0_143_3; subst e_hE_0_143_3
  first
    | assumption
    | exact piv_keep (s := x1) (v := x2) ‹PIV _ _ _› ‹RJB _ _ _ _ _ _ _ _›.2.2.2.1 (by omega) (by assumption)
def o_Mo_reached_at_gb_1 : or_T := (50, 19, [(0, (2, 0, 0, [165])), (1, (0, 0, 23999, [])), (2, (0, 1, 999999, [])), (3, (0, 0, 5999, [])), (4, (0, 0, 1000008, [])), (5, (0, 0, 23999, [])), (6, (2, 0, 0, [266])), (7, (0, 2, 1000000, [])), (8, (0, 3, 3, [])), (9, (0, 0, 3, [])), (10, (2, 0, 0, [267])), (11, (0, 24010, 24010, [])), (12, (0, 0, 72030, [])), (13, (2, 0, 0, [268])), (14, (0, 0, 24009, [])), (15, (0, 0, 96039, [])), (16, (0, 0, 24009, [])), (17, (0, 1, 1, [])), (18, (0, 1, 24001, []))], [(100, [13, 9, 18], []), (1, [18, 16, 17], []), (10, [16, 13, 9], []), (9, [13, 0], [142]), (100, [10, 15, 1], []), (1, [15, 12, 14], []), (10, [14, 13, 9], []), (3, [12, 11, 9], []), (9, [10, 0], [141]), (12, [9, 2], [4]), (16, [9, 2, 8], [0]), (100, [6, 1, 2], []), (9, [6, 0], [140]), (7, [7, 2], [4]), (10, [7, 6, 1], []), (20, [0, 3, 4], [60, 2, 4, 495, 146, 147, 143, 140, 141, 142]), (20, [0, 3, 4, 1, 2], [60, 2, 2, 498, 146, 147, 143, 140]), (20, [0, 5, 4], [60, 0, 1, 497, 140])], [], [], [(20, [0, 3, 4], [60, 2, 4, 495, 146, 147, 143, 140, 141, 142]), (20, [0, 5, 4], [60, 0, 1, 497, 140])], [], [(18, 16, 1, 1), (15, 14, 0, 72030), (15, 12, 0, 24009), (7, 2, 1, 4294967296)])
theorem oo_Mo_reached_at_gb_1 {kA : Nat → ClassId} : or_ok PRD kA GG o_Mo_reached_at_gb_1 := by
  refine or_mk fun A ta ws vs hD hth hl => ?_
  intro t0 r0 t1 k1 t2 k2 t3 k3 t4 k4 t5 k5 t6 r6 t7 k7 t8 k8 t9 k9 t10 r10 t11 k11 t12 k12 t13 r13 t14 k14 t15 k15 t16 k16 t17 k17 t18 k18 d0 d1 d2 d3 ta1 w1 le1 s1 f1 f2 f3 ta2 w2 le2 s2 f5 f6 f7 f8 f9 f10 ta3 w3 le3 s3 f12 f13 f14 f15 f16 f17
  have s1 : (∀ b j, w_el ws b j = if b = v_ad (n_v vs 13) ∧ j = (v_iv (n_v vs 9)).toNat then v_iv (n_v vs 18) else w_el w1 b j) ∧ ∀ b k, w_fd ws b k = w_fd w1 b k := s1.2
  replace f2 := shm_107 f2
  replace f3 := shm_701 f3
  have s2 : (∀ b j, w_el w1 b j = if b = v_ad (n_v vs 10) ∧ j = (v_iv (n_v vs 15)).toNat then v_iv (n_v vs 1) else w_el w2 b j) ∧ ∀ b k, w_fd w1 b k = w_fd w2 b k := s2.2
  replace f6 := shm_107 f6
  replace f7 := shm_38 f7
  rw [show v_iv (n_v vs 11) = 24010 from by omega] at f7
  replace f8 := shm_702 f8
  have s3 : (∀ b j, w_el w2 b j = if b = v_ad (n_v vs 6) ∧ j = (v_iv (n_v vs 1)).toNat then v_iv (n_v vs 2) else w_el w3 b j) ∧ ∀ b k, w_fd w2 b k = w_fd w3 b k := s3.2
  replace f12 := shm_703 f12
  replace f14 := shm_107 f14
  replace f15 := shm_704 f15
  replace f16 := shm_705 f16
  replace f17 := shm_706 f17
  have ar_0_140_1 : w_ar w1 (n_v vs 0) 140 = w_ar ws (n_v vs 0) 140 := congrArg v_ad (s1.2 _ _).symm
  have ar_0_140_2 : w_ar w2 (n_v vs 0) 140 = w_ar ws (n_v vs 0) 140 := by rw [← ar_0_140_1]; show v_ad (w_fd w2 _ _) = v_ad (w_fd w1 _ _); rw [s2.2]
  have ar_0_140_3 : w_ar w3 (n_v vs 0) 140 = w_ar ws (n_v vs 0) 140 := by rw [← ar_0_140_2]; show v_ad (w_fd w3 _ _) = v_ad (w_fd w2 _ _); rw [s3.2]
  have cr_0_140 := fdq_175 hD hth r0
  have ar_0_141_1 : w_ar w1 (n_v vs 0) 141 = w_ar ws (n_v vs 0) 141 := congrArg v_ad (s1.2 _ _).symm
  have ar_0_141_2 : w_ar w2 (n_v vs 0) 141 = w_ar ws (n_v vs 0) 141 := by rw [← ar_0_141_1]; show v_ad (w_fd w2 _ _) = v_ad (w_fd w1 _ _); rw [s2.2]
  have ar_0_141_3 : w_ar w3 (n_v vs 0) 141 = w_ar ws (n_v vs 0) 141 := by rw [← ar_0_141_2]; show v_ad (w_fd w3 _ _) = v_ad (w_fd w2 _ _); rw [s3.2]
  have cr_0_141 := fdq_176 hD hth r0
  have ar_0_142_1 : w_ar w1 (n_v vs 0) 142 = w_ar ws (n_v vs 0) 142 := congrArg v_ad (s1.2 _ _).symm
  have ar_0_142_2 : w_ar w2 (n_v vs 0) 142 = w_ar ws (n_v vs 0) 142 := by rw [← ar_0_142_1]; show v_ad (w_fd w2 _ _) = v_ad (w_fd w1 _ _); rw [s2.2]
  have ar_0_142_3 : w_ar w3 (n_v vs 0) 142 = w_ar ws (n_v vs 0) 142 := by rw [← ar_0_142_2]; show v_ad (w_fd w3 _ _) = v_ad (w_fd w2 _ _); rw [s3.2]
  have cr_0_142 := fdq_177 hD hth r0
  have ar_0_143_1 : w_ar w1 (n_v vs 0) 143 = w_ar ws (n_v vs 0) 143 := congrArg v_ad (s1.2 _ _).symm
  have ar_0_143_2 : w_ar w2 (n_v vs 0) 143 = w_ar ws (n_v vs 0) 143 := by rw [← ar_0_143_1]; show v_ad (w_fd w2 _ _) = v_ad (w_fd w1 _ _); rw [s2.2]
  have ar_0_143_3 : w_ar w3 (n_v vs 0) 143 = w_ar ws (n_v vs 0) 143 := by rw [← ar_0_143_2]; show v_ad (w_fd w3 _ _) = v_ad (w_fd w2 _ _); rw [s3.2]
  have cr_0_143 := fdq_178 hD hth r0
  have ad_13 : v_ad (n_v vs 13) = w_ar ws (n_v vs 0) 142 := (congrArg v_ad f3).trans ar_0_142_1
  have ad_10 : v_ad (n_v vs 10) = w_ar ws (n_v vs 0) 141 := (congrArg v_ad f8).trans ar_0_141_2
  have ad_6 : v_ad (n_v vs 6) = w_ar ws (n_v vs 0) 140 := (congrArg v_ad f12).trans ar_0_140_3
  simp only [ad_13] at f2
  have h2 : v_iv (n_v vs 16) = w_ei w1 (w_ar ws (n_v vs 0) 142) (v_iv (n_v vs 9)) := f2
  simp only [ad_13] at f6
  have h6 : v_iv (n_v vs 14) = w_ei w2 (w_ar ws (n_v vs 0) 142) (v_iv (n_v vs 9)) := f6
  simp only [ad_6] at f14
  have h14 : v_iv (n_v vs 7) = w_ei w3 (w_ar ws (n_v vs 0) 140) (v_iv (n_v vs 1)) := f14
  simp only [ar_0_140_3, ar_0_141_3, ar_0_142_3, ar_0_143_3] at f15 f16 f17
  have fe_0_146_1 : w_fi ws (n_v vs 0) 146 = w_fi w1 (n_v vs 0) 146 := congrArg v_iv (s1.2 _ _)
  have fe_0_147_1 : w_fi ws (n_v vs 0) 147 = w_fi w1 (n_v vs 0) 147 := congrArg v_iv (s1.2 _ _)
  have fe_0_146_2 : w_fi w1 (n_v vs 0) 146 = w_fi w2 (n_v vs 0) 146 := congrArg v_iv (s2.2 _ _)
  have fe_0_147_2 : w_fi w1 (n_v vs 0) 147 = w_fi w2 (n_v vs 0) 147 := congrArg v_iv (s2.2 _ _)
  have fe_0_146_3 : w_fi w2 (n_v vs 0) 146 = w_fi w3 (n_v vs 0) 146 := congrArg v_iv (s3.2 _ _)
  have fe_0_147_3 : w_fi w2 (n_v vs 0) 147 = w_fi w3 (n_v vs 0) 147 := congrArg v_iv (s3.2 _ _)
  have hE_0_140_1 : ∀ j : Int, w_ei ws (w_ar ws (n_v vs 0) 140) j = w_ei w1 (w_ar ws (n_v vs 0) 140) j := el_kp s1.1 r13 cr_0_140 (by decide)
  have hE_0_140_2 : ∀ j : Int, w_ei w1 (w_ar ws (n_v vs 0) 140) j = w_ei w2 (w_ar ws (n_v vs 0) 140) j := el_kp s2.1 r10 cr_0_140 (by decide)
  have hE_0_140_3 : ∀ j : Int, 0 ≤ j → (j = v_iv (n_v vs 1) → w_ei w2 (w_ar ws (n_v vs 0) 140) j = v_iv (n_v vs 2)) ∧ (j ≠ v_iv (n_v vs 1) → w_ei w2 (w_ar ws (n_v vs 0) 140) j = w_ei w3 (w_ar ws (n_v vs 0) 140) j) := fun j hj => ⟨fun h => by unfold w_ei; rw [s3.1, if_pos ⟨ad_6.symm, by rw [h]⟩], fun h => by unfold w_ei; rw [s3.1, if_neg (fun e => h (by have := e.2; omega))]⟩
  have hK_0_140 := elq_104 hD hth cr_0_140
  have hE_0_141_1 : ∀ j : Int, w_ei ws (w_ar ws (n_v vs 0) 141) j = w_ei w1 (w_ar ws (n_v vs 0) 141) j := el_kp s1.1 r13 cr_0_141 (by decide)
  have hE_0_141_2 : ∀ j : Int, 0 ≤ j → (j = v_iv (n_v vs 15) → w_ei w1 (w_ar ws (n_v vs 0) 141) j = v_iv (n_v vs 1)) ∧ (j ≠ v_iv (n_v vs 15) → w_ei w1 (w_ar ws (n_v vs 0) 141) j = w_ei w2 (w_ar ws (n_v vs 0) 141) j) := fun j hj => ⟨fun h => by unfold w_ei; rw [s2.1, if_pos ⟨ad_10.symm, by rw [h]⟩], fun h => by unfold w_ei; rw [s2.1, if_neg (fun e => h (by have := e.2; omega))]⟩
  have hE_0_141_3 : ∀ j : Int, w_ei w2 (w_ar ws (n_v vs 0) 141) j = w_ei w3 (w_ar ws (n_v vs 0) 141) j := el_kp s3.1 r6 cr_0_141 (by decide)
  have hK_0_141 := elq_105 hD hth cr_0_141
  have hE_0_142_1 : ∀ j : Int, 0 ≤ j → (j = v_iv (n_v vs 9) → w_ei ws (w_ar ws (n_v vs 0) 142) j = v_iv (n_v vs 18)) ∧ (j ≠ v_iv (n_v vs 9) → w_ei ws (w_ar ws (n_v vs 0) 142) j = w_ei w1 (w_ar ws (n_v vs 0) 142) j) := fun j hj => ⟨fun h => by unfold w_ei; rw [s1.1, if_pos ⟨ad_13.symm, by rw [h]⟩], fun h => by unfold w_ei; rw [s1.1, if_neg (fun e => h (by have := e.2; omega))]⟩
  have hE_0_142_2 : ∀ j : Int, w_ei w1 (w_ar ws (n_v vs 0) 142) j = w_ei w2 (w_ar ws (n_v vs 0) 142) j := el_kp s2.1 r10 cr_0_142 (by decide)
  have hE_0_142_3 : ∀ j : Int, w_ei w2 (w_ar ws (n_v vs 0) 142) j = w_ei w3 (w_ar ws (n_v vs 0) 142) j := el_kp s3.1 r6 cr_0_142 (by decide)
  have hK_0_142 := elq_106 hD hth cr_0_142
  have hE_0_143_1 : ∀ j : Int, w_ei ws (w_ar ws (n_v vs 0) 143) j = w_ei w1 (w_ar ws (n_v vs 0) 143) j := el_kp s1.1 r13 cr_0_143 (by decide)
  have hE_0_143_2 : ∀ j : Int, w_ei w1 (w_ar ws (n_v vs 0) 143) j = w_ei w2 (w_ar ws (n_v vs 0) 143) j := el_kp s2.1 r10 cr_0_143 (by decide)
  have hE_0_143_3 : ∀ j : Int, w_ei w2 (w_ar ws (n_v vs 0) 143) j = w_ei w3 (w_ar ws (n_v vs 0) 143) j := el_kp s3.1 r6 cr_0_143 (by decide)
  have hK_0_143 := elq_107 hD hth cr_0_143
  have kz_0_146 := fdq_179 hD hth r0
  have kz_0_147 := fdq_180 hD hth r0
  have nf0 : fc_1 PRD (20, [0, 3, 4], [60, 2, 4, 495, 146, 147, 143, 140, 141, 142]) ws (vs) := ⟨nf_in hl rfl, sgq_704 (vc_Mo_reached_at_gb_1_0 (v_iv (n_v vs 1)) (v_iv (n_v vs 2)) (v_iv (n_v vs 3)) (v_iv (n_v vs 4)) (v_iv (n_v vs 5)) (v_iv (n_v vs 7)) (v_iv (n_v vs 8)) (v_iv (n_v vs 9)) (v_iv (n_v vs 11)) (v_iv (n_v vs 12)) (v_iv (n_v vs 14)) (v_iv (n_v vs 15)) (v_iv (n_v vs 16)) (v_iv (n_v vs 17)) (v_iv (n_v vs 18)) (w_ei w1 (w_ar ws (n_v vs 0) 142)) (w_ei w2 (w_ar ws (n_v vs 0) 142)) (w_ei w3 (w_ar ws (n_v vs 0) 140)) (w_ei w3 (w_ar ws (n_v vs 0) 143)) (w_ei w3 (w_ar ws (n_v vs 0) 141)) (w_ei w3 (w_ar ws (n_v vs 0) 142)) (w_fi w3 (n_v vs 0) 146) (w_fi w3 (n_v vs 0) 147) (w_fi ws (n_v vs 0) 146) (w_fi w1 (n_v vs 0) 146) (w_fi ws (n_v vs 0) 147) (w_fi w1 (n_v vs 0) 147) (w_fi w2 (n_v vs 0) 146) (w_fi w2 (n_v vs 0) 147) (w_ei ws (w_ar ws (n_v vs 0) 140)) (w_ei w1 (w_ar ws (n_v vs 0) 140)) (w_ei w2 (w_ar ws (n_v vs 0) 140)) (w_ei ws (w_ar ws (n_v vs 0) 141)) (w_ei w1 (w_ar ws (n_v vs 0) 141)) (w_ei w2 (w_ar ws (n_v vs 0) 141)) (w_ei ws (w_ar ws (n_v vs 0) 142)) (w_ei ws (w_ar ws (n_v vs 0) 143)) (w_ei w1 (w_ar ws (n_v vs 0) 143)) (w_ei w2 (w_ar ws (n_v vs 0) 143)) k1 k2 k3 k4 k5 k7 k8 k9 k11 k12 k14 k15 k16 k17 k18 d0 d1 d2 d3 (shm_12 f1) h2 (shm_12 f5) h6 f7 (shm_573 f9) (shm_11 f10) (shm_21 f13) h14 f15 f16 f17 fe_0_146_1 fe_0_147_1 fe_0_146_2 fe_0_147_2 fe_0_146_3 fe_0_147_3 hE_0_140_1 hE_0_140_2 hE_0_140_3 hK_0_140 hE_0_141_1 hE_0_141_2 hE_0_141_3 hK_0_141 hE_0_142_1 hE_0_142_2 hE_0_142_3 hK_0_142 hE_0_143_1 hE_0_143_2 hE_0_143_3 hK_0_143 kz_0_146 kz_0_147)⟩
  have nf1 : fc_1 PRD (20, [0, 5, 4], [60, 0, 1, 497, 140]) ws (vs) := ⟨nf_in hl rfl, sgq_706 (vc_Mo_reached_at_gb_1_1 (v_iv (n_v vs 1)) (v_iv (n_v vs 2)) (v_iv (n_v vs 3)) (v_iv (n_v vs 4)) (v_iv (n_v vs 5)) (v_iv (n_v vs 7)) (v_iv (n_v vs 8)) (v_iv (n_v vs 9)) (v_iv (n_v vs 11)) (v_iv (n_v vs 12)) (v_iv (n_v vs 14)) (v_iv (n_v vs 15)) (v_iv (n_v vs 16)) (v_iv (n_v vs 17)) (v_iv (n_v vs 18)) (w_ei w1 (w_ar ws (n_v vs 0) 142)) (w_ei w2 (w_ar ws (n_v vs 0) 142)) (w_ei w3 (w_ar ws (n_v vs 0) 140)) (w_ei w3 (w_ar ws (n_v vs 0) 143)) (w_ei w3 (w_ar ws (n_v vs 0) 141)) (w_ei w3 (w_ar ws (n_v vs 0) 142)) (w_fi w3 (n_v vs 0) 146) (w_fi w3 (n_v vs 0) 147) (w_fi ws (n_v vs 0) 146) (w_fi w1 (n_v vs 0) 146) (w_fi ws (n_v vs 0) 147) (w_fi w1 (n_v vs 0) 147) (w_fi w2 (n_v vs 0) 146) (w_fi w2 (n_v vs 0) 147) (w_ei ws (w_ar ws (n_v vs 0) 140)) (w_ei w1 (w_ar ws (n_v vs 0) 140)) (w_ei w2 (w_ar ws (n_v vs 0) 140)) (w_ei ws (w_ar ws (n_v vs 0) 141)) (w_ei w1 (w_ar ws (n_v vs 0) 141)) (w_ei w2 (w_ar ws (n_v vs 0) 141)) (w_ei ws (w_ar ws (n_v vs 0) 142)) (w_ei ws (w_ar ws (n_v vs 0) 143)) (w_ei w1 (w_ar ws (n_v vs 0) 143)) (w_ei w2 (w_ar ws (n_v vs 0) 143)) k1 k2 k3 k4 k5 k7 k8 k9 k11 k12 k14 k15 k16 k17 k18 d0 d1 d2 d3 (shm_12 f1) h2 (shm_12 f5) h6 f7 (shm_573 f9) (shm_11 f10) (shm_21 f13) h14 f15 f16 f17 fe_0_146_1 fe_0_147_1 fe_0_146_2 fe_0_147_2 fe_0_146_3 fe_0_147_3 hE_0_140_1 hE_0_140_2 hE_0_140_3 hK_0_140 hE_0_141_1 hE_0_141_2 hE_0_141_3 hK_0_141 hE_0_142_1 hE_0_142_2 hE_0_142_3 hK_0_142 hE_0_143_1 hE_0_143_2 hE_0_143_3 hK_0_143 kz_0_146 kz_0_147)⟩
  refine ⟨(fun _ h => (by cases h)), [], trivial, ?_, (fun _ h => (by cases h))⟩
  rw [List.append_nil]
  exact List.forall_mem_cons.mpr ⟨⟨show (20 : Nat) < 100 from by decide, nf0⟩, List.forall_mem_cons.mpr ⟨⟨show (20 : Nat) < 100 from by decide, nf1⟩, (fun _ h => (by cases h))⟩⟩
def n_Mo_reached_at_gb_an : List an_T := []
def t_Mo_reached_at_gb_ct : ct_L := []
set_option maxRecDepth 100000 in
theorem c_Mo_reached_at_gb {l : Launch} {D : va_G} {kA : Nat → ClassId} : ct_ok PRD l D kA GG y_Mo_reached_at_gb z_Mo_reached_at_gb e_Mo_reached_at_gb := chk_all_ok (FT := [(317, 13, 140), (321, 13, 141), (324, 13, 142)]) (PT := []) (CT := t_Mo_reached_at_gb_ct) (KT := []) (NT := []) (AN := n_Mo_reached_at_gb_an) (OT := [o_Mo_reached_at_gb_0, o_Mo_reached_at_gb_1]) 0 200 (List.forall_mem_cons.mpr ⟨oo_Mo_reached_at_gb_0, List.forall_mem_cons.mpr ⟨oo_Mo_reached_at_gb_1, List.forall_mem_nil _⟩⟩) (by decide +kernel) ⟨List.forall_mem_cons.mpr ⟨gf_Mo_317, List.forall_mem_cons.mpr ⟨gf_Mo_321, List.forall_mem_cons.mpr ⟨gf_Mo_324, List.forall_mem_nil _⟩⟩⟩, List.forall_mem_nil _, List.forall_mem_nil _, List.forall_mem_nil _, List.forall_mem_nil _, GG_pl⟩ (by decide +kernel)
set_option maxHeartbeats 4000000 in
theorem vc_Mo_reached_at_gi_0_r0 (x1 : Int) (x2 : Int) (x3 : Int) (x5 : Int) (x6 : Int) (x7 : Int) (x9 : Int) (x10 : Int) (x12 : Int) (x13 : Int) (x14 : Int) (x15 : Int) (x16 : Int) (bucketMany_0 : Int → Int) (bucketMany_1 : Int → Int) (costOf_2 : Int → Int) (barredPoint_2 : Int → Int) (bucket_2 : Int → Int) (bucketMany_2 : Int → Int) (wide_2 : Int) (tall_2 : Int) (wide_0 : Int) (wide_1 : Int) (tall_0 : Int) (tall_1 : Int) (costOf_0 : Int → Int) (costOf_1 : Int → Int) (bucket_0 : Int → Int) (bucket_1 : Int → Int) (barredPoint_0 : Int → Int) (barredPoint_1 : Int → Int) (k1 : 0 ≤ x1 ∧ x1 ≤ 23999) (k2 : 0 ≤ x2 ∧ x2 ≤ 0) (k3 : 0 ≤ x3 ∧ x3 ≤ 5999) (k5 : 1 ≤ x5 ∧ x5 ≤ 1000000) (k6 : 3 ≤ x6 ∧ x6 ≤ 3) (k7 : 0 ≤ x7 ∧ x7 ≤ 0) (k9 : 24010 ≤ x9 ∧ x9 ≤ 24010) (k10 : 0 ≤ x10 ∧ x10 ≤ 0) (k12 : 0 ≤ x12 ∧ x12 ≤ 24009) (k13 : 0 ≤ x13 ∧ x13 ≤ 24009) (k14 : 0 ≤ x14 ∧ x14 ≤ 24009) (k15 : 1 ≤ x15 ∧ x15 ≤ 1) (k16 : 1 ≤ x16 ∧ x16 ≤ 24010) (d0 : x14 + 1 ≤ x16 ∧ x16 ≤ x14 + 1) (d1 : x12 + 0 ≤ x13 ∧ x13 ≤ x12 + 0) (f0 : x16 = x14 + x15) (h1 : x14 = bucketMany_0 (x7)) (f4 : x13 = x10 + x12) (h5 : x12 = bucketMany_1 (x7)) (f6 : x10 = 24010 * x7) (f8 : x7 = x2 % 4) (f9 : bvp (x7) = bvp (x2) &&& bvp (x6)) (f12 : x2 < x5) (h13 : x5 = costOf_2 (x1)) (f14 : RT0 (wide_2) (tall_2) (barredPoint_2) (costOf_2) (bucket_2) (bucketMany_2) (x3)) (f15 : RJ0 (wide_2) (tall_2) (barredPoint_2) (costOf_2) (x3) (x1) (x2)) (fe_0_146_1 : wide_0 = wide_1) (fe_0_147_1 : tall_0 = tall_1) (fe_0_146_2 : wide_1 = wide_2) (fe_0_147_2 : tall_1 = tall_2) (hE_0_140_1 : ∀ j : Int, costOf_0 j = costOf_1 j) (hE_0_140_2 : ∀ j : Int, 0 ≤ j → (j = x1 → costOf_1 j = x2) ∧ (j ≠ x1 → costOf_1 j = costOf_2 j)) (hK_0_140 : ∀ j : Int, 0 ≤ j → j < 24000 → 0 ≤ costOf_0 j ∧ costOf_0 j ≤ 1000000) (hE_0_141_1 : ∀ j : Int, 0 ≤ j → (j = x13 → bucket_0 j = x1) ∧ (j ≠ x13 → bucket_0 j = bucket_1 j)) (hE_0_141_2 : ∀ j : Int, bucket_1 j = bucket_2 j) (hK_0_141 : ∀ j : Int, 0 ≤ j → j < 96040 → 0 ≤ bucket_0 j ∧ bucket_0 j ≤ 23999) (hE_0_142_1 : ∀ j : Int, bucketMany_0 j = bucketMany_1 j) (hE_0_142_2 : ∀ j : Int, bucketMany_1 j = bucketMany_2 j) (hK_0_142 : ∀ j : Int, 0 ≤ j → j < 4 → 0 ≤ bucketMany_0 j ∧ bucketMany_0 j ≤ 24009) (hE_0_143_1 : ∀ j : Int, barredPoint_0 j = barredPoint_1 j) (hE_0_143_2 : ∀ j : Int, barredPoint_1 j = barredPoint_2 j) (hK_0_143 : ∀ j : Int, 0 ≤ j → j < 6000 → 0 ≤ barredPoint_0 j ∧ barredPoint_0 j ≤ 1) (kz_0_146 : (-3999999) ≤ wide_0 ∧ wide_0 ≤ 600000023) (kz_0_147 : (-3999999) ≤ tall_0 ∧ tall_0 ≤ 600000007) : 1 ≤ x16 ∧ x16 ≤ 24001 := by
  subst fe_0_146_1
  subst fe_0_147_1
  subst fe_0_146_2
  subst fe_0_147_2
  have e_hE_0_140_1 := funext hE_0_140_1; subst e_hE_0_140_1
  have e_hE_0_141_2 := funext hE_0_141_2; subst e_hE_0_141_2
  have e_hE_0_142_1 := funext hE_0_142_1; subst e_hE_0_142_1
  have e_hE_0_142_2 := funext hE_0_142_2; subst e_hE_0_142_2
  have e_hE_0_143_1 := funext hE_0_143_1; subst e_hE_0_143_1
  have e_hE_0_143_2 := funext hE_0_143_2; subst e_hE_0_143_2
  first
    | (have h := reach_room (b := x7) (m := x14) (s := x1) (v := x2) (c := 0) ‹RT0 _ _ _ _ _ _ _› ‹RJ0 _ _ _ _ _ _ _› (by omega) (by omega) (by assumption); omega)
    | (have h := reach_room (b := x9) (m := x16) (s := x1) (v := x2) ‹RTQ _ _ _ _ _ _ _ _› ‹RJB _ _ _ _ _ _ _ _› (by omega) (by omega) (by assumption); omega)
def o_Mo_reached_at_gi_0 : or_T := (49, 17, [(0, (2, 0, 0, [165])), (1, (0, 0, 23999, [])), (2, (0, 0, 0, [])), (3, (0, 0, 5999, [])), (4, (2, 0, 0, [266])), (5, (0, 1, 1000000, [])), (6, (0, 3, 3, [])), (7, (0, 0, 0, [])), (8, (2, 0, 0, [267])), (9, (0, 24010, 24010, [])), (10, (0, 0, 0, [])), (11, (2, 0, 0, [268])), (12, (0, 0, 24009, [])), (13, (0, 0, 24009, [])), (14, (0, 0, 24009, [])), (15, (0, 1, 1, [])), (16, (0, 1, 24010, []))], [(1, [16, 14, 15], []), (10, [14, 11, 7], []), (9, [11, 0], [142]), (100, [8, 13, 1], []), (1, [13, 10, 12], []), (10, [12, 11, 7], []), (3, [10, 9, 7], []), (9, [8, 0], [141]), (12, [7, 2], [4]), (16, [7, 2, 6], [0]), (100, [4, 1, 2], []), (9, [4, 0], [140]), (7, [5, 2], [4]), (10, [5, 4, 1], []), (20, [0, 3], [60, 2, 4, 496, 146, 147, 143, 140, 141, 142]), (20, [0, 3, 1, 2], [60, 2, 2, 499, 146, 147, 143, 140])], [(16, (0, 1, 24001, []))], [], [], [], [(16, 14, 1, 1), (13, 12, 0, 0)])
theorem oo_Mo_reached_at_gi_0 {kA : Nat → ClassId} : or_ok PRD kA GG o_Mo_reached_at_gi_0 := by
  refine or_mk fun A ta ws vs hD hth hl => ?_
  intro t0 r0 t1 k1 t2 k2 t3 k3 t4 r4 t5 k5 t6 k6 t7 k7 t8 r8 t9 k9 t10 k10 t11 r11 t12 k12 t13 k13 t14 k14 t15 k15 t16 k16 d0 d1 f0 f1 f2 ta1 w1 le1 s1 f4 f5 f6 f7 f8 f9 ta2 w2 le2 s2 f11 f12 f13 f14 f15
  replace f1 := shm_107 f1
  replace f2 := shm_701 f2
  have s1 : (∀ b j, w_el ws b j = if b = v_ad (n_v vs 8) ∧ j = (v_iv (n_v vs 13)).toNat then v_iv (n_v vs 1) else w_el w1 b j) ∧ ∀ b k, w_fd ws b k = w_fd w1 b k := s1.2
  replace f5 := shm_107 f5
  replace f6 := shm_38 f6
  rw [show v_iv (n_v vs 9) = 24010 from by omega] at f6
  replace f7 := shm_702 f7
  have s2 : (∀ b j, w_el w1 b j = if b = v_ad (n_v vs 4) ∧ j = (v_iv (n_v vs 1)).toNat then v_iv (n_v vs 2) else w_el w2 b j) ∧ ∀ b k, w_fd w1 b k = w_fd w2 b k := s2.2
  replace f11 := shm_703 f11
  replace f13 := shm_107 f13
  replace f14 := shm_707 f14
  replace f15 := shm_708 f15
  have ar_0_140_1 : w_ar w1 (n_v vs 0) 140 = w_ar ws (n_v vs 0) 140 := congrArg v_ad (s1.2 _ _).symm
  have ar_0_140_2 : w_ar w2 (n_v vs 0) 140 = w_ar ws (n_v vs 0) 140 := by rw [← ar_0_140_1]; show v_ad (w_fd w2 _ _) = v_ad (w_fd w1 _ _); rw [s2.2]
  have cr_0_140 := fdq_175 hD hth r0
  have ar_0_141_1 : w_ar w1 (n_v vs 0) 141 = w_ar ws (n_v vs 0) 141 := congrArg v_ad (s1.2 _ _).symm
  have ar_0_141_2 : w_ar w2 (n_v vs 0) 141 = w_ar ws (n_v vs 0) 141 := by rw [← ar_0_141_1]; show v_ad (w_fd w2 _ _) = v_ad (w_fd w1 _ _); rw [s2.2]
  have cr_0_141 := fdq_176 hD hth r0
  have ar_0_142_1 : w_ar w1 (n_v vs 0) 142 = w_ar ws (n_v vs 0) 142 := congrArg v_ad (s1.2 _ _).symm
  have ar_0_142_2 : w_ar w2 (n_v vs 0) 142 = w_ar ws (n_v vs 0) 142 := by rw [← ar_0_142_1]; show v_ad (w_fd w2 _ _) = v_ad (w_fd w1 _ _); rw [s2.2]
  have cr_0_142 := fdq_177 hD hth r0
  have ar_0_143_1 : w_ar w1 (n_v vs 0) 143 = w_ar ws (n_v vs 0) 143 := congrArg v_ad (s1.2 _ _).symm
  have ar_0_143_2 : w_ar w2 (n_v vs 0) 143 = w_ar ws (n_v vs 0) 143 := by rw [← ar_0_143_1]; show v_ad (w_fd w2 _ _) = v_ad (w_fd w1 _ _); rw [s2.2]
  have cr_0_143 := fdq_178 hD hth r0
  have ad_11 : v_ad (n_v vs 11) = w_ar ws (n_v vs 0) 142 := congrArg v_ad f2
  have ad_8 : v_ad (n_v vs 8) = w_ar ws (n_v vs 0) 141 := (congrArg v_ad f7).trans ar_0_141_1
  have ad_4 : v_ad (n_v vs 4) = w_ar ws (n_v vs 0) 140 := (congrArg v_ad f11).trans ar_0_140_2
  simp only [ad_11] at f1
  have h1 : v_iv (n_v vs 14) = w_ei ws (w_ar ws (n_v vs 0) 142) (v_iv (n_v vs 7)) := f1
  simp only [ad_11] at f5
  have h5 : v_iv (n_v vs 12) = w_ei w1 (w_ar ws (n_v vs 0) 142) (v_iv (n_v vs 7)) := f5
  simp only [ad_4] at f13
  have h13 : v_iv (n_v vs 5) = w_ei w2 (w_ar ws (n_v vs 0) 140) (v_iv (n_v vs 1)) := f13
  simp only [ar_0_140_2, ar_0_141_2, ar_0_142_2, ar_0_143_2] at f14 f15
  have fe_0_146_1 : w_fi ws (n_v vs 0) 146 = w_fi w1 (n_v vs 0) 146 := congrArg v_iv (s1.2 _ _)
  have fe_0_147_1 : w_fi ws (n_v vs 0) 147 = w_fi w1 (n_v vs 0) 147 := congrArg v_iv (s1.2 _ _)
  have fe_0_146_2 : w_fi w1 (n_v vs 0) 146 = w_fi w2 (n_v vs 0) 146 := congrArg v_iv (s2.2 _ _)
  have fe_0_147_2 : w_fi w1 (n_v vs 0) 147 = w_fi w2 (n_v vs 0) 147 := congrArg v_iv (s2.2 _ _)
  have hE_0_140_1 : ∀ j : Int, w_ei ws (w_ar ws (n_v vs 0) 140) j = w_ei w1 (w_ar ws (n_v vs 0) 140) j := el_kp s1.1 r8 cr_0_140 (by decide)
  have hE_0_140_2 : ∀ j : Int, 0 ≤ j → (j = v_iv (n_v vs 1) → w_ei w1 (w_ar ws (n_v vs 0) 140) j = v_iv (n_v vs 2)) ∧ (j ≠ v_iv (n_v vs 1) → w_ei w1 (w_ar ws (n_v vs 0) 140) j = w_ei w2 (w_ar ws (n_v vs 0) 140) j) := fun j hj => ⟨fun h => by unfold w_ei; rw [s2.1, if_pos ⟨ad_4.symm, by rw [h]⟩], fun h => by unfold w_ei; rw [s2.1, if_neg (fun e => h (by have := e.2; omega))]⟩
  have hK_0_140 := elq_104 hD hth cr_0_140
  have hE_0_141_1 : ∀ j : Int, 0 ≤ j → (j = v_iv (n_v vs 13) → w_ei ws (w_ar ws (n_v vs 0) 141) j = v_iv (n_v vs 1)) ∧ (j ≠ v_iv (n_v vs 13) → w_ei ws (w_ar ws (n_v vs 0) 141) j = w_ei w1 (w_ar ws (n_v vs 0) 141) j) := fun j hj => ⟨fun h => by unfold w_ei; rw [s1.1, if_pos ⟨ad_8.symm, by rw [h]⟩], fun h => by unfold w_ei; rw [s1.1, if_neg (fun e => h (by have := e.2; omega))]⟩
  have hE_0_141_2 : ∀ j : Int, w_ei w1 (w_ar ws (n_v vs 0) 141) j = w_ei w2 (w_ar ws (n_v vs 0) 141) j := el_kp s2.1 r4 cr_0_141 (by decide)
  have hK_0_141 := elq_105 hD hth cr_0_141
  have hE_0_142_1 : ∀ j : Int, w_ei ws (w_ar ws (n_v vs 0) 142) j = w_ei w1 (w_ar ws (n_v vs 0) 142) j := el_kp s1.1 r8 cr_0_142 (by decide)
  have hE_0_142_2 : ∀ j : Int, w_ei w1 (w_ar ws (n_v vs 0) 142) j = w_ei w2 (w_ar ws (n_v vs 0) 142) j := el_kp s2.1 r4 cr_0_142 (by decide)
  have hK_0_142 := elq_106 hD hth cr_0_142
  have hE_0_143_1 : ∀ j : Int, w_ei ws (w_ar ws (n_v vs 0) 143) j = w_ei w1 (w_ar ws (n_v vs 0) 143) j := el_kp s1.1 r8 cr_0_143 (by decide)
  have hE_0_143_2 : ∀ j : Int, w_ei w1 (w_ar ws (n_v vs 0) 143) j = w_ei w2 (w_ar ws (n_v vs 0) 143) j := el_kp s2.1 r4 cr_0_143 (by decide)
  have hK_0_143 := elq_107 hD hth cr_0_143
  have kz_0_146 := fdq_179 hD hth r0
  have kz_0_147 := fdq_180 hD hth r0
  have hrf0 : 1 ≤ v_iv (n_v vs 16) ∧ v_iv (n_v vs 16) ≤ 24001 := vc_Mo_reached_at_gi_0_r0 (v_iv (n_v vs 1)) (v_iv (n_v vs 2)) (v_iv (n_v vs 3)) (v_iv (n_v vs 5)) (v_iv (n_v vs 6)) (v_iv (n_v vs 7)) (v_iv (n_v vs 9)) (v_iv (n_v vs 10)) (v_iv (n_v vs 12)) (v_iv (n_v vs 13)) (v_iv (n_v vs 14)) (v_iv (n_v vs 15)) (v_iv (n_v vs 16)) (w_ei ws (w_ar ws (n_v vs 0) 142)) (w_ei w1 (w_ar ws (n_v vs 0) 142)) (w_ei w2 (w_ar ws (n_v vs 0) 140)) (w_ei w2 (w_ar ws (n_v vs 0) 143)) (w_ei w2 (w_ar ws (n_v vs 0) 141)) (w_ei w2 (w_ar ws (n_v vs 0) 142)) (w_fi w2 (n_v vs 0) 146) (w_fi w2 (n_v vs 0) 147) (w_fi ws (n_v vs 0) 146) (w_fi w1 (n_v vs 0) 146) (w_fi ws (n_v vs 0) 147) (w_fi w1 (n_v vs 0) 147) (w_ei ws (w_ar ws (n_v vs 0) 140)) (w_ei w1 (w_ar ws (n_v vs 0) 140)) (w_ei ws (w_ar ws (n_v vs 0) 141)) (w_ei w1 (w_ar ws (n_v vs 0) 141)) (w_ei ws (w_ar ws (n_v vs 0) 143)) (w_ei w1 (w_ar ws (n_v vs 0) 143)) k1 k2 k3 k5 k6 k7 k9 k10 k12 k13 k14 k15 k16 d0 d1 (shm_12 f0) h1 (shm_12 f4) h5 f6 (shm_573 f8) (shm_11 f9) (shm_21 f12) h13 f14 f15 fe_0_146_1 fe_0_147_1 fe_0_146_2 fe_0_147_2 hE_0_140_1 hE_0_140_2 hK_0_140 hE_0_141_1 hE_0_141_2 hK_0_141 hE_0_142_1 hE_0_142_2 hK_0_142 hE_0_143_1 hE_0_143_2 hK_0_143 kz_0_146 kz_0_147
  have rf16 : tv_ok ta (0, 1, 24001, []) (n_v vs 16) := tv_in t16 (by first | omega | grind) (by first | omega | grind)
  refine ⟨List.forall_mem_cons.mpr ⟨rf16, (fun _ h => (by cases h))⟩, [], trivial, ?_, (fun _ h => (by cases h))⟩
  rw [List.append_nil]
  exact (fun _ h => (by cases h))
set_option maxHeartbeats 4000000 in
theorem vc_Mo_reached_at_gi_1_0 (x1 : Int) (x2 : Int) (x3 : Int) (x5 : Int) (x6 : Int) (x7 : Int) (x9 : Int) (x10 : Int) (x12 : Int) (x13 : Int) (x14 : Int) (x15 : Int) (x16 : Int) (bucketMany_1 : Int → Int) (bucketMany_2 : Int → Int) (costOf_3 : Int → Int) (barredPoint_3 : Int → Int) (bucket_3 : Int → Int) (bucketMany_3 : Int → Int) (wide_3 : Int) (tall_3 : Int) (wide_0 : Int) (wide_1 : Int) (tall_0 : Int) (tall_1 : Int) (wide_2 : Int) (tall_2 : Int) (costOf_0 : Int → Int) (costOf_1 : Int → Int) (costOf_2 : Int → Int) (bucket_0 : Int → Int) (bucket_1 : Int → Int) (bucket_2 : Int → Int) (bucketMany_0 : Int → Int) (barredPoint_0 : Int → Int) (barredPoint_1 : Int → Int) (barredPoint_2 : Int → Int) (k1 : 0 ≤ x1 ∧ x1 ≤ 23999) (k2 : 0 ≤ x2 ∧ x2 ≤ 0) (k3 : 0 ≤ x3 ∧ x3 ≤ 5999) (k5 : 1 ≤ x5 ∧ x5 ≤ 1000000) (k6 : 3 ≤ x6 ∧ x6 ≤ 3) (k7 : 0 ≤ x7 ∧ x7 ≤ 0) (k9 : 24010 ≤ x9 ∧ x9 ≤ 24010) (k10 : 0 ≤ x10 ∧ x10 ≤ 0) (k12 : 0 ≤ x12 ∧ x12 ≤ 24009) (k13 : 0 ≤ x13 ∧ x13 ≤ 24009) (k14 : 0 ≤ x14 ∧ x14 ≤ 24009) (k15 : 1 ≤ x15 ∧ x15 ≤ 1) (k16 : 1 ≤ x16 ∧ x16 ≤ 24001) (d0 : x14 + 1 ≤ x16 ∧ x16 ≤ x14 + 1) (d1 : x12 + 0 ≤ x13 ∧ x13 ≤ x12 + 0) (f1 : x16 = x14 + x15) (h2 : x14 = bucketMany_1 (x7)) (f5 : x13 = x10 + x12) (h6 : x12 = bucketMany_2 (x7)) (f7 : x10 = 24010 * x7) (f9 : x7 = x2 % 4) (f10 : bvp (x7) = bvp (x2) &&& bvp (x6)) (f13 : x2 < x5) (h14 : x5 = costOf_3 (x1)) (f15 : RT0 (wide_3) (tall_3) (barredPoint_3) (costOf_3) (bucket_3) (bucketMany_3) (x3)) (f16 : RJ0 (wide_3) (tall_3) (barredPoint_3) (costOf_3) (x3) (x1) (x2)) (fe_0_146_1 : wide_0 = wide_1) (fe_0_147_1 : tall_0 = tall_1) (fe_0_146_2 : wide_1 = wide_2) (fe_0_147_2 : tall_1 = tall_2) (fe_0_146_3 : wide_2 = wide_3) (fe_0_147_3 : tall_2 = tall_3) (hE_0_140_1 : ∀ j : Int, costOf_0 j = costOf_1 j) (hE_0_140_2 : ∀ j : Int, costOf_1 j = costOf_2 j) (hE_0_140_3 : ∀ j : Int, 0 ≤ j → (j = x1 → costOf_2 j = x2) ∧ (j ≠ x1 → costOf_2 j = costOf_3 j)) (hK_0_140 : ∀ j : Int, 0 ≤ j → j < 24000 → 0 ≤ costOf_0 j ∧ costOf_0 j ≤ 1000000) (hE_0_141_1 : ∀ j : Int, bucket_0 j = bucket_1 j) (hE_0_141_2 : ∀ j : Int, 0 ≤ j → (j = x13 → bucket_1 j = x1) ∧ (j ≠ x13 → bucket_1 j = bucket_2 j)) (hE_0_141_3 : ∀ j : Int, bucket_2 j = bucket_3 j) (hK_0_141 : ∀ j : Int, 0 ≤ j → j < 96040 → 0 ≤ bucket_0 j ∧ bucket_0 j ≤ 23999) (hE_0_142_1 : ∀ j : Int, 0 ≤ j → (j = x7 → bucketMany_0 j = x16) ∧ (j ≠ x7 → bucketMany_0 j = bucketMany_1 j)) (hE_0_142_2 : ∀ j : Int, bucketMany_1 j = bucketMany_2 j) (hE_0_142_3 : ∀ j : Int, bucketMany_2 j = bucketMany_3 j) (hK_0_142 : ∀ j : Int, 0 ≤ j → j < 4 → 0 ≤ bucketMany_0 j ∧ bucketMany_0 j ≤ 24009) (hE_0_143_1 : ∀ j : Int, barredPoint_0 j = barredPoint_1 j) (hE_0_143_2 : ∀ j : Int, barredPoint_1 j = barredPoint_2 j) (hE_0_143_3 : ∀ j : Int, barredPoint_2 j = barredPoint_3 j) (hK_0_143 : ∀ j : Int, 0 ≤ j → j < 6000 → 0 ≤ barredPoint_0 j ∧ barredPoint_0 j ≤ 1) (kz_0_146 : (-3999999) ≤ wide_0 ∧ wide_0 ≤ 600000023) (kz_0_147 : (-3999999) ≤ tall_0 ∧ tall_0 ≤ 600000007) : RT0 (wide_0) (tall_0) (barredPoint_0) (costOf_0) (bucket_0) (bucketMany_0) (x3) := by
  subst fe_0_146_1
  subst fe_0_147_1
  subst fe_0_146_2
  subst fe_0_147_2
  subst fe_0_146_3
  subst fe_0_147_3
  have e_hE_0_140_1 := funext hE_0_140_1; subst e_hE_0_140_1
  have e_hE_0_140_2 := funext hE_0_140_2; subst e_hE_0_140_2
  have e_hE_0_141_1 := funext hE_0_141_1; subst e_hE_0_141_1
  have e_hE_0_141_3 := funext hE_0_141_3; subst e_hE_0_141_3
  have e_hE_0_142_2 := funext hE_0_142_2; subst e_hE_0_142_2
  have e_hE_0_142_3 := funext hE_0_142_3; subst e_hE_0_142_3
  have e_hE_0_143_1 := funext hE_0_143_1; subst e_hE_0_143_1
  have e_hE_0_143_2 := funext hE_0_143_2; subst e_hE_0_143_2
  have e_hE_0_143_3 := funext hE_0_143_3; subst e_hE_0_143_3
  first
    | assumption
    | exact reach_b (b := x7) (m := x12) (p := x13) (q := x14) (o := x16) (s := x1) (v := x2) (c := 0) ‹RT0 _ _ _ _ _ _ _› ‹RJ0 _ _ _ _ _ _ _› (by omega) (by assumption) (by omega) (by assumption) (by omega) (by assumption) (by assumption) (by omega) (by assumption)
def o_Mo_reached_at_gi_1 : or_T := (50, 17, [(0, (2, 0, 0, [165])), (1, (0, 0, 23999, [])), (2, (0, 0, 0, [])), (3, (0, 0, 5999, [])), (4, (2, 0, 0, [266])), (5, (0, 1, 1000000, [])), (6, (0, 3, 3, [])), (7, (0, 0, 0, [])), (8, (2, 0, 0, [267])), (9, (0, 24010, 24010, [])), (10, (0, 0, 0, [])), (11, (2, 0, 0, [268])), (12, (0, 0, 24009, [])), (13, (0, 0, 24009, [])), (14, (0, 0, 24009, [])), (15, (0, 1, 1, [])), (16, (0, 1, 24001, []))], [(100, [11, 7, 16], []), (1, [16, 14, 15], []), (10, [14, 11, 7], []), (9, [11, 0], [142]), (100, [8, 13, 1], []), (1, [13, 10, 12], []), (10, [12, 11, 7], []), (3, [10, 9, 7], []), (9, [8, 0], [141]), (12, [7, 2], [4]), (16, [7, 2, 6], [0]), (100, [4, 1, 2], []), (9, [4, 0], [140]), (7, [5, 2], [4]), (10, [5, 4, 1], []), (20, [0, 3], [60, 2, 4, 496, 146, 147, 143, 140, 141, 142]), (20, [0, 3, 1, 2], [60, 2, 2, 499, 146, 147, 143, 140])], [], [], [(20, [0, 3], [60, 2, 4, 496, 146, 147, 143, 140, 141, 142])], [], [(16, 14, 1, 1), (13, 12, 0, 0)])
theorem oo_Mo_reached_at_gi_1 {kA : Nat → ClassId} : or_ok PRD kA GG o_Mo_reached_at_gi_1 := by
  refine or_mk fun A ta ws vs hD hth hl => ?_
  intro t0 r0 t1 k1 t2 k2 t3 k3 t4 r4 t5 k5 t6 k6 t7 k7 t8 r8 t9 k9 t10 k10 t11 r11 t12 k12 t13 k13 t14 k14 t15 k15 t16 k16 d0 d1 ta1 w1 le1 s1 f1 f2 f3 ta2 w2 le2 s2 f5 f6 f7 f8 f9 f10 ta3 w3 le3 s3 f12 f13 f14 f15 f16
  have s1 : (∀ b j, w_el ws b j = if b = v_ad (n_v vs 11) ∧ j = (v_iv (n_v vs 7)).toNat then v_iv (n_v vs 16) else w_el w1 b j) ∧ ∀ b k, w_fd ws b k = w_fd w1 b k := s1.2
  replace f2 := shm_107 f2
  replace f3 := shm_701 f3
  have s2 : (∀ b j, w_el w1 b j = if b = v_ad (n_v vs 8) ∧ j = (v_iv (n_v vs 13)).toNat then v_iv (n_v vs 1) else w_el w2 b j) ∧ ∀ b k, w_fd w1 b k = w_fd w2 b k := s2.2
  replace f6 := shm_107 f6
  replace f7 := shm_38 f7
  rw [show v_iv (n_v vs 9) = 24010 from by omega] at f7
  replace f8 := shm_702 f8
  have s3 : (∀ b j, w_el w2 b j = if b = v_ad (n_v vs 4) ∧ j = (v_iv (n_v vs 1)).toNat then v_iv (n_v vs 2) else w_el w3 b j) ∧ ∀ b k, w_fd w2 b k = w_fd w3 b k := s3.2
  replace f12 := shm_703 f12
  replace f14 := shm_107 f14
  replace f15 := shm_707 f15
  replace f16 := shm_708 f16
  have ar_0_140_1 : w_ar w1 (n_v vs 0) 140 = w_ar ws (n_v vs 0) 140 := congrArg v_ad (s1.2 _ _).symm
  have ar_0_140_2 : w_ar w2 (n_v vs 0) 140 = w_ar ws (n_v vs 0) 140 := by rw [← ar_0_140_1]; show v_ad (w_fd w2 _ _) = v_ad (w_fd w1 _ _); rw [s2.2]
  have ar_0_140_3 : w_ar w3 (n_v vs 0) 140 = w_ar ws (n_v vs 0) 140 := by rw [← ar_0_140_2]; show v_ad (w_fd w3 _ _) = v_ad (w_fd w2 _ _); rw [s3.2]
  have cr_0_140 := fdq_175 hD hth r0
  have ar_0_141_1 : w_ar w1 (n_v vs 0) 141 = w_ar ws (n_v vs 0) 141 := congrArg v_ad (s1.2 _ _).symm
  have ar_0_141_2 : w_ar w2 (n_v vs 0) 141 = w_ar ws (n_v vs 0) 141 := by rw [← ar_0_141_1]; show v_ad (w_fd w2 _ _) = v_ad (w_fd w1 _ _); rw [s2.2]
  have ar_0_141_3 : w_ar w3 (n_v vs 0) 141 = w_ar ws (n_v vs 0) 141 := by rw [← ar_0_141_2]; show v_ad (w_fd w3 _ _) = v_ad (w_fd w2 _ _); rw [s3.2]
  have cr_0_141 := fdq_176 hD hth r0
  have ar_0_142_1 : w_ar w1 (n_v vs 0) 142 = w_ar ws (n_v vs 0) 142 := congrArg v_ad (s1.2 _ _).symm
  have ar_0_142_2 : w_ar w2 (n_v vs 0) 142 = w_ar ws (n_v vs 0) 142 := by rw [← ar_0_142_1]; show v_ad (w_fd w2 _ _) = v_ad (w_fd w1 _ _); rw [s2.2]
  have ar_0_142_3 : w_ar w3 (n_v vs 0) 142 = w_ar ws (n_v vs 0) 142 := by rw [← ar_0_142_2]; show v_ad (w_fd w3 _ _) = v_ad (w_fd w2 _ _); rw [s3.2]
  have cr_0_142 := fdq_177 hD hth r0
  have ar_0_143_1 : w_ar w1 (n_v vs 0) 143 = w_ar ws (n_v vs 0) 143 := congrArg v_ad (s1.2 _ _).symm
  have ar_0_143_2 : w_ar w2 (n_v vs 0) 143 = w_ar ws (n_v vs 0) 143 := by rw [← ar_0_143_1]; show v_ad (w_fd w2 _ _) = v_ad (w_fd w1 _ _); rw [s2.2]
  have ar_0_143_3 : w_ar w3 (n_v vs 0) 143 = w_ar ws (n_v vs 0) 143 := by rw [← ar_0_143_2]; show v_ad (w_fd w3 _ _) = v_ad (w_fd w2 _ _); rw [s3.2]
  have cr_0_143 := fdq_178 hD hth r0
  have ad_11 : v_ad (n_v vs 11) = w_ar ws (n_v vs 0) 142 := (congrArg v_ad f3).trans ar_0_142_1
  have ad_8 : v_ad (n_v vs 8) = w_ar ws (n_v vs 0) 141 := (congrArg v_ad f8).trans ar_0_141_2
  have ad_4 : v_ad (n_v vs 4) = w_ar ws (n_v vs 0) 140 := (congrArg v_ad f12).trans ar_0_140_3
  simp only [ad_11] at f2
  have h2 : v_iv (n_v vs 14) = w_ei w1 (w_ar ws (n_v vs 0) 142) (v_iv (n_v vs 7)) := f2
  simp only [ad_11] at f6
  have h6 : v_iv (n_v vs 12) = w_ei w2 (w_ar ws (n_v vs 0) 142) (v_iv (n_v vs 7)) := f6
  simp only [ad_4] at f14
  have h14 : v_iv (n_v vs 5) = w_ei w3 (w_ar ws (n_v vs 0) 140) (v_iv (n_v vs 1)) := f14
  simp only [ar_0_140_3, ar_0_141_3, ar_0_142_3, ar_0_143_3] at f15 f16
  have fe_0_146_1 : w_fi ws (n_v vs 0) 146 = w_fi w1 (n_v vs 0) 146 := congrArg v_iv (s1.2 _ _)
  have fe_0_147_1 : w_fi ws (n_v vs 0) 147 = w_fi w1 (n_v vs 0) 147 := congrArg v_iv (s1.2 _ _)
  have fe_0_146_2 : w_fi w1 (n_v vs 0) 146 = w_fi w2 (n_v vs 0) 146 := congrArg v_iv (s2.2 _ _)
  have fe_0_147_2 : w_fi w1 (n_v vs 0) 147 = w_fi w2 (n_v vs 0) 147 := congrArg v_iv (s2.2 _ _)
  have fe_0_146_3 : w_fi w2 (n_v vs 0) 146 = w_fi w3 (n_v vs 0) 146 := congrArg v_iv (s3.2 _ _)
  have fe_0_147_3 : w_fi w2 (n_v vs 0) 147 = w_fi w3 (n_v vs 0) 147 := congrArg v_iv (s3.2 _ _)
  have hE_0_140_1 : ∀ j : Int, w_ei ws (w_ar ws (n_v vs 0) 140) j = w_ei w1 (w_ar ws (n_v vs 0) 140) j := el_kp s1.1 r11 cr_0_140 (by decide)
  have hE_0_140_2 : ∀ j : Int, w_ei w1 (w_ar ws (n_v vs 0) 140) j = w_ei w2 (w_ar ws (n_v vs 0) 140) j := el_kp s2.1 r8 cr_0_140 (by decide)
  have hE_0_140_3 : ∀ j : Int, 0 ≤ j → (j = v_iv (n_v vs 1) → w_ei w2 (w_ar ws (n_v vs 0) 140) j = v_iv (n_v vs 2)) ∧ (j ≠ v_iv (n_v vs 1) → w_ei w2 (w_ar ws (n_v vs 0) 140) j = w_ei w3 (w_ar ws (n_v vs 0) 140) j) := fun j hj => ⟨fun h => by unfold w_ei; rw [s3.1, if_pos ⟨ad_4.symm, by rw [h]⟩], fun h => by unfold w_ei; rw [s3.1, if_neg (fun e => h (by have := e.2; omega))]⟩
  have hK_0_140 := elq_104 hD hth cr_0_140
  have hE_0_141_1 : ∀ j : Int, w_ei ws (w_ar ws (n_v vs 0) 141) j = w_ei w1 (w_ar ws (n_v vs 0) 141) j := el_kp s1.1 r11 cr_0_141 (by decide)
  have hE_0_141_2 : ∀ j : Int, 0 ≤ j → (j = v_iv (n_v vs 13) → w_ei w1 (w_ar ws (n_v vs 0) 141) j = v_iv (n_v vs 1)) ∧ (j ≠ v_iv (n_v vs 13) → w_ei w1 (w_ar ws (n_v vs 0) 141) j = w_ei w2 (w_ar ws (n_v vs 0) 141) j) := fun j hj => ⟨fun h => by unfold w_ei; rw [s2.1, if_pos ⟨ad_8.symm, by rw [h]⟩], fun h => by unfold w_ei; rw [s2.1, if_neg (fun e => h (by have := e.2; omega))]⟩
  have hE_0_141_3 : ∀ j : Int, w_ei w2 (w_ar ws (n_v vs 0) 141) j = w_ei w3 (w_ar ws (n_v vs 0) 141) j := el_kp s3.1 r4 cr_0_141 (by decide)
  have hK_0_141 := elq_105 hD hth cr_0_141
  have hE_0_142_1 : ∀ j : Int, 0 ≤ j → (j = v_iv (n_v vs 7) → w_ei ws (w_ar ws (n_v vs 0) 142) j = v_iv (n_v vs 16)) ∧ (j ≠ v_iv (n_v vs 7) → w_ei ws (w_ar ws (n_v vs 0) 142) j = w_ei w1 (w_ar ws (n_v vs 0) 142) j) := fun j hj => ⟨fun h => by unfold w_ei; rw [s1.1, if_pos ⟨ad_11.symm, by rw [h]⟩], fun h => by unfold w_ei; rw [s1.1, if_neg (fun e => h (by have := e.2; omega))]⟩
  have hE_0_142_2 : ∀ j : Int, w_ei w1 (w_ar ws (n_v vs 0) 142) j = w_ei w2 (w_ar ws (n_v vs 0) 142) j := el_kp s2.1 r8 cr_0_142 (by decide)
  have hE_0_142_3 : ∀ j : Int, w_ei w2 (w_ar ws (n_v vs 0) 142) j = w_ei w3 (w_ar ws (n_v vs 0) 142) j := el_kp s3.1 r4 cr_0_142 (by decide)
  have hK_0_142 := elq_106 hD hth cr_0_142
  have hE_0_143_1 : ∀ j : Int, w_ei ws (w_ar ws (n_v vs 0) 143) j = w_ei w1 (w_ar ws (n_v vs 0) 143) j := el_kp s1.1 r11 cr_0_143 (by decide)
  have hE_0_143_2 : ∀ j : Int, w_ei w1 (w_ar ws (n_v vs 0) 143) j = w_ei w2 (w_ar ws (n_v vs 0) 143) j := el_kp s2.1 r8 cr_0_143 (by decide)
  have hE_0_143_3 : ∀ j : Int, w_ei w2 (w_ar ws (n_v vs 0) 143) j = w_ei w3 (w_ar ws (n_v vs 0) 143) j := el_kp s3.1 r4 cr_0_143 (by decide)
  have hK_0_143 := elq_107 hD hth cr_0_143
  have kz_0_146 := fdq_179 hD hth r0
  have kz_0_147 := fdq_180 hD hth r0
  have nf0 : fc_1 PRD (20, [0, 3], [60, 2, 4, 496, 146, 147, 143, 140, 141, 142]) ws (vs) := ⟨nf_in hl rfl, sgq_707 (vc_Mo_reached_at_gi_1_0 (v_iv (n_v vs 1)) (v_iv (n_v vs 2)) (v_iv (n_v vs 3)) (v_iv (n_v vs 5)) (v_iv (n_v vs 6)) (v_iv (n_v vs 7)) (v_iv (n_v vs 9)) (v_iv (n_v vs 10)) (v_iv (n_v vs 12)) (v_iv (n_v vs 13)) (v_iv (n_v vs 14)) (v_iv (n_v vs 15)) (v_iv (n_v vs 16)) (w_ei w1 (w_ar ws (n_v vs 0) 142)) (w_ei w2 (w_ar ws (n_v vs 0) 142)) (w_ei w3 (w_ar ws (n_v vs 0) 140)) (w_ei w3 (w_ar ws (n_v vs 0) 143)) (w_ei w3 (w_ar ws (n_v vs 0) 141)) (w_ei w3 (w_ar ws (n_v vs 0) 142)) (w_fi w3 (n_v vs 0) 146) (w_fi w3 (n_v vs 0) 147) (w_fi ws (n_v vs 0) 146) (w_fi w1 (n_v vs 0) 146) (w_fi ws (n_v vs 0) 147) (w_fi w1 (n_v vs 0) 147) (w_fi w2 (n_v vs 0) 146) (w_fi w2 (n_v vs 0) 147) (w_ei ws (w_ar ws (n_v vs 0) 140)) (w_ei w1 (w_ar ws (n_v vs 0) 140)) (w_ei w2 (w_ar ws (n_v vs 0) 140)) (w_ei ws (w_ar ws (n_v vs 0) 141)) (w_ei w1 (w_ar ws (n_v vs 0) 141)) (w_ei w2 (w_ar ws (n_v vs 0) 141)) (w_ei ws (w_ar ws (n_v vs 0) 142)) (w_ei ws (w_ar ws (n_v vs 0) 143)) (w_ei w1 (w_ar ws (n_v vs 0) 143)) (w_ei w2 (w_ar ws (n_v vs 0) 143)) k1 k2 k3 k5 k6 k7 k9 k10 k12 k13 k14 k15 k16 d0 d1 (shm_12 f1) h2 (shm_12 f5) h6 f7 (shm_573 f9) (shm_11 f10) (shm_21 f13) h14 f15 f16 fe_0_146_1 fe_0_147_1 fe_0_146_2 fe_0_147_2 fe_0_146_3 fe_0_147_3 hE_0_140_1 hE_0_140_2 hE_0_140_3 hK_0_140 hE_0_141_1 hE_0_141_2 hE_0_141_3 hK_0_141 hE_0_142_1 hE_0_142_2 hE_0_142_3 hK_0_142 hE_0_143_1 hE_0_143_2 hE_0_143_3 hK_0_143 kz_0_146 kz_0_147)⟩
  refine ⟨(fun _ h => (by cases h)), [], trivial, ?_, (fun _ h => (by cases h))⟩
  rw [List.append_nil]
  exact List.forall_mem_cons.mpr ⟨⟨show (20 : Nat) < 100 from by decide, nf0⟩, (fun _ h => (by cases h))⟩
def n_Mo_reached_at_gi_an : List an_T := []
def t_Mo_reached_at_gi_ct : ct_L := []
set_option maxRecDepth 100000 in
theorem c_Mo_reached_at_gi {l : Launch} {D : va_G} {kA : Nat → ClassId} : ct_ok PRD l D kA GG y_Mo_reached_at_gi z_Mo_reached_at_gi e_Mo_reached_at_gi := chk_all_ok (FT := [(317, 13, 140), (321, 13, 141), (324, 13, 142)]) (PT := []) (CT := t_Mo_reached_at_gi_ct) (KT := []) (NT := []) (AN := n_Mo_reached_at_gi_an) (OT := [o_Mo_reached_at_gi_0, o_Mo_reached_at_gi_1]) 0 200 (List.forall_mem_cons.mpr ⟨oo_Mo_reached_at_gi_0, List.forall_mem_cons.mpr ⟨oo_Mo_reached_at_gi_1, List.forall_mem_nil _⟩⟩) (by decide +kernel) ⟨List.forall_mem_cons.mpr ⟨gf_Mo_317, List.forall_mem_cons.mpr ⟨gf_Mo_321, List.forall_mem_cons.mpr ⟨gf_Mo_324, List.forall_mem_nil _⟩⟩⟩, List.forall_mem_nil _, List.forall_mem_nil _, List.forall_mem_nil _, List.forall_mem_nil _, GG_pl⟩ (by decide +kernel)
set_option maxHeartbeats 4000000 in
theorem vc_Mo_rootOf_0_0 (x2 : Int) (gx : Int) (k2 : 1073741824 ≤ x2 ∧ x2 ≤ 1073741824) (ex2 : gx = 0 + (1 * x2 + 0)) (ex3 : 0 ≤ gx ∧ gx ≤ 1073741824) : 1 * gx + ((-1) * x2 + 0) ≤ 0 := by
  first | assumption | omega | grind
set_option maxHeartbeats 4000000 in
theorem vc_Mo_rootOf_0_1 (x2 : Int) (gx : Int) (k2 : 1073741824 ≤ x2 ∧ x2 ≤ 1073741824) (ex2 : gx = 0 + (1 * x2 + 0)) (ex3 : 0 ≤ gx ∧ gx ≤ 1073741824) : (-1) * gx + (1 * x2 + 0) ≤ 0 := by
  first | assumption | omega | grind
def o_Mo_rootOf_0 : or_T := (7, 3, [(2, (1, 1073741824, 1073741824, []))], [], [], [(0, 0, 1073741824, [])], [(20, [3, 2], [30, 0, 1, 0, 0, -1, 0, 0]), (20, [3, 2], [30, 0, -1, 0, 0, 1, 0, 0])], [], [])
theorem oo_Mo_rootOf_0 {kA : Nat → ClassId} : or_ok PRD kA GG o_Mo_rootOf_0 := by
  refine or_mk fun A ta ws vs hD hth hl => ?_
  intro t2 k2
  obtain ⟨x, ex, hx⟩ := iv_ex (ta := ta) (lo := 0) (hi := 1073741824) (z := 0 + (1 * v_iv (n_v vs 2) + 0)) (by omega) (by omega) (by omega) (by omega)
  have ex2 : v_iv (Value.int x) = 0 + (1 * v_iv (n_v vs 2) + 0) := ex
  have ex3 : 0 ≤ v_iv (Value.int x) ∧ v_iv (Value.int x) ≤ 1073741824 := tv_rng hx
  have e_2 : n_v (vs ++ [Value.int x]) 2 = n_v vs 2 := n_v_old (by rw [hl]; decide)
  have e_3 : n_v (vs ++ [Value.int x]) 3 = Value.int x := n_v_new hl
  have nf0 : fc_1 PRD (20, [3, 2], [30, 0, 1, 0, 0, -1, 0, 0]) ws (vs ++ [Value.int x]) := by
    refine ⟨nf_inA hl rfl, sgq_201 ?_⟩
    · show 1 * v_iv (n_v (vs ++ [Value.int x]) 3) + ((-1) * v_iv (n_v (vs ++ [Value.int x]) 2) + 0) ≤ 0
      simp only [e_2, e_3]
      exact vc_Mo_rootOf_0_0 (v_iv (n_v vs 2)) (v_iv (Value.int x)) k2 ex2 ex3
  have nf1 : fc_1 PRD (20, [3, 2], [30, 0, -1, 0, 0, 1, 0, 0]) ws (vs ++ [Value.int x]) := by
    refine ⟨nf_inA hl rfl, sgq_709 ?_⟩
    · show (-1) * v_iv (n_v (vs ++ [Value.int x]) 3) + (1 * v_iv (n_v (vs ++ [Value.int x]) 2) + 0) ≤ 0
      simp only [e_2, e_3]
      exact vc_Mo_rootOf_0_1 (v_iv (n_v vs 2)) (v_iv (Value.int x)) k2 ex2 ex3
  exact ⟨(fun _ h => (by cases h)), [Value.int x], ag_one hx, List.forall_mem_cons.mpr ⟨⟨show (20 : Nat) < 100 from by decide, nf0⟩, List.forall_mem_cons.mpr ⟨⟨show (20 : Nat) < 100 from by decide, nf1⟩, (fun _ h => (by cases h))⟩⟩, (fun _ h => (by cases h))⟩
set_option maxHeartbeats 4000000 in
theorem vc_Mo_rootOf_1_0 (x2 : Int) (x3 : Int) (x4 : Int) (gx : Int) (k2 : 1 ≤ x2 ∧ x2 ≤ 1073741824) (k3 : 0 ≤ x3 ∧ x3 ≤ 1073741824) (k4 : 0 ≤ x4 ∧ x4 ≤ 0) (f0 : x4 < x2) (f1 : 1 * x3 + ((-1) * x2 + 0) ≤ 0) (f2 : (-1) * x3 + (1 * x2 + 0) ≤ 0) (ex2 : gx = 0 + (1 * x3 + 0)) (ex3 : 0 ≤ gx ∧ gx ≤ 1073741824) : x2 = gx := by
  first | assumption | omega | grind
set_option maxHeartbeats 4000000 in
theorem vc_Mo_rootOf_1_1 (x2 : Int) (x3 : Int) (x4 : Int) (gx : Int) (k2 : 1 ≤ x2 ∧ x2 ≤ 1073741824) (k3 : 0 ≤ x3 ∧ x3 ≤ 1073741824) (k4 : 0 ≤ x4 ∧ x4 ≤ 0) (f0 : x4 < x2) (f1 : 1 * x3 + ((-1) * x2 + 0) ≤ 0) (f2 : (-1) * x3 + (1 * x2 + 0) ≤ 0) (ex2 : gx = 0 + (1 * x3 + 0)) (ex3 : 0 ≤ gx ∧ gx ≤ 1073741824) : 1 ≤ x2 := by
  first | assumption | omega | grind
def o_Mo_rootOf_1 : or_T := (33, 8, [(2, (1, 1, 1073741824, [])), (3, (0, 0, 1073741824, [])), (4, (1, 0, 0, []))], [(7, [2, 4], [4]), (20, [3, 2], [30, 0, 1, 0, 0, -1, 0, 0]), (20, [3, 2], [30, 0, -1, 0, 0, 1, 0, 0])], [], [(0, 0, 1073741824, [])], [(20, [2, 8], [50, 0, 0, 1, 2, 1, 0, 1, 1]), (20, [2], [50, 0, 0, 0, 2, 0, 1, 1, 0])], [(8, 3, 0, 0)], [])
theorem oo_Mo_rootOf_1 {kA : Nat → ClassId} : or_ok PRD kA GG o_Mo_rootOf_1 := by
  refine or_mk fun A ta ws vs hD hth hl => ?_
  intro t2 k2 t3 k3 t4 k4 f0 f1 f2
  replace f0 := shm_21 f0
  replace f1 := shm_201 f1
  replace f2 := shm_709 f2
  obtain ⟨x, ex, hx⟩ := iv_ex (ta := ta) (lo := 0) (hi := 1073741824) (z := 0 + (1 * v_iv (n_v vs 3) + 0)) (by omega) (by omega) (by omega) (by omega)
  have ex2 : v_iv (Value.int x) = 0 + (1 * v_iv (n_v vs 3) + 0) := ex
  have ex3 : 0 ≤ v_iv (Value.int x) ∧ v_iv (Value.int x) ≤ 1073741824 := tv_rng hx
  have e_2 : n_v (vs ++ [Value.int x]) 2 = n_v vs 2 := n_v_old (by rw [hl]; decide)
  have e_8 : n_v (vs ++ [Value.int x]) 8 = Value.int x := n_v_new hl
  have nf0 : fc_1 PRD (20, [2, 8], [50, 0, 0, 1, 2, 1, 0, 1, 1]) ws (vs ++ [Value.int x]) := by
    refine ⟨nf_inA hl rfl, sgq_48 ?_⟩
    · show v_iv (n_v (vs ++ [Value.int x]) 2) = v_iv (n_v (vs ++ [Value.int x]) 8)
      simp only [e_2, e_8]
      exact vc_Mo_rootOf_1_0 (v_iv (n_v vs 2)) (v_iv (n_v vs 3)) (v_iv (n_v vs 4)) (v_iv (Value.int x)) k2 k3 k4 f0 f1 f2 ex2 ex3
  have nf1 : fc_1 PRD (20, [2], [50, 0, 0, 0, 2, 0, 1, 1, 0]) ws (vs ++ [Value.int x]) := by
    refine ⟨nf_inA hl rfl, sgq_710 ?_⟩
    · show 1 ≤ v_iv (n_v (vs ++ [Value.int x]) 2)
      rw [e_2]
      exact vc_Mo_rootOf_1_1 (v_iv (n_v vs 2)) (v_iv (n_v vs 3)) (v_iv (n_v vs 4)) (v_iv (Value.int x)) k2 k3 k4 f0 f1 f2 ex2 ex3
  obtain ⟨x0, e0, _, _⟩ := tv_int t3 rfl
  have e1 : v_iv (n_v vs 3) = x0.toInt := by rw [e0]; rfl
  have ho : sy_ofs (vs ++ [Value.int x]) (8, 3, 0, 0) := by
    refine ⟨x, x0, by rw [List.getElem?_append_right (by rw [hl]; decide), hl]; rfl, ?_, ?_, ?_⟩
    · rw [List.getElem?_append_left (by rw [hl]; decide)]; exact n_v_some (by rw [hl]; decide) e0
    · show x0.toInt + 0 ≤ x.toInt; omega
    · show x.toInt ≤ x0.toInt + 0; omega
  exact ⟨(fun _ h => (by cases h)), [Value.int x], ag_one hx, List.forall_mem_cons.mpr ⟨⟨show (20 : Nat) < 100 from by decide, nf0⟩, List.forall_mem_cons.mpr ⟨⟨show (20 : Nat) < 100 from by decide, nf1⟩, (fun _ h => (by cases h))⟩⟩, List.forall_mem_cons.mpr ⟨ho, (fun _ h => (by cases h))⟩⟩
set_option maxHeartbeats 4000000 in
theorem vc_Mo_rootOf_2_0 (x2 : Int) (x3 : Int) (x4 : Int) (gx : Int) (k2 : 1 ≤ x2 ∧ x2 ≤ 1073741824) (k3 : 0 ≤ x3 ∧ x3 ≤ 1073741824) (k4 : 0 ≤ x4 ∧ x4 ≤ 0) (f0 : x4 < x2) (f1 : 1 * x3 + ((-1) * x2 + 0) ≤ 0) (f2 : (-1) * x3 + (1 * x2 + 0) ≤ 0) (ex2 : gx = 0 + (1 * x3 + 0)) (ex3 : 0 ≤ gx ∧ gx ≤ 1073741824) : x2 = gx := by
  first | assumption | omega | grind
set_option maxHeartbeats 4000000 in
theorem vc_Mo_rootOf_2_1 (x2 : Int) (x3 : Int) (x4 : Int) (gx : Int) (k2 : 1 ≤ x2 ∧ x2 ≤ 1073741824) (k3 : 0 ≤ x3 ∧ x3 ≤ 1073741824) (k4 : 0 ≤ x4 ∧ x4 ≤ 0) (f0 : x4 < x2) (f1 : 1 * x3 + ((-1) * x2 + 0) ≤ 0) (f2 : (-1) * x3 + (1 * x2 + 0) ≤ 0) (ex2 : gx = 0 + (1 * x3 + 0)) (ex3 : 0 ≤ gx ∧ gx ≤ 1073741824) : 1 ≤ x2 := by
  first | assumption | omega | grind
def o_Mo_rootOf_2 : or_T := (33, 9, [(2, (1, 1, 1073741824, [])), (3, (0, 0, 1073741824, [])), (4, (1, 0, 0, []))], [(7, [2, 4], [4]), (20, [3, 2], [30, 0, 1, 0, 0, -1, 0, 0]), (20, [3, 2], [30, 0, -1, 0, 0, 1, 0, 0])], [], [(0, 0, 1073741824, [])], [(20, [2, 9], [50, 0, 0, 1, 2, 1, 0, 1, 1]), (20, [2], [50, 0, 0, 0, 2, 0, 1, 1, 0])], [(9, 3, 0, 0)], [])
theorem oo_Mo_rootOf_2 {kA : Nat → ClassId} : or_ok PRD kA GG o_Mo_rootOf_2 := by
  refine or_mk fun A ta ws vs hD hth hl => ?_
  intro t2 k2 t3 k3 t4 k4 f0 f1 f2
  replace f0 := shm_21 f0
  replace f1 := shm_201 f1
  replace f2 := shm_709 f2
  obtain ⟨x, ex, hx⟩ := iv_ex (ta := ta) (lo := 0) (hi := 1073741824) (z := 0 + (1 * v_iv (n_v vs 3) + 0)) (by omega) (by omega) (by omega) (by omega)
  have ex2 : v_iv (Value.int x) = 0 + (1 * v_iv (n_v vs 3) + 0) := ex
  have ex3 : 0 ≤ v_iv (Value.int x) ∧ v_iv (Value.int x) ≤ 1073741824 := tv_rng hx
  have e_2 : n_v (vs ++ [Value.int x]) 2 = n_v vs 2 := n_v_old (by rw [hl]; decide)
  have e_9 : n_v (vs ++ [Value.int x]) 9 = Value.int x := n_v_new hl
  have nf0 : fc_1 PRD (20, [2, 9], [50, 0, 0, 1, 2, 1, 0, 1, 1]) ws (vs ++ [Value.int x]) := by
    refine ⟨nf_inA hl rfl, sgq_48 ?_⟩
    · show v_iv (n_v (vs ++ [Value.int x]) 2) = v_iv (n_v (vs ++ [Value.int x]) 9)
      simp only [e_2, e_9]
      exact vc_Mo_rootOf_2_0 (v_iv (n_v vs 2)) (v_iv (n_v vs 3)) (v_iv (n_v vs 4)) (v_iv (Value.int x)) k2 k3 k4 f0 f1 f2 ex2 ex3
  have nf1 : fc_1 PRD (20, [2], [50, 0, 0, 0, 2, 0, 1, 1, 0]) ws (vs ++ [Value.int x]) := by
    refine ⟨nf_inA hl rfl, sgq_710 ?_⟩
    · show 1 ≤ v_iv (n_v (vs ++ [Value.int x]) 2)
      rw [e_2]
      exact vc_Mo_rootOf_2_1 (v_iv (n_v vs 2)) (v_iv (n_v vs 3)) (v_iv (n_v vs 4)) (v_iv (Value.int x)) k2 k3 k4 f0 f1 f2 ex2 ex3
  obtain ⟨x0, e0, _, _⟩ := tv_int t3 rfl
  have e1 : v_iv (n_v vs 3) = x0.toInt := by rw [e0]; rfl
  have ho : sy_ofs (vs ++ [Value.int x]) (9, 3, 0, 0) := by
    refine ⟨x, x0, by rw [List.getElem?_append_right (by rw [hl]; decide), hl]; rfl, ?_, ?_, ?_⟩
    · rw [List.getElem?_append_left (by rw [hl]; decide)]; exact n_v_some (by rw [hl]; decide) e0
    · show x0.toInt + 0 ≤ x.toInt; omega
    · show x.toInt ≤ x0.toInt + 0; omega
  exact ⟨(fun _ h => (by cases h)), [Value.int x], ag_one hx, List.forall_mem_cons.mpr ⟨⟨show (20 : Nat) < 100 from by decide, nf0⟩, List.forall_mem_cons.mpr ⟨⟨show (20 : Nat) < 100 from by decide, nf1⟩, (fun _ h => (by cases h))⟩⟩, List.forall_mem_cons.mpr ⟨ho, (fun _ h => (by cases h))⟩⟩
set_option maxHeartbeats 4000000 in
theorem vc_Mo_rootOf_3_0 (x2 : Int) (x3 : Int) (x5 : Int) (gx : Int) (k2 : 1 ≤ x2 ∧ x2 ≤ 1073741824) (k3 : 0 ≤ x3 ∧ x3 ≤ 1073741824) (k5 : 0 ≤ x5 ∧ x5 ≤ 536870912) (f0 : x5 = x2 / 2) (f1 : x2 = x3) (f2 : 1 ≤ x2) (ex2 : gx = 0 + (1 * x5 + 0)) (ex3 : 0 ≤ gx ∧ gx ≤ 1073741824) : 1 * gx + ((-1) * x5 + 0) ≤ 0 := by
  first | assumption | omega | grind
set_option maxHeartbeats 4000000 in
theorem vc_Mo_rootOf_3_1 (x2 : Int) (x3 : Int) (x5 : Int) (gx : Int) (k2 : 1 ≤ x2 ∧ x2 ≤ 1073741824) (k3 : 0 ≤ x3 ∧ x3 ≤ 1073741824) (k5 : 0 ≤ x5 ∧ x5 ≤ 536870912) (f0 : x5 = x2 / 2) (f1 : x2 = x3) (f2 : 1 ≤ x2) (ex2 : gx = 0 + (1 * x5 + 0)) (ex3 : 0 ≤ gx ∧ gx ≤ 1073741824) : (-1) * gx + (1 * x5 + 0) ≤ 0 := by
  first | assumption | omega | grind
def o_Mo_rootOf_3 : or_T := (7, 6, [(2, (1, 1, 1073741824, [])), (3, (0, 0, 1073741824, [])), (5, (1, 0, 536870912, []))], [(11, [5, 2], [2]), (20, [2, 3], [50, 0, 0, 1, 2, 1, 0, 1, 1]), (20, [2], [50, 0, 0, 0, 2, 0, 1, 1, 0])], [], [(0, 0, 1073741824, [])], [(20, [6, 5], [30, 0, 1, 0, 0, -1, 0, 0]), (20, [6, 5], [30, 0, -1, 0, 0, 1, 0, 0])], [(6, 3, -1000000000000, -1)], [])
theorem oo_Mo_rootOf_3 {kA : Nat → ClassId} : or_ok PRD kA GG o_Mo_rootOf_3 := by
  refine or_mk fun A ta ws vs hD hth hl => ?_
  intro t2 k2 t3 k3 t5 k5 f0 f1 f2
  replace f0 := shm_585 f0
  replace f1 := shm_48 f1
  replace f2 := shm_710 f2
  obtain ⟨x, ex, hx⟩ := iv_ex (ta := ta) (lo := 0) (hi := 1073741824) (z := 0 + (1 * v_iv (n_v vs 5) + 0)) (by omega) (by omega) (by omega) (by omega)
  have ex2 : v_iv (Value.int x) = 0 + (1 * v_iv (n_v vs 5) + 0) := ex
  have ex3 : 0 ≤ v_iv (Value.int x) ∧ v_iv (Value.int x) ≤ 1073741824 := tv_rng hx
  have e_5 : n_v (vs ++ [Value.int x]) 5 = n_v vs 5 := n_v_old (by rw [hl]; decide)
  have e_6 : n_v (vs ++ [Value.int x]) 6 = Value.int x := n_v_new hl
  have nf0 : fc_1 PRD (20, [6, 5], [30, 0, 1, 0, 0, -1, 0, 0]) ws (vs ++ [Value.int x]) := by
    refine ⟨nf_inA hl rfl, sgq_201 ?_⟩
    · show 1 * v_iv (n_v (vs ++ [Value.int x]) 6) + ((-1) * v_iv (n_v (vs ++ [Value.int x]) 5) + 0) ≤ 0
      simp only [e_5, e_6]
      exact vc_Mo_rootOf_3_0 (v_iv (n_v vs 2)) (v_iv (n_v vs 3)) (v_iv (n_v vs 5)) (v_iv (Value.int x)) k2 k3 k5 f0 f1 f2 ex2 ex3
  have nf1 : fc_1 PRD (20, [6, 5], [30, 0, -1, 0, 0, 1, 0, 0]) ws (vs ++ [Value.int x]) := by
    refine ⟨nf_inA hl rfl, sgq_709 ?_⟩
    · show (-1) * v_iv (n_v (vs ++ [Value.int x]) 6) + (1 * v_iv (n_v (vs ++ [Value.int x]) 5) + 0) ≤ 0
      simp only [e_5, e_6]
      exact vc_Mo_rootOf_3_1 (v_iv (n_v vs 2)) (v_iv (n_v vs 3)) (v_iv (n_v vs 5)) (v_iv (Value.int x)) k2 k3 k5 f0 f1 f2 ex2 ex3
  obtain ⟨x0, e0, _, _⟩ := tv_int t3 rfl
  have e1 : v_iv (n_v vs 3) = x0.toInt := by rw [e0]; rfl
  have ho : sy_ofs (vs ++ [Value.int x]) (6, 3, -1000000000000, -1) := by
    refine ⟨x, x0, by rw [List.getElem?_append_right (by rw [hl]; decide), hl]; rfl, ?_, ?_, ?_⟩
    · rw [List.getElem?_append_left (by rw [hl]; decide)]; exact n_v_some (by rw [hl]; decide) e0
    · show x0.toInt + (-1000000000000) ≤ x.toInt; omega
    · show x.toInt ≤ x0.toInt + (-1); omega
  exact ⟨(fun _ h => (by cases h)), [Value.int x], ag_one hx, List.forall_mem_cons.mpr ⟨⟨show (20 : Nat) < 100 from by decide, nf0⟩, List.forall_mem_cons.mpr ⟨⟨show (20 : Nat) < 100 from by decide, nf1⟩, (fun _ h => (by cases h))⟩⟩, List.forall_mem_cons.mpr ⟨ho, (fun _ h => (by cases h))⟩⟩
def n_Mo_rootOf_an : List an_T := [(7, [(0, (1, 1, 28800000000, [])), (2, (1, (Int.negSucc 9223372036854775807), 9223372036854775807, [])), (4, (1, 0, 1073741824, []))], [], (0, 0), [(0, 0, 99993), (2, 3, 0), (0, 0, 100000)], [], [], [], 0, [(0, 0, 1073741824, [])], [(20, [3, 2], [30, 0, 1, 0, 0, (Int.negSucc 0), 0, 0]), (20, [3, 2], [30, 0, (Int.negSucc 0), 0, 0, 1, 0, 0])]), (33, [(0, (1, 1, 28800000000, [])), (2, (1, (Int.negSucc 9223372036854775807), 9223372036854775807, [])), (4, (1, 1, 1073741824, []))], [], (0, 0), [(0, 0, 99993), (2, 3, 0), (0, 0, 99967)], [], [], [], 0, [(0, 0, 1073741824, [])], [(20, [2, 3], [50, 0, 0, 1, 2, 1, 0, 1, 1]), (20, [2], [50, 0, 0, 0, 2, 0, 1, 1, 0])])]
def t_Mo_rootOf_ct : ct_L := []
set_option maxRecDepth 100000 in
theorem c_Mo_rootOf {l : Launch} {D : va_G} {kA : Nat → ClassId} : ct_ok PRD l D kA GG y_Mo_rootOf z_Mo_rootOf e_Mo_rootOf := chk_all_ok (FT := []) (PT := []) (CT := t_Mo_rootOf_ct) (KT := [(2, 994, .long (1073741824), (1, 1073741824, 1073741824, []))]) (NT := []) (AN := n_Mo_rootOf_an) (OT := [o_Mo_rootOf_0, o_Mo_rootOf_1, o_Mo_rootOf_2, o_Mo_rootOf_3]) 3 200 (List.forall_mem_cons.mpr ⟨oo_Mo_rootOf_0, List.forall_mem_cons.mpr ⟨oo_Mo_rootOf_1, List.forall_mem_cons.mpr ⟨oo_Mo_rootOf_2, List.forall_mem_cons.mpr ⟨oo_Mo_rootOf_3, List.forall_mem_nil _⟩⟩⟩⟩) (by decide +kernel) ⟨List.forall_mem_nil _, List.forall_mem_nil _, List.forall_mem_nil _, List.forall_mem_cons.mpr ⟨⟨kt_mk2 wm_3630, fun _ => Or.inr (Or.inl ⟨rfl, _, rfl, by decide, by decide⟩)⟩, List.forall_mem_nil _⟩, List.forall_mem_nil _, GG_pl⟩ (by decide +kernel)
set_option maxHeartbeats 4000000 in
theorem vc_Mo_rowPlace_0_0 (x1 : Int) (x2 : Int) (row_0 : Int → Int) (rowMany_0 : Int) (k1 : 0 ≤ x1 ∧ x1 ≤ 24) (k2 : 0 ≤ x2 ∧ x2 ≤ 0) (f0 : RPL (rowMany_0) (row_0) (x1)) (hK_0_117 : ∀ j : Int, 0 ≤ j → j < 100 → 0 ≤ row_0 j ∧ row_0 j ≤ 75) (kz_0_125 : 0 ≤ rowMany_0 ∧ rowMany_0 ≤ 100) : RP1 (row_0) (x1) (x2) := by
  first
    | (intro j a b; exfalso; omega)
    | (refine rp1_next ‹RP1 _ _ _› (by omega) ?_
       omega)
def o_Mo_rowPlace_0 : or_T := (2, 3, [(0, (2, 0, 0, [165])), (1, (0, 0, 24, [])), (2, (0, 0, 0, []))], [(20, [0, 1], [60, 1, 1, 308, 125, 117])], [], [], [(20, [0, 1, 2], [60, 0, 1, 309, 117]), (24, [0, 0], []), (24, [1, 1], [])], [], [])
theorem oo_Mo_rowPlace_0 {kA : Nat → ClassId} : or_ok PRD kA GG o_Mo_rowPlace_0 := by
  refine or_mk fun A ta ws vs hD hth hl => ?_
  intro t0 r0 t1 k1 t2 k2 f0
  have cr_0_117 := fdq_181 hD hth r0
  have hK_0_117 := elq_108 hD hth cr_0_117
  have kz_0_125 := fdq_182 hD hth r0
  have nf0 : fc_1 PRD (20, [0, 1, 2], [60, 0, 1, 309, 117]) ws (vs) := ⟨nf_in hl rfl, sgq_712 (vc_Mo_rowPlace_0_0 (v_iv (n_v vs 1)) (v_iv (n_v vs 2)) (w_ei ws (w_ar ws (n_v vs 0) 117)) (w_fi ws (n_v vs 0) 125) k1 k2 (shm_711 f0) hK_0_117 kz_0_125)⟩
  have nf1 : fc_1 PRD (24, [0, 0], []) ws (vs) := by
    refine ⟨nf_in hl rfl, sgq_1 ?_⟩
    · show n_v vs 0 = n_v vs 0
      first | rfl | simp only [true_and]
  have nf2 : fc_1 PRD (24, [1, 1], []) ws (vs) := by
    refine ⟨nf_in hl rfl, sgq_1 ?_⟩
    · show n_v vs 1 = n_v vs 1
      first | rfl | simp only [true_and]
  refine ⟨(fun _ h => (by cases h)), [], trivial, ?_, (fun _ h => (by cases h))⟩
  rw [List.append_nil]
  exact List.forall_mem_cons.mpr ⟨⟨show (20 : Nat) < 100 from by decide, nf0⟩, List.forall_mem_cons.mpr ⟨⟨show (24 : Nat) < 100 from by decide, nf1⟩, List.forall_mem_cons.mpr ⟨⟨show (24 : Nat) < 100 from by decide, nf2⟩, (fun _ h => (by cases h))⟩⟩⟩
set_option maxHeartbeats 4000000 in
theorem vc_Mo_rowPlace_1_0 (x1 : Int) (x3 : Int) (x4 : Int) (x6 : Int) (row_0 : Int → Int) (rowMany_0 : Int) (k1 : 0 ≤ x1 ∧ x1 ≤ 24) (k3 : 0 ≤ x3 ∧ x3 ≤ 24) (k4 : 0 ≤ x4 ∧ x4 ≤ 99) (k6 : 0 ≤ x6 ∧ x6 ≤ 24) (d0 : x3 + 0 ≤ x6 ∧ x6 ≤ x3 + 0) (d1 : x3 + (-4294967296) ≤ x1 ∧ x1 ≤ x3 + 0) (d2 : x1 + (-4294967296) ≤ x3 ∧ x3 ≤ x1 + 0) (f0 : x6 = x1) (h1 : x6 = row_0 (x4)) (f3 : RPL (rowMany_0) (row_0) (x1)) (f4 : RP1 (row_0) (x1) (x4)) (hK_0_117 : ∀ j : Int, 0 ≤ j → j < 100 → 0 ≤ row_0 j ∧ row_0 j ≤ 75) (kz_0_125 : 0 ≤ rowMany_0 ∧ rowMany_0 ≤ 100) : RPQ (rowMany_0) (row_0) (x1) (x4) := by
  have h := rp_lt ‹RPL _ _ _› ‹RP1 _ _ _›
  exact ⟨by omega, by omega, by omega⟩
def o_Mo_rowPlace_1 : or_T := (19, 7, [(0, (2, 0, 0, [165])), (1, (0, 0, 24, [])), (3, (0, 0, 24, [])), (4, (0, 0, 99, [])), (6, (0, 0, 24, []))], [(7, [6, 3], [0]), (10, [6, 5, 4], []), (9, [5, 2], [117]), (20, [2, 3], [60, 1, 1, 308, 125, 117]), (20, [2, 3, 4], [60, 0, 1, 309, 117]), (24, [0, 2], []), (24, [1, 3], [])], [], [], [(20, [0, 1, 4], [60, 1, 1, 310, 125, 117])], [], [(6, 3, 0, 0), (1, 3, -4294967296, 0), (3, 1, -4294967296, 0)])
theorem oo_Mo_rowPlace_1 {kA : Nat → ClassId} : or_ok PRD kA GG o_Mo_rowPlace_1 := by
  refine or_mk fun A ta ws vs hD hth hl => ?_
  intro t0 r0 t1 k1 t3 k3 t4 k4 t6 k6 d0 d1 d2 f0 f1 f2 f3 f4 f5 f6
  replace f0 := shm_37 f0
  replace f1 := shm_107 f1
  replace f2 := shm_713 f2
  replace f3 := shm_711 f3
  replace f4 := shm_712 f4
  replace f5 := shm_5 f5
  replace f6 := shm_5 f6
  have q2 : n_v vs 2 = n_v vs 0 := f5.symm
  have q3 : n_v vs 3 = n_v vs 1 := f6.symm
  simp only [q3, q2] at f0 f2 f3 f4
  have cr_0_117 := fdq_181 hD hth r0
  have ad_5 : v_ad (n_v vs 5) = w_ar ws (n_v vs 0) 117 := congrArg v_ad f2
  simp only [ad_5] at f1
  have h1 : v_iv (n_v vs 6) = w_ei ws (w_ar ws (n_v vs 0) 117) (v_iv (n_v vs 4)) := f1
  have hK_0_117 := elq_108 hD hth cr_0_117
  have kz_0_125 := fdq_182 hD hth r0
  have nf0 : fc_1 PRD (20, [0, 1, 4], [60, 1, 1, 310, 125, 117]) ws (vs) := ⟨nf_in hl rfl, sgq_714 (vc_Mo_rowPlace_1_0 (v_iv (n_v vs 1)) (v_iv (n_v vs 3)) (v_iv (n_v vs 4)) (v_iv (n_v vs 6)) (w_ei ws (w_ar ws (n_v vs 0) 117)) (w_fi ws (n_v vs 0) 125) k1 k3 k4 k6 d0 d1 d2 f0 h1 f3 f4 hK_0_117 kz_0_125)⟩
  refine ⟨(fun _ h => (by cases h)), [], trivial, ?_, (fun _ h => (by cases h))⟩
  rw [List.append_nil]
  exact List.forall_mem_cons.mpr ⟨⟨show (20 : Nat) < 100 from by decide, nf0⟩, (fun _ h => (by cases h))⟩
set_option maxHeartbeats 4000000 in
theorem vc_Mo_rowPlace_2_r0 (x1 : Int) (x3 : Int) (x4 : Int) (x6 : Int) (row_0 : Int → Int) (rowMany_0 : Int) (k1 : 0 ≤ x1 ∧ x1 ≤ 24) (k3 : 0 ≤ x3 ∧ x3 ≤ 24) (k4 : 0 ≤ x4 ∧ x4 ≤ 99) (k6 : 0 ≤ x6 ∧ x6 ≤ 75) (d0 : x3 + (-4294967296) ≤ x1 ∧ x1 ≤ x3 + 0) (d1 : x1 + (-4294967296) ≤ x3 ∧ x3 ≤ x1 + 0) (f0 : x6 ≠ x1) (h1 : x6 = row_0 (x4)) (f3 : RPL (rowMany_0) (row_0) (x1)) (f4 : RP1 (row_0) (x1) (x4)) (hK_0_117 : ∀ j : Int, 0 ≤ j → j < 100 → 0 ≤ row_0 j ∧ row_0 j ≤ 75) (kz_0_125 : 0 ≤ rowMany_0 ∧ rowMany_0 ≤ 100) : 0 ≤ x4 ∧ x4 ≤ 98 := by
  have h := rp_lt ‹RPL _ _ _› (rp1_next (k_zq := x4 + 1) ‹RP1 _ _ _› rfl (by omega))
  omega
def o_Mo_rowPlace_2 : or_T := (12, 7, [(0, (2, 0, 0, [165])), (1, (0, 0, 24, [])), (2, (2, 0, 0, [165])), (3, (0, 0, 24, [])), (4, (0, 0, 99, [])), (5, (2, 0, 0, [249])), (6, (0, 0, 75, []))], [(7, [6, 3], [1]), (10, [6, 5, 4], []), (9, [5, 2], [117]), (20, [2, 3], [60, 1, 1, 308, 125, 117]), (20, [2, 3, 4], [60, 0, 1, 309, 117]), (24, [0, 2], []), (24, [1, 3], [])], [(4, (0, 0, 98, []))], [], [], [], [(1, 3, -4294967296, 0), (3, 1, -4294967296, 0)])
theorem oo_Mo_rowPlace_2 {kA : Nat → ClassId} : or_ok PRD kA GG o_Mo_rowPlace_2 := by
  refine or_mk fun A ta ws vs hD hth hl => ?_
  intro t0 r0 t1 k1 t2 r2 t3 k3 t4 k4 t5 r5 t6 k6 d0 d1 f0 f1 f2 f3 f4 f5 f6
  replace f0 := shm_40 f0
  replace f1 := shm_107 f1
  replace f2 := shm_713 f2
  replace f3 := shm_711 f3
  replace f4 := shm_712 f4
  replace f5 := shm_5 f5
  replace f6 := shm_5 f6
  have q2 : n_v vs 2 = n_v vs 0 := f5.symm
  have q3 : n_v vs 3 = n_v vs 1 := f6.symm
  simp only [q3, q2] at f0 f2 f3 f4
  have cr_0_117 := fdq_181 hD hth r0
  have ad_5 : v_ad (n_v vs 5) = w_ar ws (n_v vs 0) 117 := congrArg v_ad f2
  simp only [ad_5] at f1
  have h1 : v_iv (n_v vs 6) = w_ei ws (w_ar ws (n_v vs 0) 117) (v_iv (n_v vs 4)) := f1
  have hK_0_117 := elq_108 hD hth cr_0_117
  have kz_0_125 := fdq_182 hD hth r0
  have hrf0 : 0 ≤ v_iv (n_v vs 4) ∧ v_iv (n_v vs 4) ≤ 98 := vc_Mo_rowPlace_2_r0 (v_iv (n_v vs 1)) (v_iv (n_v vs 3)) (v_iv (n_v vs 4)) (v_iv (n_v vs 6)) (w_ei ws (w_ar ws (n_v vs 0) 117)) (w_fi ws (n_v vs 0) 125) k1 k3 k4 k6 d0 d1 f0 h1 f3 f4 hK_0_117 kz_0_125
  have rf4 : tv_ok ta (0, 0, 98, []) (n_v vs 4) := tv_in t4 (by first | omega | grind) (by first | omega | grind)
  refine ⟨List.forall_mem_cons.mpr ⟨rf4, (fun _ h => (by cases h))⟩, [], trivial, ?_, (fun _ h => (by cases h))⟩
  rw [List.append_nil]
  exact (fun _ h => (by cases h))
set_option maxHeartbeats 4000000 in
theorem vc_Mo_rowPlace_3_0 (x1 : Int) (x3 : Int) (x4 : Int) (x6 : Int) (x7 : Int) (row_0 : Int → Int) (rowMany_0 : Int) (k1 : 0 ≤ x1 ∧ x1 ≤ 24) (k3 : 0 ≤ x3 ∧ x3 ≤ 24) (k4 : 0 ≤ x4 ∧ x4 ≤ 98) (k6 : 0 ≤ x6 ∧ x6 ≤ 75) (k7 : 1 ≤ x7 ∧ x7 ≤ 99) (d0 : x4 + 1 ≤ x7 ∧ x7 ≤ x4 + 1) (d1 : x3 + (-4294967296) ≤ x1 ∧ x1 ≤ x3 + 0) (d2 : x1 + (-4294967296) ≤ x3 ∧ x3 ≤ x1 + 0) (f0 : x7 = x4 + 1) (f1 : x6 ≠ x1) (h2 : x6 = row_0 (x4)) (f4 : RPL (rowMany_0) (row_0) (x1)) (f5 : RP1 (row_0) (x1) (x4)) (hK_0_117 : ∀ j : Int, 0 ≤ j → j < 100 → 0 ≤ row_0 j ∧ row_0 j ≤ 75) (kz_0_125 : 0 ≤ rowMany_0 ∧ rowMany_0 ≤ 100) : RP1 (row_0) (x1) (x7) := by
  first
    | (intro j a b; exfalso; omega)
    | (refine rp1_next ‹RP1 _ _ _› (by omega) ?_
       omega)
def o_Mo_rowPlace_3 : or_T := (2, 8, [(0, (2, 0, 0, [165])), (1, (0, 0, 24, [])), (3, (0, 0, 24, [])), (4, (0, 0, 98, [])), (6, (0, 0, 75, [])), (7, (0, 1, 99, []))], [(6, [7, 4], [1]), (7, [6, 3], [1]), (10, [6, 5, 4], []), (9, [5, 2], [117]), (20, [2, 3], [60, 1, 1, 308, 125, 117]), (20, [2, 3, 4], [60, 0, 1, 309, 117]), (24, [0, 2], []), (24, [1, 3], [])], [], [], [(20, [2, 3, 7], [60, 0, 1, 309, 117])], [], [(7, 4, 1, 1), (1, 3, -4294967296, 0), (3, 1, -4294967296, 0)])
theorem oo_Mo_rowPlace_3 {kA : Nat → ClassId} : or_ok PRD kA GG o_Mo_rowPlace_3 := by
  refine or_mk fun A ta ws vs hD hth hl => ?_
  intro t0 r0 t1 k1 t3 k3 t4 k4 t6 k6 t7 k7 d0 d1 d2 f0 f1 f2 f3 f4 f5 f6 f7
  replace f0 := shm_4 f0
  replace f1 := shm_40 f1
  replace f2 := shm_107 f2
  replace f3 := shm_713 f3
  replace f4 := shm_711 f4
  replace f5 := shm_712 f5
  replace f6 := shm_5 f6
  replace f7 := shm_5 f7
  have q2 : n_v vs 2 = n_v vs 0 := f6.symm
  have q3 : n_v vs 3 = n_v vs 1 := f7.symm
  simp only [q3, q2] at f1 f3 f4 f5
  have cr_0_117 := fdq_181 hD hth r0
  have ad_5 : v_ad (n_v vs 5) = w_ar ws (n_v vs 0) 117 := congrArg v_ad f3
  simp only [ad_5] at f2
  have h2 : v_iv (n_v vs 6) = w_ei ws (w_ar ws (n_v vs 0) 117) (v_iv (n_v vs 4)) := f2
  have hK_0_117 := elq_108 hD hth cr_0_117
  have kz_0_125 := fdq_182 hD hth r0
  have nf0 : fc_1 PRD (20, [2, 3, 7], [60, 0, 1, 309, 117]) ws (vs) := by
    refine ⟨nf_in hl rfl, sgq_712 ?_⟩
    · show RP1 (w_ei ws (w_ar ws (n_v vs 2) 117)) (v_iv (n_v vs 3)) (v_iv (n_v vs 7))
      simp only [q2, q3]
      exact vc_Mo_rowPlace_3_0 (v_iv (n_v vs 1)) (v_iv (n_v vs 3)) (v_iv (n_v vs 4)) (v_iv (n_v vs 6)) (v_iv (n_v vs 7)) (w_ei ws (w_ar ws (n_v vs 0) 117)) (w_fi ws (n_v vs 0) 125) k1 k3 k4 k6 k7 d0 d1 d2 f0 f1 h2 f4 f5 hK_0_117 kz_0_125
  refine ⟨(fun _ h => (by cases h)), [], trivial, ?_, (fun _ h => (by cases h))⟩
  rw [List.append_nil]
  exact List.forall_mem_cons.mpr ⟨⟨show (20 : Nat) < 100 from by decide, nf0⟩, (fun _ h => (by cases h))⟩
def n_Mo_rowPlace_an : List an_T := [(2, [(0, (2, 0, 0, [165])), (1, (0, 0, 24, [])), (2, (0, 0, 99, []))], [], (0, 0), [(0, 0, 99998), (1, 4, 99), (0, 0, 100000)], [(1, 3, (Int.negSucc 999999999999), 0), (3, 1, (Int.negSucc 999999999999), 0)], [], [(2, 0, 0, [165]), (0, 0, 24, [])], 0, [], [(20, [2, 3], [60, 1, 1, 308, 125, 117]), (20, [2, 3, 4], [60, 0, 1, 309, 117]), (24, [0, 2], []), (24, [1, 3], [])])]
def t_Mo_rowPlace_ct : ct_L := []
set_option maxRecDepth 100000 in
theorem c_Mo_rowPlace {l : Launch} {D : va_G} {kA : Nat → ClassId} : ct_ok PRD l D kA GG y_Mo_rowPlace z_Mo_rowPlace e_Mo_rowPlace := chk_all_ok (FT := [(265, 13, 117)]) (PT := []) (CT := t_Mo_rowPlace_ct) (KT := []) (NT := []) (AN := n_Mo_rowPlace_an) (OT := [o_Mo_rowPlace_0, o_Mo_rowPlace_1, o_Mo_rowPlace_2, o_Mo_rowPlace_3]) 3 200 (List.forall_mem_cons.mpr ⟨oo_Mo_rowPlace_0, List.forall_mem_cons.mpr ⟨oo_Mo_rowPlace_1, List.forall_mem_cons.mpr ⟨oo_Mo_rowPlace_2, List.forall_mem_cons.mpr ⟨oo_Mo_rowPlace_3, List.forall_mem_nil _⟩⟩⟩⟩) (by decide +kernel) ⟨List.forall_mem_cons.mpr ⟨gf_Mo_265, List.forall_mem_nil _⟩, List.forall_mem_nil _, List.forall_mem_nil _, List.forall_mem_nil _, List.forall_mem_nil _, GG_pl⟩ (by decide +kernel)
set_option maxHeartbeats 4000000 in
theorem vc_Mo_setBox_0_r0 (x1 : Int) (x2 : Int) (x3 : Int) (x4 : Int) (x5 : Int) (x6 : Int) (x7 : Int) (x9 : Int) (x10 : Int) (x11 : Int) (toldGroup_0 : Int → Int) (k1 : 0 ≤ x1 ∧ x1 ≤ 3) (k2 : 0 ≤ x2 ∧ x2 ≤ 99) (k3 : 0 ≤ x3 ∧ x3 ≤ 0) (k4 : 0 ≤ x4 ∧ x4 ≤ 512) (k5 : 0 ≤ x5 ∧ x5 ≤ 512) (k6 : (-512) ≤ x6 ∧ x6 ≤ 512) (k7 : (-512) ≤ x7 ∧ x7 ≤ 512) (k9 : 24 ≤ x9 ∧ x9 ≤ 24) (k10 : 0 ≤ x10 ∧ x10 ≤ 72) (k11 : 0 ≤ x11 ∧ x11 ≤ 171) (d0 : x2 + 0 ≤ x11 ∧ x11 ≤ x2 + 72) (d1 : x10 + 0 ≤ x11 ∧ x11 ≤ x10 + 99) (f0 : x11 = x10 + x2) (f1 : x10 = 24 * x1) (f2 : x3 = 0) (f3 : ((x3 = 1) ∧ (x2 ≤ 7)) ∨ ((x3 = 0) ∧ (x2 ≤ 23))) (f4 : HUL (x4) (x6)) (f5 : HUL (x5) (x7)) (f6 : BXG (toldGroup_0) (x1)) (hK_0_72 : ∀ j : Int, 0 ≤ j → j < 128 → (-512) ≤ toldGroup_0 j ∧ toldGroup_0 j ≤ 512) : 0 ≤ x11 ∧ x11 ≤ 95 := by
  omega
def o_Mo_setBox_0 : or_T := (22, 12, [(0, (2, 0, 0, [165])), (1, (0, 0, 3, [])), (2, (0, 0, 99, [])), (3, (0, 0, 0, [])), (4, (0, 0, 512, [])), (5, (0, 0, 512, [])), (6, (0, -512, 512, [])), (7, (0, -512, 512, [])), (9, (0, 24, 24, [])), (10, (0, 0, 72, [])), (11, (0, 0, 171, []))], [(1, [11, 10, 2], []), (3, [10, 9, 1], []), (8, [3], [0]), (20, [3, 2], [50, 0, 0, 3, 14, 2, 6, 1, 2, 1, 0, 0, 1, 0, 2, 1, 1, 0, 7, 2, 6, 1, 2, 1, 0, 0, 0, 0, 2, 1, 1, 0, 23]), (20, [4, 6], [61, 0, 791]), (20, [5, 7], [61, 0, 791]), (20, [0, 1], [60, 0, 1, 789, 72])], [(11, (0, 0, 95, []))], [], [], [], [(11, 2, 0, 72), (11, 10, 0, 99)])
theorem oo_Mo_setBox_0 {kA : Nat → ClassId} : or_ok PRD kA GG o_Mo_setBox_0 := by
  refine or_mk fun A ta ws vs hD hth hl => ?_
  intro t0 r0 t1 k1 t2 k2 t3 k3 t4 k4 t5 k5 t6 k6 t7 k7 t9 k9 t10 k10 t11 k11 d0 d1 f0 f1 f2 f3 f4 f5 f6
  replace f1 := shm_38 f1
  rw [show v_iv (n_v vs 9) = 24 from by omega] at f1
  have cr_0_72 := fdq_183 hD hth r0
  have hK_0_72 := elq_109 hD hth cr_0_72
  have hrf0 : 0 ≤ v_iv (n_v vs 11) ∧ v_iv (n_v vs 11) ≤ 95 := vc_Mo_setBox_0_r0 (v_iv (n_v vs 1)) (v_iv (n_v vs 2)) (v_iv (n_v vs 3)) (v_iv (n_v vs 4)) (v_iv (n_v vs 5)) (v_iv (n_v vs 6)) (v_iv (n_v vs 7)) (v_iv (n_v vs 9)) (v_iv (n_v vs 10)) (v_iv (n_v vs 11)) (w_ei ws (w_ar ws (n_v vs 0) 72)) k1 k2 k3 k4 k5 k6 k7 k9 k10 k11 d0 d1 (shm_12 f0) f1 (shm_192 f2) (shm_715 f3) (shm_417 f4) (shm_417 f5) (shm_716 f6) hK_0_72
  have rf11 : tv_ok ta (0, 0, 95, []) (n_v vs 11) := tv_in t11 (by first | omega | grind) (by first | omega | grind)
  refine ⟨List.forall_mem_cons.mpr ⟨rf11, (fun _ h => (by cases h))⟩, [], trivial, ?_, (fun _ h => (by cases h))⟩
  rw [List.append_nil]
  exact (fun _ h => (by cases h))
set_option maxHeartbeats 4000000 in
theorem vc_Mo_setBox_1_r0 (x1 : Int) (x2 : Int) (x3 : Int) (x4 : Int) (x5 : Int) (x6 : Int) (x7 : Int) (x9 : Int) (x10 : Int) (x11 : Int) (toldGroup_0 : Int → Int) (k1 : 0 ≤ x1 ∧ x1 ≤ 3) (k2 : 0 ≤ x2 ∧ x2 ≤ 99) (k3 : 1 ≤ x3 ∧ x3 ≤ 1) (k4 : 0 ≤ x4 ∧ x4 ≤ 512) (k5 : 0 ≤ x5 ∧ x5 ≤ 512) (k6 : (-512) ≤ x6 ∧ x6 ≤ 512) (k7 : (-512) ≤ x7 ∧ x7 ≤ 512) (k9 : 8 ≤ x9 ∧ x9 ≤ 8) (k10 : 0 ≤ x10 ∧ x10 ≤ 24) (k11 : 0 ≤ x11 ∧ x11 ≤ 123) (d0 : x2 + 0 ≤ x11 ∧ x11 ≤ x2 + 24) (d1 : x10 + 0 ≤ x11 ∧ x11 ≤ x10 + 99) (f0 : x11 = x10 + x2) (f1 : x10 = 8 * x1) (f2 : x3 ≠ 0) (f3 : ((x3 = 1) ∧ (x2 ≤ 7)) ∨ ((x3 = 0) ∧ (x2 ≤ 23))) (f4 : HUL (x4) (x6)) (f5 : HUL (x5) (x7)) (f6 : BXG (toldGroup_0) (x1)) (hK_0_72 : ∀ j : Int, 0 ≤ j → j < 128 → (-512) ≤ toldGroup_0 j ∧ toldGroup_0 j ≤ 512) : 0 ≤ x11 ∧ x11 ≤ 31 := by
  omega
def o_Mo_setBox_1 : or_T := (11, 12, [(0, (2, 0, 0, [165])), (1, (0, 0, 3, [])), (2, (0, 0, 99, [])), (3, (0, 1, 1, [])), (4, (0, 0, 512, [])), (5, (0, 0, 512, [])), (6, (0, -512, 512, [])), (7, (0, -512, 512, [])), (9, (0, 8, 8, [])), (10, (0, 0, 24, [])), (11, (0, 0, 123, []))], [(1, [11, 10, 2], []), (3, [10, 9, 1], []), (8, [3], [1]), (20, [3, 2], [50, 0, 0, 3, 14, 2, 6, 1, 2, 1, 0, 0, 1, 0, 2, 1, 1, 0, 7, 2, 6, 1, 2, 1, 0, 0, 0, 0, 2, 1, 1, 0, 23]), (20, [4, 6], [61, 0, 791]), (20, [5, 7], [61, 0, 791]), (20, [0, 1], [60, 0, 1, 789, 72])], [(11, (0, 0, 31, []))], [], [], [], [(11, 2, 0, 24), (11, 10, 0, 99)])
theorem oo_Mo_setBox_1 {kA : Nat → ClassId} : or_ok PRD kA GG o_Mo_setBox_1 := by
  refine or_mk fun A ta ws vs hD hth hl => ?_
  intro t0 r0 t1 k1 t2 k2 t3 k3 t4 k4 t5 k5 t6 k6 t7 k7 t9 k9 t10 k10 t11 k11 d0 d1 f0 f1 f2 f3 f4 f5 f6
  replace f1 := shm_38 f1
  rw [show v_iv (n_v vs 9) = 8 from by omega] at f1
  have cr_0_72 := fdq_183 hD hth r0
  have hK_0_72 := elq_109 hD hth cr_0_72
  have hrf0 : 0 ≤ v_iv (n_v vs 11) ∧ v_iv (n_v vs 11) ≤ 31 := vc_Mo_setBox_1_r0 (v_iv (n_v vs 1)) (v_iv (n_v vs 2)) (v_iv (n_v vs 3)) (v_iv (n_v vs 4)) (v_iv (n_v vs 5)) (v_iv (n_v vs 6)) (v_iv (n_v vs 7)) (v_iv (n_v vs 9)) (v_iv (n_v vs 10)) (v_iv (n_v vs 11)) (w_ei ws (w_ar ws (n_v vs 0) 72)) k1 k2 k3 k4 k5 k6 k7 k9 k10 k11 d0 d1 (shm_12 f0) f1 (shm_142 f2) (shm_715 f3) (shm_417 f4) (shm_417 f5) (shm_716 f6) hK_0_72
  have rf11 : tv_ok ta (0, 0, 31, []) (n_v vs 11) := tv_in t11 (by first | omega | grind) (by first | omega | grind)
  refine ⟨List.forall_mem_cons.mpr ⟨rf11, (fun _ h => (by cases h))⟩, [], trivial, ?_, (fun _ h => (by cases h))⟩
  rw [List.append_nil]
  exact (fun _ h => (by cases h))
set_option maxHeartbeats 4000000 in
theorem vc_Mo_setBox_2_0 (x1 : Int) (x2 : Int) (x3 : Int) (x4 : Int) (x5 : Int) (x6 : Int) (x7 : Int) (x8 : Int) (x9 : Int) (x10 : Int) (x11 : Int) (x12 : Int) (x14 : Int) (x15 : Int) (x16 : Int) (x17 : Int) (x18 : Int) (x19 : Int) (toldGroup_4 : Int → Int) (toldGroup_0 : Int → Int) (toldGroup_1 : Int → Int) (toldGroup_2 : Int → Int) (toldGroup_3 : Int → Int) (k1 : 0 ≤ x1 ∧ x1 ≤ 3) (k2 : 0 ≤ x2 ∧ x2 ≤ 99) (k3 : 1 ≤ x3 ∧ x3 ≤ 1) (k4 : 0 ≤ x4 ∧ x4 ≤ 512) (k5 : 0 ≤ x5 ∧ x5 ≤ 512) (k6 : (-512) ≤ x6 ∧ x6 ≤ 512) (k7 : (-512) ≤ x7 ∧ x7 ≤ 512) (k8 : 4 ≤ x8 ∧ x8 ≤ 4) (k9 : 8 ≤ x9 ∧ x9 ≤ 8) (k10 : 0 ≤ x10 ∧ x10 ≤ 24) (k11 : 0 ≤ x11 ∧ x11 ≤ 31) (k12 : 0 ≤ x12 ∧ x12 ≤ 124) (k14 : 1 ≤ x14 ∧ x14 ≤ 1) (k15 : 1 ≤ x15 ∧ x15 ≤ 125) (k16 : 2 ≤ x16 ∧ x16 ≤ 2) (k17 : 2 ≤ x17 ∧ x17 ≤ 126) (k18 : 3 ≤ x18 ∧ x18 ≤ 3) (k19 : 3 ≤ x19 ∧ x19 ≤ 127) (d0 : x12 + 3 ≤ x19 ∧ x19 ≤ x12 + 3) (d1 : x12 + 2 ≤ x17 ∧ x17 ≤ x12 + 2) (d2 : x12 + 1 ≤ x15 ∧ x15 ≤ x12 + 1) (d3 : x2 + 0 ≤ x11 ∧ x11 ≤ x2 + 24) (d4 : x10 + 0 ≤ x11 ∧ x11 ≤ x10 + 99) (f0 : ((x3 = 1) ∧ (x2 ≤ 7)) ∨ ((x3 = 0) ∧ (x2 ≤ 23))) (f1 : HUL (x4) (x6)) (f2 : HUL (x5) (x7)) (f4 : x19 = x12 + x18) (f5 : ((x3 = 1) ∧ (x2 ≤ 7)) ∨ ((x3 = 0) ∧ (x2 ≤ 23))) (f6 : HUL (x4) (x6)) (f7 : HUL (x5) (x7)) (f9 : x17 = x12 + x16) (f10 : ((x3 = 1) ∧ (x2 ≤ 7)) ∨ ((x3 = 0) ∧ (x2 ≤ 23))) (f11 : HUL (x4) (x6)) (f12 : HUL (x5) (x7)) (f14 : x15 = x12 + x14) (f15 : ((x3 = 1) ∧ (x2 ≤ 7)) ∨ ((x3 = 0) ∧ (x2 ≤ 23))) (f16 : HUL (x4) (x6)) (f17 : HUL (x5) (x7)) (f20 : x3 ≠ 0) (f21 : x12 = 4 * x11) (f22 : x11 = x10 + x2) (f23 : x10 = 8 * x1) (f24 : x3 ≠ 0) (f25 : ((x3 = 1) ∧ (x2 ≤ 7)) ∨ ((x3 = 0) ∧ (x2 ≤ 23))) (f26 : HUL (x4) (x6)) (f27 : HUL (x5) (x7)) (f28 : BXG (toldGroup_4) (x1)) (hE_0_72_1 : ∀ j : Int, 0 ≤ j → (j = x19 → toldGroup_0 j = x7) ∧ (j ≠ x19 → toldGroup_0 j = toldGroup_1 j)) (hE_0_72_2 : ∀ j : Int, 0 ≤ j → (j = x17 → toldGroup_1 j = x6) ∧ (j ≠ x17 → toldGroup_1 j = toldGroup_2 j)) (hE_0_72_3 : ∀ j : Int, 0 ≤ j → (j = x15 → toldGroup_2 j = x5) ∧ (j ≠ x15 → toldGroup_2 j = toldGroup_3 j)) (hE_0_72_4 : ∀ j : Int, 0 ≤ j → (j = x12 → toldGroup_3 j = x4) ∧ (j ≠ x12 → toldGroup_3 j = toldGroup_4 j)) (hK_0_72 : ∀ j : Int, 0 ≤ j → j < 128 → (-512) ≤ toldGroup_0 j ∧ toldGroup_0 j ≤ 512) : BXG (toldGroup_0) (x1) := by
  first
    | assumption
    | exact bxg_set (i := x2) (x := x4) (y := x5) (w := x6) (h := x7) ‹BXG _ _› (by omega) (by omega) (by omega) (by assumption) (by assumption) hE_0_72_4 hE_0_72_3 hE_0_72_2 hE_0_72_1 (by omega) (by omega) (by omega) (by omega)
  
def o_Mo_setBox_2 : or_T := (76, 20, [(0, (2, 0, 0, [165])), (1, (0, 0, 3, [])), (2, (0, 0, 99, [])), (3, (0, 1, 1, [])), (4, (0, 0, 512, [])), (5, (0, 0, 512, [])), (6, (0, -512, 512, [])), (7, (0, -512, 512, [])), (8, (0, 4, 4, [])), (9, (0, 8, 8, [])), (10, (0, 0, 24, [])), (11, (0, 0, 31, [])), (12, (0, 0, 124, [])), (14, (0, 1, 1, [])), (15, (0, 1, 125, [])), (16, (0, 2, 2, [])), (17, (0, 2, 126, [])), (18, (0, 3, 3, [])), (19, (0, 3, 127, []))], [(20, [3, 2], [50, 0, 0, 3, 14, 2, 6, 1, 2, 1, 0, 0, 1, 0, 2, 1, 1, 0, 7, 2, 6, 1, 2, 1, 0, 0, 0, 0, 2, 1, 1, 0, 23]), (20, [4, 6], [61, 0, 791]), (20, [5, 7], [61, 0, 791]), (100, [13, 19, 7], []), (1, [19, 12, 18], []), (20, [3, 2], [50, 0, 0, 3, 14, 2, 6, 1, 2, 1, 0, 0, 1, 0, 2, 1, 1, 0, 7, 2, 6, 1, 2, 1, 0, 0, 0, 0, 2, 1, 1, 0, 23]), (20, [4, 6], [61, 0, 791]), (20, [5, 7], [61, 0, 791]), (100, [13, 17, 6], []), (1, [17, 12, 16], []), (20, [3, 2], [50, 0, 0, 3, 14, 2, 6, 1, 2, 1, 0, 0, 1, 0, 2, 1, 1, 0, 7, 2, 6, 1, 2, 1, 0, 0, 0, 0, 2, 1, 1, 0, 23]), (20, [4, 6], [61, 0, 791]), (20, [5, 7], [61, 0, 791]), (100, [13, 15, 5], []), (1, [15, 12, 14], []), (20, [3, 2], [50, 0, 0, 3, 14, 2, 6, 1, 2, 1, 0, 0, 1, 0, 2, 1, 1, 0, 7, 2, 6, 1, 2, 1, 0, 0, 0, 0, 2, 1, 1, 0, 23]), (20, [4, 6], [61, 0, 791]), (20, [5, 7], [61, 0, 791]), (100, [13, 12, 4], []), (9, [13, 0], [72]), (8, [3], [1]), (3, [12, 8, 11], []), (1, [11, 10, 2], []), (3, [10, 9, 1], []), (8, [3], [1]), (20, [3, 2], [50, 0, 0, 3, 14, 2, 6, 1, 2, 1, 0, 0, 1, 0, 2, 1, 1, 0, 7, 2, 6, 1, 2, 1, 0, 0, 0, 0, 2, 1, 1, 0, 23]), (20, [4, 6], [61, 0, 791]), (20, [5, 7], [61, 0, 791]), (20, [0, 1], [60, 0, 1, 789, 72])], [], [], [(20, [0, 1], [60, 0, 1, 789, 72])], [], [(19, 12, 3, 3), (17, 12, 2, 2), (15, 12, 1, 1), (11, 2, 0, 24), (11, 10, 0, 99)])
theorem oo_Mo_setBox_2 {kA : Nat → ClassId} : or_ok PRD kA GG o_Mo_setBox_2 := by
  refine or_mk fun A ta ws vs hD hth hl => ?_
  intro t0 r0 t1 k1 t2 k2 t3 k3 t4 k4 t5 k5 t6 k6 t7 k7 t8 k8 t9 k9 t10 k10 t11 k11 t12 k12 t14 k14 t15 k15 t16 k16 t17 k17 t18 k18 t19 k19 d0 d1 d2 d3 d4 f0 f1 f2 ta1 w1 le1 s1 f4 f5 f6 f7 ta2 w2 le2 s2 f9 f10 f11 f12 ta3 w3 le3 s3 f14 f15 f16 f17 ta4 w4 le4 s4 f19 f20 f21 f22 f23 f24 f25 f26 f27 f28
  have s1 : (∀ b j, w_el ws b j = if b = v_ad (n_v vs 13) ∧ j = (v_iv (n_v vs 19)).toNat then v_iv (n_v vs 7) else w_el w1 b j) ∧ ∀ b k, w_fd ws b k = w_fd w1 b k := s1.2
  have s2 : (∀ b j, w_el w1 b j = if b = v_ad (n_v vs 13) ∧ j = (v_iv (n_v vs 17)).toNat then v_iv (n_v vs 6) else w_el w2 b j) ∧ ∀ b k, w_fd w1 b k = w_fd w2 b k := s2.2
  have s3 : (∀ b j, w_el w2 b j = if b = v_ad (n_v vs 13) ∧ j = (v_iv (n_v vs 15)).toNat then v_iv (n_v vs 5) else w_el w3 b j) ∧ ∀ b k, w_fd w2 b k = w_fd w3 b k := s3.2
  have s4 : (∀ b j, w_el w3 b j = if b = v_ad (n_v vs 13) ∧ j = (v_iv (n_v vs 12)).toNat then v_iv (n_v vs 4) else w_el w4 b j) ∧ ∀ b k, w_fd w3 b k = w_fd w4 b k := s4.2
  replace f19 := shm_717 f19
  replace f21 := shm_38 f21
  rw [show v_iv (n_v vs 8) = 4 from by omega] at f21
  replace f23 := shm_38 f23
  rw [show v_iv (n_v vs 9) = 8 from by omega] at f23
  replace f28 := shm_716 f28
  have ar_0_72_1 : w_ar w1 (n_v vs 0) 72 = w_ar ws (n_v vs 0) 72 := congrArg v_ad (s1.2 _ _).symm
  have ar_0_72_2 : w_ar w2 (n_v vs 0) 72 = w_ar ws (n_v vs 0) 72 := by rw [← ar_0_72_1]; show v_ad (w_fd w2 _ _) = v_ad (w_fd w1 _ _); rw [s2.2]
  have ar_0_72_3 : w_ar w3 (n_v vs 0) 72 = w_ar ws (n_v vs 0) 72 := by rw [← ar_0_72_2]; show v_ad (w_fd w3 _ _) = v_ad (w_fd w2 _ _); rw [s3.2]
  have ar_0_72_4 : w_ar w4 (n_v vs 0) 72 = w_ar ws (n_v vs 0) 72 := by rw [← ar_0_72_3]; show v_ad (w_fd w4 _ _) = v_ad (w_fd w3 _ _); rw [s4.2]
  have cr_0_72 := fdq_183 hD hth r0
  have ad_13 : v_ad (n_v vs 13) = w_ar ws (n_v vs 0) 72 := (congrArg v_ad f19).trans ar_0_72_4
  simp only [ar_0_72_4] at f28
  have hE_0_72_1 : ∀ j : Int, 0 ≤ j → (j = v_iv (n_v vs 19) → w_ei ws (w_ar ws (n_v vs 0) 72) j = v_iv (n_v vs 7)) ∧ (j ≠ v_iv (n_v vs 19) → w_ei ws (w_ar ws (n_v vs 0) 72) j = w_ei w1 (w_ar ws (n_v vs 0) 72) j) := fun j hj => ⟨fun h => by unfold w_ei; rw [s1.1, if_pos ⟨ad_13.symm, by rw [h]⟩], fun h => by unfold w_ei; rw [s1.1, if_neg (fun e => h (by have := e.2; omega))]⟩
  have hE_0_72_2 : ∀ j : Int, 0 ≤ j → (j = v_iv (n_v vs 17) → w_ei w1 (w_ar ws (n_v vs 0) 72) j = v_iv (n_v vs 6)) ∧ (j ≠ v_iv (n_v vs 17) → w_ei w1 (w_ar ws (n_v vs 0) 72) j = w_ei w2 (w_ar ws (n_v vs 0) 72) j) := fun j hj => ⟨fun h => by unfold w_ei; rw [s2.1, if_pos ⟨ad_13.symm, by rw [h]⟩], fun h => by unfold w_ei; rw [s2.1, if_neg (fun e => h (by have := e.2; omega))]⟩
  have hE_0_72_3 : ∀ j : Int, 0 ≤ j → (j = v_iv (n_v vs 15) → w_ei w2 (w_ar ws (n_v vs 0) 72) j = v_iv (n_v vs 5)) ∧ (j ≠ v_iv (n_v vs 15) → w_ei w2 (w_ar ws (n_v vs 0) 72) j = w_ei w3 (w_ar ws (n_v vs 0) 72) j) := fun j hj => ⟨fun h => by unfold w_ei; rw [s3.1, if_pos ⟨ad_13.symm, by rw [h]⟩], fun h => by unfold w_ei; rw [s3.1, if_neg (fun e => h (by have := e.2; omega))]⟩
  have hE_0_72_4 : ∀ j : Int, 0 ≤ j → (j = v_iv (n_v vs 12) → w_ei w3 (w_ar ws (n_v vs 0) 72) j = v_iv (n_v vs 4)) ∧ (j ≠ v_iv (n_v vs 12) → w_ei w3 (w_ar ws (n_v vs 0) 72) j = w_ei w4 (w_ar ws (n_v vs 0) 72) j) := fun j hj => ⟨fun h => by unfold w_ei; rw [s4.1, if_pos ⟨ad_13.symm, by rw [h]⟩], fun h => by unfold w_ei; rw [s4.1, if_neg (fun e => h (by have := e.2; omega))]⟩
  have hK_0_72 := elq_109 hD hth cr_0_72
  have nf0 : fc_1 PRD (20, [0, 1], [60, 0, 1, 789, 72]) ws (vs) := ⟨nf_in hl rfl, sgq_716 (vc_Mo_setBox_2_0 (v_iv (n_v vs 1)) (v_iv (n_v vs 2)) (v_iv (n_v vs 3)) (v_iv (n_v vs 4)) (v_iv (n_v vs 5)) (v_iv (n_v vs 6)) (v_iv (n_v vs 7)) (v_iv (n_v vs 8)) (v_iv (n_v vs 9)) (v_iv (n_v vs 10)) (v_iv (n_v vs 11)) (v_iv (n_v vs 12)) (v_iv (n_v vs 14)) (v_iv (n_v vs 15)) (v_iv (n_v vs 16)) (v_iv (n_v vs 17)) (v_iv (n_v vs 18)) (v_iv (n_v vs 19)) (w_ei w4 (w_ar ws (n_v vs 0) 72)) (w_ei ws (w_ar ws (n_v vs 0) 72)) (w_ei w1 (w_ar ws (n_v vs 0) 72)) (w_ei w2 (w_ar ws (n_v vs 0) 72)) (w_ei w3 (w_ar ws (n_v vs 0) 72)) k1 k2 k3 k4 k5 k6 k7 k8 k9 k10 k11 k12 k14 k15 k16 k17 k18 k19 d0 d1 d2 d3 d4 (shm_715 f0) (shm_417 f1) (shm_417 f2) (shm_12 f4) (shm_715 f5) (shm_417 f6) (shm_417 f7) (shm_12 f9) (shm_715 f10) (shm_417 f11) (shm_417 f12) (shm_12 f14) (shm_715 f15) (shm_417 f16) (shm_417 f17) (shm_142 f20) f21 (shm_12 f22) f23 (shm_142 f24) (shm_715 f25) (shm_417 f26) (shm_417 f27) f28 hE_0_72_1 hE_0_72_2 hE_0_72_3 hE_0_72_4 hK_0_72)⟩
  refine ⟨(fun _ h => (by cases h)), [], trivial, ?_, (fun _ h => (by cases h))⟩
  rw [List.append_nil]
  exact List.forall_mem_cons.mpr ⟨⟨show (20 : Nat) < 100 from by decide, nf0⟩, (fun _ h => (by cases h))⟩
def n_Mo_setBox_an : List an_T := []
def t_Mo_setBox_ct : ct_L := []
set_option maxRecDepth 100000 in
theorem c_Mo_setBox {l : Launch} {D : va_G} {kA : Nat → ClassId} : ct_ok PRD l D kA GG y_Mo_setBox z_Mo_setBox e_Mo_setBox := chk_all_ok (FT := [(150, 13, 71), (153, 13, 72)]) (PT := []) (CT := t_Mo_setBox_ct) (KT := []) (NT := []) (AN := n_Mo_setBox_an) (OT := [o_Mo_setBox_0, o_Mo_setBox_1, o_Mo_setBox_2]) 0 304 (List.forall_mem_cons.mpr ⟨oo_Mo_setBox_0, List.forall_mem_cons.mpr ⟨oo_Mo_setBox_1, List.forall_mem_cons.mpr ⟨oo_Mo_setBox_2, List.forall_mem_nil _⟩⟩⟩) (by decide +kernel) ⟨List.forall_mem_cons.mpr ⟨gf_Mo_150, List.forall_mem_cons.mpr ⟨gf_Mo_153, List.forall_mem_nil _⟩⟩, List.forall_mem_nil _, List.forall_mem_nil _, List.forall_mem_nil _, List.forall_mem_nil _, GG_pl⟩ (by decide +kernel)
set_option maxHeartbeats 4000000 in
theorem vc_Mo_setOrder_0_0 (x1 : Int) (x2 : Int) (x4 : Int) (x5 : Int) (layerSize_0 : Int → Int) (permBegin_0 : Int → Int) (permMany_0 : Int → Int) (perm_0 : Int → Int) (itemLayer_0 : Int → Int) (layerItem_0 : Int → Int) (items_0 : Int) (layerMany_0 : Int) (row_0 : Int → Int) (k1 : 0 ≤ x1 ∧ x1 ≤ 75) (k2 : 0 ≤ x2 ∧ x2 ≤ 719) (k4 : 0 ≤ x4 ∧ x4 ≤ 76) (k5 : 0 ≤ x5 ∧ x5 ≤ 0) (h0 : x4 = layerSize_0 (x1)) (f2 : PTB (permBegin_0) (permMany_0) (perm_0)) (f3 : layerSize_0 (x1) ≤ 6) (f4 : (x2 + 1) ≤ permMany_0 (layerSize_0 (x1))) (f5 : LSB (items_0) (layerMany_0) (itemLayer_0) (layerSize_0) (layerItem_0)) (f6 : (0 ≤ x1) ∧ ((x1 + 1) ≤ layerMany_0)) (f7 : 0 ≤ x2) (hK_0_102 : ∀ j : Int, 0 ≤ j → j < 76 → 0 ≤ itemLayer_0 j ∧ itemLayer_0 j ≤ 75) (hK_0_105 : ∀ j : Int, 0 ≤ j → j < 76 → 0 ≤ layerSize_0 j ∧ layerSize_0 j ≤ 76) (hK_0_106 : ∀ j : Int, 0 ≤ j → j < 5776 → 0 ≤ layerItem_0 j ∧ layerItem_0 j ≤ 75) (hK_0_110 : ∀ j : Int, 0 ≤ j → j < 8 → 0 ≤ permBegin_0 j ∧ permBegin_0 j ≤ 5500) (hK_0_111 : ∀ j : Int, 0 ≤ j → j < 8 → 0 ≤ permMany_0 j ∧ permMany_0 j ≤ 720) (hK_0_112 : ∀ j : Int, 0 ≤ j → j < 6000 → 0 ≤ perm_0 j ∧ perm_0 j ≤ 5) (hK_0_117 : ∀ j : Int, 0 ≤ j → j < 100 → 0 ≤ row_0 j ∧ row_0 j ≤ 75) (kz_0_100 : 0 ≤ items_0 ∧ items_0 ≤ 76) (kz_0_101 : 0 ≤ layerMany_0 ∧ layerMany_0 ≤ 76) : x4 ≤ 6 := by
  first
    | omega
    | (rw [‹x4 = layerSize_0 x1›]; assumption)
set_option maxHeartbeats 4000000 in
theorem vc_Mo_setOrder_0_1 (x1 : Int) (x2 : Int) (x4 : Int) (x5 : Int) (layerSize_0 : Int → Int) (permBegin_0 : Int → Int) (permMany_0 : Int → Int) (perm_0 : Int → Int) (itemLayer_0 : Int → Int) (layerItem_0 : Int → Int) (items_0 : Int) (layerMany_0 : Int) (row_0 : Int → Int) (k1 : 0 ≤ x1 ∧ x1 ≤ 75) (k2 : 0 ≤ x2 ∧ x2 ≤ 719) (k4 : 0 ≤ x4 ∧ x4 ≤ 76) (k5 : 0 ≤ x5 ∧ x5 ≤ 0) (h0 : x4 = layerSize_0 (x1)) (f2 : PTB (permBegin_0) (permMany_0) (perm_0)) (f3 : layerSize_0 (x1) ≤ 6) (f4 : (x2 + 1) ≤ permMany_0 (layerSize_0 (x1))) (f5 : LSB (items_0) (layerMany_0) (itemLayer_0) (layerSize_0) (layerItem_0)) (f6 : (0 ≤ x1) ∧ ((x1 + 1) ≤ layerMany_0)) (f7 : 0 ≤ x2) (hK_0_102 : ∀ j : Int, 0 ≤ j → j < 76 → 0 ≤ itemLayer_0 j ∧ itemLayer_0 j ≤ 75) (hK_0_105 : ∀ j : Int, 0 ≤ j → j < 76 → 0 ≤ layerSize_0 j ∧ layerSize_0 j ≤ 76) (hK_0_106 : ∀ j : Int, 0 ≤ j → j < 5776 → 0 ≤ layerItem_0 j ∧ layerItem_0 j ≤ 75) (hK_0_110 : ∀ j : Int, 0 ≤ j → j < 8 → 0 ≤ permBegin_0 j ∧ permBegin_0 j ≤ 5500) (hK_0_111 : ∀ j : Int, 0 ≤ j → j < 8 → 0 ≤ permMany_0 j ∧ permMany_0 j ≤ 720) (hK_0_112 : ∀ j : Int, 0 ≤ j → j < 6000 → 0 ≤ perm_0 j ∧ perm_0 j ≤ 5) (hK_0_117 : ∀ j : Int, 0 ≤ j → j < 100 → 0 ≤ row_0 j ∧ row_0 j ≤ 75) (kz_0_100 : 0 ≤ items_0 ∧ items_0 ≤ 76) (kz_0_101 : 0 ≤ layerMany_0 ∧ layerMany_0 ≤ 76) : (x2 + 1) ≤ permMany_0 (x4) := by
  first
    | omega
    | (rw [‹x4 = layerSize_0 x1›]; assumption)
set_option maxHeartbeats 4000000 in
theorem vc_Mo_setOrder_0_2 (x1 : Int) (x2 : Int) (x4 : Int) (x5 : Int) (layerSize_0 : Int → Int) (permBegin_0 : Int → Int) (permMany_0 : Int → Int) (perm_0 : Int → Int) (itemLayer_0 : Int → Int) (layerItem_0 : Int → Int) (items_0 : Int) (layerMany_0 : Int) (row_0 : Int → Int) (k1 : 0 ≤ x1 ∧ x1 ≤ 75) (k2 : 0 ≤ x2 ∧ x2 ≤ 719) (k4 : 0 ≤ x4 ∧ x4 ≤ 76) (k5 : 0 ≤ x5 ∧ x5 ≤ 0) (h0 : x4 = layerSize_0 (x1)) (f2 : PTB (permBegin_0) (permMany_0) (perm_0)) (f3 : layerSize_0 (x1) ≤ 6) (f4 : (x2 + 1) ≤ permMany_0 (layerSize_0 (x1))) (f5 : LSB (items_0) (layerMany_0) (itemLayer_0) (layerSize_0) (layerItem_0)) (f6 : (0 ≤ x1) ∧ ((x1 + 1) ≤ layerMany_0)) (f7 : 0 ≤ x2) (hK_0_102 : ∀ j : Int, 0 ≤ j → j < 76 → 0 ≤ itemLayer_0 j ∧ itemLayer_0 j ≤ 75) (hK_0_105 : ∀ j : Int, 0 ≤ j → j < 76 → 0 ≤ layerSize_0 j ∧ layerSize_0 j ≤ 76) (hK_0_106 : ∀ j : Int, 0 ≤ j → j < 5776 → 0 ≤ layerItem_0 j ∧ layerItem_0 j ≤ 75) (hK_0_110 : ∀ j : Int, 0 ≤ j → j < 8 → 0 ≤ permBegin_0 j ∧ permBegin_0 j ≤ 5500) (hK_0_111 : ∀ j : Int, 0 ≤ j → j < 8 → 0 ≤ permMany_0 j ∧ permMany_0 j ≤ 720) (hK_0_112 : ∀ j : Int, 0 ≤ j → j < 6000 → 0 ≤ perm_0 j ∧ perm_0 j ≤ 5) (hK_0_117 : ∀ j : Int, 0 ≤ j → j < 100 → 0 ≤ row_0 j ∧ row_0 j ≤ 75) (kz_0_100 : 0 ≤ items_0 ∧ items_0 ≤ 76) (kz_0_101 : 0 ≤ layerMany_0 ∧ layerMany_0 ≤ 76) : x4 = layerSize_0 (x1) := by
  first
    | omega
    | (rw [‹x4 = layerSize_0 x1›]; assumption)
set_option maxHeartbeats 4000000 in
theorem vc_Mo_setOrder_0_3 (x1 : Int) (x2 : Int) (x4 : Int) (x5 : Int) (layerSize_0 : Int → Int) (permBegin_0 : Int → Int) (permMany_0 : Int → Int) (perm_0 : Int → Int) (itemLayer_0 : Int → Int) (layerItem_0 : Int → Int) (items_0 : Int) (layerMany_0 : Int) (row_0 : Int → Int) (k1 : 0 ≤ x1 ∧ x1 ≤ 75) (k2 : 0 ≤ x2 ∧ x2 ≤ 719) (k4 : 0 ≤ x4 ∧ x4 ≤ 76) (k5 : 0 ≤ x5 ∧ x5 ≤ 0) (h0 : x4 = layerSize_0 (x1)) (f2 : PTB (permBegin_0) (permMany_0) (perm_0)) (f3 : layerSize_0 (x1) ≤ 6) (f4 : (x2 + 1) ≤ permMany_0 (layerSize_0 (x1))) (f5 : LSB (items_0) (layerMany_0) (itemLayer_0) (layerSize_0) (layerItem_0)) (f6 : (0 ≤ x1) ∧ ((x1 + 1) ≤ layerMany_0)) (f7 : 0 ≤ x2) (hK_0_102 : ∀ j : Int, 0 ≤ j → j < 76 → 0 ≤ itemLayer_0 j ∧ itemLayer_0 j ≤ 75) (hK_0_105 : ∀ j : Int, 0 ≤ j → j < 76 → 0 ≤ layerSize_0 j ∧ layerSize_0 j ≤ 76) (hK_0_106 : ∀ j : Int, 0 ≤ j → j < 5776 → 0 ≤ layerItem_0 j ∧ layerItem_0 j ≤ 75) (hK_0_110 : ∀ j : Int, 0 ≤ j → j < 8 → 0 ≤ permBegin_0 j ∧ permBegin_0 j ≤ 5500) (hK_0_111 : ∀ j : Int, 0 ≤ j → j < 8 → 0 ≤ permMany_0 j ∧ permMany_0 j ≤ 720) (hK_0_112 : ∀ j : Int, 0 ≤ j → j < 6000 → 0 ≤ perm_0 j ∧ perm_0 j ≤ 5) (hK_0_117 : ∀ j : Int, 0 ≤ j → j < 100 → 0 ≤ row_0 j ∧ row_0 j ≤ 75) (kz_0_100 : 0 ≤ items_0 ∧ items_0 ≤ 76) (kz_0_101 : 0 ≤ layerMany_0 ∧ layerMany_0 ≤ 76) : SOW (permBegin_0) (perm_0) (layerItem_0) (row_0) (x4) (x1) (x2) (x5) := by
  first
    | (intro j a b; exfalso; omega)
    | exact sow_step (a := x11) (b := x14) (c := x15) (d := x16) (x := x17) (y := x18) (z := x19) ‹SOW _ _ _ _ _ _ _ _› (by assumption) (by assumption) (by assumption) (by assumption) (by assumption) (by assumption) (by assumption) (by assumption) (by assumption) (by assumption) rfl
def o_Mo_setOrder_0 : or_T := (10, 6, [(0, (2, 0, 0, [165])), (1, (0, 0, 75, [])), (2, (0, 0, 719, [])), (4, (0, 0, 76, [])), (5, (0, 0, 0, []))], [(10, [4, 3, 1], []), (9, [3, 0], [105]), (20, [0], [60, 0, 3, 367, 110, 111, 112]), (20, [0, 1], [50, 0, 1, 105, 0, 5, 3, 0, 105, 1, 1, 0, 6]), (20, [2, 0, 1], [50, 0, 2, 1111, 1105, 0, 6, 4, 2, 1, 0, 0, 1, 3, 1, 111, 3, 1, 105, 1, 2]), (20, [0], [60, 2, 3, 448, 100, 101, 102, 105, 106]), (20, [1, 0], [50, 1, 0, 1101, 2, 6, 0, 2, 0, 0, 1, 0, 0, 6, 4, 2, 1, 0, 0, 1, 2, 1, 101]), (20, [2], [50, 0, 0, 0, 2, 0, 0, 1, 0])], [], [], [(20, [4], [50, 0, 0, 0, 2, 1, 0, 0, 6]), (20, [2, 0, 4], [50, 0, 1, 1111, 0, 6, 4, 2, 1, 0, 0, 1, 3, 1, 111, 1, 2]), (20, [4, 0, 1], [50, 0, 1, 1105, 1, 2, 1, 0, 3, 1, 105, 1, 2]), (20, [0, 4, 1, 2, 5], [60, 0, 4, 458, 110, 112, 106, 117]), (24, [0, 0], [])], [], [])
theorem oo_Mo_setOrder_0 {kA : Nat → ClassId} : or_ok PRD kA GG o_Mo_setOrder_0 := by
  refine or_mk fun A ta ws vs hD hth hl => ?_
  intro t0 r0 t1 k1 t2 k2 t4 k4 t5 k5 f0 f1 f2 f3 f4 f5 f6 f7
  replace f0 := shm_107 f0
  replace f1 := shm_619 f1
  have cr_0_102 := fdq_159 hD hth r0
  have cr_0_105 := fdq_122 hD hth r0
  have cr_0_106 := fdq_123 hD hth r0
  have cr_0_110 := fdq_184 hD hth r0
  have cr_0_111 := fdq_185 hD hth r0
  have cr_0_112 := fdq_186 hD hth r0
  have cr_0_117 := fdq_181 hD hth r0
  have ad_3 : v_ad (n_v vs 3) = w_ar ws (n_v vs 0) 105 := congrArg v_ad f1
  simp only [ad_3] at f0
  have h0 : v_iv (n_v vs 4) = w_ei ws (w_ar ws (n_v vs 0) 105) (v_iv (n_v vs 1)) := f0
  have hK_0_102 := elq_91 hD hth cr_0_102
  have hK_0_105 := elq_65 hD hth cr_0_105
  have hK_0_106 := elq_66 hD hth cr_0_106
  have hK_0_110 := elq_110 hD hth cr_0_110
  have hK_0_111 := elq_111 hD hth cr_0_111
  have hK_0_112 := elq_112 hD hth cr_0_112
  have hK_0_117 := elq_108 hD hth cr_0_117
  have kz_0_100 := fdq_162 hD hth r0
  have kz_0_101 := fdq_125 hD hth r0
  have nf0 : fc_1 PRD (20, [4], [50, 0, 0, 0, 2, 1, 0, 0, 6]) ws (vs) := ⟨nf_in hl rfl, sgq_395 (vc_Mo_setOrder_0_0 (v_iv (n_v vs 1)) (v_iv (n_v vs 2)) (v_iv (n_v vs 4)) (v_iv (n_v vs 5)) (w_ei ws (w_ar ws (n_v vs 0) 105)) (w_ei ws (w_ar ws (n_v vs 0) 110)) (w_ei ws (w_ar ws (n_v vs 0) 111)) (w_ei ws (w_ar ws (n_v vs 0) 112)) (w_ei ws (w_ar ws (n_v vs 0) 102)) (w_ei ws (w_ar ws (n_v vs 0) 106)) (w_fi ws (n_v vs 0) 100) (w_fi ws (n_v vs 0) 101) (w_ei ws (w_ar ws (n_v vs 0) 117)) k1 k2 k4 k5 h0 (shm_718 f2) (shm_719 f3) (shm_720 f4) (shm_675 f5) (shm_721 f6) (shm_722 f7) hK_0_102 hK_0_105 hK_0_106 hK_0_110 hK_0_111 hK_0_112 hK_0_117 kz_0_100 kz_0_101)⟩
  have nf1 : fc_1 PRD (20, [2, 0, 4], [50, 0, 1, 1111, 0, 6, 4, 2, 1, 0, 0, 1, 3, 1, 111, 1, 2]) ws (vs) := ⟨nf_in hl rfl, sgq_723 (vc_Mo_setOrder_0_1 (v_iv (n_v vs 1)) (v_iv (n_v vs 2)) (v_iv (n_v vs 4)) (v_iv (n_v vs 5)) (w_ei ws (w_ar ws (n_v vs 0) 105)) (w_ei ws (w_ar ws (n_v vs 0) 110)) (w_ei ws (w_ar ws (n_v vs 0) 111)) (w_ei ws (w_ar ws (n_v vs 0) 112)) (w_ei ws (w_ar ws (n_v vs 0) 102)) (w_ei ws (w_ar ws (n_v vs 0) 106)) (w_fi ws (n_v vs 0) 100) (w_fi ws (n_v vs 0) 101) (w_ei ws (w_ar ws (n_v vs 0) 117)) k1 k2 k4 k5 h0 (shm_718 f2) (shm_719 f3) (shm_720 f4) (shm_675 f5) (shm_721 f6) (shm_722 f7) hK_0_102 hK_0_105 hK_0_106 hK_0_110 hK_0_111 hK_0_112 hK_0_117 kz_0_100 kz_0_101)⟩
  have nf2 : fc_1 PRD (20, [4, 0, 1], [50, 0, 1, 1105, 1, 2, 1, 0, 3, 1, 105, 1, 2]) ws (vs) := ⟨nf_in hl rfl, sgq_724 (vc_Mo_setOrder_0_2 (v_iv (n_v vs 1)) (v_iv (n_v vs 2)) (v_iv (n_v vs 4)) (v_iv (n_v vs 5)) (w_ei ws (w_ar ws (n_v vs 0) 105)) (w_ei ws (w_ar ws (n_v vs 0) 110)) (w_ei ws (w_ar ws (n_v vs 0) 111)) (w_ei ws (w_ar ws (n_v vs 0) 112)) (w_ei ws (w_ar ws (n_v vs 0) 102)) (w_ei ws (w_ar ws (n_v vs 0) 106)) (w_fi ws (n_v vs 0) 100) (w_fi ws (n_v vs 0) 101) (w_ei ws (w_ar ws (n_v vs 0) 117)) k1 k2 k4 k5 h0 (shm_718 f2) (shm_719 f3) (shm_720 f4) (shm_675 f5) (shm_721 f6) (shm_722 f7) hK_0_102 hK_0_105 hK_0_106 hK_0_110 hK_0_111 hK_0_112 hK_0_117 kz_0_100 kz_0_101)⟩
  have nf3 : fc_1 PRD (20, [0, 4, 1, 2, 5], [60, 0, 4, 458, 110, 112, 106, 117]) ws (vs) := ⟨nf_in hl rfl, sgq_725 (vc_Mo_setOrder_0_3 (v_iv (n_v vs 1)) (v_iv (n_v vs 2)) (v_iv (n_v vs 4)) (v_iv (n_v vs 5)) (w_ei ws (w_ar ws (n_v vs 0) 105)) (w_ei ws (w_ar ws (n_v vs 0) 110)) (w_ei ws (w_ar ws (n_v vs 0) 111)) (w_ei ws (w_ar ws (n_v vs 0) 112)) (w_ei ws (w_ar ws (n_v vs 0) 102)) (w_ei ws (w_ar ws (n_v vs 0) 106)) (w_fi ws (n_v vs 0) 100) (w_fi ws (n_v vs 0) 101) (w_ei ws (w_ar ws (n_v vs 0) 117)) k1 k2 k4 k5 h0 (shm_718 f2) (shm_719 f3) (shm_720 f4) (shm_675 f5) (shm_721 f6) (shm_722 f7) hK_0_102 hK_0_105 hK_0_106 hK_0_110 hK_0_111 hK_0_112 hK_0_117 kz_0_100 kz_0_101)⟩
  have nf4 : fc_1 PRD (24, [0, 0], []) ws (vs) := by
    refine ⟨nf_in hl rfl, sgq_1 ?_⟩
    · show n_v vs 0 = n_v vs 0
      first | rfl | simp only [true_and]
  refine ⟨(fun _ h => (by cases h)), [], trivial, ?_, (fun _ h => (by cases h))⟩
  rw [List.append_nil]
  exact List.forall_mem_cons.mpr ⟨⟨show (20 : Nat) < 100 from by decide, nf0⟩, List.forall_mem_cons.mpr ⟨⟨show (20 : Nat) < 100 from by decide, nf1⟩, List.forall_mem_cons.mpr ⟨⟨show (20 : Nat) < 100 from by decide, nf2⟩, List.forall_mem_cons.mpr ⟨⟨show (20 : Nat) < 100 from by decide, nf3⟩, List.forall_mem_cons.mpr ⟨⟨show (24 : Nat) < 100 from by decide, nf4⟩, (fun _ h => (by cases h))⟩⟩⟩⟩⟩
set_option maxHeartbeats 4000000 in
theorem vc_Mo_setOrder_1_0 (x4 : Int) (x5 : Int) (x6 : Int) (x7 : Int) (x8 : Int) (permBegin_0 : Int → Int) (permMany_0 : Int → Int) (perm_0 : Int → Int) (itemLayer_0 : Int → Int) (layerSize_0 : Int → Int) (layerItem_0 : Int → Int) (items_0 : Int) (layerMany_0 : Int) (row_0 : Int → Int) (k4 : 0 ≤ x4 ∧ x4 ≤ 75) (k5 : 0 ≤ x5 ∧ x5 ≤ 719) (k6 : 0 ≤ x6 ∧ x6 ≤ 76) (k7 : 0 ≤ x7 ∧ x7 ≤ 76) (k8 : 0 ≤ x8 ∧ x8 ≤ 0) (d0 : x6 + 0 ≤ x7 ∧ x7 ≤ x6 + 4294967296) (d1 : x6 + (-4294967296) ≤ x7 ∧ x7 ≤ x6 + 0) (f0 : x6 ≤ x7) (f1 : PTB (permBegin_0) (permMany_0) (perm_0)) (f2 : x6 ≤ 6) (f3 : (x5 + 1) ≤ permMany_0 (x6)) (f4 : LSB (items_0) (layerMany_0) (itemLayer_0) (layerSize_0) (layerItem_0)) (f5 : x6 = layerSize_0 (x4)) (f6 : (0 ≤ x4) ∧ ((x4 + 1) ≤ layerMany_0)) (f7 : 0 ≤ x5) (f8 : SOW (permBegin_0) (perm_0) (layerItem_0) (row_0) (x6) (x4) (x5) (x7)) (hK_0_102 : ∀ j : Int, 0 ≤ j → j < 76 → 0 ≤ itemLayer_0 j ∧ itemLayer_0 j ≤ 75) (hK_0_105 : ∀ j : Int, 0 ≤ j → j < 76 → 0 ≤ layerSize_0 j ∧ layerSize_0 j ≤ 76) (hK_0_106 : ∀ j : Int, 0 ≤ j → j < 5776 → 0 ≤ layerItem_0 j ∧ layerItem_0 j ≤ 75) (hK_0_110 : ∀ j : Int, 0 ≤ j → j < 8 → 0 ≤ permBegin_0 j ∧ permBegin_0 j ≤ 5500) (hK_0_111 : ∀ j : Int, 0 ≤ j → j < 8 → 0 ≤ permMany_0 j ∧ permMany_0 j ≤ 720) (hK_0_112 : ∀ j : Int, 0 ≤ j → j < 6000 → 0 ≤ perm_0 j ∧ perm_0 j ≤ 5) (hK_0_117 : ∀ j : Int, 0 ≤ j → j < 100 → 0 ≤ row_0 j ∧ row_0 j ≤ 75) (kz_0_100 : 0 ≤ items_0 ∧ items_0 ≤ 76) (kz_0_101 : 0 ≤ layerMany_0 ∧ layerMany_0 ≤ 76) : BMW (items_0) (layerMany_0) (itemLayer_0) (layerSize_0) (layerItem_0) (row_0) (x6) (x4) (x8) := by
  first
    | exact bmw_start ‹LSB _ _ _ _ _› (sow_bmr ‹PTB _ _ _› ‹LSB _ _ _ _ _› ‹SOW _ _ _ _ _ _ _ _› (by omega) (by omega) (by omega) (by omega) (by omega) (by omega) (by omega)) (by omega) (by omega) (by omega) (by omega)
    | exact bmw_step ‹BMW _ _ _ _ _ _ _ _ _› (by assumption) (by assumption) (by omega) (by assumption)
set_option maxHeartbeats 4000000 in
theorem vc_Mo_setOrder_1_1 (x4 : Int) (x5 : Int) (x6 : Int) (x7 : Int) (x8 : Int) (permBegin_0 : Int → Int) (permMany_0 : Int → Int) (perm_0 : Int → Int) (itemLayer_0 : Int → Int) (layerSize_0 : Int → Int) (layerItem_0 : Int → Int) (items_0 : Int) (layerMany_0 : Int) (row_0 : Int → Int) (k4 : 0 ≤ x4 ∧ x4 ≤ 75) (k5 : 0 ≤ x5 ∧ x5 ≤ 719) (k6 : 0 ≤ x6 ∧ x6 ≤ 76) (k7 : 0 ≤ x7 ∧ x7 ≤ 76) (k8 : 0 ≤ x8 ∧ x8 ≤ 0) (d0 : x6 + 0 ≤ x7 ∧ x7 ≤ x6 + 4294967296) (d1 : x6 + (-4294967296) ≤ x7 ∧ x7 ≤ x6 + 0) (f0 : x6 ≤ x7) (f1 : PTB (permBegin_0) (permMany_0) (perm_0)) (f2 : x6 ≤ 6) (f3 : (x5 + 1) ≤ permMany_0 (x6)) (f4 : LSB (items_0) (layerMany_0) (itemLayer_0) (layerSize_0) (layerItem_0)) (f5 : x6 = layerSize_0 (x4)) (f6 : (0 ≤ x4) ∧ ((x4 + 1) ≤ layerMany_0)) (f7 : 0 ≤ x5) (f8 : SOW (permBegin_0) (perm_0) (layerItem_0) (row_0) (x6) (x4) (x5) (x7)) (hK_0_102 : ∀ j : Int, 0 ≤ j → j < 76 → 0 ≤ itemLayer_0 j ∧ itemLayer_0 j ≤ 75) (hK_0_105 : ∀ j : Int, 0 ≤ j → j < 76 → 0 ≤ layerSize_0 j ∧ layerSize_0 j ≤ 76) (hK_0_106 : ∀ j : Int, 0 ≤ j → j < 5776 → 0 ≤ layerItem_0 j ∧ layerItem_0 j ≤ 75) (hK_0_110 : ∀ j : Int, 0 ≤ j → j < 8 → 0 ≤ permBegin_0 j ∧ permBegin_0 j ≤ 5500) (hK_0_111 : ∀ j : Int, 0 ≤ j → j < 8 → 0 ≤ permMany_0 j ∧ permMany_0 j ≤ 720) (hK_0_112 : ∀ j : Int, 0 ≤ j → j < 6000 → 0 ≤ perm_0 j ∧ perm_0 j ≤ 5) (hK_0_117 : ∀ j : Int, 0 ≤ j → j < 100 → 0 ≤ row_0 j ∧ row_0 j ≤ 75) (kz_0_100 : 0 ≤ items_0 ∧ items_0 ≤ 76) (kz_0_101 : 0 ≤ layerMany_0 ∧ layerMany_0 ≤ 76) : x8 ≤ x6 := by
  first
    | omega
def o_Mo_setOrder_1 : or_T := (60, 9, [(0, (2, 0, 0, [165])), (4, (0, 0, 75, [])), (5, (0, 0, 719, [])), (6, (0, 0, 76, [])), (7, (0, 0, 76, [])), (8, (0, 0, 0, []))], [(7, [7, 6], [3]), (20, [3], [60, 0, 3, 367, 110, 111, 112]), (20, [6], [50, 0, 0, 0, 2, 1, 0, 0, 6]), (20, [5, 3, 6], [50, 0, 1, 1111, 0, 6, 4, 2, 1, 0, 0, 1, 3, 1, 111, 1, 2]), (20, [3], [60, 2, 3, 448, 100, 101, 102, 105, 106]), (20, [6, 3, 4], [50, 0, 1, 1105, 1, 2, 1, 0, 3, 1, 105, 1, 2]), (20, [4, 3], [50, 1, 0, 1101, 2, 6, 0, 2, 0, 0, 1, 0, 0, 6, 4, 2, 1, 0, 0, 1, 2, 1, 101]), (20, [5], [50, 0, 0, 0, 2, 0, 0, 1, 0]), (20, [3, 6, 4, 5, 7], [60, 0, 4, 458, 110, 112, 106, 117]), (24, [0, 3], [])], [], [], [(20, [3, 6, 4, 8], [60, 2, 4, 453, 100, 101, 102, 105, 106, 117]), (20, [8, 6], [50, 0, 0, 0, 2, 1, 0, 1, 1])], [], [(7, 6, 0, 4294967296), (7, 6, -4294967296, 0)])
theorem oo_Mo_setOrder_1 {kA : Nat → ClassId} : or_ok PRD kA GG o_Mo_setOrder_1 := by
  refine or_mk fun A ta ws vs hD hth hl => ?_
  intro t0 r0 t4 k4 t5 k5 t6 k6 t7 k7 t8 k8 d0 d1 f0 f1 f2 f3 f4 f5 f6 f7 f8 f9
  replace f0 := shm_2 f0
  replace f1 := shm_718 f1
  replace f2 := shm_395 f2
  replace f3 := shm_723 f3
  replace f4 := shm_675 f4
  replace f5 := shm_724 f5
  replace f6 := shm_721 f6
  replace f7 := shm_722 f7
  replace f8 := shm_725 f8
  replace f9 := shm_5 f9
  have q3 : n_v vs 3 = n_v vs 0 := f9.symm
  simp only [q3] at f1 f3 f4 f5 f6 f8
  have cr_0_102 := fdq_159 hD hth r0
  have cr_0_105 := fdq_122 hD hth r0
  have cr_0_106 := fdq_123 hD hth r0
  have cr_0_110 := fdq_184 hD hth r0
  have cr_0_111 := fdq_185 hD hth r0
  have cr_0_112 := fdq_186 hD hth r0
  have cr_0_117 := fdq_181 hD hth r0
  have hK_0_102 := elq_91 hD hth cr_0_102
  have hK_0_105 := elq_65 hD hth cr_0_105
  have hK_0_106 := elq_66 hD hth cr_0_106
  have hK_0_110 := elq_110 hD hth cr_0_110
  have hK_0_111 := elq_111 hD hth cr_0_111
  have hK_0_112 := elq_112 hD hth cr_0_112
  have hK_0_117 := elq_108 hD hth cr_0_117
  have kz_0_100 := fdq_162 hD hth r0
  have kz_0_101 := fdq_125 hD hth r0
  have nf0 : fc_1 PRD (20, [3, 6, 4, 8], [60, 2, 4, 453, 100, 101, 102, 105, 106, 117]) ws (vs) := by
    refine ⟨nf_in hl rfl, sgq_726 ?_⟩
    · show BMW (w_fi ws (n_v vs 3) 100) (w_fi ws (n_v vs 3) 101) (w_ei ws (w_ar ws (n_v vs 3) 102)) (w_ei ws (w_ar ws (n_v vs 3) 105)) (w_ei ws (w_ar ws (n_v vs 3) 106)) (w_ei ws (w_ar ws (n_v vs 3) 117)) (v_iv (n_v vs 6)) (v_iv (n_v vs 4)) (v_iv (n_v vs 8))
      rw [q3]
      exact vc_Mo_setOrder_1_0 (v_iv (n_v vs 4)) (v_iv (n_v vs 5)) (v_iv (n_v vs 6)) (v_iv (n_v vs 7)) (v_iv (n_v vs 8)) (w_ei ws (w_ar ws (n_v vs 0) 110)) (w_ei ws (w_ar ws (n_v vs 0) 111)) (w_ei ws (w_ar ws (n_v vs 0) 112)) (w_ei ws (w_ar ws (n_v vs 0) 102)) (w_ei ws (w_ar ws (n_v vs 0) 105)) (w_ei ws (w_ar ws (n_v vs 0) 106)) (w_fi ws (n_v vs 0) 100) (w_fi ws (n_v vs 0) 101) (w_ei ws (w_ar ws (n_v vs 0) 117)) k4 k5 k6 k7 k8 d0 d1 f0 f1 f2 f3 f4 f5 f6 f7 f8 hK_0_102 hK_0_105 hK_0_106 hK_0_110 hK_0_111 hK_0_112 hK_0_117 kz_0_100 kz_0_101
  have nf1 : fc_1 PRD (20, [8, 6], [50, 0, 0, 0, 2, 1, 0, 1, 1]) ws (vs) := ⟨nf_in hl rfl, sgq_360 (vc_Mo_setOrder_1_1 (v_iv (n_v vs 4)) (v_iv (n_v vs 5)) (v_iv (n_v vs 6)) (v_iv (n_v vs 7)) (v_iv (n_v vs 8)) (w_ei ws (w_ar ws (n_v vs 0) 110)) (w_ei ws (w_ar ws (n_v vs 0) 111)) (w_ei ws (w_ar ws (n_v vs 0) 112)) (w_ei ws (w_ar ws (n_v vs 0) 102)) (w_ei ws (w_ar ws (n_v vs 0) 105)) (w_ei ws (w_ar ws (n_v vs 0) 106)) (w_fi ws (n_v vs 0) 100) (w_fi ws (n_v vs 0) 101) (w_ei ws (w_ar ws (n_v vs 0) 117)) k4 k5 k6 k7 k8 d0 d1 f0 f1 f2 f3 f4 f5 f6 f7 f8 hK_0_102 hK_0_105 hK_0_106 hK_0_110 hK_0_111 hK_0_112 hK_0_117 kz_0_100 kz_0_101)⟩
  refine ⟨(fun _ h => (by cases h)), [], trivial, ?_, (fun _ h => (by cases h))⟩
  rw [List.append_nil]
  exact List.forall_mem_cons.mpr ⟨⟨show (20 : Nat) < 100 from by decide, nf0⟩, List.forall_mem_cons.mpr ⟨⟨show (20 : Nat) < 100 from by decide, nf1⟩, (fun _ h => (by cases h))⟩⟩
set_option maxHeartbeats 4000000 in
theorem vc_Mo_setOrder_2_r0 (x4 : Int) (x5 : Int) (x6 : Int) (x7 : Int) (x10 : Int) (x11 : Int) (permBegin_0 : Int → Int) (permMany_0 : Int → Int) (perm_0 : Int → Int) (itemLayer_0 : Int → Int) (layerSize_0 : Int → Int) (layerItem_0 : Int → Int) (items_0 : Int) (layerMany_0 : Int) (row_0 : Int → Int) (k4 : 0 ≤ x4 ∧ x4 ≤ 75) (k5 : 0 ≤ x5 ∧ x5 ≤ 719) (k6 : 1 ≤ x6 ∧ x6 ≤ 76) (k7 : 0 ≤ x7 ∧ x7 ≤ 75) (k10 : 76 ≤ x10 ∧ x10 ≤ 76) (k11 : 0 ≤ x11 ∧ x11 ≤ 5700) (d0 : x6 + (-4294967296) ≤ x7 ∧ x7 ≤ x6 + (-1)) (d1 : x6 + (-4294967296) ≤ x7 ∧ x7 ≤ x6 + 0) (f2 : x11 = 76 * x4) (f5 : x7 < x6) (f6 : PTB (permBegin_0) (permMany_0) (perm_0)) (f7 : x6 ≤ 6) (f8 : (x5 + 1) ≤ permMany_0 (x6)) (f9 : LSB (items_0) (layerMany_0) (itemLayer_0) (layerSize_0) (layerItem_0)) (f10 : x6 = layerSize_0 (x4)) (f11 : (0 ≤ x4) ∧ ((x4 + 1) ≤ layerMany_0)) (f12 : 0 ≤ x5) (f13 : SOW (permBegin_0) (perm_0) (layerItem_0) (row_0) (x6) (x4) (x5) (x7)) (hK_0_102 : ∀ j : Int, 0 ≤ j → j < 76 → 0 ≤ itemLayer_0 j ∧ itemLayer_0 j ≤ 75) (hK_0_105 : ∀ j : Int, 0 ≤ j → j < 76 → 0 ≤ layerSize_0 j ∧ layerSize_0 j ≤ 76) (hK_0_106 : ∀ j : Int, 0 ≤ j → j < 5776 → 0 ≤ layerItem_0 j ∧ layerItem_0 j ≤ 75) (hK_0_110 : ∀ j : Int, 0 ≤ j → j < 8 → 0 ≤ permBegin_0 j ∧ permBegin_0 j ≤ 5500) (hK_0_111 : ∀ j : Int, 0 ≤ j → j < 8 → 0 ≤ permMany_0 j ∧ permMany_0 j ≤ 720) (hK_0_112 : ∀ j : Int, 0 ≤ j → j < 6000 → 0 ≤ perm_0 j ∧ perm_0 j ≤ 5) (hK_0_117 : ∀ j : Int, 0 ≤ j → j < 100 → 0 ≤ row_0 j ∧ row_0 j ≤ 75) (kz_0_100 : 0 ≤ items_0 ∧ items_0 ≤ 76) (kz_0_101 : 0 ≤ layerMany_0 ∧ layerMany_0 ≤ 76) : 1 ≤ x6 ∧ x6 ≤ 6 := by
  omega
def o_Mo_setOrder_2 : or_T := (39, 14, [(0, (2, 0, 0, [165])), (3, (2, 0, 0, [165])), (4, (0, 0, 75, [])), (5, (0, 0, 719, [])), (6, (0, 1, 76, [])), (7, (0, 0, 75, [])), (8, (2, 0, 0, [249])), (9, (2, 0, 0, [239])), (10, (0, 76, 76, [])), (11, (0, 0, 5700, [])), (12, (2, 0, 0, [244])), (13, (2, 0, 0, [242]))], [(9, [13, 3], [110]), (9, [12, 3], [112]), (3, [11, 10, 4], []), (9, [9, 3], [106]), (9, [8, 3], [117]), (7, [7, 6], [2]), (20, [3], [60, 0, 3, 367, 110, 111, 112]), (20, [6], [50, 0, 0, 0, 2, 1, 0, 0, 6]), (20, [5, 3, 6], [50, 0, 1, 1111, 0, 6, 4, 2, 1, 0, 0, 1, 3, 1, 111, 1, 2]), (20, [3], [60, 2, 3, 448, 100, 101, 102, 105, 106]), (20, [6, 3, 4], [50, 0, 1, 1105, 1, 2, 1, 0, 3, 1, 105, 1, 2]), (20, [4, 3], [50, 1, 0, 1101, 2, 6, 0, 2, 0, 0, 1, 0, 0, 6, 4, 2, 1, 0, 0, 1, 2, 1, 101]), (20, [5], [50, 0, 0, 0, 2, 0, 0, 1, 0]), (20, [3, 6, 4, 5, 7], [60, 0, 4, 458, 110, 112, 106, 117]), (24, [0, 3], [])], [(6, (0, 1, 6, []))], [], [], [], [(7, 6, -4294967296, -1), (7, 6, -4294967296, 0)])
theorem oo_Mo_setOrder_2 {kA : Nat → ClassId} : or_ok PRD kA GG o_Mo_setOrder_2 := by
  refine or_mk fun A ta ws vs hD hth hl => ?_
  intro t0 r0 t3 r3 t4 k4 t5 k5 t6 k6 t7 k7 t8 r8 t9 r9 t10 k10 t11 k11 t12 r12 t13 r13 d0 d1 f0 f1 f2 f3 f4 f5 f6 f7 f8 f9 f10 f11 f12 f13 f14
  replace f2 := shm_38 f2
  rw [show v_iv (n_v vs 10) = 76 from by omega] at f2
  replace f6 := shm_718 f6
  replace f8 := shm_723 f8
  replace f9 := shm_675 f9
  replace f10 := shm_724 f10
  replace f11 := shm_721 f11
  replace f13 := shm_725 f13
  replace f14 := shm_5 f14
  have q3 : n_v vs 3 = n_v vs 0 := f14.symm
  simp only [q3] at f6 f8 f9 f10 f11 f13
  have cr_0_102 := fdq_159 hD hth r0
  have cr_0_105 := fdq_122 hD hth r0
  have cr_0_106 := fdq_123 hD hth r0
  have cr_0_110 := fdq_184 hD hth r0
  have cr_0_111 := fdq_185 hD hth r0
  have cr_0_112 := fdq_186 hD hth r0
  have cr_0_117 := fdq_181 hD hth r0
  have hK_0_102 := elq_91 hD hth cr_0_102
  have hK_0_105 := elq_65 hD hth cr_0_105
  have hK_0_106 := elq_66 hD hth cr_0_106
  have hK_0_110 := elq_110 hD hth cr_0_110
  have hK_0_111 := elq_111 hD hth cr_0_111
  have hK_0_112 := elq_112 hD hth cr_0_112
  have hK_0_117 := elq_108 hD hth cr_0_117
  have kz_0_100 := fdq_162 hD hth r0
  have kz_0_101 := fdq_125 hD hth r0
  have hrf0 : 1 ≤ v_iv (n_v vs 6) ∧ v_iv (n_v vs 6) ≤ 6 := vc_Mo_setOrder_2_r0 (v_iv (n_v vs 4)) (v_iv (n_v vs 5)) (v_iv (n_v vs 6)) (v_iv (n_v vs 7)) (v_iv (n_v vs 10)) (v_iv (n_v vs 11)) (w_ei ws (w_ar ws (n_v vs 0) 110)) (w_ei ws (w_ar ws (n_v vs 0) 111)) (w_ei ws (w_ar ws (n_v vs 0) 112)) (w_ei ws (w_ar ws (n_v vs 0) 102)) (w_ei ws (w_ar ws (n_v vs 0) 105)) (w_ei ws (w_ar ws (n_v vs 0) 106)) (w_fi ws (n_v vs 0) 100) (w_fi ws (n_v vs 0) 101) (w_ei ws (w_ar ws (n_v vs 0) 117)) k4 k5 k6 k7 k10 k11 d0 d1 f2 (shm_6 f5) f6 (shm_395 f7) f8 f9 f10 f11 (shm_722 f12) f13 hK_0_102 hK_0_105 hK_0_106 hK_0_110 hK_0_111 hK_0_112 hK_0_117 kz_0_100 kz_0_101
  have rf6 : tv_ok ta (0, 1, 6, []) (n_v vs 6) := tv_in t6 (by first | omega | grind) (by first | omega | grind)
  refine ⟨List.forall_mem_cons.mpr ⟨rf6, (fun _ h => (by cases h))⟩, [], trivial, ?_, (fun _ h => (by cases h))⟩
  rw [List.append_nil]
  exact (fun _ h => (by cases h))
set_option maxHeartbeats 4000000 in
theorem vc_Mo_setOrder_3_r0 (x4 : Int) (x5 : Int) (x6 : Int) (x7 : Int) (x10 : Int) (x11 : Int) (x14 : Int) (x15 : Int) (x16 : Int) (x17 : Int) (permBegin_0 : Int → Int) (permMany_0 : Int → Int) (perm_0 : Int → Int) (itemLayer_0 : Int → Int) (layerSize_0 : Int → Int) (layerItem_0 : Int → Int) (items_0 : Int) (layerMany_0 : Int) (row_0 : Int → Int) (k4 : 0 ≤ x4 ∧ x4 ≤ 75) (k5 : 0 ≤ x5 ∧ x5 ≤ 719) (k6 : 1 ≤ x6 ∧ x6 ≤ 6) (k7 : 0 ≤ x7 ∧ x7 ≤ 75) (k10 : 76 ≤ x10 ∧ x10 ≤ 76) (k11 : 0 ≤ x11 ∧ x11 ≤ 5700) (k14 : 0 ≤ x14 ∧ x14 ≤ 5500) (k15 : 0 ≤ x15 ∧ x15 ≤ 4314) (k16 : 0 ≤ x16 ∧ x16 ≤ 9814) (k17 : 0 ≤ x17 ∧ x17 ≤ 9889) (d0 : x7 + 0 ≤ x17 ∧ x17 ≤ x7 + 9814) (d1 : x6 + (-4294967296) ≤ x17 ∧ x17 ≤ x6 + 9813) (d2 : x6 + (-4294967296) ≤ x17 ∧ x17 ≤ x6 + 9814) (d3 : x16 + 0 ≤ x17 ∧ x17 ≤ x16 + 75) (d4 : x15 + 0 ≤ x17 ∧ x17 ≤ x15 + 5575) (d5 : x14 + 0 ≤ x17 ∧ x17 ≤ x14 + 4389) (d6 : x15 + 0 ≤ x16 ∧ x16 ≤ x15 + 5500) (d7 : x14 + 0 ≤ x16 ∧ x16 ≤ x14 + 4314) (d8 : x6 + (-4294967296) ≤ x7 ∧ x7 ≤ x6 + (-1)) (d9 : x6 + (-4294967296) ≤ x7 ∧ x7 ≤ x6 + 0) (f0 : x17 = x16 + x7) (f1 : x16 = x14 + x15) (f2 : x15 = x6 * x5) (h3 : x14 = permBegin_0 (x6)) (f6 : x11 = 76 * x4) (f9 : x7 < x6) (f10 : PTB (permBegin_0) (permMany_0) (perm_0)) (f11 : x6 ≤ 6) (f12 : (x5 + 1) ≤ permMany_0 (x6)) (f13 : LSB (items_0) (layerMany_0) (itemLayer_0) (layerSize_0) (layerItem_0)) (f14 : x6 = layerSize_0 (x4)) (f15 : (0 ≤ x4) ∧ ((x4 + 1) ≤ layerMany_0)) (f16 : 0 ≤ x5) (f17 : SOW (permBegin_0) (perm_0) (layerItem_0) (row_0) (x6) (x4) (x5) (x7)) (hK_0_102 : ∀ j : Int, 0 ≤ j → j < 76 → 0 ≤ itemLayer_0 j ∧ itemLayer_0 j ≤ 75) (hK_0_105 : ∀ j : Int, 0 ≤ j → j < 76 → 0 ≤ layerSize_0 j ∧ layerSize_0 j ≤ 76) (hK_0_106 : ∀ j : Int, 0 ≤ j → j < 5776 → 0 ≤ layerItem_0 j ∧ layerItem_0 j ≤ 75) (hK_0_110 : ∀ j : Int, 0 ≤ j → j < 8 → 0 ≤ permBegin_0 j ∧ permBegin_0 j ≤ 5500) (hK_0_111 : ∀ j : Int, 0 ≤ j → j < 8 → 0 ≤ permMany_0 j ∧ permMany_0 j ≤ 720) (hK_0_112 : ∀ j : Int, 0 ≤ j → j < 6000 → 0 ≤ perm_0 j ∧ perm_0 j ≤ 5) (hK_0_117 : ∀ j : Int, 0 ≤ j → j < 100 → 0 ≤ row_0 j ∧ row_0 j ≤ 75) (kz_0_100 : 0 ≤ items_0 ∧ items_0 ≤ 76) (kz_0_101 : 0 ≤ layerMany_0 ∧ layerMany_0 ≤ 76) : 0 ≤ x17 ∧ x17 ≤ 5999 := by
  have h := pwx_start (k := x5) (s := x6) ‹PTB _ _ _› (by omega) (by omega) (by omega) (by omega) (by assumption) (by assumption) (by assumption) x7 (by omega) (by omega)
  omega
def o_Mo_setOrder_3 : or_T := (47, 18, [(0, (2, 0, 0, [165])), (3, (2, 0, 0, [165])), (4, (0, 0, 75, [])), (5, (0, 0, 719, [])), (6, (0, 1, 6, [])), (7, (0, 0, 75, [])), (8, (2, 0, 0, [249])), (9, (2, 0, 0, [239])), (10, (0, 76, 76, [])), (11, (0, 0, 5700, [])), (12, (2, 0, 0, [244])), (13, (2, 0, 0, [242])), (14, (0, 0, 5500, [])), (15, (0, 0, 4314, [])), (16, (0, 0, 9814, [])), (17, (0, 0, 9889, []))], [(1, [17, 16, 7], []), (1, [16, 14, 15], []), (3, [15, 6, 5], []), (10, [14, 13, 6], []), (9, [13, 3], [110]), (9, [12, 3], [112]), (3, [11, 10, 4], []), (9, [9, 3], [106]), (9, [8, 3], [117]), (7, [7, 6], [2]), (20, [3], [60, 0, 3, 367, 110, 111, 112]), (20, [6], [50, 0, 0, 0, 2, 1, 0, 0, 6]), (20, [5, 3, 6], [50, 0, 1, 1111, 0, 6, 4, 2, 1, 0, 0, 1, 3, 1, 111, 1, 2]), (20, [3], [60, 2, 3, 448, 100, 101, 102, 105, 106]), (20, [6, 3, 4], [50, 0, 1, 1105, 1, 2, 1, 0, 3, 1, 105, 1, 2]), (20, [4, 3], [50, 1, 0, 1101, 2, 6, 0, 2, 0, 0, 1, 0, 0, 6, 4, 2, 1, 0, 0, 1, 2, 1, 101]), (20, [5], [50, 0, 0, 0, 2, 0, 0, 1, 0]), (20, [3, 6, 4, 5, 7], [60, 0, 4, 458, 110, 112, 106, 117]), (24, [0, 3], [])], [(17, (0, 0, 5999, []))], [], [], [], [(17, 7, 0, 9814), (17, 6, -4294967296, 9813), (17, 6, -4294967296, 9814), (17, 16, 0, 75), (17, 15, 0, 5575), (17, 14, 0, 4389), (16, 15, 0, 5500), (16, 14, 0, 4314), (7, 6, -4294967296, -1), (7, 6, -4294967296, 0)])
theorem oo_Mo_setOrder_3 {kA : Nat → ClassId} : or_ok PRD kA GG o_Mo_setOrder_3 := by
  refine or_mk fun A ta ws vs hD hth hl => ?_
  intro t0 r0 t3 r3 t4 k4 t5 k5 t6 k6 t7 k7 t8 r8 t9 r9 t10 k10 t11 k11 t12 r12 t13 r13 t14 k14 t15 k15 t16 k16 t17 k17 d0 d1 d2 d3 d4 d5 d6 d7 d8 d9 f0 f1 f2 f3 f4 f5 f6 f7 f8 f9 f10 f11 f12 f13 f14 f15 f16 f17 f18
  replace f3 := shm_107 f3
  replace f4 := shm_727 f4
  replace f6 := shm_38 f6
  rw [show v_iv (n_v vs 10) = 76 from by omega] at f6
  replace f10 := shm_718 f10
  replace f12 := shm_723 f12
  replace f13 := shm_675 f13
  replace f14 := shm_724 f14
  replace f15 := shm_721 f15
  replace f17 := shm_725 f17
  replace f18 := shm_5 f18
  have q3 : n_v vs 3 = n_v vs 0 := f18.symm
  simp only [q3] at f4 f10 f12 f13 f14 f15 f17
  have cr_0_102 := fdq_159 hD hth r0
  have cr_0_105 := fdq_122 hD hth r0
  have cr_0_106 := fdq_123 hD hth r0
  have cr_0_110 := fdq_184 hD hth r0
  have cr_0_111 := fdq_185 hD hth r0
  have cr_0_112 := fdq_186 hD hth r0
  have cr_0_117 := fdq_181 hD hth r0
  have ad_13 : v_ad (n_v vs 13) = w_ar ws (n_v vs 0) 110 := congrArg v_ad f4
  simp only [ad_13] at f3
  have h3 : v_iv (n_v vs 14) = w_ei ws (w_ar ws (n_v vs 0) 110) (v_iv (n_v vs 6)) := f3
  have hK_0_102 := elq_91 hD hth cr_0_102
  have hK_0_105 := elq_65 hD hth cr_0_105
  have hK_0_106 := elq_66 hD hth cr_0_106
  have hK_0_110 := elq_110 hD hth cr_0_110
  have hK_0_111 := elq_111 hD hth cr_0_111
  have hK_0_112 := elq_112 hD hth cr_0_112
  have hK_0_117 := elq_108 hD hth cr_0_117
  have kz_0_100 := fdq_162 hD hth r0
  have kz_0_101 := fdq_125 hD hth r0
  have hrf0 : 0 ≤ v_iv (n_v vs 17) ∧ v_iv (n_v vs 17) ≤ 5999 := vc_Mo_setOrder_3_r0 (v_iv (n_v vs 4)) (v_iv (n_v vs 5)) (v_iv (n_v vs 6)) (v_iv (n_v vs 7)) (v_iv (n_v vs 10)) (v_iv (n_v vs 11)) (v_iv (n_v vs 14)) (v_iv (n_v vs 15)) (v_iv (n_v vs 16)) (v_iv (n_v vs 17)) (w_ei ws (w_ar ws (n_v vs 0) 110)) (w_ei ws (w_ar ws (n_v vs 0) 111)) (w_ei ws (w_ar ws (n_v vs 0) 112)) (w_ei ws (w_ar ws (n_v vs 0) 102)) (w_ei ws (w_ar ws (n_v vs 0) 105)) (w_ei ws (w_ar ws (n_v vs 0) 106)) (w_fi ws (n_v vs 0) 100) (w_fi ws (n_v vs 0) 101) (w_ei ws (w_ar ws (n_v vs 0) 117)) k4 k5 k6 k7 k10 k11 k14 k15 k16 k17 d0 d1 d2 d3 d4 d5 d6 d7 d8 d9 (shm_12 f0) (shm_12 f1) (shm_38 f2) h3 f6 (shm_6 f9) f10 (shm_395 f11) f12 f13 f14 f15 (shm_722 f16) f17 hK_0_102 hK_0_105 hK_0_106 hK_0_110 hK_0_111 hK_0_112 hK_0_117 kz_0_100 kz_0_101
  have rf17 : tv_ok ta (0, 0, 5999, []) (n_v vs 17) := tv_in t17 (by first | omega | grind) (by first | omega | grind)
  refine ⟨List.forall_mem_cons.mpr ⟨rf17, (fun _ h => (by cases h))⟩, [], trivial, ?_, (fun _ h => (by cases h))⟩
  rw [List.append_nil]
  exact (fun _ h => (by cases h))
set_option maxHeartbeats 4000000 in
theorem vc_Mo_setOrder_4_0 (x4 : Int) (x5 : Int) (x6 : Int) (x7 : Int) (x10 : Int) (x11 : Int) (x14 : Int) (x15 : Int) (x16 : Int) (x17 : Int) (x18 : Int) (x19 : Int) (x20 : Int) (x21 : Int) (permBegin_0 : Int → Int) (permMany_0 : Int → Int) (perm_0 : Int → Int) (itemLayer_0 : Int → Int) (layerSize_0 : Int → Int) (layerItem_0 : Int → Int) (items_0 : Int) (layerMany_0 : Int) (layerItem_1 : Int → Int) (perm_1 : Int → Int) (permBegin_1 : Int → Int) (permMany_1 : Int → Int) (itemLayer_1 : Int → Int) (layerSize_1 : Int → Int) (items_1 : Int) (layerMany_1 : Int) (row_1 : Int → Int) (row_0 : Int → Int) (k4 : 0 ≤ x4 ∧ x4 ≤ 75) (k5 : 0 ≤ x5 ∧ x5 ≤ 719) (k6 : 1 ≤ x6 ∧ x6 ≤ 6) (k7 : 0 ≤ x7 ∧ x7 ≤ 75) (k10 : 76 ≤ x10 ∧ x10 ≤ 76) (k11 : 0 ≤ x11 ∧ x11 ≤ 5700) (k14 : 0 ≤ x14 ∧ x14 ≤ 5500) (k15 : 0 ≤ x15 ∧ x15 ≤ 4314) (k16 : 0 ≤ x16 ∧ x16 ≤ 9814) (k17 : 0 ≤ x17 ∧ x17 ≤ 5999) (k18 : 0 ≤ x18 ∧ x18 ≤ 5) (k19 : 0 ≤ x19 ∧ x19 ≤ 5705) (k20 : 0 ≤ x20 ∧ x20 ≤ 75) (k21 : 1 ≤ x21 ∧ x21 ≤ 76) (d0 : x7 + 1 ≤ x21 ∧ x21 ≤ x7 + 1) (d1 : x6 + (-4294967296) ≤ x21 ∧ x21 ≤ x6 + 0) (d2 : x6 + (-4294967296) ≤ x21 ∧ x21 ≤ x6 + 1) (d3 : x18 + 0 ≤ x19 ∧ x19 ≤ x18 + 5700) (d4 : x11 + 0 ≤ x19 ∧ x19 ≤ x11 + 5) (d5 : x7 + 0 ≤ x17 ∧ x17 ≤ x7 + 9814) (d6 : x16 + 0 ≤ x17 ∧ x17 ≤ x16 + 75) (d7 : x15 + 0 ≤ x17 ∧ x17 ≤ x15 + 5575) (d8 : x14 + 0 ≤ x17 ∧ x17 ≤ x14 + 4389) (d9 : x15 + 0 ≤ x16 ∧ x16 ≤ x15 + 5500) (d10 : x14 + 0 ≤ x16 ∧ x16 ≤ x14 + 4314) (d11 : x6 + (-4294967296) ≤ x7 ∧ x7 ≤ x6 + (-1)) (d12 : x6 + (-4294967296) ≤ x7 ∧ x7 ≤ x6 + 0) (f0 : x21 = x7 + 1) (f1 : PTB (permBegin_0) (permMany_0) (perm_0)) (f2 : x6 ≤ 6) (f3 : (x5 + 1) ≤ permMany_0 (x6)) (f4 : LSB (items_0) (layerMany_0) (itemLayer_0) (layerSize_0) (layerItem_0)) (f5 : x6 = layerSize_0 (x4)) (f6 : (0 ≤ x4) ∧ ((x4 + 1) ≤ layerMany_0)) (f7 : 0 ≤ x5) (h10 : x20 = layerItem_1 (x19)) (f11 : x19 = x11 + x18) (h12 : x18 = perm_1 (x17)) (f13 : x17 = x16 + x7) (f14 : x16 = x14 + x15) (f15 : x15 = x6 * x5) (h16 : x14 = permBegin_1 (x6)) (f19 : x11 = 76 * x4) (f22 : x7 < x6) (f23 : PTB (permBegin_1) (permMany_1) (perm_1)) (f24 : x6 ≤ 6) (f25 : (x5 + 1) ≤ permMany_1 (x6)) (f26 : LSB (items_1) (layerMany_1) (itemLayer_1) (layerSize_1) (layerItem_1)) (f27 : x6 = layerSize_1 (x4)) (f28 : (0 ≤ x4) ∧ ((x4 + 1) ≤ layerMany_1)) (f29 : 0 ≤ x5) (f30 : SOW (permBegin_1) (perm_1) (layerItem_1) (row_1) (x6) (x4) (x5) (x7)) (fe_0_100_1 : items_0 = items_1) (fe_0_101_1 : layerMany_0 = layerMany_1) (hE_0_102_1 : ∀ j : Int, itemLayer_0 j = itemLayer_1 j) (hK_0_102 : ∀ j : Int, 0 ≤ j → j < 76 → 0 ≤ itemLayer_0 j ∧ itemLayer_0 j ≤ 75) (hE_0_105_1 : ∀ j : Int, layerSize_0 j = layerSize_1 j) (hK_0_105 : ∀ j : Int, 0 ≤ j → j < 76 → 0 ≤ layerSize_0 j ∧ layerSize_0 j ≤ 76) (hE_0_106_1 : ∀ j : Int, layerItem_0 j = layerItem_1 j) (hK_0_106 : ∀ j : Int, 0 ≤ j → j < 5776 → 0 ≤ layerItem_0 j ∧ layerItem_0 j ≤ 75) (hE_0_110_1 : ∀ j : Int, permBegin_0 j = permBegin_1 j) (hK_0_110 : ∀ j : Int, 0 ≤ j → j < 8 → 0 ≤ permBegin_0 j ∧ permBegin_0 j ≤ 5500) (hE_0_111_1 : ∀ j : Int, permMany_0 j = permMany_1 j) (hK_0_111 : ∀ j : Int, 0 ≤ j → j < 8 → 0 ≤ permMany_0 j ∧ permMany_0 j ≤ 720) (hE_0_112_1 : ∀ j : Int, perm_0 j = perm_1 j) (hK_0_112 : ∀ j : Int, 0 ≤ j → j < 6000 → 0 ≤ perm_0 j ∧ perm_0 j ≤ 5) (hE_0_117_1 : ∀ j : Int, 0 ≤ j → (j = x7 → row_0 j = x20) ∧ (j ≠ x7 → row_0 j = row_1 j)) (hK_0_117 : ∀ j : Int, 0 ≤ j → j < 100 → 0 ≤ row_0 j ∧ row_0 j ≤ 75) (kz_0_100 : 0 ≤ items_0 ∧ items_0 ≤ 76) (kz_0_101 : 0 ≤ layerMany_0 ∧ layerMany_0 ≤ 76) : SOW (permBegin_0) (perm_0) (layerItem_0) (row_0) (x6) (x4) (x5) (x21) := by
  subst fe_0_100_1
  subst fe_0_101_1
  have e_hE_0_102_1 := funext hE_0_102_1; subst e_hE_0_102_1
  have e_hE_0_105_1 := funext hE_0_105_1; subst e_hE_0_105_1
  have e_hE_0_106_1 := funext hE_0_106_1; subst e_hE_0_106_1
  have e_hE_0_110_1 := funext hE_0_110_1; subst e_hE_0_110_1
  have e_hE_0_111_1 := funext hE_0_111_1; subst e_hE_0_111_1
  have e_hE_0_112_1 := funext hE_0_112_1; subst e_hE_0_112_1
  first
    | (intro j a b; exfalso; omega)
    | exact sow_step (a := x11) (b := x14) (c := x15) (d := x16) (x := x17) (y := x18) (z := x19) ‹SOW _ _ _ _ _ _ _ _› (by assumption) (by assumption) (by assumption) (by assumption) (by assumption) (by assumption) (by assumption) (by assumption) (by assumption) (by assumption) rfl
def o_Mo_setOrder_4 : or_T := (10, 22, [(0, (2, 0, 0, [165])), (4, (0, 0, 75, [])), (5, (0, 0, 719, [])), (6, (0, 1, 6, [])), (7, (0, 0, 75, [])), (8, (2, 0, 0, [249])), (10, (0, 76, 76, [])), (11, (0, 0, 5700, [])), (14, (0, 0, 5500, [])), (15, (0, 0, 4314, [])), (16, (0, 0, 9814, [])), (17, (0, 0, 5999, [])), (18, (0, 0, 5, [])), (19, (0, 0, 5705, [])), (20, (0, 0, 75, [])), (21, (0, 1, 76, []))], [(6, [21, 7], [1]), (20, [3], [60, 0, 3, 367, 110, 111, 112]), (20, [6], [50, 0, 0, 0, 2, 1, 0, 0, 6]), (20, [5, 3, 6], [50, 0, 1, 1111, 0, 6, 4, 2, 1, 0, 0, 1, 3, 1, 111, 1, 2]), (20, [3], [60, 2, 3, 448, 100, 101, 102, 105, 106]), (20, [6, 3, 4], [50, 0, 1, 1105, 1, 2, 1, 0, 3, 1, 105, 1, 2]), (20, [4, 3], [50, 1, 0, 1101, 2, 6, 0, 2, 0, 0, 1, 0, 0, 6, 4, 2, 1, 0, 0, 1, 2, 1, 101]), (20, [5], [50, 0, 0, 0, 2, 0, 0, 1, 0]), (24, [0, 3], []), (100, [8, 7, 20], []), (10, [20, 9, 19], []), (1, [19, 11, 18], []), (10, [18, 12, 17], []), (1, [17, 16, 7], []), (1, [16, 14, 15], []), (3, [15, 6, 5], []), (10, [14, 13, 6], []), (9, [13, 3], [110]), (9, [12, 3], [112]), (3, [11, 10, 4], []), (9, [9, 3], [106]), (9, [8, 3], [117]), (7, [7, 6], [2]), (20, [3], [60, 0, 3, 367, 110, 111, 112]), (20, [6], [50, 0, 0, 0, 2, 1, 0, 0, 6]), (20, [5, 3, 6], [50, 0, 1, 1111, 0, 6, 4, 2, 1, 0, 0, 1, 3, 1, 111, 1, 2]), (20, [3], [60, 2, 3, 448, 100, 101, 102, 105, 106]), (20, [6, 3, 4], [50, 0, 1, 1105, 1, 2, 1, 0, 3, 1, 105, 1, 2]), (20, [4, 3], [50, 1, 0, 1101, 2, 6, 0, 2, 0, 0, 1, 0, 0, 6, 4, 2, 1, 0, 0, 1, 2, 1, 101]), (20, [5], [50, 0, 0, 0, 2, 0, 0, 1, 0]), (20, [3, 6, 4, 5, 7], [60, 0, 4, 458, 110, 112, 106, 117])], [], [], [(20, [3, 6, 4, 5, 21], [60, 0, 4, 458, 110, 112, 106, 117])], [], [(21, 7, 1, 1), (21, 6, -4294967296, 0), (21, 6, -4294967296, 1), (19, 18, 0, 5700), (19, 11, 0, 5), (17, 7, 0, 9814), (17, 16, 0, 75), (17, 15, 0, 5575), (17, 14, 0, 4389), (16, 15, 0, 5500), (16, 14, 0, 4314), (7, 6, -4294967296, -1), (7, 6, -4294967296, 0)])
theorem oo_Mo_setOrder_4 {kA : Nat → ClassId} : or_ok PRD kA GG o_Mo_setOrder_4 := by
  refine or_mk fun A ta ws vs hD hth hl => ?_
  intro t0 r0 t4 k4 t5 k5 t6 k6 t7 k7 t8 r8 t10 k10 t11 k11 t14 k14 t15 k15 t16 k16 t17 k17 t18 k18 t19 k19 t20 k20 t21 k21 d0 d1 d2 d3 d4 d5 d6 d7 d8 d9 d10 d11 d12 f0 f1 f2 f3 f4 f5 f6 f7 f8 ta1 w1 le1 s1 f10 f11 f12 f13 f14 f15 f16 f17 f18 f19 f20 f21 f22 f23 f24 f25 f26 f27 f28 f29 f30
  replace f0 := shm_4 f0
  replace f1 := shm_718 f1
  replace f2 := shm_395 f2
  replace f3 := shm_723 f3
  replace f4 := shm_675 f4
  replace f5 := shm_724 f5
  replace f6 := shm_721 f6
  replace f7 := shm_722 f7
  replace f8 := shm_5 f8
  have s1 : (∀ b j, w_el ws b j = if b = v_ad (n_v vs 8) ∧ j = (v_iv (n_v vs 7)).toNat then v_iv (n_v vs 20) else w_el w1 b j) ∧ ∀ b k, w_fd ws b k = w_fd w1 b k := s1.2
  replace f10 := shm_107 f10
  replace f11 := shm_12 f11
  replace f12 := shm_107 f12
  replace f13 := shm_12 f13
  replace f14 := shm_12 f14
  replace f15 := shm_38 f15
  replace f16 := shm_107 f16
  replace f17 := shm_727 f17
  replace f18 := shm_728 f18
  replace f19 := shm_38 f19
  rw [show v_iv (n_v vs 10) = 76 from by omega] at f19
  replace f20 := shm_679 f20
  replace f21 := shm_713 f21
  replace f22 := shm_6 f22
  replace f23 := shm_718 f23
  replace f24 := shm_395 f24
  replace f25 := shm_723 f25
  replace f26 := shm_675 f26
  replace f27 := shm_724 f27
  replace f28 := shm_721 f28
  replace f29 := shm_722 f29
  replace f30 := shm_725 f30
  have q3 : n_v vs 3 = n_v vs 0 := f8.symm
  simp only [q3] at f1 f3 f4 f5 f6 f17 f18 f20 f21 f23 f25 f26 f27 f28 f30
  have ar_0_102_1 : w_ar w1 (n_v vs 0) 102 = w_ar ws (n_v vs 0) 102 := congrArg v_ad (s1.2 _ _).symm
  have cr_0_102 := fdq_159 hD hth r0
  have ar_0_105_1 : w_ar w1 (n_v vs 0) 105 = w_ar ws (n_v vs 0) 105 := congrArg v_ad (s1.2 _ _).symm
  have cr_0_105 := fdq_122 hD hth r0
  have ar_0_106_1 : w_ar w1 (n_v vs 0) 106 = w_ar ws (n_v vs 0) 106 := congrArg v_ad (s1.2 _ _).symm
  have cr_0_106 := fdq_123 hD hth r0
  have ar_0_110_1 : w_ar w1 (n_v vs 0) 110 = w_ar ws (n_v vs 0) 110 := congrArg v_ad (s1.2 _ _).symm
  have cr_0_110 := fdq_184 hD hth r0
  have ar_0_111_1 : w_ar w1 (n_v vs 0) 111 = w_ar ws (n_v vs 0) 111 := congrArg v_ad (s1.2 _ _).symm
  have cr_0_111 := fdq_185 hD hth r0
  have ar_0_112_1 : w_ar w1 (n_v vs 0) 112 = w_ar ws (n_v vs 0) 112 := congrArg v_ad (s1.2 _ _).symm
  have cr_0_112 := fdq_186 hD hth r0
  have ar_0_117_1 : w_ar w1 (n_v vs 0) 117 = w_ar ws (n_v vs 0) 117 := congrArg v_ad (s1.2 _ _).symm
  have cr_0_117 := fdq_181 hD hth r0
  have ad_13 : v_ad (n_v vs 13) = w_ar ws (n_v vs 0) 110 := (congrArg v_ad f17).trans ar_0_110_1
  have ad_12 : v_ad (n_v vs 12) = w_ar ws (n_v vs 0) 112 := (congrArg v_ad f18).trans ar_0_112_1
  have ad_9 : v_ad (n_v vs 9) = w_ar ws (n_v vs 0) 106 := (congrArg v_ad f20).trans ar_0_106_1
  have ad_8 : v_ad (n_v vs 8) = w_ar ws (n_v vs 0) 117 := (congrArg v_ad f21).trans ar_0_117_1
  simp only [ad_9] at f10
  have h10 : v_iv (n_v vs 20) = w_ei w1 (w_ar ws (n_v vs 0) 106) (v_iv (n_v vs 19)) := f10
  simp only [ad_12] at f12
  have h12 : v_iv (n_v vs 18) = w_ei w1 (w_ar ws (n_v vs 0) 112) (v_iv (n_v vs 17)) := f12
  simp only [ad_13] at f16
  have h16 : v_iv (n_v vs 14) = w_ei w1 (w_ar ws (n_v vs 0) 110) (v_iv (n_v vs 6)) := f16
  simp only [ar_0_110_1, ar_0_111_1, ar_0_112_1, ar_0_102_1, ar_0_105_1, ar_0_106_1, ar_0_117_1] at f23 f25 f26 f27 f30
  have fe_0_100_1 : w_fi ws (n_v vs 0) 100 = w_fi w1 (n_v vs 0) 100 := congrArg v_iv (s1.2 _ _)
  have fe_0_101_1 : w_fi ws (n_v vs 0) 101 = w_fi w1 (n_v vs 0) 101 := congrArg v_iv (s1.2 _ _)
  have hE_0_102_1 : ∀ j : Int, w_ei ws (w_ar ws (n_v vs 0) 102) j = w_ei w1 (w_ar ws (n_v vs 0) 102) j := el_kp s1.1 r8 cr_0_102 (by decide)
  have hK_0_102 := elq_91 hD hth cr_0_102
  have hE_0_105_1 : ∀ j : Int, w_ei ws (w_ar ws (n_v vs 0) 105) j = w_ei w1 (w_ar ws (n_v vs 0) 105) j := el_kp s1.1 r8 cr_0_105 (by decide)
  have hK_0_105 := elq_65 hD hth cr_0_105
  have hE_0_106_1 : ∀ j : Int, w_ei ws (w_ar ws (n_v vs 0) 106) j = w_ei w1 (w_ar ws (n_v vs 0) 106) j := el_kp s1.1 r8 cr_0_106 (by decide)
  have hK_0_106 := elq_66 hD hth cr_0_106
  have hE_0_110_1 : ∀ j : Int, w_ei ws (w_ar ws (n_v vs 0) 110) j = w_ei w1 (w_ar ws (n_v vs 0) 110) j := el_kp s1.1 r8 cr_0_110 (by decide)
  have hK_0_110 := elq_110 hD hth cr_0_110
  have hE_0_111_1 : ∀ j : Int, w_ei ws (w_ar ws (n_v vs 0) 111) j = w_ei w1 (w_ar ws (n_v vs 0) 111) j := el_kp s1.1 r8 cr_0_111 (by decide)
  have hK_0_111 := elq_111 hD hth cr_0_111
  have hE_0_112_1 : ∀ j : Int, w_ei ws (w_ar ws (n_v vs 0) 112) j = w_ei w1 (w_ar ws (n_v vs 0) 112) j := el_kp s1.1 r8 cr_0_112 (by decide)
  have hK_0_112 := elq_112 hD hth cr_0_112
  have hE_0_117_1 : ∀ j : Int, 0 ≤ j → (j = v_iv (n_v vs 7) → w_ei ws (w_ar ws (n_v vs 0) 117) j = v_iv (n_v vs 20)) ∧ (j ≠ v_iv (n_v vs 7) → w_ei ws (w_ar ws (n_v vs 0) 117) j = w_ei w1 (w_ar ws (n_v vs 0) 117) j) := fun j hj => ⟨fun h => by unfold w_ei; rw [s1.1, if_pos ⟨ad_8.symm, by rw [h]⟩], fun h => by unfold w_ei; rw [s1.1, if_neg (fun e => h (by have := e.2; omega))]⟩
  have hK_0_117 := elq_108 hD hth cr_0_117
  have kz_0_100 := fdq_162 hD hth r0
  have kz_0_101 := fdq_125 hD hth r0
  have nf0 : fc_1 PRD (20, [3, 6, 4, 5, 21], [60, 0, 4, 458, 110, 112, 106, 117]) ws (vs) := by
    refine ⟨nf_in hl rfl, sgq_725 ?_⟩
    · show SOW (w_ei ws (w_ar ws (n_v vs 3) 110)) (w_ei ws (w_ar ws (n_v vs 3) 112)) (w_ei ws (w_ar ws (n_v vs 3) 106)) (w_ei ws (w_ar ws (n_v vs 3) 117)) (v_iv (n_v vs 6)) (v_iv (n_v vs 4)) (v_iv (n_v vs 5)) (v_iv (n_v vs 21))
      rw [q3]
      exact vc_Mo_setOrder_4_0 (v_iv (n_v vs 4)) (v_iv (n_v vs 5)) (v_iv (n_v vs 6)) (v_iv (n_v vs 7)) (v_iv (n_v vs 10)) (v_iv (n_v vs 11)) (v_iv (n_v vs 14)) (v_iv (n_v vs 15)) (v_iv (n_v vs 16)) (v_iv (n_v vs 17)) (v_iv (n_v vs 18)) (v_iv (n_v vs 19)) (v_iv (n_v vs 20)) (v_iv (n_v vs 21)) (w_ei ws (w_ar ws (n_v vs 0) 110)) (w_ei ws (w_ar ws (n_v vs 0) 111)) (w_ei ws (w_ar ws (n_v vs 0) 112)) (w_ei ws (w_ar ws (n_v vs 0) 102)) (w_ei ws (w_ar ws (n_v vs 0) 105)) (w_ei ws (w_ar ws (n_v vs 0) 106)) (w_fi ws (n_v vs 0) 100) (w_fi ws (n_v vs 0) 101) (w_ei w1 (w_ar ws (n_v vs 0) 106)) (w_ei w1 (w_ar ws (n_v vs 0) 112)) (w_ei w1 (w_ar ws (n_v vs 0) 110)) (w_ei w1 (w_ar ws (n_v vs 0) 111)) (w_ei w1 (w_ar ws (n_v vs 0) 102)) (w_ei w1 (w_ar ws (n_v vs 0) 105)) (w_fi w1 (n_v vs 0) 100) (w_fi w1 (n_v vs 0) 101) (w_ei w1 (w_ar ws (n_v vs 0) 117)) (w_ei ws (w_ar ws (n_v vs 0) 117)) k4 k5 k6 k7 k10 k11 k14 k15 k16 k17 k18 k19 k20 k21 d0 d1 d2 d3 d4 d5 d6 d7 d8 d9 d10 d11 d12 f0 f1 f2 f3 f4 f5 f6 f7 h10 f11 h12 f13 f14 f15 h16 f19 f22 f23 f24 f25 f26 f27 f28 f29 f30 fe_0_100_1 fe_0_101_1 hE_0_102_1 hK_0_102 hE_0_105_1 hK_0_105 hE_0_106_1 hK_0_106 hE_0_110_1 hK_0_110 hE_0_111_1 hK_0_111 hE_0_112_1 hK_0_112 hE_0_117_1 hK_0_117 kz_0_100 kz_0_101
  refine ⟨(fun _ h => (by cases h)), [], trivial, ?_, (fun _ h => (by cases h))⟩
  rw [List.append_nil]
  exact List.forall_mem_cons.mpr ⟨⟨show (20 : Nat) < 100 from by decide, nf0⟩, (fun _ h => (by cases h))⟩
set_option maxHeartbeats 4000000 in
theorem vc_Mo_setOrder_5_0 (x4 : Int) (x6 : Int) (x7 : Int) (itemLayer_0 : Int → Int) (layerSize_0 : Int → Int) (layerItem_0 : Int → Int) (row_0 : Int → Int) (items_0 : Int) (layerMany_0 : Int) (k4 : 0 ≤ x4 ∧ x4 ≤ 75) (k6 : 0 ≤ x6 ∧ x6 ≤ 76) (k7 : 0 ≤ x7 ∧ x7 ≤ 76) (d0 : x6 + 0 ≤ x7 ∧ x7 ≤ x6 + 4294967296) (d1 : x6 + (-4294967296) ≤ x7 ∧ x7 ≤ x6 + 0) (f0 : x6 ≤ x7) (f1 : BMW (items_0) (layerMany_0) (itemLayer_0) (layerSize_0) (layerItem_0) (row_0) (x6) (x4) (x7)) (f2 : x7 ≤ x6) (f3 : x6 ≤ 6) (hK_0_102 : ∀ j : Int, 0 ≤ j → j < 76 → 0 ≤ itemLayer_0 j ∧ itemLayer_0 j ≤ 75) (hK_0_105 : ∀ j : Int, 0 ≤ j → j < 76 → 0 ≤ layerSize_0 j ∧ layerSize_0 j ≤ 76) (hK_0_106 : ∀ j : Int, 0 ≤ j → j < 5776 → 0 ≤ layerItem_0 j ∧ layerItem_0 j ≤ 75) (hK_0_117 : ∀ j : Int, 0 ≤ j → j < 100 → 0 ≤ row_0 j ∧ row_0 j ≤ 75) (kz_0_100 : 0 ≤ items_0 ∧ items_0 ≤ 76) (kz_0_101 : 0 ≤ layerMany_0 ∧ layerMany_0 ≤ 76) : LSB (items_0) (layerMany_0) (itemLayer_0) (layerSize_0) (layerItem_0) := by
  first
    | assumption
    | exact bmw_end ‹BMW _ _ _ _ _ _ _ _ _› (by omega)
def o_Mo_setOrder_5 : or_T := (91, 8, [(0, (2, 0, 0, [165])), (4, (0, 0, 75, [])), (6, (0, 0, 76, [])), (7, (0, 0, 76, []))], [(7, [7, 6], [3]), (20, [3, 6, 4, 7], [60, 2, 4, 453, 100, 101, 102, 105, 106, 117]), (20, [7, 6], [50, 0, 0, 0, 2, 1, 0, 1, 1]), (20, [6], [50, 0, 0, 0, 2, 1, 0, 0, 6]), (24, [0, 3], [])], [], [], [(20, [0], [60, 2, 3, 448, 100, 101, 102, 105, 106])], [], [(7, 6, 0, 4294967296), (7, 6, -4294967296, 0)])
theorem oo_Mo_setOrder_5 {kA : Nat → ClassId} : or_ok PRD kA GG o_Mo_setOrder_5 := by
  refine or_mk fun A ta ws vs hD hth hl => ?_
  intro t0 r0 t4 k4 t6 k6 t7 k7 d0 d1 f0 f1 f2 f3 f4
  replace f1 := shm_726 f1
  replace f4 := shm_5 f4
  have q3 : n_v vs 3 = n_v vs 0 := f4.symm
  simp only [q3] at f1
  have cr_0_102 := fdq_159 hD hth r0
  have cr_0_105 := fdq_122 hD hth r0
  have cr_0_106 := fdq_123 hD hth r0
  have cr_0_117 := fdq_181 hD hth r0
  have hK_0_102 := elq_91 hD hth cr_0_102
  have hK_0_105 := elq_65 hD hth cr_0_105
  have hK_0_106 := elq_66 hD hth cr_0_106
  have hK_0_117 := elq_108 hD hth cr_0_117
  have kz_0_100 := fdq_162 hD hth r0
  have kz_0_101 := fdq_125 hD hth r0
  have nf0 : fc_1 PRD (20, [0], [60, 2, 3, 448, 100, 101, 102, 105, 106]) ws (vs) := ⟨nf_in hl rfl, sgq_675 (vc_Mo_setOrder_5_0 (v_iv (n_v vs 4)) (v_iv (n_v vs 6)) (v_iv (n_v vs 7)) (w_ei ws (w_ar ws (n_v vs 0) 102)) (w_ei ws (w_ar ws (n_v vs 0) 105)) (w_ei ws (w_ar ws (n_v vs 0) 106)) (w_ei ws (w_ar ws (n_v vs 0) 117)) (w_fi ws (n_v vs 0) 100) (w_fi ws (n_v vs 0) 101) k4 k6 k7 d0 d1 (shm_2 f0) f1 (shm_360 f2) (shm_395 f3) hK_0_102 hK_0_105 hK_0_106 hK_0_117 kz_0_100 kz_0_101)⟩
  refine ⟨(fun _ h => (by cases h)), [], trivial, ?_, (fun _ h => (by cases h))⟩
  rw [List.append_nil]
  exact List.forall_mem_cons.mpr ⟨⟨show (20 : Nat) < 100 from by decide, nf0⟩, (fun _ h => (by cases h))⟩
set_option maxHeartbeats 4000000 in
theorem vc_Mo_setOrder_6_0 (x4 : Int) (x6 : Int) (x7 : Int) (x9 : Int) (x10 : Int) (x11 : Int) (x13 : Int) (x14 : Int) (row_1 : Int → Int) (itemLayer_1 : Int → Int) (layerSize_1 : Int → Int) (layerItem_1 : Int → Int) (items_1 : Int) (layerMany_1 : Int) (items_0 : Int) (layerMany_0 : Int) (itemLayer_0 : Int → Int) (layerSize_0 : Int → Int) (layerItem_0 : Int → Int) (row_0 : Int → Int) (k4 : 0 ≤ x4 ∧ x4 ≤ 75) (k6 : 1 ≤ x6 ∧ x6 ≤ 76) (k7 : 0 ≤ x7 ∧ x7 ≤ 75) (k9 : 76 ≤ x9 ∧ x9 ≤ 76) (k10 : 0 ≤ x10 ∧ x10 ≤ 5700) (k11 : 0 ≤ x11 ∧ x11 ≤ 5775) (k13 : 0 ≤ x13 ∧ x13 ≤ 75) (k14 : 1 ≤ x14 ∧ x14 ≤ 76) (d0 : x7 + 1 ≤ x14 ∧ x14 ≤ x7 + 1) (d1 : x6 + (-4294967296) ≤ x14 ∧ x14 ≤ x6 + 0) (d2 : x6 + (-4294967296) ≤ x14 ∧ x14 ≤ x6 + 1) (d3 : x7 + 0 ≤ x11 ∧ x11 ≤ x7 + 5700) (d4 : x6 + (-4294967296) ≤ x11 ∧ x11 ≤ x6 + 5699) (d5 : x6 + (-4294967296) ≤ x11 ∧ x11 ≤ x6 + 5700) (d6 : x10 + 0 ≤ x11 ∧ x11 ≤ x10 + 75) (d7 : x6 + (-4294967296) ≤ x7 ∧ x7 ≤ x6 + (-1)) (d8 : x6 + (-4294967296) ≤ x7 ∧ x7 ≤ x6 + 0) (f0 : x14 = x7 + 1) (f1 : x7 ≤ x6) (f2 : x6 ≤ 6) (h5 : x13 = row_1 (x7)) (f7 : x11 = x10 + x7) (f8 : x10 = 76 * x4) (f10 : x7 < x6) (f11 : BMW (items_1) (layerMany_1) (itemLayer_1) (layerSize_1) (layerItem_1) (row_1) (x6) (x4) (x7)) (f12 : x7 ≤ x6) (f13 : x6 ≤ 6) (fe_0_100_1 : items_0 = items_1) (fe_0_101_1 : layerMany_0 = layerMany_1) (hE_0_102_1 : ∀ j : Int, itemLayer_0 j = itemLayer_1 j) (hK_0_102 : ∀ j : Int, 0 ≤ j → j < 76 → 0 ≤ itemLayer_0 j ∧ itemLayer_0 j ≤ 75) (hE_0_105_1 : ∀ j : Int, layerSize_0 j = layerSize_1 j) (hK_0_105 : ∀ j : Int, 0 ≤ j → j < 76 → 0 ≤ layerSize_0 j ∧ layerSize_0 j ≤ 76) (hE_0_106_1 : ∀ j : Int, 0 ≤ j → (j = x11 → layerItem_0 j = x13) ∧ (j ≠ x11 → layerItem_0 j = layerItem_1 j)) (hK_0_106 : ∀ j : Int, 0 ≤ j → j < 5776 → 0 ≤ layerItem_0 j ∧ layerItem_0 j ≤ 75) (hE_0_117_1 : ∀ j : Int, row_0 j = row_1 j) (hK_0_117 : ∀ j : Int, 0 ≤ j → j < 100 → 0 ≤ row_0 j ∧ row_0 j ≤ 75) (kz_0_100 : 0 ≤ items_0 ∧ items_0 ≤ 76) (kz_0_101 : 0 ≤ layerMany_0 ∧ layerMany_0 ≤ 76) : BMW (items_0) (layerMany_0) (itemLayer_0) (layerSize_0) (layerItem_0) (row_0) (x6) (x4) (x14) := by
  subst fe_0_100_1
  subst fe_0_101_1
  have e_hE_0_102_1 := funext hE_0_102_1; subst e_hE_0_102_1
  have e_hE_0_105_1 := funext hE_0_105_1; subst e_hE_0_105_1
  have e_hE_0_117_1 := funext hE_0_117_1; subst e_hE_0_117_1
  first
    | exact bmw_start ‹LSB _ _ _ _ _› (sow_bmr ‹PTB _ _ _› ‹LSB _ _ _ _ _› ‹SOW _ _ _ _ _ _ _ _› (by omega) (by omega) (by omega) (by omega) (by omega) (by omega) (by omega)) (by omega) (by omega) (by omega) (by omega)
    | exact bmw_step ‹BMW _ _ _ _ _ _ _ _ _› (by assumption) (by assumption) (by omega) (by assumption)
set_option maxHeartbeats 4000000 in
theorem vc_Mo_setOrder_6_1 (x4 : Int) (x6 : Int) (x7 : Int) (x9 : Int) (x10 : Int) (x11 : Int) (x13 : Int) (x14 : Int) (row_1 : Int → Int) (itemLayer_1 : Int → Int) (layerSize_1 : Int → Int) (layerItem_1 : Int → Int) (items_1 : Int) (layerMany_1 : Int) (items_0 : Int) (layerMany_0 : Int) (itemLayer_0 : Int → Int) (layerSize_0 : Int → Int) (layerItem_0 : Int → Int) (row_0 : Int → Int) (k4 : 0 ≤ x4 ∧ x4 ≤ 75) (k6 : 1 ≤ x6 ∧ x6 ≤ 76) (k7 : 0 ≤ x7 ∧ x7 ≤ 75) (k9 : 76 ≤ x9 ∧ x9 ≤ 76) (k10 : 0 ≤ x10 ∧ x10 ≤ 5700) (k11 : 0 ≤ x11 ∧ x11 ≤ 5775) (k13 : 0 ≤ x13 ∧ x13 ≤ 75) (k14 : 1 ≤ x14 ∧ x14 ≤ 76) (d0 : x7 + 1 ≤ x14 ∧ x14 ≤ x7 + 1) (d1 : x6 + (-4294967296) ≤ x14 ∧ x14 ≤ x6 + 0) (d2 : x6 + (-4294967296) ≤ x14 ∧ x14 ≤ x6 + 1) (d3 : x7 + 0 ≤ x11 ∧ x11 ≤ x7 + 5700) (d4 : x6 + (-4294967296) ≤ x11 ∧ x11 ≤ x6 + 5699) (d5 : x6 + (-4294967296) ≤ x11 ∧ x11 ≤ x6 + 5700) (d6 : x10 + 0 ≤ x11 ∧ x11 ≤ x10 + 75) (d7 : x6 + (-4294967296) ≤ x7 ∧ x7 ≤ x6 + (-1)) (d8 : x6 + (-4294967296) ≤ x7 ∧ x7 ≤ x6 + 0) (f0 : x14 = x7 + 1) (f1 : x7 ≤ x6) (f2 : x6 ≤ 6) (h5 : x13 = row_1 (x7)) (f7 : x11 = x10 + x7) (f8 : x10 = 76 * x4) (f10 : x7 < x6) (f11 : BMW (items_1) (layerMany_1) (itemLayer_1) (layerSize_1) (layerItem_1) (row_1) (x6) (x4) (x7)) (f12 : x7 ≤ x6) (f13 : x6 ≤ 6) (fe_0_100_1 : items_0 = items_1) (fe_0_101_1 : layerMany_0 = layerMany_1) (hE_0_102_1 : ∀ j : Int, itemLayer_0 j = itemLayer_1 j) (hK_0_102 : ∀ j : Int, 0 ≤ j → j < 76 → 0 ≤ itemLayer_0 j ∧ itemLayer_0 j ≤ 75) (hE_0_105_1 : ∀ j : Int, layerSize_0 j = layerSize_1 j) (hK_0_105 : ∀ j : Int, 0 ≤ j → j < 76 → 0 ≤ layerSize_0 j ∧ layerSize_0 j ≤ 76) (hE_0_106_1 : ∀ j : Int, 0 ≤ j → (j = x11 → layerItem_0 j = x13) ∧ (j ≠ x11 → layerItem_0 j = layerItem_1 j)) (hK_0_106 : ∀ j : Int, 0 ≤ j → j < 5776 → 0 ≤ layerItem_0 j ∧ layerItem_0 j ≤ 75) (hE_0_117_1 : ∀ j : Int, row_0 j = row_1 j) (hK_0_117 : ∀ j : Int, 0 ≤ j → j < 100 → 0 ≤ row_0 j ∧ row_0 j ≤ 75) (kz_0_100 : 0 ≤ items_0 ∧ items_0 ≤ 76) (kz_0_101 : 0 ≤ layerMany_0 ∧ layerMany_0 ≤ 76) : x14 ≤ x6 := by
  subst fe_0_100_1
  subst fe_0_101_1
  have e_hE_0_102_1 := funext hE_0_102_1; subst e_hE_0_102_1
  have e_hE_0_105_1 := funext hE_0_105_1; subst e_hE_0_105_1
  have e_hE_0_117_1 := funext hE_0_117_1; subst e_hE_0_117_1
  first
    | omega
def o_Mo_setOrder_6 : or_T := (60, 15, [(0, (2, 0, 0, [165])), (4, (0, 0, 75, [])), (6, (0, 1, 76, [])), (7, (0, 0, 75, [])), (8, (2, 0, 0, [239])), (9, (0, 76, 76, [])), (10, (0, 0, 5700, [])), (11, (0, 0, 5775, [])), (13, (0, 0, 75, [])), (14, (0, 1, 76, []))], [(6, [14, 7], [1]), (20, [7, 6], [50, 0, 0, 0, 2, 1, 0, 1, 1]), (20, [6], [50, 0, 0, 0, 2, 1, 0, 0, 6]), (24, [0, 3], []), (100, [8, 11, 13], []), (10, [13, 12, 7], []), (9, [12, 3], [117]), (1, [11, 10, 7], []), (3, [10, 9, 4], []), (9, [8, 3], [106]), (7, [7, 6], [2]), (20, [3, 6, 4, 7], [60, 2, 4, 453, 100, 101, 102, 105, 106, 117]), (20, [7, 6], [50, 0, 0, 0, 2, 1, 0, 1, 1]), (20, [6], [50, 0, 0, 0, 2, 1, 0, 0, 6])], [], [], [(20, [3, 6, 4, 14], [60, 2, 4, 453, 100, 101, 102, 105, 106, 117]), (20, [14, 6], [50, 0, 0, 0, 2, 1, 0, 1, 1])], [], [(14, 7, 1, 1), (14, 6, -4294967296, 0), (14, 6, -4294967296, 1), (11, 7, 0, 5700), (11, 6, -4294967296, 5699), (11, 6, -4294967296, 5700), (11, 10, 0, 75), (7, 6, -4294967296, -1), (7, 6, -4294967296, 0)])
theorem oo_Mo_setOrder_6 {kA : Nat → ClassId} : or_ok PRD kA GG o_Mo_setOrder_6 := by
  refine or_mk fun A ta ws vs hD hth hl => ?_
  intro t0 r0 t4 k4 t6 k6 t7 k7 t8 r8 t9 k9 t10 k10 t11 k11 t13 k13 t14 k14 d0 d1 d2 d3 d4 d5 d6 d7 d8 f0 f1 f2 f3 ta1 w1 le1 s1 f5 f6 f7 f8 f9 f10 f11 f12 f13
  replace f0 := shm_4 f0
  replace f1 := shm_360 f1
  replace f2 := shm_395 f2
  replace f3 := shm_5 f3
  have s1 : (∀ b j, w_el ws b j = if b = v_ad (n_v vs 8) ∧ j = (v_iv (n_v vs 11)).toNat then v_iv (n_v vs 13) else w_el w1 b j) ∧ ∀ b k, w_fd ws b k = w_fd w1 b k := s1.2
  replace f5 := shm_107 f5
  replace f6 := shm_713 f6
  replace f7 := shm_12 f7
  replace f8 := shm_38 f8
  rw [show v_iv (n_v vs 9) = 76 from by omega] at f8
  replace f9 := shm_679 f9
  replace f10 := shm_6 f10
  replace f11 := shm_726 f11
  replace f12 := shm_360 f12
  replace f13 := shm_395 f13
  have q3 : n_v vs 3 = n_v vs 0 := f3.symm
  simp only [q3] at f6 f9 f11
  have ar_0_102_1 : w_ar w1 (n_v vs 0) 102 = w_ar ws (n_v vs 0) 102 := congrArg v_ad (s1.2 _ _).symm
  have cr_0_102 := fdq_159 hD hth r0
  have ar_0_105_1 : w_ar w1 (n_v vs 0) 105 = w_ar ws (n_v vs 0) 105 := congrArg v_ad (s1.2 _ _).symm
  have cr_0_105 := fdq_122 hD hth r0
  have ar_0_106_1 : w_ar w1 (n_v vs 0) 106 = w_ar ws (n_v vs 0) 106 := congrArg v_ad (s1.2 _ _).symm
  have cr_0_106 := fdq_123 hD hth r0
  have ar_0_117_1 : w_ar w1 (n_v vs 0) 117 = w_ar ws (n_v vs 0) 117 := congrArg v_ad (s1.2 _ _).symm
  have cr_0_117 := fdq_181 hD hth r0
  have ad_12 : v_ad (n_v vs 12) = w_ar ws (n_v vs 0) 117 := (congrArg v_ad f6).trans ar_0_117_1
  have ad_8 : v_ad (n_v vs 8) = w_ar ws (n_v vs 0) 106 := (congrArg v_ad f9).trans ar_0_106_1
  simp only [ad_12] at f5
  have h5 : v_iv (n_v vs 13) = w_ei w1 (w_ar ws (n_v vs 0) 117) (v_iv (n_v vs 7)) := f5
  simp only [ar_0_102_1, ar_0_105_1, ar_0_106_1, ar_0_117_1] at f11
  have fe_0_100_1 : w_fi ws (n_v vs 0) 100 = w_fi w1 (n_v vs 0) 100 := congrArg v_iv (s1.2 _ _)
  have fe_0_101_1 : w_fi ws (n_v vs 0) 101 = w_fi w1 (n_v vs 0) 101 := congrArg v_iv (s1.2 _ _)
  have hE_0_102_1 : ∀ j : Int, w_ei ws (w_ar ws (n_v vs 0) 102) j = w_ei w1 (w_ar ws (n_v vs 0) 102) j := el_kp s1.1 r8 cr_0_102 (by decide)
  have hK_0_102 := elq_91 hD hth cr_0_102
  have hE_0_105_1 : ∀ j : Int, w_ei ws (w_ar ws (n_v vs 0) 105) j = w_ei w1 (w_ar ws (n_v vs 0) 105) j := el_kp s1.1 r8 cr_0_105 (by decide)
  have hK_0_105 := elq_65 hD hth cr_0_105
  have hE_0_106_1 : ∀ j : Int, 0 ≤ j → (j = v_iv (n_v vs 11) → w_ei ws (w_ar ws (n_v vs 0) 106) j = v_iv (n_v vs 13)) ∧ (j ≠ v_iv (n_v vs 11) → w_ei ws (w_ar ws (n_v vs 0) 106) j = w_ei w1 (w_ar ws (n_v vs 0) 106) j) := fun j hj => ⟨fun h => by unfold w_ei; rw [s1.1, if_pos ⟨ad_8.symm, by rw [h]⟩], fun h => by unfold w_ei; rw [s1.1, if_neg (fun e => h (by have := e.2; omega))]⟩
  have hK_0_106 := elq_66 hD hth cr_0_106
  have hE_0_117_1 : ∀ j : Int, w_ei ws (w_ar ws (n_v vs 0) 117) j = w_ei w1 (w_ar ws (n_v vs 0) 117) j := el_kp s1.1 r8 cr_0_117 (by decide)
  have hK_0_117 := elq_108 hD hth cr_0_117
  have kz_0_100 := fdq_162 hD hth r0
  have kz_0_101 := fdq_125 hD hth r0
  have nf0 : fc_1 PRD (20, [3, 6, 4, 14], [60, 2, 4, 453, 100, 101, 102, 105, 106, 117]) ws (vs) := by
    refine ⟨nf_in hl rfl, sgq_726 ?_⟩
    · show BMW (w_fi ws (n_v vs 3) 100) (w_fi ws (n_v vs 3) 101) (w_ei ws (w_ar ws (n_v vs 3) 102)) (w_ei ws (w_ar ws (n_v vs 3) 105)) (w_ei ws (w_ar ws (n_v vs 3) 106)) (w_ei ws (w_ar ws (n_v vs 3) 117)) (v_iv (n_v vs 6)) (v_iv (n_v vs 4)) (v_iv (n_v vs 14))
      rw [q3]
      exact vc_Mo_setOrder_6_0 (v_iv (n_v vs 4)) (v_iv (n_v vs 6)) (v_iv (n_v vs 7)) (v_iv (n_v vs 9)) (v_iv (n_v vs 10)) (v_iv (n_v vs 11)) (v_iv (n_v vs 13)) (v_iv (n_v vs 14)) (w_ei w1 (w_ar ws (n_v vs 0) 117)) (w_ei w1 (w_ar ws (n_v vs 0) 102)) (w_ei w1 (w_ar ws (n_v vs 0) 105)) (w_ei w1 (w_ar ws (n_v vs 0) 106)) (w_fi w1 (n_v vs 0) 100) (w_fi w1 (n_v vs 0) 101) (w_fi ws (n_v vs 0) 100) (w_fi ws (n_v vs 0) 101) (w_ei ws (w_ar ws (n_v vs 0) 102)) (w_ei ws (w_ar ws (n_v vs 0) 105)) (w_ei ws (w_ar ws (n_v vs 0) 106)) (w_ei ws (w_ar ws (n_v vs 0) 117)) k4 k6 k7 k9 k10 k11 k13 k14 d0 d1 d2 d3 d4 d5 d6 d7 d8 f0 f1 f2 h5 f7 f8 f10 f11 f12 f13 fe_0_100_1 fe_0_101_1 hE_0_102_1 hK_0_102 hE_0_105_1 hK_0_105 hE_0_106_1 hK_0_106 hE_0_117_1 hK_0_117 kz_0_100 kz_0_101
  have nf1 : fc_1 PRD (20, [14, 6], [50, 0, 0, 0, 2, 1, 0, 1, 1]) ws (vs) := ⟨nf_in hl rfl, sgq_360 (vc_Mo_setOrder_6_1 (v_iv (n_v vs 4)) (v_iv (n_v vs 6)) (v_iv (n_v vs 7)) (v_iv (n_v vs 9)) (v_iv (n_v vs 10)) (v_iv (n_v vs 11)) (v_iv (n_v vs 13)) (v_iv (n_v vs 14)) (w_ei w1 (w_ar ws (n_v vs 0) 117)) (w_ei w1 (w_ar ws (n_v vs 0) 102)) (w_ei w1 (w_ar ws (n_v vs 0) 105)) (w_ei w1 (w_ar ws (n_v vs 0) 106)) (w_fi w1 (n_v vs 0) 100) (w_fi w1 (n_v vs 0) 101) (w_fi ws (n_v vs 0) 100) (w_fi ws (n_v vs 0) 101) (w_ei ws (w_ar ws (n_v vs 0) 102)) (w_ei ws (w_ar ws (n_v vs 0) 105)) (w_ei ws (w_ar ws (n_v vs 0) 106)) (w_ei ws (w_ar ws (n_v vs 0) 117)) k4 k6 k7 k9 k10 k11 k13 k14 d0 d1 d2 d3 d4 d5 d6 d7 d8 f0 f1 f2 h5 f7 f8 f10 f11 f12 f13 fe_0_100_1 fe_0_101_1 hE_0_102_1 hK_0_102 hE_0_105_1 hK_0_105 hE_0_106_1 hK_0_106 hE_0_117_1 hK_0_117 kz_0_100 kz_0_101)⟩
  refine ⟨(fun _ h => (by cases h)), [], trivial, ?_, (fun _ h => (by cases h))⟩
  rw [List.append_nil]
  exact List.forall_mem_cons.mpr ⟨⟨show (20 : Nat) < 100 from by decide, nf0⟩, List.forall_mem_cons.mpr ⟨⟨show (20 : Nat) < 100 from by decide, nf1⟩, (fun _ h => (by cases h))⟩⟩
def n_Mo_setOrder_an : List an_T := [(10, [(0, (2, 0, 0, [165])), (1, (0, 0, 75, [])), (2, (0, 0, 719, [])), (3, (0, 0, 76, [])), (4, (0, 0, 76, []))], [], (0, 0), [(0, 0, 99990), (1, 7, 76), (0, 0, 100000)], [(1, 4, (Int.negSucc 999999999999), 0), (2, 5, (Int.negSucc 999999999999), 0), (4, 1, (Int.negSucc 999999999999), 0), (5, 2, (Int.negSucc 999999999999), 0), (7, 6, (Int.negSucc 999999999999), 0)], [], [(2, 0, 0, [165]), (0, 0, 75, []), (0, 0, 719, [])], 0, [], [(20, [3], [60, 0, 3, 367, 110, 111, 112]), (20, [6], [50, 0, 0, 0, 2, 1, 0, 0, 6]), (20, [5, 3, 6], [50, 0, 1, 1111, 0, 6, 4, 2, 1, 0, 0, 1, 3, 1, 111, 1, 2]), (20, [3], [60, 2, 3, 448, 100, 101, 102, 105, 106]), (20, [6, 3, 4], [50, 0, 1, 1105, 1, 2, 1, 0, 3, 1, 105, 1, 2]), (20, [4, 3], [50, 1, 0, 1101, 2, 6, 0, 2, 0, 0, 1, 0, 0, 6, 4, 2, 1, 0, 0, 1, 2, 1, 101]), (20, [5], [50, 0, 0, 0, 2, 0, 0, 1, 0]), (20, [3, 6, 4, 5, 7], [60, 0, 4, 458, 110, 112, 106, 117]), (24, [0, 3], [])]), (60, [(0, (2, 0, 0, [165])), (1, (0, 0, 75, [])), (2, (0, 0, 719, [])), (3, (0, 0, 76, [])), (4, (0, 0, 76, []))], [], (0, 0), [(0, 0, 99940), (1, 7, 76), (0, 0, 100000)], [(1, 4, (Int.negSucc 999999999999), 0), (2, 5, (Int.negSucc 999999999999), 0), (4, 1, (Int.negSucc 999999999999), 0), (5, 2, (Int.negSucc 999999999999), 0), (7, 6, (Int.negSucc 999999999999), 0)], [], [(2, 0, 0, [165]), (0, 0, 75, []), (0, 0, 719, [])], 0, [], [(20, [3, 6, 4, 7], [60, 2, 4, 453, 100, 101, 102, 105, 106, 117]), (20, [7, 6], [50, 0, 0, 0, 2, 1, 0, 1, 1]), (20, [6], [50, 0, 0, 0, 2, 1, 0, 0, 6]), (24, [0, 3], [])])]
def t_Mo_setOrder_ct : ct_L := []
set_option maxRecDepth 100000 in
theorem c_Mo_setOrder {l : Launch} {D : va_G} {kA : Nat → ClassId} : ct_ok PRD l D kA GG y_Mo_setOrder z_Mo_setOrder e_Mo_setOrder := chk_all_ok (FT := [(231, 13, 105), (234, 13, 106), (243, 13, 110), (249, 13, 112), (265, 13, 117)]) (PT := []) (CT := t_Mo_setOrder_ct) (KT := []) (NT := []) (AN := n_Mo_setOrder_an) (OT := [o_Mo_setOrder_0, o_Mo_setOrder_1, o_Mo_setOrder_2, o_Mo_setOrder_3, o_Mo_setOrder_4, o_Mo_setOrder_5, o_Mo_setOrder_6]) 3 224 (List.forall_mem_cons.mpr ⟨oo_Mo_setOrder_0, List.forall_mem_cons.mpr ⟨oo_Mo_setOrder_1, List.forall_mem_cons.mpr ⟨oo_Mo_setOrder_2, List.forall_mem_cons.mpr ⟨oo_Mo_setOrder_3, List.forall_mem_cons.mpr ⟨oo_Mo_setOrder_4, List.forall_mem_cons.mpr ⟨oo_Mo_setOrder_5, List.forall_mem_cons.mpr ⟨oo_Mo_setOrder_6, List.forall_mem_nil _⟩⟩⟩⟩⟩⟩⟩) (by decide +kernel) ⟨List.forall_mem_cons.mpr ⟨gf_Mo_231, List.forall_mem_cons.mpr ⟨gf_Mo_234, List.forall_mem_cons.mpr ⟨gf_Mo_243, List.forall_mem_cons.mpr ⟨gf_Mo_249, List.forall_mem_cons.mpr ⟨gf_Mo_265, List.forall_mem_nil _⟩⟩⟩⟩⟩, List.forall_mem_nil _, List.forall_mem_nil _, List.forall_mem_nil _, List.forall_mem_nil _, GG_pl⟩ (by decide +kernel)

set_option maxHeartbeats 4000000 in
theorem vc_Mo_shareNew_0_0 (x1 : Int) (x2 : Int) (x5 : Int) (x6 : Int) (x9 : Int) (x10 : Int) (x12 : Int) (drawnNode_0 : Int → Int) (ph_0 : Int → Int) (pt_0 : Int → Int) (k1 : 0 ≤ x1 ∧ x1 ≤ 79) (k2 : 0 ≤ x2 ∧ x2 ≤ 79) (k5 : 0 ≤ x5 ∧ x5 ≤ 24) (k6 : 1 ≤ x6 ∧ x6 ≤ 1) (k9 : 0 ≤ x9 ∧ x9 ≤ 24) (k10 : 1 ≤ x10 ∧ x10 ≤ 1) (k12 : 0 ≤ x12 ∧ x12 ≤ 0) (f0 : x10 ≠ 0) (h1 : x10 = drawnNode_0 (x9)) (h2 : x9 = ph_0 (x1)) (f5 : x6 ≠ 0) (h6 : x6 = drawnNode_0 (x5)) (h7 : x5 = pt_0 (x1)) (hK_0_33 : ∀ j : Int, 0 ≤ j → j < 80 → 0 ≤ pt_0 j ∧ pt_0 j ≤ 24) (hK_0_34 : ∀ j : Int, 0 ≤ j → j < 80 → 0 ≤ ph_0 j ∧ ph_0 j ≤ 24) (hK_0_42 : ∀ j : Int, 0 ≤ j → j < 26 → 0 ≤ drawnNode_0 j ∧ drawnNode_0 j ≤ 1) : SHN (pt_0) (ph_0) (drawnNode_0) (x1) (x2) (x12) := by
  first | subst h1 | skip
  first | subst h2 | skip
  first | subst h6 | skip
  first | subst h7 | skip
  unfold SHN shn
  constructor
  · intro h
    first
      | (exfalso; omega)
      | exact Or.inl ⟨by omega, Or.inl (by omega)⟩
      | exact Or.inl ⟨by omega, Or.inr (by omega)⟩
      | exact Or.inr ⟨by omega, Or.inl (by omega)⟩
      | exact Or.inr ⟨by omega, Or.inr (by omega)⟩
  · intro h
    first
      | omega
      | (rcases h with ⟨a, b | b⟩ | ⟨a, b | b⟩ <;> exfalso <;> omega)
def o_Mo_shareNew_0 : or_T := (115, 13, [(0, (2, 0, 0, [165])), (1, (0, 0, 79, [])), (2, (0, 0, 79, [])), (5, (0, 0, 24, [])), (6, (0, 1, 1, [])), (9, (0, 0, 24, [])), (10, (0, 1, 1, [])), (12, (0, 0, 0, []))], [(8, [10], [1]), (10, [10, 3, 9], []), (10, [9, 8, 1], []), (9, [8, 0], [34]), (9, [3, 0], [42]), (8, [6], [1]), (10, [6, 3, 5], []), (10, [5, 4, 1], []), (9, [4, 0], [33])], [], [], [(20, [0, 1, 2, 12], [60, 0, 3, 98, 33, 34, 42])], [], [])
theorem oo_Mo_shareNew_0 {kA : Nat → ClassId} : or_ok PRD kA GG o_Mo_shareNew_0 := by
  refine or_mk fun A ta ws vs hD hth hl => ?_
  intro t0 r0 t1 k1 t2 k2 t5 k5 t6 k6 t9 k9 t10 k10 t12 k12 f0 f1 f2 f3 f4 f5 f6 f7 f8
  replace f1 := shm_107 f1
  replace f2 := shm_107 f2
  replace f3 := shm_496 f3
  replace f4 := shm_531 f4
  replace f6 := shm_107 f6
  replace f7 := shm_107 f7
  replace f8 := shm_494 f8
  have cr_0_33 := fdq_117 hD hth r0
  have cr_0_34 := fdq_118 hD hth r0
  have cr_0_42 := fdq_136 hD hth r0
  have ad_8 : v_ad (n_v vs 8) = w_ar ws (n_v vs 0) 34 := congrArg v_ad f3
  have ad_3 : v_ad (n_v vs 3) = w_ar ws (n_v vs 0) 42 := congrArg v_ad f4
  have ad_4 : v_ad (n_v vs 4) = w_ar ws (n_v vs 0) 33 := congrArg v_ad f8
  simp only [ad_3] at f1
  have h1 : v_iv (n_v vs 10) = w_ei ws (w_ar ws (n_v vs 0) 42) (v_iv (n_v vs 9)) := f1
  simp only [ad_8] at f2
  have h2 : v_iv (n_v vs 9) = w_ei ws (w_ar ws (n_v vs 0) 34) (v_iv (n_v vs 1)) := f2
  simp only [ad_3] at f6
  have h6 : v_iv (n_v vs 6) = w_ei ws (w_ar ws (n_v vs 0) 42) (v_iv (n_v vs 5)) := f6
  simp only [ad_4] at f7
  have h7 : v_iv (n_v vs 5) = w_ei ws (w_ar ws (n_v vs 0) 33) (v_iv (n_v vs 1)) := f7
  have hK_0_33 := elq_60 hD hth cr_0_33
  have hK_0_34 := elq_61 hD hth cr_0_34
  have hK_0_42 := elq_75 hD hth cr_0_42
  have nf0 : fc_1 PRD (20, [0, 1, 2, 12], [60, 0, 3, 98, 33, 34, 42]) ws (vs) := ⟨nf_in hl rfl, sgq_729 (vc_Mo_shareNew_0_0 (v_iv (n_v vs 1)) (v_iv (n_v vs 2)) (v_iv (n_v vs 5)) (v_iv (n_v vs 6)) (v_iv (n_v vs 9)) (v_iv (n_v vs 10)) (v_iv (n_v vs 12)) (w_ei ws (w_ar ws (n_v vs 0) 42)) (w_ei ws (w_ar ws (n_v vs 0) 34)) (w_ei ws (w_ar ws (n_v vs 0) 33)) k1 k2 k5 k6 k9 k10 k12 (shm_142 f0) h1 h2 (shm_142 f5) h6 h7 hK_0_33 hK_0_34 hK_0_42)⟩
  refine ⟨(fun _ h => (by cases h)), [], trivial, ?_, (fun _ h => (by cases h))⟩
  rw [List.append_nil]
  exact List.forall_mem_cons.mpr ⟨⟨show (20 : Nat) < 100 from by decide, nf0⟩, (fun _ h => (by cases h))⟩
set_option maxHeartbeats 4000000 in
theorem vc_Mo_shareNew_1_0 (x1 : Int) (x2 : Int) (x5 : Int) (x6 : Int) (x9 : Int) (x10 : Int) (x11 : Int) (x12 : Int) (x14 : Int) (ph_0 : Int → Int) (pt_0 : Int → Int) (drawnNode_0 : Int → Int) (k1 : 0 ≤ x1 ∧ x1 ≤ 79) (k2 : 0 ≤ x2 ∧ x2 ≤ 79) (k5 : 0 ≤ x5 ∧ x5 ≤ 24) (k6 : 1 ≤ x6 ∧ x6 ≤ 1) (k9 : 0 ≤ x9 ∧ x9 ≤ 24) (k10 : 0 ≤ x10 ∧ x10 ≤ 0) (k11 : 0 ≤ x11 ∧ x11 ≤ 24) (k12 : 0 ≤ x12 ∧ x12 ≤ 24) (k14 : 1 ≤ x14 ∧ x14 ≤ 1) (d0 : x12 + 0 ≤ x11 ∧ x11 ≤ x12 + 0) (f0 : x11 = x12) (h1 : x12 = ph_0 (x1)) (h3 : x11 = pt_0 (x2)) (f5 : x10 = 0) (h6 : x10 = drawnNode_0 (x9)) (h7 : x9 = ph_0 (x1)) (f9 : x6 ≠ 0) (h10 : x6 = drawnNode_0 (x5)) (h11 : x5 = pt_0 (x1)) (hK_0_33 : ∀ j : Int, 0 ≤ j → j < 80 → 0 ≤ pt_0 j ∧ pt_0 j ≤ 24) (hK_0_34 : ∀ j : Int, 0 ≤ j → j < 80 → 0 ≤ ph_0 j ∧ ph_0 j ≤ 24) (hK_0_42 : ∀ j : Int, 0 ≤ j → j < 26 → 0 ≤ drawnNode_0 j ∧ drawnNode_0 j ≤ 1) : SHN (pt_0) (ph_0) (drawnNode_0) (x1) (x2) (x14) := by
  first | subst h1 | skip
  first | subst h3 | skip
  first | subst h6 | skip
  first | subst h7 | skip
  first | subst h10 | skip
  first | subst h11 | skip
  unfold SHN shn
  constructor
  · intro h
    first
      | (exfalso; omega)
      | exact Or.inl ⟨by omega, Or.inl (by omega)⟩
      | exact Or.inl ⟨by omega, Or.inr (by omega)⟩
      | exact Or.inr ⟨by omega, Or.inl (by omega)⟩
      | exact Or.inr ⟨by omega, Or.inr (by omega)⟩
  · intro h
    first
      | omega
      | (rcases h with ⟨a, b | b⟩ | ⟨a, b | b⟩ <;> exfalso <;> omega)
def o_Mo_shareNew_1 : or_T := (115, 15, [(0, (2, 0, 0, [165])), (1, (0, 0, 79, [])), (2, (0, 0, 79, [])), (3, (2, 0, 0, [188])), (4, (2, 0, 0, [180])), (5, (0, 0, 24, [])), (6, (0, 1, 1, [])), (8, (2, 0, 0, [181])), (9, (0, 0, 24, [])), (10, (0, 0, 0, [])), (11, (0, 0, 24, [])), (12, (0, 0, 24, [])), (14, (0, 1, 1, []))], [(7, [11, 12], [0]), (10, [12, 8, 1], []), (9, [8, 0], [34]), (10, [11, 4, 2], []), (9, [4, 0], [33]), (8, [10], [0]), (10, [10, 3, 9], []), (10, [9, 8, 1], []), (9, [3, 0], [42]), (8, [6], [1]), (10, [6, 3, 5], []), (10, [5, 4, 1], [])], [], [], [(20, [0, 1, 2, 14], [60, 0, 3, 98, 33, 34, 42])], [], [(11, 12, 0, 0)])
theorem oo_Mo_shareNew_1 {kA : Nat → ClassId} : or_ok PRD kA GG o_Mo_shareNew_1 := by
  refine or_mk fun A ta ws vs hD hth hl => ?_
  intro t0 r0 t1 k1 t2 k2 t3 r3 t4 r4 t5 k5 t6 k6 t8 r8 t9 k9 t10 k10 t11 k11 t12 k12 t14 k14 d0 f0 f1 f2 f3 f4 f5 f6 f7 f8 f9 f10 f11
  replace f1 := shm_107 f1
  replace f2 := shm_496 f2
  replace f3 := shm_107 f3
  replace f4 := shm_494 f4
  replace f6 := shm_107 f6
  replace f7 := shm_107 f7
  replace f8 := shm_531 f8
  replace f10 := shm_107 f10
  replace f11 := shm_107 f11
  have cr_0_33 := fdq_117 hD hth r0
  have cr_0_34 := fdq_118 hD hth r0
  have cr_0_42 := fdq_136 hD hth r0
  have ad_8 : v_ad (n_v vs 8) = w_ar ws (n_v vs 0) 34 := congrArg v_ad f2
  have ad_4 : v_ad (n_v vs 4) = w_ar ws (n_v vs 0) 33 := congrArg v_ad f4
  have ad_3 : v_ad (n_v vs 3) = w_ar ws (n_v vs 0) 42 := congrArg v_ad f8
  simp only [ad_8] at f1
  have h1 : v_iv (n_v vs 12) = w_ei ws (w_ar ws (n_v vs 0) 34) (v_iv (n_v vs 1)) := f1
  simp only [ad_4] at f3
  have h3 : v_iv (n_v vs 11) = w_ei ws (w_ar ws (n_v vs 0) 33) (v_iv (n_v vs 2)) := f3
  simp only [ad_3] at f6
  have h6 : v_iv (n_v vs 10) = w_ei ws (w_ar ws (n_v vs 0) 42) (v_iv (n_v vs 9)) := f6
  simp only [ad_8] at f7
  have h7 : v_iv (n_v vs 9) = w_ei ws (w_ar ws (n_v vs 0) 34) (v_iv (n_v vs 1)) := f7
  simp only [ad_3] at f10
  have h10 : v_iv (n_v vs 6) = w_ei ws (w_ar ws (n_v vs 0) 42) (v_iv (n_v vs 5)) := f10
  simp only [ad_4] at f11
  have h11 : v_iv (n_v vs 5) = w_ei ws (w_ar ws (n_v vs 0) 33) (v_iv (n_v vs 1)) := f11
  have hK_0_33 := elq_60 hD hth cr_0_33
  have hK_0_34 := elq_61 hD hth cr_0_34
  have hK_0_42 := elq_75 hD hth cr_0_42
  have nf0 : fc_1 PRD (20, [0, 1, 2, 14], [60, 0, 3, 98, 33, 34, 42]) ws (vs) := ⟨nf_in hl rfl, sgq_729 (vc_Mo_shareNew_1_0 (v_iv (n_v vs 1)) (v_iv (n_v vs 2)) (v_iv (n_v vs 5)) (v_iv (n_v vs 6)) (v_iv (n_v vs 9)) (v_iv (n_v vs 10)) (v_iv (n_v vs 11)) (v_iv (n_v vs 12)) (v_iv (n_v vs 14)) (w_ei ws (w_ar ws (n_v vs 0) 34)) (w_ei ws (w_ar ws (n_v vs 0) 33)) (w_ei ws (w_ar ws (n_v vs 0) 42)) k1 k2 k5 k6 k9 k10 k11 k12 k14 d0 (shm_37 f0) h1 h3 (shm_192 f5) h6 h7 (shm_142 f9) h10 h11 hK_0_33 hK_0_34 hK_0_42)⟩
  refine ⟨(fun _ h => (by cases h)), [], trivial, ?_, (fun _ h => (by cases h))⟩
  rw [List.append_nil]
  exact List.forall_mem_cons.mpr ⟨⟨show (20 : Nat) < 100 from by decide, nf0⟩, (fun _ h => (by cases h))⟩
set_option maxHeartbeats 4000000 in
theorem vc_Mo_shareNew_2_0 (x1 : Int) (x2 : Int) (x5 : Int) (x6 : Int) (x9 : Int) (x10 : Int) (x11 : Int) (x12 : Int) (x13 : Int) (x14 : Int) (x16 : Int) (ph_0 : Int → Int) (pt_0 : Int → Int) (drawnNode_0 : Int → Int) (k1 : 0 ≤ x1 ∧ x1 ≤ 79) (k2 : 0 ≤ x2 ∧ x2 ≤ 79) (k5 : 0 ≤ x5 ∧ x5 ≤ 24) (k6 : 1 ≤ x6 ∧ x6 ≤ 1) (k9 : 0 ≤ x9 ∧ x9 ≤ 24) (k10 : 0 ≤ x10 ∧ x10 ≤ 0) (k11 : 0 ≤ x11 ∧ x11 ≤ 24) (k12 : 0 ≤ x12 ∧ x12 ≤ 24) (k13 : 0 ≤ x13 ∧ x13 ≤ 24) (k14 : 0 ≤ x14 ∧ x14 ≤ 24) (k16 : 0 ≤ x16 ∧ x16 ≤ 0) (f0 : x13 ≠ x14) (h1 : x14 = ph_0 (x1)) (h3 : x13 = ph_0 (x2)) (f4 : x11 ≠ x12) (h5 : x12 = ph_0 (x1)) (h6 : x11 = pt_0 (x2)) (f8 : x10 = 0) (h9 : x10 = drawnNode_0 (x9)) (h10 : x9 = ph_0 (x1)) (f12 : x6 ≠ 0) (h13 : x6 = drawnNode_0 (x5)) (h14 : x5 = pt_0 (x1)) (hK_0_33 : ∀ j : Int, 0 ≤ j → j < 80 → 0 ≤ pt_0 j ∧ pt_0 j ≤ 24) (hK_0_34 : ∀ j : Int, 0 ≤ j → j < 80 → 0 ≤ ph_0 j ∧ ph_0 j ≤ 24) (hK_0_42 : ∀ j : Int, 0 ≤ j → j < 26 → 0 ≤ drawnNode_0 j ∧ drawnNode_0 j ≤ 1) : SHN (pt_0) (ph_0) (drawnNode_0) (x1) (x2) (x16) := by
  first | subst h1 | skip
  first | subst h3 | skip
  first | subst h5 | skip
  first | subst h6 | skip
  first | subst h9 | skip
  first | subst h10 | skip
  first | subst h13 | skip
  first | subst h14 | skip
  unfold SHN shn
  constructor
  · intro h
    first
      | (exfalso; omega)
      | exact Or.inl ⟨by omega, Or.inl (by omega)⟩
      | exact Or.inl ⟨by omega, Or.inr (by omega)⟩
      | exact Or.inr ⟨by omega, Or.inl (by omega)⟩
      | exact Or.inr ⟨by omega, Or.inr (by omega)⟩
  · intro h
    first
      | omega
      | (rcases h with ⟨a, b | b⟩ | ⟨a, b | b⟩ <;> exfalso <;> omega)
def o_Mo_shareNew_2 : or_T := (115, 17, [(0, (2, 0, 0, [165])), (1, (0, 0, 79, [])), (2, (0, 0, 79, [])), (3, (2, 0, 0, [188])), (4, (2, 0, 0, [180])), (5, (0, 0, 24, [])), (6, (0, 1, 1, [])), (8, (2, 0, 0, [181])), (9, (0, 0, 24, [])), (10, (0, 0, 0, [])), (11, (0, 0, 24, [])), (12, (0, 0, 24, [])), (13, (0, 0, 24, [])), (14, (0, 0, 24, [])), (16, (0, 0, 0, []))], [(7, [13, 14], [1]), (10, [14, 8, 1], []), (9, [8, 0], [34]), (10, [13, 8, 2], []), (7, [11, 12], [1]), (10, [12, 8, 1], []), (10, [11, 4, 2], []), (9, [4, 0], [33]), (8, [10], [0]), (10, [10, 3, 9], []), (10, [9, 8, 1], []), (9, [3, 0], [42]), (8, [6], [1]), (10, [6, 3, 5], []), (10, [5, 4, 1], [])], [], [], [(20, [0, 1, 2, 16], [60, 0, 3, 98, 33, 34, 42])], [], [])
theorem oo_Mo_shareNew_2 {kA : Nat → ClassId} : or_ok PRD kA GG o_Mo_shareNew_2 := by
  refine or_mk fun A ta ws vs hD hth hl => ?_
  intro t0 r0 t1 k1 t2 k2 t3 r3 t4 r4 t5 k5 t6 k6 t8 r8 t9 k9 t10 k10 t11 k11 t12 k12 t13 k13 t14 k14 t16 k16 f0 f1 f2 f3 f4 f5 f6 f7 f8 f9 f10 f11 f12 f13 f14
  replace f1 := shm_107 f1
  replace f2 := shm_496 f2
  replace f3 := shm_107 f3
  replace f5 := shm_107 f5
  replace f6 := shm_107 f6
  replace f7 := shm_494 f7
  replace f9 := shm_107 f9
  replace f10 := shm_107 f10
  replace f11 := shm_531 f11
  replace f13 := shm_107 f13
  replace f14 := shm_107 f14
  have cr_0_33 := fdq_117 hD hth r0
  have cr_0_34 := fdq_118 hD hth r0
  have cr_0_42 := fdq_136 hD hth r0
  have ad_8 : v_ad (n_v vs 8) = w_ar ws (n_v vs 0) 34 := congrArg v_ad f2
  have ad_4 : v_ad (n_v vs 4) = w_ar ws (n_v vs 0) 33 := congrArg v_ad f7
  have ad_3 : v_ad (n_v vs 3) = w_ar ws (n_v vs 0) 42 := congrArg v_ad f11
  simp only [ad_8] at f1
  have h1 : v_iv (n_v vs 14) = w_ei ws (w_ar ws (n_v vs 0) 34) (v_iv (n_v vs 1)) := f1
  simp only [ad_8] at f3
  have h3 : v_iv (n_v vs 13) = w_ei ws (w_ar ws (n_v vs 0) 34) (v_iv (n_v vs 2)) := f3
  simp only [ad_8] at f5
  have h5 : v_iv (n_v vs 12) = w_ei ws (w_ar ws (n_v vs 0) 34) (v_iv (n_v vs 1)) := f5
  simp only [ad_4] at f6
  have h6 : v_iv (n_v vs 11) = w_ei ws (w_ar ws (n_v vs 0) 33) (v_iv (n_v vs 2)) := f6
  simp only [ad_3] at f9
  have h9 : v_iv (n_v vs 10) = w_ei ws (w_ar ws (n_v vs 0) 42) (v_iv (n_v vs 9)) := f9
  simp only [ad_8] at f10
  have h10 : v_iv (n_v vs 9) = w_ei ws (w_ar ws (n_v vs 0) 34) (v_iv (n_v vs 1)) := f10
  simp only [ad_3] at f13
  have h13 : v_iv (n_v vs 6) = w_ei ws (w_ar ws (n_v vs 0) 42) (v_iv (n_v vs 5)) := f13
  simp only [ad_4] at f14
  have h14 : v_iv (n_v vs 5) = w_ei ws (w_ar ws (n_v vs 0) 33) (v_iv (n_v vs 1)) := f14
  have hK_0_33 := elq_60 hD hth cr_0_33
  have hK_0_34 := elq_61 hD hth cr_0_34
  have hK_0_42 := elq_75 hD hth cr_0_42
  have nf0 : fc_1 PRD (20, [0, 1, 2, 16], [60, 0, 3, 98, 33, 34, 42]) ws (vs) := ⟨nf_in hl rfl, sgq_729 (vc_Mo_shareNew_2_0 (v_iv (n_v vs 1)) (v_iv (n_v vs 2)) (v_iv (n_v vs 5)) (v_iv (n_v vs 6)) (v_iv (n_v vs 9)) (v_iv (n_v vs 10)) (v_iv (n_v vs 11)) (v_iv (n_v vs 12)) (v_iv (n_v vs 13)) (v_iv (n_v vs 14)) (v_iv (n_v vs 16)) (w_ei ws (w_ar ws (n_v vs 0) 34)) (w_ei ws (w_ar ws (n_v vs 0) 33)) (w_ei ws (w_ar ws (n_v vs 0) 42)) k1 k2 k5 k6 k9 k10 k11 k12 k13 k14 k16 (shm_40 f0) h1 h3 (shm_40 f4) h5 h6 (shm_192 f8) h9 h10 (shm_142 f12) h13 h14 hK_0_33 hK_0_34 hK_0_42)⟩
  refine ⟨(fun _ h => (by cases h)), [], trivial, ?_, (fun _ h => (by cases h))⟩
  rw [List.append_nil]
  exact List.forall_mem_cons.mpr ⟨⟨show (20 : Nat) < 100 from by decide, nf0⟩, (fun _ h => (by cases h))⟩
set_option maxHeartbeats 4000000 in
theorem vc_Mo_shareNew_3_0 (x1 : Int) (x2 : Int) (x5 : Int) (x6 : Int) (x9 : Int) (x10 : Int) (x11 : Int) (x12 : Int) (x13 : Int) (x14 : Int) (x16 : Int) (ph_0 : Int → Int) (pt_0 : Int → Int) (drawnNode_0 : Int → Int) (k1 : 0 ≤ x1 ∧ x1 ≤ 79) (k2 : 0 ≤ x2 ∧ x2 ≤ 79) (k5 : 0 ≤ x5 ∧ x5 ≤ 24) (k6 : 1 ≤ x6 ∧ x6 ≤ 1) (k9 : 0 ≤ x9 ∧ x9 ≤ 24) (k10 : 0 ≤ x10 ∧ x10 ≤ 0) (k11 : 0 ≤ x11 ∧ x11 ≤ 24) (k12 : 0 ≤ x12 ∧ x12 ≤ 24) (k13 : 0 ≤ x13 ∧ x13 ≤ 24) (k14 : 0 ≤ x14 ∧ x14 ≤ 24) (k16 : 1 ≤ x16 ∧ x16 ≤ 1) (d0 : x14 + 0 ≤ x13 ∧ x13 ≤ x14 + 0) (f0 : x13 = x14) (h1 : x14 = ph_0 (x1)) (h3 : x13 = ph_0 (x2)) (f4 : x11 ≠ x12) (h5 : x12 = ph_0 (x1)) (h6 : x11 = pt_0 (x2)) (f8 : x10 = 0) (h9 : x10 = drawnNode_0 (x9)) (h10 : x9 = ph_0 (x1)) (f12 : x6 ≠ 0) (h13 : x6 = drawnNode_0 (x5)) (h14 : x5 = pt_0 (x1)) (hK_0_33 : ∀ j : Int, 0 ≤ j → j < 80 → 0 ≤ pt_0 j ∧ pt_0 j ≤ 24) (hK_0_34 : ∀ j : Int, 0 ≤ j → j < 80 → 0 ≤ ph_0 j ∧ ph_0 j ≤ 24) (hK_0_42 : ∀ j : Int, 0 ≤ j → j < 26 → 0 ≤ drawnNode_0 j ∧ drawnNode_0 j ≤ 1) : SHN (pt_0) (ph_0) (drawnNode_0) (x1) (x2) (x16) := by
  first | subst h1 | skip
  first | subst h3 | skip
  first | subst h5 | skip
  first | subst h6 | skip
  first | subst h9 | skip
  first | subst h10 | skip
  first | subst h13 | skip
  first | subst h14 | skip
  unfold SHN shn
  constructor
  · intro h
    first
      | (exfalso; omega)
      | exact Or.inl ⟨by omega, Or.inl (by omega)⟩
      | exact Or.inl ⟨by omega, Or.inr (by omega)⟩
      | exact Or.inr ⟨by omega, Or.inl (by omega)⟩
      | exact Or.inr ⟨by omega, Or.inr (by omega)⟩
  · intro h
    first
      | omega
      | (rcases h with ⟨a, b | b⟩ | ⟨a, b | b⟩ <;> exfalso <;> omega)
def o_Mo_shareNew_3 : or_T := (115, 17, [(0, (2, 0, 0, [165])), (1, (0, 0, 79, [])), (2, (0, 0, 79, [])), (3, (2, 0, 0, [188])), (4, (2, 0, 0, [180])), (5, (0, 0, 24, [])), (6, (0, 1, 1, [])), (8, (2, 0, 0, [181])), (9, (0, 0, 24, [])), (10, (0, 0, 0, [])), (11, (0, 0, 24, [])), (12, (0, 0, 24, [])), (13, (0, 0, 24, [])), (14, (0, 0, 24, [])), (16, (0, 1, 1, []))], [(7, [13, 14], [0]), (10, [14, 8, 1], []), (9, [8, 0], [34]), (10, [13, 8, 2], []), (7, [11, 12], [1]), (10, [12, 8, 1], []), (10, [11, 4, 2], []), (9, [4, 0], [33]), (8, [10], [0]), (10, [10, 3, 9], []), (10, [9, 8, 1], []), (9, [3, 0], [42]), (8, [6], [1]), (10, [6, 3, 5], []), (10, [5, 4, 1], [])], [], [], [(20, [0, 1, 2, 16], [60, 0, 3, 98, 33, 34, 42])], [], [(13, 14, 0, 0)])
theorem oo_Mo_shareNew_3 {kA : Nat → ClassId} : or_ok PRD kA GG o_Mo_shareNew_3 := by
  refine or_mk fun A ta ws vs hD hth hl => ?_
  intro t0 r0 t1 k1 t2 k2 t3 r3 t4 r4 t5 k5 t6 k6 t8 r8 t9 k9 t10 k10 t11 k11 t12 k12 t13 k13 t14 k14 t16 k16 d0 f0 f1 f2 f3 f4 f5 f6 f7 f8 f9 f10 f11 f12 f13 f14
  replace f1 := shm_107 f1
  replace f2 := shm_496 f2
  replace f3 := shm_107 f3
  replace f5 := shm_107 f5
  replace f6 := shm_107 f6
  replace f7 := shm_494 f7
  replace f9 := shm_107 f9
  replace f10 := shm_107 f10
  replace f11 := shm_531 f11
  replace f13 := shm_107 f13
  replace f14 := shm_107 f14
  have cr_0_33 := fdq_117 hD hth r0
  have cr_0_34 := fdq_118 hD hth r0
  have cr_0_42 := fdq_136 hD hth r0
  have ad_8 : v_ad (n_v vs 8) = w_ar ws (n_v vs 0) 34 := congrArg v_ad f2
  have ad_4 : v_ad (n_v vs 4) = w_ar ws (n_v vs 0) 33 := congrArg v_ad f7
  have ad_3 : v_ad (n_v vs 3) = w_ar ws (n_v vs 0) 42 := congrArg v_ad f11
  simp only [ad_8] at f1
  have h1 : v_iv (n_v vs 14) = w_ei ws (w_ar ws (n_v vs 0) 34) (v_iv (n_v vs 1)) := f1
  simp only [ad_8] at f3
  have h3 : v_iv (n_v vs 13) = w_ei ws (w_ar ws (n_v vs 0) 34) (v_iv (n_v vs 2)) := f3
  simp only [ad_8] at f5
  have h5 : v_iv (n_v vs 12) = w_ei ws (w_ar ws (n_v vs 0) 34) (v_iv (n_v vs 1)) := f5
  simp only [ad_4] at f6
  have h6 : v_iv (n_v vs 11) = w_ei ws (w_ar ws (n_v vs 0) 33) (v_iv (n_v vs 2)) := f6
  simp only [ad_3] at f9
  have h9 : v_iv (n_v vs 10) = w_ei ws (w_ar ws (n_v vs 0) 42) (v_iv (n_v vs 9)) := f9
  simp only [ad_8] at f10
  have h10 : v_iv (n_v vs 9) = w_ei ws (w_ar ws (n_v vs 0) 34) (v_iv (n_v vs 1)) := f10
  simp only [ad_3] at f13
  have h13 : v_iv (n_v vs 6) = w_ei ws (w_ar ws (n_v vs 0) 42) (v_iv (n_v vs 5)) := f13
  simp only [ad_4] at f14
  have h14 : v_iv (n_v vs 5) = w_ei ws (w_ar ws (n_v vs 0) 33) (v_iv (n_v vs 1)) := f14
  have hK_0_33 := elq_60 hD hth cr_0_33
  have hK_0_34 := elq_61 hD hth cr_0_34
  have hK_0_42 := elq_75 hD hth cr_0_42
  have nf0 : fc_1 PRD (20, [0, 1, 2, 16], [60, 0, 3, 98, 33, 34, 42]) ws (vs) := ⟨nf_in hl rfl, sgq_729 (vc_Mo_shareNew_3_0 (v_iv (n_v vs 1)) (v_iv (n_v vs 2)) (v_iv (n_v vs 5)) (v_iv (n_v vs 6)) (v_iv (n_v vs 9)) (v_iv (n_v vs 10)) (v_iv (n_v vs 11)) (v_iv (n_v vs 12)) (v_iv (n_v vs 13)) (v_iv (n_v vs 14)) (v_iv (n_v vs 16)) (w_ei ws (w_ar ws (n_v vs 0) 34)) (w_ei ws (w_ar ws (n_v vs 0) 33)) (w_ei ws (w_ar ws (n_v vs 0) 42)) k1 k2 k5 k6 k9 k10 k11 k12 k13 k14 k16 d0 (shm_37 f0) h1 h3 (shm_40 f4) h5 h6 (shm_192 f8) h9 h10 (shm_142 f12) h13 h14 hK_0_33 hK_0_34 hK_0_42)⟩
  refine ⟨(fun _ h => (by cases h)), [], trivial, ?_, (fun _ h => (by cases h))⟩
  rw [List.append_nil]
  exact List.forall_mem_cons.mpr ⟨⟨show (20 : Nat) < 100 from by decide, nf0⟩, (fun _ h => (by cases h))⟩
set_option maxHeartbeats 4000000 in
theorem vc_Mo_shareNew_4_0 (x1 : Int) (x2 : Int) (x5 : Int) (x6 : Int) (x7 : Int) (x8 : Int) (x11 : Int) (x12 : Int) (x14 : Int) (drawnNode_0 : Int → Int) (ph_0 : Int → Int) (pt_0 : Int → Int) (k1 : 0 ≤ x1 ∧ x1 ≤ 79) (k2 : 0 ≤ x2 ∧ x2 ≤ 79) (k5 : 0 ≤ x5 ∧ x5 ≤ 24) (k6 : 0 ≤ x6 ∧ x6 ≤ 0) (k7 : 0 ≤ x7 ∧ x7 ≤ 24) (k8 : 0 ≤ x8 ∧ x8 ≤ 24) (k11 : 0 ≤ x11 ∧ x11 ≤ 24) (k12 : 1 ≤ x12 ∧ x12 ≤ 1) (k14 : 1 ≤ x14 ∧ x14 ≤ 1) (d0 : x8 + 0 ≤ x7 ∧ x7 ≤ x8 + 0) (f0 : x12 ≠ 0) (h1 : x12 = drawnNode_0 (x11)) (h2 : x11 = ph_0 (x1)) (f5 : x7 = x8) (h6 : x8 = pt_0 (x1)) (h8 : x7 = pt_0 (x2)) (f9 : x6 = 0) (h10 : x6 = drawnNode_0 (x5)) (h11 : x5 = pt_0 (x1)) (hK_0_33 : ∀ j : Int, 0 ≤ j → j < 80 → 0 ≤ pt_0 j ∧ pt_0 j ≤ 24) (hK_0_34 : ∀ j : Int, 0 ≤ j → j < 80 → 0 ≤ ph_0 j ∧ ph_0 j ≤ 24) (hK_0_42 : ∀ j : Int, 0 ≤ j → j < 26 → 0 ≤ drawnNode_0 j ∧ drawnNode_0 j ≤ 1) : SHN (pt_0) (ph_0) (drawnNode_0) (x1) (x2) (x14) := by
  first | subst h1 | skip
  first | subst h2 | skip
  first | subst h6 | skip
  first | subst h8 | skip
  first | subst h10 | skip
  first | subst h11 | skip
  unfold SHN shn
  constructor
  · intro h
    first
      | (exfalso; omega)
      | exact Or.inl ⟨by omega, Or.inl (by omega)⟩
      | exact Or.inl ⟨by omega, Or.inr (by omega)⟩
      | exact Or.inr ⟨by omega, Or.inl (by omega)⟩
      | exact Or.inr ⟨by omega, Or.inr (by omega)⟩
  · intro h
    first
      | omega
      | (rcases h with ⟨a, b | b⟩ | ⟨a, b | b⟩ <;> exfalso <;> omega)
def o_Mo_shareNew_4 : or_T := (115, 15, [(0, (2, 0, 0, [165])), (1, (0, 0, 79, [])), (2, (0, 0, 79, [])), (3, (2, 0, 0, [188])), (4, (2, 0, 0, [180])), (5, (0, 0, 24, [])), (6, (0, 0, 0, [])), (7, (0, 0, 24, [])), (8, (0, 0, 24, [])), (10, (2, 0, 0, [181])), (11, (0, 0, 24, [])), (12, (0, 1, 1, [])), (14, (0, 1, 1, []))], [(8, [12], [1]), (10, [12, 3, 11], []), (10, [11, 10, 1], []), (9, [10, 0], [34]), (9, [3, 0], [42]), (7, [7, 8], [0]), (10, [8, 4, 1], []), (9, [4, 0], [33]), (10, [7, 4, 2], []), (8, [6], [0]), (10, [6, 3, 5], []), (10, [5, 4, 1], [])], [], [], [(20, [0, 1, 2, 14], [60, 0, 3, 98, 33, 34, 42])], [], [(7, 8, 0, 0)])
theorem oo_Mo_shareNew_4 {kA : Nat → ClassId} : or_ok PRD kA GG o_Mo_shareNew_4 := by
  refine or_mk fun A ta ws vs hD hth hl => ?_
  intro t0 r0 t1 k1 t2 k2 t3 r3 t4 r4 t5 k5 t6 k6 t7 k7 t8 k8 t10 r10 t11 k11 t12 k12 t14 k14 d0 f0 f1 f2 f3 f4 f5 f6 f7 f8 f9 f10 f11
  replace f1 := shm_107 f1
  replace f2 := shm_107 f2
  replace f3 := shm_496 f3
  replace f4 := shm_531 f4
  replace f6 := shm_107 f6
  replace f7 := shm_494 f7
  replace f8 := shm_107 f8
  replace f10 := shm_107 f10
  replace f11 := shm_107 f11
  have cr_0_33 := fdq_117 hD hth r0
  have cr_0_34 := fdq_118 hD hth r0
  have cr_0_42 := fdq_136 hD hth r0
  have ad_10 : v_ad (n_v vs 10) = w_ar ws (n_v vs 0) 34 := congrArg v_ad f3
  have ad_3 : v_ad (n_v vs 3) = w_ar ws (n_v vs 0) 42 := congrArg v_ad f4
  have ad_4 : v_ad (n_v vs 4) = w_ar ws (n_v vs 0) 33 := congrArg v_ad f7
  simp only [ad_3] at f1
  have h1 : v_iv (n_v vs 12) = w_ei ws (w_ar ws (n_v vs 0) 42) (v_iv (n_v vs 11)) := f1
  simp only [ad_10] at f2
  have h2 : v_iv (n_v vs 11) = w_ei ws (w_ar ws (n_v vs 0) 34) (v_iv (n_v vs 1)) := f2
  simp only [ad_4] at f6
  have h6 : v_iv (n_v vs 8) = w_ei ws (w_ar ws (n_v vs 0) 33) (v_iv (n_v vs 1)) := f6
  simp only [ad_4] at f8
  have h8 : v_iv (n_v vs 7) = w_ei ws (w_ar ws (n_v vs 0) 33) (v_iv (n_v vs 2)) := f8
  simp only [ad_3] at f10
  have h10 : v_iv (n_v vs 6) = w_ei ws (w_ar ws (n_v vs 0) 42) (v_iv (n_v vs 5)) := f10
  simp only [ad_4] at f11
  have h11 : v_iv (n_v vs 5) = w_ei ws (w_ar ws (n_v vs 0) 33) (v_iv (n_v vs 1)) := f11
  have hK_0_33 := elq_60 hD hth cr_0_33
  have hK_0_34 := elq_61 hD hth cr_0_34
  have hK_0_42 := elq_75 hD hth cr_0_42
  have nf0 : fc_1 PRD (20, [0, 1, 2, 14], [60, 0, 3, 98, 33, 34, 42]) ws (vs) := ⟨nf_in hl rfl, sgq_729 (vc_Mo_shareNew_4_0 (v_iv (n_v vs 1)) (v_iv (n_v vs 2)) (v_iv (n_v vs 5)) (v_iv (n_v vs 6)) (v_iv (n_v vs 7)) (v_iv (n_v vs 8)) (v_iv (n_v vs 11)) (v_iv (n_v vs 12)) (v_iv (n_v vs 14)) (w_ei ws (w_ar ws (n_v vs 0) 42)) (w_ei ws (w_ar ws (n_v vs 0) 34)) (w_ei ws (w_ar ws (n_v vs 0) 33)) k1 k2 k5 k6 k7 k8 k11 k12 k14 d0 (shm_142 f0) h1 h2 (shm_37 f5) h6 h8 (shm_192 f9) h10 h11 hK_0_33 hK_0_34 hK_0_42)⟩
  refine ⟨(fun _ h => (by cases h)), [], trivial, ?_, (fun _ h => (by cases h))⟩
  rw [List.append_nil]
  exact List.forall_mem_cons.mpr ⟨⟨show (20 : Nat) < 100 from by decide, nf0⟩, (fun _ h => (by cases h))⟩
set_option maxHeartbeats 4000000 in
theorem vc_Mo_shareNew_5_0 (x1 : Int) (x2 : Int) (x5 : Int) (x6 : Int) (x7 : Int) (x8 : Int) (x11 : Int) (x12 : Int) (x13 : Int) (x14 : Int) (x16 : Int) (ph_0 : Int → Int) (pt_0 : Int → Int) (drawnNode_0 : Int → Int) (k1 : 0 ≤ x1 ∧ x1 ≤ 79) (k2 : 0 ≤ x2 ∧ x2 ≤ 79) (k5 : 0 ≤ x5 ∧ x5 ≤ 24) (k6 : 0 ≤ x6 ∧ x6 ≤ 0) (k7 : 0 ≤ x7 ∧ x7 ≤ 24) (k8 : 0 ≤ x8 ∧ x8 ≤ 24) (k11 : 0 ≤ x11 ∧ x11 ≤ 24) (k12 : 0 ≤ x12 ∧ x12 ≤ 0) (k13 : 0 ≤ x13 ∧ x13 ≤ 24) (k14 : 0 ≤ x14 ∧ x14 ≤ 24) (k16 : 1 ≤ x16 ∧ x16 ≤ 1) (d0 : x14 + 0 ≤ x13 ∧ x13 ≤ x14 + 0) (d1 : x8 + 0 ≤ x7 ∧ x7 ≤ x8 + 0) (f0 : x13 = x14) (h1 : x14 = ph_0 (x1)) (h3 : x13 = pt_0 (x2)) (f5 : x12 = 0) (h6 : x12 = drawnNode_0 (x11)) (h7 : x11 = ph_0 (x1)) (f9 : x7 = x8) (h10 : x8 = pt_0 (x1)) (h11 : x7 = pt_0 (x2)) (f12 : x6 = 0) (h13 : x6 = drawnNode_0 (x5)) (h14 : x5 = pt_0 (x1)) (hK_0_33 : ∀ j : Int, 0 ≤ j → j < 80 → 0 ≤ pt_0 j ∧ pt_0 j ≤ 24) (hK_0_34 : ∀ j : Int, 0 ≤ j → j < 80 → 0 ≤ ph_0 j ∧ ph_0 j ≤ 24) (hK_0_42 : ∀ j : Int, 0 ≤ j → j < 26 → 0 ≤ drawnNode_0 j ∧ drawnNode_0 j ≤ 1) : SHN (pt_0) (ph_0) (drawnNode_0) (x1) (x2) (x16) := by
  first | subst h1 | skip
  first | subst h3 | skip
  first | subst h6 | skip
  first | subst h7 | skip
  first | subst h10 | skip
  first | subst h11 | skip
  first | subst h13 | skip
  first | subst h14 | skip
  unfold SHN shn
  constructor
  · intro h
    first
      | (exfalso; omega)
      | exact Or.inl ⟨by omega, Or.inl (by omega)⟩
      | exact Or.inl ⟨by omega, Or.inr (by omega)⟩
      | exact Or.inr ⟨by omega, Or.inl (by omega)⟩
      | exact Or.inr ⟨by omega, Or.inr (by omega)⟩
  · intro h
    first
      | omega
      | (rcases h with ⟨a, b | b⟩ | ⟨a, b | b⟩ <;> exfalso <;> omega)
def o_Mo_shareNew_5 : or_T := (115, 17, [(0, (2, 0, 0, [165])), (1, (0, 0, 79, [])), (2, (0, 0, 79, [])), (3, (2, 0, 0, [188])), (4, (2, 0, 0, [180])), (5, (0, 0, 24, [])), (6, (0, 0, 0, [])), (7, (0, 0, 24, [])), (8, (0, 0, 24, [])), (10, (2, 0, 0, [181])), (11, (0, 0, 24, [])), (12, (0, 0, 0, [])), (13, (0, 0, 24, [])), (14, (0, 0, 24, [])), (16, (0, 1, 1, []))], [(7, [13, 14], [0]), (10, [14, 10, 1], []), (9, [10, 0], [34]), (10, [13, 4, 2], []), (9, [4, 0], [33]), (8, [12], [0]), (10, [12, 3, 11], []), (10, [11, 10, 1], []), (9, [3, 0], [42]), (7, [7, 8], [0]), (10, [8, 4, 1], []), (10, [7, 4, 2], []), (8, [6], [0]), (10, [6, 3, 5], []), (10, [5, 4, 1], [])], [], [], [(20, [0, 1, 2, 16], [60, 0, 3, 98, 33, 34, 42])], [], [(13, 14, 0, 0), (7, 8, 0, 0)])
theorem oo_Mo_shareNew_5 {kA : Nat → ClassId} : or_ok PRD kA GG o_Mo_shareNew_5 := by
  refine or_mk fun A ta ws vs hD hth hl => ?_
  intro t0 r0 t1 k1 t2 k2 t3 r3 t4 r4 t5 k5 t6 k6 t7 k7 t8 k8 t10 r10 t11 k11 t12 k12 t13 k13 t14 k14 t16 k16 d0 d1 f0 f1 f2 f3 f4 f5 f6 f7 f8 f9 f10 f11 f12 f13 f14
  replace f1 := shm_107 f1
  replace f2 := shm_496 f2
  replace f3 := shm_107 f3
  replace f4 := shm_494 f4
  replace f6 := shm_107 f6
  replace f7 := shm_107 f7
  replace f8 := shm_531 f8
  replace f10 := shm_107 f10
  replace f11 := shm_107 f11
  replace f13 := shm_107 f13
  replace f14 := shm_107 f14
  have cr_0_33 := fdq_117 hD hth r0
  have cr_0_34 := fdq_118 hD hth r0
  have cr_0_42 := fdq_136 hD hth r0
  have ad_10 : v_ad (n_v vs 10) = w_ar ws (n_v vs 0) 34 := congrArg v_ad f2
  have ad_4 : v_ad (n_v vs 4) = w_ar ws (n_v vs 0) 33 := congrArg v_ad f4
  have ad_3 : v_ad (n_v vs 3) = w_ar ws (n_v vs 0) 42 := congrArg v_ad f8
  simp only [ad_10] at f1
  have h1 : v_iv (n_v vs 14) = w_ei ws (w_ar ws (n_v vs 0) 34) (v_iv (n_v vs 1)) := f1
  simp only [ad_4] at f3
  have h3 : v_iv (n_v vs 13) = w_ei ws (w_ar ws (n_v vs 0) 33) (v_iv (n_v vs 2)) := f3
  simp only [ad_3] at f6
  have h6 : v_iv (n_v vs 12) = w_ei ws (w_ar ws (n_v vs 0) 42) (v_iv (n_v vs 11)) := f6
  simp only [ad_10] at f7
  have h7 : v_iv (n_v vs 11) = w_ei ws (w_ar ws (n_v vs 0) 34) (v_iv (n_v vs 1)) := f7
  simp only [ad_4] at f10
  have h10 : v_iv (n_v vs 8) = w_ei ws (w_ar ws (n_v vs 0) 33) (v_iv (n_v vs 1)) := f10
  simp only [ad_4] at f11
  have h11 : v_iv (n_v vs 7) = w_ei ws (w_ar ws (n_v vs 0) 33) (v_iv (n_v vs 2)) := f11
  simp only [ad_3] at f13
  have h13 : v_iv (n_v vs 6) = w_ei ws (w_ar ws (n_v vs 0) 42) (v_iv (n_v vs 5)) := f13
  simp only [ad_4] at f14
  have h14 : v_iv (n_v vs 5) = w_ei ws (w_ar ws (n_v vs 0) 33) (v_iv (n_v vs 1)) := f14
  have hK_0_33 := elq_60 hD hth cr_0_33
  have hK_0_34 := elq_61 hD hth cr_0_34
  have hK_0_42 := elq_75 hD hth cr_0_42
  have nf0 : fc_1 PRD (20, [0, 1, 2, 16], [60, 0, 3, 98, 33, 34, 42]) ws (vs) := ⟨nf_in hl rfl, sgq_729 (vc_Mo_shareNew_5_0 (v_iv (n_v vs 1)) (v_iv (n_v vs 2)) (v_iv (n_v vs 5)) (v_iv (n_v vs 6)) (v_iv (n_v vs 7)) (v_iv (n_v vs 8)) (v_iv (n_v vs 11)) (v_iv (n_v vs 12)) (v_iv (n_v vs 13)) (v_iv (n_v vs 14)) (v_iv (n_v vs 16)) (w_ei ws (w_ar ws (n_v vs 0) 34)) (w_ei ws (w_ar ws (n_v vs 0) 33)) (w_ei ws (w_ar ws (n_v vs 0) 42)) k1 k2 k5 k6 k7 k8 k11 k12 k13 k14 k16 d0 d1 (shm_37 f0) h1 h3 (shm_192 f5) h6 h7 (shm_37 f9) h10 h11 (shm_192 f12) h13 h14 hK_0_33 hK_0_34 hK_0_42)⟩
  refine ⟨(fun _ h => (by cases h)), [], trivial, ?_, (fun _ h => (by cases h))⟩
  rw [List.append_nil]
  exact List.forall_mem_cons.mpr ⟨⟨show (20 : Nat) < 100 from by decide, nf0⟩, (fun _ h => (by cases h))⟩
set_option maxHeartbeats 4000000 in
theorem vc_Mo_shareNew_6_0 (x1 : Int) (x2 : Int) (x5 : Int) (x6 : Int) (x7 : Int) (x8 : Int) (x11 : Int) (x12 : Int) (x13 : Int) (x14 : Int) (x15 : Int) (x16 : Int) (x18 : Int) (ph_0 : Int → Int) (pt_0 : Int → Int) (drawnNode_0 : Int → Int) (k1 : 0 ≤ x1 ∧ x1 ≤ 79) (k2 : 0 ≤ x2 ∧ x2 ≤ 79) (k5 : 0 ≤ x5 ∧ x5 ≤ 24) (k6 : 0 ≤ x6 ∧ x6 ≤ 0) (k7 : 0 ≤ x7 ∧ x7 ≤ 24) (k8 : 0 ≤ x8 ∧ x8 ≤ 24) (k11 : 0 ≤ x11 ∧ x11 ≤ 24) (k12 : 0 ≤ x12 ∧ x12 ≤ 0) (k13 : 0 ≤ x13 ∧ x13 ≤ 24) (k14 : 0 ≤ x14 ∧ x14 ≤ 24) (k15 : 0 ≤ x15 ∧ x15 ≤ 24) (k16 : 0 ≤ x16 ∧ x16 ≤ 24) (k18 : 1 ≤ x18 ∧ x18 ≤ 1) (d0 : x8 + 0 ≤ x7 ∧ x7 ≤ x8 + 0) (f0 : x15 ≠ x16) (h1 : x16 = ph_0 (x1)) (h3 : x15 = ph_0 (x2)) (f4 : x13 ≠ x14) (h5 : x14 = ph_0 (x1)) (h6 : x13 = pt_0 (x2)) (f8 : x12 = 0) (h9 : x12 = drawnNode_0 (x11)) (h10 : x11 = ph_0 (x1)) (f12 : x7 = x8) (h13 : x8 = pt_0 (x1)) (h14 : x7 = pt_0 (x2)) (f15 : x6 = 0) (h16 : x6 = drawnNode_0 (x5)) (h17 : x5 = pt_0 (x1)) (hK_0_33 : ∀ j : Int, 0 ≤ j → j < 80 → 0 ≤ pt_0 j ∧ pt_0 j ≤ 24) (hK_0_34 : ∀ j : Int, 0 ≤ j → j < 80 → 0 ≤ ph_0 j ∧ ph_0 j ≤ 24) (hK_0_42 : ∀ j : Int, 0 ≤ j → j < 26 → 0 ≤ drawnNode_0 j ∧ drawnNode_0 j ≤ 1) : SHN (pt_0) (ph_0) (drawnNode_0) (x1) (x2) (x18) := by
  first | subst h1 | skip
  first | subst h3 | skip
  first | subst h5 | skip
  first | subst h6 | skip
  first | subst h9 | skip
  first | subst h10 | skip
  first | subst h13 | skip
  first | subst h14 | skip
  first | subst h16 | skip
  first | subst h17 | skip
  unfold SHN shn
  constructor
  · intro h
    first
      | (exfalso; omega)
      | exact Or.inl ⟨by omega, Or.inl (by omega)⟩
      | exact Or.inl ⟨by omega, Or.inr (by omega)⟩
      | exact Or.inr ⟨by omega, Or.inl (by omega)⟩
      | exact Or.inr ⟨by omega, Or.inr (by omega)⟩
  · intro h
    first
      | omega
      | (rcases h with ⟨a, b | b⟩ | ⟨a, b | b⟩ <;> exfalso <;> omega)
def o_Mo_shareNew_6 : or_T := (115, 19, [(0, (2, 0, 0, [165])), (1, (0, 0, 79, [])), (2, (0, 0, 79, [])), (3, (2, 0, 0, [188])), (4, (2, 0, 0, [180])), (5, (0, 0, 24, [])), (6, (0, 0, 0, [])), (7, (0, 0, 24, [])), (8, (0, 0, 24, [])), (10, (2, 0, 0, [181])), (11, (0, 0, 24, [])), (12, (0, 0, 0, [])), (13, (0, 0, 24, [])), (14, (0, 0, 24, [])), (15, (0, 0, 24, [])), (16, (0, 0, 24, [])), (18, (0, 1, 1, []))], [(7, [15, 16], [1]), (10, [16, 10, 1], []), (9, [10, 0], [34]), (10, [15, 10, 2], []), (7, [13, 14], [1]), (10, [14, 10, 1], []), (10, [13, 4, 2], []), (9, [4, 0], [33]), (8, [12], [0]), (10, [12, 3, 11], []), (10, [11, 10, 1], []), (9, [3, 0], [42]), (7, [7, 8], [0]), (10, [8, 4, 1], []), (10, [7, 4, 2], []), (8, [6], [0]), (10, [6, 3, 5], []), (10, [5, 4, 1], [])], [], [], [(20, [0, 1, 2, 18], [60, 0, 3, 98, 33, 34, 42])], [], [(7, 8, 0, 0)])
theorem oo_Mo_shareNew_6 {kA : Nat → ClassId} : or_ok PRD kA GG o_Mo_shareNew_6 := by
  refine or_mk fun A ta ws vs hD hth hl => ?_
  intro t0 r0 t1 k1 t2 k2 t3 r3 t4 r4 t5 k5 t6 k6 t7 k7 t8 k8 t10 r10 t11 k11 t12 k12 t13 k13 t14 k14 t15 k15 t16 k16 t18 k18 d0 f0 f1 f2 f3 f4 f5 f6 f7 f8 f9 f10 f11 f12 f13 f14 f15 f16 f17
  replace f1 := shm_107 f1
  replace f2 := shm_496 f2
  replace f3 := shm_107 f3
  replace f5 := shm_107 f5
  replace f6 := shm_107 f6
  replace f7 := shm_494 f7
  replace f9 := shm_107 f9
  replace f10 := shm_107 f10
  replace f11 := shm_531 f11
  replace f13 := shm_107 f13
  replace f14 := shm_107 f14
  replace f16 := shm_107 f16
  replace f17 := shm_107 f17
  have cr_0_33 := fdq_117 hD hth r0
  have cr_0_34 := fdq_118 hD hth r0
  have cr_0_42 := fdq_136 hD hth r0
  have ad_10 : v_ad (n_v vs 10) = w_ar ws (n_v vs 0) 34 := congrArg v_ad f2
  have ad_4 : v_ad (n_v vs 4) = w_ar ws (n_v vs 0) 33 := congrArg v_ad f7
  have ad_3 : v_ad (n_v vs 3) = w_ar ws (n_v vs 0) 42 := congrArg v_ad f11
  simp only [ad_10] at f1
  have h1 : v_iv (n_v vs 16) = w_ei ws (w_ar ws (n_v vs 0) 34) (v_iv (n_v vs 1)) := f1
  simp only [ad_10] at f3
  have h3 : v_iv (n_v vs 15) = w_ei ws (w_ar ws (n_v vs 0) 34) (v_iv (n_v vs 2)) := f3
  simp only [ad_10] at f5
  have h5 : v_iv (n_v vs 14) = w_ei ws (w_ar ws (n_v vs 0) 34) (v_iv (n_v vs 1)) := f5
  simp only [ad_4] at f6
  have h6 : v_iv (n_v vs 13) = w_ei ws (w_ar ws (n_v vs 0) 33) (v_iv (n_v vs 2)) := f6
  simp only [ad_3] at f9
  have h9 : v_iv (n_v vs 12) = w_ei ws (w_ar ws (n_v vs 0) 42) (v_iv (n_v vs 11)) := f9
  simp only [ad_10] at f10
  have h10 : v_iv (n_v vs 11) = w_ei ws (w_ar ws (n_v vs 0) 34) (v_iv (n_v vs 1)) := f10
  simp only [ad_4] at f13
  have h13 : v_iv (n_v vs 8) = w_ei ws (w_ar ws (n_v vs 0) 33) (v_iv (n_v vs 1)) := f13
  simp only [ad_4] at f14
  have h14 : v_iv (n_v vs 7) = w_ei ws (w_ar ws (n_v vs 0) 33) (v_iv (n_v vs 2)) := f14
  simp only [ad_3] at f16
  have h16 : v_iv (n_v vs 6) = w_ei ws (w_ar ws (n_v vs 0) 42) (v_iv (n_v vs 5)) := f16
  simp only [ad_4] at f17
  have h17 : v_iv (n_v vs 5) = w_ei ws (w_ar ws (n_v vs 0) 33) (v_iv (n_v vs 1)) := f17
  have hK_0_33 := elq_60 hD hth cr_0_33
  have hK_0_34 := elq_61 hD hth cr_0_34
  have hK_0_42 := elq_75 hD hth cr_0_42
  have nf0 : fc_1 PRD (20, [0, 1, 2, 18], [60, 0, 3, 98, 33, 34, 42]) ws (vs) := ⟨nf_in hl rfl, sgq_729 (vc_Mo_shareNew_6_0 (v_iv (n_v vs 1)) (v_iv (n_v vs 2)) (v_iv (n_v vs 5)) (v_iv (n_v vs 6)) (v_iv (n_v vs 7)) (v_iv (n_v vs 8)) (v_iv (n_v vs 11)) (v_iv (n_v vs 12)) (v_iv (n_v vs 13)) (v_iv (n_v vs 14)) (v_iv (n_v vs 15)) (v_iv (n_v vs 16)) (v_iv (n_v vs 18)) (w_ei ws (w_ar ws (n_v vs 0) 34)) (w_ei ws (w_ar ws (n_v vs 0) 33)) (w_ei ws (w_ar ws (n_v vs 0) 42)) k1 k2 k5 k6 k7 k8 k11 k12 k13 k14 k15 k16 k18 d0 (shm_40 f0) h1 h3 (shm_40 f4) h5 h6 (shm_192 f8) h9 h10 (shm_37 f12) h13 h14 (shm_192 f15) h16 h17 hK_0_33 hK_0_34 hK_0_42)⟩
  refine ⟨(fun _ h => (by cases h)), [], trivial, ?_, (fun _ h => (by cases h))⟩
  rw [List.append_nil]
  exact List.forall_mem_cons.mpr ⟨⟨show (20 : Nat) < 100 from by decide, nf0⟩, (fun _ h => (by cases h))⟩
set_option maxHeartbeats 4000000 in
theorem vc_Mo_shareNew_7_0 (x1 : Int) (x2 : Int) (x5 : Int) (x6 : Int) (x7 : Int) (x8 : Int) (x11 : Int) (x12 : Int) (x13 : Int) (x14 : Int) (x15 : Int) (x16 : Int) (x18 : Int) (ph_0 : Int → Int) (pt_0 : Int → Int) (drawnNode_0 : Int → Int) (k1 : 0 ≤ x1 ∧ x1 ≤ 79) (k2 : 0 ≤ x2 ∧ x2 ≤ 79) (k5 : 0 ≤ x5 ∧ x5 ≤ 24) (k6 : 0 ≤ x6 ∧ x6 ≤ 0) (k7 : 0 ≤ x7 ∧ x7 ≤ 24) (k8 : 0 ≤ x8 ∧ x8 ≤ 24) (k11 : 0 ≤ x11 ∧ x11 ≤ 24) (k12 : 0 ≤ x12 ∧ x12 ≤ 0) (k13 : 0 ≤ x13 ∧ x13 ≤ 24) (k14 : 0 ≤ x14 ∧ x14 ≤ 24) (k15 : 0 ≤ x15 ∧ x15 ≤ 24) (k16 : 0 ≤ x16 ∧ x16 ≤ 24) (k18 : 1 ≤ x18 ∧ x18 ≤ 1) (d0 : x16 + 0 ≤ x15 ∧ x15 ≤ x16 + 0) (d1 : x8 + 0 ≤ x7 ∧ x7 ≤ x8 + 0) (f0 : x15 = x16) (h1 : x16 = ph_0 (x1)) (h3 : x15 = ph_0 (x2)) (f4 : x13 ≠ x14) (h5 : x14 = ph_0 (x1)) (h6 : x13 = pt_0 (x2)) (f8 : x12 = 0) (h9 : x12 = drawnNode_0 (x11)) (h10 : x11 = ph_0 (x1)) (f12 : x7 = x8) (h13 : x8 = pt_0 (x1)) (h14 : x7 = pt_0 (x2)) (f15 : x6 = 0) (h16 : x6 = drawnNode_0 (x5)) (h17 : x5 = pt_0 (x1)) (hK_0_33 : ∀ j : Int, 0 ≤ j → j < 80 → 0 ≤ pt_0 j ∧ pt_0 j ≤ 24) (hK_0_34 : ∀ j : Int, 0 ≤ j → j < 80 → 0 ≤ ph_0 j ∧ ph_0 j ≤ 24) (hK_0_42 : ∀ j : Int, 0 ≤ j → j < 26 → 0 ≤ drawnNode_0 j ∧ drawnNode_0 j ≤ 1) : SHN (pt_0) (ph_0) (drawnNode_0) (x1) (x2) (x18) := by
  first | subst h1 | skip
  first | subst h3 | skip
  first | subst h5 | skip
  first | subst h6 | skip
  first | subst h9 | skip
  first | subst h10 | skip
  first | subst h13 | skip
  first | subst h14 | skip
  first | subst h16 | skip
  first | subst h17 | skip
  unfold SHN shn
  constructor
  · intro h
    first
      | (exfalso; omega)
      | exact Or.inl ⟨by omega, Or.inl (by omega)⟩
      | exact Or.inl ⟨by omega, Or.inr (by omega)⟩
      | exact Or.inr ⟨by omega, Or.inl (by omega)⟩
      | exact Or.inr ⟨by omega, Or.inr (by omega)⟩
  · intro h
    first
      | omega
      | (rcases h with ⟨a, b | b⟩ | ⟨a, b | b⟩ <;> exfalso <;> omega)
def o_Mo_shareNew_7 : or_T := (115, 19, [(0, (2, 0, 0, [165])), (1, (0, 0, 79, [])), (2, (0, 0, 79, [])), (3, (2, 0, 0, [188])), (4, (2, 0, 0, [180])), (5, (0, 0, 24, [])), (6, (0, 0, 0, [])), (7, (0, 0, 24, [])), (8, (0, 0, 24, [])), (10, (2, 0, 0, [181])), (11, (0, 0, 24, [])), (12, (0, 0, 0, [])), (13, (0, 0, 24, [])), (14, (0, 0, 24, [])), (15, (0, 0, 24, [])), (16, (0, 0, 24, [])), (18, (0, 1, 1, []))], [(7, [15, 16], [0]), (10, [16, 10, 1], []), (9, [10, 0], [34]), (10, [15, 10, 2], []), (7, [13, 14], [1]), (10, [14, 10, 1], []), (10, [13, 4, 2], []), (9, [4, 0], [33]), (8, [12], [0]), (10, [12, 3, 11], []), (10, [11, 10, 1], []), (9, [3, 0], [42]), (7, [7, 8], [0]), (10, [8, 4, 1], []), (10, [7, 4, 2], []), (8, [6], [0]), (10, [6, 3, 5], []), (10, [5, 4, 1], [])], [], [], [(20, [0, 1, 2, 18], [60, 0, 3, 98, 33, 34, 42])], [], [(15, 16, 0, 0), (7, 8, 0, 0)])
theorem oo_Mo_shareNew_7 {kA : Nat → ClassId} : or_ok PRD kA GG o_Mo_shareNew_7 := by
  refine or_mk fun A ta ws vs hD hth hl => ?_
  intro t0 r0 t1 k1 t2 k2 t3 r3 t4 r4 t5 k5 t6 k6 t7 k7 t8 k8 t10 r10 t11 k11 t12 k12 t13 k13 t14 k14 t15 k15 t16 k16 t18 k18 d0 d1 f0 f1 f2 f3 f4 f5 f6 f7 f8 f9 f10 f11 f12 f13 f14 f15 f16 f17
  replace f1 := shm_107 f1
  replace f2 := shm_496 f2
  replace f3 := shm_107 f3
  replace f5 := shm_107 f5
  replace f6 := shm_107 f6
  replace f7 := shm_494 f7
  replace f9 := shm_107 f9
  replace f10 := shm_107 f10
  replace f11 := shm_531 f11
  replace f13 := shm_107 f13
  replace f14 := shm_107 f14
  replace f16 := shm_107 f16
  replace f17 := shm_107 f17
  have cr_0_33 := fdq_117 hD hth r0
  have cr_0_34 := fdq_118 hD hth r0
  have cr_0_42 := fdq_136 hD hth r0
  have ad_10 : v_ad (n_v vs 10) = w_ar ws (n_v vs 0) 34 := congrArg v_ad f2
  have ad_4 : v_ad (n_v vs 4) = w_ar ws (n_v vs 0) 33 := congrArg v_ad f7
  have ad_3 : v_ad (n_v vs 3) = w_ar ws (n_v vs 0) 42 := congrArg v_ad f11
  simp only [ad_10] at f1
  have h1 : v_iv (n_v vs 16) = w_ei ws (w_ar ws (n_v vs 0) 34) (v_iv (n_v vs 1)) := f1
  simp only [ad_10] at f3
  have h3 : v_iv (n_v vs 15) = w_ei ws (w_ar ws (n_v vs 0) 34) (v_iv (n_v vs 2)) := f3
  simp only [ad_10] at f5
  have h5 : v_iv (n_v vs 14) = w_ei ws (w_ar ws (n_v vs 0) 34) (v_iv (n_v vs 1)) := f5
  simp only [ad_4] at f6
  have h6 : v_iv (n_v vs 13) = w_ei ws (w_ar ws (n_v vs 0) 33) (v_iv (n_v vs 2)) := f6
  simp only [ad_3] at f9
  have h9 : v_iv (n_v vs 12) = w_ei ws (w_ar ws (n_v vs 0) 42) (v_iv (n_v vs 11)) := f9
  simp only [ad_10] at f10
  have h10 : v_iv (n_v vs 11) = w_ei ws (w_ar ws (n_v vs 0) 34) (v_iv (n_v vs 1)) := f10
  simp only [ad_4] at f13
  have h13 : v_iv (n_v vs 8) = w_ei ws (w_ar ws (n_v vs 0) 33) (v_iv (n_v vs 1)) := f13
  simp only [ad_4] at f14
  have h14 : v_iv (n_v vs 7) = w_ei ws (w_ar ws (n_v vs 0) 33) (v_iv (n_v vs 2)) := f14
  simp only [ad_3] at f16
  have h16 : v_iv (n_v vs 6) = w_ei ws (w_ar ws (n_v vs 0) 42) (v_iv (n_v vs 5)) := f16
  simp only [ad_4] at f17
  have h17 : v_iv (n_v vs 5) = w_ei ws (w_ar ws (n_v vs 0) 33) (v_iv (n_v vs 1)) := f17
  have hK_0_33 := elq_60 hD hth cr_0_33
  have hK_0_34 := elq_61 hD hth cr_0_34
  have hK_0_42 := elq_75 hD hth cr_0_42
  have nf0 : fc_1 PRD (20, [0, 1, 2, 18], [60, 0, 3, 98, 33, 34, 42]) ws (vs) := ⟨nf_in hl rfl, sgq_729 (vc_Mo_shareNew_7_0 (v_iv (n_v vs 1)) (v_iv (n_v vs 2)) (v_iv (n_v vs 5)) (v_iv (n_v vs 6)) (v_iv (n_v vs 7)) (v_iv (n_v vs 8)) (v_iv (n_v vs 11)) (v_iv (n_v vs 12)) (v_iv (n_v vs 13)) (v_iv (n_v vs 14)) (v_iv (n_v vs 15)) (v_iv (n_v vs 16)) (v_iv (n_v vs 18)) (w_ei ws (w_ar ws (n_v vs 0) 34)) (w_ei ws (w_ar ws (n_v vs 0) 33)) (w_ei ws (w_ar ws (n_v vs 0) 42)) k1 k2 k5 k6 k7 k8 k11 k12 k13 k14 k15 k16 k18 d0 d1 (shm_37 f0) h1 h3 (shm_40 f4) h5 h6 (shm_192 f8) h9 h10 (shm_37 f12) h13 h14 (shm_192 f15) h16 h17 hK_0_33 hK_0_34 hK_0_42)⟩
  refine ⟨(fun _ h => (by cases h)), [], trivial, ?_, (fun _ h => (by cases h))⟩
  rw [List.append_nil]
  exact List.forall_mem_cons.mpr ⟨⟨show (20 : Nat) < 100 from by decide, nf0⟩, (fun _ h => (by cases h))⟩
set_option maxHeartbeats 4000000 in
theorem vc_Mo_shareNew_8_0 (x1 : Int) (x2 : Int) (x5 : Int) (x6 : Int) (x7 : Int) (x8 : Int) (x10 : Int) (x11 : Int) (x13 : Int) (x14 : Int) (x16 : Int) (drawnNode_0 : Int → Int) (ph_0 : Int → Int) (pt_0 : Int → Int) (k1 : 0 ≤ x1 ∧ x1 ≤ 79) (k2 : 0 ≤ x2 ∧ x2 ≤ 79) (k5 : 0 ≤ x5 ∧ x5 ≤ 24) (k6 : 0 ≤ x6 ∧ x6 ≤ 0) (k7 : 0 ≤ x7 ∧ x7 ≤ 24) (k8 : 0 ≤ x8 ∧ x8 ≤ 24) (k10 : 0 ≤ x10 ∧ x10 ≤ 24) (k11 : 0 ≤ x11 ∧ x11 ≤ 24) (k13 : 0 ≤ x13 ∧ x13 ≤ 24) (k14 : 1 ≤ x14 ∧ x14 ≤ 1) (k16 : 0 ≤ x16 ∧ x16 ≤ 0) (f0 : x14 ≠ 0) (h1 : x14 = drawnNode_0 (x13)) (h2 : x13 = ph_0 (x1)) (f5 : x10 ≠ x11) (h6 : x11 = pt_0 (x1)) (h8 : x10 = ph_0 (x2)) (f9 : x7 ≠ x8) (h10 : x8 = pt_0 (x1)) (h11 : x7 = pt_0 (x2)) (f12 : x6 = 0) (h13 : x6 = drawnNode_0 (x5)) (h14 : x5 = pt_0 (x1)) (hK_0_33 : ∀ j : Int, 0 ≤ j → j < 80 → 0 ≤ pt_0 j ∧ pt_0 j ≤ 24) (hK_0_34 : ∀ j : Int, 0 ≤ j → j < 80 → 0 ≤ ph_0 j ∧ ph_0 j ≤ 24) (hK_0_42 : ∀ j : Int, 0 ≤ j → j < 26 → 0 ≤ drawnNode_0 j ∧ drawnNode_0 j ≤ 1) : SHN (pt_0) (ph_0) (drawnNode_0) (x1) (x2) (x16) := by
  first | subst h1 | skip
  first | subst h2 | skip
  first | subst h6 | skip
  first | subst h8 | skip
  first | subst h10 | skip
  first | subst h11 | skip
  first | subst h13 | skip
  first | subst h14 | skip
  unfold SHN shn
  constructor
  · intro h
    first
      | (exfalso; omega)
      | exact Or.inl ⟨by omega, Or.inl (by omega)⟩
      | exact Or.inl ⟨by omega, Or.inr (by omega)⟩
      | exact Or.inr ⟨by omega, Or.inl (by omega)⟩
      | exact Or.inr ⟨by omega, Or.inr (by omega)⟩
  · intro h
    first
      | omega
      | (rcases h with ⟨a, b | b⟩ | ⟨a, b | b⟩ <;> exfalso <;> omega)
def o_Mo_shareNew_8 : or_T := (115, 17, [(0, (2, 0, 0, [165])), (1, (0, 0, 79, [])), (2, (0, 0, 79, [])), (3, (2, 0, 0, [188])), (4, (2, 0, 0, [180])), (5, (0, 0, 24, [])), (6, (0, 0, 0, [])), (7, (0, 0, 24, [])), (8, (0, 0, 24, [])), (9, (2, 0, 0, [181])), (10, (0, 0, 24, [])), (11, (0, 0, 24, [])), (13, (0, 0, 24, [])), (14, (0, 1, 1, [])), (16, (0, 0, 0, []))], [(8, [14], [1]), (10, [14, 3, 13], []), (10, [13, 9, 1], []), (9, [9, 0], [34]), (9, [3, 0], [42]), (7, [10, 11], [1]), (10, [11, 4, 1], []), (9, [4, 0], [33]), (10, [10, 9, 2], []), (7, [7, 8], [1]), (10, [8, 4, 1], []), (10, [7, 4, 2], []), (8, [6], [0]), (10, [6, 3, 5], []), (10, [5, 4, 1], [])], [], [], [(20, [0, 1, 2, 16], [60, 0, 3, 98, 33, 34, 42])], [], [])
theorem oo_Mo_shareNew_8 {kA : Nat → ClassId} : or_ok PRD kA GG o_Mo_shareNew_8 := by
  refine or_mk fun A ta ws vs hD hth hl => ?_
  intro t0 r0 t1 k1 t2 k2 t3 r3 t4 r4 t5 k5 t6 k6 t7 k7 t8 k8 t9 r9 t10 k10 t11 k11 t13 k13 t14 k14 t16 k16 f0 f1 f2 f3 f4 f5 f6 f7 f8 f9 f10 f11 f12 f13 f14
  replace f1 := shm_107 f1
  replace f2 := shm_107 f2
  replace f3 := shm_496 f3
  replace f4 := shm_531 f4
  replace f6 := shm_107 f6
  replace f7 := shm_494 f7
  replace f8 := shm_107 f8
  replace f10 := shm_107 f10
  replace f11 := shm_107 f11
  replace f13 := shm_107 f13
  replace f14 := shm_107 f14
  have cr_0_33 := fdq_117 hD hth r0
  have cr_0_34 := fdq_118 hD hth r0
  have cr_0_42 := fdq_136 hD hth r0
  have ad_9 : v_ad (n_v vs 9) = w_ar ws (n_v vs 0) 34 := congrArg v_ad f3
  have ad_3 : v_ad (n_v vs 3) = w_ar ws (n_v vs 0) 42 := congrArg v_ad f4
  have ad_4 : v_ad (n_v vs 4) = w_ar ws (n_v vs 0) 33 := congrArg v_ad f7
  simp only [ad_3] at f1
  have h1 : v_iv (n_v vs 14) = w_ei ws (w_ar ws (n_v vs 0) 42) (v_iv (n_v vs 13)) := f1
  simp only [ad_9] at f2
  have h2 : v_iv (n_v vs 13) = w_ei ws (w_ar ws (n_v vs 0) 34) (v_iv (n_v vs 1)) := f2
  simp only [ad_4] at f6
  have h6 : v_iv (n_v vs 11) = w_ei ws (w_ar ws (n_v vs 0) 33) (v_iv (n_v vs 1)) := f6
  simp only [ad_9] at f8
  have h8 : v_iv (n_v vs 10) = w_ei ws (w_ar ws (n_v vs 0) 34) (v_iv (n_v vs 2)) := f8
  simp only [ad_4] at f10
  have h10 : v_iv (n_v vs 8) = w_ei ws (w_ar ws (n_v vs 0) 33) (v_iv (n_v vs 1)) := f10
  simp only [ad_4] at f11
  have h11 : v_iv (n_v vs 7) = w_ei ws (w_ar ws (n_v vs 0) 33) (v_iv (n_v vs 2)) := f11
  simp only [ad_3] at f13
  have h13 : v_iv (n_v vs 6) = w_ei ws (w_ar ws (n_v vs 0) 42) (v_iv (n_v vs 5)) := f13
  simp only [ad_4] at f14
  have h14 : v_iv (n_v vs 5) = w_ei ws (w_ar ws (n_v vs 0) 33) (v_iv (n_v vs 1)) := f14
  have hK_0_33 := elq_60 hD hth cr_0_33
  have hK_0_34 := elq_61 hD hth cr_0_34
  have hK_0_42 := elq_75 hD hth cr_0_42
  have nf0 : fc_1 PRD (20, [0, 1, 2, 16], [60, 0, 3, 98, 33, 34, 42]) ws (vs) := ⟨nf_in hl rfl, sgq_729 (vc_Mo_shareNew_8_0 (v_iv (n_v vs 1)) (v_iv (n_v vs 2)) (v_iv (n_v vs 5)) (v_iv (n_v vs 6)) (v_iv (n_v vs 7)) (v_iv (n_v vs 8)) (v_iv (n_v vs 10)) (v_iv (n_v vs 11)) (v_iv (n_v vs 13)) (v_iv (n_v vs 14)) (v_iv (n_v vs 16)) (w_ei ws (w_ar ws (n_v vs 0) 42)) (w_ei ws (w_ar ws (n_v vs 0) 34)) (w_ei ws (w_ar ws (n_v vs 0) 33)) k1 k2 k5 k6 k7 k8 k10 k11 k13 k14 k16 (shm_142 f0) h1 h2 (shm_40 f5) h6 h8 (shm_40 f9) h10 h11 (shm_192 f12) h13 h14 hK_0_33 hK_0_34 hK_0_42)⟩
  refine ⟨(fun _ h => (by cases h)), [], trivial, ?_, (fun _ h => (by cases h))⟩
  rw [List.append_nil]
  exact List.forall_mem_cons.mpr ⟨⟨show (20 : Nat) < 100 from by decide, nf0⟩, (fun _ h => (by cases h))⟩
set_option maxHeartbeats 4000000 in
theorem vc_Mo_shareNew_9_0 (x1 : Int) (x2 : Int) (x5 : Int) (x6 : Int) (x7 : Int) (x8 : Int) (x10 : Int) (x11 : Int) (x13 : Int) (x14 : Int) (x15 : Int) (x16 : Int) (x18 : Int) (ph_0 : Int → Int) (pt_0 : Int → Int) (drawnNode_0 : Int → Int) (k1 : 0 ≤ x1 ∧ x1 ≤ 79) (k2 : 0 ≤ x2 ∧ x2 ≤ 79) (k5 : 0 ≤ x5 ∧ x5 ≤ 24) (k6 : 0 ≤ x6 ∧ x6 ≤ 0) (k7 : 0 ≤ x7 ∧ x7 ≤ 24) (k8 : 0 ≤ x8 ∧ x8 ≤ 24) (k10 : 0 ≤ x10 ∧ x10 ≤ 24) (k11 : 0 ≤ x11 ∧ x11 ≤ 24) (k13 : 0 ≤ x13 ∧ x13 ≤ 24) (k14 : 0 ≤ x14 ∧ x14 ≤ 0) (k15 : 0 ≤ x15 ∧ x15 ≤ 24) (k16 : 0 ≤ x16 ∧ x16 ≤ 24) (k18 : 1 ≤ x18 ∧ x18 ≤ 1) (d0 : x16 + 0 ≤ x15 ∧ x15 ≤ x16 + 0) (f0 : x15 = x16) (h1 : x16 = ph_0 (x1)) (h3 : x15 = pt_0 (x2)) (f5 : x14 = 0) (h6 : x14 = drawnNode_0 (x13)) (h7 : x13 = ph_0 (x1)) (f9 : x10 ≠ x11) (h10 : x11 = pt_0 (x1)) (h11 : x10 = ph_0 (x2)) (f12 : x7 ≠ x8) (h13 : x8 = pt_0 (x1)) (h14 : x7 = pt_0 (x2)) (f15 : x6 = 0) (h16 : x6 = drawnNode_0 (x5)) (h17 : x5 = pt_0 (x1)) (hK_0_33 : ∀ j : Int, 0 ≤ j → j < 80 → 0 ≤ pt_0 j ∧ pt_0 j ≤ 24) (hK_0_34 : ∀ j : Int, 0 ≤ j → j < 80 → 0 ≤ ph_0 j ∧ ph_0 j ≤ 24) (hK_0_42 : ∀ j : Int, 0 ≤ j → j < 26 → 0 ≤ drawnNode_0 j ∧ drawnNode_0 j ≤ 1) : SHN (pt_0) (ph_0) (drawnNode_0) (x1) (x2) (x18) := by
  first | subst h1 | skip
  first | subst h3 | skip
  first | subst h6 | skip
  first | subst h7 | skip
  first | subst h10 | skip
  first | subst h11 | skip
  first | subst h13 | skip
  first | subst h14 | skip
  first | subst h16 | skip
  first | subst h17 | skip
  unfold SHN shn
  constructor
  · intro h
    first
      | (exfalso; omega)
      | exact Or.inl ⟨by omega, Or.inl (by omega)⟩
      | exact Or.inl ⟨by omega, Or.inr (by omega)⟩
      | exact Or.inr ⟨by omega, Or.inl (by omega)⟩
      | exact Or.inr ⟨by omega, Or.inr (by omega)⟩
  · intro h
    first
      | omega
      | (rcases h with ⟨a, b | b⟩ | ⟨a, b | b⟩ <;> exfalso <;> omega)
def o_Mo_shareNew_9 : or_T := (115, 19, [(0, (2, 0, 0, [165])), (1, (0, 0, 79, [])), (2, (0, 0, 79, [])), (3, (2, 0, 0, [188])), (4, (2, 0, 0, [180])), (5, (0, 0, 24, [])), (6, (0, 0, 0, [])), (7, (0, 0, 24, [])), (8, (0, 0, 24, [])), (9, (2, 0, 0, [181])), (10, (0, 0, 24, [])), (11, (0, 0, 24, [])), (13, (0, 0, 24, [])), (14, (0, 0, 0, [])), (15, (0, 0, 24, [])), (16, (0, 0, 24, [])), (18, (0, 1, 1, []))], [(7, [15, 16], [0]), (10, [16, 9, 1], []), (9, [9, 0], [34]), (10, [15, 4, 2], []), (9, [4, 0], [33]), (8, [14], [0]), (10, [14, 3, 13], []), (10, [13, 9, 1], []), (9, [3, 0], [42]), (7, [10, 11], [1]), (10, [11, 4, 1], []), (10, [10, 9, 2], []), (7, [7, 8], [1]), (10, [8, 4, 1], []), (10, [7, 4, 2], []), (8, [6], [0]), (10, [6, 3, 5], []), (10, [5, 4, 1], [])], [], [], [(20, [0, 1, 2, 18], [60, 0, 3, 98, 33, 34, 42])], [], [(15, 16, 0, 0)])
theorem oo_Mo_shareNew_9 {kA : Nat → ClassId} : or_ok PRD kA GG o_Mo_shareNew_9 := by
  refine or_mk fun A ta ws vs hD hth hl => ?_
  intro t0 r0 t1 k1 t2 k2 t3 r3 t4 r4 t5 k5 t6 k6 t7 k7 t8 k8 t9 r9 t10 k10 t11 k11 t13 k13 t14 k14 t15 k15 t16 k16 t18 k18 d0 f0 f1 f2 f3 f4 f5 f6 f7 f8 f9 f10 f11 f12 f13 f14 f15 f16 f17
  replace f1 := shm_107 f1
  replace f2 := shm_496 f2
  replace f3 := shm_107 f3
  replace f4 := shm_494 f4
  replace f6 := shm_107 f6
  replace f7 := shm_107 f7
  replace f8 := shm_531 f8
  replace f10 := shm_107 f10
  replace f11 := shm_107 f11
  replace f13 := shm_107 f13
  replace f14 := shm_107 f14
  replace f16 := shm_107 f16
  replace f17 := shm_107 f17
  have cr_0_33 := fdq_117 hD hth r0
  have cr_0_34 := fdq_118 hD hth r0
  have cr_0_42 := fdq_136 hD hth r0
  have ad_9 : v_ad (n_v vs 9) = w_ar ws (n_v vs 0) 34 := congrArg v_ad f2
  have ad_4 : v_ad (n_v vs 4) = w_ar ws (n_v vs 0) 33 := congrArg v_ad f4
  have ad_3 : v_ad (n_v vs 3) = w_ar ws (n_v vs 0) 42 := congrArg v_ad f8
  simp only [ad_9] at f1
  have h1 : v_iv (n_v vs 16) = w_ei ws (w_ar ws (n_v vs 0) 34) (v_iv (n_v vs 1)) := f1
  simp only [ad_4] at f3
  have h3 : v_iv (n_v vs 15) = w_ei ws (w_ar ws (n_v vs 0) 33) (v_iv (n_v vs 2)) := f3
  simp only [ad_3] at f6
  have h6 : v_iv (n_v vs 14) = w_ei ws (w_ar ws (n_v vs 0) 42) (v_iv (n_v vs 13)) := f6
  simp only [ad_9] at f7
  have h7 : v_iv (n_v vs 13) = w_ei ws (w_ar ws (n_v vs 0) 34) (v_iv (n_v vs 1)) := f7
  simp only [ad_4] at f10
  have h10 : v_iv (n_v vs 11) = w_ei ws (w_ar ws (n_v vs 0) 33) (v_iv (n_v vs 1)) := f10
  simp only [ad_9] at f11
  have h11 : v_iv (n_v vs 10) = w_ei ws (w_ar ws (n_v vs 0) 34) (v_iv (n_v vs 2)) := f11
  simp only [ad_4] at f13
  have h13 : v_iv (n_v vs 8) = w_ei ws (w_ar ws (n_v vs 0) 33) (v_iv (n_v vs 1)) := f13
  simp only [ad_4] at f14
  have h14 : v_iv (n_v vs 7) = w_ei ws (w_ar ws (n_v vs 0) 33) (v_iv (n_v vs 2)) := f14
  simp only [ad_3] at f16
  have h16 : v_iv (n_v vs 6) = w_ei ws (w_ar ws (n_v vs 0) 42) (v_iv (n_v vs 5)) := f16
  simp only [ad_4] at f17
  have h17 : v_iv (n_v vs 5) = w_ei ws (w_ar ws (n_v vs 0) 33) (v_iv (n_v vs 1)) := f17
  have hK_0_33 := elq_60 hD hth cr_0_33
  have hK_0_34 := elq_61 hD hth cr_0_34
  have hK_0_42 := elq_75 hD hth cr_0_42
  have nf0 : fc_1 PRD (20, [0, 1, 2, 18], [60, 0, 3, 98, 33, 34, 42]) ws (vs) := ⟨nf_in hl rfl, sgq_729 (vc_Mo_shareNew_9_0 (v_iv (n_v vs 1)) (v_iv (n_v vs 2)) (v_iv (n_v vs 5)) (v_iv (n_v vs 6)) (v_iv (n_v vs 7)) (v_iv (n_v vs 8)) (v_iv (n_v vs 10)) (v_iv (n_v vs 11)) (v_iv (n_v vs 13)) (v_iv (n_v vs 14)) (v_iv (n_v vs 15)) (v_iv (n_v vs 16)) (v_iv (n_v vs 18)) (w_ei ws (w_ar ws (n_v vs 0) 34)) (w_ei ws (w_ar ws (n_v vs 0) 33)) (w_ei ws (w_ar ws (n_v vs 0) 42)) k1 k2 k5 k6 k7 k8 k10 k11 k13 k14 k15 k16 k18 d0 (shm_37 f0) h1 h3 (shm_192 f5) h6 h7 (shm_40 f9) h10 h11 (shm_40 f12) h13 h14 (shm_192 f15) h16 h17 hK_0_33 hK_0_34 hK_0_42)⟩
  refine ⟨(fun _ h => (by cases h)), [], trivial, ?_, (fun _ h => (by cases h))⟩
  rw [List.append_nil]
  exact List.forall_mem_cons.mpr ⟨⟨show (20 : Nat) < 100 from by decide, nf0⟩, (fun _ h => (by cases h))⟩
set_option maxHeartbeats 4000000 in
theorem vc_Mo_shareNew_10_0 (x1 : Int) (x2 : Int) (x5 : Int) (x6 : Int) (x7 : Int) (x8 : Int) (x10 : Int) (x11 : Int) (x13 : Int) (x14 : Int) (x15 : Int) (x16 : Int) (x17 : Int) (x18 : Int) (x20 : Int) (ph_0 : Int → Int) (pt_0 : Int → Int) (drawnNode_0 : Int → Int) (k1 : 0 ≤ x1 ∧ x1 ≤ 79) (k2 : 0 ≤ x2 ∧ x2 ≤ 79) (k5 : 0 ≤ x5 ∧ x5 ≤ 24) (k6 : 0 ≤ x6 ∧ x6 ≤ 0) (k7 : 0 ≤ x7 ∧ x7 ≤ 24) (k8 : 0 ≤ x8 ∧ x8 ≤ 24) (k10 : 0 ≤ x10 ∧ x10 ≤ 24) (k11 : 0 ≤ x11 ∧ x11 ≤ 24) (k13 : 0 ≤ x13 ∧ x13 ≤ 24) (k14 : 0 ≤ x14 ∧ x14 ≤ 0) (k15 : 0 ≤ x15 ∧ x15 ≤ 24) (k16 : 0 ≤ x16 ∧ x16 ≤ 24) (k17 : 0 ≤ x17 ∧ x17 ≤ 24) (k18 : 0 ≤ x18 ∧ x18 ≤ 24) (k20 : 0 ≤ x20 ∧ x20 ≤ 0) (f0 : x17 ≠ x18) (h1 : x18 = ph_0 (x1)) (h3 : x17 = ph_0 (x2)) (f4 : x15 ≠ x16) (h5 : x16 = ph_0 (x1)) (h6 : x15 = pt_0 (x2)) (f8 : x14 = 0) (h9 : x14 = drawnNode_0 (x13)) (h10 : x13 = ph_0 (x1)) (f12 : x10 ≠ x11) (h13 : x11 = pt_0 (x1)) (h14 : x10 = ph_0 (x2)) (f15 : x7 ≠ x8) (h16 : x8 = pt_0 (x1)) (h17 : x7 = pt_0 (x2)) (f18 : x6 = 0) (h19 : x6 = drawnNode_0 (x5)) (h20 : x5 = pt_0 (x1)) (hK_0_33 : ∀ j : Int, 0 ≤ j → j < 80 → 0 ≤ pt_0 j ∧ pt_0 j ≤ 24) (hK_0_34 : ∀ j : Int, 0 ≤ j → j < 80 → 0 ≤ ph_0 j ∧ ph_0 j ≤ 24) (hK_0_42 : ∀ j : Int, 0 ≤ j → j < 26 → 0 ≤ drawnNode_0 j ∧ drawnNode_0 j ≤ 1) : SHN (pt_0) (ph_0) (drawnNode_0) (x1) (x2) (x20) := by
  first | subst h1 | skip
  first | subst h3 | skip
  first | subst h5 | skip
  first | subst h6 | skip
  first | subst h9 | skip
  first | subst h10 | skip
  first | subst h13 | skip
  first | subst h14 | skip
  first | subst h16 | skip
  first | subst h17 | skip
  first | subst h19 | skip
  first | subst h20 | skip
  unfold SHN shn
  constructor
  · intro h
    first
      | (exfalso; omega)
      | exact Or.inl ⟨by omega, Or.inl (by omega)⟩
      | exact Or.inl ⟨by omega, Or.inr (by omega)⟩
      | exact Or.inr ⟨by omega, Or.inl (by omega)⟩
      | exact Or.inr ⟨by omega, Or.inr (by omega)⟩
  · intro h
    first
      | omega
      | (rcases h with ⟨a, b | b⟩ | ⟨a, b | b⟩ <;> exfalso <;> omega)
def o_Mo_shareNew_10 : or_T := (115, 21, [(0, (2, 0, 0, [165])), (1, (0, 0, 79, [])), (2, (0, 0, 79, [])), (3, (2, 0, 0, [188])), (4, (2, 0, 0, [180])), (5, (0, 0, 24, [])), (6, (0, 0, 0, [])), (7, (0, 0, 24, [])), (8, (0, 0, 24, [])), (9, (2, 0, 0, [181])), (10, (0, 0, 24, [])), (11, (0, 0, 24, [])), (13, (0, 0, 24, [])), (14, (0, 0, 0, [])), (15, (0, 0, 24, [])), (16, (0, 0, 24, [])), (17, (0, 0, 24, [])), (18, (0, 0, 24, [])), (20, (0, 0, 0, []))], [(7, [17, 18], [1]), (10, [18, 9, 1], []), (9, [9, 0], [34]), (10, [17, 9, 2], []), (7, [15, 16], [1]), (10, [16, 9, 1], []), (10, [15, 4, 2], []), (9, [4, 0], [33]), (8, [14], [0]), (10, [14, 3, 13], []), (10, [13, 9, 1], []), (9, [3, 0], [42]), (7, [10, 11], [1]), (10, [11, 4, 1], []), (10, [10, 9, 2], []), (7, [7, 8], [1]), (10, [8, 4, 1], []), (10, [7, 4, 2], []), (8, [6], [0]), (10, [6, 3, 5], []), (10, [5, 4, 1], [])], [], [], [(20, [0, 1, 2, 20], [60, 0, 3, 98, 33, 34, 42])], [], [])
theorem oo_Mo_shareNew_10 {kA : Nat → ClassId} : or_ok PRD kA GG o_Mo_shareNew_10 := by
  refine or_mk fun A ta ws vs hD hth hl => ?_
  intro t0 r0 t1 k1 t2 k2 t3 r3 t4 r4 t5 k5 t6 k6 t7 k7 t8 k8 t9 r9 t10 k10 t11 k11 t13 k13 t14 k14 t15 k15 t16 k16 t17 k17 t18 k18 t20 k20 f0 f1 f2 f3 f4 f5 f6 f7 f8 f9 f10 f11 f12 f13 f14 f15 f16 f17 f18 f19 f20
  replace f1 := shm_107 f1
  replace f2 := shm_496 f2
  replace f3 := shm_107 f3
  replace f5 := shm_107 f5
  replace f6 := shm_107 f6
  replace f7 := shm_494 f7
  replace f9 := shm_107 f9
  replace f10 := shm_107 f10
  replace f11 := shm_531 f11
  replace f13 := shm_107 f13
  replace f14 := shm_107 f14
  replace f16 := shm_107 f16
  replace f17 := shm_107 f17
  replace f19 := shm_107 f19
  replace f20 := shm_107 f20
  have cr_0_33 := fdq_117 hD hth r0
  have cr_0_34 := fdq_118 hD hth r0
  have cr_0_42 := fdq_136 hD hth r0
  have ad_9 : v_ad (n_v vs 9) = w_ar ws (n_v vs 0) 34 := congrArg v_ad f2
  have ad_4 : v_ad (n_v vs 4) = w_ar ws (n_v vs 0) 33 := congrArg v_ad f7
  have ad_3 : v_ad (n_v vs 3) = w_ar ws (n_v vs 0) 42 := congrArg v_ad f11
  simp only [ad_9] at f1
  have h1 : v_iv (n_v vs 18) = w_ei ws (w_ar ws (n_v vs 0) 34) (v_iv (n_v vs 1)) := f1
  simp only [ad_9] at f3
  have h3 : v_iv (n_v vs 17) = w_ei ws (w_ar ws (n_v vs 0) 34) (v_iv (n_v vs 2)) := f3
  simp only [ad_9] at f5
  have h5 : v_iv (n_v vs 16) = w_ei ws (w_ar ws (n_v vs 0) 34) (v_iv (n_v vs 1)) := f5
  simp only [ad_4] at f6
  have h6 : v_iv (n_v vs 15) = w_ei ws (w_ar ws (n_v vs 0) 33) (v_iv (n_v vs 2)) := f6
  simp only [ad_3] at f9
  have h9 : v_iv (n_v vs 14) = w_ei ws (w_ar ws (n_v vs 0) 42) (v_iv (n_v vs 13)) := f9
  simp only [ad_9] at f10
  have h10 : v_iv (n_v vs 13) = w_ei ws (w_ar ws (n_v vs 0) 34) (v_iv (n_v vs 1)) := f10
  simp only [ad_4] at f13
  have h13 : v_iv (n_v vs 11) = w_ei ws (w_ar ws (n_v vs 0) 33) (v_iv (n_v vs 1)) := f13
  simp only [ad_9] at f14
  have h14 : v_iv (n_v vs 10) = w_ei ws (w_ar ws (n_v vs 0) 34) (v_iv (n_v vs 2)) := f14
  simp only [ad_4] at f16
  have h16 : v_iv (n_v vs 8) = w_ei ws (w_ar ws (n_v vs 0) 33) (v_iv (n_v vs 1)) := f16
  simp only [ad_4] at f17
  have h17 : v_iv (n_v vs 7) = w_ei ws (w_ar ws (n_v vs 0) 33) (v_iv (n_v vs 2)) := f17
  simp only [ad_3] at f19
  have h19 : v_iv (n_v vs 6) = w_ei ws (w_ar ws (n_v vs 0) 42) (v_iv (n_v vs 5)) := f19
  simp only [ad_4] at f20
  have h20 : v_iv (n_v vs 5) = w_ei ws (w_ar ws (n_v vs 0) 33) (v_iv (n_v vs 1)) := f20
  have hK_0_33 := elq_60 hD hth cr_0_33
  have hK_0_34 := elq_61 hD hth cr_0_34
  have hK_0_42 := elq_75 hD hth cr_0_42
  have nf0 : fc_1 PRD (20, [0, 1, 2, 20], [60, 0, 3, 98, 33, 34, 42]) ws (vs) := ⟨nf_in hl rfl, sgq_729 (vc_Mo_shareNew_10_0 (v_iv (n_v vs 1)) (v_iv (n_v vs 2)) (v_iv (n_v vs 5)) (v_iv (n_v vs 6)) (v_iv (n_v vs 7)) (v_iv (n_v vs 8)) (v_iv (n_v vs 10)) (v_iv (n_v vs 11)) (v_iv (n_v vs 13)) (v_iv (n_v vs 14)) (v_iv (n_v vs 15)) (v_iv (n_v vs 16)) (v_iv (n_v vs 17)) (v_iv (n_v vs 18)) (v_iv (n_v vs 20)) (w_ei ws (w_ar ws (n_v vs 0) 34)) (w_ei ws (w_ar ws (n_v vs 0) 33)) (w_ei ws (w_ar ws (n_v vs 0) 42)) k1 k2 k5 k6 k7 k8 k10 k11 k13 k14 k15 k16 k17 k18 k20 (shm_40 f0) h1 h3 (shm_40 f4) h5 h6 (shm_192 f8) h9 h10 (shm_40 f12) h13 h14 (shm_40 f15) h16 h17 (shm_192 f18) h19 h20 hK_0_33 hK_0_34 hK_0_42)⟩
  refine ⟨(fun _ h => (by cases h)), [], trivial, ?_, (fun _ h => (by cases h))⟩
  rw [List.append_nil]
  exact List.forall_mem_cons.mpr ⟨⟨show (20 : Nat) < 100 from by decide, nf0⟩, (fun _ h => (by cases h))⟩
set_option maxHeartbeats 4000000 in
theorem vc_Mo_shareNew_11_0 (x1 : Int) (x2 : Int) (x5 : Int) (x6 : Int) (x7 : Int) (x8 : Int) (x10 : Int) (x11 : Int) (x13 : Int) (x14 : Int) (x15 : Int) (x16 : Int) (x17 : Int) (x18 : Int) (x20 : Int) (ph_0 : Int → Int) (pt_0 : Int → Int) (drawnNode_0 : Int → Int) (k1 : 0 ≤ x1 ∧ x1 ≤ 79) (k2 : 0 ≤ x2 ∧ x2 ≤ 79) (k5 : 0 ≤ x5 ∧ x5 ≤ 24) (k6 : 0 ≤ x6 ∧ x6 ≤ 0) (k7 : 0 ≤ x7 ∧ x7 ≤ 24) (k8 : 0 ≤ x8 ∧ x8 ≤ 24) (k10 : 0 ≤ x10 ∧ x10 ≤ 24) (k11 : 0 ≤ x11 ∧ x11 ≤ 24) (k13 : 0 ≤ x13 ∧ x13 ≤ 24) (k14 : 0 ≤ x14 ∧ x14 ≤ 0) (k15 : 0 ≤ x15 ∧ x15 ≤ 24) (k16 : 0 ≤ x16 ∧ x16 ≤ 24) (k17 : 0 ≤ x17 ∧ x17 ≤ 24) (k18 : 0 ≤ x18 ∧ x18 ≤ 24) (k20 : 1 ≤ x20 ∧ x20 ≤ 1) (d0 : x18 + 0 ≤ x17 ∧ x17 ≤ x18 + 0) (f0 : x17 = x18) (h1 : x18 = ph_0 (x1)) (h3 : x17 = ph_0 (x2)) (f4 : x15 ≠ x16) (h5 : x16 = ph_0 (x1)) (h6 : x15 = pt_0 (x2)) (f8 : x14 = 0) (h9 : x14 = drawnNode_0 (x13)) (h10 : x13 = ph_0 (x1)) (f12 : x10 ≠ x11) (h13 : x11 = pt_0 (x1)) (h14 : x10 = ph_0 (x2)) (f15 : x7 ≠ x8) (h16 : x8 = pt_0 (x1)) (h17 : x7 = pt_0 (x2)) (f18 : x6 = 0) (h19 : x6 = drawnNode_0 (x5)) (h20 : x5 = pt_0 (x1)) (hK_0_33 : ∀ j : Int, 0 ≤ j → j < 80 → 0 ≤ pt_0 j ∧ pt_0 j ≤ 24) (hK_0_34 : ∀ j : Int, 0 ≤ j → j < 80 → 0 ≤ ph_0 j ∧ ph_0 j ≤ 24) (hK_0_42 : ∀ j : Int, 0 ≤ j → j < 26 → 0 ≤ drawnNode_0 j ∧ drawnNode_0 j ≤ 1) : SHN (pt_0) (ph_0) (drawnNode_0) (x1) (x2) (x20) := by
  first | subst h1 | skip
  first | subst h3 | skip
  first | subst h5 | skip
  first | subst h6 | skip
  first | subst h9 | skip
  first | subst h10 | skip
  first | subst h13 | skip
  first | subst h14 | skip
  first | subst h16 | skip
  first | subst h17 | skip
  first | subst h19 | skip
  first | subst h20 | skip
  unfold SHN shn
  constructor
  · intro h
    first
      | (exfalso; omega)
      | exact Or.inl ⟨by omega, Or.inl (by omega)⟩
      | exact Or.inl ⟨by omega, Or.inr (by omega)⟩
      | exact Or.inr ⟨by omega, Or.inl (by omega)⟩
      | exact Or.inr ⟨by omega, Or.inr (by omega)⟩
  · intro h
    first
      | omega
      | (rcases h with ⟨a, b | b⟩ | ⟨a, b | b⟩ <;> exfalso <;> omega)
def o_Mo_shareNew_11 : or_T := (115, 21, [(0, (2, 0, 0, [165])), (1, (0, 0, 79, [])), (2, (0, 0, 79, [])), (3, (2, 0, 0, [188])), (4, (2, 0, 0, [180])), (5, (0, 0, 24, [])), (6, (0, 0, 0, [])), (7, (0, 0, 24, [])), (8, (0, 0, 24, [])), (9, (2, 0, 0, [181])), (10, (0, 0, 24, [])), (11, (0, 0, 24, [])), (13, (0, 0, 24, [])), (14, (0, 0, 0, [])), (15, (0, 0, 24, [])), (16, (0, 0, 24, [])), (17, (0, 0, 24, [])), (18, (0, 0, 24, [])), (20, (0, 1, 1, []))], [(7, [17, 18], [0]), (10, [18, 9, 1], []), (9, [9, 0], [34]), (10, [17, 9, 2], []), (7, [15, 16], [1]), (10, [16, 9, 1], []), (10, [15, 4, 2], []), (9, [4, 0], [33]), (8, [14], [0]), (10, [14, 3, 13], []), (10, [13, 9, 1], []), (9, [3, 0], [42]), (7, [10, 11], [1]), (10, [11, 4, 1], []), (10, [10, 9, 2], []), (7, [7, 8], [1]), (10, [8, 4, 1], []), (10, [7, 4, 2], []), (8, [6], [0]), (10, [6, 3, 5], []), (10, [5, 4, 1], [])], [], [], [(20, [0, 1, 2, 20], [60, 0, 3, 98, 33, 34, 42])], [], [(17, 18, 0, 0)])
theorem oo_Mo_shareNew_11 {kA : Nat → ClassId} : or_ok PRD kA GG o_Mo_shareNew_11 := by
  refine or_mk fun A ta ws vs hD hth hl => ?_
  intro t0 r0 t1 k1 t2 k2 t3 r3 t4 r4 t5 k5 t6 k6 t7 k7 t8 k8 t9 r9 t10 k10 t11 k11 t13 k13 t14 k14 t15 k15 t16 k16 t17 k17 t18 k18 t20 k20 d0 f0 f1 f2 f3 f4 f5 f6 f7 f8 f9 f10 f11 f12 f13 f14 f15 f16 f17 f18 f19 f20
  replace f1 := shm_107 f1
  replace f2 := shm_496 f2
  replace f3 := shm_107 f3
  replace f5 := shm_107 f5
  replace f6 := shm_107 f6
  replace f7 := shm_494 f7
  replace f9 := shm_107 f9
  replace f10 := shm_107 f10
  replace f11 := shm_531 f11
  replace f13 := shm_107 f13
  replace f14 := shm_107 f14
  replace f16 := shm_107 f16
  replace f17 := shm_107 f17
  replace f19 := shm_107 f19
  replace f20 := shm_107 f20
  have cr_0_33 := fdq_117 hD hth r0
  have cr_0_34 := fdq_118 hD hth r0
  have cr_0_42 := fdq_136 hD hth r0
  have ad_9 : v_ad (n_v vs 9) = w_ar ws (n_v vs 0) 34 := congrArg v_ad f2
  have ad_4 : v_ad (n_v vs 4) = w_ar ws (n_v vs 0) 33 := congrArg v_ad f7
  have ad_3 : v_ad (n_v vs 3) = w_ar ws (n_v vs 0) 42 := congrArg v_ad f11
  simp only [ad_9] at f1
  have h1 : v_iv (n_v vs 18) = w_ei ws (w_ar ws (n_v vs 0) 34) (v_iv (n_v vs 1)) := f1
  simp only [ad_9] at f3
  have h3 : v_iv (n_v vs 17) = w_ei ws (w_ar ws (n_v vs 0) 34) (v_iv (n_v vs 2)) := f3
  simp only [ad_9] at f5
  have h5 : v_iv (n_v vs 16) = w_ei ws (w_ar ws (n_v vs 0) 34) (v_iv (n_v vs 1)) := f5
  simp only [ad_4] at f6
  have h6 : v_iv (n_v vs 15) = w_ei ws (w_ar ws (n_v vs 0) 33) (v_iv (n_v vs 2)) := f6
  simp only [ad_3] at f9
  have h9 : v_iv (n_v vs 14) = w_ei ws (w_ar ws (n_v vs 0) 42) (v_iv (n_v vs 13)) := f9
  simp only [ad_9] at f10
  have h10 : v_iv (n_v vs 13) = w_ei ws (w_ar ws (n_v vs 0) 34) (v_iv (n_v vs 1)) := f10
  simp only [ad_4] at f13
  have h13 : v_iv (n_v vs 11) = w_ei ws (w_ar ws (n_v vs 0) 33) (v_iv (n_v vs 1)) := f13
  simp only [ad_9] at f14
  have h14 : v_iv (n_v vs 10) = w_ei ws (w_ar ws (n_v vs 0) 34) (v_iv (n_v vs 2)) := f14
  simp only [ad_4] at f16
  have h16 : v_iv (n_v vs 8) = w_ei ws (w_ar ws (n_v vs 0) 33) (v_iv (n_v vs 1)) := f16
  simp only [ad_4] at f17
  have h17 : v_iv (n_v vs 7) = w_ei ws (w_ar ws (n_v vs 0) 33) (v_iv (n_v vs 2)) := f17
  simp only [ad_3] at f19
  have h19 : v_iv (n_v vs 6) = w_ei ws (w_ar ws (n_v vs 0) 42) (v_iv (n_v vs 5)) := f19
  simp only [ad_4] at f20
  have h20 : v_iv (n_v vs 5) = w_ei ws (w_ar ws (n_v vs 0) 33) (v_iv (n_v vs 1)) := f20
  have hK_0_33 := elq_60 hD hth cr_0_33
  have hK_0_34 := elq_61 hD hth cr_0_34
  have hK_0_42 := elq_75 hD hth cr_0_42
  have nf0 : fc_1 PRD (20, [0, 1, 2, 20], [60, 0, 3, 98, 33, 34, 42]) ws (vs) := ⟨nf_in hl rfl, sgq_729 (vc_Mo_shareNew_11_0 (v_iv (n_v vs 1)) (v_iv (n_v vs 2)) (v_iv (n_v vs 5)) (v_iv (n_v vs 6)) (v_iv (n_v vs 7)) (v_iv (n_v vs 8)) (v_iv (n_v vs 10)) (v_iv (n_v vs 11)) (v_iv (n_v vs 13)) (v_iv (n_v vs 14)) (v_iv (n_v vs 15)) (v_iv (n_v vs 16)) (v_iv (n_v vs 17)) (v_iv (n_v vs 18)) (v_iv (n_v vs 20)) (w_ei ws (w_ar ws (n_v vs 0) 34)) (w_ei ws (w_ar ws (n_v vs 0) 33)) (w_ei ws (w_ar ws (n_v vs 0) 42)) k1 k2 k5 k6 k7 k8 k10 k11 k13 k14 k15 k16 k17 k18 k20 d0 (shm_37 f0) h1 h3 (shm_40 f4) h5 h6 (shm_192 f8) h9 h10 (shm_40 f12) h13 h14 (shm_40 f15) h16 h17 (shm_192 f18) h19 h20 hK_0_33 hK_0_34 hK_0_42)⟩
  refine ⟨(fun _ h => (by cases h)), [], trivial, ?_, (fun _ h => (by cases h))⟩
  rw [List.append_nil]
  exact List.forall_mem_cons.mpr ⟨⟨show (20 : Nat) < 100 from by decide, nf0⟩, (fun _ h => (by cases h))⟩
set_option maxHeartbeats 4000000 in
theorem vc_Mo_shareNew_12_0 (x1 : Int) (x2 : Int) (x5 : Int) (x6 : Int) (x7 : Int) (x8 : Int) (x10 : Int) (x11 : Int) (x13 : Int) (x14 : Int) (x16 : Int) (drawnNode_0 : Int → Int) (ph_0 : Int → Int) (pt_0 : Int → Int) (k1 : 0 ≤ x1 ∧ x1 ≤ 79) (k2 : 0 ≤ x2 ∧ x2 ≤ 79) (k5 : 0 ≤ x5 ∧ x5 ≤ 24) (k6 : 0 ≤ x6 ∧ x6 ≤ 0) (k7 : 0 ≤ x7 ∧ x7 ≤ 24) (k8 : 0 ≤ x8 ∧ x8 ≤ 24) (k10 : 0 ≤ x10 ∧ x10 ≤ 24) (k11 : 0 ≤ x11 ∧ x11 ≤ 24) (k13 : 0 ≤ x13 ∧ x13 ≤ 24) (k14 : 1 ≤ x14 ∧ x14 ≤ 1) (k16 : 1 ≤ x16 ∧ x16 ≤ 1) (d0 : x11 + 0 ≤ x10 ∧ x10 ≤ x11 + 0) (f0 : x14 ≠ 0) (h1 : x14 = drawnNode_0 (x13)) (h2 : x13 = ph_0 (x1)) (f5 : x10 = x11) (h6 : x11 = pt_0 (x1)) (h8 : x10 = ph_0 (x2)) (f9 : x7 ≠ x8) (h10 : x8 = pt_0 (x1)) (h11 : x7 = pt_0 (x2)) (f12 : x6 = 0) (h13 : x6 = drawnNode_0 (x5)) (h14 : x5 = pt_0 (x1)) (hK_0_33 : ∀ j : Int, 0 ≤ j → j < 80 → 0 ≤ pt_0 j ∧ pt_0 j ≤ 24) (hK_0_34 : ∀ j : Int, 0 ≤ j → j < 80 → 0 ≤ ph_0 j ∧ ph_0 j ≤ 24) (hK_0_42 : ∀ j : Int, 0 ≤ j → j < 26 → 0 ≤ drawnNode_0 j ∧ drawnNode_0 j ≤ 1) : SHN (pt_0) (ph_0) (drawnNode_0) (x1) (x2) (x16) := by
  first | subst h1 | skip
  first | subst h2 | skip
  first | subst h6 | skip
  first | subst h8 | skip
  first | subst h10 | skip
  first | subst h11 | skip
  first | subst h13 | skip
  first | subst h14 | skip
  unfold SHN shn
  constructor
  · intro h
    first
      | (exfalso; omega)
      | exact Or.inl ⟨by omega, Or.inl (by omega)⟩
      | exact Or.inl ⟨by omega, Or.inr (by omega)⟩
      | exact Or.inr ⟨by omega, Or.inl (by omega)⟩
      | exact Or.inr ⟨by omega, Or.inr (by omega)⟩
  · intro h
    first
      | omega
      | (rcases h with ⟨a, b | b⟩ | ⟨a, b | b⟩ <;> exfalso <;> omega)
def o_Mo_shareNew_12 : or_T := (115, 17, [(0, (2, 0, 0, [165])), (1, (0, 0, 79, [])), (2, (0, 0, 79, [])), (3, (2, 0, 0, [188])), (4, (2, 0, 0, [180])), (5, (0, 0, 24, [])), (6, (0, 0, 0, [])), (7, (0, 0, 24, [])), (8, (0, 0, 24, [])), (9, (2, 0, 0, [181])), (10, (0, 0, 24, [])), (11, (0, 0, 24, [])), (13, (0, 0, 24, [])), (14, (0, 1, 1, [])), (16, (0, 1, 1, []))], [(8, [14], [1]), (10, [14, 3, 13], []), (10, [13, 9, 1], []), (9, [9, 0], [34]), (9, [3, 0], [42]), (7, [10, 11], [0]), (10, [11, 4, 1], []), (9, [4, 0], [33]), (10, [10, 9, 2], []), (7, [7, 8], [1]), (10, [8, 4, 1], []), (10, [7, 4, 2], []), (8, [6], [0]), (10, [6, 3, 5], []), (10, [5, 4, 1], [])], [], [], [(20, [0, 1, 2, 16], [60, 0, 3, 98, 33, 34, 42])], [], [(10, 11, 0, 0)])
theorem oo_Mo_shareNew_12 {kA : Nat → ClassId} : or_ok PRD kA GG o_Mo_shareNew_12 := by
  refine or_mk fun A ta ws vs hD hth hl => ?_
  intro t0 r0 t1 k1 t2 k2 t3 r3 t4 r4 t5 k5 t6 k6 t7 k7 t8 k8 t9 r9 t10 k10 t11 k11 t13 k13 t14 k14 t16 k16 d0 f0 f1 f2 f3 f4 f5 f6 f7 f8 f9 f10 f11 f12 f13 f14
  replace f1 := shm_107 f1
  replace f2 := shm_107 f2
  replace f3 := shm_496 f3
  replace f4 := shm_531 f4
  replace f6 := shm_107 f6
  replace f7 := shm_494 f7
  replace f8 := shm_107 f8
  replace f10 := shm_107 f10
  replace f11 := shm_107 f11
  replace f13 := shm_107 f13
  replace f14 := shm_107 f14
  have cr_0_33 := fdq_117 hD hth r0
  have cr_0_34 := fdq_118 hD hth r0
  have cr_0_42 := fdq_136 hD hth r0
  have ad_9 : v_ad (n_v vs 9) = w_ar ws (n_v vs 0) 34 := congrArg v_ad f3
  have ad_3 : v_ad (n_v vs 3) = w_ar ws (n_v vs 0) 42 := congrArg v_ad f4
  have ad_4 : v_ad (n_v vs 4) = w_ar ws (n_v vs 0) 33 := congrArg v_ad f7
  simp only [ad_3] at f1
  have h1 : v_iv (n_v vs 14) = w_ei ws (w_ar ws (n_v vs 0) 42) (v_iv (n_v vs 13)) := f1
  simp only [ad_9] at f2
  have h2 : v_iv (n_v vs 13) = w_ei ws (w_ar ws (n_v vs 0) 34) (v_iv (n_v vs 1)) := f2
  simp only [ad_4] at f6
  have h6 : v_iv (n_v vs 11) = w_ei ws (w_ar ws (n_v vs 0) 33) (v_iv (n_v vs 1)) := f6
  simp only [ad_9] at f8
  have h8 : v_iv (n_v vs 10) = w_ei ws (w_ar ws (n_v vs 0) 34) (v_iv (n_v vs 2)) := f8
  simp only [ad_4] at f10
  have h10 : v_iv (n_v vs 8) = w_ei ws (w_ar ws (n_v vs 0) 33) (v_iv (n_v vs 1)) := f10
  simp only [ad_4] at f11
  have h11 : v_iv (n_v vs 7) = w_ei ws (w_ar ws (n_v vs 0) 33) (v_iv (n_v vs 2)) := f11
  simp only [ad_3] at f13
  have h13 : v_iv (n_v vs 6) = w_ei ws (w_ar ws (n_v vs 0) 42) (v_iv (n_v vs 5)) := f13
  simp only [ad_4] at f14
  have h14 : v_iv (n_v vs 5) = w_ei ws (w_ar ws (n_v vs 0) 33) (v_iv (n_v vs 1)) := f14
  have hK_0_33 := elq_60 hD hth cr_0_33
  have hK_0_34 := elq_61 hD hth cr_0_34
  have hK_0_42 := elq_75 hD hth cr_0_42
  have nf0 : fc_1 PRD (20, [0, 1, 2, 16], [60, 0, 3, 98, 33, 34, 42]) ws (vs) := ⟨nf_in hl rfl, sgq_729 (vc_Mo_shareNew_12_0 (v_iv (n_v vs 1)) (v_iv (n_v vs 2)) (v_iv (n_v vs 5)) (v_iv (n_v vs 6)) (v_iv (n_v vs 7)) (v_iv (n_v vs 8)) (v_iv (n_v vs 10)) (v_iv (n_v vs 11)) (v_iv (n_v vs 13)) (v_iv (n_v vs 14)) (v_iv (n_v vs 16)) (w_ei ws (w_ar ws (n_v vs 0) 42)) (w_ei ws (w_ar ws (n_v vs 0) 34)) (w_ei ws (w_ar ws (n_v vs 0) 33)) k1 k2 k5 k6 k7 k8 k10 k11 k13 k14 k16 d0 (shm_142 f0) h1 h2 (shm_37 f5) h6 h8 (shm_40 f9) h10 h11 (shm_192 f12) h13 h14 hK_0_33 hK_0_34 hK_0_42)⟩
  refine ⟨(fun _ h => (by cases h)), [], trivial, ?_, (fun _ h => (by cases h))⟩
  rw [List.append_nil]
  exact List.forall_mem_cons.mpr ⟨⟨show (20 : Nat) < 100 from by decide, nf0⟩, (fun _ h => (by cases h))⟩
set_option maxHeartbeats 4000000 in
theorem vc_Mo_shareNew_13_0 (x1 : Int) (x2 : Int) (x5 : Int) (x6 : Int) (x7 : Int) (x8 : Int) (x10 : Int) (x11 : Int) (x13 : Int) (x14 : Int) (x15 : Int) (x16 : Int) (x18 : Int) (ph_0 : Int → Int) (pt_0 : Int → Int) (drawnNode_0 : Int → Int) (k1 : 0 ≤ x1 ∧ x1 ≤ 79) (k2 : 0 ≤ x2 ∧ x2 ≤ 79) (k5 : 0 ≤ x5 ∧ x5 ≤ 24) (k6 : 0 ≤ x6 ∧ x6 ≤ 0) (k7 : 0 ≤ x7 ∧ x7 ≤ 24) (k8 : 0 ≤ x8 ∧ x8 ≤ 24) (k10 : 0 ≤ x10 ∧ x10 ≤ 24) (k11 : 0 ≤ x11 ∧ x11 ≤ 24) (k13 : 0 ≤ x13 ∧ x13 ≤ 24) (k14 : 0 ≤ x14 ∧ x14 ≤ 0) (k15 : 0 ≤ x15 ∧ x15 ≤ 24) (k16 : 0 ≤ x16 ∧ x16 ≤ 24) (k18 : 1 ≤ x18 ∧ x18 ≤ 1) (d0 : x16 + 0 ≤ x15 ∧ x15 ≤ x16 + 0) (d1 : x11 + 0 ≤ x10 ∧ x10 ≤ x11 + 0) (f0 : x15 = x16) (h1 : x16 = ph_0 (x1)) (h3 : x15 = pt_0 (x2)) (f5 : x14 = 0) (h6 : x14 = drawnNode_0 (x13)) (h7 : x13 = ph_0 (x1)) (f9 : x10 = x11) (h10 : x11 = pt_0 (x1)) (h11 : x10 = ph_0 (x2)) (f12 : x7 ≠ x8) (h13 : x8 = pt_0 (x1)) (h14 : x7 = pt_0 (x2)) (f15 : x6 = 0) (h16 : x6 = drawnNode_0 (x5)) (h17 : x5 = pt_0 (x1)) (hK_0_33 : ∀ j : Int, 0 ≤ j → j < 80 → 0 ≤ pt_0 j ∧ pt_0 j ≤ 24) (hK_0_34 : ∀ j : Int, 0 ≤ j → j < 80 → 0 ≤ ph_0 j ∧ ph_0 j ≤ 24) (hK_0_42 : ∀ j : Int, 0 ≤ j → j < 26 → 0 ≤ drawnNode_0 j ∧ drawnNode_0 j ≤ 1) : SHN (pt_0) (ph_0) (drawnNode_0) (x1) (x2) (x18) := by
  first | subst h1 | skip
  first | subst h3 | skip
  first | subst h6 | skip
  first | subst h7 | skip
  first | subst h10 | skip
  first | subst h11 | skip
  first | subst h13 | skip
  first | subst h14 | skip
  first | subst h16 | skip
  first | subst h17 | skip
  unfold SHN shn
  constructor
  · intro h
    first
      | (exfalso; omega)
      | exact Or.inl ⟨by omega, Or.inl (by omega)⟩
      | exact Or.inl ⟨by omega, Or.inr (by omega)⟩
      | exact Or.inr ⟨by omega, Or.inl (by omega)⟩
      | exact Or.inr ⟨by omega, Or.inr (by omega)⟩
  · intro h
    first
      | omega
      | (rcases h with ⟨a, b | b⟩ | ⟨a, b | b⟩ <;> exfalso <;> omega)
def o_Mo_shareNew_13 : or_T := (115, 19, [(0, (2, 0, 0, [165])), (1, (0, 0, 79, [])), (2, (0, 0, 79, [])), (3, (2, 0, 0, [188])), (4, (2, 0, 0, [180])), (5, (0, 0, 24, [])), (6, (0, 0, 0, [])), (7, (0, 0, 24, [])), (8, (0, 0, 24, [])), (9, (2, 0, 0, [181])), (10, (0, 0, 24, [])), (11, (0, 0, 24, [])), (13, (0, 0, 24, [])), (14, (0, 0, 0, [])), (15, (0, 0, 24, [])), (16, (0, 0, 24, [])), (18, (0, 1, 1, []))], [(7, [15, 16], [0]), (10, [16, 9, 1], []), (9, [9, 0], [34]), (10, [15, 4, 2], []), (9, [4, 0], [33]), (8, [14], [0]), (10, [14, 3, 13], []), (10, [13, 9, 1], []), (9, [3, 0], [42]), (7, [10, 11], [0]), (10, [11, 4, 1], []), (10, [10, 9, 2], []), (7, [7, 8], [1]), (10, [8, 4, 1], []), (10, [7, 4, 2], []), (8, [6], [0]), (10, [6, 3, 5], []), (10, [5, 4, 1], [])], [], [], [(20, [0, 1, 2, 18], [60, 0, 3, 98, 33, 34, 42])], [], [(15, 16, 0, 0), (10, 11, 0, 0)])
theorem oo_Mo_shareNew_13 {kA : Nat → ClassId} : or_ok PRD kA GG o_Mo_shareNew_13 := by
  refine or_mk fun A ta ws vs hD hth hl => ?_
  intro t0 r0 t1 k1 t2 k2 t3 r3 t4 r4 t5 k5 t6 k6 t7 k7 t8 k8 t9 r9 t10 k10 t11 k11 t13 k13 t14 k14 t15 k15 t16 k16 t18 k18 d0 d1 f0 f1 f2 f3 f4 f5 f6 f7 f8 f9 f10 f11 f12 f13 f14 f15 f16 f17
  replace f1 := shm_107 f1
  replace f2 := shm_496 f2
  replace f3 := shm_107 f3
  replace f4 := shm_494 f4
  replace f6 := shm_107 f6
  replace f7 := shm_107 f7
  replace f8 := shm_531 f8
  replace f10 := shm_107 f10
  replace f11 := shm_107 f11
  replace f13 := shm_107 f13
  replace f14 := shm_107 f14
  replace f16 := shm_107 f16
  replace f17 := shm_107 f17
  have cr_0_33 := fdq_117 hD hth r0
  have cr_0_34 := fdq_118 hD hth r0
  have cr_0_42 := fdq_136 hD hth r0
  have ad_9 : v_ad (n_v vs 9) = w_ar ws (n_v vs 0) 34 := congrArg v_ad f2
  have ad_4 : v_ad (n_v vs 4) = w_ar ws (n_v vs 0) 33 := congrArg v_ad f4
  have ad_3 : v_ad (n_v vs 3) = w_ar ws (n_v vs 0) 42 := congrArg v_ad f8
  simp only [ad_9] at f1
  have h1 : v_iv (n_v vs 16) = w_ei ws (w_ar ws (n_v vs 0) 34) (v_iv (n_v vs 1)) := f1
  simp only [ad_4] at f3
  have h3 : v_iv (n_v vs 15) = w_ei ws (w_ar ws (n_v vs 0) 33) (v_iv (n_v vs 2)) := f3
  simp only [ad_3] at f6
  have h6 : v_iv (n_v vs 14) = w_ei ws (w_ar ws (n_v vs 0) 42) (v_iv (n_v vs 13)) := f6
  simp only [ad_9] at f7
  have h7 : v_iv (n_v vs 13) = w_ei ws (w_ar ws (n_v vs 0) 34) (v_iv (n_v vs 1)) := f7
  simp only [ad_4] at f10
  have h10 : v_iv (n_v vs 11) = w_ei ws (w_ar ws (n_v vs 0) 33) (v_iv (n_v vs 1)) := f10
  simp only [ad_9] at f11
  have h11 : v_iv (n_v vs 10) = w_ei ws (w_ar ws (n_v vs 0) 34) (v_iv (n_v vs 2)) := f11
  simp only [ad_4] at f13
  have h13 : v_iv (n_v vs 8) = w_ei ws (w_ar ws (n_v vs 0) 33) (v_iv (n_v vs 1)) := f13
  simp only [ad_4] at f14
  have h14 : v_iv (n_v vs 7) = w_ei ws (w_ar ws (n_v vs 0) 33) (v_iv (n_v vs 2)) := f14
  simp only [ad_3] at f16
  have h16 : v_iv (n_v vs 6) = w_ei ws (w_ar ws (n_v vs 0) 42) (v_iv (n_v vs 5)) := f16
  simp only [ad_4] at f17
  have h17 : v_iv (n_v vs 5) = w_ei ws (w_ar ws (n_v vs 0) 33) (v_iv (n_v vs 1)) := f17
  have hK_0_33 := elq_60 hD hth cr_0_33
  have hK_0_34 := elq_61 hD hth cr_0_34
  have hK_0_42 := elq_75 hD hth cr_0_42
  have nf0 : fc_1 PRD (20, [0, 1, 2, 18], [60, 0, 3, 98, 33, 34, 42]) ws (vs) := ⟨nf_in hl rfl, sgq_729 (vc_Mo_shareNew_13_0 (v_iv (n_v vs 1)) (v_iv (n_v vs 2)) (v_iv (n_v vs 5)) (v_iv (n_v vs 6)) (v_iv (n_v vs 7)) (v_iv (n_v vs 8)) (v_iv (n_v vs 10)) (v_iv (n_v vs 11)) (v_iv (n_v vs 13)) (v_iv (n_v vs 14)) (v_iv (n_v vs 15)) (v_iv (n_v vs 16)) (v_iv (n_v vs 18)) (w_ei ws (w_ar ws (n_v vs 0) 34)) (w_ei ws (w_ar ws (n_v vs 0) 33)) (w_ei ws (w_ar ws (n_v vs 0) 42)) k1 k2 k5 k6 k7 k8 k10 k11 k13 k14 k15 k16 k18 d0 d1 (shm_37 f0) h1 h3 (shm_192 f5) h6 h7 (shm_37 f9) h10 h11 (shm_40 f12) h13 h14 (shm_192 f15) h16 h17 hK_0_33 hK_0_34 hK_0_42)⟩
  refine ⟨(fun _ h => (by cases h)), [], trivial, ?_, (fun _ h => (by cases h))⟩
  rw [List.append_nil]
  exact List.forall_mem_cons.mpr ⟨⟨show (20 : Nat) < 100 from by decide, nf0⟩, (fun _ h => (by cases h))⟩
set_option maxHeartbeats 4000000 in
theorem vc_Mo_shareNew_14_0 (x1 : Int) (x2 : Int) (x5 : Int) (x6 : Int) (x7 : Int) (x8 : Int) (x10 : Int) (x11 : Int) (x13 : Int) (x14 : Int) (x15 : Int) (x16 : Int) (x17 : Int) (x18 : Int) (x20 : Int) (ph_0 : Int → Int) (pt_0 : Int → Int) (drawnNode_0 : Int → Int) (k1 : 0 ≤ x1 ∧ x1 ≤ 79) (k2 : 0 ≤ x2 ∧ x2 ≤ 79) (k5 : 0 ≤ x5 ∧ x5 ≤ 24) (k6 : 0 ≤ x6 ∧ x6 ≤ 0) (k7 : 0 ≤ x7 ∧ x7 ≤ 24) (k8 : 0 ≤ x8 ∧ x8 ≤ 24) (k10 : 0 ≤ x10 ∧ x10 ≤ 24) (k11 : 0 ≤ x11 ∧ x11 ≤ 24) (k13 : 0 ≤ x13 ∧ x13 ≤ 24) (k14 : 0 ≤ x14 ∧ x14 ≤ 0) (k15 : 0 ≤ x15 ∧ x15 ≤ 24) (k16 : 0 ≤ x16 ∧ x16 ≤ 24) (k17 : 0 ≤ x17 ∧ x17 ≤ 24) (k18 : 0 ≤ x18 ∧ x18 ≤ 24) (k20 : 1 ≤ x20 ∧ x20 ≤ 1) (d0 : x11 + 0 ≤ x10 ∧ x10 ≤ x11 + 0) (f0 : x17 ≠ x18) (h1 : x18 = ph_0 (x1)) (h3 : x17 = ph_0 (x2)) (f4 : x15 ≠ x16) (h5 : x16 = ph_0 (x1)) (h6 : x15 = pt_0 (x2)) (f8 : x14 = 0) (h9 : x14 = drawnNode_0 (x13)) (h10 : x13 = ph_0 (x1)) (f12 : x10 = x11) (h13 : x11 = pt_0 (x1)) (h14 : x10 = ph_0 (x2)) (f15 : x7 ≠ x8) (h16 : x8 = pt_0 (x1)) (h17 : x7 = pt_0 (x2)) (f18 : x6 = 0) (h19 : x6 = drawnNode_0 (x5)) (h20 : x5 = pt_0 (x1)) (hK_0_33 : ∀ j : Int, 0 ≤ j → j < 80 → 0 ≤ pt_0 j ∧ pt_0 j ≤ 24) (hK_0_34 : ∀ j : Int, 0 ≤ j → j < 80 → 0 ≤ ph_0 j ∧ ph_0 j ≤ 24) (hK_0_42 : ∀ j : Int, 0 ≤ j → j < 26 → 0 ≤ drawnNode_0 j ∧ drawnNode_0 j ≤ 1) : SHN (pt_0) (ph_0) (drawnNode_0) (x1) (x2) (x20) := by
  first | subst h1 | skip
  first | subst h3 | skip
  first | subst h5 | skip
  first | subst h6 | skip
  first | subst h9 | skip
  first | subst h10 | skip
  first | subst h13 | skip
  first | subst h14 | skip
  first | subst h16 | skip
  first | subst h17 | skip
  first | subst h19 | skip
  first | subst h20 | skip
  unfold SHN shn
  constructor
  · intro h
    first
      | (exfalso; omega)
      | exact Or.inl ⟨by omega, Or.inl (by omega)⟩
      | exact Or.inl ⟨by omega, Or.inr (by omega)⟩
      | exact Or.inr ⟨by omega, Or.inl (by omega)⟩
      | exact Or.inr ⟨by omega, Or.inr (by omega)⟩
  · intro h
    first
      | omega
      | (rcases h with ⟨a, b | b⟩ | ⟨a, b | b⟩ <;> exfalso <;> omega)
def o_Mo_shareNew_14 : or_T := (115, 21, [(0, (2, 0, 0, [165])), (1, (0, 0, 79, [])), (2, (0, 0, 79, [])), (3, (2, 0, 0, [188])), (4, (2, 0, 0, [180])), (5, (0, 0, 24, [])), (6, (0, 0, 0, [])), (7, (0, 0, 24, [])), (8, (0, 0, 24, [])), (9, (2, 0, 0, [181])), (10, (0, 0, 24, [])), (11, (0, 0, 24, [])), (13, (0, 0, 24, [])), (14, (0, 0, 0, [])), (15, (0, 0, 24, [])), (16, (0, 0, 24, [])), (17, (0, 0, 24, [])), (18, (0, 0, 24, [])), (20, (0, 1, 1, []))], [(7, [17, 18], [1]), (10, [18, 9, 1], []), (9, [9, 0], [34]), (10, [17, 9, 2], []), (7, [15, 16], [1]), (10, [16, 9, 1], []), (10, [15, 4, 2], []), (9, [4, 0], [33]), (8, [14], [0]), (10, [14, 3, 13], []), (10, [13, 9, 1], []), (9, [3, 0], [42]), (7, [10, 11], [0]), (10, [11, 4, 1], []), (10, [10, 9, 2], []), (7, [7, 8], [1]), (10, [8, 4, 1], []), (10, [7, 4, 2], []), (8, [6], [0]), (10, [6, 3, 5], []), (10, [5, 4, 1], [])], [], [], [(20, [0, 1, 2, 20], [60, 0, 3, 98, 33, 34, 42])], [], [(10, 11, 0, 0)])
theorem oo_Mo_shareNew_14 {kA : Nat → ClassId} : or_ok PRD kA GG o_Mo_shareNew_14 := by
  refine or_mk fun A ta ws vs hD hth hl => ?_
  intro t0 r0 t1 k1 t2 k2 t3 r3 t4 r4 t5 k5 t6 k6 t7 k7 t8 k8 t9 r9 t10 k10 t11 k11 t13 k13 t14 k14 t15 k15 t16 k16 t17 k17 t18 k18 t20 k20 d0 f0 f1 f2 f3 f4 f5 f6 f7 f8 f9 f10 f11 f12 f13 f14 f15 f16 f17 f18 f19 f20
  replace f1 := shm_107 f1
  replace f2 := shm_496 f2
  replace f3 := shm_107 f3
  replace f5 := shm_107 f5
  replace f6 := shm_107 f6
  replace f7 := shm_494 f7
  replace f9 := shm_107 f9
  replace f10 := shm_107 f10
  replace f11 := shm_531 f11
  replace f13 := shm_107 f13
  replace f14 := shm_107 f14
  replace f16 := shm_107 f16
  replace f17 := shm_107 f17
  replace f19 := shm_107 f19
  replace f20 := shm_107 f20
  have cr_0_33 := fdq_117 hD hth r0
  have cr_0_34 := fdq_118 hD hth r0
  have cr_0_42 := fdq_136 hD hth r0
  have ad_9 : v_ad (n_v vs 9) = w_ar ws (n_v vs 0) 34 := congrArg v_ad f2
  have ad_4 : v_ad (n_v vs 4) = w_ar ws (n_v vs 0) 33 := congrArg v_ad f7
  have ad_3 : v_ad (n_v vs 3) = w_ar ws (n_v vs 0) 42 := congrArg v_ad f11
  simp only [ad_9] at f1
  have h1 : v_iv (n_v vs 18) = w_ei ws (w_ar ws (n_v vs 0) 34) (v_iv (n_v vs 1)) := f1
  simp only [ad_9] at f3
  have h3 : v_iv (n_v vs 17) = w_ei ws (w_ar ws (n_v vs 0) 34) (v_iv (n_v vs 2)) := f3
  simp only [ad_9] at f5
  have h5 : v_iv (n_v vs 16) = w_ei ws (w_ar ws (n_v vs 0) 34) (v_iv (n_v vs 1)) := f5
  simp only [ad_4] at f6
  have h6 : v_iv (n_v vs 15) = w_ei ws (w_ar ws (n_v vs 0) 33) (v_iv (n_v vs 2)) := f6
  simp only [ad_3] at f9
  have h9 : v_iv (n_v vs 14) = w_ei ws (w_ar ws (n_v vs 0) 42) (v_iv (n_v vs 13)) := f9
  simp only [ad_9] at f10
  have h10 : v_iv (n_v vs 13) = w_ei ws (w_ar ws (n_v vs 0) 34) (v_iv (n_v vs 1)) := f10
  simp only [ad_4] at f13
  have h13 : v_iv (n_v vs 11) = w_ei ws (w_ar ws (n_v vs 0) 33) (v_iv (n_v vs 1)) := f13
  simp only [ad_9] at f14
  have h14 : v_iv (n_v vs 10) = w_ei ws (w_ar ws (n_v vs 0) 34) (v_iv (n_v vs 2)) := f14
  simp only [ad_4] at f16
  have h16 : v_iv (n_v vs 8) = w_ei ws (w_ar ws (n_v vs 0) 33) (v_iv (n_v vs 1)) := f16
  simp only [ad_4] at f17
  have h17 : v_iv (n_v vs 7) = w_ei ws (w_ar ws (n_v vs 0) 33) (v_iv (n_v vs 2)) := f17
  simp only [ad_3] at f19
  have h19 : v_iv (n_v vs 6) = w_ei ws (w_ar ws (n_v vs 0) 42) (v_iv (n_v vs 5)) := f19
  simp only [ad_4] at f20
  have h20 : v_iv (n_v vs 5) = w_ei ws (w_ar ws (n_v vs 0) 33) (v_iv (n_v vs 1)) := f20
  have hK_0_33 := elq_60 hD hth cr_0_33
  have hK_0_34 := elq_61 hD hth cr_0_34
  have hK_0_42 := elq_75 hD hth cr_0_42
  have nf0 : fc_1 PRD (20, [0, 1, 2, 20], [60, 0, 3, 98, 33, 34, 42]) ws (vs) := ⟨nf_in hl rfl, sgq_729 (vc_Mo_shareNew_14_0 (v_iv (n_v vs 1)) (v_iv (n_v vs 2)) (v_iv (n_v vs 5)) (v_iv (n_v vs 6)) (v_iv (n_v vs 7)) (v_iv (n_v vs 8)) (v_iv (n_v vs 10)) (v_iv (n_v vs 11)) (v_iv (n_v vs 13)) (v_iv (n_v vs 14)) (v_iv (n_v vs 15)) (v_iv (n_v vs 16)) (v_iv (n_v vs 17)) (v_iv (n_v vs 18)) (v_iv (n_v vs 20)) (w_ei ws (w_ar ws (n_v vs 0) 34)) (w_ei ws (w_ar ws (n_v vs 0) 33)) (w_ei ws (w_ar ws (n_v vs 0) 42)) k1 k2 k5 k6 k7 k8 k10 k11 k13 k14 k15 k16 k17 k18 k20 d0 (shm_40 f0) h1 h3 (shm_40 f4) h5 h6 (shm_192 f8) h9 h10 (shm_37 f12) h13 h14 (shm_40 f15) h16 h17 (shm_192 f18) h19 h20 hK_0_33 hK_0_34 hK_0_42)⟩
  refine ⟨(fun _ h => (by cases h)), [], trivial, ?_, (fun _ h => (by cases h))⟩
  rw [List.append_nil]
  exact List.forall_mem_cons.mpr ⟨⟨show (20 : Nat) < 100 from by decide, nf0⟩, (fun _ h => (by cases h))⟩
set_option maxHeartbeats 4000000 in
theorem vc_Mo_shareNew_15_0 (x1 : Int) (x2 : Int) (x5 : Int) (x6 : Int) (x7 : Int) (x8 : Int) (x10 : Int) (x11 : Int) (x13 : Int) (x14 : Int) (x15 : Int) (x16 : Int) (x17 : Int) (x18 : Int) (x20 : Int) (ph_0 : Int → Int) (pt_0 : Int → Int) (drawnNode_0 : Int → Int) (k1 : 0 ≤ x1 ∧ x1 ≤ 79) (k2 : 0 ≤ x2 ∧ x2 ≤ 79) (k5 : 0 ≤ x5 ∧ x5 ≤ 24) (k6 : 0 ≤ x6 ∧ x6 ≤ 0) (k7 : 0 ≤ x7 ∧ x7 ≤ 24) (k8 : 0 ≤ x8 ∧ x8 ≤ 24) (k10 : 0 ≤ x10 ∧ x10 ≤ 24) (k11 : 0 ≤ x11 ∧ x11 ≤ 24) (k13 : 0 ≤ x13 ∧ x13 ≤ 24) (k14 : 0 ≤ x14 ∧ x14 ≤ 0) (k15 : 0 ≤ x15 ∧ x15 ≤ 24) (k16 : 0 ≤ x16 ∧ x16 ≤ 24) (k17 : 0 ≤ x17 ∧ x17 ≤ 24) (k18 : 0 ≤ x18 ∧ x18 ≤ 24) (k20 : 1 ≤ x20 ∧ x20 ≤ 1) (d0 : x18 + 0 ≤ x17 ∧ x17 ≤ x18 + 0) (d1 : x11 + 0 ≤ x10 ∧ x10 ≤ x11 + 0) (f0 : x17 = x18) (h1 : x18 = ph_0 (x1)) (h3 : x17 = ph_0 (x2)) (f4 : x15 ≠ x16) (h5 : x16 = ph_0 (x1)) (h6 : x15 = pt_0 (x2)) (f8 : x14 = 0) (h9 : x14 = drawnNode_0 (x13)) (h10 : x13 = ph_0 (x1)) (f12 : x10 = x11) (h13 : x11 = pt_0 (x1)) (h14 : x10 = ph_0 (x2)) (f15 : x7 ≠ x8) (h16 : x8 = pt_0 (x1)) (h17 : x7 = pt_0 (x2)) (f18 : x6 = 0) (h19 : x6 = drawnNode_0 (x5)) (h20 : x5 = pt_0 (x1)) (hK_0_33 : ∀ j : Int, 0 ≤ j → j < 80 → 0 ≤ pt_0 j ∧ pt_0 j ≤ 24) (hK_0_34 : ∀ j : Int, 0 ≤ j → j < 80 → 0 ≤ ph_0 j ∧ ph_0 j ≤ 24) (hK_0_42 : ∀ j : Int, 0 ≤ j → j < 26 → 0 ≤ drawnNode_0 j ∧ drawnNode_0 j ≤ 1) : SHN (pt_0) (ph_0) (drawnNode_0) (x1) (x2) (x20) := by
  first | subst h1 | skip
  first | subst h3 | skip
  first | subst h5 | skip
  first | subst h6 | skip
  first | subst h9 | skip
  first | subst h10 | skip
  first | subst h13 | skip
  first | subst h14 | skip
  first | subst h16 | skip
  first | subst h17 | skip
  first | subst h19 | skip
  first | subst h20 | skip
  unfold SHN shn
  constructor
  · intro h
    first
      | (exfalso; omega)
      | exact Or.inl ⟨by omega, Or.inl (by omega)⟩
      | exact Or.inl ⟨by omega, Or.inr (by omega)⟩
      | exact Or.inr ⟨by omega, Or.inl (by omega)⟩
      | exact Or.inr ⟨by omega, Or.inr (by omega)⟩
  · intro h
    first
      | omega
      | (rcases h with ⟨a, b | b⟩ | ⟨a, b | b⟩ <;> exfalso <;> omega)
def o_Mo_shareNew_15 : or_T := (115, 21, [(0, (2, 0, 0, [165])), (1, (0, 0, 79, [])), (2, (0, 0, 79, [])), (3, (2, 0, 0, [188])), (4, (2, 0, 0, [180])), (5, (0, 0, 24, [])), (6, (0, 0, 0, [])), (7, (0, 0, 24, [])), (8, (0, 0, 24, [])), (9, (2, 0, 0, [181])), (10, (0, 0, 24, [])), (11, (0, 0, 24, [])), (13, (0, 0, 24, [])), (14, (0, 0, 0, [])), (15, (0, 0, 24, [])), (16, (0, 0, 24, [])), (17, (0, 0, 24, [])), (18, (0, 0, 24, [])), (20, (0, 1, 1, []))], [(7, [17, 18], [0]), (10, [18, 9, 1], []), (9, [9, 0], [34]), (10, [17, 9, 2], []), (7, [15, 16], [1]), (10, [16, 9, 1], []), (10, [15, 4, 2], []), (9, [4, 0], [33]), (8, [14], [0]), (10, [14, 3, 13], []), (10, [13, 9, 1], []), (9, [3, 0], [42]), (7, [10, 11], [0]), (10, [11, 4, 1], []), (10, [10, 9, 2], []), (7, [7, 8], [1]), (10, [8, 4, 1], []), (10, [7, 4, 2], []), (8, [6], [0]), (10, [6, 3, 5], []), (10, [5, 4, 1], [])], [], [], [(20, [0, 1, 2, 20], [60, 0, 3, 98, 33, 34, 42])], [], [(17, 18, 0, 0), (10, 11, 0, 0)])
theorem oo_Mo_shareNew_15 {kA : Nat → ClassId} : or_ok PRD kA GG o_Mo_shareNew_15 := by
  refine or_mk fun A ta ws vs hD hth hl => ?_
  intro t0 r0 t1 k1 t2 k2 t3 r3 t4 r4 t5 k5 t6 k6 t7 k7 t8 k8 t9 r9 t10 k10 t11 k11 t13 k13 t14 k14 t15 k15 t16 k16 t17 k17 t18 k18 t20 k20 d0 d1 f0 f1 f2 f3 f4 f5 f6 f7 f8 f9 f10 f11 f12 f13 f14 f15 f16 f17 f18 f19 f20
  replace f1 := shm_107 f1
  replace f2 := shm_496 f2
  replace f3 := shm_107 f3
  replace f5 := shm_107 f5
  replace f6 := shm_107 f6
  replace f7 := shm_494 f7
  replace f9 := shm_107 f9
  replace f10 := shm_107 f10
  replace f11 := shm_531 f11
  replace f13 := shm_107 f13
  replace f14 := shm_107 f14
  replace f16 := shm_107 f16
  replace f17 := shm_107 f17
  replace f19 := shm_107 f19
  replace f20 := shm_107 f20
  have cr_0_33 := fdq_117 hD hth r0
  have cr_0_34 := fdq_118 hD hth r0
  have cr_0_42 := fdq_136 hD hth r0
  have ad_9 : v_ad (n_v vs 9) = w_ar ws (n_v vs 0) 34 := congrArg v_ad f2
  have ad_4 : v_ad (n_v vs 4) = w_ar ws (n_v vs 0) 33 := congrArg v_ad f7
  have ad_3 : v_ad (n_v vs 3) = w_ar ws (n_v vs 0) 42 := congrArg v_ad f11
  simp only [ad_9] at f1
  have h1 : v_iv (n_v vs 18) = w_ei ws (w_ar ws (n_v vs 0) 34) (v_iv (n_v vs 1)) := f1
  simp only [ad_9] at f3
  have h3 : v_iv (n_v vs 17) = w_ei ws (w_ar ws (n_v vs 0) 34) (v_iv (n_v vs 2)) := f3
  simp only [ad_9] at f5
  have h5 : v_iv (n_v vs 16) = w_ei ws (w_ar ws (n_v vs 0) 34) (v_iv (n_v vs 1)) := f5
  simp only [ad_4] at f6
  have h6 : v_iv (n_v vs 15) = w_ei ws (w_ar ws (n_v vs 0) 33) (v_iv (n_v vs 2)) := f6
  simp only [ad_3] at f9
  have h9 : v_iv (n_v vs 14) = w_ei ws (w_ar ws (n_v vs 0) 42) (v_iv (n_v vs 13)) := f9
  simp only [ad_9] at f10
  have h10 : v_iv (n_v vs 13) = w_ei ws (w_ar ws (n_v vs 0) 34) (v_iv (n_v vs 1)) := f10
  simp only [ad_4] at f13
  have h13 : v_iv (n_v vs 11) = w_ei ws (w_ar ws (n_v vs 0) 33) (v_iv (n_v vs 1)) := f13
  simp only [ad_9] at f14
  have h14 : v_iv (n_v vs 10) = w_ei ws (w_ar ws (n_v vs 0) 34) (v_iv (n_v vs 2)) := f14
  simp only [ad_4] at f16
  have h16 : v_iv (n_v vs 8) = w_ei ws (w_ar ws (n_v vs 0) 33) (v_iv (n_v vs 1)) := f16
  simp only [ad_4] at f17
  have h17 : v_iv (n_v vs 7) = w_ei ws (w_ar ws (n_v vs 0) 33) (v_iv (n_v vs 2)) := f17
  simp only [ad_3] at f19
  have h19 : v_iv (n_v vs 6) = w_ei ws (w_ar ws (n_v vs 0) 42) (v_iv (n_v vs 5)) := f19
  simp only [ad_4] at f20
  have h20 : v_iv (n_v vs 5) = w_ei ws (w_ar ws (n_v vs 0) 33) (v_iv (n_v vs 1)) := f20
  have hK_0_33 := elq_60 hD hth cr_0_33
  have hK_0_34 := elq_61 hD hth cr_0_34
  have hK_0_42 := elq_75 hD hth cr_0_42
  have nf0 : fc_1 PRD (20, [0, 1, 2, 20], [60, 0, 3, 98, 33, 34, 42]) ws (vs) := ⟨nf_in hl rfl, sgq_729 (vc_Mo_shareNew_15_0 (v_iv (n_v vs 1)) (v_iv (n_v vs 2)) (v_iv (n_v vs 5)) (v_iv (n_v vs 6)) (v_iv (n_v vs 7)) (v_iv (n_v vs 8)) (v_iv (n_v vs 10)) (v_iv (n_v vs 11)) (v_iv (n_v vs 13)) (v_iv (n_v vs 14)) (v_iv (n_v vs 15)) (v_iv (n_v vs 16)) (v_iv (n_v vs 17)) (v_iv (n_v vs 18)) (v_iv (n_v vs 20)) (w_ei ws (w_ar ws (n_v vs 0) 34)) (w_ei ws (w_ar ws (n_v vs 0) 33)) (w_ei ws (w_ar ws (n_v vs 0) 42)) k1 k2 k5 k6 k7 k8 k10 k11 k13 k14 k15 k16 k17 k18 k20 d0 d1 (shm_37 f0) h1 h3 (shm_40 f4) h5 h6 (shm_192 f8) h9 h10 (shm_37 f12) h13 h14 (shm_40 f15) h16 h17 (shm_192 f18) h19 h20 hK_0_33 hK_0_34 hK_0_42)⟩
  refine ⟨(fun _ h => (by cases h)), [], trivial, ?_, (fun _ h => (by cases h))⟩
  rw [List.append_nil]
  exact List.forall_mem_cons.mpr ⟨⟨show (20 : Nat) < 100 from by decide, nf0⟩, (fun _ h => (by cases h))⟩
def n_Mo_shareNew_an : List an_T := []
def t_Mo_shareNew_ct : ct_L := []
set_option maxRecDepth 100000 in
theorem c_Mo_shareNew {l : Launch} {D : va_G} {kA : Nat → ClassId} : ct_ok PRD l D kA GG y_Mo_shareNew z_Mo_shareNew e_Mo_shareNew := chk_all_ok (FT := [(57, 13, 33), (60, 13, 34), (81, 13, 42)]) (PT := []) (CT := t_Mo_shareNew_ct) (KT := []) (NT := []) (AN := n_Mo_shareNew_an) (OT := [o_Mo_shareNew_0, o_Mo_shareNew_1, o_Mo_shareNew_2, o_Mo_shareNew_3, o_Mo_shareNew_4, o_Mo_shareNew_5, o_Mo_shareNew_6, o_Mo_shareNew_7, o_Mo_shareNew_8, o_Mo_shareNew_9, o_Mo_shareNew_10, o_Mo_shareNew_11, o_Mo_shareNew_12, o_Mo_shareNew_13, o_Mo_shareNew_14, o_Mo_shareNew_15]) 0 1088 (List.forall_mem_cons.mpr ⟨oo_Mo_shareNew_0, List.forall_mem_cons.mpr ⟨oo_Mo_shareNew_1, List.forall_mem_cons.mpr ⟨oo_Mo_shareNew_2, List.forall_mem_cons.mpr ⟨oo_Mo_shareNew_3, List.forall_mem_cons.mpr ⟨oo_Mo_shareNew_4, List.forall_mem_cons.mpr ⟨oo_Mo_shareNew_5, List.forall_mem_cons.mpr ⟨oo_Mo_shareNew_6, List.forall_mem_cons.mpr ⟨oo_Mo_shareNew_7, List.forall_mem_cons.mpr ⟨oo_Mo_shareNew_8, List.forall_mem_cons.mpr ⟨oo_Mo_shareNew_9, List.forall_mem_cons.mpr ⟨oo_Mo_shareNew_10, List.forall_mem_cons.mpr ⟨oo_Mo_shareNew_11, List.forall_mem_cons.mpr ⟨oo_Mo_shareNew_12, List.forall_mem_cons.mpr ⟨oo_Mo_shareNew_13, List.forall_mem_cons.mpr ⟨oo_Mo_shareNew_14, List.forall_mem_cons.mpr ⟨oo_Mo_shareNew_15, List.forall_mem_nil _⟩⟩⟩⟩⟩⟩⟩⟩⟩⟩⟩⟩⟩⟩⟩⟩) (by decide +kernel) ⟨List.forall_mem_cons.mpr ⟨gf_Mo_57, List.forall_mem_cons.mpr ⟨gf_Mo_60, List.forall_mem_cons.mpr ⟨gf_Mo_81, List.forall_mem_nil _⟩⟩⟩, List.forall_mem_nil _, List.forall_mem_nil _, List.forall_mem_nil _, List.forall_mem_nil _, GG_pl⟩ (by decide +kernel)
set_option maxHeartbeats 4000000 in
theorem vc_Mo_sign_0_0 (x3 : Int) (fault_0 : Int) (kind_0 : Int) (k3 : 0 ≤ x3 ∧ x3 ≤ 0) (kz_0_8 : 0 ≤ fault_0 ∧ fault_0 ≤ 5) (kz_0_12 : 0 ≤ kind_0 ∧ kind_0 ≤ 4) : (x3 = 1) → ((kind_0 = 3) ∧ (fault_0 = 0)) := by
  first | with_reducible assumption | ((try and_intros) <;> first | with_reducible assumption | (omega)) | (intro hG; (try and_intros) <;> first | with_reducible assumption | (clear hG; omega)) | omega
set_option maxHeartbeats 4000000 in
theorem vc_Mo_sign_0_1 (x1 : Int) (x2 : Int) (x3 : Int) (fault_0 : Int) (kind_0 : Int) (value_0 : Int) (k1 : 45 ≤ x1 ∧ x1 ≤ 125) (k2 : 1 ≤ x2 ∧ x2 ≤ 5) (k3 : 0 ≤ x3 ∧ x3 ≤ 0) (g1 : x2 = fault_0) (kz_0_8 : 0 ≤ fault_0 ∧ fault_0 ≤ 5) (kz_0_12 : 0 ≤ kind_0 ∧ kind_0 ≤ 4) (kz_0_14 : (-49) ≤ value_0 ∧ value_0 ≤ 1048575) : SGQ (fault_0) (kind_0) (value_0) (x1) (x3) := by
  first | subst g1 | skip
  first
    | exact Or.inl ⟨by omega, by omega, by omega, by omega⟩
    | exact Or.inr ⟨by omega, fun q => by omega⟩
def o_Mo_sign_0 : or_T := (28, 4, [(0, (2, 0, 0, [165])), (1, (0, 45, 125, [])), (2, (0, 1, 5, [])), (3, (0, 0, 0, []))], [(9, [2, 0], [8])], [], [], [(20, [3, 0], [50, 2, 0, 1012, 1008, 4, 6, 1, 2, 1, 0, 0, 1, 2, 7, 1, 3, 2, 1, 12, 0, 3, 1, 3, 2, 1, 8, 0, 0]), (20, [0, 1, 3], [60, 3, 0, 963, 8, 12, 14])], [], [])
theorem oo_Mo_sign_0 {kA : Nat → ClassId} : or_ok PRD kA GG o_Mo_sign_0 := by
  refine or_mk fun A ta ws vs hD hth hl => ?_
  intro t0 r0 t1 k1 t2 k2 t3 k3 f1
  replace f1 := shm_293 f1
  have g1 : v_iv (n_v vs 2) = w_fi ws (n_v vs 0) 8 := congrArg v_iv f1
  have kz_0_8 := fdq_34 hD hth r0
  have kz_0_12 := fdq_187 hD hth r0
  have kz_0_14 := fdq_188 hD hth r0
  have nf0 : fc_1 PRD (20, [3, 0], [50, 2, 0, 1012, 1008, 4, 6, 1, 2, 1, 0, 0, 1, 2, 7, 1, 3, 2, 1, 12, 0, 3, 1, 3, 2, 1, 8, 0, 0]) ws (vs) := ⟨nf_in hl rfl, sgq_730 (vc_Mo_sign_0_0 (v_iv (n_v vs 3)) (w_fi ws (n_v vs 0) 8) (w_fi ws (n_v vs 0) 12) k3 kz_0_8 kz_0_12)⟩
  have nf1 : fc_1 PRD (20, [0, 1, 3], [60, 3, 0, 963, 8, 12, 14]) ws (vs) := ⟨nf_in hl rfl, sgq_731 (vc_Mo_sign_0_1 (v_iv (n_v vs 1)) (v_iv (n_v vs 2)) (v_iv (n_v vs 3)) (w_fi ws (n_v vs 0) 8) (w_fi ws (n_v vs 0) 12) (w_fi ws (n_v vs 0) 14) k1 k2 k3 g1 kz_0_8 kz_0_12 kz_0_14)⟩
  refine ⟨(fun _ h => (by cases h)), [], trivial, ?_, (fun _ h => (by cases h))⟩
  rw [List.append_nil]
  exact List.forall_mem_cons.mpr ⟨⟨show (20 : Nat) < 100 from by decide, nf0⟩, List.forall_mem_cons.mpr ⟨⟨show (20 : Nat) < 100 from by decide, nf1⟩, (fun _ h => (by cases h))⟩⟩
set_option maxHeartbeats 4000000 in
theorem vc_Mo_sign_1_0 (x5 : Int) (kind_0 : Int) (fault_0 : Int) (k5 : 0 ≤ x5 ∧ x5 ≤ 0) (kz_0_8 : 0 ≤ fault_0 ∧ fault_0 ≤ 5) (kz_0_12 : 0 ≤ kind_0 ∧ kind_0 ≤ 4) : (x5 = 1) → ((kind_0 = 3) ∧ (fault_0 = 0)) := by
  first | with_reducible assumption | ((try and_intros) <;> first | with_reducible assumption | (omega)) | (intro hG; (try and_intros) <;> first | with_reducible assumption | (clear hG; omega)) | omega
set_option maxHeartbeats 4000000 in
theorem vc_Mo_sign_1_1 (x1 : Int) (x2 : Int) (x3 : Int) (x4 : Int) (x5 : Int) (kind_0 : Int) (fault_0 : Int) (value_0 : Int) (k1 : 45 ≤ x1 ∧ x1 ≤ 125) (k2 : 0 ≤ x2 ∧ x2 ≤ 0) (k3 : 0 ≤ x3 ∧ x3 ≤ 4) (k4 : 3 ≤ x4 ∧ x4 ≤ 3) (k5 : 0 ≤ x5 ∧ x5 ≤ 0) (f0 : x3 ≠ x4) (g1 : x3 = kind_0) (g3 : x2 = fault_0) (kz_0_8 : 0 ≤ fault_0 ∧ fault_0 ≤ 5) (kz_0_12 : 0 ≤ kind_0 ∧ kind_0 ≤ 4) (kz_0_14 : (-49) ≤ value_0 ∧ value_0 ≤ 1048575) : SGQ (fault_0) (kind_0) (value_0) (x1) (x5) := by
  first | subst g1 | skip
  first | subst g3 | skip
  first
    | exact Or.inl ⟨by omega, by omega, by omega, by omega⟩
    | exact Or.inr ⟨by omega, fun q => by omega⟩
def o_Mo_sign_1 : or_T := (28, 6, [(0, (2, 0, 0, [165])), (1, (0, 45, 125, [])), (2, (0, 0, 0, [])), (3, (0, 0, 4, [])), (4, (0, 3, 3, [])), (5, (0, 0, 0, []))], [(7, [3, 4], [1]), (9, [3, 0], [12]), (9, [2, 0], [8])], [], [], [(20, [5, 0], [50, 2, 0, 1012, 1008, 4, 6, 1, 2, 1, 0, 0, 1, 2, 7, 1, 3, 2, 1, 12, 0, 3, 1, 3, 2, 1, 8, 0, 0]), (20, [0, 1, 5], [60, 3, 0, 963, 8, 12, 14])], [], [])
theorem oo_Mo_sign_1 {kA : Nat → ClassId} : or_ok PRD kA GG o_Mo_sign_1 := by
  refine or_mk fun A ta ws vs hD hth hl => ?_
  intro t0 r0 t1 k1 t2 k2 t3 k3 t4 k4 t5 k5 f0 f1 f3
  replace f1 := shm_103 f1
  replace f3 := shm_293 f3
  have g1 : v_iv (n_v vs 3) = w_fi ws (n_v vs 0) 12 := congrArg v_iv f1
  have g3 : v_iv (n_v vs 2) = w_fi ws (n_v vs 0) 8 := congrArg v_iv f3
  have kz_0_8 := fdq_34 hD hth r0
  have kz_0_12 := fdq_187 hD hth r0
  have kz_0_14 := fdq_188 hD hth r0
  have nf0 : fc_1 PRD (20, [5, 0], [50, 2, 0, 1012, 1008, 4, 6, 1, 2, 1, 0, 0, 1, 2, 7, 1, 3, 2, 1, 12, 0, 3, 1, 3, 2, 1, 8, 0, 0]) ws (vs) := ⟨nf_in hl rfl, sgq_730 (vc_Mo_sign_1_0 (v_iv (n_v vs 5)) (w_fi ws (n_v vs 0) 12) (w_fi ws (n_v vs 0) 8) k5 kz_0_8 kz_0_12)⟩
  have nf1 : fc_1 PRD (20, [0, 1, 5], [60, 3, 0, 963, 8, 12, 14]) ws (vs) := ⟨nf_in hl rfl, sgq_731 (vc_Mo_sign_1_1 (v_iv (n_v vs 1)) (v_iv (n_v vs 2)) (v_iv (n_v vs 3)) (v_iv (n_v vs 4)) (v_iv (n_v vs 5)) (w_fi ws (n_v vs 0) 12) (w_fi ws (n_v vs 0) 8) (w_fi ws (n_v vs 0) 14) k1 k2 k3 k4 k5 (shm_40 f0) g1 g3 kz_0_8 kz_0_12 kz_0_14)⟩
  refine ⟨(fun _ h => (by cases h)), [], trivial, ?_, (fun _ h => (by cases h))⟩
  rw [List.append_nil]
  exact List.forall_mem_cons.mpr ⟨⟨show (20 : Nat) < 100 from by decide, nf0⟩, List.forall_mem_cons.mpr ⟨⟨show (20 : Nat) < 100 from by decide, nf1⟩, (fun _ h => (by cases h))⟩⟩
set_option maxHeartbeats 4000000 in
theorem vc_Mo_sign_2_0 (x6 : Int) (kind_0 : Int) (fault_0 : Int) (k6 : 0 ≤ x6 ∧ x6 ≤ 0) (kz_0_8 : 0 ≤ fault_0 ∧ fault_0 ≤ 5) (kz_0_12 : 0 ≤ kind_0 ∧ kind_0 ≤ 4) : (x6 = 1) → ((kind_0 = 3) ∧ (fault_0 = 0)) := by
  first | with_reducible assumption | ((try and_intros) <;> first | with_reducible assumption | (omega)) | (intro hG; (try and_intros) <;> first | with_reducible assumption | (clear hG; omega)) | omega
set_option maxHeartbeats 4000000 in
theorem vc_Mo_sign_2_1 (x1 : Int) (x2 : Int) (x3 : Int) (x5 : Int) (x6 : Int) (value_0 : Int) (kind_0 : Int) (fault_0 : Int) (k1 : 45 ≤ x1 ∧ x1 ≤ 125) (k2 : 0 ≤ x2 ∧ x2 ≤ 0) (k3 : 3 ≤ x3 ∧ x3 ≤ 3) (k5 : (-49) ≤ x5 ∧ x5 ≤ 1048575) (k6 : 0 ≤ x6 ∧ x6 ≤ 0) (f0 : x5 ≠ x1) (g1 : x5 = value_0) (g3 : x3 = kind_0) (g5 : x2 = fault_0) (kz_0_8 : 0 ≤ fault_0 ∧ fault_0 ≤ 5) (kz_0_12 : 0 ≤ kind_0 ∧ kind_0 ≤ 4) (kz_0_14 : (-49) ≤ value_0 ∧ value_0 ≤ 1048575) : SGQ (fault_0) (kind_0) (value_0) (x1) (x6) := by
  first | subst g1 | skip
  first | subst g3 | skip
  first | subst g5 | skip
  first
    | exact Or.inl ⟨by omega, by omega, by omega, by omega⟩
    | exact Or.inr ⟨by omega, fun q => by omega⟩
def o_Mo_sign_2 : or_T := (28, 7, [(0, (2, 0, 0, [165])), (1, (0, 45, 125, [])), (2, (0, 0, 0, [])), (3, (0, 3, 3, [])), (4, (0, 3, 3, [])), (5, (0, -49, 1048575, [])), (6, (0, 0, 0, []))], [(7, [5, 1], [1]), (9, [5, 0], [14]), (7, [3, 4], [0]), (9, [3, 0], [12]), (8, [2], [0]), (9, [2, 0], [8])], [], [], [(20, [6, 0], [50, 2, 0, 1012, 1008, 4, 6, 1, 2, 1, 0, 0, 1, 2, 7, 1, 3, 2, 1, 12, 0, 3, 1, 3, 2, 1, 8, 0, 0]), (20, [0, 1, 6], [60, 3, 0, 963, 8, 12, 14])], [], [])
theorem oo_Mo_sign_2 {kA : Nat → ClassId} : or_ok PRD kA GG o_Mo_sign_2 := by
  refine or_mk fun A ta ws vs hD hth hl => ?_
  intro t0 r0 t1 k1 t2 k2 t3 k3 t4 k4 t5 k5 t6 k6 f0 f1 f2 f3 f4 f5
  replace f1 := shm_115 f1
  replace f3 := shm_103 f3
  replace f5 := shm_293 f5
  have g1 : v_iv (n_v vs 5) = w_fi ws (n_v vs 0) 14 := congrArg v_iv f1
  have g3 : v_iv (n_v vs 3) = w_fi ws (n_v vs 0) 12 := congrArg v_iv f3
  have g5 : v_iv (n_v vs 2) = w_fi ws (n_v vs 0) 8 := congrArg v_iv f5
  have kz_0_8 := fdq_34 hD hth r0
  have kz_0_12 := fdq_187 hD hth r0
  have kz_0_14 := fdq_188 hD hth r0
  have nf0 : fc_1 PRD (20, [6, 0], [50, 2, 0, 1012, 1008, 4, 6, 1, 2, 1, 0, 0, 1, 2, 7, 1, 3, 2, 1, 12, 0, 3, 1, 3, 2, 1, 8, 0, 0]) ws (vs) := ⟨nf_in hl rfl, sgq_730 (vc_Mo_sign_2_0 (v_iv (n_v vs 6)) (w_fi ws (n_v vs 0) 12) (w_fi ws (n_v vs 0) 8) k6 kz_0_8 kz_0_12)⟩
  have nf1 : fc_1 PRD (20, [0, 1, 6], [60, 3, 0, 963, 8, 12, 14]) ws (vs) := ⟨nf_in hl rfl, sgq_731 (vc_Mo_sign_2_1 (v_iv (n_v vs 1)) (v_iv (n_v vs 2)) (v_iv (n_v vs 3)) (v_iv (n_v vs 5)) (v_iv (n_v vs 6)) (w_fi ws (n_v vs 0) 14) (w_fi ws (n_v vs 0) 12) (w_fi ws (n_v vs 0) 8) k1 k2 k3 k5 k6 (shm_40 f0) g1 g3 g5 kz_0_8 kz_0_12 kz_0_14)⟩
  refine ⟨(fun _ h => (by cases h)), [], trivial, ?_, (fun _ h => (by cases h))⟩
  rw [List.append_nil]
  exact List.forall_mem_cons.mpr ⟨⟨show (20 : Nat) < 100 from by decide, nf0⟩, List.forall_mem_cons.mpr ⟨⟨show (20 : Nat) < 100 from by decide, nf1⟩, (fun _ h => (by cases h))⟩⟩
set_option maxHeartbeats 4000000 in
theorem vc_Mo_sign_3_0 (x2 : Int) (x3 : Int) (x6 : Int) (kind_0 : Int) (fault_0 : Int) (k2 : 0 ≤ x2 ∧ x2 ≤ 0) (k3 : 3 ≤ x3 ∧ x3 ≤ 3) (k6 : 1 ≤ x6 ∧ x6 ≤ 1) (g3 : x3 = kind_0) (g5 : x2 = fault_0) (kz_0_8 : 0 ≤ fault_0 ∧ fault_0 ≤ 5) (kz_0_12 : 0 ≤ kind_0 ∧ kind_0 ≤ 4) : (x6 = 1) → ((kind_0 = 3) ∧ (fault_0 = 0)) := by
  first | with_reducible assumption | ((try and_intros) <;> first | with_reducible assumption | (omega)) | (intro hG; (try and_intros) <;> first | with_reducible assumption | (clear hG; omega)) | omega
set_option maxHeartbeats 4000000 in
theorem vc_Mo_sign_3_1 (x1 : Int) (x2 : Int) (x3 : Int) (x5 : Int) (x6 : Int) (value_0 : Int) (kind_0 : Int) (fault_0 : Int) (k1 : 45 ≤ x1 ∧ x1 ≤ 125) (k2 : 0 ≤ x2 ∧ x2 ≤ 0) (k3 : 3 ≤ x3 ∧ x3 ≤ 3) (k5 : 45 ≤ x5 ∧ x5 ≤ 125) (k6 : 1 ≤ x6 ∧ x6 ≤ 1) (f0 : x5 = x1) (g1 : x5 = value_0) (g3 : x3 = kind_0) (f4 : x2 = 0) (g5 : x2 = fault_0) (kz_0_8 : 0 ≤ fault_0 ∧ fault_0 ≤ 5) (kz_0_12 : 0 ≤ kind_0 ∧ kind_0 ≤ 4) (kz_0_14 : (-49) ≤ value_0 ∧ value_0 ≤ 1048575) : SGQ (fault_0) (kind_0) (value_0) (x1) (x6) := by
  first | subst g1 | skip
  first | subst g3 | skip
  first | subst g5 | skip
  first
    | exact Or.inl ⟨by omega, by omega, by omega, by omega⟩
    | exact Or.inr ⟨by omega, fun q => by omega⟩
def o_Mo_sign_3 : or_T := (28, 7, [(0, (2, 0, 0, [165])), (1, (0, 45, 125, [])), (2, (0, 0, 0, [])), (3, (0, 3, 3, [])), (4, (0, 3, 3, [])), (5, (0, 45, 125, [])), (6, (0, 1, 1, []))], [(7, [5, 1], [0]), (9, [5, 0], [14]), (7, [3, 4], [0]), (9, [3, 0], [12]), (8, [2], [0]), (9, [2, 0], [8])], [], [], [(20, [6, 0], [50, 2, 0, 1012, 1008, 4, 6, 1, 2, 1, 0, 0, 1, 2, 7, 1, 3, 2, 1, 12, 0, 3, 1, 3, 2, 1, 8, 0, 0]), (20, [0, 1, 6], [60, 3, 0, 963, 8, 12, 14])], [], [(5, 1, 0, 0)])
theorem oo_Mo_sign_3 {kA : Nat → ClassId} : or_ok PRD kA GG o_Mo_sign_3 := by
  refine or_mk fun A ta ws vs hD hth hl => ?_
  intro t0 r0 t1 k1 t2 k2 t3 k3 t4 k4 t5 k5 t6 k6 d0 f0 f1 f2 f3 f4 f5
  replace f1 := shm_115 f1
  replace f3 := shm_103 f3
  replace f5 := shm_293 f5
  have g1 : v_iv (n_v vs 5) = w_fi ws (n_v vs 0) 14 := congrArg v_iv f1
  have g3 : v_iv (n_v vs 3) = w_fi ws (n_v vs 0) 12 := congrArg v_iv f3
  have g5 : v_iv (n_v vs 2) = w_fi ws (n_v vs 0) 8 := congrArg v_iv f5
  have kz_0_8 := fdq_34 hD hth r0
  have kz_0_12 := fdq_187 hD hth r0
  have kz_0_14 := fdq_188 hD hth r0
  have nf0 : fc_1 PRD (20, [6, 0], [50, 2, 0, 1012, 1008, 4, 6, 1, 2, 1, 0, 0, 1, 2, 7, 1, 3, 2, 1, 12, 0, 3, 1, 3, 2, 1, 8, 0, 0]) ws (vs) := ⟨nf_in hl rfl, sgq_730 (vc_Mo_sign_3_0 (v_iv (n_v vs 2)) (v_iv (n_v vs 3)) (v_iv (n_v vs 6)) (w_fi ws (n_v vs 0) 12) (w_fi ws (n_v vs 0) 8) k2 k3 k6 g3 g5 kz_0_8 kz_0_12)⟩
  have nf1 : fc_1 PRD (20, [0, 1, 6], [60, 3, 0, 963, 8, 12, 14]) ws (vs) := ⟨nf_in hl rfl, sgq_731 (vc_Mo_sign_3_1 (v_iv (n_v vs 1)) (v_iv (n_v vs 2)) (v_iv (n_v vs 3)) (v_iv (n_v vs 5)) (v_iv (n_v vs 6)) (w_fi ws (n_v vs 0) 14) (w_fi ws (n_v vs 0) 12) (w_fi ws (n_v vs 0) 8) k1 k2 k3 k5 k6 (shm_37 f0) g1 g3 (shm_192 f4) g5 kz_0_8 kz_0_12 kz_0_14)⟩
  refine ⟨(fun _ h => (by cases h)), [], trivial, ?_, (fun _ h => (by cases h))⟩
  rw [List.append_nil]
  exact List.forall_mem_cons.mpr ⟨⟨show (20 : Nat) < 100 from by decide, nf0⟩, List.forall_mem_cons.mpr ⟨⟨show (20 : Nat) < 100 from by decide, nf1⟩, (fun _ h => (by cases h))⟩⟩
def n_Mo_sign_an : List an_T := []
def t_Mo_sign_ct : ct_L := []
set_option maxRecDepth 100000 in
theorem c_Mo_sign {l : Launch} {D : va_G} {kA : Nat → ClassId} : ct_ok PRD l D kA GG y_Mo_sign z_Mo_sign e_Mo_sign := chk_all_ok (FT := [(413, 13, 8), (434, 13, 12), (437, 13, 14)]) (PT := []) (CT := t_Mo_sign_ct) (KT := []) (NT := []) (AN := n_Mo_sign_an) (OT := [o_Mo_sign_0, o_Mo_sign_1, o_Mo_sign_2, o_Mo_sign_3]) 0 200 (List.forall_mem_cons.mpr ⟨oo_Mo_sign_0, List.forall_mem_cons.mpr ⟨oo_Mo_sign_1, List.forall_mem_cons.mpr ⟨oo_Mo_sign_2, List.forall_mem_cons.mpr ⟨oo_Mo_sign_3, List.forall_mem_nil _⟩⟩⟩⟩) (by decide +kernel) ⟨List.forall_mem_cons.mpr ⟨gf_Mo_413, List.forall_mem_cons.mpr ⟨gf_Mo_434, List.forall_mem_cons.mpr ⟨gf_Mo_437, List.forall_mem_nil _⟩⟩⟩, List.forall_mem_nil _, List.forall_mem_nil _, List.forall_mem_nil _, List.forall_mem_nil _, GG_pl⟩ (by decide +kernel)
set_option maxHeartbeats 4000000 in
theorem vc_Mo_size_0_0 (x1 : Int) (x3 : Int) (x4 : Int) (x5 : Int) (x6 : Int) (x7 : Int) (all_0 : Int → Int) (r_0 : Int) (k1 : 0 ≤ x1 ∧ x1 ≤ 23) (k3 : 0 ≤ x3 ∧ x3 ≤ 66297) (k4 : 219 ≤ x4 ∧ x4 ≤ 219) (k5 : 219 ≤ x5 ∧ x5 ≤ 66516) (k6 : 219 ≤ x6 ∧ x6 ≤ 66539) (k7 : 0 ≤ x7 ∧ x7 ≤ 99) (d0 : x1 + 219 ≤ x6 ∧ x6 ≤ x1 + 66516) (d1 : x5 + 0 ≤ x6 ∧ x6 ≤ x5 + 23) (d2 : x3 + 219 ≤ x6 ∧ x6 ≤ x3 + 242) (d3 : x3 + 219 ≤ x5 ∧ x5 ≤ x3 + 219) (h0 : x7 = all_0 (x6)) (f1 : x6 = x5 + x1) (f2 : x5 = x3 + x4) (g3 : x3 = r_0) : x7 = all_0 (((r_0 + 219) + x1)) := by
  first | assumption | omega | grind
def o_Mo_size_0 : or_T := (15, 8, [(1, (0, 0, 23, [])), (3, (0, 0, 66297, [])), (4, (0, 219, 219, [])), (5, (0, 219, 66516, [])), (6, (0, 219, 66539, [])), (7, (0, 0, 99, []))], [(10, [7, 2, 6], []), (1, [6, 5, 1], []), (1, [5, 3, 4], []), (9, [3, 0], [5]), (9, [2, 0], [2])], [], [], [(20, [7, 0, 1], [50, 1, 1, 1005, 1002, 1, 2, 1, 0, 3, 1, 2, 4, 7, 4, 3, 2, 1, 5, 0, 219, 1, 2])], [], [(6, 1, 219, 66516), (6, 5, 0, 23), (6, 3, 219, 242), (5, 3, 219, 219)])
theorem oo_Mo_size_0 {kA : Nat → ClassId} : or_ok PRD kA GG o_Mo_size_0 := by
  refine or_mk fun A ta ws vs hD hth hl => ?_
  intro t1 k1 t3 k3 t4 k4 t5 k5 t6 k6 t7 k7 d0 d1 d2 d3 f0 f1 f2 f3 f4
  replace f0 := shm_107 f0
  replace f3 := shm_110 f3
  replace f4 := shm_120 f4
  have ad_2 : v_ad (n_v vs 2) = w_ar ws (n_v vs 0) 2 := congrArg v_ad f4
  simp only [ad_2] at f0
  have h0 : v_iv (n_v vs 7) = w_ei ws (w_ar ws (n_v vs 0) 2) (v_iv (n_v vs 6)) := f0
  have g3 : v_iv (n_v vs 3) = w_fi ws (n_v vs 0) 5 := congrArg v_iv f3
  have nf0 : fc_1 PRD (20, [7, 0, 1], [50, 1, 1, 1005, 1002, 1, 2, 1, 0, 3, 1, 2, 4, 7, 4, 3, 2, 1, 5, 0, 219, 1, 2]) ws (vs) := ⟨nf_in hl rfl, sgq_732 (vc_Mo_size_0_0 (v_iv (n_v vs 1)) (v_iv (n_v vs 3)) (v_iv (n_v vs 4)) (v_iv (n_v vs 5)) (v_iv (n_v vs 6)) (v_iv (n_v vs 7)) (w_ei ws (w_ar ws (n_v vs 0) 2)) (w_fi ws (n_v vs 0) 5) k1 k3 k4 k5 k6 k7 d0 d1 d2 d3 h0 (shm_12 f1) (shm_12 f2) g3)⟩
  refine ⟨(fun _ h => (by cases h)), [], trivial, ?_, (fun _ h => (by cases h))⟩
  rw [List.append_nil]
  exact List.forall_mem_cons.mpr ⟨⟨show (20 : Nat) < 100 from by decide, nf0⟩, (fun _ h => (by cases h))⟩
def n_Mo_size_an : List an_T := []
def t_Mo_size_ct : ct_L := []
set_option maxRecDepth 100000 in
theorem c_Mo_size {l : Launch} {D : va_G} {kA : Nat → ClassId} : ct_ok PRD l D kA GG y_Mo_size z_Mo_size e_Mo_size := chk_all_ok (FT := [(16, 13, 2), (391, 13, 5)]) (PT := []) (CT := t_Mo_size_ct) (KT := []) (NT := []) (AN := n_Mo_size_an) (OT := [o_Mo_size_0]) 0 200 (List.forall_mem_cons.mpr ⟨oo_Mo_size_0, List.forall_mem_nil _⟩) (by decide +kernel) ⟨List.forall_mem_cons.mpr ⟨gf_Mo_16, List.forall_mem_cons.mpr ⟨gf_Mo_391, List.forall_mem_nil _⟩⟩, List.forall_mem_nil _, List.forall_mem_nil _, List.forall_mem_nil _, List.forall_mem_nil _, GG_pl⟩ (by decide +kernel)

set_option maxHeartbeats 4000000 in
theorem vc_Mo_split_0_r0 (x1 : Int) (x2 : Int) (x3 : Int) (x5 : Int) (faceMany_0 : Int → Int) (pt_0 : Int → Int) (ph_0 : Int → Int) (alive_0 : Int → Int) (blockOf_0 : Int → Int) (drawnEdge_0 : Int → Int) (face_0 : Int → Int) (way_0 : Int → Int) (pn_0 : Int) (pm_0 : Int) (faces_0 : Int) (wayMany_0 : Int) (k1 : 0 ≤ x1 ∧ x1 ≤ 119) (k2 : 0 ≤ x2 ∧ x2 ≤ 79) (k3 : (-2) ≤ x3 ∧ x3 ≤ 120) (k5 : 0 ≤ x5 ∧ x5 ≤ 60) (h0 : x5 = faceMany_0 (x1)) (f2 : SPR (pn_0) (pm_0) (faces_0) (wayMany_0) (pt_0) (ph_0) (alive_0) (blockOf_0) (drawnEdge_0) (faceMany_0) (face_0) (way_0) (x2) (x1)) (f3 : faces_0 ≤ 118) (f4 : (-1) * faces_0 + ((-1) * x3 + 0) ≤ (-120)) (hK_0_17 : ∀ j : Int, 0 ≤ j → j < 80 → (-1) ≤ blockOf_0 j ∧ blockOf_0 j ≤ 79) (hK_0_33 : ∀ j : Int, 0 ≤ j → j < 80 → 0 ≤ pt_0 j ∧ pt_0 j ≤ 24) (hK_0_34 : ∀ j : Int, 0 ≤ j → j < 80 → 0 ≤ ph_0 j ∧ ph_0 j ≤ 24) (hK_0_35 : ∀ j : Int, 0 ≤ j → j < 80 → 0 ≤ alive_0 j ∧ alive_0 j ≤ 1) (hK_0_40 : ∀ j : Int, 0 ≤ j → j < 120 → 0 ≤ faceMany_0 j ∧ faceMany_0 j ≤ 60) (hK_0_41 : ∀ j : Int, 0 ≤ j → j < 7200 → 0 ≤ face_0 j ∧ face_0 j ≤ 24) (hK_0_43 : ∀ j : Int, 0 ≤ j → j < 80 → 0 ≤ drawnEdge_0 j ∧ drawnEdge_0 j ≤ 1) (hK_0_46 : ∀ j : Int, 0 ≤ j → j < 30 → 0 ≤ way_0 j ∧ way_0 j ≤ 24) (kz_0_31 : 0 ≤ pn_0 ∧ pn_0 ≤ 25) (kz_0_32 : 0 ≤ pm_0 ∧ pm_0 ≤ 80) (kz_0_39 : 0 ≤ faces_0 ∧ faces_0 ≤ 120) (kz_0_45 : 0 ≤ wayMany_0 ∧ wayMany_0 ≤ 30) : 3 ≤ x5 ∧ x5 ≤ 25 := by
  have hq := spr_len ‹SPR _ _ _ _ _ _ _ _ _ _ _ _ _ _›
  omega
def o_Mo_split_0 : or_T := (6, 6, [(0, (2, 0, 0, [165])), (1, (0, 0, 119, [])), (2, (0, 0, 79, [])), (3, (0, -2, 120, [])), (4, (2, 0, 0, [186])), (5, (0, 0, 60, []))], [(10, [5, 4, 1], []), (9, [4, 0], [40]), (20, [0, 2, 1], [60, 4, 8, 143, 31, 32, 39, 45, 33, 34, 35, 17, 43, 40, 41, 46]), (20, [0], [50, 1, 0, 39, 0, 3, 2, 0, 39, 0, 118]), (20, [0, 3], [30, -120, -1, 1, 39, -1, 0, 0])], [(5, (0, 3, 25, []))], [], [], [], [])
theorem oo_Mo_split_0 {kA : Nat → ClassId} : or_ok PRD kA GG o_Mo_split_0 := by
  refine or_mk fun A ta ws vs hD hth hl => ?_
  intro t0 r0 t1 k1 t2 k2 t3 k3 t4 r4 t5 k5 f0 f1 f2 f3 f4
  replace f0 := shm_107 f0
  replace f1 := shm_518 f1
  have cr_0_17 := fdq_189 hD hth r0
  have cr_0_33 := fdq_117 hD hth r0
  have cr_0_34 := fdq_118 hD hth r0
  have cr_0_35 := fdq_132 hD hth r0
  have cr_0_40 := fdq_133 hD hth r0
  have cr_0_41 := fdq_134 hD hth r0
  have cr_0_43 := fdq_137 hD hth r0
  have cr_0_46 := fdq_190 hD hth r0
  have ad_4 : v_ad (n_v vs 4) = w_ar ws (n_v vs 0) 40 := congrArg v_ad f1
  simp only [ad_4] at f0
  have h0 : v_iv (n_v vs 5) = w_ei ws (w_ar ws (n_v vs 0) 40) (v_iv (n_v vs 1)) := f0
  have hK_0_17 := elq_113 hD hth cr_0_17
  have hK_0_33 := elq_60 hD hth cr_0_33
  have hK_0_34 := elq_61 hD hth cr_0_34
  have hK_0_35 := elq_72 hD hth cr_0_35
  have hK_0_40 := elq_73 hD hth cr_0_40
  have hK_0_41 := elq_74 hD hth cr_0_41
  have hK_0_43 := elq_76 hD hth cr_0_43
  have hK_0_46 := elq_114 hD hth cr_0_46
  have kz_0_31 := fdq_145 hD hth r0
  have kz_0_32 := fdq_140 hD hth r0
  have kz_0_39 := fdq_135 hD hth r0
  have kz_0_45 := fdq_191 hD hth r0
  have hrf0 : 3 ≤ v_iv (n_v vs 5) ∧ v_iv (n_v vs 5) ≤ 25 := vc_Mo_split_0_r0 (v_iv (n_v vs 1)) (v_iv (n_v vs 2)) (v_iv (n_v vs 3)) (v_iv (n_v vs 5)) (w_ei ws (w_ar ws (n_v vs 0) 40)) (w_ei ws (w_ar ws (n_v vs 0) 33)) (w_ei ws (w_ar ws (n_v vs 0) 34)) (w_ei ws (w_ar ws (n_v vs 0) 35)) (w_ei ws (w_ar ws (n_v vs 0) 17)) (w_ei ws (w_ar ws (n_v vs 0) 43)) (w_ei ws (w_ar ws (n_v vs 0) 41)) (w_ei ws (w_ar ws (n_v vs 0) 46)) (w_fi ws (n_v vs 0) 31) (w_fi ws (n_v vs 0) 32) (w_fi ws (n_v vs 0) 39) (w_fi ws (n_v vs 0) 45) k1 k2 k3 k5 h0 (shm_733 f2) (shm_734 f3) (shm_735 f4) hK_0_17 hK_0_33 hK_0_34 hK_0_35 hK_0_40 hK_0_41 hK_0_43 hK_0_46 kz_0_31 kz_0_32 kz_0_39 kz_0_45
  have rf5 : tv_ok ta (0, 3, 25, []) (n_v vs 5) := tv_in t5 (by first | omega | grind) (by first | omega | grind)
  refine ⟨List.forall_mem_cons.mpr ⟨rf5, (fun _ h => (by cases h))⟩, [], trivial, ?_, (fun _ h => (by cases h))⟩
  rw [List.append_nil]
  exact (fun _ h => (by cases h))
set_option maxHeartbeats 4000000 in
theorem vc_Mo_split_1_0 (x1 : Int) (x2 : Int) (x3 : Int) (x5 : Int) (x6 : Int) (faceMany_0 : Int → Int) (pt_0 : Int → Int) (ph_0 : Int → Int) (alive_0 : Int → Int) (blockOf_0 : Int → Int) (drawnEdge_0 : Int → Int) (face_0 : Int → Int) (way_0 : Int → Int) (pn_0 : Int) (pm_0 : Int) (faces_0 : Int) (wayMany_0 : Int) (k1 : 0 ≤ x1 ∧ x1 ≤ 119) (k2 : 0 ≤ x2 ∧ x2 ≤ 79) (k3 : (-2) ≤ x3 ∧ x3 ≤ 120) (k5 : 3 ≤ x5 ∧ x5 ≤ 25) (k6 : 0 ≤ x6 ∧ x6 ≤ 0) (h0 : x5 = faceMany_0 (x1)) (f2 : SPR (pn_0) (pm_0) (faces_0) (wayMany_0) (pt_0) (ph_0) (alive_0) (blockOf_0) (drawnEdge_0) (faceMany_0) (face_0) (way_0) (x2) (x1)) (f3 : faces_0 ≤ 118) (f4 : (-1) * faces_0 + ((-1) * x3 + 0) ≤ (-120)) (hK_0_17 : ∀ j : Int, 0 ≤ j → j < 80 → (-1) ≤ blockOf_0 j ∧ blockOf_0 j ≤ 79) (hK_0_33 : ∀ j : Int, 0 ≤ j → j < 80 → 0 ≤ pt_0 j ∧ pt_0 j ≤ 24) (hK_0_34 : ∀ j : Int, 0 ≤ j → j < 80 → 0 ≤ ph_0 j ∧ ph_0 j ≤ 24) (hK_0_35 : ∀ j : Int, 0 ≤ j → j < 80 → 0 ≤ alive_0 j ∧ alive_0 j ≤ 1) (hK_0_40 : ∀ j : Int, 0 ≤ j → j < 120 → 0 ≤ faceMany_0 j ∧ faceMany_0 j ≤ 60) (hK_0_41 : ∀ j : Int, 0 ≤ j → j < 7200 → 0 ≤ face_0 j ∧ face_0 j ≤ 24) (hK_0_43 : ∀ j : Int, 0 ≤ j → j < 80 → 0 ≤ drawnEdge_0 j ∧ drawnEdge_0 j ≤ 1) (hK_0_46 : ∀ j : Int, 0 ≤ j → j < 30 → 0 ≤ way_0 j ∧ way_0 j ≤ 24) (kz_0_31 : 0 ≤ pn_0 ∧ pn_0 ≤ 25) (kz_0_32 : 0 ≤ pm_0 ∧ pm_0 ≤ 80) (kz_0_39 : 0 ≤ faces_0 ∧ faces_0 ≤ 120) (kz_0_45 : 0 ≤ wayMany_0 ∧ wayMany_0 ≤ 30) : S1 (pn_0) (pm_0) (faces_0) (wayMany_0) (pt_0) (ph_0) (alive_0) (blockOf_0) (drawnEdge_0) (faceMany_0) (face_0) (way_0) (x2) (x1) (x6) := by
  first
    | exact ⟨‹SPR _ _ _ _ _ _ _ _ _ _ _ _ _ _›, fun j a b => by exfalso; omega⟩
    | (obtain rfl : x9 = 60 := by omega
       exact s1_next (a := x7) ‹S1 _ _ _ _ _ _ _ _ _ _ _ _ _ _ _› (by omega) (by unfold rwf; rw [show 60 * x1 + x7 = x11 by omega, show (0 : Int) = x14 by omega]; omega))
set_option maxHeartbeats 4000000 in
theorem vc_Mo_split_1_1 (x1 : Int) (x2 : Int) (x3 : Int) (x5 : Int) (x6 : Int) (faceMany_0 : Int → Int) (pt_0 : Int → Int) (ph_0 : Int → Int) (alive_0 : Int → Int) (blockOf_0 : Int → Int) (drawnEdge_0 : Int → Int) (face_0 : Int → Int) (way_0 : Int → Int) (pn_0 : Int) (pm_0 : Int) (faces_0 : Int) (wayMany_0 : Int) (k1 : 0 ≤ x1 ∧ x1 ≤ 119) (k2 : 0 ≤ x2 ∧ x2 ≤ 79) (k3 : (-2) ≤ x3 ∧ x3 ≤ 120) (k5 : 3 ≤ x5 ∧ x5 ≤ 25) (k6 : 0 ≤ x6 ∧ x6 ≤ 0) (h0 : x5 = faceMany_0 (x1)) (f2 : SPR (pn_0) (pm_0) (faces_0) (wayMany_0) (pt_0) (ph_0) (alive_0) (blockOf_0) (drawnEdge_0) (faceMany_0) (face_0) (way_0) (x2) (x1)) (f3 : faces_0 ≤ 118) (f4 : (-1) * faces_0 + ((-1) * x3 + 0) ≤ (-120)) (hK_0_17 : ∀ j : Int, 0 ≤ j → j < 80 → (-1) ≤ blockOf_0 j ∧ blockOf_0 j ≤ 79) (hK_0_33 : ∀ j : Int, 0 ≤ j → j < 80 → 0 ≤ pt_0 j ∧ pt_0 j ≤ 24) (hK_0_34 : ∀ j : Int, 0 ≤ j → j < 80 → 0 ≤ ph_0 j ∧ ph_0 j ≤ 24) (hK_0_35 : ∀ j : Int, 0 ≤ j → j < 80 → 0 ≤ alive_0 j ∧ alive_0 j ≤ 1) (hK_0_40 : ∀ j : Int, 0 ≤ j → j < 120 → 0 ≤ faceMany_0 j ∧ faceMany_0 j ≤ 60) (hK_0_41 : ∀ j : Int, 0 ≤ j → j < 7200 → 0 ≤ face_0 j ∧ face_0 j ≤ 24) (hK_0_43 : ∀ j : Int, 0 ≤ j → j < 80 → 0 ≤ drawnEdge_0 j ∧ drawnEdge_0 j ≤ 1) (hK_0_46 : ∀ j : Int, 0 ≤ j → j < 30 → 0 ≤ way_0 j ∧ way_0 j ≤ 24) (kz_0_31 : 0 ≤ pn_0 ∧ pn_0 ≤ 25) (kz_0_32 : 0 ≤ pm_0 ∧ pm_0 ≤ 80) (kz_0_39 : 0 ≤ faces_0 ∧ faces_0 ≤ 120) (kz_0_45 : 0 ≤ wayMany_0 ∧ wayMany_0 ≤ 30) : x5 = faceMany_0 (x1) := by
  first | omega
def o_Mo_split_1 : or_T := (9, 7, [(0, (2, 0, 0, [165])), (1, (0, 0, 119, [])), (2, (0, 0, 79, [])), (3, (0, -2, 120, [])), (5, (0, 3, 25, [])), (6, (0, 0, 0, []))], [(10, [5, 4, 1], []), (9, [4, 0], [40]), (20, [0, 2, 1], [60, 4, 8, 143, 31, 32, 39, 45, 33, 34, 35, 17, 43, 40, 41, 46]), (20, [0], [50, 1, 0, 39, 0, 3, 2, 0, 39, 0, 118]), (20, [0, 3], [30, -120, -1, 1, 39, -1, 0, 0])], [], [], [(20, [0, 2, 1, 6], [60, 4, 8, 144, 31, 32, 39, 45, 33, 34, 35, 17, 43, 40, 41, 46]), (20, [5, 0, 1], [50, 0, 1, 1040, 1, 2, 1, 0, 3, 1, 40, 1, 2]), (24, [0, 0], []), (24, [1, 1], [])], [], [])
theorem oo_Mo_split_1 {kA : Nat → ClassId} : or_ok PRD kA GG o_Mo_split_1 := by
  refine or_mk fun A ta ws vs hD hth hl => ?_
  intro t0 r0 t1 k1 t2 k2 t3 k3 t5 k5 t6 k6 f0 f1 f2 f3 f4
  replace f0 := shm_107 f0
  replace f1 := shm_518 f1
  have cr_0_17 := fdq_189 hD hth r0
  have cr_0_33 := fdq_117 hD hth r0
  have cr_0_34 := fdq_118 hD hth r0
  have cr_0_35 := fdq_132 hD hth r0
  have cr_0_40 := fdq_133 hD hth r0
  have cr_0_41 := fdq_134 hD hth r0
  have cr_0_43 := fdq_137 hD hth r0
  have cr_0_46 := fdq_190 hD hth r0
  have ad_4 : v_ad (n_v vs 4) = w_ar ws (n_v vs 0) 40 := congrArg v_ad f1
  simp only [ad_4] at f0
  have h0 : v_iv (n_v vs 5) = w_ei ws (w_ar ws (n_v vs 0) 40) (v_iv (n_v vs 1)) := f0
  have hK_0_17 := elq_113 hD hth cr_0_17
  have hK_0_33 := elq_60 hD hth cr_0_33
  have hK_0_34 := elq_61 hD hth cr_0_34
  have hK_0_35 := elq_72 hD hth cr_0_35
  have hK_0_40 := elq_73 hD hth cr_0_40
  have hK_0_41 := elq_74 hD hth cr_0_41
  have hK_0_43 := elq_76 hD hth cr_0_43
  have hK_0_46 := elq_114 hD hth cr_0_46
  have kz_0_31 := fdq_145 hD hth r0
  have kz_0_32 := fdq_140 hD hth r0
  have kz_0_39 := fdq_135 hD hth r0
  have kz_0_45 := fdq_191 hD hth r0
  have nf0 : fc_1 PRD (20, [0, 2, 1, 6], [60, 4, 8, 144, 31, 32, 39, 45, 33, 34, 35, 17, 43, 40, 41, 46]) ws (vs) := ⟨nf_in hl rfl, sgq_736 (vc_Mo_split_1_0 (v_iv (n_v vs 1)) (v_iv (n_v vs 2)) (v_iv (n_v vs 3)) (v_iv (n_v vs 5)) (v_iv (n_v vs 6)) (w_ei ws (w_ar ws (n_v vs 0) 40)) (w_ei ws (w_ar ws (n_v vs 0) 33)) (w_ei ws (w_ar ws (n_v vs 0) 34)) (w_ei ws (w_ar ws (n_v vs 0) 35)) (w_ei ws (w_ar ws (n_v vs 0) 17)) (w_ei ws (w_ar ws (n_v vs 0) 43)) (w_ei ws (w_ar ws (n_v vs 0) 41)) (w_ei ws (w_ar ws (n_v vs 0) 46)) (w_fi ws (n_v vs 0) 31) (w_fi ws (n_v vs 0) 32) (w_fi ws (n_v vs 0) 39) (w_fi ws (n_v vs 0) 45) k1 k2 k3 k5 k6 h0 (shm_733 f2) (shm_734 f3) (shm_735 f4) hK_0_17 hK_0_33 hK_0_34 hK_0_35 hK_0_40 hK_0_41 hK_0_43 hK_0_46 kz_0_31 kz_0_32 kz_0_39 kz_0_45)⟩
  have nf1 : fc_1 PRD (20, [5, 0, 1], [50, 0, 1, 1040, 1, 2, 1, 0, 3, 1, 40, 1, 2]) ws (vs) := ⟨nf_in hl rfl, sgq_521 (vc_Mo_split_1_1 (v_iv (n_v vs 1)) (v_iv (n_v vs 2)) (v_iv (n_v vs 3)) (v_iv (n_v vs 5)) (v_iv (n_v vs 6)) (w_ei ws (w_ar ws (n_v vs 0) 40)) (w_ei ws (w_ar ws (n_v vs 0) 33)) (w_ei ws (w_ar ws (n_v vs 0) 34)) (w_ei ws (w_ar ws (n_v vs 0) 35)) (w_ei ws (w_ar ws (n_v vs 0) 17)) (w_ei ws (w_ar ws (n_v vs 0) 43)) (w_ei ws (w_ar ws (n_v vs 0) 41)) (w_ei ws (w_ar ws (n_v vs 0) 46)) (w_fi ws (n_v vs 0) 31) (w_fi ws (n_v vs 0) 32) (w_fi ws (n_v vs 0) 39) (w_fi ws (n_v vs 0) 45) k1 k2 k3 k5 k6 h0 (shm_733 f2) (shm_734 f3) (shm_735 f4) hK_0_17 hK_0_33 hK_0_34 hK_0_35 hK_0_40 hK_0_41 hK_0_43 hK_0_46 kz_0_31 kz_0_32 kz_0_39 kz_0_45)⟩
  have nf2 : fc_1 PRD (24, [0, 0], []) ws (vs) := by
    refine ⟨nf_in hl rfl, sgq_1 ?_⟩
    · show n_v vs 0 = n_v vs 0
      first | rfl | simp only [true_and]
  have nf3 : fc_1 PRD (24, [1, 1], []) ws (vs) := by
    refine ⟨nf_in hl rfl, sgq_1 ?_⟩
    · show n_v vs 1 = n_v vs 1
      first | rfl | simp only [true_and]
  refine ⟨(fun _ h => (by cases h)), [], trivial, ?_, (fun _ h => (by cases h))⟩
  rw [List.append_nil]
  exact List.forall_mem_cons.mpr ⟨⟨show (20 : Nat) < 100 from by decide, nf0⟩, List.forall_mem_cons.mpr ⟨⟨show (20 : Nat) < 100 from by decide, nf1⟩, List.forall_mem_cons.mpr ⟨⟨show (24 : Nat) < 100 from by decide, nf2⟩, List.forall_mem_cons.mpr ⟨⟨show (24 : Nat) < 100 from by decide, nf3⟩, (fun _ h => (by cases h))⟩⟩⟩⟩
set_option maxHeartbeats 4000000 in
theorem vc_Mo_split_2_0 (x1 : Int) (x2 : Int) (x3 : Int) (x5 : Int) (x6 : Int) (x7 : Int) (x9 : Int) (x10 : Int) (x11 : Int) (x12 : Int) (x14 : Int) (x15 : Int) (x16 : Int) (way_0 : Int → Int) (face_0 : Int → Int) (faces_0 : Int) (pt_0 : Int → Int) (ph_0 : Int → Int) (alive_0 : Int → Int) (blockOf_0 : Int → Int) (drawnEdge_0 : Int → Int) (faceMany_0 : Int → Int) (pn_0 : Int) (pm_0 : Int) (wayMany_0 : Int) (line_0 : Int → Int) (k1 : 0 ≤ x1 ∧ x1 ≤ 119) (k2 : 0 ≤ x2 ∧ x2 ≤ 79) (k3 : (-2) ≤ x3 ∧ x3 ≤ 120) (k5 : 0 ≤ x5 ∧ x5 ≤ 119) (k6 : 3 ≤ x6 ∧ x6 ≤ 25) (k7 : 0 ≤ x7 ∧ x7 ≤ 24) (k9 : 60 ≤ x9 ∧ x9 ≤ 60) (k10 : 0 ≤ x10 ∧ x10 ≤ 7140) (k11 : 0 ≤ x11 ∧ x11 ≤ 7164) (k12 : 0 ≤ x12 ∧ x12 ≤ 24) (k14 : 0 ≤ x14 ∧ x14 ≤ 0) (k15 : 0 ≤ x15 ∧ x15 ≤ 24) (k16 : 0 ≤ x16 ∧ x16 ≤ 0) (d0 : x15 + 0 ≤ x12 ∧ x12 ≤ x15 + 0) (d1 : x7 + 0 ≤ x11 ∧ x11 ≤ x7 + 7140) (d2 : x10 + 0 ≤ x11 ∧ x11 ≤ x10 + 24) (d3 : x5 + (-4294967296) ≤ x1 ∧ x1 ≤ x5 + 0) (d4 : x1 + (-4294967296) ≤ x5 ∧ x5 ≤ x1 + 0) (f0 : x12 = x15) (h1 : x15 = way_0 (x14)) (h3 : x12 = face_0 (x11)) (f4 : x11 = x10 + x7) (f5 : x10 = 60 * x1) (f7 : faces_0 ≤ 118) (f8 : (-1) * faces_0 + ((-1) * x3 + 0) ≤ (-120)) (f9 : S1 (pn_0) (pm_0) (faces_0) (wayMany_0) (pt_0) (ph_0) (alive_0) (blockOf_0) (drawnEdge_0) (faceMany_0) (face_0) (way_0) (x2) (x1) (x7)) (f10 : x6 = faceMany_0 (x1)) (hK_0_17 : ∀ j : Int, 0 ≤ j → j < 80 → (-1) ≤ blockOf_0 j ∧ blockOf_0 j ≤ 79) (hK_0_20 : ∀ j : Int, 0 ≤ j → j < 100 → (-1000000) ≤ line_0 j ∧ line_0 j ≤ 1000000) (hK_0_33 : ∀ j : Int, 0 ≤ j → j < 80 → 0 ≤ pt_0 j ∧ pt_0 j ≤ 24) (hK_0_34 : ∀ j : Int, 0 ≤ j → j < 80 → 0 ≤ ph_0 j ∧ ph_0 j ≤ 24) (hK_0_35 : ∀ j : Int, 0 ≤ j → j < 80 → 0 ≤ alive_0 j ∧ alive_0 j ≤ 1) (hK_0_40 : ∀ j : Int, 0 ≤ j → j < 120 → 0 ≤ faceMany_0 j ∧ faceMany_0 j ≤ 60) (hK_0_41 : ∀ j : Int, 0 ≤ j → j < 7200 → 0 ≤ face_0 j ∧ face_0 j ≤ 24) (hK_0_43 : ∀ j : Int, 0 ≤ j → j < 80 → 0 ≤ drawnEdge_0 j ∧ drawnEdge_0 j ≤ 1) (hK_0_46 : ∀ j : Int, 0 ≤ j → j < 30 → 0 ≤ way_0 j ∧ way_0 j ≤ 24) (kz_0_31 : 0 ≤ pn_0 ∧ pn_0 ≤ 25) (kz_0_32 : 0 ≤ pm_0 ∧ pm_0 ≤ 80) (kz_0_39 : 0 ≤ faces_0 ∧ faces_0 ≤ 120) (kz_0_45 : 0 ≤ wayMany_0 ∧ wayMany_0 ≤ 30) : S2 (pn_0) (pm_0) (faces_0) (wayMany_0) (pt_0) (ph_0) (alive_0) (blockOf_0) (drawnEdge_0) (faceMany_0) (face_0) (way_0) (line_0) (x2) (x1) (x7) (x6) (x16) := by
  first
    | (obtain rfl : x9 = 60 := by omega
       have h := ‹S1 _ _ _ _ _ _ _ _ _ _ _ _ _ _ _›
       have hl := s1_lt h
       exact ⟨h.1, by omega, by omega, by omega, by unfold rwf; rw [show 60 * x1 + x7 = x11 by omega, show (0 : Int) = x14 by omega]; omega, fun j a b => by exfalso; omega⟩)
    | (obtain rfl : x11 = 60 := by omega
       have h := ‹S2 _ _ _ _ _ _ _ _ _ _ _ _ _ _ _ _ _ _›
       refine ⟨h.1, h.2.1, h.2.2.1, h.2.2.2.1, h.2.2.2.2.1, fun j a b => ?_⟩
       by_cases q : j = x8
       · rw [q, (hE_0_20_1 x8 (by omega)).1 rfl]
         unfold rwf
         rw [show 60 * x1 + (x7 + x8) % x6 = x15 by first | omega | (rw [show (x7 + x8) % x6 = x14 by (rw [show x7 + x8 = x13 by omega]; first | omega | (rw [← Int.tmod_eq_emod_of_nonneg (by omega)]; symm; assumption))]; omega)]
         omega
       · rw [(hE_0_20_1 j a).2 q]; exact h.2.2.2.2.2 j a (by omega))
def o_Mo_split_2 : or_T := (38, 17, [(0, (2, 0, 0, [165])), (1, (0, 0, 119, [])), (2, (0, 0, 79, [])), (3, (0, -2, 120, [])), (5, (0, 0, 119, [])), (6, (0, 3, 25, [])), (7, (0, 0, 24, [])), (9, (0, 60, 60, [])), (10, (0, 0, 7140, [])), (11, (0, 0, 7164, [])), (12, (0, 0, 24, [])), (14, (0, 0, 0, [])), (15, (0, 0, 24, [])), (16, (0, 0, 0, []))], [(7, [12, 15], [0]), (10, [15, 13, 14], []), (9, [13, 4], [46]), (10, [12, 8, 11], []), (1, [11, 10, 7], []), (3, [10, 9, 5], []), (9, [8, 4], [41]), (20, [4], [50, 1, 0, 39, 0, 3, 2, 0, 39, 0, 118]), (20, [4, 3], [30, -120, -1, 1, 39, -1, 0, 0]), (20, [4, 2, 5, 7], [60, 4, 8, 144, 31, 32, 39, 45, 33, 34, 35, 17, 43, 40, 41, 46]), (20, [6, 4, 5], [50, 0, 1, 1040, 1, 2, 1, 0, 3, 1, 40, 1, 2]), (24, [0, 4], []), (24, [1, 5], [])], [], [], [(20, [4, 2, 5, 7, 6, 16], [60, 4, 9, 145, 31, 32, 39, 45, 33, 34, 35, 17, 43, 40, 41, 46, 20])], [], [(12, 15, 0, 0), (11, 7, 0, 7140), (11, 10, 0, 24), (1, 5, -4294967296, 0), (5, 1, -4294967296, 0)])
theorem oo_Mo_split_2 {kA : Nat → ClassId} : or_ok PRD kA GG o_Mo_split_2 := by
  refine or_mk fun A ta ws vs hD hth hl => ?_
  intro t0 r0 t1 k1 t2 k2 t3 k3 t5 k5 t6 k6 t7 k7 t9 k9 t10 k10 t11 k11 t12 k12 t14 k14 t15 k15 t16 k16 d0 d1 d2 d3 d4 f0 f1 f2 f3 f4 f5 f6 f7 f8 f9 f10 f11 f12
  replace f0 := shm_37 f0
  replace f1 := shm_107 f1
  replace f2 := shm_737 f2
  replace f3 := shm_107 f3
  replace f4 := shm_12 f4
  replace f5 := shm_38 f5
  rw [show v_iv (n_v vs 9) = 60 from by omega] at f5
  replace f6 := shm_522 f6
  replace f7 := shm_734 f7
  replace f8 := shm_735 f8
  replace f9 := shm_736 f9
  replace f10 := shm_521 f10
  replace f11 := shm_5 f11
  replace f12 := shm_5 f12
  have q4 : n_v vs 4 = n_v vs 0 := f11.symm
  have q5 : n_v vs 5 = n_v vs 1 := f12.symm
  simp only [q4, q5] at f2 f5 f6 f7 f8 f9 f10
  have cr_0_17 := fdq_189 hD hth r0
  have cr_0_20 := fdq_192 hD hth r0
  have cr_0_33 := fdq_117 hD hth r0
  have cr_0_34 := fdq_118 hD hth r0
  have cr_0_35 := fdq_132 hD hth r0
  have cr_0_40 := fdq_133 hD hth r0
  have cr_0_41 := fdq_134 hD hth r0
  have cr_0_43 := fdq_137 hD hth r0
  have cr_0_46 := fdq_190 hD hth r0
  have ad_13 : v_ad (n_v vs 13) = w_ar ws (n_v vs 0) 46 := congrArg v_ad f2
  have ad_8 : v_ad (n_v vs 8) = w_ar ws (n_v vs 0) 41 := congrArg v_ad f6
  simp only [ad_13] at f1
  have h1 : v_iv (n_v vs 15) = w_ei ws (w_ar ws (n_v vs 0) 46) (v_iv (n_v vs 14)) := f1
  simp only [ad_8] at f3
  have h3 : v_iv (n_v vs 12) = w_ei ws (w_ar ws (n_v vs 0) 41) (v_iv (n_v vs 11)) := f3
  have hK_0_17 := elq_113 hD hth cr_0_17
  have hK_0_20 := elq_115 hD hth cr_0_20
  have hK_0_33 := elq_60 hD hth cr_0_33
  have hK_0_34 := elq_61 hD hth cr_0_34
  have hK_0_35 := elq_72 hD hth cr_0_35
  have hK_0_40 := elq_73 hD hth cr_0_40
  have hK_0_41 := elq_74 hD hth cr_0_41
  have hK_0_43 := elq_76 hD hth cr_0_43
  have hK_0_46 := elq_114 hD hth cr_0_46
  have kz_0_31 := fdq_145 hD hth r0
  have kz_0_32 := fdq_140 hD hth r0
  have kz_0_39 := fdq_135 hD hth r0
  have kz_0_45 := fdq_191 hD hth r0
  have nf0 : fc_1 PRD (20, [4, 2, 5, 7, 6, 16], [60, 4, 9, 145, 31, 32, 39, 45, 33, 34, 35, 17, 43, 40, 41, 46, 20]) ws (vs) := by
    refine ⟨nf_in hl rfl, sgq_738 ?_⟩
    · show S2 (w_fi ws (n_v vs 4) 31) (w_fi ws (n_v vs 4) 32) (w_fi ws (n_v vs 4) 39) (w_fi ws (n_v vs 4) 45) (w_ei ws (w_ar ws (n_v vs 4) 33)) (w_ei ws (w_ar ws (n_v vs 4) 34)) (w_ei ws (w_ar ws (n_v vs 4) 35)) (w_ei ws (w_ar ws (n_v vs 4) 17)) (w_ei ws (w_ar ws (n_v vs 4) 43)) (w_ei ws (w_ar ws (n_v vs 4) 40)) (w_ei ws (w_ar ws (n_v vs 4) 41)) (w_ei ws (w_ar ws (n_v vs 4) 46)) (w_ei ws (w_ar ws (n_v vs 4) 20)) (v_iv (n_v vs 2)) (v_iv (n_v vs 5)) (v_iv (n_v vs 7)) (v_iv (n_v vs 6)) (v_iv (n_v vs 16))
      simp only [q4, q5]
      exact vc_Mo_split_2_0 (v_iv (n_v vs 1)) (v_iv (n_v vs 2)) (v_iv (n_v vs 3)) (v_iv (n_v vs 5)) (v_iv (n_v vs 6)) (v_iv (n_v vs 7)) (v_iv (n_v vs 9)) (v_iv (n_v vs 10)) (v_iv (n_v vs 11)) (v_iv (n_v vs 12)) (v_iv (n_v vs 14)) (v_iv (n_v vs 15)) (v_iv (n_v vs 16)) (w_ei ws (w_ar ws (n_v vs 0) 46)) (w_ei ws (w_ar ws (n_v vs 0) 41)) (w_fi ws (n_v vs 0) 39) (w_ei ws (w_ar ws (n_v vs 0) 33)) (w_ei ws (w_ar ws (n_v vs 0) 34)) (w_ei ws (w_ar ws (n_v vs 0) 35)) (w_ei ws (w_ar ws (n_v vs 0) 17)) (w_ei ws (w_ar ws (n_v vs 0) 43)) (w_ei ws (w_ar ws (n_v vs 0) 40)) (w_fi ws (n_v vs 0) 31) (w_fi ws (n_v vs 0) 32) (w_fi ws (n_v vs 0) 45) (w_ei ws (w_ar ws (n_v vs 0) 20)) k1 k2 k3 k5 k6 k7 k9 k10 k11 k12 k14 k15 k16 d0 d1 d2 d3 d4 f0 h1 h3 f4 f5 f7 f8 f9 f10 hK_0_17 hK_0_20 hK_0_33 hK_0_34 hK_0_35 hK_0_40 hK_0_41 hK_0_43 hK_0_46 kz_0_31 kz_0_32 kz_0_39 kz_0_45
  refine ⟨(fun _ h => (by cases h)), [], trivial, ?_, (fun _ h => (by cases h))⟩
  rw [List.append_nil]
  exact List.forall_mem_cons.mpr ⟨⟨show (20 : Nat) < 100 from by decide, nf0⟩, (fun _ h => (by cases h))⟩
set_option maxHeartbeats 4000000 in
theorem vc_Mo_split_3_r0 (x1 : Int) (x2 : Int) (x3 : Int) (x5 : Int) (x6 : Int) (x7 : Int) (x9 : Int) (x10 : Int) (x11 : Int) (x12 : Int) (x14 : Int) (x15 : Int) (x16 : Int) (way_0 : Int → Int) (face_0 : Int → Int) (faces_0 : Int) (pt_0 : Int → Int) (ph_0 : Int → Int) (alive_0 : Int → Int) (blockOf_0 : Int → Int) (drawnEdge_0 : Int → Int) (faceMany_0 : Int → Int) (pn_0 : Int) (pm_0 : Int) (wayMany_0 : Int) (k1 : 0 ≤ x1 ∧ x1 ≤ 119) (k2 : 0 ≤ x2 ∧ x2 ≤ 79) (k3 : (-2) ≤ x3 ∧ x3 ≤ 120) (k5 : 0 ≤ x5 ∧ x5 ≤ 119) (k6 : 3 ≤ x6 ∧ x6 ≤ 25) (k7 : 0 ≤ x7 ∧ x7 ≤ 24) (k9 : 60 ≤ x9 ∧ x9 ≤ 60) (k10 : 0 ≤ x10 ∧ x10 ≤ 7140) (k11 : 0 ≤ x11 ∧ x11 ≤ 7164) (k12 : 0 ≤ x12 ∧ x12 ≤ 24) (k14 : 0 ≤ x14 ∧ x14 ≤ 0) (k15 : 0 ≤ x15 ∧ x15 ≤ 24) (k16 : 1 ≤ x16 ∧ x16 ≤ 25) (d0 : x7 + 1 ≤ x16 ∧ x16 ≤ x7 + 1) (d1 : x7 + 0 ≤ x11 ∧ x11 ≤ x7 + 7140) (d2 : x10 + 0 ≤ x11 ∧ x11 ≤ x10 + 24) (d3 : x5 + (-4294967296) ≤ x1 ∧ x1 ≤ x5 + 0) (d4 : x1 + (-4294967296) ≤ x5 ∧ x5 ≤ x1 + 0) (f0 : x16 = x7 + 1) (f1 : x12 ≠ x15) (h2 : x15 = way_0 (x14)) (h4 : x12 = face_0 (x11)) (f5 : x11 = x10 + x7) (f6 : x10 = 60 * x1) (f8 : faces_0 ≤ 118) (f9 : (-1) * faces_0 + ((-1) * x3 + 0) ≤ (-120)) (f10 : S1 (pn_0) (pm_0) (faces_0) (wayMany_0) (pt_0) (ph_0) (alive_0) (blockOf_0) (drawnEdge_0) (faceMany_0) (face_0) (way_0) (x2) (x1) (x7)) (f11 : x6 = faceMany_0 (x1)) (hK_0_17 : ∀ j : Int, 0 ≤ j → j < 80 → (-1) ≤ blockOf_0 j ∧ blockOf_0 j ≤ 79) (hK_0_33 : ∀ j : Int, 0 ≤ j → j < 80 → 0 ≤ pt_0 j ∧ pt_0 j ≤ 24) (hK_0_34 : ∀ j : Int, 0 ≤ j → j < 80 → 0 ≤ ph_0 j ∧ ph_0 j ≤ 24) (hK_0_35 : ∀ j : Int, 0 ≤ j → j < 80 → 0 ≤ alive_0 j ∧ alive_0 j ≤ 1) (hK_0_40 : ∀ j : Int, 0 ≤ j → j < 120 → 0 ≤ faceMany_0 j ∧ faceMany_0 j ≤ 60) (hK_0_41 : ∀ j : Int, 0 ≤ j → j < 7200 → 0 ≤ face_0 j ∧ face_0 j ≤ 24) (hK_0_43 : ∀ j : Int, 0 ≤ j → j < 80 → 0 ≤ drawnEdge_0 j ∧ drawnEdge_0 j ≤ 1) (hK_0_46 : ∀ j : Int, 0 ≤ j → j < 30 → 0 ≤ way_0 j ∧ way_0 j ≤ 24) (kz_0_31 : 0 ≤ pn_0 ∧ pn_0 ≤ 25) (kz_0_32 : 0 ≤ pm_0 ∧ pm_0 ≤ 80) (kz_0_39 : 0 ≤ faces_0 ∧ faces_0 ≤ 120) (kz_0_45 : 0 ≤ wayMany_0 ∧ wayMany_0 ≤ 30) : 1 ≤ x16 ∧ x16 ≤ 24 := by
  obtain rfl : x9 = 60 := by omega
  have hq := spr_len ‹S1 _ _ _ _ _ _ _ _ _ _ _ _ _ _ _›.1
  have h := s1_lt (s1_next (a := x7) (a_zq := x7 + 1) ‹S1 _ _ _ _ _ _ _ _ _ _ _ _ _ _ _› rfl (by unfold rwf; rw [show 60 * x1 + x7 = x11 by omega, show (0 : Int) = x14 by omega]; omega))
  omega
def o_Mo_split_3 : or_T := (32, 17, [(0, (2, 0, 0, [165])), (1, (0, 0, 119, [])), (2, (0, 0, 79, [])), (3, (0, -2, 120, [])), (4, (2, 0, 0, [165])), (5, (0, 0, 119, [])), (6, (0, 3, 25, [])), (7, (0, 0, 24, [])), (8, (2, 0, 0, [187])), (9, (0, 60, 60, [])), (10, (0, 0, 7140, [])), (11, (0, 0, 7164, [])), (12, (0, 0, 24, [])), (13, (2, 0, 0, [191])), (14, (0, 0, 0, [])), (15, (0, 0, 24, [])), (16, (0, 1, 25, []))], [(6, [16, 7], [1]), (7, [12, 15], [1]), (10, [15, 13, 14], []), (9, [13, 4], [46]), (10, [12, 8, 11], []), (1, [11, 10, 7], []), (3, [10, 9, 5], []), (9, [8, 4], [41]), (20, [4], [50, 1, 0, 39, 0, 3, 2, 0, 39, 0, 118]), (20, [4, 3], [30, -120, -1, 1, 39, -1, 0, 0]), (20, [4, 2, 5, 7], [60, 4, 8, 144, 31, 32, 39, 45, 33, 34, 35, 17, 43, 40, 41, 46]), (20, [6, 4, 5], [50, 0, 1, 1040, 1, 2, 1, 0, 3, 1, 40, 1, 2]), (24, [0, 4], []), (24, [1, 5], [])], [(16, (0, 1, 24, []))], [], [], [], [(16, 7, 1, 1), (11, 7, 0, 7140), (11, 10, 0, 24), (1, 5, -4294967296, 0), (5, 1, -4294967296, 0)])
theorem oo_Mo_split_3 {kA : Nat → ClassId} : or_ok PRD kA GG o_Mo_split_3 := by
  refine or_mk fun A ta ws vs hD hth hl => ?_
  intro t0 r0 t1 k1 t2 k2 t3 k3 t4 r4 t5 k5 t6 k6 t7 k7 t8 r8 t9 k9 t10 k10 t11 k11 t12 k12 t13 r13 t14 k14 t15 k15 t16 k16 d0 d1 d2 d3 d4 f0 f1 f2 f3 f4 f5 f6 f7 f8 f9 f10 f11 f12 f13
  replace f2 := shm_107 f2
  replace f3 := shm_737 f3
  replace f4 := shm_107 f4
  replace f6 := shm_38 f6
  rw [show v_iv (n_v vs 9) = 60 from by omega] at f6
  replace f7 := shm_522 f7
  replace f8 := shm_734 f8
  replace f9 := shm_735 f9
  replace f10 := shm_736 f10
  replace f11 := shm_521 f11
  replace f12 := shm_5 f12
  replace f13 := shm_5 f13
  have q4 : n_v vs 4 = n_v vs 0 := f12.symm
  have q5 : n_v vs 5 = n_v vs 1 := f13.symm
  simp only [q4, q5] at f3 f6 f7 f8 f9 f10 f11
  have cr_0_17 := fdq_189 hD hth r0
  have cr_0_33 := fdq_117 hD hth r0
  have cr_0_34 := fdq_118 hD hth r0
  have cr_0_35 := fdq_132 hD hth r0
  have cr_0_40 := fdq_133 hD hth r0
  have cr_0_41 := fdq_134 hD hth r0
  have cr_0_43 := fdq_137 hD hth r0
  have cr_0_46 := fdq_190 hD hth r0
  have ad_13 : v_ad (n_v vs 13) = w_ar ws (n_v vs 0) 46 := congrArg v_ad f3
  have ad_8 : v_ad (n_v vs 8) = w_ar ws (n_v vs 0) 41 := congrArg v_ad f7
  simp only [ad_13] at f2
  have h2 : v_iv (n_v vs 15) = w_ei ws (w_ar ws (n_v vs 0) 46) (v_iv (n_v vs 14)) := f2
  simp only [ad_8] at f4
  have h4 : v_iv (n_v vs 12) = w_ei ws (w_ar ws (n_v vs 0) 41) (v_iv (n_v vs 11)) := f4
  have hK_0_17 := elq_113 hD hth cr_0_17
  have hK_0_33 := elq_60 hD hth cr_0_33
  have hK_0_34 := elq_61 hD hth cr_0_34
  have hK_0_35 := elq_72 hD hth cr_0_35
  have hK_0_40 := elq_73 hD hth cr_0_40
  have hK_0_41 := elq_74 hD hth cr_0_41
  have hK_0_43 := elq_76 hD hth cr_0_43
  have hK_0_46 := elq_114 hD hth cr_0_46
  have kz_0_31 := fdq_145 hD hth r0
  have kz_0_32 := fdq_140 hD hth r0
  have kz_0_39 := fdq_135 hD hth r0
  have kz_0_45 := fdq_191 hD hth r0
  have hrf0 : 1 ≤ v_iv (n_v vs 16) ∧ v_iv (n_v vs 16) ≤ 24 := vc_Mo_split_3_r0 (v_iv (n_v vs 1)) (v_iv (n_v vs 2)) (v_iv (n_v vs 3)) (v_iv (n_v vs 5)) (v_iv (n_v vs 6)) (v_iv (n_v vs 7)) (v_iv (n_v vs 9)) (v_iv (n_v vs 10)) (v_iv (n_v vs 11)) (v_iv (n_v vs 12)) (v_iv (n_v vs 14)) (v_iv (n_v vs 15)) (v_iv (n_v vs 16)) (w_ei ws (w_ar ws (n_v vs 0) 46)) (w_ei ws (w_ar ws (n_v vs 0) 41)) (w_fi ws (n_v vs 0) 39) (w_ei ws (w_ar ws (n_v vs 0) 33)) (w_ei ws (w_ar ws (n_v vs 0) 34)) (w_ei ws (w_ar ws (n_v vs 0) 35)) (w_ei ws (w_ar ws (n_v vs 0) 17)) (w_ei ws (w_ar ws (n_v vs 0) 43)) (w_ei ws (w_ar ws (n_v vs 0) 40)) (w_fi ws (n_v vs 0) 31) (w_fi ws (n_v vs 0) 32) (w_fi ws (n_v vs 0) 45) k1 k2 k3 k5 k6 k7 k9 k10 k11 k12 k14 k15 k16 d0 d1 d2 d3 d4 (shm_4 f0) (shm_40 f1) h2 h4 (shm_12 f5) f6 f8 f9 f10 f11 hK_0_17 hK_0_33 hK_0_34 hK_0_35 hK_0_40 hK_0_41 hK_0_43 hK_0_46 kz_0_31 kz_0_32 kz_0_39 kz_0_45
  have rf16 : tv_ok ta (0, 1, 24, []) (n_v vs 16) := tv_in t16 (by first | omega | grind) (by first | omega | grind)
  refine ⟨List.forall_mem_cons.mpr ⟨rf16, (fun _ h => (by cases h))⟩, [], trivial, ?_, (fun _ h => (by cases h))⟩
  rw [List.append_nil]
  exact (fun _ h => (by cases h))
set_option maxHeartbeats 4000000 in
theorem vc_Mo_split_4_0 (x1 : Int) (x2 : Int) (x3 : Int) (x5 : Int) (x6 : Int) (x7 : Int) (x9 : Int) (x10 : Int) (x11 : Int) (x12 : Int) (x14 : Int) (x15 : Int) (x16 : Int) (way_0 : Int → Int) (face_0 : Int → Int) (faces_0 : Int) (pt_0 : Int → Int) (ph_0 : Int → Int) (alive_0 : Int → Int) (blockOf_0 : Int → Int) (drawnEdge_0 : Int → Int) (faceMany_0 : Int → Int) (pn_0 : Int) (pm_0 : Int) (wayMany_0 : Int) (k1 : 0 ≤ x1 ∧ x1 ≤ 119) (k2 : 0 ≤ x2 ∧ x2 ≤ 79) (k3 : (-2) ≤ x3 ∧ x3 ≤ 120) (k5 : 0 ≤ x5 ∧ x5 ≤ 119) (k6 : 3 ≤ x6 ∧ x6 ≤ 25) (k7 : 0 ≤ x7 ∧ x7 ≤ 24) (k9 : 60 ≤ x9 ∧ x9 ≤ 60) (k10 : 0 ≤ x10 ∧ x10 ≤ 7140) (k11 : 0 ≤ x11 ∧ x11 ≤ 7164) (k12 : 0 ≤ x12 ∧ x12 ≤ 24) (k14 : 0 ≤ x14 ∧ x14 ≤ 0) (k15 : 0 ≤ x15 ∧ x15 ≤ 24) (k16 : 1 ≤ x16 ∧ x16 ≤ 24) (d0 : x7 + 1 ≤ x16 ∧ x16 ≤ x7 + 1) (d1 : x7 + 0 ≤ x11 ∧ x11 ≤ x7 + 7140) (d2 : x10 + 0 ≤ x11 ∧ x11 ≤ x10 + 24) (d3 : x5 + (-4294967296) ≤ x1 ∧ x1 ≤ x5 + 0) (d4 : x1 + (-4294967296) ≤ x5 ∧ x5 ≤ x1 + 0) (f0 : x16 = x7 + 1) (f1 : x12 ≠ x15) (h2 : x15 = way_0 (x14)) (h4 : x12 = face_0 (x11)) (f5 : x11 = x10 + x7) (f6 : x10 = 60 * x1) (f8 : faces_0 ≤ 118) (f9 : (-1) * faces_0 + ((-1) * x3 + 0) ≤ (-120)) (f10 : S1 (pn_0) (pm_0) (faces_0) (wayMany_0) (pt_0) (ph_0) (alive_0) (blockOf_0) (drawnEdge_0) (faceMany_0) (face_0) (way_0) (x2) (x1) (x7)) (f11 : x6 = faceMany_0 (x1)) (hK_0_17 : ∀ j : Int, 0 ≤ j → j < 80 → (-1) ≤ blockOf_0 j ∧ blockOf_0 j ≤ 79) (hK_0_33 : ∀ j : Int, 0 ≤ j → j < 80 → 0 ≤ pt_0 j ∧ pt_0 j ≤ 24) (hK_0_34 : ∀ j : Int, 0 ≤ j → j < 80 → 0 ≤ ph_0 j ∧ ph_0 j ≤ 24) (hK_0_35 : ∀ j : Int, 0 ≤ j → j < 80 → 0 ≤ alive_0 j ∧ alive_0 j ≤ 1) (hK_0_40 : ∀ j : Int, 0 ≤ j → j < 120 → 0 ≤ faceMany_0 j ∧ faceMany_0 j ≤ 60) (hK_0_41 : ∀ j : Int, 0 ≤ j → j < 7200 → 0 ≤ face_0 j ∧ face_0 j ≤ 24) (hK_0_43 : ∀ j : Int, 0 ≤ j → j < 80 → 0 ≤ drawnEdge_0 j ∧ drawnEdge_0 j ≤ 1) (hK_0_46 : ∀ j : Int, 0 ≤ j → j < 30 → 0 ≤ way_0 j ∧ way_0 j ≤ 24) (kz_0_31 : 0 ≤ pn_0 ∧ pn_0 ≤ 25) (kz_0_32 : 0 ≤ pm_0 ∧ pm_0 ≤ 80) (kz_0_39 : 0 ≤ faces_0 ∧ faces_0 ≤ 120) (kz_0_45 : 0 ≤ wayMany_0 ∧ wayMany_0 ≤ 30) : S1 (pn_0) (pm_0) (faces_0) (wayMany_0) (pt_0) (ph_0) (alive_0) (blockOf_0) (drawnEdge_0) (faceMany_0) (face_0) (way_0) (x2) (x1) (x16) := by
  first
    | exact ⟨‹SPR _ _ _ _ _ _ _ _ _ _ _ _ _ _›, fun j a b => by exfalso; omega⟩
    | (obtain rfl : x9 = 60 := by omega
       exact s1_next (a := x7) ‹S1 _ _ _ _ _ _ _ _ _ _ _ _ _ _ _› (by omega) (by unfold rwf; rw [show 60 * x1 + x7 = x11 by omega, show (0 : Int) = x14 by omega]; omega))
def o_Mo_split_4 : or_T := (9, 17, [(0, (2, 0, 0, [165])), (1, (0, 0, 119, [])), (2, (0, 0, 79, [])), (3, (0, -2, 120, [])), (5, (0, 0, 119, [])), (6, (0, 3, 25, [])), (7, (0, 0, 24, [])), (9, (0, 60, 60, [])), (10, (0, 0, 7140, [])), (11, (0, 0, 7164, [])), (12, (0, 0, 24, [])), (14, (0, 0, 0, [])), (15, (0, 0, 24, [])), (16, (0, 1, 24, []))], [(6, [16, 7], [1]), (7, [12, 15], [1]), (10, [15, 13, 14], []), (9, [13, 4], [46]), (10, [12, 8, 11], []), (1, [11, 10, 7], []), (3, [10, 9, 5], []), (9, [8, 4], [41]), (20, [4], [50, 1, 0, 39, 0, 3, 2, 0, 39, 0, 118]), (20, [4, 3], [30, -120, -1, 1, 39, -1, 0, 0]), (20, [4, 2, 5, 7], [60, 4, 8, 144, 31, 32, 39, 45, 33, 34, 35, 17, 43, 40, 41, 46]), (20, [6, 4, 5], [50, 0, 1, 1040, 1, 2, 1, 0, 3, 1, 40, 1, 2]), (24, [0, 4], []), (24, [1, 5], [])], [], [], [(20, [4, 2, 5, 16], [60, 4, 8, 144, 31, 32, 39, 45, 33, 34, 35, 17, 43, 40, 41, 46])], [], [(16, 7, 1, 1), (11, 7, 0, 7140), (11, 10, 0, 24), (1, 5, -4294967296, 0), (5, 1, -4294967296, 0)])
theorem oo_Mo_split_4 {kA : Nat → ClassId} : or_ok PRD kA GG o_Mo_split_4 := by
  refine or_mk fun A ta ws vs hD hth hl => ?_
  intro t0 r0 t1 k1 t2 k2 t3 k3 t5 k5 t6 k6 t7 k7 t9 k9 t10 k10 t11 k11 t12 k12 t14 k14 t15 k15 t16 k16 d0 d1 d2 d3 d4 f0 f1 f2 f3 f4 f5 f6 f7 f8 f9 f10 f11 f12 f13
  replace f0 := shm_4 f0
  replace f1 := shm_40 f1
  replace f2 := shm_107 f2
  replace f3 := shm_737 f3
  replace f4 := shm_107 f4
  replace f5 := shm_12 f5
  replace f6 := shm_38 f6
  rw [show v_iv (n_v vs 9) = 60 from by omega] at f6
  replace f7 := shm_522 f7
  replace f8 := shm_734 f8
  replace f9 := shm_735 f9
  replace f10 := shm_736 f10
  replace f11 := shm_521 f11
  replace f12 := shm_5 f12
  replace f13 := shm_5 f13
  have q4 : n_v vs 4 = n_v vs 0 := f12.symm
  have q5 : n_v vs 5 = n_v vs 1 := f13.symm
  simp only [q4, q5] at f3 f6 f7 f8 f9 f10 f11
  have cr_0_17 := fdq_189 hD hth r0
  have cr_0_33 := fdq_117 hD hth r0
  have cr_0_34 := fdq_118 hD hth r0
  have cr_0_35 := fdq_132 hD hth r0
  have cr_0_40 := fdq_133 hD hth r0
  have cr_0_41 := fdq_134 hD hth r0
  have cr_0_43 := fdq_137 hD hth r0
  have cr_0_46 := fdq_190 hD hth r0
  have ad_13 : v_ad (n_v vs 13) = w_ar ws (n_v vs 0) 46 := congrArg v_ad f3
  have ad_8 : v_ad (n_v vs 8) = w_ar ws (n_v vs 0) 41 := congrArg v_ad f7
  simp only [ad_13] at f2
  have h2 : v_iv (n_v vs 15) = w_ei ws (w_ar ws (n_v vs 0) 46) (v_iv (n_v vs 14)) := f2
  simp only [ad_8] at f4
  have h4 : v_iv (n_v vs 12) = w_ei ws (w_ar ws (n_v vs 0) 41) (v_iv (n_v vs 11)) := f4
  have hK_0_17 := elq_113 hD hth cr_0_17
  have hK_0_33 := elq_60 hD hth cr_0_33
  have hK_0_34 := elq_61 hD hth cr_0_34
  have hK_0_35 := elq_72 hD hth cr_0_35
  have hK_0_40 := elq_73 hD hth cr_0_40
  have hK_0_41 := elq_74 hD hth cr_0_41
  have hK_0_43 := elq_76 hD hth cr_0_43
  have hK_0_46 := elq_114 hD hth cr_0_46
  have kz_0_31 := fdq_145 hD hth r0
  have kz_0_32 := fdq_140 hD hth r0
  have kz_0_39 := fdq_135 hD hth r0
  have kz_0_45 := fdq_191 hD hth r0
  have nf0 : fc_1 PRD (20, [4, 2, 5, 16], [60, 4, 8, 144, 31, 32, 39, 45, 33, 34, 35, 17, 43, 40, 41, 46]) ws (vs) := by
    refine ⟨nf_in hl rfl, sgq_736 ?_⟩
    · show S1 (w_fi ws (n_v vs 4) 31) (w_fi ws (n_v vs 4) 32) (w_fi ws (n_v vs 4) 39) (w_fi ws (n_v vs 4) 45) (w_ei ws (w_ar ws (n_v vs 4) 33)) (w_ei ws (w_ar ws (n_v vs 4) 34)) (w_ei ws (w_ar ws (n_v vs 4) 35)) (w_ei ws (w_ar ws (n_v vs 4) 17)) (w_ei ws (w_ar ws (n_v vs 4) 43)) (w_ei ws (w_ar ws (n_v vs 4) 40)) (w_ei ws (w_ar ws (n_v vs 4) 41)) (w_ei ws (w_ar ws (n_v vs 4) 46)) (v_iv (n_v vs 2)) (v_iv (n_v vs 5)) (v_iv (n_v vs 16))
      simp only [q4, q5]
      exact vc_Mo_split_4_0 (v_iv (n_v vs 1)) (v_iv (n_v vs 2)) (v_iv (n_v vs 3)) (v_iv (n_v vs 5)) (v_iv (n_v vs 6)) (v_iv (n_v vs 7)) (v_iv (n_v vs 9)) (v_iv (n_v vs 10)) (v_iv (n_v vs 11)) (v_iv (n_v vs 12)) (v_iv (n_v vs 14)) (v_iv (n_v vs 15)) (v_iv (n_v vs 16)) (w_ei ws (w_ar ws (n_v vs 0) 46)) (w_ei ws (w_ar ws (n_v vs 0) 41)) (w_fi ws (n_v vs 0) 39) (w_ei ws (w_ar ws (n_v vs 0) 33)) (w_ei ws (w_ar ws (n_v vs 0) 34)) (w_ei ws (w_ar ws (n_v vs 0) 35)) (w_ei ws (w_ar ws (n_v vs 0) 17)) (w_ei ws (w_ar ws (n_v vs 0) 43)) (w_ei ws (w_ar ws (n_v vs 0) 40)) (w_fi ws (n_v vs 0) 31) (w_fi ws (n_v vs 0) 32) (w_fi ws (n_v vs 0) 45) k1 k2 k3 k5 k6 k7 k9 k10 k11 k12 k14 k15 k16 d0 d1 d2 d3 d4 f0 f1 h2 h4 f5 f6 f8 f9 f10 f11 hK_0_17 hK_0_33 hK_0_34 hK_0_35 hK_0_40 hK_0_41 hK_0_43 hK_0_46 kz_0_31 kz_0_32 kz_0_39 kz_0_45
  refine ⟨(fun _ h => (by cases h)), [], trivial, ?_, (fun _ h => (by cases h))⟩
  rw [List.append_nil]
  exact List.forall_mem_cons.mpr ⟨⟨show (20 : Nat) < 100 from by decide, nf0⟩, (fun _ h => (by cases h))⟩
set_option maxHeartbeats 4000000 in
theorem vc_Mo_split_5_0 (x1 : Int) (x2 : Int) (x3 : Int) (x5 : Int) (x6 : Int) (x7 : Int) (x8 : Int) (x9 : Int) (faces_0 : Int) (pt_0 : Int → Int) (ph_0 : Int → Int) (alive_0 : Int → Int) (blockOf_0 : Int → Int) (drawnEdge_0 : Int → Int) (faceMany_0 : Int → Int) (face_0 : Int → Int) (way_0 : Int → Int) (line_0 : Int → Int) (pn_0 : Int) (pm_0 : Int) (wayMany_0 : Int) (k1 : 0 ≤ x1 ∧ x1 ≤ 119) (k2 : 0 ≤ x2 ∧ x2 ≤ 79) (k3 : (-2) ≤ x3 ∧ x3 ≤ 120) (k5 : 0 ≤ x5 ∧ x5 ≤ 119) (k6 : 3 ≤ x6 ∧ x6 ≤ 25) (k7 : 0 ≤ x7 ∧ x7 ≤ 24) (k8 : 3 ≤ x8 ∧ x8 ≤ 25) (k9 : 0 ≤ x9 ∧ x9 ≤ 0) (d0 : x6 + 0 ≤ x8 ∧ x8 ≤ x6 + 4294967296) (d1 : x5 + (-4294967296) ≤ x1 ∧ x1 ≤ x5 + 0) (d2 : x1 + (-4294967296) ≤ x5 ∧ x5 ≤ x1 + 0) (f0 : x6 ≤ x8) (f1 : faces_0 ≤ 118) (f2 : (-1) * faces_0 + ((-1) * x3 + 0) ≤ (-120)) (f3 : S2 (pn_0) (pm_0) (faces_0) (wayMany_0) (pt_0) (ph_0) (alive_0) (blockOf_0) (drawnEdge_0) (faceMany_0) (face_0) (way_0) (line_0) (x2) (x1) (x7) (x6) (x8)) (hK_0_17 : ∀ j : Int, 0 ≤ j → j < 80 → (-1) ≤ blockOf_0 j ∧ blockOf_0 j ≤ 79) (hK_0_20 : ∀ j : Int, 0 ≤ j → j < 100 → (-1000000) ≤ line_0 j ∧ line_0 j ≤ 1000000) (hK_0_33 : ∀ j : Int, 0 ≤ j → j < 80 → 0 ≤ pt_0 j ∧ pt_0 j ≤ 24) (hK_0_34 : ∀ j : Int, 0 ≤ j → j < 80 → 0 ≤ ph_0 j ∧ ph_0 j ≤ 24) (hK_0_35 : ∀ j : Int, 0 ≤ j → j < 80 → 0 ≤ alive_0 j ∧ alive_0 j ≤ 1) (hK_0_40 : ∀ j : Int, 0 ≤ j → j < 120 → 0 ≤ faceMany_0 j ∧ faceMany_0 j ≤ 60) (hK_0_41 : ∀ j : Int, 0 ≤ j → j < 7200 → 0 ≤ face_0 j ∧ face_0 j ≤ 24) (hK_0_43 : ∀ j : Int, 0 ≤ j → j < 80 → 0 ≤ drawnEdge_0 j ∧ drawnEdge_0 j ≤ 1) (hK_0_46 : ∀ j : Int, 0 ≤ j → j < 30 → 0 ≤ way_0 j ∧ way_0 j ≤ 24) (kz_0_31 : 0 ≤ pn_0 ∧ pn_0 ≤ 25) (kz_0_32 : 0 ≤ pm_0 ∧ pm_0 ≤ 80) (kz_0_39 : 0 ≤ faces_0 ∧ faces_0 ≤ 120) (kz_0_45 : 0 ≤ wayMany_0 ∧ wayMany_0 ≤ 30) : S3 (pn_0) (pm_0) (faces_0) (wayMany_0) (pt_0) (ph_0) (alive_0) (blockOf_0) (drawnEdge_0) (faceMany_0) (face_0) (way_0) (line_0) (x2) (x1) (x6) (x9) := by
  first
    | exact ⟨spl_of ‹S2 _ _ _ _ _ _ _ _ _ _ _ _ _ _ _ _ _ _› (by omega), fun j a b => by exfalso; omega⟩
    | exact s3_next (c := x8) ‹S3 _ _ _ _ _ _ _ _ _ _ _ _ _ _ _ _ _› (by omega) (by rw [show wayMany_0 - 1 = x14 by omega]; omega)
def o_Mo_split_5 : or_T := (76, 10, [(0, (2, 0, 0, [165])), (1, (0, 0, 119, [])), (2, (0, 0, 79, [])), (3, (0, -2, 120, [])), (5, (0, 0, 119, [])), (6, (0, 3, 25, [])), (7, (0, 0, 24, [])), (8, (0, 3, 25, [])), (9, (0, 0, 0, []))], [(7, [8, 6], [3]), (20, [4], [50, 1, 0, 39, 0, 3, 2, 0, 39, 0, 118]), (20, [4, 3], [30, -120, -1, 1, 39, -1, 0, 0]), (20, [4, 2, 5, 7, 6, 8], [60, 4, 9, 145, 31, 32, 39, 45, 33, 34, 35, 17, 43, 40, 41, 46, 20]), (24, [0, 4], []), (24, [1, 5], [])], [], [], [(20, [4, 2, 5, 6, 9], [60, 4, 9, 146, 31, 32, 39, 45, 33, 34, 35, 17, 43, 40, 41, 46, 20])], [], [(8, 6, 0, 4294967296), (1, 5, -4294967296, 0), (5, 1, -4294967296, 0)])
theorem oo_Mo_split_5 {kA : Nat → ClassId} : or_ok PRD kA GG o_Mo_split_5 := by
  refine or_mk fun A ta ws vs hD hth hl => ?_
  intro t0 r0 t1 k1 t2 k2 t3 k3 t5 k5 t6 k6 t7 k7 t8 k8 t9 k9 d0 d1 d2 f0 f1 f2 f3 f4 f5
  replace f0 := shm_2 f0
  replace f1 := shm_734 f1
  replace f2 := shm_735 f2
  replace f3 := shm_738 f3
  replace f4 := shm_5 f4
  replace f5 := shm_5 f5
  have q4 : n_v vs 4 = n_v vs 0 := f4.symm
  have q5 : n_v vs 5 = n_v vs 1 := f5.symm
  simp only [q4, q5] at f1 f2 f3
  have cr_0_17 := fdq_189 hD hth r0
  have cr_0_20 := fdq_192 hD hth r0
  have cr_0_33 := fdq_117 hD hth r0
  have cr_0_34 := fdq_118 hD hth r0
  have cr_0_35 := fdq_132 hD hth r0
  have cr_0_40 := fdq_133 hD hth r0
  have cr_0_41 := fdq_134 hD hth r0
  have cr_0_43 := fdq_137 hD hth r0
  have cr_0_46 := fdq_190 hD hth r0
  have hK_0_17 := elq_113 hD hth cr_0_17
  have hK_0_20 := elq_115 hD hth cr_0_20
  have hK_0_33 := elq_60 hD hth cr_0_33
  have hK_0_34 := elq_61 hD hth cr_0_34
  have hK_0_35 := elq_72 hD hth cr_0_35
  have hK_0_40 := elq_73 hD hth cr_0_40
  have hK_0_41 := elq_74 hD hth cr_0_41
  have hK_0_43 := elq_76 hD hth cr_0_43
  have hK_0_46 := elq_114 hD hth cr_0_46
  have kz_0_31 := fdq_145 hD hth r0
  have kz_0_32 := fdq_140 hD hth r0
  have kz_0_39 := fdq_135 hD hth r0
  have kz_0_45 := fdq_191 hD hth r0
  have nf0 : fc_1 PRD (20, [4, 2, 5, 6, 9], [60, 4, 9, 146, 31, 32, 39, 45, 33, 34, 35, 17, 43, 40, 41, 46, 20]) ws (vs) := by
    refine ⟨nf_in hl rfl, sgq_739 ?_⟩
    · show S3 (w_fi ws (n_v vs 4) 31) (w_fi ws (n_v vs 4) 32) (w_fi ws (n_v vs 4) 39) (w_fi ws (n_v vs 4) 45) (w_ei ws (w_ar ws (n_v vs 4) 33)) (w_ei ws (w_ar ws (n_v vs 4) 34)) (w_ei ws (w_ar ws (n_v vs 4) 35)) (w_ei ws (w_ar ws (n_v vs 4) 17)) (w_ei ws (w_ar ws (n_v vs 4) 43)) (w_ei ws (w_ar ws (n_v vs 4) 40)) (w_ei ws (w_ar ws (n_v vs 4) 41)) (w_ei ws (w_ar ws (n_v vs 4) 46)) (w_ei ws (w_ar ws (n_v vs 4) 20)) (v_iv (n_v vs 2)) (v_iv (n_v vs 5)) (v_iv (n_v vs 6)) (v_iv (n_v vs 9))
      simp only [q4, q5]
      exact vc_Mo_split_5_0 (v_iv (n_v vs 1)) (v_iv (n_v vs 2)) (v_iv (n_v vs 3)) (v_iv (n_v vs 5)) (v_iv (n_v vs 6)) (v_iv (n_v vs 7)) (v_iv (n_v vs 8)) (v_iv (n_v vs 9)) (w_fi ws (n_v vs 0) 39) (w_ei ws (w_ar ws (n_v vs 0) 33)) (w_ei ws (w_ar ws (n_v vs 0) 34)) (w_ei ws (w_ar ws (n_v vs 0) 35)) (w_ei ws (w_ar ws (n_v vs 0) 17)) (w_ei ws (w_ar ws (n_v vs 0) 43)) (w_ei ws (w_ar ws (n_v vs 0) 40)) (w_ei ws (w_ar ws (n_v vs 0) 41)) (w_ei ws (w_ar ws (n_v vs 0) 46)) (w_ei ws (w_ar ws (n_v vs 0) 20)) (w_fi ws (n_v vs 0) 31) (w_fi ws (n_v vs 0) 32) (w_fi ws (n_v vs 0) 45) k1 k2 k3 k5 k6 k7 k8 k9 d0 d1 d2 f0 f1 f2 f3 hK_0_17 hK_0_20 hK_0_33 hK_0_34 hK_0_35 hK_0_40 hK_0_41 hK_0_43 hK_0_46 kz_0_31 kz_0_32 kz_0_39 kz_0_45
  refine ⟨(fun _ h => (by cases h)), [], trivial, ?_, (fun _ h => (by cases h))⟩
  rw [List.append_nil]
  exact List.forall_mem_cons.mpr ⟨⟨show (20 : Nat) < 100 from by decide, nf0⟩, (fun _ h => (by cases h))⟩
set_option maxHeartbeats 4000000 in
theorem vc_Mo_split_6_0 (x1 : Int) (x2 : Int) (x3 : Int) (x5 : Int) (x6 : Int) (x7 : Int) (x8 : Int) (x11 : Int) (x12 : Int) (x13 : Int) (x14 : Int) (x15 : Int) (x16 : Int) (x17 : Int) (faces_0 : Int) (face_1 : Int → Int) (faces_1 : Int) (pt_1 : Int → Int) (ph_1 : Int → Int) (alive_1 : Int → Int) (blockOf_1 : Int → Int) (drawnEdge_1 : Int → Int) (faceMany_1 : Int → Int) (way_1 : Int → Int) (line_1 : Int → Int) (pn_1 : Int) (pm_1 : Int) (wayMany_1 : Int) (pn_0 : Int) (pm_0 : Int) (wayMany_0 : Int) (blockOf_0 : Int → Int) (line_0 : Int → Int) (pt_0 : Int → Int) (ph_0 : Int → Int) (alive_0 : Int → Int) (faceMany_0 : Int → Int) (face_0 : Int → Int) (drawnEdge_0 : Int → Int) (way_0 : Int → Int) (k1 : 0 ≤ x1 ∧ x1 ≤ 119) (k2 : 0 ≤ x2 ∧ x2 ≤ 79) (k3 : (-2) ≤ x3 ∧ x3 ≤ 120) (k5 : 0 ≤ x5 ∧ x5 ≤ 119) (k6 : 3 ≤ x6 ∧ x6 ≤ 25) (k7 : 0 ≤ x7 ∧ x7 ≤ 24) (k8 : 0 ≤ x8 ∧ x8 ≤ 24) (k11 : 60 ≤ x11 ∧ x11 ≤ 60) (k12 : 0 ≤ x12 ∧ x12 ≤ 7140) (k13 : 0 ≤ x13 ∧ x13 ≤ 48) (k14 : 0 ≤ x14 ∧ x14 ≤ 24) (k15 : 0 ≤ x15 ∧ x15 ≤ 7164) (k16 : 0 ≤ x16 ∧ x16 ≤ 24) (k17 : 1 ≤ x17 ∧ x17 ≤ 25) (d0 : x8 + 1 ≤ x17 ∧ x17 ≤ x8 + 1) (d1 : x6 + (-4294967296) ≤ x17 ∧ x17 ≤ x6 + 0) (d2 : x14 + 0 ≤ x15 ∧ x15 ≤ x14 + 7140) (d3 : x6 + (-4294967295) ≤ x15 ∧ x15 ≤ x6 + 7139) (d4 : x12 + 0 ≤ x15 ∧ x15 ≤ x12 + 24) (d5 : x6 + (-4294967295) ≤ x14 ∧ x14 ≤ x6 + (-1)) (d6 : x8 + 0 ≤ x13 ∧ x13 ≤ x8 + 24) (d7 : x6 + (-4294967296) ≤ x13 ∧ x13 ≤ x6 + 23) (d8 : x7 + 0 ≤ x13 ∧ x13 ≤ x7 + 24) (d9 : x6 + (-4294967296) ≤ x8 ∧ x8 ≤ x6 + (-1)) (d10 : x5 + (-4294967296) ≤ x1 ∧ x1 ≤ x5 + 0) (d11 : x1 + (-4294967296) ≤ x5 ∧ x5 ≤ x1 + 0) (f0 : x17 = x8 + 1) (f1 : faces_0 ≤ 118) (f2 : (-1) * faces_0 + ((-1) * x3 + 0) ≤ (-120)) (h6 : x16 = face_1 (x15)) (f7 : x15 = x12 + x14) (f8 : x14 = Int.tmod (x13) (x6)) (f9 : x13 = x7 + x8) (f10 : x12 = 60 * x1) (f13 : x8 < x6) (f14 : faces_1 ≤ 118) (f15 : (-1) * faces_1 + ((-1) * x3 + 0) ≤ (-120)) (f16 : S2 (pn_1) (pm_1) (faces_1) (wayMany_1) (pt_1) (ph_1) (alive_1) (blockOf_1) (drawnEdge_1) (faceMany_1) (face_1) (way_1) (line_1) (x2) (x1) (x7) (x6) (x8)) (fe_0_31_1 : pn_0 = pn_1) (fe_0_32_1 : pm_0 = pm_1) (fe_0_39_1 : faces_0 = faces_1) (fe_0_45_1 : wayMany_0 = wayMany_1) (hE_0_17_1 : ∀ j : Int, blockOf_0 j = blockOf_1 j) (hK_0_17 : ∀ j : Int, 0 ≤ j → j < 80 → (-1) ≤ blockOf_0 j ∧ blockOf_0 j ≤ 79) (hE_0_20_1 : ∀ j : Int, 0 ≤ j → (j = x8 → line_0 j = x16) ∧ (j ≠ x8 → line_0 j = line_1 j)) (hK_0_20 : ∀ j : Int, 0 ≤ j → j < 100 → (-1000000) ≤ line_0 j ∧ line_0 j ≤ 1000000) (hE_0_33_1 : ∀ j : Int, pt_0 j = pt_1 j) (hK_0_33 : ∀ j : Int, 0 ≤ j → j < 80 → 0 ≤ pt_0 j ∧ pt_0 j ≤ 24) (hE_0_34_1 : ∀ j : Int, ph_0 j = ph_1 j) (hK_0_34 : ∀ j : Int, 0 ≤ j → j < 80 → 0 ≤ ph_0 j ∧ ph_0 j ≤ 24) (hE_0_35_1 : ∀ j : Int, alive_0 j = alive_1 j) (hK_0_35 : ∀ j : Int, 0 ≤ j → j < 80 → 0 ≤ alive_0 j ∧ alive_0 j ≤ 1) (hE_0_40_1 : ∀ j : Int, faceMany_0 j = faceMany_1 j) (hK_0_40 : ∀ j : Int, 0 ≤ j → j < 120 → 0 ≤ faceMany_0 j ∧ faceMany_0 j ≤ 60) (hE_0_41_1 : ∀ j : Int, face_0 j = face_1 j) (hK_0_41 : ∀ j : Int, 0 ≤ j → j < 7200 → 0 ≤ face_0 j ∧ face_0 j ≤ 24) (hE_0_43_1 : ∀ j : Int, drawnEdge_0 j = drawnEdge_1 j) (hK_0_43 : ∀ j : Int, 0 ≤ j → j < 80 → 0 ≤ drawnEdge_0 j ∧ drawnEdge_0 j ≤ 1) (hE_0_46_1 : ∀ j : Int, way_0 j = way_1 j) (hK_0_46 : ∀ j : Int, 0 ≤ j → j < 30 → 0 ≤ way_0 j ∧ way_0 j ≤ 24) (kz_0_31 : 0 ≤ pn_0 ∧ pn_0 ≤ 25) (kz_0_32 : 0 ≤ pm_0 ∧ pm_0 ≤ 80) (kz_0_39 : 0 ≤ faces_0 ∧ faces_0 ≤ 120) (kz_0_45 : 0 ≤ wayMany_0 ∧ wayMany_0 ≤ 30) : S2 (pn_0) (pm_0) (faces_0) (wayMany_0) (pt_0) (ph_0) (alive_0) (blockOf_0) (drawnEdge_0) (faceMany_0) (face_0) (way_0) (line_0) (x2) (x1) (x7) (x6) (x17) := by
  subst fe_0_31_1
  subst fe_0_32_1
  subst fe_0_39_1
  subst fe_0_45_1
  have e_hE_0_17_1 := funext hE_0_17_1; subst e_hE_0_17_1
  have e_hE_0_33_1 := funext hE_0_33_1; subst e_hE_0_33_1
  have e_hE_0_34_1 := funext hE_0_34_1; subst e_hE_0_34_1
  have e_hE_0_35_1 := funext hE_0_35_1; subst e_hE_0_35_1
  have e_hE_0_40_1 := funext hE_0_40_1; subst e_hE_0_40_1
  have e_hE_0_41_1 := funext hE_0_41_1; subst e_hE_0_41_1
  have e_hE_0_43_1 := funext hE_0_43_1; subst e_hE_0_43_1
  have e_hE_0_46_1 := funext hE_0_46_1; subst e_hE_0_46_1
  first
    | (obtain rfl : x9 = 60 := by omega
       have h := ‹S1 _ _ _ _ _ _ _ _ _ _ _ _ _ _ _›
       have hl := s1_lt h
       exact ⟨h.1, by omega, by omega, by omega, by unfold rwf; rw [show 60 * x1 + x7 = x11 by omega, show (0 : Int) = x14 by omega]; omega, fun j a b => by exfalso; omega⟩)
    | (obtain rfl : x11 = 60 := by omega
       have h := ‹S2 _ _ _ _ _ _ _ _ _ _ _ _ _ _ _ _ _ _›
       refine ⟨h.1, h.2.1, h.2.2.1, h.2.2.2.1, h.2.2.2.2.1, fun j a b => ?_⟩
       by_cases q : j = x8
       · rw [q, (hE_0_20_1 x8 (by omega)).1 rfl]
         unfold rwf
         rw [show 60 * x1 + (x7 + x8) % x6 = x15 by first | omega | (rw [show (x7 + x8) % x6 = x14 by (rw [show x7 + x8 = x13 by omega]; first | omega | (rw [← Int.tmod_eq_emod_of_nonneg (by omega)]; symm; assumption))]; omega)]
         omega
       · rw [(hE_0_20_1 j a).2 q]; exact h.2.2.2.2.2 j a (by omega))
def o_Mo_split_6 : or_T := (38, 18, [(0, (2, 0, 0, [165])), (1, (0, 0, 119, [])), (2, (0, 0, 79, [])), (3, (0, -2, 120, [])), (5, (0, 0, 119, [])), (6, (0, 3, 25, [])), (7, (0, 0, 24, [])), (8, (0, 0, 24, [])), (9, (2, 0, 0, [175])), (11, (0, 60, 60, [])), (12, (0, 0, 7140, [])), (13, (0, 0, 48, [])), (14, (0, 0, 24, [])), (15, (0, 0, 7164, [])), (16, (0, 0, 24, [])), (17, (0, 1, 25, []))], [(6, [17, 8], [1]), (20, [4], [50, 1, 0, 39, 0, 3, 2, 0, 39, 0, 118]), (20, [4, 3], [30, -120, -1, 1, 39, -1, 0, 0]), (24, [0, 4], []), (24, [1, 5], []), (100, [9, 8, 16], []), (10, [16, 10, 15], []), (1, [15, 12, 14], []), (5, [14, 13, 6], []), (1, [13, 7, 8], []), (3, [12, 11, 5], []), (9, [10, 4], [41]), (9, [9, 4], [20]), (7, [8, 6], [2]), (20, [4], [50, 1, 0, 39, 0, 3, 2, 0, 39, 0, 118]), (20, [4, 3], [30, -120, -1, 1, 39, -1, 0, 0]), (20, [4, 2, 5, 7, 6, 8], [60, 4, 9, 145, 31, 32, 39, 45, 33, 34, 35, 17, 43, 40, 41, 46, 20])], [], [], [(20, [4, 2, 5, 7, 6, 17], [60, 4, 9, 145, 31, 32, 39, 45, 33, 34, 35, 17, 43, 40, 41, 46, 20])], [], [(17, 8, 1, 1), (17, 6, -4294967296, 0), (15, 14, 0, 7140), (15, 6, -4294967295, 7139), (15, 12, 0, 24), (14, 6, -4294967295, -1), (13, 8, 0, 24), (13, 6, -4294967296, 23), (13, 7, 0, 24), (8, 6, -4294967296, -1), (1, 5, -4294967296, 0), (5, 1, -4294967296, 0)])
theorem oo_Mo_split_6 {kA : Nat → ClassId} : or_ok PRD kA GG o_Mo_split_6 := by
  refine or_mk fun A ta ws vs hD hth hl => ?_
  intro t0 r0 t1 k1 t2 k2 t3 k3 t5 k5 t6 k6 t7 k7 t8 k8 t9 r9 t11 k11 t12 k12 t13 k13 t14 k14 t15 k15 t16 k16 t17 k17 d0 d1 d2 d3 d4 d5 d6 d7 d8 d9 d10 d11 f0 f1 f2 f3 f4 ta1 w1 le1 s1 f6 f7 f8 f9 f10 f11 f12 f13 f14 f15 f16
  replace f0 := shm_4 f0
  replace f1 := shm_734 f1
  replace f2 := shm_735 f2
  replace f3 := shm_5 f3
  replace f4 := shm_5 f4
  have s1 : (∀ b j, w_el ws b j = if b = v_ad (n_v vs 9) ∧ j = (v_iv (n_v vs 8)).toNat then v_iv (n_v vs 16) else w_el w1 b j) ∧ ∀ b k, w_fd ws b k = w_fd w1 b k := s1.2
  replace f6 := shm_107 f6
  replace f7 := shm_12 f7
  replace f8 := shm_468 f8
  replace f9 := shm_12 f9
  replace f10 := shm_38 f10
  rw [show v_iv (n_v vs 11) = 60 from by omega] at f10
  replace f11 := shm_522 f11
  replace f12 := shm_740 f12
  replace f13 := shm_6 f13
  replace f14 := shm_734 f14
  replace f15 := shm_735 f15
  replace f16 := shm_738 f16
  have q4 : n_v vs 4 = n_v vs 0 := f3.symm
  have q5 : n_v vs 5 = n_v vs 1 := f4.symm
  simp only [q4, q5] at f1 f2 f10 f11 f12 f14 f15 f16
  have ar_0_17_1 : w_ar w1 (n_v vs 0) 17 = w_ar ws (n_v vs 0) 17 := congrArg v_ad (s1.2 _ _).symm
  have cr_0_17 := fdq_189 hD hth r0
  have ar_0_20_1 : w_ar w1 (n_v vs 0) 20 = w_ar ws (n_v vs 0) 20 := congrArg v_ad (s1.2 _ _).symm
  have cr_0_20 := fdq_192 hD hth r0
  have ar_0_33_1 : w_ar w1 (n_v vs 0) 33 = w_ar ws (n_v vs 0) 33 := congrArg v_ad (s1.2 _ _).symm
  have cr_0_33 := fdq_117 hD hth r0
  have ar_0_34_1 : w_ar w1 (n_v vs 0) 34 = w_ar ws (n_v vs 0) 34 := congrArg v_ad (s1.2 _ _).symm
  have cr_0_34 := fdq_118 hD hth r0
  have ar_0_35_1 : w_ar w1 (n_v vs 0) 35 = w_ar ws (n_v vs 0) 35 := congrArg v_ad (s1.2 _ _).symm
  have cr_0_35 := fdq_132 hD hth r0
  have ar_0_40_1 : w_ar w1 (n_v vs 0) 40 = w_ar ws (n_v vs 0) 40 := congrArg v_ad (s1.2 _ _).symm
  have cr_0_40 := fdq_133 hD hth r0
  have ar_0_41_1 : w_ar w1 (n_v vs 0) 41 = w_ar ws (n_v vs 0) 41 := congrArg v_ad (s1.2 _ _).symm
  have cr_0_41 := fdq_134 hD hth r0
  have ar_0_43_1 : w_ar w1 (n_v vs 0) 43 = w_ar ws (n_v vs 0) 43 := congrArg v_ad (s1.2 _ _).symm
  have cr_0_43 := fdq_137 hD hth r0
  have ar_0_46_1 : w_ar w1 (n_v vs 0) 46 = w_ar ws (n_v vs 0) 46 := congrArg v_ad (s1.2 _ _).symm
  have cr_0_46 := fdq_190 hD hth r0
  have ad_10 : v_ad (n_v vs 10) = w_ar ws (n_v vs 0) 41 := (congrArg v_ad f11).trans ar_0_41_1
  have ad_9 : v_ad (n_v vs 9) = w_ar ws (n_v vs 0) 20 := (congrArg v_ad f12).trans ar_0_20_1
  simp only [ad_10] at f6
  have h6 : v_iv (n_v vs 16) = w_ei w1 (w_ar ws (n_v vs 0) 41) (v_iv (n_v vs 15)) := f6
  simp only [ar_0_17_1, ar_0_20_1, ar_0_33_1, ar_0_34_1, ar_0_35_1, ar_0_40_1, ar_0_41_1, ar_0_43_1, ar_0_46_1] at f16
  have fe_0_31_1 : w_fi ws (n_v vs 0) 31 = w_fi w1 (n_v vs 0) 31 := congrArg v_iv (s1.2 _ _)
  have fe_0_32_1 : w_fi ws (n_v vs 0) 32 = w_fi w1 (n_v vs 0) 32 := congrArg v_iv (s1.2 _ _)
  have fe_0_39_1 : w_fi ws (n_v vs 0) 39 = w_fi w1 (n_v vs 0) 39 := congrArg v_iv (s1.2 _ _)
  have fe_0_45_1 : w_fi ws (n_v vs 0) 45 = w_fi w1 (n_v vs 0) 45 := congrArg v_iv (s1.2 _ _)
  have hE_0_17_1 : ∀ j : Int, w_ei ws (w_ar ws (n_v vs 0) 17) j = w_ei w1 (w_ar ws (n_v vs 0) 17) j := el_kp s1.1 r9 cr_0_17 (by decide)
  have hK_0_17 := elq_113 hD hth cr_0_17
  have hE_0_20_1 : ∀ j : Int, 0 ≤ j → (j = v_iv (n_v vs 8) → w_ei ws (w_ar ws (n_v vs 0) 20) j = v_iv (n_v vs 16)) ∧ (j ≠ v_iv (n_v vs 8) → w_ei ws (w_ar ws (n_v vs 0) 20) j = w_ei w1 (w_ar ws (n_v vs 0) 20) j) := fun j hj => ⟨fun h => by unfold w_ei; rw [s1.1, if_pos ⟨ad_9.symm, by rw [h]⟩], fun h => by unfold w_ei; rw [s1.1, if_neg (fun e => h (by have := e.2; omega))]⟩
  have hK_0_20 := elq_115 hD hth cr_0_20
  have hE_0_33_1 : ∀ j : Int, w_ei ws (w_ar ws (n_v vs 0) 33) j = w_ei w1 (w_ar ws (n_v vs 0) 33) j := el_kp s1.1 r9 cr_0_33 (by decide)
  have hK_0_33 := elq_60 hD hth cr_0_33
  have hE_0_34_1 : ∀ j : Int, w_ei ws (w_ar ws (n_v vs 0) 34) j = w_ei w1 (w_ar ws (n_v vs 0) 34) j := el_kp s1.1 r9 cr_0_34 (by decide)
  have hK_0_34 := elq_61 hD hth cr_0_34
  have hE_0_35_1 : ∀ j : Int, w_ei ws (w_ar ws (n_v vs 0) 35) j = w_ei w1 (w_ar ws (n_v vs 0) 35) j := el_kp s1.1 r9 cr_0_35 (by decide)
  have hK_0_35 := elq_72 hD hth cr_0_35
  have hE_0_40_1 : ∀ j : Int, w_ei ws (w_ar ws (n_v vs 0) 40) j = w_ei w1 (w_ar ws (n_v vs 0) 40) j := el_kp s1.1 r9 cr_0_40 (by decide)
  have hK_0_40 := elq_73 hD hth cr_0_40
  have hE_0_41_1 : ∀ j : Int, w_ei ws (w_ar ws (n_v vs 0) 41) j = w_ei w1 (w_ar ws (n_v vs 0) 41) j := el_kp s1.1 r9 cr_0_41 (by decide)
  have hK_0_41 := elq_74 hD hth cr_0_41
  have hE_0_43_1 : ∀ j : Int, w_ei ws (w_ar ws (n_v vs 0) 43) j = w_ei w1 (w_ar ws (n_v vs 0) 43) j := el_kp s1.1 r9 cr_0_43 (by decide)
  have hK_0_43 := elq_76 hD hth cr_0_43
  have hE_0_46_1 : ∀ j : Int, w_ei ws (w_ar ws (n_v vs 0) 46) j = w_ei w1 (w_ar ws (n_v vs 0) 46) j := el_kp s1.1 r9 cr_0_46 (by decide)
  have hK_0_46 := elq_114 hD hth cr_0_46
  have kz_0_31 := fdq_145 hD hth r0
  have kz_0_32 := fdq_140 hD hth r0
  have kz_0_39 := fdq_135 hD hth r0
  have kz_0_45 := fdq_191 hD hth r0
  have nf0 : fc_1 PRD (20, [4, 2, 5, 7, 6, 17], [60, 4, 9, 145, 31, 32, 39, 45, 33, 34, 35, 17, 43, 40, 41, 46, 20]) ws (vs) := by
    refine ⟨nf_in hl rfl, sgq_738 ?_⟩
    · show S2 (w_fi ws (n_v vs 4) 31) (w_fi ws (n_v vs 4) 32) (w_fi ws (n_v vs 4) 39) (w_fi ws (n_v vs 4) 45) (w_ei ws (w_ar ws (n_v vs 4) 33)) (w_ei ws (w_ar ws (n_v vs 4) 34)) (w_ei ws (w_ar ws (n_v vs 4) 35)) (w_ei ws (w_ar ws (n_v vs 4) 17)) (w_ei ws (w_ar ws (n_v vs 4) 43)) (w_ei ws (w_ar ws (n_v vs 4) 40)) (w_ei ws (w_ar ws (n_v vs 4) 41)) (w_ei ws (w_ar ws (n_v vs 4) 46)) (w_ei ws (w_ar ws (n_v vs 4) 20)) (v_iv (n_v vs 2)) (v_iv (n_v vs 5)) (v_iv (n_v vs 7)) (v_iv (n_v vs 6)) (v_iv (n_v vs 17))
      simp only [q4, q5]
      exact vc_Mo_split_6_0 (v_iv (n_v vs 1)) (v_iv (n_v vs 2)) (v_iv (n_v vs 3)) (v_iv (n_v vs 5)) (v_iv (n_v vs 6)) (v_iv (n_v vs 7)) (v_iv (n_v vs 8)) (v_iv (n_v vs 11)) (v_iv (n_v vs 12)) (v_iv (n_v vs 13)) (v_iv (n_v vs 14)) (v_iv (n_v vs 15)) (v_iv (n_v vs 16)) (v_iv (n_v vs 17)) (w_fi ws (n_v vs 0) 39) (w_ei w1 (w_ar ws (n_v vs 0) 41)) (w_fi w1 (n_v vs 0) 39) (w_ei w1 (w_ar ws (n_v vs 0) 33)) (w_ei w1 (w_ar ws (n_v vs 0) 34)) (w_ei w1 (w_ar ws (n_v vs 0) 35)) (w_ei w1 (w_ar ws (n_v vs 0) 17)) (w_ei w1 (w_ar ws (n_v vs 0) 43)) (w_ei w1 (w_ar ws (n_v vs 0) 40)) (w_ei w1 (w_ar ws (n_v vs 0) 46)) (w_ei w1 (w_ar ws (n_v vs 0) 20)) (w_fi w1 (n_v vs 0) 31) (w_fi w1 (n_v vs 0) 32) (w_fi w1 (n_v vs 0) 45) (w_fi ws (n_v vs 0) 31) (w_fi ws (n_v vs 0) 32) (w_fi ws (n_v vs 0) 45) (w_ei ws (w_ar ws (n_v vs 0) 17)) (w_ei ws (w_ar ws (n_v vs 0) 20)) (w_ei ws (w_ar ws (n_v vs 0) 33)) (w_ei ws (w_ar ws (n_v vs 0) 34)) (w_ei ws (w_ar ws (n_v vs 0) 35)) (w_ei ws (w_ar ws (n_v vs 0) 40)) (w_ei ws (w_ar ws (n_v vs 0) 41)) (w_ei ws (w_ar ws (n_v vs 0) 43)) (w_ei ws (w_ar ws (n_v vs 0) 46)) k1 k2 k3 k5 k6 k7 k8 k11 k12 k13 k14 k15 k16 k17 d0 d1 d2 d3 d4 d5 d6 d7 d8 d9 d10 d11 f0 f1 f2 h6 f7 f8 f9 f10 f13 f14 f15 f16 fe_0_31_1 fe_0_32_1 fe_0_39_1 fe_0_45_1 hE_0_17_1 hK_0_17 hE_0_20_1 hK_0_20 hE_0_33_1 hK_0_33 hE_0_34_1 hK_0_34 hE_0_35_1 hK_0_35 hE_0_40_1 hK_0_40 hE_0_41_1 hK_0_41 hE_0_43_1 hK_0_43 hE_0_46_1 hK_0_46 kz_0_31 kz_0_32 kz_0_39 kz_0_45
  refine ⟨(fun _ h => (by cases h)), [], trivial, ?_, (fun _ h => (by cases h))⟩
  rw [List.append_nil]
  exact List.forall_mem_cons.mpr ⟨⟨show (20 : Nat) < 100 from by decide, nf0⟩, (fun _ h => (by cases h))⟩
set_option maxHeartbeats 4000000 in
theorem vc_Mo_split_7_r0 (x1 : Int) (x2 : Int) (x3 : Int) (x5 : Int) (x6 : Int) (x8 : Int) (x10 : Int) (x12 : Int) (x13 : Int) (x14 : Int) (wayMany_0 : Int) (line_0 : Int → Int) (faces_0 : Int) (pt_0 : Int → Int) (ph_0 : Int → Int) (alive_0 : Int → Int) (blockOf_0 : Int → Int) (drawnEdge_0 : Int → Int) (faceMany_0 : Int → Int) (face_0 : Int → Int) (way_0 : Int → Int) (pn_0 : Int) (pm_0 : Int) (k1 : 0 ≤ x1 ∧ x1 ≤ 119) (k2 : 0 ≤ x2 ∧ x2 ≤ 79) (k3 : (-2) ≤ x3 ∧ x3 ≤ 120) (k5 : 0 ≤ x5 ∧ x5 ≤ 119) (k6 : 3 ≤ x6 ∧ x6 ≤ 25) (k8 : 0 ≤ x8 ∧ x8 ≤ 24) (k10 : (-1000000) ≤ x10 ∧ x10 ≤ 1000000) (k12 : 0 ≤ x12 ∧ x12 ≤ 30) (k13 : 1 ≤ x13 ∧ x13 ≤ 1) (k14 : (-1) ≤ x14 ∧ x14 ≤ 29) (d0 : x12 + (-1) ≤ x14 ∧ x14 ≤ x12 + (-1)) (d1 : x5 + (-4294967296) ≤ x1 ∧ x1 ≤ x5 + 0) (d2 : x1 + (-4294967296) ≤ x5 ∧ x5 ≤ x1 + 0) (f0 : x14 = x12 - x13) (g1 : x12 = wayMany_0) (h3 : x10 = line_0 (x8)) (f5 : faces_0 ≤ 118) (f6 : (-1) * faces_0 + ((-1) * x3 + 0) ≤ (-120)) (f7 : S3 (pn_0) (pm_0) (faces_0) (wayMany_0) (pt_0) (ph_0) (alive_0) (blockOf_0) (drawnEdge_0) (faceMany_0) (face_0) (way_0) (line_0) (x2) (x1) (x6) (x8)) (hK_0_17 : ∀ j : Int, 0 ≤ j → j < 80 → (-1) ≤ blockOf_0 j ∧ blockOf_0 j ≤ 79) (hK_0_20 : ∀ j : Int, 0 ≤ j → j < 100 → (-1000000) ≤ line_0 j ∧ line_0 j ≤ 1000000) (hK_0_33 : ∀ j : Int, 0 ≤ j → j < 80 → 0 ≤ pt_0 j ∧ pt_0 j ≤ 24) (hK_0_34 : ∀ j : Int, 0 ≤ j → j < 80 → 0 ≤ ph_0 j ∧ ph_0 j ≤ 24) (hK_0_35 : ∀ j : Int, 0 ≤ j → j < 80 → 0 ≤ alive_0 j ∧ alive_0 j ≤ 1) (hK_0_40 : ∀ j : Int, 0 ≤ j → j < 120 → 0 ≤ faceMany_0 j ∧ faceMany_0 j ≤ 60) (hK_0_41 : ∀ j : Int, 0 ≤ j → j < 7200 → 0 ≤ face_0 j ∧ face_0 j ≤ 24) (hK_0_43 : ∀ j : Int, 0 ≤ j → j < 80 → 0 ≤ drawnEdge_0 j ∧ drawnEdge_0 j ≤ 1) (hK_0_46 : ∀ j : Int, 0 ≤ j → j < 30 → 0 ≤ way_0 j ∧ way_0 j ≤ 24) (kz_0_31 : 0 ≤ pn_0 ∧ pn_0 ≤ 25) (kz_0_32 : 0 ≤ pm_0 ∧ pm_0 ≤ 80) (kz_0_39 : 0 ≤ faces_0 ∧ faces_0 ≤ 120) (kz_0_45 : 0 ≤ wayMany_0 ∧ wayMany_0 ≤ 30) : 1 ≤ x14 ∧ x14 ≤ 24 := by
  have hq := spl_len ‹S3 _ _ _ _ _ _ _ _ _ _ _ _ _ _ _ _ _›.1
  omega
def o_Mo_split_7 : or_T := (93, 15, [(0, (2, 0, 0, [165])), (1, (0, 0, 119, [])), (2, (0, 0, 79, [])), (3, (0, -2, 120, [])), (4, (2, 0, 0, [165])), (5, (0, 0, 119, [])), (6, (0, 3, 25, [])), (8, (0, 0, 24, [])), (9, (2, 0, 0, [175])), (10, (0, -1000000, 1000000, [])), (11, (2, 0, 0, [191])), (12, (0, 0, 30, [])), (13, (0, 1, 1, [])), (14, (0, -1, 29, []))], [(2, [14, 12, 13], []), (9, [12, 4], [45]), (9, [11, 4], [46]), (10, [10, 9, 8], []), (9, [9, 4], [20]), (20, [4], [50, 1, 0, 39, 0, 3, 2, 0, 39, 0, 118]), (20, [4, 3], [30, -120, -1, 1, 39, -1, 0, 0]), (20, [4, 2, 5, 6, 8], [60, 4, 9, 146, 31, 32, 39, 45, 33, 34, 35, 17, 43, 40, 41, 46, 20]), (24, [0, 4], []), (24, [1, 5], [])], [(14, (0, 1, 24, []))], [], [], [], [(14, 12, -1, -1), (1, 5, -4294967296, 0), (5, 1, -4294967296, 0)])
theorem oo_Mo_split_7 {kA : Nat → ClassId} : or_ok PRD kA GG o_Mo_split_7 := by
  refine or_mk fun A ta ws vs hD hth hl => ?_
  intro t0 r0 t1 k1 t2 k2 t3 k3 t4 r4 t5 k5 t6 k6 t8 k8 t9 r9 t10 k10 t11 r11 t12 k12 t13 k13 t14 k14 d0 d1 d2 f0 f1 f2 f3 f4 f5 f6 f7 f8 f9
  replace f1 := shm_741 f1
  replace f3 := shm_107 f3
  replace f4 := shm_740 f4
  replace f5 := shm_734 f5
  replace f6 := shm_735 f6
  replace f7 := shm_739 f7
  replace f8 := shm_5 f8
  replace f9 := shm_5 f9
  have q4 : n_v vs 4 = n_v vs 0 := f8.symm
  have q5 : n_v vs 5 = n_v vs 1 := f9.symm
  simp only [q4, q5] at f1 f4 f5 f6 f7
  have cr_0_17 := fdq_189 hD hth r0
  have cr_0_20 := fdq_192 hD hth r0
  have cr_0_33 := fdq_117 hD hth r0
  have cr_0_34 := fdq_118 hD hth r0
  have cr_0_35 := fdq_132 hD hth r0
  have cr_0_40 := fdq_133 hD hth r0
  have cr_0_41 := fdq_134 hD hth r0
  have cr_0_43 := fdq_137 hD hth r0
  have cr_0_46 := fdq_190 hD hth r0
  have ad_9 : v_ad (n_v vs 9) = w_ar ws (n_v vs 0) 20 := congrArg v_ad f4
  have g1 : v_iv (n_v vs 12) = w_fi ws (n_v vs 0) 45 := congrArg v_iv f1
  simp only [ad_9] at f3
  have h3 : v_iv (n_v vs 10) = w_ei ws (w_ar ws (n_v vs 0) 20) (v_iv (n_v vs 8)) := f3
  have hK_0_17 := elq_113 hD hth cr_0_17
  have hK_0_20 := elq_115 hD hth cr_0_20
  have hK_0_33 := elq_60 hD hth cr_0_33
  have hK_0_34 := elq_61 hD hth cr_0_34
  have hK_0_35 := elq_72 hD hth cr_0_35
  have hK_0_40 := elq_73 hD hth cr_0_40
  have hK_0_41 := elq_74 hD hth cr_0_41
  have hK_0_43 := elq_76 hD hth cr_0_43
  have hK_0_46 := elq_114 hD hth cr_0_46
  have kz_0_31 := fdq_145 hD hth r0
  have kz_0_32 := fdq_140 hD hth r0
  have kz_0_39 := fdq_135 hD hth r0
  have kz_0_45 := fdq_191 hD hth r0
  have hrf0 : 1 ≤ v_iv (n_v vs 14) ∧ v_iv (n_v vs 14) ≤ 24 := vc_Mo_split_7_r0 (v_iv (n_v vs 1)) (v_iv (n_v vs 2)) (v_iv (n_v vs 3)) (v_iv (n_v vs 5)) (v_iv (n_v vs 6)) (v_iv (n_v vs 8)) (v_iv (n_v vs 10)) (v_iv (n_v vs 12)) (v_iv (n_v vs 13)) (v_iv (n_v vs 14)) (w_fi ws (n_v vs 0) 45) (w_ei ws (w_ar ws (n_v vs 0) 20)) (w_fi ws (n_v vs 0) 39) (w_ei ws (w_ar ws (n_v vs 0) 33)) (w_ei ws (w_ar ws (n_v vs 0) 34)) (w_ei ws (w_ar ws (n_v vs 0) 35)) (w_ei ws (w_ar ws (n_v vs 0) 17)) (w_ei ws (w_ar ws (n_v vs 0) 43)) (w_ei ws (w_ar ws (n_v vs 0) 40)) (w_ei ws (w_ar ws (n_v vs 0) 41)) (w_ei ws (w_ar ws (n_v vs 0) 46)) (w_fi ws (n_v vs 0) 31) (w_fi ws (n_v vs 0) 32) k1 k2 k3 k5 k6 k8 k10 k12 k13 k14 d0 d1 d2 (shm_14 f0) g1 h3 f5 f6 f7 hK_0_17 hK_0_20 hK_0_33 hK_0_34 hK_0_35 hK_0_40 hK_0_41 hK_0_43 hK_0_46 kz_0_31 kz_0_32 kz_0_39 kz_0_45
  have rf14 : tv_ok ta (0, 1, 24, []) (n_v vs 14) := tv_in t14 (by first | omega | grind) (by first | omega | grind)
  refine ⟨List.forall_mem_cons.mpr ⟨rf14, (fun _ h => (by cases h))⟩, [], trivial, ?_, (fun _ h => (by cases h))⟩
  rw [List.append_nil]
  exact (fun _ h => (by cases h))
set_option maxHeartbeats 4000000 in
theorem vc_Mo_split_8_0 (x1 : Int) (x2 : Int) (x3 : Int) (x5 : Int) (x6 : Int) (x8 : Int) (x10 : Int) (x12 : Int) (x13 : Int) (x14 : Int) (x15 : Int) (x17 : Int) (way_0 : Int → Int) (wayMany_0 : Int) (line_0 : Int → Int) (faces_0 : Int) (pt_0 : Int → Int) (ph_0 : Int → Int) (alive_0 : Int → Int) (blockOf_0 : Int → Int) (drawnEdge_0 : Int → Int) (faceMany_0 : Int → Int) (face_0 : Int → Int) (pn_0 : Int) (pm_0 : Int) (k1 : 0 ≤ x1 ∧ x1 ≤ 119) (k2 : 0 ≤ x2 ∧ x2 ≤ 79) (k3 : (-2) ≤ x3 ∧ x3 ≤ 120) (k5 : 0 ≤ x5 ∧ x5 ≤ 119) (k6 : 3 ≤ x6 ∧ x6 ≤ 25) (k8 : 0 ≤ x8 ∧ x8 ≤ 24) (k10 : 0 ≤ x10 ∧ x10 ≤ 24) (k12 : 0 ≤ x12 ∧ x12 ≤ 30) (k13 : 1 ≤ x13 ∧ x13 ≤ 1) (k14 : 1 ≤ x14 ∧ x14 ≤ 24) (k15 : 0 ≤ x15 ∧ x15 ≤ 24) (k17 : 0 ≤ x17 ∧ x17 ≤ 0) (d0 : x15 + 0 ≤ x10 ∧ x10 ≤ x15 + 0) (d1 : x12 + (-1) ≤ x14 ∧ x14 ≤ x12 + (-1)) (d2 : x5 + (-4294967296) ≤ x1 ∧ x1 ≤ x5 + 0) (d3 : x1 + (-4294967296) ≤ x5 ∧ x5 ≤ x1 + 0) (f0 : x10 = x15) (h1 : x15 = way_0 (x14)) (f2 : x14 = x12 - x13) (g3 : x12 = wayMany_0) (h5 : x10 = line_0 (x8)) (f7 : faces_0 ≤ 118) (f8 : (-1) * faces_0 + ((-1) * x3 + 0) ≤ (-120)) (f9 : S3 (pn_0) (pm_0) (faces_0) (wayMany_0) (pt_0) (ph_0) (alive_0) (blockOf_0) (drawnEdge_0) (faceMany_0) (face_0) (way_0) (line_0) (x2) (x1) (x6) (x8)) (hK_0_17 : ∀ j : Int, 0 ≤ j → j < 80 → (-1) ≤ blockOf_0 j ∧ blockOf_0 j ≤ 79) (hK_0_20 : ∀ j : Int, 0 ≤ j → j < 100 → (-1000000) ≤ line_0 j ∧ line_0 j ≤ 1000000) (hK_0_33 : ∀ j : Int, 0 ≤ j → j < 80 → 0 ≤ pt_0 j ∧ pt_0 j ≤ 24) (hK_0_34 : ∀ j : Int, 0 ≤ j → j < 80 → 0 ≤ ph_0 j ∧ ph_0 j ≤ 24) (hK_0_35 : ∀ j : Int, 0 ≤ j → j < 80 → 0 ≤ alive_0 j ∧ alive_0 j ≤ 1) (hK_0_40 : ∀ j : Int, 0 ≤ j → j < 120 → 0 ≤ faceMany_0 j ∧ faceMany_0 j ≤ 60) (hK_0_41 : ∀ j : Int, 0 ≤ j → j < 7200 → 0 ≤ face_0 j ∧ face_0 j ≤ 24) (hK_0_43 : ∀ j : Int, 0 ≤ j → j < 80 → 0 ≤ drawnEdge_0 j ∧ drawnEdge_0 j ≤ 1) (hK_0_46 : ∀ j : Int, 0 ≤ j → j < 30 → 0 ≤ way_0 j ∧ way_0 j ≤ 24) (kz_0_31 : 0 ≤ pn_0 ∧ pn_0 ≤ 25) (kz_0_32 : 0 ≤ pm_0 ∧ pm_0 ≤ 80) (kz_0_39 : 0 ≤ faces_0 ∧ faces_0 ≤ 120) (kz_0_45 : 0 ≤ wayMany_0 ∧ wayMany_0 ≤ 30) : S4 (pn_0) (pm_0) (faces_0) (wayMany_0) (pt_0) (ph_0) (alive_0) (blockOf_0) (drawnEdge_0) (faceMany_0) (face_0) (way_0) (line_0) (x2) (x1) (x6) (x8) (x17) := by
  first
    | exact ⟨spb_of (c := x8) ‹S3 _ _ _ _ _ _ _ _ _ _ _ _ _ _ _ _ _› (by omega) (by rw [show wayMany_0 - 1 = x14 by omega]; omega), fun j a b => by exfalso; omega⟩
    | (obtain rfl : x12 = 60 := by omega
       exact s4_next (k := x10) ‹S4 _ _ _ _ _ _ _ _ _ _ _ _ _ _ _ _ _ _› hE_0_41_1 (by omega) (by omega) (by omega) (by omega) (by omega) (by omega))
def o_Mo_split_8 : or_T := (109, 18, [(0, (2, 0, 0, [165])), (1, (0, 0, 119, [])), (2, (0, 0, 79, [])), (3, (0, -2, 120, [])), (4, (2, 0, 0, [165])), (5, (0, 0, 119, [])), (6, (0, 3, 25, [])), (8, (0, 0, 24, [])), (9, (2, 0, 0, [175])), (10, (0, 0, 24, [])), (11, (2, 0, 0, [191])), (12, (0, 0, 30, [])), (13, (0, 1, 1, [])), (14, (0, 1, 24, [])), (15, (0, 0, 24, [])), (17, (0, 0, 0, []))], [(7, [10, 15], [0]), (10, [15, 11, 14], []), (2, [14, 12, 13], []), (9, [12, 4], [45]), (9, [11, 4], [46]), (10, [10, 9, 8], []), (9, [9, 4], [20]), (20, [4], [50, 1, 0, 39, 0, 3, 2, 0, 39, 0, 118]), (20, [4, 3], [30, -120, -1, 1, 39, -1, 0, 0]), (20, [4, 2, 5, 6, 8], [60, 4, 9, 146, 31, 32, 39, 45, 33, 34, 35, 17, 43, 40, 41, 46, 20]), (24, [0, 4], []), (24, [1, 5], [])], [], [], [(20, [4, 2, 5, 6, 8, 17], [60, 4, 9, 147, 31, 32, 39, 45, 33, 34, 35, 17, 43, 40, 41, 46, 20])], [], [(10, 15, 0, 0), (14, 12, -1, -1), (1, 5, -4294967296, 0), (5, 1, -4294967296, 0)])
theorem oo_Mo_split_8 {kA : Nat → ClassId} : or_ok PRD kA GG o_Mo_split_8 := by
  refine or_mk fun A ta ws vs hD hth hl => ?_
  intro t0 r0 t1 k1 t2 k2 t3 k3 t4 r4 t5 k5 t6 k6 t8 k8 t9 r9 t10 k10 t11 r11 t12 k12 t13 k13 t14 k14 t15 k15 t17 k17 d0 d1 d2 d3 f0 f1 f2 f3 f4 f5 f6 f7 f8 f9 f10 f11
  replace f0 := shm_37 f0
  replace f1 := shm_107 f1
  replace f2 := shm_14 f2
  replace f3 := shm_741 f3
  replace f4 := shm_737 f4
  replace f5 := shm_107 f5
  replace f6 := shm_740 f6
  replace f7 := shm_734 f7
  replace f8 := shm_735 f8
  replace f9 := shm_739 f9
  replace f10 := shm_5 f10
  replace f11 := shm_5 f11
  have q4 : n_v vs 4 = n_v vs 0 := f10.symm
  have q5 : n_v vs 5 = n_v vs 1 := f11.symm
  simp only [q4, q5] at f3 f4 f6 f7 f8 f9
  have cr_0_17 := fdq_189 hD hth r0
  have cr_0_20 := fdq_192 hD hth r0
  have cr_0_33 := fdq_117 hD hth r0
  have cr_0_34 := fdq_118 hD hth r0
  have cr_0_35 := fdq_132 hD hth r0
  have cr_0_40 := fdq_133 hD hth r0
  have cr_0_41 := fdq_134 hD hth r0
  have cr_0_43 := fdq_137 hD hth r0
  have cr_0_46 := fdq_190 hD hth r0
  have ad_11 : v_ad (n_v vs 11) = w_ar ws (n_v vs 0) 46 := congrArg v_ad f4
  have ad_9 : v_ad (n_v vs 9) = w_ar ws (n_v vs 0) 20 := congrArg v_ad f6
  simp only [ad_11] at f1
  have h1 : v_iv (n_v vs 15) = w_ei ws (w_ar ws (n_v vs 0) 46) (v_iv (n_v vs 14)) := f1
  have g3 : v_iv (n_v vs 12) = w_fi ws (n_v vs 0) 45 := congrArg v_iv f3
  simp only [ad_9] at f5
  have h5 : v_iv (n_v vs 10) = w_ei ws (w_ar ws (n_v vs 0) 20) (v_iv (n_v vs 8)) := f5
  have hK_0_17 := elq_113 hD hth cr_0_17
  have hK_0_20 := elq_115 hD hth cr_0_20
  have hK_0_33 := elq_60 hD hth cr_0_33
  have hK_0_34 := elq_61 hD hth cr_0_34
  have hK_0_35 := elq_72 hD hth cr_0_35
  have hK_0_40 := elq_73 hD hth cr_0_40
  have hK_0_41 := elq_74 hD hth cr_0_41
  have hK_0_43 := elq_76 hD hth cr_0_43
  have hK_0_46 := elq_114 hD hth cr_0_46
  have kz_0_31 := fdq_145 hD hth r0
  have kz_0_32 := fdq_140 hD hth r0
  have kz_0_39 := fdq_135 hD hth r0
  have kz_0_45 := fdq_191 hD hth r0
  have nf0 : fc_1 PRD (20, [4, 2, 5, 6, 8, 17], [60, 4, 9, 147, 31, 32, 39, 45, 33, 34, 35, 17, 43, 40, 41, 46, 20]) ws (vs) := by
    refine ⟨nf_in hl rfl, sgq_742 ?_⟩
    · show S4 (w_fi ws (n_v vs 4) 31) (w_fi ws (n_v vs 4) 32) (w_fi ws (n_v vs 4) 39) (w_fi ws (n_v vs 4) 45) (w_ei ws (w_ar ws (n_v vs 4) 33)) (w_ei ws (w_ar ws (n_v vs 4) 34)) (w_ei ws (w_ar ws (n_v vs 4) 35)) (w_ei ws (w_ar ws (n_v vs 4) 17)) (w_ei ws (w_ar ws (n_v vs 4) 43)) (w_ei ws (w_ar ws (n_v vs 4) 40)) (w_ei ws (w_ar ws (n_v vs 4) 41)) (w_ei ws (w_ar ws (n_v vs 4) 46)) (w_ei ws (w_ar ws (n_v vs 4) 20)) (v_iv (n_v vs 2)) (v_iv (n_v vs 5)) (v_iv (n_v vs 6)) (v_iv (n_v vs 8)) (v_iv (n_v vs 17))
      simp only [q4, q5]
      exact vc_Mo_split_8_0 (v_iv (n_v vs 1)) (v_iv (n_v vs 2)) (v_iv (n_v vs 3)) (v_iv (n_v vs 5)) (v_iv (n_v vs 6)) (v_iv (n_v vs 8)) (v_iv (n_v vs 10)) (v_iv (n_v vs 12)) (v_iv (n_v vs 13)) (v_iv (n_v vs 14)) (v_iv (n_v vs 15)) (v_iv (n_v vs 17)) (w_ei ws (w_ar ws (n_v vs 0) 46)) (w_fi ws (n_v vs 0) 45) (w_ei ws (w_ar ws (n_v vs 0) 20)) (w_fi ws (n_v vs 0) 39) (w_ei ws (w_ar ws (n_v vs 0) 33)) (w_ei ws (w_ar ws (n_v vs 0) 34)) (w_ei ws (w_ar ws (n_v vs 0) 35)) (w_ei ws (w_ar ws (n_v vs 0) 17)) (w_ei ws (w_ar ws (n_v vs 0) 43)) (w_ei ws (w_ar ws (n_v vs 0) 40)) (w_ei ws (w_ar ws (n_v vs 0) 41)) (w_fi ws (n_v vs 0) 31) (w_fi ws (n_v vs 0) 32) k1 k2 k3 k5 k6 k8 k10 k12 k13 k14 k15 k17 d0 d1 d2 d3 f0 h1 f2 g3 h5 f7 f8 f9 hK_0_17 hK_0_20 hK_0_33 hK_0_34 hK_0_35 hK_0_40 hK_0_41 hK_0_43 hK_0_46 kz_0_31 kz_0_32 kz_0_39 kz_0_45
  refine ⟨(fun _ h => (by cases h)), [], trivial, ?_, (fun _ h => (by cases h))⟩
  rw [List.append_nil]
  exact List.forall_mem_cons.mpr ⟨⟨show (20 : Nat) < 100 from by decide, nf0⟩, (fun _ h => (by cases h))⟩
set_option maxHeartbeats 4000000 in
theorem vc_Mo_split_9_r0 (x1 : Int) (x2 : Int) (x3 : Int) (x5 : Int) (x6 : Int) (x8 : Int) (x10 : Int) (x12 : Int) (x13 : Int) (x14 : Int) (x15 : Int) (x16 : Int) (way_0 : Int → Int) (wayMany_0 : Int) (line_0 : Int → Int) (faces_0 : Int) (pt_0 : Int → Int) (ph_0 : Int → Int) (alive_0 : Int → Int) (blockOf_0 : Int → Int) (drawnEdge_0 : Int → Int) (faceMany_0 : Int → Int) (face_0 : Int → Int) (pn_0 : Int) (pm_0 : Int) (k1 : 0 ≤ x1 ∧ x1 ≤ 119) (k2 : 0 ≤ x2 ∧ x2 ≤ 79) (k3 : (-2) ≤ x3 ∧ x3 ≤ 120) (k5 : 0 ≤ x5 ∧ x5 ≤ 119) (k6 : 3 ≤ x6 ∧ x6 ≤ 25) (k8 : 0 ≤ x8 ∧ x8 ≤ 24) (k10 : (-1000000) ≤ x10 ∧ x10 ≤ 1000000) (k12 : 0 ≤ x12 ∧ x12 ≤ 30) (k13 : 1 ≤ x13 ∧ x13 ≤ 1) (k14 : 1 ≤ x14 ∧ x14 ≤ 24) (k15 : 0 ≤ x15 ∧ x15 ≤ 24) (k16 : 1 ≤ x16 ∧ x16 ≤ 25) (d0 : x8 + 1 ≤ x16 ∧ x16 ≤ x8 + 1) (d1 : x12 + (-1) ≤ x14 ∧ x14 ≤ x12 + (-1)) (d2 : x5 + (-4294967296) ≤ x1 ∧ x1 ≤ x5 + 0) (d3 : x1 + (-4294967296) ≤ x5 ∧ x5 ≤ x1 + 0) (f0 : x16 = x8 + 1) (f1 : x10 ≠ x15) (h2 : x15 = way_0 (x14)) (f3 : x14 = x12 - x13) (g4 : x12 = wayMany_0) (h6 : x10 = line_0 (x8)) (f8 : faces_0 ≤ 118) (f9 : (-1) * faces_0 + ((-1) * x3 + 0) ≤ (-120)) (f10 : S3 (pn_0) (pm_0) (faces_0) (wayMany_0) (pt_0) (ph_0) (alive_0) (blockOf_0) (drawnEdge_0) (faceMany_0) (face_0) (way_0) (line_0) (x2) (x1) (x6) (x8)) (hK_0_17 : ∀ j : Int, 0 ≤ j → j < 80 → (-1) ≤ blockOf_0 j ∧ blockOf_0 j ≤ 79) (hK_0_20 : ∀ j : Int, 0 ≤ j → j < 100 → (-1000000) ≤ line_0 j ∧ line_0 j ≤ 1000000) (hK_0_33 : ∀ j : Int, 0 ≤ j → j < 80 → 0 ≤ pt_0 j ∧ pt_0 j ≤ 24) (hK_0_34 : ∀ j : Int, 0 ≤ j → j < 80 → 0 ≤ ph_0 j ∧ ph_0 j ≤ 24) (hK_0_35 : ∀ j : Int, 0 ≤ j → j < 80 → 0 ≤ alive_0 j ∧ alive_0 j ≤ 1) (hK_0_40 : ∀ j : Int, 0 ≤ j → j < 120 → 0 ≤ faceMany_0 j ∧ faceMany_0 j ≤ 60) (hK_0_41 : ∀ j : Int, 0 ≤ j → j < 7200 → 0 ≤ face_0 j ∧ face_0 j ≤ 24) (hK_0_43 : ∀ j : Int, 0 ≤ j → j < 80 → 0 ≤ drawnEdge_0 j ∧ drawnEdge_0 j ≤ 1) (hK_0_46 : ∀ j : Int, 0 ≤ j → j < 30 → 0 ≤ way_0 j ∧ way_0 j ≤ 24) (kz_0_31 : 0 ≤ pn_0 ∧ pn_0 ≤ 25) (kz_0_32 : 0 ≤ pm_0 ∧ pm_0 ≤ 80) (kz_0_39 : 0 ≤ faces_0 ∧ faces_0 ≤ 120) (kz_0_45 : 0 ≤ wayMany_0 ∧ wayMany_0 ≤ 30) : 1 ≤ x16 ∧ x16 ≤ 24 := by
  have hq := spl_len ‹S3 _ _ _ _ _ _ _ _ _ _ _ _ _ _ _ _ _›.1
  have h := s3_lt (s3_next (c := x8) (c_zq := x8 + 1) ‹S3 _ _ _ _ _ _ _ _ _ _ _ _ _ _ _ _ _› rfl (by rw [show wayMany_0 - 1 = x14 by omega]; omega))
  omega
def o_Mo_split_9 : or_T := (100, 17, [(0, (2, 0, 0, [165])), (1, (0, 0, 119, [])), (2, (0, 0, 79, [])), (3, (0, -2, 120, [])), (4, (2, 0, 0, [165])), (5, (0, 0, 119, [])), (6, (0, 3, 25, [])), (8, (0, 0, 24, [])), (9, (2, 0, 0, [175])), (10, (0, -1000000, 1000000, [])), (11, (2, 0, 0, [191])), (12, (0, 0, 30, [])), (13, (0, 1, 1, [])), (14, (0, 1, 24, [])), (15, (0, 0, 24, [])), (16, (0, 1, 25, []))], [(6, [16, 8], [1]), (7, [10, 15], [1]), (10, [15, 11, 14], []), (2, [14, 12, 13], []), (9, [12, 4], [45]), (9, [11, 4], [46]), (10, [10, 9, 8], []), (9, [9, 4], [20]), (20, [4], [50, 1, 0, 39, 0, 3, 2, 0, 39, 0, 118]), (20, [4, 3], [30, -120, -1, 1, 39, -1, 0, 0]), (20, [4, 2, 5, 6, 8], [60, 4, 9, 146, 31, 32, 39, 45, 33, 34, 35, 17, 43, 40, 41, 46, 20]), (24, [0, 4], []), (24, [1, 5], [])], [(16, (0, 1, 24, []))], [], [], [], [(16, 8, 1, 1), (14, 12, -1, -1), (1, 5, -4294967296, 0), (5, 1, -4294967296, 0)])
theorem oo_Mo_split_9 {kA : Nat → ClassId} : or_ok PRD kA GG o_Mo_split_9 := by
  refine or_mk fun A ta ws vs hD hth hl => ?_
  intro t0 r0 t1 k1 t2 k2 t3 k3 t4 r4 t5 k5 t6 k6 t8 k8 t9 r9 t10 k10 t11 r11 t12 k12 t13 k13 t14 k14 t15 k15 t16 k16 d0 d1 d2 d3 f0 f1 f2 f3 f4 f5 f6 f7 f8 f9 f10 f11 f12
  replace f2 := shm_107 f2
  replace f4 := shm_741 f4
  replace f5 := shm_737 f5
  replace f6 := shm_107 f6
  replace f7 := shm_740 f7
  replace f8 := shm_734 f8
  replace f9 := shm_735 f9
  replace f10 := shm_739 f10
  replace f11 := shm_5 f11
  replace f12 := shm_5 f12
  have q4 : n_v vs 4 = n_v vs 0 := f11.symm
  have q5 : n_v vs 5 = n_v vs 1 := f12.symm
  simp only [q4, q5] at f4 f5 f7 f8 f9 f10
  have cr_0_17 := fdq_189 hD hth r0
  have cr_0_20 := fdq_192 hD hth r0
  have cr_0_33 := fdq_117 hD hth r0
  have cr_0_34 := fdq_118 hD hth r0
  have cr_0_35 := fdq_132 hD hth r0
  have cr_0_40 := fdq_133 hD hth r0
  have cr_0_41 := fdq_134 hD hth r0
  have cr_0_43 := fdq_137 hD hth r0
  have cr_0_46 := fdq_190 hD hth r0
  have ad_11 : v_ad (n_v vs 11) = w_ar ws (n_v vs 0) 46 := congrArg v_ad f5
  have ad_9 : v_ad (n_v vs 9) = w_ar ws (n_v vs 0) 20 := congrArg v_ad f7
  simp only [ad_11] at f2
  have h2 : v_iv (n_v vs 15) = w_ei ws (w_ar ws (n_v vs 0) 46) (v_iv (n_v vs 14)) := f2
  have g4 : v_iv (n_v vs 12) = w_fi ws (n_v vs 0) 45 := congrArg v_iv f4
  simp only [ad_9] at f6
  have h6 : v_iv (n_v vs 10) = w_ei ws (w_ar ws (n_v vs 0) 20) (v_iv (n_v vs 8)) := f6
  have hK_0_17 := elq_113 hD hth cr_0_17
  have hK_0_20 := elq_115 hD hth cr_0_20
  have hK_0_33 := elq_60 hD hth cr_0_33
  have hK_0_34 := elq_61 hD hth cr_0_34
  have hK_0_35 := elq_72 hD hth cr_0_35
  have hK_0_40 := elq_73 hD hth cr_0_40
  have hK_0_41 := elq_74 hD hth cr_0_41
  have hK_0_43 := elq_76 hD hth cr_0_43
  have hK_0_46 := elq_114 hD hth cr_0_46
  have kz_0_31 := fdq_145 hD hth r0
  have kz_0_32 := fdq_140 hD hth r0
  have kz_0_39 := fdq_135 hD hth r0
  have kz_0_45 := fdq_191 hD hth r0
  have hrf0 : 1 ≤ v_iv (n_v vs 16) ∧ v_iv (n_v vs 16) ≤ 24 := vc_Mo_split_9_r0 (v_iv (n_v vs 1)) (v_iv (n_v vs 2)) (v_iv (n_v vs 3)) (v_iv (n_v vs 5)) (v_iv (n_v vs 6)) (v_iv (n_v vs 8)) (v_iv (n_v vs 10)) (v_iv (n_v vs 12)) (v_iv (n_v vs 13)) (v_iv (n_v vs 14)) (v_iv (n_v vs 15)) (v_iv (n_v vs 16)) (w_ei ws (w_ar ws (n_v vs 0) 46)) (w_fi ws (n_v vs 0) 45) (w_ei ws (w_ar ws (n_v vs 0) 20)) (w_fi ws (n_v vs 0) 39) (w_ei ws (w_ar ws (n_v vs 0) 33)) (w_ei ws (w_ar ws (n_v vs 0) 34)) (w_ei ws (w_ar ws (n_v vs 0) 35)) (w_ei ws (w_ar ws (n_v vs 0) 17)) (w_ei ws (w_ar ws (n_v vs 0) 43)) (w_ei ws (w_ar ws (n_v vs 0) 40)) (w_ei ws (w_ar ws (n_v vs 0) 41)) (w_fi ws (n_v vs 0) 31) (w_fi ws (n_v vs 0) 32) k1 k2 k3 k5 k6 k8 k10 k12 k13 k14 k15 k16 d0 d1 d2 d3 (shm_4 f0) (shm_40 f1) h2 (shm_14 f3) g4 h6 f8 f9 f10 hK_0_17 hK_0_20 hK_0_33 hK_0_34 hK_0_35 hK_0_40 hK_0_41 hK_0_43 hK_0_46 kz_0_31 kz_0_32 kz_0_39 kz_0_45
  have rf16 : tv_ok ta (0, 1, 24, []) (n_v vs 16) := tv_in t16 (by first | omega | grind) (by first | omega | grind)
  refine ⟨List.forall_mem_cons.mpr ⟨rf16, (fun _ h => (by cases h))⟩, [], trivial, ?_, (fun _ h => (by cases h))⟩
  rw [List.append_nil]
  exact (fun _ h => (by cases h))
set_option maxHeartbeats 4000000 in
theorem vc_Mo_split_10_0 (x1 : Int) (x2 : Int) (x3 : Int) (x5 : Int) (x6 : Int) (x8 : Int) (x10 : Int) (x12 : Int) (x13 : Int) (x14 : Int) (x15 : Int) (x16 : Int) (way_0 : Int → Int) (wayMany_0 : Int) (line_0 : Int → Int) (faces_0 : Int) (pt_0 : Int → Int) (ph_0 : Int → Int) (alive_0 : Int → Int) (blockOf_0 : Int → Int) (drawnEdge_0 : Int → Int) (faceMany_0 : Int → Int) (face_0 : Int → Int) (pn_0 : Int) (pm_0 : Int) (k1 : 0 ≤ x1 ∧ x1 ≤ 119) (k2 : 0 ≤ x2 ∧ x2 ≤ 79) (k3 : (-2) ≤ x3 ∧ x3 ≤ 120) (k5 : 0 ≤ x5 ∧ x5 ≤ 119) (k6 : 3 ≤ x6 ∧ x6 ≤ 25) (k8 : 0 ≤ x8 ∧ x8 ≤ 24) (k10 : (-1000000) ≤ x10 ∧ x10 ≤ 1000000) (k12 : 0 ≤ x12 ∧ x12 ≤ 30) (k13 : 1 ≤ x13 ∧ x13 ≤ 1) (k14 : 1 ≤ x14 ∧ x14 ≤ 24) (k15 : 0 ≤ x15 ∧ x15 ≤ 24) (k16 : 1 ≤ x16 ∧ x16 ≤ 24) (d0 : x8 + 1 ≤ x16 ∧ x16 ≤ x8 + 1) (d1 : x12 + (-1) ≤ x14 ∧ x14 ≤ x12 + (-1)) (d2 : x5 + (-4294967296) ≤ x1 ∧ x1 ≤ x5 + 0) (d3 : x1 + (-4294967296) ≤ x5 ∧ x5 ≤ x1 + 0) (f0 : x16 = x8 + 1) (f1 : x10 ≠ x15) (h2 : x15 = way_0 (x14)) (f3 : x14 = x12 - x13) (g4 : x12 = wayMany_0) (h6 : x10 = line_0 (x8)) (f8 : faces_0 ≤ 118) (f9 : (-1) * faces_0 + ((-1) * x3 + 0) ≤ (-120)) (f10 : S3 (pn_0) (pm_0) (faces_0) (wayMany_0) (pt_0) (ph_0) (alive_0) (blockOf_0) (drawnEdge_0) (faceMany_0) (face_0) (way_0) (line_0) (x2) (x1) (x6) (x8)) (hK_0_17 : ∀ j : Int, 0 ≤ j → j < 80 → (-1) ≤ blockOf_0 j ∧ blockOf_0 j ≤ 79) (hK_0_20 : ∀ j : Int, 0 ≤ j → j < 100 → (-1000000) ≤ line_0 j ∧ line_0 j ≤ 1000000) (hK_0_33 : ∀ j : Int, 0 ≤ j → j < 80 → 0 ≤ pt_0 j ∧ pt_0 j ≤ 24) (hK_0_34 : ∀ j : Int, 0 ≤ j → j < 80 → 0 ≤ ph_0 j ∧ ph_0 j ≤ 24) (hK_0_35 : ∀ j : Int, 0 ≤ j → j < 80 → 0 ≤ alive_0 j ∧ alive_0 j ≤ 1) (hK_0_40 : ∀ j : Int, 0 ≤ j → j < 120 → 0 ≤ faceMany_0 j ∧ faceMany_0 j ≤ 60) (hK_0_41 : ∀ j : Int, 0 ≤ j → j < 7200 → 0 ≤ face_0 j ∧ face_0 j ≤ 24) (hK_0_43 : ∀ j : Int, 0 ≤ j → j < 80 → 0 ≤ drawnEdge_0 j ∧ drawnEdge_0 j ≤ 1) (hK_0_46 : ∀ j : Int, 0 ≤ j → j < 30 → 0 ≤ way_0 j ∧ way_0 j ≤ 24) (kz_0_31 : 0 ≤ pn_0 ∧ pn_0 ≤ 25) (kz_0_32 : 0 ≤ pm_0 ∧ pm_0 ≤ 80) (kz_0_39 : 0 ≤ faces_0 ∧ faces_0 ≤ 120) (kz_0_45 : 0 ≤ wayMany_0 ∧ wayMany_0 ≤ 30) : S3 (pn_0) (pm_0) (faces_0) (wayMany_0) (pt_0) (ph_0) (alive_0) (blockOf_0) (drawnEdge_0) (faceMany_0) (face_0) (way_0) (line_0) (x2) (x1) (x6) (x16) := by
  first
    | exact ⟨spl_of ‹S2 _ _ _ _ _ _ _ _ _ _ _ _ _ _ _ _ _ _› (by omega), fun j a b => by exfalso; omega⟩
    | exact s3_next (c := x8) ‹S3 _ _ _ _ _ _ _ _ _ _ _ _ _ _ _ _ _› (by omega) (by rw [show wayMany_0 - 1 = x14 by omega]; omega)
def o_Mo_split_10 : or_T := (76, 17, [(0, (2, 0, 0, [165])), (1, (0, 0, 119, [])), (2, (0, 0, 79, [])), (3, (0, -2, 120, [])), (5, (0, 0, 119, [])), (6, (0, 3, 25, [])), (8, (0, 0, 24, [])), (10, (0, -1000000, 1000000, [])), (12, (0, 0, 30, [])), (13, (0, 1, 1, [])), (14, (0, 1, 24, [])), (15, (0, 0, 24, [])), (16, (0, 1, 24, []))], [(6, [16, 8], [1]), (7, [10, 15], [1]), (10, [15, 11, 14], []), (2, [14, 12, 13], []), (9, [12, 4], [45]), (9, [11, 4], [46]), (10, [10, 9, 8], []), (9, [9, 4], [20]), (20, [4], [50, 1, 0, 39, 0, 3, 2, 0, 39, 0, 118]), (20, [4, 3], [30, -120, -1, 1, 39, -1, 0, 0]), (20, [4, 2, 5, 6, 8], [60, 4, 9, 146, 31, 32, 39, 45, 33, 34, 35, 17, 43, 40, 41, 46, 20]), (24, [0, 4], []), (24, [1, 5], [])], [], [], [(20, [4, 2, 5, 6, 16], [60, 4, 9, 146, 31, 32, 39, 45, 33, 34, 35, 17, 43, 40, 41, 46, 20])], [], [(16, 8, 1, 1), (14, 12, -1, -1), (1, 5, -4294967296, 0), (5, 1, -4294967296, 0)])
theorem oo_Mo_split_10 {kA : Nat → ClassId} : or_ok PRD kA GG o_Mo_split_10 := by
  refine or_mk fun A ta ws vs hD hth hl => ?_
  intro t0 r0 t1 k1 t2 k2 t3 k3 t5 k5 t6 k6 t8 k8 t10 k10 t12 k12 t13 k13 t14 k14 t15 k15 t16 k16 d0 d1 d2 d3 f0 f1 f2 f3 f4 f5 f6 f7 f8 f9 f10 f11 f12
  replace f0 := shm_4 f0
  replace f1 := shm_40 f1
  replace f2 := shm_107 f2
  replace f3 := shm_14 f3
  replace f4 := shm_741 f4
  replace f5 := shm_737 f5
  replace f6 := shm_107 f6
  replace f7 := shm_740 f7
  replace f8 := shm_734 f8
  replace f9 := shm_735 f9
  replace f10 := shm_739 f10
  replace f11 := shm_5 f11
  replace f12 := shm_5 f12
  have q4 : n_v vs 4 = n_v vs 0 := f11.symm
  have q5 : n_v vs 5 = n_v vs 1 := f12.symm
  simp only [q4, q5] at f4 f5 f7 f8 f9 f10
  have cr_0_17 := fdq_189 hD hth r0
  have cr_0_20 := fdq_192 hD hth r0
  have cr_0_33 := fdq_117 hD hth r0
  have cr_0_34 := fdq_118 hD hth r0
  have cr_0_35 := fdq_132 hD hth r0
  have cr_0_40 := fdq_133 hD hth r0
  have cr_0_41 := fdq_134 hD hth r0
  have cr_0_43 := fdq_137 hD hth r0
  have cr_0_46 := fdq_190 hD hth r0
  have ad_11 : v_ad (n_v vs 11) = w_ar ws (n_v vs 0) 46 := congrArg v_ad f5
  have ad_9 : v_ad (n_v vs 9) = w_ar ws (n_v vs 0) 20 := congrArg v_ad f7
  simp only [ad_11] at f2
  have h2 : v_iv (n_v vs 15) = w_ei ws (w_ar ws (n_v vs 0) 46) (v_iv (n_v vs 14)) := f2
  have g4 : v_iv (n_v vs 12) = w_fi ws (n_v vs 0) 45 := congrArg v_iv f4
  simp only [ad_9] at f6
  have h6 : v_iv (n_v vs 10) = w_ei ws (w_ar ws (n_v vs 0) 20) (v_iv (n_v vs 8)) := f6
  have hK_0_17 := elq_113 hD hth cr_0_17
  have hK_0_20 := elq_115 hD hth cr_0_20
  have hK_0_33 := elq_60 hD hth cr_0_33
  have hK_0_34 := elq_61 hD hth cr_0_34
  have hK_0_35 := elq_72 hD hth cr_0_35
  have hK_0_40 := elq_73 hD hth cr_0_40
  have hK_0_41 := elq_74 hD hth cr_0_41
  have hK_0_43 := elq_76 hD hth cr_0_43
  have hK_0_46 := elq_114 hD hth cr_0_46
  have kz_0_31 := fdq_145 hD hth r0
  have kz_0_32 := fdq_140 hD hth r0
  have kz_0_39 := fdq_135 hD hth r0
  have kz_0_45 := fdq_191 hD hth r0
  have nf0 : fc_1 PRD (20, [4, 2, 5, 6, 16], [60, 4, 9, 146, 31, 32, 39, 45, 33, 34, 35, 17, 43, 40, 41, 46, 20]) ws (vs) := by
    refine ⟨nf_in hl rfl, sgq_739 ?_⟩
    · show S3 (w_fi ws (n_v vs 4) 31) (w_fi ws (n_v vs 4) 32) (w_fi ws (n_v vs 4) 39) (w_fi ws (n_v vs 4) 45) (w_ei ws (w_ar ws (n_v vs 4) 33)) (w_ei ws (w_ar ws (n_v vs 4) 34)) (w_ei ws (w_ar ws (n_v vs 4) 35)) (w_ei ws (w_ar ws (n_v vs 4) 17)) (w_ei ws (w_ar ws (n_v vs 4) 43)) (w_ei ws (w_ar ws (n_v vs 4) 40)) (w_ei ws (w_ar ws (n_v vs 4) 41)) (w_ei ws (w_ar ws (n_v vs 4) 46)) (w_ei ws (w_ar ws (n_v vs 4) 20)) (v_iv (n_v vs 2)) (v_iv (n_v vs 5)) (v_iv (n_v vs 6)) (v_iv (n_v vs 16))
      simp only [q4, q5]
      exact vc_Mo_split_10_0 (v_iv (n_v vs 1)) (v_iv (n_v vs 2)) (v_iv (n_v vs 3)) (v_iv (n_v vs 5)) (v_iv (n_v vs 6)) (v_iv (n_v vs 8)) (v_iv (n_v vs 10)) (v_iv (n_v vs 12)) (v_iv (n_v vs 13)) (v_iv (n_v vs 14)) (v_iv (n_v vs 15)) (v_iv (n_v vs 16)) (w_ei ws (w_ar ws (n_v vs 0) 46)) (w_fi ws (n_v vs 0) 45) (w_ei ws (w_ar ws (n_v vs 0) 20)) (w_fi ws (n_v vs 0) 39) (w_ei ws (w_ar ws (n_v vs 0) 33)) (w_ei ws (w_ar ws (n_v vs 0) 34)) (w_ei ws (w_ar ws (n_v vs 0) 35)) (w_ei ws (w_ar ws (n_v vs 0) 17)) (w_ei ws (w_ar ws (n_v vs 0) 43)) (w_ei ws (w_ar ws (n_v vs 0) 40)) (w_ei ws (w_ar ws (n_v vs 0) 41)) (w_fi ws (n_v vs 0) 31) (w_fi ws (n_v vs 0) 32) k1 k2 k3 k5 k6 k8 k10 k12 k13 k14 k15 k16 d0 d1 d2 d3 f0 f1 h2 f3 g4 h6 f8 f9 f10 hK_0_17 hK_0_20 hK_0_33 hK_0_34 hK_0_35 hK_0_40 hK_0_41 hK_0_43 hK_0_46 kz_0_31 kz_0_32 kz_0_39 kz_0_45
  refine ⟨(fun _ h => (by cases h)), [], trivial, ?_, (fun _ h => (by cases h))⟩
  rw [List.append_nil]
  exact List.forall_mem_cons.mpr ⟨⟨show (20 : Nat) < 100 from by decide, nf0⟩, (fun _ h => (by cases h))⟩
set_option maxHeartbeats 4000000 in
theorem vc_Mo_split_11_0 (x1 : Int) (x2 : Int) (x3 : Int) (x5 : Int) (x6 : Int) (x8 : Int) (x10 : Int) (x11 : Int) (x12 : Int) (x13 : Int) (x14 : Int) (x15 : Int) (wayMany_0 : Int) (faces_0 : Int) (pt_0 : Int → Int) (ph_0 : Int → Int) (alive_0 : Int → Int) (blockOf_0 : Int → Int) (drawnEdge_0 : Int → Int) (faceMany_0 : Int → Int) (face_0 : Int → Int) (way_0 : Int → Int) (line_0 : Int → Int) (pn_0 : Int) (pm_0 : Int) (k1 : 0 ≤ x1 ∧ x1 ≤ 119) (k2 : 0 ≤ x2 ∧ x2 ≤ 79) (k3 : (-2) ≤ x3 ∧ x3 ≤ 120) (k5 : 0 ≤ x5 ∧ x5 ≤ 119) (k6 : 3 ≤ x6 ∧ x6 ≤ 25) (k8 : 0 ≤ x8 ∧ x8 ≤ 24) (k10 : 1 ≤ x10 ∧ x10 ≤ 25) (k11 : 1 ≤ x11 ∧ x11 ≤ 1) (k12 : 1 ≤ x12 ∧ x12 ≤ 25) (k13 : 0 ≤ x13 ∧ x13 ≤ 30) (k14 : 2 ≤ x14 ∧ x14 ≤ 2) (k15 : (-2) ≤ x15 ∧ x15 ≤ 28) (d0 : x13 + (-2) ≤ x15 ∧ x15 ≤ x13 + (-2)) (d1 : x8 + 1 ≤ x12 ∧ x12 ≤ x8 + 1) (d2 : x8 + 1 ≤ x10 ∧ x10 ≤ x8 + 4294967296) (d3 : x5 + (-4294967296) ≤ x1 ∧ x1 ≤ x5 + 0) (d4 : x1 + (-4294967296) ≤ x5 ∧ x5 ≤ x1 + 0) (d5 : x8 + (-4294967296) ≤ x10 ∧ x10 ≤ x8 + 1) (f0 : x15 = x13 - x14) (g1 : x13 = wayMany_0) (f2 : x12 = x8 + x11) (f3 : x8 < x10) (f4 : faces_0 ≤ 118) (f5 : (-1) * faces_0 + ((-1) * x3 + 0) ≤ (-120)) (f6 : S4 (pn_0) (pm_0) (faces_0) (wayMany_0) (pt_0) (ph_0) (alive_0) (blockOf_0) (drawnEdge_0) (faceMany_0) (face_0) (way_0) (line_0) (x2) (x1) (x6) (x8) (x10)) (hK_0_17 : ∀ j : Int, 0 ≤ j → j < 80 → (-1) ≤ blockOf_0 j ∧ blockOf_0 j ≤ 79) (hK_0_20 : ∀ j : Int, 0 ≤ j → j < 100 → (-1000000) ≤ line_0 j ∧ line_0 j ≤ 1000000) (hK_0_33 : ∀ j : Int, 0 ≤ j → j < 80 → 0 ≤ pt_0 j ∧ pt_0 j ≤ 24) (hK_0_34 : ∀ j : Int, 0 ≤ j → j < 80 → 0 ≤ ph_0 j ∧ ph_0 j ≤ 24) (hK_0_35 : ∀ j : Int, 0 ≤ j → j < 80 → 0 ≤ alive_0 j ∧ alive_0 j ≤ 1) (hK_0_40 : ∀ j : Int, 0 ≤ j → j < 120 → 0 ≤ faceMany_0 j ∧ faceMany_0 j ≤ 60) (hK_0_41 : ∀ j : Int, 0 ≤ j → j < 7200 → 0 ≤ face_0 j ∧ face_0 j ≤ 24) (hK_0_43 : ∀ j : Int, 0 ≤ j → j < 80 → 0 ≤ drawnEdge_0 j ∧ drawnEdge_0 j ≤ 1) (hK_0_46 : ∀ j : Int, 0 ≤ j → j < 30 → 0 ≤ way_0 j ∧ way_0 j ≤ 24) (kz_0_31 : 0 ≤ pn_0 ∧ pn_0 ≤ 25) (kz_0_32 : 0 ≤ pm_0 ∧ pm_0 ≤ 80) (kz_0_39 : 0 ≤ faces_0 ∧ faces_0 ≤ 120) (kz_0_45 : 0 ≤ wayMany_0 ∧ wayMany_0 ≤ 30) : S5 (pn_0) (pm_0) (faces_0) (wayMany_0) (pt_0) (ph_0) (alive_0) (blockOf_0) (drawnEdge_0) (faceMany_0) (face_0) (way_0) (line_0) (x2) (x1) (x6) (x8) (x12) (x15) := by
  first
    | exact s5_of ‹S4 _ _ _ _ _ _ _ _ _ _ _ _ _ _ _ _ _ _› (by omega) (by omega) (by omega)
    | (obtain rfl : x12 = 60 := by omega
       have h := ‹S5 _ _ _ _ _ _ _ _ _ _ _ _ _ _ _ _ _ _ _›
       have hb := h.2.2.1
       exact s5_next (k := x10) (mm := x9) h hE_0_41_1 (by omega) (by omega) (by omega) (by omega) (by omega) (by omega) (by omega))
def o_Mo_split_11 : or_T := (155, 16, [(0, (2, 0, 0, [165])), (1, (0, 0, 119, [])), (2, (0, 0, 79, [])), (3, (0, -2, 120, [])), (5, (0, 0, 119, [])), (6, (0, 3, 25, [])), (8, (0, 0, 24, [])), (10, (0, 1, 25, [])), (11, (0, 1, 1, [])), (12, (0, 1, 25, [])), (13, (0, 0, 30, [])), (14, (0, 2, 2, [])), (15, (0, -2, 28, []))], [(2, [15, 13, 14], []), (9, [13, 4], [45]), (1, [12, 8, 11], []), (7, [10, 8], [4]), (20, [4], [50, 1, 0, 39, 0, 3, 2, 0, 39, 0, 118]), (20, [4, 3], [30, -120, -1, 1, 39, -1, 0, 0]), (20, [4, 2, 5, 6, 8, 10], [60, 4, 9, 147, 31, 32, 39, 45, 33, 34, 35, 17, 43, 40, 41, 46, 20]), (24, [0, 4], []), (24, [1, 5], [])], [], [], [(20, [4, 2, 5, 6, 8, 12, 15], [60, 4, 9, 148, 31, 32, 39, 45, 33, 34, 35, 17, 43, 40, 41, 46, 20])], [], [(15, 13, -2, -2), (12, 8, 1, 1), (10, 8, 1, 4294967296), (1, 5, -4294967296, 0), (5, 1, -4294967296, 0), (10, 8, -4294967296, 1)])
theorem oo_Mo_split_11 {kA : Nat → ClassId} : or_ok PRD kA GG o_Mo_split_11 := by
  refine or_mk fun A ta ws vs hD hth hl => ?_
  intro t0 r0 t1 k1 t2 k2 t3 k3 t5 k5 t6 k6 t8 k8 t10 k10 t11 k11 t12 k12 t13 k13 t14 k14 t15 k15 d0 d1 d2 d3 d4 d5 f0 f1 f2 f3 f4 f5 f6 f7 f8
  replace f0 := shm_14 f0
  replace f1 := shm_741 f1
  replace f2 := shm_12 f2
  replace f3 := shm_21 f3
  replace f4 := shm_734 f4
  replace f5 := shm_735 f5
  replace f6 := shm_742 f6
  replace f7 := shm_5 f7
  replace f8 := shm_5 f8
  have q4 : n_v vs 4 = n_v vs 0 := f7.symm
  have q5 : n_v vs 5 = n_v vs 1 := f8.symm
  simp only [q4, q5] at f1 f4 f5 f6
  have cr_0_17 := fdq_189 hD hth r0
  have cr_0_20 := fdq_192 hD hth r0
  have cr_0_33 := fdq_117 hD hth r0
  have cr_0_34 := fdq_118 hD hth r0
  have cr_0_35 := fdq_132 hD hth r0
  have cr_0_40 := fdq_133 hD hth r0
  have cr_0_41 := fdq_134 hD hth r0
  have cr_0_43 := fdq_137 hD hth r0
  have cr_0_46 := fdq_190 hD hth r0
  have g1 : v_iv (n_v vs 13) = w_fi ws (n_v vs 0) 45 := congrArg v_iv f1
  have hK_0_17 := elq_113 hD hth cr_0_17
  have hK_0_20 := elq_115 hD hth cr_0_20
  have hK_0_33 := elq_60 hD hth cr_0_33
  have hK_0_34 := elq_61 hD hth cr_0_34
  have hK_0_35 := elq_72 hD hth cr_0_35
  have hK_0_40 := elq_73 hD hth cr_0_40
  have hK_0_41 := elq_74 hD hth cr_0_41
  have hK_0_43 := elq_76 hD hth cr_0_43
  have hK_0_46 := elq_114 hD hth cr_0_46
  have kz_0_31 := fdq_145 hD hth r0
  have kz_0_32 := fdq_140 hD hth r0
  have kz_0_39 := fdq_135 hD hth r0
  have kz_0_45 := fdq_191 hD hth r0
  have nf0 : fc_1 PRD (20, [4, 2, 5, 6, 8, 12, 15], [60, 4, 9, 148, 31, 32, 39, 45, 33, 34, 35, 17, 43, 40, 41, 46, 20]) ws (vs) := by
    refine ⟨nf_in hl rfl, sgq_743 ?_⟩
    · show S5 (w_fi ws (n_v vs 4) 31) (w_fi ws (n_v vs 4) 32) (w_fi ws (n_v vs 4) 39) (w_fi ws (n_v vs 4) 45) (w_ei ws (w_ar ws (n_v vs 4) 33)) (w_ei ws (w_ar ws (n_v vs 4) 34)) (w_ei ws (w_ar ws (n_v vs 4) 35)) (w_ei ws (w_ar ws (n_v vs 4) 17)) (w_ei ws (w_ar ws (n_v vs 4) 43)) (w_ei ws (w_ar ws (n_v vs 4) 40)) (w_ei ws (w_ar ws (n_v vs 4) 41)) (w_ei ws (w_ar ws (n_v vs 4) 46)) (w_ei ws (w_ar ws (n_v vs 4) 20)) (v_iv (n_v vs 2)) (v_iv (n_v vs 5)) (v_iv (n_v vs 6)) (v_iv (n_v vs 8)) (v_iv (n_v vs 12)) (v_iv (n_v vs 15))
      simp only [q4, q5]
      exact vc_Mo_split_11_0 (v_iv (n_v vs 1)) (v_iv (n_v vs 2)) (v_iv (n_v vs 3)) (v_iv (n_v vs 5)) (v_iv (n_v vs 6)) (v_iv (n_v vs 8)) (v_iv (n_v vs 10)) (v_iv (n_v vs 11)) (v_iv (n_v vs 12)) (v_iv (n_v vs 13)) (v_iv (n_v vs 14)) (v_iv (n_v vs 15)) (w_fi ws (n_v vs 0) 45) (w_fi ws (n_v vs 0) 39) (w_ei ws (w_ar ws (n_v vs 0) 33)) (w_ei ws (w_ar ws (n_v vs 0) 34)) (w_ei ws (w_ar ws (n_v vs 0) 35)) (w_ei ws (w_ar ws (n_v vs 0) 17)) (w_ei ws (w_ar ws (n_v vs 0) 43)) (w_ei ws (w_ar ws (n_v vs 0) 40)) (w_ei ws (w_ar ws (n_v vs 0) 41)) (w_ei ws (w_ar ws (n_v vs 0) 46)) (w_ei ws (w_ar ws (n_v vs 0) 20)) (w_fi ws (n_v vs 0) 31) (w_fi ws (n_v vs 0) 32) k1 k2 k3 k5 k6 k8 k10 k11 k12 k13 k14 k15 d0 d1 d2 d3 d4 d5 f0 g1 f2 f3 f4 f5 f6 hK_0_17 hK_0_20 hK_0_33 hK_0_34 hK_0_35 hK_0_40 hK_0_41 hK_0_43 hK_0_46 kz_0_31 kz_0_32 kz_0_39 kz_0_45
  refine ⟨(fun _ h => (by cases h)), [], trivial, ?_, (fun _ h => (by cases h))⟩
  rw [List.append_nil]
  exact List.forall_mem_cons.mpr ⟨⟨show (20 : Nat) < 100 from by decide, nf0⟩, (fun _ h => (by cases h))⟩
set_option maxHeartbeats 4000000 in
theorem vc_Mo_split_12_r0 (x1 : Int) (x2 : Int) (x3 : Int) (x5 : Int) (x6 : Int) (x8 : Int) (x10 : Int) (x16 : Int) (line_0 : Int → Int) (faces_0 : Int) (pt_0 : Int → Int) (ph_0 : Int → Int) (alive_0 : Int → Int) (blockOf_0 : Int → Int) (drawnEdge_0 : Int → Int) (faceMany_0 : Int → Int) (face_0 : Int → Int) (way_0 : Int → Int) (pn_0 : Int) (pm_0 : Int) (wayMany_0 : Int) (k1 : 0 ≤ x1 ∧ x1 ≤ 119) (k2 : 0 ≤ x2 ∧ x2 ≤ 79) (k3 : (-2) ≤ x3 ∧ x3 ≤ 120) (k5 : 0 ≤ x5 ∧ x5 ≤ 119) (k6 : 3 ≤ x6 ∧ x6 ≤ 25) (k8 : 0 ≤ x8 ∧ x8 ≤ 24) (k10 : 0 ≤ x10 ∧ x10 ≤ 24) (k16 : (-1000000) ≤ x16 ∧ x16 ≤ 1000000) (d0 : x8 + (-4294967296) ≤ x10 ∧ x10 ≤ x8 + 0) (d1 : x5 + (-4294967296) ≤ x1 ∧ x1 ≤ x5 + 0) (d2 : x1 + (-4294967296) ≤ x5 ∧ x5 ≤ x1 + 0) (d3 : x8 + (-4294967296) ≤ x10 ∧ x10 ≤ x8 + 1) (h0 : x16 = line_0 (x10)) (f3 : x10 ≤ x8) (f4 : faces_0 ≤ 118) (f5 : (-1) * faces_0 + ((-1) * x3 + 0) ≤ (-120)) (f6 : S4 (pn_0) (pm_0) (faces_0) (wayMany_0) (pt_0) (ph_0) (alive_0) (blockOf_0) (drawnEdge_0) (faceMany_0) (face_0) (way_0) (line_0) (x2) (x1) (x6) (x8) (x10)) (hK_0_17 : ∀ j : Int, 0 ≤ j → j < 80 → (-1) ≤ blockOf_0 j ∧ blockOf_0 j ≤ 79) (hK_0_20 : ∀ j : Int, 0 ≤ j → j < 100 → (-1000000) ≤ line_0 j ∧ line_0 j ≤ 1000000) (hK_0_33 : ∀ j : Int, 0 ≤ j → j < 80 → 0 ≤ pt_0 j ∧ pt_0 j ≤ 24) (hK_0_34 : ∀ j : Int, 0 ≤ j → j < 80 → 0 ≤ ph_0 j ∧ ph_0 j ≤ 24) (hK_0_35 : ∀ j : Int, 0 ≤ j → j < 80 → 0 ≤ alive_0 j ∧ alive_0 j ≤ 1) (hK_0_40 : ∀ j : Int, 0 ≤ j → j < 120 → 0 ≤ faceMany_0 j ∧ faceMany_0 j ≤ 60) (hK_0_41 : ∀ j : Int, 0 ≤ j → j < 7200 → 0 ≤ face_0 j ∧ face_0 j ≤ 24) (hK_0_43 : ∀ j : Int, 0 ≤ j → j < 80 → 0 ≤ drawnEdge_0 j ∧ drawnEdge_0 j ≤ 1) (hK_0_46 : ∀ j : Int, 0 ≤ j → j < 30 → 0 ≤ way_0 j ∧ way_0 j ≤ 24) (kz_0_31 : 0 ≤ pn_0 ∧ pn_0 ≤ 25) (kz_0_32 : 0 ≤ pm_0 ∧ pm_0 ≤ 80) (kz_0_39 : 0 ≤ faces_0 ∧ faces_0 ≤ 120) (kz_0_45 : 0 ≤ wayMany_0 ∧ wayMany_0 ≤ 30) : 0 ≤ x16 ∧ x16 ≤ 24 := by
  have h := ‹S4 _ _ _ _ _ _ _ _ _ _ _ _ _ _ _ _ _ _›
  have hq := spl_len h.1.1
  have hr := spl_rng (j := x10) h.1.1 (by omega) (by have := h.1.2.2.1; omega)
  omega
def o_Mo_split_12 : or_T := (134, 17, [(0, (2, 0, 0, [165])), (1, (0, 0, 119, [])), (2, (0, 0, 79, [])), (3, (0, -2, 120, [])), (4, (2, 0, 0, [165])), (5, (0, 0, 119, [])), (6, (0, 3, 25, [])), (8, (0, 0, 24, [])), (10, (0, 0, 24, [])), (11, (2, 0, 0, [187])), (15, (2, 0, 0, [175])), (16, (0, -1000000, 1000000, []))], [(10, [16, 15, 10], []), (9, [15, 4], [20]), (9, [11, 4], [41]), (7, [10, 8], [5]), (20, [4], [50, 1, 0, 39, 0, 3, 2, 0, 39, 0, 118]), (20, [4, 3], [30, -120, -1, 1, 39, -1, 0, 0]), (20, [4, 2, 5, 6, 8, 10], [60, 4, 9, 147, 31, 32, 39, 45, 33, 34, 35, 17, 43, 40, 41, 46, 20]), (24, [0, 4], []), (24, [1, 5], [])], [(16, (0, 0, 24, []))], [], [], [], [(10, 8, -4294967296, 0), (1, 5, -4294967296, 0), (5, 1, -4294967296, 0), (10, 8, -4294967296, 1)])
theorem oo_Mo_split_12 {kA : Nat → ClassId} : or_ok PRD kA GG o_Mo_split_12 := by
  refine or_mk fun A ta ws vs hD hth hl => ?_
  intro t0 r0 t1 k1 t2 k2 t3 k3 t4 r4 t5 k5 t6 k6 t8 k8 t10 k10 t11 r11 t15 r15 t16 k16 d0 d1 d2 d3 f0 f1 f2 f3 f4 f5 f6 f7 f8
  replace f0 := shm_107 f0
  replace f1 := shm_740 f1
  replace f4 := shm_734 f4
  replace f5 := shm_735 f5
  replace f6 := shm_742 f6
  replace f7 := shm_5 f7
  replace f8 := shm_5 f8
  have q4 : n_v vs 4 = n_v vs 0 := f7.symm
  have q5 : n_v vs 5 = n_v vs 1 := f8.symm
  simp only [q4, q5] at f1 f4 f5 f6
  have cr_0_17 := fdq_189 hD hth r0
  have cr_0_20 := fdq_192 hD hth r0
  have cr_0_33 := fdq_117 hD hth r0
  have cr_0_34 := fdq_118 hD hth r0
  have cr_0_35 := fdq_132 hD hth r0
  have cr_0_40 := fdq_133 hD hth r0
  have cr_0_41 := fdq_134 hD hth r0
  have cr_0_43 := fdq_137 hD hth r0
  have cr_0_46 := fdq_190 hD hth r0
  have ad_15 : v_ad (n_v vs 15) = w_ar ws (n_v vs 0) 20 := congrArg v_ad f1
  simp only [ad_15] at f0
  have h0 : v_iv (n_v vs 16) = w_ei ws (w_ar ws (n_v vs 0) 20) (v_iv (n_v vs 10)) := f0
  have hK_0_17 := elq_113 hD hth cr_0_17
  have hK_0_20 := elq_115 hD hth cr_0_20
  have hK_0_33 := elq_60 hD hth cr_0_33
  have hK_0_34 := elq_61 hD hth cr_0_34
  have hK_0_35 := elq_72 hD hth cr_0_35
  have hK_0_40 := elq_73 hD hth cr_0_40
  have hK_0_41 := elq_74 hD hth cr_0_41
  have hK_0_43 := elq_76 hD hth cr_0_43
  have hK_0_46 := elq_114 hD hth cr_0_46
  have kz_0_31 := fdq_145 hD hth r0
  have kz_0_32 := fdq_140 hD hth r0
  have kz_0_39 := fdq_135 hD hth r0
  have kz_0_45 := fdq_191 hD hth r0
  have hrf0 : 0 ≤ v_iv (n_v vs 16) ∧ v_iv (n_v vs 16) ≤ 24 := vc_Mo_split_12_r0 (v_iv (n_v vs 1)) (v_iv (n_v vs 2)) (v_iv (n_v vs 3)) (v_iv (n_v vs 5)) (v_iv (n_v vs 6)) (v_iv (n_v vs 8)) (v_iv (n_v vs 10)) (v_iv (n_v vs 16)) (w_ei ws (w_ar ws (n_v vs 0) 20)) (w_fi ws (n_v vs 0) 39) (w_ei ws (w_ar ws (n_v vs 0) 33)) (w_ei ws (w_ar ws (n_v vs 0) 34)) (w_ei ws (w_ar ws (n_v vs 0) 35)) (w_ei ws (w_ar ws (n_v vs 0) 17)) (w_ei ws (w_ar ws (n_v vs 0) 43)) (w_ei ws (w_ar ws (n_v vs 0) 40)) (w_ei ws (w_ar ws (n_v vs 0) 41)) (w_ei ws (w_ar ws (n_v vs 0) 46)) (w_fi ws (n_v vs 0) 31) (w_fi ws (n_v vs 0) 32) (w_fi ws (n_v vs 0) 45) k1 k2 k3 k5 k6 k8 k10 k16 d0 d1 d2 d3 h0 (shm_24 f3) f4 f5 f6 hK_0_17 hK_0_20 hK_0_33 hK_0_34 hK_0_35 hK_0_40 hK_0_41 hK_0_43 hK_0_46 kz_0_31 kz_0_32 kz_0_39 kz_0_45
  have rf16 : tv_ok ta (0, 0, 24, []) (n_v vs 16) := tv_in t16 (by first | omega | grind) (by first | omega | grind)
  refine ⟨List.forall_mem_cons.mpr ⟨rf16, (fun _ h => (by cases h))⟩, [], trivial, ?_, (fun _ h => (by cases h))⟩
  rw [List.append_nil]
  exact (fun _ h => (by cases h))
set_option maxHeartbeats 4000000 in
theorem vc_Mo_split_13_0 (x1 : Int) (x2 : Int) (x3 : Int) (x5 : Int) (x6 : Int) (x8 : Int) (x10 : Int) (x12 : Int) (x13 : Int) (x14 : Int) (x16 : Int) (x17 : Int) (faces_0 : Int) (line_1 : Int → Int) (faces_1 : Int) (pt_1 : Int → Int) (ph_1 : Int → Int) (alive_1 : Int → Int) (blockOf_1 : Int → Int) (drawnEdge_1 : Int → Int) (faceMany_1 : Int → Int) (face_1 : Int → Int) (way_1 : Int → Int) (pn_1 : Int) (pm_1 : Int) (wayMany_1 : Int) (pn_0 : Int) (pm_0 : Int) (wayMany_0 : Int) (blockOf_0 : Int → Int) (line_0 : Int → Int) (pt_0 : Int → Int) (ph_0 : Int → Int) (alive_0 : Int → Int) (faceMany_0 : Int → Int) (face_0 : Int → Int) (drawnEdge_0 : Int → Int) (way_0 : Int → Int) (k1 : 0 ≤ x1 ∧ x1 ≤ 119) (k2 : 0 ≤ x2 ∧ x2 ≤ 79) (k3 : (-2) ≤ x3 ∧ x3 ≤ 120) (k5 : 0 ≤ x5 ∧ x5 ≤ 119) (k6 : 3 ≤ x6 ∧ x6 ≤ 25) (k8 : 0 ≤ x8 ∧ x8 ≤ 24) (k10 : 0 ≤ x10 ∧ x10 ≤ 24) (k12 : 60 ≤ x12 ∧ x12 ≤ 60) (k13 : 0 ≤ x13 ∧ x13 ≤ 7140) (k14 : 0 ≤ x14 ∧ x14 ≤ 7164) (k16 : 0 ≤ x16 ∧ x16 ≤ 24) (k17 : 1 ≤ x17 ∧ x17 ≤ 25) (d0 : x10 + 1 ≤ x17 ∧ x17 ≤ x10 + 1) (d1 : x8 + (-4294967296) ≤ x17 ∧ x17 ≤ x8 + 1) (d2 : x8 + (-4294967296) ≤ x17 ∧ x17 ≤ x8 + 2) (d3 : x10 + 0 ≤ x14 ∧ x14 ≤ x10 + 7140) (d4 : x8 + (-4294967296) ≤ x14 ∧ x14 ≤ x8 + 7140) (d5 : x8 + (-4294967296) ≤ x14 ∧ x14 ≤ x8 + 7141) (d6 : x13 + 0 ≤ x14 ∧ x14 ≤ x13 + 24) (d7 : x8 + (-4294967296) ≤ x10 ∧ x10 ≤ x8 + 0) (d8 : x5 + (-4294967296) ≤ x1 ∧ x1 ≤ x5 + 0) (d9 : x1 + (-4294967296) ≤ x5 ∧ x5 ≤ x1 + 0) (d10 : x8 + (-4294967296) ≤ x10 ∧ x10 ≤ x8 + 1) (f0 : x17 = x10 + 1) (f1 : faces_0 ≤ 118) (f2 : (-1) * faces_0 + ((-1) * x3 + 0) ≤ (-120)) (h6 : x16 = line_1 (x10)) (f8 : x14 = x13 + x10) (f9 : x13 = 60 * x1) (f11 : x10 ≤ x8) (f12 : faces_1 ≤ 118) (f13 : (-1) * faces_1 + ((-1) * x3 + 0) ≤ (-120)) (f14 : S4 (pn_1) (pm_1) (faces_1) (wayMany_1) (pt_1) (ph_1) (alive_1) (blockOf_1) (drawnEdge_1) (faceMany_1) (face_1) (way_1) (line_1) (x2) (x1) (x6) (x8) (x10)) (fe_0_31_1 : pn_0 = pn_1) (fe_0_32_1 : pm_0 = pm_1) (fe_0_39_1 : faces_0 = faces_1) (fe_0_45_1 : wayMany_0 = wayMany_1) (hE_0_17_1 : ∀ j : Int, blockOf_0 j = blockOf_1 j) (hK_0_17 : ∀ j : Int, 0 ≤ j → j < 80 → (-1) ≤ blockOf_0 j ∧ blockOf_0 j ≤ 79) (hE_0_20_1 : ∀ j : Int, line_0 j = line_1 j) (hK_0_20 : ∀ j : Int, 0 ≤ j → j < 100 → (-1000000) ≤ line_0 j ∧ line_0 j ≤ 1000000) (hE_0_33_1 : ∀ j : Int, pt_0 j = pt_1 j) (hK_0_33 : ∀ j : Int, 0 ≤ j → j < 80 → 0 ≤ pt_0 j ∧ pt_0 j ≤ 24) (hE_0_34_1 : ∀ j : Int, ph_0 j = ph_1 j) (hK_0_34 : ∀ j : Int, 0 ≤ j → j < 80 → 0 ≤ ph_0 j ∧ ph_0 j ≤ 24) (hE_0_35_1 : ∀ j : Int, alive_0 j = alive_1 j) (hK_0_35 : ∀ j : Int, 0 ≤ j → j < 80 → 0 ≤ alive_0 j ∧ alive_0 j ≤ 1) (hE_0_40_1 : ∀ j : Int, faceMany_0 j = faceMany_1 j) (hK_0_40 : ∀ j : Int, 0 ≤ j → j < 120 → 0 ≤ faceMany_0 j ∧ faceMany_0 j ≤ 60) (hE_0_41_1 : ∀ j : Int, 0 ≤ j → (j = x14 → face_0 j = x16) ∧ (j ≠ x14 → face_0 j = face_1 j)) (hK_0_41 : ∀ j : Int, 0 ≤ j → j < 7200 → 0 ≤ face_0 j ∧ face_0 j ≤ 24) (hE_0_43_1 : ∀ j : Int, drawnEdge_0 j = drawnEdge_1 j) (hK_0_43 : ∀ j : Int, 0 ≤ j → j < 80 → 0 ≤ drawnEdge_0 j ∧ drawnEdge_0 j ≤ 1) (hE_0_46_1 : ∀ j : Int, way_0 j = way_1 j) (hK_0_46 : ∀ j : Int, 0 ≤ j → j < 30 → 0 ≤ way_0 j ∧ way_0 j ≤ 24) (kz_0_31 : 0 ≤ pn_0 ∧ pn_0 ≤ 25) (kz_0_32 : 0 ≤ pm_0 ∧ pm_0 ≤ 80) (kz_0_39 : 0 ≤ faces_0 ∧ faces_0 ≤ 120) (kz_0_45 : 0 ≤ wayMany_0 ∧ wayMany_0 ≤ 30) : S4 (pn_0) (pm_0) (faces_0) (wayMany_0) (pt_0) (ph_0) (alive_0) (blockOf_0) (drawnEdge_0) (faceMany_0) (face_0) (way_0) (line_0) (x2) (x1) (x6) (x8) (x17) := by
  subst fe_0_31_1
  subst fe_0_32_1
  subst fe_0_39_1
  subst fe_0_45_1
  have e_hE_0_17_1 := funext hE_0_17_1; subst e_hE_0_17_1
  have e_hE_0_20_1 := funext hE_0_20_1; subst e_hE_0_20_1
  have e_hE_0_33_1 := funext hE_0_33_1; subst e_hE_0_33_1
  have e_hE_0_34_1 := funext hE_0_34_1; subst e_hE_0_34_1
  have e_hE_0_35_1 := funext hE_0_35_1; subst e_hE_0_35_1
  have e_hE_0_40_1 := funext hE_0_40_1; subst e_hE_0_40_1
  have e_hE_0_43_1 := funext hE_0_43_1; subst e_hE_0_43_1
  have e_hE_0_46_1 := funext hE_0_46_1; subst e_hE_0_46_1
  first
    | exact ⟨spb_of (c := x8) ‹S3 _ _ _ _ _ _ _ _ _ _ _ _ _ _ _ _ _› (by omega) (by rw [show wayMany_0 - 1 = x14 by omega]; omega), fun j a b => by exfalso; omega⟩
    | (obtain rfl : x12 = 60 := by omega
       exact s4_next (k := x10) ‹S4 _ _ _ _ _ _ _ _ _ _ _ _ _ _ _ _ _ _› hE_0_41_1 (by omega) (by omega) (by omega) (by omega) (by omega) (by omega))
def o_Mo_split_13 : or_T := (109, 18, [(0, (2, 0, 0, [165])), (1, (0, 0, 119, [])), (2, (0, 0, 79, [])), (3, (0, -2, 120, [])), (4, (2, 0, 0, [165])), (5, (0, 0, 119, [])), (6, (0, 3, 25, [])), (8, (0, 0, 24, [])), (10, (0, 0, 24, [])), (11, (2, 0, 0, [187])), (12, (0, 60, 60, [])), (13, (0, 0, 7140, [])), (14, (0, 0, 7164, [])), (15, (2, 0, 0, [175])), (16, (0, 0, 24, [])), (17, (0, 1, 25, []))], [(6, [17, 10], [1]), (20, [4], [50, 1, 0, 39, 0, 3, 2, 0, 39, 0, 118]), (20, [4, 3], [30, -120, -1, 1, 39, -1, 0, 0]), (24, [0, 4], []), (24, [1, 5], []), (100, [11, 14, 16], []), (10, [16, 15, 10], []), (9, [15, 4], [20]), (1, [14, 13, 10], []), (3, [13, 12, 5], []), (9, [11, 4], [41]), (7, [10, 8], [5]), (20, [4], [50, 1, 0, 39, 0, 3, 2, 0, 39, 0, 118]), (20, [4, 3], [30, -120, -1, 1, 39, -1, 0, 0]), (20, [4, 2, 5, 6, 8, 10], [60, 4, 9, 147, 31, 32, 39, 45, 33, 34, 35, 17, 43, 40, 41, 46, 20])], [], [], [(20, [4, 2, 5, 6, 8, 17], [60, 4, 9, 147, 31, 32, 39, 45, 33, 34, 35, 17, 43, 40, 41, 46, 20])], [], [(17, 10, 1, 1), (17, 8, -4294967296, 1), (17, 8, -4294967296, 2), (14, 10, 0, 7140), (14, 8, -4294967296, 7140), (14, 8, -4294967296, 7141), (14, 13, 0, 24), (10, 8, -4294967296, 0), (1, 5, -4294967296, 0), (5, 1, -4294967296, 0), (10, 8, -4294967296, 1)])
theorem oo_Mo_split_13 {kA : Nat → ClassId} : or_ok PRD kA GG o_Mo_split_13 := by
  refine or_mk fun A ta ws vs hD hth hl => ?_
  intro t0 r0 t1 k1 t2 k2 t3 k3 t4 r4 t5 k5 t6 k6 t8 k8 t10 k10 t11 r11 t12 k12 t13 k13 t14 k14 t15 r15 t16 k16 t17 k17 d0 d1 d2 d3 d4 d5 d6 d7 d8 d9 d10 f0 f1 f2 f3 f4 ta1 w1 le1 s1 f6 f7 f8 f9 f10 f11 f12 f13 f14
  replace f0 := shm_4 f0
  replace f1 := shm_734 f1
  replace f2 := shm_735 f2
  replace f3 := shm_5 f3
  replace f4 := shm_5 f4
  have s1 : (∀ b j, w_el ws b j = if b = v_ad (n_v vs 11) ∧ j = (v_iv (n_v vs 14)).toNat then v_iv (n_v vs 16) else w_el w1 b j) ∧ ∀ b k, w_fd ws b k = w_fd w1 b k := s1.2
  replace f6 := shm_107 f6
  replace f7 := shm_740 f7
  replace f8 := shm_12 f8
  replace f9 := shm_38 f9
  rw [show v_iv (n_v vs 12) = 60 from by omega] at f9
  replace f10 := shm_522 f10
  replace f11 := shm_24 f11
  replace f12 := shm_734 f12
  replace f13 := shm_735 f13
  replace f14 := shm_742 f14
  have q4 : n_v vs 4 = n_v vs 0 := f3.symm
  have q5 : n_v vs 5 = n_v vs 1 := f4.symm
  simp only [q4, q5] at f1 f2 f7 f9 f10 f12 f13 f14
  have ar_0_17_1 : w_ar w1 (n_v vs 0) 17 = w_ar ws (n_v vs 0) 17 := congrArg v_ad (s1.2 _ _).symm
  have cr_0_17 := fdq_189 hD hth r0
  have ar_0_20_1 : w_ar w1 (n_v vs 0) 20 = w_ar ws (n_v vs 0) 20 := congrArg v_ad (s1.2 _ _).symm
  have cr_0_20 := fdq_192 hD hth r0
  have ar_0_33_1 : w_ar w1 (n_v vs 0) 33 = w_ar ws (n_v vs 0) 33 := congrArg v_ad (s1.2 _ _).symm
  have cr_0_33 := fdq_117 hD hth r0
  have ar_0_34_1 : w_ar w1 (n_v vs 0) 34 = w_ar ws (n_v vs 0) 34 := congrArg v_ad (s1.2 _ _).symm
  have cr_0_34 := fdq_118 hD hth r0
  have ar_0_35_1 : w_ar w1 (n_v vs 0) 35 = w_ar ws (n_v vs 0) 35 := congrArg v_ad (s1.2 _ _).symm
  have cr_0_35 := fdq_132 hD hth r0
  have ar_0_40_1 : w_ar w1 (n_v vs 0) 40 = w_ar ws (n_v vs 0) 40 := congrArg v_ad (s1.2 _ _).symm
  have cr_0_40 := fdq_133 hD hth r0
  have ar_0_41_1 : w_ar w1 (n_v vs 0) 41 = w_ar ws (n_v vs 0) 41 := congrArg v_ad (s1.2 _ _).symm
  have cr_0_41 := fdq_134 hD hth r0
  have ar_0_43_1 : w_ar w1 (n_v vs 0) 43 = w_ar ws (n_v vs 0) 43 := congrArg v_ad (s1.2 _ _).symm
  have cr_0_43 := fdq_137 hD hth r0
  have ar_0_46_1 : w_ar w1 (n_v vs 0) 46 = w_ar ws (n_v vs 0) 46 := congrArg v_ad (s1.2 _ _).symm
  have cr_0_46 := fdq_190 hD hth r0
  have ad_15 : v_ad (n_v vs 15) = w_ar ws (n_v vs 0) 20 := (congrArg v_ad f7).trans ar_0_20_1
  have ad_11 : v_ad (n_v vs 11) = w_ar ws (n_v vs 0) 41 := (congrArg v_ad f10).trans ar_0_41_1
  simp only [ad_15] at f6
  have h6 : v_iv (n_v vs 16) = w_ei w1 (w_ar ws (n_v vs 0) 20) (v_iv (n_v vs 10)) := f6
  simp only [ar_0_17_1, ar_0_20_1, ar_0_33_1, ar_0_34_1, ar_0_35_1, ar_0_40_1, ar_0_41_1, ar_0_43_1, ar_0_46_1] at f14
  have fe_0_31_1 : w_fi ws (n_v vs 0) 31 = w_fi w1 (n_v vs 0) 31 := congrArg v_iv (s1.2 _ _)
  have fe_0_32_1 : w_fi ws (n_v vs 0) 32 = w_fi w1 (n_v vs 0) 32 := congrArg v_iv (s1.2 _ _)
  have fe_0_39_1 : w_fi ws (n_v vs 0) 39 = w_fi w1 (n_v vs 0) 39 := congrArg v_iv (s1.2 _ _)
  have fe_0_45_1 : w_fi ws (n_v vs 0) 45 = w_fi w1 (n_v vs 0) 45 := congrArg v_iv (s1.2 _ _)
  have hE_0_17_1 : ∀ j : Int, w_ei ws (w_ar ws (n_v vs 0) 17) j = w_ei w1 (w_ar ws (n_v vs 0) 17) j := el_kp s1.1 r11 cr_0_17 (by decide)
  have hK_0_17 := elq_113 hD hth cr_0_17
  have hE_0_20_1 : ∀ j : Int, w_ei ws (w_ar ws (n_v vs 0) 20) j = w_ei w1 (w_ar ws (n_v vs 0) 20) j := el_kp s1.1 r11 cr_0_20 (by decide)
  have hK_0_20 := elq_115 hD hth cr_0_20
  have hE_0_33_1 : ∀ j : Int, w_ei ws (w_ar ws (n_v vs 0) 33) j = w_ei w1 (w_ar ws (n_v vs 0) 33) j := el_kp s1.1 r11 cr_0_33 (by decide)
  have hK_0_33 := elq_60 hD hth cr_0_33
  have hE_0_34_1 : ∀ j : Int, w_ei ws (w_ar ws (n_v vs 0) 34) j = w_ei w1 (w_ar ws (n_v vs 0) 34) j := el_kp s1.1 r11 cr_0_34 (by decide)
  have hK_0_34 := elq_61 hD hth cr_0_34
  have hE_0_35_1 : ∀ j : Int, w_ei ws (w_ar ws (n_v vs 0) 35) j = w_ei w1 (w_ar ws (n_v vs 0) 35) j := el_kp s1.1 r11 cr_0_35 (by decide)
  have hK_0_35 := elq_72 hD hth cr_0_35
  have hE_0_40_1 : ∀ j : Int, w_ei ws (w_ar ws (n_v vs 0) 40) j = w_ei w1 (w_ar ws (n_v vs 0) 40) j := el_kp s1.1 r11 cr_0_40 (by decide)
  have hK_0_40 := elq_73 hD hth cr_0_40
  have hE_0_41_1 : ∀ j : Int, 0 ≤ j → (j = v_iv (n_v vs 14) → w_ei ws (w_ar ws (n_v vs 0) 41) j = v_iv (n_v vs 16)) ∧ (j ≠ v_iv (n_v vs 14) → w_ei ws (w_ar ws (n_v vs 0) 41) j = w_ei w1 (w_ar ws (n_v vs 0) 41) j) := fun j hj => ⟨fun h => by unfold w_ei; rw [s1.1, if_pos ⟨ad_11.symm, by rw [h]⟩], fun h => by unfold w_ei; rw [s1.1, if_neg (fun e => h (by have := e.2; omega))]⟩
  have hK_0_41 := elq_74 hD hth cr_0_41
  have hE_0_43_1 : ∀ j : Int, w_ei ws (w_ar ws (n_v vs 0) 43) j = w_ei w1 (w_ar ws (n_v vs 0) 43) j := el_kp s1.1 r11 cr_0_43 (by decide)
  have hK_0_43 := elq_76 hD hth cr_0_43
  have hE_0_46_1 : ∀ j : Int, w_ei ws (w_ar ws (n_v vs 0) 46) j = w_ei w1 (w_ar ws (n_v vs 0) 46) j := el_kp s1.1 r11 cr_0_46 (by decide)
  have hK_0_46 := elq_114 hD hth cr_0_46
  have kz_0_31 := fdq_145 hD hth r0
  have kz_0_32 := fdq_140 hD hth r0
  have kz_0_39 := fdq_135 hD hth r0
  have kz_0_45 := fdq_191 hD hth r0
  have nf0 : fc_1 PRD (20, [4, 2, 5, 6, 8, 17], [60, 4, 9, 147, 31, 32, 39, 45, 33, 34, 35, 17, 43, 40, 41, 46, 20]) ws (vs) := by
    refine ⟨nf_in hl rfl, sgq_742 ?_⟩
    · show S4 (w_fi ws (n_v vs 4) 31) (w_fi ws (n_v vs 4) 32) (w_fi ws (n_v vs 4) 39) (w_fi ws (n_v vs 4) 45) (w_ei ws (w_ar ws (n_v vs 4) 33)) (w_ei ws (w_ar ws (n_v vs 4) 34)) (w_ei ws (w_ar ws (n_v vs 4) 35)) (w_ei ws (w_ar ws (n_v vs 4) 17)) (w_ei ws (w_ar ws (n_v vs 4) 43)) (w_ei ws (w_ar ws (n_v vs 4) 40)) (w_ei ws (w_ar ws (n_v vs 4) 41)) (w_ei ws (w_ar ws (n_v vs 4) 46)) (w_ei ws (w_ar ws (n_v vs 4) 20)) (v_iv (n_v vs 2)) (v_iv (n_v vs 5)) (v_iv (n_v vs 6)) (v_iv (n_v vs 8)) (v_iv (n_v vs 17))
      simp only [q4, q5]
      exact vc_Mo_split_13_0 (v_iv (n_v vs 1)) (v_iv (n_v vs 2)) (v_iv (n_v vs 3)) (v_iv (n_v vs 5)) (v_iv (n_v vs 6)) (v_iv (n_v vs 8)) (v_iv (n_v vs 10)) (v_iv (n_v vs 12)) (v_iv (n_v vs 13)) (v_iv (n_v vs 14)) (v_iv (n_v vs 16)) (v_iv (n_v vs 17)) (w_fi ws (n_v vs 0) 39) (w_ei w1 (w_ar ws (n_v vs 0) 20)) (w_fi w1 (n_v vs 0) 39) (w_ei w1 (w_ar ws (n_v vs 0) 33)) (w_ei w1 (w_ar ws (n_v vs 0) 34)) (w_ei w1 (w_ar ws (n_v vs 0) 35)) (w_ei w1 (w_ar ws (n_v vs 0) 17)) (w_ei w1 (w_ar ws (n_v vs 0) 43)) (w_ei w1 (w_ar ws (n_v vs 0) 40)) (w_ei w1 (w_ar ws (n_v vs 0) 41)) (w_ei w1 (w_ar ws (n_v vs 0) 46)) (w_fi w1 (n_v vs 0) 31) (w_fi w1 (n_v vs 0) 32) (w_fi w1 (n_v vs 0) 45) (w_fi ws (n_v vs 0) 31) (w_fi ws (n_v vs 0) 32) (w_fi ws (n_v vs 0) 45) (w_ei ws (w_ar ws (n_v vs 0) 17)) (w_ei ws (w_ar ws (n_v vs 0) 20)) (w_ei ws (w_ar ws (n_v vs 0) 33)) (w_ei ws (w_ar ws (n_v vs 0) 34)) (w_ei ws (w_ar ws (n_v vs 0) 35)) (w_ei ws (w_ar ws (n_v vs 0) 40)) (w_ei ws (w_ar ws (n_v vs 0) 41)) (w_ei ws (w_ar ws (n_v vs 0) 43)) (w_ei ws (w_ar ws (n_v vs 0) 46)) k1 k2 k3 k5 k6 k8 k10 k12 k13 k14 k16 k17 d0 d1 d2 d3 d4 d5 d6 d7 d8 d9 d10 f0 f1 f2 h6 f8 f9 f11 f12 f13 f14 fe_0_31_1 fe_0_32_1 fe_0_39_1 fe_0_45_1 hE_0_17_1 hK_0_17 hE_0_20_1 hK_0_20 hE_0_33_1 hK_0_33 hE_0_34_1 hK_0_34 hE_0_35_1 hK_0_35 hE_0_40_1 hK_0_40 hE_0_41_1 hK_0_41 hE_0_43_1 hK_0_43 hE_0_46_1 hK_0_46 kz_0_31 kz_0_32 kz_0_39 kz_0_45
  refine ⟨(fun _ h => (by cases h)), [], trivial, ?_, (fun _ h => (by cases h))⟩
  rw [List.append_nil]
  exact List.forall_mem_cons.mpr ⟨⟨show (20 : Nat) < 100 from by decide, nf0⟩, (fun _ h => (by cases h))⟩
set_option maxHeartbeats 4000000 in
theorem vc_Mo_split_14_0 (x1 : Int) (x2 : Int) (x3 : Int) (x5 : Int) (x6 : Int) (x8 : Int) (x9 : Int) (x10 : Int) (x12 : Int) (faces_0 : Int) (faces_1 : Int) (pt_1 : Int → Int) (ph_1 : Int → Int) (alive_1 : Int → Int) (blockOf_1 : Int → Int) (drawnEdge_1 : Int → Int) (faceMany_1 : Int → Int) (face_1 : Int → Int) (way_1 : Int → Int) (line_1 : Int → Int) (pn_1 : Int) (pm_1 : Int) (wayMany_1 : Int) (pn_0 : Int) (pm_0 : Int) (wayMany_0 : Int) (blockOf_0 : Int → Int) (line_0 : Int → Int) (pt_0 : Int → Int) (ph_0 : Int → Int) (alive_0 : Int → Int) (faceMany_0 : Int → Int) (face_0 : Int → Int) (drawnEdge_0 : Int → Int) (way_0 : Int → Int) (k1 : 0 ≤ x1 ∧ x1 ≤ 119) (k2 : 0 ≤ x2 ∧ x2 ≤ 79) (k3 : (-2) ≤ x3 ∧ x3 ≤ 120) (k5 : 0 ≤ x5 ∧ x5 ≤ 119) (k6 : 3 ≤ x6 ∧ x6 ≤ 25) (k8 : 0 ≤ x8 ∧ x8 ≤ 24) (k9 : 1 ≤ x9 ∧ x9 ≤ 60) (k10 : (-2) ≤ x10 ∧ x10 ≤ 0) (k12 : 0 ≤ x12 ∧ x12 ≤ 0) (d0 : x5 + (-4294967296) ≤ x1 ∧ x1 ≤ x5 + 0) (d1 : x1 + (-4294967296) ≤ x5 ∧ x5 ≤ x1 + 0) (d2 : x9 + (-4294967296) ≤ x8 ∧ x8 ≤ x9 + (-1)) (f0 : faces_0 ≤ 118) (f1 : (-1) * faces_0 + ((-1) * x3 + 0) ≤ (-120)) (f6 : x10 ≤ 0) (f7 : faces_1 ≤ 118) (f8 : (-1) * faces_1 + ((-1) * x3 + 0) ≤ (-120)) (f9 : S5 (pn_1) (pm_1) (faces_1) (wayMany_1) (pt_1) (ph_1) (alive_1) (blockOf_1) (drawnEdge_1) (faceMany_1) (face_1) (way_1) (line_1) (x2) (x1) (x6) (x8) (x9) (x10)) (fe_0_31_1 : pn_0 = pn_1) (fe_0_32_1 : pm_0 = pm_1) (fe_0_39_1 : faces_0 = faces_1) (fe_0_45_1 : wayMany_0 = wayMany_1) (hE_0_17_1 : ∀ j : Int, blockOf_0 j = blockOf_1 j) (hK_0_17 : ∀ j : Int, 0 ≤ j → j < 80 → (-1) ≤ blockOf_0 j ∧ blockOf_0 j ≤ 79) (hE_0_20_1 : ∀ j : Int, line_0 j = line_1 j) (hK_0_20 : ∀ j : Int, 0 ≤ j → j < 100 → (-1000000) ≤ line_0 j ∧ line_0 j ≤ 1000000) (hE_0_33_1 : ∀ j : Int, pt_0 j = pt_1 j) (hK_0_33 : ∀ j : Int, 0 ≤ j → j < 80 → 0 ≤ pt_0 j ∧ pt_0 j ≤ 24) (hE_0_34_1 : ∀ j : Int, ph_0 j = ph_1 j) (hK_0_34 : ∀ j : Int, 0 ≤ j → j < 80 → 0 ≤ ph_0 j ∧ ph_0 j ≤ 24) (hE_0_35_1 : ∀ j : Int, alive_0 j = alive_1 j) (hK_0_35 : ∀ j : Int, 0 ≤ j → j < 80 → 0 ≤ alive_0 j ∧ alive_0 j ≤ 1) (hE_0_40_1 : ∀ j : Int, 0 ≤ j → (j = x1 → faceMany_0 j = x9) ∧ (j ≠ x1 → faceMany_0 j = faceMany_1 j)) (hK_0_40 : ∀ j : Int, 0 ≤ j → j < 120 → 0 ≤ faceMany_0 j ∧ faceMany_0 j ≤ 60) (hE_0_41_1 : ∀ j : Int, face_0 j = face_1 j) (hK_0_41 : ∀ j : Int, 0 ≤ j → j < 7200 → 0 ≤ face_0 j ∧ face_0 j ≤ 24) (hE_0_43_1 : ∀ j : Int, drawnEdge_0 j = drawnEdge_1 j) (hK_0_43 : ∀ j : Int, 0 ≤ j → j < 80 → 0 ≤ drawnEdge_0 j ∧ drawnEdge_0 j ≤ 1) (hE_0_46_1 : ∀ j : Int, way_0 j = way_1 j) (hK_0_46 : ∀ j : Int, 0 ≤ j → j < 30 → 0 ≤ way_0 j ∧ way_0 j ≤ 24) (kz_0_31 : 0 ≤ pn_0 ∧ pn_0 ≤ 25) (kz_0_32 : 0 ≤ pm_0 ∧ pm_0 ≤ 80) (kz_0_39 : 0 ≤ faces_0 ∧ faces_0 ≤ 120) (kz_0_45 : 0 ≤ wayMany_0 ∧ wayMany_0 ≤ 30) : S6 (pn_0) (pm_0) (faces_0) (wayMany_0) (pt_0) (ph_0) (alive_0) (blockOf_0) (drawnEdge_0) (faceMany_0) (face_0) (way_0) (line_0) (x2) (x1) (x6) (x8) (x12) (x8) := by
  subst fe_0_31_1
  subst fe_0_32_1
  subst fe_0_39_1
  subst fe_0_45_1
  have e_hE_0_17_1 := funext hE_0_17_1; subst e_hE_0_17_1
  have e_hE_0_20_1 := funext hE_0_20_1; subst e_hE_0_20_1
  have e_hE_0_33_1 := funext hE_0_33_1; subst e_hE_0_33_1
  have e_hE_0_34_1 := funext hE_0_34_1; subst e_hE_0_34_1
  have e_hE_0_35_1 := funext hE_0_35_1; subst e_hE_0_35_1
  have e_hE_0_41_1 := funext hE_0_41_1; subst e_hE_0_41_1
  have e_hE_0_43_1 := funext hE_0_43_1; subst e_hE_0_43_1
  have e_hE_0_46_1 := funext hE_0_46_1; subst e_hE_0_46_1
  first
    | exact s6_of ‹S5 _ _ _ _ _ _ _ _ _ _ _ _ _ _ _ _ _ _ _› (by omega) (by omega) hE_0_40_1 rfl rfl (by omega) rfl
    | (obtain rfl : x12 = 60 := by omega
       exact s6_next (mm := x9) (k := x10) (q := x17) ‹S6 _ _ _ _ _ _ _ _ _ _ _ _ _ _ _ _ _ _ _› hE_0_41_1 (by omega) (by omega) (by omega) (by omega) (by omega) (by rw [← Int.tmod_eq_emod_of_nonneg (by omega)]; assumption) (by omega) (by omega))
def o_Mo_split_14 : or_T := (203, 13, [(0, (2, 0, 0, [165])), (1, (0, 0, 119, [])), (2, (0, 0, 79, [])), (3, (0, -2, 120, [])), (5, (0, 0, 119, [])), (6, (0, 3, 25, [])), (8, (0, 0, 24, [])), (9, (0, 1, 60, [])), (10, (0, -2, 0, [])), (11, (2, 0, 0, [186])), (12, (0, 0, 0, []))], [(20, [4], [50, 1, 0, 39, 0, 3, 2, 0, 39, 0, 118]), (20, [4, 3], [30, -120, -1, 1, 39, -1, 0, 0]), (24, [0, 4], []), (24, [1, 5], []), (100, [11, 5, 9], []), (9, [11, 4], [40]), (8, [10], [5]), (20, [4], [50, 1, 0, 39, 0, 3, 2, 0, 39, 0, 118]), (20, [4, 3], [30, -120, -1, 1, 39, -1, 0, 0]), (20, [4, 2, 5, 6, 8, 9, 10], [60, 4, 9, 148, 31, 32, 39, 45, 33, 34, 35, 17, 43, 40, 41, 46, 20])], [], [], [(20, [4, 2, 5, 6, 8, 12, 8], [60, 4, 9, 149, 31, 32, 39, 45, 33, 34, 35, 17, 43, 40, 41, 46, 20])], [], [(1, 5, -4294967296, 0), (5, 1, -4294967296, 0), (8, 9, -4294967296, -1)])
theorem oo_Mo_split_14 {kA : Nat → ClassId} : or_ok PRD kA GG o_Mo_split_14 := by
  refine or_mk fun A ta ws vs hD hth hl => ?_
  intro t0 r0 t1 k1 t2 k2 t3 k3 t5 k5 t6 k6 t8 k8 t9 k9 t10 k10 t11 r11 t12 k12 d0 d1 d2 f0 f1 f2 f3 ta1 w1 le1 s1 f5 f6 f7 f8 f9
  replace f0 := shm_734 f0
  replace f1 := shm_735 f1
  replace f2 := shm_5 f2
  replace f3 := shm_5 f3
  have s1 : (∀ b j, w_el ws b j = if b = v_ad (n_v vs 11) ∧ j = (v_iv (n_v vs 5)).toNat then v_iv (n_v vs 9) else w_el w1 b j) ∧ ∀ b k, w_fd ws b k = w_fd w1 b k := s1.2
  replace f5 := shm_518 f5
  replace f6 := shm_295 f6
  replace f7 := shm_734 f7
  replace f8 := shm_735 f8
  replace f9 := shm_743 f9
  have q4 : n_v vs 4 = n_v vs 0 := f2.symm
  have q5 : n_v vs 5 = n_v vs 1 := f3.symm
  simp only [q4] at f0 f1
  rw [q5] at s1
  simp only [q4, q5] at f5 f7 f8 f9
  have ar_0_17_1 : w_ar w1 (n_v vs 0) 17 = w_ar ws (n_v vs 0) 17 := congrArg v_ad (s1.2 _ _).symm
  have cr_0_17 := fdq_189 hD hth r0
  have ar_0_20_1 : w_ar w1 (n_v vs 0) 20 = w_ar ws (n_v vs 0) 20 := congrArg v_ad (s1.2 _ _).symm
  have cr_0_20 := fdq_192 hD hth r0
  have ar_0_33_1 : w_ar w1 (n_v vs 0) 33 = w_ar ws (n_v vs 0) 33 := congrArg v_ad (s1.2 _ _).symm
  have cr_0_33 := fdq_117 hD hth r0
  have ar_0_34_1 : w_ar w1 (n_v vs 0) 34 = w_ar ws (n_v vs 0) 34 := congrArg v_ad (s1.2 _ _).symm
  have cr_0_34 := fdq_118 hD hth r0
  have ar_0_35_1 : w_ar w1 (n_v vs 0) 35 = w_ar ws (n_v vs 0) 35 := congrArg v_ad (s1.2 _ _).symm
  have cr_0_35 := fdq_132 hD hth r0
  have ar_0_40_1 : w_ar w1 (n_v vs 0) 40 = w_ar ws (n_v vs 0) 40 := congrArg v_ad (s1.2 _ _).symm
  have cr_0_40 := fdq_133 hD hth r0
  have ar_0_41_1 : w_ar w1 (n_v vs 0) 41 = w_ar ws (n_v vs 0) 41 := congrArg v_ad (s1.2 _ _).symm
  have cr_0_41 := fdq_134 hD hth r0
  have ar_0_43_1 : w_ar w1 (n_v vs 0) 43 = w_ar ws (n_v vs 0) 43 := congrArg v_ad (s1.2 _ _).symm
  have cr_0_43 := fdq_137 hD hth r0
  have ar_0_46_1 : w_ar w1 (n_v vs 0) 46 = w_ar ws (n_v vs 0) 46 := congrArg v_ad (s1.2 _ _).symm
  have cr_0_46 := fdq_190 hD hth r0
  have ad_11 : v_ad (n_v vs 11) = w_ar ws (n_v vs 0) 40 := (congrArg v_ad f5).trans ar_0_40_1
  simp only [ar_0_17_1, ar_0_20_1, ar_0_33_1, ar_0_34_1, ar_0_35_1, ar_0_40_1, ar_0_41_1, ar_0_43_1, ar_0_46_1] at f9
  have fe_0_31_1 : w_fi ws (n_v vs 0) 31 = w_fi w1 (n_v vs 0) 31 := congrArg v_iv (s1.2 _ _)
  have fe_0_32_1 : w_fi ws (n_v vs 0) 32 = w_fi w1 (n_v vs 0) 32 := congrArg v_iv (s1.2 _ _)
  have fe_0_39_1 : w_fi ws (n_v vs 0) 39 = w_fi w1 (n_v vs 0) 39 := congrArg v_iv (s1.2 _ _)
  have fe_0_45_1 : w_fi ws (n_v vs 0) 45 = w_fi w1 (n_v vs 0) 45 := congrArg v_iv (s1.2 _ _)
  have hE_0_17_1 : ∀ j : Int, w_ei ws (w_ar ws (n_v vs 0) 17) j = w_ei w1 (w_ar ws (n_v vs 0) 17) j := el_kp s1.1 r11 cr_0_17 (by decide)
  have hK_0_17 := elq_113 hD hth cr_0_17
  have hE_0_20_1 : ∀ j : Int, w_ei ws (w_ar ws (n_v vs 0) 20) j = w_ei w1 (w_ar ws (n_v vs 0) 20) j := el_kp s1.1 r11 cr_0_20 (by decide)
  have hK_0_20 := elq_115 hD hth cr_0_20
  have hE_0_33_1 : ∀ j : Int, w_ei ws (w_ar ws (n_v vs 0) 33) j = w_ei w1 (w_ar ws (n_v vs 0) 33) j := el_kp s1.1 r11 cr_0_33 (by decide)
  have hK_0_33 := elq_60 hD hth cr_0_33
  have hE_0_34_1 : ∀ j : Int, w_ei ws (w_ar ws (n_v vs 0) 34) j = w_ei w1 (w_ar ws (n_v vs 0) 34) j := el_kp s1.1 r11 cr_0_34 (by decide)
  have hK_0_34 := elq_61 hD hth cr_0_34
  have hE_0_35_1 : ∀ j : Int, w_ei ws (w_ar ws (n_v vs 0) 35) j = w_ei w1 (w_ar ws (n_v vs 0) 35) j := el_kp s1.1 r11 cr_0_35 (by decide)
  have hK_0_35 := elq_72 hD hth cr_0_35
  have hE_0_40_1 : ∀ j : Int, 0 ≤ j → (j = v_iv (n_v vs 1) → w_ei ws (w_ar ws (n_v vs 0) 40) j = v_iv (n_v vs 9)) ∧ (j ≠ v_iv (n_v vs 1) → w_ei ws (w_ar ws (n_v vs 0) 40) j = w_ei w1 (w_ar ws (n_v vs 0) 40) j) := fun j hj => ⟨fun h => by unfold w_ei; rw [s1.1, if_pos ⟨ad_11.symm, by rw [h]⟩], fun h => by unfold w_ei; rw [s1.1, if_neg (fun e => h (by have := e.2; omega))]⟩
  have hK_0_40 := elq_73 hD hth cr_0_40
  have hE_0_41_1 : ∀ j : Int, w_ei ws (w_ar ws (n_v vs 0) 41) j = w_ei w1 (w_ar ws (n_v vs 0) 41) j := el_kp s1.1 r11 cr_0_41 (by decide)
  have hK_0_41 := elq_74 hD hth cr_0_41
  have hE_0_43_1 : ∀ j : Int, w_ei ws (w_ar ws (n_v vs 0) 43) j = w_ei w1 (w_ar ws (n_v vs 0) 43) j := el_kp s1.1 r11 cr_0_43 (by decide)
  have hK_0_43 := elq_76 hD hth cr_0_43
  have hE_0_46_1 : ∀ j : Int, w_ei ws (w_ar ws (n_v vs 0) 46) j = w_ei w1 (w_ar ws (n_v vs 0) 46) j := el_kp s1.1 r11 cr_0_46 (by decide)
  have hK_0_46 := elq_114 hD hth cr_0_46
  have kz_0_31 := fdq_145 hD hth r0
  have kz_0_32 := fdq_140 hD hth r0
  have kz_0_39 := fdq_135 hD hth r0
  have kz_0_45 := fdq_191 hD hth r0
  have nf0 : fc_1 PRD (20, [4, 2, 5, 6, 8, 12, 8], [60, 4, 9, 149, 31, 32, 39, 45, 33, 34, 35, 17, 43, 40, 41, 46, 20]) ws (vs) := by
    refine ⟨nf_in hl rfl, sgq_744 ?_⟩
    · show S6 (w_fi ws (n_v vs 4) 31) (w_fi ws (n_v vs 4) 32) (w_fi ws (n_v vs 4) 39) (w_fi ws (n_v vs 4) 45) (w_ei ws (w_ar ws (n_v vs 4) 33)) (w_ei ws (w_ar ws (n_v vs 4) 34)) (w_ei ws (w_ar ws (n_v vs 4) 35)) (w_ei ws (w_ar ws (n_v vs 4) 17)) (w_ei ws (w_ar ws (n_v vs 4) 43)) (w_ei ws (w_ar ws (n_v vs 4) 40)) (w_ei ws (w_ar ws (n_v vs 4) 41)) (w_ei ws (w_ar ws (n_v vs 4) 46)) (w_ei ws (w_ar ws (n_v vs 4) 20)) (v_iv (n_v vs 2)) (v_iv (n_v vs 5)) (v_iv (n_v vs 6)) (v_iv (n_v vs 8)) (v_iv (n_v vs 12)) (v_iv (n_v vs 8))
      simp only [q4, q5]
      exact vc_Mo_split_14_0 (v_iv (n_v vs 1)) (v_iv (n_v vs 2)) (v_iv (n_v vs 3)) (v_iv (n_v vs 5)) (v_iv (n_v vs 6)) (v_iv (n_v vs 8)) (v_iv (n_v vs 9)) (v_iv (n_v vs 10)) (v_iv (n_v vs 12)) (w_fi ws (n_v vs 0) 39) (w_fi w1 (n_v vs 0) 39) (w_ei w1 (w_ar ws (n_v vs 0) 33)) (w_ei w1 (w_ar ws (n_v vs 0) 34)) (w_ei w1 (w_ar ws (n_v vs 0) 35)) (w_ei w1 (w_ar ws (n_v vs 0) 17)) (w_ei w1 (w_ar ws (n_v vs 0) 43)) (w_ei w1 (w_ar ws (n_v vs 0) 40)) (w_ei w1 (w_ar ws (n_v vs 0) 41)) (w_ei w1 (w_ar ws (n_v vs 0) 46)) (w_ei w1 (w_ar ws (n_v vs 0) 20)) (w_fi w1 (n_v vs 0) 31) (w_fi w1 (n_v vs 0) 32) (w_fi w1 (n_v vs 0) 45) (w_fi ws (n_v vs 0) 31) (w_fi ws (n_v vs 0) 32) (w_fi ws (n_v vs 0) 45) (w_ei ws (w_ar ws (n_v vs 0) 17)) (w_ei ws (w_ar ws (n_v vs 0) 20)) (w_ei ws (w_ar ws (n_v vs 0) 33)) (w_ei ws (w_ar ws (n_v vs 0) 34)) (w_ei ws (w_ar ws (n_v vs 0) 35)) (w_ei ws (w_ar ws (n_v vs 0) 40)) (w_ei ws (w_ar ws (n_v vs 0) 41)) (w_ei ws (w_ar ws (n_v vs 0) 43)) (w_ei ws (w_ar ws (n_v vs 0) 46)) k1 k2 k3 k5 k6 k8 k9 k10 k12 d0 d1 d2 f0 f1 f6 f7 f8 f9 fe_0_31_1 fe_0_32_1 fe_0_39_1 fe_0_45_1 hE_0_17_1 hK_0_17 hE_0_20_1 hK_0_20 hE_0_33_1 hK_0_33 hE_0_34_1 hK_0_34 hE_0_35_1 hK_0_35 hE_0_40_1 hK_0_40 hE_0_41_1 hK_0_41 hE_0_43_1 hK_0_43 hE_0_46_1 hK_0_46 kz_0_31 kz_0_32 kz_0_39 kz_0_45
  refine ⟨(fun _ h => (by cases h)), [], trivial, ?_, (fun _ h => (by cases h))⟩
  rw [List.append_nil]
  exact List.forall_mem_cons.mpr ⟨⟨show (20 : Nat) < 100 from by decide, nf0⟩, (fun _ h => (by cases h))⟩
set_option maxHeartbeats 4000000 in
theorem vc_Mo_split_15_r0 (x1 : Int) (x2 : Int) (x3 : Int) (x5 : Int) (x6 : Int) (x8 : Int) (x9 : Int) (x10 : Int) (faces_0 : Int) (pt_0 : Int → Int) (ph_0 : Int → Int) (alive_0 : Int → Int) (blockOf_0 : Int → Int) (drawnEdge_0 : Int → Int) (faceMany_0 : Int → Int) (face_0 : Int → Int) (way_0 : Int → Int) (line_0 : Int → Int) (pn_0 : Int) (pm_0 : Int) (wayMany_0 : Int) (k1 : 0 ≤ x1 ∧ x1 ≤ 119) (k2 : 0 ≤ x2 ∧ x2 ≤ 79) (k3 : (-2) ≤ x3 ∧ x3 ≤ 120) (k5 : 0 ≤ x5 ∧ x5 ≤ 119) (k6 : 3 ≤ x6 ∧ x6 ≤ 25) (k8 : 0 ≤ x8 ∧ x8 ≤ 24) (k9 : 1 ≤ x9 ∧ x9 ≤ 60) (k10 : 1 ≤ x10 ∧ x10 ≤ 28) (d0 : x5 + (-4294967296) ≤ x1 ∧ x1 ≤ x5 + 0) (d1 : x1 + (-4294967296) ≤ x5 ∧ x5 ≤ x1 + 0) (d2 : x9 + (-4294967296) ≤ x8 ∧ x8 ≤ x9 + (-1)) (f0 : 0 < x10) (f1 : faces_0 ≤ 118) (f2 : (-1) * faces_0 + ((-1) * x3 + 0) ≤ (-120)) (f3 : S5 (pn_0) (pm_0) (faces_0) (wayMany_0) (pt_0) (ph_0) (alive_0) (blockOf_0) (drawnEdge_0) (faceMany_0) (face_0) (way_0) (line_0) (x2) (x1) (x6) (x8) (x9) (x10)) (hK_0_17 : ∀ j : Int, 0 ≤ j → j < 80 → (-1) ≤ blockOf_0 j ∧ blockOf_0 j ≤ 79) (hK_0_20 : ∀ j : Int, 0 ≤ j → j < 100 → (-1000000) ≤ line_0 j ∧ line_0 j ≤ 1000000) (hK_0_33 : ∀ j : Int, 0 ≤ j → j < 80 → 0 ≤ pt_0 j ∧ pt_0 j ≤ 24) (hK_0_34 : ∀ j : Int, 0 ≤ j → j < 80 → 0 ≤ ph_0 j ∧ ph_0 j ≤ 24) (hK_0_35 : ∀ j : Int, 0 ≤ j → j < 80 → 0 ≤ alive_0 j ∧ alive_0 j ≤ 1) (hK_0_40 : ∀ j : Int, 0 ≤ j → j < 120 → 0 ≤ faceMany_0 j ∧ faceMany_0 j ≤ 60) (hK_0_41 : ∀ j : Int, 0 ≤ j → j < 7200 → 0 ≤ face_0 j ∧ face_0 j ≤ 24) (hK_0_43 : ∀ j : Int, 0 ≤ j → j < 80 → 0 ≤ drawnEdge_0 j ∧ drawnEdge_0 j ≤ 1) (hK_0_46 : ∀ j : Int, 0 ≤ j → j < 30 → 0 ≤ way_0 j ∧ way_0 j ≤ 24) (kz_0_31 : 0 ≤ pn_0 ∧ pn_0 ≤ 25) (kz_0_32 : 0 ≤ pm_0 ∧ pm_0 ≤ 80) (kz_0_39 : 0 ≤ faces_0 ∧ faces_0 ≤ 120) (kz_0_45 : 0 ≤ wayMany_0 ∧ wayMany_0 ≤ 30) : 1 ≤ x9 ∧ x9 ≤ 59 := by
  have h := ‹S5 _ _ _ _ _ _ _ _ _ _ _ _ _ _ _ _ _ _ _›
  have hq := spl_len h.1.1
  have h1 := h.1.2.2.1
  have h2 := h.2.2.1
  omega
def o_Mo_split_15 : or_T := (160, 11, [(0, (2, 0, 0, [165])), (1, (0, 0, 119, [])), (2, (0, 0, 79, [])), (3, (0, -2, 120, [])), (4, (2, 0, 0, [165])), (5, (0, 0, 119, [])), (6, (0, 3, 25, [])), (8, (0, 0, 24, [])), (9, (0, 1, 60, [])), (10, (0, 1, 28, []))], [(8, [10], [4]), (20, [4], [50, 1, 0, 39, 0, 3, 2, 0, 39, 0, 118]), (20, [4, 3], [30, -120, -1, 1, 39, -1, 0, 0]), (20, [4, 2, 5, 6, 8, 9, 10], [60, 4, 9, 148, 31, 32, 39, 45, 33, 34, 35, 17, 43, 40, 41, 46, 20]), (24, [0, 4], []), (24, [1, 5], [])], [(9, (0, 1, 59, []))], [], [], [], [(1, 5, -4294967296, 0), (5, 1, -4294967296, 0), (8, 9, -4294967296, -1)])
theorem oo_Mo_split_15 {kA : Nat → ClassId} : or_ok PRD kA GG o_Mo_split_15 := by
  refine or_mk fun A ta ws vs hD hth hl => ?_
  intro t0 r0 t1 k1 t2 k2 t3 k3 t4 r4 t5 k5 t6 k6 t8 k8 t9 k9 t10 k10 d0 d1 d2 f0 f1 f2 f3 f4 f5
  replace f1 := shm_734 f1
  replace f2 := shm_735 f2
  replace f3 := shm_743 f3
  replace f4 := shm_5 f4
  replace f5 := shm_5 f5
  have q4 : n_v vs 4 = n_v vs 0 := f4.symm
  have q5 : n_v vs 5 = n_v vs 1 := f5.symm
  simp only [q4, q5] at f1 f2 f3
  have cr_0_17 := fdq_189 hD hth r0
  have cr_0_20 := fdq_192 hD hth r0
  have cr_0_33 := fdq_117 hD hth r0
  have cr_0_34 := fdq_118 hD hth r0
  have cr_0_35 := fdq_132 hD hth r0
  have cr_0_40 := fdq_133 hD hth r0
  have cr_0_41 := fdq_134 hD hth r0
  have cr_0_43 := fdq_137 hD hth r0
  have cr_0_46 := fdq_190 hD hth r0
  have hK_0_17 := elq_113 hD hth cr_0_17
  have hK_0_20 := elq_115 hD hth cr_0_20
  have hK_0_33 := elq_60 hD hth cr_0_33
  have hK_0_34 := elq_61 hD hth cr_0_34
  have hK_0_35 := elq_72 hD hth cr_0_35
  have hK_0_40 := elq_73 hD hth cr_0_40
  have hK_0_41 := elq_74 hD hth cr_0_41
  have hK_0_43 := elq_76 hD hth cr_0_43
  have hK_0_46 := elq_114 hD hth cr_0_46
  have kz_0_31 := fdq_145 hD hth r0
  have kz_0_32 := fdq_140 hD hth r0
  have kz_0_39 := fdq_135 hD hth r0
  have kz_0_45 := fdq_191 hD hth r0
  have hrf0 : 1 ≤ v_iv (n_v vs 9) ∧ v_iv (n_v vs 9) ≤ 59 := vc_Mo_split_15_r0 (v_iv (n_v vs 1)) (v_iv (n_v vs 2)) (v_iv (n_v vs 3)) (v_iv (n_v vs 5)) (v_iv (n_v vs 6)) (v_iv (n_v vs 8)) (v_iv (n_v vs 9)) (v_iv (n_v vs 10)) (w_fi ws (n_v vs 0) 39) (w_ei ws (w_ar ws (n_v vs 0) 33)) (w_ei ws (w_ar ws (n_v vs 0) 34)) (w_ei ws (w_ar ws (n_v vs 0) 35)) (w_ei ws (w_ar ws (n_v vs 0) 17)) (w_ei ws (w_ar ws (n_v vs 0) 43)) (w_ei ws (w_ar ws (n_v vs 0) 40)) (w_ei ws (w_ar ws (n_v vs 0) 41)) (w_ei ws (w_ar ws (n_v vs 0) 46)) (w_ei ws (w_ar ws (n_v vs 0) 20)) (w_fi ws (n_v vs 0) 31) (w_fi ws (n_v vs 0) 32) (w_fi ws (n_v vs 0) 45) k1 k2 k3 k5 k6 k8 k9 k10 d0 d1 d2 (shm_308 f0) f1 f2 f3 hK_0_17 hK_0_20 hK_0_33 hK_0_34 hK_0_35 hK_0_40 hK_0_41 hK_0_43 hK_0_46 kz_0_31 kz_0_32 kz_0_39 kz_0_45
  have rf9 : tv_ok ta (0, 1, 59, []) (n_v vs 9) := tv_in t9 (by first | omega | grind) (by first | omega | grind)
  refine ⟨List.forall_mem_cons.mpr ⟨rf9, (fun _ h => (by cases h))⟩, [], trivial, ?_, (fun _ h => (by cases h))⟩
  rw [List.append_nil]
  exact (fun _ h => (by cases h))
set_option maxHeartbeats 4000000 in
theorem vc_Mo_split_16_0 (x1 : Int) (x2 : Int) (x3 : Int) (x5 : Int) (x6 : Int) (x8 : Int) (x9 : Int) (x10 : Int) (x12 : Int) (x13 : Int) (x14 : Int) (x16 : Int) (x17 : Int) (x18 : Int) (faces_0 : Int) (way_1 : Int → Int) (faces_1 : Int) (pt_1 : Int → Int) (ph_1 : Int → Int) (alive_1 : Int → Int) (blockOf_1 : Int → Int) (drawnEdge_1 : Int → Int) (faceMany_1 : Int → Int) (face_1 : Int → Int) (line_1 : Int → Int) (pn_1 : Int) (pm_1 : Int) (wayMany_1 : Int) (pn_0 : Int) (pm_0 : Int) (wayMany_0 : Int) (blockOf_0 : Int → Int) (line_0 : Int → Int) (pt_0 : Int → Int) (ph_0 : Int → Int) (alive_0 : Int → Int) (faceMany_0 : Int → Int) (face_0 : Int → Int) (drawnEdge_0 : Int → Int) (way_0 : Int → Int) (k1 : 0 ≤ x1 ∧ x1 ≤ 119) (k2 : 0 ≤ x2 ∧ x2 ≤ 79) (k3 : (-2) ≤ x3 ∧ x3 ≤ 120) (k5 : 0 ≤ x5 ∧ x5 ≤ 119) (k6 : 3 ≤ x6 ∧ x6 ≤ 25) (k8 : 0 ≤ x8 ∧ x8 ≤ 24) (k9 : 1 ≤ x9 ∧ x9 ≤ 59) (k10 : 1 ≤ x10 ∧ x10 ≤ 28) (k12 : 60 ≤ x12 ∧ x12 ≤ 60) (k13 : 0 ≤ x13 ∧ x13 ≤ 7140) (k14 : 1 ≤ x14 ∧ x14 ≤ 7199) (k16 : 0 ≤ x16 ∧ x16 ≤ 24) (k17 : 2 ≤ x17 ∧ x17 ≤ 60) (k18 : 0 ≤ x18 ∧ x18 ≤ 27) (d0 : x10 + (-1) ≤ x18 ∧ x18 ≤ x10 + (-1)) (d1 : x9 + 1 ≤ x17 ∧ x17 ≤ x9 + 1) (d2 : x9 + 0 ≤ x14 ∧ x14 ≤ x9 + 7140) (d3 : x13 + 1 ≤ x14 ∧ x14 ≤ x13 + 59) (d4 : x5 + (-4294967296) ≤ x1 ∧ x1 ≤ x5 + 0) (d5 : x1 + (-4294967296) ≤ x5 ∧ x5 ≤ x1 + 0) (d6 : x9 + (-4294967296) ≤ x8 ∧ x8 ≤ x9 + (-1)) (f0 : x18 = x10 + (-1)) (f1 : x17 = x9 + 1) (f2 : faces_0 ≤ 118) (f3 : (-1) * faces_0 + ((-1) * x3 + 0) ≤ (-120)) (h7 : x16 = way_1 (x10)) (f9 : x14 = x13 + x9) (f10 : x13 = 60 * x1) (f12 : 0 < x10) (f13 : faces_1 ≤ 118) (f14 : (-1) * faces_1 + ((-1) * x3 + 0) ≤ (-120)) (f15 : S5 (pn_1) (pm_1) (faces_1) (wayMany_1) (pt_1) (ph_1) (alive_1) (blockOf_1) (drawnEdge_1) (faceMany_1) (face_1) (way_1) (line_1) (x2) (x1) (x6) (x8) (x9) (x10)) (fe_0_31_1 : pn_0 = pn_1) (fe_0_32_1 : pm_0 = pm_1) (fe_0_39_1 : faces_0 = faces_1) (fe_0_45_1 : wayMany_0 = wayMany_1) (hE_0_17_1 : ∀ j : Int, blockOf_0 j = blockOf_1 j) (hK_0_17 : ∀ j : Int, 0 ≤ j → j < 80 → (-1) ≤ blockOf_0 j ∧ blockOf_0 j ≤ 79) (hE_0_20_1 : ∀ j : Int, line_0 j = line_1 j) (hK_0_20 : ∀ j : Int, 0 ≤ j → j < 100 → (-1000000) ≤ line_0 j ∧ line_0 j ≤ 1000000) (hE_0_33_1 : ∀ j : Int, pt_0 j = pt_1 j) (hK_0_33 : ∀ j : Int, 0 ≤ j → j < 80 → 0 ≤ pt_0 j ∧ pt_0 j ≤ 24) (hE_0_34_1 : ∀ j : Int, ph_0 j = ph_1 j) (hK_0_34 : ∀ j : Int, 0 ≤ j → j < 80 → 0 ≤ ph_0 j ∧ ph_0 j ≤ 24) (hE_0_35_1 : ∀ j : Int, alive_0 j = alive_1 j) (hK_0_35 : ∀ j : Int, 0 ≤ j → j < 80 → 0 ≤ alive_0 j ∧ alive_0 j ≤ 1) (hE_0_40_1 : ∀ j : Int, faceMany_0 j = faceMany_1 j) (hK_0_40 : ∀ j : Int, 0 ≤ j → j < 120 → 0 ≤ faceMany_0 j ∧ faceMany_0 j ≤ 60) (hE_0_41_1 : ∀ j : Int, 0 ≤ j → (j = x14 → face_0 j = x16) ∧ (j ≠ x14 → face_0 j = face_1 j)) (hK_0_41 : ∀ j : Int, 0 ≤ j → j < 7200 → 0 ≤ face_0 j ∧ face_0 j ≤ 24) (hE_0_43_1 : ∀ j : Int, drawnEdge_0 j = drawnEdge_1 j) (hK_0_43 : ∀ j : Int, 0 ≤ j → j < 80 → 0 ≤ drawnEdge_0 j ∧ drawnEdge_0 j ≤ 1) (hE_0_46_1 : ∀ j : Int, way_0 j = way_1 j) (hK_0_46 : ∀ j : Int, 0 ≤ j → j < 30 → 0 ≤ way_0 j ∧ way_0 j ≤ 24) (kz_0_31 : 0 ≤ pn_0 ∧ pn_0 ≤ 25) (kz_0_32 : 0 ≤ pm_0 ∧ pm_0 ≤ 80) (kz_0_39 : 0 ≤ faces_0 ∧ faces_0 ≤ 120) (kz_0_45 : 0 ≤ wayMany_0 ∧ wayMany_0 ≤ 30) : S5 (pn_0) (pm_0) (faces_0) (wayMany_0) (pt_0) (ph_0) (alive_0) (blockOf_0) (drawnEdge_0) (faceMany_0) (face_0) (way_0) (line_0) (x2) (x1) (x6) (x8) (x17) (x18) := by
  subst fe_0_31_1
  subst fe_0_32_1
  subst fe_0_39_1
  subst fe_0_45_1
  have e_hE_0_17_1 := funext hE_0_17_1; subst e_hE_0_17_1
  have e_hE_0_20_1 := funext hE_0_20_1; subst e_hE_0_20_1
  have e_hE_0_33_1 := funext hE_0_33_1; subst e_hE_0_33_1
  have e_hE_0_34_1 := funext hE_0_34_1; subst e_hE_0_34_1
  have e_hE_0_35_1 := funext hE_0_35_1; subst e_hE_0_35_1
  have e_hE_0_40_1 := funext hE_0_40_1; subst e_hE_0_40_1
  have e_hE_0_43_1 := funext hE_0_43_1; subst e_hE_0_43_1
  have e_hE_0_46_1 := funext hE_0_46_1; subst e_hE_0_46_1
  first
    | exact s5_of ‹S4 _ _ _ _ _ _ _ _ _ _ _ _ _ _ _ _ _ _› (by omega) (by omega) (by omega)
    | (obtain rfl : x12 = 60 := by omega
       have h := ‹S5 _ _ _ _ _ _ _ _ _ _ _ _ _ _ _ _ _ _ _›
       have hb := h.2.2.1
       exact s5_next (k := x10) (mm := x9) h hE_0_41_1 (by omega) (by omega) (by omega) (by omega) (by omega) (by omega) (by omega))
def o_Mo_split_16 : or_T := (155, 19, [(0, (2, 0, 0, [165])), (1, (0, 0, 119, [])), (2, (0, 0, 79, [])), (3, (0, -2, 120, [])), (5, (0, 0, 119, [])), (6, (0, 3, 25, [])), (8, (0, 0, 24, [])), (9, (0, 1, 59, [])), (10, (0, 1, 28, [])), (11, (2, 0, 0, [187])), (12, (0, 60, 60, [])), (13, (0, 0, 7140, [])), (14, (0, 1, 7199, [])), (16, (0, 0, 24, [])), (17, (0, 2, 60, [])), (18, (0, 0, 27, []))], [(6, [18, 10], [-1]), (6, [17, 9], [1]), (20, [4], [50, 1, 0, 39, 0, 3, 2, 0, 39, 0, 118]), (20, [4, 3], [30, -120, -1, 1, 39, -1, 0, 0]), (24, [0, 4], []), (24, [1, 5], []), (100, [11, 14, 16], []), (10, [16, 15, 10], []), (9, [15, 4], [46]), (1, [14, 13, 9], []), (3, [13, 12, 5], []), (9, [11, 4], [41]), (8, [10], [4]), (20, [4], [50, 1, 0, 39, 0, 3, 2, 0, 39, 0, 118]), (20, [4, 3], [30, -120, -1, 1, 39, -1, 0, 0]), (20, [4, 2, 5, 6, 8, 9, 10], [60, 4, 9, 148, 31, 32, 39, 45, 33, 34, 35, 17, 43, 40, 41, 46, 20])], [], [], [(20, [4, 2, 5, 6, 8, 17, 18], [60, 4, 9, 148, 31, 32, 39, 45, 33, 34, 35, 17, 43, 40, 41, 46, 20])], [], [(18, 10, -1, -1), (17, 9, 1, 1), (14, 9, 0, 7140), (14, 13, 1, 59), (1, 5, -4294967296, 0), (5, 1, -4294967296, 0), (8, 9, -4294967296, -1)])
theorem oo_Mo_split_16 {kA : Nat → ClassId} : or_ok PRD kA GG o_Mo_split_16 := by
  refine or_mk fun A ta ws vs hD hth hl => ?_
  intro t0 r0 t1 k1 t2 k2 t3 k3 t5 k5 t6 k6 t8 k8 t9 k9 t10 k10 t11 r11 t12 k12 t13 k13 t14 k14 t16 k16 t17 k17 t18 k18 d0 d1 d2 d3 d4 d5 d6 f0 f1 f2 f3 f4 f5 ta1 w1 le1 s1 f7 f8 f9 f10 f11 f12 f13 f14 f15
  replace f0 := shm_186 f0
  replace f1 := shm_4 f1
  replace f2 := shm_734 f2
  replace f3 := shm_735 f3
  replace f4 := shm_5 f4
  replace f5 := shm_5 f5
  have s1 : (∀ b j, w_el ws b j = if b = v_ad (n_v vs 11) ∧ j = (v_iv (n_v vs 14)).toNat then v_iv (n_v vs 16) else w_el w1 b j) ∧ ∀ b k, w_fd ws b k = w_fd w1 b k := s1.2
  replace f7 := shm_107 f7
  replace f8 := shm_737 f8
  replace f9 := shm_12 f9
  replace f10 := shm_38 f10
  rw [show v_iv (n_v vs 12) = 60 from by omega] at f10
  replace f11 := shm_522 f11
  replace f12 := shm_308 f12
  replace f13 := shm_734 f13
  replace f14 := shm_735 f14
  replace f15 := shm_743 f15
  have q4 : n_v vs 4 = n_v vs 0 := f4.symm
  have q5 : n_v vs 5 = n_v vs 1 := f5.symm
  simp only [q4, q5] at f2 f3 f8 f10 f11 f13 f14 f15
  have ar_0_17_1 : w_ar w1 (n_v vs 0) 17 = w_ar ws (n_v vs 0) 17 := congrArg v_ad (s1.2 _ _).symm
  have cr_0_17 := fdq_189 hD hth r0
  have ar_0_20_1 : w_ar w1 (n_v vs 0) 20 = w_ar ws (n_v vs 0) 20 := congrArg v_ad (s1.2 _ _).symm
  have cr_0_20 := fdq_192 hD hth r0
  have ar_0_33_1 : w_ar w1 (n_v vs 0) 33 = w_ar ws (n_v vs 0) 33 := congrArg v_ad (s1.2 _ _).symm
  have cr_0_33 := fdq_117 hD hth r0
  have ar_0_34_1 : w_ar w1 (n_v vs 0) 34 = w_ar ws (n_v vs 0) 34 := congrArg v_ad (s1.2 _ _).symm
  have cr_0_34 := fdq_118 hD hth r0
  have ar_0_35_1 : w_ar w1 (n_v vs 0) 35 = w_ar ws (n_v vs 0) 35 := congrArg v_ad (s1.2 _ _).symm
  have cr_0_35 := fdq_132 hD hth r0
  have ar_0_40_1 : w_ar w1 (n_v vs 0) 40 = w_ar ws (n_v vs 0) 40 := congrArg v_ad (s1.2 _ _).symm
  have cr_0_40 := fdq_133 hD hth r0
  have ar_0_41_1 : w_ar w1 (n_v vs 0) 41 = w_ar ws (n_v vs 0) 41 := congrArg v_ad (s1.2 _ _).symm
  have cr_0_41 := fdq_134 hD hth r0
  have ar_0_43_1 : w_ar w1 (n_v vs 0) 43 = w_ar ws (n_v vs 0) 43 := congrArg v_ad (s1.2 _ _).symm
  have cr_0_43 := fdq_137 hD hth r0
  have ar_0_46_1 : w_ar w1 (n_v vs 0) 46 = w_ar ws (n_v vs 0) 46 := congrArg v_ad (s1.2 _ _).symm
  have cr_0_46 := fdq_190 hD hth r0
  have ad_15 : v_ad (n_v vs 15) = w_ar ws (n_v vs 0) 46 := (congrArg v_ad f8).trans ar_0_46_1
  have ad_11 : v_ad (n_v vs 11) = w_ar ws (n_v vs 0) 41 := (congrArg v_ad f11).trans ar_0_41_1
  simp only [ad_15] at f7
  have h7 : v_iv (n_v vs 16) = w_ei w1 (w_ar ws (n_v vs 0) 46) (v_iv (n_v vs 10)) := f7
  simp only [ar_0_17_1, ar_0_20_1, ar_0_33_1, ar_0_34_1, ar_0_35_1, ar_0_40_1, ar_0_41_1, ar_0_43_1, ar_0_46_1] at f15
  have fe_0_31_1 : w_fi ws (n_v vs 0) 31 = w_fi w1 (n_v vs 0) 31 := congrArg v_iv (s1.2 _ _)
  have fe_0_32_1 : w_fi ws (n_v vs 0) 32 = w_fi w1 (n_v vs 0) 32 := congrArg v_iv (s1.2 _ _)
  have fe_0_39_1 : w_fi ws (n_v vs 0) 39 = w_fi w1 (n_v vs 0) 39 := congrArg v_iv (s1.2 _ _)
  have fe_0_45_1 : w_fi ws (n_v vs 0) 45 = w_fi w1 (n_v vs 0) 45 := congrArg v_iv (s1.2 _ _)
  have hE_0_17_1 : ∀ j : Int, w_ei ws (w_ar ws (n_v vs 0) 17) j = w_ei w1 (w_ar ws (n_v vs 0) 17) j := el_kp s1.1 r11 cr_0_17 (by decide)
  have hK_0_17 := elq_113 hD hth cr_0_17
  have hE_0_20_1 : ∀ j : Int, w_ei ws (w_ar ws (n_v vs 0) 20) j = w_ei w1 (w_ar ws (n_v vs 0) 20) j := el_kp s1.1 r11 cr_0_20 (by decide)
  have hK_0_20 := elq_115 hD hth cr_0_20
  have hE_0_33_1 : ∀ j : Int, w_ei ws (w_ar ws (n_v vs 0) 33) j = w_ei w1 (w_ar ws (n_v vs 0) 33) j := el_kp s1.1 r11 cr_0_33 (by decide)
  have hK_0_33 := elq_60 hD hth cr_0_33
  have hE_0_34_1 : ∀ j : Int, w_ei ws (w_ar ws (n_v vs 0) 34) j = w_ei w1 (w_ar ws (n_v vs 0) 34) j := el_kp s1.1 r11 cr_0_34 (by decide)
  have hK_0_34 := elq_61 hD hth cr_0_34
  have hE_0_35_1 : ∀ j : Int, w_ei ws (w_ar ws (n_v vs 0) 35) j = w_ei w1 (w_ar ws (n_v vs 0) 35) j := el_kp s1.1 r11 cr_0_35 (by decide)
  have hK_0_35 := elq_72 hD hth cr_0_35
  have hE_0_40_1 : ∀ j : Int, w_ei ws (w_ar ws (n_v vs 0) 40) j = w_ei w1 (w_ar ws (n_v vs 0) 40) j := el_kp s1.1 r11 cr_0_40 (by decide)
  have hK_0_40 := elq_73 hD hth cr_0_40
  have hE_0_41_1 : ∀ j : Int, 0 ≤ j → (j = v_iv (n_v vs 14) → w_ei ws (w_ar ws (n_v vs 0) 41) j = v_iv (n_v vs 16)) ∧ (j ≠ v_iv (n_v vs 14) → w_ei ws (w_ar ws (n_v vs 0) 41) j = w_ei w1 (w_ar ws (n_v vs 0) 41) j) := fun j hj => ⟨fun h => by unfold w_ei; rw [s1.1, if_pos ⟨ad_11.symm, by rw [h]⟩], fun h => by unfold w_ei; rw [s1.1, if_neg (fun e => h (by have := e.2; omega))]⟩
  have hK_0_41 := elq_74 hD hth cr_0_41
  have hE_0_43_1 : ∀ j : Int, w_ei ws (w_ar ws (n_v vs 0) 43) j = w_ei w1 (w_ar ws (n_v vs 0) 43) j := el_kp s1.1 r11 cr_0_43 (by decide)
  have hK_0_43 := elq_76 hD hth cr_0_43
  have hE_0_46_1 : ∀ j : Int, w_ei ws (w_ar ws (n_v vs 0) 46) j = w_ei w1 (w_ar ws (n_v vs 0) 46) j := el_kp s1.1 r11 cr_0_46 (by decide)
  have hK_0_46 := elq_114 hD hth cr_0_46
  have kz_0_31 := fdq_145 hD hth r0
  have kz_0_32 := fdq_140 hD hth r0
  have kz_0_39 := fdq_135 hD hth r0
  have kz_0_45 := fdq_191 hD hth r0
  have nf0 : fc_1 PRD (20, [4, 2, 5, 6, 8, 17, 18], [60, 4, 9, 148, 31, 32, 39, 45, 33, 34, 35, 17, 43, 40, 41, 46, 20]) ws (vs) := by
    refine ⟨nf_in hl rfl, sgq_743 ?_⟩
    · show S5 (w_fi ws (n_v vs 4) 31) (w_fi ws (n_v vs 4) 32) (w_fi ws (n_v vs 4) 39) (w_fi ws (n_v vs 4) 45) (w_ei ws (w_ar ws (n_v vs 4) 33)) (w_ei ws (w_ar ws (n_v vs 4) 34)) (w_ei ws (w_ar ws (n_v vs 4) 35)) (w_ei ws (w_ar ws (n_v vs 4) 17)) (w_ei ws (w_ar ws (n_v vs 4) 43)) (w_ei ws (w_ar ws (n_v vs 4) 40)) (w_ei ws (w_ar ws (n_v vs 4) 41)) (w_ei ws (w_ar ws (n_v vs 4) 46)) (w_ei ws (w_ar ws (n_v vs 4) 20)) (v_iv (n_v vs 2)) (v_iv (n_v vs 5)) (v_iv (n_v vs 6)) (v_iv (n_v vs 8)) (v_iv (n_v vs 17)) (v_iv (n_v vs 18))
      simp only [q4, q5]
      exact vc_Mo_split_16_0 (v_iv (n_v vs 1)) (v_iv (n_v vs 2)) (v_iv (n_v vs 3)) (v_iv (n_v vs 5)) (v_iv (n_v vs 6)) (v_iv (n_v vs 8)) (v_iv (n_v vs 9)) (v_iv (n_v vs 10)) (v_iv (n_v vs 12)) (v_iv (n_v vs 13)) (v_iv (n_v vs 14)) (v_iv (n_v vs 16)) (v_iv (n_v vs 17)) (v_iv (n_v vs 18)) (w_fi ws (n_v vs 0) 39) (w_ei w1 (w_ar ws (n_v vs 0) 46)) (w_fi w1 (n_v vs 0) 39) (w_ei w1 (w_ar ws (n_v vs 0) 33)) (w_ei w1 (w_ar ws (n_v vs 0) 34)) (w_ei w1 (w_ar ws (n_v vs 0) 35)) (w_ei w1 (w_ar ws (n_v vs 0) 17)) (w_ei w1 (w_ar ws (n_v vs 0) 43)) (w_ei w1 (w_ar ws (n_v vs 0) 40)) (w_ei w1 (w_ar ws (n_v vs 0) 41)) (w_ei w1 (w_ar ws (n_v vs 0) 20)) (w_fi w1 (n_v vs 0) 31) (w_fi w1 (n_v vs 0) 32) (w_fi w1 (n_v vs 0) 45) (w_fi ws (n_v vs 0) 31) (w_fi ws (n_v vs 0) 32) (w_fi ws (n_v vs 0) 45) (w_ei ws (w_ar ws (n_v vs 0) 17)) (w_ei ws (w_ar ws (n_v vs 0) 20)) (w_ei ws (w_ar ws (n_v vs 0) 33)) (w_ei ws (w_ar ws (n_v vs 0) 34)) (w_ei ws (w_ar ws (n_v vs 0) 35)) (w_ei ws (w_ar ws (n_v vs 0) 40)) (w_ei ws (w_ar ws (n_v vs 0) 41)) (w_ei ws (w_ar ws (n_v vs 0) 43)) (w_ei ws (w_ar ws (n_v vs 0) 46)) k1 k2 k3 k5 k6 k8 k9 k10 k12 k13 k14 k16 k17 k18 d0 d1 d2 d3 d4 d5 d6 f0 f1 f2 f3 h7 f9 f10 f12 f13 f14 f15 fe_0_31_1 fe_0_32_1 fe_0_39_1 fe_0_45_1 hE_0_17_1 hK_0_17 hE_0_20_1 hK_0_20 hE_0_33_1 hK_0_33 hE_0_34_1 hK_0_34 hE_0_35_1 hK_0_35 hE_0_40_1 hK_0_40 hE_0_41_1 hK_0_41 hE_0_43_1 hK_0_43 hE_0_46_1 hK_0_46 kz_0_31 kz_0_32 kz_0_39 kz_0_45
  refine ⟨(fun _ h => (by cases h)), [], trivial, ?_, (fun _ h => (by cases h))⟩
  rw [List.append_nil]
  exact List.forall_mem_cons.mpr ⟨⟨show (20 : Nat) < 100 from by decide, nf0⟩, (fun _ h => (by cases h))⟩
set_option maxHeartbeats 4000000 in
theorem vc_Mo_split_17_0 (x1 : Int) (x2 : Int) (x3 : Int) (x5 : Int) (x6 : Int) (x8 : Int) (x9 : Int) (x10 : Int) (x11 : Int) (faces_0 : Int) (pt_0 : Int → Int) (ph_0 : Int → Int) (alive_0 : Int → Int) (blockOf_0 : Int → Int) (drawnEdge_0 : Int → Int) (faceMany_0 : Int → Int) (face_0 : Int → Int) (way_0 : Int → Int) (line_0 : Int → Int) (pn_0 : Int) (pm_0 : Int) (wayMany_0 : Int) (k1 : 0 ≤ x1 ∧ x1 ≤ 119) (k2 : 0 ≤ x2 ∧ x2 ≤ 79) (k3 : (-2) ≤ x3 ∧ x3 ≤ 120) (k5 : 0 ≤ x5 ∧ x5 ≤ 119) (k6 : 3 ≤ x6 ∧ x6 ≤ 25) (k8 : 0 ≤ x8 ∧ x8 ≤ 24) (k9 : 0 ≤ x9 ∧ x9 ≤ 26) (k10 : 4 ≤ x10 ∧ x10 ≤ 26) (k11 : 1 ≤ x11 ∧ x11 ≤ 1) (d0 : x6 + 1 ≤ x10 ∧ x10 ≤ x6 + 4294967296) (d1 : x5 + (-4294967296) ≤ x1 ∧ x1 ≤ x5 + 0) (d2 : x1 + (-4294967296) ≤ x5 ∧ x5 ≤ x1 + 0) (d3 : x10 + (-4294967296) ≤ x8 ∧ x8 ≤ x10 + 0) (d4 : x10 + (-4294967296) ≤ x9 ∧ x9 ≤ x10 + 0) (f0 : x6 < x10) (f1 : faces_0 ≤ 118) (f2 : (-1) * faces_0 + ((-1) * x3 + 0) ≤ (-120)) (f3 : S6 (pn_0) (pm_0) (faces_0) (wayMany_0) (pt_0) (ph_0) (alive_0) (blockOf_0) (drawnEdge_0) (faceMany_0) (face_0) (way_0) (line_0) (x2) (x1) (x6) (x8) (x9) (x10)) (hK_0_17 : ∀ j : Int, 0 ≤ j → j < 80 → (-1) ≤ blockOf_0 j ∧ blockOf_0 j ≤ 79) (hK_0_20 : ∀ j : Int, 0 ≤ j → j < 100 → (-1000000) ≤ line_0 j ∧ line_0 j ≤ 1000000) (hK_0_33 : ∀ j : Int, 0 ≤ j → j < 80 → 0 ≤ pt_0 j ∧ pt_0 j ≤ 24) (hK_0_34 : ∀ j : Int, 0 ≤ j → j < 80 → 0 ≤ ph_0 j ∧ ph_0 j ≤ 24) (hK_0_35 : ∀ j : Int, 0 ≤ j → j < 80 → 0 ≤ alive_0 j ∧ alive_0 j ≤ 1) (hK_0_40 : ∀ j : Int, 0 ≤ j → j < 120 → 0 ≤ faceMany_0 j ∧ faceMany_0 j ≤ 60) (hK_0_41 : ∀ j : Int, 0 ≤ j → j < 7200 → 0 ≤ face_0 j ∧ face_0 j ≤ 24) (hK_0_43 : ∀ j : Int, 0 ≤ j → j < 80 → 0 ≤ drawnEdge_0 j ∧ drawnEdge_0 j ≤ 1) (hK_0_46 : ∀ j : Int, 0 ≤ j → j < 30 → 0 ≤ way_0 j ∧ way_0 j ≤ 24) (kz_0_31 : 0 ≤ pn_0 ∧ pn_0 ≤ 25) (kz_0_32 : 0 ≤ pm_0 ∧ pm_0 ≤ 80) (kz_0_39 : 0 ≤ faces_0 ∧ faces_0 ≤ 120) (kz_0_45 : 0 ≤ wayMany_0 ∧ wayMany_0 ≤ 30) : S7 (pn_0) (pm_0) (faces_0) (wayMany_0) (pt_0) (ph_0) (alive_0) (blockOf_0) (drawnEdge_0) (faceMany_0) (face_0) (way_0) (line_0) (x2) (x1) (x6) (x8) (x9) (x11) := by
  first
    | exact s7_of ‹S6 _ _ _ _ _ _ _ _ _ _ _ _ _ _ _ _ _ _ _› (by omega) (by omega)
    | (obtain rfl : x15 = 60 := by omega
       exact s7_next (mm := x9) (k := x10) ‹S7 _ _ _ _ _ _ _ _ _ _ _ _ _ _ _ _ _ _ _› hE_0_41_1 (by omega) (by omega) (by omega) (by omega) (by omega) (by omega) (by omega))
def o_Mo_split_17 : or_T := (245, 12, [(0, (2, 0, 0, [165])), (1, (0, 0, 119, [])), (2, (0, 0, 79, [])), (3, (0, -2, 120, [])), (5, (0, 0, 119, [])), (6, (0, 3, 25, [])), (8, (0, 0, 24, [])), (9, (0, 0, 26, [])), (10, (0, 4, 26, [])), (11, (0, 1, 1, []))], [(7, [10, 6], [4]), (20, [4], [50, 1, 0, 39, 0, 3, 2, 0, 39, 0, 118]), (20, [4, 3], [30, -120, -1, 1, 39, -1, 0, 0]), (20, [4, 2, 5, 6, 8, 9, 10], [60, 4, 9, 149, 31, 32, 39, 45, 33, 34, 35, 17, 43, 40, 41, 46, 20]), (24, [0, 4], []), (24, [1, 5], [])], [], [], [(20, [4, 2, 5, 6, 8, 9, 11], [60, 4, 9, 150, 31, 32, 39, 45, 33, 34, 35, 17, 43, 40, 41, 46, 20])], [], [(10, 6, 1, 4294967296), (1, 5, -4294967296, 0), (5, 1, -4294967296, 0), (8, 10, -4294967296, 0), (9, 10, -4294967296, 0)])
theorem oo_Mo_split_17 {kA : Nat → ClassId} : or_ok PRD kA GG o_Mo_split_17 := by
  refine or_mk fun A ta ws vs hD hth hl => ?_
  intro t0 r0 t1 k1 t2 k2 t3 k3 t5 k5 t6 k6 t8 k8 t9 k9 t10 k10 t11 k11 d0 d1 d2 d3 d4 f0 f1 f2 f3 f4 f5
  replace f0 := shm_21 f0
  replace f1 := shm_734 f1
  replace f2 := shm_735 f2
  replace f3 := shm_745 f3
  replace f4 := shm_5 f4
  replace f5 := shm_5 f5
  have q4 : n_v vs 4 = n_v vs 0 := f4.symm
  have q5 : n_v vs 5 = n_v vs 1 := f5.symm
  simp only [q4, q5] at f1 f2 f3
  have cr_0_17 := fdq_189 hD hth r0
  have cr_0_20 := fdq_192 hD hth r0
  have cr_0_33 := fdq_117 hD hth r0
  have cr_0_34 := fdq_118 hD hth r0
  have cr_0_35 := fdq_132 hD hth r0
  have cr_0_40 := fdq_133 hD hth r0
  have cr_0_41 := fdq_134 hD hth r0
  have cr_0_43 := fdq_137 hD hth r0
  have cr_0_46 := fdq_190 hD hth r0
  have hK_0_17 := elq_113 hD hth cr_0_17
  have hK_0_20 := elq_115 hD hth cr_0_20
  have hK_0_33 := elq_60 hD hth cr_0_33
  have hK_0_34 := elq_61 hD hth cr_0_34
  have hK_0_35 := elq_72 hD hth cr_0_35
  have hK_0_40 := elq_73 hD hth cr_0_40
  have hK_0_41 := elq_74 hD hth cr_0_41
  have hK_0_43 := elq_76 hD hth cr_0_43
  have hK_0_46 := elq_114 hD hth cr_0_46
  have kz_0_31 := fdq_145 hD hth r0
  have kz_0_32 := fdq_140 hD hth r0
  have kz_0_39 := fdq_135 hD hth r0
  have kz_0_45 := fdq_191 hD hth r0
  have nf0 : fc_1 PRD (20, [4, 2, 5, 6, 8, 9, 11], [60, 4, 9, 150, 31, 32, 39, 45, 33, 34, 35, 17, 43, 40, 41, 46, 20]) ws (vs) := by
    refine ⟨nf_in hl rfl, sgq_746 ?_⟩
    · show S7 (w_fi ws (n_v vs 4) 31) (w_fi ws (n_v vs 4) 32) (w_fi ws (n_v vs 4) 39) (w_fi ws (n_v vs 4) 45) (w_ei ws (w_ar ws (n_v vs 4) 33)) (w_ei ws (w_ar ws (n_v vs 4) 34)) (w_ei ws (w_ar ws (n_v vs 4) 35)) (w_ei ws (w_ar ws (n_v vs 4) 17)) (w_ei ws (w_ar ws (n_v vs 4) 43)) (w_ei ws (w_ar ws (n_v vs 4) 40)) (w_ei ws (w_ar ws (n_v vs 4) 41)) (w_ei ws (w_ar ws (n_v vs 4) 46)) (w_ei ws (w_ar ws (n_v vs 4) 20)) (v_iv (n_v vs 2)) (v_iv (n_v vs 5)) (v_iv (n_v vs 6)) (v_iv (n_v vs 8)) (v_iv (n_v vs 9)) (v_iv (n_v vs 11))
      simp only [q4, q5]
      exact vc_Mo_split_17_0 (v_iv (n_v vs 1)) (v_iv (n_v vs 2)) (v_iv (n_v vs 3)) (v_iv (n_v vs 5)) (v_iv (n_v vs 6)) (v_iv (n_v vs 8)) (v_iv (n_v vs 9)) (v_iv (n_v vs 10)) (v_iv (n_v vs 11)) (w_fi ws (n_v vs 0) 39) (w_ei ws (w_ar ws (n_v vs 0) 33)) (w_ei ws (w_ar ws (n_v vs 0) 34)) (w_ei ws (w_ar ws (n_v vs 0) 35)) (w_ei ws (w_ar ws (n_v vs 0) 17)) (w_ei ws (w_ar ws (n_v vs 0) 43)) (w_ei ws (w_ar ws (n_v vs 0) 40)) (w_ei ws (w_ar ws (n_v vs 0) 41)) (w_ei ws (w_ar ws (n_v vs 0) 46)) (w_ei ws (w_ar ws (n_v vs 0) 20)) (w_fi ws (n_v vs 0) 31) (w_fi ws (n_v vs 0) 32) (w_fi ws (n_v vs 0) 45) k1 k2 k3 k5 k6 k8 k9 k10 k11 d0 d1 d2 d3 d4 f0 f1 f2 f3 hK_0_17 hK_0_20 hK_0_33 hK_0_34 hK_0_35 hK_0_40 hK_0_41 hK_0_43 hK_0_46 kz_0_31 kz_0_32 kz_0_39 kz_0_45
  refine ⟨(fun _ h => (by cases h)), [], trivial, ?_, (fun _ h => (by cases h))⟩
  rw [List.append_nil]
  exact List.forall_mem_cons.mpr ⟨⟨show (20 : Nat) < 100 from by decide, nf0⟩, (fun _ h => (by cases h))⟩
def o_Mo_split_18 : or_T := (219, 14, [(0, (2, 0, 0, [165])), (1, (0, 0, 119, [])), (2, (0, 0, 79, [])), (3, (0, -2, 120, [])), (4, (2, 0, 0, [165])), (5, (0, 0, 119, [])), (6, (0, 3, 25, [])), (8, (0, 0, 24, [])), (9, (0, 0, 25, [])), (10, (0, 0, 25, [])), (11, (2, 0, 0, [187])), (13, (0, 0, 120, []))], [(9, [13, 4], [39]), (9, [11, 4], [41]), (7, [10, 6], [5]), (20, [4], [50, 1, 0, 39, 0, 3, 2, 0, 39, 0, 118]), (20, [4, 3], [30, -120, -1, 1, 39, -1, 0, 0]), (20, [4, 2, 5, 6, 8, 9, 10], [60, 4, 9, 149, 31, 32, 39, 45, 33, 34, 35, 17, 43, 40, 41, 46, 20]), (24, [0, 4], []), (24, [1, 5], [])], [(13, (0, 0, 118, []))], [], [], [], [(10, 6, -4294967296, 0), (1, 5, -4294967296, 0), (5, 1, -4294967296, 0), (8, 10, -4294967296, 0), (9, 10, -4294967296, 0)])
theorem oo_Mo_split_18 {kA : Nat → ClassId} : or_ok PRD kA GG o_Mo_split_18 := by
  refine or_mk fun A ta ws vs hD hth hl => ?_
  intro t0 r0 t1 k1 t2 k2 t3 k3 t4 r4 t5 k5 t6 k6 t8 k8 t9 k9 t10 k10 t11 r11 t13 k13 d0 d1 d2 d3 d4 f0 f1 f2 f3 f4 f5 f6 f7
  replace f0 := shm_516 f0
  replace f1 := shm_522 f1
  replace f2 := shm_24 f2
  replace f3 := shm_734 f3
  replace f4 := shm_735 f4
  replace f5 := shm_745 f5
  replace f6 := shm_5 f6
  replace f7 := shm_5 f7
  have q4 : n_v vs 4 = n_v vs 0 := f6.symm
  have q5 : n_v vs 5 = n_v vs 1 := f7.symm
  simp only [q4, q5] at f0 f1 f3 f4 f5
  have cr_0_17 := fdq_189 hD hth r0
  have cr_0_20 := fdq_192 hD hth r0
  have cr_0_33 := fdq_117 hD hth r0
  have cr_0_34 := fdq_118 hD hth r0
  have cr_0_35 := fdq_132 hD hth r0
  have cr_0_40 := fdq_133 hD hth r0
  have cr_0_41 := fdq_134 hD hth r0
  have cr_0_43 := fdq_137 hD hth r0
  have cr_0_46 := fdq_190 hD hth r0
  have ad_11 : v_ad (n_v vs 11) = w_ar ws (n_v vs 0) 41 := congrArg v_ad f1
  have g0 : v_iv (n_v vs 13) = w_fi ws (n_v vs 0) 39 := congrArg v_iv f0
  have hK_0_17 := elq_113 hD hth cr_0_17
  have hK_0_20 := elq_115 hD hth cr_0_20
  have hK_0_33 := elq_60 hD hth cr_0_33
  have hK_0_34 := elq_61 hD hth cr_0_34
  have hK_0_35 := elq_72 hD hth cr_0_35
  have hK_0_40 := elq_73 hD hth cr_0_40
  have hK_0_41 := elq_74 hD hth cr_0_41
  have hK_0_43 := elq_76 hD hth cr_0_43
  have hK_0_46 := elq_114 hD hth cr_0_46
  have kz_0_31 := fdq_145 hD hth r0
  have kz_0_32 := fdq_140 hD hth r0
  have kz_0_39 := fdq_135 hD hth r0
  have kz_0_45 := fdq_191 hD hth r0
  have rf13 : tv_ok ta (0, 0, 118, []) (n_v vs 13) := tv_in t13 (by first | omega | grind) (by first | omega | grind)
  refine ⟨List.forall_mem_cons.mpr ⟨rf13, (fun _ h => (by cases h))⟩, [], trivial, ?_, (fun _ h => (by cases h))⟩
  rw [List.append_nil]
  exact (fun _ h => (by cases h))
set_option maxHeartbeats 4000000 in
theorem vc_Mo_split_19_r0 (x1 : Int) (x2 : Int) (x3 : Int) (x5 : Int) (x6 : Int) (x8 : Int) (x9 : Int) (x10 : Int) (x13 : Int) (x17 : Int) (x18 : Int) (line_0 : Int → Int) (faces_0 : Int) (pt_0 : Int → Int) (ph_0 : Int → Int) (alive_0 : Int → Int) (blockOf_0 : Int → Int) (drawnEdge_0 : Int → Int) (faceMany_0 : Int → Int) (face_0 : Int → Int) (way_0 : Int → Int) (pn_0 : Int) (pm_0 : Int) (wayMany_0 : Int) (k1 : 0 ≤ x1 ∧ x1 ≤ 119) (k2 : 0 ≤ x2 ∧ x2 ≤ 79) (k3 : (-2) ≤ x3 ∧ x3 ≤ 120) (k5 : 0 ≤ x5 ∧ x5 ≤ 119) (k6 : 3 ≤ x6 ∧ x6 ≤ 25) (k8 : 0 ≤ x8 ∧ x8 ≤ 24) (k9 : 0 ≤ x9 ∧ x9 ≤ 25) (k10 : 0 ≤ x10 ∧ x10 ≤ 25) (k13 : 0 ≤ x13 ∧ x13 ≤ 118) (k17 : 0 ≤ x17 ∧ x17 ≤ 24) (k18 : (-1000000) ≤ x18 ∧ x18 ≤ 1000000) (d0 : x6 + (-4294967295) ≤ x17 ∧ x17 ≤ x6 + (-1)) (d1 : x6 + (-4294967296) ≤ x10 ∧ x10 ≤ x6 + 0) (d2 : x5 + (-4294967296) ≤ x1 ∧ x1 ≤ x5 + 0) (d3 : x1 + (-4294967296) ≤ x5 ∧ x5 ≤ x1 + 0) (d4 : x10 + (-4294967296) ≤ x8 ∧ x8 ≤ x10 + 0) (d5 : x10 + (-4294967296) ≤ x9 ∧ x9 ≤ x10 + 0) (h0 : x18 = line_0 (x17)) (f1 : x17 = Int.tmod (x10) (x6)) (g3 : x13 = faces_0) (f5 : x10 ≤ x6) (f6 : faces_0 ≤ 118) (f7 : (-1) * faces_0 + ((-1) * x3 + 0) ≤ (-120)) (f8 : S6 (pn_0) (pm_0) (faces_0) (wayMany_0) (pt_0) (ph_0) (alive_0) (blockOf_0) (drawnEdge_0) (faceMany_0) (face_0) (way_0) (line_0) (x2) (x1) (x6) (x8) (x9) (x10)) (hK_0_17 : ∀ j : Int, 0 ≤ j → j < 80 → (-1) ≤ blockOf_0 j ∧ blockOf_0 j ≤ 79) (hK_0_20 : ∀ j : Int, 0 ≤ j → j < 100 → (-1000000) ≤ line_0 j ∧ line_0 j ≤ 1000000) (hK_0_33 : ∀ j : Int, 0 ≤ j → j < 80 → 0 ≤ pt_0 j ∧ pt_0 j ≤ 24) (hK_0_34 : ∀ j : Int, 0 ≤ j → j < 80 → 0 ≤ ph_0 j ∧ ph_0 j ≤ 24) (hK_0_35 : ∀ j : Int, 0 ≤ j → j < 80 → 0 ≤ alive_0 j ∧ alive_0 j ≤ 1) (hK_0_40 : ∀ j : Int, 0 ≤ j → j < 120 → 0 ≤ faceMany_0 j ∧ faceMany_0 j ≤ 60) (hK_0_41 : ∀ j : Int, 0 ≤ j → j < 7200 → 0 ≤ face_0 j ∧ face_0 j ≤ 24) (hK_0_43 : ∀ j : Int, 0 ≤ j → j < 80 → 0 ≤ drawnEdge_0 j ∧ drawnEdge_0 j ≤ 1) (hK_0_46 : ∀ j : Int, 0 ≤ j → j < 30 → 0 ≤ way_0 j ∧ way_0 j ≤ 24) (kz_0_31 : 0 ≤ pn_0 ∧ pn_0 ≤ 25) (kz_0_32 : 0 ≤ pm_0 ∧ pm_0 ≤ 80) (kz_0_39 : 0 ≤ faces_0 ∧ faces_0 ≤ 120) (kz_0_45 : 0 ≤ wayMany_0 ∧ wayMany_0 ≤ 30) : 0 ≤ x18 ∧ x18 ≤ 24 := by
  have h := ‹S6 _ _ _ _ _ _ _ _ _ _ _ _ _ _ _ _ _ _ _›
  have hq := spl_len h.1.1
  have hr := spl_rng (j := x17) h.1.1 (by omega) (by have t := Int.tmod_lt_of_pos x10 (show (0 : Int) < x6 by omega); omega)
  omega
def o_Mo_split_19 : or_T := (232, 19, [(0, (2, 0, 0, [165])), (1, (0, 0, 119, [])), (2, (0, 0, 79, [])), (3, (0, -2, 120, [])), (4, (2, 0, 0, [165])), (5, (0, 0, 119, [])), (6, (0, 3, 25, [])), (8, (0, 0, 24, [])), (9, (0, 0, 25, [])), (10, (0, 0, 25, [])), (11, (2, 0, 0, [187])), (13, (0, 0, 118, [])), (16, (2, 0, 0, [175])), (17, (0, 0, 24, [])), (18, (0, -1000000, 1000000, []))], [(10, [18, 16, 17], []), (5, [17, 10, 6], []), (9, [16, 4], [20]), (9, [13, 4], [39]), (9, [11, 4], [41]), (7, [10, 6], [5]), (20, [4], [50, 1, 0, 39, 0, 3, 2, 0, 39, 0, 118]), (20, [4, 3], [30, -120, -1, 1, 39, -1, 0, 0]), (20, [4, 2, 5, 6, 8, 9, 10], [60, 4, 9, 149, 31, 32, 39, 45, 33, 34, 35, 17, 43, 40, 41, 46, 20]), (24, [0, 4], []), (24, [1, 5], [])], [(18, (0, 0, 24, []))], [], [], [], [(17, 6, -4294967295, -1), (10, 6, -4294967296, 0), (1, 5, -4294967296, 0), (5, 1, -4294967296, 0), (8, 10, -4294967296, 0), (9, 10, -4294967296, 0)])
theorem oo_Mo_split_19 {kA : Nat → ClassId} : or_ok PRD kA GG o_Mo_split_19 := by
  refine or_mk fun A ta ws vs hD hth hl => ?_
  intro t0 r0 t1 k1 t2 k2 t3 k3 t4 r4 t5 k5 t6 k6 t8 k8 t9 k9 t10 k10 t11 r11 t13 k13 t16 r16 t17 k17 t18 k18 d0 d1 d2 d3 d4 d5 f0 f1 f2 f3 f4 f5 f6 f7 f8 f9 f10
  replace f0 := shm_107 f0
  replace f2 := shm_740 f2
  replace f3 := shm_516 f3
  replace f6 := shm_734 f6
  replace f7 := shm_735 f7
  replace f8 := shm_745 f8
  replace f9 := shm_5 f9
  replace f10 := shm_5 f10
  have q4 : n_v vs 4 = n_v vs 0 := f9.symm
  have q5 : n_v vs 5 = n_v vs 1 := f10.symm
  simp only [q4, q5] at f2 f3 f6 f7 f8
  have cr_0_17 := fdq_189 hD hth r0
  have cr_0_20 := fdq_192 hD hth r0
  have cr_0_33 := fdq_117 hD hth r0
  have cr_0_34 := fdq_118 hD hth r0
  have cr_0_35 := fdq_132 hD hth r0
  have cr_0_40 := fdq_133 hD hth r0
  have cr_0_41 := fdq_134 hD hth r0
  have cr_0_43 := fdq_137 hD hth r0
  have cr_0_46 := fdq_190 hD hth r0
  have ad_16 : v_ad (n_v vs 16) = w_ar ws (n_v vs 0) 20 := congrArg v_ad f2
  simp only [ad_16] at f0
  have h0 : v_iv (n_v vs 18) = w_ei ws (w_ar ws (n_v vs 0) 20) (v_iv (n_v vs 17)) := f0
  have g3 : v_iv (n_v vs 13) = w_fi ws (n_v vs 0) 39 := congrArg v_iv f3
  have hK_0_17 := elq_113 hD hth cr_0_17
  have hK_0_20 := elq_115 hD hth cr_0_20
  have hK_0_33 := elq_60 hD hth cr_0_33
  have hK_0_34 := elq_61 hD hth cr_0_34
  have hK_0_35 := elq_72 hD hth cr_0_35
  have hK_0_40 := elq_73 hD hth cr_0_40
  have hK_0_41 := elq_74 hD hth cr_0_41
  have hK_0_43 := elq_76 hD hth cr_0_43
  have hK_0_46 := elq_114 hD hth cr_0_46
  have kz_0_31 := fdq_145 hD hth r0
  have kz_0_32 := fdq_140 hD hth r0
  have kz_0_39 := fdq_135 hD hth r0
  have kz_0_45 := fdq_191 hD hth r0
  have hrf0 : 0 ≤ v_iv (n_v vs 18) ∧ v_iv (n_v vs 18) ≤ 24 := vc_Mo_split_19_r0 (v_iv (n_v vs 1)) (v_iv (n_v vs 2)) (v_iv (n_v vs 3)) (v_iv (n_v vs 5)) (v_iv (n_v vs 6)) (v_iv (n_v vs 8)) (v_iv (n_v vs 9)) (v_iv (n_v vs 10)) (v_iv (n_v vs 13)) (v_iv (n_v vs 17)) (v_iv (n_v vs 18)) (w_ei ws (w_ar ws (n_v vs 0) 20)) (w_fi ws (n_v vs 0) 39) (w_ei ws (w_ar ws (n_v vs 0) 33)) (w_ei ws (w_ar ws (n_v vs 0) 34)) (w_ei ws (w_ar ws (n_v vs 0) 35)) (w_ei ws (w_ar ws (n_v vs 0) 17)) (w_ei ws (w_ar ws (n_v vs 0) 43)) (w_ei ws (w_ar ws (n_v vs 0) 40)) (w_ei ws (w_ar ws (n_v vs 0) 41)) (w_ei ws (w_ar ws (n_v vs 0) 46)) (w_fi ws (n_v vs 0) 31) (w_fi ws (n_v vs 0) 32) (w_fi ws (n_v vs 0) 45) k1 k2 k3 k5 k6 k8 k9 k10 k13 k17 k18 d0 d1 d2 d3 d4 d5 h0 (shm_468 f1) g3 (shm_24 f5) f6 f7 f8 hK_0_17 hK_0_20 hK_0_33 hK_0_34 hK_0_35 hK_0_40 hK_0_41 hK_0_43 hK_0_46 kz_0_31 kz_0_32 kz_0_39 kz_0_45
  have rf18 : tv_ok ta (0, 0, 24, []) (n_v vs 18) := tv_in t18 (by first | omega | grind) (by first | omega | grind)
  refine ⟨List.forall_mem_cons.mpr ⟨rf18, (fun _ h => (by cases h))⟩, [], trivial, ?_, (fun _ h => (by cases h))⟩
  rw [List.append_nil]
  exact (fun _ h => (by cases h))
set_option maxHeartbeats 4000000 in
theorem vc_Mo_split_20_0 (x1 : Int) (x2 : Int) (x3 : Int) (x5 : Int) (x6 : Int) (x8 : Int) (x9 : Int) (x10 : Int) (x12 : Int) (x13 : Int) (x14 : Int) (x15 : Int) (x17 : Int) (x18 : Int) (x19 : Int) (x20 : Int) (faces_0 : Int) (line_1 : Int → Int) (faces_1 : Int) (pt_1 : Int → Int) (ph_1 : Int → Int) (alive_1 : Int → Int) (blockOf_1 : Int → Int) (drawnEdge_1 : Int → Int) (faceMany_1 : Int → Int) (face_1 : Int → Int) (way_1 : Int → Int) (pn_1 : Int) (pm_1 : Int) (wayMany_1 : Int) (pn_0 : Int) (pm_0 : Int) (wayMany_0 : Int) (blockOf_0 : Int → Int) (line_0 : Int → Int) (pt_0 : Int → Int) (ph_0 : Int → Int) (alive_0 : Int → Int) (faceMany_0 : Int → Int) (face_0 : Int → Int) (drawnEdge_0 : Int → Int) (way_0 : Int → Int) (k1 : 0 ≤ x1 ∧ x1 ≤ 119) (k2 : 0 ≤ x2 ∧ x2 ≤ 79) (k3 : (-2) ≤ x3 ∧ x3 ≤ 120) (k5 : 0 ≤ x5 ∧ x5 ≤ 119) (k6 : 3 ≤ x6 ∧ x6 ≤ 25) (k8 : 0 ≤ x8 ∧ x8 ≤ 24) (k9 : 0 ≤ x9 ∧ x9 ≤ 25) (k10 : 0 ≤ x10 ∧ x10 ≤ 25) (k12 : 60 ≤ x12 ∧ x12 ≤ 60) (k13 : 0 ≤ x13 ∧ x13 ≤ 118) (k14 : 0 ≤ x14 ∧ x14 ≤ 7080) (k15 : 0 ≤ x15 ∧ x15 ≤ 7105) (k17 : 0 ≤ x17 ∧ x17 ≤ 24) (k18 : 0 ≤ x18 ∧ x18 ≤ 24) (k19 : 1 ≤ x19 ∧ x19 ≤ 26) (k20 : 1 ≤ x20 ∧ x20 ≤ 26) (d0 : x10 + 1 ≤ x20 ∧ x20 ≤ x10 + 1) (d1 : x6 + (-4294967296) ≤ x20 ∧ x20 ≤ x6 + 1) (d2 : x9 + 1 ≤ x19 ∧ x19 ≤ x9 + 1) (d3 : x10 + (-4294967296) ≤ x19 ∧ x19 ≤ x10 + 1) (d4 : x6 + (-4294967295) ≤ x17 ∧ x17 ≤ x6 + (-1)) (d5 : x9 + 0 ≤ x15 ∧ x15 ≤ x9 + 7080) (d6 : x10 + (-4294967296) ≤ x15 ∧ x15 ≤ x10 + 7080) (d7 : x14 + 0 ≤ x15 ∧ x15 ≤ x14 + 25) (d8 : x6 + (-4294967296) ≤ x10 ∧ x10 ≤ x6 + 0) (d9 : x5 + (-4294967296) ≤ x1 ∧ x1 ≤ x5 + 0) (d10 : x1 + (-4294967296) ≤ x5 ∧ x5 ≤ x1 + 0) (d11 : x10 + (-4294967296) ≤ x8 ∧ x8 ≤ x10 + 0) (d12 : x10 + (-4294967296) ≤ x9 ∧ x9 ≤ x10 + 0) (f0 : x20 = x10 + 1) (f1 : x19 = x9 + 1) (f2 : faces_0 ≤ 118) (f3 : (-1) * faces_0 + ((-1) * x3 + 0) ≤ (-120)) (h7 : x18 = line_1 (x17)) (f8 : x17 = Int.tmod (x10) (x6)) (f10 : x15 = x14 + x9) (f11 : x14 = 60 * x13) (g12 : x13 = faces_1) (f14 : x10 ≤ x6) (f15 : faces_1 ≤ 118) (f16 : (-1) * faces_1 + ((-1) * x3 + 0) ≤ (-120)) (f17 : S6 (pn_1) (pm_1) (faces_1) (wayMany_1) (pt_1) (ph_1) (alive_1) (blockOf_1) (drawnEdge_1) (faceMany_1) (face_1) (way_1) (line_1) (x2) (x1) (x6) (x8) (x9) (x10)) (fe_0_31_1 : pn_0 = pn_1) (fe_0_32_1 : pm_0 = pm_1) (fe_0_39_1 : faces_0 = faces_1) (fe_0_45_1 : wayMany_0 = wayMany_1) (hE_0_17_1 : ∀ j : Int, blockOf_0 j = blockOf_1 j) (hK_0_17 : ∀ j : Int, 0 ≤ j → j < 80 → (-1) ≤ blockOf_0 j ∧ blockOf_0 j ≤ 79) (hE_0_20_1 : ∀ j : Int, line_0 j = line_1 j) (hK_0_20 : ∀ j : Int, 0 ≤ j → j < 100 → (-1000000) ≤ line_0 j ∧ line_0 j ≤ 1000000) (hE_0_33_1 : ∀ j : Int, pt_0 j = pt_1 j) (hK_0_33 : ∀ j : Int, 0 ≤ j → j < 80 → 0 ≤ pt_0 j ∧ pt_0 j ≤ 24) (hE_0_34_1 : ∀ j : Int, ph_0 j = ph_1 j) (hK_0_34 : ∀ j : Int, 0 ≤ j → j < 80 → 0 ≤ ph_0 j ∧ ph_0 j ≤ 24) (hE_0_35_1 : ∀ j : Int, alive_0 j = alive_1 j) (hK_0_35 : ∀ j : Int, 0 ≤ j → j < 80 → 0 ≤ alive_0 j ∧ alive_0 j ≤ 1) (hE_0_40_1 : ∀ j : Int, faceMany_0 j = faceMany_1 j) (hK_0_40 : ∀ j : Int, 0 ≤ j → j < 120 → 0 ≤ faceMany_0 j ∧ faceMany_0 j ≤ 60) (hE_0_41_1 : ∀ j : Int, 0 ≤ j → (j = x15 → face_0 j = x18) ∧ (j ≠ x15 → face_0 j = face_1 j)) (hK_0_41 : ∀ j : Int, 0 ≤ j → j < 7200 → 0 ≤ face_0 j ∧ face_0 j ≤ 24) (hE_0_43_1 : ∀ j : Int, drawnEdge_0 j = drawnEdge_1 j) (hK_0_43 : ∀ j : Int, 0 ≤ j → j < 80 → 0 ≤ drawnEdge_0 j ∧ drawnEdge_0 j ≤ 1) (hE_0_46_1 : ∀ j : Int, way_0 j = way_1 j) (hK_0_46 : ∀ j : Int, 0 ≤ j → j < 30 → 0 ≤ way_0 j ∧ way_0 j ≤ 24) (kz_0_31 : 0 ≤ pn_0 ∧ pn_0 ≤ 25) (kz_0_32 : 0 ≤ pm_0 ∧ pm_0 ≤ 80) (kz_0_39 : 0 ≤ faces_0 ∧ faces_0 ≤ 120) (kz_0_45 : 0 ≤ wayMany_0 ∧ wayMany_0 ≤ 30) : S6 (pn_0) (pm_0) (faces_0) (wayMany_0) (pt_0) (ph_0) (alive_0) (blockOf_0) (drawnEdge_0) (faceMany_0) (face_0) (way_0) (line_0) (x2) (x1) (x6) (x8) (x19) (x20) := by
  subst fe_0_31_1
  subst fe_0_32_1
  subst fe_0_39_1
  subst fe_0_45_1
  have e_hE_0_17_1 := funext hE_0_17_1; subst e_hE_0_17_1
  have e_hE_0_20_1 := funext hE_0_20_1; subst e_hE_0_20_1
  have e_hE_0_33_1 := funext hE_0_33_1; subst e_hE_0_33_1
  have e_hE_0_34_1 := funext hE_0_34_1; subst e_hE_0_34_1
  have e_hE_0_35_1 := funext hE_0_35_1; subst e_hE_0_35_1
  have e_hE_0_40_1 := funext hE_0_40_1; subst e_hE_0_40_1
  have e_hE_0_43_1 := funext hE_0_43_1; subst e_hE_0_43_1
  have e_hE_0_46_1 := funext hE_0_46_1; subst e_hE_0_46_1
  first
    | exact s6_of ‹S5 _ _ _ _ _ _ _ _ _ _ _ _ _ _ _ _ _ _ _› (by omega) (by omega) hE_0_40_1 rfl rfl (by omega) rfl
    | (obtain rfl : x12 = 60 := by omega
       exact s6_next (mm := x9) (k := x10) (q := x17) ‹S6 _ _ _ _ _ _ _ _ _ _ _ _ _ _ _ _ _ _ _› hE_0_41_1 (by omega) (by omega) (by omega) (by omega) (by omega) (by rw [← Int.tmod_eq_emod_of_nonneg (by omega)]; assumption) (by omega) (by omega))
def o_Mo_split_20 : or_T := (203, 21, [(0, (2, 0, 0, [165])), (1, (0, 0, 119, [])), (2, (0, 0, 79, [])), (3, (0, -2, 120, [])), (5, (0, 0, 119, [])), (6, (0, 3, 25, [])), (8, (0, 0, 24, [])), (9, (0, 0, 25, [])), (10, (0, 0, 25, [])), (11, (2, 0, 0, [187])), (12, (0, 60, 60, [])), (13, (0, 0, 118, [])), (14, (0, 0, 7080, [])), (15, (0, 0, 7105, [])), (17, (0, 0, 24, [])), (18, (0, 0, 24, [])), (19, (0, 1, 26, [])), (20, (0, 1, 26, []))], [(6, [20, 10], [1]), (6, [19, 9], [1]), (20, [4], [50, 1, 0, 39, 0, 3, 2, 0, 39, 0, 118]), (20, [4, 3], [30, -120, -1, 1, 39, -1, 0, 0]), (24, [0, 4], []), (24, [1, 5], []), (100, [11, 15, 18], []), (10, [18, 16, 17], []), (5, [17, 10, 6], []), (9, [16, 4], [20]), (1, [15, 14, 9], []), (3, [14, 12, 13], []), (9, [13, 4], [39]), (9, [11, 4], [41]), (7, [10, 6], [5]), (20, [4], [50, 1, 0, 39, 0, 3, 2, 0, 39, 0, 118]), (20, [4, 3], [30, -120, -1, 1, 39, -1, 0, 0]), (20, [4, 2, 5, 6, 8, 9, 10], [60, 4, 9, 149, 31, 32, 39, 45, 33, 34, 35, 17, 43, 40, 41, 46, 20])], [], [], [(20, [4, 2, 5, 6, 8, 19, 20], [60, 4, 9, 149, 31, 32, 39, 45, 33, 34, 35, 17, 43, 40, 41, 46, 20])], [], [(20, 10, 1, 1), (20, 6, -4294967296, 1), (19, 9, 1, 1), (19, 10, -4294967296, 1), (17, 6, -4294967295, -1), (15, 9, 0, 7080), (15, 10, -4294967296, 7080), (15, 14, 0, 25), (10, 6, -4294967296, 0), (1, 5, -4294967296, 0), (5, 1, -4294967296, 0), (8, 10, -4294967296, 0), (9, 10, -4294967296, 0)])
theorem oo_Mo_split_20 {kA : Nat → ClassId} : or_ok PRD kA GG o_Mo_split_20 := by
  refine or_mk fun A ta ws vs hD hth hl => ?_
  intro t0 r0 t1 k1 t2 k2 t3 k3 t5 k5 t6 k6 t8 k8 t9 k9 t10 k10 t11 r11 t12 k12 t13 k13 t14 k14 t15 k15 t17 k17 t18 k18 t19 k19 t20 k20 d0 d1 d2 d3 d4 d5 d6 d7 d8 d9 d10 d11 d12 f0 f1 f2 f3 f4 f5 ta1 w1 le1 s1 f7 f8 f9 f10 f11 f12 f13 f14 f15 f16 f17
  replace f0 := shm_4 f0
  replace f1 := shm_4 f1
  replace f2 := shm_734 f2
  replace f3 := shm_735 f3
  replace f4 := shm_5 f4
  replace f5 := shm_5 f5
  have s1 : (∀ b j, w_el ws b j = if b = v_ad (n_v vs 11) ∧ j = (v_iv (n_v vs 15)).toNat then v_iv (n_v vs 18) else w_el w1 b j) ∧ ∀ b k, w_fd ws b k = w_fd w1 b k := s1.2
  replace f7 := shm_107 f7
  replace f8 := shm_468 f8
  replace f9 := shm_740 f9
  replace f10 := shm_12 f10
  replace f11 := shm_38 f11
  rw [show v_iv (n_v vs 12) = 60 from by omega] at f11
  replace f12 := shm_516 f12
  replace f13 := shm_522 f13
  replace f14 := shm_24 f14
  replace f15 := shm_734 f15
  replace f16 := shm_735 f16
  replace f17 := shm_745 f17
  have q4 : n_v vs 4 = n_v vs 0 := f4.symm
  have q5 : n_v vs 5 = n_v vs 1 := f5.symm
  simp only [q4, q5] at f2 f3 f9 f12 f13 f15 f16 f17
  have ar_0_17_1 : w_ar w1 (n_v vs 0) 17 = w_ar ws (n_v vs 0) 17 := congrArg v_ad (s1.2 _ _).symm
  have cr_0_17 := fdq_189 hD hth r0
  have ar_0_20_1 : w_ar w1 (n_v vs 0) 20 = w_ar ws (n_v vs 0) 20 := congrArg v_ad (s1.2 _ _).symm
  have cr_0_20 := fdq_192 hD hth r0
  have ar_0_33_1 : w_ar w1 (n_v vs 0) 33 = w_ar ws (n_v vs 0) 33 := congrArg v_ad (s1.2 _ _).symm
  have cr_0_33 := fdq_117 hD hth r0
  have ar_0_34_1 : w_ar w1 (n_v vs 0) 34 = w_ar ws (n_v vs 0) 34 := congrArg v_ad (s1.2 _ _).symm
  have cr_0_34 := fdq_118 hD hth r0
  have ar_0_35_1 : w_ar w1 (n_v vs 0) 35 = w_ar ws (n_v vs 0) 35 := congrArg v_ad (s1.2 _ _).symm
  have cr_0_35 := fdq_132 hD hth r0
  have ar_0_40_1 : w_ar w1 (n_v vs 0) 40 = w_ar ws (n_v vs 0) 40 := congrArg v_ad (s1.2 _ _).symm
  have cr_0_40 := fdq_133 hD hth r0
  have ar_0_41_1 : w_ar w1 (n_v vs 0) 41 = w_ar ws (n_v vs 0) 41 := congrArg v_ad (s1.2 _ _).symm
  have cr_0_41 := fdq_134 hD hth r0
  have ar_0_43_1 : w_ar w1 (n_v vs 0) 43 = w_ar ws (n_v vs 0) 43 := congrArg v_ad (s1.2 _ _).symm
  have cr_0_43 := fdq_137 hD hth r0
  have ar_0_46_1 : w_ar w1 (n_v vs 0) 46 = w_ar ws (n_v vs 0) 46 := congrArg v_ad (s1.2 _ _).symm
  have cr_0_46 := fdq_190 hD hth r0
  have ad_16 : v_ad (n_v vs 16) = w_ar ws (n_v vs 0) 20 := (congrArg v_ad f9).trans ar_0_20_1
  have ad_11 : v_ad (n_v vs 11) = w_ar ws (n_v vs 0) 41 := (congrArg v_ad f13).trans ar_0_41_1
  simp only [ad_16] at f7
  have h7 : v_iv (n_v vs 18) = w_ei w1 (w_ar ws (n_v vs 0) 20) (v_iv (n_v vs 17)) := f7
  have g12 : v_iv (n_v vs 13) = w_fi w1 (n_v vs 0) 39 := congrArg v_iv f12
  simp only [ar_0_17_1, ar_0_20_1, ar_0_33_1, ar_0_34_1, ar_0_35_1, ar_0_40_1, ar_0_41_1, ar_0_43_1, ar_0_46_1] at f17
  have fe_0_31_1 : w_fi ws (n_v vs 0) 31 = w_fi w1 (n_v vs 0) 31 := congrArg v_iv (s1.2 _ _)
  have fe_0_32_1 : w_fi ws (n_v vs 0) 32 = w_fi w1 (n_v vs 0) 32 := congrArg v_iv (s1.2 _ _)
  have fe_0_39_1 : w_fi ws (n_v vs 0) 39 = w_fi w1 (n_v vs 0) 39 := congrArg v_iv (s1.2 _ _)
  have fe_0_45_1 : w_fi ws (n_v vs 0) 45 = w_fi w1 (n_v vs 0) 45 := congrArg v_iv (s1.2 _ _)
  have hE_0_17_1 : ∀ j : Int, w_ei ws (w_ar ws (n_v vs 0) 17) j = w_ei w1 (w_ar ws (n_v vs 0) 17) j := el_kp s1.1 r11 cr_0_17 (by decide)
  have hK_0_17 := elq_113 hD hth cr_0_17
  have hE_0_20_1 : ∀ j : Int, w_ei ws (w_ar ws (n_v vs 0) 20) j = w_ei w1 (w_ar ws (n_v vs 0) 20) j := el_kp s1.1 r11 cr_0_20 (by decide)
  have hK_0_20 := elq_115 hD hth cr_0_20
  have hE_0_33_1 : ∀ j : Int, w_ei ws (w_ar ws (n_v vs 0) 33) j = w_ei w1 (w_ar ws (n_v vs 0) 33) j := el_kp s1.1 r11 cr_0_33 (by decide)
  have hK_0_33 := elq_60 hD hth cr_0_33
  have hE_0_34_1 : ∀ j : Int, w_ei ws (w_ar ws (n_v vs 0) 34) j = w_ei w1 (w_ar ws (n_v vs 0) 34) j := el_kp s1.1 r11 cr_0_34 (by decide)
  have hK_0_34 := elq_61 hD hth cr_0_34
  have hE_0_35_1 : ∀ j : Int, w_ei ws (w_ar ws (n_v vs 0) 35) j = w_ei w1 (w_ar ws (n_v vs 0) 35) j := el_kp s1.1 r11 cr_0_35 (by decide)
  have hK_0_35 := elq_72 hD hth cr_0_35
  have hE_0_40_1 : ∀ j : Int, w_ei ws (w_ar ws (n_v vs 0) 40) j = w_ei w1 (w_ar ws (n_v vs 0) 40) j := el_kp s1.1 r11 cr_0_40 (by decide)
  have hK_0_40 := elq_73 hD hth cr_0_40
  have hE_0_41_1 : ∀ j : Int, 0 ≤ j → (j = v_iv (n_v vs 15) → w_ei ws (w_ar ws (n_v vs 0) 41) j = v_iv (n_v vs 18)) ∧ (j ≠ v_iv (n_v vs 15) → w_ei ws (w_ar ws (n_v vs 0) 41) j = w_ei w1 (w_ar ws (n_v vs 0) 41) j) := fun j hj => ⟨fun h => by unfold w_ei; rw [s1.1, if_pos ⟨ad_11.symm, by rw [h]⟩], fun h => by unfold w_ei; rw [s1.1, if_neg (fun e => h (by have := e.2; omega))]⟩
  have hK_0_41 := elq_74 hD hth cr_0_41
  have hE_0_43_1 : ∀ j : Int, w_ei ws (w_ar ws (n_v vs 0) 43) j = w_ei w1 (w_ar ws (n_v vs 0) 43) j := el_kp s1.1 r11 cr_0_43 (by decide)
  have hK_0_43 := elq_76 hD hth cr_0_43
  have hE_0_46_1 : ∀ j : Int, w_ei ws (w_ar ws (n_v vs 0) 46) j = w_ei w1 (w_ar ws (n_v vs 0) 46) j := el_kp s1.1 r11 cr_0_46 (by decide)
  have hK_0_46 := elq_114 hD hth cr_0_46
  have kz_0_31 := fdq_145 hD hth r0
  have kz_0_32 := fdq_140 hD hth r0
  have kz_0_39 := fdq_135 hD hth r0
  have kz_0_45 := fdq_191 hD hth r0
  have nf0 : fc_1 PRD (20, [4, 2, 5, 6, 8, 19, 20], [60, 4, 9, 149, 31, 32, 39, 45, 33, 34, 35, 17, 43, 40, 41, 46, 20]) ws (vs) := by
    refine ⟨nf_in hl rfl, sgq_745 ?_⟩
    · show S6 (w_fi ws (n_v vs 4) 31) (w_fi ws (n_v vs 4) 32) (w_fi ws (n_v vs 4) 39) (w_fi ws (n_v vs 4) 45) (w_ei ws (w_ar ws (n_v vs 4) 33)) (w_ei ws (w_ar ws (n_v vs 4) 34)) (w_ei ws (w_ar ws (n_v vs 4) 35)) (w_ei ws (w_ar ws (n_v vs 4) 17)) (w_ei ws (w_ar ws (n_v vs 4) 43)) (w_ei ws (w_ar ws (n_v vs 4) 40)) (w_ei ws (w_ar ws (n_v vs 4) 41)) (w_ei ws (w_ar ws (n_v vs 4) 46)) (w_ei ws (w_ar ws (n_v vs 4) 20)) (v_iv (n_v vs 2)) (v_iv (n_v vs 5)) (v_iv (n_v vs 6)) (v_iv (n_v vs 8)) (v_iv (n_v vs 19)) (v_iv (n_v vs 20))
      simp only [q4, q5]
      exact vc_Mo_split_20_0 (v_iv (n_v vs 1)) (v_iv (n_v vs 2)) (v_iv (n_v vs 3)) (v_iv (n_v vs 5)) (v_iv (n_v vs 6)) (v_iv (n_v vs 8)) (v_iv (n_v vs 9)) (v_iv (n_v vs 10)) (v_iv (n_v vs 12)) (v_iv (n_v vs 13)) (v_iv (n_v vs 14)) (v_iv (n_v vs 15)) (v_iv (n_v vs 17)) (v_iv (n_v vs 18)) (v_iv (n_v vs 19)) (v_iv (n_v vs 20)) (w_fi ws (n_v vs 0) 39) (w_ei w1 (w_ar ws (n_v vs 0) 20)) (w_fi w1 (n_v vs 0) 39) (w_ei w1 (w_ar ws (n_v vs 0) 33)) (w_ei w1 (w_ar ws (n_v vs 0) 34)) (w_ei w1 (w_ar ws (n_v vs 0) 35)) (w_ei w1 (w_ar ws (n_v vs 0) 17)) (w_ei w1 (w_ar ws (n_v vs 0) 43)) (w_ei w1 (w_ar ws (n_v vs 0) 40)) (w_ei w1 (w_ar ws (n_v vs 0) 41)) (w_ei w1 (w_ar ws (n_v vs 0) 46)) (w_fi w1 (n_v vs 0) 31) (w_fi w1 (n_v vs 0) 32) (w_fi w1 (n_v vs 0) 45) (w_fi ws (n_v vs 0) 31) (w_fi ws (n_v vs 0) 32) (w_fi ws (n_v vs 0) 45) (w_ei ws (w_ar ws (n_v vs 0) 17)) (w_ei ws (w_ar ws (n_v vs 0) 20)) (w_ei ws (w_ar ws (n_v vs 0) 33)) (w_ei ws (w_ar ws (n_v vs 0) 34)) (w_ei ws (w_ar ws (n_v vs 0) 35)) (w_ei ws (w_ar ws (n_v vs 0) 40)) (w_ei ws (w_ar ws (n_v vs 0) 41)) (w_ei ws (w_ar ws (n_v vs 0) 43)) (w_ei ws (w_ar ws (n_v vs 0) 46)) k1 k2 k3 k5 k6 k8 k9 k10 k12 k13 k14 k15 k17 k18 k19 k20 d0 d1 d2 d3 d4 d5 d6 d7 d8 d9 d10 d11 d12 f0 f1 f2 f3 h7 f8 f10 f11 g12 f14 f15 f16 f17 fe_0_31_1 fe_0_32_1 fe_0_39_1 fe_0_45_1 hE_0_17_1 hK_0_17 hE_0_20_1 hK_0_20 hE_0_33_1 hK_0_33 hE_0_34_1 hK_0_34 hE_0_35_1 hK_0_35 hE_0_40_1 hK_0_40 hE_0_41_1 hK_0_41 hE_0_43_1 hK_0_43 hE_0_46_1 hK_0_46 kz_0_31 kz_0_32 kz_0_39 kz_0_45
  refine ⟨(fun _ h => (by cases h)), [], trivial, ?_, (fun _ h => (by cases h))⟩
  rw [List.append_nil]
  exact List.forall_mem_cons.mpr ⟨⟨show (20 : Nat) < 100 from by decide, nf0⟩, (fun _ h => (by cases h))⟩
def o_Mo_split_21 : or_T := (295, 16, [(0, (2, 0, 0, [165])), (1, (0, 0, 119, [])), (2, (0, 0, 79, [])), (3, (0, -2, 120, [])), (4, (2, 0, 0, [165])), (5, (0, 0, 119, [])), (6, (0, 3, 25, [])), (8, (0, 0, 24, [])), (9, (0, 0, 60, [])), (10, (0, 1, 29, [])), (11, (0, 1, 1, [])), (12, (0, 2, 30, [])), (13, (0, 0, 30, [])), (14, (2, 0, 0, [186])), (15, (0, 0, 120, []))], [(9, [15, 4], [39]), (9, [14, 4], [40]), (7, [12, 13], [3]), (9, [13, 4], [45]), (1, [12, 10, 11], []), (20, [4], [50, 1, 0, 39, 0, 3, 2, 0, 39, 0, 118]), (20, [4, 3], [30, -120, -1, 1, 39, -1, 0, 0]), (20, [4, 2, 5, 6, 8, 9, 10], [60, 4, 9, 150, 31, 32, 39, 45, 33, 34, 35, 17, 43, 40, 41, 46, 20]), (24, [0, 4], []), (24, [1, 5], [])], [(15, (0, 0, 118, []))], [], [], [], [(12, 13, 0, 4294967296), (12, 10, 1, 1), (12, 9, -4294967296, 2), (1, 5, -4294967296, 0), (5, 1, -4294967296, 0), (10, 9, -4294967296, 1)])
theorem oo_Mo_split_21 {kA : Nat → ClassId} : or_ok PRD kA GG o_Mo_split_21 := by
  refine or_mk fun A ta ws vs hD hth hl => ?_
  intro t0 r0 t1 k1 t2 k2 t3 k3 t4 r4 t5 k5 t6 k6 t8 k8 t9 k9 t10 k10 t11 k11 t12 k12 t13 k13 t14 r14 t15 k15 d0 d1 d2 d3 d4 d5 f0 f1 f2 f3 f4 f5 f6 f7 f8 f9
  replace f0 := shm_516 f0
  replace f1 := shm_518 f1
  replace f2 := shm_2 f2
  replace f3 := shm_741 f3
  replace f4 := shm_12 f4
  replace f5 := shm_734 f5
  replace f6 := shm_735 f6
  replace f7 := shm_746 f7
  replace f8 := shm_5 f8
  replace f9 := shm_5 f9
  have q4 : n_v vs 4 = n_v vs 0 := f8.symm
  have q5 : n_v vs 5 = n_v vs 1 := f9.symm
  simp only [q4, q5] at f0 f1 f3 f5 f6 f7
  have cr_0_17 := fdq_189 hD hth r0
  have cr_0_20 := fdq_192 hD hth r0
  have cr_0_33 := fdq_117 hD hth r0
  have cr_0_34 := fdq_118 hD hth r0
  have cr_0_35 := fdq_132 hD hth r0
  have cr_0_40 := fdq_133 hD hth r0
  have cr_0_41 := fdq_134 hD hth r0
  have cr_0_43 := fdq_137 hD hth r0
  have cr_0_46 := fdq_190 hD hth r0
  have ad_14 : v_ad (n_v vs 14) = w_ar ws (n_v vs 0) 40 := congrArg v_ad f1
  have g0 : v_iv (n_v vs 15) = w_fi ws (n_v vs 0) 39 := congrArg v_iv f0
  have g3 : v_iv (n_v vs 13) = w_fi ws (n_v vs 0) 45 := congrArg v_iv f3
  have hK_0_17 := elq_113 hD hth cr_0_17
  have hK_0_20 := elq_115 hD hth cr_0_20
  have hK_0_33 := elq_60 hD hth cr_0_33
  have hK_0_34 := elq_61 hD hth cr_0_34
  have hK_0_35 := elq_72 hD hth cr_0_35
  have hK_0_40 := elq_73 hD hth cr_0_40
  have hK_0_41 := elq_74 hD hth cr_0_41
  have hK_0_43 := elq_76 hD hth cr_0_43
  have hK_0_46 := elq_114 hD hth cr_0_46
  have kz_0_31 := fdq_145 hD hth r0
  have kz_0_32 := fdq_140 hD hth r0
  have kz_0_39 := fdq_135 hD hth r0
  have kz_0_45 := fdq_191 hD hth r0
  have rf15 : tv_ok ta (0, 0, 118, []) (n_v vs 15) := tv_in t15 (by first | omega | grind) (by first | omega | grind)
  refine ⟨List.forall_mem_cons.mpr ⟨rf15, (fun _ h => (by cases h))⟩, [], trivial, ?_, (fun _ h => (by cases h))⟩
  rw [List.append_nil]
  exact (fun _ h => (by cases h))
set_option maxHeartbeats 4000000 in
theorem vc_Mo_split_22_0 (x1 : Int) (x2 : Int) (x3 : Int) (x5 : Int) (x6 : Int) (x8 : Int) (x9 : Int) (x10 : Int) (x11 : Int) (x12 : Int) (x13 : Int) (x15 : Int) (x16 : Int) (x17 : Int) (faces_1 : Int) (wayMany_2 : Int) (faces_2 : Int) (pt_2 : Int → Int) (ph_2 : Int → Int) (alive_2 : Int → Int) (blockOf_2 : Int → Int) (drawnEdge_2 : Int → Int) (faceMany_2 : Int → Int) (face_2 : Int → Int) (way_2 : Int → Int) (line_2 : Int → Int) (pn_2 : Int) (pm_2 : Int) (pn_0 : Int) (pn_1 : Int) (pm_0 : Int) (pm_1 : Int) (faces_0 : Int) (wayMany_0 : Int) (wayMany_1 : Int) (blockOf_0 : Int → Int) (blockOf_1 : Int → Int) (line_0 : Int → Int) (line_1 : Int → Int) (pt_0 : Int → Int) (pt_1 : Int → Int) (ph_0 : Int → Int) (ph_1 : Int → Int) (alive_0 : Int → Int) (alive_1 : Int → Int) (faceMany_0 : Int → Int) (faceMany_1 : Int → Int) (face_0 : Int → Int) (face_1 : Int → Int) (drawnEdge_0 : Int → Int) (drawnEdge_1 : Int → Int) (way_0 : Int → Int) (way_1 : Int → Int) (k1 : 0 ≤ x1 ∧ x1 ≤ 119) (k2 : 0 ≤ x2 ∧ x2 ≤ 79) (k3 : (-2) ≤ x3 ∧ x3 ≤ 120) (k5 : 0 ≤ x5 ∧ x5 ≤ 119) (k6 : 3 ≤ x6 ∧ x6 ≤ 25) (k8 : 0 ≤ x8 ∧ x8 ≤ 24) (k9 : 0 ≤ x9 ∧ x9 ≤ 60) (k10 : 1 ≤ x10 ∧ x10 ≤ 29) (k11 : 1 ≤ x11 ∧ x11 ≤ 1) (k12 : 2 ≤ x12 ∧ x12 ≤ 30) (k13 : 0 ≤ x13 ∧ x13 ≤ 30) (k15 : 0 ≤ x15 ∧ x15 ≤ 118) (k16 : 1 ≤ x16 ∧ x16 ≤ 1) (k17 : 1 ≤ x17 ∧ x17 ≤ 119) (d0 : x15 + 1 ≤ x17 ∧ x17 ≤ x15 + 1) (d1 : x13 + 0 ≤ x12 ∧ x12 ≤ x13 + 4294967296) (d2 : x10 + 1 ≤ x12 ∧ x12 ≤ x10 + 1) (d3 : x9 + (-4294967296) ≤ x12 ∧ x12 ≤ x9 + 2) (d4 : x5 + (-4294967296) ≤ x1 ∧ x1 ≤ x5 + 0) (d5 : x1 + (-4294967296) ≤ x5 ∧ x5 ≤ x1 + 0) (d6 : x9 + (-4294967296) ≤ x10 ∧ x10 ≤ x9 + 1) (f3 : x17 = x15 + x16) (g4 : x15 = faces_1) (f5 : faces_1 ≤ 118) (f6 : (-1) * faces_1 + ((-1) * x3 + 0) ≤ (-120)) (f9 : x13 ≤ x12) (g10 : x13 = wayMany_2) (f11 : x12 = x10 + x11) (f12 : faces_2 ≤ 118) (f13 : (-1) * faces_2 + ((-1) * x3 + 0) ≤ (-120)) (f14 : S7 (pn_2) (pm_2) (faces_2) (wayMany_2) (pt_2) (ph_2) (alive_2) (blockOf_2) (drawnEdge_2) (faceMany_2) (face_2) (way_2) (line_2) (x2) (x1) (x6) (x8) (x9) (x10)) (fe_0_31_1 : pn_0 = pn_1) (fe_0_32_1 : pm_0 = pm_1) (fe_0_39_1 : faces_0 = x17) (fe_0_45_1 : wayMany_0 = wayMany_1) (fe_0_31_2 : pn_1 = pn_2) (fe_0_32_2 : pm_1 = pm_2) (fe_0_39_2 : faces_1 = faces_2) (fe_0_45_2 : wayMany_1 = wayMany_2) (hE_0_17_1 : ∀ j : Int, blockOf_0 j = blockOf_1 j) (hE_0_17_2 : ∀ j : Int, blockOf_1 j = blockOf_2 j) (hK_0_17 : ∀ j : Int, 0 ≤ j → j < 80 → (-1) ≤ blockOf_0 j ∧ blockOf_0 j ≤ 79) (hE_0_20_1 : ∀ j : Int, line_0 j = line_1 j) (hE_0_20_2 : ∀ j : Int, line_1 j = line_2 j) (hK_0_20 : ∀ j : Int, 0 ≤ j → j < 100 → (-1000000) ≤ line_0 j ∧ line_0 j ≤ 1000000) (hE_0_33_1 : ∀ j : Int, pt_0 j = pt_1 j) (hE_0_33_2 : ∀ j : Int, pt_1 j = pt_2 j) (hK_0_33 : ∀ j : Int, 0 ≤ j → j < 80 → 0 ≤ pt_0 j ∧ pt_0 j ≤ 24) (hE_0_34_1 : ∀ j : Int, ph_0 j = ph_1 j) (hE_0_34_2 : ∀ j : Int, ph_1 j = ph_2 j) (hK_0_34 : ∀ j : Int, 0 ≤ j → j < 80 → 0 ≤ ph_0 j ∧ ph_0 j ≤ 24) (hE_0_35_1 : ∀ j : Int, alive_0 j = alive_1 j) (hE_0_35_2 : ∀ j : Int, alive_1 j = alive_2 j) (hK_0_35 : ∀ j : Int, 0 ≤ j → j < 80 → 0 ≤ alive_0 j ∧ alive_0 j ≤ 1) (hE_0_40_1 : ∀ j : Int, faceMany_0 j = faceMany_1 j) (hE_0_40_2 : ∀ j : Int, 0 ≤ j → (j = x15 → faceMany_1 j = x9) ∧ (j ≠ x15 → faceMany_1 j = faceMany_2 j)) (hK_0_40 : ∀ j : Int, 0 ≤ j → j < 120 → 0 ≤ faceMany_0 j ∧ faceMany_0 j ≤ 60) (hE_0_41_1 : ∀ j : Int, face_0 j = face_1 j) (hE_0_41_2 : ∀ j : Int, face_1 j = face_2 j) (hK_0_41 : ∀ j : Int, 0 ≤ j → j < 7200 → 0 ≤ face_0 j ∧ face_0 j ≤ 24) (hE_0_43_1 : ∀ j : Int, drawnEdge_0 j = drawnEdge_1 j) (hE_0_43_2 : ∀ j : Int, drawnEdge_1 j = drawnEdge_2 j) (hK_0_43 : ∀ j : Int, 0 ≤ j → j < 80 → 0 ≤ drawnEdge_0 j ∧ drawnEdge_0 j ≤ 1) (hE_0_46_1 : ∀ j : Int, way_0 j = way_1 j) (hE_0_46_2 : ∀ j : Int, way_1 j = way_2 j) (hK_0_46 : ∀ j : Int, 0 ≤ j → j < 30 → 0 ≤ way_0 j ∧ way_0 j ≤ 24) (kz_0_31 : 0 ≤ pn_0 ∧ pn_0 ≤ 25) (kz_0_32 : 0 ≤ pm_0 ∧ pm_0 ≤ 80) (kz_0_39 : 0 ≤ faces_0 ∧ faces_0 ≤ 120) (kz_0_45 : 0 ≤ wayMany_0 ∧ wayMany_0 ≤ 30) : SPQ (pm_0) (faces_0) (wayMany_0) (pt_0) (ph_0) (alive_0) (blockOf_0) (drawnEdge_0) (faceMany_0) (face_0) (way_0) (x2) := by
  subst fe_0_31_1
  subst fe_0_32_1
  subst fe_0_45_1
  subst fe_0_31_2
  subst fe_0_32_2
  subst fe_0_39_2
  subst fe_0_45_2
  have e_hE_0_17_1 := funext hE_0_17_1; subst e_hE_0_17_1
  have e_hE_0_17_2 := funext hE_0_17_2; subst e_hE_0_17_2
  have e_hE_0_20_1 := funext hE_0_20_1; subst e_hE_0_20_1
  have e_hE_0_20_2 := funext hE_0_20_2; subst e_hE_0_20_2
  have e_hE_0_33_1 := funext hE_0_33_1; subst e_hE_0_33_1
  have e_hE_0_33_2 := funext hE_0_33_2; subst e_hE_0_33_2
  have e_hE_0_34_1 := funext hE_0_34_1; subst e_hE_0_34_1
  have e_hE_0_34_2 := funext hE_0_34_2; subst e_hE_0_34_2
  have e_hE_0_35_1 := funext hE_0_35_1; subst e_hE_0_35_1
  have e_hE_0_35_2 := funext hE_0_35_2; subst e_hE_0_35_2
  have e_hE_0_40_1 := funext hE_0_40_1; subst e_hE_0_40_1
  have e_hE_0_41_1 := funext hE_0_41_1; subst e_hE_0_41_1
  have e_hE_0_41_2 := funext hE_0_41_2; subst e_hE_0_41_2
  have e_hE_0_43_1 := funext hE_0_43_1; subst e_hE_0_43_1
  have e_hE_0_43_2 := funext hE_0_43_2; subst e_hE_0_43_2
  have e_hE_0_46_1 := funext hE_0_46_1; subst e_hE_0_46_1
  have e_hE_0_46_2 := funext hE_0_46_2; subst e_hE_0_46_2
  exact spq_of (i := x15) (v := x9) ‹S7 _ _ _ _ _ _ _ _ _ _ _ _ _ _ _ _ _ _ _› (by omega) hE_0_40_2 (by omega) rfl (by omega)
set_option maxHeartbeats 4000000 in
theorem vc_Mo_split_22_1 (x1 : Int) (x2 : Int) (x3 : Int) (x5 : Int) (x6 : Int) (x8 : Int) (x9 : Int) (x10 : Int) (x11 : Int) (x12 : Int) (x13 : Int) (x15 : Int) (x16 : Int) (x17 : Int) (faces_1 : Int) (wayMany_2 : Int) (faces_2 : Int) (pt_2 : Int → Int) (ph_2 : Int → Int) (alive_2 : Int → Int) (blockOf_2 : Int → Int) (drawnEdge_2 : Int → Int) (faceMany_2 : Int → Int) (face_2 : Int → Int) (way_2 : Int → Int) (line_2 : Int → Int) (pn_2 : Int) (pm_2 : Int) (pn_0 : Int) (pn_1 : Int) (pm_0 : Int) (pm_1 : Int) (faces_0 : Int) (wayMany_0 : Int) (wayMany_1 : Int) (blockOf_0 : Int → Int) (blockOf_1 : Int → Int) (line_0 : Int → Int) (line_1 : Int → Int) (pt_0 : Int → Int) (pt_1 : Int → Int) (ph_0 : Int → Int) (ph_1 : Int → Int) (alive_0 : Int → Int) (alive_1 : Int → Int) (faceMany_0 : Int → Int) (faceMany_1 : Int → Int) (face_0 : Int → Int) (face_1 : Int → Int) (drawnEdge_0 : Int → Int) (drawnEdge_1 : Int → Int) (way_0 : Int → Int) (way_1 : Int → Int) (k1 : 0 ≤ x1 ∧ x1 ≤ 119) (k2 : 0 ≤ x2 ∧ x2 ≤ 79) (k3 : (-2) ≤ x3 ∧ x3 ≤ 120) (k5 : 0 ≤ x5 ∧ x5 ≤ 119) (k6 : 3 ≤ x6 ∧ x6 ≤ 25) (k8 : 0 ≤ x8 ∧ x8 ≤ 24) (k9 : 0 ≤ x9 ∧ x9 ≤ 60) (k10 : 1 ≤ x10 ∧ x10 ≤ 29) (k11 : 1 ≤ x11 ∧ x11 ≤ 1) (k12 : 2 ≤ x12 ∧ x12 ≤ 30) (k13 : 0 ≤ x13 ∧ x13 ≤ 30) (k15 : 0 ≤ x15 ∧ x15 ≤ 118) (k16 : 1 ≤ x16 ∧ x16 ≤ 1) (k17 : 1 ≤ x17 ∧ x17 ≤ 119) (d0 : x15 + 1 ≤ x17 ∧ x17 ≤ x15 + 1) (d1 : x13 + 0 ≤ x12 ∧ x12 ≤ x13 + 4294967296) (d2 : x10 + 1 ≤ x12 ∧ x12 ≤ x10 + 1) (d3 : x9 + (-4294967296) ≤ x12 ∧ x12 ≤ x9 + 2) (d4 : x5 + (-4294967296) ≤ x1 ∧ x1 ≤ x5 + 0) (d5 : x1 + (-4294967296) ≤ x5 ∧ x5 ≤ x1 + 0) (d6 : x9 + (-4294967296) ≤ x10 ∧ x10 ≤ x9 + 1) (f3 : x17 = x15 + x16) (g4 : x15 = faces_1) (f5 : faces_1 ≤ 118) (f6 : (-1) * faces_1 + ((-1) * x3 + 0) ≤ (-120)) (f9 : x13 ≤ x12) (g10 : x13 = wayMany_2) (f11 : x12 = x10 + x11) (f12 : faces_2 ≤ 118) (f13 : (-1) * faces_2 + ((-1) * x3 + 0) ≤ (-120)) (f14 : S7 (pn_2) (pm_2) (faces_2) (wayMany_2) (pt_2) (ph_2) (alive_2) (blockOf_2) (drawnEdge_2) (faceMany_2) (face_2) (way_2) (line_2) (x2) (x1) (x6) (x8) (x9) (x10)) (fe_0_31_1 : pn_0 = pn_1) (fe_0_32_1 : pm_0 = pm_1) (fe_0_39_1 : faces_0 = x17) (fe_0_45_1 : wayMany_0 = wayMany_1) (fe_0_31_2 : pn_1 = pn_2) (fe_0_32_2 : pm_1 = pm_2) (fe_0_39_2 : faces_1 = faces_2) (fe_0_45_2 : wayMany_1 = wayMany_2) (hE_0_17_1 : ∀ j : Int, blockOf_0 j = blockOf_1 j) (hE_0_17_2 : ∀ j : Int, blockOf_1 j = blockOf_2 j) (hK_0_17 : ∀ j : Int, 0 ≤ j → j < 80 → (-1) ≤ blockOf_0 j ∧ blockOf_0 j ≤ 79) (hE_0_20_1 : ∀ j : Int, line_0 j = line_1 j) (hE_0_20_2 : ∀ j : Int, line_1 j = line_2 j) (hK_0_20 : ∀ j : Int, 0 ≤ j → j < 100 → (-1000000) ≤ line_0 j ∧ line_0 j ≤ 1000000) (hE_0_33_1 : ∀ j : Int, pt_0 j = pt_1 j) (hE_0_33_2 : ∀ j : Int, pt_1 j = pt_2 j) (hK_0_33 : ∀ j : Int, 0 ≤ j → j < 80 → 0 ≤ pt_0 j ∧ pt_0 j ≤ 24) (hE_0_34_1 : ∀ j : Int, ph_0 j = ph_1 j) (hE_0_34_2 : ∀ j : Int, ph_1 j = ph_2 j) (hK_0_34 : ∀ j : Int, 0 ≤ j → j < 80 → 0 ≤ ph_0 j ∧ ph_0 j ≤ 24) (hE_0_35_1 : ∀ j : Int, alive_0 j = alive_1 j) (hE_0_35_2 : ∀ j : Int, alive_1 j = alive_2 j) (hK_0_35 : ∀ j : Int, 0 ≤ j → j < 80 → 0 ≤ alive_0 j ∧ alive_0 j ≤ 1) (hE_0_40_1 : ∀ j : Int, faceMany_0 j = faceMany_1 j) (hE_0_40_2 : ∀ j : Int, 0 ≤ j → (j = x15 → faceMany_1 j = x9) ∧ (j ≠ x15 → faceMany_1 j = faceMany_2 j)) (hK_0_40 : ∀ j : Int, 0 ≤ j → j < 120 → 0 ≤ faceMany_0 j ∧ faceMany_0 j ≤ 60) (hE_0_41_1 : ∀ j : Int, face_0 j = face_1 j) (hE_0_41_2 : ∀ j : Int, face_1 j = face_2 j) (hK_0_41 : ∀ j : Int, 0 ≤ j → j < 7200 → 0 ≤ face_0 j ∧ face_0 j ≤ 24) (hE_0_43_1 : ∀ j : Int, drawnEdge_0 j = drawnEdge_1 j) (hE_0_43_2 : ∀ j : Int, drawnEdge_1 j = drawnEdge_2 j) (hK_0_43 : ∀ j : Int, 0 ≤ j → j < 80 → 0 ≤ drawnEdge_0 j ∧ drawnEdge_0 j ≤ 1) (hE_0_46_1 : ∀ j : Int, way_0 j = way_1 j) (hE_0_46_2 : ∀ j : Int, way_1 j = way_2 j) (hK_0_46 : ∀ j : Int, 0 ≤ j → j < 30 → 0 ≤ way_0 j ∧ way_0 j ≤ 24) (kz_0_31 : 0 ≤ pn_0 ∧ pn_0 ≤ 25) (kz_0_32 : 0 ≤ pm_0 ∧ pm_0 ≤ 80) (kz_0_39 : 0 ≤ faces_0 ∧ faces_0 ≤ 120) (kz_0_45 : 0 ≤ wayMany_0 ∧ wayMany_0 ≤ 30) : (-1) * faces_0 + ((-1) * x3 + 0) ≤ (-121) := by
  subst fe_0_31_1
  subst fe_0_32_1
  subst fe_0_45_1
  subst fe_0_31_2
  subst fe_0_32_2
  subst fe_0_39_2
  subst fe_0_45_2
  have e_hE_0_17_1 := funext hE_0_17_1; subst e_hE_0_17_1
  have e_hE_0_17_2 := funext hE_0_17_2; subst e_hE_0_17_2
  have e_hE_0_20_1 := funext hE_0_20_1; subst e_hE_0_20_1
  have e_hE_0_20_2 := funext hE_0_20_2; subst e_hE_0_20_2
  have e_hE_0_33_1 := funext hE_0_33_1; subst e_hE_0_33_1
  have e_hE_0_33_2 := funext hE_0_33_2; subst e_hE_0_33_2
  have e_hE_0_34_1 := funext hE_0_34_1; subst e_hE_0_34_1
  have e_hE_0_34_2 := funext hE_0_34_2; subst e_hE_0_34_2
  have e_hE_0_35_1 := funext hE_0_35_1; subst e_hE_0_35_1
  have e_hE_0_35_2 := funext hE_0_35_2; subst e_hE_0_35_2
  have e_hE_0_40_1 := funext hE_0_40_1; subst e_hE_0_40_1
  have e_hE_0_41_1 := funext hE_0_41_1; subst e_hE_0_41_1
  have e_hE_0_41_2 := funext hE_0_41_2; subst e_hE_0_41_2
  have e_hE_0_43_1 := funext hE_0_43_1; subst e_hE_0_43_1
  have e_hE_0_43_2 := funext hE_0_43_2; subst e_hE_0_43_2
  have e_hE_0_46_1 := funext hE_0_46_1; subst e_hE_0_46_1
  have e_hE_0_46_2 := funext hE_0_46_2; subst e_hE_0_46_2
  first | omega
def o_Mo_split_22 : or_T := (308, 18, [(0, (2, 0, 0, [165])), (1, (0, 0, 119, [])), (2, (0, 0, 79, [])), (3, (0, -2, 120, [])), (5, (0, 0, 119, [])), (6, (0, 3, 25, [])), (8, (0, 0, 24, [])), (9, (0, 0, 60, [])), (10, (0, 1, 29, [])), (11, (0, 1, 1, [])), (12, (0, 2, 30, [])), (13, (0, 0, 30, [])), (14, (2, 0, 0, [186])), (15, (0, 0, 118, [])), (16, (0, 1, 1, [])), (17, (0, 1, 119, []))], [(24, [0, 4], []), (24, [1, 5], []), (101, [4, 17], [39]), (1, [17, 15, 16], []), (9, [15, 4], [39]), (20, [4], [50, 1, 0, 39, 0, 3, 2, 0, 39, 0, 118]), (20, [4, 3], [30, -120, -1, 1, 39, -1, 0, 0]), (100, [14, 15, 9], []), (9, [14, 4], [40]), (7, [12, 13], [3]), (9, [13, 4], [45]), (1, [12, 10, 11], []), (20, [4], [50, 1, 0, 39, 0, 3, 2, 0, 39, 0, 118]), (20, [4, 3], [30, -120, -1, 1, 39, -1, 0, 0]), (20, [4, 2, 5, 6, 8, 9, 10], [60, 4, 9, 150, 31, 32, 39, 45, 33, 34, 35, 17, 43, 40, 41, 46, 20])], [], [], [(20, [0, 2], [60, 3, 8, 151, 32, 39, 45, 33, 34, 35, 17, 43, 40, 41, 46]), (20, [0, 3], [30, -121, -1, 1, 39, -1, 0, 0])], [], [(17, 15, 1, 1), (12, 13, 0, 4294967296), (12, 10, 1, 1), (12, 9, -4294967296, 2), (1, 5, -4294967296, 0), (5, 1, -4294967296, 0), (10, 9, -4294967296, 1)])
theorem oo_Mo_split_22 {kA : Nat → ClassId} : or_ok PRD kA GG o_Mo_split_22 := by
  refine or_mk fun A ta ws vs hD hth hl => ?_
  intro t0 r0 t1 k1 t2 k2 t3 k3 t5 k5 t6 k6 t8 k8 t9 k9 t10 k10 t11 k11 t12 k12 t13 k13 t14 r14 t15 k15 t16 k16 t17 k17 d0 d1 d2 d3 d4 d5 d6 f0 f1 ta1 w1 le1 s1 f3 f4 f5 f6 ta2 w2 le2 s2 f8 f9 f10 f11 f12 f13 f14
  replace f0 := shm_5 f0
  replace f1 := shm_5 f1
  have s1 : (∀ b j, w_el ws b j = w_el w1 b j) ∧ ∀ b j, w_fd ws b j = if b = v_ad (n_v vs 4) ∧ j = 39 then n_v vs 17 else w_fd w1 b j := s1.2
  replace f4 := shm_516 f4
  replace f5 := shm_734 f5
  replace f6 := shm_735 f6
  have s2 : (∀ b j, w_el w1 b j = if b = v_ad (n_v vs 14) ∧ j = (v_iv (n_v vs 15)).toNat then v_iv (n_v vs 9) else w_el w2 b j) ∧ ∀ b k, w_fd w1 b k = w_fd w2 b k := s2.2
  replace f8 := shm_518 f8
  replace f10 := shm_741 f10
  replace f12 := shm_734 f12
  replace f13 := shm_735 f13
  replace f14 := shm_746 f14
  have q4 : n_v vs 4 = n_v vs 0 := f0.symm
  have q5 : n_v vs 5 = n_v vs 1 := f1.symm
  rw [q4] at s1
  simp only [q4, q5] at f4 f5 f6 f8 f10 f12 f13 f14
  have ar_0_17_1 : w_ar w1 (n_v vs 0) 17 = w_ar ws (n_v vs 0) 17 := by show v_ad (w_fd w1 _ _) = v_ad (w_fd ws _ _); rw [s1.2, if_neg (fun e => absurd e.2 (by decide))]
  have ar_0_17_2 : w_ar w2 (n_v vs 0) 17 = w_ar ws (n_v vs 0) 17 := by rw [← ar_0_17_1]; show v_ad (w_fd w2 _ _) = v_ad (w_fd w1 _ _); rw [s2.2]
  have cr_0_17 := fdq_189 hD hth r0
  have ar_0_20_1 : w_ar w1 (n_v vs 0) 20 = w_ar ws (n_v vs 0) 20 := by show v_ad (w_fd w1 _ _) = v_ad (w_fd ws _ _); rw [s1.2, if_neg (fun e => absurd e.2 (by decide))]
  have ar_0_20_2 : w_ar w2 (n_v vs 0) 20 = w_ar ws (n_v vs 0) 20 := by rw [← ar_0_20_1]; show v_ad (w_fd w2 _ _) = v_ad (w_fd w1 _ _); rw [s2.2]
  have cr_0_20 := fdq_192 hD hth r0
  have ar_0_33_1 : w_ar w1 (n_v vs 0) 33 = w_ar ws (n_v vs 0) 33 := by show v_ad (w_fd w1 _ _) = v_ad (w_fd ws _ _); rw [s1.2, if_neg (fun e => absurd e.2 (by decide))]
  have ar_0_33_2 : w_ar w2 (n_v vs 0) 33 = w_ar ws (n_v vs 0) 33 := by rw [← ar_0_33_1]; show v_ad (w_fd w2 _ _) = v_ad (w_fd w1 _ _); rw [s2.2]
  have cr_0_33 := fdq_117 hD hth r0
  have ar_0_34_1 : w_ar w1 (n_v vs 0) 34 = w_ar ws (n_v vs 0) 34 := by show v_ad (w_fd w1 _ _) = v_ad (w_fd ws _ _); rw [s1.2, if_neg (fun e => absurd e.2 (by decide))]
  have ar_0_34_2 : w_ar w2 (n_v vs 0) 34 = w_ar ws (n_v vs 0) 34 := by rw [← ar_0_34_1]; show v_ad (w_fd w2 _ _) = v_ad (w_fd w1 _ _); rw [s2.2]
  have cr_0_34 := fdq_118 hD hth r0
  have ar_0_35_1 : w_ar w1 (n_v vs 0) 35 = w_ar ws (n_v vs 0) 35 := by show v_ad (w_fd w1 _ _) = v_ad (w_fd ws _ _); rw [s1.2, if_neg (fun e => absurd e.2 (by decide))]
  have ar_0_35_2 : w_ar w2 (n_v vs 0) 35 = w_ar ws (n_v vs 0) 35 := by rw [← ar_0_35_1]; show v_ad (w_fd w2 _ _) = v_ad (w_fd w1 _ _); rw [s2.2]
  have cr_0_35 := fdq_132 hD hth r0
  have ar_0_40_1 : w_ar w1 (n_v vs 0) 40 = w_ar ws (n_v vs 0) 40 := by show v_ad (w_fd w1 _ _) = v_ad (w_fd ws _ _); rw [s1.2, if_neg (fun e => absurd e.2 (by decide))]
  have ar_0_40_2 : w_ar w2 (n_v vs 0) 40 = w_ar ws (n_v vs 0) 40 := by rw [← ar_0_40_1]; show v_ad (w_fd w2 _ _) = v_ad (w_fd w1 _ _); rw [s2.2]
  have cr_0_40 := fdq_133 hD hth r0
  have ar_0_41_1 : w_ar w1 (n_v vs 0) 41 = w_ar ws (n_v vs 0) 41 := by show v_ad (w_fd w1 _ _) = v_ad (w_fd ws _ _); rw [s1.2, if_neg (fun e => absurd e.2 (by decide))]
  have ar_0_41_2 : w_ar w2 (n_v vs 0) 41 = w_ar ws (n_v vs 0) 41 := by rw [← ar_0_41_1]; show v_ad (w_fd w2 _ _) = v_ad (w_fd w1 _ _); rw [s2.2]
  have cr_0_41 := fdq_134 hD hth r0
  have ar_0_43_1 : w_ar w1 (n_v vs 0) 43 = w_ar ws (n_v vs 0) 43 := by show v_ad (w_fd w1 _ _) = v_ad (w_fd ws _ _); rw [s1.2, if_neg (fun e => absurd e.2 (by decide))]
  have ar_0_43_2 : w_ar w2 (n_v vs 0) 43 = w_ar ws (n_v vs 0) 43 := by rw [← ar_0_43_1]; show v_ad (w_fd w2 _ _) = v_ad (w_fd w1 _ _); rw [s2.2]
  have cr_0_43 := fdq_137 hD hth r0
  have ar_0_46_1 : w_ar w1 (n_v vs 0) 46 = w_ar ws (n_v vs 0) 46 := by show v_ad (w_fd w1 _ _) = v_ad (w_fd ws _ _); rw [s1.2, if_neg (fun e => absurd e.2 (by decide))]
  have ar_0_46_2 : w_ar w2 (n_v vs 0) 46 = w_ar ws (n_v vs 0) 46 := by rw [← ar_0_46_1]; show v_ad (w_fd w2 _ _) = v_ad (w_fd w1 _ _); rw [s2.2]
  have cr_0_46 := fdq_190 hD hth r0
  have ad_14 : v_ad (n_v vs 14) = w_ar ws (n_v vs 0) 40 := (congrArg v_ad f8).trans ar_0_40_2
  have g4 : v_iv (n_v vs 15) = w_fi w1 (n_v vs 0) 39 := congrArg v_iv f4
  have g10 : v_iv (n_v vs 13) = w_fi w2 (n_v vs 0) 45 := congrArg v_iv f10
  simp only [ar_0_17_2, ar_0_20_2, ar_0_33_2, ar_0_34_2, ar_0_35_2, ar_0_40_2, ar_0_41_2, ar_0_43_2, ar_0_46_2] at f14
  have fe_0_31_1 : w_fi ws (n_v vs 0) 31 = w_fi w1 (n_v vs 0) 31 := by show v_iv (w_fd _ _ _) = v_iv (w_fd _ _ _); rw [s1.2, if_neg (fun e => absurd e.2 (by decide))]
  have fe_0_32_1 : w_fi ws (n_v vs 0) 32 = w_fi w1 (n_v vs 0) 32 := by show v_iv (w_fd _ _ _) = v_iv (w_fd _ _ _); rw [s1.2, if_neg (fun e => absurd e.2 (by decide))]
  have fe_0_39_1 : w_fi ws (n_v vs 0) 39 = v_iv (n_v vs 17) := by show v_iv (w_fd _ _ _) = _; rw [s1.2, if_pos ⟨rfl, rfl⟩]
  have fe_0_45_1 : w_fi ws (n_v vs 0) 45 = w_fi w1 (n_v vs 0) 45 := by show v_iv (w_fd _ _ _) = v_iv (w_fd _ _ _); rw [s1.2, if_neg (fun e => absurd e.2 (by decide))]
  have fe_0_31_2 : w_fi w1 (n_v vs 0) 31 = w_fi w2 (n_v vs 0) 31 := congrArg v_iv (s2.2 _ _)
  have fe_0_32_2 : w_fi w1 (n_v vs 0) 32 = w_fi w2 (n_v vs 0) 32 := congrArg v_iv (s2.2 _ _)
  have fe_0_39_2 : w_fi w1 (n_v vs 0) 39 = w_fi w2 (n_v vs 0) 39 := congrArg v_iv (s2.2 _ _)
  have fe_0_45_2 : w_fi w1 (n_v vs 0) 45 = w_fi w2 (n_v vs 0) 45 := congrArg v_iv (s2.2 _ _)
  have hE_0_17_1 : ∀ j : Int, w_ei ws (w_ar ws (n_v vs 0) 17) j = w_ei w1 (w_ar ws (n_v vs 0) 17) j := fun j => s1.1 _ _
  have hE_0_17_2 : ∀ j : Int, w_ei w1 (w_ar ws (n_v vs 0) 17) j = w_ei w2 (w_ar ws (n_v vs 0) 17) j := el_kp s2.1 r14 cr_0_17 (by decide)
  have hK_0_17 := elq_113 hD hth cr_0_17
  have hE_0_20_1 : ∀ j : Int, w_ei ws (w_ar ws (n_v vs 0) 20) j = w_ei w1 (w_ar ws (n_v vs 0) 20) j := fun j => s1.1 _ _
  have hE_0_20_2 : ∀ j : Int, w_ei w1 (w_ar ws (n_v vs 0) 20) j = w_ei w2 (w_ar ws (n_v vs 0) 20) j := el_kp s2.1 r14 cr_0_20 (by decide)
  have hK_0_20 := elq_115 hD hth cr_0_20
  have hE_0_33_1 : ∀ j : Int, w_ei ws (w_ar ws (n_v vs 0) 33) j = w_ei w1 (w_ar ws (n_v vs 0) 33) j := fun j => s1.1 _ _
  have hE_0_33_2 : ∀ j : Int, w_ei w1 (w_ar ws (n_v vs 0) 33) j = w_ei w2 (w_ar ws (n_v vs 0) 33) j := el_kp s2.1 r14 cr_0_33 (by decide)
  have hK_0_33 := elq_60 hD hth cr_0_33
  have hE_0_34_1 : ∀ j : Int, w_ei ws (w_ar ws (n_v vs 0) 34) j = w_ei w1 (w_ar ws (n_v vs 0) 34) j := fun j => s1.1 _ _
  have hE_0_34_2 : ∀ j : Int, w_ei w1 (w_ar ws (n_v vs 0) 34) j = w_ei w2 (w_ar ws (n_v vs 0) 34) j := el_kp s2.1 r14 cr_0_34 (by decide)
  have hK_0_34 := elq_61 hD hth cr_0_34
  have hE_0_35_1 : ∀ j : Int, w_ei ws (w_ar ws (n_v vs 0) 35) j = w_ei w1 (w_ar ws (n_v vs 0) 35) j := fun j => s1.1 _ _
  have hE_0_35_2 : ∀ j : Int, w_ei w1 (w_ar ws (n_v vs 0) 35) j = w_ei w2 (w_ar ws (n_v vs 0) 35) j := el_kp s2.1 r14 cr_0_35 (by decide)
  have hK_0_35 := elq_72 hD hth cr_0_35
  have hE_0_40_1 : ∀ j : Int, w_ei ws (w_ar ws (n_v vs 0) 40) j = w_ei w1 (w_ar ws (n_v vs 0) 40) j := fun j => s1.1 _ _
  have hE_0_40_2 : ∀ j : Int, 0 ≤ j → (j = v_iv (n_v vs 15) → w_ei w1 (w_ar ws (n_v vs 0) 40) j = v_iv (n_v vs 9)) ∧ (j ≠ v_iv (n_v vs 15) → w_ei w1 (w_ar ws (n_v vs 0) 40) j = w_ei w2 (w_ar ws (n_v vs 0) 40) j) := fun j hj => ⟨fun h => by unfold w_ei; rw [s2.1, if_pos ⟨ad_14.symm, by rw [h]⟩], fun h => by unfold w_ei; rw [s2.1, if_neg (fun e => h (by have := e.2; omega))]⟩
  have hK_0_40 := elq_73 hD hth cr_0_40
  have hE_0_41_1 : ∀ j : Int, w_ei ws (w_ar ws (n_v vs 0) 41) j = w_ei w1 (w_ar ws (n_v vs 0) 41) j := fun j => s1.1 _ _
  have hE_0_41_2 : ∀ j : Int, w_ei w1 (w_ar ws (n_v vs 0) 41) j = w_ei w2 (w_ar ws (n_v vs 0) 41) j := el_kp s2.1 r14 cr_0_41 (by decide)
  have hK_0_41 := elq_74 hD hth cr_0_41
  have hE_0_43_1 : ∀ j : Int, w_ei ws (w_ar ws (n_v vs 0) 43) j = w_ei w1 (w_ar ws (n_v vs 0) 43) j := fun j => s1.1 _ _
  have hE_0_43_2 : ∀ j : Int, w_ei w1 (w_ar ws (n_v vs 0) 43) j = w_ei w2 (w_ar ws (n_v vs 0) 43) j := el_kp s2.1 r14 cr_0_43 (by decide)
  have hK_0_43 := elq_76 hD hth cr_0_43
  have hE_0_46_1 : ∀ j : Int, w_ei ws (w_ar ws (n_v vs 0) 46) j = w_ei w1 (w_ar ws (n_v vs 0) 46) j := fun j => s1.1 _ _
  have hE_0_46_2 : ∀ j : Int, w_ei w1 (w_ar ws (n_v vs 0) 46) j = w_ei w2 (w_ar ws (n_v vs 0) 46) j := el_kp s2.1 r14 cr_0_46 (by decide)
  have hK_0_46 := elq_114 hD hth cr_0_46
  have kz_0_31 := fdq_145 hD hth r0
  have kz_0_32 := fdq_140 hD hth r0
  have kz_0_39 := fdq_135 hD hth r0
  have kz_0_45 := fdq_191 hD hth r0
  have nf0 : fc_1 PRD (20, [0, 2], [60, 3, 8, 151, 32, 39, 45, 33, 34, 35, 17, 43, 40, 41, 46]) ws (vs) := ⟨nf_in hl rfl, sgq_747 (vc_Mo_split_22_0 (v_iv (n_v vs 1)) (v_iv (n_v vs 2)) (v_iv (n_v vs 3)) (v_iv (n_v vs 5)) (v_iv (n_v vs 6)) (v_iv (n_v vs 8)) (v_iv (n_v vs 9)) (v_iv (n_v vs 10)) (v_iv (n_v vs 11)) (v_iv (n_v vs 12)) (v_iv (n_v vs 13)) (v_iv (n_v vs 15)) (v_iv (n_v vs 16)) (v_iv (n_v vs 17)) (w_fi w1 (n_v vs 0) 39) (w_fi w2 (n_v vs 0) 45) (w_fi w2 (n_v vs 0) 39) (w_ei w2 (w_ar ws (n_v vs 0) 33)) (w_ei w2 (w_ar ws (n_v vs 0) 34)) (w_ei w2 (w_ar ws (n_v vs 0) 35)) (w_ei w2 (w_ar ws (n_v vs 0) 17)) (w_ei w2 (w_ar ws (n_v vs 0) 43)) (w_ei w2 (w_ar ws (n_v vs 0) 40)) (w_ei w2 (w_ar ws (n_v vs 0) 41)) (w_ei w2 (w_ar ws (n_v vs 0) 46)) (w_ei w2 (w_ar ws (n_v vs 0) 20)) (w_fi w2 (n_v vs 0) 31) (w_fi w2 (n_v vs 0) 32) (w_fi ws (n_v vs 0) 31) (w_fi w1 (n_v vs 0) 31) (w_fi ws (n_v vs 0) 32) (w_fi w1 (n_v vs 0) 32) (w_fi ws (n_v vs 0) 39) (w_fi ws (n_v vs 0) 45) (w_fi w1 (n_v vs 0) 45) (w_ei ws (w_ar ws (n_v vs 0) 17)) (w_ei w1 (w_ar ws (n_v vs 0) 17)) (w_ei ws (w_ar ws (n_v vs 0) 20)) (w_ei w1 (w_ar ws (n_v vs 0) 20)) (w_ei ws (w_ar ws (n_v vs 0) 33)) (w_ei w1 (w_ar ws (n_v vs 0) 33)) (w_ei ws (w_ar ws (n_v vs 0) 34)) (w_ei w1 (w_ar ws (n_v vs 0) 34)) (w_ei ws (w_ar ws (n_v vs 0) 35)) (w_ei w1 (w_ar ws (n_v vs 0) 35)) (w_ei ws (w_ar ws (n_v vs 0) 40)) (w_ei w1 (w_ar ws (n_v vs 0) 40)) (w_ei ws (w_ar ws (n_v vs 0) 41)) (w_ei w1 (w_ar ws (n_v vs 0) 41)) (w_ei ws (w_ar ws (n_v vs 0) 43)) (w_ei w1 (w_ar ws (n_v vs 0) 43)) (w_ei ws (w_ar ws (n_v vs 0) 46)) (w_ei w1 (w_ar ws (n_v vs 0) 46)) k1 k2 k3 k5 k6 k8 k9 k10 k11 k12 k13 k15 k16 k17 d0 d1 d2 d3 d4 d5 d6 (shm_12 f3) g4 f5 f6 (shm_2 f9) g10 (shm_12 f11) f12 f13 f14 fe_0_31_1 fe_0_32_1 fe_0_39_1 fe_0_45_1 fe_0_31_2 fe_0_32_2 fe_0_39_2 fe_0_45_2 hE_0_17_1 hE_0_17_2 hK_0_17 hE_0_20_1 hE_0_20_2 hK_0_20 hE_0_33_1 hE_0_33_2 hK_0_33 hE_0_34_1 hE_0_34_2 hK_0_34 hE_0_35_1 hE_0_35_2 hK_0_35 hE_0_40_1 hE_0_40_2 hK_0_40 hE_0_41_1 hE_0_41_2 hK_0_41 hE_0_43_1 hE_0_43_2 hK_0_43 hE_0_46_1 hE_0_46_2 hK_0_46 kz_0_31 kz_0_32 kz_0_39 kz_0_45)⟩
  have nf1 : fc_1 PRD (20, [0, 3], [30, -121, -1, 1, 39, -1, 0, 0]) ws (vs) := ⟨nf_in hl rfl, sgq_748 (vc_Mo_split_22_1 (v_iv (n_v vs 1)) (v_iv (n_v vs 2)) (v_iv (n_v vs 3)) (v_iv (n_v vs 5)) (v_iv (n_v vs 6)) (v_iv (n_v vs 8)) (v_iv (n_v vs 9)) (v_iv (n_v vs 10)) (v_iv (n_v vs 11)) (v_iv (n_v vs 12)) (v_iv (n_v vs 13)) (v_iv (n_v vs 15)) (v_iv (n_v vs 16)) (v_iv (n_v vs 17)) (w_fi w1 (n_v vs 0) 39) (w_fi w2 (n_v vs 0) 45) (w_fi w2 (n_v vs 0) 39) (w_ei w2 (w_ar ws (n_v vs 0) 33)) (w_ei w2 (w_ar ws (n_v vs 0) 34)) (w_ei w2 (w_ar ws (n_v vs 0) 35)) (w_ei w2 (w_ar ws (n_v vs 0) 17)) (w_ei w2 (w_ar ws (n_v vs 0) 43)) (w_ei w2 (w_ar ws (n_v vs 0) 40)) (w_ei w2 (w_ar ws (n_v vs 0) 41)) (w_ei w2 (w_ar ws (n_v vs 0) 46)) (w_ei w2 (w_ar ws (n_v vs 0) 20)) (w_fi w2 (n_v vs 0) 31) (w_fi w2 (n_v vs 0) 32) (w_fi ws (n_v vs 0) 31) (w_fi w1 (n_v vs 0) 31) (w_fi ws (n_v vs 0) 32) (w_fi w1 (n_v vs 0) 32) (w_fi ws (n_v vs 0) 39) (w_fi ws (n_v vs 0) 45) (w_fi w1 (n_v vs 0) 45) (w_ei ws (w_ar ws (n_v vs 0) 17)) (w_ei w1 (w_ar ws (n_v vs 0) 17)) (w_ei ws (w_ar ws (n_v vs 0) 20)) (w_ei w1 (w_ar ws (n_v vs 0) 20)) (w_ei ws (w_ar ws (n_v vs 0) 33)) (w_ei w1 (w_ar ws (n_v vs 0) 33)) (w_ei ws (w_ar ws (n_v vs 0) 34)) (w_ei w1 (w_ar ws (n_v vs 0) 34)) (w_ei ws (w_ar ws (n_v vs 0) 35)) (w_ei w1 (w_ar ws (n_v vs 0) 35)) (w_ei ws (w_ar ws (n_v vs 0) 40)) (w_ei w1 (w_ar ws (n_v vs 0) 40)) (w_ei ws (w_ar ws (n_v vs 0) 41)) (w_ei w1 (w_ar ws (n_v vs 0) 41)) (w_ei ws (w_ar ws (n_v vs 0) 43)) (w_ei w1 (w_ar ws (n_v vs 0) 43)) (w_ei ws (w_ar ws (n_v vs 0) 46)) (w_ei w1 (w_ar ws (n_v vs 0) 46)) k1 k2 k3 k5 k6 k8 k9 k10 k11 k12 k13 k15 k16 k17 d0 d1 d2 d3 d4 d5 d6 (shm_12 f3) g4 f5 f6 (shm_2 f9) g10 (shm_12 f11) f12 f13 f14 fe_0_31_1 fe_0_32_1 fe_0_39_1 fe_0_45_1 fe_0_31_2 fe_0_32_2 fe_0_39_2 fe_0_45_2 hE_0_17_1 hE_0_17_2 hK_0_17 hE_0_20_1 hE_0_20_2 hK_0_20 hE_0_33_1 hE_0_33_2 hK_0_33 hE_0_34_1 hE_0_34_2 hK_0_34 hE_0_35_1 hE_0_35_2 hK_0_35 hE_0_40_1 hE_0_40_2 hK_0_40 hE_0_41_1 hE_0_41_2 hK_0_41 hE_0_43_1 hE_0_43_2 hK_0_43 hE_0_46_1 hE_0_46_2 hK_0_46 kz_0_31 kz_0_32 kz_0_39 kz_0_45)⟩
  refine ⟨(fun _ h => (by cases h)), [], trivial, ?_, (fun _ h => (by cases h))⟩
  rw [List.append_nil]
  exact List.forall_mem_cons.mpr ⟨⟨show (20 : Nat) < 100 from by decide, nf0⟩, List.forall_mem_cons.mpr ⟨⟨show (20 : Nat) < 100 from by decide, nf1⟩, (fun _ h => (by cases h))⟩⟩
set_option maxHeartbeats 4000000 in
theorem vc_Mo_split_23_r0 (x1 : Int) (x2 : Int) (x3 : Int) (x5 : Int) (x6 : Int) (x8 : Int) (x9 : Int) (x10 : Int) (x11 : Int) (x12 : Int) (x13 : Int) (wayMany_0 : Int) (faces_0 : Int) (pt_0 : Int → Int) (ph_0 : Int → Int) (alive_0 : Int → Int) (blockOf_0 : Int → Int) (drawnEdge_0 : Int → Int) (faceMany_0 : Int → Int) (face_0 : Int → Int) (way_0 : Int → Int) (line_0 : Int → Int) (pn_0 : Int) (pm_0 : Int) (k1 : 0 ≤ x1 ∧ x1 ≤ 119) (k2 : 0 ≤ x2 ∧ x2 ≤ 79) (k3 : (-2) ≤ x3 ∧ x3 ≤ 120) (k5 : 0 ≤ x5 ∧ x5 ≤ 119) (k6 : 3 ≤ x6 ∧ x6 ≤ 25) (k8 : 0 ≤ x8 ∧ x8 ≤ 24) (k9 : 0 ≤ x9 ∧ x9 ≤ 60) (k10 : 1 ≤ x10 ∧ x10 ≤ 28) (k11 : 1 ≤ x11 ∧ x11 ≤ 1) (k12 : 2 ≤ x12 ∧ x12 ≤ 29) (k13 : 3 ≤ x13 ∧ x13 ≤ 30) (d0 : x13 + (-4294967296) ≤ x12 ∧ x12 ≤ x13 + (-1)) (d1 : x10 + 1 ≤ x12 ∧ x12 ≤ x10 + 1) (d2 : x9 + (-4294967296) ≤ x12 ∧ x12 ≤ x9 + 2) (d3 : x5 + (-4294967296) ≤ x1 ∧ x1 ≤ x5 + 0) (d4 : x1 + (-4294967296) ≤ x5 ∧ x5 ≤ x1 + 0) (d5 : x9 + (-4294967296) ≤ x10 ∧ x10 ≤ x9 + 1) (f0 : x12 < x13) (g1 : x13 = wayMany_0) (f2 : x12 = x10 + x11) (f3 : faces_0 ≤ 118) (f4 : (-1) * faces_0 + ((-1) * x3 + 0) ≤ (-120)) (f5 : S7 (pn_0) (pm_0) (faces_0) (wayMany_0) (pt_0) (ph_0) (alive_0) (blockOf_0) (drawnEdge_0) (faceMany_0) (face_0) (way_0) (line_0) (x2) (x1) (x6) (x8) (x9) (x10)) (hK_0_17 : ∀ j : Int, 0 ≤ j → j < 80 → (-1) ≤ blockOf_0 j ∧ blockOf_0 j ≤ 79) (hK_0_20 : ∀ j : Int, 0 ≤ j → j < 100 → (-1000000) ≤ line_0 j ∧ line_0 j ≤ 1000000) (hK_0_33 : ∀ j : Int, 0 ≤ j → j < 80 → 0 ≤ pt_0 j ∧ pt_0 j ≤ 24) (hK_0_34 : ∀ j : Int, 0 ≤ j → j < 80 → 0 ≤ ph_0 j ∧ ph_0 j ≤ 24) (hK_0_35 : ∀ j : Int, 0 ≤ j → j < 80 → 0 ≤ alive_0 j ∧ alive_0 j ≤ 1) (hK_0_40 : ∀ j : Int, 0 ≤ j → j < 120 → 0 ≤ faceMany_0 j ∧ faceMany_0 j ≤ 60) (hK_0_41 : ∀ j : Int, 0 ≤ j → j < 7200 → 0 ≤ face_0 j ∧ face_0 j ≤ 24) (hK_0_43 : ∀ j : Int, 0 ≤ j → j < 80 → 0 ≤ drawnEdge_0 j ∧ drawnEdge_0 j ≤ 1) (hK_0_46 : ∀ j : Int, 0 ≤ j → j < 30 → 0 ≤ way_0 j ∧ way_0 j ≤ 24) (kz_0_31 : 0 ≤ pn_0 ∧ pn_0 ≤ 25) (kz_0_32 : 0 ≤ pm_0 ∧ pm_0 ≤ 80) (kz_0_39 : 0 ≤ faces_0 ∧ faces_0 ≤ 120) (kz_0_45 : 0 ≤ wayMany_0 ∧ wayMany_0 ≤ 30) : 0 ≤ x9 ∧ x9 ≤ 59 := by
  have h := ‹S7 _ _ _ _ _ _ _ _ _ _ _ _ _ _ _ _ _ _ _›
  have hq := spl_len h.1.1
  have h1 := h.1.2.2.1
  have h0 := h.1.2.1
  have h2 := h.2.2.1
  omega
def o_Mo_split_23 : or_T := (256, 14, [(0, (2, 0, 0, [165])), (1, (0, 0, 119, [])), (2, (0, 0, 79, [])), (3, (0, -2, 120, [])), (4, (2, 0, 0, [165])), (5, (0, 0, 119, [])), (6, (0, 3, 25, [])), (8, (0, 0, 24, [])), (9, (0, 0, 60, [])), (10, (0, 1, 28, [])), (11, (0, 1, 1, [])), (12, (0, 2, 29, [])), (13, (0, 3, 30, []))], [(7, [12, 13], [2]), (9, [13, 4], [45]), (1, [12, 10, 11], []), (20, [4], [50, 1, 0, 39, 0, 3, 2, 0, 39, 0, 118]), (20, [4, 3], [30, -120, -1, 1, 39, -1, 0, 0]), (20, [4, 2, 5, 6, 8, 9, 10], [60, 4, 9, 150, 31, 32, 39, 45, 33, 34, 35, 17, 43, 40, 41, 46, 20]), (24, [0, 4], []), (24, [1, 5], [])], [(9, (0, 0, 59, []))], [], [], [], [(12, 13, -4294967296, -1), (12, 10, 1, 1), (12, 9, -4294967296, 2), (1, 5, -4294967296, 0), (5, 1, -4294967296, 0), (10, 9, -4294967296, 1)])
theorem oo_Mo_split_23 {kA : Nat → ClassId} : or_ok PRD kA GG o_Mo_split_23 := by
  refine or_mk fun A ta ws vs hD hth hl => ?_
  intro t0 r0 t1 k1 t2 k2 t3 k3 t4 r4 t5 k5 t6 k6 t8 k8 t9 k9 t10 k10 t11 k11 t12 k12 t13 k13 d0 d1 d2 d3 d4 d5 f0 f1 f2 f3 f4 f5 f6 f7
  replace f1 := shm_741 f1
  replace f3 := shm_734 f3
  replace f4 := shm_735 f4
  replace f5 := shm_746 f5
  replace f6 := shm_5 f6
  replace f7 := shm_5 f7
  have q4 : n_v vs 4 = n_v vs 0 := f6.symm
  have q5 : n_v vs 5 = n_v vs 1 := f7.symm
  simp only [q4, q5] at f1 f3 f4 f5
  have cr_0_17 := fdq_189 hD hth r0
  have cr_0_20 := fdq_192 hD hth r0
  have cr_0_33 := fdq_117 hD hth r0
  have cr_0_34 := fdq_118 hD hth r0
  have cr_0_35 := fdq_132 hD hth r0
  have cr_0_40 := fdq_133 hD hth r0
  have cr_0_41 := fdq_134 hD hth r0
  have cr_0_43 := fdq_137 hD hth r0
  have cr_0_46 := fdq_190 hD hth r0
  have g1 : v_iv (n_v vs 13) = w_fi ws (n_v vs 0) 45 := congrArg v_iv f1
  have hK_0_17 := elq_113 hD hth cr_0_17
  have hK_0_20 := elq_115 hD hth cr_0_20
  have hK_0_33 := elq_60 hD hth cr_0_33
  have hK_0_34 := elq_61 hD hth cr_0_34
  have hK_0_35 := elq_72 hD hth cr_0_35
  have hK_0_40 := elq_73 hD hth cr_0_40
  have hK_0_41 := elq_74 hD hth cr_0_41
  have hK_0_43 := elq_76 hD hth cr_0_43
  have hK_0_46 := elq_114 hD hth cr_0_46
  have kz_0_31 := fdq_145 hD hth r0
  have kz_0_32 := fdq_140 hD hth r0
  have kz_0_39 := fdq_135 hD hth r0
  have kz_0_45 := fdq_191 hD hth r0
  have hrf0 : 0 ≤ v_iv (n_v vs 9) ∧ v_iv (n_v vs 9) ≤ 59 := vc_Mo_split_23_r0 (v_iv (n_v vs 1)) (v_iv (n_v vs 2)) (v_iv (n_v vs 3)) (v_iv (n_v vs 5)) (v_iv (n_v vs 6)) (v_iv (n_v vs 8)) (v_iv (n_v vs 9)) (v_iv (n_v vs 10)) (v_iv (n_v vs 11)) (v_iv (n_v vs 12)) (v_iv (n_v vs 13)) (w_fi ws (n_v vs 0) 45) (w_fi ws (n_v vs 0) 39) (w_ei ws (w_ar ws (n_v vs 0) 33)) (w_ei ws (w_ar ws (n_v vs 0) 34)) (w_ei ws (w_ar ws (n_v vs 0) 35)) (w_ei ws (w_ar ws (n_v vs 0) 17)) (w_ei ws (w_ar ws (n_v vs 0) 43)) (w_ei ws (w_ar ws (n_v vs 0) 40)) (w_ei ws (w_ar ws (n_v vs 0) 41)) (w_ei ws (w_ar ws (n_v vs 0) 46)) (w_ei ws (w_ar ws (n_v vs 0) 20)) (w_fi ws (n_v vs 0) 31) (w_fi ws (n_v vs 0) 32) k1 k2 k3 k5 k6 k8 k9 k10 k11 k12 k13 d0 d1 d2 d3 d4 d5 (shm_6 f0) g1 (shm_12 f2) f3 f4 f5 hK_0_17 hK_0_20 hK_0_33 hK_0_34 hK_0_35 hK_0_40 hK_0_41 hK_0_43 hK_0_46 kz_0_31 kz_0_32 kz_0_39 kz_0_45
  have rf9 : tv_ok ta (0, 0, 59, []) (n_v vs 9) := tv_in t9 (by first | omega | grind) (by first | omega | grind)
  refine ⟨List.forall_mem_cons.mpr ⟨rf9, (fun _ h => (by cases h))⟩, [], trivial, ?_, (fun _ h => (by cases h))⟩
  rw [List.append_nil]
  exact (fun _ h => (by cases h))
def o_Mo_split_24 : or_T := (266, 17, [(0, (2, 0, 0, [165])), (1, (0, 0, 119, [])), (2, (0, 0, 79, [])), (3, (0, -2, 120, [])), (4, (2, 0, 0, [165])), (5, (0, 0, 119, [])), (6, (0, 3, 25, [])), (8, (0, 0, 24, [])), (9, (0, 0, 59, [])), (10, (0, 1, 28, [])), (11, (0, 1, 1, [])), (12, (0, 2, 29, [])), (13, (0, 3, 30, [])), (14, (2, 0, 0, [187])), (16, (0, 0, 120, []))], [(9, [16, 4], [39]), (9, [14, 4], [41]), (7, [12, 13], [2]), (9, [13, 4], [45]), (1, [12, 10, 11], []), (20, [4], [50, 1, 0, 39, 0, 3, 2, 0, 39, 0, 118]), (20, [4, 3], [30, -120, -1, 1, 39, -1, 0, 0]), (20, [4, 2, 5, 6, 8, 9, 10], [60, 4, 9, 150, 31, 32, 39, 45, 33, 34, 35, 17, 43, 40, 41, 46, 20]), (24, [0, 4], []), (24, [1, 5], [])], [(16, (0, 0, 118, []))], [], [], [], [(12, 13, -4294967296, -1), (12, 10, 1, 1), (12, 9, -4294967296, 2), (1, 5, -4294967296, 0), (5, 1, -4294967296, 0), (10, 9, -4294967296, 1)])
theorem oo_Mo_split_24 {kA : Nat → ClassId} : or_ok PRD kA GG o_Mo_split_24 := by
  refine or_mk fun A ta ws vs hD hth hl => ?_
  intro t0 r0 t1 k1 t2 k2 t3 k3 t4 r4 t5 k5 t6 k6 t8 k8 t9 k9 t10 k10 t11 k11 t12 k12 t13 k13 t14 r14 t16 k16 d0 d1 d2 d3 d4 d5 f0 f1 f2 f3 f4 f5 f6 f7 f8 f9
  replace f0 := shm_516 f0
  replace f1 := shm_522 f1
  replace f2 := shm_6 f2
  replace f3 := shm_741 f3
  replace f4 := shm_12 f4
  replace f5 := shm_734 f5
  replace f6 := shm_735 f6
  replace f7 := shm_746 f7
  replace f8 := shm_5 f8
  replace f9 := shm_5 f9
  have q4 : n_v vs 4 = n_v vs 0 := f8.symm
  have q5 : n_v vs 5 = n_v vs 1 := f9.symm
  simp only [q4, q5] at f0 f1 f3 f5 f6 f7
  have cr_0_17 := fdq_189 hD hth r0
  have cr_0_20 := fdq_192 hD hth r0
  have cr_0_33 := fdq_117 hD hth r0
  have cr_0_34 := fdq_118 hD hth r0
  have cr_0_35 := fdq_132 hD hth r0
  have cr_0_40 := fdq_133 hD hth r0
  have cr_0_41 := fdq_134 hD hth r0
  have cr_0_43 := fdq_137 hD hth r0
  have cr_0_46 := fdq_190 hD hth r0
  have ad_14 : v_ad (n_v vs 14) = w_ar ws (n_v vs 0) 41 := congrArg v_ad f1
  have g0 : v_iv (n_v vs 16) = w_fi ws (n_v vs 0) 39 := congrArg v_iv f0
  have g3 : v_iv (n_v vs 13) = w_fi ws (n_v vs 0) 45 := congrArg v_iv f3
  have hK_0_17 := elq_113 hD hth cr_0_17
  have hK_0_20 := elq_115 hD hth cr_0_20
  have hK_0_33 := elq_60 hD hth cr_0_33
  have hK_0_34 := elq_61 hD hth cr_0_34
  have hK_0_35 := elq_72 hD hth cr_0_35
  have hK_0_40 := elq_73 hD hth cr_0_40
  have hK_0_41 := elq_74 hD hth cr_0_41
  have hK_0_43 := elq_76 hD hth cr_0_43
  have hK_0_46 := elq_114 hD hth cr_0_46
  have kz_0_31 := fdq_145 hD hth r0
  have kz_0_32 := fdq_140 hD hth r0
  have kz_0_39 := fdq_135 hD hth r0
  have kz_0_45 := fdq_191 hD hth r0
  have rf16 : tv_ok ta (0, 0, 118, []) (n_v vs 16) := tv_in t16 (by first | omega | grind) (by first | omega | grind)
  refine ⟨List.forall_mem_cons.mpr ⟨rf16, (fun _ h => (by cases h))⟩, [], trivial, ?_, (fun _ h => (by cases h))⟩
  rw [List.append_nil]
  exact (fun _ h => (by cases h))
set_option maxHeartbeats 4000000 in
theorem vc_Mo_split_25_0 (x1 : Int) (x2 : Int) (x3 : Int) (x5 : Int) (x6 : Int) (x8 : Int) (x9 : Int) (x10 : Int) (x11 : Int) (x12 : Int) (x13 : Int) (x15 : Int) (x16 : Int) (x17 : Int) (x18 : Int) (x20 : Int) (x21 : Int) (x22 : Int) (faces_0 : Int) (way_1 : Int → Int) (faces_1 : Int) (wayMany_1 : Int) (pt_1 : Int → Int) (ph_1 : Int → Int) (alive_1 : Int → Int) (blockOf_1 : Int → Int) (drawnEdge_1 : Int → Int) (faceMany_1 : Int → Int) (face_1 : Int → Int) (line_1 : Int → Int) (pn_1 : Int) (pm_1 : Int) (pn_0 : Int) (pm_0 : Int) (wayMany_0 : Int) (blockOf_0 : Int → Int) (line_0 : Int → Int) (pt_0 : Int → Int) (ph_0 : Int → Int) (alive_0 : Int → Int) (faceMany_0 : Int → Int) (face_0 : Int → Int) (drawnEdge_0 : Int → Int) (way_0 : Int → Int) (k1 : 0 ≤ x1 ∧ x1 ≤ 119) (k2 : 0 ≤ x2 ∧ x2 ≤ 79) (k3 : (-2) ≤ x3 ∧ x3 ≤ 120) (k5 : 0 ≤ x5 ∧ x5 ≤ 119) (k6 : 3 ≤ x6 ∧ x6 ≤ 25) (k8 : 0 ≤ x8 ∧ x8 ≤ 24) (k9 : 0 ≤ x9 ∧ x9 ≤ 59) (k10 : 1 ≤ x10 ∧ x10 ≤ 28) (k11 : 1 ≤ x11 ∧ x11 ≤ 1) (k12 : 2 ≤ x12 ∧ x12 ≤ 29) (k13 : 3 ≤ x13 ∧ x13 ≤ 30) (k15 : 60 ≤ x15 ∧ x15 ≤ 60) (k16 : 0 ≤ x16 ∧ x16 ≤ 118) (k17 : 0 ≤ x17 ∧ x17 ≤ 7080) (k18 : 0 ≤ x18 ∧ x18 ≤ 7139) (k20 : 0 ≤ x20 ∧ x20 ≤ 24) (k21 : 1 ≤ x21 ∧ x21 ≤ 60) (k22 : 2 ≤ x22 ∧ x22 ≤ 29) (d0 : x10 + 1 ≤ x22 ∧ x22 ≤ x10 + 1) (d1 : x9 + (-4294967296) ≤ x22 ∧ x22 ≤ x9 + 2) (d2 : x9 + 1 ≤ x21 ∧ x21 ≤ x9 + 1) (d3 : x9 + 0 ≤ x18 ∧ x18 ≤ x9 + 7080) (d4 : x17 + 0 ≤ x18 ∧ x18 ≤ x17 + 59) (d5 : x13 + (-4294967296) ≤ x12 ∧ x12 ≤ x13 + (-1)) (d6 : x10 + 1 ≤ x12 ∧ x12 ≤ x10 + 1) (d7 : x9 + (-4294967296) ≤ x12 ∧ x12 ≤ x9 + 2) (d8 : x5 + (-4294967296) ≤ x1 ∧ x1 ≤ x5 + 0) (d9 : x1 + (-4294967296) ≤ x5 ∧ x5 ≤ x1 + 0) (d10 : x9 + (-4294967296) ≤ x10 ∧ x10 ≤ x9 + 1) (f0 : x22 = x10 + 1) (f1 : x21 = x9 + 1) (f2 : faces_0 ≤ 118) (f3 : (-1) * faces_0 + ((-1) * x3 + 0) ≤ (-120)) (h7 : x20 = way_1 (x10)) (f9 : x18 = x17 + x9) (f10 : x17 = 60 * x16) (g11 : x16 = faces_1) (f13 : x12 < x13) (g14 : x13 = wayMany_1) (f15 : x12 = x10 + x11) (f16 : faces_1 ≤ 118) (f17 : (-1) * faces_1 + ((-1) * x3 + 0) ≤ (-120)) (f18 : S7 (pn_1) (pm_1) (faces_1) (wayMany_1) (pt_1) (ph_1) (alive_1) (blockOf_1) (drawnEdge_1) (faceMany_1) (face_1) (way_1) (line_1) (x2) (x1) (x6) (x8) (x9) (x10)) (fe_0_31_1 : pn_0 = pn_1) (fe_0_32_1 : pm_0 = pm_1) (fe_0_39_1 : faces_0 = faces_1) (fe_0_45_1 : wayMany_0 = wayMany_1) (hE_0_17_1 : ∀ j : Int, blockOf_0 j = blockOf_1 j) (hK_0_17 : ∀ j : Int, 0 ≤ j → j < 80 → (-1) ≤ blockOf_0 j ∧ blockOf_0 j ≤ 79) (hE_0_20_1 : ∀ j : Int, line_0 j = line_1 j) (hK_0_20 : ∀ j : Int, 0 ≤ j → j < 100 → (-1000000) ≤ line_0 j ∧ line_0 j ≤ 1000000) (hE_0_33_1 : ∀ j : Int, pt_0 j = pt_1 j) (hK_0_33 : ∀ j : Int, 0 ≤ j → j < 80 → 0 ≤ pt_0 j ∧ pt_0 j ≤ 24) (hE_0_34_1 : ∀ j : Int, ph_0 j = ph_1 j) (hK_0_34 : ∀ j : Int, 0 ≤ j → j < 80 → 0 ≤ ph_0 j ∧ ph_0 j ≤ 24) (hE_0_35_1 : ∀ j : Int, alive_0 j = alive_1 j) (hK_0_35 : ∀ j : Int, 0 ≤ j → j < 80 → 0 ≤ alive_0 j ∧ alive_0 j ≤ 1) (hE_0_40_1 : ∀ j : Int, faceMany_0 j = faceMany_1 j) (hK_0_40 : ∀ j : Int, 0 ≤ j → j < 120 → 0 ≤ faceMany_0 j ∧ faceMany_0 j ≤ 60) (hE_0_41_1 : ∀ j : Int, 0 ≤ j → (j = x18 → face_0 j = x20) ∧ (j ≠ x18 → face_0 j = face_1 j)) (hK_0_41 : ∀ j : Int, 0 ≤ j → j < 7200 → 0 ≤ face_0 j ∧ face_0 j ≤ 24) (hE_0_43_1 : ∀ j : Int, drawnEdge_0 j = drawnEdge_1 j) (hK_0_43 : ∀ j : Int, 0 ≤ j → j < 80 → 0 ≤ drawnEdge_0 j ∧ drawnEdge_0 j ≤ 1) (hE_0_46_1 : ∀ j : Int, way_0 j = way_1 j) (hK_0_46 : ∀ j : Int, 0 ≤ j → j < 30 → 0 ≤ way_0 j ∧ way_0 j ≤ 24) (kz_0_31 : 0 ≤ pn_0 ∧ pn_0 ≤ 25) (kz_0_32 : 0 ≤ pm_0 ∧ pm_0 ≤ 80) (kz_0_39 : 0 ≤ faces_0 ∧ faces_0 ≤ 120) (kz_0_45 : 0 ≤ wayMany_0 ∧ wayMany_0 ≤ 30) : S7 (pn_0) (pm_0) (faces_0) (wayMany_0) (pt_0) (ph_0) (alive_0) (blockOf_0) (drawnEdge_0) (faceMany_0) (face_0) (way_0) (line_0) (x2) (x1) (x6) (x8) (x21) (x22) := by
  subst fe_0_31_1
  subst fe_0_32_1
  subst fe_0_39_1
  subst fe_0_45_1
  have e_hE_0_17_1 := funext hE_0_17_1; subst e_hE_0_17_1
  have e_hE_0_20_1 := funext hE_0_20_1; subst e_hE_0_20_1
  have e_hE_0_33_1 := funext hE_0_33_1; subst e_hE_0_33_1
  have e_hE_0_34_1 := funext hE_0_34_1; subst e_hE_0_34_1
  have e_hE_0_35_1 := funext hE_0_35_1; subst e_hE_0_35_1
  have e_hE_0_40_1 := funext hE_0_40_1; subst e_hE_0_40_1
  have e_hE_0_43_1 := funext hE_0_43_1; subst e_hE_0_43_1
  have e_hE_0_46_1 := funext hE_0_46_1; subst e_hE_0_46_1
  first
    | exact s7_of ‹S6 _ _ _ _ _ _ _ _ _ _ _ _ _ _ _ _ _ _ _› (by omega) (by omega)
    | (obtain rfl : x15 = 60 := by omega
       exact s7_next (mm := x9) (k := x10) ‹S7 _ _ _ _ _ _ _ _ _ _ _ _ _ _ _ _ _ _ _› hE_0_41_1 (by omega) (by omega) (by omega) (by omega) (by omega) (by omega) (by omega))
def o_Mo_split_25 : or_T := (245, 23, [(0, (2, 0, 0, [165])), (1, (0, 0, 119, [])), (2, (0, 0, 79, [])), (3, (0, -2, 120, [])), (5, (0, 0, 119, [])), (6, (0, 3, 25, [])), (8, (0, 0, 24, [])), (9, (0, 0, 59, [])), (10, (0, 1, 28, [])), (11, (0, 1, 1, [])), (12, (0, 2, 29, [])), (13, (0, 3, 30, [])), (14, (2, 0, 0, [187])), (15, (0, 60, 60, [])), (16, (0, 0, 118, [])), (17, (0, 0, 7080, [])), (18, (0, 0, 7139, [])), (20, (0, 0, 24, [])), (21, (0, 1, 60, [])), (22, (0, 2, 29, []))], [(6, [22, 10], [1]), (6, [21, 9], [1]), (20, [4], [50, 1, 0, 39, 0, 3, 2, 0, 39, 0, 118]), (20, [4, 3], [30, -120, -1, 1, 39, -1, 0, 0]), (24, [0, 4], []), (24, [1, 5], []), (100, [14, 18, 20], []), (10, [20, 19, 10], []), (9, [19, 4], [46]), (1, [18, 17, 9], []), (3, [17, 15, 16], []), (9, [16, 4], [39]), (9, [14, 4], [41]), (7, [12, 13], [2]), (9, [13, 4], [45]), (1, [12, 10, 11], []), (20, [4], [50, 1, 0, 39, 0, 3, 2, 0, 39, 0, 118]), (20, [4, 3], [30, -120, -1, 1, 39, -1, 0, 0]), (20, [4, 2, 5, 6, 8, 9, 10], [60, 4, 9, 150, 31, 32, 39, 45, 33, 34, 35, 17, 43, 40, 41, 46, 20])], [], [], [(20, [4, 2, 5, 6, 8, 21, 22], [60, 4, 9, 150, 31, 32, 39, 45, 33, 34, 35, 17, 43, 40, 41, 46, 20])], [], [(22, 10, 1, 1), (22, 9, -4294967296, 2), (21, 9, 1, 1), (18, 9, 0, 7080), (18, 17, 0, 59), (12, 13, -4294967296, -1), (12, 10, 1, 1), (12, 9, -4294967296, 2), (1, 5, -4294967296, 0), (5, 1, -4294967296, 0), (10, 9, -4294967296, 1)])
theorem oo_Mo_split_25 {kA : Nat → ClassId} : or_ok PRD kA GG o_Mo_split_25 := by
  refine or_mk fun A ta ws vs hD hth hl => ?_
  intro t0 r0 t1 k1 t2 k2 t3 k3 t5 k5 t6 k6 t8 k8 t9 k9 t10 k10 t11 k11 t12 k12 t13 k13 t14 r14 t15 k15 t16 k16 t17 k17 t18 k18 t20 k20 t21 k21 t22 k22 d0 d1 d2 d3 d4 d5 d6 d7 d8 d9 d10 f0 f1 f2 f3 f4 f5 ta1 w1 le1 s1 f7 f8 f9 f10 f11 f12 f13 f14 f15 f16 f17 f18
  replace f0 := shm_4 f0
  replace f1 := shm_4 f1
  replace f2 := shm_734 f2
  replace f3 := shm_735 f3
  replace f4 := shm_5 f4
  replace f5 := shm_5 f5
  have s1 : (∀ b j, w_el ws b j = if b = v_ad (n_v vs 14) ∧ j = (v_iv (n_v vs 18)).toNat then v_iv (n_v vs 20) else w_el w1 b j) ∧ ∀ b k, w_fd ws b k = w_fd w1 b k := s1.2
  replace f7 := shm_107 f7
  replace f8 := shm_737 f8
  replace f9 := shm_12 f9
  replace f10 := shm_38 f10
  rw [show v_iv (n_v vs 15) = 60 from by omega] at f10
  replace f11 := shm_516 f11
  replace f12 := shm_522 f12
  replace f13 := shm_6 f13
  replace f14 := shm_741 f14
  replace f15 := shm_12 f15
  replace f16 := shm_734 f16
  replace f17 := shm_735 f17
  replace f18 := shm_746 f18
  have q4 : n_v vs 4 = n_v vs 0 := f4.symm
  have q5 : n_v vs 5 = n_v vs 1 := f5.symm
  simp only [q4, q5] at f2 f3 f8 f11 f12 f14 f16 f17 f18
  have ar_0_17_1 : w_ar w1 (n_v vs 0) 17 = w_ar ws (n_v vs 0) 17 := congrArg v_ad (s1.2 _ _).symm
  have cr_0_17 := fdq_189 hD hth r0
  have ar_0_20_1 : w_ar w1 (n_v vs 0) 20 = w_ar ws (n_v vs 0) 20 := congrArg v_ad (s1.2 _ _).symm
  have cr_0_20 := fdq_192 hD hth r0
  have ar_0_33_1 : w_ar w1 (n_v vs 0) 33 = w_ar ws (n_v vs 0) 33 := congrArg v_ad (s1.2 _ _).symm
  have cr_0_33 := fdq_117 hD hth r0
  have ar_0_34_1 : w_ar w1 (n_v vs 0) 34 = w_ar ws (n_v vs 0) 34 := congrArg v_ad (s1.2 _ _).symm
  have cr_0_34 := fdq_118 hD hth r0
  have ar_0_35_1 : w_ar w1 (n_v vs 0) 35 = w_ar ws (n_v vs 0) 35 := congrArg v_ad (s1.2 _ _).symm
  have cr_0_35 := fdq_132 hD hth r0
  have ar_0_40_1 : w_ar w1 (n_v vs 0) 40 = w_ar ws (n_v vs 0) 40 := congrArg v_ad (s1.2 _ _).symm
  have cr_0_40 := fdq_133 hD hth r0
  have ar_0_41_1 : w_ar w1 (n_v vs 0) 41 = w_ar ws (n_v vs 0) 41 := congrArg v_ad (s1.2 _ _).symm
  have cr_0_41 := fdq_134 hD hth r0
  have ar_0_43_1 : w_ar w1 (n_v vs 0) 43 = w_ar ws (n_v vs 0) 43 := congrArg v_ad (s1.2 _ _).symm
  have cr_0_43 := fdq_137 hD hth r0
  have ar_0_46_1 : w_ar w1 (n_v vs 0) 46 = w_ar ws (n_v vs 0) 46 := congrArg v_ad (s1.2 _ _).symm
  have cr_0_46 := fdq_190 hD hth r0
  have ad_19 : v_ad (n_v vs 19) = w_ar ws (n_v vs 0) 46 := (congrArg v_ad f8).trans ar_0_46_1
  have ad_14 : v_ad (n_v vs 14) = w_ar ws (n_v vs 0) 41 := (congrArg v_ad f12).trans ar_0_41_1
  simp only [ad_19] at f7
  have h7 : v_iv (n_v vs 20) = w_ei w1 (w_ar ws (n_v vs 0) 46) (v_iv (n_v vs 10)) := f7
  have g11 : v_iv (n_v vs 16) = w_fi w1 (n_v vs 0) 39 := congrArg v_iv f11
  have g14 : v_iv (n_v vs 13) = w_fi w1 (n_v vs 0) 45 := congrArg v_iv f14
  simp only [ar_0_17_1, ar_0_20_1, ar_0_33_1, ar_0_34_1, ar_0_35_1, ar_0_40_1, ar_0_41_1, ar_0_43_1, ar_0_46_1] at f18
  have fe_0_31_1 : w_fi ws (n_v vs 0) 31 = w_fi w1 (n_v vs 0) 31 := congrArg v_iv (s1.2 _ _)
  have fe_0_32_1 : w_fi ws (n_v vs 0) 32 = w_fi w1 (n_v vs 0) 32 := congrArg v_iv (s1.2 _ _)
  have fe_0_39_1 : w_fi ws (n_v vs 0) 39 = w_fi w1 (n_v vs 0) 39 := congrArg v_iv (s1.2 _ _)
  have fe_0_45_1 : w_fi ws (n_v vs 0) 45 = w_fi w1 (n_v vs 0) 45 := congrArg v_iv (s1.2 _ _)
  have hE_0_17_1 : ∀ j : Int, w_ei ws (w_ar ws (n_v vs 0) 17) j = w_ei w1 (w_ar ws (n_v vs 0) 17) j := el_kp s1.1 r14 cr_0_17 (by decide)
  have hK_0_17 := elq_113 hD hth cr_0_17
  have hE_0_20_1 : ∀ j : Int, w_ei ws (w_ar ws (n_v vs 0) 20) j = w_ei w1 (w_ar ws (n_v vs 0) 20) j := el_kp s1.1 r14 cr_0_20 (by decide)
  have hK_0_20 := elq_115 hD hth cr_0_20
  have hE_0_33_1 : ∀ j : Int, w_ei ws (w_ar ws (n_v vs 0) 33) j = w_ei w1 (w_ar ws (n_v vs 0) 33) j := el_kp s1.1 r14 cr_0_33 (by decide)
  have hK_0_33 := elq_60 hD hth cr_0_33
  have hE_0_34_1 : ∀ j : Int, w_ei ws (w_ar ws (n_v vs 0) 34) j = w_ei w1 (w_ar ws (n_v vs 0) 34) j := el_kp s1.1 r14 cr_0_34 (by decide)
  have hK_0_34 := elq_61 hD hth cr_0_34
  have hE_0_35_1 : ∀ j : Int, w_ei ws (w_ar ws (n_v vs 0) 35) j = w_ei w1 (w_ar ws (n_v vs 0) 35) j := el_kp s1.1 r14 cr_0_35 (by decide)
  have hK_0_35 := elq_72 hD hth cr_0_35
  have hE_0_40_1 : ∀ j : Int, w_ei ws (w_ar ws (n_v vs 0) 40) j = w_ei w1 (w_ar ws (n_v vs 0) 40) j := el_kp s1.1 r14 cr_0_40 (by decide)
  have hK_0_40 := elq_73 hD hth cr_0_40
  have hE_0_41_1 : ∀ j : Int, 0 ≤ j → (j = v_iv (n_v vs 18) → w_ei ws (w_ar ws (n_v vs 0) 41) j = v_iv (n_v vs 20)) ∧ (j ≠ v_iv (n_v vs 18) → w_ei ws (w_ar ws (n_v vs 0) 41) j = w_ei w1 (w_ar ws (n_v vs 0) 41) j) := fun j hj => ⟨fun h => by unfold w_ei; rw [s1.1, if_pos ⟨ad_14.symm, by rw [h]⟩], fun h => by unfold w_ei; rw [s1.1, if_neg (fun e => h (by have := e.2; omega))]⟩
  have hK_0_41 := elq_74 hD hth cr_0_41
  have hE_0_43_1 : ∀ j : Int, w_ei ws (w_ar ws (n_v vs 0) 43) j = w_ei w1 (w_ar ws (n_v vs 0) 43) j := el_kp s1.1 r14 cr_0_43 (by decide)
  have hK_0_43 := elq_76 hD hth cr_0_43
  have hE_0_46_1 : ∀ j : Int, w_ei ws (w_ar ws (n_v vs 0) 46) j = w_ei w1 (w_ar ws (n_v vs 0) 46) j := el_kp s1.1 r14 cr_0_46 (by decide)
  have hK_0_46 := elq_114 hD hth cr_0_46
  have kz_0_31 := fdq_145 hD hth r0
  have kz_0_32 := fdq_140 hD hth r0
  have kz_0_39 := fdq_135 hD hth r0
  have kz_0_45 := fdq_191 hD hth r0
  have nf0 : fc_1 PRD (20, [4, 2, 5, 6, 8, 21, 22], [60, 4, 9, 150, 31, 32, 39, 45, 33, 34, 35, 17, 43, 40, 41, 46, 20]) ws (vs) := by
    refine ⟨nf_in hl rfl, sgq_746 ?_⟩
    · show S7 (w_fi ws (n_v vs 4) 31) (w_fi ws (n_v vs 4) 32) (w_fi ws (n_v vs 4) 39) (w_fi ws (n_v vs 4) 45) (w_ei ws (w_ar ws (n_v vs 4) 33)) (w_ei ws (w_ar ws (n_v vs 4) 34)) (w_ei ws (w_ar ws (n_v vs 4) 35)) (w_ei ws (w_ar ws (n_v vs 4) 17)) (w_ei ws (w_ar ws (n_v vs 4) 43)) (w_ei ws (w_ar ws (n_v vs 4) 40)) (w_ei ws (w_ar ws (n_v vs 4) 41)) (w_ei ws (w_ar ws (n_v vs 4) 46)) (w_ei ws (w_ar ws (n_v vs 4) 20)) (v_iv (n_v vs 2)) (v_iv (n_v vs 5)) (v_iv (n_v vs 6)) (v_iv (n_v vs 8)) (v_iv (n_v vs 21)) (v_iv (n_v vs 22))
      simp only [q4, q5]
      exact vc_Mo_split_25_0 (v_iv (n_v vs 1)) (v_iv (n_v vs 2)) (v_iv (n_v vs 3)) (v_iv (n_v vs 5)) (v_iv (n_v vs 6)) (v_iv (n_v vs 8)) (v_iv (n_v vs 9)) (v_iv (n_v vs 10)) (v_iv (n_v vs 11)) (v_iv (n_v vs 12)) (v_iv (n_v vs 13)) (v_iv (n_v vs 15)) (v_iv (n_v vs 16)) (v_iv (n_v vs 17)) (v_iv (n_v vs 18)) (v_iv (n_v vs 20)) (v_iv (n_v vs 21)) (v_iv (n_v vs 22)) (w_fi ws (n_v vs 0) 39) (w_ei w1 (w_ar ws (n_v vs 0) 46)) (w_fi w1 (n_v vs 0) 39) (w_fi w1 (n_v vs 0) 45) (w_ei w1 (w_ar ws (n_v vs 0) 33)) (w_ei w1 (w_ar ws (n_v vs 0) 34)) (w_ei w1 (w_ar ws (n_v vs 0) 35)) (w_ei w1 (w_ar ws (n_v vs 0) 17)) (w_ei w1 (w_ar ws (n_v vs 0) 43)) (w_ei w1 (w_ar ws (n_v vs 0) 40)) (w_ei w1 (w_ar ws (n_v vs 0) 41)) (w_ei w1 (w_ar ws (n_v vs 0) 20)) (w_fi w1 (n_v vs 0) 31) (w_fi w1 (n_v vs 0) 32) (w_fi ws (n_v vs 0) 31) (w_fi ws (n_v vs 0) 32) (w_fi ws (n_v vs 0) 45) (w_ei ws (w_ar ws (n_v vs 0) 17)) (w_ei ws (w_ar ws (n_v vs 0) 20)) (w_ei ws (w_ar ws (n_v vs 0) 33)) (w_ei ws (w_ar ws (n_v vs 0) 34)) (w_ei ws (w_ar ws (n_v vs 0) 35)) (w_ei ws (w_ar ws (n_v vs 0) 40)) (w_ei ws (w_ar ws (n_v vs 0) 41)) (w_ei ws (w_ar ws (n_v vs 0) 43)) (w_ei ws (w_ar ws (n_v vs 0) 46)) k1 k2 k3 k5 k6 k8 k9 k10 k11 k12 k13 k15 k16 k17 k18 k20 k21 k22 d0 d1 d2 d3 d4 d5 d6 d7 d8 d9 d10 f0 f1 f2 f3 h7 f9 f10 g11 f13 g14 f15 f16 f17 f18 fe_0_31_1 fe_0_32_1 fe_0_39_1 fe_0_45_1 hE_0_17_1 hK_0_17 hE_0_20_1 hK_0_20 hE_0_33_1 hK_0_33 hE_0_34_1 hK_0_34 hE_0_35_1 hK_0_35 hE_0_40_1 hK_0_40 hE_0_41_1 hK_0_41 hE_0_43_1 hK_0_43 hE_0_46_1 hK_0_46 kz_0_31 kz_0_32 kz_0_39 kz_0_45
  refine ⟨(fun _ h => (by cases h)), [], trivial, ?_, (fun _ h => (by cases h))⟩
  rw [List.append_nil]
  exact List.forall_mem_cons.mpr ⟨⟨show (20 : Nat) < 100 from by decide, nf0⟩, (fun _ h => (by cases h))⟩
def n_Mo_split_an : List an_T := [(9, [(0, (2, 0, 0, [165])), (1, (0, 0, 119, [])), (2, (0, 3, 25, [])), (3, (0, 0, 24, []))], [], (0, 0), [(0, 0, 99991), (1, 7, 24), (0, 0, 100000)], [(1, 5, (Int.negSucc 999999999999), 0), (5, 1, (Int.negSucc 999999999999), 0)], [], [(2, 0, 0, [165]), (0, 0, 119, []), (0, 0, 79, []), (0, (Int.negSucc 1), 120, [])], 0, [], [(20, [4], [50, 1, 0, 39, 0, 3, 2, 0, 39, 0, 118]), (20, [4, 3], [30, (Int.negSucc 119), (Int.negSucc 0), 1, 39, (Int.negSucc 0), 0, 0]), (20, [4, 2, 5, 7], [60, 4, 8, 144, 31, 32, 39, 45, 33, 34, 35, 17, 43, 40, 41, 46]), (20, [6, 4, 5], [50, 0, 1, 1040, 1, 2, 1, 0, 3, 1, 40, 1, 2]), (24, [0, 4], []), (24, [1, 5], [])]), (38, [(0, (2, 0, 0, [165])), (1, (0, 0, 119, [])), (2, (0, 3, 25, [])), (3, (0, 0, 24, [])), (4, (0, 0, 25, []))], [], (0, 0), [(0, 0, 99962), (1, 8, 25), (0, 0, 100000)], [(1, 5, (Int.negSucc 999999999999), 0), (5, 1, (Int.negSucc 999999999999), 0)], [], [(2, 0, 0, [165]), (0, 0, 119, []), (0, 0, 79, []), (0, (Int.negSucc 1), 120, [])], 0, [], [(20, [4], [50, 1, 0, 39, 0, 3, 2, 0, 39, 0, 118]), (20, [4, 3], [30, (Int.negSucc 119), (Int.negSucc 0), 1, 39, (Int.negSucc 0), 0, 0]), (20, [4, 2, 5, 7, 6, 8], [60, 4, 9, 145, 31, 32, 39, 45, 33, 34, 35, 17, 43, 40, 41, 46, 20]), (24, [0, 4], []), (24, [1, 5], [])]), (76, [(0, (2, 0, 0, [165])), (1, (0, 0, 119, [])), (2, (0, 3, 25, [])), (3, (0, 0, 24, [])), (4, (0, 0, 24, []))], [], (0, 0), [(0, 0, 99924), (1, 8, 24), (0, 0, 100000)], [(1, 5, (Int.negSucc 999999999999), 0), (5, 1, (Int.negSucc 999999999999), 0)], [], [(2, 0, 0, [165]), (0, 0, 119, []), (0, 0, 79, []), (0, (Int.negSucc 1), 120, [])], 0, [], [(20, [4], [50, 1, 0, 39, 0, 3, 2, 0, 39, 0, 118]), (20, [4, 3], [30, (Int.negSucc 119), (Int.negSucc 0), 1, 39, (Int.negSucc 0), 0, 0]), (20, [4, 2, 5, 6, 8], [60, 4, 9, 146, 31, 32, 39, 45, 33, 34, 35, 17, 43, 40, 41, 46, 20]), (24, [0, 4], []), (24, [1, 5], [])]), (109, [(0, (2, 0, 0, [165])), (1, (0, 0, 119, [])), (2, (0, 3, 25, [])), (3, (0, 0, 24, [])), (4, (0, 0, 24, [])), (5, (0, 0, 0, [])), (6, (0, 0, 25, []))], [], (0, 0), [(0, 0, 99891), (1, 10, 25), (0, 0, 100000)], [(1, 5, (Int.negSucc 999999999999), 0), (5, 1, (Int.negSucc 999999999999), 0), (10, 8, (Int.negSucc 999999999999), 1)], [], [(2, 0, 0, [165]), (0, 0, 119, []), (0, 0, 79, []), (0, (Int.negSucc 1), 120, [])], 0, [], [(20, [4], [50, 1, 0, 39, 0, 3, 2, 0, 39, 0, 118]), (20, [4, 3], [30, (Int.negSucc 119), (Int.negSucc 0), 1, 39, (Int.negSucc 0), 0, 0]), (20, [4, 2, 5, 6, 8, 10], [60, 4, 9, 147, 31, 32, 39, 45, 33, 34, 35, 17, 43, 40, 41, 46, 20]), (24, [0, 4], []), (24, [1, 5], [])]), (155, [(0, (2, 0, 0, [165])), (1, (0, 0, 119, [])), (2, (0, 3, 25, [])), (3, (0, 0, 24, [])), (4, (0, 0, 24, [])), (5, (0, 1, 60, [])), (6, (0, (Int.negSucc 1), 28, []))], [], (0, 0), [(0, 0, 99845), (1, 9, 60), (0, 0, 100000)], [(1, 5, (Int.negSucc 999999999999), 0), (5, 1, (Int.negSucc 999999999999), 0), (8, 9, (Int.negSucc 999999999999), (Int.negSucc 0))], [], [(2, 0, 0, [165]), (0, 0, 119, []), (0, 0, 79, []), (0, (Int.negSucc 1), 120, [])], 0, [], [(20, [4], [50, 1, 0, 39, 0, 3, 2, 0, 39, 0, 118]), (20, [4, 3], [30, (Int.negSucc 119), (Int.negSucc 0), 1, 39, (Int.negSucc 0), 0, 0]), (20, [4, 2, 5, 6, 8, 9, 10], [60, 4, 9, 148, 31, 32, 39, 45, 33, 34, 35, 17, 43, 40, 41, 46, 20]), (24, [0, 4], []), (24, [1, 5], [])]), (203, [(0, (2, 0, 0, [165])), (1, (0, 0, 119, [])), (2, (0, 3, 25, [])), (3, (0, 0, 24, [])), (4, (0, 0, 24, [])), (5, (0, 0, 26, [])), (6, (0, 0, 26, []))], [], (0, 0), [(0, 0, 99797), (1, 9, 26), (0, 0, 100000)], [(1, 5, (Int.negSucc 999999999999), 0), (5, 1, (Int.negSucc 999999999999), 0), (8, 10, (Int.negSucc 999999999999), 0), (9, 10, (Int.negSucc 999999999999), 0)], [], [(2, 0, 0, [165]), (0, 0, 119, []), (0, 0, 79, []), (0, (Int.negSucc 1), 120, [])], 0, [], [(20, [4], [50, 1, 0, 39, 0, 3, 2, 0, 39, 0, 118]), (20, [4, 3], [30, (Int.negSucc 119), (Int.negSucc 0), 1, 39, (Int.negSucc 0), 0, 0]), (20, [4, 2, 5, 6, 8, 9, 10], [60, 4, 9, 149, 31, 32, 39, 45, 33, 34, 35, 17, 43, 40, 41, 46, 20]), (24, [0, 4], []), (24, [1, 5], [])]), (245, [(0, (2, 0, 0, [165])), (1, (0, 0, 119, [])), (2, (0, 3, 25, [])), (3, (0, 0, 24, [])), (4, (0, 0, 24, [])), (5, (0, 0, 60, [])), (6, (0, 1, 29, []))], [], (0, 0), [(0, 0, 99755), (1, 9, 60), (0, 0, 100000)], [(1, 5, (Int.negSucc 999999999999), 0), (5, 1, (Int.negSucc 999999999999), 0), (10, 9, (Int.negSucc 999999999999), 1)], [], [(2, 0, 0, [165]), (0, 0, 119, []), (0, 0, 79, []), (0, (Int.negSucc 1), 120, [])], 0, [], [(20, [4], [50, 1, 0, 39, 0, 3, 2, 0, 39, 0, 118]), (20, [4, 3], [30, (Int.negSucc 119), (Int.negSucc 0), 1, 39, (Int.negSucc 0), 0, 0]), (20, [4, 2, 5, 6, 8, 9, 10], [60, 4, 9, 150, 31, 32, 39, 45, 33, 34, 35, 17, 43, 40, 41, 46, 20]), (24, [0, 4], []), (24, [1, 5], [])])]
def t_Mo_split_ct : ct_L := []
set_option maxRecDepth 100000 in
theorem c_Mo_split {l : Launch} {D : va_G} {kA : Nat → ClassId} : ct_ok PRD l D kA GG y_Mo_split z_Mo_split e_Mo_split := chk_all_ok (FT := [(41, 13, 20), (75, 13, 40), (78, 13, 41), (90, 13, 46), (612, 13, 39), (619, 13, 45)]) (PT := [(612, 13, 39, .int)]) (CT := t_Mo_split_ct) (KT := []) (NT := []) (AN := n_Mo_split_an) (OT := [o_Mo_split_0, o_Mo_split_1, o_Mo_split_2, o_Mo_split_3, o_Mo_split_4, o_Mo_split_5, o_Mo_split_6, o_Mo_split_7, o_Mo_split_8, o_Mo_split_9, o_Mo_split_10, o_Mo_split_11, o_Mo_split_12, o_Mo_split_13, o_Mo_split_14, o_Mo_split_15, o_Mo_split_16, o_Mo_split_17, o_Mo_split_18, o_Mo_split_19, o_Mo_split_20, o_Mo_split_21, o_Mo_split_22, o_Mo_split_23, o_Mo_split_24, o_Mo_split_25]) 3 700 (List.forall_mem_cons.mpr ⟨oo_Mo_split_0, List.forall_mem_cons.mpr ⟨oo_Mo_split_1, List.forall_mem_cons.mpr ⟨oo_Mo_split_2, List.forall_mem_cons.mpr ⟨oo_Mo_split_3, List.forall_mem_cons.mpr ⟨oo_Mo_split_4, List.forall_mem_cons.mpr ⟨oo_Mo_split_5, List.forall_mem_cons.mpr ⟨oo_Mo_split_6, List.forall_mem_cons.mpr ⟨oo_Mo_split_7, List.forall_mem_cons.mpr ⟨oo_Mo_split_8, List.forall_mem_cons.mpr ⟨oo_Mo_split_9, List.forall_mem_cons.mpr ⟨oo_Mo_split_10, List.forall_mem_cons.mpr ⟨oo_Mo_split_11, List.forall_mem_cons.mpr ⟨oo_Mo_split_12, List.forall_mem_cons.mpr ⟨oo_Mo_split_13, List.forall_mem_cons.mpr ⟨oo_Mo_split_14, List.forall_mem_cons.mpr ⟨oo_Mo_split_15, List.forall_mem_cons.mpr ⟨oo_Mo_split_16, List.forall_mem_cons.mpr ⟨oo_Mo_split_17, List.forall_mem_cons.mpr ⟨oo_Mo_split_18, List.forall_mem_cons.mpr ⟨oo_Mo_split_19, List.forall_mem_cons.mpr ⟨oo_Mo_split_20, List.forall_mem_cons.mpr ⟨oo_Mo_split_21, List.forall_mem_cons.mpr ⟨oo_Mo_split_22, List.forall_mem_cons.mpr ⟨oo_Mo_split_23, List.forall_mem_cons.mpr ⟨oo_Mo_split_24, List.forall_mem_cons.mpr ⟨oo_Mo_split_25, List.forall_mem_nil _⟩⟩⟩⟩⟩⟩⟩⟩⟩⟩⟩⟩⟩⟩⟩⟩⟩⟩⟩⟩⟩⟩⟩⟩⟩⟩) (by decide +kernel) ⟨List.forall_mem_cons.mpr ⟨gf_Mo_41, List.forall_mem_cons.mpr ⟨gf_Mo_75, List.forall_mem_cons.mpr ⟨gf_Mo_78, List.forall_mem_cons.mpr ⟨gf_Mo_90, List.forall_mem_cons.mpr ⟨gf_Mo_612, List.forall_mem_cons.mpr ⟨gf_Mo_619, List.forall_mem_nil _⟩⟩⟩⟩⟩⟩, List.forall_mem_cons.mpr ⟨pf_Mo_612, List.forall_mem_nil _⟩, List.forall_mem_nil _, List.forall_mem_nil _, List.forall_mem_nil _, GG_pl⟩ (by decide +kernel)

set_option maxHeartbeats 4000000 in
theorem vc_Mo_styleSign_0_0 (x1 : Int) (x2 : Int) (x3 : Int) (x4 : Int) (fault_0 : Int) (tokenKind_0 : Int → Int) (cur_0 : Int) (k1 : 40 ≤ x1 ∧ x1 ≤ 125) (k2 : 0 ≤ x2 ∧ x2 ≤ 5) (k3 : 1 ≤ x3 ∧ x3 ≤ 5) (k4 : 0 ≤ x4 ∧ x4 ≤ 0) (f0 : x3 ≠ 0) (g1 : x3 = fault_0) (f2 : fault_0 = x2) (hK_0_160 : ∀ j : Int, 0 ≤ j → j < 2010 → 0 ≤ tokenKind_0 j ∧ tokenKind_0 j ≤ 4) (kz_0_8 : 0 ≤ fault_0 ∧ fault_0 ≤ 5) (kz_0_158 : 0 ≤ cur_0 ∧ cur_0 ≤ 2009) : (x4 = 1) → (tokenKind_0 (cur_0) = 3) := by
  first | assumption | (clear hK_0_160; omega) | omega | grind
set_option maxHeartbeats 4000000 in
theorem vc_Mo_styleSign_0_1 (x1 : Int) (x2 : Int) (x3 : Int) (x4 : Int) (fault_0 : Int) (tokenKind_0 : Int → Int) (cur_0 : Int) (tokenValue_0 : Int → Int) (k1 : 40 ≤ x1 ∧ x1 ≤ 125) (k2 : 0 ≤ x2 ∧ x2 ≤ 5) (k3 : 1 ≤ x3 ∧ x3 ≤ 5) (k4 : 0 ≤ x4 ∧ x4 ≤ 0) (f0 : x3 ≠ 0) (g1 : x3 = fault_0) (f2 : fault_0 = x2) (hK_0_160 : ∀ j : Int, 0 ≤ j → j < 2010 → 0 ≤ tokenKind_0 j ∧ tokenKind_0 j ≤ 4) (kz_0_8 : 0 ≤ fault_0 ∧ fault_0 ≤ 5) (kz_0_158 : 0 ≤ cur_0 ∧ cur_0 ≤ 2009) : SGN (cur_0) (tokenKind_0) (tokenValue_0) (x1) (x4) (x2) := by
  first
    | exact ⟨fun z => by omega, fun z => by have := z.1; omega⟩
    | (have e := (‹x5 = cur_0›)
       rw [← e]
       exact ⟨fun z => by omega, fun z => by have h1 := z.2.1; omega⟩)
    | (have e := (‹x5 = cur_0›)
       rw [← e]
       exact ⟨fun z => by omega, fun z => by have h2 := z.2.2; omega⟩)
    | (have e := (‹x5 = cur_0›)
       rw [← e]
       exact ⟨fun z => ⟨by omega, by omega, by omega⟩, fun z => by omega⟩)
  
def o_Mo_styleSign_0 : or_T := (40, 5, [(0, (2, 0, 0, [165])), (1, (0, 40, 125, [])), (2, (0, 0, 5, [])), (3, (0, 1, 5, [])), (4, (0, 0, 0, []))], [(8, [3], [1]), (9, [3, 0], [8]), (20, [0, 2], [50, 1, 0, 8, 1, 3, 2, 0, 8, 1, 1])], [], [], [(20, [4, 0], [50, 1, 1, 1158, 1160, 4, 6, 1, 2, 1, 0, 0, 1, 1, 6, 3, 1, 160, 2, 1, 158, 0, 3]), (20, [0, 1, 4, 2], [60, 1, 2, 14, 158, 160, 161])], [], [])
theorem oo_Mo_styleSign_0 {kA : Nat → ClassId} : or_ok PRD kA GG o_Mo_styleSign_0 := by
  refine or_mk fun A ta ws vs hD hth hl => ?_
  intro t0 r0 t1 k1 t2 k2 t3 k3 t4 k4 f0 f1 f2
  replace f1 := shm_293 f1
  have cr_0_160 := fdq_33 hD hth r0
  have g1 : v_iv (n_v vs 3) = w_fi ws (n_v vs 0) 8 := congrArg v_iv f1
  have hK_0_160 := elq_6 hD hth cr_0_160
  have kz_0_8 := fdq_34 hD hth r0
  have kz_0_158 := fdq_36 hD hth r0
  have nf0 : fc_1 PRD (20, [4, 0], [50, 1, 1, 1158, 1160, 4, 6, 1, 2, 1, 0, 0, 1, 1, 6, 3, 1, 160, 2, 1, 158, 0, 3]) ws (vs) := ⟨nf_in hl rfl, sgq_296 (vc_Mo_styleSign_0_0 (v_iv (n_v vs 1)) (v_iv (n_v vs 2)) (v_iv (n_v vs 3)) (v_iv (n_v vs 4)) (w_fi ws (n_v vs 0) 8) (w_ei ws (w_ar ws (n_v vs 0) 160)) (w_fi ws (n_v vs 0) 158) k1 k2 k3 k4 (shm_142 f0) g1 (shm_277 f2) hK_0_160 kz_0_8 kz_0_158)⟩
  have nf1 : fc_1 PRD (20, [0, 1, 4, 2], [60, 1, 2, 14, 158, 160, 161]) ws (vs) := ⟨nf_in hl rfl, sgq_297 (vc_Mo_styleSign_0_1 (v_iv (n_v vs 1)) (v_iv (n_v vs 2)) (v_iv (n_v vs 3)) (v_iv (n_v vs 4)) (w_fi ws (n_v vs 0) 8) (w_ei ws (w_ar ws (n_v vs 0) 160)) (w_fi ws (n_v vs 0) 158) (w_ei ws (w_ar ws (n_v vs 0) 161)) k1 k2 k3 k4 (shm_142 f0) g1 (shm_277 f2) hK_0_160 kz_0_8 kz_0_158)⟩
  refine ⟨(fun _ h => (by cases h)), [], trivial, ?_, (fun _ h => (by cases h))⟩
  rw [List.append_nil]
  exact List.forall_mem_cons.mpr ⟨⟨show (20 : Nat) < 100 from by decide, nf0⟩, List.forall_mem_cons.mpr ⟨⟨show (20 : Nat) < 100 from by decide, nf1⟩, (fun _ h => (by cases h))⟩⟩
set_option maxHeartbeats 4000000 in
theorem vc_Mo_styleSign_1_0 (x1 : Int) (x2 : Int) (x3 : Int) (x5 : Int) (x6 : Int) (x7 : Int) (x8 : Int) (tokenKind_0 : Int → Int) (cur_0 : Int) (fault_0 : Int) (k1 : 40 ≤ x1 ∧ x1 ≤ 125) (k2 : 0 ≤ x2 ∧ x2 ≤ 5) (k3 : 0 ≤ x3 ∧ x3 ≤ 0) (k5 : 0 ≤ x5 ∧ x5 ≤ 2009) (k6 : 0 ≤ x6 ∧ x6 ≤ 4) (k7 : 3 ≤ x7 ∧ x7 ≤ 3) (k8 : 0 ≤ x8 ∧ x8 ≤ 0) (f0 : x6 ≠ x7) (h1 : x6 = tokenKind_0 (x5)) (g2 : x5 = cur_0) (f4 : x3 = 0) (g5 : x3 = fault_0) (f6 : fault_0 = x2) (hK_0_160 : ∀ j : Int, 0 ≤ j → j < 2010 → 0 ≤ tokenKind_0 j ∧ tokenKind_0 j ≤ 4) (kz_0_8 : 0 ≤ fault_0 ∧ fault_0 ≤ 5) (kz_0_158 : 0 ≤ cur_0 ∧ cur_0 ≤ 2009) : (x8 = 1) → (tokenKind_0 (cur_0) = 3) := by
  first | assumption | (clear hK_0_160; omega) | omega | grind
set_option maxHeartbeats 4000000 in
theorem vc_Mo_styleSign_1_1 (x1 : Int) (x2 : Int) (x3 : Int) (x5 : Int) (x6 : Int) (x7 : Int) (x8 : Int) (tokenKind_0 : Int → Int) (cur_0 : Int) (fault_0 : Int) (tokenValue_0 : Int → Int) (k1 : 40 ≤ x1 ∧ x1 ≤ 125) (k2 : 0 ≤ x2 ∧ x2 ≤ 5) (k3 : 0 ≤ x3 ∧ x3 ≤ 0) (k5 : 0 ≤ x5 ∧ x5 ≤ 2009) (k6 : 0 ≤ x6 ∧ x6 ≤ 4) (k7 : 3 ≤ x7 ∧ x7 ≤ 3) (k8 : 0 ≤ x8 ∧ x8 ≤ 0) (f0 : x6 ≠ x7) (h1 : x6 = tokenKind_0 (x5)) (g2 : x5 = cur_0) (f4 : x3 = 0) (g5 : x3 = fault_0) (f6 : fault_0 = x2) (hK_0_160 : ∀ j : Int, 0 ≤ j → j < 2010 → 0 ≤ tokenKind_0 j ∧ tokenKind_0 j ≤ 4) (kz_0_8 : 0 ≤ fault_0 ∧ fault_0 ≤ 5) (kz_0_158 : 0 ≤ cur_0 ∧ cur_0 ≤ 2009) : SGN (cur_0) (tokenKind_0) (tokenValue_0) (x1) (x8) (x2) := by
  first
    | exact ⟨fun z => by omega, fun z => by have := z.1; omega⟩
    | (have e := (‹x5 = cur_0›)
       rw [← e]
       exact ⟨fun z => by omega, fun z => by have h1 := z.2.1; omega⟩)
    | (have e := (‹x5 = cur_0›)
       rw [← e]
       exact ⟨fun z => by omega, fun z => by have h2 := z.2.2; omega⟩)
    | (have e := (‹x5 = cur_0›)
       rw [← e]
       exact ⟨fun z => ⟨by omega, by omega, by omega⟩, fun z => by omega⟩)
  
def o_Mo_styleSign_1 : or_T := (40, 9, [(0, (2, 0, 0, [165])), (1, (0, 40, 125, [])), (2, (0, 0, 5, [])), (3, (0, 0, 0, [])), (5, (0, 0, 2009, [])), (6, (0, 0, 4, [])), (7, (0, 3, 3, [])), (8, (0, 0, 0, []))], [(7, [6, 7], [1]), (10, [6, 4, 5], []), (9, [5, 0], [158]), (9, [4, 0], [160]), (8, [3], [0]), (9, [3, 0], [8]), (20, [0, 2], [50, 1, 0, 8, 1, 3, 2, 0, 8, 1, 1])], [], [], [(20, [8, 0], [50, 1, 1, 1158, 1160, 4, 6, 1, 2, 1, 0, 0, 1, 1, 6, 3, 1, 160, 2, 1, 158, 0, 3]), (20, [0, 1, 8, 2], [60, 1, 2, 14, 158, 160, 161])], [], [])
theorem oo_Mo_styleSign_1 {kA : Nat → ClassId} : or_ok PRD kA GG o_Mo_styleSign_1 := by
  refine or_mk fun A ta ws vs hD hth hl => ?_
  intro t0 r0 t1 k1 t2 k2 t3 k3 t5 k5 t6 k6 t7 k7 t8 k8 f0 f1 f2 f3 f4 f5 f6
  replace f1 := shm_107 f1
  replace f2 := shm_286 f2
  replace f3 := shm_327 f3
  replace f5 := shm_293 f5
  have cr_0_160 := fdq_33 hD hth r0
  have ad_4 : v_ad (n_v vs 4) = w_ar ws (n_v vs 0) 160 := congrArg v_ad f3
  simp only [ad_4] at f1
  have h1 : v_iv (n_v vs 6) = w_ei ws (w_ar ws (n_v vs 0) 160) (v_iv (n_v vs 5)) := f1
  have g2 : v_iv (n_v vs 5) = w_fi ws (n_v vs 0) 158 := congrArg v_iv f2
  have g5 : v_iv (n_v vs 3) = w_fi ws (n_v vs 0) 8 := congrArg v_iv f5
  have hK_0_160 := elq_6 hD hth cr_0_160
  have kz_0_8 := fdq_34 hD hth r0
  have kz_0_158 := fdq_36 hD hth r0
  have nf0 : fc_1 PRD (20, [8, 0], [50, 1, 1, 1158, 1160, 4, 6, 1, 2, 1, 0, 0, 1, 1, 6, 3, 1, 160, 2, 1, 158, 0, 3]) ws (vs) := ⟨nf_in hl rfl, sgq_296 (vc_Mo_styleSign_1_0 (v_iv (n_v vs 1)) (v_iv (n_v vs 2)) (v_iv (n_v vs 3)) (v_iv (n_v vs 5)) (v_iv (n_v vs 6)) (v_iv (n_v vs 7)) (v_iv (n_v vs 8)) (w_ei ws (w_ar ws (n_v vs 0) 160)) (w_fi ws (n_v vs 0) 158) (w_fi ws (n_v vs 0) 8) k1 k2 k3 k5 k6 k7 k8 (shm_40 f0) h1 g2 (shm_192 f4) g5 (shm_277 f6) hK_0_160 kz_0_8 kz_0_158)⟩
  have nf1 : fc_1 PRD (20, [0, 1, 8, 2], [60, 1, 2, 14, 158, 160, 161]) ws (vs) := ⟨nf_in hl rfl, sgq_297 (vc_Mo_styleSign_1_1 (v_iv (n_v vs 1)) (v_iv (n_v vs 2)) (v_iv (n_v vs 3)) (v_iv (n_v vs 5)) (v_iv (n_v vs 6)) (v_iv (n_v vs 7)) (v_iv (n_v vs 8)) (w_ei ws (w_ar ws (n_v vs 0) 160)) (w_fi ws (n_v vs 0) 158) (w_fi ws (n_v vs 0) 8) (w_ei ws (w_ar ws (n_v vs 0) 161)) k1 k2 k3 k5 k6 k7 k8 (shm_40 f0) h1 g2 (shm_192 f4) g5 (shm_277 f6) hK_0_160 kz_0_8 kz_0_158)⟩
  refine ⟨(fun _ h => (by cases h)), [], trivial, ?_, (fun _ h => (by cases h))⟩
  rw [List.append_nil]
  exact List.forall_mem_cons.mpr ⟨⟨show (20 : Nat) < 100 from by decide, nf0⟩, List.forall_mem_cons.mpr ⟨⟨show (20 : Nat) < 100 from by decide, nf1⟩, (fun _ h => (by cases h))⟩⟩
set_option maxHeartbeats 4000000 in
theorem vc_Mo_styleSign_2_0 (x1 : Int) (x2 : Int) (x3 : Int) (x5 : Int) (x6 : Int) (x7 : Int) (x9 : Int) (x10 : Int) (x11 : Int) (tokenValue_0 : Int → Int) (cur_0 : Int) (tokenKind_0 : Int → Int) (fault_0 : Int) (k1 : 40 ≤ x1 ∧ x1 ≤ 125) (k2 : 0 ≤ x2 ∧ x2 ≤ 5) (k3 : 0 ≤ x3 ∧ x3 ≤ 0) (k5 : 0 ≤ x5 ∧ x5 ≤ 2009) (k6 : 3 ≤ x6 ∧ x6 ≤ 3) (k7 : 3 ≤ x7 ∧ x7 ≤ 3) (k9 : (-9223372036854775808) ≤ x9 ∧ x9 ≤ 9223372036854775807) (k10 : 40 ≤ x10 ∧ x10 ≤ 125) (k11 : 0 ≤ x11 ∧ x11 ≤ 0) (f0 : x9 ≠ x10) (f1 : x10 = x1) (h2 : x9 = tokenValue_0 (x5)) (g3 : x5 = cur_0) (f5 : x6 = x7) (h6 : x6 = tokenKind_0 (x5)) (f8 : x3 = 0) (g9 : x3 = fault_0) (f10 : fault_0 = x2) (hK_0_160 : ∀ j : Int, 0 ≤ j → j < 2010 → 0 ≤ tokenKind_0 j ∧ tokenKind_0 j ≤ 4) (kz_0_8 : 0 ≤ fault_0 ∧ fault_0 ≤ 5) (kz_0_158 : 0 ≤ cur_0 ∧ cur_0 ≤ 2009) : (x11 = 1) → (tokenKind_0 (cur_0) = 3) := by
  first | assumption | (clear hK_0_160; omega) | omega | grind
set_option maxHeartbeats 4000000 in
theorem vc_Mo_styleSign_2_1 (x1 : Int) (x2 : Int) (x3 : Int) (x5 : Int) (x6 : Int) (x7 : Int) (x9 : Int) (x10 : Int) (x11 : Int) (tokenValue_0 : Int → Int) (cur_0 : Int) (tokenKind_0 : Int → Int) (fault_0 : Int) (k1 : 40 ≤ x1 ∧ x1 ≤ 125) (k2 : 0 ≤ x2 ∧ x2 ≤ 5) (k3 : 0 ≤ x3 ∧ x3 ≤ 0) (k5 : 0 ≤ x5 ∧ x5 ≤ 2009) (k6 : 3 ≤ x6 ∧ x6 ≤ 3) (k7 : 3 ≤ x7 ∧ x7 ≤ 3) (k9 : (-9223372036854775808) ≤ x9 ∧ x9 ≤ 9223372036854775807) (k10 : 40 ≤ x10 ∧ x10 ≤ 125) (k11 : 0 ≤ x11 ∧ x11 ≤ 0) (f0 : x9 ≠ x10) (f1 : x10 = x1) (h2 : x9 = tokenValue_0 (x5)) (g3 : x5 = cur_0) (f5 : x6 = x7) (h6 : x6 = tokenKind_0 (x5)) (f8 : x3 = 0) (g9 : x3 = fault_0) (f10 : fault_0 = x2) (hK_0_160 : ∀ j : Int, 0 ≤ j → j < 2010 → 0 ≤ tokenKind_0 j ∧ tokenKind_0 j ≤ 4) (kz_0_8 : 0 ≤ fault_0 ∧ fault_0 ≤ 5) (kz_0_158 : 0 ≤ cur_0 ∧ cur_0 ≤ 2009) : SGN (cur_0) (tokenKind_0) (tokenValue_0) (x1) (x11) (x2) := by
  first
    | exact ⟨fun z => by omega, fun z => by have := z.1; omega⟩
    | (have e := (‹x5 = cur_0›)
       rw [← e]
       exact ⟨fun z => by omega, fun z => by have h1 := z.2.1; omega⟩)
    | (have e := (‹x5 = cur_0›)
       rw [← e]
       exact ⟨fun z => by omega, fun z => by have h2 := z.2.2; omega⟩)
    | (have e := (‹x5 = cur_0›)
       rw [← e]
       exact ⟨fun z => ⟨by omega, by omega, by omega⟩, fun z => by omega⟩)
  
def o_Mo_styleSign_2 : or_T := (40, 12, [(0, (2, 0, 0, [165])), (1, (0, 40, 125, [])), (2, (0, 0, 5, [])), (3, (0, 0, 0, [])), (4, (2, 0, 0, [274])), (5, (0, 0, 2009, [])), (6, (0, 3, 3, [])), (7, (0, 3, 3, [])), (8, (2, 0, 0, [275])), (9, (1, -9223372036854775808, 9223372036854775807, [])), (10, (1, 40, 125, [])), (11, (0, 0, 0, []))], [(7, [9, 10], [1]), (22, [10, 1], []), (10, [9, 8, 5], []), (9, [5, 0], [158]), (9, [8, 0], [161]), (7, [6, 7], [0]), (10, [6, 4, 5], []), (9, [4, 0], [160]), (8, [3], [0]), (9, [3, 0], [8]), (20, [0, 2], [50, 1, 0, 8, 1, 3, 2, 0, 8, 1, 1])], [], [], [(20, [11, 0], [50, 1, 1, 1158, 1160, 4, 6, 1, 2, 1, 0, 0, 1, 1, 6, 3, 1, 160, 2, 1, 158, 0, 3]), (20, [0, 1, 11, 2], [60, 1, 2, 14, 158, 160, 161])], [], [])
theorem oo_Mo_styleSign_2 {kA : Nat → ClassId} : or_ok PRD kA GG o_Mo_styleSign_2 := by
  refine or_mk fun A ta ws vs hD hth hl => ?_
  intro t0 r0 t1 k1 t2 k2 t3 k3 t4 r4 t5 k5 t6 k6 t7 k7 t8 r8 t9 k9 t10 k10 t11 k11 f0 f1 f2 f3 f4 f5 f6 f7 f8 f9 f10
  replace f2 := shm_107 f2
  replace f3 := shm_286 f3
  replace f4 := shm_336 f4
  replace f6 := shm_107 f6
  replace f7 := shm_327 f7
  replace f9 := shm_293 f9
  have cr_0_160 := fdq_33 hD hth r0
  have ad_8 : v_ad (n_v vs 8) = w_ar ws (n_v vs 0) 161 := congrArg v_ad f4
  have ad_4 : v_ad (n_v vs 4) = w_ar ws (n_v vs 0) 160 := congrArg v_ad f7
  simp only [ad_8] at f2
  have h2 : v_iv (n_v vs 9) = w_ei ws (w_ar ws (n_v vs 0) 161) (v_iv (n_v vs 5)) := f2
  have g3 : v_iv (n_v vs 5) = w_fi ws (n_v vs 0) 158 := congrArg v_iv f3
  simp only [ad_4] at f6
  have h6 : v_iv (n_v vs 6) = w_ei ws (w_ar ws (n_v vs 0) 160) (v_iv (n_v vs 5)) := f6
  have g9 : v_iv (n_v vs 3) = w_fi ws (n_v vs 0) 8 := congrArg v_iv f9
  have hK_0_160 := elq_6 hD hth cr_0_160
  have kz_0_8 := fdq_34 hD hth r0
  have kz_0_158 := fdq_36 hD hth r0
  have nf0 : fc_1 PRD (20, [11, 0], [50, 1, 1, 1158, 1160, 4, 6, 1, 2, 1, 0, 0, 1, 1, 6, 3, 1, 160, 2, 1, 158, 0, 3]) ws (vs) := ⟨nf_in hl rfl, sgq_296 (vc_Mo_styleSign_2_0 (v_iv (n_v vs 1)) (v_iv (n_v vs 2)) (v_iv (n_v vs 3)) (v_iv (n_v vs 5)) (v_iv (n_v vs 6)) (v_iv (n_v vs 7)) (v_iv (n_v vs 9)) (v_iv (n_v vs 10)) (v_iv (n_v vs 11)) (w_ei ws (w_ar ws (n_v vs 0) 161)) (w_fi ws (n_v vs 0) 158) (w_ei ws (w_ar ws (n_v vs 0) 160)) (w_fi ws (n_v vs 0) 8) k1 k2 k3 k5 k6 k7 k9 k10 k11 (shm_40 f0) (shm_47 f1) h2 g3 (shm_37 f5) h6 (shm_192 f8) g9 (shm_277 f10) hK_0_160 kz_0_8 kz_0_158)⟩
  have nf1 : fc_1 PRD (20, [0, 1, 11, 2], [60, 1, 2, 14, 158, 160, 161]) ws (vs) := ⟨nf_in hl rfl, sgq_297 (vc_Mo_styleSign_2_1 (v_iv (n_v vs 1)) (v_iv (n_v vs 2)) (v_iv (n_v vs 3)) (v_iv (n_v vs 5)) (v_iv (n_v vs 6)) (v_iv (n_v vs 7)) (v_iv (n_v vs 9)) (v_iv (n_v vs 10)) (v_iv (n_v vs 11)) (w_ei ws (w_ar ws (n_v vs 0) 161)) (w_fi ws (n_v vs 0) 158) (w_ei ws (w_ar ws (n_v vs 0) 160)) (w_fi ws (n_v vs 0) 8) k1 k2 k3 k5 k6 k7 k9 k10 k11 (shm_40 f0) (shm_47 f1) h2 g3 (shm_37 f5) h6 (shm_192 f8) g9 (shm_277 f10) hK_0_160 kz_0_8 kz_0_158)⟩
  refine ⟨(fun _ h => (by cases h)), [], trivial, ?_, (fun _ h => (by cases h))⟩
  rw [List.append_nil]
  exact List.forall_mem_cons.mpr ⟨⟨show (20 : Nat) < 100 from by decide, nf0⟩, List.forall_mem_cons.mpr ⟨⟨show (20 : Nat) < 100 from by decide, nf1⟩, (fun _ h => (by cases h))⟩⟩
set_option maxHeartbeats 4000000 in
theorem vc_Mo_styleSign_3_0 (x1 : Int) (x2 : Int) (x3 : Int) (x5 : Int) (x6 : Int) (x7 : Int) (x9 : Int) (x10 : Int) (x11 : Int) (tokenValue_0 : Int → Int) (cur_0 : Int) (tokenKind_0 : Int → Int) (fault_0 : Int) (k1 : 40 ≤ x1 ∧ x1 ≤ 125) (k2 : 0 ≤ x2 ∧ x2 ≤ 5) (k3 : 0 ≤ x3 ∧ x3 ≤ 0) (k5 : 0 ≤ x5 ∧ x5 ≤ 2009) (k6 : 3 ≤ x6 ∧ x6 ≤ 3) (k7 : 3 ≤ x7 ∧ x7 ≤ 3) (k9 : 40 ≤ x9 ∧ x9 ≤ 125) (k10 : 40 ≤ x10 ∧ x10 ≤ 125) (k11 : 1 ≤ x11 ∧ x11 ≤ 1) (f0 : x9 = x10) (f1 : x10 = x1) (h2 : x9 = tokenValue_0 (x5)) (g3 : x5 = cur_0) (f5 : x6 = x7) (h6 : x6 = tokenKind_0 (x5)) (f8 : x3 = 0) (g9 : x3 = fault_0) (f10 : fault_0 = x2) (hK_0_160 : ∀ j : Int, 0 ≤ j → j < 2010 → 0 ≤ tokenKind_0 j ∧ tokenKind_0 j ≤ 4) (kz_0_8 : 0 ≤ fault_0 ∧ fault_0 ≤ 5) (kz_0_158 : 0 ≤ cur_0 ∧ cur_0 ≤ 2009) : (x11 = 1) → (tokenKind_0 (cur_0) = 3) := by
  first | assumption | (clear hK_0_160; omega) | omega | grind
set_option maxHeartbeats 4000000 in
theorem vc_Mo_styleSign_3_1 (x1 : Int) (x2 : Int) (x3 : Int) (x5 : Int) (x6 : Int) (x7 : Int) (x9 : Int) (x10 : Int) (x11 : Int) (tokenValue_0 : Int → Int) (cur_0 : Int) (tokenKind_0 : Int → Int) (fault_0 : Int) (k1 : 40 ≤ x1 ∧ x1 ≤ 125) (k2 : 0 ≤ x2 ∧ x2 ≤ 5) (k3 : 0 ≤ x3 ∧ x3 ≤ 0) (k5 : 0 ≤ x5 ∧ x5 ≤ 2009) (k6 : 3 ≤ x6 ∧ x6 ≤ 3) (k7 : 3 ≤ x7 ∧ x7 ≤ 3) (k9 : 40 ≤ x9 ∧ x9 ≤ 125) (k10 : 40 ≤ x10 ∧ x10 ≤ 125) (k11 : 1 ≤ x11 ∧ x11 ≤ 1) (f0 : x9 = x10) (f1 : x10 = x1) (h2 : x9 = tokenValue_0 (x5)) (g3 : x5 = cur_0) (f5 : x6 = x7) (h6 : x6 = tokenKind_0 (x5)) (f8 : x3 = 0) (g9 : x3 = fault_0) (f10 : fault_0 = x2) (hK_0_160 : ∀ j : Int, 0 ≤ j → j < 2010 → 0 ≤ tokenKind_0 j ∧ tokenKind_0 j ≤ 4) (kz_0_8 : 0 ≤ fault_0 ∧ fault_0 ≤ 5) (kz_0_158 : 0 ≤ cur_0 ∧ cur_0 ≤ 2009) : SGN (cur_0) (tokenKind_0) (tokenValue_0) (x1) (x11) (x2) := by
  first
    | exact ⟨fun z => by omega, fun z => by have := z.1; omega⟩
    | (have e := (‹x5 = cur_0›)
       rw [← e]
       exact ⟨fun z => by omega, fun z => by have h1 := z.2.1; omega⟩)
    | (have e := (‹x5 = cur_0›)
       rw [← e]
       exact ⟨fun z => by omega, fun z => by have h2 := z.2.2; omega⟩)
    | (have e := (‹x5 = cur_0›)
       rw [← e]
       exact ⟨fun z => ⟨by omega, by omega, by omega⟩, fun z => by omega⟩)
  
def o_Mo_styleSign_3 : or_T := (40, 12, [(0, (2, 0, 0, [165])), (1, (0, 40, 125, [])), (2, (0, 0, 5, [])), (3, (0, 0, 0, [])), (4, (2, 0, 0, [274])), (5, (0, 0, 2009, [])), (6, (0, 3, 3, [])), (7, (0, 3, 3, [])), (8, (2, 0, 0, [275])), (9, (1, 40, 125, [])), (10, (1, 40, 125, [])), (11, (0, 1, 1, []))], [(7, [9, 10], [0]), (22, [10, 1], []), (10, [9, 8, 5], []), (9, [5, 0], [158]), (9, [8, 0], [161]), (7, [6, 7], [0]), (10, [6, 4, 5], []), (9, [4, 0], [160]), (8, [3], [0]), (9, [3, 0], [8]), (20, [0, 2], [50, 1, 0, 8, 1, 3, 2, 0, 8, 1, 1])], [], [], [(20, [11, 0], [50, 1, 1, 1158, 1160, 4, 6, 1, 2, 1, 0, 0, 1, 1, 6, 3, 1, 160, 2, 1, 158, 0, 3]), (20, [0, 1, 11, 2], [60, 1, 2, 14, 158, 160, 161])], [], [])
theorem oo_Mo_styleSign_3 {kA : Nat → ClassId} : or_ok PRD kA GG o_Mo_styleSign_3 := by
  refine or_mk fun A ta ws vs hD hth hl => ?_
  intro t0 r0 t1 k1 t2 k2 t3 k3 t4 r4 t5 k5 t6 k6 t7 k7 t8 r8 t9 k9 t10 k10 t11 k11 f0 f1 f2 f3 f4 f5 f6 f7 f8 f9 f10
  replace f2 := shm_107 f2
  replace f3 := shm_286 f3
  replace f4 := shm_336 f4
  replace f6 := shm_107 f6
  replace f7 := shm_327 f7
  replace f9 := shm_293 f9
  have cr_0_160 := fdq_33 hD hth r0
  have ad_8 : v_ad (n_v vs 8) = w_ar ws (n_v vs 0) 161 := congrArg v_ad f4
  have ad_4 : v_ad (n_v vs 4) = w_ar ws (n_v vs 0) 160 := congrArg v_ad f7
  simp only [ad_8] at f2
  have h2 : v_iv (n_v vs 9) = w_ei ws (w_ar ws (n_v vs 0) 161) (v_iv (n_v vs 5)) := f2
  have g3 : v_iv (n_v vs 5) = w_fi ws (n_v vs 0) 158 := congrArg v_iv f3
  simp only [ad_4] at f6
  have h6 : v_iv (n_v vs 6) = w_ei ws (w_ar ws (n_v vs 0) 160) (v_iv (n_v vs 5)) := f6
  have g9 : v_iv (n_v vs 3) = w_fi ws (n_v vs 0) 8 := congrArg v_iv f9
  have hK_0_160 := elq_6 hD hth cr_0_160
  have kz_0_8 := fdq_34 hD hth r0
  have kz_0_158 := fdq_36 hD hth r0
  have nf0 : fc_1 PRD (20, [11, 0], [50, 1, 1, 1158, 1160, 4, 6, 1, 2, 1, 0, 0, 1, 1, 6, 3, 1, 160, 2, 1, 158, 0, 3]) ws (vs) := ⟨nf_in hl rfl, sgq_296 (vc_Mo_styleSign_3_0 (v_iv (n_v vs 1)) (v_iv (n_v vs 2)) (v_iv (n_v vs 3)) (v_iv (n_v vs 5)) (v_iv (n_v vs 6)) (v_iv (n_v vs 7)) (v_iv (n_v vs 9)) (v_iv (n_v vs 10)) (v_iv (n_v vs 11)) (w_ei ws (w_ar ws (n_v vs 0) 161)) (w_fi ws (n_v vs 0) 158) (w_ei ws (w_ar ws (n_v vs 0) 160)) (w_fi ws (n_v vs 0) 8) k1 k2 k3 k5 k6 k7 k9 k10 k11 (shm_37 f0) (shm_47 f1) h2 g3 (shm_37 f5) h6 (shm_192 f8) g9 (shm_277 f10) hK_0_160 kz_0_8 kz_0_158)⟩
  have nf1 : fc_1 PRD (20, [0, 1, 11, 2], [60, 1, 2, 14, 158, 160, 161]) ws (vs) := ⟨nf_in hl rfl, sgq_297 (vc_Mo_styleSign_3_1 (v_iv (n_v vs 1)) (v_iv (n_v vs 2)) (v_iv (n_v vs 3)) (v_iv (n_v vs 5)) (v_iv (n_v vs 6)) (v_iv (n_v vs 7)) (v_iv (n_v vs 9)) (v_iv (n_v vs 10)) (v_iv (n_v vs 11)) (w_ei ws (w_ar ws (n_v vs 0) 161)) (w_fi ws (n_v vs 0) 158) (w_ei ws (w_ar ws (n_v vs 0) 160)) (w_fi ws (n_v vs 0) 8) k1 k2 k3 k5 k6 k7 k9 k10 k11 (shm_37 f0) (shm_47 f1) h2 g3 (shm_37 f5) h6 (shm_192 f8) g9 (shm_277 f10) hK_0_160 kz_0_8 kz_0_158)⟩
  refine ⟨(fun _ h => (by cases h)), [], trivial, ?_, (fun _ h => (by cases h))⟩
  rw [List.append_nil]
  exact List.forall_mem_cons.mpr ⟨⟨show (20 : Nat) < 100 from by decide, nf0⟩, List.forall_mem_cons.mpr ⟨⟨show (20 : Nat) < 100 from by decide, nf1⟩, (fun _ h => (by cases h))⟩⟩
def n_Mo_styleSign_an : List an_T := []
def t_Mo_styleSign_ct : ct_L := []
set_option maxRecDepth 100000 in
theorem c_Mo_styleSign {l : Launch} {D : va_G} {kA : Nat → ClassId} : ct_ok PRD l D kA GG y_Mo_styleSign z_Mo_styleSign e_Mo_styleSign := chk_all_ok (FT := [(342, 13, 160), (345, 13, 161), (413, 13, 8), (1169, 13, 158)]) (PT := []) (CT := t_Mo_styleSign_ct) (KT := []) (NT := []) (AN := n_Mo_styleSign_an) (OT := [o_Mo_styleSign_0, o_Mo_styleSign_1, o_Mo_styleSign_2, o_Mo_styleSign_3]) 0 200 (List.forall_mem_cons.mpr ⟨oo_Mo_styleSign_0, List.forall_mem_cons.mpr ⟨oo_Mo_styleSign_1, List.forall_mem_cons.mpr ⟨oo_Mo_styleSign_2, List.forall_mem_cons.mpr ⟨oo_Mo_styleSign_3, List.forall_mem_nil _⟩⟩⟩⟩) (by decide +kernel) ⟨List.forall_mem_cons.mpr ⟨gf_Mo_342, List.forall_mem_cons.mpr ⟨gf_Mo_345, List.forall_mem_cons.mpr ⟨gf_Mo_413, List.forall_mem_cons.mpr ⟨gf_Mo_1169, List.forall_mem_nil _⟩⟩⟩⟩, List.forall_mem_nil _, List.forall_mem_nil _, List.forall_mem_nil _, List.forall_mem_nil _, GG_pl⟩ (by decide +kernel)
set_option maxHeartbeats 4000000 in
theorem vc_Mo_tail_0_0 (x1 : Int) (x3 : Int) (x4 : Int) (x5 : Int) (x6 : Int) (x7 : Int) (all_0 : Int → Int) (r_0 : Int) (k1 : 0 ≤ x1 ∧ x1 ≤ 47) (k3 : 0 ≤ x3 ∧ x3 ≤ 66297) (k4 : 267 ≤ x4 ∧ x4 ≤ 267) (k5 : 267 ≤ x5 ∧ x5 ≤ 66564) (k6 : 267 ≤ x6 ∧ x6 ≤ 66611) (k7 : 0 ≤ x7 ∧ x7 ≤ 23) (d0 : x1 + 267 ≤ x6 ∧ x6 ≤ x1 + 66564) (d1 : x5 + 0 ≤ x6 ∧ x6 ≤ x5 + 47) (d2 : x3 + 267 ≤ x6 ∧ x6 ≤ x3 + 314) (d3 : x3 + 267 ≤ x5 ∧ x5 ≤ x3 + 267) (h0 : x7 = all_0 (x6)) (f1 : x6 = x5 + x1) (f2 : x5 = x3 + x4) (g3 : x3 = r_0) : x7 = all_0 (((r_0 + 267) + x1)) := by
  first | assumption | omega | grind
def o_Mo_tail_0 : or_T := (15, 8, [(1, (0, 0, 47, [])), (3, (0, 0, 66297, [])), (4, (0, 267, 267, [])), (5, (0, 267, 66564, [])), (6, (0, 267, 66611, [])), (7, (0, 0, 23, []))], [(10, [7, 2, 6], []), (1, [6, 5, 1], []), (1, [5, 3, 4], []), (9, [3, 0], [5]), (9, [2, 0], [2])], [], [], [(20, [7, 0, 1], [50, 1, 1, 1005, 1002, 1, 2, 1, 0, 3, 1, 2, 4, 7, 4, 3, 2, 1, 5, 0, 267, 1, 2])], [], [(6, 1, 267, 66564), (6, 5, 0, 47), (6, 3, 267, 314), (5, 3, 267, 267)])
theorem oo_Mo_tail_0 {kA : Nat → ClassId} : or_ok PRD kA GG o_Mo_tail_0 := by
  refine or_mk fun A ta ws vs hD hth hl => ?_
  intro t1 k1 t3 k3 t4 k4 t5 k5 t6 k6 t7 k7 d0 d1 d2 d3 f0 f1 f2 f3 f4
  replace f0 := shm_107 f0
  replace f3 := shm_110 f3
  replace f4 := shm_120 f4
  have ad_2 : v_ad (n_v vs 2) = w_ar ws (n_v vs 0) 2 := congrArg v_ad f4
  simp only [ad_2] at f0
  have h0 : v_iv (n_v vs 7) = w_ei ws (w_ar ws (n_v vs 0) 2) (v_iv (n_v vs 6)) := f0
  have g3 : v_iv (n_v vs 3) = w_fi ws (n_v vs 0) 5 := congrArg v_iv f3
  have nf0 : fc_1 PRD (20, [7, 0, 1], [50, 1, 1, 1005, 1002, 1, 2, 1, 0, 3, 1, 2, 4, 7, 4, 3, 2, 1, 5, 0, 267, 1, 2]) ws (vs) := ⟨nf_in hl rfl, sgq_749 (vc_Mo_tail_0_0 (v_iv (n_v vs 1)) (v_iv (n_v vs 3)) (v_iv (n_v vs 4)) (v_iv (n_v vs 5)) (v_iv (n_v vs 6)) (v_iv (n_v vs 7)) (w_ei ws (w_ar ws (n_v vs 0) 2)) (w_fi ws (n_v vs 0) 5) k1 k3 k4 k5 k6 k7 d0 d1 d2 d3 h0 (shm_12 f1) (shm_12 f2) g3)⟩
  refine ⟨(fun _ h => (by cases h)), [], trivial, ?_, (fun _ h => (by cases h))⟩
  rw [List.append_nil]
  exact List.forall_mem_cons.mpr ⟨⟨show (20 : Nat) < 100 from by decide, nf0⟩, (fun _ h => (by cases h))⟩
def n_Mo_tail_an : List an_T := []
def t_Mo_tail_ct : ct_L := []
set_option maxRecDepth 100000 in
theorem c_Mo_tail {l : Launch} {D : va_G} {kA : Nat → ClassId} : ct_ok PRD l D kA GG y_Mo_tail z_Mo_tail e_Mo_tail := chk_all_ok (FT := [(16, 13, 2), (391, 13, 5)]) (PT := []) (CT := t_Mo_tail_ct) (KT := []) (NT := []) (AN := n_Mo_tail_an) (OT := [o_Mo_tail_0]) 0 200 (List.forall_mem_cons.mpr ⟨oo_Mo_tail_0, List.forall_mem_nil _⟩) (by decide +kernel) ⟨List.forall_mem_cons.mpr ⟨gf_Mo_16, List.forall_mem_cons.mpr ⟨gf_Mo_391, List.forall_mem_nil _⟩⟩, List.forall_mem_nil _, List.forall_mem_nil _, List.forall_mem_nil _, List.forall_mem_nil _, GG_pl⟩ (by decide +kernel)
set_option maxHeartbeats 4000000 in
theorem vc_Mo_toOf_0_0 (x1 : Int) (x2 : Int) (x3 : Int) (x5 : Int) (x6 : Int) (x7 : Int) (pt_0 : Int → Int) (ph_0 : Int → Int) (k1 : 0 ≤ x1 ∧ x1 ≤ 159) (k2 : 1 ≤ x2 ∧ x2 ≤ 1) (k3 : 1 ≤ x3 ∧ x3 ≤ 1) (k5 : 1 ≤ x5 ∧ x5 ≤ 1) (k6 : 0 ≤ x6 ∧ x6 ≤ 79) (k7 : 0 ≤ x7 ∧ x7 ≤ 24) (h0 : x7 = pt_0 (x6)) (f1 : x6 = x1 / 2) (f2 : bvp (x6) = bvp (x1) >>> (x5).toNat) (f4 : x3 ≠ 0) (f5 : x3 = x1 % 2) (f6 : bvp (x3) = bvp (x1) &&& bvp (x2)) (hK_0_33 : ∀ j : Int, 0 ≤ j → j < 80 → 0 ≤ pt_0 j ∧ pt_0 j ≤ 24) (hK_0_34 : ∀ j : Int, 0 ≤ j → j < 80 → 0 ≤ ph_0 j ∧ ph_0 j ≤ 24) : DTO (pt_0) (ph_0) (x1) (x7) := by
  first
    | (unfold DTO dto; rw [if_pos (by omega), show x1 / 2 = x6 by omega]; omega)
    | (unfold DTO dto; rw [if_neg (by omega), show x1 / 2 = x6 by omega]; omega)
def o_Mo_toOf_0 : or_T := (25, 8, [(0, (2, 0, 0, [165])), (1, (0, 0, 159, [])), (2, (0, 1, 1, [])), (3, (0, 1, 1, [])), (4, (2, 0, 0, [180])), (5, (0, 1, 1, [])), (6, (0, 0, 79, [])), (7, (0, 0, 24, []))], [(10, [7, 4, 6], []), (11, [6, 1], [2]), (16, [6, 1, 5], [4]), (9, [4, 0], [33]), (8, [3], [1]), (12, [3, 1], [2]), (16, [3, 1, 2], [0])], [], [], [(20, [0, 1, 7], [60, 0, 2, 186, 33, 34])], [], [])
theorem oo_Mo_toOf_0 {kA : Nat → ClassId} : or_ok PRD kA GG o_Mo_toOf_0 := by
  refine or_mk fun A ta ws vs hD hth hl => ?_
  intro t0 r0 t1 k1 t2 k2 t3 k3 t4 r4 t5 k5 t6 k6 t7 k7 f0 f1 f2 f3 f4 f5 f6
  replace f0 := shm_107 f0
  replace f3 := shm_494 f3
  have cr_0_33 := fdq_117 hD hth r0
  have cr_0_34 := fdq_118 hD hth r0
  have ad_4 : v_ad (n_v vs 4) = w_ar ws (n_v vs 0) 33 := congrArg v_ad f3
  simp only [ad_4] at f0
  have h0 : v_iv (n_v vs 7) = w_ei ws (w_ar ws (n_v vs 0) 33) (v_iv (n_v vs 6)) := f0
  have hK_0_33 := elq_60 hD hth cr_0_33
  have hK_0_34 := elq_61 hD hth cr_0_34
  have nf0 : fc_1 PRD (20, [0, 1, 7], [60, 0, 2, 186, 33, 34]) ws (vs) := ⟨nf_in hl rfl, sgq_750 (vc_Mo_toOf_0_0 (v_iv (n_v vs 1)) (v_iv (n_v vs 2)) (v_iv (n_v vs 3)) (v_iv (n_v vs 5)) (v_iv (n_v vs 6)) (v_iv (n_v vs 7)) (w_ei ws (w_ar ws (n_v vs 0) 33)) (w_ei ws (w_ar ws (n_v vs 0) 34)) k1 k2 k3 k5 k6 k7 h0 (shm_585 f1) (shm_13 f2) (shm_142 f4) (shm_364 f5) (shm_11 f6) hK_0_33 hK_0_34)⟩
  refine ⟨(fun _ h => (by cases h)), [], trivial, ?_, (fun _ h => (by cases h))⟩
  rw [List.append_nil]
  exact List.forall_mem_cons.mpr ⟨⟨show (20 : Nat) < 100 from by decide, nf0⟩, (fun _ h => (by cases h))⟩
set_option maxHeartbeats 4000000 in
theorem vc_Mo_toOf_1_0 (x1 : Int) (x2 : Int) (x3 : Int) (x5 : Int) (x6 : Int) (x7 : Int) (ph_0 : Int → Int) (pt_0 : Int → Int) (k1 : 0 ≤ x1 ∧ x1 ≤ 159) (k2 : 1 ≤ x2 ∧ x2 ≤ 1) (k3 : 0 ≤ x3 ∧ x3 ≤ 0) (k5 : 1 ≤ x5 ∧ x5 ≤ 1) (k6 : 0 ≤ x6 ∧ x6 ≤ 79) (k7 : 0 ≤ x7 ∧ x7 ≤ 24) (h0 : x7 = ph_0 (x6)) (f1 : x6 = x1 / 2) (f2 : bvp (x6) = bvp (x1) >>> (x5).toNat) (f4 : x3 = 0) (f5 : x3 = x1 % 2) (f6 : bvp (x3) = bvp (x1) &&& bvp (x2)) (hK_0_33 : ∀ j : Int, 0 ≤ j → j < 80 → 0 ≤ pt_0 j ∧ pt_0 j ≤ 24) (hK_0_34 : ∀ j : Int, 0 ≤ j → j < 80 → 0 ≤ ph_0 j ∧ ph_0 j ≤ 24) : DTO (pt_0) (ph_0) (x1) (x7) := by
  first
    | (unfold DTO dto; rw [if_pos (by omega), show x1 / 2 = x6 by omega]; omega)
    | (unfold DTO dto; rw [if_neg (by omega), show x1 / 2 = x6 by omega]; omega)
def o_Mo_toOf_1 : or_T := (25, 8, [(0, (2, 0, 0, [165])), (1, (0, 0, 159, [])), (2, (0, 1, 1, [])), (3, (0, 0, 0, [])), (4, (2, 0, 0, [181])), (5, (0, 1, 1, [])), (6, (0, 0, 79, [])), (7, (0, 0, 24, []))], [(10, [7, 4, 6], []), (11, [6, 1], [2]), (16, [6, 1, 5], [4]), (9, [4, 0], [34]), (8, [3], [0]), (12, [3, 1], [2]), (16, [3, 1, 2], [0])], [], [], [(20, [0, 1, 7], [60, 0, 2, 186, 33, 34])], [], [])
theorem oo_Mo_toOf_1 {kA : Nat → ClassId} : or_ok PRD kA GG o_Mo_toOf_1 := by
  refine or_mk fun A ta ws vs hD hth hl => ?_
  intro t0 r0 t1 k1 t2 k2 t3 k3 t4 r4 t5 k5 t6 k6 t7 k7 f0 f1 f2 f3 f4 f5 f6
  replace f0 := shm_107 f0
  replace f3 := shm_496 f3
  have cr_0_33 := fdq_117 hD hth r0
  have cr_0_34 := fdq_118 hD hth r0
  have ad_4 : v_ad (n_v vs 4) = w_ar ws (n_v vs 0) 34 := congrArg v_ad f3
  simp only [ad_4] at f0
  have h0 : v_iv (n_v vs 7) = w_ei ws (w_ar ws (n_v vs 0) 34) (v_iv (n_v vs 6)) := f0
  have hK_0_33 := elq_60 hD hth cr_0_33
  have hK_0_34 := elq_61 hD hth cr_0_34
  have nf0 : fc_1 PRD (20, [0, 1, 7], [60, 0, 2, 186, 33, 34]) ws (vs) := ⟨nf_in hl rfl, sgq_750 (vc_Mo_toOf_1_0 (v_iv (n_v vs 1)) (v_iv (n_v vs 2)) (v_iv (n_v vs 3)) (v_iv (n_v vs 5)) (v_iv (n_v vs 6)) (v_iv (n_v vs 7)) (w_ei ws (w_ar ws (n_v vs 0) 34)) (w_ei ws (w_ar ws (n_v vs 0) 33)) k1 k2 k3 k5 k6 k7 h0 (shm_585 f1) (shm_13 f2) (shm_192 f4) (shm_364 f5) (shm_11 f6) hK_0_33 hK_0_34)⟩
  refine ⟨(fun _ h => (by cases h)), [], trivial, ?_, (fun _ h => (by cases h))⟩
  rw [List.append_nil]
  exact List.forall_mem_cons.mpr ⟨⟨show (20 : Nat) < 100 from by decide, nf0⟩, (fun _ h => (by cases h))⟩
def n_Mo_toOf_an : List an_T := []
def t_Mo_toOf_ct : ct_L := []
set_option maxRecDepth 100000 in
theorem c_Mo_toOf {l : Launch} {D : va_G} {kA : Nat → ClassId} : ct_ok PRD l D kA GG y_Mo_toOf z_Mo_toOf e_Mo_toOf := chk_all_ok (FT := [(57, 13, 33), (60, 13, 34)]) (PT := []) (CT := t_Mo_toOf_ct) (KT := []) (NT := []) (AN := n_Mo_toOf_an) (OT := [o_Mo_toOf_0, o_Mo_toOf_1]) 0 200 (List.forall_mem_cons.mpr ⟨oo_Mo_toOf_0, List.forall_mem_cons.mpr ⟨oo_Mo_toOf_1, List.forall_mem_nil _⟩⟩) (by decide +kernel) ⟨List.forall_mem_cons.mpr ⟨gf_Mo_57, List.forall_mem_cons.mpr ⟨gf_Mo_60, List.forall_mem_nil _⟩⟩, List.forall_mem_nil _, List.forall_mem_nil _, List.forall_mem_nil _, List.forall_mem_nil _, GG_pl⟩ (by decide +kernel)

set_option maxHeartbeats 4000000 in
theorem vc_Mo_weigh_0_0 (x1 : Int) (x2 : Int) (x4 : Int) (x5 : Int) (layerSize_0 : Int → Int) (permBegin_0 : Int → Int) (permMany_0 : Int → Int) (perm_0 : Int → Int) (itemLayer_0 : Int → Int) (lineA_0 : Int → Int) (lineB_0 : Int → Int) (listed_0 : Int → Int) (items_0 : Int) (layerMany_0 : Int) (lines_0 : Int) (worse_0 : Int → Int) (k1 : 0 ≤ x1 ∧ x1 ≤ 75) (k2 : 0 ≤ x2 ∧ x2 ≤ 719) (k4 : 0 ≤ x4 ∧ x4 ≤ 76) (k5 : 0 ≤ x5 ∧ x5 ≤ 0) (h0 : x4 = layerSize_0 (x1)) (f2 : PTB (permBegin_0) (permMany_0) (perm_0)) (f3 : LSG (items_0) (layerMany_0) (lines_0) (itemLayer_0) (layerSize_0) (lineA_0) (lineB_0) (listed_0)) (f4 : (0 ≤ x1) ∧ ((x1 + 1) ≤ layerMany_0)) (f5 : 0 ≤ x2) (f6 : (x2 + 1) ≤ permMany_0 (layerSize_0 (x1))) (hK_0_102 : ∀ j : Int, 0 ≤ j → j < 76 → 0 ≤ itemLayer_0 j ∧ itemLayer_0 j ≤ 75) (hK_0_105 : ∀ j : Int, 0 ≤ j → j < 76 → 0 ≤ layerSize_0 j ∧ layerSize_0 j ≤ 76) (hK_0_108 : ∀ j : Int, 0 ≤ j → j < 130 → 0 ≤ lineA_0 j ∧ lineA_0 j ≤ 75) (hK_0_109 : ∀ j : Int, 0 ≤ j → j < 130 → 0 ≤ lineB_0 j ∧ lineB_0 j ≤ 75) (hK_0_110 : ∀ j : Int, 0 ≤ j → j < 8 → 0 ≤ permBegin_0 j ∧ permBegin_0 j ≤ 5500) (hK_0_111 : ∀ j : Int, 0 ≤ j → j < 8 → 0 ≤ permMany_0 j ∧ permMany_0 j ≤ 720) (hK_0_112 : ∀ j : Int, 0 ≤ j → j < 6000 → 0 ≤ perm_0 j ∧ perm_0 j ≤ 5) (hK_0_114 : ∀ j : Int, 0 ≤ j → j < 36 → 0 ≤ worse_0 j ∧ worse_0 j ≤ 14400) (hK_0_115 : ∀ j : Int, 0 ≤ j → j < 76 → 0 ≤ listed_0 j ∧ listed_0 j ≤ 75) (kz_0_100 : 0 ≤ items_0 ∧ items_0 ≤ 76) (kz_0_101 : 0 ≤ layerMany_0 ∧ layerMany_0 ≤ 76) (kz_0_107 : 0 ≤ lines_0 ∧ lines_0 ≤ 130) : (x2 + 1) ≤ permMany_0 (x4) := by
  first
    | omega
    | (rw [‹x4 = layerSize_0 x1›]; assumption)
    | (have h := ‹LSG _ _ _ _ _ _ _ _›.1 x1 (by omega) (by omega); omega)
    | (have e1 : x11 = lineA_0 x7 := by assumption
       have e2 : x12 = itemLayer_0 x11 := by assumption
       rw [← e1, ← e2]; omega)
set_option maxHeartbeats 4000000 in
theorem vc_Mo_weigh_0_1 (x1 : Int) (x2 : Int) (x4 : Int) (x5 : Int) (layerSize_0 : Int → Int) (permBegin_0 : Int → Int) (permMany_0 : Int → Int) (perm_0 : Int → Int) (itemLayer_0 : Int → Int) (lineA_0 : Int → Int) (lineB_0 : Int → Int) (listed_0 : Int → Int) (items_0 : Int) (layerMany_0 : Int) (lines_0 : Int) (worse_0 : Int → Int) (k1 : 0 ≤ x1 ∧ x1 ≤ 75) (k2 : 0 ≤ x2 ∧ x2 ≤ 719) (k4 : 0 ≤ x4 ∧ x4 ≤ 76) (k5 : 0 ≤ x5 ∧ x5 ≤ 0) (h0 : x4 = layerSize_0 (x1)) (f2 : PTB (permBegin_0) (permMany_0) (perm_0)) (f3 : LSG (items_0) (layerMany_0) (lines_0) (itemLayer_0) (layerSize_0) (lineA_0) (lineB_0) (listed_0)) (f4 : (0 ≤ x1) ∧ ((x1 + 1) ≤ layerMany_0)) (f5 : 0 ≤ x2) (f6 : (x2 + 1) ≤ permMany_0 (layerSize_0 (x1))) (hK_0_102 : ∀ j : Int, 0 ≤ j → j < 76 → 0 ≤ itemLayer_0 j ∧ itemLayer_0 j ≤ 75) (hK_0_105 : ∀ j : Int, 0 ≤ j → j < 76 → 0 ≤ layerSize_0 j ∧ layerSize_0 j ≤ 76) (hK_0_108 : ∀ j : Int, 0 ≤ j → j < 130 → 0 ≤ lineA_0 j ∧ lineA_0 j ≤ 75) (hK_0_109 : ∀ j : Int, 0 ≤ j → j < 130 → 0 ≤ lineB_0 j ∧ lineB_0 j ≤ 75) (hK_0_110 : ∀ j : Int, 0 ≤ j → j < 8 → 0 ≤ permBegin_0 j ∧ permBegin_0 j ≤ 5500) (hK_0_111 : ∀ j : Int, 0 ≤ j → j < 8 → 0 ≤ permMany_0 j ∧ permMany_0 j ≤ 720) (hK_0_112 : ∀ j : Int, 0 ≤ j → j < 6000 → 0 ≤ perm_0 j ∧ perm_0 j ≤ 5) (hK_0_114 : ∀ j : Int, 0 ≤ j → j < 36 → 0 ≤ worse_0 j ∧ worse_0 j ≤ 14400) (hK_0_115 : ∀ j : Int, 0 ≤ j → j < 76 → 0 ≤ listed_0 j ∧ listed_0 j ≤ 75) (kz_0_100 : 0 ≤ items_0 ∧ items_0 ≤ 76) (kz_0_101 : 0 ≤ layerMany_0 ∧ layerMany_0 ≤ 76) (kz_0_107 : 0 ≤ lines_0 ∧ lines_0 ≤ 130) : x4 = layerSize_0 (x1) := by
  first
    | omega
    | (rw [‹x4 = layerSize_0 x1›]; assumption)
    | (have h := ‹LSG _ _ _ _ _ _ _ _›.1 x1 (by omega) (by omega); omega)
    | (have e1 : x11 = lineA_0 x7 := by assumption
       have e2 : x12 = itemLayer_0 x11 := by assumption
       rw [← e1, ← e2]; omega)
set_option maxHeartbeats 4000000 in
theorem vc_Mo_weigh_0_2 (x1 : Int) (x2 : Int) (x4 : Int) (x5 : Int) (layerSize_0 : Int → Int) (permBegin_0 : Int → Int) (permMany_0 : Int → Int) (perm_0 : Int → Int) (itemLayer_0 : Int → Int) (lineA_0 : Int → Int) (lineB_0 : Int → Int) (listed_0 : Int → Int) (items_0 : Int) (layerMany_0 : Int) (lines_0 : Int) (worse_0 : Int → Int) (k1 : 0 ≤ x1 ∧ x1 ≤ 75) (k2 : 0 ≤ x2 ∧ x2 ≤ 719) (k4 : 0 ≤ x4 ∧ x4 ≤ 76) (k5 : 0 ≤ x5 ∧ x5 ≤ 0) (h0 : x4 = layerSize_0 (x1)) (f2 : PTB (permBegin_0) (permMany_0) (perm_0)) (f3 : LSG (items_0) (layerMany_0) (lines_0) (itemLayer_0) (layerSize_0) (lineA_0) (lineB_0) (listed_0)) (f4 : (0 ≤ x1) ∧ ((x1 + 1) ≤ layerMany_0)) (f5 : 0 ≤ x2) (f6 : (x2 + 1) ≤ permMany_0 (layerSize_0 (x1))) (hK_0_102 : ∀ j : Int, 0 ≤ j → j < 76 → 0 ≤ itemLayer_0 j ∧ itemLayer_0 j ≤ 75) (hK_0_105 : ∀ j : Int, 0 ≤ j → j < 76 → 0 ≤ layerSize_0 j ∧ layerSize_0 j ≤ 76) (hK_0_108 : ∀ j : Int, 0 ≤ j → j < 130 → 0 ≤ lineA_0 j ∧ lineA_0 j ≤ 75) (hK_0_109 : ∀ j : Int, 0 ≤ j → j < 130 → 0 ≤ lineB_0 j ∧ lineB_0 j ≤ 75) (hK_0_110 : ∀ j : Int, 0 ≤ j → j < 8 → 0 ≤ permBegin_0 j ∧ permBegin_0 j ≤ 5500) (hK_0_111 : ∀ j : Int, 0 ≤ j → j < 8 → 0 ≤ permMany_0 j ∧ permMany_0 j ≤ 720) (hK_0_112 : ∀ j : Int, 0 ≤ j → j < 6000 → 0 ≤ perm_0 j ∧ perm_0 j ≤ 5) (hK_0_114 : ∀ j : Int, 0 ≤ j → j < 36 → 0 ≤ worse_0 j ∧ worse_0 j ≤ 14400) (hK_0_115 : ∀ j : Int, 0 ≤ j → j < 76 → 0 ≤ listed_0 j ∧ listed_0 j ≤ 75) (kz_0_100 : 0 ≤ items_0 ∧ items_0 ≤ 76) (kz_0_101 : 0 ≤ layerMany_0 ∧ layerMany_0 ≤ 76) (kz_0_107 : 0 ≤ lines_0 ∧ lines_0 ≤ 130) : x4 ≤ 6 := by
  first
    | omega
    | (rw [‹x4 = layerSize_0 x1›]; assumption)
    | (have h := ‹LSG _ _ _ _ _ _ _ _›.1 x1 (by omega) (by omega); omega)
    | (have e1 : x11 = lineA_0 x7 := by assumption
       have e2 : x12 = itemLayer_0 x11 := by assumption
       rw [← e1, ← e2]; omega)
set_option maxHeartbeats 4000000 in
theorem vc_Mo_weigh_0_3 (x1 : Int) (x2 : Int) (x4 : Int) (x5 : Int) (layerSize_0 : Int → Int) (permBegin_0 : Int → Int) (permMany_0 : Int → Int) (perm_0 : Int → Int) (itemLayer_0 : Int → Int) (lineA_0 : Int → Int) (lineB_0 : Int → Int) (listed_0 : Int → Int) (items_0 : Int) (layerMany_0 : Int) (lines_0 : Int) (worse_0 : Int → Int) (k1 : 0 ≤ x1 ∧ x1 ≤ 75) (k2 : 0 ≤ x2 ∧ x2 ≤ 719) (k4 : 0 ≤ x4 ∧ x4 ≤ 76) (k5 : 0 ≤ x5 ∧ x5 ≤ 0) (h0 : x4 = layerSize_0 (x1)) (f2 : PTB (permBegin_0) (permMany_0) (perm_0)) (f3 : LSG (items_0) (layerMany_0) (lines_0) (itemLayer_0) (layerSize_0) (lineA_0) (lineB_0) (listed_0)) (f4 : (0 ≤ x1) ∧ ((x1 + 1) ≤ layerMany_0)) (f5 : 0 ≤ x2) (f6 : (x2 + 1) ≤ permMany_0 (layerSize_0 (x1))) (hK_0_102 : ∀ j : Int, 0 ≤ j → j < 76 → 0 ≤ itemLayer_0 j ∧ itemLayer_0 j ≤ 75) (hK_0_105 : ∀ j : Int, 0 ≤ j → j < 76 → 0 ≤ layerSize_0 j ∧ layerSize_0 j ≤ 76) (hK_0_108 : ∀ j : Int, 0 ≤ j → j < 130 → 0 ≤ lineA_0 j ∧ lineA_0 j ≤ 75) (hK_0_109 : ∀ j : Int, 0 ≤ j → j < 130 → 0 ≤ lineB_0 j ∧ lineB_0 j ≤ 75) (hK_0_110 : ∀ j : Int, 0 ≤ j → j < 8 → 0 ≤ permBegin_0 j ∧ permBegin_0 j ≤ 5500) (hK_0_111 : ∀ j : Int, 0 ≤ j → j < 8 → 0 ≤ permMany_0 j ∧ permMany_0 j ≤ 720) (hK_0_112 : ∀ j : Int, 0 ≤ j → j < 6000 → 0 ≤ perm_0 j ∧ perm_0 j ≤ 5) (hK_0_114 : ∀ j : Int, 0 ≤ j → j < 36 → 0 ≤ worse_0 j ∧ worse_0 j ≤ 14400) (hK_0_115 : ∀ j : Int, 0 ≤ j → j < 76 → 0 ≤ listed_0 j ∧ listed_0 j ≤ 75) (kz_0_100 : 0 ≤ items_0 ∧ items_0 ≤ 76) (kz_0_101 : 0 ≤ layerMany_0 ∧ layerMany_0 ≤ 76) (kz_0_107 : 0 ≤ lines_0 ∧ lines_0 ≤ 130) : WZ0 (worse_0) (x5) := by
  first
    | (intro x a b; exfalso; omega)
    | exact wz0_step ‹WZ0 _ _› (by assumption) (by assumption) rfl (by omega)
def o_Mo_weigh_0 : or_T := (10, 6, [(0, (2, 0, 0, [165])), (1, (0, 0, 75, [])), (2, (0, 0, 719, [])), (4, (0, 0, 76, [])), (5, (0, 0, 0, []))], [(10, [4, 3, 1], []), (9, [3, 0], [105]), (20, [0], [60, 0, 3, 367, 110, 111, 112]), (20, [0], [60, 3, 5, 474, 100, 101, 107, 102, 105, 108, 109, 115]), (20, [1, 0], [50, 1, 0, 1101, 2, 6, 0, 2, 0, 0, 1, 0, 0, 6, 4, 2, 1, 0, 0, 1, 2, 1, 101]), (20, [2], [50, 0, 0, 0, 2, 0, 0, 1, 0]), (20, [2, 0, 1], [50, 0, 2, 1111, 1105, 0, 6, 4, 2, 1, 0, 0, 1, 3, 1, 111, 3, 1, 105, 1, 2])], [], [], [(20, [2, 0, 4], [50, 0, 1, 1111, 0, 6, 4, 2, 1, 0, 0, 1, 3, 1, 111, 1, 2]), (20, [4, 0, 1], [50, 0, 1, 1105, 1, 2, 1, 0, 3, 1, 105, 1, 2]), (20, [4], [50, 0, 0, 0, 2, 1, 0, 0, 6]), (20, [0, 5], [60, 0, 1, 471, 114]), (24, [0, 0], []), (24, [1, 1], []), (24, [2, 2], [])], [], [])
theorem oo_Mo_weigh_0 {kA : Nat → ClassId} : or_ok PRD kA GG o_Mo_weigh_0 := by
  refine or_mk fun A ta ws vs hD hth hl => ?_
  intro t0 r0 t1 k1 t2 k2 t4 k4 t5 k5 f0 f1 f2 f3 f4 f5 f6
  replace f0 := shm_107 f0
  replace f1 := shm_619 f1
  have cr_0_102 := fdq_159 hD hth r0
  have cr_0_105 := fdq_122 hD hth r0
  have cr_0_108 := fdq_160 hD hth r0
  have cr_0_109 := fdq_161 hD hth r0
  have cr_0_110 := fdq_184 hD hth r0
  have cr_0_111 := fdq_185 hD hth r0
  have cr_0_112 := fdq_186 hD hth r0
  have cr_0_114 := fdq_193 hD hth r0
  have cr_0_115 := fdq_194 hD hth r0
  have ad_3 : v_ad (n_v vs 3) = w_ar ws (n_v vs 0) 105 := congrArg v_ad f1
  simp only [ad_3] at f0
  have h0 : v_iv (n_v vs 4) = w_ei ws (w_ar ws (n_v vs 0) 105) (v_iv (n_v vs 1)) := f0
  have hK_0_102 := elq_91 hD hth cr_0_102
  have hK_0_105 := elq_65 hD hth cr_0_105
  have hK_0_108 := elq_92 hD hth cr_0_108
  have hK_0_109 := elq_93 hD hth cr_0_109
  have hK_0_110 := elq_110 hD hth cr_0_110
  have hK_0_111 := elq_111 hD hth cr_0_111
  have hK_0_112 := elq_112 hD hth cr_0_112
  have hK_0_114 := elq_116 hD hth cr_0_114
  have hK_0_115 := elq_117 hD hth cr_0_115
  have kz_0_100 := fdq_162 hD hth r0
  have kz_0_101 := fdq_125 hD hth r0
  have kz_0_107 := fdq_163 hD hth r0
  have nf0 : fc_1 PRD (20, [2, 0, 4], [50, 0, 1, 1111, 0, 6, 4, 2, 1, 0, 0, 1, 3, 1, 111, 1, 2]) ws (vs) := ⟨nf_in hl rfl, sgq_723 (vc_Mo_weigh_0_0 (v_iv (n_v vs 1)) (v_iv (n_v vs 2)) (v_iv (n_v vs 4)) (v_iv (n_v vs 5)) (w_ei ws (w_ar ws (n_v vs 0) 105)) (w_ei ws (w_ar ws (n_v vs 0) 110)) (w_ei ws (w_ar ws (n_v vs 0) 111)) (w_ei ws (w_ar ws (n_v vs 0) 112)) (w_ei ws (w_ar ws (n_v vs 0) 102)) (w_ei ws (w_ar ws (n_v vs 0) 108)) (w_ei ws (w_ar ws (n_v vs 0) 109)) (w_ei ws (w_ar ws (n_v vs 0) 115)) (w_fi ws (n_v vs 0) 100) (w_fi ws (n_v vs 0) 101) (w_fi ws (n_v vs 0) 107) (w_ei ws (w_ar ws (n_v vs 0) 114)) k1 k2 k4 k5 h0 (shm_718 f2) (shm_751 f3) (shm_721 f4) (shm_722 f5) (shm_720 f6) hK_0_102 hK_0_105 hK_0_108 hK_0_109 hK_0_110 hK_0_111 hK_0_112 hK_0_114 hK_0_115 kz_0_100 kz_0_101 kz_0_107)⟩
  have nf1 : fc_1 PRD (20, [4, 0, 1], [50, 0, 1, 1105, 1, 2, 1, 0, 3, 1, 105, 1, 2]) ws (vs) := ⟨nf_in hl rfl, sgq_724 (vc_Mo_weigh_0_1 (v_iv (n_v vs 1)) (v_iv (n_v vs 2)) (v_iv (n_v vs 4)) (v_iv (n_v vs 5)) (w_ei ws (w_ar ws (n_v vs 0) 105)) (w_ei ws (w_ar ws (n_v vs 0) 110)) (w_ei ws (w_ar ws (n_v vs 0) 111)) (w_ei ws (w_ar ws (n_v vs 0) 112)) (w_ei ws (w_ar ws (n_v vs 0) 102)) (w_ei ws (w_ar ws (n_v vs 0) 108)) (w_ei ws (w_ar ws (n_v vs 0) 109)) (w_ei ws (w_ar ws (n_v vs 0) 115)) (w_fi ws (n_v vs 0) 100) (w_fi ws (n_v vs 0) 101) (w_fi ws (n_v vs 0) 107) (w_ei ws (w_ar ws (n_v vs 0) 114)) k1 k2 k4 k5 h0 (shm_718 f2) (shm_751 f3) (shm_721 f4) (shm_722 f5) (shm_720 f6) hK_0_102 hK_0_105 hK_0_108 hK_0_109 hK_0_110 hK_0_111 hK_0_112 hK_0_114 hK_0_115 kz_0_100 kz_0_101 kz_0_107)⟩
  have nf2 : fc_1 PRD (20, [4], [50, 0, 0, 0, 2, 1, 0, 0, 6]) ws (vs) := ⟨nf_in hl rfl, sgq_395 (vc_Mo_weigh_0_2 (v_iv (n_v vs 1)) (v_iv (n_v vs 2)) (v_iv (n_v vs 4)) (v_iv (n_v vs 5)) (w_ei ws (w_ar ws (n_v vs 0) 105)) (w_ei ws (w_ar ws (n_v vs 0) 110)) (w_ei ws (w_ar ws (n_v vs 0) 111)) (w_ei ws (w_ar ws (n_v vs 0) 112)) (w_ei ws (w_ar ws (n_v vs 0) 102)) (w_ei ws (w_ar ws (n_v vs 0) 108)) (w_ei ws (w_ar ws (n_v vs 0) 109)) (w_ei ws (w_ar ws (n_v vs 0) 115)) (w_fi ws (n_v vs 0) 100) (w_fi ws (n_v vs 0) 101) (w_fi ws (n_v vs 0) 107) (w_ei ws (w_ar ws (n_v vs 0) 114)) k1 k2 k4 k5 h0 (shm_718 f2) (shm_751 f3) (shm_721 f4) (shm_722 f5) (shm_720 f6) hK_0_102 hK_0_105 hK_0_108 hK_0_109 hK_0_110 hK_0_111 hK_0_112 hK_0_114 hK_0_115 kz_0_100 kz_0_101 kz_0_107)⟩
  have nf3 : fc_1 PRD (20, [0, 5], [60, 0, 1, 471, 114]) ws (vs) := ⟨nf_in hl rfl, sgq_752 (vc_Mo_weigh_0_3 (v_iv (n_v vs 1)) (v_iv (n_v vs 2)) (v_iv (n_v vs 4)) (v_iv (n_v vs 5)) (w_ei ws (w_ar ws (n_v vs 0) 105)) (w_ei ws (w_ar ws (n_v vs 0) 110)) (w_ei ws (w_ar ws (n_v vs 0) 111)) (w_ei ws (w_ar ws (n_v vs 0) 112)) (w_ei ws (w_ar ws (n_v vs 0) 102)) (w_ei ws (w_ar ws (n_v vs 0) 108)) (w_ei ws (w_ar ws (n_v vs 0) 109)) (w_ei ws (w_ar ws (n_v vs 0) 115)) (w_fi ws (n_v vs 0) 100) (w_fi ws (n_v vs 0) 101) (w_fi ws (n_v vs 0) 107) (w_ei ws (w_ar ws (n_v vs 0) 114)) k1 k2 k4 k5 h0 (shm_718 f2) (shm_751 f3) (shm_721 f4) (shm_722 f5) (shm_720 f6) hK_0_102 hK_0_105 hK_0_108 hK_0_109 hK_0_110 hK_0_111 hK_0_112 hK_0_114 hK_0_115 kz_0_100 kz_0_101 kz_0_107)⟩
  have nf4 : fc_1 PRD (24, [0, 0], []) ws (vs) := by
    refine ⟨nf_in hl rfl, sgq_1 ?_⟩
    · show n_v vs 0 = n_v vs 0
      first | rfl | simp only [true_and]
  have nf5 : fc_1 PRD (24, [1, 1], []) ws (vs) := by
    refine ⟨nf_in hl rfl, sgq_1 ?_⟩
    · show n_v vs 1 = n_v vs 1
      first | rfl | simp only [true_and]
  have nf6 : fc_1 PRD (24, [2, 2], []) ws (vs) := by
    refine ⟨nf_in hl rfl, sgq_1 ?_⟩
    · show n_v vs 2 = n_v vs 2
      first | rfl | simp only [true_and]
  refine ⟨(fun _ h => (by cases h)), [], trivial, ?_, (fun _ h => (by cases h))⟩
  rw [List.append_nil]
  exact List.forall_mem_cons.mpr ⟨⟨show (20 : Nat) < 100 from by decide, nf0⟩, List.forall_mem_cons.mpr ⟨⟨show (20 : Nat) < 100 from by decide, nf1⟩, List.forall_mem_cons.mpr ⟨⟨show (20 : Nat) < 100 from by decide, nf2⟩, List.forall_mem_cons.mpr ⟨⟨show (20 : Nat) < 100 from by decide, nf3⟩, List.forall_mem_cons.mpr ⟨⟨show (24 : Nat) < 100 from by decide, nf4⟩, List.forall_mem_cons.mpr ⟨⟨show (24 : Nat) < 100 from by decide, nf5⟩, List.forall_mem_cons.mpr ⟨⟨show (24 : Nat) < 100 from by decide, nf6⟩, (fun _ h => (by cases h))⟩⟩⟩⟩⟩⟩⟩
set_option maxHeartbeats 4000000 in
theorem vc_Mo_weigh_1_0 (x1 : Int) (x2 : Int) (x4 : Int) (x5 : Int) (x6 : Int) (x7 : Int) (x8 : Int) (x9 : Int) (permBegin_0 : Int → Int) (permMany_0 : Int → Int) (perm_0 : Int → Int) (itemLayer_0 : Int → Int) (layerSize_0 : Int → Int) (lineA_0 : Int → Int) (lineB_0 : Int → Int) (listed_0 : Int → Int) (items_0 : Int) (layerMany_0 : Int) (lines_0 : Int) (worse_0 : Int → Int) (inOrder_0 : Int → Int) (k1 : 0 ≤ x1 ∧ x1 ≤ 75) (k2 : 0 ≤ x2 ∧ x2 ≤ 719) (k4 : 0 ≤ x4 ∧ x4 ≤ 75) (k5 : 0 ≤ x5 ∧ x5 ≤ 719) (k6 : 0 ≤ x6 ∧ x6 ≤ 76) (k7 : 36 ≤ x7 ∧ x7 ≤ 36) (k8 : 36 ≤ x8 ∧ x8 ≤ 36) (k9 : 0 ≤ x9 ∧ x9 ≤ 0) (d0 : x4 + (-4294967296) ≤ x1 ∧ x1 ≤ x4 + 0) (d1 : x5 + (-4294967296) ≤ x2 ∧ x2 ≤ x5 + 0) (d2 : x1 + (-4294967296) ≤ x4 ∧ x4 ≤ x1 + 0) (d3 : x2 + (-4294967296) ≤ x5 ∧ x5 ≤ x2 + 0) (f0 : x8 ≤ x7) (f1 : PTB (permBegin_0) (permMany_0) (perm_0)) (f2 : LSG (items_0) (layerMany_0) (lines_0) (itemLayer_0) (layerSize_0) (lineA_0) (lineB_0) (listed_0)) (f3 : (0 ≤ x1) ∧ ((x1 + 1) ≤ layerMany_0)) (f4 : 0 ≤ x2) (f5 : (x2 + 1) ≤ permMany_0 (x6)) (f6 : x6 = layerSize_0 (x1)) (f7 : x6 ≤ 6) (f8 : WZ0 (worse_0) (x7)) (hK_0_102 : ∀ j : Int, 0 ≤ j → j < 76 → 0 ≤ itemLayer_0 j ∧ itemLayer_0 j ≤ 75) (hK_0_105 : ∀ j : Int, 0 ≤ j → j < 76 → 0 ≤ layerSize_0 j ∧ layerSize_0 j ≤ 76) (hK_0_108 : ∀ j : Int, 0 ≤ j → j < 130 → 0 ≤ lineA_0 j ∧ lineA_0 j ≤ 75) (hK_0_109 : ∀ j : Int, 0 ≤ j → j < 130 → 0 ≤ lineB_0 j ∧ lineB_0 j ≤ 75) (hK_0_110 : ∀ j : Int, 0 ≤ j → j < 8 → 0 ≤ permBegin_0 j ∧ permBegin_0 j ≤ 5500) (hK_0_111 : ∀ j : Int, 0 ≤ j → j < 8 → 0 ≤ permMany_0 j ∧ permMany_0 j ≤ 720) (hK_0_112 : ∀ j : Int, 0 ≤ j → j < 6000 → 0 ≤ perm_0 j ∧ perm_0 j ≤ 5) (hK_0_114 : ∀ j : Int, 0 ≤ j → j < 36 → 0 ≤ worse_0 j ∧ worse_0 j ≤ 14400) (hK_0_115 : ∀ j : Int, 0 ≤ j → j < 76 → 0 ≤ listed_0 j ∧ listed_0 j ≤ 75) (hK_0_116 : ∀ j : Int, 0 ≤ j → j < 6 → 0 ≤ inOrder_0 j ∧ inOrder_0 j ≤ 5) (kz_0_100 : 0 ≤ items_0 ∧ items_0 ≤ 76) (kz_0_101 : 0 ≤ layerMany_0 ∧ layerMany_0 ≤ 76) (kz_0_107 : 0 ≤ lines_0 ∧ lines_0 ≤ 130) : WZF (worse_0) := by
  first
    | assumption
    | exact fun x a b => ‹WZ0 _ _› x a (by omega)
set_option maxHeartbeats 4000000 in
theorem vc_Mo_weigh_1_1 (x1 : Int) (x2 : Int) (x4 : Int) (x5 : Int) (x6 : Int) (x7 : Int) (x8 : Int) (x9 : Int) (permBegin_0 : Int → Int) (permMany_0 : Int → Int) (perm_0 : Int → Int) (itemLayer_0 : Int → Int) (layerSize_0 : Int → Int) (lineA_0 : Int → Int) (lineB_0 : Int → Int) (listed_0 : Int → Int) (items_0 : Int) (layerMany_0 : Int) (lines_0 : Int) (worse_0 : Int → Int) (inOrder_0 : Int → Int) (k1 : 0 ≤ x1 ∧ x1 ≤ 75) (k2 : 0 ≤ x2 ∧ x2 ≤ 719) (k4 : 0 ≤ x4 ∧ x4 ≤ 75) (k5 : 0 ≤ x5 ∧ x5 ≤ 719) (k6 : 0 ≤ x6 ∧ x6 ≤ 76) (k7 : 36 ≤ x7 ∧ x7 ≤ 36) (k8 : 36 ≤ x8 ∧ x8 ≤ 36) (k9 : 0 ≤ x9 ∧ x9 ≤ 0) (d0 : x4 + (-4294967296) ≤ x1 ∧ x1 ≤ x4 + 0) (d1 : x5 + (-4294967296) ≤ x2 ∧ x2 ≤ x5 + 0) (d2 : x1 + (-4294967296) ≤ x4 ∧ x4 ≤ x1 + 0) (d3 : x2 + (-4294967296) ≤ x5 ∧ x5 ≤ x2 + 0) (f0 : x8 ≤ x7) (f1 : PTB (permBegin_0) (permMany_0) (perm_0)) (f2 : LSG (items_0) (layerMany_0) (lines_0) (itemLayer_0) (layerSize_0) (lineA_0) (lineB_0) (listed_0)) (f3 : (0 ≤ x1) ∧ ((x1 + 1) ≤ layerMany_0)) (f4 : 0 ≤ x2) (f5 : (x2 + 1) ≤ permMany_0 (x6)) (f6 : x6 = layerSize_0 (x1)) (f7 : x6 ≤ 6) (f8 : WZ0 (worse_0) (x7)) (hK_0_102 : ∀ j : Int, 0 ≤ j → j < 76 → 0 ≤ itemLayer_0 j ∧ itemLayer_0 j ≤ 75) (hK_0_105 : ∀ j : Int, 0 ≤ j → j < 76 → 0 ≤ layerSize_0 j ∧ layerSize_0 j ≤ 76) (hK_0_108 : ∀ j : Int, 0 ≤ j → j < 130 → 0 ≤ lineA_0 j ∧ lineA_0 j ≤ 75) (hK_0_109 : ∀ j : Int, 0 ≤ j → j < 130 → 0 ≤ lineB_0 j ∧ lineB_0 j ≤ 75) (hK_0_110 : ∀ j : Int, 0 ≤ j → j < 8 → 0 ≤ permBegin_0 j ∧ permBegin_0 j ≤ 5500) (hK_0_111 : ∀ j : Int, 0 ≤ j → j < 8 → 0 ≤ permMany_0 j ∧ permMany_0 j ≤ 720) (hK_0_112 : ∀ j : Int, 0 ≤ j → j < 6000 → 0 ≤ perm_0 j ∧ perm_0 j ≤ 5) (hK_0_114 : ∀ j : Int, 0 ≤ j → j < 36 → 0 ≤ worse_0 j ∧ worse_0 j ≤ 14400) (hK_0_115 : ∀ j : Int, 0 ≤ j → j < 76 → 0 ≤ listed_0 j ∧ listed_0 j ≤ 75) (hK_0_116 : ∀ j : Int, 0 ≤ j → j < 6 → 0 ≤ inOrder_0 j ∧ inOrder_0 j ≤ 5) (kz_0_100 : 0 ≤ items_0 ∧ items_0 ≤ 76) (kz_0_101 : 0 ≤ layerMany_0 ∧ layerMany_0 ≤ 76) (kz_0_107 : 0 ≤ lines_0 ∧ lines_0 ≤ 130) : IOK (permBegin_0) (perm_0) (inOrder_0) (x6) (x2) (x9) := by
  first
    | (intro x a b; exfalso; omega)
    | exact iok_step (b := x11) (c := x12) (d := x13) (x := x14) (y := x15) ‹PTB _ _ _› ‹IOK _ _ _ _ _ _› (by omega) (by omega) (by omega) (by omega) (by omega) (by omega) (by assumption) (by assumption) (by assumption) (by assumption) (by assumption) (by assumption) (by assumption) rfl
def o_Mo_weigh_1 : or_T := (34, 10, [(0, (2, 0, 0, [165])), (1, (0, 0, 75, [])), (2, (0, 0, 719, [])), (4, (0, 0, 75, [])), (5, (0, 0, 719, [])), (6, (0, 0, 76, [])), (7, (0, 36, 36, [])), (8, (0, 36, 36, [])), (9, (0, 0, 0, []))], [(7, [7, 8], [3]), (20, [3], [60, 0, 3, 367, 110, 111, 112]), (20, [3], [60, 3, 5, 474, 100, 101, 107, 102, 105, 108, 109, 115]), (20, [4, 3], [50, 1, 0, 1101, 2, 6, 0, 2, 0, 0, 1, 0, 0, 6, 4, 2, 1, 0, 0, 1, 2, 1, 101]), (20, [5], [50, 0, 0, 0, 2, 0, 0, 1, 0]), (20, [5, 3, 6], [50, 0, 1, 1111, 0, 6, 4, 2, 1, 0, 0, 1, 3, 1, 111, 1, 2]), (20, [6, 3, 4], [50, 0, 1, 1105, 1, 2, 1, 0, 3, 1, 105, 1, 2]), (20, [6], [50, 0, 0, 0, 2, 1, 0, 0, 6]), (20, [3, 7], [60, 0, 1, 471, 114]), (24, [0, 3], []), (24, [1, 4], []), (24, [2, 5], [])], [], [], [(20, [3], [60, 0, 1, 488, 114]), (20, [3, 6, 5, 9], [60, 0, 3, 472, 110, 112, 116])], [], [(1, 4, -4294967296, 0), (2, 5, -4294967296, 0), (4, 1, -4294967296, 0), (5, 2, -4294967296, 0)])
theorem oo_Mo_weigh_1 {kA : Nat → ClassId} : or_ok PRD kA GG o_Mo_weigh_1 := by
  refine or_mk fun A ta ws vs hD hth hl => ?_
  intro t0 r0 t1 k1 t2 k2 t4 k4 t5 k5 t6 k6 t7 k7 t8 k8 t9 k9 d0 d1 d2 d3 f0 f1 f2 f3 f4 f5 f6 f7 f8 f9 f10 f11
  replace f0 := shm_2 f0
  replace f1 := shm_718 f1
  replace f2 := shm_751 f2
  replace f3 := shm_721 f3
  replace f4 := shm_722 f4
  replace f5 := shm_723 f5
  replace f6 := shm_724 f6
  replace f7 := shm_395 f7
  replace f8 := shm_752 f8
  replace f9 := shm_5 f9
  replace f10 := shm_5 f10
  replace f11 := shm_5 f11
  have q3 : n_v vs 3 = n_v vs 0 := f9.symm
  have q4 : n_v vs 4 = n_v vs 1 := f10.symm
  have q5 : n_v vs 5 = n_v vs 2 := f11.symm
  simp only [q3, q4, q5] at f1 f2 f3 f4 f5 f6 f8
  have cr_0_102 := fdq_159 hD hth r0
  have cr_0_105 := fdq_122 hD hth r0
  have cr_0_108 := fdq_160 hD hth r0
  have cr_0_109 := fdq_161 hD hth r0
  have cr_0_110 := fdq_184 hD hth r0
  have cr_0_111 := fdq_185 hD hth r0
  have cr_0_112 := fdq_186 hD hth r0
  have cr_0_114 := fdq_193 hD hth r0
  have cr_0_115 := fdq_194 hD hth r0
  have cr_0_116 := fdq_195 hD hth r0
  have hK_0_102 := elq_91 hD hth cr_0_102
  have hK_0_105 := elq_65 hD hth cr_0_105
  have hK_0_108 := elq_92 hD hth cr_0_108
  have hK_0_109 := elq_93 hD hth cr_0_109
  have hK_0_110 := elq_110 hD hth cr_0_110
  have hK_0_111 := elq_111 hD hth cr_0_111
  have hK_0_112 := elq_112 hD hth cr_0_112
  have hK_0_114 := elq_116 hD hth cr_0_114
  have hK_0_115 := elq_117 hD hth cr_0_115
  have hK_0_116 := elq_118 hD hth cr_0_116
  have kz_0_100 := fdq_162 hD hth r0
  have kz_0_101 := fdq_125 hD hth r0
  have kz_0_107 := fdq_163 hD hth r0
  have nf0 : fc_1 PRD (20, [3], [60, 0, 1, 488, 114]) ws (vs) := by
    refine ⟨nf_in hl rfl, sgq_753 ?_⟩
    · show WZF (w_ei ws (w_ar ws (n_v vs 3) 114))
      rw [q3]
      exact vc_Mo_weigh_1_0 (v_iv (n_v vs 1)) (v_iv (n_v vs 2)) (v_iv (n_v vs 4)) (v_iv (n_v vs 5)) (v_iv (n_v vs 6)) (v_iv (n_v vs 7)) (v_iv (n_v vs 8)) (v_iv (n_v vs 9)) (w_ei ws (w_ar ws (n_v vs 0) 110)) (w_ei ws (w_ar ws (n_v vs 0) 111)) (w_ei ws (w_ar ws (n_v vs 0) 112)) (w_ei ws (w_ar ws (n_v vs 0) 102)) (w_ei ws (w_ar ws (n_v vs 0) 105)) (w_ei ws (w_ar ws (n_v vs 0) 108)) (w_ei ws (w_ar ws (n_v vs 0) 109)) (w_ei ws (w_ar ws (n_v vs 0) 115)) (w_fi ws (n_v vs 0) 100) (w_fi ws (n_v vs 0) 101) (w_fi ws (n_v vs 0) 107) (w_ei ws (w_ar ws (n_v vs 0) 114)) (w_ei ws (w_ar ws (n_v vs 0) 116)) k1 k2 k4 k5 k6 k7 k8 k9 d0 d1 d2 d3 f0 f1 f2 f3 f4 f5 f6 f7 f8 hK_0_102 hK_0_105 hK_0_108 hK_0_109 hK_0_110 hK_0_111 hK_0_112 hK_0_114 hK_0_115 hK_0_116 kz_0_100 kz_0_101 kz_0_107
  have nf1 : fc_1 PRD (20, [3, 6, 5, 9], [60, 0, 3, 472, 110, 112, 116]) ws (vs) := by
    refine ⟨nf_in hl rfl, sgq_754 ?_⟩
    · show IOK (w_ei ws (w_ar ws (n_v vs 3) 110)) (w_ei ws (w_ar ws (n_v vs 3) 112)) (w_ei ws (w_ar ws (n_v vs 3) 116)) (v_iv (n_v vs 6)) (v_iv (n_v vs 5)) (v_iv (n_v vs 9))
      simp only [q3, q5]
      exact vc_Mo_weigh_1_1 (v_iv (n_v vs 1)) (v_iv (n_v vs 2)) (v_iv (n_v vs 4)) (v_iv (n_v vs 5)) (v_iv (n_v vs 6)) (v_iv (n_v vs 7)) (v_iv (n_v vs 8)) (v_iv (n_v vs 9)) (w_ei ws (w_ar ws (n_v vs 0) 110)) (w_ei ws (w_ar ws (n_v vs 0) 111)) (w_ei ws (w_ar ws (n_v vs 0) 112)) (w_ei ws (w_ar ws (n_v vs 0) 102)) (w_ei ws (w_ar ws (n_v vs 0) 105)) (w_ei ws (w_ar ws (n_v vs 0) 108)) (w_ei ws (w_ar ws (n_v vs 0) 109)) (w_ei ws (w_ar ws (n_v vs 0) 115)) (w_fi ws (n_v vs 0) 100) (w_fi ws (n_v vs 0) 101) (w_fi ws (n_v vs 0) 107) (w_ei ws (w_ar ws (n_v vs 0) 114)) (w_ei ws (w_ar ws (n_v vs 0) 116)) k1 k2 k4 k5 k6 k7 k8 k9 d0 d1 d2 d3 f0 f1 f2 f3 f4 f5 f6 f7 f8 hK_0_102 hK_0_105 hK_0_108 hK_0_109 hK_0_110 hK_0_111 hK_0_112 hK_0_114 hK_0_115 hK_0_116 kz_0_100 kz_0_101 kz_0_107
  refine ⟨(fun _ h => (by cases h)), [], trivial, ?_, (fun _ h => (by cases h))⟩
  rw [List.append_nil]
  exact List.forall_mem_cons.mpr ⟨⟨show (20 : Nat) < 100 from by decide, nf0⟩, List.forall_mem_cons.mpr ⟨⟨show (20 : Nat) < 100 from by decide, nf1⟩, (fun _ h => (by cases h))⟩⟩
set_option maxHeartbeats 4000000 in
theorem vc_Mo_weigh_2_0 (x1 : Int) (x2 : Int) (x4 : Int) (x5 : Int) (x6 : Int) (x7 : Int) (x8 : Int) (x10 : Int) (x11 : Int) (permBegin_0 : Int → Int) (permMany_0 : Int → Int) (perm_0 : Int → Int) (itemLayer_0 : Int → Int) (layerSize_0 : Int → Int) (lineA_0 : Int → Int) (lineB_0 : Int → Int) (listed_0 : Int → Int) (items_0 : Int) (layerMany_0 : Int) (lines_0 : Int) (permBegin_1 : Int → Int) (permMany_1 : Int → Int) (perm_1 : Int → Int) (itemLayer_1 : Int → Int) (layerSize_1 : Int → Int) (lineA_1 : Int → Int) (lineB_1 : Int → Int) (listed_1 : Int → Int) (items_1 : Int) (layerMany_1 : Int) (lines_1 : Int) (worse_1 : Int → Int) (worse_0 : Int → Int) (k1 : 0 ≤ x1 ∧ x1 ≤ 75) (k2 : 0 ≤ x2 ∧ x2 ≤ 719) (k4 : 0 ≤ x4 ∧ x4 ≤ 75) (k5 : 0 ≤ x5 ∧ x5 ≤ 719) (k6 : 0 ≤ x6 ∧ x6 ≤ 76) (k7 : 0 ≤ x7 ∧ x7 ≤ 35) (k8 : 36 ≤ x8 ∧ x8 ≤ 36) (k10 : 0 ≤ x10 ∧ x10 ≤ 0) (k11 : 1 ≤ x11 ∧ x11 ≤ 36) (d0 : x7 + 1 ≤ x11 ∧ x11 ≤ x7 + 1) (d1 : x4 + (-4294967296) ≤ x1 ∧ x1 ≤ x4 + 0) (d2 : x5 + (-4294967296) ≤ x2 ∧ x2 ≤ x5 + 0) (d3 : x1 + (-4294967296) ≤ x4 ∧ x4 ≤ x1 + 0) (d4 : x2 + (-4294967296) ≤ x5 ∧ x5 ≤ x2 + 0) (f0 : x11 = x7 + 1) (f1 : PTB (permBegin_0) (permMany_0) (perm_0)) (f2 : LSG (items_0) (layerMany_0) (lines_0) (itemLayer_0) (layerSize_0) (lineA_0) (lineB_0) (listed_0)) (f3 : (0 ≤ x1) ∧ ((x1 + 1) ≤ layerMany_0)) (f4 : 0 ≤ x2) (f5 : (x2 + 1) ≤ permMany_0 (x6)) (f6 : x6 = layerSize_0 (x1)) (f7 : x6 ≤ 6) (f13 : x7 < x8) (f14 : PTB (permBegin_1) (permMany_1) (perm_1)) (f15 : LSG (items_1) (layerMany_1) (lines_1) (itemLayer_1) (layerSize_1) (lineA_1) (lineB_1) (listed_1)) (f16 : (0 ≤ x1) ∧ ((x1 + 1) ≤ layerMany_1)) (f17 : 0 ≤ x2) (f18 : (x2 + 1) ≤ permMany_1 (x6)) (f19 : x6 = layerSize_1 (x1)) (f20 : x6 ≤ 6) (f21 : WZ0 (worse_1) (x7)) (fe_0_100_1 : items_0 = items_1) (fe_0_101_1 : layerMany_0 = layerMany_1) (fe_0_107_1 : lines_0 = lines_1) (hE_0_102_1 : ∀ j : Int, itemLayer_0 j = itemLayer_1 j) (hK_0_102 : ∀ j : Int, 0 ≤ j → j < 76 → 0 ≤ itemLayer_0 j ∧ itemLayer_0 j ≤ 75) (hE_0_105_1 : ∀ j : Int, layerSize_0 j = layerSize_1 j) (hK_0_105 : ∀ j : Int, 0 ≤ j → j < 76 → 0 ≤ layerSize_0 j ∧ layerSize_0 j ≤ 76) (hE_0_108_1 : ∀ j : Int, lineA_0 j = lineA_1 j) (hK_0_108 : ∀ j : Int, 0 ≤ j → j < 130 → 0 ≤ lineA_0 j ∧ lineA_0 j ≤ 75) (hE_0_109_1 : ∀ j : Int, lineB_0 j = lineB_1 j) (hK_0_109 : ∀ j : Int, 0 ≤ j → j < 130 → 0 ≤ lineB_0 j ∧ lineB_0 j ≤ 75) (hE_0_110_1 : ∀ j : Int, permBegin_0 j = permBegin_1 j) (hK_0_110 : ∀ j : Int, 0 ≤ j → j < 8 → 0 ≤ permBegin_0 j ∧ permBegin_0 j ≤ 5500) (hE_0_111_1 : ∀ j : Int, permMany_0 j = permMany_1 j) (hK_0_111 : ∀ j : Int, 0 ≤ j → j < 8 → 0 ≤ permMany_0 j ∧ permMany_0 j ≤ 720) (hE_0_112_1 : ∀ j : Int, perm_0 j = perm_1 j) (hK_0_112 : ∀ j : Int, 0 ≤ j → j < 6000 → 0 ≤ perm_0 j ∧ perm_0 j ≤ 5) (hE_0_114_1 : ∀ j : Int, 0 ≤ j → (j = x7 → worse_0 j = x10) ∧ (j ≠ x7 → worse_0 j = worse_1 j)) (hK_0_114 : ∀ j : Int, 0 ≤ j → j < 36 → 0 ≤ worse_0 j ∧ worse_0 j ≤ 14400) (hE_0_115_1 : ∀ j : Int, listed_0 j = listed_1 j) (hK_0_115 : ∀ j : Int, 0 ≤ j → j < 76 → 0 ≤ listed_0 j ∧ listed_0 j ≤ 75) (kz_0_100 : 0 ≤ items_0 ∧ items_0 ≤ 76) (kz_0_101 : 0 ≤ layerMany_0 ∧ layerMany_0 ≤ 76) (kz_0_107 : 0 ≤ lines_0 ∧ lines_0 ≤ 130) : WZ0 (worse_0) (x11) := by
  subst fe_0_100_1
  subst fe_0_101_1
  subst fe_0_107_1
  have e_hE_0_102_1 := funext hE_0_102_1; subst e_hE_0_102_1
  have e_hE_0_105_1 := funext hE_0_105_1; subst e_hE_0_105_1
  have e_hE_0_108_1 := funext hE_0_108_1; subst e_hE_0_108_1
  have e_hE_0_109_1 := funext hE_0_109_1; subst e_hE_0_109_1
  have e_hE_0_110_1 := funext hE_0_110_1; subst e_hE_0_110_1
  have e_hE_0_111_1 := funext hE_0_111_1; subst e_hE_0_111_1
  have e_hE_0_112_1 := funext hE_0_112_1; subst e_hE_0_112_1
  have e_hE_0_115_1 := funext hE_0_115_1; subst e_hE_0_115_1
  first
    | (intro x a b; exfalso; omega)
    | exact wz0_step ‹WZ0 _ _› (by assumption) (by assumption) rfl (by omega)
def o_Mo_weigh_2 : or_T := (10, 12, [(0, (2, 0, 0, [165])), (1, (0, 0, 75, [])), (2, (0, 0, 719, [])), (4, (0, 0, 75, [])), (5, (0, 0, 719, [])), (6, (0, 0, 76, [])), (7, (0, 0, 35, [])), (8, (0, 36, 36, [])), (9, (2, 0, 0, [246])), (10, (0, 0, 0, [])), (11, (0, 1, 36, []))], [(6, [11, 7], [1]), (20, [3], [60, 0, 3, 367, 110, 111, 112]), (20, [3], [60, 3, 5, 474, 100, 101, 107, 102, 105, 108, 109, 115]), (20, [4, 3], [50, 1, 0, 1101, 2, 6, 0, 2, 0, 0, 1, 0, 0, 6, 4, 2, 1, 0, 0, 1, 2, 1, 101]), (20, [5], [50, 0, 0, 0, 2, 0, 0, 1, 0]), (20, [5, 3, 6], [50, 0, 1, 1111, 0, 6, 4, 2, 1, 0, 0, 1, 3, 1, 111, 1, 2]), (20, [6, 3, 4], [50, 0, 1, 1105, 1, 2, 1, 0, 3, 1, 105, 1, 2]), (20, [6], [50, 0, 0, 0, 2, 1, 0, 0, 6]), (24, [0, 3], []), (24, [1, 4], []), (24, [2, 5], []), (100, [9, 7, 10], []), (9, [9, 3], [114]), (7, [7, 8], [2]), (20, [3], [60, 0, 3, 367, 110, 111, 112]), (20, [3], [60, 3, 5, 474, 100, 101, 107, 102, 105, 108, 109, 115]), (20, [4, 3], [50, 1, 0, 1101, 2, 6, 0, 2, 0, 0, 1, 0, 0, 6, 4, 2, 1, 0, 0, 1, 2, 1, 101]), (20, [5], [50, 0, 0, 0, 2, 0, 0, 1, 0]), (20, [5, 3, 6], [50, 0, 1, 1111, 0, 6, 4, 2, 1, 0, 0, 1, 3, 1, 111, 1, 2]), (20, [6, 3, 4], [50, 0, 1, 1105, 1, 2, 1, 0, 3, 1, 105, 1, 2]), (20, [6], [50, 0, 0, 0, 2, 1, 0, 0, 6]), (20, [3, 7], [60, 0, 1, 471, 114])], [], [], [(20, [3, 11], [60, 0, 1, 471, 114])], [], [(11, 7, 1, 1), (1, 4, -4294967296, 0), (2, 5, -4294967296, 0), (4, 1, -4294967296, 0), (5, 2, -4294967296, 0)])
theorem oo_Mo_weigh_2 {kA : Nat → ClassId} : or_ok PRD kA GG o_Mo_weigh_2 := by
  refine or_mk fun A ta ws vs hD hth hl => ?_
  intro t0 r0 t1 k1 t2 k2 t4 k4 t5 k5 t6 k6 t7 k7 t8 k8 t9 r9 t10 k10 t11 k11 d0 d1 d2 d3 d4 f0 f1 f2 f3 f4 f5 f6 f7 f8 f9 f10 ta1 w1 le1 s1 f12 f13 f14 f15 f16 f17 f18 f19 f20 f21
  replace f0 := shm_4 f0
  replace f1 := shm_718 f1
  replace f2 := shm_751 f2
  replace f3 := shm_721 f3
  replace f4 := shm_722 f4
  replace f5 := shm_723 f5
  replace f6 := shm_724 f6
  replace f7 := shm_395 f7
  replace f8 := shm_5 f8
  replace f9 := shm_5 f9
  replace f10 := shm_5 f10
  have s1 : (∀ b j, w_el ws b j = if b = v_ad (n_v vs 9) ∧ j = (v_iv (n_v vs 7)).toNat then v_iv (n_v vs 10) else w_el w1 b j) ∧ ∀ b k, w_fd ws b k = w_fd w1 b k := s1.2
  replace f12 := shm_755 f12
  replace f13 := shm_6 f13
  replace f14 := shm_718 f14
  replace f15 := shm_751 f15
  replace f16 := shm_721 f16
  replace f17 := shm_722 f17
  replace f18 := shm_723 f18
  replace f19 := shm_724 f19
  replace f20 := shm_395 f20
  replace f21 := shm_752 f21
  have q3 : n_v vs 3 = n_v vs 0 := f8.symm
  have q4 : n_v vs 4 = n_v vs 1 := f9.symm
  have q5 : n_v vs 5 = n_v vs 2 := f10.symm
  simp only [q3, q4, q5] at f1 f2 f3 f4 f5 f6 f12 f14 f15 f16 f17 f18 f19 f21
  have ar_0_102_1 : w_ar w1 (n_v vs 0) 102 = w_ar ws (n_v vs 0) 102 := congrArg v_ad (s1.2 _ _).symm
  have cr_0_102 := fdq_159 hD hth r0
  have ar_0_105_1 : w_ar w1 (n_v vs 0) 105 = w_ar ws (n_v vs 0) 105 := congrArg v_ad (s1.2 _ _).symm
  have cr_0_105 := fdq_122 hD hth r0
  have ar_0_108_1 : w_ar w1 (n_v vs 0) 108 = w_ar ws (n_v vs 0) 108 := congrArg v_ad (s1.2 _ _).symm
  have cr_0_108 := fdq_160 hD hth r0
  have ar_0_109_1 : w_ar w1 (n_v vs 0) 109 = w_ar ws (n_v vs 0) 109 := congrArg v_ad (s1.2 _ _).symm
  have cr_0_109 := fdq_161 hD hth r0
  have ar_0_110_1 : w_ar w1 (n_v vs 0) 110 = w_ar ws (n_v vs 0) 110 := congrArg v_ad (s1.2 _ _).symm
  have cr_0_110 := fdq_184 hD hth r0
  have ar_0_111_1 : w_ar w1 (n_v vs 0) 111 = w_ar ws (n_v vs 0) 111 := congrArg v_ad (s1.2 _ _).symm
  have cr_0_111 := fdq_185 hD hth r0
  have ar_0_112_1 : w_ar w1 (n_v vs 0) 112 = w_ar ws (n_v vs 0) 112 := congrArg v_ad (s1.2 _ _).symm
  have cr_0_112 := fdq_186 hD hth r0
  have ar_0_114_1 : w_ar w1 (n_v vs 0) 114 = w_ar ws (n_v vs 0) 114 := congrArg v_ad (s1.2 _ _).symm
  have cr_0_114 := fdq_193 hD hth r0
  have ar_0_115_1 : w_ar w1 (n_v vs 0) 115 = w_ar ws (n_v vs 0) 115 := congrArg v_ad (s1.2 _ _).symm
  have cr_0_115 := fdq_194 hD hth r0
  have ad_9 : v_ad (n_v vs 9) = w_ar ws (n_v vs 0) 114 := (congrArg v_ad f12).trans ar_0_114_1
  simp only [ar_0_110_1, ar_0_111_1, ar_0_112_1, ar_0_102_1, ar_0_105_1, ar_0_108_1, ar_0_109_1, ar_0_115_1, ar_0_114_1] at f14 f15 f18 f19 f21
  have fe_0_100_1 : w_fi ws (n_v vs 0) 100 = w_fi w1 (n_v vs 0) 100 := congrArg v_iv (s1.2 _ _)
  have fe_0_101_1 : w_fi ws (n_v vs 0) 101 = w_fi w1 (n_v vs 0) 101 := congrArg v_iv (s1.2 _ _)
  have fe_0_107_1 : w_fi ws (n_v vs 0) 107 = w_fi w1 (n_v vs 0) 107 := congrArg v_iv (s1.2 _ _)
  have hE_0_102_1 : ∀ j : Int, w_ei ws (w_ar ws (n_v vs 0) 102) j = w_ei w1 (w_ar ws (n_v vs 0) 102) j := el_kp s1.1 r9 cr_0_102 (by decide)
  have hK_0_102 := elq_91 hD hth cr_0_102
  have hE_0_105_1 : ∀ j : Int, w_ei ws (w_ar ws (n_v vs 0) 105) j = w_ei w1 (w_ar ws (n_v vs 0) 105) j := el_kp s1.1 r9 cr_0_105 (by decide)
  have hK_0_105 := elq_65 hD hth cr_0_105
  have hE_0_108_1 : ∀ j : Int, w_ei ws (w_ar ws (n_v vs 0) 108) j = w_ei w1 (w_ar ws (n_v vs 0) 108) j := el_kp s1.1 r9 cr_0_108 (by decide)
  have hK_0_108 := elq_92 hD hth cr_0_108
  have hE_0_109_1 : ∀ j : Int, w_ei ws (w_ar ws (n_v vs 0) 109) j = w_ei w1 (w_ar ws (n_v vs 0) 109) j := el_kp s1.1 r9 cr_0_109 (by decide)
  have hK_0_109 := elq_93 hD hth cr_0_109
  have hE_0_110_1 : ∀ j : Int, w_ei ws (w_ar ws (n_v vs 0) 110) j = w_ei w1 (w_ar ws (n_v vs 0) 110) j := el_kp s1.1 r9 cr_0_110 (by decide)
  have hK_0_110 := elq_110 hD hth cr_0_110
  have hE_0_111_1 : ∀ j : Int, w_ei ws (w_ar ws (n_v vs 0) 111) j = w_ei w1 (w_ar ws (n_v vs 0) 111) j := el_kp s1.1 r9 cr_0_111 (by decide)
  have hK_0_111 := elq_111 hD hth cr_0_111
  have hE_0_112_1 : ∀ j : Int, w_ei ws (w_ar ws (n_v vs 0) 112) j = w_ei w1 (w_ar ws (n_v vs 0) 112) j := el_kp s1.1 r9 cr_0_112 (by decide)
  have hK_0_112 := elq_112 hD hth cr_0_112
  have hE_0_114_1 : ∀ j : Int, 0 ≤ j → (j = v_iv (n_v vs 7) → w_ei ws (w_ar ws (n_v vs 0) 114) j = v_iv (n_v vs 10)) ∧ (j ≠ v_iv (n_v vs 7) → w_ei ws (w_ar ws (n_v vs 0) 114) j = w_ei w1 (w_ar ws (n_v vs 0) 114) j) := fun j hj => ⟨fun h => by unfold w_ei; rw [s1.1, if_pos ⟨ad_9.symm, by rw [h]⟩], fun h => by unfold w_ei; rw [s1.1, if_neg (fun e => h (by have := e.2; omega))]⟩
  have hK_0_114 := elq_116 hD hth cr_0_114
  have hE_0_115_1 : ∀ j : Int, w_ei ws (w_ar ws (n_v vs 0) 115) j = w_ei w1 (w_ar ws (n_v vs 0) 115) j := el_kp s1.1 r9 cr_0_115 (by decide)
  have hK_0_115 := elq_117 hD hth cr_0_115
  have kz_0_100 := fdq_162 hD hth r0
  have kz_0_101 := fdq_125 hD hth r0
  have kz_0_107 := fdq_163 hD hth r0
  have nf0 : fc_1 PRD (20, [3, 11], [60, 0, 1, 471, 114]) ws (vs) := by
    refine ⟨nf_in hl rfl, sgq_752 ?_⟩
    · show WZ0 (w_ei ws (w_ar ws (n_v vs 3) 114)) (v_iv (n_v vs 11))
      rw [q3]
      exact vc_Mo_weigh_2_0 (v_iv (n_v vs 1)) (v_iv (n_v vs 2)) (v_iv (n_v vs 4)) (v_iv (n_v vs 5)) (v_iv (n_v vs 6)) (v_iv (n_v vs 7)) (v_iv (n_v vs 8)) (v_iv (n_v vs 10)) (v_iv (n_v vs 11)) (w_ei ws (w_ar ws (n_v vs 0) 110)) (w_ei ws (w_ar ws (n_v vs 0) 111)) (w_ei ws (w_ar ws (n_v vs 0) 112)) (w_ei ws (w_ar ws (n_v vs 0) 102)) (w_ei ws (w_ar ws (n_v vs 0) 105)) (w_ei ws (w_ar ws (n_v vs 0) 108)) (w_ei ws (w_ar ws (n_v vs 0) 109)) (w_ei ws (w_ar ws (n_v vs 0) 115)) (w_fi ws (n_v vs 0) 100) (w_fi ws (n_v vs 0) 101) (w_fi ws (n_v vs 0) 107) (w_ei w1 (w_ar ws (n_v vs 0) 110)) (w_ei w1 (w_ar ws (n_v vs 0) 111)) (w_ei w1 (w_ar ws (n_v vs 0) 112)) (w_ei w1 (w_ar ws (n_v vs 0) 102)) (w_ei w1 (w_ar ws (n_v vs 0) 105)) (w_ei w1 (w_ar ws (n_v vs 0) 108)) (w_ei w1 (w_ar ws (n_v vs 0) 109)) (w_ei w1 (w_ar ws (n_v vs 0) 115)) (w_fi w1 (n_v vs 0) 100) (w_fi w1 (n_v vs 0) 101) (w_fi w1 (n_v vs 0) 107) (w_ei w1 (w_ar ws (n_v vs 0) 114)) (w_ei ws (w_ar ws (n_v vs 0) 114)) k1 k2 k4 k5 k6 k7 k8 k10 k11 d0 d1 d2 d3 d4 f0 f1 f2 f3 f4 f5 f6 f7 f13 f14 f15 f16 f17 f18 f19 f20 f21 fe_0_100_1 fe_0_101_1 fe_0_107_1 hE_0_102_1 hK_0_102 hE_0_105_1 hK_0_105 hE_0_108_1 hK_0_108 hE_0_109_1 hK_0_109 hE_0_110_1 hK_0_110 hE_0_111_1 hK_0_111 hE_0_112_1 hK_0_112 hE_0_114_1 hK_0_114 hE_0_115_1 hK_0_115 kz_0_100 kz_0_101 kz_0_107
  refine ⟨(fun _ h => (by cases h)), [], trivial, ?_, (fun _ h => (by cases h))⟩
  rw [List.append_nil]
  exact List.forall_mem_cons.mpr ⟨⟨show (20 : Nat) < 100 from by decide, nf0⟩, (fun _ h => (by cases h))⟩
set_option maxHeartbeats 4000000 in
theorem vc_Mo_weigh_3_0 (x1 : Int) (x2 : Int) (x4 : Int) (x5 : Int) (x6 : Int) (x7 : Int) (x8 : Int) (permBegin_0 : Int → Int) (permMany_0 : Int → Int) (perm_0 : Int → Int) (itemLayer_0 : Int → Int) (layerSize_0 : Int → Int) (lineA_0 : Int → Int) (lineB_0 : Int → Int) (listed_0 : Int → Int) (items_0 : Int) (layerMany_0 : Int) (lines_0 : Int) (worse_0 : Int → Int) (inOrder_0 : Int → Int) (k1 : 0 ≤ x1 ∧ x1 ≤ 75) (k2 : 0 ≤ x2 ∧ x2 ≤ 719) (k4 : 0 ≤ x4 ∧ x4 ≤ 75) (k5 : 0 ≤ x5 ∧ x5 ≤ 719) (k6 : 0 ≤ x6 ∧ x6 ≤ 6) (k7 : 0 ≤ x7 ∧ x7 ≤ 6) (k8 : 0 ≤ x8 ∧ x8 ≤ 0) (d0 : x6 + 0 ≤ x7 ∧ x7 ≤ x6 + 4294967296) (d1 : x4 + (-4294967296) ≤ x1 ∧ x1 ≤ x4 + 0) (d2 : x5 + (-4294967296) ≤ x2 ∧ x2 ≤ x5 + 0) (d3 : x1 + (-4294967296) ≤ x4 ∧ x4 ≤ x1 + 0) (d4 : x2 + (-4294967296) ≤ x5 ∧ x5 ≤ x2 + 0) (d5 : x6 + (-4294967296) ≤ x7 ∧ x7 ≤ x6 + 0) (f0 : x6 ≤ x7) (f1 : PTB (permBegin_0) (permMany_0) (perm_0)) (f2 : LSG (items_0) (layerMany_0) (lines_0) (itemLayer_0) (layerSize_0) (lineA_0) (lineB_0) (listed_0)) (f3 : (0 ≤ x1) ∧ ((x1 + 1) ≤ layerMany_0)) (f4 : 0 ≤ x2) (f5 : (x2 + 1) ≤ permMany_0 (x6)) (f6 : x6 = layerSize_0 (x1)) (f7 : x6 ≤ 6) (f8 : WZF (worse_0)) (f9 : IOK (permBegin_0) (perm_0) (inOrder_0) (x6) (x2) (x7)) (hK_0_102 : ∀ j : Int, 0 ≤ j → j < 76 → 0 ≤ itemLayer_0 j ∧ itemLayer_0 j ≤ 75) (hK_0_105 : ∀ j : Int, 0 ≤ j → j < 76 → 0 ≤ layerSize_0 j ∧ layerSize_0 j ≤ 76) (hK_0_108 : ∀ j : Int, 0 ≤ j → j < 130 → 0 ≤ lineA_0 j ∧ lineA_0 j ≤ 75) (hK_0_109 : ∀ j : Int, 0 ≤ j → j < 130 → 0 ≤ lineB_0 j ∧ lineB_0 j ≤ 75) (hK_0_110 : ∀ j : Int, 0 ≤ j → j < 8 → 0 ≤ permBegin_0 j ∧ permBegin_0 j ≤ 5500) (hK_0_111 : ∀ j : Int, 0 ≤ j → j < 8 → 0 ≤ permMany_0 j ∧ permMany_0 j ≤ 720) (hK_0_112 : ∀ j : Int, 0 ≤ j → j < 6000 → 0 ≤ perm_0 j ∧ perm_0 j ≤ 5) (hK_0_114 : ∀ j : Int, 0 ≤ j → j < 36 → 0 ≤ worse_0 j ∧ worse_0 j ≤ 14400) (hK_0_115 : ∀ j : Int, 0 ≤ j → j < 76 → 0 ≤ listed_0 j ∧ listed_0 j ≤ 75) (hK_0_116 : ∀ j : Int, 0 ≤ j → j < 6 → 0 ≤ inOrder_0 j ∧ inOrder_0 j ≤ 5) (kz_0_100 : 0 ≤ items_0 ∧ items_0 ≤ 76) (kz_0_101 : 0 ≤ layerMany_0 ∧ layerMany_0 ≤ 76) (kz_0_107 : 0 ≤ lines_0 ∧ lines_0 ≤ 130) : IOF (permBegin_0) (perm_0) (inOrder_0) (layerSize_0) (x1) (x2) := by
  first
    | assumption
    | (have h := ‹IOK _ _ _ _ _ _›
       have e : x6 = layerSize_0 x1 := by assumption
       unfold IOF; rw [← e]; exact fun j a b => h j a (by omega))
set_option maxHeartbeats 4000000 in
theorem vc_Mo_weigh_3_1 (x1 : Int) (x2 : Int) (x4 : Int) (x5 : Int) (x6 : Int) (x7 : Int) (x8 : Int) (permBegin_0 : Int → Int) (permMany_0 : Int → Int) (perm_0 : Int → Int) (itemLayer_0 : Int → Int) (layerSize_0 : Int → Int) (lineA_0 : Int → Int) (lineB_0 : Int → Int) (listed_0 : Int → Int) (items_0 : Int) (layerMany_0 : Int) (lines_0 : Int) (worse_0 : Int → Int) (inOrder_0 : Int → Int) (k1 : 0 ≤ x1 ∧ x1 ≤ 75) (k2 : 0 ≤ x2 ∧ x2 ≤ 719) (k4 : 0 ≤ x4 ∧ x4 ≤ 75) (k5 : 0 ≤ x5 ∧ x5 ≤ 719) (k6 : 0 ≤ x6 ∧ x6 ≤ 6) (k7 : 0 ≤ x7 ∧ x7 ≤ 6) (k8 : 0 ≤ x8 ∧ x8 ≤ 0) (d0 : x6 + 0 ≤ x7 ∧ x7 ≤ x6 + 4294967296) (d1 : x4 + (-4294967296) ≤ x1 ∧ x1 ≤ x4 + 0) (d2 : x5 + (-4294967296) ≤ x2 ∧ x2 ≤ x5 + 0) (d3 : x1 + (-4294967296) ≤ x4 ∧ x4 ≤ x1 + 0) (d4 : x2 + (-4294967296) ≤ x5 ∧ x5 ≤ x2 + 0) (d5 : x6 + (-4294967296) ≤ x7 ∧ x7 ≤ x6 + 0) (f0 : x6 ≤ x7) (f1 : PTB (permBegin_0) (permMany_0) (perm_0)) (f2 : LSG (items_0) (layerMany_0) (lines_0) (itemLayer_0) (layerSize_0) (lineA_0) (lineB_0) (listed_0)) (f3 : (0 ≤ x1) ∧ ((x1 + 1) ≤ layerMany_0)) (f4 : 0 ≤ x2) (f5 : (x2 + 1) ≤ permMany_0 (x6)) (f6 : x6 = layerSize_0 (x1)) (f7 : x6 ≤ 6) (f8 : WZF (worse_0)) (f9 : IOK (permBegin_0) (perm_0) (inOrder_0) (x6) (x2) (x7)) (hK_0_102 : ∀ j : Int, 0 ≤ j → j < 76 → 0 ≤ itemLayer_0 j ∧ itemLayer_0 j ≤ 75) (hK_0_105 : ∀ j : Int, 0 ≤ j → j < 76 → 0 ≤ layerSize_0 j ∧ layerSize_0 j ≤ 76) (hK_0_108 : ∀ j : Int, 0 ≤ j → j < 130 → 0 ≤ lineA_0 j ∧ lineA_0 j ≤ 75) (hK_0_109 : ∀ j : Int, 0 ≤ j → j < 130 → 0 ≤ lineB_0 j ∧ lineB_0 j ≤ 75) (hK_0_110 : ∀ j : Int, 0 ≤ j → j < 8 → 0 ≤ permBegin_0 j ∧ permBegin_0 j ≤ 5500) (hK_0_111 : ∀ j : Int, 0 ≤ j → j < 8 → 0 ≤ permMany_0 j ∧ permMany_0 j ≤ 720) (hK_0_112 : ∀ j : Int, 0 ≤ j → j < 6000 → 0 ≤ perm_0 j ∧ perm_0 j ≤ 5) (hK_0_114 : ∀ j : Int, 0 ≤ j → j < 36 → 0 ≤ worse_0 j ∧ worse_0 j ≤ 14400) (hK_0_115 : ∀ j : Int, 0 ≤ j → j < 76 → 0 ≤ listed_0 j ∧ listed_0 j ≤ 75) (hK_0_116 : ∀ j : Int, 0 ≤ j → j < 6 → 0 ≤ inOrder_0 j ∧ inOrder_0 j ≤ 5) (kz_0_100 : 0 ≤ items_0 ∧ items_0 ≤ 76) (kz_0_101 : 0 ≤ layerMany_0 ∧ layerMany_0 ≤ 76) (kz_0_107 : 0 ≤ lines_0 ∧ lines_0 ≤ 130) : WG1 (lines_0) (layerSize_0) (permBegin_0) (perm_0) (itemLayer_0) (lineA_0) (lineB_0) (listed_0) (worse_0) (x1) (x2) (x8) := by
  first
    | assumption
    | exact wg1_start ‹WZF _› (by omega) (by omega)
    | exact wg1_skip (u := x11) (v := x12) ‹WG1 _ _ _ _ _ _ _ _ _ _ _ _› (by omega) (by assumption) (by assumption) (by assumption) (by omega)
    | exact wg2_end ‹WG2 _ _ _ _ _ _ _ _ _ _ _ _ _› (by omega) (by assumption) (by omega)
set_option maxHeartbeats 4000000 in
theorem vc_Mo_weigh_3_2 (x1 : Int) (x2 : Int) (x4 : Int) (x5 : Int) (x6 : Int) (x7 : Int) (x8 : Int) (permBegin_0 : Int → Int) (permMany_0 : Int → Int) (perm_0 : Int → Int) (itemLayer_0 : Int → Int) (layerSize_0 : Int → Int) (lineA_0 : Int → Int) (lineB_0 : Int → Int) (listed_0 : Int → Int) (items_0 : Int) (layerMany_0 : Int) (lines_0 : Int) (worse_0 : Int → Int) (inOrder_0 : Int → Int) (k1 : 0 ≤ x1 ∧ x1 ≤ 75) (k2 : 0 ≤ x2 ∧ x2 ≤ 719) (k4 : 0 ≤ x4 ∧ x4 ≤ 75) (k5 : 0 ≤ x5 ∧ x5 ≤ 719) (k6 : 0 ≤ x6 ∧ x6 ≤ 6) (k7 : 0 ≤ x7 ∧ x7 ≤ 6) (k8 : 0 ≤ x8 ∧ x8 ≤ 0) (d0 : x6 + 0 ≤ x7 ∧ x7 ≤ x6 + 4294967296) (d1 : x4 + (-4294967296) ≤ x1 ∧ x1 ≤ x4 + 0) (d2 : x5 + (-4294967296) ≤ x2 ∧ x2 ≤ x5 + 0) (d3 : x1 + (-4294967296) ≤ x4 ∧ x4 ≤ x1 + 0) (d4 : x2 + (-4294967296) ≤ x5 ∧ x5 ≤ x2 + 0) (d5 : x6 + (-4294967296) ≤ x7 ∧ x7 ≤ x6 + 0) (f0 : x6 ≤ x7) (f1 : PTB (permBegin_0) (permMany_0) (perm_0)) (f2 : LSG (items_0) (layerMany_0) (lines_0) (itemLayer_0) (layerSize_0) (lineA_0) (lineB_0) (listed_0)) (f3 : (0 ≤ x1) ∧ ((x1 + 1) ≤ layerMany_0)) (f4 : 0 ≤ x2) (f5 : (x2 + 1) ≤ permMany_0 (x6)) (f6 : x6 = layerSize_0 (x1)) (f7 : x6 ≤ 6) (f8 : WZF (worse_0)) (f9 : IOK (permBegin_0) (perm_0) (inOrder_0) (x6) (x2) (x7)) (hK_0_102 : ∀ j : Int, 0 ≤ j → j < 76 → 0 ≤ itemLayer_0 j ∧ itemLayer_0 j ≤ 75) (hK_0_105 : ∀ j : Int, 0 ≤ j → j < 76 → 0 ≤ layerSize_0 j ∧ layerSize_0 j ≤ 76) (hK_0_108 : ∀ j : Int, 0 ≤ j → j < 130 → 0 ≤ lineA_0 j ∧ lineA_0 j ≤ 75) (hK_0_109 : ∀ j : Int, 0 ≤ j → j < 130 → 0 ≤ lineB_0 j ∧ lineB_0 j ≤ 75) (hK_0_110 : ∀ j : Int, 0 ≤ j → j < 8 → 0 ≤ permBegin_0 j ∧ permBegin_0 j ≤ 5500) (hK_0_111 : ∀ j : Int, 0 ≤ j → j < 8 → 0 ≤ permMany_0 j ∧ permMany_0 j ≤ 720) (hK_0_112 : ∀ j : Int, 0 ≤ j → j < 6000 → 0 ≤ perm_0 j ∧ perm_0 j ≤ 5) (hK_0_114 : ∀ j : Int, 0 ≤ j → j < 36 → 0 ≤ worse_0 j ∧ worse_0 j ≤ 14400) (hK_0_115 : ∀ j : Int, 0 ≤ j → j < 76 → 0 ≤ listed_0 j ∧ listed_0 j ≤ 75) (hK_0_116 : ∀ j : Int, 0 ≤ j → j < 6 → 0 ≤ inOrder_0 j ∧ inOrder_0 j ≤ 5) (kz_0_100 : 0 ≤ items_0 ∧ items_0 ≤ 76) (kz_0_101 : 0 ≤ layerMany_0 ∧ layerMany_0 ≤ 76) (kz_0_107 : 0 ≤ lines_0 ∧ lines_0 ≤ 130) : x8 ≤ lines_0 := by
  first
    | omega
    | (rw [‹x4 = layerSize_0 x1›]; assumption)
    | (have h := ‹LSG _ _ _ _ _ _ _ _›.1 x1 (by omega) (by omega); omega)
    | (have e1 : x11 = lineA_0 x7 := by assumption
       have e2 : x12 = itemLayer_0 x11 := by assumption
       rw [← e1, ← e2]; omega)
def o_Mo_weigh_3 : or_T := (74, 9, [(0, (2, 0, 0, [165])), (1, (0, 0, 75, [])), (2, (0, 0, 719, [])), (4, (0, 0, 75, [])), (5, (0, 0, 719, [])), (6, (0, 0, 6, [])), (7, (0, 0, 6, [])), (8, (0, 0, 0, []))], [(7, [7, 6], [3]), (20, [3], [60, 0, 3, 367, 110, 111, 112]), (20, [3], [60, 3, 5, 474, 100, 101, 107, 102, 105, 108, 109, 115]), (20, [4, 3], [50, 1, 0, 1101, 2, 6, 0, 2, 0, 0, 1, 0, 0, 6, 4, 2, 1, 0, 0, 1, 2, 1, 101]), (20, [5], [50, 0, 0, 0, 2, 0, 0, 1, 0]), (20, [5, 3, 6], [50, 0, 1, 1111, 0, 6, 4, 2, 1, 0, 0, 1, 3, 1, 111, 1, 2]), (20, [6, 3, 4], [50, 0, 1, 1105, 1, 2, 1, 0, 3, 1, 105, 1, 2]), (20, [6], [50, 0, 0, 0, 2, 1, 0, 0, 6]), (20, [3], [60, 0, 1, 488, 114]), (20, [3, 6, 5, 7], [60, 0, 3, 472, 110, 112, 116]), (24, [0, 3], []), (24, [1, 4], []), (24, [2, 5], [])], [], [], [(20, [3, 4, 5], [60, 0, 4, 473, 110, 112, 116, 105]), (20, [3, 4, 5, 8], [60, 1, 8, 475, 107, 105, 110, 112, 102, 108, 109, 115, 114]), (20, [8, 3], [50, 1, 0, 1107, 0, 2, 1, 0, 2, 1, 107])], [], [(7, 6, 0, 4294967296), (1, 4, -4294967296, 0), (2, 5, -4294967296, 0), (4, 1, -4294967296, 0), (5, 2, -4294967296, 0), (7, 6, -4294967296, 0)])
theorem oo_Mo_weigh_3 {kA : Nat → ClassId} : or_ok PRD kA GG o_Mo_weigh_3 := by
  refine or_mk fun A ta ws vs hD hth hl => ?_
  intro t0 r0 t1 k1 t2 k2 t4 k4 t5 k5 t6 k6 t7 k7 t8 k8 d0 d1 d2 d3 d4 d5 f0 f1 f2 f3 f4 f5 f6 f7 f8 f9 f10 f11 f12
  replace f0 := shm_2 f0
  replace f1 := shm_718 f1
  replace f2 := shm_751 f2
  replace f3 := shm_721 f3
  replace f4 := shm_722 f4
  replace f5 := shm_723 f5
  replace f6 := shm_724 f6
  replace f7 := shm_395 f7
  replace f8 := shm_753 f8
  replace f9 := shm_754 f9
  replace f10 := shm_5 f10
  replace f11 := shm_5 f11
  replace f12 := shm_5 f12
  have q3 : n_v vs 3 = n_v vs 0 := f10.symm
  have q4 : n_v vs 4 = n_v vs 1 := f11.symm
  have q5 : n_v vs 5 = n_v vs 2 := f12.symm
  simp only [q3, q4, q5] at f1 f2 f3 f4 f5 f6 f8 f9
  have cr_0_102 := fdq_159 hD hth r0
  have cr_0_105 := fdq_122 hD hth r0
  have cr_0_108 := fdq_160 hD hth r0
  have cr_0_109 := fdq_161 hD hth r0
  have cr_0_110 := fdq_184 hD hth r0
  have cr_0_111 := fdq_185 hD hth r0
  have cr_0_112 := fdq_186 hD hth r0
  have cr_0_114 := fdq_193 hD hth r0
  have cr_0_115 := fdq_194 hD hth r0
  have cr_0_116 := fdq_195 hD hth r0
  have hK_0_102 := elq_91 hD hth cr_0_102
  have hK_0_105 := elq_65 hD hth cr_0_105
  have hK_0_108 := elq_92 hD hth cr_0_108
  have hK_0_109 := elq_93 hD hth cr_0_109
  have hK_0_110 := elq_110 hD hth cr_0_110
  have hK_0_111 := elq_111 hD hth cr_0_111
  have hK_0_112 := elq_112 hD hth cr_0_112
  have hK_0_114 := elq_116 hD hth cr_0_114
  have hK_0_115 := elq_117 hD hth cr_0_115
  have hK_0_116 := elq_118 hD hth cr_0_116
  have kz_0_100 := fdq_162 hD hth r0
  have kz_0_101 := fdq_125 hD hth r0
  have kz_0_107 := fdq_163 hD hth r0
  have nf0 : fc_1 PRD (20, [3, 4, 5], [60, 0, 4, 473, 110, 112, 116, 105]) ws (vs) := by
    refine ⟨nf_in hl rfl, sgq_756 ?_⟩
    · show IOF (w_ei ws (w_ar ws (n_v vs 3) 110)) (w_ei ws (w_ar ws (n_v vs 3) 112)) (w_ei ws (w_ar ws (n_v vs 3) 116)) (w_ei ws (w_ar ws (n_v vs 3) 105)) (v_iv (n_v vs 4)) (v_iv (n_v vs 5))
      simp only [q3, q4, q5]
      exact vc_Mo_weigh_3_0 (v_iv (n_v vs 1)) (v_iv (n_v vs 2)) (v_iv (n_v vs 4)) (v_iv (n_v vs 5)) (v_iv (n_v vs 6)) (v_iv (n_v vs 7)) (v_iv (n_v vs 8)) (w_ei ws (w_ar ws (n_v vs 0) 110)) (w_ei ws (w_ar ws (n_v vs 0) 111)) (w_ei ws (w_ar ws (n_v vs 0) 112)) (w_ei ws (w_ar ws (n_v vs 0) 102)) (w_ei ws (w_ar ws (n_v vs 0) 105)) (w_ei ws (w_ar ws (n_v vs 0) 108)) (w_ei ws (w_ar ws (n_v vs 0) 109)) (w_ei ws (w_ar ws (n_v vs 0) 115)) (w_fi ws (n_v vs 0) 100) (w_fi ws (n_v vs 0) 101) (w_fi ws (n_v vs 0) 107) (w_ei ws (w_ar ws (n_v vs 0) 114)) (w_ei ws (w_ar ws (n_v vs 0) 116)) k1 k2 k4 k5 k6 k7 k8 d0 d1 d2 d3 d4 d5 f0 f1 f2 f3 f4 f5 f6 f7 f8 f9 hK_0_102 hK_0_105 hK_0_108 hK_0_109 hK_0_110 hK_0_111 hK_0_112 hK_0_114 hK_0_115 hK_0_116 kz_0_100 kz_0_101 kz_0_107
  have nf1 : fc_1 PRD (20, [3, 4, 5, 8], [60, 1, 8, 475, 107, 105, 110, 112, 102, 108, 109, 115, 114]) ws (vs) := by
    refine ⟨nf_in hl rfl, sgq_757 ?_⟩
    · show WG1 (w_fi ws (n_v vs 3) 107) (w_ei ws (w_ar ws (n_v vs 3) 105)) (w_ei ws (w_ar ws (n_v vs 3) 110)) (w_ei ws (w_ar ws (n_v vs 3) 112)) (w_ei ws (w_ar ws (n_v vs 3) 102)) (w_ei ws (w_ar ws (n_v vs 3) 108)) (w_ei ws (w_ar ws (n_v vs 3) 109)) (w_ei ws (w_ar ws (n_v vs 3) 115)) (w_ei ws (w_ar ws (n_v vs 3) 114)) (v_iv (n_v vs 4)) (v_iv (n_v vs 5)) (v_iv (n_v vs 8))
      simp only [q3, q4, q5]
      exact vc_Mo_weigh_3_1 (v_iv (n_v vs 1)) (v_iv (n_v vs 2)) (v_iv (n_v vs 4)) (v_iv (n_v vs 5)) (v_iv (n_v vs 6)) (v_iv (n_v vs 7)) (v_iv (n_v vs 8)) (w_ei ws (w_ar ws (n_v vs 0) 110)) (w_ei ws (w_ar ws (n_v vs 0) 111)) (w_ei ws (w_ar ws (n_v vs 0) 112)) (w_ei ws (w_ar ws (n_v vs 0) 102)) (w_ei ws (w_ar ws (n_v vs 0) 105)) (w_ei ws (w_ar ws (n_v vs 0) 108)) (w_ei ws (w_ar ws (n_v vs 0) 109)) (w_ei ws (w_ar ws (n_v vs 0) 115)) (w_fi ws (n_v vs 0) 100) (w_fi ws (n_v vs 0) 101) (w_fi ws (n_v vs 0) 107) (w_ei ws (w_ar ws (n_v vs 0) 114)) (w_ei ws (w_ar ws (n_v vs 0) 116)) k1 k2 k4 k5 k6 k7 k8 d0 d1 d2 d3 d4 d5 f0 f1 f2 f3 f4 f5 f6 f7 f8 f9 hK_0_102 hK_0_105 hK_0_108 hK_0_109 hK_0_110 hK_0_111 hK_0_112 hK_0_114 hK_0_115 hK_0_116 kz_0_100 kz_0_101 kz_0_107
  have nf2 : fc_1 PRD (20, [8, 3], [50, 1, 0, 1107, 0, 2, 1, 0, 2, 1, 107]) ws (vs) := by
    refine ⟨nf_in hl rfl, sgq_758 ?_⟩
    · show v_iv (n_v vs 8) ≤ w_fi ws (n_v vs 3) 107
      rw [q3]
      exact vc_Mo_weigh_3_2 (v_iv (n_v vs 1)) (v_iv (n_v vs 2)) (v_iv (n_v vs 4)) (v_iv (n_v vs 5)) (v_iv (n_v vs 6)) (v_iv (n_v vs 7)) (v_iv (n_v vs 8)) (w_ei ws (w_ar ws (n_v vs 0) 110)) (w_ei ws (w_ar ws (n_v vs 0) 111)) (w_ei ws (w_ar ws (n_v vs 0) 112)) (w_ei ws (w_ar ws (n_v vs 0) 102)) (w_ei ws (w_ar ws (n_v vs 0) 105)) (w_ei ws (w_ar ws (n_v vs 0) 108)) (w_ei ws (w_ar ws (n_v vs 0) 109)) (w_ei ws (w_ar ws (n_v vs 0) 115)) (w_fi ws (n_v vs 0) 100) (w_fi ws (n_v vs 0) 101) (w_fi ws (n_v vs 0) 107) (w_ei ws (w_ar ws (n_v vs 0) 114)) (w_ei ws (w_ar ws (n_v vs 0) 116)) k1 k2 k4 k5 k6 k7 k8 d0 d1 d2 d3 d4 d5 f0 f1 f2 f3 f4 f5 f6 f7 f8 f9 hK_0_102 hK_0_105 hK_0_108 hK_0_109 hK_0_110 hK_0_111 hK_0_112 hK_0_114 hK_0_115 hK_0_116 kz_0_100 kz_0_101 kz_0_107
  refine ⟨(fun _ h => (by cases h)), [], trivial, ?_, (fun _ h => (by cases h))⟩
  rw [List.append_nil]
  exact List.forall_mem_cons.mpr ⟨⟨show (20 : Nat) < 100 from by decide, nf0⟩, List.forall_mem_cons.mpr ⟨⟨show (20 : Nat) < 100 from by decide, nf1⟩, List.forall_mem_cons.mpr ⟨⟨show (20 : Nat) < 100 from by decide, nf2⟩, (fun _ h => (by cases h))⟩⟩⟩
set_option maxHeartbeats 4000000 in
theorem vc_Mo_weigh_4_r0 (x1 : Int) (x2 : Int) (x4 : Int) (x5 : Int) (x6 : Int) (x7 : Int) (permBegin_0 : Int → Int) (permMany_0 : Int → Int) (perm_0 : Int → Int) (itemLayer_0 : Int → Int) (layerSize_0 : Int → Int) (lineA_0 : Int → Int) (lineB_0 : Int → Int) (listed_0 : Int → Int) (items_0 : Int) (layerMany_0 : Int) (lines_0 : Int) (worse_0 : Int → Int) (inOrder_0 : Int → Int) (k1 : 0 ≤ x1 ∧ x1 ≤ 75) (k2 : 0 ≤ x2 ∧ x2 ≤ 719) (k4 : 0 ≤ x4 ∧ x4 ≤ 75) (k5 : 0 ≤ x5 ∧ x5 ≤ 719) (k6 : 1 ≤ x6 ∧ x6 ≤ 76) (k7 : 0 ≤ x7 ∧ x7 ≤ 6) (d0 : x6 + (-4294967296) ≤ x7 ∧ x7 ≤ x6 + (-1)) (d1 : x4 + (-4294967296) ≤ x1 ∧ x1 ≤ x4 + 0) (d2 : x5 + (-4294967296) ≤ x2 ∧ x2 ≤ x5 + 0) (d3 : x1 + (-4294967296) ≤ x4 ∧ x4 ≤ x1 + 0) (d4 : x2 + (-4294967296) ≤ x5 ∧ x5 ≤ x2 + 0) (d5 : x6 + (-4294967296) ≤ x7 ∧ x7 ≤ x6 + 0) (f3 : x7 < x6) (f4 : PTB (permBegin_0) (permMany_0) (perm_0)) (f5 : LSG (items_0) (layerMany_0) (lines_0) (itemLayer_0) (layerSize_0) (lineA_0) (lineB_0) (listed_0)) (f6 : (0 ≤ x1) ∧ ((x1 + 1) ≤ layerMany_0)) (f7 : 0 ≤ x2) (f8 : (x2 + 1) ≤ permMany_0 (x6)) (f9 : x6 = layerSize_0 (x1)) (f10 : x6 ≤ 6) (f11 : WZF (worse_0)) (f12 : IOK (permBegin_0) (perm_0) (inOrder_0) (x6) (x2) (x7)) (hK_0_102 : ∀ j : Int, 0 ≤ j → j < 76 → 0 ≤ itemLayer_0 j ∧ itemLayer_0 j ≤ 75) (hK_0_105 : ∀ j : Int, 0 ≤ j → j < 76 → 0 ≤ layerSize_0 j ∧ layerSize_0 j ≤ 76) (hK_0_108 : ∀ j : Int, 0 ≤ j → j < 130 → 0 ≤ lineA_0 j ∧ lineA_0 j ≤ 75) (hK_0_109 : ∀ j : Int, 0 ≤ j → j < 130 → 0 ≤ lineB_0 j ∧ lineB_0 j ≤ 75) (hK_0_110 : ∀ j : Int, 0 ≤ j → j < 8 → 0 ≤ permBegin_0 j ∧ permBegin_0 j ≤ 5500) (hK_0_111 : ∀ j : Int, 0 ≤ j → j < 8 → 0 ≤ permMany_0 j ∧ permMany_0 j ≤ 720) (hK_0_112 : ∀ j : Int, 0 ≤ j → j < 6000 → 0 ≤ perm_0 j ∧ perm_0 j ≤ 5) (hK_0_114 : ∀ j : Int, 0 ≤ j → j < 36 → 0 ≤ worse_0 j ∧ worse_0 j ≤ 14400) (hK_0_115 : ∀ j : Int, 0 ≤ j → j < 76 → 0 ≤ listed_0 j ∧ listed_0 j ≤ 75) (hK_0_116 : ∀ j : Int, 0 ≤ j → j < 6 → 0 ≤ inOrder_0 j ∧ inOrder_0 j ≤ 5) (kz_0_100 : 0 ≤ items_0 ∧ items_0 ≤ 76) (kz_0_101 : 0 ≤ layerMany_0 ∧ layerMany_0 ≤ 76) (kz_0_107 : 0 ≤ lines_0 ∧ lines_0 ≤ 130) : 1 ≤ x6 ∧ x6 ≤ 6 := by
  omega
def o_Mo_weigh_4 : or_T := (53, 11, [(0, (2, 0, 0, [165])), (1, (0, 0, 75, [])), (2, (0, 0, 719, [])), (3, (2, 0, 0, [165])), (4, (0, 0, 75, [])), (5, (0, 0, 719, [])), (6, (0, 1, 76, [])), (7, (0, 0, 6, [])), (8, (2, 0, 0, [248])), (9, (2, 0, 0, [244])), (10, (2, 0, 0, [242]))], [(9, [10, 3], [110]), (9, [9, 3], [112]), (9, [8, 3], [116]), (7, [7, 6], [2]), (20, [3], [60, 0, 3, 367, 110, 111, 112]), (20, [3], [60, 3, 5, 474, 100, 101, 107, 102, 105, 108, 109, 115]), (20, [4, 3], [50, 1, 0, 1101, 2, 6, 0, 2, 0, 0, 1, 0, 0, 6, 4, 2, 1, 0, 0, 1, 2, 1, 101]), (20, [5], [50, 0, 0, 0, 2, 0, 0, 1, 0]), (20, [5, 3, 6], [50, 0, 1, 1111, 0, 6, 4, 2, 1, 0, 0, 1, 3, 1, 111, 1, 2]), (20, [6, 3, 4], [50, 0, 1, 1105, 1, 2, 1, 0, 3, 1, 105, 1, 2]), (20, [6], [50, 0, 0, 0, 2, 1, 0, 0, 6]), (20, [3], [60, 0, 1, 488, 114]), (20, [3, 6, 5, 7], [60, 0, 3, 472, 110, 112, 116]), (24, [0, 3], []), (24, [1, 4], []), (24, [2, 5], [])], [(6, (0, 1, 6, []))], [], [], [], [(7, 6, -4294967296, -1), (1, 4, -4294967296, 0), (2, 5, -4294967296, 0), (4, 1, -4294967296, 0), (5, 2, -4294967296, 0), (7, 6, -4294967296, 0)])
theorem oo_Mo_weigh_4 {kA : Nat → ClassId} : or_ok PRD kA GG o_Mo_weigh_4 := by
  refine or_mk fun A ta ws vs hD hth hl => ?_
  intro t0 r0 t1 k1 t2 k2 t3 r3 t4 k4 t5 k5 t6 k6 t7 k7 t8 r8 t9 r9 t10 r10 d0 d1 d2 d3 d4 d5 f0 f1 f2 f3 f4 f5 f6 f7 f8 f9 f10 f11 f12 f13 f14 f15
  replace f4 := shm_718 f4
  replace f5 := shm_751 f5
  replace f6 := shm_721 f6
  replace f7 := shm_722 f7
  replace f8 := shm_723 f8
  replace f9 := shm_724 f9
  replace f11 := shm_753 f11
  replace f12 := shm_754 f12
  replace f13 := shm_5 f13
  replace f14 := shm_5 f14
  replace f15 := shm_5 f15
  have q3 : n_v vs 3 = n_v vs 0 := f13.symm
  have q4 : n_v vs 4 = n_v vs 1 := f14.symm
  have q5 : n_v vs 5 = n_v vs 2 := f15.symm
  simp only [q3, q4, q5] at f4 f5 f6 f7 f8 f9 f11 f12
  have cr_0_102 := fdq_159 hD hth r0
  have cr_0_105 := fdq_122 hD hth r0
  have cr_0_108 := fdq_160 hD hth r0
  have cr_0_109 := fdq_161 hD hth r0
  have cr_0_110 := fdq_184 hD hth r0
  have cr_0_111 := fdq_185 hD hth r0
  have cr_0_112 := fdq_186 hD hth r0
  have cr_0_114 := fdq_193 hD hth r0
  have cr_0_115 := fdq_194 hD hth r0
  have cr_0_116 := fdq_195 hD hth r0
  have hK_0_102 := elq_91 hD hth cr_0_102
  have hK_0_105 := elq_65 hD hth cr_0_105
  have hK_0_108 := elq_92 hD hth cr_0_108
  have hK_0_109 := elq_93 hD hth cr_0_109
  have hK_0_110 := elq_110 hD hth cr_0_110
  have hK_0_111 := elq_111 hD hth cr_0_111
  have hK_0_112 := elq_112 hD hth cr_0_112
  have hK_0_114 := elq_116 hD hth cr_0_114
  have hK_0_115 := elq_117 hD hth cr_0_115
  have hK_0_116 := elq_118 hD hth cr_0_116
  have kz_0_100 := fdq_162 hD hth r0
  have kz_0_101 := fdq_125 hD hth r0
  have kz_0_107 := fdq_163 hD hth r0
  have hrf0 : 1 ≤ v_iv (n_v vs 6) ∧ v_iv (n_v vs 6) ≤ 6 := vc_Mo_weigh_4_r0 (v_iv (n_v vs 1)) (v_iv (n_v vs 2)) (v_iv (n_v vs 4)) (v_iv (n_v vs 5)) (v_iv (n_v vs 6)) (v_iv (n_v vs 7)) (w_ei ws (w_ar ws (n_v vs 0) 110)) (w_ei ws (w_ar ws (n_v vs 0) 111)) (w_ei ws (w_ar ws (n_v vs 0) 112)) (w_ei ws (w_ar ws (n_v vs 0) 102)) (w_ei ws (w_ar ws (n_v vs 0) 105)) (w_ei ws (w_ar ws (n_v vs 0) 108)) (w_ei ws (w_ar ws (n_v vs 0) 109)) (w_ei ws (w_ar ws (n_v vs 0) 115)) (w_fi ws (n_v vs 0) 100) (w_fi ws (n_v vs 0) 101) (w_fi ws (n_v vs 0) 107) (w_ei ws (w_ar ws (n_v vs 0) 114)) (w_ei ws (w_ar ws (n_v vs 0) 116)) k1 k2 k4 k5 k6 k7 d0 d1 d2 d3 d4 d5 (shm_6 f3) f4 f5 f6 f7 f8 f9 (shm_395 f10) f11 f12 hK_0_102 hK_0_105 hK_0_108 hK_0_109 hK_0_110 hK_0_111 hK_0_112 hK_0_114 hK_0_115 hK_0_116 kz_0_100 kz_0_101 kz_0_107
  have rf6 : tv_ok ta (0, 1, 6, []) (n_v vs 6) := tv_in t6 (by first | omega | grind) (by first | omega | grind)
  refine ⟨List.forall_mem_cons.mpr ⟨rf6, (fun _ h => (by cases h))⟩, [], trivial, ?_, (fun _ h => (by cases h))⟩
  rw [List.append_nil]
  exact (fun _ h => (by cases h))
set_option maxHeartbeats 4000000 in
theorem vc_Mo_weigh_5_r0 (x1 : Int) (x2 : Int) (x4 : Int) (x5 : Int) (x6 : Int) (x7 : Int) (x11 : Int) (x12 : Int) (x13 : Int) (x14 : Int) (permBegin_0 : Int → Int) (permMany_0 : Int → Int) (perm_0 : Int → Int) (itemLayer_0 : Int → Int) (layerSize_0 : Int → Int) (lineA_0 : Int → Int) (lineB_0 : Int → Int) (listed_0 : Int → Int) (items_0 : Int) (layerMany_0 : Int) (lines_0 : Int) (worse_0 : Int → Int) (inOrder_0 : Int → Int) (k1 : 0 ≤ x1 ∧ x1 ≤ 75) (k2 : 0 ≤ x2 ∧ x2 ≤ 719) (k4 : 0 ≤ x4 ∧ x4 ≤ 75) (k5 : 0 ≤ x5 ∧ x5 ≤ 719) (k6 : 1 ≤ x6 ∧ x6 ≤ 6) (k7 : 0 ≤ x7 ∧ x7 ≤ 6) (k11 : 0 ≤ x11 ∧ x11 ≤ 5500) (k12 : 0 ≤ x12 ∧ x12 ≤ 4314) (k13 : 0 ≤ x13 ∧ x13 ≤ 9814) (k14 : 0 ≤ x14 ∧ x14 ≤ 9820) (d0 : x7 + 0 ≤ x14 ∧ x14 ≤ x7 + 9814) (d1 : x6 + (-4294967296) ≤ x14 ∧ x14 ≤ x6 + 9813) (d2 : x6 + (-4294967296) ≤ x14 ∧ x14 ≤ x6 + 9814) (d3 : x13 + 0 ≤ x14 ∧ x14 ≤ x13 + 6) (d4 : x12 + 0 ≤ x14 ∧ x14 ≤ x12 + 5506) (d5 : x11 + 0 ≤ x14 ∧ x14 ≤ x11 + 4320) (d6 : x12 + 0 ≤ x13 ∧ x13 ≤ x12 + 5500) (d7 : x11 + 0 ≤ x13 ∧ x13 ≤ x11 + 4314) (d8 : x6 + (-4294967296) ≤ x7 ∧ x7 ≤ x6 + (-1)) (d9 : x4 + (-4294967296) ≤ x1 ∧ x1 ≤ x4 + 0) (d10 : x5 + (-4294967296) ≤ x2 ∧ x2 ≤ x5 + 0) (d11 : x1 + (-4294967296) ≤ x4 ∧ x4 ≤ x1 + 0) (d12 : x2 + (-4294967296) ≤ x5 ∧ x5 ≤ x2 + 0) (d13 : x6 + (-4294967296) ≤ x7 ∧ x7 ≤ x6 + 0) (f0 : x14 = x13 + x7) (f1 : x13 = x11 + x12) (f2 : x12 = x6 * x2) (h3 : x11 = permBegin_0 (x6)) (f7 : x7 < x6) (f8 : PTB (permBegin_0) (permMany_0) (perm_0)) (f9 : LSG (items_0) (layerMany_0) (lines_0) (itemLayer_0) (layerSize_0) (lineA_0) (lineB_0) (listed_0)) (f10 : (0 ≤ x1) ∧ ((x1 + 1) ≤ layerMany_0)) (f11 : 0 ≤ x2) (f12 : (x2 + 1) ≤ permMany_0 (x6)) (f13 : x6 = layerSize_0 (x1)) (f14 : x6 ≤ 6) (f15 : WZF (worse_0)) (f16 : IOK (permBegin_0) (perm_0) (inOrder_0) (x6) (x2) (x7)) (hK_0_102 : ∀ j : Int, 0 ≤ j → j < 76 → 0 ≤ itemLayer_0 j ∧ itemLayer_0 j ≤ 75) (hK_0_105 : ∀ j : Int, 0 ≤ j → j < 76 → 0 ≤ layerSize_0 j ∧ layerSize_0 j ≤ 76) (hK_0_108 : ∀ j : Int, 0 ≤ j → j < 130 → 0 ≤ lineA_0 j ∧ lineA_0 j ≤ 75) (hK_0_109 : ∀ j : Int, 0 ≤ j → j < 130 → 0 ≤ lineB_0 j ∧ lineB_0 j ≤ 75) (hK_0_110 : ∀ j : Int, 0 ≤ j → j < 8 → 0 ≤ permBegin_0 j ∧ permBegin_0 j ≤ 5500) (hK_0_111 : ∀ j : Int, 0 ≤ j → j < 8 → 0 ≤ permMany_0 j ∧ permMany_0 j ≤ 720) (hK_0_112 : ∀ j : Int, 0 ≤ j → j < 6000 → 0 ≤ perm_0 j ∧ perm_0 j ≤ 5) (hK_0_114 : ∀ j : Int, 0 ≤ j → j < 36 → 0 ≤ worse_0 j ∧ worse_0 j ≤ 14400) (hK_0_115 : ∀ j : Int, 0 ≤ j → j < 76 → 0 ≤ listed_0 j ∧ listed_0 j ≤ 75) (hK_0_116 : ∀ j : Int, 0 ≤ j → j < 6 → 0 ≤ inOrder_0 j ∧ inOrder_0 j ≤ 5) (kz_0_100 : 0 ≤ items_0 ∧ items_0 ≤ 76) (kz_0_101 : 0 ≤ layerMany_0 ∧ layerMany_0 ≤ 76) (kz_0_107 : 0 ≤ lines_0 ∧ lines_0 ≤ 130) : 0 ≤ x14 ∧ x14 ≤ 5999 := by
  have h := pwx_start (k := x2) (s := x6) ‹PTB _ _ _› (by omega) (by omega) (by omega) (by omega) (by assumption) (by assumption) (by assumption) x7 (by omega) (by omega)
  omega
def o_Mo_weigh_5 : or_T := (61, 15, [(0, (2, 0, 0, [165])), (1, (0, 0, 75, [])), (2, (0, 0, 719, [])), (3, (2, 0, 0, [165])), (4, (0, 0, 75, [])), (5, (0, 0, 719, [])), (6, (0, 1, 6, [])), (7, (0, 0, 6, [])), (8, (2, 0, 0, [248])), (9, (2, 0, 0, [244])), (10, (2, 0, 0, [242])), (11, (0, 0, 5500, [])), (12, (0, 0, 4314, [])), (13, (0, 0, 9814, [])), (14, (0, 0, 9820, []))], [(1, [14, 13, 7], []), (1, [13, 11, 12], []), (3, [12, 6, 5], []), (10, [11, 10, 6], []), (9, [10, 3], [110]), (9, [9, 3], [112]), (9, [8, 3], [116]), (7, [7, 6], [2]), (20, [3], [60, 0, 3, 367, 110, 111, 112]), (20, [3], [60, 3, 5, 474, 100, 101, 107, 102, 105, 108, 109, 115]), (20, [4, 3], [50, 1, 0, 1101, 2, 6, 0, 2, 0, 0, 1, 0, 0, 6, 4, 2, 1, 0, 0, 1, 2, 1, 101]), (20, [5], [50, 0, 0, 0, 2, 0, 0, 1, 0]), (20, [5, 3, 6], [50, 0, 1, 1111, 0, 6, 4, 2, 1, 0, 0, 1, 3, 1, 111, 1, 2]), (20, [6, 3, 4], [50, 0, 1, 1105, 1, 2, 1, 0, 3, 1, 105, 1, 2]), (20, [6], [50, 0, 0, 0, 2, 1, 0, 0, 6]), (20, [3], [60, 0, 1, 488, 114]), (20, [3, 6, 5, 7], [60, 0, 3, 472, 110, 112, 116]), (24, [0, 3], []), (24, [1, 4], []), (24, [2, 5], [])], [(14, (0, 0, 5999, []))], [], [], [], [(14, 7, 0, 9814), (14, 6, -4294967296, 9813), (14, 6, -4294967296, 9814), (14, 13, 0, 6), (14, 12, 0, 5506), (14, 11, 0, 4320), (13, 12, 0, 5500), (13, 11, 0, 4314), (7, 6, -4294967296, -1), (1, 4, -4294967296, 0), (2, 5, -4294967296, 0), (4, 1, -4294967296, 0), (5, 2, -4294967296, 0), (7, 6, -4294967296, 0)])
